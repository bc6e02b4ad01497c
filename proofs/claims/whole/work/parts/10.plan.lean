/-! plannedStart: the jobs pinned one by one -/
theorem pk_least (P : Nat → Prop) (h : ∃ k, P k) : ∃ k, P k ∧ ∀ j, j < k → ¬ P j := by
  obtain ⟨k, hk⟩ := h
  induction k using Nat.strongRecOn with
  | ind k ih =>
    by_cases e : ∃ j, j < k ∧ P j
    · obtain ⟨j, hj, pj⟩ := e
      exact ih j hj pj
    · exact ⟨k, hk, fun j hj pj => e ⟨j, hj, pj⟩⟩
noncomputable def ej_lst (P : Nat → Prop) : Nat := Classical.epsilon (fun s => P s ∧ ∀ s', s' < s → ¬ P s')
theorem ej_lsts {P : Nat → Prop} (h : ∃ s, P s) : P (ej_lst P) ∧ ∀ s', s' < ej_lst P → ¬ P s' :=
  Classical.epsilon_spec (p := fun s => P s ∧ ∀ s', s' < s → ¬ P s') (pk_least P h)
theorem ej_lstu {P : Nat → Prop} {s : Nat} (h : P s) (hn : ∀ s', s' < s → ¬ P s') : s = ej_lst P := by
  obtain ⟨a, b⟩ := ej_lsts ⟨s, h⟩
  rcases Nat.lt_trichotomy s (ej_lst P) with z | z | z
  · exact absurd h (b s z)
  · exact z
  · exact absurd a (hn _ z)
def ej_pP (L H : Nat) (fr : Nat → Prop) (R lo hi : Nat → Nat) (i s : Nat) : Prop := R i ≤ s ∧ ej_G L fr (ej_nu lo i s) (ej_nu hi i (s + L)) 40 H
noncomputable def ej_pv (L H : Nat) (fr : Nat → Prop) (R : Nat → Nat) (w : (Nat → Nat) × (Nat → Nat)) (i : Nat) : Nat := ej_lst (ej_pP L H fr R w.1 w.2 i)
noncomputable def ej_ps (L H : Nat) (fr : Nat → Prop) (R D : Nat → Nat) : Nat → (Nat → Nat) × (Nat → Nat)
  | 0 => (R, D)
  | i + 1 => if H.testBit i = true then (ej_nu (ej_ps L H fr R D i).1 i (ej_pv L H fr R (ej_ps L H fr R D i) i), ej_nu (ej_ps L H fr R D i).2 i (ej_pv L H fr R (ej_ps L H fr R D i) i + L)) else ej_ps L H fr R D i
section
variable {L c H B : Nat} {R D P Q f g : Nat → Nat} {al : Int32} {rel dead bb be fs tr td le held shut lo hi can : Nat → Int32} {fr : Nat → Prop}
theorem ej_ps1 {i : Nat} (h : H.testBit i = true) : ej_ps L H fr R D (i + 1) = (ej_nu (ej_ps L H fr R D i).1 i (ej_pv L H fr R (ej_ps L H fr R D i) i), ej_nu (ej_ps L H fr R D i).2 i (ej_pv L H fr R (ej_ps L H fr R D i) i + L)) := by
  rw [ej_ps, if_pos h]
theorem ej_ps0 {i : Nat} (h : H.testBit i = false) : ej_ps L H fr R D (i + 1) = ej_ps L H fr R D i := by
  rw [ej_ps, if_neg (by rw [h]; decide)]
/-- windows w, in which i's is still its own, fit: so does i's least start -/
theorem ej_pvok {w : (Nat → Nat) × (Nat → Nat)} {i : Nat} (hb : H.testBit i = true) (hG : ej_G L fr w.1 w.2 40 H) (h1 : w.1 i = R i) (h2 : w.2 i = D i) :
    R i ≤ ej_pv L H fr R w i ∧ ej_pv L H fr R w i + L ≤ D i ∧ ej_G L fr (ej_nu w.1 i (ej_pv L H fr R w i)) (ej_nu w.2 i (ej_pv L H fr R w i + L)) 40 H ∧ ∀ s', R i ≤ s' → s' < ej_pv L H fr R w i → ¬ ej_G L fr (ej_nu w.1 i s') (ej_nu w.2 i (s' + L)) 40 H := by
  obtain ⟨s, a1, a2, a3⟩ := ej_Gpin hG hb
  rw [h1] at a1
  rw [h2] at a2
  have hp : ej_pP L H fr R w.1 w.2 i s := ⟨a1, a3⟩
  obtain ⟨⟨b1, b2⟩, b3⟩ := ej_lsts ⟨s, hp⟩
  refine ⟨b1, ?_, b2, fun s' q1 q2 q3 => b3 s' q2 ⟨q1, q3⟩⟩
  rcases Nat.lt_or_ge s (ej_pv L H fr R w i) with z | z
  · exact absurd hp (b3 s z)
  · omega
theorem ej_psok (hH : H < 64) (hR : ∀ j, j < 6 → R j ≤ 40) (hD : ∀ j, j < 6 → D j ≤ 40) (hG : ej_G L fr R D 40 H) : ∀ i, i ≤ 6 → ej_G L fr (ej_ps L H fr R D i).1 (ej_ps L H fr R D i).2 40 H ∧ (∀ j, i ≤ j → (ej_ps L H fr R D i).1 j = R j ∧ (ej_ps L H fr R D i).2 j = D j) ∧ (∀ j, j < 7 → H.testBit j = true → (ej_ps L H fr R D i).1 j ≤ 40 ∧ (ej_ps L H fr R D i).2 j ≤ 40) := by
  intro i
  induction i with
  | zero =>
    intro _
    refine ⟨hG, fun j _ => ⟨rfl, rfl⟩, fun j _ hb => ⟨hR j (ej_lt6 hH hb), hD j (ej_lt6 hH hb)⟩⟩
  | succ i ih =>
    intro hi6
    obtain ⟨a1, a2, a3⟩ := ih (by omega)
    by_cases hb : H.testBit i = true
    · have e2 := a2 i (Nat.le_refl _)
      obtain ⟨b1, b2, b3, b4⟩ := ej_pvok hb a1 e2.1 e2.2
      have := hD i (by omega)
      rw [ej_ps1 hb]
      refine ⟨b3, fun j hj => ?_, fun j hj hjb => ?_⟩
      · dsimp only
        rw [ej_nun (by omega), ej_nun (by omega)]
        exact a2 j (by omega)
      · dsimp only
        by_cases e : j = i
        · subst e
          rw [ej_nus, ej_nus]
          omega
        · rw [ej_nun e, ej_nun e]
          exact a3 j hj hjb
    · rw [ej_ps0 (ej_nt hb)]
      exact ⟨a1, fun j hj => a2 j (by omega), a3⟩
/-- what a step needs -/
theorem ej_psst {i : Nat} (hH : H < 64) (hR : ej_al 6 rel R) (hD : ej_al 6 dead D) (hG : ej_G L fr R D 40 H) (hi : i < 6) (hb : H.testBit i = true) :
    R i ≤ ej_pv L H fr R (ej_ps L H fr R D i) i ∧ ej_pv L H fr R (ej_ps L H fr R D i) i + L ≤ D i ∧ ej_G L fr (ej_nu (ej_ps L H fr R D i).1 i (ej_pv L H fr R (ej_ps L H fr R D i) i)) (ej_nu (ej_ps L H fr R D i).2 i (ej_pv L H fr R (ej_ps L H fr R D i) i + L)) 40 H ∧ ∀ s', R i ≤ s' → s' < ej_pv L H fr R (ej_ps L H fr R D i) i → ¬ ej_G L fr (ej_nu (ej_ps L H fr R D i).1 i s') (ej_nu (ej_ps L H fr R D i).2 i (s' + L)) 40 H := by
  obtain ⟨a1, a2, a3⟩ := ej_psok hH (fun j hj => (hR j hj).2) (fun j hj => (hD j hj).2) hG i (by omega)
  have e2 := a2 i (Nat.le_refl _)
  exact ej_pvok hb a1 e2.1 e2.2
theorem ej_xpl {post : Int32 → SX → Prop} {id : Nat} (h6 : id < 6) (hb : H.testBit id = true) (hL : L ≤ 6) (hH : H < 64) (hR : ej_al 6 rel R) (hD : ej_al 6 dead D) (hfs : ej_FS fr fs) (hw : ∀ j, j < 6 → H.testBit j = true → R j + L ≤ D j) (hG : ej_G L fr R D 40 H)
    (k : ∀ tr td le : Nat → Int32, post (nI (ej_pv L H fr R (ej_ps L H fr R D id) id)) (nI L, nI c, nI H, nI B, rel, dead, bb, be, fs, tr, td, le)) :
    ∀ n i, i + n = id → ∀ tr td le : Nat → Int32, ej_wn H tr (ej_ps L H fr R D i).1 → ej_wn H td (ej_ps L H fr R D i).2 → wX_plannedStart_16 post (nI id) (n + 1) (nI i) (nI L) (nI c) (nI H) (nI B) rel dead bb be fs tr td le := by
  intro n
  induction n with
  | zero =>
    intro i hi tr td le w1 w2
    obtain rfl : i = id := by omega
    obtain ⟨b1, b2, b3, b4⟩ := ej_psst hH hR hD hG h6 hb
    refine br_t (nI_le (Nat.le_refl _) (by omega)) (ej_xpe h6 hL hH (hR i h6) (hD i h6) (hw i h6 hb) (fun j hj _ hjb => w1 j hj hjb) (fun j hj _ hjb => w2 j hj hjb) hfs ⟨_, b1, b2, b3⟩ (fun s a1 a2 a3 a4 tr' td' le' _ _ _ _ => ?_))
    have e : s = ej_pv L H fr R (ej_ps L H fr R D i) i := ej_lstu (P := ej_pP L H fr R (ej_ps L H fr R D i).1 (ej_ps L H fr R D i).2 i) ⟨a1, a3⟩ (fun s' hs' hp => a4 s' hp.1 hs' hp.2)
    rw [e]
    exact k _ _ _
  | succ n ih =>
    intro i hi tr td le w1 w2
    have hi6 : i < 6 := by omega
    refine br_f (nI_ge (a := i) (b := id) (by omega) (by omega)) (ej_xhold hH (fun id' q1 q2 q3 => ?_) (fun hn => ?_))
    · have q4 := (nI_eq (a := i) (b := id') (by omega) (by omega)).mp q2
      rw [← q4] at q3
      obtain ⟨b1, b2, b3, b4⟩ := ej_psst hH hR hD hG hi6 q3
      have hdi := (hD i hi6).2
      refine br_f (by decide) (ej_xpe hi6 hL hH (hR i hi6) (hD i hi6) (hw i hi6 q3) (fun j hj _ hjb => w1 j hj hjb) (fun j hj _ hjb => w2 j hj hjb) hfs ⟨_, b1, b2, b3⟩ (fun s a1 a2 a3 a4 tr' td' le' t1 t2 t3 t4 => nm_r (nI_1 i) (ih (i + 1) (by omega) tr' td' le' ?_ ?_)))
      · have e : s = ej_pv L H fr R (ej_ps L H fr R D i) i := ej_lstu (P := ej_pP L H fr R (ej_ps L H fr R D i).1 (ej_ps L H fr R D i).2 i) ⟨a1, a3⟩ (fun s' hs' hp => a4 s' hp.1 hs' hp.2)
        rw [ej_ps1 q3, ← e]
        exact ej_wnp (fun j hj hn hjb => by rw [t1 j hn]; exact w1 j hj hjb) t3 (by omega)
      · have e : s = ej_pv L H fr R (ej_ps L H fr R D i) i := ej_lstu (P := ej_pP L H fr R (ej_ps L H fr R D i).1 (ej_ps L H fr R D i).2 i) ⟨a1, a3⟩ (fun s' hs' hp => a4 s' hp.1 hs' hp.2)
        rw [ej_ps1 q3, ← e]
        exact ej_wnp (fun j hj hn hjb => by rw [t2 j hn]; exact w2 j hj hjb) t4 (by omega)
    · refine br_t rfl (nm_r (nI_1 i) (ih (i + 1) (by omega) tr td le ?_ ?_))
      · rw [ej_ps0 (hn i hi6 rfl)]; exact w1
      · rw [ej_ps0 (hn i hi6 rfl)]; exact w2
theorem ej_ypl63 {post : Int32 → SY → Prop} {J21 : Int32 → Int32 → Int32 → Int32 → Int32 → (Nat → Int32) → (Nat → Int32) → (Nat → Int32) → (Nat → Int32) → (Nat → Int32) → (Nat → Int32) → (Nat → Int32) → (Nat → Int32) → (Nat → Int32) → Prop} {x1 : Int32} {j v r : Nat} {lo0 hi0 : Nat → Int32}
    (h6 : j < 6) (hb : H.testBit j = true) (hL1 : 1 ≤ L) (hL : L ≤ 6) (hH : H < 64) (hs : ej_hs 4 shut B) (hP : ej_al 4 bb P) (hQ : ej_al 4 be Q)
    (w1 : ∀ i, i < 7 → i ≠ j → H.testBit i = true → lo0 i = nI (f i) ∧ f i ≤ 40) (w2 : ∀ i, i < 7 → i ≠ j → H.testBit i = true → hi0 i = nI (g i) ∧ g i ≤ 40)
    (hv : v + L ≤ 40) (hG : ej_G L (ej_fr L B P Q) (ej_nu f j v) (ej_nu g j (v + L)) 40 H) (hno : ∀ s', r ≤ s' → s' < v → ¬ ej_G L (ej_fr L B P Q) (ej_nu f j s') (ej_nu g j (s' + L)) 40 H)
    (k : ∀ lo hi can : Nat → Int32, (∀ i, i ≠ j → lo i = lo0 i) → (∀ i, i ≠ j → hi i = hi0 i) → lo j = nI v → hi j = nI (v + L) → J21 (nI v) (nI (j + 1)) (nI L) (nI c) (nI H) held rel dead shut bb be lo hi can) :
    ∀ n s m, s + n = v → r ≤ s → m + n ≤ 39 → ∀ lo hi can : Nat → Int32, (∀ i, i ≠ j → lo i = lo0 i) → (∀ i, i ≠ j → hi i = hi0 i) → lo j = nI s → hi j = nI (s + L) → wY_plannedStart_63 post J21 x1 (nI j) (n + 1) (nI s) (nI m) (nI L) (nI c) (nI H) held rel dead shut bb be lo hi can := by
  intro n
  induction n with
  | zero =>
    intro s m hsn hrs hm lo hi can a1 a2 a3 a4
    obtain rfl : s = v := by omega
    exact br_f (nI_ge (b := 40) (by omega) (by omega)) (ej_yfits (by omega) hL1 hL (ej_wnp (fun i hi7 hn hjb => by rw [a1 i hn]; exact w1 i hi7 hn hjb) a3 (by omega)) (ej_wnp (fun i hi7 hn hjb => by rw [a2 i hn]; exact w2 i hi7 hn hjb) a4 (by omega)) hs hP hQ (fun _ can => br_f (by decide) (nm_r (nI_1 j) (k lo hi can a1 a2 a3 a4))) (fun g2 _ => absurd hG g2))
  | succ n ih =>
    intro s m hsn hrs hm lo hi can a1 a2 a3 a4
    refine br_f (nI_ge (b := 40) (by omega) (by omega)) (ej_yfits (by omega) hL1 hL (ej_wnp (fun i hi7 hn hjb => by rw [a1 i hn]; exact w1 i hi7 hn hjb) a3 (by omega)) (ej_wnp (fun i hi7 hn hjb => by rw [a2 i hn]; exact w2 i hi7 hn hjb) a4 (by omega)) hs hP hQ (fun g2 _ => absurd g2 (hno s hrs (by omega))) (fun g2 can => br_t rfl (nm_r (nI_1 s) ?_)))
    rw [nI_add]
    exact ej_ywinh h6 hb (nm_r (nI_1 m) (ih (s + 1) (m + 1) (by omega) (by omega) (by omega) _ _ can (fun i hi => by rw [pk_un hi]; exact a1 i hi) (fun i hi => by rw [pk_un hi]; exact a2 i hi) pk_us pk_us))
theorem ej_ypl {post : Int32 → SY → Prop} {id : Nat} (h6 : id < 6) (hb : H.testBit id = true) (hL1 : 1 ≤ L) (hL : L ≤ 6) (hH : H < 64) (hh : ej_hs 6 held H) (hR : ej_al 6 rel R) (hD : ej_al 6 dead D) (hs : ej_hs 4 shut B) (hP : ej_al 4 bb P) (hQ : ej_al 4 be Q) (hG : ej_G L (ej_fr L B P Q) R D 40 H)
    (k : ∀ lo hi can : Nat → Int32, post (nI (ej_pv L H (ej_fr L B P Q) R (ej_ps L H (ej_fr L B P Q) R D id) id)) (nI L, nI c, nI H, held, rel, dead, shut, bb, be, lo, hi, can)) :
    ∀ n j, j + n = id + 1 → ∀ (x2 : Int32) (lo hi can : Nat → Int32), (j = id + 1 → x2 = nI (ej_pv L H (ej_fr L B P Q) R (ej_ps L H (ej_fr L B P Q) R D id) id)) → ej_wn H lo (ej_ps L H (ej_fr L B P Q) R D j).1 → ej_wn H hi (ej_ps L H (ej_fr L B P Q) R D j).2 → wY_plannedStart_21 post (nI id) (n + 1) x2 (nI j) (nI L) (nI c) (nI H) held rel dead shut bb be lo hi can := by
  intro n
  induction n with
  | zero =>
    intro j hj x2 lo hi can hx w1 w2
    obtain rfl : j = id + 1 := by omega
    rw [hx rfl]
    exact br_t (nI_lt (by omega) (by omega)) (k lo hi can)
  | succ n ih =>
    intro j hj x2 lo hi can hx w1 w2
    have hj6 : j < 6 := by omega
    have h31 : j < 2 ^ 31 := by omega
    have hin : vp_in (nI j) 6 := vp_in_nI hj6 (by omega)
    refine br_f (nI_nlt (a := id) (b := j) (by omega) (by omega)) (br_f (nI_ge (b := 6) hj6 (by omega)) ⟨hin, ?_⟩)
    by_cases hjb : H.testBit j = true
    · obtain ⟨b1, b2, b3, b4⟩ := ej_psst hH hR hD hG hj6 hjb
      have hdj := (hD j hj6).2
      refine br_f (by rw [nI_clamp h31, ej_hs1 hh hj6 hjb]; decide) ⟨hin, nm_r (e' := nI (R j)) (by rw [nI_clamp h31]; exact (hR j hj6).1) ?_⟩
      rw [nI_add]
      refine ej_ywinh hj6 hjb ⟨ej_pv L H (ej_fr L B P Q) R (ej_ps L H (ej_fr L B P Q) R D j) j - R j + 1, ?_⟩
      refine ej_ypl63 (r := R j) (v := ej_pv L H (ej_fr L B P Q) R (ej_ps L H (ej_fr L B P Q) R D j) j) (lo0 := lo) (hi0 := hi) hj6 hjb hL1 hL hH hs hP hQ (fun i hi7 _ hib => w1 i hi7 hib) (fun i hi7 _ hib => w2 i hi7 hib) (by omega) b3 b4 (fun lo' hi' can' t1 t2 t3 t4 => ih (j + 1) (by omega) _ lo' hi' can' (fun e => ?_) ?_ ?_) (ej_pv L H (ej_fr L B P Q) R (ej_ps L H (ej_fr L B P Q) R D j) j - R j) (R j) 0 (by omega) (Nat.le_refl _) (by omega) _ _ can (fun i hi => pk_un hi) (fun i hi => pk_un hi) pk_us pk_us
      · obtain rfl : j = id := by omega
        rfl
      · rw [ej_ps1 hjb]
        exact ej_wnp (fun i hi7 hn hib => by rw [t1 i hn]; exact w1 i hi7 hib) t3 (by omega)
      · rw [ej_ps1 hjb]
        exact ej_wnp (fun i hi7 hn hib => by rw [t2 i hn]; exact w2 i hi7 hib) t4 (by omega)
    · refine br_t (by rw [nI_clamp h31, ej_hs0 hh hj6 (ej_nt hjb)]) (nm_r (nI_1 j) (ih (j + 1) (by omega) x2 lo hi can (fun e => ?_) ?_ ?_))
      · obtain rfl : j = id := by omega
        exact absurd hb hjb
      · rw [ej_ps0 (ej_nt hjb)]; exact w1
      · rw [ej_ps0 (ej_nt hjb)]; exact w2
theorem i_vc_plannedStart {k : Nat} {u : SX} {v : SY} (I : i_Rel k u v) (hk : k + 4 ≤ 2050) (v1 : Int32) : wpX_plannedStart (fun r u' => wpY_plannedStart (fun r' v' => r' = r ∧ i_Rel (k + 4) u' v') v v1) u v1 := by
  obtain ⟨L, c, H, B, R, D, P, Q, al, rel, dead, bb, be, fs, tr, td, le, held, shut, lo, hi, can, rfl, rfl, hI⟩ := I
  have ⟨⟨hL1, hL, hc, hHc, hH, hB⟩, ⟨hR, hD, hP, hQ⟩, ⟨hfs, hh, hs⟩, hw, hG⟩ := hI
  unfold wpX_plannedStart wpY_plannedStart
  refine ej_xhold hH (fun id h6 e hb => ?_) (fun hn => br_t rfl (ej_yth0 hh hn (br_t rfl ⟨rfl, ej_mk hI⟩)))
  subst e
  refine br_f (by decide) (ej_xcpy (fun tr' td' t1 t2 => ⟨id + 1, ej_xpl h6 hb hL hH hR hD hfs hw hG (fun tr2 td2 le2 => ?_) id 0 (by omega) tr' td' le (fun j _ hj => ?_) (fun j _ hj => ?_)⟩))
  · exact ej_yth1 h6 hh hb (br_f (by decide) (ej_yask40 hH hh hR hD (fun lo hi w1 w2 => ⟨id + 1 + 1, ej_ypl h6 hb hL1 hL hH hh hR hD hs hP hQ hG (fun _ _ _ => ⟨rfl, ej_mk hI⟩) (id + 1) 0 (by omega) (-1) lo hi can (fun e => by omega) w1 w2⟩)))
  · rw [t1 j (ej_lt6 hH hj)]; exact hR j (ej_lt6 hH hj)
  · rw [t2 j (ej_lt6 hH hj)]; exact hD j (ej_lt6 hH hj)
end
