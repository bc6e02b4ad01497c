/-! the reference: windows asked for, guards, least free number -/
def ej_mn (d e : Nat) : Nat := if e ≤ d then e else d
section
variable {L c A B H : Nat} {held rel dead shut bb be lo hi can : Nat → Int32} {P Q f g R D : Nat → Nat} {fr : Nat → Prop}
theorem ej_modn {i : Nat} (h : H.testBit i = false) : H % 2 ^ (i + 1) = H % 2 ^ i := by
  apply Nat.eq_of_testBit_eq
  intro j
  rw [Nat.testBit_mod_two_pow, Nat.testBit_mod_two_pow]
  by_cases e : j = i
  · subst e; simp [h]
  · have : (j < i + 1) = (j < i) := by apply propext; omega
    simp only [this]
theorem ej_mods {i : Nat} (h : H.testBit i = true) : H % 2 ^ i ||| 2 ^ i = H % 2 ^ (i + 1) := by
  apply Nat.eq_of_testBit_eq
  intro j
  rw [ej_orb, Nat.testBit_mod_two_pow, Nat.testBit_mod_two_pow]
  by_cases e : j = i
  · subst e; simp [h]
  · have : (j < i + 1) = (j < i) := by apply propext; omega
    simp only [this, decide_eq_false (Ne.symm e), Bool.or_false]
theorem ej_yask0 {post : SY → Prop} {b e : Nat} (hb40 : b ≤ 40) (he40 : e ≤ 40) (hH : H < 64) (hh : ej_hs 6 held H) (hR : ej_al 6 rel R) (hD : ej_al 6 dead D)
    (k : ∀ lo hi : Nat → Int32, (∀ j, j < 6 → H.testBit j = true → lo j = nI (ej_mx (R j) b) ∧ hi j = nI (ej_mn (D j) e)) → post (nI L, nI c, nI H, held, rel, dead, shut, bb, be, lo, hi, can)) :
    ∀ d i, i + d = 6 → ∀ lo hi : Nat → Int32, (∀ j, j < i → H.testBit j = true → lo j = nI (ej_mx (R j) b) ∧ hi j = nI (ej_mn (D j) e)) → wY_ask_7 post (nI b) (nI e) (nI L) (nI c) (d + 1) (nI i) (nI (H % 2 ^ i)) held rel dead shut bb be lo hi can := by
  intro d
  induction d with
  | zero =>
    intro i hi' lo hi h
    obtain rfl : i = 6 := by omega
    rw [Nat.mod_eq_of_lt (show H < 2 ^ 6 from hH)]
    exact br_t (nI_le (a := 6) (b := 6) (by omega) (by omega)) (k lo hi h)
  | succ d ih =>
    intro i hi' lo hi h
    have h31 : i < 2 ^ 31 := by omega
    have h6 : i < 6 := by omega
    have hin : vp_in (nI i) 6 := vp_in_nI h6 (by omega)
    have hin7 : vp_in (nI i) 7 := vp_in_nI (by omega) (by omega)
    have u1 := hR i h6
    have u2 := hD i h6
    refine br_f (nI_ge (b := 6) (by omega) (by omega)) ⟨hin, ?_⟩
    by_cases hb : H.testBit i = true
    · refine br_f (by rw [nI_clamp h31, ej_hs1 hh h6 hb]; decide) (nm_r (e' := nI (H % 2 ^ (i + 1))) (by rw [ej_or (by omega), ej_mods hb]) ⟨hin, ?_⟩)
      have nx : ∀ r' d', r' = ej_mx (R i) b → d' = ej_mn (D i) e → wY_ask_7 post (nI b) (nI e) (nI L) (nI c) (d + 1) (nI (i + 1)) (nI (H % 2 ^ (i + 1))) held rel dead shut bb be (upd lo i (nI r')) (upd hi i (nI d')) can := by
        intro r' d' e1 e2
        refine ih (i + 1) (by omega) _ _ (fun j hj hjb => ?_)
        by_cases z : j = i
        · subst z; rw [pk_us, pk_us, e1, e2]; exact ⟨rfl, rfl⟩
        · rw [pk_un z, pk_un z]; exact h j (by omega) hjb
      have h59 : ∀ r', r' = ej_mx (R i) b → wY_ask_59 post (wY_ask_7 post (nI b) (nI e) (nI L) (nI c) (d + 1)) (nI b) (nI e) (nI i) (nI r') (nI i) (nI L) (nI c) (nI (H % 2 ^ (i + 1))) held rel dead shut bb be lo hi can := by
        intro r' e1
        unfold wY_ask_59
        refine ⟨hin7, nm_r (e' := upd lo i (nI r')) (by rw [nI_clamp h31]) ⟨hin, pk_le e (D i) (fun z => ⟨hin7, nm_r (e' := upd hi i (nI e)) (by rw [nI_clamp h31]) (nm_r (nI_1 i) ?_)⟩) (fun z => ⟨hin, hin7, nm_r (e' := upd hi i (nI (D i))) (by rw [nI_clamp h31, u2.1]) (nm_r (nI_1 i) ?_)⟩) rfl (by rw [nI_clamp h31]; exact u2.1) (by omega) (by omega)⟩⟩
        · exact nx r' e e1 (by unfold ej_mn; rw [if_pos z])
        · exact nx r' (D i) e1 (by unfold ej_mn; rw [if_neg (by omega)])
      refine pk_le (R i) b (fun z => ?_) (fun z => ⟨hin, ?_⟩) (by rw [nI_clamp h31]; exact u1.1) rfl (by omega) (by omega)
      · exact h59 b (by unfold ej_mx; rw [if_pos z])
      · rw [nI_clamp h31, u1.1]
        exact h59 (R i) (by unfold ej_mx; rw [if_neg (by omega)])
    · refine br_t (by rw [nI_clamp h31, ej_hs0 hh h6 (ej_nt hb)]) (nm_r (nI_1 i) ?_)
      rw [← ej_modn (ej_nt hb)]
      refine ih (i + 1) (by omega) lo hi (fun j hj hjb => h j ?_ hjb)
      have : j ≠ i := by rintro rfl; exact hb hjb
      omega
theorem ej_yask {post : SY → Prop} {al : Int32} {b e : Nat} (hb40 : b ≤ 40) (he40 : e ≤ 40) (hH : H < 64) (hh : ej_hs 6 held H) (hR : ej_al 6 rel R) (hD : ej_al 6 dead D)
    (k : ∀ lo hi : Nat → Int32, (∀ j, j < 6 → H.testBit j = true → lo j = nI (ej_mx (R j) b) ∧ hi j = nI (ej_mn (D j) e)) → post (nI L, nI c, nI H, held, rel, dead, shut, bb, be, lo, hi, can)) : wpY_ask post (nI L, nI c, al, held, rel, dead, shut, bb, be, lo, hi, can) (nI b) (nI e) := by
  unfold wpY_ask
  have h := ej_yask0 (L := L) (c := c) (shut := shut) (bb := bb) (be := be) (can := can) hb40 he40 hH hh hR hD k 6 0 rfl lo hi (fun j hj => absurd hj (by omega))
  rw [show H % 2 ^ 0 = 0 from Nat.mod_one H] at h
  exact ⟨7, h⟩
/-- ask(0, 40) -/
theorem ej_yask40 {post : SY → Prop} {al : Int32} (hH : H < 64) (hh : ej_hs 6 held H) (hR : ej_al 6 rel R) (hD : ej_al 6 dead D)
    (k : ∀ lo hi : Nat → Int32, ej_wn H lo R → ej_wn H hi D → post (nI L, nI c, nI H, held, rel, dead, shut, bb, be, lo, hi, can)) : wpY_ask post (nI L, nI c, al, held, rel, dead, shut, bb, be, lo, hi, can) 0 40 := by
  refine ej_yask (b := 0) (e := 40) (by omega) (by omega) hH hh hR hD (fun lo hi h => k lo hi (fun j hj hb => ?_) (fun j hj hb => ?_))
  · have h6 := ej_lt6 hH hb
    have e : ej_mx (R j) 0 = R j := by unfold ej_mx; split <;> omega
    rw [(h j h6 hb).1, e]
    exact ⟨rfl, (hR j h6).2⟩
  · have h6 := ej_lt6 hH hb
    have h7 := (hD j h6).2
    have e : ej_mn (D j) 40 = D j := by unfold ej_mn; split <;> omega
    rw [(h j h6 hb).2, e]
    exact ⟨rfl, h7⟩
/-- ask(0, e) -/
theorem ej_yaske {post : SY → Prop} {al : Int32} {e : Nat} (he : e ≤ 40) (hH : H < 64) (hh : ej_hs 6 held H) (hR : ej_al 6 rel R) (hD : ej_al 6 dead D)
    (k : ∀ lo hi : Nat → Int32, ej_wn H lo R → ej_wn H hi (fun j => if e ≤ D j then e else D j) → post (nI L, nI c, nI H, held, rel, dead, shut, bb, be, lo, hi, can)) : wpY_ask post (nI L, nI c, al, held, rel, dead, shut, bb, be, lo, hi, can) 0 (nI e) := by
  refine ej_yask (b := 0) (e := e) (by omega) he hH hh hR hD (fun lo hi h => k lo hi (fun j hj hb => ?_) (fun j hj hb => ?_))
  · have h6 := ej_lt6 hH hb
    have e : ej_mx (R j) 0 = R j := by unfold ej_mx; split <;> omega
    rw [(h j h6 hb).1, e]
    exact ⟨rfl, (hR j h6).2⟩
  · have h6 := ej_lt6 hH hb
    have h7 := (hD j h6).2
    refine ⟨(h j h6 hb).2, ?_⟩
    dsimp only
    split <;> omega
/-- ask(b, 40) -/
theorem ej_yaskb {post : SY → Prop} {al : Int32} {b : Nat} (hb40 : b ≤ 40) (hH : H < 64) (hh : ej_hs 6 held H) (hR : ej_al 6 rel R) (hD : ej_al 6 dead D)
    (k : ∀ lo hi : Nat → Int32, ej_wn H lo (fun j => ej_mx (R j) b) → ej_wn H hi D → post (nI L, nI c, nI H, held, rel, dead, shut, bb, be, lo, hi, can)) : wpY_ask post (nI L, nI c, al, held, rel, dead, shut, bb, be, lo, hi, can) (nI b) 40 := by
  refine ej_yask (b := b) (e := 40) hb40 (by omega) hH hh hR hD (fun lo hi h => k lo hi (fun j hj hb => ?_) (fun j hj hb => ?_))
  · have h6 := ej_lt6 hH hb
    have h7 := (hR j h6).2
    refine ⟨(h j h6 hb).1, ?_⟩
    dsimp only
    unfold ej_mx
    split <;> omega
  · have h6 := ej_lt6 hH hb
    have h7 := (hD j h6).2
    have e : ej_mn (D j) 40 = D j := by unfold ej_mn; split <;> omega
    rw [(h j h6 hb).2, e]
    exact ⟨rfl, h7⟩
theorem ej_ywin {post : SY → Prop} {j : Nat} {p1 p2 : Int32} (hj : j < 7) (k : post (nI L, nI c, nI (A ||| 2 ^ j), held, rel, dead, shut, bb, be, upd lo j p1, upd hi j p2, can)) : wpY_window post (nI L, nI c, nI A, held, rel, dead, shut, bb, be, lo, hi, can) (nI j) p1 p2 := by
  unfold wpY_window
  have hin7 : vp_in (nI j) 7 := vp_in_nI hj (by omega)
  have h31 : j < 2 ^ 31 := by omega
  exact nm_r (e' := nI (A ||| 2 ^ j)) (ej_or hj) ⟨hin7, nm_r (e' := upd lo j p1) (by rw [nI_clamp h31]) ⟨hin7, nm_r (e' := upd hi j p2) (by rw [nI_clamp h31]) k⟩⟩
theorem ej_orsame {j : Nat} (h : A.testBit j = true) : A ||| 2 ^ j = A := by
  apply Nat.eq_of_testBit_eq
  intro i
  rw [ej_orb]
  by_cases e : j = i
  · subst e; simp [h]
  · simp [e]
/-- window(id, s, s + len) for a held id -/
theorem ej_ywinh {post : SY → Prop} {id : Nat} {p1 p2 : Int32} (hj : id < 6) (hb : A.testBit id = true) (k : post (nI L, nI c, nI A, held, rel, dead, shut, bb, be, upd lo id p1, upd hi id p2, can)) : wpY_window post (nI L, nI c, nI A, held, rel, dead, shut, bb, be, lo, hi, can) (nI id) p1 p2 := by
  refine ej_ywin (by omega) ?_
  rw [ej_orsame hb]
  exact k
theorem ej_yth1 {post : Int32 → Prop} {al : Int32} {id : Nat} (h6 : id < 6) (hh : ej_hs 6 held H) (hb : H.testBit id = true) (k : post 1) : wpY_there post (nI L, nI c, al, held, rel, dead, shut, bb, be, lo, hi, can) (nI id) := by
  unfold wpY_there
  have h31 : id < 2 ^ 31 := by omega
  exact br_f (nI_pos h31) (br_f (nI_ge (b := 6) h6 (by omega)) ⟨vp_in_nI h6 (by omega), br_f (by rw [nI_clamp h31, ej_hs1 hh h6 hb]; decide) k⟩)
theorem ej_yth0 {post : Int32 → Prop} {al x : Int32} (hh : ej_hs 6 held H) (hb : ∀ id, id < 6 → x = nI id → H.testBit id = false) (k : post 0) : wpY_there post (nI L, nI c, al, held, rel, dead, shut, bb, be, lo, hi, can) x := by
  unfold wpY_there
  refine br_c (fun _ => k) (fun z => ?_)
  obtain ⟨j, hj, rfl⟩ := nI_of z
  exact pk_le 6 j (fun _ => k) (fun z2 => ⟨vp_in_nI z2 (by omega), br_t (by rw [nI_clamp hj, ej_hs0 hh z2 (hb j z2 rfl)]) k⟩) rfl rfl (by omega) hj
theorem ej_ybw0 {post : Int32 → Prop} {al : Int32} {r d : Nat} (hL : L ≤ 6) (h1 : r + L ≤ d) (h2 : d ≤ 40) (k : post 0) : wpY_badWindow post (nI L, nI c, al, held, rel, dead, shut, bb, be, lo, hi, can) (nI r) (nI d) := by
  unfold wpY_badWindow
  refine br_f (nI_pos (by omega)) (br_f (nI_nlt (a := 40) (b := d) (by omega) (by omega)) (br_f (nI_nlt (a := 40) (b := r) (by omega) (by omega)) (br_f (nI_pos (by omega)) (pk_le L (d - r) (fun _ => k) (fun z => absurd z (by omega)) rfl (pk_sub (by omega)) (by omega) (by omega)))))
theorem ej_ybw1 {post : Int32 → Prop} {al x y : Int32} (hL : L ≤ 6) (h : ∀ r d, x = nI r → y = nI d → r + L ≤ d → d ≤ 40 → False) (k : post 1) : wpY_badWindow post (nI L, nI c, al, held, rel, dead, shut, bb, be, lo, hi, can) x y := by
  unfold wpY_badWindow
  refine br_c (fun _ => k) (fun z => ?_)
  obtain ⟨r, hr, rfl⟩ := nI_of z
  refine br_c (fun _ => k) (fun z2 => br_c (fun _ => k) (fun z3 => br_c (fun _ => k) (fun z4 => br_c (fun z5 => ?_) (fun _ => k))))
  obtain ⟨d, hd, rfl⟩ := nI_of z4
  exfalso
  have q2 : d ≤ 40 := by
    rcases Nat.lt_or_ge 40 d with w | w
    · exact absurd (nI_lt (a := 40) (b := d) w hd) z2
    · exact w
  have q3 : r ≤ 40 := by
    rcases Nat.lt_or_ge 40 r with w | w
    · exact absurd (nI_lt (a := 40) (b := r) w hr) z3
    · exact w
  rw [Int32.le_iff_toInt_le, pk_sub_toInt (by omega) (by omega), nI_toInt (by omega)] at z5
  exact h r d rfl rfl (by omega) q2
/-! the least free number of a job -/
def ej_lf (H : Nat) : Nat → Nat → Nat → Nat × Nat
  | 0, l, n => (l, n)
  | m + 1, l, n => if H.testBit m = true then ej_lf H m l (n + 1) else ej_lf H m m n
theorem ej_ylf0 {post : Int32 → Prop} {al : Int32} (hh : ej_hs 6 held H) (hc : c ≤ 6) : ∀ m l n, m ≤ 6 → l ≤ 6 → n + m ≤ 6 → ((ej_lf H m l n).2 < c → post (nI (ej_lf H m l n).1)) → (c ≤ (ej_lf H m l n).2 → post 6) → wY_leastFree_7 post (nI L) (nI c) al held rel dead shut bb be lo hi can (m + 1) (nI l) (nI n) (nI m + (-1)) := by
  intro m
  induction m with
  | zero =>
    intro l n _ h1 h2 k1 k0
    exact br_t (by decide +kernel) (pk_lt n c k1 k0 rfl rfl (by omega) (by omega))
  | succ m ih =>
    intro l n hm h1 h2 k1 k0
    rw [pk_m1 m]
    have h31 : m < 2 ^ 31 := by omega
    refine br_f (nI_pos h31) ⟨vp_in_nI (by omega) (by omega), ?_⟩
    by_cases hb : H.testBit m = true
    · refine br_f (by rw [nI_clamp h31, ej_hs1 hh (by omega) hb]; decide) (nm_r (nI_1 n) (nm_e ?_))
      have e : ej_lf H (m + 1) l n = ej_lf H m l (n + 1) := by rw [ej_lf, if_pos hb]
      rw [e] at k1 k0
      exact ih l (n + 1) (by omega) h1 (by omega) k1 k0
    · refine br_t (by rw [nI_clamp h31, ej_hs0 hh (by omega) (ej_nt hb)]) (nm_e ?_)
      have e : ej_lf H (m + 1) l n = ej_lf H m m n := by rw [ej_lf, if_neg hb]
      rw [e] at k1 k0
      exact ih m n (by omega) (by omega) (by omega) k1 k0
def ej_lfb (H i c : Nat) : Bool := !((List.range i).all (fun j => H.testBit j)) || H.testBit i || (decide ((ej_lf H 6 6 0).1 = i) && (!(decide (H < 2 ^ c)) || (decide (i < c) == decide ((ej_lf H 6 6 0).2 < c))))
theorem ej_lfc : ∀ H, H < 64 → ∀ i, i < 7 → ∀ c, c < 7 → ej_lfb H i c = true := by decide +kernel
theorem ej_lfx {i : Nat} (hH : H < 64) (hi : i < 7) (hc : c < 7) (h1 : ∀ j, j < i → H.testBit j = true) (h2 : H.testBit i = false) (h3 : H < 2 ^ c) : (ej_lf H 6 6 0).1 = i ∧ (i < c ↔ (ej_lf H 6 6 0).2 < c) := by
  have h := ej_lfc H hH i hi c hc
  unfold ej_lfb at h
  have e1 : (List.range i).all (fun j => H.testBit j) = true := by
    rw [List.all_eq_true]
    intro j hj
    exact h1 j (List.mem_range.mp hj)
  rw [e1, h2, decide_eq_true h3] at h
  simp only [Bool.not_true, Bool.false_or, Bool.and_eq_true, decide_eq_true_eq, beq_iff_eq, decide_eq_decide] at h
  exact h
/-- one way, both sides: i is the least free number -/
theorem ej_ylf {post : Int32 → Prop} {al : Int32} {i : Nat} (hh : ej_hs 6 held H) (hH : H < 64) (hc : c ≤ 6) (hHc : H < 2 ^ c) (hi6 : i ≤ 6) (h1 : ∀ j, j < i → H.testBit j = true) (h2 : H.testBit i = false)
    (k1 : i < c → post (nI i)) (k0 : c ≤ i → post 6) : wpY_leastFree post (nI L, nI c, al, held, rel, dead, shut, bb, be, lo, hi, can) := by
  unfold wpY_leastFree
  obtain ⟨e, hx⟩ := ej_lfx (c := c) hH (show i < 7 by omega) (by omega) h1 h2 hHc
  have h := ej_ylf0 (L := L) (rel := rel) (dead := dead) (shut := shut) (bb := bb) (be := be) (lo := lo) (hi := hi) (can := can) (post := post) (al := al) hh hc 6 6 0 (by omega) (by omega) (by omega) (fun z => ?_) (fun z => ?_)
  · rw [pk_m1 5] at h
    exact ⟨7, h⟩
  · rw [e]
    exact k1 (hx.mpr z)
  · apply k0
    rcases Nat.lt_or_ge i c with w | w
    · have := hx.mp w; omega
    · exact w
end
