/-! earliestEnd, latestBegin, earliestStart, latestStart -/
section
variable {L c H B : Nat} {R D P Q f g : Nat → Nat} {al : Int32} {rel dead bb be fs tr td le held shut lo hi can : Nat → Int32} {fr : Nat → Prop}
theorem ej_yee {post : Int32 → SY → Prop} {v : Nat} (hL1 : 1 ≤ L) (hL : L ≤ 6) (hH : H < 64) (hh : ej_hs 6 held H) (hR : ej_al 6 rel R) (hD : ej_al 6 dead D) (hs : ej_hs 4 shut B) (hP : ej_al 4 bb P) (hQ : ej_al 4 be Q)
    (hv : ej_le L (ej_fr L B P Q) R D H v) (hv40 : v ≤ 40) (k : ∀ (al : Int32) (lo hi can : Nat → Int32), post (nI v) (nI L, nI c, al, held, rel, dead, shut, bb, be, lo, hi, can)) :
    ∀ d e, e + d = v → ∀ (al : Int32) (lo hi can : Nat → Int32), wY_earliestEnd_2 post (d + 1) (nI e) (nI L) (nI c) al held rel dead shut bb be lo hi can := by
  intro d
  induction d with
  | zero =>
    intro e he al lo hi can
    obtain rfl : e = v := by omega
    refine br_f (nI_nlt (a := 40) (b := e) (by omega) (by omega)) (ej_yaske (by omega) hH hh hR hD (fun lo hi w1 w2 => ej_yfits (by omega) hL1 hL w1 w2 hs hP hQ (fun g can => br_f (by decide) (k _ _ _ can)) (fun g can => absurd ?_ g)))
    exact (ej_Gcut hv40).mpr ((hv.2 e hv40).mp (Nat.le_refl _))
  | succ d ih =>
    intro e he al lo hi can
    refine br_f (nI_nlt (a := 40) (b := e) (by omega) (by omega)) (ej_yaske (by omega) hH hh hR hD (fun lo hi w1 w2 => ej_yfits (by omega) hL1 hL w1 w2 hs hP hQ (fun g can => ?_) (fun g can => br_t rfl (nm_r (nI_1 e) (ih (e + 1) (by omega) _ _ _ can)))))
    have := (hv.2 e (by omega)).mpr ((ej_Gcut (by omega)).mp g)
    omega
theorem i_vc_earliestEnd {k : Nat} {u : SX} {v : SY} (I : i_Rel k u v) (hk : k + 4 ≤ 2050) : wpX_earliestEnd (fun r u' => wpY_earliestEnd (fun r' v' => r' = r ∧ i_Rel (k + 4) u' v') v) u := by
  obtain ⟨L, c, H, B, R, D, P, Q, al, rel, dead, bb, be, fs, tr, td, le, held, shut, lo, hi, can, rfl, rfl, hI⟩ := I
  have ⟨⟨hL1, hL, hc, hHc, hH, hB⟩, ⟨hR, hD, hP, hQ⟩, ⟨hfs, hh, hs⟩, hw, hG⟩ := hI
  unfold wpX_earliestEnd wpY_earliestEnd
  refine ej_xcpy (fun tr' td' t1 t2 => ej_xle (lo := R) (hi := D) (by omega) hL (fun j _ hj => ?_) (fun j _ hj => ?_) hfs (fun le v hv => ?_))
  · rw [t1 j (ej_lt6 hH hj)]; exact hR j (ej_lt6 hH hj)
  · rw [t2 j (ej_lt6 hH hj)]; exact hD j (ej_lt6 hH hj)
  · exact ⟨v + 1, ej_yee hL1 hL hH hh hR hD hs hP hQ hv ((hv.2 40 (Nat.le_refl _)).mpr hG) (fun _ _ _ _ => ⟨rfl, ej_mk hI⟩) v 0 (by omega) al lo hi can⟩
theorem ej_xlb {post : Int32 → SX → Prop} (hL : L ≤ 6) (hH : H < 64) (hR : ej_al 6 rel R) (hD : ej_al 6 dead D) (hfs : ej_FS fr fs) (h0 : ej_G L fr (fun j => ej_mx (R j) 0) D 40 H)
    (k : ∀ t, t ≤ 40 → ej_G L fr (fun j => ej_mx (R j) t) D 40 H → (∀ t', t < t' → t' ≤ 40 → ¬ ej_G L fr (fun j => ej_mx (R j) t') D 40 H) → ∀ tr td le : Nat → Int32, post (nI t) (nI L, nI c, nI H, nI B, rel, dead, bb, be, fs, tr, td, le)) :
    ∀ m, m ≤ 40 → (∀ t', m < t' → t' ≤ 40 → ¬ ej_G L fr (fun j => ej_mx (R j) t') D 40 H) → ∀ tr td le : Nat → Int32, wX_latestBegin_3 post (m + 1) (nI m) (nI L) (nI c) (nI H) (nI B) rel dead bb be fs tr td le := by
  intro m
  induction m with
  | zero =>
    intro _ hno tr td le
    exact br_t (nI_le (a := 0) (b := 0) (by omega) (by omega)) (k 0 (by omega) h0 hno tr td le)
  | succ i ih =>
    intro hm hno tr td le
    refine br_f (nI_nle (by omega) (by omega)) (ej_xcpy (fun tr' td' t1 t2 => ej_xdel (f := R) hm (fun j hj => by rw [t1 j hj]; exact hR j hj) (fun tr2 t3 => ?_)))
    refine ej_xfits (lo := fun j => ej_mx (R j) (i + 1)) (hi := D) (by omega) hL (fun j _ hj => ⟨t3 j (ej_lt6 hH hj), ?_⟩) (fun j _ hj => ?_) hfs (fun g le' => br_f (by decide) (k (i + 1) hm g hno _ _ le')) (fun g le' => br_t rfl (nm_r (pk_m1 i) (ih (by omega) (fun t' q1 q2 => ?_) _ _ le')))
    · have := (hR j (ej_lt6 hH hj)).2
      dsimp only
      unfold ej_mx
      split <;> omega
    · rw [t2 j (ej_lt6 hH hj)]; exact hD j (ej_lt6 hH hj)
    · by_cases e : t' = i + 1
      · subst e; exact g
      · exact hno t' (by omega) q2
theorem ej_ylb {post : Int32 → SY → Prop} {t : Nat} (hL1 : 1 ≤ L) (hL : L ≤ 6) (hH : H < 64) (hh : ej_hs 6 held H) (hR : ej_al 6 rel R) (hD : ej_al 6 dead D) (hs : ej_hs 4 shut B) (hP : ej_al 4 bb P) (hQ : ej_al 4 be Q)
    (hG : ej_G L (ej_fr L B P Q) (fun j => ej_mx (R j) t) D 40 H) (hno : ∀ t', t < t' → t' ≤ 40 → ¬ ej_G L (ej_fr L B P Q) (fun j => ej_mx (R j) t') D 40 H) (k : ∀ (al : Int32) (lo hi can : Nat → Int32), post (nI t) (nI L, nI c, al, held, rel, dead, shut, bb, be, lo, hi, can)) :
    ∀ d, t + d ≤ 40 → ∀ (al : Int32) (lo hi can : Nat → Int32), wY_latestBegin_3 post (d + 1) (nI (t + d)) (nI L) (nI c) al held rel dead shut bb be lo hi can := by
  intro d
  induction d with
  | zero =>
    intro ht al lo hi can
    exact br_f (nI_pos (by omega)) (ej_yaskb (by omega) hH hh hR hD (fun lo hi w1 w2 => ej_yfits (by omega) hL1 hL w1 w2 hs hP hQ (fun g can => br_f (by decide) (k _ _ _ can)) (fun g can => absurd hG g)))
  | succ d ih =>
    intro ht al lo hi can
    exact br_f (nI_pos (by omega)) (ej_yaskb (by omega) hH hh hR hD (fun lo hi w1 w2 => ej_yfits (by omega) hL1 hL w1 w2 hs hP hQ (fun g can => absurd g (hno (t + (d + 1)) (by omega) ht)) (fun g can => br_t rfl (nm_r (pk_m1 (t + d)) (ih (by omega) _ _ _ can)))))
theorem i_vc_latestBegin {k : Nat} {u : SX} {v : SY} (I : i_Rel k u v) (hk : k + 4 ≤ 2050) : wpX_latestBegin (fun r u' => wpY_latestBegin (fun r' v' => r' = r ∧ i_Rel (k + 4) u' v') v) u := by
  obtain ⟨L, c, H, B, R, D, P, Q, al, rel, dead, bb, be, fs, tr, td, le, held, shut, lo, hi, can, rfl, rfl, hI⟩ := I
  have ⟨⟨hL1, hL, hc, hHc, hH, hB⟩, ⟨hR, hD, hP, hQ⟩, ⟨hfs, hh, hs⟩, hw, hG⟩ := hI
  unfold wpX_latestBegin wpY_latestBegin
  have h0 : ej_G L (ej_fr L B P Q) (fun j => ej_mx (R j) 0) D 40 H := by
    refine ej_Gmono hG (fun _ h => h) (fun j _ _ => ⟨?_, Nat.le_refl _⟩)
    unfold ej_mx
    split <;> omega
  refine ⟨41, ej_xlb hL hH hR hD hfs h0 (fun t ht g hno tr td le => ?_) 40 (Nat.le_refl _) (fun t' q1 q2 => by omega) tr td le⟩
  have h := ej_ylb (L := L) (c := c) (post := fun r' v' => r' = nI t ∧ i_Rel (k + 4) (nI L, nI c, nI H, nI B, rel, dead, bb, be, fs, tr, td, le) v') hL1 hL hH hh hR hD hs hP hQ g hno (fun _ _ _ _ => ⟨rfl, ej_mk hI⟩) (40 - t) (by omega) al lo hi can
  rw [show t + (40 - t) = 40 by omega] at h
  exact ⟨40 - t + 1, h⟩
theorem ej_wnp {a : Nat → Int32} {j s : Nat} (w : ∀ i, i < 7 → i ≠ j → H.testBit i = true → a i = nI (f i) ∧ f i ≤ 40) (h : a j = nI s) (hs : s ≤ 40) : ej_wn H a (ej_nu f j s) := by
  intro i hi hb
  by_cases e : i = j
  · subst e; rw [ej_nus]; exact ⟨h, hs⟩
  · rw [ej_nun e]; exact w i hi e hb
theorem ej_yes {post : Int32 → SY → Prop} {id r d s0 : Nat} {lo0 hi0 : Nat → Int32} (h6 : id < 6) (hb : H.testBit id = true) (hL1 : 1 ≤ L) (hL : L ≤ 6) (hH : H < 64) (hd : dead id = nI d ∧ d ≤ 40) (hs : ej_hs 4 shut B) (hP : ej_al 4 bb P) (hQ : ej_al 4 be Q)
    (w1 : ∀ j, j < 7 → j ≠ id → H.testBit j = true → lo0 j = nI (f j) ∧ f j ≤ 40) (w2 : ∀ j, j < 7 → j ≠ id → H.testBit j = true → hi0 j = nI (g j) ∧ g j ≤ 40)
    (hs0 : s0 + L ≤ d) (hG : ej_G L (ej_fr L B P Q) (ej_nu f id s0) (ej_nu g id (s0 + L)) 40 H) (hno : ∀ s', r ≤ s' → s' < s0 → ¬ ej_G L (ej_fr L B P Q) (ej_nu f id s') (ej_nu g id (s' + L)) 40 H)
    (k : ∀ lo hi can : Nat → Int32, post (nI s0) (nI L, nI c, nI H, held, rel, dead, shut, bb, be, lo, hi, can)) :
    ∀ n s, s + n = s0 → r ≤ s → ∀ lo hi can : Nat → Int32, (∀ j, j ≠ id → lo j = lo0 j) → (∀ j, j ≠ id → hi j = hi0 j) → wY_earliestStart_24 post (nI id) (n + 1) (nI s) (nI L) (nI c) (nI H) held rel dead shut bb be lo hi can := by
  have h31 : id < 2 ^ 31 := by omega
  have hin : vp_in (nI id) 6 := vp_in_nI h6 (by omega)
  intro n
  induction n with
  | zero =>
    intro s hsn hrs lo hi can a1 a2
    obtain rfl : s = s0 := by omega
    refine ⟨hin, pk_lt d (s + L) (fun z => absurd z (by omega)) (fun _ => ?_) (by rw [nI_clamp h31]; exact hd.1) (nI_add _ _) (by omega) (by omega)⟩
    rw [nI_add]
    refine ej_ywinh h6 hb (ej_yfits (by omega) hL1 hL (ej_wnu (f := f) (fun j hj hn hjb => by rw [a1 j hn]; exact w1 j hj hn hjb) (by omega)) (ej_wnu (f := g) (fun j hj hn hjb => by rw [a2 j hn]; exact w2 j hj hn hjb) (by omega)) hs hP hQ (fun _ can => br_f (by decide) (k _ _ can)) (fun g2 can => absurd hG g2))
  | succ n ih =>
    intro s hsn hrs lo hi can a1 a2
    refine ⟨hin, pk_lt d (s + L) (fun z => absurd z (by omega)) (fun _ => ?_) (by rw [nI_clamp h31]; exact hd.1) (nI_add _ _) (by omega) (by omega)⟩
    rw [nI_add]
    refine ej_ywinh h6 hb (ej_yfits (by omega) hL1 hL (ej_wnu (f := f) (fun j hj hn hjb => by rw [a1 j hn]; exact w1 j hj hn hjb) (by omega)) (ej_wnu (f := g) (fun j hj hn hjb => by rw [a2 j hn]; exact w2 j hj hn hjb) (by omega)) hs hP hQ (fun g2 can => absurd g2 (hno s hrs (by omega))) (fun g2 can => br_t rfl (nm_r (nI_1 s) (ih (s + 1) (by omega) (by omega) _ _ can (fun j hj => by rw [pk_un hj]; exact a1 j hj) (fun j hj => by rw [pk_un hj]; exact a2 j hj)))))
theorem i_vc_earliestStart {k : Nat} {u : SX} {v : SY} (I : i_Rel k u v) (hk : k + 4 ≤ 2050) (v1 : Int32) : wpX_earliestStart (fun r u' => wpY_earliestStart (fun r' v' => r' = r ∧ i_Rel (k + 4) u' v') v v1) u v1 := by
  obtain ⟨L, c, H, B, R, D, P, Q, al, rel, dead, bb, be, fs, tr, td, le, held, shut, lo, hi, can, rfl, rfl, hI⟩ := I
  have ⟨⟨hL1, hL, hc, hHc, hH, hB⟩, ⟨hR, hD, hP, hQ⟩, ⟨hfs, hh, hs⟩, hw, hG⟩ := hI
  unfold wpX_earliestStart wpY_earliestStart
  refine ej_xhold hH (fun id h6 e hb => ?_) (fun hn => br_t rfl (ej_yth0 hh hn (br_t rfl ⟨rfl, ej_mk hI⟩)))
  subst e
  have h31 : id < 2 ^ 31 := by omega
  have hin : vp_in (nI id) 6 := vp_in_nI h6 (by omega)
  refine br_f (by decide) (ej_xcpy (fun tr' td' t1 t2 => ?_))
  refine ej_xpe (lo := R) (hi := D) h6 hL hH (hR id h6) (hD id h6) (hw id h6 hb) (fun j _ _ hj => ?_) (fun j _ _ hj => ?_) hfs (ej_Gpin hG hb) (fun s a1 a2 a3 a4 tr2 td2 le2 _ _ _ _ => ?_)
  · rw [t1 j (ej_lt6 hH hj)]; exact hR j (ej_lt6 hH hj)
  · rw [t2 j (ej_lt6 hH hj)]; exact hD j (ej_lt6 hH hj)
  · refine ej_yth1 h6 hh hb (br_f (by decide) (ej_yask40 hH hh hR hD (fun lo hi w1 w2 => ⟨hin, nm_r (e' := nI (R id)) (by rw [nI_clamp h31]; exact (hR id h6).1) ⟨s - R id + 1, ?_⟩⟩)))
    exact ej_yes (r := R id) h6 hb hL1 hL hH (hD id h6) hs hP hQ (fun j hj _ hjb => w1 j hj hjb) (fun j hj _ hjb => w2 j hj hjb) a2 a3 a4 (fun _ _ _ => ⟨rfl, ej_mk hI⟩) (s - R id) (R id) (by omega) (Nat.le_refl _) lo hi can (fun _ _ => rfl) (fun _ _ => rfl)
theorem ej_xls {post : Int32 → SX → Prop} {id r d : Nat} {tr0 td0 : Nat → Int32} (h6 : id < 6) (hL : L ≤ 6) (hH : H < 64) (hr : rel id = nI r ∧ r ≤ 40) (hd40 : d ≤ 40)
    (w1 : ∀ j, j < 7 → j ≠ id → H.testBit j = true → tr0 j = nI (f j) ∧ f j ≤ 40) (w2 : ∀ j, j < 7 → j ≠ id → H.testBit j = true → td0 j = nI (g j) ∧ g j ≤ 40) (hfs : ej_FS fr fs)
    (hex : ∃ s, r ≤ s ∧ s + L ≤ d ∧ ej_G L fr (ej_nu f id s) (ej_nu g id (s + L)) 40 H)
    (k : ∀ s, r ≤ s → s + L ≤ d → ej_G L fr (ej_nu f id s) (ej_nu g id (s + L)) 40 H → (∀ s', s < s' → s' + L ≤ d → ¬ ej_G L fr (ej_nu f id s') (ej_nu g id (s' + L)) 40 H) → ∀ tr td le : Nat → Int32, post (nI s) (nI L, nI c, nI H, nI B, rel, dead, bb, be, fs, tr, td, le)) :
    ∀ m, m + L ≤ d + 1 → (∀ s', m ≤ s' → s' + L ≤ d → ¬ ej_G L fr (ej_nu f id s') (ej_nu g id (s' + L)) 40 H) → ∀ tr td le : Nat → Int32, (∀ j, j ≠ id → tr j = tr0 j) → (∀ j, j ≠ id → td j = td0 j) → wX_latestStart_26 post (nI id) (m + 1) (nI m + (-1)) (nI L) (nI c) (nI H) (nI B) rel dead bb be fs tr td le := by
  have h31 : id < 2 ^ 31 := by omega
  have hin : vp_in (nI id) 6 := vp_in_nI h6 (by omega)
  obtain ⟨s0, b1, b2, b3⟩ := hex
  intro m
  induction m with
  | zero =>
    intro _ hno tr td le a1 a2
    exact absurd b3 (hno s0 (by omega) b2)
  | succ i ih =>
    intro hm hno tr td le a1 a2
    rw [pk_m1 i]
    refine ⟨hin, pk_lt i r (fun z => absurd b3 (hno s0 (by omega) b2)) (fun z => ?_) rfl (by rw [nI_clamp h31]; exact hr.1) (by omega) (by omega)⟩
    refine ej_xpin h6 hL (by omega) hH (fun j hj hn hb => by rw [a1 j hn]; exact w1 j hj hn hb) (fun j hj hn hb => by rw [a2 j hn]; exact w2 j hj hn hb) hfs (fun g2 le' => ?_) (fun g2 le' => ?_)
    · exact br_f (by decide) (k i z (by omega) g2 (fun s' q1 q2 => hno s' (by omega) q2) _ _ le')
    · refine br_t rfl (nm_e (ih (by omega) (fun s' q1 q2 => ?_) _ _ le' (fun j hj => by rw [pk_un hj]; exact a1 j hj) (fun j hj => by rw [pk_un hj]; exact a2 j hj)))
      by_cases e : s' = i
      · subst e; exact g2
      · exact hno s' (by omega) q2
theorem ej_yls {post : Int32 → SY → Prop} {id r d s0 : Nat} {lo0 hi0 : Nat → Int32} (h6 : id < 6) (hb : H.testBit id = true) (hL1 : 1 ≤ L) (hL : L ≤ 6) (hH : H < 64) (hr : rel id = nI r ∧ r ≤ 40) (hd40 : d ≤ 40) (hs : ej_hs 4 shut B) (hP : ej_al 4 bb P) (hQ : ej_al 4 be Q)
    (w1 : ∀ j, j < 7 → j ≠ id → H.testBit j = true → lo0 j = nI (f j) ∧ f j ≤ 40) (w2 : ∀ j, j < 7 → j ≠ id → H.testBit j = true → hi0 j = nI (g j) ∧ g j ≤ 40)
    (hs0 : r ≤ s0) (hG : ej_G L (ej_fr L B P Q) (ej_nu f id s0) (ej_nu g id (s0 + L)) 40 H) (hno : ∀ s', s0 < s' → s' + L ≤ d → ¬ ej_G L (ej_fr L B P Q) (ej_nu f id s') (ej_nu g id (s' + L)) 40 H)
    (k : ∀ lo hi can : Nat → Int32, post (nI s0) (nI L, nI c, nI H, held, rel, dead, shut, bb, be, lo, hi, can)) :
    ∀ n, s0 + n + L ≤ d → ∀ lo hi can : Nat → Int32, (∀ j, j ≠ id → lo j = lo0 j) → (∀ j, j ≠ id → hi j = hi0 j) → wY_latestStart_29 post (nI id) (n + 1) (nI (s0 + n)) (nI L) (nI c) (nI H) held rel dead shut bb be lo hi can := by
  have h31 : id < 2 ^ 31 := by omega
  have hin : vp_in (nI id) 6 := vp_in_nI h6 (by omega)
  intro n
  induction n with
  | zero =>
    intro hsn lo hi can a1 a2
    refine ⟨hin, pk_lt (s0 + 0) r (fun z => absurd z (by omega)) (fun _ => ?_) rfl (by rw [nI_clamp h31]; exact hr.1) (by omega) (by omega)⟩
    rw [nI_add]
    refine ej_ywinh h6 hb (ej_yfits (by omega) hL1 hL (ej_wnu (f := f) (fun j hj hn hjb => by rw [a1 j hn]; exact w1 j hj hn hjb) (by omega)) (ej_wnu (f := g) (fun j hj hn hjb => by rw [a2 j hn]; exact w2 j hj hn hjb) (by omega)) hs hP hQ (fun _ can => br_f (by decide) (k _ _ can)) (fun g2 can => absurd hG g2))
  | succ n ih =>
    intro hsn lo hi can a1 a2
    refine ⟨hin, pk_lt (s0 + (n + 1)) r (fun z => absurd z (by omega)) (fun _ => ?_) rfl (by rw [nI_clamp h31]; exact hr.1) (by omega) (by omega)⟩
    rw [nI_add]
    refine ej_ywinh h6 hb (ej_yfits (by omega) hL1 hL (ej_wnu (f := f) (fun j hj hn hjb => by rw [a1 j hn]; exact w1 j hj hn hjb) (by omega)) (ej_wnu (f := g) (fun j hj hn hjb => by rw [a2 j hn]; exact w2 j hj hn hjb) (by omega)) hs hP hQ (fun g2 can => absurd g2 (hno _ (by omega) (by omega))) (fun g2 can => br_t rfl (nm_r (pk_m1 (s0 + n)) (ih (by omega) _ _ can (fun j hj => by rw [pk_un hj]; exact a1 j hj) (fun j hj => by rw [pk_un hj]; exact a2 j hj)))))
theorem i_vc_latestStart {k : Nat} {u : SX} {v : SY} (I : i_Rel k u v) (hk : k + 4 ≤ 2050) (v1 : Int32) : wpX_latestStart (fun r u' => wpY_latestStart (fun r' v' => r' = r ∧ i_Rel (k + 4) u' v') v v1) u v1 := by
  obtain ⟨L, c, H, B, R, D, P, Q, al, rel, dead, bb, be, fs, tr, td, le, held, shut, lo, hi, can, rfl, rfl, hI⟩ := I
  have ⟨⟨hL1, hL, hc, hHc, hH, hB⟩, ⟨hR, hD, hP, hQ⟩, ⟨hfs, hh, hs⟩, hw, hG⟩ := hI
  unfold wpX_latestStart wpY_latestStart
  refine ej_xhold hH (fun id h6 e hb => ?_) (fun hn => br_t rfl (ej_yth0 hh hn (br_t rfl ⟨rfl, ej_mk hI⟩)))
  subst e
  have h31 : id < 2 ^ 31 := by omega
  have hin : vp_in (nI id) 6 := vp_in_nI h6 (by omega)
  have hwi := hw id h6 hb
  have hd := hD id h6
  have ed : dead (nI id).toNatClampNeg - nI L = nI (D id - L) := by rw [nI_clamp h31, hd.1, pk_sub (by omega)]
  refine br_f (by decide) (ej_xcpy (fun tr' td' t1 t2 => ⟨hin, nm_r ed ⟨D id - L + 1 + 1, ?_⟩⟩))
  rw [← pk_m1 (D id - L)]
  refine ej_xls (f := R) (g := D) (d := D id) h6 hL hH (hR id h6) hd.2 (fun j _ _ hj => ?_) (fun j _ _ hj => ?_) hfs (ej_Gpin hG hb) (fun s a1 a2 a3 a4 tr2 td2 le2 => ?_) (D id - L + 1) (by omega) (fun s' q1 q2 => by omega) tr' td' le (fun _ _ => rfl) (fun _ _ => rfl)
  · rw [t1 j (ej_lt6 hH hj)]; exact hR j (ej_lt6 hH hj)
  · rw [t2 j (ej_lt6 hH hj)]; exact hD j (ej_lt6 hH hj)
  · refine ej_yth1 h6 hh hb (br_f (by decide) (ej_yask40 hH hh hR hD (fun lo hi w1 w2 => ⟨hin, nm_r ed ⟨D id - L - s + 1, ?_⟩⟩)))
    have h := ej_yls (c := c) (f := R) (g := D) (d := D id) (lo0 := lo) (hi0 := hi) (held := held) (dead := dead) (post := fun r' v' => r' = nI s ∧ i_Rel (k + 4) (nI L, nI c, nI H, nI B, rel, dead, bb, be, fs, tr2, td2, le2) v') h6 hb hL1 hL hH (hR id h6) hd.2 hs hP hQ (fun j hj _ hjb => w1 j hj hjb) (fun j hj _ hjb => w2 j hj hjb) a1 a3 a4 (fun _ _ _ => ⟨rfl, ej_mk hI⟩) (D id - L - s) (by omega) lo hi can (fun _ _ => rfl) (fun _ _ => rfl)
    rw [show s + (D id - L - s) = D id - L by omega] at h
    exact h
end
