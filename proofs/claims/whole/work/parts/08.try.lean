/-! probe, offer, move, open -/
section
variable {L c H B : Nat} {R D P Q : Nat → Nat} {al : Int32} {rel dead bb be fs tr td le held shut lo hi can : Nat → Int32} {fr : Nat → Prop}
theorem ej_xprobe {post : Int32 → SX → Prop} {x y : Int32} (hL : L ≤ 6) (hc : c ≤ 6) (hH : H < 64) (hR : ej_al 6 rel R) (hD : ej_al 6 dead D) (hfs : ej_FS fr fs)
    (kb : (∀ r d, x = nI r → y = nI d → r + L ≤ d → d ≤ 40 → False) → post (-1) (nI L, nI c, nI H, nI B, rel, dead, bb, be, fs, tr, td, le))
    (kf : ∀ r d i, x = nI r → y = nI d → r + L ≤ d → d ≤ 40 → i ≤ 6 → (∀ j, j < i → H.testBit j = true) → H.testBit i = false → c ≤ i → post (-2) (nI L, nI c, nI H, nI B, rel, dead, bb, be, fs, tr, td, le))
    (kr : ∀ r d i, x = nI r → y = nI d → r + L ≤ d → d ≤ 40 → (∀ j, j < i → H.testBit j = true) → H.testBit i = false → i < c → ¬ ej_G L fr (ej_nu R i r) (ej_nu D i d) 40 (H ||| 2 ^ i) → ∀ tr td le : Nat → Int32, post (-3) (nI L, nI c, nI H, nI B, rel, dead, bb, be, fs, tr, td, le))
    (kk : ∀ r d i, x = nI r → y = nI d → r + L ≤ d → d ≤ 40 → (∀ j, j < i → H.testBit j = true) → H.testBit i = false → i < c → ej_G L fr (ej_nu R i r) (ej_nu D i d) 40 (H ||| 2 ^ i) → ∀ tr td le : Nat → Int32, post (nI i) (nI L, nI c, nI H, nI B, rel, dead, bb, be, fs, tr, td, le)) : wpX_probe post (nI L, nI c, nI H, nI B, rel, dead, bb, be, fs, tr, td, le) x y := by
  unfold wpX_probe
  refine ej_xwin hL (fun r d e1 e2 h1 h2 => ?_) (fun h => br_t rfl (kb h))
  subst e1 e2
  refine br_f (by decide) (ej_xlf hH (fun i hi h3 h4 => ?_))
  refine pk_lt i c (fun z => ?_) (fun z => kf r d i rfl rfl h1 h2 hi h3 h4 z) rfl rfl (by omega) (by omega)
  have hi6 : i < 6 := by omega
  exact ej_xbes (by omega) h2 hL hH hR hD hfs (fun g tr td le => br_f (by decide) (kk r d i rfl rfl h1 h2 h3 h4 z ((ej_Gtry hH hi6 h4).mpr g) tr td le)) (fun g tr td le => br_t rfl (kr r d i rfl rfl h1 h2 h3 h4 z (fun g2 => g ((ej_Gtry hH hi6 h4).mp g2)) tr td le))
theorem ej_ypb {post : Int32 → SY → Prop} {x y : Int32} (hL : L ≤ 6) (h : ∀ r d, x = nI r → y = nI d → r + L ≤ d → d ≤ 40 → False) (k : post (-1) (nI L, nI c, al, held, rel, dead, shut, bb, be, lo, hi, can)) : wpY_probe post (nI L, nI c, al, held, rel, dead, shut, bb, be, lo, hi, can) x y := by
  unfold wpY_probe
  exact ej_ybw1 hL h (br_f (by decide) k)
theorem ej_ypf {post : Int32 → SY → Prop} {r d i : Nat} (hL : L ≤ 6) (hc : c ≤ 6) (hH : H < 64) (hHc : H < 2 ^ c) (hh : ej_hs 6 held H) (h1 : r + L ≤ d) (h2 : d ≤ 40) (hi6 : i ≤ 6) (h3 : ∀ j, j < i → H.testBit j = true) (h4 : H.testBit i = false) (hic : c ≤ i) (k : post (-2) (nI L, nI c, al, held, rel, dead, shut, bb, be, lo, hi, can)) : wpY_probe post (nI L, nI c, al, held, rel, dead, shut, bb, be, lo, hi, can) (nI r) (nI d) := by
  unfold wpY_probe
  exact ej_ybw0 hL h1 h2 (br_t rfl (ej_ylf hh hH hc hHc hi6 h3 h4 (fun z => absurd z (by omega)) (fun _ => br_t rfl k)))
theorem ej_ypg {post : Int32 → SY → Prop} {r d i : Nat} (hL1 : 1 ≤ L) (hL : L ≤ 6) (hc : c ≤ 6) (hH : H < 64) (hHc : H < 2 ^ c) (hh : ej_hs 6 held H) (hR : ej_al 6 rel R) (hD : ej_al 6 dead D) (hs : ej_hs 4 shut B) (hP : ej_al 4 bb P) (hQ : ej_al 4 be Q)
    (h1 : r + L ≤ d) (h2 : d ≤ 40) (h3 : ∀ j, j < i → H.testBit j = true) (h4 : H.testBit i = false) (hic : i < c)
    (k1 : ej_G L (ej_fr L B P Q) (ej_nu R i r) (ej_nu D i d) 40 (H ||| 2 ^ i) → ∀ (al : Int32) (lo hi can : Nat → Int32), post (nI i) (nI L, nI c, al, held, rel, dead, shut, bb, be, lo, hi, can))
    (k0 : ¬ ej_G L (ej_fr L B P Q) (ej_nu R i r) (ej_nu D i d) 40 (H ||| 2 ^ i) → ∀ (al : Int32) (lo hi can : Nat → Int32), post (-3) (nI L, nI c, al, held, rel, dead, shut, bb, be, lo, hi, can)) : wpY_probe post (nI L, nI c, al, held, rel, dead, shut, bb, be, lo, hi, can) (nI r) (nI d) := by
  unfold wpY_probe
  have hn6 : ¬ nI i = 6 := fun e => by have := (nI_eq (a := i) (b := 6) (by omega) (by omega)).mp e; omega
  refine ej_ybw0 hL h1 h2 (br_t rfl (ej_ylf hh hH hc hHc (by omega) h3 h4 (fun _ => br_f hn6 ?_) (fun z => absurd z (by omega))))
  refine ej_yask40 hH hh hR hD (fun lo hi w1 w2 => ej_ywin (by omega) ?_)
  exact ej_yfits (ej_orl (by omega) (by omega)) hL1 hL (ej_wnu (fun j hj hn hb => w1 j hj (by rw [ej_orn (Ne.symm hn)] at hb; exact hb)) (by omega)) (ej_wnu (fun j hj hn hb => w2 j hj (by rw [ej_orn (Ne.symm hn)] at hb; exact hb)) h2) hs hP hQ (fun g can => br_f (by decide) (k1 g _ _ _ can)) (fun g can => br_t rfl (k0 g _ _ _ can))
theorem i_vc_probe {k : Nat} {u : SX} {v : SY} (I : i_Rel k u v) (hk : k + 4 ≤ 2050) (v1 : Int32) (v2 : Int32) : wpX_probe (fun r u' => wpY_probe (fun r' v' => r' = r ∧ i_Rel (k + 4) u' v') v v1 v2) u v1 v2 := by
  obtain ⟨L, c, H, B, R, D, P, Q, al, rel, dead, bb, be, fs, tr, td, le, held, shut, lo, hi, can, rfl, rfl, hI⟩ := I
  have ⟨⟨hL1, hL, hc, hHc, hH, hB⟩, ⟨hR, hD, hP, hQ⟩, ⟨hfs, hh, hs⟩, hw, hG⟩ := hI
  refine ej_xprobe hL hc hH hR hD hfs (fun h => ?_) (fun r d i e1 e2 h1 h2 hi6 h3 h4 hic => ?_) (fun r d i e1 e2 h1 h2 h3 h4 hic g tr td le => ?_) (fun r d i e1 e2 h1 h2 h3 h4 hic g tr td le => ?_)
  · exact ej_ypb hL h ⟨rfl, ej_mk hI⟩
  · subst e1 e2
    exact ej_ypf hL hc hH hHc hh h1 h2 hi6 h3 h4 hic ⟨rfl, ej_mk hI⟩
  · subst e1 e2
    exact ej_ypg hL1 hL hc hH hHc hh hR hD hs hP hQ h1 h2 h3 h4 hic (fun g2 => absurd g2 g) (fun _ _ _ _ _ => ⟨rfl, ej_mk hI⟩)
  · subst e1 e2
    exact ej_ypg hL1 hL hc hH hHc hh hR hD hs hP hQ h1 h2 h3 h4 hic (fun _ _ _ _ _ => ⟨rfl, ej_mk hI⟩) (fun g2 => absurd g g2)
theorem ej_xset {post : SX → Prop} {id : Nat} {x y : Int32} (h6 : id < 6) (k : post (nI L, nI c, nI H, nI B, upd rel id x, upd dead id y, bb, be, fs, tr, td, le)) : wpX_setWindow post (nI L, nI c, nI H, nI B, rel, dead, bb, be, fs, tr, td, le) (nI id) x y := by
  unfold wpX_setWindow
  have h31 : id < 2 ^ 31 := by omega
  have hin : vp_in (nI id) 6 := vp_in_nI h6 (by omega)
  exact ⟨hin, nm_r (e' := upd rel id x) (by rw [nI_clamp h31]) ⟨hin, nm_r (e' := upd dead id y) (by rw [nI_clamp h31]) k⟩⟩
theorem i_vc_offer {k : Nat} {u : SX} {v : SY} (I : i_Rel k u v) (hk : k + 4 ≤ 2050) (v1 : Int32) (v2 : Int32) : wpX_offer (fun r u' => wpY_offer (fun r' v' => r' = r ∧ i_Rel (k + 4) u' v') v v1 v2) u v1 v2 := by
  obtain ⟨L, c, H, B, R, D, P, Q, al, rel, dead, bb, be, fs, tr, td, le, held, shut, lo, hi, can, rfl, rfl, hI⟩ := I
  have ⟨⟨hL1, hL, hc, hHc, hH, hB⟩, ⟨hR, hD, hP, hQ⟩, ⟨hfs, hh, hs⟩, hw, hG⟩ := hI
  unfold wpX_offer wpY_offer
  refine ej_xprobe hL hc hH hR hD hfs (fun h => ?_) (fun r d i e1 e2 h1 h2 hi6 h3 h4 hic => ?_) (fun r d i e1 e2 h1 h2 h3 h4 hic g tr td le => ?_) (fun r d i e1 e2 h1 h2 h3 h4 hic g tr td le => ?_)
  · exact br_t (by decide) (ej_ypb hL h (br_t (by decide) ⟨rfl, ej_mk hI⟩))
  · subst e1 e2
    exact br_t (by decide) (ej_ypf hL hc hH hHc hh h1 h2 hi6 h3 h4 hic (br_t (by decide) ⟨rfl, ej_mk hI⟩))
  · subst e1 e2
    exact br_t (by decide) (ej_ypg hL1 hL hc hH hHc hh hR hD hs hP hQ h1 h2 h3 h4 hic (fun g2 => absurd g2 g) (fun _ _ _ _ _ => br_t (by decide) ⟨rfl, ej_mk hI⟩))
  · subst e1 e2
    have h31 : i < 2 ^ 31 := by omega
    have hi6 : i < 6 := by omega
    have hin : vp_in (nI i) 6 := vp_in_nI hi6 (by omega)
    refine br_f (nI_pos h31) (ej_xset hi6 (nm_r (e' := nI (H ||| 2 ^ i)) (ej_or (by omega)) ?_))
    refine ej_ypg hL1 hL hc hH hHc hh hR hD hs hP hQ h1 h2 h3 h4 hic (fun _ al lo hi can => ?_) (fun g2 => absurd g g2)
    refine br_f (nI_pos h31) (br_f (nI_ge (b := 6) hi6 (by omega)) ⟨hin, nm_r (e' := upd held i 1) (by rw [nI_clamp h31, ej_vn1]) ⟨hin, nm_r (e' := upd rel i (nI r)) (by rw [nI_clamp h31]) ⟨hin, nm_r (e' := upd dead i (nI d)) (by rw [nI_clamp h31]) ⟨rfl, ej_mk (R := ej_nu R i r) (D := ej_nu D i d) (P := P) (Q := Q) ?_⟩⟩⟩⟩)
    refine ⟨⟨hL1, hL, hc, Nat.or_lt_two_pow hHc (Nat.pow_lt_pow_right (a := 2) (by decide) hic), ej_orl6 hH hi6, hB⟩, ⟨ej_alu hR (by omega), ej_alu hD h2, hP, hQ⟩, ⟨hfs, ej_hsor hh, hs⟩, fun j hj hjb => ?_, g⟩
    by_cases e : j = i
    · subst e; rw [ej_nus, ej_nus]; exact h1
    · rw [ej_nun e, ej_nun e]
      rw [ej_orn (Ne.symm e)] at hjb
      exact hw j hj hjb
theorem i_vc_move {k : Nat} {u : SX} {v : SY} (I : i_Rel k u v) (hk : k + 4 ≤ 2050) (v1 : Int32) (v2 : Int32) (v3 : Int32) : wpX_move (fun r u' => wpY_move (fun r' v' => r' = r ∧ i_Rel (k + 4) u' v') v v1 v2 v3) u v1 v2 v3 := by
  obtain ⟨L, c, H, B, R, D, P, Q, al, rel, dead, bb, be, fs, tr, td, le, held, shut, lo, hi, can, rfl, rfl, hI⟩ := I
  have ⟨⟨hL1, hL, hc, hHc, hH, hB⟩, ⟨hR, hD, hP, hQ⟩, ⟨hfs, hh, hs⟩, hw, hG⟩ := hI
  unfold wpX_move wpY_move
  refine ej_xhold hH (fun id h6 e hb => ?_) (fun hn => br_t rfl (ej_yth0 hh hn (br_t rfl ⟨rfl, ej_mk hI⟩)))
  subst e
  refine br_f (by decide) (ej_xwin hL (fun r d e1 e2 h1 h2 => ?_) (fun h => br_t rfl (ej_yth1 h6 hh hb (br_f (by decide) (ej_ybw1 hL h (br_f (by decide) ⟨rfl, ej_mk hI⟩))))))
  subst e1 e2
  have h31 : id < 2 ^ 31 := by omega
  have hin : vp_in (nI id) 6 := vp_in_nI h6 (by omega)
  have hin7 : vp_in (nI id) 7 := vp_in_nI (by omega) (by omega)
  refine br_f (by decide) (ej_xcpy (fun tr' td' t1 t2 => ⟨hin7, nm_r (e' := upd tr' id (nI r)) (by rw [nI_clamp h31]) ⟨hin7, nm_r (e' := upd td' id (nI d)) (by rw [nI_clamp h31]) ?_⟩⟩))
  refine ej_xfits (lo := ej_nu R id r) (hi := ej_nu D id d) (by omega) hL (ej_wnu (fun j _ _ hj => ?_) (by omega)) (ej_wnu (fun j _ _ hj => ?_) h2) hfs (fun g le' => br_f (by decide) (ej_xset h6 ?_)) (fun g le' => br_t rfl ?_)
  · rw [t1 j (ej_lt6 hH hj)]; exact hR j (ej_lt6 hH hj)
  · rw [t2 j (ej_lt6 hH hj)]; exact hD j (ej_lt6 hH hj)
  · refine ej_yth1 h6 hh hb (br_f (by decide) (ej_ybw0 hL h1 h2 (br_t rfl (ej_yask40 hH hh hR hD (fun lo hi w1 w2 => ej_ywinh h6 hb ?_)))))
    refine ej_yfits (f := ej_nu R id r) (g := ej_nu D id d) (by omega) hL1 hL (ej_wnu (fun j hj _ hjb => w1 j hj hjb) (by omega)) (ej_wnu (fun j hj _ hjb => w2 j hj hjb) h2) hs hP hQ (fun _ can => br_f (by decide) ⟨hin, nm_r (e' := upd rel id (nI r)) (by rw [nI_clamp h31]) ⟨hin, nm_r (e' := upd dead id (nI d)) (by rw [nI_clamp h31]) ⟨rfl, ej_mk (R := ej_nu R id r) (D := ej_nu D id d) (P := P) (Q := Q) ?_⟩⟩⟩) (fun g2 _ => absurd g g2)
    refine ⟨⟨hL1, hL, hc, hHc, hH, hB⟩, ⟨ej_alu hR (by omega), ej_alu hD h2, hP, hQ⟩, ⟨hfs, hh, hs⟩, fun j hj hjb => ?_, g⟩
    by_cases e : j = id
    · subst e; rw [ej_nus, ej_nus]; exact h1
    · rw [ej_nun e, ej_nun e]
      exact hw j hj hjb
  · refine ej_yth1 h6 hh hb (br_f (by decide) (ej_ybw0 hL h1 h2 (br_t rfl (ej_yask40 hH hh hR hD (fun lo hi w1 w2 => ej_ywinh h6 hb ?_)))))
    exact ej_yfits (f := ej_nu R id r) (g := ej_nu D id d) (by omega) hL1 hL (ej_wnu (fun j hj _ hjb => w1 j hj hjb) (by omega)) (ej_wnu (fun j hj _ hjb => w2 j hj hjb) h2) hs hP hQ (fun g2 _ => absurd g2 g) (fun _ can => br_t rfl ⟨rfl, ej_mk hI⟩)
theorem i_vc_open {k : Nat} {u : SX} {v : SY} (I : i_Rel k u v) (hk : k + 4 ≤ 2050) (v1 : Int32) : wpX_open (fun r u' => wpY_open (fun r' v' => r' = r ∧ i_Rel (k + 4) u' v') v v1) u v1 := by
  obtain ⟨L, c, H, B, R, D, P, Q, al, rel, dead, bb, be, fs, tr, td, le, held, shut, lo, hi, can, rfl, rfl, hI⟩ := I
  have ⟨⟨hL1, hL, hc, hHc, hH, hB⟩, ⟨hR, hD, hP, hQ⟩, ⟨hfs, hh, hs⟩, hw, hG⟩ := hI
  unfold wpX_open wpY_open
  refine br_c (fun z => br_t z ⟨rfl, ej_mk hI⟩) (fun z => ?_)
  obtain ⟨t, ht, rfl⟩ := nI_of z
  have e40 : (40 : Int32) - nI L = nI (40 - L) := pk_sub (a := 40) (by omega)
  refine pk_le t (40 - L) (fun z2 => ?_) (fun z2 => br_f z (pk_lt 40 t (fun _ => ⟨rfl, ej_mk hI⟩) (fun z3 => pk_le (t + L) 40 (fun z4 => absurd z4 (by omega)) (fun _ => ⟨rfl, ej_mk hI⟩) (nI_add _ _) rfl (by omega) (by omega)) rfl rfl (by omega) ht)) rfl e40 ht (by omega)
  have n40 : ¬ (40 : Int32) < nI t := nI_nlt (a := 40) (b := t) (by omega) (by omega)
  have l40 : nI t + nI L ≤ 40 := by rw [nI_add]; exact nI_le (b := 40) (by omega) (by omega)
  have g1 : ∀ {post : Int32 → SY → Prop}, (ej_G L (ej_fr L B P Q) (ej_nu R 6 t) (ej_nu D 6 (t + L)) 40 (H ||| 2 ^ 6) → ∀ (al : Int32) (lo hi can : Nat → Int32), post 1 (nI L, nI c, al, held, rel, dead, shut, bb, be, lo, hi, can)) → (¬ ej_G L (ej_fr L B P Q) (ej_nu R 6 t) (ej_nu D 6 (t + L)) 40 (H ||| 2 ^ 6) → ∀ (al : Int32) (lo hi can : Nat → Int32), post 0 (nI L, nI c, al, held, rel, dead, shut, bb, be, lo, hi, can)) → wpY_open post (nI L, nI c, al, held, rel, dead, shut, bb, be, lo, hi, can) (nI t) := by
    intro post k1 k0
    unfold wpY_open
    refine br_f z (br_f n40 (br_t l40 (ej_yask40 hH hh hR hD (fun lo hi w1 w2 => ej_ywin (j := 6) (by omega) ?_))))
    rw [nI_add]
    exact ej_yfits (ej_orl (by omega) (by omega)) hL1 hL (ej_wnu (fun j hj hn hb => w1 j hj (by rw [ej_orn (Ne.symm hn)] at hb; exact hb)) (by omega)) (ej_wnu (fun j hj hn hb => w2 j hj (by rw [ej_orn (Ne.symm hn)] at hb; exact hb)) (by omega)) hs hP hQ (fun g can => ⟨ej_nar1, k1 g _ _ _ can⟩) (fun g can => ⟨ej_nar0, k0 g _ _ _ can⟩)
  rw [nI_add]
  refine ej_xbes (by omega) (by omega) hL hH hR hD hfs (fun g tr td le => ⟨ej_nar1, ?_⟩) (fun g tr td le => ⟨ej_nar0, ?_⟩)
  · have h := g1 (post := fun r' v' => r' = 1 ∧ i_Rel (k + 4) (nI L, nI c, nI H, nI B, rel, dead, bb, be, fs, tr, td, le) v') (fun _ _ _ _ _ => ⟨rfl, ej_mk hI⟩) (fun g2 => absurd g g2)
    unfold wpY_open at h
    exact h
  · have h := g1 (post := fun r' v' => r' = 0 ∧ i_Rel (k + 4) (nI L, nI c, nI H, nI B, rel, dead, bb, be, fs, tr, td, le) v') (fun g2 => absurd g2 g) (fun _ _ _ _ _ => ⟨rfl, ej_mk hI⟩)
    unfold wpY_open at h
    exact h
end
