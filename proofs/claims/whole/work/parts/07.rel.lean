/-! the relation, and the methods without a search -/
def ej_St (L c H B : Nat) (R D P Q : Nat → Nat) (rel dead bb be fs held shut : Nat → Int32) : Prop :=
  (1 ≤ L ∧ L ≤ 6 ∧ c ≤ 6 ∧ H < 2 ^ c ∧ H < 64 ∧ B < 16) ∧ (ej_al 6 rel R ∧ ej_al 6 dead D ∧ ej_al 4 bb P ∧ ej_al 4 be Q) ∧ (ej_FS (ej_fr L B P Q) fs ∧ ej_hs 6 held H ∧ ej_hs 4 shut B) ∧ (∀ j, j < 6 → H.testBit j = true → R j + L ≤ D j) ∧ ej_G L (ej_fr L B P Q) R D 40 H
/-- both hold the same windows and blocks; the free starts are right; what is held fits -/
def i_Rel (k : Nat) (u : SX) (v : SY) : Prop := ∃ (L c H B : Nat) (R D P Q : Nat → Nat) (al : Int32) (rel dead bb be fs tr td le held shut lo hi can : Nat → Int32), u = (nI L, nI c, nI H, nI B, rel, dead, bb, be, fs, tr, td, le) ∧ v = (nI L, nI c, al, held, rel, dead, shut, bb, be, lo, hi, can) ∧ ej_St L c H B R D P Q rel dead bb be fs held shut
theorem i_up {k : Nat} {u : SX} {v : SY} (h : i_Rel k u v) : i_Rel (k + 4) u v := h
section
variable {L c H B : Nat} {R D P Q : Nat → Nat} {al : Int32} {rel dead bb be fs tr td le held shut lo hi can : Nat → Int32} {fr : Nat → Prop}
theorem ej_mk {k : Nat} (h : ej_St L c H B R D P Q rel dead bb be fs held shut) : i_Rel k (nI L, nI c, nI H, nI B, rel, dead, bb, be, fs, tr, td, le) (nI L, nI c, al, held, rel, dead, shut, bb, be, lo, hi, can) :=
  ⟨L, c, H, B, R, D, P, Q, al, rel, dead, bb, be, fs, tr, td, le, held, shut, lo, hi, can, rfl, rfl, h⟩
/-! the constructors -/
def ej_cl (x : Int32) : Nat := if 1 ≤ x then (if x ≤ 6 then x.toNatClampNeg else 6) else 1
theorem ej_cl_in {x : Int32} (h1 : 1 ≤ x) (h6 : x ≤ 6) : x = nI (ej_cl x) ∧ 1 ≤ ej_cl x ∧ ej_cl x ≤ 6 := by
  have h0 : ¬ x < 0 := by
    rw [Int32.lt_iff_toInt_lt]
    rw [Int32.le_iff_toInt_le] at h1
    have e1 : (1 : Int32).toInt = 1 := by decide
    have e0 : (0 : Int32).toInt = 0 := by decide
    omega
  obtain ⟨j, hj, rfl⟩ := nI_of h0
  have e : ej_cl (nI j) = j := by unfold ej_cl; rw [if_pos h1, if_pos h6, nI_clamp hj]
  have q1 : 1 ≤ j := (nI_leI (a := 1) (b := j) (by omega) hj).mp h1
  have q6 : j ≤ 6 := (nI_leI (a := j) (b := 6) hj (by omega)).mp h6
  rw [e]
  exact ⟨rfl, q1, q6⟩
theorem ej_clb (x : Int32) : 1 ≤ ej_cl x ∧ ej_cl x ≤ 6 := by
  by_cases h1 : 1 ≤ x
  · by_cases h6 : x ≤ 6
    · exact (ej_cl_in h1 h6).2
    · unfold ej_cl; rw [if_pos h1, if_neg h6]; omega
  · unfold ej_cl; rw [if_neg h1]; omega
theorem ej_xclamp {post : Int32 → Prop} {x : Int32} (k : post (nI (ej_cl x))) : wpX_clamp post x 6 := by
  unfold wpX_clamp
  refine br_c (fun h1 => br_c (fun h6 => ?_) (fun h6 => ?_)) (fun h1 => ?_)
  · rw [← (ej_cl_in h1 h6).1] at k; exact k
  · have e : ej_cl x = 6 := by unfold ej_cl; rw [if_pos h1, if_neg h6]
    rw [e] at k; exact k
  · have e : ej_cl x = 1 := by unfold ej_cl; rw [if_neg h1]
    rw [e] at k; exact k
theorem ej_yinit96 {post : SY → Prop} {x z0 y0 y1 : Int32} (k : post (z0, nI (ej_cl x), al, held, rel, dead, shut, bb, be, lo, hi, can)) : wY_init_96 post x z0 y0 y1 al held rel dead shut bb be lo hi can := by
  unfold wY_init_96
  refine br_c (fun h1 => br_c (fun h6 => ?_) (fun h6 => ?_)) (fun h1 => ?_)
  · rw [← (ej_cl_in h1 h6).1] at k; exact k
  · have e : ej_cl x = 6 := by unfold ej_cl; rw [if_pos h1, if_neg h6]
    rw [e] at k; exact k
  · have e : ej_cl x = 1 := by unfold ej_cl; rw [if_neg h1]
    rw [e] at k; exact k
theorem ej_yinit {post : SY → Prop} {x y : Int32} (k : post (nI (ej_cl x), nI (ej_cl y), 0, (fun _ => 0), (fun _ => 0), (fun _ => 0), (fun _ => 0), (fun _ => 0), (fun _ => 0), (fun _ => 0), (fun _ => 0), (fun _ => 0))) : wpY_init post x y := by
  unfold wpY_init
  refine br_c (fun h1 => br_c (fun h6 => ej_yinit96 ?_) (fun h6 => ej_yinit96 ?_)) (fun h1 => ej_yinit96 ?_)
  · rw [← (ej_cl_in h1 h6).1] at k; exact k
  · have e : ej_cl x = 6 := by unfold ej_cl; rw [if_pos h1, if_neg h6]
    rw [e] at k; exact k
  · have e : ej_cl x = 1 := by unfold ej_cl; rw [if_neg h1]
    rw [e] at k; exact k
theorem ej_al0 {n : Nat} : ej_al n (fun _ => 0) (fun _ => 0) := fun _ _ => ⟨rfl, Nat.zero_le _⟩
theorem ej_hs00 {n : Nat} : ej_hs n (fun _ => 0) 0 := fun j _ => by rw [Nat.zero_testBit]; rfl
theorem i_vc0 (k0 : Int32) (k1 : Int32) : wpX_init (fun u => wpY_init (fun v => i_Rel 2 u v) k0 k1) k0 k1 := by
  unfold wpX_init
  have b0 := ej_clb k0
  have b1 := ej_clb k1
  refine ej_xclamp (ej_xclamp ?_)
  refine ej_xffs (H := 0) (B := 0) (P := fun _ => 0) (Q := fun _ => 0) (by omega) ej_al0 ej_al0 b0.2 (fun fs' hfs => ej_yinit ?_)
  exact ej_mk (H := 0) (B := 0) (R := fun _ => 0) (D := fun _ => 0) (P := fun _ => 0) (Q := fun _ => 0) ⟨⟨b0.1, b0.2, b1.2, Nat.two_pow_pos _, by omega, by omega⟩, ⟨ej_al0, ej_al0, ej_al0, ej_al0⟩, ⟨hfs, ej_hs00, ej_hs00⟩, fun j _ hj => absurd hj (by rw [Nat.zero_testBit]; decide), ej_Gup ej_G0 (by omega)⟩
/-! answers that ask nothing -/
theorem i_vc_jobs {k : Nat} {u : SX} {v : SY} (I : i_Rel k u v) (hk : k + 4 ≤ 2050) : wpX_jobs (fun r => wpY_jobs (fun r' v' => r' = r ∧ i_Rel (k + 4) u v') v) u := by
  obtain ⟨L, c, H, B, R, D, P, Q, al, rel, dead, bb, be, fs, tr, td, le, held, shut, lo, hi, can, rfl, rfl, hI⟩ := I
  have ⟨⟨hL1, hL, hc, hHc, hH, hB⟩, ⟨hR, hD, hP, hQ⟩, ⟨hfs, hh, hs⟩, hw, hG⟩ := hI
  unfold wpX_jobs wpY_jobs
  exact ej_yask40 hH hh hR hD (fun lo hi _ _ => ⟨rfl, ej_mk hI⟩)
theorem i_vc_release {k : Nat} {u : SX} {v : SY} (I : i_Rel k u v) (hk : k + 4 ≤ 2050) (v1 : Int32) : wpX_release (fun r => wpY_release (fun r' => r' = r ∧ i_Rel (k + 4) u v) v v1) u v1 := by
  obtain ⟨L, c, H, B, R, D, P, Q, al, rel, dead, bb, be, fs, tr, td, le, held, shut, lo, hi, can, rfl, rfl, hI⟩ := I
  have ⟨⟨hL1, hL, hc, hHc, hH, hB⟩, ⟨hR, hD, hP, hQ⟩, ⟨hfs, hh, hs⟩, hw, hG⟩ := hI
  unfold wpX_release wpY_release
  refine ej_xhold hH (fun id h6 e hb => ?_) (fun hn => ?_)
  · subst e
    have hin : vp_in (nI id) 6 := vp_in_nI h6 (by omega)
    exact br_f (by decide) ⟨hin, ej_yth1 h6 hh hb (br_f (by decide) ⟨hin, rfl, ej_mk hI⟩)⟩
  · exact br_t rfl (ej_yth0 hh hn (br_t rfl ⟨rfl, ej_mk hI⟩))
theorem i_vc_deadline {k : Nat} {u : SX} {v : SY} (I : i_Rel k u v) (hk : k + 4 ≤ 2050) (v1 : Int32) : wpX_deadline (fun r => wpY_deadline (fun r' => r' = r ∧ i_Rel (k + 4) u v) v v1) u v1 := by
  obtain ⟨L, c, H, B, R, D, P, Q, al, rel, dead, bb, be, fs, tr, td, le, held, shut, lo, hi, can, rfl, rfl, hI⟩ := I
  have ⟨⟨hL1, hL, hc, hHc, hH, hB⟩, ⟨hR, hD, hP, hQ⟩, ⟨hfs, hh, hs⟩, hw, hG⟩ := hI
  unfold wpX_deadline wpY_deadline
  refine ej_xhold hH (fun id h6 e hb => ?_) (fun hn => ?_)
  · subst e
    have hin : vp_in (nI id) 6 := vp_in_nI h6 (by omega)
    exact br_f (by decide) ⟨hin, ej_yth1 h6 hh hb (br_f (by decide) ⟨hin, rfl, ej_mk hI⟩)⟩
  · exact br_t rfl (ej_yth0 hh hn (br_t rfl ⟨rfl, ej_mk hI⟩))
theorem ej_rmsub {S j : Nat} (h : S < 128) : ej_sub (ej_rm S j) S := ej_subrm h (fun _ h => h) j
theorem i_vc_withdraw {k : Nat} {u : SX} {v : SY} (I : i_Rel k u v) (hk : k + 4 ≤ 2050) (v1 : Int32) : wpX_withdraw (fun r u' => wpY_withdraw (fun r' v' => r' = r ∧ i_Rel (k + 4) u' v') v v1) u v1 := by
  obtain ⟨L, c, H, B, R, D, P, Q, al, rel, dead, bb, be, fs, tr, td, le, held, shut, lo, hi, can, rfl, rfl, hI⟩ := I
  have ⟨⟨hL1, hL, hc, hHc, hH, hB⟩, ⟨hR, hD, hP, hQ⟩, ⟨hfs, hh, hs⟩, hw, hG⟩ := hI
  unfold wpX_withdraw wpY_withdraw
  refine ej_xhold hH (fun id h6 e hb => ?_) (fun hn => ?_)
  · subst e
    have h31 : id < 2 ^ 31 := by omega
    refine br_f (by decide) (nm_r (e' := nI (ej_rm H id)) (ej_rmI (by omega)) ?_)
    refine ej_yth1 h6 hh hb (br_f (by decide) ⟨vp_in_nI h6 (by omega), nm_r (e' := upd held id 0) (by rw [nI_clamp h31, ej_vn0]) ⟨rfl, ej_mk (R := R) (D := D) (P := P) (Q := Q) ?_⟩⟩)
    have hle := ej_rmle H id
    exact ⟨⟨hL1, hL, hc, by omega, by omega, hB⟩, ⟨hR, hD, hP, hQ⟩, ⟨hfs, ej_hsrm (by omega) hh, hs⟩, fun j hj hjb => hw j hj (ej_rmsub (by omega) j hjb), ej_Grm id hG⟩
  · exact br_t rfl (ej_yth0 hh hn (br_t rfl ⟨rfl, ej_mk hI⟩))
/-! blocks -/
theorem ej_xrmb {post : SX → Prop} {k : Nat} (hk : k < 4) (hB : ej_rm B k < 16) (hP : ej_al 4 bb P) (hQ : ej_al 4 be Q) (hL : L ≤ 6)
    (kk : ∀ fs : Nat → Int32, ej_FS (ej_fr L (ej_rm B k) P Q) fs → post (nI L, nI c, nI H, nI (ej_rm B k), rel, dead, bb, be, fs, tr, td, le)) : wpX_removeBlock post (nI L, nI c, nI H, nI B, rel, dead, bb, be, fs, tr, td, le) (nI k) := by
  unfold wpX_removeBlock
  refine nm_r (e' := nI (ej_rm B k)) (ej_rmI (by omega)) ?_
  exact ej_xffs hB hP hQ hL kk
theorem i_vc_unblock {k : Nat} {u : SX} {v : SY} (I : i_Rel k u v) (hk : k + 4 ≤ 2050) (v1 : Int32) : wpX_unblock (fun r u' => wpY_unblock (fun r' v' => r' = r ∧ i_Rel (k + 4) u' v') v v1) u v1 := by
  obtain ⟨L, c, H, B, R, D, P, Q, al, rel, dead, bb, be, fs, tr, td, le, held, shut, lo, hi, can, rfl, rfl, hI⟩ := I
  have ⟨⟨hL1, hL, hc, hHc, hH, hB⟩, ⟨hR, hD, hP, hQ⟩, ⟨hfs, hh, hs⟩, hw, hG⟩ := hI
  unfold wpX_unblock wpY_unblock
  refine br_c (fun z => br_t z ⟨rfl, ej_mk hI⟩) (fun z => ?_)
  obtain ⟨i, hi', rfl⟩ := nI_of z
  refine pk_le 4 i (fun z2 => br_f z (br_t (nI_le (a := 4) (b := i) z2 hi') ⟨rfl, ej_mk hI⟩)) (fun z2 => ?_) rfl rfl (by omega) hi'
  have n4 : ¬ (4 : Int32) ≤ nI i := nI_ge (b := 4) z2 (by omega)
  have hin : vp_in (nI i) 4 := vp_in_nI z2 (by omega)
  refine ej_xcon (by omega) (by omega) (fun hb => ?_) (fun hb => ?_)
  · have hle := ej_rmle B i
    refine br_f (by decide) (ej_xrmb z2 (by omega) hP hQ hL (fun fs' hfs' => ?_))
    refine br_f z (br_f n4 ⟨hin, br_f (by rw [nI_clamp hi', ej_hs1 hs z2 hb]; decide) ⟨hin, nm_r (e' := upd shut i 0) (by rw [nI_clamp hi', ej_vn0]) ⟨rfl, ej_mk (R := R) (D := D) (P := P) (Q := Q) ?_⟩⟩⟩)
    exact ⟨⟨hL1, hL, hc, hHc, hH, by omega⟩, ⟨hR, hD, hP, hQ⟩, ⟨hfs', hh, ej_hsrm (by omega) hs⟩, hw, ej_Gmono hG (fun t ht q hq hqb => ht q hq (ej_rmsub (by omega) q hqb)) (fun j _ _ => ⟨Nat.le_refl _, Nat.le_refl _⟩)⟩
  · exact br_t rfl (br_f z (br_f n4 ⟨hin, br_t (by rw [nI_clamp hi', ej_hs0 hs z2 hb]) ⟨rfl, ej_mk hI⟩⟩))
theorem ej_yb19 {post : Int32 → SY → Prop} {x1 x2 : Int32} {i : Nat} (hs : ej_hs 4 shut B) (hi4 : i ≤ 4) (h3 : ∀ j, j < i → B.testBit j = true) (h4 : B.testBit i = false) (k : wY_block_39 post x1 x2 (nI i) (nI L) (nI c) al held rel dead shut bb be lo hi can) :
    ∀ d j, j + d = i → wY_block_19 post x1 x2 (nI L) (nI c) al held rel dead shut bb be lo hi can (d + 1) (nI j) := by
  intro d
  induction d with
  | zero =>
    intro j hj
    obtain rfl : j = i := by omega
    refine pk_le 4 j (fun _ => k) (fun z => ⟨vp_in_nI z (by omega), br_t (by rw [nI_clamp (n := j) (by omega), ej_hs0 hs z h4]) k⟩) rfl rfl (by omega) (by omega)
  | succ d ih =>
    intro j hj
    refine br_f (nI_ge (b := 4) (by omega) (by omega)) ⟨vp_in_nI (by omega) (by omega), br_f (by rw [nI_clamp (n := j) (by omega), ej_hs1 hs (by omega) (h3 j (by omega))]; decide) (nm_r (nI_1 j) (ih (j + 1) (by omega)))⟩
theorem i_vc_block {k : Nat} {u : SX} {v : SY} (I : i_Rel k u v) (hk : k + 4 ≤ 2050) (v1 : Int32) (v2 : Int32) : wpX_block (fun r u' => wpY_block (fun r' v' => r' = r ∧ i_Rel (k + 4) u' v') v v1 v2) u v1 v2 := by
  obtain ⟨L, c, H, B, R, D, P, Q, al, rel, dead, bb, be, fs, tr, td, le, held, shut, lo, hi, can, rfl, rfl, hI⟩ := I
  have ⟨⟨hL1, hL, hc, hHc, hH, hB⟩, ⟨hR, hD, hP, hQ⟩, ⟨hfs, hh, hs⟩, hw, hG⟩ := hI
  unfold wpX_block wpY_block
  refine br_c (fun z => br_t z ⟨rfl, ej_mk hI⟩) (fun z => br_c (fun z2 => br_f z (br_t z2 ⟨rfl, ej_mk hI⟩)) (fun z2 => br_c (fun z4 => ?_) (fun z4 => br_f z (br_f z2 (br_f z4 ⟨rfl, ej_mk hI⟩)))))
  obtain ⟨a, ha, rfl⟩ := nI_of z
  have z3 : ¬ v2 < 0 := by
    rw [Int32.lt_iff_toInt_lt]
    rw [Int32.le_iff_toInt_le, nI_toInt ha] at z2
    have : (0 : Int32).toInt = 0 := by decide
    omega
  obtain ⟨b, hb, rfl⟩ := nI_of z3
  have hab : a < b := by
    rcases Nat.lt_or_ge a b with w | w
    · exact w
    · exact absurd (nI_le w ha) z2
  have hb40 : b ≤ 40 := (nI_leI (a := b) (b := 40) hb (by omega)).mp z4
  refine ej_xlf (by omega) (fun i hi6 h3 h4 => ?_)
  have hi4 : i ≤ 4 := by
    rcases Nat.lt_or_ge 4 i with w | w
    · have := h3 4 w
      rw [Nat.testBit_lt_two_pow (show B < 2 ^ 4 from hB)] at this
      exact absurd this (by decide)
    · exact w
  refine pk_lt i 4 (fun z5 => ?_) (fun z5 => ?_) rfl rfl (by omega) (by omega)
  · have h31 : i < 2 ^ 31 := by omega
    have hin : vp_in (nI i) 4 := vp_in_nI z5 (by omega)
    have hB' : B ||| 2 ^ i < 16 := Nat.or_lt_two_pow (n := 4) hB (Nat.pow_lt_pow_right (a := 2) (by decide) z5)
    have hP' : ej_al 4 (upd bb i (nI a)) (ej_nu P i a) := ej_alu hP (by omega)
    have hQ' : ej_al 4 (upd be i (nI b)) (ej_nu Q i b) := ej_alu hQ hb40
    refine ⟨hin, nm_r (e' := upd bb i (nI a)) (by rw [nI_clamp h31]) ⟨hin, nm_r (e' := upd be i (nI b)) (by rw [nI_clamp h31]) (nm_r (e' := nI (B ||| 2 ^ i)) (ej_or (by omega)) ?_)⟩⟩
    have hn4 : ¬ nI i = 4 := fun e => by have := (nI_eq (a := i) (b := 4) h31 (by omega)).mp e; omega
    refine ej_xffs hB' hP' hQ' hL (fun fs' hfs' => ej_xcpy (fun tr' td' t1 t2 => ?_))
    refine ej_xfits (lo := R) (hi := D) (by omega) hL (fun j _ hj => ?_) (fun j _ hj => ?_) hfs' (fun g le' => br_f (by decide) ?_) (fun g le' => br_t rfl ?_)
    · rw [t1 j (ej_lt6 hH hj)]; exact hR j (ej_lt6 hH hj)
    · rw [t2 j (ej_lt6 hH hj)]; exact hD j (ej_lt6 hH hj)
    · refine br_f z (br_f z2 (br_t z4 ⟨i + 1, ej_yb19 hs hi4 h3 h4 ?_ i 0 (by omega)⟩))
      unfold wY_block_39
      refine br_f hn4 ⟨hin, nm_r (e' := upd shut i 1) (by rw [nI_clamp h31, ej_vn1]) ⟨hin, nm_r (e' := upd bb i (nI a)) (by rw [nI_clamp h31]) ⟨hin, nm_r (e' := upd be i (nI b)) (by rw [nI_clamp h31]) ?_⟩⟩⟩
      refine ej_yask40 hH hh hR hD (fun lo hi w1 w2 => ?_)
      refine ej_yfits (by omega) hL1 hL w1 w2 (ej_hsor hs) hP' hQ' (fun _ can => br_f (by decide) ⟨rfl, ej_mk (R := R) (D := D) (P := ej_nu P i a) (Q := ej_nu Q i b) ?_⟩) (fun g2 _ => absurd g g2)
      exact ⟨⟨hL1, hL, hc, hHc, hH, hB'⟩, ⟨hR, hD, hP', hQ'⟩, ⟨hfs', hh, ej_hsor hs⟩, hw, g⟩
    · have eB : ej_rm (B ||| 2 ^ i) i = B := ej_orrm (by omega) (by omega) h4
      refine ej_xrmb z5 (by rw [eB]; exact hB) hP' hQ' hL (fun fs2 hfs2 => ?_)
      rw [eB] at hfs2 ⊢
      refine br_f z (br_f z2 (br_t z4 ⟨i + 1, ej_yb19 hs hi4 h3 h4 ?_ i 0 (by omega)⟩))
      unfold wY_block_39
      refine br_f hn4 ⟨hin, nm_r (e' := upd shut i 1) (by rw [nI_clamp h31, ej_vn1]) ⟨hin, nm_r (e' := upd bb i (nI a)) (by rw [nI_clamp h31]) ⟨hin, nm_r (e' := upd be i (nI b)) (by rw [nI_clamp h31]) ?_⟩⟩⟩
      refine ej_yask40 hH hh hR hD (fun lo hi w1 w2 => ?_)
      refine ej_yfits (by omega) hL1 hL w1 w2 (ej_hsor hs) hP' hQ' (fun g2 _ => absurd g2 g) (fun _ can => br_t rfl ⟨hin, nm_r (e' := upd (upd shut i 1) i 0) (by rw [nI_clamp h31, ej_vn0]) ⟨rfl, ej_mk (R := R) (D := D) (P := ej_nu P i a) (Q := ej_nu Q i b) ?_⟩⟩)
      have hs2 : ej_hs 4 (upd (upd shut i 1) i 0) B := by
        have := ej_hsrm (k := i) (by omega) (ej_hsor (k := i) hs)
        rw [eB] at this
        exact this
      refine ⟨⟨hL1, hL, hc, hHc, hH, hB⟩, ⟨hR, hD, hP', hQ'⟩, ⟨hfs2, hh, hs2⟩, hw, ej_Gmono hG (fun t ht q hq hqb => ?_) (fun j _ _ => ⟨Nat.le_refl _, Nat.le_refl _⟩)⟩
      have : q ≠ i := by rintro rfl; rw [h4] at hqb; exact absurd hqb (by decide)
      rw [ej_nun this, ej_nun this]
      exact ht q hq hqb
  · obtain rfl : i = 4 := by omega
    refine br_f z (br_f z2 (br_t z4 ⟨5, ej_yb19 hs hi4 h3 h4 ?_ 4 0 (by omega)⟩))
    unfold wY_block_39
    exact br_t rfl ⟨rfl, ej_mk hI⟩
end
