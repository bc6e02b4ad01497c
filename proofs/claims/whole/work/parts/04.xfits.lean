/-! the component's least end of a set, and what asks it -/
section
variable {L c H B : Nat} {rel dead bb be fs tr td le : Nat → Int32} {P Q lo hi : Nat → Nat} {fr : Nat → Prop}
theorem ej_xle38 {post : Int32 → SX → Prop} {J9 : Int32 → (Nat → Int32) → (Nat → Int32) → (Nat → Int32) → (Nat → Int32) → (Nat → Int32) → (Nat → Int32) → (Nat → Int32) → (Nat → Int32) → Prop} {x1 : Int32} {S : Nat} {E : Nat → Nat} {le0 : Nat → Int32}
    (hS : S < 128) (hL : L ≤ 6) (w1 : ∀ j, j < 7 → S.testBit j = true → tr j = nI (lo j) ∧ lo j ≤ 40) (w2 : ∀ j, j < 7 → S.testBit j = true → td j = nI (hi j) ∧ hi j ≤ 40) (hfs : ej_FS fr fs)
    (hE : ∀ i, i < 7 → S.testBit i = true → le0 (ej_rm S i) = nI (E i) ∧ E i ≤ 1000)
    (k : ∀ (le : Nat → Int32) (v : Nat) (V : Nat → Nat), (∀ q, q ≠ S → le q = le0 q) → le S = nI v → v ≤ 1000 → (∀ i, i < 7 → S.testBit i = true → ej_ea L fr (lo i) (hi i) (E i) (V i)) → (∀ i, i < 7 → S.testBit i = true → v ≤ V i) → (v = 1000 ∨ ∃ i, i < 7 ∧ S.testBit i = true ∧ v = V i) → J9 (nI (S + 1)) rel dead bb be fs tr td le) :
    ∀ d i, i + d = 7 → ∀ (le : Nat → Int32) (v : Nat) (V : Nat → Nat), (∀ q, q ≠ S → le q = le0 q) → le S = nI v → v ≤ 1000 → (∀ i', i' < i → S.testBit i' = true → ej_ea L fr (lo i') (hi i') (E i') (V i')) → (∀ i', i' < i → S.testBit i' = true → v ≤ V i') → (v = 1000 ∨ ∃ i', i' < i ∧ S.testBit i' = true ∧ v = V i') → wX_leastEnd_38 post J9 x1 (nI S) (nI L) (nI c) (nI H) (nI B) (d + 1) (nI i) rel dead bb be fs tr td le := by
  intro d
  induction d with
  | zero =>
    intro i hi' le v V a1 a2 a3 a4 a5 a6
    obtain rfl : i = 7 := by omega
    exact br_t (nI_le (a := 7) (b := 7) (by omega) (by omega)) (nm_r (nI_1 S) (k le v V a1 a2 a3 a4 a5 a6))
  | succ d ih =>
    intro i hi' le v V a1 a2 a3 a4 a5 a6
    have h7 : i < 7 := by omega
    have hS31 : S < 2 ^ 31 := by omega
    have hinS : vp_in (nI S) 128 := vp_in_nI hS (by omega)
    refine br_f (nI_ge (b := 7) (by omega) (by omega)) (ej_xcon hS h7 (fun hb => ?_) (fun hb => ?_))
    · have hne : ej_rm S i ≠ S := Nat.ne_of_lt (ej_rmlt hS hb)
      have hlt : ej_rm S i < 128 := Nat.lt_of_le_of_lt (ej_rmle S i) hS
      have hEi := hE i h7 hb
      have e : le (nI S &&& (((1 : Int32) <<< (nI i &&& 31)) ^^^ (-1))).toNatClampNeg = nI (E i) := by
        rw [ej_rmI h7, nI_clamp (n := ej_rm S i) (by omega), a1 _ hne, hEi.1]
      refine br_f (by decide) ⟨by rw [ej_rmI h7]; exact vp_in_nI hlt (by omega), ?_⟩
      rw [e]
      refine ej_xea hL h7 hEi.2 (w1 i h7 hb) (w2 i h7 hb) hfs (fun e he hea => ?_)
      have go : ∀ (v' : Nat) (le' : Nat → Int32), v' ≤ v → v' ≤ e → (v' = v ∨ v' = e) → (∀ q, q ≠ S → le' q = le0 q) → le' S = nI v' → wX_leastEnd_38 post J9 x1 (nI S) (nI L) (nI c) (nI H) (nI B) (d + 1) (nI (i + 1)) rel dead bb be fs tr td le' := by
        intro v' le' b1 b2 b3 b4 b5
        refine ih (i + 1) (by omega) le' v' (ej_nu V i e) b4 b5 (by omega) (fun i' q1 q2 => ?_) (fun i' q1 q2 => ?_) ?_
        · by_cases z : i' = i
          · subst z; rw [ej_nus]; exact hea
          · rw [ej_nun z]; exact a4 i' (by omega) q2
        · by_cases z : i' = i
          · subst z; rw [ej_nus]; exact b2
          · rw [ej_nun z]; exact Nat.le_trans b1 (a5 i' (by omega) q2)
        · rcases b3 with b3 | b3
          · rcases a6 with a6 | ⟨i', q1, q2, q3⟩
            · exact Or.inl (by omega)
            · exact Or.inr ⟨i', by omega, q2, by rw [ej_nun (by omega)]; omega⟩
          · exact Or.inr ⟨i, by omega, hb, by rw [ej_nus]; exact b3⟩
      refine ⟨hinS, pk_le v e (fun z => ⟨hinS, hinS, nm_r (e' := upd le S (le S)) (by rw [nI_clamp hS31]) (nm_r (nI_1 i) ?_)⟩) (fun z => ⟨hinS, nm_r (e' := upd le S (nI e)) (by rw [nI_clamp hS31]) (nm_r (nI_1 i) ?_)⟩) (by rw [nI_clamp hS31]; exact a2) rfl (by omega) (by omega)⟩
      · exact go v _ (Nat.le_refl _) z (Or.inl rfl) (fun q hq => by rw [pk_un hq]; exact a1 q hq) (by rw [pk_us]; exact a2)
      · exact go e _ (by omega) (Nat.le_refl _) (Or.inr rfl) (fun q hq => by rw [pk_un hq]; exact a1 q hq) pk_us
    · refine br_t rfl (nm_r (nI_1 i) (ih (i + 1) (by omega) le v V a1 a2 a3 (fun i' q1 q2 => ?_) (fun i' q1 q2 => ?_) ?_))
      · exact a4 i' (by have : i' ≠ i := (by rintro rfl; rw [hb] at q2; exact absurd q2 (by decide)); omega) q2
      · exact a5 i' (by have : i' ≠ i := (by rintro rfl; rw [hb] at q2; exact absurd q2 (by decide)); omega) q2
      · rcases a6 with a6 | ⟨i', q1, q2, q3⟩
        · exact Or.inl a6
        · exact Or.inr ⟨i', by omega, q2, q3⟩
theorem ej_xle9 {post : Int32 → SX → Prop} {W : Nat} (hW : W < 128) (hL : L ≤ 6) (w1 : ej_wn W tr lo) (w2 : ej_wn W td hi) (hfs : ej_FS fr fs)
    (k : ∀ (le : Nat → Int32) (v : Nat), ej_le L fr lo hi W v → post (nI v) (nI L, nI c, nI H, nI B, rel, dead, bb, be, fs, tr, td, le)) :
    ∀ d S, S + d = 128 → 1 ≤ S → ∀ le : Nat → Int32, (∀ S', S' < S → ej_sub S' W → ∃ v, le S' = nI v ∧ ej_le L fr lo hi S' v) → wX_leastEnd_9 post (nI W) (nI L) (nI c) (nI H) (nI B) (d + 1) (nI S) rel dead bb be fs tr td le := by
  intro d
  induction d with
  | zero =>
    intro S hSd h1 le hle
    obtain rfl : S = 128 := by omega
    obtain ⟨v, e, h⟩ := hle W hW (fun _ h => h)
    refine br_t (nI_le (a := 128) (b := 128) (by omega) (by omega)) ⟨vp_in_nI hW (by omega), ?_⟩
    rw [nI_clamp (n := W) (by omega), e]
    exact k le v h
  | succ d ih =>
    intro S hSd h1 le hle
    have hS : S < 128 := by omega
    have h31 : S < 2 ^ 31 := by omega
    refine br_f (nI_ge (b := 128) (by omega) (by omega)) ?_
    by_cases hs : ej_sub S W
    · refine br_t ((ej_sbI hS).mpr hs) ⟨vp_in_nI hS (by omega), nm_r (e' := upd le S 1000) (by rw [nI_clamp h31]) ⟨8, ?_⟩⟩
      have hEE : ∀ i, i < 7 → S.testBit i = true → le (ej_rm S i) = nI ((le (ej_rm S i)).toNatClampNeg) ∧ ej_le L fr lo hi (ej_rm S i) ((le (ej_rm S i)).toNatClampNeg) := by
        intro i hi7 hb
        obtain ⟨v, e, h⟩ := hle (ej_rm S i) (ej_rmlt hS hb) (ej_subrm hS hs i)
        have hv := h.1
        rw [e, nI_clamp (n := v) (by omega)]
        exact ⟨rfl, h⟩
      refine ej_xle38 (E := fun i => (le (ej_rm S i)).toNatClampNeg) (le0 := upd le S 1000) (lo := lo) (hi := hi) hS hL (fun j hj hb => w1 j hj (hs j hb)) (fun j hj hb => w2 j hj (hs j hb)) hfs (fun i hi7 hb => ?_) (fun le' v V a1 a2 a3 a4 a5 a6 => ?_) 7 0 rfl (upd le S 1000) 1000 (fun _ => 0) (fun _ _ => rfl) pk_us (Nat.le_refl _) (fun i h => absurd h (by omega)) (fun i h => absurd h (by omega)) (Or.inl rfl)
      · rw [pk_un (Nat.ne_of_lt (ej_rmlt hS hb))]
        exact ⟨(hEE i hi7 hb).1, (hEE i hi7 hb).2.1⟩
      · refine ih (S + 1) (by omega) (by omega) le' (fun S' q1 q2 => ?_)
        by_cases z : S' = S
        · subst z
          exact ⟨v, a2, ej_step hS (by omega) (fun j hj hb => (w2 j hj (hs j hb)).2) (fun i hi7 hb => (hEE i hi7 hb).2) a4 a5 a6 a3⟩
        · rw [a1 S' z, pk_un z]
          exact hle S' (by omega) q2
    · refine br_f (fun z => hs ((ej_sbI hS).mp z)) (nm_r (nI_1 S) (ih (S + 1) (by omega) (by omega) le (fun S' q1 q2 => ?_)))
      have : S' ≠ S := by rintro rfl; exact hs q2
      exact hle S' (by omega) q2
theorem ej_xle {post : Int32 → SX → Prop} {W : Nat} (hW : W < 128) (hL : L ≤ 6) (w1 : ej_wn W tr lo) (w2 : ej_wn W td hi) (hfs : ej_FS fr fs)
    (k : ∀ (le : Nat → Int32) (v : Nat), ej_le L fr lo hi W v → post (nI v) (nI L, nI c, nI H, nI B, rel, dead, bb, be, fs, tr, td, le)) : wpX_leastEnd post (nI L, nI c, nI H, nI B, rel, dead, bb, be, fs, tr, td, le) (nI W) := by
  unfold wpX_leastEnd
  refine nm_e ⟨128, ej_xle9 hW hL w1 w2 hfs k 127 1 rfl (Nat.le_refl _) (upd le 0 0) (fun S' h1 h2 => ?_)⟩
  obtain rfl : S' = 0 := by omega
  exact ⟨0, pk_us, ej_le0⟩
theorem ej_xfits {post : Int32 → SX → Prop} {W : Nat} (hW : W < 128) (hL : L ≤ 6) (w1 : ej_wn W tr lo) (w2 : ej_wn W td hi) (hfs : ej_FS fr fs)
    (k1 : ej_G L fr lo hi 40 W → ∀ le : Nat → Int32, post 1 (nI L, nI c, nI H, nI B, rel, dead, bb, be, fs, tr, td, le)) (k0 : ¬ ej_G L fr lo hi 40 W → ∀ le : Nat → Int32, post 0 (nI L, nI c, nI H, nI B, rel, dead, bb, be, fs, tr, td, le)) : wpX_fits post (nI L, nI c, nI H, nI B, rel, dead, bb, be, fs, tr, td, le) (nI W) := by
  unfold wpX_fits
  refine ej_xle hW hL w1 w2 hfs (fun le' v h => ?_)
  have hv := h.1
  have h40 := h.2 40 (Nat.le_refl _)
  exact pk_lt 40 v (fun z => k0 (fun g => by have := h40.mpr g; omega) le') (fun z => k1 (h40.mp z) le') rfl rfl (by omega) (by omega)
theorem ej_xpin {post : Int32 → SX → Prop} {id s : Nat} (h6 : id < 6) (hL : L ≤ 6) (hs : s + L ≤ 40) (hH : H < 64) (w1 : ∀ j, j < 7 → j ≠ id → H.testBit j = true → tr j = nI (lo j) ∧ lo j ≤ 40) (w2 : ∀ j, j < 7 → j ≠ id → H.testBit j = true → td j = nI (hi j) ∧ hi j ≤ 40) (hfs : ej_FS fr fs)
    (k1 : ej_G L fr (ej_nu lo id s) (ej_nu hi id (s + L)) 40 H → ∀ le : Nat → Int32, post 1 (nI L, nI c, nI H, nI B, rel, dead, bb, be, fs, upd tr id (nI s), upd td id (nI (s + L)), le))
    (k0 : ¬ ej_G L fr (ej_nu lo id s) (ej_nu hi id (s + L)) 40 H → ∀ le : Nat → Int32, post 0 (nI L, nI c, nI H, nI B, rel, dead, bb, be, fs, upd tr id (nI s), upd td id (nI (s + L)), le)) : wpX_fitsPinned post (nI L, nI c, nI H, nI B, rel, dead, bb, be, fs, tr, td, le) (nI id) (nI s) := by
  unfold wpX_fitsPinned
  have h31 : id < 2 ^ 31 := by omega
  have hin7 : vp_in (nI id) 7 := vp_in_nI (by omega) (by omega)
  refine ⟨hin7, nm_r (e' := upd tr id (nI s)) (by rw [nI_clamp h31]) ⟨hin7, nm_r (e' := upd td id (nI (s + L))) (by rw [nI_clamp h31, nI_add]) ?_⟩⟩
  exact ej_xfits (by omega) hL (ej_wnu w1 (by omega)) (ej_wnu w2 hs) hfs (fun g le' => ⟨ej_nar1, k1 g le'⟩) (fun g le' => ⟨ej_nar0, k0 g le'⟩)
theorem ej_or64 (S : Nat) : nI S ||| 64 = nI (S ||| 2 ^ 6) := by
  rw [← ej_or (by decide), ej_p2 6 (by decide)]
  rfl
theorem ej_xbes {post : Int32 → SX → Prop} {r d : Nat} {R D : Nat → Nat} (hr : r ≤ 40) (hd : d ≤ 40) (hL : L ≤ 6) (hH : H < 64) (hR : ej_al 6 rel R) (hD : ej_al 6 dead D) (hfs : ej_FS fr fs)
    (k1 : ej_G L fr (ej_nu R 6 r) (ej_nu D 6 d) 40 (H ||| 2 ^ 6) → ∀ tr td le : Nat → Int32, post 1 (nI L, nI c, nI H, nI B, rel, dead, bb, be, fs, tr, td, le))
    (k0 : ¬ ej_G L fr (ej_nu R 6 r) (ej_nu D 6 d) 40 (H ||| 2 ^ 6) → ∀ tr td le : Nat → Int32, post 0 (nI L, nI c, nI H, nI B, rel, dead, bb, be, fs, tr, td, le)) : wpX_fitsBeside post (nI L, nI c, nI H, nI B, rel, dead, bb, be, fs, tr, td, le) (nI r) (nI d) := by
  unfold wpX_fitsBeside
  refine ej_xcpy (fun tr' td' h1 h2 => ?_)
  refine nm_e (nm_e ?_)
  rw [ej_or64]
  refine ej_xfits (ej_orl (by omega) (by omega)) hL (ej_wnu (f := R) (fun j hj hn _ => ?_) hr) (ej_wnu (f := D) (fun j hj hn _ => ?_) hd) hfs (fun g le' => ⟨ej_nar1, k1 g _ _ le'⟩) (fun g le' => ⟨ej_nar0, k0 g _ _ le'⟩)
  · rw [h1 j (by omega)]; exact hR j (by omega)
  · rw [h2 j (by omega)]; exact hD j (by omega)
/-- the earliest start of id that fits: there is one -/
theorem ej_xpe0 {post : Int32 → SX → Prop} {id r d : Nat} {tr0 td0 : Nat → Int32} (h6 : id < 6) (hL : L ≤ 6) (hH : H < 64) (hr : rel id = nI r ∧ r ≤ 40) (hd : dead id = nI d ∧ d ≤ 40) (hLd : L ≤ d)
    (w1 : ∀ j, j < 7 → j ≠ id → H.testBit j = true → tr0 j = nI (lo j) ∧ lo j ≤ 40) (w2 : ∀ j, j < 7 → j ≠ id → H.testBit j = true → td0 j = nI (hi j) ∧ hi j ≤ 40) (hfs : ej_FS fr fs)
    (hex : ∃ s, r ≤ s ∧ s + L ≤ d ∧ ej_G L fr (ej_nu lo id s) (ej_nu hi id (s + L)) 40 H)
    (k : ∀ s, r ≤ s → s + L ≤ d → ej_G L fr (ej_nu lo id s) (ej_nu hi id (s + L)) 40 H → (∀ s', r ≤ s' → s' < s → ¬ ej_G L fr (ej_nu lo id s') (ej_nu hi id (s' + L)) 40 H) →
      ∀ tr td le : Nat → Int32, (∀ j, j ≠ id → tr j = tr0 j) → (∀ j, j ≠ id → td j = td0 j) → tr id = nI s → td id = nI (s + L) → post (nI s) (nI L, nI c, nI H, nI B, rel, dead, bb, be, fs, tr, td, le)) :
    ∀ n s, s + n = d - L + 1 → r ≤ s → (∀ s', r ≤ s' → s' < s → ¬ ej_G L fr (ej_nu lo id s') (ej_nu hi id (s' + L)) 40 H) → ∀ tr td le : Nat → Int32, (∀ j, j ≠ id → tr j = tr0 j) → (∀ j, j ≠ id → td j = td0 j) → wX_pinEarliest_7 post (nI id) (n + 1) (nI s) (nI L) (nI c) (nI H) (nI B) rel dead bb be fs tr td le := by
  have h31 : id < 2 ^ 31 := by omega
  have hin : vp_in (nI id) 6 := vp_in_nI h6 (by omega)
  intro n
  induction n with
  | zero =>
    intro s hsn hrs hno tr td le a1 a2
    obtain ⟨s0, b1, b2, b3⟩ := hex
    exact absurd b3 (hno s0 b1 (by omega))
  | succ n ih =>
    intro s hsn hrs hno tr td le a1 a2
    refine ⟨hin, pk_lt (d - L) s (fun z => absurd z (by omega)) (fun _ => ?_) (by rw [nI_clamp h31, hd.1, pk_sub hLd]) rfl (by omega) (by omega)⟩
    refine ej_xpin h6 hL (by omega) hH (fun j hj hn hb => by rw [a1 j hn]; exact w1 j hj hn hb) (fun j hj hn hb => by rw [a2 j hn]; exact w2 j hj hn hb) hfs (fun g le' => ?_) (fun g le' => ?_)
    · exact br_f (by decide) (k s hrs (by omega) g hno _ _ le' (fun j hj => by rw [pk_un hj]; exact a1 j hj) (fun j hj => by rw [pk_un hj]; exact a2 j hj) pk_us pk_us)
    · refine br_t rfl (nm_r (nI_1 s) (ih (s + 1) (by omega) (by omega) (fun s' q1 q2 => ?_) _ _ le' (fun j hj => by rw [pk_un hj]; exact a1 j hj) (fun j hj => by rw [pk_un hj]; exact a2 j hj)))
      by_cases z : s' = s
      · subst z; exact g
      · exact hno s' q1 (by omega)
theorem ej_xpe {post : Int32 → SX → Prop} {id r d : Nat} (h6 : id < 6) (hL : L ≤ 6) (hH : H < 64) (hr : rel id = nI r ∧ r ≤ 40) (hd : dead id = nI d ∧ d ≤ 40) (hrd : r + L ≤ d)
    (w1 : ∀ j, j < 7 → j ≠ id → H.testBit j = true → tr j = nI (lo j) ∧ lo j ≤ 40) (w2 : ∀ j, j < 7 → j ≠ id → H.testBit j = true → td j = nI (hi j) ∧ hi j ≤ 40) (hfs : ej_FS fr fs)
    (hex : ∃ s, r ≤ s ∧ s + L ≤ d ∧ ej_G L fr (ej_nu lo id s) (ej_nu hi id (s + L)) 40 H)
    (k : ∀ s, r ≤ s → s + L ≤ d → ej_G L fr (ej_nu lo id s) (ej_nu hi id (s + L)) 40 H → (∀ s', r ≤ s' → s' < s → ¬ ej_G L fr (ej_nu lo id s') (ej_nu hi id (s' + L)) 40 H) →
      ∀ tr' td' le : Nat → Int32, (∀ j, j ≠ id → tr' j = tr j) → (∀ j, j ≠ id → td' j = td j) → tr' id = nI s → td' id = nI (s + L) → post (nI s) (nI L, nI c, nI H, nI B, rel, dead, bb, be, fs, tr', td', le)) : wpX_pinEarliest post (nI L, nI c, nI H, nI B, rel, dead, bb, be, fs, tr, td, le) (nI id) := by
  unfold wpX_pinEarliest
  have h31 : id < 2 ^ 31 := by omega
  refine ⟨vp_in_nI h6 (by omega), nm_r (e' := nI r) (by rw [nI_clamp h31]; exact hr.1) ⟨d - L + 1 - r + 1, ?_⟩⟩
  exact ej_xpe0 h6 hL hH hr hd (by omega) w1 w2 hfs hex k (d - L + 1 - r) r (by omega) (Nat.le_refl _) (fun s' q1 q2 => by omega) tr td le (fun _ _ => rfl) (fun _ _ => rfl)
/-! guards -/
theorem ej_xhold {post : Int32 → Prop} {x : Int32} (hH : H < 64) (k1 : ∀ id, id < 6 → x = nI id → H.testBit id = true → post 1) (k0 : (∀ id, id < 6 → x = nI id → H.testBit id = false) → post 0) : wpX_holdsJob post (nI L, nI c, nI H, nI B, rel, dead, bb, be, fs, tr, td, le) x := by
  unfold wpX_holdsJob
  refine br_c (fun z => k0 (fun id h e => ?_)) (fun z => ?_)
  · exfalso; rw [e] at z; exact nI_pos (by omega) z
  · obtain ⟨j, hj, rfl⟩ := nI_of z
    refine pk_le 6 j (fun z2 => k0 (fun id h e => ?_)) (fun z2 => ?_) rfl rfl (by omega) hj
    · exfalso; have := (nI_eq hj (by omega)).mp e; omega
    · refine ej_xcon (by omega) (by omega) (fun hb => br_f (by decide) (k1 j z2 rfl hb)) (fun hb => br_t rfl (k0 (fun id h e => ?_)))
      have := (nI_eq hj (by omega)).mp e
      subst this
      exact hb
theorem ej_xwin {post : Int32 → Prop} {x y : Int32} (hL : L ≤ 6) (k1 : ∀ r d, x = nI r → y = nI d → r + L ≤ d → d ≤ 40 → post 1) (k0 : (∀ r d, x = nI r → y = nI d → r + L ≤ d → d ≤ 40 → False) → post 0) : wpX_isWindow post (nI L, nI c, nI H, nI B, rel, dead, bb, be, fs, tr, td, le) x y := by
  unfold wpX_isWindow
  refine br_c (fun z => k0 (fun r d e1 e2 h1 h2 => ?_)) (fun z => ?_)
  · rw [e1] at z; exact nI_pos (by omega) z
  obtain ⟨r, hr, rfl⟩ := nI_of z
  refine pk_lt 40 r (fun z2 => k0 (fun r' d e1 e2 h1 h2 => ?_)) (fun z2 => ?_) rfl rfl (by omega) hr
  · have := (nI_eq hr (by omega)).mp e1; omega
  refine br_c (fun z3 => k0 (fun r' d e1 e2 h1 h2 => ?_)) (fun z3 => ?_)
  · rw [e2] at z3; exact nI_pos (by omega) z3
  obtain ⟨d, hd, rfl⟩ := nI_of z3
  refine pk_lt 40 d (fun z4 => k0 (fun r' d' e1 e2 h1 h2 => ?_)) (fun z4 => ?_) rfl rfl (by omega) hd
  · have := (nI_eq hd (by omega)).mp e2; omega
  refine br_c (fun z5 => k0 (fun r' d' e1 e2 h1 h2 => ?_)) (fun z5 => k1 r d rfl rfl ?_ z4)
  · have q1 := (nI_eq hr (by omega)).mp e1
    have q2 := (nI_eq hd (by omega)).mp e2
    rw [Int32.lt_iff_toInt_lt, pk_sub_toInt (by omega) (by omega), nI_toInt (by omega)] at z5
    omega
  · rw [Int32.lt_iff_toInt_lt, pk_sub_toInt (by omega) (by omega), nI_toInt (by omega)] at z5
    omega
theorem ej_xlf0 {post : Int32 → Prop} {S : Nat} (hS : S < 64) (k : ∀ i, i ≤ 6 → (∀ j, j < i → S.testBit j = true) → S.testBit i = false → post (nI i)) : ∀ d i, i + d = 7 → (∀ j, j < i → S.testBit j = true) → wX_leastFree_2 post (nI S) (d + 1) (nI i) := by
  intro d
  induction d with
  | zero =>
    intro i hi h
    have := h 6 (by omega)
    rw [ej_big6 hS (by omega)] at this
    exact absurd this (by decide)
  | succ d ih =>
    intro i hi h
    refine br_f (nI_ge (b := 7) (by omega) (by omega)) (ej_xcon (by omega) (by omega) (fun hb => ?_) (fun hb => ?_))
    · refine br_f (by decide) (nm_r (nI_1 i) (ih (i + 1) (by omega) (fun j hj => ?_)))
      rcases Nat.lt_or_ge j i with z | z
      · exact h j z
      · obtain rfl : j = i := by omega
        exact hb
    · exact br_t rfl (k i (by omega) h hb)
theorem ej_xlf {post : Int32 → Prop} {S : Nat} (hS : S < 64) (k : ∀ i, i ≤ 6 → (∀ j, j < i → S.testBit j = true) → S.testBit i = false → post (nI i)) : wpX_leastFree post (nI S) := by
  unfold wpX_leastFree
  exact ⟨8, ej_xlf0 hS k 7 0 rfl (fun j hj => absurd hj (by omega))⟩
end
