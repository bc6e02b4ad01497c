/-! the component's private methods -/
section
variable {L c H B : Nat} {rel dead bb be fs tr td le : Nat → Int32} {P Q lo hi : Nat → Nat} {fr : Nat → Prop}
theorem ej_xcon {post : Int32 → Prop} {S j : Nat} (hS : S < 128) (hj : j < 7) (h1 : S.testBit j = true → post 1) (h0 : S.testBit j = false → post 0) : wpX_contains post (nI S) (nI j) := by
  by_cases hb : S.testBit j = true
  · exact br_t ((ej_has S hS j hj).mpr hb) (h1 hb)
  · exact br_f (fun z => hb ((ej_has S hS j hj).mp z)) (h0 (ej_nt hb))
theorem ej_xunb0 {post : Int32 → Prop} {t : Nat} (hB : B < 16) (hP : ej_al 4 bb P) (hQ : ej_al 4 be Q) (hL : L ≤ 6) (ht : t ≤ 40)
    (h1 : ej_fr L B P Q t → post 1) (h0 : ¬ ej_fr L B P Q t → post 0) : ∀ d i, i + d = 4 → (∀ k, k < i → B.testBit k = true → ¬ (P k < t + L ∧ t < Q k)) → wX_isUnblocked_2 post (nI t) (nI L) (nI c) (nI H) (nI B) rel dead bb be fs tr td le (d + 1) (nI i) := by
  intro d
  induction d with
  | zero =>
    intro i hi hk
    obtain rfl : i = 4 := by omega
    exact br_t (nI_le (a := 4) (b := 4) (by omega) (by omega)) (h1 hk)
  | succ d ih =>
    intro i hi hk
    have h31 : i < 2 ^ 31 := by omega
    have hin : vp_in (nI i) 4 := vp_in_nI (by omega) (by omega)
    have nx : (∀ k, k < i + 1 → B.testBit k = true → ¬ (P k < t + L ∧ t < Q k)) → ∀ y, y = nI i + 1 → wX_isUnblocked_2 post (nI t) (nI L) (nI c) (nI H) (nI B) rel dead bb be fs tr td le (d + 1) y := fun h => nm_r (nI_1 i) (ih (i + 1) (by omega) h)
    have ext : (B.testBit i = true → ¬ (P i < t + L ∧ t < Q i)) → ∀ k, k < i + 1 → B.testBit k = true → ¬ (P k < t + L ∧ t < Q k) := by
      intro h k hk'
      rcases Nat.lt_or_ge k i with z | z
      · exact hk k z
      · obtain rfl : k = i := by omega
        exact h
    refine br_f (nI_ge (b := 4) (by omega) (by omega)) (ej_xcon (by omega) (by omega) (fun hb => ?_) (fun hb => ?_))
    · refine br_f (by decide) ⟨hin, ?_⟩
      refine pk_le (t + L) (P i) (fun z => nx (ext (fun _ w => by omega))) (fun z => ⟨hin, ?_⟩) (nI_add _ _) (by rw [nI_clamp h31]; exact (hP i (by omega)).1) (by omega) (by have := (hP i (by omega)).2; omega)
      refine pk_le (Q i) t (fun z2 => nx (ext (fun _ w => by omega))) (fun z2 => h0 (fun hf => hf i (by omega) hb ⟨by omega, by omega⟩)) (by rw [nI_clamp h31]; exact (hQ i (by omega)).1) rfl (by have := (hQ i (by omega)).2; omega) (by omega)
    · exact br_t rfl (nx (ext (fun h => absurd h (by rw [hb]; decide))))
theorem ej_xunb {post : Int32 → Prop} {t : Nat} (hB : B < 16) (hP : ej_al 4 bb P) (hQ : ej_al 4 be Q) (hL : L ≤ 6) (ht : t ≤ 40)
    (h1 : ej_fr L B P Q t → post 1) (h0 : ¬ ej_fr L B P Q t → post 0) : wpX_isUnblocked post (nI L, nI c, nI H, nI B, rel, dead, bb, be, fs, tr, td, le) (nI t) := by
  unfold wpX_isUnblocked
  exact ⟨5, ej_xunb0 hB hP hQ hL ht h1 h0 4 0 rfl (fun k hk => absurd hk (by omega))⟩
theorem ej_lsdn {i n : Nat} (h : ej_ls fr (i + 1) n) (hf : ¬ fr i) : ej_ls fr i n := by
  rcases h with ⟨h1, h2⟩ | ⟨h1, h2, h3, h4⟩
  · refine Or.inl ⟨h1, fun s hs hs2 => ?_⟩
    rcases Nat.eq_or_lt_of_le hs with e | e
    · subst e; exact hf
    · exact h2 s e hs2
  · refine Or.inr ⟨by omega, h2, h3, fun s hs hs2 => ?_⟩
    rcases Nat.eq_or_lt_of_le hs with e | e
    · subst e; exact hf
    · exact h4 s e hs2
theorem ej_xffs0 {post : SX → Prop} (hB : B < 16) (hP : ej_al 4 bb P) (hQ : ej_al 4 be Q) (hL : L ≤ 6)
    (k : ∀ fs', ej_FS (ej_fr L B P Q) fs' → post (nI L, nI c, nI H, nI B, rel, dead, bb, be, fs', tr, td, le)) : ∀ m, m ≤ 41 → ∀ n fs, ej_ls (ej_fr L B P Q) m n → (∀ t, m ≤ t → t ≤ 40 → ∃ n, fs t = nI n ∧ ej_ls (ej_fr L B P Q) t n) → wX_findFreeStarts_7 post (nI L) (nI c) (nI H) (nI B) (m + 1) (nI n) (nI m + (-1)) rel dead bb be fs tr td le := by
  intro m
  induction m with
  | zero =>
    intro hm n fs hls h
    exact br_t (by decide +kernel) (k fs (fun t ht => h t (by omega) ht))
  | succ i ih =>
    intro hm n fs hls h
    rw [pk_m1 i]
    have h31 : i < 2 ^ 31 := by omega
    have hin : vp_in (nI i) 41 := vp_in_nI (by omega) (by omega)
    have go : ∀ n', ej_ls (ej_fr L B P Q) i n' → wX_findFreeStarts_7 post (nI L) (nI c) (nI H) (nI B) (i + 1) (nI n') (nI i + (-1)) rel dead bb be (upd fs i (nI n')) tr td le := by
      intro n' hn'
      refine ih (by omega) n' _ hn' (fun t h1 h2 => ?_)
      by_cases e : t = i
      · subst e; exact ⟨n', pk_us, hn'⟩
      · rw [pk_un e]; exact h t (by omega) h2
    refine br_f (nI_pos h31) (ej_xunb hB hP hQ hL (by omega) (fun hf => ?_) (fun hf => ?_))
    · refine br_f (by decide) ⟨hin, nm_r (e' := upd fs i (nI i)) (by rw [nI_clamp h31]) (nm_e ?_)⟩
      exact go i (Or.inr ⟨Nat.le_refl _, by omega, hf, fun s h1 h2 => by omega⟩)
    · refine br_t rfl ⟨hin, nm_r (e' := upd fs i (nI n)) (by rw [nI_clamp h31]) (nm_e ?_)⟩
      exact go n (ej_lsdn hls hf)
theorem ej_xffs {post : SX → Prop} (hB : B < 16) (hP : ej_al 4 bb P) (hQ : ej_al 4 be Q) (hL : L ≤ 6)
    (k : ∀ fs', ej_FS (ej_fr L B P Q) fs' → post (nI L, nI c, nI H, nI B, rel, dead, bb, be, fs', tr, td, le)) : wpX_findFreeStarts post (nI L, nI c, nI H, nI B, rel, dead, bb, be, fs, tr, td, le) := by
  unfold wpX_findFreeStarts
  have h := ej_xffs0 (tr := tr) (td := td) (le := le) (rel := rel) (dead := dead) (c := c) (H := H) hB hP hQ hL k 41 (by omega) 1000 fs (Or.inl ⟨rfl, fun s h1 h2 => by omega⟩) (fun t h1 h2 => by omega)
  rw [pk_m1 40] at h
  exact ⟨42, h⟩
theorem ej_updf {a b : Nat → Int32} {i : Nat} (h : ∀ j, j < i → a j = b j) : ∀ j, j < i + 1 → upd a i (b i) j = b j := by
  intro j hj
  by_cases e : j = i
  · subst e; exact pk_us
  · rw [pk_un e]; exact h j (by omega)
theorem ej_xcpy0 {post : SX → Prop} (k : ∀ tr' td', (∀ j, j < 6 → tr' j = rel j) → (∀ j, j < 6 → td' j = dead j) → post (nI L, nI c, nI H, nI B, rel, dead, bb, be, fs, tr', td', le)) :
    ∀ d i, i + d = 6 → ∀ tr td, (∀ j, j < i → tr j = rel j) → (∀ j, j < i → td j = dead j) → wX_copyWindows_2 post (nI L) (nI c) (nI H) (nI B) (d + 1) (nI i) rel dead bb be fs tr td le := by
  intro d
  induction d with
  | zero =>
    intro i hi tr td h1 h2
    obtain rfl : i = 6 := by omega
    exact br_t (nI_le (a := 6) (b := 6) (by omega) (by omega)) (k tr td h1 h2)
  | succ d ih =>
    intro i hi tr td h1 h2
    have h31 : i < 2 ^ 31 := by omega
    have hin : vp_in (nI i) 6 := vp_in_nI (by omega) (by omega)
    have hin7 : vp_in (nI i) 7 := vp_in_nI (by omega) (by omega)
    refine br_f (nI_ge (b := 6) (by omega) (by omega)) ⟨hin, hin7, nm_r (e' := upd tr i (rel i)) (by rw [nI_clamp h31]) ⟨hin, hin7, nm_r (e' := upd td i (dead i)) (by rw [nI_clamp h31]) (nm_r (nI_1 i) ?_)⟩⟩
    exact ih (i + 1) (by omega) _ _ (ej_updf h1) (ej_updf h2)
theorem ej_xcpy {post : SX → Prop} (k : ∀ tr' td', (∀ j, j < 6 → tr' j = rel j) → (∀ j, j < 6 → td' j = dead j) → post (nI L, nI c, nI H, nI B, rel, dead, bb, be, fs, tr', td', le)) : wpX_copyWindows post (nI L, nI c, nI H, nI B, rel, dead, bb, be, fs, tr, td, le) := by
  unfold wpX_copyWindows
  exact ⟨7, ej_xcpy0 k 6 0 rfl tr td (fun j hj => absurd hj (by omega)) (fun j hj => absurd hj (by omega))⟩
theorem ej_xdel0 {post : SX → Prop} {t : Nat} {f : Nat → Nat} (ht : t ≤ 40) (k : ∀ tr', (∀ j, j < 6 → tr' j = nI (ej_mx (f j) t)) → post (nI L, nI c, nI H, nI B, rel, dead, bb, be, fs, tr', td, le)) :
    ∀ d i, i + d = 6 → ∀ tr, (∀ j, j < i → tr j = nI (ej_mx (f j) t)) → (∀ j, i ≤ j → j < 6 → tr j = nI (f j) ∧ f j ≤ 40) → wX_delayReleases_2 post (nI t) (nI L) (nI c) (nI H) (nI B) (d + 1) (nI i) rel dead bb be fs tr td le := by
  intro d
  induction d with
  | zero =>
    intro i hi tr h1 h2
    obtain rfl : i = 6 := by omega
    exact br_t (nI_le (a := 6) (b := 6) (by omega) (by omega)) (k tr h1)
  | succ d ih =>
    intro i hi tr h1 h2
    have h31 : i < 2 ^ 31 := by omega
    have hin7 : vp_in (nI i) 7 := vp_in_nI (by omega) (by omega)
    have hf := h2 i (Nat.le_refl _) (by omega)
    refine br_f (nI_ge (b := 6) (by omega) (by omega)) ⟨hin7, pk_le t (f i) (fun z => nm_r (nI_1 i) ?_) (fun z => ⟨hin7, nm_r (e' := upd tr i (nI t)) (by rw [nI_clamp h31]) (nm_r (nI_1 i) ?_)⟩) rfl (by rw [nI_clamp h31]; exact hf.1) (by omega) (by omega)⟩
    · refine ih (i + 1) (by omega) tr (fun j hj => ?_) (fun j hj => h2 j (by omega))
      rcases Nat.lt_or_ge j i with z2 | z2
      · exact h1 j z2
      · obtain rfl : j = i := by omega
        rw [hf.1]
        congr 1
        unfold ej_mx
        split <;> omega
    · refine ih (i + 1) (by omega) _ (fun j hj => ?_) (fun j hj hj2 => ?_)
      · by_cases e : j = i
        · subst e
          rw [pk_us]
          congr 1
          unfold ej_mx
          split <;> omega
        · rw [pk_un e]; exact h1 j (by omega)
      · rw [pk_un (by omega)]; exact h2 j (by omega) hj2
theorem ej_xdel {post : SX → Prop} {t : Nat} {f : Nat → Nat} (ht : t ≤ 40) (h : ∀ j, j < 6 → tr j = nI (f j) ∧ f j ≤ 40) (k : ∀ tr', (∀ j, j < 6 → tr' j = nI (ej_mx (f j) t)) → post (nI L, nI c, nI H, nI B, rel, dead, bb, be, fs, tr', td, le)) : wpX_delayReleases post (nI L, nI c, nI H, nI B, rel, dead, bb, be, fs, tr, td, le) (nI t) := by
  unfold wpX_delayReleases
  exact ⟨7, ej_xdel0 ht k 6 0 rfl tr (fun j hj => absurd hj (by omega)) (fun j _ => h j)⟩
theorem ej_xea20 {post : Int32 → Prop} {t j r d z : Nat} (hL : L ≤ 6) (hj : j < 7) (hz : z = ej_mx t r) (hz2 : z ≤ 1000) (hd : td j = nI d ∧ d ≤ 40) (hfs : ej_FS fr fs)
    (k : ∀ e, e ≤ 1000 → ej_ea L fr r d t e → post (nI e)) : wX_endAfter_20 post (nI j) (nI z) (nI L) (nI c) (nI H) (nI B) rel dead bb be fs tr td le := by
  have hin7 : vp_in (nI j) 7 := vp_in_nI hj (by omega)
  refine pk_le z 40 (fun h => ⟨vp_in_nI (by omega) (by omega), ?_⟩) (fun h => k 1000 (Nat.le_refl _) (Or.inl ⟨rfl, Or.inl (by omega)⟩)) rfl rfl (by omega) (by omega)
  obtain ⟨n, hn, hls⟩ := hfs z h
  have hn2 : n ≤ 1000 := by rcases hls with ⟨h, _⟩ | ⟨_, h, _⟩ <;> omega
  rw [hz] at hls h
  refine nm_r (e' := nI (n + L)) (by rw [nI_clamp (n := z) (by omega), hn, nI_add]) ⟨hin7, pk_lt d (n + L) (fun h2 => ?_) (fun h2 => ?_) (by rw [nI_clamp (n := j) (by omega)]; exact hd.1) rfl (by omega) (by omega)⟩
  · exact k 1000 (Nat.le_refl _) (Or.inl ⟨rfl, Or.inr ⟨n, h, hls, h2⟩⟩)
  · exact k (n + L) (by omega) (Or.inr ⟨n, h, hls, h2, rfl⟩)
theorem ej_xea {post : Int32 → Prop} {t j r d : Nat} (hL : L ≤ 6) (hj : j < 7) (ht : t ≤ 1000) (hr : tr j = nI r ∧ r ≤ 40) (hd : td j = nI d ∧ d ≤ 40) (hfs : ej_FS fr fs)
    (k : ∀ e, e ≤ 1000 → ej_ea L fr r d t e → post (nI e)) : wpX_endAfter post (nI L, nI c, nI H, nI B, rel, dead, bb, be, fs, tr, td, le) (nI t) (nI j) := by
  unfold wpX_endAfter
  have hin7 : vp_in (nI j) 7 := vp_in_nI hj (by omega)
  have e : tr (nI j).toNatClampNeg = nI r := by rw [nI_clamp (n := j) (by omega)]; exact hr.1
  refine ⟨hin7, pk_le t r (fun h => ⟨hin7, ?_⟩) (fun h => ?_) rfl e (by omega) (by omega)⟩
  · rw [e]
    exact ej_xea20 hL hj (by unfold ej_mx; split <;> omega) (by omega) hd hfs k
  · exact ej_xea20 hL hj (by unfold ej_mx; split <;> omega) (by omega) hd hfs k
end
