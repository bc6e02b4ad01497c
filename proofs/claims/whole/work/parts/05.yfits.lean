/-! the reference's private methods -/
section
variable {L c A B : Nat} {held rel dead shut bb be lo hi can : Nat → Int32} {P Q f g : Nat → Nat}
theorem ej_yclr0 {post : Int32 → Prop} {t : Nat} (hS : ej_hs 4 shut B) (hP : ej_al 4 bb P) (hQ : ej_al 4 be Q) (hL : L ≤ 6) (ht : t ≤ 40)
    (h1 : ej_fr L B P Q t → post 1) (h0 : ¬ ej_fr L B P Q t → post 0) : ∀ d i, i + d = 4 → ∀ x : Int32, ((x = 1 ∧ ∀ k, k < i → B.testBit k = true → ¬ (P k < t + L ∧ t < Q k)) ∨ (x = 0 ∧ ¬ ej_fr L B P Q t)) → wY_clear_4 post (nI t) (nI L) (nI c) (nI A) held rel dead shut bb be lo hi can (d + 1) x (nI i) := by
  intro d
  induction d with
  | zero =>
    intro i hi' x hx
    obtain rfl : i = 4 := by omega
    refine br_t (nI_le (a := 4) (b := 4) (by omega) (by omega)) ?_
    rcases hx with ⟨rfl, hk⟩ | ⟨rfl, hk⟩
    · exact ⟨ej_nar1, h1 hk⟩
    · exact ⟨ej_nar0, h0 hk⟩
  | succ d ih =>
    intro i hi' x hx
    have h31 : i < 2 ^ 31 := by omega
    have hin : vp_in (nI i) 4 := vp_in_nI (by omega) (by omega)
    have nx : (B.testBit i = true → ¬ (P i < t + L ∧ t < Q i)) → ∀ y, y = nI i + 1 → wY_clear_4 post (nI t) (nI L) (nI c) (nI A) held rel dead shut bb be lo hi can (d + 1) x y := by
      intro h
      refine nm_r (nI_1 i) (ih (i + 1) (by omega) x ?_)
      rcases hx with ⟨e, hk⟩ | hx
      · refine Or.inl ⟨e, fun k hk' => ?_⟩
        rcases Nat.lt_or_ge k i with z | z
        · exact hk k z
        · obtain rfl : k = i := by omega
          exact h
      · exact Or.inr hx
    refine br_f (nI_ge (b := 4) (by omega) (by omega)) ⟨hin, ?_⟩
    by_cases hb : B.testBit i = true
    · refine br_f (by rw [nI_clamp h31, ej_hs1 hS (by omega) hb]; decide) ⟨hin, ?_⟩
      refine pk_le (t + L) (P i) (fun z => nx (fun _ w => by omega)) (fun z => ⟨hin, ?_⟩) (nI_add _ _) (by rw [nI_clamp h31]; exact (hP i (by omega)).1) (by omega) (by have := (hP i (by omega)).2; omega)
      refine pk_le (Q i) t (fun z2 => nx (fun _ w => by omega)) (fun z2 => nm_r (nI_1 i) (ih (i + 1) (by omega) 0 (Or.inr ⟨rfl, fun hf => hf i (by omega) hb ⟨by omega, by omega⟩⟩))) (by rw [nI_clamp h31]; exact (hQ i (by omega)).1) rfl (by have := (hQ i (by omega)).2; omega) (by omega)
    · exact br_t (by rw [nI_clamp h31, ej_hs0 hS (by omega) (ej_nt hb)]) (nx (fun h => absurd h hb))
theorem ej_yclr {post : Int32 → Prop} {t : Nat} (hS : ej_hs 4 shut B) (hP : ej_al 4 bb P) (hQ : ej_al 4 be Q) (hL : L ≤ 6) (ht : t ≤ 40)
    (h1 : ej_fr L B P Q t → post 1) (h0 : ¬ ej_fr L B P Q t → post 0) : wpY_clear post (nI L, nI c, nI A, held, rel, dead, shut, bb, be, lo, hi, can) (nI t) := by
  unfold wpY_clear
  exact ⟨5, ej_yclr0 hS hP hQ hL ht h1 h0 4 0 rfl 1 (Or.inl ⟨rfl, fun k hk => absurd hk (by omega)⟩)⟩
end
/-! the table of the reference: what holds of it while (t, S) is next -/
def ej_con (L A : Nat) (fr : Nat → Prop) (f g : Nat → Nat) (t S j : Nat) : Prop := A.testBit j = true ∧ S.testBit j = false ∧ t + L ≤ 40 ∧ fr t ∧ f j ≤ t ∧ t + L ≤ g j
def ej_T (L A : Nat) (fr : Nat → Prop) (f g : Nat → Nat) (t S : Nat) (can : Nat → Int32) : Prop :=
  (∀ t' S', t' ≤ 40 → S' ≤ A → can (t' * 128 + S') = 0 ∨ (can (t' * 128 + S') = 1 ∧ ej_G L fr f g t' S' ∧ ej_sub S' A)) ∧
  can 0 = 1 ∧
  (∀ t' S', t' ≤ 40 → S' ≤ A → (t' < t ∨ (t' = t ∧ S' < S)) → can (t' * 128 + S') = 1 → (t' < 40 → can ((t' + 1) * 128 + S') = 1) ∧ (∀ j, j < 7 → ej_con L A fr f g t' S' j → can ((t' + L) * 128 + (S' ||| 2 ^ j)) = 1))
section
variable {L A : Nat} {fr : Nat → Prop} {f g : Nat → Nat}
theorem ej_ix {t S t' S' : Nat} (h : S < 128) (h' : S' < 128) (e : t * 128 + S = t' * 128 + S') : t = t' ∧ S = S' := by omega
theorem ej_upk {a : Nat → Int32} {k q : Nat} (h : a q = 1) : upd a k 1 q = 1 := by
  by_cases e : q = k
  · subst e; exact pk_us
  · rw [pk_un e]; exact h
theorem ej_Tup {t S : Nat} {can : Nat → Int32} (h : ej_T L A fr f g t S can) (hA : A < 128) {t1 S1 : Nat} (h1 : t < t1) (hg : ej_G L fr f g t1 S1) (hs : ej_sub S1 A) : ej_T L A fr f g t S (upd can (t1 * 128 + S1) 1) := by
  obtain ⟨a, b, d⟩ := h
  have hS1 : S1 < 128 := Nat.lt_of_le_of_lt (ej_suble hs) hA
  refine ⟨fun t' S' q1 q2 => ?_, ej_upk b, fun t' S' q1 q2 q3 q4 => ?_⟩
  · by_cases e : t' * 128 + S' = t1 * 128 + S1
    · obtain ⟨e1, e2⟩ := ej_ix (by omega) hS1 e
      subst e1 e2
      exact Or.inr ⟨pk_us, hg, hs⟩
    · rw [pk_un e]; exact a t' S' q1 q2
  · have e : t' * 128 + S' ≠ t1 * 128 + S1 := fun e => by
      have := (ej_ix (by omega) hS1 e).1
      omega
    rw [pk_un e] at q4
    have := d t' S' q1 q2 q3 q4
    exact ⟨fun z => ej_upk (this.1 z), fun j hj hc => ej_upk (this.2 j hj hc)⟩
/-- the row's next set -/
theorem ej_Tnx {t S : Nat} {can : Nat → Int32} (h : ej_T L A fr f g t S can) (h1 : can (t * 128 + S) = 1 → (t < 40 → can ((t + 1) * 128 + S) = 1) ∧ (∀ j, j < 7 → ej_con L A fr f g t S j → can ((t + L) * 128 + (S ||| 2 ^ j)) = 1)) : ej_T L A fr f g t (S + 1) can := by
  obtain ⟨a, b, d⟩ := h
  refine ⟨a, b, fun t' S' q1 q2 q3 q4 => ?_⟩
  by_cases e : t' = t ∧ S' = S
  · obtain ⟨rfl, rfl⟩ := e
    exact h1 q4
  · exact d t' S' q1 q2 (by omega) q4
theorem ej_Trow {t S : Nat} {can : Nat → Int32} (h : ej_T L A fr f g t S can) (hS : A < S) : ej_T L A fr f g (t + 1) 0 can := by
  obtain ⟨a, b, d⟩ := h
  exact ⟨a, b, fun t' S' q1 q2 q3 q4 => d t' S' q1 q2 (by omega) q4⟩
/-- at the end the table is right -/
theorem ej_Tend {can : Nat → Int32} (h : ej_T L A fr f g 41 0 can) (hA : A < 128) (hL : 1 ≤ L) : (can (5120 + A) = 1 ∧ ej_G L fr f g 40 A) ∨ (can (5120 + A) = 0 ∧ ¬ ej_G L fr f g 40 A) := by
  obtain ⟨a, b, d⟩ := h
  rcases a 40 A (Nat.le_refl _) (Nat.le_refl _) with e | ⟨e, hg, _⟩
  · refine Or.inr ⟨e, fun hg => ?_⟩
    have hh := hg (fun t S => t ≤ 40 → ej_sub S A → can (t * 128 + S) = 1) ⟨fun _ _ => b, ?_, ?_⟩ (Nat.le_refl _) (fun _ h => h)
    · have e2 : can (5120 + A) = 1 := hh
      have e3 : can (5120 + A) = 0 := e
      rw [e3] at e2
      exact absurd e2 (by decide)
    · intro t S h ht hs
      exact (d t S (by omega) (ej_suble hs) (Or.inl (by omega)) (h (by omega) hs)).1 (by omega)
    · intro t S j h hj hb hf h1 h2 ht hs
      have hs' : ej_sub S A := fun i hi => hs i (ej_orm hi)
      exact (d t S (by omega) (ej_suble hs') (Or.inl (by omega)) (h (by omega) hs')).2 j hj ⟨hs j (ej_orj S j), hb, ht, hf, h1, h2⟩
  · exact Or.inl ⟨e, hg⟩
end
section
variable {L c A B : Nat} {held rel dead shut bb be lo hi can : Nat → Int32} {P Q f g : Nat → Nat}
theorem ej_ye43 {post : SY → Prop} {t S : Nat} (hA : A < 128) (hL1 : 1 ≤ L) (hL : L ≤ 6) (w1 : ej_wn A lo f) (w2 : ej_wn A hi g) (hSA : S ≤ A) (ht : t + L ≤ 40) (hf : ej_fr L B P Q t)
    (k : ∀ can : Nat → Int32, ej_T L A (ej_fr L B P Q) f g t (S + 1) can → post (nI L, nI c, nI A, held, rel, dead, shut, bb, be, lo, hi, can)) :
    ∀ d i, i + d = 7 → ∀ can : Nat → Int32, ej_T L A (ej_fr L B P Q) f g t S can → can (t * 128 + S) = 1 → (t < 40 → can ((t + 1) * 128 + S) = 1) → (∀ j, j < i → ej_con L A (ej_fr L B P Q) f g t S j → can ((t + L) * 128 + (S ||| 2 ^ j)) = 1) → wY_extend_43 post (nI t) (nI S) (nI L) (nI c) (nI A) (d + 1) (nI i) held rel dead shut bb be lo hi can := by
  have hS : S < 128 := by omega
  intro d
  induction d with
  | zero =>
    intro i hi' can hT h1 h2 h3
    obtain rfl : i = 7 := by omega
    exact br_t (nI_le (a := 7) (b := 7) (by omega) (by omega)) (k can (ej_Tnx hT (fun _ => ⟨h2, h3⟩)))
  | succ d ih =>
    intro i hi' can hT h1 h2 h3
    have h31 : i < 2 ^ 31 := by omega
    have h7 : i < 7 := by omega
    have hin : vp_in (nI i) 7 := vp_in_nI h7 (by omega)
    have nx : ¬ ej_con L A (ej_fr L B P Q) f g t S i → ∀ y, y = nI i + 1 → wY_extend_43 post (nI t) (nI S) (nI L) (nI c) (nI A) (d + 1) y held rel dead shut bb be lo hi can := by
      intro h
      refine nm_r (nI_1 i) (ih (i + 1) (by omega) can hT h1 h2 (fun j hj hc => ?_))
      rcases Nat.lt_or_ge j i with z | z
      · exact h3 j z hc
      · obtain rfl : j = i := by omega
        exact absurd hc h
    have h73 : ¬ ej_con L A (ej_fr L B P Q) f g t S i → wY_extend_73 post (wY_extend_43 post (nI t) (nI S) (nI L) (nI c) (nI A) (d + 1)) (nI t) (nI S) (nI i) (nI L) (nI c) (nI A) held rel dead shut bb be lo hi can := by
      intro h
      unfold wY_extend_73 wY_extend_74
      exact br_t rfl (nx h)
    refine br_f (nI_ge (b := 7) (by omega) (by omega)) ?_
    by_cases hb : A.testBit i = true
    · refine br_t ((ej_has A hA i h7).mpr hb) ?_
      by_cases hb2 : S.testBit i = false
      · refine br_t ((ej_hasn S hS i h7).mpr hb2) ?_
        unfold wY_extend_74
        have u1 := w1 i h7 hb
        have u2 := w2 i h7 hb
        refine br_f (by decide) ⟨hin, pk_lt t (f i) (fun z => nx (fun hc => by have := hc.2.2.2.2.1; omega)) (fun z => ⟨hin, pk_lt (g i) (t + L) (fun z2 => nx (fun hc => by have := hc.2.2.2.2.2; omega)) (fun z2 => ?_) (by rw [nI_clamp h31]; exact u2.1) (nI_add _ _) (by omega) (by omega)⟩) rfl (by rw [nI_clamp h31]; exact u1.1) (by omega) (by omega)⟩
        have ho : S ||| 2 ^ i < 128 := ej_orl hS h7
        have e : (nI t + nI L) * 128 + (nI S ||| ((1 : Int32) <<< (nI i &&& 31))) = nI ((t + L) * 128 + (S ||| 2 ^ i)) := by
          rw [ej_or h7, nI_add, show (128 : Int32) = nI 128 from rfl, pk_mul, nI_add]
        refine ⟨by rw [e]; exact vp_in_nI (by omega) (by omega), nm_r (e' := upd can ((t + L) * 128 + (S ||| 2 ^ i)) 1) (by rw [e, nI_clamp (n := (t + L) * 128 + (S ||| 2 ^ i)) (by omega), ej_vn1]) (nm_r (nI_1 i) ?_)⟩
        have hG : ej_G L (ej_fr L B P Q) f g t S ∧ ej_sub S A := by
          rcases hT.1 t S (by omega) hSA with e | ⟨_, h⟩
          · rw [e] at h1; exact absurd h1 (by decide)
          · exact h
        refine ih (i + 1) (by omega) _ (ej_Tup hT hA (by omega) (ej_Ga hG.1 h7 hb2 hf z z2) (ej_subor hG.2 hb)) (ej_upk h1) (fun z => ej_upk (h2 z)) (fun j hj hc => ?_)
        by_cases e2 : j = i
        · subst e2; exact pk_us
        · exact ej_upk (h3 j (by omega) hc)
      · exact br_f (fun z => hb2 ((ej_hasn S hS i h7).mp z)) (h73 (fun hc => hb2 hc.2.1))
    · exact br_f (fun z => hb ((ej_has A hA i h7).mp z)) (h73 (fun hc => hb hc.1))
theorem ej_ye21 {post : SY → Prop} {t S : Nat} (hA : A < 128) (hL1 : 1 ≤ L) (hL : L ≤ 6) (w1 : ej_wn A lo f) (w2 : ej_wn A hi g) (hSA : S ≤ A) (ht : t ≤ 40) (hsh : ej_hs 4 shut B) (hP : ej_al 4 bb P) (hQ : ej_al 4 be Q)
    (k : ∀ can : Nat → Int32, ej_T L A (ej_fr L B P Q) f g t (S + 1) can → post (nI L, nI c, nI A, held, rel, dead, shut, bb, be, lo, hi, can))
    (hT : ej_T L A (ej_fr L B P Q) f g t S can) (h1 : can (t * 128 + S) = 1) (h2 : t < 40 → can ((t + 1) * 128 + S) = 1) : wY_extend_21 post (nI t) (nI S) (nI L) (nI c) (nI A) held rel dead shut bb be lo hi can := by
  unfold wY_extend_21
  refine pk_lt 40 (t + L) (fun z => k can (ej_Tnx hT (fun _ => ⟨h2, fun j _ hc => absurd hc.2.2.1 (by omega)⟩))) (fun z => ?_) rfl (nI_add _ _) (by omega) (by omega)
  refine ej_yclr hsh hP hQ hL ht (fun hf => br_f (by decide) ⟨8, ?_⟩) (fun hf => br_t rfl (k can (ej_Tnx hT (fun _ => ⟨h2, fun j _ hc => absurd hc.2.2.2.1 hf⟩))))
  exact ej_ye43 hA hL1 hL w1 w2 hSA z hf k 7 0 rfl can hT h1 h2 (fun j hj => absurd hj (by omega))
theorem ej_yext {post : SY → Prop} {t S : Nat} (hA : A < 128) (hL1 : 1 ≤ L) (hL : L ≤ 6) (w1 : ej_wn A lo f) (w2 : ej_wn A hi g) (hSA : S ≤ A) (ht : t ≤ 40) (hsh : ej_hs 4 shut B) (hP : ej_al 4 bb P) (hQ : ej_al 4 be Q)
    (k : ∀ can : Nat → Int32, ej_T L A (ej_fr L B P Q) f g t (S + 1) can → post (nI L, nI c, nI A, held, rel, dead, shut, bb, be, lo, hi, can))
    (hT : ej_T L A (ej_fr L B P Q) f g t S can) (h1 : can (t * 128 + S) = 1) : wpY_extend post (nI L, nI c, nI A, held, rel, dead, shut, bb, be, lo, hi, can) (nI t) (nI S) := by
  unfold wpY_extend
  refine pk_le 40 t (fun z => ej_ye21 hA hL1 hL w1 w2 hSA ht hsh hP hQ k hT h1 (fun z2 => by omega)) (fun z => ?_) rfl rfl (by omega) (by omega)
  have e : (nI t + 1) * 128 + nI S = nI ((t + 1) * 128 + S) := by
    rw [nI_1, show (128 : Int32) = nI 128 from rfl, pk_mul, nI_add]
  refine ⟨by rw [e]; exact vp_in_nI (by omega) (by omega), nm_r (e' := upd can ((t + 1) * 128 + S) 1) (by rw [e, nI_clamp (n := (t + 1) * 128 + S) (by omega), ej_vn1]) ?_⟩
  have hG : ej_G L (ej_fr L B P Q) f g t S ∧ ej_sub S A := by
    rcases hT.1 t S (by omega) hSA with e | ⟨_, h⟩
    · rw [e] at h1; exact absurd h1 (by decide)
    · exact h
  exact ej_ye21 hA hL1 hL w1 w2 hSA ht hsh hP hQ k (ej_Tup hT hA (by omega) (ej_Gi hG.1) hG.2) (ej_upk h1) (fun _ => pk_us)
theorem ej_yf67 {post : Int32 → SY → Prop} {J59 : Int32 → Int32 → Int32 → Int32 → (Nat → Int32) → (Nat → Int32) → (Nat → Int32) → (Nat → Int32) → (Nat → Int32) → (Nat → Int32) → (Nat → Int32) → (Nat → Int32) → (Nat → Int32) → Prop} {t : Nat} (hA : A < 128) (hL1 : 1 ≤ L) (hL : L ≤ 6) (w1 : ej_wn A lo f) (w2 : ej_wn A hi g) (ht : t ≤ 40) (hsh : ej_hs 4 shut B) (hP : ej_al 4 bb P) (hQ : ej_al 4 be Q)
    (k : ∀ can : Nat → Int32, ej_T L A (ej_fr L B P Q) f g (t + 1) 0 can → J59 (nI (t + 1)) (nI L) (nI c) (nI A) held rel dead shut bb be lo hi can) :
    ∀ d S, S + d = A + 1 → ∀ can : Nat → Int32, ej_T L A (ej_fr L B P Q) f g t S can → wY_fits_67 post J59 (nI t) (d + 1) (nI S) (nI L) (nI c) (nI A) held rel dead shut bb be lo hi can := by
  intro d
  induction d with
  | zero =>
    intro S hS can hT
    exact br_t (nI_lt (by omega) (by omega)) (nm_r (nI_1 t) (k can (ej_Trow hT (by omega))))
  | succ d ih =>
    intro S hS can hT
    have e : nI t * 128 + nI S = nI (t * 128 + S) := by
      rw [show (128 : Int32) = nI 128 from rfl, pk_mul, nI_add]
    have hcl : (nI t * 128 + nI S).toNatClampNeg = t * 128 + S := by rw [e, nI_clamp (by omega)]
    refine br_f (nI_nlt (by omega) (by omega)) (br_f (nI_ge (b := 128) (by omega) (by omega)) ⟨by rw [e]; exact vp_in_nI (by omega) (by omega), ?_⟩)
    rcases hT.1 t S ht (by omega) with z | ⟨z, _⟩
    · refine br_t (by rw [hcl]; exact z) (nm_r (nI_1 S) (ih (S + 1) (by omega) can (ej_Tnx hT (fun h => ?_))))
      rw [z] at h; exact absurd h (by decide)
    · refine br_f (by rw [hcl, z]; decide) ?_
      exact ej_yext hA hL1 hL w1 w2 (by omega) ht hsh hP hQ (fun can' hT' => nm_r (nI_1 S) (ih (S + 1) (by omega) can' hT')) hT z
theorem ej_yf59 {post : Int32 → SY → Prop} (hA : A < 128) (hL1 : 1 ≤ L) (hL : L ≤ 6) (w1 : ej_wn A lo f) (w2 : ej_wn A hi g) (hsh : ej_hs 4 shut B) (hP : ej_al 4 bb P) (hQ : ej_al 4 be Q)
    (k1 : ej_G L (ej_fr L B P Q) f g 40 A → ∀ can : Nat → Int32, post 1 (nI L, nI c, nI A, held, rel, dead, shut, bb, be, lo, hi, can)) (k0 : ¬ ej_G L (ej_fr L B P Q) f g 40 A → ∀ can : Nat → Int32, post 0 (nI L, nI c, nI A, held, rel, dead, shut, bb, be, lo, hi, can)) :
    ∀ d t, t + d = 41 → ∀ can : Nat → Int32, ej_T L A (ej_fr L B P Q) f g t 0 can → wY_fits_59 post (d + 1) (nI t) (nI L) (nI c) (nI A) held rel dead shut bb be lo hi can := by
  intro d
  induction d with
  | zero =>
    intro t ht can hT
    obtain rfl : t = 41 := by omega
    refine br_t (nI_lt (a := 40) (b := 41) (by omega) (by omega)) ?_
    have e : (5120 : Int32) + (nI A &&& 127) = nI (5120 + A) := by
      rw [ej_and127 hA, show (5120 : Int32) = nI 5120 from rfl, nI_add]
    have hcl : ((5120 : Int32) + (nI A &&& 127)).toNatClampNeg = 5120 + A := by rw [e, nI_clamp (by omega)]
    refine ⟨by rw [e]; exact vp_in_nI (by omega) (by omega), ?_⟩
    rw [hcl]
    rcases ej_Tend hT hA hL1 with ⟨z, hg⟩ | ⟨z, hg⟩
    · rw [z]; exact ⟨ej_nar1, k1 hg can⟩
    · rw [z]; exact ⟨ej_nar0, k0 hg can⟩
  | succ d ih =>
    intro t ht can hT
    refine br_f (nI_nlt (a := 40) (b := t) (by omega) (by omega)) ⟨A + 2, ?_⟩
    exact ej_yf67 hA hL1 hL w1 w2 (by omega) hsh hP hQ (fun can' hT' => ih (t + 1) (by omega) can' hT') (A + 1) 0 (by omega) can hT
theorem ej_yf10 {post : Int32 → SY → Prop} {J2 : Int32 → (Nat → Int32) → (Nat → Int32) → (Nat → Int32) → (Nat → Int32) → (Nat → Int32) → (Nat → Int32) → (Nat → Int32) → (Nat → Int32) → (Nat → Int32) → Prop} {t : Nat} (hA : A < 128) (ht : t ≤ 40)
    (k : ∀ can : Nat → Int32, (∀ t' S', t' < t + 1 → S' ≤ A → can (t' * 128 + S') = 0) → J2 (nI (t + 1)) held rel dead shut bb be lo hi can) :
    ∀ d S, S + d = A + 1 → ∀ can : Nat → Int32, (∀ t' S', S' ≤ A → (t' < t ∨ (t' = t ∧ S' < S)) → can (t' * 128 + S') = 0) → wY_fits_10 post J2 (nI t) (nI L) (nI c) (nI A) (d + 1) (nI S) held rel dead shut bb be lo hi can := by
  intro d
  induction d with
  | zero =>
    intro S hS can h
    exact br_t (nI_lt (by omega) (by omega)) (nm_r (nI_1 t) (k can (fun t' S' q1 q2 => h t' S' q2 (by omega))))
  | succ d ih =>
    intro S hS can h
    have e : nI t * 128 + nI S = nI (t * 128 + S) := by
      rw [show (128 : Int32) = nI 128 from rfl, pk_mul, nI_add]
    refine br_f (nI_nlt (by omega) (by omega)) (br_f (nI_ge (b := 128) (by omega) (by omega)) ⟨by rw [e]; exact vp_in_nI (by omega) (by omega), nm_r (e' := upd can (t * 128 + S) 0) (by rw [e, nI_clamp (n := t * 128 + S) (by omega), ej_vn0]) (nm_r (nI_1 S) (ih (S + 1) (by omega) _ (fun t' S' q1 q2 => ?_)))⟩)
    by_cases z : t' * 128 + S' = t * 128 + S
    · rw [z]; exact pk_us
    · rw [pk_un z]
      have : ¬ (t' = t ∧ S' = S) := fun w => z (by rw [w.1, w.2])
      exact h t' S' q1 (by omega)
theorem ej_yf2 {post : Int32 → SY → Prop} (hA : A < 128) (hL1 : 1 ≤ L) (hL : L ≤ 6) (w1 : ej_wn A lo f) (w2 : ej_wn A hi g) (hsh : ej_hs 4 shut B) (hP : ej_al 4 bb P) (hQ : ej_al 4 be Q)
    (k1 : ej_G L (ej_fr L B P Q) f g 40 A → ∀ can : Nat → Int32, post 1 (nI L, nI c, nI A, held, rel, dead, shut, bb, be, lo, hi, can)) (k0 : ¬ ej_G L (ej_fr L B P Q) f g 40 A → ∀ can : Nat → Int32, post 0 (nI L, nI c, nI A, held, rel, dead, shut, bb, be, lo, hi, can)) :
    ∀ d t, t + d = 41 → ∀ can : Nat → Int32, (∀ t' S', t' < t → S' ≤ A → can (t' * 128 + S') = 0) → wY_fits_2 post (nI L) (nI c) (nI A) (d + 1) (nI t) held rel dead shut bb be lo hi can := by
  intro d
  induction d with
  | zero =>
    intro t ht can h
    obtain rfl : t = 41 := by omega
    refine br_t (nI_lt (a := 40) (b := 41) (by omega) (by omega)) (nm_r (e' := upd can 0 1) (by rw [ej_vn1]) ⟨42, ?_⟩)
    refine ej_yf59 hA hL1 hL w1 w2 hsh hP hQ k1 k0 41 0 rfl _ ⟨fun t' S' q1 q2 => ?_, pk_us, fun t' S' q1 q2 q3 => by omega⟩
    by_cases z : t' * 128 + S' = 0
    · obtain ⟨rfl, rfl⟩ : t' = 0 ∧ S' = 0 := by omega
      exact Or.inr ⟨pk_us, ej_G0, fun j hj => absurd hj (by rw [Nat.zero_testBit]; decide)⟩
    · rw [pk_un z]; exact Or.inl (h t' S' (by omega) q2)
  | succ d ih =>
    intro t ht can h
    refine br_f (nI_nlt (a := 40) (b := t) (by omega) (by omega)) ⟨A + 2, ?_⟩
    refine ej_yf10 hA (by omega) (fun can' h' => ih (t + 1) (by omega) can' h') (A + 1) 0 (by omega) can (fun t' S' q1 q2 => h t' S' (by omega) q1)
theorem ej_yfits {post : Int32 → SY → Prop} (hA : A < 128) (hL1 : 1 ≤ L) (hL : L ≤ 6) (w1 : ej_wn A lo f) (w2 : ej_wn A hi g) (hsh : ej_hs 4 shut B) (hP : ej_al 4 bb P) (hQ : ej_al 4 be Q)
    (k1 : ej_G L (ej_fr L B P Q) f g 40 A → ∀ can : Nat → Int32, post 1 (nI L, nI c, nI A, held, rel, dead, shut, bb, be, lo, hi, can)) (k0 : ¬ ej_G L (ej_fr L B P Q) f g 40 A → ∀ can : Nat → Int32, post 0 (nI L, nI c, nI A, held, rel, dead, shut, bb, be, lo, hi, can)) : wpY_fits post (nI L, nI c, nI A, held, rel, dead, shut, bb, be, lo, hi, can) := by
  unfold wpY_fits
  exact ⟨42, ej_yf2 hA hL1 hL w1 w2 hsh hP hQ k1 k0 41 0 rfl can (fun t' S' q1 => by omega)⟩
end
