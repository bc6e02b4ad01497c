section
/-! rows to paste of the kit, and bits -/
theorem pk_us {f : Nat → Int32} {k : Nat} {x : Int32} : upd f k x k = x := if_pos rfl
theorem pk_un {f : Nat → Int32} {k j : Nat} {x : Int32} (h : j ≠ k) : upd f k x j = f j := if_neg h
theorem pk_sub {a b : Nat} (h : b ≤ a) : nI a - nI b = nI (a - b) := by
  obtain ⟨c, rfl⟩ : ∃ c, a = c + b := ⟨a - b, by omega⟩
  rw [← nI_add, Int32.add_sub_cancel, Nat.add_sub_cancel]
theorem pk_m1 (n : Nat) : nI (n + 1) + (-1) = nI n := by
  rw [← nI_1, Int32.add_assoc, show (1 : Int32) + (-1) = 0 from rfl, Int32.add_zero]
theorem pk_mul (a b : Nat) : nI a * nI b = nI (a * b) := (Int32.ofNat_mul a b).symm
theorem pk_sub_toInt {a b : Nat} (ha : a < 2 ^ 30) (hb : b < 2 ^ 30) : (nI a - nI b).toInt = (a : Int) - b := by
  rw [Int32.toInt_sub, nI_toInt (by omega), nI_toInt (by omega)]
  exact Int.bmod_eq_of_le (by omega) (by omega)
theorem pk_le {x y : Int32} {A B : Prop} (a b : Nat) (f : a ≤ b → A) (g : b < a → B) (hx : x = nI a := by rfl) (hy : y = nI b := by rfl) (ha : a < 2 ^ 31 := by omega) (hb : b < 2 ^ 31 := by omega) : (x ≤ y → A) ∧ (¬ x ≤ y → B) := by
  subst hx hy
  rw [nI_leI ha hb]
  exact ⟨f, fun z => g (by omega)⟩
theorem pk_lt {x y : Int32} {A B : Prop} (a b : Nat) (f : a < b → A) (g : b ≤ a → B) (hx : x = nI a := by rfl) (hy : y = nI b := by rfl) (ha : a < 2 ^ 31 := by omega) (hb : b < 2 ^ 31 := by omega) : (x < y → A) ∧ (¬ x < y → B) := by
  subst hx hy
  rw [nI_ltI ha hb]
  exact ⟨f, fun z => g (by omega)⟩
theorem pk_eq {x y : Int32} {A B : Prop} (a b : Nat) (f : a = b → A) (g : a ≠ b → B) (hx : x = nI a := by rfl) (hy : y = nI b := by rfl) (ha : a < 2 ^ 31 := by omega) (hb : b < 2 ^ 31 := by omega) : (x = y → A) ∧ (¬ x = y → B) := by
  subst hx hy
  rw [nI_eq ha hb]
  exact ⟨f, g⟩
theorem pk_in {x : Int32} (n N : Nat) (h : n < N) (hx : x = nI n := by rfl) (hN : N < 2 ^ 31 := by omega) : vp_in x N := by
  subst hx
  exact vp_in_nI h hN
theorem pk_cl {x : Int32} (n : Nat) (hx : x = nI n := by rfl) (h : n < 2 ^ 31 := by omega) : x.toNatClampNeg = n := by
  subst hx
  exact nI_clamp h
theorem nx_and (a b : Nat) : nI a &&& nI b = nI (a &&& b) := by
  apply Int32.toBitVec_inj.1
  show BitVec.ofNat 32 a &&& BitVec.ofNat 32 b = BitVec.ofNat 32 (a &&& b)
  apply BitVec.eq_of_getLsbD_eq
  intro i hi
  simp [hi]
theorem nx_xor (a b : Nat) : nI a ^^^ nI b = nI (a ^^^ b) := by
  apply Int32.toBitVec_inj.1
  show BitVec.ofNat 32 a ^^^ BitVec.ofNat 32 b = BitVec.ofNat 32 (a ^^^ b)
  apply BitVec.eq_of_getLsbD_eq
  intro i hi
  simp [hi]
theorem ej_nt {x : Bool} (h : ¬ x = true) : x = false := by cases x <;> first | rfl | exact absurd rfl h
theorem ej_nf {x : Bool} (h : ¬ x = false) : x = true := by cases x <;> first | rfl | exact absurd rfl h
/-! sets of slots as naturals below 128 -/
def ej_sub (S A : Nat) : Prop := ∀ j, S.testBit j = true → A.testBit j = true
def ej_rm (S j : Nat) : Nat := S &&& (2 ^ j ^^^ 4294967295)
theorem ej_big {S i : Nat} (h : S < 128) (hi : 7 ≤ i) : S.testBit i = false :=
  Nat.testBit_lt_two_pow (Nat.lt_of_lt_of_le h (Nat.pow_le_pow_right (n := 2) (by decide) hi))
theorem ej_lt7 {S i : Nat} (h : S < 128) (hb : S.testBit i = true) : i < 7 := by
  rcases Nat.lt_or_ge i 7 with z | z
  · exact z
  · rw [ej_big h z] at hb; exact absurd hb (by decide)
theorem ej_big6 {S i : Nat} (h : S < 64) (hi : 6 ≤ i) : S.testBit i = false :=
  Nat.testBit_lt_two_pow (Nat.lt_of_lt_of_le h (Nat.pow_le_pow_right (n := 2) (by decide) hi))
theorem ej_lt6 {S i : Nat} (h : S < 64) (hb : S.testBit i = true) : i < 6 := by
  rcases Nat.lt_or_ge i 6 with z | z
  · exact z
  · rw [ej_big6 h z] at hb; exact absurd hb (by decide)
theorem ej_orl {S j : Nat} (h : S < 128) (hj : j < 7) : S ||| 2 ^ j < 128 :=
  Nat.or_lt_two_pow (n := 7) h (Nat.pow_lt_pow_right (a := 2) (by decide) hj)
theorem ej_orl6 {S j : Nat} (h : S < 64) (hj : j < 6) : S ||| 2 ^ j < 64 :=
  Nat.or_lt_two_pow (n := 6) h (Nat.pow_lt_pow_right (a := 2) (by decide) hj)
theorem ej_orb (S j i : Nat) : (S ||| 2 ^ j).testBit i = (S.testBit i || decide (j = i)) := by
  rw [Nat.testBit_or, Nat.testBit_two_pow]
theorem ej_orj (S j : Nat) : (S ||| 2 ^ j).testBit j = true := by rw [ej_orb]; simp
theorem ej_orn {S j i : Nat} (h : j ≠ i) : (S ||| 2 ^ j).testBit i = S.testBit i := by rw [ej_orb]; simp [h]
theorem ej_orm {S j i : Nat} (h : S.testBit i = true) : (S ||| 2 ^ j).testBit i = true := by rw [ej_orb, h]; rfl
theorem ej_rmb {S : Nat} (h : S < 128) (j i : Nat) : (ej_rm S j).testBit i = (S.testBit i && !(decide (j = i))) := by
  unfold ej_rm
  rw [Nat.testBit_and, Nat.testBit_xor, Nat.testBit_two_pow, show (4294967295 : Nat) = 2 ^ 32 - 1 from rfl, Nat.testBit_two_pow_sub_one]
  rcases Nat.lt_or_ge i 32 with z | z
  · simp [z]
  · rw [ej_big h (by omega)]; rfl
theorem ej_rmj {S : Nat} (h : S < 128) (j : Nat) : (ej_rm S j).testBit j = false := by rw [ej_rmb h]; simp
theorem ej_rmn {S : Nat} (h : S < 128) {j i : Nat} (hn : j ≠ i) : (ej_rm S j).testBit i = S.testBit i := by rw [ej_rmb h]; simp [hn]
theorem ej_rmle (S j : Nat) : ej_rm S j ≤ S := Nat.and_le_left
theorem ej_rmlt {S : Nat} (h : S < 128) {j : Nat} (hj : S.testBit j = true) : ej_rm S j < S := by
  rcases Nat.lt_or_ge (ej_rm S j) S with z | z
  · exact z
  · have e : ej_rm S j = S := Nat.le_antisymm (ej_rmle S j) z
    have := ej_rmj h j
    rw [e, hj] at this
    exact absurd this (by decide)
theorem ej_rmor {S : Nat} (h : S < 128) {j : Nat} (hj : S.testBit j = true) : ej_rm S j ||| 2 ^ j = S := by
  apply Nat.eq_of_testBit_eq
  intro i
  rw [ej_orb, ej_rmb h]
  by_cases e : j = i
  · subst e; simp [hj]
  · simp [e]
theorem ej_orrm {S : Nat} (h : S < 128) {j : Nat} (h7 : j < 7) (hj : S.testBit j = false) : ej_rm (S ||| 2 ^ j) j = S := by
  apply Nat.eq_of_testBit_eq
  intro i
  rw [ej_rmb (ej_orl h h7), ej_orb]
  by_cases e : j = i
  · subst e; simp [hj]
  · simp [e]
theorem ej_subrm {S W : Nat} (h : S < 128) (hs : ej_sub S W) (j : Nat) : ej_sub (ej_rm S j) W := by
  intro i hi
  rw [ej_rmb h] at hi
  apply hs
  revert hi
  cases S.testBit i <;> simp
theorem ej_suble {S A : Nat} (h : ej_sub S A) : S ≤ A := Nat.le_of_testBit h
theorem ej_subor {S A j : Nat} (h : ej_sub S A) (hj : A.testBit j = true) : ej_sub (S ||| 2 ^ j) A := by
  intro i hi
  by_cases e : j = i
  · subst e; exact hj
  · rw [ej_orn e] at hi; exact h i hi
/-! the same in Int32 -/
theorem ej_p2 : ∀ j, j < 7 → (1 : Int32) <<< (nI j &&& 31) = nI (2 ^ j) := by decide +kernel
theorem ej_or {S j : Nat} (hj : j < 7) : nI S ||| ((1 : Int32) <<< (nI j &&& 31)) = nI (S ||| 2 ^ j) := by
  rw [ej_p2 j hj]
  apply Int32.toBitVec_inj.1
  show BitVec.ofNat 32 S ||| BitVec.ofNat 32 (2 ^ j) = BitVec.ofNat 32 (S ||| 2 ^ j)
  apply BitVec.eq_of_getLsbD_eq
  intro i hi
  simp [hi]
theorem ej_m1 : (-1 : Int32) = nI 4294967295 := by decide +kernel
theorem ej_rmI {S j : Nat} (hj : j < 7) : nI S &&& (((1 : Int32) <<< (nI j &&& 31)) ^^^ (-1)) = nI (ej_rm S j) := by
  rw [ej_p2 j hj, ej_m1, nx_xor, nx_and]
  rfl
theorem ej_has : ∀ S, S < 128 → ∀ j, j < 7 → ((((nI S >>> (nI j &&& 31)) &&& 1) = 1) ↔ S.testBit j = true) := by decide +kernel
theorem ej_hasn : ∀ S, S < 128 → ∀ j, j < 7 → ((((nI S >>> (nI j &&& 31)) &&& 1) = 0) ↔ S.testBit j = false) := by decide +kernel
theorem ej_sbI {S W : Nat} (hS : S < 128) : (nI S &&& (nI W ^^^ (-1))) = 0 ↔ ej_sub S W := by
  rw [ej_m1, nx_xor, nx_and, ← nI_0, nI_eq (Nat.lt_of_le_of_lt Nat.and_le_left (by omega)) (by decide)]
  constructor
  · intro h j hj
    have e : (S &&& (W ^^^ 4294967295)).testBit j = false := by rw [h]; exact Nat.zero_testBit j
    rw [Nat.testBit_and, Nat.testBit_xor, hj, show (4294967295 : Nat) = 2 ^ 32 - 1 from rfl, Nat.testBit_two_pow_sub_one] at e
    have := ej_lt7 hS hj
    revert e
    cases W.testBit j
    · simp; omega
    · simp
  · intro h
    apply Nat.eq_of_testBit_eq
    intro j
    rw [Nat.zero_testBit, Nat.testBit_and, Nat.testBit_xor, show (4294967295 : Nat) = 2 ^ 32 - 1 from rfl, Nat.testBit_two_pow_sub_one]
    by_cases hj : S.testBit j = true
    · have := ej_lt7 hS hj
      rw [h j hj, hj, decide_eq_true (by omega)]; rfl
    · rw [ej_nt hj]; rfl
theorem ej_and127 {A : Nat} (h : A < 128) : nI A &&& 127 = nI A := by
  show nI A &&& nI 127 = nI A
  rw [nx_and, show (127 : Nat) = 2 ^ 7 - 1 from rfl, Nat.and_two_pow_sub_one_eq_mod, Nat.mod_eq_of_lt h]
theorem ej_nar0 : narrow .boolean (.int 0) = .int 0 := by decide
theorem ej_nar1 : narrow .boolean (.int 1) = .int 1 := by decide
theorem ej_vn0 : vp_nar .boolean 0 = 0 := by decide
theorem ej_vn1 : vp_nar .boolean 1 = 1 := by decide
theorem ej_at {a : Nat → Int32} {i : Nat} (h : i < 2 ^ 31) : a (nI i).toNatClampNeg = a i := by rw [nI_clamp h]
/-! arrays that show natural numbers, up to 40 -/
def ej_nu (f : Nat → Nat) (k v : Nat) : Nat → Nat := fun j => if j = k then v else f j
theorem ej_nus {f : Nat → Nat} {k v : Nat} : ej_nu f k v k = v := if_pos rfl
theorem ej_nun {f : Nat → Nat} {k v j : Nat} (h : j ≠ k) : ej_nu f k v j = f j := if_neg h
def ej_al (n : Nat) (a : Nat → Int32) (f : Nat → Nat) : Prop := ∀ j, j < n → a j = nI (f j) ∧ f j ≤ 40
def ej_wn (W : Nat) (a : Nat → Int32) (f : Nat → Nat) : Prop := ∀ j, j < 7 → W.testBit j = true → a j = nI (f j) ∧ f j ≤ 40
def ej_hs (n : Nat) (a : Nat → Int32) (H : Nat) : Prop := ∀ j, j < n → a j = if H.testBit j = true then 1 else 0
theorem ej_alu {n : Nat} {a : Nat → Int32} {f : Nat → Nat} {k v : Nat} (h : ej_al n a f) (hv : v ≤ 40) : ej_al n (upd a k (nI v)) (ej_nu f k v) := by
  intro j hj
  by_cases e : j = k
  · subst e; rw [pk_us, ej_nus]; exact ⟨rfl, hv⟩
  · rw [pk_un e, ej_nun e]; exact h j hj
theorem ej_wnu {W : Nat} {a : Nat → Int32} {f : Nat → Nat} {k v : Nat} (h : ∀ j, j < 7 → j ≠ k → W.testBit j = true → a j = nI (f j) ∧ f j ≤ 40) (hv : v ≤ 40) : ej_wn W (upd a k (nI v)) (ej_nu f k v) := by
  intro j hj hb
  by_cases e : j = k
  · subst e; rw [pk_us, ej_nus]; exact ⟨rfl, hv⟩
  · rw [pk_un e, ej_nun e]; exact h j hj e hb
theorem ej_hs1 {n : Nat} {a : Nat → Int32} {H j : Nat} (h : ej_hs n a H) (hj : j < n) (hb : H.testBit j = true) : a j = 1 := by rw [h j hj, if_pos hb]
theorem ej_hs0 {n : Nat} {a : Nat → Int32} {H j : Nat} (h : ej_hs n a H) (hj : j < n) (hb : H.testBit j = false) : a j = 0 := by rw [h j hj, hb]; rfl
theorem ej_hsor {n : Nat} {a : Nat → Int32} {H k : Nat} (h : ej_hs n a H) : ej_hs n (upd a k 1) (H ||| 2 ^ k) := by
  intro j hj
  by_cases e : j = k
  · subst e; rw [pk_us, ej_orj]; rfl
  · rw [pk_un e, ej_orn (Ne.symm e)]; exact h j hj
theorem ej_hsrm {n : Nat} {a : Nat → Int32} {H k : Nat} (hH : H < 128) (h : ej_hs n a H) : ej_hs n (upd a k 0) (ej_rm H k) := by
  intro j hj
  by_cases e : j = k
  · subst e; rw [pk_us, ej_rmj hH]; rfl
  · rw [pk_un e, ej_rmn hH (Ne.symm e)]; exact h j hj
end
section
/-! which sets of slots can be done by which time: the least set closed under waiting and under one job more -/
def ej_fr (L B : Nat) (P Q : Nat → Nat) (t : Nat) : Prop := ∀ k, k < 4 → B.testBit k = true → ¬ (P k < t + L ∧ t < Q k)
def ej_Cl (L : Nat) (fr : Nat → Prop) (lo hi : Nat → Nat) (C : Nat → Nat → Prop) : Prop :=
  C 0 0 ∧ (∀ t S, C t S → C (t + 1) S) ∧ (∀ t S j, C t S → j < 7 → S.testBit j = false → fr t → lo j ≤ t → t + L ≤ hi j → C (t + L) (S ||| 2 ^ j))
def ej_G (L : Nat) (fr : Nat → Prop) (lo hi : Nat → Nat) (t S : Nat) : Prop := ∀ C, ej_Cl L fr lo hi C → C t S
section
variable {L : Nat} {fr : Nat → Prop} {lo hi : Nat → Nat}
theorem ej_G0 : ej_G L fr lo hi 0 0 := fun _ h => h.1
theorem ej_Gi {t S : Nat} (g : ej_G L fr lo hi t S) : ej_G L fr lo hi (t + 1) S := fun C h => h.2.1 t S (g C h)
theorem ej_Ga {t S j : Nat} (g : ej_G L fr lo hi t S) (hj : j < 7) (hb : S.testBit j = false) (hf : fr t) (h1 : lo j ≤ t) (h2 : t + L ≤ hi j) : ej_G L fr lo hi (t + L) (S ||| 2 ^ j) :=
  fun C h => h.2.2 t S j (g C h) hj hb hf h1 h2
theorem ej_Gup {t t' S : Nat} (g : ej_G L fr lo hi t S) (h : t ≤ t') : ej_G L fr lo hi t' S := by
  obtain ⟨d, rfl⟩ : ∃ d, t' = t + d := ⟨t' - t, by omega⟩
  clear h
  induction d with
  | zero => exact g
  | succ d ih => exact ej_Gi ih
theorem ej_Glt {t S : Nat} (g : ej_G L fr lo hi t S) : S < 128 :=
  g (fun _ S => S < 128) ⟨by decide, fun _ _ h => h, fun _ _ _ h hj _ _ _ _ => ej_orl h hj⟩
/-- the last job -/
theorem ej_Ginv {t S : Nat} (g : ej_G L fr lo hi t S) : S = 0 ∨ ∃ i s, i < 7 ∧ S.testBit i = true ∧ s + L ≤ t ∧ ej_G L fr lo hi s (ej_rm S i) ∧ fr s ∧ lo i ≤ s ∧ s + L ≤ hi i := by
  have h := g (fun t S => ej_G L fr lo hi t S ∧ (S = 0 ∨ ∃ i s, i < 7 ∧ S.testBit i = true ∧ s + L ≤ t ∧ ej_G L fr lo hi s (ej_rm S i) ∧ fr s ∧ lo i ≤ s ∧ s + L ≤ hi i)) ?_
  · exact h.2
  refine ⟨⟨ej_G0, Or.inl rfl⟩, ?_, ?_⟩
  · rintro t S ⟨g, h⟩
    refine ⟨ej_Gi g, ?_⟩
    rcases h with h | ⟨i, s, h1, h2, h3, h4⟩
    · exact Or.inl h
    · exact Or.inr ⟨i, s, h1, h2, by omega, h4⟩
  · rintro t S j ⟨g, _⟩ hj hb hf h1 h2
    refine ⟨ej_Ga g hj hb hf h1 h2, Or.inr ⟨j, t, hj, ej_orj S j, Nat.le_refl _, ?_, hf, h1, h2⟩⟩
    rw [ej_orrm (ej_Glt g) hj hb]
    exact g
theorem ej_Gadd {t S i : Nat} (hS : S < 128) (h7 : i < 7) (hi' : S.testBit i = true) (g : ej_G L fr lo hi t (ej_rm S i)) (hf : fr t) (h1 : lo i ≤ t) (h2 : t + L ≤ hi i) : ej_G L fr lo hi (t + L) S := by
  have h := ej_Ga g h7 (ej_rmj hS i) hf h1 h2
  rw [ej_rmor hS hi'] at h
  exact h
theorem ej_Gmono {fr' : Nat → Prop} {lo' hi' : Nat → Nat} {t S : Nat} (g : ej_G L fr lo hi t S) (hf : ∀ t, fr t → fr' t) (hw : ∀ j, j < 7 → S.testBit j = true → lo' j ≤ lo j ∧ hi j ≤ hi' j) : ej_G L fr' lo' hi' t S := by
  refine g (fun t S => (∀ j, j < 7 → S.testBit j = true → lo' j ≤ lo j ∧ hi j ≤ hi' j) → ej_G L fr' lo' hi' t S) ⟨fun _ => ej_G0, fun t S h w => ej_Gi (h w), ?_⟩ hw
  intro t S j h hj hb hft h1 h2 w
  have w1 := w j hj (ej_orj S j)
  exact ej_Ga (h (fun i hi hb => w i hi (ej_orm hb))) hj hb (hf t hft) (by omega) (by omega)
theorem ej_Geq {fr' : Nat → Prop} {lo' hi' : Nat → Nat} {t S : Nat} (hf : ∀ t, fr t ↔ fr' t) (hw : ∀ j, j < 7 → S.testBit j = true → lo j = lo' j ∧ hi j = hi' j) : ej_G L fr lo hi t S ↔ ej_G L fr' lo' hi' t S := by
  constructor
  · intro g
    exact ej_Gmono g (fun t => (hf t).mp) (fun j hj hb => by have := hw j hj hb; omega)
  · intro g
    exact ej_Gmono g (fun t => (hf t).mpr) (fun j hj hb => by have := hw j hj hb; omega)
/-- one job less -/
theorem ej_Grm {t S : Nat} (i : Nat) (g : ej_G L fr lo hi t S) : ej_G L fr lo hi t (ej_rm S i) := by
  have h := g (fun t S => S < 128 ∧ ej_G L fr lo hi t (ej_rm S i)) ?_
  · exact h.2
  refine ⟨⟨by decide, ?_⟩, fun t S h => ⟨h.1, ej_Gi h.2⟩, ?_⟩
  · have e : ej_rm 0 i = 0 := Nat.le_zero.mp (ej_rmle 0 i)
    rw [e]; exact ej_G0
  · rintro t S j ⟨hS, g⟩ hj hb hf h1 h2
    refine ⟨ej_orl hS hj, ?_⟩
    by_cases e : i = j
    · subst e
      rw [ej_orrm hS hj hb]
      have e2 : ej_rm S i = S := by
        apply Nat.eq_of_testBit_eq
        intro k
        rw [ej_rmb hS]
        by_cases e : i = k
        · subst e; simp [hb]
        · simp [e]
      rw [e2] at g
      exact ej_Gup g (by omega)
    · have e2 : ej_rm (S ||| 2 ^ j) i = ej_rm S i ||| 2 ^ j := by
        apply Nat.eq_of_testBit_eq
        intro k
        rw [ej_rmb (ej_orl hS hj), ej_orb, ej_orb, ej_rmb hS]
        by_cases e3 : i = k
        · subst e3; simp; omega
        · simp [e3]
      rw [e2]
      exact ej_Ga g hj (by rw [ej_rmn hS e]; exact hb) hf h1 h2
/-- deadlines cut at e -/
theorem ej_Gcut {e S : Nat} (he : e ≤ 40) : ej_G L fr lo (fun j => if e ≤ hi j then e else hi j) 40 S ↔ ej_G L fr lo hi e S := by
  constructor
  · intro g
    have h := g (fun t S => ej_G L fr lo hi t S ∧ ej_G L fr lo hi e S) ?_
    · exact h.2
    refine ⟨⟨ej_G0, ej_Gup ej_G0 (by omega)⟩, fun t S h => ⟨ej_Gi h.1, h.2⟩, ?_⟩
    rintro t S j ⟨g, _⟩ hj hb hf h1 h2
    have h3 : t + L ≤ e ∧ t + L ≤ hi j := by
      dsimp only at h2
      split at h2 <;> omega
    have g2 := ej_Ga g hj hb hf h1 h3.2
    exact ⟨g2, ej_Gup g2 h3.1⟩
  · intro g
    have h := g (fun t S => t ≤ e → ej_G L fr lo (fun j => if e ≤ hi j then e else hi j) t S) ⟨fun _ => ej_G0, fun t S h ht => ej_Gi (h (by omega)), ?_⟩ (Nat.le_refl e)
    · exact ej_Gup h he
    intro t S j h hj hb hf h1 h2 ht
    refine ej_Ga (h (by omega)) hj hb hf h1 ?_
    split <;> omega
/-- one job pinned -/
theorem ej_Gpin {t S i : Nat} (g : ej_G L fr lo hi t S) (hi' : S.testBit i = true) : ∃ s, lo i ≤ s ∧ s + L ≤ hi i ∧ ej_G L fr (ej_nu lo i s) (ej_nu hi i (s + L)) t S := by
  have h := g (fun t S => ej_G L fr lo hi t S ∧ (S.testBit i = true → ∃ s, lo i ≤ s ∧ s + L ≤ hi i ∧ ej_G L fr (ej_nu lo i s) (ej_nu hi i (s + L)) t S)) ?_
  · exact h.2 hi'
  refine ⟨⟨ej_G0, fun h => absurd h (by rw [Nat.zero_testBit]; decide)⟩, ?_, ?_⟩
  · rintro t S ⟨g, h⟩
    refine ⟨ej_Gi g, fun hb => ?_⟩
    obtain ⟨s, h1, h2, h3⟩ := h hb
    exact ⟨s, h1, h2, ej_Gi h3⟩
  · rintro t S j ⟨g, h⟩ hj hb hf h1 h2
    refine ⟨ej_Ga g hj hb hf h1 h2, fun hb2 => ?_⟩
    by_cases e : i = j
    · subst e
      refine ⟨t, h1, h2, ?_⟩
      refine ej_Ga ?_ hj hb hf (by rw [ej_nus]; exact Nat.le_refl _) (by rw [ej_nus]; exact Nat.le_refl _)
      refine ej_Gmono g (fun _ h => h) (fun k _ hk => ?_)
      have : k ≠ i := by rintro rfl; rw [hb] at hk; exact absurd hk (by decide)
      rw [ej_nun this, ej_nun this]
      exact ⟨Nat.le_refl _, Nat.le_refl _⟩
    · rw [ej_orn (Ne.symm e)] at hb2
      obtain ⟨s, h3, h4, h5⟩ := h hb2
      refine ⟨s, h3, h4, ej_Ga h5 hj hb hf ?_ ?_⟩
      · rw [ej_nun (Ne.symm e)]; exact h1
      · rw [ej_nun (Ne.symm e)]; exact h2
end
/-! slot i and slot 6 change places -/
def ej_sp (i j : Nat) : Nat := if j = i then 6 else if j = 6 then i else j
def ej_sw (i S : Nat) : Nat := if S.testBit i = S.testBit 6 then S else S ^^^ (2 ^ i ^^^ 2 ^ 6)
theorem ej_spsp {i : Nat} (j : Nat) : ej_sp i (ej_sp i j) = j := by
  unfold ej_sp
  by_cases h1 : j = i
  · subst h1; simp
  · by_cases h2 : j = 6
    · subst h2; simp [h1]
    · simp [h1, h2]
theorem ej_splt {i j : Nat} (hi : i < 7) (hj : j < 7) : ej_sp i j < 7 := by
  unfold ej_sp
  split
  · omega
  · split <;> omega
theorem ej_swb (i S j : Nat) : (ej_sw i S).testBit j = S.testBit (ej_sp i j) := by
  unfold ej_sw ej_sp
  by_cases h : S.testBit i = S.testBit 6
  · rw [if_pos h]
    split
    · rename_i e; rw [e, h]
    · split
      · rename_i e; rw [e, h]
      · rfl
  · rw [if_neg h, Nat.testBit_xor, Nat.testBit_xor, Nat.testBit_two_pow, Nat.testBit_two_pow]
    have h6 : i ≠ 6 := by rintro rfl; exact h rfl
    by_cases e1 : j = i
    · subst e1
      rw [if_pos rfl, decide_eq_true rfl, decide_eq_false (Ne.symm h6)]
      revert h
      cases S.testBit j <;> cases S.testBit 6 <;> simp
    · by_cases e2 : j = 6
      · subst e2
        rw [if_neg e1, if_pos rfl, decide_eq_false h6, decide_eq_true rfl]
        revert h
        cases S.testBit i <;> cases S.testBit 6 <;> simp
      · rw [if_neg e1, if_neg e2, decide_eq_false (Ne.symm e1), decide_eq_false (Ne.symm e2)]
        simp
theorem ej_swor (i S j : Nat) : ej_sw i (S ||| 2 ^ j) = ej_sw i S ||| 2 ^ (ej_sp i j) := by
  apply Nat.eq_of_testBit_eq
  intro k
  rw [ej_swb, ej_orb, ej_orb, ej_swb]
  congr 1
  by_cases h : j = ej_sp i k
  · rw [decide_eq_true h, decide_eq_true]
    rw [h, ej_spsp]
  · rw [decide_eq_false h, decide_eq_false]
    intro h2
    apply h
    rw [← h2, ej_spsp]
theorem ej_Gsw {L : Nat} {fr : Nat → Prop} {lo hi lo' hi' : Nat → Nat} {t S i : Nat} (hi7 : i < 7) (g : ej_G L fr lo hi t S) (hw : ∀ j, j < 7 → S.testBit j = true → lo' (ej_sp i j) = lo j ∧ hi' (ej_sp i j) = hi j) : ej_G L fr lo' hi' t (ej_sw i S) := by
  refine g (fun t S => (∀ j, j < 7 → S.testBit j = true → lo' (ej_sp i j) = lo j ∧ hi' (ej_sp i j) = hi j) → ej_G L fr lo' hi' t (ej_sw i S)) ⟨fun _ => ?_, fun t S h w => ej_Gi (h w), ?_⟩ hw
  · have e : ej_sw i 0 = 0 := by
      apply Nat.eq_of_testBit_eq
      intro j
      rw [ej_swb, Nat.zero_testBit, Nat.zero_testBit]
    rw [e]; exact ej_G0
  · intro t S j h hj hb hf h1 h2 w
    have w1 := w j hj (ej_orj S j)
    rw [ej_swor]
    exact ej_Ga (h (fun k hk hb => w k hk (ej_orm hb))) (ej_splt hi7 hj) (by rw [ej_swb, ej_spsp]; exact hb) hf (by omega) (by omega)
/-- the tried job in slot i, free in H, or in slot 6 -/
theorem ej_Gtry {L : Nat} {fr : Nat → Prop} {lo hi : Nat → Nat} {t H i r d : Nat} (hH : H < 64) (hi6 : i < 6) (hb : H.testBit i = false) :
    ej_G L fr (ej_nu lo i r) (ej_nu hi i d) t (H ||| 2 ^ i) ↔ ej_G L fr (ej_nu lo 6 r) (ej_nu hi 6 d) t (H ||| 2 ^ 6) := by
  have h6 : H.testBit 6 = false := ej_big6 hH (Nat.le_refl _)
  have e1 : ej_sw i H = H := by unfold ej_sw; rw [hb, h6]; rfl
  have s1 : ej_sp i i = 6 := if_pos rfl
  have s2 : ej_sp i 6 = i := by unfold ej_sp; rw [if_neg (by omega), if_pos rfl]
  constructor
  · intro g
    have h := ej_Gsw (i := i) (lo' := ej_nu lo 6 r) (hi' := ej_nu hi 6 d) (by omega) g ?_
    · rw [ej_swor, e1, s1] at h; exact h
    · intro j hj hjb
      by_cases e : j = i
      · subst e; rw [s1, ej_nus, ej_nus, ej_nus, ej_nus]; exact ⟨rfl, rfl⟩
      · rw [ej_orn (Ne.symm e)] at hjb
        have : j < 6 := ej_lt6 hH hjb
        have s3 : ej_sp i j = j := by unfold ej_sp; rw [if_neg e, if_neg (by omega)]
        rw [s3, ej_nun e, ej_nun e, ej_nun (by omega), ej_nun (by omega)]; exact ⟨rfl, rfl⟩
  · intro g
    have h := ej_Gsw (i := i) (lo' := ej_nu lo i r) (hi' := ej_nu hi i d) (by omega) g ?_
    · rw [ej_swor, e1, s2] at h; exact h
    · intro j hj hjb
      by_cases e : j = 6
      · subst e; rw [s2, ej_nus, ej_nus, ej_nus, ej_nus]; exact ⟨rfl, rfl⟩
      · rw [ej_orn (Ne.symm e)] at hjb
        have e2 : j ≠ i := by rintro rfl; rw [hb] at hjb; exact absurd hjb (by decide)
        have s3 : ej_sp i j = j := by unfold ej_sp; rw [if_neg e2, if_neg e]
        rw [s3, ej_nun e, ej_nun e, ej_nun e2, ej_nun e2]; exact ⟨rfl, rfl⟩
/-! the least free start from t on, and the least end of a set -/
def ej_ls (fr : Nat → Prop) (t n : Nat) : Prop := (n = 1000 ∧ ∀ s, t ≤ s → s ≤ 40 → ¬ fr s) ∨ (t ≤ n ∧ n ≤ 40 ∧ fr n ∧ ∀ s, t ≤ s → s < n → ¬ fr s)
def ej_FS (fr : Nat → Prop) (fs : Nat → Int32) : Prop := ∀ t, t ≤ 40 → ∃ n, fs t = nI n ∧ ej_ls fr t n
def ej_mx (a b : Nat) : Nat := if a ≤ b then b else a
/-- e is the end of a job begun as early as it can be at t or later: 1000 if it can't be done -/
def ej_ea (L : Nat) (fr : Nat → Prop) (r d t e : Nat) : Prop :=
  (e = 1000 ∧ (40 < ej_mx t r ∨ ∃ n, ej_mx t r ≤ 40 ∧ ej_ls fr (ej_mx t r) n ∧ d < n + L)) ∨ (∃ n, ej_mx t r ≤ 40 ∧ ej_ls fr (ej_mx t r) n ∧ n + L ≤ d ∧ e = n + L)
/-- v is the least end of S -/
def ej_le (L : Nat) (fr : Nat → Prop) (lo hi : Nat → Nat) (S v : Nat) : Prop := v ≤ 1000 ∧ ∀ t, t ≤ 40 → (v ≤ t ↔ ej_G L fr lo hi t S)
theorem ej_le0 {L : Nat} {fr : Nat → Prop} {lo hi : Nat → Nat} : ej_le L fr lo hi 0 0 :=
  ⟨by decide, fun t _ => ⟨fun _ => ej_Gup ej_G0 (Nat.zero_le t), fun _ => Nat.zero_le t⟩⟩
theorem ej_step {L : Nat} {fr : Nat → Prop} {lo hi : Nat → Nat} {S v : Nat} {E V : Nat → Nat} (hS : S < 128) (h0 : S ≠ 0) (hhi : ∀ j, j < 7 → S.testBit j = true → hi j ≤ 40)
    (hE : ∀ i, i < 7 → S.testBit i = true → ej_le L fr lo hi (ej_rm S i) (E i)) (hV : ∀ i, i < 7 → S.testBit i = true → ej_ea L fr (lo i) (hi i) (E i) (V i))
    (h1 : ∀ i, i < 7 → S.testBit i = true → v ≤ V i) (h2 : v = 1000 ∨ ∃ i, i < 7 ∧ S.testBit i = true ∧ v = V i) (hv : v ≤ 1000) : ej_le L fr lo hi S v := by
  refine ⟨hv, fun t ht => ⟨fun h => ?_, fun g => ?_⟩⟩
  · rcases h2 with h2 | ⟨i, hi7, hb, rfl⟩
    · omega
    rcases hV i hi7 hb with ⟨e, _⟩ | ⟨n, k1, k2, k3, k4⟩
    · omega
    have kh := hhi i hi7 hb
    rcases k2 with ⟨k2, _⟩ | ⟨k5, k6, k7, _⟩
    · omega
    have m1 : E i ≤ ej_mx (E i) (lo i) ∧ lo i ≤ ej_mx (E i) (lo i) := by unfold ej_mx; split <;> omega
    have g := ((hE i hi7 hb).2 n k6).mp (by omega)
    have g2 := ej_Gadd hS hi7 hb g k7 (by omega) k3
    exact ej_Gup g2 (by omega)
  · rcases ej_Ginv g with e | ⟨i, s, hi7, hb, k1, k2, k3, k4, k5⟩
    · exact absurd e h0
    have l1 := h1 i hi7 hb
    have l2 := ((hE i hi7 hb).2 s (by omega)).mpr k2
    have m1 : ej_mx (E i) (lo i) ≤ s := by unfold ej_mx; split <;> omega
    have m2 : ∀ n, ej_ls fr (ej_mx (E i) (lo i)) n → n ≤ s := by
      intro n hn
      rcases hn with ⟨_, hn⟩ | ⟨_, _, _, hn⟩
      · exact absurd k3 (hn s m1 (by omega))
      · rcases Nat.lt_or_ge s n with z | z
        · exact absurd k3 (hn s m1 z)
        · exact z
    rcases hV i hi7 hb with ⟨_, e | ⟨n, n1, n2, n3⟩⟩ | ⟨n, n1, n2, n3, n4⟩
    · omega
    · have := m2 n n2; omega
    · have := m2 n n2; omega
end
section
/-! the component's private methods -/
section
variable {L c H B : Nat} {rel dead bb be fs tr td le : Nat → Int32} {P Q lo hi : Nat → Nat} {fr : Nat → Prop}
theorem ej_xcon {post : Int32 → Prop} {S j : Nat} (hS : S < 128) (hj : j < 7) (h1 : S.testBit j = true → post 1) (h0 : S.testBit j = false → post 0) : wpX_contains post (nI S) (nI j) := by
  by_cases hb : S.testBit j = true
  · exact br_t ((ej_has S hS j hj).mpr hb) (h1 hb)
  · exact br_f (fun z => hb ((ej_has S hS j hj).mp z)) (h0 (ej_nt hb))
theorem ej_xunb0 {post : Int32 → Prop} {t : Nat} (hB : B < 16) (hP : ej_al 4 bb P) (hQ : ej_al 4 be Q) (hL : L ≤ 6) (ht : t ≤ 40)
    (h1 : ej_fr L B P Q t → post 1) (h0 : ¬ ej_fr L B P Q t → post 0) : ∀ d i, i + d = 4 → (∀ k, k < i → B.testBit k = true → ¬ (P k < t + L ∧ t < Q k)) → wX_isUnblocked_2 post (nI t) (nI L) (nI c) (nI H) (nI B) rel dead bb be fs tr td le (d + 1) (nI i) := by
  intro d
  induction d with
  | zero =>
    intro i hi hk
    obtain rfl : i = 4 := by omega
    exact br_t (nI_le (a := 4) (b := 4) (by omega) (by omega)) (h1 hk)
  | succ d ih =>
    intro i hi hk
    have h31 : i < 2 ^ 31 := by omega
    have hin : vp_in (nI i) 4 := vp_in_nI (by omega) (by omega)
    have nx : (∀ k, k < i + 1 → B.testBit k = true → ¬ (P k < t + L ∧ t < Q k)) → ∀ y, y = nI i + 1 → wX_isUnblocked_2 post (nI t) (nI L) (nI c) (nI H) (nI B) rel dead bb be fs tr td le (d + 1) y := fun h => nm_r (nI_1 i) (ih (i + 1) (by omega) h)
    have ext : (B.testBit i = true → ¬ (P i < t + L ∧ t < Q i)) → ∀ k, k < i + 1 → B.testBit k = true → ¬ (P k < t + L ∧ t < Q k) := by
      intro h k hk'
      rcases Nat.lt_or_ge k i with z | z
      · exact hk k z
      · obtain rfl : k = i := by omega
        exact h
    refine br_f (nI_ge (b := 4) (by omega) (by omega)) (ej_xcon (by omega) (by omega) (fun hb => ?_) (fun hb => ?_))
    · refine br_f (by decide) ⟨hin, ?_⟩
      refine pk_le (t + L) (P i) (fun z => nx (ext (fun _ w => by omega))) (fun z => ⟨hin, ?_⟩) (nI_add _ _) (by rw [nI_clamp h31]; exact (hP i (by omega)).1) (by omega) (by have := (hP i (by omega)).2; omega)
      refine pk_le (Q i) t (fun z2 => nx (ext (fun _ w => by omega))) (fun z2 => h0 (fun hf => hf i (by omega) hb ⟨by omega, by omega⟩)) (by rw [nI_clamp h31]; exact (hQ i (by omega)).1) rfl (by have := (hQ i (by omega)).2; omega) (by omega)
    · exact br_t rfl (nx (ext (fun h => absurd h (by rw [hb]; decide))))
theorem ej_xunb {post : Int32 → Prop} {t : Nat} (hB : B < 16) (hP : ej_al 4 bb P) (hQ : ej_al 4 be Q) (hL : L ≤ 6) (ht : t ≤ 40)
    (h1 : ej_fr L B P Q t → post 1) (h0 : ¬ ej_fr L B P Q t → post 0) : wpX_isUnblocked post (nI L, nI c, nI H, nI B, rel, dead, bb, be, fs, tr, td, le) (nI t) := by
  unfold wpX_isUnblocked
  exact ⟨5, ej_xunb0 hB hP hQ hL ht h1 h0 4 0 rfl (fun k hk => absurd hk (by omega))⟩
theorem ej_lsdn {i n : Nat} (h : ej_ls fr (i + 1) n) (hf : ¬ fr i) : ej_ls fr i n := by
  rcases h with ⟨h1, h2⟩ | ⟨h1, h2, h3, h4⟩
  · refine Or.inl ⟨h1, fun s hs hs2 => ?_⟩
    rcases Nat.eq_or_lt_of_le hs with e | e
    · subst e; exact hf
    · exact h2 s e hs2
  · refine Or.inr ⟨by omega, h2, h3, fun s hs hs2 => ?_⟩
    rcases Nat.eq_or_lt_of_le hs with e | e
    · subst e; exact hf
    · exact h4 s e hs2
theorem ej_xffs0 {post : SX → Prop} (hB : B < 16) (hP : ej_al 4 bb P) (hQ : ej_al 4 be Q) (hL : L ≤ 6)
    (k : ∀ fs', ej_FS (ej_fr L B P Q) fs' → post (nI L, nI c, nI H, nI B, rel, dead, bb, be, fs', tr, td, le)) : ∀ m, m ≤ 41 → ∀ n fs, ej_ls (ej_fr L B P Q) m n → (∀ t, m ≤ t → t ≤ 40 → ∃ n, fs t = nI n ∧ ej_ls (ej_fr L B P Q) t n) → wX_findFreeStarts_7 post (nI L) (nI c) (nI H) (nI B) (m + 1) (nI n) (nI m + (-1)) rel dead bb be fs tr td le := by
  intro m
  induction m with
  | zero =>
    intro hm n fs hls h
    exact br_t (by decide +kernel) (k fs (fun t ht => h t (by omega) ht))
  | succ i ih =>
    intro hm n fs hls h
    rw [pk_m1 i]
    have h31 : i < 2 ^ 31 := by omega
    have hin : vp_in (nI i) 41 := vp_in_nI (by omega) (by omega)
    have go : ∀ n', ej_ls (ej_fr L B P Q) i n' → wX_findFreeStarts_7 post (nI L) (nI c) (nI H) (nI B) (i + 1) (nI n') (nI i + (-1)) rel dead bb be (upd fs i (nI n')) tr td le := by
      intro n' hn'
      refine ih (by omega) n' _ hn' (fun t h1 h2 => ?_)
      by_cases e : t = i
      · subst e; exact ⟨n', pk_us, hn'⟩
      · rw [pk_un e]; exact h t (by omega) h2
    refine br_f (nI_pos h31) (ej_xunb hB hP hQ hL (by omega) (fun hf => ?_) (fun hf => ?_))
    · refine br_f (by decide) ⟨hin, nm_r (e' := upd fs i (nI i)) (by rw [nI_clamp h31]) (nm_e ?_)⟩
      exact go i (Or.inr ⟨Nat.le_refl _, by omega, hf, fun s h1 h2 => by omega⟩)
    · refine br_t rfl ⟨hin, nm_r (e' := upd fs i (nI n)) (by rw [nI_clamp h31]) (nm_e ?_)⟩
      exact go n (ej_lsdn hls hf)
theorem ej_xffs {post : SX → Prop} (hB : B < 16) (hP : ej_al 4 bb P) (hQ : ej_al 4 be Q) (hL : L ≤ 6)
    (k : ∀ fs', ej_FS (ej_fr L B P Q) fs' → post (nI L, nI c, nI H, nI B, rel, dead, bb, be, fs', tr, td, le)) : wpX_findFreeStarts post (nI L, nI c, nI H, nI B, rel, dead, bb, be, fs, tr, td, le) := by
  unfold wpX_findFreeStarts
  have h := ej_xffs0 (tr := tr) (td := td) (le := le) (rel := rel) (dead := dead) (c := c) (H := H) hB hP hQ hL k 41 (by omega) 1000 fs (Or.inl ⟨rfl, fun s h1 h2 => by omega⟩) (fun t h1 h2 => by omega)
  rw [pk_m1 40] at h
  exact ⟨42, h⟩
theorem ej_updf {a b : Nat → Int32} {i : Nat} (h : ∀ j, j < i → a j = b j) : ∀ j, j < i + 1 → upd a i (b i) j = b j := by
  intro j hj
  by_cases e : j = i
  · subst e; exact pk_us
  · rw [pk_un e]; exact h j (by omega)
theorem ej_xcpy0 {post : SX → Prop} (k : ∀ tr' td', (∀ j, j < 6 → tr' j = rel j) → (∀ j, j < 6 → td' j = dead j) → post (nI L, nI c, nI H, nI B, rel, dead, bb, be, fs, tr', td', le)) :
    ∀ d i, i + d = 6 → ∀ tr td, (∀ j, j < i → tr j = rel j) → (∀ j, j < i → td j = dead j) → wX_copyWindows_2 post (nI L) (nI c) (nI H) (nI B) (d + 1) (nI i) rel dead bb be fs tr td le := by
  intro d
  induction d with
  | zero =>
    intro i hi tr td h1 h2
    obtain rfl : i = 6 := by omega
    exact br_t (nI_le (a := 6) (b := 6) (by omega) (by omega)) (k tr td h1 h2)
  | succ d ih =>
    intro i hi tr td h1 h2
    have h31 : i < 2 ^ 31 := by omega
    have hin : vp_in (nI i) 6 := vp_in_nI (by omega) (by omega)
    have hin7 : vp_in (nI i) 7 := vp_in_nI (by omega) (by omega)
    refine br_f (nI_ge (b := 6) (by omega) (by omega)) ⟨hin, hin7, nm_r (e' := upd tr i (rel i)) (by rw [nI_clamp h31]) ⟨hin, hin7, nm_r (e' := upd td i (dead i)) (by rw [nI_clamp h31]) (nm_r (nI_1 i) ?_)⟩⟩
    exact ih (i + 1) (by omega) _ _ (ej_updf h1) (ej_updf h2)
theorem ej_xcpy {post : SX → Prop} (k : ∀ tr' td', (∀ j, j < 6 → tr' j = rel j) → (∀ j, j < 6 → td' j = dead j) → post (nI L, nI c, nI H, nI B, rel, dead, bb, be, fs, tr', td', le)) : wpX_copyWindows post (nI L, nI c, nI H, nI B, rel, dead, bb, be, fs, tr, td, le) := by
  unfold wpX_copyWindows
  exact ⟨7, ej_xcpy0 k 6 0 rfl tr td (fun j hj => absurd hj (by omega)) (fun j hj => absurd hj (by omega))⟩
theorem ej_xdel0 {post : SX → Prop} {t : Nat} {f : Nat → Nat} (ht : t ≤ 40) (k : ∀ tr', (∀ j, j < 6 → tr' j = nI (ej_mx (f j) t)) → post (nI L, nI c, nI H, nI B, rel, dead, bb, be, fs, tr', td, le)) :
    ∀ d i, i + d = 6 → ∀ tr, (∀ j, j < i → tr j = nI (ej_mx (f j) t)) → (∀ j, i ≤ j → j < 6 → tr j = nI (f j) ∧ f j ≤ 40) → wX_delayReleases_2 post (nI t) (nI L) (nI c) (nI H) (nI B) (d + 1) (nI i) rel dead bb be fs tr td le := by
  intro d
  induction d with
  | zero =>
    intro i hi tr h1 h2
    obtain rfl : i = 6 := by omega
    exact br_t (nI_le (a := 6) (b := 6) (by omega) (by omega)) (k tr h1)
  | succ d ih =>
    intro i hi tr h1 h2
    have h31 : i < 2 ^ 31 := by omega
    have hin7 : vp_in (nI i) 7 := vp_in_nI (by omega) (by omega)
    have hf := h2 i (Nat.le_refl _) (by omega)
    refine br_f (nI_ge (b := 6) (by omega) (by omega)) ⟨hin7, pk_le t (f i) (fun z => nm_r (nI_1 i) ?_) (fun z => ⟨hin7, nm_r (e' := upd tr i (nI t)) (by rw [nI_clamp h31]) (nm_r (nI_1 i) ?_)⟩) rfl (by rw [nI_clamp h31]; exact hf.1) (by omega) (by omega)⟩
    · refine ih (i + 1) (by omega) tr (fun j hj => ?_) (fun j hj => h2 j (by omega))
      rcases Nat.lt_or_ge j i with z2 | z2
      · exact h1 j z2
      · obtain rfl : j = i := by omega
        rw [hf.1]
        congr 1
        unfold ej_mx
        split <;> omega
    · refine ih (i + 1) (by omega) _ (fun j hj => ?_) (fun j hj hj2 => ?_)
      · by_cases e : j = i
        · subst e
          rw [pk_us]
          congr 1
          unfold ej_mx
          split <;> omega
        · rw [pk_un e]; exact h1 j (by omega)
      · rw [pk_un (by omega)]; exact h2 j (by omega) hj2
theorem ej_xdel {post : SX → Prop} {t : Nat} {f : Nat → Nat} (ht : t ≤ 40) (h : ∀ j, j < 6 → tr j = nI (f j) ∧ f j ≤ 40) (k : ∀ tr', (∀ j, j < 6 → tr' j = nI (ej_mx (f j) t)) → post (nI L, nI c, nI H, nI B, rel, dead, bb, be, fs, tr', td, le)) : wpX_delayReleases post (nI L, nI c, nI H, nI B, rel, dead, bb, be, fs, tr, td, le) (nI t) := by
  unfold wpX_delayReleases
  exact ⟨7, ej_xdel0 ht k 6 0 rfl tr (fun j hj => absurd hj (by omega)) (fun j _ => h j)⟩
theorem ej_xea20 {post : Int32 → Prop} {t j r d z : Nat} (hL : L ≤ 6) (hj : j < 7) (hz : z = ej_mx t r) (hz2 : z ≤ 1000) (hd : td j = nI d ∧ d ≤ 40) (hfs : ej_FS fr fs)
    (k : ∀ e, e ≤ 1000 → ej_ea L fr r d t e → post (nI e)) : wX_endAfter_20 post (nI j) (nI z) (nI L) (nI c) (nI H) (nI B) rel dead bb be fs tr td le := by
  have hin7 : vp_in (nI j) 7 := vp_in_nI hj (by omega)
  refine pk_le z 40 (fun h => ⟨vp_in_nI (by omega) (by omega), ?_⟩) (fun h => k 1000 (Nat.le_refl _) (Or.inl ⟨rfl, Or.inl (by omega)⟩)) rfl rfl (by omega) (by omega)
  obtain ⟨n, hn, hls⟩ := hfs z h
  have hn2 : n ≤ 1000 := by rcases hls with ⟨h, _⟩ | ⟨_, h, _⟩ <;> omega
  rw [hz] at hls h
  refine nm_r (e' := nI (n + L)) (by rw [nI_clamp (n := z) (by omega), hn, nI_add]) ⟨hin7, pk_lt d (n + L) (fun h2 => ?_) (fun h2 => ?_) (by rw [nI_clamp (n := j) (by omega)]; exact hd.1) rfl (by omega) (by omega)⟩
  · exact k 1000 (Nat.le_refl _) (Or.inl ⟨rfl, Or.inr ⟨n, h, hls, h2⟩⟩)
  · exact k (n + L) (by omega) (Or.inr ⟨n, h, hls, h2, rfl⟩)
theorem ej_xea {post : Int32 → Prop} {t j r d : Nat} (hL : L ≤ 6) (hj : j < 7) (ht : t ≤ 1000) (hr : tr j = nI r ∧ r ≤ 40) (hd : td j = nI d ∧ d ≤ 40) (hfs : ej_FS fr fs)
    (k : ∀ e, e ≤ 1000 → ej_ea L fr r d t e → post (nI e)) : wpX_endAfter post (nI L, nI c, nI H, nI B, rel, dead, bb, be, fs, tr, td, le) (nI t) (nI j) := by
  unfold wpX_endAfter
  have hin7 : vp_in (nI j) 7 := vp_in_nI hj (by omega)
  have e : tr (nI j).toNatClampNeg = nI r := by rw [nI_clamp (n := j) (by omega)]; exact hr.1
  refine ⟨hin7, pk_le t r (fun h => ⟨hin7, ?_⟩) (fun h => ?_) rfl e (by omega) (by omega)⟩
  · rw [e]
    exact ej_xea20 hL hj (by unfold ej_mx; split <;> omega) (by omega) hd hfs k
  · exact ej_xea20 hL hj (by unfold ej_mx; split <;> omega) (by omega) hd hfs k
end
end
section
/-! the component's least end of a set, and what asks it -/
section
variable {L c H B : Nat} {rel dead bb be fs tr td le : Nat → Int32} {P Q lo hi : Nat → Nat} {fr : Nat → Prop}
theorem ej_xle38 {post : Int32 → SX → Prop} {J9 : Int32 → (Nat → Int32) → (Nat → Int32) → (Nat → Int32) → (Nat → Int32) → (Nat → Int32) → (Nat → Int32) → (Nat → Int32) → (Nat → Int32) → Prop} {x1 : Int32} {S : Nat} {E : Nat → Nat} {le0 : Nat → Int32}
    (hS : S < 128) (hL : L ≤ 6) (w1 : ∀ j, j < 7 → S.testBit j = true → tr j = nI (lo j) ∧ lo j ≤ 40) (w2 : ∀ j, j < 7 → S.testBit j = true → td j = nI (hi j) ∧ hi j ≤ 40) (hfs : ej_FS fr fs)
    (hE : ∀ i, i < 7 → S.testBit i = true → le0 (ej_rm S i) = nI (E i) ∧ E i ≤ 1000)
    (k : ∀ (le : Nat → Int32) (v : Nat) (V : Nat → Nat), (∀ q, q ≠ S → le q = le0 q) → le S = nI v → v ≤ 1000 → (∀ i, i < 7 → S.testBit i = true → ej_ea L fr (lo i) (hi i) (E i) (V i)) → (∀ i, i < 7 → S.testBit i = true → v ≤ V i) → (v = 1000 ∨ ∃ i, i < 7 ∧ S.testBit i = true ∧ v = V i) → J9 (nI (S + 1)) rel dead bb be fs tr td le) :
    ∀ d i, i + d = 7 → ∀ (le : Nat → Int32) (v : Nat) (V : Nat → Nat), (∀ q, q ≠ S → le q = le0 q) → le S = nI v → v ≤ 1000 → (∀ i', i' < i → S.testBit i' = true → ej_ea L fr (lo i') (hi i') (E i') (V i')) → (∀ i', i' < i → S.testBit i' = true → v ≤ V i') → (v = 1000 ∨ ∃ i', i' < i ∧ S.testBit i' = true ∧ v = V i') → wX_leastEnd_38 post J9 x1 (nI S) (nI L) (nI c) (nI H) (nI B) (d + 1) (nI i) rel dead bb be fs tr td le := by
  intro d
  induction d with
  | zero =>
    intro i hi' le v V a1 a2 a3 a4 a5 a6
    obtain rfl : i = 7 := by omega
    exact br_t (nI_le (a := 7) (b := 7) (by omega) (by omega)) (nm_r (nI_1 S) (k le v V a1 a2 a3 a4 a5 a6))
  | succ d ih =>
    intro i hi' le v V a1 a2 a3 a4 a5 a6
    have h7 : i < 7 := by omega
    have hS31 : S < 2 ^ 31 := by omega
    have hinS : vp_in (nI S) 128 := vp_in_nI hS (by omega)
    refine br_f (nI_ge (b := 7) (by omega) (by omega)) (ej_xcon hS h7 (fun hb => ?_) (fun hb => ?_))
    · have hne : ej_rm S i ≠ S := Nat.ne_of_lt (ej_rmlt hS hb)
      have hlt : ej_rm S i < 128 := Nat.lt_of_le_of_lt (ej_rmle S i) hS
      have hEi := hE i h7 hb
      have e : le (nI S &&& (((1 : Int32) <<< (nI i &&& 31)) ^^^ (-1))).toNatClampNeg = nI (E i) := by
        rw [ej_rmI h7, nI_clamp (n := ej_rm S i) (by omega), a1 _ hne, hEi.1]
      refine br_f (by decide) ⟨by rw [ej_rmI h7]; exact vp_in_nI hlt (by omega), ?_⟩
      rw [e]
      refine ej_xea hL h7 hEi.2 (w1 i h7 hb) (w2 i h7 hb) hfs (fun e he hea => ?_)
      have go : ∀ (v' : Nat) (le' : Nat → Int32), v' ≤ v → v' ≤ e → (v' = v ∨ v' = e) → (∀ q, q ≠ S → le' q = le0 q) → le' S = nI v' → wX_leastEnd_38 post J9 x1 (nI S) (nI L) (nI c) (nI H) (nI B) (d + 1) (nI (i + 1)) rel dead bb be fs tr td le' := by
        intro v' le' b1 b2 b3 b4 b5
        refine ih (i + 1) (by omega) le' v' (ej_nu V i e) b4 b5 (by omega) (fun i' q1 q2 => ?_) (fun i' q1 q2 => ?_) ?_
        · by_cases z : i' = i
          · subst z; rw [ej_nus]; exact hea
          · rw [ej_nun z]; exact a4 i' (by omega) q2
        · by_cases z : i' = i
          · subst z; rw [ej_nus]; exact b2
          · rw [ej_nun z]; exact Nat.le_trans b1 (a5 i' (by omega) q2)
        · rcases b3 with b3 | b3
          · rcases a6 with a6 | ⟨i', q1, q2, q3⟩
            · exact Or.inl (by omega)
            · exact Or.inr ⟨i', by omega, q2, by rw [ej_nun (by omega)]; omega⟩
          · exact Or.inr ⟨i, by omega, hb, by rw [ej_nus]; exact b3⟩
      refine ⟨hinS, pk_le v e (fun z => ⟨hinS, hinS, nm_r (e' := upd le S (le S)) (by rw [nI_clamp hS31]) (nm_r (nI_1 i) ?_)⟩) (fun z => ⟨hinS, nm_r (e' := upd le S (nI e)) (by rw [nI_clamp hS31]) (nm_r (nI_1 i) ?_)⟩) (by rw [nI_clamp hS31]; exact a2) rfl (by omega) (by omega)⟩
      · exact go v _ (Nat.le_refl _) z (Or.inl rfl) (fun q hq => by rw [pk_un hq]; exact a1 q hq) (by rw [pk_us]; exact a2)
      · exact go e _ (by omega) (Nat.le_refl _) (Or.inr rfl) (fun q hq => by rw [pk_un hq]; exact a1 q hq) pk_us
    · refine br_t rfl (nm_r (nI_1 i) (ih (i + 1) (by omega) le v V a1 a2 a3 (fun i' q1 q2 => ?_) (fun i' q1 q2 => ?_) ?_))
      · exact a4 i' (by have : i' ≠ i := (by rintro rfl; rw [hb] at q2; exact absurd q2 (by decide)); omega) q2
      · exact a5 i' (by have : i' ≠ i := (by rintro rfl; rw [hb] at q2; exact absurd q2 (by decide)); omega) q2
      · rcases a6 with a6 | ⟨i', q1, q2, q3⟩
        · exact Or.inl a6
        · exact Or.inr ⟨i', by omega, q2, q3⟩
theorem ej_xle9 {post : Int32 → SX → Prop} {W : Nat} (hW : W < 128) (hL : L ≤ 6) (w1 : ej_wn W tr lo) (w2 : ej_wn W td hi) (hfs : ej_FS fr fs)
    (k : ∀ (le : Nat → Int32) (v : Nat), ej_le L fr lo hi W v → post (nI v) (nI L, nI c, nI H, nI B, rel, dead, bb, be, fs, tr, td, le)) :
    ∀ d S, S + d = 128 → 1 ≤ S → ∀ le : Nat → Int32, (∀ S', S' < S → ej_sub S' W → ∃ v, le S' = nI v ∧ ej_le L fr lo hi S' v) → wX_leastEnd_9 post (nI W) (nI L) (nI c) (nI H) (nI B) (d + 1) (nI S) rel dead bb be fs tr td le := by
  intro d
  induction d with
  | zero =>
    intro S hSd h1 le hle
    obtain rfl : S = 128 := by omega
    obtain ⟨v, e, h⟩ := hle W hW (fun _ h => h)
    refine br_t (nI_le (a := 128) (b := 128) (by omega) (by omega)) ⟨vp_in_nI hW (by omega), ?_⟩
    rw [nI_clamp (n := W) (by omega), e]
    exact k le v h
  | succ d ih =>
    intro S hSd h1 le hle
    have hS : S < 128 := by omega
    have h31 : S < 2 ^ 31 := by omega
    refine br_f (nI_ge (b := 128) (by omega) (by omega)) ?_
    by_cases hs : ej_sub S W
    · refine br_t ((ej_sbI hS).mpr hs) ⟨vp_in_nI hS (by omega), nm_r (e' := upd le S 1000) (by rw [nI_clamp h31]) ⟨8, ?_⟩⟩
      have hEE : ∀ i, i < 7 → S.testBit i = true → le (ej_rm S i) = nI ((le (ej_rm S i)).toNatClampNeg) ∧ ej_le L fr lo hi (ej_rm S i) ((le (ej_rm S i)).toNatClampNeg) := by
        intro i hi7 hb
        obtain ⟨v, e, h⟩ := hle (ej_rm S i) (ej_rmlt hS hb) (ej_subrm hS hs i)
        have hv := h.1
        rw [e, nI_clamp (n := v) (by omega)]
        exact ⟨rfl, h⟩
      refine ej_xle38 (E := fun i => (le (ej_rm S i)).toNatClampNeg) (le0 := upd le S 1000) (lo := lo) (hi := hi) hS hL (fun j hj hb => w1 j hj (hs j hb)) (fun j hj hb => w2 j hj (hs j hb)) hfs (fun i hi7 hb => ?_) (fun le' v V a1 a2 a3 a4 a5 a6 => ?_) 7 0 rfl (upd le S 1000) 1000 (fun _ => 0) (fun _ _ => rfl) pk_us (Nat.le_refl _) (fun i h => absurd h (by omega)) (fun i h => absurd h (by omega)) (Or.inl rfl)
      · rw [pk_un (Nat.ne_of_lt (ej_rmlt hS hb))]
        exact ⟨(hEE i hi7 hb).1, (hEE i hi7 hb).2.1⟩
      · refine ih (S + 1) (by omega) (by omega) le' (fun S' q1 q2 => ?_)
        by_cases z : S' = S
        · subst z
          exact ⟨v, a2, ej_step hS (by omega) (fun j hj hb => (w2 j hj (hs j hb)).2) (fun i hi7 hb => (hEE i hi7 hb).2) a4 a5 a6 a3⟩
        · rw [a1 S' z, pk_un z]
          exact hle S' (by omega) q2
    · refine br_f (fun z => hs ((ej_sbI hS).mp z)) (nm_r (nI_1 S) (ih (S + 1) (by omega) (by omega) le (fun S' q1 q2 => ?_)))
      have : S' ≠ S := by rintro rfl; exact hs q2
      exact hle S' (by omega) q2
theorem ej_xle {post : Int32 → SX → Prop} {W : Nat} (hW : W < 128) (hL : L ≤ 6) (w1 : ej_wn W tr lo) (w2 : ej_wn W td hi) (hfs : ej_FS fr fs)
    (k : ∀ (le : Nat → Int32) (v : Nat), ej_le L fr lo hi W v → post (nI v) (nI L, nI c, nI H, nI B, rel, dead, bb, be, fs, tr, td, le)) : wpX_leastEnd post (nI L, nI c, nI H, nI B, rel, dead, bb, be, fs, tr, td, le) (nI W) := by
  unfold wpX_leastEnd
  refine nm_e ⟨128, ej_xle9 hW hL w1 w2 hfs k 127 1 rfl (Nat.le_refl _) (upd le 0 0) (fun S' h1 h2 => ?_)⟩
  obtain rfl : S' = 0 := by omega
  exact ⟨0, pk_us, ej_le0⟩
theorem ej_xfits {post : Int32 → SX → Prop} {W : Nat} (hW : W < 128) (hL : L ≤ 6) (w1 : ej_wn W tr lo) (w2 : ej_wn W td hi) (hfs : ej_FS fr fs)
    (k1 : ej_G L fr lo hi 40 W → ∀ le : Nat → Int32, post 1 (nI L, nI c, nI H, nI B, rel, dead, bb, be, fs, tr, td, le)) (k0 : ¬ ej_G L fr lo hi 40 W → ∀ le : Nat → Int32, post 0 (nI L, nI c, nI H, nI B, rel, dead, bb, be, fs, tr, td, le)) : wpX_fits post (nI L, nI c, nI H, nI B, rel, dead, bb, be, fs, tr, td, le) (nI W) := by
  unfold wpX_fits
  refine ej_xle hW hL w1 w2 hfs (fun le' v h => ?_)
  have hv := h.1
  have h40 := h.2 40 (Nat.le_refl _)
  exact pk_lt 40 v (fun z => k0 (fun g => by have := h40.mpr g; omega) le') (fun z => k1 (h40.mp z) le') rfl rfl (by omega) (by omega)
theorem ej_xpin {post : Int32 → SX → Prop} {id s : Nat} (h6 : id < 6) (hL : L ≤ 6) (hs : s + L ≤ 40) (hH : H < 64) (w1 : ∀ j, j < 7 → j ≠ id → H.testBit j = true → tr j = nI (lo j) ∧ lo j ≤ 40) (w2 : ∀ j, j < 7 → j ≠ id → H.testBit j = true → td j = nI (hi j) ∧ hi j ≤ 40) (hfs : ej_FS fr fs)
    (k1 : ej_G L fr (ej_nu lo id s) (ej_nu hi id (s + L)) 40 H → ∀ le : Nat → Int32, post 1 (nI L, nI c, nI H, nI B, rel, dead, bb, be, fs, upd tr id (nI s), upd td id (nI (s + L)), le))
    (k0 : ¬ ej_G L fr (ej_nu lo id s) (ej_nu hi id (s + L)) 40 H → ∀ le : Nat → Int32, post 0 (nI L, nI c, nI H, nI B, rel, dead, bb, be, fs, upd tr id (nI s), upd td id (nI (s + L)), le)) : wpX_fitsPinned post (nI L, nI c, nI H, nI B, rel, dead, bb, be, fs, tr, td, le) (nI id) (nI s) := by
  unfold wpX_fitsPinned
  have h31 : id < 2 ^ 31 := by omega
  have hin7 : vp_in (nI id) 7 := vp_in_nI (by omega) (by omega)
  refine ⟨hin7, nm_r (e' := upd tr id (nI s)) (by rw [nI_clamp h31]) ⟨hin7, nm_r (e' := upd td id (nI (s + L))) (by rw [nI_clamp h31, nI_add]) ?_⟩⟩
  exact ej_xfits (by omega) hL (ej_wnu w1 (by omega)) (ej_wnu w2 hs) hfs (fun g le' => ⟨ej_nar1, k1 g le'⟩) (fun g le' => ⟨ej_nar0, k0 g le'⟩)
theorem ej_or64 (S : Nat) : nI S ||| 64 = nI (S ||| 2 ^ 6) := by
  rw [← ej_or (by decide), ej_p2 6 (by decide)]
  rfl
theorem ej_xbes {post : Int32 → SX → Prop} {r d : Nat} {R D : Nat → Nat} (hr : r ≤ 40) (hd : d ≤ 40) (hL : L ≤ 6) (hH : H < 64) (hR : ej_al 6 rel R) (hD : ej_al 6 dead D) (hfs : ej_FS fr fs)
    (k1 : ej_G L fr (ej_nu R 6 r) (ej_nu D 6 d) 40 (H ||| 2 ^ 6) → ∀ tr td le : Nat → Int32, post 1 (nI L, nI c, nI H, nI B, rel, dead, bb, be, fs, tr, td, le))
    (k0 : ¬ ej_G L fr (ej_nu R 6 r) (ej_nu D 6 d) 40 (H ||| 2 ^ 6) → ∀ tr td le : Nat → Int32, post 0 (nI L, nI c, nI H, nI B, rel, dead, bb, be, fs, tr, td, le)) : wpX_fitsBeside post (nI L, nI c, nI H, nI B, rel, dead, bb, be, fs, tr, td, le) (nI r) (nI d) := by
  unfold wpX_fitsBeside
  refine ej_xcpy (fun tr' td' h1 h2 => ?_)
  refine nm_e (nm_e ?_)
  rw [ej_or64]
  refine ej_xfits (ej_orl (by omega) (by omega)) hL (ej_wnu (f := R) (fun j hj hn _ => ?_) hr) (ej_wnu (f := D) (fun j hj hn _ => ?_) hd) hfs (fun g le' => ⟨ej_nar1, k1 g _ _ le'⟩) (fun g le' => ⟨ej_nar0, k0 g _ _ le'⟩)
  · rw [h1 j (by omega)]; exact hR j (by omega)
  · rw [h2 j (by omega)]; exact hD j (by omega)
/-- the earliest start of id that fits: there is one -/
theorem ej_xpe0 {post : Int32 → SX → Prop} {id r d : Nat} {tr0 td0 : Nat → Int32} (h6 : id < 6) (hL : L ≤ 6) (hH : H < 64) (hr : rel id = nI r ∧ r ≤ 40) (hd : dead id = nI d ∧ d ≤ 40) (hLd : L ≤ d)
    (w1 : ∀ j, j < 7 → j ≠ id → H.testBit j = true → tr0 j = nI (lo j) ∧ lo j ≤ 40) (w2 : ∀ j, j < 7 → j ≠ id → H.testBit j = true → td0 j = nI (hi j) ∧ hi j ≤ 40) (hfs : ej_FS fr fs)
    (hex : ∃ s, r ≤ s ∧ s + L ≤ d ∧ ej_G L fr (ej_nu lo id s) (ej_nu hi id (s + L)) 40 H)
    (k : ∀ s, r ≤ s → s + L ≤ d → ej_G L fr (ej_nu lo id s) (ej_nu hi id (s + L)) 40 H → (∀ s', r ≤ s' → s' < s → ¬ ej_G L fr (ej_nu lo id s') (ej_nu hi id (s' + L)) 40 H) →
      ∀ tr td le : Nat → Int32, (∀ j, j ≠ id → tr j = tr0 j) → (∀ j, j ≠ id → td j = td0 j) → tr id = nI s → td id = nI (s + L) → post (nI s) (nI L, nI c, nI H, nI B, rel, dead, bb, be, fs, tr, td, le)) :
    ∀ n s, s + n = d - L + 1 → r ≤ s → (∀ s', r ≤ s' → s' < s → ¬ ej_G L fr (ej_nu lo id s') (ej_nu hi id (s' + L)) 40 H) → ∀ tr td le : Nat → Int32, (∀ j, j ≠ id → tr j = tr0 j) → (∀ j, j ≠ id → td j = td0 j) → wX_pinEarliest_7 post (nI id) (n + 1) (nI s) (nI L) (nI c) (nI H) (nI B) rel dead bb be fs tr td le := by
  have h31 : id < 2 ^ 31 := by omega
  have hin : vp_in (nI id) 6 := vp_in_nI h6 (by omega)
  intro n
  induction n with
  | zero =>
    intro s hsn hrs hno tr td le a1 a2
    obtain ⟨s0, b1, b2, b3⟩ := hex
    exact absurd b3 (hno s0 b1 (by omega))
  | succ n ih =>
    intro s hsn hrs hno tr td le a1 a2
    refine ⟨hin, pk_lt (d - L) s (fun z => absurd z (by omega)) (fun _ => ?_) (by rw [nI_clamp h31, hd.1, pk_sub hLd]) rfl (by omega) (by omega)⟩
    refine ej_xpin h6 hL (by omega) hH (fun j hj hn hb => by rw [a1 j hn]; exact w1 j hj hn hb) (fun j hj hn hb => by rw [a2 j hn]; exact w2 j hj hn hb) hfs (fun g le' => ?_) (fun g le' => ?_)
    · exact br_f (by decide) (k s hrs (by omega) g hno _ _ le' (fun j hj => by rw [pk_un hj]; exact a1 j hj) (fun j hj => by rw [pk_un hj]; exact a2 j hj) pk_us pk_us)
    · refine br_t rfl (nm_r (nI_1 s) (ih (s + 1) (by omega) (by omega) (fun s' q1 q2 => ?_) _ _ le' (fun j hj => by rw [pk_un hj]; exact a1 j hj) (fun j hj => by rw [pk_un hj]; exact a2 j hj)))
      by_cases z : s' = s
      · subst z; exact g
      · exact hno s' q1 (by omega)
theorem ej_xpe {post : Int32 → SX → Prop} {id r d : Nat} (h6 : id < 6) (hL : L ≤ 6) (hH : H < 64) (hr : rel id = nI r ∧ r ≤ 40) (hd : dead id = nI d ∧ d ≤ 40) (hrd : r + L ≤ d)
    (w1 : ∀ j, j < 7 → j ≠ id → H.testBit j = true → tr j = nI (lo j) ∧ lo j ≤ 40) (w2 : ∀ j, j < 7 → j ≠ id → H.testBit j = true → td j = nI (hi j) ∧ hi j ≤ 40) (hfs : ej_FS fr fs)
    (hex : ∃ s, r ≤ s ∧ s + L ≤ d ∧ ej_G L fr (ej_nu lo id s) (ej_nu hi id (s + L)) 40 H)
    (k : ∀ s, r ≤ s → s + L ≤ d → ej_G L fr (ej_nu lo id s) (ej_nu hi id (s + L)) 40 H → (∀ s', r ≤ s' → s' < s → ¬ ej_G L fr (ej_nu lo id s') (ej_nu hi id (s' + L)) 40 H) →
      ∀ tr' td' le : Nat → Int32, (∀ j, j ≠ id → tr' j = tr j) → (∀ j, j ≠ id → td' j = td j) → tr' id = nI s → td' id = nI (s + L) → post (nI s) (nI L, nI c, nI H, nI B, rel, dead, bb, be, fs, tr', td', le)) : wpX_pinEarliest post (nI L, nI c, nI H, nI B, rel, dead, bb, be, fs, tr, td, le) (nI id) := by
  unfold wpX_pinEarliest
  have h31 : id < 2 ^ 31 := by omega
  refine ⟨vp_in_nI h6 (by omega), nm_r (e' := nI r) (by rw [nI_clamp h31]; exact hr.1) ⟨d - L + 1 - r + 1, ?_⟩⟩
  exact ej_xpe0 h6 hL hH hr hd (by omega) w1 w2 hfs hex k (d - L + 1 - r) r (by omega) (Nat.le_refl _) (fun s' q1 q2 => by omega) tr td le (fun _ _ => rfl) (fun _ _ => rfl)
/-! guards -/
theorem ej_xhold {post : Int32 → Prop} {x : Int32} (hH : H < 64) (k1 : ∀ id, id < 6 → x = nI id → H.testBit id = true → post 1) (k0 : (∀ id, id < 6 → x = nI id → H.testBit id = false) → post 0) : wpX_holdsJob post (nI L, nI c, nI H, nI B, rel, dead, bb, be, fs, tr, td, le) x := by
  unfold wpX_holdsJob
  refine br_c (fun z => k0 (fun id h e => ?_)) (fun z => ?_)
  · exfalso; rw [e] at z; exact nI_pos (by omega) z
  · obtain ⟨j, hj, rfl⟩ := nI_of z
    refine pk_le 6 j (fun z2 => k0 (fun id h e => ?_)) (fun z2 => ?_) rfl rfl (by omega) hj
    · exfalso; have := (nI_eq hj (by omega)).mp e; omega
    · refine ej_xcon (by omega) (by omega) (fun hb => br_f (by decide) (k1 j z2 rfl hb)) (fun hb => br_t rfl (k0 (fun id h e => ?_)))
      have := (nI_eq hj (by omega)).mp e
      subst this
      exact hb
theorem ej_xwin {post : Int32 → Prop} {x y : Int32} (hL : L ≤ 6) (k1 : ∀ r d, x = nI r → y = nI d → r + L ≤ d → d ≤ 40 → post 1) (k0 : (∀ r d, x = nI r → y = nI d → r + L ≤ d → d ≤ 40 → False) → post 0) : wpX_isWindow post (nI L, nI c, nI H, nI B, rel, dead, bb, be, fs, tr, td, le) x y := by
  unfold wpX_isWindow
  refine br_c (fun z => k0 (fun r d e1 e2 h1 h2 => ?_)) (fun z => ?_)
  · rw [e1] at z; exact nI_pos (by omega) z
  obtain ⟨r, hr, rfl⟩ := nI_of z
  refine pk_lt 40 r (fun z2 => k0 (fun r' d e1 e2 h1 h2 => ?_)) (fun z2 => ?_) rfl rfl (by omega) hr
  · have := (nI_eq hr (by omega)).mp e1; omega
  refine br_c (fun z3 => k0 (fun r' d e1 e2 h1 h2 => ?_)) (fun z3 => ?_)
  · rw [e2] at z3; exact nI_pos (by omega) z3
  obtain ⟨d, hd, rfl⟩ := nI_of z3
  refine pk_lt 40 d (fun z4 => k0 (fun r' d' e1 e2 h1 h2 => ?_)) (fun z4 => ?_) rfl rfl (by omega) hd
  · have := (nI_eq hd (by omega)).mp e2; omega
  refine br_c (fun z5 => k0 (fun r' d' e1 e2 h1 h2 => ?_)) (fun z5 => k1 r d rfl rfl ?_ z4)
  · have q1 := (nI_eq hr (by omega)).mp e1
    have q2 := (nI_eq hd (by omega)).mp e2
    rw [Int32.lt_iff_toInt_lt, pk_sub_toInt (by omega) (by omega), nI_toInt (by omega)] at z5
    omega
  · rw [Int32.lt_iff_toInt_lt, pk_sub_toInt (by omega) (by omega), nI_toInt (by omega)] at z5
    omega
theorem ej_xlf0 {post : Int32 → Prop} {S : Nat} (hS : S < 64) (k : ∀ i, i ≤ 6 → (∀ j, j < i → S.testBit j = true) → S.testBit i = false → post (nI i)) : ∀ d i, i + d = 7 → (∀ j, j < i → S.testBit j = true) → wX_leastFree_2 post (nI S) (d + 1) (nI i) := by
  intro d
  induction d with
  | zero =>
    intro i hi h
    have := h 6 (by omega)
    rw [ej_big6 hS (by omega)] at this
    exact absurd this (by decide)
  | succ d ih =>
    intro i hi h
    refine br_f (nI_ge (b := 7) (by omega) (by omega)) (ej_xcon (by omega) (by omega) (fun hb => ?_) (fun hb => ?_))
    · refine br_f (by decide) (nm_r (nI_1 i) (ih (i + 1) (by omega) (fun j hj => ?_)))
      rcases Nat.lt_or_ge j i with z | z
      · exact h j z
      · obtain rfl : j = i := by omega
        exact hb
    · exact br_t rfl (k i (by omega) h hb)
theorem ej_xlf {post : Int32 → Prop} {S : Nat} (hS : S < 64) (k : ∀ i, i ≤ 6 → (∀ j, j < i → S.testBit j = true) → S.testBit i = false → post (nI i)) : wpX_leastFree post (nI S) := by
  unfold wpX_leastFree
  exact ⟨8, ej_xlf0 hS k 7 0 rfl (fun j hj => absurd hj (by omega))⟩
end
end
section
/-! the reference's private methods -/
section
variable {L c A B : Nat} {held rel dead shut bb be lo hi can : Nat → Int32} {P Q f g : Nat → Nat}
theorem ej_yclr0 {post : Int32 → Prop} {t : Nat} (hS : ej_hs 4 shut B) (hP : ej_al 4 bb P) (hQ : ej_al 4 be Q) (hL : L ≤ 6) (ht : t ≤ 40)
    (h1 : ej_fr L B P Q t → post 1) (h0 : ¬ ej_fr L B P Q t → post 0) : ∀ d i, i + d = 4 → ∀ x : Int32, ((x = 1 ∧ ∀ k, k < i → B.testBit k = true → ¬ (P k < t + L ∧ t < Q k)) ∨ (x = 0 ∧ ¬ ej_fr L B P Q t)) → wY_clear_4 post (nI t) (nI L) (nI c) (nI A) held rel dead shut bb be lo hi can (d + 1) x (nI i) := by
  intro d
  induction d with
  | zero =>
    intro i hi' x hx
    obtain rfl : i = 4 := by omega
    refine br_t (nI_le (a := 4) (b := 4) (by omega) (by omega)) ?_
    rcases hx with ⟨rfl, hk⟩ | ⟨rfl, hk⟩
    · exact ⟨ej_nar1, h1 hk⟩
    · exact ⟨ej_nar0, h0 hk⟩
  | succ d ih =>
    intro i hi' x hx
    have h31 : i < 2 ^ 31 := by omega
    have hin : vp_in (nI i) 4 := vp_in_nI (by omega) (by omega)
    have nx : (B.testBit i = true → ¬ (P i < t + L ∧ t < Q i)) → ∀ y, y = nI i + 1 → wY_clear_4 post (nI t) (nI L) (nI c) (nI A) held rel dead shut bb be lo hi can (d + 1) x y := by
      intro h
      refine nm_r (nI_1 i) (ih (i + 1) (by omega) x ?_)
      rcases hx with ⟨e, hk⟩ | hx
      · refine Or.inl ⟨e, fun k hk' => ?_⟩
        rcases Nat.lt_or_ge k i with z | z
        · exact hk k z
        · obtain rfl : k = i := by omega
          exact h
      · exact Or.inr hx
    refine br_f (nI_ge (b := 4) (by omega) (by omega)) ⟨hin, ?_⟩
    by_cases hb : B.testBit i = true
    · refine br_f (by rw [nI_clamp h31, ej_hs1 hS (by omega) hb]; decide) ⟨hin, ?_⟩
      refine pk_le (t + L) (P i) (fun z => nx (fun _ w => by omega)) (fun z => ⟨hin, ?_⟩) (nI_add _ _) (by rw [nI_clamp h31]; exact (hP i (by omega)).1) (by omega) (by have := (hP i (by omega)).2; omega)
      refine pk_le (Q i) t (fun z2 => nx (fun _ w => by omega)) (fun z2 => nm_r (nI_1 i) (ih (i + 1) (by omega) 0 (Or.inr ⟨rfl, fun hf => hf i (by omega) hb ⟨by omega, by omega⟩⟩))) (by rw [nI_clamp h31]; exact (hQ i (by omega)).1) rfl (by have := (hQ i (by omega)).2; omega) (by omega)
    · exact br_t (by rw [nI_clamp h31, ej_hs0 hS (by omega) (ej_nt hb)]) (nx (fun h => absurd h hb))
theorem ej_yclr {post : Int32 → Prop} {t : Nat} (hS : ej_hs 4 shut B) (hP : ej_al 4 bb P) (hQ : ej_al 4 be Q) (hL : L ≤ 6) (ht : t ≤ 40)
    (h1 : ej_fr L B P Q t → post 1) (h0 : ¬ ej_fr L B P Q t → post 0) : wpY_clear post (nI L, nI c, nI A, held, rel, dead, shut, bb, be, lo, hi, can) (nI t) := by
  unfold wpY_clear
  exact ⟨5, ej_yclr0 hS hP hQ hL ht h1 h0 4 0 rfl 1 (Or.inl ⟨rfl, fun k hk => absurd hk (by omega)⟩)⟩
end
/-! the table of the reference: what holds of it while (t, S) is next -/
def ej_con (L A : Nat) (fr : Nat → Prop) (f g : Nat → Nat) (t S j : Nat) : Prop := A.testBit j = true ∧ S.testBit j = false ∧ t + L ≤ 40 ∧ fr t ∧ f j ≤ t ∧ t + L ≤ g j
def ej_T (L A : Nat) (fr : Nat → Prop) (f g : Nat → Nat) (t S : Nat) (can : Nat → Int32) : Prop :=
  (∀ t' S', t' ≤ 40 → S' ≤ A → can (t' * 128 + S') = 0 ∨ (can (t' * 128 + S') = 1 ∧ ej_G L fr f g t' S' ∧ ej_sub S' A)) ∧
  can 0 = 1 ∧
  (∀ t' S', t' ≤ 40 → S' ≤ A → (t' < t ∨ (t' = t ∧ S' < S)) → can (t' * 128 + S') = 1 → (t' < 40 → can ((t' + 1) * 128 + S') = 1) ∧ (∀ j, j < 7 → ej_con L A fr f g t' S' j → can ((t' + L) * 128 + (S' ||| 2 ^ j)) = 1))
section
variable {L A : Nat} {fr : Nat → Prop} {f g : Nat → Nat}
theorem ej_ix {t S t' S' : Nat} (h : S < 128) (h' : S' < 128) (e : t * 128 + S = t' * 128 + S') : t = t' ∧ S = S' := by omega
theorem ej_upk {a : Nat → Int32} {k q : Nat} (h : a q = 1) : upd a k 1 q = 1 := by
  by_cases e : q = k
  · subst e; exact pk_us
  · rw [pk_un e]; exact h
theorem ej_Tup {t S : Nat} {can : Nat → Int32} (h : ej_T L A fr f g t S can) (hA : A < 128) {t1 S1 : Nat} (h1 : t < t1) (hg : ej_G L fr f g t1 S1) (hs : ej_sub S1 A) : ej_T L A fr f g t S (upd can (t1 * 128 + S1) 1) := by
  obtain ⟨a, b, d⟩ := h
  have hS1 : S1 < 128 := Nat.lt_of_le_of_lt (ej_suble hs) hA
  refine ⟨fun t' S' q1 q2 => ?_, ej_upk b, fun t' S' q1 q2 q3 q4 => ?_⟩
  · by_cases e : t' * 128 + S' = t1 * 128 + S1
    · obtain ⟨e1, e2⟩ := ej_ix (by omega) hS1 e
      subst e1 e2
      exact Or.inr ⟨pk_us, hg, hs⟩
    · rw [pk_un e]; exact a t' S' q1 q2
  · have e : t' * 128 + S' ≠ t1 * 128 + S1 := fun e => by
      have := (ej_ix (by omega) hS1 e).1
      omega
    rw [pk_un e] at q4
    have := d t' S' q1 q2 q3 q4
    exact ⟨fun z => ej_upk (this.1 z), fun j hj hc => ej_upk (this.2 j hj hc)⟩
/-- the row's next set -/
theorem ej_Tnx {t S : Nat} {can : Nat → Int32} (h : ej_T L A fr f g t S can) (h1 : can (t * 128 + S) = 1 → (t < 40 → can ((t + 1) * 128 + S) = 1) ∧ (∀ j, j < 7 → ej_con L A fr f g t S j → can ((t + L) * 128 + (S ||| 2 ^ j)) = 1)) : ej_T L A fr f g t (S + 1) can := by
  obtain ⟨a, b, d⟩ := h
  refine ⟨a, b, fun t' S' q1 q2 q3 q4 => ?_⟩
  by_cases e : t' = t ∧ S' = S
  · obtain ⟨rfl, rfl⟩ := e
    exact h1 q4
  · exact d t' S' q1 q2 (by omega) q4
theorem ej_Trow {t S : Nat} {can : Nat → Int32} (h : ej_T L A fr f g t S can) (hS : A < S) : ej_T L A fr f g (t + 1) 0 can := by
  obtain ⟨a, b, d⟩ := h
  exact ⟨a, b, fun t' S' q1 q2 q3 q4 => d t' S' q1 q2 (by omega) q4⟩
/-- at the end the table is right -/
theorem ej_Tend {can : Nat → Int32} (h : ej_T L A fr f g 41 0 can) (hA : A < 128) (hL : 1 ≤ L) : (can (5120 + A) = 1 ∧ ej_G L fr f g 40 A) ∨ (can (5120 + A) = 0 ∧ ¬ ej_G L fr f g 40 A) := by
  obtain ⟨a, b, d⟩ := h
  rcases a 40 A (Nat.le_refl _) (Nat.le_refl _) with e | ⟨e, hg, _⟩
  · refine Or.inr ⟨e, fun hg => ?_⟩
    have hh := hg (fun t S => t ≤ 40 → ej_sub S A → can (t * 128 + S) = 1) ⟨fun _ _ => b, ?_, ?_⟩ (Nat.le_refl _) (fun _ h => h)
    · have e2 : can (5120 + A) = 1 := hh
      have e3 : can (5120 + A) = 0 := e
      rw [e3] at e2
      exact absurd e2 (by decide)
    · intro t S h ht hs
      exact (d t S (by omega) (ej_suble hs) (Or.inl (by omega)) (h (by omega) hs)).1 (by omega)
    · intro t S j h hj hb hf h1 h2 ht hs
      have hs' : ej_sub S A := fun i hi => hs i (ej_orm hi)
      exact (d t S (by omega) (ej_suble hs') (Or.inl (by omega)) (h (by omega) hs')).2 j hj ⟨hs j (ej_orj S j), hb, ht, hf, h1, h2⟩
  · exact Or.inl ⟨e, hg⟩
end
section
variable {L c A B : Nat} {held rel dead shut bb be lo hi can : Nat → Int32} {P Q f g : Nat → Nat}
theorem ej_ye43 {post : SY → Prop} {t S : Nat} (hA : A < 128) (hL1 : 1 ≤ L) (hL : L ≤ 6) (w1 : ej_wn A lo f) (w2 : ej_wn A hi g) (hSA : S ≤ A) (ht : t + L ≤ 40) (hf : ej_fr L B P Q t)
    (k : ∀ can : Nat → Int32, ej_T L A (ej_fr L B P Q) f g t (S + 1) can → post (nI L, nI c, nI A, held, rel, dead, shut, bb, be, lo, hi, can)) :
    ∀ d i, i + d = 7 → ∀ can : Nat → Int32, ej_T L A (ej_fr L B P Q) f g t S can → can (t * 128 + S) = 1 → (t < 40 → can ((t + 1) * 128 + S) = 1) → (∀ j, j < i → ej_con L A (ej_fr L B P Q) f g t S j → can ((t + L) * 128 + (S ||| 2 ^ j)) = 1) → wY_extend_43 post (nI t) (nI S) (nI L) (nI c) (nI A) (d + 1) (nI i) held rel dead shut bb be lo hi can := by
  have hS : S < 128 := by omega
  intro d
  induction d with
  | zero =>
    intro i hi' can hT h1 h2 h3
    obtain rfl : i = 7 := by omega
    exact br_t (nI_le (a := 7) (b := 7) (by omega) (by omega)) (k can (ej_Tnx hT (fun _ => ⟨h2, h3⟩)))
  | succ d ih =>
    intro i hi' can hT h1 h2 h3
    have h31 : i < 2 ^ 31 := by omega
    have h7 : i < 7 := by omega
    have hin : vp_in (nI i) 7 := vp_in_nI h7 (by omega)
    have nx : ¬ ej_con L A (ej_fr L B P Q) f g t S i → ∀ y, y = nI i + 1 → wY_extend_43 post (nI t) (nI S) (nI L) (nI c) (nI A) (d + 1) y held rel dead shut bb be lo hi can := by
      intro h
      refine nm_r (nI_1 i) (ih (i + 1) (by omega) can hT h1 h2 (fun j hj hc => ?_))
      rcases Nat.lt_or_ge j i with z | z
      · exact h3 j z hc
      · obtain rfl : j = i := by omega
        exact absurd hc h
    have h73 : ¬ ej_con L A (ej_fr L B P Q) f g t S i → wY_extend_73 post (wY_extend_43 post (nI t) (nI S) (nI L) (nI c) (nI A) (d + 1)) (nI t) (nI S) (nI i) (nI L) (nI c) (nI A) held rel dead shut bb be lo hi can := by
      intro h
      unfold wY_extend_73 wY_extend_74
      exact br_t rfl (nx h)
    refine br_f (nI_ge (b := 7) (by omega) (by omega)) ?_
    by_cases hb : A.testBit i = true
    · refine br_t ((ej_has A hA i h7).mpr hb) ?_
      by_cases hb2 : S.testBit i = false
      · refine br_t ((ej_hasn S hS i h7).mpr hb2) ?_
        unfold wY_extend_74
        have u1 := w1 i h7 hb
        have u2 := w2 i h7 hb
        refine br_f (by decide) ⟨hin, pk_lt t (f i) (fun z => nx (fun hc => by have := hc.2.2.2.2.1; omega)) (fun z => ⟨hin, pk_lt (g i) (t + L) (fun z2 => nx (fun hc => by have := hc.2.2.2.2.2; omega)) (fun z2 => ?_) (by rw [nI_clamp h31]; exact u2.1) (nI_add _ _) (by omega) (by omega)⟩) rfl (by rw [nI_clamp h31]; exact u1.1) (by omega) (by omega)⟩
        have ho : S ||| 2 ^ i < 128 := ej_orl hS h7
        have e : (nI t + nI L) * 128 + (nI S ||| ((1 : Int32) <<< (nI i &&& 31))) = nI ((t + L) * 128 + (S ||| 2 ^ i)) := by
          rw [ej_or h7, nI_add, show (128 : Int32) = nI 128 from rfl, pk_mul, nI_add]
        refine ⟨by rw [e]; exact vp_in_nI (by omega) (by omega), nm_r (e' := upd can ((t + L) * 128 + (S ||| 2 ^ i)) 1) (by rw [e, nI_clamp (n := (t + L) * 128 + (S ||| 2 ^ i)) (by omega), ej_vn1]) (nm_r (nI_1 i) ?_)⟩
        have hG : ej_G L (ej_fr L B P Q) f g t S ∧ ej_sub S A := by
          rcases hT.1 t S (by omega) hSA with e | ⟨_, h⟩
          · rw [e] at h1; exact absurd h1 (by decide)
          · exact h
        refine ih (i + 1) (by omega) _ (ej_Tup hT hA (by omega) (ej_Ga hG.1 h7 hb2 hf z z2) (ej_subor hG.2 hb)) (ej_upk h1) (fun z => ej_upk (h2 z)) (fun j hj hc => ?_)
        by_cases e2 : j = i
        · subst e2; exact pk_us
        · exact ej_upk (h3 j (by omega) hc)
      · exact br_f (fun z => hb2 ((ej_hasn S hS i h7).mp z)) (h73 (fun hc => hb2 hc.2.1))
    · exact br_f (fun z => hb ((ej_has A hA i h7).mp z)) (h73 (fun hc => hb hc.1))
theorem ej_ye21 {post : SY → Prop} {t S : Nat} (hA : A < 128) (hL1 : 1 ≤ L) (hL : L ≤ 6) (w1 : ej_wn A lo f) (w2 : ej_wn A hi g) (hSA : S ≤ A) (ht : t ≤ 40) (hsh : ej_hs 4 shut B) (hP : ej_al 4 bb P) (hQ : ej_al 4 be Q)
    (k : ∀ can : Nat → Int32, ej_T L A (ej_fr L B P Q) f g t (S + 1) can → post (nI L, nI c, nI A, held, rel, dead, shut, bb, be, lo, hi, can))
    (hT : ej_T L A (ej_fr L B P Q) f g t S can) (h1 : can (t * 128 + S) = 1) (h2 : t < 40 → can ((t + 1) * 128 + S) = 1) : wY_extend_21 post (nI t) (nI S) (nI L) (nI c) (nI A) held rel dead shut bb be lo hi can := by
  unfold wY_extend_21
  refine pk_lt 40 (t + L) (fun z => k can (ej_Tnx hT (fun _ => ⟨h2, fun j _ hc => absurd hc.2.2.1 (by omega)⟩))) (fun z => ?_) rfl (nI_add _ _) (by omega) (by omega)
  refine ej_yclr hsh hP hQ hL ht (fun hf => br_f (by decide) ⟨8, ?_⟩) (fun hf => br_t rfl (k can (ej_Tnx hT (fun _ => ⟨h2, fun j _ hc => absurd hc.2.2.2.1 hf⟩))))
  exact ej_ye43 hA hL1 hL w1 w2 hSA z hf k 7 0 rfl can hT h1 h2 (fun j hj => absurd hj (by omega))
theorem ej_yext {post : SY → Prop} {t S : Nat} (hA : A < 128) (hL1 : 1 ≤ L) (hL : L ≤ 6) (w1 : ej_wn A lo f) (w2 : ej_wn A hi g) (hSA : S ≤ A) (ht : t ≤ 40) (hsh : ej_hs 4 shut B) (hP : ej_al 4 bb P) (hQ : ej_al 4 be Q)
    (k : ∀ can : Nat → Int32, ej_T L A (ej_fr L B P Q) f g t (S + 1) can → post (nI L, nI c, nI A, held, rel, dead, shut, bb, be, lo, hi, can))
    (hT : ej_T L A (ej_fr L B P Q) f g t S can) (h1 : can (t * 128 + S) = 1) : wpY_extend post (nI L, nI c, nI A, held, rel, dead, shut, bb, be, lo, hi, can) (nI t) (nI S) := by
  unfold wpY_extend
  refine pk_le 40 t (fun z => ej_ye21 hA hL1 hL w1 w2 hSA ht hsh hP hQ k hT h1 (fun z2 => by omega)) (fun z => ?_) rfl rfl (by omega) (by omega)
  have e : (nI t + 1) * 128 + nI S = nI ((t + 1) * 128 + S) := by
    rw [nI_1, show (128 : Int32) = nI 128 from rfl, pk_mul, nI_add]
  refine ⟨by rw [e]; exact vp_in_nI (by omega) (by omega), nm_r (e' := upd can ((t + 1) * 128 + S) 1) (by rw [e, nI_clamp (n := (t + 1) * 128 + S) (by omega), ej_vn1]) ?_⟩
  have hG : ej_G L (ej_fr L B P Q) f g t S ∧ ej_sub S A := by
    rcases hT.1 t S (by omega) hSA with e | ⟨_, h⟩
    · rw [e] at h1; exact absurd h1 (by decide)
    · exact h
  exact ej_ye21 hA hL1 hL w1 w2 hSA ht hsh hP hQ k (ej_Tup hT hA (by omega) (ej_Gi hG.1) hG.2) (ej_upk h1) (fun _ => pk_us)
theorem ej_yf67 {post : Int32 → SY → Prop} {J59 : Int32 → Int32 → Int32 → Int32 → (Nat → Int32) → (Nat → Int32) → (Nat → Int32) → (Nat → Int32) → (Nat → Int32) → (Nat → Int32) → (Nat → Int32) → (Nat → Int32) → (Nat → Int32) → Prop} {t : Nat} (hA : A < 128) (hL1 : 1 ≤ L) (hL : L ≤ 6) (w1 : ej_wn A lo f) (w2 : ej_wn A hi g) (ht : t ≤ 40) (hsh : ej_hs 4 shut B) (hP : ej_al 4 bb P) (hQ : ej_al 4 be Q)
    (k : ∀ can : Nat → Int32, ej_T L A (ej_fr L B P Q) f g (t + 1) 0 can → J59 (nI (t + 1)) (nI L) (nI c) (nI A) held rel dead shut bb be lo hi can) :
    ∀ d S, S + d = A + 1 → ∀ can : Nat → Int32, ej_T L A (ej_fr L B P Q) f g t S can → wY_fits_67 post J59 (nI t) (d + 1) (nI S) (nI L) (nI c) (nI A) held rel dead shut bb be lo hi can := by
  intro d
  induction d with
  | zero =>
    intro S hS can hT
    exact br_t (nI_lt (by omega) (by omega)) (nm_r (nI_1 t) (k can (ej_Trow hT (by omega))))
  | succ d ih =>
    intro S hS can hT
    have e : nI t * 128 + nI S = nI (t * 128 + S) := by
      rw [show (128 : Int32) = nI 128 from rfl, pk_mul, nI_add]
    have hcl : (nI t * 128 + nI S).toNatClampNeg = t * 128 + S := by rw [e, nI_clamp (by omega)]
    refine br_f (nI_nlt (by omega) (by omega)) (br_f (nI_ge (b := 128) (by omega) (by omega)) ⟨by rw [e]; exact vp_in_nI (by omega) (by omega), ?_⟩)
    rcases hT.1 t S ht (by omega) with z | ⟨z, _⟩
    · refine br_t (by rw [hcl]; exact z) (nm_r (nI_1 S) (ih (S + 1) (by omega) can (ej_Tnx hT (fun h => ?_))))
      rw [z] at h; exact absurd h (by decide)
    · refine br_f (by rw [hcl, z]; decide) ?_
      exact ej_yext hA hL1 hL w1 w2 (by omega) ht hsh hP hQ (fun can' hT' => nm_r (nI_1 S) (ih (S + 1) (by omega) can' hT')) hT z
theorem ej_yf59 {post : Int32 → SY → Prop} (hA : A < 128) (hL1 : 1 ≤ L) (hL : L ≤ 6) (w1 : ej_wn A lo f) (w2 : ej_wn A hi g) (hsh : ej_hs 4 shut B) (hP : ej_al 4 bb P) (hQ : ej_al 4 be Q)
    (k1 : ej_G L (ej_fr L B P Q) f g 40 A → ∀ can : Nat → Int32, post 1 (nI L, nI c, nI A, held, rel, dead, shut, bb, be, lo, hi, can)) (k0 : ¬ ej_G L (ej_fr L B P Q) f g 40 A → ∀ can : Nat → Int32, post 0 (nI L, nI c, nI A, held, rel, dead, shut, bb, be, lo, hi, can)) :
    ∀ d t, t + d = 41 → ∀ can : Nat → Int32, ej_T L A (ej_fr L B P Q) f g t 0 can → wY_fits_59 post (d + 1) (nI t) (nI L) (nI c) (nI A) held rel dead shut bb be lo hi can := by
  intro d
  induction d with
  | zero =>
    intro t ht can hT
    obtain rfl : t = 41 := by omega
    refine br_t (nI_lt (a := 40) (b := 41) (by omega) (by omega)) ?_
    have e : (5120 : Int32) + (nI A &&& 127) = nI (5120 + A) := by
      rw [ej_and127 hA, show (5120 : Int32) = nI 5120 from rfl, nI_add]
    have hcl : ((5120 : Int32) + (nI A &&& 127)).toNatClampNeg = 5120 + A := by rw [e, nI_clamp (by omega)]
    refine ⟨by rw [e]; exact vp_in_nI (by omega) (by omega), ?_⟩
    rw [hcl]
    rcases ej_Tend hT hA hL1 with ⟨z, hg⟩ | ⟨z, hg⟩
    · rw [z]; exact ⟨ej_nar1, k1 hg can⟩
    · rw [z]; exact ⟨ej_nar0, k0 hg can⟩
  | succ d ih =>
    intro t ht can hT
    refine br_f (nI_nlt (a := 40) (b := t) (by omega) (by omega)) ⟨A + 2, ?_⟩
    exact ej_yf67 hA hL1 hL w1 w2 (by omega) hsh hP hQ (fun can' hT' => ih (t + 1) (by omega) can' hT') (A + 1) 0 (by omega) can hT
theorem ej_yf10 {post : Int32 → SY → Prop} {J2 : Int32 → (Nat → Int32) → (Nat → Int32) → (Nat → Int32) → (Nat → Int32) → (Nat → Int32) → (Nat → Int32) → (Nat → Int32) → (Nat → Int32) → (Nat → Int32) → Prop} {t : Nat} (hA : A < 128) (ht : t ≤ 40)
    (k : ∀ can : Nat → Int32, (∀ t' S', t' < t + 1 → S' ≤ A → can (t' * 128 + S') = 0) → J2 (nI (t + 1)) held rel dead shut bb be lo hi can) :
    ∀ d S, S + d = A + 1 → ∀ can : Nat → Int32, (∀ t' S', S' ≤ A → (t' < t ∨ (t' = t ∧ S' < S)) → can (t' * 128 + S') = 0) → wY_fits_10 post J2 (nI t) (nI L) (nI c) (nI A) (d + 1) (nI S) held rel dead shut bb be lo hi can := by
  intro d
  induction d with
  | zero =>
    intro S hS can h
    exact br_t (nI_lt (by omega) (by omega)) (nm_r (nI_1 t) (k can (fun t' S' q1 q2 => h t' S' q2 (by omega))))
  | succ d ih =>
    intro S hS can h
    have e : nI t * 128 + nI S = nI (t * 128 + S) := by
      rw [show (128 : Int32) = nI 128 from rfl, pk_mul, nI_add]
    refine br_f (nI_nlt (by omega) (by omega)) (br_f (nI_ge (b := 128) (by omega) (by omega)) ⟨by rw [e]; exact vp_in_nI (by omega) (by omega), nm_r (e' := upd can (t * 128 + S) 0) (by rw [e, nI_clamp (n := t * 128 + S) (by omega), ej_vn0]) (nm_r (nI_1 S) (ih (S + 1) (by omega) _ (fun t' S' q1 q2 => ?_)))⟩)
    by_cases z : t' * 128 + S' = t * 128 + S
    · rw [z]; exact pk_us
    · rw [pk_un z]
      have : ¬ (t' = t ∧ S' = S) := fun w => z (by rw [w.1, w.2])
      exact h t' S' q1 (by omega)
theorem ej_yf2 {post : Int32 → SY → Prop} (hA : A < 128) (hL1 : 1 ≤ L) (hL : L ≤ 6) (w1 : ej_wn A lo f) (w2 : ej_wn A hi g) (hsh : ej_hs 4 shut B) (hP : ej_al 4 bb P) (hQ : ej_al 4 be Q)
    (k1 : ej_G L (ej_fr L B P Q) f g 40 A → ∀ can : Nat → Int32, post 1 (nI L, nI c, nI A, held, rel, dead, shut, bb, be, lo, hi, can)) (k0 : ¬ ej_G L (ej_fr L B P Q) f g 40 A → ∀ can : Nat → Int32, post 0 (nI L, nI c, nI A, held, rel, dead, shut, bb, be, lo, hi, can)) :
    ∀ d t, t + d = 41 → ∀ can : Nat → Int32, (∀ t' S', t' < t → S' ≤ A → can (t' * 128 + S') = 0) → wY_fits_2 post (nI L) (nI c) (nI A) (d + 1) (nI t) held rel dead shut bb be lo hi can := by
  intro d
  induction d with
  | zero =>
    intro t ht can h
    obtain rfl : t = 41 := by omega
    refine br_t (nI_lt (a := 40) (b := 41) (by omega) (by omega)) (nm_r (e' := upd can 0 1) (by rw [ej_vn1]) ⟨42, ?_⟩)
    refine ej_yf59 hA hL1 hL w1 w2 hsh hP hQ k1 k0 41 0 rfl _ ⟨fun t' S' q1 q2 => ?_, pk_us, fun t' S' q1 q2 q3 => by omega⟩
    by_cases z : t' * 128 + S' = 0
    · obtain ⟨rfl, rfl⟩ : t' = 0 ∧ S' = 0 := by omega
      exact Or.inr ⟨pk_us, ej_G0, fun j hj => absurd hj (by rw [Nat.zero_testBit]; decide)⟩
    · rw [pk_un z]; exact Or.inl (h t' S' (by omega) q2)
  | succ d ih =>
    intro t ht can h
    refine br_f (nI_nlt (a := 40) (b := t) (by omega) (by omega)) ⟨A + 2, ?_⟩
    refine ej_yf10 hA (by omega) (fun can' h' => ih (t + 1) (by omega) can' h') (A + 1) 0 (by omega) can (fun t' S' q1 q2 => h t' S' (by omega) q1)
theorem ej_yfits {post : Int32 → SY → Prop} (hA : A < 128) (hL1 : 1 ≤ L) (hL : L ≤ 6) (w1 : ej_wn A lo f) (w2 : ej_wn A hi g) (hsh : ej_hs 4 shut B) (hP : ej_al 4 bb P) (hQ : ej_al 4 be Q)
    (k1 : ej_G L (ej_fr L B P Q) f g 40 A → ∀ can : Nat → Int32, post 1 (nI L, nI c, nI A, held, rel, dead, shut, bb, be, lo, hi, can)) (k0 : ¬ ej_G L (ej_fr L B P Q) f g 40 A → ∀ can : Nat → Int32, post 0 (nI L, nI c, nI A, held, rel, dead, shut, bb, be, lo, hi, can)) : wpY_fits post (nI L, nI c, nI A, held, rel, dead, shut, bb, be, lo, hi, can) := by
  unfold wpY_fits
  exact ⟨42, ej_yf2 hA hL1 hL w1 w2 hsh hP hQ k1 k0 41 0 rfl can (fun t' S' q1 => by omega)⟩
end
end
section
/-! the reference: windows asked for, guards, least free number -/
def ej_mn (d e : Nat) : Nat := if e ≤ d then e else d
section
variable {L c A B H : Nat} {held rel dead shut bb be lo hi can : Nat → Int32} {P Q f g R D : Nat → Nat} {fr : Nat → Prop}
theorem ej_modn {i : Nat} (h : H.testBit i = false) : H % 2 ^ (i + 1) = H % 2 ^ i := by
  apply Nat.eq_of_testBit_eq
  intro j
  rw [Nat.testBit_mod_two_pow, Nat.testBit_mod_two_pow]
  by_cases e : j = i
  · subst e; simp [h]
  · have : (j < i + 1) = (j < i) := by apply propext; omega
    simp only [this]
theorem ej_mods {i : Nat} (h : H.testBit i = true) : H % 2 ^ i ||| 2 ^ i = H % 2 ^ (i + 1) := by
  apply Nat.eq_of_testBit_eq
  intro j
  rw [ej_orb, Nat.testBit_mod_two_pow, Nat.testBit_mod_two_pow]
  by_cases e : j = i
  · subst e; simp [h]
  · have : (j < i + 1) = (j < i) := by apply propext; omega
    simp only [this, decide_eq_false (Ne.symm e), Bool.or_false]
theorem ej_yask0 {post : SY → Prop} {b e : Nat} (hb40 : b ≤ 40) (he40 : e ≤ 40) (hH : H < 64) (hh : ej_hs 6 held H) (hR : ej_al 6 rel R) (hD : ej_al 6 dead D)
    (k : ∀ lo hi : Nat → Int32, (∀ j, j < 6 → H.testBit j = true → lo j = nI (ej_mx (R j) b) ∧ hi j = nI (ej_mn (D j) e)) → post (nI L, nI c, nI H, held, rel, dead, shut, bb, be, lo, hi, can)) :
    ∀ d i, i + d = 6 → ∀ lo hi : Nat → Int32, (∀ j, j < i → H.testBit j = true → lo j = nI (ej_mx (R j) b) ∧ hi j = nI (ej_mn (D j) e)) → wY_ask_7 post (nI b) (nI e) (nI L) (nI c) (d + 1) (nI i) (nI (H % 2 ^ i)) held rel dead shut bb be lo hi can := by
  intro d
  induction d with
  | zero =>
    intro i hi' lo hi h
    obtain rfl : i = 6 := by omega
    rw [Nat.mod_eq_of_lt (show H < 2 ^ 6 from hH)]
    exact br_t (nI_le (a := 6) (b := 6) (by omega) (by omega)) (k lo hi h)
  | succ d ih =>
    intro i hi' lo hi h
    have h31 : i < 2 ^ 31 := by omega
    have h6 : i < 6 := by omega
    have hin : vp_in (nI i) 6 := vp_in_nI h6 (by omega)
    have hin7 : vp_in (nI i) 7 := vp_in_nI (by omega) (by omega)
    have u1 := hR i h6
    have u2 := hD i h6
    refine br_f (nI_ge (b := 6) (by omega) (by omega)) ⟨hin, ?_⟩
    by_cases hb : H.testBit i = true
    · refine br_f (by rw [nI_clamp h31, ej_hs1 hh h6 hb]; decide) (nm_r (e' := nI (H % 2 ^ (i + 1))) (by rw [ej_or (by omega), ej_mods hb]) ⟨hin, ?_⟩)
      have nx : ∀ r' d', r' = ej_mx (R i) b → d' = ej_mn (D i) e → wY_ask_7 post (nI b) (nI e) (nI L) (nI c) (d + 1) (nI (i + 1)) (nI (H % 2 ^ (i + 1))) held rel dead shut bb be (upd lo i (nI r')) (upd hi i (nI d')) can := by
        intro r' d' e1 e2
        refine ih (i + 1) (by omega) _ _ (fun j hj hjb => ?_)
        by_cases z : j = i
        · subst z; rw [pk_us, pk_us, e1, e2]; exact ⟨rfl, rfl⟩
        · rw [pk_un z, pk_un z]; exact h j (by omega) hjb
      have h59 : ∀ r', r' = ej_mx (R i) b → wY_ask_59 post (wY_ask_7 post (nI b) (nI e) (nI L) (nI c) (d + 1)) (nI b) (nI e) (nI i) (nI r') (nI i) (nI L) (nI c) (nI (H % 2 ^ (i + 1))) held rel dead shut bb be lo hi can := by
        intro r' e1
        unfold wY_ask_59
        refine ⟨hin7, nm_r (e' := upd lo i (nI r')) (by rw [nI_clamp h31]) ⟨hin, pk_le e (D i) (fun z => ⟨hin7, nm_r (e' := upd hi i (nI e)) (by rw [nI_clamp h31]) (nm_r (nI_1 i) ?_)⟩) (fun z => ⟨hin, hin7, nm_r (e' := upd hi i (nI (D i))) (by rw [nI_clamp h31, u2.1]) (nm_r (nI_1 i) ?_)⟩) rfl (by rw [nI_clamp h31]; exact u2.1) (by omega) (by omega)⟩⟩
        · exact nx r' e e1 (by unfold ej_mn; rw [if_pos z])
        · exact nx r' (D i) e1 (by unfold ej_mn; rw [if_neg (by omega)])
      refine pk_le (R i) b (fun z => ?_) (fun z => ⟨hin, ?_⟩) (by rw [nI_clamp h31]; exact u1.1) rfl (by omega) (by omega)
      · exact h59 b (by unfold ej_mx; rw [if_pos z])
      · rw [nI_clamp h31, u1.1]
        exact h59 (R i) (by unfold ej_mx; rw [if_neg (by omega)])
    · refine br_t (by rw [nI_clamp h31, ej_hs0 hh h6 (ej_nt hb)]) (nm_r (nI_1 i) ?_)
      rw [← ej_modn (ej_nt hb)]
      refine ih (i + 1) (by omega) lo hi (fun j hj hjb => h j ?_ hjb)
      have : j ≠ i := by rintro rfl; exact hb hjb
      omega
theorem ej_yask {post : SY → Prop} {al : Int32} {b e : Nat} (hb40 : b ≤ 40) (he40 : e ≤ 40) (hH : H < 64) (hh : ej_hs 6 held H) (hR : ej_al 6 rel R) (hD : ej_al 6 dead D)
    (k : ∀ lo hi : Nat → Int32, (∀ j, j < 6 → H.testBit j = true → lo j = nI (ej_mx (R j) b) ∧ hi j = nI (ej_mn (D j) e)) → post (nI L, nI c, nI H, held, rel, dead, shut, bb, be, lo, hi, can)) : wpY_ask post (nI L, nI c, al, held, rel, dead, shut, bb, be, lo, hi, can) (nI b) (nI e) := by
  unfold wpY_ask
  have h := ej_yask0 (L := L) (c := c) (shut := shut) (bb := bb) (be := be) (can := can) hb40 he40 hH hh hR hD k 6 0 rfl lo hi (fun j hj => absurd hj (by omega))
  rw [show H % 2 ^ 0 = 0 from Nat.mod_one H] at h
  exact ⟨7, h⟩
/-- ask(0, 40) -/
theorem ej_yask40 {post : SY → Prop} {al : Int32} (hH : H < 64) (hh : ej_hs 6 held H) (hR : ej_al 6 rel R) (hD : ej_al 6 dead D)
    (k : ∀ lo hi : Nat → Int32, ej_wn H lo R → ej_wn H hi D → post (nI L, nI c, nI H, held, rel, dead, shut, bb, be, lo, hi, can)) : wpY_ask post (nI L, nI c, al, held, rel, dead, shut, bb, be, lo, hi, can) 0 40 := by
  refine ej_yask (b := 0) (e := 40) (by omega) (by omega) hH hh hR hD (fun lo hi h => k lo hi (fun j hj hb => ?_) (fun j hj hb => ?_))
  · have h6 := ej_lt6 hH hb
    have e : ej_mx (R j) 0 = R j := by unfold ej_mx; split <;> omega
    rw [(h j h6 hb).1, e]
    exact ⟨rfl, (hR j h6).2⟩
  · have h6 := ej_lt6 hH hb
    have h7 := (hD j h6).2
    have e : ej_mn (D j) 40 = D j := by unfold ej_mn; split <;> omega
    rw [(h j h6 hb).2, e]
    exact ⟨rfl, h7⟩
/-- ask(0, e) -/
theorem ej_yaske {post : SY → Prop} {al : Int32} {e : Nat} (he : e ≤ 40) (hH : H < 64) (hh : ej_hs 6 held H) (hR : ej_al 6 rel R) (hD : ej_al 6 dead D)
    (k : ∀ lo hi : Nat → Int32, ej_wn H lo R → ej_wn H hi (fun j => if e ≤ D j then e else D j) → post (nI L, nI c, nI H, held, rel, dead, shut, bb, be, lo, hi, can)) : wpY_ask post (nI L, nI c, al, held, rel, dead, shut, bb, be, lo, hi, can) 0 (nI e) := by
  refine ej_yask (b := 0) (e := e) (by omega) he hH hh hR hD (fun lo hi h => k lo hi (fun j hj hb => ?_) (fun j hj hb => ?_))
  · have h6 := ej_lt6 hH hb
    have e : ej_mx (R j) 0 = R j := by unfold ej_mx; split <;> omega
    rw [(h j h6 hb).1, e]
    exact ⟨rfl, (hR j h6).2⟩
  · have h6 := ej_lt6 hH hb
    have h7 := (hD j h6).2
    refine ⟨(h j h6 hb).2, ?_⟩
    dsimp only
    split <;> omega
/-- ask(b, 40) -/
theorem ej_yaskb {post : SY → Prop} {al : Int32} {b : Nat} (hb40 : b ≤ 40) (hH : H < 64) (hh : ej_hs 6 held H) (hR : ej_al 6 rel R) (hD : ej_al 6 dead D)
    (k : ∀ lo hi : Nat → Int32, ej_wn H lo (fun j => ej_mx (R j) b) → ej_wn H hi D → post (nI L, nI c, nI H, held, rel, dead, shut, bb, be, lo, hi, can)) : wpY_ask post (nI L, nI c, al, held, rel, dead, shut, bb, be, lo, hi, can) (nI b) 40 := by
  refine ej_yask (b := b) (e := 40) hb40 (by omega) hH hh hR hD (fun lo hi h => k lo hi (fun j hj hb => ?_) (fun j hj hb => ?_))
  · have h6 := ej_lt6 hH hb
    have h7 := (hR j h6).2
    refine ⟨(h j h6 hb).1, ?_⟩
    dsimp only
    unfold ej_mx
    split <;> omega
  · have h6 := ej_lt6 hH hb
    have h7 := (hD j h6).2
    have e : ej_mn (D j) 40 = D j := by unfold ej_mn; split <;> omega
    rw [(h j h6 hb).2, e]
    exact ⟨rfl, h7⟩
theorem ej_ywin {post : SY → Prop} {j : Nat} {p1 p2 : Int32} (hj : j < 7) (k : post (nI L, nI c, nI (A ||| 2 ^ j), held, rel, dead, shut, bb, be, upd lo j p1, upd hi j p2, can)) : wpY_window post (nI L, nI c, nI A, held, rel, dead, shut, bb, be, lo, hi, can) (nI j) p1 p2 := by
  unfold wpY_window
  have hin7 : vp_in (nI j) 7 := vp_in_nI hj (by omega)
  have h31 : j < 2 ^ 31 := by omega
  exact nm_r (e' := nI (A ||| 2 ^ j)) (ej_or hj) ⟨hin7, nm_r (e' := upd lo j p1) (by rw [nI_clamp h31]) ⟨hin7, nm_r (e' := upd hi j p2) (by rw [nI_clamp h31]) k⟩⟩
theorem ej_orsame {j : Nat} (h : A.testBit j = true) : A ||| 2 ^ j = A := by
  apply Nat.eq_of_testBit_eq
  intro i
  rw [ej_orb]
  by_cases e : j = i
  · subst e; simp [h]
  · simp [e]
/-- window(id, s, s + len) for a held id -/
theorem ej_ywinh {post : SY → Prop} {id : Nat} {p1 p2 : Int32} (hj : id < 6) (hb : A.testBit id = true) (k : post (nI L, nI c, nI A, held, rel, dead, shut, bb, be, upd lo id p1, upd hi id p2, can)) : wpY_window post (nI L, nI c, nI A, held, rel, dead, shut, bb, be, lo, hi, can) (nI id) p1 p2 := by
  refine ej_ywin (by omega) ?_
  rw [ej_orsame hb]
  exact k
theorem ej_yth1 {post : Int32 → Prop} {al : Int32} {id : Nat} (h6 : id < 6) (hh : ej_hs 6 held H) (hb : H.testBit id = true) (k : post 1) : wpY_there post (nI L, nI c, al, held, rel, dead, shut, bb, be, lo, hi, can) (nI id) := by
  unfold wpY_there
  have h31 : id < 2 ^ 31 := by omega
  exact br_f (nI_pos h31) (br_f (nI_ge (b := 6) h6 (by omega)) ⟨vp_in_nI h6 (by omega), br_f (by rw [nI_clamp h31, ej_hs1 hh h6 hb]; decide) k⟩)
theorem ej_yth0 {post : Int32 → Prop} {al x : Int32} (hh : ej_hs 6 held H) (hb : ∀ id, id < 6 → x = nI id → H.testBit id = false) (k : post 0) : wpY_there post (nI L, nI c, al, held, rel, dead, shut, bb, be, lo, hi, can) x := by
  unfold wpY_there
  refine br_c (fun _ => k) (fun z => ?_)
  obtain ⟨j, hj, rfl⟩ := nI_of z
  exact pk_le 6 j (fun _ => k) (fun z2 => ⟨vp_in_nI z2 (by omega), br_t (by rw [nI_clamp hj, ej_hs0 hh z2 (hb j z2 rfl)]) k⟩) rfl rfl (by omega) hj
theorem ej_ybw0 {post : Int32 → Prop} {al : Int32} {r d : Nat} (hL : L ≤ 6) (h1 : r + L ≤ d) (h2 : d ≤ 40) (k : post 0) : wpY_badWindow post (nI L, nI c, al, held, rel, dead, shut, bb, be, lo, hi, can) (nI r) (nI d) := by
  unfold wpY_badWindow
  refine br_f (nI_pos (by omega)) (br_f (nI_nlt (a := 40) (b := d) (by omega) (by omega)) (br_f (nI_nlt (a := 40) (b := r) (by omega) (by omega)) (br_f (nI_pos (by omega)) (pk_le L (d - r) (fun _ => k) (fun z => absurd z (by omega)) rfl (pk_sub (by omega)) (by omega) (by omega)))))
theorem ej_ybw1 {post : Int32 → Prop} {al x y : Int32} (hL : L ≤ 6) (h : ∀ r d, x = nI r → y = nI d → r + L ≤ d → d ≤ 40 → False) (k : post 1) : wpY_badWindow post (nI L, nI c, al, held, rel, dead, shut, bb, be, lo, hi, can) x y := by
  unfold wpY_badWindow
  refine br_c (fun _ => k) (fun z => ?_)
  obtain ⟨r, hr, rfl⟩ := nI_of z
  refine br_c (fun _ => k) (fun z2 => br_c (fun _ => k) (fun z3 => br_c (fun _ => k) (fun z4 => br_c (fun z5 => ?_) (fun _ => k))))
  obtain ⟨d, hd, rfl⟩ := nI_of z4
  exfalso
  have q2 : d ≤ 40 := by
    rcases Nat.lt_or_ge 40 d with w | w
    · exact absurd (nI_lt (a := 40) (b := d) w hd) z2
    · exact w
  have q3 : r ≤ 40 := by
    rcases Nat.lt_or_ge 40 r with w | w
    · exact absurd (nI_lt (a := 40) (b := r) w hr) z3
    · exact w
  rw [Int32.le_iff_toInt_le, pk_sub_toInt (by omega) (by omega), nI_toInt (by omega)] at z5
  exact h r d rfl rfl (by omega) q2
/-! the least free number of a job -/
def ej_lf (H : Nat) : Nat → Nat → Nat → Nat × Nat
  | 0, l, n => (l, n)
  | m + 1, l, n => if H.testBit m = true then ej_lf H m l (n + 1) else ej_lf H m m n
theorem ej_ylf0 {post : Int32 → Prop} {al : Int32} (hh : ej_hs 6 held H) (hc : c ≤ 6) : ∀ m l n, m ≤ 6 → l ≤ 6 → n + m ≤ 6 → ((ej_lf H m l n).2 < c → post (nI (ej_lf H m l n).1)) → (c ≤ (ej_lf H m l n).2 → post 6) → wY_leastFree_7 post (nI L) (nI c) al held rel dead shut bb be lo hi can (m + 1) (nI l) (nI n) (nI m + (-1)) := by
  intro m
  induction m with
  | zero =>
    intro l n _ h1 h2 k1 k0
    exact br_t (by decide +kernel) (pk_lt n c k1 k0 rfl rfl (by omega) (by omega))
  | succ m ih =>
    intro l n hm h1 h2 k1 k0
    rw [pk_m1 m]
    have h31 : m < 2 ^ 31 := by omega
    refine br_f (nI_pos h31) ⟨vp_in_nI (by omega) (by omega), ?_⟩
    by_cases hb : H.testBit m = true
    · refine br_f (by rw [nI_clamp h31, ej_hs1 hh (by omega) hb]; decide) (nm_r (nI_1 n) (nm_e ?_))
      have e : ej_lf H (m + 1) l n = ej_lf H m l (n + 1) := by rw [ej_lf, if_pos hb]
      rw [e] at k1 k0
      exact ih l (n + 1) (by omega) h1 (by omega) k1 k0
    · refine br_t (by rw [nI_clamp h31, ej_hs0 hh (by omega) (ej_nt hb)]) (nm_e ?_)
      have e : ej_lf H (m + 1) l n = ej_lf H m m n := by rw [ej_lf, if_neg hb]
      rw [e] at k1 k0
      exact ih m n (by omega) (by omega) (by omega) k1 k0
def ej_lfb (H i c : Nat) : Bool := !((List.range i).all (fun j => H.testBit j)) || H.testBit i || (decide ((ej_lf H 6 6 0).1 = i) && (!(decide (H < 2 ^ c)) || (decide (i < c) == decide ((ej_lf H 6 6 0).2 < c))))
theorem ej_lfc : ∀ H, H < 64 → ∀ i, i < 7 → ∀ c, c < 7 → ej_lfb H i c = true := by decide +kernel
theorem ej_lfx {i : Nat} (hH : H < 64) (hi : i < 7) (hc : c < 7) (h1 : ∀ j, j < i → H.testBit j = true) (h2 : H.testBit i = false) (h3 : H < 2 ^ c) : (ej_lf H 6 6 0).1 = i ∧ (i < c ↔ (ej_lf H 6 6 0).2 < c) := by
  have h := ej_lfc H hH i hi c hc
  unfold ej_lfb at h
  have e1 : (List.range i).all (fun j => H.testBit j) = true := by
    rw [List.all_eq_true]
    intro j hj
    exact h1 j (List.mem_range.mp hj)
  rw [e1, h2, decide_eq_true h3] at h
  simp only [Bool.not_true, Bool.false_or, Bool.and_eq_true, decide_eq_true_eq, beq_iff_eq, decide_eq_decide] at h
  exact h
/-- one way, both sides: i is the least free number -/
theorem ej_ylf {post : Int32 → Prop} {al : Int32} {i : Nat} (hh : ej_hs 6 held H) (hH : H < 64) (hc : c ≤ 6) (hHc : H < 2 ^ c) (hi6 : i ≤ 6) (h1 : ∀ j, j < i → H.testBit j = true) (h2 : H.testBit i = false)
    (k1 : i < c → post (nI i)) (k0 : c ≤ i → post 6) : wpY_leastFree post (nI L, nI c, al, held, rel, dead, shut, bb, be, lo, hi, can) := by
  unfold wpY_leastFree
  obtain ⟨e, hx⟩ := ej_lfx (c := c) hH (show i < 7 by omega) (by omega) h1 h2 hHc
  have h := ej_ylf0 (L := L) (rel := rel) (dead := dead) (shut := shut) (bb := bb) (be := be) (lo := lo) (hi := hi) (can := can) (post := post) (al := al) hh hc 6 6 0 (by omega) (by omega) (by omega) (fun z => ?_) (fun z => ?_)
  · rw [pk_m1 5] at h
    exact ⟨7, h⟩
  · rw [e]
    exact k1 (hx.mpr z)
  · apply k0
    rcases Nat.lt_or_ge i c with w | w
    · have := hx.mp w; omega
    · exact w
end
end
section
/-! the relation, and the methods without a search -/
def ej_St (L c H B : Nat) (R D P Q : Nat → Nat) (rel dead bb be fs held shut : Nat → Int32) : Prop :=
  (1 ≤ L ∧ L ≤ 6 ∧ c ≤ 6 ∧ H < 2 ^ c ∧ H < 64 ∧ B < 16) ∧ (ej_al 6 rel R ∧ ej_al 6 dead D ∧ ej_al 4 bb P ∧ ej_al 4 be Q) ∧ (ej_FS (ej_fr L B P Q) fs ∧ ej_hs 6 held H ∧ ej_hs 4 shut B) ∧ (∀ j, j < 6 → H.testBit j = true → R j + L ≤ D j) ∧ ej_G L (ej_fr L B P Q) R D 40 H
/-- both hold the same windows and blocks; the free starts are right; what is held fits -/
def i_Rel (k : Nat) (u : SX) (v : SY) : Prop := ∃ (L c H B : Nat) (R D P Q : Nat → Nat) (al : Int32) (rel dead bb be fs tr td le held shut lo hi can : Nat → Int32), u = (nI L, nI c, nI H, nI B, rel, dead, bb, be, fs, tr, td, le) ∧ v = (nI L, nI c, al, held, rel, dead, shut, bb, be, lo, hi, can) ∧ ej_St L c H B R D P Q rel dead bb be fs held shut
theorem i_up {k : Nat} {u : SX} {v : SY} (h : i_Rel k u v) : i_Rel (k + 4) u v := h
section
variable {L c H B : Nat} {R D P Q : Nat → Nat} {al : Int32} {rel dead bb be fs tr td le held shut lo hi can : Nat → Int32} {fr : Nat → Prop}
theorem ej_mk {k : Nat} (h : ej_St L c H B R D P Q rel dead bb be fs held shut) : i_Rel k (nI L, nI c, nI H, nI B, rel, dead, bb, be, fs, tr, td, le) (nI L, nI c, al, held, rel, dead, shut, bb, be, lo, hi, can) :=
  ⟨L, c, H, B, R, D, P, Q, al, rel, dead, bb, be, fs, tr, td, le, held, shut, lo, hi, can, rfl, rfl, h⟩
/-! the constructors -/
def ej_cl (x : Int32) : Nat := if 1 ≤ x then (if x ≤ 6 then x.toNatClampNeg else 6) else 1
theorem ej_cl_in {x : Int32} (h1 : 1 ≤ x) (h6 : x ≤ 6) : x = nI (ej_cl x) ∧ 1 ≤ ej_cl x ∧ ej_cl x ≤ 6 := by
  have h0 : ¬ x < 0 := by
    rw [Int32.lt_iff_toInt_lt]
    rw [Int32.le_iff_toInt_le] at h1
    have e1 : (1 : Int32).toInt = 1 := by decide
    have e0 : (0 : Int32).toInt = 0 := by decide
    omega
  obtain ⟨j, hj, rfl⟩ := nI_of h0
  have e : ej_cl (nI j) = j := by unfold ej_cl; rw [if_pos h1, if_pos h6, nI_clamp hj]
  have q1 : 1 ≤ j := (nI_leI (a := 1) (b := j) (by omega) hj).mp h1
  have q6 : j ≤ 6 := (nI_leI (a := j) (b := 6) hj (by omega)).mp h6
  rw [e]
  exact ⟨rfl, q1, q6⟩
theorem ej_clb (x : Int32) : 1 ≤ ej_cl x ∧ ej_cl x ≤ 6 := by
  by_cases h1 : 1 ≤ x
  · by_cases h6 : x ≤ 6
    · exact (ej_cl_in h1 h6).2
    · unfold ej_cl; rw [if_pos h1, if_neg h6]; omega
  · unfold ej_cl; rw [if_neg h1]; omega
theorem ej_xclamp {post : Int32 → Prop} {x : Int32} (k : post (nI (ej_cl x))) : wpX_clamp post x 6 := by
  unfold wpX_clamp
  refine br_c (fun h1 => br_c (fun h6 => ?_) (fun h6 => ?_)) (fun h1 => ?_)
  · rw [← (ej_cl_in h1 h6).1] at k; exact k
  · have e : ej_cl x = 6 := by unfold ej_cl; rw [if_pos h1, if_neg h6]
    rw [e] at k; exact k
  · have e : ej_cl x = 1 := by unfold ej_cl; rw [if_neg h1]
    rw [e] at k; exact k
theorem ej_yinit96 {post : SY → Prop} {x z0 y0 y1 : Int32} (k : post (z0, nI (ej_cl x), al, held, rel, dead, shut, bb, be, lo, hi, can)) : wY_init_96 post x z0 y0 y1 al held rel dead shut bb be lo hi can := by
  unfold wY_init_96
  refine br_c (fun h1 => br_c (fun h6 => ?_) (fun h6 => ?_)) (fun h1 => ?_)
  · rw [← (ej_cl_in h1 h6).1] at k; exact k
  · have e : ej_cl x = 6 := by unfold ej_cl; rw [if_pos h1, if_neg h6]
    rw [e] at k; exact k
  · have e : ej_cl x = 1 := by unfold ej_cl; rw [if_neg h1]
    rw [e] at k; exact k
theorem ej_yinit {post : SY → Prop} {x y : Int32} (k : post (nI (ej_cl x), nI (ej_cl y), 0, (fun _ => 0), (fun _ => 0), (fun _ => 0), (fun _ => 0), (fun _ => 0), (fun _ => 0), (fun _ => 0), (fun _ => 0), (fun _ => 0))) : wpY_init post x y := by
  unfold wpY_init
  refine br_c (fun h1 => br_c (fun h6 => ej_yinit96 ?_) (fun h6 => ej_yinit96 ?_)) (fun h1 => ej_yinit96 ?_)
  · rw [← (ej_cl_in h1 h6).1] at k; exact k
  · have e : ej_cl x = 6 := by unfold ej_cl; rw [if_pos h1, if_neg h6]
    rw [e] at k; exact k
  · have e : ej_cl x = 1 := by unfold ej_cl; rw [if_neg h1]
    rw [e] at k; exact k
theorem ej_al0 {n : Nat} : ej_al n (fun _ => 0) (fun _ => 0) := fun _ _ => ⟨rfl, Nat.zero_le _⟩
theorem ej_hs00 {n : Nat} : ej_hs n (fun _ => 0) 0 := fun j _ => by rw [Nat.zero_testBit]; rfl
theorem i_vc0 (k0 : Int32) (k1 : Int32) : wpX_init (fun u => wpY_init (fun v => i_Rel 2 u v) k0 k1) k0 k1 := by
  unfold wpX_init
  have b0 := ej_clb k0
  have b1 := ej_clb k1
  refine ej_xclamp (ej_xclamp ?_)
  refine ej_xffs (H := 0) (B := 0) (P := fun _ => 0) (Q := fun _ => 0) (by omega) ej_al0 ej_al0 b0.2 (fun fs' hfs => ej_yinit ?_)
  exact ej_mk (H := 0) (B := 0) (R := fun _ => 0) (D := fun _ => 0) (P := fun _ => 0) (Q := fun _ => 0) ⟨⟨b0.1, b0.2, b1.2, Nat.two_pow_pos _, by omega, by omega⟩, ⟨ej_al0, ej_al0, ej_al0, ej_al0⟩, ⟨hfs, ej_hs00, ej_hs00⟩, fun j _ hj => absurd hj (by rw [Nat.zero_testBit]; decide), ej_Gup ej_G0 (by omega)⟩
/-! answers that ask nothing -/
theorem i_vc_jobs {k : Nat} {u : SX} {v : SY} (I : i_Rel k u v) (hk : k + 4 ≤ 2050) : wpX_jobs (fun r => wpY_jobs (fun r' v' => r' = r ∧ i_Rel (k + 4) u v') v) u := by
  obtain ⟨L, c, H, B, R, D, P, Q, al, rel, dead, bb, be, fs, tr, td, le, held, shut, lo, hi, can, rfl, rfl, hI⟩ := I
  have ⟨⟨hL1, hL, hc, hHc, hH, hB⟩, ⟨hR, hD, hP, hQ⟩, ⟨hfs, hh, hs⟩, hw, hG⟩ := hI
  unfold wpX_jobs wpY_jobs
  exact ej_yask40 hH hh hR hD (fun lo hi _ _ => ⟨rfl, ej_mk hI⟩)
theorem i_vc_release {k : Nat} {u : SX} {v : SY} (I : i_Rel k u v) (hk : k + 4 ≤ 2050) (v1 : Int32) : wpX_release (fun r => wpY_release (fun r' => r' = r ∧ i_Rel (k + 4) u v) v v1) u v1 := by
  obtain ⟨L, c, H, B, R, D, P, Q, al, rel, dead, bb, be, fs, tr, td, le, held, shut, lo, hi, can, rfl, rfl, hI⟩ := I
  have ⟨⟨hL1, hL, hc, hHc, hH, hB⟩, ⟨hR, hD, hP, hQ⟩, ⟨hfs, hh, hs⟩, hw, hG⟩ := hI
  unfold wpX_release wpY_release
  refine ej_xhold hH (fun id h6 e hb => ?_) (fun hn => ?_)
  · subst e
    have hin : vp_in (nI id) 6 := vp_in_nI h6 (by omega)
    exact br_f (by decide) ⟨hin, ej_yth1 h6 hh hb (br_f (by decide) ⟨hin, rfl, ej_mk hI⟩)⟩
  · exact br_t rfl (ej_yth0 hh hn (br_t rfl ⟨rfl, ej_mk hI⟩))
theorem i_vc_deadline {k : Nat} {u : SX} {v : SY} (I : i_Rel k u v) (hk : k + 4 ≤ 2050) (v1 : Int32) : wpX_deadline (fun r => wpY_deadline (fun r' => r' = r ∧ i_Rel (k + 4) u v) v v1) u v1 := by
  obtain ⟨L, c, H, B, R, D, P, Q, al, rel, dead, bb, be, fs, tr, td, le, held, shut, lo, hi, can, rfl, rfl, hI⟩ := I
  have ⟨⟨hL1, hL, hc, hHc, hH, hB⟩, ⟨hR, hD, hP, hQ⟩, ⟨hfs, hh, hs⟩, hw, hG⟩ := hI
  unfold wpX_deadline wpY_deadline
  refine ej_xhold hH (fun id h6 e hb => ?_) (fun hn => ?_)
  · subst e
    have hin : vp_in (nI id) 6 := vp_in_nI h6 (by omega)
    exact br_f (by decide) ⟨hin, ej_yth1 h6 hh hb (br_f (by decide) ⟨hin, rfl, ej_mk hI⟩)⟩
  · exact br_t rfl (ej_yth0 hh hn (br_t rfl ⟨rfl, ej_mk hI⟩))
theorem ej_rmsub {S j : Nat} (h : S < 128) : ej_sub (ej_rm S j) S := ej_subrm h (fun _ h => h) j
theorem i_vc_withdraw {k : Nat} {u : SX} {v : SY} (I : i_Rel k u v) (hk : k + 4 ≤ 2050) (v1 : Int32) : wpX_withdraw (fun r u' => wpY_withdraw (fun r' v' => r' = r ∧ i_Rel (k + 4) u' v') v v1) u v1 := by
  obtain ⟨L, c, H, B, R, D, P, Q, al, rel, dead, bb, be, fs, tr, td, le, held, shut, lo, hi, can, rfl, rfl, hI⟩ := I
  have ⟨⟨hL1, hL, hc, hHc, hH, hB⟩, ⟨hR, hD, hP, hQ⟩, ⟨hfs, hh, hs⟩, hw, hG⟩ := hI
  unfold wpX_withdraw wpY_withdraw
  refine ej_xhold hH (fun id h6 e hb => ?_) (fun hn => ?_)
  · subst e
    have h31 : id < 2 ^ 31 := by omega
    refine br_f (by decide) (nm_r (e' := nI (ej_rm H id)) (ej_rmI (by omega)) ?_)
    refine ej_yth1 h6 hh hb (br_f (by decide) ⟨vp_in_nI h6 (by omega), nm_r (e' := upd held id 0) (by rw [nI_clamp h31, ej_vn0]) ⟨rfl, ej_mk (R := R) (D := D) (P := P) (Q := Q) ?_⟩⟩)
    have hle := ej_rmle H id
    exact ⟨⟨hL1, hL, hc, by omega, by omega, hB⟩, ⟨hR, hD, hP, hQ⟩, ⟨hfs, ej_hsrm (by omega) hh, hs⟩, fun j hj hjb => hw j hj (ej_rmsub (by omega) j hjb), ej_Grm id hG⟩
  · exact br_t rfl (ej_yth0 hh hn (br_t rfl ⟨rfl, ej_mk hI⟩))
/-! blocks -/
theorem ej_xrmb {post : SX → Prop} {k : Nat} (hk : k < 4) (hB : ej_rm B k < 16) (hP : ej_al 4 bb P) (hQ : ej_al 4 be Q) (hL : L ≤ 6)
    (kk : ∀ fs : Nat → Int32, ej_FS (ej_fr L (ej_rm B k) P Q) fs → post (nI L, nI c, nI H, nI (ej_rm B k), rel, dead, bb, be, fs, tr, td, le)) : wpX_removeBlock post (nI L, nI c, nI H, nI B, rel, dead, bb, be, fs, tr, td, le) (nI k) := by
  unfold wpX_removeBlock
  refine nm_r (e' := nI (ej_rm B k)) (ej_rmI (by omega)) ?_
  exact ej_xffs hB hP hQ hL kk
theorem i_vc_unblock {k : Nat} {u : SX} {v : SY} (I : i_Rel k u v) (hk : k + 4 ≤ 2050) (v1 : Int32) : wpX_unblock (fun r u' => wpY_unblock (fun r' v' => r' = r ∧ i_Rel (k + 4) u' v') v v1) u v1 := by
  obtain ⟨L, c, H, B, R, D, P, Q, al, rel, dead, bb, be, fs, tr, td, le, held, shut, lo, hi, can, rfl, rfl, hI⟩ := I
  have ⟨⟨hL1, hL, hc, hHc, hH, hB⟩, ⟨hR, hD, hP, hQ⟩, ⟨hfs, hh, hs⟩, hw, hG⟩ := hI
  unfold wpX_unblock wpY_unblock
  refine br_c (fun z => br_t z ⟨rfl, ej_mk hI⟩) (fun z => ?_)
  obtain ⟨i, hi', rfl⟩ := nI_of z
  refine pk_le 4 i (fun z2 => br_f z (br_t (nI_le (a := 4) (b := i) z2 hi') ⟨rfl, ej_mk hI⟩)) (fun z2 => ?_) rfl rfl (by omega) hi'
  have n4 : ¬ (4 : Int32) ≤ nI i := nI_ge (b := 4) z2 (by omega)
  have hin : vp_in (nI i) 4 := vp_in_nI z2 (by omega)
  refine ej_xcon (by omega) (by omega) (fun hb => ?_) (fun hb => ?_)
  · have hle := ej_rmle B i
    refine br_f (by decide) (ej_xrmb z2 (by omega) hP hQ hL (fun fs' hfs' => ?_))
    refine br_f z (br_f n4 ⟨hin, br_f (by rw [nI_clamp hi', ej_hs1 hs z2 hb]; decide) ⟨hin, nm_r (e' := upd shut i 0) (by rw [nI_clamp hi', ej_vn0]) ⟨rfl, ej_mk (R := R) (D := D) (P := P) (Q := Q) ?_⟩⟩⟩)
    exact ⟨⟨hL1, hL, hc, hHc, hH, by omega⟩, ⟨hR, hD, hP, hQ⟩, ⟨hfs', hh, ej_hsrm (by omega) hs⟩, hw, ej_Gmono hG (fun t ht q hq hqb => ht q hq (ej_rmsub (by omega) q hqb)) (fun j _ _ => ⟨Nat.le_refl _, Nat.le_refl _⟩)⟩
  · exact br_t rfl (br_f z (br_f n4 ⟨hin, br_t (by rw [nI_clamp hi', ej_hs0 hs z2 hb]) ⟨rfl, ej_mk hI⟩⟩))
theorem ej_yb19 {post : Int32 → SY → Prop} {x1 x2 : Int32} {i : Nat} (hs : ej_hs 4 shut B) (hi4 : i ≤ 4) (h3 : ∀ j, j < i → B.testBit j = true) (h4 : B.testBit i = false) (k : wY_block_39 post x1 x2 (nI i) (nI L) (nI c) al held rel dead shut bb be lo hi can) :
    ∀ d j, j + d = i → wY_block_19 post x1 x2 (nI L) (nI c) al held rel dead shut bb be lo hi can (d + 1) (nI j) := by
  intro d
  induction d with
  | zero =>
    intro j hj
    obtain rfl : j = i := by omega
    refine pk_le 4 j (fun _ => k) (fun z => ⟨vp_in_nI z (by omega), br_t (by rw [nI_clamp (n := j) (by omega), ej_hs0 hs z h4]) k⟩) rfl rfl (by omega) (by omega)
  | succ d ih =>
    intro j hj
    refine br_f (nI_ge (b := 4) (by omega) (by omega)) ⟨vp_in_nI (by omega) (by omega), br_f (by rw [nI_clamp (n := j) (by omega), ej_hs1 hs (by omega) (h3 j (by omega))]; decide) (nm_r (nI_1 j) (ih (j + 1) (by omega)))⟩
theorem i_vc_block {k : Nat} {u : SX} {v : SY} (I : i_Rel k u v) (hk : k + 4 ≤ 2050) (v1 : Int32) (v2 : Int32) : wpX_block (fun r u' => wpY_block (fun r' v' => r' = r ∧ i_Rel (k + 4) u' v') v v1 v2) u v1 v2 := by
  obtain ⟨L, c, H, B, R, D, P, Q, al, rel, dead, bb, be, fs, tr, td, le, held, shut, lo, hi, can, rfl, rfl, hI⟩ := I
  have ⟨⟨hL1, hL, hc, hHc, hH, hB⟩, ⟨hR, hD, hP, hQ⟩, ⟨hfs, hh, hs⟩, hw, hG⟩ := hI
  unfold wpX_block wpY_block
  refine br_c (fun z => br_t z ⟨rfl, ej_mk hI⟩) (fun z => br_c (fun z2 => br_f z (br_t z2 ⟨rfl, ej_mk hI⟩)) (fun z2 => br_c (fun z4 => ?_) (fun z4 => br_f z (br_f z2 (br_f z4 ⟨rfl, ej_mk hI⟩)))))
  obtain ⟨a, ha, rfl⟩ := nI_of z
  have z3 : ¬ v2 < 0 := by
    rw [Int32.lt_iff_toInt_lt]
    rw [Int32.le_iff_toInt_le, nI_toInt ha] at z2
    have : (0 : Int32).toInt = 0 := by decide
    omega
  obtain ⟨b, hb, rfl⟩ := nI_of z3
  have hab : a < b := by
    rcases Nat.lt_or_ge a b with w | w
    · exact w
    · exact absurd (nI_le w ha) z2
  have hb40 : b ≤ 40 := (nI_leI (a := b) (b := 40) hb (by omega)).mp z4
  refine ej_xlf (by omega) (fun i hi6 h3 h4 => ?_)
  have hi4 : i ≤ 4 := by
    rcases Nat.lt_or_ge 4 i with w | w
    · have := h3 4 w
      rw [Nat.testBit_lt_two_pow (show B < 2 ^ 4 from hB)] at this
      exact absurd this (by decide)
    · exact w
  refine pk_lt i 4 (fun z5 => ?_) (fun z5 => ?_) rfl rfl (by omega) (by omega)
  · have h31 : i < 2 ^ 31 := by omega
    have hin : vp_in (nI i) 4 := vp_in_nI z5 (by omega)
    have hB' : B ||| 2 ^ i < 16 := Nat.or_lt_two_pow (n := 4) hB (Nat.pow_lt_pow_right (a := 2) (by decide) z5)
    have hP' : ej_al 4 (upd bb i (nI a)) (ej_nu P i a) := ej_alu hP (by omega)
    have hQ' : ej_al 4 (upd be i (nI b)) (ej_nu Q i b) := ej_alu hQ hb40
    refine ⟨hin, nm_r (e' := upd bb i (nI a)) (by rw [nI_clamp h31]) ⟨hin, nm_r (e' := upd be i (nI b)) (by rw [nI_clamp h31]) (nm_r (e' := nI (B ||| 2 ^ i)) (ej_or (by omega)) ?_)⟩⟩
    have hn4 : ¬ nI i = 4 := fun e => by have := (nI_eq (a := i) (b := 4) h31 (by omega)).mp e; omega
    refine ej_xffs hB' hP' hQ' hL (fun fs' hfs' => ej_xcpy (fun tr' td' t1 t2 => ?_))
    refine ej_xfits (lo := R) (hi := D) (by omega) hL (fun j _ hj => ?_) (fun j _ hj => ?_) hfs' (fun g le' => br_f (by decide) ?_) (fun g le' => br_t rfl ?_)
    · rw [t1 j (ej_lt6 hH hj)]; exact hR j (ej_lt6 hH hj)
    · rw [t2 j (ej_lt6 hH hj)]; exact hD j (ej_lt6 hH hj)
    · refine br_f z (br_f z2 (br_t z4 ⟨i + 1, ej_yb19 hs hi4 h3 h4 ?_ i 0 (by omega)⟩))
      unfold wY_block_39
      refine br_f hn4 ⟨hin, nm_r (e' := upd shut i 1) (by rw [nI_clamp h31, ej_vn1]) ⟨hin, nm_r (e' := upd bb i (nI a)) (by rw [nI_clamp h31]) ⟨hin, nm_r (e' := upd be i (nI b)) (by rw [nI_clamp h31]) ?_⟩⟩⟩
      refine ej_yask40 hH hh hR hD (fun lo hi w1 w2 => ?_)
      refine ej_yfits (by omega) hL1 hL w1 w2 (ej_hsor hs) hP' hQ' (fun _ can => br_f (by decide) ⟨rfl, ej_mk (R := R) (D := D) (P := ej_nu P i a) (Q := ej_nu Q i b) ?_⟩) (fun g2 _ => absurd g g2)
      exact ⟨⟨hL1, hL, hc, hHc, hH, hB'⟩, ⟨hR, hD, hP', hQ'⟩, ⟨hfs', hh, ej_hsor hs⟩, hw, g⟩
    · have eB : ej_rm (B ||| 2 ^ i) i = B := ej_orrm (by omega) (by omega) h4
      refine ej_xrmb z5 (by rw [eB]; exact hB) hP' hQ' hL (fun fs2 hfs2 => ?_)
      rw [eB] at hfs2 ⊢
      refine br_f z (br_f z2 (br_t z4 ⟨i + 1, ej_yb19 hs hi4 h3 h4 ?_ i 0 (by omega)⟩))
      unfold wY_block_39
      refine br_f hn4 ⟨hin, nm_r (e' := upd shut i 1) (by rw [nI_clamp h31, ej_vn1]) ⟨hin, nm_r (e' := upd bb i (nI a)) (by rw [nI_clamp h31]) ⟨hin, nm_r (e' := upd be i (nI b)) (by rw [nI_clamp h31]) ?_⟩⟩⟩
      refine ej_yask40 hH hh hR hD (fun lo hi w1 w2 => ?_)
      refine ej_yfits (by omega) hL1 hL w1 w2 (ej_hsor hs) hP' hQ' (fun g2 _ => absurd g2 g) (fun _ can => br_t rfl ⟨hin, nm_r (e' := upd (upd shut i 1) i 0) (by rw [nI_clamp h31, ej_vn0]) ⟨rfl, ej_mk (R := R) (D := D) (P := ej_nu P i a) (Q := ej_nu Q i b) ?_⟩⟩)
      have hs2 : ej_hs 4 (upd (upd shut i 1) i 0) B := by
        have := ej_hsrm (k := i) (by omega) (ej_hsor (k := i) hs)
        rw [eB] at this
        exact this
      refine ⟨⟨hL1, hL, hc, hHc, hH, hB⟩, ⟨hR, hD, hP', hQ'⟩, ⟨hfs2, hh, hs2⟩, hw, ej_Gmono hG (fun t ht q hq hqb => ?_) (fun j _ _ => ⟨Nat.le_refl _, Nat.le_refl _⟩)⟩
      have : q ≠ i := by rintro rfl; rw [h4] at hqb; exact absurd hqb (by decide)
      rw [ej_nun this, ej_nun this]
      exact ht q hq hqb
  · obtain rfl : i = 4 := by omega
    refine br_f z (br_f z2 (br_t z4 ⟨5, ej_yb19 hs hi4 h3 h4 ?_ 4 0 (by omega)⟩))
    unfold wY_block_39
    exact br_t rfl ⟨rfl, ej_mk hI⟩
end
end
section
/-! probe, offer, move, open -/
section
variable {L c H B : Nat} {R D P Q : Nat → Nat} {al : Int32} {rel dead bb be fs tr td le held shut lo hi can : Nat → Int32} {fr : Nat → Prop}
theorem ej_xprobe {post : Int32 → SX → Prop} {x y : Int32} (hL : L ≤ 6) (hc : c ≤ 6) (hH : H < 64) (hR : ej_al 6 rel R) (hD : ej_al 6 dead D) (hfs : ej_FS fr fs)
    (kb : (∀ r d, x = nI r → y = nI d → r + L ≤ d → d ≤ 40 → False) → post (-1) (nI L, nI c, nI H, nI B, rel, dead, bb, be, fs, tr, td, le))
    (kf : ∀ r d i, x = nI r → y = nI d → r + L ≤ d → d ≤ 40 → i ≤ 6 → (∀ j, j < i → H.testBit j = true) → H.testBit i = false → c ≤ i → post (-2) (nI L, nI c, nI H, nI B, rel, dead, bb, be, fs, tr, td, le))
    (kr : ∀ r d i, x = nI r → y = nI d → r + L ≤ d → d ≤ 40 → (∀ j, j < i → H.testBit j = true) → H.testBit i = false → i < c → ¬ ej_G L fr (ej_nu R i r) (ej_nu D i d) 40 (H ||| 2 ^ i) → ∀ tr td le : Nat → Int32, post (-3) (nI L, nI c, nI H, nI B, rel, dead, bb, be, fs, tr, td, le))
    (kk : ∀ r d i, x = nI r → y = nI d → r + L ≤ d → d ≤ 40 → (∀ j, j < i → H.testBit j = true) → H.testBit i = false → i < c → ej_G L fr (ej_nu R i r) (ej_nu D i d) 40 (H ||| 2 ^ i) → ∀ tr td le : Nat → Int32, post (nI i) (nI L, nI c, nI H, nI B, rel, dead, bb, be, fs, tr, td, le)) : wpX_probe post (nI L, nI c, nI H, nI B, rel, dead, bb, be, fs, tr, td, le) x y := by
  unfold wpX_probe
  refine ej_xwin hL (fun r d e1 e2 h1 h2 => ?_) (fun h => br_t rfl (kb h))
  subst e1 e2
  refine br_f (by decide) (ej_xlf hH (fun i hi h3 h4 => ?_))
  refine pk_lt i c (fun z => ?_) (fun z => kf r d i rfl rfl h1 h2 hi h3 h4 z) rfl rfl (by omega) (by omega)
  have hi6 : i < 6 := by omega
  exact ej_xbes (by omega) h2 hL hH hR hD hfs (fun g tr td le => br_f (by decide) (kk r d i rfl rfl h1 h2 h3 h4 z ((ej_Gtry hH hi6 h4).mpr g) tr td le)) (fun g tr td le => br_t rfl (kr r d i rfl rfl h1 h2 h3 h4 z (fun g2 => g ((ej_Gtry hH hi6 h4).mp g2)) tr td le))
theorem ej_ypb {post : Int32 → SY → Prop} {x y : Int32} (hL : L ≤ 6) (h : ∀ r d, x = nI r → y = nI d → r + L ≤ d → d ≤ 40 → False) (k : post (-1) (nI L, nI c, al, held, rel, dead, shut, bb, be, lo, hi, can)) : wpY_probe post (nI L, nI c, al, held, rel, dead, shut, bb, be, lo, hi, can) x y := by
  unfold wpY_probe
  exact ej_ybw1 hL h (br_f (by decide) k)
theorem ej_ypf {post : Int32 → SY → Prop} {r d i : Nat} (hL : L ≤ 6) (hc : c ≤ 6) (hH : H < 64) (hHc : H < 2 ^ c) (hh : ej_hs 6 held H) (h1 : r + L ≤ d) (h2 : d ≤ 40) (hi6 : i ≤ 6) (h3 : ∀ j, j < i → H.testBit j = true) (h4 : H.testBit i = false) (hic : c ≤ i) (k : post (-2) (nI L, nI c, al, held, rel, dead, shut, bb, be, lo, hi, can)) : wpY_probe post (nI L, nI c, al, held, rel, dead, shut, bb, be, lo, hi, can) (nI r) (nI d) := by
  unfold wpY_probe
  exact ej_ybw0 hL h1 h2 (br_t rfl (ej_ylf hh hH hc hHc hi6 h3 h4 (fun z => absurd z (by omega)) (fun _ => br_t rfl k)))
theorem ej_ypg {post : Int32 → SY → Prop} {r d i : Nat} (hL1 : 1 ≤ L) (hL : L ≤ 6) (hc : c ≤ 6) (hH : H < 64) (hHc : H < 2 ^ c) (hh : ej_hs 6 held H) (hR : ej_al 6 rel R) (hD : ej_al 6 dead D) (hs : ej_hs 4 shut B) (hP : ej_al 4 bb P) (hQ : ej_al 4 be Q)
    (h1 : r + L ≤ d) (h2 : d ≤ 40) (h3 : ∀ j, j < i → H.testBit j = true) (h4 : H.testBit i = false) (hic : i < c)
    (k1 : ej_G L (ej_fr L B P Q) (ej_nu R i r) (ej_nu D i d) 40 (H ||| 2 ^ i) → ∀ (al : Int32) (lo hi can : Nat → Int32), post (nI i) (nI L, nI c, al, held, rel, dead, shut, bb, be, lo, hi, can))
    (k0 : ¬ ej_G L (ej_fr L B P Q) (ej_nu R i r) (ej_nu D i d) 40 (H ||| 2 ^ i) → ∀ (al : Int32) (lo hi can : Nat → Int32), post (-3) (nI L, nI c, al, held, rel, dead, shut, bb, be, lo, hi, can)) : wpY_probe post (nI L, nI c, al, held, rel, dead, shut, bb, be, lo, hi, can) (nI r) (nI d) := by
  unfold wpY_probe
  have hn6 : ¬ nI i = 6 := fun e => by have := (nI_eq (a := i) (b := 6) (by omega) (by omega)).mp e; omega
  refine ej_ybw0 hL h1 h2 (br_t rfl (ej_ylf hh hH hc hHc (by omega) h3 h4 (fun _ => br_f hn6 ?_) (fun z => absurd z (by omega))))
  refine ej_yask40 hH hh hR hD (fun lo hi w1 w2 => ej_ywin (by omega) ?_)
  exact ej_yfits (ej_orl (by omega) (by omega)) hL1 hL (ej_wnu (fun j hj hn hb => w1 j hj (by rw [ej_orn (Ne.symm hn)] at hb; exact hb)) (by omega)) (ej_wnu (fun j hj hn hb => w2 j hj (by rw [ej_orn (Ne.symm hn)] at hb; exact hb)) h2) hs hP hQ (fun g can => br_f (by decide) (k1 g _ _ _ can)) (fun g can => br_t rfl (k0 g _ _ _ can))
theorem i_vc_probe {k : Nat} {u : SX} {v : SY} (I : i_Rel k u v) (hk : k + 4 ≤ 2050) (v1 : Int32) (v2 : Int32) : wpX_probe (fun r u' => wpY_probe (fun r' v' => r' = r ∧ i_Rel (k + 4) u' v') v v1 v2) u v1 v2 := by
  obtain ⟨L, c, H, B, R, D, P, Q, al, rel, dead, bb, be, fs, tr, td, le, held, shut, lo, hi, can, rfl, rfl, hI⟩ := I
  have ⟨⟨hL1, hL, hc, hHc, hH, hB⟩, ⟨hR, hD, hP, hQ⟩, ⟨hfs, hh, hs⟩, hw, hG⟩ := hI
  refine ej_xprobe hL hc hH hR hD hfs (fun h => ?_) (fun r d i e1 e2 h1 h2 hi6 h3 h4 hic => ?_) (fun r d i e1 e2 h1 h2 h3 h4 hic g tr td le => ?_) (fun r d i e1 e2 h1 h2 h3 h4 hic g tr td le => ?_)
  · exact ej_ypb hL h ⟨rfl, ej_mk hI⟩
  · subst e1 e2
    exact ej_ypf hL hc hH hHc hh h1 h2 hi6 h3 h4 hic ⟨rfl, ej_mk hI⟩
  · subst e1 e2
    exact ej_ypg hL1 hL hc hH hHc hh hR hD hs hP hQ h1 h2 h3 h4 hic (fun g2 => absurd g2 g) (fun _ _ _ _ _ => ⟨rfl, ej_mk hI⟩)
  · subst e1 e2
    exact ej_ypg hL1 hL hc hH hHc hh hR hD hs hP hQ h1 h2 h3 h4 hic (fun _ _ _ _ _ => ⟨rfl, ej_mk hI⟩) (fun g2 => absurd g g2)
theorem ej_xset {post : SX → Prop} {id : Nat} {x y : Int32} (h6 : id < 6) (k : post (nI L, nI c, nI H, nI B, upd rel id x, upd dead id y, bb, be, fs, tr, td, le)) : wpX_setWindow post (nI L, nI c, nI H, nI B, rel, dead, bb, be, fs, tr, td, le) (nI id) x y := by
  unfold wpX_setWindow
  have h31 : id < 2 ^ 31 := by omega
  have hin : vp_in (nI id) 6 := vp_in_nI h6 (by omega)
  exact ⟨hin, nm_r (e' := upd rel id x) (by rw [nI_clamp h31]) ⟨hin, nm_r (e' := upd dead id y) (by rw [nI_clamp h31]) k⟩⟩
theorem i_vc_offer {k : Nat} {u : SX} {v : SY} (I : i_Rel k u v) (hk : k + 4 ≤ 2050) (v1 : Int32) (v2 : Int32) : wpX_offer (fun r u' => wpY_offer (fun r' v' => r' = r ∧ i_Rel (k + 4) u' v') v v1 v2) u v1 v2 := by
  obtain ⟨L, c, H, B, R, D, P, Q, al, rel, dead, bb, be, fs, tr, td, le, held, shut, lo, hi, can, rfl, rfl, hI⟩ := I
  have ⟨⟨hL1, hL, hc, hHc, hH, hB⟩, ⟨hR, hD, hP, hQ⟩, ⟨hfs, hh, hs⟩, hw, hG⟩ := hI
  unfold wpX_offer wpY_offer
  refine ej_xprobe hL hc hH hR hD hfs (fun h => ?_) (fun r d i e1 e2 h1 h2 hi6 h3 h4 hic => ?_) (fun r d i e1 e2 h1 h2 h3 h4 hic g tr td le => ?_) (fun r d i e1 e2 h1 h2 h3 h4 hic g tr td le => ?_)
  · exact br_t (by decide) (ej_ypb hL h (br_t (by decide) ⟨rfl, ej_mk hI⟩))
  · subst e1 e2
    exact br_t (by decide) (ej_ypf hL hc hH hHc hh h1 h2 hi6 h3 h4 hic (br_t (by decide) ⟨rfl, ej_mk hI⟩))
  · subst e1 e2
    exact br_t (by decide) (ej_ypg hL1 hL hc hH hHc hh hR hD hs hP hQ h1 h2 h3 h4 hic (fun g2 => absurd g2 g) (fun _ _ _ _ _ => br_t (by decide) ⟨rfl, ej_mk hI⟩))
  · subst e1 e2
    have h31 : i < 2 ^ 31 := by omega
    have hi6 : i < 6 := by omega
    have hin : vp_in (nI i) 6 := vp_in_nI hi6 (by omega)
    refine br_f (nI_pos h31) (ej_xset hi6 (nm_r (e' := nI (H ||| 2 ^ i)) (ej_or (by omega)) ?_))
    refine ej_ypg hL1 hL hc hH hHc hh hR hD hs hP hQ h1 h2 h3 h4 hic (fun _ al lo hi can => ?_) (fun g2 => absurd g g2)
    refine br_f (nI_pos h31) (br_f (nI_ge (b := 6) hi6 (by omega)) ⟨hin, nm_r (e' := upd held i 1) (by rw [nI_clamp h31, ej_vn1]) ⟨hin, nm_r (e' := upd rel i (nI r)) (by rw [nI_clamp h31]) ⟨hin, nm_r (e' := upd dead i (nI d)) (by rw [nI_clamp h31]) ⟨rfl, ej_mk (R := ej_nu R i r) (D := ej_nu D i d) (P := P) (Q := Q) ?_⟩⟩⟩⟩)
    refine ⟨⟨hL1, hL, hc, Nat.or_lt_two_pow hHc (Nat.pow_lt_pow_right (a := 2) (by decide) hic), ej_orl6 hH hi6, hB⟩, ⟨ej_alu hR (by omega), ej_alu hD h2, hP, hQ⟩, ⟨hfs, ej_hsor hh, hs⟩, fun j hj hjb => ?_, g⟩
    by_cases e : j = i
    · subst e; rw [ej_nus, ej_nus]; exact h1
    · rw [ej_nun e, ej_nun e]
      rw [ej_orn (Ne.symm e)] at hjb
      exact hw j hj hjb
theorem i_vc_move {k : Nat} {u : SX} {v : SY} (I : i_Rel k u v) (hk : k + 4 ≤ 2050) (v1 : Int32) (v2 : Int32) (v3 : Int32) : wpX_move (fun r u' => wpY_move (fun r' v' => r' = r ∧ i_Rel (k + 4) u' v') v v1 v2 v3) u v1 v2 v3 := by
  obtain ⟨L, c, H, B, R, D, P, Q, al, rel, dead, bb, be, fs, tr, td, le, held, shut, lo, hi, can, rfl, rfl, hI⟩ := I
  have ⟨⟨hL1, hL, hc, hHc, hH, hB⟩, ⟨hR, hD, hP, hQ⟩, ⟨hfs, hh, hs⟩, hw, hG⟩ := hI
  unfold wpX_move wpY_move
  refine ej_xhold hH (fun id h6 e hb => ?_) (fun hn => br_t rfl (ej_yth0 hh hn (br_t rfl ⟨rfl, ej_mk hI⟩)))
  subst e
  refine br_f (by decide) (ej_xwin hL (fun r d e1 e2 h1 h2 => ?_) (fun h => br_t rfl (ej_yth1 h6 hh hb (br_f (by decide) (ej_ybw1 hL h (br_f (by decide) ⟨rfl, ej_mk hI⟩))))))
  subst e1 e2
  have h31 : id < 2 ^ 31 := by omega
  have hin : vp_in (nI id) 6 := vp_in_nI h6 (by omega)
  have hin7 : vp_in (nI id) 7 := vp_in_nI (by omega) (by omega)
  refine br_f (by decide) (ej_xcpy (fun tr' td' t1 t2 => ⟨hin7, nm_r (e' := upd tr' id (nI r)) (by rw [nI_clamp h31]) ⟨hin7, nm_r (e' := upd td' id (nI d)) (by rw [nI_clamp h31]) ?_⟩⟩))
  refine ej_xfits (lo := ej_nu R id r) (hi := ej_nu D id d) (by omega) hL (ej_wnu (fun j _ _ hj => ?_) (by omega)) (ej_wnu (fun j _ _ hj => ?_) h2) hfs (fun g le' => br_f (by decide) (ej_xset h6 ?_)) (fun g le' => br_t rfl ?_)
  · rw [t1 j (ej_lt6 hH hj)]; exact hR j (ej_lt6 hH hj)
  · rw [t2 j (ej_lt6 hH hj)]; exact hD j (ej_lt6 hH hj)
  · refine ej_yth1 h6 hh hb (br_f (by decide) (ej_ybw0 hL h1 h2 (br_t rfl (ej_yask40 hH hh hR hD (fun lo hi w1 w2 => ej_ywinh h6 hb ?_)))))
    refine ej_yfits (f := ej_nu R id r) (g := ej_nu D id d) (by omega) hL1 hL (ej_wnu (fun j hj _ hjb => w1 j hj hjb) (by omega)) (ej_wnu (fun j hj _ hjb => w2 j hj hjb) h2) hs hP hQ (fun _ can => br_f (by decide) ⟨hin, nm_r (e' := upd rel id (nI r)) (by rw [nI_clamp h31]) ⟨hin, nm_r (e' := upd dead id (nI d)) (by rw [nI_clamp h31]) ⟨rfl, ej_mk (R := ej_nu R id r) (D := ej_nu D id d) (P := P) (Q := Q) ?_⟩⟩⟩) (fun g2 _ => absurd g g2)
    refine ⟨⟨hL1, hL, hc, hHc, hH, hB⟩, ⟨ej_alu hR (by omega), ej_alu hD h2, hP, hQ⟩, ⟨hfs, hh, hs⟩, fun j hj hjb => ?_, g⟩
    by_cases e : j = id
    · subst e; rw [ej_nus, ej_nus]; exact h1
    · rw [ej_nun e, ej_nun e]
      exact hw j hj hjb
  · refine ej_yth1 h6 hh hb (br_f (by decide) (ej_ybw0 hL h1 h2 (br_t rfl (ej_yask40 hH hh hR hD (fun lo hi w1 w2 => ej_ywinh h6 hb ?_)))))
    exact ej_yfits (f := ej_nu R id r) (g := ej_nu D id d) (by omega) hL1 hL (ej_wnu (fun j hj _ hjb => w1 j hj hjb) (by omega)) (ej_wnu (fun j hj _ hjb => w2 j hj hjb) h2) hs hP hQ (fun g2 _ => absurd g2 g) (fun _ can => br_t rfl ⟨rfl, ej_mk hI⟩)
theorem i_vc_open {k : Nat} {u : SX} {v : SY} (I : i_Rel k u v) (hk : k + 4 ≤ 2050) (v1 : Int32) : wpX_open (fun r u' => wpY_open (fun r' v' => r' = r ∧ i_Rel (k + 4) u' v') v v1) u v1 := by
  obtain ⟨L, c, H, B, R, D, P, Q, al, rel, dead, bb, be, fs, tr, td, le, held, shut, lo, hi, can, rfl, rfl, hI⟩ := I
  have ⟨⟨hL1, hL, hc, hHc, hH, hB⟩, ⟨hR, hD, hP, hQ⟩, ⟨hfs, hh, hs⟩, hw, hG⟩ := hI
  unfold wpX_open wpY_open
  refine br_c (fun z => br_t z ⟨rfl, ej_mk hI⟩) (fun z => ?_)
  obtain ⟨t, ht, rfl⟩ := nI_of z
  have e40 : (40 : Int32) - nI L = nI (40 - L) := pk_sub (a := 40) (by omega)
  refine pk_le t (40 - L) (fun z2 => ?_) (fun z2 => br_f z (pk_lt 40 t (fun _ => ⟨rfl, ej_mk hI⟩) (fun z3 => pk_le (t + L) 40 (fun z4 => absurd z4 (by omega)) (fun _ => ⟨rfl, ej_mk hI⟩) (nI_add _ _) rfl (by omega) (by omega)) rfl rfl (by omega) ht)) rfl e40 ht (by omega)
  have n40 : ¬ (40 : Int32) < nI t := nI_nlt (a := 40) (b := t) (by omega) (by omega)
  have l40 : nI t + nI L ≤ 40 := by rw [nI_add]; exact nI_le (b := 40) (by omega) (by omega)
  have g1 : ∀ {post : Int32 → SY → Prop}, (ej_G L (ej_fr L B P Q) (ej_nu R 6 t) (ej_nu D 6 (t + L)) 40 (H ||| 2 ^ 6) → ∀ (al : Int32) (lo hi can : Nat → Int32), post 1 (nI L, nI c, al, held, rel, dead, shut, bb, be, lo, hi, can)) → (¬ ej_G L (ej_fr L B P Q) (ej_nu R 6 t) (ej_nu D 6 (t + L)) 40 (H ||| 2 ^ 6) → ∀ (al : Int32) (lo hi can : Nat → Int32), post 0 (nI L, nI c, al, held, rel, dead, shut, bb, be, lo, hi, can)) → wpY_open post (nI L, nI c, al, held, rel, dead, shut, bb, be, lo, hi, can) (nI t) := by
    intro post k1 k0
    unfold wpY_open
    refine br_f z (br_f n40 (br_t l40 (ej_yask40 hH hh hR hD (fun lo hi w1 w2 => ej_ywin (j := 6) (by omega) ?_))))
    rw [nI_add]
    exact ej_yfits (ej_orl (by omega) (by omega)) hL1 hL (ej_wnu (fun j hj hn hb => w1 j hj (by rw [ej_orn (Ne.symm hn)] at hb; exact hb)) (by omega)) (ej_wnu (fun j hj hn hb => w2 j hj (by rw [ej_orn (Ne.symm hn)] at hb; exact hb)) (by omega)) hs hP hQ (fun g can => ⟨ej_nar1, k1 g _ _ _ can⟩) (fun g can => ⟨ej_nar0, k0 g _ _ _ can⟩)
  rw [nI_add]
  refine ej_xbes (by omega) (by omega) hL hH hR hD hfs (fun g tr td le => ⟨ej_nar1, ?_⟩) (fun g tr td le => ⟨ej_nar0, ?_⟩)
  · have h := g1 (post := fun r' v' => r' = 1 ∧ i_Rel (k + 4) (nI L, nI c, nI H, nI B, rel, dead, bb, be, fs, tr, td, le) v') (fun _ _ _ _ _ => ⟨rfl, ej_mk hI⟩) (fun g2 => absurd g g2)
    unfold wpY_open at h
    exact h
  · have h := g1 (post := fun r' v' => r' = 0 ∧ i_Rel (k + 4) (nI L, nI c, nI H, nI B, rel, dead, bb, be, fs, tr, td, le) v') (fun g2 => absurd g2 g) (fun _ _ _ _ _ => ⟨rfl, ej_mk hI⟩)
    unfold wpY_open at h
    exact h
end
end
section
/-! earliestEnd, latestBegin, earliestStart, latestStart -/
section
variable {L c H B : Nat} {R D P Q f g : Nat → Nat} {al : Int32} {rel dead bb be fs tr td le held shut lo hi can : Nat → Int32} {fr : Nat → Prop}
theorem ej_yee {post : Int32 → SY → Prop} {v : Nat} (hL1 : 1 ≤ L) (hL : L ≤ 6) (hH : H < 64) (hh : ej_hs 6 held H) (hR : ej_al 6 rel R) (hD : ej_al 6 dead D) (hs : ej_hs 4 shut B) (hP : ej_al 4 bb P) (hQ : ej_al 4 be Q)
    (hv : ej_le L (ej_fr L B P Q) R D H v) (hv40 : v ≤ 40) (k : ∀ (al : Int32) (lo hi can : Nat → Int32), post (nI v) (nI L, nI c, al, held, rel, dead, shut, bb, be, lo, hi, can)) :
    ∀ d e, e + d = v → ∀ (al : Int32) (lo hi can : Nat → Int32), wY_earliestEnd_2 post (d + 1) (nI e) (nI L) (nI c) al held rel dead shut bb be lo hi can := by
  intro d
  induction d with
  | zero =>
    intro e he al lo hi can
    obtain rfl : e = v := by omega
    refine br_f (nI_nlt (a := 40) (b := e) (by omega) (by omega)) (ej_yaske (by omega) hH hh hR hD (fun lo hi w1 w2 => ej_yfits (by omega) hL1 hL w1 w2 hs hP hQ (fun g can => br_f (by decide) (k _ _ _ can)) (fun g can => absurd ?_ g)))
    exact (ej_Gcut hv40).mpr ((hv.2 e hv40).mp (Nat.le_refl _))
  | succ d ih =>
    intro e he al lo hi can
    refine br_f (nI_nlt (a := 40) (b := e) (by omega) (by omega)) (ej_yaske (by omega) hH hh hR hD (fun lo hi w1 w2 => ej_yfits (by omega) hL1 hL w1 w2 hs hP hQ (fun g can => ?_) (fun g can => br_t rfl (nm_r (nI_1 e) (ih (e + 1) (by omega) _ _ _ can)))))
    have := (hv.2 e (by omega)).mpr ((ej_Gcut (by omega)).mp g)
    omega
theorem i_vc_earliestEnd {k : Nat} {u : SX} {v : SY} (I : i_Rel k u v) (hk : k + 4 ≤ 2050) : wpX_earliestEnd (fun r u' => wpY_earliestEnd (fun r' v' => r' = r ∧ i_Rel (k + 4) u' v') v) u := by
  obtain ⟨L, c, H, B, R, D, P, Q, al, rel, dead, bb, be, fs, tr, td, le, held, shut, lo, hi, can, rfl, rfl, hI⟩ := I
  have ⟨⟨hL1, hL, hc, hHc, hH, hB⟩, ⟨hR, hD, hP, hQ⟩, ⟨hfs, hh, hs⟩, hw, hG⟩ := hI
  unfold wpX_earliestEnd wpY_earliestEnd
  refine ej_xcpy (fun tr' td' t1 t2 => ej_xle (lo := R) (hi := D) (by omega) hL (fun j _ hj => ?_) (fun j _ hj => ?_) hfs (fun le v hv => ?_))
  · rw [t1 j (ej_lt6 hH hj)]; exact hR j (ej_lt6 hH hj)
  · rw [t2 j (ej_lt6 hH hj)]; exact hD j (ej_lt6 hH hj)
  · exact ⟨v + 1, ej_yee hL1 hL hH hh hR hD hs hP hQ hv ((hv.2 40 (Nat.le_refl _)).mpr hG) (fun _ _ _ _ => ⟨rfl, ej_mk hI⟩) v 0 (by omega) al lo hi can⟩
theorem ej_xlb {post : Int32 → SX → Prop} (hL : L ≤ 6) (hH : H < 64) (hR : ej_al 6 rel R) (hD : ej_al 6 dead D) (hfs : ej_FS fr fs) (h0 : ej_G L fr (fun j => ej_mx (R j) 0) D 40 H)
    (k : ∀ t, t ≤ 40 → ej_G L fr (fun j => ej_mx (R j) t) D 40 H → (∀ t', t < t' → t' ≤ 40 → ¬ ej_G L fr (fun j => ej_mx (R j) t') D 40 H) → ∀ tr td le : Nat → Int32, post (nI t) (nI L, nI c, nI H, nI B, rel, dead, bb, be, fs, tr, td, le)) :
    ∀ m, m ≤ 40 → (∀ t', m < t' → t' ≤ 40 → ¬ ej_G L fr (fun j => ej_mx (R j) t') D 40 H) → ∀ tr td le : Nat → Int32, wX_latestBegin_3 post (m + 1) (nI m) (nI L) (nI c) (nI H) (nI B) rel dead bb be fs tr td le := by
  intro m
  induction m with
  | zero =>
    intro _ hno tr td le
    exact br_t (nI_le (a := 0) (b := 0) (by omega) (by omega)) (k 0 (by omega) h0 hno tr td le)
  | succ i ih =>
    intro hm hno tr td le
    refine br_f (nI_nle (by omega) (by omega)) (ej_xcpy (fun tr' td' t1 t2 => ej_xdel (f := R) hm (fun j hj => by rw [t1 j hj]; exact hR j hj) (fun tr2 t3 => ?_)))
    refine ej_xfits (lo := fun j => ej_mx (R j) (i + 1)) (hi := D) (by omega) hL (fun j _ hj => ⟨t3 j (ej_lt6 hH hj), ?_⟩) (fun j _ hj => ?_) hfs (fun g le' => br_f (by decide) (k (i + 1) hm g hno _ _ le')) (fun g le' => br_t rfl (nm_r (pk_m1 i) (ih (by omega) (fun t' q1 q2 => ?_) _ _ le')))
    · have := (hR j (ej_lt6 hH hj)).2
      dsimp only
      unfold ej_mx
      split <;> omega
    · rw [t2 j (ej_lt6 hH hj)]; exact hD j (ej_lt6 hH hj)
    · by_cases e : t' = i + 1
      · subst e; exact g
      · exact hno t' (by omega) q2
theorem ej_ylb {post : Int32 → SY → Prop} {t : Nat} (hL1 : 1 ≤ L) (hL : L ≤ 6) (hH : H < 64) (hh : ej_hs 6 held H) (hR : ej_al 6 rel R) (hD : ej_al 6 dead D) (hs : ej_hs 4 shut B) (hP : ej_al 4 bb P) (hQ : ej_al 4 be Q)
    (hG : ej_G L (ej_fr L B P Q) (fun j => ej_mx (R j) t) D 40 H) (hno : ∀ t', t < t' → t' ≤ 40 → ¬ ej_G L (ej_fr L B P Q) (fun j => ej_mx (R j) t') D 40 H) (k : ∀ (al : Int32) (lo hi can : Nat → Int32), post (nI t) (nI L, nI c, al, held, rel, dead, shut, bb, be, lo, hi, can)) :
    ∀ d, t + d ≤ 40 → ∀ (al : Int32) (lo hi can : Nat → Int32), wY_latestBegin_3 post (d + 1) (nI (t + d)) (nI L) (nI c) al held rel dead shut bb be lo hi can := by
  intro d
  induction d with
  | zero =>
    intro ht al lo hi can
    exact br_f (nI_pos (by omega)) (ej_yaskb (by omega) hH hh hR hD (fun lo hi w1 w2 => ej_yfits (by omega) hL1 hL w1 w2 hs hP hQ (fun g can => br_f (by decide) (k _ _ _ can)) (fun g can => absurd hG g)))
  | succ d ih =>
    intro ht al lo hi can
    exact br_f (nI_pos (by omega)) (ej_yaskb (by omega) hH hh hR hD (fun lo hi w1 w2 => ej_yfits (by omega) hL1 hL w1 w2 hs hP hQ (fun g can => absurd g (hno (t + (d + 1)) (by omega) ht)) (fun g can => br_t rfl (nm_r (pk_m1 (t + d)) (ih (by omega) _ _ _ can)))))
theorem i_vc_latestBegin {k : Nat} {u : SX} {v : SY} (I : i_Rel k u v) (hk : k + 4 ≤ 2050) : wpX_latestBegin (fun r u' => wpY_latestBegin (fun r' v' => r' = r ∧ i_Rel (k + 4) u' v') v) u := by
  obtain ⟨L, c, H, B, R, D, P, Q, al, rel, dead, bb, be, fs, tr, td, le, held, shut, lo, hi, can, rfl, rfl, hI⟩ := I
  have ⟨⟨hL1, hL, hc, hHc, hH, hB⟩, ⟨hR, hD, hP, hQ⟩, ⟨hfs, hh, hs⟩, hw, hG⟩ := hI
  unfold wpX_latestBegin wpY_latestBegin
  have h0 : ej_G L (ej_fr L B P Q) (fun j => ej_mx (R j) 0) D 40 H := by
    refine ej_Gmono hG (fun _ h => h) (fun j _ _ => ⟨?_, Nat.le_refl _⟩)
    unfold ej_mx
    split <;> omega
  refine ⟨41, ej_xlb hL hH hR hD hfs h0 (fun t ht g hno tr td le => ?_) 40 (Nat.le_refl _) (fun t' q1 q2 => by omega) tr td le⟩
  have h := ej_ylb (L := L) (c := c) (post := fun r' v' => r' = nI t ∧ i_Rel (k + 4) (nI L, nI c, nI H, nI B, rel, dead, bb, be, fs, tr, td, le) v') hL1 hL hH hh hR hD hs hP hQ g hno (fun _ _ _ _ => ⟨rfl, ej_mk hI⟩) (40 - t) (by omega) al lo hi can
  rw [show t + (40 - t) = 40 by omega] at h
  exact ⟨40 - t + 1, h⟩
theorem ej_wnp {a : Nat → Int32} {j s : Nat} (w : ∀ i, i < 7 → i ≠ j → H.testBit i = true → a i = nI (f i) ∧ f i ≤ 40) (h : a j = nI s) (hs : s ≤ 40) : ej_wn H a (ej_nu f j s) := by
  intro i hi hb
  by_cases e : i = j
  · subst e; rw [ej_nus]; exact ⟨h, hs⟩
  · rw [ej_nun e]; exact w i hi e hb
theorem ej_yes {post : Int32 → SY → Prop} {id r d s0 : Nat} {lo0 hi0 : Nat → Int32} (h6 : id < 6) (hb : H.testBit id = true) (hL1 : 1 ≤ L) (hL : L ≤ 6) (hH : H < 64) (hd : dead id = nI d ∧ d ≤ 40) (hs : ej_hs 4 shut B) (hP : ej_al 4 bb P) (hQ : ej_al 4 be Q)
    (w1 : ∀ j, j < 7 → j ≠ id → H.testBit j = true → lo0 j = nI (f j) ∧ f j ≤ 40) (w2 : ∀ j, j < 7 → j ≠ id → H.testBit j = true → hi0 j = nI (g j) ∧ g j ≤ 40)
    (hs0 : s0 + L ≤ d) (hG : ej_G L (ej_fr L B P Q) (ej_nu f id s0) (ej_nu g id (s0 + L)) 40 H) (hno : ∀ s', r ≤ s' → s' < s0 → ¬ ej_G L (ej_fr L B P Q) (ej_nu f id s') (ej_nu g id (s' + L)) 40 H)
    (k : ∀ lo hi can : Nat → Int32, post (nI s0) (nI L, nI c, nI H, held, rel, dead, shut, bb, be, lo, hi, can)) :
    ∀ n s, s + n = s0 → r ≤ s → ∀ lo hi can : Nat → Int32, (∀ j, j ≠ id → lo j = lo0 j) → (∀ j, j ≠ id → hi j = hi0 j) → wY_earliestStart_24 post (nI id) (n + 1) (nI s) (nI L) (nI c) (nI H) held rel dead shut bb be lo hi can := by
  have h31 : id < 2 ^ 31 := by omega
  have hin : vp_in (nI id) 6 := vp_in_nI h6 (by omega)
  intro n
  induction n with
  | zero =>
    intro s hsn hrs lo hi can a1 a2
    obtain rfl : s = s0 := by omega
    refine ⟨hin, pk_lt d (s + L) (fun z => absurd z (by omega)) (fun _ => ?_) (by rw [nI_clamp h31]; exact hd.1) (nI_add _ _) (by omega) (by omega)⟩
    rw [nI_add]
    refine ej_ywinh h6 hb (ej_yfits (by omega) hL1 hL (ej_wnu (f := f) (fun j hj hn hjb => by rw [a1 j hn]; exact w1 j hj hn hjb) (by omega)) (ej_wnu (f := g) (fun j hj hn hjb => by rw [a2 j hn]; exact w2 j hj hn hjb) (by omega)) hs hP hQ (fun _ can => br_f (by decide) (k _ _ can)) (fun g2 can => absurd hG g2))
  | succ n ih =>
    intro s hsn hrs lo hi can a1 a2
    refine ⟨hin, pk_lt d (s + L) (fun z => absurd z (by omega)) (fun _ => ?_) (by rw [nI_clamp h31]; exact hd.1) (nI_add _ _) (by omega) (by omega)⟩
    rw [nI_add]
    refine ej_ywinh h6 hb (ej_yfits (by omega) hL1 hL (ej_wnu (f := f) (fun j hj hn hjb => by rw [a1 j hn]; exact w1 j hj hn hjb) (by omega)) (ej_wnu (f := g) (fun j hj hn hjb => by rw [a2 j hn]; exact w2 j hj hn hjb) (by omega)) hs hP hQ (fun g2 can => absurd g2 (hno s hrs (by omega))) (fun g2 can => br_t rfl (nm_r (nI_1 s) (ih (s + 1) (by omega) (by omega) _ _ can (fun j hj => by rw [pk_un hj]; exact a1 j hj) (fun j hj => by rw [pk_un hj]; exact a2 j hj)))))
theorem i_vc_earliestStart {k : Nat} {u : SX} {v : SY} (I : i_Rel k u v) (hk : k + 4 ≤ 2050) (v1 : Int32) : wpX_earliestStart (fun r u' => wpY_earliestStart (fun r' v' => r' = r ∧ i_Rel (k + 4) u' v') v v1) u v1 := by
  obtain ⟨L, c, H, B, R, D, P, Q, al, rel, dead, bb, be, fs, tr, td, le, held, shut, lo, hi, can, rfl, rfl, hI⟩ := I
  have ⟨⟨hL1, hL, hc, hHc, hH, hB⟩, ⟨hR, hD, hP, hQ⟩, ⟨hfs, hh, hs⟩, hw, hG⟩ := hI
  unfold wpX_earliestStart wpY_earliestStart
  refine ej_xhold hH (fun id h6 e hb => ?_) (fun hn => br_t rfl (ej_yth0 hh hn (br_t rfl ⟨rfl, ej_mk hI⟩)))
  subst e
  have h31 : id < 2 ^ 31 := by omega
  have hin : vp_in (nI id) 6 := vp_in_nI h6 (by omega)
  refine br_f (by decide) (ej_xcpy (fun tr' td' t1 t2 => ?_))
  refine ej_xpe (lo := R) (hi := D) h6 hL hH (hR id h6) (hD id h6) (hw id h6 hb) (fun j _ _ hj => ?_) (fun j _ _ hj => ?_) hfs (ej_Gpin hG hb) (fun s a1 a2 a3 a4 tr2 td2 le2 _ _ _ _ => ?_)
  · rw [t1 j (ej_lt6 hH hj)]; exact hR j (ej_lt6 hH hj)
  · rw [t2 j (ej_lt6 hH hj)]; exact hD j (ej_lt6 hH hj)
  · refine ej_yth1 h6 hh hb (br_f (by decide) (ej_yask40 hH hh hR hD (fun lo hi w1 w2 => ⟨hin, nm_r (e' := nI (R id)) (by rw [nI_clamp h31]; exact (hR id h6).1) ⟨s - R id + 1, ?_⟩⟩)))
    exact ej_yes (r := R id) h6 hb hL1 hL hH (hD id h6) hs hP hQ (fun j hj _ hjb => w1 j hj hjb) (fun j hj _ hjb => w2 j hj hjb) a2 a3 a4 (fun _ _ _ => ⟨rfl, ej_mk hI⟩) (s - R id) (R id) (by omega) (Nat.le_refl _) lo hi can (fun _ _ => rfl) (fun _ _ => rfl)
theorem ej_xls {post : Int32 → SX → Prop} {id r d : Nat} {tr0 td0 : Nat → Int32} (h6 : id < 6) (hL : L ≤ 6) (hH : H < 64) (hr : rel id = nI r ∧ r ≤ 40) (hd40 : d ≤ 40)
    (w1 : ∀ j, j < 7 → j ≠ id → H.testBit j = true → tr0 j = nI (f j) ∧ f j ≤ 40) (w2 : ∀ j, j < 7 → j ≠ id → H.testBit j = true → td0 j = nI (g j) ∧ g j ≤ 40) (hfs : ej_FS fr fs)
    (hex : ∃ s, r ≤ s ∧ s + L ≤ d ∧ ej_G L fr (ej_nu f id s) (ej_nu g id (s + L)) 40 H)
    (k : ∀ s, r ≤ s → s + L ≤ d → ej_G L fr (ej_nu f id s) (ej_nu g id (s + L)) 40 H → (∀ s', s < s' → s' + L ≤ d → ¬ ej_G L fr (ej_nu f id s') (ej_nu g id (s' + L)) 40 H) → ∀ tr td le : Nat → Int32, post (nI s) (nI L, nI c, nI H, nI B, rel, dead, bb, be, fs, tr, td, le)) :
    ∀ m, m + L ≤ d + 1 → (∀ s', m ≤ s' → s' + L ≤ d → ¬ ej_G L fr (ej_nu f id s') (ej_nu g id (s' + L)) 40 H) → ∀ tr td le : Nat → Int32, (∀ j, j ≠ id → tr j = tr0 j) → (∀ j, j ≠ id → td j = td0 j) → wX_latestStart_26 post (nI id) (m + 1) (nI m + (-1)) (nI L) (nI c) (nI H) (nI B) rel dead bb be fs tr td le := by
  have h31 : id < 2 ^ 31 := by omega
  have hin : vp_in (nI id) 6 := vp_in_nI h6 (by omega)
  obtain ⟨s0, b1, b2, b3⟩ := hex
  intro m
  induction m with
  | zero =>
    intro _ hno tr td le a1 a2
    exact absurd b3 (hno s0 (by omega) b2)
  | succ i ih =>
    intro hm hno tr td le a1 a2
    rw [pk_m1 i]
    refine ⟨hin, pk_lt i r (fun z => absurd b3 (hno s0 (by omega) b2)) (fun z => ?_) rfl (by rw [nI_clamp h31]; exact hr.1) (by omega) (by omega)⟩
    refine ej_xpin h6 hL (by omega) hH (fun j hj hn hb => by rw [a1 j hn]; exact w1 j hj hn hb) (fun j hj hn hb => by rw [a2 j hn]; exact w2 j hj hn hb) hfs (fun g2 le' => ?_) (fun g2 le' => ?_)
    · exact br_f (by decide) (k i z (by omega) g2 (fun s' q1 q2 => hno s' (by omega) q2) _ _ le')
    · refine br_t rfl (nm_e (ih (by omega) (fun s' q1 q2 => ?_) _ _ le' (fun j hj => by rw [pk_un hj]; exact a1 j hj) (fun j hj => by rw [pk_un hj]; exact a2 j hj)))
      by_cases e : s' = i
      · subst e; exact g2
      · exact hno s' (by omega) q2
theorem ej_yls {post : Int32 → SY → Prop} {id r d s0 : Nat} {lo0 hi0 : Nat → Int32} (h6 : id < 6) (hb : H.testBit id = true) (hL1 : 1 ≤ L) (hL : L ≤ 6) (hH : H < 64) (hr : rel id = nI r ∧ r ≤ 40) (hd40 : d ≤ 40) (hs : ej_hs 4 shut B) (hP : ej_al 4 bb P) (hQ : ej_al 4 be Q)
    (w1 : ∀ j, j < 7 → j ≠ id → H.testBit j = true → lo0 j = nI (f j) ∧ f j ≤ 40) (w2 : ∀ j, j < 7 → j ≠ id → H.testBit j = true → hi0 j = nI (g j) ∧ g j ≤ 40)
    (hs0 : r ≤ s0) (hG : ej_G L (ej_fr L B P Q) (ej_nu f id s0) (ej_nu g id (s0 + L)) 40 H) (hno : ∀ s', s0 < s' → s' + L ≤ d → ¬ ej_G L (ej_fr L B P Q) (ej_nu f id s') (ej_nu g id (s' + L)) 40 H)
    (k : ∀ lo hi can : Nat → Int32, post (nI s0) (nI L, nI c, nI H, held, rel, dead, shut, bb, be, lo, hi, can)) :
    ∀ n, s0 + n + L ≤ d → ∀ lo hi can : Nat → Int32, (∀ j, j ≠ id → lo j = lo0 j) → (∀ j, j ≠ id → hi j = hi0 j) → wY_latestStart_29 post (nI id) (n + 1) (nI (s0 + n)) (nI L) (nI c) (nI H) held rel dead shut bb be lo hi can := by
  have h31 : id < 2 ^ 31 := by omega
  have hin : vp_in (nI id) 6 := vp_in_nI h6 (by omega)
  intro n
  induction n with
  | zero =>
    intro hsn lo hi can a1 a2
    refine ⟨hin, pk_lt (s0 + 0) r (fun z => absurd z (by omega)) (fun _ => ?_) rfl (by rw [nI_clamp h31]; exact hr.1) (by omega) (by omega)⟩
    rw [nI_add]
    refine ej_ywinh h6 hb (ej_yfits (by omega) hL1 hL (ej_wnu (f := f) (fun j hj hn hjb => by rw [a1 j hn]; exact w1 j hj hn hjb) (by omega)) (ej_wnu (f := g) (fun j hj hn hjb => by rw [a2 j hn]; exact w2 j hj hn hjb) (by omega)) hs hP hQ (fun _ can => br_f (by decide) (k _ _ can)) (fun g2 can => absurd hG g2))
  | succ n ih =>
    intro hsn lo hi can a1 a2
    refine ⟨hin, pk_lt (s0 + (n + 1)) r (fun z => absurd z (by omega)) (fun _ => ?_) rfl (by rw [nI_clamp h31]; exact hr.1) (by omega) (by omega)⟩
    rw [nI_add]
    refine ej_ywinh h6 hb (ej_yfits (by omega) hL1 hL (ej_wnu (f := f) (fun j hj hn hjb => by rw [a1 j hn]; exact w1 j hj hn hjb) (by omega)) (ej_wnu (f := g) (fun j hj hn hjb => by rw [a2 j hn]; exact w2 j hj hn hjb) (by omega)) hs hP hQ (fun g2 can => absurd g2 (hno _ (by omega) (by omega))) (fun g2 can => br_t rfl (nm_r (pk_m1 (s0 + n)) (ih (by omega) _ _ can (fun j hj => by rw [pk_un hj]; exact a1 j hj) (fun j hj => by rw [pk_un hj]; exact a2 j hj)))))
theorem i_vc_latestStart {k : Nat} {u : SX} {v : SY} (I : i_Rel k u v) (hk : k + 4 ≤ 2050) (v1 : Int32) : wpX_latestStart (fun r u' => wpY_latestStart (fun r' v' => r' = r ∧ i_Rel (k + 4) u' v') v v1) u v1 := by
  obtain ⟨L, c, H, B, R, D, P, Q, al, rel, dead, bb, be, fs, tr, td, le, held, shut, lo, hi, can, rfl, rfl, hI⟩ := I
  have ⟨⟨hL1, hL, hc, hHc, hH, hB⟩, ⟨hR, hD, hP, hQ⟩, ⟨hfs, hh, hs⟩, hw, hG⟩ := hI
  unfold wpX_latestStart wpY_latestStart
  refine ej_xhold hH (fun id h6 e hb => ?_) (fun hn => br_t rfl (ej_yth0 hh hn (br_t rfl ⟨rfl, ej_mk hI⟩)))
  subst e
  have h31 : id < 2 ^ 31 := by omega
  have hin : vp_in (nI id) 6 := vp_in_nI h6 (by omega)
  have hwi := hw id h6 hb
  have hd := hD id h6
  have ed : dead (nI id).toNatClampNeg - nI L = nI (D id - L) := by rw [nI_clamp h31, hd.1, pk_sub (by omega)]
  refine br_f (by decide) (ej_xcpy (fun tr' td' t1 t2 => ⟨hin, nm_r ed ⟨D id - L + 1 + 1, ?_⟩⟩))
  rw [← pk_m1 (D id - L)]
  refine ej_xls (f := R) (g := D) (d := D id) h6 hL hH (hR id h6) hd.2 (fun j _ _ hj => ?_) (fun j _ _ hj => ?_) hfs (ej_Gpin hG hb) (fun s a1 a2 a3 a4 tr2 td2 le2 => ?_) (D id - L + 1) (by omega) (fun s' q1 q2 => by omega) tr' td' le (fun _ _ => rfl) (fun _ _ => rfl)
  · rw [t1 j (ej_lt6 hH hj)]; exact hR j (ej_lt6 hH hj)
  · rw [t2 j (ej_lt6 hH hj)]; exact hD j (ej_lt6 hH hj)
  · refine ej_yth1 h6 hh hb (br_f (by decide) (ej_yask40 hH hh hR hD (fun lo hi w1 w2 => ⟨hin, nm_r ed ⟨D id - L - s + 1, ?_⟩⟩)))
    have h := ej_yls (c := c) (f := R) (g := D) (d := D id) (lo0 := lo) (hi0 := hi) (held := held) (dead := dead) (post := fun r' v' => r' = nI s ∧ i_Rel (k + 4) (nI L, nI c, nI H, nI B, rel, dead, bb, be, fs, tr2, td2, le2) v') h6 hb hL1 hL hH (hR id h6) hd.2 hs hP hQ (fun j hj _ hjb => w1 j hj hjb) (fun j hj _ hjb => w2 j hj hjb) a1 a3 a4 (fun _ _ _ => ⟨rfl, ej_mk hI⟩) (D id - L - s) (by omega) lo hi can (fun _ _ => rfl) (fun _ _ => rfl)
    rw [show s + (D id - L - s) = D id - L by omega] at h
    exact h
end
end
section
/-! plannedStart: the jobs pinned one by one -/
theorem pk_least (P : Nat → Prop) (h : ∃ k, P k) : ∃ k, P k ∧ ∀ j, j < k → ¬ P j := by
  obtain ⟨k, hk⟩ := h
  induction k using Nat.strongRecOn with
  | ind k ih =>
    by_cases e : ∃ j, j < k ∧ P j
    · obtain ⟨j, hj, pj⟩ := e
      exact ih j hj pj
    · exact ⟨k, hk, fun j hj pj => e ⟨j, hj, pj⟩⟩
noncomputable def ej_lst (P : Nat → Prop) : Nat := Classical.epsilon (fun s => P s ∧ ∀ s', s' < s → ¬ P s')
theorem ej_lsts {P : Nat → Prop} (h : ∃ s, P s) : P (ej_lst P) ∧ ∀ s', s' < ej_lst P → ¬ P s' :=
  Classical.epsilon_spec (p := fun s => P s ∧ ∀ s', s' < s → ¬ P s') (pk_least P h)
theorem ej_lstu {P : Nat → Prop} {s : Nat} (h : P s) (hn : ∀ s', s' < s → ¬ P s') : s = ej_lst P := by
  obtain ⟨a, b⟩ := ej_lsts ⟨s, h⟩
  rcases Nat.lt_trichotomy s (ej_lst P) with z | z | z
  · exact absurd h (b s z)
  · exact z
  · exact absurd a (hn _ z)
def ej_pP (L H : Nat) (fr : Nat → Prop) (R lo hi : Nat → Nat) (i s : Nat) : Prop := R i ≤ s ∧ ej_G L fr (ej_nu lo i s) (ej_nu hi i (s + L)) 40 H
noncomputable def ej_pv (L H : Nat) (fr : Nat → Prop) (R : Nat → Nat) (w : (Nat → Nat) × (Nat → Nat)) (i : Nat) : Nat := ej_lst (ej_pP L H fr R w.1 w.2 i)
noncomputable def ej_ps (L H : Nat) (fr : Nat → Prop) (R D : Nat → Nat) : Nat → (Nat → Nat) × (Nat → Nat)
  | 0 => (R, D)
  | i + 1 => if H.testBit i = true then (ej_nu (ej_ps L H fr R D i).1 i (ej_pv L H fr R (ej_ps L H fr R D i) i), ej_nu (ej_ps L H fr R D i).2 i (ej_pv L H fr R (ej_ps L H fr R D i) i + L)) else ej_ps L H fr R D i
section
variable {L c H B : Nat} {R D P Q f g : Nat → Nat} {al : Int32} {rel dead bb be fs tr td le held shut lo hi can : Nat → Int32} {fr : Nat → Prop}
theorem ej_ps1 {i : Nat} (h : H.testBit i = true) : ej_ps L H fr R D (i + 1) = (ej_nu (ej_ps L H fr R D i).1 i (ej_pv L H fr R (ej_ps L H fr R D i) i), ej_nu (ej_ps L H fr R D i).2 i (ej_pv L H fr R (ej_ps L H fr R D i) i + L)) := by
  rw [ej_ps, if_pos h]
theorem ej_ps0 {i : Nat} (h : H.testBit i = false) : ej_ps L H fr R D (i + 1) = ej_ps L H fr R D i := by
  rw [ej_ps, if_neg (by rw [h]; decide)]
/-- windows w, in which i's is still its own, fit: so does i's least start -/
theorem ej_pvok {w : (Nat → Nat) × (Nat → Nat)} {i : Nat} (hb : H.testBit i = true) (hG : ej_G L fr w.1 w.2 40 H) (h1 : w.1 i = R i) (h2 : w.2 i = D i) :
    R i ≤ ej_pv L H fr R w i ∧ ej_pv L H fr R w i + L ≤ D i ∧ ej_G L fr (ej_nu w.1 i (ej_pv L H fr R w i)) (ej_nu w.2 i (ej_pv L H fr R w i + L)) 40 H ∧ ∀ s', R i ≤ s' → s' < ej_pv L H fr R w i → ¬ ej_G L fr (ej_nu w.1 i s') (ej_nu w.2 i (s' + L)) 40 H := by
  obtain ⟨s, a1, a2, a3⟩ := ej_Gpin hG hb
  rw [h1] at a1
  rw [h2] at a2
  have hp : ej_pP L H fr R w.1 w.2 i s := ⟨a1, a3⟩
  obtain ⟨⟨b1, b2⟩, b3⟩ := ej_lsts ⟨s, hp⟩
  refine ⟨b1, ?_, b2, fun s' q1 q2 q3 => b3 s' q2 ⟨q1, q3⟩⟩
  rcases Nat.lt_or_ge s (ej_pv L H fr R w i) with z | z
  · exact absurd hp (b3 s z)
  · omega
theorem ej_psok (hH : H < 64) (hR : ∀ j, j < 6 → R j ≤ 40) (hD : ∀ j, j < 6 → D j ≤ 40) (hG : ej_G L fr R D 40 H) : ∀ i, i ≤ 6 → ej_G L fr (ej_ps L H fr R D i).1 (ej_ps L H fr R D i).2 40 H ∧ (∀ j, i ≤ j → (ej_ps L H fr R D i).1 j = R j ∧ (ej_ps L H fr R D i).2 j = D j) ∧ (∀ j, j < 7 → H.testBit j = true → (ej_ps L H fr R D i).1 j ≤ 40 ∧ (ej_ps L H fr R D i).2 j ≤ 40) := by
  intro i
  induction i with
  | zero =>
    intro _
    refine ⟨hG, fun j _ => ⟨rfl, rfl⟩, fun j _ hb => ⟨hR j (ej_lt6 hH hb), hD j (ej_lt6 hH hb)⟩⟩
  | succ i ih =>
    intro hi6
    obtain ⟨a1, a2, a3⟩ := ih (by omega)
    by_cases hb : H.testBit i = true
    · have e2 := a2 i (Nat.le_refl _)
      obtain ⟨b1, b2, b3, b4⟩ := ej_pvok hb a1 e2.1 e2.2
      have := hD i (by omega)
      rw [ej_ps1 hb]
      refine ⟨b3, fun j hj => ?_, fun j hj hjb => ?_⟩
      · dsimp only
        rw [ej_nun (by omega), ej_nun (by omega)]
        exact a2 j (by omega)
      · dsimp only
        by_cases e : j = i
        · subst e
          rw [ej_nus, ej_nus]
          omega
        · rw [ej_nun e, ej_nun e]
          exact a3 j hj hjb
    · rw [ej_ps0 (ej_nt hb)]
      exact ⟨a1, fun j hj => a2 j (by omega), a3⟩
/-- what a step needs -/
theorem ej_psst {i : Nat} (hH : H < 64) (hR : ej_al 6 rel R) (hD : ej_al 6 dead D) (hG : ej_G L fr R D 40 H) (hi : i < 6) (hb : H.testBit i = true) :
    R i ≤ ej_pv L H fr R (ej_ps L H fr R D i) i ∧ ej_pv L H fr R (ej_ps L H fr R D i) i + L ≤ D i ∧ ej_G L fr (ej_nu (ej_ps L H fr R D i).1 i (ej_pv L H fr R (ej_ps L H fr R D i) i)) (ej_nu (ej_ps L H fr R D i).2 i (ej_pv L H fr R (ej_ps L H fr R D i) i + L)) 40 H ∧ ∀ s', R i ≤ s' → s' < ej_pv L H fr R (ej_ps L H fr R D i) i → ¬ ej_G L fr (ej_nu (ej_ps L H fr R D i).1 i s') (ej_nu (ej_ps L H fr R D i).2 i (s' + L)) 40 H := by
  obtain ⟨a1, a2, a3⟩ := ej_psok hH (fun j hj => (hR j hj).2) (fun j hj => (hD j hj).2) hG i (by omega)
  have e2 := a2 i (Nat.le_refl _)
  exact ej_pvok hb a1 e2.1 e2.2
theorem ej_xpl {post : Int32 → SX → Prop} {id : Nat} (h6 : id < 6) (hb : H.testBit id = true) (hL : L ≤ 6) (hH : H < 64) (hR : ej_al 6 rel R) (hD : ej_al 6 dead D) (hfs : ej_FS fr fs) (hw : ∀ j, j < 6 → H.testBit j = true → R j + L ≤ D j) (hG : ej_G L fr R D 40 H)
    (k : ∀ tr td le : Nat → Int32, post (nI (ej_pv L H fr R (ej_ps L H fr R D id) id)) (nI L, nI c, nI H, nI B, rel, dead, bb, be, fs, tr, td, le)) :
    ∀ n i, i + n = id → ∀ tr td le : Nat → Int32, ej_wn H tr (ej_ps L H fr R D i).1 → ej_wn H td (ej_ps L H fr R D i).2 → wX_plannedStart_16 post (nI id) (n + 1) (nI i) (nI L) (nI c) (nI H) (nI B) rel dead bb be fs tr td le := by
  intro n
  induction n with
  | zero =>
    intro i hi tr td le w1 w2
    obtain rfl : i = id := by omega
    obtain ⟨b1, b2, b3, b4⟩ := ej_psst hH hR hD hG h6 hb
    refine br_t (nI_le (Nat.le_refl _) (by omega)) (ej_xpe h6 hL hH (hR i h6) (hD i h6) (hw i h6 hb) (fun j hj _ hjb => w1 j hj hjb) (fun j hj _ hjb => w2 j hj hjb) hfs ⟨_, b1, b2, b3⟩ (fun s a1 a2 a3 a4 tr' td' le' _ _ _ _ => ?_))
    have e : s = ej_pv L H fr R (ej_ps L H fr R D i) i := ej_lstu (P := ej_pP L H fr R (ej_ps L H fr R D i).1 (ej_ps L H fr R D i).2 i) ⟨a1, a3⟩ (fun s' hs' hp => a4 s' hp.1 hs' hp.2)
    rw [e]
    exact k _ _ _
  | succ n ih =>
    intro i hi tr td le w1 w2
    have hi6 : i < 6 := by omega
    refine br_f (nI_ge (a := i) (b := id) (by omega) (by omega)) (ej_xhold hH (fun id' q1 q2 q3 => ?_) (fun hn => ?_))
    · have q4 := (nI_eq (a := i) (b := id') (by omega) (by omega)).mp q2
      rw [← q4] at q3
      obtain ⟨b1, b2, b3, b4⟩ := ej_psst hH hR hD hG hi6 q3
      have hdi := (hD i hi6).2
      refine br_f (by decide) (ej_xpe hi6 hL hH (hR i hi6) (hD i hi6) (hw i hi6 q3) (fun j hj _ hjb => w1 j hj hjb) (fun j hj _ hjb => w2 j hj hjb) hfs ⟨_, b1, b2, b3⟩ (fun s a1 a2 a3 a4 tr' td' le' t1 t2 t3 t4 => nm_r (nI_1 i) (ih (i + 1) (by omega) tr' td' le' ?_ ?_)))
      · have e : s = ej_pv L H fr R (ej_ps L H fr R D i) i := ej_lstu (P := ej_pP L H fr R (ej_ps L H fr R D i).1 (ej_ps L H fr R D i).2 i) ⟨a1, a3⟩ (fun s' hs' hp => a4 s' hp.1 hs' hp.2)
        rw [ej_ps1 q3, ← e]
        exact ej_wnp (fun j hj hn hjb => by rw [t1 j hn]; exact w1 j hj hjb) t3 (by omega)
      · have e : s = ej_pv L H fr R (ej_ps L H fr R D i) i := ej_lstu (P := ej_pP L H fr R (ej_ps L H fr R D i).1 (ej_ps L H fr R D i).2 i) ⟨a1, a3⟩ (fun s' hs' hp => a4 s' hp.1 hs' hp.2)
        rw [ej_ps1 q3, ← e]
        exact ej_wnp (fun j hj hn hjb => by rw [t2 j hn]; exact w2 j hj hjb) t4 (by omega)
    · refine br_t rfl (nm_r (nI_1 i) (ih (i + 1) (by omega) tr td le ?_ ?_))
      · rw [ej_ps0 (hn i hi6 rfl)]; exact w1
      · rw [ej_ps0 (hn i hi6 rfl)]; exact w2
theorem ej_ypl63 {post : Int32 → SY → Prop} {J21 : Int32 → Int32 → Int32 → Int32 → Int32 → (Nat → Int32) → (Nat → Int32) → (Nat → Int32) → (Nat → Int32) → (Nat → Int32) → (Nat → Int32) → (Nat → Int32) → (Nat → Int32) → (Nat → Int32) → Prop} {x1 : Int32} {j v r : Nat} {lo0 hi0 : Nat → Int32}
    (h6 : j < 6) (hb : H.testBit j = true) (hL1 : 1 ≤ L) (hL : L ≤ 6) (hH : H < 64) (hs : ej_hs 4 shut B) (hP : ej_al 4 bb P) (hQ : ej_al 4 be Q)
    (w1 : ∀ i, i < 7 → i ≠ j → H.testBit i = true → lo0 i = nI (f i) ∧ f i ≤ 40) (w2 : ∀ i, i < 7 → i ≠ j → H.testBit i = true → hi0 i = nI (g i) ∧ g i ≤ 40)
    (hv : v + L ≤ 40) (hG : ej_G L (ej_fr L B P Q) (ej_nu f j v) (ej_nu g j (v + L)) 40 H) (hno : ∀ s', r ≤ s' → s' < v → ¬ ej_G L (ej_fr L B P Q) (ej_nu f j s') (ej_nu g j (s' + L)) 40 H)
    (k : ∀ lo hi can : Nat → Int32, (∀ i, i ≠ j → lo i = lo0 i) → (∀ i, i ≠ j → hi i = hi0 i) → lo j = nI v → hi j = nI (v + L) → J21 (nI v) (nI (j + 1)) (nI L) (nI c) (nI H) held rel dead shut bb be lo hi can) :
    ∀ n s m, s + n = v → r ≤ s → m + n ≤ 39 → ∀ lo hi can : Nat → Int32, (∀ i, i ≠ j → lo i = lo0 i) → (∀ i, i ≠ j → hi i = hi0 i) → lo j = nI s → hi j = nI (s + L) → wY_plannedStart_63 post J21 x1 (nI j) (n + 1) (nI s) (nI m) (nI L) (nI c) (nI H) held rel dead shut bb be lo hi can := by
  intro n
  induction n with
  | zero =>
    intro s m hsn hrs hm lo hi can a1 a2 a3 a4
    obtain rfl : s = v := by omega
    exact br_f (nI_ge (b := 40) (by omega) (by omega)) (ej_yfits (by omega) hL1 hL (ej_wnp (fun i hi7 hn hjb => by rw [a1 i hn]; exact w1 i hi7 hn hjb) a3 (by omega)) (ej_wnp (fun i hi7 hn hjb => by rw [a2 i hn]; exact w2 i hi7 hn hjb) a4 (by omega)) hs hP hQ (fun _ can => br_f (by decide) (nm_r (nI_1 j) (k lo hi can a1 a2 a3 a4))) (fun g2 _ => absurd hG g2))
  | succ n ih =>
    intro s m hsn hrs hm lo hi can a1 a2 a3 a4
    refine br_f (nI_ge (b := 40) (by omega) (by omega)) (ej_yfits (by omega) hL1 hL (ej_wnp (fun i hi7 hn hjb => by rw [a1 i hn]; exact w1 i hi7 hn hjb) a3 (by omega)) (ej_wnp (fun i hi7 hn hjb => by rw [a2 i hn]; exact w2 i hi7 hn hjb) a4 (by omega)) hs hP hQ (fun g2 _ => absurd g2 (hno s hrs (by omega))) (fun g2 can => br_t rfl (nm_r (nI_1 s) ?_)))
    rw [nI_add]
    exact ej_ywinh h6 hb (nm_r (nI_1 m) (ih (s + 1) (m + 1) (by omega) (by omega) (by omega) _ _ can (fun i hi => by rw [pk_un hi]; exact a1 i hi) (fun i hi => by rw [pk_un hi]; exact a2 i hi) pk_us pk_us))
theorem ej_ypl {post : Int32 → SY → Prop} {id : Nat} (h6 : id < 6) (hb : H.testBit id = true) (hL1 : 1 ≤ L) (hL : L ≤ 6) (hH : H < 64) (hh : ej_hs 6 held H) (hR : ej_al 6 rel R) (hD : ej_al 6 dead D) (hs : ej_hs 4 shut B) (hP : ej_al 4 bb P) (hQ : ej_al 4 be Q) (hG : ej_G L (ej_fr L B P Q) R D 40 H)
    (k : ∀ lo hi can : Nat → Int32, post (nI (ej_pv L H (ej_fr L B P Q) R (ej_ps L H (ej_fr L B P Q) R D id) id)) (nI L, nI c, nI H, held, rel, dead, shut, bb, be, lo, hi, can)) :
    ∀ n j, j + n = id + 1 → ∀ (x2 : Int32) (lo hi can : Nat → Int32), (j = id + 1 → x2 = nI (ej_pv L H (ej_fr L B P Q) R (ej_ps L H (ej_fr L B P Q) R D id) id)) → ej_wn H lo (ej_ps L H (ej_fr L B P Q) R D j).1 → ej_wn H hi (ej_ps L H (ej_fr L B P Q) R D j).2 → wY_plannedStart_21 post (nI id) (n + 1) x2 (nI j) (nI L) (nI c) (nI H) held rel dead shut bb be lo hi can := by
  intro n
  induction n with
  | zero =>
    intro j hj x2 lo hi can hx w1 w2
    obtain rfl : j = id + 1 := by omega
    rw [hx rfl]
    exact br_t (nI_lt (by omega) (by omega)) (k lo hi can)
  | succ n ih =>
    intro j hj x2 lo hi can hx w1 w2
    have hj6 : j < 6 := by omega
    have h31 : j < 2 ^ 31 := by omega
    have hin : vp_in (nI j) 6 := vp_in_nI hj6 (by omega)
    refine br_f (nI_nlt (a := id) (b := j) (by omega) (by omega)) (br_f (nI_ge (b := 6) hj6 (by omega)) ⟨hin, ?_⟩)
    by_cases hjb : H.testBit j = true
    · obtain ⟨b1, b2, b3, b4⟩ := ej_psst hH hR hD hG hj6 hjb
      have hdj := (hD j hj6).2
      refine br_f (by rw [nI_clamp h31, ej_hs1 hh hj6 hjb]; decide) ⟨hin, nm_r (e' := nI (R j)) (by rw [nI_clamp h31]; exact (hR j hj6).1) ?_⟩
      rw [nI_add]
      refine ej_ywinh hj6 hjb ⟨ej_pv L H (ej_fr L B P Q) R (ej_ps L H (ej_fr L B P Q) R D j) j - R j + 1, ?_⟩
      refine ej_ypl63 (r := R j) (v := ej_pv L H (ej_fr L B P Q) R (ej_ps L H (ej_fr L B P Q) R D j) j) (lo0 := lo) (hi0 := hi) hj6 hjb hL1 hL hH hs hP hQ (fun i hi7 _ hib => w1 i hi7 hib) (fun i hi7 _ hib => w2 i hi7 hib) (by omega) b3 b4 (fun lo' hi' can' t1 t2 t3 t4 => ih (j + 1) (by omega) _ lo' hi' can' (fun e => ?_) ?_ ?_) (ej_pv L H (ej_fr L B P Q) R (ej_ps L H (ej_fr L B P Q) R D j) j - R j) (R j) 0 (by omega) (Nat.le_refl _) (by omega) _ _ can (fun i hi => pk_un hi) (fun i hi => pk_un hi) pk_us pk_us
      · obtain rfl : j = id := by omega
        rfl
      · rw [ej_ps1 hjb]
        exact ej_wnp (fun i hi7 hn hib => by rw [t1 i hn]; exact w1 i hi7 hib) t3 (by omega)
      · rw [ej_ps1 hjb]
        exact ej_wnp (fun i hi7 hn hib => by rw [t2 i hn]; exact w2 i hi7 hib) t4 (by omega)
    · refine br_t (by rw [nI_clamp h31, ej_hs0 hh hj6 (ej_nt hjb)]) (nm_r (nI_1 j) (ih (j + 1) (by omega) x2 lo hi can (fun e => ?_) ?_ ?_))
      · obtain rfl : j = id := by omega
        exact absurd hb hjb
      · rw [ej_ps0 (ej_nt hjb)]; exact w1
      · rw [ej_ps0 (ej_nt hjb)]; exact w2
theorem i_vc_plannedStart {k : Nat} {u : SX} {v : SY} (I : i_Rel k u v) (hk : k + 4 ≤ 2050) (v1 : Int32) : wpX_plannedStart (fun r u' => wpY_plannedStart (fun r' v' => r' = r ∧ i_Rel (k + 4) u' v') v v1) u v1 := by
  obtain ⟨L, c, H, B, R, D, P, Q, al, rel, dead, bb, be, fs, tr, td, le, held, shut, lo, hi, can, rfl, rfl, hI⟩ := I
  have ⟨⟨hL1, hL, hc, hHc, hH, hB⟩, ⟨hR, hD, hP, hQ⟩, ⟨hfs, hh, hs⟩, hw, hG⟩ := hI
  unfold wpX_plannedStart wpY_plannedStart
  refine ej_xhold hH (fun id h6 e hb => ?_) (fun hn => br_t rfl (ej_yth0 hh hn (br_t rfl ⟨rfl, ej_mk hI⟩)))
  subst e
  refine br_f (by decide) (ej_xcpy (fun tr' td' t1 t2 => ⟨id + 1, ej_xpl h6 hb hL hH hR hD hfs hw hG (fun tr2 td2 le2 => ?_) id 0 (by omega) tr' td' le (fun j _ hj => ?_) (fun j _ hj => ?_)⟩))
  · exact ej_yth1 h6 hh hb (br_f (by decide) (ej_yask40 hH hh hR hD (fun lo hi w1 w2 => ⟨id + 1 + 1, ej_ypl h6 hb hL1 hL hH hh hR hD hs hP hQ hG (fun _ _ _ => ⟨rfl, ej_mk hI⟩) (id + 1) 0 (by omega) (-1) lo hi can (fun e => by omega) w1 w2⟩)))
  · rw [t1 j (ej_lt6 hH hj)]; exact hR j (ej_lt6 hH hj)
  · rw [t2 j (ej_lt6 hH hj)]; exact hD j (ej_lt6 hH hj)
end
end
