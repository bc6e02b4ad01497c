/-! rows to paste of the kit, and bits -/
theorem pk_us {f : Nat → Int32} {k : Nat} {x : Int32} : upd f k x k = x := if_pos rfl
theorem pk_un {f : Nat → Int32} {k j : Nat} {x : Int32} (h : j ≠ k) : upd f k x j = f j := if_neg h
theorem pk_sub {a b : Nat} (h : b ≤ a) : nI a - nI b = nI (a - b) := by
  obtain ⟨c, rfl⟩ : ∃ c, a = c + b := ⟨a - b, by omega⟩
  rw [← nI_add, Int32.add_sub_cancel, Nat.add_sub_cancel]
theorem pk_m1 (n : Nat) : nI (n + 1) + (-1) = nI n := by
  rw [← nI_1, Int32.add_assoc, show (1 : Int32) + (-1) = 0 from rfl, Int32.add_zero]
theorem pk_mul (a b : Nat) : nI a * nI b = nI (a * b) := (Int32.ofNat_mul a b).symm
theorem pk_sub_toInt {a b : Nat} (ha : a < 2 ^ 30) (hb : b < 2 ^ 30) : (nI a - nI b).toInt = (a : Int) - b := by
  rw [Int32.toInt_sub, nI_toInt (by omega), nI_toInt (by omega)]
  exact Int.bmod_eq_of_le (by omega) (by omega)
theorem pk_le {x y : Int32} {A B : Prop} (a b : Nat) (f : a ≤ b → A) (g : b < a → B) (hx : x = nI a := by rfl) (hy : y = nI b := by rfl) (ha : a < 2 ^ 31 := by omega) (hb : b < 2 ^ 31 := by omega) : (x ≤ y → A) ∧ (¬ x ≤ y → B) := by
  subst hx hy
  rw [nI_leI ha hb]
  exact ⟨f, fun z => g (by omega)⟩
theorem pk_lt {x y : Int32} {A B : Prop} (a b : Nat) (f : a < b → A) (g : b ≤ a → B) (hx : x = nI a := by rfl) (hy : y = nI b := by rfl) (ha : a < 2 ^ 31 := by omega) (hb : b < 2 ^ 31 := by omega) : (x < y → A) ∧ (¬ x < y → B) := by
  subst hx hy
  rw [nI_ltI ha hb]
  exact ⟨f, fun z => g (by omega)⟩
theorem pk_eq {x y : Int32} {A B : Prop} (a b : Nat) (f : a = b → A) (g : a ≠ b → B) (hx : x = nI a := by rfl) (hy : y = nI b := by rfl) (ha : a < 2 ^ 31 := by omega) (hb : b < 2 ^ 31 := by omega) : (x = y → A) ∧ (¬ x = y → B) := by
  subst hx hy
  rw [nI_eq ha hb]
  exact ⟨f, g⟩
theorem pk_in {x : Int32} (n N : Nat) (h : n < N) (hx : x = nI n := by rfl) (hN : N < 2 ^ 31 := by omega) : vp_in x N := by
  subst hx
  exact vp_in_nI h hN
theorem pk_cl {x : Int32} (n : Nat) (hx : x = nI n := by rfl) (h : n < 2 ^ 31 := by omega) : x.toNatClampNeg = n := by
  subst hx
  exact nI_clamp h
theorem nx_and (a b : Nat) : nI a &&& nI b = nI (a &&& b) := by
  apply Int32.toBitVec_inj.1
  show BitVec.ofNat 32 a &&& BitVec.ofNat 32 b = BitVec.ofNat 32 (a &&& b)
  apply BitVec.eq_of_getLsbD_eq
  intro i hi
  simp [hi]
theorem nx_xor (a b : Nat) : nI a ^^^ nI b = nI (a ^^^ b) := by
  apply Int32.toBitVec_inj.1
  show BitVec.ofNat 32 a ^^^ BitVec.ofNat 32 b = BitVec.ofNat 32 (a ^^^ b)
  apply BitVec.eq_of_getLsbD_eq
  intro i hi
  simp [hi]
theorem ej_nt {x : Bool} (h : ¬ x = true) : x = false := by cases x <;> first | rfl | exact absurd rfl h
theorem ej_nf {x : Bool} (h : ¬ x = false) : x = true := by cases x <;> first | rfl | exact absurd rfl h
/-! sets of slots as naturals below 128 -/
def ej_sub (S A : Nat) : Prop := ∀ j, S.testBit j = true → A.testBit j = true
def ej_rm (S j : Nat) : Nat := S &&& (2 ^ j ^^^ 4294967295)
theorem ej_big {S i : Nat} (h : S < 128) (hi : 7 ≤ i) : S.testBit i = false :=
  Nat.testBit_lt_two_pow (Nat.lt_of_lt_of_le h (Nat.pow_le_pow_right (n := 2) (by decide) hi))
theorem ej_lt7 {S i : Nat} (h : S < 128) (hb : S.testBit i = true) : i < 7 := by
  rcases Nat.lt_or_ge i 7 with z | z
  · exact z
  · rw [ej_big h z] at hb; exact absurd hb (by decide)
theorem ej_big6 {S i : Nat} (h : S < 64) (hi : 6 ≤ i) : S.testBit i = false :=
  Nat.testBit_lt_two_pow (Nat.lt_of_lt_of_le h (Nat.pow_le_pow_right (n := 2) (by decide) hi))
theorem ej_lt6 {S i : Nat} (h : S < 64) (hb : S.testBit i = true) : i < 6 := by
  rcases Nat.lt_or_ge i 6 with z | z
  · exact z
  · rw [ej_big6 h z] at hb; exact absurd hb (by decide)
theorem ej_orl {S j : Nat} (h : S < 128) (hj : j < 7) : S ||| 2 ^ j < 128 :=
  Nat.or_lt_two_pow (n := 7) h (Nat.pow_lt_pow_right (a := 2) (by decide) hj)
theorem ej_orl6 {S j : Nat} (h : S < 64) (hj : j < 6) : S ||| 2 ^ j < 64 :=
  Nat.or_lt_two_pow (n := 6) h (Nat.pow_lt_pow_right (a := 2) (by decide) hj)
theorem ej_orb (S j i : Nat) : (S ||| 2 ^ j).testBit i = (S.testBit i || decide (j = i)) := by
  rw [Nat.testBit_or, Nat.testBit_two_pow]
theorem ej_orj (S j : Nat) : (S ||| 2 ^ j).testBit j = true := by rw [ej_orb]; simp
theorem ej_orn {S j i : Nat} (h : j ≠ i) : (S ||| 2 ^ j).testBit i = S.testBit i := by rw [ej_orb]; simp [h]
theorem ej_orm {S j i : Nat} (h : S.testBit i = true) : (S ||| 2 ^ j).testBit i = true := by rw [ej_orb, h]; rfl
theorem ej_rmb {S : Nat} (h : S < 128) (j i : Nat) : (ej_rm S j).testBit i = (S.testBit i && !(decide (j = i))) := by
  unfold ej_rm
  rw [Nat.testBit_and, Nat.testBit_xor, Nat.testBit_two_pow, show (4294967295 : Nat) = 2 ^ 32 - 1 from rfl, Nat.testBit_two_pow_sub_one]
  rcases Nat.lt_or_ge i 32 with z | z
  · simp [z]
  · rw [ej_big h (by omega)]; rfl
theorem ej_rmj {S : Nat} (h : S < 128) (j : Nat) : (ej_rm S j).testBit j = false := by rw [ej_rmb h]; simp
theorem ej_rmn {S : Nat} (h : S < 128) {j i : Nat} (hn : j ≠ i) : (ej_rm S j).testBit i = S.testBit i := by rw [ej_rmb h]; simp [hn]
theorem ej_rmle (S j : Nat) : ej_rm S j ≤ S := Nat.and_le_left
theorem ej_rmlt {S : Nat} (h : S < 128) {j : Nat} (hj : S.testBit j = true) : ej_rm S j < S := by
  rcases Nat.lt_or_ge (ej_rm S j) S with z | z
  · exact z
  · have e : ej_rm S j = S := Nat.le_antisymm (ej_rmle S j) z
    have := ej_rmj h j
    rw [e, hj] at this
    exact absurd this (by decide)
theorem ej_rmor {S : Nat} (h : S < 128) {j : Nat} (hj : S.testBit j = true) : ej_rm S j ||| 2 ^ j = S := by
  apply Nat.eq_of_testBit_eq
  intro i
  rw [ej_orb, ej_rmb h]
  by_cases e : j = i
  · subst e; simp [hj]
  · simp [e]
theorem ej_orrm {S : Nat} (h : S < 128) {j : Nat} (h7 : j < 7) (hj : S.testBit j = false) : ej_rm (S ||| 2 ^ j) j = S := by
  apply Nat.eq_of_testBit_eq
  intro i
  rw [ej_rmb (ej_orl h h7), ej_orb]
  by_cases e : j = i
  · subst e; simp [hj]
  · simp [e]
theorem ej_subrm {S W : Nat} (h : S < 128) (hs : ej_sub S W) (j : Nat) : ej_sub (ej_rm S j) W := by
  intro i hi
  rw [ej_rmb h] at hi
  apply hs
  revert hi
  cases S.testBit i <;> simp
theorem ej_suble {S A : Nat} (h : ej_sub S A) : S ≤ A := Nat.le_of_testBit h
theorem ej_subor {S A j : Nat} (h : ej_sub S A) (hj : A.testBit j = true) : ej_sub (S ||| 2 ^ j) A := by
  intro i hi
  by_cases e : j = i
  · subst e; exact hj
  · rw [ej_orn e] at hi; exact h i hi
/-! the same in Int32 -/
theorem ej_p2 : ∀ j, j < 7 → (1 : Int32) <<< (nI j &&& 31) = nI (2 ^ j) := by decide +kernel
theorem ej_or {S j : Nat} (hj : j < 7) : nI S ||| ((1 : Int32) <<< (nI j &&& 31)) = nI (S ||| 2 ^ j) := by
  rw [ej_p2 j hj]
  apply Int32.toBitVec_inj.1
  show BitVec.ofNat 32 S ||| BitVec.ofNat 32 (2 ^ j) = BitVec.ofNat 32 (S ||| 2 ^ j)
  apply BitVec.eq_of_getLsbD_eq
  intro i hi
  simp [hi]
theorem ej_m1 : (-1 : Int32) = nI 4294967295 := by decide +kernel
theorem ej_rmI {S j : Nat} (hj : j < 7) : nI S &&& (((1 : Int32) <<< (nI j &&& 31)) ^^^ (-1)) = nI (ej_rm S j) := by
  rw [ej_p2 j hj, ej_m1, nx_xor, nx_and]
  rfl
theorem ej_has : ∀ S, S < 128 → ∀ j, j < 7 → ((((nI S >>> (nI j &&& 31)) &&& 1) = 1) ↔ S.testBit j = true) := by decide +kernel
theorem ej_hasn : ∀ S, S < 128 → ∀ j, j < 7 → ((((nI S >>> (nI j &&& 31)) &&& 1) = 0) ↔ S.testBit j = false) := by decide +kernel
theorem ej_sbI {S W : Nat} (hS : S < 128) : (nI S &&& (nI W ^^^ (-1))) = 0 ↔ ej_sub S W := by
  rw [ej_m1, nx_xor, nx_and, ← nI_0, nI_eq (Nat.lt_of_le_of_lt Nat.and_le_left (by omega)) (by decide)]
  constructor
  · intro h j hj
    have e : (S &&& (W ^^^ 4294967295)).testBit j = false := by rw [h]; exact Nat.zero_testBit j
    rw [Nat.testBit_and, Nat.testBit_xor, hj, show (4294967295 : Nat) = 2 ^ 32 - 1 from rfl, Nat.testBit_two_pow_sub_one] at e
    have := ej_lt7 hS hj
    revert e
    cases W.testBit j
    · simp; omega
    · simp
  · intro h
    apply Nat.eq_of_testBit_eq
    intro j
    rw [Nat.zero_testBit, Nat.testBit_and, Nat.testBit_xor, show (4294967295 : Nat) = 2 ^ 32 - 1 from rfl, Nat.testBit_two_pow_sub_one]
    by_cases hj : S.testBit j = true
    · have := ej_lt7 hS hj
      rw [h j hj, hj, decide_eq_true (by omega)]; rfl
    · rw [ej_nt hj]; rfl
theorem ej_and127 {A : Nat} (h : A < 128) : nI A &&& 127 = nI A := by
  show nI A &&& nI 127 = nI A
  rw [nx_and, show (127 : Nat) = 2 ^ 7 - 1 from rfl, Nat.and_two_pow_sub_one_eq_mod, Nat.mod_eq_of_lt h]
theorem ej_nar0 : narrow .boolean (.int 0) = .int 0 := by decide
theorem ej_nar1 : narrow .boolean (.int 1) = .int 1 := by decide
theorem ej_vn0 : vp_nar .boolean 0 = 0 := by decide
theorem ej_vn1 : vp_nar .boolean 1 = 1 := by decide
theorem ej_at {a : Nat → Int32} {i : Nat} (h : i < 2 ^ 31) : a (nI i).toNatClampNeg = a i := by rw [nI_clamp h]
/-! arrays that show natural numbers, up to 40 -/
def ej_nu (f : Nat → Nat) (k v : Nat) : Nat → Nat := fun j => if j = k then v else f j
theorem ej_nus {f : Nat → Nat} {k v : Nat} : ej_nu f k v k = v := if_pos rfl
theorem ej_nun {f : Nat → Nat} {k v j : Nat} (h : j ≠ k) : ej_nu f k v j = f j := if_neg h
def ej_al (n : Nat) (a : Nat → Int32) (f : Nat → Nat) : Prop := ∀ j, j < n → a j = nI (f j) ∧ f j ≤ 40
def ej_wn (W : Nat) (a : Nat → Int32) (f : Nat → Nat) : Prop := ∀ j, j < 7 → W.testBit j = true → a j = nI (f j) ∧ f j ≤ 40
def ej_hs (n : Nat) (a : Nat → Int32) (H : Nat) : Prop := ∀ j, j < n → a j = if H.testBit j = true then 1 else 0
theorem ej_alu {n : Nat} {a : Nat → Int32} {f : Nat → Nat} {k v : Nat} (h : ej_al n a f) (hv : v ≤ 40) : ej_al n (upd a k (nI v)) (ej_nu f k v) := by
  intro j hj
  by_cases e : j = k
  · subst e; rw [pk_us, ej_nus]; exact ⟨rfl, hv⟩
  · rw [pk_un e, ej_nun e]; exact h j hj
theorem ej_wnu {W : Nat} {a : Nat → Int32} {f : Nat → Nat} {k v : Nat} (h : ∀ j, j < 7 → j ≠ k → W.testBit j = true → a j = nI (f j) ∧ f j ≤ 40) (hv : v ≤ 40) : ej_wn W (upd a k (nI v)) (ej_nu f k v) := by
  intro j hj hb
  by_cases e : j = k
  · subst e; rw [pk_us, ej_nus]; exact ⟨rfl, hv⟩
  · rw [pk_un e, ej_nun e]; exact h j hj e hb
theorem ej_hs1 {n : Nat} {a : Nat → Int32} {H j : Nat} (h : ej_hs n a H) (hj : j < n) (hb : H.testBit j = true) : a j = 1 := by rw [h j hj, if_pos hb]
theorem ej_hs0 {n : Nat} {a : Nat → Int32} {H j : Nat} (h : ej_hs n a H) (hj : j < n) (hb : H.testBit j = false) : a j = 0 := by rw [h j hj, hb]; rfl
theorem ej_hsor {n : Nat} {a : Nat → Int32} {H k : Nat} (h : ej_hs n a H) : ej_hs n (upd a k 1) (H ||| 2 ^ k) := by
  intro j hj
  by_cases e : j = k
  · subst e; rw [pk_us, ej_orj]; rfl
  · rw [pk_un e, ej_orn (Ne.symm e)]; exact h j hj
theorem ej_hsrm {n : Nat} {a : Nat → Int32} {H k : Nat} (hH : H < 128) (h : ej_hs n a H) : ej_hs n (upd a k 0) (ej_rm H k) := by
  intro j hj
  by_cases e : j = k
  · subst e; rw [pk_us, ej_rmj hH]; rfl
  · rw [pk_un e, ej_rmn hH (Ne.symm e)]; exact h j hj
