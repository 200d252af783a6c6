/-! signed numbers -/
def iI (i : Int) : Int32 := Int32.ofInt i
theorem iI_toInt {i : Int} (h1 : -2147483648 ≤ i) (h2 : i < 2147483648) : (iI i).toInt = i := by
  unfold iI
  rw [Int32.toInt_ofInt]
  have hs : Int32.size = 4294967296 := rfl
  rw [hs]
  exact Int.bmod_eq_of_le (by omega) (by omega)
theorem nI_iI (n : Nat) : nI n = iI (n : Int) := by
  unfold nI iI
  rw [Int32.ofInt_eq_ofNat]
theorem iI_add (a b : Int) : iI a + iI b = iI (a + b) := (Int32.ofInt_add a b).symm
theorem iI_sub (a b : Int) : iI a - iI b = iI (a - b) := (Int32.ofInt_sub a b).symm
theorem iI_mul (a b : Int) : iI a * iI b = iI (a * b) := (Int32.ofInt_mul a b).symm
theorem iI_m1 : (-1 : Int32) = iI (-1) := by decide
theorem iI_leI {a b : Int} (h1 : -2147483648 ≤ a) (h2 : a < 2147483648) (h3 : -2147483648 ≤ b) (h4 : b < 2147483648) : (iI a ≤ iI b) = (a ≤ b) := by
  rw [Int32.le_iff_toInt_le, iI_toInt h1 h2, iI_toInt h3 h4]
theorem iI_ltI {a b : Int} (h1 : -2147483648 ≤ a) (h2 : a < 2147483648) (h3 : -2147483648 ≤ b) (h4 : b < 2147483648) : (iI a < iI b) = (a < b) := by
  rw [Int32.lt_iff_toInt_lt, iI_toInt h1 h2, iI_toInt h3 h4]
theorem iI_eqI {a b : Int} (h1 : -2147483648 ≤ a) (h2 : a < 2147483648) (h3 : -2147483648 ≤ b) (h4 : b < 2147483648) : (iI a = iI b) = (a = b) := by
  rw [← Int32.toInt_inj, iI_toInt h1 h2, iI_toInt h3 h4]
theorem iI_nat {a : Int} (h : 0 ≤ a) : iI a = nI a.toNat := by
  rw [nI_iI, Int.toNat_of_nonneg h]
theorem iI_of (x : Int32) : ∃ i : Int, -2147483648 ≤ i ∧ i < 2147483648 ∧ x = iI i := by
  refine ⟨x.toInt, Int32.le_toInt x, Int32.toInt_lt x, ?_⟩
  unfold iI
  exact (Int32.ofInt_toInt x).symm
/-- a number in a range or outside of it -/
theorem z_rng (x : Int32) (a b : Nat) (hb : b < 2147483648) : (∃ i : Int, x = iI i ∧ -2147483648 ≤ i ∧ i < 2147483648 ∧ (i < a ∨ (b : Int) < i)) ∨ ∃ n : Nat, x = nI n ∧ a ≤ n ∧ n ≤ b := by
  obtain ⟨i, h1, h2, h3⟩ := iI_of x
  by_cases h : i < a ∨ (b : Int) < i
  · exact Or.inl ⟨i, h3, h1, h2, h⟩
  · refine Or.inr ⟨i.toNat, ?_, by omega, by omega⟩
    rw [h3]
    exact iI_nat (by omega)
def bI (b : Bool) : Int32 := bif b then 1 else 0
theorem bI_01 (b : Bool) : bI b = 0 ∨ bI b = 1 := by cases b; exact Or.inl rfl; exact Or.inr rfl
theorem bI_0 {b : Bool} : (bI b = 0) = (b = false) := by cases b <;> decide
theorem bI_1 {b : Bool} : (bI b = 1) = (b = true) := by cases b <;> decide
theorem bI_t {b : Bool} (h : b = true) : bI b = 1 := by rw [h]; rfl
theorem bI_f {b : Bool} (h : b = false) : bI b = 0 := by rw [h]; rfl
theorem upd_s {f : Nat → Int32} {k j : Nat} {v : Int32} (h : j = k) : upd f k v j = v := by rw [h]; exact pk_us
theorem z_upd (f : Nat → Int32) (g : Nat → Nat) (n k v : Nat) (h : ∀ j, j < n → f j = nI (g j)) : ∀ j, j < n → upd f k (nI v) j = nI (if j = k then v else g j) := by
  intro j hj
  by_cases c : j = k
  · rw [c, pk_us, if_pos rfl]
  · rw [pk_un c, if_neg c]; exact h j hj
theorem z_updb (f : Nat → Int32) (g : Nat → Bool) (n k : Nat) (v : Bool) (h : ∀ j, j < n → f j = bI (g j)) : ∀ j, j < n → upd f k (bI v) j = bI (if j = k then v else g j) := by
  intro j hj
  by_cases c : j = k
  · rw [c, pk_us, if_pos rfl]
  · rw [pk_un c, if_neg c]; exact h j hj
