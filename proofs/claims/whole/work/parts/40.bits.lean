/-! bits of longs -/
def zb (w : Int64) (i : Nat) : Bool := w.toBitVec.getLsbD i
theorem s64 : ∀ n, n < 64 → (((nI n).toInt64 &&& 63).toBitVec.smod 64).toNat = n := by decide +kernel
theorem zb_or (x y : Int64) (i : Nat) : zb (x ||| y) i = (zb x i || zb y i) := by unfold zb; rw [Int64.toBitVec_or, BitVec.getLsbD_or]
theorem zb_and (x y : Int64) (i : Nat) : zb (x &&& y) i = (zb x i && zb y i) := by unfold zb; rw [Int64.toBitVec_and, BitVec.getLsbD_and]
theorem zb_xor (x y : Int64) (i : Nat) : zb (x ^^^ y) i = (zb x i ^^ zb y i) := by unfold zb; rw [Int64.toBitVec_xor, BitVec.getLsbD_xor]
theorem zb_big {x : Int64} {i : Nat} (h : 64 ≤ i) : zb x i = false := BitVec.getLsbD_of_ge _ _ h
theorem zb_0 (i : Nat) : zb 0 i = false := BitVec.getLsbD_zero
theorem zb_1 (i : Nat) : zb 1 i = decide (i = 0) := by
  rcases Nat.lt_or_ge i 64 with h | h
  · exact (by decide +kernel : ∀ i, i < 64 → zb 1 i = decide (i = 0)) i h
  · rw [zb_big h, decide_eq_false (by omega)]
theorem zb_m1 : ∀ i, i < 64 → zb (-1) i = true := by decide +kernel
theorem zb_shl {n : Nat} (hn : n < 64) (x : Int64) {i : Nat} (hi : i < 64) : zb (x <<< ((nI n).toInt64 &&& 63)) i = (decide (n ≤ i) && zb x (i - n)) := by
  unfold zb
  rw [Int64.toBitVec_shiftLeft]
  show (x.toBitVec <<< (((nI n).toInt64 &&& 63).toBitVec.smod 64).toNat).getLsbD i = _
  rw [s64 n hn, BitVec.getLsbD_shiftLeft]
  rcases Nat.lt_or_ge i n with h | h
  · simp [h, Nat.not_le.mpr h]
  · simp [hi, h, Nat.not_lt.mpr h]
theorem zb_shr {n : Nat} (hn : n < 64) (x : Int64) : zb (x >>> ((nI n).toInt64 &&& 63)) 0 = zb x n := by
  unfold zb
  rw [Int64.toBitVec_shiftRight]
  show (x.toBitVec.sshiftRight (((nI n).toInt64 &&& 63).toBitVec.smod 64).toNat).getLsbD 0 = _
  rw [s64 n hn, BitVec.getLsbD_sshiftRight]
  simp [hn]
theorem zb_ext {x y : Int64} (h : ∀ i, i < 64 → zb x i = zb y i) : x = y := Int64.toBitVec_inj.mp (BitVec.eq_of_getLsbD_eq (fun i hi => h i hi))
theorem zb_tst {n : Nat} (hn : n < 64) (x : Int64) : (lg_cmp ((x >>> ((nI n).toInt64 &&& 63)) &&& 1) 0 = 0) = (zb x n = false) := by
  rw [lg_cmp_eq]
  apply propext
  constructor
  · intro h
    have := congrArg (fun w => zb w 0) h
    rw [zb_and, zb_shr hn, zb_1, zb_0] at this
    simpa using this
  · intro h
    apply zb_ext
    intro i hi
    rw [zb_and, zb_1, zb_0]
    by_cases c : i = 0
    · subst c; rw [zb_shr hn, h]; rfl
    · rw [decide_eq_false c, Bool.and_false]
theorem zb_bit {n : Nat} (hn : n < 64) {i : Nat} (hi : i < 64) : zb (1 <<< ((nI n).toInt64 &&& 63)) i = decide (i = n) := by
  rw [zb_shl hn _ hi, zb_1]
  by_cases c : i = n
  · subst c; simp
  · by_cases c2 : n ≤ i
    · rw [decide_eq_false c, decide_eq_false (show ¬ i - n = 0 by omega), Bool.and_false]
    · rw [decide_eq_false c2, decide_eq_false c]; rfl
theorem zb_set {n : Nat} (hn : n < 64) (x : Int64) {i : Nat} (hi : i < 64) : zb (x ||| (1 <<< ((nI n).toInt64 &&& 63))) i = (zb x i || decide (i = n)) := by
  rw [zb_or, zb_bit hn hi]
theorem zb_clr {n : Nat} (hn : n < 64) (x : Int64) {i : Nat} (hi : i < 64) : zb (x &&& ((1 <<< ((nI n).toInt64 &&& 63)) ^^^ (-1))) i = (zb x i && !decide (i = n)) := by
  rw [zb_and, zb_xor, zb_bit hn hi, zb_m1 i hi, Bool.xor_true]
theorem z_xor (a b : Nat) : nI a ^^^ nI b = nI (a ^^^ b) := by
  apply Int32.toBitVec_inj.1
  show BitVec.ofNat 32 a ^^^ BitVec.ofNat 32 b = BitVec.ofNat 32 (a ^^^ b)
  apply BitVec.eq_of_getLsbD_eq
  intro i hi
  simp [hi]
theorem z_shr6 {v : Nat} (h : v < 2147483648) : nI v >>> ((6 : Int32) &&& 31) = nI (v / 64) := pk_shrN h _ 6 (by decide)
theorem z_and63 {v : Nat} (h : v < 2147483648) : nI v &&& 63 = nI (v % 64) := pk_andN (by omega) 6 (by decide)
