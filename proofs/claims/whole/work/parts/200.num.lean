/-! numbers of the machine out of natural ones -/
def ii (k : Nat) : Int32 := Int32.ofNat k
def jj (k : Nat) : Int64 := Int64.ofNat k
theorem ii_lit (n : Nat) : (OfNat.ofNat n : Int32) = ii (OfNat.ofNat n) := rfl
theorem jj_lit (n : Nat) : (OfNat.ofNat n : Int64) = jj (OfNat.ofNat n) := rfl
theorem ii_toInt {k : Nat} (h : k < 2147483648) : (ii k).toInt = k := ofNat_toI h
theorem jj_toInt {k : Nat} (h : k < 9223372036854775808) : (jj k).toInt = k := Int64.toInt_ofNat_of_lt (by simpa using h)
theorem ii_toN {k : Nat} (h : k < 2147483648) : (ii k).toNatClampNeg = k := ofNat_toN h
theorem ii_add (a b : Nat) : ii a + ii b = ii (a + b) := (Int32.ofNat_add a b).symm
theorem ii_mul (a b : Nat) : ii a * ii b = ii (a * b) := (Int32.ofNat_mul a b).symm
theorem jj_add (a b : Nat) : jj a + jj b = jj (a + b) := (Int64.ofNat_add a b).symm
theorem jj_mul (a b : Nat) : jj a * jj b = jj (a * b) := (Int64.ofNat_mul a b).symm
theorem ii_sub {a b : Nat} (h : b ≤ a) : ii a - ii b = ii (a - b) := by
  have e : ii a = ii (a - b) + ii b := by rw [ii_add]; congr 1; omega
  rw [e]
  simp [Int32.sub_eq_add_neg, Int32.add_assoc, Int32.add_right_neg]
theorem jj_sub {a b : Nat} (h : b ≤ a) : jj a - jj b = jj (a - b) := by
  have e : jj a = jj (a - b) + jj b := by rw [jj_add]; congr 1; omega
  rw [e]
  simp [Int64.sub_eq_add_neg, Int64.add_assoc, Int64.add_right_neg]
theorem ii_inj {a b : Nat} (ha : a < 2147483648) (hb : b < 2147483648) : ii a = ii b ↔ a = b := by
  constructor
  · intro e
    have := congrArg Int32.toInt e
    rw [ii_toInt ha, ii_toInt hb] at this
    omega
  · intro e; rw [e]
theorem jj_inj {a b : Nat} (ha : a < 9223372036854775808) (hb : b < 9223372036854775808) : jj a = jj b ↔ a = b := by
  constructor
  · intro e
    have := congrArg Int64.toInt e
    rw [jj_toInt ha, jj_toInt hb] at this
    omega
  · intro e; rw [e]
theorem ii_lt {a b : Nat} (ha : a < 2147483648) (hb : b < 2147483648) : ii a < ii b ↔ a < b := by
  rw [Int32.lt_iff_toInt_lt, ii_toInt ha, ii_toInt hb]
  omega
theorem ii_le {a b : Nat} (ha : a < 2147483648) (hb : b < 2147483648) : ii a ≤ ii b ↔ a ≤ b := by
  rw [Int32.le_iff_toInt_le, ii_toInt ha, ii_toInt hb]
  omega
theorem jj_lt {a b : Nat} (ha : a < 9223372036854775808) (hb : b < 9223372036854775808) : jj a < jj b ↔ a < b := by
  rw [Int64.lt_iff_toInt_lt, jj_toInt ha, jj_toInt hb]
  omega
theorem jj_le {a b : Nat} (ha : a < 9223372036854775808) (hb : b < 9223372036854775808) : jj a ≤ jj b ↔ a ≤ b := by
  rw [Int64.le_iff_toInt_le, jj_toInt ha, jj_toInt hb]
  omega
theorem ii_ne1 {a : Nat} (ha : a < 2147483648) : ¬ ii a = -1 := by
  intro e
  have := congrArg Int32.toInt e
  rw [ii_toInt ha, show (-1 : Int32).toInt = -1 from rfl] at this
  omega
theorem ii_ne1' {a : Nat} (ha : a < 2147483648) : ¬ (-1 : Int32) = ii a := fun e => ii_ne1 ha e.symm
theorem ii_ge0 {a : Nat} (ha : a < 2147483648) : (0 : Int32) ≤ ii a := by
  rw [Int32.le_iff_toInt_le, ii_toInt ha]
  show (0 : Int) ≤ _
  omega
theorem ii_nlt0 {a : Nat} (ha : a < 2147483648) : ¬ ii a < (0 : Int32) := by
  rw [Int32.lt_iff_toInt_lt, ii_toInt ha]
  show ¬ (_ : Int) < 0
  omega
theorem ii_div {a b : Nat} (ha : a < 2147483648) (hb : b < 2147483648) : ii a / ii b = ii (a / b) := by
  apply Int32.toInt_inj.mp
  rw [Int32.toInt_div, ii_toInt ha, ii_toInt hb]
  have hq : a / b < 2147483648 := Nat.lt_of_le_of_lt (Nat.div_le_self a b) ha
  rw [ii_toInt hq]
  have : Int.tdiv (a : Int) (b : Int) = ((a / b : Nat) : Int) := by
    rw [Int.ofNat_tdiv]
  rw [this]
  simp only [Int.bmod_def]
  generalize a / b = q at *
  omega
theorem ii_rem {a b : Nat} (ha : a < 2147483648) (hb : b < 2147483648) : ii a - ii a / ii b * ii b = ii (a % b) := by
  rw [ii_div ha hb, ii_mul, ii_sub (Nat.div_mul_le_self a b)]
  congr 1
  have := Nat.div_add_mod a b
  rw [Nat.mul_comm] at this
  omega
theorem dvI_ii {a b : Nat} (ha : a < 2147483648) (hb : b < 2147483648) (h0 : 0 < b) : dvI (ii a) (ii b) = some (ii (a / b)) := by
  unfold dvI
  rw [if_neg, ii_div ha hb]
  intro e
  have := (ii_inj (b := 0) hb (by omega)).mp e
  omega
theorem rmI_ii {a b : Nat} (ha : a < 2147483648) (hb : b < 2147483648) (h0 : 0 < b) : rmI (ii a) (ii b) = some (ii (a % b)) := by
  unfold rmI
  rw [if_neg, ii_rem ha hb]
  intro e
  have := (ii_inj (b := 0) hb (by omega)).mp e
  omega
theorem i32_ext {x y : Int32} (h : ∀ i, i < 32 → x.toBitVec.getLsbD i = y.toBitVec.getLsbD i) : x = y := by
  apply Int32.toBitVec_inj.mp
  exact BitVec.eq_of_getLsbD_eq h
theorem ii_bit (k i : Nat) (hi : i < 32) : (ii k).toBitVec.getLsbD i = k.testBit i := by
  unfold ii
  show (BitVec.ofNat 32 k).getLsbD i = _
  rw [BitVec.getLsbD_ofNat]
  simp [hi]
theorem ii_and (a b : Nat) : ii a &&& ii b = ii (a &&& b) := by
  apply i32_ext
  intro i hi
  rw [Int32.toBitVec_and, BitVec.getLsbD_and, ii_bit _ _ hi, ii_bit _ _ hi, ii_bit _ _ hi, Nat.testBit_and]
theorem ii_or (a b : Nat) : ii a ||| ii b = ii (a ||| b) := by
  apply i32_ext
  intro i hi
  rw [Int32.toBitVec_or, BitVec.getLsbD_or, ii_bit _ _ hi, ii_bit _ _ hi, ii_bit _ _ hi, Nat.testBit_or]
theorem ii_xor (a b : Nat) : ii a ^^^ ii b = ii (a ^^^ b) := by
  apply i32_ext
  intro i hi
  rw [Int32.toBitVec_xor, BitVec.getLsbD_xor, ii_bit _ _ hi, ii_bit _ _ hi, ii_bit _ _ hi, Nat.testBit_xor]
/-- a set without the members of another one -/
def mns (a b : Nat) : Nat := a ^^^ (a &&& b)
theorem mns_bit (a b i : Nat) : (mns a b).testBit i = (a.testBit i && !b.testBit i) := by
  unfold mns
  rw [Nat.testBit_xor, Nat.testBit_and]
  cases a.testBit i <;> cases b.testBit i <;> rfl
theorem ii_mns (a b : Nat) : ii a &&& ~~~ (ii b) = ii (mns a b) := by
  apply i32_ext
  intro i hi
  rw [Int32.toBitVec_and, BitVec.getLsbD_and, Int32.toBitVec_not, BitVec.getLsbD_not, ii_bit _ _ hi, ii_bit _ _ hi, ii_bit _ _ hi, mns_bit]
  simp [hi]
theorem and31 {k : Nat} (h : k < 32) : k &&& 31 = k := by
  rw [show (31 : Nat) = 2 ^ 5 - 1 from rfl, Nat.and_two_pow_sub_one_eq_mod]
  omega
theorem shl_bit (x : Int32) {k i : Nat} (hk : k < 32) (hi : i < 32) : (jshl x (ii k)).toBitVec.getLsbD i = (decide (k ≤ i) && x.toBitVec.getLsbD (i - k)) := by
  unfold jshl
  rw [show (31 : Int32) = ii 31 from rfl, ii_and, and31 hk, Int32.toBitVec_shiftLeft, BitVec.shiftLeft_eq']
  have e : ((ii k).toBitVec.smod 32).toNat = k := by
    have : (ii k).toBitVec = BitVec.ofNat 32 k := rfl
    rw [this]
    revert k
    decide
  rw [e, BitVec.getLsbD_shiftLeft]
  by_cases h : k ≤ i
  · simp [hi, h]
  · simp [hi, h, Nat.lt_of_not_le h]
