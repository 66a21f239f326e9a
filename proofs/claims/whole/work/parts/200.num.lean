/-! numbers of the machine out of natural ones -/
def ii (k : Nat) : Int32 := Int32.ofNat k
def jj (k : Nat) : Int64 := Int64.ofNat k
theorem ii_lit (n : Nat) : (OfNat.ofNat n : Int32) = ii (OfNat.ofNat n) := rfl
theorem jj_lit (n : Nat) : (OfNat.ofNat n : Int64) = jj (OfNat.ofNat n) := rfl
theorem ii_toInt {k : Nat} (h : k < 2147483648) : (ii k).toInt = k := ofNat_toI h
theorem jj_toInt {k : Nat} (h : k < 9223372036854775808) : (jj k).toInt = k := Int64.toInt_ofNat_of_lt (by simpa using h)
theorem ii_toN {k : Nat} (h : k < 2147483648) : (ii k).toNatClampNeg = k := ofNat_toN h
theorem ii_add (a b : Nat) : ii a + ii b = ii (a + b) := (Int32.ofNat_add a b).symm
theorem ii_mul (a b : Nat) : ii a * ii b = ii (a * b) := (Int32.ofNat_mul a b).symm
theorem jj_add (a b : Nat) : jj a + jj b = jj (a + b) := (Int64.ofNat_add a b).symm
theorem jj_mul (a b : Nat) : jj a * jj b = jj (a * b) := (Int64.ofNat_mul a b).symm
theorem ii_sub {a b : Nat} (h : b ≤ a) : ii a - ii b = ii (a - b) := by
  have e : ii a = ii (a - b) + ii b := by rw [ii_add]; congr 1; omega
  rw [e]
  simp [Int32.sub_eq_add_neg, Int32.add_assoc, Int32.add_right_neg]
theorem jj_sub {a b : Nat} (h : b ≤ a) : jj a - jj b = jj (a - b) := by
  have e : jj a = jj (a - b) + jj b := by rw [jj_add]; congr 1; omega
  rw [e]
  simp [Int64.sub_eq_add_neg, Int64.add_assoc, Int64.add_right_neg]
theorem ii_inj {a b : Nat} (ha : a < 2147483648) (hb : b < 2147483648) : ii a = ii b ↔ a = b := by
  constructor
  · intro e
    have := congrArg Int32.toInt e
    rw [ii_toInt ha, ii_toInt hb] at this
    omega
  · intro e; rw [e]
theorem jj_inj {a b : Nat} (ha : a < 9223372036854775808) (hb : b < 9223372036854775808) : jj a = jj b ↔ a = b := by
  constructor
  · intro e
    have := congrArg Int64.toInt e
    rw [jj_toInt ha, jj_toInt hb] at this
    omega
  · intro e; rw [e]
theorem ii_lt {a b : Nat} (ha : a < 2147483648) (hb : b < 2147483648) : ii a < ii b ↔ a < b := by
  rw [Int32.lt_iff_toInt_lt, ii_toInt ha, ii_toInt hb]
  omega
theorem ii_le {a b : Nat} (ha : a < 2147483648) (hb : b < 2147483648) : ii a ≤ ii b ↔ a ≤ b := by
  rw [Int32.le_iff_toInt_le, ii_toInt ha, ii_toInt hb]
  omega
theorem jj_lt {a b : Nat} (ha : a < 9223372036854775808) (hb : b < 9223372036854775808) : jj a < jj b ↔ a < b := by
  rw [Int64.lt_iff_toInt_lt, jj_toInt ha, jj_toInt hb]
  omega
theorem jj_le {a b : Nat} (ha : a < 9223372036854775808) (hb : b < 9223372036854775808) : jj a ≤ jj b ↔ a ≤ b := by
  rw [Int64.le_iff_toInt_le, jj_toInt ha, jj_toInt hb]
  omega
theorem ii_ne1 {a : Nat} (ha : a < 2147483648) : ¬ ii a = -1 := by
  intro e
  have := congrArg Int32.toInt e
  rw [ii_toInt ha, show (-1 : Int32).toInt = -1 from rfl] at this
  omega
theorem ii_ne1' {a : Nat} (ha : a < 2147483648) : ¬ (-1 : Int32) = ii a := fun e => ii_ne1 ha e.symm
theorem ii_ge0 {a : Nat} (ha : a < 2147483648) : (0 : Int32) ≤ ii a := by
  rw [Int32.le_iff_toInt_le, ii_toInt ha]
  show (0 : Int) ≤ _
  omega
theorem ii_nlt0 {a : Nat} (ha : a < 2147483648) : ¬ ii a < (0 : Int32) := by
  rw [Int32.lt_iff_toInt_lt, ii_toInt ha]
  show ¬ (_ : Int) < 0
  omega
theorem ii_div {a b : Nat} (ha : a < 2147483648) (hb : b < 2147483648) : ii a / ii b = ii (a / b) := by
  apply Int32.toInt_inj.mp
  rw [Int32.toInt_div, ii_toInt ha, ii_toInt hb]
  have hq : a / b < 2147483648 := Nat.lt_of_le_of_lt (Nat.div_le_self a b) ha
  rw [ii_toInt hq]
  have : Int.tdiv (a : Int) (b : Int) = ((a / b : Nat) : Int) := by
    rw [Int.ofNat_tdiv]
  rw [this]
  simp only [Int.bmod_def]
  generalize a / b = q at *
  omega
theorem ii_rem {a b : Nat} (ha : a < 2147483648) (hb : b < 2147483648) : ii a - ii a / ii b * ii b = ii (a % b) := by
  rw [ii_div ha hb, ii_mul, ii_sub (Nat.div_mul_le_self a b)]
  congr 1
  have := Nat.div_add_mod a b
  rw [Nat.mul_comm] at this
  omega
theorem dvI_ii {a b : Nat} (ha : a < 2147483648) (hb : b < 2147483648) (h0 : 0 < b) : dvI (ii a) (ii b) = some (ii (a / b)) := by
  unfold dvI
  rw [if_neg, ii_div ha hb]
  intro e
  have := (ii_inj (b := 0) hb (by omega)).mp e
  omega
theorem rmI_ii {a b : Nat} (ha : a < 2147483648) (hb : b < 2147483648) (h0 : 0 < b) : rmI (ii a) (ii b) = some (ii (a % b)) := by
  unfold rmI
  rw [if_neg, ii_rem ha hb]
  intro e
  have := (ii_inj (b := 0) hb (by omega)).mp e
  omega
theorem i32_ext {x y : Int32} (h : ∀ i, i < 32 → x.toBitVec.getLsbD i = y.toBitVec.getLsbD i) : x = y := by
  apply Int32.toBitVec_inj.mp
  exact BitVec.eq_of_getLsbD_eq h
theorem ii_bit (k i : Nat) (hi : i < 32) : (ii k).toBitVec.getLsbD i = k.testBit i := by
  unfold ii
  show (BitVec.ofNat 32 k).getLsbD i = _
  rw [BitVec.getLsbD_ofNat]
  simp [hi]
theorem ii_and (a b : Nat) : ii a &&& ii b = ii (a &&& b) := by
  apply i32_ext
  intro i hi
  rw [Int32.toBitVec_and, BitVec.getLsbD_and, ii_bit _ _ hi, ii_bit _ _ hi, ii_bit _ _ hi, Nat.testBit_and]
theorem ii_or (a b : Nat) : ii a ||| ii b = ii (a ||| b) := by
  apply i32_ext
  intro i hi
  rw [Int32.toBitVec_or, BitVec.getLsbD_or, ii_bit _ _ hi, ii_bit _ _ hi, ii_bit _ _ hi, Nat.testBit_or]
theorem ii_xor (a b : Nat) : ii a ^^^ ii b = ii (a ^^^ b) := by
  apply i32_ext
  intro i hi
  rw [Int32.toBitVec_xor, BitVec.getLsbD_xor, ii_bit _ _ hi, ii_bit _ _ hi, ii_bit _ _ hi, Nat.testBit_xor]
/-- a set without the members of another one -/
def mns (a b : Nat) : Nat := a ^^^ (a &&& b)
theorem mns_bit (a b i : Nat) : (mns a b).testBit i = (a.testBit i && !b.testBit i) := by
  unfold mns
  rw [Nat.testBit_xor, Nat.testBit_and]
  cases a.testBit i <;> cases b.testBit i <;> rfl
theorem ii_mns (a b : Nat) : ii a &&& ~~~ (ii b) = ii (mns a b) := by
  apply i32_ext
  intro i hi
  rw [Int32.toBitVec_and, BitVec.getLsbD_and, Int32.toBitVec_not, BitVec.getLsbD_not, ii_bit _ _ hi, ii_bit _ _ hi, ii_bit _ _ hi, mns_bit]
  simp [hi]
theorem and31 {k : Nat} (h : k < 32) : k &&& 31 = k := by
  rw [show (31 : Nat) = 2 ^ 5 - 1 from rfl, Nat.and_two_pow_sub_one_eq_mod]
  omega
theorem shl_bit (x : Int32) {k i : Nat} (hk : k < 32) (hi : i < 32) : (jshl x (ii k)).toBitVec.getLsbD i = (decide (k ≤ i) && x.toBitVec.getLsbD (i - k)) := by
  unfold jshl
  rw [show (31 : Int32) = ii 31 from rfl, ii_and, and31 hk, Int32.toBitVec_shiftLeft, BitVec.shiftLeft_eq']
  have e : ((ii k).toBitVec.smod 32).toNat = k := by
    have : (ii k).toBitVec = BitVec.ofNat 32 k := rfl
    rw [this]
    revert k
    decide
  rw [e, BitVec.getLsbD_shiftLeft]
  by_cases h : k ≤ i
  · simp [hi, h]
  · simp [hi, h, Nat.lt_of_not_le h]
theorem smod32 {k : Nat} (hk : k < 32) : ((ii k).toBitVec.smod 32).toNat = k := by
  have : (ii k).toBitVec = BitVec.ofNat 32 k := rfl
  rw [this]
  revert k
  decide
theorem ii_msb {a : Nat} (ha : a < 2147483648) : (ii a).toBitVec.msb = false := by
  rw [BitVec.msb_eq_getLsbD_last]
  simp only [Nat.add_one_sub_one, Nat.reduceSub]
  rw [ii_bit a 31 (by decide)]
  exact Nat.testBit_lt_two_pow (by omega)
theorem jshr_ii {a k : Nat} (ha : a < 2147483648) (hk : k < 32) : jshr (ii a) (ii k) = ii (a >>> k) := by
  apply i32_ext
  intro i hi
  unfold jshr
  rw [show (31 : Int32) = ii 31 from rfl, ii_and, and31 hk, Int32.toBitVec_shiftRight, ii_bit _ _ hi, BitVec.sshiftRight_eq', smod32 hk]
  rw [BitVec.getLsbD_sshiftRight, ii_msb ha, Nat.testBit_shiftRight]
  by_cases h : k + i < 32
  · rw [← ii_bit a (k + i) h]
    simp [h, Nat.not_le_of_lt hi]
  · have : a.testBit (k + i) = false := Nat.testBit_lt_two_pow (Nat.lt_of_lt_of_le ha (Nat.le_trans (by decide : 2147483648 ≤ 2 ^ 32) (Nat.pow_le_pow_right (by decide) (by omega))))
    simp [h, this]
theorem jush_bit (x : Int32) {k i : Nat} (hk : k < 32) (hi : i < 32) : (jush x (ii k)).toBitVec.getLsbD i = x.toBitVec.getLsbD (i + k) := by
  unfold jush
  show ((x.toUInt32 >>> ((ii k).toUInt32 &&& Int32.toUInt32 31)).toBitVec).getLsbD i = _
  have e : (ii k).toUInt32 &&& Int32.toUInt32 31 = UInt32.ofNat k := by
    have : (ii k).toUInt32 &&& Int32.toUInt32 31 = (ii k &&& 31).toUInt32 := rfl
    rw [this, show (31 : Int32) = ii 31 from rfl, ii_and, and31 hk]
    rfl
  rw [e, UInt32.toBitVec_shiftRight]
  have e2 : ((UInt32.ofNat k).toBitVec % 32).toNat = k := by
    show ((BitVec.ofNat 32 k) % 32).toNat = k
    revert k
    decide
  rw [BitVec.ushiftRight_eq', e2, BitVec.getLsbD_ushiftRight, Nat.add_comm]
  rfl
/-- a bit of a mask of 32 -/
def tb (x : Int32) (i : Nat) : Bool := x.toBitVec.getLsbD i
theorem tb_ext {x y : Int32} (h : ∀ i, i < 32 → tb x i = tb y i) : x = y := i32_ext h
theorem tb_ii (k i : Nat) (hi : i < 32) : tb (ii k) i = k.testBit i := ii_bit k i hi
theorem tb_and (x y : Int32) (i : Nat) : tb (x &&& y) i = (tb x i && tb y i) := by
  unfold tb; rw [Int32.toBitVec_and, BitVec.getLsbD_and]
theorem tb_or (x y : Int32) (i : Nat) : tb (x ||| y) i = (tb x i || tb y i) := by
  unfold tb; rw [Int32.toBitVec_or, BitVec.getLsbD_or]
theorem tb_xor (x y : Int32) (i : Nat) : tb (x ^^^ y) i = (tb x i ^^ tb y i) := by
  unfold tb; rw [Int32.toBitVec_xor, BitVec.getLsbD_xor]
theorem tb_not (x : Int32) {i : Nat} (hi : i < 32) : tb (~~~ x) i = !tb x i := by
  unfold tb; rw [Int32.toBitVec_not, BitVec.getLsbD_not]; simp [hi]
theorem tb_shl (x : Int32) {k i : Nat} (hk : k < 32) (hi : i < 32) : tb (jshl x (ii k)) i = (decide (k ≤ i) && tb x (i - k)) := shl_bit x hk hi
theorem tb_ush (x : Int32) {k i : Nat} (hk : k < 32) (hi : i < 32) : tb (jush x (ii k)) i = tb x (i + k) := jush_bit x hk hi
theorem tb_0 {i : Nat} (hi : i < 32) : tb (0 : Int32) i = false := by
  rw [show (0 : Int32) = ii 0 from rfl, tb_ii _ _ hi]; exact Nat.zero_testBit i
theorem one_bit (i : Nat) : (1 : Nat).testBit i = decide (i = 0) := by
  have := Nat.testBit_two_pow (n := 0) (m := i)
  rw [Nat.pow_zero] at this
  rw [this]
  exact decide_eq_decide.mpr ⟨fun h => h.symm, fun h => h.symm⟩
theorem tb_1shl {k i : Nat} (hk : k < 32) (hi : i < 32) : tb (jshl (1 : Int32) (ii k)) i = decide (i = k) := by
  rw [tb_shl _ hk hi, show (1 : Int32) = ii 1 from rfl, tb_ii _ _ (by omega), one_bit]
  by_cases h : i = k
  · subst h; simp
  · by_cases h2 : k ≤ i
    · simp [h2, h]; omega
    · simp [h, h2]
theorem jshl_one {k : Nat} (hk : k < 32) : jshl (1 : Int32) (ii k) = ii (2 ^ k) := by
  apply tb_ext
  intro i hi
  rw [tb_1shl hk hi, tb_ii _ _ hi, Nat.testBit_two_pow]
  exact decide_eq_decide.mpr ⟨fun h => h.symm, fun h => h.symm⟩
theorem tb_hi (x : Int32) {i : Nat} (hi : 32 ≤ i) : tb x i = false := BitVec.getLsbD_of_ge _ _ hi
theorem tb_bit0 (x : Int32) : x &&& 1 = ii (tb x 0).toNat := by
  apply tb_ext
  intro i hi
  rw [tb_and, show (1 : Int32) = ii 1 from rfl, tb_ii _ _ hi, tb_ii _ _ hi, one_bit]
  by_cases h : i = 0
  · subst h
    cases tb x 0 <;> simp
  · cases tb x 0
    · simp [h]
    · simp [h, one_bit]
/-- a mask asked for one bit -/
theorem ush1 (x : Int32) {k : Nat} (hk : k < 32) : jush x (ii k) &&& 1 = ii (tb x k).toNat := by
  rw [tb_bit0, tb_ush x hk (by decide), Nat.zero_add]
theorem shr_bit (x : Int32) {k i : Nat} (hk : k < 32) (hi : i + k < 32) : tb (jshr x (ii k)) i = tb x (i + k) := by
  unfold jshr tb
  rw [show (31 : Int32) = ii 31 from rfl, ii_and, and31 hk, Int32.toBitVec_shiftRight, BitVec.sshiftRight_eq', smod32 hk, BitVec.getLsbD_sshiftRight]
  have h1 : k + i < 32 := by omega
  have h2 : i < 32 := by omega
  simp [h1, h2, Nat.add_comm]
theorem shr1 (x : Int32) {k : Nat} (hk : k < 32) : jshr x (ii k) &&& 1 = ii (tb x k).toNat := by
  rw [tb_bit0, shr_bit x hk (by omega), Nat.zero_add]
theorem ii_eq0 (b : Bool) : ii b.toNat = 0 ↔ b = false := by cases b <;> decide
theorem ii_eq1 (b : Bool) : ii b.toNat = 1 ↔ b = true := by cases b <;> decide
theorem tb_ne0 {x : Int32} : x ≠ 0 ↔ ∃ i, i < 32 ∧ tb x i = true := by
  constructor
  · intro h
    by_cases e : ∃ i, i < 32 ∧ tb x i = true
    · exact e
    · exfalso
      apply h
      apply tb_ext
      intro i hi
      rw [tb_0 hi]
      cases hb : tb x i
      · rfl
      · exact absurd ⟨i, hi, hb⟩ e
  · intro ⟨i, hi, hb⟩ e
    rw [e, tb_0 hi] at hb
    cases hb
