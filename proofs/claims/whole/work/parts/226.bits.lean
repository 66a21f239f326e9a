/-! counting bits, the lowest bit, loops over the bits of a mask -/
theorem iter_seq {σ ρ : Type} {body : σ → Option (σ ⊕ ρ)} (st : Nat → σ) (N : Nat) {F : Nat} {r : ρ} (hF : N < F) (hs : ∀ k, k < N → body (st k) = some (.inl (st (k + 1)))) (he : body (st N) = some (.inr r)) : iter body F (st 0) = some r := by
  have key : ∀ (F k : Nat), k ≤ N → N - k < F → iter body F (st k) = some r := by
    intro F
    induction F with
    | zero => intro k _ h; omega
    | succ F ih =>
      intro k hk hF
      unfold iter
      by_cases e : k = N
      · subst e
        rw [he]
        rfl
      · rw [hs k (by omega)]
        exact ih (k + 1) (by omega) (by omega)
  exact key F 0 (Nat.zero_le _) (by omega)
/-- a loop whose turns are told ahead -/
theorem bind_iter {σ ρ τ : Type} {body : σ → Option (σ ⊕ ρ)} {K : ρ → Option τ} {x : Option τ} {s0 : σ} {F : Nat} (st : Nat → σ) (N : Nat) (r : ρ) (hF : N < F) (h0 : s0 = st 0) (hs : ∀ k, k < N → body (st k) = some (.inl (st (k + 1)))) (he : body (st N) = some (.inr r)) (hk : K r = x) : (iter body F s0).bind K = x := by
  rw [h0, iter_seq st N hF hs he]
  exact hk
theorem ii_self (x : Int32) : ii x.toBitVec.toNat = x := by
  unfold ii
  rw [Int32.ofNat_bitVecToNat, Int32.ofBitVec_toBitVec]
theorem ii_ex (x : Int32) : ∃ k, k < 4294967296 ∧ x = ii k := ⟨x.toBitVec.toNat, x.toBitVec.isLt, (ii_self x).symm⟩
theorem jush_ii {a k : Nat} (ha : a < 4294967296) (hk : k < 32) : jush (ii a) (ii k) = ii (a >>> k) := by
  apply tb_ext
  intro i hi
  rw [tb_ush _ hk hi, tb_ii _ _ hi, Nat.testBit_shiftRight]
  by_cases h : i + k < 32
  · rw [tb_ii _ _ h, Nat.add_comm]
  · rw [tb_hi _ (by omega)]
    exact (Nat.testBit_lt_two_pow (Nat.lt_of_lt_of_le ha (Nat.le_trans (by decide : 4294967296 ≤ 2 ^ 32) (Nat.pow_le_pow_right (by decide) (by omega))))).symm
theorem and256 {a m : Nat} (A M : Nat) (ha : a < 256) (hm : m < 256) : (256 * A + a) &&& (256 * M + m) = 256 * (A &&& M) + (a &&& m) := by
  apply Nat.eq_of_testBit_eq
  intro j
  have hx : a &&& m < 2 ^ 8 := Nat.lt_of_le_of_lt Nat.and_le_left ha
  rw [Nat.testBit_and, show (256 : Nat) = 2 ^ 8 from rfl, Nat.testBit_two_pow_mul_add _ (show a < 2 ^ 8 from ha), Nat.testBit_two_pow_mul_add _ (show m < 2 ^ 8 from hm), Nat.testBit_two_pow_mul_add _ hx, Nat.testBit_and, Nat.testBit_and]
  by_cases h : j < 8 <;> simp [h]
theorem by4 (x : Nat) (hx : x < 4294967296) : ∃ a b c d, a < 256 ∧ b < 256 ∧ c < 256 ∧ d < 256 ∧ x = 256 * (256 * (256 * d + c) + b) + a := ⟨x % 256, x / 256 % 256, x / 65536 % 256, x / 16777216, by omega, by omega, by omega, by omega, by omega⟩
theorem and4 {a b c d p q r s : Nat} (ha : a < 256) (hb : b < 256) (hc : c < 256) (hp : p < 256) (hq : q < 256) (hr : r < 256) : (256 * (256 * (256 * d + c) + b) + a) &&& (256 * (256 * (256 * s + r) + q) + p) = 256 * (256 * (256 * (d &&& s) + (c &&& r)) + (b &&& q)) + (a &&& p) := by
  rw [and256 _ _ ha hp, and256 _ _ hb hq, and256 _ _ hc hr]
def p8 (b : Nat) : Nat := b % 2 + b / 2 % 2 + b / 4 % 2 + b / 8 % 2 + b / 16 % 2 + b / 32 % 2 + b / 64 % 2 + b / 128 % 2
def q1 (b : Nat) : Nat := b - (b / 2 &&& 85)
def q2 (b : Nat) : Nat := (b &&& 51) + (b / 4 &&& 51)
theorem q1_t : ∀ b, b < 256 → (b / 2 &&& 85) ≤ b ∧ ((b / 2 + 128) &&& 85) = (b / 2 &&& 85) ∧ q1 b < 256 := by decide +kernel
theorem q2_t : ∀ b, b < 256 → (b / 4 &&& 51) = ((b / 4 + 64) &&& 51) ∧ (b / 4 &&& 51) = ((b / 4 + 128) &&& 51) ∧ (b / 4 &&& 51) = ((b / 4 + 192) &&& 51) := by decide +kernel
theorem q3_t : ∀ b, b < 256 → q2 (q1 b) % 16 ≤ 4 ∧ q2 (q1 b) / 16 ≤ 4 ∧ q2 (q1 b) % 16 + q2 (q1 b) / 16 = p8 b := by decide +kernel
def bcN (x : Nat) : Nat :=
  let x1 := x - (x / 2 &&& 1431655765)
  let x2 := (x1 &&& 858993459) + (x1 / 4 &&& 858993459)
  let x3 := (x2 + x2 / 16) &&& 252645135
  let x4 := x3 + x3 / 256
  let x5 := x4 + x4 / 65536
  x5 % 64
theorem half1 {a b : Nat} (ha : a < 256) : ((a / 2 + 128 * (b % 2)) &&& 85) = (a / 2 &&& 85) := by
  rcases (show b % 2 = 0 ∨ b % 2 = 1 by omega) with e | e <;> rw [e]
  · rfl
  · exact (q1_t a ha).2.1
theorem half2 {a b : Nat} (ha : a < 256) : ((a / 4 + 64 * (b % 4)) &&& 51) = (a / 4 &&& 51) := by
  obtain ⟨h1, h2, h3⟩ := q2_t a ha
  rcases (show b % 4 = 0 ∨ b % 4 = 1 ∨ b % 4 = 2 ∨ b % 4 = 3 by omega) with e | e | e | e <;> rw [e]
  · rfl
  · exact h1.symm
  · exact h2.symm
  · exact h3.symm
theorem bc1 {a b c d : Nat} (ha : a < 256) (hb : b < 256) (hc : c < 256) (hd : d < 256) : ((256 * (256 * (256 * d + c) + b) + a) / 2 &&& 1431655765) = 256 * (256 * (256 * (d / 2 &&& 85) + (c / 2 &&& 85)) + (b / 2 &&& 85)) + (a / 2 &&& 85) := by
  have e : (256 * (256 * (256 * d + c) + b) + a) / 2 = 256 * (256 * (256 * (d / 2) + (c / 2 + 128 * (d % 2))) + (b / 2 + 128 * (c % 2))) + (a / 2 + 128 * (b % 2)) := by omega
  rw [e, show (1431655765 : Nat) = 256 * (256 * (256 * 85 + 85) + 85) + 85 from rfl, and4 (by omega) (by omega) (by omega) (by omega) (by omega) (by omega), half1 ha, half1 hb, half1 hc]
theorem bc2 {a b c d : Nat} (ha : a < 256) (hb : b < 256) (hc : c < 256) (hd : d < 256) : ((256 * (256 * (256 * d + c) + b) + a) / 4 &&& 858993459) = 256 * (256 * (256 * (d / 4 &&& 51) + (c / 4 &&& 51)) + (b / 4 &&& 51)) + (a / 4 &&& 51) := by
  have e : (256 * (256 * (256 * d + c) + b) + a) / 4 = 256 * (256 * (256 * (d / 4) + (c / 4 + 64 * (d % 4))) + (b / 4 + 64 * (c % 4))) + (a / 4 + 64 * (b % 4)) := by omega
  rw [e, show (858993459 : Nat) = 256 * (256 * (256 * 51 + 51) + 51) + 51 from rfl, and4 (by omega) (by omega) (by omega) (by omega) (by omega) (by omega), half2 ha, half2 hb, half2 hc]
theorem bc3 {a b c d : Nat} (ha : a < 256) (hb : b < 256) (hc : c < 256) (hd : d < 256) : bcN (256 * (256 * (256 * d + c) + b) + a) = p8 a + p8 b + p8 c + p8 d := by
  obtain ⟨a1, -, a3⟩ := q1_t a ha
  obtain ⟨b1, -, b3⟩ := q1_t b hb
  obtain ⟨c1, -, c3⟩ := q1_t c hc
  obtain ⟨d1, -, d3⟩ := q1_t d hd
  obtain ⟨A1, A2, A3⟩ := q3_t a ha
  obtain ⟨B1, B2, B3⟩ := q3_t b hb
  obtain ⟨C1, C2, C3⟩ := q3_t c hc
  obtain ⟨D1, D2, D3⟩ := q3_t d hd
  have e1 : (256 * (256 * (256 * d + c) + b) + a) - ((256 * (256 * (256 * d + c) + b) + a) / 2 &&& 1431655765) = 256 * (256 * (256 * q1 d + q1 c) + q1 b) + q1 a := by
    rw [bc1 ha hb hc hd]
    unfold q1
    omega
  have e2 : ((256 * (256 * (256 * q1 d + q1 c) + q1 b) + q1 a) &&& 858993459) + ((256 * (256 * (256 * q1 d + q1 c) + q1 b) + q1 a) / 4 &&& 858993459) = 256 * (256 * (256 * q2 (q1 d) + q2 (q1 c)) + q2 (q1 b)) + q2 (q1 a) := by
    rw [bc2 a3 b3 c3 d3, show (858993459 : Nat) = 256 * (256 * (256 * 51 + 51) + 51) + 51 from rfl, and4 a3 b3 c3 (by omega) (by omega) (by omega)]
    unfold q2
    omega
  unfold bcN
  simp only []
  rw [e1, e2]
  generalize q2 (q1 a) = A at *
  generalize q2 (q1 b) = B at *
  generalize q2 (q1 c) = C at *
  generalize q2 (q1 d) = D at *
  have e3 : (256 * (256 * (256 * D + C) + B) + A) + (256 * (256 * (256 * D + C) + B) + A) / 16 = 256 * (256 * (256 * ((D % 16 + D / 16) + 16 * (D / 16)) + ((C % 16 + C / 16) + 16 * (C / 16 + D % 16))) + ((B % 16 + B / 16) + 16 * (B / 16 + C % 16))) + ((A % 16 + A / 16) + 16 * (A / 16 + B % 16)) := by omega
  rw [e3, show (252645135 : Nat) = 256 * (256 * (256 * 15 + 15) + 15) + 15 from rfl, and4 (by omega) (by omega) (by omega) (by omega) (by omega) (by omega), show (15 : Nat) = 2 ^ 4 - 1 from rfl, Nat.and_two_pow_sub_one_eq_mod, Nat.and_two_pow_sub_one_eq_mod, Nat.and_two_pow_sub_one_eq_mod, Nat.and_two_pow_sub_one_eq_mod]
  rw [← A3, ← B3, ← C3, ← D3]
  have m1 : (A % 16 + A / 16 + 16 * (A / 16 + B % 16)) % 2 ^ 4 = A % 16 + A / 16 := by omega
  have m2 : (B % 16 + B / 16 + 16 * (B / 16 + C % 16)) % 2 ^ 4 = B % 16 + B / 16 := by omega
  have m3 : (C % 16 + C / 16 + 16 * (C / 16 + D % 16)) % 2 ^ 4 = C % 16 + C / 16 := by omega
  have m4 : (D % 16 + D / 16 + 16 * (D / 16)) % 2 ^ 4 = D % 16 + D / 16 := by omega
  rw [m1, m2, m3, m4]
  have k1 : A % 16 + A / 16 ≤ 8 := by omega
  have k2 : B % 16 + B / 16 ≤ 8 := by omega
  have k3 : C % 16 + C / 16 ≤ 8 := by omega
  have k4 : D % 16 + D / 16 ≤ 8 := by omega
  clear e1 e2 e3 m1 m2 m3 m4
  generalize A % 16 + A / 16 = A' at *
  generalize B % 16 + B / 16 = B' at *
  generalize C % 16 + C / 16 = C' at *
  generalize D % 16 + D / 16 = D' at *
  clear a1 b1 c1 d1 a3 b3 c3 d3 A1 A2 A3 B1 B2 B3 C1 C2 C3 D1 D2 D3 ha hb hc hd
  have g1 : (256 * (256 * (256 * D' + C') + B') + A') / 256 = 256 * (256 * D' + C') + B' := by omega
  rw [g1]
  have g2 : (256 * (256 * (256 * D' + C') + B') + A' + (256 * (256 * D' + C') + B')) / 65536 = 256 * D' + (C' + D') := by omega
  rw [g2]
  omega
theorem p8_bits : ∀ b, b < 256 → p8 b = sm (fun i => b.testBit i) (fun _ => 1) 8 := by decide +kernel
theorem sm_shift (P : Nat → Bool) (w : Nat → Nat) (M : Nat) : ∀ N, sm P w (M + N) = sm P w M + sm (fun i => P (M + i)) (fun i => w (M + i)) N
  | 0 => rfl
  | N + 1 => by
    show sm P w (M + N) + (if P (M + N) then w (M + N) else 0) = sm P w M + (sm _ _ N + (if P (M + N) then w (M + N) else 0))
    rw [sm_shift P w M N, Nat.add_assoc]
theorem bc_low {A a : Nat} (ha : a < 256) (i : Nat) : (256 * A + a).testBit i = if i < 8 then a.testBit i else A.testBit (i - 8) := by
  rw [show (256 : Nat) = 2 ^ 8 from rfl, Nat.testBit_two_pow_mul_add _ (show a < 2 ^ 8 from ha)]
theorem bc_bits {x : Nat} (hx : x < 4294967296) : bcN x = sm (fun i => x.testBit i) (fun _ => 1) 32 := by
  obtain ⟨a, b, c, d, ha, hb, hc, hd, e⟩ := by4 x hx
  rw [e, bc3 ha hb hc hd, p8_bits a ha, p8_bits b hb, p8_bits c hc, p8_bits d hd]
  rw [sm_shift _ _ 24 8, sm_shift _ _ 16 8, sm_shift _ _ 8 8]
  congr 1
  · congr 1
    · congr 1
      · refine sm_congr (fun i hi => ?_) (fun _ _ _ => rfl)
        rw [bc_low ha, if_pos hi]
      · refine sm_congr (fun i hi => ?_) (fun _ _ _ => rfl)
        rw [bc_low ha, if_neg (by omega), Nat.add_sub_cancel_left, bc_low hb, if_pos hi]
    · refine sm_congr (fun i hi => ?_) (fun _ _ _ => rfl)
      rw [bc_low ha, if_neg (by omega), bc_low hb, if_neg (by omega), show 16 + i - 8 - 8 = i by omega, bc_low hc, if_pos hi]
  · refine sm_congr (fun i hi => ?_) (fun _ _ _ => rfl)
    rw [bc_low ha, if_neg (by omega), bc_low hb, if_neg (by omega), bc_low hc, if_neg (by omega), show 24 + i - 8 - 8 - 8 = i by omega]
/-- how many bits a mask has below N -/
def cbt (x : Int32) (N : Nat) : Nat := sm (tb x) (fun _ => 1) N
theorem sm1_le (P : Nat → Bool) : ∀ N, sm P (fun _ => 1) N ≤ N
  | 0 => Nat.le_refl _
  | N + 1 => by
    have := sm1_le P N
    simp only [sm]
    split <;> omega
theorem bitCount_nat {x : Nat} (hx : x < 4294967296) (F : Nat) (h : HP) : sJ6_bitCount_0f7a4 F (ii x) h = some (ii (bcN x)) := by
  have h1 : (x / 2 &&& 1431655765) ≤ x := Nat.le_trans Nat.and_le_left (by omega)
  unfold sJ6_bitCount_0f7a4 bcN
  simp only [nmI_eq, ii_lit]
  have s1 : ∀ y, y < 4294967296 → jush (ii y) (ii 1) = ii (y / 2) := fun y hy => by rw [jush_ii hy (by decide), Nat.shiftRight_eq_div_pow]
  have s2 : ∀ y, y < 4294967296 → jush (ii y) (ii 2) = ii (y / 4) := fun y hy => by rw [jush_ii hy (by decide), Nat.shiftRight_eq_div_pow]
  have s3 : ∀ y, y < 4294967296 → jush (ii y) (ii 4) = ii (y / 16) := fun y hy => by rw [jush_ii hy (by decide), Nat.shiftRight_eq_div_pow]
  have s4 : ∀ y, y < 4294967296 → jush (ii y) (ii 8) = ii (y / 256) := fun y hy => by rw [jush_ii hy (by decide), Nat.shiftRight_eq_div_pow]
  have s5 : ∀ y, y < 4294967296 → jush (ii y) (ii 16) = ii (y / 65536) := fun y hy => by rw [jush_ii hy (by decide), Nat.shiftRight_eq_div_pow]
  rw [s1 x hx, ii_and, ii_sub h1]
  generalize hx1 : x - (x / 2 &&& 1431655765) = x1
  have g1 : x1 < 4294967296 := by omega
  rw [s2 x1 g1, ii_and, ii_and, ii_add]
  have b1 : (x1 &&& 858993459) ≤ 858993459 := Nat.and_le_right
  have b2 : (x1 / 4 &&& 858993459) ≤ 858993459 := Nat.and_le_right
  generalize hx2 : (x1 &&& 858993459) + (x1 / 4 &&& 858993459) = x2
  have g2 : x2 < 4294967296 := by omega
  rw [s3 x2 g2, ii_add, ii_and]
  have b3 : (x2 + x2 / 16 &&& 252645135) ≤ 252645135 := Nat.and_le_right
  generalize hx3 : (x2 + x2 / 16 &&& 252645135) = x3 at *
  rw [s4 x3 (by omega), ii_add, s5 _ (by omega), ii_add, ii_and, show (63 : Nat) = 2 ^ 6 - 1 from rfl, Nat.and_two_pow_sub_one_eq_mod]
theorem r_bitCount (x : Int32) (F : Nat) (h : HP) : sJ6_bitCount_0f7a4 F x h = some (ii (cbt x 32)) := by
  obtain ⟨k, hk, e⟩ := ii_ex x
  subst e
  rw [bitCount_nat hk, bc_bits hk]
  unfold cbt
  congr 2
  refine sm_congr (fun i hi => ?_) (fun _ _ _ => rfl)
  rw [tb_ii _ _ hi]
theorem cbt_le (x : Int32) (N : Nat) : cbt x N ≤ N := sm1_le _ _
theorem tb_neg (x : Int32) {i : Nat} (hi : i < 32) : tb (-x) i = (tb x i ^^ decide (∃ j, j < i ∧ tb x j = true)) := by
  unfold tb
  rw [Int32.toBitVec_neg, BitVec.getLsbD_neg]
  simp [hi]
theorem sub1_not (x : Int32) : x - 1 = ~~~ (-x) := by
  apply Int32.toBitVec_inj.mp
  rw [Int32.toBitVec_sub, Int32.toBitVec_not, Int32.toBitVec_neg, BitVec.not_neg]
  rfl
theorem low_and {x : Int32} {i : Nat} (hi : i < 32) (h1 : tb x i = true) (h2 : ∀ j, j < i → tb x j = false) {j : Nat} (hj : j < 32) : tb (x &&& (-x)) j = decide (j = i) := by
  rw [tb_and, tb_neg x hj]
  by_cases e : j = i
  · subst e
    rw [h1]
    have : ¬ ∃ k, k < j ∧ tb x k = true := fun ⟨k, hk, q⟩ => by rw [h2 k hk] at q; cases q
    simp [this]
  · by_cases l : j < i
    · rw [h2 j l]
      simp [e]
    · have : ∃ k, k < j ∧ tb x k = true := ⟨i, by omega, h1⟩
      cases tb x j <;> simp [this, e]
theorem low_clr {x : Int32} {i : Nat} (hi : i < 32) (h1 : tb x i = true) (h2 : ∀ j, j < i → tb x j = false) {j : Nat} (hj : j < 32) : tb (x &&& (x - 1)) j = (tb x j && !decide (j = i)) := by
  rw [tb_and, sub1_not, tb_not _ hj, tb_neg x hj]
  by_cases e : j = i
  · subst e
    rw [h1]
    have : ¬ ∃ k, k < j ∧ tb x k = true := fun ⟨k, hk, q⟩ => by rw [h2 k hk] at q; cases q
    simp [this]
  · by_cases l : j < i
    · rw [h2 j l]
      simp
    · have : ∃ k, k < j ∧ tb x k = true := ⟨i, by omega, h1⟩
      cases tb x j <;> simp [this, e]
theorem bc_pow : ∀ i, i < 32 → bcN (2 ^ i - 1) = i := by decide +kernel
theorem r_lowestBit {x : Int32} {i : Nat} (hi : i < 32) (h1 : tb x i = true) (h2 : ∀ j, j < i → tb x j = false) (F : Nat) (h : HP) : sX10_lowestBit F x h = some (ii i) := by
  have e : x &&& (-x) = ii (2 ^ i) := by
    apply tb_ext
    intro j hj
    rw [low_and hi h1 h2 hj, tb_ii _ _ hj, Nat.testBit_two_pow]
    exact decide_eq_decide.mpr ⟨fun h => h.symm, fun h => h.symm⟩
  have hp : 2 ^ i < 4294967296 := Nat.lt_of_lt_of_le (Nat.pow_lt_pow_right (by decide) hi) (by decide)
  have hq : 0 < 2 ^ i := Nat.two_pow_pos i
  unfold sX10_lowestBit
  rw [e, show (1 : Int32) = ii 1 from rfl, ii_sub hq, bitCount_nat (by omega), bc_pow i hi]
  rfl
/-- a loop over the bits of a mask, from the lowest on -/
theorem iter_bits {α : Type} {body : α × Int32 × Int32 → Option ((α × Int32 × Int32) ⊕ α)} (m : Int32) (acc : Nat → α) {F : Nat} (hF : 32 < F)
    (h0 : ∀ a r, body (a, r, ii 0) = some (.inr a))
    (hs : ∀ i r l, i < 32 → tb m i = true → 0 < l → l ≤ 32 → tb r i = true → (∀ j, j < i → tb r j = false) → body (acc i, r, ii l) = some (.inl (acc (i + 1), r &&& (r - 1), ii (l - 1))))
    (hn : ∀ i, i < 32 → tb m i = false → acc (i + 1) = acc i) : iter body F (acc 0, m, ii (cbt m 32)) = some (acc 32) := by
  have skip : ∀ d T, T + d ≤ 32 → (∀ j, T ≤ j → j < T + d → tb m j = false) → acc (T + d) = acc T := by
    intro d
    induction d with
    | zero => intro T _ _; rfl
    | succ d ih =>
      intro T hT hz
      rw [← Nat.add_assoc, hn (T + d) (by omega) (hz _ (by omega) (by omega))]
      exact ih T (by omega) (fun j h1 h2 => hz j h1 (by omega))
  have low : ∀ d T, T + d = 32 → (∃ j, T ≤ j ∧ j < 32 ∧ tb m j = true) → ∃ i, T ≤ i ∧ i < 32 ∧ tb m i = true ∧ ∀ j, T ≤ j → j < i → tb m j = false := by
    intro d
    induction d with
    | zero => intro T hT ⟨j, h1, h2, _⟩; omega
    | succ d ih =>
      intro T hT ⟨j, h1, h2, h3⟩
      by_cases e : tb m T = true
      · exact ⟨T, Nat.le_refl _, by omega, e, fun j h1 h2 => by omega⟩
      · obtain ⟨i, a, b, c, q⟩ := ih (T + 1) (by omega) ⟨j, by
          rcases Nat.lt_or_ge T j with g | g
          · exact g
          · have : j = T := by omega
            rw [this] at h3; exact absurd h3 e, h2, h3⟩
        refine ⟨i, by omega, b, c, fun j g1 g2 => ?_⟩
        by_cases g : j = T
        · rw [g]; simpa using e
        · exact q j (by omega) g2
  have key : ∀ (F c T : Nat) (r : Int32), T ≤ 32 → cbt m 32 = cbt m T + c → c < F → (∀ j, j < 32 → tb r j = (tb m j && decide (T ≤ j))) → iter body F (acc T, r, ii c) = some (acc 32) := by
    intro F
    induction F with
    | zero => intro c T r _ _ h; omega
    | succ F ih =>
      intro c T r hT hc hF hr
      unfold iter
      by_cases e : ∃ j, T ≤ j ∧ j < 32 ∧ tb m j = true
      · obtain ⟨i, g1, g2, g3, g4⟩ := low (32 - T) T (by omega) e
        have c1 : cbt m T = cbt m i := by
          unfold cbt
          rw [show i = T + (i - T) by omega, sm_shift, sm_zero (N := i - T)]
          · rfl
          · intro t ht; exact g4 _ (by omega) (by omega)
        have c2 : cbt m (i + 1) = cbt m i + 1 := by
          unfold cbt; simp only [sm]; rw [if_pos g3]
        have c3 : cbt m (i + 1) ≤ cbt m 32 := sm_mono (by omega)
        have ri : tb r i = true := by rw [hr i g2, g3]; simp [g1]
        have rl : ∀ j, j < i → tb r j = false := by
          intro j hj
          rw [hr j (by omega)]
          by_cases q : T ≤ j
          · rw [g4 j q hj]; rfl
          · simp [q]
        have ea : acc T = acc i := by
          have := skip (i - T) T (by omega) (fun j a b => g4 j a (by omega))
          rw [show T + (i - T) = i by omega] at this
          exact this.symm
        rw [ea, hs i r c g2 g3 (by omega) (by have := cbt_le m 32; omega) ri rl]
        refine ih (c - 1) (i + 1) _ (by omega) (by omega) (by omega) ?_
        intro j hj
        rw [low_clr g2 ri rl hj, hr j hj]
        by_cases q : j = i
        · subst q; simp
        · by_cases q2 : T ≤ j
          · by_cases q3 : i ≤ j
            · simp [q, q2, show i + 1 ≤ j by omega]
            · rw [g4 j q2 (by omega)]; simp
          · simp [q2, show ¬ i + 1 ≤ j by omega]
      · have z : ∀ j, T ≤ j → j < 32 → tb m j = false := by
          intro j a b
          cases q : tb m j
          · rfl
          · exact absurd ⟨j, a, b, q⟩ e
        have c1 : cbt m 32 = cbt m T := by
          unfold cbt
          rw [show (32 : Nat) = T + (32 - T) by omega, sm_shift, sm_zero (N := 32 - T)]
          · rfl
          · intro t ht; exact z _ (by omega) (by omega)
        have : c = 0 := by omega
        subst this
        rw [h0]
        have := skip (32 - T) T (by omega) (fun j a b => z j a (by omega))
        rw [show T + (32 - T) = 32 by omega] at this
        rw [this]
        rfl
  refine key F (cbt m 32) 0 m (Nat.zero_le _) (by show _ = 0 + _; omega) (by have := cbt_le m 32; omega) ?_
  intro j hj
  simp
