/-! the row of numbers that tells a cell and its layout: as the reference has it -/
/-- what a row holds that a text has told -/
def Vd (u : Nat → Nat) : Prop :=
  u 72 ≤ 8 ∧ u 4 ≤ 8 ∧ (∀ f, f < u 72 → u (73 + f) < u 4) ∧ (∀ p w, p < u 4 → w < 5 → u (5 + 6 * p + w) < 12) ∧ (∀ p, p < u 4 → u (5 + 6 * p + 5) ≤ 40) ∧
  u 53 ≤ 6 ∧ (∀ b, b < u 53 → u (54 + 3 * b) < 12 ∧ u (54 + 3 * b + 1) ≤ 40 ∧ u (54 + 3 * b + 2) ≤ 40) ∧ u 2 < 4096 ∧ u 3 < 4096 ∧ u 0 ≤ 9 ∧ u 1 ≤ 4 ∧ (0 < u 72 → 0 < u 1) ∧
  (∀ p, p < u 72 → u (81 + p) < u 72) ∧ ∀ p, p < u 72 → u (89 + p) < 4
def Mw (h : HP) (u : Nat → Nat) : Prop := ∀ k, k < 106 → h.I 109 k = ii (u k)
def net (u : Nat → Nat) (f w : Nat) : Nat := u (5 + 6 * u (73 + f) + w)
/-- the net of a row (up or low) of a stance, at its right or left -/
def sd (u : Nat → Nat) (up : Bool) (s : Nat) (r : Bool) : Nat := net u (s / 4) ((if up then 1 else 3) + (if (decide ((if up then s % 2 else s / 2 % 2) = 1)) = r then 0 else 1))
def lkR (u : Nat → Nat) (up : Bool) (s t : Nat) : Nat := if sd u up s true = sd u up t false then 0 else 1
def lk (u : Nat → Nat) (s t : Nat) : Nat := lkR u true s t + lkR u false s t
theorem lkR_01 (u : Nat → Nat) (up : Bool) (s t : Nat) : lkR u up s t = 0 ∨ lkR u up s t = 1 := by
  unfold lkR
  split
  · exact Or.inl rfl
  · exact Or.inr rfl
theorem lk_le (u : Nat → Nat) (s t : Nat) : lk u s t ≤ 2 := by
  unfold lk lkR
  split <;> split <;> omega
theorem net_lt {u : Nat → Nat} (V : Vd u) {f w : Nat} (hf : f < u 72) (hw : w < 5) : net u f w < 12 := V.2.2.2.1 _ _ (V.2.2.1 f hf) hw
theorem sd_lt {u : Nat → Nat} (V : Vd u) (up : Bool) {s : Nat} (hs : s < 4 * u 72) (r : Bool) : sd u up s r < 12 := by
  unfold sd
  refine net_lt V (by omega) ?_
  cases up <;> simp <;> split <;> omega
theorem r_fingers {h : HP} (L : Lay h) {u : Nat → Nat} (M : Mw h u) (F : Nat) : sX11_fingers F 108 h = some (ii (u 72)) := by
  unfold sX11_fingers
  simp (disch := first | exact L | omega) only [gR_11_1, bind_some', ii_lit, aI_c109, M 72]
theorem r_of {h : HP} (L : Lay h) {u : Nat → Nat} (M : Mw h u) (V : Vd u) (F : Nat) {f w : Nat} (hf : f < u 72) (hw : w < 6) : sX11_of F 108 (ii f) (ii w) h = some (ii (net u f w)) := by
  have h1 := V.1
  have h2 := V.2.1
  have h3 := V.2.2.1 f hf
  unfold sX11_of net
  simp (disch := first | exact L | omega) only [gR_11_1, bind_some', ii_lit, ii_add, ii_mul, aI_c109, M (73 + f), M (5 + 6 * u (73 + f) + w)]
theorem r_side {h : HP} (L : Lay h) {u : Nat → Nat} (M : Mw h u) (V : Vd u) (F : Nat) {f t : Nat} (up r : Bool) (hf : f < u 72) (ht : t < 4) : sX11_side F 108 (ii f) (ii t) (ii up.toNat) (ii r.toNat) h = some (ii (sd u up (4 * f + t) r)) := by
  have h1 := V.1
  have e0 : (4 * f + t) / 4 = f := by omega
  have e1 : (4 * f + t) % 2 = t % 2 := by omega
  have e2 : (4 * f + t) / 2 % 2 = t / 2 := by omega
  unfold sX11_side sd jrem
  rw [e0, e1, e2]
  cases up
  · have e3 : (t / 2 = 1) ↔ 1 < t := by omega
    by_cases h5 : t ≤ 1
    · have h6 : ¬ 1 < t := by omega
      cases r <;> simp (disch := first | exact L | exact V | exact M | omega) [dO_11, ii_lit, ii_le, ii_inj, ii_add, r_of, h5, e3, h6]
    · have h6 : 1 < t := by omega
      cases r <;> simp (disch := first | exact L | exact V | exact M | omega) [dO_11, ii_lit, ii_le, ii_inj, ii_add, r_of, h5, e3, h6]
  · by_cases h5 : t % 2 = 1
    · cases r <;> simp (disch := first | exact L | exact V | exact M | omega) [dO_11, ii_lit, ii_le, ii_inj, ii_rem, ii_add, r_of, h5] <;> omega
    · cases r <;> simp (disch := first | exact L | exact V | exact M | omega) [dO_11, ii_lit, ii_le, ii_inj, ii_rem, ii_add, r_of, h5] <;> omega
theorem r_meets {h : HP} (L : Lay h) {u : Nat → Nat} (M : Mw h u) (V : Vd u) (F : Nat) {f t g n : Nat} (up : Bool) (hf : f < u 72) (ht : t < 4) (hg : g < u 72) (hn : n < 4) : sX11_meets F 108 (ii f) (ii t) (ii g) (ii n) (ii up.toNat) h = some (ii (1 - lkR u up (4 * f + t) (4 * g + n))) := by
  have h1 := V.1
  have a1 : sX11_side F 108 (ii f) (ii t) (ii up.toNat) (1 : Int32) h = _ := r_side L M V F up true hf ht
  have a2 : sX11_side F 108 (ii g) (ii n) (ii up.toNat) (0 : Int32) h = _ := r_side L M V F up false hg hn
  have b1 := sd_lt V up (s := 4 * f + t) (by omega) true
  have b2 := sd_lt V up (s := 4 * g + n) (by omega) false
  unfold sX11_meets lkR
  simp (disch := first | exact L | omega) only [dO_11, bind_some', a1, a2, ii_inj]
  by_cases e : sd u up (4 * f + t) true = sd u up (4 * g + n) false
  · simp [e, ii]
  · simp [e, ii]
theorem r_lacks {h : HP} (L : Lay h) {u : Nat → Nat} (M : Mw h u) (V : Vd u) (F : Nat) {f t g n : Nat} (hf : f < u 72) (ht : t < 4) (hg : g < u 72) (hn : n < 4) : sX11_lacks F 108 (ii f) (ii t) (ii g) (ii n) h = some (ii (lk u (4 * f + t) (4 * g + n))) := by
  have a1 : sX11_meets F 108 (ii f) (ii t) (ii g) (ii n) (1 : Int32) h = _ := r_meets L M V F true hf ht hg hn
  have a2 : sX11_meets F 108 (ii f) (ii t) (ii g) (ii n) (0 : Int32) h = _ := r_meets L M V F false hf ht hg hn
  unfold sX11_lacks lk
  simp (disch := first | exact L | omega) only [dO_11, bind_some', a1, a2]
  rcases lkR_01 u true (4 * f + t) (4 * g + n) with e | e <;> rcases lkR_01 u false (4 * f + t) (4 * g + n) with e' | e' <;> rw [e, e'] <;> rfl
theorem r_state {F S f t : Nat} {h : HP} : sX11_state F (ii S) (ii f) (ii t) h = some (ii (32 * S + (4 * f + t))) := by
  unfold sX11_state
  simp only [ii_lit, ii_add, ii_mul, Nat.add_assoc]
