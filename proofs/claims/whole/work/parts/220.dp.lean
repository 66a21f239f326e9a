/-! orders of a set of fingers, by what is left -/
def clr (S f : Nat) : Nat := mns S (2 ^ f)
theorem clr_bit (S f g : Nat) : (clr S f).testBit g = (S.testBit g && !decide (f = g)) := by
  unfold clr
  rw [mns_bit, Nat.testBit_two_pow]
theorem clr_le (S f : Nat) : clr S f ≤ S := by
  have : clr S f = S &&& (clr S f) := by
    apply Nat.eq_of_testBit_eq
    intro j
    rw [Nat.testBit_and, clr_bit]
    cases S.testBit j <;> simp
  rw [this]
  exact Nat.and_le_left
theorem clr_lt {S f : Nat} (h : S.testBit f = true) : clr S f < S := by
  have h1 := clr_le S f
  have h2 : clr S f ≠ S := by
    intro e
    have := clr_bit S f f
    rw [e, h] at this
    simp at this
  omega
theorem all_bit (n i : Nat) : (2 ^ n - 1).testBit i = decide (i < n) := Nat.testBit_two_pow_sub_one n i
theorem bit_lt {S n i : Nat} (hS : S < 2 ^ n) (h : S.testBit i = true) : i < n := by
  by_cases e : i < n
  · exact e
  · have : S.testBit i = false := Nat.testBit_lt_two_pow (Nat.lt_of_lt_of_le hS (Nat.pow_le_pow_right (by decide) (by omega)))
    rw [this] at h
    cases h
theorem ne0_bit {S : Nat} (h : S ≠ 0) : ∃ i, S.testBit i = true := Nat.exists_testBit_of_ne_zero h
def gpf (l : Nat → Nat → Nat) (s t : Nat) : Nat := if l s t = 0 then 0 else 1
/-- of the orders of what is left behind a stance: the fewest gaps, how many have these, the fewest breaks of these; b: what an end costs -/
def D (n : Nat) (l : Nat → Nat → Nat) (b : Nat → Nat) (R s : Nat) : Nat × Nat × Nat :=
  if R = 0 then (b s, (if b s = 0 then 1 else 0), 0) else
  fd (fun t => R.testBit (t / 4))
    (fun t => if h : R.testBit (t / 4) = true then (if (D n l b (clr R (t / 4)) t).1 = 1000 then 1000 else (D n l b (clr R (t / 4)) t).1 + gpf l s t) else 0)
    (fun t => if h : R.testBit (t / 4) = true then (D n l b (clr R (t / 4)) t).2.1 else 0)
    (fun t => if h : R.testBit (t / 4) = true then (D n l b (clr R (t / 4)) t).2.2 + l s t else 0) (4 * n)
termination_by R
decreasing_by all_goals exact clr_lt h
theorem D_0 (n : Nat) (l : Nat → Nat → Nat) (b : Nat → Nat) (s : Nat) : D n l b 0 s = (b s, (if b s = 0 then 1 else 0), 0) := by
  rw [D, if_pos rfl]
def Dv (n : Nat) (l : Nat → Nat → Nat) (b : Nat → Nat) (R s t : Nat) : Nat := if (D n l b (clr R (t / 4)) t).1 = 1000 then 1000 else (D n l b (clr R (t / 4)) t).1 + gpf l s t
def Dw (n : Nat) (l : Nat → Nat → Nat) (b : Nat → Nat) (R t : Nat) : Nat := (D n l b (clr R (t / 4)) t).2.1
def Db (n : Nat) (l : Nat → Nat → Nat) (b : Nat → Nat) (R s t : Nat) : Nat := (D n l b (clr R (t / 4)) t).2.2 + l s t
def inR (R t : Nat) : Bool := R.testBit (t / 4)
theorem D_s (n : Nat) (l : Nat → Nat → Nat) (b : Nat → Nat) {R : Nat} (s : Nat) (hR : R ≠ 0) : D n l b R s = fd (inR R) (Dv n l b R s) (Dw n l b R) (Db n l b R s) (4 * n) := by
  rw [D, if_neg hR]
  refine fd_congr (fun t _ => rfl) ?_
  intro t _ h
  have h : R.testBit (t / 4) = true := h
  simp only [h, dite_true]
  exact ⟨rfl, rfl, rfl⟩
def b0 : Nat → Nat := fun _ => 0
