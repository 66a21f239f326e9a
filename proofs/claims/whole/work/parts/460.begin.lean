/-! the start: what the law makes ahead of its loop, reckoned -/
def aB : Nat → (Nat → Bool) → Bool
  | 0, _ => true
  | n + 1, f => aB n f && f n
theorem aB_ok {f : Nat → Bool} : ∀ {n : Nat}, aB n f = true → ∀ k, k < n → f k = true
  | 0, _, k, hk => absurd hk (by omega)
  | n + 1, h, k, hk => by
    have h : (aB n f && f n) = true := h
    rw [Bool.and_eq_true] at h
    by_cases g : k = n
    · rw [g]; exact h.2
    · exact aB_ok h.1 k (by omega)
def chk0 (h : HP) : Bool := decide (h.n = 137) && aB 137 (fun a => decide (h.K a = ktL.getD a 0) && decide (h.N a = ntL.getD a 0)) && rtL.all (fun q => decide (h.R q.1 q.2.1 = some q.2.2))
def chk1 (h : HP) : Bool := decide (h.R 0 12 = some 4) && decide (h.R 0 13 = none) && decide (h.R 0 14 = some 102) && decide (h.R 4 0 = some 5) && decide (h.R 22 0 = some 23)
def chk2 (h : HP) : Bool := aB 106 (fun k => decide (h.I 109 k = 0)) && aB 7 (fun k => decide (h.I 5 k = 0)) && decide (h.I 12 0 = 0) && decide (h.I 13 0 = 0) && decide (h.I 14 0 = 0) && decide (h.J 15 0 = 1) && decide (h.I 16 0 = 0) && decide (h.I 40 0 = 0) && aB 3 (fun k => decide (h.I 62 k = 0)) && decide (h.I 67 0 = 0)
def chk3 (h : HP) : Bool := aB 12 (fun v => decide (h.I 68 v = -1) && decide (h.I 69 v = -1) && decide (h.I 70 v = 0) && decide (h.I 71 v = -1) && decide (h.I 72 v = -1) && decide (h.I 73 v = -1) && decide (h.I 74 v = -1))
def chk4 (h : HP) : Bool := decide (h.I 2 0 = 0) && decide (h.I 108 7 = 0) && decide (h.I 2 1 = -1) && decide (h.I 108 10 = -1) && decide (h.I 44 0 = 0) && decide (h.I 44 1 = 0) && decide (h.I 108 3 = 0) && decide (h.I 108 5 = 0)
def chk (h : HP) : Bool := chk0 h && chk1 h && chk2 h && chk3 h && chk4 h
def chkO : Option HP → Bool
  | some h => chk h
  | none => false
set_option maxRecDepth 1000000 in
theorem start_ok : chkO (sL0 1000) = true := by decide +kernel
