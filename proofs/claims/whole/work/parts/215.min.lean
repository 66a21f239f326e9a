/-! least values and sums over the numbers below a bound -/
def mn (P : Nat → Bool) (v : Nat → Nat) : Nat → Nat
  | 0 => 1000
  | N + 1 => if P N = true ∧ v N < mn P v N then v N else mn P v N
def sm (P : Nat → Bool) (w : Nat → Nat) : Nat → Nat
  | 0 => 0
  | N + 1 => sm P w N + (if P N then w N else 0)
theorem mn_s (P : Nat → Bool) (v : Nat → Nat) (N : Nat) : mn P v (N + 1) = if P N = true ∧ v N < mn P v N then v N else mn P v N := rfl
theorem sm_s (P : Nat → Bool) (w : Nat → Nat) (N : Nat) : sm P w (N + 1) = sm P w N + (if P N then w N else 0) := rfl
theorem mn_far (P : Nat → Bool) (v : Nat → Nat) (N : Nat) : mn P v N ≤ 1000 := by
  induction N with
  | zero => exact Nat.le_refl _
  | succ N ih => unfold mn; split <;> omega
theorem mn_le {P : Nat → Bool} {v : Nat → Nat} {N t : Nat} (ht : t < N) (hp : P t = true) : mn P v N ≤ v t := by
  induction N with
  | zero => omega
  | succ N ih =>
    unfold mn
    by_cases e : t = N
    · subst e
      split
      · omega
      · rename_i q
        have : ¬ v t < mn P v t := fun z => q ⟨hp, z⟩
        omega
    · have := ih (by omega)
      split <;> omega
theorem mn_ex {P : Nat → Bool} {v : Nat → Nat} {N : Nat} (h : mn P v N < 1000) : ∃ t, t < N ∧ P t = true ∧ v t = mn P v N := by
  induction N with
  | zero => exact absurd h (by unfold mn; omega)
  | succ N ih =>
    unfold mn at h ⊢
    split
    · rename_i q
      exact ⟨N, by omega, q.1, rfl⟩
    · rename_i q
      rw [if_neg q] at h
      obtain ⟨t, h1, h2, h3⟩ := ih h
      exact ⟨t, by omega, h2, h3⟩
theorem mn_ge {P : Nat → Bool} {v : Nat → Nat} {N c : Nat} (hc : c ≤ 1000) (h : ∀ t, t < N → P t = true → c ≤ v t) : c ≤ mn P v N := by
  by_cases e : mn P v N < 1000
  · obtain ⟨t, h1, h2, h3⟩ := mn_ex e
    have := h t h1 h2
    omega
  · omega
theorem mn_eq {P : Nat → Bool} {v : Nat → Nat} {N c : Nat} (hc : c ≤ 1000) (h : ∀ t, t < N → P t = true → c ≤ v t) (hx : c = 1000 ∨ ∃ t, t < N ∧ P t = true ∧ v t = c) : mn P v N = c := by
  have h1 := mn_ge hc h
  rcases hx with hx | ⟨t, a, b, d⟩
  · have := mn_far P v N
    omega
  · have := mn_le (v := v) a b
    omega
theorem mn_congr {P Q : Nat → Bool} {v u : Nat → Nat} {N : Nat} (hp : ∀ t, t < N → P t = Q t) (hv : ∀ t, t < N → P t = true → v t = u t) : mn P v N = mn Q u N := by
  induction N with
  | zero => rfl
  | succ N ih =>
    unfold mn
    rw [ih (fun t ht => hp t (by omega)) (fun t ht => hv t (by omega)), hp N (by omega)]
    by_cases e : Q N = true
    · rw [hv N (by omega) ((hp N (by omega)).trans e)]
    · simp [e]
theorem sm_congr {P Q : Nat → Bool} {v u : Nat → Nat} {N : Nat} (hp : ∀ t, t < N → P t = Q t) (hv : ∀ t, t < N → P t = true → v t = u t) : sm P v N = sm Q u N := by
  induction N with
  | zero => rfl
  | succ N ih =>
    unfold sm
    rw [ih (fun t ht => hp t (by omega)) (fun t ht => hv t (by omega)), hp N (by omega)]
    by_cases e : Q N = true
    · rw [hv N (by omega) ((hp N (by omega)).trans e)]
    · simp [e]
theorem sm_zero {P : Nat → Bool} {v : Nat → Nat} {N : Nat} (h : ∀ t, t < N → P t = false) : sm P v N = 0 := by
  induction N with
  | zero => rfl
  | succ N ih =>
    unfold sm
    rw [ih (fun t ht => h t (by omega)), h N (by omega)]
    rfl
theorem sm_split (P Q : Nat → Bool) (v : Nat → Nat) (N : Nat) : sm P v N = sm (fun t => P t && Q t) v N + sm (fun t => P t && !Q t) v N := by
  induction N with
  | zero => rfl
  | succ N ih =>
    simp only [sm]
    rw [ih]
    by_cases e1 : P N = true <;> by_cases e2 : Q N = true <;> simp [e1, e2] <;> omega
theorem sm_le {P Q : Nat → Bool} {v u : Nat → Nat} {N : Nat} (h : ∀ t, t < N → P t = true → Q t = true ∧ v t ≤ u t) : sm P v N ≤ sm Q u N := by
  induction N with
  | zero => exact Nat.le_refl _
  | succ N ih =>
    have := ih (fun t ht => h t (by omega))
    simp only [sm]
    by_cases e : P N = true
    · obtain ⟨a, b⟩ := h N (by omega) e
      rw [if_pos e, if_pos a]
      omega
    · rw [if_neg e]
      omega
theorem sm_mem {P : Nat → Bool} {v : Nat → Nat} {N t : Nat} (ht : t < N) (hp : P t = true) : v t ≤ sm P v N := by
  induction N with
  | zero => omega
  | succ N ih =>
    simp only [sm]
    by_cases e : t = N
    · subst e
      rw [if_pos hp]
      omega
    · have := ih (by omega)
      omega
theorem sm_mono {P : Nat → Bool} {v : Nat → Nat} {N M : Nat} (h : N ≤ M) : sm P v N ≤ sm P v M := by
  induction M with
  | zero => rw [show N = 0 by omega]; exact Nat.le_refl _
  | succ M ih =>
    by_cases e : N = M + 1
    · rw [e]; exact Nat.le_refl _
    · have := ih (by omega)
      simp only [sm]
      omega
/-- the least value so far, how much stands at it, the least of another kind at it: in the order of the numbers -/
def fd (P : Nat → Bool) (v w b : Nat → Nat) : Nat → Nat × Nat × Nat
  | 0 => (1000, 0, 0)
  | N + 1 => if P N = true ∧ v N < 1000 ∧ v N ≤ (fd P v w b N).1 then (if v N < (fd P v w b N).1 then (v N, w N, min 1000 (b N)) else ((fd P v w b N).1, (fd P v w b N).2.1 + w N, min (fd P v w b N).2.2 (b N))) else fd P v w b N
theorem fd_1 (P : Nat → Bool) (v w b : Nat → Nat) (N : Nat) : (fd P v w b N).1 = mn P v N := by
  induction N with
  | zero => rfl
  | succ N ih =>
    have hf := mn_far P v N
    unfold fd mn
    rw [ih]
    by_cases h1 : P N = true
    · by_cases h2 : v N < mn P v N
      · rw [if_pos ⟨h1, by omega, by omega⟩, if_pos h2, if_pos ⟨h1, h2⟩]
      · rw [if_neg (c := P N = true ∧ v N < mn P v N) (fun q => h2 q.2)]
        split
        · rfl
        · exact ih
    · rw [if_neg (fun q => h1 q.1), if_neg (fun q => h1 q.1)]
      exact ih
/-- who stands at the least value -/
def atm (P : Nat → Bool) (v : Nat → Nat) (c t : Nat) : Bool := P t && decide (v t < 1000) && (v t == c)
theorem fd_2 (P : Nat → Bool) (v w b : Nat → Nat) (N : Nat) : (fd P v w b N).2.1 = sm (atm P v (mn P v N)) w N := by
  induction N with
  | zero => rfl
  | succ N ih =>
    have hf := mn_far P v N
    have h0 := fd_1 P v w b N
    unfold fd mn sm
    rw [h0]
    by_cases h1 : P N = true
    · by_cases h2 : v N < mn P v N
      · rw [if_pos ⟨h1, by omega, by omega⟩, if_pos h2, if_pos ⟨h1, h2⟩]
        rw [sm_zero, if_pos]
        · simp
        · simp [atm, h1]; omega
        · intro t ht
          by_cases hp : P t = true
          · have := mn_le (v := v) ht hp
            simp [atm, hp]; omega
          · simp [atm, hp]
      · rw [if_neg (c := P N = true ∧ v N < mn P v N) (fun q => h2 q.2)]
        by_cases h3 : v N < 1000 ∧ v N ≤ mn P v N
        · rw [if_pos ⟨h1, h3⟩, if_neg h2, ih, if_pos]
          simp [atm, h1, h3.1]; omega
        · rw [if_neg (fun q => h3 q.2), ih, if_neg]
          · rfl
          · simp [atm, h1]; omega
    · rw [if_neg (fun q => h1 q.1), if_neg (fun q => h1 q.1), ih, if_neg]
      · rfl
      · simp [atm, h1]
theorem fd_3 (P : Nat → Bool) (v w b : Nat → Nat) (N : Nat) (hm : mn P v N < 1000) : (fd P v w b N).2.2 = mn (atm P v (mn P v N)) b N := by
  induction N with
  | zero => exact absurd hm (by unfold mn; omega)
  | succ N ih =>
    have hf := mn_far P v N
    have h0 := fd_1 P v w b N
    unfold mn at hm
    unfold fd
    rw [h0]
    by_cases h1 : P N = true
    · by_cases h2 : v N < mn P v N
      · have e : mn P v (N + 1) = v N := by unfold mn; rw [if_pos ⟨h1, h2⟩]
        rw [if_pos ⟨h1, by omega, by omega⟩, if_pos h2, e]
        have e2 : mn (atm P v (v N)) b N = 1000 := by
          refine mn_eq (by omega) ?_ (Or.inl rfl)
          intro t ht hp
          by_cases hq : P t = true
          · have := mn_le (v := v) ht hq
            simp [atm, hq] at hp; omega
          · simp [atm, hq] at hp
        have e3 : atm P v (v N) N = true := by simp [atm, h1]; omega
        show min 1000 (b N) = mn (atm P v (v N)) b (N + 1)
        unfold mn
        rw [e2]
        by_cases h4 : b N < 1000
        · rw [if_pos ⟨e3, h4⟩]; omega
        · rw [if_neg (fun q => h4 q.2)]; omega
      · rw [if_neg (c := P N = true ∧ v N < mn P v N) (fun q => h2 q.2)] at hm
        have e : mn P v (N + 1) = mn P v N := by rw [mn_s, if_neg (fun q => h2 q.2)]
        rw [e]
        have ih := ih hm
        by_cases h3 : v N < 1000 ∧ v N ≤ mn P v N
        · have e3 : atm P v (mn P v N) N = true := by simp [atm, h1, h3.1]; omega
          rw [if_pos ⟨h1, h3⟩, if_neg h2, ih]
          show _ = mn (atm P v (mn P v N)) b (N + 1)
          rw [show mn (atm P v (mn P v N)) b (N + 1) = if atm P v (mn P v N) N = true ∧ b N < mn (atm P v (mn P v N)) b N then b N else mn (atm P v (mn P v N)) b N from rfl]
          by_cases h4 : b N < mn (atm P v (mn P v N)) b N
          · rw [if_pos ⟨e3, h4⟩]; simp only []; omega
          · rw [if_neg (fun q => h4 q.2)]; simp only []; omega
        · have e3 : ¬ atm P v (mn P v N) N = true := by simp [atm, h1]; omega
          rw [if_neg (fun q => h3 q.2), ih]
          rw [show mn (atm P v (mn P v N)) b (N + 1) = if atm P v (mn P v N) N = true ∧ b N < mn (atm P v (mn P v N)) b N then b N else mn (atm P v (mn P v N)) b N from rfl]
          rw [if_neg (fun q => e3 q.1)]
    · rw [if_neg (c := P N = true ∧ v N < mn P v N) (fun q => h1 q.1)] at hm
      have e : mn P v (N + 1) = mn P v N := by rw [mn_s, if_neg (fun q => h1 q.1)]
      rw [e, if_neg (fun q => h1 q.1), ih hm]
      have e3 : ¬ atm P v (mn P v N) N = true := by simp [atm, h1]
      rw [show mn (atm P v (mn P v N)) b (N + 1) = if atm P v (mn P v N) N = true ∧ b N < mn (atm P v (mn P v N)) b N then b N else mn (atm P v (mn P v N)) b N from rfl]
      rw [if_neg (fun q => e3 q.1)]
theorem fd_congr {P Q : Nat → Bool} {v v' w w' b b' : Nat → Nat} {N : Nat} (hp : ∀ t, t < N → P t = Q t) (hv : ∀ t, t < N → P t = true → v t = v' t ∧ w t = w' t ∧ b t = b' t) : fd P v w b N = fd Q v' w' b' N := by
  induction N with
  | zero => rfl
  | succ N ih =>
    unfold fd
    rw [ih (fun t ht => hp t (by omega)) (fun t ht => hv t (by omega)), hp N (by omega)]
    by_cases e : Q N = true
    · obtain ⟨a, c, d⟩ := hv N (by omega) ((hp N (by omega)).trans e)
      rw [a, c, d]
    · simp [e]
