/-! the fewest gaps of the orders of a set, who may begin: how the table by sets tells what is left -/
section
variable {n : Nat} {l : Nat → Nat → Nat} {b : Nat → Nat}
def gv (n : Nat) (l : Nat → Nat → Nat) (b : Nat → Nat) (S t : Nat) : Nat := (D n l b (clr S (t / 4)) t).1
def wv (n : Nat) (l : Nat → Nat → Nat) (b : Nat → Nat) (S t : Nat) : Nat := (D n l b (clr S (t / 4)) t).2.1
def cv (n : Nat) (l : Nat → Nat → Nat) (b : Nat → Nat) (S t : Nat) : Nat := (D n l b (clr S (t / 4)) t).2.2
def Gm (n : Nat) (l : Nat → Nat → Nat) (b : Nat → Nat) (S : Nat) : Nat := mn (inR S) (gv n l b S) (4 * n)
def fs (n : Nat) (l : Nat → Nat → Nat) (b : Nat → Nat) (S t : Nat) : Bool := atm (inR S) (gv n l b S) (Gm n l b S) t
def sc (n : Nat) (l : Nat → Nat → Nat) (b : Nat → Nat) (S t : Nat) : Bool := atm (inR S) (gv n l b S) (Gm n l b S + 1) t
theorem fs_iff {S t : Nat} : fs n l b S t = true ↔ inR S t = true ∧ gv n l b S t < 1000 ∧ gv n l b S t = Gm n l b S := by
  unfold fs atm; simp [and_assoc]
theorem sc_iff {S t : Nat} : sc n l b S t = true ↔ inR S t = true ∧ gv n l b S t < 1000 ∧ gv n l b S t = Gm n l b S + 1 := by
  unfold sc atm; simp [and_assoc]
theorem Dv_eq (S s t : Nat) : Dv n l b S s t = if gv n l b S t = 1000 then 1000 else gv n l b S t + gpf l s t := rfl
theorem gpf_01 (s t : Nat) : gpf l s t = 0 ∧ l s t = 0 ∨ gpf l s t = 1 ∧ l s t ≠ 0 := by
  unfold gpf
  by_cases h : l s t = 0
  · left; exact ⟨if_pos h, h⟩
  · right; exact ⟨if_neg h, h⟩
theorem D_1j {S s : Nat} (hS : S ≠ 0) (hG : Gm n l b S < 999) (hj : ∃ t, t < 4 * n ∧ fs n l b S t = true ∧ l s t = 0) : (D n l b S s).1 = Gm n l b S := by
  rw [D_s _ _ _ _ hS, fd_1]
  obtain ⟨t, h1, h2, h3⟩ := hj
  obtain ⟨h4, h5, h6⟩ := fs_iff.mp h2
  refine mn_eq (by omega) ?_ (Or.inr ⟨t, h1, h4, ?_⟩)
  · intro r hr hp
    have := mn_le (v := gv n l b S) hr hp
    rw [Dv_eq]
    split
    · omega
    · unfold Gm; omega
  · rw [Dv_eq, if_neg (by omega)]
    rcases gpf_01 (l := l) s t with ⟨g, _⟩ | ⟨_, g⟩
    · omega
    · exact absurd h3 g
theorem D_1g {S s : Nat} (hS : S ≠ 0) (hG : Gm n l b S < 999) (hj : ∀ t, t < 4 * n → fs n l b S t = true → l s t ≠ 0) : (D n l b S s).1 = Gm n l b S + 1 := by
  rw [D_s _ _ _ _ hS, fd_1]
  refine mn_eq (by omega) ?_ (Or.inr ?_)
  · intro r hr hp
    have h1 := mn_le (v := gv n l b S) hr hp
    have h1 : Gm n l b S ≤ gv n l b S r := h1
    rw [Dv_eq]
    by_cases c : gv n l b S r = 1000
    · rw [if_pos c]; omega
    · rw [if_neg c]
      by_cases c2 : gv n l b S r = Gm n l b S
      · have := hj r hr (fs_iff.mpr ⟨hp, by omega, c2⟩)
        rcases gpf_01 (l := l) s r with ⟨_, g⟩ | ⟨g, _⟩
        · exact absurd g this
        · omega
      · omega
  · obtain ⟨t, h1, h2, h3⟩ := mn_ex (P := inR S) (v := gv n l b S) (N := 4 * n) (show Gm n l b S < 1000 by omega)
    have h3 : gv n l b S t = Gm n l b S := h3
    refine ⟨t, h1, h2, ?_⟩
    have := hj t h1 (fs_iff.mpr ⟨h2, by omega, h3⟩)
    rw [Dv_eq, if_neg (by omega)]
    rcases gpf_01 (l := l) s t with ⟨_, g⟩ | ⟨g, _⟩
    · exact absurd g this
    · omega
/-- who may stand behind a stance so that there are no more gaps than must be -/
def nx (n : Nat) (l : Nat → Nat → Nat) (b : Nat → Nat) (S s t : Nat) : Bool := atm (inR S) (Dv n l b S s) (D n l b S s).1 t
theorem nx_iff {S s t : Nat} : nx n l b S s t = true ↔ inR S t = true ∧ Dv n l b S s t < 1000 ∧ Dv n l b S s t = (D n l b S s).1 := by
  unfold nx atm; simp [and_assoc]
theorem D_2 {S s : Nat} (hS : S ≠ 0) : (D n l b S s).2.1 = sm (nx n l b S s) (wv n l b S) (4 * n) := by
  have e : (D n l b S s).1 = mn (inR S) (Dv n l b S s) (4 * n) := by rw [D_s _ _ _ _ hS, fd_1]
  unfold nx
  rw [e, D_s _ _ _ _ hS, fd_2]
  rfl
theorem D_3 {S s : Nat} (hS : S ≠ 0) (h : (D n l b S s).1 < 1000) : (D n l b S s).2.2 = mn (nx n l b S s) (Db n l b S s) (4 * n) := by
  have e : (D n l b S s).1 = mn (inR S) (Dv n l b S s) (4 * n) := by rw [D_s _ _ _ _ hS, fd_1]
  unfold nx
  rw [e] at h ⊢
  rw [D_s _ _ _ _ hS, fd_3 _ _ _ _ _ h]
theorem nx_j {S s t : Nat} (hS : S ≠ 0) (hG : Gm n l b S < 999) (hj : ∃ t, t < 4 * n ∧ fs n l b S t = true ∧ l s t = 0) (ht : t < 4 * n) : nx n l b S s t = (fs n l b S t && (l s t == 0)) := by
  rw [Bool.eq_iff_iff, nx_iff, D_1j hS hG hj, Bool.and_eq_true, fs_iff, beq_iff_eq]
  constructor
  · intro ⟨h1, h2, h3⟩
    have hm := mn_le (v := gv n l b S) ht h1
    have hm : Gm n l b S ≤ gv n l b S t := hm
    rw [Dv_eq] at h2 h3
    by_cases c : gv n l b S t = 1000
    · rw [if_pos c] at h2; omega
    · rw [if_neg c] at h2 h3
      rcases gpf_01 (l := l) s t with ⟨g, g'⟩ | ⟨g, g'⟩
      · exact ⟨⟨h1, by omega, by omega⟩, g'⟩
      · omega
  · intro ⟨⟨h1, h2, h3⟩, h4⟩
    rw [Dv_eq, if_neg (by omega)]
    rcases gpf_01 (l := l) s t with ⟨g, g'⟩ | ⟨g, g'⟩
    · exact ⟨h1, by omega, by omega⟩
    · exact absurd h4 g'
theorem nx_g {S s t : Nat} (hS : S ≠ 0) (hG : Gm n l b S < 998) (hj : ∀ t, t < 4 * n → fs n l b S t = true → l s t ≠ 0) (ht : t < 4 * n) : nx n l b S s t = (fs n l b S t || (sc n l b S t && (l s t == 0))) := by
  rw [Bool.eq_iff_iff, nx_iff, D_1g hS (by omega) hj, Bool.or_eq_true, Bool.and_eq_true, sc_iff, beq_iff_eq]
  constructor
  · intro ⟨h1, h2, h3⟩
    have hm := mn_le (v := gv n l b S) ht h1
    have hm : Gm n l b S ≤ gv n l b S t := hm
    rw [Dv_eq] at h2 h3
    by_cases c : gv n l b S t = 1000
    · rw [if_pos c] at h2; omega
    · rw [if_neg c] at h2 h3
      rcases gpf_01 (l := l) s t with ⟨g, g'⟩ | ⟨g, g'⟩
      · exact Or.inr ⟨⟨h1, by omega, by omega⟩, g'⟩
      · exact Or.inl (fs_iff.mpr ⟨h1, by omega, by omega⟩)
  · intro h
    rcases h with h | ⟨⟨h1, h2, h3⟩, h4⟩
    · have h5 := hj t ht h
      obtain ⟨h1, h2, h3⟩ := fs_iff.mp h
      rw [Dv_eq, if_neg (by omega)]
      rcases gpf_01 (l := l) s t with ⟨g, g'⟩ | ⟨g, g'⟩
      · exact absurd g' h5
      · exact ⟨h1, by omega, by omega⟩
    · rw [Dv_eq, if_neg (by omega)]
      rcases gpf_01 (l := l) s t with ⟨g, g'⟩ | ⟨g, g'⟩
      · exact ⟨h1, by omega, by omega⟩
      · exact absurd h4 g'
theorem D_2j {S s : Nat} (hS : S ≠ 0) (hG : Gm n l b S < 999) (hj : ∃ t, t < 4 * n ∧ fs n l b S t = true ∧ l s t = 0) : (D n l b S s).2.1 = sm (fun t => fs n l b S t && (l s t == 0)) (wv n l b S) (4 * n) := by
  rw [D_2 hS]
  exact sm_congr (fun t ht => nx_j hS hG hj ht) (fun _ _ _ => rfl)
theorem D_2g {S s : Nat} (hS : S ≠ 0) (hG : Gm n l b S < 998) (hj : ∀ t, t < 4 * n → fs n l b S t = true → l s t ≠ 0) : (D n l b S s).2.1 = sm (fs n l b S) (wv n l b S) (4 * n) + sm (fun t => sc n l b S t && (l s t == 0)) (wv n l b S) (4 * n) := by
  rw [D_2 hS, sm_split _ (fs n l b S)]
  congr 1
  · refine sm_congr (fun t ht => ?_) (fun _ _ _ => rfl)
    rw [nx_g hS hG hj ht]
    cases fs n l b S t <;> simp
  · refine sm_congr (fun t ht => ?_) (fun _ _ _ => rfl)
    rw [nx_g hS hG hj ht]
    cases h : fs n l b S t
    · simp
    · have h1 := fs_iff.mp h
      have h2 : sc n l b S t = false := by
        cases q : sc n l b S t
        · rfl
        · have := sc_iff.mp q; omega
      rw [h2]; rfl
theorem D_3j {S s : Nat} (hS : S ≠ 0) (hG : Gm n l b S < 999) (hj : ∃ t, t < 4 * n ∧ fs n l b S t = true ∧ l s t = 0) : (D n l b S s).2.2 = mn (fun t => fs n l b S t && (l s t == 0)) (fun t => l s t + cv n l b S t) (4 * n) := by
  rw [D_3 hS (by rw [D_1j hS hG hj]; omega)]
  exact mn_congr (fun t ht => nx_j hS hG hj ht) (fun t _ _ => Nat.add_comm _ _)
theorem D_3g {S s : Nat} (hS : S ≠ 0) (hG : Gm n l b S < 998) (hl : ∀ t, l s t ≤ 2) (hj : ∀ t, t < 4 * n → fs n l b S t = true → l s t ≠ 0) : (D n l b S s).2.2 = min (2 + mn (fs n l b S) (cv n l b S) (4 * n)) (mn (fun t => (fs n l b S t && decide (l s t < 2)) || (sc n l b S t && (l s t == 0))) (fun t => l s t + cv n l b S t) (4 * n)) := by
  rw [D_3 hS (by rw [D_1g hS (by omega) hj]; omega)]
  have h1 := mn_far (fs n l b S) (cv n l b S) (4 * n)
  have h2 := mn_far (fun t => (fs n l b S t && decide (l s t < 2)) || (sc n l b S t && (l s t == 0))) (fun t => l s t + cv n l b S t) (4 * n)
  refine mn_eq (by omega) ?_ ?_
  · intro t ht hp
    rw [nx_g hS hG hj ht] at hp
    show _ ≤ cv n l b S t + l s t
    have hl := hl t
    by_cases c : fs n l b S t = true
    · by_cases c2 : l s t < 2
      · have := mn_le (P := fun t => (fs n l b S t && decide (l s t < 2)) || (sc n l b S t && (l s t == 0))) (v := fun t => l s t + cv n l b S t) ht (by simp [c, c2])
        omega
      · have := mn_le (v := cv n l b S) ht c
        omega
    · have c' : fs n l b S t = false := by simpa using c
      rw [c', Bool.false_or] at hp
      have := mn_le (P := fun t => (fs n l b S t && decide (l s t < 2)) || (sc n l b S t && (l s t == 0))) (v := fun t => l s t + cv n l b S t) ht (by simp [hp])
      omega
  · by_cases c : min (2 + mn (fs n l b S) (cv n l b S) (4 * n)) (mn (fun t => (fs n l b S t && decide (l s t < 2)) || (sc n l b S t && (l s t == 0))) (fun t => l s t + cv n l b S t) (4 * n)) = 1000
    · exact Or.inl c
    · right
      by_cases c2 : mn (fun t => (fs n l b S t && decide (l s t < 2)) || (sc n l b S t && (l s t == 0))) (fun t => l s t + cv n l b S t) (4 * n) ≤ 2 + mn (fs n l b S) (cv n l b S) (4 * n)
      · obtain ⟨t, a1, a2, a3⟩ := mn_ex (show mn (fun t => (fs n l b S t && decide (l s t < 2)) || (sc n l b S t && (l s t == 0))) (fun t => l s t + cv n l b S t) (4 * n) < 1000 by omega)
        refine ⟨t, a1, ?_, ?_⟩
        · rw [nx_g hS hG hj a1]
          simp only [Bool.or_eq_true, Bool.and_eq_true] at a2 ⊢
          rcases a2 with a2 | a2
          · exact Or.inl a2.1
          · exact Or.inr a2
        · show cv n l b S t + l s t = _
          omega
      · obtain ⟨t, a1, a2, a3⟩ := mn_ex (P := fs n l b S) (v := cv n l b S) (N := 4 * n) (by omega)
        refine ⟨t, a1, ?_, ?_⟩
        · rw [nx_g hS hG hj a1, a2]; rfl
        · show cv n l b S t + l s t = _
          have := hl t
          by_cases c3 : l s t < 2
          · have := mn_le (P := fun t => (fs n l b S t && decide (l s t < 2)) || (sc n l b S t && (l s t == 0))) (v := fun t => l s t + cv n l b S t) a1 (by simp [a2, c3])
            omega
          · omega
/-! bounds -/
theorem inR_of {S f t : Nat} (h : S.testBit f = true) (ht : t / 4 = f) : inR S t = true := by unfold inR; rw [ht]; exact h
/-- the fewest gaps are no more than the set's own number -/
theorem D_b0 (S : Nat) : ∀ (_ : S < 2 ^ n) (s : Nat), (D n l b0 S s).1 ≤ S := by
  induction S using Nat.strongRecOn with
  | ind S ih =>
    intro hS s
    by_cases e : S = 0
    · subst e; rw [D_0]; exact Nat.le_refl _
    · obtain ⟨f, hf⟩ := ne0_bit e
      have hfn := bit_lt hS hf
      have hc := clr_lt hf
      have h1 := ih (clr S f) hc (by omega) (4 * f)
      rw [D_s _ _ _ _ e, fd_1]
      have h2 := mn_le (P := inR S) (v := Dv n l b0 S s) (N := 4 * n) (t := 4 * f) (by omega) (inR_of hf (by omega))
      refine Nat.le_trans h2 ?_
      rw [Dv_eq]
      have e4 : gv n l b0 S (4 * f) = (D n l b0 (clr S f) (4 * f)).1 := by unfold gv; rw [show 4 * f / 4 = f by omega]
      rw [e4]
      rcases gpf_01 (l := l) s (4 * f) with ⟨g, _⟩ | ⟨g, _⟩ <;> rw [g] <;> split <;> omega
def be (e : Nat) : Nat → Nat := fun s => if s / 4 = e then 0 else 1000
theorem be_le (e s : Nat) : be e s ≤ 1000 := by unfold be; split <;> omega
theorem D_be1 {e : Nat} (S : Nat) : ∀ (_ : S < 2 ^ n) (_ : S ≤ 255) (_ : S.testBit e = true) (s : Nat), (D n l (be e) S s).1 ≤ S := by
  induction S using Nat.strongRecOn with
  | ind S ih =>
    intro hS h255 he s
    have hne : S ≠ 0 := by intro q; rw [q] at he; simp at he
    have hen := bit_lt hS he
    by_cases q : ∃ f, S.testBit f = true ∧ f ≠ e
    · obtain ⟨f, hf, hfe⟩ := q
      have hfn := bit_lt hS hf
      have hc := clr_lt hf
      have h1 := ih (clr S f) hc (by omega) (by omega) (by rw [clr_bit, he]; simp [hfe]) (4 * f)
      rw [D_s _ _ _ _ hne, fd_1]
      refine Nat.le_trans (mn_le (P := inR S) (v := Dv n l (be e) S s) (N := 4 * n) (t := 4 * f) (by omega) (inR_of hf (by omega))) ?_
      rw [Dv_eq]
      have e4 : gv n l (be e) S (4 * f) = (D n l (be e) (clr S f) (4 * f)).1 := by unfold gv; rw [show 4 * f / 4 = f by omega]
      rw [e4]
      rcases gpf_01 (l := l) s (4 * f) with ⟨g, _⟩ | ⟨g, _⟩ <;> rw [g] <;> split <;> omega
    · have hz : clr S e = 0 := by
        apply Nat.eq_of_testBit_eq
        intro j
        rw [clr_bit, Nat.zero_testBit]
        cases hj : S.testBit j
        · rfl
        · by_cases g : e = j
          · simp [g]
          · exact absurd ⟨j, hj, fun w => g w.symm⟩ q
      rw [D_s _ _ _ _ hne, fd_1]
      refine Nat.le_trans (mn_le (P := inR S) (v := Dv n l (be e) S s) (N := 4 * n) (t := 4 * e) (by omega) (inR_of he (by omega))) ?_
      rw [Dv_eq]
      have e4 : gv n l (be e) S (4 * e) = 0 := by
        unfold gv; rw [show 4 * e / 4 = e by omega, hz, D_0]
        show be e (4 * e) = 0
        unfold be; rw [if_pos (by omega)]
      rw [e4]
      rcases gpf_01 (l := l) s (4 * e) with ⟨g, _⟩ | ⟨g, _⟩ <;> rw [g] <;> split <;> omega
theorem D_be2 {e : Nat} (S : Nat) : ∀ (_ : S ≠ 0) (_ : S.testBit e = false) (s : Nat), (D n l (be e) S s).1 = 1000 := by
  induction S using Nat.strongRecOn with
  | ind S ih =>
    intro hne he s
    rw [D_s _ _ _ _ hne, fd_1]
    refine mn_eq (Nat.le_refl _) ?_ (Or.inl rfl)
    intro t ht hp
    have hp : S.testBit (t / 4) = true := hp
    have hc := clr_lt hp
    have : gv n l (be e) S t = 1000 := by
      unfold gv
      by_cases z : clr S (t / 4) = 0
      · rw [z, D_0]
        show be e t = 1000
        unfold be
        rw [if_neg]
        intro q; rw [q, he] at hp; cases hp
      · exact ih _ hc z (by rw [clr_bit, he]; rfl) t
    rw [Dv_eq, if_pos this]
    exact Nat.le_refl _
theorem gv_b0 {S t : Nat} (hS : S < 2 ^ n) (ht : inR S t = true) : gv n l b0 S t < S := by
  unfold gv
  have hc := clr_lt (show S.testBit (t / 4) = true from ht)
  have := D_b0 (l := l) (clr S (t / 4)) (Nat.lt_trans hc hS) t
  omega
theorem Gm_b0 {S : Nat} (hS : S < 2 ^ n) (h0 : S ≠ 0) : Gm n l b0 S < S := by
  obtain ⟨f, hf⟩ := ne0_bit h0
  have hfn := bit_lt hS hf
  have h1 := mn_le (P := inR S) (v := gv n l b0 S) (N := 4 * n) (t := 4 * f) (by omega) (inR_of hf (by omega))
  have := gv_b0 (l := l) hS (t := 4 * f) (inR_of hf (by omega))
  unfold Gm
  omega
theorem c_b0 (S : Nat) : ∀ (_ : S < 2 ^ n) (_ : S ≤ 255) (_ : ∀ s t, l s t ≤ 2) (s : Nat), (D n l b0 S s).2.2 ≤ 2 * S := by
  induction S using Nat.strongRecOn with
  | ind S ih =>
    intro hS h255 hl s
    by_cases e : S = 0
    · subst e; rw [D_0]; exact Nat.le_refl _
    · have h1 := D_b0 (l := l) S hS s
      rw [D_3 e (by omega)]
      obtain ⟨t, a1, a2, a3⟩ := mn_ex (P := inR S) (v := Dv n l b0 S s) (N := 4 * n) (by rw [← fd_1 _ _ (Dw n l b0 S) (Db n l b0 S s), ← D_s _ _ _ _ e]; omega)
      have e2 : (D n l b0 S s).1 = mn (inR S) (Dv n l b0 S s) (4 * n) := by rw [D_s _ _ _ _ e, fd_1]
      have hx : nx n l b0 S s t = true := nx_iff.mpr ⟨a2, by omega, by omega⟩
      refine Nat.le_trans (mn_le a1 hx) ?_
      show (D n l b0 (clr S (t / 4)) t).2.2 + l s t ≤ _
      have hc := clr_lt (show S.testBit (t / 4) = true from a2)
      have := ih _ hc (by omega) (by omega) hl t
      have := hl s t
      omega
/-! how many -/
def f4 : Nat → Nat
  | 0 => 1
  | k + 1 => 4 * (k + 1) * f4 k
def cnF (S : Nat) : Nat := sm (fun i => S.testBit i) (fun _ => 1) 8
theorem sm_const (P : Nat → Bool) (c : Nat) : ∀ N, sm P (fun _ => c) N = c * sm P (fun _ => 1) N
  | 0 => rfl
  | N + 1 => by
    simp only [sm]
    rw [sm_const P c N, Nat.mul_add]
    split <;> simp
theorem sm_inR (S : Nat) : ∀ n, sm (inR S) (fun _ => 1) (4 * n) = 4 * sm (fun i => S.testBit i) (fun _ => 1) n
  | 0 => rfl
  | n + 1 => by
    have e : ∀ i, i < 4 → inR S (4 * n + i) = S.testBit n := fun i hi => by unfold inR; rw [show (4 * n + i) / 4 = n by omega]
    rw [show 4 * (n + 1) = 4 * n + 4 by omega, sm_shift, sm_inR S n]
    rw [sm_congr (Q := fun _ => S.testBit n) (u := fun _ => 1) (fun i hi => e i hi) (fun _ _ _ => rfl)]
    simp only [sm]
    split <;> omega
theorem sm_upd {P : Nat → Bool} {f : Nat} (hp : P f = true) : ∀ {N : Nat}, f < N → sm (fun i => P i && !decide (f = i)) (fun _ => 1) N + 1 = sm P (fun _ => 1) N := by
  intro N
  induction N with
  | zero => intro h; omega
  | succ N ih =>
    intro h
    simp only [sm]
    by_cases e : f = N
    · subst e
      rw [hp]
      simp only [decide_true, Bool.not_true, Bool.and_false, Bool.false_eq_true, if_false, if_true]
      have : sm (fun i => P i && !decide (f = i)) (fun _ => 1) f = sm P (fun _ => 1) f := sm_congr (fun t ht => by simp [show ¬ f = t by omega]) (fun _ _ _ => rfl)
      omega
    · have := ih (by omega)
      have e2 : (P N && !decide (f = N)) = P N := by simp [e]
      rw [e2]
      omega
theorem cnF_clr {S f : Nat} (hf : S.testBit f = true) (h8 : f < 8) : cnF (clr S f) + 1 = cnF S := by
  unfold cnF
  rw [← sm_upd (P := fun i => S.testBit i) hf h8]
  congr 1
  exact sm_congr (fun t _ => clr_bit S f t) (fun _ _ _ => rfl)
theorem cnF_le (S : Nat) : cnF S ≤ 8 := sm1_le _ _
theorem sm_tail {P : Nat → Bool} {w : Nat → Nat} {N M : Nat} (h : N ≤ M) (hz : ∀ t, N ≤ t → t < M → P t = false) : sm P w M = sm P w N := by
  obtain ⟨d, e⟩ : ∃ d, M = N + d := ⟨M - N, by omega⟩
  subst e
  rw [sm_shift, sm_zero (N := d)]
  · rfl
  · intro t ht; exact hz _ (by omega) (by omega)
theorem w_b0 (S : Nat) : ∀ (_ : S < 2 ^ n) (_ : n ≤ 8) (s : Nat), (D n l b0 S s).2.1 ≤ f4 (cnF S) := by
  induction S using Nat.strongRecOn with
  | ind S ih =>
    intro hS h8 s
    by_cases e : S = 0
    · subst e; rw [D_0]; exact Nat.le_of_eq rfl
    · have h1 : (D n l b0 S s).2.1 ≤ sm (inR S) (fun _ => f4 (cnF S - 1)) (4 * n) := by
        rw [D_2 e]
        refine sm_le (fun t ht hp => ?_)
        obtain ⟨a1, -, -⟩ := nx_iff.mp hp
        have a2 : S.testBit (t / 4) = true := a1
        refine ⟨a1, ?_⟩
        have := ih _ (clr_lt a2) (Nat.lt_trans (clr_lt a2) hS) h8 t
        have := cnF_clr a2 (by have := bit_lt hS a2; omega)
        unfold wv
        rw [show cnF S - 1 = cnF (clr S (t / 4)) by omega]
        omega
      obtain ⟨f, hf⟩ := ne0_bit e
      have hc := cnF_clr hf (by have := bit_lt hS hf; omega)
      have e2 : cnF S = (cnF S - 1) + 1 := by omega
      have e3 : sm (fun i => S.testBit i) (fun _ => 1) n = cnF S := (sm_tail h8 (fun t h1 h2 => Nat.testBit_lt_two_pow (Nat.lt_of_lt_of_le hS (Nat.pow_le_pow_right (by decide) h1)))).symm
      rw [sm_const, sm_inR, e3] at h1
      rw [e2]
      show _ ≤ 4 * (cnF S - 1 + 1) * f4 (cnF S - 1)
      rw [← e2, Nat.mul_comm]
      exact h1
theorem f4_7 {k : Nat} (h : k ≤ 7) : f4 k ≤ 82575360 := by
  have : ∀ k, k ≤ 7 → f4 k ≤ 82575360 := by decide
  exact this k h
theorem wv_le {S t : Nat} (hS : S < 2 ^ n) (h8 : n ≤ 8) (ht : inR S t = true) : wv n l b0 S t ≤ 82575360 := by
  have a2 : S.testBit (t / 4) = true := ht
  have h1 := cnF_clr a2 (by have := bit_lt hS a2; omega)
  have h2 := cnF_le S
  unfold wv
  exact Nat.le_trans (w_b0 _ (Nat.lt_trans (clr_lt a2) hS) h8 t) (f4_7 (by omega))
end
