/-! pins: ways to put a set of them into columns, no two into one -/
/-- v is what some way costs; j columns, U: which are used, K pins -/
def Rc (K : Nat) (cost : Nat → Nat → Nat) (U : Nat → Bool) : Nat → Nat → Nat → Prop
  | 0, S, v => S = 0 ∧ v = 0
  | j + 1, S, v => Rc K cost U j S v ∨ (U j = false ∧ ∃ i, i < K ∧ S.testBit i = true ∧ cost i j ≤ v ∧ Rc K cost U j (clr S i) (v - cost i j))
theorem Rc_s {K : Nat} {cost : Nat → Nat → Nat} {U : Nat → Bool} {j S v : Nat} : Rc K cost U (j + 1) S v ↔ (Rc K cost U j S v ∨ (U j = false ∧ ∃ i, i < K ∧ S.testBit i = true ∧ cost i j ≤ v ∧ Rc K cost U j (clr S i) (v - cost i j))) := Iff.rfl
def Uc (U : Nat → Bool) (c : Nat) : Nat → Bool := fun j => U j || decide (j = c)
theorem Rc_congr {K : Nat} {cost : Nat → Nat → Nat} {U W : Nat → Bool} : ∀ {j S v : Nat}, (∀ i, i < j → U i = W i) → (Rc K cost U j S v ↔ Rc K cost W j S v)
  | 0, S, v, _ => Iff.rfl
  | j + 1, S, v, h => by
    rw [Rc_s, Rc_s, Rc_congr (fun i hi => h i (by omega)), h j (by omega)]
    constructor
    · intro g
      rcases g with g | ⟨g1, i, g2, g3, g4, g5⟩
      · exact Or.inl g
      · exact Or.inr ⟨g1, i, g2, g3, g4, (Rc_congr (fun i hi => h i (by omega))).mp g5⟩
    · intro g
      rcases g with g | ⟨g1, i, g2, g3, g4, g5⟩
      · exact Or.inl g
      · exact Or.inr ⟨g1, i, g2, g3, g4, (Rc_congr (fun i hi => h i (by omega))).mpr g5⟩
theorem Uc_lt (U : Nat → Bool) {c i : Nat} (h : i ≠ c) : Uc U c i = U i := by unfold Uc; simp [h]
theorem Uc_eq (U : Nat → Bool) (c : Nat) : Uc U c c = true := by unfold Uc; simp
theorem clr_comm (S i k : Nat) : clr (clr S i) k = clr (clr S k) i := by
  apply Nat.eq_of_testBit_eq
  intro j
  rw [clr_bit, clr_bit, clr_bit, clr_bit]
  cases S.testBit j <;> cases decide (i = j) <;> cases decide (k = j) <;> rfl
theorem clr_ne {S i k : Nat} (h : i ≠ k) : (clr S i).testBit k = S.testBit k := by rw [clr_bit]; simp [h]
/-- any pin may be put first -/
theorem Rc_pin {K : Nat} {cost : Nat → Nat → Nat} {k : Nat} (hk : k < K) : ∀ {J : Nat} {U : Nat → Bool} {S v : Nat}, S.testBit k = true → (Rc K cost U J S v ↔ ∃ c, c < J ∧ U c = false ∧ cost k c ≤ v ∧ Rc K cost (Uc U c) J (clr S k) (v - cost k c))
  | 0, U, S, v, hS => by
    constructor
    · intro ⟨e, _⟩
      rw [e] at hS
      simp at hS
    · intro ⟨c, h, _⟩
      omega
  | J + 1, U, S, v, hS => by
    constructor
    · intro g
      rcases Rc_s.mp g with g | ⟨g1, i, g2, g3, g4, g5⟩
      · obtain ⟨c, a1, a2, a3, a4⟩ := (Rc_pin hk hS).mp g
        exact ⟨c, by omega, a2, a3, Or.inl a4⟩
      · by_cases e : i = k
        · subst e
          refine ⟨J, by omega, g1, g4, Or.inl ?_⟩
          exact (Rc_congr (fun i hi => (Uc_lt U (by omega)).symm)).mp g5
        · obtain ⟨c, a1, a2, a3, a4⟩ := (Rc_pin (U := U) hk (show (clr S i).testBit k = true by rw [clr_ne e]; exact hS)).mp g5
          refine ⟨c, by omega, a2, by omega, Or.inr ⟨by rw [Uc_lt U (by omega)]; exact g1, i, g2, by rw [clr_ne (fun z => e z.symm)]; exact g3, by omega, ?_⟩⟩
          rw [clr_comm, show v - cost k c - cost i J = v - cost i J - cost k c by omega]
          exact a4
    · intro ⟨c, a1, a2, a3, a4⟩
      by_cases e : c = J
      · subst e
        rcases Rc_s.mp a4 with g | ⟨g1, _⟩
        · exact Or.inr ⟨a2, k, hk, hS, a3, (Rc_congr (fun i hi => Uc_lt U (by omega))).mp g⟩
        · rw [Uc_eq] at g1; cases g1
      · rcases Rc_s.mp a4 with g | ⟨g1, i, g2, g3, g4, g5⟩
        · exact Or.inl ((Rc_pin hk hS).mpr ⟨c, by omega, a2, a3, g⟩)
        · have hik : i ≠ k := by
            intro z
            rw [z, clr_bit] at g3
            simp at g3
          rw [Uc_lt U (fun z => e z.symm)] at g1
          rw [clr_ne (fun z => hik z.symm)] at g3
          refine Or.inr ⟨g1, i, g2, g3, by omega, ?_⟩
          refine (Rc_pin hk (by rw [clr_ne hik]; exact hS)).mpr ⟨c, by omega, a2, by omega, ?_⟩
          rw [clr_comm, show v - cost i J - cost k c = v - cost k c - cost i J by omega]
          exact g5
theorem Rc_0 {K : Nat} {cost : Nat → Nat → Nat} {U : Nat → Bool} : ∀ {J v : Nat}, Rc K cost U J 0 v ↔ v = 0
  | 0, v => by
    constructor
    · intro h; exact h.2
    · intro h; exact ⟨rfl, h⟩
  | J + 1, v => by
    rw [Rc_s, Rc_0]
    constructor
    · intro g
      rcases g with g | ⟨_, i, _, g, _⟩
      · exact g
      · simp at g
    · intro g; exact Or.inl g
/-- the least that holds, or none -/
def Lo (P : Nat → Prop) : Option Nat → Prop
  | none => ∀ v, ¬ P v
  | some v => P v ∧ ∀ w, P w → v ≤ w
theorem Lo_congr {P Q : Nat → Prop} (h : ∀ v, P v ↔ Q v) {o : Option Nat} (l : Lo P o) : Lo Q o := by
  cases o with
  | none => exact fun v q => l v ((h v).mpr q)
  | some v => exact ⟨(h v).mp l.1, fun w q => l.2 w ((h w).mpr q)⟩
theorem Lo_one {P : Nat → Prop} {o o' : Option Nat} (l : Lo P o) (l' : Lo P o') : o = o' := by
  cases o with
  | none =>
    cases o' with
    | none => rfl
    | some v => exact absurd l'.1 (l v)
  | some v =>
    cases o' with
    | none => exact absurd l.1 (l' v)
    | some w => have := l.2 w l'.1; have := l'.2 v l.1; congr 1; omega
def om (a : Option Nat) (b : Option Nat) (c : Nat) : Option Nat := match a, b with
  | a, none => a
  | none, some y => some (y + c)
  | some x, some y => some (min x (y + c))
theorem Lo_om {P Q : Nat → Prop} {a b : Option Nat} {c : Nat} (la : Lo P a) (lb : Lo Q b) : Lo (fun v => P v ∨ (c ≤ v ∧ Q (v - c))) (om a b c) := by
  cases b with
  | none =>
    refine Lo_congr (P := P) (fun v => ⟨Or.inl, fun g => ?_⟩) la
    rcases g with g | ⟨_, g⟩
    · exact g
    · exact absurd g (lb _)
  | some y =>
    cases a with
    | none =>
      refine ⟨Or.inr ⟨by omega, by rw [Nat.add_sub_cancel]; exact lb.1⟩, fun w g => ?_⟩
      rcases g with g | ⟨g1, g2⟩
      · exact absurd g (la w)
      · have := lb.2 _ g2; omega
    | some x =>
      refine ⟨?_, fun w g => ?_⟩
      · by_cases e : x ≤ y + c
        · rw [Nat.min_eq_left e]; exact Or.inl la.1
        · rw [Nat.min_eq_right (by omega)]; exact Or.inr ⟨by omega, by rw [Nat.add_sub_cancel]; exact lb.1⟩
      · rcases g with g | ⟨g1, g2⟩
        · have := la.2 _ g; omega
        · have := lb.2 _ g2; omega
/-- one column more, the pins below K' looked at -/
def Rp (K : Nat) (cost : Nat → Nat → Nat) (U : Nat → Bool) (j K' S v : Nat) : Prop := Rc K cost U j S v ∨ ∃ i, i < K' ∧ S.testBit i = true ∧ cost i j ≤ v ∧ Rc K cost U j (clr S i) (v - cost i j)
theorem Rp_0 {K : Nat} {cost : Nat → Nat → Nat} {U : Nat → Bool} {j S v : Nat} : Rp K cost U j 0 S v ↔ Rc K cost U j S v := by
  constructor
  · intro g
    rcases g with g | ⟨i, h, _⟩
    · exact g
    · omega
  · exact Or.inl
theorem Rp_K {K : Nat} {cost : Nat → Nat → Nat} {U : Nat → Bool} {j S v : Nat} (hU : U j = false) : Rp K cost U j K S v ↔ Rc K cost U (j + 1) S v := by
  rw [Rc_s]
  constructor
  · intro g
    rcases g with g | g
    · exact Or.inl g
    · exact Or.inr ⟨hU, g⟩
  · intro g
    rcases g with g | g
    · exact Or.inl g
    · exact Or.inr g.2
theorem Rc_u {K : Nat} {cost : Nat → Nat → Nat} {U : Nat → Bool} {j S v : Nat} (hU : U j = true) : Rc K cost U (j + 1) S v ↔ Rc K cost U j S v := by
  rw [Rc_s]
  constructor
  · intro g
    rcases g with g | g
    · exact g
    · rw [hU] at g; cases g.1
  · exact Or.inl
theorem Rp_in {K : Nat} {cost : Nat → Nat → Nat} {U : Nat → Bool} {j k S v : Nat} (h : S.testBit k = true) : Rp K cost U j (k + 1) S v ↔ (Rp K cost U j k S v ∨ (cost k j ≤ v ∧ Rc K cost U j (clr S k) (v - cost k j))) := by
  constructor
  · intro g
    rcases g with g | ⟨i, g1, g2, g3, g4⟩
    · exact Or.inl (Or.inl g)
    · by_cases e : i = k
      · subst e; exact Or.inr ⟨g3, g4⟩
      · exact Or.inl (Or.inr ⟨i, by omega, g2, g3, g4⟩)
  · intro g
    rcases g with (g | ⟨i, g1, g2, g3, g4⟩) | ⟨g1, g2⟩
    · exact Or.inl g
    · exact Or.inr ⟨i, by omega, g2, g3, g4⟩
    · exact Or.inr ⟨k, by omega, h, g1, g2⟩
theorem Rp_out {K : Nat} {cost : Nat → Nat → Nat} {U : Nat → Bool} {j k S v : Nat} (h : S.testBit k = false) : Rp K cost U j (k + 1) S v ↔ Rp K cost U j k S v := by
  constructor
  · intro g
    rcases g with g | ⟨i, g1, g2, g3, g4⟩
    · exact Or.inl g
    · have : i ≠ k := by intro z; rw [z, h] at g2; cases g2
      exact Or.inr ⟨i, by omega, g2, g3, g4⟩
  · intro g
    rcases g with g | ⟨i, g1, g2, g3, g4⟩
    · exact Or.inl g
    · exact Or.inr ⟨i, by omega, g2, g3, g4⟩
/-! the price: stretch first, then the columns by pins -/
def pr (st : Nat → Nat → Nat) (col : Nat → Nat) (i j : Nat) : Nat := st i j * 1073741824 + col j * 2 ^ (5 * (5 - i))
/-- the pins from k on -/
def fr (K k : Nat) : Nat := mns (2 ^ K - 1) (2 ^ k - 1)
theorem fr_bit (K k i : Nat) : (fr K k).testBit i = (decide (i < K) && !decide (i < k)) := by
  unfold fr
  rw [mns_bit, all_bit, all_bit]
theorem fr_clr {K k : Nat} : clr (fr K k) k = fr K (k + 1) := by
  apply Nat.eq_of_testBit_eq
  intro j
  rw [clr_bit, fr_bit, fr_bit]
  by_cases h1 : j < K <;> by_cases h2 : j < k <;> by_cases h3 : k = j <;> simp [h1, h2, h3] <;> omega
theorem fr_K (K : Nat) : fr K K = 0 := by
  apply Nat.eq_of_testBit_eq
  intro j
  rw [fr_bit, Nat.zero_testBit]
  cases decide (j < K) <;> rfl
theorem fr_0 (K : Nat) : fr K 0 = 2 ^ K - 1 := by
  apply Nat.eq_of_testBit_eq
  intro j
  rw [fr_bit, all_bit]
  simp
section
variable {K J : Nat} {st : Nat → Nat → Nat} {col : Nat → Nat}
theorem pr_1 (hK : K ≤ 6) (hc : ∀ j, j < J → col j < 32) : ∀ (d k : Nat), k + d = K → ∀ (U : Nat → Bool) (v : Nat), Rc K (pr st col) U J (fr K k) v → v % 1073741824 < 2 ^ (5 * (6 - k)) ∧ Rc K st U J (fr K k) (v / 1073741824)
  | 0, k, e, U, v, g => by
    rw [show k = K by omega, fr_K] at g ⊢
    rw [Rc_0] at g ⊢
    subst g
    exact ⟨Nat.two_pow_pos _, rfl⟩
  | d + 1, k, e, U, v, g => by
    have hb : (fr K k).testBit k = true := by rw [fr_bit]; simp; omega
    obtain ⟨c, a1, a2, a3, a4⟩ := (Rc_pin (show k < K by omega) hb).mp g
    rw [fr_clr] at a4
    obtain ⟨b1, b2⟩ := pr_1 hK hc d (k + 1) (by omega) _ _ a4
    have hcc := hc c a1
    unfold pr at a3 b1 b2
    have e6 : 5 * (6 - k) = 5 * (5 - k) + 5 := by omega
    have e7 : 5 * (6 - (k + 1)) = 5 * (5 - k) := by omega
    rw [e7] at b1
    rw [e6, Nat.pow_add]
    have hp : 2 ^ (5 * (5 - k)) ≤ 33554432 := Nat.le_trans (Nat.pow_le_pow_right (by decide) (show 5 * (5 - k) ≤ 25 by omega)) (by decide)
    have hm : col c * 2 ^ (5 * (5 - k)) ≤ 31 * 2 ^ (5 * (5 - k)) := Nat.mul_le_mul_right _ (by omega)
    generalize col c * 2 ^ (5 * (5 - k)) = X at *
    generalize 2 ^ (5 * (5 - k)) = Y at *
    have h1 : v % 1073741824 = X + (v - (st k c * 1073741824 + X)) % 1073741824 := by omega
    have h2 : v / 1073741824 = st k c + (v - (st k c * 1073741824 + X)) / 1073741824 := by omega
    refine ⟨by omega, ?_⟩
    refine (Rc_pin (show k < K by omega) hb).mpr ⟨c, a1, a2, by omega, ?_⟩
    rw [fr_clr, h2, Nat.add_sub_cancel_left]
    exact b2
theorem pr_2 (hK : K ≤ 6) (hc : ∀ j, j < J → col j < 32) : ∀ (d k : Nat), k + d = K → ∀ (U : Nat → Bool) (w : Nat), Rc K st U J (fr K k) w → ∃ v, v / 1073741824 = w ∧ Rc K (pr st col) U J (fr K k) v
  | 0, k, e, U, w, g => by
    rw [show k = K by omega, fr_K] at g ⊢
    rw [Rc_0] at g
    subst g
    exact ⟨0, rfl, Rc_0.mpr rfl⟩
  | d + 1, k, e, U, w, g => by
    have hb : (fr K k).testBit k = true := by rw [fr_bit]; simp; omega
    obtain ⟨c, a1, a2, a3, a4⟩ := (Rc_pin (show k < K by omega) hb).mp g
    rw [fr_clr] at a4
    obtain ⟨v, b1, b2⟩ := pr_2 hK hc d (k + 1) (by omega) _ _ a4
    obtain ⟨b3, -⟩ := pr_1 hK hc d (k + 1) (by omega) _ _ b2
    have hcc := hc c a1
    have e7 : 5 * (6 - (k + 1)) = 5 * (5 - k) := by omega
    rw [e7] at b3
    have hp : 2 ^ (5 * (5 - k)) ≤ 33554432 := Nat.le_trans (Nat.pow_le_pow_right (by decide) (show 5 * (5 - k) ≤ 25 by omega)) (by decide)
    have hm : col c * 2 ^ (5 * (5 - k)) ≤ 31 * 2 ^ (5 * (5 - k)) := Nat.mul_le_mul_right _ (by omega)
    refine ⟨pr st col k c + v, ?_, ?_⟩
    · unfold pr
      generalize col c * 2 ^ (5 * (5 - k)) = X at *
      generalize 2 ^ (5 * (5 - k)) = Y at *
      omega
    · refine (Rc_pin (show k < K by omega) hb).mpr ⟨c, a1, a2, by omega, ?_⟩
      rw [fr_clr, Nat.add_sub_cancel_left]
      exact b2
/-- the cheapest way tells the pin's column: the first that leaves no more stretch than must be -/
theorem pr_3 (hK : K ≤ 6) (hc : ∀ j, j < J → col j < 32) (hm : ∀ i j, i < j → j < J → col i < col j) {k : Nat} (hk : k < K) {U : Nat → Bool} {v : Nat} (lv : Lo (Rc K (pr st col) U J (fr K k)) (some v)) :
    Lo (Rc K st U J (fr K k)) (some (v / 1073741824)) ∧ ∃ c, c < J ∧ U c = false ∧ st k c ≤ v / 1073741824 ∧ Rc K st (Uc U c) J (fr K (k + 1)) (v / 1073741824 - st k c) ∧ (∀ j, j < c → U j = false → st k j ≤ v / 1073741824 → ¬ Rc K st (Uc U j) J (fr K (k + 1)) (v / 1073741824 - st k j)) ∧
      v / 2 ^ (5 * (5 - k)) % 32 = col c ∧ pr st col k c ≤ v ∧ Lo (Rc K (pr st col) (Uc U c) J (fr K (k + 1))) (some (v - pr st col k c)) ∧ (v - pr st col k c) / 1073741824 = v / 1073741824 - st k c := by
  obtain ⟨l1, l2⟩ := lv
  have hb : (fr K k).testBit k = true := by rw [fr_bit]; simp; omega
  have one := fun U v => pr_1 (st := st) hK hc (K - k) k (by omega) U v
  have two := fun U w => pr_2 (st := st) hK hc (K - k) k (by omega) U w
  have one' := fun U v => pr_1 (st := st) hK hc (K - (k + 1)) (k + 1) (by omega) U v
  have two' := fun U w => pr_2 (st := st) hK hc (K - (k + 1)) (k + 1) (by omega) U w
  have e7 : 5 * (6 - (k + 1)) = 5 * (5 - k) := by omega
  rw [e7] at one'
  have hp : 2 ^ (5 * (5 - k)) ≤ 33554432 := Nat.le_trans (Nat.pow_le_pow_right (by decide) (show 5 * (5 - k) ≤ 25 by omega)) (by decide)
  have hp0 : 0 < 2 ^ (5 * (5 - k)) := Nat.two_pow_pos _
  refine ⟨⟨(one U v l1).2, ?_⟩, ?_⟩
  · intro w hw
    obtain ⟨v2, a1, a2⟩ := two U w hw
    have := l2 v2 a2
    omega
  · obtain ⟨c, a1, a2, a3, a4⟩ := (Rc_pin hk hb).mp l1
    rw [fr_clr] at a4
    obtain ⟨b1, b2⟩ := one' _ _ a4
    have hcc := hc c a1
    have hmul : col c * 2 ^ (5 * (5 - k)) ≤ 31 * 2 ^ (5 * (5 - k)) := Nat.mul_le_mul_right _ (by omega)
    have hv : v / 1073741824 = st k c + (v - pr st col k c) / 1073741824 ∧ v = v / 1073741824 * 1073741824 + (col c * 2 ^ (5 * (5 - k)) + (v - pr st col k c) % 1073741824) := by
      unfold pr at a3 b1 ⊢
      generalize col c * 2 ^ (5 * (5 - k)) = X at *
      generalize 2 ^ (5 * (5 - k)) = Y at *
      omega
    obtain ⟨hv1, hv2⟩ := hv
    refine ⟨c, a1, a2, by omega, ?_, ?_, ?_, a3, ⟨a4, ?_⟩, by omega⟩
    · rw [hv1, Nat.add_sub_cancel_left]; exact b2
    · intro j hj hU hst hR
      obtain ⟨v', d1, d2⟩ := two' _ _ hR
      obtain ⟨d3, -⟩ := one' _ _ d2
      have hr : Rc K (pr st col) U J (fr K k) (pr st col k j + v') := by
        refine (Rc_pin hk hb).mpr ⟨j, by omega, hU, by omega, ?_⟩
        rw [fr_clr, Nat.add_sub_cancel_left]
        exact d2
      have hl := l2 _ hr
      have hcj := hm j c hj a1
      have hmj : col j * 2 ^ (5 * (5 - k)) + 2 ^ (5 * (5 - k)) ≤ col c * 2 ^ (5 * (5 - k)) := by
        rw [← Nat.succ_mul]; exact Nat.mul_le_mul_right _ hcj
      have hpj : pr st col k j = st k j * 1073741824 + col j * 2 ^ (5 * (5 - k)) := rfl
      rw [hpj] at hl
      generalize col j * 2 ^ (5 * (5 - k)) = X at *
      generalize col c * 2 ^ (5 * (5 - k)) = X' at *
      generalize 2 ^ (5 * (5 - k)) = Y at *
      generalize (v - pr st col k c) % 1073741824 = z at *
      omega
    · have e30 : (1073741824 : Nat) = 2 ^ (5 * (5 - k)) * (32 * 2 ^ (5 * k)) := by
        have : (32 : Nat) = 2 ^ 5 := rfl
        rw [this, ← Nat.pow_add, ← Nat.pow_add, show 5 * (5 - k) + (5 + 5 * k) = 30 by omega]
      have hz : (v - pr st col k c) % 1073741824 < 2 ^ (5 * (5 - k)) := b1
      rw [hv2]
      generalize (v - pr st col k c) % 1073741824 = z at *
      generalize v / 1073741824 = w at *
      have : w * 1073741824 + (col c * 2 ^ (5 * (5 - k)) + z) = z + 2 ^ (5 * (5 - k)) * (32 * (w * 2 ^ (5 * k)) + col c) := by
        rw [e30, Nat.mul_add, Nat.mul_comm (col c), ← Nat.mul_assoc w, Nat.mul_comm w, Nat.mul_assoc (2 ^ (5 * (5 - k))), Nat.mul_left_comm w, Nat.add_comm z]
        simp only [Nat.add_assoc]
      rw [this, Nat.add_mul_div_left _ _ hp0, Nat.div_eq_of_lt hz]
      omega
    · intro w hw
      have hr : Rc K (pr st col) U J (fr K k) (pr st col k c + w) := by
        refine (Rc_pin hk hb).mpr ⟨c, a1, a2, by omega, ?_⟩
        rw [fr_clr, Nat.add_sub_cancel_left]
        exact hw
      have := l2 _ hr
      omega
end
