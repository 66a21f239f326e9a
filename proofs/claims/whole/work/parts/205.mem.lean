/-! forward rules, memory -/
theorem wp_bind {α β : Type} {o : Option α} {f : α → Option β} {C : β → Prop} (h : wpO o (fun a => wpO (f a) C)) : wpO (o.bind f) C := by
  obtain ⟨a, e, b, e2, c⟩ := h
  exact ⟨b, by rw [e]; exact e2, c⟩
theorem wp_bd2 {α β γ : Type} {o : Option (α × β)} {f : α → β → Option γ} {C : γ → Prop} (h : wpO o (fun p => wpO (f p.1 p.2) C)) : wpO (bd2 o f) C := wp_bind h
theorem wp_some {α : Type} {x : α} {C : α → Prop} (h : C x) : wpO (some x) C := ⟨x, rfl, h⟩
theorem wp_eq {α : Type} {o : Option α} {x : α} {C : α → Prop} (e : o = some x) (h : C x) : wpO o C := ⟨x, e, h⟩
theorem wp_mono {α : Type} {o : Option α} {C D : α → Prop} (h : wpO o C) (hd : ∀ a, C a → D a) : wpO o D := by
  obtain ⟨a, e, c⟩ := h
  exact ⟨a, e, hd a c⟩
theorem wp_ite {α : Type} {c : Prop} [Decidable c] {X Y : Option α} {C : α → Prop} (h1 : c → wpO X C) (h2 : ¬ c → wpO Y C) : wpO (if c then X else Y) C := by
  by_cases h : c
  · rw [if_pos h]; exact h1 h
  · rw [if_neg h]; exact h2 h
/-- a loop, by what holds at its k-th turn -/
theorem wp_iter {σ ρ : Type} {body : σ → Option (σ ⊕ ρ)} {C : ρ → Prop} (P : Nat → σ → Prop) (N : Nat) {F : Nat} {s : σ} (hF : N < F) (h0 : P 0 s)
    (hb : ∀ k s, k ≤ N → P k s → wpO (body s) (fun o => match o with | .inl s' => k < N ∧ P (k + 1) s' | .inr r => C r)) : wpO (iter body F s) C := by
  have key : ∀ (F k : Nat) (s : σ), k ≤ N → N - k < F → P k s → wpO (iter body F s) C := by
    intro F
    induction F with
    | zero => intro k s _ h; omega
    | succ F ih =>
      intro k s hk hF hP
      obtain ⟨o, e, q⟩ := hb k s hk hP
      unfold iter
      cases o with
      | inl s' =>
        obtain ⟨q1, q2⟩ := q
        obtain ⟨r, e2, c⟩ := ih (k + 1) s' q1 (by omega) q2
        exact ⟨r, by rw [e]; exact e2, c⟩
      | inr r => exact ⟨r, by rw [e]; rfl, q⟩
  exact key F 0 s (Nat.zero_le _) (by omega) h0
theorem bind_some' {α β : Type} (a : α) (f : α → Option β) : (some a).bind f = f a := rfl
theorem nmI_eq {α : Type} (x : Int32) (f : Int32 → α) : nmI x f = f x := rfl
theorem nmJ_eq {α : Type} (x : Int64) (f : Int64 → α) : nmJ x f = f x := rfl
theorem bd2_some {α β γ : Type} (a : α) (b : β) (f : α → β → Option γ) : bd2 (some (a, b)) f = f a b := rfl
theorem gI_ok {h : HP} {ci a : Nat} (e : okO h ci a = true) (k : Nat) : gI h ci (some a) k = some (h.I a k) := by simp [gI, e]
theorem gJ_ok {h : HP} {ci a : Nat} (e : okO h ci a = true) (k : Nat) : gJ h ci (some a) k = some (h.J a k) := by simp [gJ, e]
theorem gR_ok {h : HP} {ci a : Nat} (e : okO h ci a = true) (k : Nat) : gR h ci (some a) k = some (h.R a k) := by simp [gR, e]
theorem pI_ok {h : HP} {ci a : Nat} (e : okO h ci a = true) (k : Nat) (v : Int32) : pI h ci (some a) k v = some (h.setI a k v) := by simp [pI, e]
theorem pZ_ok {h : HP} {ci a : Nat} (e : okO h ci a = true) (k : Nat) {v : Int32} (hv : v = 0 ∨ v = 1) : pZ h ci (some a) k v = some (h.setI a k v) := by
  rcases hv with rfl | rfl <;> simp [pZ, e]
theorem pJ_ok {h : HP} {ci a : Nat} (e : okO h ci a = true) (k : Nat) (v : Int64) : pJ h ci (some a) k v = some (h.setJ a k v) := by simp [pJ, e]
theorem pR_ok {h : HP} {ci a : Nat} (e : okO h ci a = true) (k : Nat) (v : Option Nat) : pR h ci (some a) k v = some (h.setR a k v) := by simp [pR, e]
theorem dO_ok {h : HP} {ci a : Nat} (e : okO h ci a = true) : dO h ci (some a) = some a := by simp [dO, e]
theorem okA_ii {h : HP} {kd a k : Nat} (e : okO h kd a = true) (hk : k < h.N a) (hb : k < 2147483648) : okA h kd a (ii k) = true := by
  unfold okA
  simp only [e, ii_toN hb, ii_ge0 hb, decide_eq_true hk, decide_true, Bool.and_self]
theorem aI_ok {h : HP} {kd a k : Nat} (e : okO h kd a = true) (hk : k < h.N a) (hb : k < 2147483648) : aI h kd (some a) (ii k) = some (h.I a k) := by simp [aI, okA_ii e hk hb, ii_toN hb]
theorem aJ_ok {h : HP} {a k : Nat} (e : okO h 14 a = true) (hk : k < h.N a) (hb : k < 2147483648) : aJ h (some a) (ii k) = some (h.J a k) := by simp [aJ, okA_ii e hk hb, ii_toN hb]
theorem aR_ok {h : HP} {a k : Nat} (e : okO h 15 a = true) (hk : k < h.N a) (hb : k < 2147483648) : aR h (some a) (ii k) = some (h.R a k) := by simp [aR, okA_ii e hk hb, ii_toN hb]
theorem sI_ok {h : HP} {a k : Nat} (e : okO h 13 a = true) (hk : k < h.N a) (hb : k < 2147483648) (v : Int32) : sI h (some a) (ii k) v = some (h.setI a k v) := by simp [sI, okA_ii e hk hb, ii_toN hb]
theorem sB_ok {h : HP} {a k : Nat} (e : okO h 12 a = true) (hk : k < h.N a) (hb : k < 2147483648) (v : Int32) : sB h (some a) (ii k) v = some (h.setI a k (vp_nar .byte v)) := by simp [sB, okA_ii e hk hb, ii_toN hb]
theorem sJ_ok {h : HP} {a k : Nat} (e : okO h 14 a = true) (hk : k < h.N a) (hb : k < 2147483648) (v : Int64) : sJ h (some a) (ii k) v = some (h.setJ a k v) := by simp [sJ, okA_ii e hk hb, ii_toN hb]
theorem setI_eq (h : HP) (a k : Nat) (v : Int32) : (h.setI a k v).I a k = v := by simp [HP.setI_I, va_up]
theorem setI_cell (h : HP) {a b : Nat} (k : Nat) (v : Int32) (hn : b ≠ a) : (h.setI a k v).I b = h.I b := by simp [HP.setI_I, va_up, hn]
theorem setI_slot (h : HP) (a : Nat) {k j : Nat} (v : Int32) (hn : j ≠ k) : (h.setI a k v).I a j = h.I a j := by simp [HP.setI_I, va_up, hn]
theorem setI_same (h : HP) (a k j : Nat) (v : Int32) : (h.setI a k v).I a j = if j = k then v else h.I a j := by simp [HP.setI_I, va_up]
theorem setJ_eq (h : HP) (a k : Nat) (v : Int64) : (h.setJ a k v).J a k = v := by simp [HP.setJ_J, va_up]
theorem setJ_cell (h : HP) {a b : Nat} (k : Nat) (v : Int64) (hn : b ≠ a) : (h.setJ a k v).J b = h.J b := by simp [HP.setJ_J, va_up, hn]
theorem setJ_slot (h : HP) (a : Nat) {k j : Nat} (v : Int64) (hn : j ≠ k) : (h.setJ a k v).J a j = h.J a j := by simp [HP.setJ_J, va_up, hn]
theorem setJ_same (h : HP) (a k j : Nat) (v : Int64) : (h.setJ a k v).J a j = if j = k then v else h.J a j := by simp [HP.setJ_J, va_up]
/-- the same but for some cells' numbers -/
def Same (S : List Nat) (h h' : HP) : Prop := h'.n = h.n ∧ h'.K = h.K ∧ h'.N = h.N ∧ h'.R = h.R ∧ (∀ a, a ∉ S → h'.I a = h.I a) ∧ ∀ a, a ∉ S → h'.J a = h.J a
theorem Same.refl (S : List Nat) (h : HP) : Same S h h := ⟨rfl, rfl, rfl, rfl, fun _ _ => rfl, fun _ _ => rfl⟩
theorem Same.trans {S : List Nat} {h h1 h2 : HP} (q : Same S h h1) (r : Same S h1 h2) : Same S h h2 :=
  ⟨r.1.trans q.1, r.2.1.trans q.2.1, r.2.2.1.trans q.2.2.1, r.2.2.2.1.trans q.2.2.2.1, fun a ha => (r.2.2.2.2.1 a ha).trans (q.2.2.2.2.1 a ha), fun a ha => (r.2.2.2.2.2 a ha).trans (q.2.2.2.2.2 a ha)⟩
theorem Same.mono {S S' : List Nat} {h h1 : HP} (q : Same S h h1) (hs : ∀ a, a ∈ S → a ∈ S') : Same S' h h1 :=
  ⟨q.1, q.2.1, q.2.2.1, q.2.2.2.1, fun a ha => q.2.2.2.2.1 a (fun z => ha (hs a z)), fun a ha => q.2.2.2.2.2 a (fun z => ha (hs a z))⟩
theorem Same.setI {S : List Nat} {h h1 : HP} (q : Same S h h1) {a : Nat} (k : Nat) (v : Int32) (ha : a ∈ S) : Same S h (h1.setI a k v) :=
  ⟨q.1, q.2.1, q.2.2.1, q.2.2.2.1, fun b hb => by rw [setI_cell h1 k v (show b ≠ a from fun e => hb (by rw [e]; exact ha))]; exact q.2.2.2.2.1 b hb, q.2.2.2.2.2⟩
theorem Same.setJ {S : List Nat} {h h1 : HP} (q : Same S h h1) {a : Nat} (k : Nat) (v : Int64) (ha : a ∈ S) : Same S h (h1.setJ a k v) :=
  ⟨q.1, q.2.1, q.2.2.1, q.2.2.2.1, q.2.2.2.2.1, fun b hb => by rw [setJ_cell h1 k v (show b ≠ a from fun e => hb (by rw [e]; exact ha))]; exact q.2.2.2.2.2 b hb⟩
theorem Same.I {S : List Nat} {h h1 : HP} (q : Same S h h1) {a : Nat} (ha : a ∉ S) : h1.I a = h.I a := q.2.2.2.2.1 a ha
theorem Same.J {S : List Nat} {h h1 : HP} (q : Same S h h1) {a : Nat} (ha : a ∉ S) : h1.J a = h.J a := q.2.2.2.2.2 a ha
theorem Same.R {S : List Nat} {h h1 : HP} (q : Same S h h1) : h1.R = h.R := q.2.2.2.1
def ktL : List Nat := [10, 13, 8, 12, 4, 1, 13, 13, 13, 13, 13, 3, 13, 13, 13, 14, 13, 3, 13, 13, 13, 13, 4, 1, 13, 13, 13, 13, 13, 3, 13, 13, 13, 14, 13, 3, 13, 13, 13, 13, 7, 13, 7, 13, 5, 15, 7, 13, 7, 13, 7, 13, 7, 13, 7, 13, 7, 13, 7, 13, 7, 13, 2, 13, 13, 13, 13, 9, 13, 13, 13, 13, 13, 13, 13, 13, 6, 13, 14, 14, 7, 13, 2, 13, 13, 13, 13, 9, 13, 13, 13, 13, 13, 13, 13, 13, 6, 13, 14, 14, 0, 13, 1, 13, 13, 13, 13, 13, 11, 13, 13, 13, 13, 13, 13, 14, 13, 13, 14, 13, 13, 13, 13, 13, 13, 13, 13, 13, 13, 13, 13, 13, 13, 13, 13, 13, 14]
def ntL : List Nat := [15, 8192, 5, 400, 7, 12, 48, 8, 18, 24, 64, 3, 256, 256, 256, 256, 256, 3, 256, 256, 256, 8192, 7, 12, 48, 8, 18, 24, 64, 3, 256, 256, 256, 256, 256, 3, 256, 256, 256, 8192, 2, 8, 2, 8, 3, 8, 2, 8, 2, 8, 2, 8, 2, 8, 2, 8, 2, 8, 2, 8, 2, 8, 7, 24, 24, 24, 8, 10, 12, 12, 12, 12, 12, 12, 12, 24, 4, 6, 6, 64, 2, 8, 7, 24, 24, 24, 8, 10, 12, 12, 12, 12, 12, 12, 12, 24, 4, 6, 6, 64, 1, 4, 12, 48, 8, 18, 24, 64, 41, 106, 128, 106, 400, 106, 8192, 8192, 8192, 8192, 8192, 8, 8, 16, 32, 32, 32, 8, 12, 12, 12, 12, 12, 12, 12, 6, 64, 4, 1]
def rtL : List (Nat × Nat × Nat) := [(2, 2, 3), (5, 7, 6), (5, 8, 7), (5, 9, 8), (5, 10, 9), (5, 11, 10), (11, 0, 12), (11, 1, 13), (11, 2, 14), (17, 0, 18), (17, 1, 19), (17, 2, 20), (4, 1, 11), (4, 2, 15), (4, 3, 16), (4, 4, 17), (4, 5, 21), (4, 6, 1), (23, 7, 24), (23, 8, 25), (23, 9, 26), (23, 10, 27), (23, 11, 28), (29, 0, 30), (29, 1, 31), (29, 2, 32), (35, 0, 36), (35, 1, 37), (35, 2, 38), (22, 1, 29), (22, 2, 33), (22, 3, 34), (22, 4, 35), (22, 5, 39), (22, 6, 1), (40, 1, 41), (42, 1, 43), (44, 2, 45), (46, 1, 47), (45, 0, 46), (48, 1, 49), (45, 1, 48), (50, 1, 51), (45, 2, 50), (52, 1, 53), (45, 3, 52), (54, 1, 55), (45, 4, 54), (56, 1, 57), (45, 5, 56), (58, 1, 59), (45, 6, 58), (60, 1, 61), (45, 7, 60), (62, 3, 63), (62, 4, 64), (62, 5, 65), (62, 6, 66), (67, 1, 68), (67, 2, 69), (67, 3, 70), (67, 4, 71), (67, 5, 72), (67, 6, 73), (67, 7, 74), (67, 8, 75), (67, 9, 76), (76, 1, 77), (76, 2, 78), (76, 3, 79), (80, 1, 81), (82, 3, 83), (82, 4, 84), (82, 5, 85), (82, 6, 86), (87, 1, 88), (87, 2, 89), (87, 3, 90), (87, 4, 91), (87, 5, 92), (87, 6, 93), (87, 7, 94), (87, 8, 95), (87, 9, 96), (96, 1, 97), (96, 2, 98), (96, 3, 99), (100, 0, 101), (102, 7, 103), (102, 8, 104), (102, 9, 105), (102, 10, 106), (102, 11, 107), (0, 0, 2), (0, 1, 4), (0, 2, 22), (0, 3, 40), (0, 4, 42), (0, 5, 44), (0, 6, 62), (0, 7, 67), (0, 8, 80), (0, 9, 82), (0, 10, 87), (0, 11, 100), (108, 1, 109), (108, 2, 110), (108, 4, 111), (108, 6, 112), (108, 11, 113), (108, 12, 114), (108, 13, 115), (108, 14, 116), (108, 15, 117), (108, 16, 118), (108, 20, 119), (108, 21, 120), (108, 22, 121), (108, 23, 122), (108, 24, 123), (108, 25, 124), (108, 26, 125), (108, 28, 126), (108, 29, 127), (108, 30, 128), (108, 31, 129), (108, 32, 130), (108, 33, 131), (108, 34, 132), (108, 37, 133), (108, 39, 134), (108, 40, 135)]
/-- the cells of a run, behind the start -/
def Lay (h : HP) : Prop := h.n = 137 ∧ (∀ a, a < 137 → h.K a = ktL.getD a 0 ∧ h.N a = ntL.getD a 0) ∧ ∀ q ∈ rtL, h.R q.1 q.2.1 = some q.2.2
theorem Lay.o {h : HP} (L : Lay h) {a ci : Nat} (e : (decide (a < 137) && (ktL.getD a 0 == ci)) = true) : okO h ci a = true := by
  rw [Bool.and_eq_true, decide_eq_true_iff, beq_iff_eq] at e
  unfold okO
  rw [(L.2.1 a e.1).1, L.1, e.2]
  simp [e.1]
theorem Lay.n {h : HP} (L : Lay h) {a k : Nat} (e : (decide (a < 137) && (ntL.getD a 0 == k)) = true) : h.N a = k := by
  rw [Bool.and_eq_true, decide_eq_true_iff, beq_iff_eq] at e
  rw [(L.2.1 a e.1).2, e.2]
theorem Lay.r {h : HP} (L : Lay h) {a k b : Nat} (e : rtL.contains (a, k, b) = true) : h.R a k = some b := L.2.2 (a, k, b) (List.contains_iff_mem.mp e)
theorem Lay.sI {h : HP} (L : Lay h) (a k : Nat) (v : Int32) : Lay (h.setI a k v) := L
theorem Lay.sJ {h : HP} (L : Lay h) (a k : Nat) (v : Int64) : Lay (h.setJ a k v) := L
theorem Lay.of {S : List Nat} {h h1 : HP} (L : Lay h) (q : Same S h h1) : Lay h1 := by
  obtain ⟨q1, q2, q3, q4, -⟩ := q
  unfold Lay
  rw [q1, q2, q3, q4]
  exact L
theorem o_0 {h : HP} (L : Lay h) {a : Nat} (ha : (a = 100)) : okO h 0 a = true := by
  subst ha; exact L.o rfl
theorem gI_0 {h : HP} (L : Lay h) {a : Nat} (ha : (a = 100)) (k : Nat) : gI h 0 (some a) k = some (h.I a k) := gI_ok (o_0 L ha) k
theorem pI_0 {h : HP} (L : Lay h) {a : Nat} (ha : (a = 100)) (k : Nat) (v : Int32) : pI h 0 (some a) k v = some (h.setI a k v) := pI_ok (o_0 L ha) k v
theorem dO_0 {h : HP} (L : Lay h) {a : Nat} (ha : (a = 100)) : dO h 0 (some a) = some a := dO_ok (o_0 L ha)
theorem o_1 {h : HP} (L : Lay h) {a : Nat} (ha : (a = 5 ∨ a = 23 ∨ a = 102)) : okO h 1 a = true := by
  rcases ha with rfl | rfl | rfl <;> exact L.o rfl
theorem gI_1 {h : HP} (L : Lay h) {a : Nat} (ha : (a = 5 ∨ a = 23 ∨ a = 102)) (k : Nat) : gI h 1 (some a) k = some (h.I a k) := gI_ok (o_1 L ha) k
theorem pI_1 {h : HP} (L : Lay h) {a : Nat} (ha : (a = 5 ∨ a = 23 ∨ a = 102)) (k : Nat) (v : Int32) : pI h 1 (some a) k v = some (h.setI a k v) := pI_ok (o_1 L ha) k v
theorem dO_1 {h : HP} (L : Lay h) {a : Nat} (ha : (a = 5 ∨ a = 23 ∨ a = 102)) : dO h 1 (some a) = some a := dO_ok (o_1 L ha)
theorem gR_1_7 {h : HP} (L : Lay h) {a : Nat} (ha : (a = 5 ∨ a = 23 ∨ a = 102)) : gR h 1 (some a) 7 = some (some (a + 1)) := by
  rw [gR_ok (o_1 L ha)]
  rcases ha with rfl | rfl | rfl <;> exact congrArg some (L.r rfl)
theorem oA_1_7 {h : HP} (L : Lay h) {a : Nat} (ha : (a = 5 ∨ a = 23 ∨ a = 102)) : okO h 13 (a + 1) = true ∧ h.N (a + 1) = 48 := by
  rcases ha with rfl | rfl | rfl <;> exact ⟨L.o rfl, L.n rfl⟩
theorem aI_1_7 {h : HP} (L : Lay h) {a : Nat} (ha : (a = 5 ∨ a = 23 ∨ a = 102)) {k : Nat} (hk : k < 48) : aI h 13 (some (a + 1)) (ii k) = some (h.I (a + 1) k) := aI_ok (oA_1_7 L ha).1 (by rw [(oA_1_7 L ha).2]; exact hk) (by omega)
theorem sI_1_7 {h : HP} (L : Lay h) {a : Nat} (ha : (a = 5 ∨ a = 23 ∨ a = 102)) {k : Nat} (hk : k < 48) (v : Int32) : sI h (some (a + 1)) (ii k) v = some (h.setI (a + 1) k v) := sI_ok (oA_1_7 L ha).1 (by rw [(oA_1_7 L ha).2]; exact hk) (by omega) v
theorem gR_1_8 {h : HP} (L : Lay h) {a : Nat} (ha : (a = 5 ∨ a = 23 ∨ a = 102)) : gR h 1 (some a) 8 = some (some (a + 2)) := by
  rw [gR_ok (o_1 L ha)]
  rcases ha with rfl | rfl | rfl <;> exact congrArg some (L.r rfl)
theorem oA_1_8 {h : HP} (L : Lay h) {a : Nat} (ha : (a = 5 ∨ a = 23 ∨ a = 102)) : okO h 13 (a + 2) = true ∧ h.N (a + 2) = 8 := by
  rcases ha with rfl | rfl | rfl <;> exact ⟨L.o rfl, L.n rfl⟩
theorem aI_1_8 {h : HP} (L : Lay h) {a : Nat} (ha : (a = 5 ∨ a = 23 ∨ a = 102)) {k : Nat} (hk : k < 8) : aI h 13 (some (a + 2)) (ii k) = some (h.I (a + 2) k) := aI_ok (oA_1_8 L ha).1 (by rw [(oA_1_8 L ha).2]; exact hk) (by omega)
theorem sI_1_8 {h : HP} (L : Lay h) {a : Nat} (ha : (a = 5 ∨ a = 23 ∨ a = 102)) {k : Nat} (hk : k < 8) (v : Int32) : sI h (some (a + 2)) (ii k) v = some (h.setI (a + 2) k v) := sI_ok (oA_1_8 L ha).1 (by rw [(oA_1_8 L ha).2]; exact hk) (by omega) v
theorem gR_1_9 {h : HP} (L : Lay h) {a : Nat} (ha : (a = 5 ∨ a = 23 ∨ a = 102)) : gR h 1 (some a) 9 = some (some (a + 3)) := by
  rw [gR_ok (o_1 L ha)]
  rcases ha with rfl | rfl | rfl <;> exact congrArg some (L.r rfl)
theorem oA_1_9 {h : HP} (L : Lay h) {a : Nat} (ha : (a = 5 ∨ a = 23 ∨ a = 102)) : okO h 13 (a + 3) = true ∧ h.N (a + 3) = 18 := by
  rcases ha with rfl | rfl | rfl <;> exact ⟨L.o rfl, L.n rfl⟩
theorem aI_1_9 {h : HP} (L : Lay h) {a : Nat} (ha : (a = 5 ∨ a = 23 ∨ a = 102)) {k : Nat} (hk : k < 18) : aI h 13 (some (a + 3)) (ii k) = some (h.I (a + 3) k) := aI_ok (oA_1_9 L ha).1 (by rw [(oA_1_9 L ha).2]; exact hk) (by omega)
theorem sI_1_9 {h : HP} (L : Lay h) {a : Nat} (ha : (a = 5 ∨ a = 23 ∨ a = 102)) {k : Nat} (hk : k < 18) (v : Int32) : sI h (some (a + 3)) (ii k) v = some (h.setI (a + 3) k v) := sI_ok (oA_1_9 L ha).1 (by rw [(oA_1_9 L ha).2]; exact hk) (by omega) v
theorem gR_1_10 {h : HP} (L : Lay h) {a : Nat} (ha : (a = 5 ∨ a = 23 ∨ a = 102)) : gR h 1 (some a) 10 = some (some (a + 4)) := by
  rw [gR_ok (o_1 L ha)]
  rcases ha with rfl | rfl | rfl <;> exact congrArg some (L.r rfl)
theorem oA_1_10 {h : HP} (L : Lay h) {a : Nat} (ha : (a = 5 ∨ a = 23 ∨ a = 102)) : okO h 13 (a + 4) = true ∧ h.N (a + 4) = 24 := by
  rcases ha with rfl | rfl | rfl <;> exact ⟨L.o rfl, L.n rfl⟩
theorem aI_1_10 {h : HP} (L : Lay h) {a : Nat} (ha : (a = 5 ∨ a = 23 ∨ a = 102)) {k : Nat} (hk : k < 24) : aI h 13 (some (a + 4)) (ii k) = some (h.I (a + 4) k) := aI_ok (oA_1_10 L ha).1 (by rw [(oA_1_10 L ha).2]; exact hk) (by omega)
theorem sI_1_10 {h : HP} (L : Lay h) {a : Nat} (ha : (a = 5 ∨ a = 23 ∨ a = 102)) {k : Nat} (hk : k < 24) (v : Int32) : sI h (some (a + 4)) (ii k) v = some (h.setI (a + 4) k v) := sI_ok (oA_1_10 L ha).1 (by rw [(oA_1_10 L ha).2]; exact hk) (by omega) v
theorem gR_1_11 {h : HP} (L : Lay h) {a : Nat} (ha : (a = 5 ∨ a = 23 ∨ a = 102)) : gR h 1 (some a) 11 = some (some (a + 5)) := by
  rw [gR_ok (o_1 L ha)]
  rcases ha with rfl | rfl | rfl <;> exact congrArg some (L.r rfl)
theorem oA_1_11 {h : HP} (L : Lay h) {a : Nat} (ha : (a = 5 ∨ a = 23 ∨ a = 102)) : okO h 13 (a + 5) = true ∧ h.N (a + 5) = 64 := by
  rcases ha with rfl | rfl | rfl <;> exact ⟨L.o rfl, L.n rfl⟩
theorem aI_1_11 {h : HP} (L : Lay h) {a : Nat} (ha : (a = 5 ∨ a = 23 ∨ a = 102)) {k : Nat} (hk : k < 64) : aI h 13 (some (a + 5)) (ii k) = some (h.I (a + 5) k) := aI_ok (oA_1_11 L ha).1 (by rw [(oA_1_11 L ha).2]; exact hk) (by omega)
theorem sI_1_11 {h : HP} (L : Lay h) {a : Nat} (ha : (a = 5 ∨ a = 23 ∨ a = 102)) {k : Nat} (hk : k < 64) (v : Int32) : sI h (some (a + 5)) (ii k) v = some (h.setI (a + 5) k v) := sI_ok (oA_1_11 L ha).1 (by rw [(oA_1_11 L ha).2]; exact hk) (by omega) v
theorem o_2 {h : HP} (L : Lay h) {a : Nat} (ha : (a = 62 ∨ a = 82)) : okO h 2 a = true := by
  rcases ha with rfl | rfl <;> exact L.o rfl
theorem gI_2 {h : HP} (L : Lay h) {a : Nat} (ha : (a = 62 ∨ a = 82)) (k : Nat) : gI h 2 (some a) k = some (h.I a k) := gI_ok (o_2 L ha) k
theorem pI_2 {h : HP} (L : Lay h) {a : Nat} (ha : (a = 62 ∨ a = 82)) (k : Nat) (v : Int32) : pI h 2 (some a) k v = some (h.setI a k v) := pI_ok (o_2 L ha) k v
theorem dO_2 {h : HP} (L : Lay h) {a : Nat} (ha : (a = 62 ∨ a = 82)) : dO h 2 (some a) = some a := dO_ok (o_2 L ha)
theorem gR_2_3 {h : HP} (L : Lay h) {a : Nat} (ha : (a = 62 ∨ a = 82)) : gR h 2 (some a) 3 = some (some (a + 1)) := by
  rw [gR_ok (o_2 L ha)]
  rcases ha with rfl | rfl <;> exact congrArg some (L.r rfl)
theorem oA_2_3 {h : HP} (L : Lay h) {a : Nat} (ha : (a = 62 ∨ a = 82)) : okO h 13 (a + 1) = true ∧ h.N (a + 1) = 24 := by
  rcases ha with rfl | rfl <;> exact ⟨L.o rfl, L.n rfl⟩
theorem aI_2_3 {h : HP} (L : Lay h) {a : Nat} (ha : (a = 62 ∨ a = 82)) {k : Nat} (hk : k < 24) : aI h 13 (some (a + 1)) (ii k) = some (h.I (a + 1) k) := aI_ok (oA_2_3 L ha).1 (by rw [(oA_2_3 L ha).2]; exact hk) (by omega)
theorem sI_2_3 {h : HP} (L : Lay h) {a : Nat} (ha : (a = 62 ∨ a = 82)) {k : Nat} (hk : k < 24) (v : Int32) : sI h (some (a + 1)) (ii k) v = some (h.setI (a + 1) k v) := sI_ok (oA_2_3 L ha).1 (by rw [(oA_2_3 L ha).2]; exact hk) (by omega) v
theorem gR_2_4 {h : HP} (L : Lay h) {a : Nat} (ha : (a = 62 ∨ a = 82)) : gR h 2 (some a) 4 = some (some (a + 2)) := by
  rw [gR_ok (o_2 L ha)]
  rcases ha with rfl | rfl <;> exact congrArg some (L.r rfl)
theorem oA_2_4 {h : HP} (L : Lay h) {a : Nat} (ha : (a = 62 ∨ a = 82)) : okO h 13 (a + 2) = true ∧ h.N (a + 2) = 24 := by
  rcases ha with rfl | rfl <;> exact ⟨L.o rfl, L.n rfl⟩
theorem aI_2_4 {h : HP} (L : Lay h) {a : Nat} (ha : (a = 62 ∨ a = 82)) {k : Nat} (hk : k < 24) : aI h 13 (some (a + 2)) (ii k) = some (h.I (a + 2) k) := aI_ok (oA_2_4 L ha).1 (by rw [(oA_2_4 L ha).2]; exact hk) (by omega)
theorem sI_2_4 {h : HP} (L : Lay h) {a : Nat} (ha : (a = 62 ∨ a = 82)) {k : Nat} (hk : k < 24) (v : Int32) : sI h (some (a + 2)) (ii k) v = some (h.setI (a + 2) k v) := sI_ok (oA_2_4 L ha).1 (by rw [(oA_2_4 L ha).2]; exact hk) (by omega) v
theorem gR_2_5 {h : HP} (L : Lay h) {a : Nat} (ha : (a = 62 ∨ a = 82)) : gR h 2 (some a) 5 = some (some (a + 3)) := by
  rw [gR_ok (o_2 L ha)]
  rcases ha with rfl | rfl <;> exact congrArg some (L.r rfl)
theorem oA_2_5 {h : HP} (L : Lay h) {a : Nat} (ha : (a = 62 ∨ a = 82)) : okO h 13 (a + 3) = true ∧ h.N (a + 3) = 24 := by
  rcases ha with rfl | rfl <;> exact ⟨L.o rfl, L.n rfl⟩
theorem aI_2_5 {h : HP} (L : Lay h) {a : Nat} (ha : (a = 62 ∨ a = 82)) {k : Nat} (hk : k < 24) : aI h 13 (some (a + 3)) (ii k) = some (h.I (a + 3) k) := aI_ok (oA_2_5 L ha).1 (by rw [(oA_2_5 L ha).2]; exact hk) (by omega)
theorem sI_2_5 {h : HP} (L : Lay h) {a : Nat} (ha : (a = 62 ∨ a = 82)) {k : Nat} (hk : k < 24) (v : Int32) : sI h (some (a + 3)) (ii k) v = some (h.setI (a + 3) k v) := sI_ok (oA_2_5 L ha).1 (by rw [(oA_2_5 L ha).2]; exact hk) (by omega) v
theorem gR_2_6 {h : HP} (L : Lay h) {a : Nat} (ha : (a = 62 ∨ a = 82)) : gR h 2 (some a) 6 = some (some (a + 4)) := by
  rw [gR_ok (o_2 L ha)]
  rcases ha with rfl | rfl <;> exact congrArg some (L.r rfl)
theorem oA_2_6 {h : HP} (L : Lay h) {a : Nat} (ha : (a = 62 ∨ a = 82)) : okO h 13 (a + 4) = true ∧ h.N (a + 4) = 8 := by
  rcases ha with rfl | rfl <;> exact ⟨L.o rfl, L.n rfl⟩
theorem aI_2_6 {h : HP} (L : Lay h) {a : Nat} (ha : (a = 62 ∨ a = 82)) {k : Nat} (hk : k < 8) : aI h 13 (some (a + 4)) (ii k) = some (h.I (a + 4) k) := aI_ok (oA_2_6 L ha).1 (by rw [(oA_2_6 L ha).2]; exact hk) (by omega)
theorem sI_2_6 {h : HP} (L : Lay h) {a : Nat} (ha : (a = 62 ∨ a = 82)) {k : Nat} (hk : k < 8) (v : Int32) : sI h (some (a + 4)) (ii k) v = some (h.setI (a + 4) k v) := sI_ok (oA_2_6 L ha).1 (by rw [(oA_2_6 L ha).2]; exact hk) (by omega) v
theorem o_3 {h : HP} (L : Lay h) {a : Nat} (ha : (a = 11 ∨ a = 17 ∨ a = 29 ∨ a = 35)) : okO h 3 a = true := by
  rcases ha with rfl | rfl | rfl | rfl <;> exact L.o rfl
theorem gI_3 {h : HP} (L : Lay h) {a : Nat} (ha : (a = 11 ∨ a = 17 ∨ a = 29 ∨ a = 35)) (k : Nat) : gI h 3 (some a) k = some (h.I a k) := gI_ok (o_3 L ha) k
theorem pI_3 {h : HP} (L : Lay h) {a : Nat} (ha : (a = 11 ∨ a = 17 ∨ a = 29 ∨ a = 35)) (k : Nat) (v : Int32) : pI h 3 (some a) k v = some (h.setI a k v) := pI_ok (o_3 L ha) k v
theorem dO_3 {h : HP} (L : Lay h) {a : Nat} (ha : (a = 11 ∨ a = 17 ∨ a = 29 ∨ a = 35)) : dO h 3 (some a) = some a := dO_ok (o_3 L ha)
theorem gR_3_0 {h : HP} (L : Lay h) {a : Nat} (ha : (a = 11 ∨ a = 17 ∨ a = 29 ∨ a = 35)) : gR h 3 (some a) 0 = some (some (a + 1)) := by
  rw [gR_ok (o_3 L ha)]
  rcases ha with rfl | rfl | rfl | rfl <;> exact congrArg some (L.r rfl)
theorem oA_3_0 {h : HP} (L : Lay h) {a : Nat} (ha : (a = 11 ∨ a = 17 ∨ a = 29 ∨ a = 35)) : okO h 13 (a + 1) = true ∧ h.N (a + 1) = 256 := by
  rcases ha with rfl | rfl | rfl | rfl <;> exact ⟨L.o rfl, L.n rfl⟩
theorem aI_3_0 {h : HP} (L : Lay h) {a : Nat} (ha : (a = 11 ∨ a = 17 ∨ a = 29 ∨ a = 35)) {k : Nat} (hk : k < 256) : aI h 13 (some (a + 1)) (ii k) = some (h.I (a + 1) k) := aI_ok (oA_3_0 L ha).1 (by rw [(oA_3_0 L ha).2]; exact hk) (by omega)
theorem sI_3_0 {h : HP} (L : Lay h) {a : Nat} (ha : (a = 11 ∨ a = 17 ∨ a = 29 ∨ a = 35)) {k : Nat} (hk : k < 256) (v : Int32) : sI h (some (a + 1)) (ii k) v = some (h.setI (a + 1) k v) := sI_ok (oA_3_0 L ha).1 (by rw [(oA_3_0 L ha).2]; exact hk) (by omega) v
theorem gR_3_1 {h : HP} (L : Lay h) {a : Nat} (ha : (a = 11 ∨ a = 17 ∨ a = 29 ∨ a = 35)) : gR h 3 (some a) 1 = some (some (a + 2)) := by
  rw [gR_ok (o_3 L ha)]
  rcases ha with rfl | rfl | rfl | rfl <;> exact congrArg some (L.r rfl)
theorem oA_3_1 {h : HP} (L : Lay h) {a : Nat} (ha : (a = 11 ∨ a = 17 ∨ a = 29 ∨ a = 35)) : okO h 13 (a + 2) = true ∧ h.N (a + 2) = 256 := by
  rcases ha with rfl | rfl | rfl | rfl <;> exact ⟨L.o rfl, L.n rfl⟩
theorem aI_3_1 {h : HP} (L : Lay h) {a : Nat} (ha : (a = 11 ∨ a = 17 ∨ a = 29 ∨ a = 35)) {k : Nat} (hk : k < 256) : aI h 13 (some (a + 2)) (ii k) = some (h.I (a + 2) k) := aI_ok (oA_3_1 L ha).1 (by rw [(oA_3_1 L ha).2]; exact hk) (by omega)
theorem sI_3_1 {h : HP} (L : Lay h) {a : Nat} (ha : (a = 11 ∨ a = 17 ∨ a = 29 ∨ a = 35)) {k : Nat} (hk : k < 256) (v : Int32) : sI h (some (a + 2)) (ii k) v = some (h.setI (a + 2) k v) := sI_ok (oA_3_1 L ha).1 (by rw [(oA_3_1 L ha).2]; exact hk) (by omega) v
theorem gR_3_2 {h : HP} (L : Lay h) {a : Nat} (ha : (a = 11 ∨ a = 17 ∨ a = 29 ∨ a = 35)) : gR h 3 (some a) 2 = some (some (a + 3)) := by
  rw [gR_ok (o_3 L ha)]
  rcases ha with rfl | rfl | rfl | rfl <;> exact congrArg some (L.r rfl)
theorem oA_3_2 {h : HP} (L : Lay h) {a : Nat} (ha : (a = 11 ∨ a = 17 ∨ a = 29 ∨ a = 35)) : okO h 13 (a + 3) = true ∧ h.N (a + 3) = 256 := by
  rcases ha with rfl | rfl | rfl | rfl <;> exact ⟨L.o rfl, L.n rfl⟩
theorem aI_3_2 {h : HP} (L : Lay h) {a : Nat} (ha : (a = 11 ∨ a = 17 ∨ a = 29 ∨ a = 35)) {k : Nat} (hk : k < 256) : aI h 13 (some (a + 3)) (ii k) = some (h.I (a + 3) k) := aI_ok (oA_3_2 L ha).1 (by rw [(oA_3_2 L ha).2]; exact hk) (by omega)
theorem sI_3_2 {h : HP} (L : Lay h) {a : Nat} (ha : (a = 11 ∨ a = 17 ∨ a = 29 ∨ a = 35)) {k : Nat} (hk : k < 256) (v : Int32) : sI h (some (a + 3)) (ii k) v = some (h.setI (a + 3) k v) := sI_ok (oA_3_2 L ha).1 (by rw [(oA_3_2 L ha).2]; exact hk) (by omega) v
theorem o_4 {h : HP} (L : Lay h) {a : Nat} (ha : (a = 4 ∨ a = 22)) : okO h 4 a = true := by
  rcases ha with rfl | rfl <;> exact L.o rfl
theorem gI_4 {h : HP} (L : Lay h) {a : Nat} (ha : (a = 4 ∨ a = 22)) (k : Nat) : gI h 4 (some a) k = some (h.I a k) := gI_ok (o_4 L ha) k
theorem pI_4 {h : HP} (L : Lay h) {a : Nat} (ha : (a = 4 ∨ a = 22)) (k : Nat) (v : Int32) : pI h 4 (some a) k v = some (h.setI a k v) := pI_ok (o_4 L ha) k v
theorem dO_4 {h : HP} (L : Lay h) {a : Nat} (ha : (a = 4 ∨ a = 22)) : dO h 4 (some a) = some a := dO_ok (o_4 L ha)
theorem gR_4_2 {h : HP} (L : Lay h) {a : Nat} (ha : (a = 4 ∨ a = 22)) : gR h 4 (some a) 2 = some (some (a + 11)) := by
  rw [gR_ok (o_4 L ha)]
  rcases ha with rfl | rfl <;> exact congrArg some (L.r rfl)
theorem oA_4_2 {h : HP} (L : Lay h) {a : Nat} (ha : (a = 4 ∨ a = 22)) : okO h 14 (a + 11) = true ∧ h.N (a + 11) = 256 := by
  rcases ha with rfl | rfl <;> exact ⟨L.o rfl, L.n rfl⟩
theorem aJ_4_2 {h : HP} (L : Lay h) {a : Nat} (ha : (a = 4 ∨ a = 22)) {k : Nat} (hk : k < 256) : aJ h (some (a + 11)) (ii k) = some (h.J (a + 11) k) := aJ_ok (oA_4_2 L ha).1 (by rw [(oA_4_2 L ha).2]; exact hk) (by omega)
theorem sJ_4_2 {h : HP} (L : Lay h) {a : Nat} (ha : (a = 4 ∨ a = 22)) {k : Nat} (hk : k < 256) (v : Int64) : sJ h (some (a + 11)) (ii k) v = some (h.setJ (a + 11) k v) := sJ_ok (oA_4_2 L ha).1 (by rw [(oA_4_2 L ha).2]; exact hk) (by omega) v
theorem gR_4_3 {h : HP} (L : Lay h) {a : Nat} (ha : (a = 4 ∨ a = 22)) : gR h 4 (some a) 3 = some (some (a + 12)) := by
  rw [gR_ok (o_4 L ha)]
  rcases ha with rfl | rfl <;> exact congrArg some (L.r rfl)
theorem oA_4_3 {h : HP} (L : Lay h) {a : Nat} (ha : (a = 4 ∨ a = 22)) : okO h 13 (a + 12) = true ∧ h.N (a + 12) = 256 := by
  rcases ha with rfl | rfl <;> exact ⟨L.o rfl, L.n rfl⟩
theorem aI_4_3 {h : HP} (L : Lay h) {a : Nat} (ha : (a = 4 ∨ a = 22)) {k : Nat} (hk : k < 256) : aI h 13 (some (a + 12)) (ii k) = some (h.I (a + 12) k) := aI_ok (oA_4_3 L ha).1 (by rw [(oA_4_3 L ha).2]; exact hk) (by omega)
theorem sI_4_3 {h : HP} (L : Lay h) {a : Nat} (ha : (a = 4 ∨ a = 22)) {k : Nat} (hk : k < 256) (v : Int32) : sI h (some (a + 12)) (ii k) v = some (h.setI (a + 12) k v) := sI_ok (oA_4_3 L ha).1 (by rw [(oA_4_3 L ha).2]; exact hk) (by omega) v
theorem gR_4_5 {h : HP} (L : Lay h) {a : Nat} (ha : (a = 4 ∨ a = 22)) : gR h 4 (some a) 5 = some (some (a + 17)) := by
  rw [gR_ok (o_4 L ha)]
  rcases ha with rfl | rfl <;> exact congrArg some (L.r rfl)
theorem oA_4_5 {h : HP} (L : Lay h) {a : Nat} (ha : (a = 4 ∨ a = 22)) : okO h 13 (a + 17) = true ∧ h.N (a + 17) = 8192 := by
  rcases ha with rfl | rfl <;> exact ⟨L.o rfl, L.n rfl⟩
theorem aI_4_5 {h : HP} (L : Lay h) {a : Nat} (ha : (a = 4 ∨ a = 22)) {k : Nat} (hk : k < 8192) : aI h 13 (some (a + 17)) (ii k) = some (h.I (a + 17) k) := aI_ok (oA_4_5 L ha).1 (by rw [(oA_4_5 L ha).2]; exact hk) (by omega)
theorem sI_4_5 {h : HP} (L : Lay h) {a : Nat} (ha : (a = 4 ∨ a = 22)) {k : Nat} (hk : k < 8192) (v : Int32) : sI h (some (a + 17)) (ii k) v = some (h.setI (a + 17) k v) := sI_ok (oA_4_5 L ha).1 (by rw [(oA_4_5 L ha).2]; exact hk) (by omega) v
theorem gR_4_1 {h : HP} (L : Lay h) {a : Nat} (ha : (a = 4 ∨ a = 22)) : gR h 4 (some a) 1 = some (some (a + 7)) := by
  rw [gR_ok (o_4 L ha)]
  rcases ha with rfl | rfl <;> exact congrArg some (L.r rfl)
theorem gR_4_4 {h : HP} (L : Lay h) {a : Nat} (ha : (a = 4 ∨ a = 22)) : gR h 4 (some a) 4 = some (some (a + 13)) := by
  rw [gR_ok (o_4 L ha)]
  rcases ha with rfl | rfl <;> exact congrArg some (L.r rfl)
theorem o_5 {h : HP} (L : Lay h) {a : Nat} (ha : (a = 44)) : okO h 5 a = true := by
  subst ha; exact L.o rfl
theorem gI_5 {h : HP} (L : Lay h) {a : Nat} (ha : (a = 44)) (k : Nat) : gI h 5 (some a) k = some (h.I a k) := gI_ok (o_5 L ha) k
theorem pI_5 {h : HP} (L : Lay h) {a : Nat} (ha : (a = 44)) (k : Nat) (v : Int32) : pI h 5 (some a) k v = some (h.setI a k v) := pI_ok (o_5 L ha) k v
theorem dO_5 {h : HP} (L : Lay h) {a : Nat} (ha : (a = 44)) : dO h 5 (some a) = some a := dO_ok (o_5 L ha)
theorem o_6 {h : HP} (L : Lay h) {a : Nat} (ha : (a = 76 ∨ a = 96)) : okO h 6 a = true := by
  rcases ha with rfl | rfl <;> exact L.o rfl
theorem gI_6 {h : HP} (L : Lay h) {a : Nat} (ha : (a = 76 ∨ a = 96)) (k : Nat) : gI h 6 (some a) k = some (h.I a k) := gI_ok (o_6 L ha) k
theorem pI_6 {h : HP} (L : Lay h) {a : Nat} (ha : (a = 76 ∨ a = 96)) (k : Nat) (v : Int32) : pI h 6 (some a) k v = some (h.setI a k v) := pI_ok (o_6 L ha) k v
theorem dO_6 {h : HP} (L : Lay h) {a : Nat} (ha : (a = 76 ∨ a = 96)) : dO h 6 (some a) = some a := dO_ok (o_6 L ha)
theorem gR_6_1 {h : HP} (L : Lay h) {a : Nat} (ha : (a = 76 ∨ a = 96)) : gR h 6 (some a) 1 = some (some (a + 1)) := by
  rw [gR_ok (o_6 L ha)]
  rcases ha with rfl | rfl <;> exact congrArg some (L.r rfl)
theorem oA_6_1 {h : HP} (L : Lay h) {a : Nat} (ha : (a = 76 ∨ a = 96)) : okO h 13 (a + 1) = true ∧ h.N (a + 1) = 6 := by
  rcases ha with rfl | rfl <;> exact ⟨L.o rfl, L.n rfl⟩
theorem aI_6_1 {h : HP} (L : Lay h) {a : Nat} (ha : (a = 76 ∨ a = 96)) {k : Nat} (hk : k < 6) : aI h 13 (some (a + 1)) (ii k) = some (h.I (a + 1) k) := aI_ok (oA_6_1 L ha).1 (by rw [(oA_6_1 L ha).2]; exact hk) (by omega)
theorem sI_6_1 {h : HP} (L : Lay h) {a : Nat} (ha : (a = 76 ∨ a = 96)) {k : Nat} (hk : k < 6) (v : Int32) : sI h (some (a + 1)) (ii k) v = some (h.setI (a + 1) k v) := sI_ok (oA_6_1 L ha).1 (by rw [(oA_6_1 L ha).2]; exact hk) (by omega) v
theorem gR_6_2 {h : HP} (L : Lay h) {a : Nat} (ha : (a = 76 ∨ a = 96)) : gR h 6 (some a) 2 = some (some (a + 2)) := by
  rw [gR_ok (o_6 L ha)]
  rcases ha with rfl | rfl <;> exact congrArg some (L.r rfl)
theorem oA_6_2 {h : HP} (L : Lay h) {a : Nat} (ha : (a = 76 ∨ a = 96)) : okO h 14 (a + 2) = true ∧ h.N (a + 2) = 6 := by
  rcases ha with rfl | rfl <;> exact ⟨L.o rfl, L.n rfl⟩
theorem aJ_6_2 {h : HP} (L : Lay h) {a : Nat} (ha : (a = 76 ∨ a = 96)) {k : Nat} (hk : k < 6) : aJ h (some (a + 2)) (ii k) = some (h.J (a + 2) k) := aJ_ok (oA_6_2 L ha).1 (by rw [(oA_6_2 L ha).2]; exact hk) (by omega)
theorem sJ_6_2 {h : HP} (L : Lay h) {a : Nat} (ha : (a = 76 ∨ a = 96)) {k : Nat} (hk : k < 6) (v : Int64) : sJ h (some (a + 2)) (ii k) v = some (h.setJ (a + 2) k v) := sJ_ok (oA_6_2 L ha).1 (by rw [(oA_6_2 L ha).2]; exact hk) (by omega) v
theorem gR_6_3 {h : HP} (L : Lay h) {a : Nat} (ha : (a = 76 ∨ a = 96)) : gR h 6 (some a) 3 = some (some (a + 3)) := by
  rw [gR_ok (o_6 L ha)]
  rcases ha with rfl | rfl <;> exact congrArg some (L.r rfl)
theorem oA_6_3 {h : HP} (L : Lay h) {a : Nat} (ha : (a = 76 ∨ a = 96)) : okO h 14 (a + 3) = true ∧ h.N (a + 3) = 64 := by
  rcases ha with rfl | rfl <;> exact ⟨L.o rfl, L.n rfl⟩
theorem aJ_6_3 {h : HP} (L : Lay h) {a : Nat} (ha : (a = 76 ∨ a = 96)) {k : Nat} (hk : k < 64) : aJ h (some (a + 3)) (ii k) = some (h.J (a + 3) k) := aJ_ok (oA_6_3 L ha).1 (by rw [(oA_6_3 L ha).2]; exact hk) (by omega)
theorem sJ_6_3 {h : HP} (L : Lay h) {a : Nat} (ha : (a = 76 ∨ a = 96)) {k : Nat} (hk : k < 64) (v : Int64) : sJ h (some (a + 3)) (ii k) v = some (h.setJ (a + 3) k v) := sJ_ok (oA_6_3 L ha).1 (by rw [(oA_6_3 L ha).2]; exact hk) (by omega) v
theorem o_7 {h : HP} (L : Lay h) {a : Nat} (ha : (a = 40 ∨ a = 42 ∨ a = 80 ∨ a = 46 ∨ a = 48 ∨ a = 50 ∨ a = 52 ∨ a = 54 ∨ a = 56 ∨ a = 58 ∨ a = 60)) : okO h 7 a = true := by
  rcases ha with rfl | rfl | rfl | rfl | rfl | rfl | rfl | rfl | rfl | rfl | rfl <;> exact L.o rfl
theorem gI_7 {h : HP} (L : Lay h) {a : Nat} (ha : (a = 40 ∨ a = 42 ∨ a = 80 ∨ a = 46 ∨ a = 48 ∨ a = 50 ∨ a = 52 ∨ a = 54 ∨ a = 56 ∨ a = 58 ∨ a = 60)) (k : Nat) : gI h 7 (some a) k = some (h.I a k) := gI_ok (o_7 L ha) k
theorem pI_7 {h : HP} (L : Lay h) {a : Nat} (ha : (a = 40 ∨ a = 42 ∨ a = 80 ∨ a = 46 ∨ a = 48 ∨ a = 50 ∨ a = 52 ∨ a = 54 ∨ a = 56 ∨ a = 58 ∨ a = 60)) (k : Nat) (v : Int32) : pI h 7 (some a) k v = some (h.setI a k v) := pI_ok (o_7 L ha) k v
theorem dO_7 {h : HP} (L : Lay h) {a : Nat} (ha : (a = 40 ∨ a = 42 ∨ a = 80 ∨ a = 46 ∨ a = 48 ∨ a = 50 ∨ a = 52 ∨ a = 54 ∨ a = 56 ∨ a = 58 ∨ a = 60)) : dO h 7 (some a) = some a := dO_ok (o_7 L ha)
theorem gR_7_1 {h : HP} (L : Lay h) {a : Nat} (ha : (a = 40 ∨ a = 42 ∨ a = 80 ∨ a = 46 ∨ a = 48 ∨ a = 50 ∨ a = 52 ∨ a = 54 ∨ a = 56 ∨ a = 58 ∨ a = 60)) : gR h 7 (some a) 1 = some (some (a + 1)) := by
  rw [gR_ok (o_7 L ha)]
  rcases ha with rfl | rfl | rfl | rfl | rfl | rfl | rfl | rfl | rfl | rfl | rfl <;> exact congrArg some (L.r rfl)
theorem oA_7_1 {h : HP} (L : Lay h) {a : Nat} (ha : (a = 40 ∨ a = 42 ∨ a = 80 ∨ a = 46 ∨ a = 48 ∨ a = 50 ∨ a = 52 ∨ a = 54 ∨ a = 56 ∨ a = 58 ∨ a = 60)) : okO h 13 (a + 1) = true ∧ h.N (a + 1) = 8 := by
  rcases ha with rfl | rfl | rfl | rfl | rfl | rfl | rfl | rfl | rfl | rfl | rfl <;> exact ⟨L.o rfl, L.n rfl⟩
theorem aI_7_1 {h : HP} (L : Lay h) {a : Nat} (ha : (a = 40 ∨ a = 42 ∨ a = 80 ∨ a = 46 ∨ a = 48 ∨ a = 50 ∨ a = 52 ∨ a = 54 ∨ a = 56 ∨ a = 58 ∨ a = 60)) {k : Nat} (hk : k < 8) : aI h 13 (some (a + 1)) (ii k) = some (h.I (a + 1) k) := aI_ok (oA_7_1 L ha).1 (by rw [(oA_7_1 L ha).2]; exact hk) (by omega)
theorem sI_7_1 {h : HP} (L : Lay h) {a : Nat} (ha : (a = 40 ∨ a = 42 ∨ a = 80 ∨ a = 46 ∨ a = 48 ∨ a = 50 ∨ a = 52 ∨ a = 54 ∨ a = 56 ∨ a = 58 ∨ a = 60)) {k : Nat} (hk : k < 8) (v : Int32) : sI h (some (a + 1)) (ii k) v = some (h.setI (a + 1) k v) := sI_ok (oA_7_1 L ha).1 (by rw [(oA_7_1 L ha).2]; exact hk) (by omega) v
theorem o_8 {h : HP} (L : Lay h) {a : Nat} (ha : (a = 2)) : okO h 8 a = true := by
  subst ha; exact L.o rfl
theorem gI_8 {h : HP} (L : Lay h) {a : Nat} (ha : (a = 2)) (k : Nat) : gI h 8 (some a) k = some (h.I a k) := gI_ok (o_8 L ha) k
theorem pI_8 {h : HP} (L : Lay h) {a : Nat} (ha : (a = 2)) (k : Nat) (v : Int32) : pI h 8 (some a) k v = some (h.setI a k v) := pI_ok (o_8 L ha) k v
theorem dO_8 {h : HP} (L : Lay h) {a : Nat} (ha : (a = 2)) : dO h 8 (some a) = some a := dO_ok (o_8 L ha)
theorem o_9 {h : HP} (L : Lay h) {a : Nat} (ha : (a = 67 ∨ a = 87)) : okO h 9 a = true := by
  rcases ha with rfl | rfl <;> exact L.o rfl
theorem gI_9 {h : HP} (L : Lay h) {a : Nat} (ha : (a = 67 ∨ a = 87)) (k : Nat) : gI h 9 (some a) k = some (h.I a k) := gI_ok (o_9 L ha) k
theorem pI_9 {h : HP} (L : Lay h) {a : Nat} (ha : (a = 67 ∨ a = 87)) (k : Nat) (v : Int32) : pI h 9 (some a) k v = some (h.setI a k v) := pI_ok (o_9 L ha) k v
theorem dO_9 {h : HP} (L : Lay h) {a : Nat} (ha : (a = 67 ∨ a = 87)) : dO h 9 (some a) = some a := dO_ok (o_9 L ha)
theorem gR_9_1 {h : HP} (L : Lay h) {a : Nat} (ha : (a = 67 ∨ a = 87)) : gR h 9 (some a) 1 = some (some (a + 1)) := by
  rw [gR_ok (o_9 L ha)]
  rcases ha with rfl | rfl <;> exact congrArg some (L.r rfl)
theorem oA_9_1 {h : HP} (L : Lay h) {a : Nat} (ha : (a = 67 ∨ a = 87)) : okO h 13 (a + 1) = true ∧ h.N (a + 1) = 12 := by
  rcases ha with rfl | rfl <;> exact ⟨L.o rfl, L.n rfl⟩
theorem aI_9_1 {h : HP} (L : Lay h) {a : Nat} (ha : (a = 67 ∨ a = 87)) {k : Nat} (hk : k < 12) : aI h 13 (some (a + 1)) (ii k) = some (h.I (a + 1) k) := aI_ok (oA_9_1 L ha).1 (by rw [(oA_9_1 L ha).2]; exact hk) (by omega)
theorem sI_9_1 {h : HP} (L : Lay h) {a : Nat} (ha : (a = 67 ∨ a = 87)) {k : Nat} (hk : k < 12) (v : Int32) : sI h (some (a + 1)) (ii k) v = some (h.setI (a + 1) k v) := sI_ok (oA_9_1 L ha).1 (by rw [(oA_9_1 L ha).2]; exact hk) (by omega) v
theorem gR_9_2 {h : HP} (L : Lay h) {a : Nat} (ha : (a = 67 ∨ a = 87)) : gR h 9 (some a) 2 = some (some (a + 2)) := by
  rw [gR_ok (o_9 L ha)]
  rcases ha with rfl | rfl <;> exact congrArg some (L.r rfl)
theorem oA_9_2 {h : HP} (L : Lay h) {a : Nat} (ha : (a = 67 ∨ a = 87)) : okO h 13 (a + 2) = true ∧ h.N (a + 2) = 12 := by
  rcases ha with rfl | rfl <;> exact ⟨L.o rfl, L.n rfl⟩
theorem aI_9_2 {h : HP} (L : Lay h) {a : Nat} (ha : (a = 67 ∨ a = 87)) {k : Nat} (hk : k < 12) : aI h 13 (some (a + 2)) (ii k) = some (h.I (a + 2) k) := aI_ok (oA_9_2 L ha).1 (by rw [(oA_9_2 L ha).2]; exact hk) (by omega)
theorem sI_9_2 {h : HP} (L : Lay h) {a : Nat} (ha : (a = 67 ∨ a = 87)) {k : Nat} (hk : k < 12) (v : Int32) : sI h (some (a + 2)) (ii k) v = some (h.setI (a + 2) k v) := sI_ok (oA_9_2 L ha).1 (by rw [(oA_9_2 L ha).2]; exact hk) (by omega) v
theorem gR_9_3 {h : HP} (L : Lay h) {a : Nat} (ha : (a = 67 ∨ a = 87)) : gR h 9 (some a) 3 = some (some (a + 3)) := by
  rw [gR_ok (o_9 L ha)]
  rcases ha with rfl | rfl <;> exact congrArg some (L.r rfl)
theorem oA_9_3 {h : HP} (L : Lay h) {a : Nat} (ha : (a = 67 ∨ a = 87)) : okO h 13 (a + 3) = true ∧ h.N (a + 3) = 12 := by
  rcases ha with rfl | rfl <;> exact ⟨L.o rfl, L.n rfl⟩
theorem aI_9_3 {h : HP} (L : Lay h) {a : Nat} (ha : (a = 67 ∨ a = 87)) {k : Nat} (hk : k < 12) : aI h 13 (some (a + 3)) (ii k) = some (h.I (a + 3) k) := aI_ok (oA_9_3 L ha).1 (by rw [(oA_9_3 L ha).2]; exact hk) (by omega)
theorem sI_9_3 {h : HP} (L : Lay h) {a : Nat} (ha : (a = 67 ∨ a = 87)) {k : Nat} (hk : k < 12) (v : Int32) : sI h (some (a + 3)) (ii k) v = some (h.setI (a + 3) k v) := sI_ok (oA_9_3 L ha).1 (by rw [(oA_9_3 L ha).2]; exact hk) (by omega) v
theorem gR_9_4 {h : HP} (L : Lay h) {a : Nat} (ha : (a = 67 ∨ a = 87)) : gR h 9 (some a) 4 = some (some (a + 4)) := by
  rw [gR_ok (o_9 L ha)]
  rcases ha with rfl | rfl <;> exact congrArg some (L.r rfl)
theorem oA_9_4 {h : HP} (L : Lay h) {a : Nat} (ha : (a = 67 ∨ a = 87)) : okO h 13 (a + 4) = true ∧ h.N (a + 4) = 12 := by
  rcases ha with rfl | rfl <;> exact ⟨L.o rfl, L.n rfl⟩
theorem aI_9_4 {h : HP} (L : Lay h) {a : Nat} (ha : (a = 67 ∨ a = 87)) {k : Nat} (hk : k < 12) : aI h 13 (some (a + 4)) (ii k) = some (h.I (a + 4) k) := aI_ok (oA_9_4 L ha).1 (by rw [(oA_9_4 L ha).2]; exact hk) (by omega)
theorem sI_9_4 {h : HP} (L : Lay h) {a : Nat} (ha : (a = 67 ∨ a = 87)) {k : Nat} (hk : k < 12) (v : Int32) : sI h (some (a + 4)) (ii k) v = some (h.setI (a + 4) k v) := sI_ok (oA_9_4 L ha).1 (by rw [(oA_9_4 L ha).2]; exact hk) (by omega) v
theorem gR_9_5 {h : HP} (L : Lay h) {a : Nat} (ha : (a = 67 ∨ a = 87)) : gR h 9 (some a) 5 = some (some (a + 5)) := by
  rw [gR_ok (o_9 L ha)]
  rcases ha with rfl | rfl <;> exact congrArg some (L.r rfl)
theorem oA_9_5 {h : HP} (L : Lay h) {a : Nat} (ha : (a = 67 ∨ a = 87)) : okO h 13 (a + 5) = true ∧ h.N (a + 5) = 12 := by
  rcases ha with rfl | rfl <;> exact ⟨L.o rfl, L.n rfl⟩
theorem aI_9_5 {h : HP} (L : Lay h) {a : Nat} (ha : (a = 67 ∨ a = 87)) {k : Nat} (hk : k < 12) : aI h 13 (some (a + 5)) (ii k) = some (h.I (a + 5) k) := aI_ok (oA_9_5 L ha).1 (by rw [(oA_9_5 L ha).2]; exact hk) (by omega)
theorem sI_9_5 {h : HP} (L : Lay h) {a : Nat} (ha : (a = 67 ∨ a = 87)) {k : Nat} (hk : k < 12) (v : Int32) : sI h (some (a + 5)) (ii k) v = some (h.setI (a + 5) k v) := sI_ok (oA_9_5 L ha).1 (by rw [(oA_9_5 L ha).2]; exact hk) (by omega) v
theorem gR_9_6 {h : HP} (L : Lay h) {a : Nat} (ha : (a = 67 ∨ a = 87)) : gR h 9 (some a) 6 = some (some (a + 6)) := by
  rw [gR_ok (o_9 L ha)]
  rcases ha with rfl | rfl <;> exact congrArg some (L.r rfl)
theorem oA_9_6 {h : HP} (L : Lay h) {a : Nat} (ha : (a = 67 ∨ a = 87)) : okO h 13 (a + 6) = true ∧ h.N (a + 6) = 12 := by
  rcases ha with rfl | rfl <;> exact ⟨L.o rfl, L.n rfl⟩
theorem aI_9_6 {h : HP} (L : Lay h) {a : Nat} (ha : (a = 67 ∨ a = 87)) {k : Nat} (hk : k < 12) : aI h 13 (some (a + 6)) (ii k) = some (h.I (a + 6) k) := aI_ok (oA_9_6 L ha).1 (by rw [(oA_9_6 L ha).2]; exact hk) (by omega)
theorem sI_9_6 {h : HP} (L : Lay h) {a : Nat} (ha : (a = 67 ∨ a = 87)) {k : Nat} (hk : k < 12) (v : Int32) : sI h (some (a + 6)) (ii k) v = some (h.setI (a + 6) k v) := sI_ok (oA_9_6 L ha).1 (by rw [(oA_9_6 L ha).2]; exact hk) (by omega) v
theorem gR_9_7 {h : HP} (L : Lay h) {a : Nat} (ha : (a = 67 ∨ a = 87)) : gR h 9 (some a) 7 = some (some (a + 7)) := by
  rw [gR_ok (o_9 L ha)]
  rcases ha with rfl | rfl <;> exact congrArg some (L.r rfl)
theorem oA_9_7 {h : HP} (L : Lay h) {a : Nat} (ha : (a = 67 ∨ a = 87)) : okO h 13 (a + 7) = true ∧ h.N (a + 7) = 12 := by
  rcases ha with rfl | rfl <;> exact ⟨L.o rfl, L.n rfl⟩
theorem aI_9_7 {h : HP} (L : Lay h) {a : Nat} (ha : (a = 67 ∨ a = 87)) {k : Nat} (hk : k < 12) : aI h 13 (some (a + 7)) (ii k) = some (h.I (a + 7) k) := aI_ok (oA_9_7 L ha).1 (by rw [(oA_9_7 L ha).2]; exact hk) (by omega)
theorem sI_9_7 {h : HP} (L : Lay h) {a : Nat} (ha : (a = 67 ∨ a = 87)) {k : Nat} (hk : k < 12) (v : Int32) : sI h (some (a + 7)) (ii k) v = some (h.setI (a + 7) k v) := sI_ok (oA_9_7 L ha).1 (by rw [(oA_9_7 L ha).2]; exact hk) (by omega) v
theorem gR_9_8 {h : HP} (L : Lay h) {a : Nat} (ha : (a = 67 ∨ a = 87)) : gR h 9 (some a) 8 = some (some (a + 8)) := by
  rw [gR_ok (o_9 L ha)]
  rcases ha with rfl | rfl <;> exact congrArg some (L.r rfl)
theorem oA_9_8 {h : HP} (L : Lay h) {a : Nat} (ha : (a = 67 ∨ a = 87)) : okO h 13 (a + 8) = true ∧ h.N (a + 8) = 24 := by
  rcases ha with rfl | rfl <;> exact ⟨L.o rfl, L.n rfl⟩
theorem aI_9_8 {h : HP} (L : Lay h) {a : Nat} (ha : (a = 67 ∨ a = 87)) {k : Nat} (hk : k < 24) : aI h 13 (some (a + 8)) (ii k) = some (h.I (a + 8) k) := aI_ok (oA_9_8 L ha).1 (by rw [(oA_9_8 L ha).2]; exact hk) (by omega)
theorem sI_9_8 {h : HP} (L : Lay h) {a : Nat} (ha : (a = 67 ∨ a = 87)) {k : Nat} (hk : k < 24) (v : Int32) : sI h (some (a + 8)) (ii k) v = some (h.setI (a + 8) k v) := sI_ok (oA_9_8 L ha).1 (by rw [(oA_9_8 L ha).2]; exact hk) (by omega) v
theorem gR_9_9 {h : HP} (L : Lay h) {a : Nat} (ha : (a = 67 ∨ a = 87)) : gR h 9 (some a) 9 = some (some (a + 9)) := by
  rw [gR_ok (o_9 L ha)]
  rcases ha with rfl | rfl <;> exact congrArg some (L.r rfl)
theorem o_10 {h : HP} (L : Lay h) {a : Nat} (ha : (a = 0)) : okO h 10 a = true := by
  subst ha; exact L.o rfl
theorem gI_10 {h : HP} (L : Lay h) {a : Nat} (ha : (a = 0)) (k : Nat) : gI h 10 (some a) k = some (h.I a k) := gI_ok (o_10 L ha) k
theorem pI_10 {h : HP} (L : Lay h) {a : Nat} (ha : (a = 0)) (k : Nat) (v : Int32) : pI h 10 (some a) k v = some (h.setI a k v) := pI_ok (o_10 L ha) k v
theorem dO_10 {h : HP} (L : Lay h) {a : Nat} (ha : (a = 0)) : dO h 10 (some a) = some a := dO_ok (o_10 L ha)
theorem o_11 {h : HP} (L : Lay h) {a : Nat} (ha : (a = 108)) : okO h 11 a = true := by
  subst ha; exact L.o rfl
theorem gI_11 {h : HP} (L : Lay h) {a : Nat} (ha : (a = 108)) (k : Nat) : gI h 11 (some a) k = some (h.I a k) := gI_ok (o_11 L ha) k
theorem pI_11 {h : HP} (L : Lay h) {a : Nat} (ha : (a = 108)) (k : Nat) (v : Int32) : pI h 11 (some a) k v = some (h.setI a k v) := pI_ok (o_11 L ha) k v
theorem dO_11 {h : HP} (L : Lay h) {a : Nat} (ha : (a = 108)) : dO h 11 (some a) = some a := dO_ok (o_11 L ha)
theorem gR_4_0 {h : HP} (L : Lay h) {a : Nat} (ha : (a = 4 ∨ a = 22)) : gR h 4 (some a) 0 = some (h.R a 0) := gR_ok (o_4 L ha) 0
theorem gR_4_6 {h : HP} (L : Lay h) {a : Nat} (ha : (a = 4 ∨ a = 22)) : gR h 4 (some a) 6 = some (some 1) := by
  rw [gR_ok (o_4 L ha)]
  rcases ha with rfl | rfl <;> exact congrArg some (L.r rfl)
theorem gR_11_1 {h : HP} (L : Lay h) : gR h 11 (some 108) 1 = some (some 109) := (gR_ok (L.o rfl) _).trans (congrArg some (L.r rfl))
theorem aI_c109 {h : HP} (L : Lay h) {k : Nat} (hk : k < 106) : aI h 13 (some 109) (ii k) = some (h.I 109 k) := aI_ok (L.o rfl) (by rw [L.n (k := 106) rfl]; exact hk) (by omega)
theorem sI_c109 {h : HP} (L : Lay h) {k : Nat} (hk : k < 106) (v : Int32) : sI h (some 109) (ii k) v = some (h.setI 109 k v) := sI_ok (L.o rfl) (by rw [L.n (k := 106) rfl]; exact hk) (by omega) v
theorem gR_11_2 {h : HP} (L : Lay h) : gR h 11 (some 108) 2 = some (some 110) := (gR_ok (L.o rfl) _).trans (congrArg some (L.r rfl))
theorem aI_c110 {h : HP} (L : Lay h) {k : Nat} (hk : k < 128) : aI h 13 (some 110) (ii k) = some (h.I 110 k) := aI_ok (L.o rfl) (by rw [L.n (k := 128) rfl]; exact hk) (by omega)
theorem sI_c110 {h : HP} (L : Lay h) {k : Nat} (hk : k < 128) (v : Int32) : sI h (some 110) (ii k) v = some (h.setI 110 k v) := sI_ok (L.o rfl) (by rw [L.n (k := 128) rfl]; exact hk) (by omega) v
theorem gR_11_4 {h : HP} (L : Lay h) : gR h 11 (some 108) 4 = some (some 111) := (gR_ok (L.o rfl) _).trans (congrArg some (L.r rfl))
theorem aI_c111 {h : HP} (L : Lay h) {k : Nat} (hk : k < 106) : aI h 13 (some 111) (ii k) = some (h.I 111 k) := aI_ok (L.o rfl) (by rw [L.n (k := 106) rfl]; exact hk) (by omega)
theorem sI_c111 {h : HP} (L : Lay h) {k : Nat} (hk : k < 106) (v : Int32) : sI h (some 111) (ii k) v = some (h.setI 111 k v) := sI_ok (L.o rfl) (by rw [L.n (k := 106) rfl]; exact hk) (by omega) v
theorem gR_11_6 {h : HP} (L : Lay h) : gR h 11 (some 108) 6 = some (some 112) := (gR_ok (L.o rfl) _).trans (congrArg some (L.r rfl))
theorem aI_c112 {h : HP} (L : Lay h) {k : Nat} (hk : k < 400) : aI h 13 (some 112) (ii k) = some (h.I 112 k) := aI_ok (L.o rfl) (by rw [L.n (k := 400) rfl]; exact hk) (by omega)
theorem sI_c112 {h : HP} (L : Lay h) {k : Nat} (hk : k < 400) (v : Int32) : sI h (some 112) (ii k) v = some (h.setI 112 k v) := sI_ok (L.o rfl) (by rw [L.n (k := 400) rfl]; exact hk) (by omega) v
theorem gR_11_11 {h : HP} (L : Lay h) : gR h 11 (some 108) 11 = some (some 113) := (gR_ok (L.o rfl) _).trans (congrArg some (L.r rfl))
theorem aI_c113 {h : HP} (L : Lay h) {k : Nat} (hk : k < 106) : aI h 13 (some 113) (ii k) = some (h.I 113 k) := aI_ok (L.o rfl) (by rw [L.n (k := 106) rfl]; exact hk) (by omega)
theorem sI_c113 {h : HP} (L : Lay h) {k : Nat} (hk : k < 106) (v : Int32) : sI h (some 113) (ii k) v = some (h.setI 113 k v) := sI_ok (L.o rfl) (by rw [L.n (k := 106) rfl]; exact hk) (by omega) v
theorem gR_11_12 {h : HP} (L : Lay h) : gR h 11 (some 108) 12 = some (some 114) := (gR_ok (L.o rfl) _).trans (congrArg some (L.r rfl))
theorem aI_c114 {h : HP} (L : Lay h) {k : Nat} (hk : k < 8192) : aI h 13 (some 114) (ii k) = some (h.I 114 k) := aI_ok (L.o rfl) (by rw [L.n (k := 8192) rfl]; exact hk) (by omega)
theorem sI_c114 {h : HP} (L : Lay h) {k : Nat} (hk : k < 8192) (v : Int32) : sI h (some 114) (ii k) v = some (h.setI 114 k v) := sI_ok (L.o rfl) (by rw [L.n (k := 8192) rfl]; exact hk) (by omega) v
theorem gR_11_13 {h : HP} (L : Lay h) : gR h 11 (some 108) 13 = some (some 115) := (gR_ok (L.o rfl) _).trans (congrArg some (L.r rfl))
theorem aJ_c115 {h : HP} (L : Lay h) {k : Nat} (hk : k < 8192) : aJ h (some 115) (ii k) = some (h.J 115 k) := aJ_ok (L.o rfl) (by rw [L.n (k := 8192) rfl]; exact hk) (by omega)
theorem sJ_c115 {h : HP} (L : Lay h) {k : Nat} (hk : k < 8192) (v : Int64) : sJ h (some 115) (ii k) v = some (h.setJ 115 k v) := sJ_ok (L.o rfl) (by rw [L.n (k := 8192) rfl]; exact hk) (by omega) v
theorem gR_11_14 {h : HP} (L : Lay h) : gR h 11 (some 108) 14 = some (some 116) := (gR_ok (L.o rfl) _).trans (congrArg some (L.r rfl))
theorem aI_c116 {h : HP} (L : Lay h) {k : Nat} (hk : k < 8192) : aI h 13 (some 116) (ii k) = some (h.I 116 k) := aI_ok (L.o rfl) (by rw [L.n (k := 8192) rfl]; exact hk) (by omega)
theorem sI_c116 {h : HP} (L : Lay h) {k : Nat} (hk : k < 8192) (v : Int32) : sI h (some 116) (ii k) v = some (h.setI 116 k v) := sI_ok (L.o rfl) (by rw [L.n (k := 8192) rfl]; exact hk) (by omega) v
theorem gR_11_15 {h : HP} (L : Lay h) : gR h 11 (some 108) 15 = some (some 117) := (gR_ok (L.o rfl) _).trans (congrArg some (L.r rfl))
theorem aI_c117 {h : HP} (L : Lay h) {k : Nat} (hk : k < 8192) : aI h 13 (some 117) (ii k) = some (h.I 117 k) := aI_ok (L.o rfl) (by rw [L.n (k := 8192) rfl]; exact hk) (by omega)
theorem sI_c117 {h : HP} (L : Lay h) {k : Nat} (hk : k < 8192) (v : Int32) : sI h (some 117) (ii k) v = some (h.setI 117 k v) := sI_ok (L.o rfl) (by rw [L.n (k := 8192) rfl]; exact hk) (by omega) v
theorem gR_11_16 {h : HP} (L : Lay h) : gR h 11 (some 108) 16 = some (some 118) := (gR_ok (L.o rfl) _).trans (congrArg some (L.r rfl))
theorem aJ_c118 {h : HP} (L : Lay h) {k : Nat} (hk : k < 8192) : aJ h (some 118) (ii k) = some (h.J 118 k) := aJ_ok (L.o rfl) (by rw [L.n (k := 8192) rfl]; exact hk) (by omega)
theorem sJ_c118 {h : HP} (L : Lay h) {k : Nat} (hk : k < 8192) (v : Int64) : sJ h (some 118) (ii k) v = some (h.setJ 118 k v) := sJ_ok (L.o rfl) (by rw [L.n (k := 8192) rfl]; exact hk) (by omega) v
theorem gR_11_20 {h : HP} (L : Lay h) : gR h 11 (some 108) 20 = some (some 119) := (gR_ok (L.o rfl) _).trans (congrArg some (L.r rfl))
theorem aI_c119 {h : HP} (L : Lay h) {k : Nat} (hk : k < 8) : aI h 13 (some 119) (ii k) = some (h.I 119 k) := aI_ok (L.o rfl) (by rw [L.n (k := 8) rfl]; exact hk) (by omega)
theorem sI_c119 {h : HP} (L : Lay h) {k : Nat} (hk : k < 8) (v : Int32) : sI h (some 119) (ii k) v = some (h.setI 119 k v) := sI_ok (L.o rfl) (by rw [L.n (k := 8) rfl]; exact hk) (by omega) v
theorem gR_11_21 {h : HP} (L : Lay h) : gR h 11 (some 108) 21 = some (some 120) := (gR_ok (L.o rfl) _).trans (congrArg some (L.r rfl))
theorem aI_c120 {h : HP} (L : Lay h) {k : Nat} (hk : k < 8) : aI h 13 (some 120) (ii k) = some (h.I 120 k) := aI_ok (L.o rfl) (by rw [L.n (k := 8) rfl]; exact hk) (by omega)
theorem sI_c120 {h : HP} (L : Lay h) {k : Nat} (hk : k < 8) (v : Int32) : sI h (some 120) (ii k) v = some (h.setI 120 k v) := sI_ok (L.o rfl) (by rw [L.n (k := 8) rfl]; exact hk) (by omega) v
theorem gR_11_22 {h : HP} (L : Lay h) : gR h 11 (some 108) 22 = some (some 121) := (gR_ok (L.o rfl) _).trans (congrArg some (L.r rfl))
theorem aI_c121 {h : HP} (L : Lay h) {k : Nat} (hk : k < 16) : aI h 13 (some 121) (ii k) = some (h.I 121 k) := aI_ok (L.o rfl) (by rw [L.n (k := 16) rfl]; exact hk) (by omega)
theorem sI_c121 {h : HP} (L : Lay h) {k : Nat} (hk : k < 16) (v : Int32) : sI h (some 121) (ii k) v = some (h.setI 121 k v) := sI_ok (L.o rfl) (by rw [L.n (k := 16) rfl]; exact hk) (by omega) v
theorem gR_11_23 {h : HP} (L : Lay h) : gR h 11 (some 108) 23 = some (some 122) := (gR_ok (L.o rfl) _).trans (congrArg some (L.r rfl))
theorem aI_c122 {h : HP} (L : Lay h) {k : Nat} (hk : k < 32) : aI h 13 (some 122) (ii k) = some (h.I 122 k) := aI_ok (L.o rfl) (by rw [L.n (k := 32) rfl]; exact hk) (by omega)
theorem sI_c122 {h : HP} (L : Lay h) {k : Nat} (hk : k < 32) (v : Int32) : sI h (some 122) (ii k) v = some (h.setI 122 k v) := sI_ok (L.o rfl) (by rw [L.n (k := 32) rfl]; exact hk) (by omega) v
theorem gR_11_24 {h : HP} (L : Lay h) : gR h 11 (some 108) 24 = some (some 123) := (gR_ok (L.o rfl) _).trans (congrArg some (L.r rfl))
theorem aI_c123 {h : HP} (L : Lay h) {k : Nat} (hk : k < 32) : aI h 13 (some 123) (ii k) = some (h.I 123 k) := aI_ok (L.o rfl) (by rw [L.n (k := 32) rfl]; exact hk) (by omega)
theorem sI_c123 {h : HP} (L : Lay h) {k : Nat} (hk : k < 32) (v : Int32) : sI h (some 123) (ii k) v = some (h.setI 123 k v) := sI_ok (L.o rfl) (by rw [L.n (k := 32) rfl]; exact hk) (by omega) v
theorem gR_11_25 {h : HP} (L : Lay h) : gR h 11 (some 108) 25 = some (some 124) := (gR_ok (L.o rfl) _).trans (congrArg some (L.r rfl))
theorem aI_c124 {h : HP} (L : Lay h) {k : Nat} (hk : k < 32) : aI h 13 (some 124) (ii k) = some (h.I 124 k) := aI_ok (L.o rfl) (by rw [L.n (k := 32) rfl]; exact hk) (by omega)
theorem sI_c124 {h : HP} (L : Lay h) {k : Nat} (hk : k < 32) (v : Int32) : sI h (some 124) (ii k) v = some (h.setI 124 k v) := sI_ok (L.o rfl) (by rw [L.n (k := 32) rfl]; exact hk) (by omega) v
theorem gR_11_26 {h : HP} (L : Lay h) : gR h 11 (some 108) 26 = some (some 125) := (gR_ok (L.o rfl) _).trans (congrArg some (L.r rfl))
theorem aI_c125 {h : HP} (L : Lay h) {k : Nat} (hk : k < 8) : aI h 13 (some 125) (ii k) = some (h.I 125 k) := aI_ok (L.o rfl) (by rw [L.n (k := 8) rfl]; exact hk) (by omega)
theorem sI_c125 {h : HP} (L : Lay h) {k : Nat} (hk : k < 8) (v : Int32) : sI h (some 125) (ii k) v = some (h.setI 125 k v) := sI_ok (L.o rfl) (by rw [L.n (k := 8) rfl]; exact hk) (by omega) v
theorem gR_11_28 {h : HP} (L : Lay h) : gR h 11 (some 108) 28 = some (some 126) := (gR_ok (L.o rfl) _).trans (congrArg some (L.r rfl))
theorem aI_c126 {h : HP} (L : Lay h) {k : Nat} (hk : k < 12) : aI h 13 (some 126) (ii k) = some (h.I 126 k) := aI_ok (L.o rfl) (by rw [L.n (k := 12) rfl]; exact hk) (by omega)
theorem sI_c126 {h : HP} (L : Lay h) {k : Nat} (hk : k < 12) (v : Int32) : sI h (some 126) (ii k) v = some (h.setI 126 k v) := sI_ok (L.o rfl) (by rw [L.n (k := 12) rfl]; exact hk) (by omega) v
theorem gR_11_29 {h : HP} (L : Lay h) : gR h 11 (some 108) 29 = some (some 127) := (gR_ok (L.o rfl) _).trans (congrArg some (L.r rfl))
theorem aI_c127 {h : HP} (L : Lay h) {k : Nat} (hk : k < 12) : aI h 13 (some 127) (ii k) = some (h.I 127 k) := aI_ok (L.o rfl) (by rw [L.n (k := 12) rfl]; exact hk) (by omega)
theorem sI_c127 {h : HP} (L : Lay h) {k : Nat} (hk : k < 12) (v : Int32) : sI h (some 127) (ii k) v = some (h.setI 127 k v) := sI_ok (L.o rfl) (by rw [L.n (k := 12) rfl]; exact hk) (by omega) v
theorem gR_11_30 {h : HP} (L : Lay h) : gR h 11 (some 108) 30 = some (some 128) := (gR_ok (L.o rfl) _).trans (congrArg some (L.r rfl))
theorem aI_c128 {h : HP} (L : Lay h) {k : Nat} (hk : k < 12) : aI h 13 (some 128) (ii k) = some (h.I 128 k) := aI_ok (L.o rfl) (by rw [L.n (k := 12) rfl]; exact hk) (by omega)
theorem sI_c128 {h : HP} (L : Lay h) {k : Nat} (hk : k < 12) (v : Int32) : sI h (some 128) (ii k) v = some (h.setI 128 k v) := sI_ok (L.o rfl) (by rw [L.n (k := 12) rfl]; exact hk) (by omega) v
theorem gR_11_31 {h : HP} (L : Lay h) : gR h 11 (some 108) 31 = some (some 129) := (gR_ok (L.o rfl) _).trans (congrArg some (L.r rfl))
theorem aI_c129 {h : HP} (L : Lay h) {k : Nat} (hk : k < 12) : aI h 13 (some 129) (ii k) = some (h.I 129 k) := aI_ok (L.o rfl) (by rw [L.n (k := 12) rfl]; exact hk) (by omega)
theorem sI_c129 {h : HP} (L : Lay h) {k : Nat} (hk : k < 12) (v : Int32) : sI h (some 129) (ii k) v = some (h.setI 129 k v) := sI_ok (L.o rfl) (by rw [L.n (k := 12) rfl]; exact hk) (by omega) v
theorem gR_11_32 {h : HP} (L : Lay h) : gR h 11 (some 108) 32 = some (some 130) := (gR_ok (L.o rfl) _).trans (congrArg some (L.r rfl))
theorem aI_c130 {h : HP} (L : Lay h) {k : Nat} (hk : k < 12) : aI h 13 (some 130) (ii k) = some (h.I 130 k) := aI_ok (L.o rfl) (by rw [L.n (k := 12) rfl]; exact hk) (by omega)
theorem sI_c130 {h : HP} (L : Lay h) {k : Nat} (hk : k < 12) (v : Int32) : sI h (some 130) (ii k) v = some (h.setI 130 k v) := sI_ok (L.o rfl) (by rw [L.n (k := 12) rfl]; exact hk) (by omega) v
theorem gR_11_33 {h : HP} (L : Lay h) : gR h 11 (some 108) 33 = some (some 131) := (gR_ok (L.o rfl) _).trans (congrArg some (L.r rfl))
theorem aI_c131 {h : HP} (L : Lay h) {k : Nat} (hk : k < 12) : aI h 13 (some 131) (ii k) = some (h.I 131 k) := aI_ok (L.o rfl) (by rw [L.n (k := 12) rfl]; exact hk) (by omega)
theorem sI_c131 {h : HP} (L : Lay h) {k : Nat} (hk : k < 12) (v : Int32) : sI h (some 131) (ii k) v = some (h.setI 131 k v) := sI_ok (L.o rfl) (by rw [L.n (k := 12) rfl]; exact hk) (by omega) v
theorem gR_11_34 {h : HP} (L : Lay h) : gR h 11 (some 108) 34 = some (some 132) := (gR_ok (L.o rfl) _).trans (congrArg some (L.r rfl))
theorem aI_c132 {h : HP} (L : Lay h) {k : Nat} (hk : k < 12) : aI h 13 (some 132) (ii k) = some (h.I 132 k) := aI_ok (L.o rfl) (by rw [L.n (k := 12) rfl]; exact hk) (by omega)
theorem sI_c132 {h : HP} (L : Lay h) {k : Nat} (hk : k < 12) (v : Int32) : sI h (some 132) (ii k) v = some (h.setI 132 k v) := sI_ok (L.o rfl) (by rw [L.n (k := 12) rfl]; exact hk) (by omega) v
theorem gR_11_37 {h : HP} (L : Lay h) : gR h 11 (some 108) 37 = some (some 133) := (gR_ok (L.o rfl) _).trans (congrArg some (L.r rfl))
theorem aI_c133 {h : HP} (L : Lay h) {k : Nat} (hk : k < 6) : aI h 13 (some 133) (ii k) = some (h.I 133 k) := aI_ok (L.o rfl) (by rw [L.n (k := 6) rfl]; exact hk) (by omega)
theorem sI_c133 {h : HP} (L : Lay h) {k : Nat} (hk : k < 6) (v : Int32) : sI h (some 133) (ii k) v = some (h.setI 133 k v) := sI_ok (L.o rfl) (by rw [L.n (k := 6) rfl]; exact hk) (by omega) v
theorem gR_11_39 {h : HP} (L : Lay h) : gR h 11 (some 108) 39 = some (some 134) := (gR_ok (L.o rfl) _).trans (congrArg some (L.r rfl))
theorem aI_c134 {h : HP} (L : Lay h) {k : Nat} (hk : k < 64) : aI h 13 (some 134) (ii k) = some (h.I 134 k) := aI_ok (L.o rfl) (by rw [L.n (k := 64) rfl]; exact hk) (by omega)
theorem sI_c134 {h : HP} (L : Lay h) {k : Nat} (hk : k < 64) (v : Int32) : sI h (some 134) (ii k) v = some (h.setI 134 k v) := sI_ok (L.o rfl) (by rw [L.n (k := 64) rfl]; exact hk) (by omega) v
theorem gR_11_40 {h : HP} (L : Lay h) : gR h 11 (some 108) 40 = some (some 135) := (gR_ok (L.o rfl) _).trans (congrArg some (L.r rfl))
theorem aI_c135 {h : HP} (L : Lay h) {k : Nat} (hk : k < 4) : aI h 13 (some 135) (ii k) = some (h.I 135 k) := aI_ok (L.o rfl) (by rw [L.n (k := 4) rfl]; exact hk) (by omega)
theorem sI_c135 {h : HP} (L : Lay h) {k : Nat} (hk : k < 4) (v : Int32) : sI h (some 135) (ii k) v = some (h.setI 135 k v) := sI_ok (L.o rfl) (by rw [L.n (k := 4) rfl]; exact hk) (by omega) v
theorem gR_8_2 {h : HP} (L : Lay h) : gR h 8 (some 2) 2 = some (some 3) := (gR_ok (L.o rfl) _).trans (congrArg some (L.r rfl))
theorem aB_c3 {h : HP} (L : Lay h) {k : Nat} (hk : k < 400) : aI h 12 (some 3) (ii k) = some (h.I 3 k) := aI_ok (L.o rfl) (by rw [L.n (k := 400) rfl]; exact hk) (by omega)
theorem sB_c3 {h : HP} (L : Lay h) {k : Nat} (hk : k < 400) (v : Int32) : sB h (some 3) (ii k) v = some (h.setI 3 k (vp_nar .byte v)) := sB_ok (L.o rfl) (by rw [L.n (k := 400) rfl]; exact hk) (by omega) v
theorem gR_5_2 {h : HP} (L : Lay h) : gR h 5 (some 44) 2 = some (some 45) := (gR_ok (L.o rfl) _).trans (congrArg some (L.r rfl))
theorem gR_0_0 {h : HP} (L : Lay h) : gR h 0 (some 100) 0 = some (some 101) := (gR_ok (L.o rfl) _).trans (congrArg some (L.r rfl))
theorem aI_c101 {h : HP} (L : Lay h) {k : Nat} (hk : k < 4) : aI h 13 (some 101) (ii k) = some (h.I 101 k) := aI_ok (L.o rfl) (by rw [L.n (k := 4) rfl]; exact hk) (by omega)
theorem sI_c101 {h : HP} (L : Lay h) {k : Nat} (hk : k < 4) (v : Int32) : sI h (some 101) (ii k) v = some (h.setI 101 k v) := sI_ok (L.o rfl) (by rw [L.n (k := 4) rfl]; exact hk) (by omega) v
theorem aI_c1 {h : HP} (L : Lay h) {k : Nat} (hk : k < 8192) : aI h 13 (some 1) (ii k) = some (h.I 1 k) := aI_ok (L.o rfl) (by rw [L.n (k := 8192) rfl]; exact hk) (by omega)
theorem sI_c1 {h : HP} (L : Lay h) {k : Nat} (hk : k < 8192) (v : Int32) : sI h (some 1) (ii k) v = some (h.setI 1 k v) := sI_ok (L.o rfl) (by rw [L.n (k := 8192) rfl]; exact hk) (by omega) v
theorem aJ_c136 {h : HP} (L : Lay h) {k : Nat} (hk : k < 1) : aJ h (some 136) (ii k) = some (h.J 136 k) := aJ_ok (L.o rfl) (by rw [L.n (k := 1) rfl]; exact hk) (by omega)
theorem sJ_c136 {h : HP} (L : Lay h) {k : Nat} (hk : k < 1) (v : Int64) : sJ h (some 136) (ii k) v = some (h.setJ 136 k v) := sJ_ok (L.o rfl) (by rw [L.n (k := 1) rfl]; exact hk) (by omega) v
theorem gR_10_0 {h : HP} (L : Lay h) : gR h 10 (some 0) 0 = some (some 2) := (gR_ok (L.o rfl) _).trans (congrArg some (L.r rfl))
theorem gR_10_1 {h : HP} (L : Lay h) : gR h 10 (some 0) 1 = some (some 4) := (gR_ok (L.o rfl) _).trans (congrArg some (L.r rfl))
theorem gR_10_2 {h : HP} (L : Lay h) : gR h 10 (some 0) 2 = some (some 22) := (gR_ok (L.o rfl) _).trans (congrArg some (L.r rfl))
theorem gR_10_3 {h : HP} (L : Lay h) : gR h 10 (some 0) 3 = some (some 40) := (gR_ok (L.o rfl) _).trans (congrArg some (L.r rfl))
theorem gR_10_4 {h : HP} (L : Lay h) : gR h 10 (some 0) 4 = some (some 42) := (gR_ok (L.o rfl) _).trans (congrArg some (L.r rfl))
theorem gR_10_5 {h : HP} (L : Lay h) : gR h 10 (some 0) 5 = some (some 44) := (gR_ok (L.o rfl) _).trans (congrArg some (L.r rfl))
theorem gR_10_6 {h : HP} (L : Lay h) : gR h 10 (some 0) 6 = some (some 62) := (gR_ok (L.o rfl) _).trans (congrArg some (L.r rfl))
theorem gR_10_7 {h : HP} (L : Lay h) : gR h 10 (some 0) 7 = some (some 67) := (gR_ok (L.o rfl) _).trans (congrArg some (L.r rfl))
theorem gR_10_8 {h : HP} (L : Lay h) : gR h 10 (some 0) 8 = some (some 80) := (gR_ok (L.o rfl) _).trans (congrArg some (L.r rfl))
theorem gR_10_9 {h : HP} (L : Lay h) : gR h 10 (some 0) 9 = some (some 82) := (gR_ok (L.o rfl) _).trans (congrArg some (L.r rfl))
theorem gR_10_10 {h : HP} (L : Lay h) : gR h 10 (some 0) 10 = some (some 87) := (gR_ok (L.o rfl) _).trans (congrArg some (L.r rfl))
theorem gR_10_11 {h : HP} (L : Lay h) : gR h 10 (some 0) 11 = some (some 100) := (gR_ok (L.o rfl) _).trans (congrArg some (L.r rfl))
theorem gR_10_12 {h : HP} (L : Lay h) : gR h 10 (some 0) 12 = some (h.R 0 12) := gR_ok (L.o rfl) 12
theorem gR_10_13 {h : HP} (L : Lay h) : gR h 10 (some 0) 13 = some (h.R 0 13) := gR_ok (L.o rfl) 13
theorem gR_10_14 {h : HP} (L : Lay h) : gR h 10 (some 0) 14 = some (h.R 0 14) := gR_ok (L.o rfl) 14
theorem aR_45 {h : HP} (L : Lay h) {k : Nat} (hk : k < 8) : aR h (some 45) (ii k) = some (some (46 + 2 * k)) := by
  rw [aR_ok (L.o rfl) (by rw [L.n (k := 8) rfl]; exact hk) (by omega)]
  match k, hk with
  | 0, _ => exact congrArg some (L.r rfl)
  | 1, _ => exact congrArg some (L.r rfl)
  | 2, _ => exact congrArg some (L.r rfl)
  | 3, _ => exact congrArg some (L.r rfl)
  | 4, _ => exact congrArg some (L.r rfl)
  | 5, _ => exact congrArg some (L.r rfl)
  | 6, _ => exact congrArg some (L.r rfl)
  | 7, _ => exact congrArg some (L.r rfl)
  | k + 8, hk => exact absurd hk (by omega)
theorem gJ_11 {h : HP} (L : Lay h) (k : Nat) : gJ h 11 (some 108) k = some (h.J 108 k) := gJ_ok (L.o rfl) k
theorem pJ_11 {h : HP} (L : Lay h) (k : Nat) (v : Int64) : pJ h 11 (some 108) k v = some (h.setJ 108 k v) := pJ_ok (L.o rfl) k v
theorem pZ_11 {h : HP} (L : Lay h) (k : Nat) {v : Int32} (hv : v = 0 ∨ v = 1) : pZ h 11 (some 108) k v = some (h.setI 108 k v) := pZ_ok (L.o rfl) k hv
