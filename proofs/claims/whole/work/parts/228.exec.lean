/-! forward execution -/
theorem wp_hide {α β : Type} {o : Option α} {f : α → Option β} {C : β → Prop} (h : ∀ P : α → Prop, (∀ a, wpO (f a) C → P a) → wpO o P) : wpO (o.bind f) C := wp_bind (h _ (fun _ q => q))
theorem wp_hid2 {α β γ : Type} {o : Option (α × β)} {f : α → β → Option γ} {C : γ → Prop} (h : ∀ P : α × β → Prop, (∀ a b, wpO (f a b) C → P (a, b)) → wpO o P) : wpO (bd2 o f) C := wp_bd2 (h _ (fun _ _ q => q))
theorem wp_nmh {β : Type} {x : Int32} {f : Int32 → Option β} {C : β → Prop} (h : ∀ P : Int32 → Prop, (∀ a, wpO (f a) C → P a) → P x) : wpO (nmI x f) C := h (fun a => wpO (f a) C) (fun _ q => q)
theorem wp_nmJ {β : Type} {x : Int64} {f : Int64 → Option β} {C : β → Prop} (h : ∀ P : Int64 → Prop, (∀ a, wpO (f a) C → P a) → P x) : wpO (nmJ x f) C := h (fun a => wpO (f a) C) (fun _ q => q)
theorem wp_call {α β : Type} {o : Option α} {f : α → Option β} {C : β → Prop} {Q : α → Prop} (h : wpO o Q) (k : ∀ a, Q a → wpO (f a) C) : wpO (o.bind f) C := wp_bind (wp_mono h k)
theorem wp_cal2 {α β γ : Type} {o : Option (α × β)} {f : α → β → Option γ} {C : γ → Prop} {Q : α × β → Prop} (h : wpO o Q) (k : ∀ a b, Q (a, b) → wpO (f a b) C) : wpO (bd2 o f) C := wp_bd2 (wp_mono h (fun p q => k p.1 p.2 q))
theorem wp_ip {α : Type} {c : Prop} [Decidable c] {X Y : Option α} {C : α → Prop} (hc : c) (h : wpO X C) : wpO (if c then X else Y) C := by rw [if_pos hc]; exact h
theorem wp_in {α : Type} {c : Prop} [Decidable c] {X Y : Option α} {C : α → Prop} (hc : ¬ c) (h : wpO Y C) : wpO (if c then X else Y) C := by rw [if_neg hc]; exact h
theorem wp_fin {α : Type} {x : α} {C : α → Prop} (h : ∀ P : α → Prop, (∀ a, C a → P a) → P x) : wpO (some x) C := wp_some (h C (fun _ q => q))
theorem eq_wp {α : Type} {o : Option α} {v : α} (h : wpO o (fun a => a = v)) : o = some v := by
  obtain ⟨a, e, q⟩ := h
  rw [e, q]
theorem wp_get {α : Type} {o : Option α} {v : α} {C : α → Prop} (e : o = some v) (h : wpO o C) : C v := by
  obtain ⟨a, e2, q⟩ := h
  rw [e] at e2
  cases e2
  exact q
/-- a loop whose turns are told ahead, its end by what follows -/
theorem wp_seq {σ ρ : Type} {body : σ → Option (σ ⊕ ρ)} {C : ρ → Prop} {s0 : σ} {F : Nat} (st : Nat → σ) (N : Nat) (hF : N < F) (h0 : s0 = st 0) (hs : ∀ k, k < N → wpO (body (st k)) (fun o => o = .inl (st (k + 1)))) (he : wpO (body (st N)) (fun o => ∃ r, o = .inr r ∧ C r)) : wpO (iter body F s0) C := by
  obtain ⟨o, e, r, e2, c⟩ := he
  rw [e2] at e
  rw [h0]
  exact ⟨r, iter_seq st N hF (fun k hk => eq_wp (hs k hk)) e, c⟩
/-- a loop by what holds at its turns -/
theorem wp_inv {σ ρ : Type} {body : σ → Option (σ ⊕ ρ)} {C : ρ → Prop} {s0 : σ} {F : Nat} (P : Nat → σ → Prop) (N : Nat) (hF : N < F) (h0 : P 0 s0) (hs : ∀ k s, k < N → P k s → wpO (body s) (fun o => ∃ s', o = .inl s' ∧ P (k + 1) s')) (he : ∀ s, P N s → wpO (body s) (fun o => ∃ r, o = .inr r ∧ C r)) : wpO (iter body F s0) C := by
  refine wp_iter P N hF h0 ?_
  intro k s hk hP
  by_cases e : k = N
  · subst e
    refine wp_mono (he s hP) ?_
    intro o ⟨r, e, c⟩
    rw [e]; exact c
  · refine wp_mono (hs k s (by omega) hP) ?_
    intro o ⟨s', e2, c⟩
    rw [e2]; exact ⟨by omega, c⟩
def mI : Int32 := -1
def mJ : Int64 := -1
theorem neg1 : -(ii 1) = mI := rfl
theorem negJ : -(jj 1) = mJ := rfl
theorem mI_ne {a : Nat} (ha : a < 2147483648) : (mI = ii a) = False := eq_false (ii_ne1' ha)
theorem ne_mI {a : Nat} (ha : a < 2147483648) : (ii a = mI) = False := eq_false (ii_ne1 ha)
theorem mI_le {a : Nat} (ha : a < 2147483648) : (mI ≤ ii a) = True := by
  refine eq_true ?_
  rw [Int32.le_iff_toInt_le, ii_toInt ha]
  show (-1 : Int) ≤ _
  omega
theorem mI_nle {a : Nat} (ha : a < 2147483648) : (ii a ≤ mI) = False := by
  refine eq_false ?_
  rw [Int32.le_iff_toInt_le, ii_toInt ha]
  show ¬ (_ : Int) ≤ (-1 : Int)
  omega
theorem jshl1 {k : Nat} (hk : k < 32) : jshl (ii 1) (ii k) = ii (2 ^ k) := jshl_one hk
theorem ii_dv {a b : Nat} (ha : a < 2147483648) (hb : b < 2147483648) : ii a / ii b = ii (a / b) := ii_div ha hb
theorem ii_rm {a b : Nat} (ha : a < 2147483648) (hb : b < 2147483648) : jrem (ii a) (ii b) = ii (a % b) := ii_rem ha hb
theorem shr_b (S : Nat) {k : Nat} (hk : k < 32) : jshr (ii S) (ii k) &&& ii 1 = ii (S.testBit k).toNat := by
  rw [show ii 1 = (1 : Int32) from rfl, shr1 _ hk, tb_ii _ _ hk]
theorem bt1 (b : Bool) : (ii b.toNat = ii 1) = (b = true) := propext (ii_eq1 b)
theorem bt0 (b : Bool) : (ii b.toNat = ii 0) = (b = false) := propext (ii_eq0 b)
theorem two_le {n : Nat} : 1 ≤ 2 ^ n := Nat.two_pow_pos n
theorem lay_setI (h : HP) (a k : Nat) (v : Int32) : Lay (h.setI a k v) = Lay h := rfl
theorem lay_setJ (h : HP) (a k : Nat) (v : Int64) : Lay (h.setJ a k v) = Lay h := rfl
theorem mw_setI {h : HP} {a : Nat} (ha : a ≠ 109) (k : Nat) (v : Int32) (u : Nat → Nat) : Mw (h.setI a k v) u = Mw h u := by
  unfold Mw
  rw [setI_cell _ _ _ (fun e => ha e.symm)]
theorem mw_setJ (h : HP) (a k : Nat) (v : Int64) (u : Nat → Nat) : Mw (h.setJ a k v) u = Mw h u := rfl
