/-! what the reference lays out leaves its longs -/
def wlp {α : Type} (o : Option α) (Q : α → Prop) : Prop := ∀ a, o = some a → Q a
theorem wlp_some {α : Type} {x : α} {Q : α → Prop} (h : Q x) : wlp (some x) Q := fun a e => by cases e; exact h
theorem wlp_blk {α β : Type} {o : Option α} {f : α → Option β} {P : α → Prop} {Q : β → Prop} (h1 : wlp o P) (h2 : ∀ a, P a → wlp (f a) Q) : wlp (o.bind f) Q := by
  intro b e
  cases o with
  | none => cases e
  | some a => exact h2 a (h1 a rfl) b e
theorem wlp_any {α β : Type} {o : Option α} {f : α → Option β} {Q : β → Prop} (h : ∀ a, wlp (f a) Q) : wlp (o.bind f) Q := wlp_blk (P := fun _ => True) (fun _ _ => trivial) (fun a _ => h a)
theorem wlp_ite {α : Type} {c : Prop} [Decidable c] {X Y : Option α} {Q : α → Prop} (h1 : c → wlp X Q) (h2 : ¬ c → wlp Y Q) : wlp (if c then X else Y) Q := by
  by_cases g : c
  · rw [if_pos g]; exact h1 g
  · rw [if_neg g]; exact h2 g
theorem wlp_nm {β : Type} {x : Int32} {f : Int32 → Option β} {Q : β → Prop} (h : wlp (f x) Q) : wlp (nmI x f) Q := h
theorem wlp_b2 {α β γ : Type} {o : Option (α × β)} {f : α → β → Option γ} {P : β → Prop} {Q : γ → Prop} (h1 : wlp o (fun p => P p.2)) (h2 : ∀ a b, P b → wlp (f a b) Q) : wlp (bd2 o f) Q := wlp_blk h1 (fun p hp => h2 p.1 p.2 hp)
theorem wlp_any2 {α β γ : Type} {o : Option (α × β)} {f : α → β → Option γ} {Q : γ → Prop} (h : ∀ a b, wlp (f a b) Q) : wlp (bd2 o f) Q := wlp_any (fun p => h p.1 p.2)
theorem wlp_iter {σ ρ : Type} {body : σ → Option (σ ⊕ ρ)} {P : σ → Prop} {C : ρ → Prop} (hb : ∀ s, P s → wlp (body s) (fun o => match o with | .inl s' => P s' | .inr r => C r)) : ∀ (F : Nat) (s : σ), P s → wlp (iter body F s) C := by
  intro F
  induction F with
  | zero => intro s _ a e; cases e
  | succ F ih =>
    intro s hs a e
    unfold iter at e
    cases y : body s with
    | none => rw [y] at e; cases e
    | some o =>
      rw [y] at e
      have q := hb s hs o y
      cases o with
      | inl s' => exact ih s' q a e
      | inr r => cases e; exact q
def Jh (K : Nat → Nat → Int64) (h : HP) : Prop := h.J = K
theorem wlp_blkH {β : Type} {o : Option HP} {f : HP → Option β} {K : Nat → Nat → Int64} {Q : β → Prop} (h1 : wlp o (Jh K)) (h2 : ∀ a, Jh K a → wlp (f a) Q) : wlp (o.bind f) Q := wlp_blk h1 h2
section
variable {K : Nat → Nat → Int64} {h : HP}
theorem wlp_pI {ci k : Nat} {r : Option Nat} {v : Int32} (hJ : Jh K h) : wlp (pI h ci r k v) (Jh K) := by
  intro h1 e
  unfold pI at e
  cases r with
  | none => cases e
  | some a =>
    simp only [Option.bind_some] at e
    split at e
    · cases e; exact hJ
    · cases e
theorem wlp_pZ {ci k : Nat} {r : Option Nat} {v : Int32} (hJ : Jh K h) : wlp (pZ h ci r k v) (Jh K) := by
  intro h1 e
  unfold pZ at e
  cases r with
  | none => cases e
  | some a =>
    simp only [Option.bind_some] at e
    split at e
    · cases e; exact hJ
    · cases e
theorem wlp_sI {i : Int32} {r : Option Nat} {v : Int32} (hJ : Jh K h) : wlp (sI h r i v) (Jh K) := by
  intro h1 e
  unfold sI at e
  cases r with
  | none => cases e
  | some a =>
    simp only [Option.bind_some] at e
    split at e
    · cases e; exact hJ
    · cases e
end
def Q2 (K : Nat → Nat → Int64) (o : (Int32 × HP) ⊕ HP) : Prop := match o with | .inl s => Jh K s.2 | .inr r => Jh K r
def Q3 (K : Nat → Nat → Int64) (o : (Int32 × Int32 × HP) ⊕ HP) : Prop := match o with | .inl s => Jh K s.2.2 | .inr r => Jh K r
def Q5 (K : Nat → Nat → Int64) (o : (Int32 × Int32 × Int32 × Int32 × HP) ⊕ HP) : Prop := match o with | .inl s => Jh K s.2.2.2.2 | .inr r => Jh K r
def Qp (K : Nat → Nat → Int64) (o : (Int32 × HP) ⊕ (Int32 × HP)) : Prop := match o with | .inl s => Jh K s.2 | .inr r => Jh K r.2
theorem it2 {K : Nat → Nat → Int64} {body : Int32 → HP → Option ((Int32 × HP) ⊕ HP)} (hb : ∀ i h, Jh K h → wlp (body i h) (Q2 K)) (F : Nat) {i : Int32} {h : HP} (hJ : Jh K h) : wlp (iter (fun s => body s.1 s.2) F (i, h)) (Jh K) := wlp_iter (P := fun s => Jh K s.2) (fun s hs o e => by
  have := hb s.1 s.2 hs o e
  cases o <;> exact this) F (i, h) hJ
section
variable {K : Nat → Nat → Int64} {h : HP} {F l0 : Nat}
theorem nj_laysColumn {l1 l2 l3 l4 : Int32} (hJ : Jh K h) : wlp (sX11_laysColumn F l0 l1 l2 l3 l4 h) (Jh K) := by
  unfold sX11_laysColumn
  repeat' (first | (refine wlp_some ?_; assumption) | (refine wlp_blk (wlp_sI (by assumption)) (fun _ _ => ?_)) | (refine wlp_blk (wlp_pI (by assumption)) (fun _ _ => ?_)) | (refine wlp_blk (wlp_pZ (by assumption)) (fun _ _ => ?_)) | (refine wlp_ite (fun _ => ?_) (fun _ => ?_)) | (refine wlp_nm ?_) | (refine wlp_blkH (K := K) ?_ (fun _ _ => ?_)) | (refine wlp_any (fun _ => ?_)) | (refine wlp_any2 (fun _ _ => ?_)))
theorem nj_laysNet_L {l1 l2 : Int32} (hJ : Jh K h) : wlp (sX11_laysNet_L23 F l0 l1 l2 h) (Q2 K) := by
  unfold sX11_laysNet_L23
  repeat' (first | (refine wlp_some ?_; assumption) | (refine wlp_blk (wlp_sI (by assumption)) (fun _ _ => ?_)) | (refine wlp_blk (wlp_pI (by assumption)) (fun _ _ => ?_)) | (refine wlp_blk (wlp_pZ (by assumption)) (fun _ _ => ?_)) | (refine wlp_ite (fun _ => ?_) (fun _ => ?_)) | (refine wlp_nm ?_) | (refine wlp_blkH (K := K) ?_ (fun _ _ => ?_)) | (refine wlp_any (fun _ => ?_)) | (refine wlp_any2 (fun _ _ => ?_)))
theorem nj_laysNet_i {l1 i : Int32} (hJ : Jh K h) : wlp (iter (fun s => sX11_laysNet_L23 F l0 l1 s.1 s.2) F (i, h)) (Jh K) := it2 (body := fun a b => sX11_laysNet_L23 F l0 l1 a b) (fun _ _ w => nj_laysNet_L w) F hJ
theorem nj_laysNet {l1 : Int32} (hJ : Jh K h) : wlp (sX11_laysNet F l0 l1 h) (Jh K) := by
  unfold sX11_laysNet
  repeat' (first | (refine wlp_some ?_; assumption) | (refine wlp_blk (wlp_sI (by assumption)) (fun _ _ => ?_)) | (refine wlp_blk (wlp_pI (by assumption)) (fun _ _ => ?_)) | (refine wlp_blk (wlp_pZ (by assumption)) (fun _ _ => ?_)) | (refine wlp_blk (nj_laysNet_i (by assumption)) (fun _ _ => ?_)) | (refine wlp_ite (fun _ => ?_) (fun _ => ?_)) | (refine wlp_nm ?_) | (refine wlp_blkH (K := K) ?_ (fun _ _ => ?_)) | (refine wlp_any (fun _ => ?_)) | (refine wlp_any2 (fun _ _ => ?_)))
theorem nj_cols_9 {l1 l2 : Int32} (hJ : Jh K h) : wlp (sX11_laysColumns_L9 F l0 l1 l2 h) (Q3 K) := by
  unfold sX11_laysColumns_L9
  repeat' (first | (refine wlp_some ?_; assumption) | (refine wlp_blk (wlp_sI (by assumption)) (fun _ _ => ?_)) | (refine wlp_blk (wlp_pI (by assumption)) (fun _ _ => ?_)) | (refine wlp_blk (wlp_pZ (by assumption)) (fun _ _ => ?_)) | (refine wlp_blk (nj_laysColumn (by assumption)) (fun _ _ => ?_)) | (refine wlp_ite (fun _ => ?_) (fun _ => ?_)) | (refine wlp_nm ?_) | (refine wlp_blkH (K := K) ?_ (fun _ _ => ?_)) | (refine wlp_any (fun _ => ?_)) | (refine wlp_any2 (fun _ _ => ?_)))
theorem nj_cols_9i {a b : Int32} (hJ : Jh K h) : wlp (iter (fun s => sX11_laysColumns_L9 F l0 s.1 s.2.1 s.2.2) F (a, b, h)) (Jh K) := wlp_iter (P := fun s => Jh K s.2.2) (fun s hs o e => by
  have := nj_cols_9 hs o e
  cases o <;> exact this) F (a, b, h) hJ
theorem nj_cols_145 {l2 : Int32} (hJ : Jh K h) : wlp (sX11_laysColumns_L145 F l0 l2 h) (Q2 K) := by
  unfold sX11_laysColumns_L145
  repeat' (first | (refine wlp_some ?_; assumption) | (refine wlp_blk (wlp_sI (by assumption)) (fun _ _ => ?_)) | (refine wlp_blk (wlp_pI (by assumption)) (fun _ _ => ?_)) | (refine wlp_blk (wlp_pZ (by assumption)) (fun _ _ => ?_)) | (refine wlp_blk (nj_laysNet (by assumption)) (fun _ _ => ?_)) | (refine wlp_ite (fun _ => ?_) (fun _ => ?_)) | (refine wlp_nm ?_) | (refine wlp_blkH (K := K) ?_ (fun _ _ => ?_)) | (refine wlp_any (fun _ => ?_)) | (refine wlp_any2 (fun _ _ => ?_)))
theorem nj_cols_145i {i : Int32} (hJ : Jh K h) : wlp (iter (fun s => sX11_laysColumns_L145 F l0 s.1 s.2) F (i, h)) (Jh K) := it2 (body := fun a b => sX11_laysColumns_L145 F l0 a b) (fun _ _ w => nj_cols_145 w) F hJ
theorem nj_laysColumns (hJ : Jh K h) : wlp (sX11_laysColumns F l0 h) (Jh K) := by
  unfold sX11_laysColumns
  repeat' (first | (refine wlp_some ?_; assumption) | (refine wlp_blk (wlp_sI (by assumption)) (fun _ _ => ?_)) | (refine wlp_blk (wlp_pI (by assumption)) (fun _ _ => ?_)) | (refine wlp_blk (wlp_pZ (by assumption)) (fun _ _ => ?_)) | (refine wlp_blk (nj_cols_9i (by assumption)) (fun _ _ => ?_)) | (refine wlp_blk (nj_cols_145i (by assumption)) (fun _ _ => ?_)) | (refine wlp_ite (fun _ => ?_) (fun _ => ?_)) | (refine wlp_nm ?_) | (refine wlp_blkH (K := K) ?_ (fun _ _ => ?_)) | (refine wlp_any (fun _ => ?_)) | (refine wlp_any2 (fun _ _ => ?_)))
theorem nj_rest_2 {l1 l2 l3 : Int32} (hJ : Jh K h) : wlp (sX11_restOf_L2 F l0 l1 l2 l3 h) (Q2 K) := by
  unfold sX11_restOf_L2
  repeat' (first | (refine wlp_some ?_; assumption) | (refine wlp_blk (wlp_sI (by assumption)) (fun _ _ => ?_)) | (refine wlp_blk (wlp_pI (by assumption)) (fun _ _ => ?_)) | (refine wlp_blk (wlp_pZ (by assumption)) (fun _ _ => ?_)) | (refine wlp_ite (fun _ => ?_) (fun _ => ?_)) | (refine wlp_nm ?_) | (refine wlp_blkH (K := K) ?_ (fun _ _ => ?_)) | (refine wlp_any (fun _ => ?_)) | (refine wlp_any2 (fun _ _ => ?_)))
theorem nj_rest_2i {l1 l2 i : Int32} (hJ : Jh K h) : wlp (iter (fun s => sX11_restOf_L2 F l0 l1 l2 s.1 s.2) F (i, h)) (Jh K) := it2 (body := fun a b => sX11_restOf_L2 F l0 l1 l2 a b) (fun _ _ w => nj_rest_2 w) F hJ
theorem nj_rest_64 {l1 l2 l3 l4 l5 : Int32} (hJ : Jh K h) : wlp (sX11_restOf_L64 F l0 l1 l2 l3 l4 l5 h) (Q2 K) := by
  unfold sX11_restOf_L64
  repeat' (first | (refine wlp_some ?_; assumption) | (refine wlp_blk (wlp_sI (by assumption)) (fun _ _ => ?_)) | (refine wlp_blk (wlp_pI (by assumption)) (fun _ _ => ?_)) | (refine wlp_blk (wlp_pZ (by assumption)) (fun _ _ => ?_)) | (refine wlp_ite (fun _ => ?_) (fun _ => ?_)) | (refine wlp_nm ?_) | (refine wlp_blkH (K := K) ?_ (fun _ _ => ?_)) | (refine wlp_any (fun _ => ?_)) | (refine wlp_any2 (fun _ _ => ?_)))
theorem nj_rest_64i {l1 l2 l3 l4 i : Int32} (hJ : Jh K h) : wlp (iter (fun s => sX11_restOf_L64 F l0 l1 l2 l3 l4 s.1 s.2) F (i, h)) (Jh K) := it2 (body := fun a b => sX11_restOf_L64 F l0 l1 l2 l3 l4 a b) (fun _ _ w => nj_rest_64 w) F hJ
theorem nj_rest_56 {l1 l2 l3 l4 : Int32} (hJ : Jh K h) : wlp (sX11_restOf_L56 F l0 l1 l2 l3 l4 h) (Q2 K) := by
  unfold sX11_restOf_L56
  repeat' (first | (refine wlp_some ?_; assumption) | (refine wlp_blk (wlp_sI (by assumption)) (fun _ _ => ?_)) | (refine wlp_blk (wlp_pI (by assumption)) (fun _ _ => ?_)) | (refine wlp_blk (wlp_pZ (by assumption)) (fun _ _ => ?_)) | (refine wlp_blk (nj_rest_64i (by assumption)) (fun _ _ => ?_)) | (refine wlp_ite (fun _ => ?_) (fun _ => ?_)) | (refine wlp_nm ?_) | (refine wlp_blkH (K := K) ?_ (fun _ _ => ?_)) | (refine wlp_any (fun _ => ?_)) | (refine wlp_any2 (fun _ _ => ?_)))
theorem nj_rest_56i {l1 l2 l3 i : Int32} (hJ : Jh K h) : wlp (iter (fun s => sX11_restOf_L56 F l0 l1 l2 l3 s.1 s.2) F (i, h)) (Jh K) := it2 (body := fun a b => sX11_restOf_L56 F l0 l1 l2 l3 a b) (fun _ _ w => nj_rest_56 w) F hJ
theorem nj_rest_33 {l1 l2 l3 : Int32} (hJ : Jh K h) : wlp (sX11_restOf_L33 F l0 l1 l2 l3 h) (Q2 K) := by
  unfold sX11_restOf_L33
  repeat' (first | (refine wlp_some ?_; assumption) | (refine wlp_blk (wlp_sI (by assumption)) (fun _ _ => ?_)) | (refine wlp_blk (wlp_pI (by assumption)) (fun _ _ => ?_)) | (refine wlp_blk (wlp_pZ (by assumption)) (fun _ _ => ?_)) | (refine wlp_blk (nj_rest_56i (by assumption)) (fun _ _ => ?_)) | (refine wlp_ite (fun _ => ?_) (fun _ => ?_)) | (refine wlp_nm ?_) | (refine wlp_blkH (K := K) ?_ (fun _ _ => ?_)) | (refine wlp_any (fun _ => ?_)) | (refine wlp_any2 (fun _ _ => ?_)))
theorem nj_rest_33i {l1 l2 i : Int32} (hJ : Jh K h) : wlp (iter (fun s => sX11_restOf_L33 F l0 l1 l2 s.1 s.2) F (i, h)) (Jh K) := it2 (body := fun a b => sX11_restOf_L33 F l0 l1 l2 a b) (fun _ _ w => nj_rest_33 w) F hJ
theorem nj_restOf {l1 l2 : Int32} (hJ : Jh K h) : wlp (sX11_restOf F l0 l1 l2 h) (fun p => Jh K p.2) := by
  unfold sX11_restOf
  repeat' (first | (refine wlp_some ?_; assumption) | (refine wlp_blk (wlp_sI (by assumption)) (fun _ _ => ?_)) | (refine wlp_blk (wlp_pI (by assumption)) (fun _ _ => ?_)) | (refine wlp_blk (wlp_pZ (by assumption)) (fun _ _ => ?_)) | (refine wlp_blk (nj_rest_2i (by assumption)) (fun _ _ => ?_)) | (refine wlp_blk (nj_rest_33i (by assumption)) (fun _ _ => ?_)) | (refine wlp_ite (fun _ => ?_) (fun _ => ?_)) | (refine wlp_nm ?_) | (refine wlp_blkH (K := K) ?_ (fun _ _ => ?_)) | (refine wlp_any (fun _ => ?_)) | (refine wlp_any2 (fun _ _ => ?_)))
theorem nj_pins_7 {l1 : Int32} (hJ : Jh K h) : wlp (sX11_laysPins_L7 F l0 l1 h) (Q2 K) := by
  unfold sX11_laysPins_L7
  repeat' (first | (refine wlp_some ?_; assumption) | (refine wlp_blk (wlp_sI (by assumption)) (fun _ _ => ?_)) | (refine wlp_blk (wlp_pI (by assumption)) (fun _ _ => ?_)) | (refine wlp_blk (wlp_pZ (by assumption)) (fun _ _ => ?_)) | (refine wlp_ite (fun _ => ?_) (fun _ => ?_)) | (refine wlp_nm ?_) | (refine wlp_blkH (K := K) ?_ (fun _ _ => ?_)) | (refine wlp_any (fun _ => ?_)) | (refine wlp_any2 (fun _ _ => ?_)))
theorem nj_pins_7i {i : Int32} (hJ : Jh K h) : wlp (iter (fun s => sX11_laysPins_L7 F l0 s.1 s.2) F (i, h)) (Jh K) := it2 (body := fun a b => sX11_laysPins_L7 F l0 a b) (fun _ _ w => nj_pins_7 w) F hJ
theorem nj_pins_153 {l1 l2 l3 l4 l5 : Int32} (hJ : Jh K h) : wlp (sX11_laysPins_L153 F l0 l1 l2 l3 l4 l5 h) (Qp K) := by
  unfold sX11_laysPins_L153
  refine wlp_any (fun _ => wlp_ite (fun _ => ?_) (fun _ => ?_))
  · repeat' (first | (refine wlp_some ?_; assumption) | (refine wlp_blk (wlp_sI (by assumption)) (fun _ _ => ?_)) | (refine wlp_blk (wlp_pI (by assumption)) (fun _ _ => ?_)) | (refine wlp_blk (wlp_pZ (by assumption)) (fun _ _ => ?_)) | (refine wlp_ite (fun _ => ?_) (fun _ => ?_)) | (refine wlp_nm ?_) | (refine wlp_blkH (K := K) ?_ (fun _ _ => ?_)) | (refine wlp_any (fun _ => ?_)) | (refine wlp_any2 (fun _ _ => ?_)))
  · refine wlp_any (fun _ => wlp_any (fun _ => wlp_any (fun _ => wlp_any (fun _ => wlp_any (fun _ => wlp_b2 (nj_restOf hJ) (fun _ _ _ => ?_))))))
    repeat' (first | (refine wlp_some ?_; assumption) | (refine wlp_blk (wlp_sI (by assumption)) (fun _ _ => ?_)) | (refine wlp_blk (wlp_pI (by assumption)) (fun _ _ => ?_)) | (refine wlp_blk (wlp_pZ (by assumption)) (fun _ _ => ?_)) | (refine wlp_ite (fun _ => ?_) (fun _ => ?_)) | (refine wlp_nm ?_) | (refine wlp_blkH (K := K) ?_ (fun _ _ => ?_)) | (refine wlp_any (fun _ => ?_)) | (refine wlp_any2 (fun _ _ => ?_)))
theorem nj_pins_153i {l1 l2 l3 l4 i : Int32} (hJ : Jh K h) : wlp (iter (fun s => sX11_laysPins_L153 F l0 l1 l2 l3 l4 s.1 s.2) F (i, h)) (fun p => Jh K p.2) := wlp_iter (P := fun s => Jh K s.2) (fun s hs o e => by
  have := nj_pins_153 hs o e
  cases o <;> exact this) F (i, h) hJ
theorem nj_pins_125 {l1 l2 l3 l4 : Int32} (hJ : Jh K h) : wlp (sX11_laysPins_L125 F l0 l1 l2 l3 l4 h) (Q5 K) := by
  unfold sX11_laysPins_L125
  refine wlp_any (fun _ => wlp_ite (fun _ => wlp_some hJ) (fun _ => wlp_any (fun _ => wlp_ite (fun _ => wlp_some hJ) (fun _ => wlp_nm (wlp_blk (nj_pins_153i hJ) (fun r hr => ?_))))))
  obtain ⟨r1, r2⟩ := r
  have hr : Jh K r2 := hr
  clear hJ
  repeat' (first | (refine wlp_some ?_; assumption) | (refine wlp_blk (wlp_sI (by assumption)) (fun _ _ => ?_)) | (refine wlp_blk (wlp_pI (by assumption)) (fun _ _ => ?_)) | (refine wlp_blk (wlp_pZ (by assumption)) (fun _ _ => ?_)) | (refine wlp_ite (fun _ => ?_) (fun _ => ?_)) | (refine wlp_nm ?_) | (refine wlp_blkH (K := K) ?_ (fun _ _ => ?_)) | (refine wlp_any (fun _ => ?_)) | (refine wlp_any2 (fun _ _ => ?_)))
theorem nj_pins_125i {a b c d : Int32} (hJ : Jh K h) : wlp (iter (fun s => sX11_laysPins_L125 F l0 s.1 s.2.1 s.2.2.1 s.2.2.2.1 s.2.2.2.2) F (a, b, c, d, h)) (Jh K) := wlp_iter (P := fun s => Jh K s.2.2.2.2) (fun s hs o e => by
  have := nj_pins_125 hs o e
  cases o <;> exact this) F (a, b, c, d, h) hJ
theorem nj_laysPins (hJ : Jh K h) : wlp (sX11_laysPins F l0 h) (Jh K) := by
  unfold sX11_laysPins
  refine wlp_blk (wlp_pI hJ) (fun h1 hJ1 => wlp_blk (nj_pins_7i hJ1) (fun h14 hJ14 => wlp_any (fun _ => wlp_nm (wlp_any (fun _ => wlp_b2 (nj_restOf hJ14) (fun _ h19 hJ19 => ?_))))))
  clear hJ hJ1 hJ14
  repeat' (first | (refine wlp_some ?_; assumption) | (refine wlp_blk (wlp_sI (by assumption)) (fun _ _ => ?_)) | (refine wlp_blk (wlp_pI (by assumption)) (fun _ _ => ?_)) | (refine wlp_blk (wlp_pZ (by assumption)) (fun _ _ => ?_)) | (refine wlp_blk (nj_pins_125i (by assumption)) (fun _ _ => ?_)) | (refine wlp_ite (fun _ => ?_) (fun _ => ?_)) | (refine wlp_nm ?_) | (refine wlp_blkH (K := K) ?_ (fun _ _ => ?_)) | (refine wlp_any (fun _ => ?_)) | (refine wlp_any2 (fun _ _ => ?_)))
theorem nj_laysWire {l1 : Int32} (hJ : Jh K h) : wlp (sX11_laysWire F l0 l1 h) (Jh K) := by
  unfold sX11_laysWire
  repeat' (first | (refine wlp_some ?_; assumption) | (refine wlp_blk (wlp_sI (by assumption)) (fun _ _ => ?_)) | (refine wlp_blk (wlp_pI (by assumption)) (fun _ _ => ?_)) | (refine wlp_blk (wlp_pZ (by assumption)) (fun _ _ => ?_)) | (refine wlp_ite (fun _ => ?_) (fun _ => ?_)) | (refine wlp_nm ?_) | (refine wlp_blkH (K := K) ?_ (fun _ _ => ?_)) | (refine wlp_any (fun _ => ?_)) | (refine wlp_any2 (fun _ _ => ?_)))
theorem nj_out_10 {l1 : Int32} (hJ : Jh K h) : wlp (sX11_laysOut_L10 F l0 l1 h) (Q2 K) := by
  unfold sX11_laysOut_L10
  repeat' (first | (refine wlp_some ?_; assumption) | (refine wlp_blk (wlp_sI (by assumption)) (fun _ _ => ?_)) | (refine wlp_blk (wlp_pI (by assumption)) (fun _ _ => ?_)) | (refine wlp_blk (wlp_pZ (by assumption)) (fun _ _ => ?_)) | (refine wlp_blk (nj_laysWire (by assumption)) (fun _ _ => ?_)) | (refine wlp_ite (fun _ => ?_) (fun _ => ?_)) | (refine wlp_nm ?_) | (refine wlp_blkH (K := K) ?_ (fun _ _ => ?_)) | (refine wlp_any (fun _ => ?_)) | (refine wlp_any2 (fun _ _ => ?_)))
theorem nj_out_10i {i : Int32} (hJ : Jh K h) : wlp (iter (fun s => sX11_laysOut_L10 F l0 s.1 s.2) F (i, h)) (Jh K) := it2 (body := fun a b => sX11_laysOut_L10 F l0 a b) (fun _ _ w => nj_out_10 w) F hJ
theorem nj_tr_12 {l1 l2 : Int32} (hJ : Jh K h) : wlp (sX11_laysTracks_L12 F l0 l1 l2 h) (Q2 K) := by
  unfold sX11_laysTracks_L12
  repeat' (first | (refine wlp_some ?_; assumption) | (refine wlp_blk (wlp_sI (by assumption)) (fun _ _ => ?_)) | (refine wlp_blk (wlp_pI (by assumption)) (fun _ _ => ?_)) | (refine wlp_blk (wlp_pZ (by assumption)) (fun _ _ => ?_)) | (refine wlp_ite (fun _ => ?_) (fun _ => ?_)) | (refine wlp_nm ?_) | (refine wlp_blkH (K := K) ?_ (fun _ _ => ?_)) | (refine wlp_any (fun _ => ?_)) | (refine wlp_any2 (fun _ _ => ?_)))
theorem nj_tr_12i {l1 i : Int32} (hJ : Jh K h) : wlp (iter (fun s => sX11_laysTracks_L12 F l0 l1 s.1 s.2) F (i, h)) (Jh K) := it2 (body := fun a b => sX11_laysTracks_L12 F l0 l1 a b) (fun _ _ w => nj_tr_12 w) F hJ
theorem nj_tr_2 {l1 : Int32} (hJ : Jh K h) : wlp (sX11_laysTracks_L2 F l0 l1 h) (Q2 K) := by
  unfold sX11_laysTracks_L2
  repeat' (first | (refine wlp_some ?_; assumption) | (refine wlp_blk (wlp_sI (by assumption)) (fun _ _ => ?_)) | (refine wlp_blk (wlp_pI (by assumption)) (fun _ _ => ?_)) | (refine wlp_blk (wlp_pZ (by assumption)) (fun _ _ => ?_)) | (refine wlp_blk (nj_tr_12i (by assumption)) (fun _ _ => ?_)) | (refine wlp_ite (fun _ => ?_) (fun _ => ?_)) | (refine wlp_nm ?_) | (refine wlp_blkH (K := K) ?_ (fun _ _ => ?_)) | (refine wlp_any (fun _ => ?_)) | (refine wlp_any2 (fun _ _ => ?_)))
theorem nj_tr_2i {i : Int32} (hJ : Jh K h) : wlp (iter (fun s => sX11_laysTracks_L2 F l0 s.1 s.2) F (i, h)) (Jh K) := it2 (body := fun a b => sX11_laysTracks_L2 F l0 a b) (fun _ _ w => nj_tr_2 w) F hJ
theorem nj_laysTracks (hJ : Jh K h) : wlp (sX11_laysTracks F l0 h) (Jh K) := by
  unfold sX11_laysTracks
  repeat' (first | (refine wlp_some ?_; assumption) | (refine wlp_blk (wlp_sI (by assumption)) (fun _ _ => ?_)) | (refine wlp_blk (wlp_pI (by assumption)) (fun _ _ => ?_)) | (refine wlp_blk (wlp_pZ (by assumption)) (fun _ _ => ?_)) | (refine wlp_blk (nj_tr_2i (by assumption)) (fun _ _ => ?_)) | (refine wlp_ite (fun _ => ?_) (fun _ => ?_)) | (refine wlp_nm ?_) | (refine wlp_blkH (K := K) ?_ (fun _ _ => ?_)) | (refine wlp_any (fun _ => ?_)) | (refine wlp_any2 (fun _ _ => ?_)))
theorem nj_laysOut (hJ : Jh K h) : wlp (sX11_laysOut F l0 h) (Jh K) := by
  unfold sX11_laysOut
  repeat' (first | (refine wlp_some ?_; assumption) | (refine wlp_blk (wlp_sI (by assumption)) (fun _ _ => ?_)) | (refine wlp_blk (wlp_pI (by assumption)) (fun _ _ => ?_)) | (refine wlp_blk (wlp_pZ (by assumption)) (fun _ _ => ?_)) | (refine wlp_blk (nj_laysColumns (by assumption)) (fun _ _ => ?_)) | (refine wlp_blk (nj_laysPins (by assumption)) (fun _ _ => ?_)) | (refine wlp_blk (nj_out_10i (by assumption)) (fun _ _ => ?_)) | (refine wlp_blk (nj_laysTracks (by assumption)) (fun _ _ => ?_)) | (refine wlp_ite (fun _ => ?_) (fun _ => ?_)) | (refine wlp_nm ?_) | (refine wlp_blkH (K := K) ?_ (fun _ _ => ?_)) | (refine wlp_any (fun _ => ?_)) | (refine wlp_any2 (fun _ _ => ?_)))
end
theorem wp_wlp {α : Type} {o : Option α} {P Q : α → Prop} (h : wpO o P) (w : wlp o Q) : wpO o (fun a => P a ∧ Q a) := by
  obtain ⟨a, e, p⟩ := h
  exact ⟨a, e, p, w a e⟩
