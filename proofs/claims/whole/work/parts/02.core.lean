/-! memory as the proofs see it: how many cells; kind and length of each; ints, longs, references by cell and place -/
def HP : Type := Nat × (Nat → Nat) × (Nat → Nat) × (Nat → Nat → Int32) × (Nat → Nat → Int64) × (Nat → Nat → Option Nat)
def HP.n (h : HP) : Nat := h.1
def HP.K (h : HP) : Nat → Nat := h.2.1
def HP.N (h : HP) : Nat → Nat := h.2.2.1
def HP.I (h : HP) : Nat → Nat → Int32 := h.2.2.2.1
def HP.J (h : HP) : Nat → Nat → Int64 := h.2.2.2.2.1
def HP.R (h : HP) : Nat → Nat → Option Nat := h.2.2.2.2.2
def HP.setI (h : HP) (a k : Nat) (v : Int32) : HP := (h.n, h.K, h.N, va_up h.I a (va_up (h.I a) k v), h.J, h.R)
def HP.setJ (h : HP) (a k : Nat) (v : Int64) : HP := (h.n, h.K, h.N, h.I, va_up h.J a (va_up (h.J a) k v), h.R)
def HP.setR (h : HP) (a k : Nat) (v : Option Nat) : HP := (h.n, h.K, h.N, h.I, h.J, va_up h.R a (va_up (h.R a) k v))
/-- a new cell, all zero -/
def HP.new (h : HP) (kd len : Nat) : HP := (h.n + 1, va_up h.K h.n kd, va_up h.N h.n len, va_up h.I h.n (fun _ => 0), va_up h.J h.n (fun _ => 0), va_up h.R h.n (fun _ => none))
theorem HP.setI_n (h : HP) (a k : Nat) (v : Int32) : (h.setI a k v).n = h.n := rfl
theorem HP.setI_K (h : HP) (a k : Nat) (v : Int32) : (h.setI a k v).K = h.K := rfl
theorem HP.setI_N (h : HP) (a k : Nat) (v : Int32) : (h.setI a k v).N = h.N := rfl
theorem HP.setI_I (h : HP) (a k : Nat) (v : Int32) : (h.setI a k v).I = va_up h.I a (va_up (h.I a) k v) := rfl
theorem HP.setI_J (h : HP) (a k : Nat) (v : Int32) : (h.setI a k v).J = h.J := rfl
theorem HP.setI_R (h : HP) (a k : Nat) (v : Int32) : (h.setI a k v).R = h.R := rfl
theorem HP.setJ_n (h : HP) (a k : Nat) (v : Int64) : (h.setJ a k v).n = h.n := rfl
theorem HP.setJ_K (h : HP) (a k : Nat) (v : Int64) : (h.setJ a k v).K = h.K := rfl
theorem HP.setJ_N (h : HP) (a k : Nat) (v : Int64) : (h.setJ a k v).N = h.N := rfl
theorem HP.setJ_I (h : HP) (a k : Nat) (v : Int64) : (h.setJ a k v).I = h.I := rfl
theorem HP.setJ_J (h : HP) (a k : Nat) (v : Int64) : (h.setJ a k v).J = va_up h.J a (va_up (h.J a) k v) := rfl
theorem HP.setJ_R (h : HP) (a k : Nat) (v : Int64) : (h.setJ a k v).R = h.R := rfl
theorem HP.setR_n (h : HP) (a k : Nat) (v : Option Nat) : (h.setR a k v).n = h.n := rfl
theorem HP.setR_K (h : HP) (a k : Nat) (v : Option Nat) : (h.setR a k v).K = h.K := rfl
theorem HP.setR_N (h : HP) (a k : Nat) (v : Option Nat) : (h.setR a k v).N = h.N := rfl
theorem HP.setR_I (h : HP) (a k : Nat) (v : Option Nat) : (h.setR a k v).I = h.I := rfl
theorem HP.setR_J (h : HP) (a k : Nat) (v : Option Nat) : (h.setR a k v).J = h.J := rfl
theorem HP.setR_R (h : HP) (a k : Nat) (v : Option Nat) : (h.setR a k v).R = va_up h.R a (va_up (h.R a) k v) := rfl
/-! what an instruction does to it; none: the machine itself would throw -/
def okO (h : HP) (ci a : Nat) : Bool := decide (a < h.n) && h.K a == ci
def okA (h : HP) (kd a : Nat) (i : Int32) : Bool := okO h kd a && decide (0 ≤ i) && decide (i.toNatClampNeg < h.N a)
def gI (h : HP) (ci : Nat) (r : Option Nat) (k : Nat) : Option Int32 := r.bind fun a => if okO h ci a then some (h.I a k) else none
def gJ (h : HP) (ci : Nat) (r : Option Nat) (k : Nat) : Option Int64 := r.bind fun a => if okO h ci a then some (h.J a k) else none
def gR (h : HP) (ci : Nat) (r : Option Nat) (k : Nat) : Option (Option Nat) := r.bind fun a => if okO h ci a then some (h.R a k) else none
def pI (h : HP) (ci : Nat) (r : Option Nat) (k : Nat) (v : Int32) : Option HP := r.bind fun a => if okO h ci a then some (h.setI a k v) else none
def pZ (h : HP) (ci : Nat) (r : Option Nat) (k : Nat) (v : Int32) : Option HP := r.bind fun a => if okO h ci a && (decide (v = 0) || decide (v = 1)) then some (h.setI a k v) else none
def pJ (h : HP) (ci : Nat) (r : Option Nat) (k : Nat) (v : Int64) : Option HP := r.bind fun a => if okO h ci a then some (h.setJ a k v) else none
def pR (h : HP) (ci : Nat) (r : Option Nat) (k : Nat) (v : Option Nat) : Option HP := r.bind fun a => if okO h ci a then some (h.setR a k v) else none
def aI (h : HP) (kd : Nat) (r : Option Nat) (i : Int32) : Option Int32 := r.bind fun a => if okA h kd a i then some (h.I a i.toNatClampNeg) else none
def aJ (h : HP) (r : Option Nat) (i : Int32) : Option Int64 := r.bind fun a => if okA h 14 a i then some (h.J a i.toNatClampNeg) else none
def aR (h : HP) (r : Option Nat) (i : Int32) : Option (Option Nat) := r.bind fun a => if okA h 15 a i then some (h.R a i.toNatClampNeg) else none
def sI (h : HP) (r : Option Nat) (i : Int32) (v : Int32) : Option HP := r.bind fun a => if okA h 13 a i then some (h.setI a i.toNatClampNeg v) else none
def sB (h : HP) (r : Option Nat) (i : Int32) (v : Int32) : Option HP := r.bind fun a => if okA h 12 a i then some (h.setI a i.toNatClampNeg (vp_nar .byte v)) else none
def sJ (h : HP) (r : Option Nat) (i : Int32) (v : Int64) : Option HP := r.bind fun a => if okA h 14 a i then some (h.setJ a i.toNatClampNeg v) else none
def sR (h : HP) (r : Option Nat) (i : Int32) (v : Option Nat) : Option HP := r.bind fun a => v.bind fun b => if okA h 15 a i && okO h 7 b then some (h.setR a i.toNatClampNeg (some b)) else none
def dvI (x y : Int32) : Option Int32 := if y = 0 then none else some (x / y)
def rmI (x y : Int32) : Option Int32 := if y = 0 then none else some (x - x / y * y)
def rzI (v : Int32) (h : HP) : Option (Int32 × HP) := if v = 0 ∨ v = 1 then some (v, h) else none
/-- a name for a number -/
def nmI {α : Type} (x : Int32) (f : Int32 → α) : α := f x
def nmJ {α : Type} (x : Int64) (f : Int64 → α) : α := f x
def jshl (x y : Int32) : Int32 := x <<< (y &&& 31)
def jshr (x y : Int32) : Int32 := x >>> (y &&& 31)
def jush (x y : Int32) : Int32 := (x.toUInt32 >>> (y.toUInt32 &&& Int32.toUInt32 31)).toInt32
def jrem (x y : Int32) : Int32 := x - x / y * y
def Jshl (x : Int64) (y : Int32) : Int64 := x <<< (y.toInt64 &&& 63)
def Jshr (x : Int64) (y : Int32) : Int64 := x >>> (y.toInt64 &&& 63)
/-- a loop: its body goes on (.inl) or is through (.inr) -/
def iter {σ ρ : Type} (body : σ → Option (σ ⊕ ρ)) : Nat → σ → Option ρ
  | 0, _ => none
  | n + 1, s => (body s).bind fun o => match o with
    | .inl s' => iter body n s'
    | .inr r => some r
def wpO {α : Type} (o : Option α) (C : α → Prop) : Prop := ∃ r, o = some r ∧ C r
theorem wpO_bind {α β : Type} {o : Option α} {f : α → Option β} {C : β → Prop} (h : wpO (o.bind f) C) : ∃ r, o = some r ∧ wpO (f r) C := by
  obtain ⟨r, h1, h2⟩ := h
  cases o with
  | none => cases h1
  | some x => exact ⟨x, rfl, r, h1, h2⟩
theorem wpO_some {α : Type} {x : α} {C : α → Prop} (h : wpO (some x) C) : C x := by
  obtain ⟨r, h1, h2⟩ := h
  cases h1
  exact h2
theorem wpO_if {α : Type} {c : Prop} [Decidable c] {X Y : Option α} {C : α → Prop} (h : wpO (if c then X else Y) C) : (c → wpO X C) ∧ (¬ c → wpO Y C) :=
  ⟨fun hc => by rw [if_pos hc] at h; exact h, fun hc => by rw [if_neg hc] at h; exact h⟩
theorem iter_rule {σ ρ : Type} {body : σ → Option (σ ⊕ ρ)} {C : ρ → Prop} (P : σ → Prop) (hb : ∀ (X : σ → Prop), (∀ s, X s → P s) → ∀ s, wpO (body s) (fun o => match o with | .inl s' => X s' | .inr r => C r) → P s) : ∀ (n : Nat) (s : σ), wpO (iter body n s) C → P s := by
  intro n
  induction n with
  | zero => intro s h; obtain ⟨r, h1, -⟩ := h; cases h1
  | succ n ih =>
    intro s h
    refine hb (fun s' => wpO (iter body n s') C) ih s ?_
    obtain ⟨o, h1, h2⟩ := wpO_bind h
    refine ⟨o, h1, ?_⟩
    cases o with
    | inl s' => exact h2
    | inr r => exact wpO_some (C := C) (x := r) h2

/-- the kinds of the fields of the classes: 0 an int, 1 a long, 2 a reference -/
def fty : Nat → List Nat := fun ci => match ci with
  | 0 => [2]
  | 1 => [0, 0, 0, 0, 0, 0, 0, 2, 2, 2, 2, 2]
  | 2 => [0, 0, 0, 2, 2, 2, 2]
  | 3 => [2, 2, 2]
  | 4 => [2, 2, 2, 2, 2, 2, 2]
  | 5 => [0, 0, 2]
  | 6 => [0, 2, 2, 2]
  | 7 => [0, 2]
  | 8 => [0, 0, 2, 0, 0]
  | 9 => [0, 2, 2, 2, 2, 2, 2, 2, 2, 2]
  | 10 => [2, 2, 2, 2, 2, 2, 2, 2, 2, 2, 2, 2, 2, 2, 2]
  | 11 => [0, 2, 2, 0, 2, 0, 2, 0, 0, 0, 0, 2, 2, 2, 2, 2, 2, 0, 1, 0, 2, 2, 2, 2, 2, 2, 2, 0, 2, 2, 2, 2, 2, 2, 2, 0, 0, 2, 0, 2, 2]
  | _ => []
/-- the world: where our cells begin, the classes' numbers and slots, the arrays' classes (byte, int, long, rows), the texts' addresses -/
def WD : Type := Nat × va_G × (ClassId × ClassId × ClassId × ClassId) × (Nat → Nat) × (Nat → Nat)
def WD.b (w : WD) : Nat := w.1
def WD.D (w : WD) : va_G := w.2.1
def WD.cB (w : WD) : ClassId := w.2.2.1.1
def WD.cI (w : WD) : ClassId := w.2.2.1.2.1
def WD.cJ (w : WD) : ClassId := w.2.2.1.2.2.1
def WD.cR (w : WD) : ClassId := w.2.2.1.2.2.2
def WD.aS (w : WD) : Nat → Nat := w.2.2.2.1
def WD.aV (w : WD) : Nat → Nat := w.2.2.2.2
def WD.A (w : WD) : Nat → Prop := fun q => w.b ≤ q
def rf (w : WD) (r : Option Nat) : Value := va_rf (r.map fun a => w.b + a)
def fvl (w : WD) (h : HP) (a t k : Nat) : Value := match t with
  | 0 => .int (h.I a k)
  | 1 => .long (h.J a k)
  | _ => rf w (h.R a k)
def flds (w : WD) (h : HP) (ci a : Nat) : List Value := (List.range (fty ci).length).map fun k => fvl w h a ((fty ci).getD k 0) k
def elt (w : WD) (h : HP) (a : Nat) : va_E := if h.K a < 12 then .inr (h.K a, flds w h (h.K a) a) else if h.K a = 12 then .inl (w.cB, h.N a, .inl (h.I a)) else if h.K a = 13 then .inl (w.cI, h.N a, .inl (h.I a)) else if h.K a = 14 then .inl (w.cJ, h.N a, .inr (.inl (h.J a))) else .inl (w.cR, h.N a, .inr (.inr (.inr (.inr fun j => (h.R a j).map fun b => w.b + b))))
def wsO (w : WD) (h : HP) : va_W := (List.range h.n).map fun a => (w.b + a, elt w h a)
def Rep (w : WD) (h : HP) (H : Heap) : Prop := va_P w.D vwCl (wsO w h) H
theorem wsO_at {w : WD} {h : HP} {a : Nat} (ha : a < h.n) : (wsO w h)[a]? = some (w.b + a, elt w h a) := by
  simp [wsO, ha]
theorem wsO_len (w : WD) (h : HP) : (wsO w h).length = h.n := by simp [wsO]
theorem wsO_D (w : WD) (h : HP) : va_D w.A (wsO w h) := by
  refine ⟨fun i j p q hi hj e => ?_, fun k q hk => ?_⟩
  · have hi' := (List.getElem?_eq_some_iff.mp hi).1
    have hj' := (List.getElem?_eq_some_iff.mp hj).1
    rw [wsO_len] at hi' hj'
    rw [wsO_at hi'] at hi
    rw [wsO_at hj'] at hj
    cases hi; cases hj
    exact Nat.add_left_cancel e
  · have hk' := (List.getElem?_eq_some_iff.mp hk).1
    rw [wsO_len] at hk'
    rw [wsO_at hk'] at hk
    cases hk
    exact Nat.le_add_right _ _
theorem wsO_set {w : WD} {h h' : HP} {a : Nat} {e : va_E} (hn : h'.n = h.n) (ha : a < h.n) (he : elt w h' a = e) (ho : ∀ b, b ≠ a → elt w h' b = elt w h b) : (wsO w h).set a (w.b + a, e) = wsO w h' := by
  apply List.ext_getElem?
  intro i
  by_cases hi : i = a
  · subst hi
    rw [List.getElem?_set_self (by rw [wsO_len]; exact ha), wsO_at (by rw [hn]; exact ha), he]
  · rw [List.getElem?_set_ne (Ne.symm hi)]
    by_cases hl : i < h.n
    · rw [wsO_at hl, wsO_at (by rw [hn]; exact hl), ho i hi]
    · rw [List.getElem?_eq_none (by rw [wsO_len]; omega), List.getElem?_eq_none (by rw [wsO_len, hn]; omega)]
theorem wsO_push {w : WD} {h h' : HP} {e : va_E} (hn : h'.n = h.n + 1) (he : elt w h' h.n = e) (ho : ∀ b, b < h.n → elt w h' b = elt w h b) : wsO w h ++ [(w.b + h.n, e)] = wsO w h' := by
  apply List.ext_getElem?
  intro i
  by_cases hi : i < h.n
  · rw [List.getElem?_append_left (by rw [wsO_len]; exact hi), wsO_at hi, wsO_at (by omega), ho i hi]
  · rw [List.getElem?_append_right (by rw [wsO_len]; omega), wsO_len]
    by_cases hj : i = h.n
    · subst hj
      rw [wsO_at (by omega), he]
      simp
    · rw [List.getElem?_eq_none (by simp; omega), List.getElem?_eq_none (by rw [wsO_len]; omega)]
theorem flds_at {w : WD} {h : HP} {ci a k t : Nat} (hk : (fty ci)[k]? = some t) : (flds w h ci a)[k]? = some (fvl w h a t k) := by
  have hl := (List.getElem?_eq_some_iff.mp hk).1
  have he := (List.getElem?_eq_some_iff.mp hk).2
  simp [flds, hl, he]
theorem flds_len (w : WD) (h : HP) (ci a : Nat) : (flds w h ci a).length = (fty ci).length := by simp [flds]
theorem flds_set {w : WD} {h h' : HP} {ci a k t : Nat} {v : Value} (hk : (fty ci)[k]? = some t) (hv : fvl w h' a t k = v) (ho : ∀ j t', j ≠ k → fvl w h' a t' j = fvl w h a t' j) : (flds w h ci a).set k v = flds w h' ci a := by
  have hl := (List.getElem?_eq_some_iff.mp hk).1
  apply List.ext_getElem?
  intro i
  by_cases hi : i = k
  · subst hi
    rw [List.getElem?_set_self (by rw [flds_len]; exact hl), flds_at hk, hv]
  · rw [List.getElem?_set_ne (Ne.symm hi)]
    by_cases hj : i < (fty ci).length
    · have e := List.getElem?_eq_getElem hj
      rw [flds_at e, flds_at e, ho i _ hi]
    · rw [List.getElem?_eq_none (by rw [flds_len]; omega), List.getElem?_eq_none (by rw [flds_len]; omega)]
theorem okO_spec {h : HP} {ci a : Nat} (ho : okO h ci a = true) : a < h.n ∧ h.K a = ci := by
  simpa [okO] using ho
theorem okA_spec {h : HP} {kd a : Nat} {i : Int32} (ho : okA h kd a i = true) : a < h.n ∧ h.K a = kd ∧ vp_in i (h.N a) := by
  have h1 : (a < h.n ∧ h.K a = kd) ∧ 0 ≤ i ∧ i.toNatClampNeg < h.N a := by simpa [okA, okO, and_assoc] using ho
  refine ⟨h1.1.1, h1.1.2, fun hh => ?_⟩
  rcases hh with hh | hh
  · have e1 := Int32.lt_iff_toInt_lt.mp hh
    have e2 := Int32.le_iff_toInt_le.mp h1.2.1
    omega
  · omega
theorem elt_obj {w : WD} {h : HP} {a ci : Nat} (hk : h.K a = ci) (hc : ci < 12) : elt w h a = .inr (ci, flds w h ci a) := by
  subst hk; simp [elt, hc]
theorem elt_B {w : WD} {h : HP} {a : Nat} (hk : h.K a = 12) : elt w h a = .inl (w.cB, h.N a, .inl (h.I a)) := by simp [elt, hk]
theorem elt_I {w : WD} {h : HP} {a : Nat} (hk : h.K a = 13) : elt w h a = .inl (w.cI, h.N a, .inl (h.I a)) := by simp [elt, hk]
theorem elt_J {w : WD} {h : HP} {a : Nat} (hk : h.K a = 14) : elt w h a = .inl (w.cJ, h.N a, .inr (.inl (h.J a))) := by simp [elt, hk]
theorem elt_R {w : WD} {h : HP} {a : Nat} (hk : h.K a = 15) : elt w h a = .inl (w.cR, h.N a, .inr (.inr (.inr (.inr fun j => (h.R a j).map fun b => w.b + b)))) := by simp [elt, hk]
/-- cells that are as they were -/
theorem elt_same {w : WD} {h h' : HP} {b : Nat} (hK : h'.K b = h.K b) (hN : h'.N b = h.N b) (hI : h'.I b = h.I b) (hJ : h'.J b = h.J b) (hR : h'.R b = h.R b) : elt w h' b = elt w h b := by
  have hf : ∀ ci, flds w h' ci b = flds w h ci b := by
    intro ci
    unfold flds
    congr 1
    funext k
    unfold fvl
    rw [hI, hJ, hR]
  unfold elt
  rw [hK, hN, hI, hJ, hR, hf]
theorem up_ne {α : Type} {f : Nat → α} {k : Nat} {v : α} {j : Nat} (h : j ≠ k) : va_up f k v j = f j := by simp [va_up, h]
theorem up_eq {α : Type} {f : Nat → α} {k : Nat} {v : α} : va_up f k v k = v := by simp [va_up]

/-- the words of a nest that a step links -/
def nestW : List Cond := [(Jvm.Cond.methodLinkNest "FingerRows" (11 : Nat) ({ cls := "FingerRows$Tape", name := "<init>", desc := "()V" } : Jvm.MethodName) "FingerRows"), (Jvm.Cond.methodLinkNest "FingerRows$Orders" (11 : Nat) ({ cls := "FingerRows$Cell", name := "<init>", desc := "()V" } : Jvm.MethodName) "FingerRows"), (Jvm.Cond.methodLinkNest "FingerRows$Orders" (20 : Nat) ({ cls := "FingerRows$Fewest", name := "<init>", desc := "()V" } : Jvm.MethodName) "FingerRows"), (Jvm.Cond.methodLinkNest "FingerRows" (30 : Nat) ({ cls := "FingerRows$Row", name := "<init>", desc := "()V" } : Jvm.MethodName) "FingerRows"), (Jvm.Cond.methodLinkNest "FingerRows$Past" (24 : Nat) ({ cls := "FingerRows$Row", name := "<init>", desc := "()V" } : Jvm.MethodName) "FingerRows"), (Jvm.Cond.methodLinkNest "FingerRows" (47 : Nat) ({ cls := "FingerRows$Columns", name := "<init>", desc := "()V" } : Jvm.MethodName) "FingerRows"), (Jvm.Cond.methodLinkNest "FingerRows" (54 : Nat) ({ cls := "FingerRows$Wires", name := "<init>", desc := "()V" } : Jvm.MethodName) "FingerRows"), (Jvm.Cond.methodLinkNest "FingerRows$Wires" (38 : Nat) ({ cls := "FingerRows$Pins", name := "<init>", desc := "()V" } : Jvm.MethodName) "FingerRows"), (Jvm.Cond.methodLinkNest "FingerRows" (70 : Nat) ({ cls := "FingerRows$Advice", name := "<init>", desc := "()V" } : Jvm.MethodName) "FingerRows"), (Jvm.Cond.methodLinkNest "FingerRows" (83 : Nat) ({ cls := "FingerRows$Cell", name := "<init>", desc := "()V" } : Jvm.MethodName) "FingerRows"), (Jvm.Cond.methodLinkNest "FingerRows$Fewest" (43 : Nat) ({ cls := "FingerRows", name := "has", desc := "(II)Z" } : Jvm.MethodName) "FingerRows"), (Jvm.Cond.methodLinkNest "FingerRows$Fewest" (47 : Nat) ({ cls := "FingerRows", name := "without", desc := "(II)I" } : Jvm.MethodName) "FingerRows"), (Jvm.Cond.methodLinkNest "FingerRows$Orders" (61 : Nat) ({ cls := "FingerRows", name := "has", desc := "(II)Z" } : Jvm.MethodName) "FingerRows"), (Jvm.Cond.methodLinkNest "FingerRows$Orders" (82 : Nat) ({ cls := "FingerRows", name := "without", desc := "(II)I" } : Jvm.MethodName) "FingerRows"), (Jvm.Cond.methodLinkNest "FingerRows$Orders" (104 : Nat) ({ cls := "FingerRows", name := "lowestBit", desc := "(I)I" } : Jvm.MethodName) "FingerRows"), (Jvm.Cond.methodLinkNest "FingerRows$Pins" (59 : Nat) ({ cls := "FingerRows", name := "has", desc := "(II)Z" } : Jvm.MethodName) "FingerRows"), (Jvm.Cond.methodLinkNest "FingerRows$Wires" (74 : Nat) ({ cls := "FingerRows", name := "has", desc := "(II)Z" } : Jvm.MethodName) "FingerRows"), (Jvm.Cond.methodLinkNest "FingerRows$Wires" (106 : Nat) ({ cls := "FingerRows", name := "overlap", desc := "(IIII)Z" } : Jvm.MethodName) "FingerRows"), (Jvm.Cond.methodLinkNest "FingerRows$Wires" (99 : Nat) ({ cls := "FingerRows", name := "lowestBit", desc := "(I)I" } : Jvm.MethodName) "FingerRows"), (Jvm.Cond.methodLinkNest "FingerRows$Cell" (72 : Nat) ({ cls := "FingerRows", name := "has", desc := "(II)Z" } : Jvm.MethodName) "FingerRows"), (Jvm.Cond.methodLinkNest "FingerRows$Cell" (69 : Nat) ({ cls := "FingerRows", name := "without", desc := "(II)I" } : Jvm.MethodName) "FingerRows"), (Jvm.Cond.methodLinkNest "FingerRows$Tape" (129 : Nat) ({ cls := "FingerRows", name := "has", desc := "(II)Z" } : Jvm.MethodName) "FingerRows")]
theorem nestW_warm : ∀ x ∈ nestW, ∀ {s U : State}, s.WarmedH U.vm → va_Nw x s → va_Nw x U := by
  intro x hx s U hW h
  have : ∃ a i y h, x = Cond.methodLinkNest a i y h := by
    revert x
    have key : nestW.all (fun x => match x with | Cond.methodLinkNest .. => true | _ => false) = true := by decide +kernel
    intro x hx _
    have := List.all_eq_true.mp key x hx
    cases x <;> first | exact ⟨_, _, _, _, rfl⟩ | cases this
  obtain ⟨a, i, y, hh, rfl⟩ := this
  exact va_Nw.warmM hW h
theorem nestW_tab : nestW.all Cond.onTables = true := by decide +kernel
def lenS : List Nat := [4, 4, 4, 3, 5, 2, 3, 4]
def bytS : List (List Int32) := [[99, 101, 108, 108], [112, 97, 105, 114], [114, 97, 105, 108], [112, 105, 110], [98, 108, 111, 99, 107], [117, 112], [108, 111, 119], [119, 105, 100, 101]]
/-- the texts that are words of the language: class, pool entry, text, number -/
def strR : List (String × Nat × String × Nat) := [(RX8, 33, "cell", 0), (RX8, 64, "pair", 1), (RX8, 73, "rail", 2), (RX8, 82, "pin", 3), (RX8, 87, "block", 4), (RX8, 103, "up", 5), (RX8, 105, "low", 6), (RX8, 107, "wide", 7), (RX11, 253, "up", 5), (RX11, 259, "low", 6), (RX11, 261, "wide", 7), (RX11, 263, "pair", 1), (RX11, 268, "rail", 2), (RX11, 273, "pin", 3), (RX11, 278, "block", 4), (RX11, 283, "cell", 0)]
/-- the texts of exceptions, in FingerRows' pool -/
def msgR : List (Nat × String) := [(112, "the text is wrong"), (145, "there is no such pair"), (150, "a pair has no such thing"), (165, "there is no such place"), (188, "a place has no such thing"), (193, "there is no such column"), (207, "a column has no such thing"), (212, "there is no such net"), (241, "a net has no such thing"), (282, "a layout has no such thing"), (298, "there is no such best one"), (310, "there is no such finger"), (329, "there are not so many fingers"), (346, "there is no such thing of the better one"), (355, "there is no such number of best ones"), (360, "both are one"), (372, "there is no such turn"), (382, "both places are one"), (392, "there are no fingers"), (399, "nothing is remembered"), (404, "there is no such track")]
/-- words of casts and declared methods -/
def xW : List Cond := [(Jvm.Cond.castable "java/lang/IllegalArgumentException" "java/lang/IllegalArgumentException"), (Jvm.Cond.castable "java/lang/IndexOutOfBoundsException" "java/lang/IndexOutOfBoundsException"), (Jvm.Cond.castable "java/util/NoSuchElementException" "java/util/NoSuchElementException"), (Jvm.Cond.castable "java/lang/IllegalStateException" "java/lang/IllegalStateException"), (Jvm.Cond.castable "FingerRows" "java/lang/Object"), (Jvm.Cond.castable "FingerRows$Tape" "java/lang/Object"), (Jvm.Cond.castable "FingerRows$Orders" "java/lang/Object"), (Jvm.Cond.castable "FingerRows$Cell" "java/lang/Object"), (Jvm.Cond.castable "FingerRows$Fewest" "java/lang/Object"), (Jvm.Cond.castable "FingerRows$Row" "java/lang/Object"), (Jvm.Cond.castable "FingerRows$Past" "java/lang/Object"), (Jvm.Cond.castable "FingerRows$Columns" "java/lang/Object"), (Jvm.Cond.castable "FingerRows$Wires" "java/lang/Object"), (Jvm.Cond.castable "FingerRows$Pins" "java/lang/Object"), (Jvm.Cond.castable "FingerRows$Advice" "java/lang/Object"), (Jvm.Cond.castable "FingerRowsModel" "java/lang/Object"), (Jvm.Cond.castable "java/lang/IllegalArgumentException" "java/lang/Object"), (Jvm.Cond.castable "java/lang/IndexOutOfBoundsException" "java/lang/Object"), (Jvm.Cond.castable "java/util/NoSuchElementException" "java/lang/Object"), (Jvm.Cond.castable "java/lang/IllegalStateException" "java/lang/Object"), (Jvm.Cond.castable "java/lang/Throwable" "java/lang/Object"), (Jvm.Cond.castable "java/lang/String" "java/lang/Object"), (Jvm.Cond.declares ({ cls := "java/lang/RuntimeException", name := "<init>", desc := "()V" } : Jvm.MethodName)), (Jvm.Cond.declares ({ cls := "java/lang/RuntimeException", name := "<init>", desc := "(Ljava/lang/String;)V" } : Jvm.MethodName)), (Jvm.Cond.declares ({ cls := "java/lang/Exception", name := "<init>", desc := "()V" } : Jvm.MethodName)), (Jvm.Cond.declares ({ cls := "java/lang/Exception", name := "<init>", desc := "(Ljava/lang/String;)V" } : Jvm.MethodName)), (Jvm.Cond.declares ({ cls := "java/lang/Throwable", name := "<init>", desc := "()V" } : Jvm.MethodName)), (Jvm.Cond.declares ({ cls := "java/lang/Throwable", name := "<init>", desc := "(Ljava/lang/String;)V" } : Jvm.MethodName))]
theorem xW_warm : ∀ x ∈ xW, ∀ {s U : State}, s.WarmedH U.vm → va_Nw x s → va_Nw x U := by
  intro x hx s U hW h
  have key : xW.all (fun x => match x with | Cond.castable .. => true | Cond.declares .. => true | _ => false) = true := by decide +kernel
  have := List.all_eq_true.mp key x hx
  cases x <;> first | exact va_Nw.warmC hW h | exact va_Nw.warmD hW h | cases this
theorem xW_tab : xW.all Cond.onTables = true := by decide +kernel
def ncW : List (String × String) := [("java/util/NoSuchElementException", "java/lang/IndexOutOfBoundsException"), ("java/lang/IllegalArgumentException", "java/lang/IndexOutOfBoundsException")]
/-- what else of the start is told: the texts, statics, casts -/
def Sk (w : WD) (U : State) (H : Heap) : Prop :=
  vk_S 8 lenS bytS w.aS w.aV w.A U H ∧ va_Z "java/lang/String" "COMPACT_STRINGS" "Z" (.int 1) w.A U H ∧ va_Zq "jdk/internal/util/Preconditions" "SIOOBE_FORMATTER" "Ljava/util/function/BiFunction;" w.A U H ∧
  vx_Zq Bundle.tN "UNASSIGNED_STACK" Bundle.steD w.A U H ∧ vx_Zq Bundle.tN "SUPPRESSED_SENTINEL" Bundle.listD w.A U H ∧
  (∀ q ∈ strR, vk_R q.1 q.2.1 q.2.2.1 (w.aS q.2.2.2) U) ∧ (∀ q ∈ msgR, ∃ sa, vk_R RX10 q.1 q.2 sa U) ∧ (∀ c ∈ xW, va_Nw c U) ∧ ∀ q ∈ ncW, va_Nc q.1 q.2 U
theorem Sk.warm {w : WD} {s U : State} {H : Heap} (hW : s.WarmedH U.vm) (h : Sk w s H) : Sk w U H := by
  obtain ⟨h1, h2, h3, h4, h5, h6, h7, h8, h9⟩ := h
  exact ⟨vk_S.moved hW.alike h1, va_Z.moved hW.alike h2, va_Zq.moved hW.alike h3, vx_Zq.moved hW.alike h4, vx_Zq.moved hW.alike h5, fun q hq => vk_R.warm hW (h6 q hq), fun q hq => (h7 q hq).imp fun sa hs => vk_R.warm hW hs, fun c hq => xW_warm c hq hW (h8 c hq), fun q hq => va_Nc.moved hW.alike (h9 q hq)⟩
theorem Sk.same {w : WD} {s U : State} {H : Heap} (hv : s.vm = U.vm) (h : Sk w s H) : Sk w U H := by
  obtain ⟨h1, h2, h3, h4, h5, h6, h7, h8, h9⟩ := h
  have hA : s.vm.Alike U.vm := by rw [hv]; exact Vm.Alike.refl _
  exact ⟨vk_S.moved hA h1, va_Z.moved hA h2, va_Zq.moved hA h3, vx_Zq.moved hA h4, vx_Zq.moved hA h5, fun q hq => vk_R.same hv.symm (h6 q hq), fun q hq => (h7 q hq).imp fun sa hs => vk_R.same hv.symm hs, fun c hq => va_Nw.same (List.all_eq_true.mp xW_tab c hq) hv (h8 c hq), fun q hq => va_Nc.moved hA (h9 q hq)⟩
theorem Sk.kept {w : WD} {U : State} {H H1 : Heap} (h : Sk w U H) (hq : ∀ a : Nat, a < H.size → ¬ w.A a → H1[a]? = H[a]?) : Sk w U H1 := by
  obtain ⟨h1, h2, h3, h4, h5, h6, h7, h8, h9⟩ := h
  exact ⟨vk_S.kept h1 hq, va_Z.kept h2 hq, va_Zq.kept h3 hq, vx_Zq.kept h4 hq, vx_Zq.kept h5 hq, h6, h7, h8, h9⟩
def Kn (w : WD) (U : State) : Prop := va_K w.D vwCl [(w.cB, .byte), (w.cI, .int), (w.cJ, .long), (w.cR, .object RX7)] U ∧ va_AO RX7 U ∧ ∀ x ∈ nestW, va_Nw x U
def RepS (w : WD) (h : HP) (U : State) : Prop := Rep w h U.heap ∧ w.b ≤ U.heap.size ∧ Kn w U ∧ Sk w U U.heap
theorem Kn.warm {w : WD} {s U : State} (hW : s.WarmedH U.vm) (h : Kn w s) : Kn w U := ⟨va_K.moved hW.alike h.1, va_AO.moved hW.alike h.2.1, fun x hx => nestW_warm x hx hW (h.2.2 x hx)⟩
theorem Kn.same {w : WD} {s U : State} (hv : s.vm = U.vm) (h : Kn w s) : Kn w U := ⟨va_K.moved (by rw [hv]; exact Vm.Alike.refl _) h.1, va_AO.moved (by rw [hv]; exact Vm.Alike.refl _) h.2.1, fun x hx => va_Nw.same (List.all_eq_true.mp nestW_tab x hx) hv (h.2.2 x hx)⟩
theorem RepS.blind {w : WD} {h : HP} (av : List Value) : FrameBlind (va_Pc av (RepS w h)) := fun a U g mk q => ⟨q.1, q.2.1, q.2.2.1, Kn.same (s := U) (U := U.calling g mk a) rfl q.2.2.2.1, Sk.same (s := U) (U := U.calling g mk a) rfl q.2.2.2.2⟩
/-- what stands fast within a method: the machine, its room, its start, its frame -/
def CX : Type := WD × Nat × (State → Prop) × Program × Launch × Env × Room × State × MethodId × Array Value × List Frame × Method × Code
def CX.w (x : CX) : WD := x.1
def CX.nL (x : CX) : Nat := x.2.1
def CX.Q (x : CX) : State → Prop := x.2.2.1
def CX.p (x : CX) : Program := x.2.2.2.1
def CX.l (x : CX) : Launch := x.2.2.2.2.1
def CX.e (x : CX) : Env := x.2.2.2.2.2.1
def CX.rm (x : CX) : Room := x.2.2.2.2.2.2.1
def CX.s (x : CX) : State := x.2.2.2.2.2.2.2.1
def CX.m (x : CX) : MethodId := x.2.2.2.2.2.2.2.2.1
def CX.a (x : CX) : Array Value := x.2.2.2.2.2.2.2.2.2.1
def CX.bl (x : CX) : List Frame := x.2.2.2.2.2.2.2.2.2.2.1
def CX.mt (x : CX) : Method := x.2.2.2.2.2.2.2.2.2.2.2.1
def CX.c (x : CX) : Code := x.2.2.2.2.2.2.2.2.2.2.2.2
def Rn (x : CX) (kc ks pc : Nat) (lv : List (Nat × Value)) (st : List Value) (h : HP) : Prop :=
  ∀ (H : Heap) (locs : List Loc) (ls : Array Slot), lv_has ls x.nL lv → va_S x.w.A x.s.heap H locs → Rep x.w h H → W x.p x.l x.e x.rm x.s x.m x.a x.bl x.mt x.c H locs kc ks x.Q (F0 x.m pc ls st)
def Cx (x : CX) (cc : ByteArray) (own : String) (rm0 : Room) : Prop := x.p.tables.exec = Jvm.exec ∧ x.c.code = cc ∧ x.c.maxLocals = x.nL ∧ x.s.vm.findClass own = some x.m.cls ∧ (∀ w ∈ Tg, w.before x.a x.s = true) ∧ Kn x.w x.s ∧ Sk x.w x.s x.s.heap ∧ x.w.b ≤ x.s.heap.size ∧ x.mt.locks = false ∧ x.rm = rm0
section
variable {x : CX} {cc : ByteArray} {own : String} {rm0 : Room} {kc ks pc : Nat} {lv lv' : List (Nat × Value)} {st : List Value} {h : HP}

theorem R_iconst (hc : Cx x cc own rm0) {n : Int} {v : Int32} (hd : decode cc pc = .ok (.iconst n, 1)) (hv : Int32.ofInt n = v) (k : Rn x kc ks (pc + 1) lv (.int v :: st) h) : Rn x kc ks pc lv st h := fun H locs ls hl hS hP => lv_iconst hc.1 hc.2.1 hd hv (k H locs ls hl hS hP)
theorem R_bipush (hc : Cx x cc own rm0) {n : Int} {v : Int32} (hd : decode cc pc = .ok (.bipush n, 2)) (hv : (Int8.ofInt n).toInt32 = v) (k : Rn x kc ks (pc + 2) lv (.int v :: st) h) : Rn x kc ks pc lv st h := fun H locs ls hl hS hP => lv_bipush hc.1 hc.2.1 hd hv (k H locs ls hl hS hP)
theorem R_sipush (hc : Cx x cc own rm0) {n : Int} {v : Int32} (hd : decode cc pc = .ok (.sipush n, 3)) (hv : (Int16.ofInt n).toInt32 = v) (k : Rn x kc ks (pc + 3) lv (.int v :: st) h) : Rn x kc ks pc lv st h := fun H locs ls hl hS hP => lv_sipush hc.1 hc.2.1 hd hv (k H locs ls hl hS hP)
theorem R_lconst (hc : Cx x cc own rm0) {n : Fin 2} {v : Int64} (hd : decode cc pc = .ok (.lconst n, 1)) (hv : Int64.ofNat (n : Nat) = v) (k : Rn x kc ks (pc + 1) lv (.long v :: st) h) : Rn x kc ks pc lv st h := fun H locs ls hl hS hP => lv_lconst hc.1 hc.2.1 hd hv (k H locs ls hl hS hP)
theorem R_null (hc : Cx x cc own rm0) (hd : decode cc pc = .ok (.aconst_null, 1)) (k : Rn x kc ks (pc + 1) lv (rf x.w none :: st) h) : Rn x kc ks pc lv st h := fun H locs ls hl hS hP => lv_null hc.1 hc.2.1 hd (k H locs ls hl hS hP)
theorem R_iload_n (hc : Cx x cc own rm0) {j : Fin 4} {i q : Nat} {v : Int32} (hd : decode cc pc = .ok (.iload_n j, 1)) (hi : (j : Nat) = i) (hq : lv[q]? = some (i, .int v)) (k : Rn x kc ks (pc + 1) lv (.int v :: st) h) : Rn x kc ks pc lv st h := fun H locs ls hl hS hP => lv_iload_n hc.1 hc.2.1 hd hi (lv_at hl q hq) (k H locs ls hl hS hP)
theorem R_iload (hc : Cx x cc own rm0) {i q : Nat} {v : Int32} (hd : decode cc pc = .ok (.iload i, 2)) (hq : lv[q]? = some (i, .int v)) (k : Rn x kc ks (pc + 2) lv (.int v :: st) h) : Rn x kc ks pc lv st h := fun H locs ls hl hS hP => lv_iload hc.1 hc.2.1 hd (lv_at hl q hq) (k H locs ls hl hS hP)
theorem R_lload_n (hc : Cx x cc own rm0) {j : Fin 4} {i q : Nat} {v : Int64} (hd : decode cc pc = .ok (.lload_n j, 1)) (hi : (j : Nat) = i) (hq : lv[q]? = some (i, .long v)) (k : Rn x kc ks (pc + 1) lv (.long v :: st) h) : Rn x kc ks pc lv st h := fun H locs ls hl hS hP => lv_lload_n hc.1 hc.2.1 hd hi (lv_at hl q hq) (k H locs ls hl hS hP)
theorem R_lload (hc : Cx x cc own rm0) {i q : Nat} {v : Int64} (hd : decode cc pc = .ok (.lload i, 2)) (hq : lv[q]? = some (i, .long v)) (k : Rn x kc ks (pc + 2) lv (.long v :: st) h) : Rn x kc ks pc lv st h := fun H locs ls hl hS hP => lv_lload hc.1 hc.2.1 hd (lv_at hl q hq) (k H locs ls hl hS hP)
theorem rf_case (w : WD) (r : Option Nat) : (r = none ∧ rf w r = .null) ∨ ∃ a, r = some a ∧ rf w r = .ref (w.b + a) := by
  cases r with
  | none => exact Or.inl ⟨rfl, rfl⟩
  | some a => exact Or.inr ⟨a, rfl, rfl⟩
theorem rf_cat (w : WD) (r : Option Nat) : (rf w r).category = 1 := by cases r <;> rfl
theorem R_aload_n (hc : Cx x cc own rm0) {j : Fin 4} {i q : Nat} {v : Option Nat} (hd : decode cc pc = .ok (.aload_n j, 1)) (hi : (j : Nat) = i) (hq : lv[q]? = some (i, rf x.w v)) (k : Rn x kc ks (pc + 1) lv (rf x.w v :: st) h) : Rn x kc ks pc lv st h := by
  intro H locs ls hl hS hP
  have k := k H locs ls hl hS hP
  rcases rf_case x.w v with ⟨-, e⟩ | ⟨a, -, e⟩ <;> rw [e] at k hq
  · exact lv_aload_nN hc.1 hc.2.1 hd hi (lv_at hl q hq) k
  · exact lv_aload_n hc.1 hc.2.1 hd hi (lv_at hl q hq) k
theorem R_aload (hc : Cx x cc own rm0) {i q : Nat} {v : Option Nat} (hd : decode cc pc = .ok (.aload i, 2)) (hq : lv[q]? = some (i, rf x.w v)) (k : Rn x kc ks (pc + 2) lv (rf x.w v :: st) h) : Rn x kc ks pc lv st h := by
  intro H locs ls hl hS hP
  have k := k H locs ls hl hS hP
  rcases rf_case x.w v with ⟨-, e⟩ | ⟨a, -, e⟩ <;> rw [e] at k hq
  · exact lv_aloadN hc.1 hc.2.1 hd (lv_at hl q hq) k
  · exact lv_aload hc.1 hc.2.1 hd (lv_at hl q hq) k
theorem R_istore_n (hc : Cx x cc own rm0) {j : Fin 4} {i : Nat} {v : Int32} (lv' : List (Nat × Value)) (hd : decode cc pc = .ok (.istore_n j, 1)) (hi : (j : Nat) = i) (hn : i < x.nL) (hv : (i, Value.int v) :: lv.filter (fun q => !(q.1 == i) && !(q.1 + 1 == i && q.2.category == 2)) = lv') (k : Rn x kc ks (pc + 1) lv' st h) : Rn x kc ks pc lv (.int v :: st) h := fun H locs ls hl hS hP => lv_istore_n hc.1 hc.2.1 hd hi hl hn hv fun ls hl => k H locs ls hl hS hP
theorem R_istore (hc : Cx x cc own rm0) {i : Nat} {v : Int32} (lv' : List (Nat × Value)) (hd : decode cc pc = .ok (.istore i, 2)) (hn : i < x.nL) (hv : (i, Value.int v) :: lv.filter (fun q => !(q.1 == i) && !(q.1 + 1 == i && q.2.category == 2)) = lv') (k : Rn x kc ks (pc + 2) lv' st h) : Rn x kc ks pc lv (.int v :: st) h := fun H locs ls hl hS hP => lv_istore hc.1 hc.2.1 hd hl hn hv fun ls hl => k H locs ls hl hS hP
theorem R_lstore_n (hc : Cx x cc own rm0) {j : Fin 4} {i : Nat} {v : Int64} (lv' : List (Nat × Value)) (hd : decode cc pc = .ok (.lstore_n j, 1)) (hi : (j : Nat) = i) (hn : i + 1 < x.nL) (hv : (i, Value.long v) :: lv.filter (fun q => !(q.1 == i) && (!(q.1 == i + 1) && !(q.1 + 1 == i && q.2.category == 2))) = lv') (k : Rn x kc ks (pc + 1) lv' st h) : Rn x kc ks pc lv (.long v :: st) h := fun H locs ls hl hS hP => lv_lstore_n hc.1 hc.2.1 hd hi hl hn hv fun ls hl => k H locs ls hl hS hP
theorem R_lstore (hc : Cx x cc own rm0) {i : Nat} {v : Int64} (lv' : List (Nat × Value)) (hd : decode cc pc = .ok (.lstore i, 2)) (hn : i + 1 < x.nL) (hv : (i, Value.long v) :: lv.filter (fun q => !(q.1 == i) && (!(q.1 == i + 1) && !(q.1 + 1 == i && q.2.category == 2))) = lv') (k : Rn x kc ks (pc + 2) lv' st h) : Rn x kc ks pc lv (.long v :: st) h := fun H locs ls hl hS hP => lv_lstore hc.1 hc.2.1 hd hl hn hv fun ls hl => k H locs ls hl hS hP
theorem R_astore_n (hc : Cx x cc own rm0) {j : Fin 4} {i : Nat} {v : Option Nat} (lv' : List (Nat × Value)) (hd : decode cc pc = .ok (.astore_n j, 1)) (hi : (j : Nat) = i) (hn : i < x.nL) (hv : (i, rf x.w v) :: lv.filter (fun q => !(q.1 == i) && !(q.1 + 1 == i && q.2.category == 2)) = lv') (k : Rn x kc ks (pc + 1) lv' st h) : Rn x kc ks pc lv (rf x.w v :: st) h := by
  intro H locs ls hl hS hP
  rcases rf_case x.w v with ⟨-, e⟩ | ⟨a, -, e⟩ <;> rw [e] at hv ⊢
  · exact lv_astore_nN hc.1 hc.2.1 hd hi hl hn hv fun ls hl => k H locs ls hl hS hP
  · exact lv_astore_n hc.1 hc.2.1 hd hi hl hn hv fun ls hl => k H locs ls hl hS hP
theorem R_astore (hc : Cx x cc own rm0) {i : Nat} {v : Option Nat} (lv' : List (Nat × Value)) (hd : decode cc pc = .ok (.astore i, 2))  (hn : i < x.nL) (hv : (i, rf x.w v) :: lv.filter (fun q => !(q.1 == i) && !(q.1 + 1 == i && q.2.category == 2)) = lv') (k : Rn x kc ks (pc + 2) lv' st h) : Rn x kc ks pc lv (rf x.w v :: st) h := by
  intro H locs ls hl hS hP
  rcases rf_case x.w v with ⟨-, e⟩ | ⟨a, -, e⟩ <;> rw [e] at hv ⊢
  · exact lv_astoreN hc.1 hc.2.1 hd  hl hn hv fun ls hl => k H locs ls hl hS hP
  · exact lv_astore hc.1 hc.2.1 hd  hl hn hv fun ls hl => k H locs ls hl hS hP
theorem R_iinc (hc : Cx x cc own rm0) {i q : Nat} {n : Int} {v v' : Int32} (lv' : List (Nat × Value)) (hd : decode cc pc = .ok (.iinc i n, 3)) (hq : lv[q]? = some (i, .int v)) (hv : v + Int32.ofInt n = v') (hn : i < x.nL) (hl' : (i, Value.int v') :: lv.filter (fun q => !(q.1 == i) && !(q.1 + 1 == i && q.2.category == 2)) = lv') (k : Rn x kc ks (pc + 3) lv' st h) : Rn x kc ks pc lv st h := fun H locs ls hl hS hP => lv_iinc hc.1 hc.2.1 hd hl hq hv hn hl' fun ls hl => k H locs ls hl hS hP
theorem R_iadd (hc : Cx x cc own rm0) {a b : Int32} (hd : decode cc pc = .ok (.iadd, 1)) (k : Rn x kc ks (pc + 1) lv (.int (a + b) :: st) h) : Rn x kc ks pc lv (.int b :: .int a :: st) h := fun H locs ls hl hS hP => lv_iadd hc.1 hc.2.1 hd (k H locs ls hl hS hP)
theorem R_isub (hc : Cx x cc own rm0) {a b : Int32} (hd : decode cc pc = .ok (.isub, 1)) (k : Rn x kc ks (pc + 1) lv (.int (a - b) :: st) h) : Rn x kc ks pc lv (.int b :: .int a :: st) h := fun H locs ls hl hS hP => lv_isub hc.1 hc.2.1 hd (k H locs ls hl hS hP)
theorem R_imul (hc : Cx x cc own rm0) {a b : Int32} (hd : decode cc pc = .ok (.imul, 1)) (k : Rn x kc ks (pc + 1) lv (.int (a * b) :: st) h) : Rn x kc ks pc lv (.int b :: .int a :: st) h := fun H locs ls hl hS hP => lv_imul hc.1 hc.2.1 hd (k H locs ls hl hS hP)
theorem R_iand (hc : Cx x cc own rm0) {a b : Int32} (hd : decode cc pc = .ok (.iand, 1)) (k : Rn x kc ks (pc + 1) lv (.int (a &&& b) :: st) h) : Rn x kc ks pc lv (.int b :: .int a :: st) h := fun H locs ls hl hS hP => lv_iand hc.1 hc.2.1 hd (k H locs ls hl hS hP)
theorem R_ior (hc : Cx x cc own rm0) {a b : Int32} (hd : decode cc pc = .ok (.ior, 1)) (k : Rn x kc ks (pc + 1) lv (.int (a ||| b) :: st) h) : Rn x kc ks pc lv (.int b :: .int a :: st) h := fun H locs ls hl hS hP => lv_ior hc.1 hc.2.1 hd (k H locs ls hl hS hP)
theorem R_ixor (hc : Cx x cc own rm0) {a b : Int32} (hd : decode cc pc = .ok (.ixor, 1)) (k : Rn x kc ks (pc + 1) lv (.int (a ^^^ b) :: st) h) : Rn x kc ks pc lv (.int b :: .int a :: st) h := fun H locs ls hl hS hP => lv_ixor hc.1 hc.2.1 hd (k H locs ls hl hS hP)
theorem R_ladd (hc : Cx x cc own rm0) {a b : Int64} (hd : decode cc pc = .ok (.ladd, 1)) (k : Rn x kc ks (pc + 1) lv (.long (a + b) :: st) h) : Rn x kc ks pc lv (.long b :: .long a :: st) h := fun H locs ls hl hS hP => lv_ladd hc.1 hc.2.1 hd (k H locs ls hl hS hP)
theorem R_lsub (hc : Cx x cc own rm0) {a b : Int64} (hd : decode cc pc = .ok (.lsub, 1)) (k : Rn x kc ks (pc + 1) lv (.long (a - b) :: st) h) : Rn x kc ks pc lv (.long b :: .long a :: st) h := fun H locs ls hl hS hP => lv_lsub hc.1 hc.2.1 hd (k H locs ls hl hS hP)
theorem R_lmul (hc : Cx x cc own rm0) {a b : Int64} (hd : decode cc pc = .ok (.lmul, 1)) (k : Rn x kc ks (pc + 1) lv (.long (a * b) :: st) h) : Rn x kc ks pc lv (.long b :: .long a :: st) h := fun H locs ls hl hS hP => lv_lmul hc.1 hc.2.1 hd (k H locs ls hl hS hP)
theorem R_land (hc : Cx x cc own rm0) {a b : Int64} (hd : decode cc pc = .ok (.land, 1)) (k : Rn x kc ks (pc + 1) lv (.long (a &&& b) :: st) h) : Rn x kc ks pc lv (.long b :: .long a :: st) h := fun H locs ls hl hS hP => lv_land hc.1 hc.2.1 hd (k H locs ls hl hS hP)
theorem R_lor (hc : Cx x cc own rm0) {a b : Int64} (hd : decode cc pc = .ok (.lor, 1)) (k : Rn x kc ks (pc + 1) lv (.long (a ||| b) :: st) h) : Rn x kc ks pc lv (.long b :: .long a :: st) h := fun H locs ls hl hS hP => lv_lor hc.1 hc.2.1 hd (k H locs ls hl hS hP)
theorem R_ishl (hc : Cx x cc own rm0) {a b : Int32} (hd : decode cc pc = .ok (.ishl, 1)) (k : Rn x kc ks (pc + 1) lv (.int (jshl a b) :: st) h) : Rn x kc ks pc lv (.int b :: .int a :: st) h := fun H locs ls hl hS hP => lv_ishl hc.1 hc.2.1 hd (k H locs ls hl hS hP)
theorem R_ishr (hc : Cx x cc own rm0) {a b : Int32} (hd : decode cc pc = .ok (.ishr, 1)) (k : Rn x kc ks (pc + 1) lv (.int (jshr a b) :: st) h) : Rn x kc ks pc lv (.int b :: .int a :: st) h := fun H locs ls hl hS hP => lv_ishr hc.1 hc.2.1 hd (k H locs ls hl hS hP)
theorem R_iushr (hc : Cx x cc own rm0) {a b : Int32} (hd : decode cc pc = .ok (.iushr, 1)) (k : Rn x kc ks (pc + 1) lv (.int (jush a b) :: st) h) : Rn x kc ks pc lv (.int b :: .int a :: st) h := fun H locs ls hl hS hP => lv_iushr hc.1 hc.2.1 hd rfl (k H locs ls hl hS hP)
theorem R_lshl (hc : Cx x cc own rm0) {a : Int64} {b : Int32} (hd : decode cc pc = .ok (.lshl, 1)) (k : Rn x kc ks (pc + 1) lv (.long (Jshl a b) :: st) h) : Rn x kc ks pc lv (.int b :: .long a :: st) h := fun H locs ls hl hS hP => lv_lshl hc.1 hc.2.1 hd rfl (k H locs ls hl hS hP)
theorem R_lshr (hc : Cx x cc own rm0) {a : Int64} {b : Int32} (hd : decode cc pc = .ok (.lshr, 1)) (k : Rn x kc ks (pc + 1) lv (.long (Jshr a b) :: st) h) : Rn x kc ks pc lv (.int b :: .long a :: st) h := fun H locs ls hl hS hP => lv_lshr hc.1 hc.2.1 hd rfl (k H locs ls hl hS hP)
theorem R_ineg (hc : Cx x cc own rm0) {a : Int32} (hd : decode cc pc = .ok (.ineg, 1)) (k : Rn x kc ks (pc + 1) lv (.int (-a) :: st) h) : Rn x kc ks pc lv (.int a :: st) h := fun H locs ls hl hS hP => lv_ineg hc.1 hc.2.1 hd (k H locs ls hl hS hP)
theorem R_i2l (hc : Cx x cc own rm0) {a : Int32} (hd : decode cc pc = .ok (.i2l, 1)) (k : Rn x kc ks (pc + 1) lv (.long a.toInt64 :: st) h) : Rn x kc ks pc lv (.int a :: st) h := fun H locs ls hl hS hP => lv_i2l hc.1 hc.2.1 hd rfl (k H locs ls hl hS hP)
theorem R_l2i (hc : Cx x cc own rm0) {a : Int64} (hd : decode cc pc = .ok (.l2i, 1)) (k : Rn x kc ks (pc + 1) lv (.int a.toInt32 :: st) h) : Rn x kc ks pc lv (.long a :: st) h := fun H locs ls hl hS hP => lv_l2i hc.1 hc.2.1 hd rfl (k H locs ls hl hS hP)
theorem R_i2b (hc : Cx x cc own rm0) {a : Int32} (hd : decode cc pc = .ok (.i2b, 1)) (k : Rn x kc ks (pc + 1) lv (.int a.toInt8.toInt32 :: st) h) : Rn x kc ks pc lv (.int a :: st) h := fun H locs ls hl hS hP => lv_i2b hc.1 hc.2.1 hd rfl (k H locs ls hl hS hP)
theorem R_lcmp (hc : Cx x cc own rm0) {a b : Int64} (hd : decode cc pc = .ok (.lcmp, 1)) (k : Rn x kc ks (pc + 1) lv (.int (lg_cmp a b) :: st) h) : Rn x kc ks pc lv (.long b :: .long a :: st) h := fun H locs ls hl hS hP => W.lcmp hc.1 hc.2.1 hd (k H locs ls hl hS hP)
theorem R_idivL (hc : Cx x cc own rm0) {a b : Int32} (hd : decode cc pc = .ok (.idiv, 1)) (hne : ¬ b = 0) (k : Rn x kc ks (pc + 1) lv (.int (a / b) :: st) h) : Rn x kc ks pc lv (.int b :: .int a :: st) h := fun H locs ls hl hS hP => lv_idiv hc.1 hc.2.1 hd hne (k H locs ls hl hS hP)
theorem R_iremL (hc : Cx x cc own rm0) {a b : Int32} (hd : decode cc pc = .ok (.irem, 1)) (hne : ¬ b = 0) (k : Rn x kc ks (pc + 1) lv (.int (jrem a b) :: st) h) : Rn x kc ks pc lv (.int b :: .int a :: st) h := fun H locs ls hl hS hP => lv_irem hc.1 hc.2.1 hd hne (k H locs ls hl hS hP)
theorem R_idiv (hc : Cx x cc own rm0) {α : Type} {C : α → Prop} {f : Int32 → Option α} {a b : Int32} (hd : decode cc pc = .ok (.idiv, 1)) (hw : wpO ((dvI a b).bind f) C) (k : ∀ v, wpO (f v) C → Rn x kc ks (pc + 1) lv (.int v :: st) h) : Rn x kc ks pc lv (.int b :: .int a :: st) h := by
  obtain ⟨v, h1, h2⟩ := wpO_bind hw
  unfold dvI at h1
  by_cases hb : b = 0
  · rw [if_pos hb] at h1; cases h1
  · rw [if_neg hb] at h1; cases h1
    exact R_idivL hc hd hb (k _ h2)
theorem R_irem (hc : Cx x cc own rm0) {α : Type} {C : α → Prop} {f : Int32 → Option α} {a b : Int32} (hd : decode cc pc = .ok (.irem, 1)) (hw : wpO ((rmI a b).bind f) C) (k : ∀ v, wpO (f v) C → Rn x kc ks (pc + 1) lv (.int v :: st) h) : Rn x kc ks pc lv (.int b :: .int a :: st) h := by
  obtain ⟨v, h1, h2⟩ := wpO_bind hw
  unfold rmI at h1
  by_cases hb : b = 0
  · rw [if_pos hb] at h1; cases h1
  · rw [if_neg hb] at h1; cases h1
    exact R_iremL hc hd hb (k _ h2)
theorem R_nmI {α : Type} {C : α → Prop} {f : Int32 → Option α} {v : Int32} (hw : wpO (nmI v f) C) (k : ∀ u, wpO (f u) C → Rn x kc ks pc lv (.int u :: st) h) : Rn x kc ks pc lv (.int v :: st) h := k v hw
theorem R_nmJ {α : Type} {C : α → Prop} {f : Int64 → Option α} {v : Int64} (hw : wpO (nmJ v f) C) (k : ∀ u, wpO (f u) C → Rn x kc ks pc lv (.long u :: st) h) : Rn x kc ks pc lv (.long v :: st) h := k v hw
theorem R_dup (hc : Cx x cc own rm0) {v : Value} (hd : decode cc pc = .ok (.dup, 1)) (hv : v.category = 1) (k : Rn x kc ks (pc + 1) lv (v :: v :: st) h) : Rn x kc ks pc lv (v :: st) h := fun H locs ls hl hS hP => lv_dup hc.1 hc.2.1 hd hv (k H locs ls hl hS hP)
theorem R_dup2 (hc : Cx x cc own rm0) {v u : Value} (hd : decode cc pc = .ok (.dup2, 1)) (hv : v.category = 1) (hu : u.category = 1) (k : Rn x kc ks (pc + 1) lv (v :: u :: v :: u :: st) h) : Rn x kc ks pc lv (v :: u :: st) h := fun H locs ls hl hS hP => lv_dup2_11 hc.1 hc.2.1 hd hv hu (k H locs ls hl hS hP)
theorem R_goto (hc : Cx x cc own rm0) {off : Int} {tgt : Nat} (hd : decode cc pc = .ok (.goto off, 3)) (ht : (pc : Int) + off = (tgt : Int)) (k : Rn x kc ks tgt lv st h) : Rn x kc ks pc lv st h := fun H locs ls hl hS hP => lv_goto hc.1 hc.2.1 hd ht (k H locs ls hl hS hP)
theorem R_ldc2 (hc : Cx x cc own rm0) {idx : Nat} {v : Int64} (hw : Cond.constantLong own idx v ∈ Tg) (hd : decode cc pc = .ok (.ldc2_w idx, 3)) (k : Rn x kc ks (pc + 3) lv (.long v :: st) h) : Rn x kc ks pc lv st h := fun H locs ls hl hS hP => lv_ldc2 hc.1 hc.2.1 hc.2.2.2.1 (hc.2.2.2.2.1 _ hw) hd (k H locs ls hl hS hP)
theorem R_ldc (hc : Cx x cc own rm0) {idx : Nat} {v : Int32} (hw : Cond.constant own idx v ∈ Tg) (hd : decode cc pc = .ok (.ldc idx, 2)) (k : Rn x kc ks (pc + 2) lv (.int v :: st) h) : Rn x kc ks pc lv st h := fun H locs ls hl hS hP => lv_ldc hc.1 hc.2.1 hc.2.2.2.1 (hc.2.2.2.2.1 _ hw) hd (k H locs ls hl hS hP)
theorem R_sub (hc : Cx x cc own rm0) (qs : List Nat) (hl : lv_pick lv qs = lv') (k : Rn x kc ks pc lv' st h) : Rn x kc ks pc lv st h := fun H locs ls hl0 hS hP => k H locs ls (lv_sub hl0 qs hl) hS hP
theorem R_if_eq (hc : Cx x cc own rm0) {α : Type} {C : α → Prop} {X Y : Option α} {a : Int32} {off : Int} {tgt : Nat} (hd : decode cc pc = .ok (.ifCond .eq off, 3)) (ht : (pc : Int) + off = (tgt : Int)) (hw : wpO (if a = 0 then X else Y) C) (k1 : wpO X C → Rn x kc ks tgt lv st h) (k2 : wpO Y C → Rn x kc ks (pc + 3) lv st h) : Rn x kc ks pc lv (.int a :: st) h := fun H locs ls hl hS hP => lv_if_eq hc.1 hc.2.1 hd ht (fun hh => k1 ((wpO_if hw).1 hh) H locs ls hl hS hP) (fun hh => k2 ((wpO_if hw).2 hh) H locs ls hl hS hP)
theorem R_if_ne (hc : Cx x cc own rm0) {α : Type} {C : α → Prop} {X Y : Option α} {a : Int32} {off : Int} {tgt : Nat} (hd : decode cc pc = .ok (.ifCond .ne off, 3)) (ht : (pc : Int) + off = (tgt : Int)) (hw : wpO (if ¬ a = 0 then X else Y) C) (k1 : wpO X C → Rn x kc ks tgt lv st h) (k2 : wpO Y C → Rn x kc ks (pc + 3) lv st h) : Rn x kc ks pc lv (.int a :: st) h := fun H locs ls hl hS hP => lv_if_ne hc.1 hc.2.1 hd ht (fun hh => k1 ((wpO_if hw).1 hh) H locs ls hl hS hP) (fun hh => k2 ((wpO_if hw).2 (fun q => q hh)) H locs ls hl hS hP)
theorem R_if_lt (hc : Cx x cc own rm0) {α : Type} {C : α → Prop} {X Y : Option α} {a : Int32} {off : Int} {tgt : Nat} (hd : decode cc pc = .ok (.ifCond .lt off, 3)) (ht : (pc : Int) + off = (tgt : Int)) (hw : wpO (if a < 0 then X else Y) C) (k1 : wpO X C → Rn x kc ks tgt lv st h) (k2 : wpO Y C → Rn x kc ks (pc + 3) lv st h) : Rn x kc ks pc lv (.int a :: st) h := fun H locs ls hl hS hP => lv_if_lt hc.1 hc.2.1 hd ht (fun hh => k1 ((wpO_if hw).1 hh) H locs ls hl hS hP) (fun hh => k2 ((wpO_if hw).2 hh) H locs ls hl hS hP)
theorem R_if_ge (hc : Cx x cc own rm0) {α : Type} {C : α → Prop} {X Y : Option α} {a : Int32} {off : Int} {tgt : Nat} (hd : decode cc pc = .ok (.ifCond .ge off, 3)) (ht : (pc : Int) + off = (tgt : Int)) (hw : wpO (if 0 ≤ a then X else Y) C) (k1 : wpO X C → Rn x kc ks tgt lv st h) (k2 : wpO Y C → Rn x kc ks (pc + 3) lv st h) : Rn x kc ks pc lv (.int a :: st) h := fun H locs ls hl hS hP => lv_if_ge hc.1 hc.2.1 hd ht (fun hh => k1 ((wpO_if hw).1 hh) H locs ls hl hS hP) (fun hh => k2 ((wpO_if hw).2 hh) H locs ls hl hS hP)
theorem R_if_gt (hc : Cx x cc own rm0) {α : Type} {C : α → Prop} {X Y : Option α} {a : Int32} {off : Int} {tgt : Nat} (hd : decode cc pc = .ok (.ifCond .gt off, 3)) (ht : (pc : Int) + off = (tgt : Int)) (hw : wpO (if 0 < a then X else Y) C) (k1 : wpO X C → Rn x kc ks tgt lv st h) (k2 : wpO Y C → Rn x kc ks (pc + 3) lv st h) : Rn x kc ks pc lv (.int a :: st) h := fun H locs ls hl hS hP => lv_if_gt hc.1 hc.2.1 hd ht (fun hh => k1 ((wpO_if hw).1 hh) H locs ls hl hS hP) (fun hh => k2 ((wpO_if hw).2 hh) H locs ls hl hS hP)
theorem R_if_le (hc : Cx x cc own rm0) {α : Type} {C : α → Prop} {X Y : Option α} {a : Int32} {off : Int} {tgt : Nat} (hd : decode cc pc = .ok (.ifCond .le off, 3)) (ht : (pc : Int) + off = (tgt : Int)) (hw : wpO (if a ≤ 0 then X else Y) C) (k1 : wpO X C → Rn x kc ks tgt lv st h) (k2 : wpO Y C → Rn x kc ks (pc + 3) lv st h) : Rn x kc ks pc lv (.int a :: st) h := fun H locs ls hl hS hP => lv_if_le hc.1 hc.2.1 hd ht (fun hh => k1 ((wpO_if hw).1 hh) H locs ls hl hS hP) (fun hh => k2 ((wpO_if hw).2 hh) H locs ls hl hS hP)
theorem R_icmp_eq (hc : Cx x cc own rm0) {α : Type} {C : α → Prop} {X Y : Option α} {a b : Int32} {off : Int} {tgt : Nat} (hd : decode cc pc = .ok (.if_icmp .eq off, 3)) (ht : (pc : Int) + off = (tgt : Int)) (hw : wpO (if a = b then X else Y) C) (k1 : wpO X C → Rn x kc ks tgt lv st h) (k2 : wpO Y C → Rn x kc ks (pc + 3) lv st h) : Rn x kc ks pc lv (.int b :: .int a :: st) h := fun H locs ls hl hS hP => lv_icmp_eq hc.1 hc.2.1 hd ht (fun hh => k1 ((wpO_if hw).1 hh) H locs ls hl hS hP) (fun hh => k2 ((wpO_if hw).2 hh) H locs ls hl hS hP)
theorem R_icmp_ne (hc : Cx x cc own rm0) {α : Type} {C : α → Prop} {X Y : Option α} {a b : Int32} {off : Int} {tgt : Nat} (hd : decode cc pc = .ok (.if_icmp .ne off, 3)) (ht : (pc : Int) + off = (tgt : Int)) (hw : wpO (if ¬ a = b then X else Y) C) (k1 : wpO X C → Rn x kc ks tgt lv st h) (k2 : wpO Y C → Rn x kc ks (pc + 3) lv st h) : Rn x kc ks pc lv (.int b :: .int a :: st) h := fun H locs ls hl hS hP => lv_icmp_ne hc.1 hc.2.1 hd ht (fun hh => k1 ((wpO_if hw).1 hh) H locs ls hl hS hP) (fun hh => k2 ((wpO_if hw).2 (fun q => q hh)) H locs ls hl hS hP)
theorem R_icmp_lt (hc : Cx x cc own rm0) {α : Type} {C : α → Prop} {X Y : Option α} {a b : Int32} {off : Int} {tgt : Nat} (hd : decode cc pc = .ok (.if_icmp .lt off, 3)) (ht : (pc : Int) + off = (tgt : Int)) (hw : wpO (if a < b then X else Y) C) (k1 : wpO X C → Rn x kc ks tgt lv st h) (k2 : wpO Y C → Rn x kc ks (pc + 3) lv st h) : Rn x kc ks pc lv (.int b :: .int a :: st) h := fun H locs ls hl hS hP => lv_icmp_lt hc.1 hc.2.1 hd ht (fun hh => k1 ((wpO_if hw).1 hh) H locs ls hl hS hP) (fun hh => k2 ((wpO_if hw).2 hh) H locs ls hl hS hP)
theorem R_icmp_ge (hc : Cx x cc own rm0) {α : Type} {C : α → Prop} {X Y : Option α} {a b : Int32} {off : Int} {tgt : Nat} (hd : decode cc pc = .ok (.if_icmp .ge off, 3)) (ht : (pc : Int) + off = (tgt : Int)) (hw : wpO (if b ≤ a then X else Y) C) (k1 : wpO X C → Rn x kc ks tgt lv st h) (k2 : wpO Y C → Rn x kc ks (pc + 3) lv st h) : Rn x kc ks pc lv (.int b :: .int a :: st) h := fun H locs ls hl hS hP => lv_icmp_ge hc.1 hc.2.1 hd ht (fun hh => k1 ((wpO_if hw).1 hh) H locs ls hl hS hP) (fun hh => k2 ((wpO_if hw).2 hh) H locs ls hl hS hP)
theorem R_icmp_gt (hc : Cx x cc own rm0) {α : Type} {C : α → Prop} {X Y : Option α} {a b : Int32} {off : Int} {tgt : Nat} (hd : decode cc pc = .ok (.if_icmp .gt off, 3)) (ht : (pc : Int) + off = (tgt : Int)) (hw : wpO (if b < a then X else Y) C) (k1 : wpO X C → Rn x kc ks tgt lv st h) (k2 : wpO Y C → Rn x kc ks (pc + 3) lv st h) : Rn x kc ks pc lv (.int b :: .int a :: st) h := fun H locs ls hl hS hP => lv_icmp_gt hc.1 hc.2.1 hd ht (fun hh => k1 ((wpO_if hw).1 hh) H locs ls hl hS hP) (fun hh => k2 ((wpO_if hw).2 hh) H locs ls hl hS hP)
theorem R_icmp_le (hc : Cx x cc own rm0) {α : Type} {C : α → Prop} {X Y : Option α} {a b : Int32} {off : Int} {tgt : Nat} (hd : decode cc pc = .ok (.if_icmp .le off, 3)) (ht : (pc : Int) + off = (tgt : Int)) (hw : wpO (if a ≤ b then X else Y) C) (k1 : wpO X C → Rn x kc ks tgt lv st h) (k2 : wpO Y C → Rn x kc ks (pc + 3) lv st h) : Rn x kc ks pc lv (.int b :: .int a :: st) h := fun H locs ls hl hS hP => lv_icmp_le hc.1 hc.2.1 hd ht (fun hh => k1 ((wpO_if hw).1 hh) H locs ls hl hS hP) (fun hh => k2 ((wpO_if hw).2 hh) H locs ls hl hS hP)
theorem R_acmp_ne (hc : Cx x cc own rm0) {α : Type} {C : α → Prop} {X Y : Option α} {a b : Option Nat} {off : Int} {tgt : Nat} (hd : decode cc pc = .ok (.if_acmp .ne off, 3)) (ht : (pc : Int) + off = (tgt : Int)) (hw : wpO (if ¬ a = b then X else Y) C) (k1 : wpO X C → Rn x kc ks tgt lv st h) (k2 : wpO Y C → Rn x kc ks (pc + 3) lv st h) : Rn x kc ks pc lv (rf x.w b :: rf x.w a :: st) h := by
  intro H locs ls hl hS hP
  refine lv_acmp_ne hc.1 hc.2.1 hd ht (fun hh => k1 ((wpO_if hw).1 (fun q => hh (by rw [q]))) H locs ls hl hS hP) (fun hh => k2 ((wpO_if hw).2 (fun q => q ?_)) H locs ls hl hS hP)
  cases a <;> cases b <;> simp_all
theorem R_ifnonnull (hc : Cx x cc own rm0) {α : Type} {C : α → Prop} {X Y : Option α} {a : Option Nat} {off : Int} {tgt : Nat} (hd : decode cc pc = .ok (.ifnonnull off, 3)) (ht : (pc : Int) + off = (tgt : Int)) (hw : wpO (if ¬ a = none then X else Y) C) (k1 : wpO X C → Rn x kc ks tgt lv st h) (k2 : wpO Y C → Rn x kc ks (pc + 3) lv st h) : Rn x kc ks pc lv (rf x.w a :: st) h := by
  intro H locs ls hl hS hP
  cases a with
  | none => exact lv_ifnonnullN hc.1 hc.2.1 hd (k2 ((wpO_if hw).2 (fun q => q rfl)) H locs ls hl hS hP)
  | some a => exact lv_ifnonnull hc.1 hc.2.1 hd ht (k1 ((wpO_if hw).1 (fun q => by cases q)) H locs ls hl hS hP)
end
