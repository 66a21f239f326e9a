/-- a field that own's pool entry idx names: field k, of kind t, of class ci -/
def FLk (own : String) (idx ci k t : Nat) : Prop := ∃ (C : String) (T : u_T) (N : Nat), vwCl[ci]? = some (C, T, N) ∧ k < N ∧ (∀ w ∈ u_ws C T N, w ∈ Tg) ∧ Cond.fieldLink own idx (T k).1 (T k).2.1 (T k).2.2.1 ∈ Tg ∧ (fty ci)[k]? = some t ∧ ci < 12
/-- the same for writing: its type, whether it is final -/
def PLk (own : String) (idx ci k t : Nat) (ty : FieldType) (fin : Bool) : Prop := ∃ (C : String) (T : u_T) (N : Nat) (ty0 : Nat → FieldType), vwCl[ci]? = some (C, T, N) ∧ k < N ∧ (∀ w ∈ u_ws C T N, w ∈ Tg) ∧ Cond.fieldLink own idx (T k).1 (T k).2.1 (T k).2.2.1 ∈ Tg ∧ (fty ci)[k]? = some t ∧ ci < 12 ∧ (∀ k, k < N → parseFieldDescriptor (T k).2.2.1 = some (ty0 k)) ∧ (∀ a, a < N → ∀ b, b < N → a ≠ b → (T a).2.1 ≠ (T b).2.1) ∧ ty0 k = ty ∧ (T k).2.2.2 = fin ∧ (T k).1 = C ∧ (fty ci).length = N
section
variable {x : CX} {cc : ByteArray} {own : String} {rm0 : Room} {kc ks pc : Nat} {lv lv' : List (Nat × Value)} {st : List Value} {h : HP} {α : Type} {C : α → Prop}
theorem g_some {β : Type} {r : Option Nat} {ok : Nat → Bool} {e : Nat → β} {v : β} (hh : (r.bind fun a => if ok a then some (e a) else none) = some v) : ∃ a, r = some a ∧ ok a = true ∧ v = e a := by
  cases r with
  | none => cases hh
  | some a =>
    have hh : (if ok a then some (e a) else none) = some v := hh
    by_cases ho : ok a = true
    · rw [if_pos ho] at hh; cases hh; exact ⟨a, rfl, ho, rfl⟩
    · rw [if_neg ho] at hh; cases hh
theorem Cx.ts (hc : Cx x cc own rm0) : ∀ w ∈ Tg, w.before x.a x.s = true := hc.2.2.2.2.1
theorem Cx.k (hc : Cx x cc own rm0) : Kn x.w x.s := hc.2.2.2.2.2.1
theorem Cx.sk (hc : Cx x cc own rm0) : Sk x.w x.s x.s.heap := hc.2.2.2.2.2.2.1
theorem Cx.bs (hc : Cx x cc own rm0) : x.w.b ≤ x.s.heap.size := hc.2.2.2.2.2.2.2.1
theorem Cx.lk (hc : Cx x cc own rm0) : x.mt.locks = false := hc.2.2.2.2.2.2.2.2.1
theorem Cx.r (hc : Cx x cc own rm0) : x.rm = rm0 := hc.2.2.2.2.2.2.2.2.2

theorem R_getI (hc : Cx x cc own rm0) {ci k idx : Nat} {r : Option Nat} {f : Int32 → Option α} (hf : FLk own idx ci k 0) (hd : decode cc pc = .ok (.getfield idx, 3)) (hw : wpO ((gI h ci r k).bind f) C) (kk : ∀ v, wpO (f v) C → Rn x kc ks (pc + 3) lv (.int v :: st) h) : Rn x kc ks pc lv (rf x.w r :: st) h := by
  obtain ⟨v, h1, h2⟩ := wpO_bind hw
  obtain ⟨a, rfl, ho, rfl⟩ := g_some h1
  obtain ⟨ha, hk⟩ := okO_spec ho
  obtain ⟨CC, T, N, e1, e2, e3, e4, e5, e6⟩ := hf
  intro H locs ls hl hS hP
  exact va_get hc.1 hc.2.1 hc.ts e3 hc.2.2.2.1 hc.k.1 hP a (by rw [wsO_at ha, elt_obj hk e6]) e1 k e2 (hc.ts _ e4) (fun _ h => h) (flds_at e5) hd (kk _ h2 H locs ls hl hS hP)
theorem R_getJ (hc : Cx x cc own rm0) {ci k idx : Nat} {r : Option Nat} {f : Int64 → Option α} (hf : FLk own idx ci k 1) (hd : decode cc pc = .ok (.getfield idx, 3)) (hw : wpO ((gJ h ci r k).bind f) C) (kk : ∀ v, wpO (f v) C → Rn x kc ks (pc + 3) lv (.long v :: st) h) : Rn x kc ks pc lv (rf x.w r :: st) h := by
  obtain ⟨v, h1, h2⟩ := wpO_bind hw
  obtain ⟨a, rfl, ho, rfl⟩ := g_some h1
  obtain ⟨ha, hk⟩ := okO_spec ho
  obtain ⟨CC, T, N, e1, e2, e3, e4, e5, e6⟩ := hf
  intro H locs ls hl hS hP
  exact va_get hc.1 hc.2.1 hc.ts e3 hc.2.2.2.1 hc.k.1 hP a (by rw [wsO_at ha, elt_obj hk e6]) e1 k e2 (hc.ts _ e4) (fun _ h => h) (flds_at e5) hd (kk _ h2 H locs ls hl hS hP)
theorem R_getR (hc : Cx x cc own rm0) {ci k idx : Nat} {r : Option Nat} {f : Option Nat → Option α} (hf : FLk own idx ci k 2) (hd : decode cc pc = .ok (.getfield idx, 3)) (hw : wpO ((gR h ci r k).bind f) C) (kk : ∀ v, wpO (f v) C → Rn x kc ks (pc + 3) lv (rf x.w v :: st) h) : Rn x kc ks pc lv (rf x.w r :: st) h := by
  obtain ⟨v, h1, h2⟩ := wpO_bind hw
  obtain ⟨a, rfl, ho, rfl⟩ := g_some h1
  obtain ⟨ha, hk⟩ := okO_spec ho
  obtain ⟨CC, T, N, e1, e2, e3, e4, e5, e6⟩ := hf
  intro H locs ls hl hS hP
  exact va_get hc.1 hc.2.1 hc.ts e3 hc.2.2.2.1 hc.k.1 hP a (by rw [wsO_at ha, elt_obj hk e6]) e1 k e2 (hc.ts _ e4) (fun _ h => h) (flds_at e5) hd (kk _ h2 H locs ls hl hS hP)
theorem flds_setI {w : WD} {h : HP} {ci a k : Nat} {v : Int32} (hk : (fty ci)[k]? = some 0) : (flds w h ci a).set k (.int v) = flds w (h.setI a k v) ci a := by
  refine flds_set hk ?_ ?_
  · show Value.int ((h.setI a k v).I a k) = _
    rw [HP.setI_I, up_eq, up_eq]
  · intro j t' hj
    unfold fvl
    rw [HP.setI_I, up_eq, up_ne hj]
    rfl
theorem flds_setJ {w : WD} {h : HP} {ci a k : Nat} {v : Int64} (hk : (fty ci)[k]? = some 1) : (flds w h ci a).set k (.long v) = flds w (h.setJ a k v) ci a := by
  refine flds_set hk ?_ ?_
  · show Value.long ((h.setJ a k v).J a k) = _
    rw [HP.setJ_J, up_eq, up_eq]
  · intro j t' hj
    unfold fvl
    rw [HP.setJ_J, up_eq, up_ne hj]
    rfl
theorem flds_setR {w : WD} {h : HP} {ci a k : Nat} {v : Option Nat} (hk : (fty ci)[k]? = some 2) : (flds w h ci a).set k (rf w v) = flds w (h.setR a k v) ci a := by
  refine flds_set hk ?_ ?_
  · show rf w ((h.setR a k v).R a k) = _
    rw [HP.setR_R, up_eq, up_eq]
  · intro j t' hj
    unfold fvl
    rw [HP.setR_R, up_eq, up_ne hj]
    rfl
theorem elt_setI {w : WD} {h : HP} {a k b : Nat} {v : Int32} (hb : b ≠ a) : elt w (h.setI a k v) b = elt w h b := elt_same rfl rfl (by rw [HP.setI_I, up_ne hb]) rfl rfl
theorem elt_setJ {w : WD} {h : HP} {a k b : Nat} {v : Int64} (hb : b ≠ a) : elt w (h.setJ a k v) b = elt w h b := elt_same rfl rfl rfl (by rw [HP.setJ_J, up_ne hb]) rfl
theorem elt_setR {w : WD} {h : HP} {a k b : Nat} {v : Option Nat} (hb : b ≠ a) : elt w (h.setR a k v) b = elt w h b := elt_same rfl rfl rfl rfl (by rw [HP.setR_R, up_ne hb])
theorem rf_fits_o (w : WD) (r : Option Nat) (n : String) : narrow (.object n) (rf w r) = rf w r ∧ fits (.object n) (rf w r) = true := by cases r <;> exact ⟨rfl, rfl⟩
theorem rf_fits_a (w : WD) (r : Option Nat) (n : FieldType) : narrow (.array n) (rf w r) = rf w r ∧ fits (.array n) (rf w r) = true := by cases r <;> exact ⟨rfl, rfl⟩

theorem R_putI (hc : Cx x cc own rm0) {ci k idx : Nat} {r : Option Nat} {v : Int32} {f : HP → Option α} {ty : FieldType} (hf : PLk own idx ci k 0 ty false) (hn : narrow ty (.int v) = .int v) (hfit : fits ty (.int v) = true) (hd : decode cc pc = .ok (.putfield idx, 3)) (hw : wpO ((pI h ci r k v).bind f) C) (kk : ∀ h', wpO (f h') C → Rn x kc ks (pc + 3) lv st h') : Rn x kc ks pc lv (.int v :: rf x.w r :: st) h := by
  obtain ⟨h', h1, h2⟩ := wpO_bind hw
  obtain ⟨a, rfl, ho, rfl⟩ := g_some h1
  obtain ⟨ha, hk⟩ := okO_spec ho
  obtain ⟨CC, T, N, ty0, e1, e2, e3, e4, e5, e6, e7, e8, e9, e10, e11, e12⟩ := hf
  intro H locs ls hl hS hP
  refine va_put hc.1 hc.2.1 hc.ts e3 ty0 e7 e8 hc.2.2.2.1 hc.k.1 hP (wsO_D x.w h) hS a (by rw [wsO_at ha, elt_obj hk e6]) e1 k e2 (hc.ts _ e4) (fun _ h => h) e10 (ty := ty) (by rw [e7 k e2, e9]) hn hfit (by rw [flds_len, e12]; exact e2) hd (fun H1 locs1 hP1 _ hS1 => kk _ h2 H1 locs1 ls hl hS1 ?_)
  have e := wsO_set (w := x.w) (h := h) (h' := h.setI a k v) rfl ha (elt_obj (w := x.w) (h := h.setI a k v) hk e6) (fun b hb => elt_setI hb)
  rw [← flds_setI e5] at e
  show va_P x.w.D vwCl (wsO x.w _) H1
  rw [← e]
  exact hP1
theorem R_putJ (hc : Cx x cc own rm0) {ci k idx : Nat} {r : Option Nat} {v : Int64} {f : HP → Option α} {ty : FieldType} (hf : PLk own idx ci k 1 ty false) (hn : narrow ty (.long v) = .long v) (hfit : fits ty (.long v) = true) (hd : decode cc pc = .ok (.putfield idx, 3)) (hw : wpO ((pJ h ci r k v).bind f) C) (kk : ∀ h', wpO (f h') C → Rn x kc ks (pc + 3) lv st h') : Rn x kc ks pc lv (.long v :: rf x.w r :: st) h := by
  obtain ⟨h', h1, h2⟩ := wpO_bind hw
  obtain ⟨a, rfl, ho, rfl⟩ := g_some h1
  obtain ⟨ha, hk⟩ := okO_spec ho
  obtain ⟨CC, T, N, ty0, e1, e2, e3, e4, e5, e6, e7, e8, e9, e10, e11, e12⟩ := hf
  intro H locs ls hl hS hP
  refine va_put hc.1 hc.2.1 hc.ts e3 ty0 e7 e8 hc.2.2.2.1 hc.k.1 hP (wsO_D x.w h) hS a (by rw [wsO_at ha, elt_obj hk e6]) e1 k e2 (hc.ts _ e4) (fun _ h => h) e10 (ty := ty) (by rw [e7 k e2, e9]) hn hfit (by rw [flds_len, e12]; exact e2) hd (fun H1 locs1 hP1 _ hS1 => kk _ h2 H1 locs1 ls hl hS1 ?_)
  have e := wsO_set (w := x.w) (h := h) (h' := h.setJ a k v) rfl ha (elt_obj (w := x.w) (h := h.setJ a k v) hk e6) (fun b hb => elt_setJ hb)
  rw [← flds_setJ e5] at e
  show va_P x.w.D vwCl (wsO x.w _) H1
  rw [← e]
  exact hP1
theorem R_putR (hc : Cx x cc own rm0) {ci k idx : Nat} {r : Option Nat} {v : Option Nat} {f : HP → Option α} {ty : FieldType} (hf : PLk own idx ci k 2 ty false) (hn : narrow ty (rf x.w v) = rf x.w v) (hfit : fits ty (rf x.w v) = true) (hd : decode cc pc = .ok (.putfield idx, 3)) (hw : wpO ((pR h ci r k v).bind f) C) (kk : ∀ h', wpO (f h') C → Rn x kc ks (pc + 3) lv st h') : Rn x kc ks pc lv (rf x.w v :: rf x.w r :: st) h := by
  obtain ⟨h', h1, h2⟩ := wpO_bind hw
  obtain ⟨a, rfl, ho, rfl⟩ := g_some h1
  obtain ⟨ha, hk⟩ := okO_spec ho
  obtain ⟨CC, T, N, ty0, e1, e2, e3, e4, e5, e6, e7, e8, e9, e10, e11, e12⟩ := hf
  intro H locs ls hl hS hP
  refine va_put hc.1 hc.2.1 hc.ts e3 ty0 e7 e8 hc.2.2.2.1 hc.k.1 hP (wsO_D x.w h) hS a (by rw [wsO_at ha, elt_obj hk e6]) e1 k e2 (hc.ts _ e4) (fun _ h => h) e10 (ty := ty) (by rw [e7 k e2, e9]) hn hfit (by rw [flds_len, e12]; exact e2) hd (fun H1 locs1 hP1 _ hS1 => kk _ h2 H1 locs1 ls hl hS1 ?_)
  have e := wsO_set (w := x.w) (h := h) (h' := h.setR a k v) rfl ha (elt_obj (w := x.w) (h := h.setR a k v) hk e6) (fun b hb => elt_setR hb)
  rw [← flds_setR e5] at e
  show va_P x.w.D vwCl (wsO x.w _) H1
  rw [← e]
  exact hP1
theorem R_putRF (hc : Cx x cc own rm0) {ci k idx : Nat} {r : Option Nat} {v : Option Nat} {f : HP → Option α} {ty : FieldType} (hf : PLk own idx ci k 2 ty true) (hnm : x.mt.name = "<init>") (hcl : (vwCl[ci]?).map (fun q => q.1) = some own) (hn : narrow ty (rf x.w v) = rf x.w v) (hfit : fits ty (rf x.w v) = true) (hd : decode cc pc = .ok (.putfield idx, 3)) (hw : wpO ((pR h ci r k v).bind f) C) (kk : ∀ h', wpO (f h') C → Rn x kc ks (pc + 3) lv st h') : Rn x kc ks pc lv (rf x.w v :: rf x.w r :: st) h := by
  obtain ⟨h', h1, h2⟩ := wpO_bind hw
  obtain ⟨a, rfl, ho, rfl⟩ := g_some h1
  obtain ⟨ha, hk⟩ := okO_spec ho
  obtain ⟨CC, T, N, ty0, e1, e2, e3, e4, e5, e6, e7, e8, e9, e10, e11, e12⟩ := hf
  rw [e1] at hcl
  have hcl : CC = own := Option.some.inj hcl
  intro H locs ls hl hS hP
  refine va_putF hc.1 hc.2.1 hc.ts e3 ty0 e7 e8 hc.2.2.2.1 hc.k.1 hP (wsO_D x.w h) hS a (by rw [wsO_at ha, elt_obj hk e6]) e1 k e2 (hc.ts _ e4) (fun _ h => h) e10 hnm (e11.trans hcl) (ty := ty) (by rw [e7 k e2, e9]) hn hfit (by rw [flds_len, e12]; exact e2) hd (fun H1 locs1 hP1 _ hS1 => kk _ h2 H1 locs1 ls hl hS1 ?_)
  have e := wsO_set (w := x.w) (h := h) (h' := h.setR a k v) rfl ha (elt_obj (w := x.w) (h := h.setR a k v) hk e6) (fun b hb => elt_setR hb)
  rw [← flds_setR e5] at e
  show va_P x.w.D vwCl (wsO x.w _) H1
  rw [← e]
  exact hP1
theorem R_putZ (hc : Cx x cc own rm0) {ci k idx : Nat} {r : Option Nat} {v : Int32} {f : HP → Option α} (hf : PLk own idx ci k 0 .boolean false) (hd : decode cc pc = .ok (.putfield idx, 3)) (hw : wpO ((pZ h ci r k v).bind f) C) (kk : ∀ h', wpO (f h') C → Rn x kc ks (pc + 3) lv st h') : Rn x kc ks pc lv (.int v :: rf x.w r :: st) h := by
  obtain ⟨h', h1, h2⟩ := wpO_bind hw
  obtain ⟨a, rfl, ho, rfl⟩ := g_some h1
  have hv : v = 0 ∨ v = 1 := by simp at ho; exact ho.2
  have ho : okO h ci a = true := by simp at ho; exact ho.1
  refine R_putI (f := f) hc hf ?_ ?_ hd ⟨_, ?_, h2.choose_spec.2⟩ kk
  · rcases hv with rfl | rfl <;> rfl
  · rcases hv with rfl | rfl <;> rfl
  · show (if okO h ci a then some (h.setI a k v) else none).bind f = _
    rw [if_pos ho]
    exact h2.choose_spec.1
theorem R_iaload (hc : Cx x cc own rm0) {r : Option Nat} {i : Int32} {f : Int32 → Option α} (hd : decode cc pc = .ok (.iaload, 1)) (hw : wpO ((aI h 13 r i).bind f) C) (kk : ∀ v, wpO (f v) C → Rn x kc ks (pc + 1) lv (.int v :: st) h) : Rn x kc ks pc lv (.int i :: rf x.w r :: st) h := by
  obtain ⟨v, h1, h2⟩ := wpO_bind hw
  obtain ⟨a, rfl, ho, rfl⟩ := g_some h1
  obtain ⟨ha, hk, hi⟩ := okA_spec ho
  intro H locs ls hl hS hP
  exact va_iald hc.1 hc.2.1 hc.k.1 hP a 1 (by rw [wsO_at ha, elt_I hk]) rfl hi hd (kk _ h2 H locs ls hl hS hP)
theorem R_baload (hc : Cx x cc own rm0) {r : Option Nat} {i : Int32} {f : Int32 → Option α} (hd : decode cc pc = .ok (.baload, 1)) (hw : wpO ((aI h 12 r i).bind f) C) (kk : ∀ v, wpO (f v) C → Rn x kc ks (pc + 1) lv (.int v :: st) h) : Rn x kc ks pc lv (.int i :: rf x.w r :: st) h := by
  obtain ⟨v, h1, h2⟩ := wpO_bind hw
  obtain ⟨a, rfl, ho, rfl⟩ := g_some h1
  obtain ⟨ha, hk, hi⟩ := okA_spec ho
  intro H locs ls hl hS hP
  exact va_bald hc.1 hc.2.1 hc.k.1 hP a 0 (by rw [wsO_at ha, elt_B hk]) rfl hi hd (kk _ h2 H locs ls hl hS hP)
theorem R_laload (hc : Cx x cc own rm0) {r : Option Nat} {i : Int32} {f : Int64 → Option α} (hd : decode cc pc = .ok (.laload, 1)) (hw : wpO ((aJ h r i).bind f) C) (kk : ∀ v, wpO (f v) C → Rn x kc ks (pc + 1) lv (.long v :: st) h) : Rn x kc ks pc lv (.int i :: rf x.w r :: st) h := by
  obtain ⟨v, h1, h2⟩ := wpO_bind hw
  obtain ⟨a, rfl, ho, rfl⟩ := g_some h1
  obtain ⟨ha, hk, hi⟩ := okA_spec ho
  intro H locs ls hl hS hP
  exact va_lald hc.1 hc.2.1 hc.k.1 hP a 2 (by rw [wsO_at ha, elt_J hk]) rfl hi hd (kk _ h2 H locs ls hl hS hP)
theorem R_aaload (hc : Cx x cc own rm0) {r : Option Nat} {i : Int32} {f : Option Nat → Option α} (hd : decode cc pc = .ok (.aaload, 1)) (hw : wpO ((aR h r i).bind f) C) (kk : ∀ v, wpO (f v) C → Rn x kc ks (pc + 1) lv (rf x.w v :: st) h) : Rn x kc ks pc lv (.int i :: rf x.w r :: st) h := by
  obtain ⟨v, h1, h2⟩ := wpO_bind hw
  obtain ⟨a, rfl, ho, rfl⟩ := g_some h1
  obtain ⟨ha, hk, hi⟩ := okA_spec ho
  intro H locs ls hl hS hP
  exact va_aldq (f := fun j => (h.R a j).map fun b => x.w.b + b) hc.1 hc.2.1 hc.k.1 hP a 3 (by rw [wsO_at ha, elt_R hk]) rfl hi hd (kk _ h2 H locs ls hl hS hP)
theorem R_iastore (hc : Cx x cc own rm0) {r : Option Nat} {i : Int32} {v : Int32} {f : HP → Option α} (hd : decode cc pc = .ok (.iastore, 1)) (hw : wpO ((sI h r i v).bind f) C) (kk : ∀ h', wpO (f h') C → Rn x kc ks (pc + 1) lv st h') : Rn x kc ks pc lv (.int v :: .int i :: rf x.w r :: st) h := by
  obtain ⟨h', h1, h2⟩ := wpO_bind hw
  obtain ⟨a, rfl, ho, rfl⟩ := g_some h1
  obtain ⟨ha, hk, hi⟩ := okA_spec ho
  intro H locs ls hl hS hP
  refine va_iast hc.1 hc.2.1 hc.k.1 hP (wsO_D x.w h) hS a 1 (by rw [wsO_at ha, elt_I hk]) rfl hi hd (fun H1 locs1 hP1 _ hS1 => kk _ h2 H1 locs1 ls hl hS1 ?_)
  have e := wsO_set (w := x.w) (h := h) (h' := h.setI a i.toNatClampNeg v) (e := .inl (x.w.cI, h.N a, .inl (upd (h.I a) i.toNatClampNeg v))) rfl ha (by rw [elt_I (h := h.setI a i.toNatClampNeg v) hk, HP.setI_I, up_eq]; rfl) (fun b hb => elt_setI hb)
  show va_P x.w.D vwCl (wsO x.w _) H1
  rw [← e]
  exact hP1
theorem R_bastore (hc : Cx x cc own rm0) {r : Option Nat} {i : Int32} {v : Int32} {f : HP → Option α} (hd : decode cc pc = .ok (.bastore, 1)) (hw : wpO ((sB h r i v).bind f) C) (kk : ∀ h', wpO (f h') C → Rn x kc ks (pc + 1) lv st h') : Rn x kc ks pc lv (.int v :: .int i :: rf x.w r :: st) h := by
  obtain ⟨h', h1, h2⟩ := wpO_bind hw
  obtain ⟨a, rfl, ho, rfl⟩ := g_some h1
  obtain ⟨ha, hk, hi⟩ := okA_spec ho
  intro H locs ls hl hS hP
  refine va_bast hc.1 hc.2.1 hc.k.1 hP (wsO_D x.w h) hS a 0 (by rw [wsO_at ha, elt_B hk]) rfl hi hd (fun H1 locs1 hP1 _ hS1 => kk _ h2 H1 locs1 ls hl hS1 ?_)
  have e := wsO_set (w := x.w) (h := h) (h' := h.setI a i.toNatClampNeg (vp_nar .byte v)) (e := .inl (x.w.cB, h.N a, .inl (upd (h.I a) i.toNatClampNeg (vp_nar .byte v)))) rfl ha (by rw [elt_B (h := h.setI a i.toNatClampNeg (vp_nar .byte v)) hk, HP.setI_I, up_eq]; rfl) (fun b hb => elt_setI hb)
  show va_P x.w.D vwCl (wsO x.w _) H1
  rw [← e]
  exact hP1
theorem R_lastore (hc : Cx x cc own rm0) {r : Option Nat} {i : Int32} {v : Int64} {f : HP → Option α} (hd : decode cc pc = .ok (.lastore, 1)) (hw : wpO ((sJ h r i v).bind f) C) (kk : ∀ h', wpO (f h') C → Rn x kc ks (pc + 1) lv st h') : Rn x kc ks pc lv (.long v :: .int i :: rf x.w r :: st) h := by
  obtain ⟨h', h1, h2⟩ := wpO_bind hw
  obtain ⟨a, rfl, ho, rfl⟩ := g_some h1
  obtain ⟨ha, hk, hi⟩ := okA_spec ho
  intro H locs ls hl hS hP
  refine va_last hc.1 hc.2.1 hc.k.1 hP (wsO_D x.w h) hS a 2 (by rw [wsO_at ha, elt_J hk]) rfl hi hd (fun H1 locs1 hP1 _ hS1 => kk _ h2 H1 locs1 ls hl hS1 ?_)
  have e := wsO_set (w := x.w) (h := h) (h' := h.setJ a i.toNatClampNeg v) (e := .inl (x.w.cJ, h.N a, .inr (.inl (vp_updL (h.J a) i.toNatClampNeg v)))) rfl ha (by rw [elt_J (h := h.setJ a i.toNatClampNeg v) hk, HP.setJ_J, up_eq]; rfl) (fun b hb => elt_setJ hb)
  show va_P x.w.D vwCl (wsO x.w _) H1
  rw [← e]
  exact hP1
theorem R_aastore (hc : Cx x cc own rm0) {r v : Option Nat} {i : Int32} {f : HP → Option α} (hd : decode cc pc = .ok (.aastore, 1)) (hw : wpO ((sR h r i v).bind f) C) (kk : ∀ h', wpO (f h') C → Rn x kc ks (pc + 1) lv st h') : Rn x kc ks pc lv (rf x.w v :: .int i :: rf x.w r :: st) h := by
  obtain ⟨h', h1, h2⟩ := wpO_bind hw
  cases r with
  | none => cases h1
  | some a =>
  cases v with
  | none => cases h1
  | some b =>
  have h1 : (if okA h 15 a i && okO h 7 b then some (h.setR a i.toNatClampNeg (some b)) else none) = some h' := h1
  by_cases ho : (okA h 15 a i && okO h 7 b) = true
  · rw [if_pos ho] at h1; cases h1
    simp only [Bool.and_eq_true] at ho
    obtain ⟨ha, hk, hi⟩ := okA_spec ho.1
    obtain ⟨hb, hkb⟩ := okO_spec ho.2
    intro H locs ls hl hS hP
    refine va_astq hc.1 hc.2.1 hc.k.1 hP (wsO_D x.w h) hS a 3 b 7 (r := (RX7, TX7, 2)) (by rw [wsO_at ha, elt_R hk]) rfl (by rw [wsO_at hb, elt_obj hkb (by decide)]) rfl hi hd (fun H1 locs1 hP1 _ hS1 => kk _ h2 H1 locs1 ls hl hS1 ?_)
    have e := wsO_set (w := x.w) (h := h) (h' := h.setR a i.toNatClampNeg (some b)) (e := .inl (x.w.cR, h.N a, .inr (.inr (.inr (.inr (va_up (fun j => (h.R a j).map fun b => x.w.b + b) i.toNatClampNeg (some (x.w.b + b)))))))) rfl ha ?_ (fun b hb => elt_setR hb)
    · show va_P x.w.D vwCl (wsO x.w _) H1
      rw [← e]
      exact hP1
    · rw [elt_R (h := h.setR a i.toNatClampNeg (some b)) hk, HP.setR_R, up_eq]
      have e : (fun j => (va_up (h.R a) i.toNatClampNeg (some b) j).map fun b => x.w.b + b) = va_up (fun j => (h.R a j).map fun b => x.w.b + b) i.toNatClampNeg (some (x.w.b + b)) := by
        funext j
        unfold va_up
        by_cases hj : j = i.toNatClampNeg <;> simp [hj]
      rw [e]
      rfl
  · rw [if_neg ho] at h1; cases h1
end
