/-- contracts: from memory h with arguments av the method answers v and leaves memory h' -/
def MI (w : WD) (l : Launch) (y : MethodName) (cc : ByteArray) (mL : Nat) (ty : FieldType) (rm : Room) (mc ms : Nat) (av : List Value) (h : HP) (v : Int32) (h' : HP) : Prop := Met l y (.code y cc mL (some ty) :: Tg) rm (va_Pc av (RepS w h)) (va_Qi (fun (r : Int32) (_ : Unit) => r = v) (fun _ t => RepS w h' t) w.A) mc ms w.A
def MJ (w : WD) (l : Launch) (y : MethodName) (cc : ByteArray) (mL : Nat) (rm : Room) (mc ms : Nat) (av : List Value) (h : HP) (v : Int64) (h' : HP) : Prop := Met l y (.code y cc mL (some .long) :: Tg) rm (va_Pc av (RepS w h)) (va_Ql (fun (r : Int64) (_ : Unit) => r = v) (fun _ t => RepS w h' t) w.A) mc ms w.A
def MV (w : WD) (l : Launch) (y : MethodName) (cc : ByteArray) (mL : Nat) (rm : Room) (mc ms : Nat) (av : List Value) (h : HP) (h' : HP) : Prop := Met l y (.code y cc mL none :: Tg) rm (va_Pc av (RepS w h)) (va_Qv (fun (_ : Unit) => True) (fun _ t => RepS w h' t) w.A) mc ms w.A
def MR (w : WD) (l : Launch) (y : MethodName) (cc : ByteArray) (mL : Nat) (ty : FieldType) (rm : Room) (mc ms : Nat) (av : List Value) (h : HP) (v : Option Nat) (h' : HP) : Prop := Met l y (.code y cc mL (some ty) :: Tg) rm (va_Pc av (RepS w h)) (va_Qq (fun (r : Option Nat) (_ : Unit) => r = v.map fun a => w.b + a) (fun _ t => RepS w h' t) w.A) mc ms w.A
/-- contracts of methods that make cells: the heap ends where our cells end -/
def RepX (w : WD) (h : HP) (U : State) : Prop := RepS w h U ∧ U.heap.size = w.b + h.n
def MX (w : WD) (l : Launch) (y : MethodName) (cc : ByteArray) (mL : Nat) (rm : Room) (mc ms : Nat) (av : List Value) (h : HP) (h' : HP) : Prop := Met l y (.code y cc mL none :: Tg) rm (va_Pc av (RepX w h)) (va_Qv (fun (_ : Unit) => True) (fun _ t => RepS w h' t) w.A) mc ms w.A
theorem RepX.blind {w : WD} {h : HP} (av : List Value) : FrameBlind (va_Pc av (RepX w h)) := fun a U g mk q => ⟨q.1, (RepS.blind av a U g mk ⟨q.1, q.2.1⟩).2, q.2.2⟩
/-- what a call needs of its target -/
def MfB (y : MethodName) (b : ByteArray) (mL : Nat) (ret : Option FieldType) (n : Nat) : Prop := Cond.code y b mL ret ∈ Tg ∧ Cond.initialized y.cls ∈ Tg ∧ (y.cls ≠ "java/lang/invoke/MethodHandle" ∧ y.cls ≠ "java/lang/invoke/VarHandle" ∧ (parseMethodDescriptor y.desc).map (fun d => d.parameters.length) = some n)
def MfV (y : MethodName) (b : ByteArray) (mL : Nat) (ret : Option FieldType) (n : Nat) : Prop := MfB y b mL ret n ∧ Cond.instanceMethod y ∈ Tg ∧ Cond.selects y.cls y y ∈ Tg
def MfS (y : MethodName) (b : ByteArray) (mL : Nat) (ret : Option FieldType) (n : Nat) : Prop := MfB y b mL ret n ∧ Cond.static y ∈ Tg
def MfC (y : MethodName) (b : ByteArray) (mL : Nat) (ret : Option FieldType) (n : Nat) : Prop := MfB y b mL ret n ∧ y.name = "<init>" ∧ Cond.instanceMethod y ∈ Tg
/-- a receiver that is there, of its class -/
def dO (h : HP) (ci : Nat) (r : Option Nat) : Option Nat := r.bind fun a => if okO h ci a then some a else none
section
variable {x : CX} {cc : ByteArray} {own : String} {rm0 : Room} {kc ks pc : Nat} {lv lv' : List (Nat × Value)} {st : List Value} {h h' : HP} {α : Type} {C : α → Prop}
theorem Cx.rep (hc : Cx x cc own rm0) {H : Heap} {locs : List Loc} (hS : va_S x.w.A x.s.heap H locs) (hP : Rep x.w h H) (U : State) (hU : U.heap = H) (hW : x.s.WarmedH U.vm) : RepS x.w h U := by
  subst hU
  exact ⟨hP, Nat.le_trans hc.bs hS.1, hc.k.warm hW, Sk.warm hW (Sk.kept hc.sk hS.2.1)⟩
theorem Cx.fin (hc : Cx x cc own rm0) {H : Heap} {locs : List Loc} (hS : va_S x.w.A x.s.heap H locs) (hP : Rep x.w h H) (t : State) (ht : t.heap = H) (hW : x.s.WarmedH t.vm) : RepS x.w h t := hc.rep hS hP t ht hW
/-- behind a call -/
theorem R_afI (hc : Cx x cc own rm0) {mc ms : Nat} {rest st0 : List Value} {v : Int32} {a0 : Array Value} (hr : ∀ (H : Heap) (locs : List Loc) (ls : Array Slot), lv_has ls x.nL lv → va_S x.w.A x.s.heap H locs → Rep x.w h H → va_Run x.p x.l x.e x.rm x.s x.m x.a x.bl x.mt x.c H locs kc ks mc ms (F0 x.m pc ls st0) rest (va_Qi (fun (r : Int32) (_ : Unit) => r = v) (fun _ t => RepS x.w h' t) x.w.A a0) x.w.A) (k : Rn x (kc + mc) (ks + ms) (pc + 3) lv (.int v :: rest) h') : Rn x kc ks pc lv st0 h := fun H locs ls hl hS hP => va_calli (hr H locs ls hl hS hP) hS (fun q _ h => h) (fun q h => h) (fun r u t H1 locs1 ht hvm hw hB hz hk hS1 => by subst hw; exact k H1 locs1 ls hl hS1 (by rw [← ht]; exact hB.1))
theorem R_afJ (hc : Cx x cc own rm0) {mc ms : Nat} {rest st0 : List Value} {v : Int64} {a0 : Array Value} (hr : ∀ (H : Heap) (locs : List Loc) (ls : Array Slot), lv_has ls x.nL lv → va_S x.w.A x.s.heap H locs → Rep x.w h H → va_Run x.p x.l x.e x.rm x.s x.m x.a x.bl x.mt x.c H locs kc ks mc ms (F0 x.m pc ls st0) rest (va_Ql (fun (r : Int64) (_ : Unit) => r = v) (fun _ t => RepS x.w h' t) x.w.A a0) x.w.A) (k : Rn x (kc + mc) (ks + ms) (pc + 3) lv (.long v :: rest) h') : Rn x kc ks pc lv st0 h := fun H locs ls hl hS hP => va_calll (hr H locs ls hl hS hP) hS (fun q _ h => h) (fun q h => h) (fun r u t H1 locs1 ht hvm hw hB hz hk hS1 => by subst hw; exact k H1 locs1 ls hl hS1 (by rw [← ht]; exact hB.1))
theorem R_afV (hc : Cx x cc own rm0) {mc ms : Nat} {rest st0 : List Value} {a0 : Array Value} (hr : ∀ (H : Heap) (locs : List Loc) (ls : Array Slot), lv_has ls x.nL lv → va_S x.w.A x.s.heap H locs → Rep x.w h H → va_Run x.p x.l x.e x.rm x.s x.m x.a x.bl x.mt x.c H locs kc ks mc ms (F0 x.m pc ls st0) rest (va_Qv (fun (_ : Unit) => True) (fun _ t => RepS x.w h' t) x.w.A a0) x.w.A) (k : Rn x (kc + mc) (ks + ms) (pc + 3) lv rest h') : Rn x kc ks pc lv st0 h := fun H locs ls hl hS hP => va_callv (hr H locs ls hl hS hP) hS (fun q _ h => h) (fun q h => h) (fun u t H1 locs1 ht hvm hw hB hz hk hS1 => k H1 locs1 ls hl hS1 (by rw [← ht]; exact hB.1))
theorem R_afR (hc : Cx x cc own rm0) {mc ms : Nat} {rest st0 : List Value} {v : Option Nat} {a0 : Array Value} (hr : ∀ (H : Heap) (locs : List Loc) (ls : Array Slot), lv_has ls x.nL lv → va_S x.w.A x.s.heap H locs → Rep x.w h H → va_Run x.p x.l x.e x.rm x.s x.m x.a x.bl x.mt x.c H locs kc ks mc ms (F0 x.m pc ls st0) rest (va_Qq (fun (r : Option Nat) (_ : Unit) => r = v.map fun a => x.w.b + a) (fun _ t => RepS x.w h' t) x.w.A a0) x.w.A) (k : Rn x (kc + mc) (ks + ms) (pc + 3) lv (rf x.w v :: rest) h') : Rn x kc ks pc lv st0 h := fun H locs ls hl hS hP => va_callq (hr H locs ls hl hS hP) hS (fun q _ h => h) (fun q h => h) (fun r u t H1 locs1 ht hvm hw hB hz hk hS1 => by subst hw; exact k H1 locs1 ls hl hS1 (by rw [← ht]; exact hB.1))
theorem recv (hc : Cx x cc own rm0) {H : Heap} {ci a : Nat} {q : vw_C} (hP : Rep x.w h H) (ho : okO h ci a = true) (hci : ci < 12) (hq : vwCl[ci]? = some q) : ∃ cell : Cell, H[x.w.b + a]? = some cell ∧ cell.vm.isStatics = false ∧ x.s.vm.findClass q.1 = some cell.cls := by
  obtain ⟨ha, hk⟩ := okO_spec ho
  exact va_recv hc.k.1 hP hq (q0 := a) (by rw [wsO_at ha, elt_obj hk hci])
theorem fits_rm {rm : Room} {mL : Nat} (hc : Cx x cc own rm0) (hR : rm.frames + 1 ≤ rm0.frames ∧ 8 + (mL + 11) + rm.locals ≤ rm0.locals) : rm.frames + 1 ≤ x.rm.frames ∧ 8 + (mL + 11) + rm.locals ≤ x.rm.locals := by rw [hc.r]; exact hR
section Run
variable {y : MethodName} {b : ByteArray} {mL n idx mc ms : Nat} {ret : Option FieldType} {rm : Room} {Qc : Array Value → State → Outcome → State → Prop} {As rest : List Value} {a ci : Nat}
theorem cb (hc : Cx x cc own rm0) (ml : Cond.methodLink own idx y ∈ Tg) (mf : MfB y b mL ret n) (hrm : rm.cells = mc ∧ rm.slots = ms) (hR : rm.frames + 1 ≤ rm0.frames ∧ 8 + (mL + 11) + rm.locals ≤ rm0.locals) : CallB x.rm x.s x.a own idx y b mL ret (.code y b mL ret :: Tg) rm mc ms n :=
  callB_of n hc.ts (tg_sub mf.1) rfl hrm.1 hrm.2 (hc.ts _ mf.2.1) (hc.ts _ ml) mf.2.2 (fits_rm hc hR)
theorem cfix (hc : Cx x cc own rm0) : CallFix x.p x.m x.c cc x.nL x.s x.a Tg own := ⟨hc.1, hc.2.1, hc.2.2.1, hc.2.2.2.1, hc.ts⟩
theorem runV (hc : Cx x cc own rm0) (ml : Cond.methodLink own idx y ∈ Tg) (mf : MfV y b mL ret n) {T : u_T} {N : Nat} (hq : vwCl[ci]? = some (y.cls, T, N)) (hci : ci < 12) (ho : okO h ci a = true) (hrm : rm.cells = mc ∧ rm.slots = ms) (hR : rm.frames + 1 ≤ rm0.frames ∧ 8 + (mL + 11) + rm.locals ≤ rm0.locals) (hf : kc + mc ≤ rm0.cells ∧ ks + ms ≤ rm0.slots) (hM : Met x.l y (.code y b mL ret :: Tg) rm (va_Pc (rf x.w (some a) :: As) (RepS x.w h)) Qc mc ms x.w.A) (hn : As.length = n) (hst : st = As.reverse ++ rf x.w (some a) :: rest) (hroom : (rest.map fun v => v.category).sum ≤ 8) (hd : decode cc pc = .ok (.invokevirtual idx, 3)) : ∀ (H : Heap) (locs : List Loc) (ls : Array Slot), lv_has ls x.nL lv → va_S x.w.A x.s.heap H locs → Rep x.w h H → va_Run x.p x.l x.e x.rm x.s x.m x.a x.bl x.mt x.c H locs kc ks mc ms (F0 x.m pc ls st) rest (Qc (rf x.w (some a) :: As).toArray) x.w.A := by
  intro H locs ls hl hS hP
  exact va_runV (b := x.w.b + a) (C := y.cls) (As := As) (rest := rest) (cfix hc) hM ⟨cb hc ml mf.1 hrm hR, hc.ts _ mf.2.1, hc.ts _ mf.2.2⟩ ⟨RepS.blind _, recv hc hP ho hci hq, fun U hU hW => ⟨rfl, hc.rep hS hP U hU hW⟩⟩ rfl hn hl.1 hst (lv_room hroom) hd (by rw [hc.r]; exact hf)
theorem runS (hc : Cx x cc own rm0) (ml : Cond.methodLink own idx y ∈ Tg) (mf : MfS y b mL ret n) (hrm : rm.cells = mc ∧ rm.slots = ms) (hR : rm.frames + 1 ≤ rm0.frames ∧ 8 + (mL + 11) + rm.locals ≤ rm0.locals) (hf : kc + mc ≤ rm0.cells ∧ ks + ms ≤ rm0.slots) (hM : Met x.l y (.code y b mL ret :: Tg) rm (va_Pc As (RepS x.w h)) Qc mc ms x.w.A) (hn : As.length = n) (hst : st = As.reverse ++ rest) (hroom : (rest.map fun v => v.category).sum ≤ 8) (hd : decode cc pc = .ok (.invokestatic idx, 3)) : ∀ (H : Heap) (locs : List Loc) (ls : Array Slot), lv_has ls x.nL lv → va_S x.w.A x.s.heap H locs → Rep x.w h H → va_Run x.p x.l x.e x.rm x.s x.m x.a x.bl x.mt x.c H locs kc ks mc ms (F0 x.m pc ls st) rest (Qc As.toArray) x.w.A := by
  intro H locs ls hl hS hP
  exact va_runS (As := As) (rest := rest) (cfix hc) hM ⟨cb hc ml mf.1 hrm hR, hc.ts _ mf.2⟩ ⟨RepS.blind _, fun U hU hW => ⟨rfl, hc.rep hS hP U hU hW⟩⟩ rfl hn hl.1 hst (lv_room hroom) hd (by rw [hc.r]; exact hf)
theorem cn (hc : Cx x cc own rm0) {host : String} (ml : Cond.methodLinkNest own idx y host ∈ nestW) (mf : MfB y b mL ret n) (hrm : rm.cells = mc ∧ rm.slots = ms) (hR : rm.frames + 1 ≤ rm0.frames ∧ 8 + (mL + 11) + rm.locals ≤ rm0.locals) : va_CN x.rm x.s x.a own idx y host b mL ret (.code y b mL ret :: Tg) rm mc ms n :=
  va_cnB n hc.ts (tg_sub mf.1) rfl hrm.1 hrm.2 (hc.k.2.2 _ ml) (hc.ts _ mf.2.1) mf.2.2 (fits_rm hc hR)
theorem runSN (hc : Cx x cc own rm0) {host : String} (ml : Cond.methodLinkNest own idx y host ∈ nestW) (mf : MfS y b mL ret n) (hrm : rm.cells = mc ∧ rm.slots = ms) (hR : rm.frames + 1 ≤ rm0.frames ∧ 8 + (mL + 11) + rm.locals ≤ rm0.locals) (hf : kc + mc ≤ rm0.cells ∧ ks + ms ≤ rm0.slots) (hM : Met x.l y (.code y b mL ret :: Tg) rm (va_Pc As (RepS x.w h)) Qc mc ms x.w.A) (hn : As.length = n) (hst : st = As.reverse ++ rest) (hroom : (rest.map fun v => v.category).sum ≤ 8) (hd : decode cc pc = .ok (.invokestatic idx, 3)) : ∀ (H : Heap) (locs : List Loc) (ls : Array Slot), lv_has ls x.nL lv → va_S x.w.A x.s.heap H locs → Rep x.w h H → va_Run x.p x.l x.e x.rm x.s x.m x.a x.bl x.mt x.c H locs kc ks mc ms (F0 x.m pc ls st) rest (Qc As.toArray) x.w.A := by
  intro H locs ls hl hS hP
  exact va_runSN (As := As) (rest := rest) (cfix hc) hM ⟨cn hc ml mf.1 hrm hR, hc.ts _ mf.2, trivial⟩ ⟨RepS.blind _, fun U hU hW => ⟨rfl, hc.rep hS hP U hU hW⟩⟩ rfl hn hl.1 hst (lv_room hroom) hd (by rw [hc.r]; exact hf)
/-- where the heap ends, when all that was made is ours -/
theorem ends (hc : Cx x cc own rm0) (hx : x.s.heap.size + kc = x.w.b + h.n) {H : Heap} {locs : List Loc} {T : State} (hT : T.heap = H) (hS : va_S x.w.A x.s.heap H locs) (hP : Rep x.w h H) (X : Stand x.p x.l x.e x.rm x.s x.m x.a x.bl x.mt x.c T locs kc ks) : H.size = x.w.b + h.n := by
  have h1 : T.heap.size ≤ x.s.heap.size + kc := X.same.2.2.1
  rw [hT] at h1
  have h2 : x.w.b + h.n ≤ H.size := by
    rcases Nat.eq_zero_or_pos h.n with hn | hn
    · rw [hn]; exact Nat.le_trans hc.bs hS.1
    · have := (hP (h.n - 1) _ (wsO_at (by omega))).lt
      have e : x.w.b + (h.n - 1) < H.size := this
      omega
  omega
theorem runI (hc : Cx x cc own rm0) (hx : x.s.heap.size + kc = x.w.b + h.n) (ml : Cond.methodLink own idx y ∈ Tg) (mf : MfC y b mL none n) (hrm : rm.cells = mc ∧ rm.slots = ms) (hR : rm.frames + 1 ≤ rm0.frames ∧ 8 + (mL + 11) + rm.locals ≤ rm0.locals) (hf : kc + mc ≤ rm0.cells ∧ ks + ms ≤ rm0.slots) (hM : Met x.l y (.code y b mL none :: Tg) rm (va_Pc (rf x.w (some a) :: As) (RepX x.w h)) Qc mc ms x.w.A) (hn : As.length = n) (hst : st = As.reverse ++ rf x.w (some a) :: rest) (hroom : (rest.map fun v => v.category).sum ≤ 8) (hd : decode cc pc = .ok (.invokespecial idx, 3)) : ∀ (H : Heap) (locs : List Loc) (ls : Array Slot), lv_has ls x.nL lv → va_S x.w.A x.s.heap H locs → Rep x.w h H → va_Run x.p x.l x.e x.rm x.s x.m x.a x.bl x.mt x.c H locs kc ks mc ms (F0 x.m pc ls st) rest (Qc (rf x.w (some a) :: As).toArray) x.w.A := by
  intro H locs ls hl hS hP T hT X
  have hE := ends hc hx hT hS hP X
  exact va_runI (b := x.w.b + a) (As := As) (rest := rest) (cfix hc) hM ⟨cb hc ml mf.1 hrm hR, mf.2.1, hc.ts _ mf.2.2⟩ ⟨RepX.blind _, fun U hU hW => ⟨rfl, hc.rep hS hP U hU hW, by rw [hU]; exact hE⟩⟩ rfl hn hl.1 hst (lv_room hroom) hd (by rw [hc.r]; exact hf) T hT X
theorem runIN (hc : Cx x cc own rm0) {host : String} (hx : x.s.heap.size + kc = x.w.b + h.n) (ml : Cond.methodLinkNest own idx y host ∈ nestW) (mf : MfC y b mL none n) (hrm : rm.cells = mc ∧ rm.slots = ms) (hR : rm.frames + 1 ≤ rm0.frames ∧ 8 + (mL + 11) + rm.locals ≤ rm0.locals) (hf : kc + mc ≤ rm0.cells ∧ ks + ms ≤ rm0.slots) (hM : Met x.l y (.code y b mL none :: Tg) rm (va_Pc (rf x.w (some a) :: As) (RepX x.w h)) Qc mc ms x.w.A) (hn : As.length = n) (hst : st = As.reverse ++ rf x.w (some a) :: rest) (hroom : (rest.map fun v => v.category).sum ≤ 8) (hd : decode cc pc = .ok (.invokespecial idx, 3)) : ∀ (H : Heap) (locs : List Loc) (ls : Array Slot), lv_has ls x.nL lv → va_S x.w.A x.s.heap H locs → Rep x.w h H → va_Run x.p x.l x.e x.rm x.s x.m x.a x.bl x.mt x.c H locs kc ks mc ms (F0 x.m pc ls st) rest (Qc (rf x.w (some a) :: As).toArray) x.w.A := by
  intro H locs ls hl hS hP T hT X
  have hE := ends hc hx hT hS hP X
  exact va_runIN (b := x.w.b + a) (As := As) (rest := rest) (cfix hc) hM ⟨cn hc ml mf.1 hrm hR, mf.2.1, hc.ts _ mf.2.2⟩ ⟨RepX.blind _, fun U hU hW => ⟨rfl, hc.rep hS hP U hU hW, by rw [hU]; exact hE⟩⟩ rfl hn hl.1 hst (lv_room hroom) hd (by rw [hc.r]; exact hf) T hT X
end Run
/-- ends of methods -/
theorem R_ireturn (hc : Cx x cc own rm0) {u v : Int32} {ty : FieldType} (hr : x.mt.sig.returnType = some ty) (hn : narrow ty (.int u) = .int u) (hQ : x.Q = MQ x.bl (va_Qi (fun (r : Int32) (_ : Unit) => r = v) (fun _ t => RepS x.w h' t) x.w.A) x.a x.s kc ks x.w.A) (hw : wpO (some (u, h)) (fun r => r = (v, h'))) (hd : decode cc pc = .ok (.ireturn, 1)) : Rn x kc ks pc lv [.int u] h := by
  have e := wpO_some hw
  cases e
  intro H locs ls hl hS hP
  rw [hQ]
  exact W.zret hc.1 hc.2.1 hr hn (fun t ht hW => ⟨⟨u, (), rfl, rfl, hc.fin hS hP t ht hW⟩, hS.F ht⟩) hS.2.2 hd hc.lk
theorem R_zreturn (hc : Cx x cc own rm0) {u v : Int32} (hr : x.mt.sig.returnType = some .boolean) (hQ : x.Q = MQ x.bl (va_Qi (fun (r : Int32) (_ : Unit) => r = v) (fun _ t => RepS x.w h' t) x.w.A) x.a x.s kc ks x.w.A) (hw : wpO (rzI u h) (fun r => r = (v, h'))) (hd : decode cc pc = .ok (.ireturn, 1)) : Rn x kc ks pc lv [.int u] h := by
  unfold rzI at hw
  by_cases hu : u = 0 ∨ u = 1
  · rw [if_pos hu] at hw
    exact R_ireturn hc hr (by rcases hu with rfl | rfl <;> rfl) hQ hw hd
  · rw [if_neg hu] at hw
    obtain ⟨_, h1, -⟩ := hw
    cases h1
theorem R_lreturn (hc : Cx x cc own rm0) {u v : Int64} (hr : x.mt.sig.returnType = some .long) (hQ : x.Q = MQ x.bl (va_Ql (fun (r : Int64) (_ : Unit) => r = v) (fun _ t => RepS x.w h' t) x.w.A) x.a x.s kc ks x.w.A) (hw : wpO (some (u, h)) (fun r => r = (v, h'))) (hd : decode cc pc = .ok (.lreturn, 1)) : Rn x kc ks pc lv [.long u] h := by
  have e := wpO_some hw
  cases e
  intro H locs ls hl hS hP
  rw [hQ]
  exact W.lret hc.1 hc.2.1 hr (fun t ht hW => ⟨⟨u, (), rfl, rfl, hc.fin hS hP t ht hW⟩, hS.F ht⟩) hS.2.2 hd hc.lk
theorem R_return (hc : Cx x cc own rm0) (hr : x.mt.sig.returnType = none) (hQ : x.Q = MQ x.bl (va_Qv (fun (_ : Unit) => True) (fun _ t => RepS x.w h' t) x.w.A) x.a x.s kc ks x.w.A) (hw : wpO (some h) (fun r => r = h')) (hd : decode cc pc = .ok (.return_, 1)) : Rn x kc ks pc lv [] h := by
  have e := wpO_some hw
  cases e
  intro H locs ls hl hS hP
  rw [hQ]
  exact W.vret hc.1 hc.2.1 hr (fun t ht hW => ⟨⟨(), rfl, trivial, hc.fin hS hP t ht hW⟩, hS.F ht⟩) hS.2.2 hd hc.lk
theorem R_areturn (hc : Cx x cc own rm0) {u v : Option Nat} {n : String} (hr : x.mt.sig.returnType = some (.object n)) (hQ : x.Q = MQ x.bl (va_Qq (fun (r : Option Nat) (_ : Unit) => r = v.map fun a => x.w.b + a) (fun _ t => RepS x.w h' t) x.w.A) x.a x.s kc ks x.w.A) (hw : wpO (some (u, h)) (fun r => r = (v, h'))) (hd : decode cc pc = .ok (.areturn, 1)) : Rn x kc ks pc lv [rf x.w u] h := by
  have e := wpO_some hw
  cases e
  intro H locs ls hl hS hP
  rw [hQ]
  exact W.aret hc.1 hc.2.1 hr (Or.inl ⟨_, rfl⟩) (by cases u <;> first | exact Or.inl rfl | exact Or.inr ⟨_, rfl⟩) (fun t ht hW => ⟨⟨u.map fun a => x.w.b + a, (), rfl, rfl, hc.fin hS hP t ht hW⟩, hS.F ht⟩) hS.2.2 hd hc.lk
theorem R_wide {k n : Nat} (h1 : kc ≤ k) (h2 : ks ≤ n) (kk : Rn x k n pc lv st h) : Rn x kc ks pc lv st h := fun H locs ls hl hS hP => W.widen h1 h2 (kk H locs ls hl hS hP)
end
/-- a contract out of its body -/
theorem of_body {l : Launch} {w : WD} {y : MethodName} {cc : ByteArray} {mL : Nat} {ret : Option FieldType} {rm : Room} {mc ms : Nat} {av : List Value} {h : HP} {Qc : Array Value → State → Outcome → State → Prop} (lv : List (Nat × Value)) (hy : plainName y.cls = true) (hlen : (lg_sl av).length ≤ mL) (hlv : lv_args 0 av = lv)
    (body : ∀ x : CX, x.w = w → x.nL = mL → x.l = l → Cx x cc y.cls rm → x.mt.sig.returnType = ret → x.mt.name = y.name → x.Q = MQ x.bl Qc x.a x.s mc ms x.w.A → Rn x 0 0 0 lv [] h) : Met l y (.code y cc mL ret :: Tg) rm (va_Pc av (RepS w h)) Qc mc ms w.A := by
  refine Met.ofW (cc := cc) (maxL := mL) (ret := ret) hy rfl ?_
  intro p e s m args below meth c s₁ B hml hv
  obtain ⟨rfl, hP, hb, hK, hSk⟩ := hv
  have hts := atoms_spec (ws := Cond.code y cc mL ret :: Tg) B.pre
  have hl := lv_entry av (n := mL) hlen
  rw [lg_entry_eq]
  generalize (lg_sl av ++ List.replicate (mL - (lg_sl av).length) Slot.unset).toArray = ls at hl ⊢
  rw [hlv] at hl
  exact body (w, mL, MQ below Qc av.toArray s mc ms w.A, p, l, e, rm, s, m, av.toArray, below, meth, c) rfl rfl rfl ⟨B.exec, B.bytes, hml, findClass_of_methodNamed B.named, fun q hq => hts q (List.mem_cons_of_mem _ hq), hK, hSk, hb, B.notSynchronized, rfl⟩ B.returns (name_of_methodNamed B.named B.method).1 rfl s.heap [] ls hl va_S.rf hP
theorem of_bodyX {l : Launch} {w : WD} {y : MethodName} {cc : ByteArray} {mL : Nat} {ret : Option FieldType} {rm : Room} {mc ms : Nat} {av : List Value} {h : HP} {Qc : Array Value → State → Outcome → State → Prop} (lv : List (Nat × Value)) (hy : plainName y.cls = true) (hlen : (lg_sl av).length ≤ mL) (hlv : lv_args 0 av = lv)
    (body : ∀ x : CX, x.w = w → x.nL = mL → x.l = l → Cx x cc y.cls rm → x.mt.sig.returnType = ret → x.mt.name = y.name → x.s.heap.size = x.w.b + h.n → x.Q = MQ x.bl Qc x.a x.s mc ms x.w.A → Rn x 0 0 0 lv [] h) : Met l y (.code y cc mL ret :: Tg) rm (va_Pc av (RepX w h)) Qc mc ms w.A := by
  refine Met.ofW (cc := cc) (maxL := mL) (ret := ret) hy rfl ?_
  intro p e s m args below meth c s₁ B hml hv
  obtain ⟨rfl, ⟨hP, hb, hK, hSk⟩, hE⟩ := hv
  have hts := atoms_spec (ws := Cond.code y cc mL ret :: Tg) B.pre
  have hl := lv_entry av (n := mL) hlen
  rw [lg_entry_eq]
  generalize (lg_sl av ++ List.replicate (mL - (lg_sl av).length) Slot.unset).toArray = ls at hl ⊢
  rw [hlv] at hl
  exact body (w, mL, MQ below Qc av.toArray s mc ms w.A, p, l, e, rm, s, m, av.toArray, below, meth, c) rfl rfl rfl ⟨B.exec, B.bytes, hml, findClass_of_methodNamed B.named, fun q hq => hts q (List.mem_cons_of_mem _ hq), hK, hSk, hb, B.notSynchronized, rfl⟩ B.returns (name_of_methodNamed B.named B.method).1 hE rfl s.heap [] ls hl va_S.rf hP

theorem cat_i (v : Int32) : (Value.int v).category = 1 := rfl
theorem cat_l (v : Int64) : (Value.long v).category = 2 := rfl
theorem cat_a (v : Nat) : (Value.ref v).category = 1 := rfl
def bd2 {α β γ : Type} (o : Option (α × β)) (f : α → β → Option γ) : Option γ := o.bind fun p => f p.1 p.2
theorem wpO_bd2 {α β γ : Type} {o : Option (α × β)} {f : α → β → Option γ} {C : γ → Prop} (h : wpO (bd2 o f) C) : ∃ a b, o = some (a, b) ∧ wpO (f a b) C := by
  obtain ⟨⟨a, b⟩, h1, h2⟩ := wpO_bind h
  exact ⟨a, b, h1, h2⟩
theorem wpO_b {α β : Type} {o : Option α} {f : α → Option β} {C : β → Prop} (h : wpO (o.bind f) C) : wpO o (fun r => wpO (f r) C) := by
  obtain ⟨r, h1, h2⟩ := wpO_bind h
  exact ⟨r, h1, h2⟩
theorem le_b {a b : Nat} (h : Nat.ble a b = true) : a ≤ b := Nat.le_of_ble_eq_true h
section
variable {x : CX} {cc : ByteArray} {own host : String} {rm0 : Room} {kc ks pc : Nat} {lv lv' : List (Nat × Value)} {st : List Value} {h h' : HP} {α : Type} {C : α → Prop} {y : MethodName} {b : ByteArray} {mL n idx ci N : Nat} {ty : FieldType} {ret : Option FieldType} {rm : Room} {rest : List Value} {r : Option Nat} {T : u_T}
theorem dO_spec {a : Nat} (e : dO h ci r = some a) : r = some a ∧ okO h ci a = true := by
  obtain ⟨a', e1, e2, e3⟩ := g_some e
  subst e3
  exact ⟨e1, e2⟩
theorem R_ireturnP (hc : Cx x cc own rm0) {u v : Int32} {ty : FieldType} (hr : x.mt.sig.returnType = some ty) (hn : narrow ty (.int u) = .int u) (hQ : x.Q = MQ x.bl (va_Qi (fun (r : Int32) (_ : Unit) => r = v) (fun _ t => RepS x.w h t) x.w.A) x.a x.s kc ks x.w.A) (hw : wpO (some u) (fun r => r = v)) (hd : decode cc pc = .ok (.ireturn, 1)) : Rn x kc ks pc lv [.int u] h := R_ireturn hc hr hn hQ ⟨_, rfl, by rw [wpO_some hw]⟩ hd
def rzP (v : Int32) : Option Int32 := if v = 0 ∨ v = 1 then some v else none
theorem R_zreturnP (hc : Cx x cc own rm0) {u v : Int32} (hr : x.mt.sig.returnType = some .boolean) (hQ : x.Q = MQ x.bl (va_Qi (fun (r : Int32) (_ : Unit) => r = v) (fun _ t => RepS x.w h t) x.w.A) x.a x.s kc ks x.w.A) (hw : wpO (rzP u) (fun r => r = v)) (hd : decode cc pc = .ok (.ireturn, 1)) : Rn x kc ks pc lv [.int u] h := by
  unfold rzP at hw
  by_cases hu : u = 0 ∨ u = 1
  · rw [if_pos hu] at hw
    exact R_ireturnP hc hr (by rcases hu with rfl | rfl <;> rfl) hQ hw hd
  · rw [if_neg hu] at hw
    obtain ⟨_, h1, -⟩ := hw
    cases h1
theorem R_lreturnP (hc : Cx x cc own rm0) {u v : Int64} (hr : x.mt.sig.returnType = some .long) (hQ : x.Q = MQ x.bl (va_Ql (fun (r : Int64) (_ : Unit) => r = v) (fun _ t => RepS x.w h t) x.w.A) x.a x.s kc ks x.w.A) (hw : wpO (some u) (fun r => r = v)) (hd : decode cc pc = .ok (.lreturn, 1)) : Rn x kc ks pc lv [.long u] h := R_lreturn hc hr hQ ⟨_, rfl, by rw [wpO_some hw]⟩ hd
theorem R_areturnP (hc : Cx x cc own rm0) {u v : Option Nat} {n : String} (hr : x.mt.sig.returnType = some (.object n)) (hQ : x.Q = MQ x.bl (va_Qq (fun (r : Option Nat) (_ : Unit) => r = v.map fun a => x.w.b + a) (fun _ t => RepS x.w h t) x.w.A) x.a x.s kc ks x.w.A) (hw : wpO (some u) (fun r => r = v)) (hd : decode cc pc = .ok (.areturn, 1)) : Rn x kc ks pc lv [rf x.w u] h := R_areturn hc hr hQ ⟨_, rfl, by rw [wpO_some hw]⟩ hd

theorem R_cVI (hc : Cx x cc own rm0) {As : List Value} {g : Nat → Option (Int32)} {f : Int32 → Option α} (ml : Cond.methodLink own idx y ∈ Tg) (mf : MfV y b mL (some ty) n) (hq : vwCl[ci]? = some (y.cls, T, N)) (hci : ci < 12) (hrm : rm.cells = 0 ∧ rm.slots = 0) (hR : rm.frames + 1 ≤ rm0.frames ∧ 8 + (mL + 11) + rm.locals ≤ rm0.locals) (hf : kc ≤ rm0.cells ∧ ks ≤ rm0.slots) (hM : ∀ a v, g a = some v → MI x.w x.l y b mL ty rm 0 0 (rf x.w (some a) :: As) h v h) (hn : As.length = n) (hst : st = As.reverse ++ rf x.w r :: rest) (hroom : (rest.map fun v => v.category).sum ≤ 8) (hd : decode cc pc = .ok (.invokevirtual idx, 3)) (hw : wpO ((dO h ci r).bind fun a => (g a).bind f) C) (kk : ∀ v, wpO (f v) C → Rn x kc ks (pc + 3) lv (.int v :: rest) h) : Rn x kc ks pc lv st h := by
  obtain ⟨a, e1, hw1⟩ := wpO_bind hw
  obtain ⟨v, e2, hw2⟩ := wpO_bind hw1
  obtain ⟨rfl, ho⟩ := dO_spec e1
  exact R_afI hc (runV (mc := 0) (ms := 0) hc ml mf hq hci ho hrm hR hf (hM a v e2) hn hst hroom hd) (kk v hw2)
theorem R_cVIi (hc : Cx x cc own rm0) {As : List Value} {g : Nat → Option (Int32 × HP)} {f : Int32 → HP → Option α} (ml : Cond.methodLink own idx y ∈ Tg) (mf : MfV y b mL (some ty) n) (hq : vwCl[ci]? = some (y.cls, T, N)) (hci : ci < 12) (hrm : rm.cells = 0 ∧ rm.slots = 0) (hR : rm.frames + 1 ≤ rm0.frames ∧ 8 + (mL + 11) + rm.locals ≤ rm0.locals) (hf : kc ≤ rm0.cells ∧ ks ≤ rm0.slots) (hM : ∀ a v h', g a = some (v, h') → MI x.w x.l y b mL ty rm 0 0 (rf x.w (some a) :: As) h v h') (hn : As.length = n) (hst : st = As.reverse ++ rf x.w r :: rest) (hroom : (rest.map fun v => v.category).sum ≤ 8) (hd : decode cc pc = .ok (.invokevirtual idx, 3)) (hw : wpO ((dO h ci r).bind fun a => bd2 (g a) f) C) (kk : ∀ v h', wpO (f v h') C → Rn x kc ks (pc + 3) lv (.int v :: rest) h') : Rn x kc ks pc lv st h := by
  obtain ⟨a, e1, hw1⟩ := wpO_bind hw
  obtain ⟨v, h', e2, hw2⟩ := wpO_bd2 hw1
  obtain ⟨rfl, ho⟩ := dO_spec e1
  exact R_afI hc (runV (mc := 0) (ms := 0) hc ml mf hq hci ho hrm hR hf (hM a v h' e2) hn hst hroom hd) (kk v h' hw2)
theorem R_cSI (hc : Cx x cc own rm0) {As : List Value} {g : Option (Int32)} {f : Int32 → Option α} (ml : Cond.methodLink own idx y ∈ Tg) (mf : MfS y b mL (some ty) n) (hrm : rm.cells = 0 ∧ rm.slots = 0) (hR : rm.frames + 1 ≤ rm0.frames ∧ 8 + (mL + 11) + rm.locals ≤ rm0.locals) (hf : kc ≤ rm0.cells ∧ ks ≤ rm0.slots) (hM : ∀ v, g = some v → MI x.w x.l y b mL ty rm 0 0 As h v h) (hn : As.length = n) (hst : st = As.reverse ++ rest) (hroom : (rest.map fun v => v.category).sum ≤ 8) (hd : decode cc pc = .ok (.invokestatic idx, 3)) (hw : wpO (g.bind f) C) (kk : ∀ v, wpO (f v) C → Rn x kc ks (pc + 3) lv (.int v :: rest) h) : Rn x kc ks pc lv st h := by
  obtain ⟨v, e2, hw⟩ := wpO_bind hw
  exact R_afI hc (runS (mc := 0) (ms := 0) hc ml mf hrm hR hf (hM v e2) hn hst hroom hd) (kk v hw)
theorem R_cNI (hc : Cx x cc own rm0) {As : List Value} {g : Option (Int32)} {f : Int32 → Option α} (ml : Cond.methodLinkNest own idx y host ∈ nestW) (mf : MfS y b mL (some ty) n) (hrm : rm.cells = 0 ∧ rm.slots = 0) (hR : rm.frames + 1 ≤ rm0.frames ∧ 8 + (mL + 11) + rm.locals ≤ rm0.locals) (hf : kc ≤ rm0.cells ∧ ks ≤ rm0.slots) (hM : ∀ v, g = some v → MI x.w x.l y b mL ty rm 0 0 As h v h) (hn : As.length = n) (hst : st = As.reverse ++ rest) (hroom : (rest.map fun v => v.category).sum ≤ 8) (hd : decode cc pc = .ok (.invokestatic idx, 3)) (hw : wpO (g.bind f) C) (kk : ∀ v, wpO (f v) C → Rn x kc ks (pc + 3) lv (.int v :: rest) h) : Rn x kc ks pc lv st h := by
  obtain ⟨v, e2, hw⟩ := wpO_bind hw
  exact R_afI hc (runSN (mc := 0) (ms := 0) hc ml mf hrm hR hf (hM v e2) hn hst hroom hd) (kk v hw)
theorem R_cVJ (hc : Cx x cc own rm0) {As : List Value} {g : Nat → Option (Int64)} {f : Int64 → Option α} (ml : Cond.methodLink own idx y ∈ Tg) (mf : MfV y b mL (some .long) n) (hq : vwCl[ci]? = some (y.cls, T, N)) (hci : ci < 12) (hrm : rm.cells = 0 ∧ rm.slots = 0) (hR : rm.frames + 1 ≤ rm0.frames ∧ 8 + (mL + 11) + rm.locals ≤ rm0.locals) (hf : kc ≤ rm0.cells ∧ ks ≤ rm0.slots) (hM : ∀ a v, g a = some v → MJ x.w x.l y b mL rm 0 0 (rf x.w (some a) :: As) h v h) (hn : As.length = n) (hst : st = As.reverse ++ rf x.w r :: rest) (hroom : (rest.map fun v => v.category).sum ≤ 8) (hd : decode cc pc = .ok (.invokevirtual idx, 3)) (hw : wpO ((dO h ci r).bind fun a => (g a).bind f) C) (kk : ∀ v, wpO (f v) C → Rn x kc ks (pc + 3) lv (.long v :: rest) h) : Rn x kc ks pc lv st h := by
  obtain ⟨a, e1, hw1⟩ := wpO_bind hw
  obtain ⟨v, e2, hw2⟩ := wpO_bind hw1
  obtain ⟨rfl, ho⟩ := dO_spec e1
  exact R_afJ hc (runV (mc := 0) (ms := 0) hc ml mf hq hci ho hrm hR hf (hM a v e2) hn hst hroom hd) (kk v hw2)
theorem R_cVJi (hc : Cx x cc own rm0) {As : List Value} {g : Nat → Option (Int64 × HP)} {f : Int64 → HP → Option α} (ml : Cond.methodLink own idx y ∈ Tg) (mf : MfV y b mL (some .long) n) (hq : vwCl[ci]? = some (y.cls, T, N)) (hci : ci < 12) (hrm : rm.cells = 0 ∧ rm.slots = 0) (hR : rm.frames + 1 ≤ rm0.frames ∧ 8 + (mL + 11) + rm.locals ≤ rm0.locals) (hf : kc ≤ rm0.cells ∧ ks ≤ rm0.slots) (hM : ∀ a v h', g a = some (v, h') → MJ x.w x.l y b mL rm 0 0 (rf x.w (some a) :: As) h v h') (hn : As.length = n) (hst : st = As.reverse ++ rf x.w r :: rest) (hroom : (rest.map fun v => v.category).sum ≤ 8) (hd : decode cc pc = .ok (.invokevirtual idx, 3)) (hw : wpO ((dO h ci r).bind fun a => bd2 (g a) f) C) (kk : ∀ v h', wpO (f v h') C → Rn x kc ks (pc + 3) lv (.long v :: rest) h') : Rn x kc ks pc lv st h := by
  obtain ⟨a, e1, hw1⟩ := wpO_bind hw
  obtain ⟨v, h', e2, hw2⟩ := wpO_bd2 hw1
  obtain ⟨rfl, ho⟩ := dO_spec e1
  exact R_afJ hc (runV (mc := 0) (ms := 0) hc ml mf hq hci ho hrm hR hf (hM a v h' e2) hn hst hroom hd) (kk v h' hw2)
theorem R_cSJ (hc : Cx x cc own rm0) {As : List Value} {g : Option (Int64)} {f : Int64 → Option α} (ml : Cond.methodLink own idx y ∈ Tg) (mf : MfS y b mL (some .long) n) (hrm : rm.cells = 0 ∧ rm.slots = 0) (hR : rm.frames + 1 ≤ rm0.frames ∧ 8 + (mL + 11) + rm.locals ≤ rm0.locals) (hf : kc ≤ rm0.cells ∧ ks ≤ rm0.slots) (hM : ∀ v, g = some v → MJ x.w x.l y b mL rm 0 0 As h v h) (hn : As.length = n) (hst : st = As.reverse ++ rest) (hroom : (rest.map fun v => v.category).sum ≤ 8) (hd : decode cc pc = .ok (.invokestatic idx, 3)) (hw : wpO (g.bind f) C) (kk : ∀ v, wpO (f v) C → Rn x kc ks (pc + 3) lv (.long v :: rest) h) : Rn x kc ks pc lv st h := by
  obtain ⟨v, e2, hw⟩ := wpO_bind hw
  exact R_afJ hc (runS (mc := 0) (ms := 0) hc ml mf hrm hR hf (hM v e2) hn hst hroom hd) (kk v hw)
theorem R_cNJ (hc : Cx x cc own rm0) {As : List Value} {g : Option (Int64)} {f : Int64 → Option α} (ml : Cond.methodLinkNest own idx y host ∈ nestW) (mf : MfS y b mL (some .long) n) (hrm : rm.cells = 0 ∧ rm.slots = 0) (hR : rm.frames + 1 ≤ rm0.frames ∧ 8 + (mL + 11) + rm.locals ≤ rm0.locals) (hf : kc ≤ rm0.cells ∧ ks ≤ rm0.slots) (hM : ∀ v, g = some v → MJ x.w x.l y b mL rm 0 0 As h v h) (hn : As.length = n) (hst : st = As.reverse ++ rest) (hroom : (rest.map fun v => v.category).sum ≤ 8) (hd : decode cc pc = .ok (.invokestatic idx, 3)) (hw : wpO (g.bind f) C) (kk : ∀ v, wpO (f v) C → Rn x kc ks (pc + 3) lv (.long v :: rest) h) : Rn x kc ks pc lv st h := by
  obtain ⟨v, e2, hw⟩ := wpO_bind hw
  exact R_afJ hc (runSN (mc := 0) (ms := 0) hc ml mf hrm hR hf (hM v e2) hn hst hroom hd) (kk v hw)
theorem R_cVR (hc : Cx x cc own rm0) {As : List Value} {g : Nat → Option (Option Nat)} {f : Option Nat → Option α} (ml : Cond.methodLink own idx y ∈ Tg) (mf : MfV y b mL (some ty) n) (hq : vwCl[ci]? = some (y.cls, T, N)) (hci : ci < 12) (hrm : rm.cells = 0 ∧ rm.slots = 0) (hR : rm.frames + 1 ≤ rm0.frames ∧ 8 + (mL + 11) + rm.locals ≤ rm0.locals) (hf : kc ≤ rm0.cells ∧ ks ≤ rm0.slots) (hM : ∀ a v, g a = some v → MR x.w x.l y b mL ty rm 0 0 (rf x.w (some a) :: As) h v h) (hn : As.length = n) (hst : st = As.reverse ++ rf x.w r :: rest) (hroom : (rest.map fun v => v.category).sum ≤ 8) (hd : decode cc pc = .ok (.invokevirtual idx, 3)) (hw : wpO ((dO h ci r).bind fun a => (g a).bind f) C) (kk : ∀ v, wpO (f v) C → Rn x kc ks (pc + 3) lv (rf x.w v :: rest) h) : Rn x kc ks pc lv st h := by
  obtain ⟨a, e1, hw1⟩ := wpO_bind hw
  obtain ⟨v, e2, hw2⟩ := wpO_bind hw1
  obtain ⟨rfl, ho⟩ := dO_spec e1
  exact R_afR hc (runV (mc := 0) (ms := 0) hc ml mf hq hci ho hrm hR hf (hM a v e2) hn hst hroom hd) (kk v hw2)
theorem R_cVRi (hc : Cx x cc own rm0) {As : List Value} {g : Nat → Option (Option Nat × HP)} {f : Option Nat → HP → Option α} (ml : Cond.methodLink own idx y ∈ Tg) (mf : MfV y b mL (some ty) n) (hq : vwCl[ci]? = some (y.cls, T, N)) (hci : ci < 12) (hrm : rm.cells = 0 ∧ rm.slots = 0) (hR : rm.frames + 1 ≤ rm0.frames ∧ 8 + (mL + 11) + rm.locals ≤ rm0.locals) (hf : kc ≤ rm0.cells ∧ ks ≤ rm0.slots) (hM : ∀ a v h', g a = some (v, h') → MR x.w x.l y b mL ty rm 0 0 (rf x.w (some a) :: As) h v h') (hn : As.length = n) (hst : st = As.reverse ++ rf x.w r :: rest) (hroom : (rest.map fun v => v.category).sum ≤ 8) (hd : decode cc pc = .ok (.invokevirtual idx, 3)) (hw : wpO ((dO h ci r).bind fun a => bd2 (g a) f) C) (kk : ∀ v h', wpO (f v h') C → Rn x kc ks (pc + 3) lv (rf x.w v :: rest) h') : Rn x kc ks pc lv st h := by
  obtain ⟨a, e1, hw1⟩ := wpO_bind hw
  obtain ⟨v, h', e2, hw2⟩ := wpO_bd2 hw1
  obtain ⟨rfl, ho⟩ := dO_spec e1
  exact R_afR hc (runV (mc := 0) (ms := 0) hc ml mf hq hci ho hrm hR hf (hM a v h' e2) hn hst hroom hd) (kk v h' hw2)
theorem R_cSR (hc : Cx x cc own rm0) {As : List Value} {g : Option (Option Nat)} {f : Option Nat → Option α} (ml : Cond.methodLink own idx y ∈ Tg) (mf : MfS y b mL (some ty) n) (hrm : rm.cells = 0 ∧ rm.slots = 0) (hR : rm.frames + 1 ≤ rm0.frames ∧ 8 + (mL + 11) + rm.locals ≤ rm0.locals) (hf : kc ≤ rm0.cells ∧ ks ≤ rm0.slots) (hM : ∀ v, g = some v → MR x.w x.l y b mL ty rm 0 0 As h v h) (hn : As.length = n) (hst : st = As.reverse ++ rest) (hroom : (rest.map fun v => v.category).sum ≤ 8) (hd : decode cc pc = .ok (.invokestatic idx, 3)) (hw : wpO (g.bind f) C) (kk : ∀ v, wpO (f v) C → Rn x kc ks (pc + 3) lv (rf x.w v :: rest) h) : Rn x kc ks pc lv st h := by
  obtain ⟨v, e2, hw⟩ := wpO_bind hw
  exact R_afR hc (runS (mc := 0) (ms := 0) hc ml mf hrm hR hf (hM v e2) hn hst hroom hd) (kk v hw)
theorem R_cNR (hc : Cx x cc own rm0) {As : List Value} {g : Option (Option Nat)} {f : Option Nat → Option α} (ml : Cond.methodLinkNest own idx y host ∈ nestW) (mf : MfS y b mL (some ty) n) (hrm : rm.cells = 0 ∧ rm.slots = 0) (hR : rm.frames + 1 ≤ rm0.frames ∧ 8 + (mL + 11) + rm.locals ≤ rm0.locals) (hf : kc ≤ rm0.cells ∧ ks ≤ rm0.slots) (hM : ∀ v, g = some v → MR x.w x.l y b mL ty rm 0 0 As h v h) (hn : As.length = n) (hst : st = As.reverse ++ rest) (hroom : (rest.map fun v => v.category).sum ≤ 8) (hd : decode cc pc = .ok (.invokestatic idx, 3)) (hw : wpO (g.bind f) C) (kk : ∀ v, wpO (f v) C → Rn x kc ks (pc + 3) lv (rf x.w v :: rest) h) : Rn x kc ks pc lv st h := by
  obtain ⟨v, e2, hw⟩ := wpO_bind hw
  exact R_afR hc (runSN (mc := 0) (ms := 0) hc ml mf hrm hR hf (hM v e2) hn hst hroom hd) (kk v hw)
theorem R_cVVi (hc : Cx x cc own rm0) {As : List Value} {g : Nat → Option HP} {f : HP → Option α} (ml : Cond.methodLink own idx y ∈ Tg) (mf : MfV y b mL none n) (hq : vwCl[ci]? = some (y.cls, T, N)) (hci : ci < 12) (hrm : rm.cells = 0 ∧ rm.slots = 0) (hR : rm.frames + 1 ≤ rm0.frames ∧ 8 + (mL + 11) + rm.locals ≤ rm0.locals) (hf : kc ≤ rm0.cells ∧ ks ≤ rm0.slots) (hM : ∀ a h', g a = some h' → MV x.w x.l y b mL rm 0 0 (rf x.w (some a) :: As) h h') (hn : As.length = n) (hst : st = As.reverse ++ rf x.w r :: rest) (hroom : (rest.map fun v => v.category).sum ≤ 8) (hd : decode cc pc = .ok (.invokevirtual idx, 3)) (hw : wpO ((dO h ci r).bind fun a => (g a).bind f) C) (kk : ∀ h', wpO (f h') C → Rn x kc ks (pc + 3) lv rest h') : Rn x kc ks pc lv st h := by
  obtain ⟨a, e1, hw1⟩ := wpO_bind hw
  obtain ⟨h', e2, hw2⟩ := wpO_bind hw1
  obtain ⟨rfl, ho⟩ := dO_spec e1
  exact R_afV hc (runV (mc := 0) (ms := 0) hc ml mf hq hci ho hrm hR hf (hM a h' e2) hn hst hroom hd) (kk h' hw2)
theorem R_cSVi (hc : Cx x cc own rm0) {As : List Value} {g : Option HP} {f : HP → Option α} (ml : Cond.methodLink own idx y ∈ Tg) (mf : MfS y b mL none n) (hrm : rm.cells = 0 ∧ rm.slots = 0) (hR : rm.frames + 1 ≤ rm0.frames ∧ 8 + (mL + 11) + rm.locals ≤ rm0.locals) (hf : kc ≤ rm0.cells ∧ ks ≤ rm0.slots) (hM : ∀ h', g = some h' → MV x.w x.l y b mL rm 0 0 As h h') (hn : As.length = n) (hst : st = As.reverse ++ rest) (hroom : (rest.map fun v => v.category).sum ≤ 8) (hd : decode cc pc = .ok (.invokestatic idx, 3)) (hw : wpO (g.bind f) C) (kk : ∀ h', wpO (f h') C → Rn x kc ks (pc + 3) lv rest h') : Rn x kc ks pc lv st h := by
  obtain ⟨h', e2, hw⟩ := wpO_bind hw
  exact R_afV hc (runS (mc := 0) (ms := 0) hc ml mf hrm hR hf (hM h' e2) hn hst hroom hd) (kk h' hw)
end
theorem R_loop {σ ρ α : Type} {body : σ → Option (σ ⊕ ρ)} {f : ρ → Option α} {C : α → Prop} {n : Nat} {s0 : σ} (P : σ → Prop) (PE : ρ → Prop) (hw : wpO ((iter body n s0).bind f) C) (hE : ∀ r, wpO (f r) C → PE r) (hb : ∀ (X : σ → Prop), (∀ s, X s → P s) → ∀ s, wpO (body s) (fun o => match o with | .inl s' => X s' | .inr r => PE r) → P s) : P s0 := by
  obtain ⟨r, h1, h2⟩ := wpO_bind hw
  exact iter_rule (C := PE) P hb n s0 ⟨r, h1, hE r h2⟩
theorem R_join {β α : Type} {o : Option β} {f : β → Option α} {C : α → Prop} {G : Prop} (P : β → Prop) (hw : wpO (o.bind f) C) (hJ : ∀ r, wpO (f r) C → P r) (k : wpO o P → G) : G := by
  obtain ⟨r, h1, h2⟩ := wpO_bind hw
  exact k ⟨r, h1, hJ r h2⟩
def jmx (x y : Int32) : Int32 := if x < y then y else x
def jmn (x y : Int32) : Int32 := if y < x then y else x
section
variable {x : CX} {cc : ByteArray} {own : String} {rm0 : Room} {kc ks pc : Nat} {lv : List (Nat × Value)} {st : List Value} {h : HP}
theorem R_ldcw (hc : Cx x cc own rm0) {idx : Nat} {v : Int32} (hw : Cond.constant own idx v ∈ Tg) (hd : decode cc pc = .ok (.ldc_w idx, 3)) (k : Rn x kc ks (pc + 3) lv (.int v :: st) h) : Rn x kc ks pc lv st h := fun H locs ls hl hS hP => lv_ldcw hc.1 hc.2.1 hc.2.2.2.1 (hc.ts _ hw) hd (k H locs ls hl hS hP)
theorem R_tsI (hc : Cx x cc own rm0) {dflt lo hi : Int} {offs : Array Int} {len : Nat} {v : Int32} {off k : Int} {tgt : Nat} (hd : decode cc pc = .ok (.tableswitch dflt lo hi offs, len)) (hk : v.toInt = k) (h1 : ¬ k < lo) (h2 : ¬ hi < k) (ho : offs[(k - lo).toNat]? = some off) (ht : (pc : Int) + off = (tgt : Int)) (kk : Rn x kc ks tgt lv st h) : Rn x kc ks pc lv (.int v :: st) h := fun H locs ls hl hS hP => lv_tableIn hc.1 hc.2.1 hd (by rw [hk]; exact h1) (by rw [hk]; exact h2) (by rw [hk]; exact ho) ht (kk H locs ls hl hS hP)
theorem R_tsO (hc : Cx x cc own rm0) {dflt lo hi : Int} {offs : Array Int} {len : Nat} {v : Int32} {tgt : Nat} (hd : decode cc pc = .ok (.tableswitch dflt lo hi offs, len)) (hk : v.toInt < lo ∨ hi < v.toInt) (ht : (pc : Int) + dflt = (tgt : Int)) (kk : Rn x kc ks tgt lv st h) : Rn x kc ks pc lv (.int v :: st) h := fun H locs ls hl hS hP => lv_tableOut hc.1 hc.2.1 hd hk ht (kk H locs ls hl hS hP)
end
