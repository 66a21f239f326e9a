def exN (k : Nat) : String := match k with
  | 0 => "java/lang/IllegalArgumentException"
  | 1 => "java/lang/IndexOutOfBoundsException"
  | 2 => "java/util/NoSuchElementException"
  | _ => "java/lang/IllegalStateException"
abbrev exNm : List String := ["java/lang/RuntimeException", "java/lang/Exception"]
theorem tx_cl0 : Cond.classLink RX10 110 (exN 0) ∈ Tg := tg_in 85 tables_1_4 (fun _ h => tb4 h) rfl rfl
theorem tx_in0 : Cond.initialized (exN 0) ∈ Tg := tg_in 22 tables_1_1 (fun _ h => tb1 h) rfl rfl
theorem tx_g0 : ∀ w ∈ (vx_atS RX10 114 (exN 0) exNm).filter goodWord, w ∈ Tg := by decide +kernel
theorem tx_b0 : ∀ w ∈ (vx_atS RX10 114 (exN 0) exNm).filter (fun w => !goodWord w), w ∈ xW := by decide +kernel
theorem tx_o0 : ∀ w ∈ Cond.classLink RX10 110 (exN 0) :: Cond.initialized (exN 0) :: vx_atS RX10 114 (exN 0) exNm, vx_ot w = true := by decide +kernel
theorem tx_cl1 : Cond.classLink RX10 143 (exN 1) ∈ Tg := tg_in 174 tables_1_4 (fun _ h => tb4 h) rfl rfl
theorem tx_in1 : Cond.initialized (exN 1) ∈ Tg := tg_in 23 tables_1_1 (fun _ h => tb1 h) rfl rfl
theorem tx_g1 : ∀ w ∈ (vx_atS RX10 147 (exN 1) exNm).filter goodWord, w ∈ Tg := by decide +kernel
theorem tx_b1 : ∀ w ∈ (vx_atS RX10 147 (exN 1) exNm).filter (fun w => !goodWord w), w ∈ xW := by decide +kernel
theorem tx_o1 : ∀ w ∈ Cond.classLink RX10 143 (exN 1) :: Cond.initialized (exN 1) :: vx_atS RX10 147 (exN 1) exNm, vx_ot w = true := by decide +kernel
theorem tx_cl2 : Cond.classLink RX10 148 (exN 2) ∈ Tg := tg_in 190 tables_1_4 (fun _ h => tb4 h) rfl rfl
theorem tx_in2 : Cond.initialized (exN 2) ∈ Tg := tg_in 24 tables_1_1 (fun _ h => tb1 h) rfl rfl
theorem tx_cl3 : Cond.classLink RX10 390 (exN 3) ∈ Tg := tg_in 227 tables_1_5 (fun _ h => tb5 h) rfl rfl
theorem tx_in3 : Cond.initialized (exN 3) ∈ Tg := tg_in 25 tables_1_1 (fun _ h => tb1 h) rfl rfl
theorem tx_g3 : ∀ w ∈ (vx_atS RX10 394 (exN 3) exNm).filter goodWord, w ∈ Tg := by decide +kernel
theorem tx_b3 : ∀ w ∈ (vx_atS RX10 394 (exN 3) exNm).filter (fun w => !goodWord w), w ∈ xW := by decide +kernel
theorem tx_o3 : ∀ w ∈ Cond.classLink RX10 390 (exN 3) :: Cond.initialized (exN 3) :: vx_atS RX10 394 (exN 3) exNm, vx_ot w = true := by decide +kernel
/-! NoSuchElementException: in this JDK its constructor links the upper one by another pool entry than the library's law of throws knows: the same law for it -/
abbrev nsX : String := "java/util/NoSuchElementException"
abbrev nsY : String := "java/lang/RuntimeException"
def ns6 : ByteArray := ⟨#[0x2a, 0x2b, 0xb7, 0x00, 0x0d, 0xb1]⟩
theorem ns6_0 : decode ns6 0 = .ok (.aload_n 0, 1) := by decide +kernel
theorem ns6_1 : decode ns6 1 = .ok (.aload_n 1, 1) := by decide +kernel
theorem ns6_2 : decode ns6 2 = .ok (.invokespecial 13, 3) := by decide +kernel
theorem ns6_5 : decode ns6 5 = .ok (.return_, 1) := by decide +kernel
def nsAtoms (own : String) (ic : Nat) : List Cond :=
  Bundle.throwableAtoms ++ Bundle.throwableSAtoms ++ Bundle.passSAtoms nsX nsY 13 ns6 ++ Bundle.chainSAtoms nsY ["java/lang/Exception"] ++
  [.methodLink own ic (Bundle.initS nsX), .instantiable nsX 6, .selects nsX Bundle.tFill0 Bundle.tFill0, .selects nsX Bundle.tFill Bundle.tFill,
   .lays nsX Bundle.tN "cause" "Ljava/lang/Throwable;", .lays nsX Bundle.tN "stackTrace" Bundle.steD, .lays nsX Bundle.tN "suppressedExceptions" Bundle.listD, .lays nsX Bundle.tN "detailMessage" "Ljava/lang/String;",
   .isRef (.static Bundle.tN "UNASSIGNED_STACK" Bundle.steD), .isRef (.static Bundle.tN "SUPPRESSED_SENTINEL" Bundle.listD),
   .fieldLink Bundle.tN 198 Bundle.tN "backtrace" "Ljava/lang/Object;", .lays Bundle.tN Bundle.tN "backtrace" "Ljava/lang/Object;", .lays nsX Bundle.tN "backtrace" "Ljava/lang/Object;"]
section
variable {p : Program} {l : Launch} {e : Env} {R : Room} {s : State} {m : MethodId} {args : Array Value} {below : List Frame} {meth : Method} {c : Code} {V : State} {locs : List Loc} {cells slots : Nat}
set_option maxHeartbeats 2000000 in
theorem ns_ctor (X : Stand p l e R s m args below meth c V locs cells slots) (hexec : p.tables.exec = Jvm.exec) (htr : e.platform.stackTraces = false) {own : String} {ic : Nat} (hown : s.vm.findClass own = some m.cls)
    (h : ∀ a ∈ nsAtoms own ic, a.before args s = true) (hlocs : ∀ x ∈ locs, ∀ cell, s.heap[x.base]? = some cell → cell.vm.isStatics = false)
    {a : Addr} {cX : ClassId} {kX : Class} (hfoundX : s.vm.findClass nsX = some cX) (hkX : s.vm.classes[cX]? = some kX) (hcell : V.heap[a]? = some (freshCell cX kX)) (hnew : s.heap.size ≤ a)
    {msg : Value} (hmsg : msg.isRef = true) {g : JFrame} (hg : g.method = m) (hsize : g.locals.size = c.maxLocals) (hlocked : g.locked = none) (hentered : g.entered = []) {rest : List Value} (hstack : g.stack = msg :: .ref a :: .ref a :: rest)
    (hd6 : decode c.code g.pc = .ok (.invokespecial ic, 3)) (hd9 : decode c.code (g.pc + 3) = .ok (.athrow, 1)) (hout : ∀ x ∈ c.exceptionTable.toList, covers x (g.pc + 3) = false)
    (hRframes : 5 < R.frames) (hRlocals : 2 * g.monitorRoom + ((Value.ref a :: rest).map fun v => v.category).sum + 81 ≤ R.locals) (hlocks : meth.locks = false) :
    ∃ U : State, Steps p.tables e below (V.setTop g) U ∧ U.status = .running ∧ Ended U below (.threw a) ∧ s.WarmedH U.vm ∧ s.sameButNew ({ U with vm := s.vm } : State) locs cells slots ∧ ∃ ce, U.heap[a]? = some ce ∧ ce.vm = .none ∧ s.vm.findClass nsX = some ce.cls := by
  have howns : e.platform.frameOwnsMonitors = true := by rw [X.admits.platform]
  have hfin : e.platform.finalization = false := by rw [X.admits.platform]
  have hpl : e.platform.magicAccessors = ({} : Platform).magicAccessors := by rw [X.admits.platform]
  have hw : ∀ x, x ∈ nsAtoms own ic → x.holds args s none s [] = true := fun x hx => h x hx
  obtain ⟨T, Z0, L, -, Y⟩ := ThrowableC.of_atoms (args := args) howns hfin hpl (fun x hx => h x (by simp [nsAtoms, hx]))
  obtain ⟨Z, M, LZ, LM, hnZ⟩ := Init0T.ofS_atoms (args := args) hpl L Y (fun x hx => h x (by simp [nsAtoms, hx]))
  obtain ⟨P2, Ps, hlen, L2, hL, hP2m, hlink2, hlink⟩ := Bundle.chainS (args := args) hpl hnZ ["java/lang/Exception"] nsY (by decide) (by decide) (fun x hx => h x (by simp [nsAtoms, hx]))
  obtain ⟨P1, L1, hP1m, hs1⟩ := PassC.ofS_atoms (args := args) (s := s) hpl (X := nsX) (Y := nsY) (by decide) (by decide) ns6_0 ns6_1 ns6_2 ns6_5 (fun x hx => h x (by simp [nsAtoms, hx]))
  have hsup : P1.sup = P2.m := Option.some.inj (hs1.symm.trans hP2m)
  have hfound : s.vm.findClass nsX = some P1.m.cls := findClass_of_methodNamed hP1m
  cases Option.some.inj (hfoundX.symm.trans hfound)
  obtain ⟨c1, kX', hc1, hk, hord, -, -, hn6⟩ := Cond.instantiable_spec (hw (.instantiable nsX 6) (by simp [nsAtoms]))
  cases Option.some.inj (hc1.symm.trans hfound)
  cases Option.some.inj (hkX.symm.trans hk)
  have hsel0 : selectMethod e.platform s.vm P1.m.cls T.fill0 = .method T.fill0 := by
    obtain ⟨c2, r2, m2, q1, q2, q3, q4, -⟩ := Cond.selects_spec (hw (.selects nsX Bundle.tFill0 Bundle.tFill0) (by simp [nsAtoms]))
    cases Option.some.inj (q1.symm.trans hfound)
    cases Option.some.inj (q2.symm.trans (State.methodFound?_of_named Y.fill0 (by decide)))
    cases Option.some.inj (q3.symm.trans Y.fill0)
    rw [Launch.admits_selectMethod X.admits]; exact q4
  have hselF : selectMethod e.platform s.vm P1.m.cls T.fill = .method T.fill := by
    obtain ⟨c2, r2, m2, q1, q2, q3, q4, -⟩ := Cond.selects_spec (hw (.selects nsX Bundle.tFill Bundle.tFill) (by simp [nsAtoms]))
    cases Option.some.inj (q1.symm.trans hfound)
    cases Option.some.inj (q2.symm.trans (State.methodFound?_of_named Y.fill (by decide)))
    cases Option.some.inj (q3.symm.trans Y.fill)
    rw [Launch.admits_selectMethod X.admits]; exact q4
  obtain ⟨cellS0, hcS0, hiss⟩ := Y.statics
  obtain ⟨u0, hu0⟩ := Cond.staticRefV Y.unassigned L.unassignedStatic L.statics hcS0 hiss (hw (.isRef (.static Bundle.tN "UNASSIGNED_STACK" Bundle.steD)) (by simp [nsAtoms]))
  obtain ⟨sen, hsen⟩ := Cond.staticRefV Y.sentinel L.sentinelStatic L.statics hcS0 hiss (hw (.isRef (.static Bundle.tN "SUPPRESSED_SENTINEL" Bundle.listD)) (by simp [nsAtoms]))
  obtain ⟨ci198, i198, fB, hk198, hg198, ha198, hsB, -, hnB, htB, hffB⟩ := Cond.ownField (t := .object "java/lang/Object") Y.found L.cls (by decide +kernel) (hw (.fieldLink Bundle.tN 198 Bundle.tN "backtrace" "Ljava/lang/Object;") (by simp [nsAtoms])) (hw (.lays Bundle.tN Bundle.tN "backtrace" "Ljava/lang/Object;") (by simp [nsAtoms])) e.platform hpl
  obtain ⟨cellS, hcS', heS, -, hkeep⟩ := X.same.2.2.2.2.2 T.aS cellS0 hcS0
  have hcellS : V.heap[T.aS]? = some cellS := hcS'
  have hout' : ∀ i, (⟨T.aS, i⟩ : Loc) ∉ locs := fun i hmem => by
    have := hlocs _ hmem cellS0 hcS0
    rw [hiss] at this; cases this
  have hknownS : cellS.vm ≠ .unknown := by
    rw [heS]; intro hu
    rw [show cellS0.vm = .unknown from hu] at hiss
    cases hiss
  have hneS : T.aS ≠ a := Nat.ne_of_lt (Nat.lt_of_lt_of_le (Array.getElem?_eq_some_iff.mp hcS0).1 hnew)
  obtain ⟨iM, hffM⟩ := Y.msg
  obtain ⟨tyC, dC, hdC, hdnC⟩ := Cond.laysAt hfound hk Y.cause (hw (.lays nsX Bundle.tN "cause" "Ljava/lang/Throwable;") (by simp [nsAtoms]))
  obtain ⟨tyS, dS, hdS, hdnS⟩ := Cond.laysAt hfound hk Y.stack (hw (.lays nsX Bundle.tN "stackTrace" Bundle.steD) (by simp [nsAtoms]))
  obtain ⟨tyP, dP, hdP, hdnP⟩ := Cond.laysAt hfound hk Y.supp (hw (.lays nsX Bundle.tN "suppressedExceptions" Bundle.listD) (by simp [nsAtoms]))
  obtain ⟨tyM, dM, hdM, hdnM⟩ := Cond.laysAt hfound hk hffM (hw (.lays nsX Bundle.tN "detailMessage" "Ljava/lang/String;") (by simp [nsAtoms]))
  obtain ⟨tyB, dB, hdB, hdnB⟩ := Cond.laysAt hfound hk hffB (hw (.lays nsX Bundle.tN "backtrace" "Ljava/lang/Object;") (by simp [nsAtoms]))
  have bC := Cond.laysApart hdB hdC hdnB hdnC (by rw [hnB, Y.causeName]; decide)
  have bS := Cond.laysApart hdB hdS hdnB hdnS (by rw [hnB, Y.stackName]; decide)
  have bP := Cond.laysApart hdB hdP hdnB hdnP (by rw [hnB, Y.suppName]; decide)
  have hskip : SkipFacts T e.platform s (fun u => u) u0 ((preparedCellV T.toThrowableT (freshCell P1.m.cls kX) a u0 sen).withEntry V.cur) :=
    ⟨{ ci198 := ci198, i198 := i198, fBack := fB }, ⟨hk198, hg198, ha198, hsB⟩, by
      have := fresh_default (c := P1.m.cls) tyB
      rw [htB] at this
      simpa [preparedCellV, Cell.setSlot, Cell.withEntry, Array.getElem?_setIfInBounds, bC, bS, bP, bC.symm, bS.symm, bP.symm, defaultValue] using this, fun _ _ => rfl⟩
  obtain ⟨tm, methC, cdC, kC, vm₁, hnC, -, -, -, -, -, -, -, hW₁, st1⟩ := Steps.initColdS (tb := p.tables) (e := e) (below := below) (s := s) (U := V) X.here hexec X.warmed hpl hown (t := Bundle.initS nsX) rfl rfl (by decide)
    (hw (.methodLink own ic (Bundle.initS nsX)) (by simp [nsAtoms])) (h (.instanceMethod (Bundle.initS nsX)) (by simp [nsAtoms, Bundle.passSAtoms])) (bytes := ns6) (maxL := 2) (h (.code (Bundle.initS nsX) ns6 2 none) (by simp [nsAtoms, Bundle.passSAtoms]))
    (f := g) hg (a := a) (msg := msg) (rest := .ref a :: rest) hstack hd6
  cases Option.some.inj (hnC.symm.trans hP1m)
  have X₁ := X.noted hW₁
  have hlen1 : Ps.length = 1 := hlen
  obtain ⟨vm₂, X₂, st2⟩ := X₁.ctorMessageOffV hexec (g := { g with stack := .ref a :: rest }) hg hsize T L Z LZ M LM (P1 :: P2 :: Ps)
    (fun P hP => by
      rcases List.mem_cons.mp hP with rfl | hP
      · exact L1
      · rcases List.mem_cons.mp hP with rfl | hP
        · exact L2
        · exact hL P hP) ⟨hsup, hlink2, hlink⟩ (u0 := u0) (sen := sen) (self := a) hmsg (cell := freshCell P1.m.cls kX) (cellS := cellS)
    hcell (fun _ => by simp) (by simp) rfl rfl hsel0 hselF hcellS hneS hknownS (by rw [hkeep _ (hout' _)]; exact hu0) (by rw [hkeep _ (hout' _)]; exact hsen)
    (Takes.of_laid hk hord tyC (by rw [Y.causeType]; rfl)) (Takes.of_laid hk hord tyS (by rw [Y.stackType]; exact fits_refV_array _ u0)) (Takes.of_laid hk hord tyP (by rw [Y.suppType]; exact fits_refV_object _ sen))
    (Takes.of_laid hk hord tyM (by rw [Y.msgType]; exact fits_refV_object _ ⟨msg, hmsg⟩)) Y.objLocals hskip htr [] hd6
    (by simp only [List.length_cons, hlen1]; omega) (by simp only [List.length_cons, hlen1]; exact hRlocals)
  obtain ⟨hwalk, hrun, hended, hWU, hsame⟩ := X₂.athrowLeaves hexec (g := { g with stack := .ref a :: rest, pc := g.pc + 3 }) hg hlocked hentered hout (a := a) (rest := rest) rfl hd9
  have hlt : a < ((V.setVm vm₁).setVm vm₂).heap.size := (Array.getElem?_eq_some_iff.mp hcell).1
  have hU := heapAt_setCell_self (s := (V.setVm vm₁).setVm vm₂) (plainBareV T.toThrowableT (freshCell P1.m.cls kX) a u0 sen msg) hlt
  refine ⟨_, st1 _ (fun acts => ?_), hrun, hended, hWU, hsame.weaken (fun y hy hlt' => ?_) (Nat.le_refl _) (Nat.le_refl _), _, hU, rfl, hfound⟩
  · rw [doInvoke_state]
    exact st2 _ hwalk
  · rcases List.mem_append.mp hy with h1 | h1
    · exact h1
    · exfalso
      have hb : y.base = a := by
        simp only [List.mem_cons, List.not_mem_nil, or_false] at h1
        rcases h1 with rfl | rfl | rfl | rfl | rfl <;> rfl
      rw [hb] at hlt'
      exact Nat.not_lt.mpr hnew hlt'
end
/-- contracts of methods that return (.inl) or throw (.inr) -/
def XQx (w : WD) {α : Type} (r : α ⊕ Nat) (h' : HP) : String → State → State → Prop := vx_X (fun (_ : Unit) => True) (fun E _ t => (∃ k, r = .inr k ∧ E = exN k) ∧ Rep w h' t.heap) w.A
def XI (w : WD) (l : Launch) (y : MethodName) (cc : ByteArray) (mL : Nat) (ty : FieldType) (rm : Room) (av : List Value) (h : HP) (r : Int32 ⊕ Nat) (h' : HP) : Prop := vx_Met l y (.code y cc mL (some ty) :: Tg) rm (va_Pc av (RepS w h)) (va_Qi (fun (v : Int32) (_ : Unit) => r = .inl v) (fun _ t => RepS w h' t) w.A) (XQx w r h') 1 6 w.A
def XJ (w : WD) (l : Launch) (y : MethodName) (cc : ByteArray) (mL : Nat) (rm : Room) (av : List Value) (h : HP) (r : Int64 ⊕ Nat) (h' : HP) : Prop := vx_Met l y (.code y cc mL (some .long) :: Tg) rm (va_Pc av (RepS w h)) (va_Ql (fun (v : Int64) (_ : Unit) => r = .inl v) (fun _ t => RepS w h' t) w.A) (XQx w r h') 1 6 w.A
theorem of_bodyT {l : Launch} {w : WD} {y : MethodName} {cc : ByteArray} {mL : Nat} {ret : Option FieldType} {rm : Room} {mc ms : Nat} {av : List Value} {h : HP} {Qc : Array Value → State → Outcome → State → Prop} {XC : String → State → State → Prop} (lv : List (Nat × Value)) (hy : plainName y.cls = true) (hlen : (lg_sl av).length ≤ mL) (hlv : lv_args 0 av = lv)
    (body : ∀ x : CX, x.w = w → x.nL = mL → x.l = l → Cx x cc y.cls rm → x.mt.sig.returnType = ret → (∀ z ∈ x.c.exceptionTable.toList, False) → x.Q = vx_MQ x.bl Qc XC x.a x.s mc ms x.w.A → Rn x 0 0 0 lv [] h) : vx_Met l y (.code y cc mL ret :: Tg) rm (va_Pc av (RepS w h)) Qc XC mc ms w.A := by
  refine vx_ofW (cc := cc) (maxL := mL) (ret := ret) hy rfl ?_
  intro p e s m args below meth c s₁ B hml hex hv
  obtain ⟨rfl, hP, hb, hK, hSk⟩ := hv
  have hts := atoms_spec (ws := Cond.code y cc mL ret :: Tg) B.pre
  have hl := lv_entry av (n := mL) hlen
  rw [lg_entry_eq]
  generalize (lg_sl av ++ List.replicate (mL - (lg_sl av).length) Slot.unset).toArray = ls at hl ⊢
  rw [hlv] at hl
  exact body (w, mL, vx_MQ below Qc XC av.toArray s mc ms w.A, p, l, e, rm, s, m, av.toArray, below, meth, c) rfl rfl rfl ⟨B.exec, B.bytes, hml, findClass_of_methodNamed B.named, fun q hq => hts q (List.mem_cons_of_mem _ hq), hK, hSk, hb, B.notSynchronized, rfl⟩ B.returns hex rfl s.heap [] ls hl va_S.rf hP
section
variable {x : CX} {cc : ByteArray} {own : String} {rm0 : Room} {kc ks pc : Nat} {lv : List (Nat × Value)} {st : List Value} {h h' : HP}
theorem R_ireturnT (hc : Cx x cc own rm0) {u : Int32} {r : Int32 ⊕ Nat} {ty : FieldType} (hr : x.mt.sig.returnType = some ty) (hn : narrow ty (.int u) = .int u) (hk : kc ≤ 1 ∧ ks ≤ 6) (hQ : x.Q = vx_MQ x.bl (va_Qi (fun (v : Int32) (_ : Unit) => r = .inl v) (fun _ t => RepS x.w h' t) x.w.A) (XQx x.w r h') x.a x.s 1 6 x.w.A) (hw : wpO (some ((.inl u : Int32 ⊕ Nat), h)) (fun q => q = (r, h'))) (hd : decode cc pc = .ok (.ireturn, 1)) : Rn x kc ks pc lv [.int u] h := by
  have e := wpO_some hw
  cases e
  intro H locs ls hl hS hP
  rw [hQ]
  refine W.widen (k := 1) (n := 6) hk.1 hk.2 (vx_ret ?_)
  exact W.zret hc.1 hc.2.1 hr hn (fun t ht hW => ⟨⟨u, (), rfl, rfl, hc.fin hS hP t ht hW⟩, hS.F ht⟩) hS.2.2 hd hc.lk
theorem R_lreturnT (hc : Cx x cc own rm0) {u : Int64} {r : Int64 ⊕ Nat} (hr : x.mt.sig.returnType = some .long) (hk : kc ≤ 1 ∧ ks ≤ 6) (hQ : x.Q = vx_MQ x.bl (va_Ql (fun (v : Int64) (_ : Unit) => r = .inl v) (fun _ t => RepS x.w h' t) x.w.A) (XQx x.w r h') x.a x.s 1 6 x.w.A) (hw : wpO (some ((.inl u : Int64 ⊕ Nat), h)) (fun q => q = (r, h'))) (hd : decode cc pc = .ok (.lreturn, 1)) : Rn x kc ks pc lv [.long u] h := by
  have e := wpO_some hw
  cases e
  intro H locs ls hl hS hP
  rw [hQ]
  refine W.widen (k := 1) (n := 6) hk.1 hk.2 (vx_ret ?_)
  exact W.lret hc.1 hc.2.1 hr (fun t ht hW => ⟨⟨u, (), rfl, rfl, hc.fin hS hP t ht hW⟩, hS.F ht⟩) hS.2.2 hd hc.lk
theorem XQx_of (hc : Cx x cc own rm0) {α : Type} {H : Heap} {locs : List Loc} (hS : va_S x.w.A x.s.heap H locs) (hP : Rep x.w h H) {k : Nat} (t : State) (h1 : H.size ≤ t.heap.size) (h2 : ∀ q : Nat, q < H.size → t.heap[q]? = H[q]?) : XQx x.w (.inr k : α ⊕ Nat) h (exN k) x.s t := by
  refine ⟨(), trivial, ⟨⟨k, rfl, rfl⟩, hP.kept (fun i q hq => h2 _ ((hP i q hq).lt))⟩, Nat.le_trans hS.1 h1, fun q q1 q2 => ?_⟩
  rw [h2 q (Nat.lt_of_lt_of_le q1 hS.1)]
  exact hS.2.1 q q1 q2
theorem R_throwS (hc : Cx x cc RX10 rm0) (hlt : x.l.stackTraces = false) (hex : ∀ z ∈ x.c.exceptionTable.toList, False) {k ik is ic : Nat} {text : String} {α : Type} {r : α ⊕ Nat} {Qc : Array Value → State → Outcome → State → Prop} (hfit : Bundle.fit (exN k) = true) (hcl : Cond.classLink RX10 ik (exN k) ∈ Tg) (hin : Cond.initialized (exN k) ∈ Tg) (hg : ∀ w ∈ (vx_atS RX10 ic (exN k) exNm).filter goodWord, w ∈ Tg) (hb : ∀ w ∈ (vx_atS RX10 ic (exN k) exNm).filter (fun w => !goodWord w), w ∈ xW) (ho : ∀ w ∈ Cond.classLink RX10 ik (exN k) :: Cond.initialized (exN k) :: vx_atS RX10 ic (exN k) exNm, vx_ot w = true) (hm : (is, text) ∈ msgR) (hR : 5 < rm0.frames ∧ (st.map fun v => v.category).sum + 82 ≤ rm0.locals) (hk : kc + 1 ≤ rm0.cells ∧ ks + 6 ≤ rm0.slots) (hk2 : kc + 1 ≤ 1 ∧ ks + 6 ≤ 6) (hQ : x.Q = vx_MQ x.bl Qc (XQx x.w r h') x.a x.s 1 6 x.w.A) (hw : wpO (some ((.inr k : α ⊕ Nat), h)) (fun q => q = (r, h'))) (d0 : decode cc pc = .ok (.new ik, 3)) (d3 : decode cc (pc + 3) = .ok (.dup, 1)) (d4 : decode cc (pc + 4) = .ok (.ldc is, 2)) (d6 : decode cc (pc + 6) = .ok (.invokespecial ic, 3)) (d9 : decode cc (pc + 9) = .ok (.athrow, 1)) : Rn x kc ks pc lv st h := by
  have e := wpO_some hw
  cases e
  intro H locs ls hl hS hP
  obtain ⟨sa, hsa⟩ := hc.sk.2.2.2.2.2.2.1 _ hm
  rw [hQ]
  exact vx_throwS (names := exNm) hc.1 hc.2.1 hlt hc.2.2.2.1 hfit (by decide) (hc.ts _ hcl) (hc.ts _ hin) hsa (vx_hat (B := xW) (fun w h => hc.ts w (hg w h)) hb (fun w h => va_Nw.use (List.all_eq_true.mp xW_tab w h) (hc.sk.2.2.2.2.2.2.2.1 w h))) ho hc.sk.2.2.2.1 hc.sk.2.2.2.2.1 hS (hl.1.trans hc.2.2.1.symm) d0 d3 d4 d6 d9 (fun z hz => (hex z hz).elim) (by rw [hc.r]; exact hR.1) (by rw [hc.r]; exact hR.2) (by rw [hc.r]; exact hk.1) (by rw [hc.r]; exact hk.2) hc.lk (fun t hA h1 h2 => XQx_of hc hS hP t h1 h2) hS.2.2 hk2.1 hk2.2
theorem R_throwSW (hc : Cx x cc RX10 rm0) (hlt : x.l.stackTraces = false) (hex : ∀ z ∈ x.c.exceptionTable.toList, False) {k ik is ic : Nat} {text : String} {α : Type} {r : α ⊕ Nat} {Qc : Array Value → State → Outcome → State → Prop} (hfit : Bundle.fit (exN k) = true) (hcl : Cond.classLink RX10 ik (exN k) ∈ Tg) (hin : Cond.initialized (exN k) ∈ Tg) (hg : ∀ w ∈ (vx_atS RX10 ic (exN k) exNm).filter goodWord, w ∈ Tg) (hb : ∀ w ∈ (vx_atS RX10 ic (exN k) exNm).filter (fun w => !goodWord w), w ∈ xW) (ho : ∀ w ∈ Cond.classLink RX10 ik (exN k) :: Cond.initialized (exN k) :: vx_atS RX10 ic (exN k) exNm, vx_ot w = true) (hm : (is, text) ∈ msgR) (hR : 5 < rm0.frames ∧ (st.map fun v => v.category).sum + 82 ≤ rm0.locals) (hk : kc + 1 ≤ rm0.cells ∧ ks + 6 ≤ rm0.slots) (hk2 : kc + 1 ≤ 1 ∧ ks + 6 ≤ 6) (hQ : x.Q = vx_MQ x.bl Qc (XQx x.w r h') x.a x.s 1 6 x.w.A) (hw : wpO (some ((.inr k : α ⊕ Nat), h)) (fun q => q = (r, h'))) (d0 : decode cc pc = .ok (.new ik, 3)) (d3 : decode cc (pc + 3) = .ok (.dup, 1)) (d4 : decode cc (pc + 4) = .ok (.ldc_w is, 3)) (d6 : decode cc (pc + 7) = .ok (.invokespecial ic, 3)) (d9 : decode cc (pc + 10) = .ok (.athrow, 1)) : Rn x kc ks pc lv st h := by
  have e := wpO_some hw
  cases e
  intro H locs ls hl hS hP
  obtain ⟨sa, hsa⟩ := hc.sk.2.2.2.2.2.2.1 _ hm
  rw [hQ]
  exact vx_throwSW (names := exNm) hc.1 hc.2.1 hlt hc.2.2.2.1 hfit (by decide) (hc.ts _ hcl) (hc.ts _ hin) hsa (vx_hat (B := xW) (fun w h => hc.ts w (hg w h)) hb (fun w h => va_Nw.use (List.all_eq_true.mp xW_tab w h) (hc.sk.2.2.2.2.2.2.2.1 w h))) ho hc.sk.2.2.2.1 hc.sk.2.2.2.2.1 hS (hl.1.trans hc.2.2.1.symm) d0 d3 d4 d6 d9 (fun z hz => (hex z hz).elim) (by rw [hc.r]; exact hR.1) (by rw [hc.r]; exact hR.2) (by rw [hc.r]; exact hk.1) (by rw [hc.r]; exact hk.2) hc.lk (fun t hA h1 h2 => XQx_of hc hS hP t h1 h2) hS.2.2 hk2.1 hk2.2
end
theorem ns_g : ∀ w ∈ ((nsAtoms RX10 152).filter vx_no).filter goodWord, w ∈ Tg := by decide +kernel
theorem ns_b : ∀ w ∈ ((nsAtoms RX10 152).filter vx_no).filter (fun w => !goodWord w), w ∈ xW := by decide +kernel
theorem ns_o : ∀ w ∈ (nsAtoms RX10 152).filter vx_no, vx_ot w = true := by decide +kernel
set_option maxHeartbeats 2000000 in
theorem R_throwN {x : CX} {cc : ByteArray} {rm0 : Room} {kc ks pc : Nat} {lv : List (Nat × Value)} {st : List Value} {h h' : HP} (hc : Cx x cc RX10 rm0) (hlt : x.l.stackTraces = false) (hex : ∀ z ∈ x.c.exceptionTable.toList, False) {is : Nat} {text : String} {α : Type} {r : α ⊕ Nat} {Qc : Array Value → State → Outcome → State → Prop} (hm : (is, text) ∈ msgR) (hR : 5 < rm0.frames ∧ (st.map fun v => v.category).sum + 82 ≤ rm0.locals) (hk : kc + 1 ≤ rm0.cells ∧ ks + 6 ≤ rm0.slots) (hk2 : kc + 1 ≤ 1 ∧ ks + 6 ≤ 6) (hQ : x.Q = vx_MQ x.bl Qc (XQx x.w r h') x.a x.s 1 6 x.w.A) (hw : wpO (some ((.inr 2 : α ⊕ Nat), h)) (fun q => q = (r, h'))) (d0 : decode cc pc = .ok (.new 148, 3)) (d3 : decode cc (pc + 3) = .ok (.dup, 1)) (d4 : decode cc (pc + 4) = .ok (.ldc is, 2)) (d6 : decode cc (pc + 6) = .ok (.invokespecial 152, 3)) (d9 : decode cc (pc + 9) = .ok (.athrow, 1)) : Rn x kc ks pc lv st h := by
  have er := wpO_some hw
  cases er
  intro H locs ls hl hS hP T hT X
  obtain ⟨sa, hsa⟩ := hc.sk.2.2.2.2.2.2.1 _ hm
  have htr : x.e.platform.stackTraces = false := (show x.e.platform.stackTraces = x.l.stackTraces by rw [X.admits.platform]).trans hlt
  have Y := vx_rebase X (R' := { frames := x.rm.frames, locals := x.rm.locals, cells := 1, slots := 6 }) (Nat.le_refl _) (Nat.le_refl _) (by rw [hc.r]; exact hk.1) (by rw [hc.r]; exact hk.2)
  obtain ⟨s', hA⟩ : ∃ z, z = (T.setVm x.s.vm).setFrames (.invoking x.m x.a :: x.bl) := ⟨_, rfl⟩
  rw [← hA] at Y
  have hvm : s'.vm = x.s.vm := by rw [hA]; rfl
  have hhp : s'.heap = H := by rw [hA]; exact hT
  have hW0 : x.s.WarmedH s'.vm := by rw [hvm]; exact State.WarmedH.refl x.s
  have hat : ∀ w ∈ (nsAtoms RX10 152).filter vx_no, w.before x.a x.s = true := vx_hat (B := xW) (fun w h => hc.ts w (ns_g w h)) ns_b (fun w h => va_Nw.use (List.all_eq_true.mp xW_tab w h) (hc.sk.2.2.2.2.2.2.2.1 w h))
  have hat' : ∀ w ∈ (nsAtoms RX10 152).filter vx_no, w.before x.a s' = true := fun w hw => vx_ot_at hW0 hvm.symm (ns_o w hw) (hat w hw)
  have hk' : (Cond.classLink RX10 148 nsX).before x.a s' = true := vx_ot_at hW0 hvm.symm rfl (hc.ts _ tx_cl2)
  have hini' : (Cond.initialized nsX).before x.a s' = true := vx_ot_at hW0 hvm.symm rfl (hc.ts _ tx_in2)
  have hU' : vx_Zq Bundle.tN "UNASSIGNED_STACK" Bundle.steD x.w.A s' s'.heap := by rw [hhp]; exact vx_Zq.moved hW0.alike (hc.sk.2.2.2.1.kept hS.2.1)
  have hN' : vx_Zq Bundle.tN "SUPPRESSED_SENTINEL" Bundle.listD x.w.A s' s'.heap := by rw [hhp]; exact vx_Zq.moved hW0.alike (hc.sk.2.2.2.2.1.kept hS.2.1)
  have hh : ∀ w ∈ nsAtoms RX10 152, w.before x.a s' = true := vx_own hat' (vx_isRefq hU'.1) (vx_isRefq hN'.1) hU'.2.word hN'.2.word
  have hown' : s'.vm.findClass RX10 = some x.m.cls := by rw [hvm]; exact hc.2.2.2.1
  have hins : (Cond.instantiable nsX 6).before x.a s' = true := hh _ (by simp [nsAtoms])
  obtain ⟨vm₁, cX, kX, hfX, hkX, -, -, X₁, st1⟩ := Y.newCold hc.1 (own := RX10) (C := nsX) (index := 148) (n := 6) hown' hk' hins hini' (g := F0 x.m pc ls st) rfl (by rw [hc.2.1]; exact d0) (Nat.le_refl _) (Nat.le_refl _)
  generalize hT1 : (T.setVm vm₁).pushCell { cls := cX, slots := kX.instanceTypes.map defaultValue, vm := .none } = T1 at X₁ st1
  have hcat : (Value.ref T.heap.size).category = 1 := rfl
  have hcellA : T1.heap[T.heap.size]? = some (freshCell cX kX) := by rw [← hT1]; exact State.heap_pushCell_size _ _
  have d3' : decode x.c.code (pc + 3) = .ok (.dup, 1) := by rw [hc.2.1]; exact d3
  have d4' : decode x.c.code (pc + 4) = .ok (.ldc is, 2) := by rw [hc.2.1]; exact d4
  have hstr' : vk_R RX10 is text sa s' := vk_R.warm hW0 hsa
  have hRl := hR.2
  rw [← hc.r] at hRl
  obtain ⟨U, hsteps, hrun, hend, hW, hsame, ce, hce, hcv, hcl⟩ := ns_ctor X₁ hc.1 htr (own := RX10) (ic := 152) hown' hh (fun x hx => nomatch hx) hfX hkX hcellA (by rw [hhp, hT]; exact Nat.le_refl _) (msg := .ref sa) rfl
    (g := { method := x.m, pc := pc + 6, locals := ls, stack := .ref sa :: .ref T.heap.size :: .ref T.heap.size :: st, locked := none }) rfl (hl.1.trans hc.2.2.1.symm) rfl rfl (rest := st) rfl
    (by rw [hc.2.1]; exact d6) (by rw [hc.2.1]; exact d9) (fun z hz => (hex z hz).elim) (by show 5 < x.rm.frames; rw [hc.r]; exact hR.1) (by show 2 * 0 + _ + 81 ≤ x.rm.locals; simp only [List.map_cons, List.sum_cons, hcat]; omega) hc.lk
  obtain ⟨f1, f2⟩ := vx_frame hsame
  rw [hhp] at f1 f2
  have hWs : x.s.WarmedH U.vm := State.WarmedH.trans hW0 hW
  have hcl : x.s.vm.findClass (exN 2) = some ce.cls := by
    rw [hvm] at hcl
    exact hcl
  have hall : x.s.sameButNew ({ U with vm := x.s.vm } : State) locs 1 6 := by
    subst hA
    obtain ⟨e1, e2⟩ := hsame
    rw [State.setFrames_setFrames] at e1
    have h2 : (T.setVm x.s.vm).sameButNew ({ U with vm := x.s.vm } : State) [] (0 + 1) (0 + 6) := ⟨e1, e2⟩
    have h3 := X.same.trans h2
    rw [List.append_nil] at h3
    exact h3.mono hk2.1 hk2.2
  rw [hQ]
  refine ⟨U, ?_, .threw T.heap.size, hrun, hend, Or.inr ⟨T.heap.size, rfl, exN 2, ce, locs, XQx_of hc hS hP U f1 (fun q hq => f2 q hq (fun z hz => nomatch hz)), hce, hcv, hcl, hWs, hall, hS.2.2⟩⟩
  refine st1 _ ?_
  show Steps x.p.tables x.e x.bl (T1.setTop { method := x.m, pc := pc + 3, locals := ls, stack := .ref T.heap.size :: st, locked := none }) _
  jvm_step X₁.here [X₁.here.top, hc.1, d3', Value.category]
  exact X₁.ldcString hc.1 (own := RX10) (text := text) (index := is) (a := sa) hown' hstr'.1 hstr'.2
    (g := { method := x.m, pc := pc + 4, locals := ls, stack := .ref T.heap.size :: .ref T.heap.size :: st, locked := none }) rfl d4' _ hsteps
set_option maxHeartbeats 2000000 in
theorem R_throwNW {x : CX} {cc : ByteArray} {rm0 : Room} {kc ks pc : Nat} {lv : List (Nat × Value)} {st : List Value} {h h' : HP} (hc : Cx x cc RX10 rm0) (hlt : x.l.stackTraces = false) (hex : ∀ z ∈ x.c.exceptionTable.toList, False) {is : Nat} {text : String} {α : Type} {r : α ⊕ Nat} {Qc : Array Value → State → Outcome → State → Prop} (hm : (is, text) ∈ msgR) (hR : 5 < rm0.frames ∧ (st.map fun v => v.category).sum + 82 ≤ rm0.locals) (hk : kc + 1 ≤ rm0.cells ∧ ks + 6 ≤ rm0.slots) (hk2 : kc + 1 ≤ 1 ∧ ks + 6 ≤ 6) (hQ : x.Q = vx_MQ x.bl Qc (XQx x.w r h') x.a x.s 1 6 x.w.A) (hw : wpO (some ((.inr 2 : α ⊕ Nat), h)) (fun q => q = (r, h'))) (d0 : decode cc pc = .ok (.new 148, 3)) (d3 : decode cc (pc + 3) = .ok (.dup, 1)) (d4 : decode cc (pc + 4) = .ok (.ldc_w is, 3)) (d6 : decode cc (pc + 7) = .ok (.invokespecial 152, 3)) (d9 : decode cc (pc + 10) = .ok (.athrow, 1)) : Rn x kc ks pc lv st h := by
  have er := wpO_some hw
  cases er
  intro H locs ls hl hS hP T hT X
  obtain ⟨sa, hsa⟩ := hc.sk.2.2.2.2.2.2.1 _ hm
  have htr : x.e.platform.stackTraces = false := (show x.e.platform.stackTraces = x.l.stackTraces by rw [X.admits.platform]).trans hlt
  have Y := vx_rebase X (R' := { frames := x.rm.frames, locals := x.rm.locals, cells := 1, slots := 6 }) (Nat.le_refl _) (Nat.le_refl _) (by rw [hc.r]; exact hk.1) (by rw [hc.r]; exact hk.2)
  obtain ⟨s', hA⟩ : ∃ z, z = (T.setVm x.s.vm).setFrames (.invoking x.m x.a :: x.bl) := ⟨_, rfl⟩
  rw [← hA] at Y
  have hvm : s'.vm = x.s.vm := by rw [hA]; rfl
  have hhp : s'.heap = H := by rw [hA]; exact hT
  have hW0 : x.s.WarmedH s'.vm := by rw [hvm]; exact State.WarmedH.refl x.s
  have hat : ∀ w ∈ (nsAtoms RX10 152).filter vx_no, w.before x.a x.s = true := vx_hat (B := xW) (fun w h => hc.ts w (ns_g w h)) ns_b (fun w h => va_Nw.use (List.all_eq_true.mp xW_tab w h) (hc.sk.2.2.2.2.2.2.2.1 w h))
  have hat' : ∀ w ∈ (nsAtoms RX10 152).filter vx_no, w.before x.a s' = true := fun w hw => vx_ot_at hW0 hvm.symm (ns_o w hw) (hat w hw)
  have hk' : (Cond.classLink RX10 148 nsX).before x.a s' = true := vx_ot_at hW0 hvm.symm rfl (hc.ts _ tx_cl2)
  have hini' : (Cond.initialized nsX).before x.a s' = true := vx_ot_at hW0 hvm.symm rfl (hc.ts _ tx_in2)
  have hU' : vx_Zq Bundle.tN "UNASSIGNED_STACK" Bundle.steD x.w.A s' s'.heap := by rw [hhp]; exact vx_Zq.moved hW0.alike (hc.sk.2.2.2.1.kept hS.2.1)
  have hN' : vx_Zq Bundle.tN "SUPPRESSED_SENTINEL" Bundle.listD x.w.A s' s'.heap := by rw [hhp]; exact vx_Zq.moved hW0.alike (hc.sk.2.2.2.2.1.kept hS.2.1)
  have hh : ∀ w ∈ nsAtoms RX10 152, w.before x.a s' = true := vx_own hat' (vx_isRefq hU'.1) (vx_isRefq hN'.1) hU'.2.word hN'.2.word
  have hown' : s'.vm.findClass RX10 = some x.m.cls := by rw [hvm]; exact hc.2.2.2.1
  have hins : (Cond.instantiable nsX 6).before x.a s' = true := hh _ (by simp [nsAtoms])
  obtain ⟨vm₁, cX, kX, hfX, hkX, -, -, X₁, st1⟩ := Y.newCold hc.1 (own := RX10) (C := nsX) (index := 148) (n := 6) hown' hk' hins hini' (g := F0 x.m pc ls st) rfl (by rw [hc.2.1]; exact d0) (Nat.le_refl _) (Nat.le_refl _)
  generalize hT1 : (T.setVm vm₁).pushCell { cls := cX, slots := kX.instanceTypes.map defaultValue, vm := .none } = T1 at X₁ st1
  have hcat : (Value.ref T.heap.size).category = 1 := rfl
  have hcellA : T1.heap[T.heap.size]? = some (freshCell cX kX) := by rw [← hT1]; exact State.heap_pushCell_size _ _
  have d3' : decode x.c.code (pc + 3) = .ok (.dup, 1) := by rw [hc.2.1]; exact d3
  have d4' : decode x.c.code (pc + 4) = .ok (.ldc_w is, 3) := by rw [hc.2.1]; exact d4
  have hstr' : vk_R RX10 is text sa s' := vk_R.warm hW0 hsa
  have hRl := hR.2
  rw [← hc.r] at hRl
  obtain ⟨U, hsteps, hrun, hend, hW, hsame, ce, hce, hcv, hcl⟩ := ns_ctor X₁ hc.1 htr (own := RX10) (ic := 152) hown' hh (fun x hx => nomatch hx) hfX hkX hcellA (by rw [hhp, hT]; exact Nat.le_refl _) (msg := .ref sa) rfl
    (g := { method := x.m, pc := pc + 7, locals := ls, stack := .ref sa :: .ref T.heap.size :: .ref T.heap.size :: st, locked := none }) rfl (hl.1.trans hc.2.2.1.symm) rfl rfl (rest := st) rfl
    (by rw [hc.2.1]; exact d6) (by rw [hc.2.1]; exact d9) (fun z hz => (hex z hz).elim) (by show 5 < x.rm.frames; rw [hc.r]; exact hR.1) (by show 2 * 0 + _ + 81 ≤ x.rm.locals; simp only [List.map_cons, List.sum_cons, hcat]; omega) hc.lk
  obtain ⟨f1, f2⟩ := vx_frame hsame
  rw [hhp] at f1 f2
  have hWs : x.s.WarmedH U.vm := State.WarmedH.trans hW0 hW
  have hcl : x.s.vm.findClass (exN 2) = some ce.cls := by
    rw [hvm] at hcl
    exact hcl
  have hall : x.s.sameButNew ({ U with vm := x.s.vm } : State) locs 1 6 := by
    subst hA
    obtain ⟨e1, e2⟩ := hsame
    rw [State.setFrames_setFrames] at e1
    have h2 : (T.setVm x.s.vm).sameButNew ({ U with vm := x.s.vm } : State) [] (0 + 1) (0 + 6) := ⟨e1, e2⟩
    have h3 := X.same.trans h2
    rw [List.append_nil] at h3
    exact h3.mono hk2.1 hk2.2
  rw [hQ]
  refine ⟨U, ?_, .threw T.heap.size, hrun, hend, Or.inr ⟨T.heap.size, rfl, exN 2, ce, locs, XQx_of hc hS hP U f1 (fun q hq => f2 q hq (fun z hz => nomatch hz)), hce, hcv, hcl, hWs, hall, hS.2.2⟩⟩
  refine st1 _ ?_
  show Steps x.p.tables x.e x.bl (T1.setTop { method := x.m, pc := pc + 3, locals := ls, stack := .ref T.heap.size :: st, locked := none }) _
  jvm_step X₁.here [X₁.here.top, hc.1, d3', Value.category]
  exact X₁.ldcStringW hc.1 (own := RX10) (text := text) (index := is) (a := sa) hown' hstr'.1 hstr'.2
    (g := { method := x.m, pc := pc + 4, locals := ls, stack := .ref T.heap.size :: .ref T.heap.size :: st, locked := none }) rfl d4' _ hsteps
