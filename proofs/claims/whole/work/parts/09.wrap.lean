/-- a method with a table of handlers that returns -/
theorem of_bodyW {l : Launch} {w : WD} {y : MethodName} {cc : ByteArray} {mL : Nat} {ret : Option FieldType} {hh : List (Nat × Nat × Nat × Nat)} {rm : Room} {mc ms : Nat} {av : List Value} {h : HP} {Qc : Array Value → State → Outcome → State → Prop} (lv : List (Nat × Value)) (hy : plainName y.cls = true) (hlen : (lg_sl av).length ≤ mL) (hlv : lv_args 0 av = lv)
    (body : ∀ x : CX, x.w = w → x.nL = mL → x.l = l → Cx x cc y.cls rm → x.mt.sig.returnType = ret → x.c.exceptionTable.toList = tableOf hh → x.Q = MQ x.bl Qc x.a x.s mc ms x.w.A → Rn x 0 0 0 lv [] h) : Met l y (.codeWith y cc mL ret hh :: Tg) rm (va_Pc av (RepS w h)) Qc mc ms w.A := by
  refine MetFree.of_bodyS (code := cc) (maxLocals := mL) (ret := ret) hy ?_ ?_
  · intro args s m hp hn
    obtain ⟨m9, meth, c, hn9, h1, h2, h3, h4, -, h5, h6, -⟩ := Cond.codeWith_spec (atoms_spec (ws := Cond.codeWith y cc mL ret hh :: Tg) hp _ List.mem_cons_self)
    cases hn.symm.trans hn9
    exact ⟨meth, c, h1, h2, h3, h4, h5, h6⟩
  · intro p e s m args below meth c s₁ B hml hv _
    obtain ⟨rfl, hP, hb, hK, hSk⟩ := hv
    have hts := atoms_spec (ws := Cond.codeWith y cc mL ret hh :: Tg) B.pre
    have htab := vx_table (x := y) B (hts _ List.mem_cons_self)
    have hh0 : s₁.heap = s.heap := by rw [B.state]; rfl
    have hl := lv_entry av (n := mL) hlen
    have key : W p l e (headSpec (Cond.codeWith y cc mL ret hh :: Tg) rm).room s m av.toArray below meth c s.heap [] 0 0 (MQ below Qc av.toArray s mc ms w.A) (entryFrame m av.toArray mL) := by
      rw [lg_entry_eq]
      generalize (lg_sl av ++ List.replicate (mL - (lg_sl av).length) Slot.unset).toArray = ls at hl ⊢
      rw [hlv] at hl
      exact body (w, mL, MQ below Qc av.toArray s mc ms w.A, p, l, e, rm, s, m, av.toArray, below, meth, c) rfl rfl rfl ⟨B.exec, B.bytes, hml, findClass_of_methodNamed B.named, fun q hq => hts q (List.mem_cons_of_mem _ hq), hK, hSk, hb, B.notSynchronized, rfl⟩ B.returns htab rfl s.heap [] ls hl va_S.rf hP
    obtain ⟨t, a1, o, b1, b2, b3⟩ := key s₁ hh0 (Stand.of_body B)
    exact ⟨t, o, a1, b1, b2, ⟨b3.1, b3.2⟩⟩
/-- where a callee has thrown -/
def RnX (x : CX) (kc ks pc : Nat) (lv : List (Nat × Value)) (rest : List Value) (h : HP) (k : Nat) : Prop :=
  ∀ (H : Heap) (locs : List Loc) (ls : Array Slot), lv_has ls x.nL lv → va_S x.w.A x.s.heap H locs → Rep x.w h H → ∀ (ce : Cell) (q : Addr), H[q]? = some ce → ce.vm = .none → x.s.vm.findClass (exN k) = some ce.cls → vx_W x.p x.l x.e x.rm x.s x.m x.a x.bl x.mt x.c H locs kc ks x.Q (F0 x.m pc ls rest) q
section
variable {x : CX} {cc : ByteArray} {own : String} {rm0 : Room} {kc ks pc : Nat} {lv lv' : List (Nat × Value)} {st : List Value} {h h' : HP} {α : Type} {C : α → Prop} {y : MethodName} {b : ByteArray} {mL n idx ci N : Nat} {ret : Option FieldType} {rm : Room} {rest : List Value} {r0 : Option Nat} {T : u_T}
theorem runVX {a : Nat} {As : List Value} {Qc : Array Value → State → Outcome → State → Prop} {XC : String → State → State → Prop} (hc : Cx x cc own rm0) (ml : Cond.methodLink own idx y ∈ Tg) (mf : MfV y b mL ret n) (hq : vwCl[ci]? = some (y.cls, T, N)) (hci : ci < 12) (ho : okO h ci a = true) (hrm : rm.cells = 1 ∧ rm.slots = 6) (hR : rm.frames + 1 ≤ rm0.frames ∧ 8 + (mL + 11) + rm.locals ≤ rm0.locals) (hf : kc + 1 ≤ rm0.cells ∧ ks + 6 ≤ rm0.slots) (hM : vx_Met x.l y (.code y b mL ret :: Tg) rm (va_Pc (rf x.w (some a) :: As) (RepS x.w h)) Qc XC 1 6 x.w.A) (hn : As.length = n) (hst : st = As.reverse ++ rf x.w (some a) :: rest) (hroom : (rest.map fun v => v.category).sum ≤ 8) (hd : decode cc pc = .ok (.invokevirtual idx, 3)) : ∀ (H : Heap) (locs : List Loc) (ls : Array Slot), lv_has ls x.nL lv → va_S x.w.A x.s.heap H locs → Rep x.w h H → vx_Run x.p x.l x.e x.rm x.s x.m x.a x.bl x.mt x.c H locs kc ks 1 6 (F0 x.m pc ls st) rest (Qc (rf x.w (some a) :: As).toArray) XC x.w.A := by
  intro H locs ls hl hS hP
  exact vx_runV (b := x.w.b + a) (C := y.cls) (As := As) (rest := rest) (cfix hc) hM ⟨cb hc ml mf.1 hrm hR, hc.ts _ mf.2.1, hc.ts _ mf.2.2⟩ ⟨RepS.blind _, recv hc hP ho hci hq, fun U hU hW => ⟨rfl, hc.rep hS hP U hU hW⟩⟩ rfl hn hl.1 hst (lv_room hroom) hd (by rw [hc.r]; exact hf)
theorem R_cXI (hc : Cx x cc own rm0) {As : List Value} {g : Nat → Option ((Int32 ⊕ Nat) × HP)} {f : (Int32 ⊕ Nat) → HP → Option α} (ml : Cond.methodLink own idx y ∈ Tg) (mf : MfV y b mL (some .int) n) (hq : vwCl[ci]? = some (y.cls, T, N)) (hci : ci < 12) (hrm : rm.cells = 1 ∧ rm.slots = 6) (hR : rm.frames + 1 ≤ rm0.frames ∧ 8 + (mL + 11) + rm.locals ≤ rm0.locals) (hf : kc + 1 ≤ rm0.cells ∧ ks + 6 ≤ rm0.slots) (hM : ∀ a r h', g a = some (r, h') → XI x.w x.l y b mL .int rm (rf x.w (some a) :: As) h r h') (hn : As.length = n) (hst : st = As.reverse ++ rf x.w r0 :: rest) (hroom : (rest.map fun v => v.category).sum ≤ 8) (hd : decode cc pc = .ok (.invokevirtual idx, 3)) (hw : wpO ((dO h ci r0).bind fun a => bd2 (g a) f) C) (kk : ∀ v h', wpO (f (.inl v) h') C → Rn x (kc + 1) (ks + 6) (pc + 3) lv (.int v :: rest) h') (kx : ∀ k h', wpO (f (.inr k) h') C → RnX x (kc + 1) (ks + 6) pc lv rest h' k) : Rn x kc ks pc lv st h := by
  obtain ⟨a, e1, hw1⟩ := wpO_bind hw
  obtain ⟨r, h', e2, hw2⟩ := wpO_bd2 hw1
  obtain ⟨rfl, ho⟩ := dO_spec e1
  intro H locs ls hl hS hP
  refine vx_calli (runVX hc ml mf hq hci ho hrm hR hf (hM a r h' e2) hn hst hroom hd H locs ls hl hS hP) hS (fun q _ h => h) (fun q h => h) (fun q _ h => h) (fun E ce q9 u t H1 locs1 ht hvm _ hB hz hk hS1 hce hcv hcl => ?_) (fun v u t H1 locs1 ht hvm hw3 hB hz hk hS1 => ?_)
  · obtain ⟨⟨k, rfl, rfl⟩, hrep⟩ := hB
    rw [ht] at hrep
    exact kx k h' hw2 H1 locs1 ls hl hS1 hrep ce q9 hce hcv hcl
  · subst hw3
    exact kk v h' hw2 H1 locs1 ls hl hS1 (by rw [← ht]; exact hB.1)
theorem R_cXJ (hc : Cx x cc own rm0) {As : List Value} {g : Nat → Option ((Int64 ⊕ Nat) × HP)} {f : (Int64 ⊕ Nat) → HP → Option α} (ml : Cond.methodLink own idx y ∈ Tg) (mf : MfV y b mL (some .long) n) (hq : vwCl[ci]? = some (y.cls, T, N)) (hci : ci < 12) (hrm : rm.cells = 1 ∧ rm.slots = 6) (hR : rm.frames + 1 ≤ rm0.frames ∧ 8 + (mL + 11) + rm.locals ≤ rm0.locals) (hf : kc + 1 ≤ rm0.cells ∧ ks + 6 ≤ rm0.slots) (hM : ∀ a r h', g a = some (r, h') → XJ x.w x.l y b mL rm (rf x.w (some a) :: As) h r h') (hn : As.length = n) (hst : st = As.reverse ++ rf x.w r0 :: rest) (hroom : (rest.map fun v => v.category).sum ≤ 8) (hd : decode cc pc = .ok (.invokevirtual idx, 3)) (hw : wpO ((dO h ci r0).bind fun a => bd2 (g a) f) C) (kk : ∀ v h', wpO (f (.inl v) h') C → Rn x (kc + 1) (ks + 6) (pc + 3) lv (.long v :: rest) h') (kx : ∀ k h', wpO (f (.inr k) h') C → RnX x (kc + 1) (ks + 6) pc lv rest h' k) : Rn x kc ks pc lv st h := by
  obtain ⟨a, e1, hw1⟩ := wpO_bind hw
  obtain ⟨r, h', e2, hw2⟩ := wpO_bd2 hw1
  obtain ⟨rfl, ho⟩ := dO_spec e1
  intro H locs ls hl hS hP
  refine vx_calll (runVX hc ml mf hq hci ho hrm hR hf (hM a r h' e2) hn hst hroom hd H locs ls hl hS hP) hS (fun q _ h => h) (fun q h => h) (fun q _ h => h) (fun E ce q9 u t H1 locs1 ht hvm _ hB hz hk hS1 hce hcv hcl => ?_) (fun v u t H1 locs1 ht hvm hw3 hB hz hk hS1 => ?_)
  · obtain ⟨⟨k, rfl, rfl⟩, hrep⟩ := hB
    rw [ht] at hrep
    exact kx k h' hw2 H1 locs1 ls hl hS1 hrep ce q9 hce hcv hcl
  · subst hw3
    exact kk v h' hw2 H1 locs1 ls hl hS1 (by rw [← ht]; exact hB.1)
theorem R_catch (hc : Cx x cc own rm0) {k : Nat} {nm : String} (pre : List ExceptionTableEntry) (z : ExceptionTableEntry) (suf : List ExceptionTableEntry) (htab : x.c.exceptionTable.toList = pre ++ z :: suf) (hpass : ∀ z' ∈ pre, covers z' pc = false ∨ (z'.catchType ≠ 0 ∧ ∃ nm : String, Cond.classLink own z'.catchType nm ∈ Tg ∧ va_Nc (exN k) nm x.s)) (hx : covers z pc = true) (h0 : z.catchType ≠ 0) (hlink : Cond.classLink own z.catchType nm ∈ Tg) (hcast : Cond.castable (exN k) nm ∈ xW) {hp : Nat} (hhp : z.handlerPc = hp) (kk : ∀ q, Rn x kc ks hp lv [.ref q] h) : RnX x kc ks pc lv rest h k := by
  intro H locs ls hl hS hP ce q hce hcv hcl
  refine vx_catch (own := own) (name := nm) (E := exN k) hc.2.2.2.1 pre z suf htab (fun z' hz => ?_) hx h0 (hc.ts _ hlink) (va_Nw.use rfl (hc.sk.2.2.2.2.2.2.2.1 _ hcast)) hce hcv hcl (by rw [hhp]; exact kk q H locs ls hl hS hP)
  rcases hpass z' hz with h1 | ⟨h1, nm', h2, h3⟩
  · exact Or.inl h1
  · exact Or.inr ⟨h1, nm', hc.ts _ h2, h3⟩
theorem R_astoreV_n (hc : Cx x cc own rm0) {j : Fin 4} {i v : Nat} (lv' : List (Nat × Value)) (hd : decode cc pc = .ok (.astore_n j, 1)) (hi : (j : Nat) = i) (hn : i < x.nL) (hv : (i, Value.ref v) :: lv.filter (fun q => !(q.1 == i) && !(q.1 + 1 == i && q.2.category == 2)) = lv') (k : Rn x kc ks (pc + 1) lv' st h) : Rn x kc ks pc lv (.ref v :: st) h := fun H locs ls hl hS hP => lv_astore_n hc.1 hc.2.1 hd hi hl hn hv fun ls hl => k H locs ls hl hS hP
theorem R_astoreV (hc : Cx x cc own rm0) {i v : Nat} (lv' : List (Nat × Value)) (hd : decode cc pc = .ok (.astore i, 2)) (hn : i < x.nL) (hv : (i, Value.ref v) :: lv.filter (fun q => !(q.1 == i) && !(q.1 + 1 == i && q.2.category == 2)) = lv') (k : Rn x kc ks (pc + 2) lv' st h) : Rn x kc ks pc lv (.ref v :: st) h := fun H locs ls hl hS hP => lv_astore hc.1 hc.2.1 hd hl hn hv fun ls hl => k H locs ls hl hS hP
/-- a contract of a wrapper, and its call -/
def MW (w : WD) (l : Launch) (y : MethodName) (cc : ByteArray) (mL : Nat) (hh : List (Nat × Nat × Nat × Nat)) (rm : Room) (av : List Value) (h : HP) (v : Int32) (h' : HP) : Prop := Met l y (.codeWith y cc mL (some .int) hh :: Tg) rm (va_Pc av (RepS w h)) (va_Qi (fun (r : Int32) (_ : Unit) => r = v) (fun _ t => RepS w h' t) w.A) 1 6 w.A
def MfW (y : MethodName) (b : ByteArray) (mL : Nat) (hh : List (Nat × Nat × Nat × Nat)) (n : Nat) : Prop := Cond.codeWith y b mL (some .int) hh ∈ Tg ∧ Cond.initialized y.cls ∈ Tg ∧ Cond.static y ∈ Tg ∧ (y.cls ≠ "java/lang/invoke/MethodHandle" ∧ y.cls ≠ "java/lang/invoke/VarHandle" ∧ (parseMethodDescriptor y.desc).map (fun d => d.parameters.length) = some n)
theorem tg_subW {hh : List (Nat × Nat × Nat × Nat)} {r : Option FieldType} (hy : Cond.codeWith y b n r hh ∈ Tg) : GoodIn Tg (Cond.codeWith y b n r hh :: Tg) := fun w hw => (List.mem_cons.mp hw).elim (fun e => by subst e; exact ⟨hy, good_of_word (tg_good _ hy)⟩) (fun hw => ⟨hw, good_of_word (tg_good _ hw)⟩)
theorem R_cW (hc : Cx x cc own rm0) {hh : List (Nat × Nat × Nat × Nat)} {As : List Value} {g : Option (Int32 × HP)} {f : Int32 → HP → Option α} (ml : Cond.methodLink own idx y ∈ Tg) (mf : MfW y b mL hh n) (hrm : rm.cells = 1 ∧ rm.slots = 6) (hR : rm.frames + 1 ≤ rm0.frames ∧ 8 + (mL + 11) + rm.locals ≤ rm0.locals) (hf : kc + 1 ≤ rm0.cells ∧ ks + 6 ≤ rm0.slots) (hM : ∀ v h', g = some (v, h') → MW x.w x.l y b mL hh rm As h v h') (hn : As.length = n) (hst : st = As.reverse ++ rest) (hroom : (rest.map fun v => v.category).sum ≤ 8) (hd : decode cc pc = .ok (.invokestatic idx, 3)) (hw : wpO (bd2 g f) C) (kk : ∀ v h', wpO (f v h') C → Rn x (kc + 1) (ks + 6) (pc + 3) lv (.int v :: rest) h') : Rn x kc ks pc lv st h := by
  obtain ⟨v, h', e2, hw2⟩ := wpO_bd2 hw
  refine R_afI (a0 := As.toArray) (mc := 1) (ms := 6) (rest := rest) hc (fun H locs ls hl hS hP => ?_) (kk v h' hw2)
  refine vx_runSW (As := As) (rest := rest) (hh := hh) (bytes := b) (maxL := mL) (ret := some .int) (cfix hc) (hM v h' e2) ⟨⟨hrm.1, hrm.2, (fits_rm hc hR).1, (fits_rm hc hR).2, pay_in hc.ts (tg_subW mf.1), List.mem_cons_self⟩, hc.ts _ mf.1, hc.ts _ mf.2.1, ⟨mf.2.2.2.1, mf.2.2.2.2.1⟩, fun sig hs => ?_, hc.ts _ ml, hc.ts _ mf.2.2.1⟩ ⟨RepS.blind _, fun U hU hW => ⟨rfl, hc.rep hS hP U hU hW⟩⟩ rfl hn hl.1 hst (lv_room hroom) hd (by rw [hc.r]; exact hf)
  have h2 := mf.2.2.2.2.2
  rw [hs] at h2
  exact (Option.some.inj h2).symm
end
