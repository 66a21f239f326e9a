theorem HP.new_n (h : HP) (kd len : Nat) : (h.new kd len).n = h.n + 1 := rfl
theorem HP.new_K (h : HP) (kd len : Nat) : (h.new kd len).K = va_up h.K h.n kd := rfl
theorem HP.new_N (h : HP) (kd len : Nat) : (h.new kd len).N = va_up h.N h.n len := rfl
theorem HP.new_I (h : HP) (kd len : Nat) : (h.new kd len).I = va_up h.I h.n (fun _ => 0) := rfl
theorem HP.new_J (h : HP) (kd len : Nat) : (h.new kd len).J = va_up h.J h.n (fun _ => 0) := rfl
theorem HP.new_R (h : HP) (kd len : Nat) : (h.new kd len).R = va_up h.R h.n (fun _ => none) := rfl
theorem elt_new {w : WD} {h : HP} {kd len b : Nat} (hb : b < h.n) : elt w (h.new kd len) b = elt w h b := by
  have hb : b ≠ h.n := by omega
  exact elt_same (by rw [HP.new_K, up_ne hb]) (by rw [HP.new_N, up_ne hb]) (by rw [HP.new_I, up_ne hb]) (by rw [HP.new_J, up_ne hb]) (by rw [HP.new_R, up_ne hb])
theorem new_rep {w : WD} {h : HP} {kd len : Nat} {H H1 : Heap} (hP : Rep w h H) (ho : ∀ q : Nat, q < H.size → H1[q]? = H[q]?) (he : va_at w.D vwCl (w.b + h.n, elt w (h.new kd len) h.n) H1) : Rep w (h.new kd len) H1 := by
  have e := wsO_push (w := w) (h := h) (h' := h.new kd len) rfl rfl (fun b hb => elt_new hb)
  show va_P w.D vwCl (wsO w (h.new kd len)) H1
  rw [← e]
  refine va_P.app (hP.kept (fun k q hq => ho q.1 ((hP k q hq).lt))) (fun k q hk => ?_)
  have hz : k < 1 := (List.getElem?_eq_some_iff.mp hk).1
  rw [show k = 0 by omega] at hk
  cases hk
  exact he
section
variable {x : CX} {cc : ByteArray} {own host : String} {rm0 : Room} {kc ks pc : Nat} {lv : List (Nat × Value)} {st : List Value} {h : HP} {α : Type} {C : α → Prop}
theorem R_new (hc : Cx x cc own rm0) (hx : x.s.heap.size + kc = x.w.b + h.n) {ci N idx : Nat} {CC : String} {T : u_T} (ty : Nat → FieldType) (hq : vwCl[ci]? = some (CC, T, N)) (hcl : Cond.classLink own idx CC ∈ Tg) (hins : Cond.instantiable CC N ∈ Tg) (hini : Cond.initialized CC ∈ Tg) (hin : ∀ w ∈ u_ws CC T N, w ∈ Tg) (hty : ∀ k, k < N → parseFieldDescriptor (T k).2.2.1 = some (ty k)) (hdef : ∀ j, j < N → defaultValue (ty j) = (match (fty ci).getD j 0 with | 0 => Value.int 0 | 1 => Value.long 0 | _ => Value.null)) (hN : (fty ci).length = N) (hci : ci < 12) (hcells : kc + 1 ≤ rm0.cells) (hslots : ks + N ≤ rm0.slots) (hd : decode cc pc = .ok (.new idx, 3)) {f : HP → Option α} (hw : wpO ((some (h.new ci N)).bind f) C) (kk : ∀ h', x.s.heap.size + (kc + 1) = x.w.b + h'.n → wpO (f h') C → Rn x (kc + 1) (ks + N) (pc + 3) lv (rf x.w (some h.n) :: st) h') : Rn x kc ks pc lv st h := by
  intro H locs ls hl hS hP T' hT X
  have hE := ends hc hx hT hS hP X
  have key : W x.p x.l x.e x.rm x.s x.m x.a x.bl x.mt x.c H locs kc ks x.Q (F0 x.m pc ls st) := by
    have hKn := hc.k.1.1 ci _ hq
    refine W.newcK hc.1 hc.2.1 hc.2.2.2.1 (hc.ts _ hcl) (hc.ts _ hins) (hc.ts _ hini) rfl hd (by rw [hc.r]; exact hcells) (by rw [hc.r]; exact hslots) hKn.2.1 hE (fun H1 kC hkC e1 z1 o1 => ?_)
    refine kk _ (by rw [HP.new_n]; omega) hw H1 locs ls hl ⟨by omega, fun q h1 h2 => (o1 q (by have := hS.1; omega)).trans (hS.2.1 q h1 h2), hS.2.2⟩ (new_rep hP (fun q hq => o1 q (by omega)) ?_)
    rw [elt_obj (ci := ci) (by rw [HP.new_K, up_eq]) hci]
    refine ⟨_, hq, (u_born ty hc.ts hin hKn hkC e1 hty).to (fun j hj => ?_)⟩
    rw [hdef j hj]
    have hj' : j < (fty ci).length := by rw [hN]; exact hj
    have e2 : (flds x.w (h.new ci N) ci h.n).getD j Value.null = fvl x.w (h.new ci N) h.n (fty ci)[j] j := by
      rw [List.getD_eq_getElem?_getD, flds_at (List.getElem?_eq_getElem hj')]; rfl
    have e3 : (fty ci).getD j 0 = (fty ci)[j] := by rw [List.getD_eq_getElem?_getD, List.getElem?_eq_getElem hj']; rfl
    show _ = (flds x.w (h.new ci N) ci h.n).getD j Value.null
    rw [e2, e3]
    unfold fvl
    rw [HP.new_I, HP.new_J, HP.new_R, up_eq, up_eq, up_eq]
    rfl
  exact key T' hT X
theorem R_newI (hc : Cx x cc own rm0) (hx : x.s.heap.size + kc = x.w.b + h.n) {N : Nat} {n : Int32} (hn : ¬ n < 0) (hN : n.toNatClampNeg = N) (hb : N * 4 ≤ 536870912) (har : Cond.arrayClass .int ∈ Tg) (hcells : kc + 1 ≤ rm0.cells) (hslots : ks + N ≤ rm0.slots) (hd : decode cc pc = .ok (.newarray .int, 2)) {f : HP → Option α} (hw : wpO ((some (h.new 13 N)).bind f) C) (kk : ∀ h', x.s.heap.size + (kc + 1) = x.w.b + h'.n → wpO (f h') C → Rn x (kc + 1) (ks + N) (pc + 2) lv (rf x.w (some h.n) :: st) h') : Rn x kc ks pc lv (.int n :: st) h := by
  intro H locs ls hl hS hP T' hT X
  have hE := ends hc hx hT hS hP X
  have key : W x.p x.l x.e x.rm x.s x.m x.a x.bl x.mt x.c H locs kc ks x.Q (F0 x.m pc ls (.int n :: st)) := by
    refine va_newaK (atype := .int) hc.1 hc.2.1 (hc.ts _ har) rfl hd rfl hn hN hb (by rw [hc.r]; exact hcells) (by rw [hc.r]; exact hslots) hE (fun H1 cA e1 z1 o1 hAr hNm => ?_)
    have hcA : cA = x.w.cI := by
      have := (hc.k.1.2 1 (x.w.cI, .int) rfl).2
      exact Option.some.inj (hNm.symm.trans this)
    subst hcA
    refine kk _ (by rw [HP.new_n]; omega) hw H1 locs ls hl ⟨by omega, fun q h1 h2 => (o1 q (by have := hS.1; omega)).trans (hS.2.1 q h1 h2), hS.2.2⟩ (new_rep hP (fun q hq => o1 q (by omega)) ?_)
    rw [elt_I (by rw [HP.new_K, up_eq]), HP.new_N, HP.new_I, up_eq, up_eq]
    exact e1
  exact key T' hT X
theorem R_newB (hc : Cx x cc own rm0) (hx : x.s.heap.size + kc = x.w.b + h.n) {N : Nat} {n : Int32} (hn : ¬ n < 0) (hN : n.toNatClampNeg = N) (hb : N * 1 ≤ 536870912) (har : Cond.arrayClass .byte ∈ Tg) (hcells : kc + 1 ≤ rm0.cells) (hslots : ks + N ≤ rm0.slots) (hd : decode cc pc = .ok (.newarray .byte, 2)) {f : HP → Option α} (hw : wpO ((some (h.new 12 N)).bind f) C) (kk : ∀ h', x.s.heap.size + (kc + 1) = x.w.b + h'.n → wpO (f h') C → Rn x (kc + 1) (ks + N) (pc + 2) lv (rf x.w (some h.n) :: st) h') : Rn x kc ks pc lv (.int n :: st) h := by
  intro H locs ls hl hS hP T' hT X
  have hE := ends hc hx hT hS hP X
  have key : W x.p x.l x.e x.rm x.s x.m x.a x.bl x.mt x.c H locs kc ks x.Q (F0 x.m pc ls (.int n :: st)) := by
    refine va_newaK (atype := .byte) hc.1 hc.2.1 (hc.ts _ har) rfl hd rfl hn hN hb (by rw [hc.r]; exact hcells) (by rw [hc.r]; exact hslots) hE (fun H1 cA e1 z1 o1 hAr hNm => ?_)
    have hcA : cA = x.w.cB := by
      have := (hc.k.1.2 0 (x.w.cB, .byte) rfl).2
      exact Option.some.inj (hNm.symm.trans this)
    subst hcA
    refine kk _ (by rw [HP.new_n]; omega) hw H1 locs ls hl ⟨by omega, fun q h1 h2 => (o1 q (by have := hS.1; omega)).trans (hS.2.1 q h1 h2), hS.2.2⟩ (new_rep hP (fun q hq => o1 q (by omega)) ?_)
    rw [elt_B (by rw [HP.new_K, up_eq]), HP.new_N, HP.new_I, up_eq, up_eq]
    exact e1
  exact key T' hT X
theorem R_newJ (hc : Cx x cc own rm0) (hx : x.s.heap.size + kc = x.w.b + h.n) {N : Nat} {n : Int32} (hn : ¬ n < 0) (hN : n.toNatClampNeg = N) (hb : N * 8 ≤ 536870912) (har : Cond.arrayClass .long ∈ Tg) (hcells : kc + 1 ≤ rm0.cells) (hslots : ks + N ≤ rm0.slots) (hd : decode cc pc = .ok (.newarray .long, 2)) {f : HP → Option α} (hw : wpO ((some (h.new 14 N)).bind f) C) (kk : ∀ h', x.s.heap.size + (kc + 1) = x.w.b + h'.n → wpO (f h') C → Rn x (kc + 1) (ks + N) (pc + 2) lv (rf x.w (some h.n) :: st) h') : Rn x kc ks pc lv (.int n :: st) h := by
  intro H locs ls hl hS hP T' hT X
  have hE := ends hc hx hT hS hP X
  have key : W x.p x.l x.e x.rm x.s x.m x.a x.bl x.mt x.c H locs kc ks x.Q (F0 x.m pc ls (.int n :: st)) := by
    refine va_newaK (atype := .long) hc.1 hc.2.1 (hc.ts _ har) rfl hd rfl hn hN hb (by rw [hc.r]; exact hcells) (by rw [hc.r]; exact hslots) hE (fun H1 cA e1 z1 o1 hAr hNm => ?_)
    have hcA : cA = x.w.cJ := by
      have := (hc.k.1.2 2 (x.w.cJ, .long) rfl).2
      exact Option.some.inj (hNm.symm.trans this)
    subst hcA
    refine kk _ (by rw [HP.new_n]; omega) hw H1 locs ls hl ⟨by omega, fun q h1 h2 => (o1 q (by have := hS.1; omega)).trans (hS.2.1 q h1 h2), hS.2.2⟩ (new_rep hP (fun q hq => o1 q (by omega)) ?_)
    rw [elt_J (by rw [HP.new_K, up_eq]), HP.new_N, HP.new_J, up_eq, up_eq]
    exact e1
  exact key T' hT X
theorem R_newR (hc : Cx x cc own rm0) (hx : x.s.heap.size + kc = x.w.b + h.n) {N idx : Nat} {n : Int32} (hn : ¬ n < 0) (hN : n.toNatClampNeg = N) (hb : N * 4 ≤ 536870912) (hcl : Cond.classLink own idx RX7 ∈ Tg) (hcells : kc + 1 ≤ rm0.cells) (hslots : ks + N ≤ rm0.slots) (hd : decode cc pc = .ok (.anewarray idx, 3)) {f : HP → Option α} (hw : wpO ((some (h.new 15 N)).bind f) C) (kk : ∀ h', x.s.heap.size + (kc + 1) = x.w.b + h'.n → wpO (f h') C → Rn x (kc + 1) (ks + N) (pc + 3) lv (rf x.w (some h.n) :: st) h') : Rn x kc ks pc lv (.int n :: st) h := by
  intro H locs ls hl hS hP T' hT X
  have hE := ends hc hx hT hS hP X
  have key : W x.p x.l x.e x.rm x.s x.m x.a x.bl x.mt x.c H locs kc ks x.Q (F0 x.m pc ls (.int n :: st)) := by
    subst hN
    refine W.anew hc.1 hc.2.1 hc.2.2.2.1 (hc.ts _ hcl) (va_AO.use hc.k.2.1) rfl hd rfl hn hb (by rw [hc.r]; exact hcells) (by rw [hc.r]; exact hslots) (fun cA kA comp f1 f2 f3 f4 => ?_)
    have hcA : cA = x.w.cR := by
      obtain ⟨kA', comp', g1, g2, g3, g4⟩ := (hc.k.1.2 3 (x.w.cR, .object RX7) rfl).2
      first
        | exact Option.some.inj (f1.symm.trans g4)
        | exact Option.some.inj (f4.symm.trans g4)
    subst hcA
    have hf : F0 x.m (pc + 3) ls (rf x.w (some h.n) :: st) = F0 x.m (pc + 3) ls (.ref H.size :: st) := by rw [hE]; rfl
    show W _ _ _ _ _ _ _ _ _ _ _ _ _ _ _ (F0 x.m (pc + 3) ls (.ref H.size :: st))
    rw [← hf]
    refine kk _ (by rw [HP.new_n]; omega) hw _ locs ls hl ⟨?_, fun q h1 h2 => ?_, hS.2.2⟩ (new_rep hP (fun q hq => ?_) ?_)
    · rw [Array.size_push]; have := hS.1; omega
    · have := hS.1
      rw [Array.getElem?_push, if_neg (by omega)]
      exact hS.2.1 q h1 h2
    · rw [Array.getElem?_push, if_neg (by omega)]
    · rw [elt_R (by rw [HP.new_K, up_eq]), HP.new_N, HP.new_R, up_eq, up_eq]
      show (H.push _)[x.w.b + h.n]? = _
      rw [← hE, Array.getElem?_push_size]
      show _ = some (arrV x.w.cR n.toNatClampNeg (fun _ => Value.null))
      rw [← arrV_new]
  exact key T' hT X
theorem R_objInit (hc : Cx x cc own rm0) {idx : Nat} {r : Option Nat} (ml : Cond.methodLink own idx Lib.objectInit ∈ Tg) (hins : Cond.instanceMethod Lib.objectInit ∈ Tg) (hcd : Cond.code Lib.objectInit ⟨#[0xb1]⟩ 1 none ∈ Tg) (hf : 1 ≤ rm0.frames) (hlo : (st.map fun v => v.category).sum + 12 ≤ rm0.locals) {a : Nat} (hr : r = some a) (hd : decode cc pc = .ok (.invokespecial idx, 3)) (k : Rn x kc ks (pc + 3) lv st h) : Rn x kc ks pc lv (rf x.w r :: st) h := by
  subst hr
  intro H locs ls hl hS hP
  exact W.objInit hc.1 hc.2.1 hc.2.2.2.1 (hc.ts _ ml) (hc.ts _ hins) (hc.ts _ hcd) rfl (hl.1.trans hc.2.2.1.symm) rfl hd (by rw [hc.r]; exact hf) (by rw [hc.r]; show 2 * 0 + _ + 12 ≤ _; omega) (k H locs ls hl hS hP)
theorem n_pR {ci k : Nat} {r v : Option Nat} {h' : HP} (e : pR h ci r k v = some h') : h'.n = h.n := by obtain ⟨a, -, -, rfl⟩ := g_some e; rfl
theorem n_pI {ci k : Nat} {r : Option Nat} {v : Int32} {h' : HP} (e : pI h ci r k v = some h') : h'.n = h.n := by obtain ⟨a, -, -, rfl⟩ := g_some e; rfl
theorem n_pZ {ci k : Nat} {r : Option Nat} {v : Int32} {h' : HP} (e : pZ h ci r k v = some h') : h'.n = h.n := by obtain ⟨a, -, -, rfl⟩ := g_some e; rfl
theorem n_sR {i : Int32} {r v : Option Nat} {h' : HP} (e : sR h r i v = some h') : h'.n = h.n := by
  cases r with
  | none => cases e
  | some a =>
  cases v with
  | none => cases e
  | some b => obtain ⟨a, -, -, rfl⟩ := g_some (r := some a) (ok := fun a => okA h 15 a i && okO h 7 b) (e := fun a => h.setR a i.toNatClampNeg (some b)) e; rfl
theorem R_keep {g : Option HP} {f : HP → Option α} {G : HP → Prop} {G0 : Prop} (hn : ∀ h', g = some h' → h'.n = h.n) (row : ∀ {f : HP → Option HP} {C : HP → Prop}, wpO (g.bind f) C → (∀ h', wpO (f h') C → G h') → G0) (hx : x.s.heap.size + kc = x.w.b + h.n) (hw : wpO (g.bind f) C) (kk : ∀ h', x.s.heap.size + kc = x.w.b + h'.n → wpO (f h') C → G h') : G0 := by
  obtain ⟨h', e, hw'⟩ := wpO_bind hw
  refine row (f := some) (C := fun r => r = h') ⟨h', by rw [e]; rfl, rfl⟩ (fun h'' hh => ?_)
  have := wpO_some hh
  subst this
  exact kk _ (by rw [hn _ e]; exact hx) hw'
theorem R_cI (hc : Cx x cc own rm0) (hx : x.s.heap.size + kc = x.w.b + h.n) {As rest : List Value} {a idx mL n mc ms : Nat} {y : MethodName} {b : ByteArray} {rm : Room} {g : Option HP} {f : HP → Option α} (ml : Cond.methodLink own idx y ∈ Tg) (mf : MfC y b mL none n) (hrm : rm.cells = mc ∧ rm.slots = ms) (hR : rm.frames + 1 ≤ rm0.frames ∧ 8 + (mL + 11) + rm.locals ≤ rm0.locals) (hf : kc + mc ≤ rm0.cells ∧ ks + ms ≤ rm0.slots) (hM : ∀ h', g = some h' → MX x.w x.l y b mL rm mc ms (rf x.w (some a) :: As) h h') (hnn : ∀ h', g = some h' → h'.n = h.n + mc) (hn : As.length = n) (hst : st = As.reverse ++ rf x.w (some a) :: rest) (hroom : (rest.map fun v => v.category).sum ≤ 8) (hd : decode cc pc = .ok (.invokespecial idx, 3)) (hw : wpO (g.bind f) C) (kk : ∀ h', x.s.heap.size + (kc + mc) = x.w.b + h'.n → wpO (f h') C → Rn x (kc + mc) (ks + ms) (pc + 3) lv rest h') : Rn x kc ks pc lv st h := by
  obtain ⟨h', e, hw'⟩ := wpO_bind hw
  exact R_afV hc (runI hc hx ml mf hrm hR hf (hM h' e) hn hst hroom hd) (kk h' (by rw [hnn _ e]; omega) hw')
theorem R_cIN (hc : Cx x cc own rm0) (hx : x.s.heap.size + kc = x.w.b + h.n) {As rest : List Value} {a idx mL n mc ms : Nat} {y : MethodName} {b : ByteArray} {rm : Room} {g : Option HP} {f : HP → Option α} (ml : Cond.methodLinkNest own idx y host ∈ nestW) (mf : MfC y b mL none n) (hrm : rm.cells = mc ∧ rm.slots = ms) (hR : rm.frames + 1 ≤ rm0.frames ∧ 8 + (mL + 11) + rm.locals ≤ rm0.locals) (hf : kc + mc ≤ rm0.cells ∧ ks + ms ≤ rm0.slots) (hM : ∀ h', g = some h' → MX x.w x.l y b mL rm mc ms (rf x.w (some a) :: As) h h') (hnn : ∀ h', g = some h' → h'.n = h.n + mc) (hn : As.length = n) (hst : st = As.reverse ++ rf x.w (some a) :: rest) (hroom : (rest.map fun v => v.category).sum ≤ 8) (hd : decode cc pc = .ok (.invokespecial idx, 3)) (hw : wpO (g.bind f) C) (kk : ∀ h', x.s.heap.size + (kc + mc) = x.w.b + h'.n → wpO (f h') C → Rn x (kc + mc) (ks + ms) (pc + 3) lv rest h') : Rn x kc ks pc lv st h := by
  obtain ⟨h', e, hw'⟩ := wpO_bind hw
  exact R_afV hc (runIN hc hx ml mf hrm hR hf (hM h' e) hn hst hroom hd) (kk h' (by rw [hnn _ e]; omega) hw')
theorem R_icmp_geC (hc : Cx x cc own rm0) {X Y : Option α} {a b : Int32} {off : Int} {tgt : Nat} (hd : decode cc pc = .ok (.if_icmp .ge off, 3)) (ht : (pc : Int) + off = (tgt : Int)) (hw : wpO (if b ≤ a then X else Y) C) (k1 : b ≤ a → wpO X C → Rn x kc ks tgt lv st h) (k2 : ¬ b ≤ a → wpO Y C → Rn x kc ks (pc + 3) lv st h) : Rn x kc ks pc lv (.int b :: .int a :: st) h := fun H locs ls hl hS hP => lv_icmp_ge hc.1 hc.2.1 hd ht (fun hh => k1 hh ((wpO_if hw).1 hh) H locs ls hl hS hP) (fun hh => k2 hh ((wpO_if hw).2 hh) H locs ls hl hS hP)
theorem n_new {kd len : Nat} {h' : HP} (e : some (h.new kd len) = some h') : h'.n = h.n + 1 := by cases e; rfl
theorem bd {β γ : Type} {o : Option β} {f : β → Option γ} {r : γ} (e : o.bind f = some r) : ∃ a, o = some a ∧ f a = some r := by
  cases o with
  | none => cases e
  | some a => exact ⟨a, rfl, e⟩
end
