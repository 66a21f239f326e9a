theorem tg_all {args : Array Value} {s : State} (hts : ∀ w ∈ lw_tbl, w.before args s = true) : ∀ w ∈ Tg, w.before args s = true := by
  intro w hw
  refine hts w ?_
  unfold Tg at hw
  unfold lw_tbl
  rcases List.mem_append.mp hw with h | h
  · exact List.mem_append.mpr (Or.inl (List.mem_filter.mp h).1)
  · exact List.mem_append.mpr (Or.inr (List.mem_filter.mp h).1)
theorem arr_of {args : Array Value} {s : State} {ty : FieldType} (h : (Cond.arrayClass ty).before args s = true) : ∃ c : ClassId, ArrOfT s c ty ∧ s.vm.findClass ("[" ++ ty.toString) = some c := by
  obtain ⟨c, k, comp, h1, h2, h3⟩ := Cond.arrayClass_spec (args := args) (first := s) (o := none) (idx := []) h
  exact ⟨c, fun N z => ⟨(fun k h => by cases h), k, h2, comp, h3⟩, h1⟩
theorem arrO_of {args : Array Value} {s : State} {C : String} (h : (Cond.arrayOver (.object C)).before args s = true) : ∃ c : ClassId, ArrOfT s c (.object C) ∧ va_RA s c (.object C) := by
  obtain ⟨comp, c, k, h1, h2, h3, h4, h5⟩ := Cond.arrayOver_spec (args := args) (first := s) (o := none) (idx := []) h
  exact ⟨c, fun N z => ⟨(fun k h => by cases h), k, h3, comp, h4⟩, k, comp, h3, h4, h1, h5⟩
theorem kn_at {s : State} {args : Array Value} (hts : ∀ w ∈ lw_tbl, w.before args s = true) : ∃ (D : va_G) (cB cI cJ cR : ClassId), va_K D vwCl [(cB, .byte), (cI, .int), (cJ, .long), (cR, .object RX7)] s ∧ va_AO RX7 s ∧ ∀ x ∈ nestW, va_Nw x s := by
  have hg := tg_all hts
  obtain ⟨c0, i0, k0⟩ := u_known hg inT0 (hg _ ins_0)
  obtain ⟨c1, i1, k1⟩ := u_known hg inT1 (hg _ ins_1)
  obtain ⟨c2, i2, k2⟩ := u_known hg inT2 (hg _ ins_2)
  obtain ⟨c3, i3, k3⟩ := u_known hg inT3 (hg _ ins_3)
  obtain ⟨c4, i4, k4⟩ := u_known hg inT4 (hg _ ins_4)
  obtain ⟨c5, i5, k5⟩ := u_known hg inT5 (hg _ ins_5)
  obtain ⟨c6, i6, k6⟩ := u_known hg inT6 (hg _ ins_6)
  obtain ⟨c7, i7, k7⟩ := u_known hg inT7 (hg _ ins_7)
  obtain ⟨c8, i8, k8⟩ := u_known hg inT8 (hg _ ins_8)
  obtain ⟨c9, i9, k9⟩ := u_known hg inT9 (hg _ ins_9)
  obtain ⟨c10, i10, k10⟩ := u_known hg inT10 (hg _ ins_10)
  obtain ⟨c11, i11, k11⟩ := u_known hg inT11 (hg _ ins_11)
  obtain ⟨cB, b1, b2⟩ := arr_of (hg _ ar_byte)
  obtain ⟨cI, j1, j2⟩ := arr_of (hg _ ar_int)
  obtain ⟨cJ, l1, l2⟩ := arr_of (hg _ ar_long)
  have ho : (Cond.arrayOver (.object RX7)).before args s = true := hts _ (by decide +kernel)
  obtain ⟨cR, r1, r2⟩ := arrO_of ho
  refine ⟨(fun c => ([c0, c1, c2, c3, c4, c5, c6, c7, c8, c9, c10, c11] : List ClassId).getD c c0, fun c => ([i0, i1, i2, i3, i4, i5, i6, i7, i8, i9, i10, i11] : List (Nat → Nat)).getD c i0), cB, cI, cJ, cR, ⟨?_, ?_⟩, va_AO.of ho, ?_⟩
  · intro c q hq
    match c, hq with
    | 0, hq => cases hq; exact k0
    | 1, hq => cases hq; exact k1
    | 2, hq => cases hq; exact k2
    | 3, hq => cases hq; exact k3
    | 4, hq => cases hq; exact k4
    | 5, hq => cases hq; exact k5
    | 6, hq => cases hq; exact k6
    | 7, hq => cases hq; exact k7
    | 8, hq => cases hq; exact k8
    | 9, hq => cases hq; exact k9
    | 10, hq => cases hq; exact k10
    | 11, hq => cases hq; exact k11
    | c + 12, hq => simp [vwCl] at hq
  · intro k q hq
    match k, hq with
    | 0, hq => cases hq; exact ⟨b1, b2⟩
    | 1, hq => cases hq; exact ⟨j1, j2⟩
    | 2, hq => cases hq; exact ⟨l1, l2⟩
    | 3, hq => cases hq; exact ⟨r1, r2⟩
    | k + 4, hq => simp at hq
  · intro x hx
    have hm : ∀ x ∈ nestW, x ∈ lw_tbl := by decide +kernel
    exact va_Nw.of (List.all_eq_true.mp nestW_tab x hx) (hts x (hm x hx))
/-- a text of the class, by its words -/
theorem str_one {args : Array Value} {s : State} {tm : Term} {len : Nat} {byt : List Int32} {A : Nat → Prop} (hN : len < 2 ^ 31) (hex : (Cond.exactly tm "java/lang/String").before args s = true) (hco : (Cond.eq (.field tm "java/lang/String" "coder" "B") (.int 0)).before args s = true)
    (har : (Cond.arrayOf (.field tm "java/lang/String" "value" "[B") .byte).before args s = true) (hle : (Cond.eq (.length (.field tm "java/lang/String" "value" "[B")) (.int (Int32.ofNat len))).before args s = true)
    (hel : ∀ j : Nat, j < len → (Cond.eq (.elem (.field tm "java/lang/String" "value" "[B") (.int (Int32.ofNat j))) (.int (byt.getD j 0))).before args s = true) (hA : ∀ a : Nat, a < s.heap.size → ¬ A a) :
    ∃ k v : Nat, tm.eval args s none [] s = some (.ref k) ∧ va_O "java/lang/String" k A s s.heap ∧ va_OF "java/lang/String" "coder" "B" (.int 0) k A s s.heap ∧ va_OF "java/lang/String" "value" "[B" (.ref v) k A s s.heap ∧ va_T .byte v len (fun j => .int (byt.getD j 0)) A s s.heap := by
  have z : ∀ i : Nat, i < 1 → i = 0 := fun i hi => by omega
  have g1 : ∀ i : Nat, i < 1 → [len].getD i 0 < 2 ^ 31 := fun i hi => by rw [z i hi]; exact hN
  have g2 : ∀ i : Nat, i < 1 → (Cond.eq (.length (.field tm "java/lang/String" "value" "[B")) (.int (Int32.ofNat ([len].getD i 0)))).before args s = true := fun i hi => by rw [z i hi]; exact hle
  have g3 : ∀ i : Nat, i < 1 → ∀ j : Nat, j < [len].getD i 0 → (Cond.eq (.elem (.field tm "java/lang/String" "value" "[B") (.int (Int32.ofNat j))) (.int (([byt].getD i []).getD j 0))).before args s = true := fun i hi => by rw [z i hi]; exact hel
  obtain ⟨adK, adV, h1, h2⟩ := vk_Sof (N := 1) (tm := fun _ => tm) (len := [len]) (byt := [byt]) (A := A) (s := s) (args := args) g1 (fun i _ => hex) (fun i _ => hco) (fun i _ => har) g2 g3 (fun i j hi hj hij => absurd (by omega : i = j) hij) hA
  obtain ⟨p1, p2, p3, p4⟩ := h1.1 0 (by omega)
  exact ⟨adK 0, adV 0, h2 0 (by omega), p1, p2, p3, p4⟩
theorem OF_fn {o n d : String} {v u : Value} {t : Nat} {A : Nat → Prop} {U : State} {H : Heap} (h1 : va_OF o n d v t A U H) (h2 : va_OF o n d u t A U H) : v = u := by
  obtain ⟨cf, k, i, f, cell, a1, a2, a3, a4, a5, a6⟩ := h1
  obtain ⟨cf', k', i', f', cell', b1, b2, b3, b4, b5, b6⟩ := h2
  rw [a1] at b1
  cases b1
  rw [a3] at b3
  cases b3
  rw [a5] at b5
  cases b5
  rfl
theorem T_fn {ty : FieldType} {t N M : Nat} {f g : Nat → Value} {A : Nat → Prop} {U : State} {H : Heap} (h1 : va_T ty t N f A U H) (h2 : va_T ty t M g A U H) (hN : N < 100) (hM : M < 100) : N = M ∧ ∀ j, j < N → f j = g j := by
  obtain ⟨cell, a1, a2, a3, a4, a5, a6, a7⟩ := h1
  obtain ⟨cell', b1, b2, b3, b4, b5, b6, b7⟩ := h2
  rw [a1] at b1
  cases b1
  have e : N = M := by
    rw [a5] at b5
    have e1 := congrArg Int32.toInt b5
    rw [ofNat_toI (by omega), ofNat_toI (by omega)] at e1
    omega
  subst e
  refine ⟨rfl, fun j hj => ?_⟩
  have c1 := a6 j hj
  have c2 := b6 j hj
  rw [c1] at c2
  exact Option.some.inj c2
theorem strs_at {args : Array Value} {s : State} {A : Nat → Prop} (hs : ∀ c ∈ flatC (Jvm.Cond.and given_1 narrow_1), c.before args s = true) (hA : ∀ a : Nat, a < s.heap.size → ¬ A a) : ∃ aS aV : Nat → Nat, vk_S 8 lenS bytS aS aV A s s.heap ∧ (Term.string RX8 33).eval args s none [] s = some (.ref (aS 0)) ∧ (Term.string RX8 64).eval args s none [] s = some (.ref (aS 1)) ∧ (Term.string RX8 73).eval args s none [] s = some (.ref (aS 2)) ∧ (Term.string RX8 82).eval args s none [] s = some (.ref (aS 3)) ∧ (Term.string RX8 87).eval args s none [] s = some (.ref (aS 4)) ∧ (Term.string RX8 103).eval args s none [] s = some (.ref (aS 5)) ∧ (Term.string RX8 105).eval args s none [] s = some (.ref (aS 6)) ∧ (Term.string RX8 107).eval args s none [] s = some (.ref (aS 7)) := by
  have w0 : ∃ k v : Nat, (Term.string RX8 33).eval args s none [] s = some (.ref k) ∧ va_O "java/lang/String" k A s s.heap ∧ va_OF "java/lang/String" "coder" "B" (.int 0) k A s s.heap ∧ va_OF "java/lang/String" "value" "[B" (.ref v) k A s s.heap ∧ va_T .byte v (lenS.getD 0 0) (fun j => .int ((bytS.getD 0 []).getD j 0)) A s s.heap := by
    refine str_one (len := lenS.getD 0 0) (byt := bytS.getD 0 []) (by decide) (hs _ (by decide +kernel)) (hs _ (by decide +kernel)) (hs _ (by decide +kernel)) (hs _ (by decide +kernel)) (fun j hj => ?_) hA
    match j, hj with
    | 0, _ => exact hs _ (by decide +kernel)
    | 1, _ => exact hs _ (by decide +kernel)
    | 2, _ => exact hs _ (by decide +kernel)
    | 3, _ => exact hs _ (by decide +kernel)
    | j + 4, hj => exact absurd hj (by show ¬ (j + 4 < 4); omega)
  have w1 : ∃ k v : Nat, (Term.string RX8 64).eval args s none [] s = some (.ref k) ∧ va_O "java/lang/String" k A s s.heap ∧ va_OF "java/lang/String" "coder" "B" (.int 0) k A s s.heap ∧ va_OF "java/lang/String" "value" "[B" (.ref v) k A s s.heap ∧ va_T .byte v (lenS.getD 1 0) (fun j => .int ((bytS.getD 1 []).getD j 0)) A s s.heap := by
    refine str_one (len := lenS.getD 1 0) (byt := bytS.getD 1 []) (by decide) (hs _ (by decide +kernel)) (hs _ (by decide +kernel)) (hs _ (by decide +kernel)) (hs _ (by decide +kernel)) (fun j hj => ?_) hA
    match j, hj with
    | 0, _ => exact hs _ (by decide +kernel)
    | 1, _ => exact hs _ (by decide +kernel)
    | 2, _ => exact hs _ (by decide +kernel)
    | 3, _ => exact hs _ (by decide +kernel)
    | j + 4, hj => exact absurd hj (by show ¬ (j + 4 < 4); omega)
  have w2 : ∃ k v : Nat, (Term.string RX8 73).eval args s none [] s = some (.ref k) ∧ va_O "java/lang/String" k A s s.heap ∧ va_OF "java/lang/String" "coder" "B" (.int 0) k A s s.heap ∧ va_OF "java/lang/String" "value" "[B" (.ref v) k A s s.heap ∧ va_T .byte v (lenS.getD 2 0) (fun j => .int ((bytS.getD 2 []).getD j 0)) A s s.heap := by
    refine str_one (len := lenS.getD 2 0) (byt := bytS.getD 2 []) (by decide) (hs _ (by decide +kernel)) (hs _ (by decide +kernel)) (hs _ (by decide +kernel)) (hs _ (by decide +kernel)) (fun j hj => ?_) hA
    match j, hj with
    | 0, _ => exact hs _ (by decide +kernel)
    | 1, _ => exact hs _ (by decide +kernel)
    | 2, _ => exact hs _ (by decide +kernel)
    | 3, _ => exact hs _ (by decide +kernel)
    | j + 4, hj => exact absurd hj (by show ¬ (j + 4 < 4); omega)
  have w3 : ∃ k v : Nat, (Term.string RX8 82).eval args s none [] s = some (.ref k) ∧ va_O "java/lang/String" k A s s.heap ∧ va_OF "java/lang/String" "coder" "B" (.int 0) k A s s.heap ∧ va_OF "java/lang/String" "value" "[B" (.ref v) k A s s.heap ∧ va_T .byte v (lenS.getD 3 0) (fun j => .int ((bytS.getD 3 []).getD j 0)) A s s.heap := by
    refine str_one (len := lenS.getD 3 0) (byt := bytS.getD 3 []) (by decide) (hs _ (by decide +kernel)) (hs _ (by decide +kernel)) (hs _ (by decide +kernel)) (hs _ (by decide +kernel)) (fun j hj => ?_) hA
    match j, hj with
    | 0, _ => exact hs _ (by decide +kernel)
    | 1, _ => exact hs _ (by decide +kernel)
    | 2, _ => exact hs _ (by decide +kernel)
    | j + 3, hj => exact absurd hj (by show ¬ (j + 3 < 3); omega)
  have w4 : ∃ k v : Nat, (Term.string RX8 87).eval args s none [] s = some (.ref k) ∧ va_O "java/lang/String" k A s s.heap ∧ va_OF "java/lang/String" "coder" "B" (.int 0) k A s s.heap ∧ va_OF "java/lang/String" "value" "[B" (.ref v) k A s s.heap ∧ va_T .byte v (lenS.getD 4 0) (fun j => .int ((bytS.getD 4 []).getD j 0)) A s s.heap := by
    refine str_one (len := lenS.getD 4 0) (byt := bytS.getD 4 []) (by decide) (hs _ (by decide +kernel)) (hs _ (by decide +kernel)) (hs _ (by decide +kernel)) (hs _ (by decide +kernel)) (fun j hj => ?_) hA
    match j, hj with
    | 0, _ => exact hs _ (by decide +kernel)
    | 1, _ => exact hs _ (by decide +kernel)
    | 2, _ => exact hs _ (by decide +kernel)
    | 3, _ => exact hs _ (by decide +kernel)
    | 4, _ => exact hs _ (by decide +kernel)
    | j + 5, hj => exact absurd hj (by show ¬ (j + 5 < 5); omega)
  have w5 : ∃ k v : Nat, (Term.string RX8 103).eval args s none [] s = some (.ref k) ∧ va_O "java/lang/String" k A s s.heap ∧ va_OF "java/lang/String" "coder" "B" (.int 0) k A s s.heap ∧ va_OF "java/lang/String" "value" "[B" (.ref v) k A s s.heap ∧ va_T .byte v (lenS.getD 5 0) (fun j => .int ((bytS.getD 5 []).getD j 0)) A s s.heap := by
    refine str_one (len := lenS.getD 5 0) (byt := bytS.getD 5 []) (by decide) (hs _ (by decide +kernel)) (hs _ (by decide +kernel)) (hs _ (by decide +kernel)) (hs _ (by decide +kernel)) (fun j hj => ?_) hA
    match j, hj with
    | 0, _ => exact hs _ (by decide +kernel)
    | 1, _ => exact hs _ (by decide +kernel)
    | j + 2, hj => exact absurd hj (by show ¬ (j + 2 < 2); omega)
  have w6 : ∃ k v : Nat, (Term.string RX8 105).eval args s none [] s = some (.ref k) ∧ va_O "java/lang/String" k A s s.heap ∧ va_OF "java/lang/String" "coder" "B" (.int 0) k A s s.heap ∧ va_OF "java/lang/String" "value" "[B" (.ref v) k A s s.heap ∧ va_T .byte v (lenS.getD 6 0) (fun j => .int ((bytS.getD 6 []).getD j 0)) A s s.heap := by
    refine str_one (len := lenS.getD 6 0) (byt := bytS.getD 6 []) (by decide) (hs _ (by decide +kernel)) (hs _ (by decide +kernel)) (hs _ (by decide +kernel)) (hs _ (by decide +kernel)) (fun j hj => ?_) hA
    match j, hj with
    | 0, _ => exact hs _ (by decide +kernel)
    | 1, _ => exact hs _ (by decide +kernel)
    | 2, _ => exact hs _ (by decide +kernel)
    | j + 3, hj => exact absurd hj (by show ¬ (j + 3 < 3); omega)
  have w7 : ∃ k v : Nat, (Term.string RX8 107).eval args s none [] s = some (.ref k) ∧ va_O "java/lang/String" k A s s.heap ∧ va_OF "java/lang/String" "coder" "B" (.int 0) k A s s.heap ∧ va_OF "java/lang/String" "value" "[B" (.ref v) k A s s.heap ∧ va_T .byte v (lenS.getD 7 0) (fun j => .int ((bytS.getD 7 []).getD j 0)) A s s.heap := by
    refine str_one (len := lenS.getD 7 0) (byt := bytS.getD 7 []) (by decide) (hs _ (by decide +kernel)) (hs _ (by decide +kernel)) (hs _ (by decide +kernel)) (hs _ (by decide +kernel)) (fun j hj => ?_) hA
    match j, hj with
    | 0, _ => exact hs _ (by decide +kernel)
    | 1, _ => exact hs _ (by decide +kernel)
    | 2, _ => exact hs _ (by decide +kernel)
    | 3, _ => exact hs _ (by decide +kernel)
    | j + 4, hj => exact absurd hj (by show ¬ (j + 4 < 4); omega)
  obtain ⟨k0, v0, e0, p0⟩ := w0
  obtain ⟨k1, v1, e1, p1⟩ := w1
  obtain ⟨k2, v2, e2, p2⟩ := w2
  obtain ⟨k3, v3, e3, p3⟩ := w3
  obtain ⟨k4, v4, e4, p4⟩ := w4
  obtain ⟨k5, v5, e5, p5⟩ := w5
  obtain ⟨k6, v6, e6, p6⟩ := w6
  obtain ⟨k7, v7, e7, p7⟩ := w7
  refine ⟨fun i => [k0, k1, k2, k3, k4, k5, k6, k7].getD i 0, fun i => [v0, v1, v2, v3, v4, v5, v6, v7].getD i 0, ⟨?_, ?_⟩, e0, e1, e2, e3, e4, e5, e6, e7⟩
  · intro i hi
    match i, hi with
    | 0, _ => exact p0
    | 1, _ => exact p1
    | 2, _ => exact p2
    | 3, _ => exact p3
    | 4, _ => exact p4
    | 5, _ => exact p5
    | 6, _ => exact p6
    | 7, _ => exact p7
    | i + 8, hi => exact absurd hi (by omega)
  · have key : ∀ i, i < 8 → va_OF "java/lang/String" "value" "[B" (.ref ([v0, v1, v2, v3, v4, v5, v6, v7].getD i 0)) ([k0, k1, k2, k3, k4, k5, k6, k7].getD i 0) A s s.heap ∧ va_T .byte ([v0, v1, v2, v3, v4, v5, v6, v7].getD i 0) (lenS.getD i 0) (fun j => .int ((bytS.getD i []).getD j 0)) A s s.heap := by
      intro i hi
      match i, hi with
      | 0, _ => exact ⟨p0.2.2.1, p0.2.2.2⟩
      | 1, _ => exact ⟨p1.2.2.1, p1.2.2.2⟩
      | 2, _ => exact ⟨p2.2.2.1, p2.2.2.2⟩
      | 3, _ => exact ⟨p3.2.2.1, p3.2.2.2⟩
      | 4, _ => exact ⟨p4.2.2.1, p4.2.2.2⟩
      | 5, _ => exact ⟨p5.2.2.1, p5.2.2.2⟩
      | 6, _ => exact ⟨p6.2.2.1, p6.2.2.2⟩
      | 7, _ => exact ⟨p7.2.2.1, p7.2.2.2⟩
      | i + 8, hi => exact absurd hi (by omega)
    intro i j hi hj e
    obtain ⟨a1, a2⟩ := key i hi
    obtain ⟨b1, b2⟩ := key j hj
    have e : [k0, k1, k2, k3, k4, k5, k6, k7].getD i 0 = [k0, k1, k2, k3, k4, k5, k6, k7].getD j 0 := e
    rw [e] at a1
    have e1 := OF_fn a1 b1
    rw [Value.ref.injEq] at e1
    rw [e1] at a2
    have hl : ∀ i, i < 8 → lenS.getD i 0 < 100 := by decide
    obtain ⟨q1, q2⟩ := T_fn a2 b2 (hl i hi) (hl j hj)
    have q3 : ∀ k, k < lenS.getD i 0 → (bytS.getD i []).getD k 0 = (bytS.getD j []).getD k 0 := by
      intro k hk
      have := q2 k hk
      simpa using this
    have dec : ∀ i, i < 8 → ∀ j, j < 8 → lenS.getD i 0 = lenS.getD j 0 → (∀ k, k < lenS.getD i 0 → (bytS.getD i []).getD k 0 = (bytS.getD j []).getD k 0) → i = j := by decide +kernel
    exact dec i hi j hj q1 q3
/-! THE CLAIM OUT OF ONE WALK OF THE LAW'S BODY. Your part is whole_start (and what it stands on); all else here is the same for every law, but numbers. -/
def R_law : String := "FingerRowsLaw"
def lw_P (b : Addr) (xs : List Int32) (args : Array Value) (s : State) : Prop := args = #[.ref b] ∧ s.IntsAt b xs ∧ xs.length ≤ 3072 ∧ (Jvm.Cond.and given_1 narrow_1).before args s = true
def lw_Q (_ : Array Value) (s : State) (o : Outcome) (t : State) : Prop := o = .returned (some (.int 1)) ∧ Framed s o t [] 601024 7293034
def lw_Z (below : List Frame) (a : Array Value) (s : State) : State → Prop := fun t => ∃ o, t.status = .running ∧ Ended t below o ∧ lw_Q a s o t
/-- the law's own end, with 1 on the stack, nothing written that was there before, its room as the claim has it -/
theorem lw_ret {p : Program} {l : Launch} {e : Env} {s : State} {m : MethodId} {below : List Frame} {meth : Method} {c : Code} {b : Nat} (hx : p.tables.exec = Jvm.exec) (hb : c.code = code) (hr : meth.sig.returnType = ret) (hlocks : meth.locks = false) {pc : Nat} {H : Heap} {ls : Array Slot} (hdg : decode code pc = .ok (.ireturn, 1)) : W p l e room_1 s m #[Value.ref b] below meth c H [] 601024 7293034 (lw_Z below #[Value.ref b] s) (F0 m pc ls [.int 1]) := by
  intro T hT X
  obtain ⟨fs, hret, hrun, hended, hW, hframe⟩ := X.leave (v := some (.int 1)) (hlocks := hlocks) (fun h => by rw [hr] at h; cases h)
  have hmeth' : T.vm.method? m = some meth := X.method'
  refine ⟨T.setFrames fs, ?_, .returned (some (.int 1)), hrun, hended, rfl, ⟨_, rfl⟩, hW, hframe⟩
  jvm_step X.here [X.here.top, hx, hb, hdg, hmeth', hr, ret, narrow_b1]
  (try refine ⟨rfl, ?_⟩); (try refine ⟨rfl, ?_⟩)
  first | (intro acts; rw [hret _ acts rfl rfl rfl]) | rw [hret _ _ rfl rfl rfl]
  exact Steps.refl _
/-- what holds at the law's entry: the machine, the code, the tables' words (any of lw_tbl by 'hts w (by decide +kernel)'), the script of L ints xs at the cell b, what the Statement gives of the start (any of its parts by flat_of_before) -/
def lw_At (p : Program) (s : State) (m : MethodId) (meth : Method) (c : Code) (b L : Nat) (xs : Nat → Int32) : Prop :=
  p.tables.exec = Jvm.exec ∧ c.code = code ∧ meth.sig.returnType = ret ∧ c.maxLocals = 8 ∧ s.vm.findClass R_law = some m.cls ∧ (∀ w ∈ lw_tbl, w.before #[Value.ref b] s = true) ∧ va_X b L xs s s.heap ∧ b < s.heap.size ∧ meth.locks = false ∧ (Jvm.Cond.and given_1 narrow_1).before #[Value.ref b] s = true
theorem sk_at {args : Array Value} {s : State} (hts : ∀ w ∈ lw_tbl, w.before args s = true) (hgv : (Jvm.Cond.and given_1 narrow_1).before args s = true) : ∃ aS aV : Nat → Nat, ∀ (D : va_G) (cs : ClassId × ClassId × ClassId × ClassId), Sk (s.heap.size, D, cs, aS, aV) s s.heap := by
  have hs := flat_of_before _ hgv
  have hA : ∀ a : Nat, a < s.heap.size → ¬ (fun q => s.heap.size ≤ q) a := fun a h q => Nat.not_le_of_lt h q
  obtain ⟨aS, aV, h1, t0, t1, t2, t3, t4, t5, t6, t7⟩ := strs_at hs hA
  have u0 : (Term.string RX11 283).eval args s none [] s = some (.ref (aS 0)) := va_eqR (t := Term.string RX8 33) (hs _ (by decide +kernel)) t0
  have u1 : (Term.string RX11 263).eval args s none [] s = some (.ref (aS 1)) := va_eqR (t := Term.string RX8 64) (hs _ (by decide +kernel)) t1
  have u2 : (Term.string RX11 268).eval args s none [] s = some (.ref (aS 2)) := va_eqR (t := Term.string RX8 73) (hs _ (by decide +kernel)) t2
  have u3 : (Term.string RX11 273).eval args s none [] s = some (.ref (aS 3)) := va_eqR (t := Term.string RX8 82) (hs _ (by decide +kernel)) t3
  have u4 : (Term.string RX11 278).eval args s none [] s = some (.ref (aS 4)) := va_eqR (t := Term.string RX8 87) (hs _ (by decide +kernel)) t4
  have u5 : (Term.string RX11 253).eval args s none [] s = some (.ref (aS 5)) := va_eqR (t := Term.string RX8 103) (hs _ (by decide +kernel)) t5
  have u6 : (Term.string RX11 259).eval args s none [] s = some (.ref (aS 6)) := va_eqR (t := Term.string RX8 105) (hs _ (by decide +kernel)) t6
  have u7 : (Term.string RX11 261).eval args s none [] s = some (.ref (aS 7)) := va_eqR (t := Term.string RX8 107) (hs _ (by decide +kernel)) t7
  refine ⟨aS, aV, fun D cs => ⟨h1, va_Zof (v := .int 1) (hts _ (by decide +kernel)) (hts _ (by decide +kernel)) (va_eqt (hs _ (by decide +kernel))) hA, va_Zqof (hts _ (by decide +kernel)) (hts _ (by decide +kernel)) (hs _ (by decide +kernel)) hA, vx_Zqof (hts _ (by decide +kernel)) (hts _ (by decide +kernel)) (hs _ (by decide +kernel)) hA, vx_Zqof (hts _ (by decide +kernel)) (hts _ (by decide +kernel)) (hs _ (by decide +kernel)) hA, ?_, ?_, ?_, ?_⟩⟩
  · have key : ∀ q ∈ strR, q.2.2.2 < 8 ∧ Cond.stringRef q.1 q.2.1 q.2.2.1 ∈ lw_tbl := by decide +kernel
    have ev : ∀ q ∈ strR, (Term.string q.1 q.2.1).eval args s none [] s = some (.ref (aS q.2.2.2)) := by
      intro q hq
      simp only [strR, List.mem_cons, List.not_mem_nil, or_false] at hq
      rcases hq with rfl | rfl | rfl | rfl | rfl | rfl | rfl | rfl | rfl | rfl | rfl | rfl | rfl | rfl | rfl | rfl
      · exact t0
      · exact t1
      · exact t2
      · exact t3
      · exact t4
      · exact t5
      · exact t6
      · exact t7
      · exact u5
      · exact u6
      · exact u7
      · exact u1
      · exact u2
      · exact u3
      · exact u4
      · exact u0
    exact fun q hq => vk_R.of (hts _ (key q hq).2) (ev q hq)
  · have key : ∀ q ∈ msgR, Cond.stringRef RX10 q.1 q.2 ∈ lw_tbl ∧ Cond.exactly (Term.string RX10 q.1) "java/lang/String" ∈ flatC (Jvm.Cond.and given_1 narrow_1) := by decide +kernel
    intro q hq
    obtain ⟨a, c, cA, kA, q1, -⟩ := Cond.exactly_spec (args := args) (first := s) (o := none) (s := s) (idx := []) (hs _ (key q hq).2)
    exact ⟨a, vk_R.of (hts _ (key q hq).1) q1⟩
  · have hm : ∀ x ∈ xW, x ∈ lw_tbl := by decide +kernel
    exact fun c hc => va_Nw.of (List.all_eq_true.mp xW_tab c hc) (hts c (hm c hc))
  · have key : ∀ q ∈ ncW, Cond.not (.castable q.1 q.2) ∈ flatC (Jvm.Cond.and given_1 narrow_1) := by decide +kernel
    exact fun q hq => va_Nc.of (hs _ (key q hq))
theorem codeL : cL_law = code := rfl
/-- the claim's walk, out of what holds of the two -/
theorem whole_walk {p : Program} {e : Env} {s : State} {m : MethodId} {below : List Frame} {meth : Method} {c : Code} (l : Launch) (hflags : l.flags = flags0) {b L : Nat} {xs : Nat → Int32} (hL : L ≤ 3072) (C0 : lw_At p s m meth c b L xs) {F : Nat} {Inv : HP → Prop} (hG : Goods F L xs Inv) (h0 : wpO (sL0 F) Inv) : W p l e room_1 s m #[Value.ref b] below meth c s.heap [] 0 0 (lw_Z below #[Value.ref b] s) (entryFrame m ([Value.ref b] : List Value).toArray 8) := by
  obtain ⟨hx, hcd, hret, hml, hown, hts, hX, hb, hlk, hgv⟩ := C0
  obtain ⟨D, cB, cI, cJ, cR, hK, hAO, hN⟩ := kn_at hts
  obtain ⟨aS, aV, hSk⟩ := sk_at hts hgv
  have hSk := hSk D (cB, cI, cJ, cR)
  have hlt : l.stackTraces = false := by unfold Launch.stackTraces; rw [hflags]; decide
  have hc : Cx ((s.heap.size, D, (cB, cI, cJ, cR), aS, aV), 8, lw_Z below #[Value.ref b] s, p, l, e, room_1, s, m, #[Value.ref b], below, meth, c) cL_law RL room_1 := ⟨hx, hcd, hml, hown, tg_all hts, ⟨hK, hAO, hN⟩, hSk, Nat.le_refl _, hlk, rfl⟩
  have hsc : Scr ((s.heap.size, D, (cB, cI, cJ, cR), aS, aV), 8, lw_Z below #[Value.ref b] s, p, l, e, room_1, s, m, #[Value.ref b], below, meth, c) b L xs := ⟨hX, hb, fun q => Nat.not_le_of_lt hb q⟩
  have key := law_start hc hlt (fun i h => h) rfl hL hsc hG h0 ?_
  · have hl := lv_entry [Value.ref b] (n := 8) (by simp [lg_sl, cat_a])
    rw [lg_entry_eq]
    generalize (lg_sl [Value.ref b] ++ List.replicate (8 - (lg_sl [Value.ref b]).length) Slot.unset).toArray = ls at hl ⊢
    refine key s.heap [] ls ?_ va_S.rf ?_
    · show lv_has ls 8 [(0, Value.ref b)]
      simpa [lv_args, cat_a] using hl
    · intro k q hq
      simp [wsO, h00, HP.n] at hq
  · intro kc ks i h h1 h2 H locs ls hl hS hP
    refine va_forget hS.2.2 ?_
    refine W.widen h1 h2 ?_
    exact lw_ret hx hcd hret hlk dL_law_1902
