theorem cl_L_8 : Cond.classLink RL 8 RX10 ∈ Tg := tg_in 26 tables_1_1 (fun _ h => tb1 h) rfl rfl
theorem cl_L_89 : Cond.classLink RL 89 RX11 ∈ Tg := tg_in 44 tables_1_6 (fun _ h => tb6 h) rfl rfl
theorem ml_L_88 : Cond.methodLink RL 88 yX10_init ∈ Tg := tg_in 28 tables_1_1 (fun _ h => tb1 h) rfl rfl
theorem ml_L_91 : Cond.methodLink RL 91 yX11_init ∈ Tg := tg_in 46 tables_1_6 (fun _ h => tb6 h) rfl rfl
/-- nothing made yet -/
def h00 : HP := (0, fun _ => 0, fun _ => 0, fun _ _ => 0, fun _ _ => 0, fun _ _ => none)
def ckn (o : Option HP) (k : Nat) : Option HP := o.bind fun h => if h.n = k then some h else none
theorem ckn_of {o : Option HP} {k : Nat} {h : HP} (e : ckn o k = some h) : o = some h ∧ h.n = k := by
  unfold ckn at e
  cases o with
  | none => cases e
  | some a =>
    by_cases hk : a.n = k
    · simp only [Option.bind_some, if_pos hk] at e
      cases e
      exact ⟨rfl, hk⟩
    · simp only [Option.bind_some, if_neg hk] at e
      cases e
/-- what the law makes ahead of its loop -/
def sL0 (F : Nat) : Option HP :=
  (some (h00.new 10 15)).bind fun h1 =>
  (ckn (sX10_init F 0 h1) 108).bind fun h2 =>
  (some (h2.new 11 41)).bind fun h3 =>
  (ckn (sX11_init F 108 h3) 136).bind fun h4 =>
  (some (h4.new 14 1)).bind fun h5 =>
  some h5
def lvL (x : CX) (b : Nat) (i : Int32) : List (Nat × Value) := [(0, .ref b), (1, rf x.w (some 0)), (2, rf x.w (some 108)), (3, rf x.w (some 136)), (4, .int i)]
/-- a case of the law keeps what holds, and both answer alike -/
def Good (F L : Nat) (xs : Nat → Int32) (Inv : HP → Prop) (S : Nat → (Nat → Int32) → Nat → Nat → Nat → Nat → Int32 → HP → Option (Option HP)) : Prop :=
  ∀ (j : Nat) (h : HP), 6 * j + 6 ≤ L → Inv h → ∃ h', S F xs L 0 108 136 (Int32.ofNat (6 * j)) h = some (some h') ∧ Inv h'
def Goods (F L : Nat) (xs : Nat → Int32) (Inv : HP → Prop) : Prop :=
  Good F L xs Inv sC0 ∧ Good F L xs Inv sC1 ∧ Good F L xs Inv sC2 ∧ Good F L xs Inv sC3 ∧ Good F L xs Inv sC4 ∧ Good F L xs Inv sC5 ∧ Good F L xs Inv sC6 ∧ Good F L xs Inv sC7 ∧ Good F L xs Inv sC8 ∧ Good F L xs Inv sC9 ∧ Good F L xs Inv sC10 ∧ Good F L xs Inv sC11 ∧ Good F L xs Inv sC12 ∧ Good F L xs Inv sC13 ∧ Good F L xs Inv sC14 ∧ Good F L xs Inv sC15 ∧ Good F L xs Inv sC16 ∧ Good F L xs Inv sC17 ∧ Good F L xs Inv sC18 ∧ Good F L xs Inv sC19 ∧ Good F L xs Inv sC20 ∧ Good F L xs Inv sC21 ∧ Good F L xs Inv sC22 ∧ Good F L xs Inv sC23 ∧ Good F L xs Inv sC24 ∧ Good F L xs Inv sC25 ∧ Good F L xs Inv sC26 ∧ Good F L xs Inv sC27 ∧ Good F L xs Inv sC28 ∧ Good F L xs Inv sC29 ∧ Good F L xs Inv sC30 ∧ Good F L xs Inv sC31 ∧ Good F L xs Inv sC32 ∧ Good F L xs Inv sC33 ∧ Good F L xs Inv sC34
theorem wpO_none {α : Type} {C : α → Prop} (h : wpO (none : Option α) C) : False := by
  obtain ⟨_, e, _⟩ := h
  cases e
set_option maxRecDepth 100000 in
set_option maxHeartbeats 4000000 in
theorem law_case {x : CX} (hc : Cx x cL_law RL room_1) (hlt : x.l.stackTraces = false) (hnl : ∀ i, i < 8 → i < x.nL) {F : Nat} {xs : Nat → Int32} {b L kc ks : Nat} (hsc : Scr x b L xs) (hk1 : kc ≤ room_1.cells ∧ ks ≤ room_1.slots) (hk2 : kc + 1 ≤ room_1.cells ∧ ks + 6 ≤ room_1.slots) {j : Nat} (hj : 6 * j + 6 ≤ L) {h : HP} {Inv : HP → Prop} (hI : Inv h) (hG : Goods F L xs Inv) (v : Int32)
    (hbr : ∀ h', Inv h' → Rn x (kc + 1) (ks + 6) 1895 (lvL x b (Int32.ofNat (6 * j))) [] h') : Rn x kc ks 40 (lvL x b (Int32.ofNat (6 * j))) [.int v] h := by
  have key : ∀ (S : Nat → (Nat → Int32) → Nat → Nat → Nat → Nat → Int32 → HP → Option (Option HP)), Good F L xs Inv S → wpO (S F xs L 0 108 136 (Int32.ofNat (6 * j)) h) (fun r => ∃ h', r = some h' ∧ Inv h') := by
    intro S hS
    obtain ⟨h', e, q⟩ := hS j h hj hI
    exact ⟨_, e, h', rfl, q⟩
  have hbr' : ∀ h', (∃ h'', some h' = some h'' ∧ Inv h'') → Rn x (kc + 1) (ks + 6) 1895 [(0, .ref b), (1, rf x.w (some 0)), (2, rf x.w (some 108)), (3, rf x.w (some 136)), (4, .int (Int32.ofNat (6 * j)))] [] h' := by
    intro h' q
    obtain ⟨h'', e, q⟩ := q
    cases e
    exact hbr _ q
  have hno : ¬ ∃ h', (none : Option HP) = some h' ∧ Inv h' := by
    intro q
    obtain ⟨_, e, _⟩ := q
    cases e
  obtain ⟨g0, g1, g2, g3, g4, g5, g6, g7, g8, g9, g10, g11, g12, g13, g14, g15, g16, g17, g18, g19, g20, g21, g22, g23, g24, g25, g26, g27, g28, g29, g30, g31, g32, g33, g34⟩ := hG
  by_cases e0 : v = 0
  · refine R_tsI (k := 0) (off := 156) (tgt := 196) hc dL_law_40 (by rw [e0]; rfl) (by decide) (by decide) rfl (by decide) ?_
    exact mC0 hc hlt hnl hsc hk1 hk2 hbr' hno (key _ g0)
  by_cases e1 : v = 1
  · refine R_tsI (k := 1) (off := 229) (tgt := 269) hc dL_law_40 (by rw [e1]; rfl) (by decide) (by decide) rfl (by decide) ?_
    exact mC1 hc hlt hnl hsc hk1 hk2 hbr' hno (key _ g1)
  by_cases e2 : v = 2
  · refine R_tsI (k := 2) (off := 254) (tgt := 294) hc dL_law_40 (by rw [e2]; rfl) (by decide) (by decide) rfl (by decide) ?_
    exact mC2 hc hlt hnl hsc hk1 hk2 hbr' hno (key _ g2)
  by_cases e3 : v = 3
  · refine R_tsI (k := 3) (off := 298) (tgt := 338) hc dL_law_40 (by rw [e3]; rfl) (by decide) (by decide) rfl (by decide) ?_
    exact mC3 hc hlt hnl hsc hk1 hk2 hbr' hno (key _ g3)
  by_cases e4 : v = 4
  · refine R_tsI (k := 4) (off := 311) (tgt := 351) hc dL_law_40 (by rw [e4]; rfl) (by decide) (by decide) rfl (by decide) ?_
    exact mC4 hc hlt hnl hsc hk1 hk2 hbr' hno (key _ g4)
  by_cases e5 : v = 5
  · refine R_tsI (k := 5) (off := 379) (tgt := 419) hc dL_law_40 (by rw [e5]; rfl) (by decide) (by decide) rfl (by decide) ?_
    exact mC5 hc hlt hnl hsc hk1 hk2 hbr' hno (key _ g5)
  by_cases e6 : v = 6
  · refine R_tsI (k := 6) (off := 447) (tgt := 487) hc dL_law_40 (by rw [e6]; rfl) (by decide) (by decide) rfl (by decide) ?_
    exact mC6 hc hlt hnl hsc hk1 hk2 hbr' hno (key _ g6)
  by_cases e7 : v = 7
  · refine R_tsI (k := 7) (off := 515) (tgt := 555) hc dL_law_40 (by rw [e7]; rfl) (by decide) (by decide) rfl (by decide) ?_
    exact mC7 hc hlt hnl hsc hk1 hk2 hbr' hno (key _ g7)
  by_cases e8 : v = 8
  · refine R_tsI (k := 8) (off := 583) (tgt := 623) hc dL_law_40 (by rw [e8]; rfl) (by decide) (by decide) rfl (by decide) ?_
    exact mC8 hc hlt hnl hsc hk1 hk2 hbr' hno (key _ g8)
  by_cases e9 : v = 9
  · refine R_tsI (k := 9) (off := 639) (tgt := 679) hc dL_law_40 (by rw [e9]; rfl) (by decide) (by decide) rfl (by decide) ?_
    exact mC9 hc hlt hnl hsc hk1 hk2 hbr' hno (key _ g9)
  by_cases e10 : v = 10
  · refine R_tsI (k := 10) (off := 652) (tgt := 692) hc dL_law_40 (by rw [e10]; rfl) (by decide) (by decide) rfl (by decide) ?_
    exact mC10 hc hlt hnl hsc hk1 hk2 hbr' hno (key _ g10)
  by_cases e11 : v = 11
  · refine R_tsI (k := 11) (off := 666) (tgt := 706) hc dL_law_40 (by rw [e11]; rfl) (by decide) (by decide) rfl (by decide) ?_
    exact mC11 hc hlt hnl hsc hk1 hk2 hbr' hno (key _ g11)
  by_cases e12 : v = 12
  · refine R_tsI (k := 12) (off := 794) (tgt := 834) hc dL_law_40 (by rw [e12]; rfl) (by decide) (by decide) rfl (by decide) ?_
    exact mC12 hc hlt hnl hsc hk1 hk2 hbr' hno (key _ g12)
  by_cases e13 : v = 13
  · refine R_tsI (k := 13) (off := 807) (tgt := 847) hc dL_law_40 (by rw [e13]; rfl) (by decide) (by decide) rfl (by decide) ?_
    exact mC13 hc hlt hnl hsc hk1 hk2 hbr' hno (key _ g13)
  by_cases e14 : v = 14
  · refine R_tsI (k := 14) (off := 875) (tgt := 915) hc dL_law_40 (by rw [e14]; rfl) (by decide) (by decide) rfl (by decide) ?_
    exact mC14 hc hlt hnl hsc hk1 hk2 hbr' hno (key _ g14)
  by_cases e15 : v = 15
  · refine R_tsI (k := 15) (off := 916) (tgt := 956) hc dL_law_40 (by rw [e15]; rfl) (by decide) (by decide) rfl (by decide) ?_
    exact mC15 hc hlt hnl hsc hk1 hk2 hbr' hno (key _ g15)
  by_cases e16 : v = 16
  · refine R_tsI (k := 16) (off := 929) (tgt := 969) hc dL_law_40 (by rw [e16]; rfl) (by decide) (by decide) rfl (by decide) ?_
    exact mC16 hc hlt hnl hsc hk1 hk2 hbr' hno (key _ g16)
  by_cases e17 : v = 17
  · refine R_tsI (k := 17) (off := 985) (tgt := 1025) hc dL_law_40 (by rw [e17]; rfl) (by decide) (by decide) rfl (by decide) ?_
    exact mC17 hc hlt hnl hsc hk1 hk2 hbr' hno (key _ g17)
  by_cases e18 : v = 18
  · refine R_tsI (k := 18) (off := 1069) (tgt := 1109) hc dL_law_40 (by rw [e18]; rfl) (by decide) (by decide) rfl (by decide) ?_
    exact mC18 hc hlt hnl hsc hk1 hk2 hbr' hno (key _ g18)
  by_cases e19 : v = 19
  · refine R_tsI (k := 19) (off := 1082) (tgt := 1122) hc dL_law_40 (by rw [e19]; rfl) (by decide) (by decide) rfl (by decide) ?_
    exact mC19 hc hlt hnl hsc hk1 hk2 hbr' hno (key _ g19)
  by_cases e20 : v = 20
  · refine R_tsI (k := 20) (off := 1095) (tgt := 1135) hc dL_law_40 (by rw [e20]; rfl) (by decide) (by decide) rfl (by decide) ?_
    exact mC20 hc hlt hnl hsc hk1 hk2 hbr' hno (key _ g20)
  by_cases e21 : v = 21
  · refine R_tsI (k := 21) (off := 1108) (tgt := 1148) hc dL_law_40 (by rw [e21]; rfl) (by decide) (by decide) rfl (by decide) ?_
    exact mC21 hc hlt hnl hsc hk1 hk2 hbr' hno (key _ g21)
  by_cases e22 : v = 22
  · refine R_tsI (k := 22) (off := 1164) (tgt := 1204) hc dL_law_40 (by rw [e22]; rfl) (by decide) (by decide) rfl (by decide) ?_
    exact mC22 hc hlt hnl hsc hk1 hk2 hbr' hno (key _ g22)
  by_cases e23 : v = 23
  · refine R_tsI (k := 23) (off := 1248) (tgt := 1288) hc dL_law_40 (by rw [e23]; rfl) (by decide) (by decide) rfl (by decide) ?_
    exact mC23 hc hlt hnl hsc hk1 hk2 hbr' hno (key _ g23)
  by_cases e24 : v = 24
  · refine R_tsI (k := 24) (off := 1315) (tgt := 1355) hc dL_law_40 (by rw [e24]; rfl) (by decide) (by decide) rfl (by decide) ?_
    exact mC24 hc hlt hnl hsc hk1 hk2 hbr' hno (key _ g24)
  by_cases e25 : v = 25
  · refine R_tsI (k := 25) (off := 1370) (tgt := 1410) hc dL_law_40 (by rw [e25]; rfl) (by decide) (by decide) rfl (by decide) ?_
    exact mC25 hc hlt hnl hsc hk1 hk2 hbr' hno (key _ g25)
  by_cases e26 : v = 26
  · refine R_tsI (k := 26) (off := 1438) (tgt := 1478) hc dL_law_40 (by rw [e26]; rfl) (by decide) (by decide) rfl (by decide) ?_
    exact mC26 hc hlt hnl hsc hk1 hk2 hbr' hno (key _ g26)
  by_cases e27 : v = 27
  · refine R_tsI (k := 27) (off := 1506) (tgt := 1546) hc dL_law_40 (by rw [e27]; rfl) (by decide) (by decide) rfl (by decide) ?_
    exact mC27 hc hlt hnl hsc hk1 hk2 hbr' hno (key _ g27)
  by_cases e28 : v = 28
  · refine R_tsI (k := 28) (off := 1550) (tgt := 1590) hc dL_law_40 (by rw [e28]; rfl) (by decide) (by decide) rfl (by decide) ?_
    exact mC28 hc hlt hnl hsc hk1 hk2 hbr' hno (key _ g28)
  by_cases e29 : v = 29
  · refine R_tsI (k := 29) (off := 1638) (tgt := 1678) hc dL_law_40 (by rw [e29]; rfl) (by decide) (by decide) rfl (by decide) ?_
    exact mC29 hc hlt hnl hsc hk1 hk2 hbr' hno (key _ g29)
  by_cases e30 : v = 30
  · refine R_tsI (k := 30) (off := 1682) (tgt := 1722) hc dL_law_40 (by rw [e30]; rfl) (by decide) (by decide) rfl (by decide) ?_
    exact mC30 hc hlt hnl hsc hk1 hk2 hbr' hno (key _ g30)
  by_cases e31 : v = 31
  · refine R_tsI (k := 31) (off := 1750) (tgt := 1790) hc dL_law_40 (by rw [e31]; rfl) (by decide) (by decide) rfl (by decide) ?_
    exact mC31 hc hlt hnl hsc hk1 hk2 hbr' hno (key _ g31)
  by_cases e32 : v = 32
  · refine R_tsI (k := 32) (off := 1806) (tgt := 1846) hc dL_law_40 (by rw [e32]; rfl) (by decide) (by decide) rfl (by decide) ?_
    exact mC32 hc hlt hnl hsc hk1 hk2 hbr' hno (key _ g32)
  by_cases e33 : v = 33
  · refine R_tsI (k := 33) (off := 1817) (tgt := 1857) hc dL_law_40 (by rw [e33]; rfl) (by decide) (by decide) rfl (by decide) ?_
    exact mC33 hc hlt hnl hsc hk1 hk2 hbr' hno (key _ g33)
  by_cases e34 : v = 34
  · refine R_tsI (k := 34) (off := 1830) (tgt := 1870) hc dL_law_40 (by rw [e34]; rfl) (by decide) (by decide) rfl (by decide) ?_
    exact mC34 hc hlt hnl hsc hk1 hk2 hbr' hno (key _ g34)
  refine R_tsO (tgt := 1895) hc dL_law_40 ?_ (by decide) ?_
  · have hne : ∀ k : Int32, ¬ v = k → v.toInt ≠ k.toInt := fun k hk e => hk (Int32.toInt_inj.mp e)
    have f0 : v.toInt ≠ 0 := hne 0 e0
    have f1 : v.toInt ≠ 1 := hne 1 e1
    have f2 : v.toInt ≠ 2 := hne 2 e2
    have f3 : v.toInt ≠ 3 := hne 3 e3
    have f4 : v.toInt ≠ 4 := hne 4 e4
    have f5 : v.toInt ≠ 5 := hne 5 e5
    have f6 : v.toInt ≠ 6 := hne 6 e6
    have f7 : v.toInt ≠ 7 := hne 7 e7
    have f8 : v.toInt ≠ 8 := hne 8 e8
    have f9 : v.toInt ≠ 9 := hne 9 e9
    have f10 : v.toInt ≠ 10 := hne 10 e10
    have f11 : v.toInt ≠ 11 := hne 11 e11
    have f12 : v.toInt ≠ 12 := hne 12 e12
    have f13 : v.toInt ≠ 13 := hne 13 e13
    have f14 : v.toInt ≠ 14 := hne 14 e14
    have f15 : v.toInt ≠ 15 := hne 15 e15
    have f16 : v.toInt ≠ 16 := hne 16 e16
    have f17 : v.toInt ≠ 17 := hne 17 e17
    have f18 : v.toInt ≠ 18 := hne 18 e18
    have f19 : v.toInt ≠ 19 := hne 19 e19
    have f20 : v.toInt ≠ 20 := hne 20 e20
    have f21 : v.toInt ≠ 21 := hne 21 e21
    have f22 : v.toInt ≠ 22 := hne 22 e22
    have f23 : v.toInt ≠ 23 := hne 23 e23
    have f24 : v.toInt ≠ 24 := hne 24 e24
    have f25 : v.toInt ≠ 25 := hne 25 e25
    have f26 : v.toInt ≠ 26 := hne 26 e26
    have f27 : v.toInt ≠ 27 := hne 27 e27
    have f28 : v.toInt ≠ 28 := hne 28 e28
    have f29 : v.toInt ≠ 29 := hne 29 e29
    have f30 : v.toInt ≠ 30 := hne 30 e30
    have f31 : v.toInt ≠ 31 := hne 31 e31
    have f32 : v.toInt ≠ 32 := hne 32 e32
    have f33 : v.toInt ≠ 33 := hne 33 e33
    have f34 : v.toInt ≠ 34 := hne 34 e34
    omega
  · refine R_wide (k := kc + 1) (n := ks + 6) (Nat.le_succ _) (Nat.le_add_right _ _) ?_
    exact hbr _ hI
theorem ofNat_toI {n : Nat} (h : n < 2147483648) : (Int32.ofNat n).toInt = n := Int32.toInt_ofNat_of_lt (by simpa using h)
theorem ofNat_toN {n : Nat} (h : n < 2147483648) : (Int32.ofNat n).toNatClampNeg = n := by
  unfold Int32.toNatClampNeg
  rw [ofNat_toI h]
  omega
set_option maxRecDepth 100000 in
theorem law_loop {x : CX} (hc : Cx x cL_law RL room_1) (hlt : x.l.stackTraces = false) (hnl : ∀ i, i < 8 → i < x.nL) {F : Nat} {xs : Nat → Int32} {b L : Nat} (hL : L ≤ 3072) (hsc : Scr x b L xs) {Inv : HP → Prop} (hG : Goods F L xs Inv)
    (hend : ∀ (kc ks : Nat) (i : Int32) (h : HP), kc ≤ room_1.cells → ks ≤ room_1.slots → Rn x kc ks 1902 (lvL x b i) [.int 1] h) :
    ∀ (n j : Nat) (h : HP), j + n = 600 → j ≤ 512 → Inv h → Rn x (137 + j) (72478 + 6 * j) 23 (lvL x b (Int32.ofNat (6 * j))) [] h := by
  intro n
  induction n with
  | zero => intro j h h1 h2; omega
  | succ n ih =>
    intro j h h1 h2 hI
    refine R_iload (q := 4) (i := 4) (v := Int32.ofNat (6 * j)) hc dL_law_23 rfl ?_
    refine R_aloadV (q := 0) (i := 0) hc dL_law_25 rfl rfl ?_
    refine R_scrlen hc hsc dL_law_26 ?_
    refine R_bipush (v := (6 : Int32)) hc dL_law_27 (by decide) ?_
    refine R_isub hc dL_law_29 ?_
    have hcells : (137 + j) + 1 ≤ room_1.cells := by show (137 + j) + 1 ≤ 601024; omega
    have hslots : (72478 + 6 * j) + 6 ≤ room_1.slots := by show (72478 + 6 * j) + 6 ≤ 7293034; omega
    have e1 : (Int32.ofNat L - 6).toInt = (L : Int) - 6 := by
      rw [Int32.toInt_sub, ofNat_toI (by omega), show (6 : Int32).toInt = 6 from rfl]
      simp only [Int.bmod_def]
      omega
    by_cases hgt : L < 6 * j + 6
    · refine R_icmp_gt (tgt := 1901) (X := some ()) (Y := none) (C := fun _ => True) hc dL_law_30 (by decide) ?_ (fun _ => ?_) (fun q => (wpO_none q).elim)
      · rw [if_pos]
        · exact ⟨(), rfl, trivial⟩
        · rw [Int32.lt_iff_toInt_lt, e1, ofNat_toI (by omega)]
          omega
      · refine R_iconst (v := (1 : Int32)) hc dL_law_1901 (by decide) ?_
        exact hend _ _ _ _ (by omega) (by omega)
    · refine R_icmp_gt (tgt := 1901) (X := none) (Y := some ()) (C := fun _ => True) hc dL_law_30 (by decide) ?_ (fun q => (wpO_none q).elim) (fun _ => ?_)
      · rw [if_neg]
        · exact ⟨(), rfl, trivial⟩
        · rw [Int32.lt_iff_toInt_lt, e1, ofNat_toI (by omega)]
          omega
      · refine R_aloadV (q := 0) (i := 0) hc dL_law_33 rfl rfl ?_
        refine R_iload (q := 4) (i := 4) (v := Int32.ofNat (6 * j)) hc dL_law_34 rfl ?_
        refine R_scr (α := Int32) (f := some) (C := fun _ => True) hc hsc dL_law_36 ?_ (fun v _ => ?_)
        · unfold scrI
          rw [if_pos]
          · exact ⟨_, rfl, trivial⟩
          · rw [ofNat_toN (by omega), Int32.le_iff_toInt_le, ofNat_toI (by omega)]
            exact ⟨by show (0 : Int) ≤ _; omega, by omega⟩
        · refine R_bipush (v := (63 : Int32)) hc dL_law_37 (by decide) ?_
          refine R_iand hc dL_law_39 ?_
          refine law_case hc hlt hnl hsc ⟨by omega, by omega⟩ ⟨hcells, hslots⟩ (by omega) hI hG _ (fun h' hI' => ?_)
          refine R_iinc (q := 4) (v' := Int32.ofNat (6 * (j + 1))) hc [(4, .int (Int32.ofNat (6 * (j + 1)))), (0, .ref b), (1, rf x.w (some 0)), (2, rf x.w (some 108)), (3, rf x.w (some 136))] dL_law_1895 rfl ?_ (hnl 4 (by decide)) ?_ ?_
          · rw [show 6 * (j + 1) = 6 * j + 6 by omega]
            exact (Int32.ofNat_add (6 * j) 6).symm
          · simp [lvL, rf_cat]
          · refine R_sub hc [1, 2, 3, 4, 0] rfl ?_
            refine R_goto (tgt := 23) hc dL_law_1898 (by decide) ?_
            have := ih (j + 1) h' (by omega) (by omega) hI'
            exact this
set_option maxRecDepth 100000 in
theorem law_start {x : CX} (hc : Cx x cL_law RL room_1) (hlt : x.l.stackTraces = false) (hnl : ∀ i, i < 8 → i < x.nL) (hb0 : x.s.heap.size = x.w.b) {F : Nat} {xs : Nat → Int32} {b L : Nat} (hL : L ≤ 3072) (hsc : Scr x b L xs) {Inv : HP → Prop} (hG : Goods F L xs Inv) (h0 : wpO (sL0 F) Inv)
    (hend : ∀ (kc ks : Nat) (i : Int32) (h : HP), kc ≤ room_1.cells → ks ≤ room_1.slots → Rn x kc ks 1902 (lvL x b i) [.int 1] h) : Rn x 0 0 0 [(0, .ref b)] [] h00 := by
  have hx : x.s.heap.size + 0 = x.w.b + h00.n := hb0
  have hw := h0
  unfold sL0 at hw
  refine R_new hc hx tyX10 rfl cl_L_8 ins_10 ini_10 inT10 tyX10_ok (by decide) rfl (by decide) (le_b rfl) (le_b rfl) dL_law_0 hw (fun h1 hx hw => ?_)
  refine R_dup hc dL_law_3 (rf_cat _ _) ?_
  have e1 : h1.n = 1 := by omega
  refine R_cI (As := []) (rest := [rf x.w (some h00.n)]) (a := h00.n) hc hx ml_L_88 mf_X10_init ⟨rfl, rfl⟩ ⟨le_b rfl, le_b rfl⟩ ⟨le_b rfl, le_b rfl⟩ (fun h' e => mt_X10_init (ckn_of e).1) (fun h' e => by rw [(ckn_of e).2, e1]; rfl) rfl rfl (le_b rfl) dL_law_4 hw (fun h2 hx hw => ?_)
  have e2 : h2.n = 108 := by
    have hx : x.s.heap.size + (0 + 1 + 107) = x.w.b + h2.n := hx
    omega
  refine R_astore_n (i := 1) (v := (some h00.n)) hc [(1, rf x.w (some 0)), (0, .ref b)] dL_law_7 rfl (hnl 1 (by decide)) rfl ?_
  refine R_new hc hx tyX11 rfl cl_L_89 ins_11 ini_11 inT11 tyX11_ok (by decide) rfl (by decide) (le_b rfl) (le_b rfl) dL_law_8 hw (fun h3 hx hw => ?_)
  refine R_dup hc dL_law_11 (rf_cat _ _) ?_
  have e3 : h3.n = 109 := by
    have hx : x.s.heap.size + (0 + 1 + 107 + 1) = x.w.b + h3.n := hx
    omega
  rw [e2]
  refine R_cI (As := []) (rest := [rf x.w (some 108)]) (a := 108) hc hx ml_L_91 mf_X11_init ⟨rfl, rfl⟩ ⟨le_b rfl, le_b rfl⟩ ⟨le_b rfl, le_b rfl⟩ (fun h' e => mt_X11_init (ckn_of e).1) (fun h' e => by rw [(ckn_of e).2, e3]; rfl) rfl rfl (le_b rfl) dL_law_12 hw (fun h4 hx hw => ?_)
  have e4 : h4.n = 136 := by
    have hx : x.s.heap.size + (0 + 1 + 107 + 1 + 27) = x.w.b + h4.n := hx
    omega
  refine R_astore_n (i := 2) (v := (some 108)) hc [(2, rf x.w (some 108)), (1, rf x.w (some 0)), (0, .ref b)] dL_law_15 rfl (hnl 2 (by decide)) rfl ?_
  refine R_iconst (v := (1 : Int32)) hc dL_law_16 (by decide) ?_
  refine R_newJ (N := 1) hc hx (by decide) rfl (le_b rfl) ar_long (le_b rfl) (le_b rfl) dL_law_17 hw (fun h5 hx hw => ?_)
  rw [e4]
  refine R_astore_n (i := 3) (v := (some 136)) hc [(3, rf x.w (some 136)), (2, rf x.w (some 108)), (1, rf x.w (some 0)), (0, .ref b)] dL_law_19 rfl (hnl 3 (by decide)) rfl ?_
  refine R_iconst (v := (0 : Int32)) hc dL_law_20 (by decide) ?_
  refine R_istore (i := 4) (v := (0 : Int32)) hc [(4, .int 0), (3, rf x.w (some 136)), (2, rf x.w (some 108)), (1, rf x.w (some 0)), (0, .ref b)] dL_law_21 (hnl 4 (by decide)) rfl ?_
  refine R_sub hc [4, 3, 2, 1, 0] rfl ?_
  have hI : Inv h5 := (wpO_some hw :)
  exact law_loop hc hlt hnl hL hsc hG hend 600 0 h5 rfl (by omega) hI
