/-! the law calls the class: what is thrown is a number -/
def PG1 {α : Type} (X : Option ((α ⊕ Nat) × HP)) (m : HP → Option (α × HP)) (e1 : Nat) : Prop :=
  wpO X (fun x => Lay x.2 ∧ ∀ h1, Same [136] x.2 h1 → wpO (m h1) (fun y => Inv y.2 ∧ y.2.J 136 = h1.J 136 ∧ (x.1 = .inl y.1 ∧ y.2.I 108 0 = ii 0 ∨ x.1 = .inr e1 ∧ y.2.I 108 0 = ii 1)))
theorem PG.one {α : Type} {X : Option ((α ⊕ Nat) × HP)} {m : HP → Option (α × HP)} {e1 : Nat} (H : ∀ e2, PG X m e1 e2) : PG1 X m e1 := by
  obtain ⟨x, ex, Lx, hm⟩ := H (e1 + 1)
  refine ⟨x, ex, Lx, fun h1 hs => ?_⟩
  obtain ⟨y, ey, i1, i2, i3⟩ := hm h1 hs
  refine ⟨y, ey, i1, i2, ?_⟩
  rcases i3 with a | a | ⟨a, b⟩
  · exact Or.inl a
  · exact Or.inr a
  · exfalso
    obtain ⟨x', ex', -, hm'⟩ := H (e1 + 2)
    rw [ex] at ex'
    cases ex'
    obtain ⟨y', ey', -, -, j3⟩ := hm' h1 hs
    rw [a] at j3
    rcases j3 with ⟨c, -⟩ | ⟨c, -⟩ | ⟨c, -⟩
    · cases c
    · have := Sum.inr.inj c
      omega
    · have := Sum.inr.inj c
      omega
def WG (W : Option (Int32 × HP)) (m : HP → Option (Int32 × HP)) : Prop := wpO W (fun y => Lay y.2 ∧ wpO (m y.2) (fun q => Inv q.2 ∧ q.2.I 108 0 = y.1 ∧ (y.1 = ii 0 → q.2.J 136 0 = q.1.toInt64)))
def WJ (W : Option (Int32 × HP)) (m : HP → Option (Int64 × HP)) : Prop := wpO W (fun y => Lay y.2 ∧ wpO (m y.2) (fun q => Inv q.2 ∧ q.2.I 108 0 = y.1 ∧ (y.1 = ii 0 → q.2.J 136 0 = q.1)))
theorem sJ_136 {h : HP} (L : Lay h) (v : Int64) : sJ h (some 136) (0 : Int32) v = some (h.setJ 136 0 v) := sJ_c136 L (k := 0) (by decide) v
theorem Inv.lay {h : HP} (I : Inv h) : Lay h := by
  obtain ⟨u, o, c, J⟩ := I
  exact J.1.1
theorem sel_w (t : Int32) : wpO (if t = 0 then some (0 : Int32) else some (1 : Int32)) (fun s => s = ii (!decide (t = ii 0)).toNat) := by
  by_cases g : t = ii 0
  · refine wp_ip g (wp_some ?_)
    rw [decide_eq_true g]; rfl
  · refine wp_in g (wp_some ?_)
    rw [decide_eq_false g]; rfl
section
variable {F : Nat} {h : HP} {u : Nat → Nat} {o c : Nat}
theorem w_cell (J : In h u o c) (hF : 500 < F) : WG (sL_cell F (some 0) (some 136) h) (fun h' => sX11_cell F 108 h') := by
  have L := J.1.1
  obtain ⟨x, ex, L1, hm⟩ := PG.one (fun e2 => g_cell J hF e2)
  obtain ⟨r, h1⟩ := x
  have L1 : Lay h1 := L1
  have ed : dO h 10 (some 0) = some 0 := dO_ok (L.o rfl)
  unfold sL_cell
  rw [ed, bind_some', ex, bd2_some]
  cases r with
  | inl v =>
    obtain ⟨y, ey, i1, i2, i3⟩ := hm (h1.setJ 136 0 v.toInt64) ((Same.refl _ h1).setJ _ _ (by simp))
    have i2 : y.2.J 136 = (h1.setJ 136 0 v.toInt64).J 136 := i2
    have ev : v = y.1 ∧ y.2.I 108 0 = ii 0 := by
      rcases i3 with ⟨a, b⟩ | ⟨a, -⟩
      · exact ⟨Sum.inl.inj a, b⟩
      · cases a
    refine wp_eq (x := (ii 0, h1.setJ 136 0 v.toInt64)) ?_ ⟨L1, y, ey, i1, ev.2, fun _ => ?_⟩
    · show (sJ h1 (some 136) (0 : Int32) v.toInt64).bind _ = _
      rw [sJ_136 L1]
      rfl
    · rw [i2, setJ_eq, ev.1]
  | inr k =>
    obtain ⟨y, ey, i1, i2, i3⟩ := hm h1 (Same.refl _ _)
    rcases i3 with ⟨a, b⟩ | ⟨a, b⟩
    · cases a
    · have a : k = 0 := Sum.inr.inj a
      subst a
      exact wp_eq (x := (ii 1, h1)) rfl ⟨L1, y, ey, i1, b, fun w => absurd w (show ¬ ii 1 = ii 0 by decide)⟩
theorem w_pair (J : In h u o c) (hF : 500 < F) (a : Int32) (b : Int32) : WG (sL_pair F (some 0) a b (some 136) h) (fun h' => sX11_pair F 108 a b h') := by
  have L := J.1.1
  obtain ⟨x, ex, L1, hm⟩ := PG.of J (q_pair J hF a b)
  obtain ⟨r, h1⟩ := x
  have L1 : Lay h1 := L1
  have ed : dO h 10 (some 0) = some 0 := dO_ok (L.o rfl)
  unfold sL_pair
  rw [ed, bind_some', ex, bd2_some]
  cases r with
  | inl v =>
    obtain ⟨y, ey, i1, i2, i3⟩ := hm (h1.setJ 136 0 v.toInt64) ((Same.refl _ h1).setJ _ _ (by simp))
    have i2 : y.2.J 136 = (h1.setJ 136 0 v.toInt64).J 136 := i2
    have ev : v = y.1 ∧ y.2.I 108 0 = ii 0 := by
      rcases i3 with ⟨a, b⟩ | ⟨a, -⟩ | ⟨a, -⟩
      · exact ⟨Sum.inl.inj a, b⟩
      · cases a
      · cases a
    refine wp_eq (x := (ii 0, h1.setJ 136 0 v.toInt64)) ?_ ⟨L1, y, ey, i1, ev.2, fun _ => ?_⟩
    · show (sJ h1 (some 136) (0 : Int32) v.toInt64).bind _ = _
      rw [sJ_136 L1]
      rfl
    · rw [i2, setJ_eq, ev.1]
  | inr k =>
    obtain ⟨y, ey, i1, i2, i3⟩ := hm h1 (Same.refl _ _)
    rcases i3 with ⟨a, b⟩ | ⟨a, b⟩ | ⟨a, b⟩
    · cases a
    · have a : k = 1 := Sum.inr.inj a
      subst a
      exact wp_eq (x := (ii 1, h1)) rfl ⟨L1, y, ey, i1, b, fun w => absurd w (show ¬ ii 1 = ii 0 by decide)⟩
    · have a : k = 2 := Sum.inr.inj a
      subst a
      exact wp_eq (x := (ii 2, h1)) rfl ⟨L1, y, ey, i1, b, fun w => absurd w (show ¬ ii 2 = ii 0 by decide)⟩
theorem w_at (J : In h u o c) (hF : 500 < F) (a : Int32) (b : Int32) : WG (sL_at F (some 0) a b (some 136) h) (fun h' => sX11_at F 108 a b h') := by
  have L := J.1.1
  obtain ⟨x, ex, L1, hm⟩ := PG.of J (q_at J hF a b)
  obtain ⟨r, h1⟩ := x
  have L1 : Lay h1 := L1
  have ed : dO h 10 (some 0) = some 0 := dO_ok (L.o rfl)
  unfold sL_at
  rw [ed, bind_some', ex, bd2_some]
  cases r with
  | inl v =>
    obtain ⟨y, ey, i1, i2, i3⟩ := hm (h1.setJ 136 0 v.toInt64) ((Same.refl _ h1).setJ _ _ (by simp))
    have i2 : y.2.J 136 = (h1.setJ 136 0 v.toInt64).J 136 := i2
    have ev : v = y.1 ∧ y.2.I 108 0 = ii 0 := by
      rcases i3 with ⟨a, b⟩ | ⟨a, -⟩ | ⟨a, -⟩
      · exact ⟨Sum.inl.inj a, b⟩
      · cases a
      · cases a
    refine wp_eq (x := (ii 0, h1.setJ 136 0 v.toInt64)) ?_ ⟨L1, y, ey, i1, ev.2, fun _ => ?_⟩
    · show (sJ h1 (some 136) (0 : Int32) v.toInt64).bind _ = _
      rw [sJ_136 L1]
      rfl
    · rw [i2, setJ_eq, ev.1]
  | inr k =>
    obtain ⟨y, ey, i1, i2, i3⟩ := hm h1 (Same.refl _ _)
    rcases i3 with ⟨a, b⟩ | ⟨a, b⟩ | ⟨a, b⟩
    · cases a
    · have a : k = 1 := Sum.inr.inj a
      subst a
      exact wp_eq (x := (ii 1, h1)) rfl ⟨L1, y, ey, i1, b, fun w => absurd w (show ¬ ii 1 = ii 0 by decide)⟩
    · have a : k = 2 := Sum.inr.inj a
      subst a
      exact wp_eq (x := (ii 2, h1)) rfl ⟨L1, y, ey, i1, b, fun w => absurd w (show ¬ ii 2 = ii 0 by decide)⟩
theorem w_column (J : In h u o c) (hF : 500 < F) (a : Int32) (b : Int32) : WG (sL_column F (some 0) a b (some 136) h) (fun h' => sX11_column F 108 a b h') := by
  have L := J.1.1
  obtain ⟨x, ex, L1, hm⟩ := PG.of J (q_column J hF a b)
  obtain ⟨r, h1⟩ := x
  have L1 : Lay h1 := L1
  have ed : dO h 10 (some 0) = some 0 := dO_ok (L.o rfl)
  unfold sL_column
  rw [ed, bind_some', ex, bd2_some]
  cases r with
  | inl v =>
    obtain ⟨y, ey, i1, i2, i3⟩ := hm (h1.setJ 136 0 v.toInt64) ((Same.refl _ h1).setJ _ _ (by simp))
    have i2 : y.2.J 136 = (h1.setJ 136 0 v.toInt64).J 136 := i2
    have ev : v = y.1 ∧ y.2.I 108 0 = ii 0 := by
      rcases i3 with ⟨a, b⟩ | ⟨a, -⟩ | ⟨a, -⟩
      · exact ⟨Sum.inl.inj a, b⟩
      · cases a
      · cases a
    refine wp_eq (x := (ii 0, h1.setJ 136 0 v.toInt64)) ?_ ⟨L1, y, ey, i1, ev.2, fun _ => ?_⟩
    · show (sJ h1 (some 136) (0 : Int32) v.toInt64).bind _ = _
      rw [sJ_136 L1]
      rfl
    · rw [i2, setJ_eq, ev.1]
  | inr k =>
    obtain ⟨y, ey, i1, i2, i3⟩ := hm h1 (Same.refl _ _)
    rcases i3 with ⟨a, b⟩ | ⟨a, b⟩ | ⟨a, b⟩
    · cases a
    · have a : k = 1 := Sum.inr.inj a
      subst a
      exact wp_eq (x := (ii 1, h1)) rfl ⟨L1, y, ey, i1, b, fun w => absurd w (show ¬ ii 1 = ii 0 by decide)⟩
    · have a : k = 2 := Sum.inr.inj a
      subst a
      exact wp_eq (x := (ii 2, h1)) rfl ⟨L1, y, ey, i1, b, fun w => absurd w (show ¬ ii 2 = ii 0 by decide)⟩
theorem w_net (J : In h u o c) (hF : 500 < F) (a : Int32) (b : Int32) : WG (sL_net F (some 0) a b (some 136) h) (fun h' => sX11_net F 108 a b h') := by
  have L := J.1.1
  obtain ⟨x, ex, L1, hm⟩ := PG.of J (q_net J hF a b)
  obtain ⟨r, h1⟩ := x
  have L1 : Lay h1 := L1
  have ed : dO h 10 (some 0) = some 0 := dO_ok (L.o rfl)
  unfold sL_net
  rw [ed, bind_some', ex, bd2_some]
  cases r with
  | inl v =>
    obtain ⟨y, ey, i1, i2, i3⟩ := hm (h1.setJ 136 0 v.toInt64) ((Same.refl _ h1).setJ _ _ (by simp))
    have i2 : y.2.J 136 = (h1.setJ 136 0 v.toInt64).J 136 := i2
    have ev : v = y.1 ∧ y.2.I 108 0 = ii 0 := by
      rcases i3 with ⟨a, b⟩ | ⟨a, -⟩ | ⟨a, -⟩
      · exact ⟨Sum.inl.inj a, b⟩
      · cases a
      · cases a
    refine wp_eq (x := (ii 0, h1.setJ 136 0 v.toInt64)) ?_ ⟨L1, y, ey, i1, ev.2, fun _ => ?_⟩
    · show (sJ h1 (some 136) (0 : Int32) v.toInt64).bind _ = _
      rw [sJ_136 L1]
      rfl
    · rw [i2, setJ_eq, ev.1]
  | inr k =>
    obtain ⟨y, ey, i1, i2, i3⟩ := hm h1 (Same.refl _ _)
    rcases i3 with ⟨a, b⟩ | ⟨a, b⟩ | ⟨a, b⟩
    · cases a
    · have a : k = 1 := Sum.inr.inj a
      subst a
      exact wp_eq (x := (ii 1, h1)) rfl ⟨L1, y, ey, i1, b, fun w => absurd w (show ¬ ii 1 = ii 0 by decide)⟩
    · have a : k = 2 := Sum.inr.inj a
      subst a
      exact wp_eq (x := (ii 2, h1)) rfl ⟨L1, y, ey, i1, b, fun w => absurd w (show ¬ ii 2 = ii 0 by decide)⟩
theorem w_layout (J : In h u o c) (hF : 500 < F) (a : Int32) : WG (sL_layout F (some 0) a (some 136) h) (fun h' => sX11_layout F 108 a h') := by
  have L := J.1.1
  obtain ⟨x, ex, L1, hm⟩ := PG.one (fun e2 => PG.of J (q_layout J hF e2 a))
  obtain ⟨r, h1⟩ := x
  have L1 : Lay h1 := L1
  have ed : dO h 10 (some 0) = some 0 := dO_ok (L.o rfl)
  unfold sL_layout
  rw [ed, bind_some', ex, bd2_some]
  cases r with
  | inl v =>
    obtain ⟨y, ey, i1, i2, i3⟩ := hm (h1.setJ 136 0 v.toInt64) ((Same.refl _ h1).setJ _ _ (by simp))
    have i2 : y.2.J 136 = (h1.setJ 136 0 v.toInt64).J 136 := i2
    have ev : v = y.1 ∧ y.2.I 108 0 = ii 0 := by
      rcases i3 with ⟨a, b⟩ | ⟨a, -⟩
      · exact ⟨Sum.inl.inj a, b⟩
      · cases a
    refine wp_eq (x := (ii 0, h1.setJ 136 0 v.toInt64)) ?_ ⟨L1, y, ey, i1, ev.2, fun _ => ?_⟩
    · show (sJ h1 (some 136) (0 : Int32) v.toInt64).bind _ = _
      rw [sJ_136 L1]
      rfl
    · rw [i2, setJ_eq, ev.1]
  | inr k =>
    obtain ⟨y, ey, i1, i2, i3⟩ := hm h1 (Same.refl _ _)
    rcases i3 with ⟨a, b⟩ | ⟨a, b⟩
    · cases a
    · have a : k = 2 := Sum.inr.inj a
      subst a
      exact wp_eq (x := (ii 1, h1)) rfl ⟨L1, y, ey, i1, b, fun w => absurd w (show ¬ ii 1 = ii 0 by decide)⟩
theorem w_best (J : In h u o c) (hF : 500 < F) (a : Int64) (b : Int32) (c : Bool) : WG (sL_best F (some 0) a b (ii c.toNat) (some 136) h) (fun h' => sX11_best F 108 a b (ii c.toNat) h') := by
  have L := J.1.1
  obtain ⟨x, ex, L1, hm⟩ := PG.of J (q_best J hF a b c)
  obtain ⟨r, h1⟩ := x
  have L1 : Lay h1 := L1
  have ed : dO h 10 (some 0) = some 0 := dO_ok (L.o rfl)
  unfold sL_best
  rw [ed, bind_some', ex, bd2_some]
  cases r with
  | inl v =>
    obtain ⟨y, ey, i1, i2, i3⟩ := hm (h1.setJ 136 0 v.toInt64) ((Same.refl _ h1).setJ _ _ (by simp))
    have i2 : y.2.J 136 = (h1.setJ 136 0 v.toInt64).J 136 := i2
    have ev : v = y.1 ∧ y.2.I 108 0 = ii 0 := by
      rcases i3 with ⟨a, b⟩ | ⟨a, -⟩ | ⟨a, -⟩
      · exact ⟨Sum.inl.inj a, b⟩
      · cases a
      · cases a
    refine wp_eq (x := (ii 0, h1.setJ 136 0 v.toInt64)) ?_ ⟨L1, y, ey, i1, ev.2, fun _ => ?_⟩
    · show (sJ h1 (some 136) (0 : Int32) v.toInt64).bind _ = _
      rw [sJ_136 L1]
      rfl
    · rw [i2, setJ_eq, ev.1]
  | inr k =>
    obtain ⟨y, ey, i1, i2, i3⟩ := hm h1 (Same.refl _ _)
    rcases i3 with ⟨a, b⟩ | ⟨a, b⟩ | ⟨a, b⟩
    · cases a
    · have a : k = 1 := Sum.inr.inj a
      subst a
      exact wp_eq (x := (ii 1, h1)) rfl ⟨L1, y, ey, i1, b, fun w => absurd w (show ¬ ii 1 = ii 0 by decide)⟩
    · have a : k = 0 := Sum.inr.inj a
      subst a
      exact wp_eq (x := (ii 2, h1)) rfl ⟨L1, y, ey, i1, b, fun w => absurd w (show ¬ ii 2 = ii 0 by decide)⟩
theorem w_with (J : In h u o c) (hF : 500 < F) (a : Int32) (b : Int32) : WG (sL_with F (some 0) a b (some 136) h) (fun h' => sX11_with F 108 a b h') := by
  have L := J.1.1
  obtain ⟨x, ex, L1, hm⟩ := PG.one (fun e2 => PG.of J (q_with J hF e2 a b))
  obtain ⟨r, h1⟩ := x
  have L1 : Lay h1 := L1
  have ed : dO h 10 (some 0) = some 0 := dO_ok (L.o rfl)
  unfold sL_with
  rw [ed, bind_some', ex, bd2_some]
  cases r with
  | inl v =>
    obtain ⟨y, ey, i1, i2, i3⟩ := hm (h1.setJ 136 0 v.toInt64) ((Same.refl _ h1).setJ _ _ (by simp))
    have i2 : y.2.J 136 = (h1.setJ 136 0 v.toInt64).J 136 := i2
    have ev : v = y.1 ∧ y.2.I 108 0 = ii 0 := by
      rcases i3 with ⟨a, b⟩ | ⟨a, -⟩
      · exact ⟨Sum.inl.inj a, b⟩
      · cases a
    refine wp_eq (x := (ii 0, h1.setJ 136 0 v.toInt64)) ?_ ⟨L1, y, ey, i1, ev.2, fun _ => ?_⟩
    · show (sJ h1 (some 136) (0 : Int32) v.toInt64).bind _ = _
      rw [sJ_136 L1]
      rfl
    · rw [i2, setJ_eq, ev.1]
  | inr k =>
    obtain ⟨y, ey, i1, i2, i3⟩ := hm h1 (Same.refl _ _)
    rcases i3 with ⟨a, b⟩ | ⟨a, b⟩
    · cases a
    · have a : k = 1 := Sum.inr.inj a
      subst a
      exact wp_eq (x := (ii 1, h1)) rfl ⟨L1, y, ey, i1, b, fun w => absurd w (show ¬ ii 1 = ii 0 by decide)⟩
theorem w_ofSet (J : In h u o c) (hF : 500 < F) (a : Int32) : WG (sL_ofSet F (some 0) a (some 136) h) (fun h' => sX11_ofSet F 108 a h') := by
  have L := J.1.1
  obtain ⟨x, ex, L1, hm⟩ := PG.one (fun e2 => PG.of J (q_ofSet J hF e2 a))
  obtain ⟨r, h1⟩ := x
  have L1 : Lay h1 := L1
  have ed : dO h 10 (some 0) = some 0 := dO_ok (L.o rfl)
  unfold sL_ofSet
  rw [ed, bind_some', ex, bd2_some]
  cases r with
  | inl v =>
    obtain ⟨y, ey, i1, i2, i3⟩ := hm (h1.setJ 136 0 v.toInt64) ((Same.refl _ h1).setJ _ _ (by simp))
    have i2 : y.2.J 136 = (h1.setJ 136 0 v.toInt64).J 136 := i2
    have ev : v = y.1 ∧ y.2.I 108 0 = ii 0 := by
      rcases i3 with ⟨a, b⟩ | ⟨a, -⟩
      · exact ⟨Sum.inl.inj a, b⟩
      · cases a
    refine wp_eq (x := (ii 0, h1.setJ 136 0 v.toInt64)) ?_ ⟨L1, y, ey, i1, ev.2, fun _ => ?_⟩
    · show (sJ h1 (some 136) (0 : Int32) v.toInt64).bind _ = _
      rw [sJ_136 L1]
      rfl
    · rw [i2, setJ_eq, ev.1]
  | inr k =>
    obtain ⟨y, ey, i1, i2, i3⟩ := hm h1 (Same.refl _ _)
    rcases i3 with ⟨a, b⟩ | ⟨a, b⟩
    · cases a
    · have a : k = 0 := Sum.inr.inj a
      subst a
      exact wp_eq (x := (ii 1, h1)) rfl ⟨L1, y, ey, i1, b, fun w => absurd w (show ¬ ii 1 = ii 0 by decide)⟩
theorem w_parted (J : In h u o c) (hF : 500 < F) (a : Int32) (b : Bool) : WG (sL_parted F (some 0) a (ii b.toNat) (some 136) h) (fun h' => sX11_parted F 108 a (ii b.toNat) h') := by
  have L := J.1.1
  obtain ⟨x, ex, L1, hm⟩ := PG.one (fun e2 => PG.of J (q_parted J hF e2 a b))
  obtain ⟨r, h1⟩ := x
  have L1 : Lay h1 := L1
  have ed : dO h 10 (some 0) = some 0 := dO_ok (L.o rfl)
  unfold sL_parted
  rw [ed, bind_some', ex, bd2_some]
  cases r with
  | inl v =>
    obtain ⟨y, ey, i1, i2, i3⟩ := hm (h1.setJ 136 0 v.toInt64) ((Same.refl _ h1).setJ _ _ (by simp))
    have i2 : y.2.J 136 = (h1.setJ 136 0 v.toInt64).J 136 := i2
    have ev : v = y.1 ∧ y.2.I 108 0 = ii 0 := by
      rcases i3 with ⟨a, b⟩ | ⟨a, -⟩
      · exact ⟨Sum.inl.inj a, b⟩
      · cases a
    refine wp_eq (x := (ii 0, h1.setJ 136 0 v.toInt64)) ?_ ⟨L1, y, ey, i1, ev.2, fun _ => ?_⟩
    · show (sJ h1 (some 136) (0 : Int32) v.toInt64).bind _ = _
      rw [sJ_136 L1]
      rfl
    · rw [i2, setJ_eq, ev.1]
  | inr k =>
    obtain ⟨y, ey, i1, i2, i3⟩ := hm h1 (Same.refl _ _)
    rcases i3 with ⟨a, b⟩ | ⟨a, b⟩
    · cases a
    · have a : k = 0 := Sum.inr.inj a
      subst a
      exact wp_eq (x := (ii 1, h1)) rfl ⟨L1, y, ey, i1, b, fun w => absurd w (show ¬ ii 1 = ii 0 by decide)⟩
theorem w_better (J : In h u o c) (hF : 500 < F) (a : Int32) : WG (sL_better F (some 0) a (some 136) h) (fun h' => sX11_better F 108 a h') := by
  have L := J.1.1
  obtain ⟨x, ex, L1, hm⟩ := PG.one (fun e2 => PG.of J (q_better J hF e2 a))
  obtain ⟨r, h1⟩ := x
  have L1 : Lay h1 := L1
  have ed : dO h 10 (some 0) = some 0 := dO_ok (L.o rfl)
  unfold sL_better
  rw [ed, bind_some', ex, bd2_some]
  cases r with
  | inl v =>
    obtain ⟨y, ey, i1, i2, i3⟩ := hm (h1.setJ 136 0 v.toInt64) ((Same.refl _ h1).setJ _ _ (by simp))
    have i2 : y.2.J 136 = (h1.setJ 136 0 v.toInt64).J 136 := i2
    have ev : v = y.1 ∧ y.2.I 108 0 = ii 0 := by
      rcases i3 with ⟨a, b⟩ | ⟨a, -⟩
      · exact ⟨Sum.inl.inj a, b⟩
      · cases a
    refine wp_eq (x := (ii 0, h1.setJ 136 0 v.toInt64)) ?_ ⟨L1, y, ey, i1, ev.2, fun _ => ?_⟩
    · show (sJ h1 (some 136) (0 : Int32) v.toInt64).bind _ = _
      rw [sJ_136 L1]
      rfl
    · rw [i2, setJ_eq, ev.1]
  | inr k =>
    obtain ⟨y, ey, i1, i2, i3⟩ := hm h1 (Same.refl _ _)
    rcases i3 with ⟨a, b⟩ | ⟨a, b⟩
    · cases a
    · have a : k = 2 := Sum.inr.inj a
      subst a
      exact wp_eq (x := (ii 1, h1)) rfl ⟨L1, y, ey, i1, b, fun w => absurd w (show ¬ ii 1 = ii 0 by decide)⟩
theorem w_shortest (J : In h u o c) (hF : 500 < F) (a : Int32) (b : Bool) : WG (sL_shortest F (some 0) a (ii b.toNat) (some 136) h) (fun h' => sX11_shortest F 108 a (ii b.toNat) h') := by
  have L := J.1.1
  obtain ⟨x, ex, L1, hm⟩ := PG.one (fun e2 => PG.of J (q_short J hF e2 a b))
  obtain ⟨r, h1⟩ := x
  have L1 : Lay h1 := L1
  have ed : dO h 10 (some 0) = some 0 := dO_ok (L.o rfl)
  unfold sL_shortest
  rw [ed, bind_some', ex, bd2_some]
  cases r with
  | inl v =>
    obtain ⟨y, ey, i1, i2, i3⟩ := hm (h1.setJ 136 0 v.toInt64) ((Same.refl _ h1).setJ _ _ (by simp))
    have i2 : y.2.J 136 = (h1.setJ 136 0 v.toInt64).J 136 := i2
    have ev : v = y.1 ∧ y.2.I 108 0 = ii 0 := by
      rcases i3 with ⟨a, b⟩ | ⟨a, -⟩
      · exact ⟨Sum.inl.inj a, b⟩
      · cases a
    refine wp_eq (x := (ii 0, h1.setJ 136 0 v.toInt64)) ?_ ⟨L1, y, ey, i1, ev.2, fun _ => ?_⟩
    · show (sJ h1 (some 136) (0 : Int32) v.toInt64).bind _ = _
      rw [sJ_136 L1]
      rfl
    · rw [i2, setJ_eq, ev.1]
  | inr k =>
    obtain ⟨y, ey, i1, i2, i3⟩ := hm h1 (Same.refl _ _)
    rcases i3 with ⟨a, b⟩ | ⟨a, b⟩
    · cases a
    · have a : k = 0 := Sum.inr.inj a
      subst a
      exact wp_eq (x := (ii 1, h1)) rfl ⟨L1, y, ey, i1, b, fun w => absurd w (show ¬ ii 1 = ii 0 by decide)⟩
theorem w_neighbours (J : In h u o c) (hF : 500 < F) (a : Int32) (b : Int32) : WJ (sL_neighbours F (some 0) a b (some 136) h) (fun h' => sX11_neighbours F 108 a b h') := by
  have L := J.1.1
  obtain ⟨x, ex, L1, hm⟩ := PG.ofJ J (q_neigh J hF a b)
  obtain ⟨r, h1⟩ := x
  have L1 : Lay h1 := L1
  have ed : dO h 10 (some 0) = some 0 := dO_ok (L.o rfl)
  unfold sL_neighbours
  rw [ed, bind_some', ex, bd2_some]
  cases r with
  | inl v =>
    obtain ⟨y, ey, i1, i2, i3⟩ := hm (h1.setJ 136 0 v) ((Same.refl _ h1).setJ _ _ (by simp))
    have i2 : y.2.J 136 = (h1.setJ 136 0 v).J 136 := i2
    have ev : v = y.1 ∧ y.2.I 108 0 = ii 0 := by
      rcases i3 with ⟨a, b⟩ | ⟨a, -⟩ | ⟨a, -⟩
      · exact ⟨Sum.inl.inj a, b⟩
      · cases a
      · cases a
    refine wp_eq (x := (ii 0, h1.setJ 136 0 v)) ?_ ⟨L1, y, ey, i1, ev.2, fun _ => ?_⟩
    · show (sJ h1 (some 136) (0 : Int32) v).bind _ = _
      rw [sJ_136 L1]
      rfl
    · rw [i2, setJ_eq, ev.1]
  | inr k =>
    obtain ⟨y, ey, i1, i2, i3⟩ := hm h1 (Same.refl _ _)
    rcases i3 with ⟨a, b⟩ | ⟨a, b⟩ | ⟨a, b⟩
    · cases a
    · have a : k = 1 := Sum.inr.inj a
      subst a
      exact wp_eq (x := (ii 1, h1)) rfl ⟨L1, y, ey, i1, b, fun w => absurd w (show ¬ ii 1 = ii 0 by decide)⟩
    · have a : k = 0 := Sum.inr.inj a
      subst a
      exact wp_eq (x := (ii 2, h1)) rfl ⟨L1, y, ey, i1, b, fun w => absurd w (show ¬ ii 2 = ii 0 by decide)⟩
theorem w_starts (J : In h u o c) (hF : 500 < F) (a : Int32) : WJ (sL_starts F (some 0) a (some 136) h) (fun h' => sX11_starts F 108 a h') := by
  have L := J.1.1
  obtain ⟨x, ex, L1, hm⟩ := PG.one (fun e2 => PG.ofJ J (q_starts J hF e2 a))
  obtain ⟨r, h1⟩ := x
  have L1 : Lay h1 := L1
  have ed : dO h 10 (some 0) = some 0 := dO_ok (L.o rfl)
  unfold sL_starts
  rw [ed, bind_some', ex, bd2_some]
  cases r with
  | inl v =>
    obtain ⟨y, ey, i1, i2, i3⟩ := hm (h1.setJ 136 0 v) ((Same.refl _ h1).setJ _ _ (by simp))
    have i2 : y.2.J 136 = (h1.setJ 136 0 v).J 136 := i2
    have ev : v = y.1 ∧ y.2.I 108 0 = ii 0 := by
      rcases i3 with ⟨a, b⟩ | ⟨a, -⟩
      · exact ⟨Sum.inl.inj a, b⟩
      · cases a
    refine wp_eq (x := (ii 0, h1.setJ 136 0 v)) ?_ ⟨L1, y, ey, i1, ev.2, fun _ => ?_⟩
    · show (sJ h1 (some 136) (0 : Int32) v).bind _ = _
      rw [sJ_136 L1]
      rfl
    · rw [i2, setJ_eq, ev.1]
  | inr k =>
    obtain ⟨y, ey, i1, i2, i3⟩ := hm h1 (Same.refl _ _)
    rcases i3 with ⟨a, b⟩ | ⟨a, b⟩
    · cases a
    · have a : k = 1 := Sum.inr.inj a
      subst a
      exact wp_eq (x := (ii 1, h1)) rfl ⟨L1, y, ey, i1, b, fun w => absurd w (show ¬ ii 1 = ii 0 by decide)⟩
theorem w_turn (J : In h u o c) (hF : 500 < F) (a : Int32) (b : Int32) : WG (sL_turn F (some 0) a b (some 136) h) (fun h' => sX11_turn F 108 a b h') := by
  have L := J.1.1
  obtain ⟨x, ex, L1, hm⟩ := g_turn J hF a b
  obtain ⟨r, h1⟩ := x
  have L1 : Lay h1 := L1
  have ed : dO h 10 (some 0) = some 0 := dO_ok (L.o rfl)
  unfold sL_turn
  rw [ed, bind_some', ex, bd2_some]
  cases r with
  | inl v =>
    obtain ⟨y, ey, i1, i2, i3⟩ := hm (h1.setJ 136 0 v.toInt64) ((Same.refl _ h1).setJ _ _ (by simp))
    have i2 : y.2.J 136 = (h1.setJ 136 0 v.toInt64).J 136 := i2
    have ev : v = y.1 ∧ y.2.I 108 0 = ii 0 := by
      rcases i3 with ⟨a, b⟩ | ⟨a, -⟩ | ⟨a, -⟩
      · exact ⟨Sum.inl.inj a, b⟩
      · cases a
      · cases a
    refine wp_eq (x := (ii 0, h1.setJ 136 0 v.toInt64)) ?_ ⟨L1, y, ey, i1, ev.2, fun _ => ?_⟩
    · show (sJ h1 (some 136) (0 : Int32) v.toInt64).bind _ = _
      rw [sJ_136 L1]
      rfl
    · rw [i2, setJ_eq, ev.1]
  | inr k =>
    obtain ⟨y, ey, i1, i2, i3⟩ := hm h1 (Same.refl _ _)
    rcases i3 with ⟨a, b⟩ | ⟨a, b⟩ | ⟨a, b⟩
    · cases a
    · have a : k = 1 := Sum.inr.inj a
      subst a
      exact wp_eq (x := (ii 1, h1)) rfl ⟨L1, y, ey, i1, b, fun w => absurd w (show ¬ ii 1 = ii 0 by decide)⟩
    · have a : k = 0 := Sum.inr.inj a
      subst a
      exact wp_eq (x := (ii 2, h1)) rfl ⟨L1, y, ey, i1, b, fun w => absurd w (show ¬ ii 2 = ii 0 by decide)⟩
theorem w_move (J : In h u o c) (hF : 500 < F) (a : Int32) (b : Int32) : WG (sL_move F (some 0) a b (some 136) h) (fun h' => sX11_move F 108 a b h') := by
  have L := J.1.1
  obtain ⟨x, ex, L1, hm⟩ := g_move J hF a b
  obtain ⟨r, h1⟩ := x
  have L1 : Lay h1 := L1
  have ed : dO h 10 (some 0) = some 0 := dO_ok (L.o rfl)
  unfold sL_move
  rw [ed, bind_some', ex, bd2_some]
  cases r with
  | inl v =>
    obtain ⟨y, ey, i1, i2, i3⟩ := hm (h1.setJ 136 0 v.toInt64) ((Same.refl _ h1).setJ _ _ (by simp))
    have i2 : y.2.J 136 = (h1.setJ 136 0 v.toInt64).J 136 := i2
    have ev : v = y.1 ∧ y.2.I 108 0 = ii 0 := by
      rcases i3 with ⟨a, b⟩ | ⟨a, -⟩ | ⟨a, -⟩
      · exact ⟨Sum.inl.inj a, b⟩
      · cases a
      · cases a
    refine wp_eq (x := (ii 0, h1.setJ 136 0 v.toInt64)) ?_ ⟨L1, y, ey, i1, ev.2, fun _ => ?_⟩
    · show (sJ h1 (some 136) (0 : Int32) v.toInt64).bind _ = _
      rw [sJ_136 L1]
      rfl
    · rw [i2, setJ_eq, ev.1]
  | inr k =>
    obtain ⟨y, ey, i1, i2, i3⟩ := hm h1 (Same.refl _ _)
    rcases i3 with ⟨a, b⟩ | ⟨a, b⟩ | ⟨a, b⟩
    · cases a
    · have a : k = 1 := Sum.inr.inj a
      subst a
      exact wp_eq (x := (ii 1, h1)) rfl ⟨L1, y, ey, i1, b, fun w => absurd w (show ¬ ii 1 = ii 0 by decide)⟩
    · have a : k = 0 := Sum.inr.inj a
      subst a
      exact wp_eq (x := (ii 2, h1)) rfl ⟨L1, y, ey, i1, b, fun w => absurd w (show ¬ ii 2 = ii 0 by decide)⟩
theorem w_mirror (J : In h u o c) (hF : 500 < F) : WG (sL_mirror F (some 0) (some 136) h) (fun h' => sX11_mirror F 108 h') := by
  have L := J.1.1
  obtain ⟨x, ex, L1, hm⟩ := PG.one (fun e2 => g_mirror J hF e2)
  obtain ⟨r, h1⟩ := x
  have L1 : Lay h1 := L1
  have ed : dO h 10 (some 0) = some 0 := dO_ok (L.o rfl)
  unfold sL_mirror
  rw [ed, bind_some', ex, bd2_some]
  cases r with
  | inl v =>
    obtain ⟨y, ey, i1, i2, i3⟩ := hm (h1.setJ 136 0 v.toInt64) ((Same.refl _ h1).setJ _ _ (by simp))
    have i2 : y.2.J 136 = (h1.setJ 136 0 v.toInt64).J 136 := i2
    have ev : v = y.1 ∧ y.2.I 108 0 = ii 0 := by
      rcases i3 with ⟨a, b⟩ | ⟨a, -⟩
      · exact ⟨Sum.inl.inj a, b⟩
      · cases a
    refine wp_eq (x := (ii 0, h1.setJ 136 0 v.toInt64)) ?_ ⟨L1, y, ey, i1, ev.2, fun _ => ?_⟩
    · show (sJ h1 (some 136) (0 : Int32) v.toInt64).bind _ = _
      rw [sJ_136 L1]
      rfl
    · rw [i2, setJ_eq, ev.1]
  | inr k =>
    obtain ⟨y, ey, i1, i2, i3⟩ := hm h1 (Same.refl _ _)
    rcases i3 with ⟨a, b⟩ | ⟨a, b⟩
    · cases a
    · have a : k = 3 := Sum.inr.inj a
      subst a
      exact wp_eq (x := (ii 1, h1)) rfl ⟨L1, y, ey, i1, b, fun w => absurd w (show ¬ ii 1 = ii 0 by decide)⟩
theorem w_lay (J : In h u o c) (hF : 500 < F) (a : Int64) : WG (sL_lay F (some 0) a (some 136) h) (fun h' => sX11_lay F 108 a h') := by
  have L := J.1.1
  obtain ⟨x, ex, L1, hm⟩ := PG.one (fun e2 => g_lay J hF e2 a)
  obtain ⟨r, h1⟩ := x
  have L1 : Lay h1 := L1
  have ed : dO h 10 (some 0) = some 0 := dO_ok (L.o rfl)
  unfold sL_lay
  rw [ed, bind_some', ex, bd2_some]
  cases r with
  | inl v =>
    obtain ⟨y, ey, i1, i2, i3⟩ := hm (h1.setJ 136 0 v.toInt64) ((Same.refl _ h1).setJ _ _ (by simp))
    have i2 : y.2.J 136 = (h1.setJ 136 0 v.toInt64).J 136 := i2
    have ev : v = y.1 ∧ y.2.I 108 0 = ii 0 := by
      rcases i3 with ⟨a, b⟩ | ⟨a, -⟩
      · exact ⟨Sum.inl.inj a, b⟩
      · cases a
    refine wp_eq (x := (ii 0, h1.setJ 136 0 v.toInt64)) ?_ ⟨L1, y, ey, i1, ev.2, fun _ => ?_⟩
    · show (sJ h1 (some 136) (0 : Int32) v.toInt64).bind _ = _
      rw [sJ_136 L1]
      rfl
    · rw [i2, setJ_eq, ev.1]
  | inr k =>
    obtain ⟨y, ey, i1, i2, i3⟩ := hm h1 (Same.refl _ _)
    rcases i3 with ⟨a, b⟩ | ⟨a, b⟩
    · cases a
    · have a : k = 0 := Sum.inr.inj a
      subst a
      exact wp_eq (x := (ii 1, h1)) rfl ⟨L1, y, ey, i1, b, fun w => absurd w (show ¬ ii 1 = ii 0 by decide)⟩
theorem w_undo (J : In h u o c) (hF : 500 < F) : WG (sL_undo F (some 0) (some 136) h) (fun h' => sX11_undo F 108 h') := by
  have L := J.1.1
  obtain ⟨x, ex, L1, hm⟩ := PG.one (fun e2 => g_undo J hF e2)
  obtain ⟨r, h1⟩ := x
  have L1 : Lay h1 := L1
  have ed : dO h 10 (some 0) = some 0 := dO_ok (L.o rfl)
  unfold sL_undo
  rw [ed, bind_some', ex, bd2_some]
  cases r with
  | inl v =>
    obtain ⟨y, ey, i1, i2, i3⟩ := hm (h1.setJ 136 0 v.toInt64) ((Same.refl _ h1).setJ _ _ (by simp))
    have i2 : y.2.J 136 = (h1.setJ 136 0 v.toInt64).J 136 := i2
    have ev : v = y.1 ∧ y.2.I 108 0 = ii 0 := by
      rcases i3 with ⟨a, b⟩ | ⟨a, -⟩
      · exact ⟨Sum.inl.inj a, b⟩
      · cases a
    refine wp_eq (x := (ii 0, h1.setJ 136 0 v.toInt64)) ?_ ⟨L1, y, ey, i1, ev.2, fun _ => ?_⟩
    · show (sJ h1 (some 136) (0 : Int32) v.toInt64).bind _ = _
      rw [sJ_136 L1]
      rfl
    · rw [i2, setJ_eq, ev.1]
  | inr k =>
    obtain ⟨y, ey, i1, i2, i3⟩ := hm h1 (Same.refl _ _)
    rcases i3 with ⟨a, b⟩ | ⟨a, b⟩
    · cases a
    · have a : k = 3 := Sum.inr.inj a
      subst a
      exact wp_eq (x := (ii 1, h1)) rfl ⟨L1, y, ey, i1, b, fun w => absurd w (show ¬ ii 1 = ii 0 by decide)⟩
theorem w_fits (J : In h u o c) (hF : 500 < F) (a : Int32) (b : Int32) : WG (sL_fits F (some 0) a b (some 136) h) (fun h' => sX11_fits F 108 a b h') := by
  have L := J.1.1
  obtain ⟨x, ex, L1, hm⟩ := PG.of J (q_fits J hF a b)
  obtain ⟨r, h1⟩ := x
  have L1 : Lay h1 := L1
  have ed : dO h 10 (some 0) = some 0 := dO_ok (L.o rfl)
  unfold sL_fits
  rw [ed, bind_some', ex, bd2_some]
  cases r with
  | inl v =>
    obtain ⟨y, ey, i1, i2, i3⟩ := hm (h1.setJ 136 0 v.toInt64) ((Same.refl _ h1).setJ _ _ (by simp))
    have i2 : y.2.J 136 = (h1.setJ 136 0 v.toInt64).J 136 := i2
    have ev : v = y.1 ∧ y.2.I 108 0 = ii 0 := by
      rcases i3 with ⟨a, b⟩ | ⟨a, -⟩ | ⟨a, -⟩
      · exact ⟨Sum.inl.inj a, b⟩
      · cases a
      · cases a
    refine wp_eq (x := (ii 0, h1.setJ 136 0 v.toInt64)) ?_ ⟨L1, y, ey, i1, ev.2, fun _ => ?_⟩
    · show (sJ h1 (some 136) (0 : Int32) v.toInt64).bind _ = _
      rw [sJ_136 L1]
      rfl
    · rw [i2, setJ_eq, ev.1]
  | inr k =>
    obtain ⟨y, ey, i1, i2, i3⟩ := hm h1 (Same.refl _ _)
    rcases i3 with ⟨a, b⟩ | ⟨a, b⟩ | ⟨a, b⟩
    · cases a
    · have a : k = 1 := Sum.inr.inj a
      subst a
      exact wp_eq (x := (ii 1, h1)) rfl ⟨L1, y, ey, i1, b, fun w => absurd w (show ¬ ii 1 = ii 0 by decide)⟩
    · have a : k = 0 := Sum.inr.inj a
      subst a
      exact wp_eq (x := (ii 2, h1)) rfl ⟨L1, y, ey, i1, b, fun w => absurd w (show ¬ ii 2 = ii 0 by decide)⟩
theorem w_room (J : In h u o c) (hF : 500 < F) (a : Int32) : WG (sL_room F (some 0) a (some 136) h) (fun h' => sX11_room F 108 a h') := by
  have L := J.1.1
  obtain ⟨x, ex, L1, hm⟩ := PG.one (fun e2 => PG.of J (q_room J hF e2 a))
  obtain ⟨r, h1⟩ := x
  have L1 : Lay h1 := L1
  have ed : dO h 10 (some 0) = some 0 := dO_ok (L.o rfl)
  unfold sL_room
  rw [ed, bind_some', ex, bd2_some]
  cases r with
  | inl v =>
    obtain ⟨y, ey, i1, i2, i3⟩ := hm (h1.setJ 136 0 v.toInt64) ((Same.refl _ h1).setJ _ _ (by simp))
    have i2 : y.2.J 136 = (h1.setJ 136 0 v.toInt64).J 136 := i2
    have ev : v = y.1 ∧ y.2.I 108 0 = ii 0 := by
      rcases i3 with ⟨a, b⟩ | ⟨a, -⟩
      · exact ⟨Sum.inl.inj a, b⟩
      · cases a
    refine wp_eq (x := (ii 0, h1.setJ 136 0 v.toInt64)) ?_ ⟨L1, y, ey, i1, ev.2, fun _ => ?_⟩
    · show (sJ h1 (some 136) (0 : Int32) v.toInt64).bind _ = _
      rw [sJ_136 L1]
      rfl
    · rw [i2, setJ_eq, ev.1]
  | inr k =>
    obtain ⟨y, ey, i1, i2, i3⟩ := hm h1 (Same.refl _ _)
    rcases i3 with ⟨a, b⟩ | ⟨a, b⟩
    · cases a
    · have a : k = 1 := Sum.inr.inj a
      subst a
      exact wp_eq (x := (ii 1, h1)) rfl ⟨L1, y, ey, i1, b, fun w => absurd w (show ¬ ii 1 = ii 0 by decide)⟩
end
