/-! the start: what holds between calls, holds there -/
def u0 : Nat → Nat := fun _ => 0
theorem nf_00 (s : Nat → Nat) (v : Nat) : nf u0 s 0 v (sn u0 s 0) = (0, 0, 0) := rfl
theorem pb_00 (s : Nat → Nat) (v : Nat) : pb u0 s 0 v = false := by
  unfold pb
  rw [nf_00]
  simp
theorem pm_00 (s : Nat → Nat) : ∀ v, pm u0 s 0 v = 0
  | 0 => rfl
  | v + 1 => by
    have ih := pm_00 s v
    show sm (pb u0 s 0) (fun _ => 1) (v + 1) = 0
    rw [sm_s, pb_00]
    show pm u0 s 0 v + 0 = 0
    rw [ih]
theorem pv_00 (s : Nat → Nat) : pv u0 s 0 = some 0 := by
  have h := pv_ok u0 s 0
  rw [pm_00] at h
  have hJ : Jc u0 s 0 = 0 := by
    unfold Jc pt
    show (0 + max 1 0 - 1) / max 1 0 = 0
    decide
  rw [hJ] at h
  refine Lo_one h ?_
  exact ⟨⟨rfl, rfl⟩, fun w _ => Nat.zero_le _⟩
theorem pst_00 (s : Nat → Nat) : pst u0 s 0 = ii 0 := by
  unfold pst
  rw [pv_00]
theorem pc_00 (s : Nat → Nat) (v : Nat) : pc u0 s 0 v = 0 := by
  unfold pc
  rw [pb_00]
  rfl
theorem wr_00 (s : Nat → Nat) (v : Nat) : wr u0 s 0 v = (0, 0) := by
  unfold wr
  rw [if_pos (Or.inr (by rw [nf_00]))]
theorem Vd_0 : Vd u0 := by
  refine ⟨by decide, by decide, fun f hf => absurd hf (by show ¬ f < 0; omega), fun p w hp => absurd hp (by show ¬ p < 0; omega), fun p hp => absurd hp (by show ¬ p < 0; omega), by decide, fun b hb => absurd hb (by show ¬ b < 0; omega), by decide, by decide, by decide, by decide, fun h => absurd h (by decide), fun p hp => absurd hp (by show ¬ p < 0; omega), fun p hp => absurd hp (by show ¬ p < 0; omega)⟩
theorem V6_0 : V6 u0 := by
  unfold V6
  have : ∀ N, sm (fun v => (u0 3).testBit v) (fun _ => 1) N = 0 := by
    intro N
    induction N with
    | zero => rfl
    | succ N ih =>
      rw [sm_s, ih]
      show 0 + (if (0 : Nat).testBit N = true then 1 else 0) = 0
      rw [Nat.zero_testBit]
      rfl
  rw [this]
  omega
theorem begin_ok : wpO (sL0 1000) Inv := by
  have key := start_ok
  generalize sL0 1000 = y at *
  cases y with
  | none => cases key
  | some h =>
    have key : (chk0 h && chk1 h && chk2 h && chk3 h && chk4 h) = true := key
    simp only [Bool.and_eq_true] at key
    obtain ⟨⟨⟨⟨k0, k1⟩, k2⟩, k3⟩, k4⟩ := key
    unfold chk0 at k0
    unfold chk1 at k1
    unfold chk2 at k2
    unfold chk3 at k3
    unfold chk4 at k4
    simp only [Bool.and_eq_true, decide_eq_true_iff] at k0 k1 k2 k4
    obtain ⟨⟨l1, l2⟩, l3⟩ := k0
    obtain ⟨⟨⟨⟨a12, a13⟩, a14⟩, a4⟩, a22⟩ := k1
    obtain ⟨⟨⟨⟨⟨⟨⟨⟨⟨b109, b5⟩, b12⟩, b13⟩, b14⟩, b15⟩, b16⟩, b40⟩, b62⟩, b67⟩ := k2
    obtain ⟨⟨⟨⟨⟨⟨⟨d2, d7⟩, d21⟩, d10⟩, d44⟩, d441⟩, d3⟩, d5⟩ := k4
    have L : Lay h := by
      refine ⟨l1, fun a ha => ?_, fun q hq => ?_⟩
      · have := aB_ok l2 a ha
        simp only [Bool.and_eq_true, decide_eq_true_iff] at this
        exact this
      · have := List.all_eq_true.mp l3 q hq
        exact of_decide_eq_true this
    have I109 : ∀ k, k < 106 → h.I 109 k = ii 0 := fun k hk => of_decide_eq_true (aB_ok b109 k hk)
    have I5 : ∀ k, k < 7 → h.I 5 k = ii 0 := fun k hk => of_decide_eq_true (aB_ok b5 k hk)
    have I62 : ∀ k, k < 3 → h.I 62 k = ii 0 := fun k hk => of_decide_eq_true (aB_ok b62 k hk)
    have N : ∀ v, v < 12 → h.I 68 v = mI ∧ h.I 69 v = mI ∧ h.I 70 v = ii 0 ∧ h.I 71 v = mI ∧ h.I 72 v = mI ∧ h.I 73 v = mI ∧ h.I 74 v = mI := by
      intro v hv
      have := aB_ok k3 v hv
      simp only [Bool.and_eq_true, decide_eq_true_iff] at this
      obtain ⟨⟨⟨⟨⟨⟨n1, n2⟩, n3⟩, n4⟩, n5⟩, n6⟩, n7⟩ := this
      exact ⟨n1, n2, n3, n4, n5, n6, n7⟩
    have no : ∀ k, ¬ k < u0 72 := fun k => by show ¬ k < 0; omega
    have s1 : ∀ S, S < 2 ^ u0 72 → S = 0 := fun S hS => by
      have hS : S < 1 := hS
      omega
    have O : Ord h 4 5 u0 := by
      refine ⟨a4, ⟨I5 0 (by omega), I5 1 (by omega), I5 2 (by omega), I5 3 (by omega), I5 4 (by omega), I5 5 (by omega), I5 6 (by omega), fun k hk => absurd hk (by show ¬ k < 6 * 0; omega), fun k hk => absurd hk (no k), fun k hk => absurd hk (by show ¬ k < 3 * 0; omega)⟩, fun up s hs => absurd hs (by show ¬ s < 4 * 0; omega), ?_, ?_, ?_⟩
      · intro S hS _
        have e := s1 S hS
        subst e
        refine ⟨b12, fun t ht => ?_⟩
        have e1 : h.I (4 + 7 + 2) 0 = ii 0 := b13
        have e2 : h.I (4 + 7 + 3) 0 = ii 0 := b14
        rw [e1, e2, tb_ii _ _ ht, Nat.zero_testBit]
        have hi : inR 0 t = false := Nat.zero_testBit _
        unfold fs sc atm
        rw [hi]
        exact ⟨rfl, rfl⟩
      · intro S t hS ht _
        have e := s1 S hS
        subst e
        have hi : inR 0 t = false := Nat.zero_testBit _
        rw [hi] at ht
        cases ht
      · intro S hS _
        have e := s1 S hS
        subst e
        exact ⟨b15, b16⟩
    have D : Drw h u0 (sp u0) (u0 72) := by
      show Drw h u0 (sp u0) 0
      refine ⟨⟨I62 0 (by omega), I62 1 (by omega), I62 2 (by omega), fun c hc => absurd hc (by show ¬ c < 0; omega), fun j hj => absurd hj (by omega)⟩, ⟨fun v hv => ?_, fun v hv => ?_⟩, fun v hv => ?_, fun c hc => absurd hc (by show ¬ c < 0; omega), ?_⟩
      · obtain ⟨n1, n2, n3, n4, n5, n6, n7⟩ := N v hv
        exact ⟨n1, n2, n3⟩
      · obtain ⟨n1, n2, n3, n4, n5, n6, n7⟩ := N v hv
        rw [pc_00]
        exact n4
      · obtain ⟨n1, n2, n3, n4, n5, n6, n7⟩ := N v hv
        rw [wr_00]
        exact ⟨n5, n6, n7⟩
      · rw [pst_00]
        exact b67
    refine ⟨h, rfl, u0, 4, 5, ⟨L, by omega, by omega, a12, Vd_0, V6_0, I109, O, ⟨b40, fun p hp => absurd hp (no p)⟩, D⟩, ⟨u0, 0, d2, d7, by omega, fun k hk => absurd hk (by omega), by rw [d21, d10]⟩, Past.no (nx := 0) d44 d441 (by omega) d3, 22, 23, 102, ⟨by omega, a22, a14, by omega, by omega, by omega, by omega, by omega⟩, Or.inl ⟨a13, d5⟩⟩
