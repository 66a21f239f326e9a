theorem dX11_laysAhead_0 : decode cX11_laysAhead 0 = .ok (.iconst 1, 1) := by decide +kernel
theorem dX11_laysAhead_1 : decode cX11_laysAhead 1 = .ok (.istore_n 1, 1) := by decide +kernel
theorem dX11_laysAhead_2 : decode cX11_laysAhead 2 = .ok (.iload_n 1, 1) := by decide +kernel
theorem dX11_laysAhead_3 : decode cX11_laysAhead 3 = .ok (.iconst 1, 1) := by decide +kernel
theorem dX11_laysAhead_4 : decode cX11_laysAhead 4 = .ok (.aload_n 0, 1) := by decide +kernel
theorem dX11_laysAhead_5 : decode cX11_laysAhead 5 = .ok (.invokevirtual 103, 3) := by decide +kernel
theorem dX11_laysAhead_8 : decode cX11_laysAhead 8 = .ok (.ishl, 1) := by decide +kernel
theorem dX11_laysAhead_9 : decode cX11_laysAhead 9 = .ok (.if_icmp .ge 56, 3) := by decide +kernel
theorem dX11_laysAhead_12 : decode cX11_laysAhead 12 = .ok (.iconst 0, 1) := by decide +kernel
theorem dX11_laysAhead_13 : decode cX11_laysAhead 13 = .ok (.istore_n 2, 1) := by decide +kernel
theorem dX11_laysAhead_14 : decode cX11_laysAhead 14 = .ok (.iload_n 2, 1) := by decide +kernel
theorem dX11_laysAhead_15 : decode cX11_laysAhead 15 = .ok (.aload_n 0, 1) := by decide +kernel
theorem dX11_laysAhead_16 : decode cX11_laysAhead 16 = .ok (.invokevirtual 103, 3) := by decide +kernel
theorem dX11_laysAhead_19 : decode cX11_laysAhead 19 = .ok (.if_icmp .ge 40, 3) := by decide +kernel
theorem dX11_laysAhead_22 : decode cX11_laysAhead 22 = .ok (.iload_n 1, 1) := by decide +kernel
theorem dX11_laysAhead_23 : decode cX11_laysAhead 23 = .ok (.iload_n 2, 1) := by decide +kernel
theorem dX11_laysAhead_24 : decode cX11_laysAhead 24 = .ok (.ishr, 1) := by decide +kernel
theorem dX11_laysAhead_25 : decode cX11_laysAhead 25 = .ok (.iconst 1, 1) := by decide +kernel
theorem dX11_laysAhead_26 : decode cX11_laysAhead 26 = .ok (.iand, 1) := by decide +kernel
theorem dX11_laysAhead_27 : decode cX11_laysAhead 27 = .ok (.ifCond .ne 6, 3) := by decide +kernel
theorem dX11_laysAhead_30 : decode cX11_laysAhead 30 = .ok (.goto 23, 3) := by decide +kernel
theorem dX11_laysAhead_33 : decode cX11_laysAhead 33 = .ok (.iconst 0, 1) := by decide +kernel
theorem dX11_laysAhead_34 : decode cX11_laysAhead 34 = .ok (.istore_n 3, 1) := by decide +kernel
theorem dX11_laysAhead_35 : decode cX11_laysAhead 35 = .ok (.iload_n 3, 1) := by decide +kernel
theorem dX11_laysAhead_36 : decode cX11_laysAhead 36 = .ok (.iconst 4, 1) := by decide +kernel
theorem dX11_laysAhead_37 : decode cX11_laysAhead 37 = .ok (.if_icmp .ge 16, 3) := by decide +kernel
theorem dX11_laysAhead_40 : decode cX11_laysAhead 40 = .ok (.aload_n 0, 1) := by decide +kernel
theorem dX11_laysAhead_41 : decode cX11_laysAhead 41 = .ok (.iload_n 1, 1) := by decide +kernel
theorem dX11_laysAhead_42 : decode cX11_laysAhead 42 = .ok (.iload_n 2, 1) := by decide +kernel
theorem dX11_laysAhead_43 : decode cX11_laysAhead 43 = .ok (.iload_n 3, 1) := by decide +kernel
theorem dX11_laysAhead_44 : decode cX11_laysAhead 44 = .ok (.invokevirtual 152, 3) := by decide +kernel
theorem dX11_laysAhead_47 : decode cX11_laysAhead 47 = .ok (.iinc 3 1, 3) := by decide +kernel
theorem dX11_laysAhead_50 : decode cX11_laysAhead 50 = .ok (.goto (-15), 3) := by decide +kernel
theorem dX11_laysAhead_53 : decode cX11_laysAhead 53 = .ok (.iinc 2 1, 3) := by decide +kernel
theorem dX11_laysAhead_56 : decode cX11_laysAhead 56 = .ok (.goto (-42), 3) := by decide +kernel
theorem dX11_laysAhead_59 : decode cX11_laysAhead 59 = .ok (.iinc 1 1, 3) := by decide +kernel
theorem dX11_laysAhead_62 : decode cX11_laysAhead 62 = .ok (.goto (-60), 3) := by decide +kernel
theorem dX11_laysAhead_65 : decode cX11_laysAhead 65 = .ok (.return_, 1) := by decide +kernel
def sX11_laysAhead_L35 (F : Nat) (l0 : Nat) (l1 : Int32) (l2 : Int32) (l3 : Int32) (h : HP) : Option ((Int32 × HP) ⊕ HP) :=
  if (4 : Int32) ≤ l3 then
    some (.inr h)
  else
    (dO h 11 (some l0)).bind fun a5 =>
    (sX11_laysAheadOf F a5 l1 l2 l3 h).bind fun h6 =>
    some (.inl (l3 + (1 : Int32), h6))
def sX11_laysAhead_L14 (F : Nat) (l0 : Nat) (l1 : Int32) (l2 : Int32) (h : HP) : Option ((Int32 × HP) ⊕ HP) :=
  (dO h 11 (some l0)).bind fun a3 =>
  (sX11_fingers F a3 h).bind fun t4 =>
  if t4 ≤ l2 then
    some (.inr h)
  else
    if ¬ ((jshr l1 l2) &&& (1 : Int32)) = 0 then
      (iter (fun s => sX11_laysAhead_L35 F l0 l1 l2 s.1 s.2) F ((0 : Int32), h)).bind fun h7 =>
        some (.inl (l2 + (1 : Int32), h7))
    else
      some (.inl (l2 + (1 : Int32), h))
def sX11_laysAhead_L2 (F : Nat) (l0 : Nat) (l1 : Int32) (h : HP) : Option ((Int32 × HP) ⊕ HP) :=
  (dO h 11 (some l0)).bind fun a1 =>
  (sX11_fingers F a1 h).bind fun t2 =>
  if (jshl (1 : Int32) t2) ≤ l1 then
    some (.inr h)
  else
    (iter (fun s => sX11_laysAhead_L14 F l0 l1 s.1 s.2) F ((0 : Int32), h)).bind fun h11 =>
      some (.inl (l1 + (1 : Int32), h11))
def sX11_laysAhead (F : Nat) (l0 : Nat) (h : HP) : Option HP :=
  (iter (fun s => sX11_laysAhead_L2 F l0 s.1 s.2) F ((1 : Int32), h)).bind fun h15 =>
    some h15
abbrev rm_X11_laysAhead : Room := { frames := 5, cells := 0, slots := 0, locals := 125 }
set_option maxRecDepth 100000 in
set_option maxHeartbeats 4000000 in
theorem mt_X11_laysAhead {w : WD} {l : Launch} {F : Nat} {l0 : Nat} {h : HP} {h' : HP} (hs : sX11_laysAhead F l0 h = some h') : MV w l yX11_laysAhead cX11_laysAhead 4 rm_X11_laysAhead 0 0 [rf w (some l0)] h h' := by
  refine of_body [(0, rf w (some l0))] (by decide) (by simp [lg_sl, rf_cat, cat_i, cat_l, cat_a]) (by simp [lv_args, rf_cat, cat_i, cat_l, cat_a]) ?_
  intro x hw_ hnL_ hl_ hc hret hnm hQ
  subst hw_; subst hl_
  have hnl : ∀ i, i < 4 → i < x.nL := fun i h => by rw [hnL_]; exact h
  have hw : wpO (sX11_laysAhead F l0 h) (fun r => r = h') := ⟨_, hs, rfl⟩
  unfold sX11_laysAhead at hw
  refine R_iconst (v := (1 : Int32)) hc dX11_laysAhead_0 kI_1 ?_
  refine R_istore_n (i := 1) (v := (1 : Int32)) hc [(1, .int (1 : Int32)), (0, rf x.w (some l0))] dX11_laysAhead_1 rfl (hnl 1 (le_b rfl)) rfl ?_
  refine R_sub hc [1, 0] rfl ?_
  refine R_loop (P := fun (s : (Int32 × HP)) => Rn x 0 0 2 [(0, rf x.w (some l0)), (1, .int s.1)] [] s.2) (fun h15 => Rn x 0 0 65 [] [] h15) hw (fun r hw => ?_) (fun X hX s hw => ?_)
  · revert r hw
    intro h15 hw
    show Rn x 0 0 65 [] [] h15
    exact R_return hc hret hQ hw dX11_laysAhead_65
  · obtain ⟨l1_17, h18⟩ := s
    show Rn x 0 0 2 [(0, rf x.w (some l0)), (1, .int l1_17)] [] h18
    have hw : wpO (sX11_laysAhead_L2 F l0 l1_17 h18) _ := hw
    unfold sX11_laysAhead_L2 at hw
    refine R_iload_n (q := 1) (i := 1) (v := l1_17) hc dX11_laysAhead_2 rfl rfl ?_
    refine R_iconst (v := (1 : Int32)) hc dX11_laysAhead_3 kI_1 ?_
    refine R_aload_n (q := 0) (i := 0) (v := (some l0)) hc dX11_laysAhead_4 rfl rfl ?_
    refine R_cVI (As := []) (rest := [.int (1 : Int32), .int l1_17]) (r := (some l0)) (ci := 11) hc ml_11_103 mf_X11_fingers rfl (by decide) ⟨rfl, rfl⟩ ⟨le_b rfl, le_b rfl⟩ ⟨Nat.zero_le _, Nat.zero_le _⟩ (fun a v e => mt_X11_fingers e) rfl rfl (le_b rfl) dX11_laysAhead_5 hw (fun t2 hw => ?_)
    refine R_ishl hc dX11_laysAhead_8 ?_
    refine R_icmp_ge (tgt := 65) hc dX11_laysAhead_9 (by decide) hw (fun hw => ?_) (fun hw => ?_)
    · refine R_sub hc [] rfl ?_
      exact (wpO_some hw :)
    · refine R_iconst (v := (0 : Int32)) hc dX11_laysAhead_12 kI_0 ?_
      refine R_istore_n (i := 2) (v := (0 : Int32)) hc [(2, .int (0 : Int32)), (0, rf x.w (some l0)), (1, .int l1_17)] dX11_laysAhead_13 rfl (hnl 2 (le_b rfl)) rfl ?_
      refine R_sub hc [1, 2, 0] rfl ?_
      refine R_loop (P := fun (s : (Int32 × HP)) => Rn x 0 0 14 [(0, rf x.w (some l0)), (1, .int l1_17), (2, .int s.1)] [] s.2) (fun h11 => Rn x 0 0 59 [(0, rf x.w (some l0)), (1, .int l1_17)] [] h11) hw (fun r hw => ?_) (fun X hX s hw => ?_)
      · revert r hw
        intro h11 hw
        show Rn x 0 0 59 [(0, rf x.w (some l0)), (1, .int l1_17)] [] h11
        refine R_iinc (q := 1) (i := 1) (v := l1_17) hc [(1, .int (l1_17 + (1 : Int32))), (0, rf x.w (some l0))] dX11_laysAhead_59 rfl (kC_1 _) (hnl 1 (le_b rfl)) rfl ?_
        refine R_goto (tgt := 2) hc dX11_laysAhead_62 (by decide) ?_
        refine R_sub hc [1, 0] rfl ?_
        exact hX (l1_17 + (1 : Int32), h11) (wpO_some hw :)
      · obtain ⟨l2_13, h14⟩ := s
        show Rn x 0 0 14 [(0, rf x.w (some l0)), (1, .int l1_17), (2, .int l2_13)] [] h14
        have hw : wpO (sX11_laysAhead_L14 F l0 l1_17 l2_13 h14) _ := hw
        unfold sX11_laysAhead_L14 at hw
        refine R_iload_n (q := 2) (i := 2) (v := l2_13) hc dX11_laysAhead_14 rfl rfl ?_
        refine R_aload_n (q := 0) (i := 0) (v := (some l0)) hc dX11_laysAhead_15 rfl rfl ?_
        refine R_cVI (As := []) (rest := [.int l2_13]) (r := (some l0)) (ci := 11) hc ml_11_103 mf_X11_fingers rfl (by decide) ⟨rfl, rfl⟩ ⟨le_b rfl, le_b rfl⟩ ⟨Nat.zero_le _, Nat.zero_le _⟩ (fun a v e => mt_X11_fingers e) rfl rfl (le_b rfl) dX11_laysAhead_16 hw (fun t4 hw => ?_)
        refine R_icmp_ge (tgt := 59) hc dX11_laysAhead_19 (by decide) hw (fun hw => ?_) (fun hw => ?_)
        · refine R_sub hc [0, 1] rfl ?_
          exact (wpO_some hw :)
        · refine R_iload_n (q := 1) (i := 1) (v := l1_17) hc dX11_laysAhead_22 rfl rfl ?_
          refine R_iload_n (q := 2) (i := 2) (v := l2_13) hc dX11_laysAhead_23 rfl rfl ?_
          refine R_ishr hc dX11_laysAhead_24 ?_
          refine R_iconst (v := (1 : Int32)) hc dX11_laysAhead_25 kI_1 ?_
          refine R_iand hc dX11_laysAhead_26 ?_
          refine R_if_ne (tgt := 33) hc dX11_laysAhead_27 (by decide) hw (fun hw => ?_) (fun hw => ?_)
          · refine R_iconst (v := (0 : Int32)) hc dX11_laysAhead_33 kI_0 ?_
            refine R_istore_n (i := 3) (v := (0 : Int32)) hc [(3, .int (0 : Int32)), (0, rf x.w (some l0)), (1, .int l1_17), (2, .int l2_13)] dX11_laysAhead_34 rfl (hnl 3 (le_b rfl)) rfl ?_
            refine R_sub hc [1, 2, 3, 0] rfl ?_
            refine R_loop (P := fun (s : (Int32 × HP)) => Rn x 0 0 35 [(0, rf x.w (some l0)), (1, .int l1_17), (2, .int l2_13), (3, .int s.1)] [] s.2) (fun h7 => Rn x 0 0 53 [(0, rf x.w (some l0)), (1, .int l1_17), (2, .int l2_13)] [] h7) hw (fun r hw => ?_) (fun X hX s hw => ?_)
            · revert r hw
              intro h7 hw
              show Rn x 0 0 53 [(0, rf x.w (some l0)), (1, .int l1_17), (2, .int l2_13)] [] h7
              refine R_iinc (q := 2) (i := 2) (v := l2_13) hc [(2, .int (l2_13 + (1 : Int32))), (0, rf x.w (some l0)), (1, .int l1_17)] dX11_laysAhead_53 rfl (kC_1 _) (hnl 2 (le_b rfl)) rfl ?_
              refine R_goto (tgt := 14) hc dX11_laysAhead_56 (by decide) ?_
              refine R_sub hc [1, 2, 0] rfl ?_
              exact hX (l2_13 + (1 : Int32), h7) (wpO_some hw :)
            · obtain ⟨l3_9, h10⟩ := s
              show Rn x 0 0 35 [(0, rf x.w (some l0)), (1, .int l1_17), (2, .int l2_13), (3, .int l3_9)] [] h10
              have hw : wpO (sX11_laysAhead_L35 F l0 l1_17 l2_13 l3_9 h10) _ := hw
              unfold sX11_laysAhead_L35 at hw
              refine R_iload_n (q := 3) (i := 3) (v := l3_9) hc dX11_laysAhead_35 rfl rfl ?_
              refine R_iconst (v := (4 : Int32)) hc dX11_laysAhead_36 kI_4 ?_
              refine R_icmp_ge (tgt := 53) hc dX11_laysAhead_37 (by decide) hw (fun hw => ?_) (fun hw => ?_)
              · refine R_sub hc [0, 1, 2] rfl ?_
                exact (wpO_some hw :)
              · refine R_aload_n (q := 0) (i := 0) (v := (some l0)) hc dX11_laysAhead_40 rfl rfl ?_
                refine R_iload_n (q := 1) (i := 1) (v := l1_17) hc dX11_laysAhead_41 rfl rfl ?_
                refine R_iload_n (q := 2) (i := 2) (v := l2_13) hc dX11_laysAhead_42 rfl rfl ?_
                refine R_iload_n (q := 3) (i := 3) (v := l3_9) hc dX11_laysAhead_43 rfl rfl ?_
                refine R_cVVi (As := [.int l1_17, .int l2_13, .int l3_9]) (rest := []) (r := (some l0)) (ci := 11) hc ml_11_152 mf_X11_laysAheadOf rfl (by decide) ⟨rfl, rfl⟩ ⟨le_b rfl, le_b rfl⟩ ⟨Nat.zero_le _, Nat.zero_le _⟩ (fun a h' e => mt_X11_laysAheadOf e) rfl rfl (Nat.zero_le _) dX11_laysAhead_44 hw (fun h6 hw => ?_)
                refine R_iinc (q := 3) (i := 3) (v := l3_9) hc [(3, .int (l3_9 + (1 : Int32))), (0, rf x.w (some l0)), (1, .int l1_17), (2, .int l2_13)] dX11_laysAhead_47 rfl (kC_1 _) (hnl 3 (le_b rfl)) rfl ?_
                refine R_goto (tgt := 35) hc dX11_laysAhead_50 (by decide) ?_
                refine R_sub hc [1, 2, 3, 0] rfl ?_
                exact hX (l3_9 + (1 : Int32), h6) (wpO_some hw :)
          · refine R_goto (tgt := 53) hc dX11_laysAhead_30 (by decide) ?_
            refine R_iinc (q := 2) (i := 2) (v := l2_13) hc [(2, .int (l2_13 + (1 : Int32))), (0, rf x.w (some l0)), (1, .int l1_17)] dX11_laysAhead_53 rfl (kC_1 _) (hnl 2 (le_b rfl)) rfl ?_
            refine R_goto (tgt := 14) hc dX11_laysAhead_56 (by decide) ?_
            refine R_sub hc [1, 2, 0] rfl ?_
            exact hX (l2_13 + (1 : Int32), h14) (wpO_some hw :)
theorem dX11_tellsBest_0 : decode cX11_tellsBest 0 = .ok (.lload_n 1, 1) := by decide +kernel
theorem dX11_tellsBest_1 : decode cX11_tellsBest 1 = .ok (.lstore_n 3, 1) := by decide +kernel
theorem dX11_tellsBest_2 : decode cX11_tellsBest 2 = .ok (.iconst 0, 1) := by decide +kernel
theorem dX11_tellsBest_3 : decode cX11_tellsBest 3 = .ok (.istore 5, 2) := by decide +kernel
theorem dX11_tellsBest_5 : decode cX11_tellsBest 5 = .ok (.iconst 0, 1) := by decide +kernel
theorem dX11_tellsBest_6 : decode cX11_tellsBest 6 = .ok (.istore 6, 2) := by decide +kernel
theorem dX11_tellsBest_8 : decode cX11_tellsBest 8 = .ok (.iconst 0, 1) := by decide +kernel
theorem dX11_tellsBest_9 : decode cX11_tellsBest 9 = .ok (.istore 7, 2) := by decide +kernel
theorem dX11_tellsBest_11 : decode cX11_tellsBest 11 = .ok (.iload 7, 2) := by decide +kernel
theorem dX11_tellsBest_13 : decode cX11_tellsBest 13 = .ok (.aload_n 0, 1) := by decide +kernel
theorem dX11_tellsBest_14 : decode cX11_tellsBest 14 = .ok (.invokevirtual 103, 3) := by decide +kernel
theorem dX11_tellsBest_17 : decode cX11_tellsBest 17 = .ok (.if_icmp .ge 205, 3) := by decide +kernel
theorem dX11_tellsBest_20 : decode cX11_tellsBest 20 = .ok (.iconst 0, 1) := by decide +kernel
theorem dX11_tellsBest_21 : decode cX11_tellsBest 21 = .ok (.istore 8, 2) := by decide +kernel
theorem dX11_tellsBest_23 : decode cX11_tellsBest 23 = .ok (.iconst 0, 1) := by decide +kernel
theorem dX11_tellsBest_24 : decode cX11_tellsBest 24 = .ok (.istore 9, 2) := by decide +kernel
theorem dX11_tellsBest_26 : decode cX11_tellsBest 26 = .ok (.iload 9, 2) := by decide +kernel
theorem dX11_tellsBest_28 : decode cX11_tellsBest 28 = .ok (.iconst 4, 1) := by decide +kernel
theorem dX11_tellsBest_29 : decode cX11_tellsBest 29 = .ok (.aload_n 0, 1) := by decide +kernel
theorem dX11_tellsBest_30 : decode cX11_tellsBest 30 = .ok (.invokevirtual 103, 3) := by decide +kernel
theorem dX11_tellsBest_33 : decode cX11_tellsBest 33 = .ok (.imul, 1) := by decide +kernel
theorem dX11_tellsBest_34 : decode cX11_tellsBest 34 = .ok (.if_icmp .ge 182, 3) := by decide +kernel
theorem dX11_tellsBest_37 : decode cX11_tellsBest 37 = .ok (.iload 8, 2) := by decide +kernel
theorem dX11_tellsBest_39 : decode cX11_tellsBest 39 = .ok (.ifCond .ne 177, 3) := by decide +kernel
theorem dX11_tellsBest_42 : decode cX11_tellsBest 42 = .ok (.iload 9, 2) := by decide +kernel
theorem dX11_tellsBest_44 : decode cX11_tellsBest 44 = .ok (.iconst 4, 1) := by decide +kernel
theorem dX11_tellsBest_45 : decode cX11_tellsBest 45 = .ok (.idiv, 1) := by decide +kernel
theorem dX11_tellsBest_46 : decode cX11_tellsBest 46 = .ok (.istore 10, 2) := by decide +kernel
theorem dX11_tellsBest_48 : decode cX11_tellsBest 48 = .ok (.iload 9, 2) := by decide +kernel
theorem dX11_tellsBest_50 : decode cX11_tellsBest 50 = .ok (.iconst 4, 1) := by decide +kernel
theorem dX11_tellsBest_51 : decode cX11_tellsBest 51 = .ok (.irem, 1) := by decide +kernel
theorem dX11_tellsBest_52 : decode cX11_tellsBest 52 = .ok (.istore 11, 2) := by decide +kernel
theorem dX11_tellsBest_54 : decode cX11_tellsBest 54 = .ok (.iload 5, 2) := by decide +kernel
theorem dX11_tellsBest_56 : decode cX11_tellsBest 56 = .ok (.iload 10, 2) := by decide +kernel
theorem dX11_tellsBest_58 : decode cX11_tellsBest 58 = .ok (.ishr, 1) := by decide +kernel
theorem dX11_tellsBest_59 : decode cX11_tellsBest 59 = .ok (.iconst 1, 1) := by decide +kernel
theorem dX11_tellsBest_60 : decode cX11_tellsBest 60 = .ok (.iand, 1) := by decide +kernel
theorem dX11_tellsBest_61 : decode cX11_tellsBest 61 = .ok (.iconst 1, 1) := by decide +kernel
theorem dX11_tellsBest_62 : decode cX11_tellsBest 62 = .ok (.if_icmp .ne 6, 3) := by decide +kernel
theorem dX11_tellsBest_65 : decode cX11_tellsBest 65 = .ok (.goto 145, 3) := by decide +kernel
theorem dX11_tellsBest_68 : decode cX11_tellsBest 68 = .ok (.iload 7, 2) := by decide +kernel
theorem dX11_tellsBest_70 : decode cX11_tellsBest 70 = .ok (.ifCond .le 36, 3) := by decide +kernel
theorem dX11_tellsBest_73 : decode cX11_tellsBest 73 = .ok (.aload_n 0, 1) := by decide +kernel
theorem dX11_tellsBest_74 : decode cX11_tellsBest 74 = .ok (.aload_n 0, 1) := by decide +kernel
theorem dX11_tellsBest_75 : decode cX11_tellsBest 75 = .ok (.getfield 45, 3) := by decide +kernel
theorem dX11_tellsBest_78 : decode cX11_tellsBest 78 = .ok (.iload 7, 2) := by decide +kernel
theorem dX11_tellsBest_80 : decode cX11_tellsBest 80 = .ok (.iconst 1, 1) := by decide +kernel
theorem dX11_tellsBest_81 : decode cX11_tellsBest 81 = .ok (.isub, 1) := by decide +kernel
theorem dX11_tellsBest_82 : decode cX11_tellsBest 82 = .ok (.iaload, 1) := by decide +kernel
theorem dX11_tellsBest_83 : decode cX11_tellsBest 83 = .ok (.aload_n 0, 1) := by decide +kernel
theorem dX11_tellsBest_84 : decode cX11_tellsBest 84 = .ok (.getfield 48, 3) := by decide +kernel
theorem dX11_tellsBest_87 : decode cX11_tellsBest 87 = .ok (.iload 7, 2) := by decide +kernel
theorem dX11_tellsBest_89 : decode cX11_tellsBest 89 = .ok (.iconst 1, 1) := by decide +kernel
theorem dX11_tellsBest_90 : decode cX11_tellsBest 90 = .ok (.isub, 1) := by decide +kernel
theorem dX11_tellsBest_91 : decode cX11_tellsBest 91 = .ok (.iaload, 1) := by decide +kernel
theorem dX11_tellsBest_92 : decode cX11_tellsBest 92 = .ok (.iload 10, 2) := by decide +kernel
theorem dX11_tellsBest_94 : decode cX11_tellsBest 94 = .ok (.iload 11, 2) := by decide +kernel
theorem dX11_tellsBest_96 : decode cX11_tellsBest 96 = .ok (.invokevirtual 127, 3) := by decide +kernel
theorem dX11_tellsBest_99 : decode cX11_tellsBest 99 = .ok (.ifCond .le 7, 3) := by decide +kernel
theorem dX11_tellsBest_102 : decode cX11_tellsBest 102 = .ok (.iconst 1, 1) := by decide +kernel
theorem dX11_tellsBest_103 : decode cX11_tellsBest 103 = .ok (.goto 4, 3) := by decide +kernel
theorem dX11_tellsBest_106 : decode cX11_tellsBest 106 = .ok (.iconst 0, 1) := by decide +kernel
theorem dX11_tellsBest_107 : decode cX11_tellsBest 107 = .ok (.istore 12, 2) := by decide +kernel
theorem dX11_tellsBest_109 : decode cX11_tellsBest 109 = .ok (.iload 5, 2) := by decide +kernel
theorem dX11_tellsBest_111 : decode cX11_tellsBest 111 = .ok (.iconst 1, 1) := by decide +kernel
theorem dX11_tellsBest_112 : decode cX11_tellsBest 112 = .ok (.iload 10, 2) := by decide +kernel
theorem dX11_tellsBest_114 : decode cX11_tellsBest 114 = .ok (.ishl, 1) := by decide +kernel
theorem dX11_tellsBest_115 : decode cX11_tellsBest 115 = .ok (.ior, 1) := by decide +kernel
theorem dX11_tellsBest_116 : decode cX11_tellsBest 116 = .ok (.iload 10, 2) := by decide +kernel
theorem dX11_tellsBest_118 : decode cX11_tellsBest 118 = .ok (.iload 11, 2) := by decide +kernel
theorem dX11_tellsBest_120 : decode cX11_tellsBest 120 = .ok (.invokestatic 123, 3) := by decide +kernel
theorem dX11_tellsBest_123 : decode cX11_tellsBest 123 = .ok (.istore 13, 2) := by decide +kernel
theorem dX11_tellsBest_125 : decode cX11_tellsBest 125 = .ok (.iload 6, 2) := by decide +kernel
theorem dX11_tellsBest_127 : decode cX11_tellsBest 127 = .ok (.iload 12, 2) := by decide +kernel
theorem dX11_tellsBest_129 : decode cX11_tellsBest 129 = .ok (.iadd, 1) := by decide +kernel
theorem dX11_tellsBest_130 : decode cX11_tellsBest 130 = .ok (.aload_n 0, 1) := by decide +kernel
theorem dX11_tellsBest_131 : decode cX11_tellsBest 131 = .ok (.getfield 29, 3) := by decide +kernel
theorem dX11_tellsBest_134 : decode cX11_tellsBest 134 = .ok (.iload 13, 2) := by decide +kernel
theorem dX11_tellsBest_136 : decode cX11_tellsBest 136 = .ok (.iaload, 1) := by decide +kernel
theorem dX11_tellsBest_137 : decode cX11_tellsBest 137 = .ok (.iadd, 1) := by decide +kernel
theorem dX11_tellsBest_138 : decode cX11_tellsBest 138 = .ok (.aload_n 0, 1) := by decide +kernel
theorem dX11_tellsBest_139 : decode cX11_tellsBest 139 = .ok (.getfield 142, 3) := by decide +kernel
theorem dX11_tellsBest_142 : decode cX11_tellsBest 142 = .ok (.if_icmp .eq 6, 3) := by decide +kernel
theorem dX11_tellsBest_145 : decode cX11_tellsBest 145 = .ok (.goto 65, 3) := by decide +kernel
theorem dX11_tellsBest_148 : decode cX11_tellsBest 148 = .ok (.lload_n 3, 1) := by decide +kernel
theorem dX11_tellsBest_149 : decode cX11_tellsBest 149 = .ok (.aload_n 0, 1) := by decide +kernel
theorem dX11_tellsBest_150 : decode cX11_tellsBest 150 = .ok (.getfield 32, 3) := by decide +kernel
theorem dX11_tellsBest_153 : decode cX11_tellsBest 153 = .ok (.iload 13, 2) := by decide +kernel
theorem dX11_tellsBest_155 : decode cX11_tellsBest 155 = .ok (.laload, 1) := by decide +kernel
theorem dX11_tellsBest_156 : decode cX11_tellsBest 156 = .ok (.lcmp, 1) := by decide +kernel
theorem dX11_tellsBest_157 : decode cX11_tellsBest 157 = .ok (.ifCond .lt 16, 3) := by decide +kernel
theorem dX11_tellsBest_160 : decode cX11_tellsBest 160 = .ok (.lload_n 3, 1) := by decide +kernel
theorem dX11_tellsBest_161 : decode cX11_tellsBest 161 = .ok (.aload_n 0, 1) := by decide +kernel
theorem dX11_tellsBest_162 : decode cX11_tellsBest 162 = .ok (.getfield 32, 3) := by decide +kernel
theorem dX11_tellsBest_165 : decode cX11_tellsBest 165 = .ok (.iload 13, 2) := by decide +kernel
theorem dX11_tellsBest_167 : decode cX11_tellsBest 167 = .ok (.laload, 1) := by decide +kernel
theorem dX11_tellsBest_168 : decode cX11_tellsBest 168 = .ok (.lsub, 1) := by decide +kernel
theorem dX11_tellsBest_169 : decode cX11_tellsBest 169 = .ok (.lstore_n 3, 1) := by decide +kernel
theorem dX11_tellsBest_170 : decode cX11_tellsBest 170 = .ok (.goto 40, 3) := by decide +kernel
theorem dX11_tellsBest_173 : decode cX11_tellsBest 173 = .ok (.iconst 1, 1) := by decide +kernel
theorem dX11_tellsBest_174 : decode cX11_tellsBest 174 = .ok (.istore 8, 2) := by decide +kernel
theorem dX11_tellsBest_176 : decode cX11_tellsBest 176 = .ok (.aload_n 0, 1) := by decide +kernel
theorem dX11_tellsBest_177 : decode cX11_tellsBest 177 = .ok (.getfield 45, 3) := by decide +kernel
theorem dX11_tellsBest_180 : decode cX11_tellsBest 180 = .ok (.iload 7, 2) := by decide +kernel
theorem dX11_tellsBest_182 : decode cX11_tellsBest 182 = .ok (.iload 10, 2) := by decide +kernel
theorem dX11_tellsBest_184 : decode cX11_tellsBest 184 = .ok (.iastore, 1) := by decide +kernel
theorem dX11_tellsBest_185 : decode cX11_tellsBest 185 = .ok (.aload_n 0, 1) := by decide +kernel
theorem dX11_tellsBest_186 : decode cX11_tellsBest 186 = .ok (.getfield 48, 3) := by decide +kernel
theorem dX11_tellsBest_189 : decode cX11_tellsBest 189 = .ok (.iload 7, 2) := by decide +kernel
theorem dX11_tellsBest_191 : decode cX11_tellsBest 191 = .ok (.iload 11, 2) := by decide +kernel
theorem dX11_tellsBest_193 : decode cX11_tellsBest 193 = .ok (.iastore, 1) := by decide +kernel
theorem dX11_tellsBest_194 : decode cX11_tellsBest 194 = .ok (.iload 5, 2) := by decide +kernel
theorem dX11_tellsBest_196 : decode cX11_tellsBest 196 = .ok (.iconst 1, 1) := by decide +kernel
theorem dX11_tellsBest_197 : decode cX11_tellsBest 197 = .ok (.iload 10, 2) := by decide +kernel
theorem dX11_tellsBest_199 : decode cX11_tellsBest 199 = .ok (.ishl, 1) := by decide +kernel
theorem dX11_tellsBest_200 : decode cX11_tellsBest 200 = .ok (.ior, 1) := by decide +kernel
theorem dX11_tellsBest_201 : decode cX11_tellsBest 201 = .ok (.istore 5, 2) := by decide +kernel
theorem dX11_tellsBest_203 : decode cX11_tellsBest 203 = .ok (.iload 6, 2) := by decide +kernel
theorem dX11_tellsBest_205 : decode cX11_tellsBest 205 = .ok (.iload 12, 2) := by decide +kernel
theorem dX11_tellsBest_207 : decode cX11_tellsBest 207 = .ok (.iadd, 1) := by decide +kernel
theorem dX11_tellsBest_208 : decode cX11_tellsBest 208 = .ok (.istore 6, 2) := by decide +kernel
theorem dX11_tellsBest_210 : decode cX11_tellsBest 210 = .ok (.iinc 9 1, 3) := by decide +kernel
theorem dX11_tellsBest_213 : decode cX11_tellsBest 213 = .ok (.goto (-187), 3) := by decide +kernel
theorem dX11_tellsBest_216 : decode cX11_tellsBest 216 = .ok (.iinc 7 1, 3) := by decide +kernel
theorem dX11_tellsBest_219 : decode cX11_tellsBest 219 = .ok (.goto (-208), 3) := by decide +kernel
theorem dX11_tellsBest_222 : decode cX11_tellsBest 222 = .ok (.return_, 1) := by decide +kernel
def sX11_tellsBest_L26 (F : Nat) (l0 : Nat) (l7 : Int32) (l3 : Int64) (l5 : Int32) (l6 : Int32) (l8 : Int32) (l9 : Int32) (h : HP) : Option ((Int64 × Int32 × Int32 × Int32 × Int32 × HP) ⊕ (Int64 × Int32 × Int32 × HP)) :=
  (dO h 11 (some l0)).bind fun a3 =>
  (sX11_fingers F a3 h).bind fun t4 =>
  if ((4 : Int32) * t4) ≤ l9 then
    some (.inr (l3, l5, l6, h))
  else
    if ¬ l8 = 0 then
      some (.inr (l3, l5, l6, h))
    else
      nmI (l9 / (4 : Int32)) fun l10_5 =>
      nmI (jrem l9 (4 : Int32)) fun l11_6 =>
      if ¬ ((jshr l5 l10_5) &&& (1 : Int32)) = (1 : Int32) then
        (if l7 ≤ 0 then
            some (0 : Int32)
          else
            (gR h 11 (some l0) 20).bind fun t8 =>
            (aI h 13 t8 (l7 - (1 : Int32))).bind fun t9 =>
            (gR h 11 (some l0) 21).bind fun t10 =>
            (aI h 13 t10 (l7 - (1 : Int32))).bind fun t11 =>
            (dO h 11 (some l0)).bind fun a12 =>
            (sX11_lacks F a12 t9 t11 l10_5 l11_6 h).bind fun t13 =>
            if t13 ≤ 0 then
              some (0 : Int32)
            else
              some (1 : Int32)).bind fun s7 =>
        (sX11_state F (l5 ||| (jshl (1 : Int32) l10_5)) l10_5 l11_6 h).bind fun t14 =>
        (gR h 11 (some l0) 12).bind fun t15 =>
        (aI h 13 t15 t14).bind fun t16 =>
        (gI h 11 (some l0) 17).bind fun t17 =>
        if ((l6 + s7) + t16) = t17 then
          (gR h 11 (some l0) 13).bind fun t18 =>
          (aJ h t18 t14).bind fun t19 =>
          if (lg_cmp l3 t19) < 0 then
            (gR h 11 (some l0) 20).bind fun t20 =>
            (sI h t20 l7 l10_5).bind fun h21 =>
            (gR h21 11 (some l0) 21).bind fun t22 =>
            (sI h21 t22 l7 l11_6).bind fun h23 =>
            nmI (l5 ||| (jshl (1 : Int32) l10_5)) fun l5_24 =>
            nmI (l6 + s7) fun l6_25 =>
            some (.inl (l3, l5_24, l6_25, (1 : Int32), l9 + (1 : Int32), h23))
          else
            (gR h 11 (some l0) 13).bind fun t26 =>
            (aJ h t26 t14).bind fun t27 =>
            nmJ (l3 - t27) fun l3_28 =>
            some (.inl (l3_28, l5, l6, l8, l9 + (1 : Int32), h))
        else
          some (.inl (l3, l5, l6, l8, l9 + (1 : Int32), h))
      else
        some (.inl (l3, l5, l6, l8, l9 + (1 : Int32), h))
def sX11_tellsBest_L11 (F : Nat) (l0 : Nat) (l3 : Int64) (l5 : Int32) (l6 : Int32) (l7 : Int32) (h : HP) : Option ((Int64 × Int32 × Int32 × Int32 × HP) ⊕ HP) :=
  (dO h 11 (some l0)).bind fun a1 =>
  (sX11_fingers F a1 h).bind fun t2 =>
  if t2 ≤ l7 then
    some (.inr h)
  else
    (iter (fun s => sX11_tellsBest_L26 F l0 l7 s.1 s.2.1 s.2.2.1 s.2.2.2.1 s.2.2.2.2.1 s.2.2.2.2.2) F (l3, l5, l6, (0 : Int32), (0 : Int32), h)).bind fun r => match r with
    | (l3_29, l5_30, l6_31, h32) =>
      some (.inl (l3_29, l5_30, l6_31, l7 + (1 : Int32), h32))
def sX11_tellsBest (F : Nat) (l0 : Nat) (l1 : Int64) (h : HP) : Option HP :=
  (iter (fun s => sX11_tellsBest_L11 F l0 s.1 s.2.1 s.2.2.1 s.2.2.2.1 s.2.2.2.2) F (l1, (0 : Int32), (0 : Int32), (0 : Int32), h)).bind fun h40 =>
    some h40
abbrev rm_X11_tellsBest : Room := { frames := 4, cells := 0, slots := 0, locals := 96 }
set_option maxRecDepth 100000 in
set_option maxHeartbeats 4000000 in
theorem mt_X11_tellsBest {w : WD} {l : Launch} {F : Nat} {l0 : Nat} {l1 : Int64} {h : HP} {h' : HP} (hs : sX11_tellsBest F l0 l1 h = some h') : MV w l yX11_tellsBest cX11_tellsBest 14 rm_X11_tellsBest 0 0 [rf w (some l0), .long l1] h h' := by
  refine of_body [(0, rf w (some l0)), (1, .long l1)] (by decide) (by simp [lg_sl, rf_cat, cat_i, cat_l, cat_a]) (by simp [lv_args, rf_cat, cat_i, cat_l, cat_a]) ?_
  intro x hw_ hnL_ hl_ hc hret hnm hQ
  subst hw_; subst hl_
  have hnl : ∀ i, i < 14 → i < x.nL := fun i h => by rw [hnL_]; exact h
  have hw : wpO (sX11_tellsBest F l0 l1 h) (fun r => r = h') := ⟨_, hs, rfl⟩
  unfold sX11_tellsBest at hw
  refine R_lload_n (q := 1) (i := 1) (v := l1) hc dX11_tellsBest_0 rfl rfl ?_
  refine R_lstore_n (i := 3) (v := l1) hc [(3, .long l1), (0, rf x.w (some l0)), (1, .long l1)] dX11_tellsBest_1 rfl (hnl 4 (le_b rfl)) rfl ?_
  refine R_iconst (v := (0 : Int32)) hc dX11_tellsBest_2 kI_0 ?_
  refine R_istore (i := 5) (v := (0 : Int32)) hc [(5, .int (0 : Int32)), (3, .long l1), (0, rf x.w (some l0)), (1, .long l1)] dX11_tellsBest_3 (hnl 5 (le_b rfl)) rfl ?_
  refine R_iconst (v := (0 : Int32)) hc dX11_tellsBest_5 kI_0 ?_
  refine R_istore (i := 6) (v := (0 : Int32)) hc [(6, .int (0 : Int32)), (5, .int (0 : Int32)), (3, .long l1), (0, rf x.w (some l0)), (1, .long l1)] dX11_tellsBest_6 (hnl 6 (le_b rfl)) rfl ?_
  refine R_iconst (v := (0 : Int32)) hc dX11_tellsBest_8 kI_0 ?_
  refine R_istore (i := 7) (v := (0 : Int32)) hc [(7, .int (0 : Int32)), (6, .int (0 : Int32)), (5, .int (0 : Int32)), (3, .long l1), (0, rf x.w (some l0)), (1, .long l1)] dX11_tellsBest_9 (hnl 7 (le_b rfl)) rfl ?_
  refine R_sub hc [4, 3, 2, 1, 0] rfl ?_
  refine R_loop (P := fun (s : (Int64 × Int32 × Int32 × Int32 × HP)) => Rn x 0 0 11 [(0, rf x.w (some l0)), (3, .long s.1), (5, .int s.2.1), (6, .int s.2.2.1), (7, .int s.2.2.2.1)] [] s.2.2.2.2) (fun h40 => Rn x 0 0 222 [] [] h40) hw (fun r hw => ?_) (fun X hX s hw => ?_)
  · revert r hw
    intro h40 hw
    show Rn x 0 0 222 [] [] h40
    exact R_return hc hret hQ hw dX11_tellsBest_222
  · obtain ⟨l3_42, l5_43, l6_44, l7_45, h46⟩ := s
    show Rn x 0 0 11 [(0, rf x.w (some l0)), (3, .long l3_42), (5, .int l5_43), (6, .int l6_44), (7, .int l7_45)] [] h46
    have hw : wpO (sX11_tellsBest_L11 F l0 l3_42 l5_43 l6_44 l7_45 h46) _ := hw
    unfold sX11_tellsBest_L11 at hw
    refine R_iload (q := 4) (i := 7) (v := l7_45) hc dX11_tellsBest_11 rfl ?_
    refine R_aload_n (q := 0) (i := 0) (v := (some l0)) hc dX11_tellsBest_13 rfl rfl ?_
    refine R_cVI (As := []) (rest := [.int l7_45]) (r := (some l0)) (ci := 11) hc ml_11_103 mf_X11_fingers rfl (by decide) ⟨rfl, rfl⟩ ⟨le_b rfl, le_b rfl⟩ ⟨Nat.zero_le _, Nat.zero_le _⟩ (fun a v e => mt_X11_fingers e) rfl rfl (le_b rfl) dX11_tellsBest_14 hw (fun t2 hw => ?_)
    refine R_icmp_ge (tgt := 222) hc dX11_tellsBest_17 (by decide) hw (fun hw => ?_) (fun hw => ?_)
    · refine R_sub hc [] rfl ?_
      exact (wpO_some hw :)
    · refine R_iconst (v := (0 : Int32)) hc dX11_tellsBest_20 kI_0 ?_
      refine R_istore (i := 8) (v := (0 : Int32)) hc [(8, .int (0 : Int32)), (0, rf x.w (some l0)), (3, .long l3_42), (5, .int l5_43), (6, .int l6_44), (7, .int l7_45)] dX11_tellsBest_21 (hnl 8 (le_b rfl)) rfl ?_
      refine R_iconst (v := (0 : Int32)) hc dX11_tellsBest_23 kI_0 ?_
      refine R_istore (i := 9) (v := (0 : Int32)) hc [(9, .int (0 : Int32)), (8, .int (0 : Int32)), (0, rf x.w (some l0)), (3, .long l3_42), (5, .int l5_43), (6, .int l6_44), (7, .int l7_45)] dX11_tellsBest_24 (hnl 9 (le_b rfl)) rfl ?_
      refine R_sub hc [2, 3, 4, 5, 6, 1, 0] rfl ?_
      refine R_loop (P := fun (s : (Int64 × Int32 × Int32 × Int32 × Int32 × HP)) => Rn x 0 0 26 [(0, rf x.w (some l0)), (3, .long s.1), (5, .int s.2.1), (6, .int s.2.2.1), (7, .int l7_45), (8, .int s.2.2.2.1), (9, .int s.2.2.2.2.1)] [] s.2.2.2.2.2) (fun r => match r with | (l3_29, l5_30, l6_31, h32) => Rn x 0 0 216 [(0, rf x.w (some l0)), (3, .long l3_29), (5, .int l5_30), (6, .int l6_31), (7, .int l7_45)] [] h32) hw (fun r hw => ?_) (fun X hX s hw => ?_)
      · obtain ⟨l3_29, l5_30, l6_31, h32⟩ := r
        show Rn x 0 0 216 [(0, rf x.w (some l0)), (3, .long l3_29), (5, .int l5_30), (6, .int l6_31), (7, .int l7_45)] [] h32
        refine R_iinc (q := 4) (i := 7) (v := l7_45) hc [(7, .int (l7_45 + (1 : Int32))), (0, rf x.w (some l0)), (3, .long l3_29), (5, .int l5_30), (6, .int l6_31)] dX11_tellsBest_216 rfl (kC_1 _) (hnl 7 (le_b rfl)) rfl ?_
        refine R_goto (tgt := 11) hc dX11_tellsBest_219 (by decide) ?_
        refine R_sub hc [1, 2, 3, 4, 0] rfl ?_
        exact hX (l3_29, l5_30, l6_31, l7_45 + (1 : Int32), h32) (wpO_some hw :)
      · obtain ⟨l3_34, l5_35, l6_36, l8_37, l9_38, h39⟩ := s
        show Rn x 0 0 26 [(0, rf x.w (some l0)), (3, .long l3_34), (5, .int l5_35), (6, .int l6_36), (7, .int l7_45), (8, .int l8_37), (9, .int l9_38)] [] h39
        have hw : wpO (sX11_tellsBest_L26 F l0 l7_45 l3_34 l5_35 l6_36 l8_37 l9_38 h39) _ := hw
        unfold sX11_tellsBest_L26 at hw
        refine R_iload (q := 6) (i := 9) (v := l9_38) hc dX11_tellsBest_26 rfl ?_
        refine R_iconst (v := (4 : Int32)) hc dX11_tellsBest_28 kI_4 ?_
        refine R_aload_n (q := 0) (i := 0) (v := (some l0)) hc dX11_tellsBest_29 rfl rfl ?_
        refine R_cVI (As := []) (rest := [.int (4 : Int32), .int l9_38]) (r := (some l0)) (ci := 11) hc ml_11_103 mf_X11_fingers rfl (by decide) ⟨rfl, rfl⟩ ⟨le_b rfl, le_b rfl⟩ ⟨Nat.zero_le _, Nat.zero_le _⟩ (fun a v e => mt_X11_fingers e) rfl rfl (le_b rfl) dX11_tellsBest_30 hw (fun t4 hw => ?_)
        refine R_imul hc dX11_tellsBest_33 ?_
        refine R_icmp_ge (tgt := 216) hc dX11_tellsBest_34 (by decide) hw (fun hw => ?_) (fun hw => ?_)
        · refine R_sub hc [0, 1, 2, 3, 4] rfl ?_
          exact (wpO_some hw :)
        · refine R_iload (q := 5) (i := 8) (v := l8_37) hc dX11_tellsBest_37 rfl ?_
          refine R_if_ne (tgt := 216) hc dX11_tellsBest_39 (by decide) hw (fun hw => ?_) (fun hw => ?_)
          · refine R_sub hc [0, 1, 2, 3, 4] rfl ?_
            exact (wpO_some hw :)
          · refine R_iload (q := 6) (i := 9) (v := l9_38) hc dX11_tellsBest_42 rfl ?_
            refine R_iconst (v := (4 : Int32)) hc dX11_tellsBest_44 kI_4 ?_
            refine R_idivL hc dX11_tellsBest_45 (by decide) ?_
            refine R_nmI hw (fun l10_5 hw => ?_)
            refine R_istore (i := 10) (v := l10_5) hc [(10, .int l10_5), (0, rf x.w (some l0)), (3, .long l3_34), (5, .int l5_35), (6, .int l6_36), (7, .int l7_45), (8, .int l8_37), (9, .int l9_38)] dX11_tellsBest_46 (hnl 10 (le_b rfl)) rfl ?_
            refine R_iload (q := 7) (i := 9) (v := l9_38) hc dX11_tellsBest_48 rfl ?_
            refine R_iconst (v := (4 : Int32)) hc dX11_tellsBest_50 kI_4 ?_
            refine R_iremL hc dX11_tellsBest_51 (by decide) ?_
            refine R_nmI hw (fun l11_6 hw => ?_)
            refine R_istore (i := 11) (v := l11_6) hc [(11, .int l11_6), (10, .int l10_5), (0, rf x.w (some l0)), (3, .long l3_34), (5, .int l5_35), (6, .int l6_36), (7, .int l7_45), (8, .int l8_37), (9, .int l9_38)] dX11_tellsBest_52 (hnl 11 (le_b rfl)) rfl ?_
            refine R_iload (q := 4) (i := 5) (v := l5_35) hc dX11_tellsBest_54 rfl ?_
            refine R_iload (q := 1) (i := 10) (v := l10_5) hc dX11_tellsBest_56 rfl ?_
            refine R_ishr hc dX11_tellsBest_58 ?_
            refine R_iconst (v := (1 : Int32)) hc dX11_tellsBest_59 kI_1 ?_
            refine R_iand hc dX11_tellsBest_60 ?_
            refine R_iconst (v := (1 : Int32)) hc dX11_tellsBest_61 kI_1 ?_
            refine R_icmp_ne (tgt := 68) hc dX11_tellsBest_62 (by decide) hw (fun hw => ?_) (fun hw => ?_)
            · refine R_iload (q := 6) (i := 7) (v := l7_45) hc dX11_tellsBest_68 rfl ?_
              refine R_join (fun (s7 : Int32) => Rn x 0 0 107 [(0, rf x.w (some l0)), (3, .long l3_34), (5, .int l5_35), (6, .int l6_36), (7, .int l7_45), (8, .int l8_37), (9, .int l9_38), (10, .int l10_5), (11, .int l11_6)] [.int s7] h39) hw (fun r hw => ?_) (fun hw => ?_)
              · revert r hw
                intro s7 hw
                show Rn x 0 0 107 [(0, rf x.w (some l0)), (3, .long l3_34), (5, .int l5_35), (6, .int l6_36), (7, .int l7_45), (8, .int l8_37), (9, .int l9_38), (10, .int l10_5), (11, .int l11_6)] [.int s7] h39
                refine R_istore (i := 12) (v := s7) hc [(12, .int s7), (0, rf x.w (some l0)), (3, .long l3_34), (5, .int l5_35), (6, .int l6_36), (7, .int l7_45), (8, .int l8_37), (9, .int l9_38), (10, .int l10_5), (11, .int l11_6)] dX11_tellsBest_107 (hnl 12 (le_b rfl)) rfl ?_
                refine R_iload (q := 3) (i := 5) (v := l5_35) hc dX11_tellsBest_109 rfl ?_
                refine R_iconst (v := (1 : Int32)) hc dX11_tellsBest_111 kI_1 ?_
                refine R_iload (q := 8) (i := 10) (v := l10_5) hc dX11_tellsBest_112 rfl ?_
                refine R_ishl hc dX11_tellsBest_114 ?_
                refine R_ior hc dX11_tellsBest_115 ?_
                refine R_iload (q := 8) (i := 10) (v := l10_5) hc dX11_tellsBest_116 rfl ?_
                refine R_iload (q := 9) (i := 11) (v := l11_6) hc dX11_tellsBest_118 rfl ?_
                refine R_cSI (As := [.int (l5_35 ||| (jshl (1 : Int32) l10_5)), .int l10_5, .int l11_6]) (rest := []) hc ml_11_123 mf_X11_state ⟨rfl, rfl⟩ ⟨le_b rfl, le_b rfl⟩ ⟨Nat.zero_le _, Nat.zero_le _⟩ (fun v e => mt_X11_state e) rfl rfl (Nat.zero_le _) dX11_tellsBest_120 hw (fun t14 hw => ?_)
                refine R_istore (i := 13) (v := t14) hc [(13, .int t14), (12, .int s7), (0, rf x.w (some l0)), (3, .long l3_34), (5, .int l5_35), (6, .int l6_36), (7, .int l7_45), (8, .int l8_37), (9, .int l9_38), (10, .int l10_5), (11, .int l11_6)] dX11_tellsBest_123 (hnl 13 (le_b rfl)) rfl ?_
                refine R_iload (q := 5) (i := 6) (v := l6_36) hc dX11_tellsBest_125 rfl ?_
                refine R_iload (q := 1) (i := 12) (v := s7) hc dX11_tellsBest_127 rfl ?_
                refine R_iadd hc dX11_tellsBest_129 ?_
                refine R_aload_n (q := 2) (i := 0) (v := (some l0)) hc dX11_tellsBest_130 rfl rfl ?_
                refine R_getR hc fl_11_29 dX11_tellsBest_131 hw (fun t15 hw => ?_)
                refine R_iload (q := 0) (i := 13) (v := t14) hc dX11_tellsBest_134 rfl ?_
                refine R_iaload hc dX11_tellsBest_136 hw (fun t16 hw => ?_)
                refine R_iadd hc dX11_tellsBest_137 ?_
                refine R_aload_n (q := 2) (i := 0) (v := (some l0)) hc dX11_tellsBest_138 rfl rfl ?_
                refine R_getI hc fl_11_142 dX11_tellsBest_139 hw (fun t17 hw => ?_)
                refine R_icmp_eq (tgt := 148) hc dX11_tellsBest_142 (by decide) hw (fun hw => ?_) (fun hw => ?_)
                · refine R_lload_n (q := 3) (i := 3) (v := l3_34) hc dX11_tellsBest_148 rfl rfl ?_
                  refine R_aload_n (q := 2) (i := 0) (v := (some l0)) hc dX11_tellsBest_149 rfl rfl ?_
                  refine R_getR hc fl_11_32 dX11_tellsBest_150 hw (fun t18 hw => ?_)
                  refine R_iload (q := 0) (i := 13) (v := t14) hc dX11_tellsBest_153 rfl ?_
                  refine R_laload hc dX11_tellsBest_155 hw (fun t19 hw => ?_)
                  refine R_lcmp hc dX11_tellsBest_156 ?_
                  refine R_if_lt (tgt := 173) hc dX11_tellsBest_157 (by decide) hw (fun hw => ?_) (fun hw => ?_)
                  · refine R_iconst (v := (1 : Int32)) hc dX11_tellsBest_173 kI_1 ?_
                    refine R_istore (i := 8) (v := (1 : Int32)) hc [(8, .int (1 : Int32)), (13, .int t14), (12, .int s7), (0, rf x.w (some l0)), (3, .long l3_34), (5, .int l5_35), (6, .int l6_36), (7, .int l7_45), (9, .int l9_38), (10, .int l10_5), (11, .int l11_6)] dX11_tellsBest_174 (hnl 8 (le_b rfl)) rfl ?_
                    refine R_aload_n (q := 3) (i := 0) (v := (some l0)) hc dX11_tellsBest_176 rfl rfl ?_
                    refine R_getR hc fl_11_45 dX11_tellsBest_177 hw (fun t20 hw => ?_)
                    refine R_iload (q := 7) (i := 7) (v := l7_45) hc dX11_tellsBest_180 rfl ?_
                    refine R_iload (q := 9) (i := 10) (v := l10_5) hc dX11_tellsBest_182 rfl ?_
                    refine R_iastore hc dX11_tellsBest_184 hw (fun h21 hw => ?_)
                    refine R_aload_n (q := 3) (i := 0) (v := (some l0)) hc dX11_tellsBest_185 rfl rfl ?_
                    refine R_getR hc fl_11_48 dX11_tellsBest_186 hw (fun t22 hw => ?_)
                    refine R_iload (q := 7) (i := 7) (v := l7_45) hc dX11_tellsBest_189 rfl ?_
                    refine R_iload (q := 10) (i := 11) (v := l11_6) hc dX11_tellsBest_191 rfl ?_
                    refine R_iastore hc dX11_tellsBest_193 hw (fun h23 hw => ?_)
                    refine R_iload (q := 5) (i := 5) (v := l5_35) hc dX11_tellsBest_194 rfl ?_
                    refine R_iconst (v := (1 : Int32)) hc dX11_tellsBest_196 kI_1 ?_
                    refine R_iload (q := 9) (i := 10) (v := l10_5) hc dX11_tellsBest_197 rfl ?_
                    refine R_ishl hc dX11_tellsBest_199 ?_
                    refine R_ior hc dX11_tellsBest_200 ?_
                    refine R_nmI hw (fun l5_24 hw => ?_)
                    refine R_istore (i := 5) (v := l5_24) hc [(5, .int l5_24), (8, .int (1 : Int32)), (13, .int t14), (12, .int s7), (0, rf x.w (some l0)), (3, .long l3_34), (6, .int l6_36), (7, .int l7_45), (9, .int l9_38), (10, .int l10_5), (11, .int l11_6)] dX11_tellsBest_201 (hnl 5 (le_b rfl)) rfl ?_
                    refine R_iload (q := 6) (i := 6) (v := l6_36) hc dX11_tellsBest_203 rfl ?_
                    refine R_iload (q := 3) (i := 12) (v := s7) hc dX11_tellsBest_205 rfl ?_
                    refine R_iadd hc dX11_tellsBest_207 ?_
                    refine R_nmI hw (fun l6_25 hw => ?_)
                    refine R_istore (i := 6) (v := l6_25) hc [(6, .int l6_25), (5, .int l5_24), (8, .int (1 : Int32)), (13, .int t14), (12, .int s7), (0, rf x.w (some l0)), (3, .long l3_34), (7, .int l7_45), (9, .int l9_38), (10, .int l10_5), (11, .int l11_6)] dX11_tellsBest_208 (hnl 6 (le_b rfl)) rfl ?_
                    refine R_iinc (q := 8) (i := 9) (v := l9_38) hc [(9, .int (l9_38 + (1 : Int32))), (6, .int l6_25), (5, .int l5_24), (8, .int (1 : Int32)), (13, .int t14), (12, .int s7), (0, rf x.w (some l0)), (3, .long l3_34), (7, .int l7_45), (10, .int l10_5), (11, .int l11_6)] dX11_tellsBest_210 rfl (kC_1 _) (hnl 9 (le_b rfl)) rfl ?_
                    refine R_goto (tgt := 26) hc dX11_tellsBest_213 (by decide) ?_
                    refine R_sub hc [6, 7, 2, 1, 8, 3, 0] rfl ?_
                    exact hX (l3_34, l5_24, l6_25, (1 : Int32), l9_38 + (1 : Int32), h23) (wpO_some hw :)
                  · refine R_lload_n (q := 3) (i := 3) (v := l3_34) hc dX11_tellsBest_160 rfl rfl ?_
                    refine R_aload_n (q := 2) (i := 0) (v := (some l0)) hc dX11_tellsBest_161 rfl rfl ?_
                    refine R_getR hc fl_11_32 dX11_tellsBest_162 hw (fun t26 hw => ?_)
                    refine R_iload (q := 0) (i := 13) (v := t14) hc dX11_tellsBest_165 rfl ?_
                    refine R_laload hc dX11_tellsBest_167 hw (fun t27 hw => ?_)
                    refine R_lsub hc dX11_tellsBest_168 ?_
                    refine R_nmJ hw (fun l3_28 hw => ?_)
                    refine R_lstore_n (i := 3) (v := l3_28) hc [(3, .long l3_28), (13, .int t14), (12, .int s7), (0, rf x.w (some l0)), (5, .int l5_35), (6, .int l6_36), (7, .int l7_45), (8, .int l8_37), (9, .int l9_38), (10, .int l10_5), (11, .int l11_6)] dX11_tellsBest_169 rfl (hnl 4 (le_b rfl)) rfl ?_
                    refine R_goto (tgt := 210) hc dX11_tellsBest_170 (by decide) ?_
                    refine R_iinc (q := 8) (i := 9) (v := l9_38) hc [(9, .int (l9_38 + (1 : Int32))), (3, .long l3_28), (13, .int t14), (12, .int s7), (0, rf x.w (some l0)), (5, .int l5_35), (6, .int l6_36), (7, .int l7_45), (8, .int l8_37), (10, .int l10_5), (11, .int l11_6)] dX11_tellsBest_210 rfl (kC_1 _) (hnl 9 (le_b rfl)) rfl ?_
                    refine R_goto (tgt := 26) hc dX11_tellsBest_213 (by decide) ?_
                    refine R_sub hc [4, 1, 5, 6, 7, 8, 0] rfl ?_
                    exact hX (l3_28, l5_35, l6_36, l8_37, l9_38 + (1 : Int32), h39) (wpO_some hw :)
                · refine R_goto (tgt := 210) hc dX11_tellsBest_145 (by decide) ?_
                  refine R_iinc (q := 8) (i := 9) (v := l9_38) hc [(9, .int (l9_38 + (1 : Int32))), (13, .int t14), (12, .int s7), (0, rf x.w (some l0)), (3, .long l3_34), (5, .int l5_35), (6, .int l6_36), (7, .int l7_45), (8, .int l8_37), (10, .int l10_5), (11, .int l11_6)] dX11_tellsBest_210 rfl (kC_1 _) (hnl 9 (le_b rfl)) rfl ?_
                  refine R_goto (tgt := 26) hc dX11_tellsBest_213 (by decide) ?_
                  refine R_sub hc [3, 4, 5, 6, 7, 8, 0] rfl ?_
                  exact hX (l3_34, l5_35, l6_36, l8_37, l9_38 + (1 : Int32), h39) (wpO_some hw :)
              · refine R_if_le (tgt := 106) hc dX11_tellsBest_70 (by decide) hw (fun hw => ?_) (fun hw => ?_)
                · refine R_iconst (v := (0 : Int32)) hc dX11_tellsBest_106 kI_0 ?_
                  refine R_sub hc [2, 3, 4, 5, 6, 7, 8, 1, 0] rfl ?_
                  exact (wpO_some hw :)
                · refine R_aload_n (q := 2) (i := 0) (v := (some l0)) hc dX11_tellsBest_73 rfl rfl ?_
                  refine R_aload_n (q := 2) (i := 0) (v := (some l0)) hc dX11_tellsBest_74 rfl rfl ?_
                  refine R_getR hc fl_11_45 dX11_tellsBest_75 hw (fun t8 hw => ?_)
                  refine R_iload (q := 6) (i := 7) (v := l7_45) hc dX11_tellsBest_78 rfl ?_
                  refine R_iconst (v := (1 : Int32)) hc dX11_tellsBest_80 kI_1 ?_
                  refine R_isub hc dX11_tellsBest_81 ?_
                  refine R_iaload hc dX11_tellsBest_82 hw (fun t9 hw => ?_)
                  refine R_aload_n (q := 2) (i := 0) (v := (some l0)) hc dX11_tellsBest_83 rfl rfl ?_
                  refine R_getR hc fl_11_48 dX11_tellsBest_84 hw (fun t10 hw => ?_)
                  refine R_iload (q := 6) (i := 7) (v := l7_45) hc dX11_tellsBest_87 rfl ?_
                  refine R_iconst (v := (1 : Int32)) hc dX11_tellsBest_89 kI_1 ?_
                  refine R_isub hc dX11_tellsBest_90 ?_
                  refine R_iaload hc dX11_tellsBest_91 hw (fun t11 hw => ?_)
                  refine R_iload (q := 1) (i := 10) (v := l10_5) hc dX11_tellsBest_92 rfl ?_
                  refine R_iload (q := 0) (i := 11) (v := l11_6) hc dX11_tellsBest_94 rfl ?_
                  refine R_cVI (As := [.int t9, .int t11, .int l10_5, .int l11_6]) (rest := []) (r := (some l0)) (ci := 11) hc ml_11_127 mf_X11_lacks rfl (by decide) ⟨rfl, rfl⟩ ⟨le_b rfl, le_b rfl⟩ ⟨Nat.zero_le _, Nat.zero_le _⟩ (fun a v e => mt_X11_lacks e) rfl rfl (Nat.zero_le _) dX11_tellsBest_96 hw (fun t13 hw => ?_)
                  refine R_if_le (tgt := 106) hc dX11_tellsBest_99 (by decide) hw (fun hw => ?_) (fun hw => ?_)
                  · refine R_iconst (v := (0 : Int32)) hc dX11_tellsBest_106 kI_0 ?_
                    refine R_sub hc [2, 3, 4, 5, 6, 7, 8, 1, 0] rfl ?_
                    exact (wpO_some hw :)
                  · refine R_iconst (v := (1 : Int32)) hc dX11_tellsBest_102 kI_1 ?_
                    refine R_goto (tgt := 107) hc dX11_tellsBest_103 (by decide) ?_
                    refine R_sub hc [2, 3, 4, 5, 6, 7, 8, 1, 0] rfl ?_
                    exact (wpO_some hw :)
            · refine R_goto (tgt := 210) hc dX11_tellsBest_65 (by decide) ?_
              refine R_iinc (q := 8) (i := 9) (v := l9_38) hc [(9, .int (l9_38 + (1 : Int32))), (11, .int l11_6), (10, .int l10_5), (0, rf x.w (some l0)), (3, .long l3_34), (5, .int l5_35), (6, .int l6_36), (7, .int l7_45), (8, .int l8_37)] dX11_tellsBest_210 rfl (kC_1 _) (hnl 9 (le_b rfl)) rfl ?_
              refine R_goto (tgt := 26) hc dX11_tellsBest_213 (by decide) ?_
              refine R_sub hc [3, 4, 5, 6, 7, 8, 0] rfl ?_
              exact hX (l3_34, l5_35, l6_36, l8_37, l9_38 + (1 : Int32), h39) (wpO_some hw :)
theorem dX11_fingerAt_0 : decode cX11_fingerAt 0 = .ok (.aload_n 0, 1) := by decide +kernel
theorem dX11_fingerAt_1 : decode cX11_fingerAt 1 = .ok (.getfield 7, 3) := by decide +kernel
theorem dX11_fingerAt_4 : decode cX11_fingerAt 4 = .ok (.bipush 81, 2) := by decide +kernel
theorem dX11_fingerAt_6 : decode cX11_fingerAt 6 = .ok (.iload_n 1, 1) := by decide +kernel
theorem dX11_fingerAt_7 : decode cX11_fingerAt 7 = .ok (.iadd, 1) := by decide +kernel
theorem dX11_fingerAt_8 : decode cX11_fingerAt 8 = .ok (.iaload, 1) := by decide +kernel
theorem dX11_fingerAt_9 : decode cX11_fingerAt 9 = .ok (.ireturn, 1) := by decide +kernel
def sX11_fingerAt (F : Nat) (l0 : Nat) (l1 : Int32) (h : HP) : Option Int32 :=
  (gR h 11 (some l0) 1).bind fun t1 =>
  (aI h 13 t1 ((81 : Int32) + l1)).bind fun t2 =>
  some t2
abbrev rm_X11_fingerAt : Room := { frames := 0, cells := 0, slots := 0, locals := 0 }
set_option maxRecDepth 100000 in
set_option maxHeartbeats 4000000 in
theorem mt_X11_fingerAt {w : WD} {l : Launch} {F : Nat} {l0 : Nat} {l1 : Int32} {h : HP} {v : Int32} (hs : sX11_fingerAt F l0 l1 h = some v) : MI w l yX11_fingerAt cX11_fingerAt 2 .int rm_X11_fingerAt 0 0 [rf w (some l0), .int l1] h v h := by
  refine of_body [(0, rf w (some l0)), (1, .int l1)] (by decide) (by simp [lg_sl, rf_cat, cat_i, cat_l, cat_a]) (by simp [lv_args, rf_cat, cat_i, cat_l, cat_a]) ?_
  intro x hw_ hnL_ hl_ hc hret hnm hQ
  subst hw_; subst hl_
  have hnl : ∀ i, i < 2 → i < x.nL := fun i h => by rw [hnL_]; exact h
  have hw : wpO (sX11_fingerAt F l0 l1 h) (fun r => r = v) := ⟨_, hs, rfl⟩
  unfold sX11_fingerAt at hw
  refine R_aload_n (q := 0) (i := 0) (v := (some l0)) hc dX11_fingerAt_0 rfl rfl ?_
  refine R_getR hc fl_11_7 dX11_fingerAt_1 hw (fun t1 hw => ?_)
  refine R_bipush (v := (81 : Int32)) hc dX11_fingerAt_4 kB_81 ?_
  refine R_iload_n (q := 1) (i := 1) (v := l1) hc dX11_fingerAt_6 rfl rfl ?_
  refine R_iadd hc dX11_fingerAt_7 ?_
  refine R_iaload hc dX11_fingerAt_8 hw (fun t2 hw => ?_)
  exact R_ireturnP hc hret rfl hQ hw dX11_fingerAt_9
theorem dX11_turnAt_0 : decode cX11_turnAt 0 = .ok (.aload_n 0, 1) := by decide +kernel
theorem dX11_turnAt_1 : decode cX11_turnAt 1 = .ok (.getfield 7, 3) := by decide +kernel
theorem dX11_turnAt_4 : decode cX11_turnAt 4 = .ok (.bipush 89, 2) := by decide +kernel
theorem dX11_turnAt_6 : decode cX11_turnAt 6 = .ok (.iload_n 1, 1) := by decide +kernel
theorem dX11_turnAt_7 : decode cX11_turnAt 7 = .ok (.iadd, 1) := by decide +kernel
theorem dX11_turnAt_8 : decode cX11_turnAt 8 = .ok (.iaload, 1) := by decide +kernel
theorem dX11_turnAt_9 : decode cX11_turnAt 9 = .ok (.ireturn, 1) := by decide +kernel
def sX11_turnAt (F : Nat) (l0 : Nat) (l1 : Int32) (h : HP) : Option Int32 :=
  (gR h 11 (some l0) 1).bind fun t1 =>
  (aI h 13 t1 ((89 : Int32) + l1)).bind fun t2 =>
  some t2
abbrev rm_X11_turnAt : Room := { frames := 0, cells := 0, slots := 0, locals := 0 }
set_option maxRecDepth 100000 in
set_option maxHeartbeats 4000000 in
theorem mt_X11_turnAt {w : WD} {l : Launch} {F : Nat} {l0 : Nat} {l1 : Int32} {h : HP} {v : Int32} (hs : sX11_turnAt F l0 l1 h = some v) : MI w l yX11_turnAt cX11_turnAt 2 .int rm_X11_turnAt 0 0 [rf w (some l0), .int l1] h v h := by
  refine of_body [(0, rf w (some l0)), (1, .int l1)] (by decide) (by simp [lg_sl, rf_cat, cat_i, cat_l, cat_a]) (by simp [lv_args, rf_cat, cat_i, cat_l, cat_a]) ?_
  intro x hw_ hnL_ hl_ hc hret hnm hQ
  subst hw_; subst hl_
  have hnl : ∀ i, i < 2 → i < x.nL := fun i h => by rw [hnL_]; exact h
  have hw : wpO (sX11_turnAt F l0 l1 h) (fun r => r = v) := ⟨_, hs, rfl⟩
  unfold sX11_turnAt at hw
  refine R_aload_n (q := 0) (i := 0) (v := (some l0)) hc dX11_turnAt_0 rfl rfl ?_
  refine R_getR hc fl_11_7 dX11_turnAt_1 hw (fun t1 hw => ?_)
  refine R_bipush (v := (89 : Int32)) hc dX11_turnAt_4 kB_89 ?_
  refine R_iload_n (q := 1) (i := 1) (v := l1) hc dX11_turnAt_6 rfl rfl ?_
  refine R_iadd hc dX11_turnAt_7 ?_
  refine R_iaload hc dX11_turnAt_8 hw (fun t2 hw => ?_)
  exact R_ireturnP hc hret rfl hQ hw dX11_turnAt_9
theorem dX11_lackBehind_0 : decode cX11_lackBehind 0 = .ok (.aload_n 0, 1) := by decide +kernel
theorem dX11_lackBehind_1 : decode cX11_lackBehind 1 = .ok (.aload_n 0, 1) := by decide +kernel
theorem dX11_lackBehind_2 : decode cX11_lackBehind 2 = .ok (.iload_n 1, 1) := by decide +kernel
theorem dX11_lackBehind_3 : decode cX11_lackBehind 3 = .ok (.invokevirtual 156, 3) := by decide +kernel
theorem dX11_lackBehind_6 : decode cX11_lackBehind 6 = .ok (.aload_n 0, 1) := by decide +kernel
theorem dX11_lackBehind_7 : decode cX11_lackBehind 7 = .ok (.iload_n 1, 1) := by decide +kernel
theorem dX11_lackBehind_8 : decode cX11_lackBehind 8 = .ok (.invokevirtual 160, 3) := by decide +kernel
theorem dX11_lackBehind_11 : decode cX11_lackBehind 11 = .ok (.aload_n 0, 1) := by decide +kernel
theorem dX11_lackBehind_12 : decode cX11_lackBehind 12 = .ok (.iload_n 1, 1) := by decide +kernel
theorem dX11_lackBehind_13 : decode cX11_lackBehind 13 = .ok (.iconst 1, 1) := by decide +kernel
theorem dX11_lackBehind_14 : decode cX11_lackBehind 14 = .ok (.iadd, 1) := by decide +kernel
theorem dX11_lackBehind_15 : decode cX11_lackBehind 15 = .ok (.invokevirtual 156, 3) := by decide +kernel
theorem dX11_lackBehind_18 : decode cX11_lackBehind 18 = .ok (.aload_n 0, 1) := by decide +kernel
theorem dX11_lackBehind_19 : decode cX11_lackBehind 19 = .ok (.iload_n 1, 1) := by decide +kernel
theorem dX11_lackBehind_20 : decode cX11_lackBehind 20 = .ok (.iconst 1, 1) := by decide +kernel
theorem dX11_lackBehind_21 : decode cX11_lackBehind 21 = .ok (.iadd, 1) := by decide +kernel
theorem dX11_lackBehind_22 : decode cX11_lackBehind 22 = .ok (.invokevirtual 160, 3) := by decide +kernel
theorem dX11_lackBehind_25 : decode cX11_lackBehind 25 = .ok (.invokevirtual 127, 3) := by decide +kernel
theorem dX11_lackBehind_28 : decode cX11_lackBehind 28 = .ok (.ireturn, 1) := by decide +kernel
def sX11_lackBehind (F : Nat) (l0 : Nat) (l1 : Int32) (h : HP) : Option Int32 :=
  (dO h 11 (some l0)).bind fun a1 =>
  (sX11_fingerAt F a1 l1 h).bind fun t2 =>
  (dO h 11 (some l0)).bind fun a3 =>
  (sX11_turnAt F a3 l1 h).bind fun t4 =>
  (dO h 11 (some l0)).bind fun a5 =>
  (sX11_fingerAt F a5 (l1 + (1 : Int32)) h).bind fun t6 =>
  (dO h 11 (some l0)).bind fun a7 =>
  (sX11_turnAt F a7 (l1 + (1 : Int32)) h).bind fun t8 =>
  (dO h 11 (some l0)).bind fun a9 =>
  (sX11_lacks F a9 t2 t4 t6 t8 h).bind fun t10 =>
  some t10
abbrev rm_X11_lackBehind : Room := { frames := 4, cells := 0, slots := 0, locals := 96 }
set_option maxRecDepth 100000 in
set_option maxHeartbeats 4000000 in
theorem mt_X11_lackBehind {w : WD} {l : Launch} {F : Nat} {l0 : Nat} {l1 : Int32} {h : HP} {v : Int32} (hs : sX11_lackBehind F l0 l1 h = some v) : MI w l yX11_lackBehind cX11_lackBehind 2 .int rm_X11_lackBehind 0 0 [rf w (some l0), .int l1] h v h := by
  refine of_body [(0, rf w (some l0)), (1, .int l1)] (by decide) (by simp [lg_sl, rf_cat, cat_i, cat_l, cat_a]) (by simp [lv_args, rf_cat, cat_i, cat_l, cat_a]) ?_
  intro x hw_ hnL_ hl_ hc hret hnm hQ
  subst hw_; subst hl_
  have hnl : ∀ i, i < 2 → i < x.nL := fun i h => by rw [hnL_]; exact h
  have hw : wpO (sX11_lackBehind F l0 l1 h) (fun r => r = v) := ⟨_, hs, rfl⟩
  unfold sX11_lackBehind at hw
  refine R_aload_n (q := 0) (i := 0) (v := (some l0)) hc dX11_lackBehind_0 rfl rfl ?_
  refine R_aload_n (q := 0) (i := 0) (v := (some l0)) hc dX11_lackBehind_1 rfl rfl ?_
  refine R_iload_n (q := 1) (i := 1) (v := l1) hc dX11_lackBehind_2 rfl rfl ?_
  refine R_cVI (As := [.int l1]) (rest := [rf x.w (some l0)]) (r := (some l0)) (ci := 11) hc ml_11_156 mf_X11_fingerAt rfl (by decide) ⟨rfl, rfl⟩ ⟨le_b rfl, le_b rfl⟩ ⟨Nat.zero_le _, Nat.zero_le _⟩ (fun a v e => mt_X11_fingerAt e) rfl rfl (le_b rfl) dX11_lackBehind_3 hw (fun t2 hw => ?_)
  refine R_aload_n (q := 0) (i := 0) (v := (some l0)) hc dX11_lackBehind_6 rfl rfl ?_
  refine R_iload_n (q := 1) (i := 1) (v := l1) hc dX11_lackBehind_7 rfl rfl ?_
  refine R_cVI (As := [.int l1]) (rest := [.int t2, rf x.w (some l0)]) (r := (some l0)) (ci := 11) hc ml_11_160 mf_X11_turnAt rfl (by decide) ⟨rfl, rfl⟩ ⟨le_b rfl, le_b rfl⟩ ⟨Nat.zero_le _, Nat.zero_le _⟩ (fun a v e => mt_X11_turnAt e) rfl rfl (le_b rfl) dX11_lackBehind_8 hw (fun t4 hw => ?_)
  refine R_aload_n (q := 0) (i := 0) (v := (some l0)) hc dX11_lackBehind_11 rfl rfl ?_
  refine R_iload_n (q := 1) (i := 1) (v := l1) hc dX11_lackBehind_12 rfl rfl ?_
  refine R_iconst (v := (1 : Int32)) hc dX11_lackBehind_13 kI_1 ?_
  refine R_iadd hc dX11_lackBehind_14 ?_
  refine R_cVI (As := [.int (l1 + (1 : Int32))]) (rest := [.int t4, .int t2, rf x.w (some l0)]) (r := (some l0)) (ci := 11) hc ml_11_156 mf_X11_fingerAt rfl (by decide) ⟨rfl, rfl⟩ ⟨le_b rfl, le_b rfl⟩ ⟨Nat.zero_le _, Nat.zero_le _⟩ (fun a v e => mt_X11_fingerAt e) rfl rfl (le_b rfl) dX11_lackBehind_15 hw (fun t6 hw => ?_)
  refine R_aload_n (q := 0) (i := 0) (v := (some l0)) hc dX11_lackBehind_18 rfl rfl ?_
  refine R_iload_n (q := 1) (i := 1) (v := l1) hc dX11_lackBehind_19 rfl rfl ?_
  refine R_iconst (v := (1 : Int32)) hc dX11_lackBehind_20 kI_1 ?_
  refine R_iadd hc dX11_lackBehind_21 ?_
  refine R_cVI (As := [.int (l1 + (1 : Int32))]) (rest := [.int t6, .int t4, .int t2, rf x.w (some l0)]) (r := (some l0)) (ci := 11) hc ml_11_160 mf_X11_turnAt rfl (by decide) ⟨rfl, rfl⟩ ⟨le_b rfl, le_b rfl⟩ ⟨Nat.zero_le _, Nat.zero_le _⟩ (fun a v e => mt_X11_turnAt e) rfl rfl (le_b rfl) dX11_lackBehind_22 hw (fun t8 hw => ?_)
  refine R_cVI (As := [.int t2, .int t4, .int t6, .int t8]) (rest := []) (r := (some l0)) (ci := 11) hc ml_11_127 mf_X11_lacks rfl (by decide) ⟨rfl, rfl⟩ ⟨le_b rfl, le_b rfl⟩ ⟨Nat.zero_le _, Nat.zero_le _⟩ (fun a v e => mt_X11_lacks e) rfl rfl (Nat.zero_le _) dX11_lackBehind_25 hw (fun t10 hw => ?_)
  exact R_ireturnP hc hret rfl hQ hw dX11_lackBehind_28
theorem dX11_gapsNow_0 : decode cX11_gapsNow 0 = .ok (.iconst 0, 1) := by decide +kernel
theorem dX11_gapsNow_1 : decode cX11_gapsNow 1 = .ok (.istore_n 1, 1) := by decide +kernel
theorem dX11_gapsNow_2 : decode cX11_gapsNow 2 = .ok (.iconst 0, 1) := by decide +kernel
theorem dX11_gapsNow_3 : decode cX11_gapsNow 3 = .ok (.istore_n 2, 1) := by decide +kernel
theorem dX11_gapsNow_4 : decode cX11_gapsNow 4 = .ok (.iload_n 2, 1) := by decide +kernel
theorem dX11_gapsNow_5 : decode cX11_gapsNow 5 = .ok (.aload_n 0, 1) := by decide +kernel
theorem dX11_gapsNow_6 : decode cX11_gapsNow 6 = .ok (.invokevirtual 103, 3) := by decide +kernel
theorem dX11_gapsNow_9 : decode cX11_gapsNow 9 = .ok (.iconst 1, 1) := by decide +kernel
theorem dX11_gapsNow_10 : decode cX11_gapsNow 10 = .ok (.isub, 1) := by decide +kernel
theorem dX11_gapsNow_11 : decode cX11_gapsNow 11 = .ok (.if_icmp .ge 25, 3) := by decide +kernel
theorem dX11_gapsNow_14 : decode cX11_gapsNow 14 = .ok (.iload_n 1, 1) := by decide +kernel
theorem dX11_gapsNow_15 : decode cX11_gapsNow 15 = .ok (.aload_n 0, 1) := by decide +kernel
theorem dX11_gapsNow_16 : decode cX11_gapsNow 16 = .ok (.iload_n 2, 1) := by decide +kernel
theorem dX11_gapsNow_17 : decode cX11_gapsNow 17 = .ok (.invokevirtual 163, 3) := by decide +kernel
theorem dX11_gapsNow_20 : decode cX11_gapsNow 20 = .ok (.ifCond .le 7, 3) := by decide +kernel
theorem dX11_gapsNow_23 : decode cX11_gapsNow 23 = .ok (.iconst 1, 1) := by decide +kernel
theorem dX11_gapsNow_24 : decode cX11_gapsNow 24 = .ok (.goto 4, 3) := by decide +kernel
theorem dX11_gapsNow_27 : decode cX11_gapsNow 27 = .ok (.iconst 0, 1) := by decide +kernel
theorem dX11_gapsNow_28 : decode cX11_gapsNow 28 = .ok (.iadd, 1) := by decide +kernel
theorem dX11_gapsNow_29 : decode cX11_gapsNow 29 = .ok (.istore_n 1, 1) := by decide +kernel
theorem dX11_gapsNow_30 : decode cX11_gapsNow 30 = .ok (.iinc 2 1, 3) := by decide +kernel
theorem dX11_gapsNow_33 : decode cX11_gapsNow 33 = .ok (.goto (-29), 3) := by decide +kernel
theorem dX11_gapsNow_36 : decode cX11_gapsNow 36 = .ok (.iload_n 1, 1) := by decide +kernel
theorem dX11_gapsNow_37 : decode cX11_gapsNow 37 = .ok (.ireturn, 1) := by decide +kernel
def sX11_gapsNow_L4 (F : Nat) (l0 : Nat) (l1 : Int32) (l2 : Int32) (h : HP) : Option ((Int32 × Int32) ⊕ Int32) :=
  (dO h 11 (some l0)).bind fun a1 =>
  (sX11_fingers F a1 h).bind fun t2 =>
  if (t2 - (1 : Int32)) ≤ l2 then
    some (.inr l1)
  else
    (dO h 11 (some l0)).bind fun a3 =>
    (sX11_lackBehind F a3 l2 h).bind fun t4 =>
    if t4 ≤ 0 then
      nmI (l1 + (0 : Int32)) fun l1_5 =>
      some (.inl (l1_5, l2 + (1 : Int32)))
    else
      nmI (l1 + (1 : Int32)) fun l1_6 =>
      some (.inl (l1_6, l2 + (1 : Int32)))
def sX11_gapsNow (F : Nat) (l0 : Nat) (h : HP) : Option Int32 :=
  (iter (fun s => sX11_gapsNow_L4 F l0 s.1 s.2 h) F ((0 : Int32), (0 : Int32))).bind fun l1_7 =>
    some l1_7
abbrev rm_X11_gapsNow : Room := { frames := 5, cells := 0, slots := 0, locals := 117 }
set_option maxRecDepth 100000 in
set_option maxHeartbeats 4000000 in
theorem mt_X11_gapsNow {w : WD} {l : Launch} {F : Nat} {l0 : Nat} {h : HP} {v : Int32} (hs : sX11_gapsNow F l0 h = some v) : MI w l yX11_gapsNow cX11_gapsNow 3 .int rm_X11_gapsNow 0 0 [rf w (some l0)] h v h := by
  refine of_body [(0, rf w (some l0))] (by decide) (by simp [lg_sl, rf_cat, cat_i, cat_l, cat_a]) (by simp [lv_args, rf_cat, cat_i, cat_l, cat_a]) ?_
  intro x hw_ hnL_ hl_ hc hret hnm hQ
  subst hw_; subst hl_
  have hnl : ∀ i, i < 3 → i < x.nL := fun i h => by rw [hnL_]; exact h
  have hw : wpO (sX11_gapsNow F l0 h) (fun r => r = v) := ⟨_, hs, rfl⟩
  unfold sX11_gapsNow at hw
  refine R_iconst (v := (0 : Int32)) hc dX11_gapsNow_0 kI_0 ?_
  refine R_istore_n (i := 1) (v := (0 : Int32)) hc [(1, .int (0 : Int32)), (0, rf x.w (some l0))] dX11_gapsNow_1 rfl (hnl 1 (le_b rfl)) rfl ?_
  refine R_iconst (v := (0 : Int32)) hc dX11_gapsNow_2 kI_0 ?_
  refine R_istore_n (i := 2) (v := (0 : Int32)) hc [(2, .int (0 : Int32)), (1, .int (0 : Int32)), (0, rf x.w (some l0))] dX11_gapsNow_3 rfl (hnl 2 (le_b rfl)) rfl ?_
  refine R_sub hc [2, 1, 0] rfl ?_
  refine R_loop (P := fun (s : (Int32 × Int32)) => Rn x 0 0 4 [(0, rf x.w (some l0)), (1, .int s.1), (2, .int s.2)] [] h) (fun l1_7 => Rn x 0 0 36 [(1, .int l1_7)] [] h) hw (fun r hw => ?_) (fun X hX s hw => ?_)
  · revert r hw
    intro l1_7 hw
    show Rn x 0 0 36 [(1, .int l1_7)] [] h
    refine R_iload_n (q := 0) (i := 1) (v := l1_7) hc dX11_gapsNow_36 rfl rfl ?_
    exact R_ireturnP hc hret rfl hQ hw dX11_gapsNow_37
  · obtain ⟨l1_9, l2_10⟩ := s
    show Rn x 0 0 4 [(0, rf x.w (some l0)), (1, .int l1_9), (2, .int l2_10)] [] h
    have hw : wpO (sX11_gapsNow_L4 F l0 l1_9 l2_10 h) _ := hw
    unfold sX11_gapsNow_L4 at hw
    refine R_iload_n (q := 2) (i := 2) (v := l2_10) hc dX11_gapsNow_4 rfl rfl ?_
    refine R_aload_n (q := 0) (i := 0) (v := (some l0)) hc dX11_gapsNow_5 rfl rfl ?_
    refine R_cVI (As := []) (rest := [.int l2_10]) (r := (some l0)) (ci := 11) hc ml_11_103 mf_X11_fingers rfl (by decide) ⟨rfl, rfl⟩ ⟨le_b rfl, le_b rfl⟩ ⟨Nat.zero_le _, Nat.zero_le _⟩ (fun a v e => mt_X11_fingers e) rfl rfl (le_b rfl) dX11_gapsNow_6 hw (fun t2 hw => ?_)
    refine R_iconst (v := (1 : Int32)) hc dX11_gapsNow_9 kI_1 ?_
    refine R_isub hc dX11_gapsNow_10 ?_
    refine R_icmp_ge (tgt := 36) hc dX11_gapsNow_11 (by decide) hw (fun hw => ?_) (fun hw => ?_)
    · refine R_sub hc [1] rfl ?_
      exact (wpO_some hw :)
    · refine R_iload_n (q := 1) (i := 1) (v := l1_9) hc dX11_gapsNow_14 rfl rfl ?_
      refine R_aload_n (q := 0) (i := 0) (v := (some l0)) hc dX11_gapsNow_15 rfl rfl ?_
      refine R_iload_n (q := 2) (i := 2) (v := l2_10) hc dX11_gapsNow_16 rfl rfl ?_
      refine R_cVI (As := [.int l2_10]) (rest := [.int l1_9]) (r := (some l0)) (ci := 11) hc ml_11_163 mf_X11_lackBehind rfl (by decide) ⟨rfl, rfl⟩ ⟨le_b rfl, le_b rfl⟩ ⟨Nat.zero_le _, Nat.zero_le _⟩ (fun a v e => mt_X11_lackBehind e) rfl rfl (le_b rfl) dX11_gapsNow_17 hw (fun t4 hw => ?_)
      refine R_if_le (tgt := 27) hc dX11_gapsNow_20 (by decide) hw (fun hw => ?_) (fun hw => ?_)
      · refine R_iconst (v := (0 : Int32)) hc dX11_gapsNow_27 kI_0 ?_
        refine R_iadd hc dX11_gapsNow_28 ?_
        refine R_nmI hw (fun l1_5 hw => ?_)
        refine R_istore_n (i := 1) (v := l1_5) hc [(1, .int l1_5), (0, rf x.w (some l0)), (2, .int l2_10)] dX11_gapsNow_29 rfl (hnl 1 (le_b rfl)) rfl ?_
        refine R_iinc (q := 2) (i := 2) (v := l2_10) hc [(2, .int (l2_10 + (1 : Int32))), (1, .int l1_5), (0, rf x.w (some l0))] dX11_gapsNow_30 rfl (kC_1 _) (hnl 2 (le_b rfl)) rfl ?_
        refine R_goto (tgt := 4) hc dX11_gapsNow_33 (by decide) ?_
        refine R_sub hc [2, 1, 0] rfl ?_
        exact hX (l1_5, l2_10 + (1 : Int32)) (wpO_some hw :)
      · refine R_iconst (v := (1 : Int32)) hc dX11_gapsNow_23 kI_1 ?_
        refine R_goto (tgt := 28) hc dX11_gapsNow_24 (by decide) ?_
        refine R_iadd hc dX11_gapsNow_28 ?_
        refine R_nmI hw (fun l1_6 hw => ?_)
        refine R_istore_n (i := 1) (v := l1_6) hc [(1, .int l1_6), (0, rf x.w (some l0)), (2, .int l2_10)] dX11_gapsNow_29 rfl (hnl 1 (le_b rfl)) rfl ?_
        refine R_iinc (q := 2) (i := 2) (v := l2_10) hc [(2, .int (l2_10 + (1 : Int32))), (1, .int l1_6), (0, rf x.w (some l0))] dX11_gapsNow_30 rfl (kC_1 _) (hnl 2 (le_b rfl)) rfl ?_
        refine R_goto (tgt := 4) hc dX11_gapsNow_33 (by decide) ?_
        refine R_sub hc [2, 1, 0] rfl ?_
        exact hX (l1_6, l2_10 + (1 : Int32)) (wpO_some hw :)
theorem dX11_breaksNow_0 : decode cX11_breaksNow 0 = .ok (.iconst 0, 1) := by decide +kernel
theorem dX11_breaksNow_1 : decode cX11_breaksNow 1 = .ok (.istore_n 1, 1) := by decide +kernel
theorem dX11_breaksNow_2 : decode cX11_breaksNow 2 = .ok (.iconst 0, 1) := by decide +kernel
theorem dX11_breaksNow_3 : decode cX11_breaksNow 3 = .ok (.istore_n 2, 1) := by decide +kernel
theorem dX11_breaksNow_4 : decode cX11_breaksNow 4 = .ok (.iload_n 2, 1) := by decide +kernel
theorem dX11_breaksNow_5 : decode cX11_breaksNow 5 = .ok (.aload_n 0, 1) := by decide +kernel
theorem dX11_breaksNow_6 : decode cX11_breaksNow 6 = .ok (.invokevirtual 103, 3) := by decide +kernel
theorem dX11_breaksNow_9 : decode cX11_breaksNow 9 = .ok (.iconst 1, 1) := by decide +kernel
theorem dX11_breaksNow_10 : decode cX11_breaksNow 10 = .ok (.isub, 1) := by decide +kernel
theorem dX11_breaksNow_11 : decode cX11_breaksNow 11 = .ok (.if_icmp .ge 17, 3) := by decide +kernel
theorem dX11_breaksNow_14 : decode cX11_breaksNow 14 = .ok (.iload_n 1, 1) := by decide +kernel
theorem dX11_breaksNow_15 : decode cX11_breaksNow 15 = .ok (.aload_n 0, 1) := by decide +kernel
theorem dX11_breaksNow_16 : decode cX11_breaksNow 16 = .ok (.iload_n 2, 1) := by decide +kernel
theorem dX11_breaksNow_17 : decode cX11_breaksNow 17 = .ok (.invokevirtual 163, 3) := by decide +kernel
theorem dX11_breaksNow_20 : decode cX11_breaksNow 20 = .ok (.iadd, 1) := by decide +kernel
theorem dX11_breaksNow_21 : decode cX11_breaksNow 21 = .ok (.istore_n 1, 1) := by decide +kernel
theorem dX11_breaksNow_22 : decode cX11_breaksNow 22 = .ok (.iinc 2 1, 3) := by decide +kernel
theorem dX11_breaksNow_25 : decode cX11_breaksNow 25 = .ok (.goto (-21), 3) := by decide +kernel
theorem dX11_breaksNow_28 : decode cX11_breaksNow 28 = .ok (.iload_n 1, 1) := by decide +kernel
theorem dX11_breaksNow_29 : decode cX11_breaksNow 29 = .ok (.ireturn, 1) := by decide +kernel
def sX11_breaksNow_L4 (F : Nat) (l0 : Nat) (l1 : Int32) (l2 : Int32) (h : HP) : Option ((Int32 × Int32) ⊕ Int32) :=
  (dO h 11 (some l0)).bind fun a1 =>
  (sX11_fingers F a1 h).bind fun t2 =>
  if (t2 - (1 : Int32)) ≤ l2 then
    some (.inr l1)
  else
    (dO h 11 (some l0)).bind fun a3 =>
    (sX11_lackBehind F a3 l2 h).bind fun t4 =>
    nmI (l1 + t4) fun l1_5 =>
    some (.inl (l1_5, l2 + (1 : Int32)))
def sX11_breaksNow (F : Nat) (l0 : Nat) (h : HP) : Option Int32 :=
  (iter (fun s => sX11_breaksNow_L4 F l0 s.1 s.2 h) F ((0 : Int32), (0 : Int32))).bind fun l1_6 =>
    some l1_6
abbrev rm_X11_breaksNow : Room := { frames := 5, cells := 0, slots := 0, locals := 117 }
set_option maxRecDepth 100000 in
set_option maxHeartbeats 4000000 in
theorem mt_X11_breaksNow {w : WD} {l : Launch} {F : Nat} {l0 : Nat} {h : HP} {v : Int32} (hs : sX11_breaksNow F l0 h = some v) : MI w l yX11_breaksNow cX11_breaksNow 3 .int rm_X11_breaksNow 0 0 [rf w (some l0)] h v h := by
  refine of_body [(0, rf w (some l0))] (by decide) (by simp [lg_sl, rf_cat, cat_i, cat_l, cat_a]) (by simp [lv_args, rf_cat, cat_i, cat_l, cat_a]) ?_
  intro x hw_ hnL_ hl_ hc hret hnm hQ
  subst hw_; subst hl_
  have hnl : ∀ i, i < 3 → i < x.nL := fun i h => by rw [hnL_]; exact h
  have hw : wpO (sX11_breaksNow F l0 h) (fun r => r = v) := ⟨_, hs, rfl⟩
  unfold sX11_breaksNow at hw
  refine R_iconst (v := (0 : Int32)) hc dX11_breaksNow_0 kI_0 ?_
  refine R_istore_n (i := 1) (v := (0 : Int32)) hc [(1, .int (0 : Int32)), (0, rf x.w (some l0))] dX11_breaksNow_1 rfl (hnl 1 (le_b rfl)) rfl ?_
  refine R_iconst (v := (0 : Int32)) hc dX11_breaksNow_2 kI_0 ?_
  refine R_istore_n (i := 2) (v := (0 : Int32)) hc [(2, .int (0 : Int32)), (1, .int (0 : Int32)), (0, rf x.w (some l0))] dX11_breaksNow_3 rfl (hnl 2 (le_b rfl)) rfl ?_
  refine R_sub hc [2, 1, 0] rfl ?_
  refine R_loop (P := fun (s : (Int32 × Int32)) => Rn x 0 0 4 [(0, rf x.w (some l0)), (1, .int s.1), (2, .int s.2)] [] h) (fun l1_6 => Rn x 0 0 28 [(1, .int l1_6)] [] h) hw (fun r hw => ?_) (fun X hX s hw => ?_)
  · revert r hw
    intro l1_6 hw
    show Rn x 0 0 28 [(1, .int l1_6)] [] h
    refine R_iload_n (q := 0) (i := 1) (v := l1_6) hc dX11_breaksNow_28 rfl rfl ?_
    exact R_ireturnP hc hret rfl hQ hw dX11_breaksNow_29
  · obtain ⟨l1_8, l2_9⟩ := s
    show Rn x 0 0 4 [(0, rf x.w (some l0)), (1, .int l1_8), (2, .int l2_9)] [] h
    have hw : wpO (sX11_breaksNow_L4 F l0 l1_8 l2_9 h) _ := hw
    unfold sX11_breaksNow_L4 at hw
    refine R_iload_n (q := 2) (i := 2) (v := l2_9) hc dX11_breaksNow_4 rfl rfl ?_
    refine R_aload_n (q := 0) (i := 0) (v := (some l0)) hc dX11_breaksNow_5 rfl rfl ?_
    refine R_cVI (As := []) (rest := [.int l2_9]) (r := (some l0)) (ci := 11) hc ml_11_103 mf_X11_fingers rfl (by decide) ⟨rfl, rfl⟩ ⟨le_b rfl, le_b rfl⟩ ⟨Nat.zero_le _, Nat.zero_le _⟩ (fun a v e => mt_X11_fingers e) rfl rfl (le_b rfl) dX11_breaksNow_6 hw (fun t2 hw => ?_)
    refine R_iconst (v := (1 : Int32)) hc dX11_breaksNow_9 kI_1 ?_
    refine R_isub hc dX11_breaksNow_10 ?_
    refine R_icmp_ge (tgt := 28) hc dX11_breaksNow_11 (by decide) hw (fun hw => ?_) (fun hw => ?_)
    · refine R_sub hc [1] rfl ?_
      exact (wpO_some hw :)
    · refine R_iload_n (q := 1) (i := 1) (v := l1_8) hc dX11_breaksNow_14 rfl rfl ?_
      refine R_aload_n (q := 0) (i := 0) (v := (some l0)) hc dX11_breaksNow_15 rfl rfl ?_
      refine R_iload_n (q := 2) (i := 2) (v := l2_9) hc dX11_breaksNow_16 rfl rfl ?_
      refine R_cVI (As := [.int l2_9]) (rest := [.int l1_8]) (r := (some l0)) (ci := 11) hc ml_11_163 mf_X11_lackBehind rfl (by decide) ⟨rfl, rfl⟩ ⟨le_b rfl, le_b rfl⟩ ⟨Nat.zero_le _, Nat.zero_le _⟩ (fun a v e => mt_X11_lackBehind e) rfl rfl (le_b rfl) dX11_breaksNow_17 hw (fun t4 hw => ?_)
      refine R_iadd hc dX11_breaksNow_20 ?_
      refine R_nmI hw (fun l1_5 hw => ?_)
      refine R_istore_n (i := 1) (v := l1_5) hc [(1, .int l1_5), (0, rf x.w (some l0)), (2, .int l2_9)] dX11_breaksNow_21 rfl (hnl 1 (le_b rfl)) rfl ?_
      refine R_iinc (q := 2) (i := 2) (v := l2_9) hc [(2, .int (l2_9 + (1 : Int32))), (1, .int l1_5), (0, rf x.w (some l0))] dX11_breaksNow_22 rfl (kC_1 _) (hnl 2 (le_b rfl)) rfl ?_
      refine R_goto (tgt := 4) hc dX11_breaksNow_25 (by decide) ?_
      refine R_sub hc [2, 1, 0] rfl ?_
      exact hX (l1_5, l2_9 + (1 : Int32)) (wpO_some hw :)
theorem dX11_laysColumn_0 : decode cX11_laysColumn 0 = .ok (.aload_n 0, 1) := by decide +kernel
theorem dX11_laysColumn_1 : decode cX11_laysColumn 1 = .ok (.getfield 54, 3) := by decide +kernel
theorem dX11_laysColumn_4 : decode cX11_laysColumn 4 = .ok (.iload_n 1, 1) := by decide +kernel
theorem dX11_laysColumn_5 : decode cX11_laysColumn 5 = .ok (.iload_n 2, 1) := by decide +kernel
theorem dX11_laysColumn_6 : decode cX11_laysColumn 6 = .ok (.iastore, 1) := by decide +kernel
theorem dX11_laysColumn_7 : decode cX11_laysColumn 7 = .ok (.aload_n 0, 1) := by decide +kernel
theorem dX11_laysColumn_8 : decode cX11_laysColumn 8 = .ok (.getfield 57, 3) := by decide +kernel
theorem dX11_laysColumn_11 : decode cX11_laysColumn 11 = .ok (.iload_n 1, 1) := by decide +kernel
theorem dX11_laysColumn_12 : decode cX11_laysColumn 12 = .ok (.iload_n 3, 1) := by decide +kernel
theorem dX11_laysColumn_13 : decode cX11_laysColumn 13 = .ok (.iastore, 1) := by decide +kernel
theorem dX11_laysColumn_14 : decode cX11_laysColumn 14 = .ok (.aload_n 0, 1) := by decide +kernel
theorem dX11_laysColumn_15 : decode cX11_laysColumn 15 = .ok (.getfield 60, 3) := by decide +kernel
theorem dX11_laysColumn_18 : decode cX11_laysColumn 18 = .ok (.iload_n 1, 1) := by decide +kernel
theorem dX11_laysColumn_19 : decode cX11_laysColumn 19 = .ok (.iload 4, 2) := by decide +kernel
theorem dX11_laysColumn_21 : decode cX11_laysColumn 21 = .ok (.iastore, 1) := by decide +kernel
theorem dX11_laysColumn_22 : decode cX11_laysColumn 22 = .ok (.return_, 1) := by decide +kernel
def sX11_laysColumn (F : Nat) (l0 : Nat) (l1 : Int32) (l2 : Int32) (l3 : Int32) (l4 : Int32) (h : HP) : Option HP :=
  (gR h 11 (some l0) 23).bind fun t1 =>
  (sI h t1 l1 l2).bind fun h2 =>
  (gR h2 11 (some l0) 24).bind fun t3 =>
  (sI h2 t3 l1 l3).bind fun h4 =>
  (gR h4 11 (some l0) 25).bind fun t5 =>
  (sI h4 t5 l1 l4).bind fun h6 =>
  some h6
abbrev rm_X11_laysColumn : Room := { frames := 0, cells := 0, slots := 0, locals := 0 }
set_option maxRecDepth 100000 in
set_option maxHeartbeats 4000000 in
theorem mt_X11_laysColumn {w : WD} {l : Launch} {F : Nat} {l0 : Nat} {l1 : Int32} {l2 : Int32} {l3 : Int32} {l4 : Int32} {h : HP} {h' : HP} (hs : sX11_laysColumn F l0 l1 l2 l3 l4 h = some h') : MV w l yX11_laysColumn cX11_laysColumn 5 rm_X11_laysColumn 0 0 [rf w (some l0), .int l1, .int l2, .int l3, .int l4] h h' := by
  refine of_body [(0, rf w (some l0)), (1, .int l1), (2, .int l2), (3, .int l3), (4, .int l4)] (by decide) (by simp [lg_sl, rf_cat, cat_i, cat_l, cat_a]) (by simp [lv_args, rf_cat, cat_i, cat_l, cat_a]) ?_
  intro x hw_ hnL_ hl_ hc hret hnm hQ
  subst hw_; subst hl_
  have hnl : ∀ i, i < 5 → i < x.nL := fun i h => by rw [hnL_]; exact h
  have hw : wpO (sX11_laysColumn F l0 l1 l2 l3 l4 h) (fun r => r = h') := ⟨_, hs, rfl⟩
  unfold sX11_laysColumn at hw
  refine R_aload_n (q := 0) (i := 0) (v := (some l0)) hc dX11_laysColumn_0 rfl rfl ?_
  refine R_getR hc fl_11_54 dX11_laysColumn_1 hw (fun t1 hw => ?_)
  refine R_iload_n (q := 1) (i := 1) (v := l1) hc dX11_laysColumn_4 rfl rfl ?_
  refine R_iload_n (q := 2) (i := 2) (v := l2) hc dX11_laysColumn_5 rfl rfl ?_
  refine R_iastore hc dX11_laysColumn_6 hw (fun h2 hw => ?_)
  refine R_aload_n (q := 0) (i := 0) (v := (some l0)) hc dX11_laysColumn_7 rfl rfl ?_
  refine R_getR hc fl_11_57 dX11_laysColumn_8 hw (fun t3 hw => ?_)
  refine R_iload_n (q := 1) (i := 1) (v := l1) hc dX11_laysColumn_11 rfl rfl ?_
  refine R_iload_n (q := 3) (i := 3) (v := l3) hc dX11_laysColumn_12 rfl rfl ?_
  refine R_iastore hc dX11_laysColumn_13 hw (fun h4 hw => ?_)
  refine R_aload_n (q := 0) (i := 0) (v := (some l0)) hc dX11_laysColumn_14 rfl rfl ?_
  refine R_getR hc fl_11_60 dX11_laysColumn_15 hw (fun t5 hw => ?_)
  refine R_iload_n (q := 1) (i := 1) (v := l1) hc dX11_laysColumn_18 rfl rfl ?_
  refine R_iload (q := 4) (i := 4) (v := l4) hc dX11_laysColumn_19 rfl ?_
  refine R_iastore hc dX11_laysColumn_21 hw (fun h6 hw => ?_)
  exact R_return hc hret hQ hw dX11_laysColumn_22
theorem dX11_laysNet_0 : decode cX11_laysNet 0 = .ok (.aload_n 0, 1) := by decide +kernel
theorem dX11_laysNet_1 : decode cX11_laysNet 1 = .ok (.getfield 66, 3) := by decide +kernel
theorem dX11_laysNet_4 : decode cX11_laysNet 4 = .ok (.iload_n 1, 1) := by decide +kernel
theorem dX11_laysNet_5 : decode cX11_laysNet 5 = .ok (.iconst (-1), 1) := by decide +kernel
theorem dX11_laysNet_6 : decode cX11_laysNet 6 = .ok (.iastore, 1) := by decide +kernel
theorem dX11_laysNet_7 : decode cX11_laysNet 7 = .ok (.aload_n 0, 1) := by decide +kernel
theorem dX11_laysNet_8 : decode cX11_laysNet 8 = .ok (.getfield 69, 3) := by decide +kernel
theorem dX11_laysNet_11 : decode cX11_laysNet 11 = .ok (.iload_n 1, 1) := by decide +kernel
theorem dX11_laysNet_12 : decode cX11_laysNet 12 = .ok (.iconst (-1), 1) := by decide +kernel
theorem dX11_laysNet_13 : decode cX11_laysNet 13 = .ok (.iastore, 1) := by decide +kernel
theorem dX11_laysNet_14 : decode cX11_laysNet 14 = .ok (.aload_n 0, 1) := by decide +kernel
theorem dX11_laysNet_15 : decode cX11_laysNet 15 = .ok (.getfield 72, 3) := by decide +kernel
theorem dX11_laysNet_18 : decode cX11_laysNet 18 = .ok (.iload_n 1, 1) := by decide +kernel
theorem dX11_laysNet_19 : decode cX11_laysNet 19 = .ok (.iconst 0, 1) := by decide +kernel
theorem dX11_laysNet_20 : decode cX11_laysNet 20 = .ok (.iastore, 1) := by decide +kernel
theorem dX11_laysNet_21 : decode cX11_laysNet 21 = .ok (.iconst 0, 1) := by decide +kernel
theorem dX11_laysNet_22 : decode cX11_laysNet 22 = .ok (.istore_n 2, 1) := by decide +kernel
theorem dX11_laysNet_23 : decode cX11_laysNet 23 = .ok (.iload_n 2, 1) := by decide +kernel
theorem dX11_laysNet_24 : decode cX11_laysNet 24 = .ok (.aload_n 0, 1) := by decide +kernel
theorem dX11_laysNet_25 : decode cX11_laysNet 25 = .ok (.getfield 166, 3) := by decide +kernel
theorem dX11_laysNet_28 : decode cX11_laysNet 28 = .ok (.if_icmp .ge 76, 3) := by decide +kernel
theorem dX11_laysNet_31 : decode cX11_laysNet 31 = .ok (.aload_n 0, 1) := by decide +kernel
theorem dX11_laysNet_32 : decode cX11_laysNet 32 = .ok (.getfield 54, 3) := by decide +kernel
theorem dX11_laysNet_35 : decode cX11_laysNet 35 = .ok (.iload_n 2, 1) := by decide +kernel
theorem dX11_laysNet_36 : decode cX11_laysNet 36 = .ok (.iaload, 1) := by decide +kernel
theorem dX11_laysNet_37 : decode cX11_laysNet 37 = .ok (.iload_n 1, 1) := by decide +kernel
theorem dX11_laysNet_38 : decode cX11_laysNet 38 = .ok (.if_icmp .eq 26, 3) := by decide +kernel
theorem dX11_laysNet_41 : decode cX11_laysNet 41 = .ok (.aload_n 0, 1) := by decide +kernel
theorem dX11_laysNet_42 : decode cX11_laysNet 42 = .ok (.getfield 57, 3) := by decide +kernel
theorem dX11_laysNet_45 : decode cX11_laysNet 45 = .ok (.iload_n 2, 1) := by decide +kernel
theorem dX11_laysNet_46 : decode cX11_laysNet 46 = .ok (.iaload, 1) := by decide +kernel
theorem dX11_laysNet_47 : decode cX11_laysNet 47 = .ok (.iload_n 1, 1) := by decide +kernel
theorem dX11_laysNet_48 : decode cX11_laysNet 48 = .ok (.if_icmp .eq 16, 3) := by decide +kernel
theorem dX11_laysNet_51 : decode cX11_laysNet 51 = .ok (.aload_n 0, 1) := by decide +kernel
theorem dX11_laysNet_52 : decode cX11_laysNet 52 = .ok (.getfield 60, 3) := by decide +kernel
theorem dX11_laysNet_55 : decode cX11_laysNet 55 = .ok (.iload_n 2, 1) := by decide +kernel
theorem dX11_laysNet_56 : decode cX11_laysNet 56 = .ok (.iaload, 1) := by decide +kernel
theorem dX11_laysNet_57 : decode cX11_laysNet 57 = .ok (.iload_n 1, 1) := by decide +kernel
theorem dX11_laysNet_58 : decode cX11_laysNet 58 = .ok (.if_icmp .eq 6, 3) := by decide +kernel
theorem dX11_laysNet_61 : decode cX11_laysNet 61 = .ok (.goto 37, 3) := by decide +kernel
theorem dX11_laysNet_64 : decode cX11_laysNet 64 = .ok (.aload_n 0, 1) := by decide +kernel
theorem dX11_laysNet_65 : decode cX11_laysNet 65 = .ok (.getfield 66, 3) := by decide +kernel
theorem dX11_laysNet_68 : decode cX11_laysNet 68 = .ok (.iload_n 1, 1) := by decide +kernel
theorem dX11_laysNet_69 : decode cX11_laysNet 69 = .ok (.iaload, 1) := by decide +kernel
theorem dX11_laysNet_70 : decode cX11_laysNet 70 = .ok (.iconst (-1), 1) := by decide +kernel
theorem dX11_laysNet_71 : decode cX11_laysNet 71 = .ok (.if_icmp .ne 10, 3) := by decide +kernel
theorem dX11_laysNet_74 : decode cX11_laysNet 74 = .ok (.aload_n 0, 1) := by decide +kernel
theorem dX11_laysNet_75 : decode cX11_laysNet 75 = .ok (.getfield 66, 3) := by decide +kernel
theorem dX11_laysNet_78 : decode cX11_laysNet 78 = .ok (.iload_n 1, 1) := by decide +kernel
theorem dX11_laysNet_79 : decode cX11_laysNet 79 = .ok (.iload_n 2, 1) := by decide +kernel
theorem dX11_laysNet_80 : decode cX11_laysNet 80 = .ok (.iastore, 1) := by decide +kernel
theorem dX11_laysNet_81 : decode cX11_laysNet 81 = .ok (.aload_n 0, 1) := by decide +kernel
theorem dX11_laysNet_82 : decode cX11_laysNet 82 = .ok (.getfield 69, 3) := by decide +kernel
theorem dX11_laysNet_85 : decode cX11_laysNet 85 = .ok (.iload_n 1, 1) := by decide +kernel
theorem dX11_laysNet_86 : decode cX11_laysNet 86 = .ok (.iload_n 2, 1) := by decide +kernel
theorem dX11_laysNet_87 : decode cX11_laysNet 87 = .ok (.iastore, 1) := by decide +kernel
theorem dX11_laysNet_88 : decode cX11_laysNet 88 = .ok (.aload_n 0, 1) := by decide +kernel
theorem dX11_laysNet_89 : decode cX11_laysNet 89 = .ok (.getfield 72, 3) := by decide +kernel
theorem dX11_laysNet_92 : decode cX11_laysNet 92 = .ok (.iload_n 1, 1) := by decide +kernel
theorem dX11_laysNet_93 : decode cX11_laysNet 93 = .ok (.dup2, 1) := by decide +kernel
theorem dX11_laysNet_94 : decode cX11_laysNet 94 = .ok (.iaload, 1) := by decide +kernel
theorem dX11_laysNet_95 : decode cX11_laysNet 95 = .ok (.iconst 1, 1) := by decide +kernel
theorem dX11_laysNet_96 : decode cX11_laysNet 96 = .ok (.iadd, 1) := by decide +kernel
theorem dX11_laysNet_97 : decode cX11_laysNet 97 = .ok (.iastore, 1) := by decide +kernel
theorem dX11_laysNet_98 : decode cX11_laysNet 98 = .ok (.iinc 2 1, 3) := by decide +kernel
theorem dX11_laysNet_101 : decode cX11_laysNet 101 = .ok (.goto (-78), 3) := by decide +kernel
theorem dX11_laysNet_104 : decode cX11_laysNet 104 = .ok (.return_, 1) := by decide +kernel
def sX11_laysNet_L23 (F : Nat) (l0 : Nat) (l1 : Int32) (l2 : Int32) (h : HP) : Option ((Int32 × HP) ⊕ HP) :=
  (gI h 11 (some l0) 27).bind fun t7 =>
  if t7 ≤ l2 then
    some (.inr h)
  else
    (gR h 11 (some l0) 23).bind fun t8 =>
    (aI h 13 t8 l2).bind fun t9 =>
    if t9 = l1 then
      (gR h 11 (some l0) 28).bind fun t10 =>
      (aI h 13 t10 l1).bind fun t11 =>
      (if ¬ t11 = (-1 : Int32) then
          some h
        else
          (gR h 11 (some l0) 28).bind fun t13 =>
          (sI h t13 l1 l2).bind fun h14 =>
          some h14).bind fun h12 =>
      (gR h12 11 (some l0) 29).bind fun t15 =>
      (sI h12 t15 l1 l2).bind fun h16 =>
      (gR h16 11 (some l0) 30).bind fun t17 =>
      (aI h16 13 t17 l1).bind fun t18 =>
      (sI h16 t17 l1 (t18 + (1 : Int32))).bind fun h19 =>
      some (.inl (l2 + (1 : Int32), h19))
    else
      (gR h 11 (some l0) 24).bind fun t20 =>
      (aI h 13 t20 l2).bind fun t21 =>
      if t21 = l1 then
        (gR h 11 (some l0) 28).bind fun t22 =>
        (aI h 13 t22 l1).bind fun t23 =>
        (if ¬ t23 = (-1 : Int32) then
            some h
          else
            (gR h 11 (some l0) 28).bind fun t25 =>
            (sI h t25 l1 l2).bind fun h26 =>
            some h26).bind fun h24 =>
        (gR h24 11 (some l0) 29).bind fun t27 =>
        (sI h24 t27 l1 l2).bind fun h28 =>
        (gR h28 11 (some l0) 30).bind fun t29 =>
        (aI h28 13 t29 l1).bind fun t30 =>
        (sI h28 t29 l1 (t30 + (1 : Int32))).bind fun h31 =>
        some (.inl (l2 + (1 : Int32), h31))
      else
        (gR h 11 (some l0) 25).bind fun t32 =>
        (aI h 13 t32 l2).bind fun t33 =>
        if t33 = l1 then
          (gR h 11 (some l0) 28).bind fun t34 =>
          (aI h 13 t34 l1).bind fun t35 =>
          (if ¬ t35 = (-1 : Int32) then
              some h
            else
              (gR h 11 (some l0) 28).bind fun t37 =>
              (sI h t37 l1 l2).bind fun h38 =>
              some h38).bind fun h36 =>
          (gR h36 11 (some l0) 29).bind fun t39 =>
          (sI h36 t39 l1 l2).bind fun h40 =>
          (gR h40 11 (some l0) 30).bind fun t41 =>
          (aI h40 13 t41 l1).bind fun t42 =>
          (sI h40 t41 l1 (t42 + (1 : Int32))).bind fun h43 =>
          some (.inl (l2 + (1 : Int32), h43))
        else
          some (.inl (l2 + (1 : Int32), h))
def sX11_laysNet (F : Nat) (l0 : Nat) (l1 : Int32) (h : HP) : Option HP :=
  (gR h 11 (some l0) 28).bind fun t1 =>
  (sI h t1 l1 (-1 : Int32)).bind fun h2 =>
  (gR h2 11 (some l0) 29).bind fun t3 =>
  (sI h2 t3 l1 (-1 : Int32)).bind fun h4 =>
  (gR h4 11 (some l0) 30).bind fun t5 =>
  (sI h4 t5 l1 (0 : Int32)).bind fun h6 =>
  (iter (fun s => sX11_laysNet_L23 F l0 l1 s.1 s.2) F ((0 : Int32), h6)).bind fun h44 =>
    some h44
abbrev rm_X11_laysNet : Room := { frames := 0, cells := 0, slots := 0, locals := 0 }
set_option maxRecDepth 100000 in
set_option maxHeartbeats 4000000 in
theorem mt_X11_laysNet {w : WD} {l : Launch} {F : Nat} {l0 : Nat} {l1 : Int32} {h : HP} {h' : HP} (hs : sX11_laysNet F l0 l1 h = some h') : MV w l yX11_laysNet cX11_laysNet 3 rm_X11_laysNet 0 0 [rf w (some l0), .int l1] h h' := by
  refine of_body [(0, rf w (some l0)), (1, .int l1)] (by decide) (by simp [lg_sl, rf_cat, cat_i, cat_l, cat_a]) (by simp [lv_args, rf_cat, cat_i, cat_l, cat_a]) ?_
  intro x hw_ hnL_ hl_ hc hret hnm hQ
  subst hw_; subst hl_
  have hnl : ∀ i, i < 3 → i < x.nL := fun i h => by rw [hnL_]; exact h
  have hw : wpO (sX11_laysNet F l0 l1 h) (fun r => r = h') := ⟨_, hs, rfl⟩
  unfold sX11_laysNet at hw
  refine R_aload_n (q := 0) (i := 0) (v := (some l0)) hc dX11_laysNet_0 rfl rfl ?_
  refine R_getR hc fl_11_66 dX11_laysNet_1 hw (fun t1 hw => ?_)
  refine R_iload_n (q := 1) (i := 1) (v := l1) hc dX11_laysNet_4 rfl rfl ?_
  refine R_iconst (v := (-1 : Int32)) hc dX11_laysNet_5 kI_m1 ?_
  refine R_iastore hc dX11_laysNet_6 hw (fun h2 hw => ?_)
  refine R_aload_n (q := 0) (i := 0) (v := (some l0)) hc dX11_laysNet_7 rfl rfl ?_
  refine R_getR hc fl_11_69 dX11_laysNet_8 hw (fun t3 hw => ?_)
  refine R_iload_n (q := 1) (i := 1) (v := l1) hc dX11_laysNet_11 rfl rfl ?_
  refine R_iconst (v := (-1 : Int32)) hc dX11_laysNet_12 kI_m1 ?_
  refine R_iastore hc dX11_laysNet_13 hw (fun h4 hw => ?_)
  refine R_aload_n (q := 0) (i := 0) (v := (some l0)) hc dX11_laysNet_14 rfl rfl ?_
  refine R_getR hc fl_11_72 dX11_laysNet_15 hw (fun t5 hw => ?_)
  refine R_iload_n (q := 1) (i := 1) (v := l1) hc dX11_laysNet_18 rfl rfl ?_
  refine R_iconst (v := (0 : Int32)) hc dX11_laysNet_19 kI_0 ?_
  refine R_iastore hc dX11_laysNet_20 hw (fun h6 hw => ?_)
  refine R_iconst (v := (0 : Int32)) hc dX11_laysNet_21 kI_0 ?_
  refine R_istore_n (i := 2) (v := (0 : Int32)) hc [(2, .int (0 : Int32)), (0, rf x.w (some l0)), (1, .int l1)] dX11_laysNet_22 rfl (hnl 2 (le_b rfl)) rfl ?_
  refine R_sub hc [1, 2, 0] rfl ?_
  refine R_loop (P := fun (s : (Int32 × HP)) => Rn x 0 0 23 [(0, rf x.w (some l0)), (1, .int l1), (2, .int s.1)] [] s.2) (fun h44 => Rn x 0 0 104 [] [] h44) hw (fun r hw => ?_) (fun X hX s hw => ?_)
  · revert r hw
    intro h44 hw
    show Rn x 0 0 104 [] [] h44
    exact R_return hc hret hQ hw dX11_laysNet_104
  · obtain ⟨l2_46, h47⟩ := s
    show Rn x 0 0 23 [(0, rf x.w (some l0)), (1, .int l1), (2, .int l2_46)] [] h47
    have hw : wpO (sX11_laysNet_L23 F l0 l1 l2_46 h47) _ := hw
    unfold sX11_laysNet_L23 at hw
    refine R_iload_n (q := 2) (i := 2) (v := l2_46) hc dX11_laysNet_23 rfl rfl ?_
    refine R_aload_n (q := 0) (i := 0) (v := (some l0)) hc dX11_laysNet_24 rfl rfl ?_
    refine R_getI hc fl_11_166 dX11_laysNet_25 hw (fun t7 hw => ?_)
    refine R_icmp_ge (tgt := 104) hc dX11_laysNet_28 (by decide) hw (fun hw => ?_) (fun hw => ?_)
    · refine R_sub hc [] rfl ?_
      exact (wpO_some hw :)
    · refine R_aload_n (q := 0) (i := 0) (v := (some l0)) hc dX11_laysNet_31 rfl rfl ?_
      refine R_getR hc fl_11_54 dX11_laysNet_32 hw (fun t8 hw => ?_)
      refine R_iload_n (q := 2) (i := 2) (v := l2_46) hc dX11_laysNet_35 rfl rfl ?_
      refine R_iaload hc dX11_laysNet_36 hw (fun t9 hw => ?_)
      refine R_iload_n (q := 1) (i := 1) (v := l1) hc dX11_laysNet_37 rfl rfl ?_
      refine R_icmp_eq (tgt := 64) hc dX11_laysNet_38 (by decide) hw (fun hw => ?_) (fun hw => ?_)
      · refine R_aload_n (q := 0) (i := 0) (v := (some l0)) hc dX11_laysNet_64 rfl rfl ?_
        refine R_getR hc fl_11_66 dX11_laysNet_65 hw (fun t10 hw => ?_)
        refine R_iload_n (q := 1) (i := 1) (v := l1) hc dX11_laysNet_68 rfl rfl ?_
        refine R_iaload hc dX11_laysNet_69 hw (fun t11 hw => ?_)
        refine R_iconst (v := (-1 : Int32)) hc dX11_laysNet_70 kI_m1 ?_
        refine R_join (fun (h12 : HP) => Rn x 0 0 81 [(0, rf x.w (some l0)), (1, .int l1), (2, .int l2_46)] [] h12) hw (fun r hw => ?_) (fun hw => ?_)
        · revert r hw
          intro h12 hw
          show Rn x 0 0 81 [(0, rf x.w (some l0)), (1, .int l1), (2, .int l2_46)] [] h12
          refine R_aload_n (q := 0) (i := 0) (v := (some l0)) hc dX11_laysNet_81 rfl rfl ?_
          refine R_getR hc fl_11_69 dX11_laysNet_82 hw (fun t15 hw => ?_)
          refine R_iload_n (q := 1) (i := 1) (v := l1) hc dX11_laysNet_85 rfl rfl ?_
          refine R_iload_n (q := 2) (i := 2) (v := l2_46) hc dX11_laysNet_86 rfl rfl ?_
          refine R_iastore hc dX11_laysNet_87 hw (fun h16 hw => ?_)
          refine R_aload_n (q := 0) (i := 0) (v := (some l0)) hc dX11_laysNet_88 rfl rfl ?_
          refine R_getR hc fl_11_72 dX11_laysNet_89 hw (fun t17 hw => ?_)
          refine R_iload_n (q := 1) (i := 1) (v := l1) hc dX11_laysNet_92 rfl rfl ?_
          refine R_dup2 hc dX11_laysNet_93 rfl (rf_cat _ _) ?_
          refine R_iaload hc dX11_laysNet_94 hw (fun t18 hw => ?_)
          refine R_iconst (v := (1 : Int32)) hc dX11_laysNet_95 kI_1 ?_
          refine R_iadd hc dX11_laysNet_96 ?_
          refine R_iastore hc dX11_laysNet_97 hw (fun h19 hw => ?_)
          refine R_iinc (q := 2) (i := 2) (v := l2_46) hc [(2, .int (l2_46 + (1 : Int32))), (0, rf x.w (some l0)), (1, .int l1)] dX11_laysNet_98 rfl (kC_1 _) (hnl 2 (le_b rfl)) rfl ?_
          refine R_goto (tgt := 23) hc dX11_laysNet_101 (by decide) ?_
          refine R_sub hc [1, 2, 0] rfl ?_
          exact hX (l2_46 + (1 : Int32), h19) (wpO_some hw :)
        · refine R_icmp_ne (tgt := 81) hc dX11_laysNet_71 (by decide) hw (fun hw => ?_) (fun hw => ?_)
          · refine R_sub hc [0, 1, 2] rfl ?_
            exact (wpO_some hw :)
          · refine R_aload_n (q := 0) (i := 0) (v := (some l0)) hc dX11_laysNet_74 rfl rfl ?_
            refine R_getR hc fl_11_66 dX11_laysNet_75 hw (fun t13 hw => ?_)
            refine R_iload_n (q := 1) (i := 1) (v := l1) hc dX11_laysNet_78 rfl rfl ?_
            refine R_iload_n (q := 2) (i := 2) (v := l2_46) hc dX11_laysNet_79 rfl rfl ?_
            refine R_iastore hc dX11_laysNet_80 hw (fun h14 hw => ?_)
            refine R_sub hc [0, 1, 2] rfl ?_
            exact (wpO_some hw :)
      · refine R_aload_n (q := 0) (i := 0) (v := (some l0)) hc dX11_laysNet_41 rfl rfl ?_
        refine R_getR hc fl_11_57 dX11_laysNet_42 hw (fun t20 hw => ?_)
        refine R_iload_n (q := 2) (i := 2) (v := l2_46) hc dX11_laysNet_45 rfl rfl ?_
        refine R_iaload hc dX11_laysNet_46 hw (fun t21 hw => ?_)
        refine R_iload_n (q := 1) (i := 1) (v := l1) hc dX11_laysNet_47 rfl rfl ?_
        refine R_icmp_eq (tgt := 64) hc dX11_laysNet_48 (by decide) hw (fun hw => ?_) (fun hw => ?_)
        · refine R_aload_n (q := 0) (i := 0) (v := (some l0)) hc dX11_laysNet_64 rfl rfl ?_
          refine R_getR hc fl_11_66 dX11_laysNet_65 hw (fun t22 hw => ?_)
          refine R_iload_n (q := 1) (i := 1) (v := l1) hc dX11_laysNet_68 rfl rfl ?_
          refine R_iaload hc dX11_laysNet_69 hw (fun t23 hw => ?_)
          refine R_iconst (v := (-1 : Int32)) hc dX11_laysNet_70 kI_m1 ?_
          refine R_join (fun (h24 : HP) => Rn x 0 0 81 [(0, rf x.w (some l0)), (1, .int l1), (2, .int l2_46)] [] h24) hw (fun r hw => ?_) (fun hw => ?_)
          · revert r hw
            intro h24 hw
            show Rn x 0 0 81 [(0, rf x.w (some l0)), (1, .int l1), (2, .int l2_46)] [] h24
            refine R_aload_n (q := 0) (i := 0) (v := (some l0)) hc dX11_laysNet_81 rfl rfl ?_
            refine R_getR hc fl_11_69 dX11_laysNet_82 hw (fun t27 hw => ?_)
            refine R_iload_n (q := 1) (i := 1) (v := l1) hc dX11_laysNet_85 rfl rfl ?_
            refine R_iload_n (q := 2) (i := 2) (v := l2_46) hc dX11_laysNet_86 rfl rfl ?_
            refine R_iastore hc dX11_laysNet_87 hw (fun h28 hw => ?_)
            refine R_aload_n (q := 0) (i := 0) (v := (some l0)) hc dX11_laysNet_88 rfl rfl ?_
            refine R_getR hc fl_11_72 dX11_laysNet_89 hw (fun t29 hw => ?_)
            refine R_iload_n (q := 1) (i := 1) (v := l1) hc dX11_laysNet_92 rfl rfl ?_
            refine R_dup2 hc dX11_laysNet_93 rfl (rf_cat _ _) ?_
            refine R_iaload hc dX11_laysNet_94 hw (fun t30 hw => ?_)
            refine R_iconst (v := (1 : Int32)) hc dX11_laysNet_95 kI_1 ?_
            refine R_iadd hc dX11_laysNet_96 ?_
            refine R_iastore hc dX11_laysNet_97 hw (fun h31 hw => ?_)
            refine R_iinc (q := 2) (i := 2) (v := l2_46) hc [(2, .int (l2_46 + (1 : Int32))), (0, rf x.w (some l0)), (1, .int l1)] dX11_laysNet_98 rfl (kC_1 _) (hnl 2 (le_b rfl)) rfl ?_
            refine R_goto (tgt := 23) hc dX11_laysNet_101 (by decide) ?_
            refine R_sub hc [1, 2, 0] rfl ?_
            exact hX (l2_46 + (1 : Int32), h31) (wpO_some hw :)
          · refine R_icmp_ne (tgt := 81) hc dX11_laysNet_71 (by decide) hw (fun hw => ?_) (fun hw => ?_)
            · refine R_sub hc [0, 1, 2] rfl ?_
              exact (wpO_some hw :)
            · refine R_aload_n (q := 0) (i := 0) (v := (some l0)) hc dX11_laysNet_74 rfl rfl ?_
              refine R_getR hc fl_11_66 dX11_laysNet_75 hw (fun t25 hw => ?_)
              refine R_iload_n (q := 1) (i := 1) (v := l1) hc dX11_laysNet_78 rfl rfl ?_
              refine R_iload_n (q := 2) (i := 2) (v := l2_46) hc dX11_laysNet_79 rfl rfl ?_
              refine R_iastore hc dX11_laysNet_80 hw (fun h26 hw => ?_)
              refine R_sub hc [0, 1, 2] rfl ?_
              exact (wpO_some hw :)
        · refine R_aload_n (q := 0) (i := 0) (v := (some l0)) hc dX11_laysNet_51 rfl rfl ?_
          refine R_getR hc fl_11_60 dX11_laysNet_52 hw (fun t32 hw => ?_)
          refine R_iload_n (q := 2) (i := 2) (v := l2_46) hc dX11_laysNet_55 rfl rfl ?_
          refine R_iaload hc dX11_laysNet_56 hw (fun t33 hw => ?_)
          refine R_iload_n (q := 1) (i := 1) (v := l1) hc dX11_laysNet_57 rfl rfl ?_
          refine R_icmp_eq (tgt := 64) hc dX11_laysNet_58 (by decide) hw (fun hw => ?_) (fun hw => ?_)
          · refine R_aload_n (q := 0) (i := 0) (v := (some l0)) hc dX11_laysNet_64 rfl rfl ?_
            refine R_getR hc fl_11_66 dX11_laysNet_65 hw (fun t34 hw => ?_)
            refine R_iload_n (q := 1) (i := 1) (v := l1) hc dX11_laysNet_68 rfl rfl ?_
            refine R_iaload hc dX11_laysNet_69 hw (fun t35 hw => ?_)
            refine R_iconst (v := (-1 : Int32)) hc dX11_laysNet_70 kI_m1 ?_
            refine R_join (fun (h36 : HP) => Rn x 0 0 81 [(0, rf x.w (some l0)), (1, .int l1), (2, .int l2_46)] [] h36) hw (fun r hw => ?_) (fun hw => ?_)
            · revert r hw
              intro h36 hw
              show Rn x 0 0 81 [(0, rf x.w (some l0)), (1, .int l1), (2, .int l2_46)] [] h36
              refine R_aload_n (q := 0) (i := 0) (v := (some l0)) hc dX11_laysNet_81 rfl rfl ?_
              refine R_getR hc fl_11_69 dX11_laysNet_82 hw (fun t39 hw => ?_)
              refine R_iload_n (q := 1) (i := 1) (v := l1) hc dX11_laysNet_85 rfl rfl ?_
              refine R_iload_n (q := 2) (i := 2) (v := l2_46) hc dX11_laysNet_86 rfl rfl ?_
              refine R_iastore hc dX11_laysNet_87 hw (fun h40 hw => ?_)
              refine R_aload_n (q := 0) (i := 0) (v := (some l0)) hc dX11_laysNet_88 rfl rfl ?_
              refine R_getR hc fl_11_72 dX11_laysNet_89 hw (fun t41 hw => ?_)
              refine R_iload_n (q := 1) (i := 1) (v := l1) hc dX11_laysNet_92 rfl rfl ?_
              refine R_dup2 hc dX11_laysNet_93 rfl (rf_cat _ _) ?_
              refine R_iaload hc dX11_laysNet_94 hw (fun t42 hw => ?_)
              refine R_iconst (v := (1 : Int32)) hc dX11_laysNet_95 kI_1 ?_
              refine R_iadd hc dX11_laysNet_96 ?_
              refine R_iastore hc dX11_laysNet_97 hw (fun h43 hw => ?_)
              refine R_iinc (q := 2) (i := 2) (v := l2_46) hc [(2, .int (l2_46 + (1 : Int32))), (0, rf x.w (some l0)), (1, .int l1)] dX11_laysNet_98 rfl (kC_1 _) (hnl 2 (le_b rfl)) rfl ?_
              refine R_goto (tgt := 23) hc dX11_laysNet_101 (by decide) ?_
              refine R_sub hc [1, 2, 0] rfl ?_
              exact hX (l2_46 + (1 : Int32), h43) (wpO_some hw :)
            · refine R_icmp_ne (tgt := 81) hc dX11_laysNet_71 (by decide) hw (fun hw => ?_) (fun hw => ?_)
              · refine R_sub hc [0, 1, 2] rfl ?_
                exact (wpO_some hw :)
              · refine R_aload_n (q := 0) (i := 0) (v := (some l0)) hc dX11_laysNet_74 rfl rfl ?_
                refine R_getR hc fl_11_66 dX11_laysNet_75 hw (fun t37 hw => ?_)
                refine R_iload_n (q := 1) (i := 1) (v := l1) hc dX11_laysNet_78 rfl rfl ?_
                refine R_iload_n (q := 2) (i := 2) (v := l2_46) hc dX11_laysNet_79 rfl rfl ?_
                refine R_iastore hc dX11_laysNet_80 hw (fun h38 hw => ?_)
                refine R_sub hc [0, 1, 2] rfl ?_
                exact (wpO_some hw :)
          · refine R_goto (tgt := 98) hc dX11_laysNet_61 (by decide) ?_
            refine R_iinc (q := 2) (i := 2) (v := l2_46) hc [(2, .int (l2_46 + (1 : Int32))), (0, rf x.w (some l0)), (1, .int l1)] dX11_laysNet_98 rfl (kC_1 _) (hnl 2 (le_b rfl)) rfl ?_
            refine R_goto (tgt := 23) hc dX11_laysNet_101 (by decide) ?_
            refine R_sub hc [1, 2, 0] rfl ?_
            exact hX (l2_46 + (1 : Int32), h47) (wpO_some hw :)
theorem dX11_laysColumns_0 : decode cX11_laysColumns 0 = .ok (.iconst 0, 1) := by decide +kernel
theorem dX11_laysColumns_1 : decode cX11_laysColumns 1 = .ok (.istore_n 1, 1) := by decide +kernel
theorem dX11_laysColumns_2 : decode cX11_laysColumns 2 = .ok (.aload_n 0, 1) := by decide +kernel
theorem dX11_laysColumns_3 : decode cX11_laysColumns 3 = .ok (.iconst 0, 1) := by decide +kernel
theorem dX11_laysColumns_4 : decode cX11_laysColumns 4 = .ok (.putfield 166, 3) := by decide +kernel
theorem dX11_laysColumns_7 : decode cX11_laysColumns 7 = .ok (.iconst 0, 1) := by decide +kernel
theorem dX11_laysColumns_8 : decode cX11_laysColumns 8 = .ok (.istore_n 2, 1) := by decide +kernel
theorem dX11_laysColumns_9 : decode cX11_laysColumns 9 = .ok (.iload_n 2, 1) := by decide +kernel
theorem dX11_laysColumns_10 : decode cX11_laysColumns 10 = .ok (.aload_n 0, 1) := by decide +kernel
theorem dX11_laysColumns_11 : decode cX11_laysColumns 11 = .ok (.invokevirtual 103, 3) := by decide +kernel
theorem dX11_laysColumns_14 : decode cX11_laysColumns 14 = .ok (.if_icmp .ge 129, 3) := by decide +kernel
theorem dX11_laysColumns_17 : decode cX11_laysColumns 17 = .ok (.aload_n 0, 1) := by decide +kernel
theorem dX11_laysColumns_18 : decode cX11_laysColumns 18 = .ok (.iload_n 2, 1) := by decide +kernel
theorem dX11_laysColumns_19 : decode cX11_laysColumns 19 = .ok (.invokevirtual 156, 3) := by decide +kernel
theorem dX11_laysColumns_22 : decode cX11_laysColumns 22 = .ok (.istore_n 3, 1) := by decide +kernel
theorem dX11_laysColumns_23 : decode cX11_laysColumns 23 = .ok (.aload_n 0, 1) := by decide +kernel
theorem dX11_laysColumns_24 : decode cX11_laysColumns 24 = .ok (.iload_n 2, 1) := by decide +kernel
theorem dX11_laysColumns_25 : decode cX11_laysColumns 25 = .ok (.invokevirtual 160, 3) := by decide +kernel
theorem dX11_laysColumns_28 : decode cX11_laysColumns 28 = .ok (.istore 4, 2) := by decide +kernel
theorem dX11_laysColumns_30 : decode cX11_laysColumns 30 = .ok (.aload_n 0, 1) := by decide +kernel
theorem dX11_laysColumns_31 : decode cX11_laysColumns 31 = .ok (.iload_n 1, 1) := by decide +kernel
theorem dX11_laysColumns_32 : decode cX11_laysColumns 32 = .ok (.aload_n 0, 1) := by decide +kernel
theorem dX11_laysColumns_33 : decode cX11_laysColumns 33 = .ok (.iload_n 3, 1) := by decide +kernel
theorem dX11_laysColumns_34 : decode cX11_laysColumns 34 = .ok (.iload 4, 2) := by decide +kernel
theorem dX11_laysColumns_36 : decode cX11_laysColumns 36 = .ok (.iconst 1, 1) := by decide +kernel
theorem dX11_laysColumns_37 : decode cX11_laysColumns 37 = .ok (.iconst 0, 1) := by decide +kernel
theorem dX11_laysColumns_38 : decode cX11_laysColumns 38 = .ok (.invokevirtual 115, 3) := by decide +kernel
theorem dX11_laysColumns_41 : decode cX11_laysColumns 41 = .ok (.iconst (-1), 1) := by decide +kernel
theorem dX11_laysColumns_42 : decode cX11_laysColumns 42 = .ok (.aload_n 0, 1) := by decide +kernel
theorem dX11_laysColumns_43 : decode cX11_laysColumns 43 = .ok (.iload_n 3, 1) := by decide +kernel
theorem dX11_laysColumns_44 : decode cX11_laysColumns 44 = .ok (.iload 4, 2) := by decide +kernel
theorem dX11_laysColumns_46 : decode cX11_laysColumns 46 = .ok (.iconst 0, 1) := by decide +kernel
theorem dX11_laysColumns_47 : decode cX11_laysColumns 47 = .ok (.iconst 0, 1) := by decide +kernel
theorem dX11_laysColumns_48 : decode cX11_laysColumns 48 = .ok (.invokevirtual 115, 3) := by decide +kernel
theorem dX11_laysColumns_51 : decode cX11_laysColumns 51 = .ok (.invokevirtual 169, 3) := by decide +kernel
theorem dX11_laysColumns_54 : decode cX11_laysColumns 54 = .ok (.aload_n 0, 1) := by decide +kernel
theorem dX11_laysColumns_55 : decode cX11_laysColumns 55 = .ok (.iload_n 1, 1) := by decide +kernel
theorem dX11_laysColumns_56 : decode cX11_laysColumns 56 = .ok (.iconst 1, 1) := by decide +kernel
theorem dX11_laysColumns_57 : decode cX11_laysColumns 57 = .ok (.iadd, 1) := by decide +kernel
theorem dX11_laysColumns_58 : decode cX11_laysColumns 58 = .ok (.iconst (-1), 1) := by decide +kernel
theorem dX11_laysColumns_59 : decode cX11_laysColumns 59 = .ok (.aload_n 0, 1) := by decide +kernel
theorem dX11_laysColumns_60 : decode cX11_laysColumns 60 = .ok (.iload_n 3, 1) := by decide +kernel
theorem dX11_laysColumns_61 : decode cX11_laysColumns 61 = .ok (.iconst 0, 1) := by decide +kernel
theorem dX11_laysColumns_62 : decode cX11_laysColumns 62 = .ok (.invokevirtual 111, 3) := by decide +kernel
theorem dX11_laysColumns_65 : decode cX11_laysColumns 65 = .ok (.iconst (-1), 1) := by decide +kernel
theorem dX11_laysColumns_66 : decode cX11_laysColumns 66 = .ok (.invokevirtual 169, 3) := by decide +kernel
theorem dX11_laysColumns_69 : decode cX11_laysColumns 69 = .ok (.aload_n 0, 1) := by decide +kernel
theorem dX11_laysColumns_70 : decode cX11_laysColumns 70 = .ok (.iload_n 1, 1) := by decide +kernel
theorem dX11_laysColumns_71 : decode cX11_laysColumns 71 = .ok (.iconst 2, 1) := by decide +kernel
theorem dX11_laysColumns_72 : decode cX11_laysColumns 72 = .ok (.iadd, 1) := by decide +kernel
theorem dX11_laysColumns_73 : decode cX11_laysColumns 73 = .ok (.aload_n 0, 1) := by decide +kernel
theorem dX11_laysColumns_74 : decode cX11_laysColumns 74 = .ok (.iload_n 3, 1) := by decide +kernel
theorem dX11_laysColumns_75 : decode cX11_laysColumns 75 = .ok (.iload 4, 2) := by decide +kernel
theorem dX11_laysColumns_77 : decode cX11_laysColumns 77 = .ok (.iconst 1, 1) := by decide +kernel
theorem dX11_laysColumns_78 : decode cX11_laysColumns 78 = .ok (.iconst 1, 1) := by decide +kernel
theorem dX11_laysColumns_79 : decode cX11_laysColumns 79 = .ok (.invokevirtual 115, 3) := by decide +kernel
theorem dX11_laysColumns_82 : decode cX11_laysColumns 82 = .ok (.iconst (-1), 1) := by decide +kernel
theorem dX11_laysColumns_83 : decode cX11_laysColumns 83 = .ok (.aload_n 0, 1) := by decide +kernel
theorem dX11_laysColumns_84 : decode cX11_laysColumns 84 = .ok (.iload_n 3, 1) := by decide +kernel
theorem dX11_laysColumns_85 : decode cX11_laysColumns 85 = .ok (.iload 4, 2) := by decide +kernel
theorem dX11_laysColumns_87 : decode cX11_laysColumns 87 = .ok (.iconst 0, 1) := by decide +kernel
theorem dX11_laysColumns_88 : decode cX11_laysColumns 88 = .ok (.iconst 1, 1) := by decide +kernel
theorem dX11_laysColumns_89 : decode cX11_laysColumns 89 = .ok (.invokevirtual 115, 3) := by decide +kernel
theorem dX11_laysColumns_92 : decode cX11_laysColumns 92 = .ok (.invokevirtual 169, 3) := by decide +kernel
theorem dX11_laysColumns_95 : decode cX11_laysColumns 95 = .ok (.aload_n 0, 1) := by decide +kernel
theorem dX11_laysColumns_96 : decode cX11_laysColumns 96 = .ok (.getfield 63, 3) := by decide +kernel
theorem dX11_laysColumns_99 : decode cX11_laysColumns 99 = .ok (.iload_n 2, 1) := by decide +kernel
theorem dX11_laysColumns_100 : decode cX11_laysColumns 100 = .ok (.iload_n 1, 1) := by decide +kernel
theorem dX11_laysColumns_101 : decode cX11_laysColumns 101 = .ok (.iconst 1, 1) := by decide +kernel
theorem dX11_laysColumns_102 : decode cX11_laysColumns 102 = .ok (.iadd, 1) := by decide +kernel
theorem dX11_laysColumns_103 : decode cX11_laysColumns 103 = .ok (.iastore, 1) := by decide +kernel
theorem dX11_laysColumns_104 : decode cX11_laysColumns 104 = .ok (.aload_n 0, 1) := by decide +kernel
theorem dX11_laysColumns_105 : decode cX11_laysColumns 105 = .ok (.iload_n 1, 1) := by decide +kernel
theorem dX11_laysColumns_106 : decode cX11_laysColumns 106 = .ok (.iconst 3, 1) := by decide +kernel
theorem dX11_laysColumns_107 : decode cX11_laysColumns 107 = .ok (.iadd, 1) := by decide +kernel
theorem dX11_laysColumns_108 : decode cX11_laysColumns 108 = .ok (.putfield 166, 3) := by decide +kernel
theorem dX11_laysColumns_111 : decode cX11_laysColumns 111 = .ok (.iload_n 1, 1) := by decide +kernel
theorem dX11_laysColumns_112 : decode cX11_laysColumns 112 = .ok (.iload_n 2, 1) := by decide +kernel
theorem dX11_laysColumns_113 : decode cX11_laysColumns 113 = .ok (.aload_n 0, 1) := by decide +kernel
theorem dX11_laysColumns_114 : decode cX11_laysColumns 114 = .ok (.invokevirtual 103, 3) := by decide +kernel
theorem dX11_laysColumns_117 : decode cX11_laysColumns 117 = .ok (.iconst 1, 1) := by decide +kernel
theorem dX11_laysColumns_118 : decode cX11_laysColumns 118 = .ok (.isub, 1) := by decide +kernel
theorem dX11_laysColumns_119 : decode cX11_laysColumns 119 = .ok (.if_icmp .ge 15, 3) := by decide +kernel
theorem dX11_laysColumns_122 : decode cX11_laysColumns 122 = .ok (.aload_n 0, 1) := by decide +kernel
theorem dX11_laysColumns_123 : decode cX11_laysColumns 123 = .ok (.iload_n 2, 1) := by decide +kernel
theorem dX11_laysColumns_124 : decode cX11_laysColumns 124 = .ok (.invokevirtual 163, 3) := by decide +kernel
theorem dX11_laysColumns_127 : decode cX11_laysColumns 127 = .ok (.ifCond .ne 7, 3) := by decide +kernel
theorem dX11_laysColumns_130 : decode cX11_laysColumns 130 = .ok (.iconst 2, 1) := by decide +kernel
theorem dX11_laysColumns_131 : decode cX11_laysColumns 131 = .ok (.goto 4, 3) := by decide +kernel
theorem dX11_laysColumns_134 : decode cX11_laysColumns 134 = .ok (.iconst 3, 1) := by decide +kernel
theorem dX11_laysColumns_135 : decode cX11_laysColumns 135 = .ok (.iadd, 1) := by decide +kernel
theorem dX11_laysColumns_136 : decode cX11_laysColumns 136 = .ok (.istore_n 1, 1) := by decide +kernel
theorem dX11_laysColumns_137 : decode cX11_laysColumns 137 = .ok (.iinc 2 1, 3) := by decide +kernel
theorem dX11_laysColumns_140 : decode cX11_laysColumns 140 = .ok (.goto (-131), 3) := by decide +kernel
theorem dX11_laysColumns_143 : decode cX11_laysColumns 143 = .ok (.iconst 0, 1) := by decide +kernel
theorem dX11_laysColumns_144 : decode cX11_laysColumns 144 = .ok (.istore_n 2, 1) := by decide +kernel
theorem dX11_laysColumns_145 : decode cX11_laysColumns 145 = .ok (.iload_n 2, 1) := by decide +kernel
theorem dX11_laysColumns_146 : decode cX11_laysColumns 146 = .ok (.bipush 12, 2) := by decide +kernel
theorem dX11_laysColumns_148 : decode cX11_laysColumns 148 = .ok (.if_icmp .ge 14, 3) := by decide +kernel
theorem dX11_laysColumns_151 : decode cX11_laysColumns 151 = .ok (.aload_n 0, 1) := by decide +kernel
theorem dX11_laysColumns_152 : decode cX11_laysColumns 152 = .ok (.iload_n 2, 1) := by decide +kernel
theorem dX11_laysColumns_153 : decode cX11_laysColumns 153 = .ok (.invokevirtual 172, 3) := by decide +kernel
theorem dX11_laysColumns_156 : decode cX11_laysColumns 156 = .ok (.iinc 2 1, 3) := by decide +kernel
theorem dX11_laysColumns_159 : decode cX11_laysColumns 159 = .ok (.goto (-14), 3) := by decide +kernel
theorem dX11_laysColumns_162 : decode cX11_laysColumns 162 = .ok (.return_, 1) := by decide +kernel
def sX11_laysColumns_L9 (F : Nat) (l0 : Nat) (l1 : Int32) (l2 : Int32) (h : HP) : Option ((Int32 × Int32 × HP) ⊕ HP) :=
  (dO h 11 (some l0)).bind fun a2 =>
  (sX11_fingers F a2 h).bind fun t3 =>
  if t3 ≤ l2 then
    some (.inr h)
  else
    (dO h 11 (some l0)).bind fun a4 =>
    (sX11_fingerAt F a4 l2 h).bind fun t5 =>
    (dO h 11 (some l0)).bind fun a6 =>
    (sX11_turnAt F a6 l2 h).bind fun t7 =>
    (dO h 11 (some l0)).bind fun a8 =>
    (sX11_side F a8 t5 t7 (1 : Int32) (0 : Int32) h).bind fun t9 =>
    (dO h 11 (some l0)).bind fun a10 =>
    (sX11_side F a10 t5 t7 (0 : Int32) (0 : Int32) h).bind fun t11 =>
    (dO h 11 (some l0)).bind fun a12 =>
    (sX11_laysColumn F a12 l1 t9 (-1 : Int32) t11 h).bind fun h13 =>
    (dO h13 11 (some l0)).bind fun a14 =>
    (sX11_of F a14 t5 (0 : Int32) h13).bind fun t15 =>
    (dO h13 11 (some l0)).bind fun a16 =>
    (sX11_laysColumn F a16 (l1 + (1 : Int32)) (-1 : Int32) t15 (-1 : Int32) h13).bind fun h17 =>
    (dO h17 11 (some l0)).bind fun a18 =>
    (sX11_side F a18 t5 t7 (1 : Int32) (1 : Int32) h17).bind fun t19 =>
    (dO h17 11 (some l0)).bind fun a20 =>
    (sX11_side F a20 t5 t7 (0 : Int32) (1 : Int32) h17).bind fun t21 =>
    (dO h17 11 (some l0)).bind fun a22 =>
    (sX11_laysColumn F a22 (l1 + (2 : Int32)) t19 (-1 : Int32) t21 h17).bind fun h23 =>
    (gR h23 11 (some l0) 26).bind fun t24 =>
    (sI h23 t24 l2 (l1 + (1 : Int32))).bind fun h25 =>
    (pI h25 11 (some l0) 27 (l1 + (3 : Int32))).bind fun h26 =>
    (dO h26 11 (some l0)).bind fun a27 =>
    (sX11_fingers F a27 h26).bind fun t28 =>
    if (t28 - (1 : Int32)) ≤ l2 then
      nmI (l1 + (3 : Int32)) fun l1_29 =>
      some (.inl (l1_29, l2 + (1 : Int32), h26))
    else
      (dO h26 11 (some l0)).bind fun a30 =>
      (sX11_lackBehind F a30 l2 h26).bind fun t31 =>
      if ¬ t31 = 0 then
        nmI (l1 + (3 : Int32)) fun l1_32 =>
        some (.inl (l1_32, l2 + (1 : Int32), h26))
      else
        nmI (l1 + (2 : Int32)) fun l1_33 =>
        some (.inl (l1_33, l2 + (1 : Int32), h26))
def sX11_laysColumns_L145 (F : Nat) (l0 : Nat) (l2 : Int32) (h : HP) : Option ((Int32 × HP) ⊕ HP) :=
  if (12 : Int32) ≤ l2 then
    some (.inr h)
  else
    (dO h 11 (some l0)).bind fun a35 =>
    (sX11_laysNet F a35 l2 h).bind fun h36 =>
    some (.inl (l2 + (1 : Int32), h36))
def sX11_laysColumns (F : Nat) (l0 : Nat) (h : HP) : Option HP :=
  (pI h 11 (some l0) 27 (0 : Int32)).bind fun h1 =>
  (iter (fun s => sX11_laysColumns_L9 F l0 s.1 s.2.1 s.2.2) F ((0 : Int32), (0 : Int32), h1)).bind fun h34 =>
    (iter (fun s => sX11_laysColumns_L145 F l0 s.1 s.2) F ((0 : Int32), h34)).bind fun h37 =>
      some h37
abbrev rm_X11_laysColumns : Room := { frames := 5, cells := 0, slots := 0, locals := 117 }
set_option maxRecDepth 100000 in
set_option maxHeartbeats 4000000 in
theorem mt_X11_laysColumns {w : WD} {l : Launch} {F : Nat} {l0 : Nat} {h : HP} {h' : HP} (hs : sX11_laysColumns F l0 h = some h') : MV w l yX11_laysColumns cX11_laysColumns 5 rm_X11_laysColumns 0 0 [rf w (some l0)] h h' := by
  refine of_body [(0, rf w (some l0))] (by decide) (by simp [lg_sl, rf_cat, cat_i, cat_l, cat_a]) (by simp [lv_args, rf_cat, cat_i, cat_l, cat_a]) ?_
  intro x hw_ hnL_ hl_ hc hret hnm hQ
  subst hw_; subst hl_
  have hnl : ∀ i, i < 5 → i < x.nL := fun i h => by rw [hnL_]; exact h
  have hw : wpO (sX11_laysColumns F l0 h) (fun r => r = h') := ⟨_, hs, rfl⟩
  unfold sX11_laysColumns at hw
  refine R_iconst (v := (0 : Int32)) hc dX11_laysColumns_0 kI_0 ?_
  refine R_istore_n (i := 1) (v := (0 : Int32)) hc [(1, .int (0 : Int32)), (0, rf x.w (some l0))] dX11_laysColumns_1 rfl (hnl 1 (le_b rfl)) rfl ?_
  refine R_aload_n (q := 1) (i := 0) (v := (some l0)) hc dX11_laysColumns_2 rfl rfl ?_
  refine R_iconst (v := (0 : Int32)) hc dX11_laysColumns_3 kI_0 ?_
  refine R_putI hc pl_11_166 rfl rfl dX11_laysColumns_4 hw (fun h1 hw => ?_)
  refine R_iconst (v := (0 : Int32)) hc dX11_laysColumns_7 kI_0 ?_
  refine R_istore_n (i := 2) (v := (0 : Int32)) hc [(2, .int (0 : Int32)), (1, .int (0 : Int32)), (0, rf x.w (some l0))] dX11_laysColumns_8 rfl (hnl 2 (le_b rfl)) rfl ?_
  refine R_sub hc [2, 1, 0] rfl ?_
  refine R_loop (P := fun (s : (Int32 × Int32 × HP)) => Rn x 0 0 9 [(0, rf x.w (some l0)), (1, .int s.1), (2, .int s.2.1)] [] s.2.2) (fun h34 => Rn x 0 0 143 [(0, rf x.w (some l0))] [] h34) hw (fun r hw => ?_) (fun X hX s hw => ?_)
  · revert r hw
    intro h34 hw
    show Rn x 0 0 143 [(0, rf x.w (some l0))] [] h34
    refine R_iconst (v := (0 : Int32)) hc dX11_laysColumns_143 kI_0 ?_
    refine R_istore_n (i := 2) (v := (0 : Int32)) hc [(2, .int (0 : Int32)), (0, rf x.w (some l0))] dX11_laysColumns_144 rfl (hnl 2 (le_b rfl)) rfl ?_
    refine R_sub hc [1, 0] rfl ?_
    refine R_loop (P := fun (s : (Int32 × HP)) => Rn x 0 0 145 [(0, rf x.w (some l0)), (2, .int s.1)] [] s.2) (fun h37 => Rn x 0 0 162 [] [] h37) hw (fun r hw => ?_) (fun X hX s hw => ?_)
    · revert r hw
      intro h37 hw
      show Rn x 0 0 162 [] [] h37
      exact R_return hc hret hQ hw dX11_laysColumns_162
    · obtain ⟨l2_39, h40⟩ := s
      show Rn x 0 0 145 [(0, rf x.w (some l0)), (2, .int l2_39)] [] h40
      have hw : wpO (sX11_laysColumns_L145 F l0 l2_39 h40) _ := hw
      unfold sX11_laysColumns_L145 at hw
      refine R_iload_n (q := 1) (i := 2) (v := l2_39) hc dX11_laysColumns_145 rfl rfl ?_
      refine R_bipush (v := (12 : Int32)) hc dX11_laysColumns_146 kB_12 ?_
      refine R_icmp_ge (tgt := 162) hc dX11_laysColumns_148 (by decide) hw (fun hw => ?_) (fun hw => ?_)
      · refine R_sub hc [] rfl ?_
        exact (wpO_some hw :)
      · refine R_aload_n (q := 0) (i := 0) (v := (some l0)) hc dX11_laysColumns_151 rfl rfl ?_
        refine R_iload_n (q := 1) (i := 2) (v := l2_39) hc dX11_laysColumns_152 rfl rfl ?_
        refine R_cVVi (As := [.int l2_39]) (rest := []) (r := (some l0)) (ci := 11) hc ml_11_172 mf_X11_laysNet rfl (by decide) ⟨rfl, rfl⟩ ⟨le_b rfl, le_b rfl⟩ ⟨Nat.zero_le _, Nat.zero_le _⟩ (fun a h' e => mt_X11_laysNet e) rfl rfl (Nat.zero_le _) dX11_laysColumns_153 hw (fun h36 hw => ?_)
        refine R_iinc (q := 1) (i := 2) (v := l2_39) hc [(2, .int (l2_39 + (1 : Int32))), (0, rf x.w (some l0))] dX11_laysColumns_156 rfl (kC_1 _) (hnl 2 (le_b rfl)) rfl ?_
        refine R_goto (tgt := 145) hc dX11_laysColumns_159 (by decide) ?_
        refine R_sub hc [1, 0] rfl ?_
        exact hX (l2_39 + (1 : Int32), h36) (wpO_some hw :)
  · obtain ⟨l1_42, l2_43, h44⟩ := s
    show Rn x 0 0 9 [(0, rf x.w (some l0)), (1, .int l1_42), (2, .int l2_43)] [] h44
    have hw : wpO (sX11_laysColumns_L9 F l0 l1_42 l2_43 h44) _ := hw
    unfold sX11_laysColumns_L9 at hw
    refine R_iload_n (q := 2) (i := 2) (v := l2_43) hc dX11_laysColumns_9 rfl rfl ?_
    refine R_aload_n (q := 0) (i := 0) (v := (some l0)) hc dX11_laysColumns_10 rfl rfl ?_
    refine R_cVI (As := []) (rest := [.int l2_43]) (r := (some l0)) (ci := 11) hc ml_11_103 mf_X11_fingers rfl (by decide) ⟨rfl, rfl⟩ ⟨le_b rfl, le_b rfl⟩ ⟨Nat.zero_le _, Nat.zero_le _⟩ (fun a v e => mt_X11_fingers e) rfl rfl (le_b rfl) dX11_laysColumns_11 hw (fun t3 hw => ?_)
    refine R_icmp_ge (tgt := 143) hc dX11_laysColumns_14 (by decide) hw (fun hw => ?_) (fun hw => ?_)
    · refine R_sub hc [0] rfl ?_
      exact (wpO_some hw :)
    · refine R_aload_n (q := 0) (i := 0) (v := (some l0)) hc dX11_laysColumns_17 rfl rfl ?_
      refine R_iload_n (q := 2) (i := 2) (v := l2_43) hc dX11_laysColumns_18 rfl rfl ?_
      refine R_cVI (As := [.int l2_43]) (rest := []) (r := (some l0)) (ci := 11) hc ml_11_156 mf_X11_fingerAt rfl (by decide) ⟨rfl, rfl⟩ ⟨le_b rfl, le_b rfl⟩ ⟨Nat.zero_le _, Nat.zero_le _⟩ (fun a v e => mt_X11_fingerAt e) rfl rfl (Nat.zero_le _) dX11_laysColumns_19 hw (fun t5 hw => ?_)
      refine R_istore_n (i := 3) (v := t5) hc [(3, .int t5), (0, rf x.w (some l0)), (1, .int l1_42), (2, .int l2_43)] dX11_laysColumns_22 rfl (hnl 3 (le_b rfl)) rfl ?_
      refine R_aload_n (q := 1) (i := 0) (v := (some l0)) hc dX11_laysColumns_23 rfl rfl ?_
      refine R_iload_n (q := 3) (i := 2) (v := l2_43) hc dX11_laysColumns_24 rfl rfl ?_
      refine R_cVI (As := [.int l2_43]) (rest := []) (r := (some l0)) (ci := 11) hc ml_11_160 mf_X11_turnAt rfl (by decide) ⟨rfl, rfl⟩ ⟨le_b rfl, le_b rfl⟩ ⟨Nat.zero_le _, Nat.zero_le _⟩ (fun a v e => mt_X11_turnAt e) rfl rfl (Nat.zero_le _) dX11_laysColumns_25 hw (fun t7 hw => ?_)
      refine R_istore (i := 4) (v := t7) hc [(4, .int t7), (3, .int t5), (0, rf x.w (some l0)), (1, .int l1_42), (2, .int l2_43)] dX11_laysColumns_28 (hnl 4 (le_b rfl)) rfl ?_
      refine R_aload_n (q := 2) (i := 0) (v := (some l0)) hc dX11_laysColumns_30 rfl rfl ?_
      refine R_iload_n (q := 3) (i := 1) (v := l1_42) hc dX11_laysColumns_31 rfl rfl ?_
      refine R_aload_n (q := 2) (i := 0) (v := (some l0)) hc dX11_laysColumns_32 rfl rfl ?_
      refine R_iload_n (q := 1) (i := 3) (v := t5) hc dX11_laysColumns_33 rfl rfl ?_
      refine R_iload (q := 0) (i := 4) (v := t7) hc dX11_laysColumns_34 rfl ?_
      refine R_iconst (v := (1 : Int32)) hc dX11_laysColumns_36 kI_1 ?_
      refine R_iconst (v := (0 : Int32)) hc dX11_laysColumns_37 kI_0 ?_
      refine R_cVI (As := [.int t5, .int t7, .int (1 : Int32), .int (0 : Int32)]) (rest := [.int l1_42, rf x.w (some l0)]) (r := (some l0)) (ci := 11) hc ml_11_115 mf_X11_side rfl (by decide) ⟨rfl, rfl⟩ ⟨le_b rfl, le_b rfl⟩ ⟨Nat.zero_le _, Nat.zero_le _⟩ (fun a v e => mt_X11_side e) rfl rfl (le_b rfl) dX11_laysColumns_38 hw (fun t9 hw => ?_)
      refine R_iconst (v := (-1 : Int32)) hc dX11_laysColumns_41 kI_m1 ?_
      refine R_aload_n (q := 2) (i := 0) (v := (some l0)) hc dX11_laysColumns_42 rfl rfl ?_
      refine R_iload_n (q := 1) (i := 3) (v := t5) hc dX11_laysColumns_43 rfl rfl ?_
      refine R_iload (q := 0) (i := 4) (v := t7) hc dX11_laysColumns_44 rfl ?_
      refine R_iconst (v := (0 : Int32)) hc dX11_laysColumns_46 kI_0 ?_
      refine R_iconst (v := (0 : Int32)) hc dX11_laysColumns_47 kI_0 ?_
      refine R_cVI (As := [.int t5, .int t7, .int (0 : Int32), .int (0 : Int32)]) (rest := [.int (-1 : Int32), .int t9, .int l1_42, rf x.w (some l0)]) (r := (some l0)) (ci := 11) hc ml_11_115 mf_X11_side rfl (by decide) ⟨rfl, rfl⟩ ⟨le_b rfl, le_b rfl⟩ ⟨Nat.zero_le _, Nat.zero_le _⟩ (fun a v e => mt_X11_side e) rfl rfl (le_b rfl) dX11_laysColumns_48 hw (fun t11 hw => ?_)
      refine R_cVVi (As := [.int l1_42, .int t9, .int (-1 : Int32), .int t11]) (rest := []) (r := (some l0)) (ci := 11) hc ml_11_169 mf_X11_laysColumn rfl (by decide) ⟨rfl, rfl⟩ ⟨le_b rfl, le_b rfl⟩ ⟨Nat.zero_le _, Nat.zero_le _⟩ (fun a h' e => mt_X11_laysColumn e) rfl rfl (Nat.zero_le _) dX11_laysColumns_51 hw (fun h13 hw => ?_)
      refine R_aload_n (q := 2) (i := 0) (v := (some l0)) hc dX11_laysColumns_54 rfl rfl ?_
      refine R_iload_n (q := 3) (i := 1) (v := l1_42) hc dX11_laysColumns_55 rfl rfl ?_
      refine R_iconst (v := (1 : Int32)) hc dX11_laysColumns_56 kI_1 ?_
      refine R_iadd hc dX11_laysColumns_57 ?_
      refine R_iconst (v := (-1 : Int32)) hc dX11_laysColumns_58 kI_m1 ?_
      refine R_aload_n (q := 2) (i := 0) (v := (some l0)) hc dX11_laysColumns_59 rfl rfl ?_
      refine R_iload_n (q := 1) (i := 3) (v := t5) hc dX11_laysColumns_60 rfl rfl ?_
      refine R_iconst (v := (0 : Int32)) hc dX11_laysColumns_61 kI_0 ?_
      refine R_cVI (As := [.int t5, .int (0 : Int32)]) (rest := [.int (-1 : Int32), .int (l1_42 + (1 : Int32)), rf x.w (some l0)]) (r := (some l0)) (ci := 11) hc ml_11_111 mf_X11_of rfl (by decide) ⟨rfl, rfl⟩ ⟨le_b rfl, le_b rfl⟩ ⟨Nat.zero_le _, Nat.zero_le _⟩ (fun a v e => mt_X11_of e) rfl rfl (le_b rfl) dX11_laysColumns_62 hw (fun t15 hw => ?_)
      refine R_iconst (v := (-1 : Int32)) hc dX11_laysColumns_65 kI_m1 ?_
      refine R_cVVi (As := [.int (l1_42 + (1 : Int32)), .int (-1 : Int32), .int t15, .int (-1 : Int32)]) (rest := []) (r := (some l0)) (ci := 11) hc ml_11_169 mf_X11_laysColumn rfl (by decide) ⟨rfl, rfl⟩ ⟨le_b rfl, le_b rfl⟩ ⟨Nat.zero_le _, Nat.zero_le _⟩ (fun a h' e => mt_X11_laysColumn e) rfl rfl (Nat.zero_le _) dX11_laysColumns_66 hw (fun h17 hw => ?_)
      refine R_aload_n (q := 2) (i := 0) (v := (some l0)) hc dX11_laysColumns_69 rfl rfl ?_
      refine R_iload_n (q := 3) (i := 1) (v := l1_42) hc dX11_laysColumns_70 rfl rfl ?_
      refine R_iconst (v := (2 : Int32)) hc dX11_laysColumns_71 kI_2 ?_
      refine R_iadd hc dX11_laysColumns_72 ?_
      refine R_aload_n (q := 2) (i := 0) (v := (some l0)) hc dX11_laysColumns_73 rfl rfl ?_
      refine R_iload_n (q := 1) (i := 3) (v := t5) hc dX11_laysColumns_74 rfl rfl ?_
      refine R_iload (q := 0) (i := 4) (v := t7) hc dX11_laysColumns_75 rfl ?_
      refine R_iconst (v := (1 : Int32)) hc dX11_laysColumns_77 kI_1 ?_
      refine R_iconst (v := (1 : Int32)) hc dX11_laysColumns_78 kI_1 ?_
      refine R_cVI (As := [.int t5, .int t7, .int (1 : Int32), .int (1 : Int32)]) (rest := [.int (l1_42 + (2 : Int32)), rf x.w (some l0)]) (r := (some l0)) (ci := 11) hc ml_11_115 mf_X11_side rfl (by decide) ⟨rfl, rfl⟩ ⟨le_b rfl, le_b rfl⟩ ⟨Nat.zero_le _, Nat.zero_le _⟩ (fun a v e => mt_X11_side e) rfl rfl (le_b rfl) dX11_laysColumns_79 hw (fun t19 hw => ?_)
      refine R_iconst (v := (-1 : Int32)) hc dX11_laysColumns_82 kI_m1 ?_
      refine R_aload_n (q := 2) (i := 0) (v := (some l0)) hc dX11_laysColumns_83 rfl rfl ?_
      refine R_iload_n (q := 1) (i := 3) (v := t5) hc dX11_laysColumns_84 rfl rfl ?_
      refine R_iload (q := 0) (i := 4) (v := t7) hc dX11_laysColumns_85 rfl ?_
      refine R_iconst (v := (0 : Int32)) hc dX11_laysColumns_87 kI_0 ?_
      refine R_iconst (v := (1 : Int32)) hc dX11_laysColumns_88 kI_1 ?_
      refine R_cVI (As := [.int t5, .int t7, .int (0 : Int32), .int (1 : Int32)]) (rest := [.int (-1 : Int32), .int t19, .int (l1_42 + (2 : Int32)), rf x.w (some l0)]) (r := (some l0)) (ci := 11) hc ml_11_115 mf_X11_side rfl (by decide) ⟨rfl, rfl⟩ ⟨le_b rfl, le_b rfl⟩ ⟨Nat.zero_le _, Nat.zero_le _⟩ (fun a v e => mt_X11_side e) rfl rfl (le_b rfl) dX11_laysColumns_89 hw (fun t21 hw => ?_)
      refine R_cVVi (As := [.int (l1_42 + (2 : Int32)), .int t19, .int (-1 : Int32), .int t21]) (rest := []) (r := (some l0)) (ci := 11) hc ml_11_169 mf_X11_laysColumn rfl (by decide) ⟨rfl, rfl⟩ ⟨le_b rfl, le_b rfl⟩ ⟨Nat.zero_le _, Nat.zero_le _⟩ (fun a h' e => mt_X11_laysColumn e) rfl rfl (Nat.zero_le _) dX11_laysColumns_92 hw (fun h23 hw => ?_)
      refine R_aload_n (q := 2) (i := 0) (v := (some l0)) hc dX11_laysColumns_95 rfl rfl ?_
      refine R_getR hc fl_11_63 dX11_laysColumns_96 hw (fun t24 hw => ?_)
      refine R_iload_n (q := 4) (i := 2) (v := l2_43) hc dX11_laysColumns_99 rfl rfl ?_
      refine R_iload_n (q := 3) (i := 1) (v := l1_42) hc dX11_laysColumns_100 rfl rfl ?_
      refine R_iconst (v := (1 : Int32)) hc dX11_laysColumns_101 kI_1 ?_
      refine R_iadd hc dX11_laysColumns_102 ?_
      refine R_iastore hc dX11_laysColumns_103 hw (fun h25 hw => ?_)
      refine R_aload_n (q := 2) (i := 0) (v := (some l0)) hc dX11_laysColumns_104 rfl rfl ?_
      refine R_iload_n (q := 3) (i := 1) (v := l1_42) hc dX11_laysColumns_105 rfl rfl ?_
      refine R_iconst (v := (3 : Int32)) hc dX11_laysColumns_106 kI_3 ?_
      refine R_iadd hc dX11_laysColumns_107 ?_
      refine R_putI hc pl_11_166 rfl rfl dX11_laysColumns_108 hw (fun h26 hw => ?_)
      refine R_iload_n (q := 3) (i := 1) (v := l1_42) hc dX11_laysColumns_111 rfl rfl ?_
      refine R_iload_n (q := 4) (i := 2) (v := l2_43) hc dX11_laysColumns_112 rfl rfl ?_
      refine R_aload_n (q := 2) (i := 0) (v := (some l0)) hc dX11_laysColumns_113 rfl rfl ?_
      refine R_cVI (As := []) (rest := [.int l2_43, .int l1_42]) (r := (some l0)) (ci := 11) hc ml_11_103 mf_X11_fingers rfl (by decide) ⟨rfl, rfl⟩ ⟨le_b rfl, le_b rfl⟩ ⟨Nat.zero_le _, Nat.zero_le _⟩ (fun a v e => mt_X11_fingers e) rfl rfl (le_b rfl) dX11_laysColumns_114 hw (fun t28 hw => ?_)
      refine R_iconst (v := (1 : Int32)) hc dX11_laysColumns_117 kI_1 ?_
      refine R_isub hc dX11_laysColumns_118 ?_
      refine R_icmp_ge (tgt := 134) hc dX11_laysColumns_119 (by decide) hw (fun hw => ?_) (fun hw => ?_)
      · refine R_iconst (v := (3 : Int32)) hc dX11_laysColumns_134 kI_3 ?_
        refine R_iadd hc dX11_laysColumns_135 ?_
        refine R_nmI hw (fun l1_29 hw => ?_)
        refine R_istore_n (i := 1) (v := l1_29) hc [(1, .int l1_29), (4, .int t7), (3, .int t5), (0, rf x.w (some l0)), (2, .int l2_43)] dX11_laysColumns_136 rfl (hnl 1 (le_b rfl)) rfl ?_
        refine R_iinc (q := 4) (i := 2) (v := l2_43) hc [(2, .int (l2_43 + (1 : Int32))), (1, .int l1_29), (4, .int t7), (3, .int t5), (0, rf x.w (some l0))] dX11_laysColumns_137 rfl (kC_1 _) (hnl 2 (le_b rfl)) rfl ?_
        refine R_goto (tgt := 9) hc dX11_laysColumns_140 (by decide) ?_
        refine R_sub hc [4, 1, 0] rfl ?_
        exact hX (l1_29, l2_43 + (1 : Int32), h26) (wpO_some hw :)
      · refine R_aload_n (q := 2) (i := 0) (v := (some l0)) hc dX11_laysColumns_122 rfl rfl ?_
        refine R_iload_n (q := 4) (i := 2) (v := l2_43) hc dX11_laysColumns_123 rfl rfl ?_
        refine R_cVI (As := [.int l2_43]) (rest := [.int l1_42]) (r := (some l0)) (ci := 11) hc ml_11_163 mf_X11_lackBehind rfl (by decide) ⟨rfl, rfl⟩ ⟨le_b rfl, le_b rfl⟩ ⟨Nat.zero_le _, Nat.zero_le _⟩ (fun a v e => mt_X11_lackBehind e) rfl rfl (le_b rfl) dX11_laysColumns_124 hw (fun t31 hw => ?_)
        refine R_if_ne (tgt := 134) hc dX11_laysColumns_127 (by decide) hw (fun hw => ?_) (fun hw => ?_)
        · refine R_iconst (v := (3 : Int32)) hc dX11_laysColumns_134 kI_3 ?_
          refine R_iadd hc dX11_laysColumns_135 ?_
          refine R_nmI hw (fun l1_32 hw => ?_)
          refine R_istore_n (i := 1) (v := l1_32) hc [(1, .int l1_32), (4, .int t7), (3, .int t5), (0, rf x.w (some l0)), (2, .int l2_43)] dX11_laysColumns_136 rfl (hnl 1 (le_b rfl)) rfl ?_
          refine R_iinc (q := 4) (i := 2) (v := l2_43) hc [(2, .int (l2_43 + (1 : Int32))), (1, .int l1_32), (4, .int t7), (3, .int t5), (0, rf x.w (some l0))] dX11_laysColumns_137 rfl (kC_1 _) (hnl 2 (le_b rfl)) rfl ?_
          refine R_goto (tgt := 9) hc dX11_laysColumns_140 (by decide) ?_
          refine R_sub hc [4, 1, 0] rfl ?_
          exact hX (l1_32, l2_43 + (1 : Int32), h26) (wpO_some hw :)
        · refine R_iconst (v := (2 : Int32)) hc dX11_laysColumns_130 kI_2 ?_
          refine R_goto (tgt := 135) hc dX11_laysColumns_131 (by decide) ?_
          refine R_iadd hc dX11_laysColumns_135 ?_
          refine R_nmI hw (fun l1_33 hw => ?_)
          refine R_istore_n (i := 1) (v := l1_33) hc [(1, .int l1_33), (4, .int t7), (3, .int t5), (0, rf x.w (some l0)), (2, .int l2_43)] dX11_laysColumns_136 rfl (hnl 1 (le_b rfl)) rfl ?_
          refine R_iinc (q := 4) (i := 2) (v := l2_43) hc [(2, .int (l2_43 + (1 : Int32))), (1, .int l1_33), (4, .int t7), (3, .int t5), (0, rf x.w (some l0))] dX11_laysColumns_137 rfl (kC_1 _) (hnl 2 (le_b rfl)) rfl ?_
          refine R_goto (tgt := 9) hc dX11_laysColumns_140 (by decide) ?_
          refine R_sub hc [4, 1, 0] rfl ?_
          exact hX (l1_33, l2_43 + (1 : Int32), h26) (wpO_some hw :)
theorem dX11_beyond_0 : decode cX11_beyond 0 = .ok (.iconst 0, 1) := by decide +kernel
theorem dX11_beyond_1 : decode cX11_beyond 1 = .ok (.aload_n 0, 1) := by decide +kernel
theorem dX11_beyond_2 : decode cX11_beyond 2 = .ok (.getfield 66, 3) := by decide +kernel
theorem dX11_beyond_5 : decode cX11_beyond 5 = .ok (.iload_n 1, 1) := by decide +kernel
theorem dX11_beyond_6 : decode cX11_beyond 6 = .ok (.iaload, 1) := by decide +kernel
theorem dX11_beyond_7 : decode cX11_beyond 7 = .ok (.iload_n 2, 1) := by decide +kernel
theorem dX11_beyond_8 : decode cX11_beyond 8 = .ok (.isub, 1) := by decide +kernel
theorem dX11_beyond_9 : decode cX11_beyond 9 = .ok (.iload_n 2, 1) := by decide +kernel
theorem dX11_beyond_10 : decode cX11_beyond 10 = .ok (.aload_n 0, 1) := by decide +kernel
theorem dX11_beyond_11 : decode cX11_beyond 11 = .ok (.getfield 69, 3) := by decide +kernel
theorem dX11_beyond_14 : decode cX11_beyond 14 = .ok (.iload_n 1, 1) := by decide +kernel
theorem dX11_beyond_15 : decode cX11_beyond 15 = .ok (.iaload, 1) := by decide +kernel
theorem dX11_beyond_16 : decode cX11_beyond 16 = .ok (.isub, 1) := by decide +kernel
theorem dX11_beyond_17 : decode cX11_beyond 17 = .ok (.invokestatic 175, 3) := by decide +kernel
theorem dX11_beyond_20 : decode cX11_beyond 20 = .ok (.invokestatic 175, 3) := by decide +kernel
theorem dX11_beyond_23 : decode cX11_beyond 23 = .ok (.ireturn, 1) := by decide +kernel
def sX11_beyond (F : Nat) (l0 : Nat) (l1 : Int32) (l2 : Int32) (h : HP) : Option Int32 :=
  (gR h 11 (some l0) 28).bind fun t1 =>
  (aI h 13 t1 l1).bind fun t2 =>
  (gR h 11 (some l0) 29).bind fun t3 =>
  (aI h 13 t3 l1).bind fun t4 =>
  (sX11_greater F (t2 - l2) (l2 - t4) h).bind fun t5 =>
  (sX11_greater F (0 : Int32) t5 h).bind fun t6 =>
  some t6
abbrev rm_X11_beyond : Room := { frames := 1, cells := 0, slots := 0, locals := 21 }
set_option maxRecDepth 100000 in
set_option maxHeartbeats 4000000 in
theorem mt_X11_beyond {w : WD} {l : Launch} {F : Nat} {l0 : Nat} {l1 : Int32} {l2 : Int32} {h : HP} {v : Int32} (hs : sX11_beyond F l0 l1 l2 h = some v) : MI w l yX11_beyond cX11_beyond 3 .int rm_X11_beyond 0 0 [rf w (some l0), .int l1, .int l2] h v h := by
  refine of_body [(0, rf w (some l0)), (1, .int l1), (2, .int l2)] (by decide) (by simp [lg_sl, rf_cat, cat_i, cat_l, cat_a]) (by simp [lv_args, rf_cat, cat_i, cat_l, cat_a]) ?_
  intro x hw_ hnL_ hl_ hc hret hnm hQ
  subst hw_; subst hl_
  have hnl : ∀ i, i < 3 → i < x.nL := fun i h => by rw [hnL_]; exact h
  have hw : wpO (sX11_beyond F l0 l1 l2 h) (fun r => r = v) := ⟨_, hs, rfl⟩
  unfold sX11_beyond at hw
  refine R_iconst (v := (0 : Int32)) hc dX11_beyond_0 kI_0 ?_
  refine R_aload_n (q := 0) (i := 0) (v := (some l0)) hc dX11_beyond_1 rfl rfl ?_
  refine R_getR hc fl_11_66 dX11_beyond_2 hw (fun t1 hw => ?_)
  refine R_iload_n (q := 1) (i := 1) (v := l1) hc dX11_beyond_5 rfl rfl ?_
  refine R_iaload hc dX11_beyond_6 hw (fun t2 hw => ?_)
  refine R_iload_n (q := 2) (i := 2) (v := l2) hc dX11_beyond_7 rfl rfl ?_
  refine R_isub hc dX11_beyond_8 ?_
  refine R_iload_n (q := 2) (i := 2) (v := l2) hc dX11_beyond_9 rfl rfl ?_
  refine R_aload_n (q := 0) (i := 0) (v := (some l0)) hc dX11_beyond_10 rfl rfl ?_
  refine R_getR hc fl_11_69 dX11_beyond_11 hw (fun t3 hw => ?_)
  refine R_iload_n (q := 1) (i := 1) (v := l1) hc dX11_beyond_14 rfl rfl ?_
  refine R_iaload hc dX11_beyond_15 hw (fun t4 hw => ?_)
  refine R_isub hc dX11_beyond_16 ?_
  refine R_cSI (As := [.int (t2 - l2), .int (l2 - t4)]) (rest := [.int (0 : Int32)]) hc ml_11_175 mf_X11_greater ⟨rfl, rfl⟩ ⟨le_b rfl, le_b rfl⟩ ⟨Nat.zero_le _, Nat.zero_le _⟩ (fun v e => mt_X11_greater e) rfl rfl (le_b rfl) dX11_beyond_17 hw (fun t5 hw => ?_)
  refine R_cSI (As := [.int (0 : Int32), .int t5]) (rest := []) hc ml_11_175 mf_X11_greater ⟨rfl, rfl⟩ ⟨le_b rfl, le_b rfl⟩ ⟨Nat.zero_le _, Nat.zero_le _⟩ (fun v e => mt_X11_greater e) rfl rfl (Nat.zero_le _) dX11_beyond_20 hw (fun t6 hw => ?_)
  exact R_ireturnP hc hret rfl hQ hw dX11_beyond_23
theorem dX11_has_0 : decode cX11_has 0 = .ok (.iload_n 0, 1) := by decide +kernel
theorem dX11_has_1 : decode cX11_has 1 = .ok (.iload_n 1, 1) := by decide +kernel
theorem dX11_has_2 : decode cX11_has 2 = .ok (.ishr, 1) := by decide +kernel
theorem dX11_has_3 : decode cX11_has 3 = .ok (.iconst 1, 1) := by decide +kernel
theorem dX11_has_4 : decode cX11_has 4 = .ok (.iand, 1) := by decide +kernel
theorem dX11_has_5 : decode cX11_has 5 = .ok (.iconst 1, 1) := by decide +kernel
theorem dX11_has_6 : decode cX11_has 6 = .ok (.if_icmp .ne 7, 3) := by decide +kernel
theorem dX11_has_9 : decode cX11_has 9 = .ok (.iconst 1, 1) := by decide +kernel
theorem dX11_has_10 : decode cX11_has 10 = .ok (.goto 4, 3) := by decide +kernel
theorem dX11_has_13 : decode cX11_has 13 = .ok (.iconst 0, 1) := by decide +kernel
theorem dX11_has_14 : decode cX11_has 14 = .ok (.ireturn, 1) := by decide +kernel
def sX11_has (F : Nat) (l0 : Int32) (l1 : Int32) (h : HP) : Option Int32 :=
  if ¬ ((jshr l0 l1) &&& (1 : Int32)) = (1 : Int32) then
    some (0 : Int32)
  else
    some (1 : Int32)
abbrev rm_X11_has : Room := { frames := 0, cells := 0, slots := 0, locals := 0 }
set_option maxRecDepth 100000 in
set_option maxHeartbeats 4000000 in
theorem mt_X11_has {w : WD} {l : Launch} {F : Nat} {l0 : Int32} {l1 : Int32} {h : HP} {v : Int32} (hs : sX11_has F l0 l1 h = some v) : MI w l yX11_has cX11_has 2 .boolean rm_X11_has 0 0 [.int l0, .int l1] h v h := by
  refine of_body [(0, .int l0), (1, .int l1)] (by decide) (by simp [lg_sl, rf_cat, cat_i, cat_l, cat_a]) (by simp [lv_args, rf_cat, cat_i, cat_l, cat_a]) ?_
  intro x hw_ hnL_ hl_ hc hret hnm hQ
  subst hw_; subst hl_
  have hnl : ∀ i, i < 2 → i < x.nL := fun i h => by rw [hnL_]; exact h
  have hw : wpO (sX11_has F l0 l1 h) (fun r => r = v) := ⟨_, hs, rfl⟩
  unfold sX11_has at hw
  refine R_iload_n (q := 0) (i := 0) (v := l0) hc dX11_has_0 rfl rfl ?_
  refine R_iload_n (q := 1) (i := 1) (v := l1) hc dX11_has_1 rfl rfl ?_
  refine R_ishr hc dX11_has_2 ?_
  refine R_iconst (v := (1 : Int32)) hc dX11_has_3 kI_1 ?_
  refine R_iand hc dX11_has_4 ?_
  refine R_iconst (v := (1 : Int32)) hc dX11_has_5 kI_1 ?_
  refine R_icmp_ne (tgt := 13) hc dX11_has_6 (by decide) hw (fun hw => ?_) (fun hw => ?_)
  · refine R_iconst (v := (0 : Int32)) hc dX11_has_13 kI_0 ?_
    exact R_ireturnP hc hret rfl hQ hw dX11_has_14
  · refine R_iconst (v := (1 : Int32)) hc dX11_has_9 kI_1 ?_
    refine R_goto (tgt := 14) hc dX11_has_10 (by decide) ?_
    exact R_ireturnP hc hret rfl hQ hw dX11_has_14
theorem dX11_restOf_0 : decode cX11_restOf 0 = .ok (.iconst 0, 1) := by decide +kernel
theorem dX11_restOf_1 : decode cX11_restOf 1 = .ok (.istore_n 3, 1) := by decide +kernel
theorem dX11_restOf_2 : decode cX11_restOf 2 = .ok (.iload_n 3, 1) := by decide +kernel
theorem dX11_restOf_3 : decode cX11_restOf 3 = .ok (.bipush 64, 2) := by decide +kernel
theorem dX11_restOf_5 : decode cX11_restOf 5 = .ok (.if_icmp .ge 26, 3) := by decide +kernel
theorem dX11_restOf_8 : decode cX11_restOf 8 = .ok (.aload_n 0, 1) := by decide +kernel
theorem dX11_restOf_9 : decode cX11_restOf 9 = .ok (.getfield 90, 3) := by decide +kernel
theorem dX11_restOf_12 : decode cX11_restOf 12 = .ok (.iload_n 3, 1) := by decide +kernel
theorem dX11_restOf_13 : decode cX11_restOf 13 = .ok (.iload_n 3, 1) := by decide +kernel
theorem dX11_restOf_14 : decode cX11_restOf 14 = .ok (.ifCond .ne 7, 3) := by decide +kernel
theorem dX11_restOf_17 : decode cX11_restOf 17 = .ok (.iconst 0, 1) := by decide +kernel
theorem dX11_restOf_18 : decode cX11_restOf 18 = .ok (.goto 6, 3) := by decide +kernel
theorem dX11_restOf_21 : decode cX11_restOf 21 = .ok (.sipush 1000, 3) := by decide +kernel
theorem dX11_restOf_24 : decode cX11_restOf 24 = .ok (.iastore, 1) := by decide +kernel
theorem dX11_restOf_25 : decode cX11_restOf 25 = .ok (.iinc 3 1, 3) := by decide +kernel
theorem dX11_restOf_28 : decode cX11_restOf 28 = .ok (.goto (-26), 3) := by decide +kernel
theorem dX11_restOf_31 : decode cX11_restOf 31 = .ok (.iconst 0, 1) := by decide +kernel
theorem dX11_restOf_32 : decode cX11_restOf 32 = .ok (.istore_n 3, 1) := by decide +kernel
theorem dX11_restOf_33 : decode cX11_restOf 33 = .ok (.iload_n 3, 1) := by decide +kernel
theorem dX11_restOf_34 : decode cX11_restOf 34 = .ok (.aload_n 0, 1) := by decide +kernel
theorem dX11_restOf_35 : decode cX11_restOf 35 = .ok (.getfield 166, 3) := by decide +kernel
theorem dX11_restOf_38 : decode cX11_restOf 38 = .ok (.if_icmp .ge 136, 3) := by decide +kernel
theorem dX11_restOf_41 : decode cX11_restOf 41 = .ok (.iload_n 2, 1) := by decide +kernel
theorem dX11_restOf_42 : decode cX11_restOf 42 = .ok (.iload_n 3, 1) := by decide +kernel
theorem dX11_restOf_43 : decode cX11_restOf 43 = .ok (.invokestatic 178, 3) := by decide +kernel
theorem dX11_restOf_46 : decode cX11_restOf 46 = .ok (.ifCond .eq 6, 3) := by decide +kernel
theorem dX11_restOf_49 : decode cX11_restOf 49 = .ok (.goto 113, 3) := by decide +kernel
theorem dX11_restOf_52 : decode cX11_restOf 52 = .ok (.bipush 63, 2) := by decide +kernel
theorem dX11_restOf_54 : decode cX11_restOf 54 = .ok (.istore 4, 2) := by decide +kernel
theorem dX11_restOf_56 : decode cX11_restOf 56 = .ok (.iload 4, 2) := by decide +kernel
theorem dX11_restOf_58 : decode cX11_restOf 58 = .ok (.ifCond .le 104, 3) := by decide +kernel
theorem dX11_restOf_61 : decode cX11_restOf 61 = .ok (.iconst 0, 1) := by decide +kernel
theorem dX11_restOf_62 : decode cX11_restOf 62 = .ok (.istore 5, 2) := by decide +kernel
theorem dX11_restOf_64 : decode cX11_restOf 64 = .ok (.iload 5, 2) := by decide +kernel
theorem dX11_restOf_66 : decode cX11_restOf 66 = .ok (.aload_n 0, 1) := by decide +kernel
theorem dX11_restOf_67 : decode cX11_restOf 67 = .ok (.getfield 182, 3) := by decide +kernel
theorem dX11_restOf_70 : decode cX11_restOf 70 = .ok (.if_icmp .ge 86, 3) := by decide +kernel
theorem dX11_restOf_73 : decode cX11_restOf 73 = .ok (.iload 4, 2) := by decide +kernel
theorem dX11_restOf_75 : decode cX11_restOf 75 = .ok (.iload 5, 2) := by decide +kernel
theorem dX11_restOf_77 : decode cX11_restOf 77 = .ok (.invokestatic 178, 3) := by decide +kernel
theorem dX11_restOf_80 : decode cX11_restOf 80 = .ok (.ifCond .eq 70, 3) := by decide +kernel
theorem dX11_restOf_83 : decode cX11_restOf 83 = .ok (.aload_n 0, 1) := by decide +kernel
theorem dX11_restOf_84 : decode cX11_restOf 84 = .ok (.getfield 90, 3) := by decide +kernel
theorem dX11_restOf_87 : decode cX11_restOf 87 = .ok (.iload 4, 2) := by decide +kernel
theorem dX11_restOf_89 : decode cX11_restOf 89 = .ok (.iconst 1, 1) := by decide +kernel
theorem dX11_restOf_90 : decode cX11_restOf 90 = .ok (.iload 5, 2) := by decide +kernel
theorem dX11_restOf_92 : decode cX11_restOf 92 = .ok (.ishl, 1) := by decide +kernel
theorem dX11_restOf_93 : decode cX11_restOf 93 = .ok (.iconst (-1), 1) := by decide +kernel
theorem dX11_restOf_94 : decode cX11_restOf 94 = .ok (.ixor, 1) := by decide +kernel
theorem dX11_restOf_95 : decode cX11_restOf 95 = .ok (.iand, 1) := by decide +kernel
theorem dX11_restOf_96 : decode cX11_restOf 96 = .ok (.iaload, 1) := by decide +kernel
theorem dX11_restOf_97 : decode cX11_restOf 97 = .ok (.sipush 1000, 3) := by decide +kernel
theorem dX11_restOf_100 : decode cX11_restOf 100 = .ok (.if_icmp .ne 6, 3) := by decide +kernel
theorem dX11_restOf_103 : decode cX11_restOf 103 = .ok (.goto 47, 3) := by decide +kernel
theorem dX11_restOf_106 : decode cX11_restOf 106 = .ok (.aload_n 0, 1) := by decide +kernel
theorem dX11_restOf_107 : decode cX11_restOf 107 = .ok (.getfield 90, 3) := by decide +kernel
theorem dX11_restOf_110 : decode cX11_restOf 110 = .ok (.iload 4, 2) := by decide +kernel
theorem dX11_restOf_112 : decode cX11_restOf 112 = .ok (.aload_n 0, 1) := by decide +kernel
theorem dX11_restOf_113 : decode cX11_restOf 113 = .ok (.getfield 90, 3) := by decide +kernel
theorem dX11_restOf_116 : decode cX11_restOf 116 = .ok (.iload 4, 2) := by decide +kernel
theorem dX11_restOf_118 : decode cX11_restOf 118 = .ok (.iaload, 1) := by decide +kernel
theorem dX11_restOf_119 : decode cX11_restOf 119 = .ok (.aload_n 0, 1) := by decide +kernel
theorem dX11_restOf_120 : decode cX11_restOf 120 = .ok (.getfield 90, 3) := by decide +kernel
theorem dX11_restOf_123 : decode cX11_restOf 123 = .ok (.iload 4, 2) := by decide +kernel
theorem dX11_restOf_125 : decode cX11_restOf 125 = .ok (.iconst 1, 1) := by decide +kernel
theorem dX11_restOf_126 : decode cX11_restOf 126 = .ok (.iload 5, 2) := by decide +kernel
theorem dX11_restOf_128 : decode cX11_restOf 128 = .ok (.ishl, 1) := by decide +kernel
theorem dX11_restOf_129 : decode cX11_restOf 129 = .ok (.iconst (-1), 1) := by decide +kernel
theorem dX11_restOf_130 : decode cX11_restOf 130 = .ok (.ixor, 1) := by decide +kernel
theorem dX11_restOf_131 : decode cX11_restOf 131 = .ok (.iand, 1) := by decide +kernel
theorem dX11_restOf_132 : decode cX11_restOf 132 = .ok (.iaload, 1) := by decide +kernel
theorem dX11_restOf_133 : decode cX11_restOf 133 = .ok (.aload_n 0, 1) := by decide +kernel
theorem dX11_restOf_134 : decode cX11_restOf 134 = .ok (.aload_n 0, 1) := by decide +kernel
theorem dX11_restOf_135 : decode cX11_restOf 135 = .ok (.getfield 87, 3) := by decide +kernel
theorem dX11_restOf_138 : decode cX11_restOf 138 = .ok (.iload 5, 2) := by decide +kernel
theorem dX11_restOf_140 : decode cX11_restOf 140 = .ok (.iaload, 1) := by decide +kernel
theorem dX11_restOf_141 : decode cX11_restOf 141 = .ok (.iload_n 3, 1) := by decide +kernel
theorem dX11_restOf_142 : decode cX11_restOf 142 = .ok (.invokevirtual 185, 3) := by decide +kernel
theorem dX11_restOf_145 : decode cX11_restOf 145 = .ok (.iadd, 1) := by decide +kernel
theorem dX11_restOf_146 : decode cX11_restOf 146 = .ok (.invokestatic 131, 3) := by decide +kernel
theorem dX11_restOf_149 : decode cX11_restOf 149 = .ok (.iastore, 1) := by decide +kernel
theorem dX11_restOf_150 : decode cX11_restOf 150 = .ok (.iinc 5 1, 3) := by decide +kernel
theorem dX11_restOf_153 : decode cX11_restOf 153 = .ok (.goto (-89), 3) := by decide +kernel
theorem dX11_restOf_156 : decode cX11_restOf 156 = .ok (.iinc 4 (-1), 3) := by decide +kernel
theorem dX11_restOf_159 : decode cX11_restOf 159 = .ok (.goto (-103), 3) := by decide +kernel
theorem dX11_restOf_162 : decode cX11_restOf 162 = .ok (.iload_n 3, 1) := by decide +kernel
theorem dX11_restOf_163 : decode cX11_restOf 163 = .ok (.aload_n 0, 1) := by decide +kernel
theorem dX11_restOf_164 : decode cX11_restOf 164 = .ok (.getfield 7, 3) := by decide +kernel
theorem dX11_restOf_167 : decode cX11_restOf 167 = .ok (.iconst 1, 1) := by decide +kernel
theorem dX11_restOf_168 : decode cX11_restOf 168 = .ok (.iaload, 1) := by decide +kernel
theorem dX11_restOf_169 : decode cX11_restOf 169 = .ok (.iadd, 1) := by decide +kernel
theorem dX11_restOf_170 : decode cX11_restOf 170 = .ok (.istore_n 3, 1) := by decide +kernel
theorem dX11_restOf_171 : decode cX11_restOf 171 = .ok (.goto (-138), 3) := by decide +kernel
theorem dX11_restOf_174 : decode cX11_restOf 174 = .ok (.aload_n 0, 1) := by decide +kernel
theorem dX11_restOf_175 : decode cX11_restOf 175 = .ok (.getfield 90, 3) := by decide +kernel
theorem dX11_restOf_178 : decode cX11_restOf 178 = .ok (.iload_n 1, 1) := by decide +kernel
theorem dX11_restOf_179 : decode cX11_restOf 179 = .ok (.iaload, 1) := by decide +kernel
theorem dX11_restOf_180 : decode cX11_restOf 180 = .ok (.ireturn, 1) := by decide +kernel
def sX11_restOf_L2 (F : Nat) (l0 : Nat) (l1 : Int32) (l2 : Int32) (l3 : Int32) (h : HP) : Option ((Int32 × HP) ⊕ HP) :=
  if (64 : Int32) ≤ l3 then
    some (.inr h)
  else
    (gR h 11 (some l0) 39).bind fun t1 =>
    if ¬ l3 = 0 then
      (sI h t1 l3 (1000 : Int32)).bind fun h2 =>
      some (.inl (l3 + (1 : Int32), h2))
    else
      (sI h t1 l3 (0 : Int32)).bind fun h3 =>
      some (.inl (l3 + (1 : Int32), h3))
def sX11_restOf_L64 (F : Nat) (l0 : Nat) (l1 : Int32) (l2 : Int32) (l3 : Int32) (l4 : Int32) (l5 : Int32) (h : HP) : Option ((Int32 × HP) ⊕ HP) :=
  (gI h 11 (some l0) 38).bind fun t7 =>
  if t7 ≤ l5 then
    some (.inr h)
  else
    (sX11_has F l4 l5 h).bind fun t8 =>
    if t8 = 0 then
      some (.inl (l5 + (1 : Int32), h))
    else
      (gR h 11 (some l0) 39).bind fun t9 =>
      (aI h 13 t9 (l4 &&& ((jshl (1 : Int32) l5) ^^^ (-1 : Int32)))).bind fun t10 =>
      if ¬ t10 = (1000 : Int32) then
        (gR h 11 (some l0) 39).bind fun t11 =>
        (gR h 11 (some l0) 39).bind fun t12 =>
        (aI h 13 t12 l4).bind fun t13 =>
        (gR h 11 (some l0) 39).bind fun t14 =>
        (aI h 13 t14 (l4 &&& ((jshl (1 : Int32) l5) ^^^ (-1 : Int32)))).bind fun t15 =>
        (gR h 11 (some l0) 37).bind fun t16 =>
        (aI h 13 t16 l5).bind fun t17 =>
        (dO h 11 (some l0)).bind fun a18 =>
        (sX11_beyond F a18 t17 l3 h).bind fun t19 =>
        (sX11_lesser F t13 (t15 + t19) h).bind fun t20 =>
        (sI h t11 l4 t20).bind fun h21 =>
        some (.inl (l5 + (1 : Int32), h21))
      else
        some (.inl (l5 + (1 : Int32), h))
def sX11_restOf_L56 (F : Nat) (l0 : Nat) (l1 : Int32) (l2 : Int32) (l3 : Int32) (l4 : Int32) (h : HP) : Option ((Int32 × HP) ⊕ HP) :=
  if l4 ≤ 0 then
    some (.inr h)
  else
    (iter (fun s => sX11_restOf_L64 F l0 l1 l2 l3 l4 s.1 s.2) F ((0 : Int32), h)).bind fun h22 =>
      some (.inl (l4 + (-1 : Int32), h22))
def sX11_restOf_L33 (F : Nat) (l0 : Nat) (l1 : Int32) (l2 : Int32) (l3 : Int32) (h : HP) : Option ((Int32 × HP) ⊕ HP) :=
  (gI h 11 (some l0) 27).bind fun t5 =>
  if t5 ≤ l3 then
    some (.inr h)
  else
    (sX11_has F l2 l3 h).bind fun t6 =>
    if t6 = 0 then
      (iter (fun s => sX11_restOf_L56 F l0 l1 l2 l3 s.1 s.2) F ((63 : Int32), h)).bind fun h26 =>
        (gR h26 11 (some l0) 1).bind fun t27 =>
        (aI h26 13 t27 (1 : Int32)).bind fun t28 =>
        nmI (l3 + t28) fun l3_29 =>
        some (.inl (l3_29, h26))
    else
      (gR h 11 (some l0) 1).bind fun t33 =>
      (aI h 13 t33 (1 : Int32)).bind fun t34 =>
      nmI (l3 + t34) fun l3_35 =>
      some (.inl (l3_35, h))
def sX11_restOf (F : Nat) (l0 : Nat) (l1 : Int32) (l2 : Int32) (h : HP) : Option (Int32 × HP) :=
  (iter (fun s => sX11_restOf_L2 F l0 l1 l2 s.1 s.2) F ((0 : Int32), h)).bind fun h4 =>
    (iter (fun s => sX11_restOf_L33 F l0 l1 l2 s.1 s.2) F ((0 : Int32), h4)).bind fun h36 =>
      (gR h36 11 (some l0) 39).bind fun t37 =>
      (aI h36 13 t37 l1).bind fun t38 =>
      some (t38, h36)
abbrev rm_X11_restOf : Room := { frames := 2, cells := 0, slots := 0, locals := 43 }
set_option maxRecDepth 100000 in
set_option maxHeartbeats 4000000 in
theorem mt_X11_restOf {w : WD} {l : Launch} {F : Nat} {l0 : Nat} {l1 : Int32} {l2 : Int32} {h : HP} {v : Int32} {h' : HP} (hs : sX11_restOf F l0 l1 l2 h = some (v, h')) : MI w l yX11_restOf cX11_restOf 6 .int rm_X11_restOf 0 0 [rf w (some l0), .int l1, .int l2] h v h' := by
  refine of_body [(0, rf w (some l0)), (1, .int l1), (2, .int l2)] (by decide) (by simp [lg_sl, rf_cat, cat_i, cat_l, cat_a]) (by simp [lv_args, rf_cat, cat_i, cat_l, cat_a]) ?_
  intro x hw_ hnL_ hl_ hc hret hnm hQ
  subst hw_; subst hl_
  have hnl : ∀ i, i < 6 → i < x.nL := fun i h => by rw [hnL_]; exact h
  have hw : wpO (sX11_restOf F l0 l1 l2 h) (fun r => r = (v, h')) := ⟨_, hs, rfl⟩
  unfold sX11_restOf at hw
  refine R_iconst (v := (0 : Int32)) hc dX11_restOf_0 kI_0 ?_
  refine R_istore_n (i := 3) (v := (0 : Int32)) hc [(3, .int (0 : Int32)), (0, rf x.w (some l0)), (1, .int l1), (2, .int l2)] dX11_restOf_1 rfl (hnl 3 (le_b rfl)) rfl ?_
  refine R_sub hc [1, 2, 3, 0] rfl ?_
  refine R_loop (P := fun (s : (Int32 × HP)) => Rn x 0 0 2 [(0, rf x.w (some l0)), (1, .int l1), (2, .int l2), (3, .int s.1)] [] s.2) (fun h4 => Rn x 0 0 31 [(0, rf x.w (some l0)), (1, .int l1), (2, .int l2)] [] h4) hw (fun r hw => ?_) (fun X hX s hw => ?_)
  · revert r hw
    intro h4 hw
    show Rn x 0 0 31 [(0, rf x.w (some l0)), (1, .int l1), (2, .int l2)] [] h4
    refine R_iconst (v := (0 : Int32)) hc dX11_restOf_31 kI_0 ?_
    refine R_istore_n (i := 3) (v := (0 : Int32)) hc [(3, .int (0 : Int32)), (0, rf x.w (some l0)), (1, .int l1), (2, .int l2)] dX11_restOf_32 rfl (hnl 3 (le_b rfl)) rfl ?_
    refine R_sub hc [1, 2, 3, 0] rfl ?_
    refine R_loop (P := fun (s : (Int32 × HP)) => Rn x 0 0 33 [(0, rf x.w (some l0)), (1, .int l1), (2, .int l2), (3, .int s.1)] [] s.2) (fun h36 => Rn x 0 0 174 [(0, rf x.w (some l0)), (1, .int l1)] [] h36) hw (fun r hw => ?_) (fun X hX s hw => ?_)
    · revert r hw
      intro h36 hw
      show Rn x 0 0 174 [(0, rf x.w (some l0)), (1, .int l1)] [] h36
      refine R_aload_n (q := 0) (i := 0) (v := (some l0)) hc dX11_restOf_174 rfl rfl ?_
      refine R_getR hc fl_11_90 dX11_restOf_175 hw (fun t37 hw => ?_)
      refine R_iload_n (q := 1) (i := 1) (v := l1) hc dX11_restOf_178 rfl rfl ?_
      refine R_iaload hc dX11_restOf_179 hw (fun t38 hw => ?_)
      exact R_ireturn hc hret rfl hQ hw dX11_restOf_180
    · obtain ⟨l3_40, h41⟩ := s
      show Rn x 0 0 33 [(0, rf x.w (some l0)), (1, .int l1), (2, .int l2), (3, .int l3_40)] [] h41
      have hw : wpO (sX11_restOf_L33 F l0 l1 l2 l3_40 h41) _ := hw
      unfold sX11_restOf_L33 at hw
      refine R_iload_n (q := 3) (i := 3) (v := l3_40) hc dX11_restOf_33 rfl rfl ?_
      refine R_aload_n (q := 0) (i := 0) (v := (some l0)) hc dX11_restOf_34 rfl rfl ?_
      refine R_getI hc fl_11_166 dX11_restOf_35 hw (fun t5 hw => ?_)
      refine R_icmp_ge (tgt := 174) hc dX11_restOf_38 (by decide) hw (fun hw => ?_) (fun hw => ?_)
      · refine R_sub hc [0, 1] rfl ?_
        exact (wpO_some hw :)
      · refine R_iload_n (q := 2) (i := 2) (v := l2) hc dX11_restOf_41 rfl rfl ?_
        refine R_iload_n (q := 3) (i := 3) (v := l3_40) hc dX11_restOf_42 rfl rfl ?_
        refine R_cSI (As := [.int l2, .int l3_40]) (rest := []) hc ml_11_178 mf_X11_has ⟨rfl, rfl⟩ ⟨le_b rfl, le_b rfl⟩ ⟨Nat.zero_le _, Nat.zero_le _⟩ (fun v e => mt_X11_has e) rfl rfl (Nat.zero_le _) dX11_restOf_43 hw (fun t6 hw => ?_)
        refine R_if_eq (tgt := 52) hc dX11_restOf_46 (by decide) hw (fun hw => ?_) (fun hw => ?_)
        · refine R_bipush (v := (63 : Int32)) hc dX11_restOf_52 kB_63 ?_
          refine R_istore (i := 4) (v := (63 : Int32)) hc [(4, .int (63 : Int32)), (0, rf x.w (some l0)), (1, .int l1), (2, .int l2), (3, .int l3_40)] dX11_restOf_54 (hnl 4 (le_b rfl)) rfl ?_
          refine R_sub hc [1, 2, 3, 4, 0] rfl ?_
          refine R_loop (P := fun (s : (Int32 × HP)) => Rn x 0 0 56 [(0, rf x.w (some l0)), (1, .int l1), (2, .int l2), (3, .int l3_40), (4, .int s.1)] [] s.2) (fun h26 => Rn x 0 0 162 [(0, rf x.w (some l0)), (1, .int l1), (2, .int l2), (3, .int l3_40)] [] h26) hw (fun r hw => ?_) (fun X hX s hw => ?_)
          · revert r hw
            intro h26 hw
            show Rn x 0 0 162 [(0, rf x.w (some l0)), (1, .int l1), (2, .int l2), (3, .int l3_40)] [] h26
            refine R_iload_n (q := 3) (i := 3) (v := l3_40) hc dX11_restOf_162 rfl rfl ?_
            refine R_aload_n (q := 0) (i := 0) (v := (some l0)) hc dX11_restOf_163 rfl rfl ?_
            refine R_getR hc fl_11_7 dX11_restOf_164 hw (fun t27 hw => ?_)
            refine R_iconst (v := (1 : Int32)) hc dX11_restOf_167 kI_1 ?_
            refine R_iaload hc dX11_restOf_168 hw (fun t28 hw => ?_)
            refine R_iadd hc dX11_restOf_169 ?_
            refine R_nmI hw (fun l3_29 hw => ?_)
            refine R_istore_n (i := 3) (v := l3_29) hc [(3, .int l3_29), (0, rf x.w (some l0)), (1, .int l1), (2, .int l2)] dX11_restOf_170 rfl (hnl 3 (le_b rfl)) rfl ?_
            refine R_goto (tgt := 33) hc dX11_restOf_171 (by decide) ?_
            refine R_sub hc [1, 2, 3, 0] rfl ?_
            exact hX (l3_29, h26) (wpO_some hw :)
          · obtain ⟨l4_31, h32⟩ := s
            show Rn x 0 0 56 [(0, rf x.w (some l0)), (1, .int l1), (2, .int l2), (3, .int l3_40), (4, .int l4_31)] [] h32
            have hw : wpO (sX11_restOf_L56 F l0 l1 l2 l3_40 l4_31 h32) _ := hw
            unfold sX11_restOf_L56 at hw
            refine R_iload (q := 4) (i := 4) (v := l4_31) hc dX11_restOf_56 rfl ?_
            refine R_if_le (tgt := 162) hc dX11_restOf_58 (by decide) hw (fun hw => ?_) (fun hw => ?_)
            · refine R_sub hc [0, 1, 2, 3] rfl ?_
              exact (wpO_some hw :)
            · refine R_iconst (v := (0 : Int32)) hc dX11_restOf_61 kI_0 ?_
              refine R_istore (i := 5) (v := (0 : Int32)) hc [(5, .int (0 : Int32)), (0, rf x.w (some l0)), (1, .int l1), (2, .int l2), (3, .int l3_40), (4, .int l4_31)] dX11_restOf_62 (hnl 5 (le_b rfl)) rfl ?_
              refine R_sub hc [1, 2, 3, 4, 5, 0] rfl ?_
              refine R_loop (P := fun (s : (Int32 × HP)) => Rn x 0 0 64 [(0, rf x.w (some l0)), (1, .int l1), (2, .int l2), (3, .int l3_40), (4, .int l4_31), (5, .int s.1)] [] s.2) (fun h22 => Rn x 0 0 156 [(0, rf x.w (some l0)), (1, .int l1), (2, .int l2), (3, .int l3_40), (4, .int l4_31)] [] h22) hw (fun r hw => ?_) (fun X hX s hw => ?_)
              · revert r hw
                intro h22 hw
                show Rn x 0 0 156 [(0, rf x.w (some l0)), (1, .int l1), (2, .int l2), (3, .int l3_40), (4, .int l4_31)] [] h22
                refine R_iinc (q := 4) (i := 4) (v := l4_31) hc [(4, .int (l4_31 + (-1 : Int32))), (0, rf x.w (some l0)), (1, .int l1), (2, .int l2), (3, .int l3_40)] dX11_restOf_156 rfl (kC_m1 _) (hnl 4 (le_b rfl)) rfl ?_
                refine R_goto (tgt := 56) hc dX11_restOf_159 (by decide) ?_
                refine R_sub hc [1, 2, 3, 4, 0] rfl ?_
                exact hX (l4_31 + (-1 : Int32), h22) (wpO_some hw :)
              · obtain ⟨l5_24, h25⟩ := s
                show Rn x 0 0 64 [(0, rf x.w (some l0)), (1, .int l1), (2, .int l2), (3, .int l3_40), (4, .int l4_31), (5, .int l5_24)] [] h25
                have hw : wpO (sX11_restOf_L64 F l0 l1 l2 l3_40 l4_31 l5_24 h25) _ := hw
                unfold sX11_restOf_L64 at hw
                refine R_iload (q := 5) (i := 5) (v := l5_24) hc dX11_restOf_64 rfl ?_
                refine R_aload_n (q := 0) (i := 0) (v := (some l0)) hc dX11_restOf_66 rfl rfl ?_
                refine R_getI hc fl_11_182 dX11_restOf_67 hw (fun t7 hw => ?_)
                refine R_icmp_ge (tgt := 156) hc dX11_restOf_70 (by decide) hw (fun hw => ?_) (fun hw => ?_)
                · refine R_sub hc [0, 1, 2, 3, 4] rfl ?_
                  exact (wpO_some hw :)
                · refine R_iload (q := 4) (i := 4) (v := l4_31) hc dX11_restOf_73 rfl ?_
                  refine R_iload (q := 5) (i := 5) (v := l5_24) hc dX11_restOf_75 rfl ?_
                  refine R_cSI (As := [.int l4_31, .int l5_24]) (rest := []) hc ml_11_178 mf_X11_has ⟨rfl, rfl⟩ ⟨le_b rfl, le_b rfl⟩ ⟨Nat.zero_le _, Nat.zero_le _⟩ (fun v e => mt_X11_has e) rfl rfl (Nat.zero_le _) dX11_restOf_77 hw (fun t8 hw => ?_)
                  refine R_if_eq (tgt := 150) hc dX11_restOf_80 (by decide) hw (fun hw => ?_) (fun hw => ?_)
                  · refine R_iinc (q := 5) (i := 5) (v := l5_24) hc [(5, .int (l5_24 + (1 : Int32))), (0, rf x.w (some l0)), (1, .int l1), (2, .int l2), (3, .int l3_40), (4, .int l4_31)] dX11_restOf_150 rfl (kC_1 _) (hnl 5 (le_b rfl)) rfl ?_
                    refine R_goto (tgt := 64) hc dX11_restOf_153 (by decide) ?_
                    refine R_sub hc [1, 2, 3, 4, 5, 0] rfl ?_
                    exact hX (l5_24 + (1 : Int32), h25) (wpO_some hw :)
                  · refine R_aload_n (q := 0) (i := 0) (v := (some l0)) hc dX11_restOf_83 rfl rfl ?_
                    refine R_getR hc fl_11_90 dX11_restOf_84 hw (fun t9 hw => ?_)
                    refine R_iload (q := 4) (i := 4) (v := l4_31) hc dX11_restOf_87 rfl ?_
                    refine R_iconst (v := (1 : Int32)) hc dX11_restOf_89 kI_1 ?_
                    refine R_iload (q := 5) (i := 5) (v := l5_24) hc dX11_restOf_90 rfl ?_
                    refine R_ishl hc dX11_restOf_92 ?_
                    refine R_iconst (v := (-1 : Int32)) hc dX11_restOf_93 kI_m1 ?_
                    refine R_ixor hc dX11_restOf_94 ?_
                    refine R_iand hc dX11_restOf_95 ?_
                    refine R_iaload hc dX11_restOf_96 hw (fun t10 hw => ?_)
                    refine R_sipush (v := (1000 : Int32)) hc dX11_restOf_97 kS_1000 ?_
                    refine R_icmp_ne (tgt := 106) hc dX11_restOf_100 (by decide) hw (fun hw => ?_) (fun hw => ?_)
                    · refine R_aload_n (q := 0) (i := 0) (v := (some l0)) hc dX11_restOf_106 rfl rfl ?_
                      refine R_getR hc fl_11_90 dX11_restOf_107 hw (fun t11 hw => ?_)
                      refine R_iload (q := 4) (i := 4) (v := l4_31) hc dX11_restOf_110 rfl ?_
                      refine R_aload_n (q := 0) (i := 0) (v := (some l0)) hc dX11_restOf_112 rfl rfl ?_
                      refine R_getR hc fl_11_90 dX11_restOf_113 hw (fun t12 hw => ?_)
                      refine R_iload (q := 4) (i := 4) (v := l4_31) hc dX11_restOf_116 rfl ?_
                      refine R_iaload hc dX11_restOf_118 hw (fun t13 hw => ?_)
                      refine R_aload_n (q := 0) (i := 0) (v := (some l0)) hc dX11_restOf_119 rfl rfl ?_
                      refine R_getR hc fl_11_90 dX11_restOf_120 hw (fun t14 hw => ?_)
                      refine R_iload (q := 4) (i := 4) (v := l4_31) hc dX11_restOf_123 rfl ?_
                      refine R_iconst (v := (1 : Int32)) hc dX11_restOf_125 kI_1 ?_
                      refine R_iload (q := 5) (i := 5) (v := l5_24) hc dX11_restOf_126 rfl ?_
                      refine R_ishl hc dX11_restOf_128 ?_
                      refine R_iconst (v := (-1 : Int32)) hc dX11_restOf_129 kI_m1 ?_
                      refine R_ixor hc dX11_restOf_130 ?_
                      refine R_iand hc dX11_restOf_131 ?_
                      refine R_iaload hc dX11_restOf_132 hw (fun t15 hw => ?_)
                      refine R_aload_n (q := 0) (i := 0) (v := (some l0)) hc dX11_restOf_133 rfl rfl ?_
                      refine R_aload_n (q := 0) (i := 0) (v := (some l0)) hc dX11_restOf_134 rfl rfl ?_
                      refine R_getR hc fl_11_87 dX11_restOf_135 hw (fun t16 hw => ?_)
                      refine R_iload (q := 5) (i := 5) (v := l5_24) hc dX11_restOf_138 rfl ?_
                      refine R_iaload hc dX11_restOf_140 hw (fun t17 hw => ?_)
                      refine R_iload_n (q := 3) (i := 3) (v := l3_40) hc dX11_restOf_141 rfl rfl ?_
                      refine R_cVI (As := [.int t17, .int l3_40]) (rest := [.int t15, .int t13, .int l4_31, rf x.w t11]) (r := (some l0)) (ci := 11) hc ml_11_185 mf_X11_beyond rfl (by decide) ⟨rfl, rfl⟩ ⟨le_b rfl, le_b rfl⟩ ⟨Nat.zero_le _, Nat.zero_le _⟩ (fun a v e => mt_X11_beyond e) rfl rfl (by simp [rf_cat, cat_i, cat_l, cat_a]) dX11_restOf_142 hw (fun t19 hw => ?_)
                      refine R_iadd hc dX11_restOf_145 ?_
                      refine R_cSI (As := [.int t13, .int (t15 + t19)]) (rest := [.int l4_31, rf x.w t11]) hc ml_11_131 mf_X11_lesser ⟨rfl, rfl⟩ ⟨le_b rfl, le_b rfl⟩ ⟨Nat.zero_le _, Nat.zero_le _⟩ (fun v e => mt_X11_lesser e) rfl rfl (by simp [rf_cat, cat_i, cat_l, cat_a]) dX11_restOf_146 hw (fun t20 hw => ?_)
                      refine R_iastore hc dX11_restOf_149 hw (fun h21 hw => ?_)
                      refine R_iinc (q := 5) (i := 5) (v := l5_24) hc [(5, .int (l5_24 + (1 : Int32))), (0, rf x.w (some l0)), (1, .int l1), (2, .int l2), (3, .int l3_40), (4, .int l4_31)] dX11_restOf_150 rfl (kC_1 _) (hnl 5 (le_b rfl)) rfl ?_
                      refine R_goto (tgt := 64) hc dX11_restOf_153 (by decide) ?_
                      refine R_sub hc [1, 2, 3, 4, 5, 0] rfl ?_
                      exact hX (l5_24 + (1 : Int32), h21) (wpO_some hw :)
                    · refine R_goto (tgt := 150) hc dX11_restOf_103 (by decide) ?_
                      refine R_iinc (q := 5) (i := 5) (v := l5_24) hc [(5, .int (l5_24 + (1 : Int32))), (0, rf x.w (some l0)), (1, .int l1), (2, .int l2), (3, .int l3_40), (4, .int l4_31)] dX11_restOf_150 rfl (kC_1 _) (hnl 5 (le_b rfl)) rfl ?_
                      refine R_goto (tgt := 64) hc dX11_restOf_153 (by decide) ?_
                      refine R_sub hc [1, 2, 3, 4, 5, 0] rfl ?_
                      exact hX (l5_24 + (1 : Int32), h25) (wpO_some hw :)
        · refine R_goto (tgt := 162) hc dX11_restOf_49 (by decide) ?_
          refine R_iload_n (q := 3) (i := 3) (v := l3_40) hc dX11_restOf_162 rfl rfl ?_
          refine R_aload_n (q := 0) (i := 0) (v := (some l0)) hc dX11_restOf_163 rfl rfl ?_
          refine R_getR hc fl_11_7 dX11_restOf_164 hw (fun t33 hw => ?_)
          refine R_iconst (v := (1 : Int32)) hc dX11_restOf_167 kI_1 ?_
          refine R_iaload hc dX11_restOf_168 hw (fun t34 hw => ?_)
          refine R_iadd hc dX11_restOf_169 ?_
          refine R_nmI hw (fun l3_35 hw => ?_)
          refine R_istore_n (i := 3) (v := l3_35) hc [(3, .int l3_35), (0, rf x.w (some l0)), (1, .int l1), (2, .int l2)] dX11_restOf_170 rfl (hnl 3 (le_b rfl)) rfl ?_
          refine R_goto (tgt := 33) hc dX11_restOf_171 (by decide) ?_
          refine R_sub hc [1, 2, 3, 0] rfl ?_
          exact hX (l3_35, h41) (wpO_some hw :)
  · obtain ⟨l3_43, h44⟩ := s
    show Rn x 0 0 2 [(0, rf x.w (some l0)), (1, .int l1), (2, .int l2), (3, .int l3_43)] [] h44
    have hw : wpO (sX11_restOf_L2 F l0 l1 l2 l3_43 h44) _ := hw
    unfold sX11_restOf_L2 at hw
    refine R_iload_n (q := 3) (i := 3) (v := l3_43) hc dX11_restOf_2 rfl rfl ?_
    refine R_bipush (v := (64 : Int32)) hc dX11_restOf_3 kB_64 ?_
    refine R_icmp_ge (tgt := 31) hc dX11_restOf_5 (by decide) hw (fun hw => ?_) (fun hw => ?_)
    · refine R_sub hc [0, 1, 2] rfl ?_
      exact (wpO_some hw :)
    · refine R_aload_n (q := 0) (i := 0) (v := (some l0)) hc dX11_restOf_8 rfl rfl ?_
      refine R_getR hc fl_11_90 dX11_restOf_9 hw (fun t1 hw => ?_)
      refine R_iload_n (q := 3) (i := 3) (v := l3_43) hc dX11_restOf_12 rfl rfl ?_
      refine R_iload_n (q := 3) (i := 3) (v := l3_43) hc dX11_restOf_13 rfl rfl ?_
      refine R_if_ne (tgt := 21) hc dX11_restOf_14 (by decide) hw (fun hw => ?_) (fun hw => ?_)
      · refine R_sipush (v := (1000 : Int32)) hc dX11_restOf_21 kS_1000 ?_
        refine R_iastore hc dX11_restOf_24 hw (fun h2 hw => ?_)
        refine R_iinc (q := 3) (i := 3) (v := l3_43) hc [(3, .int (l3_43 + (1 : Int32))), (0, rf x.w (some l0)), (1, .int l1), (2, .int l2)] dX11_restOf_25 rfl (kC_1 _) (hnl 3 (le_b rfl)) rfl ?_
        refine R_goto (tgt := 2) hc dX11_restOf_28 (by decide) ?_
        refine R_sub hc [1, 2, 3, 0] rfl ?_
        exact hX (l3_43 + (1 : Int32), h2) (wpO_some hw :)
      · refine R_iconst (v := (0 : Int32)) hc dX11_restOf_17 kI_0 ?_
        refine R_goto (tgt := 24) hc dX11_restOf_18 (by decide) ?_
        refine R_iastore hc dX11_restOf_24 hw (fun h3 hw => ?_)
        refine R_iinc (q := 3) (i := 3) (v := l3_43) hc [(3, .int (l3_43 + (1 : Int32))), (0, rf x.w (some l0)), (1, .int l1), (2, .int l2)] dX11_restOf_25 rfl (kC_1 _) (hnl 3 (le_b rfl)) rfl ?_
        refine R_goto (tgt := 2) hc dX11_restOf_28 (by decide) ?_
        refine R_sub hc [1, 2, 3, 0] rfl ?_
        exact hX (l3_43 + (1 : Int32), h3) (wpO_some hw :)
theorem dX11_laysPins_0 : decode cX11_laysPins 0 = .ok (.aload_n 0, 1) := by decide +kernel
theorem dX11_laysPins_1 : decode cX11_laysPins 1 = .ok (.iconst 0, 1) := by decide +kernel
theorem dX11_laysPins_2 : decode cX11_laysPins 2 = .ok (.putfield 182, 3) := by decide +kernel
theorem dX11_laysPins_5 : decode cX11_laysPins 5 = .ok (.iconst 0, 1) := by decide +kernel
theorem dX11_laysPins_6 : decode cX11_laysPins 6 = .ok (.istore_n 1, 1) := by decide +kernel
theorem dX11_laysPins_7 : decode cX11_laysPins 7 = .ok (.iload_n 1, 1) := by decide +kernel
theorem dX11_laysPins_8 : decode cX11_laysPins 8 = .ok (.bipush 12, 2) := by decide +kernel
theorem dX11_laysPins_10 : decode cX11_laysPins 10 = .ok (.if_icmp .ge 62, 3) := by decide +kernel
theorem dX11_laysPins_13 : decode cX11_laysPins 13 = .ok (.aload_n 0, 1) := by decide +kernel
theorem dX11_laysPins_14 : decode cX11_laysPins 14 = .ok (.getfield 75, 3) := by decide +kernel
theorem dX11_laysPins_17 : decode cX11_laysPins 17 = .ok (.iload_n 1, 1) := by decide +kernel
theorem dX11_laysPins_18 : decode cX11_laysPins 18 = .ok (.iconst (-1), 1) := by decide +kernel
theorem dX11_laysPins_19 : decode cX11_laysPins 19 = .ok (.iastore, 1) := by decide +kernel
theorem dX11_laysPins_20 : decode cX11_laysPins 20 = .ok (.aload_n 0, 1) := by decide +kernel
theorem dX11_laysPins_21 : decode cX11_laysPins 21 = .ok (.getfield 7, 3) := by decide +kernel
theorem dX11_laysPins_24 : decode cX11_laysPins 24 = .ok (.iconst 3, 1) := by decide +kernel
theorem dX11_laysPins_25 : decode cX11_laysPins 25 = .ok (.iaload, 1) := by decide +kernel
theorem dX11_laysPins_26 : decode cX11_laysPins 26 = .ok (.iload_n 1, 1) := by decide +kernel
theorem dX11_laysPins_27 : decode cX11_laysPins 27 = .ok (.invokestatic 178, 3) := by decide +kernel
theorem dX11_laysPins_30 : decode cX11_laysPins 30 = .ok (.ifCond .eq 36, 3) := by decide +kernel
theorem dX11_laysPins_33 : decode cX11_laysPins 33 = .ok (.aload_n 0, 1) := by decide +kernel
theorem dX11_laysPins_34 : decode cX11_laysPins 34 = .ok (.getfield 66, 3) := by decide +kernel
theorem dX11_laysPins_37 : decode cX11_laysPins 37 = .ok (.iload_n 1, 1) := by decide +kernel
theorem dX11_laysPins_38 : decode cX11_laysPins 38 = .ok (.iaload, 1) := by decide +kernel
theorem dX11_laysPins_39 : decode cX11_laysPins 39 = .ok (.iconst (-1), 1) := by decide +kernel
theorem dX11_laysPins_40 : decode cX11_laysPins 40 = .ok (.if_icmp .ne 6, 3) := by decide +kernel
theorem dX11_laysPins_43 : decode cX11_laysPins 43 = .ok (.goto 23, 3) := by decide +kernel
theorem dX11_laysPins_46 : decode cX11_laysPins 46 = .ok (.aload_n 0, 1) := by decide +kernel
theorem dX11_laysPins_47 : decode cX11_laysPins 47 = .ok (.getfield 87, 3) := by decide +kernel
theorem dX11_laysPins_50 : decode cX11_laysPins 50 = .ok (.aload_n 0, 1) := by decide +kernel
theorem dX11_laysPins_51 : decode cX11_laysPins 51 = .ok (.getfield 182, 3) := by decide +kernel
theorem dX11_laysPins_54 : decode cX11_laysPins 54 = .ok (.iload_n 1, 1) := by decide +kernel
theorem dX11_laysPins_55 : decode cX11_laysPins 55 = .ok (.iastore, 1) := by decide +kernel
theorem dX11_laysPins_56 : decode cX11_laysPins 56 = .ok (.aload_n 0, 1) := by decide +kernel
theorem dX11_laysPins_57 : decode cX11_laysPins 57 = .ok (.dup, 1) := by decide +kernel
theorem dX11_laysPins_58 : decode cX11_laysPins 58 = .ok (.getfield 182, 3) := by decide +kernel
theorem dX11_laysPins_61 : decode cX11_laysPins 61 = .ok (.iconst 1, 1) := by decide +kernel
theorem dX11_laysPins_62 : decode cX11_laysPins 62 = .ok (.iadd, 1) := by decide +kernel
theorem dX11_laysPins_63 : decode cX11_laysPins 63 = .ok (.putfield 182, 3) := by decide +kernel
theorem dX11_laysPins_66 : decode cX11_laysPins 66 = .ok (.iinc 1 1, 3) := by decide +kernel
theorem dX11_laysPins_69 : decode cX11_laysPins 69 = .ok (.goto (-62), 3) := by decide +kernel
theorem dX11_laysPins_72 : decode cX11_laysPins 72 = .ok (.iconst 1, 1) := by decide +kernel
theorem dX11_laysPins_73 : decode cX11_laysPins 73 = .ok (.aload_n 0, 1) := by decide +kernel
theorem dX11_laysPins_74 : decode cX11_laysPins 74 = .ok (.getfield 182, 3) := by decide +kernel
theorem dX11_laysPins_77 : decode cX11_laysPins 77 = .ok (.ishl, 1) := by decide +kernel
theorem dX11_laysPins_78 : decode cX11_laysPins 78 = .ok (.iconst 1, 1) := by decide +kernel
theorem dX11_laysPins_79 : decode cX11_laysPins 79 = .ok (.isub, 1) := by decide +kernel
theorem dX11_laysPins_80 : decode cX11_laysPins 80 = .ok (.istore_n 1, 1) := by decide +kernel
theorem dX11_laysPins_81 : decode cX11_laysPins 81 = .ok (.aload_n 0, 1) := by decide +kernel
theorem dX11_laysPins_82 : decode cX11_laysPins 82 = .ok (.iload_n 1, 1) := by decide +kernel
theorem dX11_laysPins_83 : decode cX11_laysPins 83 = .ok (.iconst 0, 1) := by decide +kernel
theorem dX11_laysPins_84 : decode cX11_laysPins 84 = .ok (.invokevirtual 188, 3) := by decide +kernel
theorem dX11_laysPins_87 : decode cX11_laysPins 87 = .ok (.istore_n 2, 1) := by decide +kernel
theorem dX11_laysPins_88 : decode cX11_laysPins 88 = .ok (.aload_n 0, 1) := by decide +kernel
theorem dX11_laysPins_89 : decode cX11_laysPins 89 = .ok (.iload_n 2, 1) := by decide +kernel
theorem dX11_laysPins_90 : decode cX11_laysPins 90 = .ok (.sipush 1000, 3) := by decide +kernel
theorem dX11_laysPins_93 : decode cX11_laysPins 93 = .ok (.if_icmp .ge 7, 3) := by decide +kernel
theorem dX11_laysPins_96 : decode cX11_laysPins 96 = .ok (.iconst 1, 1) := by decide +kernel
theorem dX11_laysPins_97 : decode cX11_laysPins 97 = .ok (.goto 4, 3) := by decide +kernel
theorem dX11_laysPins_100 : decode cX11_laysPins 100 = .ok (.iconst 0, 1) := by decide +kernel
theorem dX11_laysPins_101 : decode cX11_laysPins 101 = .ok (.putfield 191, 3) := by decide +kernel
theorem dX11_laysPins_104 : decode cX11_laysPins 104 = .ok (.aload_n 0, 1) := by decide +kernel
theorem dX11_laysPins_105 : decode cX11_laysPins 105 = .ok (.aload_n 0, 1) := by decide +kernel
theorem dX11_laysPins_106 : decode cX11_laysPins 106 = .ok (.getfield 191, 3) := by decide +kernel
theorem dX11_laysPins_109 : decode cX11_laysPins 109 = .ok (.ifCond .eq 7, 3) := by decide +kernel
theorem dX11_laysPins_112 : decode cX11_laysPins 112 = .ok (.iload_n 2, 1) := by decide +kernel
theorem dX11_laysPins_113 : decode cX11_laysPins 113 = .ok (.goto 4, 3) := by decide +kernel
theorem dX11_laysPins_116 : decode cX11_laysPins 116 = .ok (.iconst (-1), 1) := by decide +kernel
theorem dX11_laysPins_117 : decode cX11_laysPins 117 = .ok (.putfield 195, 3) := by decide +kernel
theorem dX11_laysPins_120 : decode cX11_laysPins 120 = .ok (.iconst 0, 1) := by decide +kernel
theorem dX11_laysPins_121 : decode cX11_laysPins 121 = .ok (.istore_n 3, 1) := by decide +kernel
theorem dX11_laysPins_122 : decode cX11_laysPins 122 = .ok (.iconst 0, 1) := by decide +kernel
theorem dX11_laysPins_123 : decode cX11_laysPins 123 = .ok (.istore 4, 2) := by decide +kernel
theorem dX11_laysPins_125 : decode cX11_laysPins 125 = .ok (.iload 4, 2) := by decide +kernel
theorem dX11_laysPins_127 : decode cX11_laysPins 127 = .ok (.aload_n 0, 1) := by decide +kernel
theorem dX11_laysPins_128 : decode cX11_laysPins 128 = .ok (.getfield 182, 3) := by decide +kernel
theorem dX11_laysPins_131 : decode cX11_laysPins 131 = .ok (.if_icmp .ge 117, 3) := by decide +kernel
theorem dX11_laysPins_134 : decode cX11_laysPins 134 = .ok (.aload_n 0, 1) := by decide +kernel
theorem dX11_laysPins_135 : decode cX11_laysPins 135 = .ok (.getfield 191, 3) := by decide +kernel
theorem dX11_laysPins_138 : decode cX11_laysPins 138 = .ok (.ifCond .eq 110, 3) := by decide +kernel
theorem dX11_laysPins_141 : decode cX11_laysPins 141 = .ok (.iload_n 1, 1) := by decide +kernel
theorem dX11_laysPins_142 : decode cX11_laysPins 142 = .ok (.iconst 1, 1) := by decide +kernel
theorem dX11_laysPins_143 : decode cX11_laysPins 143 = .ok (.iload 4, 2) := by decide +kernel
theorem dX11_laysPins_145 : decode cX11_laysPins 145 = .ok (.ishl, 1) := by decide +kernel
theorem dX11_laysPins_146 : decode cX11_laysPins 146 = .ok (.iconst (-1), 1) := by decide +kernel
theorem dX11_laysPins_147 : decode cX11_laysPins 147 = .ok (.ixor, 1) := by decide +kernel
theorem dX11_laysPins_148 : decode cX11_laysPins 148 = .ok (.iand, 1) := by decide +kernel
theorem dX11_laysPins_149 : decode cX11_laysPins 149 = .ok (.istore_n 1, 1) := by decide +kernel
theorem dX11_laysPins_150 : decode cX11_laysPins 150 = .ok (.iconst 0, 1) := by decide +kernel
theorem dX11_laysPins_151 : decode cX11_laysPins 151 = .ok (.istore 5, 2) := by decide +kernel
theorem dX11_laysPins_153 : decode cX11_laysPins 153 = .ok (.iload_n 3, 1) := by decide +kernel
theorem dX11_laysPins_154 : decode cX11_laysPins 154 = .ok (.iload 5, 2) := by decide +kernel
theorem dX11_laysPins_156 : decode cX11_laysPins 156 = .ok (.invokestatic 178, 3) := by decide +kernel
theorem dX11_laysPins_159 : decode cX11_laysPins 159 = .ok (.ifCond .ne 32, 3) := by decide +kernel
theorem dX11_laysPins_162 : decode cX11_laysPins 162 = .ok (.aload_n 0, 1) := by decide +kernel
theorem dX11_laysPins_163 : decode cX11_laysPins 163 = .ok (.aload_n 0, 1) := by decide +kernel
theorem dX11_laysPins_164 : decode cX11_laysPins 164 = .ok (.getfield 87, 3) := by decide +kernel
theorem dX11_laysPins_167 : decode cX11_laysPins 167 = .ok (.iload 4, 2) := by decide +kernel
theorem dX11_laysPins_169 : decode cX11_laysPins 169 = .ok (.iaload, 1) := by decide +kernel
theorem dX11_laysPins_170 : decode cX11_laysPins 170 = .ok (.iload 5, 2) := by decide +kernel
theorem dX11_laysPins_172 : decode cX11_laysPins 172 = .ok (.invokevirtual 185, 3) := by decide +kernel
theorem dX11_laysPins_175 : decode cX11_laysPins 175 = .ok (.aload_n 0, 1) := by decide +kernel
theorem dX11_laysPins_176 : decode cX11_laysPins 176 = .ok (.iload_n 1, 1) := by decide +kernel
theorem dX11_laysPins_177 : decode cX11_laysPins 177 = .ok (.iload_n 3, 1) := by decide +kernel
theorem dX11_laysPins_178 : decode cX11_laysPins 178 = .ok (.iconst 1, 1) := by decide +kernel
theorem dX11_laysPins_179 : decode cX11_laysPins 179 = .ok (.iload 5, 2) := by decide +kernel
theorem dX11_laysPins_181 : decode cX11_laysPins 181 = .ok (.ishl, 1) := by decide +kernel
theorem dX11_laysPins_182 : decode cX11_laysPins 182 = .ok (.ior, 1) := by decide +kernel
theorem dX11_laysPins_183 : decode cX11_laysPins 183 = .ok (.invokevirtual 188, 3) := by decide +kernel
theorem dX11_laysPins_186 : decode cX11_laysPins 186 = .ok (.iadd, 1) := by decide +kernel
theorem dX11_laysPins_187 : decode cX11_laysPins 187 = .ok (.iload_n 2, 1) := by decide +kernel
theorem dX11_laysPins_188 : decode cX11_laysPins 188 = .ok (.if_icmp .eq 17, 3) := by decide +kernel
theorem dX11_laysPins_191 : decode cX11_laysPins 191 = .ok (.iload 5, 2) := by decide +kernel
theorem dX11_laysPins_193 : decode cX11_laysPins 193 = .ok (.aload_n 0, 1) := by decide +kernel
theorem dX11_laysPins_194 : decode cX11_laysPins 194 = .ok (.getfield 7, 3) := by decide +kernel
theorem dX11_laysPins_197 : decode cX11_laysPins 197 = .ok (.iconst 1, 1) := by decide +kernel
theorem dX11_laysPins_198 : decode cX11_laysPins 198 = .ok (.iaload, 1) := by decide +kernel
theorem dX11_laysPins_199 : decode cX11_laysPins 199 = .ok (.iadd, 1) := by decide +kernel
theorem dX11_laysPins_200 : decode cX11_laysPins 200 = .ok (.istore 5, 2) := by decide +kernel
theorem dX11_laysPins_202 : decode cX11_laysPins 202 = .ok (.goto (-49), 3) := by decide +kernel
theorem dX11_laysPins_205 : decode cX11_laysPins 205 = .ok (.aload_n 0, 1) := by decide +kernel
theorem dX11_laysPins_206 : decode cX11_laysPins 206 = .ok (.getfield 75, 3) := by decide +kernel
theorem dX11_laysPins_209 : decode cX11_laysPins 209 = .ok (.aload_n 0, 1) := by decide +kernel
theorem dX11_laysPins_210 : decode cX11_laysPins 210 = .ok (.getfield 87, 3) := by decide +kernel
theorem dX11_laysPins_213 : decode cX11_laysPins 213 = .ok (.iload 4, 2) := by decide +kernel
theorem dX11_laysPins_215 : decode cX11_laysPins 215 = .ok (.iaload, 1) := by decide +kernel
theorem dX11_laysPins_216 : decode cX11_laysPins 216 = .ok (.iload 5, 2) := by decide +kernel
theorem dX11_laysPins_218 : decode cX11_laysPins 218 = .ok (.iastore, 1) := by decide +kernel
theorem dX11_laysPins_219 : decode cX11_laysPins 219 = .ok (.iload_n 3, 1) := by decide +kernel
theorem dX11_laysPins_220 : decode cX11_laysPins 220 = .ok (.iconst 1, 1) := by decide +kernel
theorem dX11_laysPins_221 : decode cX11_laysPins 221 = .ok (.iload 5, 2) := by decide +kernel
theorem dX11_laysPins_223 : decode cX11_laysPins 223 = .ok (.ishl, 1) := by decide +kernel
theorem dX11_laysPins_224 : decode cX11_laysPins 224 = .ok (.ior, 1) := by decide +kernel
theorem dX11_laysPins_225 : decode cX11_laysPins 225 = .ok (.istore_n 3, 1) := by decide +kernel
theorem dX11_laysPins_226 : decode cX11_laysPins 226 = .ok (.iload_n 2, 1) := by decide +kernel
theorem dX11_laysPins_227 : decode cX11_laysPins 227 = .ok (.aload_n 0, 1) := by decide +kernel
theorem dX11_laysPins_228 : decode cX11_laysPins 228 = .ok (.aload_n 0, 1) := by decide +kernel
theorem dX11_laysPins_229 : decode cX11_laysPins 229 = .ok (.getfield 87, 3) := by decide +kernel
theorem dX11_laysPins_232 : decode cX11_laysPins 232 = .ok (.iload 4, 2) := by decide +kernel
theorem dX11_laysPins_234 : decode cX11_laysPins 234 = .ok (.iaload, 1) := by decide +kernel
theorem dX11_laysPins_235 : decode cX11_laysPins 235 = .ok (.iload 5, 2) := by decide +kernel
theorem dX11_laysPins_237 : decode cX11_laysPins 237 = .ok (.invokevirtual 185, 3) := by decide +kernel
theorem dX11_laysPins_240 : decode cX11_laysPins 240 = .ok (.isub, 1) := by decide +kernel
theorem dX11_laysPins_241 : decode cX11_laysPins 241 = .ok (.istore_n 2, 1) := by decide +kernel
theorem dX11_laysPins_242 : decode cX11_laysPins 242 = .ok (.iinc 4 1, 3) := by decide +kernel
theorem dX11_laysPins_245 : decode cX11_laysPins 245 = .ok (.goto (-120), 3) := by decide +kernel
theorem dX11_laysPins_248 : decode cX11_laysPins 248 = .ok (.return_, 1) := by decide +kernel
def sX11_laysPins_L7 (F : Nat) (l0 : Nat) (l1 : Int32) (h : HP) : Option ((Int32 × HP) ⊕ HP) :=
  if (12 : Int32) ≤ l1 then
    some (.inr h)
  else
    (gR h 11 (some l0) 31).bind fun t2 =>
    (sI h t2 l1 (-1 : Int32)).bind fun h3 =>
    (gR h3 11 (some l0) 1).bind fun t4 =>
    (aI h3 13 t4 (3 : Int32)).bind fun t5 =>
    (sX11_has F t5 l1 h3).bind fun t6 =>
    if t6 = 0 then
      some (.inl (l1 + (1 : Int32), h3))
    else
      (gR h3 11 (some l0) 28).bind fun t7 =>
      (aI h3 13 t7 l1).bind fun t8 =>
      if ¬ t8 = (-1 : Int32) then
        (gR h3 11 (some l0) 37).bind fun t9 =>
        (gI h3 11 (some l0) 38).bind fun t10 =>
        (sI h3 t9 t10 l1).bind fun h11 =>
        (gI h11 11 (some l0) 38).bind fun t12 =>
        (pI h11 11 (some l0) 38 (t12 + (1 : Int32))).bind fun h13 =>
        some (.inl (l1 + (1 : Int32), h13))
      else
        some (.inl (l1 + (1 : Int32), h3))
def sX11_laysPins_L153 (F : Nat) (l0 : Nat) (l1 : Int32) (l2 : Int32) (l3 : Int32) (l4 : Int32) (l5 : Int32) (h : HP) : Option ((Int32 × HP) ⊕ (Int32 × HP)) :=
  (sX11_has F l3 l5 h).bind fun t28 =>
  if ¬ t28 = 0 then
    (gR h 11 (some l0) 1).bind fun t29 =>
    (aI h 13 t29 (1 : Int32)).bind fun t30 =>
    nmI (l5 + t30) fun l5_31 =>
    some (.inl (l5_31, h))
  else
    (gR h 11 (some l0) 37).bind fun t32 =>
    (aI h 13 t32 l4).bind fun t33 =>
    (dO h 11 (some l0)).bind fun a34 =>
    (sX11_beyond F a34 t33 l5 h).bind fun t35 =>
    (dO h 11 (some l0)).bind fun a36 =>
    bd2 (sX11_restOf F a36 l1 (l3 ||| (jshl (1 : Int32) l5)) h) fun t37 h38 =>
    if (t35 + t37) = l2 then
      some (.inr (l5, h38))
    else
      (gR h38 11 (some l0) 1).bind fun t39 =>
      (aI h38 13 t39 (1 : Int32)).bind fun t40 =>
      nmI (l5 + t40) fun l5_41 =>
      some (.inl (l5_41, h38))
def sX11_laysPins_L125 (F : Nat) (l0 : Nat) (l1 : Int32) (l2 : Int32) (l3 : Int32) (l4 : Int32) (h : HP) : Option ((Int32 × Int32 × Int32 × Int32 × HP) ⊕ HP) :=
  (gI h 11 (some l0) 38).bind fun t25 =>
  if t25 ≤ l4 then
    some (.inr h)
  else
    (gI h 11 (some l0) 35).bind fun t26 =>
    if t26 = 0 then
      some (.inr h)
    else
      nmI (l1 &&& ((jshl (1 : Int32) l4) ^^^ (-1 : Int32))) fun l1_27 =>
      (iter (fun s => sX11_laysPins_L153 F l0 l1_27 l2 l3 l4 s.1 s.2) F ((0 : Int32), h)).bind fun r => match r with
      | (l5_42, h43) =>
        (gR h43 11 (some l0) 31).bind fun t44 =>
        (gR h43 11 (some l0) 37).bind fun t45 =>
        (aI h43 13 t45 l4).bind fun t46 =>
        (sI h43 t44 t46 l5_42).bind fun h47 =>
        nmI (l3 ||| (jshl (1 : Int32) l5_42)) fun l3_48 =>
        (gR h47 11 (some l0) 37).bind fun t49 =>
        (aI h47 13 t49 l4).bind fun t50 =>
        (dO h47 11 (some l0)).bind fun a51 =>
        (sX11_beyond F a51 t50 l5_42 h47).bind fun t52 =>
        nmI (l2 - t52) fun l2_53 =>
        some (.inl (l1_27, l2_53, l3_48, l4 + (1 : Int32), h47))
def sX11_laysPins (F : Nat) (l0 : Nat) (h : HP) : Option HP :=
  (pI h 11 (some l0) 38 (0 : Int32)).bind fun h1 =>
  (iter (fun s => sX11_laysPins_L7 F l0 s.1 s.2) F ((0 : Int32), h1)).bind fun h14 =>
    (gI h14 11 (some l0) 38).bind fun t15 =>
    nmI ((jshl (1 : Int32) t15) - (1 : Int32)) fun l1_16 =>
    (dO h14 11 (some l0)).bind fun a17 =>
    bd2 (sX11_restOf F a17 l1_16 (0 : Int32) h14) fun t18 h19 =>
    (if (1000 : Int32) ≤ t18 then
        some (0 : Int32)
      else
        some (1 : Int32)).bind fun s20 =>
    (pZ h19 11 (some l0) 35 s20).bind fun h21 =>
    (gI h21 11 (some l0) 35).bind fun t22 =>
    (if t22 = 0 then
        some (-1 : Int32)
      else
        some t18).bind fun s23 =>
    (pI h21 11 (some l0) 36 s23).bind fun h24 =>
    (iter (fun s => sX11_laysPins_L125 F l0 s.1 s.2.1 s.2.2.1 s.2.2.2.1 s.2.2.2.2) F (l1_16, t18, (0 : Int32), (0 : Int32), h24)).bind fun h57 =>
      some h57
abbrev rm_X11_laysPins : Room := { frames := 3, cells := 0, slots := 0, locals := 68 }
set_option maxRecDepth 100000 in
set_option maxHeartbeats 4000000 in
theorem mt_X11_laysPins {w : WD} {l : Launch} {F : Nat} {l0 : Nat} {h : HP} {h' : HP} (hs : sX11_laysPins F l0 h = some h') : MV w l yX11_laysPins cX11_laysPins 6 rm_X11_laysPins 0 0 [rf w (some l0)] h h' := by
  refine of_body [(0, rf w (some l0))] (by decide) (by simp [lg_sl, rf_cat, cat_i, cat_l, cat_a]) (by simp [lv_args, rf_cat, cat_i, cat_l, cat_a]) ?_
  intro x hw_ hnL_ hl_ hc hret hnm hQ
  subst hw_; subst hl_
  have hnl : ∀ i, i < 6 → i < x.nL := fun i h => by rw [hnL_]; exact h
  have hw : wpO (sX11_laysPins F l0 h) (fun r => r = h') := ⟨_, hs, rfl⟩
  unfold sX11_laysPins at hw
  refine R_aload_n (q := 0) (i := 0) (v := (some l0)) hc dX11_laysPins_0 rfl rfl ?_
  refine R_iconst (v := (0 : Int32)) hc dX11_laysPins_1 kI_0 ?_
  refine R_putI hc pl_11_182 rfl rfl dX11_laysPins_2 hw (fun h1 hw => ?_)
  refine R_iconst (v := (0 : Int32)) hc dX11_laysPins_5 kI_0 ?_
  refine R_istore_n (i := 1) (v := (0 : Int32)) hc [(1, .int (0 : Int32)), (0, rf x.w (some l0))] dX11_laysPins_6 rfl (hnl 1 (le_b rfl)) rfl ?_
  refine R_sub hc [1, 0] rfl ?_
  refine R_loop (P := fun (s : (Int32 × HP)) => Rn x 0 0 7 [(0, rf x.w (some l0)), (1, .int s.1)] [] s.2) (fun h14 => Rn x 0 0 72 [(0, rf x.w (some l0))] [] h14) hw (fun r hw => ?_) (fun X hX s hw => ?_)
  · revert r hw
    intro h14 hw
    show Rn x 0 0 72 [(0, rf x.w (some l0))] [] h14
    refine R_iconst (v := (1 : Int32)) hc dX11_laysPins_72 kI_1 ?_
    refine R_aload_n (q := 0) (i := 0) (v := (some l0)) hc dX11_laysPins_73 rfl rfl ?_
    refine R_getI hc fl_11_182 dX11_laysPins_74 hw (fun t15 hw => ?_)
    refine R_ishl hc dX11_laysPins_77 ?_
    refine R_iconst (v := (1 : Int32)) hc dX11_laysPins_78 kI_1 ?_
    refine R_isub hc dX11_laysPins_79 ?_
    refine R_nmI hw (fun l1_16 hw => ?_)
    refine R_istore_n (i := 1) (v := l1_16) hc [(1, .int l1_16), (0, rf x.w (some l0))] dX11_laysPins_80 rfl (hnl 1 (le_b rfl)) rfl ?_
    refine R_aload_n (q := 1) (i := 0) (v := (some l0)) hc dX11_laysPins_81 rfl rfl ?_
    refine R_iload_n (q := 0) (i := 1) (v := l1_16) hc dX11_laysPins_82 rfl rfl ?_
    refine R_iconst (v := (0 : Int32)) hc dX11_laysPins_83 kI_0 ?_
    refine R_cVIi (As := [.int l1_16, .int (0 : Int32)]) (rest := []) (r := (some l0)) (ci := 11) hc ml_11_188 mf_X11_restOf rfl (by decide) ⟨rfl, rfl⟩ ⟨le_b rfl, le_b rfl⟩ ⟨Nat.zero_le _, Nat.zero_le _⟩ (fun a v h' e => mt_X11_restOf e) rfl rfl (Nat.zero_le _) dX11_laysPins_84 hw (fun t18 h19 hw => ?_)
    refine R_istore_n (i := 2) (v := t18) hc [(2, .int t18), (1, .int l1_16), (0, rf x.w (some l0))] dX11_laysPins_87 rfl (hnl 2 (le_b rfl)) rfl ?_
    refine R_aload_n (q := 2) (i := 0) (v := (some l0)) hc dX11_laysPins_88 rfl rfl ?_
    refine R_iload_n (q := 0) (i := 2) (v := t18) hc dX11_laysPins_89 rfl rfl ?_
    refine R_sipush (v := (1000 : Int32)) hc dX11_laysPins_90 kS_1000 ?_
    refine R_join (fun (s20 : Int32) => Rn x 0 0 101 [(0, rf x.w (some l0)), (1, .int l1_16), (2, .int t18)] [.int s20, rf x.w (some l0)] h19) hw (fun r hw => ?_) (fun hw => ?_)
    · revert r hw
      intro s20 hw
      show Rn x 0 0 101 [(0, rf x.w (some l0)), (1, .int l1_16), (2, .int t18)] [.int s20, rf x.w (some l0)] h19
      refine R_putZ hc pl_11_191 dX11_laysPins_101 hw (fun h21 hw => ?_)
      refine R_aload_n (q := 0) (i := 0) (v := (some l0)) hc dX11_laysPins_104 rfl rfl ?_
      refine R_aload_n (q := 0) (i := 0) (v := (some l0)) hc dX11_laysPins_105 rfl rfl ?_
      refine R_getI hc fl_11_191 dX11_laysPins_106 hw (fun t22 hw => ?_)
      refine R_join (fun (s23 : Int32) => Rn x 0 0 117 [(0, rf x.w (some l0)), (1, .int l1_16), (2, .int t18)] [.int s23, rf x.w (some l0)] h21) hw (fun r hw => ?_) (fun hw => ?_)
      · revert r hw
        intro s23 hw
        show Rn x 0 0 117 [(0, rf x.w (some l0)), (1, .int l1_16), (2, .int t18)] [.int s23, rf x.w (some l0)] h21
        refine R_putI hc pl_11_195 rfl rfl dX11_laysPins_117 hw (fun h24 hw => ?_)
        refine R_iconst (v := (0 : Int32)) hc dX11_laysPins_120 kI_0 ?_
        refine R_istore_n (i := 3) (v := (0 : Int32)) hc [(3, .int (0 : Int32)), (0, rf x.w (some l0)), (1, .int l1_16), (2, .int t18)] dX11_laysPins_121 rfl (hnl 3 (le_b rfl)) rfl ?_
        refine R_iconst (v := (0 : Int32)) hc dX11_laysPins_122 kI_0 ?_
        refine R_istore (i := 4) (v := (0 : Int32)) hc [(4, .int (0 : Int32)), (3, .int (0 : Int32)), (0, rf x.w (some l0)), (1, .int l1_16), (2, .int t18)] dX11_laysPins_123 (hnl 4 (le_b rfl)) rfl ?_
        refine R_sub hc [2, 3, 4, 1, 0] rfl ?_
        refine R_loop (P := fun (s : (Int32 × Int32 × Int32 × Int32 × HP)) => Rn x 0 0 125 [(0, rf x.w (some l0)), (1, .int s.1), (2, .int s.2.1), (3, .int s.2.2.1), (4, .int s.2.2.2.1)] [] s.2.2.2.2) (fun h57 => Rn x 0 0 248 [] [] h57) hw (fun r hw => ?_) (fun X hX s hw => ?_)
        · revert r hw
          intro h57 hw
          show Rn x 0 0 248 [] [] h57
          exact R_return hc hret hQ hw dX11_laysPins_248
        · obtain ⟨l1_59, l2_60, l3_61, l4_62, h63⟩ := s
          show Rn x 0 0 125 [(0, rf x.w (some l0)), (1, .int l1_59), (2, .int l2_60), (3, .int l3_61), (4, .int l4_62)] [] h63
          have hw : wpO (sX11_laysPins_L125 F l0 l1_59 l2_60 l3_61 l4_62 h63) _ := hw
          unfold sX11_laysPins_L125 at hw
          refine R_iload (q := 4) (i := 4) (v := l4_62) hc dX11_laysPins_125 rfl ?_
          refine R_aload_n (q := 0) (i := 0) (v := (some l0)) hc dX11_laysPins_127 rfl rfl ?_
          refine R_getI hc fl_11_182 dX11_laysPins_128 hw (fun t25 hw => ?_)
          refine R_icmp_ge (tgt := 248) hc dX11_laysPins_131 (by decide) hw (fun hw => ?_) (fun hw => ?_)
          · refine R_sub hc [] rfl ?_
            exact (wpO_some hw :)
          · refine R_aload_n (q := 0) (i := 0) (v := (some l0)) hc dX11_laysPins_134 rfl rfl ?_
            refine R_getI hc fl_11_191 dX11_laysPins_135 hw (fun t26 hw => ?_)
            refine R_if_eq (tgt := 248) hc dX11_laysPins_138 (by decide) hw (fun hw => ?_) (fun hw => ?_)
            · refine R_sub hc [] rfl ?_
              exact (wpO_some hw :)
            · refine R_iload_n (q := 1) (i := 1) (v := l1_59) hc dX11_laysPins_141 rfl rfl ?_
              refine R_iconst (v := (1 : Int32)) hc dX11_laysPins_142 kI_1 ?_
              refine R_iload (q := 4) (i := 4) (v := l4_62) hc dX11_laysPins_143 rfl ?_
              refine R_ishl hc dX11_laysPins_145 ?_
              refine R_iconst (v := (-1 : Int32)) hc dX11_laysPins_146 kI_m1 ?_
              refine R_ixor hc dX11_laysPins_147 ?_
              refine R_iand hc dX11_laysPins_148 ?_
              refine R_nmI hw (fun l1_27 hw => ?_)
              refine R_istore_n (i := 1) (v := l1_27) hc [(1, .int l1_27), (0, rf x.w (some l0)), (2, .int l2_60), (3, .int l3_61), (4, .int l4_62)] dX11_laysPins_149 rfl (hnl 1 (le_b rfl)) rfl ?_
              refine R_iconst (v := (0 : Int32)) hc dX11_laysPins_150 kI_0 ?_
              refine R_istore (i := 5) (v := (0 : Int32)) hc [(5, .int (0 : Int32)), (1, .int l1_27), (0, rf x.w (some l0)), (2, .int l2_60), (3, .int l3_61), (4, .int l4_62)] dX11_laysPins_151 (hnl 5 (le_b rfl)) rfl ?_
              refine R_sub hc [2, 1, 3, 4, 5, 0] rfl ?_
              refine R_loop (P := fun (s : (Int32 × HP)) => Rn x 0 0 153 [(0, rf x.w (some l0)), (1, .int l1_27), (2, .int l2_60), (3, .int l3_61), (4, .int l4_62), (5, .int s.1)] [] s.2) (fun r => match r with | (l5_42, h43) => Rn x 0 0 205 [(0, rf x.w (some l0)), (1, .int l1_27), (2, .int l2_60), (3, .int l3_61), (4, .int l4_62), (5, .int l5_42)] [] h43) hw (fun r hw => ?_) (fun X hX s hw => ?_)
              · obtain ⟨l5_42, h43⟩ := r
                show Rn x 0 0 205 [(0, rf x.w (some l0)), (1, .int l1_27), (2, .int l2_60), (3, .int l3_61), (4, .int l4_62), (5, .int l5_42)] [] h43
                refine R_aload_n (q := 0) (i := 0) (v := (some l0)) hc dX11_laysPins_205 rfl rfl ?_
                refine R_getR hc fl_11_75 dX11_laysPins_206 hw (fun t44 hw => ?_)
                refine R_aload_n (q := 0) (i := 0) (v := (some l0)) hc dX11_laysPins_209 rfl rfl ?_
                refine R_getR hc fl_11_87 dX11_laysPins_210 hw (fun t45 hw => ?_)
                refine R_iload (q := 4) (i := 4) (v := l4_62) hc dX11_laysPins_213 rfl ?_
                refine R_iaload hc dX11_laysPins_215 hw (fun t46 hw => ?_)
                refine R_iload (q := 5) (i := 5) (v := l5_42) hc dX11_laysPins_216 rfl ?_
                refine R_iastore hc dX11_laysPins_218 hw (fun h47 hw => ?_)
                refine R_iload_n (q := 3) (i := 3) (v := l3_61) hc dX11_laysPins_219 rfl rfl ?_
                refine R_iconst (v := (1 : Int32)) hc dX11_laysPins_220 kI_1 ?_
                refine R_iload (q := 5) (i := 5) (v := l5_42) hc dX11_laysPins_221 rfl ?_
                refine R_ishl hc dX11_laysPins_223 ?_
                refine R_ior hc dX11_laysPins_224 ?_
                refine R_nmI hw (fun l3_48 hw => ?_)
                refine R_istore_n (i := 3) (v := l3_48) hc [(3, .int l3_48), (0, rf x.w (some l0)), (1, .int l1_27), (2, .int l2_60), (4, .int l4_62), (5, .int l5_42)] dX11_laysPins_225 rfl (hnl 3 (le_b rfl)) rfl ?_
                refine R_iload_n (q := 3) (i := 2) (v := l2_60) hc dX11_laysPins_226 rfl rfl ?_
                refine R_aload_n (q := 1) (i := 0) (v := (some l0)) hc dX11_laysPins_227 rfl rfl ?_
                refine R_aload_n (q := 1) (i := 0) (v := (some l0)) hc dX11_laysPins_228 rfl rfl ?_
                refine R_getR hc fl_11_87 dX11_laysPins_229 hw (fun t49 hw => ?_)
                refine R_iload (q := 4) (i := 4) (v := l4_62) hc dX11_laysPins_232 rfl ?_
                refine R_iaload hc dX11_laysPins_234 hw (fun t50 hw => ?_)
                refine R_iload (q := 5) (i := 5) (v := l5_42) hc dX11_laysPins_235 rfl ?_
                refine R_cVI (As := [.int t50, .int l5_42]) (rest := [.int l2_60]) (r := (some l0)) (ci := 11) hc ml_11_185 mf_X11_beyond rfl (by decide) ⟨rfl, rfl⟩ ⟨le_b rfl, le_b rfl⟩ ⟨Nat.zero_le _, Nat.zero_le _⟩ (fun a v e => mt_X11_beyond e) rfl rfl (le_b rfl) dX11_laysPins_237 hw (fun t52 hw => ?_)
                refine R_isub hc dX11_laysPins_240 ?_
                refine R_nmI hw (fun l2_53 hw => ?_)
                refine R_istore_n (i := 2) (v := l2_53) hc [(2, .int l2_53), (3, .int l3_48), (0, rf x.w (some l0)), (1, .int l1_27), (4, .int l4_62), (5, .int l5_42)] dX11_laysPins_241 rfl (hnl 2 (le_b rfl)) rfl ?_
                refine R_iinc (q := 4) (i := 4) (v := l4_62) hc [(4, .int (l4_62 + (1 : Int32))), (2, .int l2_53), (3, .int l3_48), (0, rf x.w (some l0)), (1, .int l1_27), (5, .int l5_42)] dX11_laysPins_242 rfl (kC_1 _) (hnl 4 (le_b rfl)) rfl ?_
                refine R_goto (tgt := 125) hc dX11_laysPins_245 (by decide) ?_
                refine R_sub hc [3, 4, 1, 2, 0] rfl ?_
                exact hX (l1_27, l2_53, l3_48, l4_62 + (1 : Int32), h47) (wpO_some hw :)
              · obtain ⟨l5_55, h56⟩ := s
                show Rn x 0 0 153 [(0, rf x.w (some l0)), (1, .int l1_27), (2, .int l2_60), (3, .int l3_61), (4, .int l4_62), (5, .int l5_55)] [] h56
                have hw : wpO (sX11_laysPins_L153 F l0 l1_27 l2_60 l3_61 l4_62 l5_55 h56) _ := hw
                unfold sX11_laysPins_L153 at hw
                refine R_iload_n (q := 3) (i := 3) (v := l3_61) hc dX11_laysPins_153 rfl rfl ?_
                refine R_iload (q := 5) (i := 5) (v := l5_55) hc dX11_laysPins_154 rfl ?_
                refine R_cSI (As := [.int l3_61, .int l5_55]) (rest := []) hc ml_11_178 mf_X11_has ⟨rfl, rfl⟩ ⟨le_b rfl, le_b rfl⟩ ⟨Nat.zero_le _, Nat.zero_le _⟩ (fun v e => mt_X11_has e) rfl rfl (Nat.zero_le _) dX11_laysPins_156 hw (fun t28 hw => ?_)
                refine R_if_ne (tgt := 191) hc dX11_laysPins_159 (by decide) hw (fun hw => ?_) (fun hw => ?_)
                · refine R_iload (q := 5) (i := 5) (v := l5_55) hc dX11_laysPins_191 rfl ?_
                  refine R_aload_n (q := 0) (i := 0) (v := (some l0)) hc dX11_laysPins_193 rfl rfl ?_
                  refine R_getR hc fl_11_7 dX11_laysPins_194 hw (fun t29 hw => ?_)
                  refine R_iconst (v := (1 : Int32)) hc dX11_laysPins_197 kI_1 ?_
                  refine R_iaload hc dX11_laysPins_198 hw (fun t30 hw => ?_)
                  refine R_iadd hc dX11_laysPins_199 ?_
                  refine R_nmI hw (fun l5_31 hw => ?_)
                  refine R_istore (i := 5) (v := l5_31) hc [(5, .int l5_31), (0, rf x.w (some l0)), (1, .int l1_27), (2, .int l2_60), (3, .int l3_61), (4, .int l4_62)] dX11_laysPins_200 (hnl 5 (le_b rfl)) rfl ?_
                  refine R_goto (tgt := 153) hc dX11_laysPins_202 (by decide) ?_
                  refine R_sub hc [1, 2, 3, 4, 5, 0] rfl ?_
                  exact hX (l5_31, h56) (wpO_some hw :)
                · refine R_aload_n (q := 0) (i := 0) (v := (some l0)) hc dX11_laysPins_162 rfl rfl ?_
                  refine R_aload_n (q := 0) (i := 0) (v := (some l0)) hc dX11_laysPins_163 rfl rfl ?_
                  refine R_getR hc fl_11_87 dX11_laysPins_164 hw (fun t32 hw => ?_)
                  refine R_iload (q := 4) (i := 4) (v := l4_62) hc dX11_laysPins_167 rfl ?_
                  refine R_iaload hc dX11_laysPins_169 hw (fun t33 hw => ?_)
                  refine R_iload (q := 5) (i := 5) (v := l5_55) hc dX11_laysPins_170 rfl ?_
                  refine R_cVI (As := [.int t33, .int l5_55]) (rest := []) (r := (some l0)) (ci := 11) hc ml_11_185 mf_X11_beyond rfl (by decide) ⟨rfl, rfl⟩ ⟨le_b rfl, le_b rfl⟩ ⟨Nat.zero_le _, Nat.zero_le _⟩ (fun a v e => mt_X11_beyond e) rfl rfl (Nat.zero_le _) dX11_laysPins_172 hw (fun t35 hw => ?_)
                  refine R_aload_n (q := 0) (i := 0) (v := (some l0)) hc dX11_laysPins_175 rfl rfl ?_
                  refine R_iload_n (q := 1) (i := 1) (v := l1_27) hc dX11_laysPins_176 rfl rfl ?_
                  refine R_iload_n (q := 3) (i := 3) (v := l3_61) hc dX11_laysPins_177 rfl rfl ?_
                  refine R_iconst (v := (1 : Int32)) hc dX11_laysPins_178 kI_1 ?_
                  refine R_iload (q := 5) (i := 5) (v := l5_55) hc dX11_laysPins_179 rfl ?_
                  refine R_ishl hc dX11_laysPins_181 ?_
                  refine R_ior hc dX11_laysPins_182 ?_
                  refine R_cVIi (As := [.int l1_27, .int (l3_61 ||| (jshl (1 : Int32) l5_55))]) (rest := [.int t35]) (r := (some l0)) (ci := 11) hc ml_11_188 mf_X11_restOf rfl (by decide) ⟨rfl, rfl⟩ ⟨le_b rfl, le_b rfl⟩ ⟨Nat.zero_le _, Nat.zero_le _⟩ (fun a v h' e => mt_X11_restOf e) rfl rfl (le_b rfl) dX11_laysPins_183 hw (fun t37 h38 hw => ?_)
                  refine R_iadd hc dX11_laysPins_186 ?_
                  refine R_iload_n (q := 2) (i := 2) (v := l2_60) hc dX11_laysPins_187 rfl rfl ?_
                  refine R_icmp_eq (tgt := 205) hc dX11_laysPins_188 (by decide) hw (fun hw => ?_) (fun hw => ?_)
                  · refine R_sub hc [0, 1, 2, 3, 4, 5] rfl ?_
                    exact (wpO_some hw :)
                  · refine R_iload (q := 5) (i := 5) (v := l5_55) hc dX11_laysPins_191 rfl ?_
                    refine R_aload_n (q := 0) (i := 0) (v := (some l0)) hc dX11_laysPins_193 rfl rfl ?_
                    refine R_getR hc fl_11_7 dX11_laysPins_194 hw (fun t39 hw => ?_)
                    refine R_iconst (v := (1 : Int32)) hc dX11_laysPins_197 kI_1 ?_
                    refine R_iaload hc dX11_laysPins_198 hw (fun t40 hw => ?_)
                    refine R_iadd hc dX11_laysPins_199 ?_
                    refine R_nmI hw (fun l5_41 hw => ?_)
                    refine R_istore (i := 5) (v := l5_41) hc [(5, .int l5_41), (0, rf x.w (some l0)), (1, .int l1_27), (2, .int l2_60), (3, .int l3_61), (4, .int l4_62)] dX11_laysPins_200 (hnl 5 (le_b rfl)) rfl ?_
                    refine R_goto (tgt := 153) hc dX11_laysPins_202 (by decide) ?_
                    refine R_sub hc [1, 2, 3, 4, 5, 0] rfl ?_
                    exact hX (l5_41, h38) (wpO_some hw :)
      · refine R_if_eq (tgt := 116) hc dX11_laysPins_109 (by decide) hw (fun hw => ?_) (fun hw => ?_)
        · refine R_iconst (v := (-1 : Int32)) hc dX11_laysPins_116 kI_m1 ?_
          refine R_sub hc [0, 1, 2] rfl ?_
          exact (wpO_some hw :)
        · refine R_iload_n (q := 2) (i := 2) (v := t18) hc dX11_laysPins_112 rfl rfl ?_
          refine R_goto (tgt := 117) hc dX11_laysPins_113 (by decide) ?_
          refine R_sub hc [0, 1, 2] rfl ?_
          exact (wpO_some hw :)
    · refine R_icmp_ge (tgt := 100) hc dX11_laysPins_93 (by decide) hw (fun hw => ?_) (fun hw => ?_)
      · refine R_iconst (v := (0 : Int32)) hc dX11_laysPins_100 kI_0 ?_
        refine R_sub hc [2, 1, 0] rfl ?_
        exact (wpO_some hw :)
      · refine R_iconst (v := (1 : Int32)) hc dX11_laysPins_96 kI_1 ?_
        refine R_goto (tgt := 101) hc dX11_laysPins_97 (by decide) ?_
        refine R_sub hc [2, 1, 0] rfl ?_
        exact (wpO_some hw :)
  · obtain ⟨l1_65, h66⟩ := s
    show Rn x 0 0 7 [(0, rf x.w (some l0)), (1, .int l1_65)] [] h66
    have hw : wpO (sX11_laysPins_L7 F l0 l1_65 h66) _ := hw
    unfold sX11_laysPins_L7 at hw
    refine R_iload_n (q := 1) (i := 1) (v := l1_65) hc dX11_laysPins_7 rfl rfl ?_
    refine R_bipush (v := (12 : Int32)) hc dX11_laysPins_8 kB_12 ?_
    refine R_icmp_ge (tgt := 72) hc dX11_laysPins_10 (by decide) hw (fun hw => ?_) (fun hw => ?_)
    · refine R_sub hc [0] rfl ?_
      exact (wpO_some hw :)
    · refine R_aload_n (q := 0) (i := 0) (v := (some l0)) hc dX11_laysPins_13 rfl rfl ?_
      refine R_getR hc fl_11_75 dX11_laysPins_14 hw (fun t2 hw => ?_)
      refine R_iload_n (q := 1) (i := 1) (v := l1_65) hc dX11_laysPins_17 rfl rfl ?_
      refine R_iconst (v := (-1 : Int32)) hc dX11_laysPins_18 kI_m1 ?_
      refine R_iastore hc dX11_laysPins_19 hw (fun h3 hw => ?_)
      refine R_aload_n (q := 0) (i := 0) (v := (some l0)) hc dX11_laysPins_20 rfl rfl ?_
      refine R_getR hc fl_11_7 dX11_laysPins_21 hw (fun t4 hw => ?_)
      refine R_iconst (v := (3 : Int32)) hc dX11_laysPins_24 kI_3 ?_
      refine R_iaload hc dX11_laysPins_25 hw (fun t5 hw => ?_)
      refine R_iload_n (q := 1) (i := 1) (v := l1_65) hc dX11_laysPins_26 rfl rfl ?_
      refine R_cSI (As := [.int t5, .int l1_65]) (rest := []) hc ml_11_178 mf_X11_has ⟨rfl, rfl⟩ ⟨le_b rfl, le_b rfl⟩ ⟨Nat.zero_le _, Nat.zero_le _⟩ (fun v e => mt_X11_has e) rfl rfl (Nat.zero_le _) dX11_laysPins_27 hw (fun t6 hw => ?_)
      refine R_if_eq (tgt := 66) hc dX11_laysPins_30 (by decide) hw (fun hw => ?_) (fun hw => ?_)
      · refine R_iinc (q := 1) (i := 1) (v := l1_65) hc [(1, .int (l1_65 + (1 : Int32))), (0, rf x.w (some l0))] dX11_laysPins_66 rfl (kC_1 _) (hnl 1 (le_b rfl)) rfl ?_
        refine R_goto (tgt := 7) hc dX11_laysPins_69 (by decide) ?_
        refine R_sub hc [1, 0] rfl ?_
        exact hX (l1_65 + (1 : Int32), h3) (wpO_some hw :)
      · refine R_aload_n (q := 0) (i := 0) (v := (some l0)) hc dX11_laysPins_33 rfl rfl ?_
        refine R_getR hc fl_11_66 dX11_laysPins_34 hw (fun t7 hw => ?_)
        refine R_iload_n (q := 1) (i := 1) (v := l1_65) hc dX11_laysPins_37 rfl rfl ?_
        refine R_iaload hc dX11_laysPins_38 hw (fun t8 hw => ?_)
        refine R_iconst (v := (-1 : Int32)) hc dX11_laysPins_39 kI_m1 ?_
        refine R_icmp_ne (tgt := 46) hc dX11_laysPins_40 (by decide) hw (fun hw => ?_) (fun hw => ?_)
        · refine R_aload_n (q := 0) (i := 0) (v := (some l0)) hc dX11_laysPins_46 rfl rfl ?_
          refine R_getR hc fl_11_87 dX11_laysPins_47 hw (fun t9 hw => ?_)
          refine R_aload_n (q := 0) (i := 0) (v := (some l0)) hc dX11_laysPins_50 rfl rfl ?_
          refine R_getI hc fl_11_182 dX11_laysPins_51 hw (fun t10 hw => ?_)
          refine R_iload_n (q := 1) (i := 1) (v := l1_65) hc dX11_laysPins_54 rfl rfl ?_
          refine R_iastore hc dX11_laysPins_55 hw (fun h11 hw => ?_)
          refine R_aload_n (q := 0) (i := 0) (v := (some l0)) hc dX11_laysPins_56 rfl rfl ?_
          refine R_dup hc dX11_laysPins_57 (rf_cat _ _) ?_
          refine R_getI hc fl_11_182 dX11_laysPins_58 hw (fun t12 hw => ?_)
          refine R_iconst (v := (1 : Int32)) hc dX11_laysPins_61 kI_1 ?_
          refine R_iadd hc dX11_laysPins_62 ?_
          refine R_putI hc pl_11_182 rfl rfl dX11_laysPins_63 hw (fun h13 hw => ?_)
          refine R_iinc (q := 1) (i := 1) (v := l1_65) hc [(1, .int (l1_65 + (1 : Int32))), (0, rf x.w (some l0))] dX11_laysPins_66 rfl (kC_1 _) (hnl 1 (le_b rfl)) rfl ?_
          refine R_goto (tgt := 7) hc dX11_laysPins_69 (by decide) ?_
          refine R_sub hc [1, 0] rfl ?_
          exact hX (l1_65 + (1 : Int32), h13) (wpO_some hw :)
        · refine R_goto (tgt := 66) hc dX11_laysPins_43 (by decide) ?_
          refine R_iinc (q := 1) (i := 1) (v := l1_65) hc [(1, .int (l1_65 + (1 : Int32))), (0, rf x.w (some l0))] dX11_laysPins_66 rfl (kC_1 _) (hnl 1 (le_b rfl)) rfl ?_
          refine R_goto (tgt := 7) hc dX11_laysPins_69 (by decide) ?_
          refine R_sub hc [1, 0] rfl ?_
          exact hX (l1_65 + (1 : Int32), h3) (wpO_some hw :)
