theorem dX11_ties_0 : decode cX11_ties 0 = .ok (.aload_n 0, 1) := by decide +kernel
theorem dX11_ties_1 : decode cX11_ties 1 = .ok (.iconst 0, 1) := by decide +kernel
theorem dX11_ties_2 : decode cX11_ties 2 = .ok (.putfield 100, 3) := by decide +kernel
theorem dX11_ties_5 : decode cX11_ties 5 = .ok (.iconst 0, 1) := by decide +kernel
theorem dX11_ties_6 : decode cX11_ties 6 = .ok (.istore_n 1, 1) := by decide +kernel
theorem dX11_ties_7 : decode cX11_ties 7 = .ok (.iconst 0, 1) := by decide +kernel
theorem dX11_ties_8 : decode cX11_ties 8 = .ok (.istore_n 2, 1) := by decide +kernel
theorem dX11_ties_9 : decode cX11_ties 9 = .ok (.iload_n 2, 1) := by decide +kernel
theorem dX11_ties_10 : decode cX11_ties 10 = .ok (.aload_n 0, 1) := by decide +kernel
theorem dX11_ties_11 : decode cX11_ties 11 = .ok (.invokevirtual 103, 3) := by decide +kernel
theorem dX11_ties_14 : decode cX11_ties 14 = .ok (.if_icmp .ge 47, 3) := by decide +kernel
theorem dX11_ties_17 : decode cX11_ties 17 = .ok (.iconst 0, 1) := by decide +kernel
theorem dX11_ties_18 : decode cX11_ties 18 = .ok (.istore_n 3, 1) := by decide +kernel
theorem dX11_ties_19 : decode cX11_ties 19 = .ok (.iload_n 3, 1) := by decide +kernel
theorem dX11_ties_20 : decode cX11_ties 20 = .ok (.aload_n 0, 1) := by decide +kernel
theorem dX11_ties_21 : decode cX11_ties 21 = .ok (.invokevirtual 103, 3) := by decide +kernel
theorem dX11_ties_24 : decode cX11_ties 24 = .ok (.if_icmp .ge 31, 3) := by decide +kernel
theorem dX11_ties_27 : decode cX11_ties 27 = .ok (.iload_n 1, 1) := by decide +kernel
theorem dX11_ties_28 : decode cX11_ties 28 = .ok (.iload_n 2, 1) := by decide +kernel
theorem dX11_ties_29 : decode cX11_ties 29 = .ok (.iload_n 3, 1) := by decide +kernel
theorem dX11_ties_30 : decode cX11_ties 30 = .ok (.if_icmp .eq 16, 3) := by decide +kernel
theorem dX11_ties_33 : decode cX11_ties 33 = .ok (.aload_n 0, 1) := by decide +kernel
theorem dX11_ties_34 : decode cX11_ties 34 = .ok (.iload_n 2, 1) := by decide +kernel
theorem dX11_ties_35 : decode cX11_ties 35 = .ok (.iload_n 3, 1) := by decide +kernel
theorem dX11_ties_36 : decode cX11_ties 36 = .ok (.invokevirtual 360, 3) := by decide +kernel
theorem dX11_ties_39 : decode cX11_ties 39 = .ok (.ifCond .eq 7, 3) := by decide +kernel
theorem dX11_ties_42 : decode cX11_ties 42 = .ok (.iconst 1, 1) := by decide +kernel
theorem dX11_ties_43 : decode cX11_ties 43 = .ok (.goto 4, 3) := by decide +kernel
theorem dX11_ties_46 : decode cX11_ties 46 = .ok (.iconst 0, 1) := by decide +kernel
theorem dX11_ties_47 : decode cX11_ties 47 = .ok (.iadd, 1) := by decide +kernel
theorem dX11_ties_48 : decode cX11_ties 48 = .ok (.istore_n 1, 1) := by decide +kernel
theorem dX11_ties_49 : decode cX11_ties 49 = .ok (.iinc 3 1, 3) := by decide +kernel
theorem dX11_ties_52 : decode cX11_ties 52 = .ok (.goto (-33), 3) := by decide +kernel
theorem dX11_ties_55 : decode cX11_ties 55 = .ok (.iinc 2 1, 3) := by decide +kernel
theorem dX11_ties_58 : decode cX11_ties 58 = .ok (.goto (-49), 3) := by decide +kernel
theorem dX11_ties_61 : decode cX11_ties 61 = .ok (.iload_n 1, 1) := by decide +kernel
theorem dX11_ties_62 : decode cX11_ties 62 = .ok (.ireturn, 1) := by decide +kernel
def sX11_ties_L19 (F : Nat) (l0 : Nat) (l2 : Int32) (l1 : Int32) (l3 : Int32) (h : HP) : Option ((Int32 × Int32) ⊕ Int32) :=
  (dO h 11 (some l0)).bind fun a4 =>
  (sX11_fingers F a4 h).bind fun t5 =>
  if t5 ≤ l3 then
    some (.inr l1)
  else
    if l2 = l3 then
      nmI (l1 + (0 : Int32)) fun l1_6 =>
      some (.inl (l1_6, l3 + (1 : Int32)))
    else
      (dO h 11 (some l0)).bind fun a7 =>
      (sX11_canJoin F a7 l2 l3 h).bind fun t8 =>
      if t8 = 0 then
        nmI (l1 + (0 : Int32)) fun l1_9 =>
        some (.inl (l1_9, l3 + (1 : Int32)))
      else
        nmI (l1 + (1 : Int32)) fun l1_10 =>
        some (.inl (l1_10, l3 + (1 : Int32)))
def sX11_ties_L9 (F : Nat) (l0 : Nat) (l1 : Int32) (l2 : Int32) (h : HP) : Option ((Int32 × Int32) ⊕ Int32) :=
  (dO h 11 (some l0)).bind fun a2 =>
  (sX11_fingers F a2 h).bind fun t3 =>
  if t3 ≤ l2 then
    some (.inr l1)
  else
    (iter (fun s => sX11_ties_L19 F l0 l2 s.1 s.2 h) F (l1, (0 : Int32))).bind fun l1_11 =>
      some (.inl (l1_11, l2 + (1 : Int32)))
def sX11_ties (F : Nat) (l0 : Nat) (h : HP) : Option (Int32 × HP) :=
  (pI h 11 (some l0) 0 (0 : Int32)).bind fun h1 =>
  (iter (fun s => sX11_ties_L9 F l0 s.1 s.2 h1) F ((0 : Int32), (0 : Int32))).bind fun l1_15 =>
    some (l1_15, h1)
abbrev rm_X11_ties : Room := { frames := 5, cells := 0, slots := 0, locals := 119 }
set_option maxRecDepth 100000 in
set_option maxHeartbeats 4000000 in
theorem mt_X11_ties {w : WD} {l : Launch} {F : Nat} {l0 : Nat} {h : HP} {v : Int32} {h' : HP} (hs : sX11_ties F l0 h = some (v, h')) : MI w l yX11_ties cX11_ties 4 .int rm_X11_ties 0 0 [rf w (some l0)] h v h' := by
  refine of_body [(0, rf w (some l0))] (by decide) (by simp [lg_sl, rf_cat, cat_i, cat_l, cat_a]) (by simp [lv_args, rf_cat, cat_i, cat_l, cat_a]) ?_
  intro x hw_ hnL_ hl_ hc hret hnm hQ
  subst hw_; subst hl_
  have hnl : ∀ i, i < 4 → i < x.nL := fun i h => by rw [hnL_]; exact h
  have hw : wpO (sX11_ties F l0 h) (fun r => r = (v, h')) := ⟨_, hs, rfl⟩
  unfold sX11_ties at hw
  refine R_aload_n (q := 0) (i := 0) (v := (some l0)) hc dX11_ties_0 rfl rfl ?_
  refine R_iconst (v := (0 : Int32)) hc dX11_ties_1 kI_0 ?_
  refine R_putI hc pl_11_100 rfl rfl dX11_ties_2 hw (fun h1 hw => ?_)
  refine R_iconst (v := (0 : Int32)) hc dX11_ties_5 kI_0 ?_
  refine R_istore_n (i := 1) (v := (0 : Int32)) hc [(1, .int (0 : Int32)), (0, rf x.w (some l0))] dX11_ties_6 rfl (hnl 1 (le_b rfl)) rfl ?_
  refine R_iconst (v := (0 : Int32)) hc dX11_ties_7 kI_0 ?_
  refine R_istore_n (i := 2) (v := (0 : Int32)) hc [(2, .int (0 : Int32)), (1, .int (0 : Int32)), (0, rf x.w (some l0))] dX11_ties_8 rfl (hnl 2 (le_b rfl)) rfl ?_
  refine R_sub hc [2, 1, 0] rfl ?_
  refine R_loop (P := fun (s : (Int32 × Int32)) => Rn x 0 0 9 [(0, rf x.w (some l0)), (1, .int s.1), (2, .int s.2)] [] h1) (fun l1_15 => Rn x 0 0 61 [(1, .int l1_15)] [] h1) hw (fun r hw => ?_) (fun X hX s hw => ?_)
  · revert r hw
    intro l1_15 hw
    show Rn x 0 0 61 [(1, .int l1_15)] [] h1
    refine R_iload_n (q := 0) (i := 1) (v := l1_15) hc dX11_ties_61 rfl rfl ?_
    exact R_ireturn hc hret rfl hQ hw dX11_ties_62
  · obtain ⟨l1_17, l2_18⟩ := s
    show Rn x 0 0 9 [(0, rf x.w (some l0)), (1, .int l1_17), (2, .int l2_18)] [] h1
    have hw : wpO (sX11_ties_L9 F l0 l1_17 l2_18 h1) _ := hw
    unfold sX11_ties_L9 at hw
    refine R_iload_n (q := 2) (i := 2) (v := l2_18) hc dX11_ties_9 rfl rfl ?_
    refine R_aload_n (q := 0) (i := 0) (v := (some l0)) hc dX11_ties_10 rfl rfl ?_
    refine R_cVI (As := []) (rest := [.int l2_18]) (r := (some l0)) (ci := 11) hc ml_11_103 mf_X11_fingers rfl (by decide) ⟨rfl, rfl⟩ ⟨le_b rfl, le_b rfl⟩ ⟨Nat.zero_le _, Nat.zero_le _⟩ (fun a v e => mt_X11_fingers e) rfl rfl (le_b rfl) dX11_ties_11 hw (fun t3 hw => ?_)
    refine R_icmp_ge (tgt := 61) hc dX11_ties_14 (by decide) hw (fun hw => ?_) (fun hw => ?_)
    · refine R_sub hc [1] rfl ?_
      exact (wpO_some hw :)
    · refine R_iconst (v := (0 : Int32)) hc dX11_ties_17 kI_0 ?_
      refine R_istore_n (i := 3) (v := (0 : Int32)) hc [(3, .int (0 : Int32)), (0, rf x.w (some l0)), (1, .int l1_17), (2, .int l2_18)] dX11_ties_18 rfl (hnl 3 (le_b rfl)) rfl ?_
      refine R_sub hc [1, 2, 3, 0] rfl ?_
      refine R_loop (P := fun (s : (Int32 × Int32)) => Rn x 0 0 19 [(0, rf x.w (some l0)), (1, .int s.1), (2, .int l2_18), (3, .int s.2)] [] h1) (fun l1_11 => Rn x 0 0 55 [(0, rf x.w (some l0)), (1, .int l1_11), (2, .int l2_18)] [] h1) hw (fun r hw => ?_) (fun X hX s hw => ?_)
      · revert r hw
        intro l1_11 hw
        show Rn x 0 0 55 [(0, rf x.w (some l0)), (1, .int l1_11), (2, .int l2_18)] [] h1
        refine R_iinc (q := 2) (i := 2) (v := l2_18) hc [(2, .int (l2_18 + (1 : Int32))), (0, rf x.w (some l0)), (1, .int l1_11)] dX11_ties_55 rfl (kC_1 _) (hnl 2 (le_b rfl)) rfl ?_
        refine R_goto (tgt := 9) hc dX11_ties_58 (by decide) ?_
        refine R_sub hc [1, 2, 0] rfl ?_
        exact hX (l1_11, l2_18 + (1 : Int32)) (wpO_some hw :)
      · obtain ⟨l1_13, l3_14⟩ := s
        show Rn x 0 0 19 [(0, rf x.w (some l0)), (1, .int l1_13), (2, .int l2_18), (3, .int l3_14)] [] h1
        have hw : wpO (sX11_ties_L19 F l0 l2_18 l1_13 l3_14 h1) _ := hw
        unfold sX11_ties_L19 at hw
        refine R_iload_n (q := 3) (i := 3) (v := l3_14) hc dX11_ties_19 rfl rfl ?_
        refine R_aload_n (q := 0) (i := 0) (v := (some l0)) hc dX11_ties_20 rfl rfl ?_
        refine R_cVI (As := []) (rest := [.int l3_14]) (r := (some l0)) (ci := 11) hc ml_11_103 mf_X11_fingers rfl (by decide) ⟨rfl, rfl⟩ ⟨le_b rfl, le_b rfl⟩ ⟨Nat.zero_le _, Nat.zero_le _⟩ (fun a v e => mt_X11_fingers e) rfl rfl (le_b rfl) dX11_ties_21 hw (fun t5 hw => ?_)
        refine R_icmp_ge (tgt := 55) hc dX11_ties_24 (by decide) hw (fun hw => ?_) (fun hw => ?_)
        · refine R_sub hc [0, 1, 2] rfl ?_
          exact (wpO_some hw :)
        · refine R_iload_n (q := 1) (i := 1) (v := l1_13) hc dX11_ties_27 rfl rfl ?_
          refine R_iload_n (q := 2) (i := 2) (v := l2_18) hc dX11_ties_28 rfl rfl ?_
          refine R_iload_n (q := 3) (i := 3) (v := l3_14) hc dX11_ties_29 rfl rfl ?_
          refine R_icmp_eq (tgt := 46) hc dX11_ties_30 (by decide) hw (fun hw => ?_) (fun hw => ?_)
          · refine R_iconst (v := (0 : Int32)) hc dX11_ties_46 kI_0 ?_
            refine R_iadd hc dX11_ties_47 ?_
            refine R_nmI hw (fun l1_6 hw => ?_)
            refine R_istore_n (i := 1) (v := l1_6) hc [(1, .int l1_6), (0, rf x.w (some l0)), (2, .int l2_18), (3, .int l3_14)] dX11_ties_48 rfl (hnl 1 (le_b rfl)) rfl ?_
            refine R_iinc (q := 3) (i := 3) (v := l3_14) hc [(3, .int (l3_14 + (1 : Int32))), (1, .int l1_6), (0, rf x.w (some l0)), (2, .int l2_18)] dX11_ties_49 rfl (kC_1 _) (hnl 3 (le_b rfl)) rfl ?_
            refine R_goto (tgt := 19) hc dX11_ties_52 (by decide) ?_
            refine R_sub hc [2, 1, 3, 0] rfl ?_
            exact hX (l1_6, l3_14 + (1 : Int32)) (wpO_some hw :)
          · refine R_aload_n (q := 0) (i := 0) (v := (some l0)) hc dX11_ties_33 rfl rfl ?_
            refine R_iload_n (q := 2) (i := 2) (v := l2_18) hc dX11_ties_34 rfl rfl ?_
            refine R_iload_n (q := 3) (i := 3) (v := l3_14) hc dX11_ties_35 rfl rfl ?_
            refine R_cVI (As := [.int l2_18, .int l3_14]) (rest := [.int l1_13]) (r := (some l0)) (ci := 11) hc ml_11_360 mf_X11_canJoin rfl (by decide) ⟨rfl, rfl⟩ ⟨le_b rfl, le_b rfl⟩ ⟨Nat.zero_le _, Nat.zero_le _⟩ (fun a v e => mt_X11_canJoin e) rfl rfl (le_b rfl) dX11_ties_36 hw (fun t8 hw => ?_)
            refine R_if_eq (tgt := 46) hc dX11_ties_39 (by decide) hw (fun hw => ?_) (fun hw => ?_)
            · refine R_iconst (v := (0 : Int32)) hc dX11_ties_46 kI_0 ?_
              refine R_iadd hc dX11_ties_47 ?_
              refine R_nmI hw (fun l1_9 hw => ?_)
              refine R_istore_n (i := 1) (v := l1_9) hc [(1, .int l1_9), (0, rf x.w (some l0)), (2, .int l2_18), (3, .int l3_14)] dX11_ties_48 rfl (hnl 1 (le_b rfl)) rfl ?_
              refine R_iinc (q := 3) (i := 3) (v := l3_14) hc [(3, .int (l3_14 + (1 : Int32))), (1, .int l1_9), (0, rf x.w (some l0)), (2, .int l2_18)] dX11_ties_49 rfl (kC_1 _) (hnl 3 (le_b rfl)) rfl ?_
              refine R_goto (tgt := 19) hc dX11_ties_52 (by decide) ?_
              refine R_sub hc [2, 1, 3, 0] rfl ?_
              exact hX (l1_9, l3_14 + (1 : Int32)) (wpO_some hw :)
            · refine R_iconst (v := (1 : Int32)) hc dX11_ties_42 kI_1 ?_
              refine R_goto (tgt := 47) hc dX11_ties_43 (by decide) ?_
              refine R_iadd hc dX11_ties_47 ?_
              refine R_nmI hw (fun l1_10 hw => ?_)
              refine R_istore_n (i := 1) (v := l1_10) hc [(1, .int l1_10), (0, rf x.w (some l0)), (2, .int l2_18), (3, .int l3_14)] dX11_ties_48 rfl (hnl 1 (le_b rfl)) rfl ?_
              refine R_iinc (q := 3) (i := 3) (v := l3_14) hc [(3, .int (l3_14 + (1 : Int32))), (1, .int l1_10), (0, rf x.w (some l0)), (2, .int l2_18)] dX11_ties_49 rfl (kC_1 _) (hnl 3 (le_b rfl)) rfl ?_
              refine R_goto (tgt := 19) hc dX11_ties_52 (by decide) ?_
              refine R_sub hc [2, 1, 3, 0] rfl ?_
              exact hX (l1_10, l3_14 + (1 : Int32)) (wpO_some hw :)
theorem dX11_lonely_0 : decode cX11_lonely 0 = .ok (.aload_n 0, 1) := by decide +kernel
theorem dX11_lonely_1 : decode cX11_lonely 1 = .ok (.iconst 0, 1) := by decide +kernel
theorem dX11_lonely_2 : decode cX11_lonely 2 = .ok (.putfield 100, 3) := by decide +kernel
theorem dX11_lonely_5 : decode cX11_lonely 5 = .ok (.iconst 0, 1) := by decide +kernel
theorem dX11_lonely_6 : decode cX11_lonely 6 = .ok (.istore_n 1, 1) := by decide +kernel
theorem dX11_lonely_7 : decode cX11_lonely 7 = .ok (.iconst 0, 1) := by decide +kernel
theorem dX11_lonely_8 : decode cX11_lonely 8 = .ok (.istore_n 2, 1) := by decide +kernel
theorem dX11_lonely_9 : decode cX11_lonely 9 = .ok (.iload_n 2, 1) := by decide +kernel
theorem dX11_lonely_10 : decode cX11_lonely 10 = .ok (.aload_n 0, 1) := by decide +kernel
theorem dX11_lonely_11 : decode cX11_lonely 11 = .ok (.invokevirtual 103, 3) := by decide +kernel
theorem dX11_lonely_14 : decode cX11_lonely 14 = .ok (.if_icmp .ge 79, 3) := by decide +kernel
theorem dX11_lonely_17 : decode cX11_lonely 17 = .ok (.iconst 1, 1) := by decide +kernel
theorem dX11_lonely_18 : decode cX11_lonely 18 = .ok (.istore_n 3, 1) := by decide +kernel
theorem dX11_lonely_19 : decode cX11_lonely 19 = .ok (.iconst 0, 1) := by decide +kernel
theorem dX11_lonely_20 : decode cX11_lonely 20 = .ok (.istore 4, 2) := by decide +kernel
theorem dX11_lonely_22 : decode cX11_lonely 22 = .ok (.iload 4, 2) := by decide +kernel
theorem dX11_lonely_24 : decode cX11_lonely 24 = .ok (.aload_n 0, 1) := by decide +kernel
theorem dX11_lonely_25 : decode cX11_lonely 25 = .ok (.invokevirtual 103, 3) := by decide +kernel
theorem dX11_lonely_28 : decode cX11_lonely 28 = .ok (.if_icmp .ge 45, 3) := by decide +kernel
theorem dX11_lonely_31 : decode cX11_lonely 31 = .ok (.iload_n 3, 1) := by decide +kernel
theorem dX11_lonely_32 : decode cX11_lonely 32 = .ok (.ifCond .eq 33, 3) := by decide +kernel
theorem dX11_lonely_35 : decode cX11_lonely 35 = .ok (.iload_n 2, 1) := by decide +kernel
theorem dX11_lonely_36 : decode cX11_lonely 36 = .ok (.iload 4, 2) := by decide +kernel
theorem dX11_lonely_38 : decode cX11_lonely 38 = .ok (.if_icmp .eq 23, 3) := by decide +kernel
theorem dX11_lonely_41 : decode cX11_lonely 41 = .ok (.aload_n 0, 1) := by decide +kernel
theorem dX11_lonely_42 : decode cX11_lonely 42 = .ok (.iload_n 2, 1) := by decide +kernel
theorem dX11_lonely_43 : decode cX11_lonely 43 = .ok (.iload 4, 2) := by decide +kernel
theorem dX11_lonely_45 : decode cX11_lonely 45 = .ok (.invokevirtual 360, 3) := by decide +kernel
theorem dX11_lonely_48 : decode cX11_lonely 48 = .ok (.ifCond .ne 17, 3) := by decide +kernel
theorem dX11_lonely_51 : decode cX11_lonely 51 = .ok (.aload_n 0, 1) := by decide +kernel
theorem dX11_lonely_52 : decode cX11_lonely 52 = .ok (.iload 4, 2) := by decide +kernel
theorem dX11_lonely_54 : decode cX11_lonely 54 = .ok (.iload_n 2, 1) := by decide +kernel
theorem dX11_lonely_55 : decode cX11_lonely 55 = .ok (.invokevirtual 360, 3) := by decide +kernel
theorem dX11_lonely_58 : decode cX11_lonely 58 = .ok (.ifCond .ne 7, 3) := by decide +kernel
theorem dX11_lonely_61 : decode cX11_lonely 61 = .ok (.iconst 1, 1) := by decide +kernel
theorem dX11_lonely_62 : decode cX11_lonely 62 = .ok (.goto 4, 3) := by decide +kernel
theorem dX11_lonely_65 : decode cX11_lonely 65 = .ok (.iconst 0, 1) := by decide +kernel
theorem dX11_lonely_66 : decode cX11_lonely 66 = .ok (.istore_n 3, 1) := by decide +kernel
theorem dX11_lonely_67 : decode cX11_lonely 67 = .ok (.iinc 4 1, 3) := by decide +kernel
theorem dX11_lonely_70 : decode cX11_lonely 70 = .ok (.goto (-48), 3) := by decide +kernel
theorem dX11_lonely_73 : decode cX11_lonely 73 = .ok (.iload_n 1, 1) := by decide +kernel
theorem dX11_lonely_74 : decode cX11_lonely 74 = .ok (.iload_n 3, 1) := by decide +kernel
theorem dX11_lonely_75 : decode cX11_lonely 75 = .ok (.ifCond .eq 9, 3) := by decide +kernel
theorem dX11_lonely_78 : decode cX11_lonely 78 = .ok (.iconst 1, 1) := by decide +kernel
theorem dX11_lonely_79 : decode cX11_lonely 79 = .ok (.iload_n 2, 1) := by decide +kernel
theorem dX11_lonely_80 : decode cX11_lonely 80 = .ok (.ishl, 1) := by decide +kernel
theorem dX11_lonely_81 : decode cX11_lonely 81 = .ok (.goto 4, 3) := by decide +kernel
theorem dX11_lonely_84 : decode cX11_lonely 84 = .ok (.iconst 0, 1) := by decide +kernel
theorem dX11_lonely_85 : decode cX11_lonely 85 = .ok (.ior, 1) := by decide +kernel
theorem dX11_lonely_86 : decode cX11_lonely 86 = .ok (.istore_n 1, 1) := by decide +kernel
theorem dX11_lonely_87 : decode cX11_lonely 87 = .ok (.iinc 2 1, 3) := by decide +kernel
theorem dX11_lonely_90 : decode cX11_lonely 90 = .ok (.goto (-81), 3) := by decide +kernel
theorem dX11_lonely_93 : decode cX11_lonely 93 = .ok (.iload_n 1, 1) := by decide +kernel
theorem dX11_lonely_94 : decode cX11_lonely 94 = .ok (.ireturn, 1) := by decide +kernel
def sX11_lonely_L22 (F : Nat) (l0 : Nat) (l1 : Int32) (l2 : Int32) (l3 : Int32) (l4 : Int32) (h : HP) : Option ((Int32 × Int32) ⊕ Int32) :=
  (dO h 11 (some l0)).bind fun a4 =>
  (sX11_fingers F a4 h).bind fun t5 =>
  if t5 ≤ l4 then
    some (.inr l3)
  else
    if l3 = 0 then
      some (.inl ((0 : Int32), l4 + (1 : Int32)))
    else
      if l2 = l4 then
        some (.inl ((1 : Int32), l4 + (1 : Int32)))
      else
        (dO h 11 (some l0)).bind fun a6 =>
        (sX11_canJoin F a6 l2 l4 h).bind fun t7 =>
        if ¬ t7 = 0 then
          some (.inl ((0 : Int32), l4 + (1 : Int32)))
        else
          (dO h 11 (some l0)).bind fun a8 =>
          (sX11_canJoin F a8 l4 l2 h).bind fun t9 =>
          if ¬ t9 = 0 then
            some (.inl ((0 : Int32), l4 + (1 : Int32)))
          else
            some (.inl ((1 : Int32), l4 + (1 : Int32)))
def sX11_lonely_L9 (F : Nat) (l0 : Nat) (l1 : Int32) (l2 : Int32) (h : HP) : Option ((Int32 × Int32) ⊕ Int32) :=
  (dO h 11 (some l0)).bind fun a2 =>
  (sX11_fingers F a2 h).bind fun t3 =>
  if t3 ≤ l2 then
    some (.inr l1)
  else
    (iter (fun s => sX11_lonely_L22 F l0 l1 l2 s.1 s.2 h) F ((1 : Int32), (0 : Int32))).bind fun l3_10 =>
      if l3_10 = 0 then
        nmI (l1 ||| (0 : Int32)) fun l1_11 =>
        some (.inl (l1_11, l2 + (1 : Int32)))
      else
        nmI (l1 ||| (jshl (1 : Int32) l2)) fun l1_12 =>
        some (.inl (l1_12, l2 + (1 : Int32)))
def sX11_lonely (F : Nat) (l0 : Nat) (h : HP) : Option (Int32 × HP) :=
  (pI h 11 (some l0) 0 (0 : Int32)).bind fun h1 =>
  (iter (fun s => sX11_lonely_L9 F l0 s.1 s.2 h1) F ((0 : Int32), (0 : Int32))).bind fun l1_16 =>
    some (l1_16, h1)
abbrev rm_X11_lonely : Room := { frames := 5, cells := 0, slots := 0, locals := 119 }
set_option maxRecDepth 100000 in
set_option maxHeartbeats 4000000 in
theorem mt_X11_lonely {w : WD} {l : Launch} {F : Nat} {l0 : Nat} {h : HP} {v : Int32} {h' : HP} (hs : sX11_lonely F l0 h = some (v, h')) : MI w l yX11_lonely cX11_lonely 5 .int rm_X11_lonely 0 0 [rf w (some l0)] h v h' := by
  refine of_body [(0, rf w (some l0))] (by decide) (by simp [lg_sl, rf_cat, cat_i, cat_l, cat_a]) (by simp [lv_args, rf_cat, cat_i, cat_l, cat_a]) ?_
  intro x hw_ hnL_ hl_ hc hret hnm hQ
  subst hw_; subst hl_
  have hnl : ∀ i, i < 5 → i < x.nL := fun i h => by rw [hnL_]; exact h
  have hw : wpO (sX11_lonely F l0 h) (fun r => r = (v, h')) := ⟨_, hs, rfl⟩
  unfold sX11_lonely at hw
  refine R_aload_n (q := 0) (i := 0) (v := (some l0)) hc dX11_lonely_0 rfl rfl ?_
  refine R_iconst (v := (0 : Int32)) hc dX11_lonely_1 kI_0 ?_
  refine R_putI hc pl_11_100 rfl rfl dX11_lonely_2 hw (fun h1 hw => ?_)
  refine R_iconst (v := (0 : Int32)) hc dX11_lonely_5 kI_0 ?_
  refine R_istore_n (i := 1) (v := (0 : Int32)) hc [(1, .int (0 : Int32)), (0, rf x.w (some l0))] dX11_lonely_6 rfl (hnl 1 (le_b rfl)) rfl ?_
  refine R_iconst (v := (0 : Int32)) hc dX11_lonely_7 kI_0 ?_
  refine R_istore_n (i := 2) (v := (0 : Int32)) hc [(2, .int (0 : Int32)), (1, .int (0 : Int32)), (0, rf x.w (some l0))] dX11_lonely_8 rfl (hnl 2 (le_b rfl)) rfl ?_
  refine R_sub hc [2, 1, 0] rfl ?_
  refine R_loop (P := fun (s : (Int32 × Int32)) => Rn x 0 0 9 [(0, rf x.w (some l0)), (1, .int s.1), (2, .int s.2)] [] h1) (fun l1_16 => Rn x 0 0 93 [(1, .int l1_16)] [] h1) hw (fun r hw => ?_) (fun X hX s hw => ?_)
  · revert r hw
    intro l1_16 hw
    show Rn x 0 0 93 [(1, .int l1_16)] [] h1
    refine R_iload_n (q := 0) (i := 1) (v := l1_16) hc dX11_lonely_93 rfl rfl ?_
    exact R_ireturn hc hret rfl hQ hw dX11_lonely_94
  · obtain ⟨l1_18, l2_19⟩ := s
    show Rn x 0 0 9 [(0, rf x.w (some l0)), (1, .int l1_18), (2, .int l2_19)] [] h1
    have hw : wpO (sX11_lonely_L9 F l0 l1_18 l2_19 h1) _ := hw
    unfold sX11_lonely_L9 at hw
    refine R_iload_n (q := 2) (i := 2) (v := l2_19) hc dX11_lonely_9 rfl rfl ?_
    refine R_aload_n (q := 0) (i := 0) (v := (some l0)) hc dX11_lonely_10 rfl rfl ?_
    refine R_cVI (As := []) (rest := [.int l2_19]) (r := (some l0)) (ci := 11) hc ml_11_103 mf_X11_fingers rfl (by decide) ⟨rfl, rfl⟩ ⟨le_b rfl, le_b rfl⟩ ⟨Nat.zero_le _, Nat.zero_le _⟩ (fun a v e => mt_X11_fingers e) rfl rfl (le_b rfl) dX11_lonely_11 hw (fun t3 hw => ?_)
    refine R_icmp_ge (tgt := 93) hc dX11_lonely_14 (by decide) hw (fun hw => ?_) (fun hw => ?_)
    · refine R_sub hc [1] rfl ?_
      exact (wpO_some hw :)
    · refine R_iconst (v := (1 : Int32)) hc dX11_lonely_17 kI_1 ?_
      refine R_istore_n (i := 3) (v := (1 : Int32)) hc [(3, .int (1 : Int32)), (0, rf x.w (some l0)), (1, .int l1_18), (2, .int l2_19)] dX11_lonely_18 rfl (hnl 3 (le_b rfl)) rfl ?_
      refine R_iconst (v := (0 : Int32)) hc dX11_lonely_19 kI_0 ?_
      refine R_istore (i := 4) (v := (0 : Int32)) hc [(4, .int (0 : Int32)), (3, .int (1 : Int32)), (0, rf x.w (some l0)), (1, .int l1_18), (2, .int l2_19)] dX11_lonely_20 (hnl 4 (le_b rfl)) rfl ?_
      refine R_sub hc [2, 3, 4, 1, 0] rfl ?_
      refine R_loop (P := fun (s : (Int32 × Int32)) => Rn x 0 0 22 [(0, rf x.w (some l0)), (1, .int l1_18), (2, .int l2_19), (3, .int s.1), (4, .int s.2)] [] h1) (fun l3_10 => Rn x 0 0 73 [(0, rf x.w (some l0)), (1, .int l1_18), (2, .int l2_19), (3, .int l3_10)] [] h1) hw (fun r hw => ?_) (fun X hX s hw => ?_)
      · revert r hw
        intro l3_10 hw
        show Rn x 0 0 73 [(0, rf x.w (some l0)), (1, .int l1_18), (2, .int l2_19), (3, .int l3_10)] [] h1
        refine R_iload_n (q := 1) (i := 1) (v := l1_18) hc dX11_lonely_73 rfl rfl ?_
        refine R_iload_n (q := 3) (i := 3) (v := l3_10) hc dX11_lonely_74 rfl rfl ?_
        refine R_if_eq (tgt := 84) hc dX11_lonely_75 (by decide) hw (fun hw => ?_) (fun hw => ?_)
        · refine R_iconst (v := (0 : Int32)) hc dX11_lonely_84 kI_0 ?_
          refine R_ior hc dX11_lonely_85 ?_
          refine R_nmI hw (fun l1_11 hw => ?_)
          refine R_istore_n (i := 1) (v := l1_11) hc [(1, .int l1_11), (0, rf x.w (some l0)), (2, .int l2_19), (3, .int l3_10)] dX11_lonely_86 rfl (hnl 1 (le_b rfl)) rfl ?_
          refine R_iinc (q := 2) (i := 2) (v := l2_19) hc [(2, .int (l2_19 + (1 : Int32))), (1, .int l1_11), (0, rf x.w (some l0)), (3, .int l3_10)] dX11_lonely_87 rfl (kC_1 _) (hnl 2 (le_b rfl)) rfl ?_
          refine R_goto (tgt := 9) hc dX11_lonely_90 (by decide) ?_
          refine R_sub hc [2, 1, 0] rfl ?_
          exact hX (l1_11, l2_19 + (1 : Int32)) (wpO_some hw :)
        · refine R_iconst (v := (1 : Int32)) hc dX11_lonely_78 kI_1 ?_
          refine R_iload_n (q := 2) (i := 2) (v := l2_19) hc dX11_lonely_79 rfl rfl ?_
          refine R_ishl hc dX11_lonely_80 ?_
          refine R_goto (tgt := 85) hc dX11_lonely_81 (by decide) ?_
          refine R_ior hc dX11_lonely_85 ?_
          refine R_nmI hw (fun l1_12 hw => ?_)
          refine R_istore_n (i := 1) (v := l1_12) hc [(1, .int l1_12), (0, rf x.w (some l0)), (2, .int l2_19), (3, .int l3_10)] dX11_lonely_86 rfl (hnl 1 (le_b rfl)) rfl ?_
          refine R_iinc (q := 2) (i := 2) (v := l2_19) hc [(2, .int (l2_19 + (1 : Int32))), (1, .int l1_12), (0, rf x.w (some l0)), (3, .int l3_10)] dX11_lonely_87 rfl (kC_1 _) (hnl 2 (le_b rfl)) rfl ?_
          refine R_goto (tgt := 9) hc dX11_lonely_90 (by decide) ?_
          refine R_sub hc [2, 1, 0] rfl ?_
          exact hX (l1_12, l2_19 + (1 : Int32)) (wpO_some hw :)
      · obtain ⟨l3_14, l4_15⟩ := s
        show Rn x 0 0 22 [(0, rf x.w (some l0)), (1, .int l1_18), (2, .int l2_19), (3, .int l3_14), (4, .int l4_15)] [] h1
        have hw : wpO (sX11_lonely_L22 F l0 l1_18 l2_19 l3_14 l4_15 h1) _ := hw
        unfold sX11_lonely_L22 at hw
        refine R_iload (q := 4) (i := 4) (v := l4_15) hc dX11_lonely_22 rfl ?_
        refine R_aload_n (q := 0) (i := 0) (v := (some l0)) hc dX11_lonely_24 rfl rfl ?_
        refine R_cVI (As := []) (rest := [.int l4_15]) (r := (some l0)) (ci := 11) hc ml_11_103 mf_X11_fingers rfl (by decide) ⟨rfl, rfl⟩ ⟨le_b rfl, le_b rfl⟩ ⟨Nat.zero_le _, Nat.zero_le _⟩ (fun a v e => mt_X11_fingers e) rfl rfl (le_b rfl) dX11_lonely_25 hw (fun t5 hw => ?_)
        refine R_icmp_ge (tgt := 73) hc dX11_lonely_28 (by decide) hw (fun hw => ?_) (fun hw => ?_)
        · refine R_sub hc [0, 1, 2, 3] rfl ?_
          exact (wpO_some hw :)
        · refine R_iload_n (q := 3) (i := 3) (v := l3_14) hc dX11_lonely_31 rfl rfl ?_
          refine R_if_eq (tgt := 65) hc dX11_lonely_32 (by decide) hw (fun hw => ?_) (fun hw => ?_)
          · refine R_iconst (v := (0 : Int32)) hc dX11_lonely_65 kI_0 ?_
            refine R_istore_n (i := 3) (v := (0 : Int32)) hc [(3, .int (0 : Int32)), (0, rf x.w (some l0)), (1, .int l1_18), (2, .int l2_19), (4, .int l4_15)] dX11_lonely_66 rfl (hnl 3 (le_b rfl)) rfl ?_
            refine R_iinc (q := 4) (i := 4) (v := l4_15) hc [(4, .int (l4_15 + (1 : Int32))), (3, .int (0 : Int32)), (0, rf x.w (some l0)), (1, .int l1_18), (2, .int l2_19)] dX11_lonely_67 rfl (kC_1 _) (hnl 4 (le_b rfl)) rfl ?_
            refine R_goto (tgt := 22) hc dX11_lonely_70 (by decide) ?_
            refine R_sub hc [2, 3, 4, 1, 0] rfl ?_
            exact hX ((0 : Int32), l4_15 + (1 : Int32)) (wpO_some hw :)
          · refine R_iload_n (q := 2) (i := 2) (v := l2_19) hc dX11_lonely_35 rfl rfl ?_
            refine R_iload (q := 4) (i := 4) (v := l4_15) hc dX11_lonely_36 rfl ?_
            refine R_icmp_eq (tgt := 61) hc dX11_lonely_38 (by decide) hw (fun hw => ?_) (fun hw => ?_)
            · refine R_iconst (v := (1 : Int32)) hc dX11_lonely_61 kI_1 ?_
              refine R_goto (tgt := 66) hc dX11_lonely_62 (by decide) ?_
              refine R_istore_n (i := 3) (v := (1 : Int32)) hc [(3, .int (1 : Int32)), (0, rf x.w (some l0)), (1, .int l1_18), (2, .int l2_19), (4, .int l4_15)] dX11_lonely_66 rfl (hnl 3 (le_b rfl)) rfl ?_
              refine R_iinc (q := 4) (i := 4) (v := l4_15) hc [(4, .int (l4_15 + (1 : Int32))), (3, .int (1 : Int32)), (0, rf x.w (some l0)), (1, .int l1_18), (2, .int l2_19)] dX11_lonely_67 rfl (kC_1 _) (hnl 4 (le_b rfl)) rfl ?_
              refine R_goto (tgt := 22) hc dX11_lonely_70 (by decide) ?_
              refine R_sub hc [2, 3, 4, 1, 0] rfl ?_
              exact hX ((1 : Int32), l4_15 + (1 : Int32)) (wpO_some hw :)
            · refine R_aload_n (q := 0) (i := 0) (v := (some l0)) hc dX11_lonely_41 rfl rfl ?_
              refine R_iload_n (q := 2) (i := 2) (v := l2_19) hc dX11_lonely_42 rfl rfl ?_
              refine R_iload (q := 4) (i := 4) (v := l4_15) hc dX11_lonely_43 rfl ?_
              refine R_cVI (As := [.int l2_19, .int l4_15]) (rest := []) (r := (some l0)) (ci := 11) hc ml_11_360 mf_X11_canJoin rfl (by decide) ⟨rfl, rfl⟩ ⟨le_b rfl, le_b rfl⟩ ⟨Nat.zero_le _, Nat.zero_le _⟩ (fun a v e => mt_X11_canJoin e) rfl rfl (Nat.zero_le _) dX11_lonely_45 hw (fun t7 hw => ?_)
              refine R_if_ne (tgt := 65) hc dX11_lonely_48 (by decide) hw (fun hw => ?_) (fun hw => ?_)
              · refine R_iconst (v := (0 : Int32)) hc dX11_lonely_65 kI_0 ?_
                refine R_istore_n (i := 3) (v := (0 : Int32)) hc [(3, .int (0 : Int32)), (0, rf x.w (some l0)), (1, .int l1_18), (2, .int l2_19), (4, .int l4_15)] dX11_lonely_66 rfl (hnl 3 (le_b rfl)) rfl ?_
                refine R_iinc (q := 4) (i := 4) (v := l4_15) hc [(4, .int (l4_15 + (1 : Int32))), (3, .int (0 : Int32)), (0, rf x.w (some l0)), (1, .int l1_18), (2, .int l2_19)] dX11_lonely_67 rfl (kC_1 _) (hnl 4 (le_b rfl)) rfl ?_
                refine R_goto (tgt := 22) hc dX11_lonely_70 (by decide) ?_
                refine R_sub hc [2, 3, 4, 1, 0] rfl ?_
                exact hX ((0 : Int32), l4_15 + (1 : Int32)) (wpO_some hw :)
              · refine R_aload_n (q := 0) (i := 0) (v := (some l0)) hc dX11_lonely_51 rfl rfl ?_
                refine R_iload (q := 4) (i := 4) (v := l4_15) hc dX11_lonely_52 rfl ?_
                refine R_iload_n (q := 2) (i := 2) (v := l2_19) hc dX11_lonely_54 rfl rfl ?_
                refine R_cVI (As := [.int l4_15, .int l2_19]) (rest := []) (r := (some l0)) (ci := 11) hc ml_11_360 mf_X11_canJoin rfl (by decide) ⟨rfl, rfl⟩ ⟨le_b rfl, le_b rfl⟩ ⟨Nat.zero_le _, Nat.zero_le _⟩ (fun a v e => mt_X11_canJoin e) rfl rfl (Nat.zero_le _) dX11_lonely_55 hw (fun t9 hw => ?_)
                refine R_if_ne (tgt := 65) hc dX11_lonely_58 (by decide) hw (fun hw => ?_) (fun hw => ?_)
                · refine R_iconst (v := (0 : Int32)) hc dX11_lonely_65 kI_0 ?_
                  refine R_istore_n (i := 3) (v := (0 : Int32)) hc [(3, .int (0 : Int32)), (0, rf x.w (some l0)), (1, .int l1_18), (2, .int l2_19), (4, .int l4_15)] dX11_lonely_66 rfl (hnl 3 (le_b rfl)) rfl ?_
                  refine R_iinc (q := 4) (i := 4) (v := l4_15) hc [(4, .int (l4_15 + (1 : Int32))), (3, .int (0 : Int32)), (0, rf x.w (some l0)), (1, .int l1_18), (2, .int l2_19)] dX11_lonely_67 rfl (kC_1 _) (hnl 4 (le_b rfl)) rfl ?_
                  refine R_goto (tgt := 22) hc dX11_lonely_70 (by decide) ?_
                  refine R_sub hc [2, 3, 4, 1, 0] rfl ?_
                  exact hX ((0 : Int32), l4_15 + (1 : Int32)) (wpO_some hw :)
                · refine R_iconst (v := (1 : Int32)) hc dX11_lonely_61 kI_1 ?_
                  refine R_goto (tgt := 66) hc dX11_lonely_62 (by decide) ?_
                  refine R_istore_n (i := 3) (v := (1 : Int32)) hc [(3, .int (1 : Int32)), (0, rf x.w (some l0)), (1, .int l1_18), (2, .int l2_19), (4, .int l4_15)] dX11_lonely_66 rfl (hnl 3 (le_b rfl)) rfl ?_
                  refine R_iinc (q := 4) (i := 4) (v := l4_15) hc [(4, .int (l4_15 + (1 : Int32))), (3, .int (1 : Int32)), (0, rf x.w (some l0)), (1, .int l1_18), (2, .int l2_19)] dX11_lonely_67 rfl (kC_1 _) (hnl 4 (le_b rfl)) rfl ?_
                  refine R_goto (tgt := 22) hc dX11_lonely_70 (by decide) ?_
                  refine R_sub hc [2, 3, 4, 1, 0] rfl ?_
                  exact hX ((1 : Int32), l4_15 + (1 : Int32)) (wpO_some hw :)
theorem dX11_copies_0 : decode cX11_copies 0 = .ok (.iconst 0, 1) := by decide +kernel
theorem dX11_copies_1 : decode cX11_copies 1 = .ok (.istore 5, 2) := by decide +kernel
theorem dX11_copies_3 : decode cX11_copies 3 = .ok (.iload 5, 2) := by decide +kernel
theorem dX11_copies_5 : decode cX11_copies 5 = .ok (.bipush 16, 2) := by decide +kernel
theorem dX11_copies_7 : decode cX11_copies 7 = .ok (.if_icmp .ge 22, 3) := by decide +kernel
theorem dX11_copies_10 : decode cX11_copies 10 = .ok (.aload_n 3, 1) := by decide +kernel
theorem dX11_copies_11 : decode cX11_copies 11 = .ok (.iload 4, 2) := by decide +kernel
theorem dX11_copies_13 : decode cX11_copies 13 = .ok (.iload 5, 2) := by decide +kernel
theorem dX11_copies_15 : decode cX11_copies 15 = .ok (.iadd, 1) := by decide +kernel
theorem dX11_copies_16 : decode cX11_copies 16 = .ok (.aload_n 1, 1) := by decide +kernel
theorem dX11_copies_17 : decode cX11_copies 17 = .ok (.iload_n 2, 1) := by decide +kernel
theorem dX11_copies_18 : decode cX11_copies 18 = .ok (.iload 5, 2) := by decide +kernel
theorem dX11_copies_20 : decode cX11_copies 20 = .ok (.iadd, 1) := by decide +kernel
theorem dX11_copies_21 : decode cX11_copies 21 = .ok (.iaload, 1) := by decide +kernel
theorem dX11_copies_22 : decode cX11_copies 22 = .ok (.iastore, 1) := by decide +kernel
theorem dX11_copies_23 : decode cX11_copies 23 = .ok (.iinc 5 1, 3) := by decide +kernel
theorem dX11_copies_26 : decode cX11_copies 26 = .ok (.goto (-23), 3) := by decide +kernel
theorem dX11_copies_29 : decode cX11_copies 29 = .ok (.return_, 1) := by decide +kernel
def sX11_copies_L3 (F : Nat) (l1 : Option Nat) (l2 : Int32) (l3 : Option Nat) (l4 : Int32) (l5 : Int32) (h : HP) : Option ((Int32 × HP) ⊕ HP) :=
  if (16 : Int32) ≤ l5 then
    some (.inr h)
  else
    (aI h 13 l1 (l2 + l5)).bind fun t1 =>
    (sI h l3 (l4 + l5) t1).bind fun h2 =>
    some (.inl (l5 + (1 : Int32), h2))
def sX11_copies (F : Nat) (l0 : Nat) (l1 : Option Nat) (l2 : Int32) (l3 : Option Nat) (l4 : Int32) (h : HP) : Option HP :=
  (iter (fun s => sX11_copies_L3 F l1 l2 l3 l4 s.1 s.2) F ((0 : Int32), h)).bind fun h3 =>
    some h3
abbrev rm_X11_copies : Room := { frames := 0, cells := 0, slots := 0, locals := 0 }
set_option maxRecDepth 100000 in
set_option maxHeartbeats 4000000 in
theorem mt_X11_copies {w : WD} {l : Launch} {F : Nat} {l0 : Nat} {l1 : Option Nat} {l2 : Int32} {l3 : Option Nat} {l4 : Int32} {h : HP} {h' : HP} (hs : sX11_copies F l0 l1 l2 l3 l4 h = some h') : MV w l yX11_copies cX11_copies 6 rm_X11_copies 0 0 [rf w (some l0), rf w l1, .int l2, rf w l3, .int l4] h h' := by
  refine of_body [(0, rf w (some l0)), (1, rf w l1), (2, .int l2), (3, rf w l3), (4, .int l4)] (by decide) (by simp [lg_sl, rf_cat, cat_i, cat_l, cat_a]) (by simp [lv_args, rf_cat, cat_i, cat_l, cat_a]) ?_
  intro x hw_ hnL_ hl_ hc hret hnm hQ
  subst hw_; subst hl_
  have hnl : ∀ i, i < 6 → i < x.nL := fun i h => by rw [hnL_]; exact h
  have hw : wpO (sX11_copies F l0 l1 l2 l3 l4 h) (fun r => r = h') := ⟨_, hs, rfl⟩
  unfold sX11_copies at hw
  refine R_iconst (v := (0 : Int32)) hc dX11_copies_0 kI_0 ?_
  refine R_istore (i := 5) (v := (0 : Int32)) hc [(5, .int (0 : Int32)), (0, rf x.w (some l0)), (1, rf x.w l1), (2, .int l2), (3, rf x.w l3), (4, .int l4)] dX11_copies_1 (hnl 5 (le_b rfl)) rfl ?_
  refine R_sub hc [2, 3, 4, 5, 0] rfl ?_
  refine R_loop (P := fun (s : (Int32 × HP)) => Rn x 0 0 3 [(1, rf x.w l1), (2, .int l2), (3, rf x.w l3), (4, .int l4), (5, .int s.1)] [] s.2) (fun h3 => Rn x 0 0 29 [] [] h3) hw (fun r hw => ?_) (fun X hX s hw => ?_)
  · revert r hw
    intro h3 hw
    show Rn x 0 0 29 [] [] h3
    exact R_return hc hret hQ hw dX11_copies_29
  · obtain ⟨l5_5, h6⟩ := s
    show Rn x 0 0 3 [(1, rf x.w l1), (2, .int l2), (3, rf x.w l3), (4, .int l4), (5, .int l5_5)] [] h6
    have hw : wpO (sX11_copies_L3 F l1 l2 l3 l4 l5_5 h6) _ := hw
    unfold sX11_copies_L3 at hw
    refine R_iload (q := 4) (i := 5) (v := l5_5) hc dX11_copies_3 rfl ?_
    refine R_bipush (v := (16 : Int32)) hc dX11_copies_5 kB_16 ?_
    refine R_icmp_ge (tgt := 29) hc dX11_copies_7 (by decide) hw (fun hw => ?_) (fun hw => ?_)
    · refine R_sub hc [] rfl ?_
      exact (wpO_some hw :)
    · refine R_aload_n (q := 2) (i := 3) (v := l3) hc dX11_copies_10 rfl rfl ?_
      refine R_iload (q := 3) (i := 4) (v := l4) hc dX11_copies_11 rfl ?_
      refine R_iload (q := 4) (i := 5) (v := l5_5) hc dX11_copies_13 rfl ?_
      refine R_iadd hc dX11_copies_15 ?_
      refine R_aload_n (q := 0) (i := 1) (v := l1) hc dX11_copies_16 rfl rfl ?_
      refine R_iload_n (q := 1) (i := 2) (v := l2) hc dX11_copies_17 rfl rfl ?_
      refine R_iload (q := 4) (i := 5) (v := l5_5) hc dX11_copies_18 rfl ?_
      refine R_iadd hc dX11_copies_20 ?_
      refine R_iaload hc dX11_copies_21 hw (fun t1 hw => ?_)
      refine R_iastore hc dX11_copies_22 hw (fun h2 hw => ?_)
      refine R_iinc (q := 4) (i := 5) (v := l5_5) hc [(5, .int (l5_5 + (1 : Int32))), (1, rf x.w l1), (2, .int l2), (3, rf x.w l3), (4, .int l4)] dX11_copies_23 rfl (kC_1 _) (hnl 5 (le_b rfl)) rfl ?_
      refine R_goto (tgt := 3) hc dX11_copies_26 (by decide) ?_
      refine R_sub hc [1, 2, 3, 4, 0] rfl ?_
      exact hX (l5_5 + (1 : Int32), h2) (wpO_some hw :)
theorem dX11_remembers_0 : decode cX11_remembers 0 = .ok (.aload_n 0, 1) := by decide +kernel
theorem dX11_remembers_1 : decode cX11_remembers 1 = .ok (.getfield 288, 3) := by decide +kernel
theorem dX11_remembers_4 : decode cX11_remembers 4 = .ok (.bipush 8, 2) := by decide +kernel
theorem dX11_remembers_6 : decode cX11_remembers 6 = .ok (.if_icmp .ne 42, 3) := by decide +kernel
theorem dX11_remembers_9 : decode cX11_remembers 9 = .ok (.iconst 0, 1) := by decide +kernel
theorem dX11_remembers_10 : decode cX11_remembers 10 = .ok (.istore_n 1, 1) := by decide +kernel
theorem dX11_remembers_11 : decode cX11_remembers 11 = .ok (.iload_n 1, 1) := by decide +kernel
theorem dX11_remembers_12 : decode cX11_remembers 12 = .ok (.bipush 112, 2) := by decide +kernel
theorem dX11_remembers_14 : decode cX11_remembers 14 = .ok (.if_icmp .ge 24, 3) := by decide +kernel
theorem dX11_remembers_17 : decode cX11_remembers 17 = .ok (.aload_n 0, 1) := by decide +kernel
theorem dX11_remembers_18 : decode cX11_remembers 18 = .ok (.getfield 13, 3) := by decide +kernel
theorem dX11_remembers_21 : decode cX11_remembers 21 = .ok (.iload_n 1, 1) := by decide +kernel
theorem dX11_remembers_22 : decode cX11_remembers 22 = .ok (.aload_n 0, 1) := by decide +kernel
theorem dX11_remembers_23 : decode cX11_remembers 23 = .ok (.getfield 13, 3) := by decide +kernel
theorem dX11_remembers_26 : decode cX11_remembers 26 = .ok (.iload_n 1, 1) := by decide +kernel
theorem dX11_remembers_27 : decode cX11_remembers 27 = .ok (.bipush 16, 2) := by decide +kernel
theorem dX11_remembers_29 : decode cX11_remembers 29 = .ok (.iadd, 1) := by decide +kernel
theorem dX11_remembers_30 : decode cX11_remembers 30 = .ok (.iaload, 1) := by decide +kernel
theorem dX11_remembers_31 : decode cX11_remembers 31 = .ok (.iastore, 1) := by decide +kernel
theorem dX11_remembers_32 : decode cX11_remembers 32 = .ok (.iinc 1 1, 3) := by decide +kernel
theorem dX11_remembers_35 : decode cX11_remembers 35 = .ok (.goto (-24), 3) := by decide +kernel
theorem dX11_remembers_38 : decode cX11_remembers 38 = .ok (.aload_n 0, 1) := by decide +kernel
theorem dX11_remembers_39 : decode cX11_remembers 39 = .ok (.dup, 1) := by decide +kernel
theorem dX11_remembers_40 : decode cX11_remembers 40 = .ok (.getfield 288, 3) := by decide +kernel
theorem dX11_remembers_43 : decode cX11_remembers 43 = .ok (.iconst 1, 1) := by decide +kernel
theorem dX11_remembers_44 : decode cX11_remembers 44 = .ok (.isub, 1) := by decide +kernel
theorem dX11_remembers_45 : decode cX11_remembers 45 = .ok (.putfield 288, 3) := by decide +kernel
theorem dX11_remembers_48 : decode cX11_remembers 48 = .ok (.aload_n 0, 1) := by decide +kernel
theorem dX11_remembers_49 : decode cX11_remembers 49 = .ok (.aload_n 0, 1) := by decide +kernel
theorem dX11_remembers_50 : decode cX11_remembers 50 = .ok (.getfield 7, 3) := by decide +kernel
theorem dX11_remembers_53 : decode cX11_remembers 53 = .ok (.bipush 81, 2) := by decide +kernel
theorem dX11_remembers_55 : decode cX11_remembers 55 = .ok (.aload_n 0, 1) := by decide +kernel
theorem dX11_remembers_56 : decode cX11_remembers 56 = .ok (.getfield 13, 3) := by decide +kernel
theorem dX11_remembers_59 : decode cX11_remembers 59 = .ok (.bipush 16, 2) := by decide +kernel
theorem dX11_remembers_61 : decode cX11_remembers 61 = .ok (.aload_n 0, 1) := by decide +kernel
theorem dX11_remembers_62 : decode cX11_remembers 62 = .ok (.getfield 288, 3) := by decide +kernel
theorem dX11_remembers_65 : decode cX11_remembers 65 = .ok (.imul, 1) := by decide +kernel
theorem dX11_remembers_66 : decode cX11_remembers 66 = .ok (.invokevirtual 363, 3) := by decide +kernel
theorem dX11_remembers_69 : decode cX11_remembers 69 = .ok (.aload_n 0, 1) := by decide +kernel
theorem dX11_remembers_70 : decode cX11_remembers 70 = .ok (.dup, 1) := by decide +kernel
theorem dX11_remembers_71 : decode cX11_remembers 71 = .ok (.getfield 288, 3) := by decide +kernel
theorem dX11_remembers_74 : decode cX11_remembers 74 = .ok (.iconst 1, 1) := by decide +kernel
theorem dX11_remembers_75 : decode cX11_remembers 75 = .ok (.iadd, 1) := by decide +kernel
theorem dX11_remembers_76 : decode cX11_remembers 76 = .ok (.putfield 288, 3) := by decide +kernel
theorem dX11_remembers_79 : decode cX11_remembers 79 = .ok (.return_, 1) := by decide +kernel
def sX11_remembers_L11 (F : Nat) (l0 : Nat) (l1 : Int32) (h : HP) : Option ((Int32 × HP) ⊕ HP) :=
  if (112 : Int32) ≤ l1 then
    some (.inr h)
  else
    (gR h 11 (some l0) 2).bind fun t3 =>
    (gR h 11 (some l0) 2).bind fun t4 =>
    (aI h 13 t4 (l1 + (16 : Int32))).bind fun t5 =>
    (sI h t3 l1 t5).bind fun h6 =>
    some (.inl (l1 + (1 : Int32), h6))
def sX11_remembers (F : Nat) (l0 : Nat) (h : HP) : Option HP :=
  (gI h 11 (some l0) 3).bind fun t1 =>
  (if ¬ t1 = (8 : Int32) then
      some h
    else
      (iter (fun s => sX11_remembers_L11 F l0 s.1 s.2) F ((0 : Int32), h)).bind fun h7 =>
        (gI h7 11 (some l0) 3).bind fun t8 =>
        (pI h7 11 (some l0) 3 (t8 - (1 : Int32))).bind fun h9 =>
        some h9).bind fun h2 =>
  (gR h2 11 (some l0) 1).bind fun t13 =>
  (gR h2 11 (some l0) 2).bind fun t14 =>
  (gI h2 11 (some l0) 3).bind fun t15 =>
  (dO h2 11 (some l0)).bind fun a16 =>
  (sX11_copies F a16 t13 (81 : Int32) t14 ((16 : Int32) * t15) h2).bind fun h17 =>
  (gI h17 11 (some l0) 3).bind fun t18 =>
  (pI h17 11 (some l0) 3 (t18 + (1 : Int32))).bind fun h19 =>
  some h19
abbrev rm_X11_remembers : Room := { frames := 1, cells := 0, slots := 0, locals := 25 }
set_option maxRecDepth 100000 in
set_option maxHeartbeats 4000000 in
theorem mt_X11_remembers {w : WD} {l : Launch} {F : Nat} {l0 : Nat} {h : HP} {h' : HP} (hs : sX11_remembers F l0 h = some h') : MV w l yX11_remembers cX11_remembers 2 rm_X11_remembers 0 0 [rf w (some l0)] h h' := by
  refine of_body [(0, rf w (some l0))] (by decide) (by simp [lg_sl, rf_cat, cat_i, cat_l, cat_a]) (by simp [lv_args, rf_cat, cat_i, cat_l, cat_a]) ?_
  intro x hw_ hnL_ hl_ hc hret hnm hQ
  subst hw_; subst hl_
  have hnl : ∀ i, i < 2 → i < x.nL := fun i h => by rw [hnL_]; exact h
  have hw : wpO (sX11_remembers F l0 h) (fun r => r = h') := ⟨_, hs, rfl⟩
  unfold sX11_remembers at hw
  refine R_aload_n (q := 0) (i := 0) (v := (some l0)) hc dX11_remembers_0 rfl rfl ?_
  refine R_getI hc fl_11_288 dX11_remembers_1 hw (fun t1 hw => ?_)
  refine R_bipush (v := (8 : Int32)) hc dX11_remembers_4 kB_8 ?_
  refine R_join (fun (h2 : HP) => Rn x 0 0 48 [(0, rf x.w (some l0))] [] h2) hw (fun r hw => ?_) (fun hw => ?_)
  · revert r hw
    intro h2 hw
    show Rn x 0 0 48 [(0, rf x.w (some l0))] [] h2
    refine R_aload_n (q := 0) (i := 0) (v := (some l0)) hc dX11_remembers_48 rfl rfl ?_
    refine R_aload_n (q := 0) (i := 0) (v := (some l0)) hc dX11_remembers_49 rfl rfl ?_
    refine R_getR hc fl_11_7 dX11_remembers_50 hw (fun t13 hw => ?_)
    refine R_bipush (v := (81 : Int32)) hc dX11_remembers_53 kB_81 ?_
    refine R_aload_n (q := 0) (i := 0) (v := (some l0)) hc dX11_remembers_55 rfl rfl ?_
    refine R_getR hc fl_11_13 dX11_remembers_56 hw (fun t14 hw => ?_)
    refine R_bipush (v := (16 : Int32)) hc dX11_remembers_59 kB_16 ?_
    refine R_aload_n (q := 0) (i := 0) (v := (some l0)) hc dX11_remembers_61 rfl rfl ?_
    refine R_getI hc fl_11_288 dX11_remembers_62 hw (fun t15 hw => ?_)
    refine R_imul hc dX11_remembers_65 ?_
    refine R_cVVi (As := [rf x.w t13, .int (81 : Int32), rf x.w t14, .int ((16 : Int32) * t15)]) (rest := []) (r := (some l0)) (ci := 11) hc ml_11_363 mf_X11_copies rfl (by decide) ⟨rfl, rfl⟩ ⟨le_b rfl, le_b rfl⟩ ⟨Nat.zero_le _, Nat.zero_le _⟩ (fun a h' e => mt_X11_copies e) rfl rfl (Nat.zero_le _) dX11_remembers_66 hw (fun h17 hw => ?_)
    refine R_aload_n (q := 0) (i := 0) (v := (some l0)) hc dX11_remembers_69 rfl rfl ?_
    refine R_dup hc dX11_remembers_70 (rf_cat _ _) ?_
    refine R_getI hc fl_11_288 dX11_remembers_71 hw (fun t18 hw => ?_)
    refine R_iconst (v := (1 : Int32)) hc dX11_remembers_74 kI_1 ?_
    refine R_iadd hc dX11_remembers_75 ?_
    refine R_putI hc pl_11_288 rfl rfl dX11_remembers_76 hw (fun h19 hw => ?_)
    exact R_return hc hret hQ hw dX11_remembers_79
  · refine R_icmp_ne (tgt := 48) hc dX11_remembers_6 (by decide) hw (fun hw => ?_) (fun hw => ?_)
    · refine R_sub hc [0] rfl ?_
      exact (wpO_some hw :)
    · refine R_iconst (v := (0 : Int32)) hc dX11_remembers_9 kI_0 ?_
      refine R_istore_n (i := 1) (v := (0 : Int32)) hc [(1, .int (0 : Int32)), (0, rf x.w (some l0))] dX11_remembers_10 rfl (hnl 1 (le_b rfl)) rfl ?_
      refine R_sub hc [1, 0] rfl ?_
      refine R_loop (P := fun (s : (Int32 × HP)) => Rn x 0 0 11 [(0, rf x.w (some l0)), (1, .int s.1)] [] s.2) (fun h7 => Rn x 0 0 38 [(0, rf x.w (some l0))] [] h7) hw (fun r hw => ?_) (fun X hX s hw => ?_)
      · revert r hw
        intro h7 hw
        show Rn x 0 0 38 [(0, rf x.w (some l0))] [] h7
        refine R_aload_n (q := 0) (i := 0) (v := (some l0)) hc dX11_remembers_38 rfl rfl ?_
        refine R_dup hc dX11_remembers_39 (rf_cat _ _) ?_
        refine R_getI hc fl_11_288 dX11_remembers_40 hw (fun t8 hw => ?_)
        refine R_iconst (v := (1 : Int32)) hc dX11_remembers_43 kI_1 ?_
        refine R_isub hc dX11_remembers_44 ?_
        refine R_putI hc pl_11_288 rfl rfl dX11_remembers_45 hw (fun h9 hw => ?_)
        refine R_sub hc [0] rfl ?_
        exact (wpO_some hw :)
      · obtain ⟨l1_11, h12⟩ := s
        show Rn x 0 0 11 [(0, rf x.w (some l0)), (1, .int l1_11)] [] h12
        have hw : wpO (sX11_remembers_L11 F l0 l1_11 h12) _ := hw
        unfold sX11_remembers_L11 at hw
        refine R_iload_n (q := 1) (i := 1) (v := l1_11) hc dX11_remembers_11 rfl rfl ?_
        refine R_bipush (v := (112 : Int32)) hc dX11_remembers_12 kB_112 ?_
        refine R_icmp_ge (tgt := 38) hc dX11_remembers_14 (by decide) hw (fun hw => ?_) (fun hw => ?_)
        · refine R_sub hc [0] rfl ?_
          exact (wpO_some hw :)
        · refine R_aload_n (q := 0) (i := 0) (v := (some l0)) hc dX11_remembers_17 rfl rfl ?_
          refine R_getR hc fl_11_13 dX11_remembers_18 hw (fun t3 hw => ?_)
          refine R_iload_n (q := 1) (i := 1) (v := l1_11) hc dX11_remembers_21 rfl rfl ?_
          refine R_aload_n (q := 0) (i := 0) (v := (some l0)) hc dX11_remembers_22 rfl rfl ?_
          refine R_getR hc fl_11_13 dX11_remembers_23 hw (fun t4 hw => ?_)
          refine R_iload_n (q := 1) (i := 1) (v := l1_11) hc dX11_remembers_26 rfl rfl ?_
          refine R_bipush (v := (16 : Int32)) hc dX11_remembers_27 kB_16 ?_
          refine R_iadd hc dX11_remembers_29 ?_
          refine R_iaload hc dX11_remembers_30 hw (fun t5 hw => ?_)
          refine R_iastore hc dX11_remembers_31 hw (fun h6 hw => ?_)
          refine R_iinc (q := 1) (i := 1) (v := l1_11) hc [(1, .int (l1_11 + (1 : Int32))), (0, rf x.w (some l0))] dX11_remembers_32 rfl (kC_1 _) (hnl 1 (le_b rfl)) rfl ?_
          refine R_goto (tgt := 11) hc dX11_remembers_35 (by decide) ?_
          refine R_sub hc [1, 0] rfl ?_
          exact hX (l1_11 + (1 : Int32), h6) (wpO_some hw :)
theorem dX11_moves_0 : decode cX11_moves 0 = .ok (.iload_n 2, 1) := by decide +kernel
theorem dX11_moves_1 : decode cX11_moves 1 = .ok (.iload_n 1, 1) := by decide +kernel
theorem dX11_moves_2 : decode cX11_moves 2 = .ok (.if_icmp .le 7, 3) := by decide +kernel
theorem dX11_moves_5 : decode cX11_moves 5 = .ok (.iconst 1, 1) := by decide +kernel
theorem dX11_moves_6 : decode cX11_moves 6 = .ok (.goto 4, 3) := by decide +kernel
theorem dX11_moves_9 : decode cX11_moves 9 = .ok (.iconst (-1), 1) := by decide +kernel
theorem dX11_moves_10 : decode cX11_moves 10 = .ok (.istore_n 3, 1) := by decide +kernel
theorem dX11_moves_11 : decode cX11_moves 11 = .ok (.aload_n 0, 1) := by decide +kernel
theorem dX11_moves_12 : decode cX11_moves 12 = .ok (.iload_n 1, 1) := by decide +kernel
theorem dX11_moves_13 : decode cX11_moves 13 = .ok (.invokevirtual 156, 3) := by decide +kernel
theorem dX11_moves_16 : decode cX11_moves 16 = .ok (.istore 4, 2) := by decide +kernel
theorem dX11_moves_18 : decode cX11_moves 18 = .ok (.aload_n 0, 1) := by decide +kernel
theorem dX11_moves_19 : decode cX11_moves 19 = .ok (.iload_n 1, 1) := by decide +kernel
theorem dX11_moves_20 : decode cX11_moves 20 = .ok (.invokevirtual 160, 3) := by decide +kernel
theorem dX11_moves_23 : decode cX11_moves 23 = .ok (.istore 5, 2) := by decide +kernel
theorem dX11_moves_25 : decode cX11_moves 25 = .ok (.iload_n 1, 1) := by decide +kernel
theorem dX11_moves_26 : decode cX11_moves 26 = .ok (.istore 6, 2) := by decide +kernel
theorem dX11_moves_28 : decode cX11_moves 28 = .ok (.iload 6, 2) := by decide +kernel
theorem dX11_moves_30 : decode cX11_moves 30 = .ok (.iload_n 2, 1) := by decide +kernel
theorem dX11_moves_31 : decode cX11_moves 31 = .ok (.if_icmp .eq 56, 3) := by decide +kernel
theorem dX11_moves_34 : decode cX11_moves 34 = .ok (.aload_n 0, 1) := by decide +kernel
theorem dX11_moves_35 : decode cX11_moves 35 = .ok (.getfield 7, 3) := by decide +kernel
theorem dX11_moves_38 : decode cX11_moves 38 = .ok (.bipush 81, 2) := by decide +kernel
theorem dX11_moves_40 : decode cX11_moves 40 = .ok (.iload 6, 2) := by decide +kernel
theorem dX11_moves_42 : decode cX11_moves 42 = .ok (.iadd, 1) := by decide +kernel
theorem dX11_moves_43 : decode cX11_moves 43 = .ok (.aload_n 0, 1) := by decide +kernel
theorem dX11_moves_44 : decode cX11_moves 44 = .ok (.getfield 7, 3) := by decide +kernel
theorem dX11_moves_47 : decode cX11_moves 47 = .ok (.bipush 81, 2) := by decide +kernel
theorem dX11_moves_49 : decode cX11_moves 49 = .ok (.iload 6, 2) := by decide +kernel
theorem dX11_moves_51 : decode cX11_moves 51 = .ok (.iadd, 1) := by decide +kernel
theorem dX11_moves_52 : decode cX11_moves 52 = .ok (.iload_n 3, 1) := by decide +kernel
theorem dX11_moves_53 : decode cX11_moves 53 = .ok (.iadd, 1) := by decide +kernel
theorem dX11_moves_54 : decode cX11_moves 54 = .ok (.iaload, 1) := by decide +kernel
theorem dX11_moves_55 : decode cX11_moves 55 = .ok (.iastore, 1) := by decide +kernel
theorem dX11_moves_56 : decode cX11_moves 56 = .ok (.aload_n 0, 1) := by decide +kernel
theorem dX11_moves_57 : decode cX11_moves 57 = .ok (.getfield 7, 3) := by decide +kernel
theorem dX11_moves_60 : decode cX11_moves 60 = .ok (.bipush 89, 2) := by decide +kernel
theorem dX11_moves_62 : decode cX11_moves 62 = .ok (.iload 6, 2) := by decide +kernel
theorem dX11_moves_64 : decode cX11_moves 64 = .ok (.iadd, 1) := by decide +kernel
theorem dX11_moves_65 : decode cX11_moves 65 = .ok (.aload_n 0, 1) := by decide +kernel
theorem dX11_moves_66 : decode cX11_moves 66 = .ok (.getfield 7, 3) := by decide +kernel
theorem dX11_moves_69 : decode cX11_moves 69 = .ok (.bipush 89, 2) := by decide +kernel
theorem dX11_moves_71 : decode cX11_moves 71 = .ok (.iload 6, 2) := by decide +kernel
theorem dX11_moves_73 : decode cX11_moves 73 = .ok (.iadd, 1) := by decide +kernel
theorem dX11_moves_74 : decode cX11_moves 74 = .ok (.iload_n 3, 1) := by decide +kernel
theorem dX11_moves_75 : decode cX11_moves 75 = .ok (.iadd, 1) := by decide +kernel
theorem dX11_moves_76 : decode cX11_moves 76 = .ok (.iaload, 1) := by decide +kernel
theorem dX11_moves_77 : decode cX11_moves 77 = .ok (.iastore, 1) := by decide +kernel
theorem dX11_moves_78 : decode cX11_moves 78 = .ok (.iload 6, 2) := by decide +kernel
theorem dX11_moves_80 : decode cX11_moves 80 = .ok (.iload_n 3, 1) := by decide +kernel
theorem dX11_moves_81 : decode cX11_moves 81 = .ok (.iadd, 1) := by decide +kernel
theorem dX11_moves_82 : decode cX11_moves 82 = .ok (.istore 6, 2) := by decide +kernel
theorem dX11_moves_84 : decode cX11_moves 84 = .ok (.goto (-56), 3) := by decide +kernel
theorem dX11_moves_87 : decode cX11_moves 87 = .ok (.aload_n 0, 1) := by decide +kernel
theorem dX11_moves_88 : decode cX11_moves 88 = .ok (.getfield 7, 3) := by decide +kernel
theorem dX11_moves_91 : decode cX11_moves 91 = .ok (.bipush 81, 2) := by decide +kernel
theorem dX11_moves_93 : decode cX11_moves 93 = .ok (.iload_n 2, 1) := by decide +kernel
theorem dX11_moves_94 : decode cX11_moves 94 = .ok (.iadd, 1) := by decide +kernel
theorem dX11_moves_95 : decode cX11_moves 95 = .ok (.iload 4, 2) := by decide +kernel
theorem dX11_moves_97 : decode cX11_moves 97 = .ok (.iastore, 1) := by decide +kernel
theorem dX11_moves_98 : decode cX11_moves 98 = .ok (.aload_n 0, 1) := by decide +kernel
theorem dX11_moves_99 : decode cX11_moves 99 = .ok (.getfield 7, 3) := by decide +kernel
theorem dX11_moves_102 : decode cX11_moves 102 = .ok (.bipush 89, 2) := by decide +kernel
theorem dX11_moves_104 : decode cX11_moves 104 = .ok (.iload_n 2, 1) := by decide +kernel
theorem dX11_moves_105 : decode cX11_moves 105 = .ok (.iadd, 1) := by decide +kernel
theorem dX11_moves_106 : decode cX11_moves 106 = .ok (.iload 5, 2) := by decide +kernel
theorem dX11_moves_108 : decode cX11_moves 108 = .ok (.iastore, 1) := by decide +kernel
theorem dX11_moves_109 : decode cX11_moves 109 = .ok (.return_, 1) := by decide +kernel
def sX11_moves_L28 (F : Nat) (l0 : Nat) (l2 : Int32) (l3 : Int32) (l4 : Int32) (l5 : Int32) (l6 : Int32) (h : HP) : Option ((Int32 × HP) ⊕ HP) :=
  if l6 = l2 then
    some (.inr h)
  else
    (gR h 11 (some l0) 1).bind fun t6 =>
    (gR h 11 (some l0) 1).bind fun t7 =>
    (aI h 13 t7 (((81 : Int32) + l6) + l3)).bind fun t8 =>
    (sI h t6 ((81 : Int32) + l6) t8).bind fun h9 =>
    (gR h9 11 (some l0) 1).bind fun t10 =>
    (gR h9 11 (some l0) 1).bind fun t11 =>
    (aI h9 13 t11 (((89 : Int32) + l6) + l3)).bind fun t12 =>
    (sI h9 t10 ((89 : Int32) + l6) t12).bind fun h13 =>
    nmI (l6 + l3) fun l6_14 =>
    some (.inl (l6_14, h13))
def sX11_moves (F : Nat) (l0 : Nat) (l1 : Int32) (l2 : Int32) (h : HP) : Option HP :=
  (if l2 ≤ l1 then
      some (-1 : Int32)
    else
      some (1 : Int32)).bind fun s1 =>
  (dO h 11 (some l0)).bind fun a2 =>
  (sX11_fingerAt F a2 l1 h).bind fun t3 =>
  (dO h 11 (some l0)).bind fun a4 =>
  (sX11_turnAt F a4 l1 h).bind fun t5 =>
  (iter (fun s => sX11_moves_L28 F l0 l2 s1 t3 t5 s.1 s.2) F (l1, h)).bind fun h15 =>
    (gR h15 11 (some l0) 1).bind fun t16 =>
    (sI h15 t16 ((81 : Int32) + l2) t3).bind fun h17 =>
    (gR h17 11 (some l0) 1).bind fun t18 =>
    (sI h17 t18 ((89 : Int32) + l2) t5).bind fun h19 =>
    some h19
abbrev rm_X11_moves : Room := { frames := 1, cells := 0, slots := 0, locals := 21 }
set_option maxRecDepth 100000 in
set_option maxHeartbeats 4000000 in
theorem mt_X11_moves {w : WD} {l : Launch} {F : Nat} {l0 : Nat} {l1 : Int32} {l2 : Int32} {h : HP} {h' : HP} (hs : sX11_moves F l0 l1 l2 h = some h') : MV w l yX11_moves cX11_moves 7 rm_X11_moves 0 0 [rf w (some l0), .int l1, .int l2] h h' := by
  refine of_body [(0, rf w (some l0)), (1, .int l1), (2, .int l2)] (by decide) (by simp [lg_sl, rf_cat, cat_i, cat_l, cat_a]) (by simp [lv_args, rf_cat, cat_i, cat_l, cat_a]) ?_
  intro x hw_ hnL_ hl_ hc hret hnm hQ
  subst hw_; subst hl_
  have hnl : ∀ i, i < 7 → i < x.nL := fun i h => by rw [hnL_]; exact h
  have hw : wpO (sX11_moves F l0 l1 l2 h) (fun r => r = h') := ⟨_, hs, rfl⟩
  unfold sX11_moves at hw
  refine R_iload_n (q := 2) (i := 2) (v := l2) hc dX11_moves_0 rfl rfl ?_
  refine R_iload_n (q := 1) (i := 1) (v := l1) hc dX11_moves_1 rfl rfl ?_
  refine R_join (fun (s1 : Int32) => Rn x 0 0 10 [(0, rf x.w (some l0)), (1, .int l1), (2, .int l2)] [.int s1] h) hw (fun r hw => ?_) (fun hw => ?_)
  · revert r hw
    intro s1 hw
    show Rn x 0 0 10 [(0, rf x.w (some l0)), (1, .int l1), (2, .int l2)] [.int s1] h
    refine R_istore_n (i := 3) (v := s1) hc [(3, .int s1), (0, rf x.w (some l0)), (1, .int l1), (2, .int l2)] dX11_moves_10 rfl (hnl 3 (le_b rfl)) rfl ?_
    refine R_aload_n (q := 1) (i := 0) (v := (some l0)) hc dX11_moves_11 rfl rfl ?_
    refine R_iload_n (q := 2) (i := 1) (v := l1) hc dX11_moves_12 rfl rfl ?_
    refine R_cVI (As := [.int l1]) (rest := []) (r := (some l0)) (ci := 11) hc ml_11_156 mf_X11_fingerAt rfl (by decide) ⟨rfl, rfl⟩ ⟨le_b rfl, le_b rfl⟩ ⟨Nat.zero_le _, Nat.zero_le _⟩ (fun a v e => mt_X11_fingerAt e) rfl rfl (Nat.zero_le _) dX11_moves_13 hw (fun t3 hw => ?_)
    refine R_istore (i := 4) (v := t3) hc [(4, .int t3), (3, .int s1), (0, rf x.w (some l0)), (1, .int l1), (2, .int l2)] dX11_moves_16 (hnl 4 (le_b rfl)) rfl ?_
    refine R_aload_n (q := 2) (i := 0) (v := (some l0)) hc dX11_moves_18 rfl rfl ?_
    refine R_iload_n (q := 3) (i := 1) (v := l1) hc dX11_moves_19 rfl rfl ?_
    refine R_cVI (As := [.int l1]) (rest := []) (r := (some l0)) (ci := 11) hc ml_11_160 mf_X11_turnAt rfl (by decide) ⟨rfl, rfl⟩ ⟨le_b rfl, le_b rfl⟩ ⟨Nat.zero_le _, Nat.zero_le _⟩ (fun a v e => mt_X11_turnAt e) rfl rfl (Nat.zero_le _) dX11_moves_20 hw (fun t5 hw => ?_)
    refine R_istore (i := 5) (v := t5) hc [(5, .int t5), (4, .int t3), (3, .int s1), (0, rf x.w (some l0)), (1, .int l1), (2, .int l2)] dX11_moves_23 (hnl 5 (le_b rfl)) rfl ?_
    refine R_iload_n (q := 4) (i := 1) (v := l1) hc dX11_moves_25 rfl rfl ?_
    refine R_istore (i := 6) (v := l1) hc [(6, .int l1), (5, .int t5), (4, .int t3), (3, .int s1), (0, rf x.w (some l0)), (1, .int l1), (2, .int l2)] dX11_moves_26 (hnl 6 (le_b rfl)) rfl ?_
    refine R_sub hc [4, 6, 3, 2, 1, 0] rfl ?_
    refine R_loop (P := fun (s : (Int32 × HP)) => Rn x 0 0 28 [(0, rf x.w (some l0)), (2, .int l2), (3, .int s1), (4, .int t3), (5, .int t5), (6, .int s.1)] [] s.2) (fun h15 => Rn x 0 0 87 [(0, rf x.w (some l0)), (2, .int l2), (4, .int t3), (5, .int t5)] [] h15) hw (fun r hw => ?_) (fun X hX s hw => ?_)
    · revert r hw
      intro h15 hw
      show Rn x 0 0 87 [(0, rf x.w (some l0)), (2, .int l2), (4, .int t3), (5, .int t5)] [] h15
      refine R_aload_n (q := 0) (i := 0) (v := (some l0)) hc dX11_moves_87 rfl rfl ?_
      refine R_getR hc fl_11_7 dX11_moves_88 hw (fun t16 hw => ?_)
      refine R_bipush (v := (81 : Int32)) hc dX11_moves_91 kB_81 ?_
      refine R_iload_n (q := 1) (i := 2) (v := l2) hc dX11_moves_93 rfl rfl ?_
      refine R_iadd hc dX11_moves_94 ?_
      refine R_iload (q := 2) (i := 4) (v := t3) hc dX11_moves_95 rfl ?_
      refine R_iastore hc dX11_moves_97 hw (fun h17 hw => ?_)
      refine R_aload_n (q := 0) (i := 0) (v := (some l0)) hc dX11_moves_98 rfl rfl ?_
      refine R_getR hc fl_11_7 dX11_moves_99 hw (fun t18 hw => ?_)
      refine R_bipush (v := (89 : Int32)) hc dX11_moves_102 kB_89 ?_
      refine R_iload_n (q := 1) (i := 2) (v := l2) hc dX11_moves_104 rfl rfl ?_
      refine R_iadd hc dX11_moves_105 ?_
      refine R_iload (q := 3) (i := 5) (v := t5) hc dX11_moves_106 rfl ?_
      refine R_iastore hc dX11_moves_108 hw (fun h19 hw => ?_)
      exact R_return hc hret hQ hw dX11_moves_109
    · obtain ⟨l6_21, h22⟩ := s
      show Rn x 0 0 28 [(0, rf x.w (some l0)), (2, .int l2), (3, .int s1), (4, .int t3), (5, .int t5), (6, .int l6_21)] [] h22
      have hw : wpO (sX11_moves_L28 F l0 l2 s1 t3 t5 l6_21 h22) _ := hw
      unfold sX11_moves_L28 at hw
      refine R_iload (q := 5) (i := 6) (v := l6_21) hc dX11_moves_28 rfl ?_
      refine R_iload_n (q := 1) (i := 2) (v := l2) hc dX11_moves_30 rfl rfl ?_
      refine R_icmp_eq (tgt := 87) hc dX11_moves_31 (by decide) hw (fun hw => ?_) (fun hw => ?_)
      · refine R_sub hc [0, 1, 3, 4] rfl ?_
        exact (wpO_some hw :)
      · refine R_aload_n (q := 0) (i := 0) (v := (some l0)) hc dX11_moves_34 rfl rfl ?_
        refine R_getR hc fl_11_7 dX11_moves_35 hw (fun t6 hw => ?_)
        refine R_bipush (v := (81 : Int32)) hc dX11_moves_38 kB_81 ?_
        refine R_iload (q := 5) (i := 6) (v := l6_21) hc dX11_moves_40 rfl ?_
        refine R_iadd hc dX11_moves_42 ?_
        refine R_aload_n (q := 0) (i := 0) (v := (some l0)) hc dX11_moves_43 rfl rfl ?_
        refine R_getR hc fl_11_7 dX11_moves_44 hw (fun t7 hw => ?_)
        refine R_bipush (v := (81 : Int32)) hc dX11_moves_47 kB_81 ?_
        refine R_iload (q := 5) (i := 6) (v := l6_21) hc dX11_moves_49 rfl ?_
        refine R_iadd hc dX11_moves_51 ?_
        refine R_iload_n (q := 2) (i := 3) (v := s1) hc dX11_moves_52 rfl rfl ?_
        refine R_iadd hc dX11_moves_53 ?_
        refine R_iaload hc dX11_moves_54 hw (fun t8 hw => ?_)
        refine R_iastore hc dX11_moves_55 hw (fun h9 hw => ?_)
        refine R_aload_n (q := 0) (i := 0) (v := (some l0)) hc dX11_moves_56 rfl rfl ?_
        refine R_getR hc fl_11_7 dX11_moves_57 hw (fun t10 hw => ?_)
        refine R_bipush (v := (89 : Int32)) hc dX11_moves_60 kB_89 ?_
        refine R_iload (q := 5) (i := 6) (v := l6_21) hc dX11_moves_62 rfl ?_
        refine R_iadd hc dX11_moves_64 ?_
        refine R_aload_n (q := 0) (i := 0) (v := (some l0)) hc dX11_moves_65 rfl rfl ?_
        refine R_getR hc fl_11_7 dX11_moves_66 hw (fun t11 hw => ?_)
        refine R_bipush (v := (89 : Int32)) hc dX11_moves_69 kB_89 ?_
        refine R_iload (q := 5) (i := 6) (v := l6_21) hc dX11_moves_71 rfl ?_
        refine R_iadd hc dX11_moves_73 ?_
        refine R_iload_n (q := 2) (i := 3) (v := s1) hc dX11_moves_74 rfl rfl ?_
        refine R_iadd hc dX11_moves_75 ?_
        refine R_iaload hc dX11_moves_76 hw (fun t12 hw => ?_)
        refine R_iastore hc dX11_moves_77 hw (fun h13 hw => ?_)
        refine R_iload (q := 5) (i := 6) (v := l6_21) hc dX11_moves_78 rfl ?_
        refine R_iload_n (q := 2) (i := 3) (v := s1) hc dX11_moves_80 rfl rfl ?_
        refine R_iadd hc dX11_moves_81 ?_
        refine R_nmI hw (fun l6_14 hw => ?_)
        refine R_istore (i := 6) (v := l6_14) hc [(6, .int l6_14), (0, rf x.w (some l0)), (2, .int l2), (3, .int s1), (4, .int t3), (5, .int t5)] dX11_moves_82 (hnl 6 (le_b rfl)) rfl ?_
        refine R_goto (tgt := 28) hc dX11_moves_84 (by decide) ?_
        refine R_sub hc [1, 2, 3, 4, 5, 0] rfl ?_
        exact hX (l6_14, h13) (wpO_some hw :)
  · refine R_icmp_le (tgt := 9) hc dX11_moves_2 (by decide) hw (fun hw => ?_) (fun hw => ?_)
    · refine R_iconst (v := (-1 : Int32)) hc dX11_moves_9 kI_m1 ?_
      refine R_sub hc [0, 1, 2] rfl ?_
      exact (wpO_some hw :)
    · refine R_iconst (v := (1 : Int32)) hc dX11_moves_5 kI_1 ?_
      refine R_goto (tgt := 10) hc dX11_moves_6 (by decide) ?_
      refine R_sub hc [0, 1, 2] rfl ?_
      exact (wpO_some hw :)
theorem dX11_turn_0 : decode cX11_turn 0 = .ok (.aload_n 0, 1) := by decide +kernel
theorem dX11_turn_1 : decode cX11_turn 1 = .ok (.aload_n 0, 1) := by decide +kernel
theorem dX11_turn_2 : decode cX11_turn 2 = .ok (.iload_n 1, 1) := by decide +kernel
theorem dX11_turn_3 : decode cX11_turn 3 = .ok (.invokevirtual 298, 3) := by decide +kernel
theorem dX11_turn_6 : decode cX11_turn 6 = .ok (.ifCond .ne 7, 3) := by decide +kernel
theorem dX11_turn_9 : decode cX11_turn 9 = .ok (.iconst 1, 1) := by decide +kernel
theorem dX11_turn_10 : decode cX11_turn 10 = .ok (.goto 17, 3) := by decide +kernel
theorem dX11_turn_13 : decode cX11_turn 13 = .ok (.iload_n 2, 1) := by decide +kernel
theorem dX11_turn_14 : decode cX11_turn 14 = .ok (.iconst 0, 1) := by decide +kernel
theorem dX11_turn_15 : decode cX11_turn 15 = .ok (.iconst 3, 1) := by decide +kernel
theorem dX11_turn_16 : decode cX11_turn 16 = .ok (.invokestatic 107, 3) := by decide +kernel
theorem dX11_turn_19 : decode cX11_turn 19 = .ok (.ifCond .ne 7, 3) := by decide +kernel
theorem dX11_turn_22 : decode cX11_turn 22 = .ok (.iconst 2, 1) := by decide +kernel
theorem dX11_turn_23 : decode cX11_turn 23 = .ok (.goto 4, 3) := by decide +kernel
theorem dX11_turn_26 : decode cX11_turn 26 = .ok (.iconst 0, 1) := by decide +kernel
theorem dX11_turn_27 : decode cX11_turn 27 = .ok (.putfield 100, 3) := by decide +kernel
theorem dX11_turn_30 : decode cX11_turn 30 = .ok (.aload_n 0, 1) := by decide +kernel
theorem dX11_turn_31 : decode cX11_turn 31 = .ok (.getfield 100, 3) := by decide +kernel
theorem dX11_turn_34 : decode cX11_turn 34 = .ok (.ifCond .le 5, 3) := by decide +kernel
theorem dX11_turn_37 : decode cX11_turn 37 = .ok (.iconst 0, 1) := by decide +kernel
theorem dX11_turn_38 : decode cX11_turn 38 = .ok (.ireturn, 1) := by decide +kernel
theorem dX11_turn_39 : decode cX11_turn 39 = .ok (.aload_n 0, 1) := by decide +kernel
theorem dX11_turn_40 : decode cX11_turn 40 = .ok (.invokevirtual 367, 3) := by decide +kernel
theorem dX11_turn_43 : decode cX11_turn 43 = .ok (.aload_n 0, 1) := by decide +kernel
theorem dX11_turn_44 : decode cX11_turn 44 = .ok (.iload_n 1, 1) := by decide +kernel
theorem dX11_turn_45 : decode cX11_turn 45 = .ok (.invokevirtual 160, 3) := by decide +kernel
theorem dX11_turn_48 : decode cX11_turn 48 = .ok (.istore_n 3, 1) := by decide +kernel
theorem dX11_turn_49 : decode cX11_turn 49 = .ok (.aload_n 0, 1) := by decide +kernel
theorem dX11_turn_50 : decode cX11_turn 50 = .ok (.getfield 7, 3) := by decide +kernel
theorem dX11_turn_53 : decode cX11_turn 53 = .ok (.bipush 89, 2) := by decide +kernel
theorem dX11_turn_55 : decode cX11_turn 55 = .ok (.iload_n 1, 1) := by decide +kernel
theorem dX11_turn_56 : decode cX11_turn 56 = .ok (.iadd, 1) := by decide +kernel
theorem dX11_turn_57 : decode cX11_turn 57 = .ok (.iload_n 2, 1) := by decide +kernel
theorem dX11_turn_58 : decode cX11_turn 58 = .ok (.iastore, 1) := by decide +kernel
theorem dX11_turn_59 : decode cX11_turn 59 = .ok (.iload_n 3, 1) := by decide +kernel
theorem dX11_turn_60 : decode cX11_turn 60 = .ok (.ireturn, 1) := by decide +kernel
def sX11_turn (F : Nat) (l0 : Nat) (l1 : Int32) (l2 : Int32) (h : HP) : Option (Int32 × HP) :=
  (dO h 11 (some l0)).bind fun a1 =>
  (sX11_isFinger F a1 l1 h).bind fun t2 =>
  (if ¬ t2 = 0 then
      (sX11_isIn F l2 (0 : Int32) (3 : Int32) h).bind fun t4 =>
      if ¬ t4 = 0 then
        some (0 : Int32)
      else
        some (2 : Int32)
    else
      some (1 : Int32)).bind fun s3 =>
  (pI h 11 (some l0) 0 s3).bind fun h5 =>
  (gI h5 11 (some l0) 0).bind fun t6 =>
  if t6 ≤ 0 then
    (dO h5 11 (some l0)).bind fun a7 =>
    (sX11_remembers F a7 h5).bind fun h8 =>
    (dO h8 11 (some l0)).bind fun a9 =>
    (sX11_turnAt F a9 l1 h8).bind fun t10 =>
    (gR h8 11 (some l0) 1).bind fun t11 =>
    (sI h8 t11 ((89 : Int32) + l1) l2).bind fun h12 =>
    some (t10, h12)
  else
    some ((0 : Int32), h5)
abbrev rm_X11_turn : Room := { frames := 2, cells := 0, slots := 0, locals := 46 }
set_option maxRecDepth 100000 in
set_option maxHeartbeats 4000000 in
theorem mt_X11_turn {w : WD} {l : Launch} {F : Nat} {l0 : Nat} {l1 : Int32} {l2 : Int32} {h : HP} {v : Int32} {h' : HP} (hs : sX11_turn F l0 l1 l2 h = some (v, h')) : MI w l yX11_turn cX11_turn 4 .int rm_X11_turn 0 0 [rf w (some l0), .int l1, .int l2] h v h' := by
  refine of_body [(0, rf w (some l0)), (1, .int l1), (2, .int l2)] (by decide) (by simp [lg_sl, rf_cat, cat_i, cat_l, cat_a]) (by simp [lv_args, rf_cat, cat_i, cat_l, cat_a]) ?_
  intro x hw_ hnL_ hl_ hc hret hnm hQ
  subst hw_; subst hl_
  have hnl : ∀ i, i < 4 → i < x.nL := fun i h => by rw [hnL_]; exact h
  have hw : wpO (sX11_turn F l0 l1 l2 h) (fun r => r = (v, h')) := ⟨_, hs, rfl⟩
  unfold sX11_turn at hw
  refine R_aload_n (q := 0) (i := 0) (v := (some l0)) hc dX11_turn_0 rfl rfl ?_
  refine R_aload_n (q := 0) (i := 0) (v := (some l0)) hc dX11_turn_1 rfl rfl ?_
  refine R_iload_n (q := 1) (i := 1) (v := l1) hc dX11_turn_2 rfl rfl ?_
  refine R_cVI (As := [.int l1]) (rest := [rf x.w (some l0)]) (r := (some l0)) (ci := 11) hc ml_11_298 mf_X11_isFinger rfl (by decide) ⟨rfl, rfl⟩ ⟨le_b rfl, le_b rfl⟩ ⟨Nat.zero_le _, Nat.zero_le _⟩ (fun a v e => mt_X11_isFinger e) rfl rfl (le_b rfl) dX11_turn_3 hw (fun t2 hw => ?_)
  refine R_join (fun (s3 : Int32) => Rn x 0 0 27 [(0, rf x.w (some l0)), (1, .int l1), (2, .int l2)] [.int s3, rf x.w (some l0)] h) hw (fun r hw => ?_) (fun hw => ?_)
  · revert r hw
    intro s3 hw
    show Rn x 0 0 27 [(0, rf x.w (some l0)), (1, .int l1), (2, .int l2)] [.int s3, rf x.w (some l0)] h
    refine R_putI hc pl_11_100 rfl rfl dX11_turn_27 hw (fun h5 hw => ?_)
    refine R_aload_n (q := 0) (i := 0) (v := (some l0)) hc dX11_turn_30 rfl rfl ?_
    refine R_getI hc fl_11_100 dX11_turn_31 hw (fun t6 hw => ?_)
    refine R_if_le (tgt := 39) hc dX11_turn_34 (by decide) hw (fun hw => ?_) (fun hw => ?_)
    · refine R_aload_n (q := 0) (i := 0) (v := (some l0)) hc dX11_turn_39 rfl rfl ?_
      refine R_cVVi (As := []) (rest := []) (r := (some l0)) (ci := 11) hc ml_11_367 mf_X11_remembers rfl (by decide) ⟨rfl, rfl⟩ ⟨le_b rfl, le_b rfl⟩ ⟨Nat.zero_le _, Nat.zero_le _⟩ (fun a h' e => mt_X11_remembers e) rfl rfl (Nat.zero_le _) dX11_turn_40 hw (fun h8 hw => ?_)
      refine R_aload_n (q := 0) (i := 0) (v := (some l0)) hc dX11_turn_43 rfl rfl ?_
      refine R_iload_n (q := 1) (i := 1) (v := l1) hc dX11_turn_44 rfl rfl ?_
      refine R_cVI (As := [.int l1]) (rest := []) (r := (some l0)) (ci := 11) hc ml_11_160 mf_X11_turnAt rfl (by decide) ⟨rfl, rfl⟩ ⟨le_b rfl, le_b rfl⟩ ⟨Nat.zero_le _, Nat.zero_le _⟩ (fun a v e => mt_X11_turnAt e) rfl rfl (Nat.zero_le _) dX11_turn_45 hw (fun t10 hw => ?_)
      refine R_istore_n (i := 3) (v := t10) hc [(3, .int t10), (0, rf x.w (some l0)), (1, .int l1), (2, .int l2)] dX11_turn_48 rfl (hnl 3 (le_b rfl)) rfl ?_
      refine R_aload_n (q := 1) (i := 0) (v := (some l0)) hc dX11_turn_49 rfl rfl ?_
      refine R_getR hc fl_11_7 dX11_turn_50 hw (fun t11 hw => ?_)
      refine R_bipush (v := (89 : Int32)) hc dX11_turn_53 kB_89 ?_
      refine R_iload_n (q := 2) (i := 1) (v := l1) hc dX11_turn_55 rfl rfl ?_
      refine R_iadd hc dX11_turn_56 ?_
      refine R_iload_n (q := 3) (i := 2) (v := l2) hc dX11_turn_57 rfl rfl ?_
      refine R_iastore hc dX11_turn_58 hw (fun h12 hw => ?_)
      refine R_iload_n (q := 0) (i := 3) (v := t10) hc dX11_turn_59 rfl rfl ?_
      exact R_ireturn hc hret rfl hQ hw dX11_turn_60
    · refine R_iconst (v := (0 : Int32)) hc dX11_turn_37 kI_0 ?_
      exact R_ireturn hc hret rfl hQ hw dX11_turn_38
  · refine R_if_ne (tgt := 13) hc dX11_turn_6 (by decide) hw (fun hw => ?_) (fun hw => ?_)
    · refine R_iload_n (q := 2) (i := 2) (v := l2) hc dX11_turn_13 rfl rfl ?_
      refine R_iconst (v := (0 : Int32)) hc dX11_turn_14 kI_0 ?_
      refine R_iconst (v := (3 : Int32)) hc dX11_turn_15 kI_3 ?_
      refine R_cSI (As := [.int l2, .int (0 : Int32), .int (3 : Int32)]) (rest := [rf x.w (some l0)]) hc ml_11_107 mf_X11_isIn ⟨rfl, rfl⟩ ⟨le_b rfl, le_b rfl⟩ ⟨Nat.zero_le _, Nat.zero_le _⟩ (fun v e => mt_X11_isIn e) rfl rfl (le_b rfl) dX11_turn_16 hw (fun t4 hw => ?_)
      refine R_if_ne (tgt := 26) hc dX11_turn_19 (by decide) hw (fun hw => ?_) (fun hw => ?_)
      · refine R_iconst (v := (0 : Int32)) hc dX11_turn_26 kI_0 ?_
        refine R_sub hc [0, 1, 2] rfl ?_
        exact (wpO_some hw :)
      · refine R_iconst (v := (2 : Int32)) hc dX11_turn_22 kI_2 ?_
        refine R_goto (tgt := 27) hc dX11_turn_23 (by decide) ?_
        refine R_sub hc [0, 1, 2] rfl ?_
        exact (wpO_some hw :)
    · refine R_iconst (v := (1 : Int32)) hc dX11_turn_9 kI_1 ?_
      refine R_goto (tgt := 27) hc dX11_turn_10 (by decide) ?_
      refine R_sub hc [0, 1, 2] rfl ?_
      exact (wpO_some hw :)
theorem dX11_move_0 : decode cX11_move 0 = .ok (.aload_n 0, 1) := by decide +kernel
theorem dX11_move_1 : decode cX11_move 1 = .ok (.aload_n 0, 1) := by decide +kernel
theorem dX11_move_2 : decode cX11_move 2 = .ok (.iload_n 1, 1) := by decide +kernel
theorem dX11_move_3 : decode cX11_move 3 = .ok (.invokevirtual 298, 3) := by decide +kernel
theorem dX11_move_6 : decode cX11_move 6 = .ok (.ifCond .eq 11, 3) := by decide +kernel
theorem dX11_move_9 : decode cX11_move 9 = .ok (.aload_n 0, 1) := by decide +kernel
theorem dX11_move_10 : decode cX11_move 10 = .ok (.iload_n 2, 1) := by decide +kernel
theorem dX11_move_11 : decode cX11_move 11 = .ok (.invokevirtual 298, 3) := by decide +kernel
theorem dX11_move_14 : decode cX11_move 14 = .ok (.ifCond .ne 7, 3) := by decide +kernel
theorem dX11_move_17 : decode cX11_move 17 = .ok (.iconst 1, 1) := by decide +kernel
theorem dX11_move_18 : decode cX11_move 18 = .ok (.goto 13, 3) := by decide +kernel
theorem dX11_move_21 : decode cX11_move 21 = .ok (.iload_n 1, 1) := by decide +kernel
theorem dX11_move_22 : decode cX11_move 22 = .ok (.iload_n 2, 1) := by decide +kernel
theorem dX11_move_23 : decode cX11_move 23 = .ok (.if_icmp .ne 7, 3) := by decide +kernel
theorem dX11_move_26 : decode cX11_move 26 = .ok (.iconst 2, 1) := by decide +kernel
theorem dX11_move_27 : decode cX11_move 27 = .ok (.goto 4, 3) := by decide +kernel
theorem dX11_move_30 : decode cX11_move 30 = .ok (.iconst 0, 1) := by decide +kernel
theorem dX11_move_31 : decode cX11_move 31 = .ok (.putfield 100, 3) := by decide +kernel
theorem dX11_move_34 : decode cX11_move 34 = .ok (.aload_n 0, 1) := by decide +kernel
theorem dX11_move_35 : decode cX11_move 35 = .ok (.getfield 100, 3) := by decide +kernel
theorem dX11_move_38 : decode cX11_move 38 = .ok (.ifCond .le 5, 3) := by decide +kernel
theorem dX11_move_41 : decode cX11_move 41 = .ok (.iconst 0, 1) := by decide +kernel
theorem dX11_move_42 : decode cX11_move 42 = .ok (.ireturn, 1) := by decide +kernel
theorem dX11_move_43 : decode cX11_move 43 = .ok (.aload_n 0, 1) := by decide +kernel
theorem dX11_move_44 : decode cX11_move 44 = .ok (.invokevirtual 367, 3) := by decide +kernel
theorem dX11_move_47 : decode cX11_move 47 = .ok (.aload_n 0, 1) := by decide +kernel
theorem dX11_move_48 : decode cX11_move 48 = .ok (.iload_n 1, 1) := by decide +kernel
theorem dX11_move_49 : decode cX11_move 49 = .ok (.iload_n 2, 1) := by decide +kernel
theorem dX11_move_50 : decode cX11_move 50 = .ok (.invokevirtual 370, 3) := by decide +kernel
theorem dX11_move_53 : decode cX11_move 53 = .ok (.aload_n 0, 1) := by decide +kernel
theorem dX11_move_54 : decode cX11_move 54 = .ok (.invokevirtual 313, 3) := by decide +kernel
theorem dX11_move_57 : decode cX11_move 57 = .ok (.ireturn, 1) := by decide +kernel
def sX11_move (F : Nat) (l0 : Nat) (l1 : Int32) (l2 : Int32) (h : HP) : Option (Int32 × HP) :=
  (dO h 11 (some l0)).bind fun a1 =>
  (sX11_isFinger F a1 l1 h).bind fun t2 =>
  (if t2 = 0 then
      some (1 : Int32)
    else
      (dO h 11 (some l0)).bind fun a4 =>
      (sX11_isFinger F a4 l2 h).bind fun t5 =>
      if ¬ t5 = 0 then
        if ¬ l1 = l2 then
          some (0 : Int32)
        else
          some (2 : Int32)
      else
        some (1 : Int32)).bind fun s3 =>
  (pI h 11 (some l0) 0 s3).bind fun h6 =>
  (gI h6 11 (some l0) 0).bind fun t7 =>
  if t7 ≤ 0 then
    (dO h6 11 (some l0)).bind fun a8 =>
    (sX11_remembers F a8 h6).bind fun h9 =>
    (dO h9 11 (some l0)).bind fun a10 =>
    (sX11_moves F a10 l1 l2 h9).bind fun h11 =>
    (dO h11 11 (some l0)).bind fun a12 =>
    (sX11_gapsNow F a12 h11).bind fun t13 =>
    some (t13, h11)
  else
    some ((0 : Int32), h6)
abbrev rm_X11_move : Room := { frames := 6, cells := 0, slots := 0, locals := 139 }
set_option maxRecDepth 100000 in
set_option maxHeartbeats 4000000 in
theorem mt_X11_move {w : WD} {l : Launch} {F : Nat} {l0 : Nat} {l1 : Int32} {l2 : Int32} {h : HP} {v : Int32} {h' : HP} (hs : sX11_move F l0 l1 l2 h = some (v, h')) : MI w l yX11_move cX11_move 3 .int rm_X11_move 0 0 [rf w (some l0), .int l1, .int l2] h v h' := by
  refine of_body [(0, rf w (some l0)), (1, .int l1), (2, .int l2)] (by decide) (by simp [lg_sl, rf_cat, cat_i, cat_l, cat_a]) (by simp [lv_args, rf_cat, cat_i, cat_l, cat_a]) ?_
  intro x hw_ hnL_ hl_ hc hret hnm hQ
  subst hw_; subst hl_
  have hnl : ∀ i, i < 3 → i < x.nL := fun i h => by rw [hnL_]; exact h
  have hw : wpO (sX11_move F l0 l1 l2 h) (fun r => r = (v, h')) := ⟨_, hs, rfl⟩
  unfold sX11_move at hw
  refine R_aload_n (q := 0) (i := 0) (v := (some l0)) hc dX11_move_0 rfl rfl ?_
  refine R_aload_n (q := 0) (i := 0) (v := (some l0)) hc dX11_move_1 rfl rfl ?_
  refine R_iload_n (q := 1) (i := 1) (v := l1) hc dX11_move_2 rfl rfl ?_
  refine R_cVI (As := [.int l1]) (rest := [rf x.w (some l0)]) (r := (some l0)) (ci := 11) hc ml_11_298 mf_X11_isFinger rfl (by decide) ⟨rfl, rfl⟩ ⟨le_b rfl, le_b rfl⟩ ⟨Nat.zero_le _, Nat.zero_le _⟩ (fun a v e => mt_X11_isFinger e) rfl rfl (le_b rfl) dX11_move_3 hw (fun t2 hw => ?_)
  refine R_join (fun (s3 : Int32) => Rn x 0 0 31 [(0, rf x.w (some l0)), (1, .int l1), (2, .int l2)] [.int s3, rf x.w (some l0)] h) hw (fun r hw => ?_) (fun hw => ?_)
  · revert r hw
    intro s3 hw
    show Rn x 0 0 31 [(0, rf x.w (some l0)), (1, .int l1), (2, .int l2)] [.int s3, rf x.w (some l0)] h
    refine R_putI hc pl_11_100 rfl rfl dX11_move_31 hw (fun h6 hw => ?_)
    refine R_aload_n (q := 0) (i := 0) (v := (some l0)) hc dX11_move_34 rfl rfl ?_
    refine R_getI hc fl_11_100 dX11_move_35 hw (fun t7 hw => ?_)
    refine R_if_le (tgt := 43) hc dX11_move_38 (by decide) hw (fun hw => ?_) (fun hw => ?_)
    · refine R_aload_n (q := 0) (i := 0) (v := (some l0)) hc dX11_move_43 rfl rfl ?_
      refine R_cVVi (As := []) (rest := []) (r := (some l0)) (ci := 11) hc ml_11_367 mf_X11_remembers rfl (by decide) ⟨rfl, rfl⟩ ⟨le_b rfl, le_b rfl⟩ ⟨Nat.zero_le _, Nat.zero_le _⟩ (fun a h' e => mt_X11_remembers e) rfl rfl (Nat.zero_le _) dX11_move_44 hw (fun h9 hw => ?_)
      refine R_aload_n (q := 0) (i := 0) (v := (some l0)) hc dX11_move_47 rfl rfl ?_
      refine R_iload_n (q := 1) (i := 1) (v := l1) hc dX11_move_48 rfl rfl ?_
      refine R_iload_n (q := 2) (i := 2) (v := l2) hc dX11_move_49 rfl rfl ?_
      refine R_cVVi (As := [.int l1, .int l2]) (rest := []) (r := (some l0)) (ci := 11) hc ml_11_370 mf_X11_moves rfl (by decide) ⟨rfl, rfl⟩ ⟨le_b rfl, le_b rfl⟩ ⟨Nat.zero_le _, Nat.zero_le _⟩ (fun a h' e => mt_X11_moves e) rfl rfl (Nat.zero_le _) dX11_move_50 hw (fun h11 hw => ?_)
      refine R_aload_n (q := 0) (i := 0) (v := (some l0)) hc dX11_move_53 rfl rfl ?_
      refine R_cVI (As := []) (rest := []) (r := (some l0)) (ci := 11) hc ml_11_313 mf_X11_gapsNow rfl (by decide) ⟨rfl, rfl⟩ ⟨le_b rfl, le_b rfl⟩ ⟨Nat.zero_le _, Nat.zero_le _⟩ (fun a v e => mt_X11_gapsNow e) rfl rfl (Nat.zero_le _) dX11_move_54 hw (fun t13 hw => ?_)
      exact R_ireturn hc hret rfl hQ hw dX11_move_57
    · refine R_iconst (v := (0 : Int32)) hc dX11_move_41 kI_0 ?_
      exact R_ireturn hc hret rfl hQ hw dX11_move_42
  · refine R_if_eq (tgt := 17) hc dX11_move_6 (by decide) hw (fun hw => ?_) (fun hw => ?_)
    · refine R_iconst (v := (1 : Int32)) hc dX11_move_17 kI_1 ?_
      refine R_goto (tgt := 31) hc dX11_move_18 (by decide) ?_
      refine R_sub hc [0, 1, 2] rfl ?_
      exact (wpO_some hw :)
    · refine R_aload_n (q := 0) (i := 0) (v := (some l0)) hc dX11_move_9 rfl rfl ?_
      refine R_iload_n (q := 2) (i := 2) (v := l2) hc dX11_move_10 rfl rfl ?_
      refine R_cVI (As := [.int l2]) (rest := [rf x.w (some l0)]) (r := (some l0)) (ci := 11) hc ml_11_298 mf_X11_isFinger rfl (by decide) ⟨rfl, rfl⟩ ⟨le_b rfl, le_b rfl⟩ ⟨Nat.zero_le _, Nat.zero_le _⟩ (fun a v e => mt_X11_isFinger e) rfl rfl (le_b rfl) dX11_move_11 hw (fun t5 hw => ?_)
      refine R_if_ne (tgt := 21) hc dX11_move_14 (by decide) hw (fun hw => ?_) (fun hw => ?_)
      · refine R_iload_n (q := 1) (i := 1) (v := l1) hc dX11_move_21 rfl rfl ?_
        refine R_iload_n (q := 2) (i := 2) (v := l2) hc dX11_move_22 rfl rfl ?_
        refine R_icmp_ne (tgt := 30) hc dX11_move_23 (by decide) hw (fun hw => ?_) (fun hw => ?_)
        · refine R_iconst (v := (0 : Int32)) hc dX11_move_30 kI_0 ?_
          refine R_sub hc [0, 1, 2] rfl ?_
          exact (wpO_some hw :)
        · refine R_iconst (v := (2 : Int32)) hc dX11_move_26 kI_2 ?_
          refine R_goto (tgt := 31) hc dX11_move_27 (by decide) ?_
          refine R_sub hc [0, 1, 2] rfl ?_
          exact (wpO_some hw :)
      · refine R_iconst (v := (1 : Int32)) hc dX11_move_17 kI_1 ?_
        refine R_goto (tgt := 31) hc dX11_move_18 (by decide) ?_
        refine R_sub hc [0, 1, 2] rfl ?_
        exact (wpO_some hw :)
theorem dX11_laysTold_0 : decode cX11_laysTold 0 = .ok (.iconst 0, 1) := by decide +kernel
theorem dX11_laysTold_1 : decode cX11_laysTold 1 = .ok (.istore_n 1, 1) := by decide +kernel
theorem dX11_laysTold_2 : decode cX11_laysTold 2 = .ok (.iload_n 1, 1) := by decide +kernel
theorem dX11_laysTold_3 : decode cX11_laysTold 3 = .ok (.aload_n 0, 1) := by decide +kernel
theorem dX11_laysTold_4 : decode cX11_laysTold 4 = .ok (.invokevirtual 103, 3) := by decide +kernel
theorem dX11_laysTold_7 : decode cX11_laysTold 7 = .ok (.if_icmp .ge 39, 3) := by decide +kernel
theorem dX11_laysTold_10 : decode cX11_laysTold 10 = .ok (.aload_n 0, 1) := by decide +kernel
theorem dX11_laysTold_11 : decode cX11_laysTold 11 = .ok (.getfield 7, 3) := by decide +kernel
theorem dX11_laysTold_14 : decode cX11_laysTold 14 = .ok (.bipush 81, 2) := by decide +kernel
theorem dX11_laysTold_16 : decode cX11_laysTold 16 = .ok (.iload_n 1, 1) := by decide +kernel
theorem dX11_laysTold_17 : decode cX11_laysTold 17 = .ok (.iadd, 1) := by decide +kernel
theorem dX11_laysTold_18 : decode cX11_laysTold 18 = .ok (.aload_n 0, 1) := by decide +kernel
theorem dX11_laysTold_19 : decode cX11_laysTold 19 = .ok (.getfield 45, 3) := by decide +kernel
theorem dX11_laysTold_22 : decode cX11_laysTold 22 = .ok (.iload_n 1, 1) := by decide +kernel
theorem dX11_laysTold_23 : decode cX11_laysTold 23 = .ok (.iaload, 1) := by decide +kernel
theorem dX11_laysTold_24 : decode cX11_laysTold 24 = .ok (.iastore, 1) := by decide +kernel
theorem dX11_laysTold_25 : decode cX11_laysTold 25 = .ok (.aload_n 0, 1) := by decide +kernel
theorem dX11_laysTold_26 : decode cX11_laysTold 26 = .ok (.getfield 7, 3) := by decide +kernel
theorem dX11_laysTold_29 : decode cX11_laysTold 29 = .ok (.bipush 89, 2) := by decide +kernel
theorem dX11_laysTold_31 : decode cX11_laysTold 31 = .ok (.iload_n 1, 1) := by decide +kernel
theorem dX11_laysTold_32 : decode cX11_laysTold 32 = .ok (.iadd, 1) := by decide +kernel
theorem dX11_laysTold_33 : decode cX11_laysTold 33 = .ok (.aload_n 0, 1) := by decide +kernel
theorem dX11_laysTold_34 : decode cX11_laysTold 34 = .ok (.getfield 48, 3) := by decide +kernel
theorem dX11_laysTold_37 : decode cX11_laysTold 37 = .ok (.iload_n 1, 1) := by decide +kernel
theorem dX11_laysTold_38 : decode cX11_laysTold 38 = .ok (.iaload, 1) := by decide +kernel
theorem dX11_laysTold_39 : decode cX11_laysTold 39 = .ok (.iastore, 1) := by decide +kernel
theorem dX11_laysTold_40 : decode cX11_laysTold 40 = .ok (.iinc 1 1, 3) := by decide +kernel
theorem dX11_laysTold_43 : decode cX11_laysTold 43 = .ok (.goto (-41), 3) := by decide +kernel
theorem dX11_laysTold_46 : decode cX11_laysTold 46 = .ok (.return_, 1) := by decide +kernel
def sX11_laysTold_L2 (F : Nat) (l0 : Nat) (l1 : Int32) (h : HP) : Option ((Int32 × HP) ⊕ HP) :=
  (dO h 11 (some l0)).bind fun a1 =>
  (sX11_fingers F a1 h).bind fun t2 =>
  if t2 ≤ l1 then
    some (.inr h)
  else
    (gR h 11 (some l0) 1).bind fun t3 =>
    (gR h 11 (some l0) 20).bind fun t4 =>
    (aI h 13 t4 l1).bind fun t5 =>
    (sI h t3 ((81 : Int32) + l1) t5).bind fun h6 =>
    (gR h6 11 (some l0) 1).bind fun t7 =>
    (gR h6 11 (some l0) 21).bind fun t8 =>
    (aI h6 13 t8 l1).bind fun t9 =>
    (sI h6 t7 ((89 : Int32) + l1) t9).bind fun h10 =>
    some (.inl (l1 + (1 : Int32), h10))
def sX11_laysTold (F : Nat) (l0 : Nat) (h : HP) : Option HP :=
  (iter (fun s => sX11_laysTold_L2 F l0 s.1 s.2) F ((0 : Int32), h)).bind fun h11 =>
    some h11
abbrev rm_X11_laysTold : Room := { frames := 1, cells := 0, slots := 0, locals := 20 }
set_option maxRecDepth 100000 in
set_option maxHeartbeats 4000000 in
theorem mt_X11_laysTold {w : WD} {l : Launch} {F : Nat} {l0 : Nat} {h : HP} {h' : HP} (hs : sX11_laysTold F l0 h = some h') : MV w l yX11_laysTold cX11_laysTold 2 rm_X11_laysTold 0 0 [rf w (some l0)] h h' := by
  refine of_body [(0, rf w (some l0))] (by decide) (by simp [lg_sl, rf_cat, cat_i, cat_l, cat_a]) (by simp [lv_args, rf_cat, cat_i, cat_l, cat_a]) ?_
  intro x hw_ hnL_ hl_ hc hret hnm hQ
  subst hw_; subst hl_
  have hnl : ∀ i, i < 2 → i < x.nL := fun i h => by rw [hnL_]; exact h
  have hw : wpO (sX11_laysTold F l0 h) (fun r => r = h') := ⟨_, hs, rfl⟩
  unfold sX11_laysTold at hw
  refine R_iconst (v := (0 : Int32)) hc dX11_laysTold_0 kI_0 ?_
  refine R_istore_n (i := 1) (v := (0 : Int32)) hc [(1, .int (0 : Int32)), (0, rf x.w (some l0))] dX11_laysTold_1 rfl (hnl 1 (le_b rfl)) rfl ?_
  refine R_sub hc [1, 0] rfl ?_
  refine R_loop (P := fun (s : (Int32 × HP)) => Rn x 0 0 2 [(0, rf x.w (some l0)), (1, .int s.1)] [] s.2) (fun h11 => Rn x 0 0 46 [] [] h11) hw (fun r hw => ?_) (fun X hX s hw => ?_)
  · revert r hw
    intro h11 hw
    show Rn x 0 0 46 [] [] h11
    exact R_return hc hret hQ hw dX11_laysTold_46
  · obtain ⟨l1_13, h14⟩ := s
    show Rn x 0 0 2 [(0, rf x.w (some l0)), (1, .int l1_13)] [] h14
    have hw : wpO (sX11_laysTold_L2 F l0 l1_13 h14) _ := hw
    unfold sX11_laysTold_L2 at hw
    refine R_iload_n (q := 1) (i := 1) (v := l1_13) hc dX11_laysTold_2 rfl rfl ?_
    refine R_aload_n (q := 0) (i := 0) (v := (some l0)) hc dX11_laysTold_3 rfl rfl ?_
    refine R_cVI (As := []) (rest := [.int l1_13]) (r := (some l0)) (ci := 11) hc ml_11_103 mf_X11_fingers rfl (by decide) ⟨rfl, rfl⟩ ⟨le_b rfl, le_b rfl⟩ ⟨Nat.zero_le _, Nat.zero_le _⟩ (fun a v e => mt_X11_fingers e) rfl rfl (le_b rfl) dX11_laysTold_4 hw (fun t2 hw => ?_)
    refine R_icmp_ge (tgt := 46) hc dX11_laysTold_7 (by decide) hw (fun hw => ?_) (fun hw => ?_)
    · refine R_sub hc [] rfl ?_
      exact (wpO_some hw :)
    · refine R_aload_n (q := 0) (i := 0) (v := (some l0)) hc dX11_laysTold_10 rfl rfl ?_
      refine R_getR hc fl_11_7 dX11_laysTold_11 hw (fun t3 hw => ?_)
      refine R_bipush (v := (81 : Int32)) hc dX11_laysTold_14 kB_81 ?_
      refine R_iload_n (q := 1) (i := 1) (v := l1_13) hc dX11_laysTold_16 rfl rfl ?_
      refine R_iadd hc dX11_laysTold_17 ?_
      refine R_aload_n (q := 0) (i := 0) (v := (some l0)) hc dX11_laysTold_18 rfl rfl ?_
      refine R_getR hc fl_11_45 dX11_laysTold_19 hw (fun t4 hw => ?_)
      refine R_iload_n (q := 1) (i := 1) (v := l1_13) hc dX11_laysTold_22 rfl rfl ?_
      refine R_iaload hc dX11_laysTold_23 hw (fun t5 hw => ?_)
      refine R_iastore hc dX11_laysTold_24 hw (fun h6 hw => ?_)
      refine R_aload_n (q := 0) (i := 0) (v := (some l0)) hc dX11_laysTold_25 rfl rfl ?_
      refine R_getR hc fl_11_7 dX11_laysTold_26 hw (fun t7 hw => ?_)
      refine R_bipush (v := (89 : Int32)) hc dX11_laysTold_29 kB_89 ?_
      refine R_iload_n (q := 1) (i := 1) (v := l1_13) hc dX11_laysTold_31 rfl rfl ?_
      refine R_iadd hc dX11_laysTold_32 ?_
      refine R_aload_n (q := 0) (i := 0) (v := (some l0)) hc dX11_laysTold_33 rfl rfl ?_
      refine R_getR hc fl_11_48 dX11_laysTold_34 hw (fun t8 hw => ?_)
      refine R_iload_n (q := 1) (i := 1) (v := l1_13) hc dX11_laysTold_37 rfl rfl ?_
      refine R_iaload hc dX11_laysTold_38 hw (fun t9 hw => ?_)
      refine R_iastore hc dX11_laysTold_39 hw (fun h10 hw => ?_)
      refine R_iinc (q := 1) (i := 1) (v := l1_13) hc [(1, .int (l1_13 + (1 : Int32))), (0, rf x.w (some l0))] dX11_laysTold_40 rfl (kC_1 _) (hnl 1 (le_b rfl)) rfl ?_
      refine R_goto (tgt := 2) hc dX11_laysTold_43 (by decide) ?_
      refine R_sub hc [1, 0] rfl ?_
      exact hX (l1_13 + (1 : Int32), h10) (wpO_some hw :)
theorem dX11_mirror_0 : decode cX11_mirror 0 = .ok (.aload_n 0, 1) := by decide +kernel
theorem dX11_mirror_1 : decode cX11_mirror 1 = .ok (.aload_n 0, 1) := by decide +kernel
theorem dX11_mirror_2 : decode cX11_mirror 2 = .ok (.invokevirtual 103, 3) := by decide +kernel
theorem dX11_mirror_5 : decode cX11_mirror 5 = .ok (.ifCond .ne 7, 3) := by decide +kernel
theorem dX11_mirror_8 : decode cX11_mirror 8 = .ok (.iconst 1, 1) := by decide +kernel
theorem dX11_mirror_9 : decode cX11_mirror 9 = .ok (.goto 4, 3) := by decide +kernel
theorem dX11_mirror_12 : decode cX11_mirror 12 = .ok (.iconst 0, 1) := by decide +kernel
theorem dX11_mirror_13 : decode cX11_mirror 13 = .ok (.putfield 100, 3) := by decide +kernel
theorem dX11_mirror_16 : decode cX11_mirror 16 = .ok (.aload_n 0, 1) := by decide +kernel
theorem dX11_mirror_17 : decode cX11_mirror 17 = .ok (.getfield 100, 3) := by decide +kernel
theorem dX11_mirror_20 : decode cX11_mirror 20 = .ok (.ifCond .le 5, 3) := by decide +kernel
theorem dX11_mirror_23 : decode cX11_mirror 23 = .ok (.iconst 0, 1) := by decide +kernel
theorem dX11_mirror_24 : decode cX11_mirror 24 = .ok (.ireturn, 1) := by decide +kernel
theorem dX11_mirror_25 : decode cX11_mirror 25 = .ok (.aload_n 0, 1) := by decide +kernel
theorem dX11_mirror_26 : decode cX11_mirror 26 = .ok (.invokevirtual 367, 3) := by decide +kernel
theorem dX11_mirror_29 : decode cX11_mirror 29 = .ok (.iconst 0, 1) := by decide +kernel
theorem dX11_mirror_30 : decode cX11_mirror 30 = .ok (.istore_n 1, 1) := by decide +kernel
theorem dX11_mirror_31 : decode cX11_mirror 31 = .ok (.iload_n 1, 1) := by decide +kernel
theorem dX11_mirror_32 : decode cX11_mirror 32 = .ok (.aload_n 0, 1) := by decide +kernel
theorem dX11_mirror_33 : decode cX11_mirror 33 = .ok (.invokevirtual 103, 3) := by decide +kernel
theorem dX11_mirror_36 : decode cX11_mirror 36 = .ok (.if_icmp .ge 47, 3) := by decide +kernel
theorem dX11_mirror_39 : decode cX11_mirror 39 = .ok (.aload_n 0, 1) := by decide +kernel
theorem dX11_mirror_40 : decode cX11_mirror 40 = .ok (.getfield 45, 3) := by decide +kernel
theorem dX11_mirror_43 : decode cX11_mirror 43 = .ok (.iload_n 1, 1) := by decide +kernel
theorem dX11_mirror_44 : decode cX11_mirror 44 = .ok (.aload_n 0, 1) := by decide +kernel
theorem dX11_mirror_45 : decode cX11_mirror 45 = .ok (.aload_n 0, 1) := by decide +kernel
theorem dX11_mirror_46 : decode cX11_mirror 46 = .ok (.invokevirtual 103, 3) := by decide +kernel
theorem dX11_mirror_49 : decode cX11_mirror 49 = .ok (.iconst 1, 1) := by decide +kernel
theorem dX11_mirror_50 : decode cX11_mirror 50 = .ok (.isub, 1) := by decide +kernel
theorem dX11_mirror_51 : decode cX11_mirror 51 = .ok (.iload_n 1, 1) := by decide +kernel
theorem dX11_mirror_52 : decode cX11_mirror 52 = .ok (.isub, 1) := by decide +kernel
theorem dX11_mirror_53 : decode cX11_mirror 53 = .ok (.invokevirtual 156, 3) := by decide +kernel
theorem dX11_mirror_56 : decode cX11_mirror 56 = .ok (.iastore, 1) := by decide +kernel
theorem dX11_mirror_57 : decode cX11_mirror 57 = .ok (.aload_n 0, 1) := by decide +kernel
theorem dX11_mirror_58 : decode cX11_mirror 58 = .ok (.getfield 48, 3) := by decide +kernel
theorem dX11_mirror_61 : decode cX11_mirror 61 = .ok (.iload_n 1, 1) := by decide +kernel
theorem dX11_mirror_62 : decode cX11_mirror 62 = .ok (.iconst 3, 1) := by decide +kernel
theorem dX11_mirror_63 : decode cX11_mirror 63 = .ok (.aload_n 0, 1) := by decide +kernel
theorem dX11_mirror_64 : decode cX11_mirror 64 = .ok (.aload_n 0, 1) := by decide +kernel
theorem dX11_mirror_65 : decode cX11_mirror 65 = .ok (.invokevirtual 103, 3) := by decide +kernel
theorem dX11_mirror_68 : decode cX11_mirror 68 = .ok (.iconst 1, 1) := by decide +kernel
theorem dX11_mirror_69 : decode cX11_mirror 69 = .ok (.isub, 1) := by decide +kernel
theorem dX11_mirror_70 : decode cX11_mirror 70 = .ok (.iload_n 1, 1) := by decide +kernel
theorem dX11_mirror_71 : decode cX11_mirror 71 = .ok (.isub, 1) := by decide +kernel
theorem dX11_mirror_72 : decode cX11_mirror 72 = .ok (.invokevirtual 160, 3) := by decide +kernel
theorem dX11_mirror_75 : decode cX11_mirror 75 = .ok (.isub, 1) := by decide +kernel
theorem dX11_mirror_76 : decode cX11_mirror 76 = .ok (.iastore, 1) := by decide +kernel
theorem dX11_mirror_77 : decode cX11_mirror 77 = .ok (.iinc 1 1, 3) := by decide +kernel
theorem dX11_mirror_80 : decode cX11_mirror 80 = .ok (.goto (-49), 3) := by decide +kernel
theorem dX11_mirror_83 : decode cX11_mirror 83 = .ok (.aload_n 0, 1) := by decide +kernel
theorem dX11_mirror_84 : decode cX11_mirror 84 = .ok (.invokevirtual 374, 3) := by decide +kernel
theorem dX11_mirror_87 : decode cX11_mirror 87 = .ok (.aload_n 0, 1) := by decide +kernel
theorem dX11_mirror_88 : decode cX11_mirror 88 = .ok (.invokevirtual 313, 3) := by decide +kernel
theorem dX11_mirror_91 : decode cX11_mirror 91 = .ok (.ireturn, 1) := by decide +kernel
def sX11_mirror_L31 (F : Nat) (l0 : Nat) (l1 : Int32) (h : HP) : Option ((Int32 × HP) ⊕ HP) :=
  (dO h 11 (some l0)).bind fun a8 =>
  (sX11_fingers F a8 h).bind fun t9 =>
  if t9 ≤ l1 then
    some (.inr h)
  else
    (gR h 11 (some l0) 20).bind fun t10 =>
    (dO h 11 (some l0)).bind fun a11 =>
    (sX11_fingers F a11 h).bind fun t12 =>
    (dO h 11 (some l0)).bind fun a13 =>
    (sX11_fingerAt F a13 ((t12 - (1 : Int32)) - l1) h).bind fun t14 =>
    (sI h t10 l1 t14).bind fun h15 =>
    (gR h15 11 (some l0) 21).bind fun t16 =>
    (dO h15 11 (some l0)).bind fun a17 =>
    (sX11_fingers F a17 h15).bind fun t18 =>
    (dO h15 11 (some l0)).bind fun a19 =>
    (sX11_turnAt F a19 ((t18 - (1 : Int32)) - l1) h15).bind fun t20 =>
    (sI h15 t16 l1 ((3 : Int32) - t20)).bind fun h21 =>
    some (.inl (l1 + (1 : Int32), h21))
def sX11_mirror (F : Nat) (l0 : Nat) (h : HP) : Option (Int32 × HP) :=
  (dO h 11 (some l0)).bind fun a1 =>
  (sX11_fingers F a1 h).bind fun t2 =>
  (if ¬ t2 = 0 then
      some (0 : Int32)
    else
      some (1 : Int32)).bind fun s3 =>
  (pI h 11 (some l0) 0 s3).bind fun h4 =>
  (gI h4 11 (some l0) 0).bind fun t5 =>
  if t5 ≤ 0 then
    (dO h4 11 (some l0)).bind fun a6 =>
    (sX11_remembers F a6 h4).bind fun h7 =>
    (iter (fun s => sX11_mirror_L31 F l0 s.1 s.2) F ((0 : Int32), h7)).bind fun h22 =>
      (dO h22 11 (some l0)).bind fun a23 =>
      (sX11_laysTold F a23 h22).bind fun h24 =>
      (dO h24 11 (some l0)).bind fun a25 =>
      (sX11_gapsNow F a25 h24).bind fun t26 =>
      some (t26, h24)
  else
    some ((0 : Int32), h4)
abbrev rm_X11_mirror : Room := { frames := 6, cells := 0, slots := 0, locals := 139 }
set_option maxRecDepth 100000 in
set_option maxHeartbeats 4000000 in
theorem mt_X11_mirror {w : WD} {l : Launch} {F : Nat} {l0 : Nat} {h : HP} {v : Int32} {h' : HP} (hs : sX11_mirror F l0 h = some (v, h')) : MI w l yX11_mirror cX11_mirror 2 .int rm_X11_mirror 0 0 [rf w (some l0)] h v h' := by
  refine of_body [(0, rf w (some l0))] (by decide) (by simp [lg_sl, rf_cat, cat_i, cat_l, cat_a]) (by simp [lv_args, rf_cat, cat_i, cat_l, cat_a]) ?_
  intro x hw_ hnL_ hl_ hc hret hnm hQ
  subst hw_; subst hl_
  have hnl : ∀ i, i < 2 → i < x.nL := fun i h => by rw [hnL_]; exact h
  have hw : wpO (sX11_mirror F l0 h) (fun r => r = (v, h')) := ⟨_, hs, rfl⟩
  unfold sX11_mirror at hw
  refine R_aload_n (q := 0) (i := 0) (v := (some l0)) hc dX11_mirror_0 rfl rfl ?_
  refine R_aload_n (q := 0) (i := 0) (v := (some l0)) hc dX11_mirror_1 rfl rfl ?_
  refine R_cVI (As := []) (rest := [rf x.w (some l0)]) (r := (some l0)) (ci := 11) hc ml_11_103 mf_X11_fingers rfl (by decide) ⟨rfl, rfl⟩ ⟨le_b rfl, le_b rfl⟩ ⟨Nat.zero_le _, Nat.zero_le _⟩ (fun a v e => mt_X11_fingers e) rfl rfl (le_b rfl) dX11_mirror_2 hw (fun t2 hw => ?_)
  refine R_join (fun (s3 : Int32) => Rn x 0 0 13 [(0, rf x.w (some l0))] [.int s3, rf x.w (some l0)] h) hw (fun r hw => ?_) (fun hw => ?_)
  · revert r hw
    intro s3 hw
    show Rn x 0 0 13 [(0, rf x.w (some l0))] [.int s3, rf x.w (some l0)] h
    refine R_putI hc pl_11_100 rfl rfl dX11_mirror_13 hw (fun h4 hw => ?_)
    refine R_aload_n (q := 0) (i := 0) (v := (some l0)) hc dX11_mirror_16 rfl rfl ?_
    refine R_getI hc fl_11_100 dX11_mirror_17 hw (fun t5 hw => ?_)
    refine R_if_le (tgt := 25) hc dX11_mirror_20 (by decide) hw (fun hw => ?_) (fun hw => ?_)
    · refine R_aload_n (q := 0) (i := 0) (v := (some l0)) hc dX11_mirror_25 rfl rfl ?_
      refine R_cVVi (As := []) (rest := []) (r := (some l0)) (ci := 11) hc ml_11_367 mf_X11_remembers rfl (by decide) ⟨rfl, rfl⟩ ⟨le_b rfl, le_b rfl⟩ ⟨Nat.zero_le _, Nat.zero_le _⟩ (fun a h' e => mt_X11_remembers e) rfl rfl (Nat.zero_le _) dX11_mirror_26 hw (fun h7 hw => ?_)
      refine R_iconst (v := (0 : Int32)) hc dX11_mirror_29 kI_0 ?_
      refine R_istore_n (i := 1) (v := (0 : Int32)) hc [(1, .int (0 : Int32)), (0, rf x.w (some l0))] dX11_mirror_30 rfl (hnl 1 (le_b rfl)) rfl ?_
      refine R_sub hc [1, 0] rfl ?_
      refine R_loop (P := fun (s : (Int32 × HP)) => Rn x 0 0 31 [(0, rf x.w (some l0)), (1, .int s.1)] [] s.2) (fun h22 => Rn x 0 0 83 [(0, rf x.w (some l0))] [] h22) hw (fun r hw => ?_) (fun X hX s hw => ?_)
      · revert r hw
        intro h22 hw
        show Rn x 0 0 83 [(0, rf x.w (some l0))] [] h22
        refine R_aload_n (q := 0) (i := 0) (v := (some l0)) hc dX11_mirror_83 rfl rfl ?_
        refine R_cVVi (As := []) (rest := []) (r := (some l0)) (ci := 11) hc ml_11_374 mf_X11_laysTold rfl (by decide) ⟨rfl, rfl⟩ ⟨le_b rfl, le_b rfl⟩ ⟨Nat.zero_le _, Nat.zero_le _⟩ (fun a h' e => mt_X11_laysTold e) rfl rfl (Nat.zero_le _) dX11_mirror_84 hw (fun h24 hw => ?_)
        refine R_aload_n (q := 0) (i := 0) (v := (some l0)) hc dX11_mirror_87 rfl rfl ?_
        refine R_cVI (As := []) (rest := []) (r := (some l0)) (ci := 11) hc ml_11_313 mf_X11_gapsNow rfl (by decide) ⟨rfl, rfl⟩ ⟨le_b rfl, le_b rfl⟩ ⟨Nat.zero_le _, Nat.zero_le _⟩ (fun a v e => mt_X11_gapsNow e) rfl rfl (Nat.zero_le _) dX11_mirror_88 hw (fun t26 hw => ?_)
        exact R_ireturn hc hret rfl hQ hw dX11_mirror_91
      · obtain ⟨l1_28, h29⟩ := s
        show Rn x 0 0 31 [(0, rf x.w (some l0)), (1, .int l1_28)] [] h29
        have hw : wpO (sX11_mirror_L31 F l0 l1_28 h29) _ := hw
        unfold sX11_mirror_L31 at hw
        refine R_iload_n (q := 1) (i := 1) (v := l1_28) hc dX11_mirror_31 rfl rfl ?_
        refine R_aload_n (q := 0) (i := 0) (v := (some l0)) hc dX11_mirror_32 rfl rfl ?_
        refine R_cVI (As := []) (rest := [.int l1_28]) (r := (some l0)) (ci := 11) hc ml_11_103 mf_X11_fingers rfl (by decide) ⟨rfl, rfl⟩ ⟨le_b rfl, le_b rfl⟩ ⟨Nat.zero_le _, Nat.zero_le _⟩ (fun a v e => mt_X11_fingers e) rfl rfl (le_b rfl) dX11_mirror_33 hw (fun t9 hw => ?_)
        refine R_icmp_ge (tgt := 83) hc dX11_mirror_36 (by decide) hw (fun hw => ?_) (fun hw => ?_)
        · refine R_sub hc [0] rfl ?_
          exact (wpO_some hw :)
        · refine R_aload_n (q := 0) (i := 0) (v := (some l0)) hc dX11_mirror_39 rfl rfl ?_
          refine R_getR hc fl_11_45 dX11_mirror_40 hw (fun t10 hw => ?_)
          refine R_iload_n (q := 1) (i := 1) (v := l1_28) hc dX11_mirror_43 rfl rfl ?_
          refine R_aload_n (q := 0) (i := 0) (v := (some l0)) hc dX11_mirror_44 rfl rfl ?_
          refine R_aload_n (q := 0) (i := 0) (v := (some l0)) hc dX11_mirror_45 rfl rfl ?_
          refine R_cVI (As := []) (rest := [rf x.w (some l0), .int l1_28, rf x.w t10]) (r := (some l0)) (ci := 11) hc ml_11_103 mf_X11_fingers rfl (by decide) ⟨rfl, rfl⟩ ⟨le_b rfl, le_b rfl⟩ ⟨Nat.zero_le _, Nat.zero_le _⟩ (fun a v e => mt_X11_fingers e) rfl rfl (by simp [rf_cat, cat_i, cat_l, cat_a]) dX11_mirror_46 hw (fun t12 hw => ?_)
          refine R_iconst (v := (1 : Int32)) hc dX11_mirror_49 kI_1 ?_
          refine R_isub hc dX11_mirror_50 ?_
          refine R_iload_n (q := 1) (i := 1) (v := l1_28) hc dX11_mirror_51 rfl rfl ?_
          refine R_isub hc dX11_mirror_52 ?_
          refine R_cVI (As := [.int ((t12 - (1 : Int32)) - l1_28)]) (rest := [.int l1_28, rf x.w t10]) (r := (some l0)) (ci := 11) hc ml_11_156 mf_X11_fingerAt rfl (by decide) ⟨rfl, rfl⟩ ⟨le_b rfl, le_b rfl⟩ ⟨Nat.zero_le _, Nat.zero_le _⟩ (fun a v e => mt_X11_fingerAt e) rfl rfl (by simp [rf_cat, cat_i, cat_l, cat_a]) dX11_mirror_53 hw (fun t14 hw => ?_)
          refine R_iastore hc dX11_mirror_56 hw (fun h15 hw => ?_)
          refine R_aload_n (q := 0) (i := 0) (v := (some l0)) hc dX11_mirror_57 rfl rfl ?_
          refine R_getR hc fl_11_48 dX11_mirror_58 hw (fun t16 hw => ?_)
          refine R_iload_n (q := 1) (i := 1) (v := l1_28) hc dX11_mirror_61 rfl rfl ?_
          refine R_iconst (v := (3 : Int32)) hc dX11_mirror_62 kI_3 ?_
          refine R_aload_n (q := 0) (i := 0) (v := (some l0)) hc dX11_mirror_63 rfl rfl ?_
          refine R_aload_n (q := 0) (i := 0) (v := (some l0)) hc dX11_mirror_64 rfl rfl ?_
          refine R_cVI (As := []) (rest := [rf x.w (some l0), .int (3 : Int32), .int l1_28, rf x.w t16]) (r := (some l0)) (ci := 11) hc ml_11_103 mf_X11_fingers rfl (by decide) ⟨rfl, rfl⟩ ⟨le_b rfl, le_b rfl⟩ ⟨Nat.zero_le _, Nat.zero_le _⟩ (fun a v e => mt_X11_fingers e) rfl rfl (by simp [rf_cat, cat_i, cat_l, cat_a]) dX11_mirror_65 hw (fun t18 hw => ?_)
          refine R_iconst (v := (1 : Int32)) hc dX11_mirror_68 kI_1 ?_
          refine R_isub hc dX11_mirror_69 ?_
          refine R_iload_n (q := 1) (i := 1) (v := l1_28) hc dX11_mirror_70 rfl rfl ?_
          refine R_isub hc dX11_mirror_71 ?_
          refine R_cVI (As := [.int ((t18 - (1 : Int32)) - l1_28)]) (rest := [.int (3 : Int32), .int l1_28, rf x.w t16]) (r := (some l0)) (ci := 11) hc ml_11_160 mf_X11_turnAt rfl (by decide) ⟨rfl, rfl⟩ ⟨le_b rfl, le_b rfl⟩ ⟨Nat.zero_le _, Nat.zero_le _⟩ (fun a v e => mt_X11_turnAt e) rfl rfl (by simp [rf_cat, cat_i, cat_l, cat_a]) dX11_mirror_72 hw (fun t20 hw => ?_)
          refine R_isub hc dX11_mirror_75 ?_
          refine R_iastore hc dX11_mirror_76 hw (fun h21 hw => ?_)
          refine R_iinc (q := 1) (i := 1) (v := l1_28) hc [(1, .int (l1_28 + (1 : Int32))), (0, rf x.w (some l0))] dX11_mirror_77 rfl (kC_1 _) (hnl 1 (le_b rfl)) rfl ?_
          refine R_goto (tgt := 31) hc dX11_mirror_80 (by decide) ?_
          refine R_sub hc [1, 0] rfl ?_
          exact hX (l1_28 + (1 : Int32), h21) (wpO_some hw :)
    · refine R_iconst (v := (0 : Int32)) hc dX11_mirror_23 kI_0 ?_
      exact R_ireturn hc hret rfl hQ hw dX11_mirror_24
  · refine R_if_ne (tgt := 12) hc dX11_mirror_5 (by decide) hw (fun hw => ?_) (fun hw => ?_)
    · refine R_iconst (v := (0 : Int32)) hc dX11_mirror_12 kI_0 ?_
      refine R_sub hc [0] rfl ?_
      exact (wpO_some hw :)
    · refine R_iconst (v := (1 : Int32)) hc dX11_mirror_8 kI_1 ?_
      refine R_goto (tgt := 13) hc dX11_mirror_9 (by decide) ?_
      refine R_sub hc [0] rfl ?_
      exact (wpO_some hw :)
theorem dX11_lay_0 : decode cX11_lay 0 = .ok (.aload_n 0, 1) := by decide +kernel
theorem dX11_lay_1 : decode cX11_lay 1 = .ok (.invokevirtual 333, 3) := by decide +kernel
theorem dX11_lay_4 : decode cX11_lay 4 = .ok (.aload_n 0, 1) := by decide +kernel
theorem dX11_lay_5 : decode cX11_lay 5 = .ok (.lload_n 1, 1) := by decide +kernel
theorem dX11_lay_6 : decode cX11_lay 6 = .ok (.lconst 0, 1) := by decide +kernel
theorem dX11_lay_7 : decode cX11_lay 7 = .ok (.lcmp, 1) := by decide +kernel
theorem dX11_lay_8 : decode cX11_lay 8 = .ok (.ifCond .lt 16, 3) := by decide +kernel
theorem dX11_lay_11 : decode cX11_lay 11 = .ok (.lload_n 1, 1) := by decide +kernel
theorem dX11_lay_12 : decode cX11_lay 12 = .ok (.aload_n 0, 1) := by decide +kernel
theorem dX11_lay_13 : decode cX11_lay 13 = .ok (.getfield 145, 3) := by decide +kernel
theorem dX11_lay_16 : decode cX11_lay 16 = .ok (.lcmp, 1) := by decide +kernel
theorem dX11_lay_17 : decode cX11_lay 17 = .ok (.ifCond .ge 7, 3) := by decide +kernel
theorem dX11_lay_20 : decode cX11_lay 20 = .ok (.iconst 0, 1) := by decide +kernel
theorem dX11_lay_21 : decode cX11_lay 21 = .ok (.goto 4, 3) := by decide +kernel
theorem dX11_lay_24 : decode cX11_lay 24 = .ok (.iconst 1, 1) := by decide +kernel
theorem dX11_lay_25 : decode cX11_lay 25 = .ok (.putfield 100, 3) := by decide +kernel
theorem dX11_lay_28 : decode cX11_lay 28 = .ok (.aload_n 0, 1) := by decide +kernel
theorem dX11_lay_29 : decode cX11_lay 29 = .ok (.getfield 100, 3) := by decide +kernel
theorem dX11_lay_32 : decode cX11_lay 32 = .ok (.ifCond .le 5, 3) := by decide +kernel
theorem dX11_lay_35 : decode cX11_lay 35 = .ok (.iconst 0, 1) := by decide +kernel
theorem dX11_lay_36 : decode cX11_lay 36 = .ok (.ireturn, 1) := by decide +kernel
theorem dX11_lay_37 : decode cX11_lay 37 = .ok (.aload_n 0, 1) := by decide +kernel
theorem dX11_lay_38 : decode cX11_lay 38 = .ok (.invokevirtual 367, 3) := by decide +kernel
theorem dX11_lay_41 : decode cX11_lay 41 = .ok (.aload_n 0, 1) := by decide +kernel
theorem dX11_lay_42 : decode cX11_lay 42 = .ok (.lload_n 1, 1) := by decide +kernel
theorem dX11_lay_43 : decode cX11_lay 43 = .ok (.invokevirtual 336, 3) := by decide +kernel
theorem dX11_lay_46 : decode cX11_lay 46 = .ok (.aload_n 0, 1) := by decide +kernel
theorem dX11_lay_47 : decode cX11_lay 47 = .ok (.invokevirtual 374, 3) := by decide +kernel
theorem dX11_lay_50 : decode cX11_lay 50 = .ok (.aload_n 0, 1) := by decide +kernel
theorem dX11_lay_51 : decode cX11_lay 51 = .ok (.invokevirtual 313, 3) := by decide +kernel
theorem dX11_lay_54 : decode cX11_lay 54 = .ok (.ireturn, 1) := by decide +kernel
def sX11_lay (F : Nat) (l0 : Nat) (l1 : Int64) (h : HP) : Option (Int32 × HP) :=
  (dO h 11 (some l0)).bind fun a1 =>
  (sX11_laysBest F a1 h).bind fun h2 =>
  (if (lg_cmp l1 (0 : Int64)) < 0 then
      some (1 : Int32)
    else
      (gJ h2 11 (some l0) 18).bind fun t4 =>
      if 0 ≤ (lg_cmp l1 t4) then
        some (1 : Int32)
      else
        some (0 : Int32)).bind fun s3 =>
  (pI h2 11 (some l0) 0 s3).bind fun h5 =>
  (gI h5 11 (some l0) 0).bind fun t6 =>
  if t6 ≤ 0 then
    (dO h5 11 (some l0)).bind fun a7 =>
    (sX11_remembers F a7 h5).bind fun h8 =>
    (dO h8 11 (some l0)).bind fun a9 =>
    (sX11_tellsBest F a9 l1 h8).bind fun h10 =>
    (dO h10 11 (some l0)).bind fun a11 =>
    (sX11_laysTold F a11 h10).bind fun h12 =>
    (dO h12 11 (some l0)).bind fun a13 =>
    (sX11_gapsNow F a13 h12).bind fun t14 =>
    some (t14, h12)
  else
    some ((0 : Int32), h5)
abbrev rm_X11_lay : Room := { frames := 7, cells := 0, slots := 0, locals := 174 }
set_option maxRecDepth 100000 in
set_option maxHeartbeats 4000000 in
theorem mt_X11_lay {w : WD} {l : Launch} {F : Nat} {l0 : Nat} {l1 : Int64} {h : HP} {v : Int32} {h' : HP} (hs : sX11_lay F l0 l1 h = some (v, h')) : MI w l yX11_lay cX11_lay 3 .int rm_X11_lay 0 0 [rf w (some l0), .long l1] h v h' := by
  refine of_body [(0, rf w (some l0)), (1, .long l1)] (by decide) (by simp [lg_sl, rf_cat, cat_i, cat_l, cat_a]) (by simp [lv_args, rf_cat, cat_i, cat_l, cat_a]) ?_
  intro x hw_ hnL_ hl_ hc hret hnm hQ
  subst hw_; subst hl_
  have hnl : ∀ i, i < 3 → i < x.nL := fun i h => by rw [hnL_]; exact h
  have hw : wpO (sX11_lay F l0 l1 h) (fun r => r = (v, h')) := ⟨_, hs, rfl⟩
  unfold sX11_lay at hw
  refine R_aload_n (q := 0) (i := 0) (v := (some l0)) hc dX11_lay_0 rfl rfl ?_
  refine R_cVVi (As := []) (rest := []) (r := (some l0)) (ci := 11) hc ml_11_333 mf_X11_laysBest rfl (by decide) ⟨rfl, rfl⟩ ⟨le_b rfl, le_b rfl⟩ ⟨Nat.zero_le _, Nat.zero_le _⟩ (fun a h' e => mt_X11_laysBest e) rfl rfl (Nat.zero_le _) dX11_lay_1 hw (fun h2 hw => ?_)
  refine R_aload_n (q := 0) (i := 0) (v := (some l0)) hc dX11_lay_4 rfl rfl ?_
  refine R_lload_n (q := 1) (i := 1) (v := l1) hc dX11_lay_5 rfl rfl ?_
  refine R_lconst (v := (0 : Int64)) hc dX11_lay_6 kL_0 ?_
  refine R_lcmp hc dX11_lay_7 ?_
  refine R_join (fun (s3 : Int32) => Rn x 0 0 25 [(0, rf x.w (some l0)), (1, .long l1)] [.int s3, rf x.w (some l0)] h2) hw (fun r hw => ?_) (fun hw => ?_)
  · revert r hw
    intro s3 hw
    show Rn x 0 0 25 [(0, rf x.w (some l0)), (1, .long l1)] [.int s3, rf x.w (some l0)] h2
    refine R_putI hc pl_11_100 rfl rfl dX11_lay_25 hw (fun h5 hw => ?_)
    refine R_aload_n (q := 0) (i := 0) (v := (some l0)) hc dX11_lay_28 rfl rfl ?_
    refine R_getI hc fl_11_100 dX11_lay_29 hw (fun t6 hw => ?_)
    refine R_if_le (tgt := 37) hc dX11_lay_32 (by decide) hw (fun hw => ?_) (fun hw => ?_)
    · refine R_aload_n (q := 0) (i := 0) (v := (some l0)) hc dX11_lay_37 rfl rfl ?_
      refine R_cVVi (As := []) (rest := []) (r := (some l0)) (ci := 11) hc ml_11_367 mf_X11_remembers rfl (by decide) ⟨rfl, rfl⟩ ⟨le_b rfl, le_b rfl⟩ ⟨Nat.zero_le _, Nat.zero_le _⟩ (fun a h' e => mt_X11_remembers e) rfl rfl (Nat.zero_le _) dX11_lay_38 hw (fun h8 hw => ?_)
      refine R_aload_n (q := 0) (i := 0) (v := (some l0)) hc dX11_lay_41 rfl rfl ?_
      refine R_lload_n (q := 1) (i := 1) (v := l1) hc dX11_lay_42 rfl rfl ?_
      refine R_cVVi (As := [.long l1]) (rest := []) (r := (some l0)) (ci := 11) hc ml_11_336 mf_X11_tellsBest rfl (by decide) ⟨rfl, rfl⟩ ⟨le_b rfl, le_b rfl⟩ ⟨Nat.zero_le _, Nat.zero_le _⟩ (fun a h' e => mt_X11_tellsBest e) rfl rfl (Nat.zero_le _) dX11_lay_43 hw (fun h10 hw => ?_)
      refine R_aload_n (q := 0) (i := 0) (v := (some l0)) hc dX11_lay_46 rfl rfl ?_
      refine R_cVVi (As := []) (rest := []) (r := (some l0)) (ci := 11) hc ml_11_374 mf_X11_laysTold rfl (by decide) ⟨rfl, rfl⟩ ⟨le_b rfl, le_b rfl⟩ ⟨Nat.zero_le _, Nat.zero_le _⟩ (fun a h' e => mt_X11_laysTold e) rfl rfl (Nat.zero_le _) dX11_lay_47 hw (fun h12 hw => ?_)
      refine R_aload_n (q := 0) (i := 0) (v := (some l0)) hc dX11_lay_50 rfl rfl ?_
      refine R_cVI (As := []) (rest := []) (r := (some l0)) (ci := 11) hc ml_11_313 mf_X11_gapsNow rfl (by decide) ⟨rfl, rfl⟩ ⟨le_b rfl, le_b rfl⟩ ⟨Nat.zero_le _, Nat.zero_le _⟩ (fun a v e => mt_X11_gapsNow e) rfl rfl (Nat.zero_le _) dX11_lay_51 hw (fun t14 hw => ?_)
      exact R_ireturn hc hret rfl hQ hw dX11_lay_54
    · refine R_iconst (v := (0 : Int32)) hc dX11_lay_35 kI_0 ?_
      exact R_ireturn hc hret rfl hQ hw dX11_lay_36
  · refine R_if_lt (tgt := 24) hc dX11_lay_8 (by decide) hw (fun hw => ?_) (fun hw => ?_)
    · refine R_iconst (v := (1 : Int32)) hc dX11_lay_24 kI_1 ?_
      refine R_sub hc [0, 1] rfl ?_
      exact (wpO_some hw :)
    · refine R_lload_n (q := 1) (i := 1) (v := l1) hc dX11_lay_11 rfl rfl ?_
      refine R_aload_n (q := 0) (i := 0) (v := (some l0)) hc dX11_lay_12 rfl rfl ?_
      refine R_getJ hc fl_11_145 dX11_lay_13 hw (fun t4 hw => ?_)
      refine R_lcmp hc dX11_lay_16 ?_
      refine R_if_ge (tgt := 24) hc dX11_lay_17 (by decide) hw (fun hw => ?_) (fun hw => ?_)
      · refine R_iconst (v := (1 : Int32)) hc dX11_lay_24 kI_1 ?_
        refine R_sub hc [0, 1] rfl ?_
        exact (wpO_some hw :)
      · refine R_iconst (v := (0 : Int32)) hc dX11_lay_20 kI_0 ?_
        refine R_goto (tgt := 25) hc dX11_lay_21 (by decide) ?_
        refine R_sub hc [0, 1] rfl ?_
        exact (wpO_some hw :)
theorem dX11_undo_0 : decode cX11_undo 0 = .ok (.aload_n 0, 1) := by decide +kernel
theorem dX11_undo_1 : decode cX11_undo 1 = .ok (.aload_n 0, 1) := by decide +kernel
theorem dX11_undo_2 : decode cX11_undo 2 = .ok (.getfield 288, 3) := by decide +kernel
theorem dX11_undo_5 : decode cX11_undo 5 = .ok (.ifCond .ne 7, 3) := by decide +kernel
theorem dX11_undo_8 : decode cX11_undo 8 = .ok (.iconst 1, 1) := by decide +kernel
theorem dX11_undo_9 : decode cX11_undo 9 = .ok (.goto 4, 3) := by decide +kernel
theorem dX11_undo_12 : decode cX11_undo 12 = .ok (.iconst 0, 1) := by decide +kernel
theorem dX11_undo_13 : decode cX11_undo 13 = .ok (.putfield 100, 3) := by decide +kernel
theorem dX11_undo_16 : decode cX11_undo 16 = .ok (.aload_n 0, 1) := by decide +kernel
theorem dX11_undo_17 : decode cX11_undo 17 = .ok (.getfield 100, 3) := by decide +kernel
theorem dX11_undo_20 : decode cX11_undo 20 = .ok (.ifCond .le 5, 3) := by decide +kernel
theorem dX11_undo_23 : decode cX11_undo 23 = .ok (.iconst 0, 1) := by decide +kernel
theorem dX11_undo_24 : decode cX11_undo 24 = .ok (.ireturn, 1) := by decide +kernel
theorem dX11_undo_25 : decode cX11_undo 25 = .ok (.aload_n 0, 1) := by decide +kernel
theorem dX11_undo_26 : decode cX11_undo 26 = .ok (.dup, 1) := by decide +kernel
theorem dX11_undo_27 : decode cX11_undo 27 = .ok (.getfield 288, 3) := by decide +kernel
theorem dX11_undo_30 : decode cX11_undo 30 = .ok (.iconst 1, 1) := by decide +kernel
theorem dX11_undo_31 : decode cX11_undo 31 = .ok (.isub, 1) := by decide +kernel
theorem dX11_undo_32 : decode cX11_undo 32 = .ok (.putfield 288, 3) := by decide +kernel
theorem dX11_undo_35 : decode cX11_undo 35 = .ok (.aload_n 0, 1) := by decide +kernel
theorem dX11_undo_36 : decode cX11_undo 36 = .ok (.aload_n 0, 1) := by decide +kernel
theorem dX11_undo_37 : decode cX11_undo 37 = .ok (.getfield 13, 3) := by decide +kernel
theorem dX11_undo_40 : decode cX11_undo 40 = .ok (.bipush 16, 2) := by decide +kernel
theorem dX11_undo_42 : decode cX11_undo 42 = .ok (.aload_n 0, 1) := by decide +kernel
theorem dX11_undo_43 : decode cX11_undo 43 = .ok (.getfield 288, 3) := by decide +kernel
theorem dX11_undo_46 : decode cX11_undo 46 = .ok (.imul, 1) := by decide +kernel
theorem dX11_undo_47 : decode cX11_undo 47 = .ok (.aload_n 0, 1) := by decide +kernel
theorem dX11_undo_48 : decode cX11_undo 48 = .ok (.getfield 7, 3) := by decide +kernel
theorem dX11_undo_51 : decode cX11_undo 51 = .ok (.bipush 81, 2) := by decide +kernel
theorem dX11_undo_53 : decode cX11_undo 53 = .ok (.invokevirtual 363, 3) := by decide +kernel
theorem dX11_undo_56 : decode cX11_undo 56 = .ok (.aload_n 0, 1) := by decide +kernel
theorem dX11_undo_57 : decode cX11_undo 57 = .ok (.getfield 288, 3) := by decide +kernel
theorem dX11_undo_60 : decode cX11_undo 60 = .ok (.ireturn, 1) := by decide +kernel
def sX11_undo (F : Nat) (l0 : Nat) (h : HP) : Option (Int32 × HP) :=
  (gI h 11 (some l0) 3).bind fun t1 =>
  (if ¬ t1 = 0 then
      some (0 : Int32)
    else
      some (1 : Int32)).bind fun s2 =>
  (pI h 11 (some l0) 0 s2).bind fun h3 =>
  (gI h3 11 (some l0) 0).bind fun t4 =>
  if t4 ≤ 0 then
    (gI h3 11 (some l0) 3).bind fun t5 =>
    (pI h3 11 (some l0) 3 (t5 - (1 : Int32))).bind fun h6 =>
    (gR h6 11 (some l0) 2).bind fun t7 =>
    (gI h6 11 (some l0) 3).bind fun t8 =>
    (gR h6 11 (some l0) 1).bind fun t9 =>
    (dO h6 11 (some l0)).bind fun a10 =>
    (sX11_copies F a10 t7 ((16 : Int32) * t8) t9 (81 : Int32) h6).bind fun h11 =>
    (gI h11 11 (some l0) 3).bind fun t12 =>
    some (t12, h11)
  else
    some ((0 : Int32), h3)
abbrev rm_X11_undo : Room := { frames := 1, cells := 0, slots := 0, locals := 25 }
set_option maxRecDepth 100000 in
set_option maxHeartbeats 4000000 in
theorem mt_X11_undo {w : WD} {l : Launch} {F : Nat} {l0 : Nat} {h : HP} {v : Int32} {h' : HP} (hs : sX11_undo F l0 h = some (v, h')) : MI w l yX11_undo cX11_undo 1 .int rm_X11_undo 0 0 [rf w (some l0)] h v h' := by
  refine of_body [(0, rf w (some l0))] (by decide) (by simp [lg_sl, rf_cat, cat_i, cat_l, cat_a]) (by simp [lv_args, rf_cat, cat_i, cat_l, cat_a]) ?_
  intro x hw_ hnL_ hl_ hc hret hnm hQ
  subst hw_; subst hl_
  have hnl : ∀ i, i < 1 → i < x.nL := fun i h => by rw [hnL_]; exact h
  have hw : wpO (sX11_undo F l0 h) (fun r => r = (v, h')) := ⟨_, hs, rfl⟩
  unfold sX11_undo at hw
  refine R_aload_n (q := 0) (i := 0) (v := (some l0)) hc dX11_undo_0 rfl rfl ?_
  refine R_aload_n (q := 0) (i := 0) (v := (some l0)) hc dX11_undo_1 rfl rfl ?_
  refine R_getI hc fl_11_288 dX11_undo_2 hw (fun t1 hw => ?_)
  refine R_join (fun (s2 : Int32) => Rn x 0 0 13 [(0, rf x.w (some l0))] [.int s2, rf x.w (some l0)] h) hw (fun r hw => ?_) (fun hw => ?_)
  · revert r hw
    intro s2 hw
    show Rn x 0 0 13 [(0, rf x.w (some l0))] [.int s2, rf x.w (some l0)] h
    refine R_putI hc pl_11_100 rfl rfl dX11_undo_13 hw (fun h3 hw => ?_)
    refine R_aload_n (q := 0) (i := 0) (v := (some l0)) hc dX11_undo_16 rfl rfl ?_
    refine R_getI hc fl_11_100 dX11_undo_17 hw (fun t4 hw => ?_)
    refine R_if_le (tgt := 25) hc dX11_undo_20 (by decide) hw (fun hw => ?_) (fun hw => ?_)
    · refine R_aload_n (q := 0) (i := 0) (v := (some l0)) hc dX11_undo_25 rfl rfl ?_
      refine R_dup hc dX11_undo_26 (rf_cat _ _) ?_
      refine R_getI hc fl_11_288 dX11_undo_27 hw (fun t5 hw => ?_)
      refine R_iconst (v := (1 : Int32)) hc dX11_undo_30 kI_1 ?_
      refine R_isub hc dX11_undo_31 ?_
      refine R_putI hc pl_11_288 rfl rfl dX11_undo_32 hw (fun h6 hw => ?_)
      refine R_aload_n (q := 0) (i := 0) (v := (some l0)) hc dX11_undo_35 rfl rfl ?_
      refine R_aload_n (q := 0) (i := 0) (v := (some l0)) hc dX11_undo_36 rfl rfl ?_
      refine R_getR hc fl_11_13 dX11_undo_37 hw (fun t7 hw => ?_)
      refine R_bipush (v := (16 : Int32)) hc dX11_undo_40 kB_16 ?_
      refine R_aload_n (q := 0) (i := 0) (v := (some l0)) hc dX11_undo_42 rfl rfl ?_
      refine R_getI hc fl_11_288 dX11_undo_43 hw (fun t8 hw => ?_)
      refine R_imul hc dX11_undo_46 ?_
      refine R_aload_n (q := 0) (i := 0) (v := (some l0)) hc dX11_undo_47 rfl rfl ?_
      refine R_getR hc fl_11_7 dX11_undo_48 hw (fun t9 hw => ?_)
      refine R_bipush (v := (81 : Int32)) hc dX11_undo_51 kB_81 ?_
      refine R_cVVi (As := [rf x.w t7, .int ((16 : Int32) * t8), rf x.w t9, .int (81 : Int32)]) (rest := []) (r := (some l0)) (ci := 11) hc ml_11_363 mf_X11_copies rfl (by decide) ⟨rfl, rfl⟩ ⟨le_b rfl, le_b rfl⟩ ⟨Nat.zero_le _, Nat.zero_le _⟩ (fun a h' e => mt_X11_copies e) rfl rfl (Nat.zero_le _) dX11_undo_53 hw (fun h11 hw => ?_)
      refine R_aload_n (q := 0) (i := 0) (v := (some l0)) hc dX11_undo_56 rfl rfl ?_
      refine R_getI hc fl_11_288 dX11_undo_57 hw (fun t12 hw => ?_)
      exact R_ireturn hc hret rfl hQ hw dX11_undo_60
    · refine R_iconst (v := (0 : Int32)) hc dX11_undo_23 kI_0 ?_
      exact R_ireturn hc hret rfl hQ hw dX11_undo_24
  · refine R_if_ne (tgt := 12) hc dX11_undo_5 (by decide) hw (fun hw => ?_) (fun hw => ?_)
    · refine R_iconst (v := (0 : Int32)) hc dX11_undo_12 kI_0 ?_
      refine R_sub hc [0] rfl ?_
      exact (wpO_some hw :)
    · refine R_iconst (v := (1 : Int32)) hc dX11_undo_8 kI_1 ?_
      refine R_goto (tgt := 13) hc dX11_undo_9 (by decide) ?_
      refine R_sub hc [0] rfl ?_
      exact (wpO_some hw :)
theorem dX11_tries_0 : decode cX11_tries 0 = .ok (.aload_n 0, 1) := by decide +kernel
theorem dX11_tries_1 : decode cX11_tries 1 = .ok (.invokevirtual 313, 3) := by decide +kernel
theorem dX11_tries_4 : decode cX11_tries 4 = .ok (.istore 4, 2) := by decide +kernel
theorem dX11_tries_6 : decode cX11_tries 6 = .ok (.aload_n 0, 1) := by decide +kernel
theorem dX11_tries_7 : decode cX11_tries 7 = .ok (.aload_n 0, 1) := by decide +kernel
theorem dX11_tries_8 : decode cX11_tries 8 = .ok (.getfield 51, 3) := by decide +kernel
theorem dX11_tries_11 : decode cX11_tries 11 = .ok (.iconst 0, 1) := by decide +kernel
theorem dX11_tries_12 : decode cX11_tries 12 = .ok (.aload_n 0, 1) := by decide +kernel
theorem dX11_tries_13 : decode cX11_tries 13 = .ok (.getfield 7, 3) := by decide +kernel
theorem dX11_tries_16 : decode cX11_tries 16 = .ok (.bipush 81, 2) := by decide +kernel
theorem dX11_tries_18 : decode cX11_tries 18 = .ok (.invokevirtual 363, 3) := by decide +kernel
theorem dX11_tries_21 : decode cX11_tries 21 = .ok (.aload_n 0, 1) := by decide +kernel
theorem dX11_tries_22 : decode cX11_tries 22 = .ok (.getfield 93, 3) := by decide +kernel
theorem dX11_tries_25 : decode cX11_tries 25 = .ok (.iconst 1, 1) := by decide +kernel
theorem dX11_tries_26 : decode cX11_tries 26 = .ok (.iaload, 1) := by decide +kernel
theorem dX11_tries_27 : decode cX11_tries 27 = .ok (.iconst (-1), 1) := by decide +kernel
theorem dX11_tries_28 : decode cX11_tries 28 = .ok (.if_icmp .eq 15, 3) := by decide +kernel
theorem dX11_tries_31 : decode cX11_tries 31 = .ok (.iload 4, 2) := by decide +kernel
theorem dX11_tries_33 : decode cX11_tries 33 = .ok (.aload_n 0, 1) := by decide +kernel
theorem dX11_tries_34 : decode cX11_tries 34 = .ok (.getfield 93, 3) := by decide +kernel
theorem dX11_tries_37 : decode cX11_tries 37 = .ok (.iconst 0, 1) := by decide +kernel
theorem dX11_tries_38 : decode cX11_tries 38 = .ok (.iaload, 1) := by decide +kernel
theorem dX11_tries_39 : decode cX11_tries 39 = .ok (.if_icmp .lt 4, 3) := by decide +kernel
theorem dX11_tries_42 : decode cX11_tries 42 = .ok (.return_, 1) := by decide +kernel
theorem dX11_tries_43 : decode cX11_tries 43 = .ok (.aload_n 0, 1) := by decide +kernel
theorem dX11_tries_44 : decode cX11_tries 44 = .ok (.getfield 93, 3) := by decide +kernel
theorem dX11_tries_47 : decode cX11_tries 47 = .ok (.iconst 0, 1) := by decide +kernel
theorem dX11_tries_48 : decode cX11_tries 48 = .ok (.iload 4, 2) := by decide +kernel
theorem dX11_tries_50 : decode cX11_tries 50 = .ok (.iastore, 1) := by decide +kernel
theorem dX11_tries_51 : decode cX11_tries 51 = .ok (.aload_n 0, 1) := by decide +kernel
theorem dX11_tries_52 : decode cX11_tries 52 = .ok (.getfield 93, 3) := by decide +kernel
theorem dX11_tries_55 : decode cX11_tries 55 = .ok (.iconst 1, 1) := by decide +kernel
theorem dX11_tries_56 : decode cX11_tries 56 = .ok (.iload_n 1, 1) := by decide +kernel
theorem dX11_tries_57 : decode cX11_tries 57 = .ok (.iastore, 1) := by decide +kernel
theorem dX11_tries_58 : decode cX11_tries 58 = .ok (.aload_n 0, 1) := by decide +kernel
theorem dX11_tries_59 : decode cX11_tries 59 = .ok (.getfield 93, 3) := by decide +kernel
theorem dX11_tries_62 : decode cX11_tries 62 = .ok (.iconst 2, 1) := by decide +kernel
theorem dX11_tries_63 : decode cX11_tries 63 = .ok (.iload_n 2, 1) := by decide +kernel
theorem dX11_tries_64 : decode cX11_tries 64 = .ok (.iastore, 1) := by decide +kernel
theorem dX11_tries_65 : decode cX11_tries 65 = .ok (.aload_n 0, 1) := by decide +kernel
theorem dX11_tries_66 : decode cX11_tries 66 = .ok (.getfield 93, 3) := by decide +kernel
theorem dX11_tries_69 : decode cX11_tries 69 = .ok (.iconst 3, 1) := by decide +kernel
theorem dX11_tries_70 : decode cX11_tries 70 = .ok (.iload_n 3, 1) := by decide +kernel
theorem dX11_tries_71 : decode cX11_tries 71 = .ok (.iastore, 1) := by decide +kernel
theorem dX11_tries_72 : decode cX11_tries 72 = .ok (.return_, 1) := by decide +kernel
def sX11_tries (F : Nat) (l0 : Nat) (l1 : Int32) (l2 : Int32) (l3 : Int32) (h : HP) : Option HP :=
  (dO h 11 (some l0)).bind fun a1 =>
  (sX11_gapsNow F a1 h).bind fun t2 =>
  (gR h 11 (some l0) 22).bind fun t3 =>
  (gR h 11 (some l0) 1).bind fun t4 =>
  (dO h 11 (some l0)).bind fun a5 =>
  (sX11_copies F a5 t3 (0 : Int32) t4 (81 : Int32) h).bind fun h6 =>
  (gR h6 11 (some l0) 40).bind fun t7 =>
  (aI h6 13 t7 (1 : Int32)).bind fun t8 =>
  if t8 = (-1 : Int32) then
    (gR h6 11 (some l0) 40).bind fun t9 =>
    (sI h6 t9 (0 : Int32) t2).bind fun h10 =>
    (gR h10 11 (some l0) 40).bind fun t11 =>
    (sI h10 t11 (1 : Int32) l1).bind fun h12 =>
    (gR h12 11 (some l0) 40).bind fun t13 =>
    (sI h12 t13 (2 : Int32) l2).bind fun h14 =>
    (gR h14 11 (some l0) 40).bind fun t15 =>
    (sI h14 t15 (3 : Int32) l3).bind fun h16 =>
    some h16
  else
    (gR h6 11 (some l0) 40).bind fun t17 =>
    (aI h6 13 t17 (0 : Int32)).bind fun t18 =>
    if t2 < t18 then
      (gR h6 11 (some l0) 40).bind fun t19 =>
      (sI h6 t19 (0 : Int32) t2).bind fun h20 =>
      (gR h20 11 (some l0) 40).bind fun t21 =>
      (sI h20 t21 (1 : Int32) l1).bind fun h22 =>
      (gR h22 11 (some l0) 40).bind fun t23 =>
      (sI h22 t23 (2 : Int32) l2).bind fun h24 =>
      (gR h24 11 (some l0) 40).bind fun t25 =>
      (sI h24 t25 (3 : Int32) l3).bind fun h26 =>
      some h26
    else
      some h6
abbrev rm_X11_tries : Room := { frames := 6, cells := 0, slots := 0, locals := 139 }
set_option maxRecDepth 100000 in
set_option maxHeartbeats 4000000 in
theorem mt_X11_tries {w : WD} {l : Launch} {F : Nat} {l0 : Nat} {l1 : Int32} {l2 : Int32} {l3 : Int32} {h : HP} {h' : HP} (hs : sX11_tries F l0 l1 l2 l3 h = some h') : MV w l yX11_tries cX11_tries 5 rm_X11_tries 0 0 [rf w (some l0), .int l1, .int l2, .int l3] h h' := by
  refine of_body [(0, rf w (some l0)), (1, .int l1), (2, .int l2), (3, .int l3)] (by decide) (by simp [lg_sl, rf_cat, cat_i, cat_l, cat_a]) (by simp [lv_args, rf_cat, cat_i, cat_l, cat_a]) ?_
  intro x hw_ hnL_ hl_ hc hret hnm hQ
  subst hw_; subst hl_
  have hnl : ∀ i, i < 5 → i < x.nL := fun i h => by rw [hnL_]; exact h
  have hw : wpO (sX11_tries F l0 l1 l2 l3 h) (fun r => r = h') := ⟨_, hs, rfl⟩
  unfold sX11_tries at hw
  refine R_aload_n (q := 0) (i := 0) (v := (some l0)) hc dX11_tries_0 rfl rfl ?_
  refine R_cVI (As := []) (rest := []) (r := (some l0)) (ci := 11) hc ml_11_313 mf_X11_gapsNow rfl (by decide) ⟨rfl, rfl⟩ ⟨le_b rfl, le_b rfl⟩ ⟨Nat.zero_le _, Nat.zero_le _⟩ (fun a v e => mt_X11_gapsNow e) rfl rfl (Nat.zero_le _) dX11_tries_1 hw (fun t2 hw => ?_)
  refine R_istore (i := 4) (v := t2) hc [(4, .int t2), (0, rf x.w (some l0)), (1, .int l1), (2, .int l2), (3, .int l3)] dX11_tries_4 (hnl 4 (le_b rfl)) rfl ?_
  refine R_aload_n (q := 1) (i := 0) (v := (some l0)) hc dX11_tries_6 rfl rfl ?_
  refine R_aload_n (q := 1) (i := 0) (v := (some l0)) hc dX11_tries_7 rfl rfl ?_
  refine R_getR hc fl_11_51 dX11_tries_8 hw (fun t3 hw => ?_)
  refine R_iconst (v := (0 : Int32)) hc dX11_tries_11 kI_0 ?_
  refine R_aload_n (q := 1) (i := 0) (v := (some l0)) hc dX11_tries_12 rfl rfl ?_
  refine R_getR hc fl_11_7 dX11_tries_13 hw (fun t4 hw => ?_)
  refine R_bipush (v := (81 : Int32)) hc dX11_tries_16 kB_81 ?_
  refine R_cVVi (As := [rf x.w t3, .int (0 : Int32), rf x.w t4, .int (81 : Int32)]) (rest := []) (r := (some l0)) (ci := 11) hc ml_11_363 mf_X11_copies rfl (by decide) ⟨rfl, rfl⟩ ⟨le_b rfl, le_b rfl⟩ ⟨Nat.zero_le _, Nat.zero_le _⟩ (fun a h' e => mt_X11_copies e) rfl rfl (Nat.zero_le _) dX11_tries_18 hw (fun h6 hw => ?_)
  refine R_aload_n (q := 1) (i := 0) (v := (some l0)) hc dX11_tries_21 rfl rfl ?_
  refine R_getR hc fl_11_93 dX11_tries_22 hw (fun t7 hw => ?_)
  refine R_iconst (v := (1 : Int32)) hc dX11_tries_25 kI_1 ?_
  refine R_iaload hc dX11_tries_26 hw (fun t8 hw => ?_)
  refine R_iconst (v := (-1 : Int32)) hc dX11_tries_27 kI_m1 ?_
  refine R_icmp_eq (tgt := 43) hc dX11_tries_28 (by decide) hw (fun hw => ?_) (fun hw => ?_)
  · refine R_aload_n (q := 1) (i := 0) (v := (some l0)) hc dX11_tries_43 rfl rfl ?_
    refine R_getR hc fl_11_93 dX11_tries_44 hw (fun t9 hw => ?_)
    refine R_iconst (v := (0 : Int32)) hc dX11_tries_47 kI_0 ?_
    refine R_iload (q := 0) (i := 4) (v := t2) hc dX11_tries_48 rfl ?_
    refine R_iastore hc dX11_tries_50 hw (fun h10 hw => ?_)
    refine R_aload_n (q := 1) (i := 0) (v := (some l0)) hc dX11_tries_51 rfl rfl ?_
    refine R_getR hc fl_11_93 dX11_tries_52 hw (fun t11 hw => ?_)
    refine R_iconst (v := (1 : Int32)) hc dX11_tries_55 kI_1 ?_
    refine R_iload_n (q := 2) (i := 1) (v := l1) hc dX11_tries_56 rfl rfl ?_
    refine R_iastore hc dX11_tries_57 hw (fun h12 hw => ?_)
    refine R_aload_n (q := 1) (i := 0) (v := (some l0)) hc dX11_tries_58 rfl rfl ?_
    refine R_getR hc fl_11_93 dX11_tries_59 hw (fun t13 hw => ?_)
    refine R_iconst (v := (2 : Int32)) hc dX11_tries_62 kI_2 ?_
    refine R_iload_n (q := 3) (i := 2) (v := l2) hc dX11_tries_63 rfl rfl ?_
    refine R_iastore hc dX11_tries_64 hw (fun h14 hw => ?_)
    refine R_aload_n (q := 1) (i := 0) (v := (some l0)) hc dX11_tries_65 rfl rfl ?_
    refine R_getR hc fl_11_93 dX11_tries_66 hw (fun t15 hw => ?_)
    refine R_iconst (v := (3 : Int32)) hc dX11_tries_69 kI_3 ?_
    refine R_iload_n (q := 4) (i := 3) (v := l3) hc dX11_tries_70 rfl rfl ?_
    refine R_iastore hc dX11_tries_71 hw (fun h16 hw => ?_)
    exact R_return hc hret hQ hw dX11_tries_72
  · refine R_iload (q := 0) (i := 4) (v := t2) hc dX11_tries_31 rfl ?_
    refine R_aload_n (q := 1) (i := 0) (v := (some l0)) hc dX11_tries_33 rfl rfl ?_
    refine R_getR hc fl_11_93 dX11_tries_34 hw (fun t17 hw => ?_)
    refine R_iconst (v := (0 : Int32)) hc dX11_tries_37 kI_0 ?_
    refine R_iaload hc dX11_tries_38 hw (fun t18 hw => ?_)
    refine R_icmp_lt (tgt := 43) hc dX11_tries_39 (by decide) hw (fun hw => ?_) (fun hw => ?_)
    · refine R_aload_n (q := 1) (i := 0) (v := (some l0)) hc dX11_tries_43 rfl rfl ?_
      refine R_getR hc fl_11_93 dX11_tries_44 hw (fun t19 hw => ?_)
      refine R_iconst (v := (0 : Int32)) hc dX11_tries_47 kI_0 ?_
      refine R_iload (q := 0) (i := 4) (v := t2) hc dX11_tries_48 rfl ?_
      refine R_iastore hc dX11_tries_50 hw (fun h20 hw => ?_)
      refine R_aload_n (q := 1) (i := 0) (v := (some l0)) hc dX11_tries_51 rfl rfl ?_
      refine R_getR hc fl_11_93 dX11_tries_52 hw (fun t21 hw => ?_)
      refine R_iconst (v := (1 : Int32)) hc dX11_tries_55 kI_1 ?_
      refine R_iload_n (q := 2) (i := 1) (v := l1) hc dX11_tries_56 rfl rfl ?_
      refine R_iastore hc dX11_tries_57 hw (fun h22 hw => ?_)
      refine R_aload_n (q := 1) (i := 0) (v := (some l0)) hc dX11_tries_58 rfl rfl ?_
      refine R_getR hc fl_11_93 dX11_tries_59 hw (fun t23 hw => ?_)
      refine R_iconst (v := (2 : Int32)) hc dX11_tries_62 kI_2 ?_
      refine R_iload_n (q := 3) (i := 2) (v := l2) hc dX11_tries_63 rfl rfl ?_
      refine R_iastore hc dX11_tries_64 hw (fun h24 hw => ?_)
      refine R_aload_n (q := 1) (i := 0) (v := (some l0)) hc dX11_tries_65 rfl rfl ?_
      refine R_getR hc fl_11_93 dX11_tries_66 hw (fun t25 hw => ?_)
      refine R_iconst (v := (3 : Int32)) hc dX11_tries_69 kI_3 ?_
      refine R_iload_n (q := 4) (i := 3) (v := l3) hc dX11_tries_70 rfl rfl ?_
      refine R_iastore hc dX11_tries_71 hw (fun h26 hw => ?_)
      exact R_return hc hret hQ hw dX11_tries_72
    · exact R_return hc hret hQ hw dX11_tries_42
theorem dX11_better_0 : decode cX11_better 0 = .ok (.aload_n 0, 1) := by decide +kernel
theorem dX11_better_1 : decode cX11_better 1 = .ok (.iload_n 1, 1) := by decide +kernel
theorem dX11_better_2 : decode cX11_better 2 = .ok (.iconst 0, 1) := by decide +kernel
theorem dX11_better_3 : decode cX11_better 3 = .ok (.iconst 3, 1) := by decide +kernel
theorem dX11_better_4 : decode cX11_better 4 = .ok (.invokestatic 107, 3) := by decide +kernel
theorem dX11_better_7 : decode cX11_better 7 = .ok (.ifCond .eq 7, 3) := by decide +kernel
theorem dX11_better_10 : decode cX11_better 10 = .ok (.iconst 0, 1) := by decide +kernel
theorem dX11_better_11 : decode cX11_better 11 = .ok (.goto 4, 3) := by decide +kernel
theorem dX11_better_14 : decode cX11_better 14 = .ok (.iconst 1, 1) := by decide +kernel
theorem dX11_better_15 : decode cX11_better 15 = .ok (.putfield 100, 3) := by decide +kernel
theorem dX11_better_18 : decode cX11_better 18 = .ok (.aload_n 0, 1) := by decide +kernel
theorem dX11_better_19 : decode cX11_better 19 = .ok (.getfield 100, 3) := by decide +kernel
theorem dX11_better_22 : decode cX11_better 22 = .ok (.ifCond .le 5, 3) := by decide +kernel
theorem dX11_better_25 : decode cX11_better 25 = .ok (.iconst 0, 1) := by decide +kernel
theorem dX11_better_26 : decode cX11_better 26 = .ok (.ireturn, 1) := by decide +kernel
theorem dX11_better_27 : decode cX11_better 27 = .ok (.iconst 0, 1) := by decide +kernel
theorem dX11_better_28 : decode cX11_better 28 = .ok (.istore_n 2, 1) := by decide +kernel
theorem dX11_better_29 : decode cX11_better 29 = .ok (.iload_n 2, 1) := by decide +kernel
theorem dX11_better_30 : decode cX11_better 30 = .ok (.iconst 4, 1) := by decide +kernel
theorem dX11_better_31 : decode cX11_better 31 = .ok (.if_icmp .ge 16, 3) := by decide +kernel
theorem dX11_better_34 : decode cX11_better 34 = .ok (.aload_n 0, 1) := by decide +kernel
theorem dX11_better_35 : decode cX11_better 35 = .ok (.getfield 93, 3) := by decide +kernel
theorem dX11_better_38 : decode cX11_better 38 = .ok (.iload_n 2, 1) := by decide +kernel
theorem dX11_better_39 : decode cX11_better 39 = .ok (.iconst (-1), 1) := by decide +kernel
theorem dX11_better_40 : decode cX11_better 40 = .ok (.iastore, 1) := by decide +kernel
theorem dX11_better_41 : decode cX11_better 41 = .ok (.iinc 2 1, 3) := by decide +kernel
theorem dX11_better_44 : decode cX11_better 44 = .ok (.goto (-15), 3) := by decide +kernel
theorem dX11_better_47 : decode cX11_better 47 = .ok (.aload_n 0, 1) := by decide +kernel
theorem dX11_better_48 : decode cX11_better 48 = .ok (.aload_n 0, 1) := by decide +kernel
theorem dX11_better_49 : decode cX11_better 49 = .ok (.getfield 7, 3) := by decide +kernel
theorem dX11_better_52 : decode cX11_better 52 = .ok (.bipush 81, 2) := by decide +kernel
theorem dX11_better_54 : decode cX11_better 54 = .ok (.aload_n 0, 1) := by decide +kernel
theorem dX11_better_55 : decode cX11_better 55 = .ok (.getfield 51, 3) := by decide +kernel
theorem dX11_better_58 : decode cX11_better 58 = .ok (.iconst 0, 1) := by decide +kernel
theorem dX11_better_59 : decode cX11_better 59 = .ok (.invokevirtual 363, 3) := by decide +kernel
theorem dX11_better_62 : decode cX11_better 62 = .ok (.iconst 0, 1) := by decide +kernel
theorem dX11_better_63 : decode cX11_better 63 = .ok (.istore_n 2, 1) := by decide +kernel
theorem dX11_better_64 : decode cX11_better 64 = .ok (.iload_n 2, 1) := by decide +kernel
theorem dX11_better_65 : decode cX11_better 65 = .ok (.aload_n 0, 1) := by decide +kernel
theorem dX11_better_66 : decode cX11_better 66 = .ok (.invokevirtual 103, 3) := by decide +kernel
theorem dX11_better_69 : decode cX11_better 69 = .ok (.if_icmp .ge 51, 3) := by decide +kernel
theorem dX11_better_72 : decode cX11_better 72 = .ok (.iconst 0, 1) := by decide +kernel
theorem dX11_better_73 : decode cX11_better 73 = .ok (.istore_n 3, 1) := by decide +kernel
theorem dX11_better_74 : decode cX11_better 74 = .ok (.iload_n 3, 1) := by decide +kernel
theorem dX11_better_75 : decode cX11_better 75 = .ok (.iconst 4, 1) := by decide +kernel
theorem dX11_better_76 : decode cX11_better 76 = .ok (.if_icmp .ge 38, 3) := by decide +kernel
theorem dX11_better_79 : decode cX11_better 79 = .ok (.iload_n 3, 1) := by decide +kernel
theorem dX11_better_80 : decode cX11_better 80 = .ok (.aload_n 0, 1) := by decide +kernel
theorem dX11_better_81 : decode cX11_better 81 = .ok (.iload_n 2, 1) := by decide +kernel
theorem dX11_better_82 : decode cX11_better 82 = .ok (.invokevirtual 160, 3) := by decide +kernel
theorem dX11_better_85 : decode cX11_better 85 = .ok (.if_icmp .ne 6, 3) := by decide +kernel
theorem dX11_better_88 : decode cX11_better 88 = .ok (.goto 20, 3) := by decide +kernel
theorem dX11_better_91 : decode cX11_better 91 = .ok (.aload_n 0, 1) := by decide +kernel
theorem dX11_better_92 : decode cX11_better 92 = .ok (.getfield 7, 3) := by decide +kernel
theorem dX11_better_95 : decode cX11_better 95 = .ok (.bipush 89, 2) := by decide +kernel
theorem dX11_better_97 : decode cX11_better 97 = .ok (.iload_n 2, 1) := by decide +kernel
theorem dX11_better_98 : decode cX11_better 98 = .ok (.iadd, 1) := by decide +kernel
theorem dX11_better_99 : decode cX11_better 99 = .ok (.iload_n 3, 1) := by decide +kernel
theorem dX11_better_100 : decode cX11_better 100 = .ok (.iastore, 1) := by decide +kernel
theorem dX11_better_101 : decode cX11_better 101 = .ok (.aload_n 0, 1) := by decide +kernel
theorem dX11_better_102 : decode cX11_better 102 = .ok (.iconst 1, 1) := by decide +kernel
theorem dX11_better_103 : decode cX11_better 103 = .ok (.iload_n 2, 1) := by decide +kernel
theorem dX11_better_104 : decode cX11_better 104 = .ok (.iload_n 3, 1) := by decide +kernel
theorem dX11_better_105 : decode cX11_better 105 = .ok (.invokevirtual 377, 3) := by decide +kernel
theorem dX11_better_108 : decode cX11_better 108 = .ok (.iinc 3 1, 3) := by decide +kernel
theorem dX11_better_111 : decode cX11_better 111 = .ok (.goto (-37), 3) := by decide +kernel
theorem dX11_better_114 : decode cX11_better 114 = .ok (.iinc 2 1, 3) := by decide +kernel
theorem dX11_better_117 : decode cX11_better 117 = .ok (.goto (-53), 3) := by decide +kernel
theorem dX11_better_120 : decode cX11_better 120 = .ok (.iconst 0, 1) := by decide +kernel
theorem dX11_better_121 : decode cX11_better 121 = .ok (.istore_n 2, 1) := by decide +kernel
theorem dX11_better_122 : decode cX11_better 122 = .ok (.iload_n 2, 1) := by decide +kernel
theorem dX11_better_123 : decode cX11_better 123 = .ok (.aload_n 0, 1) := by decide +kernel
theorem dX11_better_124 : decode cX11_better 124 = .ok (.invokevirtual 103, 3) := by decide +kernel
theorem dX11_better_127 : decode cX11_better 127 = .ok (.if_icmp .ge 46, 3) := by decide +kernel
theorem dX11_better_130 : decode cX11_better 130 = .ok (.iconst 0, 1) := by decide +kernel
theorem dX11_better_131 : decode cX11_better 131 = .ok (.istore_n 3, 1) := by decide +kernel
theorem dX11_better_132 : decode cX11_better 132 = .ok (.iload_n 3, 1) := by decide +kernel
theorem dX11_better_133 : decode cX11_better 133 = .ok (.aload_n 0, 1) := by decide +kernel
theorem dX11_better_134 : decode cX11_better 134 = .ok (.invokevirtual 103, 3) := by decide +kernel
theorem dX11_better_137 : decode cX11_better 137 = .ok (.if_icmp .ge 30, 3) := by decide +kernel
theorem dX11_better_140 : decode cX11_better 140 = .ok (.iload_n 3, 1) := by decide +kernel
theorem dX11_better_141 : decode cX11_better 141 = .ok (.iload_n 2, 1) := by decide +kernel
theorem dX11_better_142 : decode cX11_better 142 = .ok (.if_icmp .ne 6, 3) := by decide +kernel
theorem dX11_better_145 : decode cX11_better 145 = .ok (.goto 16, 3) := by decide +kernel
theorem dX11_better_148 : decode cX11_better 148 = .ok (.aload_n 0, 1) := by decide +kernel
theorem dX11_better_149 : decode cX11_better 149 = .ok (.iload_n 2, 1) := by decide +kernel
theorem dX11_better_150 : decode cX11_better 150 = .ok (.iload_n 3, 1) := by decide +kernel
theorem dX11_better_151 : decode cX11_better 151 = .ok (.invokevirtual 370, 3) := by decide +kernel
theorem dX11_better_154 : decode cX11_better 154 = .ok (.aload_n 0, 1) := by decide +kernel
theorem dX11_better_155 : decode cX11_better 155 = .ok (.iconst 2, 1) := by decide +kernel
theorem dX11_better_156 : decode cX11_better 156 = .ok (.iload_n 2, 1) := by decide +kernel
theorem dX11_better_157 : decode cX11_better 157 = .ok (.iload_n 3, 1) := by decide +kernel
theorem dX11_better_158 : decode cX11_better 158 = .ok (.invokevirtual 377, 3) := by decide +kernel
theorem dX11_better_161 : decode cX11_better 161 = .ok (.iinc 3 1, 3) := by decide +kernel
theorem dX11_better_164 : decode cX11_better 164 = .ok (.goto (-32), 3) := by decide +kernel
theorem dX11_better_167 : decode cX11_better 167 = .ok (.iinc 2 1, 3) := by decide +kernel
theorem dX11_better_170 : decode cX11_better 170 = .ok (.goto (-48), 3) := by decide +kernel
theorem dX11_better_173 : decode cX11_better 173 = .ok (.aload_n 0, 1) := by decide +kernel
theorem dX11_better_174 : decode cX11_better 174 = .ok (.getfield 93, 3) := by decide +kernel
theorem dX11_better_177 : decode cX11_better 177 = .ok (.iload_n 1, 1) := by decide +kernel
theorem dX11_better_178 : decode cX11_better 178 = .ok (.iaload, 1) := by decide +kernel
theorem dX11_better_179 : decode cX11_better 179 = .ok (.ireturn, 1) := by decide +kernel
def sX11_better_L29 (F : Nat) (l0 : Nat) (l1 : Int32) (l2 : Int32) (h : HP) : Option ((Int32 × HP) ⊕ HP) :=
  if (4 : Int32) ≤ l2 then
    some (.inr h)
  else
    (gR h 11 (some l0) 40).bind fun t5 =>
    (sI h t5 l2 (-1 : Int32)).bind fun h6 =>
    some (.inl (l2 + (1 : Int32), h6))
def sX11_better_L74 (F : Nat) (l0 : Nat) (l1 : Int32) (l2 : Int32) (l3 : Int32) (h : HP) : Option ((Int32 × HP) ⊕ HP) :=
  if (4 : Int32) ≤ l3 then
    some (.inr h)
  else
    (dO h 11 (some l0)).bind fun a14 =>
    (sX11_turnAt F a14 l2 h).bind fun t15 =>
    if ¬ l3 = t15 then
      (gR h 11 (some l0) 1).bind fun t16 =>
      (sI h t16 ((89 : Int32) + l2) l3).bind fun h17 =>
      (dO h17 11 (some l0)).bind fun a18 =>
      (sX11_tries F a18 (1 : Int32) l2 l3 h17).bind fun h19 =>
      some (.inl (l3 + (1 : Int32), h19))
    else
      some (.inl (l3 + (1 : Int32), h))
def sX11_better_L64 (F : Nat) (l0 : Nat) (l1 : Int32) (l2 : Int32) (h : HP) : Option ((Int32 × HP) ⊕ HP) :=
  (dO h 11 (some l0)).bind fun a12 =>
  (sX11_fingers F a12 h).bind fun t13 =>
  if t13 ≤ l2 then
    some (.inr h)
  else
    (iter (fun s => sX11_better_L74 F l0 l1 l2 s.1 s.2) F ((0 : Int32), h)).bind fun h20 =>
      some (.inl (l2 + (1 : Int32), h20))
def sX11_better_L132 (F : Nat) (l0 : Nat) (l1 : Int32) (l2 : Int32) (l3 : Int32) (h : HP) : Option ((Int32 × HP) ⊕ HP) :=
  (dO h 11 (some l0)).bind fun a27 =>
  (sX11_fingers F a27 h).bind fun t28 =>
  if t28 ≤ l3 then
    some (.inr h)
  else
    if ¬ l3 = l2 then
      (dO h 11 (some l0)).bind fun a29 =>
      (sX11_moves F a29 l2 l3 h).bind fun h30 =>
      (dO h30 11 (some l0)).bind fun a31 =>
      (sX11_tries F a31 (2 : Int32) l2 l3 h30).bind fun h32 =>
      some (.inl (l3 + (1 : Int32), h32))
    else
      some (.inl (l3 + (1 : Int32), h))
def sX11_better_L122 (F : Nat) (l0 : Nat) (l1 : Int32) (l2 : Int32) (h : HP) : Option ((Int32 × HP) ⊕ HP) :=
  (dO h 11 (some l0)).bind fun a25 =>
  (sX11_fingers F a25 h).bind fun t26 =>
  if t26 ≤ l2 then
    some (.inr h)
  else
    (iter (fun s => sX11_better_L132 F l0 l1 l2 s.1 s.2) F ((0 : Int32), h)).bind fun h33 =>
      some (.inl (l2 + (1 : Int32), h33))
def sX11_better (F : Nat) (l0 : Nat) (l1 : Int32) (h : HP) : Option (Int32 × HP) :=
  (sX11_isIn F l1 (0 : Int32) (3 : Int32) h).bind fun t1 =>
  (if t1 = 0 then
      some (1 : Int32)
    else
      some (0 : Int32)).bind fun s2 =>
  (pI h 11 (some l0) 0 s2).bind fun h3 =>
  (gI h3 11 (some l0) 0).bind fun t4 =>
  if t4 ≤ 0 then
    (iter (fun s => sX11_better_L29 F l0 l1 s.1 s.2) F ((0 : Int32), h3)).bind fun h7 =>
      (gR h7 11 (some l0) 1).bind fun t8 =>
      (gR h7 11 (some l0) 22).bind fun t9 =>
      (dO h7 11 (some l0)).bind fun a10 =>
      (sX11_copies F a10 t8 (81 : Int32) t9 (0 : Int32) h7).bind fun h11 =>
      (iter (fun s => sX11_better_L64 F l0 l1 s.1 s.2) F ((0 : Int32), h11)).bind fun h24 =>
        (iter (fun s => sX11_better_L122 F l0 l1 s.1 s.2) F ((0 : Int32), h24)).bind fun h37 =>
          (gR h37 11 (some l0) 40).bind fun t38 =>
          (aI h37 13 t38 l1).bind fun t39 =>
          some (t39, h37)
  else
    some ((0 : Int32), h3)
abbrev rm_X11_better : Room := { frames := 7, cells := 0, slots := 0, locals := 163 }
set_option maxRecDepth 100000 in
set_option maxHeartbeats 4000000 in
theorem mt_X11_better {w : WD} {l : Launch} {F : Nat} {l0 : Nat} {l1 : Int32} {h : HP} {v : Int32} {h' : HP} (hs : sX11_better F l0 l1 h = some (v, h')) : MI w l yX11_better cX11_better 4 .int rm_X11_better 0 0 [rf w (some l0), .int l1] h v h' := by
  refine of_body [(0, rf w (some l0)), (1, .int l1)] (by decide) (by simp [lg_sl, rf_cat, cat_i, cat_l, cat_a]) (by simp [lv_args, rf_cat, cat_i, cat_l, cat_a]) ?_
  intro x hw_ hnL_ hl_ hc hret hnm hQ
  subst hw_; subst hl_
  have hnl : ∀ i, i < 4 → i < x.nL := fun i h => by rw [hnL_]; exact h
  have hw : wpO (sX11_better F l0 l1 h) (fun r => r = (v, h')) := ⟨_, hs, rfl⟩
  unfold sX11_better at hw
  refine R_aload_n (q := 0) (i := 0) (v := (some l0)) hc dX11_better_0 rfl rfl ?_
  refine R_iload_n (q := 1) (i := 1) (v := l1) hc dX11_better_1 rfl rfl ?_
  refine R_iconst (v := (0 : Int32)) hc dX11_better_2 kI_0 ?_
  refine R_iconst (v := (3 : Int32)) hc dX11_better_3 kI_3 ?_
  refine R_cSI (As := [.int l1, .int (0 : Int32), .int (3 : Int32)]) (rest := [rf x.w (some l0)]) hc ml_11_107 mf_X11_isIn ⟨rfl, rfl⟩ ⟨le_b rfl, le_b rfl⟩ ⟨Nat.zero_le _, Nat.zero_le _⟩ (fun v e => mt_X11_isIn e) rfl rfl (le_b rfl) dX11_better_4 hw (fun t1 hw => ?_)
  refine R_join (fun (s2 : Int32) => Rn x 0 0 15 [(0, rf x.w (some l0)), (1, .int l1)] [.int s2, rf x.w (some l0)] h) hw (fun r hw => ?_) (fun hw => ?_)
  · revert r hw
    intro s2 hw
    show Rn x 0 0 15 [(0, rf x.w (some l0)), (1, .int l1)] [.int s2, rf x.w (some l0)] h
    refine R_putI hc pl_11_100 rfl rfl dX11_better_15 hw (fun h3 hw => ?_)
    refine R_aload_n (q := 0) (i := 0) (v := (some l0)) hc dX11_better_18 rfl rfl ?_
    refine R_getI hc fl_11_100 dX11_better_19 hw (fun t4 hw => ?_)
    refine R_if_le (tgt := 27) hc dX11_better_22 (by decide) hw (fun hw => ?_) (fun hw => ?_)
    · refine R_iconst (v := (0 : Int32)) hc dX11_better_27 kI_0 ?_
      refine R_istore_n (i := 2) (v := (0 : Int32)) hc [(2, .int (0 : Int32)), (0, rf x.w (some l0)), (1, .int l1)] dX11_better_28 rfl (hnl 2 (le_b rfl)) rfl ?_
      refine R_sub hc [1, 2, 0] rfl ?_
      refine R_loop (P := fun (s : (Int32 × HP)) => Rn x 0 0 29 [(0, rf x.w (some l0)), (1, .int l1), (2, .int s.1)] [] s.2) (fun h7 => Rn x 0 0 47 [(0, rf x.w (some l0)), (1, .int l1)] [] h7) hw (fun r hw => ?_) (fun X hX s hw => ?_)
      · revert r hw
        intro h7 hw
        show Rn x 0 0 47 [(0, rf x.w (some l0)), (1, .int l1)] [] h7
        refine R_aload_n (q := 0) (i := 0) (v := (some l0)) hc dX11_better_47 rfl rfl ?_
        refine R_aload_n (q := 0) (i := 0) (v := (some l0)) hc dX11_better_48 rfl rfl ?_
        refine R_getR hc fl_11_7 dX11_better_49 hw (fun t8 hw => ?_)
        refine R_bipush (v := (81 : Int32)) hc dX11_better_52 kB_81 ?_
        refine R_aload_n (q := 0) (i := 0) (v := (some l0)) hc dX11_better_54 rfl rfl ?_
        refine R_getR hc fl_11_51 dX11_better_55 hw (fun t9 hw => ?_)
        refine R_iconst (v := (0 : Int32)) hc dX11_better_58 kI_0 ?_
        refine R_cVVi (As := [rf x.w t8, .int (81 : Int32), rf x.w t9, .int (0 : Int32)]) (rest := []) (r := (some l0)) (ci := 11) hc ml_11_363 mf_X11_copies rfl (by decide) ⟨rfl, rfl⟩ ⟨le_b rfl, le_b rfl⟩ ⟨Nat.zero_le _, Nat.zero_le _⟩ (fun a h' e => mt_X11_copies e) rfl rfl (Nat.zero_le _) dX11_better_59 hw (fun h11 hw => ?_)
        refine R_iconst (v := (0 : Int32)) hc dX11_better_62 kI_0 ?_
        refine R_istore_n (i := 2) (v := (0 : Int32)) hc [(2, .int (0 : Int32)), (0, rf x.w (some l0)), (1, .int l1)] dX11_better_63 rfl (hnl 2 (le_b rfl)) rfl ?_
        refine R_sub hc [1, 2, 0] rfl ?_
        refine R_loop (P := fun (s : (Int32 × HP)) => Rn x 0 0 64 [(0, rf x.w (some l0)), (1, .int l1), (2, .int s.1)] [] s.2) (fun h24 => Rn x 0 0 120 [(0, rf x.w (some l0)), (1, .int l1)] [] h24) hw (fun r hw => ?_) (fun X hX s hw => ?_)
        · revert r hw
          intro h24 hw
          show Rn x 0 0 120 [(0, rf x.w (some l0)), (1, .int l1)] [] h24
          refine R_iconst (v := (0 : Int32)) hc dX11_better_120 kI_0 ?_
          refine R_istore_n (i := 2) (v := (0 : Int32)) hc [(2, .int (0 : Int32)), (0, rf x.w (some l0)), (1, .int l1)] dX11_better_121 rfl (hnl 2 (le_b rfl)) rfl ?_
          refine R_sub hc [1, 2, 0] rfl ?_
          refine R_loop (P := fun (s : (Int32 × HP)) => Rn x 0 0 122 [(0, rf x.w (some l0)), (1, .int l1), (2, .int s.1)] [] s.2) (fun h37 => Rn x 0 0 173 [(0, rf x.w (some l0)), (1, .int l1)] [] h37) hw (fun r hw => ?_) (fun X hX s hw => ?_)
          · revert r hw
            intro h37 hw
            show Rn x 0 0 173 [(0, rf x.w (some l0)), (1, .int l1)] [] h37
            refine R_aload_n (q := 0) (i := 0) (v := (some l0)) hc dX11_better_173 rfl rfl ?_
            refine R_getR hc fl_11_93 dX11_better_174 hw (fun t38 hw => ?_)
            refine R_iload_n (q := 1) (i := 1) (v := l1) hc dX11_better_177 rfl rfl ?_
            refine R_iaload hc dX11_better_178 hw (fun t39 hw => ?_)
            exact R_ireturn hc hret rfl hQ hw dX11_better_179
          · obtain ⟨l2_41, h42⟩ := s
            show Rn x 0 0 122 [(0, rf x.w (some l0)), (1, .int l1), (2, .int l2_41)] [] h42
            have hw : wpO (sX11_better_L122 F l0 l1 l2_41 h42) _ := hw
            unfold sX11_better_L122 at hw
            refine R_iload_n (q := 2) (i := 2) (v := l2_41) hc dX11_better_122 rfl rfl ?_
            refine R_aload_n (q := 0) (i := 0) (v := (some l0)) hc dX11_better_123 rfl rfl ?_
            refine R_cVI (As := []) (rest := [.int l2_41]) (r := (some l0)) (ci := 11) hc ml_11_103 mf_X11_fingers rfl (by decide) ⟨rfl, rfl⟩ ⟨le_b rfl, le_b rfl⟩ ⟨Nat.zero_le _, Nat.zero_le _⟩ (fun a v e => mt_X11_fingers e) rfl rfl (le_b rfl) dX11_better_124 hw (fun t26 hw => ?_)
            refine R_icmp_ge (tgt := 173) hc dX11_better_127 (by decide) hw (fun hw => ?_) (fun hw => ?_)
            · refine R_sub hc [0, 1] rfl ?_
              exact (wpO_some hw :)
            · refine R_iconst (v := (0 : Int32)) hc dX11_better_130 kI_0 ?_
              refine R_istore_n (i := 3) (v := (0 : Int32)) hc [(3, .int (0 : Int32)), (0, rf x.w (some l0)), (1, .int l1), (2, .int l2_41)] dX11_better_131 rfl (hnl 3 (le_b rfl)) rfl ?_
              refine R_sub hc [1, 2, 3, 0] rfl ?_
              refine R_loop (P := fun (s : (Int32 × HP)) => Rn x 0 0 132 [(0, rf x.w (some l0)), (1, .int l1), (2, .int l2_41), (3, .int s.1)] [] s.2) (fun h33 => Rn x 0 0 167 [(0, rf x.w (some l0)), (1, .int l1), (2, .int l2_41)] [] h33) hw (fun r hw => ?_) (fun X hX s hw => ?_)
              · revert r hw
                intro h33 hw
                show Rn x 0 0 167 [(0, rf x.w (some l0)), (1, .int l1), (2, .int l2_41)] [] h33
                refine R_iinc (q := 2) (i := 2) (v := l2_41) hc [(2, .int (l2_41 + (1 : Int32))), (0, rf x.w (some l0)), (1, .int l1)] dX11_better_167 rfl (kC_1 _) (hnl 2 (le_b rfl)) rfl ?_
                refine R_goto (tgt := 122) hc dX11_better_170 (by decide) ?_
                refine R_sub hc [1, 2, 0] rfl ?_
                exact hX (l2_41 + (1 : Int32), h33) (wpO_some hw :)
              · obtain ⟨l3_35, h36⟩ := s
                show Rn x 0 0 132 [(0, rf x.w (some l0)), (1, .int l1), (2, .int l2_41), (3, .int l3_35)] [] h36
                have hw : wpO (sX11_better_L132 F l0 l1 l2_41 l3_35 h36) _ := hw
                unfold sX11_better_L132 at hw
                refine R_iload_n (q := 3) (i := 3) (v := l3_35) hc dX11_better_132 rfl rfl ?_
                refine R_aload_n (q := 0) (i := 0) (v := (some l0)) hc dX11_better_133 rfl rfl ?_
                refine R_cVI (As := []) (rest := [.int l3_35]) (r := (some l0)) (ci := 11) hc ml_11_103 mf_X11_fingers rfl (by decide) ⟨rfl, rfl⟩ ⟨le_b rfl, le_b rfl⟩ ⟨Nat.zero_le _, Nat.zero_le _⟩ (fun a v e => mt_X11_fingers e) rfl rfl (le_b rfl) dX11_better_134 hw (fun t28 hw => ?_)
                refine R_icmp_ge (tgt := 167) hc dX11_better_137 (by decide) hw (fun hw => ?_) (fun hw => ?_)
                · refine R_sub hc [0, 1, 2] rfl ?_
                  exact (wpO_some hw :)
                · refine R_iload_n (q := 3) (i := 3) (v := l3_35) hc dX11_better_140 rfl rfl ?_
                  refine R_iload_n (q := 2) (i := 2) (v := l2_41) hc dX11_better_141 rfl rfl ?_
                  refine R_icmp_ne (tgt := 148) hc dX11_better_142 (by decide) hw (fun hw => ?_) (fun hw => ?_)
                  · refine R_aload_n (q := 0) (i := 0) (v := (some l0)) hc dX11_better_148 rfl rfl ?_
                    refine R_iload_n (q := 2) (i := 2) (v := l2_41) hc dX11_better_149 rfl rfl ?_
                    refine R_iload_n (q := 3) (i := 3) (v := l3_35) hc dX11_better_150 rfl rfl ?_
                    refine R_cVVi (As := [.int l2_41, .int l3_35]) (rest := []) (r := (some l0)) (ci := 11) hc ml_11_370 mf_X11_moves rfl (by decide) ⟨rfl, rfl⟩ ⟨le_b rfl, le_b rfl⟩ ⟨Nat.zero_le _, Nat.zero_le _⟩ (fun a h' e => mt_X11_moves e) rfl rfl (Nat.zero_le _) dX11_better_151 hw (fun h30 hw => ?_)
                    refine R_aload_n (q := 0) (i := 0) (v := (some l0)) hc dX11_better_154 rfl rfl ?_
                    refine R_iconst (v := (2 : Int32)) hc dX11_better_155 kI_2 ?_
                    refine R_iload_n (q := 2) (i := 2) (v := l2_41) hc dX11_better_156 rfl rfl ?_
                    refine R_iload_n (q := 3) (i := 3) (v := l3_35) hc dX11_better_157 rfl rfl ?_
                    refine R_cVVi (As := [.int (2 : Int32), .int l2_41, .int l3_35]) (rest := []) (r := (some l0)) (ci := 11) hc ml_11_377 mf_X11_tries rfl (by decide) ⟨rfl, rfl⟩ ⟨le_b rfl, le_b rfl⟩ ⟨Nat.zero_le _, Nat.zero_le _⟩ (fun a h' e => mt_X11_tries e) rfl rfl (Nat.zero_le _) dX11_better_158 hw (fun h32 hw => ?_)
                    refine R_iinc (q := 3) (i := 3) (v := l3_35) hc [(3, .int (l3_35 + (1 : Int32))), (0, rf x.w (some l0)), (1, .int l1), (2, .int l2_41)] dX11_better_161 rfl (kC_1 _) (hnl 3 (le_b rfl)) rfl ?_
                    refine R_goto (tgt := 132) hc dX11_better_164 (by decide) ?_
                    refine R_sub hc [1, 2, 3, 0] rfl ?_
                    exact hX (l3_35 + (1 : Int32), h32) (wpO_some hw :)
                  · refine R_goto (tgt := 161) hc dX11_better_145 (by decide) ?_
                    refine R_iinc (q := 3) (i := 3) (v := l3_35) hc [(3, .int (l3_35 + (1 : Int32))), (0, rf x.w (some l0)), (1, .int l1), (2, .int l2_41)] dX11_better_161 rfl (kC_1 _) (hnl 3 (le_b rfl)) rfl ?_
                    refine R_goto (tgt := 132) hc dX11_better_164 (by decide) ?_
                    refine R_sub hc [1, 2, 3, 0] rfl ?_
                    exact hX (l3_35 + (1 : Int32), h36) (wpO_some hw :)
        · obtain ⟨l2_44, h45⟩ := s
          show Rn x 0 0 64 [(0, rf x.w (some l0)), (1, .int l1), (2, .int l2_44)] [] h45
          have hw : wpO (sX11_better_L64 F l0 l1 l2_44 h45) _ := hw
          unfold sX11_better_L64 at hw
          refine R_iload_n (q := 2) (i := 2) (v := l2_44) hc dX11_better_64 rfl rfl ?_
          refine R_aload_n (q := 0) (i := 0) (v := (some l0)) hc dX11_better_65 rfl rfl ?_
          refine R_cVI (As := []) (rest := [.int l2_44]) (r := (some l0)) (ci := 11) hc ml_11_103 mf_X11_fingers rfl (by decide) ⟨rfl, rfl⟩ ⟨le_b rfl, le_b rfl⟩ ⟨Nat.zero_le _, Nat.zero_le _⟩ (fun a v e => mt_X11_fingers e) rfl rfl (le_b rfl) dX11_better_66 hw (fun t13 hw => ?_)
          refine R_icmp_ge (tgt := 120) hc dX11_better_69 (by decide) hw (fun hw => ?_) (fun hw => ?_)
          · refine R_sub hc [0, 1] rfl ?_
            exact (wpO_some hw :)
          · refine R_iconst (v := (0 : Int32)) hc dX11_better_72 kI_0 ?_
            refine R_istore_n (i := 3) (v := (0 : Int32)) hc [(3, .int (0 : Int32)), (0, rf x.w (some l0)), (1, .int l1), (2, .int l2_44)] dX11_better_73 rfl (hnl 3 (le_b rfl)) rfl ?_
            refine R_sub hc [1, 2, 3, 0] rfl ?_
            refine R_loop (P := fun (s : (Int32 × HP)) => Rn x 0 0 74 [(0, rf x.w (some l0)), (1, .int l1), (2, .int l2_44), (3, .int s.1)] [] s.2) (fun h20 => Rn x 0 0 114 [(0, rf x.w (some l0)), (1, .int l1), (2, .int l2_44)] [] h20) hw (fun r hw => ?_) (fun X hX s hw => ?_)
            · revert r hw
              intro h20 hw
              show Rn x 0 0 114 [(0, rf x.w (some l0)), (1, .int l1), (2, .int l2_44)] [] h20
              refine R_iinc (q := 2) (i := 2) (v := l2_44) hc [(2, .int (l2_44 + (1 : Int32))), (0, rf x.w (some l0)), (1, .int l1)] dX11_better_114 rfl (kC_1 _) (hnl 2 (le_b rfl)) rfl ?_
              refine R_goto (tgt := 64) hc dX11_better_117 (by decide) ?_
              refine R_sub hc [1, 2, 0] rfl ?_
              exact hX (l2_44 + (1 : Int32), h20) (wpO_some hw :)
            · obtain ⟨l3_22, h23⟩ := s
              show Rn x 0 0 74 [(0, rf x.w (some l0)), (1, .int l1), (2, .int l2_44), (3, .int l3_22)] [] h23
              have hw : wpO (sX11_better_L74 F l0 l1 l2_44 l3_22 h23) _ := hw
              unfold sX11_better_L74 at hw
              refine R_iload_n (q := 3) (i := 3) (v := l3_22) hc dX11_better_74 rfl rfl ?_
              refine R_iconst (v := (4 : Int32)) hc dX11_better_75 kI_4 ?_
              refine R_icmp_ge (tgt := 114) hc dX11_better_76 (by decide) hw (fun hw => ?_) (fun hw => ?_)
              · refine R_sub hc [0, 1, 2] rfl ?_
                exact (wpO_some hw :)
              · refine R_iload_n (q := 3) (i := 3) (v := l3_22) hc dX11_better_79 rfl rfl ?_
                refine R_aload_n (q := 0) (i := 0) (v := (some l0)) hc dX11_better_80 rfl rfl ?_
                refine R_iload_n (q := 2) (i := 2) (v := l2_44) hc dX11_better_81 rfl rfl ?_
                refine R_cVI (As := [.int l2_44]) (rest := [.int l3_22]) (r := (some l0)) (ci := 11) hc ml_11_160 mf_X11_turnAt rfl (by decide) ⟨rfl, rfl⟩ ⟨le_b rfl, le_b rfl⟩ ⟨Nat.zero_le _, Nat.zero_le _⟩ (fun a v e => mt_X11_turnAt e) rfl rfl (le_b rfl) dX11_better_82 hw (fun t15 hw => ?_)
                refine R_icmp_ne (tgt := 91) hc dX11_better_85 (by decide) hw (fun hw => ?_) (fun hw => ?_)
                · refine R_aload_n (q := 0) (i := 0) (v := (some l0)) hc dX11_better_91 rfl rfl ?_
                  refine R_getR hc fl_11_7 dX11_better_92 hw (fun t16 hw => ?_)
                  refine R_bipush (v := (89 : Int32)) hc dX11_better_95 kB_89 ?_
                  refine R_iload_n (q := 2) (i := 2) (v := l2_44) hc dX11_better_97 rfl rfl ?_
                  refine R_iadd hc dX11_better_98 ?_
                  refine R_iload_n (q := 3) (i := 3) (v := l3_22) hc dX11_better_99 rfl rfl ?_
                  refine R_iastore hc dX11_better_100 hw (fun h17 hw => ?_)
                  refine R_aload_n (q := 0) (i := 0) (v := (some l0)) hc dX11_better_101 rfl rfl ?_
                  refine R_iconst (v := (1 : Int32)) hc dX11_better_102 kI_1 ?_
                  refine R_iload_n (q := 2) (i := 2) (v := l2_44) hc dX11_better_103 rfl rfl ?_
                  refine R_iload_n (q := 3) (i := 3) (v := l3_22) hc dX11_better_104 rfl rfl ?_
                  refine R_cVVi (As := [.int (1 : Int32), .int l2_44, .int l3_22]) (rest := []) (r := (some l0)) (ci := 11) hc ml_11_377 mf_X11_tries rfl (by decide) ⟨rfl, rfl⟩ ⟨le_b rfl, le_b rfl⟩ ⟨Nat.zero_le _, Nat.zero_le _⟩ (fun a h' e => mt_X11_tries e) rfl rfl (Nat.zero_le _) dX11_better_105 hw (fun h19 hw => ?_)
                  refine R_iinc (q := 3) (i := 3) (v := l3_22) hc [(3, .int (l3_22 + (1 : Int32))), (0, rf x.w (some l0)), (1, .int l1), (2, .int l2_44)] dX11_better_108 rfl (kC_1 _) (hnl 3 (le_b rfl)) rfl ?_
                  refine R_goto (tgt := 74) hc dX11_better_111 (by decide) ?_
                  refine R_sub hc [1, 2, 3, 0] rfl ?_
                  exact hX (l3_22 + (1 : Int32), h19) (wpO_some hw :)
                · refine R_goto (tgt := 108) hc dX11_better_88 (by decide) ?_
                  refine R_iinc (q := 3) (i := 3) (v := l3_22) hc [(3, .int (l3_22 + (1 : Int32))), (0, rf x.w (some l0)), (1, .int l1), (2, .int l2_44)] dX11_better_108 rfl (kC_1 _) (hnl 3 (le_b rfl)) rfl ?_
                  refine R_goto (tgt := 74) hc dX11_better_111 (by decide) ?_
                  refine R_sub hc [1, 2, 3, 0] rfl ?_
                  exact hX (l3_22 + (1 : Int32), h23) (wpO_some hw :)
      · obtain ⟨l2_47, h48⟩ := s
        show Rn x 0 0 29 [(0, rf x.w (some l0)), (1, .int l1), (2, .int l2_47)] [] h48
        have hw : wpO (sX11_better_L29 F l0 l1 l2_47 h48) _ := hw
        unfold sX11_better_L29 at hw
        refine R_iload_n (q := 2) (i := 2) (v := l2_47) hc dX11_better_29 rfl rfl ?_
        refine R_iconst (v := (4 : Int32)) hc dX11_better_30 kI_4 ?_
        refine R_icmp_ge (tgt := 47) hc dX11_better_31 (by decide) hw (fun hw => ?_) (fun hw => ?_)
        · refine R_sub hc [0, 1] rfl ?_
          exact (wpO_some hw :)
        · refine R_aload_n (q := 0) (i := 0) (v := (some l0)) hc dX11_better_34 rfl rfl ?_
          refine R_getR hc fl_11_93 dX11_better_35 hw (fun t5 hw => ?_)
          refine R_iload_n (q := 2) (i := 2) (v := l2_47) hc dX11_better_38 rfl rfl ?_
          refine R_iconst (v := (-1 : Int32)) hc dX11_better_39 kI_m1 ?_
          refine R_iastore hc dX11_better_40 hw (fun h6 hw => ?_)
          refine R_iinc (q := 2) (i := 2) (v := l2_47) hc [(2, .int (l2_47 + (1 : Int32))), (0, rf x.w (some l0)), (1, .int l1)] dX11_better_41 rfl (kC_1 _) (hnl 2 (le_b rfl)) rfl ?_
          refine R_goto (tgt := 29) hc dX11_better_44 (by decide) ?_
          refine R_sub hc [1, 2, 0] rfl ?_
          exact hX (l2_47 + (1 : Int32), h6) (wpO_some hw :)
    · refine R_iconst (v := (0 : Int32)) hc dX11_better_25 kI_0 ?_
      exact R_ireturn hc hret rfl hQ hw dX11_better_26
  · refine R_if_eq (tgt := 14) hc dX11_better_7 (by decide) hw (fun hw => ?_) (fun hw => ?_)
    · refine R_iconst (v := (1 : Int32)) hc dX11_better_14 kI_1 ?_
      refine R_sub hc [0, 1] rfl ?_
      exact (wpO_some hw :)
    · refine R_iconst (v := (0 : Int32)) hc dX11_better_10 kI_0 ?_
      refine R_goto (tgt := 15) hc dX11_better_11 (by decide) ?_
      refine R_sub hc [0, 1] rfl ?_
      exact (wpO_some hw :)
theorem dX11_shortest_0 : decode cX11_shortest 0 = .ok (.aload_n 0, 1) := by decide +kernel
theorem dX11_shortest_1 : decode cX11_shortest 1 = .ok (.iload_n 1, 1) := by decide +kernel
theorem dX11_shortest_2 : decode cX11_shortest 2 = .ok (.iconst 1, 1) := by decide +kernel
theorem dX11_shortest_3 : decode cX11_shortest 3 = .ok (.bipush 20, 2) := by decide +kernel
theorem dX11_shortest_5 : decode cX11_shortest 5 = .ok (.invokestatic 107, 3) := by decide +kernel
theorem dX11_shortest_8 : decode cX11_shortest 8 = .ok (.ifCond .eq 7, 3) := by decide +kernel
theorem dX11_shortest_11 : decode cX11_shortest 11 = .ok (.iconst 0, 1) := by decide +kernel
theorem dX11_shortest_12 : decode cX11_shortest 12 = .ok (.goto 4, 3) := by decide +kernel
theorem dX11_shortest_15 : decode cX11_shortest 15 = .ok (.iconst 1, 1) := by decide +kernel
theorem dX11_shortest_16 : decode cX11_shortest 16 = .ok (.putfield 100, 3) := by decide +kernel
theorem dX11_shortest_19 : decode cX11_shortest 19 = .ok (.aload_n 0, 1) := by decide +kernel
theorem dX11_shortest_20 : decode cX11_shortest 20 = .ok (.getfield 100, 3) := by decide +kernel
theorem dX11_shortest_23 : decode cX11_shortest 23 = .ok (.ifCond .le 5, 3) := by decide +kernel
theorem dX11_shortest_26 : decode cX11_shortest 26 = .ok (.iconst 0, 1) := by decide +kernel
theorem dX11_shortest_27 : decode cX11_shortest 27 = .ok (.ireturn, 1) := by decide +kernel
theorem dX11_shortest_28 : decode cX11_shortest 28 = .ok (.aload_n 0, 1) := by decide +kernel
theorem dX11_shortest_29 : decode cX11_shortest 29 = .ok (.invokevirtual 333, 3) := by decide +kernel
theorem dX11_shortest_32 : decode cX11_shortest 32 = .ok (.aload_n 0, 1) := by decide +kernel
theorem dX11_shortest_33 : decode cX11_shortest 33 = .ok (.aload_n 0, 1) := by decide +kernel
theorem dX11_shortest_34 : decode cX11_shortest 34 = .ok (.getfield 7, 3) := by decide +kernel
theorem dX11_shortest_37 : decode cX11_shortest 37 = .ok (.bipush 81, 2) := by decide +kernel
theorem dX11_shortest_39 : decode cX11_shortest 39 = .ok (.aload_n 0, 1) := by decide +kernel
theorem dX11_shortest_40 : decode cX11_shortest 40 = .ok (.getfield 51, 3) := by decide +kernel
theorem dX11_shortest_43 : decode cX11_shortest 43 = .ok (.iconst 0, 1) := by decide +kernel
theorem dX11_shortest_44 : decode cX11_shortest 44 = .ok (.invokevirtual 363, 3) := by decide +kernel
theorem dX11_shortest_47 : decode cX11_shortest 47 = .ok (.iconst (-1), 1) := by decide +kernel
theorem dX11_shortest_48 : decode cX11_shortest 48 = .ok (.istore_n 3, 1) := by decide +kernel
theorem dX11_shortest_49 : decode cX11_shortest 49 = .ok (.iconst 0, 1) := by decide +kernel
theorem dX11_shortest_50 : decode cX11_shortest 50 = .ok (.istore 4, 2) := by decide +kernel
theorem dX11_shortest_52 : decode cX11_shortest 52 = .ok (.iconst 0, 1) := by decide +kernel
theorem dX11_shortest_53 : decode cX11_shortest 53 = .ok (.istore 5, 2) := by decide +kernel
theorem dX11_shortest_55 : decode cX11_shortest 55 = .ok (.iload 5, 2) := by decide +kernel
theorem dX11_shortest_57 : decode cX11_shortest 57 = .ok (.iload_n 1, 1) := by decide +kernel
theorem dX11_shortest_58 : decode cX11_shortest 58 = .ok (.if_icmp .ge 61, 3) := by decide +kernel
theorem dX11_shortest_61 : decode cX11_shortest 61 = .ok (.iload 5, 2) := by decide +kernel
theorem dX11_shortest_63 : decode cX11_shortest 63 = .ok (.i2l, 1) := by decide +kernel
theorem dX11_shortest_64 : decode cX11_shortest 64 = .ok (.aload_n 0, 1) := by decide +kernel
theorem dX11_shortest_65 : decode cX11_shortest 65 = .ok (.getfield 145, 3) := by decide +kernel
theorem dX11_shortest_68 : decode cX11_shortest 68 = .ok (.lcmp, 1) := by decide +kernel
theorem dX11_shortest_69 : decode cX11_shortest 69 = .ok (.ifCond .ge 50, 3) := by decide +kernel
theorem dX11_shortest_72 : decode cX11_shortest 72 = .ok (.aload_n 0, 1) := by decide +kernel
theorem dX11_shortest_73 : decode cX11_shortest 73 = .ok (.iload 5, 2) := by decide +kernel
theorem dX11_shortest_75 : decode cX11_shortest 75 = .ok (.i2l, 1) := by decide +kernel
theorem dX11_shortest_76 : decode cX11_shortest 76 = .ok (.invokevirtual 336, 3) := by decide +kernel
theorem dX11_shortest_79 : decode cX11_shortest 79 = .ok (.aload_n 0, 1) := by decide +kernel
theorem dX11_shortest_80 : decode cX11_shortest 80 = .ok (.invokevirtual 374, 3) := by decide +kernel
theorem dX11_shortest_83 : decode cX11_shortest 83 = .ok (.aload_n 0, 1) := by decide +kernel
theorem dX11_shortest_84 : decode cX11_shortest 84 = .ok (.invokevirtual 304, 3) := by decide +kernel
theorem dX11_shortest_87 : decode cX11_shortest 87 = .ok (.iload_n 3, 1) := by decide +kernel
theorem dX11_shortest_88 : decode cX11_shortest 88 = .ok (.iconst (-1), 1) := by decide +kernel
theorem dX11_shortest_89 : decode cX11_shortest 89 = .ok (.if_icmp .eq 15, 3) := by decide +kernel
theorem dX11_shortest_92 : decode cX11_shortest 92 = .ok (.aload_n 0, 1) := by decide +kernel
theorem dX11_shortest_93 : decode cX11_shortest 93 = .ok (.invokevirtual 328, 3) := by decide +kernel
theorem dX11_shortest_96 : decode cX11_shortest 96 = .ok (.iload 4, 2) := by decide +kernel
theorem dX11_shortest_98 : decode cX11_shortest 98 = .ok (.if_icmp .lt 6, 3) := by decide +kernel
theorem dX11_shortest_101 : decode cX11_shortest 101 = .ok (.goto 12, 3) := by decide +kernel
theorem dX11_shortest_104 : decode cX11_shortest 104 = .ok (.iload 5, 2) := by decide +kernel
theorem dX11_shortest_106 : decode cX11_shortest 106 = .ok (.istore_n 3, 1) := by decide +kernel
theorem dX11_shortest_107 : decode cX11_shortest 107 = .ok (.aload_n 0, 1) := by decide +kernel
theorem dX11_shortest_108 : decode cX11_shortest 108 = .ok (.invokevirtual 328, 3) := by decide +kernel
theorem dX11_shortest_111 : decode cX11_shortest 111 = .ok (.istore 4, 2) := by decide +kernel
theorem dX11_shortest_113 : decode cX11_shortest 113 = .ok (.iinc 5 1, 3) := by decide +kernel
theorem dX11_shortest_116 : decode cX11_shortest 116 = .ok (.goto (-61), 3) := by decide +kernel
theorem dX11_shortest_119 : decode cX11_shortest 119 = .ok (.aload_n 0, 1) := by decide +kernel
theorem dX11_shortest_120 : decode cX11_shortest 120 = .ok (.aload_n 0, 1) := by decide +kernel
theorem dX11_shortest_121 : decode cX11_shortest 121 = .ok (.getfield 51, 3) := by decide +kernel
theorem dX11_shortest_124 : decode cX11_shortest 124 = .ok (.iconst 0, 1) := by decide +kernel
theorem dX11_shortest_125 : decode cX11_shortest 125 = .ok (.aload_n 0, 1) := by decide +kernel
theorem dX11_shortest_126 : decode cX11_shortest 126 = .ok (.getfield 7, 3) := by decide +kernel
theorem dX11_shortest_129 : decode cX11_shortest 129 = .ok (.bipush 81, 2) := by decide +kernel
theorem dX11_shortest_131 : decode cX11_shortest 131 = .ok (.invokevirtual 363, 3) := by decide +kernel
theorem dX11_shortest_134 : decode cX11_shortest 134 = .ok (.iload_n 2, 1) := by decide +kernel
theorem dX11_shortest_135 : decode cX11_shortest 135 = .ok (.ifCond .eq 8, 3) := by decide +kernel
theorem dX11_shortest_138 : decode cX11_shortest 138 = .ok (.iload 4, 2) := by decide +kernel
theorem dX11_shortest_140 : decode cX11_shortest 140 = .ok (.goto 4, 3) := by decide +kernel
theorem dX11_shortest_143 : decode cX11_shortest 143 = .ok (.iload_n 3, 1) := by decide +kernel
theorem dX11_shortest_144 : decode cX11_shortest 144 = .ok (.ireturn, 1) := by decide +kernel
def sX11_shortest_L55 (F : Nat) (l0 : Nat) (l1 : Int32) (l2 : Int32) (l3 : Int32) (l4 : Int32) (l5 : Int32) (h : HP) : Option ((Int32 × Int32 × Int32 × HP) ⊕ (Int32 × Int32 × HP)) :=
  if l1 ≤ l5 then
    some (.inr (l3, l4, h))
  else
    (gJ h 11 (some l0) 18).bind fun t11 =>
    if 0 ≤ (lg_cmp l5.toInt64 t11) then
      some (.inr (l3, l4, h))
    else
      (dO h 11 (some l0)).bind fun a12 =>
      (sX11_tellsBest F a12 l5.toInt64 h).bind fun h13 =>
      (dO h13 11 (some l0)).bind fun a14 =>
      (sX11_laysTold F a14 h13).bind fun h15 =>
      (dO h15 11 (some l0)).bind fun a16 =>
      (sX11_laysOut F a16 h15).bind fun h17 =>
      if l3 = (-1 : Int32) then
        (dO h17 11 (some l0)).bind fun a18 =>
        (sX11_length F a18 h17).bind fun t19 =>
        some (.inl (l5, t19, l5 + (1 : Int32), h17))
      else
        (dO h17 11 (some l0)).bind fun a20 =>
        (sX11_length F a20 h17).bind fun t21 =>
        if t21 < l4 then
          (dO h17 11 (some l0)).bind fun a22 =>
          (sX11_length F a22 h17).bind fun t23 =>
          some (.inl (l5, t23, l5 + (1 : Int32), h17))
        else
          some (.inl (l3, l4, l5 + (1 : Int32), h17))
def sX11_shortest (F : Nat) (l0 : Nat) (l1 : Int32) (l2 : Int32) (h : HP) : Option (Int32 × HP) :=
  (sX11_isIn F l1 (1 : Int32) (20 : Int32) h).bind fun t1 =>
  (if t1 = 0 then
      some (1 : Int32)
    else
      some (0 : Int32)).bind fun s2 =>
  (pI h 11 (some l0) 0 s2).bind fun h3 =>
  (gI h3 11 (some l0) 0).bind fun t4 =>
  if t4 ≤ 0 then
    (dO h3 11 (some l0)).bind fun a5 =>
    (sX11_laysBest F a5 h3).bind fun h6 =>
    (gR h6 11 (some l0) 1).bind fun t7 =>
    (gR h6 11 (some l0) 22).bind fun t8 =>
    (dO h6 11 (some l0)).bind fun a9 =>
    (sX11_copies F a9 t7 (81 : Int32) t8 (0 : Int32) h6).bind fun h10 =>
    (iter (fun s => sX11_shortest_L55 F l0 l1 l2 s.1 s.2.1 s.2.2.1 s.2.2.2) F ((-1 : Int32), (0 : Int32), (0 : Int32), h10)).bind fun r => match r with
    | (l3_24, l4_25, h26) =>
      (gR h26 11 (some l0) 22).bind fun t27 =>
      (gR h26 11 (some l0) 1).bind fun t28 =>
      (dO h26 11 (some l0)).bind fun a29 =>
      (sX11_copies F a29 t27 (0 : Int32) t28 (81 : Int32) h26).bind fun h30 =>
      if l2 = 0 then
        some (l3_24, h30)
      else
        some (l4_25, h30)
  else
    some ((0 : Int32), h3)
abbrev rm_X11_shortest : Room := { frames := 7, cells := 0, slots := 0, locals := 174 }
set_option maxRecDepth 100000 in
set_option maxHeartbeats 4000000 in
theorem mt_X11_shortest {w : WD} {l : Launch} {F : Nat} {l0 : Nat} {l1 : Int32} {l2 : Int32} {h : HP} {v : Int32} {h' : HP} (hs : sX11_shortest F l0 l1 l2 h = some (v, h')) : MI w l yX11_shortest cX11_shortest 6 .int rm_X11_shortest 0 0 [rf w (some l0), .int l1, .int l2] h v h' := by
  refine of_body [(0, rf w (some l0)), (1, .int l1), (2, .int l2)] (by decide) (by simp [lg_sl, rf_cat, cat_i, cat_l, cat_a]) (by simp [lv_args, rf_cat, cat_i, cat_l, cat_a]) ?_
  intro x hw_ hnL_ hl_ hc hret hnm hQ
  subst hw_; subst hl_
  have hnl : ∀ i, i < 6 → i < x.nL := fun i h => by rw [hnL_]; exact h
  have hw : wpO (sX11_shortest F l0 l1 l2 h) (fun r => r = (v, h')) := ⟨_, hs, rfl⟩
  unfold sX11_shortest at hw
  refine R_aload_n (q := 0) (i := 0) (v := (some l0)) hc dX11_shortest_0 rfl rfl ?_
  refine R_iload_n (q := 1) (i := 1) (v := l1) hc dX11_shortest_1 rfl rfl ?_
  refine R_iconst (v := (1 : Int32)) hc dX11_shortest_2 kI_1 ?_
  refine R_bipush (v := (20 : Int32)) hc dX11_shortest_3 kB_20 ?_
  refine R_cSI (As := [.int l1, .int (1 : Int32), .int (20 : Int32)]) (rest := [rf x.w (some l0)]) hc ml_11_107 mf_X11_isIn ⟨rfl, rfl⟩ ⟨le_b rfl, le_b rfl⟩ ⟨Nat.zero_le _, Nat.zero_le _⟩ (fun v e => mt_X11_isIn e) rfl rfl (le_b rfl) dX11_shortest_5 hw (fun t1 hw => ?_)
  refine R_join (fun (s2 : Int32) => Rn x 0 0 16 [(0, rf x.w (some l0)), (1, .int l1), (2, .int l2)] [.int s2, rf x.w (some l0)] h) hw (fun r hw => ?_) (fun hw => ?_)
  · revert r hw
    intro s2 hw
    show Rn x 0 0 16 [(0, rf x.w (some l0)), (1, .int l1), (2, .int l2)] [.int s2, rf x.w (some l0)] h
    refine R_putI hc pl_11_100 rfl rfl dX11_shortest_16 hw (fun h3 hw => ?_)
    refine R_aload_n (q := 0) (i := 0) (v := (some l0)) hc dX11_shortest_19 rfl rfl ?_
    refine R_getI hc fl_11_100 dX11_shortest_20 hw (fun t4 hw => ?_)
    refine R_if_le (tgt := 28) hc dX11_shortest_23 (by decide) hw (fun hw => ?_) (fun hw => ?_)
    · refine R_aload_n (q := 0) (i := 0) (v := (some l0)) hc dX11_shortest_28 rfl rfl ?_
      refine R_cVVi (As := []) (rest := []) (r := (some l0)) (ci := 11) hc ml_11_333 mf_X11_laysBest rfl (by decide) ⟨rfl, rfl⟩ ⟨le_b rfl, le_b rfl⟩ ⟨Nat.zero_le _, Nat.zero_le _⟩ (fun a h' e => mt_X11_laysBest e) rfl rfl (Nat.zero_le _) dX11_shortest_29 hw (fun h6 hw => ?_)
      refine R_aload_n (q := 0) (i := 0) (v := (some l0)) hc dX11_shortest_32 rfl rfl ?_
      refine R_aload_n (q := 0) (i := 0) (v := (some l0)) hc dX11_shortest_33 rfl rfl ?_
      refine R_getR hc fl_11_7 dX11_shortest_34 hw (fun t7 hw => ?_)
      refine R_bipush (v := (81 : Int32)) hc dX11_shortest_37 kB_81 ?_
      refine R_aload_n (q := 0) (i := 0) (v := (some l0)) hc dX11_shortest_39 rfl rfl ?_
      refine R_getR hc fl_11_51 dX11_shortest_40 hw (fun t8 hw => ?_)
      refine R_iconst (v := (0 : Int32)) hc dX11_shortest_43 kI_0 ?_
      refine R_cVVi (As := [rf x.w t7, .int (81 : Int32), rf x.w t8, .int (0 : Int32)]) (rest := []) (r := (some l0)) (ci := 11) hc ml_11_363 mf_X11_copies rfl (by decide) ⟨rfl, rfl⟩ ⟨le_b rfl, le_b rfl⟩ ⟨Nat.zero_le _, Nat.zero_le _⟩ (fun a h' e => mt_X11_copies e) rfl rfl (Nat.zero_le _) dX11_shortest_44 hw (fun h10 hw => ?_)
      refine R_iconst (v := (-1 : Int32)) hc dX11_shortest_47 kI_m1 ?_
      refine R_istore_n (i := 3) (v := (-1 : Int32)) hc [(3, .int (-1 : Int32)), (0, rf x.w (some l0)), (1, .int l1), (2, .int l2)] dX11_shortest_48 rfl (hnl 3 (le_b rfl)) rfl ?_
      refine R_iconst (v := (0 : Int32)) hc dX11_shortest_49 kI_0 ?_
      refine R_istore (i := 4) (v := (0 : Int32)) hc [(4, .int (0 : Int32)), (3, .int (-1 : Int32)), (0, rf x.w (some l0)), (1, .int l1), (2, .int l2)] dX11_shortest_50 (hnl 4 (le_b rfl)) rfl ?_
      refine R_iconst (v := (0 : Int32)) hc dX11_shortest_52 kI_0 ?_
      refine R_istore (i := 5) (v := (0 : Int32)) hc [(5, .int (0 : Int32)), (4, .int (0 : Int32)), (3, .int (-1 : Int32)), (0, rf x.w (some l0)), (1, .int l1), (2, .int l2)] dX11_shortest_53 (hnl 5 (le_b rfl)) rfl ?_
      refine R_sub hc [3, 4, 5, 2, 1, 0] rfl ?_
      refine R_loop (P := fun (s : (Int32 × Int32 × Int32 × HP)) => Rn x 0 0 55 [(0, rf x.w (some l0)), (1, .int l1), (2, .int l2), (3, .int s.1), (4, .int s.2.1), (5, .int s.2.2.1)] [] s.2.2.2) (fun r => match r with | (l3_24, l4_25, h26) => Rn x 0 0 119 [(0, rf x.w (some l0)), (2, .int l2), (3, .int l3_24), (4, .int l4_25)] [] h26) hw (fun r hw => ?_) (fun X hX s hw => ?_)
      · obtain ⟨l3_24, l4_25, h26⟩ := r
        show Rn x 0 0 119 [(0, rf x.w (some l0)), (2, .int l2), (3, .int l3_24), (4, .int l4_25)] [] h26
        refine R_aload_n (q := 0) (i := 0) (v := (some l0)) hc dX11_shortest_119 rfl rfl ?_
        refine R_aload_n (q := 0) (i := 0) (v := (some l0)) hc dX11_shortest_120 rfl rfl ?_
        refine R_getR hc fl_11_51 dX11_shortest_121 hw (fun t27 hw => ?_)
        refine R_iconst (v := (0 : Int32)) hc dX11_shortest_124 kI_0 ?_
        refine R_aload_n (q := 0) (i := 0) (v := (some l0)) hc dX11_shortest_125 rfl rfl ?_
        refine R_getR hc fl_11_7 dX11_shortest_126 hw (fun t28 hw => ?_)
        refine R_bipush (v := (81 : Int32)) hc dX11_shortest_129 kB_81 ?_
        refine R_cVVi (As := [rf x.w t27, .int (0 : Int32), rf x.w t28, .int (81 : Int32)]) (rest := []) (r := (some l0)) (ci := 11) hc ml_11_363 mf_X11_copies rfl (by decide) ⟨rfl, rfl⟩ ⟨le_b rfl, le_b rfl⟩ ⟨Nat.zero_le _, Nat.zero_le _⟩ (fun a h' e => mt_X11_copies e) rfl rfl (Nat.zero_le _) dX11_shortest_131 hw (fun h30 hw => ?_)
        refine R_iload_n (q := 1) (i := 2) (v := l2) hc dX11_shortest_134 rfl rfl ?_
        refine R_if_eq (tgt := 143) hc dX11_shortest_135 (by decide) hw (fun hw => ?_) (fun hw => ?_)
        · refine R_iload_n (q := 2) (i := 3) (v := l3_24) hc dX11_shortest_143 rfl rfl ?_
          exact R_ireturn hc hret rfl hQ hw dX11_shortest_144
        · refine R_iload (q := 3) (i := 4) (v := l4_25) hc dX11_shortest_138 rfl ?_
          refine R_goto (tgt := 144) hc dX11_shortest_140 (by decide) ?_
          exact R_ireturn hc hret rfl hQ hw dX11_shortest_144
      · obtain ⟨l3_32, l4_33, l5_34, h35⟩ := s
        show Rn x 0 0 55 [(0, rf x.w (some l0)), (1, .int l1), (2, .int l2), (3, .int l3_32), (4, .int l4_33), (5, .int l5_34)] [] h35
        have hw : wpO (sX11_shortest_L55 F l0 l1 l2 l3_32 l4_33 l5_34 h35) _ := hw
        unfold sX11_shortest_L55 at hw
        refine R_iload (q := 5) (i := 5) (v := l5_34) hc dX11_shortest_55 rfl ?_
        refine R_iload_n (q := 1) (i := 1) (v := l1) hc dX11_shortest_57 rfl rfl ?_
        refine R_icmp_ge (tgt := 119) hc dX11_shortest_58 (by decide) hw (fun hw => ?_) (fun hw => ?_)
        · refine R_sub hc [0, 2, 3, 4] rfl ?_
          exact (wpO_some hw :)
        · refine R_iload (q := 5) (i := 5) (v := l5_34) hc dX11_shortest_61 rfl ?_
          refine R_i2l hc dX11_shortest_63 ?_
          refine R_aload_n (q := 0) (i := 0) (v := (some l0)) hc dX11_shortest_64 rfl rfl ?_
          refine R_getJ hc fl_11_145 dX11_shortest_65 hw (fun t11 hw => ?_)
          refine R_lcmp hc dX11_shortest_68 ?_
          refine R_if_ge (tgt := 119) hc dX11_shortest_69 (by decide) hw (fun hw => ?_) (fun hw => ?_)
          · refine R_sub hc [0, 2, 3, 4] rfl ?_
            exact (wpO_some hw :)
          · refine R_aload_n (q := 0) (i := 0) (v := (some l0)) hc dX11_shortest_72 rfl rfl ?_
            refine R_iload (q := 5) (i := 5) (v := l5_34) hc dX11_shortest_73 rfl ?_
            refine R_i2l hc dX11_shortest_75 ?_
            refine R_cVVi (As := [.long l5_34.toInt64]) (rest := []) (r := (some l0)) (ci := 11) hc ml_11_336 mf_X11_tellsBest rfl (by decide) ⟨rfl, rfl⟩ ⟨le_b rfl, le_b rfl⟩ ⟨Nat.zero_le _, Nat.zero_le _⟩ (fun a h' e => mt_X11_tellsBest e) rfl rfl (Nat.zero_le _) dX11_shortest_76 hw (fun h13 hw => ?_)
            refine R_aload_n (q := 0) (i := 0) (v := (some l0)) hc dX11_shortest_79 rfl rfl ?_
            refine R_cVVi (As := []) (rest := []) (r := (some l0)) (ci := 11) hc ml_11_374 mf_X11_laysTold rfl (by decide) ⟨rfl, rfl⟩ ⟨le_b rfl, le_b rfl⟩ ⟨Nat.zero_le _, Nat.zero_le _⟩ (fun a h' e => mt_X11_laysTold e) rfl rfl (Nat.zero_le _) dX11_shortest_80 hw (fun h15 hw => ?_)
            refine R_aload_n (q := 0) (i := 0) (v := (some l0)) hc dX11_shortest_83 rfl rfl ?_
            refine R_cVVi (As := []) (rest := []) (r := (some l0)) (ci := 11) hc ml_11_304 mf_X11_laysOut rfl (by decide) ⟨rfl, rfl⟩ ⟨le_b rfl, le_b rfl⟩ ⟨Nat.zero_le _, Nat.zero_le _⟩ (fun a h' e => mt_X11_laysOut e) rfl rfl (Nat.zero_le _) dX11_shortest_84 hw (fun h17 hw => ?_)
            refine R_iload_n (q := 3) (i := 3) (v := l3_32) hc dX11_shortest_87 rfl rfl ?_
            refine R_iconst (v := (-1 : Int32)) hc dX11_shortest_88 kI_m1 ?_
            refine R_icmp_eq (tgt := 104) hc dX11_shortest_89 (by decide) hw (fun hw => ?_) (fun hw => ?_)
            · refine R_iload (q := 5) (i := 5) (v := l5_34) hc dX11_shortest_104 rfl ?_
              refine R_istore_n (i := 3) (v := l5_34) hc [(3, .int l5_34), (0, rf x.w (some l0)), (1, .int l1), (2, .int l2), (4, .int l4_33), (5, .int l5_34)] dX11_shortest_106 rfl (hnl 3 (le_b rfl)) rfl ?_
              refine R_aload_n (q := 1) (i := 0) (v := (some l0)) hc dX11_shortest_107 rfl rfl ?_
              refine R_cVI (As := []) (rest := []) (r := (some l0)) (ci := 11) hc ml_11_328 mf_X11_length rfl (by decide) ⟨rfl, rfl⟩ ⟨le_b rfl, le_b rfl⟩ ⟨Nat.zero_le _, Nat.zero_le _⟩ (fun a v e => mt_X11_length e) rfl rfl (Nat.zero_le _) dX11_shortest_108 hw (fun t19 hw => ?_)
              refine R_istore (i := 4) (v := t19) hc [(4, .int t19), (3, .int l5_34), (0, rf x.w (some l0)), (1, .int l1), (2, .int l2), (5, .int l5_34)] dX11_shortest_111 (hnl 4 (le_b rfl)) rfl ?_
              refine R_iinc (q := 5) (i := 5) (v := l5_34) hc [(5, .int (l5_34 + (1 : Int32))), (4, .int t19), (3, .int l5_34), (0, rf x.w (some l0)), (1, .int l1), (2, .int l2)] dX11_shortest_113 rfl (kC_1 _) (hnl 5 (le_b rfl)) rfl ?_
              refine R_goto (tgt := 55) hc dX11_shortest_116 (by decide) ?_
              refine R_sub hc [3, 4, 5, 2, 1, 0] rfl ?_
              exact hX (l5_34, t19, l5_34 + (1 : Int32), h17) (wpO_some hw :)
            · refine R_aload_n (q := 0) (i := 0) (v := (some l0)) hc dX11_shortest_92 rfl rfl ?_
              refine R_cVI (As := []) (rest := []) (r := (some l0)) (ci := 11) hc ml_11_328 mf_X11_length rfl (by decide) ⟨rfl, rfl⟩ ⟨le_b rfl, le_b rfl⟩ ⟨Nat.zero_le _, Nat.zero_le _⟩ (fun a v e => mt_X11_length e) rfl rfl (Nat.zero_le _) dX11_shortest_93 hw (fun t21 hw => ?_)
              refine R_iload (q := 4) (i := 4) (v := l4_33) hc dX11_shortest_96 rfl ?_
              refine R_icmp_lt (tgt := 104) hc dX11_shortest_98 (by decide) hw (fun hw => ?_) (fun hw => ?_)
              · refine R_iload (q := 5) (i := 5) (v := l5_34) hc dX11_shortest_104 rfl ?_
                refine R_istore_n (i := 3) (v := l5_34) hc [(3, .int l5_34), (0, rf x.w (some l0)), (1, .int l1), (2, .int l2), (4, .int l4_33), (5, .int l5_34)] dX11_shortest_106 rfl (hnl 3 (le_b rfl)) rfl ?_
                refine R_aload_n (q := 1) (i := 0) (v := (some l0)) hc dX11_shortest_107 rfl rfl ?_
                refine R_cVI (As := []) (rest := []) (r := (some l0)) (ci := 11) hc ml_11_328 mf_X11_length rfl (by decide) ⟨rfl, rfl⟩ ⟨le_b rfl, le_b rfl⟩ ⟨Nat.zero_le _, Nat.zero_le _⟩ (fun a v e => mt_X11_length e) rfl rfl (Nat.zero_le _) dX11_shortest_108 hw (fun t23 hw => ?_)
                refine R_istore (i := 4) (v := t23) hc [(4, .int t23), (3, .int l5_34), (0, rf x.w (some l0)), (1, .int l1), (2, .int l2), (5, .int l5_34)] dX11_shortest_111 (hnl 4 (le_b rfl)) rfl ?_
                refine R_iinc (q := 5) (i := 5) (v := l5_34) hc [(5, .int (l5_34 + (1 : Int32))), (4, .int t23), (3, .int l5_34), (0, rf x.w (some l0)), (1, .int l1), (2, .int l2)] dX11_shortest_113 rfl (kC_1 _) (hnl 5 (le_b rfl)) rfl ?_
                refine R_goto (tgt := 55) hc dX11_shortest_116 (by decide) ?_
                refine R_sub hc [3, 4, 5, 2, 1, 0] rfl ?_
                exact hX (l5_34, t23, l5_34 + (1 : Int32), h17) (wpO_some hw :)
              · refine R_goto (tgt := 113) hc dX11_shortest_101 (by decide) ?_
                refine R_iinc (q := 5) (i := 5) (v := l5_34) hc [(5, .int (l5_34 + (1 : Int32))), (0, rf x.w (some l0)), (1, .int l1), (2, .int l2), (3, .int l3_32), (4, .int l4_33)] dX11_shortest_113 rfl (kC_1 _) (hnl 5 (le_b rfl)) rfl ?_
                refine R_goto (tgt := 55) hc dX11_shortest_116 (by decide) ?_
                refine R_sub hc [1, 2, 3, 4, 5, 0] rfl ?_
                exact hX (l3_32, l4_33, l5_34 + (1 : Int32), h17) (wpO_some hw :)
    · refine R_iconst (v := (0 : Int32)) hc dX11_shortest_26 kI_0 ?_
      exact R_ireturn hc hret rfl hQ hw dX11_shortest_27
  · refine R_if_eq (tgt := 15) hc dX11_shortest_8 (by decide) hw (fun hw => ?_) (fun hw => ?_)
    · refine R_iconst (v := (1 : Int32)) hc dX11_shortest_15 kI_1 ?_
      refine R_sub hc [0, 1, 2] rfl ?_
      exact (wpO_some hw :)
    · refine R_iconst (v := (0 : Int32)) hc dX11_shortest_11 kI_0 ?_
      refine R_goto (tgt := 16) hc dX11_shortest_12 (by decide) ?_
      refine R_sub hc [0, 1, 2] rfl ?_
      exact (wpO_some hw :)
theorem dX11_aheadOf_0 : decode cX11_aheadOf 0 = .ok (.lconst 0, 1) := by decide +kernel
theorem dX11_aheadOf_1 : decode cX11_aheadOf 1 = .ok (.lstore_n 3, 1) := by decide +kernel
theorem dX11_aheadOf_2 : decode cX11_aheadOf 2 = .ok (.iconst 1, 1) := by decide +kernel
theorem dX11_aheadOf_3 : decode cX11_aheadOf 3 = .ok (.istore 5, 2) := by decide +kernel
theorem dX11_aheadOf_5 : decode cX11_aheadOf 5 = .ok (.iload 5, 2) := by decide +kernel
theorem dX11_aheadOf_7 : decode cX11_aheadOf 7 = .ok (.iconst 1, 1) := by decide +kernel
theorem dX11_aheadOf_8 : decode cX11_aheadOf 8 = .ok (.aload_n 0, 1) := by decide +kernel
theorem dX11_aheadOf_9 : decode cX11_aheadOf 9 = .ok (.invokevirtual 103, 3) := by decide +kernel
theorem dX11_aheadOf_12 : decode cX11_aheadOf 12 = .ok (.ishl, 1) := by decide +kernel
theorem dX11_aheadOf_13 : decode cX11_aheadOf 13 = .ok (.if_icmp .ge 141, 3) := by decide +kernel
theorem dX11_aheadOf_16 : decode cX11_aheadOf 16 = .ok (.iload 5, 2) := by decide +kernel
theorem dX11_aheadOf_18 : decode cX11_aheadOf 18 = .ok (.iload_n 1, 1) := by decide +kernel
theorem dX11_aheadOf_19 : decode cX11_aheadOf 19 = .ok (.invokestatic 178, 3) := by decide +kernel
theorem dX11_aheadOf_22 : decode cX11_aheadOf 22 = .ok (.ifCond .eq 126, 3) := by decide +kernel
theorem dX11_aheadOf_25 : decode cX11_aheadOf 25 = .ok (.iload 5, 2) := by decide +kernel
theorem dX11_aheadOf_27 : decode cX11_aheadOf 27 = .ok (.iload_n 2, 1) := by decide +kernel
theorem dX11_aheadOf_28 : decode cX11_aheadOf 28 = .ok (.invokestatic 178, 3) := by decide +kernel
theorem dX11_aheadOf_31 : decode cX11_aheadOf 31 = .ok (.ifCond .eq 6, 3) := by decide +kernel
theorem dX11_aheadOf_34 : decode cX11_aheadOf 34 = .ok (.goto 114, 3) := by decide +kernel
theorem dX11_aheadOf_37 : decode cX11_aheadOf 37 = .ok (.iconst 0, 1) := by decide +kernel
theorem dX11_aheadOf_38 : decode cX11_aheadOf 38 = .ok (.istore 6, 2) := by decide +kernel
theorem dX11_aheadOf_40 : decode cX11_aheadOf 40 = .ok (.iload 6, 2) := by decide +kernel
theorem dX11_aheadOf_42 : decode cX11_aheadOf 42 = .ok (.bipush 16, 2) := by decide +kernel
theorem dX11_aheadOf_44 : decode cX11_aheadOf 44 = .ok (.if_icmp .ge 104, 3) := by decide +kernel
theorem dX11_aheadOf_47 : decode cX11_aheadOf 47 = .ok (.iload 5, 2) := by decide +kernel
theorem dX11_aheadOf_49 : decode cX11_aheadOf 49 = .ok (.iload_n 1, 1) := by decide +kernel
theorem dX11_aheadOf_50 : decode cX11_aheadOf 50 = .ok (.iload 6, 2) := by decide +kernel
theorem dX11_aheadOf_52 : decode cX11_aheadOf 52 = .ok (.iconst 4, 1) := by decide +kernel
theorem dX11_aheadOf_53 : decode cX11_aheadOf 53 = .ok (.idiv, 1) := by decide +kernel
theorem dX11_aheadOf_54 : decode cX11_aheadOf 54 = .ok (.invokestatic 123, 3) := by decide +kernel
theorem dX11_aheadOf_57 : decode cX11_aheadOf 57 = .ok (.istore 7, 2) := by decide +kernel
theorem dX11_aheadOf_59 : decode cX11_aheadOf 59 = .ok (.iload 5, 2) := by decide +kernel
theorem dX11_aheadOf_61 : decode cX11_aheadOf 61 = .ok (.iconst 1, 1) := by decide +kernel
theorem dX11_aheadOf_62 : decode cX11_aheadOf 62 = .ok (.iload_n 2, 1) := by decide +kernel
theorem dX11_aheadOf_63 : decode cX11_aheadOf 63 = .ok (.ishl, 1) := by decide +kernel
theorem dX11_aheadOf_64 : decode cX11_aheadOf 64 = .ok (.ior, 1) := by decide +kernel
theorem dX11_aheadOf_65 : decode cX11_aheadOf 65 = .ok (.iload_n 2, 1) := by decide +kernel
theorem dX11_aheadOf_66 : decode cX11_aheadOf 66 = .ok (.iload 6, 2) := by decide +kernel
theorem dX11_aheadOf_68 : decode cX11_aheadOf 68 = .ok (.iconst 4, 1) := by decide +kernel
theorem dX11_aheadOf_69 : decode cX11_aheadOf 69 = .ok (.irem, 1) := by decide +kernel
theorem dX11_aheadOf_70 : decode cX11_aheadOf 70 = .ok (.invokestatic 123, 3) := by decide +kernel
theorem dX11_aheadOf_73 : decode cX11_aheadOf 73 = .ok (.istore 8, 2) := by decide +kernel
theorem dX11_aheadOf_75 : decode cX11_aheadOf 75 = .ok (.aload_n 0, 1) := by decide +kernel
theorem dX11_aheadOf_76 : decode cX11_aheadOf 76 = .ok (.iload_n 1, 1) := by decide +kernel
theorem dX11_aheadOf_77 : decode cX11_aheadOf 77 = .ok (.iload 6, 2) := by decide +kernel
theorem dX11_aheadOf_79 : decode cX11_aheadOf 79 = .ok (.iconst 4, 1) := by decide +kernel
theorem dX11_aheadOf_80 : decode cX11_aheadOf 80 = .ok (.idiv, 1) := by decide +kernel
theorem dX11_aheadOf_81 : decode cX11_aheadOf 81 = .ok (.iload_n 2, 1) := by decide +kernel
theorem dX11_aheadOf_82 : decode cX11_aheadOf 82 = .ok (.iload 6, 2) := by decide +kernel
theorem dX11_aheadOf_84 : decode cX11_aheadOf 84 = .ok (.iconst 4, 1) := by decide +kernel
theorem dX11_aheadOf_85 : decode cX11_aheadOf 85 = .ok (.irem, 1) := by decide +kernel
theorem dX11_aheadOf_86 : decode cX11_aheadOf 86 = .ok (.invokevirtual 127, 3) := by decide +kernel
theorem dX11_aheadOf_89 : decode cX11_aheadOf 89 = .ok (.ifCond .le 7, 3) := by decide +kernel
theorem dX11_aheadOf_92 : decode cX11_aheadOf 92 = .ok (.iconst 1, 1) := by decide +kernel
theorem dX11_aheadOf_93 : decode cX11_aheadOf 93 = .ok (.goto 4, 3) := by decide +kernel
theorem dX11_aheadOf_96 : decode cX11_aheadOf 96 = .ok (.iconst 0, 1) := by decide +kernel
theorem dX11_aheadOf_97 : decode cX11_aheadOf 97 = .ok (.istore 9, 2) := by decide +kernel
theorem dX11_aheadOf_99 : decode cX11_aheadOf 99 = .ok (.aload_n 0, 1) := by decide +kernel
theorem dX11_aheadOf_100 : decode cX11_aheadOf 100 = .ok (.getfield 39, 3) := by decide +kernel
theorem dX11_aheadOf_103 : decode cX11_aheadOf 103 = .ok (.iload 7, 2) := by decide +kernel
theorem dX11_aheadOf_105 : decode cX11_aheadOf 105 = .ok (.iaload, 1) := by decide +kernel
theorem dX11_aheadOf_106 : decode cX11_aheadOf 106 = .ok (.iload 9, 2) := by decide +kernel
theorem dX11_aheadOf_108 : decode cX11_aheadOf 108 = .ok (.iadd, 1) := by decide +kernel
theorem dX11_aheadOf_109 : decode cX11_aheadOf 109 = .ok (.aload_n 0, 1) := by decide +kernel
theorem dX11_aheadOf_110 : decode cX11_aheadOf 110 = .ok (.getfield 29, 3) := by decide +kernel
theorem dX11_aheadOf_113 : decode cX11_aheadOf 113 = .ok (.iload 8, 2) := by decide +kernel
theorem dX11_aheadOf_115 : decode cX11_aheadOf 115 = .ok (.iaload, 1) := by decide +kernel
theorem dX11_aheadOf_116 : decode cX11_aheadOf 116 = .ok (.iadd, 1) := by decide +kernel
theorem dX11_aheadOf_117 : decode cX11_aheadOf 117 = .ok (.aload_n 0, 1) := by decide +kernel
theorem dX11_aheadOf_118 : decode cX11_aheadOf 118 = .ok (.getfield 142, 3) := by decide +kernel
theorem dX11_aheadOf_121 : decode cX11_aheadOf 121 = .ok (.if_icmp .ne 21, 3) := by decide +kernel
theorem dX11_aheadOf_124 : decode cX11_aheadOf 124 = .ok (.lload_n 3, 1) := by decide +kernel
theorem dX11_aheadOf_125 : decode cX11_aheadOf 125 = .ok (.aload_n 0, 1) := by decide +kernel
theorem dX11_aheadOf_126 : decode cX11_aheadOf 126 = .ok (.getfield 42, 3) := by decide +kernel
theorem dX11_aheadOf_129 : decode cX11_aheadOf 129 = .ok (.iload 7, 2) := by decide +kernel
theorem dX11_aheadOf_131 : decode cX11_aheadOf 131 = .ok (.laload, 1) := by decide +kernel
theorem dX11_aheadOf_132 : decode cX11_aheadOf 132 = .ok (.aload_n 0, 1) := by decide +kernel
theorem dX11_aheadOf_133 : decode cX11_aheadOf 133 = .ok (.getfield 32, 3) := by decide +kernel
theorem dX11_aheadOf_136 : decode cX11_aheadOf 136 = .ok (.iload 8, 2) := by decide +kernel
theorem dX11_aheadOf_138 : decode cX11_aheadOf 138 = .ok (.laload, 1) := by decide +kernel
theorem dX11_aheadOf_139 : decode cX11_aheadOf 139 = .ok (.lmul, 1) := by decide +kernel
theorem dX11_aheadOf_140 : decode cX11_aheadOf 140 = .ok (.ladd, 1) := by decide +kernel
theorem dX11_aheadOf_141 : decode cX11_aheadOf 141 = .ok (.lstore_n 3, 1) := by decide +kernel
theorem dX11_aheadOf_142 : decode cX11_aheadOf 142 = .ok (.iinc 6 1, 3) := by decide +kernel
theorem dX11_aheadOf_145 : decode cX11_aheadOf 145 = .ok (.goto (-105), 3) := by decide +kernel
theorem dX11_aheadOf_148 : decode cX11_aheadOf 148 = .ok (.iinc 5 1, 3) := by decide +kernel
theorem dX11_aheadOf_151 : decode cX11_aheadOf 151 = .ok (.goto (-146), 3) := by decide +kernel
theorem dX11_aheadOf_154 : decode cX11_aheadOf 154 = .ok (.lload_n 3, 1) := by decide +kernel
theorem dX11_aheadOf_155 : decode cX11_aheadOf 155 = .ok (.lreturn, 1) := by decide +kernel
def sX11_aheadOf_L40 (F : Nat) (l0 : Nat) (l1 : Int32) (l2 : Int32) (l5 : Int32) (l3 : Int64) (l6 : Int32) (h : HP) : Option ((Int64 × Int32) ⊕ Int64) :=
  if (16 : Int32) ≤ l6 then
    some (.inr l3)
  else
    (sX11_state F l5 l1 (l6 / (4 : Int32)) h).bind fun t5 =>
    (sX11_state F (l5 ||| (jshl (1 : Int32) l2)) l2 (jrem l6 (4 : Int32)) h).bind fun t6 =>
    (dO h 11 (some l0)).bind fun a7 =>
    (sX11_lacks F a7 l1 (l6 / (4 : Int32)) l2 (jrem l6 (4 : Int32)) h).bind fun t8 =>
    (if t8 ≤ 0 then
        some (0 : Int32)
      else
        some (1 : Int32)).bind fun s9 =>
    (gR h 11 (some l0) 15).bind fun t10 =>
    (aI h 13 t10 t5).bind fun t11 =>
    (gR h 11 (some l0) 12).bind fun t12 =>
    (aI h 13 t12 t6).bind fun t13 =>
    (gI h 11 (some l0) 17).bind fun t14 =>
    if ¬ ((t11 + s9) + t13) = t14 then
      some (.inl (l3, l6 + (1 : Int32)))
    else
      (gR h 11 (some l0) 16).bind fun t15 =>
      (aJ h t15 t5).bind fun t16 =>
      (gR h 11 (some l0) 13).bind fun t17 =>
      (aJ h t17 t6).bind fun t18 =>
      nmJ (l3 + (t16 * t18)) fun l3_19 =>
      some (.inl (l3_19, l6 + (1 : Int32)))
def sX11_aheadOf_L5 (F : Nat) (l0 : Nat) (l1 : Int32) (l2 : Int32) (l3 : Int64) (l5 : Int32) (h : HP) : Option ((Int64 × Int32) ⊕ Int64) :=
  (dO h 11 (some l0)).bind fun a1 =>
  (sX11_fingers F a1 h).bind fun t2 =>
  if (jshl (1 : Int32) t2) ≤ l5 then
    some (.inr l3)
  else
    (sX11_has F l5 l1 h).bind fun t3 =>
    if t3 = 0 then
      some (.inl (l3, l5 + (1 : Int32)))
    else
      (sX11_has F l5 l2 h).bind fun t4 =>
      if t4 = 0 then
        (iter (fun s => sX11_aheadOf_L40 F l0 l1 l2 l5 s.1 s.2 h) F (l3, (0 : Int32))).bind fun l3_20 =>
          some (.inl (l3_20, l5 + (1 : Int32)))
      else
        some (.inl (l3, l5 + (1 : Int32)))
def sX11_aheadOf (F : Nat) (l0 : Nat) (l1 : Int32) (l2 : Int32) (h : HP) : Option Int64 :=
  (iter (fun s => sX11_aheadOf_L5 F l0 l1 l2 s.1 s.2 h) F ((0 : Int64), (1 : Int32))).bind fun l3_24 =>
    some l3_24
abbrev rm_X11_aheadOf : Room := { frames := 4, cells := 0, slots := 0, locals := 96 }
set_option maxRecDepth 100000 in
set_option maxHeartbeats 4000000 in
theorem mt_X11_aheadOf {w : WD} {l : Launch} {F : Nat} {l0 : Nat} {l1 : Int32} {l2 : Int32} {h : HP} {v : Int64} (hs : sX11_aheadOf F l0 l1 l2 h = some v) : MJ w l yX11_aheadOf cX11_aheadOf 10 rm_X11_aheadOf 0 0 [rf w (some l0), .int l1, .int l2] h v h := by
  refine of_body [(0, rf w (some l0)), (1, .int l1), (2, .int l2)] (by decide) (by simp [lg_sl, rf_cat, cat_i, cat_l, cat_a]) (by simp [lv_args, rf_cat, cat_i, cat_l, cat_a]) ?_
  intro x hw_ hnL_ hl_ hc hret hnm hQ
  subst hw_; subst hl_
  have hnl : ∀ i, i < 10 → i < x.nL := fun i h => by rw [hnL_]; exact h
  have hw : wpO (sX11_aheadOf F l0 l1 l2 h) (fun r => r = v) := ⟨_, hs, rfl⟩
  unfold sX11_aheadOf at hw
  refine R_lconst (v := (0 : Int64)) hc dX11_aheadOf_0 kL_0 ?_
  refine R_lstore_n (i := 3) (v := (0 : Int64)) hc [(3, .long (0 : Int64)), (0, rf x.w (some l0)), (1, .int l1), (2, .int l2)] dX11_aheadOf_1 rfl (hnl 4 (le_b rfl)) rfl ?_
  refine R_iconst (v := (1 : Int32)) hc dX11_aheadOf_2 kI_1 ?_
  refine R_istore (i := 5) (v := (1 : Int32)) hc [(5, .int (1 : Int32)), (3, .long (0 : Int64)), (0, rf x.w (some l0)), (1, .int l1), (2, .int l2)] dX11_aheadOf_3 (hnl 5 (le_b rfl)) rfl ?_
  refine R_sub hc [2, 3, 4, 1, 0] rfl ?_
  refine R_loop (P := fun (s : (Int64 × Int32)) => Rn x 0 0 5 [(0, rf x.w (some l0)), (1, .int l1), (2, .int l2), (3, .long s.1), (5, .int s.2)] [] h) (fun l3_24 => Rn x 0 0 154 [(3, .long l3_24)] [] h) hw (fun r hw => ?_) (fun X hX s hw => ?_)
  · revert r hw
    intro l3_24 hw
    show Rn x 0 0 154 [(3, .long l3_24)] [] h
    refine R_lload_n (q := 0) (i := 3) (v := l3_24) hc dX11_aheadOf_154 rfl rfl ?_
    exact R_lreturnP hc hret hQ hw dX11_aheadOf_155
  · obtain ⟨l3_26, l5_27⟩ := s
    show Rn x 0 0 5 [(0, rf x.w (some l0)), (1, .int l1), (2, .int l2), (3, .long l3_26), (5, .int l5_27)] [] h
    have hw : wpO (sX11_aheadOf_L5 F l0 l1 l2 l3_26 l5_27 h) _ := hw
    unfold sX11_aheadOf_L5 at hw
    refine R_iload (q := 4) (i := 5) (v := l5_27) hc dX11_aheadOf_5 rfl ?_
    refine R_iconst (v := (1 : Int32)) hc dX11_aheadOf_7 kI_1 ?_
    refine R_aload_n (q := 0) (i := 0) (v := (some l0)) hc dX11_aheadOf_8 rfl rfl ?_
    refine R_cVI (As := []) (rest := [.int (1 : Int32), .int l5_27]) (r := (some l0)) (ci := 11) hc ml_11_103 mf_X11_fingers rfl (by decide) ⟨rfl, rfl⟩ ⟨le_b rfl, le_b rfl⟩ ⟨Nat.zero_le _, Nat.zero_le _⟩ (fun a v e => mt_X11_fingers e) rfl rfl (le_b rfl) dX11_aheadOf_9 hw (fun t2 hw => ?_)
    refine R_ishl hc dX11_aheadOf_12 ?_
    refine R_icmp_ge (tgt := 154) hc dX11_aheadOf_13 (by decide) hw (fun hw => ?_) (fun hw => ?_)
    · refine R_sub hc [3] rfl ?_
      exact (wpO_some hw :)
    · refine R_iload (q := 4) (i := 5) (v := l5_27) hc dX11_aheadOf_16 rfl ?_
      refine R_iload_n (q := 1) (i := 1) (v := l1) hc dX11_aheadOf_18 rfl rfl ?_
      refine R_cSI (As := [.int l5_27, .int l1]) (rest := []) hc ml_11_178 mf_X11_has ⟨rfl, rfl⟩ ⟨le_b rfl, le_b rfl⟩ ⟨Nat.zero_le _, Nat.zero_le _⟩ (fun v e => mt_X11_has e) rfl rfl (Nat.zero_le _) dX11_aheadOf_19 hw (fun t3 hw => ?_)
      refine R_if_eq (tgt := 148) hc dX11_aheadOf_22 (by decide) hw (fun hw => ?_) (fun hw => ?_)
      · refine R_iinc (q := 4) (i := 5) (v := l5_27) hc [(5, .int (l5_27 + (1 : Int32))), (0, rf x.w (some l0)), (1, .int l1), (2, .int l2), (3, .long l3_26)] dX11_aheadOf_148 rfl (kC_1 _) (hnl 5 (le_b rfl)) rfl ?_
        refine R_goto (tgt := 5) hc dX11_aheadOf_151 (by decide) ?_
        refine R_sub hc [1, 2, 3, 4, 0] rfl ?_
        exact hX (l3_26, l5_27 + (1 : Int32)) (wpO_some hw :)
      · refine R_iload (q := 4) (i := 5) (v := l5_27) hc dX11_aheadOf_25 rfl ?_
        refine R_iload_n (q := 2) (i := 2) (v := l2) hc dX11_aheadOf_27 rfl rfl ?_
        refine R_cSI (As := [.int l5_27, .int l2]) (rest := []) hc ml_11_178 mf_X11_has ⟨rfl, rfl⟩ ⟨le_b rfl, le_b rfl⟩ ⟨Nat.zero_le _, Nat.zero_le _⟩ (fun v e => mt_X11_has e) rfl rfl (Nat.zero_le _) dX11_aheadOf_28 hw (fun t4 hw => ?_)
        refine R_if_eq (tgt := 37) hc dX11_aheadOf_31 (by decide) hw (fun hw => ?_) (fun hw => ?_)
        · refine R_iconst (v := (0 : Int32)) hc dX11_aheadOf_37 kI_0 ?_
          refine R_istore (i := 6) (v := (0 : Int32)) hc [(6, .int (0 : Int32)), (0, rf x.w (some l0)), (1, .int l1), (2, .int l2), (3, .long l3_26), (5, .int l5_27)] dX11_aheadOf_38 (hnl 6 (le_b rfl)) rfl ?_
          refine R_sub hc [1, 2, 3, 4, 5, 0] rfl ?_
          refine R_loop (P := fun (s : (Int64 × Int32)) => Rn x 0 0 40 [(0, rf x.w (some l0)), (1, .int l1), (2, .int l2), (3, .long s.1), (5, .int l5_27), (6, .int s.2)] [] h) (fun l3_20 => Rn x 0 0 148 [(0, rf x.w (some l0)), (1, .int l1), (2, .int l2), (3, .long l3_20), (5, .int l5_27)] [] h) hw (fun r hw => ?_) (fun X hX s hw => ?_)
          · revert r hw
            intro l3_20 hw
            show Rn x 0 0 148 [(0, rf x.w (some l0)), (1, .int l1), (2, .int l2), (3, .long l3_20), (5, .int l5_27)] [] h
            refine R_iinc (q := 4) (i := 5) (v := l5_27) hc [(5, .int (l5_27 + (1 : Int32))), (0, rf x.w (some l0)), (1, .int l1), (2, .int l2), (3, .long l3_20)] dX11_aheadOf_148 rfl (kC_1 _) (hnl 5 (le_b rfl)) rfl ?_
            refine R_goto (tgt := 5) hc dX11_aheadOf_151 (by decide) ?_
            refine R_sub hc [1, 2, 3, 4, 0] rfl ?_
            exact hX (l3_20, l5_27 + (1 : Int32)) (wpO_some hw :)
          · obtain ⟨l3_22, l6_23⟩ := s
            show Rn x 0 0 40 [(0, rf x.w (some l0)), (1, .int l1), (2, .int l2), (3, .long l3_22), (5, .int l5_27), (6, .int l6_23)] [] h
            have hw : wpO (sX11_aheadOf_L40 F l0 l1 l2 l5_27 l3_22 l6_23 h) _ := hw
            unfold sX11_aheadOf_L40 at hw
            refine R_iload (q := 5) (i := 6) (v := l6_23) hc dX11_aheadOf_40 rfl ?_
            refine R_bipush (v := (16 : Int32)) hc dX11_aheadOf_42 kB_16 ?_
            refine R_icmp_ge (tgt := 148) hc dX11_aheadOf_44 (by decide) hw (fun hw => ?_) (fun hw => ?_)
            · refine R_sub hc [0, 1, 2, 3, 4] rfl ?_
              exact (wpO_some hw :)
            · refine R_iload (q := 4) (i := 5) (v := l5_27) hc dX11_aheadOf_47 rfl ?_
              refine R_iload_n (q := 1) (i := 1) (v := l1) hc dX11_aheadOf_49 rfl rfl ?_
              refine R_iload (q := 5) (i := 6) (v := l6_23) hc dX11_aheadOf_50 rfl ?_
              refine R_iconst (v := (4 : Int32)) hc dX11_aheadOf_52 kI_4 ?_
              refine R_idivL hc dX11_aheadOf_53 (by decide) ?_
              refine R_cSI (As := [.int l5_27, .int l1, .int (l6_23 / (4 : Int32))]) (rest := []) hc ml_11_123 mf_X11_state ⟨rfl, rfl⟩ ⟨le_b rfl, le_b rfl⟩ ⟨Nat.zero_le _, Nat.zero_le _⟩ (fun v e => mt_X11_state e) rfl rfl (Nat.zero_le _) dX11_aheadOf_54 hw (fun t5 hw => ?_)
              refine R_istore (i := 7) (v := t5) hc [(7, .int t5), (0, rf x.w (some l0)), (1, .int l1), (2, .int l2), (3, .long l3_22), (5, .int l5_27), (6, .int l6_23)] dX11_aheadOf_57 (hnl 7 (le_b rfl)) rfl ?_
              refine R_iload (q := 5) (i := 5) (v := l5_27) hc dX11_aheadOf_59 rfl ?_
              refine R_iconst (v := (1 : Int32)) hc dX11_aheadOf_61 kI_1 ?_
              refine R_iload_n (q := 3) (i := 2) (v := l2) hc dX11_aheadOf_62 rfl rfl ?_
              refine R_ishl hc dX11_aheadOf_63 ?_
              refine R_ior hc dX11_aheadOf_64 ?_
              refine R_iload_n (q := 3) (i := 2) (v := l2) hc dX11_aheadOf_65 rfl rfl ?_
              refine R_iload (q := 6) (i := 6) (v := l6_23) hc dX11_aheadOf_66 rfl ?_
              refine R_iconst (v := (4 : Int32)) hc dX11_aheadOf_68 kI_4 ?_
              refine R_iremL hc dX11_aheadOf_69 (by decide) ?_
              refine R_cSI (As := [.int (l5_27 ||| (jshl (1 : Int32) l2)), .int l2, .int (jrem l6_23 (4 : Int32))]) (rest := []) hc ml_11_123 mf_X11_state ⟨rfl, rfl⟩ ⟨le_b rfl, le_b rfl⟩ ⟨Nat.zero_le _, Nat.zero_le _⟩ (fun v e => mt_X11_state e) rfl rfl (Nat.zero_le _) dX11_aheadOf_70 hw (fun t6 hw => ?_)
              refine R_istore (i := 8) (v := t6) hc [(8, .int t6), (7, .int t5), (0, rf x.w (some l0)), (1, .int l1), (2, .int l2), (3, .long l3_22), (5, .int l5_27), (6, .int l6_23)] dX11_aheadOf_73 (hnl 8 (le_b rfl)) rfl ?_
              refine R_aload_n (q := 2) (i := 0) (v := (some l0)) hc dX11_aheadOf_75 rfl rfl ?_
              refine R_iload_n (q := 3) (i := 1) (v := l1) hc dX11_aheadOf_76 rfl rfl ?_
              refine R_iload (q := 7) (i := 6) (v := l6_23) hc dX11_aheadOf_77 rfl ?_
              refine R_iconst (v := (4 : Int32)) hc dX11_aheadOf_79 kI_4 ?_
              refine R_idivL hc dX11_aheadOf_80 (by decide) ?_
              refine R_iload_n (q := 4) (i := 2) (v := l2) hc dX11_aheadOf_81 rfl rfl ?_
              refine R_iload (q := 7) (i := 6) (v := l6_23) hc dX11_aheadOf_82 rfl ?_
              refine R_iconst (v := (4 : Int32)) hc dX11_aheadOf_84 kI_4 ?_
              refine R_iremL hc dX11_aheadOf_85 (by decide) ?_
              refine R_cVI (As := [.int l1, .int (l6_23 / (4 : Int32)), .int l2, .int (jrem l6_23 (4 : Int32))]) (rest := []) (r := (some l0)) (ci := 11) hc ml_11_127 mf_X11_lacks rfl (by decide) ⟨rfl, rfl⟩ ⟨le_b rfl, le_b rfl⟩ ⟨Nat.zero_le _, Nat.zero_le _⟩ (fun a v e => mt_X11_lacks e) rfl rfl (Nat.zero_le _) dX11_aheadOf_86 hw (fun t8 hw => ?_)
              refine R_join (fun (s9 : Int32) => Rn x 0 0 97 [(0, rf x.w (some l0)), (1, .int l1), (2, .int l2), (3, .long l3_22), (5, .int l5_27), (6, .int l6_23), (7, .int t5), (8, .int t6)] [.int s9] h) hw (fun r hw => ?_) (fun hw => ?_)
              · revert r hw
                intro s9 hw
                show Rn x 0 0 97 [(0, rf x.w (some l0)), (1, .int l1), (2, .int l2), (3, .long l3_22), (5, .int l5_27), (6, .int l6_23), (7, .int t5), (8, .int t6)] [.int s9] h
                refine R_istore (i := 9) (v := s9) hc [(9, .int s9), (0, rf x.w (some l0)), (1, .int l1), (2, .int l2), (3, .long l3_22), (5, .int l5_27), (6, .int l6_23), (7, .int t5), (8, .int t6)] dX11_aheadOf_97 (hnl 9 (le_b rfl)) rfl ?_
                refine R_aload_n (q := 1) (i := 0) (v := (some l0)) hc dX11_aheadOf_99 rfl rfl ?_
                refine R_getR hc fl_11_39 dX11_aheadOf_100 hw (fun t10 hw => ?_)
                refine R_iload (q := 7) (i := 7) (v := t5) hc dX11_aheadOf_103 rfl ?_
                refine R_iaload hc dX11_aheadOf_105 hw (fun t11 hw => ?_)
                refine R_iload (q := 0) (i := 9) (v := s9) hc dX11_aheadOf_106 rfl ?_
                refine R_iadd hc dX11_aheadOf_108 ?_
                refine R_aload_n (q := 1) (i := 0) (v := (some l0)) hc dX11_aheadOf_109 rfl rfl ?_
                refine R_getR hc fl_11_29 dX11_aheadOf_110 hw (fun t12 hw => ?_)
                refine R_iload (q := 8) (i := 8) (v := t6) hc dX11_aheadOf_113 rfl ?_
                refine R_iaload hc dX11_aheadOf_115 hw (fun t13 hw => ?_)
                refine R_iadd hc dX11_aheadOf_116 ?_
                refine R_aload_n (q := 1) (i := 0) (v := (some l0)) hc dX11_aheadOf_117 rfl rfl ?_
                refine R_getI hc fl_11_142 dX11_aheadOf_118 hw (fun t14 hw => ?_)
                refine R_icmp_ne (tgt := 142) hc dX11_aheadOf_121 (by decide) hw (fun hw => ?_) (fun hw => ?_)
                · refine R_iinc (q := 6) (i := 6) (v := l6_23) hc [(6, .int (l6_23 + (1 : Int32))), (9, .int s9), (0, rf x.w (some l0)), (1, .int l1), (2, .int l2), (3, .long l3_22), (5, .int l5_27), (7, .int t5), (8, .int t6)] dX11_aheadOf_142 rfl (kC_1 _) (hnl 6 (le_b rfl)) rfl ?_
                  refine R_goto (tgt := 40) hc dX11_aheadOf_145 (by decide) ?_
                  refine R_sub hc [2, 3, 4, 5, 6, 0] rfl ?_
                  exact hX (l3_22, l6_23 + (1 : Int32)) (wpO_some hw :)
                · refine R_lload_n (q := 4) (i := 3) (v := l3_22) hc dX11_aheadOf_124 rfl rfl ?_
                  refine R_aload_n (q := 1) (i := 0) (v := (some l0)) hc dX11_aheadOf_125 rfl rfl ?_
                  refine R_getR hc fl_11_42 dX11_aheadOf_126 hw (fun t15 hw => ?_)
                  refine R_iload (q := 7) (i := 7) (v := t5) hc dX11_aheadOf_129 rfl ?_
                  refine R_laload hc dX11_aheadOf_131 hw (fun t16 hw => ?_)
                  refine R_aload_n (q := 1) (i := 0) (v := (some l0)) hc dX11_aheadOf_132 rfl rfl ?_
                  refine R_getR hc fl_11_32 dX11_aheadOf_133 hw (fun t17 hw => ?_)
                  refine R_iload (q := 8) (i := 8) (v := t6) hc dX11_aheadOf_136 rfl ?_
                  refine R_laload hc dX11_aheadOf_138 hw (fun t18 hw => ?_)
                  refine R_lmul hc dX11_aheadOf_139 ?_
                  refine R_ladd hc dX11_aheadOf_140 ?_
                  refine R_nmJ hw (fun l3_19 hw => ?_)
                  refine R_lstore_n (i := 3) (v := l3_19) hc [(3, .long l3_19), (9, .int s9), (0, rf x.w (some l0)), (1, .int l1), (2, .int l2), (5, .int l5_27), (6, .int l6_23), (7, .int t5), (8, .int t6)] dX11_aheadOf_141 rfl (hnl 4 (le_b rfl)) rfl ?_
                  refine R_iinc (q := 6) (i := 6) (v := l6_23) hc [(6, .int (l6_23 + (1 : Int32))), (3, .long l3_19), (9, .int s9), (0, rf x.w (some l0)), (1, .int l1), (2, .int l2), (5, .int l5_27), (7, .int t5), (8, .int t6)] dX11_aheadOf_142 rfl (kC_1 _) (hnl 6 (le_b rfl)) rfl ?_
                  refine R_goto (tgt := 40) hc dX11_aheadOf_145 (by decide) ?_
                  refine R_sub hc [3, 4, 5, 1, 6, 0] rfl ?_
                  exact hX (l3_19, l6_23 + (1 : Int32)) (wpO_some hw :)
              · refine R_if_le (tgt := 96) hc dX11_aheadOf_89 (by decide) hw (fun hw => ?_) (fun hw => ?_)
                · refine R_iconst (v := (0 : Int32)) hc dX11_aheadOf_96 kI_0 ?_
                  refine R_sub hc [2, 3, 4, 5, 6, 7, 1, 0] rfl ?_
                  exact (wpO_some hw :)
                · refine R_iconst (v := (1 : Int32)) hc dX11_aheadOf_92 kI_1 ?_
                  refine R_goto (tgt := 97) hc dX11_aheadOf_93 (by decide) ?_
                  refine R_sub hc [2, 3, 4, 5, 6, 7, 1, 0] rfl ?_
                  exact (wpO_some hw :)
        · refine R_goto (tgt := 148) hc dX11_aheadOf_34 (by decide) ?_
          refine R_iinc (q := 4) (i := 5) (v := l5_27) hc [(5, .int (l5_27 + (1 : Int32))), (0, rf x.w (some l0)), (1, .int l1), (2, .int l2), (3, .long l3_26)] dX11_aheadOf_148 rfl (kC_1 _) (hnl 5 (le_b rfl)) rfl ?_
          refine R_goto (tgt := 5) hc dX11_aheadOf_151 (by decide) ?_
          refine R_sub hc [1, 2, 3, 4, 0] rfl ?_
          exact hX (l3_26, l5_27 + (1 : Int32)) (wpO_some hw :)
