theorem dX8_readInto_0 : decode cX8_readInto 0 = .ok (.aload_n 1, 1) := by decide +kernel
theorem dX8_readInto_1 : decode cX8_readInto 1 = .ok (.invokevirtual 28, 3) := by decide +kernel
theorem dX8_readInto_4 : decode cX8_readInto 4 = .ok (.aload_n 0, 1) := by decide +kernel
theorem dX8_readInto_5 : decode cX8_readInto 5 = .ok (.iconst (-1), 1) := by decide +kernel
theorem dX8_readInto_6 : decode cX8_readInto 6 = .ok (.putfield 15, 3) := by decide +kernel
theorem dX8_readInto_9 : decode cX8_readInto 9 = .ok (.aload_n 0, 1) := by decide +kernel
theorem dX8_readInto_10 : decode cX8_readInto 10 = .ok (.iconst 0, 1) := by decide +kernel
theorem dX8_readInto_11 : decode cX8_readInto 11 = .ok (.putfield 22, 3) := by decide +kernel
theorem dX8_readInto_14 : decode cX8_readInto 14 = .ok (.aload_n 0, 1) := by decide +kernel
theorem dX8_readInto_15 : decode cX8_readInto 15 = .ok (.ldc 33, 2) := by decide +kernel
theorem dX8_readInto_17 : decode cX8_readInto 17 = .ok (.invokevirtual 35, 3) := by decide +kernel
theorem dX8_readInto_20 : decode cX8_readInto 20 = .ok (.aload_n 1, 1) := by decide +kernel
theorem dX8_readInto_21 : decode cX8_readInto 21 = .ok (.aload_n 0, 1) := by decide +kernel
theorem dX8_readInto_22 : decode cX8_readInto 22 = .ok (.iconst 1, 1) := by decide +kernel
theorem dX8_readInto_23 : decode cX8_readInto 23 = .ok (.bipush 9, 2) := by decide +kernel
theorem dX8_readInto_25 : decode cX8_readInto 25 = .ok (.invokevirtual 39, 3) := by decide +kernel
theorem dX8_readInto_28 : decode cX8_readInto 28 = .ok (.putfield 43, 3) := by decide +kernel
theorem dX8_readInto_31 : decode cX8_readInto 31 = .ok (.aload_n 1, 1) := by decide +kernel
theorem dX8_readInto_32 : decode cX8_readInto 32 = .ok (.aload_n 0, 1) := by decide +kernel
theorem dX8_readInto_33 : decode cX8_readInto 33 = .ok (.iconst 1, 1) := by decide +kernel
theorem dX8_readInto_34 : decode cX8_readInto 34 = .ok (.iconst 4, 1) := by decide +kernel
theorem dX8_readInto_35 : decode cX8_readInto 35 = .ok (.invokevirtual 39, 3) := by decide +kernel
theorem dX8_readInto_38 : decode cX8_readInto 38 = .ok (.putfield 46, 3) := by decide +kernel
theorem dX8_readInto_41 : decode cX8_readInto 41 = .ok (.iconst 0, 1) := by decide +kernel
theorem dX8_readInto_42 : decode cX8_readInto 42 = .ok (.istore_n 2, 1) := by decide +kernel
theorem dX8_readInto_43 : decode cX8_readInto 43 = .ok (.iload_n 2, 1) := by decide +kernel
theorem dX8_readInto_44 : decode cX8_readInto 44 = .ok (.bipush 20, 2) := by decide +kernel
theorem dX8_readInto_46 : decode cX8_readInto 46 = .ok (.if_icmp .gt 22, 3) := by decide +kernel
theorem dX8_readInto_49 : decode cX8_readInto 49 = .ok (.aload_n 0, 1) := by decide +kernel
theorem dX8_readInto_50 : decode cX8_readInto 50 = .ok (.invokevirtual 49, 3) := by decide +kernel
theorem dX8_readInto_53 : decode cX8_readInto 53 = .ok (.ifCond .eq 15, 3) := by decide +kernel
theorem dX8_readInto_56 : decode cX8_readInto 56 = .ok (.aload_n 0, 1) := by decide +kernel
theorem dX8_readInto_57 : decode cX8_readInto 57 = .ok (.aload_n 1, 1) := by decide +kernel
theorem dX8_readInto_58 : decode cX8_readInto 58 = .ok (.iload_n 2, 1) := by decide +kernel
theorem dX8_readInto_59 : decode cX8_readInto 59 = .ok (.invokevirtual 53, 3) := by decide +kernel
theorem dX8_readInto_62 : decode cX8_readInto 62 = .ok (.iinc 2 1, 3) := by decide +kernel
theorem dX8_readInto_65 : decode cX8_readInto 65 = .ok (.goto (-22), 3) := by decide +kernel
theorem dX8_readInto_68 : decode cX8_readInto 68 = .ok (.aload_n 0, 1) := by decide +kernel
theorem dX8_readInto_69 : decode cX8_readInto 69 = .ok (.iconst 0, 1) := by decide +kernel
theorem dX8_readInto_70 : decode cX8_readInto 70 = .ok (.putfield 9, 3) := by decide +kernel
theorem dX8_readInto_73 : decode cX8_readInto 73 = .ok (.aload_n 0, 1) := by decide +kernel
theorem dX8_readInto_74 : decode cX8_readInto 74 = .ok (.getfield 15, 3) := by decide +kernel
theorem dX8_readInto_77 : decode cX8_readInto 77 = .ok (.iconst (-1), 1) := by decide +kernel
theorem dX8_readInto_78 : decode cX8_readInto 78 = .ok (.if_icmp .ne 7, 3) := by decide +kernel
theorem dX8_readInto_81 : decode cX8_readInto 81 = .ok (.iconst 1, 1) := by decide +kernel
theorem dX8_readInto_82 : decode cX8_readInto 82 = .ok (.goto 4, 3) := by decide +kernel
theorem dX8_readInto_85 : decode cX8_readInto 85 = .ok (.iconst 0, 1) := by decide +kernel
theorem dX8_readInto_86 : decode cX8_readInto 86 = .ok (.ireturn, 1) := by decide +kernel
def sX8_readInto_L43 (F : Nat) (l0 : Nat) (l1 : Option Nat) (l2 : Int32) (h : HP) : Option ((Int32 × HP) ⊕ HP) :=
  if (20 : Int32) < l2 then
    some (.inr h)
  else
    (dO h 8 (some l0)).bind fun a15 =>
    bd2 (sX8_anotherLine F a15 h) fun t16 h17 =>
    if t16 = 0 then
      some (.inr h17)
    else
      (dO h17 8 (some l0)).bind fun a18 =>
      (sX8_readLine F a18 l1 l2 h17).bind fun h19 =>
      some (.inl (l2 + (1 : Int32), h19))
def sX8_readInto (F : Nat) (l0 : Nat) (l1 : Option Nat) (h : HP) : Option (Int32 × HP) :=
  (dO h 1 l1).bind fun a1 =>
  (sX1_clear F a1 h).bind fun h2 =>
  (pI h2 8 (some l0) 1 (-1 : Int32)).bind fun h3 =>
  (pI h3 8 (some l0) 3 (0 : Int32)).bind fun h4 =>
  (dO h4 8 (some l0)).bind fun a5 =>
  (sX8_expectWord F a5 (0) h4).bind fun h6 =>
  (dO h6 8 (some l0)).bind fun a7 =>
  bd2 (sX8_readNumber F a7 (1 : Int32) (9 : Int32) h6) fun t8 h9 =>
  (pI h9 1 l1 0 t8).bind fun h10 =>
  (dO h10 8 (some l0)).bind fun a11 =>
  bd2 (sX8_readNumber F a11 (1 : Int32) (4 : Int32) h10) fun t12 h13 =>
  (pI h13 1 l1 1 t12).bind fun h14 =>
  (iter (fun s => sX8_readInto_L43 F l0 l1 s.1 s.2) F ((0 : Int32), h14)).bind fun h20 =>
    (pI h20 8 (some l0) 0 (0 : Int32)).bind fun h21 =>
    (gI h21 8 (some l0) 1).bind fun t22 =>
    if ¬ t22 = (-1 : Int32) then
      some ((0 : Int32), h21)
    else
      some ((1 : Int32), h21)
abbrev rm_X8_readInto : Room := { frames := 8, cells := 0, slots := 0, locals := 174 }
set_option maxRecDepth 100000 in
set_option maxHeartbeats 4000000 in
theorem mt_X8_readInto {w : WD} {l : Launch} {F : Nat} {l0 : Nat} {l1 : Option Nat} {h : HP} {v : Int32} {h' : HP} (hs : sX8_readInto F l0 l1 h = some (v, h')) : MI w l yX8_readInto cX8_readInto 3 .boolean rm_X8_readInto 0 0 [rf w (some l0), rf w l1] h v h' := by
  refine of_body [(0, rf w (some l0)), (1, rf w l1)] (by decide) (by simp [lg_sl, rf_cat, cat_i, cat_l, cat_a]) (by simp [lv_args, rf_cat, cat_i, cat_l, cat_a]) ?_
  intro x hw_ hnL_ hl_ hc hret hnm hQ
  subst hw_; subst hl_
  have hnl : ∀ i, i < 3 → i < x.nL := fun i h => by rw [hnL_]; exact h
  have hw : wpO (sX8_readInto F l0 l1 h) (fun r => r = (v, h')) := ⟨_, hs, rfl⟩
  unfold sX8_readInto at hw
  refine R_aload_n (q := 1) (i := 1) (v := l1) hc dX8_readInto_0 rfl rfl ?_
  refine R_cVVi (As := []) (rest := []) (r := l1) (ci := 1) hc ml_8_28 mf_X1_clear rfl (by decide) ⟨rfl, rfl⟩ ⟨le_b rfl, le_b rfl⟩ ⟨Nat.zero_le _, Nat.zero_le _⟩ (fun a h' e => mt_X1_clear e) rfl rfl (Nat.zero_le _) dX8_readInto_1 hw (fun h2 hw => ?_)
  refine R_aload_n (q := 0) (i := 0) (v := (some l0)) hc dX8_readInto_4 rfl rfl ?_
  refine R_iconst (v := (-1 : Int32)) hc dX8_readInto_5 kI_m1 ?_
  refine R_putI hc pl_8_15 rfl rfl dX8_readInto_6 hw (fun h3 hw => ?_)
  refine R_aload_n (q := 0) (i := 0) (v := (some l0)) hc dX8_readInto_9 rfl rfl ?_
  refine R_iconst (v := (0 : Int32)) hc dX8_readInto_10 kI_0 ?_
  refine R_putI hc pl_8_22 rfl rfl dX8_readInto_11 hw (fun h4 hw => ?_)
  refine R_aload_n (q := 0) (i := 0) (v := (some l0)) hc dX8_readInto_14 rfl rfl ?_
  refine R_ldcS (k := 0) hc (hc.sk.2.2.2.2.2.1 (RX8, 33, "cell", 0) (List.mem_of_getElem? (i := 0) rfl)) dX8_readInto_15 ?_
  refine R_cVVi (As := [.ref (x.w.aS (0))]) (rest := []) (r := (some l0)) (ci := 8) hc ml_8_35 mf_X8_expectWord rfl (by decide) ⟨rfl, rfl⟩ ⟨le_b rfl, le_b rfl⟩ ⟨Nat.zero_le _, Nat.zero_le _⟩ (fun a h' e => mt_X8_expectWord e) rfl rfl (Nat.zero_le _) dX8_readInto_17 hw (fun h6 hw => ?_)
  refine R_aload_n (q := 1) (i := 1) (v := l1) hc dX8_readInto_20 rfl rfl ?_
  refine R_aload_n (q := 0) (i := 0) (v := (some l0)) hc dX8_readInto_21 rfl rfl ?_
  refine R_iconst (v := (1 : Int32)) hc dX8_readInto_22 kI_1 ?_
  refine R_bipush (v := (9 : Int32)) hc dX8_readInto_23 kB_9 ?_
  refine R_cVIi (As := [.int (1 : Int32), .int (9 : Int32)]) (rest := [rf x.w l1]) (r := (some l0)) (ci := 8) hc ml_8_39 mf_X8_readNumber rfl (by decide) ⟨rfl, rfl⟩ ⟨le_b rfl, le_b rfl⟩ ⟨Nat.zero_le _, Nat.zero_le _⟩ (fun a v h' e => mt_X8_readNumber e) rfl rfl (by simp [rf_cat, cat_i, cat_l, cat_a]) dX8_readInto_25 hw (fun t8 h9 hw => ?_)
  refine R_putI hc pl_8_43 rfl rfl dX8_readInto_28 hw (fun h10 hw => ?_)
  refine R_aload_n (q := 1) (i := 1) (v := l1) hc dX8_readInto_31 rfl rfl ?_
  refine R_aload_n (q := 0) (i := 0) (v := (some l0)) hc dX8_readInto_32 rfl rfl ?_
  refine R_iconst (v := (1 : Int32)) hc dX8_readInto_33 kI_1 ?_
  refine R_iconst (v := (4 : Int32)) hc dX8_readInto_34 kI_4 ?_
  refine R_cVIi (As := [.int (1 : Int32), .int (4 : Int32)]) (rest := [rf x.w l1]) (r := (some l0)) (ci := 8) hc ml_8_39 mf_X8_readNumber rfl (by decide) ⟨rfl, rfl⟩ ⟨le_b rfl, le_b rfl⟩ ⟨Nat.zero_le _, Nat.zero_le _⟩ (fun a v h' e => mt_X8_readNumber e) rfl rfl (by simp [rf_cat, cat_i, cat_l, cat_a]) dX8_readInto_35 hw (fun t12 h13 hw => ?_)
  refine R_putI hc pl_8_46 rfl rfl dX8_readInto_38 hw (fun h14 hw => ?_)
  refine R_iconst (v := (0 : Int32)) hc dX8_readInto_41 kI_0 ?_
  refine R_istore_n (i := 2) (v := (0 : Int32)) hc [(2, .int (0 : Int32)), (0, rf x.w (some l0)), (1, rf x.w l1)] dX8_readInto_42 rfl (hnl 2 (le_b rfl)) (by simp [rf_cat]) ?_
  refine R_sub hc [1, 2, 0] rfl ?_
  refine R_loop (P := fun (s : (Int32 × HP)) => Rn x 0 0 43 [(0, rf x.w (some l0)), (1, rf x.w l1), (2, .int s.1)] [] s.2) (fun h20 => Rn x 0 0 68 [(0, rf x.w (some l0))] [] h20) hw (fun r hw => ?_) (fun X hX s hw => ?_)
  · revert r hw
    intro h20 hw
    show Rn x 0 0 68 [(0, rf x.w (some l0))] [] h20
    refine R_aload_n (q := 0) (i := 0) (v := (some l0)) hc dX8_readInto_68 rfl rfl ?_
    refine R_iconst (v := (0 : Int32)) hc dX8_readInto_69 kI_0 ?_
    refine R_putI hc pl_8_9 rfl rfl dX8_readInto_70 hw (fun h21 hw => ?_)
    refine R_aload_n (q := 0) (i := 0) (v := (some l0)) hc dX8_readInto_73 rfl rfl ?_
    refine R_getI hc fl_8_15 dX8_readInto_74 hw (fun t22 hw => ?_)
    refine R_iconst (v := (-1 : Int32)) hc dX8_readInto_77 kI_m1 ?_
    refine R_icmp_ne (tgt := 85) hc dX8_readInto_78 (by decide) hw (fun hw => ?_) (fun hw => ?_)
    · refine R_iconst (v := (0 : Int32)) hc dX8_readInto_85 kI_0 ?_
      exact R_ireturn hc hret rfl hQ hw dX8_readInto_86
    · refine R_iconst (v := (1 : Int32)) hc dX8_readInto_81 kI_1 ?_
      refine R_goto (tgt := 86) hc dX8_readInto_82 (by decide) ?_
      exact R_ireturn hc hret rfl hQ hw dX8_readInto_86
  · obtain ⟨l2_24, h25⟩ := s
    show Rn x 0 0 43 [(0, rf x.w (some l0)), (1, rf x.w l1), (2, .int l2_24)] [] h25
    have hw : wpO (sX8_readInto_L43 F l0 l1 l2_24 h25) _ := hw
    unfold sX8_readInto_L43 at hw
    refine R_iload_n (q := 2) (i := 2) (v := l2_24) hc dX8_readInto_43 rfl rfl ?_
    refine R_bipush (v := (20 : Int32)) hc dX8_readInto_44 kB_20 ?_
    refine R_icmp_gt (tgt := 68) hc dX8_readInto_46 (by decide) hw (fun hw => ?_) (fun hw => ?_)
    · refine R_sub hc [0] rfl ?_
      exact (wpO_some hw :)
    · refine R_aload_n (q := 0) (i := 0) (v := (some l0)) hc dX8_readInto_49 rfl rfl ?_
      refine R_cVIi (As := []) (rest := []) (r := (some l0)) (ci := 8) hc ml_8_49 mf_X8_anotherLine rfl (by decide) ⟨rfl, rfl⟩ ⟨le_b rfl, le_b rfl⟩ ⟨Nat.zero_le _, Nat.zero_le _⟩ (fun a v h' e => mt_X8_anotherLine e) rfl rfl (Nat.zero_le _) dX8_readInto_50 hw (fun t16 h17 hw => ?_)
      refine R_if_eq (tgt := 68) hc dX8_readInto_53 (by decide) hw (fun hw => ?_) (fun hw => ?_)
      · refine R_sub hc [0] rfl ?_
        exact (wpO_some hw :)
      · refine R_aload_n (q := 0) (i := 0) (v := (some l0)) hc dX8_readInto_56 rfl rfl ?_
        refine R_aload_n (q := 1) (i := 1) (v := l1) hc dX8_readInto_57 rfl rfl ?_
        refine R_iload_n (q := 2) (i := 2) (v := l2_24) hc dX8_readInto_58 rfl rfl ?_
        refine R_cVVi (As := [rf x.w l1, .int l2_24]) (rest := []) (r := (some l0)) (ci := 8) hc ml_8_53 mf_X8_readLine rfl (by decide) ⟨rfl, rfl⟩ ⟨le_b rfl, le_b rfl⟩ ⟨Nat.zero_le _, Nat.zero_le _⟩ (fun a h' e => mt_X8_readLine e) rfl rfl (Nat.zero_le _) dX8_readInto_59 hw (fun h19 hw => ?_)
        refine R_iinc (q := 2) (i := 2) (v := l2_24) hc [(2, .int (l2_24 + (1 : Int32))), (0, rf x.w (some l0)), (1, rf x.w l1)] dX8_readInto_62 rfl (kC_1 _) (hnl 2 (le_b rfl)) (by simp [rf_cat]) ?_
        refine R_goto (tgt := 43) hc dX8_readInto_65 (by decide) ?_
        refine R_sub hc [1, 2, 0] rfl ?_
        exact hX (l2_24 + (1 : Int32), h19) (wpO_some hw :)
theorem dX10_notKept_0 : decode cX10_notKept 0 = .ok (.aload_n 0, 1) := by decide +kernel
theorem dX10_notKept_1 : decode cX10_notKept 1 = .ok (.getfield 78, 3) := by decide +kernel
theorem dX10_notKept_4 : decode cX10_notKept 4 = .ok (.aload_n 0, 1) := by decide +kernel
theorem dX10_notKept_5 : decode cX10_notKept 5 = .ok (.getfield 21, 3) := by decide +kernel
theorem dX10_notKept_8 : decode cX10_notKept 8 = .ok (.if_acmp .ne 10, 3) := by decide +kernel
theorem dX10_notKept_11 : decode cX10_notKept 11 = .ok (.aload_n 0, 1) := by decide +kernel
theorem dX10_notKept_12 : decode cX10_notKept 12 = .ok (.getfield 25, 3) := by decide +kernel
theorem dX10_notKept_15 : decode cX10_notKept 15 = .ok (.goto 7, 3) := by decide +kernel
theorem dX10_notKept_18 : decode cX10_notKept 18 = .ok (.aload_n 0, 1) := by decide +kernel
theorem dX10_notKept_19 : decode cX10_notKept 19 = .ok (.getfield 21, 3) := by decide +kernel
theorem dX10_notKept_22 : decode cX10_notKept 22 = .ok (.areturn, 1) := by decide +kernel
def sX10_notKept (F : Nat) (l0 : Nat) (h : HP) : Option (Option Nat) :=
  (gR h 10 (some l0) 13).bind fun t1 =>
  (gR h 10 (some l0) 1).bind fun t2 =>
  if ¬ t1 = t2 then
    (gR h 10 (some l0) 1).bind fun t3 =>
    some t3
  else
    (gR h 10 (some l0) 2).bind fun t4 =>
    some t4
abbrev rm_X10_notKept : Room := { frames := 0, cells := 0, slots := 0, locals := 0 }
set_option maxRecDepth 100000 in
set_option maxHeartbeats 4000000 in
theorem mt_X10_notKept {w : WD} {l : Launch} {F : Nat} {l0 : Nat} {h : HP} {v : Option Nat} (hs : sX10_notKept F l0 h = some v) : MR w l yX10_notKept cX10_notKept 1 (.object "FingerRows$Orders") rm_X10_notKept 0 0 [rf w (some l0)] h v h := by
  refine of_body [(0, rf w (some l0))] (by decide) (by simp [lg_sl, rf_cat, cat_i, cat_l, cat_a]) (by simp [lv_args, rf_cat, cat_i, cat_l, cat_a]) ?_
  intro x hw_ hnL_ hl_ hc hret hnm hQ
  subst hw_; subst hl_
  have hnl : ∀ i, i < 1 → i < x.nL := fun i h => by rw [hnL_]; exact h
  have hw : wpO (sX10_notKept F l0 h) (fun r => r = v) := ⟨_, hs, rfl⟩
  unfold sX10_notKept at hw
  refine R_aload_n (q := 0) (i := 0) (v := (some l0)) hc dX10_notKept_0 rfl rfl ?_
  refine R_getR hc fl_10_78 dX10_notKept_1 hw (fun t1 hw => ?_)
  refine R_aload_n (q := 0) (i := 0) (v := (some l0)) hc dX10_notKept_4 rfl rfl ?_
  refine R_getR hc fl_10_21 dX10_notKept_5 hw (fun t2 hw => ?_)
  refine R_acmp_ne (tgt := 18) hc dX10_notKept_8 (by decide) hw (fun hw => ?_) (fun hw => ?_)
  · refine R_aload_n (q := 0) (i := 0) (v := (some l0)) hc dX10_notKept_18 rfl rfl ?_
    refine R_getR hc fl_10_21 dX10_notKept_19 hw (fun t3 hw => ?_)
    exact R_areturnP hc hret hQ hw dX10_notKept_22
  · refine R_aload_n (q := 0) (i := 0) (v := (some l0)) hc dX10_notKept_11 rfl rfl ?_
    refine R_getR hc fl_10_25 dX10_notKept_12 hw (fun t4 hw => ?_)
    refine R_goto (tgt := 22) hc dX10_notKept_15 (by decide) ?_
    exact R_areturnP hc hret hQ hw dX10_notKept_22
theorem dX4_exchange_0 : decode cX4_exchange 0 = .ok (.aload_n 0, 1) := by decide +kernel
theorem dX4_exchange_1 : decode cX4_exchange 1 = .ok (.getfield 12, 3) := by decide +kernel
theorem dX4_exchange_4 : decode cX4_exchange 4 = .ok (.astore_n 2, 1) := by decide +kernel
theorem dX4_exchange_5 : decode cX4_exchange 5 = .ok (.aload_n 0, 1) := by decide +kernel
theorem dX4_exchange_6 : decode cX4_exchange 6 = .ok (.aload_n 1, 1) := by decide +kernel
theorem dX4_exchange_7 : decode cX4_exchange 7 = .ok (.putfield 12, 3) := by decide +kernel
theorem dX4_exchange_10 : decode cX4_exchange 10 = .ok (.aload_n 2, 1) := by decide +kernel
theorem dX4_exchange_11 : decode cX4_exchange 11 = .ok (.areturn, 1) := by decide +kernel
def sX4_exchange (F : Nat) (l0 : Nat) (l1 : Option Nat) (h : HP) : Option ((Option Nat) × HP) :=
  (gR h 4 (some l0) 0).bind fun t1 =>
  (pR h 4 (some l0) 0 l1).bind fun h2 =>
  some (t1, h2)
abbrev rm_X4_exchange : Room := { frames := 0, cells := 0, slots := 0, locals := 0 }
set_option maxRecDepth 100000 in
set_option maxHeartbeats 4000000 in
theorem mt_X4_exchange {w : WD} {l : Launch} {F : Nat} {l0 : Nat} {l1 : Option Nat} {h : HP} {v : Option Nat} {h' : HP} (hs : sX4_exchange F l0 l1 h = some (v, h')) : MR w l yX4_exchange cX4_exchange 3 (.object "FingerRows$Cell") rm_X4_exchange 0 0 [rf w (some l0), rf w l1] h v h' := by
  refine of_body [(0, rf w (some l0)), (1, rf w l1)] (by decide) (by simp [lg_sl, rf_cat, cat_i, cat_l, cat_a]) (by simp [lv_args, rf_cat, cat_i, cat_l, cat_a]) ?_
  intro x hw_ hnL_ hl_ hc hret hnm hQ
  subst hw_; subst hl_
  have hnl : ∀ i, i < 3 → i < x.nL := fun i h => by rw [hnL_]; exact h
  have hw : wpO (sX4_exchange F l0 l1 h) (fun r => r = (v, h')) := ⟨_, hs, rfl⟩
  unfold sX4_exchange at hw
  refine R_aload_n (q := 0) (i := 0) (v := (some l0)) hc dX4_exchange_0 rfl rfl ?_
  refine R_getR hc fl_4_12 dX4_exchange_1 hw (fun t1 hw => ?_)
  refine R_astore_n (i := 2) (v := t1) hc [(2, rf x.w t1), (0, rf x.w (some l0)), (1, rf x.w l1)] dX4_exchange_4 rfl (hnl 2 (le_b rfl)) (by simp [rf_cat]) ?_
  refine R_aload_n (q := 1) (i := 0) (v := (some l0)) hc dX4_exchange_5 rfl rfl ?_
  refine R_aload_n (q := 2) (i := 1) (v := l1) hc dX4_exchange_6 rfl rfl ?_
  refine R_putR hc pl_4_12 (rf_fits_o _ _ _).1 (rf_fits_o _ _ _).2 dX4_exchange_7 hw (fun h2 hw => ?_)
  refine R_aload_n (q := 0) (i := 2) (v := t1) hc dX4_exchange_10 rfl rfl ?_
  exact R_areturn hc hret hQ hw dX4_exchange_11
theorem dX7_reset_0 : decode cX7_reset 0 = .ok (.aload_n 0, 1) := by decide +kernel
theorem dX7_reset_1 : decode cX7_reset 1 = .ok (.iload_n 1, 1) := by decide +kernel
theorem dX7_reset_2 : decode cX7_reset 2 = .ok (.putfield 9, 3) := by decide +kernel
theorem dX7_reset_5 : decode cX7_reset 5 = .ok (.iconst 0, 1) := by decide +kernel
theorem dX7_reset_6 : decode cX7_reset 6 = .ok (.istore_n 2, 1) := by decide +kernel
theorem dX7_reset_7 : decode cX7_reset 7 = .ok (.iload_n 2, 1) := by decide +kernel
theorem dX7_reset_8 : decode cX7_reset 8 = .ok (.aload_n 0, 1) := by decide +kernel
theorem dX7_reset_9 : decode cX7_reset 9 = .ok (.getfield 9, 3) := by decide +kernel
theorem dX7_reset_12 : decode cX7_reset 12 = .ok (.if_icmp .ge 18, 3) := by decide +kernel
theorem dX7_reset_15 : decode cX7_reset 15 = .ok (.aload_n 0, 1) := by decide +kernel
theorem dX7_reset_16 : decode cX7_reset 16 = .ok (.getfield 15, 3) := by decide +kernel
theorem dX7_reset_19 : decode cX7_reset 19 = .ok (.iload_n 2, 1) := by decide +kernel
theorem dX7_reset_20 : decode cX7_reset 20 = .ok (.iload_n 2, 1) := by decide +kernel
theorem dX7_reset_21 : decode cX7_reset 21 = .ok (.iconst 4, 1) := by decide +kernel
theorem dX7_reset_22 : decode cX7_reset 22 = .ok (.imul, 1) := by decide +kernel
theorem dX7_reset_23 : decode cX7_reset 23 = .ok (.iastore, 1) := by decide +kernel
theorem dX7_reset_24 : decode cX7_reset 24 = .ok (.iinc 2 1, 3) := by decide +kernel
theorem dX7_reset_27 : decode cX7_reset 27 = .ok (.goto (-20), 3) := by decide +kernel
theorem dX7_reset_30 : decode cX7_reset 30 = .ok (.return_, 1) := by decide +kernel
def sX7_reset_L7 (F : Nat) (l0 : Nat) (l2 : Int32) (h : HP) : Option ((Int32 × HP) ⊕ HP) :=
  (gI h 7 (some l0) 0).bind fun t2 =>
  if t2 ≤ l2 then
    some (.inr h)
  else
    (gR h 7 (some l0) 1).bind fun t3 =>
    (sI h t3 l2 (l2 * (4 : Int32))).bind fun h4 =>
    some (.inl (l2 + (1 : Int32), h4))
def sX7_reset (F : Nat) (l0 : Nat) (l1 : Int32) (h : HP) : Option HP :=
  (pI h 7 (some l0) 0 l1).bind fun h1 =>
  (iter (fun s => sX7_reset_L7 F l0 s.1 s.2) F ((0 : Int32), h1)).bind fun h5 =>
    some h5
abbrev rm_X7_reset : Room := { frames := 0, cells := 0, slots := 0, locals := 0 }
set_option maxRecDepth 100000 in
set_option maxHeartbeats 4000000 in
theorem mt_X7_reset {w : WD} {l : Launch} {F : Nat} {l0 : Nat} {l1 : Int32} {h : HP} {h' : HP} (hs : sX7_reset F l0 l1 h = some h') : MV w l yX7_reset cX7_reset 3 rm_X7_reset 0 0 [rf w (some l0), .int l1] h h' := by
  refine of_body [(0, rf w (some l0)), (1, .int l1)] (by decide) (by simp [lg_sl, rf_cat, cat_i, cat_l, cat_a]) (by simp [lv_args, rf_cat, cat_i, cat_l, cat_a]) ?_
  intro x hw_ hnL_ hl_ hc hret hnm hQ
  subst hw_; subst hl_
  have hnl : ∀ i, i < 3 → i < x.nL := fun i h => by rw [hnL_]; exact h
  have hw : wpO (sX7_reset F l0 l1 h) (fun r => r = h') := ⟨_, hs, rfl⟩
  unfold sX7_reset at hw
  refine R_aload_n (q := 0) (i := 0) (v := (some l0)) hc dX7_reset_0 rfl rfl ?_
  refine R_iload_n (q := 1) (i := 1) (v := l1) hc dX7_reset_1 rfl rfl ?_
  refine R_putI hc pl_7_9 rfl rfl dX7_reset_2 hw (fun h1 hw => ?_)
  refine R_iconst (v := (0 : Int32)) hc dX7_reset_5 kI_0 ?_
  refine R_istore_n (i := 2) (v := (0 : Int32)) hc [(2, .int (0 : Int32)), (0, rf x.w (some l0)), (1, .int l1)] dX7_reset_6 rfl (hnl 2 (le_b rfl)) rfl ?_
  refine R_sub hc [1, 0] rfl ?_
  refine R_loop (P := fun (s : (Int32 × HP)) => Rn x 0 0 7 [(0, rf x.w (some l0)), (2, .int s.1)] [] s.2) (fun h5 => Rn x 0 0 30 [] [] h5) hw (fun r hw => ?_) (fun X hX s hw => ?_)
  · revert r hw
    intro h5 hw
    show Rn x 0 0 30 [] [] h5
    exact R_return hc hret hQ hw dX7_reset_30
  · obtain ⟨l2_7, h8⟩ := s
    show Rn x 0 0 7 [(0, rf x.w (some l0)), (2, .int l2_7)] [] h8
    have hw : wpO (sX7_reset_L7 F l0 l2_7 h8) _ := hw
    unfold sX7_reset_L7 at hw
    refine R_iload_n (q := 1) (i := 2) (v := l2_7) hc dX7_reset_7 rfl rfl ?_
    refine R_aload_n (q := 0) (i := 0) (v := (some l0)) hc dX7_reset_8 rfl rfl ?_
    refine R_getI hc fl_7_9 dX7_reset_9 hw (fun t2 hw => ?_)
    refine R_icmp_ge (tgt := 30) hc dX7_reset_12 (by decide) hw (fun hw => ?_) (fun hw => ?_)
    · refine R_sub hc [] rfl ?_
      exact (wpO_some hw :)
    · refine R_aload_n (q := 0) (i := 0) (v := (some l0)) hc dX7_reset_15 rfl rfl ?_
      refine R_getR hc fl_7_15 dX7_reset_16 hw (fun t3 hw => ?_)
      refine R_iload_n (q := 1) (i := 2) (v := l2_7) hc dX7_reset_19 rfl rfl ?_
      refine R_iload_n (q := 1) (i := 2) (v := l2_7) hc dX7_reset_20 rfl rfl ?_
      refine R_iconst (v := (4 : Int32)) hc dX7_reset_21 kI_4 ?_
      refine R_imul hc dX7_reset_22 ?_
      refine R_iastore hc dX7_reset_23 hw (fun h4 hw => ?_)
      refine R_iinc (q := 1) (i := 2) (v := l2_7) hc [(2, .int (l2_7 + (1 : Int32))), (0, rf x.w (some l0))] dX7_reset_24 rfl (kC_1 _) (hnl 2 (le_b rfl)) rfl ?_
      refine R_goto (tgt := 7) hc dX7_reset_27 (by decide) ?_
      refine R_sub hc [1, 0] rfl ?_
      exact hX (l2_7 + (1 : Int32), h4) (wpO_some hw :)
theorem dX5_forget_0 : decode cX5_forget 0 = .ok (.aload_n 0, 1) := by decide +kernel
theorem dX5_forget_1 : decode cX5_forget 1 = .ok (.iconst 0, 1) := by decide +kernel
theorem dX5_forget_2 : decode cX5_forget 2 = .ok (.putfield 9, 3) := by decide +kernel
theorem dX5_forget_5 : decode cX5_forget 5 = .ok (.return_, 1) := by decide +kernel
def sX5_forget (F : Nat) (l0 : Nat) (h : HP) : Option HP :=
  (pI h 5 (some l0) 0 (0 : Int32)).bind fun h1 =>
  some h1
abbrev rm_X5_forget : Room := { frames := 0, cells := 0, slots := 0, locals := 0 }
set_option maxRecDepth 100000 in
set_option maxHeartbeats 4000000 in
theorem mt_X5_forget {w : WD} {l : Launch} {F : Nat} {l0 : Nat} {h : HP} {h' : HP} (hs : sX5_forget F l0 h = some h') : MV w l yX5_forget cX5_forget 1 rm_X5_forget 0 0 [rf w (some l0)] h h' := by
  refine of_body [(0, rf w (some l0))] (by decide) (by simp [lg_sl, rf_cat, cat_i, cat_l, cat_a]) (by simp [lv_args, rf_cat, cat_i, cat_l, cat_a]) ?_
  intro x hw_ hnL_ hl_ hc hret hnm hQ
  subst hw_; subst hl_
  have hnl : ∀ i, i < 1 → i < x.nL := fun i h => by rw [hnL_]; exact h
  have hw : wpO (sX5_forget F l0 h) (fun r => r = h') := ⟨_, hs, rfl⟩
  unfold sX5_forget at hw
  refine R_aload_n (q := 0) (i := 0) (v := (some l0)) hc dX5_forget_0 rfl rfl ?_
  refine R_iconst (v := (0 : Int32)) hc dX5_forget_1 kI_0 ?_
  refine R_putI hc pl_5_9 rfl rfl dX5_forget_2 hw (fun h1 hw => ?_)
  exact R_return hc hret hQ hw dX5_forget_5
theorem dX10_fault_0 : decode cX10_fault 0 = .ok (.aload_n 0, 1) := by decide +kernel
theorem dX10_fault_1 : decode cX10_fault 1 = .ok (.getfield 12, 3) := by decide +kernel
theorem dX10_fault_4 : decode cX10_fault 4 = .ok (.getfield 137, 3) := by decide +kernel
theorem dX10_fault_7 : decode cX10_fault 7 = .ok (.ireturn, 1) := by decide +kernel
def sX10_fault (F : Nat) (l0 : Nat) (h : HP) : Option Int32 :=
  (gR h 10 (some l0) 0).bind fun t1 =>
  (gI h 8 t1 1).bind fun t2 =>
  some t2
abbrev rm_X10_fault : Room := { frames := 0, cells := 0, slots := 0, locals := 0 }
set_option maxRecDepth 100000 in
set_option maxHeartbeats 4000000 in
theorem mt_X10_fault {w : WD} {l : Launch} {F : Nat} {l0 : Nat} {h : HP} {v : Int32} (hs : sX10_fault F l0 h = some v) : MI w l yX10_fault cX10_fault 1 .int rm_X10_fault 0 0 [rf w (some l0)] h v h := by
  refine of_body [(0, rf w (some l0))] (by decide) (by simp [lg_sl, rf_cat, cat_i, cat_l, cat_a]) (by simp [lv_args, rf_cat, cat_i, cat_l, cat_a]) ?_
  intro x hw_ hnL_ hl_ hc hret hnm hQ
  subst hw_; subst hl_
  have hnl : ∀ i, i < 1 → i < x.nL := fun i h => by rw [hnL_]; exact h
  have hw : wpO (sX10_fault F l0 h) (fun r => r = v) := ⟨_, hs, rfl⟩
  unfold sX10_fault at hw
  refine R_aload_n (q := 0) (i := 0) (v := (some l0)) hc dX10_fault_0 rfl rfl ?_
  refine R_getR hc fl_10_12 dX10_fault_1 hw (fun t1 hw => ?_)
  refine R_getI hc fl_10_137 dX10_fault_4 hw (fun t2 hw => ?_)
  exact R_ireturnP hc hret rfl hQ hw dX10_fault_7
theorem dX1_fingersOf_0 : decode cX1_fingersOf 0 = .ok (.iconst 0, 1) := by decide +kernel
theorem dX1_fingersOf_1 : decode cX1_fingersOf 1 = .ok (.istore_n 2, 1) := by decide +kernel
theorem dX1_fingersOf_2 : decode cX1_fingersOf 2 = .ok (.iconst 0, 1) := by decide +kernel
theorem dX1_fingersOf_3 : decode cX1_fingersOf 3 = .ok (.istore_n 3, 1) := by decide +kernel
theorem dX1_fingersOf_4 : decode cX1_fingersOf 4 = .ok (.iload_n 3, 1) := by decide +kernel
theorem dX1_fingersOf_5 : decode cX1_fingersOf 5 = .ok (.aload_n 0, 1) := by decide +kernel
theorem dX1_fingersOf_6 : decode cX1_fingersOf 6 = .ok (.getfield 43, 3) := by decide +kernel
theorem dX1_fingersOf_9 : decode cX1_fingersOf 9 = .ok (.if_icmp .ge 25, 3) := by decide +kernel
theorem dX1_fingersOf_12 : decode cX1_fingersOf 12 = .ok (.aload_n 0, 1) := by decide +kernel
theorem dX1_fingersOf_13 : decode cX1_fingersOf 13 = .ok (.getfield 15, 3) := by decide +kernel
theorem dX1_fingersOf_16 : decode cX1_fingersOf 16 = .ok (.iload_n 3, 1) := by decide +kernel
theorem dX1_fingersOf_17 : decode cX1_fingersOf 17 = .ok (.iaload, 1) := by decide +kernel
theorem dX1_fingersOf_18 : decode cX1_fingersOf 18 = .ok (.iload_n 1, 1) := by decide +kernel
theorem dX1_fingersOf_19 : decode cX1_fingersOf 19 = .ok (.if_icmp .ne 9, 3) := by decide +kernel
theorem dX1_fingersOf_22 : decode cX1_fingersOf 22 = .ok (.iload_n 2, 1) := by decide +kernel
theorem dX1_fingersOf_23 : decode cX1_fingersOf 23 = .ok (.iconst 1, 1) := by decide +kernel
theorem dX1_fingersOf_24 : decode cX1_fingersOf 24 = .ok (.iload_n 3, 1) := by decide +kernel
theorem dX1_fingersOf_25 : decode cX1_fingersOf 25 = .ok (.ishl, 1) := by decide +kernel
theorem dX1_fingersOf_26 : decode cX1_fingersOf 26 = .ok (.ior, 1) := by decide +kernel
theorem dX1_fingersOf_27 : decode cX1_fingersOf 27 = .ok (.istore_n 2, 1) := by decide +kernel
theorem dX1_fingersOf_28 : decode cX1_fingersOf 28 = .ok (.iinc 3 1, 3) := by decide +kernel
theorem dX1_fingersOf_31 : decode cX1_fingersOf 31 = .ok (.goto (-27), 3) := by decide +kernel
theorem dX1_fingersOf_34 : decode cX1_fingersOf 34 = .ok (.iload_n 2, 1) := by decide +kernel
theorem dX1_fingersOf_35 : decode cX1_fingersOf 35 = .ok (.ireturn, 1) := by decide +kernel
def sX1_fingersOf_L4 (F : Nat) (l0 : Nat) (l1 : Int32) (l2 : Int32) (l3 : Int32) (h : HP) : Option ((Int32 × Int32) ⊕ Int32) :=
  (gI h 1 (some l0) 5).bind fun t1 =>
  if t1 ≤ l3 then
    some (.inr l2)
  else
    (gR h 1 (some l0) 8).bind fun t2 =>
    (aI h 13 t2 l3).bind fun t3 =>
    if ¬ t3 = l1 then
      some (.inl (l2, l3 + (1 : Int32)))
    else
      nmI (l2 ||| (jshl (1 : Int32) l3)) fun l2_4 =>
      some (.inl (l2_4, l3 + (1 : Int32)))
def sX1_fingersOf (F : Nat) (l0 : Nat) (l1 : Int32) (h : HP) : Option Int32 :=
  (iter (fun s => sX1_fingersOf_L4 F l0 l1 s.1 s.2 h) F ((0 : Int32), (0 : Int32))).bind fun l2_5 =>
    some l2_5
abbrev rm_X1_fingersOf : Room := { frames := 0, cells := 0, slots := 0, locals := 0 }
set_option maxRecDepth 100000 in
set_option maxHeartbeats 4000000 in
theorem mt_X1_fingersOf {w : WD} {l : Launch} {F : Nat} {l0 : Nat} {l1 : Int32} {h : HP} {v : Int32} (hs : sX1_fingersOf F l0 l1 h = some v) : MI w l yX1_fingersOf cX1_fingersOf 4 .int rm_X1_fingersOf 0 0 [rf w (some l0), .int l1] h v h := by
  refine of_body [(0, rf w (some l0)), (1, .int l1)] (by decide) (by simp [lg_sl, rf_cat, cat_i, cat_l, cat_a]) (by simp [lv_args, rf_cat, cat_i, cat_l, cat_a]) ?_
  intro x hw_ hnL_ hl_ hc hret hnm hQ
  subst hw_; subst hl_
  have hnl : ∀ i, i < 4 → i < x.nL := fun i h => by rw [hnL_]; exact h
  have hw : wpO (sX1_fingersOf F l0 l1 h) (fun r => r = v) := ⟨_, hs, rfl⟩
  unfold sX1_fingersOf at hw
  refine R_iconst (v := (0 : Int32)) hc dX1_fingersOf_0 kI_0 ?_
  refine R_istore_n (i := 2) (v := (0 : Int32)) hc [(2, .int (0 : Int32)), (0, rf x.w (some l0)), (1, .int l1)] dX1_fingersOf_1 rfl (hnl 2 (le_b rfl)) rfl ?_
  refine R_iconst (v := (0 : Int32)) hc dX1_fingersOf_2 kI_0 ?_
  refine R_istore_n (i := 3) (v := (0 : Int32)) hc [(3, .int (0 : Int32)), (2, .int (0 : Int32)), (0, rf x.w (some l0)), (1, .int l1)] dX1_fingersOf_3 rfl (hnl 3 (le_b rfl)) rfl ?_
  refine R_sub hc [2, 3, 1, 0] rfl ?_
  refine R_loop (P := fun (s : (Int32 × Int32)) => Rn x 0 0 4 [(0, rf x.w (some l0)), (1, .int l1), (2, .int s.1), (3, .int s.2)] [] h) (fun l2_5 => Rn x 0 0 34 [(2, .int l2_5)] [] h) hw (fun r hw => ?_) (fun X hX s hw => ?_)
  · revert r hw
    intro l2_5 hw
    show Rn x 0 0 34 [(2, .int l2_5)] [] h
    refine R_iload_n (q := 0) (i := 2) (v := l2_5) hc dX1_fingersOf_34 rfl rfl ?_
    exact R_ireturnP hc hret rfl hQ hw dX1_fingersOf_35
  · obtain ⟨l2_7, l3_8⟩ := s
    show Rn x 0 0 4 [(0, rf x.w (some l0)), (1, .int l1), (2, .int l2_7), (3, .int l3_8)] [] h
    have hw : wpO (sX1_fingersOf_L4 F l0 l1 l2_7 l3_8 h) _ := hw
    unfold sX1_fingersOf_L4 at hw
    refine R_iload_n (q := 3) (i := 3) (v := l3_8) hc dX1_fingersOf_4 rfl rfl ?_
    refine R_aload_n (q := 0) (i := 0) (v := (some l0)) hc dX1_fingersOf_5 rfl rfl ?_
    refine R_getI hc fl_1_43 dX1_fingersOf_6 hw (fun t1 hw => ?_)
    refine R_icmp_ge (tgt := 34) hc dX1_fingersOf_9 (by decide) hw (fun hw => ?_) (fun hw => ?_)
    · refine R_sub hc [2] rfl ?_
      exact (wpO_some hw :)
    · refine R_aload_n (q := 0) (i := 0) (v := (some l0)) hc dX1_fingersOf_12 rfl rfl ?_
      refine R_getR hc fl_1_15 dX1_fingersOf_13 hw (fun t2 hw => ?_)
      refine R_iload_n (q := 3) (i := 3) (v := l3_8) hc dX1_fingersOf_16 rfl rfl ?_
      refine R_iaload hc dX1_fingersOf_17 hw (fun t3 hw => ?_)
      refine R_iload_n (q := 1) (i := 1) (v := l1) hc dX1_fingersOf_18 rfl rfl ?_
      refine R_icmp_ne (tgt := 28) hc dX1_fingersOf_19 (by decide) hw (fun hw => ?_) (fun hw => ?_)
      · refine R_iinc (q := 3) (i := 3) (v := l3_8) hc [(3, .int (l3_8 + (1 : Int32))), (0, rf x.w (some l0)), (1, .int l1), (2, .int l2_7)] dX1_fingersOf_28 rfl (kC_1 _) (hnl 3 (le_b rfl)) rfl ?_
        refine R_goto (tgt := 4) hc dX1_fingersOf_31 (by decide) ?_
        refine R_sub hc [1, 2, 3, 0] rfl ?_
        exact hX (l2_7, l3_8 + (1 : Int32)) (wpO_some hw :)
      · refine R_iload_n (q := 2) (i := 2) (v := l2_7) hc dX1_fingersOf_22 rfl rfl ?_
        refine R_iconst (v := (1 : Int32)) hc dX1_fingersOf_23 kI_1 ?_
        refine R_iload_n (q := 3) (i := 3) (v := l3_8) hc dX1_fingersOf_24 rfl rfl ?_
        refine R_ishl hc dX1_fingersOf_25 ?_
        refine R_ior hc dX1_fingersOf_26 ?_
        refine R_nmI hw (fun l2_4 hw => ?_)
        refine R_istore_n (i := 2) (v := l2_4) hc [(2, .int l2_4), (0, rf x.w (some l0)), (1, .int l1), (3, .int l3_8)] dX1_fingersOf_27 rfl (hnl 2 (le_b rfl)) rfl ?_
        refine R_iinc (q := 3) (i := 3) (v := l3_8) hc [(3, .int (l3_8 + (1 : Int32))), (2, .int l2_4), (0, rf x.w (some l0)), (1, .int l1)] dX1_fingersOf_28 rfl (kC_1 _) (hnl 3 (le_b rfl)) rfl ?_
        refine R_goto (tgt := 4) hc dX1_fingersOf_31 (by decide) ?_
        refine R_sub hc [2, 3, 1, 0] rfl ?_
        exact hX (l2_4, l3_8 + (1 : Int32)) (wpO_some hw :)
theorem dX10_isPlace_0 : decode cX10_isPlace 0 = .ok (.iload_n 1, 1) := by decide +kernel
theorem dX10_isPlace_1 : decode cX10_isPlace 1 = .ok (.ifCond .lt 18, 3) := by decide +kernel
theorem dX10_isPlace_4 : decode cX10_isPlace 4 = .ok (.iload_n 1, 1) := by decide +kernel
theorem dX10_isPlace_5 : decode cX10_isPlace 5 = .ok (.aload_n 0, 1) := by decide +kernel
theorem dX10_isPlace_6 : decode cX10_isPlace 6 = .ok (.getfield 31, 3) := by decide +kernel
theorem dX10_isPlace_9 : decode cX10_isPlace 9 = .ok (.getfield 387, 3) := by decide +kernel
theorem dX10_isPlace_12 : decode cX10_isPlace 12 = .ok (.if_icmp .ge 7, 3) := by decide +kernel
theorem dX10_isPlace_15 : decode cX10_isPlace 15 = .ok (.iconst 1, 1) := by decide +kernel
theorem dX10_isPlace_16 : decode cX10_isPlace 16 = .ok (.goto 4, 3) := by decide +kernel
theorem dX10_isPlace_19 : decode cX10_isPlace 19 = .ok (.iconst 0, 1) := by decide +kernel
theorem dX10_isPlace_20 : decode cX10_isPlace 20 = .ok (.ireturn, 1) := by decide +kernel
def sX10_isPlace (F : Nat) (l0 : Nat) (l1 : Int32) (h : HP) : Option Int32 :=
  if l1 < 0 then
    some (0 : Int32)
  else
    (gR h 10 (some l0) 3).bind fun t1 =>
    (gI h 7 t1 0).bind fun t2 =>
    if t2 ≤ l1 then
      some (0 : Int32)
    else
      some (1 : Int32)
abbrev rm_X10_isPlace : Room := { frames := 0, cells := 0, slots := 0, locals := 0 }
set_option maxRecDepth 100000 in
set_option maxHeartbeats 4000000 in
theorem mt_X10_isPlace {w : WD} {l : Launch} {F : Nat} {l0 : Nat} {l1 : Int32} {h : HP} {v : Int32} (hs : sX10_isPlace F l0 l1 h = some v) : MI w l yX10_isPlace cX10_isPlace 2 .boolean rm_X10_isPlace 0 0 [rf w (some l0), .int l1] h v h := by
  refine of_body [(0, rf w (some l0)), (1, .int l1)] (by decide) (by simp [lg_sl, rf_cat, cat_i, cat_l, cat_a]) (by simp [lv_args, rf_cat, cat_i, cat_l, cat_a]) ?_
  intro x hw_ hnL_ hl_ hc hret hnm hQ
  subst hw_; subst hl_
  have hnl : ∀ i, i < 2 → i < x.nL := fun i h => by rw [hnL_]; exact h
  have hw : wpO (sX10_isPlace F l0 l1 h) (fun r => r = v) := ⟨_, hs, rfl⟩
  unfold sX10_isPlace at hw
  refine R_iload_n (q := 1) (i := 1) (v := l1) hc dX10_isPlace_0 rfl rfl ?_
  refine R_if_lt (tgt := 19) hc dX10_isPlace_1 (by decide) hw (fun hw => ?_) (fun hw => ?_)
  · refine R_iconst (v := (0 : Int32)) hc dX10_isPlace_19 kI_0 ?_
    exact R_ireturnP hc hret rfl hQ hw dX10_isPlace_20
  · refine R_iload_n (q := 1) (i := 1) (v := l1) hc dX10_isPlace_4 rfl rfl ?_
    refine R_aload_n (q := 0) (i := 0) (v := (some l0)) hc dX10_isPlace_5 rfl rfl ?_
    refine R_getR hc fl_10_31 dX10_isPlace_6 hw (fun t1 hw => ?_)
    refine R_getI hc fl_10_387 dX10_isPlace_9 hw (fun t2 hw => ?_)
    refine R_icmp_ge (tgt := 19) hc dX10_isPlace_12 (by decide) hw (fun hw => ?_) (fun hw => ?_)
    · refine R_iconst (v := (0 : Int32)) hc dX10_isPlace_19 kI_0 ?_
      exact R_ireturnP hc hret rfl hQ hw dX10_isPlace_20
    · refine R_iconst (v := (1 : Int32)) hc dX10_isPlace_15 kI_1 ?_
      refine R_goto (tgt := 20) hc dX10_isPlace_16 (by decide) ?_
      exact R_ireturnP hc hret rfl hQ hw dX10_isPlace_20
theorem dX7_turnAt_0 : decode cX7_turnAt 0 = .ok (.aload_n 0, 1) := by decide +kernel
theorem dX7_turnAt_1 : decode cX7_turnAt 1 = .ok (.getfield 15, 3) := by decide +kernel
theorem dX7_turnAt_4 : decode cX7_turnAt 4 = .ok (.iload_n 1, 1) := by decide +kernel
theorem dX7_turnAt_5 : decode cX7_turnAt 5 = .ok (.iaload, 1) := by decide +kernel
theorem dX7_turnAt_6 : decode cX7_turnAt 6 = .ok (.iconst 4, 1) := by decide +kernel
theorem dX7_turnAt_7 : decode cX7_turnAt 7 = .ok (.irem, 1) := by decide +kernel
theorem dX7_turnAt_8 : decode cX7_turnAt 8 = .ok (.ireturn, 1) := by decide +kernel
def sX7_turnAt (F : Nat) (l0 : Nat) (l1 : Int32) (h : HP) : Option Int32 :=
  (gR h 7 (some l0) 1).bind fun t1 =>
  (aI h 13 t1 l1).bind fun t2 =>
  some (jrem t2 (4 : Int32))
abbrev rm_X7_turnAt : Room := { frames := 0, cells := 0, slots := 0, locals := 0 }
set_option maxRecDepth 100000 in
set_option maxHeartbeats 4000000 in
theorem mt_X7_turnAt {w : WD} {l : Launch} {F : Nat} {l0 : Nat} {l1 : Int32} {h : HP} {v : Int32} (hs : sX7_turnAt F l0 l1 h = some v) : MI w l yX7_turnAt cX7_turnAt 2 .int rm_X7_turnAt 0 0 [rf w (some l0), .int l1] h v h := by
  refine of_body [(0, rf w (some l0)), (1, .int l1)] (by decide) (by simp [lg_sl, rf_cat, cat_i, cat_l, cat_a]) (by simp [lv_args, rf_cat, cat_i, cat_l, cat_a]) ?_
  intro x hw_ hnL_ hl_ hc hret hnm hQ
  subst hw_; subst hl_
  have hnl : ∀ i, i < 2 → i < x.nL := fun i h => by rw [hnL_]; exact h
  have hw : wpO (sX7_turnAt F l0 l1 h) (fun r => r = v) := ⟨_, hs, rfl⟩
  unfold sX7_turnAt at hw
  refine R_aload_n (q := 0) (i := 0) (v := (some l0)) hc dX7_turnAt_0 rfl rfl ?_
  refine R_getR hc fl_7_15 dX7_turnAt_1 hw (fun t1 hw => ?_)
  refine R_iload_n (q := 1) (i := 1) (v := l1) hc dX7_turnAt_4 rfl rfl ?_
  refine R_iaload hc dX7_turnAt_5 hw (fun t2 hw => ?_)
  refine R_iconst (v := (4 : Int32)) hc dX7_turnAt_6 kI_4 ?_
  refine R_iremL hc dX7_turnAt_7 (by decide) ?_
  exact R_ireturnP hc hret rfl hQ hw dX7_turnAt_8
theorem dX2_areThese_0 : decode cX2_areThese 0 = .ok (.aload_n 2, 1) := by decide +kernel
theorem dX2_areThese_1 : decode cX2_areThese 1 = .ok (.iload_n 3, 1) := by decide +kernel
theorem dX2_areThese_2 : decode cX2_areThese 2 = .ok (.iload 4, 2) := by decide +kernel
theorem dX2_areThese_4 : decode cX2_areThese 4 = .ok (.invokevirtual 67, 3) := by decide +kernel
theorem dX2_areThese_7 : decode cX2_areThese 7 = .ok (.istore 5, 2) := by decide +kernel
theorem dX2_areThese_9 : decode cX2_areThese 9 = .ok (.aload_n 2, 1) := by decide +kernel
theorem dX2_areThese_10 : decode cX2_areThese 10 = .ok (.iload_n 3, 1) := by decide +kernel
theorem dX2_areThese_11 : decode cX2_areThese 11 = .ok (.iload 4, 2) := by decide +kernel
theorem dX2_areThese_13 : decode cX2_areThese 13 = .ok (.iconst 1, 1) := by decide +kernel
theorem dX2_areThese_14 : decode cX2_areThese 14 = .ok (.iadd, 1) := by decide +kernel
theorem dX2_areThese_15 : decode cX2_areThese 15 = .ok (.invokevirtual 67, 3) := by decide +kernel
theorem dX2_areThese_18 : decode cX2_areThese 18 = .ok (.istore 6, 2) := by decide +kernel
theorem dX2_areThese_20 : decode cX2_areThese 20 = .ok (.iload_n 0, 1) := by decide +kernel
theorem dX2_areThese_21 : decode cX2_areThese 21 = .ok (.iload 5, 2) := by decide +kernel
theorem dX2_areThese_23 : decode cX2_areThese 23 = .ok (.if_icmp .ne 9, 3) := by decide +kernel
theorem dX2_areThese_26 : decode cX2_areThese 26 = .ok (.iload_n 1, 1) := by decide +kernel
theorem dX2_areThese_27 : decode cX2_areThese 27 = .ok (.iload 6, 2) := by decide +kernel
theorem dX2_areThese_29 : decode cX2_areThese 29 = .ok (.if_icmp .eq 15, 3) := by decide +kernel
theorem dX2_areThese_32 : decode cX2_areThese 32 = .ok (.iload_n 0, 1) := by decide +kernel
theorem dX2_areThese_33 : decode cX2_areThese 33 = .ok (.iload 6, 2) := by decide +kernel
theorem dX2_areThese_35 : decode cX2_areThese 35 = .ok (.if_icmp .ne 13, 3) := by decide +kernel
theorem dX2_areThese_38 : decode cX2_areThese 38 = .ok (.iload_n 1, 1) := by decide +kernel
theorem dX2_areThese_39 : decode cX2_areThese 39 = .ok (.iload 5, 2) := by decide +kernel
theorem dX2_areThese_41 : decode cX2_areThese 41 = .ok (.if_icmp .ne 7, 3) := by decide +kernel
theorem dX2_areThese_44 : decode cX2_areThese 44 = .ok (.iconst 1, 1) := by decide +kernel
theorem dX2_areThese_45 : decode cX2_areThese 45 = .ok (.goto 4, 3) := by decide +kernel
theorem dX2_areThese_48 : decode cX2_areThese 48 = .ok (.iconst 0, 1) := by decide +kernel
theorem dX2_areThese_49 : decode cX2_areThese 49 = .ok (.ireturn, 1) := by decide +kernel
def sX2_areThese (F : Nat) (l0 : Int32) (l1 : Int32) (l2 : Option Nat) (l3 : Int32) (l4 : Int32) (h : HP) : Option Int32 :=
  (dO h 1 l2).bind fun a1 =>
  (sX1_partOf F a1 l3 l4 h).bind fun t2 =>
  (dO h 1 l2).bind fun a3 =>
  (sX1_partOf F a3 l3 (l4 + (1 : Int32)) h).bind fun t4 =>
  if ¬ l0 = t2 then
    if ¬ l0 = t4 then
      some (0 : Int32)
    else
      if ¬ l1 = t2 then
        some (0 : Int32)
      else
        some (1 : Int32)
  else
    if l1 = t4 then
      some (1 : Int32)
    else
      if ¬ l0 = t4 then
        some (0 : Int32)
      else
        if ¬ l1 = t2 then
          some (0 : Int32)
        else
          some (1 : Int32)
abbrev rm_X2_areThese : Room := { frames := 1, cells := 0, slots := 0, locals := 22 }
set_option maxRecDepth 100000 in
set_option maxHeartbeats 4000000 in
theorem mt_X2_areThese {w : WD} {l : Launch} {F : Nat} {l0 : Int32} {l1 : Int32} {l2 : Option Nat} {l3 : Int32} {l4 : Int32} {h : HP} {v : Int32} (hs : sX2_areThese F l0 l1 l2 l3 l4 h = some v) : MI w l yX2_areThese cX2_areThese 7 .boolean rm_X2_areThese 0 0 [.int l0, .int l1, rf w l2, .int l3, .int l4] h v h := by
  refine of_body [(0, .int l0), (1, .int l1), (2, rf w l2), (3, .int l3), (4, .int l4)] (by decide) (by simp [lg_sl, rf_cat, cat_i, cat_l, cat_a]) (by simp [lv_args, rf_cat, cat_i, cat_l, cat_a]) ?_
  intro x hw_ hnL_ hl_ hc hret hnm hQ
  subst hw_; subst hl_
  have hnl : ∀ i, i < 7 → i < x.nL := fun i h => by rw [hnL_]; exact h
  have hw : wpO (sX2_areThese F l0 l1 l2 l3 l4 h) (fun r => r = v) := ⟨_, hs, rfl⟩
  unfold sX2_areThese at hw
  refine R_aload_n (q := 2) (i := 2) (v := l2) hc dX2_areThese_0 rfl rfl ?_
  refine R_iload_n (q := 3) (i := 3) (v := l3) hc dX2_areThese_1 rfl rfl ?_
  refine R_iload (q := 4) (i := 4) (v := l4) hc dX2_areThese_2 rfl ?_
  refine R_cVI (As := [.int l3, .int l4]) (rest := []) (r := l2) (ci := 1) hc ml_2_67 mf_X1_partOf rfl (by decide) ⟨rfl, rfl⟩ ⟨le_b rfl, le_b rfl⟩ ⟨Nat.zero_le _, Nat.zero_le _⟩ (fun a v e => mt_X1_partOf e) rfl rfl (Nat.zero_le _) dX2_areThese_4 hw (fun t2 hw => ?_)
  refine R_istore (i := 5) (v := t2) hc [(5, .int t2), (0, .int l0), (1, .int l1), (2, rf x.w l2), (3, .int l3), (4, .int l4)] dX2_areThese_7 (hnl 5 (le_b rfl)) rfl ?_
  refine R_aload_n (q := 3) (i := 2) (v := l2) hc dX2_areThese_9 rfl rfl ?_
  refine R_iload_n (q := 4) (i := 3) (v := l3) hc dX2_areThese_10 rfl rfl ?_
  refine R_iload (q := 5) (i := 4) (v := l4) hc dX2_areThese_11 rfl ?_
  refine R_iconst (v := (1 : Int32)) hc dX2_areThese_13 kI_1 ?_
  refine R_iadd hc dX2_areThese_14 ?_
  refine R_cVI (As := [.int l3, .int (l4 + (1 : Int32))]) (rest := []) (r := l2) (ci := 1) hc ml_2_67 mf_X1_partOf rfl (by decide) ⟨rfl, rfl⟩ ⟨le_b rfl, le_b rfl⟩ ⟨Nat.zero_le _, Nat.zero_le _⟩ (fun a v e => mt_X1_partOf e) rfl rfl (Nat.zero_le _) dX2_areThese_15 hw (fun t4 hw => ?_)
  refine R_istore (i := 6) (v := t4) hc [(6, .int t4), (5, .int t2), (0, .int l0), (1, .int l1), (2, rf x.w l2), (3, .int l3), (4, .int l4)] dX2_areThese_18 (hnl 6 (le_b rfl)) rfl ?_
  refine R_iload_n (q := 2) (i := 0) (v := l0) hc dX2_areThese_20 rfl rfl ?_
  refine R_iload (q := 1) (i := 5) (v := t2) hc dX2_areThese_21 rfl ?_
  refine R_icmp_ne (tgt := 32) hc dX2_areThese_23 (by decide) hw (fun hw => ?_) (fun hw => ?_)
  · refine R_iload_n (q := 2) (i := 0) (v := l0) hc dX2_areThese_32 rfl rfl ?_
    refine R_iload (q := 0) (i := 6) (v := t4) hc dX2_areThese_33 rfl ?_
    refine R_icmp_ne (tgt := 48) hc dX2_areThese_35 (by decide) hw (fun hw => ?_) (fun hw => ?_)
    · refine R_iconst (v := (0 : Int32)) hc dX2_areThese_48 kI_0 ?_
      exact R_ireturnP hc hret rfl hQ hw dX2_areThese_49
    · refine R_iload_n (q := 3) (i := 1) (v := l1) hc dX2_areThese_38 rfl rfl ?_
      refine R_iload (q := 1) (i := 5) (v := t2) hc dX2_areThese_39 rfl ?_
      refine R_icmp_ne (tgt := 48) hc dX2_areThese_41 (by decide) hw (fun hw => ?_) (fun hw => ?_)
      · refine R_iconst (v := (0 : Int32)) hc dX2_areThese_48 kI_0 ?_
        exact R_ireturnP hc hret rfl hQ hw dX2_areThese_49
      · refine R_iconst (v := (1 : Int32)) hc dX2_areThese_44 kI_1 ?_
        refine R_goto (tgt := 49) hc dX2_areThese_45 (by decide) ?_
        exact R_ireturnP hc hret rfl hQ hw dX2_areThese_49
  · refine R_iload_n (q := 3) (i := 1) (v := l1) hc dX2_areThese_26 rfl rfl ?_
    refine R_iload (q := 0) (i := 6) (v := t4) hc dX2_areThese_27 rfl ?_
    refine R_icmp_eq (tgt := 44) hc dX2_areThese_29 (by decide) hw (fun hw => ?_) (fun hw => ?_)
    · refine R_iconst (v := (1 : Int32)) hc dX2_areThese_44 kI_1 ?_
      refine R_goto (tgt := 49) hc dX2_areThese_45 (by decide) ?_
      exact R_ireturnP hc hret rfl hQ hw dX2_areThese_49
    · refine R_iload_n (q := 2) (i := 0) (v := l0) hc dX2_areThese_32 rfl rfl ?_
      refine R_iload (q := 0) (i := 6) (v := t4) hc dX2_areThese_33 rfl ?_
      refine R_icmp_ne (tgt := 48) hc dX2_areThese_35 (by decide) hw (fun hw => ?_) (fun hw => ?_)
      · refine R_iconst (v := (0 : Int32)) hc dX2_areThese_48 kI_0 ?_
        exact R_ireturnP hc hret rfl hQ hw dX2_areThese_49
      · refine R_iload_n (q := 3) (i := 1) (v := l1) hc dX2_areThese_38 rfl rfl ?_
        refine R_iload (q := 1) (i := 5) (v := t2) hc dX2_areThese_39 rfl ?_
        refine R_icmp_ne (tgt := 48) hc dX2_areThese_41 (by decide) hw (fun hw => ?_) (fun hw => ?_)
        · refine R_iconst (v := (0 : Int32)) hc dX2_areThese_48 kI_0 ?_
          exact R_ireturnP hc hret rfl hQ hw dX2_areThese_49
        · refine R_iconst (v := (1 : Int32)) hc dX2_areThese_44 kI_1 ?_
          refine R_goto (tgt := 49) hc dX2_areThese_45 (by decide) ?_
          exact R_ireturnP hc hret rfl hQ hw dX2_areThese_49
theorem dX2_readBack_0 : decode cX2_readBack 0 = .ok (.aload_n 0, 1) := by decide +kernel
theorem dX2_readBack_1 : decode cX2_readBack 1 = .ok (.getfield 21, 3) := by decide +kernel
theorem dX2_readBack_4 : decode cX2_readBack 4 = .ok (.iload_n 3, 1) := by decide +kernel
theorem dX2_readBack_5 : decode cX2_readBack 5 = .ok (.iaload, 1) := by decide +kernel
theorem dX2_readBack_6 : decode cX2_readBack 6 = .ok (.istore 4, 2) := by decide +kernel
theorem dX2_readBack_8 : decode cX2_readBack 8 = .ok (.iload 4, 2) := by decide +kernel
theorem dX2_readBack_10 : decode cX2_readBack 10 = .ok (.iconst 1, 1) := by decide +kernel
theorem dX2_readBack_11 : decode cX2_readBack 11 = .ok (.if_icmp .lt 30, 3) := by decide +kernel
theorem dX2_readBack_14 : decode cX2_readBack 14 = .ok (.iload 4, 2) := by decide +kernel
theorem dX2_readBack_16 : decode cX2_readBack 16 = .ok (.iconst 1, 1) := by decide +kernel
theorem dX2_readBack_17 : decode cX2_readBack 17 = .ok (.iadd, 1) := by decide +kernel
theorem dX2_readBack_18 : decode cX2_readBack 18 = .ok (.aload_n 0, 1) := by decide +kernel
theorem dX2_readBack_19 : decode cX2_readBack 19 = .ok (.getfield 31, 3) := by decide +kernel
theorem dX2_readBack_22 : decode cX2_readBack 22 = .ok (.if_icmp .ge 19, 3) := by decide +kernel
theorem dX2_readBack_25 : decode cX2_readBack 25 = .ok (.aload_n 0, 1) := by decide +kernel
theorem dX2_readBack_26 : decode cX2_readBack 26 = .ok (.getfield 18, 3) := by decide +kernel
theorem dX2_readBack_29 : decode cX2_readBack 29 = .ok (.iload 4, 2) := by decide +kernel
theorem dX2_readBack_31 : decode cX2_readBack 31 = .ok (.iaload, 1) := by decide +kernel
theorem dX2_readBack_32 : decode cX2_readBack 32 = .ok (.aload_n 1, 1) := by decide +kernel
theorem dX2_readBack_33 : decode cX2_readBack 33 = .ok (.iload_n 2, 1) := by decide +kernel
theorem dX2_readBack_34 : decode cX2_readBack 34 = .ok (.iconst 0, 1) := by decide +kernel
theorem dX2_readBack_35 : decode cX2_readBack 35 = .ok (.invokevirtual 67, 3) := by decide +kernel
theorem dX2_readBack_38 : decode cX2_readBack 38 = .ok (.if_icmp .eq 5, 3) := by decide +kernel
theorem dX2_readBack_41 : decode cX2_readBack 41 = .ok (.iconst 0, 1) := by decide +kernel
theorem dX2_readBack_42 : decode cX2_readBack 42 = .ok (.ireturn, 1) := by decide +kernel
theorem dX2_readBack_43 : decode cX2_readBack 43 = .ok (.aload_n 0, 1) := by decide +kernel
theorem dX2_readBack_44 : decode cX2_readBack 44 = .ok (.getfield 9, 3) := by decide +kernel
theorem dX2_readBack_47 : decode cX2_readBack 47 = .ok (.iload 4, 2) := by decide +kernel
theorem dX2_readBack_49 : decode cX2_readBack 49 = .ok (.iconst 1, 1) := by decide +kernel
theorem dX2_readBack_50 : decode cX2_readBack 50 = .ok (.isub, 1) := by decide +kernel
theorem dX2_readBack_51 : decode cX2_readBack 51 = .ok (.iaload, 1) := by decide +kernel
theorem dX2_readBack_52 : decode cX2_readBack 52 = .ok (.aload_n 0, 1) := by decide +kernel
theorem dX2_readBack_53 : decode cX2_readBack 53 = .ok (.getfield 9, 3) := by decide +kernel
theorem dX2_readBack_56 : decode cX2_readBack 56 = .ok (.iload 4, 2) := by decide +kernel
theorem dX2_readBack_58 : decode cX2_readBack 58 = .ok (.iconst 1, 1) := by decide +kernel
theorem dX2_readBack_59 : decode cX2_readBack 59 = .ok (.iadd, 1) := by decide +kernel
theorem dX2_readBack_60 : decode cX2_readBack 60 = .ok (.iaload, 1) := by decide +kernel
theorem dX2_readBack_61 : decode cX2_readBack 61 = .ok (.aload_n 1, 1) := by decide +kernel
theorem dX2_readBack_62 : decode cX2_readBack 62 = .ok (.iload_n 2, 1) := by decide +kernel
theorem dX2_readBack_63 : decode cX2_readBack 63 = .ok (.iconst 1, 1) := by decide +kernel
theorem dX2_readBack_64 : decode cX2_readBack 64 = .ok (.invokestatic 70, 3) := by decide +kernel
theorem dX2_readBack_67 : decode cX2_readBack 67 = .ok (.ifCond .eq 34, 3) := by decide +kernel
theorem dX2_readBack_70 : decode cX2_readBack 70 = .ok (.aload_n 0, 1) := by decide +kernel
theorem dX2_readBack_71 : decode cX2_readBack 71 = .ok (.getfield 15, 3) := by decide +kernel
theorem dX2_readBack_74 : decode cX2_readBack 74 = .ok (.iload 4, 2) := by decide +kernel
theorem dX2_readBack_76 : decode cX2_readBack 76 = .ok (.iconst 1, 1) := by decide +kernel
theorem dX2_readBack_77 : decode cX2_readBack 77 = .ok (.isub, 1) := by decide +kernel
theorem dX2_readBack_78 : decode cX2_readBack 78 = .ok (.iaload, 1) := by decide +kernel
theorem dX2_readBack_79 : decode cX2_readBack 79 = .ok (.aload_n 0, 1) := by decide +kernel
theorem dX2_readBack_80 : decode cX2_readBack 80 = .ok (.getfield 15, 3) := by decide +kernel
theorem dX2_readBack_83 : decode cX2_readBack 83 = .ok (.iload 4, 2) := by decide +kernel
theorem dX2_readBack_85 : decode cX2_readBack 85 = .ok (.iconst 1, 1) := by decide +kernel
theorem dX2_readBack_86 : decode cX2_readBack 86 = .ok (.iadd, 1) := by decide +kernel
theorem dX2_readBack_87 : decode cX2_readBack 87 = .ok (.iaload, 1) := by decide +kernel
theorem dX2_readBack_88 : decode cX2_readBack 88 = .ok (.aload_n 1, 1) := by decide +kernel
theorem dX2_readBack_89 : decode cX2_readBack 89 = .ok (.iload_n 2, 1) := by decide +kernel
theorem dX2_readBack_90 : decode cX2_readBack 90 = .ok (.iconst 3, 1) := by decide +kernel
theorem dX2_readBack_91 : decode cX2_readBack 91 = .ok (.invokestatic 70, 3) := by decide +kernel
theorem dX2_readBack_94 : decode cX2_readBack 94 = .ok (.ifCond .eq 7, 3) := by decide +kernel
theorem dX2_readBack_97 : decode cX2_readBack 97 = .ok (.iconst 1, 1) := by decide +kernel
theorem dX2_readBack_98 : decode cX2_readBack 98 = .ok (.goto 4, 3) := by decide +kernel
theorem dX2_readBack_101 : decode cX2_readBack 101 = .ok (.iconst 0, 1) := by decide +kernel
theorem dX2_readBack_102 : decode cX2_readBack 102 = .ok (.ireturn, 1) := by decide +kernel
def sX2_readBack (F : Nat) (l0 : Nat) (l1 : Option Nat) (l2 : Int32) (l3 : Int32) (h : HP) : Option Int32 :=
  (gR h 2 (some l0) 6).bind fun t1 =>
  (aI h 13 t1 l3).bind fun t2 =>
  if t2 < (1 : Int32) then
    some (0 : Int32)
  else
    (gI h 2 (some l0) 2).bind fun t3 =>
    if t3 ≤ (t2 + (1 : Int32)) then
      some (0 : Int32)
    else
      (gR h 2 (some l0) 5).bind fun t4 =>
      (aI h 13 t4 t2).bind fun t5 =>
      (dO h 1 l1).bind fun a6 =>
      (sX1_partOf F a6 l2 (0 : Int32) h).bind fun t7 =>
      if t5 = t7 then
        (gR h 2 (some l0) 3).bind fun t8 =>
        (aI h 13 t8 (t2 - (1 : Int32))).bind fun t9 =>
        (gR h 2 (some l0) 3).bind fun t10 =>
        (aI h 13 t10 (t2 + (1 : Int32))).bind fun t11 =>
        (sX2_areThese F t9 t11 l1 l2 (1 : Int32) h).bind fun t12 =>
        if t12 = 0 then
          some (0 : Int32)
        else
          (gR h 2 (some l0) 4).bind fun t13 =>
          (aI h 13 t13 (t2 - (1 : Int32))).bind fun t14 =>
          (gR h 2 (some l0) 4).bind fun t15 =>
          (aI h 13 t15 (t2 + (1 : Int32))).bind fun t16 =>
          (sX2_areThese F t14 t16 l1 l2 (3 : Int32) h).bind fun t17 =>
          if t17 = 0 then
            some (0 : Int32)
          else
            some (1 : Int32)
      else
        some (0 : Int32)
abbrev rm_X2_readBack : Room := { frames := 2, cells := 0, slots := 0, locals := 48 }
set_option maxRecDepth 100000 in
set_option maxHeartbeats 4000000 in
theorem mt_X2_readBack {w : WD} {l : Launch} {F : Nat} {l0 : Nat} {l1 : Option Nat} {l2 : Int32} {l3 : Int32} {h : HP} {v : Int32} (hs : sX2_readBack F l0 l1 l2 l3 h = some v) : MI w l yX2_readBack cX2_readBack 5 .boolean rm_X2_readBack 0 0 [rf w (some l0), rf w l1, .int l2, .int l3] h v h := by
  refine of_body [(0, rf w (some l0)), (1, rf w l1), (2, .int l2), (3, .int l3)] (by decide) (by simp [lg_sl, rf_cat, cat_i, cat_l, cat_a]) (by simp [lv_args, rf_cat, cat_i, cat_l, cat_a]) ?_
  intro x hw_ hnL_ hl_ hc hret hnm hQ
  subst hw_; subst hl_
  have hnl : ∀ i, i < 5 → i < x.nL := fun i h => by rw [hnL_]; exact h
  have hw : wpO (sX2_readBack F l0 l1 l2 l3 h) (fun r => r = v) := ⟨_, hs, rfl⟩
  unfold sX2_readBack at hw
  refine R_aload_n (q := 0) (i := 0) (v := (some l0)) hc dX2_readBack_0 rfl rfl ?_
  refine R_getR hc fl_2_21 dX2_readBack_1 hw (fun t1 hw => ?_)
  refine R_iload_n (q := 3) (i := 3) (v := l3) hc dX2_readBack_4 rfl rfl ?_
  refine R_iaload hc dX2_readBack_5 hw (fun t2 hw => ?_)
  refine R_istore (i := 4) (v := t2) hc [(4, .int t2), (0, rf x.w (some l0)), (1, rf x.w l1), (2, .int l2), (3, .int l3)] dX2_readBack_6 (hnl 4 (le_b rfl)) rfl ?_
  refine R_iload (q := 0) (i := 4) (v := t2) hc dX2_readBack_8 rfl ?_
  refine R_iconst (v := (1 : Int32)) hc dX2_readBack_10 kI_1 ?_
  refine R_icmp_lt (tgt := 41) hc dX2_readBack_11 (by decide) hw (fun hw => ?_) (fun hw => ?_)
  · refine R_iconst (v := (0 : Int32)) hc dX2_readBack_41 kI_0 ?_
    exact R_ireturnP hc hret rfl hQ hw dX2_readBack_42
  · refine R_iload (q := 0) (i := 4) (v := t2) hc dX2_readBack_14 rfl ?_
    refine R_iconst (v := (1 : Int32)) hc dX2_readBack_16 kI_1 ?_
    refine R_iadd hc dX2_readBack_17 ?_
    refine R_aload_n (q := 1) (i := 0) (v := (some l0)) hc dX2_readBack_18 rfl rfl ?_
    refine R_getI hc fl_2_31 dX2_readBack_19 hw (fun t3 hw => ?_)
    refine R_icmp_ge (tgt := 41) hc dX2_readBack_22 (by decide) hw (fun hw => ?_) (fun hw => ?_)
    · refine R_iconst (v := (0 : Int32)) hc dX2_readBack_41 kI_0 ?_
      exact R_ireturnP hc hret rfl hQ hw dX2_readBack_42
    · refine R_aload_n (q := 1) (i := 0) (v := (some l0)) hc dX2_readBack_25 rfl rfl ?_
      refine R_getR hc fl_2_18 dX2_readBack_26 hw (fun t4 hw => ?_)
      refine R_iload (q := 0) (i := 4) (v := t2) hc dX2_readBack_29 rfl ?_
      refine R_iaload hc dX2_readBack_31 hw (fun t5 hw => ?_)
      refine R_aload_n (q := 2) (i := 1) (v := l1) hc dX2_readBack_32 rfl rfl ?_
      refine R_iload_n (q := 3) (i := 2) (v := l2) hc dX2_readBack_33 rfl rfl ?_
      refine R_iconst (v := (0 : Int32)) hc dX2_readBack_34 kI_0 ?_
      refine R_cVI (As := [.int l2, .int (0 : Int32)]) (rest := [.int t5]) (r := l1) (ci := 1) hc ml_2_67 mf_X1_partOf rfl (by decide) ⟨rfl, rfl⟩ ⟨le_b rfl, le_b rfl⟩ ⟨Nat.zero_le _, Nat.zero_le _⟩ (fun a v e => mt_X1_partOf e) rfl rfl (le_b rfl) dX2_readBack_35 hw (fun t7 hw => ?_)
      refine R_icmp_eq (tgt := 43) hc dX2_readBack_38 (by decide) hw (fun hw => ?_) (fun hw => ?_)
      · refine R_aload_n (q := 1) (i := 0) (v := (some l0)) hc dX2_readBack_43 rfl rfl ?_
        refine R_getR hc fl_2_9 dX2_readBack_44 hw (fun t8 hw => ?_)
        refine R_iload (q := 0) (i := 4) (v := t2) hc dX2_readBack_47 rfl ?_
        refine R_iconst (v := (1 : Int32)) hc dX2_readBack_49 kI_1 ?_
        refine R_isub hc dX2_readBack_50 ?_
        refine R_iaload hc dX2_readBack_51 hw (fun t9 hw => ?_)
        refine R_aload_n (q := 1) (i := 0) (v := (some l0)) hc dX2_readBack_52 rfl rfl ?_
        refine R_getR hc fl_2_9 dX2_readBack_53 hw (fun t10 hw => ?_)
        refine R_iload (q := 0) (i := 4) (v := t2) hc dX2_readBack_56 rfl ?_
        refine R_iconst (v := (1 : Int32)) hc dX2_readBack_58 kI_1 ?_
        refine R_iadd hc dX2_readBack_59 ?_
        refine R_iaload hc dX2_readBack_60 hw (fun t11 hw => ?_)
        refine R_aload_n (q := 2) (i := 1) (v := l1) hc dX2_readBack_61 rfl rfl ?_
        refine R_iload_n (q := 3) (i := 2) (v := l2) hc dX2_readBack_62 rfl rfl ?_
        refine R_iconst (v := (1 : Int32)) hc dX2_readBack_63 kI_1 ?_
        refine R_cSI (As := [.int t9, .int t11, rf x.w l1, .int l2, .int (1 : Int32)]) (rest := []) hc ml_2_70 mf_X2_areThese ⟨rfl, rfl⟩ ⟨le_b rfl, le_b rfl⟩ ⟨Nat.zero_le _, Nat.zero_le _⟩ (fun v e => mt_X2_areThese e) rfl rfl (Nat.zero_le _) dX2_readBack_64 hw (fun t12 hw => ?_)
        refine R_if_eq (tgt := 101) hc dX2_readBack_67 (by decide) hw (fun hw => ?_) (fun hw => ?_)
        · refine R_iconst (v := (0 : Int32)) hc dX2_readBack_101 kI_0 ?_
          exact R_ireturnP hc hret rfl hQ hw dX2_readBack_102
        · refine R_aload_n (q := 1) (i := 0) (v := (some l0)) hc dX2_readBack_70 rfl rfl ?_
          refine R_getR hc fl_2_15 dX2_readBack_71 hw (fun t13 hw => ?_)
          refine R_iload (q := 0) (i := 4) (v := t2) hc dX2_readBack_74 rfl ?_
          refine R_iconst (v := (1 : Int32)) hc dX2_readBack_76 kI_1 ?_
          refine R_isub hc dX2_readBack_77 ?_
          refine R_iaload hc dX2_readBack_78 hw (fun t14 hw => ?_)
          refine R_aload_n (q := 1) (i := 0) (v := (some l0)) hc dX2_readBack_79 rfl rfl ?_
          refine R_getR hc fl_2_15 dX2_readBack_80 hw (fun t15 hw => ?_)
          refine R_iload (q := 0) (i := 4) (v := t2) hc dX2_readBack_83 rfl ?_
          refine R_iconst (v := (1 : Int32)) hc dX2_readBack_85 kI_1 ?_
          refine R_iadd hc dX2_readBack_86 ?_
          refine R_iaload hc dX2_readBack_87 hw (fun t16 hw => ?_)
          refine R_aload_n (q := 2) (i := 1) (v := l1) hc dX2_readBack_88 rfl rfl ?_
          refine R_iload_n (q := 3) (i := 2) (v := l2) hc dX2_readBack_89 rfl rfl ?_
          refine R_iconst (v := (3 : Int32)) hc dX2_readBack_90 kI_3 ?_
          refine R_cSI (As := [.int t14, .int t16, rf x.w l1, .int l2, .int (3 : Int32)]) (rest := []) hc ml_2_70 mf_X2_areThese ⟨rfl, rfl⟩ ⟨le_b rfl, le_b rfl⟩ ⟨Nat.zero_le _, Nat.zero_le _⟩ (fun v e => mt_X2_areThese e) rfl rfl (Nat.zero_le _) dX2_readBack_91 hw (fun t17 hw => ?_)
          refine R_if_eq (tgt := 101) hc dX2_readBack_94 (by decide) hw (fun hw => ?_) (fun hw => ?_)
          · refine R_iconst (v := (0 : Int32)) hc dX2_readBack_101 kI_0 ?_
            exact R_ireturnP hc hret rfl hQ hw dX2_readBack_102
          · refine R_iconst (v := (1 : Int32)) hc dX2_readBack_97 kI_1 ?_
            refine R_goto (tgt := 102) hc dX2_readBack_98 (by decide) ?_
            exact R_ireturnP hc hret rfl hQ hw dX2_readBack_102
      · refine R_iconst (v := (0 : Int32)) hc dX2_readBack_41 kI_0 ?_
        exact R_ireturnP hc hret rfl hQ hw dX2_readBack_42
theorem dX10_isNet_0 : decode cX10_isNet 0 = .ok (.iload_n 0, 1) := by decide +kernel
theorem dX10_isNet_1 : decode cX10_isNet 1 = .ok (.ifCond .lt 13, 3) := by decide +kernel
theorem dX10_isNet_4 : decode cX10_isNet 4 = .ok (.iload_n 0, 1) := by decide +kernel
theorem dX10_isNet_5 : decode cX10_isNet 5 = .ok (.bipush 12, 2) := by decide +kernel
theorem dX10_isNet_7 : decode cX10_isNet 7 = .ok (.if_icmp .ge 7, 3) := by decide +kernel
theorem dX10_isNet_10 : decode cX10_isNet 10 = .ok (.iconst 1, 1) := by decide +kernel
theorem dX10_isNet_11 : decode cX10_isNet 11 = .ok (.goto 4, 3) := by decide +kernel
theorem dX10_isNet_14 : decode cX10_isNet 14 = .ok (.iconst 0, 1) := by decide +kernel
theorem dX10_isNet_15 : decode cX10_isNet 15 = .ok (.ireturn, 1) := by decide +kernel
def sX10_isNet (F : Nat) (l0 : Int32) (h : HP) : Option Int32 :=
  if l0 < 0 then
    some (0 : Int32)
  else
    if (12 : Int32) ≤ l0 then
      some (0 : Int32)
    else
      some (1 : Int32)
abbrev rm_X10_isNet : Room := { frames := 0, cells := 0, slots := 0, locals := 0 }
set_option maxRecDepth 100000 in
set_option maxHeartbeats 4000000 in
theorem mt_X10_isNet {w : WD} {l : Launch} {F : Nat} {l0 : Int32} {h : HP} {v : Int32} (hs : sX10_isNet F l0 h = some v) : MI w l yX10_isNet cX10_isNet 1 .boolean rm_X10_isNet 0 0 [.int l0] h v h := by
  refine of_body [(0, .int l0)] (by decide) (by simp [lg_sl, rf_cat, cat_i, cat_l, cat_a]) (by simp [lv_args, rf_cat, cat_i, cat_l, cat_a]) ?_
  intro x hw_ hnL_ hl_ hc hret hnm hQ
  subst hw_; subst hl_
  have hnl : ∀ i, i < 1 → i < x.nL := fun i h => by rw [hnL_]; exact h
  have hw : wpO (sX10_isNet F l0 h) (fun r => r = v) := ⟨_, hs, rfl⟩
  unfold sX10_isNet at hw
  refine R_iload_n (q := 0) (i := 0) (v := l0) hc dX10_isNet_0 rfl rfl ?_
  refine R_if_lt (tgt := 14) hc dX10_isNet_1 (by decide) hw (fun hw => ?_) (fun hw => ?_)
  · refine R_iconst (v := (0 : Int32)) hc dX10_isNet_14 kI_0 ?_
    exact R_ireturnP hc hret rfl hQ hw dX10_isNet_15
  · refine R_iload_n (q := 0) (i := 0) (v := l0) hc dX10_isNet_4 rfl rfl ?_
    refine R_bipush (v := (12 : Int32)) hc dX10_isNet_5 kB_12 ?_
    refine R_icmp_ge (tgt := 14) hc dX10_isNet_7 (by decide) hw (fun hw => ?_) (fun hw => ?_)
    · refine R_iconst (v := (0 : Int32)) hc dX10_isNet_14 kI_0 ?_
      exact R_ireturnP hc hret rfl hQ hw dX10_isNet_15
    · refine R_iconst (v := (1 : Int32)) hc dX10_isNet_10 kI_1 ?_
      refine R_goto (tgt := 15) hc dX10_isNet_11 (by decide) ?_
      exact R_ireturnP hc hret rfl hQ hw dX10_isNet_15
theorem dX9_hasWire_0 : decode cX9_hasWire 0 = .ok (.aload_n 0, 1) := by decide +kernel
theorem dX9_hasWire_1 : decode cX9_hasWire 1 = .ok (.getfield 24, 3) := by decide +kernel
theorem dX9_hasWire_4 : decode cX9_hasWire 4 = .ok (.iload_n 1, 1) := by decide +kernel
theorem dX9_hasWire_5 : decode cX9_hasWire 5 = .ok (.iaload, 1) := by decide +kernel
theorem dX9_hasWire_6 : decode cX9_hasWire 6 = .ok (.iconst (-1), 1) := by decide +kernel
theorem dX9_hasWire_7 : decode cX9_hasWire 7 = .ok (.if_icmp .eq 7, 3) := by decide +kernel
theorem dX9_hasWire_10 : decode cX9_hasWire 10 = .ok (.iconst 1, 1) := by decide +kernel
theorem dX9_hasWire_11 : decode cX9_hasWire 11 = .ok (.goto 4, 3) := by decide +kernel
theorem dX9_hasWire_14 : decode cX9_hasWire 14 = .ok (.iconst 0, 1) := by decide +kernel
theorem dX9_hasWire_15 : decode cX9_hasWire 15 = .ok (.ireturn, 1) := by decide +kernel
def sX9_hasWire (F : Nat) (l0 : Nat) (l1 : Int32) (h : HP) : Option Int32 :=
  (gR h 9 (some l0) 5).bind fun t1 =>
  (aI h 13 t1 l1).bind fun t2 =>
  if t2 = (-1 : Int32) then
    some (0 : Int32)
  else
    some (1 : Int32)
abbrev rm_X9_hasWire : Room := { frames := 0, cells := 0, slots := 0, locals := 0 }
set_option maxRecDepth 100000 in
set_option maxHeartbeats 4000000 in
theorem mt_X9_hasWire {w : WD} {l : Launch} {F : Nat} {l0 : Nat} {l1 : Int32} {h : HP} {v : Int32} (hs : sX9_hasWire F l0 l1 h = some v) : MI w l yX9_hasWire cX9_hasWire 2 .boolean rm_X9_hasWire 0 0 [rf w (some l0), .int l1] h v h := by
  refine of_body [(0, rf w (some l0)), (1, .int l1)] (by decide) (by simp [lg_sl, rf_cat, cat_i, cat_l, cat_a]) (by simp [lv_args, rf_cat, cat_i, cat_l, cat_a]) ?_
  intro x hw_ hnL_ hl_ hc hret hnm hQ
  subst hw_; subst hl_
  have hnl : ∀ i, i < 2 → i < x.nL := fun i h => by rw [hnL_]; exact h
  have hw : wpO (sX9_hasWire F l0 l1 h) (fun r => r = v) := ⟨_, hs, rfl⟩
  unfold sX9_hasWire at hw
  refine R_aload_n (q := 0) (i := 0) (v := (some l0)) hc dX9_hasWire_0 rfl rfl ?_
  refine R_getR hc fl_9_24 dX9_hasWire_1 hw (fun t1 hw => ?_)
  refine R_iload_n (q := 1) (i := 1) (v := l1) hc dX9_hasWire_4 rfl rfl ?_
  refine R_iaload hc dX9_hasWire_5 hw (fun t2 hw => ?_)
  refine R_iconst (v := (-1 : Int32)) hc dX9_hasWire_6 kI_m1 ?_
  refine R_icmp_eq (tgt := 14) hc dX9_hasWire_7 (by decide) hw (fun hw => ?_) (fun hw => ?_)
  · refine R_iconst (v := (0 : Int32)) hc dX9_hasWire_14 kI_0 ?_
    exact R_ireturnP hc hret rfl hQ hw dX9_hasWire_15
  · refine R_iconst (v := (1 : Int32)) hc dX9_hasWire_10 kI_1 ?_
    refine R_goto (tgt := 15) hc dX9_hasWire_11 (by decide) ?_
    exact R_ireturnP hc hret rfl hQ hw dX9_hasWire_15
theorem dX9_total_0 : decode cX9_total 0 = .ok (.iconst 0, 1) := by decide +kernel
theorem dX9_total_1 : decode cX9_total 1 = .ok (.istore_n 1, 1) := by decide +kernel
theorem dX9_total_2 : decode cX9_total 2 = .ok (.iconst 0, 1) := by decide +kernel
theorem dX9_total_3 : decode cX9_total 3 = .ok (.istore_n 2, 1) := by decide +kernel
theorem dX9_total_4 : decode cX9_total 4 = .ok (.iload_n 2, 1) := by decide +kernel
theorem dX9_total_5 : decode cX9_total 5 = .ok (.bipush 12, 2) := by decide +kernel
theorem dX9_total_7 : decode cX9_total 7 = .ok (.if_icmp .ge 25, 3) := by decide +kernel
theorem dX9_total_10 : decode cX9_total 10 = .ok (.iload_n 1, 1) := by decide +kernel
theorem dX9_total_11 : decode cX9_total 11 = .ok (.aload_n 0, 1) := by decide +kernel
theorem dX9_total_12 : decode cX9_total 12 = .ok (.iload_n 2, 1) := by decide +kernel
theorem dX9_total_13 : decode cX9_total 13 = .ok (.invokevirtual 116, 3) := by decide +kernel
theorem dX9_total_16 : decode cX9_total 16 = .ok (.ifCond .eq 7, 3) := by decide +kernel
theorem dX9_total_19 : decode cX9_total 19 = .ok (.iconst 1, 1) := by decide +kernel
theorem dX9_total_20 : decode cX9_total 20 = .ok (.goto 4, 3) := by decide +kernel
theorem dX9_total_23 : decode cX9_total 23 = .ok (.iconst 0, 1) := by decide +kernel
theorem dX9_total_24 : decode cX9_total 24 = .ok (.iadd, 1) := by decide +kernel
theorem dX9_total_25 : decode cX9_total 25 = .ok (.istore_n 1, 1) := by decide +kernel
theorem dX9_total_26 : decode cX9_total 26 = .ok (.iinc 2 1, 3) := by decide +kernel
theorem dX9_total_29 : decode cX9_total 29 = .ok (.goto (-25), 3) := by decide +kernel
theorem dX9_total_32 : decode cX9_total 32 = .ok (.iload_n 1, 1) := by decide +kernel
theorem dX9_total_33 : decode cX9_total 33 = .ok (.ireturn, 1) := by decide +kernel
def sX9_total_L4 (F : Nat) (l0 : Nat) (l1 : Int32) (l2 : Int32) (h : HP) : Option ((Int32 × Int32) ⊕ Int32) :=
  if (12 : Int32) ≤ l2 then
    some (.inr l1)
  else
    (dO h 9 (some l0)).bind fun a1 =>
    (sX9_hasWire F a1 l2 h).bind fun t2 =>
    if t2 = 0 then
      nmI (l1 + (0 : Int32)) fun l1_3 =>
      some (.inl (l1_3, l2 + (1 : Int32)))
    else
      nmI (l1 + (1 : Int32)) fun l1_4 =>
      some (.inl (l1_4, l2 + (1 : Int32)))
def sX9_total (F : Nat) (l0 : Nat) (h : HP) : Option Int32 :=
  (iter (fun s => sX9_total_L4 F l0 s.1 s.2 h) F ((0 : Int32), (0 : Int32))).bind fun l1_5 =>
    some l1_5
abbrev rm_X9_total : Room := { frames := 1, cells := 0, slots := 0, locals := 21 }
set_option maxRecDepth 100000 in
set_option maxHeartbeats 4000000 in
theorem mt_X9_total {w : WD} {l : Launch} {F : Nat} {l0 : Nat} {h : HP} {v : Int32} (hs : sX9_total F l0 h = some v) : MI w l yX9_total cX9_total 3 .int rm_X9_total 0 0 [rf w (some l0)] h v h := by
  refine of_body [(0, rf w (some l0))] (by decide) (by simp [lg_sl, rf_cat, cat_i, cat_l, cat_a]) (by simp [lv_args, rf_cat, cat_i, cat_l, cat_a]) ?_
  intro x hw_ hnL_ hl_ hc hret hnm hQ
  subst hw_; subst hl_
  have hnl : ∀ i, i < 3 → i < x.nL := fun i h => by rw [hnL_]; exact h
  have hw : wpO (sX9_total F l0 h) (fun r => r = v) := ⟨_, hs, rfl⟩
  unfold sX9_total at hw
  refine R_iconst (v := (0 : Int32)) hc dX9_total_0 kI_0 ?_
  refine R_istore_n (i := 1) (v := (0 : Int32)) hc [(1, .int (0 : Int32)), (0, rf x.w (some l0))] dX9_total_1 rfl (hnl 1 (le_b rfl)) rfl ?_
  refine R_iconst (v := (0 : Int32)) hc dX9_total_2 kI_0 ?_
  refine R_istore_n (i := 2) (v := (0 : Int32)) hc [(2, .int (0 : Int32)), (1, .int (0 : Int32)), (0, rf x.w (some l0))] dX9_total_3 rfl (hnl 2 (le_b rfl)) rfl ?_
  refine R_sub hc [2, 1, 0] rfl ?_
  refine R_loop (P := fun (s : (Int32 × Int32)) => Rn x 0 0 4 [(0, rf x.w (some l0)), (1, .int s.1), (2, .int s.2)] [] h) (fun l1_5 => Rn x 0 0 32 [(1, .int l1_5)] [] h) hw (fun r hw => ?_) (fun X hX s hw => ?_)
  · revert r hw
    intro l1_5 hw
    show Rn x 0 0 32 [(1, .int l1_5)] [] h
    refine R_iload_n (q := 0) (i := 1) (v := l1_5) hc dX9_total_32 rfl rfl ?_
    exact R_ireturnP hc hret rfl hQ hw dX9_total_33
  · obtain ⟨l1_7, l2_8⟩ := s
    show Rn x 0 0 4 [(0, rf x.w (some l0)), (1, .int l1_7), (2, .int l2_8)] [] h
    have hw : wpO (sX9_total_L4 F l0 l1_7 l2_8 h) _ := hw
    unfold sX9_total_L4 at hw
    refine R_iload_n (q := 2) (i := 2) (v := l2_8) hc dX9_total_4 rfl rfl ?_
    refine R_bipush (v := (12 : Int32)) hc dX9_total_5 kB_12 ?_
    refine R_icmp_ge (tgt := 32) hc dX9_total_7 (by decide) hw (fun hw => ?_) (fun hw => ?_)
    · refine R_sub hc [1] rfl ?_
      exact (wpO_some hw :)
    · refine R_iload_n (q := 1) (i := 1) (v := l1_7) hc dX9_total_10 rfl rfl ?_
      refine R_aload_n (q := 0) (i := 0) (v := (some l0)) hc dX9_total_11 rfl rfl ?_
      refine R_iload_n (q := 2) (i := 2) (v := l2_8) hc dX9_total_12 rfl rfl ?_
      refine R_cVI (As := [.int l2_8]) (rest := [.int l1_7]) (r := (some l0)) (ci := 9) hc ml_9_116 mf_X9_hasWire rfl (by decide) ⟨rfl, rfl⟩ ⟨le_b rfl, le_b rfl⟩ ⟨Nat.zero_le _, Nat.zero_le _⟩ (fun a v e => mt_X9_hasWire e) rfl rfl (le_b rfl) dX9_total_13 hw (fun t2 hw => ?_)
      refine R_if_eq (tgt := 23) hc dX9_total_16 (by decide) hw (fun hw => ?_) (fun hw => ?_)
      · refine R_iconst (v := (0 : Int32)) hc dX9_total_23 kI_0 ?_
        refine R_iadd hc dX9_total_24 ?_
        refine R_nmI hw (fun l1_3 hw => ?_)
        refine R_istore_n (i := 1) (v := l1_3) hc [(1, .int l1_3), (0, rf x.w (some l0)), (2, .int l2_8)] dX9_total_25 rfl (hnl 1 (le_b rfl)) rfl ?_
        refine R_iinc (q := 2) (i := 2) (v := l2_8) hc [(2, .int (l2_8 + (1 : Int32))), (1, .int l1_3), (0, rf x.w (some l0))] dX9_total_26 rfl (kC_1 _) (hnl 2 (le_b rfl)) rfl ?_
        refine R_goto (tgt := 4) hc dX9_total_29 (by decide) ?_
        refine R_sub hc [2, 1, 0] rfl ?_
        exact hX (l1_3, l2_8 + (1 : Int32)) (wpO_some hw :)
      · refine R_iconst (v := (1 : Int32)) hc dX9_total_19 kI_1 ?_
        refine R_goto (tgt := 24) hc dX9_total_20 (by decide) ?_
        refine R_iadd hc dX9_total_24 ?_
        refine R_nmI hw (fun l1_4 hw => ?_)
        refine R_istore_n (i := 1) (v := l1_4) hc [(1, .int l1_4), (0, rf x.w (some l0)), (2, .int l2_8)] dX9_total_25 rfl (hnl 1 (le_b rfl)) rfl ?_
        refine R_iinc (q := 2) (i := 2) (v := l2_8) hc [(2, .int (l2_8 + (1 : Int32))), (1, .int l1_4), (0, rf x.w (some l0))] dX9_total_26 rfl (kC_1 _) (hnl 2 (le_b rfl)) rfl ?_
        refine R_goto (tgt := 4) hc dX9_total_29 (by decide) ?_
        refine R_sub hc [2, 1, 0] rfl ?_
        exact hX (l1_4, l2_8 + (1 : Int32)) (wpO_some hw :)
theorem dX9_greatestCut_0 : decode cX9_greatestCut 0 = .ok (.iconst 0, 1) := by decide +kernel
theorem dX9_greatestCut_1 : decode cX9_greatestCut 1 = .ok (.istore_n 2, 1) := by decide +kernel
theorem dX9_greatestCut_2 : decode cX9_greatestCut 2 = .ok (.iconst 0, 1) := by decide +kernel
theorem dX9_greatestCut_3 : decode cX9_greatestCut 3 = .ok (.istore_n 3, 1) := by decide +kernel
theorem dX9_greatestCut_4 : decode cX9_greatestCut 4 = .ok (.iload_n 3, 1) := by decide +kernel
theorem dX9_greatestCut_5 : decode cX9_greatestCut 5 = .ok (.iload_n 1, 1) := by decide +kernel
theorem dX9_greatestCut_6 : decode cX9_greatestCut 6 = .ok (.if_icmp .ge 20, 3) := by decide +kernel
theorem dX9_greatestCut_9 : decode cX9_greatestCut 9 = .ok (.iload_n 2, 1) := by decide +kernel
theorem dX9_greatestCut_10 : decode cX9_greatestCut 10 = .ok (.aload_n 0, 1) := by decide +kernel
theorem dX9_greatestCut_11 : decode cX9_greatestCut 11 = .ok (.getfield 33, 3) := by decide +kernel
theorem dX9_greatestCut_14 : decode cX9_greatestCut 14 = .ok (.iload_n 3, 1) := by decide +kernel
theorem dX9_greatestCut_15 : decode cX9_greatestCut 15 = .ok (.iaload, 1) := by decide +kernel
theorem dX9_greatestCut_16 : decode cX9_greatestCut 16 = .ok (.invokestatic 88, 3) := by decide +kernel
theorem dX9_greatestCut_19 : decode cX9_greatestCut 19 = .ok (.istore_n 2, 1) := by decide +kernel
theorem dX9_greatestCut_20 : decode cX9_greatestCut 20 = .ok (.iinc 3 1, 3) := by decide +kernel
theorem dX9_greatestCut_23 : decode cX9_greatestCut 23 = .ok (.goto (-19), 3) := by decide +kernel
theorem dX9_greatestCut_26 : decode cX9_greatestCut 26 = .ok (.iload_n 2, 1) := by decide +kernel
theorem dX9_greatestCut_27 : decode cX9_greatestCut 27 = .ok (.ireturn, 1) := by decide +kernel
def sX9_greatestCut_L4 (F : Nat) (l0 : Nat) (l1 : Int32) (l2 : Int32) (l3 : Int32) (h : HP) : Option ((Int32 × Int32) ⊕ Int32) :=
  if l1 ≤ l3 then
    some (.inr l2)
  else
    (gR h 9 (some l0) 8).bind fun t1 =>
    (aI h 13 t1 l3).bind fun t2 =>
    nmI (jmx l2 t2) fun l2_3 =>
    some (.inl (l2_3, l3 + (1 : Int32)))
def sX9_greatestCut (F : Nat) (l0 : Nat) (l1 : Int32) (h : HP) : Option Int32 :=
  (iter (fun s => sX9_greatestCut_L4 F l0 l1 s.1 s.2 h) F ((0 : Int32), (0 : Int32))).bind fun l2_4 =>
    some l2_4
abbrev rm_X9_greatestCut : Room := { frames := 1, cells := 0, slots := 0, locals := 24 }
set_option maxRecDepth 100000 in
set_option maxHeartbeats 4000000 in
theorem mt_X9_greatestCut {w : WD} {l : Launch} {F : Nat} {l0 : Nat} {l1 : Int32} {h : HP} {v : Int32} (hs : sX9_greatestCut F l0 l1 h = some v) : MI w l yX9_greatestCut cX9_greatestCut 4 .int rm_X9_greatestCut 0 0 [rf w (some l0), .int l1] h v h := by
  refine of_body [(0, rf w (some l0)), (1, .int l1)] (by decide) (by simp [lg_sl, rf_cat, cat_i, cat_l, cat_a]) (by simp [lv_args, rf_cat, cat_i, cat_l, cat_a]) ?_
  intro x hw_ hnL_ hl_ hc hret hnm hQ
  subst hw_; subst hl_
  have hnl : ∀ i, i < 4 → i < x.nL := fun i h => by rw [hnL_]; exact h
  have hw : wpO (sX9_greatestCut F l0 l1 h) (fun r => r = v) := ⟨_, hs, rfl⟩
  unfold sX9_greatestCut at hw
  refine R_iconst (v := (0 : Int32)) hc dX9_greatestCut_0 kI_0 ?_
  refine R_istore_n (i := 2) (v := (0 : Int32)) hc [(2, .int (0 : Int32)), (0, rf x.w (some l0)), (1, .int l1)] dX9_greatestCut_1 rfl (hnl 2 (le_b rfl)) rfl ?_
  refine R_iconst (v := (0 : Int32)) hc dX9_greatestCut_2 kI_0 ?_
  refine R_istore_n (i := 3) (v := (0 : Int32)) hc [(3, .int (0 : Int32)), (2, .int (0 : Int32)), (0, rf x.w (some l0)), (1, .int l1)] dX9_greatestCut_3 rfl (hnl 3 (le_b rfl)) rfl ?_
  refine R_sub hc [2, 3, 1, 0] rfl ?_
  refine R_loop (P := fun (s : (Int32 × Int32)) => Rn x 0 0 4 [(0, rf x.w (some l0)), (1, .int l1), (2, .int s.1), (3, .int s.2)] [] h) (fun l2_4 => Rn x 0 0 26 [(2, .int l2_4)] [] h) hw (fun r hw => ?_) (fun X hX s hw => ?_)
  · revert r hw
    intro l2_4 hw
    show Rn x 0 0 26 [(2, .int l2_4)] [] h
    refine R_iload_n (q := 0) (i := 2) (v := l2_4) hc dX9_greatestCut_26 rfl rfl ?_
    exact R_ireturnP hc hret rfl hQ hw dX9_greatestCut_27
  · obtain ⟨l2_6, l3_7⟩ := s
    show Rn x 0 0 4 [(0, rf x.w (some l0)), (1, .int l1), (2, .int l2_6), (3, .int l3_7)] [] h
    have hw : wpO (sX9_greatestCut_L4 F l0 l1 l2_6 l3_7 h) _ := hw
    unfold sX9_greatestCut_L4 at hw
    refine R_iload_n (q := 3) (i := 3) (v := l3_7) hc dX9_greatestCut_4 rfl rfl ?_
    refine R_iload_n (q := 1) (i := 1) (v := l1) hc dX9_greatestCut_5 rfl rfl ?_
    refine R_icmp_ge (tgt := 26) hc dX9_greatestCut_6 (by decide) hw (fun hw => ?_) (fun hw => ?_)
    · refine R_sub hc [2] rfl ?_
      exact (wpO_some hw :)
    · refine R_iload_n (q := 2) (i := 2) (v := l2_6) hc dX9_greatestCut_9 rfl rfl ?_
      refine R_aload_n (q := 0) (i := 0) (v := (some l0)) hc dX9_greatestCut_10 rfl rfl ?_
      refine R_getR hc fl_9_33 dX9_greatestCut_11 hw (fun t1 hw => ?_)
      refine R_iload_n (q := 3) (i := 3) (v := l3_7) hc dX9_greatestCut_14 rfl rfl ?_
      refine R_iaload hc dX9_greatestCut_15 hw (fun t2 hw => ?_)
      refine R_jmx hc ml_9_88 (le_b rfl) (le_b rfl) ⟨Nat.zero_le _, Nat.zero_le _⟩ dX9_greatestCut_16 ?_
      refine R_nmI hw (fun l2_3 hw => ?_)
      refine R_istore_n (i := 2) (v := l2_3) hc [(2, .int l2_3), (0, rf x.w (some l0)), (1, .int l1), (3, .int l3_7)] dX9_greatestCut_19 rfl (hnl 2 (le_b rfl)) rfl ?_
      refine R_iinc (q := 3) (i := 3) (v := l3_7) hc [(3, .int (l3_7 + (1 : Int32))), (2, .int l2_3), (0, rf x.w (some l0)), (1, .int l1)] dX9_greatestCut_20 rfl (kC_1 _) (hnl 3 (le_b rfl)) rfl ?_
      refine R_goto (tgt := 4) hc dX9_greatestCut_23 (by decide) ?_
      refine R_sub hc [2, 3, 1, 0] rfl ?_
      exact hX (l2_3, l3_7 + (1 : Int32)) (wpO_some hw :)
theorem dX9_worst_0 : decode cX9_worst 0 = .ok (.iconst 0, 1) := by decide +kernel
theorem dX9_worst_1 : decode cX9_worst 1 = .ok (.istore_n 2, 1) := by decide +kernel
theorem dX9_worst_2 : decode cX9_worst 2 = .ok (.iconst (-1), 1) := by decide +kernel
theorem dX9_worst_3 : decode cX9_worst 3 = .ok (.istore_n 3, 1) := by decide +kernel
theorem dX9_worst_4 : decode cX9_worst 4 = .ok (.iconst 0, 1) := by decide +kernel
theorem dX9_worst_5 : decode cX9_worst 5 = .ok (.istore 4, 2) := by decide +kernel
theorem dX9_worst_7 : decode cX9_worst 7 = .ok (.iload 4, 2) := by decide +kernel
theorem dX9_worst_9 : decode cX9_worst 9 = .ok (.iload_n 1, 1) := by decide +kernel
theorem dX9_worst_10 : decode cX9_worst 10 = .ok (.if_icmp .ge 31, 3) := by decide +kernel
theorem dX9_worst_13 : decode cX9_worst 13 = .ok (.aload_n 0, 1) := by decide +kernel
theorem dX9_worst_14 : decode cX9_worst 14 = .ok (.getfield 33, 3) := by decide +kernel
theorem dX9_worst_17 : decode cX9_worst 17 = .ok (.iload 4, 2) := by decide +kernel
theorem dX9_worst_19 : decode cX9_worst 19 = .ok (.iaload, 1) := by decide +kernel
theorem dX9_worst_20 : decode cX9_worst 20 = .ok (.iload_n 2, 1) := by decide +kernel
theorem dX9_worst_21 : decode cX9_worst 21 = .ok (.if_icmp .le 14, 3) := by decide +kernel
theorem dX9_worst_24 : decode cX9_worst 24 = .ok (.aload_n 0, 1) := by decide +kernel
theorem dX9_worst_25 : decode cX9_worst 25 = .ok (.getfield 33, 3) := by decide +kernel
theorem dX9_worst_28 : decode cX9_worst 28 = .ok (.iload 4, 2) := by decide +kernel
theorem dX9_worst_30 : decode cX9_worst 30 = .ok (.iaload, 1) := by decide +kernel
theorem dX9_worst_31 : decode cX9_worst 31 = .ok (.istore_n 2, 1) := by decide +kernel
theorem dX9_worst_32 : decode cX9_worst 32 = .ok (.iload 4, 2) := by decide +kernel
theorem dX9_worst_34 : decode cX9_worst 34 = .ok (.istore_n 3, 1) := by decide +kernel
theorem dX9_worst_35 : decode cX9_worst 35 = .ok (.iinc 4 1, 3) := by decide +kernel
theorem dX9_worst_38 : decode cX9_worst 38 = .ok (.goto (-31), 3) := by decide +kernel
theorem dX9_worst_41 : decode cX9_worst 41 = .ok (.iload_n 3, 1) := by decide +kernel
theorem dX9_worst_42 : decode cX9_worst 42 = .ok (.ireturn, 1) := by decide +kernel
def sX9_worst_L7 (F : Nat) (l0 : Nat) (l1 : Int32) (l2 : Int32) (l3 : Int32) (l4 : Int32) (h : HP) : Option ((Int32 × Int32 × Int32) ⊕ Int32) :=
  if l1 ≤ l4 then
    some (.inr l3)
  else
    (gR h 9 (some l0) 8).bind fun t1 =>
    (aI h 13 t1 l4).bind fun t2 =>
    if t2 ≤ l2 then
      some (.inl (l2, l3, l4 + (1 : Int32)))
    else
      (gR h 9 (some l0) 8).bind fun t3 =>
      (aI h 13 t3 l4).bind fun t4 =>
      some (.inl (t4, l4, l4 + (1 : Int32)))
def sX9_worst (F : Nat) (l0 : Nat) (l1 : Int32) (h : HP) : Option Int32 :=
  (iter (fun s => sX9_worst_L7 F l0 l1 s.1 s.2.1 s.2.2 h) F ((0 : Int32), (-1 : Int32), (0 : Int32))).bind fun l3_5 =>
    some l3_5
abbrev rm_X9_worst : Room := { frames := 0, cells := 0, slots := 0, locals := 0 }
set_option maxRecDepth 100000 in
set_option maxHeartbeats 4000000 in
theorem mt_X9_worst {w : WD} {l : Launch} {F : Nat} {l0 : Nat} {l1 : Int32} {h : HP} {v : Int32} (hs : sX9_worst F l0 l1 h = some v) : MI w l yX9_worst cX9_worst 5 .int rm_X9_worst 0 0 [rf w (some l0), .int l1] h v h := by
  refine of_body [(0, rf w (some l0)), (1, .int l1)] (by decide) (by simp [lg_sl, rf_cat, cat_i, cat_l, cat_a]) (by simp [lv_args, rf_cat, cat_i, cat_l, cat_a]) ?_
  intro x hw_ hnL_ hl_ hc hret hnm hQ
  subst hw_; subst hl_
  have hnl : ∀ i, i < 5 → i < x.nL := fun i h => by rw [hnL_]; exact h
  have hw : wpO (sX9_worst F l0 l1 h) (fun r => r = v) := ⟨_, hs, rfl⟩
  unfold sX9_worst at hw
  refine R_iconst (v := (0 : Int32)) hc dX9_worst_0 kI_0 ?_
  refine R_istore_n (i := 2) (v := (0 : Int32)) hc [(2, .int (0 : Int32)), (0, rf x.w (some l0)), (1, .int l1)] dX9_worst_1 rfl (hnl 2 (le_b rfl)) rfl ?_
  refine R_iconst (v := (-1 : Int32)) hc dX9_worst_2 kI_m1 ?_
  refine R_istore_n (i := 3) (v := (-1 : Int32)) hc [(3, .int (-1 : Int32)), (2, .int (0 : Int32)), (0, rf x.w (some l0)), (1, .int l1)] dX9_worst_3 rfl (hnl 3 (le_b rfl)) rfl ?_
  refine R_iconst (v := (0 : Int32)) hc dX9_worst_4 kI_0 ?_
  refine R_istore (i := 4) (v := (0 : Int32)) hc [(4, .int (0 : Int32)), (3, .int (-1 : Int32)), (2, .int (0 : Int32)), (0, rf x.w (some l0)), (1, .int l1)] dX9_worst_5 (hnl 4 (le_b rfl)) rfl ?_
  refine R_sub hc [3, 4, 2, 1, 0] rfl ?_
  refine R_loop (P := fun (s : (Int32 × Int32 × Int32)) => Rn x 0 0 7 [(0, rf x.w (some l0)), (1, .int l1), (2, .int s.1), (3, .int s.2.1), (4, .int s.2.2)] [] h) (fun l3_5 => Rn x 0 0 41 [(3, .int l3_5)] [] h) hw (fun r hw => ?_) (fun X hX s hw => ?_)
  · revert r hw
    intro l3_5 hw
    show Rn x 0 0 41 [(3, .int l3_5)] [] h
    refine R_iload_n (q := 0) (i := 3) (v := l3_5) hc dX9_worst_41 rfl rfl ?_
    exact R_ireturnP hc hret rfl hQ hw dX9_worst_42
  · obtain ⟨l2_7, l3_8, l4_9⟩ := s
    show Rn x 0 0 7 [(0, rf x.w (some l0)), (1, .int l1), (2, .int l2_7), (3, .int l3_8), (4, .int l4_9)] [] h
    have hw : wpO (sX9_worst_L7 F l0 l1 l2_7 l3_8 l4_9 h) _ := hw
    unfold sX9_worst_L7 at hw
    refine R_iload (q := 4) (i := 4) (v := l4_9) hc dX9_worst_7 rfl ?_
    refine R_iload_n (q := 1) (i := 1) (v := l1) hc dX9_worst_9 rfl rfl ?_
    refine R_icmp_ge (tgt := 41) hc dX9_worst_10 (by decide) hw (fun hw => ?_) (fun hw => ?_)
    · refine R_sub hc [3] rfl ?_
      exact (wpO_some hw :)
    · refine R_aload_n (q := 0) (i := 0) (v := (some l0)) hc dX9_worst_13 rfl rfl ?_
      refine R_getR hc fl_9_33 dX9_worst_14 hw (fun t1 hw => ?_)
      refine R_iload (q := 4) (i := 4) (v := l4_9) hc dX9_worst_17 rfl ?_
      refine R_iaload hc dX9_worst_19 hw (fun t2 hw => ?_)
      refine R_iload_n (q := 2) (i := 2) (v := l2_7) hc dX9_worst_20 rfl rfl ?_
      refine R_icmp_le (tgt := 35) hc dX9_worst_21 (by decide) hw (fun hw => ?_) (fun hw => ?_)
      · refine R_iinc (q := 4) (i := 4) (v := l4_9) hc [(4, .int (l4_9 + (1 : Int32))), (0, rf x.w (some l0)), (1, .int l1), (2, .int l2_7), (3, .int l3_8)] dX9_worst_35 rfl (kC_1 _) (hnl 4 (le_b rfl)) rfl ?_
        refine R_goto (tgt := 7) hc dX9_worst_38 (by decide) ?_
        refine R_sub hc [1, 2, 3, 4, 0] rfl ?_
        exact hX (l2_7, l3_8, l4_9 + (1 : Int32)) (wpO_some hw :)
      · refine R_aload_n (q := 0) (i := 0) (v := (some l0)) hc dX9_worst_24 rfl rfl ?_
        refine R_getR hc fl_9_33 dX9_worst_25 hw (fun t3 hw => ?_)
        refine R_iload (q := 4) (i := 4) (v := l4_9) hc dX9_worst_28 rfl ?_
        refine R_iaload hc dX9_worst_30 hw (fun t4 hw => ?_)
        refine R_istore_n (i := 2) (v := t4) hc [(2, .int t4), (0, rf x.w (some l0)), (1, .int l1), (3, .int l3_8), (4, .int l4_9)] dX9_worst_31 rfl (hnl 2 (le_b rfl)) rfl ?_
        refine R_iload (q := 4) (i := 4) (v := l4_9) hc dX9_worst_32 rfl ?_
        refine R_istore_n (i := 3) (v := l4_9) hc [(3, .int l4_9), (2, .int t4), (0, rf x.w (some l0)), (1, .int l1), (4, .int l4_9)] dX9_worst_34 rfl (hnl 3 (le_b rfl)) rfl ?_
        refine R_iinc (q := 4) (i := 4) (v := l4_9) hc [(4, .int (l4_9 + (1 : Int32))), (3, .int l4_9), (2, .int t4), (0, rf x.w (some l0)), (1, .int l1)] dX9_worst_35 rfl (kC_1 _) (hnl 4 (le_b rfl)) rfl ?_
        refine R_goto (tgt := 7) hc dX9_worst_38 (by decide) ?_
        refine R_sub hc [3, 4, 2, 1, 0] rfl ?_
        exact hX (t4, l4_9, l4_9 + (1 : Int32)) (wpO_some hw :)
theorem dX9_usedTracks_0 : decode cX9_usedTracks 0 = .ok (.iconst 0, 1) := by decide +kernel
theorem dX9_usedTracks_1 : decode cX9_usedTracks 1 = .ok (.istore_n 1, 1) := by decide +kernel
theorem dX9_usedTracks_2 : decode cX9_usedTracks 2 = .ok (.iconst 0, 1) := by decide +kernel
theorem dX9_usedTracks_3 : decode cX9_usedTracks 3 = .ok (.istore_n 2, 1) := by decide +kernel
theorem dX9_usedTracks_4 : decode cX9_usedTracks 4 = .ok (.iload_n 2, 1) := by decide +kernel
theorem dX9_usedTracks_5 : decode cX9_usedTracks 5 = .ok (.bipush 12, 2) := by decide +kernel
theorem dX9_usedTracks_7 : decode cX9_usedTracks 7 = .ok (.if_icmp .ge 34, 3) := by decide +kernel
theorem dX9_usedTracks_10 : decode cX9_usedTracks 10 = .ok (.iload_n 1, 1) := by decide +kernel
theorem dX9_usedTracks_11 : decode cX9_usedTracks 11 = .ok (.aload_n 0, 1) := by decide +kernel
theorem dX9_usedTracks_12 : decode cX9_usedTracks 12 = .ok (.getfield 30, 3) := by decide +kernel
theorem dX9_usedTracks_15 : decode cX9_usedTracks 15 = .ok (.iload_n 2, 1) := by decide +kernel
theorem dX9_usedTracks_16 : decode cX9_usedTracks 16 = .ok (.iaload, 1) := by decide +kernel
theorem dX9_usedTracks_17 : decode cX9_usedTracks 17 = .ok (.iconst (-1), 1) := by decide +kernel
theorem dX9_usedTracks_18 : decode cX9_usedTracks 18 = .ok (.if_icmp .ne 7, 3) := by decide +kernel
theorem dX9_usedTracks_21 : decode cX9_usedTracks 21 = .ok (.iconst 0, 1) := by decide +kernel
theorem dX9_usedTracks_22 : decode cX9_usedTracks 22 = .ok (.goto 11, 3) := by decide +kernel
theorem dX9_usedTracks_25 : decode cX9_usedTracks 25 = .ok (.iconst 1, 1) := by decide +kernel
theorem dX9_usedTracks_26 : decode cX9_usedTracks 26 = .ok (.aload_n 0, 1) := by decide +kernel
theorem dX9_usedTracks_27 : decode cX9_usedTracks 27 = .ok (.getfield 30, 3) := by decide +kernel
theorem dX9_usedTracks_30 : decode cX9_usedTracks 30 = .ok (.iload_n 2, 1) := by decide +kernel
theorem dX9_usedTracks_31 : decode cX9_usedTracks 31 = .ok (.iaload, 1) := by decide +kernel
theorem dX9_usedTracks_32 : decode cX9_usedTracks 32 = .ok (.ishl, 1) := by decide +kernel
theorem dX9_usedTracks_33 : decode cX9_usedTracks 33 = .ok (.ior, 1) := by decide +kernel
theorem dX9_usedTracks_34 : decode cX9_usedTracks 34 = .ok (.istore_n 1, 1) := by decide +kernel
theorem dX9_usedTracks_35 : decode cX9_usedTracks 35 = .ok (.iinc 2 1, 3) := by decide +kernel
theorem dX9_usedTracks_38 : decode cX9_usedTracks 38 = .ok (.goto (-34), 3) := by decide +kernel
theorem dX9_usedTracks_41 : decode cX9_usedTracks 41 = .ok (.iload_n 1, 1) := by decide +kernel
theorem dX9_usedTracks_42 : decode cX9_usedTracks 42 = .ok (.ireturn, 1) := by decide +kernel
def sX9_usedTracks_L4 (F : Nat) (l0 : Nat) (l1 : Int32) (l2 : Int32) (h : HP) : Option ((Int32 × Int32) ⊕ Int32) :=
  if (12 : Int32) ≤ l2 then
    some (.inr l1)
  else
    (gR h 9 (some l0) 7).bind fun t1 =>
    (aI h 13 t1 l2).bind fun t2 =>
    if ¬ t2 = (-1 : Int32) then
      (gR h 9 (some l0) 7).bind fun t3 =>
      (aI h 13 t3 l2).bind fun t4 =>
      nmI (l1 ||| (jshl (1 : Int32) t4)) fun l1_5 =>
      some (.inl (l1_5, l2 + (1 : Int32)))
    else
      nmI (l1 ||| (0 : Int32)) fun l1_6 =>
      some (.inl (l1_6, l2 + (1 : Int32)))
def sX9_usedTracks (F : Nat) (l0 : Nat) (h : HP) : Option Int32 :=
  (iter (fun s => sX9_usedTracks_L4 F l0 s.1 s.2 h) F ((0 : Int32), (0 : Int32))).bind fun l1_7 =>
    some l1_7
abbrev rm_X9_usedTracks : Room := { frames := 0, cells := 0, slots := 0, locals := 0 }
set_option maxRecDepth 100000 in
set_option maxHeartbeats 4000000 in
theorem mt_X9_usedTracks {w : WD} {l : Launch} {F : Nat} {l0 : Nat} {h : HP} {v : Int32} (hs : sX9_usedTracks F l0 h = some v) : MI w l yX9_usedTracks cX9_usedTracks 3 .int rm_X9_usedTracks 0 0 [rf w (some l0)] h v h := by
  refine of_body [(0, rf w (some l0))] (by decide) (by simp [lg_sl, rf_cat, cat_i, cat_l, cat_a]) (by simp [lv_args, rf_cat, cat_i, cat_l, cat_a]) ?_
  intro x hw_ hnL_ hl_ hc hret hnm hQ
  subst hw_; subst hl_
  have hnl : ∀ i, i < 3 → i < x.nL := fun i h => by rw [hnL_]; exact h
  have hw : wpO (sX9_usedTracks F l0 h) (fun r => r = v) := ⟨_, hs, rfl⟩
  unfold sX9_usedTracks at hw
  refine R_iconst (v := (0 : Int32)) hc dX9_usedTracks_0 kI_0 ?_
  refine R_istore_n (i := 1) (v := (0 : Int32)) hc [(1, .int (0 : Int32)), (0, rf x.w (some l0))] dX9_usedTracks_1 rfl (hnl 1 (le_b rfl)) rfl ?_
  refine R_iconst (v := (0 : Int32)) hc dX9_usedTracks_2 kI_0 ?_
  refine R_istore_n (i := 2) (v := (0 : Int32)) hc [(2, .int (0 : Int32)), (1, .int (0 : Int32)), (0, rf x.w (some l0))] dX9_usedTracks_3 rfl (hnl 2 (le_b rfl)) rfl ?_
  refine R_sub hc [2, 1, 0] rfl ?_
  refine R_loop (P := fun (s : (Int32 × Int32)) => Rn x 0 0 4 [(0, rf x.w (some l0)), (1, .int s.1), (2, .int s.2)] [] h) (fun l1_7 => Rn x 0 0 41 [(1, .int l1_7)] [] h) hw (fun r hw => ?_) (fun X hX s hw => ?_)
  · revert r hw
    intro l1_7 hw
    show Rn x 0 0 41 [(1, .int l1_7)] [] h
    refine R_iload_n (q := 0) (i := 1) (v := l1_7) hc dX9_usedTracks_41 rfl rfl ?_
    exact R_ireturnP hc hret rfl hQ hw dX9_usedTracks_42
  · obtain ⟨l1_9, l2_10⟩ := s
    show Rn x 0 0 4 [(0, rf x.w (some l0)), (1, .int l1_9), (2, .int l2_10)] [] h
    have hw : wpO (sX9_usedTracks_L4 F l0 l1_9 l2_10 h) _ := hw
    unfold sX9_usedTracks_L4 at hw
    refine R_iload_n (q := 2) (i := 2) (v := l2_10) hc dX9_usedTracks_4 rfl rfl ?_
    refine R_bipush (v := (12 : Int32)) hc dX9_usedTracks_5 kB_12 ?_
    refine R_icmp_ge (tgt := 41) hc dX9_usedTracks_7 (by decide) hw (fun hw => ?_) (fun hw => ?_)
    · refine R_sub hc [1] rfl ?_
      exact (wpO_some hw :)
    · refine R_iload_n (q := 1) (i := 1) (v := l1_9) hc dX9_usedTracks_10 rfl rfl ?_
      refine R_aload_n (q := 0) (i := 0) (v := (some l0)) hc dX9_usedTracks_11 rfl rfl ?_
      refine R_getR hc fl_9_30 dX9_usedTracks_12 hw (fun t1 hw => ?_)
      refine R_iload_n (q := 2) (i := 2) (v := l2_10) hc dX9_usedTracks_15 rfl rfl ?_
      refine R_iaload hc dX9_usedTracks_16 hw (fun t2 hw => ?_)
      refine R_iconst (v := (-1 : Int32)) hc dX9_usedTracks_17 kI_m1 ?_
      refine R_icmp_ne (tgt := 25) hc dX9_usedTracks_18 (by decide) hw (fun hw => ?_) (fun hw => ?_)
      · refine R_iconst (v := (1 : Int32)) hc dX9_usedTracks_25 kI_1 ?_
        refine R_aload_n (q := 0) (i := 0) (v := (some l0)) hc dX9_usedTracks_26 rfl rfl ?_
        refine R_getR hc fl_9_30 dX9_usedTracks_27 hw (fun t3 hw => ?_)
        refine R_iload_n (q := 2) (i := 2) (v := l2_10) hc dX9_usedTracks_30 rfl rfl ?_
        refine R_iaload hc dX9_usedTracks_31 hw (fun t4 hw => ?_)
        refine R_ishl hc dX9_usedTracks_32 ?_
        refine R_ior hc dX9_usedTracks_33 ?_
        refine R_nmI hw (fun l1_5 hw => ?_)
        refine R_istore_n (i := 1) (v := l1_5) hc [(1, .int l1_5), (0, rf x.w (some l0)), (2, .int l2_10)] dX9_usedTracks_34 rfl (hnl 1 (le_b rfl)) rfl ?_
        refine R_iinc (q := 2) (i := 2) (v := l2_10) hc [(2, .int (l2_10 + (1 : Int32))), (1, .int l1_5), (0, rf x.w (some l0))] dX9_usedTracks_35 rfl (kC_1 _) (hnl 2 (le_b rfl)) rfl ?_
        refine R_goto (tgt := 4) hc dX9_usedTracks_38 (by decide) ?_
        refine R_sub hc [2, 1, 0] rfl ?_
        exact hX (l1_5, l2_10 + (1 : Int32)) (wpO_some hw :)
      · refine R_iconst (v := (0 : Int32)) hc dX9_usedTracks_21 kI_0 ?_
        refine R_goto (tgt := 33) hc dX9_usedTracks_22 (by decide) ?_
        refine R_ior hc dX9_usedTracks_33 ?_
        refine R_nmI hw (fun l1_6 hw => ?_)
        refine R_istore_n (i := 1) (v := l1_6) hc [(1, .int l1_6), (0, rf x.w (some l0)), (2, .int l2_10)] dX9_usedTracks_34 rfl (hnl 1 (le_b rfl)) rfl ?_
        refine R_iinc (q := 2) (i := 2) (v := l2_10) hc [(2, .int (l2_10 + (1 : Int32))), (1, .int l1_6), (0, rf x.w (some l0))] dX9_usedTracks_35 rfl (kC_1 _) (hnl 2 (le_b rfl)) rfl ?_
        refine R_goto (tgt := 4) hc dX9_usedTracks_38 (by decide) ?_
        refine R_sub hc [2, 1, 0] rfl ?_
        exact hX (l1_6, l2_10 + (1 : Int32)) (wpO_some hw :)
theorem dX9_lost_0 : decode cX9_lost 0 = .ok (.iconst 0, 1) := by decide +kernel
theorem dX9_lost_1 : decode cX9_lost 1 = .ok (.istore_n 1, 1) := by decide +kernel
theorem dX9_lost_2 : decode cX9_lost 2 = .ok (.iconst 0, 1) := by decide +kernel
theorem dX9_lost_3 : decode cX9_lost 3 = .ok (.istore_n 2, 1) := by decide +kernel
theorem dX9_lost_4 : decode cX9_lost 4 = .ok (.iload_n 2, 1) := by decide +kernel
theorem dX9_lost_5 : decode cX9_lost 5 = .ok (.bipush 12, 2) := by decide +kernel
theorem dX9_lost_7 : decode cX9_lost 7 = .ok (.if_icmp .ge 35, 3) := by decide +kernel
theorem dX9_lost_10 : decode cX9_lost 10 = .ok (.iload_n 1, 1) := by decide +kernel
theorem dX9_lost_11 : decode cX9_lost 11 = .ok (.aload_n 0, 1) := by decide +kernel
theorem dX9_lost_12 : decode cX9_lost 12 = .ok (.iload_n 2, 1) := by decide +kernel
theorem dX9_lost_13 : decode cX9_lost 13 = .ok (.invokevirtual 116, 3) := by decide +kernel
theorem dX9_lost_16 : decode cX9_lost 16 = .ok (.ifCond .eq 17, 3) := by decide +kernel
theorem dX9_lost_19 : decode cX9_lost 19 = .ok (.aload_n 0, 1) := by decide +kernel
theorem dX9_lost_20 : decode cX9_lost 20 = .ok (.getfield 30, 3) := by decide +kernel
theorem dX9_lost_23 : decode cX9_lost 23 = .ok (.iload_n 2, 1) := by decide +kernel
theorem dX9_lost_24 : decode cX9_lost 24 = .ok (.iaload, 1) := by decide +kernel
theorem dX9_lost_25 : decode cX9_lost 25 = .ok (.iconst (-1), 1) := by decide +kernel
theorem dX9_lost_26 : decode cX9_lost 26 = .ok (.if_icmp .ne 7, 3) := by decide +kernel
theorem dX9_lost_29 : decode cX9_lost 29 = .ok (.iconst 1, 1) := by decide +kernel
theorem dX9_lost_30 : decode cX9_lost 30 = .ok (.goto 4, 3) := by decide +kernel
theorem dX9_lost_33 : decode cX9_lost 33 = .ok (.iconst 0, 1) := by decide +kernel
theorem dX9_lost_34 : decode cX9_lost 34 = .ok (.iadd, 1) := by decide +kernel
theorem dX9_lost_35 : decode cX9_lost 35 = .ok (.istore_n 1, 1) := by decide +kernel
theorem dX9_lost_36 : decode cX9_lost 36 = .ok (.iinc 2 1, 3) := by decide +kernel
theorem dX9_lost_39 : decode cX9_lost 39 = .ok (.goto (-35), 3) := by decide +kernel
theorem dX9_lost_42 : decode cX9_lost 42 = .ok (.iload_n 1, 1) := by decide +kernel
theorem dX9_lost_43 : decode cX9_lost 43 = .ok (.ireturn, 1) := by decide +kernel
def sX9_lost_L4 (F : Nat) (l0 : Nat) (l1 : Int32) (l2 : Int32) (h : HP) : Option ((Int32 × Int32) ⊕ Int32) :=
  if (12 : Int32) ≤ l2 then
    some (.inr l1)
  else
    (dO h 9 (some l0)).bind fun a1 =>
    (sX9_hasWire F a1 l2 h).bind fun t2 =>
    if t2 = 0 then
      nmI (l1 + (0 : Int32)) fun l1_3 =>
      some (.inl (l1_3, l2 + (1 : Int32)))
    else
      (gR h 9 (some l0) 7).bind fun t4 =>
      (aI h 13 t4 l2).bind fun t5 =>
      if ¬ t5 = (-1 : Int32) then
        nmI (l1 + (0 : Int32)) fun l1_6 =>
        some (.inl (l1_6, l2 + (1 : Int32)))
      else
        nmI (l1 + (1 : Int32)) fun l1_7 =>
        some (.inl (l1_7, l2 + (1 : Int32)))
def sX9_lost (F : Nat) (l0 : Nat) (h : HP) : Option Int32 :=
  (iter (fun s => sX9_lost_L4 F l0 s.1 s.2 h) F ((0 : Int32), (0 : Int32))).bind fun l1_8 =>
    some l1_8
abbrev rm_X9_lost : Room := { frames := 1, cells := 0, slots := 0, locals := 21 }
set_option maxRecDepth 100000 in
set_option maxHeartbeats 4000000 in
theorem mt_X9_lost {w : WD} {l : Launch} {F : Nat} {l0 : Nat} {h : HP} {v : Int32} (hs : sX9_lost F l0 h = some v) : MI w l yX9_lost cX9_lost 3 .int rm_X9_lost 0 0 [rf w (some l0)] h v h := by
  refine of_body [(0, rf w (some l0))] (by decide) (by simp [lg_sl, rf_cat, cat_i, cat_l, cat_a]) (by simp [lv_args, rf_cat, cat_i, cat_l, cat_a]) ?_
  intro x hw_ hnL_ hl_ hc hret hnm hQ
  subst hw_; subst hl_
  have hnl : ∀ i, i < 3 → i < x.nL := fun i h => by rw [hnL_]; exact h
  have hw : wpO (sX9_lost F l0 h) (fun r => r = v) := ⟨_, hs, rfl⟩
  unfold sX9_lost at hw
  refine R_iconst (v := (0 : Int32)) hc dX9_lost_0 kI_0 ?_
  refine R_istore_n (i := 1) (v := (0 : Int32)) hc [(1, .int (0 : Int32)), (0, rf x.w (some l0))] dX9_lost_1 rfl (hnl 1 (le_b rfl)) rfl ?_
  refine R_iconst (v := (0 : Int32)) hc dX9_lost_2 kI_0 ?_
  refine R_istore_n (i := 2) (v := (0 : Int32)) hc [(2, .int (0 : Int32)), (1, .int (0 : Int32)), (0, rf x.w (some l0))] dX9_lost_3 rfl (hnl 2 (le_b rfl)) rfl ?_
  refine R_sub hc [2, 1, 0] rfl ?_
  refine R_loop (P := fun (s : (Int32 × Int32)) => Rn x 0 0 4 [(0, rf x.w (some l0)), (1, .int s.1), (2, .int s.2)] [] h) (fun l1_8 => Rn x 0 0 42 [(1, .int l1_8)] [] h) hw (fun r hw => ?_) (fun X hX s hw => ?_)
  · revert r hw
    intro l1_8 hw
    show Rn x 0 0 42 [(1, .int l1_8)] [] h
    refine R_iload_n (q := 0) (i := 1) (v := l1_8) hc dX9_lost_42 rfl rfl ?_
    exact R_ireturnP hc hret rfl hQ hw dX9_lost_43
  · obtain ⟨l1_10, l2_11⟩ := s
    show Rn x 0 0 4 [(0, rf x.w (some l0)), (1, .int l1_10), (2, .int l2_11)] [] h
    have hw : wpO (sX9_lost_L4 F l0 l1_10 l2_11 h) _ := hw
    unfold sX9_lost_L4 at hw
    refine R_iload_n (q := 2) (i := 2) (v := l2_11) hc dX9_lost_4 rfl rfl ?_
    refine R_bipush (v := (12 : Int32)) hc dX9_lost_5 kB_12 ?_
    refine R_icmp_ge (tgt := 42) hc dX9_lost_7 (by decide) hw (fun hw => ?_) (fun hw => ?_)
    · refine R_sub hc [1] rfl ?_
      exact (wpO_some hw :)
    · refine R_iload_n (q := 1) (i := 1) (v := l1_10) hc dX9_lost_10 rfl rfl ?_
      refine R_aload_n (q := 0) (i := 0) (v := (some l0)) hc dX9_lost_11 rfl rfl ?_
      refine R_iload_n (q := 2) (i := 2) (v := l2_11) hc dX9_lost_12 rfl rfl ?_
      refine R_cVI (As := [.int l2_11]) (rest := [.int l1_10]) (r := (some l0)) (ci := 9) hc ml_9_116 mf_X9_hasWire rfl (by decide) ⟨rfl, rfl⟩ ⟨le_b rfl, le_b rfl⟩ ⟨Nat.zero_le _, Nat.zero_le _⟩ (fun a v e => mt_X9_hasWire e) rfl rfl (le_b rfl) dX9_lost_13 hw (fun t2 hw => ?_)
      refine R_if_eq (tgt := 33) hc dX9_lost_16 (by decide) hw (fun hw => ?_) (fun hw => ?_)
      · refine R_iconst (v := (0 : Int32)) hc dX9_lost_33 kI_0 ?_
        refine R_iadd hc dX9_lost_34 ?_
        refine R_nmI hw (fun l1_3 hw => ?_)
        refine R_istore_n (i := 1) (v := l1_3) hc [(1, .int l1_3), (0, rf x.w (some l0)), (2, .int l2_11)] dX9_lost_35 rfl (hnl 1 (le_b rfl)) rfl ?_
        refine R_iinc (q := 2) (i := 2) (v := l2_11) hc [(2, .int (l2_11 + (1 : Int32))), (1, .int l1_3), (0, rf x.w (some l0))] dX9_lost_36 rfl (kC_1 _) (hnl 2 (le_b rfl)) rfl ?_
        refine R_goto (tgt := 4) hc dX9_lost_39 (by decide) ?_
        refine R_sub hc [2, 1, 0] rfl ?_
        exact hX (l1_3, l2_11 + (1 : Int32)) (wpO_some hw :)
      · refine R_aload_n (q := 0) (i := 0) (v := (some l0)) hc dX9_lost_19 rfl rfl ?_
        refine R_getR hc fl_9_30 dX9_lost_20 hw (fun t4 hw => ?_)
        refine R_iload_n (q := 2) (i := 2) (v := l2_11) hc dX9_lost_23 rfl rfl ?_
        refine R_iaload hc dX9_lost_24 hw (fun t5 hw => ?_)
        refine R_iconst (v := (-1 : Int32)) hc dX9_lost_25 kI_m1 ?_
        refine R_icmp_ne (tgt := 33) hc dX9_lost_26 (by decide) hw (fun hw => ?_) (fun hw => ?_)
        · refine R_iconst (v := (0 : Int32)) hc dX9_lost_33 kI_0 ?_
          refine R_iadd hc dX9_lost_34 ?_
          refine R_nmI hw (fun l1_6 hw => ?_)
          refine R_istore_n (i := 1) (v := l1_6) hc [(1, .int l1_6), (0, rf x.w (some l0)), (2, .int l2_11)] dX9_lost_35 rfl (hnl 1 (le_b rfl)) rfl ?_
          refine R_iinc (q := 2) (i := 2) (v := l2_11) hc [(2, .int (l2_11 + (1 : Int32))), (1, .int l1_6), (0, rf x.w (some l0))] dX9_lost_36 rfl (kC_1 _) (hnl 2 (le_b rfl)) rfl ?_
          refine R_goto (tgt := 4) hc dX9_lost_39 (by decide) ?_
          refine R_sub hc [2, 1, 0] rfl ?_
          exact hX (l1_6, l2_11 + (1 : Int32)) (wpO_some hw :)
        · refine R_iconst (v := (1 : Int32)) hc dX9_lost_29 kI_1 ?_
          refine R_goto (tgt := 34) hc dX9_lost_30 (by decide) ?_
          refine R_iadd hc dX9_lost_34 ?_
          refine R_nmI hw (fun l1_7 hw => ?_)
          refine R_istore_n (i := 1) (v := l1_7) hc [(1, .int l1_7), (0, rf x.w (some l0)), (2, .int l2_11)] dX9_lost_35 rfl (hnl 1 (le_b rfl)) rfl ?_
          refine R_iinc (q := 2) (i := 2) (v := l2_11) hc [(2, .int (l2_11 + (1 : Int32))), (1, .int l1_7), (0, rf x.w (some l0))] dX9_lost_36 rfl (kC_1 _) (hnl 2 (le_b rfl)) rfl ?_
          refine R_goto (tgt := 4) hc dX9_lost_39 (by decide) ?_
          refine R_sub hc [2, 1, 0] rfl ?_
          exact hX (l1_7, l2_11 + (1 : Int32)) (wpO_some hw :)
theorem dX9_height_0 : decode cX9_height 0 = .ok (.iconst 0, 1) := by decide +kernel
theorem dX9_height_1 : decode cX9_height 1 = .ok (.istore_n 1, 1) := by decide +kernel
theorem dX9_height_2 : decode cX9_height 2 = .ok (.iconst 0, 1) := by decide +kernel
theorem dX9_height_3 : decode cX9_height 3 = .ok (.istore_n 2, 1) := by decide +kernel
theorem dX9_height_4 : decode cX9_height 4 = .ok (.iload_n 2, 1) := by decide +kernel
theorem dX9_height_5 : decode cX9_height 5 = .ok (.bipush 12, 2) := by decide +kernel
theorem dX9_height_7 : decode cX9_height 7 = .ok (.if_icmp .ge 22, 3) := by decide +kernel
theorem dX9_height_10 : decode cX9_height 10 = .ok (.iload_n 1, 1) := by decide +kernel
theorem dX9_height_11 : decode cX9_height 11 = .ok (.aload_n 0, 1) := by decide +kernel
theorem dX9_height_12 : decode cX9_height 12 = .ok (.getfield 30, 3) := by decide +kernel
theorem dX9_height_15 : decode cX9_height 15 = .ok (.iload_n 2, 1) := by decide +kernel
theorem dX9_height_16 : decode cX9_height 16 = .ok (.iaload, 1) := by decide +kernel
theorem dX9_height_17 : decode cX9_height 17 = .ok (.iconst 1, 1) := by decide +kernel
theorem dX9_height_18 : decode cX9_height 18 = .ok (.iadd, 1) := by decide +kernel
theorem dX9_height_19 : decode cX9_height 19 = .ok (.invokestatic 88, 3) := by decide +kernel
theorem dX9_height_22 : decode cX9_height 22 = .ok (.istore_n 1, 1) := by decide +kernel
theorem dX9_height_23 : decode cX9_height 23 = .ok (.iinc 2 1, 3) := by decide +kernel
theorem dX9_height_26 : decode cX9_height 26 = .ok (.goto (-22), 3) := by decide +kernel
theorem dX9_height_29 : decode cX9_height 29 = .ok (.iload_n 1, 1) := by decide +kernel
theorem dX9_height_30 : decode cX9_height 30 = .ok (.ireturn, 1) := by decide +kernel
def sX9_height_L4 (F : Nat) (l0 : Nat) (l1 : Int32) (l2 : Int32) (h : HP) : Option ((Int32 × Int32) ⊕ Int32) :=
  if (12 : Int32) ≤ l2 then
    some (.inr l1)
  else
    (gR h 9 (some l0) 7).bind fun t1 =>
    (aI h 13 t1 l2).bind fun t2 =>
    nmI (jmx l1 (t2 + (1 : Int32))) fun l1_3 =>
    some (.inl (l1_3, l2 + (1 : Int32)))
def sX9_height (F : Nat) (l0 : Nat) (h : HP) : Option Int32 :=
  (iter (fun s => sX9_height_L4 F l0 s.1 s.2 h) F ((0 : Int32), (0 : Int32))).bind fun l1_4 =>
    some l1_4
abbrev rm_X9_height : Room := { frames := 1, cells := 0, slots := 0, locals := 24 }
set_option maxRecDepth 100000 in
set_option maxHeartbeats 4000000 in
theorem mt_X9_height {w : WD} {l : Launch} {F : Nat} {l0 : Nat} {h : HP} {v : Int32} (hs : sX9_height F l0 h = some v) : MI w l yX9_height cX9_height 3 .int rm_X9_height 0 0 [rf w (some l0)] h v h := by
  refine of_body [(0, rf w (some l0))] (by decide) (by simp [lg_sl, rf_cat, cat_i, cat_l, cat_a]) (by simp [lv_args, rf_cat, cat_i, cat_l, cat_a]) ?_
  intro x hw_ hnL_ hl_ hc hret hnm hQ
  subst hw_; subst hl_
  have hnl : ∀ i, i < 3 → i < x.nL := fun i h => by rw [hnL_]; exact h
  have hw : wpO (sX9_height F l0 h) (fun r => r = v) := ⟨_, hs, rfl⟩
  unfold sX9_height at hw
  refine R_iconst (v := (0 : Int32)) hc dX9_height_0 kI_0 ?_
  refine R_istore_n (i := 1) (v := (0 : Int32)) hc [(1, .int (0 : Int32)), (0, rf x.w (some l0))] dX9_height_1 rfl (hnl 1 (le_b rfl)) rfl ?_
  refine R_iconst (v := (0 : Int32)) hc dX9_height_2 kI_0 ?_
  refine R_istore_n (i := 2) (v := (0 : Int32)) hc [(2, .int (0 : Int32)), (1, .int (0 : Int32)), (0, rf x.w (some l0))] dX9_height_3 rfl (hnl 2 (le_b rfl)) rfl ?_
  refine R_sub hc [2, 1, 0] rfl ?_
  refine R_loop (P := fun (s : (Int32 × Int32)) => Rn x 0 0 4 [(0, rf x.w (some l0)), (1, .int s.1), (2, .int s.2)] [] h) (fun l1_4 => Rn x 0 0 29 [(1, .int l1_4)] [] h) hw (fun r hw => ?_) (fun X hX s hw => ?_)
  · revert r hw
    intro l1_4 hw
    show Rn x 0 0 29 [(1, .int l1_4)] [] h
    refine R_iload_n (q := 0) (i := 1) (v := l1_4) hc dX9_height_29 rfl rfl ?_
    exact R_ireturnP hc hret rfl hQ hw dX9_height_30
  · obtain ⟨l1_6, l2_7⟩ := s
    show Rn x 0 0 4 [(0, rf x.w (some l0)), (1, .int l1_6), (2, .int l2_7)] [] h
    have hw : wpO (sX9_height_L4 F l0 l1_6 l2_7 h) _ := hw
    unfold sX9_height_L4 at hw
    refine R_iload_n (q := 2) (i := 2) (v := l2_7) hc dX9_height_4 rfl rfl ?_
    refine R_bipush (v := (12 : Int32)) hc dX9_height_5 kB_12 ?_
    refine R_icmp_ge (tgt := 29) hc dX9_height_7 (by decide) hw (fun hw => ?_) (fun hw => ?_)
    · refine R_sub hc [1] rfl ?_
      exact (wpO_some hw :)
    · refine R_iload_n (q := 1) (i := 1) (v := l1_6) hc dX9_height_10 rfl rfl ?_
      refine R_aload_n (q := 0) (i := 0) (v := (some l0)) hc dX9_height_11 rfl rfl ?_
      refine R_getR hc fl_9_30 dX9_height_12 hw (fun t1 hw => ?_)
      refine R_iload_n (q := 2) (i := 2) (v := l2_7) hc dX9_height_15 rfl rfl ?_
      refine R_iaload hc dX9_height_16 hw (fun t2 hw => ?_)
      refine R_iconst (v := (1 : Int32)) hc dX9_height_17 kI_1 ?_
      refine R_iadd hc dX9_height_18 ?_
      refine R_jmx hc ml_9_88 (le_b rfl) (le_b rfl) ⟨Nat.zero_le _, Nat.zero_le _⟩ dX9_height_19 ?_
      refine R_nmI hw (fun l1_3 hw => ?_)
      refine R_istore_n (i := 1) (v := l1_3) hc [(1, .int l1_3), (0, rf x.w (some l0)), (2, .int l2_7)] dX9_height_22 rfl (hnl 1 (le_b rfl)) rfl ?_
      refine R_iinc (q := 2) (i := 2) (v := l2_7) hc [(2, .int (l2_7 + (1 : Int32))), (1, .int l1_3), (0, rf x.w (some l0))] dX9_height_23 rfl (kC_1 _) (hnl 2 (le_b rfl)) rfl ?_
      refine R_goto (tgt := 4) hc dX9_height_26 (by decide) ?_
      refine R_sub hc [2, 1, 0] rfl ?_
      exact hX (l1_3, l2_7 + (1 : Int32)) (wpO_some hw :)
theorem dX9_totalLength_0 : decode cX9_totalLength 0 = .ok (.iconst 0, 1) := by decide +kernel
theorem dX9_totalLength_1 : decode cX9_totalLength 1 = .ok (.istore_n 1, 1) := by decide +kernel
theorem dX9_totalLength_2 : decode cX9_totalLength 2 = .ok (.iconst 0, 1) := by decide +kernel
theorem dX9_totalLength_3 : decode cX9_totalLength 3 = .ok (.istore_n 2, 1) := by decide +kernel
theorem dX9_totalLength_4 : decode cX9_totalLength 4 = .ok (.iload_n 2, 1) := by decide +kernel
theorem dX9_totalLength_5 : decode cX9_totalLength 5 = .ok (.bipush 12, 2) := by decide +kernel
theorem dX9_totalLength_7 : decode cX9_totalLength 7 = .ok (.if_icmp .ge 25, 3) := by decide +kernel
theorem dX9_totalLength_10 : decode cX9_totalLength 10 = .ok (.iload_n 1, 1) := by decide +kernel
theorem dX9_totalLength_11 : decode cX9_totalLength 11 = .ok (.aload_n 0, 1) := by decide +kernel
theorem dX9_totalLength_12 : decode cX9_totalLength 12 = .ok (.getfield 27, 3) := by decide +kernel
theorem dX9_totalLength_15 : decode cX9_totalLength 15 = .ok (.iload_n 2, 1) := by decide +kernel
theorem dX9_totalLength_16 : decode cX9_totalLength 16 = .ok (.iaload, 1) := by decide +kernel
theorem dX9_totalLength_17 : decode cX9_totalLength 17 = .ok (.aload_n 0, 1) := by decide +kernel
theorem dX9_totalLength_18 : decode cX9_totalLength 18 = .ok (.getfield 24, 3) := by decide +kernel
theorem dX9_totalLength_21 : decode cX9_totalLength 21 = .ok (.iload_n 2, 1) := by decide +kernel
theorem dX9_totalLength_22 : decode cX9_totalLength 22 = .ok (.iaload, 1) := by decide +kernel
theorem dX9_totalLength_23 : decode cX9_totalLength 23 = .ok (.isub, 1) := by decide +kernel
theorem dX9_totalLength_24 : decode cX9_totalLength 24 = .ok (.iadd, 1) := by decide +kernel
theorem dX9_totalLength_25 : decode cX9_totalLength 25 = .ok (.istore_n 1, 1) := by decide +kernel
theorem dX9_totalLength_26 : decode cX9_totalLength 26 = .ok (.iinc 2 1, 3) := by decide +kernel
theorem dX9_totalLength_29 : decode cX9_totalLength 29 = .ok (.goto (-25), 3) := by decide +kernel
theorem dX9_totalLength_32 : decode cX9_totalLength 32 = .ok (.iload_n 1, 1) := by decide +kernel
theorem dX9_totalLength_33 : decode cX9_totalLength 33 = .ok (.ireturn, 1) := by decide +kernel
def sX9_totalLength_L4 (F : Nat) (l0 : Nat) (l1 : Int32) (l2 : Int32) (h : HP) : Option ((Int32 × Int32) ⊕ Int32) :=
  if (12 : Int32) ≤ l2 then
    some (.inr l1)
  else
    (gR h 9 (some l0) 6).bind fun t1 =>
    (aI h 13 t1 l2).bind fun t2 =>
    (gR h 9 (some l0) 5).bind fun t3 =>
    (aI h 13 t3 l2).bind fun t4 =>
    nmI (l1 + (t2 - t4)) fun l1_5 =>
    some (.inl (l1_5, l2 + (1 : Int32)))
def sX9_totalLength (F : Nat) (l0 : Nat) (h : HP) : Option Int32 :=
  (iter (fun s => sX9_totalLength_L4 F l0 s.1 s.2 h) F ((0 : Int32), (0 : Int32))).bind fun l1_6 =>
    some l1_6
abbrev rm_X9_totalLength : Room := { frames := 0, cells := 0, slots := 0, locals := 0 }
set_option maxRecDepth 100000 in
set_option maxHeartbeats 4000000 in
theorem mt_X9_totalLength {w : WD} {l : Launch} {F : Nat} {l0 : Nat} {h : HP} {v : Int32} (hs : sX9_totalLength F l0 h = some v) : MI w l yX9_totalLength cX9_totalLength 3 .int rm_X9_totalLength 0 0 [rf w (some l0)] h v h := by
  refine of_body [(0, rf w (some l0))] (by decide) (by simp [lg_sl, rf_cat, cat_i, cat_l, cat_a]) (by simp [lv_args, rf_cat, cat_i, cat_l, cat_a]) ?_
  intro x hw_ hnL_ hl_ hc hret hnm hQ
  subst hw_; subst hl_
  have hnl : ∀ i, i < 3 → i < x.nL := fun i h => by rw [hnL_]; exact h
  have hw : wpO (sX9_totalLength F l0 h) (fun r => r = v) := ⟨_, hs, rfl⟩
  unfold sX9_totalLength at hw
  refine R_iconst (v := (0 : Int32)) hc dX9_totalLength_0 kI_0 ?_
  refine R_istore_n (i := 1) (v := (0 : Int32)) hc [(1, .int (0 : Int32)), (0, rf x.w (some l0))] dX9_totalLength_1 rfl (hnl 1 (le_b rfl)) rfl ?_
  refine R_iconst (v := (0 : Int32)) hc dX9_totalLength_2 kI_0 ?_
  refine R_istore_n (i := 2) (v := (0 : Int32)) hc [(2, .int (0 : Int32)), (1, .int (0 : Int32)), (0, rf x.w (some l0))] dX9_totalLength_3 rfl (hnl 2 (le_b rfl)) rfl ?_
  refine R_sub hc [2, 1, 0] rfl ?_
  refine R_loop (P := fun (s : (Int32 × Int32)) => Rn x 0 0 4 [(0, rf x.w (some l0)), (1, .int s.1), (2, .int s.2)] [] h) (fun l1_6 => Rn x 0 0 32 [(1, .int l1_6)] [] h) hw (fun r hw => ?_) (fun X hX s hw => ?_)
  · revert r hw
    intro l1_6 hw
    show Rn x 0 0 32 [(1, .int l1_6)] [] h
    refine R_iload_n (q := 0) (i := 1) (v := l1_6) hc dX9_totalLength_32 rfl rfl ?_
    exact R_ireturnP hc hret rfl hQ hw dX9_totalLength_33
  · obtain ⟨l1_8, l2_9⟩ := s
    show Rn x 0 0 4 [(0, rf x.w (some l0)), (1, .int l1_8), (2, .int l2_9)] [] h
    have hw : wpO (sX9_totalLength_L4 F l0 l1_8 l2_9 h) _ := hw
    unfold sX9_totalLength_L4 at hw
    refine R_iload_n (q := 2) (i := 2) (v := l2_9) hc dX9_totalLength_4 rfl rfl ?_
    refine R_bipush (v := (12 : Int32)) hc dX9_totalLength_5 kB_12 ?_
    refine R_icmp_ge (tgt := 32) hc dX9_totalLength_7 (by decide) hw (fun hw => ?_) (fun hw => ?_)
    · refine R_sub hc [1] rfl ?_
      exact (wpO_some hw :)
    · refine R_iload_n (q := 1) (i := 1) (v := l1_8) hc dX9_totalLength_10 rfl rfl ?_
      refine R_aload_n (q := 0) (i := 0) (v := (some l0)) hc dX9_totalLength_11 rfl rfl ?_
      refine R_getR hc fl_9_27 dX9_totalLength_12 hw (fun t1 hw => ?_)
      refine R_iload_n (q := 2) (i := 2) (v := l2_9) hc dX9_totalLength_15 rfl rfl ?_
      refine R_iaload hc dX9_totalLength_16 hw (fun t2 hw => ?_)
      refine R_aload_n (q := 0) (i := 0) (v := (some l0)) hc dX9_totalLength_17 rfl rfl ?_
      refine R_getR hc fl_9_24 dX9_totalLength_18 hw (fun t3 hw => ?_)
      refine R_iload_n (q := 2) (i := 2) (v := l2_9) hc dX9_totalLength_21 rfl rfl ?_
      refine R_iaload hc dX9_totalLength_22 hw (fun t4 hw => ?_)
      refine R_isub hc dX9_totalLength_23 ?_
      refine R_iadd hc dX9_totalLength_24 ?_
      refine R_nmI hw (fun l1_5 hw => ?_)
      refine R_istore_n (i := 1) (v := l1_5) hc [(1, .int l1_5), (0, rf x.w (some l0)), (2, .int l2_9)] dX9_totalLength_25 rfl (hnl 1 (le_b rfl)) rfl ?_
      refine R_iinc (q := 2) (i := 2) (v := l2_9) hc [(2, .int (l2_9 + (1 : Int32))), (1, .int l1_5), (0, rf x.w (some l0))] dX9_totalLength_26 rfl (kC_1 _) (hnl 2 (le_b rfl)) rfl ?_
      refine R_goto (tgt := 4) hc dX9_totalLength_29 (by decide) ?_
      refine R_sub hc [2, 1, 0] rfl ?_
      exact hX (l1_5, l2_9 + (1 : Int32)) (wpO_some hw :)
theorem dX2_isSame_0 : decode cX2_isSame 0 = .ok (.iconst 0, 1) := by decide +kernel
theorem dX2_isSame_1 : decode cX2_isSame 1 = .ok (.istore_n 1, 1) := by decide +kernel
theorem dX2_isSame_2 : decode cX2_isSame 2 = .ok (.iload_n 1, 1) := by decide +kernel
theorem dX2_isSame_3 : decode cX2_isSame 3 = .ok (.aload_n 0, 1) := by decide +kernel
theorem dX2_isSame_4 : decode cX2_isSame 4 = .ok (.getfield 31, 3) := by decide +kernel
theorem dX2_isSame_7 : decode cX2_isSame 7 = .ok (.if_icmp .ge 65, 3) := by decide +kernel
theorem dX2_isSame_10 : decode cX2_isSame 10 = .ok (.aload_n 0, 1) := by decide +kernel
theorem dX2_isSame_11 : decode cX2_isSame 11 = .ok (.getfield 31, 3) := by decide +kernel
theorem dX2_isSame_14 : decode cX2_isSame 14 = .ok (.iconst 1, 1) := by decide +kernel
theorem dX2_isSame_15 : decode cX2_isSame 15 = .ok (.isub, 1) := by decide +kernel
theorem dX2_isSame_16 : decode cX2_isSame 16 = .ok (.iload_n 1, 1) := by decide +kernel
theorem dX2_isSame_17 : decode cX2_isSame 17 = .ok (.isub, 1) := by decide +kernel
theorem dX2_isSame_18 : decode cX2_isSame 18 = .ok (.istore_n 2, 1) := by decide +kernel
theorem dX2_isSame_19 : decode cX2_isSame 19 = .ok (.aload_n 0, 1) := by decide +kernel
theorem dX2_isSame_20 : decode cX2_isSame 20 = .ok (.getfield 9, 3) := by decide +kernel
theorem dX2_isSame_23 : decode cX2_isSame 23 = .ok (.iload_n 1, 1) := by decide +kernel
theorem dX2_isSame_24 : decode cX2_isSame 24 = .ok (.iaload, 1) := by decide +kernel
theorem dX2_isSame_25 : decode cX2_isSame 25 = .ok (.aload_n 0, 1) := by decide +kernel
theorem dX2_isSame_26 : decode cX2_isSame 26 = .ok (.getfield 9, 3) := by decide +kernel
theorem dX2_isSame_29 : decode cX2_isSame 29 = .ok (.iload_n 2, 1) := by decide +kernel
theorem dX2_isSame_30 : decode cX2_isSame 30 = .ok (.iaload, 1) := by decide +kernel
theorem dX2_isSame_31 : decode cX2_isSame 31 = .ok (.if_icmp .ne 33, 3) := by decide +kernel
theorem dX2_isSame_34 : decode cX2_isSame 34 = .ok (.aload_n 0, 1) := by decide +kernel
theorem dX2_isSame_35 : decode cX2_isSame 35 = .ok (.getfield 15, 3) := by decide +kernel
theorem dX2_isSame_38 : decode cX2_isSame 38 = .ok (.iload_n 1, 1) := by decide +kernel
theorem dX2_isSame_39 : decode cX2_isSame 39 = .ok (.iaload, 1) := by decide +kernel
theorem dX2_isSame_40 : decode cX2_isSame 40 = .ok (.aload_n 0, 1) := by decide +kernel
theorem dX2_isSame_41 : decode cX2_isSame 41 = .ok (.getfield 15, 3) := by decide +kernel
theorem dX2_isSame_44 : decode cX2_isSame 44 = .ok (.iload_n 2, 1) := by decide +kernel
theorem dX2_isSame_45 : decode cX2_isSame 45 = .ok (.iaload, 1) := by decide +kernel
theorem dX2_isSame_46 : decode cX2_isSame 46 = .ok (.if_icmp .ne 18, 3) := by decide +kernel
theorem dX2_isSame_49 : decode cX2_isSame 49 = .ok (.aload_n 0, 1) := by decide +kernel
theorem dX2_isSame_50 : decode cX2_isSame 50 = .ok (.getfield 18, 3) := by decide +kernel
theorem dX2_isSame_53 : decode cX2_isSame 53 = .ok (.iload_n 1, 1) := by decide +kernel
theorem dX2_isSame_54 : decode cX2_isSame 54 = .ok (.iaload, 1) := by decide +kernel
theorem dX2_isSame_55 : decode cX2_isSame 55 = .ok (.aload_n 0, 1) := by decide +kernel
theorem dX2_isSame_56 : decode cX2_isSame 56 = .ok (.getfield 18, 3) := by decide +kernel
theorem dX2_isSame_59 : decode cX2_isSame 59 = .ok (.iload_n 2, 1) := by decide +kernel
theorem dX2_isSame_60 : decode cX2_isSame 60 = .ok (.iaload, 1) := by decide +kernel
theorem dX2_isSame_61 : decode cX2_isSame 61 = .ok (.if_icmp .eq 5, 3) := by decide +kernel
theorem dX2_isSame_64 : decode cX2_isSame 64 = .ok (.iconst 0, 1) := by decide +kernel
theorem dX2_isSame_65 : decode cX2_isSame 65 = .ok (.ireturn, 1) := by decide +kernel
theorem dX2_isSame_66 : decode cX2_isSame 66 = .ok (.iinc 1 1, 3) := by decide +kernel
theorem dX2_isSame_69 : decode cX2_isSame 69 = .ok (.goto (-67), 3) := by decide +kernel
theorem dX2_isSame_72 : decode cX2_isSame 72 = .ok (.iconst 1, 1) := by decide +kernel
theorem dX2_isSame_73 : decode cX2_isSame 73 = .ok (.ireturn, 1) := by decide +kernel
def sX2_isSame_L2 (F : Nat) (l0 : Nat) (l1 : Int32) (h : HP) : Option (Int32 ⊕ (Unit ⊕ Int32)) :=
  (gI h 2 (some l0) 2).bind fun t1 =>
  if t1 ≤ l1 then
    some (.inr (.inl ()))
  else
    (gI h 2 (some l0) 2).bind fun t2 =>
    nmI ((t2 - (1 : Int32)) - l1) fun l2_3 =>
    (gR h 2 (some l0) 3).bind fun t4 =>
    (aI h 13 t4 l1).bind fun t5 =>
    (gR h 2 (some l0) 3).bind fun t6 =>
    (aI h 13 t6 l2_3).bind fun t7 =>
    if ¬ t5 = t7 then
      some (.inr (.inr (0 : Int32)))
    else
      (gR h 2 (some l0) 4).bind fun t8 =>
      (aI h 13 t8 l1).bind fun t9 =>
      (gR h 2 (some l0) 4).bind fun t10 =>
      (aI h 13 t10 l2_3).bind fun t11 =>
      if ¬ t9 = t11 then
        some (.inr (.inr (0 : Int32)))
      else
        (gR h 2 (some l0) 5).bind fun t12 =>
        (aI h 13 t12 l1).bind fun t13 =>
        (gR h 2 (some l0) 5).bind fun t14 =>
        (aI h 13 t14 l2_3).bind fun t15 =>
        if t13 = t15 then
          some (.inl (l1 + (1 : Int32)))
        else
          some (.inr (.inr (0 : Int32)))
def sX2_isSame (F : Nat) (l0 : Nat) (h : HP) : Option Int32 :=
  (iter (fun s => sX2_isSame_L2 F l0 s h) F (0 : Int32)).bind fun r => match r with
  | .inl _ =>
    some (1 : Int32)
  | .inr u16 => some u16
abbrev rm_X2_isSame : Room := { frames := 0, cells := 0, slots := 0, locals := 0 }
set_option maxRecDepth 100000 in
set_option maxHeartbeats 4000000 in
theorem mt_X2_isSame {w : WD} {l : Launch} {F : Nat} {l0 : Nat} {h : HP} {v : Int32} (hs : sX2_isSame F l0 h = some v) : MI w l yX2_isSame cX2_isSame 3 .boolean rm_X2_isSame 0 0 [rf w (some l0)] h v h := by
  refine of_body [(0, rf w (some l0))] (by decide) (by simp [lg_sl, rf_cat, cat_i, cat_l, cat_a]) (by simp [lv_args, rf_cat, cat_i, cat_l, cat_a]) ?_
  intro x hw_ hnL_ hl_ hc hret hnm hQ
  subst hw_; subst hl_
  have hnl : ∀ i, i < 3 → i < x.nL := fun i h => by rw [hnL_]; exact h
  have hw : wpO (sX2_isSame F l0 h) (fun r => r = v) := ⟨_, hs, rfl⟩
  unfold sX2_isSame at hw
  refine R_iconst (v := (0 : Int32)) hc dX2_isSame_0 kI_0 ?_
  refine R_istore_n (i := 1) (v := (0 : Int32)) hc [(1, .int (0 : Int32)), (0, rf x.w (some l0))] dX2_isSame_1 rfl (hnl 1 (le_b rfl)) rfl ?_
  refine R_sub hc [1, 0] rfl ?_
  refine R_loop (P := fun (s : Int32) => Rn x 0 0 2 [(0, rf x.w (some l0)), (1, .int s)] [] h) (fun r => match r with | .inl _ => Rn x 0 0 72 [] [] h | .inr u => u = v) hw (fun r hw => ?_) (fun X hX s hw => ?_)
  · cases r with
    | inl r =>
      revert hw
      intro hw
      show Rn x 0 0 72 [] [] h
      have hw : wpO (_) _ := hw
      refine R_iconst (v := (1 : Int32)) hc dX2_isSame_72 kI_1 ?_
      exact R_ireturnP hc hret rfl hQ hw dX2_isSame_73
    | inr u => exact (wpO_some hw :)
  · revert s hw
    intro l1_17 hw
    show Rn x 0 0 2 [(0, rf x.w (some l0)), (1, .int l1_17)] [] h
    have hw : wpO (sX2_isSame_L2 F l0 l1_17 h) _ := hw
    unfold sX2_isSame_L2 at hw
    refine R_iload_n (q := 1) (i := 1) (v := l1_17) hc dX2_isSame_2 rfl rfl ?_
    refine R_aload_n (q := 0) (i := 0) (v := (some l0)) hc dX2_isSame_3 rfl rfl ?_
    refine R_getI hc fl_2_31 dX2_isSame_4 hw (fun t1 hw => ?_)
    refine R_icmp_ge (tgt := 72) hc dX2_isSame_7 (by decide) hw (fun hw => ?_) (fun hw => ?_)
    · refine R_sub hc [] rfl ?_
      exact (wpO_some hw :)
    · refine R_aload_n (q := 0) (i := 0) (v := (some l0)) hc dX2_isSame_10 rfl rfl ?_
      refine R_getI hc fl_2_31 dX2_isSame_11 hw (fun t2 hw => ?_)
      refine R_iconst (v := (1 : Int32)) hc dX2_isSame_14 kI_1 ?_
      refine R_isub hc dX2_isSame_15 ?_
      refine R_iload_n (q := 1) (i := 1) (v := l1_17) hc dX2_isSame_16 rfl rfl ?_
      refine R_isub hc dX2_isSame_17 ?_
      refine R_nmI hw (fun l2_3 hw => ?_)
      refine R_istore_n (i := 2) (v := l2_3) hc [(2, .int l2_3), (0, rf x.w (some l0)), (1, .int l1_17)] dX2_isSame_18 rfl (hnl 2 (le_b rfl)) rfl ?_
      refine R_aload_n (q := 1) (i := 0) (v := (some l0)) hc dX2_isSame_19 rfl rfl ?_
      refine R_getR hc fl_2_9 dX2_isSame_20 hw (fun t4 hw => ?_)
      refine R_iload_n (q := 2) (i := 1) (v := l1_17) hc dX2_isSame_23 rfl rfl ?_
      refine R_iaload hc dX2_isSame_24 hw (fun t5 hw => ?_)
      refine R_aload_n (q := 1) (i := 0) (v := (some l0)) hc dX2_isSame_25 rfl rfl ?_
      refine R_getR hc fl_2_9 dX2_isSame_26 hw (fun t6 hw => ?_)
      refine R_iload_n (q := 0) (i := 2) (v := l2_3) hc dX2_isSame_29 rfl rfl ?_
      refine R_iaload hc dX2_isSame_30 hw (fun t7 hw => ?_)
      refine R_icmp_ne (tgt := 64) hc dX2_isSame_31 (by decide) hw (fun hw => ?_) (fun hw => ?_)
      · refine R_iconst (v := (0 : Int32)) hc dX2_isSame_64 kI_0 ?_
        exact R_ireturnP hc hret rfl hQ ⟨_, rfl, (wpO_some hw :)⟩ dX2_isSame_65
      · refine R_aload_n (q := 1) (i := 0) (v := (some l0)) hc dX2_isSame_34 rfl rfl ?_
        refine R_getR hc fl_2_15 dX2_isSame_35 hw (fun t8 hw => ?_)
        refine R_iload_n (q := 2) (i := 1) (v := l1_17) hc dX2_isSame_38 rfl rfl ?_
        refine R_iaload hc dX2_isSame_39 hw (fun t9 hw => ?_)
        refine R_aload_n (q := 1) (i := 0) (v := (some l0)) hc dX2_isSame_40 rfl rfl ?_
        refine R_getR hc fl_2_15 dX2_isSame_41 hw (fun t10 hw => ?_)
        refine R_iload_n (q := 0) (i := 2) (v := l2_3) hc dX2_isSame_44 rfl rfl ?_
        refine R_iaload hc dX2_isSame_45 hw (fun t11 hw => ?_)
        refine R_icmp_ne (tgt := 64) hc dX2_isSame_46 (by decide) hw (fun hw => ?_) (fun hw => ?_)
        · refine R_iconst (v := (0 : Int32)) hc dX2_isSame_64 kI_0 ?_
          exact R_ireturnP hc hret rfl hQ ⟨_, rfl, (wpO_some hw :)⟩ dX2_isSame_65
        · refine R_aload_n (q := 1) (i := 0) (v := (some l0)) hc dX2_isSame_49 rfl rfl ?_
          refine R_getR hc fl_2_18 dX2_isSame_50 hw (fun t12 hw => ?_)
          refine R_iload_n (q := 2) (i := 1) (v := l1_17) hc dX2_isSame_53 rfl rfl ?_
          refine R_iaload hc dX2_isSame_54 hw (fun t13 hw => ?_)
          refine R_aload_n (q := 1) (i := 0) (v := (some l0)) hc dX2_isSame_55 rfl rfl ?_
          refine R_getR hc fl_2_18 dX2_isSame_56 hw (fun t14 hw => ?_)
          refine R_iload_n (q := 0) (i := 2) (v := l2_3) hc dX2_isSame_59 rfl rfl ?_
          refine R_iaload hc dX2_isSame_60 hw (fun t15 hw => ?_)
          refine R_icmp_eq (tgt := 66) hc dX2_isSame_61 (by decide) hw (fun hw => ?_) (fun hw => ?_)
          · refine R_iinc (q := 2) (i := 1) (v := l1_17) hc [(1, .int (l1_17 + (1 : Int32))), (2, .int l2_3), (0, rf x.w (some l0))] dX2_isSame_66 rfl (kC_1 _) (hnl 1 (le_b rfl)) rfl ?_
            refine R_goto (tgt := 2) hc dX2_isSame_69 (by decide) ?_
            refine R_sub hc [2, 0] rfl ?_
            exact hX (l1_17 + (1 : Int32)) (wpO_some hw :)
          · refine R_iconst (v := (0 : Int32)) hc dX2_isSame_64 kI_0 ?_
            exact R_ireturnP hc hret rfl hQ ⟨_, rfl, (wpO_some hw :)⟩ dX2_isSame_65
theorem dX10_least_0 : decode cX10_least 0 = .ok (.aload_n 0, 1) := by decide +kernel
theorem dX10_least_1 : decode cX10_least 1 = .ok (.getfield 75, 3) := by decide +kernel
theorem dX10_least_4 : decode cX10_least 4 = .ok (.getfield 284, 3) := by decide +kernel
theorem dX10_least_7 : decode cX10_least 7 = .ok (.getfield 288, 3) := by decide +kernel
theorem dX10_least_10 : decode cX10_least 10 = .ok (.aload_n 0, 1) := by decide +kernel
theorem dX10_least_11 : decode cX10_least 11 = .ok (.getfield 75, 3) := by decide +kernel
theorem dX10_least_14 : decode cX10_least 14 = .ok (.getfield 125, 3) := by decide +kernel
theorem dX10_least_17 : decode cX10_least 17 = .ok (.invokevirtual 292, 3) := by decide +kernel
theorem dX10_least_20 : decode cX10_least 20 = .ok (.iaload, 1) := by decide +kernel
theorem dX10_least_21 : decode cX10_least 21 = .ok (.ireturn, 1) := by decide +kernel
def sX10_least (F : Nat) (l0 : Nat) (h : HP) : Option Int32 :=
  (gR h 10 (some l0) 12).bind fun t1 =>
  (gR h 4 t1 1).bind fun t2 =>
  (gR h 3 t2 0).bind fun t3 =>
  (gR h 10 (some l0) 12).bind fun t4 =>
  (gR h 4 t4 0).bind fun t5 =>
  (dO h 1 t5).bind fun a6 =>
  (sX1_allFingers F a6 h).bind fun t7 =>
  (aI h 13 t3 t7).bind fun t8 =>
  some t8
abbrev rm_X10_least : Room := { frames := 1, cells := 0, slots := 0, locals := 20 }
set_option maxRecDepth 100000 in
set_option maxHeartbeats 4000000 in
theorem mt_X10_least {w : WD} {l : Launch} {F : Nat} {l0 : Nat} {h : HP} {v : Int32} (hs : sX10_least F l0 h = some v) : MI w l yX10_least cX10_least 1 .int rm_X10_least 0 0 [rf w (some l0)] h v h := by
  refine of_body [(0, rf w (some l0))] (by decide) (by simp [lg_sl, rf_cat, cat_i, cat_l, cat_a]) (by simp [lv_args, rf_cat, cat_i, cat_l, cat_a]) ?_
  intro x hw_ hnL_ hl_ hc hret hnm hQ
  subst hw_; subst hl_
  have hnl : ∀ i, i < 1 → i < x.nL := fun i h => by rw [hnL_]; exact h
  have hw : wpO (sX10_least F l0 h) (fun r => r = v) := ⟨_, hs, rfl⟩
  unfold sX10_least at hw
  refine R_aload_n (q := 0) (i := 0) (v := (some l0)) hc dX10_least_0 rfl rfl ?_
  refine R_getR hc fl_10_75 dX10_least_1 hw (fun t1 hw => ?_)
  refine R_getR hc fl_10_284 dX10_least_4 hw (fun t2 hw => ?_)
  refine R_getR hc fl_10_288 dX10_least_7 hw (fun t3 hw => ?_)
  refine R_aload_n (q := 0) (i := 0) (v := (some l0)) hc dX10_least_10 rfl rfl ?_
  refine R_getR hc fl_10_75 dX10_least_11 hw (fun t4 hw => ?_)
  refine R_getR hc fl_10_125 dX10_least_14 hw (fun t5 hw => ?_)
  refine R_cVI (As := []) (rest := [rf x.w t3]) (r := t5) (ci := 1) hc ml_10_292 mf_X1_allFingers rfl (by decide) ⟨rfl, rfl⟩ ⟨le_b rfl, le_b rfl⟩ ⟨Nat.zero_le _, Nat.zero_le _⟩ (fun a v e => mt_X1_allFingers e) rfl rfl (by simp [rf_cat, cat_i, cat_l, cat_a]) dX10_least_17 hw (fun t7 hw => ?_)
  refine R_iaload hc dX10_least_20 hw (fun t8 hw => ?_)
  exact R_ireturnP hc hret rfl hQ hw dX10_least_21
theorem dX4_total_0 : decode cX4_total 0 = .ok (.aload_n 0, 1) := by decide +kernel
theorem dX4_total_1 : decode cX4_total 1 = .ok (.getfield 25, 3) := by decide +kernel
theorem dX4_total_4 : decode cX4_total 4 = .ok (.aload_n 0, 1) := by decide +kernel
theorem dX4_total_5 : decode cX4_total 5 = .ok (.getfield 12, 3) := by decide +kernel
theorem dX4_total_8 : decode cX4_total 8 = .ok (.invokevirtual 42, 3) := by decide +kernel
theorem dX4_total_11 : decode cX4_total 11 = .ok (.laload, 1) := by decide +kernel
theorem dX4_total_12 : decode cX4_total 12 = .ok (.lreturn, 1) := by decide +kernel
def sX4_total (F : Nat) (l0 : Nat) (h : HP) : Option Int64 :=
  (gR h 4 (some l0) 2).bind fun t1 =>
  (gR h 4 (some l0) 0).bind fun t2 =>
  (dO h 1 t2).bind fun a3 =>
  (sX1_allFingers F a3 h).bind fun t4 =>
  (aJ h t1 t4).bind fun t5 =>
  some t5
abbrev rm_X4_total : Room := { frames := 1, cells := 0, slots := 0, locals := 20 }
set_option maxRecDepth 100000 in
set_option maxHeartbeats 4000000 in
theorem mt_X4_total {w : WD} {l : Launch} {F : Nat} {l0 : Nat} {h : HP} {v : Int64} (hs : sX4_total F l0 h = some v) : MJ w l yX4_total cX4_total 1 rm_X4_total 0 0 [rf w (some l0)] h v h := by
  refine of_body [(0, rf w (some l0))] (by decide) (by simp [lg_sl, rf_cat, cat_i, cat_l, cat_a]) (by simp [lv_args, rf_cat, cat_i, cat_l, cat_a]) ?_
  intro x hw_ hnL_ hl_ hc hret hnm hQ
  subst hw_; subst hl_
  have hnl : ∀ i, i < 1 → i < x.nL := fun i h => by rw [hnL_]; exact h
  have hw : wpO (sX4_total F l0 h) (fun r => r = v) := ⟨_, hs, rfl⟩
  unfold sX4_total at hw
  refine R_aload_n (q := 0) (i := 0) (v := (some l0)) hc dX4_total_0 rfl rfl ?_
  refine R_getR hc fl_4_25 dX4_total_1 hw (fun t1 hw => ?_)
  refine R_aload_n (q := 0) (i := 0) (v := (some l0)) hc dX4_total_4 rfl rfl ?_
  refine R_getR hc fl_4_12 dX4_total_5 hw (fun t2 hw => ?_)
  refine R_cVI (As := []) (rest := [rf x.w t1]) (r := t2) (ci := 1) hc ml_4_42 mf_X1_allFingers rfl (by decide) ⟨rfl, rfl⟩ ⟨le_b rfl, le_b rfl⟩ ⟨Nat.zero_le _, Nat.zero_le _⟩ (fun a v e => mt_X1_allFingers e) rfl rfl (by simp [rf_cat, cat_i, cat_l, cat_a]) dX4_total_8 hw (fun t4 hw => ?_)
  refine R_laload hc dX4_total_11 hw (fun t5 hw => ?_)
  exact R_lreturnP hc hret hQ hw dX4_total_12
theorem dX10_many_0 : decode cX10_many 0 = .ok (.aload_n 0, 1) := by decide +kernel
theorem dX10_many_1 : decode cX10_many 1 = .ok (.getfield 75, 3) := by decide +kernel
theorem dX10_many_4 : decode cX10_many 4 = .ok (.invokevirtual 295, 3) := by decide +kernel
theorem dX10_many_7 : decode cX10_many 7 = .ok (.lreturn, 1) := by decide +kernel
def sX10_many (F : Nat) (l0 : Nat) (h : HP) : Option Int64 :=
  (gR h 10 (some l0) 12).bind fun t1 =>
  (dO h 4 t1).bind fun a2 =>
  (sX4_total F a2 h).bind fun t3 =>
  some t3
abbrev rm_X10_many : Room := { frames := 2, cells := 0, slots := 0, locals := 40 }
set_option maxRecDepth 100000 in
set_option maxHeartbeats 4000000 in
theorem mt_X10_many {w : WD} {l : Launch} {F : Nat} {l0 : Nat} {h : HP} {v : Int64} (hs : sX10_many F l0 h = some v) : MJ w l yX10_many cX10_many 1 rm_X10_many 0 0 [rf w (some l0)] h v h := by
  refine of_body [(0, rf w (some l0))] (by decide) (by simp [lg_sl, rf_cat, cat_i, cat_l, cat_a]) (by simp [lv_args, rf_cat, cat_i, cat_l, cat_a]) ?_
  intro x hw_ hnL_ hl_ hc hret hnm hQ
  subst hw_; subst hl_
  have hnl : ∀ i, i < 1 → i < x.nL := fun i h => by rw [hnL_]; exact h
  have hw : wpO (sX10_many F l0 h) (fun r => r = v) := ⟨_, hs, rfl⟩
  unfold sX10_many at hw
  refine R_aload_n (q := 0) (i := 0) (v := (some l0)) hc dX10_many_0 rfl rfl ?_
  refine R_getR hc fl_10_75 dX10_many_1 hw (fun t1 hw => ?_)
  refine R_cVJ (As := []) (rest := []) (r := t1) (ci := 4) hc ml_10_295 mf_X4_total rfl (by decide) ⟨rfl, rfl⟩ ⟨le_b rfl, le_b rfl⟩ ⟨Nat.zero_le _, Nat.zero_le _⟩ (fun a v e => mt_X4_total e) rfl rfl (Nat.zero_le _) dX10_many_4 hw (fun t3 hw => ?_)
  exact R_lreturnP hc hret hQ hw dX10_many_7
theorem dX3_nexts_0 : decode cX3_nexts 0 = .ok (.aload_n 0, 1) := by decide +kernel
theorem dX3_nexts_1 : decode cX3_nexts 1 = .ok (.getfield 15, 3) := by decide +kernel
theorem dX3_nexts_4 : decode cX3_nexts 4 = .ok (.iload_n 2, 1) := by decide +kernel
theorem dX3_nexts_5 : decode cX3_nexts 5 = .ok (.iaload, 1) := by decide +kernel
theorem dX3_nexts_6 : decode cX3_nexts 6 = .ok (.aload_n 1, 1) := by decide +kernel
theorem dX3_nexts_7 : decode cX3_nexts 7 = .ok (.iload_n 3, 1) := by decide +kernel
theorem dX3_nexts_8 : decode cX3_nexts 8 = .ok (.invokevirtual 51, 3) := by decide +kernel
theorem dX3_nexts_11 : decode cX3_nexts 11 = .ok (.iand, 1) := by decide +kernel
theorem dX3_nexts_12 : decode cX3_nexts 12 = .ok (.istore 4, 2) := by decide +kernel
theorem dX3_nexts_14 : decode cX3_nexts 14 = .ok (.iload 4, 2) := by decide +kernel
theorem dX3_nexts_16 : decode cX3_nexts 16 = .ok (.ifCond .eq 6, 3) := by decide +kernel
theorem dX3_nexts_19 : decode cX3_nexts 19 = .ok (.iload 4, 2) := by decide +kernel
theorem dX3_nexts_21 : decode cX3_nexts 21 = .ok (.ireturn, 1) := by decide +kernel
theorem dX3_nexts_22 : decode cX3_nexts 22 = .ok (.aload_n 0, 1) := by decide +kernel
theorem dX3_nexts_23 : decode cX3_nexts 23 = .ok (.getfield 15, 3) := by decide +kernel
theorem dX3_nexts_26 : decode cX3_nexts 26 = .ok (.iload_n 2, 1) := by decide +kernel
theorem dX3_nexts_27 : decode cX3_nexts 27 = .ok (.iaload, 1) := by decide +kernel
theorem dX3_nexts_28 : decode cX3_nexts 28 = .ok (.aload_n 0, 1) := by decide +kernel
theorem dX3_nexts_29 : decode cX3_nexts 29 = .ok (.getfield 18, 3) := by decide +kernel
theorem dX3_nexts_32 : decode cX3_nexts 32 = .ok (.iload_n 2, 1) := by decide +kernel
theorem dX3_nexts_33 : decode cX3_nexts 33 = .ok (.iaload, 1) := by decide +kernel
theorem dX3_nexts_34 : decode cX3_nexts 34 = .ok (.aload_n 1, 1) := by decide +kernel
theorem dX3_nexts_35 : decode cX3_nexts 35 = .ok (.iload_n 3, 1) := by decide +kernel
theorem dX3_nexts_36 : decode cX3_nexts 36 = .ok (.invokevirtual 51, 3) := by decide +kernel
theorem dX3_nexts_39 : decode cX3_nexts 39 = .ok (.iand, 1) := by decide +kernel
theorem dX3_nexts_40 : decode cX3_nexts 40 = .ok (.ior, 1) := by decide +kernel
theorem dX3_nexts_41 : decode cX3_nexts 41 = .ok (.ireturn, 1) := by decide +kernel
def sX3_nexts (F : Nat) (l0 : Nat) (l1 : Option Nat) (l2 : Int32) (l3 : Int32) (h : HP) : Option Int32 :=
  (gR h 3 (some l0) 1).bind fun t1 =>
  (aI h 13 t1 l2).bind fun t2 =>
  (dO h 1 l1).bind fun a3 =>
  (sX1_joining F a3 l3 h).bind fun t4 =>
  nmI (t2 &&& t4) fun l4_5 =>
  if l4_5 = 0 then
    (gR h 3 (some l0) 1).bind fun t6 =>
    (aI h 13 t6 l2).bind fun t7 =>
    (gR h 3 (some l0) 2).bind fun t8 =>
    (aI h 13 t8 l2).bind fun t9 =>
    (dO h 1 l1).bind fun a10 =>
    (sX1_joining F a10 l3 h).bind fun t11 =>
    some (t7 ||| (t9 &&& t11))
  else
    some l4_5
abbrev rm_X3_nexts : Room := { frames := 1, cells := 0, slots := 0, locals := 21 }
set_option maxRecDepth 100000 in
set_option maxHeartbeats 4000000 in
theorem mt_X3_nexts {w : WD} {l : Launch} {F : Nat} {l0 : Nat} {l1 : Option Nat} {l2 : Int32} {l3 : Int32} {h : HP} {v : Int32} (hs : sX3_nexts F l0 l1 l2 l3 h = some v) : MI w l yX3_nexts cX3_nexts 5 .int rm_X3_nexts 0 0 [rf w (some l0), rf w l1, .int l2, .int l3] h v h := by
  refine of_body [(0, rf w (some l0)), (1, rf w l1), (2, .int l2), (3, .int l3)] (by decide) (by simp [lg_sl, rf_cat, cat_i, cat_l, cat_a]) (by simp [lv_args, rf_cat, cat_i, cat_l, cat_a]) ?_
  intro x hw_ hnL_ hl_ hc hret hnm hQ
  subst hw_; subst hl_
  have hnl : ∀ i, i < 5 → i < x.nL := fun i h => by rw [hnL_]; exact h
  have hw : wpO (sX3_nexts F l0 l1 l2 l3 h) (fun r => r = v) := ⟨_, hs, rfl⟩
  unfold sX3_nexts at hw
  refine R_aload_n (q := 0) (i := 0) (v := (some l0)) hc dX3_nexts_0 rfl rfl ?_
  refine R_getR hc fl_3_15 dX3_nexts_1 hw (fun t1 hw => ?_)
  refine R_iload_n (q := 2) (i := 2) (v := l2) hc dX3_nexts_4 rfl rfl ?_
  refine R_iaload hc dX3_nexts_5 hw (fun t2 hw => ?_)
  refine R_aload_n (q := 1) (i := 1) (v := l1) hc dX3_nexts_6 rfl rfl ?_
  refine R_iload_n (q := 3) (i := 3) (v := l3) hc dX3_nexts_7 rfl rfl ?_
  refine R_cVI (As := [.int l3]) (rest := [.int t2]) (r := l1) (ci := 1) hc ml_3_51 mf_X1_joining rfl (by decide) ⟨rfl, rfl⟩ ⟨le_b rfl, le_b rfl⟩ ⟨Nat.zero_le _, Nat.zero_le _⟩ (fun a v e => mt_X1_joining e) rfl rfl (le_b rfl) dX3_nexts_8 hw (fun t4 hw => ?_)
  refine R_iand hc dX3_nexts_11 ?_
  refine R_nmI hw (fun l4_5 hw => ?_)
  refine R_istore (i := 4) (v := l4_5) hc [(4, .int l4_5), (0, rf x.w (some l0)), (1, rf x.w l1), (2, .int l2), (3, .int l3)] dX3_nexts_12 (hnl 4 (le_b rfl)) rfl ?_
  refine R_iload (q := 0) (i := 4) (v := l4_5) hc dX3_nexts_14 rfl ?_
  refine R_if_eq (tgt := 22) hc dX3_nexts_16 (by decide) hw (fun hw => ?_) (fun hw => ?_)
  · refine R_aload_n (q := 1) (i := 0) (v := (some l0)) hc dX3_nexts_22 rfl rfl ?_
    refine R_getR hc fl_3_15 dX3_nexts_23 hw (fun t6 hw => ?_)
    refine R_iload_n (q := 3) (i := 2) (v := l2) hc dX3_nexts_26 rfl rfl ?_
    refine R_iaload hc dX3_nexts_27 hw (fun t7 hw => ?_)
    refine R_aload_n (q := 1) (i := 0) (v := (some l0)) hc dX3_nexts_28 rfl rfl ?_
    refine R_getR hc fl_3_18 dX3_nexts_29 hw (fun t8 hw => ?_)
    refine R_iload_n (q := 3) (i := 2) (v := l2) hc dX3_nexts_32 rfl rfl ?_
    refine R_iaload hc dX3_nexts_33 hw (fun t9 hw => ?_)
    refine R_aload_n (q := 2) (i := 1) (v := l1) hc dX3_nexts_34 rfl rfl ?_
    refine R_iload_n (q := 4) (i := 3) (v := l3) hc dX3_nexts_35 rfl rfl ?_
    refine R_cVI (As := [.int l3]) (rest := [.int t9, .int t7]) (r := l1) (ci := 1) hc ml_3_51 mf_X1_joining rfl (by decide) ⟨rfl, rfl⟩ ⟨le_b rfl, le_b rfl⟩ ⟨Nat.zero_le _, Nat.zero_le _⟩ (fun a v e => mt_X1_joining e) rfl rfl (le_b rfl) dX3_nexts_36 hw (fun t11 hw => ?_)
    refine R_iand hc dX3_nexts_39 ?_
    refine R_ior hc dX3_nexts_40 ?_
    exact R_ireturnP hc hret rfl hQ hw dX3_nexts_41
  · refine R_iload (q := 0) (i := 4) (v := l4_5) hc dX3_nexts_19 rfl ?_
    exact R_ireturnP hc hret rfl hQ hw dX3_nexts_21
theorem dX4_layInto_0 : decode cX4_layInto 0 = .ok (.aload_n 0, 1) := by decide +kernel
theorem dX4_layInto_1 : decode cX4_layInto 1 = .ok (.getfield 12, 3) := by decide +kernel
theorem dX4_layInto_4 : decode cX4_layInto 4 = .ok (.invokevirtual 42, 3) := by decide +kernel
theorem dX4_layInto_7 : decode cX4_layInto 7 = .ok (.istore 4, 2) := by decide +kernel
theorem dX4_layInto_9 : decode cX4_layInto 9 = .ok (.aload_n 0, 1) := by decide +kernel
theorem dX4_layInto_10 : decode cX4_layInto 10 = .ok (.getfield 21, 3) := by decide +kernel
theorem dX4_layInto_13 : decode cX4_layInto 13 = .ok (.getfield 69, 3) := by decide +kernel
theorem dX4_layInto_16 : decode cX4_layInto 16 = .ok (.iload 4, 2) := by decide +kernel
theorem dX4_layInto_18 : decode cX4_layInto 18 = .ok (.iaload, 1) := by decide +kernel
theorem dX4_layInto_19 : decode cX4_layInto 19 = .ok (.istore 5, 2) := by decide +kernel
theorem dX4_layInto_21 : decode cX4_layInto 21 = .ok (.lload_n 1, 1) := by decide +kernel
theorem dX4_layInto_22 : decode cX4_layInto 22 = .ok (.lstore 6, 2) := by decide +kernel
theorem dX4_layInto_24 : decode cX4_layInto 24 = .ok (.aload_n 3, 1) := by decide +kernel
theorem dX4_layInto_25 : decode cX4_layInto 25 = .ok (.aload_n 0, 1) := by decide +kernel
theorem dX4_layInto_26 : decode cX4_layInto 26 = .ok (.getfield 12, 3) := by decide +kernel
theorem dX4_layInto_29 : decode cX4_layInto 29 = .ok (.getfield 57, 3) := by decide +kernel
theorem dX4_layInto_32 : decode cX4_layInto 32 = .ok (.invokevirtual 110, 3) := by decide +kernel
theorem dX4_layInto_35 : decode cX4_layInto 35 = .ok (.iconst 0, 1) := by decide +kernel
theorem dX4_layInto_36 : decode cX4_layInto 36 = .ok (.istore 8, 2) := by decide +kernel
theorem dX4_layInto_38 : decode cX4_layInto 38 = .ok (.iload 8, 2) := by decide +kernel
theorem dX4_layInto_40 : decode cX4_layInto 40 = .ok (.aload_n 0, 1) := by decide +kernel
theorem dX4_layInto_41 : decode cX4_layInto 41 = .ok (.getfield 12, 3) := by decide +kernel
theorem dX4_layInto_44 : decode cX4_layInto 44 = .ok (.getfield 57, 3) := by decide +kernel
theorem dX4_layInto_47 : decode cX4_layInto 47 = .ok (.if_icmp .ge 123, 3) := by decide +kernel
theorem dX4_layInto_50 : decode cX4_layInto 50 = .ok (.iload 5, 2) := by decide +kernel
theorem dX4_layInto_52 : decode cX4_layInto 52 = .ok (.invokestatic 104, 3) := by decide +kernel
theorem dX4_layInto_55 : decode cX4_layInto 55 = .ok (.istore 9, 2) := by decide +kernel
theorem dX4_layInto_57 : decode cX4_layInto 57 = .ok (.iload 5, 2) := by decide +kernel
theorem dX4_layInto_59 : decode cX4_layInto 59 = .ok (.invokestatic 99, 3) := by decide +kernel
theorem dX4_layInto_62 : decode cX4_layInto 62 = .ok (.istore 10, 2) := by decide +kernel
theorem dX4_layInto_64 : decode cX4_layInto 64 = .ok (.iload 10, 2) := by decide +kernel
theorem dX4_layInto_66 : decode cX4_layInto 66 = .ok (.iconst 1, 1) := by decide +kernel
theorem dX4_layInto_67 : decode cX4_layInto 67 = .ok (.if_icmp .le 60, 3) := by decide +kernel
theorem dX4_layInto_70 : decode cX4_layInto 70 = .ok (.aload_n 0, 1) := by decide +kernel
theorem dX4_layInto_71 : decode cX4_layInto 71 = .ok (.getfield 36, 3) := by decide +kernel
theorem dX4_layInto_74 : decode cX4_layInto 74 = .ok (.iload 4, 2) := by decide +kernel
theorem dX4_layInto_76 : decode cX4_layInto 76 = .ok (.bipush 32, 2) := by decide +kernel
theorem dX4_layInto_78 : decode cX4_layInto 78 = .ok (.imul, 1) := by decide +kernel
theorem dX4_layInto_79 : decode cX4_layInto 79 = .ok (.iload 9, 2) := by decide +kernel
theorem dX4_layInto_81 : decode cX4_layInto 81 = .ok (.iadd, 1) := by decide +kernel
theorem dX4_layInto_82 : decode cX4_layInto 82 = .ok (.iaload, 1) := by decide +kernel
theorem dX4_layInto_83 : decode cX4_layInto 83 = .ok (.istore 11, 2) := by decide +kernel
theorem dX4_layInto_85 : decode cX4_layInto 85 = .ok (.lload 6, 2) := by decide +kernel
theorem dX4_layInto_87 : decode cX4_layInto 87 = .ok (.iload 11, 2) := by decide +kernel
theorem dX4_layInto_89 : decode cX4_layInto 89 = .ok (.i2l, 1) := by decide +kernel
theorem dX4_layInto_90 : decode cX4_layInto 90 = .ok (.lcmp, 1) := by decide +kernel
theorem dX4_layInto_91 : decode cX4_layInto 91 = .ok (.ifCond .ge 6, 3) := by decide +kernel
theorem dX4_layInto_94 : decode cX4_layInto 94 = .ok (.goto 33, 3) := by decide +kernel
theorem dX4_layInto_97 : decode cX4_layInto 97 = .ok (.lload 6, 2) := by decide +kernel
theorem dX4_layInto_99 : decode cX4_layInto 99 = .ok (.iload 11, 2) := by decide +kernel
theorem dX4_layInto_101 : decode cX4_layInto 101 = .ok (.i2l, 1) := by decide +kernel
theorem dX4_layInto_102 : decode cX4_layInto 102 = .ok (.lsub, 1) := by decide +kernel
theorem dX4_layInto_103 : decode cX4_layInto 103 = .ok (.lstore 6, 2) := by decide +kernel
theorem dX4_layInto_105 : decode cX4_layInto 105 = .ok (.iload 5, 2) := by decide +kernel
theorem dX4_layInto_107 : decode cX4_layInto 107 = .ok (.iload 5, 2) := by decide +kernel
theorem dX4_layInto_109 : decode cX4_layInto 109 = .ok (.iconst 1, 1) := by decide +kernel
theorem dX4_layInto_110 : decode cX4_layInto 110 = .ok (.isub, 1) := by decide +kernel
theorem dX4_layInto_111 : decode cX4_layInto 111 = .ok (.iand, 1) := by decide +kernel
theorem dX4_layInto_112 : decode cX4_layInto 112 = .ok (.istore 5, 2) := by decide +kernel
theorem dX4_layInto_114 : decode cX4_layInto 114 = .ok (.iload 5, 2) := by decide +kernel
theorem dX4_layInto_116 : decode cX4_layInto 116 = .ok (.invokestatic 104, 3) := by decide +kernel
theorem dX4_layInto_119 : decode cX4_layInto 119 = .ok (.istore 9, 2) := by decide +kernel
theorem dX4_layInto_121 : decode cX4_layInto 121 = .ok (.iinc 10 (-1), 3) := by decide +kernel
theorem dX4_layInto_124 : decode cX4_layInto 124 = .ok (.goto (-60), 3) := by decide +kernel
theorem dX4_layInto_127 : decode cX4_layInto 127 = .ok (.aload_n 3, 1) := by decide +kernel
theorem dX4_layInto_128 : decode cX4_layInto 128 = .ok (.getfield 115, 3) := by decide +kernel
theorem dX4_layInto_131 : decode cX4_layInto 131 = .ok (.iload 8, 2) := by decide +kernel
theorem dX4_layInto_133 : decode cX4_layInto 133 = .ok (.iload 9, 2) := by decide +kernel
theorem dX4_layInto_135 : decode cX4_layInto 135 = .ok (.iastore, 1) := by decide +kernel
theorem dX4_layInto_136 : decode cX4_layInto 136 = .ok (.iload 4, 2) := by decide +kernel
theorem dX4_layInto_138 : decode cX4_layInto 138 = .ok (.iload 9, 2) := by decide +kernel
theorem dX4_layInto_140 : decode cX4_layInto 140 = .ok (.iconst 4, 1) := by decide +kernel
theorem dX4_layInto_141 : decode cX4_layInto 141 = .ok (.idiv, 1) := by decide +kernel
theorem dX4_layInto_142 : decode cX4_layInto 142 = .ok (.invokestatic 82, 3) := by decide +kernel
theorem dX4_layInto_145 : decode cX4_layInto 145 = .ok (.istore 4, 2) := by decide +kernel
theorem dX4_layInto_147 : decode cX4_layInto 147 = .ok (.aload_n 0, 1) := by decide +kernel
theorem dX4_layInto_148 : decode cX4_layInto 148 = .ok (.getfield 21, 3) := by decide +kernel
theorem dX4_layInto_151 : decode cX4_layInto 151 = .ok (.aload_n 0, 1) := by decide +kernel
theorem dX4_layInto_152 : decode cX4_layInto 152 = .ok (.getfield 12, 3) := by decide +kernel
theorem dX4_layInto_155 : decode cX4_layInto 155 = .ok (.iload 4, 2) := by decide +kernel
theorem dX4_layInto_157 : decode cX4_layInto 157 = .ok (.iload 9, 2) := by decide +kernel
theorem dX4_layInto_159 : decode cX4_layInto 159 = .ok (.invokevirtual 118, 3) := by decide +kernel
theorem dX4_layInto_162 : decode cX4_layInto 162 = .ok (.istore 5, 2) := by decide +kernel
theorem dX4_layInto_164 : decode cX4_layInto 164 = .ok (.iinc 8 1, 3) := by decide +kernel
theorem dX4_layInto_167 : decode cX4_layInto 167 = .ok (.goto (-129), 3) := by decide +kernel
theorem dX4_layInto_170 : decode cX4_layInto 170 = .ok (.return_, 1) := by decide +kernel
def sX4_layInto_L64 (F : Nat) (l0 : Nat) (l3 : Option Nat) (l4 : Int32) (l8 : Int32) (l5 : Int32) (l6 : Int64) (l9 : Int32) (l10 : Int32) (h : HP) : Option ((Int32 × Int64 × Int32 × Int32) ⊕ (Int64 × Int32)) :=
  if l10 ≤ (1 : Int32) then
    some (.inr (l6, l9))
  else
    (gR h 4 (some l0) 5).bind fun t15 =>
    (aI h 13 t15 ((l4 * (32 : Int32)) + l9)).bind fun t16 =>
    if 0 ≤ (lg_cmp l6 t16.toInt64) then
      nmJ (l6 - t16.toInt64) fun l6_17 =>
      nmI (l5 &&& (l5 - (1 : Int32))) fun l5_18 =>
      (sX10_lowestBit F l5_18 h).bind fun t19 =>
      some (.inl (l5_18, l6_17, t19, l10 + (-1 : Int32)))
    else
      some (.inr (l6, l9))
def sX4_layInto_L38 (F : Nat) (l0 : Nat) (l3 : Option Nat) (l4 : Int32) (l5 : Int32) (l6 : Int64) (l8 : Int32) (h : HP) : Option ((Int32 × Int32 × Int64 × Int32 × HP) ⊕ HP) :=
  (gR h 4 (some l0) 0).bind fun t11 =>
  (gI h 1 t11 5).bind fun t12 =>
  if t12 ≤ l8 then
    some (.inr h)
  else
    (sX10_lowestBit F l5 h).bind fun t13 =>
    (sJ6_bitCount_0f7a4 F l5 h).bind fun t14 =>
    (iter (fun s => sX4_layInto_L64 F l0 l3 l4 l8 s.1 s.2.1 s.2.2.1 s.2.2.2 h) F (l5, l6, t13, t14)).bind fun r => match r with
    | (l6_20, l9_21) =>
      (gR h 7 l3 1).bind fun t22 =>
      (sI h t22 l8 l9_21).bind fun h23 =>
      (sX10_without F l4 (l9_21 / (4 : Int32)) h23).bind fun t24 =>
      (gR h23 4 (some l0) 1).bind fun t25 =>
      (gR h23 4 (some l0) 0).bind fun t26 =>
      (dO h23 3 t25).bind fun a27 =>
      (sX3_nexts F a27 t26 t24 l9_21 h23).bind fun t28 =>
      some (.inl (t24, t28, l6_20, l8 + (1 : Int32), h23))
def sX4_layInto (F : Nat) (l0 : Nat) (l1 : Int64) (l3 : Option Nat) (h : HP) : Option HP :=
  (gR h 4 (some l0) 0).bind fun t1 =>
  (dO h 1 t1).bind fun a2 =>
  (sX1_allFingers F a2 h).bind fun t3 =>
  (gR h 4 (some l0) 1).bind fun t4 =>
  (gR h 3 t4 1).bind fun t5 =>
  (aI h 13 t5 t3).bind fun t6 =>
  (gR h 4 (some l0) 0).bind fun t7 =>
  (gI h 1 t7 5).bind fun t8 =>
  (dO h 7 l3).bind fun a9 =>
  (sX7_reset F a9 t8 h).bind fun h10 =>
  (iter (fun s => sX4_layInto_L38 F l0 l3 s.1 s.2.1 s.2.2.1 s.2.2.2.1 s.2.2.2.2) F (t3, t6, l1, (0 : Int32), h10)).bind fun h34 =>
    some h34
abbrev rm_X4_layInto : Room := { frames := 2, cells := 0, slots := 0, locals := 45 }
set_option maxRecDepth 100000 in
set_option maxHeartbeats 4000000 in
theorem mt_X4_layInto {w : WD} {l : Launch} {F : Nat} {l0 : Nat} {l1 : Int64} {l3 : Option Nat} {h : HP} {h' : HP} (hs : sX4_layInto F l0 l1 l3 h = some h') : MV w l yX4_layInto cX4_layInto 12 rm_X4_layInto 0 0 [rf w (some l0), .long l1, rf w l3] h h' := by
  refine of_body [(0, rf w (some l0)), (1, .long l1), (3, rf w l3)] (by decide) (by simp [lg_sl, rf_cat, cat_i, cat_l, cat_a]) (by simp [lv_args, rf_cat, cat_i, cat_l, cat_a]) ?_
  intro x hw_ hnL_ hl_ hc hret hnm hQ
  subst hw_; subst hl_
  have hnl : ∀ i, i < 12 → i < x.nL := fun i h => by rw [hnL_]; exact h
  have hw : wpO (sX4_layInto F l0 l1 l3 h) (fun r => r = h') := ⟨_, hs, rfl⟩
  unfold sX4_layInto at hw
  refine R_aload_n (q := 0) (i := 0) (v := (some l0)) hc dX4_layInto_0 rfl rfl ?_
  refine R_getR hc fl_4_12 dX4_layInto_1 hw (fun t1 hw => ?_)
  refine R_cVI (As := []) (rest := []) (r := t1) (ci := 1) hc ml_4_42 mf_X1_allFingers rfl (by decide) ⟨rfl, rfl⟩ ⟨le_b rfl, le_b rfl⟩ ⟨Nat.zero_le _, Nat.zero_le _⟩ (fun a v e => mt_X1_allFingers e) rfl rfl (Nat.zero_le _) dX4_layInto_4 hw (fun t3 hw => ?_)
  refine R_istore (i := 4) (v := t3) hc [(4, .int t3), (0, rf x.w (some l0)), (1, .long l1), (3, rf x.w l3)] dX4_layInto_7 (hnl 4 (le_b rfl)) (by simp [rf_cat]) ?_
  refine R_aload_n (q := 1) (i := 0) (v := (some l0)) hc dX4_layInto_9 rfl rfl ?_
  refine R_getR hc fl_4_21 dX4_layInto_10 hw (fun t4 hw => ?_)
  refine R_getR hc fl_4_69 dX4_layInto_13 hw (fun t5 hw => ?_)
  refine R_iload (q := 0) (i := 4) (v := t3) hc dX4_layInto_16 rfl ?_
  refine R_iaload hc dX4_layInto_18 hw (fun t6 hw => ?_)
  refine R_istore (i := 5) (v := t6) hc [(5, .int t6), (4, .int t3), (0, rf x.w (some l0)), (1, .long l1), (3, rf x.w l3)] dX4_layInto_19 (hnl 5 (le_b rfl)) rfl ?_
  refine R_lload_n (q := 3) (i := 1) (v := l1) hc dX4_layInto_21 rfl rfl ?_
  refine R_lstore (i := 6) (v := l1) hc [(6, .long l1), (5, .int t6), (4, .int t3), (0, rf x.w (some l0)), (1, .long l1), (3, rf x.w l3)] dX4_layInto_22 (hnl 7 (le_b rfl)) rfl ?_
  refine R_aload_n (q := 5) (i := 3) (v := l3) hc dX4_layInto_24 rfl rfl ?_
  refine R_aload_n (q := 3) (i := 0) (v := (some l0)) hc dX4_layInto_25 rfl rfl ?_
  refine R_getR hc fl_4_12 dX4_layInto_26 hw (fun t7 hw => ?_)
  refine R_getI hc fl_4_57 dX4_layInto_29 hw (fun t8 hw => ?_)
  refine R_cVVi (As := [.int t8]) (rest := []) (r := l3) (ci := 7) hc ml_4_110 mf_X7_reset rfl (by decide) ⟨rfl, rfl⟩ ⟨le_b rfl, le_b rfl⟩ ⟨Nat.zero_le _, Nat.zero_le _⟩ (fun a h' e => mt_X7_reset e) rfl rfl (Nat.zero_le _) dX4_layInto_32 hw (fun h10 hw => ?_)
  refine R_iconst (v := (0 : Int32)) hc dX4_layInto_35 kI_0 ?_
  refine R_istore (i := 8) (v := (0 : Int32)) hc [(8, .int (0 : Int32)), (6, .long l1), (5, .int t6), (4, .int t3), (0, rf x.w (some l0)), (1, .long l1), (3, rf x.w l3)] dX4_layInto_36 (hnl 8 (le_b rfl)) rfl ?_
  refine R_sub hc [4, 6, 3, 2, 1, 0] rfl ?_
  refine R_loop (P := fun (s : (Int32 × Int32 × Int64 × Int32 × HP)) => Rn x 0 0 38 [(0, rf x.w (some l0)), (3, rf x.w l3), (4, .int s.1), (5, .int s.2.1), (6, .long s.2.2.1), (8, .int s.2.2.2.1)] [] s.2.2.2.2) (fun h34 => Rn x 0 0 170 [] [] h34) hw (fun r hw => ?_) (fun X hX s hw => ?_)
  · revert r hw
    intro h34 hw
    show Rn x 0 0 170 [] [] h34
    exact R_return hc hret hQ hw dX4_layInto_170
  · obtain ⟨l4_36, l5_37, l6_38, l8_39, h40⟩ := s
    show Rn x 0 0 38 [(0, rf x.w (some l0)), (3, rf x.w l3), (4, .int l4_36), (5, .int l5_37), (6, .long l6_38), (8, .int l8_39)] [] h40
    have hw : wpO (sX4_layInto_L38 F l0 l3 l4_36 l5_37 l6_38 l8_39 h40) _ := hw
    unfold sX4_layInto_L38 at hw
    refine R_iload (q := 5) (i := 8) (v := l8_39) hc dX4_layInto_38 rfl ?_
    refine R_aload_n (q := 0) (i := 0) (v := (some l0)) hc dX4_layInto_40 rfl rfl ?_
    refine R_getR hc fl_4_12 dX4_layInto_41 hw (fun t11 hw => ?_)
    refine R_getI hc fl_4_57 dX4_layInto_44 hw (fun t12 hw => ?_)
    refine R_icmp_ge (tgt := 170) hc dX4_layInto_47 (by decide) hw (fun hw => ?_) (fun hw => ?_)
    · refine R_sub hc [] rfl ?_
      exact (wpO_some hw :)
    · refine R_iload (q := 3) (i := 5) (v := l5_37) hc dX4_layInto_50 rfl ?_
      refine R_cNI (As := [.int l5_37]) (rest := []) hc mn_4_104 mf_X10_lowestBit ⟨rfl, rfl⟩ ⟨le_b rfl, le_b rfl⟩ ⟨Nat.zero_le _, Nat.zero_le _⟩ (fun v e => mt_X10_lowestBit e) rfl rfl (Nat.zero_le _) dX4_layInto_52 hw (fun t13 hw => ?_)
      refine R_istore (i := 9) (v := t13) hc [(9, .int t13), (0, rf x.w (some l0)), (3, rf x.w l3), (4, .int l4_36), (5, .int l5_37), (6, .long l6_38), (8, .int l8_39)] dX4_layInto_55 (hnl 9 (le_b rfl)) rfl ?_
      refine R_iload (q := 4) (i := 5) (v := l5_37) hc dX4_layInto_57 rfl ?_
      refine R_cSI (As := [.int l5_37]) (rest := []) hc ml_4_99 mf_J6_bitCount_0f7a4 ⟨rfl, rfl⟩ ⟨le_b rfl, le_b rfl⟩ ⟨Nat.zero_le _, Nat.zero_le _⟩ (fun v e => mt_J6_bitCount_0f7a4 e) rfl rfl (Nat.zero_le _) dX4_layInto_59 hw (fun t14 hw => ?_)
      refine R_istore (i := 10) (v := t14) hc [(10, .int t14), (9, .int t13), (0, rf x.w (some l0)), (3, rf x.w l3), (4, .int l4_36), (5, .int l5_37), (6, .long l6_38), (8, .int l8_39)] dX4_layInto_62 (hnl 10 (le_b rfl)) rfl ?_
      refine R_sub hc [2, 3, 4, 5, 6, 7, 1, 0] rfl ?_
      refine R_loop (P := fun (s : (Int32 × Int64 × Int32 × Int32)) => Rn x 0 0 64 [(0, rf x.w (some l0)), (3, rf x.w l3), (4, .int l4_36), (5, .int s.1), (6, .long s.2.1), (8, .int l8_39), (9, .int s.2.2.1), (10, .int s.2.2.2)] [] h40) (fun r => match r with | (l6_20, l9_21) => Rn x 0 0 127 [(0, rf x.w (some l0)), (3, rf x.w l3), (4, .int l4_36), (6, .long l6_20), (8, .int l8_39), (9, .int l9_21)] [] h40) hw (fun r hw => ?_) (fun X hX s hw => ?_)
      · obtain ⟨l6_20, l9_21⟩ := r
        show Rn x 0 0 127 [(0, rf x.w (some l0)), (3, rf x.w l3), (4, .int l4_36), (6, .long l6_20), (8, .int l8_39), (9, .int l9_21)] [] h40
        refine R_aload_n (q := 1) (i := 3) (v := l3) hc dX4_layInto_127 rfl rfl ?_
        refine R_getR hc fl_4_115 dX4_layInto_128 hw (fun t22 hw => ?_)
        refine R_iload (q := 4) (i := 8) (v := l8_39) hc dX4_layInto_131 rfl ?_
        refine R_iload (q := 5) (i := 9) (v := l9_21) hc dX4_layInto_133 rfl ?_
        refine R_iastore hc dX4_layInto_135 hw (fun h23 hw => ?_)
        refine R_iload (q := 2) (i := 4) (v := l4_36) hc dX4_layInto_136 rfl ?_
        refine R_iload (q := 5) (i := 9) (v := l9_21) hc dX4_layInto_138 rfl ?_
        refine R_iconst (v := (4 : Int32)) hc dX4_layInto_140 kI_4 ?_
        refine R_idivL hc dX4_layInto_141 (by decide) ?_
        refine R_cNI (As := [.int l4_36, .int (l9_21 / (4 : Int32))]) (rest := []) hc mn_4_82 mf_X10_without ⟨rfl, rfl⟩ ⟨le_b rfl, le_b rfl⟩ ⟨Nat.zero_le _, Nat.zero_le _⟩ (fun v e => mt_X10_without e) rfl rfl (Nat.zero_le _) dX4_layInto_142 hw (fun t24 hw => ?_)
        refine R_istore (i := 4) (v := t24) hc [(4, .int t24), (0, rf x.w (some l0)), (3, rf x.w l3), (6, .long l6_20), (8, .int l8_39), (9, .int l9_21)] dX4_layInto_145 (hnl 4 (le_b rfl)) (by simp [rf_cat]) ?_
        refine R_aload_n (q := 1) (i := 0) (v := (some l0)) hc dX4_layInto_147 rfl rfl ?_
        refine R_getR hc fl_4_21 dX4_layInto_148 hw (fun t25 hw => ?_)
        refine R_aload_n (q := 1) (i := 0) (v := (some l0)) hc dX4_layInto_151 rfl rfl ?_
        refine R_getR hc fl_4_12 dX4_layInto_152 hw (fun t26 hw => ?_)
        refine R_iload (q := 0) (i := 4) (v := t24) hc dX4_layInto_155 rfl ?_
        refine R_iload (q := 5) (i := 9) (v := l9_21) hc dX4_layInto_157 rfl ?_
        refine R_cVI (As := [rf x.w t26, .int t24, .int l9_21]) (rest := []) (r := t25) (ci := 3) hc ml_4_118 mf_X3_nexts rfl (by decide) ⟨rfl, rfl⟩ ⟨le_b rfl, le_b rfl⟩ ⟨Nat.zero_le _, Nat.zero_le _⟩ (fun a v e => mt_X3_nexts e) rfl rfl (Nat.zero_le _) dX4_layInto_159 hw (fun t28 hw => ?_)
        refine R_istore (i := 5) (v := t28) hc [(5, .int t28), (4, .int t24), (0, rf x.w (some l0)), (3, rf x.w l3), (6, .long l6_20), (8, .int l8_39), (9, .int l9_21)] dX4_layInto_162 (hnl 5 (le_b rfl)) rfl ?_
        refine R_iinc (q := 5) (i := 8) (v := l8_39) hc [(8, .int (l8_39 + (1 : Int32))), (5, .int t28), (4, .int t24), (0, rf x.w (some l0)), (3, rf x.w l3), (6, .long l6_20), (9, .int l9_21)] dX4_layInto_164 rfl (kC_1 _) (hnl 8 (le_b rfl)) rfl ?_
        refine R_goto (tgt := 38) hc dX4_layInto_167 (by decide) ?_
        refine R_sub hc [3, 4, 2, 1, 5, 0] rfl ?_
        exact hX (t24, t28, l6_20, l8_39 + (1 : Int32), h23) (wpO_some hw :)
      · obtain ⟨l5_30, l6_31, l9_32, l10_33⟩ := s
        show Rn x 0 0 64 [(0, rf x.w (some l0)), (3, rf x.w l3), (4, .int l4_36), (5, .int l5_30), (6, .long l6_31), (8, .int l8_39), (9, .int l9_32), (10, .int l10_33)] [] h40
        have hw : wpO (sX4_layInto_L64 F l0 l3 l4_36 l8_39 l5_30 l6_31 l9_32 l10_33 h40) _ := hw
        unfold sX4_layInto_L64 at hw
        refine R_iload (q := 7) (i := 10) (v := l10_33) hc dX4_layInto_64 rfl ?_
        refine R_iconst (v := (1 : Int32)) hc dX4_layInto_66 kI_1 ?_
        refine R_icmp_le (tgt := 127) hc dX4_layInto_67 (by decide) hw (fun hw => ?_) (fun hw => ?_)
        · refine R_sub hc [0, 1, 2, 4, 5, 6] rfl ?_
          exact (wpO_some hw :)
        · refine R_aload_n (q := 0) (i := 0) (v := (some l0)) hc dX4_layInto_70 rfl rfl ?_
          refine R_getR hc fl_4_36 dX4_layInto_71 hw (fun t15 hw => ?_)
          refine R_iload (q := 2) (i := 4) (v := l4_36) hc dX4_layInto_74 rfl ?_
          refine R_bipush (v := (32 : Int32)) hc dX4_layInto_76 kB_32 ?_
          refine R_imul hc dX4_layInto_78 ?_
          refine R_iload (q := 6) (i := 9) (v := l9_32) hc dX4_layInto_79 rfl ?_
          refine R_iadd hc dX4_layInto_81 ?_
          refine R_iaload hc dX4_layInto_82 hw (fun t16 hw => ?_)
          refine R_istore (i := 11) (v := t16) hc [(11, .int t16), (0, rf x.w (some l0)), (3, rf x.w l3), (4, .int l4_36), (5, .int l5_30), (6, .long l6_31), (8, .int l8_39), (9, .int l9_32), (10, .int l10_33)] dX4_layInto_83 (hnl 11 (le_b rfl)) rfl ?_
          refine R_lload (q := 5) (i := 6) (v := l6_31) hc dX4_layInto_85 rfl ?_
          refine R_iload (q := 0) (i := 11) (v := t16) hc dX4_layInto_87 rfl ?_
          refine R_i2l hc dX4_layInto_89 ?_
          refine R_lcmp hc dX4_layInto_90 ?_
          refine R_if_ge (tgt := 97) hc dX4_layInto_91 (by decide) hw (fun hw => ?_) (fun hw => ?_)
          · refine R_lload (q := 5) (i := 6) (v := l6_31) hc dX4_layInto_97 rfl ?_
            refine R_iload (q := 0) (i := 11) (v := t16) hc dX4_layInto_99 rfl ?_
            refine R_i2l hc dX4_layInto_101 ?_
            refine R_lsub hc dX4_layInto_102 ?_
            refine R_nmJ hw (fun l6_17 hw => ?_)
            refine R_lstore (i := 6) (v := l6_17) hc [(6, .long l6_17), (11, .int t16), (0, rf x.w (some l0)), (3, rf x.w l3), (4, .int l4_36), (5, .int l5_30), (8, .int l8_39), (9, .int l9_32), (10, .int l10_33)] dX4_layInto_103 (hnl 7 (le_b rfl)) rfl ?_
            refine R_iload (q := 5) (i := 5) (v := l5_30) hc dX4_layInto_105 rfl ?_
            refine R_iload (q := 5) (i := 5) (v := l5_30) hc dX4_layInto_107 rfl ?_
            refine R_iconst (v := (1 : Int32)) hc dX4_layInto_109 kI_1 ?_
            refine R_isub hc dX4_layInto_110 ?_
            refine R_iand hc dX4_layInto_111 ?_
            refine R_nmI hw (fun l5_18 hw => ?_)
            refine R_istore (i := 5) (v := l5_18) hc [(5, .int l5_18), (6, .long l6_17), (11, .int t16), (0, rf x.w (some l0)), (3, rf x.w l3), (4, .int l4_36), (8, .int l8_39), (9, .int l9_32), (10, .int l10_33)] dX4_layInto_112 (hnl 5 (le_b rfl)) rfl ?_
            refine R_iload (q := 0) (i := 5) (v := l5_18) hc dX4_layInto_114 rfl ?_
            refine R_cNI (As := [.int l5_18]) (rest := []) hc mn_4_104 mf_X10_lowestBit ⟨rfl, rfl⟩ ⟨le_b rfl, le_b rfl⟩ ⟨Nat.zero_le _, Nat.zero_le _⟩ (fun v e => mt_X10_lowestBit e) rfl rfl (Nat.zero_le _) dX4_layInto_116 hw (fun t19 hw => ?_)
            refine R_istore (i := 9) (v := t19) hc [(9, .int t19), (5, .int l5_18), (6, .long l6_17), (11, .int t16), (0, rf x.w (some l0)), (3, rf x.w l3), (4, .int l4_36), (8, .int l8_39), (10, .int l10_33)] dX4_layInto_119 (hnl 9 (le_b rfl)) rfl ?_
            refine R_iinc (q := 8) (i := 10) (v := l10_33) hc [(10, .int (l10_33 + (-1 : Int32))), (9, .int t19), (5, .int l5_18), (6, .long l6_17), (11, .int t16), (0, rf x.w (some l0)), (3, rf x.w l3), (4, .int l4_36), (8, .int l8_39)] dX4_layInto_121 rfl (kC_m1 _) (hnl 10 (le_b rfl)) rfl ?_
            refine R_goto (tgt := 64) hc dX4_layInto_124 (by decide) ?_
            refine R_sub hc [5, 6, 7, 2, 3, 8, 1, 0] rfl ?_
            exact hX (l5_18, l6_17, t19, l10_33 + (-1 : Int32)) (wpO_some hw :)
          · refine R_goto (tgt := 127) hc dX4_layInto_94 (by decide) ?_
            refine R_sub hc [1, 2, 3, 5, 6, 7] rfl ?_
            exact (wpO_some hw :)
theorem dX10_calm_0 : decode cX10_calm 0 = .ok (.aload_n 0, 1) := by decide +kernel
theorem dX10_calm_1 : decode cX10_calm 1 = .ok (.getfield 75, 3) := by decide +kernel
theorem dX10_calm_4 : decode cX10_calm 4 = .ok (.getfield 304, 3) := by decide +kernel
theorem dX10_calm_7 : decode cX10_calm 7 = .ok (.aload_n 0, 1) := by decide +kernel
theorem dX10_calm_8 : decode cX10_calm 8 = .ok (.getfield 75, 3) := by decide +kernel
theorem dX10_calm_11 : decode cX10_calm 11 = .ok (.getfield 125, 3) := by decide +kernel
theorem dX10_calm_14 : decode cX10_calm 14 = .ok (.invokevirtual 292, 3) := by decide +kernel
theorem dX10_calm_17 : decode cX10_calm 17 = .ok (.iaload, 1) := by decide +kernel
theorem dX10_calm_18 : decode cX10_calm 18 = .ok (.ireturn, 1) := by decide +kernel
def sX10_calm (F : Nat) (l0 : Nat) (h : HP) : Option Int32 :=
  (gR h 10 (some l0) 12).bind fun t1 =>
  (gR h 4 t1 3).bind fun t2 =>
  (gR h 10 (some l0) 12).bind fun t3 =>
  (gR h 4 t3 0).bind fun t4 =>
  (dO h 1 t4).bind fun a5 =>
  (sX1_allFingers F a5 h).bind fun t6 =>
  (aI h 13 t2 t6).bind fun t7 =>
  some t7
abbrev rm_X10_calm : Room := { frames := 1, cells := 0, slots := 0, locals := 20 }
set_option maxRecDepth 100000 in
set_option maxHeartbeats 4000000 in
theorem mt_X10_calm {w : WD} {l : Launch} {F : Nat} {l0 : Nat} {h : HP} {v : Int32} (hs : sX10_calm F l0 h = some v) : MI w l yX10_calm cX10_calm 1 .int rm_X10_calm 0 0 [rf w (some l0)] h v h := by
  refine of_body [(0, rf w (some l0))] (by decide) (by simp [lg_sl, rf_cat, cat_i, cat_l, cat_a]) (by simp [lv_args, rf_cat, cat_i, cat_l, cat_a]) ?_
  intro x hw_ hnL_ hl_ hc hret hnm hQ
  subst hw_; subst hl_
  have hnl : ∀ i, i < 1 → i < x.nL := fun i h => by rw [hnL_]; exact h
  have hw : wpO (sX10_calm F l0 h) (fun r => r = v) := ⟨_, hs, rfl⟩
  unfold sX10_calm at hw
  refine R_aload_n (q := 0) (i := 0) (v := (some l0)) hc dX10_calm_0 rfl rfl ?_
  refine R_getR hc fl_10_75 dX10_calm_1 hw (fun t1 hw => ?_)
  refine R_getR hc fl_10_304 dX10_calm_4 hw (fun t2 hw => ?_)
  refine R_aload_n (q := 0) (i := 0) (v := (some l0)) hc dX10_calm_7 rfl rfl ?_
  refine R_getR hc fl_10_75 dX10_calm_8 hw (fun t3 hw => ?_)
  refine R_getR hc fl_10_125 dX10_calm_11 hw (fun t4 hw => ?_)
  refine R_cVI (As := []) (rest := [rf x.w t2]) (r := t4) (ci := 1) hc ml_10_292 mf_X1_allFingers rfl (by decide) ⟨rfl, rfl⟩ ⟨le_b rfl, le_b rfl⟩ ⟨Nat.zero_le _, Nat.zero_le _⟩ (fun a v e => mt_X1_allFingers e) rfl rfl (by simp [rf_cat, cat_i, cat_l, cat_a]) dX10_calm_14 hw (fun t6 hw => ?_)
  refine R_iaload hc dX10_calm_17 hw (fun t7 hw => ?_)
  exact R_ireturnP hc hret rfl hQ hw dX10_calm_18
theorem dX10_isFinger_0 : decode cX10_isFinger 0 = .ok (.iload_n 1, 1) := by decide +kernel
theorem dX10_isFinger_1 : decode cX10_isFinger 1 = .ok (.ifCond .lt 21, 3) := by decide +kernel
theorem dX10_isFinger_4 : decode cX10_isFinger 4 = .ok (.iload_n 1, 1) := by decide +kernel
theorem dX10_isFinger_5 : decode cX10_isFinger 5 = .ok (.aload_n 0, 1) := by decide +kernel
theorem dX10_isFinger_6 : decode cX10_isFinger 6 = .ok (.getfield 75, 3) := by decide +kernel
theorem dX10_isFinger_9 : decode cX10_isFinger 9 = .ok (.getfield 125, 3) := by decide +kernel
theorem dX10_isFinger_12 : decode cX10_isFinger 12 = .ok (.getfield 128, 3) := by decide +kernel
theorem dX10_isFinger_15 : decode cX10_isFinger 15 = .ok (.if_icmp .ge 7, 3) := by decide +kernel
theorem dX10_isFinger_18 : decode cX10_isFinger 18 = .ok (.iconst 1, 1) := by decide +kernel
theorem dX10_isFinger_19 : decode cX10_isFinger 19 = .ok (.goto 4, 3) := by decide +kernel
theorem dX10_isFinger_22 : decode cX10_isFinger 22 = .ok (.iconst 0, 1) := by decide +kernel
theorem dX10_isFinger_23 : decode cX10_isFinger 23 = .ok (.ireturn, 1) := by decide +kernel
def sX10_isFinger (F : Nat) (l0 : Nat) (l1 : Int32) (h : HP) : Option Int32 :=
  if l1 < 0 then
    some (0 : Int32)
  else
    (gR h 10 (some l0) 12).bind fun t1 =>
    (gR h 4 t1 0).bind fun t2 =>
    (gI h 1 t2 5).bind fun t3 =>
    if t3 ≤ l1 then
      some (0 : Int32)
    else
      some (1 : Int32)
abbrev rm_X10_isFinger : Room := { frames := 0, cells := 0, slots := 0, locals := 0 }
set_option maxRecDepth 100000 in
set_option maxHeartbeats 4000000 in
theorem mt_X10_isFinger {w : WD} {l : Launch} {F : Nat} {l0 : Nat} {l1 : Int32} {h : HP} {v : Int32} (hs : sX10_isFinger F l0 l1 h = some v) : MI w l yX10_isFinger cX10_isFinger 2 .boolean rm_X10_isFinger 0 0 [rf w (some l0), .int l1] h v h := by
  refine of_body [(0, rf w (some l0)), (1, .int l1)] (by decide) (by simp [lg_sl, rf_cat, cat_i, cat_l, cat_a]) (by simp [lv_args, rf_cat, cat_i, cat_l, cat_a]) ?_
  intro x hw_ hnL_ hl_ hc hret hnm hQ
  subst hw_; subst hl_
  have hnl : ∀ i, i < 2 → i < x.nL := fun i h => by rw [hnL_]; exact h
  have hw : wpO (sX10_isFinger F l0 l1 h) (fun r => r = v) := ⟨_, hs, rfl⟩
  unfold sX10_isFinger at hw
  refine R_iload_n (q := 1) (i := 1) (v := l1) hc dX10_isFinger_0 rfl rfl ?_
  refine R_if_lt (tgt := 22) hc dX10_isFinger_1 (by decide) hw (fun hw => ?_) (fun hw => ?_)
  · refine R_iconst (v := (0 : Int32)) hc dX10_isFinger_22 kI_0 ?_
    exact R_ireturnP hc hret rfl hQ hw dX10_isFinger_23
  · refine R_iload_n (q := 1) (i := 1) (v := l1) hc dX10_isFinger_4 rfl rfl ?_
    refine R_aload_n (q := 0) (i := 0) (v := (some l0)) hc dX10_isFinger_5 rfl rfl ?_
    refine R_getR hc fl_10_75 dX10_isFinger_6 hw (fun t1 hw => ?_)
    refine R_getR hc fl_10_125 dX10_isFinger_9 hw (fun t2 hw => ?_)
    refine R_getI hc fl_10_128 dX10_isFinger_12 hw (fun t3 hw => ?_)
    refine R_icmp_ge (tgt := 22) hc dX10_isFinger_15 (by decide) hw (fun hw => ?_) (fun hw => ?_)
    · refine R_iconst (v := (0 : Int32)) hc dX10_isFinger_22 kI_0 ?_
      exact R_ireturnP hc hret rfl hQ hw dX10_isFinger_23
    · refine R_iconst (v := (1 : Int32)) hc dX10_isFinger_18 kI_1 ?_
      refine R_goto (tgt := 23) hc dX10_isFinger_19 (by decide) ?_
      exact R_ireturnP hc hret rfl hQ hw dX10_isFinger_23
theorem dX4_fewestBetween_0 : decode cX4_fewestBetween 0 = .ok (.iload_n 1, 1) := by decide +kernel
theorem dX4_fewestBetween_1 : decode cX4_fewestBetween 1 = .ok (.iload_n 2, 1) := by decide +kernel
theorem dX4_fewestBetween_2 : decode cX4_fewestBetween 2 = .ok (.if_icmp .ne 20, 3) := by decide +kernel
theorem dX4_fewestBetween_5 : decode cX4_fewestBetween 5 = .ok (.aload_n 0, 1) := by decide +kernel
theorem dX4_fewestBetween_6 : decode cX4_fewestBetween 6 = .ok (.getfield 12, 3) := by decide +kernel
theorem dX4_fewestBetween_9 : decode cX4_fewestBetween 9 = .ok (.getfield 57, 3) := by decide +kernel
theorem dX4_fewestBetween_12 : decode cX4_fewestBetween 12 = .ok (.iconst 1, 1) := by decide +kernel
theorem dX4_fewestBetween_13 : decode cX4_fewestBetween 13 = .ok (.if_icmp .ne 7, 3) := by decide +kernel
theorem dX4_fewestBetween_16 : decode cX4_fewestBetween 16 = .ok (.iconst 0, 1) := by decide +kernel
theorem dX4_fewestBetween_17 : decode cX4_fewestBetween 17 = .ok (.goto 4, 3) := by decide +kernel
theorem dX4_fewestBetween_20 : decode cX4_fewestBetween 20 = .ok (.iconst (-1), 1) := by decide +kernel
theorem dX4_fewestBetween_21 : decode cX4_fewestBetween 21 = .ok (.ireturn, 1) := by decide +kernel
theorem dX4_fewestBetween_22 : decode cX4_fewestBetween 22 = .ok (.aload_n 0, 1) := by decide +kernel
theorem dX4_fewestBetween_23 : decode cX4_fewestBetween 23 = .ok (.getfield 33, 3) := by decide +kernel
theorem dX4_fewestBetween_26 : decode cX4_fewestBetween 26 = .ok (.aload_n 0, 1) := by decide +kernel
theorem dX4_fewestBetween_27 : decode cX4_fewestBetween 27 = .ok (.getfield 12, 3) := by decide +kernel
theorem dX4_fewestBetween_30 : decode cX4_fewestBetween 30 = .ok (.iload_n 2, 1) := by decide +kernel
theorem dX4_fewestBetween_31 : decode cX4_fewestBetween 31 = .ok (.invokevirtual 49, 3) := by decide +kernel
theorem dX4_fewestBetween_34 : decode cX4_fewestBetween 34 = .ok (.sipush 1000, 3) := by decide +kernel
theorem dX4_fewestBetween_37 : decode cX4_fewestBetween 37 = .ok (.istore_n 3, 1) := by decide +kernel
theorem dX4_fewestBetween_38 : decode cX4_fewestBetween 38 = .ok (.iconst 0, 1) := by decide +kernel
theorem dX4_fewestBetween_39 : decode cX4_fewestBetween 39 = .ok (.istore 4, 2) := by decide +kernel
theorem dX4_fewestBetween_41 : decode cX4_fewestBetween 41 = .ok (.iload 4, 2) := by decide +kernel
theorem dX4_fewestBetween_43 : decode cX4_fewestBetween 43 = .ok (.iconst 4, 1) := by decide +kernel
theorem dX4_fewestBetween_44 : decode cX4_fewestBetween 44 = .ok (.if_icmp .ge 38, 3) := by decide +kernel
theorem dX4_fewestBetween_47 : decode cX4_fewestBetween 47 = .ok (.iload_n 3, 1) := by decide +kernel
theorem dX4_fewestBetween_48 : decode cX4_fewestBetween 48 = .ok (.aload_n 0, 1) := by decide +kernel
theorem dX4_fewestBetween_49 : decode cX4_fewestBetween 49 = .ok (.getfield 33, 3) := by decide +kernel
theorem dX4_fewestBetween_52 : decode cX4_fewestBetween 52 = .ok (.aload_n 0, 1) := by decide +kernel
theorem dX4_fewestBetween_53 : decode cX4_fewestBetween 53 = .ok (.getfield 12, 3) := by decide +kernel
theorem dX4_fewestBetween_56 : decode cX4_fewestBetween 56 = .ok (.aload_n 0, 1) := by decide +kernel
theorem dX4_fewestBetween_57 : decode cX4_fewestBetween 57 = .ok (.getfield 12, 3) := by decide +kernel
theorem dX4_fewestBetween_60 : decode cX4_fewestBetween 60 = .ok (.invokevirtual 42, 3) := by decide +kernel
theorem dX4_fewestBetween_63 : decode cX4_fewestBetween 63 = .ok (.iload_n 1, 1) := by decide +kernel
theorem dX4_fewestBetween_64 : decode cX4_fewestBetween 64 = .ok (.iconst 4, 1) := by decide +kernel
theorem dX4_fewestBetween_65 : decode cX4_fewestBetween 65 = .ok (.imul, 1) := by decide +kernel
theorem dX4_fewestBetween_66 : decode cX4_fewestBetween 66 = .ok (.iload 4, 2) := by decide +kernel
theorem dX4_fewestBetween_68 : decode cX4_fewestBetween 68 = .ok (.iadd, 1) := by decide +kernel
theorem dX4_fewestBetween_69 : decode cX4_fewestBetween 69 = .ok (.invokevirtual 122, 3) := by decide +kernel
theorem dX4_fewestBetween_72 : decode cX4_fewestBetween 72 = .ok (.invokestatic 76, 3) := by decide +kernel
theorem dX4_fewestBetween_75 : decode cX4_fewestBetween 75 = .ok (.istore_n 3, 1) := by decide +kernel
theorem dX4_fewestBetween_76 : decode cX4_fewestBetween 76 = .ok (.iinc 4 1, 3) := by decide +kernel
theorem dX4_fewestBetween_79 : decode cX4_fewestBetween 79 = .ok (.goto (-38), 3) := by decide +kernel
theorem dX4_fewestBetween_82 : decode cX4_fewestBetween 82 = .ok (.iload_n 3, 1) := by decide +kernel
theorem dX4_fewestBetween_83 : decode cX4_fewestBetween 83 = .ok (.ireturn, 1) := by decide +kernel
def sX4_fewestBetween_L41 (F : Nat) (l0 : Nat) (l1 : Int32) (l3 : Int32) (l4 : Int32) (h : HP) : Option ((Int32 × Int32) ⊕ Int32) :=
  if (4 : Int32) ≤ l4 then
    some (.inr l3)
  else
    (gR h 4 (some l0) 4).bind fun t5 =>
    (gR h 4 (some l0) 0).bind fun t6 =>
    (gR h 4 (some l0) 0).bind fun t7 =>
    (dO h 1 t7).bind fun a8 =>
    (sX1_allFingers F a8 h).bind fun t9 =>
    (dO h 3 t5).bind fun a10 =>
    (sX3_gapsFrom F a10 t6 t9 ((l1 * (4 : Int32)) + l4) h).bind fun t11 =>
    nmI (jmn l3 t11) fun l3_12 =>
    some (.inl (l3_12, l4 + (1 : Int32)))
def sX4_fewestBetween (F : Nat) (l0 : Nat) (l1 : Int32) (l2 : Int32) (h : HP) : Option (Int32 × HP) :=
  if ¬ l1 = l2 then
    (gR h 4 (some l0) 4).bind fun t1 =>
    (gR h 4 (some l0) 0).bind fun t2 =>
    (dO h 3 t1).bind fun a3 =>
    (sX3_fill F a3 t2 l2 h).bind fun h4 =>
    (iter (fun s => sX4_fewestBetween_L41 F l0 l1 s.1 s.2 h4) F ((1000 : Int32), (0 : Int32))).bind fun l3_13 =>
      some (l3_13, h4)
  else
    (gR h 4 (some l0) 0).bind fun t17 =>
    (gI h 1 t17 5).bind fun t18 =>
    if ¬ t18 = (1 : Int32) then
      some ((-1 : Int32), h)
    else
      some ((0 : Int32), h)
abbrev rm_X4_fewestBetween : Room := { frames := 4, cells := 0, slots := 0, locals := 98 }
set_option maxRecDepth 100000 in
set_option maxHeartbeats 4000000 in
theorem mt_X4_fewestBetween {w : WD} {l : Launch} {F : Nat} {l0 : Nat} {l1 : Int32} {l2 : Int32} {h : HP} {v : Int32} {h' : HP} (hs : sX4_fewestBetween F l0 l1 l2 h = some (v, h')) : MI w l yX4_fewestBetween cX4_fewestBetween 5 .int rm_X4_fewestBetween 0 0 [rf w (some l0), .int l1, .int l2] h v h' := by
  refine of_body [(0, rf w (some l0)), (1, .int l1), (2, .int l2)] (by decide) (by simp [lg_sl, rf_cat, cat_i, cat_l, cat_a]) (by simp [lv_args, rf_cat, cat_i, cat_l, cat_a]) ?_
  intro x hw_ hnL_ hl_ hc hret hnm hQ
  subst hw_; subst hl_
  have hnl : ∀ i, i < 5 → i < x.nL := fun i h => by rw [hnL_]; exact h
  have hw : wpO (sX4_fewestBetween F l0 l1 l2 h) (fun r => r = (v, h')) := ⟨_, hs, rfl⟩
  unfold sX4_fewestBetween at hw
  refine R_iload_n (q := 1) (i := 1) (v := l1) hc dX4_fewestBetween_0 rfl rfl ?_
  refine R_iload_n (q := 2) (i := 2) (v := l2) hc dX4_fewestBetween_1 rfl rfl ?_
  refine R_icmp_ne (tgt := 22) hc dX4_fewestBetween_2 (by decide) hw (fun hw => ?_) (fun hw => ?_)
  · refine R_aload_n (q := 0) (i := 0) (v := (some l0)) hc dX4_fewestBetween_22 rfl rfl ?_
    refine R_getR hc fl_4_33 dX4_fewestBetween_23 hw (fun t1 hw => ?_)
    refine R_aload_n (q := 0) (i := 0) (v := (some l0)) hc dX4_fewestBetween_26 rfl rfl ?_
    refine R_getR hc fl_4_12 dX4_fewestBetween_27 hw (fun t2 hw => ?_)
    refine R_iload_n (q := 2) (i := 2) (v := l2) hc dX4_fewestBetween_30 rfl rfl ?_
    refine R_cVVi (As := [rf x.w t2, .int l2]) (rest := []) (r := t1) (ci := 3) hc ml_4_49 mf_X3_fill rfl (by decide) ⟨rfl, rfl⟩ ⟨le_b rfl, le_b rfl⟩ ⟨Nat.zero_le _, Nat.zero_le _⟩ (fun a h' e => mt_X3_fill e) rfl rfl (Nat.zero_le _) dX4_fewestBetween_31 hw (fun h4 hw => ?_)
    refine R_sipush (v := (1000 : Int32)) hc dX4_fewestBetween_34 kS_1000 ?_
    refine R_istore_n (i := 3) (v := (1000 : Int32)) hc [(3, .int (1000 : Int32)), (0, rf x.w (some l0)), (1, .int l1), (2, .int l2)] dX4_fewestBetween_37 rfl (hnl 3 (le_b rfl)) rfl ?_
    refine R_iconst (v := (0 : Int32)) hc dX4_fewestBetween_38 kI_0 ?_
    refine R_istore (i := 4) (v := (0 : Int32)) hc [(4, .int (0 : Int32)), (3, .int (1000 : Int32)), (0, rf x.w (some l0)), (1, .int l1), (2, .int l2)] dX4_fewestBetween_39 (hnl 4 (le_b rfl)) rfl ?_
    refine R_sub hc [2, 3, 1, 0] rfl ?_
    refine R_loop (P := fun (s : (Int32 × Int32)) => Rn x 0 0 41 [(0, rf x.w (some l0)), (1, .int l1), (3, .int s.1), (4, .int s.2)] [] h4) (fun l3_13 => Rn x 0 0 82 [(3, .int l3_13)] [] h4) hw (fun r hw => ?_) (fun X hX s hw => ?_)
    · revert r hw
      intro l3_13 hw
      show Rn x 0 0 82 [(3, .int l3_13)] [] h4
      refine R_iload_n (q := 0) (i := 3) (v := l3_13) hc dX4_fewestBetween_82 rfl rfl ?_
      exact R_ireturn hc hret rfl hQ hw dX4_fewestBetween_83
    · obtain ⟨l3_15, l4_16⟩ := s
      show Rn x 0 0 41 [(0, rf x.w (some l0)), (1, .int l1), (3, .int l3_15), (4, .int l4_16)] [] h4
      have hw : wpO (sX4_fewestBetween_L41 F l0 l1 l3_15 l4_16 h4) _ := hw
      unfold sX4_fewestBetween_L41 at hw
      refine R_iload (q := 3) (i := 4) (v := l4_16) hc dX4_fewestBetween_41 rfl ?_
      refine R_iconst (v := (4 : Int32)) hc dX4_fewestBetween_43 kI_4 ?_
      refine R_icmp_ge (tgt := 82) hc dX4_fewestBetween_44 (by decide) hw (fun hw => ?_) (fun hw => ?_)
      · refine R_sub hc [2] rfl ?_
        exact (wpO_some hw :)
      · refine R_iload_n (q := 2) (i := 3) (v := l3_15) hc dX4_fewestBetween_47 rfl rfl ?_
        refine R_aload_n (q := 0) (i := 0) (v := (some l0)) hc dX4_fewestBetween_48 rfl rfl ?_
        refine R_getR hc fl_4_33 dX4_fewestBetween_49 hw (fun t5 hw => ?_)
        refine R_aload_n (q := 0) (i := 0) (v := (some l0)) hc dX4_fewestBetween_52 rfl rfl ?_
        refine R_getR hc fl_4_12 dX4_fewestBetween_53 hw (fun t6 hw => ?_)
        refine R_aload_n (q := 0) (i := 0) (v := (some l0)) hc dX4_fewestBetween_56 rfl rfl ?_
        refine R_getR hc fl_4_12 dX4_fewestBetween_57 hw (fun t7 hw => ?_)
        refine R_cVI (As := []) (rest := [rf x.w t6, rf x.w t5, .int l3_15]) (r := t7) (ci := 1) hc ml_4_42 mf_X1_allFingers rfl (by decide) ⟨rfl, rfl⟩ ⟨le_b rfl, le_b rfl⟩ ⟨Nat.zero_le _, Nat.zero_le _⟩ (fun a v e => mt_X1_allFingers e) rfl rfl (by simp [rf_cat, cat_i, cat_l, cat_a]) dX4_fewestBetween_60 hw (fun t9 hw => ?_)
        refine R_iload_n (q := 1) (i := 1) (v := l1) hc dX4_fewestBetween_63 rfl rfl ?_
        refine R_iconst (v := (4 : Int32)) hc dX4_fewestBetween_64 kI_4 ?_
        refine R_imul hc dX4_fewestBetween_65 ?_
        refine R_iload (q := 3) (i := 4) (v := l4_16) hc dX4_fewestBetween_66 rfl ?_
        refine R_iadd hc dX4_fewestBetween_68 ?_
        refine R_cVI (As := [rf x.w t6, .int t9, .int ((l1 * (4 : Int32)) + l4_16)]) (rest := [.int l3_15]) (r := t5) (ci := 3) hc ml_4_122 mf_X3_gapsFrom rfl (by decide) ⟨rfl, rfl⟩ ⟨le_b rfl, le_b rfl⟩ ⟨Nat.zero_le _, Nat.zero_le _⟩ (fun a v e => mt_X3_gapsFrom e) rfl rfl (le_b rfl) dX4_fewestBetween_69 hw (fun t11 hw => ?_)
        refine R_jmn hc ml_4_76 (le_b rfl) (le_b rfl) ⟨Nat.zero_le _, Nat.zero_le _⟩ dX4_fewestBetween_72 ?_
        refine R_nmI hw (fun l3_12 hw => ?_)
        refine R_istore_n (i := 3) (v := l3_12) hc [(3, .int l3_12), (0, rf x.w (some l0)), (1, .int l1), (4, .int l4_16)] dX4_fewestBetween_75 rfl (hnl 3 (le_b rfl)) rfl ?_
        refine R_iinc (q := 3) (i := 4) (v := l4_16) hc [(4, .int (l4_16 + (1 : Int32))), (3, .int l3_12), (0, rf x.w (some l0)), (1, .int l1)] dX4_fewestBetween_76 rfl (kC_1 _) (hnl 4 (le_b rfl)) rfl ?_
        refine R_goto (tgt := 41) hc dX4_fewestBetween_79 (by decide) ?_
        refine R_sub hc [2, 3, 1, 0] rfl ?_
        exact hX (l3_12, l4_16 + (1 : Int32)) (wpO_some hw :)
  · refine R_aload_n (q := 0) (i := 0) (v := (some l0)) hc dX4_fewestBetween_5 rfl rfl ?_
    refine R_getR hc fl_4_12 dX4_fewestBetween_6 hw (fun t17 hw => ?_)
    refine R_getI hc fl_4_57 dX4_fewestBetween_9 hw (fun t18 hw => ?_)
    refine R_iconst (v := (1 : Int32)) hc dX4_fewestBetween_12 kI_1 ?_
    refine R_icmp_ne (tgt := 20) hc dX4_fewestBetween_13 (by decide) hw (fun hw => ?_) (fun hw => ?_)
    · refine R_iconst (v := (-1 : Int32)) hc dX4_fewestBetween_20 kI_m1 ?_
      exact R_ireturn hc hret rfl hQ hw dX4_fewestBetween_21
    · refine R_iconst (v := (0 : Int32)) hc dX4_fewestBetween_16 kI_0 ?_
      refine R_goto (tgt := 21) hc dX4_fewestBetween_17 (by decide) ?_
      exact R_ireturn hc hret rfl hQ hw dX4_fewestBetween_21
theorem dX1_tiedNets_0 : decode cX1_tiedNets 0 = .ok (.iconst 1, 1) := by decide +kernel
theorem dX1_tiedNets_1 : decode cX1_tiedNets 1 = .ok (.iload_n 2, 1) := by decide +kernel
theorem dX1_tiedNets_2 : decode cX1_tiedNets 2 = .ok (.ishl, 1) := by decide +kernel
theorem dX1_tiedNets_3 : decode cX1_tiedNets 3 = .ok (.istore_n 3, 1) := by decide +kernel
theorem dX1_tiedNets_4 : decode cX1_tiedNets 4 = .ok (.iconst 0, 1) := by decide +kernel
theorem dX1_tiedNets_5 : decode cX1_tiedNets 5 = .ok (.istore 4, 2) := by decide +kernel
theorem dX1_tiedNets_7 : decode cX1_tiedNets 7 = .ok (.iload 4, 2) := by decide +kernel
theorem dX1_tiedNets_9 : decode cX1_tiedNets 9 = .ok (.aload_n 0, 1) := by decide +kernel
theorem dX1_tiedNets_10 : decode cX1_tiedNets 10 = .ok (.getfield 43, 3) := by decide +kernel
theorem dX1_tiedNets_13 : decode cX1_tiedNets 13 = .ok (.if_icmp .ge 66, 3) := by decide +kernel
theorem dX1_tiedNets_16 : decode cX1_tiedNets 16 = .ok (.iconst 0, 1) := by decide +kernel
theorem dX1_tiedNets_17 : decode cX1_tiedNets 17 = .ok (.istore 5, 2) := by decide +kernel
theorem dX1_tiedNets_19 : decode cX1_tiedNets 19 = .ok (.iload 5, 2) := by decide +kernel
theorem dX1_tiedNets_21 : decode cX1_tiedNets 21 = .ok (.aload_n 0, 1) := by decide +kernel
theorem dX1_tiedNets_22 : decode cX1_tiedNets 22 = .ok (.getfield 43, 3) := by decide +kernel
theorem dX1_tiedNets_25 : decode cX1_tiedNets 25 = .ok (.if_icmp .ge 48, 3) := by decide +kernel
theorem dX1_tiedNets_28 : decode cX1_tiedNets 28 = .ok (.iconst 1, 1) := by decide +kernel
theorem dX1_tiedNets_29 : decode cX1_tiedNets 29 = .ok (.aload_n 0, 1) := by decide +kernel
theorem dX1_tiedNets_30 : decode cX1_tiedNets 30 = .ok (.iload 5, 2) := by decide +kernel
theorem dX1_tiedNets_32 : decode cX1_tiedNets 32 = .ok (.iconst 4, 1) := by decide +kernel
theorem dX1_tiedNets_33 : decode cX1_tiedNets 33 = .ok (.imul, 1) := by decide +kernel
theorem dX1_tiedNets_34 : decode cX1_tiedNets 34 = .ok (.iload_n 1, 1) := by decide +kernel
theorem dX1_tiedNets_35 : decode cX1_tiedNets 35 = .ok (.iconst 0, 1) := by decide +kernel
theorem dX1_tiedNets_36 : decode cX1_tiedNets 36 = .ok (.invokevirtual 53, 3) := by decide +kernel
theorem dX1_tiedNets_39 : decode cX1_tiedNets 39 = .ok (.ishl, 1) := by decide +kernel
theorem dX1_tiedNets_40 : decode cX1_tiedNets 40 = .ok (.iconst 1, 1) := by decide +kernel
theorem dX1_tiedNets_41 : decode cX1_tiedNets 41 = .ok (.aload_n 0, 1) := by decide +kernel
theorem dX1_tiedNets_42 : decode cX1_tiedNets 42 = .ok (.iload 5, 2) := by decide +kernel
theorem dX1_tiedNets_44 : decode cX1_tiedNets 44 = .ok (.iconst 4, 1) := by decide +kernel
theorem dX1_tiedNets_45 : decode cX1_tiedNets 45 = .ok (.imul, 1) := by decide +kernel
theorem dX1_tiedNets_46 : decode cX1_tiedNets 46 = .ok (.iload_n 1, 1) := by decide +kernel
theorem dX1_tiedNets_47 : decode cX1_tiedNets 47 = .ok (.iconst 1, 1) := by decide +kernel
theorem dX1_tiedNets_48 : decode cX1_tiedNets 48 = .ok (.invokevirtual 53, 3) := by decide +kernel
theorem dX1_tiedNets_51 : decode cX1_tiedNets 51 = .ok (.ishl, 1) := by decide +kernel
theorem dX1_tiedNets_52 : decode cX1_tiedNets 52 = .ok (.ior, 1) := by decide +kernel
theorem dX1_tiedNets_53 : decode cX1_tiedNets 53 = .ok (.istore 6, 2) := by decide +kernel
theorem dX1_tiedNets_55 : decode cX1_tiedNets 55 = .ok (.iload 6, 2) := by decide +kernel
theorem dX1_tiedNets_57 : decode cX1_tiedNets 57 = .ok (.iload_n 3, 1) := by decide +kernel
theorem dX1_tiedNets_58 : decode cX1_tiedNets 58 = .ok (.iand, 1) := by decide +kernel
theorem dX1_tiedNets_59 : decode cX1_tiedNets 59 = .ok (.ifCond .eq 8, 3) := by decide +kernel
theorem dX1_tiedNets_62 : decode cX1_tiedNets 62 = .ok (.iload_n 3, 1) := by decide +kernel
theorem dX1_tiedNets_63 : decode cX1_tiedNets 63 = .ok (.iload 6, 2) := by decide +kernel
theorem dX1_tiedNets_65 : decode cX1_tiedNets 65 = .ok (.ior, 1) := by decide +kernel
theorem dX1_tiedNets_66 : decode cX1_tiedNets 66 = .ok (.istore_n 3, 1) := by decide +kernel
theorem dX1_tiedNets_67 : decode cX1_tiedNets 67 = .ok (.iinc 5 1, 3) := by decide +kernel
theorem dX1_tiedNets_70 : decode cX1_tiedNets 70 = .ok (.goto (-51), 3) := by decide +kernel
theorem dX1_tiedNets_73 : decode cX1_tiedNets 73 = .ok (.iinc 4 1, 3) := by decide +kernel
theorem dX1_tiedNets_76 : decode cX1_tiedNets 76 = .ok (.goto (-69), 3) := by decide +kernel
theorem dX1_tiedNets_79 : decode cX1_tiedNets 79 = .ok (.iload_n 3, 1) := by decide +kernel
theorem dX1_tiedNets_80 : decode cX1_tiedNets 80 = .ok (.ireturn, 1) := by decide +kernel
def sX1_tiedNets_L19 (F : Nat) (l0 : Nat) (l1 : Int32) (l4 : Int32) (l3 : Int32) (l5 : Int32) (h : HP) : Option ((Int32 × Int32) ⊕ Int32) :=
  (gI h 1 (some l0) 5).bind fun t3 =>
  if t3 ≤ l5 then
    some (.inr l3)
  else
    (dO h 1 (some l0)).bind fun a4 =>
    (sX1_netOf F a4 (l5 * (4 : Int32)) l1 (0 : Int32) h).bind fun t5 =>
    (dO h 1 (some l0)).bind fun a6 =>
    (sX1_netOf F a6 (l5 * (4 : Int32)) l1 (1 : Int32) h).bind fun t7 =>
    nmI ((jshl (1 : Int32) t5) ||| (jshl (1 : Int32) t7)) fun l6_8 =>
    if (l6_8 &&& l3) = 0 then
      some (.inl (l3, l5 + (1 : Int32)))
    else
      nmI (l3 ||| l6_8) fun l3_9 =>
      some (.inl (l3_9, l5 + (1 : Int32)))
def sX1_tiedNets_L7 (F : Nat) (l0 : Nat) (l1 : Int32) (l3 : Int32) (l4 : Int32) (h : HP) : Option ((Int32 × Int32) ⊕ Int32) :=
  (gI h 1 (some l0) 5).bind fun t2 =>
  if t2 ≤ l4 then
    some (.inr l3)
  else
    (iter (fun s => sX1_tiedNets_L19 F l0 l1 l4 s.1 s.2 h) F (l3, (0 : Int32))).bind fun l3_10 =>
      some (.inl (l3_10, l4 + (1 : Int32)))
def sX1_tiedNets (F : Nat) (l0 : Nat) (l1 : Int32) (l2 : Int32) (h : HP) : Option Int32 :=
  nmI (jshl (1 : Int32) l2) fun l3_1 =>
  (iter (fun s => sX1_tiedNets_L7 F l0 l1 s.1 s.2 h) F (l3_1, (0 : Int32))).bind fun l3_14 =>
    some l3_14
abbrev rm_X1_tiedNets : Room := { frames := 2, cells := 0, slots := 0, locals := 47 }
set_option maxRecDepth 100000 in
set_option maxHeartbeats 4000000 in
theorem mt_X1_tiedNets {w : WD} {l : Launch} {F : Nat} {l0 : Nat} {l1 : Int32} {l2 : Int32} {h : HP} {v : Int32} (hs : sX1_tiedNets F l0 l1 l2 h = some v) : MI w l yX1_tiedNets cX1_tiedNets 7 .int rm_X1_tiedNets 0 0 [rf w (some l0), .int l1, .int l2] h v h := by
  refine of_body [(0, rf w (some l0)), (1, .int l1), (2, .int l2)] (by decide) (by simp [lg_sl, rf_cat, cat_i, cat_l, cat_a]) (by simp [lv_args, rf_cat, cat_i, cat_l, cat_a]) ?_
  intro x hw_ hnL_ hl_ hc hret hnm hQ
  subst hw_; subst hl_
  have hnl : ∀ i, i < 7 → i < x.nL := fun i h => by rw [hnL_]; exact h
  have hw : wpO (sX1_tiedNets F l0 l1 l2 h) (fun r => r = v) := ⟨_, hs, rfl⟩
  unfold sX1_tiedNets at hw
  refine R_iconst (v := (1 : Int32)) hc dX1_tiedNets_0 kI_1 ?_
  refine R_iload_n (q := 2) (i := 2) (v := l2) hc dX1_tiedNets_1 rfl rfl ?_
  refine R_ishl hc dX1_tiedNets_2 ?_
  refine R_nmI hw (fun l3_1 hw => ?_)
  refine R_istore_n (i := 3) (v := l3_1) hc [(3, .int l3_1), (0, rf x.w (some l0)), (1, .int l1), (2, .int l2)] dX1_tiedNets_3 rfl (hnl 3 (le_b rfl)) rfl ?_
  refine R_iconst (v := (0 : Int32)) hc dX1_tiedNets_4 kI_0 ?_
  refine R_istore (i := 4) (v := (0 : Int32)) hc [(4, .int (0 : Int32)), (3, .int l3_1), (0, rf x.w (some l0)), (1, .int l1), (2, .int l2)] dX1_tiedNets_5 (hnl 4 (le_b rfl)) rfl ?_
  refine R_sub hc [2, 3, 1, 0] rfl ?_
  refine R_loop (P := fun (s : (Int32 × Int32)) => Rn x 0 0 7 [(0, rf x.w (some l0)), (1, .int l1), (3, .int s.1), (4, .int s.2)] [] h) (fun l3_14 => Rn x 0 0 79 [(3, .int l3_14)] [] h) hw (fun r hw => ?_) (fun X hX s hw => ?_)
  · revert r hw
    intro l3_14 hw
    show Rn x 0 0 79 [(3, .int l3_14)] [] h
    refine R_iload_n (q := 0) (i := 3) (v := l3_14) hc dX1_tiedNets_79 rfl rfl ?_
    exact R_ireturnP hc hret rfl hQ hw dX1_tiedNets_80
  · obtain ⟨l3_16, l4_17⟩ := s
    show Rn x 0 0 7 [(0, rf x.w (some l0)), (1, .int l1), (3, .int l3_16), (4, .int l4_17)] [] h
    have hw : wpO (sX1_tiedNets_L7 F l0 l1 l3_16 l4_17 h) _ := hw
    unfold sX1_tiedNets_L7 at hw
    refine R_iload (q := 3) (i := 4) (v := l4_17) hc dX1_tiedNets_7 rfl ?_
    refine R_aload_n (q := 0) (i := 0) (v := (some l0)) hc dX1_tiedNets_9 rfl rfl ?_
    refine R_getI hc fl_1_43 dX1_tiedNets_10 hw (fun t2 hw => ?_)
    refine R_icmp_ge (tgt := 79) hc dX1_tiedNets_13 (by decide) hw (fun hw => ?_) (fun hw => ?_)
    · refine R_sub hc [2] rfl ?_
      exact (wpO_some hw :)
    · refine R_iconst (v := (0 : Int32)) hc dX1_tiedNets_16 kI_0 ?_
      refine R_istore (i := 5) (v := (0 : Int32)) hc [(5, .int (0 : Int32)), (0, rf x.w (some l0)), (1, .int l1), (3, .int l3_16), (4, .int l4_17)] dX1_tiedNets_17 (hnl 5 (le_b rfl)) rfl ?_
      refine R_sub hc [1, 2, 3, 4, 0] rfl ?_
      refine R_loop (P := fun (s : (Int32 × Int32)) => Rn x 0 0 19 [(0, rf x.w (some l0)), (1, .int l1), (3, .int s.1), (4, .int l4_17), (5, .int s.2)] [] h) (fun l3_10 => Rn x 0 0 73 [(0, rf x.w (some l0)), (1, .int l1), (3, .int l3_10), (4, .int l4_17)] [] h) hw (fun r hw => ?_) (fun X hX s hw => ?_)
      · revert r hw
        intro l3_10 hw
        show Rn x 0 0 73 [(0, rf x.w (some l0)), (1, .int l1), (3, .int l3_10), (4, .int l4_17)] [] h
        refine R_iinc (q := 3) (i := 4) (v := l4_17) hc [(4, .int (l4_17 + (1 : Int32))), (0, rf x.w (some l0)), (1, .int l1), (3, .int l3_10)] dX1_tiedNets_73 rfl (kC_1 _) (hnl 4 (le_b rfl)) rfl ?_
        refine R_goto (tgt := 7) hc dX1_tiedNets_76 (by decide) ?_
        refine R_sub hc [1, 2, 3, 0] rfl ?_
        exact hX (l3_10, l4_17 + (1 : Int32)) (wpO_some hw :)
      · obtain ⟨l3_12, l5_13⟩ := s
        show Rn x 0 0 19 [(0, rf x.w (some l0)), (1, .int l1), (3, .int l3_12), (4, .int l4_17), (5, .int l5_13)] [] h
        have hw : wpO (sX1_tiedNets_L19 F l0 l1 l4_17 l3_12 l5_13 h) _ := hw
        unfold sX1_tiedNets_L19 at hw
        refine R_iload (q := 4) (i := 5) (v := l5_13) hc dX1_tiedNets_19 rfl ?_
        refine R_aload_n (q := 0) (i := 0) (v := (some l0)) hc dX1_tiedNets_21 rfl rfl ?_
        refine R_getI hc fl_1_43 dX1_tiedNets_22 hw (fun t3 hw => ?_)
        refine R_icmp_ge (tgt := 73) hc dX1_tiedNets_25 (by decide) hw (fun hw => ?_) (fun hw => ?_)
        · refine R_sub hc [0, 1, 2, 3] rfl ?_
          exact (wpO_some hw :)
        · refine R_iconst (v := (1 : Int32)) hc dX1_tiedNets_28 kI_1 ?_
          refine R_aload_n (q := 0) (i := 0) (v := (some l0)) hc dX1_tiedNets_29 rfl rfl ?_
          refine R_iload (q := 4) (i := 5) (v := l5_13) hc dX1_tiedNets_30 rfl ?_
          refine R_iconst (v := (4 : Int32)) hc dX1_tiedNets_32 kI_4 ?_
          refine R_imul hc dX1_tiedNets_33 ?_
          refine R_iload_n (q := 1) (i := 1) (v := l1) hc dX1_tiedNets_34 rfl rfl ?_
          refine R_iconst (v := (0 : Int32)) hc dX1_tiedNets_35 kI_0 ?_
          refine R_cVI (As := [.int (l5_13 * (4 : Int32)), .int l1, .int (0 : Int32)]) (rest := [.int (1 : Int32)]) (r := (some l0)) (ci := 1) hc ml_1_53 mf_X1_netOf rfl (by decide) ⟨rfl, rfl⟩ ⟨le_b rfl, le_b rfl⟩ ⟨Nat.zero_le _, Nat.zero_le _⟩ (fun a v e => mt_X1_netOf e) rfl rfl (le_b rfl) dX1_tiedNets_36 hw (fun t5 hw => ?_)
          refine R_ishl hc dX1_tiedNets_39 ?_
          refine R_iconst (v := (1 : Int32)) hc dX1_tiedNets_40 kI_1 ?_
          refine R_aload_n (q := 0) (i := 0) (v := (some l0)) hc dX1_tiedNets_41 rfl rfl ?_
          refine R_iload (q := 4) (i := 5) (v := l5_13) hc dX1_tiedNets_42 rfl ?_
          refine R_iconst (v := (4 : Int32)) hc dX1_tiedNets_44 kI_4 ?_
          refine R_imul hc dX1_tiedNets_45 ?_
          refine R_iload_n (q := 1) (i := 1) (v := l1) hc dX1_tiedNets_46 rfl rfl ?_
          refine R_iconst (v := (1 : Int32)) hc dX1_tiedNets_47 kI_1 ?_
          refine R_cVI (As := [.int (l5_13 * (4 : Int32)), .int l1, .int (1 : Int32)]) (rest := [.int (1 : Int32), .int (jshl (1 : Int32) t5)]) (r := (some l0)) (ci := 1) hc ml_1_53 mf_X1_netOf rfl (by decide) ⟨rfl, rfl⟩ ⟨le_b rfl, le_b rfl⟩ ⟨Nat.zero_le _, Nat.zero_le _⟩ (fun a v e => mt_X1_netOf e) rfl rfl (le_b rfl) dX1_tiedNets_48 hw (fun t7 hw => ?_)
          refine R_ishl hc dX1_tiedNets_51 ?_
          refine R_ior hc dX1_tiedNets_52 ?_
          refine R_nmI hw (fun l6_8 hw => ?_)
          refine R_istore (i := 6) (v := l6_8) hc [(6, .int l6_8), (0, rf x.w (some l0)), (1, .int l1), (3, .int l3_12), (4, .int l4_17), (5, .int l5_13)] dX1_tiedNets_53 (hnl 6 (le_b rfl)) rfl ?_
          refine R_iload (q := 0) (i := 6) (v := l6_8) hc dX1_tiedNets_55 rfl ?_
          refine R_iload_n (q := 3) (i := 3) (v := l3_12) hc dX1_tiedNets_57 rfl rfl ?_
          refine R_iand hc dX1_tiedNets_58 ?_
          refine R_if_eq (tgt := 67) hc dX1_tiedNets_59 (by decide) hw (fun hw => ?_) (fun hw => ?_)
          · refine R_iinc (q := 5) (i := 5) (v := l5_13) hc [(5, .int (l5_13 + (1 : Int32))), (6, .int l6_8), (0, rf x.w (some l0)), (1, .int l1), (3, .int l3_12), (4, .int l4_17)] dX1_tiedNets_67 rfl (kC_1 _) (hnl 5 (le_b rfl)) rfl ?_
            refine R_goto (tgt := 19) hc dX1_tiedNets_70 (by decide) ?_
            refine R_sub hc [2, 3, 4, 5, 0] rfl ?_
            exact hX (l3_12, l5_13 + (1 : Int32)) (wpO_some hw :)
          · refine R_iload_n (q := 3) (i := 3) (v := l3_12) hc dX1_tiedNets_62 rfl rfl ?_
            refine R_iload (q := 0) (i := 6) (v := l6_8) hc dX1_tiedNets_63 rfl ?_
            refine R_ior hc dX1_tiedNets_65 ?_
            refine R_nmI hw (fun l3_9 hw => ?_)
            refine R_istore_n (i := 3) (v := l3_9) hc [(3, .int l3_9), (6, .int l6_8), (0, rf x.w (some l0)), (1, .int l1), (4, .int l4_17), (5, .int l5_13)] dX1_tiedNets_66 rfl (hnl 3 (le_b rfl)) rfl ?_
            refine R_iinc (q := 5) (i := 5) (v := l5_13) hc [(5, .int (l5_13 + (1 : Int32))), (3, .int l3_9), (6, .int l6_8), (0, rf x.w (some l0)), (1, .int l1), (4, .int l4_17)] dX1_tiedNets_67 rfl (kC_1 _) (hnl 5 (le_b rfl)) rfl ?_
            refine R_goto (tgt := 19) hc dX1_tiedNets_70 (by decide) ?_
            refine R_sub hc [3, 4, 1, 5, 0] rfl ?_
            exact hX (l3_9, l5_13 + (1 : Int32)) (wpO_some hw :)
