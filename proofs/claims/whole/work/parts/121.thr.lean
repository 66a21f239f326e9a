theorem dX10_cell_0 : decode cX10_cell 0 = .ok (.aload_n 0, 1) := by decide +kernel
theorem dX10_cell_1 : decode cX10_cell 1 = .ok (.getfield 12, 3) := by decide +kernel
theorem dX10_cell_4 : decode cX10_cell 4 = .ok (.aload_n 0, 1) := by decide +kernel
theorem dX10_cell_5 : decode cX10_cell 5 = .ok (.getfield 84, 3) := by decide +kernel
theorem dX10_cell_8 : decode cX10_cell 8 = .ok (.invokevirtual 106, 3) := by decide +kernel
theorem dX10_cell_11 : decode cX10_cell 11 = .ok (.ifCond .ne 13, 3) := by decide +kernel
theorem dX10_cell_14 : decode cX10_cell 14 = .ok (.new 110, 3) := by decide +kernel
theorem dX10_cell_17 : decode cX10_cell 17 = .ok (.dup, 1) := by decide +kernel
theorem dX10_cell_18 : decode cX10_cell 18 = .ok (.ldc 112, 2) := by decide +kernel
theorem dX10_cell_20 : decode cX10_cell 20 = .ok (.invokespecial 114, 3) := by decide +kernel
theorem dX10_cell_23 : decode cX10_cell 23 = .ok (.athrow, 1) := by decide +kernel
theorem dX10_cell_24 : decode cX10_cell 24 = .ok (.aload_n 0, 1) := by decide +kernel
theorem dX10_cell_25 : decode cX10_cell 25 = .ok (.getfield 75, 3) := by decide +kernel
theorem dX10_cell_28 : decode cX10_cell 28 = .ok (.aload_n 0, 1) := by decide +kernel
theorem dX10_cell_29 : decode cX10_cell 29 = .ok (.getfield 78, 3) := by decide +kernel
theorem dX10_cell_32 : decode cX10_cell 32 = .ok (.if_acmp .ne 10, 3) := by decide +kernel
theorem dX10_cell_35 : decode cX10_cell 35 = .ok (.aload_n 0, 1) := by decide +kernel
theorem dX10_cell_36 : decode cX10_cell 36 = .ok (.invokevirtual 117, 3) := by decide +kernel
theorem dX10_cell_39 : decode cX10_cell 39 = .ok (.goto 7, 3) := by decide +kernel
theorem dX10_cell_42 : decode cX10_cell 42 = .ok (.aload_n 0, 1) := by decide +kernel
theorem dX10_cell_43 : decode cX10_cell 43 = .ok (.getfield 75, 3) := by decide +kernel
theorem dX10_cell_46 : decode cX10_cell 46 = .ok (.astore_n 1, 1) := by decide +kernel
theorem dX10_cell_47 : decode cX10_cell 47 = .ok (.aload_n 0, 1) := by decide +kernel
theorem dX10_cell_48 : decode cX10_cell 48 = .ok (.aload_n 1, 1) := by decide +kernel
theorem dX10_cell_49 : decode cX10_cell 49 = .ok (.aload_n 0, 1) := by decide +kernel
theorem dX10_cell_50 : decode cX10_cell 50 = .ok (.getfield 84, 3) := by decide +kernel
theorem dX10_cell_53 : decode cX10_cell 53 = .ok (.invokevirtual 121, 3) := by decide +kernel
theorem dX10_cell_56 : decode cX10_cell 56 = .ok (.putfield 84, 3) := by decide +kernel
theorem dX10_cell_59 : decode cX10_cell 59 = .ok (.aload_n 1, 1) := by decide +kernel
theorem dX10_cell_60 : decode cX10_cell 60 = .ok (.invokevirtual 88, 3) := by decide +kernel
theorem dX10_cell_63 : decode cX10_cell 63 = .ok (.aload_n 0, 1) := by decide +kernel
theorem dX10_cell_64 : decode cX10_cell 64 = .ok (.aload_n 1, 1) := by decide +kernel
theorem dX10_cell_65 : decode cX10_cell 65 = .ok (.putfield 75, 3) := by decide +kernel
theorem dX10_cell_68 : decode cX10_cell 68 = .ok (.aload_n 0, 1) := by decide +kernel
theorem dX10_cell_69 : decode cX10_cell 69 = .ok (.getfield 31, 3) := by decide +kernel
theorem dX10_cell_72 : decode cX10_cell 72 = .ok (.aload_n 0, 1) := by decide +kernel
theorem dX10_cell_73 : decode cX10_cell 73 = .ok (.getfield 75, 3) := by decide +kernel
theorem dX10_cell_76 : decode cX10_cell 76 = .ok (.getfield 125, 3) := by decide +kernel
theorem dX10_cell_79 : decode cX10_cell 79 = .ok (.getfield 128, 3) := by decide +kernel
theorem dX10_cell_82 : decode cX10_cell 82 = .ok (.invokevirtual 131, 3) := by decide +kernel
theorem dX10_cell_85 : decode cX10_cell 85 = .ok (.aload_n 0, 1) := by decide +kernel
theorem dX10_cell_86 : decode cX10_cell 86 = .ok (.getfield 41, 3) := by decide +kernel
theorem dX10_cell_89 : decode cX10_cell 89 = .ok (.invokevirtual 134, 3) := by decide +kernel
theorem dX10_cell_92 : decode cX10_cell 92 = .ok (.aload_n 0, 1) := by decide +kernel
theorem dX10_cell_93 : decode cX10_cell 93 = .ok (.invokevirtual 91, 3) := by decide +kernel
theorem dX10_cell_96 : decode cX10_cell 96 = .ok (.aload_n 0, 1) := by decide +kernel
theorem dX10_cell_97 : decode cX10_cell 97 = .ok (.getfield 75, 3) := by decide +kernel
theorem dX10_cell_100 : decode cX10_cell 100 = .ok (.getfield 125, 3) := by decide +kernel
theorem dX10_cell_103 : decode cX10_cell 103 = .ok (.getfield 128, 3) := by decide +kernel
theorem dX10_cell_106 : decode cX10_cell 106 = .ok (.ireturn, 1) := by decide +kernel
def sX10_cell (F : Nat) (l0 : Nat) (h : HP) : Option ((Int32 ⊕ Nat) × HP) :=
  (gR h 10 (some l0) 0).bind fun t1 =>
  (gR h 10 (some l0) 14).bind fun t2 =>
  (dO h 8 t1).bind fun a3 =>
  bd2 (sX8_readInto F a3 t2 h) fun t4 h5 =>
  if ¬ t4 = 0 then
    (gR h5 10 (some l0) 12).bind fun t6 =>
    (gR h5 10 (some l0) 13).bind fun t7 =>
    (if ¬ t6 = t7 then
        (gR h5 10 (some l0) 12).bind fun t9 =>
        some t9
      else
        (dO h5 10 (some l0)).bind fun a10 =>
        (sX10_notKept F a10 h5).bind fun t11 =>
        some t11).bind fun s8 =>
    (gR h5 10 (some l0) 14).bind fun t12 =>
    (dO h5 4 s8).bind fun a13 =>
    bd2 (sX4_exchange F a13 t12 h5) fun t14 h15 =>
    (pR h15 10 (some l0) 14 t14).bind fun h16 =>
    (dO h16 4 s8).bind fun a17 =>
    (sX4_prepare F a17 h16).bind fun h18 =>
    (pR h18 10 (some l0) 12 s8).bind fun h19 =>
    (gR h19 10 (some l0) 3).bind fun t20 =>
    (gR h19 10 (some l0) 12).bind fun t21 =>
    (gR h19 4 t21 0).bind fun t22 =>
    (gI h19 1 t22 5).bind fun t23 =>
    (dO h19 7 t20).bind fun a24 =>
    (sX7_reset F a24 t23 h19).bind fun h25 =>
    (gR h25 10 (some l0) 5).bind fun t26 =>
    (dO h25 5 t26).bind fun a27 =>
    (sX5_forget F a27 h25).bind fun h28 =>
    (dO h28 10 (some l0)).bind fun a29 =>
    (sX10_redraw F a29 h28).bind fun h30 =>
    (gR h30 10 (some l0) 12).bind fun t31 =>
    (gR h30 4 t31 0).bind fun t32 =>
    (gI h30 1 t32 5).bind fun t33 =>
    some (.inl t33, h30)
  else
    some (.inr 0, h5)
abbrev rm_X10_cell : Room := { frames := 9, cells := 1, slots := 6, locals := 196 }
set_option maxRecDepth 100000 in
set_option maxHeartbeats 4000000 in
theorem mt_X10_cell {w : WD} {l : Launch} {F : Nat} (hlt : l.stackTraces = false) {l0 : Nat} {h : HP} {r : Int32 ⊕ Nat} {h' : HP} (hs : sX10_cell F l0 h = some (r, h')) : XI w l yX10_cell cX10_cell 2 .int rm_X10_cell [rf w (some l0)] h r h' := by
  refine of_bodyT [(0, rf w (some l0))] (by decide) (by simp [lg_sl, rf_cat, cat_i, cat_l, cat_a]) (by simp [lv_args, rf_cat, cat_i, cat_l, cat_a]) ?_
  intro x hw_ hnL_ hl_ hc hret hex hQ
  subst hw_; subst hl_
  have hnl : ∀ i, i < 2 → i < x.nL := fun i h => by rw [hnL_]; exact h
  have hw : wpO (sX10_cell F l0 h) (fun q => q = (r, h')) := ⟨_, hs, rfl⟩
  unfold sX10_cell at hw
  refine R_aload_n (q := 0) (i := 0) (v := (some l0)) hc dX10_cell_0 rfl rfl ?_
  refine R_getR hc fl_10_12 dX10_cell_1 hw (fun t1 hw => ?_)
  refine R_aload_n (q := 0) (i := 0) (v := (some l0)) hc dX10_cell_4 rfl rfl ?_
  refine R_getR hc fl_10_84 dX10_cell_5 hw (fun t2 hw => ?_)
  refine R_cVIi (As := [rf x.w t2]) (rest := []) (r := t1) (ci := 8) hc ml_10_106 mf_X8_readInto rfl (by decide) ⟨rfl, rfl⟩ ⟨le_b rfl, le_b rfl⟩ ⟨Nat.zero_le _, Nat.zero_le _⟩ (fun a v h' e => mt_X8_readInto e) rfl rfl (Nat.zero_le _) dX10_cell_8 hw (fun t4 h5 hw => ?_)
  refine R_if_ne (tgt := 24) hc dX10_cell_11 (by decide) hw (fun hw => ?_) (fun hw => ?_)
  · refine R_aload_n (q := 0) (i := 0) (v := (some l0)) hc dX10_cell_24 rfl rfl ?_
    refine R_getR hc fl_10_75 dX10_cell_25 hw (fun t6 hw => ?_)
    refine R_aload_n (q := 0) (i := 0) (v := (some l0)) hc dX10_cell_28 rfl rfl ?_
    refine R_getR hc fl_10_78 dX10_cell_29 hw (fun t7 hw => ?_)
    refine R_join (fun (s8 : Option Nat) => Rn x 0 0 46 [(0, rf x.w (some l0))] [rf x.w s8] h5) hw (fun r hw => ?_) (fun hw => ?_)
    · revert r hw
      intro s8 hw
      show Rn x 0 0 46 [(0, rf x.w (some l0))] [rf x.w s8] h5
      refine R_astore_n (i := 1) (v := s8) hc [(1, rf x.w s8), (0, rf x.w (some l0))] dX10_cell_46 rfl (hnl 1 (le_b rfl)) rfl ?_
      refine R_aload_n (q := 1) (i := 0) (v := (some l0)) hc dX10_cell_47 rfl rfl ?_
      refine R_aload_n (q := 0) (i := 1) (v := s8) hc dX10_cell_48 rfl rfl ?_
      refine R_aload_n (q := 1) (i := 0) (v := (some l0)) hc dX10_cell_49 rfl rfl ?_
      refine R_getR hc fl_10_84 dX10_cell_50 hw (fun t12 hw => ?_)
      refine R_cVRi (As := [rf x.w t12]) (rest := [rf x.w (some l0)]) (r := s8) (ci := 4) hc ml_10_121 mf_X4_exchange rfl (by decide) ⟨rfl, rfl⟩ ⟨le_b rfl, le_b rfl⟩ ⟨Nat.zero_le _, Nat.zero_le _⟩ (fun a v h' e => mt_X4_exchange e) rfl rfl (le_b rfl) dX10_cell_53 hw (fun t14 h15 hw => ?_)
      refine R_putR hc pl_10_84 (rf_fits_o _ _ _).1 (rf_fits_o _ _ _).2 dX10_cell_56 hw (fun h16 hw => ?_)
      refine R_aload_n (q := 0) (i := 1) (v := s8) hc dX10_cell_59 rfl rfl ?_
      refine R_cVVi (As := []) (rest := []) (r := s8) (ci := 4) hc ml_10_88 mf_X4_prepare rfl (by decide) ⟨rfl, rfl⟩ ⟨le_b rfl, le_b rfl⟩ ⟨Nat.zero_le _, Nat.zero_le _⟩ (fun a h' e => mt_X4_prepare e) rfl rfl (Nat.zero_le _) dX10_cell_60 hw (fun h18 hw => ?_)
      refine R_aload_n (q := 1) (i := 0) (v := (some l0)) hc dX10_cell_63 rfl rfl ?_
      refine R_aload_n (q := 0) (i := 1) (v := s8) hc dX10_cell_64 rfl rfl ?_
      refine R_putR hc pl_10_75 (rf_fits_o _ _ _).1 (rf_fits_o _ _ _).2 dX10_cell_65 hw (fun h19 hw => ?_)
      refine R_aload_n (q := 1) (i := 0) (v := (some l0)) hc dX10_cell_68 rfl rfl ?_
      refine R_getR hc fl_10_31 dX10_cell_69 hw (fun t20 hw => ?_)
      refine R_aload_n (q := 1) (i := 0) (v := (some l0)) hc dX10_cell_72 rfl rfl ?_
      refine R_getR hc fl_10_75 dX10_cell_73 hw (fun t21 hw => ?_)
      refine R_getR hc fl_10_125 dX10_cell_76 hw (fun t22 hw => ?_)
      refine R_getI hc fl_10_128 dX10_cell_79 hw (fun t23 hw => ?_)
      refine R_cVVi (As := [.int t23]) (rest := []) (r := t20) (ci := 7) hc ml_10_131 mf_X7_reset rfl (by decide) ⟨rfl, rfl⟩ ⟨le_b rfl, le_b rfl⟩ ⟨Nat.zero_le _, Nat.zero_le _⟩ (fun a h' e => mt_X7_reset e) rfl rfl (Nat.zero_le _) dX10_cell_82 hw (fun h25 hw => ?_)
      refine R_aload_n (q := 1) (i := 0) (v := (some l0)) hc dX10_cell_85 rfl rfl ?_
      refine R_getR hc fl_10_41 dX10_cell_86 hw (fun t26 hw => ?_)
      refine R_cVVi (As := []) (rest := []) (r := t26) (ci := 5) hc ml_10_134 mf_X5_forget rfl (by decide) ⟨rfl, rfl⟩ ⟨le_b rfl, le_b rfl⟩ ⟨Nat.zero_le _, Nat.zero_le _⟩ (fun a h' e => mt_X5_forget e) rfl rfl (Nat.zero_le _) dX10_cell_89 hw (fun h28 hw => ?_)
      refine R_aload_n (q := 1) (i := 0) (v := (some l0)) hc dX10_cell_92 rfl rfl ?_
      refine R_cVVi (As := []) (rest := []) (r := (some l0)) (ci := 10) hc ml_10_91 mf_X10_redraw rfl (by decide) ⟨rfl, rfl⟩ ⟨le_b rfl, le_b rfl⟩ ⟨Nat.zero_le _, Nat.zero_le _⟩ (fun a h' e => mt_X10_redraw e) rfl rfl (Nat.zero_le _) dX10_cell_93 hw (fun h30 hw => ?_)
      refine R_aload_n (q := 1) (i := 0) (v := (some l0)) hc dX10_cell_96 rfl rfl ?_
      refine R_getR hc fl_10_75 dX10_cell_97 hw (fun t31 hw => ?_)
      refine R_getR hc fl_10_125 dX10_cell_100 hw (fun t32 hw => ?_)
      refine R_getI hc fl_10_128 dX10_cell_103 hw (fun t33 hw => ?_)
      exact R_ireturnT hc hret rfl ⟨Nat.zero_le _, Nat.zero_le _⟩ hQ hw dX10_cell_106
    · refine R_acmp_ne (tgt := 42) hc dX10_cell_32 (by decide) hw (fun hw => ?_) (fun hw => ?_)
      · refine R_aload_n (q := 0) (i := 0) (v := (some l0)) hc dX10_cell_42 rfl rfl ?_
        refine R_getR hc fl_10_75 dX10_cell_43 hw (fun t9 hw => ?_)
        refine R_sub hc [0] rfl ?_
        exact (wpO_some hw :)
      · refine R_aload_n (q := 0) (i := 0) (v := (some l0)) hc dX10_cell_35 rfl rfl ?_
        refine R_cVR (As := []) (rest := []) (r := (some l0)) (ci := 10) hc ml_10_117 mf_X10_notKept rfl (by decide) ⟨rfl, rfl⟩ ⟨le_b rfl, le_b rfl⟩ ⟨Nat.zero_le _, Nat.zero_le _⟩ (fun a v e => mt_X10_notKept e) rfl rfl (Nat.zero_le _) dX10_cell_36 hw (fun t11 hw => ?_)
        refine R_goto (tgt := 46) hc dX10_cell_39 (by decide) ?_
        refine R_sub hc [0] rfl ?_
        exact (wpO_some hw :)
  · exact R_throwS (k := 0) (is := 112) hc hlt hex (by decide) tx_cl0 tx_in0 tx_g0 tx_b0 tx_o0 (text := "the text is wrong") (List.mem_of_getElem? (i := 0) rfl) ⟨le_b rfl, le_b rfl⟩ ⟨le_b rfl, le_b rfl⟩ ⟨le_b rfl, le_b rfl⟩ hQ hw dX10_cell_14 dX10_cell_17 dX10_cell_18 dX10_cell_20 dX10_cell_23
theorem dX10_pair_0 : decode cX10_pair 0 = .ok (.iload_n 1, 1) := by decide +kernel
theorem dX10_pair_1 : decode cX10_pair 1 = .ok (.ifCond .lt 17, 3) := by decide +kernel
theorem dX10_pair_4 : decode cX10_pair 4 = .ok (.iload_n 1, 1) := by decide +kernel
theorem dX10_pair_5 : decode cX10_pair 5 = .ok (.aload_n 0, 1) := by decide +kernel
theorem dX10_pair_6 : decode cX10_pair 6 = .ok (.getfield 75, 3) := by decide +kernel
theorem dX10_pair_9 : decode cX10_pair 9 = .ok (.getfield 125, 3) := by decide +kernel
theorem dX10_pair_12 : decode cX10_pair 12 = .ok (.getfield 140, 3) := by decide +kernel
theorem dX10_pair_15 : decode cX10_pair 15 = .ok (.if_icmp .lt 13, 3) := by decide +kernel
theorem dX10_pair_18 : decode cX10_pair 18 = .ok (.new 143, 3) := by decide +kernel
theorem dX10_pair_21 : decode cX10_pair 21 = .ok (.dup, 1) := by decide +kernel
theorem dX10_pair_22 : decode cX10_pair 22 = .ok (.ldc 145, 2) := by decide +kernel
theorem dX10_pair_24 : decode cX10_pair 24 = .ok (.invokespecial 147, 3) := by decide +kernel
theorem dX10_pair_27 : decode cX10_pair 27 = .ok (.athrow, 1) := by decide +kernel
theorem dX10_pair_28 : decode cX10_pair 28 = .ok (.iload_n 2, 1) := by decide +kernel
theorem dX10_pair_29 : decode cX10_pair 29 = .ok (.ifCond .lt 9, 3) := by decide +kernel
theorem dX10_pair_32 : decode cX10_pair 32 = .ok (.iload_n 2, 1) := by decide +kernel
theorem dX10_pair_33 : decode cX10_pair 33 = .ok (.bipush 6, 2) := by decide +kernel
theorem dX10_pair_35 : decode cX10_pair 35 = .ok (.if_icmp .le 13, 3) := by decide +kernel
theorem dX10_pair_38 : decode cX10_pair 38 = .ok (.new 148, 3) := by decide +kernel
theorem dX10_pair_41 : decode cX10_pair 41 = .ok (.dup, 1) := by decide +kernel
theorem dX10_pair_42 : decode cX10_pair 42 = .ok (.ldc 150, 2) := by decide +kernel
theorem dX10_pair_44 : decode cX10_pair 44 = .ok (.invokespecial 152, 3) := by decide +kernel
theorem dX10_pair_47 : decode cX10_pair 47 = .ok (.athrow, 1) := by decide +kernel
theorem dX10_pair_48 : decode cX10_pair 48 = .ok (.iload_n 2, 1) := by decide +kernel
theorem dX10_pair_49 : decode cX10_pair 49 = .ok (.bipush 6, 2) := by decide +kernel
theorem dX10_pair_51 : decode cX10_pair 51 = .ok (.if_icmp .ne 17, 3) := by decide +kernel
theorem dX10_pair_54 : decode cX10_pair 54 = .ok (.aload_n 0, 1) := by decide +kernel
theorem dX10_pair_55 : decode cX10_pair 55 = .ok (.getfield 75, 3) := by decide +kernel
theorem dX10_pair_58 : decode cX10_pair 58 = .ok (.getfield 125, 3) := by decide +kernel
theorem dX10_pair_61 : decode cX10_pair 61 = .ok (.iload_n 1, 1) := by decide +kernel
theorem dX10_pair_62 : decode cX10_pair 62 = .ok (.invokevirtual 153, 3) := by decide +kernel
theorem dX10_pair_65 : decode cX10_pair 65 = .ok (.goto 15, 3) := by decide +kernel
theorem dX10_pair_68 : decode cX10_pair 68 = .ok (.aload_n 0, 1) := by decide +kernel
theorem dX10_pair_69 : decode cX10_pair 69 = .ok (.getfield 75, 3) := by decide +kernel
theorem dX10_pair_72 : decode cX10_pair 72 = .ok (.getfield 125, 3) := by decide +kernel
theorem dX10_pair_75 : decode cX10_pair 75 = .ok (.iload_n 1, 1) := by decide +kernel
theorem dX10_pair_76 : decode cX10_pair 76 = .ok (.iload_n 2, 1) := by decide +kernel
theorem dX10_pair_77 : decode cX10_pair 77 = .ok (.invokevirtual 157, 3) := by decide +kernel
theorem dX10_pair_80 : decode cX10_pair 80 = .ok (.ireturn, 1) := by decide +kernel
def sX10_pair (F : Nat) (l0 : Nat) (l1 : Int32) (l2 : Int32) (h : HP) : Option ((Int32 ⊕ Nat) × HP) :=
  if l1 < 0 then
    some (.inr 1, h)
  else
    (gR h 10 (some l0) 12).bind fun t1 =>
    (gR h 4 t1 0).bind fun t2 =>
    (gI h 1 t2 4).bind fun t3 =>
    if l1 < t3 then
      if l2 < 0 then
        some (.inr 2, h)
      else
        if l2 ≤ (6 : Int32) then
          if ¬ l2 = (6 : Int32) then
            (gR h 10 (some l0) 12).bind fun t4 =>
            (gR h 4 t4 0).bind fun t5 =>
            (dO h 1 t5).bind fun a6 =>
            (sX1_partOf F a6 l1 l2 h).bind fun t7 =>
            some (.inl t7, h)
          else
            (gR h 10 (some l0) 12).bind fun t8 =>
            (gR h 4 t8 0).bind fun t9 =>
            (dO h 1 t9).bind fun a10 =>
            (sX1_fingersOf F a10 l1 h).bind fun t11 =>
            some (.inl t11, h)
        else
          some (.inr 2, h)
    else
      some (.inr 1, h)
abbrev rm_X10_pair : Room := { frames := 6, cells := 1, slots := 6, locals := 82 }
set_option maxRecDepth 100000 in
set_option maxHeartbeats 4000000 in
theorem mt_X10_pair {w : WD} {l : Launch} {F : Nat} (hlt : l.stackTraces = false) {l0 : Nat} {l1 : Int32} {l2 : Int32} {h : HP} {r : Int32 ⊕ Nat} {h' : HP} (hs : sX10_pair F l0 l1 l2 h = some (r, h')) : XI w l yX10_pair cX10_pair 3 .int rm_X10_pair [rf w (some l0), .int l1, .int l2] h r h' := by
  refine of_bodyT [(0, rf w (some l0)), (1, .int l1), (2, .int l2)] (by decide) (by simp [lg_sl, rf_cat, cat_i, cat_l, cat_a]) (by simp [lv_args, rf_cat, cat_i, cat_l, cat_a]) ?_
  intro x hw_ hnL_ hl_ hc hret hex hQ
  subst hw_; subst hl_
  have hnl : ∀ i, i < 3 → i < x.nL := fun i h => by rw [hnL_]; exact h
  have hw : wpO (sX10_pair F l0 l1 l2 h) (fun q => q = (r, h')) := ⟨_, hs, rfl⟩
  unfold sX10_pair at hw
  refine R_iload_n (q := 1) (i := 1) (v := l1) hc dX10_pair_0 rfl rfl ?_
  refine R_if_lt (tgt := 18) hc dX10_pair_1 (by decide) hw (fun hw => ?_) (fun hw => ?_)
  · exact R_throwS (k := 1) (is := 145) hc hlt hex (by decide) tx_cl1 tx_in1 tx_g1 tx_b1 tx_o1 (text := "there is no such pair") (List.mem_of_getElem? (i := 1) rfl) ⟨le_b rfl, le_b rfl⟩ ⟨le_b rfl, le_b rfl⟩ ⟨le_b rfl, le_b rfl⟩ hQ hw dX10_pair_18 dX10_pair_21 dX10_pair_22 dX10_pair_24 dX10_pair_27
  · refine R_iload_n (q := 1) (i := 1) (v := l1) hc dX10_pair_4 rfl rfl ?_
    refine R_aload_n (q := 0) (i := 0) (v := (some l0)) hc dX10_pair_5 rfl rfl ?_
    refine R_getR hc fl_10_75 dX10_pair_6 hw (fun t1 hw => ?_)
    refine R_getR hc fl_10_125 dX10_pair_9 hw (fun t2 hw => ?_)
    refine R_getI hc fl_10_140 dX10_pair_12 hw (fun t3 hw => ?_)
    refine R_icmp_lt (tgt := 28) hc dX10_pair_15 (by decide) hw (fun hw => ?_) (fun hw => ?_)
    · refine R_iload_n (q := 2) (i := 2) (v := l2) hc dX10_pair_28 rfl rfl ?_
      refine R_if_lt (tgt := 38) hc dX10_pair_29 (by decide) hw (fun hw => ?_) (fun hw => ?_)
      · exact R_throwN hc hlt hex (is := 150) (text := "a pair has no such thing") (List.mem_of_getElem? (i := 2) rfl) ⟨le_b rfl, le_b rfl⟩ ⟨le_b rfl, le_b rfl⟩ ⟨le_b rfl, le_b rfl⟩ hQ hw dX10_pair_38 dX10_pair_41 dX10_pair_42 dX10_pair_44 dX10_pair_47
      · refine R_iload_n (q := 2) (i := 2) (v := l2) hc dX10_pair_32 rfl rfl ?_
        refine R_bipush (v := (6 : Int32)) hc dX10_pair_33 kB_6 ?_
        refine R_icmp_le (tgt := 48) hc dX10_pair_35 (by decide) hw (fun hw => ?_) (fun hw => ?_)
        · refine R_iload_n (q := 2) (i := 2) (v := l2) hc dX10_pair_48 rfl rfl ?_
          refine R_bipush (v := (6 : Int32)) hc dX10_pair_49 kB_6 ?_
          refine R_icmp_ne (tgt := 68) hc dX10_pair_51 (by decide) hw (fun hw => ?_) (fun hw => ?_)
          · refine R_aload_n (q := 0) (i := 0) (v := (some l0)) hc dX10_pair_68 rfl rfl ?_
            refine R_getR hc fl_10_75 dX10_pair_69 hw (fun t4 hw => ?_)
            refine R_getR hc fl_10_125 dX10_pair_72 hw (fun t5 hw => ?_)
            refine R_iload_n (q := 1) (i := 1) (v := l1) hc dX10_pair_75 rfl rfl ?_
            refine R_iload_n (q := 2) (i := 2) (v := l2) hc dX10_pair_76 rfl rfl ?_
            refine R_cVI (As := [.int l1, .int l2]) (rest := []) (r := t5) (ci := 1) hc ml_10_157 mf_X1_partOf rfl (by decide) ⟨rfl, rfl⟩ ⟨le_b rfl, le_b rfl⟩ ⟨Nat.zero_le _, Nat.zero_le _⟩ (fun a v e => mt_X1_partOf e) rfl rfl (Nat.zero_le _) dX10_pair_77 hw (fun t7 hw => ?_)
            exact R_ireturnT hc hret rfl ⟨Nat.zero_le _, Nat.zero_le _⟩ hQ hw dX10_pair_80
          · refine R_aload_n (q := 0) (i := 0) (v := (some l0)) hc dX10_pair_54 rfl rfl ?_
            refine R_getR hc fl_10_75 dX10_pair_55 hw (fun t8 hw => ?_)
            refine R_getR hc fl_10_125 dX10_pair_58 hw (fun t9 hw => ?_)
            refine R_iload_n (q := 1) (i := 1) (v := l1) hc dX10_pair_61 rfl rfl ?_
            refine R_cVI (As := [.int l1]) (rest := []) (r := t9) (ci := 1) hc ml_10_153 mf_X1_fingersOf rfl (by decide) ⟨rfl, rfl⟩ ⟨le_b rfl, le_b rfl⟩ ⟨Nat.zero_le _, Nat.zero_le _⟩ (fun a v e => mt_X1_fingersOf e) rfl rfl (Nat.zero_le _) dX10_pair_62 hw (fun t11 hw => ?_)
            refine R_goto (tgt := 80) hc dX10_pair_65 (by decide) ?_
            exact R_ireturnT hc hret rfl ⟨Nat.zero_le _, Nat.zero_le _⟩ hQ hw dX10_pair_80
        · exact R_throwN hc hlt hex (is := 150) (text := "a pair has no such thing") (List.mem_of_getElem? (i := 2) rfl) ⟨le_b rfl, le_b rfl⟩ ⟨le_b rfl, le_b rfl⟩ ⟨le_b rfl, le_b rfl⟩ hQ hw dX10_pair_38 dX10_pair_41 dX10_pair_42 dX10_pair_44 dX10_pair_47
    · exact R_throwS (k := 1) (is := 145) hc hlt hex (by decide) tx_cl1 tx_in1 tx_g1 tx_b1 tx_o1 (text := "there is no such pair") (List.mem_of_getElem? (i := 1) rfl) ⟨le_b rfl, le_b rfl⟩ ⟨le_b rfl, le_b rfl⟩ ⟨le_b rfl, le_b rfl⟩ hQ hw dX10_pair_18 dX10_pair_21 dX10_pair_22 dX10_pair_24 dX10_pair_27
theorem dX10_at_0 : decode cX10_at 0 = .ok (.aload_n 0, 1) := by decide +kernel
theorem dX10_at_1 : decode cX10_at 1 = .ok (.iload_n 1, 1) := by decide +kernel
theorem dX10_at_2 : decode cX10_at 2 = .ok (.invokevirtual 161, 3) := by decide +kernel
theorem dX10_at_5 : decode cX10_at 5 = .ok (.ifCond .ne 13, 3) := by decide +kernel
theorem dX10_at_8 : decode cX10_at 8 = .ok (.new 143, 3) := by decide +kernel
theorem dX10_at_11 : decode cX10_at 11 = .ok (.dup, 1) := by decide +kernel
theorem dX10_at_12 : decode cX10_at 12 = .ok (.ldc 165, 2) := by decide +kernel
theorem dX10_at_14 : decode cX10_at 14 = .ok (.invokespecial 147, 3) := by decide +kernel
theorem dX10_at_17 : decode cX10_at 17 = .ok (.athrow, 1) := by decide +kernel
theorem dX10_at_18 : decode cX10_at 18 = .ok (.aload_n 0, 1) := by decide +kernel
theorem dX10_at_19 : decode cX10_at 19 = .ok (.getfield 31, 3) := by decide +kernel
theorem dX10_at_22 : decode cX10_at 22 = .ok (.iload_n 1, 1) := by decide +kernel
theorem dX10_at_23 : decode cX10_at 23 = .ok (.invokevirtual 167, 3) := by decide +kernel
theorem dX10_at_26 : decode cX10_at 26 = .ok (.istore_n 3, 1) := by decide +kernel
theorem dX10_at_27 : decode cX10_at 27 = .ok (.iload_n 2, 1) := by decide +kernel
theorem dX10_at_28 : decode cX10_at 28 = .ok (.tableswitch 134 0 5 #[40, 42, 55, 64, 74, 98], 40) := by decide +kernel
theorem dX10_at_68 : decode cX10_at 68 = .ok (.iload_n 3, 1) := by decide +kernel
theorem dX10_at_69 : decode cX10_at 69 = .ok (.ireturn, 1) := by decide +kernel
theorem dX10_at_70 : decode cX10_at 70 = .ok (.aload_n 0, 1) := by decide +kernel
theorem dX10_at_71 : decode cX10_at 71 = .ok (.getfield 75, 3) := by decide +kernel
theorem dX10_at_74 : decode cX10_at 74 = .ok (.getfield 125, 3) := by decide +kernel
theorem dX10_at_77 : decode cX10_at 77 = .ok (.getfield 170, 3) := by decide +kernel
theorem dX10_at_80 : decode cX10_at 80 = .ok (.iload_n 3, 1) := by decide +kernel
theorem dX10_at_81 : decode cX10_at 81 = .ok (.iaload, 1) := by decide +kernel
theorem dX10_at_82 : decode cX10_at 82 = .ok (.ireturn, 1) := by decide +kernel
theorem dX10_at_83 : decode cX10_at 83 = .ok (.aload_n 0, 1) := by decide +kernel
theorem dX10_at_84 : decode cX10_at 84 = .ok (.getfield 31, 3) := by decide +kernel
theorem dX10_at_87 : decode cX10_at 87 = .ok (.iload_n 1, 1) := by decide +kernel
theorem dX10_at_88 : decode cX10_at 88 = .ok (.invokevirtual 174, 3) := by decide +kernel
theorem dX10_at_91 : decode cX10_at 91 = .ok (.ireturn, 1) := by decide +kernel
theorem dX10_at_92 : decode cX10_at 92 = .ok (.aload_n 0, 1) := by decide +kernel
theorem dX10_at_93 : decode cX10_at 93 = .ok (.getfield 48, 3) := by decide +kernel
theorem dX10_at_96 : decode cX10_at 96 = .ok (.getfield 177, 3) := by decide +kernel
theorem dX10_at_99 : decode cX10_at 99 = .ok (.iload_n 1, 1) := by decide +kernel
theorem dX10_at_100 : decode cX10_at 100 = .ok (.iaload, 1) := by decide +kernel
theorem dX10_at_101 : decode cX10_at 101 = .ok (.ireturn, 1) := by decide +kernel
theorem dX10_at_102 : decode cX10_at 102 = .ok (.aload_n 0, 1) := by decide +kernel
theorem dX10_at_103 : decode cX10_at 103 = .ok (.getfield 31, 3) := by decide +kernel
theorem dX10_at_106 : decode cX10_at 106 = .ok (.aload_n 0, 1) := by decide +kernel
theorem dX10_at_107 : decode cX10_at 107 = .ok (.getfield 75, 3) := by decide +kernel
theorem dX10_at_110 : decode cX10_at 110 = .ok (.getfield 125, 3) := by decide +kernel
theorem dX10_at_113 : decode cX10_at 113 = .ok (.iload_n 1, 1) := by decide +kernel
theorem dX10_at_114 : decode cX10_at 114 = .ok (.invokevirtual 180, 3) := by decide +kernel
theorem dX10_at_117 : decode cX10_at 117 = .ok (.ifCond .eq 7, 3) := by decide +kernel
theorem dX10_at_120 : decode cX10_at 120 = .ok (.iconst 1, 1) := by decide +kernel
theorem dX10_at_121 : decode cX10_at 121 = .ok (.goto 4, 3) := by decide +kernel
theorem dX10_at_124 : decode cX10_at 124 = .ok (.iconst 0, 1) := by decide +kernel
theorem dX10_at_125 : decode cX10_at 125 = .ok (.ireturn, 1) := by decide +kernel
theorem dX10_at_126 : decode cX10_at 126 = .ok (.aload_n 0, 1) := by decide +kernel
theorem dX10_at_127 : decode cX10_at 127 = .ok (.getfield 48, 3) := by decide +kernel
theorem dX10_at_130 : decode cX10_at 130 = .ok (.aload_n 0, 1) := by decide +kernel
theorem dX10_at_131 : decode cX10_at 131 = .ok (.getfield 75, 3) := by decide +kernel
theorem dX10_at_134 : decode cX10_at 134 = .ok (.getfield 125, 3) := by decide +kernel
theorem dX10_at_137 : decode cX10_at 137 = .ok (.aload_n 0, 1) := by decide +kernel
theorem dX10_at_138 : decode cX10_at 138 = .ok (.getfield 75, 3) := by decide +kernel
theorem dX10_at_141 : decode cX10_at 141 = .ok (.getfield 125, 3) := by decide +kernel
theorem dX10_at_144 : decode cX10_at 144 = .ok (.getfield 170, 3) := by decide +kernel
theorem dX10_at_147 : decode cX10_at 147 = .ok (.iload_n 3, 1) := by decide +kernel
theorem dX10_at_148 : decode cX10_at 148 = .ok (.iaload, 1) := by decide +kernel
theorem dX10_at_149 : decode cX10_at 149 = .ok (.iload_n 1, 1) := by decide +kernel
theorem dX10_at_150 : decode cX10_at 150 = .ok (.invokevirtual 184, 3) := by decide +kernel
theorem dX10_at_153 : decode cX10_at 153 = .ok (.ifCond .eq 7, 3) := by decide +kernel
theorem dX10_at_156 : decode cX10_at 156 = .ok (.iconst 1, 1) := by decide +kernel
theorem dX10_at_157 : decode cX10_at 157 = .ok (.goto 4, 3) := by decide +kernel
theorem dX10_at_160 : decode cX10_at 160 = .ok (.iconst 0, 1) := by decide +kernel
theorem dX10_at_161 : decode cX10_at 161 = .ok (.ireturn, 1) := by decide +kernel
theorem dX10_at_162 : decode cX10_at 162 = .ok (.new 148, 3) := by decide +kernel
theorem dX10_at_165 : decode cX10_at 165 = .ok (.dup, 1) := by decide +kernel
theorem dX10_at_166 : decode cX10_at 166 = .ok (.ldc 188, 2) := by decide +kernel
theorem dX10_at_168 : decode cX10_at 168 = .ok (.invokespecial 152, 3) := by decide +kernel
theorem dX10_at_171 : decode cX10_at 171 = .ok (.athrow, 1) := by decide +kernel
def sX10_at (F : Nat) (l0 : Nat) (l1 : Int32) (l2 : Int32) (h : HP) : Option ((Int32 ⊕ Nat) × HP) :=
  (dO h 10 (some l0)).bind fun a1 =>
  (sX10_isPlace F a1 l1 h).bind fun t2 =>
  if ¬ t2 = 0 then
    (gR h 10 (some l0) 3).bind fun t3 =>
    (dO h 7 t3).bind fun a4 =>
    (sX7_fingerAt F a4 l1 h).bind fun t5 =>
    if l2 = (0 : Int32) then
      some (.inl t5, h)
    else if l2 = (1 : Int32) then
      (gR h 10 (some l0) 12).bind fun t6 =>
      (gR h 4 t6 0).bind fun t7 =>
      (gR h 1 t7 8).bind fun t8 =>
      (aI h 13 t8 t5).bind fun t9 =>
      some (.inl t9, h)
    else if l2 = (2 : Int32) then
      (gR h 10 (some l0) 3).bind fun t10 =>
      (dO h 7 t10).bind fun a11 =>
      (sX7_turnAt F a11 l1 h).bind fun t12 =>
      some (.inl t12, h)
    else if l2 = (3 : Int32) then
      (gR h 10 (some l0) 6).bind fun t13 =>
      (gR h 2 t13 6).bind fun t14 =>
      (aI h 13 t14 l1).bind fun t15 =>
      some (.inl t15, h)
    else if l2 = (4 : Int32) then
      (gR h 10 (some l0) 3).bind fun t16 =>
      (gR h 10 (some l0) 12).bind fun t17 =>
      (gR h 4 t17 0).bind fun t18 =>
      (dO h 7 t16).bind fun a19 =>
      (sX7_joinsNext F a19 t18 l1 h).bind fun t20 =>
      if t20 = 0 then
        some (.inl (0 : Int32), h)
      else
        some (.inl (1 : Int32), h)
    else if l2 = (5 : Int32) then
      (gR h 10 (some l0) 6).bind fun t21 =>
      (gR h 10 (some l0) 12).bind fun t22 =>
      (gR h 4 t22 0).bind fun t23 =>
      (gR h 10 (some l0) 12).bind fun t24 =>
      (gR h 4 t24 0).bind fun t25 =>
      (gR h 1 t25 8).bind fun t26 =>
      (aI h 13 t26 t5).bind fun t27 =>
      (dO h 2 t21).bind fun a28 =>
      (sX2_readBack F a28 t23 t27 l1 h).bind fun t29 =>
      if t29 = 0 then
        some (.inl (0 : Int32), h)
      else
        some (.inl (1 : Int32), h)
    else
      some (.inr 2, h)
  else
    some (.inr 1, h)
abbrev rm_X10_at : Room := { frames := 6, cells := 1, slots := 6, locals := 82 }
set_option maxRecDepth 100000 in
set_option maxHeartbeats 4000000 in
theorem mt_X10_at {w : WD} {l : Launch} {F : Nat} (hlt : l.stackTraces = false) {l0 : Nat} {l1 : Int32} {l2 : Int32} {h : HP} {r : Int32 ⊕ Nat} {h' : HP} (hs : sX10_at F l0 l1 l2 h = some (r, h')) : XI w l yX10_at cX10_at 4 .int rm_X10_at [rf w (some l0), .int l1, .int l2] h r h' := by
  refine of_bodyT [(0, rf w (some l0)), (1, .int l1), (2, .int l2)] (by decide) (by simp [lg_sl, rf_cat, cat_i, cat_l, cat_a]) (by simp [lv_args, rf_cat, cat_i, cat_l, cat_a]) ?_
  intro x hw_ hnL_ hl_ hc hret hex hQ
  subst hw_; subst hl_
  have hnl : ∀ i, i < 4 → i < x.nL := fun i h => by rw [hnL_]; exact h
  have hw : wpO (sX10_at F l0 l1 l2 h) (fun q => q = (r, h')) := ⟨_, hs, rfl⟩
  unfold sX10_at at hw
  refine R_aload_n (q := 0) (i := 0) (v := (some l0)) hc dX10_at_0 rfl rfl ?_
  refine R_iload_n (q := 1) (i := 1) (v := l1) hc dX10_at_1 rfl rfl ?_
  refine R_cVI (As := [.int l1]) (rest := []) (r := (some l0)) (ci := 10) hc ml_10_161 mf_X10_isPlace rfl (by decide) ⟨rfl, rfl⟩ ⟨le_b rfl, le_b rfl⟩ ⟨Nat.zero_le _, Nat.zero_le _⟩ (fun a v e => mt_X10_isPlace e) rfl rfl (Nat.zero_le _) dX10_at_2 hw (fun t2 hw => ?_)
  refine R_if_ne (tgt := 18) hc dX10_at_5 (by decide) hw (fun hw => ?_) (fun hw => ?_)
  · refine R_aload_n (q := 0) (i := 0) (v := (some l0)) hc dX10_at_18 rfl rfl ?_
    refine R_getR hc fl_10_31 dX10_at_19 hw (fun t3 hw => ?_)
    refine R_iload_n (q := 1) (i := 1) (v := l1) hc dX10_at_22 rfl rfl ?_
    refine R_cVI (As := [.int l1]) (rest := []) (r := t3) (ci := 7) hc ml_10_167 mf_X7_fingerAt rfl (by decide) ⟨rfl, rfl⟩ ⟨le_b rfl, le_b rfl⟩ ⟨Nat.zero_le _, Nat.zero_le _⟩ (fun a v e => mt_X7_fingerAt e) rfl rfl (Nat.zero_le _) dX10_at_23 hw (fun t5 hw => ?_)
    refine R_istore_n (i := 3) (v := t5) hc [(3, .int t5), (0, rf x.w (some l0)), (1, .int l1), (2, .int l2)] dX10_at_26 rfl (hnl 3 (le_b rfl)) rfl ?_
    refine R_iload_n (q := 3) (i := 2) (v := l2) hc dX10_at_27 rfl rfl ?_
    by_cases hk0 : l2 = (0 : Int32)
    · rw [if_pos hk0] at hw
      refine R_tsI (tgt := 68) hc dX10_at_28 (k := 0) (by rw [hk0]; decide) (by decide) (by decide) rfl (by decide) ?_
      refine R_iload_n (q := 0) (i := 3) (v := t5) hc dX10_at_68 rfl rfl ?_
      exact R_ireturnT hc hret rfl ⟨Nat.zero_le _, Nat.zero_le _⟩ hQ hw dX10_at_69
    rw [if_neg hk0] at hw
    by_cases hk1 : l2 = (1 : Int32)
    · rw [if_pos hk1] at hw
      refine R_tsI (tgt := 70) hc dX10_at_28 (k := 1) (by rw [hk1]; decide) (by decide) (by decide) rfl (by decide) ?_
      refine R_aload_n (q := 1) (i := 0) (v := (some l0)) hc dX10_at_70 rfl rfl ?_
      refine R_getR hc fl_10_75 dX10_at_71 hw (fun t6 hw => ?_)
      refine R_getR hc fl_10_125 dX10_at_74 hw (fun t7 hw => ?_)
      refine R_getR hc fl_10_170 dX10_at_77 hw (fun t8 hw => ?_)
      refine R_iload_n (q := 0) (i := 3) (v := t5) hc dX10_at_80 rfl rfl ?_
      refine R_iaload hc dX10_at_81 hw (fun t9 hw => ?_)
      exact R_ireturnT hc hret rfl ⟨Nat.zero_le _, Nat.zero_le _⟩ hQ hw dX10_at_82
    rw [if_neg hk1] at hw
    by_cases hk2 : l2 = (2 : Int32)
    · rw [if_pos hk2] at hw
      refine R_tsI (tgt := 83) hc dX10_at_28 (k := 2) (by rw [hk2]; decide) (by decide) (by decide) rfl (by decide) ?_
      refine R_aload_n (q := 1) (i := 0) (v := (some l0)) hc dX10_at_83 rfl rfl ?_
      refine R_getR hc fl_10_31 dX10_at_84 hw (fun t10 hw => ?_)
      refine R_iload_n (q := 2) (i := 1) (v := l1) hc dX10_at_87 rfl rfl ?_
      refine R_cVI (As := [.int l1]) (rest := []) (r := t10) (ci := 7) hc ml_10_174 mf_X7_turnAt rfl (by decide) ⟨rfl, rfl⟩ ⟨le_b rfl, le_b rfl⟩ ⟨Nat.zero_le _, Nat.zero_le _⟩ (fun a v e => mt_X7_turnAt e) rfl rfl (Nat.zero_le _) dX10_at_88 hw (fun t12 hw => ?_)
      exact R_ireturnT hc hret rfl ⟨Nat.zero_le _, Nat.zero_le _⟩ hQ hw dX10_at_91
    rw [if_neg hk2] at hw
    by_cases hk3 : l2 = (3 : Int32)
    · rw [if_pos hk3] at hw
      refine R_tsI (tgt := 92) hc dX10_at_28 (k := 3) (by rw [hk3]; decide) (by decide) (by decide) rfl (by decide) ?_
      refine R_aload_n (q := 1) (i := 0) (v := (some l0)) hc dX10_at_92 rfl rfl ?_
      refine R_getR hc fl_10_48 dX10_at_93 hw (fun t13 hw => ?_)
      refine R_getR hc fl_10_177 dX10_at_96 hw (fun t14 hw => ?_)
      refine R_iload_n (q := 2) (i := 1) (v := l1) hc dX10_at_99 rfl rfl ?_
      refine R_iaload hc dX10_at_100 hw (fun t15 hw => ?_)
      exact R_ireturnT hc hret rfl ⟨Nat.zero_le _, Nat.zero_le _⟩ hQ hw dX10_at_101
    rw [if_neg hk3] at hw
    by_cases hk4 : l2 = (4 : Int32)
    · rw [if_pos hk4] at hw
      refine R_tsI (tgt := 102) hc dX10_at_28 (k := 4) (by rw [hk4]; decide) (by decide) (by decide) rfl (by decide) ?_
      refine R_aload_n (q := 1) (i := 0) (v := (some l0)) hc dX10_at_102 rfl rfl ?_
      refine R_getR hc fl_10_31 dX10_at_103 hw (fun t16 hw => ?_)
      refine R_aload_n (q := 1) (i := 0) (v := (some l0)) hc dX10_at_106 rfl rfl ?_
      refine R_getR hc fl_10_75 dX10_at_107 hw (fun t17 hw => ?_)
      refine R_getR hc fl_10_125 dX10_at_110 hw (fun t18 hw => ?_)
      refine R_iload_n (q := 2) (i := 1) (v := l1) hc dX10_at_113 rfl rfl ?_
      refine R_cVI (As := [rf x.w t18, .int l1]) (rest := []) (r := t16) (ci := 7) hc ml_10_180 mf_X7_joinsNext rfl (by decide) ⟨rfl, rfl⟩ ⟨le_b rfl, le_b rfl⟩ ⟨Nat.zero_le _, Nat.zero_le _⟩ (fun a v e => mt_X7_joinsNext e) rfl rfl (Nat.zero_le _) dX10_at_114 hw (fun t20 hw => ?_)
      refine R_if_eq (tgt := 124) hc dX10_at_117 (by decide) hw (fun hw => ?_) (fun hw => ?_)
      · refine R_iconst (v := (0 : Int32)) hc dX10_at_124 kI_0 ?_
        exact R_ireturnT hc hret rfl ⟨Nat.zero_le _, Nat.zero_le _⟩ hQ hw dX10_at_125
      · refine R_iconst (v := (1 : Int32)) hc dX10_at_120 kI_1 ?_
        refine R_goto (tgt := 125) hc dX10_at_121 (by decide) ?_
        exact R_ireturnT hc hret rfl ⟨Nat.zero_le _, Nat.zero_le _⟩ hQ hw dX10_at_125
    rw [if_neg hk4] at hw
    by_cases hk5 : l2 = (5 : Int32)
    · rw [if_pos hk5] at hw
      refine R_tsI (tgt := 126) hc dX10_at_28 (k := 5) (by rw [hk5]; decide) (by decide) (by decide) rfl (by decide) ?_
      refine R_aload_n (q := 1) (i := 0) (v := (some l0)) hc dX10_at_126 rfl rfl ?_
      refine R_getR hc fl_10_48 dX10_at_127 hw (fun t21 hw => ?_)
      refine R_aload_n (q := 1) (i := 0) (v := (some l0)) hc dX10_at_130 rfl rfl ?_
      refine R_getR hc fl_10_75 dX10_at_131 hw (fun t22 hw => ?_)
      refine R_getR hc fl_10_125 dX10_at_134 hw (fun t23 hw => ?_)
      refine R_aload_n (q := 1) (i := 0) (v := (some l0)) hc dX10_at_137 rfl rfl ?_
      refine R_getR hc fl_10_75 dX10_at_138 hw (fun t24 hw => ?_)
      refine R_getR hc fl_10_125 dX10_at_141 hw (fun t25 hw => ?_)
      refine R_getR hc fl_10_170 dX10_at_144 hw (fun t26 hw => ?_)
      refine R_iload_n (q := 0) (i := 3) (v := t5) hc dX10_at_147 rfl rfl ?_
      refine R_iaload hc dX10_at_148 hw (fun t27 hw => ?_)
      refine R_iload_n (q := 2) (i := 1) (v := l1) hc dX10_at_149 rfl rfl ?_
      refine R_cVI (As := [rf x.w t23, .int t27, .int l1]) (rest := []) (r := t21) (ci := 2) hc ml_10_184 mf_X2_readBack rfl (by decide) ⟨rfl, rfl⟩ ⟨le_b rfl, le_b rfl⟩ ⟨Nat.zero_le _, Nat.zero_le _⟩ (fun a v e => mt_X2_readBack e) rfl rfl (Nat.zero_le _) dX10_at_150 hw (fun t29 hw => ?_)
      refine R_if_eq (tgt := 160) hc dX10_at_153 (by decide) hw (fun hw => ?_) (fun hw => ?_)
      · refine R_iconst (v := (0 : Int32)) hc dX10_at_160 kI_0 ?_
        exact R_ireturnT hc hret rfl ⟨Nat.zero_le _, Nat.zero_le _⟩ hQ hw dX10_at_161
      · refine R_iconst (v := (1 : Int32)) hc dX10_at_156 kI_1 ?_
        refine R_goto (tgt := 161) hc dX10_at_157 (by decide) ?_
        exact R_ireturnT hc hret rfl ⟨Nat.zero_le _, Nat.zero_le _⟩ hQ hw dX10_at_161
    rw [if_neg hk5] at hw
    refine R_tsO (tgt := 162) hc dX10_at_28 (by have q0 := lv_neT hk0 (a := 0) (by decide); have q1 := lv_neT hk1 (a := 1) (by decide); have q2 := lv_neT hk2 (a := 2) (by decide); have q3 := lv_neT hk3 (a := 3) (by decide); have q4 := lv_neT hk4 (a := 4) (by decide); have q5 := lv_neT hk5 (a := 5) (by decide); omega) (by decide) ?_
    exact R_throwN hc hlt hex (is := 188) (text := "a place has no such thing") (List.mem_of_getElem? (i := 4) rfl) ⟨le_b rfl, le_b rfl⟩ ⟨le_b rfl, le_b rfl⟩ ⟨le_b rfl, le_b rfl⟩ hQ hw dX10_at_162 dX10_at_165 dX10_at_166 dX10_at_168 dX10_at_171
  · exact R_throwS (k := 1) (is := 165) hc hlt hex (by decide) tx_cl1 tx_in1 tx_g1 tx_b1 tx_o1 (text := "there is no such place") (List.mem_of_getElem? (i := 3) rfl) ⟨le_b rfl, le_b rfl⟩ ⟨le_b rfl, le_b rfl⟩ ⟨le_b rfl, le_b rfl⟩ hQ hw dX10_at_8 dX10_at_11 dX10_at_12 dX10_at_14 dX10_at_17
theorem dX10_column_0 : decode cX10_column 0 = .ok (.iload_n 1, 1) := by decide +kernel
theorem dX10_column_1 : decode cX10_column 1 = .ok (.ifCond .lt 14, 3) := by decide +kernel
theorem dX10_column_4 : decode cX10_column 4 = .ok (.iload_n 1, 1) := by decide +kernel
theorem dX10_column_5 : decode cX10_column 5 = .ok (.aload_n 0, 1) := by decide +kernel
theorem dX10_column_6 : decode cX10_column 6 = .ok (.getfield 48, 3) := by decide +kernel
theorem dX10_column_9 : decode cX10_column 9 = .ok (.getfield 190, 3) := by decide +kernel
theorem dX10_column_12 : decode cX10_column 12 = .ok (.if_icmp .lt 13, 3) := by decide +kernel
theorem dX10_column_15 : decode cX10_column 15 = .ok (.new 143, 3) := by decide +kernel
theorem dX10_column_18 : decode cX10_column 18 = .ok (.dup, 1) := by decide +kernel
theorem dX10_column_19 : decode cX10_column 19 = .ok (.ldc 193, 2) := by decide +kernel
theorem dX10_column_21 : decode cX10_column 21 = .ok (.invokespecial 147, 3) := by decide +kernel
theorem dX10_column_24 : decode cX10_column 24 = .ok (.athrow, 1) := by decide +kernel
theorem dX10_column_25 : decode cX10_column 25 = .ok (.iload_n 2, 1) := by decide +kernel
theorem dX10_column_26 : decode cX10_column 26 = .ok (.tableswitch 70 0 3 #[30, 40, 50, 60], 30) := by decide +kernel
theorem dX10_column_56 : decode cX10_column 56 = .ok (.aload_n 0, 1) := by decide +kernel
theorem dX10_column_57 : decode cX10_column 57 = .ok (.getfield 48, 3) := by decide +kernel
theorem dX10_column_60 : decode cX10_column 60 = .ok (.getfield 195, 3) := by decide +kernel
theorem dX10_column_63 : decode cX10_column 63 = .ok (.iload_n 1, 1) := by decide +kernel
theorem dX10_column_64 : decode cX10_column 64 = .ok (.iaload, 1) := by decide +kernel
theorem dX10_column_65 : decode cX10_column 65 = .ok (.ireturn, 1) := by decide +kernel
theorem dX10_column_66 : decode cX10_column 66 = .ok (.aload_n 0, 1) := by decide +kernel
theorem dX10_column_67 : decode cX10_column 67 = .ok (.getfield 48, 3) := by decide +kernel
theorem dX10_column_70 : decode cX10_column 70 = .ok (.getfield 198, 3) := by decide +kernel
theorem dX10_column_73 : decode cX10_column 73 = .ok (.iload_n 1, 1) := by decide +kernel
theorem dX10_column_74 : decode cX10_column 74 = .ok (.iaload, 1) := by decide +kernel
theorem dX10_column_75 : decode cX10_column 75 = .ok (.ireturn, 1) := by decide +kernel
theorem dX10_column_76 : decode cX10_column 76 = .ok (.aload_n 0, 1) := by decide +kernel
theorem dX10_column_77 : decode cX10_column 77 = .ok (.getfield 48, 3) := by decide +kernel
theorem dX10_column_80 : decode cX10_column 80 = .ok (.getfield 201, 3) := by decide +kernel
theorem dX10_column_83 : decode cX10_column 83 = .ok (.iload_n 1, 1) := by decide +kernel
theorem dX10_column_84 : decode cX10_column 84 = .ok (.iaload, 1) := by decide +kernel
theorem dX10_column_85 : decode cX10_column 85 = .ok (.ireturn, 1) := by decide +kernel
theorem dX10_column_86 : decode cX10_column 86 = .ok (.aload_n 0, 1) := by decide +kernel
theorem dX10_column_87 : decode cX10_column 87 = .ok (.getfield 55, 3) := by decide +kernel
theorem dX10_column_90 : decode cX10_column 90 = .ok (.getfield 204, 3) := by decide +kernel
theorem dX10_column_93 : decode cX10_column 93 = .ok (.iload_n 1, 1) := by decide +kernel
theorem dX10_column_94 : decode cX10_column 94 = .ok (.iaload, 1) := by decide +kernel
theorem dX10_column_95 : decode cX10_column 95 = .ok (.ireturn, 1) := by decide +kernel
theorem dX10_column_96 : decode cX10_column 96 = .ok (.new 148, 3) := by decide +kernel
theorem dX10_column_99 : decode cX10_column 99 = .ok (.dup, 1) := by decide +kernel
theorem dX10_column_100 : decode cX10_column 100 = .ok (.ldc 207, 2) := by decide +kernel
theorem dX10_column_102 : decode cX10_column 102 = .ok (.invokespecial 152, 3) := by decide +kernel
theorem dX10_column_105 : decode cX10_column 105 = .ok (.athrow, 1) := by decide +kernel
def sX10_column (F : Nat) (l0 : Nat) (l1 : Int32) (l2 : Int32) (h : HP) : Option ((Int32 ⊕ Nat) × HP) :=
  if l1 < 0 then
    some (.inr 1, h)
  else
    (gR h 10 (some l0) 6).bind fun t1 =>
    (gI h 2 t1 2).bind fun t2 =>
    if l1 < t2 then
      if l2 = (0 : Int32) then
        (gR h 10 (some l0) 6).bind fun t3 =>
        (gR h 2 t3 3).bind fun t4 =>
        (aI h 13 t4 l1).bind fun t5 =>
        some (.inl t5, h)
      else if l2 = (1 : Int32) then
        (gR h 10 (some l0) 6).bind fun t6 =>
        (gR h 2 t6 4).bind fun t7 =>
        (aI h 13 t7 l1).bind fun t8 =>
        some (.inl t8, h)
      else if l2 = (2 : Int32) then
        (gR h 10 (some l0) 6).bind fun t9 =>
        (gR h 2 t9 5).bind fun t10 =>
        (aI h 13 t10 l1).bind fun t11 =>
        some (.inl t11, h)
      else if l2 = (3 : Int32) then
        (gR h 10 (some l0) 7).bind fun t12 =>
        (gR h 9 t12 8).bind fun t13 =>
        (aI h 13 t13 l1).bind fun t14 =>
        some (.inl t14, h)
      else
        some (.inr 2, h)
    else
      some (.inr 1, h)
abbrev rm_X10_column : Room := { frames := 6, cells := 1, slots := 6, locals := 82 }
set_option maxRecDepth 100000 in
set_option maxHeartbeats 4000000 in
theorem mt_X10_column {w : WD} {l : Launch} {F : Nat} (hlt : l.stackTraces = false) {l0 : Nat} {l1 : Int32} {l2 : Int32} {h : HP} {r : Int32 ⊕ Nat} {h' : HP} (hs : sX10_column F l0 l1 l2 h = some (r, h')) : XI w l yX10_column cX10_column 3 .int rm_X10_column [rf w (some l0), .int l1, .int l2] h r h' := by
  refine of_bodyT [(0, rf w (some l0)), (1, .int l1), (2, .int l2)] (by decide) (by simp [lg_sl, rf_cat, cat_i, cat_l, cat_a]) (by simp [lv_args, rf_cat, cat_i, cat_l, cat_a]) ?_
  intro x hw_ hnL_ hl_ hc hret hex hQ
  subst hw_; subst hl_
  have hnl : ∀ i, i < 3 → i < x.nL := fun i h => by rw [hnL_]; exact h
  have hw : wpO (sX10_column F l0 l1 l2 h) (fun q => q = (r, h')) := ⟨_, hs, rfl⟩
  unfold sX10_column at hw
  refine R_iload_n (q := 1) (i := 1) (v := l1) hc dX10_column_0 rfl rfl ?_
  refine R_if_lt (tgt := 15) hc dX10_column_1 (by decide) hw (fun hw => ?_) (fun hw => ?_)
  · exact R_throwS (k := 1) (is := 193) hc hlt hex (by decide) tx_cl1 tx_in1 tx_g1 tx_b1 tx_o1 (text := "there is no such column") (List.mem_of_getElem? (i := 5) rfl) ⟨le_b rfl, le_b rfl⟩ ⟨le_b rfl, le_b rfl⟩ ⟨le_b rfl, le_b rfl⟩ hQ hw dX10_column_15 dX10_column_18 dX10_column_19 dX10_column_21 dX10_column_24
  · refine R_iload_n (q := 1) (i := 1) (v := l1) hc dX10_column_4 rfl rfl ?_
    refine R_aload_n (q := 0) (i := 0) (v := (some l0)) hc dX10_column_5 rfl rfl ?_
    refine R_getR hc fl_10_48 dX10_column_6 hw (fun t1 hw => ?_)
    refine R_getI hc fl_10_190 dX10_column_9 hw (fun t2 hw => ?_)
    refine R_icmp_lt (tgt := 25) hc dX10_column_12 (by decide) hw (fun hw => ?_) (fun hw => ?_)
    · refine R_iload_n (q := 2) (i := 2) (v := l2) hc dX10_column_25 rfl rfl ?_
      by_cases hk0 : l2 = (0 : Int32)
      · rw [if_pos hk0] at hw
        refine R_tsI (tgt := 56) hc dX10_column_26 (k := 0) (by rw [hk0]; decide) (by decide) (by decide) rfl (by decide) ?_
        refine R_aload_n (q := 0) (i := 0) (v := (some l0)) hc dX10_column_56 rfl rfl ?_
        refine R_getR hc fl_10_48 dX10_column_57 hw (fun t3 hw => ?_)
        refine R_getR hc fl_10_195 dX10_column_60 hw (fun t4 hw => ?_)
        refine R_iload_n (q := 1) (i := 1) (v := l1) hc dX10_column_63 rfl rfl ?_
        refine R_iaload hc dX10_column_64 hw (fun t5 hw => ?_)
        exact R_ireturnT hc hret rfl ⟨Nat.zero_le _, Nat.zero_le _⟩ hQ hw dX10_column_65
      rw [if_neg hk0] at hw
      by_cases hk1 : l2 = (1 : Int32)
      · rw [if_pos hk1] at hw
        refine R_tsI (tgt := 66) hc dX10_column_26 (k := 1) (by rw [hk1]; decide) (by decide) (by decide) rfl (by decide) ?_
        refine R_aload_n (q := 0) (i := 0) (v := (some l0)) hc dX10_column_66 rfl rfl ?_
        refine R_getR hc fl_10_48 dX10_column_67 hw (fun t6 hw => ?_)
        refine R_getR hc fl_10_198 dX10_column_70 hw (fun t7 hw => ?_)
        refine R_iload_n (q := 1) (i := 1) (v := l1) hc dX10_column_73 rfl rfl ?_
        refine R_iaload hc dX10_column_74 hw (fun t8 hw => ?_)
        exact R_ireturnT hc hret rfl ⟨Nat.zero_le _, Nat.zero_le _⟩ hQ hw dX10_column_75
      rw [if_neg hk1] at hw
      by_cases hk2 : l2 = (2 : Int32)
      · rw [if_pos hk2] at hw
        refine R_tsI (tgt := 76) hc dX10_column_26 (k := 2) (by rw [hk2]; decide) (by decide) (by decide) rfl (by decide) ?_
        refine R_aload_n (q := 0) (i := 0) (v := (some l0)) hc dX10_column_76 rfl rfl ?_
        refine R_getR hc fl_10_48 dX10_column_77 hw (fun t9 hw => ?_)
        refine R_getR hc fl_10_201 dX10_column_80 hw (fun t10 hw => ?_)
        refine R_iload_n (q := 1) (i := 1) (v := l1) hc dX10_column_83 rfl rfl ?_
        refine R_iaload hc dX10_column_84 hw (fun t11 hw => ?_)
        exact R_ireturnT hc hret rfl ⟨Nat.zero_le _, Nat.zero_le _⟩ hQ hw dX10_column_85
      rw [if_neg hk2] at hw
      by_cases hk3 : l2 = (3 : Int32)
      · rw [if_pos hk3] at hw
        refine R_tsI (tgt := 86) hc dX10_column_26 (k := 3) (by rw [hk3]; decide) (by decide) (by decide) rfl (by decide) ?_
        refine R_aload_n (q := 0) (i := 0) (v := (some l0)) hc dX10_column_86 rfl rfl ?_
        refine R_getR hc fl_10_55 dX10_column_87 hw (fun t12 hw => ?_)
        refine R_getR hc fl_10_204 dX10_column_90 hw (fun t13 hw => ?_)
        refine R_iload_n (q := 1) (i := 1) (v := l1) hc dX10_column_93 rfl rfl ?_
        refine R_iaload hc dX10_column_94 hw (fun t14 hw => ?_)
        exact R_ireturnT hc hret rfl ⟨Nat.zero_le _, Nat.zero_le _⟩ hQ hw dX10_column_95
      rw [if_neg hk3] at hw
      refine R_tsO (tgt := 96) hc dX10_column_26 (by have q0 := lv_neT hk0 (a := 0) (by decide); have q1 := lv_neT hk1 (a := 1) (by decide); have q2 := lv_neT hk2 (a := 2) (by decide); have q3 := lv_neT hk3 (a := 3) (by decide); omega) (by decide) ?_
      exact R_throwN hc hlt hex (is := 207) (text := "a column has no such thing") (List.mem_of_getElem? (i := 6) rfl) ⟨le_b rfl, le_b rfl⟩ ⟨le_b rfl, le_b rfl⟩ ⟨le_b rfl, le_b rfl⟩ hQ hw dX10_column_96 dX10_column_99 dX10_column_100 dX10_column_102 dX10_column_105
    · exact R_throwS (k := 1) (is := 193) hc hlt hex (by decide) tx_cl1 tx_in1 tx_g1 tx_b1 tx_o1 (text := "there is no such column") (List.mem_of_getElem? (i := 5) rfl) ⟨le_b rfl, le_b rfl⟩ ⟨le_b rfl, le_b rfl⟩ ⟨le_b rfl, le_b rfl⟩ hQ hw dX10_column_15 dX10_column_18 dX10_column_19 dX10_column_21 dX10_column_24
theorem dX10_net_0 : decode cX10_net 0 = .ok (.iload_n 1, 1) := by decide +kernel
theorem dX10_net_1 : decode cX10_net 1 = .ok (.invokestatic 209, 3) := by decide +kernel
theorem dX10_net_4 : decode cX10_net 4 = .ok (.ifCond .ne 13, 3) := by decide +kernel
theorem dX10_net_7 : decode cX10_net 7 = .ok (.new 143, 3) := by decide +kernel
theorem dX10_net_10 : decode cX10_net 10 = .ok (.dup, 1) := by decide +kernel
theorem dX10_net_11 : decode cX10_net 11 = .ok (.ldc 212, 2) := by decide +kernel
theorem dX10_net_13 : decode cX10_net 13 = .ok (.invokespecial 147, 3) := by decide +kernel
theorem dX10_net_16 : decode cX10_net 16 = .ok (.athrow, 1) := by decide +kernel
theorem dX10_net_17 : decode cX10_net 17 = .ok (.iload_n 2, 1) := by decide +kernel
theorem dX10_net_18 : decode cX10_net 18 = .ok (.tableswitch 150 0 8 #[50, 60, 70, 80, 95, 110, 120, 130, 140], 50) := by decide +kernel
theorem dX10_net_68 : decode cX10_net 68 = .ok (.aload_n 0, 1) := by decide +kernel
theorem dX10_net_69 : decode cX10_net 69 = .ok (.getfield 55, 3) := by decide +kernel
theorem dX10_net_72 : decode cX10_net 72 = .ok (.getfield 214, 3) := by decide +kernel
theorem dX10_net_75 : decode cX10_net 75 = .ok (.iload_n 1, 1) := by decide +kernel
theorem dX10_net_76 : decode cX10_net 76 = .ok (.iaload, 1) := by decide +kernel
theorem dX10_net_77 : decode cX10_net 77 = .ok (.ireturn, 1) := by decide +kernel
theorem dX10_net_78 : decode cX10_net 78 = .ok (.aload_n 0, 1) := by decide +kernel
theorem dX10_net_79 : decode cX10_net 79 = .ok (.getfield 55, 3) := by decide +kernel
theorem dX10_net_82 : decode cX10_net 82 = .ok (.getfield 217, 3) := by decide +kernel
theorem dX10_net_85 : decode cX10_net 85 = .ok (.iload_n 1, 1) := by decide +kernel
theorem dX10_net_86 : decode cX10_net 86 = .ok (.iaload, 1) := by decide +kernel
theorem dX10_net_87 : decode cX10_net 87 = .ok (.ireturn, 1) := by decide +kernel
theorem dX10_net_88 : decode cX10_net 88 = .ok (.aload_n 0, 1) := by decide +kernel
theorem dX10_net_89 : decode cX10_net 89 = .ok (.getfield 55, 3) := by decide +kernel
theorem dX10_net_92 : decode cX10_net 92 = .ok (.getfield 220, 3) := by decide +kernel
theorem dX10_net_95 : decode cX10_net 95 = .ok (.iload_n 1, 1) := by decide +kernel
theorem dX10_net_96 : decode cX10_net 96 = .ok (.iaload, 1) := by decide +kernel
theorem dX10_net_97 : decode cX10_net 97 = .ok (.ireturn, 1) := by decide +kernel
theorem dX10_net_98 : decode cX10_net 98 = .ok (.aload_n 0, 1) := by decide +kernel
theorem dX10_net_99 : decode cX10_net 99 = .ok (.getfield 75, 3) := by decide +kernel
theorem dX10_net_102 : decode cX10_net 102 = .ok (.getfield 125, 3) := by decide +kernel
theorem dX10_net_105 : decode cX10_net 105 = .ok (.getfield 223, 3) := by decide +kernel
theorem dX10_net_108 : decode cX10_net 108 = .ok (.iload_n 1, 1) := by decide +kernel
theorem dX10_net_109 : decode cX10_net 109 = .ok (.ishr, 1) := by decide +kernel
theorem dX10_net_110 : decode cX10_net 110 = .ok (.iconst 1, 1) := by decide +kernel
theorem dX10_net_111 : decode cX10_net 111 = .ok (.iand, 1) := by decide +kernel
theorem dX10_net_112 : decode cX10_net 112 = .ok (.ireturn, 1) := by decide +kernel
theorem dX10_net_113 : decode cX10_net 113 = .ok (.aload_n 0, 1) := by decide +kernel
theorem dX10_net_114 : decode cX10_net 114 = .ok (.getfield 75, 3) := by decide +kernel
theorem dX10_net_117 : decode cX10_net 117 = .ok (.getfield 125, 3) := by decide +kernel
theorem dX10_net_120 : decode cX10_net 120 = .ok (.getfield 226, 3) := by decide +kernel
theorem dX10_net_123 : decode cX10_net 123 = .ok (.iload_n 1, 1) := by decide +kernel
theorem dX10_net_124 : decode cX10_net 124 = .ok (.ishr, 1) := by decide +kernel
theorem dX10_net_125 : decode cX10_net 125 = .ok (.iconst 1, 1) := by decide +kernel
theorem dX10_net_126 : decode cX10_net 126 = .ok (.iand, 1) := by decide +kernel
theorem dX10_net_127 : decode cX10_net 127 = .ok (.ireturn, 1) := by decide +kernel
theorem dX10_net_128 : decode cX10_net 128 = .ok (.aload_n 0, 1) := by decide +kernel
theorem dX10_net_129 : decode cX10_net 129 = .ok (.getfield 55, 3) := by decide +kernel
theorem dX10_net_132 : decode cX10_net 132 = .ok (.getfield 229, 3) := by decide +kernel
theorem dX10_net_135 : decode cX10_net 135 = .ok (.iload_n 1, 1) := by decide +kernel
theorem dX10_net_136 : decode cX10_net 136 = .ok (.iaload, 1) := by decide +kernel
theorem dX10_net_137 : decode cX10_net 137 = .ok (.ireturn, 1) := by decide +kernel
theorem dX10_net_138 : decode cX10_net 138 = .ok (.aload_n 0, 1) := by decide +kernel
theorem dX10_net_139 : decode cX10_net 139 = .ok (.getfield 55, 3) := by decide +kernel
theorem dX10_net_142 : decode cX10_net 142 = .ok (.getfield 232, 3) := by decide +kernel
theorem dX10_net_145 : decode cX10_net 145 = .ok (.iload_n 1, 1) := by decide +kernel
theorem dX10_net_146 : decode cX10_net 146 = .ok (.iaload, 1) := by decide +kernel
theorem dX10_net_147 : decode cX10_net 147 = .ok (.ireturn, 1) := by decide +kernel
theorem dX10_net_148 : decode cX10_net 148 = .ok (.aload_n 0, 1) := by decide +kernel
theorem dX10_net_149 : decode cX10_net 149 = .ok (.getfield 55, 3) := by decide +kernel
theorem dX10_net_152 : decode cX10_net 152 = .ok (.getfield 235, 3) := by decide +kernel
theorem dX10_net_155 : decode cX10_net 155 = .ok (.iload_n 1, 1) := by decide +kernel
theorem dX10_net_156 : decode cX10_net 156 = .ok (.iaload, 1) := by decide +kernel
theorem dX10_net_157 : decode cX10_net 157 = .ok (.ireturn, 1) := by decide +kernel
theorem dX10_net_158 : decode cX10_net 158 = .ok (.aload_n 0, 1) := by decide +kernel
theorem dX10_net_159 : decode cX10_net 159 = .ok (.getfield 55, 3) := by decide +kernel
theorem dX10_net_162 : decode cX10_net 162 = .ok (.getfield 238, 3) := by decide +kernel
theorem dX10_net_165 : decode cX10_net 165 = .ok (.iload_n 1, 1) := by decide +kernel
theorem dX10_net_166 : decode cX10_net 166 = .ok (.iaload, 1) := by decide +kernel
theorem dX10_net_167 : decode cX10_net 167 = .ok (.ireturn, 1) := by decide +kernel
theorem dX10_net_168 : decode cX10_net 168 = .ok (.new 148, 3) := by decide +kernel
theorem dX10_net_171 : decode cX10_net 171 = .ok (.dup, 1) := by decide +kernel
theorem dX10_net_172 : decode cX10_net 172 = .ok (.ldc 241, 2) := by decide +kernel
theorem dX10_net_174 : decode cX10_net 174 = .ok (.invokespecial 152, 3) := by decide +kernel
theorem dX10_net_177 : decode cX10_net 177 = .ok (.athrow, 1) := by decide +kernel
def sX10_net (F : Nat) (l0 : Nat) (l1 : Int32) (l2 : Int32) (h : HP) : Option ((Int32 ⊕ Nat) × HP) :=
  (sX10_isNet F l1 h).bind fun t1 =>
  if ¬ t1 = 0 then
    if l2 = (0 : Int32) then
      (gR h 10 (some l0) 7).bind fun t2 =>
      (gR h 9 t2 1).bind fun t3 =>
      (aI h 13 t3 l1).bind fun t4 =>
      some (.inl t4, h)
    else if l2 = (1 : Int32) then
      (gR h 10 (some l0) 7).bind fun t5 =>
      (gR h 9 t5 2).bind fun t6 =>
      (aI h 13 t6 l1).bind fun t7 =>
      some (.inl t7, h)
    else if l2 = (2 : Int32) then
      (gR h 10 (some l0) 7).bind fun t8 =>
      (gR h 9 t8 3).bind fun t9 =>
      (aI h 13 t9 l1).bind fun t10 =>
      some (.inl t10, h)
    else if l2 = (3 : Int32) then
      (gR h 10 (some l0) 12).bind fun t11 =>
      (gR h 4 t11 0).bind fun t12 =>
      (gI h 1 t12 2).bind fun t13 =>
      some (.inl ((jshr t13 l1) &&& (1 : Int32)), h)
    else if l2 = (4 : Int32) then
      (gR h 10 (some l0) 12).bind fun t14 =>
      (gR h 4 t14 0).bind fun t15 =>
      (gI h 1 t15 3).bind fun t16 =>
      some (.inl ((jshr t16 l1) &&& (1 : Int32)), h)
    else if l2 = (5 : Int32) then
      (gR h 10 (some l0) 7).bind fun t17 =>
      (gR h 9 t17 4).bind fun t18 =>
      (aI h 13 t18 l1).bind fun t19 =>
      some (.inl t19, h)
    else if l2 = (6 : Int32) then
      (gR h 10 (some l0) 7).bind fun t20 =>
      (gR h 9 t20 5).bind fun t21 =>
      (aI h 13 t21 l1).bind fun t22 =>
      some (.inl t22, h)
    else if l2 = (7 : Int32) then
      (gR h 10 (some l0) 7).bind fun t23 =>
      (gR h 9 t23 6).bind fun t24 =>
      (aI h 13 t24 l1).bind fun t25 =>
      some (.inl t25, h)
    else if l2 = (8 : Int32) then
      (gR h 10 (some l0) 7).bind fun t26 =>
      (gR h 9 t26 7).bind fun t27 =>
      (aI h 13 t27 l1).bind fun t28 =>
      some (.inl t28, h)
    else
      some (.inr 2, h)
  else
    some (.inr 1, h)
abbrev rm_X10_net : Room := { frames := 6, cells := 1, slots := 6, locals := 82 }
set_option maxRecDepth 100000 in
set_option maxHeartbeats 4000000 in
theorem mt_X10_net {w : WD} {l : Launch} {F : Nat} (hlt : l.stackTraces = false) {l0 : Nat} {l1 : Int32} {l2 : Int32} {h : HP} {r : Int32 ⊕ Nat} {h' : HP} (hs : sX10_net F l0 l1 l2 h = some (r, h')) : XI w l yX10_net cX10_net 3 .int rm_X10_net [rf w (some l0), .int l1, .int l2] h r h' := by
  refine of_bodyT [(0, rf w (some l0)), (1, .int l1), (2, .int l2)] (by decide) (by simp [lg_sl, rf_cat, cat_i, cat_l, cat_a]) (by simp [lv_args, rf_cat, cat_i, cat_l, cat_a]) ?_
  intro x hw_ hnL_ hl_ hc hret hex hQ
  subst hw_; subst hl_
  have hnl : ∀ i, i < 3 → i < x.nL := fun i h => by rw [hnL_]; exact h
  have hw : wpO (sX10_net F l0 l1 l2 h) (fun q => q = (r, h')) := ⟨_, hs, rfl⟩
  unfold sX10_net at hw
  refine R_iload_n (q := 1) (i := 1) (v := l1) hc dX10_net_0 rfl rfl ?_
  refine R_cSI (As := [.int l1]) (rest := []) hc ml_10_209 mf_X10_isNet ⟨rfl, rfl⟩ ⟨le_b rfl, le_b rfl⟩ ⟨Nat.zero_le _, Nat.zero_le _⟩ (fun v e => mt_X10_isNet e) rfl rfl (Nat.zero_le _) dX10_net_1 hw (fun t1 hw => ?_)
  refine R_if_ne (tgt := 17) hc dX10_net_4 (by decide) hw (fun hw => ?_) (fun hw => ?_)
  · refine R_iload_n (q := 2) (i := 2) (v := l2) hc dX10_net_17 rfl rfl ?_
    by_cases hk0 : l2 = (0 : Int32)
    · rw [if_pos hk0] at hw
      refine R_tsI (tgt := 68) hc dX10_net_18 (k := 0) (by rw [hk0]; decide) (by decide) (by decide) rfl (by decide) ?_
      refine R_aload_n (q := 0) (i := 0) (v := (some l0)) hc dX10_net_68 rfl rfl ?_
      refine R_getR hc fl_10_55 dX10_net_69 hw (fun t2 hw => ?_)
      refine R_getR hc fl_10_214 dX10_net_72 hw (fun t3 hw => ?_)
      refine R_iload_n (q := 1) (i := 1) (v := l1) hc dX10_net_75 rfl rfl ?_
      refine R_iaload hc dX10_net_76 hw (fun t4 hw => ?_)
      exact R_ireturnT hc hret rfl ⟨Nat.zero_le _, Nat.zero_le _⟩ hQ hw dX10_net_77
    rw [if_neg hk0] at hw
    by_cases hk1 : l2 = (1 : Int32)
    · rw [if_pos hk1] at hw
      refine R_tsI (tgt := 78) hc dX10_net_18 (k := 1) (by rw [hk1]; decide) (by decide) (by decide) rfl (by decide) ?_
      refine R_aload_n (q := 0) (i := 0) (v := (some l0)) hc dX10_net_78 rfl rfl ?_
      refine R_getR hc fl_10_55 dX10_net_79 hw (fun t5 hw => ?_)
      refine R_getR hc fl_10_217 dX10_net_82 hw (fun t6 hw => ?_)
      refine R_iload_n (q := 1) (i := 1) (v := l1) hc dX10_net_85 rfl rfl ?_
      refine R_iaload hc dX10_net_86 hw (fun t7 hw => ?_)
      exact R_ireturnT hc hret rfl ⟨Nat.zero_le _, Nat.zero_le _⟩ hQ hw dX10_net_87
    rw [if_neg hk1] at hw
    by_cases hk2 : l2 = (2 : Int32)
    · rw [if_pos hk2] at hw
      refine R_tsI (tgt := 88) hc dX10_net_18 (k := 2) (by rw [hk2]; decide) (by decide) (by decide) rfl (by decide) ?_
      refine R_aload_n (q := 0) (i := 0) (v := (some l0)) hc dX10_net_88 rfl rfl ?_
      refine R_getR hc fl_10_55 dX10_net_89 hw (fun t8 hw => ?_)
      refine R_getR hc fl_10_220 dX10_net_92 hw (fun t9 hw => ?_)
      refine R_iload_n (q := 1) (i := 1) (v := l1) hc dX10_net_95 rfl rfl ?_
      refine R_iaload hc dX10_net_96 hw (fun t10 hw => ?_)
      exact R_ireturnT hc hret rfl ⟨Nat.zero_le _, Nat.zero_le _⟩ hQ hw dX10_net_97
    rw [if_neg hk2] at hw
    by_cases hk3 : l2 = (3 : Int32)
    · rw [if_pos hk3] at hw
      refine R_tsI (tgt := 98) hc dX10_net_18 (k := 3) (by rw [hk3]; decide) (by decide) (by decide) rfl (by decide) ?_
      refine R_aload_n (q := 0) (i := 0) (v := (some l0)) hc dX10_net_98 rfl rfl ?_
      refine R_getR hc fl_10_75 dX10_net_99 hw (fun t11 hw => ?_)
      refine R_getR hc fl_10_125 dX10_net_102 hw (fun t12 hw => ?_)
      refine R_getI hc fl_10_223 dX10_net_105 hw (fun t13 hw => ?_)
      refine R_iload_n (q := 1) (i := 1) (v := l1) hc dX10_net_108 rfl rfl ?_
      refine R_ishr hc dX10_net_109 ?_
      refine R_iconst (v := (1 : Int32)) hc dX10_net_110 kI_1 ?_
      refine R_iand hc dX10_net_111 ?_
      exact R_ireturnT hc hret rfl ⟨Nat.zero_le _, Nat.zero_le _⟩ hQ hw dX10_net_112
    rw [if_neg hk3] at hw
    by_cases hk4 : l2 = (4 : Int32)
    · rw [if_pos hk4] at hw
      refine R_tsI (tgt := 113) hc dX10_net_18 (k := 4) (by rw [hk4]; decide) (by decide) (by decide) rfl (by decide) ?_
      refine R_aload_n (q := 0) (i := 0) (v := (some l0)) hc dX10_net_113 rfl rfl ?_
      refine R_getR hc fl_10_75 dX10_net_114 hw (fun t14 hw => ?_)
      refine R_getR hc fl_10_125 dX10_net_117 hw (fun t15 hw => ?_)
      refine R_getI hc fl_10_226 dX10_net_120 hw (fun t16 hw => ?_)
      refine R_iload_n (q := 1) (i := 1) (v := l1) hc dX10_net_123 rfl rfl ?_
      refine R_ishr hc dX10_net_124 ?_
      refine R_iconst (v := (1 : Int32)) hc dX10_net_125 kI_1 ?_
      refine R_iand hc dX10_net_126 ?_
      exact R_ireturnT hc hret rfl ⟨Nat.zero_le _, Nat.zero_le _⟩ hQ hw dX10_net_127
    rw [if_neg hk4] at hw
    by_cases hk5 : l2 = (5 : Int32)
    · rw [if_pos hk5] at hw
      refine R_tsI (tgt := 128) hc dX10_net_18 (k := 5) (by rw [hk5]; decide) (by decide) (by decide) rfl (by decide) ?_
      refine R_aload_n (q := 0) (i := 0) (v := (some l0)) hc dX10_net_128 rfl rfl ?_
      refine R_getR hc fl_10_55 dX10_net_129 hw (fun t17 hw => ?_)
      refine R_getR hc fl_10_229 dX10_net_132 hw (fun t18 hw => ?_)
      refine R_iload_n (q := 1) (i := 1) (v := l1) hc dX10_net_135 rfl rfl ?_
      refine R_iaload hc dX10_net_136 hw (fun t19 hw => ?_)
      exact R_ireturnT hc hret rfl ⟨Nat.zero_le _, Nat.zero_le _⟩ hQ hw dX10_net_137
    rw [if_neg hk5] at hw
    by_cases hk6 : l2 = (6 : Int32)
    · rw [if_pos hk6] at hw
      refine R_tsI (tgt := 138) hc dX10_net_18 (k := 6) (by rw [hk6]; decide) (by decide) (by decide) rfl (by decide) ?_
      refine R_aload_n (q := 0) (i := 0) (v := (some l0)) hc dX10_net_138 rfl rfl ?_
      refine R_getR hc fl_10_55 dX10_net_139 hw (fun t20 hw => ?_)
      refine R_getR hc fl_10_232 dX10_net_142 hw (fun t21 hw => ?_)
      refine R_iload_n (q := 1) (i := 1) (v := l1) hc dX10_net_145 rfl rfl ?_
      refine R_iaload hc dX10_net_146 hw (fun t22 hw => ?_)
      exact R_ireturnT hc hret rfl ⟨Nat.zero_le _, Nat.zero_le _⟩ hQ hw dX10_net_147
    rw [if_neg hk6] at hw
    by_cases hk7 : l2 = (7 : Int32)
    · rw [if_pos hk7] at hw
      refine R_tsI (tgt := 148) hc dX10_net_18 (k := 7) (by rw [hk7]; decide) (by decide) (by decide) rfl (by decide) ?_
      refine R_aload_n (q := 0) (i := 0) (v := (some l0)) hc dX10_net_148 rfl rfl ?_
      refine R_getR hc fl_10_55 dX10_net_149 hw (fun t23 hw => ?_)
      refine R_getR hc fl_10_235 dX10_net_152 hw (fun t24 hw => ?_)
      refine R_iload_n (q := 1) (i := 1) (v := l1) hc dX10_net_155 rfl rfl ?_
      refine R_iaload hc dX10_net_156 hw (fun t25 hw => ?_)
      exact R_ireturnT hc hret rfl ⟨Nat.zero_le _, Nat.zero_le _⟩ hQ hw dX10_net_157
    rw [if_neg hk7] at hw
    by_cases hk8 : l2 = (8 : Int32)
    · rw [if_pos hk8] at hw
      refine R_tsI (tgt := 158) hc dX10_net_18 (k := 8) (by rw [hk8]; decide) (by decide) (by decide) rfl (by decide) ?_
      refine R_aload_n (q := 0) (i := 0) (v := (some l0)) hc dX10_net_158 rfl rfl ?_
      refine R_getR hc fl_10_55 dX10_net_159 hw (fun t26 hw => ?_)
      refine R_getR hc fl_10_238 dX10_net_162 hw (fun t27 hw => ?_)
      refine R_iload_n (q := 1) (i := 1) (v := l1) hc dX10_net_165 rfl rfl ?_
      refine R_iaload hc dX10_net_166 hw (fun t28 hw => ?_)
      exact R_ireturnT hc hret rfl ⟨Nat.zero_le _, Nat.zero_le _⟩ hQ hw dX10_net_167
    rw [if_neg hk8] at hw
    refine R_tsO (tgt := 168) hc dX10_net_18 (by have q0 := lv_neT hk0 (a := 0) (by decide); have q1 := lv_neT hk1 (a := 1) (by decide); have q2 := lv_neT hk2 (a := 2) (by decide); have q3 := lv_neT hk3 (a := 3) (by decide); have q4 := lv_neT hk4 (a := 4) (by decide); have q5 := lv_neT hk5 (a := 5) (by decide); have q6 := lv_neT hk6 (a := 6) (by decide); have q7 := lv_neT hk7 (a := 7) (by decide); have q8 := lv_neT hk8 (a := 8) (by decide); omega) (by decide) ?_
    exact R_throwN hc hlt hex (is := 241) (text := "a net has no such thing") (List.mem_of_getElem? (i := 8) rfl) ⟨le_b rfl, le_b rfl⟩ ⟨le_b rfl, le_b rfl⟩ ⟨le_b rfl, le_b rfl⟩ hQ hw dX10_net_168 dX10_net_171 dX10_net_172 dX10_net_174 dX10_net_177
  · exact R_throwS (k := 1) (is := 212) hc hlt hex (by decide) tx_cl1 tx_in1 tx_g1 tx_b1 tx_o1 (text := "there is no such net") (List.mem_of_getElem? (i := 7) rfl) ⟨le_b rfl, le_b rfl⟩ ⟨le_b rfl, le_b rfl⟩ ⟨le_b rfl, le_b rfl⟩ hQ hw dX10_net_7 dX10_net_10 dX10_net_11 dX10_net_13 dX10_net_16
theorem dX10_layout_0 : decode cX10_layout 0 = .ok (.iload_n 1, 1) := by decide +kernel
theorem dX10_layout_1 : decode cX10_layout 1 = .ok (.tableswitch 184 0 11 #[63, 71, 79, 87, 95, 110, 125, 136, 144, 152, 160, 168], 63) := by decide +kernel
theorem dX10_layout_64 : decode cX10_layout 64 = .ok (.aload_n 0, 1) := by decide +kernel
theorem dX10_layout_65 : decode cX10_layout 65 = .ok (.getfield 48, 3) := by decide +kernel
theorem dX10_layout_68 : decode cX10_layout 68 = .ok (.getfield 243, 3) := by decide +kernel
theorem dX10_layout_71 : decode cX10_layout 71 = .ok (.ireturn, 1) := by decide +kernel
theorem dX10_layout_72 : decode cX10_layout 72 = .ok (.aload_n 0, 1) := by decide +kernel
theorem dX10_layout_73 : decode cX10_layout 73 = .ok (.getfield 48, 3) := by decide +kernel
theorem dX10_layout_76 : decode cX10_layout 76 = .ok (.getfield 246, 3) := by decide +kernel
theorem dX10_layout_79 : decode cX10_layout 79 = .ok (.ireturn, 1) := by decide +kernel
theorem dX10_layout_80 : decode cX10_layout 80 = .ok (.aload_n 0, 1) := by decide +kernel
theorem dX10_layout_81 : decode cX10_layout 81 = .ok (.getfield 48, 3) := by decide +kernel
theorem dX10_layout_84 : decode cX10_layout 84 = .ok (.getfield 190, 3) := by decide +kernel
theorem dX10_layout_87 : decode cX10_layout 87 = .ok (.ireturn, 1) := by decide +kernel
theorem dX10_layout_88 : decode cX10_layout 88 = .ok (.aload_n 0, 1) := by decide +kernel
theorem dX10_layout_89 : decode cX10_layout 89 = .ok (.getfield 55, 3) := by decide +kernel
theorem dX10_layout_92 : decode cX10_layout 92 = .ok (.invokevirtual 249, 3) := by decide +kernel
theorem dX10_layout_95 : decode cX10_layout 95 = .ok (.ireturn, 1) := by decide +kernel
theorem dX10_layout_96 : decode cX10_layout 96 = .ok (.aload_n 0, 1) := by decide +kernel
theorem dX10_layout_97 : decode cX10_layout 97 = .ok (.getfield 55, 3) := by decide +kernel
theorem dX10_layout_100 : decode cX10_layout 100 = .ok (.aload_n 0, 1) := by decide +kernel
theorem dX10_layout_101 : decode cX10_layout 101 = .ok (.getfield 48, 3) := by decide +kernel
theorem dX10_layout_104 : decode cX10_layout 104 = .ok (.getfield 190, 3) := by decide +kernel
theorem dX10_layout_107 : decode cX10_layout 107 = .ok (.invokevirtual 253, 3) := by decide +kernel
theorem dX10_layout_110 : decode cX10_layout 110 = .ok (.ireturn, 1) := by decide +kernel
theorem dX10_layout_111 : decode cX10_layout 111 = .ok (.aload_n 0, 1) := by decide +kernel
theorem dX10_layout_112 : decode cX10_layout 112 = .ok (.getfield 55, 3) := by decide +kernel
theorem dX10_layout_115 : decode cX10_layout 115 = .ok (.aload_n 0, 1) := by decide +kernel
theorem dX10_layout_116 : decode cX10_layout 116 = .ok (.getfield 48, 3) := by decide +kernel
theorem dX10_layout_119 : decode cX10_layout 119 = .ok (.getfield 190, 3) := by decide +kernel
theorem dX10_layout_122 : decode cX10_layout 122 = .ok (.invokevirtual 256, 3) := by decide +kernel
theorem dX10_layout_125 : decode cX10_layout 125 = .ok (.ireturn, 1) := by decide +kernel
theorem dX10_layout_126 : decode cX10_layout 126 = .ok (.aload_n 0, 1) := by decide +kernel
theorem dX10_layout_127 : decode cX10_layout 127 = .ok (.getfield 55, 3) := by decide +kernel
theorem dX10_layout_130 : decode cX10_layout 130 = .ok (.invokevirtual 259, 3) := by decide +kernel
theorem dX10_layout_133 : decode cX10_layout 133 = .ok (.invokestatic 262, 3) := by decide +kernel
theorem dX10_layout_136 : decode cX10_layout 136 = .ok (.ireturn, 1) := by decide +kernel
theorem dX10_layout_137 : decode cX10_layout 137 = .ok (.aload_n 0, 1) := by decide +kernel
theorem dX10_layout_138 : decode cX10_layout 138 = .ok (.getfield 55, 3) := by decide +kernel
theorem dX10_layout_141 : decode cX10_layout 141 = .ok (.invokevirtual 267, 3) := by decide +kernel
theorem dX10_layout_144 : decode cX10_layout 144 = .ok (.ireturn, 1) := by decide +kernel
theorem dX10_layout_145 : decode cX10_layout 145 = .ok (.aload_n 0, 1) := by decide +kernel
theorem dX10_layout_146 : decode cX10_layout 146 = .ok (.getfield 55, 3) := by decide +kernel
theorem dX10_layout_149 : decode cX10_layout 149 = .ok (.invokevirtual 270, 3) := by decide +kernel
theorem dX10_layout_152 : decode cX10_layout 152 = .ok (.ireturn, 1) := by decide +kernel
theorem dX10_layout_153 : decode cX10_layout 153 = .ok (.aload_n 0, 1) := by decide +kernel
theorem dX10_layout_154 : decode cX10_layout 154 = .ok (.getfield 55, 3) := by decide +kernel
theorem dX10_layout_157 : decode cX10_layout 157 = .ok (.invokevirtual 273, 3) := by decide +kernel
theorem dX10_layout_160 : decode cX10_layout 160 = .ok (.ireturn, 1) := by decide +kernel
theorem dX10_layout_161 : decode cX10_layout 161 = .ok (.aload_n 0, 1) := by decide +kernel
theorem dX10_layout_162 : decode cX10_layout 162 = .ok (.getfield 55, 3) := by decide +kernel
theorem dX10_layout_165 : decode cX10_layout 165 = .ok (.getfield 276, 3) := by decide +kernel
theorem dX10_layout_168 : decode cX10_layout 168 = .ok (.ireturn, 1) := by decide +kernel
theorem dX10_layout_169 : decode cX10_layout 169 = .ok (.aload_n 0, 1) := by decide +kernel
theorem dX10_layout_170 : decode cX10_layout 170 = .ok (.getfield 48, 3) := by decide +kernel
theorem dX10_layout_173 : decode cX10_layout 173 = .ok (.invokevirtual 279, 3) := by decide +kernel
theorem dX10_layout_176 : decode cX10_layout 176 = .ok (.ifCond .eq 7, 3) := by decide +kernel
theorem dX10_layout_179 : decode cX10_layout 179 = .ok (.iconst 1, 1) := by decide +kernel
theorem dX10_layout_180 : decode cX10_layout 180 = .ok (.goto 4, 3) := by decide +kernel
theorem dX10_layout_183 : decode cX10_layout 183 = .ok (.iconst 0, 1) := by decide +kernel
theorem dX10_layout_184 : decode cX10_layout 184 = .ok (.ireturn, 1) := by decide +kernel
theorem dX10_layout_185 : decode cX10_layout 185 = .ok (.new 148, 3) := by decide +kernel
theorem dX10_layout_188 : decode cX10_layout 188 = .ok (.dup, 1) := by decide +kernel
theorem dX10_layout_189 : decode cX10_layout 189 = .ok (.ldc_w 282, 3) := by decide +kernel
theorem dX10_layout_192 : decode cX10_layout 192 = .ok (.invokespecial 152, 3) := by decide +kernel
theorem dX10_layout_195 : decode cX10_layout 195 = .ok (.athrow, 1) := by decide +kernel
def sX10_layout (F : Nat) (l0 : Nat) (l1 : Int32) (h : HP) : Option ((Int32 ⊕ Nat) × HP) :=
  if l1 = (0 : Int32) then
    (gR h 10 (some l0) 6).bind fun t1 =>
    (gI h 2 t1 0).bind fun t2 =>
    some (.inl t2, h)
  else if l1 = (1 : Int32) then
    (gR h 10 (some l0) 6).bind fun t3 =>
    (gI h 2 t3 1).bind fun t4 =>
    some (.inl t4, h)
  else if l1 = (2 : Int32) then
    (gR h 10 (some l0) 6).bind fun t5 =>
    (gI h 2 t5 2).bind fun t6 =>
    some (.inl t6, h)
  else if l1 = (3 : Int32) then
    (gR h 10 (some l0) 7).bind fun t7 =>
    (dO h 9 t7).bind fun a8 =>
    (sX9_total F a8 h).bind fun t9 =>
    some (.inl t9, h)
  else if l1 = (4 : Int32) then
    (gR h 10 (some l0) 7).bind fun t10 =>
    (gR h 10 (some l0) 6).bind fun t11 =>
    (gI h 2 t11 2).bind fun t12 =>
    (dO h 9 t10).bind fun a13 =>
    (sX9_greatestCut F a13 t12 h).bind fun t14 =>
    some (.inl t14, h)
  else if l1 = (5 : Int32) then
    (gR h 10 (some l0) 7).bind fun t15 =>
    (gR h 10 (some l0) 6).bind fun t16 =>
    (gI h 2 t16 2).bind fun t17 =>
    (dO h 9 t15).bind fun a18 =>
    (sX9_worst F a18 t17 h).bind fun t19 =>
    some (.inl t19, h)
  else if l1 = (6 : Int32) then
    (gR h 10 (some l0) 7).bind fun t20 =>
    (dO h 9 t20).bind fun a21 =>
    (sX9_usedTracks F a21 h).bind fun t22 =>
    (sJ6_bitCount_0f7a4 F t22 h).bind fun t23 =>
    some (.inl t23, h)
  else if l1 = (7 : Int32) then
    (gR h 10 (some l0) 7).bind fun t24 =>
    (dO h 9 t24).bind fun a25 =>
    (sX9_lost F a25 h).bind fun t26 =>
    some (.inl t26, h)
  else if l1 = (8 : Int32) then
    (gR h 10 (some l0) 7).bind fun t27 =>
    (dO h 9 t27).bind fun a28 =>
    (sX9_height F a28 h).bind fun t29 =>
    some (.inl t29, h)
  else if l1 = (9 : Int32) then
    (gR h 10 (some l0) 7).bind fun t30 =>
    (dO h 9 t30).bind fun a31 =>
    (sX9_totalLength F a31 h).bind fun t32 =>
    some (.inl t32, h)
  else if l1 = (10 : Int32) then
    (gR h 10 (some l0) 7).bind fun t33 =>
    (gI h 9 t33 0).bind fun t34 =>
    some (.inl t34, h)
  else if l1 = (11 : Int32) then
    (gR h 10 (some l0) 6).bind fun t35 =>
    (dO h 2 t35).bind fun a36 =>
    (sX2_isSame F a36 h).bind fun t37 =>
    if t37 = 0 then
      some (.inl (0 : Int32), h)
    else
      some (.inl (1 : Int32), h)
  else
    some (.inr 2, h)
abbrev rm_X10_layout : Room := { frames := 6, cells := 1, slots := 6, locals := 82 }
set_option maxRecDepth 100000 in
set_option maxHeartbeats 4000000 in
theorem mt_X10_layout {w : WD} {l : Launch} {F : Nat} (hlt : l.stackTraces = false) {l0 : Nat} {l1 : Int32} {h : HP} {r : Int32 ⊕ Nat} {h' : HP} (hs : sX10_layout F l0 l1 h = some (r, h')) : XI w l yX10_layout cX10_layout 2 .int rm_X10_layout [rf w (some l0), .int l1] h r h' := by
  refine of_bodyT [(0, rf w (some l0)), (1, .int l1)] (by decide) (by simp [lg_sl, rf_cat, cat_i, cat_l, cat_a]) (by simp [lv_args, rf_cat, cat_i, cat_l, cat_a]) ?_
  intro x hw_ hnL_ hl_ hc hret hex hQ
  subst hw_; subst hl_
  have hnl : ∀ i, i < 2 → i < x.nL := fun i h => by rw [hnL_]; exact h
  have hw : wpO (sX10_layout F l0 l1 h) (fun q => q = (r, h')) := ⟨_, hs, rfl⟩
  unfold sX10_layout at hw
  refine R_iload_n (q := 1) (i := 1) (v := l1) hc dX10_layout_0 rfl rfl ?_
  by_cases hk0 : l1 = (0 : Int32)
  · rw [if_pos hk0] at hw
    refine R_tsI (tgt := 64) hc dX10_layout_1 (k := 0) (by rw [hk0]; decide) (by decide) (by decide) rfl (by decide) ?_
    refine R_aload_n (q := 0) (i := 0) (v := (some l0)) hc dX10_layout_64 rfl rfl ?_
    refine R_getR hc fl_10_48 dX10_layout_65 hw (fun t1 hw => ?_)
    refine R_getI hc fl_10_243 dX10_layout_68 hw (fun t2 hw => ?_)
    exact R_ireturnT hc hret rfl ⟨Nat.zero_le _, Nat.zero_le _⟩ hQ hw dX10_layout_71
  rw [if_neg hk0] at hw
  by_cases hk1 : l1 = (1 : Int32)
  · rw [if_pos hk1] at hw
    refine R_tsI (tgt := 72) hc dX10_layout_1 (k := 1) (by rw [hk1]; decide) (by decide) (by decide) rfl (by decide) ?_
    refine R_aload_n (q := 0) (i := 0) (v := (some l0)) hc dX10_layout_72 rfl rfl ?_
    refine R_getR hc fl_10_48 dX10_layout_73 hw (fun t3 hw => ?_)
    refine R_getI hc fl_10_246 dX10_layout_76 hw (fun t4 hw => ?_)
    exact R_ireturnT hc hret rfl ⟨Nat.zero_le _, Nat.zero_le _⟩ hQ hw dX10_layout_79
  rw [if_neg hk1] at hw
  by_cases hk2 : l1 = (2 : Int32)
  · rw [if_pos hk2] at hw
    refine R_tsI (tgt := 80) hc dX10_layout_1 (k := 2) (by rw [hk2]; decide) (by decide) (by decide) rfl (by decide) ?_
    refine R_aload_n (q := 0) (i := 0) (v := (some l0)) hc dX10_layout_80 rfl rfl ?_
    refine R_getR hc fl_10_48 dX10_layout_81 hw (fun t5 hw => ?_)
    refine R_getI hc fl_10_190 dX10_layout_84 hw (fun t6 hw => ?_)
    exact R_ireturnT hc hret rfl ⟨Nat.zero_le _, Nat.zero_le _⟩ hQ hw dX10_layout_87
  rw [if_neg hk2] at hw
  by_cases hk3 : l1 = (3 : Int32)
  · rw [if_pos hk3] at hw
    refine R_tsI (tgt := 88) hc dX10_layout_1 (k := 3) (by rw [hk3]; decide) (by decide) (by decide) rfl (by decide) ?_
    refine R_aload_n (q := 0) (i := 0) (v := (some l0)) hc dX10_layout_88 rfl rfl ?_
    refine R_getR hc fl_10_55 dX10_layout_89 hw (fun t7 hw => ?_)
    refine R_cVI (As := []) (rest := []) (r := t7) (ci := 9) hc ml_10_249 mf_X9_total rfl (by decide) ⟨rfl, rfl⟩ ⟨le_b rfl, le_b rfl⟩ ⟨Nat.zero_le _, Nat.zero_le _⟩ (fun a v e => mt_X9_total e) rfl rfl (Nat.zero_le _) dX10_layout_92 hw (fun t9 hw => ?_)
    exact R_ireturnT hc hret rfl ⟨Nat.zero_le _, Nat.zero_le _⟩ hQ hw dX10_layout_95
  rw [if_neg hk3] at hw
  by_cases hk4 : l1 = (4 : Int32)
  · rw [if_pos hk4] at hw
    refine R_tsI (tgt := 96) hc dX10_layout_1 (k := 4) (by rw [hk4]; decide) (by decide) (by decide) rfl (by decide) ?_
    refine R_aload_n (q := 0) (i := 0) (v := (some l0)) hc dX10_layout_96 rfl rfl ?_
    refine R_getR hc fl_10_55 dX10_layout_97 hw (fun t10 hw => ?_)
    refine R_aload_n (q := 0) (i := 0) (v := (some l0)) hc dX10_layout_100 rfl rfl ?_
    refine R_getR hc fl_10_48 dX10_layout_101 hw (fun t11 hw => ?_)
    refine R_getI hc fl_10_190 dX10_layout_104 hw (fun t12 hw => ?_)
    refine R_cVI (As := [.int t12]) (rest := []) (r := t10) (ci := 9) hc ml_10_253 mf_X9_greatestCut rfl (by decide) ⟨rfl, rfl⟩ ⟨le_b rfl, le_b rfl⟩ ⟨Nat.zero_le _, Nat.zero_le _⟩ (fun a v e => mt_X9_greatestCut e) rfl rfl (Nat.zero_le _) dX10_layout_107 hw (fun t14 hw => ?_)
    exact R_ireturnT hc hret rfl ⟨Nat.zero_le _, Nat.zero_le _⟩ hQ hw dX10_layout_110
  rw [if_neg hk4] at hw
  by_cases hk5 : l1 = (5 : Int32)
  · rw [if_pos hk5] at hw
    refine R_tsI (tgt := 111) hc dX10_layout_1 (k := 5) (by rw [hk5]; decide) (by decide) (by decide) rfl (by decide) ?_
    refine R_aload_n (q := 0) (i := 0) (v := (some l0)) hc dX10_layout_111 rfl rfl ?_
    refine R_getR hc fl_10_55 dX10_layout_112 hw (fun t15 hw => ?_)
    refine R_aload_n (q := 0) (i := 0) (v := (some l0)) hc dX10_layout_115 rfl rfl ?_
    refine R_getR hc fl_10_48 dX10_layout_116 hw (fun t16 hw => ?_)
    refine R_getI hc fl_10_190 dX10_layout_119 hw (fun t17 hw => ?_)
    refine R_cVI (As := [.int t17]) (rest := []) (r := t15) (ci := 9) hc ml_10_256 mf_X9_worst rfl (by decide) ⟨rfl, rfl⟩ ⟨le_b rfl, le_b rfl⟩ ⟨Nat.zero_le _, Nat.zero_le _⟩ (fun a v e => mt_X9_worst e) rfl rfl (Nat.zero_le _) dX10_layout_122 hw (fun t19 hw => ?_)
    exact R_ireturnT hc hret rfl ⟨Nat.zero_le _, Nat.zero_le _⟩ hQ hw dX10_layout_125
  rw [if_neg hk5] at hw
  by_cases hk6 : l1 = (6 : Int32)
  · rw [if_pos hk6] at hw
    refine R_tsI (tgt := 126) hc dX10_layout_1 (k := 6) (by rw [hk6]; decide) (by decide) (by decide) rfl (by decide) ?_
    refine R_aload_n (q := 0) (i := 0) (v := (some l0)) hc dX10_layout_126 rfl rfl ?_
    refine R_getR hc fl_10_55 dX10_layout_127 hw (fun t20 hw => ?_)
    refine R_cVI (As := []) (rest := []) (r := t20) (ci := 9) hc ml_10_259 mf_X9_usedTracks rfl (by decide) ⟨rfl, rfl⟩ ⟨le_b rfl, le_b rfl⟩ ⟨Nat.zero_le _, Nat.zero_le _⟩ (fun a v e => mt_X9_usedTracks e) rfl rfl (Nat.zero_le _) dX10_layout_130 hw (fun t22 hw => ?_)
    refine R_cSI (As := [.int t22]) (rest := []) hc ml_10_262 mf_J6_bitCount_0f7a4 ⟨rfl, rfl⟩ ⟨le_b rfl, le_b rfl⟩ ⟨Nat.zero_le _, Nat.zero_le _⟩ (fun v e => mt_J6_bitCount_0f7a4 e) rfl rfl (Nat.zero_le _) dX10_layout_133 hw (fun t23 hw => ?_)
    exact R_ireturnT hc hret rfl ⟨Nat.zero_le _, Nat.zero_le _⟩ hQ hw dX10_layout_136
  rw [if_neg hk6] at hw
  by_cases hk7 : l1 = (7 : Int32)
  · rw [if_pos hk7] at hw
    refine R_tsI (tgt := 137) hc dX10_layout_1 (k := 7) (by rw [hk7]; decide) (by decide) (by decide) rfl (by decide) ?_
    refine R_aload_n (q := 0) (i := 0) (v := (some l0)) hc dX10_layout_137 rfl rfl ?_
    refine R_getR hc fl_10_55 dX10_layout_138 hw (fun t24 hw => ?_)
    refine R_cVI (As := []) (rest := []) (r := t24) (ci := 9) hc ml_10_267 mf_X9_lost rfl (by decide) ⟨rfl, rfl⟩ ⟨le_b rfl, le_b rfl⟩ ⟨Nat.zero_le _, Nat.zero_le _⟩ (fun a v e => mt_X9_lost e) rfl rfl (Nat.zero_le _) dX10_layout_141 hw (fun t26 hw => ?_)
    exact R_ireturnT hc hret rfl ⟨Nat.zero_le _, Nat.zero_le _⟩ hQ hw dX10_layout_144
  rw [if_neg hk7] at hw
  by_cases hk8 : l1 = (8 : Int32)
  · rw [if_pos hk8] at hw
    refine R_tsI (tgt := 145) hc dX10_layout_1 (k := 8) (by rw [hk8]; decide) (by decide) (by decide) rfl (by decide) ?_
    refine R_aload_n (q := 0) (i := 0) (v := (some l0)) hc dX10_layout_145 rfl rfl ?_
    refine R_getR hc fl_10_55 dX10_layout_146 hw (fun t27 hw => ?_)
    refine R_cVI (As := []) (rest := []) (r := t27) (ci := 9) hc ml_10_270 mf_X9_height rfl (by decide) ⟨rfl, rfl⟩ ⟨le_b rfl, le_b rfl⟩ ⟨Nat.zero_le _, Nat.zero_le _⟩ (fun a v e => mt_X9_height e) rfl rfl (Nat.zero_le _) dX10_layout_149 hw (fun t29 hw => ?_)
    exact R_ireturnT hc hret rfl ⟨Nat.zero_le _, Nat.zero_le _⟩ hQ hw dX10_layout_152
  rw [if_neg hk8] at hw
  by_cases hk9 : l1 = (9 : Int32)
  · rw [if_pos hk9] at hw
    refine R_tsI (tgt := 153) hc dX10_layout_1 (k := 9) (by rw [hk9]; decide) (by decide) (by decide) rfl (by decide) ?_
    refine R_aload_n (q := 0) (i := 0) (v := (some l0)) hc dX10_layout_153 rfl rfl ?_
    refine R_getR hc fl_10_55 dX10_layout_154 hw (fun t30 hw => ?_)
    refine R_cVI (As := []) (rest := []) (r := t30) (ci := 9) hc ml_10_273 mf_X9_totalLength rfl (by decide) ⟨rfl, rfl⟩ ⟨le_b rfl, le_b rfl⟩ ⟨Nat.zero_le _, Nat.zero_le _⟩ (fun a v e => mt_X9_totalLength e) rfl rfl (Nat.zero_le _) dX10_layout_157 hw (fun t32 hw => ?_)
    exact R_ireturnT hc hret rfl ⟨Nat.zero_le _, Nat.zero_le _⟩ hQ hw dX10_layout_160
  rw [if_neg hk9] at hw
  by_cases hk10 : l1 = (10 : Int32)
  · rw [if_pos hk10] at hw
    refine R_tsI (tgt := 161) hc dX10_layout_1 (k := 10) (by rw [hk10]; decide) (by decide) (by decide) rfl (by decide) ?_
    refine R_aload_n (q := 0) (i := 0) (v := (some l0)) hc dX10_layout_161 rfl rfl ?_
    refine R_getR hc fl_10_55 dX10_layout_162 hw (fun t33 hw => ?_)
    refine R_getI hc fl_10_276 dX10_layout_165 hw (fun t34 hw => ?_)
    exact R_ireturnT hc hret rfl ⟨Nat.zero_le _, Nat.zero_le _⟩ hQ hw dX10_layout_168
  rw [if_neg hk10] at hw
  by_cases hk11 : l1 = (11 : Int32)
  · rw [if_pos hk11] at hw
    refine R_tsI (tgt := 169) hc dX10_layout_1 (k := 11) (by rw [hk11]; decide) (by decide) (by decide) rfl (by decide) ?_
    refine R_aload_n (q := 0) (i := 0) (v := (some l0)) hc dX10_layout_169 rfl rfl ?_
    refine R_getR hc fl_10_48 dX10_layout_170 hw (fun t35 hw => ?_)
    refine R_cVI (As := []) (rest := []) (r := t35) (ci := 2) hc ml_10_279 mf_X2_isSame rfl (by decide) ⟨rfl, rfl⟩ ⟨le_b rfl, le_b rfl⟩ ⟨Nat.zero_le _, Nat.zero_le _⟩ (fun a v e => mt_X2_isSame e) rfl rfl (Nat.zero_le _) dX10_layout_173 hw (fun t37 hw => ?_)
    refine R_if_eq (tgt := 183) hc dX10_layout_176 (by decide) hw (fun hw => ?_) (fun hw => ?_)
    · refine R_iconst (v := (0 : Int32)) hc dX10_layout_183 kI_0 ?_
      exact R_ireturnT hc hret rfl ⟨Nat.zero_le _, Nat.zero_le _⟩ hQ hw dX10_layout_184
    · refine R_iconst (v := (1 : Int32)) hc dX10_layout_179 kI_1 ?_
      refine R_goto (tgt := 184) hc dX10_layout_180 (by decide) ?_
      exact R_ireturnT hc hret rfl ⟨Nat.zero_le _, Nat.zero_le _⟩ hQ hw dX10_layout_184
  rw [if_neg hk11] at hw
  refine R_tsO (tgt := 185) hc dX10_layout_1 (by have q0 := lv_neT hk0 (a := 0) (by decide); have q1 := lv_neT hk1 (a := 1) (by decide); have q2 := lv_neT hk2 (a := 2) (by decide); have q3 := lv_neT hk3 (a := 3) (by decide); have q4 := lv_neT hk4 (a := 4) (by decide); have q5 := lv_neT hk5 (a := 5) (by decide); have q6 := lv_neT hk6 (a := 6) (by decide); have q7 := lv_neT hk7 (a := 7) (by decide); have q8 := lv_neT hk8 (a := 8) (by decide); have q9 := lv_neT hk9 (a := 9) (by decide); have q10 := lv_neT hk10 (a := 10) (by decide); have q11 := lv_neT hk11 (a := 11) (by decide); omega) (by decide) ?_
  exact R_throwNW hc hlt hex (is := 282) (text := "a layout has no such thing") (List.mem_of_getElem? (i := 9) rfl) ⟨le_b rfl, le_b rfl⟩ ⟨le_b rfl, le_b rfl⟩ ⟨le_b rfl, le_b rfl⟩ hQ hw dX10_layout_185 dX10_layout_188 dX10_layout_189 dX10_layout_192 dX10_layout_195
theorem dX10_best_0 : decode cX10_best 0 = .ok (.aload_n 0, 1) := by decide +kernel
theorem dX10_best_1 : decode cX10_best 1 = .ok (.iload_n 3, 1) := by decide +kernel
theorem dX10_best_2 : decode cX10_best 2 = .ok (.invokevirtual 161, 3) := by decide +kernel
theorem dX10_best_5 : decode cX10_best 5 = .ok (.ifCond .ne 13, 3) := by decide +kernel
theorem dX10_best_8 : decode cX10_best 8 = .ok (.new 143, 3) := by decide +kernel
theorem dX10_best_11 : decode cX10_best 11 = .ok (.dup, 1) := by decide +kernel
theorem dX10_best_12 : decode cX10_best 12 = .ok (.ldc 165, 2) := by decide +kernel
theorem dX10_best_14 : decode cX10_best 14 = .ok (.invokespecial 147, 3) := by decide +kernel
theorem dX10_best_17 : decode cX10_best 17 = .ok (.athrow, 1) := by decide +kernel
theorem dX10_best_18 : decode cX10_best 18 = .ok (.lload_n 1, 1) := by decide +kernel
theorem dX10_best_19 : decode cX10_best 19 = .ok (.lconst 0, 1) := by decide +kernel
theorem dX10_best_20 : decode cX10_best 20 = .ok (.lcmp, 1) := by decide +kernel
theorem dX10_best_21 : decode cX10_best 21 = .ok (.ifCond .lt 15, 3) := by decide +kernel
theorem dX10_best_24 : decode cX10_best 24 = .ok (.lload_n 1, 1) := by decide +kernel
theorem dX10_best_25 : decode cX10_best 25 = .ok (.aload_n 0, 1) := by decide +kernel
theorem dX10_best_26 : decode cX10_best 26 = .ok (.getfield 75, 3) := by decide +kernel
theorem dX10_best_29 : decode cX10_best 29 = .ok (.invokevirtual 295, 3) := by decide +kernel
theorem dX10_best_32 : decode cX10_best 32 = .ok (.lcmp, 1) := by decide +kernel
theorem dX10_best_33 : decode cX10_best 33 = .ok (.ifCond .lt 14, 3) := by decide +kernel
theorem dX10_best_36 : decode cX10_best 36 = .ok (.new 110, 3) := by decide +kernel
theorem dX10_best_39 : decode cX10_best 39 = .ok (.dup, 1) := by decide +kernel
theorem dX10_best_40 : decode cX10_best 40 = .ok (.ldc_w 298, 3) := by decide +kernel
theorem dX10_best_43 : decode cX10_best 43 = .ok (.invokespecial 114, 3) := by decide +kernel
theorem dX10_best_46 : decode cX10_best 46 = .ok (.athrow, 1) := by decide +kernel
theorem dX10_best_47 : decode cX10_best 47 = .ok (.aload_n 0, 1) := by decide +kernel
theorem dX10_best_48 : decode cX10_best 48 = .ok (.getfield 75, 3) := by decide +kernel
theorem dX10_best_51 : decode cX10_best 51 = .ok (.lload_n 1, 1) := by decide +kernel
theorem dX10_best_52 : decode cX10_best 52 = .ok (.aload_n 0, 1) := by decide +kernel
theorem dX10_best_53 : decode cX10_best 53 = .ok (.getfield 59, 3) := by decide +kernel
theorem dX10_best_56 : decode cX10_best 56 = .ok (.invokevirtual 300, 3) := by decide +kernel
theorem dX10_best_59 : decode cX10_best 59 = .ok (.iload 4, 2) := by decide +kernel
theorem dX10_best_61 : decode cX10_best 61 = .ok (.ifCond .eq 14, 3) := by decide +kernel
theorem dX10_best_64 : decode cX10_best 64 = .ok (.aload_n 0, 1) := by decide +kernel
theorem dX10_best_65 : decode cX10_best 65 = .ok (.getfield 59, 3) := by decide +kernel
theorem dX10_best_68 : decode cX10_best 68 = .ok (.iload_n 3, 1) := by decide +kernel
theorem dX10_best_69 : decode cX10_best 69 = .ok (.invokevirtual 174, 3) := by decide +kernel
theorem dX10_best_72 : decode cX10_best 72 = .ok (.goto 11, 3) := by decide +kernel
theorem dX10_best_75 : decode cX10_best 75 = .ok (.aload_n 0, 1) := by decide +kernel
theorem dX10_best_76 : decode cX10_best 76 = .ok (.getfield 59, 3) := by decide +kernel
theorem dX10_best_79 : decode cX10_best 79 = .ok (.iload_n 3, 1) := by decide +kernel
theorem dX10_best_80 : decode cX10_best 80 = .ok (.invokevirtual 167, 3) := by decide +kernel
theorem dX10_best_83 : decode cX10_best 83 = .ok (.ireturn, 1) := by decide +kernel
def sX10_best (F : Nat) (l0 : Nat) (l1 : Int64) (l3 : Int32) (l4 : Int32) (h : HP) : Option ((Int32 ⊕ Nat) × HP) :=
  (dO h 10 (some l0)).bind fun a1 =>
  (sX10_isPlace F a1 l3 h).bind fun t2 =>
  if ¬ t2 = 0 then
    if (lg_cmp l1 (0 : Int64)) < 0 then
      some (.inr 0, h)
    else
      (gR h 10 (some l0) 12).bind fun t3 =>
      (dO h 4 t3).bind fun a4 =>
      (sX4_total F a4 h).bind fun t5 =>
      if (lg_cmp l1 t5) < 0 then
        (gR h 10 (some l0) 12).bind fun t6 =>
        (gR h 10 (some l0) 8).bind fun t7 =>
        (dO h 4 t6).bind fun a8 =>
        (sX4_layInto F a8 l1 t7 h).bind fun h9 =>
        if l4 = 0 then
          (gR h9 10 (some l0) 8).bind fun t10 =>
          (dO h9 7 t10).bind fun a11 =>
          (sX7_fingerAt F a11 l3 h9).bind fun t12 =>
          some (.inl t12, h9)
        else
          (gR h9 10 (some l0) 8).bind fun t13 =>
          (dO h9 7 t13).bind fun a14 =>
          (sX7_turnAt F a14 l3 h9).bind fun t15 =>
          some (.inl t15, h9)
      else
        some (.inr 0, h)
  else
    some (.inr 1, h)
abbrev rm_X10_best : Room := { frames := 6, cells := 1, slots := 6, locals := 82 }
set_option maxRecDepth 100000 in
set_option maxHeartbeats 4000000 in
theorem mt_X10_best {w : WD} {l : Launch} {F : Nat} (hlt : l.stackTraces = false) {l0 : Nat} {l1 : Int64} {l3 : Int32} {l4 : Int32} {h : HP} {r : Int32 ⊕ Nat} {h' : HP} (hs : sX10_best F l0 l1 l3 l4 h = some (r, h')) : XI w l yX10_best cX10_best 5 .int rm_X10_best [rf w (some l0), .long l1, .int l3, .int l4] h r h' := by
  refine of_bodyT [(0, rf w (some l0)), (1, .long l1), (3, .int l3), (4, .int l4)] (by decide) (by simp [lg_sl, rf_cat, cat_i, cat_l, cat_a]) (by simp [lv_args, rf_cat, cat_i, cat_l, cat_a]) ?_
  intro x hw_ hnL_ hl_ hc hret hex hQ
  subst hw_; subst hl_
  have hnl : ∀ i, i < 5 → i < x.nL := fun i h => by rw [hnL_]; exact h
  have hw : wpO (sX10_best F l0 l1 l3 l4 h) (fun q => q = (r, h')) := ⟨_, hs, rfl⟩
  unfold sX10_best at hw
  refine R_aload_n (q := 0) (i := 0) (v := (some l0)) hc dX10_best_0 rfl rfl ?_
  refine R_iload_n (q := 2) (i := 3) (v := l3) hc dX10_best_1 rfl rfl ?_
  refine R_cVI (As := [.int l3]) (rest := []) (r := (some l0)) (ci := 10) hc ml_10_161 mf_X10_isPlace rfl (by decide) ⟨rfl, rfl⟩ ⟨le_b rfl, le_b rfl⟩ ⟨Nat.zero_le _, Nat.zero_le _⟩ (fun a v e => mt_X10_isPlace e) rfl rfl (Nat.zero_le _) dX10_best_2 hw (fun t2 hw => ?_)
  refine R_if_ne (tgt := 18) hc dX10_best_5 (by decide) hw (fun hw => ?_) (fun hw => ?_)
  · refine R_lload_n (q := 1) (i := 1) (v := l1) hc dX10_best_18 rfl rfl ?_
    refine R_lconst (v := (0 : Int64)) hc dX10_best_19 kL_0 ?_
    refine R_lcmp hc dX10_best_20 ?_
    refine R_if_lt (tgt := 36) hc dX10_best_21 (by decide) hw (fun hw => ?_) (fun hw => ?_)
    · exact R_throwSW (k := 0) (is := 298) hc hlt hex (by decide) tx_cl0 tx_in0 tx_g0 tx_b0 tx_o0 (text := "there is no such best one") (List.mem_of_getElem? (i := 10) rfl) ⟨le_b rfl, le_b rfl⟩ ⟨le_b rfl, le_b rfl⟩ ⟨le_b rfl, le_b rfl⟩ hQ hw dX10_best_36 dX10_best_39 dX10_best_40 dX10_best_43 dX10_best_46
    · refine R_lload_n (q := 1) (i := 1) (v := l1) hc dX10_best_24 rfl rfl ?_
      refine R_aload_n (q := 0) (i := 0) (v := (some l0)) hc dX10_best_25 rfl rfl ?_
      refine R_getR hc fl_10_75 dX10_best_26 hw (fun t3 hw => ?_)
      refine R_cVJ (As := []) (rest := [.long l1]) (r := t3) (ci := 4) hc ml_10_295 mf_X4_total rfl (by decide) ⟨rfl, rfl⟩ ⟨le_b rfl, le_b rfl⟩ ⟨Nat.zero_le _, Nat.zero_le _⟩ (fun a v e => mt_X4_total e) rfl rfl (le_b rfl) dX10_best_29 hw (fun t5 hw => ?_)
      refine R_lcmp hc dX10_best_32 ?_
      refine R_if_lt (tgt := 47) hc dX10_best_33 (by decide) hw (fun hw => ?_) (fun hw => ?_)
      · refine R_aload_n (q := 0) (i := 0) (v := (some l0)) hc dX10_best_47 rfl rfl ?_
        refine R_getR hc fl_10_75 dX10_best_48 hw (fun t6 hw => ?_)
        refine R_lload_n (q := 1) (i := 1) (v := l1) hc dX10_best_51 rfl rfl ?_
        refine R_aload_n (q := 0) (i := 0) (v := (some l0)) hc dX10_best_52 rfl rfl ?_
        refine R_getR hc fl_10_59 dX10_best_53 hw (fun t7 hw => ?_)
        refine R_cVVi (As := [.long l1, rf x.w t7]) (rest := []) (r := t6) (ci := 4) hc ml_10_300 mf_X4_layInto rfl (by decide) ⟨rfl, rfl⟩ ⟨le_b rfl, le_b rfl⟩ ⟨Nat.zero_le _, Nat.zero_le _⟩ (fun a h' e => mt_X4_layInto e) rfl rfl (Nat.zero_le _) dX10_best_56 hw (fun h9 hw => ?_)
        refine R_iload (q := 3) (i := 4) (v := l4) hc dX10_best_59 rfl ?_
        refine R_if_eq (tgt := 75) hc dX10_best_61 (by decide) hw (fun hw => ?_) (fun hw => ?_)
        · refine R_aload_n (q := 0) (i := 0) (v := (some l0)) hc dX10_best_75 rfl rfl ?_
          refine R_getR hc fl_10_59 dX10_best_76 hw (fun t10 hw => ?_)
          refine R_iload_n (q := 2) (i := 3) (v := l3) hc dX10_best_79 rfl rfl ?_
          refine R_cVI (As := [.int l3]) (rest := []) (r := t10) (ci := 7) hc ml_10_167 mf_X7_fingerAt rfl (by decide) ⟨rfl, rfl⟩ ⟨le_b rfl, le_b rfl⟩ ⟨Nat.zero_le _, Nat.zero_le _⟩ (fun a v e => mt_X7_fingerAt e) rfl rfl (Nat.zero_le _) dX10_best_80 hw (fun t12 hw => ?_)
          exact R_ireturnT hc hret rfl ⟨Nat.zero_le _, Nat.zero_le _⟩ hQ hw dX10_best_83
        · refine R_aload_n (q := 0) (i := 0) (v := (some l0)) hc dX10_best_64 rfl rfl ?_
          refine R_getR hc fl_10_59 dX10_best_65 hw (fun t13 hw => ?_)
          refine R_iload_n (q := 2) (i := 3) (v := l3) hc dX10_best_68 rfl rfl ?_
          refine R_cVI (As := [.int l3]) (rest := []) (r := t13) (ci := 7) hc ml_10_174 mf_X7_turnAt rfl (by decide) ⟨rfl, rfl⟩ ⟨le_b rfl, le_b rfl⟩ ⟨Nat.zero_le _, Nat.zero_le _⟩ (fun a v e => mt_X7_turnAt e) rfl rfl (Nat.zero_le _) dX10_best_69 hw (fun t15 hw => ?_)
          refine R_goto (tgt := 83) hc dX10_best_72 (by decide) ?_
          exact R_ireturnT hc hret rfl ⟨Nat.zero_le _, Nat.zero_le _⟩ hQ hw dX10_best_83
      · exact R_throwSW (k := 0) (is := 298) hc hlt hex (by decide) tx_cl0 tx_in0 tx_g0 tx_b0 tx_o0 (text := "there is no such best one") (List.mem_of_getElem? (i := 10) rfl) ⟨le_b rfl, le_b rfl⟩ ⟨le_b rfl, le_b rfl⟩ ⟨le_b rfl, le_b rfl⟩ hQ hw dX10_best_36 dX10_best_39 dX10_best_40 dX10_best_43 dX10_best_46
  · exact R_throwS (k := 1) (is := 165) hc hlt hex (by decide) tx_cl1 tx_in1 tx_g1 tx_b1 tx_o1 (text := "there is no such place") (List.mem_of_getElem? (i := 3) rfl) ⟨le_b rfl, le_b rfl⟩ ⟨le_b rfl, le_b rfl⟩ ⟨le_b rfl, le_b rfl⟩ hQ hw dX10_best_8 dX10_best_11 dX10_best_12 dX10_best_14 dX10_best_17
theorem dX10_with_0 : decode cX10_with 0 = .ok (.aload_n 0, 1) := by decide +kernel
theorem dX10_with_1 : decode cX10_with 1 = .ok (.iload_n 1, 1) := by decide +kernel
theorem dX10_with_2 : decode cX10_with 2 = .ok (.invokevirtual 307, 3) := by decide +kernel
theorem dX10_with_5 : decode cX10_with 5 = .ok (.ifCond .eq 11, 3) := by decide +kernel
theorem dX10_with_8 : decode cX10_with 8 = .ok (.aload_n 0, 1) := by decide +kernel
theorem dX10_with_9 : decode cX10_with 9 = .ok (.iload_n 2, 1) := by decide +kernel
theorem dX10_with_10 : decode cX10_with 10 = .ok (.invokevirtual 307, 3) := by decide +kernel
theorem dX10_with_13 : decode cX10_with 13 = .ok (.ifCond .ne 14, 3) := by decide +kernel
theorem dX10_with_16 : decode cX10_with 16 = .ok (.new 143, 3) := by decide +kernel
theorem dX10_with_19 : decode cX10_with 19 = .ok (.dup, 1) := by decide +kernel
theorem dX10_with_20 : decode cX10_with 20 = .ok (.ldc_w 310, 3) := by decide +kernel
theorem dX10_with_23 : decode cX10_with 23 = .ok (.invokespecial 147, 3) := by decide +kernel
theorem dX10_with_26 : decode cX10_with 26 = .ok (.athrow, 1) := by decide +kernel
theorem dX10_with_27 : decode cX10_with 27 = .ok (.aload_n 0, 1) := by decide +kernel
theorem dX10_with_28 : decode cX10_with 28 = .ok (.getfield 75, 3) := by decide +kernel
theorem dX10_with_31 : decode cX10_with 31 = .ok (.iload_n 1, 1) := by decide +kernel
theorem dX10_with_32 : decode cX10_with 32 = .ok (.iload_n 2, 1) := by decide +kernel
theorem dX10_with_33 : decode cX10_with 33 = .ok (.invokevirtual 312, 3) := by decide +kernel
theorem dX10_with_36 : decode cX10_with 36 = .ok (.ireturn, 1) := by decide +kernel
def sX10_with (F : Nat) (l0 : Nat) (l1 : Int32) (l2 : Int32) (h : HP) : Option ((Int32 ⊕ Nat) × HP) :=
  (dO h 10 (some l0)).bind fun a1 =>
  (sX10_isFinger F a1 l1 h).bind fun t2 =>
  if t2 = 0 then
    some (.inr 1, h)
  else
    (dO h 10 (some l0)).bind fun a3 =>
    (sX10_isFinger F a3 l2 h).bind fun t4 =>
    if ¬ t4 = 0 then
      (gR h 10 (some l0) 12).bind fun t5 =>
      (dO h 4 t5).bind fun a6 =>
      bd2 (sX4_fewestBetween F a6 l1 l2 h) fun t7 h8 =>
      some (.inl t7, h8)
    else
      some (.inr 1, h)
abbrev rm_X10_with : Room := { frames := 6, cells := 1, slots := 6, locals := 122 }
set_option maxRecDepth 100000 in
set_option maxHeartbeats 4000000 in
theorem mt_X10_with {w : WD} {l : Launch} {F : Nat} (hlt : l.stackTraces = false) {l0 : Nat} {l1 : Int32} {l2 : Int32} {h : HP} {r : Int32 ⊕ Nat} {h' : HP} (hs : sX10_with F l0 l1 l2 h = some (r, h')) : XI w l yX10_with cX10_with 3 .int rm_X10_with [rf w (some l0), .int l1, .int l2] h r h' := by
  refine of_bodyT [(0, rf w (some l0)), (1, .int l1), (2, .int l2)] (by decide) (by simp [lg_sl, rf_cat, cat_i, cat_l, cat_a]) (by simp [lv_args, rf_cat, cat_i, cat_l, cat_a]) ?_
  intro x hw_ hnL_ hl_ hc hret hex hQ
  subst hw_; subst hl_
  have hnl : ∀ i, i < 3 → i < x.nL := fun i h => by rw [hnL_]; exact h
  have hw : wpO (sX10_with F l0 l1 l2 h) (fun q => q = (r, h')) := ⟨_, hs, rfl⟩
  unfold sX10_with at hw
  refine R_aload_n (q := 0) (i := 0) (v := (some l0)) hc dX10_with_0 rfl rfl ?_
  refine R_iload_n (q := 1) (i := 1) (v := l1) hc dX10_with_1 rfl rfl ?_
  refine R_cVI (As := [.int l1]) (rest := []) (r := (some l0)) (ci := 10) hc ml_10_307 mf_X10_isFinger rfl (by decide) ⟨rfl, rfl⟩ ⟨le_b rfl, le_b rfl⟩ ⟨Nat.zero_le _, Nat.zero_le _⟩ (fun a v e => mt_X10_isFinger e) rfl rfl (Nat.zero_le _) dX10_with_2 hw (fun t2 hw => ?_)
  refine R_if_eq (tgt := 16) hc dX10_with_5 (by decide) hw (fun hw => ?_) (fun hw => ?_)
  · exact R_throwSW (k := 1) (is := 310) hc hlt hex (by decide) tx_cl1 tx_in1 tx_g1 tx_b1 tx_o1 (text := "there is no such finger") (List.mem_of_getElem? (i := 11) rfl) ⟨le_b rfl, le_b rfl⟩ ⟨le_b rfl, le_b rfl⟩ ⟨le_b rfl, le_b rfl⟩ hQ hw dX10_with_16 dX10_with_19 dX10_with_20 dX10_with_23 dX10_with_26
  · refine R_aload_n (q := 0) (i := 0) (v := (some l0)) hc dX10_with_8 rfl rfl ?_
    refine R_iload_n (q := 2) (i := 2) (v := l2) hc dX10_with_9 rfl rfl ?_
    refine R_cVI (As := [.int l2]) (rest := []) (r := (some l0)) (ci := 10) hc ml_10_307 mf_X10_isFinger rfl (by decide) ⟨rfl, rfl⟩ ⟨le_b rfl, le_b rfl⟩ ⟨Nat.zero_le _, Nat.zero_le _⟩ (fun a v e => mt_X10_isFinger e) rfl rfl (Nat.zero_le _) dX10_with_10 hw (fun t4 hw => ?_)
    refine R_if_ne (tgt := 27) hc dX10_with_13 (by decide) hw (fun hw => ?_) (fun hw => ?_)
    · refine R_aload_n (q := 0) (i := 0) (v := (some l0)) hc dX10_with_27 rfl rfl ?_
      refine R_getR hc fl_10_75 dX10_with_28 hw (fun t5 hw => ?_)
      refine R_iload_n (q := 1) (i := 1) (v := l1) hc dX10_with_31 rfl rfl ?_
      refine R_iload_n (q := 2) (i := 2) (v := l2) hc dX10_with_32 rfl rfl ?_
      refine R_cVIi (As := [.int l1, .int l2]) (rest := []) (r := t5) (ci := 4) hc ml_10_312 mf_X4_fewestBetween rfl (by decide) ⟨rfl, rfl⟩ ⟨le_b rfl, le_b rfl⟩ ⟨Nat.zero_le _, Nat.zero_le _⟩ (fun a v h' e => mt_X4_fewestBetween e) rfl rfl (Nat.zero_le _) dX10_with_33 hw (fun t7 h8 hw => ?_)
      exact R_ireturnT hc hret rfl ⟨Nat.zero_le _, Nat.zero_le _⟩ hQ hw dX10_with_36
    · exact R_throwSW (k := 1) (is := 310) hc hlt hex (by decide) tx_cl1 tx_in1 tx_g1 tx_b1 tx_o1 (text := "there is no such finger") (List.mem_of_getElem? (i := 11) rfl) ⟨le_b rfl, le_b rfl⟩ ⟨le_b rfl, le_b rfl⟩ ⟨le_b rfl, le_b rfl⟩ hQ hw dX10_with_16 dX10_with_19 dX10_with_20 dX10_with_23 dX10_with_26
theorem dX10_ofSet_0 : decode cX10_ofSet 0 = .ok (.iload_n 1, 1) := by decide +kernel
theorem dX10_ofSet_1 : decode cX10_ofSet 1 = .ok (.aload_n 0, 1) := by decide +kernel
theorem dX10_ofSet_2 : decode cX10_ofSet 2 = .ok (.getfield 75, 3) := by decide +kernel
theorem dX10_ofSet_5 : decode cX10_ofSet 5 = .ok (.getfield 125, 3) := by decide +kernel
theorem dX10_ofSet_8 : decode cX10_ofSet 8 = .ok (.invokevirtual 292, 3) := by decide +kernel
theorem dX10_ofSet_11 : decode cX10_ofSet 11 = .ok (.iconst (-1), 1) := by decide +kernel
theorem dX10_ofSet_12 : decode cX10_ofSet 12 = .ok (.ixor, 1) := by decide +kernel
theorem dX10_ofSet_13 : decode cX10_ofSet 13 = .ok (.iand, 1) := by decide +kernel
theorem dX10_ofSet_14 : decode cX10_ofSet 14 = .ok (.ifCond .eq 14, 3) := by decide +kernel
theorem dX10_ofSet_17 : decode cX10_ofSet 17 = .ok (.new 110, 3) := by decide +kernel
theorem dX10_ofSet_20 : decode cX10_ofSet 20 = .ok (.dup, 1) := by decide +kernel
theorem dX10_ofSet_21 : decode cX10_ofSet 21 = .ok (.ldc_w 310, 3) := by decide +kernel
theorem dX10_ofSet_24 : decode cX10_ofSet 24 = .ok (.invokespecial 114, 3) := by decide +kernel
theorem dX10_ofSet_27 : decode cX10_ofSet 27 = .ok (.athrow, 1) := by decide +kernel
theorem dX10_ofSet_28 : decode cX10_ofSet 28 = .ok (.aload_n 0, 1) := by decide +kernel
theorem dX10_ofSet_29 : decode cX10_ofSet 29 = .ok (.getfield 75, 3) := by decide +kernel
theorem dX10_ofSet_32 : decode cX10_ofSet 32 = .ok (.getfield 284, 3) := by decide +kernel
theorem dX10_ofSet_35 : decode cX10_ofSet 35 = .ok (.getfield 288, 3) := by decide +kernel
theorem dX10_ofSet_38 : decode cX10_ofSet 38 = .ok (.iload_n 1, 1) := by decide +kernel
theorem dX10_ofSet_39 : decode cX10_ofSet 39 = .ok (.iaload, 1) := by decide +kernel
theorem dX10_ofSet_40 : decode cX10_ofSet 40 = .ok (.ireturn, 1) := by decide +kernel
def sX10_ofSet (F : Nat) (l0 : Nat) (l1 : Int32) (h : HP) : Option ((Int32 ⊕ Nat) × HP) :=
  (gR h 10 (some l0) 12).bind fun t1 =>
  (gR h 4 t1 0).bind fun t2 =>
  (dO h 1 t2).bind fun a3 =>
  (sX1_allFingers F a3 h).bind fun t4 =>
  if (l1 &&& (t4 ^^^ (-1 : Int32))) = 0 then
    (gR h 10 (some l0) 12).bind fun t5 =>
    (gR h 4 t5 1).bind fun t6 =>
    (gR h 3 t6 0).bind fun t7 =>
    (aI h 13 t7 l1).bind fun t8 =>
    some (.inl t8, h)
  else
    some (.inr 0, h)
abbrev rm_X10_ofSet : Room := { frames := 6, cells := 1, slots := 6, locals := 82 }
set_option maxRecDepth 100000 in
set_option maxHeartbeats 4000000 in
theorem mt_X10_ofSet {w : WD} {l : Launch} {F : Nat} (hlt : l.stackTraces = false) {l0 : Nat} {l1 : Int32} {h : HP} {r : Int32 ⊕ Nat} {h' : HP} (hs : sX10_ofSet F l0 l1 h = some (r, h')) : XI w l yX10_ofSet cX10_ofSet 2 .int rm_X10_ofSet [rf w (some l0), .int l1] h r h' := by
  refine of_bodyT [(0, rf w (some l0)), (1, .int l1)] (by decide) (by simp [lg_sl, rf_cat, cat_i, cat_l, cat_a]) (by simp [lv_args, rf_cat, cat_i, cat_l, cat_a]) ?_
  intro x hw_ hnL_ hl_ hc hret hex hQ
  subst hw_; subst hl_
  have hnl : ∀ i, i < 2 → i < x.nL := fun i h => by rw [hnL_]; exact h
  have hw : wpO (sX10_ofSet F l0 l1 h) (fun q => q = (r, h')) := ⟨_, hs, rfl⟩
  unfold sX10_ofSet at hw
  refine R_iload_n (q := 1) (i := 1) (v := l1) hc dX10_ofSet_0 rfl rfl ?_
  refine R_aload_n (q := 0) (i := 0) (v := (some l0)) hc dX10_ofSet_1 rfl rfl ?_
  refine R_getR hc fl_10_75 dX10_ofSet_2 hw (fun t1 hw => ?_)
  refine R_getR hc fl_10_125 dX10_ofSet_5 hw (fun t2 hw => ?_)
  refine R_cVI (As := []) (rest := [.int l1]) (r := t2) (ci := 1) hc ml_10_292 mf_X1_allFingers rfl (by decide) ⟨rfl, rfl⟩ ⟨le_b rfl, le_b rfl⟩ ⟨Nat.zero_le _, Nat.zero_le _⟩ (fun a v e => mt_X1_allFingers e) rfl rfl (le_b rfl) dX10_ofSet_8 hw (fun t4 hw => ?_)
  refine R_iconst (v := (-1 : Int32)) hc dX10_ofSet_11 kI_m1 ?_
  refine R_ixor hc dX10_ofSet_12 ?_
  refine R_iand hc dX10_ofSet_13 ?_
  refine R_if_eq (tgt := 28) hc dX10_ofSet_14 (by decide) hw (fun hw => ?_) (fun hw => ?_)
  · refine R_aload_n (q := 0) (i := 0) (v := (some l0)) hc dX10_ofSet_28 rfl rfl ?_
    refine R_getR hc fl_10_75 dX10_ofSet_29 hw (fun t5 hw => ?_)
    refine R_getR hc fl_10_284 dX10_ofSet_32 hw (fun t6 hw => ?_)
    refine R_getR hc fl_10_288 dX10_ofSet_35 hw (fun t7 hw => ?_)
    refine R_iload_n (q := 1) (i := 1) (v := l1) hc dX10_ofSet_38 rfl rfl ?_
    refine R_iaload hc dX10_ofSet_39 hw (fun t8 hw => ?_)
    exact R_ireturnT hc hret rfl ⟨Nat.zero_le _, Nat.zero_le _⟩ hQ hw dX10_ofSet_40
  · exact R_throwSW (k := 0) (is := 310) hc hlt hex (by decide) tx_cl0 tx_in0 tx_g0 tx_b0 tx_o0 (text := "there is no such finger") (List.mem_of_getElem? (i := 11) rfl) ⟨le_b rfl, le_b rfl⟩ ⟨le_b rfl, le_b rfl⟩ ⟨le_b rfl, le_b rfl⟩ hQ hw dX10_ofSet_17 dX10_ofSet_20 dX10_ofSet_21 dX10_ofSet_24 dX10_ofSet_27
theorem dX10_parted_0 : decode cX10_parted 0 = .ok (.iload_n 1, 1) := by decide +kernel
theorem dX10_parted_1 : decode cX10_parted 1 = .ok (.ifCond .lt 17, 3) := by decide +kernel
theorem dX10_parted_4 : decode cX10_parted 4 = .ok (.iload_n 1, 1) := by decide +kernel
theorem dX10_parted_5 : decode cX10_parted 5 = .ok (.aload_n 0, 1) := by decide +kernel
theorem dX10_parted_6 : decode cX10_parted 6 = .ok (.getfield 75, 3) := by decide +kernel
theorem dX10_parted_9 : decode cX10_parted 9 = .ok (.getfield 125, 3) := by decide +kernel
theorem dX10_parted_12 : decode cX10_parted 12 = .ok (.getfield 128, 3) := by decide +kernel
theorem dX10_parted_15 : decode cX10_parted 15 = .ok (.if_icmp .le 14, 3) := by decide +kernel
theorem dX10_parted_18 : decode cX10_parted 18 = .ok (.new 110, 3) := by decide +kernel
theorem dX10_parted_21 : decode cX10_parted 21 = .ok (.dup, 1) := by decide +kernel
theorem dX10_parted_22 : decode cX10_parted 22 = .ok (.ldc_w 329, 3) := by decide +kernel
theorem dX10_parted_25 : decode cX10_parted 25 = .ok (.invokespecial 114, 3) := by decide +kernel
theorem dX10_parted_28 : decode cX10_parted 28 = .ok (.athrow, 1) := by decide +kernel
theorem dX10_parted_29 : decode cX10_parted 29 = .ok (.aload_n 0, 1) := by decide +kernel
theorem dX10_parted_30 : decode cX10_parted 30 = .ok (.getfield 75, 3) := by decide +kernel
theorem dX10_parted_33 : decode cX10_parted 33 = .ok (.iload_n 1, 1) := by decide +kernel
theorem dX10_parted_34 : decode cX10_parted 34 = .ok (.invokevirtual 331, 3) := by decide +kernel
theorem dX10_parted_37 : decode cX10_parted 37 = .ok (.istore_n 3, 1) := by decide +kernel
theorem dX10_parted_38 : decode cX10_parted 38 = .ok (.iload_n 2, 1) := by decide +kernel
theorem dX10_parted_39 : decode cX10_parted 39 = .ok (.ifCond .eq 7, 3) := by decide +kernel
theorem dX10_parted_42 : decode cX10_parted 42 = .ok (.iload_n 3, 1) := by decide +kernel
theorem dX10_parted_43 : decode cX10_parted 43 = .ok (.goto 11, 3) := by decide +kernel
theorem dX10_parted_46 : decode cX10_parted 46 = .ok (.aload_n 0, 1) := by decide +kernel
theorem dX10_parted_47 : decode cX10_parted 47 = .ok (.getfield 75, 3) := by decide +kernel
theorem dX10_parted_50 : decode cX10_parted 50 = .ok (.iload_n 3, 1) := by decide +kernel
theorem dX10_parted_51 : decode cX10_parted 51 = .ok (.invokevirtual 334, 3) := by decide +kernel
theorem dX10_parted_54 : decode cX10_parted 54 = .ok (.ireturn, 1) := by decide +kernel
def sX10_parted (F : Nat) (l0 : Nat) (l1 : Int32) (l2 : Int32) (h : HP) : Option ((Int32 ⊕ Nat) × HP) :=
  if l1 < 0 then
    some (.inr 0, h)
  else
    (gR h 10 (some l0) 12).bind fun t1 =>
    (gR h 4 t1 0).bind fun t2 =>
    (gI h 1 t2 5).bind fun t3 =>
    if l1 ≤ t3 then
      (gR h 10 (some l0) 12).bind fun t4 =>
      (dO h 4 t4).bind fun a5 =>
      (sX4_partingSet F a5 l1 h).bind fun t6 =>
      if l2 = 0 then
        (gR h 10 (some l0) 12).bind fun t7 =>
        (dO h 4 t7).bind fun a8 =>
        (sX4_partedGaps F a8 t6 h).bind fun t9 =>
        some (.inl t9, h)
      else
        some (.inl t6, h)
    else
      some (.inr 0, h)
abbrev rm_X10_parted : Room := { frames := 6, cells := 1, slots := 6, locals := 82 }
set_option maxRecDepth 100000 in
set_option maxHeartbeats 4000000 in
theorem mt_X10_parted {w : WD} {l : Launch} {F : Nat} (hlt : l.stackTraces = false) {l0 : Nat} {l1 : Int32} {l2 : Int32} {h : HP} {r : Int32 ⊕ Nat} {h' : HP} (hs : sX10_parted F l0 l1 l2 h = some (r, h')) : XI w l yX10_parted cX10_parted 4 .int rm_X10_parted [rf w (some l0), .int l1, .int l2] h r h' := by
  refine of_bodyT [(0, rf w (some l0)), (1, .int l1), (2, .int l2)] (by decide) (by simp [lg_sl, rf_cat, cat_i, cat_l, cat_a]) (by simp [lv_args, rf_cat, cat_i, cat_l, cat_a]) ?_
  intro x hw_ hnL_ hl_ hc hret hex hQ
  subst hw_; subst hl_
  have hnl : ∀ i, i < 4 → i < x.nL := fun i h => by rw [hnL_]; exact h
  have hw : wpO (sX10_parted F l0 l1 l2 h) (fun q => q = (r, h')) := ⟨_, hs, rfl⟩
  unfold sX10_parted at hw
  refine R_iload_n (q := 1) (i := 1) (v := l1) hc dX10_parted_0 rfl rfl ?_
  refine R_if_lt (tgt := 18) hc dX10_parted_1 (by decide) hw (fun hw => ?_) (fun hw => ?_)
  · exact R_throwSW (k := 0) (is := 329) hc hlt hex (by decide) tx_cl0 tx_in0 tx_g0 tx_b0 tx_o0 (text := "there are not so many fingers") (List.mem_of_getElem? (i := 12) rfl) ⟨le_b rfl, le_b rfl⟩ ⟨le_b rfl, le_b rfl⟩ ⟨le_b rfl, le_b rfl⟩ hQ hw dX10_parted_18 dX10_parted_21 dX10_parted_22 dX10_parted_25 dX10_parted_28
  · refine R_iload_n (q := 1) (i := 1) (v := l1) hc dX10_parted_4 rfl rfl ?_
    refine R_aload_n (q := 0) (i := 0) (v := (some l0)) hc dX10_parted_5 rfl rfl ?_
    refine R_getR hc fl_10_75 dX10_parted_6 hw (fun t1 hw => ?_)
    refine R_getR hc fl_10_125 dX10_parted_9 hw (fun t2 hw => ?_)
    refine R_getI hc fl_10_128 dX10_parted_12 hw (fun t3 hw => ?_)
    refine R_icmp_le (tgt := 29) hc dX10_parted_15 (by decide) hw (fun hw => ?_) (fun hw => ?_)
    · refine R_aload_n (q := 0) (i := 0) (v := (some l0)) hc dX10_parted_29 rfl rfl ?_
      refine R_getR hc fl_10_75 dX10_parted_30 hw (fun t4 hw => ?_)
      refine R_iload_n (q := 1) (i := 1) (v := l1) hc dX10_parted_33 rfl rfl ?_
      refine R_cVI (As := [.int l1]) (rest := []) (r := t4) (ci := 4) hc ml_10_331 mf_X4_partingSet rfl (by decide) ⟨rfl, rfl⟩ ⟨le_b rfl, le_b rfl⟩ ⟨Nat.zero_le _, Nat.zero_le _⟩ (fun a v e => mt_X4_partingSet e) rfl rfl (Nat.zero_le _) dX10_parted_34 hw (fun t6 hw => ?_)
      refine R_istore_n (i := 3) (v := t6) hc [(3, .int t6), (0, rf x.w (some l0)), (1, .int l1), (2, .int l2)] dX10_parted_37 rfl (hnl 3 (le_b rfl)) rfl ?_
      refine R_iload_n (q := 3) (i := 2) (v := l2) hc dX10_parted_38 rfl rfl ?_
      refine R_if_eq (tgt := 46) hc dX10_parted_39 (by decide) hw (fun hw => ?_) (fun hw => ?_)
      · refine R_aload_n (q := 1) (i := 0) (v := (some l0)) hc dX10_parted_46 rfl rfl ?_
        refine R_getR hc fl_10_75 dX10_parted_47 hw (fun t7 hw => ?_)
        refine R_iload_n (q := 0) (i := 3) (v := t6) hc dX10_parted_50 rfl rfl ?_
        refine R_cVI (As := [.int t6]) (rest := []) (r := t7) (ci := 4) hc ml_10_334 mf_X4_partedGaps rfl (by decide) ⟨rfl, rfl⟩ ⟨le_b rfl, le_b rfl⟩ ⟨Nat.zero_le _, Nat.zero_le _⟩ (fun a v e => mt_X4_partedGaps e) rfl rfl (Nat.zero_le _) dX10_parted_51 hw (fun t9 hw => ?_)
        exact R_ireturnT hc hret rfl ⟨Nat.zero_le _, Nat.zero_le _⟩ hQ hw dX10_parted_54
      · refine R_iload_n (q := 0) (i := 3) (v := t6) hc dX10_parted_42 rfl rfl ?_
        refine R_goto (tgt := 54) hc dX10_parted_43 (by decide) ?_
        exact R_ireturnT hc hret rfl ⟨Nat.zero_le _, Nat.zero_le _⟩ hQ hw dX10_parted_54
    · exact R_throwSW (k := 0) (is := 329) hc hlt hex (by decide) tx_cl0 tx_in0 tx_g0 tx_b0 tx_o0 (text := "there are not so many fingers") (List.mem_of_getElem? (i := 12) rfl) ⟨le_b rfl, le_b rfl⟩ ⟨le_b rfl, le_b rfl⟩ ⟨le_b rfl, le_b rfl⟩ hQ hw dX10_parted_18 dX10_parted_21 dX10_parted_22 dX10_parted_25 dX10_parted_28
theorem dX10_better_0 : decode cX10_better 0 = .ok (.iload_n 1, 1) := by decide +kernel
theorem dX10_better_1 : decode cX10_better 1 = .ok (.ifCond .lt 8, 3) := by decide +kernel
theorem dX10_better_4 : decode cX10_better 4 = .ok (.iload_n 1, 1) := by decide +kernel
theorem dX10_better_5 : decode cX10_better 5 = .ok (.iconst 4, 1) := by decide +kernel
theorem dX10_better_6 : decode cX10_better 6 = .ok (.if_icmp .lt 14, 3) := by decide +kernel
theorem dX10_better_9 : decode cX10_better 9 = .ok (.new 148, 3) := by decide +kernel
theorem dX10_better_12 : decode cX10_better 12 = .ok (.dup, 1) := by decide +kernel
theorem dX10_better_13 : decode cX10_better 13 = .ok (.ldc_w 346, 3) := by decide +kernel
theorem dX10_better_16 : decode cX10_better 16 = .ok (.invokespecial 152, 3) := by decide +kernel
theorem dX10_better_19 : decode cX10_better 19 = .ok (.athrow, 1) := by decide +kernel
theorem dX10_better_20 : decode cX10_better 20 = .ok (.aload_n 0, 1) := by decide +kernel
theorem dX10_better_21 : decode cX10_better 21 = .ok (.getfield 71, 3) := by decide +kernel
theorem dX10_better_24 : decode cX10_better 24 = .ok (.aload_n 0, 1) := by decide +kernel
theorem dX10_better_25 : decode cX10_better 25 = .ok (.getfield 75, 3) := by decide +kernel
theorem dX10_better_28 : decode cX10_better 28 = .ok (.getfield 125, 3) := by decide +kernel
theorem dX10_better_31 : decode cX10_better 31 = .ok (.aload_n 0, 1) := by decide +kernel
theorem dX10_better_32 : decode cX10_better 32 = .ok (.getfield 31, 3) := by decide +kernel
theorem dX10_better_35 : decode cX10_better 35 = .ok (.aload_n 0, 1) := by decide +kernel
theorem dX10_better_36 : decode cX10_better 36 = .ok (.getfield 59, 3) := by decide +kernel
theorem dX10_better_39 : decode cX10_better 39 = .ok (.invokevirtual 348, 3) := by decide +kernel
theorem dX10_better_42 : decode cX10_better 42 = .ok (.aload_n 0, 1) := by decide +kernel
theorem dX10_better_43 : decode cX10_better 43 = .ok (.getfield 71, 3) := by decide +kernel
theorem dX10_better_46 : decode cX10_better 46 = .ok (.getfield 352, 3) := by decide +kernel
theorem dX10_better_49 : decode cX10_better 49 = .ok (.iload_n 1, 1) := by decide +kernel
theorem dX10_better_50 : decode cX10_better 50 = .ok (.iaload, 1) := by decide +kernel
theorem dX10_better_51 : decode cX10_better 51 = .ok (.ireturn, 1) := by decide +kernel
def sX10_better (F : Nat) (l0 : Nat) (l1 : Int32) (h : HP) : Option ((Int32 ⊕ Nat) × HP) :=
  if l1 < 0 then
    some (.inr 2, h)
  else
    if l1 < (4 : Int32) then
      (gR h 10 (some l0) 11).bind fun t1 =>
      (gR h 10 (some l0) 12).bind fun t2 =>
      (gR h 4 t2 0).bind fun t3 =>
      (gR h 10 (some l0) 3).bind fun t4 =>
      (gR h 10 (some l0) 8).bind fun t5 =>
      (dO h 0 t1).bind fun a6 =>
      (sX0_seek F a6 t3 t4 t5 h).bind fun h7 =>
      (gR h7 10 (some l0) 11).bind fun t8 =>
      (gR h7 0 t8 0).bind fun t9 =>
      (aI h7 13 t9 l1).bind fun t10 =>
      some (.inl t10, h7)
    else
      some (.inr 2, h)
abbrev rm_X10_better : Room := { frames := 6, cells := 1, slots := 6, locals := 113 }
set_option maxRecDepth 100000 in
set_option maxHeartbeats 4000000 in
theorem mt_X10_better {w : WD} {l : Launch} {F : Nat} (hlt : l.stackTraces = false) {l0 : Nat} {l1 : Int32} {h : HP} {r : Int32 ⊕ Nat} {h' : HP} (hs : sX10_better F l0 l1 h = some (r, h')) : XI w l yX10_better cX10_better 2 .int rm_X10_better [rf w (some l0), .int l1] h r h' := by
  refine of_bodyT [(0, rf w (some l0)), (1, .int l1)] (by decide) (by simp [lg_sl, rf_cat, cat_i, cat_l, cat_a]) (by simp [lv_args, rf_cat, cat_i, cat_l, cat_a]) ?_
  intro x hw_ hnL_ hl_ hc hret hex hQ
  subst hw_; subst hl_
  have hnl : ∀ i, i < 2 → i < x.nL := fun i h => by rw [hnL_]; exact h
  have hw : wpO (sX10_better F l0 l1 h) (fun q => q = (r, h')) := ⟨_, hs, rfl⟩
  unfold sX10_better at hw
  refine R_iload_n (q := 1) (i := 1) (v := l1) hc dX10_better_0 rfl rfl ?_
  refine R_if_lt (tgt := 9) hc dX10_better_1 (by decide) hw (fun hw => ?_) (fun hw => ?_)
  · exact R_throwNW hc hlt hex (is := 346) (text := "there is no such thing of the better one") (List.mem_of_getElem? (i := 13) rfl) ⟨le_b rfl, le_b rfl⟩ ⟨le_b rfl, le_b rfl⟩ ⟨le_b rfl, le_b rfl⟩ hQ hw dX10_better_9 dX10_better_12 dX10_better_13 dX10_better_16 dX10_better_19
  · refine R_iload_n (q := 1) (i := 1) (v := l1) hc dX10_better_4 rfl rfl ?_
    refine R_iconst (v := (4 : Int32)) hc dX10_better_5 kI_4 ?_
    refine R_icmp_lt (tgt := 20) hc dX10_better_6 (by decide) hw (fun hw => ?_) (fun hw => ?_)
    · refine R_aload_n (q := 0) (i := 0) (v := (some l0)) hc dX10_better_20 rfl rfl ?_
      refine R_getR hc fl_10_71 dX10_better_21 hw (fun t1 hw => ?_)
      refine R_aload_n (q := 0) (i := 0) (v := (some l0)) hc dX10_better_24 rfl rfl ?_
      refine R_getR hc fl_10_75 dX10_better_25 hw (fun t2 hw => ?_)
      refine R_getR hc fl_10_125 dX10_better_28 hw (fun t3 hw => ?_)
      refine R_aload_n (q := 0) (i := 0) (v := (some l0)) hc dX10_better_31 rfl rfl ?_
      refine R_getR hc fl_10_31 dX10_better_32 hw (fun t4 hw => ?_)
      refine R_aload_n (q := 0) (i := 0) (v := (some l0)) hc dX10_better_35 rfl rfl ?_
      refine R_getR hc fl_10_59 dX10_better_36 hw (fun t5 hw => ?_)
      refine R_cVVi (As := [rf x.w t3, rf x.w t4, rf x.w t5]) (rest := []) (r := t1) (ci := 0) hc ml_10_348 mf_X0_seek rfl (by decide) ⟨rfl, rfl⟩ ⟨le_b rfl, le_b rfl⟩ ⟨Nat.zero_le _, Nat.zero_le _⟩ (fun a h' e => mt_X0_seek e) rfl rfl (Nat.zero_le _) dX10_better_39 hw (fun h7 hw => ?_)
      refine R_aload_n (q := 0) (i := 0) (v := (some l0)) hc dX10_better_42 rfl rfl ?_
      refine R_getR hc fl_10_71 dX10_better_43 hw (fun t8 hw => ?_)
      refine R_getR hc fl_10_352 dX10_better_46 hw (fun t9 hw => ?_)
      refine R_iload_n (q := 1) (i := 1) (v := l1) hc dX10_better_49 rfl rfl ?_
      refine R_iaload hc dX10_better_50 hw (fun t10 hw => ?_)
      exact R_ireturnT hc hret rfl ⟨Nat.zero_le _, Nat.zero_le _⟩ hQ hw dX10_better_51
    · exact R_throwNW hc hlt hex (is := 346) (text := "there is no such thing of the better one") (List.mem_of_getElem? (i := 13) rfl) ⟨le_b rfl, le_b rfl⟩ ⟨le_b rfl, le_b rfl⟩ ⟨le_b rfl, le_b rfl⟩ hQ hw dX10_better_9 dX10_better_12 dX10_better_13 dX10_better_16 dX10_better_19
theorem dX10_shortest_0 : decode cX10_shortest 0 = .ok (.iload_n 1, 1) := by decide +kernel
theorem dX10_shortest_1 : decode cX10_shortest 1 = .ok (.iconst 1, 1) := by decide +kernel
theorem dX10_shortest_2 : decode cX10_shortest 2 = .ok (.if_icmp .lt 9, 3) := by decide +kernel
theorem dX10_shortest_5 : decode cX10_shortest 5 = .ok (.iload_n 1, 1) := by decide +kernel
theorem dX10_shortest_6 : decode cX10_shortest 6 = .ok (.bipush 20, 2) := by decide +kernel
theorem dX10_shortest_8 : decode cX10_shortest 8 = .ok (.if_icmp .le 14, 3) := by decide +kernel
theorem dX10_shortest_11 : decode cX10_shortest 11 = .ok (.new 110, 3) := by decide +kernel
theorem dX10_shortest_14 : decode cX10_shortest 14 = .ok (.dup, 1) := by decide +kernel
theorem dX10_shortest_15 : decode cX10_shortest 15 = .ok (.ldc_w 355, 3) := by decide +kernel
theorem dX10_shortest_18 : decode cX10_shortest 18 = .ok (.invokespecial 114, 3) := by decide +kernel
theorem dX10_shortest_21 : decode cX10_shortest 21 = .ok (.athrow, 1) := by decide +kernel
theorem dX10_shortest_22 : decode cX10_shortest 22 = .ok (.iconst 0, 1) := by decide +kernel
theorem dX10_shortest_23 : decode cX10_shortest 23 = .ok (.istore_n 3, 1) := by decide +kernel
theorem dX10_shortest_24 : decode cX10_shortest 24 = .ok (.aload_n 0, 1) := by decide +kernel
theorem dX10_shortest_25 : decode cX10_shortest 25 = .ok (.iconst 0, 1) := by decide +kernel
theorem dX10_shortest_26 : decode cX10_shortest 26 = .ok (.invokevirtual 357, 3) := by decide +kernel
theorem dX10_shortest_29 : decode cX10_shortest 29 = .ok (.istore 4, 2) := by decide +kernel
theorem dX10_shortest_31 : decode cX10_shortest 31 = .ok (.iconst 1, 1) := by decide +kernel
theorem dX10_shortest_32 : decode cX10_shortest 32 = .ok (.istore 5, 2) := by decide +kernel
theorem dX10_shortest_34 : decode cX10_shortest 34 = .ok (.iload 5, 2) := by decide +kernel
theorem dX10_shortest_36 : decode cX10_shortest 36 = .ok (.iload_n 1, 1) := by decide +kernel
theorem dX10_shortest_37 : decode cX10_shortest 37 = .ok (.if_icmp .ge 45, 3) := by decide +kernel
theorem dX10_shortest_40 : decode cX10_shortest 40 = .ok (.iload 5, 2) := by decide +kernel
theorem dX10_shortest_42 : decode cX10_shortest 42 = .ok (.i2l, 1) := by decide +kernel
theorem dX10_shortest_43 : decode cX10_shortest 43 = .ok (.aload_n 0, 1) := by decide +kernel
theorem dX10_shortest_44 : decode cX10_shortest 44 = .ok (.getfield 75, 3) := by decide +kernel
theorem dX10_shortest_47 : decode cX10_shortest 47 = .ok (.invokevirtual 295, 3) := by decide +kernel
theorem dX10_shortest_50 : decode cX10_shortest 50 = .ok (.lcmp, 1) := by decide +kernel
theorem dX10_shortest_51 : decode cX10_shortest 51 = .ok (.ifCond .ge 31, 3) := by decide +kernel
theorem dX10_shortest_54 : decode cX10_shortest 54 = .ok (.aload_n 0, 1) := by decide +kernel
theorem dX10_shortest_55 : decode cX10_shortest 55 = .ok (.iload 5, 2) := by decide +kernel
theorem dX10_shortest_57 : decode cX10_shortest 57 = .ok (.invokevirtual 357, 3) := by decide +kernel
theorem dX10_shortest_60 : decode cX10_shortest 60 = .ok (.istore 6, 2) := by decide +kernel
theorem dX10_shortest_62 : decode cX10_shortest 62 = .ok (.iload 6, 2) := by decide +kernel
theorem dX10_shortest_64 : decode cX10_shortest 64 = .ok (.iload 4, 2) := by decide +kernel
theorem dX10_shortest_66 : decode cX10_shortest 66 = .ok (.if_icmp .ge 10, 3) := by decide +kernel
theorem dX10_shortest_69 : decode cX10_shortest 69 = .ok (.iload 5, 2) := by decide +kernel
theorem dX10_shortest_71 : decode cX10_shortest 71 = .ok (.istore_n 3, 1) := by decide +kernel
theorem dX10_shortest_72 : decode cX10_shortest 72 = .ok (.iload 6, 2) := by decide +kernel
theorem dX10_shortest_74 : decode cX10_shortest 74 = .ok (.istore 4, 2) := by decide +kernel
theorem dX10_shortest_76 : decode cX10_shortest 76 = .ok (.iinc 5 1, 3) := by decide +kernel
theorem dX10_shortest_79 : decode cX10_shortest 79 = .ok (.goto (-45), 3) := by decide +kernel
theorem dX10_shortest_82 : decode cX10_shortest 82 = .ok (.iload_n 2, 1) := by decide +kernel
theorem dX10_shortest_83 : decode cX10_shortest 83 = .ok (.ifCond .eq 8, 3) := by decide +kernel
theorem dX10_shortest_86 : decode cX10_shortest 86 = .ok (.iload 4, 2) := by decide +kernel
theorem dX10_shortest_88 : decode cX10_shortest 88 = .ok (.goto 4, 3) := by decide +kernel
theorem dX10_shortest_91 : decode cX10_shortest 91 = .ok (.iload_n 3, 1) := by decide +kernel
theorem dX10_shortest_92 : decode cX10_shortest 92 = .ok (.ireturn, 1) := by decide +kernel
def sX10_shortest_L34 (F : Nat) (l0 : Nat) (l1 : Int32) (l2 : Int32) (l3 : Int32) (l4 : Int32) (l5 : Int32) (h : HP) : Option ((Int32 × Int32 × Int32 × HP) ⊕ (Int32 × Int32 × HP)) :=
  if l1 ≤ l5 then
    some (.inr (l3, l4, h))
  else
    (gR h 10 (some l0) 12).bind fun t4 =>
    (dO h 4 t4).bind fun a5 =>
    (sX4_total F a5 h).bind fun t6 =>
    if 0 ≤ (lg_cmp l5.toInt64 t6) then
      some (.inr (l3, l4, h))
    else
      (dO h 10 (some l0)).bind fun a7 =>
      bd2 (sX10_lengthOf F a7 l5 h) fun t8 h9 =>
      if l4 ≤ t8 then
        some (.inl (l3, l4, l5 + (1 : Int32), h9))
      else
        some (.inl (l5, t8, l5 + (1 : Int32), h9))
def sX10_shortest (F : Nat) (l0 : Nat) (l1 : Int32) (l2 : Int32) (h : HP) : Option ((Int32 ⊕ Nat) × HP) :=
  if l1 < (1 : Int32) then
    some (.inr 0, h)
  else
    if l1 ≤ (20 : Int32) then
      (dO h 10 (some l0)).bind fun a1 =>
      bd2 (sX10_lengthOf F a1 (0 : Int32) h) fun t2 h3 =>
      (iter (fun s => sX10_shortest_L34 F l0 l1 l2 s.1 s.2.1 s.2.2.1 s.2.2.2) F ((0 : Int32), t2, (1 : Int32), h3)).bind fun r => match r with
      | (l3_10, l4_11, h12) =>
        if l2 = 0 then
          some (.inl l3_10, h12)
        else
          some (.inl l4_11, h12)
    else
      some (.inr 0, h)
abbrev rm_X10_shortest : Room := { frames := 6, cells := 1, slots := 6, locals := 151 }
set_option maxRecDepth 100000 in
set_option maxHeartbeats 4000000 in
theorem mt_X10_shortest {w : WD} {l : Launch} {F : Nat} (hlt : l.stackTraces = false) {l0 : Nat} {l1 : Int32} {l2 : Int32} {h : HP} {r : Int32 ⊕ Nat} {h' : HP} (hs : sX10_shortest F l0 l1 l2 h = some (r, h')) : XI w l yX10_shortest cX10_shortest 7 .int rm_X10_shortest [rf w (some l0), .int l1, .int l2] h r h' := by
  refine of_bodyT [(0, rf w (some l0)), (1, .int l1), (2, .int l2)] (by decide) (by simp [lg_sl, rf_cat, cat_i, cat_l, cat_a]) (by simp [lv_args, rf_cat, cat_i, cat_l, cat_a]) ?_
  intro x hw_ hnL_ hl_ hc hret hex hQ
  subst hw_; subst hl_
  have hnl : ∀ i, i < 7 → i < x.nL := fun i h => by rw [hnL_]; exact h
  have hw : wpO (sX10_shortest F l0 l1 l2 h) (fun q => q = (r, h')) := ⟨_, hs, rfl⟩
  unfold sX10_shortest at hw
  refine R_iload_n (q := 1) (i := 1) (v := l1) hc dX10_shortest_0 rfl rfl ?_
  refine R_iconst (v := (1 : Int32)) hc dX10_shortest_1 kI_1 ?_
  refine R_icmp_lt (tgt := 11) hc dX10_shortest_2 (by decide) hw (fun hw => ?_) (fun hw => ?_)
  · exact R_throwSW (k := 0) (is := 355) hc hlt hex (by decide) tx_cl0 tx_in0 tx_g0 tx_b0 tx_o0 (text := "there is no such number of best ones") (List.mem_of_getElem? (i := 14) rfl) ⟨le_b rfl, le_b rfl⟩ ⟨le_b rfl, le_b rfl⟩ ⟨le_b rfl, le_b rfl⟩ hQ hw dX10_shortest_11 dX10_shortest_14 dX10_shortest_15 dX10_shortest_18 dX10_shortest_21
  · refine R_iload_n (q := 1) (i := 1) (v := l1) hc dX10_shortest_5 rfl rfl ?_
    refine R_bipush (v := (20 : Int32)) hc dX10_shortest_6 kB_20 ?_
    refine R_icmp_le (tgt := 22) hc dX10_shortest_8 (by decide) hw (fun hw => ?_) (fun hw => ?_)
    · refine R_iconst (v := (0 : Int32)) hc dX10_shortest_22 kI_0 ?_
      refine R_istore_n (i := 3) (v := (0 : Int32)) hc [(3, .int (0 : Int32)), (0, rf x.w (some l0)), (1, .int l1), (2, .int l2)] dX10_shortest_23 rfl (hnl 3 (le_b rfl)) rfl ?_
      refine R_aload_n (q := 1) (i := 0) (v := (some l0)) hc dX10_shortest_24 rfl rfl ?_
      refine R_iconst (v := (0 : Int32)) hc dX10_shortest_25 kI_0 ?_
      refine R_cVIi (As := [.int (0 : Int32)]) (rest := []) (r := (some l0)) (ci := 10) hc ml_10_357 mf_X10_lengthOf rfl (by decide) ⟨rfl, rfl⟩ ⟨le_b rfl, le_b rfl⟩ ⟨Nat.zero_le _, Nat.zero_le _⟩ (fun a v h' e => mt_X10_lengthOf e) rfl rfl (Nat.zero_le _) dX10_shortest_26 hw (fun t2 h3 hw => ?_)
      refine R_istore (i := 4) (v := t2) hc [(4, .int t2), (3, .int (0 : Int32)), (0, rf x.w (some l0)), (1, .int l1), (2, .int l2)] dX10_shortest_29 (hnl 4 (le_b rfl)) rfl ?_
      refine R_iconst (v := (1 : Int32)) hc dX10_shortest_31 kI_1 ?_
      refine R_istore (i := 5) (v := (1 : Int32)) hc [(5, .int (1 : Int32)), (4, .int t2), (3, .int (0 : Int32)), (0, rf x.w (some l0)), (1, .int l1), (2, .int l2)] dX10_shortest_32 (hnl 5 (le_b rfl)) rfl ?_
      refine R_sub hc [3, 4, 5, 2, 1, 0] rfl ?_
      refine R_loop (P := fun (s : (Int32 × Int32 × Int32 × HP)) => Rn x 0 0 34 [(0, rf x.w (some l0)), (1, .int l1), (2, .int l2), (3, .int s.1), (4, .int s.2.1), (5, .int s.2.2.1)] [] s.2.2.2) (fun r => match r with | (l3_10, l4_11, h12) => Rn x 0 0 82 [(2, .int l2), (3, .int l3_10), (4, .int l4_11)] [] h12) hw (fun r hw => ?_) (fun X hX s hw => ?_)
      · obtain ⟨l3_10, l4_11, h12⟩ := r
        show Rn x 0 0 82 [(2, .int l2), (3, .int l3_10), (4, .int l4_11)] [] h12
        refine R_iload_n (q := 0) (i := 2) (v := l2) hc dX10_shortest_82 rfl rfl ?_
        refine R_if_eq (tgt := 91) hc dX10_shortest_83 (by decide) hw (fun hw => ?_) (fun hw => ?_)
        · refine R_iload_n (q := 1) (i := 3) (v := l3_10) hc dX10_shortest_91 rfl rfl ?_
          exact R_ireturnT hc hret rfl ⟨Nat.zero_le _, Nat.zero_le _⟩ hQ hw dX10_shortest_92
        · refine R_iload (q := 2) (i := 4) (v := l4_11) hc dX10_shortest_86 rfl ?_
          refine R_goto (tgt := 92) hc dX10_shortest_88 (by decide) ?_
          exact R_ireturnT hc hret rfl ⟨Nat.zero_le _, Nat.zero_le _⟩ hQ hw dX10_shortest_92
      · obtain ⟨l3_14, l4_15, l5_16, h17⟩ := s
        show Rn x 0 0 34 [(0, rf x.w (some l0)), (1, .int l1), (2, .int l2), (3, .int l3_14), (4, .int l4_15), (5, .int l5_16)] [] h17
        have hw : wpO (sX10_shortest_L34 F l0 l1 l2 l3_14 l4_15 l5_16 h17) _ := hw
        unfold sX10_shortest_L34 at hw
        refine R_iload (q := 5) (i := 5) (v := l5_16) hc dX10_shortest_34 rfl ?_
        refine R_iload_n (q := 1) (i := 1) (v := l1) hc dX10_shortest_36 rfl rfl ?_
        refine R_icmp_ge (tgt := 82) hc dX10_shortest_37 (by decide) hw (fun hw => ?_) (fun hw => ?_)
        · refine R_sub hc [2, 3, 4] rfl ?_
          exact (wpO_some hw :)
        · refine R_iload (q := 5) (i := 5) (v := l5_16) hc dX10_shortest_40 rfl ?_
          refine R_i2l hc dX10_shortest_42 ?_
          refine R_aload_n (q := 0) (i := 0) (v := (some l0)) hc dX10_shortest_43 rfl rfl ?_
          refine R_getR hc fl_10_75 dX10_shortest_44 hw (fun t4 hw => ?_)
          refine R_cVJ (As := []) (rest := [.long l5_16.toInt64]) (r := t4) (ci := 4) hc ml_10_295 mf_X4_total rfl (by decide) ⟨rfl, rfl⟩ ⟨le_b rfl, le_b rfl⟩ ⟨Nat.zero_le _, Nat.zero_le _⟩ (fun a v e => mt_X4_total e) rfl rfl (le_b rfl) dX10_shortest_47 hw (fun t6 hw => ?_)
          refine R_lcmp hc dX10_shortest_50 ?_
          refine R_if_ge (tgt := 82) hc dX10_shortest_51 (by decide) hw (fun hw => ?_) (fun hw => ?_)
          · refine R_sub hc [2, 3, 4] rfl ?_
            exact (wpO_some hw :)
          · refine R_aload_n (q := 0) (i := 0) (v := (some l0)) hc dX10_shortest_54 rfl rfl ?_
            refine R_iload (q := 5) (i := 5) (v := l5_16) hc dX10_shortest_55 rfl ?_
            refine R_cVIi (As := [.int l5_16]) (rest := []) (r := (some l0)) (ci := 10) hc ml_10_357 mf_X10_lengthOf rfl (by decide) ⟨rfl, rfl⟩ ⟨le_b rfl, le_b rfl⟩ ⟨Nat.zero_le _, Nat.zero_le _⟩ (fun a v h' e => mt_X10_lengthOf e) rfl rfl (Nat.zero_le _) dX10_shortest_57 hw (fun t8 h9 hw => ?_)
            refine R_istore (i := 6) (v := t8) hc [(6, .int t8), (0, rf x.w (some l0)), (1, .int l1), (2, .int l2), (3, .int l3_14), (4, .int l4_15), (5, .int l5_16)] dX10_shortest_60 (hnl 6 (le_b rfl)) rfl ?_
            refine R_iload (q := 0) (i := 6) (v := t8) hc dX10_shortest_62 rfl ?_
            refine R_iload (q := 5) (i := 4) (v := l4_15) hc dX10_shortest_64 rfl ?_
            refine R_icmp_ge (tgt := 76) hc dX10_shortest_66 (by decide) hw (fun hw => ?_) (fun hw => ?_)
            · refine R_iinc (q := 6) (i := 5) (v := l5_16) hc [(5, .int (l5_16 + (1 : Int32))), (6, .int t8), (0, rf x.w (some l0)), (1, .int l1), (2, .int l2), (3, .int l3_14), (4, .int l4_15)] dX10_shortest_76 rfl (kC_1 _) (hnl 5 (le_b rfl)) rfl ?_
              refine R_goto (tgt := 34) hc dX10_shortest_79 (by decide) ?_
              refine R_sub hc [2, 3, 4, 5, 6, 0] rfl ?_
              exact hX (l3_14, l4_15, l5_16 + (1 : Int32), h9) (wpO_some hw :)
            · refine R_iload (q := 6) (i := 5) (v := l5_16) hc dX10_shortest_69 rfl ?_
              refine R_istore_n (i := 3) (v := l5_16) hc [(3, .int l5_16), (6, .int t8), (0, rf x.w (some l0)), (1, .int l1), (2, .int l2), (4, .int l4_15), (5, .int l5_16)] dX10_shortest_71 rfl (hnl 3 (le_b rfl)) rfl ?_
              refine R_iload (q := 1) (i := 6) (v := t8) hc dX10_shortest_72 rfl ?_
              refine R_istore (i := 4) (v := t8) hc [(4, .int t8), (3, .int l5_16), (6, .int t8), (0, rf x.w (some l0)), (1, .int l1), (2, .int l2), (5, .int l5_16)] dX10_shortest_74 (hnl 4 (le_b rfl)) rfl ?_
              refine R_iinc (q := 6) (i := 5) (v := l5_16) hc [(5, .int (l5_16 + (1 : Int32))), (4, .int t8), (3, .int l5_16), (6, .int t8), (0, rf x.w (some l0)), (1, .int l1), (2, .int l2)] dX10_shortest_76 rfl (kC_1 _) (hnl 5 (le_b rfl)) rfl ?_
              refine R_goto (tgt := 34) hc dX10_shortest_79 (by decide) ?_
              refine R_sub hc [4, 5, 6, 2, 1, 0] rfl ?_
              exact hX (l5_16, t8, l5_16 + (1 : Int32), h9) (wpO_some hw :)
    · exact R_throwSW (k := 0) (is := 355) hc hlt hex (by decide) tx_cl0 tx_in0 tx_g0 tx_b0 tx_o0 (text := "there is no such number of best ones") (List.mem_of_getElem? (i := 14) rfl) ⟨le_b rfl, le_b rfl⟩ ⟨le_b rfl, le_b rfl⟩ ⟨le_b rfl, le_b rfl⟩ hQ hw dX10_shortest_11 dX10_shortest_14 dX10_shortest_15 dX10_shortest_18 dX10_shortest_21
theorem dX10_neighbours_0 : decode cX10_neighbours 0 = .ok (.aload_n 0, 1) := by decide +kernel
theorem dX10_neighbours_1 : decode cX10_neighbours 1 = .ok (.iload_n 1, 1) := by decide +kernel
theorem dX10_neighbours_2 : decode cX10_neighbours 2 = .ok (.invokevirtual 307, 3) := by decide +kernel
theorem dX10_neighbours_5 : decode cX10_neighbours 5 = .ok (.ifCond .eq 11, 3) := by decide +kernel
theorem dX10_neighbours_8 : decode cX10_neighbours 8 = .ok (.aload_n 0, 1) := by decide +kernel
theorem dX10_neighbours_9 : decode cX10_neighbours 9 = .ok (.iload_n 2, 1) := by decide +kernel
theorem dX10_neighbours_10 : decode cX10_neighbours 10 = .ok (.invokevirtual 307, 3) := by decide +kernel
theorem dX10_neighbours_13 : decode cX10_neighbours 13 = .ok (.ifCond .ne 14, 3) := by decide +kernel
theorem dX10_neighbours_16 : decode cX10_neighbours 16 = .ok (.new 143, 3) := by decide +kernel
theorem dX10_neighbours_19 : decode cX10_neighbours 19 = .ok (.dup, 1) := by decide +kernel
theorem dX10_neighbours_20 : decode cX10_neighbours 20 = .ok (.ldc_w 310, 3) := by decide +kernel
theorem dX10_neighbours_23 : decode cX10_neighbours 23 = .ok (.invokespecial 147, 3) := by decide +kernel
theorem dX10_neighbours_26 : decode cX10_neighbours 26 = .ok (.athrow, 1) := by decide +kernel
theorem dX10_neighbours_27 : decode cX10_neighbours 27 = .ok (.iload_n 1, 1) := by decide +kernel
theorem dX10_neighbours_28 : decode cX10_neighbours 28 = .ok (.iload_n 2, 1) := by decide +kernel
theorem dX10_neighbours_29 : decode cX10_neighbours 29 = .ok (.if_icmp .ne 14, 3) := by decide +kernel
theorem dX10_neighbours_32 : decode cX10_neighbours 32 = .ok (.new 110, 3) := by decide +kernel
theorem dX10_neighbours_35 : decode cX10_neighbours 35 = .ok (.dup, 1) := by decide +kernel
theorem dX10_neighbours_36 : decode cX10_neighbours 36 = .ok (.ldc_w 360, 3) := by decide +kernel
theorem dX10_neighbours_39 : decode cX10_neighbours 39 = .ok (.invokespecial 114, 3) := by decide +kernel
theorem dX10_neighbours_42 : decode cX10_neighbours 42 = .ok (.athrow, 1) := by decide +kernel
theorem dX10_neighbours_43 : decode cX10_neighbours 43 = .ok (.ldc2_w 362, 3) := by decide +kernel
theorem dX10_neighbours_46 : decode cX10_neighbours 46 = .ok (.aload_n 0, 1) := by decide +kernel
theorem dX10_neighbours_47 : decode cX10_neighbours 47 = .ok (.getfield 75, 3) := by decide +kernel
theorem dX10_neighbours_50 : decode cX10_neighbours 50 = .ok (.iload_n 1, 1) := by decide +kernel
theorem dX10_neighbours_51 : decode cX10_neighbours 51 = .ok (.iload_n 2, 1) := by decide +kernel
theorem dX10_neighbours_52 : decode cX10_neighbours 52 = .ok (.invokevirtual 364, 3) := by decide +kernel
theorem dX10_neighbours_55 : decode cX10_neighbours 55 = .ok (.lmul, 1) := by decide +kernel
theorem dX10_neighbours_56 : decode cX10_neighbours 56 = .ok (.lreturn, 1) := by decide +kernel
def sX10_neighbours (F : Nat) (l0 : Nat) (l1 : Int32) (l2 : Int32) (h : HP) : Option ((Int64 ⊕ Nat) × HP) :=
  (dO h 10 (some l0)).bind fun a1 =>
  (sX10_isFinger F a1 l1 h).bind fun t2 =>
  if t2 = 0 then
    some (.inr 1, h)
  else
    (dO h 10 (some l0)).bind fun a3 =>
    (sX10_isFinger F a3 l2 h).bind fun t4 =>
    if ¬ t4 = 0 then
      if ¬ l1 = l2 then
        (gR h 10 (some l0) 12).bind fun t5 =>
        (dO h 4 t5).bind fun a6 =>
        (sX4_waysAhead F a6 l1 l2 h).bind fun t7 =>
        some (.inl ((2 : Int64) * t7), h)
      else
        some (.inr 0, h)
    else
      some (.inr 1, h)
abbrev rm_X10_neighbours : Room := { frames := 6, cells := 1, slots := 6, locals := 103 }
set_option maxRecDepth 100000 in
set_option maxHeartbeats 4000000 in
theorem mt_X10_neighbours {w : WD} {l : Launch} {F : Nat} (hlt : l.stackTraces = false) {l0 : Nat} {l1 : Int32} {l2 : Int32} {h : HP} {r : Int64 ⊕ Nat} {h' : HP} (hs : sX10_neighbours F l0 l1 l2 h = some (r, h')) : XJ w l yX10_neighbours cX10_neighbours 3 rm_X10_neighbours [rf w (some l0), .int l1, .int l2] h r h' := by
  refine of_bodyT [(0, rf w (some l0)), (1, .int l1), (2, .int l2)] (by decide) (by simp [lg_sl, rf_cat, cat_i, cat_l, cat_a]) (by simp [lv_args, rf_cat, cat_i, cat_l, cat_a]) ?_
  intro x hw_ hnL_ hl_ hc hret hex hQ
  subst hw_; subst hl_
  have hnl : ∀ i, i < 3 → i < x.nL := fun i h => by rw [hnL_]; exact h
  have hw : wpO (sX10_neighbours F l0 l1 l2 h) (fun q => q = (r, h')) := ⟨_, hs, rfl⟩
  unfold sX10_neighbours at hw
  refine R_aload_n (q := 0) (i := 0) (v := (some l0)) hc dX10_neighbours_0 rfl rfl ?_
  refine R_iload_n (q := 1) (i := 1) (v := l1) hc dX10_neighbours_1 rfl rfl ?_
  refine R_cVI (As := [.int l1]) (rest := []) (r := (some l0)) (ci := 10) hc ml_10_307 mf_X10_isFinger rfl (by decide) ⟨rfl, rfl⟩ ⟨le_b rfl, le_b rfl⟩ ⟨Nat.zero_le _, Nat.zero_le _⟩ (fun a v e => mt_X10_isFinger e) rfl rfl (Nat.zero_le _) dX10_neighbours_2 hw (fun t2 hw => ?_)
  refine R_if_eq (tgt := 16) hc dX10_neighbours_5 (by decide) hw (fun hw => ?_) (fun hw => ?_)
  · exact R_throwSW (k := 1) (is := 310) hc hlt hex (by decide) tx_cl1 tx_in1 tx_g1 tx_b1 tx_o1 (text := "there is no such finger") (List.mem_of_getElem? (i := 11) rfl) ⟨le_b rfl, le_b rfl⟩ ⟨le_b rfl, le_b rfl⟩ ⟨le_b rfl, le_b rfl⟩ hQ hw dX10_neighbours_16 dX10_neighbours_19 dX10_neighbours_20 dX10_neighbours_23 dX10_neighbours_26
  · refine R_aload_n (q := 0) (i := 0) (v := (some l0)) hc dX10_neighbours_8 rfl rfl ?_
    refine R_iload_n (q := 2) (i := 2) (v := l2) hc dX10_neighbours_9 rfl rfl ?_
    refine R_cVI (As := [.int l2]) (rest := []) (r := (some l0)) (ci := 10) hc ml_10_307 mf_X10_isFinger rfl (by decide) ⟨rfl, rfl⟩ ⟨le_b rfl, le_b rfl⟩ ⟨Nat.zero_le _, Nat.zero_le _⟩ (fun a v e => mt_X10_isFinger e) rfl rfl (Nat.zero_le _) dX10_neighbours_10 hw (fun t4 hw => ?_)
    refine R_if_ne (tgt := 27) hc dX10_neighbours_13 (by decide) hw (fun hw => ?_) (fun hw => ?_)
    · refine R_iload_n (q := 1) (i := 1) (v := l1) hc dX10_neighbours_27 rfl rfl ?_
      refine R_iload_n (q := 2) (i := 2) (v := l2) hc dX10_neighbours_28 rfl rfl ?_
      refine R_icmp_ne (tgt := 43) hc dX10_neighbours_29 (by decide) hw (fun hw => ?_) (fun hw => ?_)
      · refine R_ldc2 (v := (2 : Int64)) hc kw_10_362 dX10_neighbours_43 ?_
        refine R_aload_n (q := 0) (i := 0) (v := (some l0)) hc dX10_neighbours_46 rfl rfl ?_
        refine R_getR hc fl_10_75 dX10_neighbours_47 hw (fun t5 hw => ?_)
        refine R_iload_n (q := 1) (i := 1) (v := l1) hc dX10_neighbours_50 rfl rfl ?_
        refine R_iload_n (q := 2) (i := 2) (v := l2) hc dX10_neighbours_51 rfl rfl ?_
        refine R_cVJ (As := [.int l1, .int l2]) (rest := [.long (2 : Int64)]) (r := t5) (ci := 4) hc ml_10_364 mf_X4_waysAhead rfl (by decide) ⟨rfl, rfl⟩ ⟨le_b rfl, le_b rfl⟩ ⟨Nat.zero_le _, Nat.zero_le _⟩ (fun a v e => mt_X4_waysAhead e) rfl rfl (le_b rfl) dX10_neighbours_52 hw (fun t7 hw => ?_)
        refine R_lmul hc dX10_neighbours_55 ?_
        exact R_lreturnT hc hret ⟨Nat.zero_le _, Nat.zero_le _⟩ hQ hw dX10_neighbours_56
      · exact R_throwSW (k := 0) (is := 360) hc hlt hex (by decide) tx_cl0 tx_in0 tx_g0 tx_b0 tx_o0 (text := "both are one") (List.mem_of_getElem? (i := 15) rfl) ⟨le_b rfl, le_b rfl⟩ ⟨le_b rfl, le_b rfl⟩ ⟨le_b rfl, le_b rfl⟩ hQ hw dX10_neighbours_32 dX10_neighbours_35 dX10_neighbours_36 dX10_neighbours_39 dX10_neighbours_42
    · exact R_throwSW (k := 1) (is := 310) hc hlt hex (by decide) tx_cl1 tx_in1 tx_g1 tx_b1 tx_o1 (text := "there is no such finger") (List.mem_of_getElem? (i := 11) rfl) ⟨le_b rfl, le_b rfl⟩ ⟨le_b rfl, le_b rfl⟩ ⟨le_b rfl, le_b rfl⟩ hQ hw dX10_neighbours_16 dX10_neighbours_19 dX10_neighbours_20 dX10_neighbours_23 dX10_neighbours_26
theorem dX10_starts_0 : decode cX10_starts 0 = .ok (.aload_n 0, 1) := by decide +kernel
theorem dX10_starts_1 : decode cX10_starts 1 = .ok (.iload_n 1, 1) := by decide +kernel
theorem dX10_starts_2 : decode cX10_starts 2 = .ok (.invokevirtual 307, 3) := by decide +kernel
theorem dX10_starts_5 : decode cX10_starts 5 = .ok (.ifCond .ne 14, 3) := by decide +kernel
theorem dX10_starts_8 : decode cX10_starts 8 = .ok (.new 143, 3) := by decide +kernel
theorem dX10_starts_11 : decode cX10_starts 11 = .ok (.dup, 1) := by decide +kernel
theorem dX10_starts_12 : decode cX10_starts 12 = .ok (.ldc_w 310, 3) := by decide +kernel
theorem dX10_starts_15 : decode cX10_starts 15 = .ok (.invokespecial 147, 3) := by decide +kernel
theorem dX10_starts_18 : decode cX10_starts 18 = .ok (.athrow, 1) := by decide +kernel
theorem dX10_starts_19 : decode cX10_starts 19 = .ok (.aload_n 0, 1) := by decide +kernel
theorem dX10_starts_20 : decode cX10_starts 20 = .ok (.getfield 75, 3) := by decide +kernel
theorem dX10_starts_23 : decode cX10_starts 23 = .ok (.iload_n 1, 1) := by decide +kernel
theorem dX10_starts_24 : decode cX10_starts 24 = .ok (.invokevirtual 368, 3) := by decide +kernel
theorem dX10_starts_27 : decode cX10_starts 27 = .ok (.lreturn, 1) := by decide +kernel
def sX10_starts (F : Nat) (l0 : Nat) (l1 : Int32) (h : HP) : Option ((Int64 ⊕ Nat) × HP) :=
  (dO h 10 (some l0)).bind fun a1 =>
  (sX10_isFinger F a1 l1 h).bind fun t2 =>
  if ¬ t2 = 0 then
    (gR h 10 (some l0) 12).bind fun t3 =>
    (dO h 4 t3).bind fun a4 =>
    (sX4_waysFrom F a4 l1 h).bind fun t5 =>
    some (.inl t5, h)
  else
    some (.inr 1, h)
abbrev rm_X10_starts : Room := { frames := 6, cells := 1, slots := 6, locals := 88 }
set_option maxRecDepth 100000 in
set_option maxHeartbeats 4000000 in
theorem mt_X10_starts {w : WD} {l : Launch} {F : Nat} (hlt : l.stackTraces = false) {l0 : Nat} {l1 : Int32} {h : HP} {r : Int64 ⊕ Nat} {h' : HP} (hs : sX10_starts F l0 l1 h = some (r, h')) : XJ w l yX10_starts cX10_starts 2 rm_X10_starts [rf w (some l0), .int l1] h r h' := by
  refine of_bodyT [(0, rf w (some l0)), (1, .int l1)] (by decide) (by simp [lg_sl, rf_cat, cat_i, cat_l, cat_a]) (by simp [lv_args, rf_cat, cat_i, cat_l, cat_a]) ?_
  intro x hw_ hnL_ hl_ hc hret hex hQ
  subst hw_; subst hl_
  have hnl : ∀ i, i < 2 → i < x.nL := fun i h => by rw [hnL_]; exact h
  have hw : wpO (sX10_starts F l0 l1 h) (fun q => q = (r, h')) := ⟨_, hs, rfl⟩
  unfold sX10_starts at hw
  refine R_aload_n (q := 0) (i := 0) (v := (some l0)) hc dX10_starts_0 rfl rfl ?_
  refine R_iload_n (q := 1) (i := 1) (v := l1) hc dX10_starts_1 rfl rfl ?_
  refine R_cVI (As := [.int l1]) (rest := []) (r := (some l0)) (ci := 10) hc ml_10_307 mf_X10_isFinger rfl (by decide) ⟨rfl, rfl⟩ ⟨le_b rfl, le_b rfl⟩ ⟨Nat.zero_le _, Nat.zero_le _⟩ (fun a v e => mt_X10_isFinger e) rfl rfl (Nat.zero_le _) dX10_starts_2 hw (fun t2 hw => ?_)
  refine R_if_ne (tgt := 19) hc dX10_starts_5 (by decide) hw (fun hw => ?_) (fun hw => ?_)
  · refine R_aload_n (q := 0) (i := 0) (v := (some l0)) hc dX10_starts_19 rfl rfl ?_
    refine R_getR hc fl_10_75 dX10_starts_20 hw (fun t3 hw => ?_)
    refine R_iload_n (q := 1) (i := 1) (v := l1) hc dX10_starts_23 rfl rfl ?_
    refine R_cVJ (As := [.int l1]) (rest := []) (r := t3) (ci := 4) hc ml_10_368 mf_X4_waysFrom rfl (by decide) ⟨rfl, rfl⟩ ⟨le_b rfl, le_b rfl⟩ ⟨Nat.zero_le _, Nat.zero_le _⟩ (fun a v e => mt_X4_waysFrom e) rfl rfl (Nat.zero_le _) dX10_starts_24 hw (fun t5 hw => ?_)
    exact R_lreturnT hc hret ⟨Nat.zero_le _, Nat.zero_le _⟩ hQ hw dX10_starts_27
  · exact R_throwSW (k := 1) (is := 310) hc hlt hex (by decide) tx_cl1 tx_in1 tx_g1 tx_b1 tx_o1 (text := "there is no such finger") (List.mem_of_getElem? (i := 11) rfl) ⟨le_b rfl, le_b rfl⟩ ⟨le_b rfl, le_b rfl⟩ ⟨le_b rfl, le_b rfl⟩ hQ hw dX10_starts_8 dX10_starts_11 dX10_starts_12 dX10_starts_15 dX10_starts_18
theorem dX10_turn_0 : decode cX10_turn 0 = .ok (.aload_n 0, 1) := by decide +kernel
theorem dX10_turn_1 : decode cX10_turn 1 = .ok (.iload_n 1, 1) := by decide +kernel
theorem dX10_turn_2 : decode cX10_turn 2 = .ok (.invokevirtual 161, 3) := by decide +kernel
theorem dX10_turn_5 : decode cX10_turn 5 = .ok (.ifCond .ne 13, 3) := by decide +kernel
theorem dX10_turn_8 : decode cX10_turn 8 = .ok (.new 143, 3) := by decide +kernel
theorem dX10_turn_11 : decode cX10_turn 11 = .ok (.dup, 1) := by decide +kernel
theorem dX10_turn_12 : decode cX10_turn 12 = .ok (.ldc 165, 2) := by decide +kernel
theorem dX10_turn_14 : decode cX10_turn 14 = .ok (.invokespecial 147, 3) := by decide +kernel
theorem dX10_turn_17 : decode cX10_turn 17 = .ok (.athrow, 1) := by decide +kernel
theorem dX10_turn_18 : decode cX10_turn 18 = .ok (.iload_n 2, 1) := by decide +kernel
theorem dX10_turn_19 : decode cX10_turn 19 = .ok (.ifCond .lt 8, 3) := by decide +kernel
theorem dX10_turn_22 : decode cX10_turn 22 = .ok (.iload_n 2, 1) := by decide +kernel
theorem dX10_turn_23 : decode cX10_turn 23 = .ok (.iconst 4, 1) := by decide +kernel
theorem dX10_turn_24 : decode cX10_turn 24 = .ok (.if_icmp .lt 14, 3) := by decide +kernel
theorem dX10_turn_27 : decode cX10_turn 27 = .ok (.new 110, 3) := by decide +kernel
theorem dX10_turn_30 : decode cX10_turn 30 = .ok (.dup, 1) := by decide +kernel
theorem dX10_turn_31 : decode cX10_turn 31 = .ok (.ldc_w 372, 3) := by decide +kernel
theorem dX10_turn_34 : decode cX10_turn 34 = .ok (.invokespecial 114, 3) := by decide +kernel
theorem dX10_turn_37 : decode cX10_turn 37 = .ok (.athrow, 1) := by decide +kernel
theorem dX10_turn_38 : decode cX10_turn 38 = .ok (.aload_n 0, 1) := by decide +kernel
theorem dX10_turn_39 : decode cX10_turn 39 = .ok (.getfield 31, 3) := by decide +kernel
theorem dX10_turn_42 : decode cX10_turn 42 = .ok (.iload_n 1, 1) := by decide +kernel
theorem dX10_turn_43 : decode cX10_turn 43 = .ok (.invokevirtual 174, 3) := by decide +kernel
theorem dX10_turn_46 : decode cX10_turn 46 = .ok (.istore_n 3, 1) := by decide +kernel
theorem dX10_turn_47 : decode cX10_turn 47 = .ok (.aload_n 0, 1) := by decide +kernel
theorem dX10_turn_48 : decode cX10_turn 48 = .ok (.getfield 41, 3) := by decide +kernel
theorem dX10_turn_51 : decode cX10_turn 51 = .ok (.aload_n 0, 1) := by decide +kernel
theorem dX10_turn_52 : decode cX10_turn 52 = .ok (.getfield 31, 3) := by decide +kernel
theorem dX10_turn_55 : decode cX10_turn 55 = .ok (.invokevirtual 374, 3) := by decide +kernel
theorem dX10_turn_58 : decode cX10_turn 58 = .ok (.aload_n 0, 1) := by decide +kernel
theorem dX10_turn_59 : decode cX10_turn 59 = .ok (.getfield 31, 3) := by decide +kernel
theorem dX10_turn_62 : decode cX10_turn 62 = .ok (.iload_n 1, 1) := by decide +kernel
theorem dX10_turn_63 : decode cX10_turn 63 = .ok (.iload_n 2, 1) := by decide +kernel
theorem dX10_turn_64 : decode cX10_turn 64 = .ok (.invokevirtual 378, 3) := by decide +kernel
theorem dX10_turn_67 : decode cX10_turn 67 = .ok (.aload_n 0, 1) := by decide +kernel
theorem dX10_turn_68 : decode cX10_turn 68 = .ok (.invokevirtual 91, 3) := by decide +kernel
theorem dX10_turn_71 : decode cX10_turn 71 = .ok (.iload_n 3, 1) := by decide +kernel
theorem dX10_turn_72 : decode cX10_turn 72 = .ok (.ireturn, 1) := by decide +kernel
def sX10_turn (F : Nat) (l0 : Nat) (l1 : Int32) (l2 : Int32) (h : HP) : Option ((Int32 ⊕ Nat) × HP) :=
  (dO h 10 (some l0)).bind fun a1 =>
  (sX10_isPlace F a1 l1 h).bind fun t2 =>
  if ¬ t2 = 0 then
    if l2 < 0 then
      some (.inr 0, h)
    else
      if l2 < (4 : Int32) then
        (gR h 10 (some l0) 3).bind fun t3 =>
        (dO h 7 t3).bind fun a4 =>
        (sX7_turnAt F a4 l1 h).bind fun t5 =>
        (gR h 10 (some l0) 5).bind fun t6 =>
        (gR h 10 (some l0) 3).bind fun t7 =>
        (dO h 5 t6).bind fun a8 =>
        (sX5_remember F a8 t7 h).bind fun h9 =>
        (gR h9 10 (some l0) 3).bind fun t10 =>
        (dO h9 7 t10).bind fun a11 =>
        (sX7_setTurn F a11 l1 l2 h9).bind fun h12 =>
        (dO h12 10 (some l0)).bind fun a13 =>
        (sX10_redraw F a13 h12).bind fun h14 =>
        some (.inl t5, h14)
      else
        some (.inr 0, h)
  else
    some (.inr 1, h)
abbrev rm_X10_turn : Room := { frames := 6, cells := 1, slots := 6, locals := 150 }
set_option maxRecDepth 100000 in
set_option maxHeartbeats 4000000 in
theorem mt_X10_turn {w : WD} {l : Launch} {F : Nat} (hlt : l.stackTraces = false) {l0 : Nat} {l1 : Int32} {l2 : Int32} {h : HP} {r : Int32 ⊕ Nat} {h' : HP} (hs : sX10_turn F l0 l1 l2 h = some (r, h')) : XI w l yX10_turn cX10_turn 4 .int rm_X10_turn [rf w (some l0), .int l1, .int l2] h r h' := by
  refine of_bodyT [(0, rf w (some l0)), (1, .int l1), (2, .int l2)] (by decide) (by simp [lg_sl, rf_cat, cat_i, cat_l, cat_a]) (by simp [lv_args, rf_cat, cat_i, cat_l, cat_a]) ?_
  intro x hw_ hnL_ hl_ hc hret hex hQ
  subst hw_; subst hl_
  have hnl : ∀ i, i < 4 → i < x.nL := fun i h => by rw [hnL_]; exact h
  have hw : wpO (sX10_turn F l0 l1 l2 h) (fun q => q = (r, h')) := ⟨_, hs, rfl⟩
  unfold sX10_turn at hw
  refine R_aload_n (q := 0) (i := 0) (v := (some l0)) hc dX10_turn_0 rfl rfl ?_
  refine R_iload_n (q := 1) (i := 1) (v := l1) hc dX10_turn_1 rfl rfl ?_
  refine R_cVI (As := [.int l1]) (rest := []) (r := (some l0)) (ci := 10) hc ml_10_161 mf_X10_isPlace rfl (by decide) ⟨rfl, rfl⟩ ⟨le_b rfl, le_b rfl⟩ ⟨Nat.zero_le _, Nat.zero_le _⟩ (fun a v e => mt_X10_isPlace e) rfl rfl (Nat.zero_le _) dX10_turn_2 hw (fun t2 hw => ?_)
  refine R_if_ne (tgt := 18) hc dX10_turn_5 (by decide) hw (fun hw => ?_) (fun hw => ?_)
  · refine R_iload_n (q := 2) (i := 2) (v := l2) hc dX10_turn_18 rfl rfl ?_
    refine R_if_lt (tgt := 27) hc dX10_turn_19 (by decide) hw (fun hw => ?_) (fun hw => ?_)
    · exact R_throwSW (k := 0) (is := 372) hc hlt hex (by decide) tx_cl0 tx_in0 tx_g0 tx_b0 tx_o0 (text := "there is no such turn") (List.mem_of_getElem? (i := 16) rfl) ⟨le_b rfl, le_b rfl⟩ ⟨le_b rfl, le_b rfl⟩ ⟨le_b rfl, le_b rfl⟩ hQ hw dX10_turn_27 dX10_turn_30 dX10_turn_31 dX10_turn_34 dX10_turn_37
    · refine R_iload_n (q := 2) (i := 2) (v := l2) hc dX10_turn_22 rfl rfl ?_
      refine R_iconst (v := (4 : Int32)) hc dX10_turn_23 kI_4 ?_
      refine R_icmp_lt (tgt := 38) hc dX10_turn_24 (by decide) hw (fun hw => ?_) (fun hw => ?_)
      · refine R_aload_n (q := 0) (i := 0) (v := (some l0)) hc dX10_turn_38 rfl rfl ?_
        refine R_getR hc fl_10_31 dX10_turn_39 hw (fun t3 hw => ?_)
        refine R_iload_n (q := 1) (i := 1) (v := l1) hc dX10_turn_42 rfl rfl ?_
        refine R_cVI (As := [.int l1]) (rest := []) (r := t3) (ci := 7) hc ml_10_174 mf_X7_turnAt rfl (by decide) ⟨rfl, rfl⟩ ⟨le_b rfl, le_b rfl⟩ ⟨Nat.zero_le _, Nat.zero_le _⟩ (fun a v e => mt_X7_turnAt e) rfl rfl (Nat.zero_le _) dX10_turn_43 hw (fun t5 hw => ?_)
        refine R_istore_n (i := 3) (v := t5) hc [(3, .int t5), (0, rf x.w (some l0)), (1, .int l1), (2, .int l2)] dX10_turn_46 rfl (hnl 3 (le_b rfl)) rfl ?_
        refine R_aload_n (q := 1) (i := 0) (v := (some l0)) hc dX10_turn_47 rfl rfl ?_
        refine R_getR hc fl_10_41 dX10_turn_48 hw (fun t6 hw => ?_)
        refine R_aload_n (q := 1) (i := 0) (v := (some l0)) hc dX10_turn_51 rfl rfl ?_
        refine R_getR hc fl_10_31 dX10_turn_52 hw (fun t7 hw => ?_)
        refine R_cVVi (As := [rf x.w t7]) (rest := []) (r := t6) (ci := 5) hc ml_10_374 mf_X5_remember rfl (by decide) ⟨rfl, rfl⟩ ⟨le_b rfl, le_b rfl⟩ ⟨Nat.zero_le _, Nat.zero_le _⟩ (fun a h' e => mt_X5_remember e) rfl rfl (Nat.zero_le _) dX10_turn_55 hw (fun h9 hw => ?_)
        refine R_aload_n (q := 1) (i := 0) (v := (some l0)) hc dX10_turn_58 rfl rfl ?_
        refine R_getR hc fl_10_31 dX10_turn_59 hw (fun t10 hw => ?_)
        refine R_iload_n (q := 2) (i := 1) (v := l1) hc dX10_turn_62 rfl rfl ?_
        refine R_iload_n (q := 3) (i := 2) (v := l2) hc dX10_turn_63 rfl rfl ?_
        refine R_cVVi (As := [.int l1, .int l2]) (rest := []) (r := t10) (ci := 7) hc ml_10_378 mf_X7_setTurn rfl (by decide) ⟨rfl, rfl⟩ ⟨le_b rfl, le_b rfl⟩ ⟨Nat.zero_le _, Nat.zero_le _⟩ (fun a h' e => mt_X7_setTurn e) rfl rfl (Nat.zero_le _) dX10_turn_64 hw (fun h12 hw => ?_)
        refine R_aload_n (q := 1) (i := 0) (v := (some l0)) hc dX10_turn_67 rfl rfl ?_
        refine R_cVVi (As := []) (rest := []) (r := (some l0)) (ci := 10) hc ml_10_91 mf_X10_redraw rfl (by decide) ⟨rfl, rfl⟩ ⟨le_b rfl, le_b rfl⟩ ⟨Nat.zero_le _, Nat.zero_le _⟩ (fun a h' e => mt_X10_redraw e) rfl rfl (Nat.zero_le _) dX10_turn_68 hw (fun h14 hw => ?_)
        refine R_iload_n (q := 0) (i := 3) (v := t5) hc dX10_turn_71 rfl rfl ?_
        exact R_ireturnT hc hret rfl ⟨Nat.zero_le _, Nat.zero_le _⟩ hQ hw dX10_turn_72
      · exact R_throwSW (k := 0) (is := 372) hc hlt hex (by decide) tx_cl0 tx_in0 tx_g0 tx_b0 tx_o0 (text := "there is no such turn") (List.mem_of_getElem? (i := 16) rfl) ⟨le_b rfl, le_b rfl⟩ ⟨le_b rfl, le_b rfl⟩ ⟨le_b rfl, le_b rfl⟩ hQ hw dX10_turn_27 dX10_turn_30 dX10_turn_31 dX10_turn_34 dX10_turn_37
  · exact R_throwS (k := 1) (is := 165) hc hlt hex (by decide) tx_cl1 tx_in1 tx_g1 tx_b1 tx_o1 (text := "there is no such place") (List.mem_of_getElem? (i := 3) rfl) ⟨le_b rfl, le_b rfl⟩ ⟨le_b rfl, le_b rfl⟩ ⟨le_b rfl, le_b rfl⟩ hQ hw dX10_turn_8 dX10_turn_11 dX10_turn_12 dX10_turn_14 dX10_turn_17
theorem dX10_move_0 : decode cX10_move 0 = .ok (.aload_n 0, 1) := by decide +kernel
theorem dX10_move_1 : decode cX10_move 1 = .ok (.iload_n 1, 1) := by decide +kernel
theorem dX10_move_2 : decode cX10_move 2 = .ok (.invokevirtual 161, 3) := by decide +kernel
theorem dX10_move_5 : decode cX10_move 5 = .ok (.ifCond .eq 11, 3) := by decide +kernel
theorem dX10_move_8 : decode cX10_move 8 = .ok (.aload_n 0, 1) := by decide +kernel
theorem dX10_move_9 : decode cX10_move 9 = .ok (.iload_n 2, 1) := by decide +kernel
theorem dX10_move_10 : decode cX10_move 10 = .ok (.invokevirtual 161, 3) := by decide +kernel
theorem dX10_move_13 : decode cX10_move 13 = .ok (.ifCond .ne 13, 3) := by decide +kernel
theorem dX10_move_16 : decode cX10_move 16 = .ok (.new 143, 3) := by decide +kernel
theorem dX10_move_19 : decode cX10_move 19 = .ok (.dup, 1) := by decide +kernel
theorem dX10_move_20 : decode cX10_move 20 = .ok (.ldc 165, 2) := by decide +kernel
theorem dX10_move_22 : decode cX10_move 22 = .ok (.invokespecial 147, 3) := by decide +kernel
theorem dX10_move_25 : decode cX10_move 25 = .ok (.athrow, 1) := by decide +kernel
theorem dX10_move_26 : decode cX10_move 26 = .ok (.iload_n 1, 1) := by decide +kernel
theorem dX10_move_27 : decode cX10_move 27 = .ok (.iload_n 2, 1) := by decide +kernel
theorem dX10_move_28 : decode cX10_move 28 = .ok (.if_icmp .ne 14, 3) := by decide +kernel
theorem dX10_move_31 : decode cX10_move 31 = .ok (.new 110, 3) := by decide +kernel
theorem dX10_move_34 : decode cX10_move 34 = .ok (.dup, 1) := by decide +kernel
theorem dX10_move_35 : decode cX10_move 35 = .ok (.ldc_w 382, 3) := by decide +kernel
theorem dX10_move_38 : decode cX10_move 38 = .ok (.invokespecial 114, 3) := by decide +kernel
theorem dX10_move_41 : decode cX10_move 41 = .ok (.athrow, 1) := by decide +kernel
theorem dX10_move_42 : decode cX10_move 42 = .ok (.aload_n 0, 1) := by decide +kernel
theorem dX10_move_43 : decode cX10_move 43 = .ok (.getfield 41, 3) := by decide +kernel
theorem dX10_move_46 : decode cX10_move 46 = .ok (.aload_n 0, 1) := by decide +kernel
theorem dX10_move_47 : decode cX10_move 47 = .ok (.getfield 31, 3) := by decide +kernel
theorem dX10_move_50 : decode cX10_move 50 = .ok (.invokevirtual 374, 3) := by decide +kernel
theorem dX10_move_53 : decode cX10_move 53 = .ok (.aload_n 0, 1) := by decide +kernel
theorem dX10_move_54 : decode cX10_move 54 = .ok (.getfield 31, 3) := by decide +kernel
theorem dX10_move_57 : decode cX10_move 57 = .ok (.iload_n 1, 1) := by decide +kernel
theorem dX10_move_58 : decode cX10_move 58 = .ok (.iload_n 2, 1) := by decide +kernel
theorem dX10_move_59 : decode cX10_move 59 = .ok (.invokevirtual 384, 3) := by decide +kernel
theorem dX10_move_62 : decode cX10_move 62 = .ok (.aload_n 0, 1) := by decide +kernel
theorem dX10_move_63 : decode cX10_move 63 = .ok (.invokevirtual 91, 3) := by decide +kernel
theorem dX10_move_66 : decode cX10_move 66 = .ok (.aload_n 0, 1) := by decide +kernel
theorem dX10_move_67 : decode cX10_move 67 = .ok (.getfield 48, 3) := by decide +kernel
theorem dX10_move_70 : decode cX10_move 70 = .ok (.getfield 243, 3) := by decide +kernel
theorem dX10_move_73 : decode cX10_move 73 = .ok (.ireturn, 1) := by decide +kernel
def sX10_move (F : Nat) (l0 : Nat) (l1 : Int32) (l2 : Int32) (h : HP) : Option ((Int32 ⊕ Nat) × HP) :=
  (dO h 10 (some l0)).bind fun a1 =>
  (sX10_isPlace F a1 l1 h).bind fun t2 =>
  if t2 = 0 then
    some (.inr 1, h)
  else
    (dO h 10 (some l0)).bind fun a3 =>
    (sX10_isPlace F a3 l2 h).bind fun t4 =>
    if ¬ t4 = 0 then
      if ¬ l1 = l2 then
        (gR h 10 (some l0) 5).bind fun t5 =>
        (gR h 10 (some l0) 3).bind fun t6 =>
        (dO h 5 t5).bind fun a7 =>
        (sX5_remember F a7 t6 h).bind fun h8 =>
        (gR h8 10 (some l0) 3).bind fun t9 =>
        (dO h8 7 t9).bind fun a10 =>
        (sX7_shift F a10 l1 l2 h8).bind fun h11 =>
        (dO h11 10 (some l0)).bind fun a12 =>
        (sX10_redraw F a12 h11).bind fun h13 =>
        (gR h13 10 (some l0) 6).bind fun t14 =>
        (gI h13 2 t14 0).bind fun t15 =>
        some (.inl t15, h13)
      else
        some (.inr 0, h)
    else
      some (.inr 1, h)
abbrev rm_X10_move : Room := { frames := 6, cells := 1, slots := 6, locals := 150 }
set_option maxRecDepth 100000 in
set_option maxHeartbeats 4000000 in
theorem mt_X10_move {w : WD} {l : Launch} {F : Nat} (hlt : l.stackTraces = false) {l0 : Nat} {l1 : Int32} {l2 : Int32} {h : HP} {r : Int32 ⊕ Nat} {h' : HP} (hs : sX10_move F l0 l1 l2 h = some (r, h')) : XI w l yX10_move cX10_move 3 .int rm_X10_move [rf w (some l0), .int l1, .int l2] h r h' := by
  refine of_bodyT [(0, rf w (some l0)), (1, .int l1), (2, .int l2)] (by decide) (by simp [lg_sl, rf_cat, cat_i, cat_l, cat_a]) (by simp [lv_args, rf_cat, cat_i, cat_l, cat_a]) ?_
  intro x hw_ hnL_ hl_ hc hret hex hQ
  subst hw_; subst hl_
  have hnl : ∀ i, i < 3 → i < x.nL := fun i h => by rw [hnL_]; exact h
  have hw : wpO (sX10_move F l0 l1 l2 h) (fun q => q = (r, h')) := ⟨_, hs, rfl⟩
  unfold sX10_move at hw
  refine R_aload_n (q := 0) (i := 0) (v := (some l0)) hc dX10_move_0 rfl rfl ?_
  refine R_iload_n (q := 1) (i := 1) (v := l1) hc dX10_move_1 rfl rfl ?_
  refine R_cVI (As := [.int l1]) (rest := []) (r := (some l0)) (ci := 10) hc ml_10_161 mf_X10_isPlace rfl (by decide) ⟨rfl, rfl⟩ ⟨le_b rfl, le_b rfl⟩ ⟨Nat.zero_le _, Nat.zero_le _⟩ (fun a v e => mt_X10_isPlace e) rfl rfl (Nat.zero_le _) dX10_move_2 hw (fun t2 hw => ?_)
  refine R_if_eq (tgt := 16) hc dX10_move_5 (by decide) hw (fun hw => ?_) (fun hw => ?_)
  · exact R_throwS (k := 1) (is := 165) hc hlt hex (by decide) tx_cl1 tx_in1 tx_g1 tx_b1 tx_o1 (text := "there is no such place") (List.mem_of_getElem? (i := 3) rfl) ⟨le_b rfl, le_b rfl⟩ ⟨le_b rfl, le_b rfl⟩ ⟨le_b rfl, le_b rfl⟩ hQ hw dX10_move_16 dX10_move_19 dX10_move_20 dX10_move_22 dX10_move_25
  · refine R_aload_n (q := 0) (i := 0) (v := (some l0)) hc dX10_move_8 rfl rfl ?_
    refine R_iload_n (q := 2) (i := 2) (v := l2) hc dX10_move_9 rfl rfl ?_
    refine R_cVI (As := [.int l2]) (rest := []) (r := (some l0)) (ci := 10) hc ml_10_161 mf_X10_isPlace rfl (by decide) ⟨rfl, rfl⟩ ⟨le_b rfl, le_b rfl⟩ ⟨Nat.zero_le _, Nat.zero_le _⟩ (fun a v e => mt_X10_isPlace e) rfl rfl (Nat.zero_le _) dX10_move_10 hw (fun t4 hw => ?_)
    refine R_if_ne (tgt := 26) hc dX10_move_13 (by decide) hw (fun hw => ?_) (fun hw => ?_)
    · refine R_iload_n (q := 1) (i := 1) (v := l1) hc dX10_move_26 rfl rfl ?_
      refine R_iload_n (q := 2) (i := 2) (v := l2) hc dX10_move_27 rfl rfl ?_
      refine R_icmp_ne (tgt := 42) hc dX10_move_28 (by decide) hw (fun hw => ?_) (fun hw => ?_)
      · refine R_aload_n (q := 0) (i := 0) (v := (some l0)) hc dX10_move_42 rfl rfl ?_
        refine R_getR hc fl_10_41 dX10_move_43 hw (fun t5 hw => ?_)
        refine R_aload_n (q := 0) (i := 0) (v := (some l0)) hc dX10_move_46 rfl rfl ?_
        refine R_getR hc fl_10_31 dX10_move_47 hw (fun t6 hw => ?_)
        refine R_cVVi (As := [rf x.w t6]) (rest := []) (r := t5) (ci := 5) hc ml_10_374 mf_X5_remember rfl (by decide) ⟨rfl, rfl⟩ ⟨le_b rfl, le_b rfl⟩ ⟨Nat.zero_le _, Nat.zero_le _⟩ (fun a h' e => mt_X5_remember e) rfl rfl (Nat.zero_le _) dX10_move_50 hw (fun h8 hw => ?_)
        refine R_aload_n (q := 0) (i := 0) (v := (some l0)) hc dX10_move_53 rfl rfl ?_
        refine R_getR hc fl_10_31 dX10_move_54 hw (fun t9 hw => ?_)
        refine R_iload_n (q := 1) (i := 1) (v := l1) hc dX10_move_57 rfl rfl ?_
        refine R_iload_n (q := 2) (i := 2) (v := l2) hc dX10_move_58 rfl rfl ?_
        refine R_cVVi (As := [.int l1, .int l2]) (rest := []) (r := t9) (ci := 7) hc ml_10_384 mf_X7_shift rfl (by decide) ⟨rfl, rfl⟩ ⟨le_b rfl, le_b rfl⟩ ⟨Nat.zero_le _, Nat.zero_le _⟩ (fun a h' e => mt_X7_shift e) rfl rfl (Nat.zero_le _) dX10_move_59 hw (fun h11 hw => ?_)
        refine R_aload_n (q := 0) (i := 0) (v := (some l0)) hc dX10_move_62 rfl rfl ?_
        refine R_cVVi (As := []) (rest := []) (r := (some l0)) (ci := 10) hc ml_10_91 mf_X10_redraw rfl (by decide) ⟨rfl, rfl⟩ ⟨le_b rfl, le_b rfl⟩ ⟨Nat.zero_le _, Nat.zero_le _⟩ (fun a h' e => mt_X10_redraw e) rfl rfl (Nat.zero_le _) dX10_move_63 hw (fun h13 hw => ?_)
        refine R_aload_n (q := 0) (i := 0) (v := (some l0)) hc dX10_move_66 rfl rfl ?_
        refine R_getR hc fl_10_48 dX10_move_67 hw (fun t14 hw => ?_)
        refine R_getI hc fl_10_243 dX10_move_70 hw (fun t15 hw => ?_)
        exact R_ireturnT hc hret rfl ⟨Nat.zero_le _, Nat.zero_le _⟩ hQ hw dX10_move_73
      · exact R_throwSW (k := 0) (is := 382) hc hlt hex (by decide) tx_cl0 tx_in0 tx_g0 tx_b0 tx_o0 (text := "both places are one") (List.mem_of_getElem? (i := 17) rfl) ⟨le_b rfl, le_b rfl⟩ ⟨le_b rfl, le_b rfl⟩ ⟨le_b rfl, le_b rfl⟩ hQ hw dX10_move_31 dX10_move_34 dX10_move_35 dX10_move_38 dX10_move_41
    · exact R_throwS (k := 1) (is := 165) hc hlt hex (by decide) tx_cl1 tx_in1 tx_g1 tx_b1 tx_o1 (text := "there is no such place") (List.mem_of_getElem? (i := 3) rfl) ⟨le_b rfl, le_b rfl⟩ ⟨le_b rfl, le_b rfl⟩ ⟨le_b rfl, le_b rfl⟩ hQ hw dX10_move_16 dX10_move_19 dX10_move_20 dX10_move_22 dX10_move_25
theorem dX10_mirror_0 : decode cX10_mirror 0 = .ok (.aload_n 0, 1) := by decide +kernel
theorem dX10_mirror_1 : decode cX10_mirror 1 = .ok (.getfield 31, 3) := by decide +kernel
theorem dX10_mirror_4 : decode cX10_mirror 4 = .ok (.getfield 387, 3) := by decide +kernel
theorem dX10_mirror_7 : decode cX10_mirror 7 = .ok (.ifCond .ne 14, 3) := by decide +kernel
theorem dX10_mirror_10 : decode cX10_mirror 10 = .ok (.new 390, 3) := by decide +kernel
theorem dX10_mirror_13 : decode cX10_mirror 13 = .ok (.dup, 1) := by decide +kernel
theorem dX10_mirror_14 : decode cX10_mirror 14 = .ok (.ldc_w 392, 3) := by decide +kernel
theorem dX10_mirror_17 : decode cX10_mirror 17 = .ok (.invokespecial 394, 3) := by decide +kernel
theorem dX10_mirror_20 : decode cX10_mirror 20 = .ok (.athrow, 1) := by decide +kernel
theorem dX10_mirror_21 : decode cX10_mirror 21 = .ok (.aload_n 0, 1) := by decide +kernel
theorem dX10_mirror_22 : decode cX10_mirror 22 = .ok (.getfield 41, 3) := by decide +kernel
theorem dX10_mirror_25 : decode cX10_mirror 25 = .ok (.aload_n 0, 1) := by decide +kernel
theorem dX10_mirror_26 : decode cX10_mirror 26 = .ok (.getfield 31, 3) := by decide +kernel
theorem dX10_mirror_29 : decode cX10_mirror 29 = .ok (.invokevirtual 374, 3) := by decide +kernel
theorem dX10_mirror_32 : decode cX10_mirror 32 = .ok (.aload_n 0, 1) := by decide +kernel
theorem dX10_mirror_33 : decode cX10_mirror 33 = .ok (.getfield 31, 3) := by decide +kernel
theorem dX10_mirror_36 : decode cX10_mirror 36 = .ok (.invokevirtual 395, 3) := by decide +kernel
theorem dX10_mirror_39 : decode cX10_mirror 39 = .ok (.aload_n 0, 1) := by decide +kernel
theorem dX10_mirror_40 : decode cX10_mirror 40 = .ok (.invokevirtual 91, 3) := by decide +kernel
theorem dX10_mirror_43 : decode cX10_mirror 43 = .ok (.aload_n 0, 1) := by decide +kernel
theorem dX10_mirror_44 : decode cX10_mirror 44 = .ok (.getfield 48, 3) := by decide +kernel
theorem dX10_mirror_47 : decode cX10_mirror 47 = .ok (.getfield 243, 3) := by decide +kernel
theorem dX10_mirror_50 : decode cX10_mirror 50 = .ok (.ireturn, 1) := by decide +kernel
def sX10_mirror (F : Nat) (l0 : Nat) (h : HP) : Option ((Int32 ⊕ Nat) × HP) :=
  (gR h 10 (some l0) 3).bind fun t1 =>
  (gI h 7 t1 0).bind fun t2 =>
  if ¬ t2 = 0 then
    (gR h 10 (some l0) 5).bind fun t3 =>
    (gR h 10 (some l0) 3).bind fun t4 =>
    (dO h 5 t3).bind fun a5 =>
    (sX5_remember F a5 t4 h).bind fun h6 =>
    (gR h6 10 (some l0) 3).bind fun t7 =>
    (dO h6 7 t7).bind fun a8 =>
    (sX7_flip F a8 h6).bind fun h9 =>
    (dO h9 10 (some l0)).bind fun a10 =>
    (sX10_redraw F a10 h9).bind fun h11 =>
    (gR h11 10 (some l0) 6).bind fun t12 =>
    (gI h11 2 t12 0).bind fun t13 =>
    some (.inl t13, h11)
  else
    some (.inr 3, h)
abbrev rm_X10_mirror : Room := { frames := 6, cells := 1, slots := 6, locals := 150 }
set_option maxRecDepth 100000 in
set_option maxHeartbeats 4000000 in
theorem mt_X10_mirror {w : WD} {l : Launch} {F : Nat} (hlt : l.stackTraces = false) {l0 : Nat} {h : HP} {r : Int32 ⊕ Nat} {h' : HP} (hs : sX10_mirror F l0 h = some (r, h')) : XI w l yX10_mirror cX10_mirror 1 .int rm_X10_mirror [rf w (some l0)] h r h' := by
  refine of_bodyT [(0, rf w (some l0))] (by decide) (by simp [lg_sl, rf_cat, cat_i, cat_l, cat_a]) (by simp [lv_args, rf_cat, cat_i, cat_l, cat_a]) ?_
  intro x hw_ hnL_ hl_ hc hret hex hQ
  subst hw_; subst hl_
  have hnl : ∀ i, i < 1 → i < x.nL := fun i h => by rw [hnL_]; exact h
  have hw : wpO (sX10_mirror F l0 h) (fun q => q = (r, h')) := ⟨_, hs, rfl⟩
  unfold sX10_mirror at hw
  refine R_aload_n (q := 0) (i := 0) (v := (some l0)) hc dX10_mirror_0 rfl rfl ?_
  refine R_getR hc fl_10_31 dX10_mirror_1 hw (fun t1 hw => ?_)
  refine R_getI hc fl_10_387 dX10_mirror_4 hw (fun t2 hw => ?_)
  refine R_if_ne (tgt := 21) hc dX10_mirror_7 (by decide) hw (fun hw => ?_) (fun hw => ?_)
  · refine R_aload_n (q := 0) (i := 0) (v := (some l0)) hc dX10_mirror_21 rfl rfl ?_
    refine R_getR hc fl_10_41 dX10_mirror_22 hw (fun t3 hw => ?_)
    refine R_aload_n (q := 0) (i := 0) (v := (some l0)) hc dX10_mirror_25 rfl rfl ?_
    refine R_getR hc fl_10_31 dX10_mirror_26 hw (fun t4 hw => ?_)
    refine R_cVVi (As := [rf x.w t4]) (rest := []) (r := t3) (ci := 5) hc ml_10_374 mf_X5_remember rfl (by decide) ⟨rfl, rfl⟩ ⟨le_b rfl, le_b rfl⟩ ⟨Nat.zero_le _, Nat.zero_le _⟩ (fun a h' e => mt_X5_remember e) rfl rfl (Nat.zero_le _) dX10_mirror_29 hw (fun h6 hw => ?_)
    refine R_aload_n (q := 0) (i := 0) (v := (some l0)) hc dX10_mirror_32 rfl rfl ?_
    refine R_getR hc fl_10_31 dX10_mirror_33 hw (fun t7 hw => ?_)
    refine R_cVVi (As := []) (rest := []) (r := t7) (ci := 7) hc ml_10_395 mf_X7_flip rfl (by decide) ⟨rfl, rfl⟩ ⟨le_b rfl, le_b rfl⟩ ⟨Nat.zero_le _, Nat.zero_le _⟩ (fun a h' e => mt_X7_flip e) rfl rfl (Nat.zero_le _) dX10_mirror_36 hw (fun h9 hw => ?_)
    refine R_aload_n (q := 0) (i := 0) (v := (some l0)) hc dX10_mirror_39 rfl rfl ?_
    refine R_cVVi (As := []) (rest := []) (r := (some l0)) (ci := 10) hc ml_10_91 mf_X10_redraw rfl (by decide) ⟨rfl, rfl⟩ ⟨le_b rfl, le_b rfl⟩ ⟨Nat.zero_le _, Nat.zero_le _⟩ (fun a h' e => mt_X10_redraw e) rfl rfl (Nat.zero_le _) dX10_mirror_40 hw (fun h11 hw => ?_)
    refine R_aload_n (q := 0) (i := 0) (v := (some l0)) hc dX10_mirror_43 rfl rfl ?_
    refine R_getR hc fl_10_48 dX10_mirror_44 hw (fun t12 hw => ?_)
    refine R_getI hc fl_10_243 dX10_mirror_47 hw (fun t13 hw => ?_)
    exact R_ireturnT hc hret rfl ⟨Nat.zero_le _, Nat.zero_le _⟩ hQ hw dX10_mirror_50
  · exact R_throwSW (k := 3) (is := 392) hc hlt hex (by decide) tx_cl3 tx_in3 tx_g3 tx_b3 tx_o3 (text := "there are no fingers") (List.mem_of_getElem? (i := 18) rfl) ⟨le_b rfl, le_b rfl⟩ ⟨le_b rfl, le_b rfl⟩ ⟨le_b rfl, le_b rfl⟩ hQ hw dX10_mirror_10 dX10_mirror_13 dX10_mirror_14 dX10_mirror_17 dX10_mirror_20
theorem dX10_lay_0 : decode cX10_lay 0 = .ok (.lload_n 1, 1) := by decide +kernel
theorem dX10_lay_1 : decode cX10_lay 1 = .ok (.lconst 0, 1) := by decide +kernel
theorem dX10_lay_2 : decode cX10_lay 2 = .ok (.lcmp, 1) := by decide +kernel
theorem dX10_lay_3 : decode cX10_lay 3 = .ok (.ifCond .lt 15, 3) := by decide +kernel
theorem dX10_lay_6 : decode cX10_lay 6 = .ok (.lload_n 1, 1) := by decide +kernel
theorem dX10_lay_7 : decode cX10_lay 7 = .ok (.aload_n 0, 1) := by decide +kernel
theorem dX10_lay_8 : decode cX10_lay 8 = .ok (.getfield 75, 3) := by decide +kernel
theorem dX10_lay_11 : decode cX10_lay 11 = .ok (.invokevirtual 295, 3) := by decide +kernel
theorem dX10_lay_14 : decode cX10_lay 14 = .ok (.lcmp, 1) := by decide +kernel
theorem dX10_lay_15 : decode cX10_lay 15 = .ok (.ifCond .lt 14, 3) := by decide +kernel
theorem dX10_lay_18 : decode cX10_lay 18 = .ok (.new 110, 3) := by decide +kernel
theorem dX10_lay_21 : decode cX10_lay 21 = .ok (.dup, 1) := by decide +kernel
theorem dX10_lay_22 : decode cX10_lay 22 = .ok (.ldc_w 298, 3) := by decide +kernel
theorem dX10_lay_25 : decode cX10_lay 25 = .ok (.invokespecial 114, 3) := by decide +kernel
theorem dX10_lay_28 : decode cX10_lay 28 = .ok (.athrow, 1) := by decide +kernel
theorem dX10_lay_29 : decode cX10_lay 29 = .ok (.aload_n 0, 1) := by decide +kernel
theorem dX10_lay_30 : decode cX10_lay 30 = .ok (.getfield 41, 3) := by decide +kernel
theorem dX10_lay_33 : decode cX10_lay 33 = .ok (.aload_n 0, 1) := by decide +kernel
theorem dX10_lay_34 : decode cX10_lay 34 = .ok (.getfield 31, 3) := by decide +kernel
theorem dX10_lay_37 : decode cX10_lay 37 = .ok (.invokevirtual 374, 3) := by decide +kernel
theorem dX10_lay_40 : decode cX10_lay 40 = .ok (.aload_n 0, 1) := by decide +kernel
theorem dX10_lay_41 : decode cX10_lay 41 = .ok (.getfield 75, 3) := by decide +kernel
theorem dX10_lay_44 : decode cX10_lay 44 = .ok (.lload_n 1, 1) := by decide +kernel
theorem dX10_lay_45 : decode cX10_lay 45 = .ok (.aload_n 0, 1) := by decide +kernel
theorem dX10_lay_46 : decode cX10_lay 46 = .ok (.getfield 31, 3) := by decide +kernel
theorem dX10_lay_49 : decode cX10_lay 49 = .ok (.invokevirtual 300, 3) := by decide +kernel
theorem dX10_lay_52 : decode cX10_lay 52 = .ok (.aload_n 0, 1) := by decide +kernel
theorem dX10_lay_53 : decode cX10_lay 53 = .ok (.invokevirtual 91, 3) := by decide +kernel
theorem dX10_lay_56 : decode cX10_lay 56 = .ok (.aload_n 0, 1) := by decide +kernel
theorem dX10_lay_57 : decode cX10_lay 57 = .ok (.getfield 48, 3) := by decide +kernel
theorem dX10_lay_60 : decode cX10_lay 60 = .ok (.getfield 243, 3) := by decide +kernel
theorem dX10_lay_63 : decode cX10_lay 63 = .ok (.ireturn, 1) := by decide +kernel
def sX10_lay (F : Nat) (l0 : Nat) (l1 : Int64) (h : HP) : Option ((Int32 ⊕ Nat) × HP) :=
  if (lg_cmp l1 (0 : Int64)) < 0 then
    some (.inr 0, h)
  else
    (gR h 10 (some l0) 12).bind fun t1 =>
    (dO h 4 t1).bind fun a2 =>
    (sX4_total F a2 h).bind fun t3 =>
    if (lg_cmp l1 t3) < 0 then
      (gR h 10 (some l0) 5).bind fun t4 =>
      (gR h 10 (some l0) 3).bind fun t5 =>
      (dO h 5 t4).bind fun a6 =>
      (sX5_remember F a6 t5 h).bind fun h7 =>
      (gR h7 10 (some l0) 12).bind fun t8 =>
      (gR h7 10 (some l0) 3).bind fun t9 =>
      (dO h7 4 t8).bind fun a10 =>
      (sX4_layInto F a10 l1 t9 h7).bind fun h11 =>
      (dO h11 10 (some l0)).bind fun a12 =>
      (sX10_redraw F a12 h11).bind fun h13 =>
      (gR h13 10 (some l0) 6).bind fun t14 =>
      (gI h13 2 t14 0).bind fun t15 =>
      some (.inl t15, h13)
    else
      some (.inr 0, h)
abbrev rm_X10_lay : Room := { frames := 6, cells := 1, slots := 6, locals := 150 }
set_option maxRecDepth 100000 in
set_option maxHeartbeats 4000000 in
theorem mt_X10_lay {w : WD} {l : Launch} {F : Nat} (hlt : l.stackTraces = false) {l0 : Nat} {l1 : Int64} {h : HP} {r : Int32 ⊕ Nat} {h' : HP} (hs : sX10_lay F l0 l1 h = some (r, h')) : XI w l yX10_lay cX10_lay 3 .int rm_X10_lay [rf w (some l0), .long l1] h r h' := by
  refine of_bodyT [(0, rf w (some l0)), (1, .long l1)] (by decide) (by simp [lg_sl, rf_cat, cat_i, cat_l, cat_a]) (by simp [lv_args, rf_cat, cat_i, cat_l, cat_a]) ?_
  intro x hw_ hnL_ hl_ hc hret hex hQ
  subst hw_; subst hl_
  have hnl : ∀ i, i < 3 → i < x.nL := fun i h => by rw [hnL_]; exact h
  have hw : wpO (sX10_lay F l0 l1 h) (fun q => q = (r, h')) := ⟨_, hs, rfl⟩
  unfold sX10_lay at hw
  refine R_lload_n (q := 1) (i := 1) (v := l1) hc dX10_lay_0 rfl rfl ?_
  refine R_lconst (v := (0 : Int64)) hc dX10_lay_1 kL_0 ?_
  refine R_lcmp hc dX10_lay_2 ?_
  refine R_if_lt (tgt := 18) hc dX10_lay_3 (by decide) hw (fun hw => ?_) (fun hw => ?_)
  · exact R_throwSW (k := 0) (is := 298) hc hlt hex (by decide) tx_cl0 tx_in0 tx_g0 tx_b0 tx_o0 (text := "there is no such best one") (List.mem_of_getElem? (i := 10) rfl) ⟨le_b rfl, le_b rfl⟩ ⟨le_b rfl, le_b rfl⟩ ⟨le_b rfl, le_b rfl⟩ hQ hw dX10_lay_18 dX10_lay_21 dX10_lay_22 dX10_lay_25 dX10_lay_28
  · refine R_lload_n (q := 1) (i := 1) (v := l1) hc dX10_lay_6 rfl rfl ?_
    refine R_aload_n (q := 0) (i := 0) (v := (some l0)) hc dX10_lay_7 rfl rfl ?_
    refine R_getR hc fl_10_75 dX10_lay_8 hw (fun t1 hw => ?_)
    refine R_cVJ (As := []) (rest := [.long l1]) (r := t1) (ci := 4) hc ml_10_295 mf_X4_total rfl (by decide) ⟨rfl, rfl⟩ ⟨le_b rfl, le_b rfl⟩ ⟨Nat.zero_le _, Nat.zero_le _⟩ (fun a v e => mt_X4_total e) rfl rfl (le_b rfl) dX10_lay_11 hw (fun t3 hw => ?_)
    refine R_lcmp hc dX10_lay_14 ?_
    refine R_if_lt (tgt := 29) hc dX10_lay_15 (by decide) hw (fun hw => ?_) (fun hw => ?_)
    · refine R_aload_n (q := 0) (i := 0) (v := (some l0)) hc dX10_lay_29 rfl rfl ?_
      refine R_getR hc fl_10_41 dX10_lay_30 hw (fun t4 hw => ?_)
      refine R_aload_n (q := 0) (i := 0) (v := (some l0)) hc dX10_lay_33 rfl rfl ?_
      refine R_getR hc fl_10_31 dX10_lay_34 hw (fun t5 hw => ?_)
      refine R_cVVi (As := [rf x.w t5]) (rest := []) (r := t4) (ci := 5) hc ml_10_374 mf_X5_remember rfl (by decide) ⟨rfl, rfl⟩ ⟨le_b rfl, le_b rfl⟩ ⟨Nat.zero_le _, Nat.zero_le _⟩ (fun a h' e => mt_X5_remember e) rfl rfl (Nat.zero_le _) dX10_lay_37 hw (fun h7 hw => ?_)
      refine R_aload_n (q := 0) (i := 0) (v := (some l0)) hc dX10_lay_40 rfl rfl ?_
      refine R_getR hc fl_10_75 dX10_lay_41 hw (fun t8 hw => ?_)
      refine R_lload_n (q := 1) (i := 1) (v := l1) hc dX10_lay_44 rfl rfl ?_
      refine R_aload_n (q := 0) (i := 0) (v := (some l0)) hc dX10_lay_45 rfl rfl ?_
      refine R_getR hc fl_10_31 dX10_lay_46 hw (fun t9 hw => ?_)
      refine R_cVVi (As := [.long l1, rf x.w t9]) (rest := []) (r := t8) (ci := 4) hc ml_10_300 mf_X4_layInto rfl (by decide) ⟨rfl, rfl⟩ ⟨le_b rfl, le_b rfl⟩ ⟨Nat.zero_le _, Nat.zero_le _⟩ (fun a h' e => mt_X4_layInto e) rfl rfl (Nat.zero_le _) dX10_lay_49 hw (fun h11 hw => ?_)
      refine R_aload_n (q := 0) (i := 0) (v := (some l0)) hc dX10_lay_52 rfl rfl ?_
      refine R_cVVi (As := []) (rest := []) (r := (some l0)) (ci := 10) hc ml_10_91 mf_X10_redraw rfl (by decide) ⟨rfl, rfl⟩ ⟨le_b rfl, le_b rfl⟩ ⟨Nat.zero_le _, Nat.zero_le _⟩ (fun a h' e => mt_X10_redraw e) rfl rfl (Nat.zero_le _) dX10_lay_53 hw (fun h13 hw => ?_)
      refine R_aload_n (q := 0) (i := 0) (v := (some l0)) hc dX10_lay_56 rfl rfl ?_
      refine R_getR hc fl_10_48 dX10_lay_57 hw (fun t14 hw => ?_)
      refine R_getI hc fl_10_243 dX10_lay_60 hw (fun t15 hw => ?_)
      exact R_ireturnT hc hret rfl ⟨Nat.zero_le _, Nat.zero_le _⟩ hQ hw dX10_lay_63
    · exact R_throwSW (k := 0) (is := 298) hc hlt hex (by decide) tx_cl0 tx_in0 tx_g0 tx_b0 tx_o0 (text := "there is no such best one") (List.mem_of_getElem? (i := 10) rfl) ⟨le_b rfl, le_b rfl⟩ ⟨le_b rfl, le_b rfl⟩ ⟨le_b rfl, le_b rfl⟩ hQ hw dX10_lay_18 dX10_lay_21 dX10_lay_22 dX10_lay_25 dX10_lay_28
theorem dX10_undo_0 : decode cX10_undo 0 = .ok (.aload_n 0, 1) := by decide +kernel
theorem dX10_undo_1 : decode cX10_undo 1 = .ok (.getfield 41, 3) := by decide +kernel
theorem dX10_undo_4 : decode cX10_undo 4 = .ok (.getfield 398, 3) := by decide +kernel
theorem dX10_undo_7 : decode cX10_undo 7 = .ok (.ifCond .ne 14, 3) := by decide +kernel
theorem dX10_undo_10 : decode cX10_undo 10 = .ok (.new 390, 3) := by decide +kernel
theorem dX10_undo_13 : decode cX10_undo 13 = .ok (.dup, 1) := by decide +kernel
theorem dX10_undo_14 : decode cX10_undo 14 = .ok (.ldc_w 399, 3) := by decide +kernel
theorem dX10_undo_17 : decode cX10_undo 17 = .ok (.invokespecial 394, 3) := by decide +kernel
theorem dX10_undo_20 : decode cX10_undo 20 = .ok (.athrow, 1) := by decide +kernel
theorem dX10_undo_21 : decode cX10_undo 21 = .ok (.aload_n 0, 1) := by decide +kernel
theorem dX10_undo_22 : decode cX10_undo 22 = .ok (.getfield 41, 3) := by decide +kernel
theorem dX10_undo_25 : decode cX10_undo 25 = .ok (.aload_n 0, 1) := by decide +kernel
theorem dX10_undo_26 : decode cX10_undo 26 = .ok (.getfield 31, 3) := by decide +kernel
theorem dX10_undo_29 : decode cX10_undo 29 = .ok (.invokevirtual 401, 3) := by decide +kernel
theorem dX10_undo_32 : decode cX10_undo 32 = .ok (.aload_n 0, 1) := by decide +kernel
theorem dX10_undo_33 : decode cX10_undo 33 = .ok (.invokevirtual 91, 3) := by decide +kernel
theorem dX10_undo_36 : decode cX10_undo 36 = .ok (.aload_n 0, 1) := by decide +kernel
theorem dX10_undo_37 : decode cX10_undo 37 = .ok (.getfield 41, 3) := by decide +kernel
theorem dX10_undo_40 : decode cX10_undo 40 = .ok (.getfield 398, 3) := by decide +kernel
theorem dX10_undo_43 : decode cX10_undo 43 = .ok (.ireturn, 1) := by decide +kernel
def sX10_undo (F : Nat) (l0 : Nat) (h : HP) : Option ((Int32 ⊕ Nat) × HP) :=
  (gR h 10 (some l0) 5).bind fun t1 =>
  (gI h 5 t1 0).bind fun t2 =>
  if ¬ t2 = 0 then
    (gR h 10 (some l0) 5).bind fun t3 =>
    (gR h 10 (some l0) 3).bind fun t4 =>
    (dO h 5 t3).bind fun a5 =>
    (sX5_takeBack F a5 t4 h).bind fun h6 =>
    (dO h6 10 (some l0)).bind fun a7 =>
    (sX10_redraw F a7 h6).bind fun h8 =>
    (gR h8 10 (some l0) 5).bind fun t9 =>
    (gI h8 5 t9 0).bind fun t10 =>
    some (.inl t10, h8)
  else
    some (.inr 3, h)
abbrev rm_X10_undo : Room := { frames := 6, cells := 1, slots := 6, locals := 150 }
set_option maxRecDepth 100000 in
set_option maxHeartbeats 4000000 in
theorem mt_X10_undo {w : WD} {l : Launch} {F : Nat} (hlt : l.stackTraces = false) {l0 : Nat} {h : HP} {r : Int32 ⊕ Nat} {h' : HP} (hs : sX10_undo F l0 h = some (r, h')) : XI w l yX10_undo cX10_undo 1 .int rm_X10_undo [rf w (some l0)] h r h' := by
  refine of_bodyT [(0, rf w (some l0))] (by decide) (by simp [lg_sl, rf_cat, cat_i, cat_l, cat_a]) (by simp [lv_args, rf_cat, cat_i, cat_l, cat_a]) ?_
  intro x hw_ hnL_ hl_ hc hret hex hQ
  subst hw_; subst hl_
  have hnl : ∀ i, i < 1 → i < x.nL := fun i h => by rw [hnL_]; exact h
  have hw : wpO (sX10_undo F l0 h) (fun q => q = (r, h')) := ⟨_, hs, rfl⟩
  unfold sX10_undo at hw
  refine R_aload_n (q := 0) (i := 0) (v := (some l0)) hc dX10_undo_0 rfl rfl ?_
  refine R_getR hc fl_10_41 dX10_undo_1 hw (fun t1 hw => ?_)
  refine R_getI hc fl_10_398 dX10_undo_4 hw (fun t2 hw => ?_)
  refine R_if_ne (tgt := 21) hc dX10_undo_7 (by decide) hw (fun hw => ?_) (fun hw => ?_)
  · refine R_aload_n (q := 0) (i := 0) (v := (some l0)) hc dX10_undo_21 rfl rfl ?_
    refine R_getR hc fl_10_41 dX10_undo_22 hw (fun t3 hw => ?_)
    refine R_aload_n (q := 0) (i := 0) (v := (some l0)) hc dX10_undo_25 rfl rfl ?_
    refine R_getR hc fl_10_31 dX10_undo_26 hw (fun t4 hw => ?_)
    refine R_cVVi (As := [rf x.w t4]) (rest := []) (r := t3) (ci := 5) hc ml_10_401 mf_X5_takeBack rfl (by decide) ⟨rfl, rfl⟩ ⟨le_b rfl, le_b rfl⟩ ⟨Nat.zero_le _, Nat.zero_le _⟩ (fun a h' e => mt_X5_takeBack e) rfl rfl (Nat.zero_le _) dX10_undo_29 hw (fun h6 hw => ?_)
    refine R_aload_n (q := 0) (i := 0) (v := (some l0)) hc dX10_undo_32 rfl rfl ?_
    refine R_cVVi (As := []) (rest := []) (r := (some l0)) (ci := 10) hc ml_10_91 mf_X10_redraw rfl (by decide) ⟨rfl, rfl⟩ ⟨le_b rfl, le_b rfl⟩ ⟨Nat.zero_le _, Nat.zero_le _⟩ (fun a h' e => mt_X10_redraw e) rfl rfl (Nat.zero_le _) dX10_undo_33 hw (fun h8 hw => ?_)
    refine R_aload_n (q := 0) (i := 0) (v := (some l0)) hc dX10_undo_36 rfl rfl ?_
    refine R_getR hc fl_10_41 dX10_undo_37 hw (fun t9 hw => ?_)
    refine R_getI hc fl_10_398 dX10_undo_40 hw (fun t10 hw => ?_)
    exact R_ireturnT hc hret rfl ⟨Nat.zero_le _, Nat.zero_le _⟩ hQ hw dX10_undo_43
  · exact R_throwSW (k := 3) (is := 399) hc hlt hex (by decide) tx_cl3 tx_in3 tx_g3 tx_b3 tx_o3 (text := "nothing is remembered") (List.mem_of_getElem? (i := 19) rfl) ⟨le_b rfl, le_b rfl⟩ ⟨le_b rfl, le_b rfl⟩ ⟨le_b rfl, le_b rfl⟩ hQ hw dX10_undo_10 dX10_undo_13 dX10_undo_14 dX10_undo_17 dX10_undo_20
theorem dX10_fits_0 : decode cX10_fits 0 = .ok (.iload_n 1, 1) := by decide +kernel
theorem dX10_fits_1 : decode cX10_fits 1 = .ok (.invokestatic 209, 3) := by decide +kernel
theorem dX10_fits_4 : decode cX10_fits 4 = .ok (.ifCond .ne 13, 3) := by decide +kernel
theorem dX10_fits_7 : decode cX10_fits 7 = .ok (.new 143, 3) := by decide +kernel
theorem dX10_fits_10 : decode cX10_fits 10 = .ok (.dup, 1) := by decide +kernel
theorem dX10_fits_11 : decode cX10_fits 11 = .ok (.ldc 212, 2) := by decide +kernel
theorem dX10_fits_13 : decode cX10_fits 13 = .ok (.invokespecial 147, 3) := by decide +kernel
theorem dX10_fits_16 : decode cX10_fits 16 = .ok (.athrow, 1) := by decide +kernel
theorem dX10_fits_17 : decode cX10_fits 17 = .ok (.iload_n 2, 1) := by decide +kernel
theorem dX10_fits_18 : decode cX10_fits 18 = .ok (.ifCond .lt 9, 3) := by decide +kernel
theorem dX10_fits_21 : decode cX10_fits 21 = .ok (.iload_n 2, 1) := by decide +kernel
theorem dX10_fits_22 : decode cX10_fits 22 = .ok (.bipush 12, 2) := by decide +kernel
theorem dX10_fits_24 : decode cX10_fits 24 = .ok (.if_icmp .lt 14, 3) := by decide +kernel
theorem dX10_fits_27 : decode cX10_fits 27 = .ok (.new 110, 3) := by decide +kernel
theorem dX10_fits_30 : decode cX10_fits 30 = .ok (.dup, 1) := by decide +kernel
theorem dX10_fits_31 : decode cX10_fits 31 = .ok (.ldc_w 404, 3) := by decide +kernel
theorem dX10_fits_34 : decode cX10_fits 34 = .ok (.invokespecial 114, 3) := by decide +kernel
theorem dX10_fits_37 : decode cX10_fits 37 = .ok (.athrow, 1) := by decide +kernel
theorem dX10_fits_38 : decode cX10_fits 38 = .ok (.aload_n 0, 1) := by decide +kernel
theorem dX10_fits_39 : decode cX10_fits 39 = .ok (.getfield 55, 3) := by decide +kernel
theorem dX10_fits_42 : decode cX10_fits 42 = .ok (.iload_n 1, 1) := by decide +kernel
theorem dX10_fits_43 : decode cX10_fits 43 = .ok (.invokevirtual 406, 3) := by decide +kernel
theorem dX10_fits_46 : decode cX10_fits 46 = .ok (.ifCond .ne 5, 3) := by decide +kernel
theorem dX10_fits_49 : decode cX10_fits 49 = .ok (.iconst (-1), 1) := by decide +kernel
theorem dX10_fits_50 : decode cX10_fits 50 = .ok (.ireturn, 1) := by decide +kernel
theorem dX10_fits_51 : decode cX10_fits 51 = .ok (.aload_n 0, 1) := by decide +kernel
theorem dX10_fits_52 : decode cX10_fits 52 = .ok (.getfield 55, 3) := by decide +kernel
theorem dX10_fits_55 : decode cX10_fits 55 = .ok (.aload_n 0, 1) := by decide +kernel
theorem dX10_fits_56 : decode cX10_fits 56 = .ok (.getfield 75, 3) := by decide +kernel
theorem dX10_fits_59 : decode cX10_fits 59 = .ok (.getfield 125, 3) := by decide +kernel
theorem dX10_fits_62 : decode cX10_fits 62 = .ok (.iload_n 1, 1) := by decide +kernel
theorem dX10_fits_63 : decode cX10_fits 63 = .ok (.iload_n 2, 1) := by decide +kernel
theorem dX10_fits_64 : decode cX10_fits 64 = .ok (.invokevirtual 409, 3) := by decide +kernel
theorem dX10_fits_67 : decode cX10_fits 67 = .ok (.ifCond .eq 7, 3) := by decide +kernel
theorem dX10_fits_70 : decode cX10_fits 70 = .ok (.iconst 1, 1) := by decide +kernel
theorem dX10_fits_71 : decode cX10_fits 71 = .ok (.goto 4, 3) := by decide +kernel
theorem dX10_fits_74 : decode cX10_fits 74 = .ok (.iconst 0, 1) := by decide +kernel
theorem dX10_fits_75 : decode cX10_fits 75 = .ok (.ireturn, 1) := by decide +kernel
def sX10_fits (F : Nat) (l0 : Nat) (l1 : Int32) (l2 : Int32) (h : HP) : Option ((Int32 ⊕ Nat) × HP) :=
  (sX10_isNet F l1 h).bind fun t1 =>
  if ¬ t1 = 0 then
    if l2 < 0 then
      some (.inr 0, h)
    else
      if l2 < (12 : Int32) then
        (gR h 10 (some l0) 7).bind fun t2 =>
        (dO h 9 t2).bind fun a3 =>
        (sX9_hasWire F a3 l1 h).bind fun t4 =>
        if ¬ t4 = 0 then
          (gR h 10 (some l0) 7).bind fun t5 =>
          (gR h 10 (some l0) 12).bind fun t6 =>
          (gR h 4 t6 0).bind fun t7 =>
          (dO h 9 t5).bind fun a8 =>
          (sX9_isFree F a8 t7 l1 l2 h).bind fun t9 =>
          if t9 = 0 then
            some (.inl (0 : Int32), h)
          else
            some (.inl (1 : Int32), h)
        else
          some (.inl (-1 : Int32), h)
      else
        some (.inr 0, h)
  else
    some (.inr 1, h)
abbrev rm_X10_fits : Room := { frames := 6, cells := 1, slots := 6, locals := 82 }
set_option maxRecDepth 100000 in
set_option maxHeartbeats 4000000 in
theorem mt_X10_fits {w : WD} {l : Launch} {F : Nat} (hlt : l.stackTraces = false) {l0 : Nat} {l1 : Int32} {l2 : Int32} {h : HP} {r : Int32 ⊕ Nat} {h' : HP} (hs : sX10_fits F l0 l1 l2 h = some (r, h')) : XI w l yX10_fits cX10_fits 3 .int rm_X10_fits [rf w (some l0), .int l1, .int l2] h r h' := by
  refine of_bodyT [(0, rf w (some l0)), (1, .int l1), (2, .int l2)] (by decide) (by simp [lg_sl, rf_cat, cat_i, cat_l, cat_a]) (by simp [lv_args, rf_cat, cat_i, cat_l, cat_a]) ?_
  intro x hw_ hnL_ hl_ hc hret hex hQ
  subst hw_; subst hl_
  have hnl : ∀ i, i < 3 → i < x.nL := fun i h => by rw [hnL_]; exact h
  have hw : wpO (sX10_fits F l0 l1 l2 h) (fun q => q = (r, h')) := ⟨_, hs, rfl⟩
  unfold sX10_fits at hw
  refine R_iload_n (q := 1) (i := 1) (v := l1) hc dX10_fits_0 rfl rfl ?_
  refine R_cSI (As := [.int l1]) (rest := []) hc ml_10_209 mf_X10_isNet ⟨rfl, rfl⟩ ⟨le_b rfl, le_b rfl⟩ ⟨Nat.zero_le _, Nat.zero_le _⟩ (fun v e => mt_X10_isNet e) rfl rfl (Nat.zero_le _) dX10_fits_1 hw (fun t1 hw => ?_)
  refine R_if_ne (tgt := 17) hc dX10_fits_4 (by decide) hw (fun hw => ?_) (fun hw => ?_)
  · refine R_iload_n (q := 2) (i := 2) (v := l2) hc dX10_fits_17 rfl rfl ?_
    refine R_if_lt (tgt := 27) hc dX10_fits_18 (by decide) hw (fun hw => ?_) (fun hw => ?_)
    · exact R_throwSW (k := 0) (is := 404) hc hlt hex (by decide) tx_cl0 tx_in0 tx_g0 tx_b0 tx_o0 (text := "there is no such track") (List.mem_of_getElem? (i := 20) rfl) ⟨le_b rfl, le_b rfl⟩ ⟨le_b rfl, le_b rfl⟩ ⟨le_b rfl, le_b rfl⟩ hQ hw dX10_fits_27 dX10_fits_30 dX10_fits_31 dX10_fits_34 dX10_fits_37
    · refine R_iload_n (q := 2) (i := 2) (v := l2) hc dX10_fits_21 rfl rfl ?_
      refine R_bipush (v := (12 : Int32)) hc dX10_fits_22 kB_12 ?_
      refine R_icmp_lt (tgt := 38) hc dX10_fits_24 (by decide) hw (fun hw => ?_) (fun hw => ?_)
      · refine R_aload_n (q := 0) (i := 0) (v := (some l0)) hc dX10_fits_38 rfl rfl ?_
        refine R_getR hc fl_10_55 dX10_fits_39 hw (fun t2 hw => ?_)
        refine R_iload_n (q := 1) (i := 1) (v := l1) hc dX10_fits_42 rfl rfl ?_
        refine R_cVI (As := [.int l1]) (rest := []) (r := t2) (ci := 9) hc ml_10_406 mf_X9_hasWire rfl (by decide) ⟨rfl, rfl⟩ ⟨le_b rfl, le_b rfl⟩ ⟨Nat.zero_le _, Nat.zero_le _⟩ (fun a v e => mt_X9_hasWire e) rfl rfl (Nat.zero_le _) dX10_fits_43 hw (fun t4 hw => ?_)
        refine R_if_ne (tgt := 51) hc dX10_fits_46 (by decide) hw (fun hw => ?_) (fun hw => ?_)
        · refine R_aload_n (q := 0) (i := 0) (v := (some l0)) hc dX10_fits_51 rfl rfl ?_
          refine R_getR hc fl_10_55 dX10_fits_52 hw (fun t5 hw => ?_)
          refine R_aload_n (q := 0) (i := 0) (v := (some l0)) hc dX10_fits_55 rfl rfl ?_
          refine R_getR hc fl_10_75 dX10_fits_56 hw (fun t6 hw => ?_)
          refine R_getR hc fl_10_125 dX10_fits_59 hw (fun t7 hw => ?_)
          refine R_iload_n (q := 1) (i := 1) (v := l1) hc dX10_fits_62 rfl rfl ?_
          refine R_iload_n (q := 2) (i := 2) (v := l2) hc dX10_fits_63 rfl rfl ?_
          refine R_cVI (As := [rf x.w t7, .int l1, .int l2]) (rest := []) (r := t5) (ci := 9) hc ml_10_409 mf_X9_isFree rfl (by decide) ⟨rfl, rfl⟩ ⟨le_b rfl, le_b rfl⟩ ⟨Nat.zero_le _, Nat.zero_le _⟩ (fun a v e => mt_X9_isFree e) rfl rfl (Nat.zero_le _) dX10_fits_64 hw (fun t9 hw => ?_)
          refine R_if_eq (tgt := 74) hc dX10_fits_67 (by decide) hw (fun hw => ?_) (fun hw => ?_)
          · refine R_iconst (v := (0 : Int32)) hc dX10_fits_74 kI_0 ?_
            exact R_ireturnT hc hret rfl ⟨Nat.zero_le _, Nat.zero_le _⟩ hQ hw dX10_fits_75
          · refine R_iconst (v := (1 : Int32)) hc dX10_fits_70 kI_1 ?_
            refine R_goto (tgt := 75) hc dX10_fits_71 (by decide) ?_
            exact R_ireturnT hc hret rfl ⟨Nat.zero_le _, Nat.zero_le _⟩ hQ hw dX10_fits_75
        · refine R_iconst (v := (-1 : Int32)) hc dX10_fits_49 kI_m1 ?_
          exact R_ireturnT hc hret rfl ⟨Nat.zero_le _, Nat.zero_le _⟩ hQ hw dX10_fits_50
      · exact R_throwSW (k := 0) (is := 404) hc hlt hex (by decide) tx_cl0 tx_in0 tx_g0 tx_b0 tx_o0 (text := "there is no such track") (List.mem_of_getElem? (i := 20) rfl) ⟨le_b rfl, le_b rfl⟩ ⟨le_b rfl, le_b rfl⟩ ⟨le_b rfl, le_b rfl⟩ hQ hw dX10_fits_27 dX10_fits_30 dX10_fits_31 dX10_fits_34 dX10_fits_37
  · exact R_throwS (k := 1) (is := 212) hc hlt hex (by decide) tx_cl1 tx_in1 tx_g1 tx_b1 tx_o1 (text := "there is no such net") (List.mem_of_getElem? (i := 7) rfl) ⟨le_b rfl, le_b rfl⟩ ⟨le_b rfl, le_b rfl⟩ ⟨le_b rfl, le_b rfl⟩ hQ hw dX10_fits_7 dX10_fits_10 dX10_fits_11 dX10_fits_13 dX10_fits_16
theorem dX10_room_0 : decode cX10_room 0 = .ok (.iload_n 1, 1) := by decide +kernel
theorem dX10_room_1 : decode cX10_room 1 = .ok (.invokestatic 209, 3) := by decide +kernel
theorem dX10_room_4 : decode cX10_room 4 = .ok (.ifCond .ne 13, 3) := by decide +kernel
theorem dX10_room_7 : decode cX10_room 7 = .ok (.new 143, 3) := by decide +kernel
theorem dX10_room_10 : decode cX10_room 10 = .ok (.dup, 1) := by decide +kernel
theorem dX10_room_11 : decode cX10_room 11 = .ok (.ldc 212, 2) := by decide +kernel
theorem dX10_room_13 : decode cX10_room 13 = .ok (.invokespecial 147, 3) := by decide +kernel
theorem dX10_room_16 : decode cX10_room 16 = .ok (.athrow, 1) := by decide +kernel
theorem dX10_room_17 : decode cX10_room 17 = .ok (.aload_n 0, 1) := by decide +kernel
theorem dX10_room_18 : decode cX10_room 18 = .ok (.getfield 55, 3) := by decide +kernel
theorem dX10_room_21 : decode cX10_room 21 = .ok (.iload_n 1, 1) := by decide +kernel
theorem dX10_room_22 : decode cX10_room 22 = .ok (.invokevirtual 406, 3) := by decide +kernel
theorem dX10_room_25 : decode cX10_room 25 = .ok (.ifCond .eq 21, 3) := by decide +kernel
theorem dX10_room_28 : decode cX10_room 28 = .ok (.aload_n 0, 1) := by decide +kernel
theorem dX10_room_29 : decode cX10_room 29 = .ok (.getfield 55, 3) := by decide +kernel
theorem dX10_room_32 : decode cX10_room 32 = .ok (.aload_n 0, 1) := by decide +kernel
theorem dX10_room_33 : decode cX10_room 33 = .ok (.getfield 75, 3) := by decide +kernel
theorem dX10_room_36 : decode cX10_room 36 = .ok (.getfield 125, 3) := by decide +kernel
theorem dX10_room_39 : decode cX10_room 39 = .ok (.iload_n 1, 1) := by decide +kernel
theorem dX10_room_40 : decode cX10_room 40 = .ok (.invokevirtual 412, 3) := by decide +kernel
theorem dX10_room_43 : decode cX10_room 43 = .ok (.goto 4, 3) := by decide +kernel
theorem dX10_room_46 : decode cX10_room 46 = .ok (.iconst (-1), 1) := by decide +kernel
theorem dX10_room_47 : decode cX10_room 47 = .ok (.ireturn, 1) := by decide +kernel
def sX10_room (F : Nat) (l0 : Nat) (l1 : Int32) (h : HP) : Option ((Int32 ⊕ Nat) × HP) :=
  (sX10_isNet F l1 h).bind fun t1 =>
  if ¬ t1 = 0 then
    (gR h 10 (some l0) 7).bind fun t2 =>
    (dO h 9 t2).bind fun a3 =>
    (sX9_hasWire F a3 l1 h).bind fun t4 =>
    if t4 = 0 then
      some (.inl (-1 : Int32), h)
    else
      (gR h 10 (some l0) 7).bind fun t5 =>
      (gR h 10 (some l0) 12).bind fun t6 =>
      (gR h 4 t6 0).bind fun t7 =>
      (dO h 9 t5).bind fun a8 =>
      (sX9_freeTracks F a8 t7 l1 h).bind fun t9 =>
      some (.inl t9, h)
  else
    some (.inr 1, h)
abbrev rm_X10_room : Room := { frames := 6, cells := 1, slots := 6, locals := 82 }
set_option maxRecDepth 100000 in
set_option maxHeartbeats 4000000 in
theorem mt_X10_room {w : WD} {l : Launch} {F : Nat} (hlt : l.stackTraces = false) {l0 : Nat} {l1 : Int32} {h : HP} {r : Int32 ⊕ Nat} {h' : HP} (hs : sX10_room F l0 l1 h = some (r, h')) : XI w l yX10_room cX10_room 2 .int rm_X10_room [rf w (some l0), .int l1] h r h' := by
  refine of_bodyT [(0, rf w (some l0)), (1, .int l1)] (by decide) (by simp [lg_sl, rf_cat, cat_i, cat_l, cat_a]) (by simp [lv_args, rf_cat, cat_i, cat_l, cat_a]) ?_
  intro x hw_ hnL_ hl_ hc hret hex hQ
  subst hw_; subst hl_
  have hnl : ∀ i, i < 2 → i < x.nL := fun i h => by rw [hnL_]; exact h
  have hw : wpO (sX10_room F l0 l1 h) (fun q => q = (r, h')) := ⟨_, hs, rfl⟩
  unfold sX10_room at hw
  refine R_iload_n (q := 1) (i := 1) (v := l1) hc dX10_room_0 rfl rfl ?_
  refine R_cSI (As := [.int l1]) (rest := []) hc ml_10_209 mf_X10_isNet ⟨rfl, rfl⟩ ⟨le_b rfl, le_b rfl⟩ ⟨Nat.zero_le _, Nat.zero_le _⟩ (fun v e => mt_X10_isNet e) rfl rfl (Nat.zero_le _) dX10_room_1 hw (fun t1 hw => ?_)
  refine R_if_ne (tgt := 17) hc dX10_room_4 (by decide) hw (fun hw => ?_) (fun hw => ?_)
  · refine R_aload_n (q := 0) (i := 0) (v := (some l0)) hc dX10_room_17 rfl rfl ?_
    refine R_getR hc fl_10_55 dX10_room_18 hw (fun t2 hw => ?_)
    refine R_iload_n (q := 1) (i := 1) (v := l1) hc dX10_room_21 rfl rfl ?_
    refine R_cVI (As := [.int l1]) (rest := []) (r := t2) (ci := 9) hc ml_10_406 mf_X9_hasWire rfl (by decide) ⟨rfl, rfl⟩ ⟨le_b rfl, le_b rfl⟩ ⟨Nat.zero_le _, Nat.zero_le _⟩ (fun a v e => mt_X9_hasWire e) rfl rfl (Nat.zero_le _) dX10_room_22 hw (fun t4 hw => ?_)
    refine R_if_eq (tgt := 46) hc dX10_room_25 (by decide) hw (fun hw => ?_) (fun hw => ?_)
    · refine R_iconst (v := (-1 : Int32)) hc dX10_room_46 kI_m1 ?_
      exact R_ireturnT hc hret rfl ⟨Nat.zero_le _, Nat.zero_le _⟩ hQ hw dX10_room_47
    · refine R_aload_n (q := 0) (i := 0) (v := (some l0)) hc dX10_room_28 rfl rfl ?_
      refine R_getR hc fl_10_55 dX10_room_29 hw (fun t5 hw => ?_)
      refine R_aload_n (q := 0) (i := 0) (v := (some l0)) hc dX10_room_32 rfl rfl ?_
      refine R_getR hc fl_10_75 dX10_room_33 hw (fun t6 hw => ?_)
      refine R_getR hc fl_10_125 dX10_room_36 hw (fun t7 hw => ?_)
      refine R_iload_n (q := 1) (i := 1) (v := l1) hc dX10_room_39 rfl rfl ?_
      refine R_cVI (As := [rf x.w t7, .int l1]) (rest := []) (r := t5) (ci := 9) hc ml_10_412 mf_X9_freeTracks rfl (by decide) ⟨rfl, rfl⟩ ⟨le_b rfl, le_b rfl⟩ ⟨Nat.zero_le _, Nat.zero_le _⟩ (fun a v e => mt_X9_freeTracks e) rfl rfl (Nat.zero_le _) dX10_room_40 hw (fun t9 hw => ?_)
      refine R_goto (tgt := 47) hc dX10_room_43 (by decide) ?_
      exact R_ireturnT hc hret rfl ⟨Nat.zero_le _, Nat.zero_le _⟩ hQ hw dX10_room_47
  · exact R_throwS (k := 1) (is := 212) hc hlt hex (by decide) tx_cl1 tx_in1 tx_g1 tx_b1 tx_o1 (text := "there is no such net") (List.mem_of_getElem? (i := 7) rfl) ⟨le_b rfl, le_b rfl⟩ ⟨le_b rfl, le_b rfl⟩ ⟨le_b rfl, le_b rfl⟩ hQ hw dX10_room_7 dX10_room_10 dX10_room_11 dX10_room_13 dX10_room_16
