theorem dX11_hasWire_0 : decode cX11_hasWire 0 = .ok (.aload_n 0, 1) := by decide +kernel
theorem dX11_hasWire_1 : decode cX11_hasWire 1 = .ok (.getfield 78, 3) := by decide +kernel
theorem dX11_hasWire_4 : decode cX11_hasWire 4 = .ok (.iload_n 1, 1) := by decide +kernel
theorem dX11_hasWire_5 : decode cX11_hasWire 5 = .ok (.iaload, 1) := by decide +kernel
theorem dX11_hasWire_6 : decode cX11_hasWire 6 = .ok (.iconst (-1), 1) := by decide +kernel
theorem dX11_hasWire_7 : decode cX11_hasWire 7 = .ok (.if_icmp .eq 7, 3) := by decide +kernel
theorem dX11_hasWire_10 : decode cX11_hasWire 10 = .ok (.iconst 1, 1) := by decide +kernel
theorem dX11_hasWire_11 : decode cX11_hasWire 11 = .ok (.goto 4, 3) := by decide +kernel
theorem dX11_hasWire_14 : decode cX11_hasWire 14 = .ok (.iconst 0, 1) := by decide +kernel
theorem dX11_hasWire_15 : decode cX11_hasWire 15 = .ok (.ireturn, 1) := by decide +kernel
def sX11_hasWire (F : Nat) (l0 : Nat) (l1 : Int32) (h : HP) : Option Int32 :=
  (gR h 11 (some l0) 32).bind fun t1 =>
  (aI h 13 t1 l1).bind fun t2 =>
  if t2 = (-1 : Int32) then
    some (0 : Int32)
  else
    some (1 : Int32)
abbrev rm_X11_hasWire : Room := { frames := 0, cells := 0, slots := 0, locals := 0 }
set_option maxRecDepth 100000 in
set_option maxHeartbeats 4000000 in
theorem mt_X11_hasWire {w : WD} {l : Launch} {F : Nat} {l0 : Nat} {l1 : Int32} {h : HP} {v : Int32} (hs : sX11_hasWire F l0 l1 h = some v) : MI w l yX11_hasWire cX11_hasWire 2 .boolean rm_X11_hasWire 0 0 [rf w (some l0), .int l1] h v h := by
  refine of_body [(0, rf w (some l0)), (1, .int l1)] (by decide) (by simp [lg_sl, rf_cat, cat_i, cat_l, cat_a]) (by simp [lv_args, rf_cat, cat_i, cat_l, cat_a]) ?_
  intro x hw_ hnL_ hl_ hc hret hnm hQ
  subst hw_; subst hl_
  have hnl : ∀ i, i < 2 → i < x.nL := fun i h => by rw [hnL_]; exact h
  have hw : wpO (sX11_hasWire F l0 l1 h) (fun r => r = v) := ⟨_, hs, rfl⟩
  unfold sX11_hasWire at hw
  refine R_aload_n (q := 0) (i := 0) (v := (some l0)) hc dX11_hasWire_0 rfl rfl ?_
  refine R_getR hc fl_11_78 dX11_hasWire_1 hw (fun t1 hw => ?_)
  refine R_iload_n (q := 1) (i := 1) (v := l1) hc dX11_hasWire_4 rfl rfl ?_
  refine R_iaload hc dX11_hasWire_5 hw (fun t2 hw => ?_)
  refine R_iconst (v := (-1 : Int32)) hc dX11_hasWire_6 kI_m1 ?_
  refine R_icmp_eq (tgt := 14) hc dX11_hasWire_7 (by decide) hw (fun hw => ?_) (fun hw => ?_)
  · refine R_iconst (v := (0 : Int32)) hc dX11_hasWire_14 kI_0 ?_
    exact R_ireturnP hc hret rfl hQ hw dX11_hasWire_15
  · refine R_iconst (v := (1 : Int32)) hc dX11_hasWire_10 kI_1 ?_
    refine R_goto (tgt := 15) hc dX11_hasWire_11 (by decide) ?_
    exact R_ireturnP hc hret rfl hQ hw dX11_hasWire_15
theorem dX11_laysWire_0 : decode cX11_laysWire 0 = .ok (.aload_n 0, 1) := by decide +kernel
theorem dX11_laysWire_1 : decode cX11_laysWire 1 = .ok (.getfield 78, 3) := by decide +kernel
theorem dX11_laysWire_4 : decode cX11_laysWire 4 = .ok (.iload_n 1, 1) := by decide +kernel
theorem dX11_laysWire_5 : decode cX11_laysWire 5 = .ok (.iconst (-1), 1) := by decide +kernel
theorem dX11_laysWire_6 : decode cX11_laysWire 6 = .ok (.iastore, 1) := by decide +kernel
theorem dX11_laysWire_7 : decode cX11_laysWire 7 = .ok (.aload_n 0, 1) := by decide +kernel
theorem dX11_laysWire_8 : decode cX11_laysWire 8 = .ok (.getfield 81, 3) := by decide +kernel
theorem dX11_laysWire_11 : decode cX11_laysWire 11 = .ok (.iload_n 1, 1) := by decide +kernel
theorem dX11_laysWire_12 : decode cX11_laysWire 12 = .ok (.iconst (-1), 1) := by decide +kernel
theorem dX11_laysWire_13 : decode cX11_laysWire 13 = .ok (.iastore, 1) := by decide +kernel
theorem dX11_laysWire_14 : decode cX11_laysWire 14 = .ok (.aload_n 0, 1) := by decide +kernel
theorem dX11_laysWire_15 : decode cX11_laysWire 15 = .ok (.getfield 84, 3) := by decide +kernel
theorem dX11_laysWire_18 : decode cX11_laysWire 18 = .ok (.iload_n 1, 1) := by decide +kernel
theorem dX11_laysWire_19 : decode cX11_laysWire 19 = .ok (.iconst (-1), 1) := by decide +kernel
theorem dX11_laysWire_20 : decode cX11_laysWire 20 = .ok (.iastore, 1) := by decide +kernel
theorem dX11_laysWire_21 : decode cX11_laysWire 21 = .ok (.aload_n 0, 1) := by decide +kernel
theorem dX11_laysWire_22 : decode cX11_laysWire 22 = .ok (.getfield 7, 3) := by decide +kernel
theorem dX11_laysWire_25 : decode cX11_laysWire 25 = .ok (.iconst 2, 1) := by decide +kernel
theorem dX11_laysWire_26 : decode cX11_laysWire 26 = .ok (.iaload, 1) := by decide +kernel
theorem dX11_laysWire_27 : decode cX11_laysWire 27 = .ok (.iload_n 1, 1) := by decide +kernel
theorem dX11_laysWire_28 : decode cX11_laysWire 28 = .ok (.invokestatic 178, 3) := by decide +kernel
theorem dX11_laysWire_31 : decode cX11_laysWire 31 = .ok (.ifCond .ne 13, 3) := by decide +kernel
theorem dX11_laysWire_34 : decode cX11_laysWire 34 = .ok (.aload_n 0, 1) := by decide +kernel
theorem dX11_laysWire_35 : decode cX11_laysWire 35 = .ok (.getfield 66, 3) := by decide +kernel
theorem dX11_laysWire_38 : decode cX11_laysWire 38 = .ok (.iload_n 1, 1) := by decide +kernel
theorem dX11_laysWire_39 : decode cX11_laysWire 39 = .ok (.iaload, 1) := by decide +kernel
theorem dX11_laysWire_40 : decode cX11_laysWire 40 = .ok (.iconst (-1), 1) := by decide +kernel
theorem dX11_laysWire_41 : decode cX11_laysWire 41 = .ok (.if_icmp .ne 4, 3) := by decide +kernel
theorem dX11_laysWire_44 : decode cX11_laysWire 44 = .ok (.return_, 1) := by decide +kernel
theorem dX11_laysWire_45 : decode cX11_laysWire 45 = .ok (.aload_n 0, 1) := by decide +kernel
theorem dX11_laysWire_46 : decode cX11_laysWire 46 = .ok (.getfield 75, 3) := by decide +kernel
theorem dX11_laysWire_49 : decode cX11_laysWire 49 = .ok (.iload_n 1, 1) := by decide +kernel
theorem dX11_laysWire_50 : decode cX11_laysWire 50 = .ok (.iaload, 1) := by decide +kernel
theorem dX11_laysWire_51 : decode cX11_laysWire 51 = .ok (.iconst (-1), 1) := by decide +kernel
theorem dX11_laysWire_52 : decode cX11_laysWire 52 = .ok (.if_icmp .ne 12, 3) := by decide +kernel
theorem dX11_laysWire_55 : decode cX11_laysWire 55 = .ok (.aload_n 0, 1) := by decide +kernel
theorem dX11_laysWire_56 : decode cX11_laysWire 56 = .ok (.getfield 66, 3) := by decide +kernel
theorem dX11_laysWire_59 : decode cX11_laysWire 59 = .ok (.iload_n 1, 1) := by decide +kernel
theorem dX11_laysWire_60 : decode cX11_laysWire 60 = .ok (.iaload, 1) := by decide +kernel
theorem dX11_laysWire_61 : decode cX11_laysWire 61 = .ok (.goto 18, 3) := by decide +kernel
theorem dX11_laysWire_64 : decode cX11_laysWire 64 = .ok (.aload_n 0, 1) := by decide +kernel
theorem dX11_laysWire_65 : decode cX11_laysWire 65 = .ok (.getfield 66, 3) := by decide +kernel
theorem dX11_laysWire_68 : decode cX11_laysWire 68 = .ok (.iload_n 1, 1) := by decide +kernel
theorem dX11_laysWire_69 : decode cX11_laysWire 69 = .ok (.iaload, 1) := by decide +kernel
theorem dX11_laysWire_70 : decode cX11_laysWire 70 = .ok (.aload_n 0, 1) := by decide +kernel
theorem dX11_laysWire_71 : decode cX11_laysWire 71 = .ok (.getfield 75, 3) := by decide +kernel
theorem dX11_laysWire_74 : decode cX11_laysWire 74 = .ok (.iload_n 1, 1) := by decide +kernel
theorem dX11_laysWire_75 : decode cX11_laysWire 75 = .ok (.iaload, 1) := by decide +kernel
theorem dX11_laysWire_76 : decode cX11_laysWire 76 = .ok (.invokestatic 131, 3) := by decide +kernel
theorem dX11_laysWire_79 : decode cX11_laysWire 79 = .ok (.istore_n 2, 1) := by decide +kernel
theorem dX11_laysWire_80 : decode cX11_laysWire 80 = .ok (.aload_n 0, 1) := by decide +kernel
theorem dX11_laysWire_81 : decode cX11_laysWire 81 = .ok (.getfield 75, 3) := by decide +kernel
theorem dX11_laysWire_84 : decode cX11_laysWire 84 = .ok (.iload_n 1, 1) := by decide +kernel
theorem dX11_laysWire_85 : decode cX11_laysWire 85 = .ok (.iaload, 1) := by decide +kernel
theorem dX11_laysWire_86 : decode cX11_laysWire 86 = .ok (.iconst (-1), 1) := by decide +kernel
theorem dX11_laysWire_87 : decode cX11_laysWire 87 = .ok (.if_icmp .ne 12, 3) := by decide +kernel
theorem dX11_laysWire_90 : decode cX11_laysWire 90 = .ok (.aload_n 0, 1) := by decide +kernel
theorem dX11_laysWire_91 : decode cX11_laysWire 91 = .ok (.getfield 69, 3) := by decide +kernel
theorem dX11_laysWire_94 : decode cX11_laysWire 94 = .ok (.iload_n 1, 1) := by decide +kernel
theorem dX11_laysWire_95 : decode cX11_laysWire 95 = .ok (.iaload, 1) := by decide +kernel
theorem dX11_laysWire_96 : decode cX11_laysWire 96 = .ok (.goto 18, 3) := by decide +kernel
theorem dX11_laysWire_99 : decode cX11_laysWire 99 = .ok (.aload_n 0, 1) := by decide +kernel
theorem dX11_laysWire_100 : decode cX11_laysWire 100 = .ok (.getfield 69, 3) := by decide +kernel
theorem dX11_laysWire_103 : decode cX11_laysWire 103 = .ok (.iload_n 1, 1) := by decide +kernel
theorem dX11_laysWire_104 : decode cX11_laysWire 104 = .ok (.iaload, 1) := by decide +kernel
theorem dX11_laysWire_105 : decode cX11_laysWire 105 = .ok (.aload_n 0, 1) := by decide +kernel
theorem dX11_laysWire_106 : decode cX11_laysWire 106 = .ok (.getfield 75, 3) := by decide +kernel
theorem dX11_laysWire_109 : decode cX11_laysWire 109 = .ok (.iload_n 1, 1) := by decide +kernel
theorem dX11_laysWire_110 : decode cX11_laysWire 110 = .ok (.iaload, 1) := by decide +kernel
theorem dX11_laysWire_111 : decode cX11_laysWire 111 = .ok (.invokestatic 175, 3) := by decide +kernel
theorem dX11_laysWire_114 : decode cX11_laysWire 114 = .ok (.istore_n 3, 1) := by decide +kernel
theorem dX11_laysWire_115 : decode cX11_laysWire 115 = .ok (.iload_n 2, 1) := by decide +kernel
theorem dX11_laysWire_116 : decode cX11_laysWire 116 = .ok (.iload_n 3, 1) := by decide +kernel
theorem dX11_laysWire_117 : decode cX11_laysWire 117 = .ok (.if_icmp .ne 4, 3) := by decide +kernel
theorem dX11_laysWire_120 : decode cX11_laysWire 120 = .ok (.return_, 1) := by decide +kernel
theorem dX11_laysWire_121 : decode cX11_laysWire 121 = .ok (.aload_n 0, 1) := by decide +kernel
theorem dX11_laysWire_122 : decode cX11_laysWire 122 = .ok (.getfield 78, 3) := by decide +kernel
theorem dX11_laysWire_125 : decode cX11_laysWire 125 = .ok (.iload_n 1, 1) := by decide +kernel
theorem dX11_laysWire_126 : decode cX11_laysWire 126 = .ok (.iload_n 2, 1) := by decide +kernel
theorem dX11_laysWire_127 : decode cX11_laysWire 127 = .ok (.iastore, 1) := by decide +kernel
theorem dX11_laysWire_128 : decode cX11_laysWire 128 = .ok (.aload_n 0, 1) := by decide +kernel
theorem dX11_laysWire_129 : decode cX11_laysWire 129 = .ok (.getfield 81, 3) := by decide +kernel
theorem dX11_laysWire_132 : decode cX11_laysWire 132 = .ok (.iload_n 1, 1) := by decide +kernel
theorem dX11_laysWire_133 : decode cX11_laysWire 133 = .ok (.iload_n 3, 1) := by decide +kernel
theorem dX11_laysWire_134 : decode cX11_laysWire 134 = .ok (.iastore, 1) := by decide +kernel
theorem dX11_laysWire_135 : decode cX11_laysWire 135 = .ok (.return_, 1) := by decide +kernel
def sX11_laysWire (F : Nat) (l0 : Nat) (l1 : Int32) (h : HP) : Option HP :=
  (gR h 11 (some l0) 32).bind fun t1 =>
  (sI h t1 l1 (-1 : Int32)).bind fun h2 =>
  (gR h2 11 (some l0) 33).bind fun t3 =>
  (sI h2 t3 l1 (-1 : Int32)).bind fun h4 =>
  (gR h4 11 (some l0) 34).bind fun t5 =>
  (sI h4 t5 l1 (-1 : Int32)).bind fun h6 =>
  (gR h6 11 (some l0) 1).bind fun t7 =>
  (aI h6 13 t7 (2 : Int32)).bind fun t8 =>
  (sX11_has F t8 l1 h6).bind fun t9 =>
  if ¬ t9 = 0 then
    some h6
  else
    (gR h6 11 (some l0) 28).bind fun t10 =>
    (aI h6 13 t10 l1).bind fun t11 =>
    if ¬ t11 = (-1 : Int32) then
      (gR h6 11 (some l0) 31).bind fun t12 =>
      (aI h6 13 t12 l1).bind fun t13 =>
      (if ¬ t13 = (-1 : Int32) then
          (gR h6 11 (some l0) 28).bind fun t15 =>
          (aI h6 13 t15 l1).bind fun t16 =>
          (gR h6 11 (some l0) 31).bind fun t17 =>
          (aI h6 13 t17 l1).bind fun t18 =>
          (sX11_lesser F t16 t18 h6).bind fun t19 =>
          some t19
        else
          (gR h6 11 (some l0) 28).bind fun t20 =>
          (aI h6 13 t20 l1).bind fun t21 =>
          some t21).bind fun s14 =>
      (gR h6 11 (some l0) 31).bind fun t22 =>
      (aI h6 13 t22 l1).bind fun t23 =>
      (if ¬ t23 = (-1 : Int32) then
          (gR h6 11 (some l0) 29).bind fun t25 =>
          (aI h6 13 t25 l1).bind fun t26 =>
          (gR h6 11 (some l0) 31).bind fun t27 =>
          (aI h6 13 t27 l1).bind fun t28 =>
          (sX11_greater F t26 t28 h6).bind fun t29 =>
          some t29
        else
          (gR h6 11 (some l0) 29).bind fun t30 =>
          (aI h6 13 t30 l1).bind fun t31 =>
          some t31).bind fun s24 =>
      if ¬ s14 = s24 then
        (gR h6 11 (some l0) 32).bind fun t32 =>
        (sI h6 t32 l1 s14).bind fun h33 =>
        (gR h33 11 (some l0) 33).bind fun t34 =>
        (sI h33 t34 l1 s24).bind fun h35 =>
        some h35
      else
        some h6
    else
      some h6
abbrev rm_X11_laysWire : Room := { frames := 1, cells := 0, slots := 0, locals := 21 }
set_option maxRecDepth 100000 in
set_option maxHeartbeats 4000000 in
theorem mt_X11_laysWire {w : WD} {l : Launch} {F : Nat} {l0 : Nat} {l1 : Int32} {h : HP} {h' : HP} (hs : sX11_laysWire F l0 l1 h = some h') : MV w l yX11_laysWire cX11_laysWire 4 rm_X11_laysWire 0 0 [rf w (some l0), .int l1] h h' := by
  refine of_body [(0, rf w (some l0)), (1, .int l1)] (by decide) (by simp [lg_sl, rf_cat, cat_i, cat_l, cat_a]) (by simp [lv_args, rf_cat, cat_i, cat_l, cat_a]) ?_
  intro x hw_ hnL_ hl_ hc hret hnm hQ
  subst hw_; subst hl_
  have hnl : ∀ i, i < 4 → i < x.nL := fun i h => by rw [hnL_]; exact h
  have hw : wpO (sX11_laysWire F l0 l1 h) (fun r => r = h') := ⟨_, hs, rfl⟩
  unfold sX11_laysWire at hw
  refine R_aload_n (q := 0) (i := 0) (v := (some l0)) hc dX11_laysWire_0 rfl rfl ?_
  refine R_getR hc fl_11_78 dX11_laysWire_1 hw (fun t1 hw => ?_)
  refine R_iload_n (q := 1) (i := 1) (v := l1) hc dX11_laysWire_4 rfl rfl ?_
  refine R_iconst (v := (-1 : Int32)) hc dX11_laysWire_5 kI_m1 ?_
  refine R_iastore hc dX11_laysWire_6 hw (fun h2 hw => ?_)
  refine R_aload_n (q := 0) (i := 0) (v := (some l0)) hc dX11_laysWire_7 rfl rfl ?_
  refine R_getR hc fl_11_81 dX11_laysWire_8 hw (fun t3 hw => ?_)
  refine R_iload_n (q := 1) (i := 1) (v := l1) hc dX11_laysWire_11 rfl rfl ?_
  refine R_iconst (v := (-1 : Int32)) hc dX11_laysWire_12 kI_m1 ?_
  refine R_iastore hc dX11_laysWire_13 hw (fun h4 hw => ?_)
  refine R_aload_n (q := 0) (i := 0) (v := (some l0)) hc dX11_laysWire_14 rfl rfl ?_
  refine R_getR hc fl_11_84 dX11_laysWire_15 hw (fun t5 hw => ?_)
  refine R_iload_n (q := 1) (i := 1) (v := l1) hc dX11_laysWire_18 rfl rfl ?_
  refine R_iconst (v := (-1 : Int32)) hc dX11_laysWire_19 kI_m1 ?_
  refine R_iastore hc dX11_laysWire_20 hw (fun h6 hw => ?_)
  refine R_aload_n (q := 0) (i := 0) (v := (some l0)) hc dX11_laysWire_21 rfl rfl ?_
  refine R_getR hc fl_11_7 dX11_laysWire_22 hw (fun t7 hw => ?_)
  refine R_iconst (v := (2 : Int32)) hc dX11_laysWire_25 kI_2 ?_
  refine R_iaload hc dX11_laysWire_26 hw (fun t8 hw => ?_)
  refine R_iload_n (q := 1) (i := 1) (v := l1) hc dX11_laysWire_27 rfl rfl ?_
  refine R_cSI (As := [.int t8, .int l1]) (rest := []) hc ml_11_178 mf_X11_has ⟨rfl, rfl⟩ ⟨le_b rfl, le_b rfl⟩ ⟨Nat.zero_le _, Nat.zero_le _⟩ (fun v e => mt_X11_has e) rfl rfl (Nat.zero_le _) dX11_laysWire_28 hw (fun t9 hw => ?_)
  refine R_if_ne (tgt := 44) hc dX11_laysWire_31 (by decide) hw (fun hw => ?_) (fun hw => ?_)
  · exact R_return hc hret hQ hw dX11_laysWire_44
  · refine R_aload_n (q := 0) (i := 0) (v := (some l0)) hc dX11_laysWire_34 rfl rfl ?_
    refine R_getR hc fl_11_66 dX11_laysWire_35 hw (fun t10 hw => ?_)
    refine R_iload_n (q := 1) (i := 1) (v := l1) hc dX11_laysWire_38 rfl rfl ?_
    refine R_iaload hc dX11_laysWire_39 hw (fun t11 hw => ?_)
    refine R_iconst (v := (-1 : Int32)) hc dX11_laysWire_40 kI_m1 ?_
    refine R_icmp_ne (tgt := 45) hc dX11_laysWire_41 (by decide) hw (fun hw => ?_) (fun hw => ?_)
    · refine R_aload_n (q := 0) (i := 0) (v := (some l0)) hc dX11_laysWire_45 rfl rfl ?_
      refine R_getR hc fl_11_75 dX11_laysWire_46 hw (fun t12 hw => ?_)
      refine R_iload_n (q := 1) (i := 1) (v := l1) hc dX11_laysWire_49 rfl rfl ?_
      refine R_iaload hc dX11_laysWire_50 hw (fun t13 hw => ?_)
      refine R_iconst (v := (-1 : Int32)) hc dX11_laysWire_51 kI_m1 ?_
      refine R_join (fun (s14 : Int32) => Rn x 0 0 79 [(0, rf x.w (some l0)), (1, .int l1)] [.int s14] h6) hw (fun r hw => ?_) (fun hw => ?_)
      · revert r hw
        intro s14 hw
        show Rn x 0 0 79 [(0, rf x.w (some l0)), (1, .int l1)] [.int s14] h6
        refine R_istore_n (i := 2) (v := s14) hc [(2, .int s14), (0, rf x.w (some l0)), (1, .int l1)] dX11_laysWire_79 rfl (hnl 2 (le_b rfl)) rfl ?_
        refine R_aload_n (q := 1) (i := 0) (v := (some l0)) hc dX11_laysWire_80 rfl rfl ?_
        refine R_getR hc fl_11_75 dX11_laysWire_81 hw (fun t22 hw => ?_)
        refine R_iload_n (q := 2) (i := 1) (v := l1) hc dX11_laysWire_84 rfl rfl ?_
        refine R_iaload hc dX11_laysWire_85 hw (fun t23 hw => ?_)
        refine R_iconst (v := (-1 : Int32)) hc dX11_laysWire_86 kI_m1 ?_
        refine R_join (fun (s24 : Int32) => Rn x 0 0 114 [(0, rf x.w (some l0)), (1, .int l1), (2, .int s14)] [.int s24] h6) hw (fun r hw => ?_) (fun hw => ?_)
        · revert r hw
          intro s24 hw
          show Rn x 0 0 114 [(0, rf x.w (some l0)), (1, .int l1), (2, .int s14)] [.int s24] h6
          refine R_istore_n (i := 3) (v := s24) hc [(3, .int s24), (0, rf x.w (some l0)), (1, .int l1), (2, .int s14)] dX11_laysWire_114 rfl (hnl 3 (le_b rfl)) rfl ?_
          refine R_iload_n (q := 3) (i := 2) (v := s14) hc dX11_laysWire_115 rfl rfl ?_
          refine R_iload_n (q := 0) (i := 3) (v := s24) hc dX11_laysWire_116 rfl rfl ?_
          refine R_icmp_ne (tgt := 121) hc dX11_laysWire_117 (by decide) hw (fun hw => ?_) (fun hw => ?_)
          · refine R_aload_n (q := 1) (i := 0) (v := (some l0)) hc dX11_laysWire_121 rfl rfl ?_
            refine R_getR hc fl_11_78 dX11_laysWire_122 hw (fun t32 hw => ?_)
            refine R_iload_n (q := 2) (i := 1) (v := l1) hc dX11_laysWire_125 rfl rfl ?_
            refine R_iload_n (q := 3) (i := 2) (v := s14) hc dX11_laysWire_126 rfl rfl ?_
            refine R_iastore hc dX11_laysWire_127 hw (fun h33 hw => ?_)
            refine R_aload_n (q := 1) (i := 0) (v := (some l0)) hc dX11_laysWire_128 rfl rfl ?_
            refine R_getR hc fl_11_81 dX11_laysWire_129 hw (fun t34 hw => ?_)
            refine R_iload_n (q := 2) (i := 1) (v := l1) hc dX11_laysWire_132 rfl rfl ?_
            refine R_iload_n (q := 0) (i := 3) (v := s24) hc dX11_laysWire_133 rfl rfl ?_
            refine R_iastore hc dX11_laysWire_134 hw (fun h35 hw => ?_)
            exact R_return hc hret hQ hw dX11_laysWire_135
          · exact R_return hc hret hQ hw dX11_laysWire_120
        · refine R_icmp_ne (tgt := 99) hc dX11_laysWire_87 (by decide) hw (fun hw => ?_) (fun hw => ?_)
          · refine R_aload_n (q := 1) (i := 0) (v := (some l0)) hc dX11_laysWire_99 rfl rfl ?_
            refine R_getR hc fl_11_69 dX11_laysWire_100 hw (fun t25 hw => ?_)
            refine R_iload_n (q := 2) (i := 1) (v := l1) hc dX11_laysWire_103 rfl rfl ?_
            refine R_iaload hc dX11_laysWire_104 hw (fun t26 hw => ?_)
            refine R_aload_n (q := 1) (i := 0) (v := (some l0)) hc dX11_laysWire_105 rfl rfl ?_
            refine R_getR hc fl_11_75 dX11_laysWire_106 hw (fun t27 hw => ?_)
            refine R_iload_n (q := 2) (i := 1) (v := l1) hc dX11_laysWire_109 rfl rfl ?_
            refine R_iaload hc dX11_laysWire_110 hw (fun t28 hw => ?_)
            refine R_cSI (As := [.int t26, .int t28]) (rest := []) hc ml_11_175 mf_X11_greater ⟨rfl, rfl⟩ ⟨le_b rfl, le_b rfl⟩ ⟨Nat.zero_le _, Nat.zero_le _⟩ (fun v e => mt_X11_greater e) rfl rfl (Nat.zero_le _) dX11_laysWire_111 hw (fun t29 hw => ?_)
            refine R_sub hc [1, 2, 0] rfl ?_
            exact (wpO_some hw :)
          · refine R_aload_n (q := 1) (i := 0) (v := (some l0)) hc dX11_laysWire_90 rfl rfl ?_
            refine R_getR hc fl_11_69 dX11_laysWire_91 hw (fun t30 hw => ?_)
            refine R_iload_n (q := 2) (i := 1) (v := l1) hc dX11_laysWire_94 rfl rfl ?_
            refine R_iaload hc dX11_laysWire_95 hw (fun t31 hw => ?_)
            refine R_goto (tgt := 114) hc dX11_laysWire_96 (by decide) ?_
            refine R_sub hc [1, 2, 0] rfl ?_
            exact (wpO_some hw :)
      · refine R_icmp_ne (tgt := 64) hc dX11_laysWire_52 (by decide) hw (fun hw => ?_) (fun hw => ?_)
        · refine R_aload_n (q := 0) (i := 0) (v := (some l0)) hc dX11_laysWire_64 rfl rfl ?_
          refine R_getR hc fl_11_66 dX11_laysWire_65 hw (fun t15 hw => ?_)
          refine R_iload_n (q := 1) (i := 1) (v := l1) hc dX11_laysWire_68 rfl rfl ?_
          refine R_iaload hc dX11_laysWire_69 hw (fun t16 hw => ?_)
          refine R_aload_n (q := 0) (i := 0) (v := (some l0)) hc dX11_laysWire_70 rfl rfl ?_
          refine R_getR hc fl_11_75 dX11_laysWire_71 hw (fun t17 hw => ?_)
          refine R_iload_n (q := 1) (i := 1) (v := l1) hc dX11_laysWire_74 rfl rfl ?_
          refine R_iaload hc dX11_laysWire_75 hw (fun t18 hw => ?_)
          refine R_cSI (As := [.int t16, .int t18]) (rest := []) hc ml_11_131 mf_X11_lesser ⟨rfl, rfl⟩ ⟨le_b rfl, le_b rfl⟩ ⟨Nat.zero_le _, Nat.zero_le _⟩ (fun v e => mt_X11_lesser e) rfl rfl (Nat.zero_le _) dX11_laysWire_76 hw (fun t19 hw => ?_)
          refine R_sub hc [0, 1] rfl ?_
          exact (wpO_some hw :)
        · refine R_aload_n (q := 0) (i := 0) (v := (some l0)) hc dX11_laysWire_55 rfl rfl ?_
          refine R_getR hc fl_11_66 dX11_laysWire_56 hw (fun t20 hw => ?_)
          refine R_iload_n (q := 1) (i := 1) (v := l1) hc dX11_laysWire_59 rfl rfl ?_
          refine R_iaload hc dX11_laysWire_60 hw (fun t21 hw => ?_)
          refine R_goto (tgt := 79) hc dX11_laysWire_61 (by decide) ?_
          refine R_sub hc [0, 1] rfl ?_
          exact (wpO_some hw :)
    · exact R_return hc hret hQ hw dX11_laysWire_44
theorem dX11_crosses_0 : decode cX11_crosses 0 = .ok (.aload_n 0, 1) := by decide +kernel
theorem dX11_crosses_1 : decode cX11_crosses 1 = .ok (.getfield 78, 3) := by decide +kernel
theorem dX11_crosses_4 : decode cX11_crosses 4 = .ok (.iload_n 1, 1) := by decide +kernel
theorem dX11_crosses_5 : decode cX11_crosses 5 = .ok (.iaload, 1) := by decide +kernel
theorem dX11_crosses_6 : decode cX11_crosses 6 = .ok (.iload_n 3, 1) := by decide +kernel
theorem dX11_crosses_7 : decode cX11_crosses 7 = .ok (.if_icmp .gt 17, 3) := by decide +kernel
theorem dX11_crosses_10 : decode cX11_crosses 10 = .ok (.iload_n 2, 1) := by decide +kernel
theorem dX11_crosses_11 : decode cX11_crosses 11 = .ok (.aload_n 0, 1) := by decide +kernel
theorem dX11_crosses_12 : decode cX11_crosses 12 = .ok (.getfield 81, 3) := by decide +kernel
theorem dX11_crosses_15 : decode cX11_crosses 15 = .ok (.iload_n 1, 1) := by decide +kernel
theorem dX11_crosses_16 : decode cX11_crosses 16 = .ok (.iaload, 1) := by decide +kernel
theorem dX11_crosses_17 : decode cX11_crosses 17 = .ok (.if_icmp .gt 7, 3) := by decide +kernel
theorem dX11_crosses_20 : decode cX11_crosses 20 = .ok (.iconst 1, 1) := by decide +kernel
theorem dX11_crosses_21 : decode cX11_crosses 21 = .ok (.goto 4, 3) := by decide +kernel
theorem dX11_crosses_24 : decode cX11_crosses 24 = .ok (.iconst 0, 1) := by decide +kernel
theorem dX11_crosses_25 : decode cX11_crosses 25 = .ok (.ireturn, 1) := by decide +kernel
def sX11_crosses (F : Nat) (l0 : Nat) (l1 : Int32) (l2 : Int32) (l3 : Int32) (h : HP) : Option Int32 :=
  (gR h 11 (some l0) 32).bind fun t1 =>
  (aI h 13 t1 l1).bind fun t2 =>
  if l3 < t2 then
    some (0 : Int32)
  else
    (gR h 11 (some l0) 33).bind fun t3 =>
    (aI h 13 t3 l1).bind fun t4 =>
    if t4 < l2 then
      some (0 : Int32)
    else
      some (1 : Int32)
abbrev rm_X11_crosses : Room := { frames := 0, cells := 0, slots := 0, locals := 0 }
set_option maxRecDepth 100000 in
set_option maxHeartbeats 4000000 in
theorem mt_X11_crosses {w : WD} {l : Launch} {F : Nat} {l0 : Nat} {l1 : Int32} {l2 : Int32} {l3 : Int32} {h : HP} {v : Int32} (hs : sX11_crosses F l0 l1 l2 l3 h = some v) : MI w l yX11_crosses cX11_crosses 4 .boolean rm_X11_crosses 0 0 [rf w (some l0), .int l1, .int l2, .int l3] h v h := by
  refine of_body [(0, rf w (some l0)), (1, .int l1), (2, .int l2), (3, .int l3)] (by decide) (by simp [lg_sl, rf_cat, cat_i, cat_l, cat_a]) (by simp [lv_args, rf_cat, cat_i, cat_l, cat_a]) ?_
  intro x hw_ hnL_ hl_ hc hret hnm hQ
  subst hw_; subst hl_
  have hnl : ∀ i, i < 4 → i < x.nL := fun i h => by rw [hnL_]; exact h
  have hw : wpO (sX11_crosses F l0 l1 l2 l3 h) (fun r => r = v) := ⟨_, hs, rfl⟩
  unfold sX11_crosses at hw
  refine R_aload_n (q := 0) (i := 0) (v := (some l0)) hc dX11_crosses_0 rfl rfl ?_
  refine R_getR hc fl_11_78 dX11_crosses_1 hw (fun t1 hw => ?_)
  refine R_iload_n (q := 1) (i := 1) (v := l1) hc dX11_crosses_4 rfl rfl ?_
  refine R_iaload hc dX11_crosses_5 hw (fun t2 hw => ?_)
  refine R_iload_n (q := 3) (i := 3) (v := l3) hc dX11_crosses_6 rfl rfl ?_
  refine R_icmp_gt (tgt := 24) hc dX11_crosses_7 (by decide) hw (fun hw => ?_) (fun hw => ?_)
  · refine R_iconst (v := (0 : Int32)) hc dX11_crosses_24 kI_0 ?_
    exact R_ireturnP hc hret rfl hQ hw dX11_crosses_25
  · refine R_iload_n (q := 2) (i := 2) (v := l2) hc dX11_crosses_10 rfl rfl ?_
    refine R_aload_n (q := 0) (i := 0) (v := (some l0)) hc dX11_crosses_11 rfl rfl ?_
    refine R_getR hc fl_11_81 dX11_crosses_12 hw (fun t3 hw => ?_)
    refine R_iload_n (q := 1) (i := 1) (v := l1) hc dX11_crosses_15 rfl rfl ?_
    refine R_iaload hc dX11_crosses_16 hw (fun t4 hw => ?_)
    refine R_icmp_gt (tgt := 24) hc dX11_crosses_17 (by decide) hw (fun hw => ?_) (fun hw => ?_)
    · refine R_iconst (v := (0 : Int32)) hc dX11_crosses_24 kI_0 ?_
      exact R_ireturnP hc hret rfl hQ hw dX11_crosses_25
    · refine R_iconst (v := (1 : Int32)) hc dX11_crosses_20 kI_1 ?_
      refine R_goto (tgt := 25) hc dX11_crosses_21 (by decide) ?_
      exact R_ireturnP hc hret rfl hQ hw dX11_crosses_25
theorem dX11_isFree_0 : decode cX11_isFree 0 = .ok (.iconst 0, 1) := by decide +kernel
theorem dX11_isFree_1 : decode cX11_isFree 1 = .ok (.istore_n 3, 1) := by decide +kernel
theorem dX11_isFree_2 : decode cX11_isFree 2 = .ok (.iload_n 3, 1) := by decide +kernel
theorem dX11_isFree_3 : decode cX11_isFree 3 = .ok (.aload_n 0, 1) := by decide +kernel
theorem dX11_isFree_4 : decode cX11_isFree 4 = .ok (.getfield 7, 3) := by decide +kernel
theorem dX11_isFree_7 : decode cX11_isFree 7 = .ok (.bipush 53, 2) := by decide +kernel
theorem dX11_isFree_9 : decode cX11_isFree 9 = .ok (.iaload, 1) := by decide +kernel
theorem dX11_isFree_10 : decode cX11_isFree 10 = .ok (.if_icmp .ge 56, 3) := by decide +kernel
theorem dX11_isFree_13 : decode cX11_isFree 13 = .ok (.bipush 54, 2) := by decide +kernel
theorem dX11_isFree_15 : decode cX11_isFree 15 = .ok (.iconst 3, 1) := by decide +kernel
theorem dX11_isFree_16 : decode cX11_isFree 16 = .ok (.iload_n 3, 1) := by decide +kernel
theorem dX11_isFree_17 : decode cX11_isFree 17 = .ok (.imul, 1) := by decide +kernel
theorem dX11_isFree_18 : decode cX11_isFree 18 = .ok (.iadd, 1) := by decide +kernel
theorem dX11_isFree_19 : decode cX11_isFree 19 = .ok (.istore 4, 2) := by decide +kernel
theorem dX11_isFree_21 : decode cX11_isFree 21 = .ok (.aload_n 0, 1) := by decide +kernel
theorem dX11_isFree_22 : decode cX11_isFree 22 = .ok (.getfield 7, 3) := by decide +kernel
theorem dX11_isFree_25 : decode cX11_isFree 25 = .ok (.iload 4, 2) := by decide +kernel
theorem dX11_isFree_27 : decode cX11_isFree 27 = .ok (.iaload, 1) := by decide +kernel
theorem dX11_isFree_28 : decode cX11_isFree 28 = .ok (.iload_n 2, 1) := by decide +kernel
theorem dX11_isFree_29 : decode cX11_isFree 29 = .ok (.if_icmp .ne 31, 3) := by decide +kernel
theorem dX11_isFree_32 : decode cX11_isFree 32 = .ok (.aload_n 0, 1) := by decide +kernel
theorem dX11_isFree_33 : decode cX11_isFree 33 = .ok (.iload_n 1, 1) := by decide +kernel
theorem dX11_isFree_34 : decode cX11_isFree 34 = .ok (.aload_n 0, 1) := by decide +kernel
theorem dX11_isFree_35 : decode cX11_isFree 35 = .ok (.getfield 7, 3) := by decide +kernel
theorem dX11_isFree_38 : decode cX11_isFree 38 = .ok (.iload 4, 2) := by decide +kernel
theorem dX11_isFree_40 : decode cX11_isFree 40 = .ok (.iconst 1, 1) := by decide +kernel
theorem dX11_isFree_41 : decode cX11_isFree 41 = .ok (.iadd, 1) := by decide +kernel
theorem dX11_isFree_42 : decode cX11_isFree 42 = .ok (.iaload, 1) := by decide +kernel
theorem dX11_isFree_43 : decode cX11_isFree 43 = .ok (.aload_n 0, 1) := by decide +kernel
theorem dX11_isFree_44 : decode cX11_isFree 44 = .ok (.getfield 7, 3) := by decide +kernel
theorem dX11_isFree_47 : decode cX11_isFree 47 = .ok (.iload 4, 2) := by decide +kernel
theorem dX11_isFree_49 : decode cX11_isFree 49 = .ok (.iconst 2, 1) := by decide +kernel
theorem dX11_isFree_50 : decode cX11_isFree 50 = .ok (.iadd, 1) := by decide +kernel
theorem dX11_isFree_51 : decode cX11_isFree 51 = .ok (.iaload, 1) := by decide +kernel
theorem dX11_isFree_52 : decode cX11_isFree 52 = .ok (.invokevirtual 198, 3) := by decide +kernel
theorem dX11_isFree_55 : decode cX11_isFree 55 = .ok (.ifCond .eq 5, 3) := by decide +kernel
theorem dX11_isFree_58 : decode cX11_isFree 58 = .ok (.iconst 0, 1) := by decide +kernel
theorem dX11_isFree_59 : decode cX11_isFree 59 = .ok (.ireturn, 1) := by decide +kernel
theorem dX11_isFree_60 : decode cX11_isFree 60 = .ok (.iinc 3 1, 3) := by decide +kernel
theorem dX11_isFree_63 : decode cX11_isFree 63 = .ok (.goto (-61), 3) := by decide +kernel
theorem dX11_isFree_66 : decode cX11_isFree 66 = .ok (.iconst 0, 1) := by decide +kernel
theorem dX11_isFree_67 : decode cX11_isFree 67 = .ok (.istore_n 3, 1) := by decide +kernel
theorem dX11_isFree_68 : decode cX11_isFree 68 = .ok (.iload_n 3, 1) := by decide +kernel
theorem dX11_isFree_69 : decode cX11_isFree 69 = .ok (.bipush 12, 2) := by decide +kernel
theorem dX11_isFree_71 : decode cX11_isFree 71 = .ok (.if_icmp .ge 54, 3) := by decide +kernel
theorem dX11_isFree_74 : decode cX11_isFree 74 = .ok (.iload_n 3, 1) := by decide +kernel
theorem dX11_isFree_75 : decode cX11_isFree 75 = .ok (.iload_n 1, 1) := by decide +kernel
theorem dX11_isFree_76 : decode cX11_isFree 76 = .ok (.if_icmp .eq 43, 3) := by decide +kernel
theorem dX11_isFree_79 : decode cX11_isFree 79 = .ok (.aload_n 0, 1) := by decide +kernel
theorem dX11_isFree_80 : decode cX11_isFree 80 = .ok (.iload_n 3, 1) := by decide +kernel
theorem dX11_isFree_81 : decode cX11_isFree 81 = .ok (.invokevirtual 201, 3) := by decide +kernel
theorem dX11_isFree_84 : decode cX11_isFree 84 = .ok (.ifCond .eq 35, 3) := by decide +kernel
theorem dX11_isFree_87 : decode cX11_isFree 87 = .ok (.aload_n 0, 1) := by decide +kernel
theorem dX11_isFree_88 : decode cX11_isFree 88 = .ok (.getfield 84, 3) := by decide +kernel
theorem dX11_isFree_91 : decode cX11_isFree 91 = .ok (.iload_n 3, 1) := by decide +kernel
theorem dX11_isFree_92 : decode cX11_isFree 92 = .ok (.iaload, 1) := by decide +kernel
theorem dX11_isFree_93 : decode cX11_isFree 93 = .ok (.iload_n 2, 1) := by decide +kernel
theorem dX11_isFree_94 : decode cX11_isFree 94 = .ok (.if_icmp .ne 25, 3) := by decide +kernel
theorem dX11_isFree_97 : decode cX11_isFree 97 = .ok (.aload_n 0, 1) := by decide +kernel
theorem dX11_isFree_98 : decode cX11_isFree 98 = .ok (.iload_n 1, 1) := by decide +kernel
theorem dX11_isFree_99 : decode cX11_isFree 99 = .ok (.aload_n 0, 1) := by decide +kernel
theorem dX11_isFree_100 : decode cX11_isFree 100 = .ok (.getfield 78, 3) := by decide +kernel
theorem dX11_isFree_103 : decode cX11_isFree 103 = .ok (.iload_n 3, 1) := by decide +kernel
theorem dX11_isFree_104 : decode cX11_isFree 104 = .ok (.iaload, 1) := by decide +kernel
theorem dX11_isFree_105 : decode cX11_isFree 105 = .ok (.aload_n 0, 1) := by decide +kernel
theorem dX11_isFree_106 : decode cX11_isFree 106 = .ok (.getfield 81, 3) := by decide +kernel
theorem dX11_isFree_109 : decode cX11_isFree 109 = .ok (.iload_n 3, 1) := by decide +kernel
theorem dX11_isFree_110 : decode cX11_isFree 110 = .ok (.iaload, 1) := by decide +kernel
theorem dX11_isFree_111 : decode cX11_isFree 111 = .ok (.invokevirtual 198, 3) := by decide +kernel
theorem dX11_isFree_114 : decode cX11_isFree 114 = .ok (.ifCond .eq 5, 3) := by decide +kernel
theorem dX11_isFree_117 : decode cX11_isFree 117 = .ok (.iconst 0, 1) := by decide +kernel
theorem dX11_isFree_118 : decode cX11_isFree 118 = .ok (.ireturn, 1) := by decide +kernel
theorem dX11_isFree_119 : decode cX11_isFree 119 = .ok (.iinc 3 1, 3) := by decide +kernel
theorem dX11_isFree_122 : decode cX11_isFree 122 = .ok (.goto (-54), 3) := by decide +kernel
theorem dX11_isFree_125 : decode cX11_isFree 125 = .ok (.iconst 1, 1) := by decide +kernel
theorem dX11_isFree_126 : decode cX11_isFree 126 = .ok (.ireturn, 1) := by decide +kernel
def sX11_isFree_L2 (F : Nat) (l0 : Nat) (l1 : Int32) (l2 : Int32) (l3 : Int32) (h : HP) : Option (Int32 ⊕ (Unit ⊕ Int32)) :=
  (gR h 11 (some l0) 1).bind fun t1 =>
  (aI h 13 t1 (53 : Int32)).bind fun t2 =>
  if t2 ≤ l3 then
    some (.inr (.inl ()))
  else
    nmI ((54 : Int32) + ((3 : Int32) * l3)) fun l4_3 =>
    (gR h 11 (some l0) 1).bind fun t4 =>
    (aI h 13 t4 l4_3).bind fun t5 =>
    if ¬ t5 = l2 then
      some (.inl (l3 + (1 : Int32)))
    else
      (gR h 11 (some l0) 1).bind fun t6 =>
      (aI h 13 t6 (l4_3 + (1 : Int32))).bind fun t7 =>
      (gR h 11 (some l0) 1).bind fun t8 =>
      (aI h 13 t8 (l4_3 + (2 : Int32))).bind fun t9 =>
      (dO h 11 (some l0)).bind fun a10 =>
      (sX11_crosses F a10 l1 t7 t9 h).bind fun t11 =>
      if t11 = 0 then
        some (.inl (l3 + (1 : Int32)))
      else
        some (.inr (.inr (0 : Int32)))
def sX11_isFree_L68 (F : Nat) (l0 : Nat) (l1 : Int32) (l2 : Int32) (l3 : Int32) (h : HP) : Option (Int32 ⊕ (Unit ⊕ Int32)) :=
  if (12 : Int32) ≤ l3 then
    some (.inr (.inl ()))
  else
    if l3 = l1 then
      some (.inl (l3 + (1 : Int32)))
    else
      (dO h 11 (some l0)).bind fun a12 =>
      (sX11_hasWire F a12 l3 h).bind fun t13 =>
      if t13 = 0 then
        some (.inl (l3 + (1 : Int32)))
      else
        (gR h 11 (some l0) 34).bind fun t14 =>
        (aI h 13 t14 l3).bind fun t15 =>
        if ¬ t15 = l2 then
          some (.inl (l3 + (1 : Int32)))
        else
          (gR h 11 (some l0) 32).bind fun t16 =>
          (aI h 13 t16 l3).bind fun t17 =>
          (gR h 11 (some l0) 33).bind fun t18 =>
          (aI h 13 t18 l3).bind fun t19 =>
          (dO h 11 (some l0)).bind fun a20 =>
          (sX11_crosses F a20 l1 t17 t19 h).bind fun t21 =>
          if t21 = 0 then
            some (.inl (l3 + (1 : Int32)))
          else
            some (.inr (.inr (0 : Int32)))
def sX11_isFree (F : Nat) (l0 : Nat) (l1 : Int32) (l2 : Int32) (h : HP) : Option Int32 :=
  (iter (fun s => sX11_isFree_L2 F l0 l1 l2 s h) F (0 : Int32)).bind fun r => match r with
  | .inl _ =>
    (iter (fun s => sX11_isFree_L68 F l0 l1 l2 s h) F (0 : Int32)).bind fun r => match r with
    | .inl _ =>
      some (1 : Int32)
    | .inr u22 => some u22
  | .inr u24 => some u24
abbrev rm_X11_isFree : Room := { frames := 1, cells := 0, slots := 0, locals := 23 }
set_option maxRecDepth 100000 in
set_option maxHeartbeats 4000000 in
theorem mt_X11_isFree {w : WD} {l : Launch} {F : Nat} {l0 : Nat} {l1 : Int32} {l2 : Int32} {h : HP} {v : Int32} (hs : sX11_isFree F l0 l1 l2 h = some v) : MI w l yX11_isFree cX11_isFree 5 .boolean rm_X11_isFree 0 0 [rf w (some l0), .int l1, .int l2] h v h := by
  refine of_body [(0, rf w (some l0)), (1, .int l1), (2, .int l2)] (by decide) (by simp [lg_sl, rf_cat, cat_i, cat_l, cat_a]) (by simp [lv_args, rf_cat, cat_i, cat_l, cat_a]) ?_
  intro x hw_ hnL_ hl_ hc hret hnm hQ
  subst hw_; subst hl_
  have hnl : ∀ i, i < 5 → i < x.nL := fun i h => by rw [hnL_]; exact h
  have hw : wpO (sX11_isFree F l0 l1 l2 h) (fun r => r = v) := ⟨_, hs, rfl⟩
  unfold sX11_isFree at hw
  refine R_iconst (v := (0 : Int32)) hc dX11_isFree_0 kI_0 ?_
  refine R_istore_n (i := 3) (v := (0 : Int32)) hc [(3, .int (0 : Int32)), (0, rf x.w (some l0)), (1, .int l1), (2, .int l2)] dX11_isFree_1 rfl (hnl 3 (le_b rfl)) rfl ?_
  refine R_sub hc [1, 2, 3, 0] rfl ?_
  refine R_loop (P := fun (s : Int32) => Rn x 0 0 2 [(0, rf x.w (some l0)), (1, .int l1), (2, .int l2), (3, .int s)] [] h) (fun r => match r with | .inl _ => Rn x 0 0 66 [(0, rf x.w (some l0)), (1, .int l1), (2, .int l2)] [] h | .inr u => u = v) hw (fun r hw => ?_) (fun X hX s hw => ?_)
  · cases r with
    | inl r =>
      revert hw
      intro hw
      show Rn x 0 0 66 [(0, rf x.w (some l0)), (1, .int l1), (2, .int l2)] [] h
      have hw : wpO (_) _ := hw
      refine R_iconst (v := (0 : Int32)) hc dX11_isFree_66 kI_0 ?_
      refine R_istore_n (i := 3) (v := (0 : Int32)) hc [(3, .int (0 : Int32)), (0, rf x.w (some l0)), (1, .int l1), (2, .int l2)] dX11_isFree_67 rfl (hnl 3 (le_b rfl)) rfl ?_
      refine R_sub hc [1, 2, 3, 0] rfl ?_
      refine R_loop (P := fun (s : Int32) => Rn x 0 0 68 [(0, rf x.w (some l0)), (1, .int l1), (2, .int l2), (3, .int s)] [] h) (fun r => match r with | .inl _ => Rn x 0 0 125 [] [] h | .inr u => u = v) hw (fun r hw => ?_) (fun X hX s hw => ?_)
      · cases r with
        | inl r =>
          revert hw
          intro hw
          show Rn x 0 0 125 [] [] h
          have hw : wpO (_) _ := hw
          refine R_iconst (v := (1 : Int32)) hc dX11_isFree_125 kI_1 ?_
          exact R_ireturnP hc hret rfl hQ hw dX11_isFree_126
        | inr u => exact (wpO_some hw :)
      · revert s hw
        intro l3_23 hw
        show Rn x 0 0 68 [(0, rf x.w (some l0)), (1, .int l1), (2, .int l2), (3, .int l3_23)] [] h
        have hw : wpO (sX11_isFree_L68 F l0 l1 l2 l3_23 h) _ := hw
        unfold sX11_isFree_L68 at hw
        refine R_iload_n (q := 3) (i := 3) (v := l3_23) hc dX11_isFree_68 rfl rfl ?_
        refine R_bipush (v := (12 : Int32)) hc dX11_isFree_69 kB_12 ?_
        refine R_icmp_ge (tgt := 125) hc dX11_isFree_71 (by decide) hw (fun hw => ?_) (fun hw => ?_)
        · refine R_sub hc [] rfl ?_
          exact (wpO_some hw :)
        · refine R_iload_n (q := 3) (i := 3) (v := l3_23) hc dX11_isFree_74 rfl rfl ?_
          refine R_iload_n (q := 1) (i := 1) (v := l1) hc dX11_isFree_75 rfl rfl ?_
          refine R_icmp_eq (tgt := 119) hc dX11_isFree_76 (by decide) hw (fun hw => ?_) (fun hw => ?_)
          · refine R_iinc (q := 3) (i := 3) (v := l3_23) hc [(3, .int (l3_23 + (1 : Int32))), (0, rf x.w (some l0)), (1, .int l1), (2, .int l2)] dX11_isFree_119 rfl (kC_1 _) (hnl 3 (le_b rfl)) rfl ?_
            refine R_goto (tgt := 68) hc dX11_isFree_122 (by decide) ?_
            refine R_sub hc [1, 2, 3, 0] rfl ?_
            exact hX (l3_23 + (1 : Int32)) (wpO_some hw :)
          · refine R_aload_n (q := 0) (i := 0) (v := (some l0)) hc dX11_isFree_79 rfl rfl ?_
            refine R_iload_n (q := 3) (i := 3) (v := l3_23) hc dX11_isFree_80 rfl rfl ?_
            refine R_cVI (As := [.int l3_23]) (rest := []) (r := (some l0)) (ci := 11) hc ml_11_201 mf_X11_hasWire rfl (by decide) ⟨rfl, rfl⟩ ⟨le_b rfl, le_b rfl⟩ ⟨Nat.zero_le _, Nat.zero_le _⟩ (fun a v e => mt_X11_hasWire e) rfl rfl (Nat.zero_le _) dX11_isFree_81 hw (fun t13 hw => ?_)
            refine R_if_eq (tgt := 119) hc dX11_isFree_84 (by decide) hw (fun hw => ?_) (fun hw => ?_)
            · refine R_iinc (q := 3) (i := 3) (v := l3_23) hc [(3, .int (l3_23 + (1 : Int32))), (0, rf x.w (some l0)), (1, .int l1), (2, .int l2)] dX11_isFree_119 rfl (kC_1 _) (hnl 3 (le_b rfl)) rfl ?_
              refine R_goto (tgt := 68) hc dX11_isFree_122 (by decide) ?_
              refine R_sub hc [1, 2, 3, 0] rfl ?_
              exact hX (l3_23 + (1 : Int32)) (wpO_some hw :)
            · refine R_aload_n (q := 0) (i := 0) (v := (some l0)) hc dX11_isFree_87 rfl rfl ?_
              refine R_getR hc fl_11_84 dX11_isFree_88 hw (fun t14 hw => ?_)
              refine R_iload_n (q := 3) (i := 3) (v := l3_23) hc dX11_isFree_91 rfl rfl ?_
              refine R_iaload hc dX11_isFree_92 hw (fun t15 hw => ?_)
              refine R_iload_n (q := 2) (i := 2) (v := l2) hc dX11_isFree_93 rfl rfl ?_
              refine R_icmp_ne (tgt := 119) hc dX11_isFree_94 (by decide) hw (fun hw => ?_) (fun hw => ?_)
              · refine R_iinc (q := 3) (i := 3) (v := l3_23) hc [(3, .int (l3_23 + (1 : Int32))), (0, rf x.w (some l0)), (1, .int l1), (2, .int l2)] dX11_isFree_119 rfl (kC_1 _) (hnl 3 (le_b rfl)) rfl ?_
                refine R_goto (tgt := 68) hc dX11_isFree_122 (by decide) ?_
                refine R_sub hc [1, 2, 3, 0] rfl ?_
                exact hX (l3_23 + (1 : Int32)) (wpO_some hw :)
              · refine R_aload_n (q := 0) (i := 0) (v := (some l0)) hc dX11_isFree_97 rfl rfl ?_
                refine R_iload_n (q := 1) (i := 1) (v := l1) hc dX11_isFree_98 rfl rfl ?_
                refine R_aload_n (q := 0) (i := 0) (v := (some l0)) hc dX11_isFree_99 rfl rfl ?_
                refine R_getR hc fl_11_78 dX11_isFree_100 hw (fun t16 hw => ?_)
                refine R_iload_n (q := 3) (i := 3) (v := l3_23) hc dX11_isFree_103 rfl rfl ?_
                refine R_iaload hc dX11_isFree_104 hw (fun t17 hw => ?_)
                refine R_aload_n (q := 0) (i := 0) (v := (some l0)) hc dX11_isFree_105 rfl rfl ?_
                refine R_getR hc fl_11_81 dX11_isFree_106 hw (fun t18 hw => ?_)
                refine R_iload_n (q := 3) (i := 3) (v := l3_23) hc dX11_isFree_109 rfl rfl ?_
                refine R_iaload hc dX11_isFree_110 hw (fun t19 hw => ?_)
                refine R_cVI (As := [.int l1, .int t17, .int t19]) (rest := []) (r := (some l0)) (ci := 11) hc ml_11_198 mf_X11_crosses rfl (by decide) ⟨rfl, rfl⟩ ⟨le_b rfl, le_b rfl⟩ ⟨Nat.zero_le _, Nat.zero_le _⟩ (fun a v e => mt_X11_crosses e) rfl rfl (Nat.zero_le _) dX11_isFree_111 hw (fun t21 hw => ?_)
                refine R_if_eq (tgt := 119) hc dX11_isFree_114 (by decide) hw (fun hw => ?_) (fun hw => ?_)
                · refine R_iinc (q := 3) (i := 3) (v := l3_23) hc [(3, .int (l3_23 + (1 : Int32))), (0, rf x.w (some l0)), (1, .int l1), (2, .int l2)] dX11_isFree_119 rfl (kC_1 _) (hnl 3 (le_b rfl)) rfl ?_
                  refine R_goto (tgt := 68) hc dX11_isFree_122 (by decide) ?_
                  refine R_sub hc [1, 2, 3, 0] rfl ?_
                  exact hX (l3_23 + (1 : Int32)) (wpO_some hw :)
                · refine R_iconst (v := (0 : Int32)) hc dX11_isFree_117 kI_0 ?_
                  exact R_ireturnP hc hret rfl hQ ⟨_, rfl, (wpO_some hw :)⟩ dX11_isFree_118
    | inr u => exact (wpO_some hw :)
  · revert s hw
    intro l3_25 hw
    show Rn x 0 0 2 [(0, rf x.w (some l0)), (1, .int l1), (2, .int l2), (3, .int l3_25)] [] h
    have hw : wpO (sX11_isFree_L2 F l0 l1 l2 l3_25 h) _ := hw
    unfold sX11_isFree_L2 at hw
    refine R_iload_n (q := 3) (i := 3) (v := l3_25) hc dX11_isFree_2 rfl rfl ?_
    refine R_aload_n (q := 0) (i := 0) (v := (some l0)) hc dX11_isFree_3 rfl rfl ?_
    refine R_getR hc fl_11_7 dX11_isFree_4 hw (fun t1 hw => ?_)
    refine R_bipush (v := (53 : Int32)) hc dX11_isFree_7 kB_53 ?_
    refine R_iaload hc dX11_isFree_9 hw (fun t2 hw => ?_)
    refine R_icmp_ge (tgt := 66) hc dX11_isFree_10 (by decide) hw (fun hw => ?_) (fun hw => ?_)
    · refine R_sub hc [0, 1, 2] rfl ?_
      exact (wpO_some hw :)
    · refine R_bipush (v := (54 : Int32)) hc dX11_isFree_13 kB_54 ?_
      refine R_iconst (v := (3 : Int32)) hc dX11_isFree_15 kI_3 ?_
      refine R_iload_n (q := 3) (i := 3) (v := l3_25) hc dX11_isFree_16 rfl rfl ?_
      refine R_imul hc dX11_isFree_17 ?_
      refine R_iadd hc dX11_isFree_18 ?_
      refine R_nmI hw (fun l4_3 hw => ?_)
      refine R_istore (i := 4) (v := l4_3) hc [(4, .int l4_3), (0, rf x.w (some l0)), (1, .int l1), (2, .int l2), (3, .int l3_25)] dX11_isFree_19 (hnl 4 (le_b rfl)) rfl ?_
      refine R_aload_n (q := 1) (i := 0) (v := (some l0)) hc dX11_isFree_21 rfl rfl ?_
      refine R_getR hc fl_11_7 dX11_isFree_22 hw (fun t4 hw => ?_)
      refine R_iload (q := 0) (i := 4) (v := l4_3) hc dX11_isFree_25 rfl ?_
      refine R_iaload hc dX11_isFree_27 hw (fun t5 hw => ?_)
      refine R_iload_n (q := 3) (i := 2) (v := l2) hc dX11_isFree_28 rfl rfl ?_
      refine R_icmp_ne (tgt := 60) hc dX11_isFree_29 (by decide) hw (fun hw => ?_) (fun hw => ?_)
      · refine R_iinc (q := 4) (i := 3) (v := l3_25) hc [(3, .int (l3_25 + (1 : Int32))), (4, .int l4_3), (0, rf x.w (some l0)), (1, .int l1), (2, .int l2)] dX11_isFree_60 rfl (kC_1 _) (hnl 3 (le_b rfl)) rfl ?_
        refine R_goto (tgt := 2) hc dX11_isFree_63 (by decide) ?_
        refine R_sub hc [2, 3, 4, 0] rfl ?_
        exact hX (l3_25 + (1 : Int32)) (wpO_some hw :)
      · refine R_aload_n (q := 1) (i := 0) (v := (some l0)) hc dX11_isFree_32 rfl rfl ?_
        refine R_iload_n (q := 2) (i := 1) (v := l1) hc dX11_isFree_33 rfl rfl ?_
        refine R_aload_n (q := 1) (i := 0) (v := (some l0)) hc dX11_isFree_34 rfl rfl ?_
        refine R_getR hc fl_11_7 dX11_isFree_35 hw (fun t6 hw => ?_)
        refine R_iload (q := 0) (i := 4) (v := l4_3) hc dX11_isFree_38 rfl ?_
        refine R_iconst (v := (1 : Int32)) hc dX11_isFree_40 kI_1 ?_
        refine R_iadd hc dX11_isFree_41 ?_
        refine R_iaload hc dX11_isFree_42 hw (fun t7 hw => ?_)
        refine R_aload_n (q := 1) (i := 0) (v := (some l0)) hc dX11_isFree_43 rfl rfl ?_
        refine R_getR hc fl_11_7 dX11_isFree_44 hw (fun t8 hw => ?_)
        refine R_iload (q := 0) (i := 4) (v := l4_3) hc dX11_isFree_47 rfl ?_
        refine R_iconst (v := (2 : Int32)) hc dX11_isFree_49 kI_2 ?_
        refine R_iadd hc dX11_isFree_50 ?_
        refine R_iaload hc dX11_isFree_51 hw (fun t9 hw => ?_)
        refine R_cVI (As := [.int l1, .int t7, .int t9]) (rest := []) (r := (some l0)) (ci := 11) hc ml_11_198 mf_X11_crosses rfl (by decide) ⟨rfl, rfl⟩ ⟨le_b rfl, le_b rfl⟩ ⟨Nat.zero_le _, Nat.zero_le _⟩ (fun a v e => mt_X11_crosses e) rfl rfl (Nat.zero_le _) dX11_isFree_52 hw (fun t11 hw => ?_)
        refine R_if_eq (tgt := 60) hc dX11_isFree_55 (by decide) hw (fun hw => ?_) (fun hw => ?_)
        · refine R_iinc (q := 4) (i := 3) (v := l3_25) hc [(3, .int (l3_25 + (1 : Int32))), (4, .int l4_3), (0, rf x.w (some l0)), (1, .int l1), (2, .int l2)] dX11_isFree_60 rfl (kC_1 _) (hnl 3 (le_b rfl)) rfl ?_
          refine R_goto (tgt := 2) hc dX11_isFree_63 (by decide) ?_
          refine R_sub hc [2, 3, 4, 0] rfl ?_
          exact hX (l3_25 + (1 : Int32)) (wpO_some hw :)
        · refine R_iconst (v := (0 : Int32)) hc dX11_isFree_58 kI_0 ?_
          exact R_ireturnP hc hret rfl hQ ⟨_, rfl, (wpO_some hw :)⟩ dX11_isFree_59
theorem dX11_laysTracks_0 : decode cX11_laysTracks 0 = .ok (.iconst 0, 1) := by decide +kernel
theorem dX11_laysTracks_1 : decode cX11_laysTracks 1 = .ok (.istore_n 1, 1) := by decide +kernel
theorem dX11_laysTracks_2 : decode cX11_laysTracks 2 = .ok (.iload_n 1, 1) := by decide +kernel
theorem dX11_laysTracks_3 : decode cX11_laysTracks 3 = .ok (.aload_n 0, 1) := by decide +kernel
theorem dX11_laysTracks_4 : decode cX11_laysTracks 4 = .ok (.getfield 166, 3) := by decide +kernel
theorem dX11_laysTracks_7 : decode cX11_laysTracks 7 = .ok (.if_icmp .ge 76, 3) := by decide +kernel
theorem dX11_laysTracks_10 : decode cX11_laysTracks 10 = .ok (.iconst 0, 1) := by decide +kernel
theorem dX11_laysTracks_11 : decode cX11_laysTracks 11 = .ok (.istore_n 2, 1) := by decide +kernel
theorem dX11_laysTracks_12 : decode cX11_laysTracks 12 = .ok (.iload_n 2, 1) := by decide +kernel
theorem dX11_laysTracks_13 : decode cX11_laysTracks 13 = .ok (.bipush 12, 2) := by decide +kernel
theorem dX11_laysTracks_15 : decode cX11_laysTracks 15 = .ok (.if_icmp .ge 62, 3) := by decide +kernel
theorem dX11_laysTracks_18 : decode cX11_laysTracks 18 = .ok (.aload_n 0, 1) := by decide +kernel
theorem dX11_laysTracks_19 : decode cX11_laysTracks 19 = .ok (.getfield 78, 3) := by decide +kernel
theorem dX11_laysTracks_22 : decode cX11_laysTracks 22 = .ok (.iload_n 2, 1) := by decide +kernel
theorem dX11_laysTracks_23 : decode cX11_laysTracks 23 = .ok (.iaload, 1) := by decide +kernel
theorem dX11_laysTracks_24 : decode cX11_laysTracks 24 = .ok (.iload_n 1, 1) := by decide +kernel
theorem dX11_laysTracks_25 : decode cX11_laysTracks 25 = .ok (.if_icmp .eq 6, 3) := by decide +kernel
theorem dX11_laysTracks_28 : decode cX11_laysTracks 28 = .ok (.goto 43, 3) := by decide +kernel
theorem dX11_laysTracks_31 : decode cX11_laysTracks 31 = .ok (.iconst 0, 1) := by decide +kernel
theorem dX11_laysTracks_32 : decode cX11_laysTracks 32 = .ok (.istore_n 3, 1) := by decide +kernel
theorem dX11_laysTracks_33 : decode cX11_laysTracks 33 = .ok (.iload_n 3, 1) := by decide +kernel
theorem dX11_laysTracks_34 : decode cX11_laysTracks 34 = .ok (.bipush 12, 2) := by decide +kernel
theorem dX11_laysTracks_36 : decode cX11_laysTracks 36 = .ok (.if_icmp .ge 18, 3) := by decide +kernel
theorem dX11_laysTracks_39 : decode cX11_laysTracks 39 = .ok (.aload_n 0, 1) := by decide +kernel
theorem dX11_laysTracks_40 : decode cX11_laysTracks 40 = .ok (.iload_n 2, 1) := by decide +kernel
theorem dX11_laysTracks_41 : decode cX11_laysTracks 41 = .ok (.iload_n 3, 1) := by decide +kernel
theorem dX11_laysTracks_42 : decode cX11_laysTracks 42 = .ok (.invokevirtual 205, 3) := by decide +kernel
theorem dX11_laysTracks_45 : decode cX11_laysTracks 45 = .ok (.ifCond .ne 9, 3) := by decide +kernel
theorem dX11_laysTracks_48 : decode cX11_laysTracks 48 = .ok (.iinc 3 1, 3) := by decide +kernel
theorem dX11_laysTracks_51 : decode cX11_laysTracks 51 = .ok (.goto (-18), 3) := by decide +kernel
theorem dX11_laysTracks_54 : decode cX11_laysTracks 54 = .ok (.aload_n 0, 1) := by decide +kernel
theorem dX11_laysTracks_55 : decode cX11_laysTracks 55 = .ok (.getfield 84, 3) := by decide +kernel
theorem dX11_laysTracks_58 : decode cX11_laysTracks 58 = .ok (.iload_n 2, 1) := by decide +kernel
theorem dX11_laysTracks_59 : decode cX11_laysTracks 59 = .ok (.iload_n 3, 1) := by decide +kernel
theorem dX11_laysTracks_60 : decode cX11_laysTracks 60 = .ok (.bipush 12, 2) := by decide +kernel
theorem dX11_laysTracks_62 : decode cX11_laysTracks 62 = .ok (.if_icmp .ge 7, 3) := by decide +kernel
theorem dX11_laysTracks_65 : decode cX11_laysTracks 65 = .ok (.iload_n 3, 1) := by decide +kernel
theorem dX11_laysTracks_66 : decode cX11_laysTracks 66 = .ok (.goto 4, 3) := by decide +kernel
theorem dX11_laysTracks_69 : decode cX11_laysTracks 69 = .ok (.iconst (-1), 1) := by decide +kernel
theorem dX11_laysTracks_70 : decode cX11_laysTracks 70 = .ok (.iastore, 1) := by decide +kernel
theorem dX11_laysTracks_71 : decode cX11_laysTracks 71 = .ok (.iinc 2 1, 3) := by decide +kernel
theorem dX11_laysTracks_74 : decode cX11_laysTracks 74 = .ok (.goto (-62), 3) := by decide +kernel
theorem dX11_laysTracks_77 : decode cX11_laysTracks 77 = .ok (.iinc 1 1, 3) := by decide +kernel
theorem dX11_laysTracks_80 : decode cX11_laysTracks 80 = .ok (.goto (-78), 3) := by decide +kernel
theorem dX11_laysTracks_83 : decode cX11_laysTracks 83 = .ok (.return_, 1) := by decide +kernel
def sX11_laysTracks_L33 (F : Nat) (l0 : Nat) (l1 : Int32) (l2 : Int32) (l3 : Int32) (h : HP) : Option (Int32 ⊕ Int32) :=
  if (12 : Int32) ≤ l3 then
    some (.inr l3)
  else
    (dO h 11 (some l0)).bind fun a4 =>
    (sX11_isFree F a4 l2 l3 h).bind fun t5 =>
    if ¬ t5 = 0 then
      some (.inr l3)
    else
      some (.inl (l3 + (1 : Int32)))
def sX11_laysTracks_L12 (F : Nat) (l0 : Nat) (l1 : Int32) (l2 : Int32) (h : HP) : Option ((Int32 × HP) ⊕ HP) :=
  if (12 : Int32) ≤ l2 then
    some (.inr h)
  else
    (gR h 11 (some l0) 32).bind fun t2 =>
    (aI h 13 t2 l2).bind fun t3 =>
    if t3 = l1 then
      (iter (fun s => sX11_laysTracks_L33 F l0 l1 l2 s h) F (0 : Int32)).bind fun l3_6 =>
        (gR h 11 (some l0) 34).bind fun t7 =>
        if (12 : Int32) ≤ l3_6 then
          (sI h t7 l2 (-1 : Int32)).bind fun h8 =>
          some (.inl (l2 + (1 : Int32), h8))
        else
          (sI h t7 l2 l3_6).bind fun h9 =>
          some (.inl (l2 + (1 : Int32), h9))
    else
      some (.inl (l2 + (1 : Int32), h))
def sX11_laysTracks_L2 (F : Nat) (l0 : Nat) (l1 : Int32) (h : HP) : Option ((Int32 × HP) ⊕ HP) :=
  (gI h 11 (some l0) 27).bind fun t1 =>
  if t1 ≤ l1 then
    some (.inr h)
  else
    (iter (fun s => sX11_laysTracks_L12 F l0 l1 s.1 s.2) F ((0 : Int32), h)).bind fun h12 =>
      some (.inl (l1 + (1 : Int32), h12))
def sX11_laysTracks (F : Nat) (l0 : Nat) (h : HP) : Option HP :=
  (iter (fun s => sX11_laysTracks_L2 F l0 s.1 s.2) F ((0 : Int32), h)).bind fun h16 =>
    some h16
abbrev rm_X11_laysTracks : Room := { frames := 2, cells := 0, slots := 0, locals := 47 }
set_option maxRecDepth 100000 in
set_option maxHeartbeats 4000000 in
theorem mt_X11_laysTracks {w : WD} {l : Launch} {F : Nat} {l0 : Nat} {h : HP} {h' : HP} (hs : sX11_laysTracks F l0 h = some h') : MV w l yX11_laysTracks cX11_laysTracks 4 rm_X11_laysTracks 0 0 [rf w (some l0)] h h' := by
  refine of_body [(0, rf w (some l0))] (by decide) (by simp [lg_sl, rf_cat, cat_i, cat_l, cat_a]) (by simp [lv_args, rf_cat, cat_i, cat_l, cat_a]) ?_
  intro x hw_ hnL_ hl_ hc hret hnm hQ
  subst hw_; subst hl_
  have hnl : ∀ i, i < 4 → i < x.nL := fun i h => by rw [hnL_]; exact h
  have hw : wpO (sX11_laysTracks F l0 h) (fun r => r = h') := ⟨_, hs, rfl⟩
  unfold sX11_laysTracks at hw
  refine R_iconst (v := (0 : Int32)) hc dX11_laysTracks_0 kI_0 ?_
  refine R_istore_n (i := 1) (v := (0 : Int32)) hc [(1, .int (0 : Int32)), (0, rf x.w (some l0))] dX11_laysTracks_1 rfl (hnl 1 (le_b rfl)) rfl ?_
  refine R_sub hc [1, 0] rfl ?_
  refine R_loop (P := fun (s : (Int32 × HP)) => Rn x 0 0 2 [(0, rf x.w (some l0)), (1, .int s.1)] [] s.2) (fun h16 => Rn x 0 0 83 [] [] h16) hw (fun r hw => ?_) (fun X hX s hw => ?_)
  · revert r hw
    intro h16 hw
    show Rn x 0 0 83 [] [] h16
    exact R_return hc hret hQ hw dX11_laysTracks_83
  · obtain ⟨l1_18, h19⟩ := s
    show Rn x 0 0 2 [(0, rf x.w (some l0)), (1, .int l1_18)] [] h19
    have hw : wpO (sX11_laysTracks_L2 F l0 l1_18 h19) _ := hw
    unfold sX11_laysTracks_L2 at hw
    refine R_iload_n (q := 1) (i := 1) (v := l1_18) hc dX11_laysTracks_2 rfl rfl ?_
    refine R_aload_n (q := 0) (i := 0) (v := (some l0)) hc dX11_laysTracks_3 rfl rfl ?_
    refine R_getI hc fl_11_166 dX11_laysTracks_4 hw (fun t1 hw => ?_)
    refine R_icmp_ge (tgt := 83) hc dX11_laysTracks_7 (by decide) hw (fun hw => ?_) (fun hw => ?_)
    · refine R_sub hc [] rfl ?_
      exact (wpO_some hw :)
    · refine R_iconst (v := (0 : Int32)) hc dX11_laysTracks_10 kI_0 ?_
      refine R_istore_n (i := 2) (v := (0 : Int32)) hc [(2, .int (0 : Int32)), (0, rf x.w (some l0)), (1, .int l1_18)] dX11_laysTracks_11 rfl (hnl 2 (le_b rfl)) rfl ?_
      refine R_sub hc [1, 2, 0] rfl ?_
      refine R_loop (P := fun (s : (Int32 × HP)) => Rn x 0 0 12 [(0, rf x.w (some l0)), (1, .int l1_18), (2, .int s.1)] [] s.2) (fun h12 => Rn x 0 0 77 [(0, rf x.w (some l0)), (1, .int l1_18)] [] h12) hw (fun r hw => ?_) (fun X hX s hw => ?_)
      · revert r hw
        intro h12 hw
        show Rn x 0 0 77 [(0, rf x.w (some l0)), (1, .int l1_18)] [] h12
        refine R_iinc (q := 1) (i := 1) (v := l1_18) hc [(1, .int (l1_18 + (1 : Int32))), (0, rf x.w (some l0))] dX11_laysTracks_77 rfl (kC_1 _) (hnl 1 (le_b rfl)) rfl ?_
        refine R_goto (tgt := 2) hc dX11_laysTracks_80 (by decide) ?_
        refine R_sub hc [1, 0] rfl ?_
        exact hX (l1_18 + (1 : Int32), h12) (wpO_some hw :)
      · obtain ⟨l2_14, h15⟩ := s
        show Rn x 0 0 12 [(0, rf x.w (some l0)), (1, .int l1_18), (2, .int l2_14)] [] h15
        have hw : wpO (sX11_laysTracks_L12 F l0 l1_18 l2_14 h15) _ := hw
        unfold sX11_laysTracks_L12 at hw
        refine R_iload_n (q := 2) (i := 2) (v := l2_14) hc dX11_laysTracks_12 rfl rfl ?_
        refine R_bipush (v := (12 : Int32)) hc dX11_laysTracks_13 kB_12 ?_
        refine R_icmp_ge (tgt := 77) hc dX11_laysTracks_15 (by decide) hw (fun hw => ?_) (fun hw => ?_)
        · refine R_sub hc [0, 1] rfl ?_
          exact (wpO_some hw :)
        · refine R_aload_n (q := 0) (i := 0) (v := (some l0)) hc dX11_laysTracks_18 rfl rfl ?_
          refine R_getR hc fl_11_78 dX11_laysTracks_19 hw (fun t2 hw => ?_)
          refine R_iload_n (q := 2) (i := 2) (v := l2_14) hc dX11_laysTracks_22 rfl rfl ?_
          refine R_iaload hc dX11_laysTracks_23 hw (fun t3 hw => ?_)
          refine R_iload_n (q := 1) (i := 1) (v := l1_18) hc dX11_laysTracks_24 rfl rfl ?_
          refine R_icmp_eq (tgt := 31) hc dX11_laysTracks_25 (by decide) hw (fun hw => ?_) (fun hw => ?_)
          · refine R_iconst (v := (0 : Int32)) hc dX11_laysTracks_31 kI_0 ?_
            refine R_istore_n (i := 3) (v := (0 : Int32)) hc [(3, .int (0 : Int32)), (0, rf x.w (some l0)), (1, .int l1_18), (2, .int l2_14)] dX11_laysTracks_32 rfl (hnl 3 (le_b rfl)) rfl ?_
            refine R_sub hc [1, 2, 3, 0] rfl ?_
            refine R_loop (P := fun (s : Int32) => Rn x 0 0 33 [(0, rf x.w (some l0)), (1, .int l1_18), (2, .int l2_14), (3, .int s)] [] h15) (fun l3_6 => Rn x 0 0 54 [(0, rf x.w (some l0)), (1, .int l1_18), (2, .int l2_14), (3, .int l3_6)] [] h15) hw (fun r hw => ?_) (fun X hX s hw => ?_)
            · revert r hw
              intro l3_6 hw
              show Rn x 0 0 54 [(0, rf x.w (some l0)), (1, .int l1_18), (2, .int l2_14), (3, .int l3_6)] [] h15
              refine R_aload_n (q := 0) (i := 0) (v := (some l0)) hc dX11_laysTracks_54 rfl rfl ?_
              refine R_getR hc fl_11_84 dX11_laysTracks_55 hw (fun t7 hw => ?_)
              refine R_iload_n (q := 2) (i := 2) (v := l2_14) hc dX11_laysTracks_58 rfl rfl ?_
              refine R_iload_n (q := 3) (i := 3) (v := l3_6) hc dX11_laysTracks_59 rfl rfl ?_
              refine R_bipush (v := (12 : Int32)) hc dX11_laysTracks_60 kB_12 ?_
              refine R_icmp_ge (tgt := 69) hc dX11_laysTracks_62 (by decide) hw (fun hw => ?_) (fun hw => ?_)
              · refine R_iconst (v := (-1 : Int32)) hc dX11_laysTracks_69 kI_m1 ?_
                refine R_iastore hc dX11_laysTracks_70 hw (fun h8 hw => ?_)
                refine R_iinc (q := 2) (i := 2) (v := l2_14) hc [(2, .int (l2_14 + (1 : Int32))), (0, rf x.w (some l0)), (1, .int l1_18), (3, .int l3_6)] dX11_laysTracks_71 rfl (kC_1 _) (hnl 2 (le_b rfl)) rfl ?_
                refine R_goto (tgt := 12) hc dX11_laysTracks_74 (by decide) ?_
                refine R_sub hc [1, 2, 0] rfl ?_
                exact hX (l2_14 + (1 : Int32), h8) (wpO_some hw :)
              · refine R_iload_n (q := 3) (i := 3) (v := l3_6) hc dX11_laysTracks_65 rfl rfl ?_
                refine R_goto (tgt := 70) hc dX11_laysTracks_66 (by decide) ?_
                refine R_iastore hc dX11_laysTracks_70 hw (fun h9 hw => ?_)
                refine R_iinc (q := 2) (i := 2) (v := l2_14) hc [(2, .int (l2_14 + (1 : Int32))), (0, rf x.w (some l0)), (1, .int l1_18), (3, .int l3_6)] dX11_laysTracks_71 rfl (kC_1 _) (hnl 2 (le_b rfl)) rfl ?_
                refine R_goto (tgt := 12) hc dX11_laysTracks_74 (by decide) ?_
                refine R_sub hc [1, 2, 0] rfl ?_
                exact hX (l2_14 + (1 : Int32), h9) (wpO_some hw :)
            · revert s hw
              intro l3_11 hw
              show Rn x 0 0 33 [(0, rf x.w (some l0)), (1, .int l1_18), (2, .int l2_14), (3, .int l3_11)] [] h15
              have hw : wpO (sX11_laysTracks_L33 F l0 l1_18 l2_14 l3_11 h15) _ := hw
              unfold sX11_laysTracks_L33 at hw
              refine R_iload_n (q := 3) (i := 3) (v := l3_11) hc dX11_laysTracks_33 rfl rfl ?_
              refine R_bipush (v := (12 : Int32)) hc dX11_laysTracks_34 kB_12 ?_
              refine R_icmp_ge (tgt := 54) hc dX11_laysTracks_36 (by decide) hw (fun hw => ?_) (fun hw => ?_)
              · refine R_sub hc [0, 1, 2, 3] rfl ?_
                exact (wpO_some hw :)
              · refine R_aload_n (q := 0) (i := 0) (v := (some l0)) hc dX11_laysTracks_39 rfl rfl ?_
                refine R_iload_n (q := 2) (i := 2) (v := l2_14) hc dX11_laysTracks_40 rfl rfl ?_
                refine R_iload_n (q := 3) (i := 3) (v := l3_11) hc dX11_laysTracks_41 rfl rfl ?_
                refine R_cVI (As := [.int l2_14, .int l3_11]) (rest := []) (r := (some l0)) (ci := 11) hc ml_11_205 mf_X11_isFree rfl (by decide) ⟨rfl, rfl⟩ ⟨le_b rfl, le_b rfl⟩ ⟨Nat.zero_le _, Nat.zero_le _⟩ (fun a v e => mt_X11_isFree e) rfl rfl (Nat.zero_le _) dX11_laysTracks_42 hw (fun t5 hw => ?_)
                refine R_if_ne (tgt := 54) hc dX11_laysTracks_45 (by decide) hw (fun hw => ?_) (fun hw => ?_)
                · refine R_sub hc [0, 1, 2, 3] rfl ?_
                  exact (wpO_some hw :)
                · refine R_iinc (q := 3) (i := 3) (v := l3_11) hc [(3, .int (l3_11 + (1 : Int32))), (0, rf x.w (some l0)), (1, .int l1_18), (2, .int l2_14)] dX11_laysTracks_48 rfl (kC_1 _) (hnl 3 (le_b rfl)) rfl ?_
                  refine R_goto (tgt := 33) hc dX11_laysTracks_51 (by decide) ?_
                  refine R_sub hc [1, 2, 3, 0] rfl ?_
                  exact hX (l3_11 + (1 : Int32)) (wpO_some hw :)
          · refine R_goto (tgt := 71) hc dX11_laysTracks_28 (by decide) ?_
            refine R_iinc (q := 2) (i := 2) (v := l2_14) hc [(2, .int (l2_14 + (1 : Int32))), (0, rf x.w (some l0)), (1, .int l1_18)] dX11_laysTracks_71 rfl (kC_1 _) (hnl 2 (le_b rfl)) rfl ?_
            refine R_goto (tgt := 12) hc dX11_laysTracks_74 (by decide) ?_
            refine R_sub hc [1, 2, 0] rfl ?_
            exact hX (l2_14 + (1 : Int32), h15) (wpO_some hw :)
theorem dX11_laysOut_0 : decode cX11_laysOut 0 = .ok (.aload_n 0, 1) := by decide +kernel
theorem dX11_laysOut_1 : decode cX11_laysOut 1 = .ok (.invokevirtual 208, 3) := by decide +kernel
theorem dX11_laysOut_4 : decode cX11_laysOut 4 = .ok (.aload_n 0, 1) := by decide +kernel
theorem dX11_laysOut_5 : decode cX11_laysOut 5 = .ok (.invokevirtual 211, 3) := by decide +kernel
theorem dX11_laysOut_8 : decode cX11_laysOut 8 = .ok (.iconst 0, 1) := by decide +kernel
theorem dX11_laysOut_9 : decode cX11_laysOut 9 = .ok (.istore_n 1, 1) := by decide +kernel
theorem dX11_laysOut_10 : decode cX11_laysOut 10 = .ok (.iload_n 1, 1) := by decide +kernel
theorem dX11_laysOut_11 : decode cX11_laysOut 11 = .ok (.bipush 12, 2) := by decide +kernel
theorem dX11_laysOut_13 : decode cX11_laysOut 13 = .ok (.if_icmp .ge 14, 3) := by decide +kernel
theorem dX11_laysOut_16 : decode cX11_laysOut 16 = .ok (.aload_n 0, 1) := by decide +kernel
theorem dX11_laysOut_17 : decode cX11_laysOut 17 = .ok (.iload_n 1, 1) := by decide +kernel
theorem dX11_laysOut_18 : decode cX11_laysOut 18 = .ok (.invokevirtual 214, 3) := by decide +kernel
theorem dX11_laysOut_21 : decode cX11_laysOut 21 = .ok (.iinc 1 1, 3) := by decide +kernel
theorem dX11_laysOut_24 : decode cX11_laysOut 24 = .ok (.goto (-14), 3) := by decide +kernel
theorem dX11_laysOut_27 : decode cX11_laysOut 27 = .ok (.aload_n 0, 1) := by decide +kernel
theorem dX11_laysOut_28 : decode cX11_laysOut 28 = .ok (.invokevirtual 217, 3) := by decide +kernel
theorem dX11_laysOut_31 : decode cX11_laysOut 31 = .ok (.return_, 1) := by decide +kernel
def sX11_laysOut_L10 (F : Nat) (l0 : Nat) (l1 : Int32) (h : HP) : Option ((Int32 × HP) ⊕ HP) :=
  if (12 : Int32) ≤ l1 then
    some (.inr h)
  else
    (dO h 11 (some l0)).bind fun a5 =>
    (sX11_laysWire F a5 l1 h).bind fun h6 =>
    some (.inl (l1 + (1 : Int32), h6))
def sX11_laysOut (F : Nat) (l0 : Nat) (h : HP) : Option HP :=
  (dO h 11 (some l0)).bind fun a1 =>
  (sX11_laysColumns F a1 h).bind fun h2 =>
  (dO h2 11 (some l0)).bind fun a3 =>
  (sX11_laysPins F a3 h2).bind fun h4 =>
  (iter (fun s => sX11_laysOut_L10 F l0 s.1 s.2) F ((0 : Int32), h4)).bind fun h7 =>
    (dO h7 11 (some l0)).bind fun a8 =>
    (sX11_laysTracks F a8 h7).bind fun h9 =>
    some h9
abbrev rm_X11_laysOut : Room := { frames := 6, cells := 0, slots := 0, locals := 141 }
set_option maxRecDepth 100000 in
set_option maxHeartbeats 4000000 in
theorem mt_X11_laysOut {w : WD} {l : Launch} {F : Nat} {l0 : Nat} {h : HP} {h' : HP} (hs : sX11_laysOut F l0 h = some h') : MV w l yX11_laysOut cX11_laysOut 2 rm_X11_laysOut 0 0 [rf w (some l0)] h h' := by
  refine of_body [(0, rf w (some l0))] (by decide) (by simp [lg_sl, rf_cat, cat_i, cat_l, cat_a]) (by simp [lv_args, rf_cat, cat_i, cat_l, cat_a]) ?_
  intro x hw_ hnL_ hl_ hc hret hnm hQ
  subst hw_; subst hl_
  have hnl : ∀ i, i < 2 → i < x.nL := fun i h => by rw [hnL_]; exact h
  have hw : wpO (sX11_laysOut F l0 h) (fun r => r = h') := ⟨_, hs, rfl⟩
  unfold sX11_laysOut at hw
  refine R_aload_n (q := 0) (i := 0) (v := (some l0)) hc dX11_laysOut_0 rfl rfl ?_
  refine R_cVVi (As := []) (rest := []) (r := (some l0)) (ci := 11) hc ml_11_208 mf_X11_laysColumns rfl (by decide) ⟨rfl, rfl⟩ ⟨le_b rfl, le_b rfl⟩ ⟨Nat.zero_le _, Nat.zero_le _⟩ (fun a h' e => mt_X11_laysColumns e) rfl rfl (Nat.zero_le _) dX11_laysOut_1 hw (fun h2 hw => ?_)
  refine R_aload_n (q := 0) (i := 0) (v := (some l0)) hc dX11_laysOut_4 rfl rfl ?_
  refine R_cVVi (As := []) (rest := []) (r := (some l0)) (ci := 11) hc ml_11_211 mf_X11_laysPins rfl (by decide) ⟨rfl, rfl⟩ ⟨le_b rfl, le_b rfl⟩ ⟨Nat.zero_le _, Nat.zero_le _⟩ (fun a h' e => mt_X11_laysPins e) rfl rfl (Nat.zero_le _) dX11_laysOut_5 hw (fun h4 hw => ?_)
  refine R_iconst (v := (0 : Int32)) hc dX11_laysOut_8 kI_0 ?_
  refine R_istore_n (i := 1) (v := (0 : Int32)) hc [(1, .int (0 : Int32)), (0, rf x.w (some l0))] dX11_laysOut_9 rfl (hnl 1 (le_b rfl)) rfl ?_
  refine R_sub hc [1, 0] rfl ?_
  refine R_loop (P := fun (s : (Int32 × HP)) => Rn x 0 0 10 [(0, rf x.w (some l0)), (1, .int s.1)] [] s.2) (fun h7 => Rn x 0 0 27 [(0, rf x.w (some l0))] [] h7) hw (fun r hw => ?_) (fun X hX s hw => ?_)
  · revert r hw
    intro h7 hw
    show Rn x 0 0 27 [(0, rf x.w (some l0))] [] h7
    refine R_aload_n (q := 0) (i := 0) (v := (some l0)) hc dX11_laysOut_27 rfl rfl ?_
    refine R_cVVi (As := []) (rest := []) (r := (some l0)) (ci := 11) hc ml_11_217 mf_X11_laysTracks rfl (by decide) ⟨rfl, rfl⟩ ⟨le_b rfl, le_b rfl⟩ ⟨Nat.zero_le _, Nat.zero_le _⟩ (fun a h' e => mt_X11_laysTracks e) rfl rfl (Nat.zero_le _) dX11_laysOut_28 hw (fun h9 hw => ?_)
    exact R_return hc hret hQ hw dX11_laysOut_31
  · obtain ⟨l1_11, h12⟩ := s
    show Rn x 0 0 10 [(0, rf x.w (some l0)), (1, .int l1_11)] [] h12
    have hw : wpO (sX11_laysOut_L10 F l0 l1_11 h12) _ := hw
    unfold sX11_laysOut_L10 at hw
    refine R_iload_n (q := 1) (i := 1) (v := l1_11) hc dX11_laysOut_10 rfl rfl ?_
    refine R_bipush (v := (12 : Int32)) hc dX11_laysOut_11 kB_12 ?_
    refine R_icmp_ge (tgt := 27) hc dX11_laysOut_13 (by decide) hw (fun hw => ?_) (fun hw => ?_)
    · refine R_sub hc [0] rfl ?_
      exact (wpO_some hw :)
    · refine R_aload_n (q := 0) (i := 0) (v := (some l0)) hc dX11_laysOut_16 rfl rfl ?_
      refine R_iload_n (q := 1) (i := 1) (v := l1_11) hc dX11_laysOut_17 rfl rfl ?_
      refine R_cVVi (As := [.int l1_11]) (rest := []) (r := (some l0)) (ci := 11) hc ml_11_214 mf_X11_laysWire rfl (by decide) ⟨rfl, rfl⟩ ⟨le_b rfl, le_b rfl⟩ ⟨Nat.zero_le _, Nat.zero_le _⟩ (fun a h' e => mt_X11_laysWire e) rfl rfl (Nat.zero_le _) dX11_laysOut_18 hw (fun h6 hw => ?_)
      refine R_iinc (q := 1) (i := 1) (v := l1_11) hc [(1, .int (l1_11 + (1 : Int32))), (0, rf x.w (some l0))] dX11_laysOut_21 rfl (kC_1 _) (hnl 1 (le_b rfl)) rfl ?_
      refine R_goto (tgt := 10) hc dX11_laysOut_24 (by decide) ?_
      refine R_sub hc [1, 0] rfl ?_
      exact hX (l1_11 + (1 : Int32), h6) (wpO_some hw :)
theorem dX11_cut_0 : decode cX11_cut 0 = .ok (.iconst 0, 1) := by decide +kernel
theorem dX11_cut_1 : decode cX11_cut 1 = .ok (.istore_n 2, 1) := by decide +kernel
theorem dX11_cut_2 : decode cX11_cut 2 = .ok (.iconst 0, 1) := by decide +kernel
theorem dX11_cut_3 : decode cX11_cut 3 = .ok (.istore_n 3, 1) := by decide +kernel
theorem dX11_cut_4 : decode cX11_cut 4 = .ok (.iload_n 3, 1) := by decide +kernel
theorem dX11_cut_5 : decode cX11_cut 5 = .ok (.bipush 12, 2) := by decide +kernel
theorem dX11_cut_7 : decode cX11_cut 7 = .ok (.if_icmp .ge 44, 3) := by decide +kernel
theorem dX11_cut_10 : decode cX11_cut 10 = .ok (.iload_n 2, 1) := by decide +kernel
theorem dX11_cut_11 : decode cX11_cut 11 = .ok (.aload_n 0, 1) := by decide +kernel
theorem dX11_cut_12 : decode cX11_cut 12 = .ok (.iload_n 3, 1) := by decide +kernel
theorem dX11_cut_13 : decode cX11_cut 13 = .ok (.invokevirtual 201, 3) := by decide +kernel
theorem dX11_cut_16 : decode cX11_cut 16 = .ok (.ifCond .eq 26, 3) := by decide +kernel
theorem dX11_cut_19 : decode cX11_cut 19 = .ok (.iload_n 1, 1) := by decide +kernel
theorem dX11_cut_20 : decode cX11_cut 20 = .ok (.aload_n 0, 1) := by decide +kernel
theorem dX11_cut_21 : decode cX11_cut 21 = .ok (.getfield 78, 3) := by decide +kernel
theorem dX11_cut_24 : decode cX11_cut 24 = .ok (.iload_n 3, 1) := by decide +kernel
theorem dX11_cut_25 : decode cX11_cut 25 = .ok (.iaload, 1) := by decide +kernel
theorem dX11_cut_26 : decode cX11_cut 26 = .ok (.aload_n 0, 1) := by decide +kernel
theorem dX11_cut_27 : decode cX11_cut 27 = .ok (.getfield 81, 3) := by decide +kernel
theorem dX11_cut_30 : decode cX11_cut 30 = .ok (.iload_n 3, 1) := by decide +kernel
theorem dX11_cut_31 : decode cX11_cut 31 = .ok (.iaload, 1) := by decide +kernel
theorem dX11_cut_32 : decode cX11_cut 32 = .ok (.invokestatic 107, 3) := by decide +kernel
theorem dX11_cut_35 : decode cX11_cut 35 = .ok (.ifCond .eq 7, 3) := by decide +kernel
theorem dX11_cut_38 : decode cX11_cut 38 = .ok (.iconst 1, 1) := by decide +kernel
theorem dX11_cut_39 : decode cX11_cut 39 = .ok (.goto 4, 3) := by decide +kernel
theorem dX11_cut_42 : decode cX11_cut 42 = .ok (.iconst 0, 1) := by decide +kernel
theorem dX11_cut_43 : decode cX11_cut 43 = .ok (.iadd, 1) := by decide +kernel
theorem dX11_cut_44 : decode cX11_cut 44 = .ok (.istore_n 2, 1) := by decide +kernel
theorem dX11_cut_45 : decode cX11_cut 45 = .ok (.iinc 3 1, 3) := by decide +kernel
theorem dX11_cut_48 : decode cX11_cut 48 = .ok (.goto (-44), 3) := by decide +kernel
theorem dX11_cut_51 : decode cX11_cut 51 = .ok (.iload_n 2, 1) := by decide +kernel
theorem dX11_cut_52 : decode cX11_cut 52 = .ok (.ireturn, 1) := by decide +kernel
def sX11_cut_L4 (F : Nat) (l0 : Nat) (l1 : Int32) (l2 : Int32) (l3 : Int32) (h : HP) : Option ((Int32 × Int32) ⊕ Int32) :=
  if (12 : Int32) ≤ l3 then
    some (.inr l2)
  else
    (dO h 11 (some l0)).bind fun a1 =>
    (sX11_hasWire F a1 l3 h).bind fun t2 =>
    if t2 = 0 then
      nmI (l2 + (0 : Int32)) fun l2_3 =>
      some (.inl (l2_3, l3 + (1 : Int32)))
    else
      (gR h 11 (some l0) 32).bind fun t4 =>
      (aI h 13 t4 l3).bind fun t5 =>
      (gR h 11 (some l0) 33).bind fun t6 =>
      (aI h 13 t6 l3).bind fun t7 =>
      (sX11_isIn F l1 t5 t7 h).bind fun t8 =>
      if t8 = 0 then
        nmI (l2 + (0 : Int32)) fun l2_9 =>
        some (.inl (l2_9, l3 + (1 : Int32)))
      else
        nmI (l2 + (1 : Int32)) fun l2_10 =>
        some (.inl (l2_10, l3 + (1 : Int32)))
def sX11_cut (F : Nat) (l0 : Nat) (l1 : Int32) (h : HP) : Option Int32 :=
  (iter (fun s => sX11_cut_L4 F l0 l1 s.1 s.2 h) F ((0 : Int32), (0 : Int32))).bind fun l2_11 =>
    some l2_11
abbrev rm_X11_cut : Room := { frames := 1, cells := 0, slots := 0, locals := 22 }
set_option maxRecDepth 100000 in
set_option maxHeartbeats 4000000 in
theorem mt_X11_cut {w : WD} {l : Launch} {F : Nat} {l0 : Nat} {l1 : Int32} {h : HP} {v : Int32} (hs : sX11_cut F l0 l1 h = some v) : MI w l yX11_cut cX11_cut 4 .int rm_X11_cut 0 0 [rf w (some l0), .int l1] h v h := by
  refine of_body [(0, rf w (some l0)), (1, .int l1)] (by decide) (by simp [lg_sl, rf_cat, cat_i, cat_l, cat_a]) (by simp [lv_args, rf_cat, cat_i, cat_l, cat_a]) ?_
  intro x hw_ hnL_ hl_ hc hret hnm hQ
  subst hw_; subst hl_
  have hnl : ∀ i, i < 4 → i < x.nL := fun i h => by rw [hnL_]; exact h
  have hw : wpO (sX11_cut F l0 l1 h) (fun r => r = v) := ⟨_, hs, rfl⟩
  unfold sX11_cut at hw
  refine R_iconst (v := (0 : Int32)) hc dX11_cut_0 kI_0 ?_
  refine R_istore_n (i := 2) (v := (0 : Int32)) hc [(2, .int (0 : Int32)), (0, rf x.w (some l0)), (1, .int l1)] dX11_cut_1 rfl (hnl 2 (le_b rfl)) rfl ?_
  refine R_iconst (v := (0 : Int32)) hc dX11_cut_2 kI_0 ?_
  refine R_istore_n (i := 3) (v := (0 : Int32)) hc [(3, .int (0 : Int32)), (2, .int (0 : Int32)), (0, rf x.w (some l0)), (1, .int l1)] dX11_cut_3 rfl (hnl 3 (le_b rfl)) rfl ?_
  refine R_sub hc [2, 3, 1, 0] rfl ?_
  refine R_loop (P := fun (s : (Int32 × Int32)) => Rn x 0 0 4 [(0, rf x.w (some l0)), (1, .int l1), (2, .int s.1), (3, .int s.2)] [] h) (fun l2_11 => Rn x 0 0 51 [(2, .int l2_11)] [] h) hw (fun r hw => ?_) (fun X hX s hw => ?_)
  · revert r hw
    intro l2_11 hw
    show Rn x 0 0 51 [(2, .int l2_11)] [] h
    refine R_iload_n (q := 0) (i := 2) (v := l2_11) hc dX11_cut_51 rfl rfl ?_
    exact R_ireturnP hc hret rfl hQ hw dX11_cut_52
  · obtain ⟨l2_13, l3_14⟩ := s
    show Rn x 0 0 4 [(0, rf x.w (some l0)), (1, .int l1), (2, .int l2_13), (3, .int l3_14)] [] h
    have hw : wpO (sX11_cut_L4 F l0 l1 l2_13 l3_14 h) _ := hw
    unfold sX11_cut_L4 at hw
    refine R_iload_n (q := 3) (i := 3) (v := l3_14) hc dX11_cut_4 rfl rfl ?_
    refine R_bipush (v := (12 : Int32)) hc dX11_cut_5 kB_12 ?_
    refine R_icmp_ge (tgt := 51) hc dX11_cut_7 (by decide) hw (fun hw => ?_) (fun hw => ?_)
    · refine R_sub hc [2] rfl ?_
      exact (wpO_some hw :)
    · refine R_iload_n (q := 2) (i := 2) (v := l2_13) hc dX11_cut_10 rfl rfl ?_
      refine R_aload_n (q := 0) (i := 0) (v := (some l0)) hc dX11_cut_11 rfl rfl ?_
      refine R_iload_n (q := 3) (i := 3) (v := l3_14) hc dX11_cut_12 rfl rfl ?_
      refine R_cVI (As := [.int l3_14]) (rest := [.int l2_13]) (r := (some l0)) (ci := 11) hc ml_11_201 mf_X11_hasWire rfl (by decide) ⟨rfl, rfl⟩ ⟨le_b rfl, le_b rfl⟩ ⟨Nat.zero_le _, Nat.zero_le _⟩ (fun a v e => mt_X11_hasWire e) rfl rfl (le_b rfl) dX11_cut_13 hw (fun t2 hw => ?_)
      refine R_if_eq (tgt := 42) hc dX11_cut_16 (by decide) hw (fun hw => ?_) (fun hw => ?_)
      · refine R_iconst (v := (0 : Int32)) hc dX11_cut_42 kI_0 ?_
        refine R_iadd hc dX11_cut_43 ?_
        refine R_nmI hw (fun l2_3 hw => ?_)
        refine R_istore_n (i := 2) (v := l2_3) hc [(2, .int l2_3), (0, rf x.w (some l0)), (1, .int l1), (3, .int l3_14)] dX11_cut_44 rfl (hnl 2 (le_b rfl)) rfl ?_
        refine R_iinc (q := 3) (i := 3) (v := l3_14) hc [(3, .int (l3_14 + (1 : Int32))), (2, .int l2_3), (0, rf x.w (some l0)), (1, .int l1)] dX11_cut_45 rfl (kC_1 _) (hnl 3 (le_b rfl)) rfl ?_
        refine R_goto (tgt := 4) hc dX11_cut_48 (by decide) ?_
        refine R_sub hc [2, 3, 1, 0] rfl ?_
        exact hX (l2_3, l3_14 + (1 : Int32)) (wpO_some hw :)
      · refine R_iload_n (q := 1) (i := 1) (v := l1) hc dX11_cut_19 rfl rfl ?_
        refine R_aload_n (q := 0) (i := 0) (v := (some l0)) hc dX11_cut_20 rfl rfl ?_
        refine R_getR hc fl_11_78 dX11_cut_21 hw (fun t4 hw => ?_)
        refine R_iload_n (q := 3) (i := 3) (v := l3_14) hc dX11_cut_24 rfl rfl ?_
        refine R_iaload hc dX11_cut_25 hw (fun t5 hw => ?_)
        refine R_aload_n (q := 0) (i := 0) (v := (some l0)) hc dX11_cut_26 rfl rfl ?_
        refine R_getR hc fl_11_81 dX11_cut_27 hw (fun t6 hw => ?_)
        refine R_iload_n (q := 3) (i := 3) (v := l3_14) hc dX11_cut_30 rfl rfl ?_
        refine R_iaload hc dX11_cut_31 hw (fun t7 hw => ?_)
        refine R_cSI (As := [.int l1, .int t5, .int t7]) (rest := [.int l2_13]) hc ml_11_107 mf_X11_isIn ⟨rfl, rfl⟩ ⟨le_b rfl, le_b rfl⟩ ⟨Nat.zero_le _, Nat.zero_le _⟩ (fun v e => mt_X11_isIn e) rfl rfl (le_b rfl) dX11_cut_32 hw (fun t8 hw => ?_)
        refine R_if_eq (tgt := 42) hc dX11_cut_35 (by decide) hw (fun hw => ?_) (fun hw => ?_)
        · refine R_iconst (v := (0 : Int32)) hc dX11_cut_42 kI_0 ?_
          refine R_iadd hc dX11_cut_43 ?_
          refine R_nmI hw (fun l2_9 hw => ?_)
          refine R_istore_n (i := 2) (v := l2_9) hc [(2, .int l2_9), (0, rf x.w (some l0)), (1, .int l1), (3, .int l3_14)] dX11_cut_44 rfl (hnl 2 (le_b rfl)) rfl ?_
          refine R_iinc (q := 3) (i := 3) (v := l3_14) hc [(3, .int (l3_14 + (1 : Int32))), (2, .int l2_9), (0, rf x.w (some l0)), (1, .int l1)] dX11_cut_45 rfl (kC_1 _) (hnl 3 (le_b rfl)) rfl ?_
          refine R_goto (tgt := 4) hc dX11_cut_48 (by decide) ?_
          refine R_sub hc [2, 3, 1, 0] rfl ?_
          exact hX (l2_9, l3_14 + (1 : Int32)) (wpO_some hw :)
        · refine R_iconst (v := (1 : Int32)) hc dX11_cut_38 kI_1 ?_
          refine R_goto (tgt := 43) hc dX11_cut_39 (by decide) ?_
          refine R_iadd hc dX11_cut_43 ?_
          refine R_nmI hw (fun l2_10 hw => ?_)
          refine R_istore_n (i := 2) (v := l2_10) hc [(2, .int l2_10), (0, rf x.w (some l0)), (1, .int l1), (3, .int l3_14)] dX11_cut_44 rfl (hnl 2 (le_b rfl)) rfl ?_
          refine R_iinc (q := 3) (i := 3) (v := l3_14) hc [(3, .int (l3_14 + (1 : Int32))), (2, .int l2_10), (0, rf x.w (some l0)), (1, .int l1)] dX11_cut_45 rfl (kC_1 _) (hnl 3 (le_b rfl)) rfl ?_
          refine R_goto (tgt := 4) hc dX11_cut_48 (by decide) ?_
          refine R_sub hc [2, 3, 1, 0] rfl ?_
          exact hX (l2_10, l3_14 + (1 : Int32)) (wpO_some hw :)
theorem dX11_worst_0 : decode cX11_worst 0 = .ok (.iconst (-1), 1) := by decide +kernel
theorem dX11_worst_1 : decode cX11_worst 1 = .ok (.istore_n 1, 1) := by decide +kernel
theorem dX11_worst_2 : decode cX11_worst 2 = .ok (.iconst 0, 1) := by decide +kernel
theorem dX11_worst_3 : decode cX11_worst 3 = .ok (.istore_n 2, 1) := by decide +kernel
theorem dX11_worst_4 : decode cX11_worst 4 = .ok (.iconst 0, 1) := by decide +kernel
theorem dX11_worst_5 : decode cX11_worst 5 = .ok (.istore_n 3, 1) := by decide +kernel
theorem dX11_worst_6 : decode cX11_worst 6 = .ok (.iload_n 3, 1) := by decide +kernel
theorem dX11_worst_7 : decode cX11_worst 7 = .ok (.aload_n 0, 1) := by decide +kernel
theorem dX11_worst_8 : decode cX11_worst 8 = .ok (.getfield 166, 3) := by decide +kernel
theorem dX11_worst_11 : decode cX11_worst 11 = .ok (.if_icmp .ge 29, 3) := by decide +kernel
theorem dX11_worst_14 : decode cX11_worst 14 = .ok (.aload_n 0, 1) := by decide +kernel
theorem dX11_worst_15 : decode cX11_worst 15 = .ok (.iload_n 3, 1) := by decide +kernel
theorem dX11_worst_16 : decode cX11_worst 16 = .ok (.invokevirtual 220, 3) := by decide +kernel
theorem dX11_worst_19 : decode cX11_worst 19 = .ok (.iload_n 2, 1) := by decide +kernel
theorem dX11_worst_20 : decode cX11_worst 20 = .ok (.if_icmp .gt 6, 3) := by decide +kernel
theorem dX11_worst_23 : decode cX11_worst 23 = .ok (.goto 11, 3) := by decide +kernel
theorem dX11_worst_26 : decode cX11_worst 26 = .ok (.iload_n 3, 1) := by decide +kernel
theorem dX11_worst_27 : decode cX11_worst 27 = .ok (.istore_n 1, 1) := by decide +kernel
theorem dX11_worst_28 : decode cX11_worst 28 = .ok (.aload_n 0, 1) := by decide +kernel
theorem dX11_worst_29 : decode cX11_worst 29 = .ok (.iload_n 3, 1) := by decide +kernel
theorem dX11_worst_30 : decode cX11_worst 30 = .ok (.invokevirtual 220, 3) := by decide +kernel
theorem dX11_worst_33 : decode cX11_worst 33 = .ok (.istore_n 2, 1) := by decide +kernel
theorem dX11_worst_34 : decode cX11_worst 34 = .ok (.iinc 3 1, 3) := by decide +kernel
theorem dX11_worst_37 : decode cX11_worst 37 = .ok (.goto (-31), 3) := by decide +kernel
theorem dX11_worst_40 : decode cX11_worst 40 = .ok (.iload_n 1, 1) := by decide +kernel
theorem dX11_worst_41 : decode cX11_worst 41 = .ok (.ireturn, 1) := by decide +kernel
def sX11_worst_L6 (F : Nat) (l0 : Nat) (l1 : Int32) (l2 : Int32) (l3 : Int32) (h : HP) : Option ((Int32 × Int32 × Int32) ⊕ Int32) :=
  (gI h 11 (some l0) 27).bind fun t1 =>
  if t1 ≤ l3 then
    some (.inr l1)
  else
    (dO h 11 (some l0)).bind fun a2 =>
    (sX11_cut F a2 l3 h).bind fun t3 =>
    if l2 < t3 then
      (dO h 11 (some l0)).bind fun a4 =>
      (sX11_cut F a4 l3 h).bind fun t5 =>
      some (.inl (l3, t5, l3 + (1 : Int32)))
    else
      some (.inl (l1, l2, l3 + (1 : Int32)))
def sX11_worst (F : Nat) (l0 : Nat) (h : HP) : Option Int32 :=
  (iter (fun s => sX11_worst_L6 F l0 s.1 s.2.1 s.2.2 h) F ((-1 : Int32), (0 : Int32), (0 : Int32))).bind fun l1_6 =>
    some l1_6
abbrev rm_X11_worst : Room := { frames := 2, cells := 0, slots := 0, locals := 45 }
set_option maxRecDepth 100000 in
set_option maxHeartbeats 4000000 in
theorem mt_X11_worst {w : WD} {l : Launch} {F : Nat} {l0 : Nat} {h : HP} {v : Int32} (hs : sX11_worst F l0 h = some v) : MI w l yX11_worst cX11_worst 4 .int rm_X11_worst 0 0 [rf w (some l0)] h v h := by
  refine of_body [(0, rf w (some l0))] (by decide) (by simp [lg_sl, rf_cat, cat_i, cat_l, cat_a]) (by simp [lv_args, rf_cat, cat_i, cat_l, cat_a]) ?_
  intro x hw_ hnL_ hl_ hc hret hnm hQ
  subst hw_; subst hl_
  have hnl : ∀ i, i < 4 → i < x.nL := fun i h => by rw [hnL_]; exact h
  have hw : wpO (sX11_worst F l0 h) (fun r => r = v) := ⟨_, hs, rfl⟩
  unfold sX11_worst at hw
  refine R_iconst (v := (-1 : Int32)) hc dX11_worst_0 kI_m1 ?_
  refine R_istore_n (i := 1) (v := (-1 : Int32)) hc [(1, .int (-1 : Int32)), (0, rf x.w (some l0))] dX11_worst_1 rfl (hnl 1 (le_b rfl)) rfl ?_
  refine R_iconst (v := (0 : Int32)) hc dX11_worst_2 kI_0 ?_
  refine R_istore_n (i := 2) (v := (0 : Int32)) hc [(2, .int (0 : Int32)), (1, .int (-1 : Int32)), (0, rf x.w (some l0))] dX11_worst_3 rfl (hnl 2 (le_b rfl)) rfl ?_
  refine R_iconst (v := (0 : Int32)) hc dX11_worst_4 kI_0 ?_
  refine R_istore_n (i := 3) (v := (0 : Int32)) hc [(3, .int (0 : Int32)), (2, .int (0 : Int32)), (1, .int (-1 : Int32)), (0, rf x.w (some l0))] dX11_worst_5 rfl (hnl 3 (le_b rfl)) rfl ?_
  refine R_sub hc [3, 2, 1, 0] rfl ?_
  refine R_loop (P := fun (s : (Int32 × Int32 × Int32)) => Rn x 0 0 6 [(0, rf x.w (some l0)), (1, .int s.1), (2, .int s.2.1), (3, .int s.2.2)] [] h) (fun l1_6 => Rn x 0 0 40 [(1, .int l1_6)] [] h) hw (fun r hw => ?_) (fun X hX s hw => ?_)
  · revert r hw
    intro l1_6 hw
    show Rn x 0 0 40 [(1, .int l1_6)] [] h
    refine R_iload_n (q := 0) (i := 1) (v := l1_6) hc dX11_worst_40 rfl rfl ?_
    exact R_ireturnP hc hret rfl hQ hw dX11_worst_41
  · obtain ⟨l1_8, l2_9, l3_10⟩ := s
    show Rn x 0 0 6 [(0, rf x.w (some l0)), (1, .int l1_8), (2, .int l2_9), (3, .int l3_10)] [] h
    have hw : wpO (sX11_worst_L6 F l0 l1_8 l2_9 l3_10 h) _ := hw
    unfold sX11_worst_L6 at hw
    refine R_iload_n (q := 3) (i := 3) (v := l3_10) hc dX11_worst_6 rfl rfl ?_
    refine R_aload_n (q := 0) (i := 0) (v := (some l0)) hc dX11_worst_7 rfl rfl ?_
    refine R_getI hc fl_11_166 dX11_worst_8 hw (fun t1 hw => ?_)
    refine R_icmp_ge (tgt := 40) hc dX11_worst_11 (by decide) hw (fun hw => ?_) (fun hw => ?_)
    · refine R_sub hc [1] rfl ?_
      exact (wpO_some hw :)
    · refine R_aload_n (q := 0) (i := 0) (v := (some l0)) hc dX11_worst_14 rfl rfl ?_
      refine R_iload_n (q := 3) (i := 3) (v := l3_10) hc dX11_worst_15 rfl rfl ?_
      refine R_cVI (As := [.int l3_10]) (rest := []) (r := (some l0)) (ci := 11) hc ml_11_220 mf_X11_cut rfl (by decide) ⟨rfl, rfl⟩ ⟨le_b rfl, le_b rfl⟩ ⟨Nat.zero_le _, Nat.zero_le _⟩ (fun a v e => mt_X11_cut e) rfl rfl (Nat.zero_le _) dX11_worst_16 hw (fun t3 hw => ?_)
      refine R_iload_n (q := 2) (i := 2) (v := l2_9) hc dX11_worst_19 rfl rfl ?_
      refine R_icmp_gt (tgt := 26) hc dX11_worst_20 (by decide) hw (fun hw => ?_) (fun hw => ?_)
      · refine R_iload_n (q := 3) (i := 3) (v := l3_10) hc dX11_worst_26 rfl rfl ?_
        refine R_istore_n (i := 1) (v := l3_10) hc [(1, .int l3_10), (0, rf x.w (some l0)), (2, .int l2_9), (3, .int l3_10)] dX11_worst_27 rfl (hnl 1 (le_b rfl)) rfl ?_
        refine R_aload_n (q := 1) (i := 0) (v := (some l0)) hc dX11_worst_28 rfl rfl ?_
        refine R_iload_n (q := 3) (i := 3) (v := l3_10) hc dX11_worst_29 rfl rfl ?_
        refine R_cVI (As := [.int l3_10]) (rest := []) (r := (some l0)) (ci := 11) hc ml_11_220 mf_X11_cut rfl (by decide) ⟨rfl, rfl⟩ ⟨le_b rfl, le_b rfl⟩ ⟨Nat.zero_le _, Nat.zero_le _⟩ (fun a v e => mt_X11_cut e) rfl rfl (Nat.zero_le _) dX11_worst_30 hw (fun t5 hw => ?_)
        refine R_istore_n (i := 2) (v := t5) hc [(2, .int t5), (1, .int l3_10), (0, rf x.w (some l0)), (3, .int l3_10)] dX11_worst_33 rfl (hnl 2 (le_b rfl)) rfl ?_
        refine R_iinc (q := 3) (i := 3) (v := l3_10) hc [(3, .int (l3_10 + (1 : Int32))), (2, .int t5), (1, .int l3_10), (0, rf x.w (some l0))] dX11_worst_34 rfl (kC_1 _) (hnl 3 (le_b rfl)) rfl ?_
        refine R_goto (tgt := 6) hc dX11_worst_37 (by decide) ?_
        refine R_sub hc [3, 2, 1, 0] rfl ?_
        exact hX (l3_10, t5, l3_10 + (1 : Int32)) (wpO_some hw :)
      · refine R_goto (tgt := 34) hc dX11_worst_23 (by decide) ?_
        refine R_iinc (q := 3) (i := 3) (v := l3_10) hc [(3, .int (l3_10 + (1 : Int32))), (0, rf x.w (some l0)), (1, .int l1_8), (2, .int l2_9)] dX11_worst_34 rfl (kC_1 _) (hnl 3 (le_b rfl)) rfl ?_
        refine R_goto (tgt := 6) hc dX11_worst_37 (by decide) ?_
        refine R_sub hc [1, 2, 3, 0] rfl ?_
        exact hX (l1_8, l2_9, l3_10 + (1 : Int32)) (wpO_some hw :)
theorem dX11_wires_0 : decode cX11_wires 0 = .ok (.iconst 0, 1) := by decide +kernel
theorem dX11_wires_1 : decode cX11_wires 1 = .ok (.istore_n 1, 1) := by decide +kernel
theorem dX11_wires_2 : decode cX11_wires 2 = .ok (.iconst 0, 1) := by decide +kernel
theorem dX11_wires_3 : decode cX11_wires 3 = .ok (.istore_n 2, 1) := by decide +kernel
theorem dX11_wires_4 : decode cX11_wires 4 = .ok (.iload_n 2, 1) := by decide +kernel
theorem dX11_wires_5 : decode cX11_wires 5 = .ok (.bipush 12, 2) := by decide +kernel
theorem dX11_wires_7 : decode cX11_wires 7 = .ok (.if_icmp .ge 25, 3) := by decide +kernel
theorem dX11_wires_10 : decode cX11_wires 10 = .ok (.iload_n 1, 1) := by decide +kernel
theorem dX11_wires_11 : decode cX11_wires 11 = .ok (.aload_n 0, 1) := by decide +kernel
theorem dX11_wires_12 : decode cX11_wires 12 = .ok (.iload_n 2, 1) := by decide +kernel
theorem dX11_wires_13 : decode cX11_wires 13 = .ok (.invokevirtual 201, 3) := by decide +kernel
theorem dX11_wires_16 : decode cX11_wires 16 = .ok (.ifCond .eq 7, 3) := by decide +kernel
theorem dX11_wires_19 : decode cX11_wires 19 = .ok (.iconst 1, 1) := by decide +kernel
theorem dX11_wires_20 : decode cX11_wires 20 = .ok (.goto 4, 3) := by decide +kernel
theorem dX11_wires_23 : decode cX11_wires 23 = .ok (.iconst 0, 1) := by decide +kernel
theorem dX11_wires_24 : decode cX11_wires 24 = .ok (.iadd, 1) := by decide +kernel
theorem dX11_wires_25 : decode cX11_wires 25 = .ok (.istore_n 1, 1) := by decide +kernel
theorem dX11_wires_26 : decode cX11_wires 26 = .ok (.iinc 2 1, 3) := by decide +kernel
theorem dX11_wires_29 : decode cX11_wires 29 = .ok (.goto (-25), 3) := by decide +kernel
theorem dX11_wires_32 : decode cX11_wires 32 = .ok (.iload_n 1, 1) := by decide +kernel
theorem dX11_wires_33 : decode cX11_wires 33 = .ok (.ireturn, 1) := by decide +kernel
def sX11_wires_L4 (F : Nat) (l0 : Nat) (l1 : Int32) (l2 : Int32) (h : HP) : Option ((Int32 × Int32) ⊕ Int32) :=
  if (12 : Int32) ≤ l2 then
    some (.inr l1)
  else
    (dO h 11 (some l0)).bind fun a1 =>
    (sX11_hasWire F a1 l2 h).bind fun t2 =>
    if t2 = 0 then
      nmI (l1 + (0 : Int32)) fun l1_3 =>
      some (.inl (l1_3, l2 + (1 : Int32)))
    else
      nmI (l1 + (1 : Int32)) fun l1_4 =>
      some (.inl (l1_4, l2 + (1 : Int32)))
def sX11_wires (F : Nat) (l0 : Nat) (h : HP) : Option Int32 :=
  (iter (fun s => sX11_wires_L4 F l0 s.1 s.2 h) F ((0 : Int32), (0 : Int32))).bind fun l1_5 =>
    some l1_5
abbrev rm_X11_wires : Room := { frames := 1, cells := 0, slots := 0, locals := 21 }
set_option maxRecDepth 100000 in
set_option maxHeartbeats 4000000 in
theorem mt_X11_wires {w : WD} {l : Launch} {F : Nat} {l0 : Nat} {h : HP} {v : Int32} (hs : sX11_wires F l0 h = some v) : MI w l yX11_wires cX11_wires 3 .int rm_X11_wires 0 0 [rf w (some l0)] h v h := by
  refine of_body [(0, rf w (some l0))] (by decide) (by simp [lg_sl, rf_cat, cat_i, cat_l, cat_a]) (by simp [lv_args, rf_cat, cat_i, cat_l, cat_a]) ?_
  intro x hw_ hnL_ hl_ hc hret hnm hQ
  subst hw_; subst hl_
  have hnl : ∀ i, i < 3 → i < x.nL := fun i h => by rw [hnL_]; exact h
  have hw : wpO (sX11_wires F l0 h) (fun r => r = v) := ⟨_, hs, rfl⟩
  unfold sX11_wires at hw
  refine R_iconst (v := (0 : Int32)) hc dX11_wires_0 kI_0 ?_
  refine R_istore_n (i := 1) (v := (0 : Int32)) hc [(1, .int (0 : Int32)), (0, rf x.w (some l0))] dX11_wires_1 rfl (hnl 1 (le_b rfl)) rfl ?_
  refine R_iconst (v := (0 : Int32)) hc dX11_wires_2 kI_0 ?_
  refine R_istore_n (i := 2) (v := (0 : Int32)) hc [(2, .int (0 : Int32)), (1, .int (0 : Int32)), (0, rf x.w (some l0))] dX11_wires_3 rfl (hnl 2 (le_b rfl)) rfl ?_
  refine R_sub hc [2, 1, 0] rfl ?_
  refine R_loop (P := fun (s : (Int32 × Int32)) => Rn x 0 0 4 [(0, rf x.w (some l0)), (1, .int s.1), (2, .int s.2)] [] h) (fun l1_5 => Rn x 0 0 32 [(1, .int l1_5)] [] h) hw (fun r hw => ?_) (fun X hX s hw => ?_)
  · revert r hw
    intro l1_5 hw
    show Rn x 0 0 32 [(1, .int l1_5)] [] h
    refine R_iload_n (q := 0) (i := 1) (v := l1_5) hc dX11_wires_32 rfl rfl ?_
    exact R_ireturnP hc hret rfl hQ hw dX11_wires_33
  · obtain ⟨l1_7, l2_8⟩ := s
    show Rn x 0 0 4 [(0, rf x.w (some l0)), (1, .int l1_7), (2, .int l2_8)] [] h
    have hw : wpO (sX11_wires_L4 F l0 l1_7 l2_8 h) _ := hw
    unfold sX11_wires_L4 at hw
    refine R_iload_n (q := 2) (i := 2) (v := l2_8) hc dX11_wires_4 rfl rfl ?_
    refine R_bipush (v := (12 : Int32)) hc dX11_wires_5 kB_12 ?_
    refine R_icmp_ge (tgt := 32) hc dX11_wires_7 (by decide) hw (fun hw => ?_) (fun hw => ?_)
    · refine R_sub hc [1] rfl ?_
      exact (wpO_some hw :)
    · refine R_iload_n (q := 1) (i := 1) (v := l1_7) hc dX11_wires_10 rfl rfl ?_
      refine R_aload_n (q := 0) (i := 0) (v := (some l0)) hc dX11_wires_11 rfl rfl ?_
      refine R_iload_n (q := 2) (i := 2) (v := l2_8) hc dX11_wires_12 rfl rfl ?_
      refine R_cVI (As := [.int l2_8]) (rest := [.int l1_7]) (r := (some l0)) (ci := 11) hc ml_11_201 mf_X11_hasWire rfl (by decide) ⟨rfl, rfl⟩ ⟨le_b rfl, le_b rfl⟩ ⟨Nat.zero_le _, Nat.zero_le _⟩ (fun a v e => mt_X11_hasWire e) rfl rfl (le_b rfl) dX11_wires_13 hw (fun t2 hw => ?_)
      refine R_if_eq (tgt := 23) hc dX11_wires_16 (by decide) hw (fun hw => ?_) (fun hw => ?_)
      · refine R_iconst (v := (0 : Int32)) hc dX11_wires_23 kI_0 ?_
        refine R_iadd hc dX11_wires_24 ?_
        refine R_nmI hw (fun l1_3 hw => ?_)
        refine R_istore_n (i := 1) (v := l1_3) hc [(1, .int l1_3), (0, rf x.w (some l0)), (2, .int l2_8)] dX11_wires_25 rfl (hnl 1 (le_b rfl)) rfl ?_
        refine R_iinc (q := 2) (i := 2) (v := l2_8) hc [(2, .int (l2_8 + (1 : Int32))), (1, .int l1_3), (0, rf x.w (some l0))] dX11_wires_26 rfl (kC_1 _) (hnl 2 (le_b rfl)) rfl ?_
        refine R_goto (tgt := 4) hc dX11_wires_29 (by decide) ?_
        refine R_sub hc [2, 1, 0] rfl ?_
        exact hX (l1_3, l2_8 + (1 : Int32)) (wpO_some hw :)
      · refine R_iconst (v := (1 : Int32)) hc dX11_wires_19 kI_1 ?_
        refine R_goto (tgt := 24) hc dX11_wires_20 (by decide) ?_
        refine R_iadd hc dX11_wires_24 ?_
        refine R_nmI hw (fun l1_4 hw => ?_)
        refine R_istore_n (i := 1) (v := l1_4) hc [(1, .int l1_4), (0, rf x.w (some l0)), (2, .int l2_8)] dX11_wires_25 rfl (hnl 1 (le_b rfl)) rfl ?_
        refine R_iinc (q := 2) (i := 2) (v := l2_8) hc [(2, .int (l2_8 + (1 : Int32))), (1, .int l1_4), (0, rf x.w (some l0))] dX11_wires_26 rfl (kC_1 _) (hnl 2 (le_b rfl)) rfl ?_
        refine R_goto (tgt := 4) hc dX11_wires_29 (by decide) ?_
        refine R_sub hc [2, 1, 0] rfl ?_
        exact hX (l1_4, l2_8 + (1 : Int32)) (wpO_some hw :)
theorem dX11_tracks_0 : decode cX11_tracks 0 = .ok (.iconst 0, 1) := by decide +kernel
theorem dX11_tracks_1 : decode cX11_tracks 1 = .ok (.istore_n 1, 1) := by decide +kernel
theorem dX11_tracks_2 : decode cX11_tracks 2 = .ok (.iconst 0, 1) := by decide +kernel
theorem dX11_tracks_3 : decode cX11_tracks 3 = .ok (.istore_n 2, 1) := by decide +kernel
theorem dX11_tracks_4 : decode cX11_tracks 4 = .ok (.iload_n 2, 1) := by decide +kernel
theorem dX11_tracks_5 : decode cX11_tracks 5 = .ok (.bipush 12, 2) := by decide +kernel
theorem dX11_tracks_7 : decode cX11_tracks 7 = .ok (.if_icmp .ge 42, 3) := by decide +kernel
theorem dX11_tracks_10 : decode cX11_tracks 10 = .ok (.iload_n 1, 1) := by decide +kernel
theorem dX11_tracks_11 : decode cX11_tracks 11 = .ok (.aload_n 0, 1) := by decide +kernel
theorem dX11_tracks_12 : decode cX11_tracks 12 = .ok (.iload_n 2, 1) := by decide +kernel
theorem dX11_tracks_13 : decode cX11_tracks 13 = .ok (.invokevirtual 201, 3) := by decide +kernel
theorem dX11_tracks_16 : decode cX11_tracks 16 = .ok (.ifCond .eq 24, 3) := by decide +kernel
theorem dX11_tracks_19 : decode cX11_tracks 19 = .ok (.aload_n 0, 1) := by decide +kernel
theorem dX11_tracks_20 : decode cX11_tracks 20 = .ok (.getfield 84, 3) := by decide +kernel
theorem dX11_tracks_23 : decode cX11_tracks 23 = .ok (.iload_n 2, 1) := by decide +kernel
theorem dX11_tracks_24 : decode cX11_tracks 24 = .ok (.iaload, 1) := by decide +kernel
theorem dX11_tracks_25 : decode cX11_tracks 25 = .ok (.iconst (-1), 1) := by decide +kernel
theorem dX11_tracks_26 : decode cX11_tracks 26 = .ok (.if_icmp .eq 14, 3) := by decide +kernel
theorem dX11_tracks_29 : decode cX11_tracks 29 = .ok (.iconst 1, 1) := by decide +kernel
theorem dX11_tracks_30 : decode cX11_tracks 30 = .ok (.aload_n 0, 1) := by decide +kernel
theorem dX11_tracks_31 : decode cX11_tracks 31 = .ok (.getfield 84, 3) := by decide +kernel
theorem dX11_tracks_34 : decode cX11_tracks 34 = .ok (.iload_n 2, 1) := by decide +kernel
theorem dX11_tracks_35 : decode cX11_tracks 35 = .ok (.iaload, 1) := by decide +kernel
theorem dX11_tracks_36 : decode cX11_tracks 36 = .ok (.ishl, 1) := by decide +kernel
theorem dX11_tracks_37 : decode cX11_tracks 37 = .ok (.goto 4, 3) := by decide +kernel
theorem dX11_tracks_40 : decode cX11_tracks 40 = .ok (.iconst 0, 1) := by decide +kernel
theorem dX11_tracks_41 : decode cX11_tracks 41 = .ok (.ior, 1) := by decide +kernel
theorem dX11_tracks_42 : decode cX11_tracks 42 = .ok (.istore_n 1, 1) := by decide +kernel
theorem dX11_tracks_43 : decode cX11_tracks 43 = .ok (.iinc 2 1, 3) := by decide +kernel
theorem dX11_tracks_46 : decode cX11_tracks 46 = .ok (.goto (-42), 3) := by decide +kernel
theorem dX11_tracks_49 : decode cX11_tracks 49 = .ok (.iload_n 1, 1) := by decide +kernel
theorem dX11_tracks_50 : decode cX11_tracks 50 = .ok (.ireturn, 1) := by decide +kernel
def sX11_tracks_L4 (F : Nat) (l0 : Nat) (l1 : Int32) (l2 : Int32) (h : HP) : Option ((Int32 × Int32) ⊕ Int32) :=
  if (12 : Int32) ≤ l2 then
    some (.inr l1)
  else
    (dO h 11 (some l0)).bind fun a1 =>
    (sX11_hasWire F a1 l2 h).bind fun t2 =>
    if t2 = 0 then
      nmI (l1 ||| (0 : Int32)) fun l1_3 =>
      some (.inl (l1_3, l2 + (1 : Int32)))
    else
      (gR h 11 (some l0) 34).bind fun t4 =>
      (aI h 13 t4 l2).bind fun t5 =>
      if t5 = (-1 : Int32) then
        nmI (l1 ||| (0 : Int32)) fun l1_6 =>
        some (.inl (l1_6, l2 + (1 : Int32)))
      else
        (gR h 11 (some l0) 34).bind fun t7 =>
        (aI h 13 t7 l2).bind fun t8 =>
        nmI (l1 ||| (jshl (1 : Int32) t8)) fun l1_9 =>
        some (.inl (l1_9, l2 + (1 : Int32)))
def sX11_tracks (F : Nat) (l0 : Nat) (h : HP) : Option Int32 :=
  (iter (fun s => sX11_tracks_L4 F l0 s.1 s.2 h) F ((0 : Int32), (0 : Int32))).bind fun l1_10 =>
    some l1_10
abbrev rm_X11_tracks : Room := { frames := 1, cells := 0, slots := 0, locals := 21 }
set_option maxRecDepth 100000 in
set_option maxHeartbeats 4000000 in
theorem mt_X11_tracks {w : WD} {l : Launch} {F : Nat} {l0 : Nat} {h : HP} {v : Int32} (hs : sX11_tracks F l0 h = some v) : MI w l yX11_tracks cX11_tracks 3 .int rm_X11_tracks 0 0 [rf w (some l0)] h v h := by
  refine of_body [(0, rf w (some l0))] (by decide) (by simp [lg_sl, rf_cat, cat_i, cat_l, cat_a]) (by simp [lv_args, rf_cat, cat_i, cat_l, cat_a]) ?_
  intro x hw_ hnL_ hl_ hc hret hnm hQ
  subst hw_; subst hl_
  have hnl : ∀ i, i < 3 → i < x.nL := fun i h => by rw [hnL_]; exact h
  have hw : wpO (sX11_tracks F l0 h) (fun r => r = v) := ⟨_, hs, rfl⟩
  unfold sX11_tracks at hw
  refine R_iconst (v := (0 : Int32)) hc dX11_tracks_0 kI_0 ?_
  refine R_istore_n (i := 1) (v := (0 : Int32)) hc [(1, .int (0 : Int32)), (0, rf x.w (some l0))] dX11_tracks_1 rfl (hnl 1 (le_b rfl)) rfl ?_
  refine R_iconst (v := (0 : Int32)) hc dX11_tracks_2 kI_0 ?_
  refine R_istore_n (i := 2) (v := (0 : Int32)) hc [(2, .int (0 : Int32)), (1, .int (0 : Int32)), (0, rf x.w (some l0))] dX11_tracks_3 rfl (hnl 2 (le_b rfl)) rfl ?_
  refine R_sub hc [2, 1, 0] rfl ?_
  refine R_loop (P := fun (s : (Int32 × Int32)) => Rn x 0 0 4 [(0, rf x.w (some l0)), (1, .int s.1), (2, .int s.2)] [] h) (fun l1_10 => Rn x 0 0 49 [(1, .int l1_10)] [] h) hw (fun r hw => ?_) (fun X hX s hw => ?_)
  · revert r hw
    intro l1_10 hw
    show Rn x 0 0 49 [(1, .int l1_10)] [] h
    refine R_iload_n (q := 0) (i := 1) (v := l1_10) hc dX11_tracks_49 rfl rfl ?_
    exact R_ireturnP hc hret rfl hQ hw dX11_tracks_50
  · obtain ⟨l1_12, l2_13⟩ := s
    show Rn x 0 0 4 [(0, rf x.w (some l0)), (1, .int l1_12), (2, .int l2_13)] [] h
    have hw : wpO (sX11_tracks_L4 F l0 l1_12 l2_13 h) _ := hw
    unfold sX11_tracks_L4 at hw
    refine R_iload_n (q := 2) (i := 2) (v := l2_13) hc dX11_tracks_4 rfl rfl ?_
    refine R_bipush (v := (12 : Int32)) hc dX11_tracks_5 kB_12 ?_
    refine R_icmp_ge (tgt := 49) hc dX11_tracks_7 (by decide) hw (fun hw => ?_) (fun hw => ?_)
    · refine R_sub hc [1] rfl ?_
      exact (wpO_some hw :)
    · refine R_iload_n (q := 1) (i := 1) (v := l1_12) hc dX11_tracks_10 rfl rfl ?_
      refine R_aload_n (q := 0) (i := 0) (v := (some l0)) hc dX11_tracks_11 rfl rfl ?_
      refine R_iload_n (q := 2) (i := 2) (v := l2_13) hc dX11_tracks_12 rfl rfl ?_
      refine R_cVI (As := [.int l2_13]) (rest := [.int l1_12]) (r := (some l0)) (ci := 11) hc ml_11_201 mf_X11_hasWire rfl (by decide) ⟨rfl, rfl⟩ ⟨le_b rfl, le_b rfl⟩ ⟨Nat.zero_le _, Nat.zero_le _⟩ (fun a v e => mt_X11_hasWire e) rfl rfl (le_b rfl) dX11_tracks_13 hw (fun t2 hw => ?_)
      refine R_if_eq (tgt := 40) hc dX11_tracks_16 (by decide) hw (fun hw => ?_) (fun hw => ?_)
      · refine R_iconst (v := (0 : Int32)) hc dX11_tracks_40 kI_0 ?_
        refine R_ior hc dX11_tracks_41 ?_
        refine R_nmI hw (fun l1_3 hw => ?_)
        refine R_istore_n (i := 1) (v := l1_3) hc [(1, .int l1_3), (0, rf x.w (some l0)), (2, .int l2_13)] dX11_tracks_42 rfl (hnl 1 (le_b rfl)) rfl ?_
        refine R_iinc (q := 2) (i := 2) (v := l2_13) hc [(2, .int (l2_13 + (1 : Int32))), (1, .int l1_3), (0, rf x.w (some l0))] dX11_tracks_43 rfl (kC_1 _) (hnl 2 (le_b rfl)) rfl ?_
        refine R_goto (tgt := 4) hc dX11_tracks_46 (by decide) ?_
        refine R_sub hc [2, 1, 0] rfl ?_
        exact hX (l1_3, l2_13 + (1 : Int32)) (wpO_some hw :)
      · refine R_aload_n (q := 0) (i := 0) (v := (some l0)) hc dX11_tracks_19 rfl rfl ?_
        refine R_getR hc fl_11_84 dX11_tracks_20 hw (fun t4 hw => ?_)
        refine R_iload_n (q := 2) (i := 2) (v := l2_13) hc dX11_tracks_23 rfl rfl ?_
        refine R_iaload hc dX11_tracks_24 hw (fun t5 hw => ?_)
        refine R_iconst (v := (-1 : Int32)) hc dX11_tracks_25 kI_m1 ?_
        refine R_icmp_eq (tgt := 40) hc dX11_tracks_26 (by decide) hw (fun hw => ?_) (fun hw => ?_)
        · refine R_iconst (v := (0 : Int32)) hc dX11_tracks_40 kI_0 ?_
          refine R_ior hc dX11_tracks_41 ?_
          refine R_nmI hw (fun l1_6 hw => ?_)
          refine R_istore_n (i := 1) (v := l1_6) hc [(1, .int l1_6), (0, rf x.w (some l0)), (2, .int l2_13)] dX11_tracks_42 rfl (hnl 1 (le_b rfl)) rfl ?_
          refine R_iinc (q := 2) (i := 2) (v := l2_13) hc [(2, .int (l2_13 + (1 : Int32))), (1, .int l1_6), (0, rf x.w (some l0))] dX11_tracks_43 rfl (kC_1 _) (hnl 2 (le_b rfl)) rfl ?_
          refine R_goto (tgt := 4) hc dX11_tracks_46 (by decide) ?_
          refine R_sub hc [2, 1, 0] rfl ?_
          exact hX (l1_6, l2_13 + (1 : Int32)) (wpO_some hw :)
        · refine R_iconst (v := (1 : Int32)) hc dX11_tracks_29 kI_1 ?_
          refine R_aload_n (q := 0) (i := 0) (v := (some l0)) hc dX11_tracks_30 rfl rfl ?_
          refine R_getR hc fl_11_84 dX11_tracks_31 hw (fun t7 hw => ?_)
          refine R_iload_n (q := 2) (i := 2) (v := l2_13) hc dX11_tracks_34 rfl rfl ?_
          refine R_iaload hc dX11_tracks_35 hw (fun t8 hw => ?_)
          refine R_ishl hc dX11_tracks_36 ?_
          refine R_goto (tgt := 41) hc dX11_tracks_37 (by decide) ?_
          refine R_ior hc dX11_tracks_41 ?_
          refine R_nmI hw (fun l1_9 hw => ?_)
          refine R_istore_n (i := 1) (v := l1_9) hc [(1, .int l1_9), (0, rf x.w (some l0)), (2, .int l2_13)] dX11_tracks_42 rfl (hnl 1 (le_b rfl)) rfl ?_
          refine R_iinc (q := 2) (i := 2) (v := l2_13) hc [(2, .int (l2_13 + (1 : Int32))), (1, .int l1_9), (0, rf x.w (some l0))] dX11_tracks_43 rfl (kC_1 _) (hnl 2 (le_b rfl)) rfl ?_
          refine R_goto (tgt := 4) hc dX11_tracks_46 (by decide) ?_
          refine R_sub hc [2, 1, 0] rfl ?_
          exact hX (l1_9, l2_13 + (1 : Int32)) (wpO_some hw :)
theorem dX11_lost_0 : decode cX11_lost 0 = .ok (.iconst 0, 1) := by decide +kernel
theorem dX11_lost_1 : decode cX11_lost 1 = .ok (.istore_n 1, 1) := by decide +kernel
theorem dX11_lost_2 : decode cX11_lost 2 = .ok (.iconst 0, 1) := by decide +kernel
theorem dX11_lost_3 : decode cX11_lost 3 = .ok (.istore_n 2, 1) := by decide +kernel
theorem dX11_lost_4 : decode cX11_lost 4 = .ok (.iload_n 2, 1) := by decide +kernel
theorem dX11_lost_5 : decode cX11_lost 5 = .ok (.bipush 12, 2) := by decide +kernel
theorem dX11_lost_7 : decode cX11_lost 7 = .ok (.if_icmp .ge 35, 3) := by decide +kernel
theorem dX11_lost_10 : decode cX11_lost 10 = .ok (.iload_n 1, 1) := by decide +kernel
theorem dX11_lost_11 : decode cX11_lost 11 = .ok (.aload_n 0, 1) := by decide +kernel
theorem dX11_lost_12 : decode cX11_lost 12 = .ok (.iload_n 2, 1) := by decide +kernel
theorem dX11_lost_13 : decode cX11_lost 13 = .ok (.invokevirtual 201, 3) := by decide +kernel
theorem dX11_lost_16 : decode cX11_lost 16 = .ok (.ifCond .eq 17, 3) := by decide +kernel
theorem dX11_lost_19 : decode cX11_lost 19 = .ok (.aload_n 0, 1) := by decide +kernel
theorem dX11_lost_20 : decode cX11_lost 20 = .ok (.getfield 84, 3) := by decide +kernel
theorem dX11_lost_23 : decode cX11_lost 23 = .ok (.iload_n 2, 1) := by decide +kernel
theorem dX11_lost_24 : decode cX11_lost 24 = .ok (.iaload, 1) := by decide +kernel
theorem dX11_lost_25 : decode cX11_lost 25 = .ok (.iconst (-1), 1) := by decide +kernel
theorem dX11_lost_26 : decode cX11_lost 26 = .ok (.if_icmp .ne 7, 3) := by decide +kernel
theorem dX11_lost_29 : decode cX11_lost 29 = .ok (.iconst 1, 1) := by decide +kernel
theorem dX11_lost_30 : decode cX11_lost 30 = .ok (.goto 4, 3) := by decide +kernel
theorem dX11_lost_33 : decode cX11_lost 33 = .ok (.iconst 0, 1) := by decide +kernel
theorem dX11_lost_34 : decode cX11_lost 34 = .ok (.iadd, 1) := by decide +kernel
theorem dX11_lost_35 : decode cX11_lost 35 = .ok (.istore_n 1, 1) := by decide +kernel
theorem dX11_lost_36 : decode cX11_lost 36 = .ok (.iinc 2 1, 3) := by decide +kernel
theorem dX11_lost_39 : decode cX11_lost 39 = .ok (.goto (-35), 3) := by decide +kernel
theorem dX11_lost_42 : decode cX11_lost 42 = .ok (.iload_n 1, 1) := by decide +kernel
theorem dX11_lost_43 : decode cX11_lost 43 = .ok (.ireturn, 1) := by decide +kernel
def sX11_lost_L4 (F : Nat) (l0 : Nat) (l1 : Int32) (l2 : Int32) (h : HP) : Option ((Int32 × Int32) ⊕ Int32) :=
  if (12 : Int32) ≤ l2 then
    some (.inr l1)
  else
    (dO h 11 (some l0)).bind fun a1 =>
    (sX11_hasWire F a1 l2 h).bind fun t2 =>
    if t2 = 0 then
      nmI (l1 + (0 : Int32)) fun l1_3 =>
      some (.inl (l1_3, l2 + (1 : Int32)))
    else
      (gR h 11 (some l0) 34).bind fun t4 =>
      (aI h 13 t4 l2).bind fun t5 =>
      if ¬ t5 = (-1 : Int32) then
        nmI (l1 + (0 : Int32)) fun l1_6 =>
        some (.inl (l1_6, l2 + (1 : Int32)))
      else
        nmI (l1 + (1 : Int32)) fun l1_7 =>
        some (.inl (l1_7, l2 + (1 : Int32)))
def sX11_lost (F : Nat) (l0 : Nat) (h : HP) : Option Int32 :=
  (iter (fun s => sX11_lost_L4 F l0 s.1 s.2 h) F ((0 : Int32), (0 : Int32))).bind fun l1_8 =>
    some l1_8
abbrev rm_X11_lost : Room := { frames := 1, cells := 0, slots := 0, locals := 21 }
set_option maxRecDepth 100000 in
set_option maxHeartbeats 4000000 in
theorem mt_X11_lost {w : WD} {l : Launch} {F : Nat} {l0 : Nat} {h : HP} {v : Int32} (hs : sX11_lost F l0 h = some v) : MI w l yX11_lost cX11_lost 3 .int rm_X11_lost 0 0 [rf w (some l0)] h v h := by
  refine of_body [(0, rf w (some l0))] (by decide) (by simp [lg_sl, rf_cat, cat_i, cat_l, cat_a]) (by simp [lv_args, rf_cat, cat_i, cat_l, cat_a]) ?_
  intro x hw_ hnL_ hl_ hc hret hnm hQ
  subst hw_; subst hl_
  have hnl : ∀ i, i < 3 → i < x.nL := fun i h => by rw [hnL_]; exact h
  have hw : wpO (sX11_lost F l0 h) (fun r => r = v) := ⟨_, hs, rfl⟩
  unfold sX11_lost at hw
  refine R_iconst (v := (0 : Int32)) hc dX11_lost_0 kI_0 ?_
  refine R_istore_n (i := 1) (v := (0 : Int32)) hc [(1, .int (0 : Int32)), (0, rf x.w (some l0))] dX11_lost_1 rfl (hnl 1 (le_b rfl)) rfl ?_
  refine R_iconst (v := (0 : Int32)) hc dX11_lost_2 kI_0 ?_
  refine R_istore_n (i := 2) (v := (0 : Int32)) hc [(2, .int (0 : Int32)), (1, .int (0 : Int32)), (0, rf x.w (some l0))] dX11_lost_3 rfl (hnl 2 (le_b rfl)) rfl ?_
  refine R_sub hc [2, 1, 0] rfl ?_
  refine R_loop (P := fun (s : (Int32 × Int32)) => Rn x 0 0 4 [(0, rf x.w (some l0)), (1, .int s.1), (2, .int s.2)] [] h) (fun l1_8 => Rn x 0 0 42 [(1, .int l1_8)] [] h) hw (fun r hw => ?_) (fun X hX s hw => ?_)
  · revert r hw
    intro l1_8 hw
    show Rn x 0 0 42 [(1, .int l1_8)] [] h
    refine R_iload_n (q := 0) (i := 1) (v := l1_8) hc dX11_lost_42 rfl rfl ?_
    exact R_ireturnP hc hret rfl hQ hw dX11_lost_43
  · obtain ⟨l1_10, l2_11⟩ := s
    show Rn x 0 0 4 [(0, rf x.w (some l0)), (1, .int l1_10), (2, .int l2_11)] [] h
    have hw : wpO (sX11_lost_L4 F l0 l1_10 l2_11 h) _ := hw
    unfold sX11_lost_L4 at hw
    refine R_iload_n (q := 2) (i := 2) (v := l2_11) hc dX11_lost_4 rfl rfl ?_
    refine R_bipush (v := (12 : Int32)) hc dX11_lost_5 kB_12 ?_
    refine R_icmp_ge (tgt := 42) hc dX11_lost_7 (by decide) hw (fun hw => ?_) (fun hw => ?_)
    · refine R_sub hc [1] rfl ?_
      exact (wpO_some hw :)
    · refine R_iload_n (q := 1) (i := 1) (v := l1_10) hc dX11_lost_10 rfl rfl ?_
      refine R_aload_n (q := 0) (i := 0) (v := (some l0)) hc dX11_lost_11 rfl rfl ?_
      refine R_iload_n (q := 2) (i := 2) (v := l2_11) hc dX11_lost_12 rfl rfl ?_
      refine R_cVI (As := [.int l2_11]) (rest := [.int l1_10]) (r := (some l0)) (ci := 11) hc ml_11_201 mf_X11_hasWire rfl (by decide) ⟨rfl, rfl⟩ ⟨le_b rfl, le_b rfl⟩ ⟨Nat.zero_le _, Nat.zero_le _⟩ (fun a v e => mt_X11_hasWire e) rfl rfl (le_b rfl) dX11_lost_13 hw (fun t2 hw => ?_)
      refine R_if_eq (tgt := 33) hc dX11_lost_16 (by decide) hw (fun hw => ?_) (fun hw => ?_)
      · refine R_iconst (v := (0 : Int32)) hc dX11_lost_33 kI_0 ?_
        refine R_iadd hc dX11_lost_34 ?_
        refine R_nmI hw (fun l1_3 hw => ?_)
        refine R_istore_n (i := 1) (v := l1_3) hc [(1, .int l1_3), (0, rf x.w (some l0)), (2, .int l2_11)] dX11_lost_35 rfl (hnl 1 (le_b rfl)) rfl ?_
        refine R_iinc (q := 2) (i := 2) (v := l2_11) hc [(2, .int (l2_11 + (1 : Int32))), (1, .int l1_3), (0, rf x.w (some l0))] dX11_lost_36 rfl (kC_1 _) (hnl 2 (le_b rfl)) rfl ?_
        refine R_goto (tgt := 4) hc dX11_lost_39 (by decide) ?_
        refine R_sub hc [2, 1, 0] rfl ?_
        exact hX (l1_3, l2_11 + (1 : Int32)) (wpO_some hw :)
      · refine R_aload_n (q := 0) (i := 0) (v := (some l0)) hc dX11_lost_19 rfl rfl ?_
        refine R_getR hc fl_11_84 dX11_lost_20 hw (fun t4 hw => ?_)
        refine R_iload_n (q := 2) (i := 2) (v := l2_11) hc dX11_lost_23 rfl rfl ?_
        refine R_iaload hc dX11_lost_24 hw (fun t5 hw => ?_)
        refine R_iconst (v := (-1 : Int32)) hc dX11_lost_25 kI_m1 ?_
        refine R_icmp_ne (tgt := 33) hc dX11_lost_26 (by decide) hw (fun hw => ?_) (fun hw => ?_)
        · refine R_iconst (v := (0 : Int32)) hc dX11_lost_33 kI_0 ?_
          refine R_iadd hc dX11_lost_34 ?_
          refine R_nmI hw (fun l1_6 hw => ?_)
          refine R_istore_n (i := 1) (v := l1_6) hc [(1, .int l1_6), (0, rf x.w (some l0)), (2, .int l2_11)] dX11_lost_35 rfl (hnl 1 (le_b rfl)) rfl ?_
          refine R_iinc (q := 2) (i := 2) (v := l2_11) hc [(2, .int (l2_11 + (1 : Int32))), (1, .int l1_6), (0, rf x.w (some l0))] dX11_lost_36 rfl (kC_1 _) (hnl 2 (le_b rfl)) rfl ?_
          refine R_goto (tgt := 4) hc dX11_lost_39 (by decide) ?_
          refine R_sub hc [2, 1, 0] rfl ?_
          exact hX (l1_6, l2_11 + (1 : Int32)) (wpO_some hw :)
        · refine R_iconst (v := (1 : Int32)) hc dX11_lost_29 kI_1 ?_
          refine R_goto (tgt := 34) hc dX11_lost_30 (by decide) ?_
          refine R_iadd hc dX11_lost_34 ?_
          refine R_nmI hw (fun l1_7 hw => ?_)
          refine R_istore_n (i := 1) (v := l1_7) hc [(1, .int l1_7), (0, rf x.w (some l0)), (2, .int l2_11)] dX11_lost_35 rfl (hnl 1 (le_b rfl)) rfl ?_
          refine R_iinc (q := 2) (i := 2) (v := l2_11) hc [(2, .int (l2_11 + (1 : Int32))), (1, .int l1_7), (0, rf x.w (some l0))] dX11_lost_36 rfl (kC_1 _) (hnl 2 (le_b rfl)) rfl ?_
          refine R_goto (tgt := 4) hc dX11_lost_39 (by decide) ?_
          refine R_sub hc [2, 1, 0] rfl ?_
          exact hX (l1_7, l2_11 + (1 : Int32)) (wpO_some hw :)
theorem dX11_length_0 : decode cX11_length 0 = .ok (.iconst 0, 1) := by decide +kernel
theorem dX11_length_1 : decode cX11_length 1 = .ok (.istore_n 1, 1) := by decide +kernel
theorem dX11_length_2 : decode cX11_length 2 = .ok (.iconst 0, 1) := by decide +kernel
theorem dX11_length_3 : decode cX11_length 3 = .ok (.istore_n 2, 1) := by decide +kernel
theorem dX11_length_4 : decode cX11_length 4 = .ok (.iload_n 2, 1) := by decide +kernel
theorem dX11_length_5 : decode cX11_length 5 = .ok (.bipush 12, 2) := by decide +kernel
theorem dX11_length_7 : decode cX11_length 7 = .ok (.if_icmp .ge 37, 3) := by decide +kernel
theorem dX11_length_10 : decode cX11_length 10 = .ok (.iload_n 1, 1) := by decide +kernel
theorem dX11_length_11 : decode cX11_length 11 = .ok (.aload_n 0, 1) := by decide +kernel
theorem dX11_length_12 : decode cX11_length 12 = .ok (.iload_n 2, 1) := by decide +kernel
theorem dX11_length_13 : decode cX11_length 13 = .ok (.invokevirtual 201, 3) := by decide +kernel
theorem dX11_length_16 : decode cX11_length 16 = .ok (.ifCond .eq 19, 3) := by decide +kernel
theorem dX11_length_19 : decode cX11_length 19 = .ok (.aload_n 0, 1) := by decide +kernel
theorem dX11_length_20 : decode cX11_length 20 = .ok (.getfield 81, 3) := by decide +kernel
theorem dX11_length_23 : decode cX11_length 23 = .ok (.iload_n 2, 1) := by decide +kernel
theorem dX11_length_24 : decode cX11_length 24 = .ok (.iaload, 1) := by decide +kernel
theorem dX11_length_25 : decode cX11_length 25 = .ok (.aload_n 0, 1) := by decide +kernel
theorem dX11_length_26 : decode cX11_length 26 = .ok (.getfield 78, 3) := by decide +kernel
theorem dX11_length_29 : decode cX11_length 29 = .ok (.iload_n 2, 1) := by decide +kernel
theorem dX11_length_30 : decode cX11_length 30 = .ok (.iaload, 1) := by decide +kernel
theorem dX11_length_31 : decode cX11_length 31 = .ok (.isub, 1) := by decide +kernel
theorem dX11_length_32 : decode cX11_length 32 = .ok (.goto 4, 3) := by decide +kernel
theorem dX11_length_35 : decode cX11_length 35 = .ok (.iconst 0, 1) := by decide +kernel
theorem dX11_length_36 : decode cX11_length 36 = .ok (.iadd, 1) := by decide +kernel
theorem dX11_length_37 : decode cX11_length 37 = .ok (.istore_n 1, 1) := by decide +kernel
theorem dX11_length_38 : decode cX11_length 38 = .ok (.iinc 2 1, 3) := by decide +kernel
theorem dX11_length_41 : decode cX11_length 41 = .ok (.goto (-37), 3) := by decide +kernel
theorem dX11_length_44 : decode cX11_length 44 = .ok (.iload_n 1, 1) := by decide +kernel
theorem dX11_length_45 : decode cX11_length 45 = .ok (.ireturn, 1) := by decide +kernel
def sX11_length_L4 (F : Nat) (l0 : Nat) (l1 : Int32) (l2 : Int32) (h : HP) : Option ((Int32 × Int32) ⊕ Int32) :=
  if (12 : Int32) ≤ l2 then
    some (.inr l1)
  else
    (dO h 11 (some l0)).bind fun a1 =>
    (sX11_hasWire F a1 l2 h).bind fun t2 =>
    if t2 = 0 then
      nmI (l1 + (0 : Int32)) fun l1_3 =>
      some (.inl (l1_3, l2 + (1 : Int32)))
    else
      (gR h 11 (some l0) 33).bind fun t4 =>
      (aI h 13 t4 l2).bind fun t5 =>
      (gR h 11 (some l0) 32).bind fun t6 =>
      (aI h 13 t6 l2).bind fun t7 =>
      nmI (l1 + (t5 - t7)) fun l1_8 =>
      some (.inl (l1_8, l2 + (1 : Int32)))
def sX11_length (F : Nat) (l0 : Nat) (h : HP) : Option Int32 :=
  (iter (fun s => sX11_length_L4 F l0 s.1 s.2 h) F ((0 : Int32), (0 : Int32))).bind fun l1_9 =>
    some l1_9
abbrev rm_X11_length : Room := { frames := 1, cells := 0, slots := 0, locals := 21 }
set_option maxRecDepth 100000 in
set_option maxHeartbeats 4000000 in
theorem mt_X11_length {w : WD} {l : Launch} {F : Nat} {l0 : Nat} {h : HP} {v : Int32} (hs : sX11_length F l0 h = some v) : MI w l yX11_length cX11_length 3 .int rm_X11_length 0 0 [rf w (some l0)] h v h := by
  refine of_body [(0, rf w (some l0))] (by decide) (by simp [lg_sl, rf_cat, cat_i, cat_l, cat_a]) (by simp [lv_args, rf_cat, cat_i, cat_l, cat_a]) ?_
  intro x hw_ hnL_ hl_ hc hret hnm hQ
  subst hw_; subst hl_
  have hnl : ∀ i, i < 3 → i < x.nL := fun i h => by rw [hnL_]; exact h
  have hw : wpO (sX11_length F l0 h) (fun r => r = v) := ⟨_, hs, rfl⟩
  unfold sX11_length at hw
  refine R_iconst (v := (0 : Int32)) hc dX11_length_0 kI_0 ?_
  refine R_istore_n (i := 1) (v := (0 : Int32)) hc [(1, .int (0 : Int32)), (0, rf x.w (some l0))] dX11_length_1 rfl (hnl 1 (le_b rfl)) rfl ?_
  refine R_iconst (v := (0 : Int32)) hc dX11_length_2 kI_0 ?_
  refine R_istore_n (i := 2) (v := (0 : Int32)) hc [(2, .int (0 : Int32)), (1, .int (0 : Int32)), (0, rf x.w (some l0))] dX11_length_3 rfl (hnl 2 (le_b rfl)) rfl ?_
  refine R_sub hc [2, 1, 0] rfl ?_
  refine R_loop (P := fun (s : (Int32 × Int32)) => Rn x 0 0 4 [(0, rf x.w (some l0)), (1, .int s.1), (2, .int s.2)] [] h) (fun l1_9 => Rn x 0 0 44 [(1, .int l1_9)] [] h) hw (fun r hw => ?_) (fun X hX s hw => ?_)
  · revert r hw
    intro l1_9 hw
    show Rn x 0 0 44 [(1, .int l1_9)] [] h
    refine R_iload_n (q := 0) (i := 1) (v := l1_9) hc dX11_length_44 rfl rfl ?_
    exact R_ireturnP hc hret rfl hQ hw dX11_length_45
  · obtain ⟨l1_11, l2_12⟩ := s
    show Rn x 0 0 4 [(0, rf x.w (some l0)), (1, .int l1_11), (2, .int l2_12)] [] h
    have hw : wpO (sX11_length_L4 F l0 l1_11 l2_12 h) _ := hw
    unfold sX11_length_L4 at hw
    refine R_iload_n (q := 2) (i := 2) (v := l2_12) hc dX11_length_4 rfl rfl ?_
    refine R_bipush (v := (12 : Int32)) hc dX11_length_5 kB_12 ?_
    refine R_icmp_ge (tgt := 44) hc dX11_length_7 (by decide) hw (fun hw => ?_) (fun hw => ?_)
    · refine R_sub hc [1] rfl ?_
      exact (wpO_some hw :)
    · refine R_iload_n (q := 1) (i := 1) (v := l1_11) hc dX11_length_10 rfl rfl ?_
      refine R_aload_n (q := 0) (i := 0) (v := (some l0)) hc dX11_length_11 rfl rfl ?_
      refine R_iload_n (q := 2) (i := 2) (v := l2_12) hc dX11_length_12 rfl rfl ?_
      refine R_cVI (As := [.int l2_12]) (rest := [.int l1_11]) (r := (some l0)) (ci := 11) hc ml_11_201 mf_X11_hasWire rfl (by decide) ⟨rfl, rfl⟩ ⟨le_b rfl, le_b rfl⟩ ⟨Nat.zero_le _, Nat.zero_le _⟩ (fun a v e => mt_X11_hasWire e) rfl rfl (le_b rfl) dX11_length_13 hw (fun t2 hw => ?_)
      refine R_if_eq (tgt := 35) hc dX11_length_16 (by decide) hw (fun hw => ?_) (fun hw => ?_)
      · refine R_iconst (v := (0 : Int32)) hc dX11_length_35 kI_0 ?_
        refine R_iadd hc dX11_length_36 ?_
        refine R_nmI hw (fun l1_3 hw => ?_)
        refine R_istore_n (i := 1) (v := l1_3) hc [(1, .int l1_3), (0, rf x.w (some l0)), (2, .int l2_12)] dX11_length_37 rfl (hnl 1 (le_b rfl)) rfl ?_
        refine R_iinc (q := 2) (i := 2) (v := l2_12) hc [(2, .int (l2_12 + (1 : Int32))), (1, .int l1_3), (0, rf x.w (some l0))] dX11_length_38 rfl (kC_1 _) (hnl 2 (le_b rfl)) rfl ?_
        refine R_goto (tgt := 4) hc dX11_length_41 (by decide) ?_
        refine R_sub hc [2, 1, 0] rfl ?_
        exact hX (l1_3, l2_12 + (1 : Int32)) (wpO_some hw :)
      · refine R_aload_n (q := 0) (i := 0) (v := (some l0)) hc dX11_length_19 rfl rfl ?_
        refine R_getR hc fl_11_81 dX11_length_20 hw (fun t4 hw => ?_)
        refine R_iload_n (q := 2) (i := 2) (v := l2_12) hc dX11_length_23 rfl rfl ?_
        refine R_iaload hc dX11_length_24 hw (fun t5 hw => ?_)
        refine R_aload_n (q := 0) (i := 0) (v := (some l0)) hc dX11_length_25 rfl rfl ?_
        refine R_getR hc fl_11_78 dX11_length_26 hw (fun t6 hw => ?_)
        refine R_iload_n (q := 2) (i := 2) (v := l2_12) hc dX11_length_29 rfl rfl ?_
        refine R_iaload hc dX11_length_30 hw (fun t7 hw => ?_)
        refine R_isub hc dX11_length_31 ?_
        refine R_goto (tgt := 36) hc dX11_length_32 (by decide) ?_
        refine R_iadd hc dX11_length_36 ?_
        refine R_nmI hw (fun l1_8 hw => ?_)
        refine R_istore_n (i := 1) (v := l1_8) hc [(1, .int l1_8), (0, rf x.w (some l0)), (2, .int l2_12)] dX11_length_37 rfl (hnl 1 (le_b rfl)) rfl ?_
        refine R_iinc (q := 2) (i := 2) (v := l2_12) hc [(2, .int (l2_12 + (1 : Int32))), (1, .int l1_8), (0, rf x.w (some l0))] dX11_length_38 rfl (kC_1 _) (hnl 2 (le_b rfl)) rfl ?_
        refine R_goto (tgt := 4) hc dX11_length_41 (by decide) ?_
        refine R_sub hc [2, 1, 0] rfl ?_
        exact hX (l1_8, l2_12 + (1 : Int32)) (wpO_some hw :)
theorem dX11_isSame_0 : decode cX11_isSame 0 = .ok (.iconst 0, 1) := by decide +kernel
theorem dX11_isSame_1 : decode cX11_isSame 1 = .ok (.istore_n 1, 1) := by decide +kernel
theorem dX11_isSame_2 : decode cX11_isSame 2 = .ok (.iload_n 1, 1) := by decide +kernel
theorem dX11_isSame_3 : decode cX11_isSame 3 = .ok (.aload_n 0, 1) := by decide +kernel
theorem dX11_isSame_4 : decode cX11_isSame 4 = .ok (.getfield 166, 3) := by decide +kernel
theorem dX11_isSame_7 : decode cX11_isSame 7 = .ok (.if_icmp .ge 65, 3) := by decide +kernel
theorem dX11_isSame_10 : decode cX11_isSame 10 = .ok (.aload_n 0, 1) := by decide +kernel
theorem dX11_isSame_11 : decode cX11_isSame 11 = .ok (.getfield 166, 3) := by decide +kernel
theorem dX11_isSame_14 : decode cX11_isSame 14 = .ok (.iconst 1, 1) := by decide +kernel
theorem dX11_isSame_15 : decode cX11_isSame 15 = .ok (.isub, 1) := by decide +kernel
theorem dX11_isSame_16 : decode cX11_isSame 16 = .ok (.iload_n 1, 1) := by decide +kernel
theorem dX11_isSame_17 : decode cX11_isSame 17 = .ok (.isub, 1) := by decide +kernel
theorem dX11_isSame_18 : decode cX11_isSame 18 = .ok (.istore_n 2, 1) := by decide +kernel
theorem dX11_isSame_19 : decode cX11_isSame 19 = .ok (.aload_n 0, 1) := by decide +kernel
theorem dX11_isSame_20 : decode cX11_isSame 20 = .ok (.getfield 54, 3) := by decide +kernel
theorem dX11_isSame_23 : decode cX11_isSame 23 = .ok (.iload_n 1, 1) := by decide +kernel
theorem dX11_isSame_24 : decode cX11_isSame 24 = .ok (.iaload, 1) := by decide +kernel
theorem dX11_isSame_25 : decode cX11_isSame 25 = .ok (.aload_n 0, 1) := by decide +kernel
theorem dX11_isSame_26 : decode cX11_isSame 26 = .ok (.getfield 54, 3) := by decide +kernel
theorem dX11_isSame_29 : decode cX11_isSame 29 = .ok (.iload_n 2, 1) := by decide +kernel
theorem dX11_isSame_30 : decode cX11_isSame 30 = .ok (.iaload, 1) := by decide +kernel
theorem dX11_isSame_31 : decode cX11_isSame 31 = .ok (.if_icmp .ne 33, 3) := by decide +kernel
theorem dX11_isSame_34 : decode cX11_isSame 34 = .ok (.aload_n 0, 1) := by decide +kernel
theorem dX11_isSame_35 : decode cX11_isSame 35 = .ok (.getfield 57, 3) := by decide +kernel
theorem dX11_isSame_38 : decode cX11_isSame 38 = .ok (.iload_n 1, 1) := by decide +kernel
theorem dX11_isSame_39 : decode cX11_isSame 39 = .ok (.iaload, 1) := by decide +kernel
theorem dX11_isSame_40 : decode cX11_isSame 40 = .ok (.aload_n 0, 1) := by decide +kernel
theorem dX11_isSame_41 : decode cX11_isSame 41 = .ok (.getfield 57, 3) := by decide +kernel
theorem dX11_isSame_44 : decode cX11_isSame 44 = .ok (.iload_n 2, 1) := by decide +kernel
theorem dX11_isSame_45 : decode cX11_isSame 45 = .ok (.iaload, 1) := by decide +kernel
theorem dX11_isSame_46 : decode cX11_isSame 46 = .ok (.if_icmp .ne 18, 3) := by decide +kernel
theorem dX11_isSame_49 : decode cX11_isSame 49 = .ok (.aload_n 0, 1) := by decide +kernel
theorem dX11_isSame_50 : decode cX11_isSame 50 = .ok (.getfield 60, 3) := by decide +kernel
theorem dX11_isSame_53 : decode cX11_isSame 53 = .ok (.iload_n 1, 1) := by decide +kernel
theorem dX11_isSame_54 : decode cX11_isSame 54 = .ok (.iaload, 1) := by decide +kernel
theorem dX11_isSame_55 : decode cX11_isSame 55 = .ok (.aload_n 0, 1) := by decide +kernel
theorem dX11_isSame_56 : decode cX11_isSame 56 = .ok (.getfield 60, 3) := by decide +kernel
theorem dX11_isSame_59 : decode cX11_isSame 59 = .ok (.iload_n 2, 1) := by decide +kernel
theorem dX11_isSame_60 : decode cX11_isSame 60 = .ok (.iaload, 1) := by decide +kernel
theorem dX11_isSame_61 : decode cX11_isSame 61 = .ok (.if_icmp .eq 5, 3) := by decide +kernel
theorem dX11_isSame_64 : decode cX11_isSame 64 = .ok (.iconst 0, 1) := by decide +kernel
theorem dX11_isSame_65 : decode cX11_isSame 65 = .ok (.ireturn, 1) := by decide +kernel
theorem dX11_isSame_66 : decode cX11_isSame 66 = .ok (.iinc 1 1, 3) := by decide +kernel
theorem dX11_isSame_69 : decode cX11_isSame 69 = .ok (.goto (-67), 3) := by decide +kernel
theorem dX11_isSame_72 : decode cX11_isSame 72 = .ok (.iconst 1, 1) := by decide +kernel
theorem dX11_isSame_73 : decode cX11_isSame 73 = .ok (.ireturn, 1) := by decide +kernel
def sX11_isSame_L2 (F : Nat) (l0 : Nat) (l1 : Int32) (h : HP) : Option (Int32 ⊕ (Unit ⊕ Int32)) :=
  (gI h 11 (some l0) 27).bind fun t1 =>
  if t1 ≤ l1 then
    some (.inr (.inl ()))
  else
    (gI h 11 (some l0) 27).bind fun t2 =>
    nmI ((t2 - (1 : Int32)) - l1) fun l2_3 =>
    (gR h 11 (some l0) 23).bind fun t4 =>
    (aI h 13 t4 l1).bind fun t5 =>
    (gR h 11 (some l0) 23).bind fun t6 =>
    (aI h 13 t6 l2_3).bind fun t7 =>
    if ¬ t5 = t7 then
      some (.inr (.inr (0 : Int32)))
    else
      (gR h 11 (some l0) 24).bind fun t8 =>
      (aI h 13 t8 l1).bind fun t9 =>
      (gR h 11 (some l0) 24).bind fun t10 =>
      (aI h 13 t10 l2_3).bind fun t11 =>
      if ¬ t9 = t11 then
        some (.inr (.inr (0 : Int32)))
      else
        (gR h 11 (some l0) 25).bind fun t12 =>
        (aI h 13 t12 l1).bind fun t13 =>
        (gR h 11 (some l0) 25).bind fun t14 =>
        (aI h 13 t14 l2_3).bind fun t15 =>
        if t13 = t15 then
          some (.inl (l1 + (1 : Int32)))
        else
          some (.inr (.inr (0 : Int32)))
def sX11_isSame (F : Nat) (l0 : Nat) (h : HP) : Option Int32 :=
  (iter (fun s => sX11_isSame_L2 F l0 s h) F (0 : Int32)).bind fun r => match r with
  | .inl _ =>
    some (1 : Int32)
  | .inr u16 => some u16
abbrev rm_X11_isSame : Room := { frames := 0, cells := 0, slots := 0, locals := 0 }
set_option maxRecDepth 100000 in
set_option maxHeartbeats 4000000 in
theorem mt_X11_isSame {w : WD} {l : Launch} {F : Nat} {l0 : Nat} {h : HP} {v : Int32} (hs : sX11_isSame F l0 h = some v) : MI w l yX11_isSame cX11_isSame 3 .boolean rm_X11_isSame 0 0 [rf w (some l0)] h v h := by
  refine of_body [(0, rf w (some l0))] (by decide) (by simp [lg_sl, rf_cat, cat_i, cat_l, cat_a]) (by simp [lv_args, rf_cat, cat_i, cat_l, cat_a]) ?_
  intro x hw_ hnL_ hl_ hc hret hnm hQ
  subst hw_; subst hl_
  have hnl : ∀ i, i < 3 → i < x.nL := fun i h => by rw [hnL_]; exact h
  have hw : wpO (sX11_isSame F l0 h) (fun r => r = v) := ⟨_, hs, rfl⟩
  unfold sX11_isSame at hw
  refine R_iconst (v := (0 : Int32)) hc dX11_isSame_0 kI_0 ?_
  refine R_istore_n (i := 1) (v := (0 : Int32)) hc [(1, .int (0 : Int32)), (0, rf x.w (some l0))] dX11_isSame_1 rfl (hnl 1 (le_b rfl)) rfl ?_
  refine R_sub hc [1, 0] rfl ?_
  refine R_loop (P := fun (s : Int32) => Rn x 0 0 2 [(0, rf x.w (some l0)), (1, .int s)] [] h) (fun r => match r with | .inl _ => Rn x 0 0 72 [] [] h | .inr u => u = v) hw (fun r hw => ?_) (fun X hX s hw => ?_)
  · cases r with
    | inl r =>
      revert hw
      intro hw
      show Rn x 0 0 72 [] [] h
      have hw : wpO (_) _ := hw
      refine R_iconst (v := (1 : Int32)) hc dX11_isSame_72 kI_1 ?_
      exact R_ireturnP hc hret rfl hQ hw dX11_isSame_73
    | inr u => exact (wpO_some hw :)
  · revert s hw
    intro l1_17 hw
    show Rn x 0 0 2 [(0, rf x.w (some l0)), (1, .int l1_17)] [] h
    have hw : wpO (sX11_isSame_L2 F l0 l1_17 h) _ := hw
    unfold sX11_isSame_L2 at hw
    refine R_iload_n (q := 1) (i := 1) (v := l1_17) hc dX11_isSame_2 rfl rfl ?_
    refine R_aload_n (q := 0) (i := 0) (v := (some l0)) hc dX11_isSame_3 rfl rfl ?_
    refine R_getI hc fl_11_166 dX11_isSame_4 hw (fun t1 hw => ?_)
    refine R_icmp_ge (tgt := 72) hc dX11_isSame_7 (by decide) hw (fun hw => ?_) (fun hw => ?_)
    · refine R_sub hc [] rfl ?_
      exact (wpO_some hw :)
    · refine R_aload_n (q := 0) (i := 0) (v := (some l0)) hc dX11_isSame_10 rfl rfl ?_
      refine R_getI hc fl_11_166 dX11_isSame_11 hw (fun t2 hw => ?_)
      refine R_iconst (v := (1 : Int32)) hc dX11_isSame_14 kI_1 ?_
      refine R_isub hc dX11_isSame_15 ?_
      refine R_iload_n (q := 1) (i := 1) (v := l1_17) hc dX11_isSame_16 rfl rfl ?_
      refine R_isub hc dX11_isSame_17 ?_
      refine R_nmI hw (fun l2_3 hw => ?_)
      refine R_istore_n (i := 2) (v := l2_3) hc [(2, .int l2_3), (0, rf x.w (some l0)), (1, .int l1_17)] dX11_isSame_18 rfl (hnl 2 (le_b rfl)) rfl ?_
      refine R_aload_n (q := 1) (i := 0) (v := (some l0)) hc dX11_isSame_19 rfl rfl ?_
      refine R_getR hc fl_11_54 dX11_isSame_20 hw (fun t4 hw => ?_)
      refine R_iload_n (q := 2) (i := 1) (v := l1_17) hc dX11_isSame_23 rfl rfl ?_
      refine R_iaload hc dX11_isSame_24 hw (fun t5 hw => ?_)
      refine R_aload_n (q := 1) (i := 0) (v := (some l0)) hc dX11_isSame_25 rfl rfl ?_
      refine R_getR hc fl_11_54 dX11_isSame_26 hw (fun t6 hw => ?_)
      refine R_iload_n (q := 0) (i := 2) (v := l2_3) hc dX11_isSame_29 rfl rfl ?_
      refine R_iaload hc dX11_isSame_30 hw (fun t7 hw => ?_)
      refine R_icmp_ne (tgt := 64) hc dX11_isSame_31 (by decide) hw (fun hw => ?_) (fun hw => ?_)
      · refine R_iconst (v := (0 : Int32)) hc dX11_isSame_64 kI_0 ?_
        exact R_ireturnP hc hret rfl hQ ⟨_, rfl, (wpO_some hw :)⟩ dX11_isSame_65
      · refine R_aload_n (q := 1) (i := 0) (v := (some l0)) hc dX11_isSame_34 rfl rfl ?_
        refine R_getR hc fl_11_57 dX11_isSame_35 hw (fun t8 hw => ?_)
        refine R_iload_n (q := 2) (i := 1) (v := l1_17) hc dX11_isSame_38 rfl rfl ?_
        refine R_iaload hc dX11_isSame_39 hw (fun t9 hw => ?_)
        refine R_aload_n (q := 1) (i := 0) (v := (some l0)) hc dX11_isSame_40 rfl rfl ?_
        refine R_getR hc fl_11_57 dX11_isSame_41 hw (fun t10 hw => ?_)
        refine R_iload_n (q := 0) (i := 2) (v := l2_3) hc dX11_isSame_44 rfl rfl ?_
        refine R_iaload hc dX11_isSame_45 hw (fun t11 hw => ?_)
        refine R_icmp_ne (tgt := 64) hc dX11_isSame_46 (by decide) hw (fun hw => ?_) (fun hw => ?_)
        · refine R_iconst (v := (0 : Int32)) hc dX11_isSame_64 kI_0 ?_
          exact R_ireturnP hc hret rfl hQ ⟨_, rfl, (wpO_some hw :)⟩ dX11_isSame_65
        · refine R_aload_n (q := 1) (i := 0) (v := (some l0)) hc dX11_isSame_49 rfl rfl ?_
          refine R_getR hc fl_11_60 dX11_isSame_50 hw (fun t12 hw => ?_)
          refine R_iload_n (q := 2) (i := 1) (v := l1_17) hc dX11_isSame_53 rfl rfl ?_
          refine R_iaload hc dX11_isSame_54 hw (fun t13 hw => ?_)
          refine R_aload_n (q := 1) (i := 0) (v := (some l0)) hc dX11_isSame_55 rfl rfl ?_
          refine R_getR hc fl_11_60 dX11_isSame_56 hw (fun t14 hw => ?_)
          refine R_iload_n (q := 0) (i := 2) (v := l2_3) hc dX11_isSame_59 rfl rfl ?_
          refine R_iaload hc dX11_isSame_60 hw (fun t15 hw => ?_)
          refine R_icmp_eq (tgt := 66) hc dX11_isSame_61 (by decide) hw (fun hw => ?_) (fun hw => ?_)
          · refine R_iinc (q := 2) (i := 1) (v := l1_17) hc [(1, .int (l1_17 + (1 : Int32))), (2, .int l2_3), (0, rf x.w (some l0))] dX11_isSame_66 rfl (kC_1 _) (hnl 1 (le_b rfl)) rfl ?_
            refine R_goto (tgt := 2) hc dX11_isSame_69 (by decide) ?_
            refine R_sub hc [2, 0] rfl ?_
            exact hX (l1_17 + (1 : Int32)) (wpO_some hw :)
          · refine R_iconst (v := (0 : Int32)) hc dX11_isSame_64 kI_0 ?_
            exact R_ireturnP hc hret rfl hQ ⟨_, rfl, (wpO_some hw :)⟩ dX11_isSame_65
theorem dX11_feed_0 : decode cX11_feed 0 = .ok (.aload_n 0, 1) := by decide +kernel
theorem dX11_feed_1 : decode cX11_feed 1 = .ok (.iconst 0, 1) := by decide +kernel
theorem dX11_feed_2 : decode cX11_feed 2 = .ok (.putfield 100, 3) := by decide +kernel
theorem dX11_feed_5 : decode cX11_feed 5 = .ok (.aload_n 0, 1) := by decide +kernel
theorem dX11_feed_6 : decode cX11_feed 6 = .ok (.getfield 223, 3) := by decide +kernel
theorem dX11_feed_9 : decode cX11_feed 9 = .ok (.bipush 20, 2) := by decide +kernel
theorem dX11_feed_11 : decode cX11_feed 11 = .ok (.iadd, 1) := by decide +kernel
theorem dX11_feed_12 : decode cX11_feed 12 = .ok (.sipush 400, 3) := by decide +kernel
theorem dX11_feed_15 : decode cX11_feed 15 = .ok (.if_icmp .le 5, 3) := by decide +kernel
theorem dX11_feed_18 : decode cX11_feed 18 = .ok (.iconst (-1), 1) := by decide +kernel
theorem dX11_feed_19 : decode cX11_feed 19 = .ok (.ireturn, 1) := by decide +kernel
theorem dX11_feed_20 : decode cX11_feed 20 = .ok (.iconst 0, 1) := by decide +kernel
theorem dX11_feed_21 : decode cX11_feed 21 = .ok (.istore 6, 2) := by decide +kernel
theorem dX11_feed_23 : decode cX11_feed 23 = .ok (.iload 6, 2) := by decide +kernel
theorem dX11_feed_25 : decode cX11_feed 25 = .ok (.bipush 20, 2) := by decide +kernel
theorem dX11_feed_27 : decode cX11_feed 27 = .ok (.if_icmp .ge 93, 3) := by decide +kernel
theorem dX11_feed_30 : decode cX11_feed 30 = .ok (.iload 6, 2) := by decide +kernel
theorem dX11_feed_32 : decode cX11_feed 32 = .ok (.iconst 4, 1) := by decide +kernel
theorem dX11_feed_33 : decode cX11_feed 33 = .ok (.if_icmp .ge 7, 3) := by decide +kernel
theorem dX11_feed_36 : decode cX11_feed 36 = .ok (.iload_n 1, 1) := by decide +kernel
theorem dX11_feed_37 : decode cX11_feed 37 = .ok (.goto 39, 3) := by decide +kernel
theorem dX11_feed_40 : decode cX11_feed 40 = .ok (.iload 6, 2) := by decide +kernel
theorem dX11_feed_42 : decode cX11_feed 42 = .ok (.bipush 8, 2) := by decide +kernel
theorem dX11_feed_44 : decode cX11_feed 44 = .ok (.if_icmp .ge 7, 3) := by decide +kernel
theorem dX11_feed_47 : decode cX11_feed 47 = .ok (.iload_n 2, 1) := by decide +kernel
theorem dX11_feed_48 : decode cX11_feed 48 = .ok (.goto 28, 3) := by decide +kernel
theorem dX11_feed_51 : decode cX11_feed 51 = .ok (.iload 6, 2) := by decide +kernel
theorem dX11_feed_53 : decode cX11_feed 53 = .ok (.bipush 12, 2) := by decide +kernel
theorem dX11_feed_55 : decode cX11_feed 55 = .ok (.if_icmp .ge 7, 3) := by decide +kernel
theorem dX11_feed_58 : decode cX11_feed 58 = .ok (.iload_n 3, 1) := by decide +kernel
theorem dX11_feed_59 : decode cX11_feed 59 = .ok (.goto 17, 3) := by decide +kernel
theorem dX11_feed_62 : decode cX11_feed 62 = .ok (.iload 6, 2) := by decide +kernel
theorem dX11_feed_64 : decode cX11_feed 64 = .ok (.bipush 16, 2) := by decide +kernel
theorem dX11_feed_66 : decode cX11_feed 66 = .ok (.if_icmp .ge 8, 3) := by decide +kernel
theorem dX11_feed_69 : decode cX11_feed 69 = .ok (.iload 4, 2) := by decide +kernel
theorem dX11_feed_71 : decode cX11_feed 71 = .ok (.goto 5, 3) := by decide +kernel
theorem dX11_feed_74 : decode cX11_feed 74 = .ok (.iload 5, 2) := by decide +kernel
theorem dX11_feed_76 : decode cX11_feed 76 = .ok (.istore 7, 2) := by decide +kernel
theorem dX11_feed_78 : decode cX11_feed 78 = .ok (.aload_n 0, 1) := by decide +kernel
theorem dX11_feed_79 : decode cX11_feed 79 = .ok (.getfield 19, 3) := by decide +kernel
theorem dX11_feed_82 : decode cX11_feed 82 = .ok (.aload_n 0, 1) := by decide +kernel
theorem dX11_feed_83 : decode cX11_feed 83 = .ok (.getfield 223, 3) := by decide +kernel
theorem dX11_feed_86 : decode cX11_feed 86 = .ok (.iload 7, 2) := by decide +kernel
theorem dX11_feed_88 : decode cX11_feed 88 = .ok (.bipush 24, 2) := by decide +kernel
theorem dX11_feed_90 : decode cX11_feed 90 = .ok (.bipush 8, 2) := by decide +kernel
theorem dX11_feed_92 : decode cX11_feed 92 = .ok (.iload 6, 2) := by decide +kernel
theorem dX11_feed_94 : decode cX11_feed 94 = .ok (.iconst 4, 1) := by decide +kernel
theorem dX11_feed_95 : decode cX11_feed 95 = .ok (.irem, 1) := by decide +kernel
theorem dX11_feed_96 : decode cX11_feed 96 = .ok (.imul, 1) := by decide +kernel
theorem dX11_feed_97 : decode cX11_feed 97 = .ok (.isub, 1) := by decide +kernel
theorem dX11_feed_98 : decode cX11_feed 98 = .ok (.iushr, 1) := by decide +kernel
theorem dX11_feed_99 : decode cX11_feed 99 = .ok (.sipush 255, 3) := by decide +kernel
theorem dX11_feed_102 : decode cX11_feed 102 = .ok (.iand, 1) := by decide +kernel
theorem dX11_feed_103 : decode cX11_feed 103 = .ok (.iastore, 1) := by decide +kernel
theorem dX11_feed_104 : decode cX11_feed 104 = .ok (.aload_n 0, 1) := by decide +kernel
theorem dX11_feed_105 : decode cX11_feed 105 = .ok (.dup, 1) := by decide +kernel
theorem dX11_feed_106 : decode cX11_feed 106 = .ok (.getfield 223, 3) := by decide +kernel
theorem dX11_feed_109 : decode cX11_feed 109 = .ok (.iconst 1, 1) := by decide +kernel
theorem dX11_feed_110 : decode cX11_feed 110 = .ok (.iadd, 1) := by decide +kernel
theorem dX11_feed_111 : decode cX11_feed 111 = .ok (.putfield 223, 3) := by decide +kernel
theorem dX11_feed_114 : decode cX11_feed 114 = .ok (.iinc 6 1, 3) := by decide +kernel
theorem dX11_feed_117 : decode cX11_feed 117 = .ok (.goto (-94), 3) := by decide +kernel
theorem dX11_feed_120 : decode cX11_feed 120 = .ok (.aload_n 0, 1) := by decide +kernel
theorem dX11_feed_121 : decode cX11_feed 121 = .ok (.getfield 223, 3) := by decide +kernel
theorem dX11_feed_124 : decode cX11_feed 124 = .ok (.ireturn, 1) := by decide +kernel
def sX11_feed_L23 (F : Nat) (l0 : Nat) (l1 : Int32) (l2 : Int32) (l3 : Int32) (l4 : Int32) (l5 : Int32) (l6 : Int32) (h : HP) : Option ((Int32 × HP) ⊕ HP) :=
  if (20 : Int32) ≤ l6 then
    some (.inr h)
  else
    (if (4 : Int32) ≤ l6 then
        if (8 : Int32) ≤ l6 then
          if (12 : Int32) ≤ l6 then
            if (16 : Int32) ≤ l6 then
              some l5
            else
              some l4
          else
            some l3
        else
          some l2
      else
        some l1).bind fun s3 =>
    (gR h 11 (some l0) 6).bind fun t4 =>
    (gI h 11 (some l0) 7).bind fun t5 =>
    (sI h t4 t5 ((jush s3 ((24 : Int32) - ((8 : Int32) * (jrem l6 (4 : Int32))))) &&& (255 : Int32))).bind fun h6 =>
    (gI h6 11 (some l0) 7).bind fun t7 =>
    (pI h6 11 (some l0) 7 (t7 + (1 : Int32))).bind fun h8 =>
    some (.inl (l6 + (1 : Int32), h8))
def sX11_feed (F : Nat) (l0 : Nat) (l1 : Int32) (l2 : Int32) (l3 : Int32) (l4 : Int32) (l5 : Int32) (h : HP) : Option (Int32 × HP) :=
  (pI h 11 (some l0) 0 (0 : Int32)).bind fun h1 =>
  (gI h1 11 (some l0) 7).bind fun t2 =>
  if (t2 + (20 : Int32)) ≤ (400 : Int32) then
    (iter (fun s => sX11_feed_L23 F l0 l1 l2 l3 l4 l5 s.1 s.2) F ((0 : Int32), h1)).bind fun h9 =>
      (gI h9 11 (some l0) 7).bind fun t10 =>
      some (t10, h9)
  else
    some ((-1 : Int32), h1)
abbrev rm_X11_feed : Room := { frames := 0, cells := 0, slots := 0, locals := 0 }
set_option maxRecDepth 100000 in
set_option maxHeartbeats 4000000 in
theorem mt_X11_feed {w : WD} {l : Launch} {F : Nat} {l0 : Nat} {l1 : Int32} {l2 : Int32} {l3 : Int32} {l4 : Int32} {l5 : Int32} {h : HP} {v : Int32} {h' : HP} (hs : sX11_feed F l0 l1 l2 l3 l4 l5 h = some (v, h')) : MI w l yX11_feed cX11_feed 8 .int rm_X11_feed 0 0 [rf w (some l0), .int l1, .int l2, .int l3, .int l4, .int l5] h v h' := by
  refine of_body [(0, rf w (some l0)), (1, .int l1), (2, .int l2), (3, .int l3), (4, .int l4), (5, .int l5)] (by decide) (by simp [lg_sl, rf_cat, cat_i, cat_l, cat_a]) (by simp [lv_args, rf_cat, cat_i, cat_l, cat_a]) ?_
  intro x hw_ hnL_ hl_ hc hret hnm hQ
  subst hw_; subst hl_
  have hnl : ∀ i, i < 8 → i < x.nL := fun i h => by rw [hnL_]; exact h
  have hw : wpO (sX11_feed F l0 l1 l2 l3 l4 l5 h) (fun r => r = (v, h')) := ⟨_, hs, rfl⟩
  unfold sX11_feed at hw
  refine R_aload_n (q := 0) (i := 0) (v := (some l0)) hc dX11_feed_0 rfl rfl ?_
  refine R_iconst (v := (0 : Int32)) hc dX11_feed_1 kI_0 ?_
  refine R_putI hc pl_11_100 rfl rfl dX11_feed_2 hw (fun h1 hw => ?_)
  refine R_aload_n (q := 0) (i := 0) (v := (some l0)) hc dX11_feed_5 rfl rfl ?_
  refine R_getI hc fl_11_223 dX11_feed_6 hw (fun t2 hw => ?_)
  refine R_bipush (v := (20 : Int32)) hc dX11_feed_9 kB_20 ?_
  refine R_iadd hc dX11_feed_11 ?_
  refine R_sipush (v := (400 : Int32)) hc dX11_feed_12 kS_400 ?_
  refine R_icmp_le (tgt := 20) hc dX11_feed_15 (by decide) hw (fun hw => ?_) (fun hw => ?_)
  · refine R_iconst (v := (0 : Int32)) hc dX11_feed_20 kI_0 ?_
    refine R_istore (i := 6) (v := (0 : Int32)) hc [(6, .int (0 : Int32)), (0, rf x.w (some l0)), (1, .int l1), (2, .int l2), (3, .int l3), (4, .int l4), (5, .int l5)] dX11_feed_21 (hnl 6 (le_b rfl)) rfl ?_
    refine R_sub hc [1, 2, 3, 4, 5, 6, 0] rfl ?_
    refine R_loop (P := fun (s : (Int32 × HP)) => Rn x 0 0 23 [(0, rf x.w (some l0)), (1, .int l1), (2, .int l2), (3, .int l3), (4, .int l4), (5, .int l5), (6, .int s.1)] [] s.2) (fun h9 => Rn x 0 0 120 [(0, rf x.w (some l0))] [] h9) hw (fun r hw => ?_) (fun X hX s hw => ?_)
    · revert r hw
      intro h9 hw
      show Rn x 0 0 120 [(0, rf x.w (some l0))] [] h9
      refine R_aload_n (q := 0) (i := 0) (v := (some l0)) hc dX11_feed_120 rfl rfl ?_
      refine R_getI hc fl_11_223 dX11_feed_121 hw (fun t10 hw => ?_)
      exact R_ireturn hc hret rfl hQ hw dX11_feed_124
    · obtain ⟨l6_12, h13⟩ := s
      show Rn x 0 0 23 [(0, rf x.w (some l0)), (1, .int l1), (2, .int l2), (3, .int l3), (4, .int l4), (5, .int l5), (6, .int l6_12)] [] h13
      have hw : wpO (sX11_feed_L23 F l0 l1 l2 l3 l4 l5 l6_12 h13) _ := hw
      unfold sX11_feed_L23 at hw
      refine R_iload (q := 6) (i := 6) (v := l6_12) hc dX11_feed_23 rfl ?_
      refine R_bipush (v := (20 : Int32)) hc dX11_feed_25 kB_20 ?_
      refine R_icmp_ge (tgt := 120) hc dX11_feed_27 (by decide) hw (fun hw => ?_) (fun hw => ?_)
      · refine R_sub hc [0] rfl ?_
        exact (wpO_some hw :)
      · refine R_iload (q := 6) (i := 6) (v := l6_12) hc dX11_feed_30 rfl ?_
        refine R_iconst (v := (4 : Int32)) hc dX11_feed_32 kI_4 ?_
        refine R_join (fun (s3 : Int32) => Rn x 0 0 76 [(0, rf x.w (some l0)), (1, .int l1), (2, .int l2), (3, .int l3), (4, .int l4), (5, .int l5), (6, .int l6_12)] [.int s3] h13) hw (fun r hw => ?_) (fun hw => ?_)
        · revert r hw
          intro s3 hw
          show Rn x 0 0 76 [(0, rf x.w (some l0)), (1, .int l1), (2, .int l2), (3, .int l3), (4, .int l4), (5, .int l5), (6, .int l6_12)] [.int s3] h13
          refine R_istore (i := 7) (v := s3) hc [(7, .int s3), (0, rf x.w (some l0)), (1, .int l1), (2, .int l2), (3, .int l3), (4, .int l4), (5, .int l5), (6, .int l6_12)] dX11_feed_76 (hnl 7 (le_b rfl)) rfl ?_
          refine R_aload_n (q := 1) (i := 0) (v := (some l0)) hc dX11_feed_78 rfl rfl ?_
          refine R_getR hc fl_11_19 dX11_feed_79 hw (fun t4 hw => ?_)
          refine R_aload_n (q := 1) (i := 0) (v := (some l0)) hc dX11_feed_82 rfl rfl ?_
          refine R_getI hc fl_11_223 dX11_feed_83 hw (fun t5 hw => ?_)
          refine R_iload (q := 0) (i := 7) (v := s3) hc dX11_feed_86 rfl ?_
          refine R_bipush (v := (24 : Int32)) hc dX11_feed_88 kB_24 ?_
          refine R_bipush (v := (8 : Int32)) hc dX11_feed_90 kB_8 ?_
          refine R_iload (q := 7) (i := 6) (v := l6_12) hc dX11_feed_92 rfl ?_
          refine R_iconst (v := (4 : Int32)) hc dX11_feed_94 kI_4 ?_
          refine R_iremL hc dX11_feed_95 (by decide) ?_
          refine R_imul hc dX11_feed_96 ?_
          refine R_isub hc dX11_feed_97 ?_
          refine R_iushr hc dX11_feed_98 ?_
          refine R_sipush (v := (255 : Int32)) hc dX11_feed_99 kS_255 ?_
          refine R_iand hc dX11_feed_102 ?_
          refine R_iastore hc dX11_feed_103 hw (fun h6 hw => ?_)
          refine R_aload_n (q := 1) (i := 0) (v := (some l0)) hc dX11_feed_104 rfl rfl ?_
          refine R_dup hc dX11_feed_105 (rf_cat _ _) ?_
          refine R_getI hc fl_11_223 dX11_feed_106 hw (fun t7 hw => ?_)
          refine R_iconst (v := (1 : Int32)) hc dX11_feed_109 kI_1 ?_
          refine R_iadd hc dX11_feed_110 ?_
          refine R_putI hc pl_11_223 rfl rfl dX11_feed_111 hw (fun h8 hw => ?_)
          refine R_iinc (q := 7) (i := 6) (v := l6_12) hc [(6, .int (l6_12 + (1 : Int32))), (7, .int s3), (0, rf x.w (some l0)), (1, .int l1), (2, .int l2), (3, .int l3), (4, .int l4), (5, .int l5)] dX11_feed_114 rfl (kC_1 _) (hnl 6 (le_b rfl)) rfl ?_
          refine R_goto (tgt := 23) hc dX11_feed_117 (by decide) ?_
          refine R_sub hc [2, 3, 4, 5, 6, 7, 0] rfl ?_
          exact hX (l6_12 + (1 : Int32), h8) (wpO_some hw :)
        · refine R_icmp_ge (tgt := 40) hc dX11_feed_33 (by decide) hw (fun hw => ?_) (fun hw => ?_)
          · refine R_iload (q := 6) (i := 6) (v := l6_12) hc dX11_feed_40 rfl ?_
            refine R_bipush (v := (8 : Int32)) hc dX11_feed_42 kB_8 ?_
            refine R_icmp_ge (tgt := 51) hc dX11_feed_44 (by decide) hw (fun hw => ?_) (fun hw => ?_)
            · refine R_iload (q := 6) (i := 6) (v := l6_12) hc dX11_feed_51 rfl ?_
              refine R_bipush (v := (12 : Int32)) hc dX11_feed_53 kB_12 ?_
              refine R_icmp_ge (tgt := 62) hc dX11_feed_55 (by decide) hw (fun hw => ?_) (fun hw => ?_)
              · refine R_iload (q := 6) (i := 6) (v := l6_12) hc dX11_feed_62 rfl ?_
                refine R_bipush (v := (16 : Int32)) hc dX11_feed_64 kB_16 ?_
                refine R_icmp_ge (tgt := 74) hc dX11_feed_66 (by decide) hw (fun hw => ?_) (fun hw => ?_)
                · refine R_iload (q := 5) (i := 5) (v := l5) hc dX11_feed_74 rfl ?_
                  refine R_sub hc [0, 1, 2, 3, 4, 5, 6] rfl ?_
                  exact (wpO_some hw :)
                · refine R_iload (q := 4) (i := 4) (v := l4) hc dX11_feed_69 rfl ?_
                  refine R_goto (tgt := 76) hc dX11_feed_71 (by decide) ?_
                  refine R_sub hc [0, 1, 2, 3, 4, 5, 6] rfl ?_
                  exact (wpO_some hw :)
              · refine R_iload_n (q := 3) (i := 3) (v := l3) hc dX11_feed_58 rfl rfl ?_
                refine R_goto (tgt := 76) hc dX11_feed_59 (by decide) ?_
                refine R_sub hc [0, 1, 2, 3, 4, 5, 6] rfl ?_
                exact (wpO_some hw :)
            · refine R_iload_n (q := 2) (i := 2) (v := l2) hc dX11_feed_47 rfl rfl ?_
              refine R_goto (tgt := 76) hc dX11_feed_48 (by decide) ?_
              refine R_sub hc [0, 1, 2, 3, 4, 5, 6] rfl ?_
              exact (wpO_some hw :)
          · refine R_iload_n (q := 1) (i := 1) (v := l1) hc dX11_feed_36 rfl rfl ?_
            refine R_goto (tgt := 76) hc dX11_feed_37 (by decide) ?_
            refine R_sub hc [0, 1, 2, 3, 4, 5, 6] rfl ?_
            exact (wpO_some hw :)
  · refine R_iconst (v := (-1 : Int32)) hc dX11_feed_18 kI_m1 ?_
    exact R_ireturn hc hret rfl hQ hw dX11_feed_19
theorem dX11_end_0 : decode cX11_end 0 = .ok (.aload_n 0, 1) := by decide +kernel
theorem dX11_end_1 : decode cX11_end 1 = .ok (.iconst 0, 1) := by decide +kernel
theorem dX11_end_2 : decode cX11_end 2 = .ok (.putfield 100, 3) := by decide +kernel
theorem dX11_end_5 : decode cX11_end 5 = .ok (.iload_n 1, 1) := by decide +kernel
theorem dX11_end_6 : decode cX11_end 6 = .ok (.iconst 0, 1) := by decide +kernel
theorem dX11_end_7 : decode cX11_end 7 = .ok (.aload_n 0, 1) := by decide +kernel
theorem dX11_end_8 : decode cX11_end 8 = .ok (.getfield 223, 3) := by decide +kernel
theorem dX11_end_11 : decode cX11_end 11 = .ok (.invokestatic 107, 3) := by decide +kernel
theorem dX11_end_14 : decode cX11_end 14 = .ok (.ifCond .ne 5, 3) := by decide +kernel
theorem dX11_end_17 : decode cX11_end 17 = .ok (.iconst 0, 1) := by decide +kernel
theorem dX11_end_18 : decode cX11_end 18 = .ok (.ireturn, 1) := by decide +kernel
theorem dX11_end_19 : decode cX11_end 19 = .ok (.aload_n 0, 1) := by decide +kernel
theorem dX11_end_20 : decode cX11_end 20 = .ok (.iload_n 1, 1) := by decide +kernel
theorem dX11_end_21 : decode cX11_end 21 = .ok (.putfield 223, 3) := by decide +kernel
theorem dX11_end_24 : decode cX11_end 24 = .ok (.iconst 1, 1) := by decide +kernel
theorem dX11_end_25 : decode cX11_end 25 = .ok (.ireturn, 1) := by decide +kernel
def sX11_end (F : Nat) (l0 : Nat) (l1 : Int32) (h : HP) : Option (Int32 × HP) :=
  (pI h 11 (some l0) 0 (0 : Int32)).bind fun h1 =>
  (gI h1 11 (some l0) 7).bind fun t2 =>
  (sX11_isIn F l1 (0 : Int32) t2 h1).bind fun t3 =>
  if ¬ t3 = 0 then
    (pI h1 11 (some l0) 7 l1).bind fun h4 =>
    some ((1 : Int32), h4)
  else
    some ((0 : Int32), h1)
abbrev rm_X11_end : Room := { frames := 1, cells := 0, slots := 0, locals := 22 }
set_option maxRecDepth 100000 in
set_option maxHeartbeats 4000000 in
theorem mt_X11_end {w : WD} {l : Launch} {F : Nat} {l0 : Nat} {l1 : Int32} {h : HP} {v : Int32} {h' : HP} (hs : sX11_end F l0 l1 h = some (v, h')) : MI w l yX11_end cX11_end 2 .boolean rm_X11_end 0 0 [rf w (some l0), .int l1] h v h' := by
  refine of_body [(0, rf w (some l0)), (1, .int l1)] (by decide) (by simp [lg_sl, rf_cat, cat_i, cat_l, cat_a]) (by simp [lv_args, rf_cat, cat_i, cat_l, cat_a]) ?_
  intro x hw_ hnL_ hl_ hc hret hnm hQ
  subst hw_; subst hl_
  have hnl : ∀ i, i < 2 → i < x.nL := fun i h => by rw [hnL_]; exact h
  have hw : wpO (sX11_end F l0 l1 h) (fun r => r = (v, h')) := ⟨_, hs, rfl⟩
  unfold sX11_end at hw
  refine R_aload_n (q := 0) (i := 0) (v := (some l0)) hc dX11_end_0 rfl rfl ?_
  refine R_iconst (v := (0 : Int32)) hc dX11_end_1 kI_0 ?_
  refine R_putI hc pl_11_100 rfl rfl dX11_end_2 hw (fun h1 hw => ?_)
  refine R_iload_n (q := 1) (i := 1) (v := l1) hc dX11_end_5 rfl rfl ?_
  refine R_iconst (v := (0 : Int32)) hc dX11_end_6 kI_0 ?_
  refine R_aload_n (q := 0) (i := 0) (v := (some l0)) hc dX11_end_7 rfl rfl ?_
  refine R_getI hc fl_11_223 dX11_end_8 hw (fun t2 hw => ?_)
  refine R_cSI (As := [.int l1, .int (0 : Int32), .int t2]) (rest := []) hc ml_11_107 mf_X11_isIn ⟨rfl, rfl⟩ ⟨le_b rfl, le_b rfl⟩ ⟨Nat.zero_le _, Nat.zero_le _⟩ (fun v e => mt_X11_isIn e) rfl rfl (Nat.zero_le _) dX11_end_11 hw (fun t3 hw => ?_)
  refine R_if_ne (tgt := 19) hc dX11_end_14 (by decide) hw (fun hw => ?_) (fun hw => ?_)
  · refine R_aload_n (q := 0) (i := 0) (v := (some l0)) hc dX11_end_19 rfl rfl ?_
    refine R_iload_n (q := 1) (i := 1) (v := l1) hc dX11_end_20 rfl rfl ?_
    refine R_putI hc pl_11_223 rfl rfl dX11_end_21 hw (fun h4 hw => ?_)
    refine R_iconst (v := (1 : Int32)) hc dX11_end_24 kI_1 ?_
    exact R_ireturn hc hret rfl hQ hw dX11_end_25
  · refine R_iconst (v := (0 : Int32)) hc dX11_end_17 kI_0 ?_
    exact R_ireturn hc hret rfl hQ hw dX11_end_18
theorem dX11_here_0 : decode cX11_here 0 = .ok (.aload_n 0, 1) := by decide +kernel
theorem dX11_here_1 : decode cX11_here 1 = .ok (.getfield 226, 3) := by decide +kernel
theorem dX11_here_4 : decode cX11_here 4 = .ok (.aload_n 0, 1) := by decide +kernel
theorem dX11_here_5 : decode cX11_here 5 = .ok (.getfield 229, 3) := by decide +kernel
theorem dX11_here_8 : decode cX11_here 8 = .ok (.if_icmp .ge 30, 3) := by decide +kernel
theorem dX11_here_11 : decode cX11_here 11 = .ok (.aload_n 0, 1) := by decide +kernel
theorem dX11_here_12 : decode cX11_here 12 = .ok (.getfield 19, 3) := by decide +kernel
theorem dX11_here_15 : decode cX11_here 15 = .ok (.aload_n 0, 1) := by decide +kernel
theorem dX11_here_16 : decode cX11_here 16 = .ok (.getfield 226, 3) := by decide +kernel
theorem dX11_here_19 : decode cX11_here 19 = .ok (.iaload, 1) := by decide +kernel
theorem dX11_here_20 : decode cX11_here 20 = .ok (.bipush 32, 2) := by decide +kernel
theorem dX11_here_22 : decode cX11_here 22 = .ok (.if_icmp .ne 16, 3) := by decide +kernel
theorem dX11_here_25 : decode cX11_here 25 = .ok (.aload_n 0, 1) := by decide +kernel
theorem dX11_here_26 : decode cX11_here 26 = .ok (.dup, 1) := by decide +kernel
theorem dX11_here_27 : decode cX11_here 27 = .ok (.getfield 226, 3) := by decide +kernel
theorem dX11_here_30 : decode cX11_here 30 = .ok (.iconst 1, 1) := by decide +kernel
theorem dX11_here_31 : decode cX11_here 31 = .ok (.iadd, 1) := by decide +kernel
theorem dX11_here_32 : decode cX11_here 32 = .ok (.putfield 226, 3) := by decide +kernel
theorem dX11_here_35 : decode cX11_here 35 = .ok (.goto (-35), 3) := by decide +kernel
theorem dX11_here_38 : decode cX11_here 38 = .ok (.aload_n 0, 1) := by decide +kernel
theorem dX11_here_39 : decode cX11_here 39 = .ok (.getfield 226, 3) := by decide +kernel
theorem dX11_here_42 : decode cX11_here 42 = .ok (.ireturn, 1) := by decide +kernel
def sX11_here_L0 (F : Nat) (l0 : Nat) (h : HP) : Option (HP ⊕ HP) :=
  (gI h 11 (some l0) 9).bind fun t1 =>
  (gI h 11 (some l0) 8).bind fun t2 =>
  if t2 ≤ t1 then
    some (.inr h)
  else
    (gR h 11 (some l0) 6).bind fun t3 =>
    (gI h 11 (some l0) 9).bind fun t4 =>
    (aI h 13 t3 t4).bind fun t5 =>
    if ¬ t5 = (32 : Int32) then
      some (.inr h)
    else
      (gI h 11 (some l0) 9).bind fun t6 =>
      (pI h 11 (some l0) 9 (t6 + (1 : Int32))).bind fun h7 =>
      some (.inl h7)
def sX11_here (F : Nat) (l0 : Nat) (h : HP) : Option (Int32 × HP) :=
  (iter (fun s => sX11_here_L0 F l0 s) F h).bind fun h8 =>
    (gI h8 11 (some l0) 9).bind fun t9 =>
    some (t9, h8)
abbrev rm_X11_here : Room := { frames := 0, cells := 0, slots := 0, locals := 0 }
set_option maxRecDepth 100000 in
set_option maxHeartbeats 4000000 in
theorem mt_X11_here {w : WD} {l : Launch} {F : Nat} {l0 : Nat} {h : HP} {v : Int32} {h' : HP} (hs : sX11_here F l0 h = some (v, h')) : MI w l yX11_here cX11_here 1 .int rm_X11_here 0 0 [rf w (some l0)] h v h' := by
  refine of_body [(0, rf w (some l0))] (by decide) (by simp [lg_sl, rf_cat, cat_i, cat_l, cat_a]) (by simp [lv_args, rf_cat, cat_i, cat_l, cat_a]) ?_
  intro x hw_ hnL_ hl_ hc hret hnm hQ
  subst hw_; subst hl_
  have hnl : ∀ i, i < 1 → i < x.nL := fun i h => by rw [hnL_]; exact h
  have hw : wpO (sX11_here F l0 h) (fun r => r = (v, h')) := ⟨_, hs, rfl⟩
  unfold sX11_here at hw
  refine R_sub hc [0] rfl ?_
  refine R_loop (P := fun (s : HP) => Rn x 0 0 0 [(0, rf x.w (some l0))] [] s) (fun h8 => Rn x 0 0 38 [(0, rf x.w (some l0))] [] h8) hw (fun r hw => ?_) (fun X hX s hw => ?_)
  · revert r hw
    intro h8 hw
    show Rn x 0 0 38 [(0, rf x.w (some l0))] [] h8
    refine R_aload_n (q := 0) (i := 0) (v := (some l0)) hc dX11_here_38 rfl rfl ?_
    refine R_getI hc fl_11_226 dX11_here_39 hw (fun t9 hw => ?_)
    exact R_ireturn hc hret rfl hQ hw dX11_here_42
  · revert s hw
    intro h11 hw
    show Rn x 0 0 0 [(0, rf x.w (some l0))] [] h11
    have hw : wpO (sX11_here_L0 F l0 h11) _ := hw
    unfold sX11_here_L0 at hw
    refine R_aload_n (q := 0) (i := 0) (v := (some l0)) hc dX11_here_0 rfl rfl ?_
    refine R_getI hc fl_11_226 dX11_here_1 hw (fun t1 hw => ?_)
    refine R_aload_n (q := 0) (i := 0) (v := (some l0)) hc dX11_here_4 rfl rfl ?_
    refine R_getI hc fl_11_229 dX11_here_5 hw (fun t2 hw => ?_)
    refine R_icmp_ge (tgt := 38) hc dX11_here_8 (by decide) hw (fun hw => ?_) (fun hw => ?_)
    · refine R_sub hc [0] rfl ?_
      exact (wpO_some hw :)
    · refine R_aload_n (q := 0) (i := 0) (v := (some l0)) hc dX11_here_11 rfl rfl ?_
      refine R_getR hc fl_11_19 dX11_here_12 hw (fun t3 hw => ?_)
      refine R_aload_n (q := 0) (i := 0) (v := (some l0)) hc dX11_here_15 rfl rfl ?_
      refine R_getI hc fl_11_226 dX11_here_16 hw (fun t4 hw => ?_)
      refine R_iaload hc dX11_here_19 hw (fun t5 hw => ?_)
      refine R_bipush (v := (32 : Int32)) hc dX11_here_20 kB_32 ?_
      refine R_icmp_ne (tgt := 38) hc dX11_here_22 (by decide) hw (fun hw => ?_) (fun hw => ?_)
      · refine R_sub hc [0] rfl ?_
        exact (wpO_some hw :)
      · refine R_aload_n (q := 0) (i := 0) (v := (some l0)) hc dX11_here_25 rfl rfl ?_
        refine R_dup hc dX11_here_26 (rf_cat _ _) ?_
        refine R_getI hc fl_11_226 dX11_here_27 hw (fun t6 hw => ?_)
        refine R_iconst (v := (1 : Int32)) hc dX11_here_30 kI_1 ?_
        refine R_iadd hc dX11_here_31 ?_
        refine R_putI hc pl_11_226 rfl rfl dX11_here_32 hw (fun h7 hw => ?_)
        refine R_goto (tgt := 0) hc dX11_here_35 (by decide) ?_
        refine R_sub hc [0] rfl ?_
        exact hX h7 (wpO_some hw :)
theorem dX11_wrong_0 : decode cX11_wrong 0 = .ok (.aload_n 0, 1) := by decide +kernel
theorem dX11_wrong_1 : decode cX11_wrong 1 = .ok (.getfield 22, 3) := by decide +kernel
theorem dX11_wrong_4 : decode cX11_wrong 4 = .ok (.iconst (-1), 1) := by decide +kernel
theorem dX11_wrong_5 : decode cX11_wrong 5 = .ok (.if_icmp .ne 8, 3) := by decide +kernel
theorem dX11_wrong_8 : decode cX11_wrong 8 = .ok (.aload_n 0, 1) := by decide +kernel
theorem dX11_wrong_9 : decode cX11_wrong 9 = .ok (.iload_n 1, 1) := by decide +kernel
theorem dX11_wrong_10 : decode cX11_wrong 10 = .ok (.putfield 22, 3) := by decide +kernel
theorem dX11_wrong_13 : decode cX11_wrong 13 = .ok (.return_, 1) := by decide +kernel
def sX11_wrong (F : Nat) (l0 : Nat) (l1 : Int32) (h : HP) : Option HP :=
  (gI h 11 (some l0) 10).bind fun t1 =>
  if ¬ t1 = (-1 : Int32) then
    some h
  else
    (pI h 11 (some l0) 10 l1).bind fun h2 =>
    some h2
abbrev rm_X11_wrong : Room := { frames := 0, cells := 0, slots := 0, locals := 0 }
set_option maxRecDepth 100000 in
set_option maxHeartbeats 4000000 in
theorem mt_X11_wrong {w : WD} {l : Launch} {F : Nat} {l0 : Nat} {l1 : Int32} {h : HP} {h' : HP} (hs : sX11_wrong F l0 l1 h = some h') : MV w l yX11_wrong cX11_wrong 2 rm_X11_wrong 0 0 [rf w (some l0), .int l1] h h' := by
  refine of_body [(0, rf w (some l0)), (1, .int l1)] (by decide) (by simp [lg_sl, rf_cat, cat_i, cat_l, cat_a]) (by simp [lv_args, rf_cat, cat_i, cat_l, cat_a]) ?_
  intro x hw_ hnL_ hl_ hc hret hnm hQ
  subst hw_; subst hl_
  have hnl : ∀ i, i < 2 → i < x.nL := fun i h => by rw [hnL_]; exact h
  have hw : wpO (sX11_wrong F l0 l1 h) (fun r => r = h') := ⟨_, hs, rfl⟩
  unfold sX11_wrong at hw
  refine R_aload_n (q := 0) (i := 0) (v := (some l0)) hc dX11_wrong_0 rfl rfl ?_
  refine R_getI hc fl_11_22 dX11_wrong_1 hw (fun t1 hw => ?_)
  refine R_iconst (v := (-1 : Int32)) hc dX11_wrong_4 kI_m1 ?_
  refine R_icmp_ne (tgt := 13) hc dX11_wrong_5 (by decide) hw (fun hw => ?_) (fun hw => ?_)
  · exact R_return hc hret hQ hw dX11_wrong_13
  · refine R_aload_n (q := 0) (i := 0) (v := (some l0)) hc dX11_wrong_8 rfl rfl ?_
    refine R_iload_n (q := 1) (i := 1) (v := l1) hc dX11_wrong_9 rfl rfl ?_
    refine R_putI hc pl_11_22 rfl rfl dX11_wrong_10 hw (fun h2 hw => ?_)
    exact R_return hc hret hQ hw dX11_wrong_13
theorem dX11_has__0 : decode cX11_has_ 0 = .ok (.aload_n 0, 1) := by decide +kernel
theorem dX11_has__1 : decode cX11_has_ 1 = .ok (.invokevirtual 232, 3) := by decide +kernel
theorem dX11_has__4 : decode cX11_has_ 4 = .ok (.istore_n 2, 1) := by decide +kernel
theorem dX11_has__5 : decode cX11_has_ 5 = .ok (.iload_n 2, 1) := by decide +kernel
theorem dX11_has__6 : decode cX11_has_ 6 = .ok (.aload_n 0, 1) := by decide +kernel
theorem dX11_has__7 : decode cX11_has_ 7 = .ok (.getfield 229, 3) := by decide +kernel
theorem dX11_has__10 : decode cX11_has_ 10 = .ok (.if_icmp .ge 25, 3) := by decide +kernel
theorem dX11_has__13 : decode cX11_has_ 13 = .ok (.aload_n 0, 1) := by decide +kernel
theorem dX11_has__14 : decode cX11_has_ 14 = .ok (.getfield 19, 3) := by decide +kernel
theorem dX11_has__17 : decode cX11_has_ 17 = .ok (.iload_n 2, 1) := by decide +kernel
theorem dX11_has__18 : decode cX11_has_ 18 = .ok (.iaload, 1) := by decide +kernel
theorem dX11_has__19 : decode cX11_has_ 19 = .ok (.bipush 97, 2) := by decide +kernel
theorem dX11_has__21 : decode cX11_has_ 21 = .ok (.bipush 122, 2) := by decide +kernel
theorem dX11_has__23 : decode cX11_has_ 23 = .ok (.invokestatic 107, 3) := by decide +kernel
theorem dX11_has__26 : decode cX11_has_ 26 = .ok (.ifCond .eq 9, 3) := by decide +kernel
theorem dX11_has__29 : decode cX11_has_ 29 = .ok (.iinc 2 1, 3) := by decide +kernel
theorem dX11_has__32 : decode cX11_has_ 32 = .ok (.goto (-27), 3) := by decide +kernel
theorem dX11_has__35 : decode cX11_has_ 35 = .ok (.aload_n 0, 1) := by decide +kernel
theorem dX11_has__36 : decode cX11_has_ 36 = .ok (.getfield 22, 3) := by decide +kernel
theorem dX11_has__39 : decode cX11_has_ 39 = .ok (.iconst (-1), 1) := by decide +kernel
theorem dX11_has__40 : decode cX11_has_ 40 = .ok (.if_icmp .ne 16, 3) := by decide +kernel
theorem dX11_has__43 : decode cX11_has_ 43 = .ok (.iload_n 2, 1) := by decide +kernel
theorem dX11_has__44 : decode cX11_has_ 44 = .ok (.aload_n 0, 1) := by decide +kernel
theorem dX11_has__45 : decode cX11_has_ 45 = .ok (.getfield 226, 3) := by decide +kernel
theorem dX11_has__48 : decode cX11_has_ 48 = .ok (.isub, 1) := by decide +kernel
theorem dX11_has__49 : decode cX11_has_ 49 = .ok (.aload_n 1, 1) := by decide +kernel
theorem dX11_has__50 : decode cX11_has_ 50 = .ok (.invokevirtual 235, 3) := by decide +kernel
theorem dX11_has__53 : decode cX11_has_ 53 = .ok (.if_icmp .eq 5, 3) := by decide +kernel
theorem dX11_has__56 : decode cX11_has_ 56 = .ok (.iconst 0, 1) := by decide +kernel
theorem dX11_has__57 : decode cX11_has_ 57 = .ok (.ireturn, 1) := by decide +kernel
theorem dX11_has__58 : decode cX11_has_ 58 = .ok (.iconst 0, 1) := by decide +kernel
theorem dX11_has__59 : decode cX11_has_ 59 = .ok (.istore_n 3, 1) := by decide +kernel
theorem dX11_has__60 : decode cX11_has_ 60 = .ok (.iload_n 3, 1) := by decide +kernel
theorem dX11_has__61 : decode cX11_has_ 61 = .ok (.aload_n 1, 1) := by decide +kernel
theorem dX11_has__62 : decode cX11_has_ 62 = .ok (.invokevirtual 235, 3) := by decide +kernel
theorem dX11_has__65 : decode cX11_has_ 65 = .ok (.if_icmp .ge 30, 3) := by decide +kernel
theorem dX11_has__68 : decode cX11_has_ 68 = .ok (.aload_n 0, 1) := by decide +kernel
theorem dX11_has__69 : decode cX11_has_ 69 = .ok (.getfield 19, 3) := by decide +kernel
theorem dX11_has__72 : decode cX11_has_ 72 = .ok (.aload_n 0, 1) := by decide +kernel
theorem dX11_has__73 : decode cX11_has_ 73 = .ok (.getfield 226, 3) := by decide +kernel
theorem dX11_has__76 : decode cX11_has_ 76 = .ok (.iload_n 3, 1) := by decide +kernel
theorem dX11_has__77 : decode cX11_has_ 77 = .ok (.iadd, 1) := by decide +kernel
theorem dX11_has__78 : decode cX11_has_ 78 = .ok (.iaload, 1) := by decide +kernel
theorem dX11_has__79 : decode cX11_has_ 79 = .ok (.aload_n 1, 1) := by decide +kernel
theorem dX11_has__80 : decode cX11_has_ 80 = .ok (.iload_n 3, 1) := by decide +kernel
theorem dX11_has__81 : decode cX11_has_ 81 = .ok (.invokevirtual 240, 3) := by decide +kernel
theorem dX11_has__84 : decode cX11_has_ 84 = .ok (.if_icmp .eq 5, 3) := by decide +kernel
theorem dX11_has__87 : decode cX11_has_ 87 = .ok (.iconst 0, 1) := by decide +kernel
theorem dX11_has__88 : decode cX11_has_ 88 = .ok (.ireturn, 1) := by decide +kernel
theorem dX11_has__89 : decode cX11_has_ 89 = .ok (.iinc 3 1, 3) := by decide +kernel
theorem dX11_has__92 : decode cX11_has_ 92 = .ok (.goto (-32), 3) := by decide +kernel
theorem dX11_has__95 : decode cX11_has_ 95 = .ok (.aload_n 0, 1) := by decide +kernel
theorem dX11_has__96 : decode cX11_has_ 96 = .ok (.iload_n 2, 1) := by decide +kernel
theorem dX11_has__97 : decode cX11_has_ 97 = .ok (.putfield 226, 3) := by decide +kernel
theorem dX11_has__100 : decode cX11_has_ 100 = .ok (.iconst 1, 1) := by decide +kernel
theorem dX11_has__101 : decode cX11_has_ 101 = .ok (.ireturn, 1) := by decide +kernel
def sX11_has__L5 (F : Nat) (l0 : Nat) (l1 : Nat) (l2 : Int32) (h : HP) : Option (Int32 ⊕ Int32) :=
  (gI h 11 (some l0) 8).bind fun t4 =>
  if t4 ≤ l2 then
    some (.inr l2)
  else
    (gR h 11 (some l0) 6).bind fun t5 =>
    (aI h 13 t5 l2).bind fun t6 =>
    (sX11_isIn F t6 (97 : Int32) (122 : Int32) h).bind fun t7 =>
    if t7 = 0 then
      some (.inr l2)
    else
      some (.inl (l2 + (1 : Int32)))
def sX11_has__L60 (F : Nat) (l0 : Nat) (l1 : Nat) (l2 : Int32) (l3 : Int32) (h : HP) : Option (Int32 ⊕ (Unit ⊕ (Int32 × HP))) :=
  (sLen l1).bind fun t12 =>
  if t12 ≤ l3 then
    some (.inr (.inl ()))
  else
    (gR h 11 (some l0) 6).bind fun t13 =>
    (gI h 11 (some l0) 9).bind fun t14 =>
    (aI h 13 t13 (t14 + l3)).bind fun t15 =>
    (sAt l1 l3).bind fun t16 =>
    if t15 = t16 then
      some (.inl (l3 + (1 : Int32)))
    else
      some (.inr (.inr ((0 : Int32), h)))
def sX11_has_ (F : Nat) (l0 : Nat) (l1 : Nat) (h : HP) : Option (Int32 × HP) :=
  (dO h 11 (some l0)).bind fun a1 =>
  bd2 (sX11_here F a1 h) fun t2 h3 =>
  (iter (fun s => sX11_has__L5 F l0 l1 s h3) F t2).bind fun l2_8 =>
    (gI h3 11 (some l0) 10).bind fun t9 =>
    if ¬ t9 = (-1 : Int32) then
      some ((0 : Int32), h3)
    else
      (gI h3 11 (some l0) 9).bind fun t10 =>
      (sLen l1).bind fun t11 =>
      if (l2_8 - t10) = t11 then
        (iter (fun s => sX11_has__L60 F l0 l1 l2_8 s h3) F (0 : Int32)).bind fun r => match r with
        | .inl _ =>
          (pI h3 11 (some l0) 9 l2_8).bind fun h17 =>
          some ((1 : Int32), h17)
        | .inr u18 => some u18
      else
        some ((0 : Int32), h3)
abbrev rm_X11_has_ : Room := { frames := 4, cells := 0, slots := 0, locals := 85 }
set_option maxRecDepth 100000 in
set_option maxHeartbeats 4000000 in
theorem mt_X11_has_ {w : WD} {l : Launch} {F : Nat} {l0 : Nat} {l1 : Nat} {h : HP} {v : Int32} {h' : HP} (hs : sX11_has_ F l0 l1 h = some (v, h')) : MI w l yX11_has_ cX11_has_ 4 .boolean rm_X11_has_ 0 0 [rf w (some l0), .ref (w.aS l1)] h v h' := by
  refine of_body [(0, rf w (some l0)), (1, .ref (w.aS l1))] (by decide) (by simp [lg_sl, rf_cat, cat_i, cat_l, cat_a]) (by simp [lv_args, rf_cat, cat_i, cat_l, cat_a]) ?_
  intro x hw_ hnL_ hl_ hc hret hnm hQ
  subst hw_; subst hl_
  have hnl : ∀ i, i < 4 → i < x.nL := fun i h => by rw [hnL_]; exact h
  have hw : wpO (sX11_has_ F l0 l1 h) (fun r => r = (v, h')) := ⟨_, hs, rfl⟩
  unfold sX11_has_ at hw
  refine R_aload_n (q := 0) (i := 0) (v := (some l0)) hc dX11_has__0 rfl rfl ?_
  refine R_cVIi (As := []) (rest := []) (r := (some l0)) (ci := 11) hc ml_11_232 mf_X11_here rfl (by decide) ⟨rfl, rfl⟩ ⟨le_b rfl, le_b rfl⟩ ⟨Nat.zero_le _, Nat.zero_le _⟩ (fun a v h' e => mt_X11_here e) rfl rfl (Nat.zero_le _) dX11_has__1 hw (fun t2 h3 hw => ?_)
  refine R_istore_n (i := 2) (v := t2) hc [(2, .int t2), (0, rf x.w (some l0)), (1, .ref (x.w.aS l1))] dX11_has__4 rfl (hnl 2 (le_b rfl)) rfl ?_
  refine R_sub hc [1, 2, 0] rfl ?_
  refine R_loop (P := fun (s : Int32) => Rn x 0 0 5 [(0, rf x.w (some l0)), (1, .ref (x.w.aS l1)), (2, .int s)] [] h3) (fun l2_8 => Rn x 0 0 35 [(0, rf x.w (some l0)), (1, .ref (x.w.aS l1)), (2, .int l2_8)] [] h3) hw (fun r hw => ?_) (fun X hX s hw => ?_)
  · revert r hw
    intro l2_8 hw
    show Rn x 0 0 35 [(0, rf x.w (some l0)), (1, .ref (x.w.aS l1)), (2, .int l2_8)] [] h3
    refine R_aload_n (q := 0) (i := 0) (v := (some l0)) hc dX11_has__35 rfl rfl ?_
    refine R_getI hc fl_11_22 dX11_has__36 hw (fun t9 hw => ?_)
    refine R_iconst (v := (-1 : Int32)) hc dX11_has__39 kI_m1 ?_
    refine R_icmp_ne (tgt := 56) hc dX11_has__40 (by decide) hw (fun hw => ?_) (fun hw => ?_)
    · refine R_iconst (v := (0 : Int32)) hc dX11_has__56 kI_0 ?_
      exact R_ireturn hc hret rfl hQ hw dX11_has__57
    · refine R_iload_n (q := 2) (i := 2) (v := l2_8) hc dX11_has__43 rfl rfl ?_
      refine R_aload_n (q := 0) (i := 0) (v := (some l0)) hc dX11_has__44 rfl rfl ?_
      refine R_getI hc fl_11_226 dX11_has__45 hw (fun t10 hw => ?_)
      refine R_isub hc dX11_has__48 ?_
      refine R_aloadS_n (q := 1) (i := 1) (v := l1) hc dX11_has__49 rfl rfl ?_
      refine R_slen hc ml_11_235 ⟨le_b rfl, le_b rfl⟩ ⟨Nat.zero_le _, Nat.zero_le _⟩ (le_b rfl) dX11_has__50 hw (fun t11 hw => ?_)
      refine R_icmp_eq (tgt := 58) hc dX11_has__53 (by decide) hw (fun hw => ?_) (fun hw => ?_)
      · refine R_iconst (v := (0 : Int32)) hc dX11_has__58 kI_0 ?_
        refine R_istore_n (i := 3) (v := (0 : Int32)) hc [(3, .int (0 : Int32)), (0, rf x.w (some l0)), (1, .ref (x.w.aS l1)), (2, .int l2_8)] dX11_has__59 rfl (hnl 3 (le_b rfl)) rfl ?_
        refine R_sub hc [1, 2, 3, 0] rfl ?_
        refine R_loop (P := fun (s : Int32) => Rn x 0 0 60 [(0, rf x.w (some l0)), (1, .ref (x.w.aS l1)), (2, .int l2_8), (3, .int s)] [] h3) (fun r => match r with | .inl _ => Rn x 0 0 95 [(0, rf x.w (some l0)), (2, .int l2_8)] [] h3 | .inr u => u = (v, h')) hw (fun r hw => ?_) (fun X hX s hw => ?_)
        · cases r with
          | inl r =>
            revert hw
            intro hw
            show Rn x 0 0 95 [(0, rf x.w (some l0)), (2, .int l2_8)] [] h3
            have hw : wpO (_) _ := hw
            refine R_aload_n (q := 0) (i := 0) (v := (some l0)) hc dX11_has__95 rfl rfl ?_
            refine R_iload_n (q := 1) (i := 2) (v := l2_8) hc dX11_has__96 rfl rfl ?_
            refine R_putI hc pl_11_226 rfl rfl dX11_has__97 hw (fun h17 hw => ?_)
            refine R_iconst (v := (1 : Int32)) hc dX11_has__100 kI_1 ?_
            exact R_ireturn hc hret rfl hQ hw dX11_has__101
          | inr u => exact (wpO_some hw :)
        · revert s hw
          intro l3_19 hw
          show Rn x 0 0 60 [(0, rf x.w (some l0)), (1, .ref (x.w.aS l1)), (2, .int l2_8), (3, .int l3_19)] [] h3
          have hw : wpO (sX11_has__L60 F l0 l1 l2_8 l3_19 h3) _ := hw
          unfold sX11_has__L60 at hw
          refine R_iload_n (q := 3) (i := 3) (v := l3_19) hc dX11_has__60 rfl rfl ?_
          refine R_aloadS_n (q := 1) (i := 1) (v := l1) hc dX11_has__61 rfl rfl ?_
          refine R_slen hc ml_11_235 ⟨le_b rfl, le_b rfl⟩ ⟨Nat.zero_le _, Nat.zero_le _⟩ (le_b rfl) dX11_has__62 hw (fun t12 hw => ?_)
          refine R_icmp_ge (tgt := 95) hc dX11_has__65 (by decide) hw (fun hw => ?_) (fun hw => ?_)
          · refine R_sub hc [0, 2] rfl ?_
            exact (wpO_some hw :)
          · refine R_aload_n (q := 0) (i := 0) (v := (some l0)) hc dX11_has__68 rfl rfl ?_
            refine R_getR hc fl_11_19 dX11_has__69 hw (fun t13 hw => ?_)
            refine R_aload_n (q := 0) (i := 0) (v := (some l0)) hc dX11_has__72 rfl rfl ?_
            refine R_getI hc fl_11_226 dX11_has__73 hw (fun t14 hw => ?_)
            refine R_iload_n (q := 3) (i := 3) (v := l3_19) hc dX11_has__76 rfl rfl ?_
            refine R_iadd hc dX11_has__77 ?_
            refine R_iaload hc dX11_has__78 hw (fun t15 hw => ?_)
            refine R_aloadS_n (q := 1) (i := 1) (v := l1) hc dX11_has__79 rfl rfl ?_
            refine R_iload_n (q := 3) (i := 3) (v := l3_19) hc dX11_has__80 rfl rfl ?_
            refine R_sat hc ml_11_240 ⟨le_b rfl, le_b rfl⟩ ⟨Nat.zero_le _, Nat.zero_le _⟩ (le_b rfl) dX11_has__81 hw (fun t16 hw => ?_)
            refine R_icmp_eq (tgt := 89) hc dX11_has__84 (by decide) hw (fun hw => ?_) (fun hw => ?_)
            · refine R_iinc (q := 3) (i := 3) (v := l3_19) hc [(3, .int (l3_19 + (1 : Int32))), (0, rf x.w (some l0)), (1, .ref (x.w.aS l1)), (2, .int l2_8)] dX11_has__89 rfl (kC_1 _) (hnl 3 (le_b rfl)) rfl ?_
              refine R_goto (tgt := 60) hc dX11_has__92 (by decide) ?_
              refine R_sub hc [1, 2, 3, 0] rfl ?_
              exact hX (l3_19 + (1 : Int32)) (wpO_some hw :)
            · refine R_iconst (v := (0 : Int32)) hc dX11_has__87 kI_0 ?_
              exact R_ireturn hc hret rfl hQ ⟨_, rfl, (wpO_some hw :)⟩ dX11_has__88
      · refine R_iconst (v := (0 : Int32)) hc dX11_has__56 kI_0 ?_
        exact R_ireturn hc hret rfl hQ hw dX11_has__57
  · revert s hw
    intro l2_21 hw
    show Rn x 0 0 5 [(0, rf x.w (some l0)), (1, .ref (x.w.aS l1)), (2, .int l2_21)] [] h3
    have hw : wpO (sX11_has__L5 F l0 l1 l2_21 h3) _ := hw
    unfold sX11_has__L5 at hw
    refine R_iload_n (q := 2) (i := 2) (v := l2_21) hc dX11_has__5 rfl rfl ?_
    refine R_aload_n (q := 0) (i := 0) (v := (some l0)) hc dX11_has__6 rfl rfl ?_
    refine R_getI hc fl_11_229 dX11_has__7 hw (fun t4 hw => ?_)
    refine R_icmp_ge (tgt := 35) hc dX11_has__10 (by decide) hw (fun hw => ?_) (fun hw => ?_)
    · refine R_sub hc [0, 1, 2] rfl ?_
      exact (wpO_some hw :)
    · refine R_aload_n (q := 0) (i := 0) (v := (some l0)) hc dX11_has__13 rfl rfl ?_
      refine R_getR hc fl_11_19 dX11_has__14 hw (fun t5 hw => ?_)
      refine R_iload_n (q := 2) (i := 2) (v := l2_21) hc dX11_has__17 rfl rfl ?_
      refine R_iaload hc dX11_has__18 hw (fun t6 hw => ?_)
      refine R_bipush (v := (97 : Int32)) hc dX11_has__19 kB_97 ?_
      refine R_bipush (v := (122 : Int32)) hc dX11_has__21 kB_122 ?_
      refine R_cSI (As := [.int t6, .int (97 : Int32), .int (122 : Int32)]) (rest := []) hc ml_11_107 mf_X11_isIn ⟨rfl, rfl⟩ ⟨le_b rfl, le_b rfl⟩ ⟨Nat.zero_le _, Nat.zero_le _⟩ (fun v e => mt_X11_isIn e) rfl rfl (Nat.zero_le _) dX11_has__23 hw (fun t7 hw => ?_)
      refine R_if_eq (tgt := 35) hc dX11_has__26 (by decide) hw (fun hw => ?_) (fun hw => ?_)
      · refine R_sub hc [0, 1, 2] rfl ?_
        exact (wpO_some hw :)
      · refine R_iinc (q := 2) (i := 2) (v := l2_21) hc [(2, .int (l2_21 + (1 : Int32))), (0, rf x.w (some l0)), (1, .ref (x.w.aS l1))] dX11_has__29 rfl (kC_1 _) (hnl 2 (le_b rfl)) rfl ?_
        refine R_goto (tgt := 5) hc dX11_has__32 (by decide) ?_
        refine R_sub hc [1, 2, 0] rfl ?_
        exact hX (l2_21 + (1 : Int32)) (wpO_some hw :)
theorem dX11_expects_0 : decode cX11_expects 0 = .ok (.aload_n 0, 1) := by decide +kernel
theorem dX11_expects_1 : decode cX11_expects 1 = .ok (.getfield 22, 3) := by decide +kernel
theorem dX11_expects_4 : decode cX11_expects 4 = .ok (.iconst (-1), 1) := by decide +kernel
theorem dX11_expects_5 : decode cX11_expects 5 = .ok (.if_icmp .ne 19, 3) := by decide +kernel
theorem dX11_expects_8 : decode cX11_expects 8 = .ok (.aload_n 0, 1) := by decide +kernel
theorem dX11_expects_9 : decode cX11_expects 9 = .ok (.aload_n 1, 1) := by decide +kernel
theorem dX11_expects_10 : decode cX11_expects 10 = .ok (.invokevirtual 244, 3) := by decide +kernel
theorem dX11_expects_13 : decode cX11_expects 13 = .ok (.ifCond .ne 11, 3) := by decide +kernel
theorem dX11_expects_16 : decode cX11_expects 16 = .ok (.aload_n 0, 1) := by decide +kernel
theorem dX11_expects_17 : decode cX11_expects 17 = .ok (.aload_n 0, 1) := by decide +kernel
theorem dX11_expects_18 : decode cX11_expects 18 = .ok (.getfield 226, 3) := by decide +kernel
theorem dX11_expects_21 : decode cX11_expects 21 = .ok (.invokevirtual 247, 3) := by decide +kernel
theorem dX11_expects_24 : decode cX11_expects 24 = .ok (.return_, 1) := by decide +kernel
def sX11_expects (F : Nat) (l0 : Nat) (l1 : Nat) (h : HP) : Option HP :=
  (gI h 11 (some l0) 10).bind fun t1 =>
  if ¬ t1 = (-1 : Int32) then
    some h
  else
    (dO h 11 (some l0)).bind fun a2 =>
    bd2 (sX11_has_ F a2 l1 h) fun t3 h4 =>
    if ¬ t3 = 0 then
      some h4
    else
      (gI h4 11 (some l0) 9).bind fun t5 =>
      (dO h4 11 (some l0)).bind fun a6 =>
      (sX11_wrong F a6 t5 h4).bind fun h7 =>
      some h7
abbrev rm_X11_expects : Room := { frames := 5, cells := 0, slots := 0, locals := 108 }
set_option maxRecDepth 100000 in
set_option maxHeartbeats 4000000 in
theorem mt_X11_expects {w : WD} {l : Launch} {F : Nat} {l0 : Nat} {l1 : Nat} {h : HP} {h' : HP} (hs : sX11_expects F l0 l1 h = some h') : MV w l yX11_expects cX11_expects 2 rm_X11_expects 0 0 [rf w (some l0), .ref (w.aS l1)] h h' := by
  refine of_body [(0, rf w (some l0)), (1, .ref (w.aS l1))] (by decide) (by simp [lg_sl, rf_cat, cat_i, cat_l, cat_a]) (by simp [lv_args, rf_cat, cat_i, cat_l, cat_a]) ?_
  intro x hw_ hnL_ hl_ hc hret hnm hQ
  subst hw_; subst hl_
  have hnl : ∀ i, i < 2 → i < x.nL := fun i h => by rw [hnL_]; exact h
  have hw : wpO (sX11_expects F l0 l1 h) (fun r => r = h') := ⟨_, hs, rfl⟩
  unfold sX11_expects at hw
  refine R_aload_n (q := 0) (i := 0) (v := (some l0)) hc dX11_expects_0 rfl rfl ?_
  refine R_getI hc fl_11_22 dX11_expects_1 hw (fun t1 hw => ?_)
  refine R_iconst (v := (-1 : Int32)) hc dX11_expects_4 kI_m1 ?_
  refine R_icmp_ne (tgt := 24) hc dX11_expects_5 (by decide) hw (fun hw => ?_) (fun hw => ?_)
  · exact R_return hc hret hQ hw dX11_expects_24
  · refine R_aload_n (q := 0) (i := 0) (v := (some l0)) hc dX11_expects_8 rfl rfl ?_
    refine R_aloadS_n (q := 1) (i := 1) (v := l1) hc dX11_expects_9 rfl rfl ?_
    refine R_cVIi (As := [.ref (x.w.aS l1)]) (rest := []) (r := (some l0)) (ci := 11) hc ml_11_244 mf_X11_has_ rfl (by decide) ⟨rfl, rfl⟩ ⟨le_b rfl, le_b rfl⟩ ⟨Nat.zero_le _, Nat.zero_le _⟩ (fun a v h' e => mt_X11_has_ e) rfl rfl (Nat.zero_le _) dX11_expects_10 hw (fun t3 h4 hw => ?_)
    refine R_if_ne (tgt := 24) hc dX11_expects_13 (by decide) hw (fun hw => ?_) (fun hw => ?_)
    · exact R_return hc hret hQ hw dX11_expects_24
    · refine R_aload_n (q := 0) (i := 0) (v := (some l0)) hc dX11_expects_16 rfl rfl ?_
      refine R_aload_n (q := 0) (i := 0) (v := (some l0)) hc dX11_expects_17 rfl rfl ?_
      refine R_getI hc fl_11_226 dX11_expects_18 hw (fun t5 hw => ?_)
      refine R_cVVi (As := [.int t5]) (rest := []) (r := (some l0)) (ci := 11) hc ml_11_247 mf_X11_wrong rfl (by decide) ⟨rfl, rfl⟩ ⟨le_b rfl, le_b rfl⟩ ⟨Nat.zero_le _, Nat.zero_le _⟩ (fun a h' e => mt_X11_wrong e) rfl rfl (Nat.zero_le _) dX11_expects_21 hw (fun h7 hw => ?_)
      exact R_return hc hret hQ hw dX11_expects_24
theorem dX11_number_0 : decode cX11_number 0 = .ok (.aload_n 0, 1) := by decide +kernel
theorem dX11_number_1 : decode cX11_number 1 = .ok (.getfield 22, 3) := by decide +kernel
theorem dX11_number_4 : decode cX11_number 4 = .ok (.iconst (-1), 1) := by decide +kernel
theorem dX11_number_5 : decode cX11_number 5 = .ok (.if_icmp .eq 5, 3) := by decide +kernel
theorem dX11_number_8 : decode cX11_number 8 = .ok (.iconst 0, 1) := by decide +kernel
theorem dX11_number_9 : decode cX11_number 9 = .ok (.ireturn, 1) := by decide +kernel
theorem dX11_number_10 : decode cX11_number 10 = .ok (.aload_n 0, 1) := by decide +kernel
theorem dX11_number_11 : decode cX11_number 11 = .ok (.invokevirtual 232, 3) := by decide +kernel
theorem dX11_number_14 : decode cX11_number 14 = .ok (.istore_n 3, 1) := by decide +kernel
theorem dX11_number_15 : decode cX11_number 15 = .ok (.iconst 0, 1) := by decide +kernel
theorem dX11_number_16 : decode cX11_number 16 = .ok (.istore 4, 2) := by decide +kernel
theorem dX11_number_18 : decode cX11_number 18 = .ok (.aload_n 0, 1) := by decide +kernel
theorem dX11_number_19 : decode cX11_number 19 = .ok (.getfield 226, 3) := by decide +kernel
theorem dX11_number_22 : decode cX11_number 22 = .ok (.aload_n 0, 1) := by decide +kernel
theorem dX11_number_23 : decode cX11_number 23 = .ok (.getfield 229, 3) := by decide +kernel
theorem dX11_number_26 : decode cX11_number 26 = .ok (.if_icmp .ge 65, 3) := by decide +kernel
theorem dX11_number_29 : decode cX11_number 29 = .ok (.aload_n 0, 1) := by decide +kernel
theorem dX11_number_30 : decode cX11_number 30 = .ok (.getfield 19, 3) := by decide +kernel
theorem dX11_number_33 : decode cX11_number 33 = .ok (.aload_n 0, 1) := by decide +kernel
theorem dX11_number_34 : decode cX11_number 34 = .ok (.getfield 226, 3) := by decide +kernel
theorem dX11_number_37 : decode cX11_number 37 = .ok (.iaload, 1) := by decide +kernel
theorem dX11_number_38 : decode cX11_number 38 = .ok (.bipush 48, 2) := by decide +kernel
theorem dX11_number_40 : decode cX11_number 40 = .ok (.bipush 57, 2) := by decide +kernel
theorem dX11_number_42 : decode cX11_number 42 = .ok (.invokestatic 107, 3) := by decide +kernel
theorem dX11_number_45 : decode cX11_number 45 = .ok (.ifCond .eq 46, 3) := by decide +kernel
theorem dX11_number_48 : decode cX11_number 48 = .ok (.aload_n 0, 1) := by decide +kernel
theorem dX11_number_49 : decode cX11_number 49 = .ok (.getfield 226, 3) := by decide +kernel
theorem dX11_number_52 : decode cX11_number 52 = .ok (.iload_n 3, 1) := by decide +kernel
theorem dX11_number_53 : decode cX11_number 53 = .ok (.isub, 1) := by decide +kernel
theorem dX11_number_54 : decode cX11_number 54 = .ok (.iconst 2, 1) := by decide +kernel
theorem dX11_number_55 : decode cX11_number 55 = .ok (.if_icmp .gt 36, 3) := by decide +kernel
theorem dX11_number_58 : decode cX11_number 58 = .ok (.bipush 10, 2) := by decide +kernel
theorem dX11_number_60 : decode cX11_number 60 = .ok (.iload 4, 2) := by decide +kernel
theorem dX11_number_62 : decode cX11_number 62 = .ok (.imul, 1) := by decide +kernel
theorem dX11_number_63 : decode cX11_number 63 = .ok (.aload_n 0, 1) := by decide +kernel
theorem dX11_number_64 : decode cX11_number 64 = .ok (.getfield 19, 3) := by decide +kernel
theorem dX11_number_67 : decode cX11_number 67 = .ok (.aload_n 0, 1) := by decide +kernel
theorem dX11_number_68 : decode cX11_number 68 = .ok (.getfield 226, 3) := by decide +kernel
theorem dX11_number_71 : decode cX11_number 71 = .ok (.iaload, 1) := by decide +kernel
theorem dX11_number_72 : decode cX11_number 72 = .ok (.iadd, 1) := by decide +kernel
theorem dX11_number_73 : decode cX11_number 73 = .ok (.bipush 48, 2) := by decide +kernel
theorem dX11_number_75 : decode cX11_number 75 = .ok (.isub, 1) := by decide +kernel
theorem dX11_number_76 : decode cX11_number 76 = .ok (.istore 4, 2) := by decide +kernel
theorem dX11_number_78 : decode cX11_number 78 = .ok (.aload_n 0, 1) := by decide +kernel
theorem dX11_number_79 : decode cX11_number 79 = .ok (.dup, 1) := by decide +kernel
theorem dX11_number_80 : decode cX11_number 80 = .ok (.getfield 226, 3) := by decide +kernel
theorem dX11_number_83 : decode cX11_number 83 = .ok (.iconst 1, 1) := by decide +kernel
theorem dX11_number_84 : decode cX11_number 84 = .ok (.iadd, 1) := by decide +kernel
theorem dX11_number_85 : decode cX11_number 85 = .ok (.putfield 226, 3) := by decide +kernel
theorem dX11_number_88 : decode cX11_number 88 = .ok (.goto (-70), 3) := by decide +kernel
theorem dX11_number_91 : decode cX11_number 91 = .ok (.aload_n 0, 1) := by decide +kernel
theorem dX11_number_92 : decode cX11_number 92 = .ok (.getfield 226, 3) := by decide +kernel
theorem dX11_number_95 : decode cX11_number 95 = .ok (.iload_n 3, 1) := by decide +kernel
theorem dX11_number_96 : decode cX11_number 96 = .ok (.if_icmp .eq 25, 3) := by decide +kernel
theorem dX11_number_99 : decode cX11_number 99 = .ok (.aload_n 0, 1) := by decide +kernel
theorem dX11_number_100 : decode cX11_number 100 = .ok (.getfield 226, 3) := by decide +kernel
theorem dX11_number_103 : decode cX11_number 103 = .ok (.iload_n 3, 1) := by decide +kernel
theorem dX11_number_104 : decode cX11_number 104 = .ok (.isub, 1) := by decide +kernel
theorem dX11_number_105 : decode cX11_number 105 = .ok (.iconst 2, 1) := by decide +kernel
theorem dX11_number_106 : decode cX11_number 106 = .ok (.if_icmp .gt 15, 3) := by decide +kernel
theorem dX11_number_109 : decode cX11_number 109 = .ok (.iload 4, 2) := by decide +kernel
theorem dX11_number_111 : decode cX11_number 111 = .ok (.iload_n 1, 1) := by decide +kernel
theorem dX11_number_112 : decode cX11_number 112 = .ok (.if_icmp .lt 9, 3) := by decide +kernel
theorem dX11_number_115 : decode cX11_number 115 = .ok (.iload 4, 2) := by decide +kernel
theorem dX11_number_117 : decode cX11_number 117 = .ok (.iload_n 2, 1) := by decide +kernel
theorem dX11_number_118 : decode cX11_number 118 = .ok (.if_icmp .le 8, 3) := by decide +kernel
theorem dX11_number_121 : decode cX11_number 121 = .ok (.aload_n 0, 1) := by decide +kernel
theorem dX11_number_122 : decode cX11_number 122 = .ok (.iload_n 3, 1) := by decide +kernel
theorem dX11_number_123 : decode cX11_number 123 = .ok (.invokevirtual 247, 3) := by decide +kernel
theorem dX11_number_126 : decode cX11_number 126 = .ok (.iload 4, 2) := by decide +kernel
theorem dX11_number_128 : decode cX11_number 128 = .ok (.ireturn, 1) := by decide +kernel
def sX11_number_L18 (F : Nat) (l0 : Nat) (l1 : Int32) (l2 : Int32) (l3 : Int32) (l4 : Int32) (h : HP) : Option ((Int32 × HP) ⊕ (Int32 × HP)) :=
  (gI h 11 (some l0) 9).bind fun t5 =>
  (gI h 11 (some l0) 8).bind fun t6 =>
  if t6 ≤ t5 then
    some (.inr (l4, h))
  else
    (gR h 11 (some l0) 6).bind fun t7 =>
    (gI h 11 (some l0) 9).bind fun t8 =>
    (aI h 13 t7 t8).bind fun t9 =>
    (sX11_isIn F t9 (48 : Int32) (57 : Int32) h).bind fun t10 =>
    if t10 = 0 then
      some (.inr (l4, h))
    else
      (gI h 11 (some l0) 9).bind fun t11 =>
      if (2 : Int32) < (t11 - l3) then
        some (.inr (l4, h))
      else
        (gR h 11 (some l0) 6).bind fun t12 =>
        (gI h 11 (some l0) 9).bind fun t13 =>
        (aI h 13 t12 t13).bind fun t14 =>
        nmI ((((10 : Int32) * l4) + t14) - (48 : Int32)) fun l4_15 =>
        (gI h 11 (some l0) 9).bind fun t16 =>
        (pI h 11 (some l0) 9 (t16 + (1 : Int32))).bind fun h17 =>
        some (.inl (l4_15, h17))
def sX11_number (F : Nat) (l0 : Nat) (l1 : Int32) (l2 : Int32) (h : HP) : Option (Int32 × HP) :=
  (gI h 11 (some l0) 10).bind fun t1 =>
  if t1 = (-1 : Int32) then
    (dO h 11 (some l0)).bind fun a2 =>
    bd2 (sX11_here F a2 h) fun t3 h4 =>
    (iter (fun s => sX11_number_L18 F l0 l1 l2 t3 s.1 s.2) F ((0 : Int32), h4)).bind fun r => match r with
    | (l4_18, h19) =>
      (gI h19 11 (some l0) 9).bind fun t20 =>
      if t20 = t3 then
        (dO h19 11 (some l0)).bind fun a21 =>
        (sX11_wrong F a21 t3 h19).bind fun h22 =>
        some (l4_18, h22)
      else
        (gI h19 11 (some l0) 9).bind fun t23 =>
        if (2 : Int32) < (t23 - t3) then
          (dO h19 11 (some l0)).bind fun a24 =>
          (sX11_wrong F a24 t3 h19).bind fun h25 =>
          some (l4_18, h25)
        else
          if l4_18 < l1 then
            (dO h19 11 (some l0)).bind fun a26 =>
            (sX11_wrong F a26 t3 h19).bind fun h27 =>
            some (l4_18, h27)
          else
            if l4_18 ≤ l2 then
              some (l4_18, h19)
            else
              (dO h19 11 (some l0)).bind fun a28 =>
              (sX11_wrong F a28 t3 h19).bind fun h29 =>
              some (l4_18, h29)
  else
    some ((0 : Int32), h)
abbrev rm_X11_number : Room := { frames := 1, cells := 0, slots := 0, locals := 22 }
set_option maxRecDepth 100000 in
set_option maxHeartbeats 4000000 in
theorem mt_X11_number {w : WD} {l : Launch} {F : Nat} {l0 : Nat} {l1 : Int32} {l2 : Int32} {h : HP} {v : Int32} {h' : HP} (hs : sX11_number F l0 l1 l2 h = some (v, h')) : MI w l yX11_number cX11_number 5 .int rm_X11_number 0 0 [rf w (some l0), .int l1, .int l2] h v h' := by
  refine of_body [(0, rf w (some l0)), (1, .int l1), (2, .int l2)] (by decide) (by simp [lg_sl, rf_cat, cat_i, cat_l, cat_a]) (by simp [lv_args, rf_cat, cat_i, cat_l, cat_a]) ?_
  intro x hw_ hnL_ hl_ hc hret hnm hQ
  subst hw_; subst hl_
  have hnl : ∀ i, i < 5 → i < x.nL := fun i h => by rw [hnL_]; exact h
  have hw : wpO (sX11_number F l0 l1 l2 h) (fun r => r = (v, h')) := ⟨_, hs, rfl⟩
  unfold sX11_number at hw
  refine R_aload_n (q := 0) (i := 0) (v := (some l0)) hc dX11_number_0 rfl rfl ?_
  refine R_getI hc fl_11_22 dX11_number_1 hw (fun t1 hw => ?_)
  refine R_iconst (v := (-1 : Int32)) hc dX11_number_4 kI_m1 ?_
  refine R_icmp_eq (tgt := 10) hc dX11_number_5 (by decide) hw (fun hw => ?_) (fun hw => ?_)
  · refine R_aload_n (q := 0) (i := 0) (v := (some l0)) hc dX11_number_10 rfl rfl ?_
    refine R_cVIi (As := []) (rest := []) (r := (some l0)) (ci := 11) hc ml_11_232 mf_X11_here rfl (by decide) ⟨rfl, rfl⟩ ⟨le_b rfl, le_b rfl⟩ ⟨Nat.zero_le _, Nat.zero_le _⟩ (fun a v h' e => mt_X11_here e) rfl rfl (Nat.zero_le _) dX11_number_11 hw (fun t3 h4 hw => ?_)
    refine R_istore_n (i := 3) (v := t3) hc [(3, .int t3), (0, rf x.w (some l0)), (1, .int l1), (2, .int l2)] dX11_number_14 rfl (hnl 3 (le_b rfl)) rfl ?_
    refine R_iconst (v := (0 : Int32)) hc dX11_number_15 kI_0 ?_
    refine R_istore (i := 4) (v := (0 : Int32)) hc [(4, .int (0 : Int32)), (3, .int t3), (0, rf x.w (some l0)), (1, .int l1), (2, .int l2)] dX11_number_16 (hnl 4 (le_b rfl)) rfl ?_
    refine R_sub hc [2, 3, 4, 1, 0] rfl ?_
    refine R_loop (P := fun (s : (Int32 × HP)) => Rn x 0 0 18 [(0, rf x.w (some l0)), (1, .int l1), (2, .int l2), (3, .int t3), (4, .int s.1)] [] s.2) (fun r => match r with | (l4_18, h19) => Rn x 0 0 91 [(0, rf x.w (some l0)), (1, .int l1), (2, .int l2), (3, .int t3), (4, .int l4_18)] [] h19) hw (fun r hw => ?_) (fun X hX s hw => ?_)
    · obtain ⟨l4_18, h19⟩ := r
      show Rn x 0 0 91 [(0, rf x.w (some l0)), (1, .int l1), (2, .int l2), (3, .int t3), (4, .int l4_18)] [] h19
      refine R_aload_n (q := 0) (i := 0) (v := (some l0)) hc dX11_number_91 rfl rfl ?_
      refine R_getI hc fl_11_226 dX11_number_92 hw (fun t20 hw => ?_)
      refine R_iload_n (q := 3) (i := 3) (v := t3) hc dX11_number_95 rfl rfl ?_
      refine R_icmp_eq (tgt := 121) hc dX11_number_96 (by decide) hw (fun hw => ?_) (fun hw => ?_)
      · refine R_aload_n (q := 0) (i := 0) (v := (some l0)) hc dX11_number_121 rfl rfl ?_
        refine R_iload_n (q := 3) (i := 3) (v := t3) hc dX11_number_122 rfl rfl ?_
        refine R_cVVi (As := [.int t3]) (rest := []) (r := (some l0)) (ci := 11) hc ml_11_247 mf_X11_wrong rfl (by decide) ⟨rfl, rfl⟩ ⟨le_b rfl, le_b rfl⟩ ⟨Nat.zero_le _, Nat.zero_le _⟩ (fun a h' e => mt_X11_wrong e) rfl rfl (Nat.zero_le _) dX11_number_123 hw (fun h22 hw => ?_)
        refine R_iload (q := 4) (i := 4) (v := l4_18) hc dX11_number_126 rfl ?_
        exact R_ireturn hc hret rfl hQ hw dX11_number_128
      · refine R_aload_n (q := 0) (i := 0) (v := (some l0)) hc dX11_number_99 rfl rfl ?_
        refine R_getI hc fl_11_226 dX11_number_100 hw (fun t23 hw => ?_)
        refine R_iload_n (q := 3) (i := 3) (v := t3) hc dX11_number_103 rfl rfl ?_
        refine R_isub hc dX11_number_104 ?_
        refine R_iconst (v := (2 : Int32)) hc dX11_number_105 kI_2 ?_
        refine R_icmp_gt (tgt := 121) hc dX11_number_106 (by decide) hw (fun hw => ?_) (fun hw => ?_)
        · refine R_aload_n (q := 0) (i := 0) (v := (some l0)) hc dX11_number_121 rfl rfl ?_
          refine R_iload_n (q := 3) (i := 3) (v := t3) hc dX11_number_122 rfl rfl ?_
          refine R_cVVi (As := [.int t3]) (rest := []) (r := (some l0)) (ci := 11) hc ml_11_247 mf_X11_wrong rfl (by decide) ⟨rfl, rfl⟩ ⟨le_b rfl, le_b rfl⟩ ⟨Nat.zero_le _, Nat.zero_le _⟩ (fun a h' e => mt_X11_wrong e) rfl rfl (Nat.zero_le _) dX11_number_123 hw (fun h25 hw => ?_)
          refine R_iload (q := 4) (i := 4) (v := l4_18) hc dX11_number_126 rfl ?_
          exact R_ireturn hc hret rfl hQ hw dX11_number_128
        · refine R_iload (q := 4) (i := 4) (v := l4_18) hc dX11_number_109 rfl ?_
          refine R_iload_n (q := 1) (i := 1) (v := l1) hc dX11_number_111 rfl rfl ?_
          refine R_icmp_lt (tgt := 121) hc dX11_number_112 (by decide) hw (fun hw => ?_) (fun hw => ?_)
          · refine R_aload_n (q := 0) (i := 0) (v := (some l0)) hc dX11_number_121 rfl rfl ?_
            refine R_iload_n (q := 3) (i := 3) (v := t3) hc dX11_number_122 rfl rfl ?_
            refine R_cVVi (As := [.int t3]) (rest := []) (r := (some l0)) (ci := 11) hc ml_11_247 mf_X11_wrong rfl (by decide) ⟨rfl, rfl⟩ ⟨le_b rfl, le_b rfl⟩ ⟨Nat.zero_le _, Nat.zero_le _⟩ (fun a h' e => mt_X11_wrong e) rfl rfl (Nat.zero_le _) dX11_number_123 hw (fun h27 hw => ?_)
            refine R_iload (q := 4) (i := 4) (v := l4_18) hc dX11_number_126 rfl ?_
            exact R_ireturn hc hret rfl hQ hw dX11_number_128
          · refine R_iload (q := 4) (i := 4) (v := l4_18) hc dX11_number_115 rfl ?_
            refine R_iload_n (q := 2) (i := 2) (v := l2) hc dX11_number_117 rfl rfl ?_
            refine R_icmp_le (tgt := 126) hc dX11_number_118 (by decide) hw (fun hw => ?_) (fun hw => ?_)
            · refine R_iload (q := 4) (i := 4) (v := l4_18) hc dX11_number_126 rfl ?_
              exact R_ireturn hc hret rfl hQ hw dX11_number_128
            · refine R_aload_n (q := 0) (i := 0) (v := (some l0)) hc dX11_number_121 rfl rfl ?_
              refine R_iload_n (q := 3) (i := 3) (v := t3) hc dX11_number_122 rfl rfl ?_
              refine R_cVVi (As := [.int t3]) (rest := []) (r := (some l0)) (ci := 11) hc ml_11_247 mf_X11_wrong rfl (by decide) ⟨rfl, rfl⟩ ⟨le_b rfl, le_b rfl⟩ ⟨Nat.zero_le _, Nat.zero_le _⟩ (fun a h' e => mt_X11_wrong e) rfl rfl (Nat.zero_le _) dX11_number_123 hw (fun h29 hw => ?_)
              refine R_iload (q := 4) (i := 4) (v := l4_18) hc dX11_number_126 rfl ?_
              exact R_ireturn hc hret rfl hQ hw dX11_number_128
    · obtain ⟨l4_31, h32⟩ := s
      show Rn x 0 0 18 [(0, rf x.w (some l0)), (1, .int l1), (2, .int l2), (3, .int t3), (4, .int l4_31)] [] h32
      have hw : wpO (sX11_number_L18 F l0 l1 l2 t3 l4_31 h32) _ := hw
      unfold sX11_number_L18 at hw
      refine R_aload_n (q := 0) (i := 0) (v := (some l0)) hc dX11_number_18 rfl rfl ?_
      refine R_getI hc fl_11_226 dX11_number_19 hw (fun t5 hw => ?_)
      refine R_aload_n (q := 0) (i := 0) (v := (some l0)) hc dX11_number_22 rfl rfl ?_
      refine R_getI hc fl_11_229 dX11_number_23 hw (fun t6 hw => ?_)
      refine R_icmp_ge (tgt := 91) hc dX11_number_26 (by decide) hw (fun hw => ?_) (fun hw => ?_)
      · refine R_sub hc [0, 1, 2, 3, 4] rfl ?_
        exact (wpO_some hw :)
      · refine R_aload_n (q := 0) (i := 0) (v := (some l0)) hc dX11_number_29 rfl rfl ?_
        refine R_getR hc fl_11_19 dX11_number_30 hw (fun t7 hw => ?_)
        refine R_aload_n (q := 0) (i := 0) (v := (some l0)) hc dX11_number_33 rfl rfl ?_
        refine R_getI hc fl_11_226 dX11_number_34 hw (fun t8 hw => ?_)
        refine R_iaload hc dX11_number_37 hw (fun t9 hw => ?_)
        refine R_bipush (v := (48 : Int32)) hc dX11_number_38 kB_48 ?_
        refine R_bipush (v := (57 : Int32)) hc dX11_number_40 kB_57 ?_
        refine R_cSI (As := [.int t9, .int (48 : Int32), .int (57 : Int32)]) (rest := []) hc ml_11_107 mf_X11_isIn ⟨rfl, rfl⟩ ⟨le_b rfl, le_b rfl⟩ ⟨Nat.zero_le _, Nat.zero_le _⟩ (fun v e => mt_X11_isIn e) rfl rfl (Nat.zero_le _) dX11_number_42 hw (fun t10 hw => ?_)
        refine R_if_eq (tgt := 91) hc dX11_number_45 (by decide) hw (fun hw => ?_) (fun hw => ?_)
        · refine R_sub hc [0, 1, 2, 3, 4] rfl ?_
          exact (wpO_some hw :)
        · refine R_aload_n (q := 0) (i := 0) (v := (some l0)) hc dX11_number_48 rfl rfl ?_
          refine R_getI hc fl_11_226 dX11_number_49 hw (fun t11 hw => ?_)
          refine R_iload_n (q := 3) (i := 3) (v := t3) hc dX11_number_52 rfl rfl ?_
          refine R_isub hc dX11_number_53 ?_
          refine R_iconst (v := (2 : Int32)) hc dX11_number_54 kI_2 ?_
          refine R_icmp_gt (tgt := 91) hc dX11_number_55 (by decide) hw (fun hw => ?_) (fun hw => ?_)
          · refine R_sub hc [0, 1, 2, 3, 4] rfl ?_
            exact (wpO_some hw :)
          · refine R_bipush (v := (10 : Int32)) hc dX11_number_58 kB_10 ?_
            refine R_iload (q := 4) (i := 4) (v := l4_31) hc dX11_number_60 rfl ?_
            refine R_imul hc dX11_number_62 ?_
            refine R_aload_n (q := 0) (i := 0) (v := (some l0)) hc dX11_number_63 rfl rfl ?_
            refine R_getR hc fl_11_19 dX11_number_64 hw (fun t12 hw => ?_)
            refine R_aload_n (q := 0) (i := 0) (v := (some l0)) hc dX11_number_67 rfl rfl ?_
            refine R_getI hc fl_11_226 dX11_number_68 hw (fun t13 hw => ?_)
            refine R_iaload hc dX11_number_71 hw (fun t14 hw => ?_)
            refine R_iadd hc dX11_number_72 ?_
            refine R_bipush (v := (48 : Int32)) hc dX11_number_73 kB_48 ?_
            refine R_isub hc dX11_number_75 ?_
            refine R_nmI hw (fun l4_15 hw => ?_)
            refine R_istore (i := 4) (v := l4_15) hc [(4, .int l4_15), (0, rf x.w (some l0)), (1, .int l1), (2, .int l2), (3, .int t3)] dX11_number_76 (hnl 4 (le_b rfl)) rfl ?_
            refine R_aload_n (q := 1) (i := 0) (v := (some l0)) hc dX11_number_78 rfl rfl ?_
            refine R_dup hc dX11_number_79 (rf_cat _ _) ?_
            refine R_getI hc fl_11_226 dX11_number_80 hw (fun t16 hw => ?_)
            refine R_iconst (v := (1 : Int32)) hc dX11_number_83 kI_1 ?_
            refine R_iadd hc dX11_number_84 ?_
            refine R_putI hc pl_11_226 rfl rfl dX11_number_85 hw (fun h17 hw => ?_)
            refine R_goto (tgt := 18) hc dX11_number_88 (by decide) ?_
            refine R_sub hc [1, 2, 3, 4, 0] rfl ?_
            exact hX (l4_15, h17) (wpO_some hw :)
  · refine R_iconst (v := (0 : Int32)) hc dX11_number_8 kI_0 ?_
    exact R_ireturn hc hret rfl hQ hw dX11_number_9
