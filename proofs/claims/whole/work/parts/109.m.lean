theorem dX11_column_0 : decode cX11_column 0 = .ok (.aload_n 0, 1) := by decide +kernel
theorem dX11_column_1 : decode cX11_column 1 = .ok (.invokevirtual 304, 3) := by decide +kernel
theorem dX11_column_4 : decode cX11_column 4 = .ok (.aload_n 0, 1) := by decide +kernel
theorem dX11_column_5 : decode cX11_column 5 = .ok (.iload_n 1, 1) := by decide +kernel
theorem dX11_column_6 : decode cX11_column 6 = .ok (.iconst 0, 1) := by decide +kernel
theorem dX11_column_7 : decode cX11_column 7 = .ok (.aload_n 0, 1) := by decide +kernel
theorem dX11_column_8 : decode cX11_column 8 = .ok (.getfield 166, 3) := by decide +kernel
theorem dX11_column_11 : decode cX11_column 11 = .ok (.iconst 1, 1) := by decide +kernel
theorem dX11_column_12 : decode cX11_column 12 = .ok (.isub, 1) := by decide +kernel
theorem dX11_column_13 : decode cX11_column 13 = .ok (.invokestatic 107, 3) := by decide +kernel
theorem dX11_column_16 : decode cX11_column 16 = .ok (.ifCond .ne 7, 3) := by decide +kernel
theorem dX11_column_19 : decode cX11_column 19 = .ok (.iconst 1, 1) := by decide +kernel
theorem dX11_column_20 : decode cX11_column 20 = .ok (.goto 17, 3) := by decide +kernel
theorem dX11_column_23 : decode cX11_column 23 = .ok (.iload_n 2, 1) := by decide +kernel
theorem dX11_column_24 : decode cX11_column 24 = .ok (.iconst 0, 1) := by decide +kernel
theorem dX11_column_25 : decode cX11_column 25 = .ok (.iconst 3, 1) := by decide +kernel
theorem dX11_column_26 : decode cX11_column 26 = .ok (.invokestatic 107, 3) := by decide +kernel
theorem dX11_column_29 : decode cX11_column 29 = .ok (.ifCond .ne 7, 3) := by decide +kernel
theorem dX11_column_32 : decode cX11_column 32 = .ok (.iconst 2, 1) := by decide +kernel
theorem dX11_column_33 : decode cX11_column 33 = .ok (.goto 4, 3) := by decide +kernel
theorem dX11_column_36 : decode cX11_column 36 = .ok (.iconst 0, 1) := by decide +kernel
theorem dX11_column_37 : decode cX11_column 37 = .ok (.putfield 100, 3) := by decide +kernel
theorem dX11_column_40 : decode cX11_column 40 = .ok (.aload_n 0, 1) := by decide +kernel
theorem dX11_column_41 : decode cX11_column 41 = .ok (.getfield 100, 3) := by decide +kernel
theorem dX11_column_44 : decode cX11_column 44 = .ok (.ifCond .le 5, 3) := by decide +kernel
theorem dX11_column_47 : decode cX11_column 47 = .ok (.iconst 0, 1) := by decide +kernel
theorem dX11_column_48 : decode cX11_column 48 = .ok (.ireturn, 1) := by decide +kernel
theorem dX11_column_49 : decode cX11_column 49 = .ok (.iload_n 2, 1) := by decide +kernel
theorem dX11_column_50 : decode cX11_column 50 = .ok (.tableswitch 47 0 2 #[26, 33, 40], 26) := by decide +kernel
theorem dX11_column_76 : decode cX11_column 76 = .ok (.aload_n 0, 1) := by decide +kernel
theorem dX11_column_77 : decode cX11_column 77 = .ok (.getfield 54, 3) := by decide +kernel
theorem dX11_column_80 : decode cX11_column 80 = .ok (.iload_n 1, 1) := by decide +kernel
theorem dX11_column_81 : decode cX11_column 81 = .ok (.iaload, 1) := by decide +kernel
theorem dX11_column_82 : decode cX11_column 82 = .ok (.ireturn, 1) := by decide +kernel
theorem dX11_column_83 : decode cX11_column 83 = .ok (.aload_n 0, 1) := by decide +kernel
theorem dX11_column_84 : decode cX11_column 84 = .ok (.getfield 60, 3) := by decide +kernel
theorem dX11_column_87 : decode cX11_column 87 = .ok (.iload_n 1, 1) := by decide +kernel
theorem dX11_column_88 : decode cX11_column 88 = .ok (.iaload, 1) := by decide +kernel
theorem dX11_column_89 : decode cX11_column 89 = .ok (.ireturn, 1) := by decide +kernel
theorem dX11_column_90 : decode cX11_column 90 = .ok (.aload_n 0, 1) := by decide +kernel
theorem dX11_column_91 : decode cX11_column 91 = .ok (.getfield 57, 3) := by decide +kernel
theorem dX11_column_94 : decode cX11_column 94 = .ok (.iload_n 1, 1) := by decide +kernel
theorem dX11_column_95 : decode cX11_column 95 = .ok (.iaload, 1) := by decide +kernel
theorem dX11_column_96 : decode cX11_column 96 = .ok (.ireturn, 1) := by decide +kernel
theorem dX11_column_97 : decode cX11_column 97 = .ok (.aload_n 0, 1) := by decide +kernel
theorem dX11_column_98 : decode cX11_column 98 = .ok (.iload_n 1, 1) := by decide +kernel
theorem dX11_column_99 : decode cX11_column 99 = .ok (.invokevirtual 220, 3) := by decide +kernel
theorem dX11_column_102 : decode cX11_column 102 = .ok (.ireturn, 1) := by decide +kernel
def sX11_column (F : Nat) (l0 : Nat) (l1 : Int32) (l2 : Int32) (h : HP) : Option (Int32 × HP) :=
  (dO h 11 (some l0)).bind fun a1 =>
  (sX11_laysOut F a1 h).bind fun h2 =>
  (gI h2 11 (some l0) 27).bind fun t3 =>
  (sX11_isIn F l1 (0 : Int32) (t3 - (1 : Int32)) h2).bind fun t4 =>
  (if ¬ t4 = 0 then
      (sX11_isIn F l2 (0 : Int32) (3 : Int32) h2).bind fun t6 =>
      if ¬ t6 = 0 then
        some (0 : Int32)
      else
        some (2 : Int32)
    else
      some (1 : Int32)).bind fun s5 =>
  (pI h2 11 (some l0) 0 s5).bind fun h7 =>
  (gI h7 11 (some l0) 0).bind fun t8 =>
  if t8 ≤ 0 then
    if l2 = (0 : Int32) then
      (gR h7 11 (some l0) 23).bind fun t9 =>
      (aI h7 13 t9 l1).bind fun t10 =>
      some (t10, h7)
    else if l2 = (1 : Int32) then
      (gR h7 11 (some l0) 25).bind fun t11 =>
      (aI h7 13 t11 l1).bind fun t12 =>
      some (t12, h7)
    else if l2 = (2 : Int32) then
      (gR h7 11 (some l0) 24).bind fun t13 =>
      (aI h7 13 t13 l1).bind fun t14 =>
      some (t14, h7)
    else
      (dO h7 11 (some l0)).bind fun a15 =>
      (sX11_cut F a15 l1 h7).bind fun t16 =>
      some (t16, h7)
  else
    some ((0 : Int32), h7)
abbrev rm_X11_column : Room := { frames := 7, cells := 0, slots := 0, locals := 162 }
set_option maxRecDepth 100000 in
set_option maxHeartbeats 4000000 in
theorem mt_X11_column {w : WD} {l : Launch} {F : Nat} {l0 : Nat} {l1 : Int32} {l2 : Int32} {h : HP} {v : Int32} {h' : HP} (hs : sX11_column F l0 l1 l2 h = some (v, h')) : MI w l yX11_column cX11_column 3 .int rm_X11_column 0 0 [rf w (some l0), .int l1, .int l2] h v h' := by
  refine of_body [(0, rf w (some l0)), (1, .int l1), (2, .int l2)] (by decide) (by simp [lg_sl, rf_cat, cat_i, cat_l, cat_a]) (by simp [lv_args, rf_cat, cat_i, cat_l, cat_a]) ?_
  intro x hw_ hnL_ hl_ hc hret hnm hQ
  subst hw_; subst hl_
  have hnl : ∀ i, i < 3 → i < x.nL := fun i h => by rw [hnL_]; exact h
  have hw : wpO (sX11_column F l0 l1 l2 h) (fun r => r = (v, h')) := ⟨_, hs, rfl⟩
  unfold sX11_column at hw
  refine R_aload_n (q := 0) (i := 0) (v := (some l0)) hc dX11_column_0 rfl rfl ?_
  refine R_cVVi (As := []) (rest := []) (r := (some l0)) (ci := 11) hc ml_11_304 mf_X11_laysOut rfl (by decide) ⟨rfl, rfl⟩ ⟨le_b rfl, le_b rfl⟩ ⟨Nat.zero_le _, Nat.zero_le _⟩ (fun a h' e => mt_X11_laysOut e) rfl rfl (Nat.zero_le _) dX11_column_1 hw (fun h2 hw => ?_)
  refine R_aload_n (q := 0) (i := 0) (v := (some l0)) hc dX11_column_4 rfl rfl ?_
  refine R_iload_n (q := 1) (i := 1) (v := l1) hc dX11_column_5 rfl rfl ?_
  refine R_iconst (v := (0 : Int32)) hc dX11_column_6 kI_0 ?_
  refine R_aload_n (q := 0) (i := 0) (v := (some l0)) hc dX11_column_7 rfl rfl ?_
  refine R_getI hc fl_11_166 dX11_column_8 hw (fun t3 hw => ?_)
  refine R_iconst (v := (1 : Int32)) hc dX11_column_11 kI_1 ?_
  refine R_isub hc dX11_column_12 ?_
  refine R_cSI (As := [.int l1, .int (0 : Int32), .int (t3 - (1 : Int32))]) (rest := [rf x.w (some l0)]) hc ml_11_107 mf_X11_isIn ⟨rfl, rfl⟩ ⟨le_b rfl, le_b rfl⟩ ⟨Nat.zero_le _, Nat.zero_le _⟩ (fun v e => mt_X11_isIn e) rfl rfl (le_b rfl) dX11_column_13 hw (fun t4 hw => ?_)
  refine R_join (fun (s5 : Int32) => Rn x 0 0 37 [(0, rf x.w (some l0)), (1, .int l1), (2, .int l2)] [.int s5, rf x.w (some l0)] h2) hw (fun r hw => ?_) (fun hw => ?_)
  · revert r hw
    intro s5 hw
    show Rn x 0 0 37 [(0, rf x.w (some l0)), (1, .int l1), (2, .int l2)] [.int s5, rf x.w (some l0)] h2
    refine R_putI hc pl_11_100 rfl rfl dX11_column_37 hw (fun h7 hw => ?_)
    refine R_aload_n (q := 0) (i := 0) (v := (some l0)) hc dX11_column_40 rfl rfl ?_
    refine R_getI hc fl_11_100 dX11_column_41 hw (fun t8 hw => ?_)
    refine R_if_le (tgt := 49) hc dX11_column_44 (by decide) hw (fun hw => ?_) (fun hw => ?_)
    · refine R_iload_n (q := 2) (i := 2) (v := l2) hc dX11_column_49 rfl rfl ?_
      by_cases hk0 : l2 = (0 : Int32)
      · rw [if_pos hk0] at hw
        refine R_tsI (tgt := 76) hc dX11_column_50 (k := 0) (by rw [hk0]; decide) (by decide) (by decide) rfl (by decide) ?_
        refine R_aload_n (q := 0) (i := 0) (v := (some l0)) hc dX11_column_76 rfl rfl ?_
        refine R_getR hc fl_11_54 dX11_column_77 hw (fun t9 hw => ?_)
        refine R_iload_n (q := 1) (i := 1) (v := l1) hc dX11_column_80 rfl rfl ?_
        refine R_iaload hc dX11_column_81 hw (fun t10 hw => ?_)
        exact R_ireturn hc hret rfl hQ hw dX11_column_82
      rw [if_neg hk0] at hw
      by_cases hk1 : l2 = (1 : Int32)
      · rw [if_pos hk1] at hw
        refine R_tsI (tgt := 83) hc dX11_column_50 (k := 1) (by rw [hk1]; decide) (by decide) (by decide) rfl (by decide) ?_
        refine R_aload_n (q := 0) (i := 0) (v := (some l0)) hc dX11_column_83 rfl rfl ?_
        refine R_getR hc fl_11_60 dX11_column_84 hw (fun t11 hw => ?_)
        refine R_iload_n (q := 1) (i := 1) (v := l1) hc dX11_column_87 rfl rfl ?_
        refine R_iaload hc dX11_column_88 hw (fun t12 hw => ?_)
        exact R_ireturn hc hret rfl hQ hw dX11_column_89
      rw [if_neg hk1] at hw
      by_cases hk2 : l2 = (2 : Int32)
      · rw [if_pos hk2] at hw
        refine R_tsI (tgt := 90) hc dX11_column_50 (k := 2) (by rw [hk2]; decide) (by decide) (by decide) rfl (by decide) ?_
        refine R_aload_n (q := 0) (i := 0) (v := (some l0)) hc dX11_column_90 rfl rfl ?_
        refine R_getR hc fl_11_57 dX11_column_91 hw (fun t13 hw => ?_)
        refine R_iload_n (q := 1) (i := 1) (v := l1) hc dX11_column_94 rfl rfl ?_
        refine R_iaload hc dX11_column_95 hw (fun t14 hw => ?_)
        exact R_ireturn hc hret rfl hQ hw dX11_column_96
      rw [if_neg hk2] at hw
      refine R_tsO (tgt := 97) hc dX11_column_50 (by have q0 := lv_neT hk0 (a := 0) (by decide); have q1 := lv_neT hk1 (a := 1) (by decide); have q2 := lv_neT hk2 (a := 2) (by decide); omega) (by decide) ?_
      refine R_aload_n (q := 0) (i := 0) (v := (some l0)) hc dX11_column_97 rfl rfl ?_
      refine R_iload_n (q := 1) (i := 1) (v := l1) hc dX11_column_98 rfl rfl ?_
      refine R_cVI (As := [.int l1]) (rest := []) (r := (some l0)) (ci := 11) hc ml_11_220 mf_X11_cut rfl (by decide) ⟨rfl, rfl⟩ ⟨le_b rfl, le_b rfl⟩ ⟨Nat.zero_le _, Nat.zero_le _⟩ (fun a v e => mt_X11_cut e) rfl rfl (Nat.zero_le _) dX11_column_99 hw (fun t16 hw => ?_)
      exact R_ireturn hc hret rfl hQ hw dX11_column_102
    · refine R_iconst (v := (0 : Int32)) hc dX11_column_47 kI_0 ?_
      exact R_ireturn hc hret rfl hQ hw dX11_column_48
  · refine R_if_ne (tgt := 23) hc dX11_column_16 (by decide) hw (fun hw => ?_) (fun hw => ?_)
    · refine R_iload_n (q := 2) (i := 2) (v := l2) hc dX11_column_23 rfl rfl ?_
      refine R_iconst (v := (0 : Int32)) hc dX11_column_24 kI_0 ?_
      refine R_iconst (v := (3 : Int32)) hc dX11_column_25 kI_3 ?_
      refine R_cSI (As := [.int l2, .int (0 : Int32), .int (3 : Int32)]) (rest := [rf x.w (some l0)]) hc ml_11_107 mf_X11_isIn ⟨rfl, rfl⟩ ⟨le_b rfl, le_b rfl⟩ ⟨Nat.zero_le _, Nat.zero_le _⟩ (fun v e => mt_X11_isIn e) rfl rfl (le_b rfl) dX11_column_26 hw (fun t6 hw => ?_)
      refine R_if_ne (tgt := 36) hc dX11_column_29 (by decide) hw (fun hw => ?_) (fun hw => ?_)
      · refine R_iconst (v := (0 : Int32)) hc dX11_column_36 kI_0 ?_
        refine R_sub hc [0, 1, 2] rfl ?_
        exact (wpO_some hw :)
      · refine R_iconst (v := (2 : Int32)) hc dX11_column_32 kI_2 ?_
        refine R_goto (tgt := 37) hc dX11_column_33 (by decide) ?_
        refine R_sub hc [0, 1, 2] rfl ?_
        exact (wpO_some hw :)
    · refine R_iconst (v := (1 : Int32)) hc dX11_column_19 kI_1 ?_
      refine R_goto (tgt := 37) hc dX11_column_20 (by decide) ?_
      refine R_sub hc [0, 1, 2] rfl ?_
      exact (wpO_some hw :)
theorem dX11_net_0 : decode cX11_net 0 = .ok (.aload_n 0, 1) := by decide +kernel
theorem dX11_net_1 : decode cX11_net 1 = .ok (.iload_n 1, 1) := by decide +kernel
theorem dX11_net_2 : decode cX11_net 2 = .ok (.invokestatic 307, 3) := by decide +kernel
theorem dX11_net_5 : decode cX11_net 5 = .ok (.ifCond .ne 7, 3) := by decide +kernel
theorem dX11_net_8 : decode cX11_net 8 = .ok (.iconst 1, 1) := by decide +kernel
theorem dX11_net_9 : decode cX11_net 9 = .ok (.goto 18, 3) := by decide +kernel
theorem dX11_net_12 : decode cX11_net 12 = .ok (.iload_n 2, 1) := by decide +kernel
theorem dX11_net_13 : decode cX11_net 13 = .ok (.iconst 0, 1) := by decide +kernel
theorem dX11_net_14 : decode cX11_net 14 = .ok (.bipush 8, 2) := by decide +kernel
theorem dX11_net_16 : decode cX11_net 16 = .ok (.invokestatic 107, 3) := by decide +kernel
theorem dX11_net_19 : decode cX11_net 19 = .ok (.ifCond .ne 7, 3) := by decide +kernel
theorem dX11_net_22 : decode cX11_net 22 = .ok (.iconst 2, 1) := by decide +kernel
theorem dX11_net_23 : decode cX11_net 23 = .ok (.goto 4, 3) := by decide +kernel
theorem dX11_net_26 : decode cX11_net 26 = .ok (.iconst 0, 1) := by decide +kernel
theorem dX11_net_27 : decode cX11_net 27 = .ok (.putfield 100, 3) := by decide +kernel
theorem dX11_net_30 : decode cX11_net 30 = .ok (.aload_n 0, 1) := by decide +kernel
theorem dX11_net_31 : decode cX11_net 31 = .ok (.getfield 100, 3) := by decide +kernel
theorem dX11_net_34 : decode cX11_net 34 = .ok (.ifCond .le 5, 3) := by decide +kernel
theorem dX11_net_37 : decode cX11_net 37 = .ok (.iconst 0, 1) := by decide +kernel
theorem dX11_net_38 : decode cX11_net 38 = .ok (.ireturn, 1) := by decide +kernel
theorem dX11_net_39 : decode cX11_net 39 = .ok (.aload_n 0, 1) := by decide +kernel
theorem dX11_net_40 : decode cX11_net 40 = .ok (.invokevirtual 304, 3) := by decide +kernel
theorem dX11_net_43 : decode cX11_net 43 = .ok (.iload_n 2, 1) := by decide +kernel
theorem dX11_net_44 : decode cX11_net 44 = .ok (.tableswitch 112 0 7 #[48, 55, 62, 69, 80, 91, 98, 105], 48) := by decide +kernel
theorem dX11_net_92 : decode cX11_net 92 = .ok (.aload_n 0, 1) := by decide +kernel
theorem dX11_net_93 : decode cX11_net 93 = .ok (.getfield 66, 3) := by decide +kernel
theorem dX11_net_96 : decode cX11_net 96 = .ok (.iload_n 1, 1) := by decide +kernel
theorem dX11_net_97 : decode cX11_net 97 = .ok (.iaload, 1) := by decide +kernel
theorem dX11_net_98 : decode cX11_net 98 = .ok (.ireturn, 1) := by decide +kernel
theorem dX11_net_99 : decode cX11_net 99 = .ok (.aload_n 0, 1) := by decide +kernel
theorem dX11_net_100 : decode cX11_net 100 = .ok (.getfield 69, 3) := by decide +kernel
theorem dX11_net_103 : decode cX11_net 103 = .ok (.iload_n 1, 1) := by decide +kernel
theorem dX11_net_104 : decode cX11_net 104 = .ok (.iaload, 1) := by decide +kernel
theorem dX11_net_105 : decode cX11_net 105 = .ok (.ireturn, 1) := by decide +kernel
theorem dX11_net_106 : decode cX11_net 106 = .ok (.aload_n 0, 1) := by decide +kernel
theorem dX11_net_107 : decode cX11_net 107 = .ok (.getfield 72, 3) := by decide +kernel
theorem dX11_net_110 : decode cX11_net 110 = .ok (.iload_n 1, 1) := by decide +kernel
theorem dX11_net_111 : decode cX11_net 111 = .ok (.iaload, 1) := by decide +kernel
theorem dX11_net_112 : decode cX11_net 112 = .ok (.ireturn, 1) := by decide +kernel
theorem dX11_net_113 : decode cX11_net 113 = .ok (.aload_n 0, 1) := by decide +kernel
theorem dX11_net_114 : decode cX11_net 114 = .ok (.getfield 7, 3) := by decide +kernel
theorem dX11_net_117 : decode cX11_net 117 = .ok (.iconst 2, 1) := by decide +kernel
theorem dX11_net_118 : decode cX11_net 118 = .ok (.iaload, 1) := by decide +kernel
theorem dX11_net_119 : decode cX11_net 119 = .ok (.iload_n 1, 1) := by decide +kernel
theorem dX11_net_120 : decode cX11_net 120 = .ok (.ishr, 1) := by decide +kernel
theorem dX11_net_121 : decode cX11_net 121 = .ok (.iconst 1, 1) := by decide +kernel
theorem dX11_net_122 : decode cX11_net 122 = .ok (.iand, 1) := by decide +kernel
theorem dX11_net_123 : decode cX11_net 123 = .ok (.ireturn, 1) := by decide +kernel
theorem dX11_net_124 : decode cX11_net 124 = .ok (.aload_n 0, 1) := by decide +kernel
theorem dX11_net_125 : decode cX11_net 125 = .ok (.getfield 7, 3) := by decide +kernel
theorem dX11_net_128 : decode cX11_net 128 = .ok (.iconst 3, 1) := by decide +kernel
theorem dX11_net_129 : decode cX11_net 129 = .ok (.iaload, 1) := by decide +kernel
theorem dX11_net_130 : decode cX11_net 130 = .ok (.iload_n 1, 1) := by decide +kernel
theorem dX11_net_131 : decode cX11_net 131 = .ok (.ishr, 1) := by decide +kernel
theorem dX11_net_132 : decode cX11_net 132 = .ok (.iconst 1, 1) := by decide +kernel
theorem dX11_net_133 : decode cX11_net 133 = .ok (.iand, 1) := by decide +kernel
theorem dX11_net_134 : decode cX11_net 134 = .ok (.ireturn, 1) := by decide +kernel
theorem dX11_net_135 : decode cX11_net 135 = .ok (.aload_n 0, 1) := by decide +kernel
theorem dX11_net_136 : decode cX11_net 136 = .ok (.getfield 75, 3) := by decide +kernel
theorem dX11_net_139 : decode cX11_net 139 = .ok (.iload_n 1, 1) := by decide +kernel
theorem dX11_net_140 : decode cX11_net 140 = .ok (.iaload, 1) := by decide +kernel
theorem dX11_net_141 : decode cX11_net 141 = .ok (.ireturn, 1) := by decide +kernel
theorem dX11_net_142 : decode cX11_net 142 = .ok (.aload_n 0, 1) := by decide +kernel
theorem dX11_net_143 : decode cX11_net 143 = .ok (.getfield 78, 3) := by decide +kernel
theorem dX11_net_146 : decode cX11_net 146 = .ok (.iload_n 1, 1) := by decide +kernel
theorem dX11_net_147 : decode cX11_net 147 = .ok (.iaload, 1) := by decide +kernel
theorem dX11_net_148 : decode cX11_net 148 = .ok (.ireturn, 1) := by decide +kernel
theorem dX11_net_149 : decode cX11_net 149 = .ok (.aload_n 0, 1) := by decide +kernel
theorem dX11_net_150 : decode cX11_net 150 = .ok (.getfield 81, 3) := by decide +kernel
theorem dX11_net_153 : decode cX11_net 153 = .ok (.iload_n 1, 1) := by decide +kernel
theorem dX11_net_154 : decode cX11_net 154 = .ok (.iaload, 1) := by decide +kernel
theorem dX11_net_155 : decode cX11_net 155 = .ok (.ireturn, 1) := by decide +kernel
theorem dX11_net_156 : decode cX11_net 156 = .ok (.aload_n 0, 1) := by decide +kernel
theorem dX11_net_157 : decode cX11_net 157 = .ok (.getfield 84, 3) := by decide +kernel
theorem dX11_net_160 : decode cX11_net 160 = .ok (.iload_n 1, 1) := by decide +kernel
theorem dX11_net_161 : decode cX11_net 161 = .ok (.iaload, 1) := by decide +kernel
theorem dX11_net_162 : decode cX11_net 162 = .ok (.ireturn, 1) := by decide +kernel
def sX11_net (F : Nat) (l0 : Nat) (l1 : Int32) (l2 : Int32) (h : HP) : Option (Int32 × HP) :=
  (sX11_isNet F l1 h).bind fun t1 =>
  (if ¬ t1 = 0 then
      (sX11_isIn F l2 (0 : Int32) (8 : Int32) h).bind fun t3 =>
      if ¬ t3 = 0 then
        some (0 : Int32)
      else
        some (2 : Int32)
    else
      some (1 : Int32)).bind fun s2 =>
  (pI h 11 (some l0) 0 s2).bind fun h4 =>
  (gI h4 11 (some l0) 0).bind fun t5 =>
  if t5 ≤ 0 then
    (dO h4 11 (some l0)).bind fun a6 =>
    (sX11_laysOut F a6 h4).bind fun h7 =>
    if l2 = (0 : Int32) then
      (gR h7 11 (some l0) 28).bind fun t8 =>
      (aI h7 13 t8 l1).bind fun t9 =>
      some (t9, h7)
    else if l2 = (1 : Int32) then
      (gR h7 11 (some l0) 29).bind fun t10 =>
      (aI h7 13 t10 l1).bind fun t11 =>
      some (t11, h7)
    else if l2 = (2 : Int32) then
      (gR h7 11 (some l0) 30).bind fun t12 =>
      (aI h7 13 t12 l1).bind fun t13 =>
      some (t13, h7)
    else if l2 = (3 : Int32) then
      (gR h7 11 (some l0) 1).bind fun t14 =>
      (aI h7 13 t14 (2 : Int32)).bind fun t15 =>
      some ((jshr t15 l1) &&& (1 : Int32), h7)
    else if l2 = (4 : Int32) then
      (gR h7 11 (some l0) 1).bind fun t16 =>
      (aI h7 13 t16 (3 : Int32)).bind fun t17 =>
      some ((jshr t17 l1) &&& (1 : Int32), h7)
    else if l2 = (5 : Int32) then
      (gR h7 11 (some l0) 31).bind fun t18 =>
      (aI h7 13 t18 l1).bind fun t19 =>
      some (t19, h7)
    else if l2 = (6 : Int32) then
      (gR h7 11 (some l0) 32).bind fun t20 =>
      (aI h7 13 t20 l1).bind fun t21 =>
      some (t21, h7)
    else if l2 = (7 : Int32) then
      (gR h7 11 (some l0) 33).bind fun t22 =>
      (aI h7 13 t22 l1).bind fun t23 =>
      some (t23, h7)
    else
      (gR h7 11 (some l0) 34).bind fun t24 =>
      (aI h7 13 t24 l1).bind fun t25 =>
      some (t25, h7)
  else
    some ((0 : Int32), h4)
abbrev rm_X11_net : Room := { frames := 7, cells := 0, slots := 0, locals := 162 }
set_option maxRecDepth 100000 in
set_option maxHeartbeats 4000000 in
theorem mt_X11_net {w : WD} {l : Launch} {F : Nat} {l0 : Nat} {l1 : Int32} {l2 : Int32} {h : HP} {v : Int32} {h' : HP} (hs : sX11_net F l0 l1 l2 h = some (v, h')) : MI w l yX11_net cX11_net 3 .int rm_X11_net 0 0 [rf w (some l0), .int l1, .int l2] h v h' := by
  refine of_body [(0, rf w (some l0)), (1, .int l1), (2, .int l2)] (by decide) (by simp [lg_sl, rf_cat, cat_i, cat_l, cat_a]) (by simp [lv_args, rf_cat, cat_i, cat_l, cat_a]) ?_
  intro x hw_ hnL_ hl_ hc hret hnm hQ
  subst hw_; subst hl_
  have hnl : ∀ i, i < 3 → i < x.nL := fun i h => by rw [hnL_]; exact h
  have hw : wpO (sX11_net F l0 l1 l2 h) (fun r => r = (v, h')) := ⟨_, hs, rfl⟩
  unfold sX11_net at hw
  refine R_aload_n (q := 0) (i := 0) (v := (some l0)) hc dX11_net_0 rfl rfl ?_
  refine R_iload_n (q := 1) (i := 1) (v := l1) hc dX11_net_1 rfl rfl ?_
  refine R_cSI (As := [.int l1]) (rest := [rf x.w (some l0)]) hc ml_11_307 mf_X11_isNet ⟨rfl, rfl⟩ ⟨le_b rfl, le_b rfl⟩ ⟨Nat.zero_le _, Nat.zero_le _⟩ (fun v e => mt_X11_isNet e) rfl rfl (le_b rfl) dX11_net_2 hw (fun t1 hw => ?_)
  refine R_join (fun (s2 : Int32) => Rn x 0 0 27 [(0, rf x.w (some l0)), (1, .int l1), (2, .int l2)] [.int s2, rf x.w (some l0)] h) hw (fun r hw => ?_) (fun hw => ?_)
  · revert r hw
    intro s2 hw
    show Rn x 0 0 27 [(0, rf x.w (some l0)), (1, .int l1), (2, .int l2)] [.int s2, rf x.w (some l0)] h
    refine R_putI hc pl_11_100 rfl rfl dX11_net_27 hw (fun h4 hw => ?_)
    refine R_aload_n (q := 0) (i := 0) (v := (some l0)) hc dX11_net_30 rfl rfl ?_
    refine R_getI hc fl_11_100 dX11_net_31 hw (fun t5 hw => ?_)
    refine R_if_le (tgt := 39) hc dX11_net_34 (by decide) hw (fun hw => ?_) (fun hw => ?_)
    · refine R_aload_n (q := 0) (i := 0) (v := (some l0)) hc dX11_net_39 rfl rfl ?_
      refine R_cVVi (As := []) (rest := []) (r := (some l0)) (ci := 11) hc ml_11_304 mf_X11_laysOut rfl (by decide) ⟨rfl, rfl⟩ ⟨le_b rfl, le_b rfl⟩ ⟨Nat.zero_le _, Nat.zero_le _⟩ (fun a h' e => mt_X11_laysOut e) rfl rfl (Nat.zero_le _) dX11_net_40 hw (fun h7 hw => ?_)
      refine R_iload_n (q := 2) (i := 2) (v := l2) hc dX11_net_43 rfl rfl ?_
      by_cases hk0 : l2 = (0 : Int32)
      · rw [if_pos hk0] at hw
        refine R_tsI (tgt := 92) hc dX11_net_44 (k := 0) (by rw [hk0]; decide) (by decide) (by decide) rfl (by decide) ?_
        refine R_aload_n (q := 0) (i := 0) (v := (some l0)) hc dX11_net_92 rfl rfl ?_
        refine R_getR hc fl_11_66 dX11_net_93 hw (fun t8 hw => ?_)
        refine R_iload_n (q := 1) (i := 1) (v := l1) hc dX11_net_96 rfl rfl ?_
        refine R_iaload hc dX11_net_97 hw (fun t9 hw => ?_)
        exact R_ireturn hc hret rfl hQ hw dX11_net_98
      rw [if_neg hk0] at hw
      by_cases hk1 : l2 = (1 : Int32)
      · rw [if_pos hk1] at hw
        refine R_tsI (tgt := 99) hc dX11_net_44 (k := 1) (by rw [hk1]; decide) (by decide) (by decide) rfl (by decide) ?_
        refine R_aload_n (q := 0) (i := 0) (v := (some l0)) hc dX11_net_99 rfl rfl ?_
        refine R_getR hc fl_11_69 dX11_net_100 hw (fun t10 hw => ?_)
        refine R_iload_n (q := 1) (i := 1) (v := l1) hc dX11_net_103 rfl rfl ?_
        refine R_iaload hc dX11_net_104 hw (fun t11 hw => ?_)
        exact R_ireturn hc hret rfl hQ hw dX11_net_105
      rw [if_neg hk1] at hw
      by_cases hk2 : l2 = (2 : Int32)
      · rw [if_pos hk2] at hw
        refine R_tsI (tgt := 106) hc dX11_net_44 (k := 2) (by rw [hk2]; decide) (by decide) (by decide) rfl (by decide) ?_
        refine R_aload_n (q := 0) (i := 0) (v := (some l0)) hc dX11_net_106 rfl rfl ?_
        refine R_getR hc fl_11_72 dX11_net_107 hw (fun t12 hw => ?_)
        refine R_iload_n (q := 1) (i := 1) (v := l1) hc dX11_net_110 rfl rfl ?_
        refine R_iaload hc dX11_net_111 hw (fun t13 hw => ?_)
        exact R_ireturn hc hret rfl hQ hw dX11_net_112
      rw [if_neg hk2] at hw
      by_cases hk3 : l2 = (3 : Int32)
      · rw [if_pos hk3] at hw
        refine R_tsI (tgt := 113) hc dX11_net_44 (k := 3) (by rw [hk3]; decide) (by decide) (by decide) rfl (by decide) ?_
        refine R_aload_n (q := 0) (i := 0) (v := (some l0)) hc dX11_net_113 rfl rfl ?_
        refine R_getR hc fl_11_7 dX11_net_114 hw (fun t14 hw => ?_)
        refine R_iconst (v := (2 : Int32)) hc dX11_net_117 kI_2 ?_
        refine R_iaload hc dX11_net_118 hw (fun t15 hw => ?_)
        refine R_iload_n (q := 1) (i := 1) (v := l1) hc dX11_net_119 rfl rfl ?_
        refine R_ishr hc dX11_net_120 ?_
        refine R_iconst (v := (1 : Int32)) hc dX11_net_121 kI_1 ?_
        refine R_iand hc dX11_net_122 ?_
        exact R_ireturn hc hret rfl hQ hw dX11_net_123
      rw [if_neg hk3] at hw
      by_cases hk4 : l2 = (4 : Int32)
      · rw [if_pos hk4] at hw
        refine R_tsI (tgt := 124) hc dX11_net_44 (k := 4) (by rw [hk4]; decide) (by decide) (by decide) rfl (by decide) ?_
        refine R_aload_n (q := 0) (i := 0) (v := (some l0)) hc dX11_net_124 rfl rfl ?_
        refine R_getR hc fl_11_7 dX11_net_125 hw (fun t16 hw => ?_)
        refine R_iconst (v := (3 : Int32)) hc dX11_net_128 kI_3 ?_
        refine R_iaload hc dX11_net_129 hw (fun t17 hw => ?_)
        refine R_iload_n (q := 1) (i := 1) (v := l1) hc dX11_net_130 rfl rfl ?_
        refine R_ishr hc dX11_net_131 ?_
        refine R_iconst (v := (1 : Int32)) hc dX11_net_132 kI_1 ?_
        refine R_iand hc dX11_net_133 ?_
        exact R_ireturn hc hret rfl hQ hw dX11_net_134
      rw [if_neg hk4] at hw
      by_cases hk5 : l2 = (5 : Int32)
      · rw [if_pos hk5] at hw
        refine R_tsI (tgt := 135) hc dX11_net_44 (k := 5) (by rw [hk5]; decide) (by decide) (by decide) rfl (by decide) ?_
        refine R_aload_n (q := 0) (i := 0) (v := (some l0)) hc dX11_net_135 rfl rfl ?_
        refine R_getR hc fl_11_75 dX11_net_136 hw (fun t18 hw => ?_)
        refine R_iload_n (q := 1) (i := 1) (v := l1) hc dX11_net_139 rfl rfl ?_
        refine R_iaload hc dX11_net_140 hw (fun t19 hw => ?_)
        exact R_ireturn hc hret rfl hQ hw dX11_net_141
      rw [if_neg hk5] at hw
      by_cases hk6 : l2 = (6 : Int32)
      · rw [if_pos hk6] at hw
        refine R_tsI (tgt := 142) hc dX11_net_44 (k := 6) (by rw [hk6]; decide) (by decide) (by decide) rfl (by decide) ?_
        refine R_aload_n (q := 0) (i := 0) (v := (some l0)) hc dX11_net_142 rfl rfl ?_
        refine R_getR hc fl_11_78 dX11_net_143 hw (fun t20 hw => ?_)
        refine R_iload_n (q := 1) (i := 1) (v := l1) hc dX11_net_146 rfl rfl ?_
        refine R_iaload hc dX11_net_147 hw (fun t21 hw => ?_)
        exact R_ireturn hc hret rfl hQ hw dX11_net_148
      rw [if_neg hk6] at hw
      by_cases hk7 : l2 = (7 : Int32)
      · rw [if_pos hk7] at hw
        refine R_tsI (tgt := 149) hc dX11_net_44 (k := 7) (by rw [hk7]; decide) (by decide) (by decide) rfl (by decide) ?_
        refine R_aload_n (q := 0) (i := 0) (v := (some l0)) hc dX11_net_149 rfl rfl ?_
        refine R_getR hc fl_11_81 dX11_net_150 hw (fun t22 hw => ?_)
        refine R_iload_n (q := 1) (i := 1) (v := l1) hc dX11_net_153 rfl rfl ?_
        refine R_iaload hc dX11_net_154 hw (fun t23 hw => ?_)
        exact R_ireturn hc hret rfl hQ hw dX11_net_155
      rw [if_neg hk7] at hw
      refine R_tsO (tgt := 156) hc dX11_net_44 (by have q0 := lv_neT hk0 (a := 0) (by decide); have q1 := lv_neT hk1 (a := 1) (by decide); have q2 := lv_neT hk2 (a := 2) (by decide); have q3 := lv_neT hk3 (a := 3) (by decide); have q4 := lv_neT hk4 (a := 4) (by decide); have q5 := lv_neT hk5 (a := 5) (by decide); have q6 := lv_neT hk6 (a := 6) (by decide); have q7 := lv_neT hk7 (a := 7) (by decide); omega) (by decide) ?_
      refine R_aload_n (q := 0) (i := 0) (v := (some l0)) hc dX11_net_156 rfl rfl ?_
      refine R_getR hc fl_11_84 dX11_net_157 hw (fun t24 hw => ?_)
      refine R_iload_n (q := 1) (i := 1) (v := l1) hc dX11_net_160 rfl rfl ?_
      refine R_iaload hc dX11_net_161 hw (fun t25 hw => ?_)
      exact R_ireturn hc hret rfl hQ hw dX11_net_162
    · refine R_iconst (v := (0 : Int32)) hc dX11_net_37 kI_0 ?_
      exact R_ireturn hc hret rfl hQ hw dX11_net_38
  · refine R_if_ne (tgt := 12) hc dX11_net_5 (by decide) hw (fun hw => ?_) (fun hw => ?_)
    · refine R_iload_n (q := 2) (i := 2) (v := l2) hc dX11_net_12 rfl rfl ?_
      refine R_iconst (v := (0 : Int32)) hc dX11_net_13 kI_0 ?_
      refine R_bipush (v := (8 : Int32)) hc dX11_net_14 kB_8 ?_
      refine R_cSI (As := [.int l2, .int (0 : Int32), .int (8 : Int32)]) (rest := [rf x.w (some l0)]) hc ml_11_107 mf_X11_isIn ⟨rfl, rfl⟩ ⟨le_b rfl, le_b rfl⟩ ⟨Nat.zero_le _, Nat.zero_le _⟩ (fun v e => mt_X11_isIn e) rfl rfl (le_b rfl) dX11_net_16 hw (fun t3 hw => ?_)
      refine R_if_ne (tgt := 26) hc dX11_net_19 (by decide) hw (fun hw => ?_) (fun hw => ?_)
      · refine R_iconst (v := (0 : Int32)) hc dX11_net_26 kI_0 ?_
        refine R_sub hc [0, 1, 2] rfl ?_
        exact (wpO_some hw :)
      · refine R_iconst (v := (2 : Int32)) hc dX11_net_22 kI_2 ?_
        refine R_goto (tgt := 27) hc dX11_net_23 (by decide) ?_
        refine R_sub hc [0, 1, 2] rfl ?_
        exact (wpO_some hw :)
    · refine R_iconst (v := (1 : Int32)) hc dX11_net_8 kI_1 ?_
      refine R_goto (tgt := 27) hc dX11_net_9 (by decide) ?_
      refine R_sub hc [0, 1, 2] rfl ?_
      exact (wpO_some hw :)
theorem dX11_layout_0 : decode cX11_layout 0 = .ok (.aload_n 0, 1) := by decide +kernel
theorem dX11_layout_1 : decode cX11_layout 1 = .ok (.iload_n 1, 1) := by decide +kernel
theorem dX11_layout_2 : decode cX11_layout 2 = .ok (.iconst 0, 1) := by decide +kernel
theorem dX11_layout_3 : decode cX11_layout 3 = .ok (.bipush 11, 2) := by decide +kernel
theorem dX11_layout_5 : decode cX11_layout 5 = .ok (.invokestatic 107, 3) := by decide +kernel
theorem dX11_layout_8 : decode cX11_layout 8 = .ok (.ifCond .eq 7, 3) := by decide +kernel
theorem dX11_layout_11 : decode cX11_layout 11 = .ok (.iconst 0, 1) := by decide +kernel
theorem dX11_layout_12 : decode cX11_layout 12 = .ok (.goto 4, 3) := by decide +kernel
theorem dX11_layout_15 : decode cX11_layout 15 = .ok (.iconst 1, 1) := by decide +kernel
theorem dX11_layout_16 : decode cX11_layout 16 = .ok (.putfield 100, 3) := by decide +kernel
theorem dX11_layout_19 : decode cX11_layout 19 = .ok (.aload_n 0, 1) := by decide +kernel
theorem dX11_layout_20 : decode cX11_layout 20 = .ok (.getfield 100, 3) := by decide +kernel
theorem dX11_layout_23 : decode cX11_layout 23 = .ok (.ifCond .le 5, 3) := by decide +kernel
theorem dX11_layout_26 : decode cX11_layout 26 = .ok (.iconst 0, 1) := by decide +kernel
theorem dX11_layout_27 : decode cX11_layout 27 = .ok (.ireturn, 1) := by decide +kernel
theorem dX11_layout_28 : decode cX11_layout 28 = .ok (.aload_n 0, 1) := by decide +kernel
theorem dX11_layout_29 : decode cX11_layout 29 = .ok (.invokevirtual 304, 3) := by decide +kernel
theorem dX11_layout_32 : decode cX11_layout 32 = .ok (.iconst 0, 1) := by decide +kernel
theorem dX11_layout_33 : decode cX11_layout 33 = .ok (.istore_n 2, 1) := by decide +kernel
theorem dX11_layout_34 : decode cX11_layout 34 = .ok (.aload_n 0, 1) := by decide +kernel
theorem dX11_layout_35 : decode cX11_layout 35 = .ok (.invokevirtual 310, 3) := by decide +kernel
theorem dX11_layout_38 : decode cX11_layout 38 = .ok (.iload_n 2, 1) := by decide +kernel
theorem dX11_layout_39 : decode cX11_layout 39 = .ok (.ishr, 1) := by decide +kernel
theorem dX11_layout_40 : decode cX11_layout 40 = .ok (.ifCond .eq 9, 3) := by decide +kernel
theorem dX11_layout_43 : decode cX11_layout 43 = .ok (.iinc 2 1, 3) := by decide +kernel
theorem dX11_layout_46 : decode cX11_layout 46 = .ok (.goto (-12), 3) := by decide +kernel
theorem dX11_layout_49 : decode cX11_layout 49 = .ok (.iload_n 1, 1) := by decide +kernel
theorem dX11_layout_50 : decode cX11_layout 50 = .ok (.tableswitch 129 0 10 #[58, 63, 68, 73, 78, 99, 104, 112, 117, 119, 124], 58) := by decide +kernel
theorem dX11_layout_108 : decode cX11_layout 108 = .ok (.aload_n 0, 1) := by decide +kernel
theorem dX11_layout_109 : decode cX11_layout 109 = .ok (.invokevirtual 313, 3) := by decide +kernel
theorem dX11_layout_112 : decode cX11_layout 112 = .ok (.ireturn, 1) := by decide +kernel
theorem dX11_layout_113 : decode cX11_layout 113 = .ok (.aload_n 0, 1) := by decide +kernel
theorem dX11_layout_114 : decode cX11_layout 114 = .ok (.invokevirtual 316, 3) := by decide +kernel
theorem dX11_layout_117 : decode cX11_layout 117 = .ok (.ireturn, 1) := by decide +kernel
theorem dX11_layout_118 : decode cX11_layout 118 = .ok (.aload_n 0, 1) := by decide +kernel
theorem dX11_layout_119 : decode cX11_layout 119 = .ok (.getfield 166, 3) := by decide +kernel
theorem dX11_layout_122 : decode cX11_layout 122 = .ok (.ireturn, 1) := by decide +kernel
theorem dX11_layout_123 : decode cX11_layout 123 = .ok (.aload_n 0, 1) := by decide +kernel
theorem dX11_layout_124 : decode cX11_layout 124 = .ok (.invokevirtual 319, 3) := by decide +kernel
theorem dX11_layout_127 : decode cX11_layout 127 = .ok (.ireturn, 1) := by decide +kernel
theorem dX11_layout_128 : decode cX11_layout 128 = .ok (.aload_n 0, 1) := by decide +kernel
theorem dX11_layout_129 : decode cX11_layout 129 = .ok (.invokevirtual 322, 3) := by decide +kernel
theorem dX11_layout_132 : decode cX11_layout 132 = .ok (.iconst (-1), 1) := by decide +kernel
theorem dX11_layout_133 : decode cX11_layout 133 = .ok (.if_icmp .ne 7, 3) := by decide +kernel
theorem dX11_layout_136 : decode cX11_layout 136 = .ok (.iconst 0, 1) := by decide +kernel
theorem dX11_layout_137 : decode cX11_layout 137 = .ok (.goto 11, 3) := by decide +kernel
theorem dX11_layout_140 : decode cX11_layout 140 = .ok (.aload_n 0, 1) := by decide +kernel
theorem dX11_layout_141 : decode cX11_layout 141 = .ok (.aload_n 0, 1) := by decide +kernel
theorem dX11_layout_142 : decode cX11_layout 142 = .ok (.invokevirtual 322, 3) := by decide +kernel
theorem dX11_layout_145 : decode cX11_layout 145 = .ok (.invokevirtual 220, 3) := by decide +kernel
theorem dX11_layout_148 : decode cX11_layout 148 = .ok (.ireturn, 1) := by decide +kernel
theorem dX11_layout_149 : decode cX11_layout 149 = .ok (.aload_n 0, 1) := by decide +kernel
theorem dX11_layout_150 : decode cX11_layout 150 = .ok (.invokevirtual 322, 3) := by decide +kernel
theorem dX11_layout_153 : decode cX11_layout 153 = .ok (.ireturn, 1) := by decide +kernel
theorem dX11_layout_154 : decode cX11_layout 154 = .ok (.aload_n 0, 1) := by decide +kernel
theorem dX11_layout_155 : decode cX11_layout 155 = .ok (.invokevirtual 310, 3) := by decide +kernel
theorem dX11_layout_158 : decode cX11_layout 158 = .ok (.invokestatic 275, 3) := by decide +kernel
theorem dX11_layout_161 : decode cX11_layout 161 = .ok (.ireturn, 1) := by decide +kernel
theorem dX11_layout_162 : decode cX11_layout 162 = .ok (.aload_n 0, 1) := by decide +kernel
theorem dX11_layout_163 : decode cX11_layout 163 = .ok (.invokevirtual 325, 3) := by decide +kernel
theorem dX11_layout_166 : decode cX11_layout 166 = .ok (.ireturn, 1) := by decide +kernel
theorem dX11_layout_167 : decode cX11_layout 167 = .ok (.iload_n 2, 1) := by decide +kernel
theorem dX11_layout_168 : decode cX11_layout 168 = .ok (.ireturn, 1) := by decide +kernel
theorem dX11_layout_169 : decode cX11_layout 169 = .ok (.aload_n 0, 1) := by decide +kernel
theorem dX11_layout_170 : decode cX11_layout 170 = .ok (.invokevirtual 328, 3) := by decide +kernel
theorem dX11_layout_173 : decode cX11_layout 173 = .ok (.ireturn, 1) := by decide +kernel
theorem dX11_layout_174 : decode cX11_layout 174 = .ok (.aload_n 0, 1) := by decide +kernel
theorem dX11_layout_175 : decode cX11_layout 175 = .ok (.getfield 195, 3) := by decide +kernel
theorem dX11_layout_178 : decode cX11_layout 178 = .ok (.ireturn, 1) := by decide +kernel
theorem dX11_layout_179 : decode cX11_layout 179 = .ok (.aload_n 0, 1) := by decide +kernel
theorem dX11_layout_180 : decode cX11_layout 180 = .ok (.invokevirtual 329, 3) := by decide +kernel
theorem dX11_layout_183 : decode cX11_layout 183 = .ok (.ifCond .eq 7, 3) := by decide +kernel
theorem dX11_layout_186 : decode cX11_layout 186 = .ok (.iconst 1, 1) := by decide +kernel
theorem dX11_layout_187 : decode cX11_layout 187 = .ok (.goto 4, 3) := by decide +kernel
theorem dX11_layout_190 : decode cX11_layout 190 = .ok (.iconst 0, 1) := by decide +kernel
theorem dX11_layout_191 : decode cX11_layout 191 = .ok (.ireturn, 1) := by decide +kernel
def sX11_layout_L34 (F : Nat) (l0 : Nat) (l1 : Int32) (l2 : Int32) (h : HP) : Option (Int32 ⊕ Int32) :=
  (dO h 11 (some l0)).bind fun a7 =>
  (sX11_tracks F a7 h).bind fun t8 =>
  if (jshr t8 l2) = 0 then
    some (.inr l2)
  else
    some (.inl (l2 + (1 : Int32)))
def sX11_layout (F : Nat) (l0 : Nat) (l1 : Int32) (h : HP) : Option (Int32 × HP) :=
  (sX11_isIn F l1 (0 : Int32) (11 : Int32) h).bind fun t1 =>
  (if t1 = 0 then
      some (1 : Int32)
    else
      some (0 : Int32)).bind fun s2 =>
  (pI h 11 (some l0) 0 s2).bind fun h3 =>
  (gI h3 11 (some l0) 0).bind fun t4 =>
  if t4 ≤ 0 then
    (dO h3 11 (some l0)).bind fun a5 =>
    (sX11_laysOut F a5 h3).bind fun h6 =>
    (iter (fun s => sX11_layout_L34 F l0 l1 s h6) F (0 : Int32)).bind fun l2_9 =>
      if l1 = (0 : Int32) then
        (dO h6 11 (some l0)).bind fun a10 =>
        (sX11_gapsNow F a10 h6).bind fun t11 =>
        some (t11, h6)
      else if l1 = (1 : Int32) then
        (dO h6 11 (some l0)).bind fun a12 =>
        (sX11_breaksNow F a12 h6).bind fun t13 =>
        some (t13, h6)
      else if l1 = (2 : Int32) then
        (gI h6 11 (some l0) 27).bind fun t14 =>
        some (t14, h6)
      else if l1 = (3 : Int32) then
        (dO h6 11 (some l0)).bind fun a15 =>
        (sX11_wires F a15 h6).bind fun t16 =>
        some (t16, h6)
      else if l1 = (4 : Int32) then
        (dO h6 11 (some l0)).bind fun a17 =>
        (sX11_worst F a17 h6).bind fun t18 =>
        if ¬ t18 = (-1 : Int32) then
          (dO h6 11 (some l0)).bind fun a19 =>
          (sX11_worst F a19 h6).bind fun t20 =>
          (dO h6 11 (some l0)).bind fun a21 =>
          (sX11_cut F a21 t20 h6).bind fun t22 =>
          some (t22, h6)
        else
          some ((0 : Int32), h6)
      else if l1 = (5 : Int32) then
        (dO h6 11 (some l0)).bind fun a23 =>
        (sX11_worst F a23 h6).bind fun t24 =>
        some (t24, h6)
      else if l1 = (6 : Int32) then
        (dO h6 11 (some l0)).bind fun a25 =>
        (sX11_tracks F a25 h6).bind fun t26 =>
        (sX11_members F t26 h6).bind fun t27 =>
        some (t27, h6)
      else if l1 = (7 : Int32) then
        (dO h6 11 (some l0)).bind fun a28 =>
        (sX11_lost F a28 h6).bind fun t29 =>
        some (t29, h6)
      else if l1 = (8 : Int32) then
        some (l2_9, h6)
      else if l1 = (9 : Int32) then
        (dO h6 11 (some l0)).bind fun a30 =>
        (sX11_length F a30 h6).bind fun t31 =>
        some (t31, h6)
      else if l1 = (10 : Int32) then
        (gI h6 11 (some l0) 36).bind fun t32 =>
        some (t32, h6)
      else
        (dO h6 11 (some l0)).bind fun a33 =>
        (sX11_isSame F a33 h6).bind fun t34 =>
        if t34 = 0 then
          some ((0 : Int32), h6)
        else
          some ((1 : Int32), h6)
  else
    some ((0 : Int32), h3)
abbrev rm_X11_layout : Room := { frames := 7, cells := 0, slots := 0, locals := 162 }
set_option maxRecDepth 100000 in
set_option maxHeartbeats 4000000 in
theorem mt_X11_layout {w : WD} {l : Launch} {F : Nat} {l0 : Nat} {l1 : Int32} {h : HP} {v : Int32} {h' : HP} (hs : sX11_layout F l0 l1 h = some (v, h')) : MI w l yX11_layout cX11_layout 3 .int rm_X11_layout 0 0 [rf w (some l0), .int l1] h v h' := by
  refine of_body [(0, rf w (some l0)), (1, .int l1)] (by decide) (by simp [lg_sl, rf_cat, cat_i, cat_l, cat_a]) (by simp [lv_args, rf_cat, cat_i, cat_l, cat_a]) ?_
  intro x hw_ hnL_ hl_ hc hret hnm hQ
  subst hw_; subst hl_
  have hnl : ∀ i, i < 3 → i < x.nL := fun i h => by rw [hnL_]; exact h
  have hw : wpO (sX11_layout F l0 l1 h) (fun r => r = (v, h')) := ⟨_, hs, rfl⟩
  unfold sX11_layout at hw
  refine R_aload_n (q := 0) (i := 0) (v := (some l0)) hc dX11_layout_0 rfl rfl ?_
  refine R_iload_n (q := 1) (i := 1) (v := l1) hc dX11_layout_1 rfl rfl ?_
  refine R_iconst (v := (0 : Int32)) hc dX11_layout_2 kI_0 ?_
  refine R_bipush (v := (11 : Int32)) hc dX11_layout_3 kB_11 ?_
  refine R_cSI (As := [.int l1, .int (0 : Int32), .int (11 : Int32)]) (rest := [rf x.w (some l0)]) hc ml_11_107 mf_X11_isIn ⟨rfl, rfl⟩ ⟨le_b rfl, le_b rfl⟩ ⟨Nat.zero_le _, Nat.zero_le _⟩ (fun v e => mt_X11_isIn e) rfl rfl (le_b rfl) dX11_layout_5 hw (fun t1 hw => ?_)
  refine R_join (fun (s2 : Int32) => Rn x 0 0 16 [(0, rf x.w (some l0)), (1, .int l1)] [.int s2, rf x.w (some l0)] h) hw (fun r hw => ?_) (fun hw => ?_)
  · revert r hw
    intro s2 hw
    show Rn x 0 0 16 [(0, rf x.w (some l0)), (1, .int l1)] [.int s2, rf x.w (some l0)] h
    refine R_putI hc pl_11_100 rfl rfl dX11_layout_16 hw (fun h3 hw => ?_)
    refine R_aload_n (q := 0) (i := 0) (v := (some l0)) hc dX11_layout_19 rfl rfl ?_
    refine R_getI hc fl_11_100 dX11_layout_20 hw (fun t4 hw => ?_)
    refine R_if_le (tgt := 28) hc dX11_layout_23 (by decide) hw (fun hw => ?_) (fun hw => ?_)
    · refine R_aload_n (q := 0) (i := 0) (v := (some l0)) hc dX11_layout_28 rfl rfl ?_
      refine R_cVVi (As := []) (rest := []) (r := (some l0)) (ci := 11) hc ml_11_304 mf_X11_laysOut rfl (by decide) ⟨rfl, rfl⟩ ⟨le_b rfl, le_b rfl⟩ ⟨Nat.zero_le _, Nat.zero_le _⟩ (fun a h' e => mt_X11_laysOut e) rfl rfl (Nat.zero_le _) dX11_layout_29 hw (fun h6 hw => ?_)
      refine R_iconst (v := (0 : Int32)) hc dX11_layout_32 kI_0 ?_
      refine R_istore_n (i := 2) (v := (0 : Int32)) hc [(2, .int (0 : Int32)), (0, rf x.w (some l0)), (1, .int l1)] dX11_layout_33 rfl (hnl 2 (le_b rfl)) rfl ?_
      refine R_sub hc [1, 2, 0] rfl ?_
      refine R_loop (P := fun (s : Int32) => Rn x 0 0 34 [(0, rf x.w (some l0)), (1, .int l1), (2, .int s)] [] h6) (fun l2_9 => Rn x 0 0 49 [(0, rf x.w (some l0)), (1, .int l1), (2, .int l2_9)] [] h6) hw (fun r hw => ?_) (fun X hX s hw => ?_)
      · revert r hw
        intro l2_9 hw
        show Rn x 0 0 49 [(0, rf x.w (some l0)), (1, .int l1), (2, .int l2_9)] [] h6
        refine R_iload_n (q := 1) (i := 1) (v := l1) hc dX11_layout_49 rfl rfl ?_
        by_cases hk0 : l1 = (0 : Int32)
        · rw [if_pos hk0] at hw
          refine R_tsI (tgt := 108) hc dX11_layout_50 (k := 0) (by rw [hk0]; decide) (by decide) (by decide) rfl (by decide) ?_
          refine R_aload_n (q := 0) (i := 0) (v := (some l0)) hc dX11_layout_108 rfl rfl ?_
          refine R_cVI (As := []) (rest := []) (r := (some l0)) (ci := 11) hc ml_11_313 mf_X11_gapsNow rfl (by decide) ⟨rfl, rfl⟩ ⟨le_b rfl, le_b rfl⟩ ⟨Nat.zero_le _, Nat.zero_le _⟩ (fun a v e => mt_X11_gapsNow e) rfl rfl (Nat.zero_le _) dX11_layout_109 hw (fun t11 hw => ?_)
          exact R_ireturn hc hret rfl hQ hw dX11_layout_112
        rw [if_neg hk0] at hw
        by_cases hk1 : l1 = (1 : Int32)
        · rw [if_pos hk1] at hw
          refine R_tsI (tgt := 113) hc dX11_layout_50 (k := 1) (by rw [hk1]; decide) (by decide) (by decide) rfl (by decide) ?_
          refine R_aload_n (q := 0) (i := 0) (v := (some l0)) hc dX11_layout_113 rfl rfl ?_
          refine R_cVI (As := []) (rest := []) (r := (some l0)) (ci := 11) hc ml_11_316 mf_X11_breaksNow rfl (by decide) ⟨rfl, rfl⟩ ⟨le_b rfl, le_b rfl⟩ ⟨Nat.zero_le _, Nat.zero_le _⟩ (fun a v e => mt_X11_breaksNow e) rfl rfl (Nat.zero_le _) dX11_layout_114 hw (fun t13 hw => ?_)
          exact R_ireturn hc hret rfl hQ hw dX11_layout_117
        rw [if_neg hk1] at hw
        by_cases hk2 : l1 = (2 : Int32)
        · rw [if_pos hk2] at hw
          refine R_tsI (tgt := 118) hc dX11_layout_50 (k := 2) (by rw [hk2]; decide) (by decide) (by decide) rfl (by decide) ?_
          refine R_aload_n (q := 0) (i := 0) (v := (some l0)) hc dX11_layout_118 rfl rfl ?_
          refine R_getI hc fl_11_166 dX11_layout_119 hw (fun t14 hw => ?_)
          exact R_ireturn hc hret rfl hQ hw dX11_layout_122
        rw [if_neg hk2] at hw
        by_cases hk3 : l1 = (3 : Int32)
        · rw [if_pos hk3] at hw
          refine R_tsI (tgt := 123) hc dX11_layout_50 (k := 3) (by rw [hk3]; decide) (by decide) (by decide) rfl (by decide) ?_
          refine R_aload_n (q := 0) (i := 0) (v := (some l0)) hc dX11_layout_123 rfl rfl ?_
          refine R_cVI (As := []) (rest := []) (r := (some l0)) (ci := 11) hc ml_11_319 mf_X11_wires rfl (by decide) ⟨rfl, rfl⟩ ⟨le_b rfl, le_b rfl⟩ ⟨Nat.zero_le _, Nat.zero_le _⟩ (fun a v e => mt_X11_wires e) rfl rfl (Nat.zero_le _) dX11_layout_124 hw (fun t16 hw => ?_)
          exact R_ireturn hc hret rfl hQ hw dX11_layout_127
        rw [if_neg hk3] at hw
        by_cases hk4 : l1 = (4 : Int32)
        · rw [if_pos hk4] at hw
          refine R_tsI (tgt := 128) hc dX11_layout_50 (k := 4) (by rw [hk4]; decide) (by decide) (by decide) rfl (by decide) ?_
          refine R_aload_n (q := 0) (i := 0) (v := (some l0)) hc dX11_layout_128 rfl rfl ?_
          refine R_cVI (As := []) (rest := []) (r := (some l0)) (ci := 11) hc ml_11_322 mf_X11_worst rfl (by decide) ⟨rfl, rfl⟩ ⟨le_b rfl, le_b rfl⟩ ⟨Nat.zero_le _, Nat.zero_le _⟩ (fun a v e => mt_X11_worst e) rfl rfl (Nat.zero_le _) dX11_layout_129 hw (fun t18 hw => ?_)
          refine R_iconst (v := (-1 : Int32)) hc dX11_layout_132 kI_m1 ?_
          refine R_icmp_ne (tgt := 140) hc dX11_layout_133 (by decide) hw (fun hw => ?_) (fun hw => ?_)
          · refine R_aload_n (q := 0) (i := 0) (v := (some l0)) hc dX11_layout_140 rfl rfl ?_
            refine R_aload_n (q := 0) (i := 0) (v := (some l0)) hc dX11_layout_141 rfl rfl ?_
            refine R_cVI (As := []) (rest := [rf x.w (some l0)]) (r := (some l0)) (ci := 11) hc ml_11_322 mf_X11_worst rfl (by decide) ⟨rfl, rfl⟩ ⟨le_b rfl, le_b rfl⟩ ⟨Nat.zero_le _, Nat.zero_le _⟩ (fun a v e => mt_X11_worst e) rfl rfl (le_b rfl) dX11_layout_142 hw (fun t20 hw => ?_)
            refine R_cVI (As := [.int t20]) (rest := []) (r := (some l0)) (ci := 11) hc ml_11_220 mf_X11_cut rfl (by decide) ⟨rfl, rfl⟩ ⟨le_b rfl, le_b rfl⟩ ⟨Nat.zero_le _, Nat.zero_le _⟩ (fun a v e => mt_X11_cut e) rfl rfl (Nat.zero_le _) dX11_layout_145 hw (fun t22 hw => ?_)
            exact R_ireturn hc hret rfl hQ hw dX11_layout_148
          · refine R_iconst (v := (0 : Int32)) hc dX11_layout_136 kI_0 ?_
            refine R_goto (tgt := 148) hc dX11_layout_137 (by decide) ?_
            exact R_ireturn hc hret rfl hQ hw dX11_layout_148
        rw [if_neg hk4] at hw
        by_cases hk5 : l1 = (5 : Int32)
        · rw [if_pos hk5] at hw
          refine R_tsI (tgt := 149) hc dX11_layout_50 (k := 5) (by rw [hk5]; decide) (by decide) (by decide) rfl (by decide) ?_
          refine R_aload_n (q := 0) (i := 0) (v := (some l0)) hc dX11_layout_149 rfl rfl ?_
          refine R_cVI (As := []) (rest := []) (r := (some l0)) (ci := 11) hc ml_11_322 mf_X11_worst rfl (by decide) ⟨rfl, rfl⟩ ⟨le_b rfl, le_b rfl⟩ ⟨Nat.zero_le _, Nat.zero_le _⟩ (fun a v e => mt_X11_worst e) rfl rfl (Nat.zero_le _) dX11_layout_150 hw (fun t24 hw => ?_)
          exact R_ireturn hc hret rfl hQ hw dX11_layout_153
        rw [if_neg hk5] at hw
        by_cases hk6 : l1 = (6 : Int32)
        · rw [if_pos hk6] at hw
          refine R_tsI (tgt := 154) hc dX11_layout_50 (k := 6) (by rw [hk6]; decide) (by decide) (by decide) rfl (by decide) ?_
          refine R_aload_n (q := 0) (i := 0) (v := (some l0)) hc dX11_layout_154 rfl rfl ?_
          refine R_cVI (As := []) (rest := []) (r := (some l0)) (ci := 11) hc ml_11_310 mf_X11_tracks rfl (by decide) ⟨rfl, rfl⟩ ⟨le_b rfl, le_b rfl⟩ ⟨Nat.zero_le _, Nat.zero_le _⟩ (fun a v e => mt_X11_tracks e) rfl rfl (Nat.zero_le _) dX11_layout_155 hw (fun t26 hw => ?_)
          refine R_cSI (As := [.int t26]) (rest := []) hc ml_11_275 mf_X11_members ⟨rfl, rfl⟩ ⟨le_b rfl, le_b rfl⟩ ⟨Nat.zero_le _, Nat.zero_le _⟩ (fun v e => mt_X11_members e) rfl rfl (Nat.zero_le _) dX11_layout_158 hw (fun t27 hw => ?_)
          exact R_ireturn hc hret rfl hQ hw dX11_layout_161
        rw [if_neg hk6] at hw
        by_cases hk7 : l1 = (7 : Int32)
        · rw [if_pos hk7] at hw
          refine R_tsI (tgt := 162) hc dX11_layout_50 (k := 7) (by rw [hk7]; decide) (by decide) (by decide) rfl (by decide) ?_
          refine R_aload_n (q := 0) (i := 0) (v := (some l0)) hc dX11_layout_162 rfl rfl ?_
          refine R_cVI (As := []) (rest := []) (r := (some l0)) (ci := 11) hc ml_11_325 mf_X11_lost rfl (by decide) ⟨rfl, rfl⟩ ⟨le_b rfl, le_b rfl⟩ ⟨Nat.zero_le _, Nat.zero_le _⟩ (fun a v e => mt_X11_lost e) rfl rfl (Nat.zero_le _) dX11_layout_163 hw (fun t29 hw => ?_)
          exact R_ireturn hc hret rfl hQ hw dX11_layout_166
        rw [if_neg hk7] at hw
        by_cases hk8 : l1 = (8 : Int32)
        · rw [if_pos hk8] at hw
          refine R_tsI (tgt := 167) hc dX11_layout_50 (k := 8) (by rw [hk8]; decide) (by decide) (by decide) rfl (by decide) ?_
          refine R_iload_n (q := 2) (i := 2) (v := l2_9) hc dX11_layout_167 rfl rfl ?_
          exact R_ireturn hc hret rfl hQ hw dX11_layout_168
        rw [if_neg hk8] at hw
        by_cases hk9 : l1 = (9 : Int32)
        · rw [if_pos hk9] at hw
          refine R_tsI (tgt := 169) hc dX11_layout_50 (k := 9) (by rw [hk9]; decide) (by decide) (by decide) rfl (by decide) ?_
          refine R_aload_n (q := 0) (i := 0) (v := (some l0)) hc dX11_layout_169 rfl rfl ?_
          refine R_cVI (As := []) (rest := []) (r := (some l0)) (ci := 11) hc ml_11_328 mf_X11_length rfl (by decide) ⟨rfl, rfl⟩ ⟨le_b rfl, le_b rfl⟩ ⟨Nat.zero_le _, Nat.zero_le _⟩ (fun a v e => mt_X11_length e) rfl rfl (Nat.zero_le _) dX11_layout_170 hw (fun t31 hw => ?_)
          exact R_ireturn hc hret rfl hQ hw dX11_layout_173
        rw [if_neg hk9] at hw
        by_cases hk10 : l1 = (10 : Int32)
        · rw [if_pos hk10] at hw
          refine R_tsI (tgt := 174) hc dX11_layout_50 (k := 10) (by rw [hk10]; decide) (by decide) (by decide) rfl (by decide) ?_
          refine R_aload_n (q := 0) (i := 0) (v := (some l0)) hc dX11_layout_174 rfl rfl ?_
          refine R_getI hc fl_11_195 dX11_layout_175 hw (fun t32 hw => ?_)
          exact R_ireturn hc hret rfl hQ hw dX11_layout_178
        rw [if_neg hk10] at hw
        refine R_tsO (tgt := 179) hc dX11_layout_50 (by have q0 := lv_neT hk0 (a := 0) (by decide); have q1 := lv_neT hk1 (a := 1) (by decide); have q2 := lv_neT hk2 (a := 2) (by decide); have q3 := lv_neT hk3 (a := 3) (by decide); have q4 := lv_neT hk4 (a := 4) (by decide); have q5 := lv_neT hk5 (a := 5) (by decide); have q6 := lv_neT hk6 (a := 6) (by decide); have q7 := lv_neT hk7 (a := 7) (by decide); have q8 := lv_neT hk8 (a := 8) (by decide); have q9 := lv_neT hk9 (a := 9) (by decide); have q10 := lv_neT hk10 (a := 10) (by decide); omega) (by decide) ?_
        refine R_aload_n (q := 0) (i := 0) (v := (some l0)) hc dX11_layout_179 rfl rfl ?_
        refine R_cVI (As := []) (rest := []) (r := (some l0)) (ci := 11) hc ml_11_329 mf_X11_isSame rfl (by decide) ⟨rfl, rfl⟩ ⟨le_b rfl, le_b rfl⟩ ⟨Nat.zero_le _, Nat.zero_le _⟩ (fun a v e => mt_X11_isSame e) rfl rfl (Nat.zero_le _) dX11_layout_180 hw (fun t34 hw => ?_)
        refine R_if_eq (tgt := 190) hc dX11_layout_183 (by decide) hw (fun hw => ?_) (fun hw => ?_)
        · refine R_iconst (v := (0 : Int32)) hc dX11_layout_190 kI_0 ?_
          exact R_ireturn hc hret rfl hQ hw dX11_layout_191
        · refine R_iconst (v := (1 : Int32)) hc dX11_layout_186 kI_1 ?_
          refine R_goto (tgt := 191) hc dX11_layout_187 (by decide) ?_
          exact R_ireturn hc hret rfl hQ hw dX11_layout_191
      · revert s hw
        intro l2_36 hw
        show Rn x 0 0 34 [(0, rf x.w (some l0)), (1, .int l1), (2, .int l2_36)] [] h6
        have hw : wpO (sX11_layout_L34 F l0 l1 l2_36 h6) _ := hw
        unfold sX11_layout_L34 at hw
        refine R_aload_n (q := 0) (i := 0) (v := (some l0)) hc dX11_layout_34 rfl rfl ?_
        refine R_cVI (As := []) (rest := []) (r := (some l0)) (ci := 11) hc ml_11_310 mf_X11_tracks rfl (by decide) ⟨rfl, rfl⟩ ⟨le_b rfl, le_b rfl⟩ ⟨Nat.zero_le _, Nat.zero_le _⟩ (fun a v e => mt_X11_tracks e) rfl rfl (Nat.zero_le _) dX11_layout_35 hw (fun t8 hw => ?_)
        refine R_iload_n (q := 2) (i := 2) (v := l2_36) hc dX11_layout_38 rfl rfl ?_
        refine R_ishr hc dX11_layout_39 ?_
        refine R_if_eq (tgt := 49) hc dX11_layout_40 (by decide) hw (fun hw => ?_) (fun hw => ?_)
        · refine R_sub hc [0, 1, 2] rfl ?_
          exact (wpO_some hw :)
        · refine R_iinc (q := 2) (i := 2) (v := l2_36) hc [(2, .int (l2_36 + (1 : Int32))), (0, rf x.w (some l0)), (1, .int l1)] dX11_layout_43 rfl (kC_1 _) (hnl 2 (le_b rfl)) rfl ?_
          refine R_goto (tgt := 34) hc dX11_layout_46 (by decide) ?_
          refine R_sub hc [1, 2, 0] rfl ?_
          exact hX (l2_36 + (1 : Int32)) (wpO_some hw :)
    · refine R_iconst (v := (0 : Int32)) hc dX11_layout_26 kI_0 ?_
      exact R_ireturn hc hret rfl hQ hw dX11_layout_27
  · refine R_if_eq (tgt := 15) hc dX11_layout_8 (by decide) hw (fun hw => ?_) (fun hw => ?_)
    · refine R_iconst (v := (1 : Int32)) hc dX11_layout_15 kI_1 ?_
      refine R_sub hc [0, 1] rfl ?_
      exact (wpO_some hw :)
    · refine R_iconst (v := (0 : Int32)) hc dX11_layout_11 kI_0 ?_
      refine R_goto (tgt := 16) hc dX11_layout_12 (by decide) ?_
      refine R_sub hc [0, 1] rfl ?_
      exact (wpO_some hw :)
theorem dX11_least_0 : decode cX11_least 0 = .ok (.aload_n 0, 1) := by decide +kernel
theorem dX11_least_1 : decode cX11_least 1 = .ok (.iconst 0, 1) := by decide +kernel
theorem dX11_least_2 : decode cX11_least 2 = .ok (.putfield 100, 3) := by decide +kernel
theorem dX11_least_5 : decode cX11_least 5 = .ok (.aload_n 0, 1) := by decide +kernel
theorem dX11_least_6 : decode cX11_least 6 = .ok (.invokevirtual 333, 3) := by decide +kernel
theorem dX11_least_9 : decode cX11_least 9 = .ok (.aload_n 0, 1) := by decide +kernel
theorem dX11_least_10 : decode cX11_least 10 = .ok (.getfield 142, 3) := by decide +kernel
theorem dX11_least_13 : decode cX11_least 13 = .ok (.ireturn, 1) := by decide +kernel
def sX11_least (F : Nat) (l0 : Nat) (h : HP) : Option (Int32 × HP) :=
  (pI h 11 (some l0) 0 (0 : Int32)).bind fun h1 =>
  (dO h1 11 (some l0)).bind fun a2 =>
  (sX11_laysBest F a2 h1).bind fun h3 =>
  (gI h3 11 (some l0) 17).bind fun t4 =>
  some (t4, h3)
abbrev rm_X11_least : Room := { frames := 7, cells := 0, slots := 0, locals := 174 }
set_option maxRecDepth 100000 in
set_option maxHeartbeats 4000000 in
theorem mt_X11_least {w : WD} {l : Launch} {F : Nat} {l0 : Nat} {h : HP} {v : Int32} {h' : HP} (hs : sX11_least F l0 h = some (v, h')) : MI w l yX11_least cX11_least 1 .int rm_X11_least 0 0 [rf w (some l0)] h v h' := by
  refine of_body [(0, rf w (some l0))] (by decide) (by simp [lg_sl, rf_cat, cat_i, cat_l, cat_a]) (by simp [lv_args, rf_cat, cat_i, cat_l, cat_a]) ?_
  intro x hw_ hnL_ hl_ hc hret hnm hQ
  subst hw_; subst hl_
  have hnl : ∀ i, i < 1 → i < x.nL := fun i h => by rw [hnL_]; exact h
  have hw : wpO (sX11_least F l0 h) (fun r => r = (v, h')) := ⟨_, hs, rfl⟩
  unfold sX11_least at hw
  refine R_aload_n (q := 0) (i := 0) (v := (some l0)) hc dX11_least_0 rfl rfl ?_
  refine R_iconst (v := (0 : Int32)) hc dX11_least_1 kI_0 ?_
  refine R_putI hc pl_11_100 rfl rfl dX11_least_2 hw (fun h1 hw => ?_)
  refine R_aload_n (q := 0) (i := 0) (v := (some l0)) hc dX11_least_5 rfl rfl ?_
  refine R_cVVi (As := []) (rest := []) (r := (some l0)) (ci := 11) hc ml_11_333 mf_X11_laysBest rfl (by decide) ⟨rfl, rfl⟩ ⟨le_b rfl, le_b rfl⟩ ⟨Nat.zero_le _, Nat.zero_le _⟩ (fun a h' e => mt_X11_laysBest e) rfl rfl (Nat.zero_le _) dX11_least_6 hw (fun h3 hw => ?_)
  refine R_aload_n (q := 0) (i := 0) (v := (some l0)) hc dX11_least_9 rfl rfl ?_
  refine R_getI hc fl_11_142 dX11_least_10 hw (fun t4 hw => ?_)
  exact R_ireturn hc hret rfl hQ hw dX11_least_13
theorem dX11_many_0 : decode cX11_many 0 = .ok (.aload_n 0, 1) := by decide +kernel
theorem dX11_many_1 : decode cX11_many 1 = .ok (.iconst 0, 1) := by decide +kernel
theorem dX11_many_2 : decode cX11_many 2 = .ok (.putfield 100, 3) := by decide +kernel
theorem dX11_many_5 : decode cX11_many 5 = .ok (.aload_n 0, 1) := by decide +kernel
theorem dX11_many_6 : decode cX11_many 6 = .ok (.invokevirtual 333, 3) := by decide +kernel
theorem dX11_many_9 : decode cX11_many 9 = .ok (.aload_n 0, 1) := by decide +kernel
theorem dX11_many_10 : decode cX11_many 10 = .ok (.getfield 145, 3) := by decide +kernel
theorem dX11_many_13 : decode cX11_many 13 = .ok (.lreturn, 1) := by decide +kernel
def sX11_many (F : Nat) (l0 : Nat) (h : HP) : Option (Int64 × HP) :=
  (pI h 11 (some l0) 0 (0 : Int32)).bind fun h1 =>
  (dO h1 11 (some l0)).bind fun a2 =>
  (sX11_laysBest F a2 h1).bind fun h3 =>
  (gJ h3 11 (some l0) 18).bind fun t4 =>
  some (t4, h3)
abbrev rm_X11_many : Room := { frames := 7, cells := 0, slots := 0, locals := 174 }
set_option maxRecDepth 100000 in
set_option maxHeartbeats 4000000 in
theorem mt_X11_many {w : WD} {l : Launch} {F : Nat} {l0 : Nat} {h : HP} {v : Int64} {h' : HP} (hs : sX11_many F l0 h = some (v, h')) : MJ w l yX11_many cX11_many 1 rm_X11_many 0 0 [rf w (some l0)] h v h' := by
  refine of_body [(0, rf w (some l0))] (by decide) (by simp [lg_sl, rf_cat, cat_i, cat_l, cat_a]) (by simp [lv_args, rf_cat, cat_i, cat_l, cat_a]) ?_
  intro x hw_ hnL_ hl_ hc hret hnm hQ
  subst hw_; subst hl_
  have hnl : ∀ i, i < 1 → i < x.nL := fun i h => by rw [hnL_]; exact h
  have hw : wpO (sX11_many F l0 h) (fun r => r = (v, h')) := ⟨_, hs, rfl⟩
  unfold sX11_many at hw
  refine R_aload_n (q := 0) (i := 0) (v := (some l0)) hc dX11_many_0 rfl rfl ?_
  refine R_iconst (v := (0 : Int32)) hc dX11_many_1 kI_0 ?_
  refine R_putI hc pl_11_100 rfl rfl dX11_many_2 hw (fun h1 hw => ?_)
  refine R_aload_n (q := 0) (i := 0) (v := (some l0)) hc dX11_many_5 rfl rfl ?_
  refine R_cVVi (As := []) (rest := []) (r := (some l0)) (ci := 11) hc ml_11_333 mf_X11_laysBest rfl (by decide) ⟨rfl, rfl⟩ ⟨le_b rfl, le_b rfl⟩ ⟨Nat.zero_le _, Nat.zero_le _⟩ (fun a h' e => mt_X11_laysBest e) rfl rfl (Nat.zero_le _) dX11_many_6 hw (fun h3 hw => ?_)
  refine R_aload_n (q := 0) (i := 0) (v := (some l0)) hc dX11_many_9 rfl rfl ?_
  refine R_getJ hc fl_11_145 dX11_many_10 hw (fun t4 hw => ?_)
  exact R_lreturn hc hret hQ hw dX11_many_13
theorem dX11_best_0 : decode cX11_best 0 = .ok (.aload_n 0, 1) := by decide +kernel
theorem dX11_best_1 : decode cX11_best 1 = .ok (.aload_n 0, 1) := by decide +kernel
theorem dX11_best_2 : decode cX11_best 2 = .ok (.iload_n 3, 1) := by decide +kernel
theorem dX11_best_3 : decode cX11_best 3 = .ok (.invokevirtual 298, 3) := by decide +kernel
theorem dX11_best_6 : decode cX11_best 6 = .ok (.ifCond .eq 7, 3) := by decide +kernel
theorem dX11_best_9 : decode cX11_best 9 = .ok (.iconst 0, 1) := by decide +kernel
theorem dX11_best_10 : decode cX11_best 10 = .ok (.goto 4, 3) := by decide +kernel
theorem dX11_best_13 : decode cX11_best 13 = .ok (.iconst 1, 1) := by decide +kernel
theorem dX11_best_14 : decode cX11_best 14 = .ok (.putfield 100, 3) := by decide +kernel
theorem dX11_best_17 : decode cX11_best 17 = .ok (.aload_n 0, 1) := by decide +kernel
theorem dX11_best_18 : decode cX11_best 18 = .ok (.getfield 100, 3) := by decide +kernel
theorem dX11_best_21 : decode cX11_best 21 = .ok (.ifCond .le 5, 3) := by decide +kernel
theorem dX11_best_24 : decode cX11_best 24 = .ok (.iconst 0, 1) := by decide +kernel
theorem dX11_best_25 : decode cX11_best 25 = .ok (.ireturn, 1) := by decide +kernel
theorem dX11_best_26 : decode cX11_best 26 = .ok (.aload_n 0, 1) := by decide +kernel
theorem dX11_best_27 : decode cX11_best 27 = .ok (.invokevirtual 333, 3) := by decide +kernel
theorem dX11_best_30 : decode cX11_best 30 = .ok (.aload_n 0, 1) := by decide +kernel
theorem dX11_best_31 : decode cX11_best 31 = .ok (.lload_n 1, 1) := by decide +kernel
theorem dX11_best_32 : decode cX11_best 32 = .ok (.lconst 0, 1) := by decide +kernel
theorem dX11_best_33 : decode cX11_best 33 = .ok (.lcmp, 1) := by decide +kernel
theorem dX11_best_34 : decode cX11_best 34 = .ok (.ifCond .lt 16, 3) := by decide +kernel
theorem dX11_best_37 : decode cX11_best 37 = .ok (.lload_n 1, 1) := by decide +kernel
theorem dX11_best_38 : decode cX11_best 38 = .ok (.aload_n 0, 1) := by decide +kernel
theorem dX11_best_39 : decode cX11_best 39 = .ok (.getfield 145, 3) := by decide +kernel
theorem dX11_best_42 : decode cX11_best 42 = .ok (.lcmp, 1) := by decide +kernel
theorem dX11_best_43 : decode cX11_best 43 = .ok (.ifCond .ge 7, 3) := by decide +kernel
theorem dX11_best_46 : decode cX11_best 46 = .ok (.iconst 0, 1) := by decide +kernel
theorem dX11_best_47 : decode cX11_best 47 = .ok (.goto 4, 3) := by decide +kernel
theorem dX11_best_50 : decode cX11_best 50 = .ok (.iconst 2, 1) := by decide +kernel
theorem dX11_best_51 : decode cX11_best 51 = .ok (.putfield 100, 3) := by decide +kernel
theorem dX11_best_54 : decode cX11_best 54 = .ok (.aload_n 0, 1) := by decide +kernel
theorem dX11_best_55 : decode cX11_best 55 = .ok (.getfield 100, 3) := by decide +kernel
theorem dX11_best_58 : decode cX11_best 58 = .ok (.ifCond .le 5, 3) := by decide +kernel
theorem dX11_best_61 : decode cX11_best 61 = .ok (.iconst 0, 1) := by decide +kernel
theorem dX11_best_62 : decode cX11_best 62 = .ok (.ireturn, 1) := by decide +kernel
theorem dX11_best_63 : decode cX11_best 63 = .ok (.aload_n 0, 1) := by decide +kernel
theorem dX11_best_64 : decode cX11_best 64 = .ok (.lload_n 1, 1) := by decide +kernel
theorem dX11_best_65 : decode cX11_best 65 = .ok (.invokevirtual 336, 3) := by decide +kernel
theorem dX11_best_68 : decode cX11_best 68 = .ok (.iload 4, 2) := by decide +kernel
theorem dX11_best_70 : decode cX11_best 70 = .ok (.ifCond .eq 12, 3) := by decide +kernel
theorem dX11_best_73 : decode cX11_best 73 = .ok (.aload_n 0, 1) := by decide +kernel
theorem dX11_best_74 : decode cX11_best 74 = .ok (.getfield 48, 3) := by decide +kernel
theorem dX11_best_77 : decode cX11_best 77 = .ok (.iload_n 3, 1) := by decide +kernel
theorem dX11_best_78 : decode cX11_best 78 = .ok (.iaload, 1) := by decide +kernel
theorem dX11_best_79 : decode cX11_best 79 = .ok (.goto 9, 3) := by decide +kernel
theorem dX11_best_82 : decode cX11_best 82 = .ok (.aload_n 0, 1) := by decide +kernel
theorem dX11_best_83 : decode cX11_best 83 = .ok (.getfield 45, 3) := by decide +kernel
theorem dX11_best_86 : decode cX11_best 86 = .ok (.iload_n 3, 1) := by decide +kernel
theorem dX11_best_87 : decode cX11_best 87 = .ok (.iaload, 1) := by decide +kernel
theorem dX11_best_88 : decode cX11_best 88 = .ok (.ireturn, 1) := by decide +kernel
def sX11_best (F : Nat) (l0 : Nat) (l1 : Int64) (l3 : Int32) (l4 : Int32) (h : HP) : Option (Int32 × HP) :=
  (dO h 11 (some l0)).bind fun a1 =>
  (sX11_isFinger F a1 l3 h).bind fun t2 =>
  (if t2 = 0 then
      some (1 : Int32)
    else
      some (0 : Int32)).bind fun s3 =>
  (pI h 11 (some l0) 0 s3).bind fun h4 =>
  (gI h4 11 (some l0) 0).bind fun t5 =>
  if t5 ≤ 0 then
    (dO h4 11 (some l0)).bind fun a6 =>
    (sX11_laysBest F a6 h4).bind fun h7 =>
    (if (lg_cmp l1 (0 : Int64)) < 0 then
        some (2 : Int32)
      else
        (gJ h7 11 (some l0) 18).bind fun t9 =>
        if 0 ≤ (lg_cmp l1 t9) then
          some (2 : Int32)
        else
          some (0 : Int32)).bind fun s8 =>
    (pI h7 11 (some l0) 0 s8).bind fun h10 =>
    (gI h10 11 (some l0) 0).bind fun t11 =>
    if t11 ≤ 0 then
      (dO h10 11 (some l0)).bind fun a12 =>
      (sX11_tellsBest F a12 l1 h10).bind fun h13 =>
      if l4 = 0 then
        (gR h13 11 (some l0) 20).bind fun t14 =>
        (aI h13 13 t14 l3).bind fun t15 =>
        some (t15, h13)
      else
        (gR h13 11 (some l0) 21).bind fun t16 =>
        (aI h13 13 t16 l3).bind fun t17 =>
        some (t17, h13)
    else
      some ((0 : Int32), h10)
  else
    some ((0 : Int32), h4)
abbrev rm_X11_best : Room := { frames := 7, cells := 0, slots := 0, locals := 174 }
set_option maxRecDepth 100000 in
set_option maxHeartbeats 4000000 in
theorem mt_X11_best {w : WD} {l : Launch} {F : Nat} {l0 : Nat} {l1 : Int64} {l3 : Int32} {l4 : Int32} {h : HP} {v : Int32} {h' : HP} (hs : sX11_best F l0 l1 l3 l4 h = some (v, h')) : MI w l yX11_best cX11_best 5 .int rm_X11_best 0 0 [rf w (some l0), .long l1, .int l3, .int l4] h v h' := by
  refine of_body [(0, rf w (some l0)), (1, .long l1), (3, .int l3), (4, .int l4)] (by decide) (by simp [lg_sl, rf_cat, cat_i, cat_l, cat_a]) (by simp [lv_args, rf_cat, cat_i, cat_l, cat_a]) ?_
  intro x hw_ hnL_ hl_ hc hret hnm hQ
  subst hw_; subst hl_
  have hnl : ∀ i, i < 5 → i < x.nL := fun i h => by rw [hnL_]; exact h
  have hw : wpO (sX11_best F l0 l1 l3 l4 h) (fun r => r = (v, h')) := ⟨_, hs, rfl⟩
  unfold sX11_best at hw
  refine R_aload_n (q := 0) (i := 0) (v := (some l0)) hc dX11_best_0 rfl rfl ?_
  refine R_aload_n (q := 0) (i := 0) (v := (some l0)) hc dX11_best_1 rfl rfl ?_
  refine R_iload_n (q := 2) (i := 3) (v := l3) hc dX11_best_2 rfl rfl ?_
  refine R_cVI (As := [.int l3]) (rest := [rf x.w (some l0)]) (r := (some l0)) (ci := 11) hc ml_11_298 mf_X11_isFinger rfl (by decide) ⟨rfl, rfl⟩ ⟨le_b rfl, le_b rfl⟩ ⟨Nat.zero_le _, Nat.zero_le _⟩ (fun a v e => mt_X11_isFinger e) rfl rfl (le_b rfl) dX11_best_3 hw (fun t2 hw => ?_)
  refine R_join (fun (s3 : Int32) => Rn x 0 0 14 [(0, rf x.w (some l0)), (1, .long l1), (3, .int l3), (4, .int l4)] [.int s3, rf x.w (some l0)] h) hw (fun r hw => ?_) (fun hw => ?_)
  · revert r hw
    intro s3 hw
    show Rn x 0 0 14 [(0, rf x.w (some l0)), (1, .long l1), (3, .int l3), (4, .int l4)] [.int s3, rf x.w (some l0)] h
    refine R_putI hc pl_11_100 rfl rfl dX11_best_14 hw (fun h4 hw => ?_)
    refine R_aload_n (q := 0) (i := 0) (v := (some l0)) hc dX11_best_17 rfl rfl ?_
    refine R_getI hc fl_11_100 dX11_best_18 hw (fun t5 hw => ?_)
    refine R_if_le (tgt := 26) hc dX11_best_21 (by decide) hw (fun hw => ?_) (fun hw => ?_)
    · refine R_aload_n (q := 0) (i := 0) (v := (some l0)) hc dX11_best_26 rfl rfl ?_
      refine R_cVVi (As := []) (rest := []) (r := (some l0)) (ci := 11) hc ml_11_333 mf_X11_laysBest rfl (by decide) ⟨rfl, rfl⟩ ⟨le_b rfl, le_b rfl⟩ ⟨Nat.zero_le _, Nat.zero_le _⟩ (fun a h' e => mt_X11_laysBest e) rfl rfl (Nat.zero_le _) dX11_best_27 hw (fun h7 hw => ?_)
      refine R_aload_n (q := 0) (i := 0) (v := (some l0)) hc dX11_best_30 rfl rfl ?_
      refine R_lload_n (q := 1) (i := 1) (v := l1) hc dX11_best_31 rfl rfl ?_
      refine R_lconst (v := (0 : Int64)) hc dX11_best_32 kL_0 ?_
      refine R_lcmp hc dX11_best_33 ?_
      refine R_join (fun (s8 : Int32) => Rn x 0 0 51 [(0, rf x.w (some l0)), (1, .long l1), (3, .int l3), (4, .int l4)] [.int s8, rf x.w (some l0)] h7) hw (fun r hw => ?_) (fun hw => ?_)
      · revert r hw
        intro s8 hw
        show Rn x 0 0 51 [(0, rf x.w (some l0)), (1, .long l1), (3, .int l3), (4, .int l4)] [.int s8, rf x.w (some l0)] h7
        refine R_putI hc pl_11_100 rfl rfl dX11_best_51 hw (fun h10 hw => ?_)
        refine R_aload_n (q := 0) (i := 0) (v := (some l0)) hc dX11_best_54 rfl rfl ?_
        refine R_getI hc fl_11_100 dX11_best_55 hw (fun t11 hw => ?_)
        refine R_if_le (tgt := 63) hc dX11_best_58 (by decide) hw (fun hw => ?_) (fun hw => ?_)
        · refine R_aload_n (q := 0) (i := 0) (v := (some l0)) hc dX11_best_63 rfl rfl ?_
          refine R_lload_n (q := 1) (i := 1) (v := l1) hc dX11_best_64 rfl rfl ?_
          refine R_cVVi (As := [.long l1]) (rest := []) (r := (some l0)) (ci := 11) hc ml_11_336 mf_X11_tellsBest rfl (by decide) ⟨rfl, rfl⟩ ⟨le_b rfl, le_b rfl⟩ ⟨Nat.zero_le _, Nat.zero_le _⟩ (fun a h' e => mt_X11_tellsBest e) rfl rfl (Nat.zero_le _) dX11_best_65 hw (fun h13 hw => ?_)
          refine R_iload (q := 3) (i := 4) (v := l4) hc dX11_best_68 rfl ?_
          refine R_if_eq (tgt := 82) hc dX11_best_70 (by decide) hw (fun hw => ?_) (fun hw => ?_)
          · refine R_aload_n (q := 0) (i := 0) (v := (some l0)) hc dX11_best_82 rfl rfl ?_
            refine R_getR hc fl_11_45 dX11_best_83 hw (fun t14 hw => ?_)
            refine R_iload_n (q := 2) (i := 3) (v := l3) hc dX11_best_86 rfl rfl ?_
            refine R_iaload hc dX11_best_87 hw (fun t15 hw => ?_)
            exact R_ireturn hc hret rfl hQ hw dX11_best_88
          · refine R_aload_n (q := 0) (i := 0) (v := (some l0)) hc dX11_best_73 rfl rfl ?_
            refine R_getR hc fl_11_48 dX11_best_74 hw (fun t16 hw => ?_)
            refine R_iload_n (q := 2) (i := 3) (v := l3) hc dX11_best_77 rfl rfl ?_
            refine R_iaload hc dX11_best_78 hw (fun t17 hw => ?_)
            refine R_goto (tgt := 88) hc dX11_best_79 (by decide) ?_
            exact R_ireturn hc hret rfl hQ hw dX11_best_88
        · refine R_iconst (v := (0 : Int32)) hc dX11_best_61 kI_0 ?_
          exact R_ireturn hc hret rfl hQ hw dX11_best_62
      · refine R_if_lt (tgt := 50) hc dX11_best_34 (by decide) hw (fun hw => ?_) (fun hw => ?_)
        · refine R_iconst (v := (2 : Int32)) hc dX11_best_50 kI_2 ?_
          refine R_sub hc [0, 1, 2, 3] rfl ?_
          exact (wpO_some hw :)
        · refine R_lload_n (q := 1) (i := 1) (v := l1) hc dX11_best_37 rfl rfl ?_
          refine R_aload_n (q := 0) (i := 0) (v := (some l0)) hc dX11_best_38 rfl rfl ?_
          refine R_getJ hc fl_11_145 dX11_best_39 hw (fun t9 hw => ?_)
          refine R_lcmp hc dX11_best_42 ?_
          refine R_if_ge (tgt := 50) hc dX11_best_43 (by decide) hw (fun hw => ?_) (fun hw => ?_)
          · refine R_iconst (v := (2 : Int32)) hc dX11_best_50 kI_2 ?_
            refine R_sub hc [0, 1, 2, 3] rfl ?_
            exact (wpO_some hw :)
          · refine R_iconst (v := (0 : Int32)) hc dX11_best_46 kI_0 ?_
            refine R_goto (tgt := 51) hc dX11_best_47 (by decide) ?_
            refine R_sub hc [0, 1, 2, 3] rfl ?_
            exact (wpO_some hw :)
    · refine R_iconst (v := (0 : Int32)) hc dX11_best_24 kI_0 ?_
      exact R_ireturn hc hret rfl hQ hw dX11_best_25
  · refine R_if_eq (tgt := 13) hc dX11_best_6 (by decide) hw (fun hw => ?_) (fun hw => ?_)
    · refine R_iconst (v := (1 : Int32)) hc dX11_best_13 kI_1 ?_
      refine R_sub hc [0, 1, 2, 3] rfl ?_
      exact (wpO_some hw :)
    · refine R_iconst (v := (0 : Int32)) hc dX11_best_9 kI_0 ?_
      refine R_goto (tgt := 14) hc dX11_best_10 (by decide) ?_
      refine R_sub hc [0, 1, 2, 3] rfl ?_
      exact (wpO_some hw :)
theorem dX11_calm_0 : decode cX11_calm 0 = .ok (.aload_n 0, 1) := by decide +kernel
theorem dX11_calm_1 : decode cX11_calm 1 = .ok (.iconst 0, 1) := by decide +kernel
theorem dX11_calm_2 : decode cX11_calm 2 = .ok (.putfield 100, 3) := by decide +kernel
theorem dX11_calm_5 : decode cX11_calm 5 = .ok (.aload_n 0, 1) := by decide +kernel
theorem dX11_calm_6 : decode cX11_calm 6 = .ok (.invokevirtual 333, 3) := by decide +kernel
theorem dX11_calm_9 : decode cX11_calm 9 = .ok (.aload_n 0, 1) := by decide +kernel
theorem dX11_calm_10 : decode cX11_calm 10 = .ok (.getfield 149, 3) := by decide +kernel
theorem dX11_calm_13 : decode cX11_calm 13 = .ok (.ireturn, 1) := by decide +kernel
def sX11_calm (F : Nat) (l0 : Nat) (h : HP) : Option (Int32 × HP) :=
  (pI h 11 (some l0) 0 (0 : Int32)).bind fun h1 =>
  (dO h1 11 (some l0)).bind fun a2 =>
  (sX11_laysBest F a2 h1).bind fun h3 =>
  (gI h3 11 (some l0) 19).bind fun t4 =>
  some (t4, h3)
abbrev rm_X11_calm : Room := { frames := 7, cells := 0, slots := 0, locals := 174 }
set_option maxRecDepth 100000 in
set_option maxHeartbeats 4000000 in
theorem mt_X11_calm {w : WD} {l : Launch} {F : Nat} {l0 : Nat} {h : HP} {v : Int32} {h' : HP} (hs : sX11_calm F l0 h = some (v, h')) : MI w l yX11_calm cX11_calm 1 .int rm_X11_calm 0 0 [rf w (some l0)] h v h' := by
  refine of_body [(0, rf w (some l0))] (by decide) (by simp [lg_sl, rf_cat, cat_i, cat_l, cat_a]) (by simp [lv_args, rf_cat, cat_i, cat_l, cat_a]) ?_
  intro x hw_ hnL_ hl_ hc hret hnm hQ
  subst hw_; subst hl_
  have hnl : ∀ i, i < 1 → i < x.nL := fun i h => by rw [hnL_]; exact h
  have hw : wpO (sX11_calm F l0 h) (fun r => r = (v, h')) := ⟨_, hs, rfl⟩
  unfold sX11_calm at hw
  refine R_aload_n (q := 0) (i := 0) (v := (some l0)) hc dX11_calm_0 rfl rfl ?_
  refine R_iconst (v := (0 : Int32)) hc dX11_calm_1 kI_0 ?_
  refine R_putI hc pl_11_100 rfl rfl dX11_calm_2 hw (fun h1 hw => ?_)
  refine R_aload_n (q := 0) (i := 0) (v := (some l0)) hc dX11_calm_5 rfl rfl ?_
  refine R_cVVi (As := []) (rest := []) (r := (some l0)) (ci := 11) hc ml_11_333 mf_X11_laysBest rfl (by decide) ⟨rfl, rfl⟩ ⟨le_b rfl, le_b rfl⟩ ⟨Nat.zero_le _, Nat.zero_le _⟩ (fun a h' e => mt_X11_laysBest e) rfl rfl (Nat.zero_le _) dX11_calm_6 hw (fun h3 hw => ?_)
  refine R_aload_n (q := 0) (i := 0) (v := (some l0)) hc dX11_calm_9 rfl rfl ?_
  refine R_getI hc fl_11_149 dX11_calm_10 hw (fun t4 hw => ?_)
  exact R_ireturn hc hret rfl hQ hw dX11_calm_13
theorem dX11_with_0 : decode cX11_with 0 = .ok (.aload_n 0, 1) := by decide +kernel
theorem dX11_with_1 : decode cX11_with 1 = .ok (.aload_n 0, 1) := by decide +kernel
theorem dX11_with_2 : decode cX11_with 2 = .ok (.iload_n 1, 1) := by decide +kernel
theorem dX11_with_3 : decode cX11_with 3 = .ok (.invokevirtual 298, 3) := by decide +kernel
theorem dX11_with_6 : decode cX11_with 6 = .ok (.ifCond .eq 15, 3) := by decide +kernel
theorem dX11_with_9 : decode cX11_with 9 = .ok (.aload_n 0, 1) := by decide +kernel
theorem dX11_with_10 : decode cX11_with 10 = .ok (.iload_n 2, 1) := by decide +kernel
theorem dX11_with_11 : decode cX11_with 11 = .ok (.invokevirtual 298, 3) := by decide +kernel
theorem dX11_with_14 : decode cX11_with 14 = .ok (.ifCond .eq 7, 3) := by decide +kernel
theorem dX11_with_17 : decode cX11_with 17 = .ok (.iconst 0, 1) := by decide +kernel
theorem dX11_with_18 : decode cX11_with 18 = .ok (.goto 4, 3) := by decide +kernel
theorem dX11_with_21 : decode cX11_with 21 = .ok (.iconst 1, 1) := by decide +kernel
theorem dX11_with_22 : decode cX11_with 22 = .ok (.putfield 100, 3) := by decide +kernel
theorem dX11_with_25 : decode cX11_with 25 = .ok (.aload_n 0, 1) := by decide +kernel
theorem dX11_with_26 : decode cX11_with 26 = .ok (.getfield 100, 3) := by decide +kernel
theorem dX11_with_29 : decode cX11_with 29 = .ok (.ifCond .le 5, 3) := by decide +kernel
theorem dX11_with_32 : decode cX11_with 32 = .ok (.iconst 0, 1) := by decide +kernel
theorem dX11_with_33 : decode cX11_with 33 = .ok (.ireturn, 1) := by decide +kernel
theorem dX11_with_34 : decode cX11_with 34 = .ok (.iload_n 1, 1) := by decide +kernel
theorem dX11_with_35 : decode cX11_with 35 = .ok (.iload_n 2, 1) := by decide +kernel
theorem dX11_with_36 : decode cX11_with 36 = .ok (.if_icmp .ne 13, 3) := by decide +kernel
theorem dX11_with_39 : decode cX11_with 39 = .ok (.aload_n 0, 1) := by decide +kernel
theorem dX11_with_40 : decode cX11_with 40 = .ok (.invokevirtual 103, 3) := by decide +kernel
theorem dX11_with_43 : decode cX11_with 43 = .ok (.iconst 1, 1) := by decide +kernel
theorem dX11_with_44 : decode cX11_with 44 = .ok (.if_icmp .le 5, 3) := by decide +kernel
theorem dX11_with_47 : decode cX11_with 47 = .ok (.iconst (-1), 1) := by decide +kernel
theorem dX11_with_48 : decode cX11_with 48 = .ok (.ireturn, 1) := by decide +kernel
theorem dX11_with_49 : decode cX11_with 49 = .ok (.aload_n 0, 1) := by decide +kernel
theorem dX11_with_50 : decode cX11_with 50 = .ok (.iload_n 2, 1) := by decide +kernel
theorem dX11_with_51 : decode cX11_with 51 = .ok (.invokevirtual 138, 3) := by decide +kernel
theorem dX11_with_54 : decode cX11_with 54 = .ok (.sipush 1000, 3) := by decide +kernel
theorem dX11_with_57 : decode cX11_with 57 = .ok (.istore_n 3, 1) := by decide +kernel
theorem dX11_with_58 : decode cX11_with 58 = .ok (.iconst 0, 1) := by decide +kernel
theorem dX11_with_59 : decode cX11_with 59 = .ok (.istore 4, 2) := by decide +kernel
theorem dX11_with_61 : decode cX11_with 61 = .ok (.iload 4, 2) := by decide +kernel
theorem dX11_with_63 : decode cX11_with 63 = .ok (.iconst 4, 1) := by decide +kernel
theorem dX11_with_64 : decode cX11_with 64 = .ok (.if_icmp .ge 28, 3) := by decide +kernel
theorem dX11_with_67 : decode cX11_with 67 = .ok (.iload_n 3, 1) := by decide +kernel
theorem dX11_with_68 : decode cX11_with 68 = .ok (.aload_n 0, 1) := by decide +kernel
theorem dX11_with_69 : decode cX11_with 69 = .ok (.getfield 29, 3) := by decide +kernel
theorem dX11_with_72 : decode cX11_with 72 = .ok (.iconst 1, 1) := by decide +kernel
theorem dX11_with_73 : decode cX11_with 73 = .ok (.iload_n 1, 1) := by decide +kernel
theorem dX11_with_74 : decode cX11_with 74 = .ok (.ishl, 1) := by decide +kernel
theorem dX11_with_75 : decode cX11_with 75 = .ok (.iload_n 1, 1) := by decide +kernel
theorem dX11_with_76 : decode cX11_with 76 = .ok (.iload 4, 2) := by decide +kernel
theorem dX11_with_78 : decode cX11_with 78 = .ok (.invokestatic 123, 3) := by decide +kernel
theorem dX11_with_81 : decode cX11_with 81 = .ok (.iaload, 1) := by decide +kernel
theorem dX11_with_82 : decode cX11_with 82 = .ok (.invokestatic 131, 3) := by decide +kernel
theorem dX11_with_85 : decode cX11_with 85 = .ok (.istore_n 3, 1) := by decide +kernel
theorem dX11_with_86 : decode cX11_with 86 = .ok (.iinc 4 1, 3) := by decide +kernel
theorem dX11_with_89 : decode cX11_with 89 = .ok (.goto (-28), 3) := by decide +kernel
theorem dX11_with_92 : decode cX11_with 92 = .ok (.iload_n 3, 1) := by decide +kernel
theorem dX11_with_93 : decode cX11_with 93 = .ok (.ireturn, 1) := by decide +kernel
def sX11_with_L61 (F : Nat) (l0 : Nat) (l1 : Int32) (l3 : Int32) (l4 : Int32) (h : HP) : Option ((Int32 × Int32) ⊕ Int32) :=
  if (4 : Int32) ≤ l4 then
    some (.inr l3)
  else
    (gR h 11 (some l0) 12).bind fun t10 =>
    (sX11_state F (jshl (1 : Int32) l1) l1 l4 h).bind fun t11 =>
    (aI h 13 t10 t11).bind fun t12 =>
    (sX11_lesser F l3 t12 h).bind fun t13 =>
    some (.inl (t13, l4 + (1 : Int32)))
def sX11_with_L61b (F : Nat) (l0 : Nat) (l1 : Int32) (l3 : Int32) (l4 : Int32) (h : HP) : Option ((Int32 × Int32) ⊕ Int32) :=
  if (4 : Int32) ≤ l4 then
    some (.inr l3)
  else
    (gR h 11 (some l0) 12).bind fun t22 =>
    (sX11_state F (jshl (1 : Int32) l1) l1 l4 h).bind fun t23 =>
    (aI h 13 t22 t23).bind fun t24 =>
    (sX11_lesser F l3 t24 h).bind fun t25 =>
    some (.inl (t25, l4 + (1 : Int32)))
def sX11_with (F : Nat) (l0 : Nat) (l1 : Int32) (l2 : Int32) (h : HP) : Option (Int32 × HP) :=
  (dO h 11 (some l0)).bind fun a1 =>
  (sX11_isFinger F a1 l1 h).bind fun t2 =>
  (if t2 = 0 then
      some (1 : Int32)
    else
      (dO h 11 (some l0)).bind fun a4 =>
      (sX11_isFinger F a4 l2 h).bind fun t5 =>
      if t5 = 0 then
        some (1 : Int32)
      else
        some (0 : Int32)).bind fun s3 =>
  (pI h 11 (some l0) 0 s3).bind fun h6 =>
  (gI h6 11 (some l0) 0).bind fun t7 =>
  if t7 ≤ 0 then
    if ¬ l1 = l2 then
      (dO h6 11 (some l0)).bind fun a8 =>
      (sX11_laysAll F a8 l2 h6).bind fun h9 =>
      (iter (fun s => sX11_with_L61 F l0 l1 s.1 s.2 h9) F ((1000 : Int32), (0 : Int32))).bind fun l3_14 =>
        some (l3_14, h9)
    else
      (dO h6 11 (some l0)).bind fun a18 =>
      (sX11_fingers F a18 h6).bind fun t19 =>
      if t19 ≤ (1 : Int32) then
        (dO h6 11 (some l0)).bind fun a20 =>
        (sX11_laysAll F a20 l2 h6).bind fun h21 =>
        (iter (fun s => sX11_with_L61b F l0 l1 s.1 s.2 h21) F ((1000 : Int32), (0 : Int32))).bind fun l3_26 =>
          some (l3_26, h21)
      else
        some ((-1 : Int32), h6)
  else
    some ((0 : Int32), h6)
abbrev rm_X11_with : Room := { frames := 6, cells := 0, slots := 0, locals := 151 }
set_option maxRecDepth 100000 in
set_option maxHeartbeats 4000000 in
theorem mt_X11_with {w : WD} {l : Launch} {F : Nat} {l0 : Nat} {l1 : Int32} {l2 : Int32} {h : HP} {v : Int32} {h' : HP} (hs : sX11_with F l0 l1 l2 h = some (v, h')) : MI w l yX11_with cX11_with 5 .int rm_X11_with 0 0 [rf w (some l0), .int l1, .int l2] h v h' := by
  refine of_body [(0, rf w (some l0)), (1, .int l1), (2, .int l2)] (by decide) (by simp [lg_sl, rf_cat, cat_i, cat_l, cat_a]) (by simp [lv_args, rf_cat, cat_i, cat_l, cat_a]) ?_
  intro x hw_ hnL_ hl_ hc hret hnm hQ
  subst hw_; subst hl_
  have hnl : ∀ i, i < 5 → i < x.nL := fun i h => by rw [hnL_]; exact h
  have hw : wpO (sX11_with F l0 l1 l2 h) (fun r => r = (v, h')) := ⟨_, hs, rfl⟩
  unfold sX11_with at hw
  refine R_aload_n (q := 0) (i := 0) (v := (some l0)) hc dX11_with_0 rfl rfl ?_
  refine R_aload_n (q := 0) (i := 0) (v := (some l0)) hc dX11_with_1 rfl rfl ?_
  refine R_iload_n (q := 1) (i := 1) (v := l1) hc dX11_with_2 rfl rfl ?_
  refine R_cVI (As := [.int l1]) (rest := [rf x.w (some l0)]) (r := (some l0)) (ci := 11) hc ml_11_298 mf_X11_isFinger rfl (by decide) ⟨rfl, rfl⟩ ⟨le_b rfl, le_b rfl⟩ ⟨Nat.zero_le _, Nat.zero_le _⟩ (fun a v e => mt_X11_isFinger e) rfl rfl (le_b rfl) dX11_with_3 hw (fun t2 hw => ?_)
  refine R_join (fun (s3 : Int32) => Rn x 0 0 22 [(0, rf x.w (some l0)), (1, .int l1), (2, .int l2)] [.int s3, rf x.w (some l0)] h) hw (fun r hw => ?_) (fun hw => ?_)
  · revert r hw
    intro s3 hw
    show Rn x 0 0 22 [(0, rf x.w (some l0)), (1, .int l1), (2, .int l2)] [.int s3, rf x.w (some l0)] h
    refine R_putI hc pl_11_100 rfl rfl dX11_with_22 hw (fun h6 hw => ?_)
    refine R_aload_n (q := 0) (i := 0) (v := (some l0)) hc dX11_with_25 rfl rfl ?_
    refine R_getI hc fl_11_100 dX11_with_26 hw (fun t7 hw => ?_)
    refine R_if_le (tgt := 34) hc dX11_with_29 (by decide) hw (fun hw => ?_) (fun hw => ?_)
    · refine R_iload_n (q := 1) (i := 1) (v := l1) hc dX11_with_34 rfl rfl ?_
      refine R_iload_n (q := 2) (i := 2) (v := l2) hc dX11_with_35 rfl rfl ?_
      refine R_icmp_ne (tgt := 49) hc dX11_with_36 (by decide) hw (fun hw => ?_) (fun hw => ?_)
      · refine R_aload_n (q := 0) (i := 0) (v := (some l0)) hc dX11_with_49 rfl rfl ?_
        refine R_iload_n (q := 2) (i := 2) (v := l2) hc dX11_with_50 rfl rfl ?_
        refine R_cVVi (As := [.int l2]) (rest := []) (r := (some l0)) (ci := 11) hc ml_11_138 mf_X11_laysAll rfl (by decide) ⟨rfl, rfl⟩ ⟨le_b rfl, le_b rfl⟩ ⟨Nat.zero_le _, Nat.zero_le _⟩ (fun a h' e => mt_X11_laysAll e) rfl rfl (Nat.zero_le _) dX11_with_51 hw (fun h9 hw => ?_)
        refine R_sipush (v := (1000 : Int32)) hc dX11_with_54 kS_1000 ?_
        refine R_istore_n (i := 3) (v := (1000 : Int32)) hc [(3, .int (1000 : Int32)), (0, rf x.w (some l0)), (1, .int l1), (2, .int l2)] dX11_with_57 rfl (hnl 3 (le_b rfl)) rfl ?_
        refine R_iconst (v := (0 : Int32)) hc dX11_with_58 kI_0 ?_
        refine R_istore (i := 4) (v := (0 : Int32)) hc [(4, .int (0 : Int32)), (3, .int (1000 : Int32)), (0, rf x.w (some l0)), (1, .int l1), (2, .int l2)] dX11_with_59 (hnl 4 (le_b rfl)) rfl ?_
        refine R_sub hc [2, 3, 1, 0] rfl ?_
        refine R_loop (P := fun (s : (Int32 × Int32)) => Rn x 0 0 61 [(0, rf x.w (some l0)), (1, .int l1), (3, .int s.1), (4, .int s.2)] [] h9) (fun l3_14 => Rn x 0 0 92 [(3, .int l3_14)] [] h9) hw (fun r hw => ?_) (fun X hX s hw => ?_)
        · revert r hw
          intro l3_14 hw
          show Rn x 0 0 92 [(3, .int l3_14)] [] h9
          refine R_iload_n (q := 0) (i := 3) (v := l3_14) hc dX11_with_92 rfl rfl ?_
          exact R_ireturn hc hret rfl hQ hw dX11_with_93
        · obtain ⟨l3_16, l4_17⟩ := s
          show Rn x 0 0 61 [(0, rf x.w (some l0)), (1, .int l1), (3, .int l3_16), (4, .int l4_17)] [] h9
          have hw : wpO (sX11_with_L61 F l0 l1 l3_16 l4_17 h9) _ := hw
          unfold sX11_with_L61 at hw
          refine R_iload (q := 3) (i := 4) (v := l4_17) hc dX11_with_61 rfl ?_
          refine R_iconst (v := (4 : Int32)) hc dX11_with_63 kI_4 ?_
          refine R_icmp_ge (tgt := 92) hc dX11_with_64 (by decide) hw (fun hw => ?_) (fun hw => ?_)
          · refine R_sub hc [2] rfl ?_
            exact (wpO_some hw :)
          · refine R_iload_n (q := 2) (i := 3) (v := l3_16) hc dX11_with_67 rfl rfl ?_
            refine R_aload_n (q := 0) (i := 0) (v := (some l0)) hc dX11_with_68 rfl rfl ?_
            refine R_getR hc fl_11_29 dX11_with_69 hw (fun t10 hw => ?_)
            refine R_iconst (v := (1 : Int32)) hc dX11_with_72 kI_1 ?_
            refine R_iload_n (q := 1) (i := 1) (v := l1) hc dX11_with_73 rfl rfl ?_
            refine R_ishl hc dX11_with_74 ?_
            refine R_iload_n (q := 1) (i := 1) (v := l1) hc dX11_with_75 rfl rfl ?_
            refine R_iload (q := 3) (i := 4) (v := l4_17) hc dX11_with_76 rfl ?_
            refine R_cSI (As := [.int (jshl (1 : Int32) l1), .int l1, .int l4_17]) (rest := [rf x.w t10, .int l3_16]) hc ml_11_123 mf_X11_state ⟨rfl, rfl⟩ ⟨le_b rfl, le_b rfl⟩ ⟨Nat.zero_le _, Nat.zero_le _⟩ (fun v e => mt_X11_state e) rfl rfl (by simp [rf_cat, cat_i, cat_l, cat_a]) dX11_with_78 hw (fun t11 hw => ?_)
            refine R_iaload hc dX11_with_81 hw (fun t12 hw => ?_)
            refine R_cSI (As := [.int l3_16, .int t12]) (rest := []) hc ml_11_131 mf_X11_lesser ⟨rfl, rfl⟩ ⟨le_b rfl, le_b rfl⟩ ⟨Nat.zero_le _, Nat.zero_le _⟩ (fun v e => mt_X11_lesser e) rfl rfl (Nat.zero_le _) dX11_with_82 hw (fun t13 hw => ?_)
            refine R_istore_n (i := 3) (v := t13) hc [(3, .int t13), (0, rf x.w (some l0)), (1, .int l1), (4, .int l4_17)] dX11_with_85 rfl (hnl 3 (le_b rfl)) rfl ?_
            refine R_iinc (q := 3) (i := 4) (v := l4_17) hc [(4, .int (l4_17 + (1 : Int32))), (3, .int t13), (0, rf x.w (some l0)), (1, .int l1)] dX11_with_86 rfl (kC_1 _) (hnl 4 (le_b rfl)) rfl ?_
            refine R_goto (tgt := 61) hc dX11_with_89 (by decide) ?_
            refine R_sub hc [2, 3, 1, 0] rfl ?_
            exact hX (t13, l4_17 + (1 : Int32)) (wpO_some hw :)
      · refine R_aload_n (q := 0) (i := 0) (v := (some l0)) hc dX11_with_39 rfl rfl ?_
        refine R_cVI (As := []) (rest := []) (r := (some l0)) (ci := 11) hc ml_11_103 mf_X11_fingers rfl (by decide) ⟨rfl, rfl⟩ ⟨le_b rfl, le_b rfl⟩ ⟨Nat.zero_le _, Nat.zero_le _⟩ (fun a v e => mt_X11_fingers e) rfl rfl (Nat.zero_le _) dX11_with_40 hw (fun t19 hw => ?_)
        refine R_iconst (v := (1 : Int32)) hc dX11_with_43 kI_1 ?_
        refine R_icmp_le (tgt := 49) hc dX11_with_44 (by decide) hw (fun hw => ?_) (fun hw => ?_)
        · refine R_aload_n (q := 0) (i := 0) (v := (some l0)) hc dX11_with_49 rfl rfl ?_
          refine R_iload_n (q := 2) (i := 2) (v := l2) hc dX11_with_50 rfl rfl ?_
          refine R_cVVi (As := [.int l2]) (rest := []) (r := (some l0)) (ci := 11) hc ml_11_138 mf_X11_laysAll rfl (by decide) ⟨rfl, rfl⟩ ⟨le_b rfl, le_b rfl⟩ ⟨Nat.zero_le _, Nat.zero_le _⟩ (fun a h' e => mt_X11_laysAll e) rfl rfl (Nat.zero_le _) dX11_with_51 hw (fun h21 hw => ?_)
          refine R_sipush (v := (1000 : Int32)) hc dX11_with_54 kS_1000 ?_
          refine R_istore_n (i := 3) (v := (1000 : Int32)) hc [(3, .int (1000 : Int32)), (0, rf x.w (some l0)), (1, .int l1), (2, .int l2)] dX11_with_57 rfl (hnl 3 (le_b rfl)) rfl ?_
          refine R_iconst (v := (0 : Int32)) hc dX11_with_58 kI_0 ?_
          refine R_istore (i := 4) (v := (0 : Int32)) hc [(4, .int (0 : Int32)), (3, .int (1000 : Int32)), (0, rf x.w (some l0)), (1, .int l1), (2, .int l2)] dX11_with_59 (hnl 4 (le_b rfl)) rfl ?_
          refine R_sub hc [2, 3, 1, 0] rfl ?_
          refine R_loop (P := fun (s : (Int32 × Int32)) => Rn x 0 0 61 [(0, rf x.w (some l0)), (1, .int l1), (3, .int s.1), (4, .int s.2)] [] h21) (fun l3_26 => Rn x 0 0 92 [(3, .int l3_26)] [] h21) hw (fun r hw => ?_) (fun X hX s hw => ?_)
          · revert r hw
            intro l3_26 hw
            show Rn x 0 0 92 [(3, .int l3_26)] [] h21
            refine R_iload_n (q := 0) (i := 3) (v := l3_26) hc dX11_with_92 rfl rfl ?_
            exact R_ireturn hc hret rfl hQ hw dX11_with_93
          · obtain ⟨l3_28, l4_29⟩ := s
            show Rn x 0 0 61 [(0, rf x.w (some l0)), (1, .int l1), (3, .int l3_28), (4, .int l4_29)] [] h21
            have hw : wpO (sX11_with_L61b F l0 l1 l3_28 l4_29 h21) _ := hw
            unfold sX11_with_L61b at hw
            refine R_iload (q := 3) (i := 4) (v := l4_29) hc dX11_with_61 rfl ?_
            refine R_iconst (v := (4 : Int32)) hc dX11_with_63 kI_4 ?_
            refine R_icmp_ge (tgt := 92) hc dX11_with_64 (by decide) hw (fun hw => ?_) (fun hw => ?_)
            · refine R_sub hc [2] rfl ?_
              exact (wpO_some hw :)
            · refine R_iload_n (q := 2) (i := 3) (v := l3_28) hc dX11_with_67 rfl rfl ?_
              refine R_aload_n (q := 0) (i := 0) (v := (some l0)) hc dX11_with_68 rfl rfl ?_
              refine R_getR hc fl_11_29 dX11_with_69 hw (fun t22 hw => ?_)
              refine R_iconst (v := (1 : Int32)) hc dX11_with_72 kI_1 ?_
              refine R_iload_n (q := 1) (i := 1) (v := l1) hc dX11_with_73 rfl rfl ?_
              refine R_ishl hc dX11_with_74 ?_
              refine R_iload_n (q := 1) (i := 1) (v := l1) hc dX11_with_75 rfl rfl ?_
              refine R_iload (q := 3) (i := 4) (v := l4_29) hc dX11_with_76 rfl ?_
              refine R_cSI (As := [.int (jshl (1 : Int32) l1), .int l1, .int l4_29]) (rest := [rf x.w t22, .int l3_28]) hc ml_11_123 mf_X11_state ⟨rfl, rfl⟩ ⟨le_b rfl, le_b rfl⟩ ⟨Nat.zero_le _, Nat.zero_le _⟩ (fun v e => mt_X11_state e) rfl rfl (by simp [rf_cat, cat_i, cat_l, cat_a]) dX11_with_78 hw (fun t23 hw => ?_)
              refine R_iaload hc dX11_with_81 hw (fun t24 hw => ?_)
              refine R_cSI (As := [.int l3_28, .int t24]) (rest := []) hc ml_11_131 mf_X11_lesser ⟨rfl, rfl⟩ ⟨le_b rfl, le_b rfl⟩ ⟨Nat.zero_le _, Nat.zero_le _⟩ (fun v e => mt_X11_lesser e) rfl rfl (Nat.zero_le _) dX11_with_82 hw (fun t25 hw => ?_)
              refine R_istore_n (i := 3) (v := t25) hc [(3, .int t25), (0, rf x.w (some l0)), (1, .int l1), (4, .int l4_29)] dX11_with_85 rfl (hnl 3 (le_b rfl)) rfl ?_
              refine R_iinc (q := 3) (i := 4) (v := l4_29) hc [(4, .int (l4_29 + (1 : Int32))), (3, .int t25), (0, rf x.w (some l0)), (1, .int l1)] dX11_with_86 rfl (kC_1 _) (hnl 4 (le_b rfl)) rfl ?_
              refine R_goto (tgt := 61) hc dX11_with_89 (by decide) ?_
              refine R_sub hc [2, 3, 1, 0] rfl ?_
              exact hX (t25, l4_29 + (1 : Int32)) (wpO_some hw :)
        · refine R_iconst (v := (-1 : Int32)) hc dX11_with_47 kI_m1 ?_
          exact R_ireturn hc hret rfl hQ hw dX11_with_48
    · refine R_iconst (v := (0 : Int32)) hc dX11_with_32 kI_0 ?_
      exact R_ireturn hc hret rfl hQ hw dX11_with_33
  · refine R_if_eq (tgt := 21) hc dX11_with_6 (by decide) hw (fun hw => ?_) (fun hw => ?_)
    · refine R_iconst (v := (1 : Int32)) hc dX11_with_21 kI_1 ?_
      refine R_sub hc [0, 1, 2] rfl ?_
      exact (wpO_some hw :)
    · refine R_aload_n (q := 0) (i := 0) (v := (some l0)) hc dX11_with_9 rfl rfl ?_
      refine R_iload_n (q := 2) (i := 2) (v := l2) hc dX11_with_10 rfl rfl ?_
      refine R_cVI (As := [.int l2]) (rest := [rf x.w (some l0)]) (r := (some l0)) (ci := 11) hc ml_11_298 mf_X11_isFinger rfl (by decide) ⟨rfl, rfl⟩ ⟨le_b rfl, le_b rfl⟩ ⟨Nat.zero_le _, Nat.zero_le _⟩ (fun a v e => mt_X11_isFinger e) rfl rfl (le_b rfl) dX11_with_11 hw (fun t5 hw => ?_)
      refine R_if_eq (tgt := 21) hc dX11_with_14 (by decide) hw (fun hw => ?_) (fun hw => ?_)
      · refine R_iconst (v := (1 : Int32)) hc dX11_with_21 kI_1 ?_
        refine R_sub hc [0, 1, 2] rfl ?_
        exact (wpO_some hw :)
      · refine R_iconst (v := (0 : Int32)) hc dX11_with_17 kI_0 ?_
        refine R_goto (tgt := 22) hc dX11_with_18 (by decide) ?_
        refine R_sub hc [0, 1, 2] rfl ?_
        exact (wpO_some hw :)
theorem dX11_tiedTo_0 : decode cX11_tiedTo 0 = .ok (.iconst 1, 1) := by decide +kernel
theorem dX11_tiedTo_1 : decode cX11_tiedTo 1 = .ok (.iload_n 1, 1) := by decide +kernel
theorem dX11_tiedTo_2 : decode cX11_tiedTo 2 = .ok (.ishl, 1) := by decide +kernel
theorem dX11_tiedTo_3 : decode cX11_tiedTo 3 = .ok (.istore_n 3, 1) := by decide +kernel
theorem dX11_tiedTo_4 : decode cX11_tiedTo 4 = .ok (.iconst 0, 1) := by decide +kernel
theorem dX11_tiedTo_5 : decode cX11_tiedTo 5 = .ok (.istore 4, 2) := by decide +kernel
theorem dX11_tiedTo_7 : decode cX11_tiedTo 7 = .ok (.iload 4, 2) := by decide +kernel
theorem dX11_tiedTo_9 : decode cX11_tiedTo 9 = .ok (.iload_n 3, 1) := by decide +kernel
theorem dX11_tiedTo_10 : decode cX11_tiedTo 10 = .ok (.if_icmp .eq 64, 3) := by decide +kernel
theorem dX11_tiedTo_13 : decode cX11_tiedTo 13 = .ok (.iload_n 3, 1) := by decide +kernel
theorem dX11_tiedTo_14 : decode cX11_tiedTo 14 = .ok (.istore 4, 2) := by decide +kernel
theorem dX11_tiedTo_16 : decode cX11_tiedTo 16 = .ok (.iconst 0, 1) := by decide +kernel
theorem dX11_tiedTo_17 : decode cX11_tiedTo 17 = .ok (.istore 5, 2) := by decide +kernel
theorem dX11_tiedTo_19 : decode cX11_tiedTo 19 = .ok (.iload 5, 2) := by decide +kernel
theorem dX11_tiedTo_21 : decode cX11_tiedTo 21 = .ok (.aload_n 0, 1) := by decide +kernel
theorem dX11_tiedTo_22 : decode cX11_tiedTo 22 = .ok (.invokevirtual 103, 3) := by decide +kernel
theorem dX11_tiedTo_25 : decode cX11_tiedTo 25 = .ok (.if_icmp .ge 46, 3) := by decide +kernel
theorem dX11_tiedTo_28 : decode cX11_tiedTo 28 = .ok (.iconst 1, 1) := by decide +kernel
theorem dX11_tiedTo_29 : decode cX11_tiedTo 29 = .ok (.aload_n 0, 1) := by decide +kernel
theorem dX11_tiedTo_30 : decode cX11_tiedTo 30 = .ok (.iload 5, 2) := by decide +kernel
theorem dX11_tiedTo_32 : decode cX11_tiedTo 32 = .ok (.iconst 0, 1) := by decide +kernel
theorem dX11_tiedTo_33 : decode cX11_tiedTo 33 = .ok (.iload_n 2, 1) := by decide +kernel
theorem dX11_tiedTo_34 : decode cX11_tiedTo 34 = .ok (.iconst 0, 1) := by decide +kernel
theorem dX11_tiedTo_35 : decode cX11_tiedTo 35 = .ok (.invokevirtual 115, 3) := by decide +kernel
theorem dX11_tiedTo_38 : decode cX11_tiedTo 38 = .ok (.ishl, 1) := by decide +kernel
theorem dX11_tiedTo_39 : decode cX11_tiedTo 39 = .ok (.iconst 1, 1) := by decide +kernel
theorem dX11_tiedTo_40 : decode cX11_tiedTo 40 = .ok (.aload_n 0, 1) := by decide +kernel
theorem dX11_tiedTo_41 : decode cX11_tiedTo 41 = .ok (.iload 5, 2) := by decide +kernel
theorem dX11_tiedTo_43 : decode cX11_tiedTo 43 = .ok (.iconst 0, 1) := by decide +kernel
theorem dX11_tiedTo_44 : decode cX11_tiedTo 44 = .ok (.iload_n 2, 1) := by decide +kernel
theorem dX11_tiedTo_45 : decode cX11_tiedTo 45 = .ok (.iconst 1, 1) := by decide +kernel
theorem dX11_tiedTo_46 : decode cX11_tiedTo 46 = .ok (.invokevirtual 115, 3) := by decide +kernel
theorem dX11_tiedTo_49 : decode cX11_tiedTo 49 = .ok (.ishl, 1) := by decide +kernel
theorem dX11_tiedTo_50 : decode cX11_tiedTo 50 = .ok (.ior, 1) := by decide +kernel
theorem dX11_tiedTo_51 : decode cX11_tiedTo 51 = .ok (.istore 6, 2) := by decide +kernel
theorem dX11_tiedTo_53 : decode cX11_tiedTo 53 = .ok (.iload 6, 2) := by decide +kernel
theorem dX11_tiedTo_55 : decode cX11_tiedTo 55 = .ok (.iload_n 3, 1) := by decide +kernel
theorem dX11_tiedTo_56 : decode cX11_tiedTo 56 = .ok (.iand, 1) := by decide +kernel
theorem dX11_tiedTo_57 : decode cX11_tiedTo 57 = .ok (.ifCond .eq 8, 3) := by decide +kernel
theorem dX11_tiedTo_60 : decode cX11_tiedTo 60 = .ok (.iload_n 3, 1) := by decide +kernel
theorem dX11_tiedTo_61 : decode cX11_tiedTo 61 = .ok (.iload 6, 2) := by decide +kernel
theorem dX11_tiedTo_63 : decode cX11_tiedTo 63 = .ok (.ior, 1) := by decide +kernel
theorem dX11_tiedTo_64 : decode cX11_tiedTo 64 = .ok (.istore_n 3, 1) := by decide +kernel
theorem dX11_tiedTo_65 : decode cX11_tiedTo 65 = .ok (.iinc 5 1, 3) := by decide +kernel
theorem dX11_tiedTo_68 : decode cX11_tiedTo 68 = .ok (.goto (-49), 3) := by decide +kernel
theorem dX11_tiedTo_71 : decode cX11_tiedTo 71 = .ok (.goto (-64), 3) := by decide +kernel
theorem dX11_tiedTo_74 : decode cX11_tiedTo 74 = .ok (.iload_n 3, 1) := by decide +kernel
theorem dX11_tiedTo_75 : decode cX11_tiedTo 75 = .ok (.ireturn, 1) := by decide +kernel
def sX11_tiedTo_L19 (F : Nat) (l0 : Nat) (l2 : Int32) (l4 : Int32) (l3 : Int32) (l5 : Int32) (h : HP) : Option ((Int32 × Int32) ⊕ Int32) :=
  (dO h 11 (some l0)).bind fun a2 =>
  (sX11_fingers F a2 h).bind fun t3 =>
  if t3 ≤ l5 then
    some (.inr l3)
  else
    (dO h 11 (some l0)).bind fun a4 =>
    (sX11_side F a4 l5 (0 : Int32) l2 (0 : Int32) h).bind fun t5 =>
    (dO h 11 (some l0)).bind fun a6 =>
    (sX11_side F a6 l5 (0 : Int32) l2 (1 : Int32) h).bind fun t7 =>
    nmI ((jshl (1 : Int32) t5) ||| (jshl (1 : Int32) t7)) fun l6_8 =>
    if (l6_8 &&& l3) = 0 then
      some (.inl (l3, l5 + (1 : Int32)))
    else
      nmI (l3 ||| l6_8) fun l3_9 =>
      some (.inl (l3_9, l5 + (1 : Int32)))
def sX11_tiedTo_L7 (F : Nat) (l0 : Nat) (l2 : Int32) (l3 : Int32) (l4 : Int32) (h : HP) : Option ((Int32 × Int32) ⊕ Int32) :=
  if l4 = l3 then
    some (.inr l3)
  else
    (iter (fun s => sX11_tiedTo_L19 F l0 l2 l3 s.1 s.2 h) F (l3, (0 : Int32))).bind fun l3_10 =>
      some (.inl (l3_10, l3))
def sX11_tiedTo (F : Nat) (l0 : Nat) (l1 : Int32) (l2 : Int32) (h : HP) : Option Int32 :=
  nmI (jshl (1 : Int32) l1) fun l3_1 =>
  (iter (fun s => sX11_tiedTo_L7 F l0 l2 s.1 s.2 h) F (l3_1, (0 : Int32))).bind fun l3_14 =>
    some l3_14
abbrev rm_X11_tiedTo : Room := { frames := 2, cells := 0, slots := 0, locals := 47 }
set_option maxRecDepth 100000 in
set_option maxHeartbeats 4000000 in
theorem mt_X11_tiedTo {w : WD} {l : Launch} {F : Nat} {l0 : Nat} {l1 : Int32} {l2 : Int32} {h : HP} {v : Int32} (hs : sX11_tiedTo F l0 l1 l2 h = some v) : MI w l yX11_tiedTo cX11_tiedTo 7 .int rm_X11_tiedTo 0 0 [rf w (some l0), .int l1, .int l2] h v h := by
  refine of_body [(0, rf w (some l0)), (1, .int l1), (2, .int l2)] (by decide) (by simp [lg_sl, rf_cat, cat_i, cat_l, cat_a]) (by simp [lv_args, rf_cat, cat_i, cat_l, cat_a]) ?_
  intro x hw_ hnL_ hl_ hc hret hnm hQ
  subst hw_; subst hl_
  have hnl : ∀ i, i < 7 → i < x.nL := fun i h => by rw [hnL_]; exact h
  have hw : wpO (sX11_tiedTo F l0 l1 l2 h) (fun r => r = v) := ⟨_, hs, rfl⟩
  unfold sX11_tiedTo at hw
  refine R_iconst (v := (1 : Int32)) hc dX11_tiedTo_0 kI_1 ?_
  refine R_iload_n (q := 1) (i := 1) (v := l1) hc dX11_tiedTo_1 rfl rfl ?_
  refine R_ishl hc dX11_tiedTo_2 ?_
  refine R_nmI hw (fun l3_1 hw => ?_)
  refine R_istore_n (i := 3) (v := l3_1) hc [(3, .int l3_1), (0, rf x.w (some l0)), (1, .int l1), (2, .int l2)] dX11_tiedTo_3 rfl (hnl 3 (le_b rfl)) rfl ?_
  refine R_iconst (v := (0 : Int32)) hc dX11_tiedTo_4 kI_0 ?_
  refine R_istore (i := 4) (v := (0 : Int32)) hc [(4, .int (0 : Int32)), (3, .int l3_1), (0, rf x.w (some l0)), (1, .int l1), (2, .int l2)] dX11_tiedTo_5 (hnl 4 (le_b rfl)) rfl ?_
  refine R_sub hc [2, 4, 1, 0] rfl ?_
  refine R_loop (P := fun (s : (Int32 × Int32)) => Rn x 0 0 7 [(0, rf x.w (some l0)), (2, .int l2), (3, .int s.1), (4, .int s.2)] [] h) (fun l3_14 => Rn x 0 0 74 [(3, .int l3_14)] [] h) hw (fun r hw => ?_) (fun X hX s hw => ?_)
  · revert r hw
    intro l3_14 hw
    show Rn x 0 0 74 [(3, .int l3_14)] [] h
    refine R_iload_n (q := 0) (i := 3) (v := l3_14) hc dX11_tiedTo_74 rfl rfl ?_
    exact R_ireturnP hc hret rfl hQ hw dX11_tiedTo_75
  · obtain ⟨l3_16, l4_17⟩ := s
    show Rn x 0 0 7 [(0, rf x.w (some l0)), (2, .int l2), (3, .int l3_16), (4, .int l4_17)] [] h
    have hw : wpO (sX11_tiedTo_L7 F l0 l2 l3_16 l4_17 h) _ := hw
    unfold sX11_tiedTo_L7 at hw
    refine R_iload (q := 3) (i := 4) (v := l4_17) hc dX11_tiedTo_7 rfl ?_
    refine R_iload_n (q := 2) (i := 3) (v := l3_16) hc dX11_tiedTo_9 rfl rfl ?_
    refine R_icmp_eq (tgt := 74) hc dX11_tiedTo_10 (by decide) hw (fun hw => ?_) (fun hw => ?_)
    · refine R_sub hc [2] rfl ?_
      exact (wpO_some hw :)
    · refine R_iload_n (q := 2) (i := 3) (v := l3_16) hc dX11_tiedTo_13 rfl rfl ?_
      refine R_istore (i := 4) (v := l3_16) hc [(4, .int l3_16), (0, rf x.w (some l0)), (2, .int l2), (3, .int l3_16)] dX11_tiedTo_14 (hnl 4 (le_b rfl)) rfl ?_
      refine R_iconst (v := (0 : Int32)) hc dX11_tiedTo_16 kI_0 ?_
      refine R_istore (i := 5) (v := (0 : Int32)) hc [(5, .int (0 : Int32)), (4, .int l3_16), (0, rf x.w (some l0)), (2, .int l2), (3, .int l3_16)] dX11_tiedTo_17 (hnl 5 (le_b rfl)) rfl ?_
      refine R_sub hc [2, 3, 4, 1, 0] rfl ?_
      refine R_loop (P := fun (s : (Int32 × Int32)) => Rn x 0 0 19 [(0, rf x.w (some l0)), (2, .int l2), (3, .int s.1), (4, .int l3_16), (5, .int s.2)] [] h) (fun l3_10 => Rn x 0 0 71 [(0, rf x.w (some l0)), (2, .int l2), (3, .int l3_10), (4, .int l3_16)] [] h) hw (fun r hw => ?_) (fun X hX s hw => ?_)
      · revert r hw
        intro l3_10 hw
        show Rn x 0 0 71 [(0, rf x.w (some l0)), (2, .int l2), (3, .int l3_10), (4, .int l3_16)] [] h
        refine R_goto (tgt := 7) hc dX11_tiedTo_71 (by decide) ?_
        refine R_sub hc [0, 1, 2, 3] rfl ?_
        exact hX (l3_10, l3_16) (wpO_some hw :)
      · obtain ⟨l3_12, l5_13⟩ := s
        show Rn x 0 0 19 [(0, rf x.w (some l0)), (2, .int l2), (3, .int l3_12), (4, .int l3_16), (5, .int l5_13)] [] h
        have hw : wpO (sX11_tiedTo_L19 F l0 l2 l3_16 l3_12 l5_13 h) _ := hw
        unfold sX11_tiedTo_L19 at hw
        refine R_iload (q := 4) (i := 5) (v := l5_13) hc dX11_tiedTo_19 rfl ?_
        refine R_aload_n (q := 0) (i := 0) (v := (some l0)) hc dX11_tiedTo_21 rfl rfl ?_
        refine R_cVI (As := []) (rest := [.int l5_13]) (r := (some l0)) (ci := 11) hc ml_11_103 mf_X11_fingers rfl (by decide) ⟨rfl, rfl⟩ ⟨le_b rfl, le_b rfl⟩ ⟨Nat.zero_le _, Nat.zero_le _⟩ (fun a v e => mt_X11_fingers e) rfl rfl (le_b rfl) dX11_tiedTo_22 hw (fun t3 hw => ?_)
        refine R_icmp_ge (tgt := 71) hc dX11_tiedTo_25 (by decide) hw (fun hw => ?_) (fun hw => ?_)
        · refine R_sub hc [0, 1, 2, 3] rfl ?_
          exact (wpO_some hw :)
        · refine R_iconst (v := (1 : Int32)) hc dX11_tiedTo_28 kI_1 ?_
          refine R_aload_n (q := 0) (i := 0) (v := (some l0)) hc dX11_tiedTo_29 rfl rfl ?_
          refine R_iload (q := 4) (i := 5) (v := l5_13) hc dX11_tiedTo_30 rfl ?_
          refine R_iconst (v := (0 : Int32)) hc dX11_tiedTo_32 kI_0 ?_
          refine R_iload_n (q := 1) (i := 2) (v := l2) hc dX11_tiedTo_33 rfl rfl ?_
          refine R_iconst (v := (0 : Int32)) hc dX11_tiedTo_34 kI_0 ?_
          refine R_cVI (As := [.int l5_13, .int (0 : Int32), .int l2, .int (0 : Int32)]) (rest := [.int (1 : Int32)]) (r := (some l0)) (ci := 11) hc ml_11_115 mf_X11_side rfl (by decide) ⟨rfl, rfl⟩ ⟨le_b rfl, le_b rfl⟩ ⟨Nat.zero_le _, Nat.zero_le _⟩ (fun a v e => mt_X11_side e) rfl rfl (le_b rfl) dX11_tiedTo_35 hw (fun t5 hw => ?_)
          refine R_ishl hc dX11_tiedTo_38 ?_
          refine R_iconst (v := (1 : Int32)) hc dX11_tiedTo_39 kI_1 ?_
          refine R_aload_n (q := 0) (i := 0) (v := (some l0)) hc dX11_tiedTo_40 rfl rfl ?_
          refine R_iload (q := 4) (i := 5) (v := l5_13) hc dX11_tiedTo_41 rfl ?_
          refine R_iconst (v := (0 : Int32)) hc dX11_tiedTo_43 kI_0 ?_
          refine R_iload_n (q := 1) (i := 2) (v := l2) hc dX11_tiedTo_44 rfl rfl ?_
          refine R_iconst (v := (1 : Int32)) hc dX11_tiedTo_45 kI_1 ?_
          refine R_cVI (As := [.int l5_13, .int (0 : Int32), .int l2, .int (1 : Int32)]) (rest := [.int (1 : Int32), .int (jshl (1 : Int32) t5)]) (r := (some l0)) (ci := 11) hc ml_11_115 mf_X11_side rfl (by decide) ⟨rfl, rfl⟩ ⟨le_b rfl, le_b rfl⟩ ⟨Nat.zero_le _, Nat.zero_le _⟩ (fun a v e => mt_X11_side e) rfl rfl (le_b rfl) dX11_tiedTo_46 hw (fun t7 hw => ?_)
          refine R_ishl hc dX11_tiedTo_49 ?_
          refine R_ior hc dX11_tiedTo_50 ?_
          refine R_nmI hw (fun l6_8 hw => ?_)
          refine R_istore (i := 6) (v := l6_8) hc [(6, .int l6_8), (0, rf x.w (some l0)), (2, .int l2), (3, .int l3_12), (4, .int l3_16), (5, .int l5_13)] dX11_tiedTo_51 (hnl 6 (le_b rfl)) rfl ?_
          refine R_iload (q := 0) (i := 6) (v := l6_8) hc dX11_tiedTo_53 rfl ?_
          refine R_iload_n (q := 3) (i := 3) (v := l3_12) hc dX11_tiedTo_55 rfl rfl ?_
          refine R_iand hc dX11_tiedTo_56 ?_
          refine R_if_eq (tgt := 65) hc dX11_tiedTo_57 (by decide) hw (fun hw => ?_) (fun hw => ?_)
          · refine R_iinc (q := 5) (i := 5) (v := l5_13) hc [(5, .int (l5_13 + (1 : Int32))), (6, .int l6_8), (0, rf x.w (some l0)), (2, .int l2), (3, .int l3_12), (4, .int l3_16)] dX11_tiedTo_65 rfl (kC_1 _) (hnl 5 (le_b rfl)) rfl ?_
            refine R_goto (tgt := 19) hc dX11_tiedTo_68 (by decide) ?_
            refine R_sub hc [2, 3, 4, 5, 0] rfl ?_
            exact hX (l3_12, l5_13 + (1 : Int32)) (wpO_some hw :)
          · refine R_iload_n (q := 3) (i := 3) (v := l3_12) hc dX11_tiedTo_60 rfl rfl ?_
            refine R_iload (q := 0) (i := 6) (v := l6_8) hc dX11_tiedTo_61 rfl ?_
            refine R_ior hc dX11_tiedTo_63 ?_
            refine R_nmI hw (fun l3_9 hw => ?_)
            refine R_istore_n (i := 3) (v := l3_9) hc [(3, .int l3_9), (6, .int l6_8), (0, rf x.w (some l0)), (2, .int l2), (4, .int l3_16), (5, .int l5_13)] dX11_tiedTo_64 rfl (hnl 3 (le_b rfl)) rfl ?_
            refine R_iinc (q := 5) (i := 5) (v := l5_13) hc [(5, .int (l5_13 + (1 : Int32))), (3, .int l3_9), (6, .int l6_8), (0, rf x.w (some l0)), (2, .int l2), (4, .int l3_16)] dX11_tiedTo_65 rfl (kC_1 _) (hnl 5 (le_b rfl)) rfl ?_
            refine R_goto (tgt := 19) hc dX11_tiedTo_68 (by decide) ?_
            refine R_sub hc [3, 4, 1, 5, 0] rfl ?_
            exact hX (l3_9, l5_13 + (1 : Int32)) (wpO_some hw :)
theorem dX11_timesOf_0 : decode cX11_timesOf 0 = .ok (.iconst 0, 1) := by decide +kernel
theorem dX11_timesOf_1 : decode cX11_timesOf 1 = .ok (.istore_n 3, 1) := by decide +kernel
theorem dX11_timesOf_2 : decode cX11_timesOf 2 = .ok (.iconst 0, 1) := by decide +kernel
theorem dX11_timesOf_3 : decode cX11_timesOf 3 = .ok (.istore 4, 2) := by decide +kernel
theorem dX11_timesOf_5 : decode cX11_timesOf 5 = .ok (.iload 4, 2) := by decide +kernel
theorem dX11_timesOf_7 : decode cX11_timesOf 7 = .ok (.aload_n 0, 1) := by decide +kernel
theorem dX11_timesOf_8 : decode cX11_timesOf 8 = .ok (.invokevirtual 103, 3) := by decide +kernel
theorem dX11_timesOf_11 : decode cX11_timesOf 11 = .ok (.if_icmp .ge 49, 3) := by decide +kernel
theorem dX11_timesOf_14 : decode cX11_timesOf 14 = .ok (.iload_n 3, 1) := by decide +kernel
theorem dX11_timesOf_15 : decode cX11_timesOf 15 = .ok (.aload_n 0, 1) := by decide +kernel
theorem dX11_timesOf_16 : decode cX11_timesOf 16 = .ok (.iload 4, 2) := by decide +kernel
theorem dX11_timesOf_18 : decode cX11_timesOf 18 = .ok (.iconst 0, 1) := by decide +kernel
theorem dX11_timesOf_19 : decode cX11_timesOf 19 = .ok (.iload_n 2, 1) := by decide +kernel
theorem dX11_timesOf_20 : decode cX11_timesOf 20 = .ok (.iconst 0, 1) := by decide +kernel
theorem dX11_timesOf_21 : decode cX11_timesOf 21 = .ok (.invokevirtual 115, 3) := by decide +kernel
theorem dX11_timesOf_24 : decode cX11_timesOf 24 = .ok (.iload_n 1, 1) := by decide +kernel
theorem dX11_timesOf_25 : decode cX11_timesOf 25 = .ok (.if_icmp .ne 7, 3) := by decide +kernel
theorem dX11_timesOf_28 : decode cX11_timesOf 28 = .ok (.iconst 1, 1) := by decide +kernel
theorem dX11_timesOf_29 : decode cX11_timesOf 29 = .ok (.goto 4, 3) := by decide +kernel
theorem dX11_timesOf_32 : decode cX11_timesOf 32 = .ok (.iconst 0, 1) := by decide +kernel
theorem dX11_timesOf_33 : decode cX11_timesOf 33 = .ok (.aload_n 0, 1) := by decide +kernel
theorem dX11_timesOf_34 : decode cX11_timesOf 34 = .ok (.iload 4, 2) := by decide +kernel
theorem dX11_timesOf_36 : decode cX11_timesOf 36 = .ok (.iconst 0, 1) := by decide +kernel
theorem dX11_timesOf_37 : decode cX11_timesOf 37 = .ok (.iload_n 2, 1) := by decide +kernel
theorem dX11_timesOf_38 : decode cX11_timesOf 38 = .ok (.iconst 1, 1) := by decide +kernel
theorem dX11_timesOf_39 : decode cX11_timesOf 39 = .ok (.invokevirtual 115, 3) := by decide +kernel
theorem dX11_timesOf_42 : decode cX11_timesOf 42 = .ok (.iload_n 1, 1) := by decide +kernel
theorem dX11_timesOf_43 : decode cX11_timesOf 43 = .ok (.if_icmp .ne 7, 3) := by decide +kernel
theorem dX11_timesOf_46 : decode cX11_timesOf 46 = .ok (.iconst 1, 1) := by decide +kernel
theorem dX11_timesOf_47 : decode cX11_timesOf 47 = .ok (.goto 4, 3) := by decide +kernel
theorem dX11_timesOf_50 : decode cX11_timesOf 50 = .ok (.iconst 0, 1) := by decide +kernel
theorem dX11_timesOf_51 : decode cX11_timesOf 51 = .ok (.iadd, 1) := by decide +kernel
theorem dX11_timesOf_52 : decode cX11_timesOf 52 = .ok (.iadd, 1) := by decide +kernel
theorem dX11_timesOf_53 : decode cX11_timesOf 53 = .ok (.istore_n 3, 1) := by decide +kernel
theorem dX11_timesOf_54 : decode cX11_timesOf 54 = .ok (.iinc 4 1, 3) := by decide +kernel
theorem dX11_timesOf_57 : decode cX11_timesOf 57 = .ok (.goto (-52), 3) := by decide +kernel
theorem dX11_timesOf_60 : decode cX11_timesOf 60 = .ok (.iload_n 3, 1) := by decide +kernel
theorem dX11_timesOf_61 : decode cX11_timesOf 61 = .ok (.ireturn, 1) := by decide +kernel
def sX11_timesOf_L5 (F : Nat) (l0 : Nat) (l1 : Int32) (l2 : Int32) (l3 : Int32) (l4 : Int32) (h : HP) : Option ((Int32 × Int32) ⊕ Int32) :=
  (dO h 11 (some l0)).bind fun a1 =>
  (sX11_fingers F a1 h).bind fun t2 =>
  if t2 ≤ l4 then
    some (.inr l3)
  else
    (dO h 11 (some l0)).bind fun a3 =>
    (sX11_side F a3 l4 (0 : Int32) l2 (0 : Int32) h).bind fun t4 =>
    (if ¬ t4 = l1 then
        some (0 : Int32)
      else
        some (1 : Int32)).bind fun s5 =>
    (dO h 11 (some l0)).bind fun a6 =>
    (sX11_side F a6 l4 (0 : Int32) l2 (1 : Int32) h).bind fun t7 =>
    if ¬ t7 = l1 then
      nmI (l3 + (s5 + (0 : Int32))) fun l3_8 =>
      some (.inl (l3_8, l4 + (1 : Int32)))
    else
      nmI (l3 + (s5 + (1 : Int32))) fun l3_9 =>
      some (.inl (l3_9, l4 + (1 : Int32)))
def sX11_timesOf (F : Nat) (l0 : Nat) (l1 : Int32) (l2 : Int32) (h : HP) : Option Int32 :=
  (iter (fun s => sX11_timesOf_L5 F l0 l1 l2 s.1 s.2 h) F ((0 : Int32), (0 : Int32))).bind fun l3_10 =>
    some l3_10
abbrev rm_X11_timesOf : Room := { frames := 2, cells := 0, slots := 0, locals := 47 }
set_option maxRecDepth 100000 in
set_option maxHeartbeats 4000000 in
theorem mt_X11_timesOf {w : WD} {l : Launch} {F : Nat} {l0 : Nat} {l1 : Int32} {l2 : Int32} {h : HP} {v : Int32} (hs : sX11_timesOf F l0 l1 l2 h = some v) : MI w l yX11_timesOf cX11_timesOf 5 .int rm_X11_timesOf 0 0 [rf w (some l0), .int l1, .int l2] h v h := by
  refine of_body [(0, rf w (some l0)), (1, .int l1), (2, .int l2)] (by decide) (by simp [lg_sl, rf_cat, cat_i, cat_l, cat_a]) (by simp [lv_args, rf_cat, cat_i, cat_l, cat_a]) ?_
  intro x hw_ hnL_ hl_ hc hret hnm hQ
  subst hw_; subst hl_
  have hnl : ∀ i, i < 5 → i < x.nL := fun i h => by rw [hnL_]; exact h
  have hw : wpO (sX11_timesOf F l0 l1 l2 h) (fun r => r = v) := ⟨_, hs, rfl⟩
  unfold sX11_timesOf at hw
  refine R_iconst (v := (0 : Int32)) hc dX11_timesOf_0 kI_0 ?_
  refine R_istore_n (i := 3) (v := (0 : Int32)) hc [(3, .int (0 : Int32)), (0, rf x.w (some l0)), (1, .int l1), (2, .int l2)] dX11_timesOf_1 rfl (hnl 3 (le_b rfl)) rfl ?_
  refine R_iconst (v := (0 : Int32)) hc dX11_timesOf_2 kI_0 ?_
  refine R_istore (i := 4) (v := (0 : Int32)) hc [(4, .int (0 : Int32)), (3, .int (0 : Int32)), (0, rf x.w (some l0)), (1, .int l1), (2, .int l2)] dX11_timesOf_3 (hnl 4 (le_b rfl)) rfl ?_
  refine R_sub hc [2, 3, 4, 1, 0] rfl ?_
  refine R_loop (P := fun (s : (Int32 × Int32)) => Rn x 0 0 5 [(0, rf x.w (some l0)), (1, .int l1), (2, .int l2), (3, .int s.1), (4, .int s.2)] [] h) (fun l3_10 => Rn x 0 0 60 [(3, .int l3_10)] [] h) hw (fun r hw => ?_) (fun X hX s hw => ?_)
  · revert r hw
    intro l3_10 hw
    show Rn x 0 0 60 [(3, .int l3_10)] [] h
    refine R_iload_n (q := 0) (i := 3) (v := l3_10) hc dX11_timesOf_60 rfl rfl ?_
    exact R_ireturnP hc hret rfl hQ hw dX11_timesOf_61
  · obtain ⟨l3_12, l4_13⟩ := s
    show Rn x 0 0 5 [(0, rf x.w (some l0)), (1, .int l1), (2, .int l2), (3, .int l3_12), (4, .int l4_13)] [] h
    have hw : wpO (sX11_timesOf_L5 F l0 l1 l2 l3_12 l4_13 h) _ := hw
    unfold sX11_timesOf_L5 at hw
    refine R_iload (q := 4) (i := 4) (v := l4_13) hc dX11_timesOf_5 rfl ?_
    refine R_aload_n (q := 0) (i := 0) (v := (some l0)) hc dX11_timesOf_7 rfl rfl ?_
    refine R_cVI (As := []) (rest := [.int l4_13]) (r := (some l0)) (ci := 11) hc ml_11_103 mf_X11_fingers rfl (by decide) ⟨rfl, rfl⟩ ⟨le_b rfl, le_b rfl⟩ ⟨Nat.zero_le _, Nat.zero_le _⟩ (fun a v e => mt_X11_fingers e) rfl rfl (le_b rfl) dX11_timesOf_8 hw (fun t2 hw => ?_)
    refine R_icmp_ge (tgt := 60) hc dX11_timesOf_11 (by decide) hw (fun hw => ?_) (fun hw => ?_)
    · refine R_sub hc [3] rfl ?_
      exact (wpO_some hw :)
    · refine R_iload_n (q := 3) (i := 3) (v := l3_12) hc dX11_timesOf_14 rfl rfl ?_
      refine R_aload_n (q := 0) (i := 0) (v := (some l0)) hc dX11_timesOf_15 rfl rfl ?_
      refine R_iload (q := 4) (i := 4) (v := l4_13) hc dX11_timesOf_16 rfl ?_
      refine R_iconst (v := (0 : Int32)) hc dX11_timesOf_18 kI_0 ?_
      refine R_iload_n (q := 2) (i := 2) (v := l2) hc dX11_timesOf_19 rfl rfl ?_
      refine R_iconst (v := (0 : Int32)) hc dX11_timesOf_20 kI_0 ?_
      refine R_cVI (As := [.int l4_13, .int (0 : Int32), .int l2, .int (0 : Int32)]) (rest := [.int l3_12]) (r := (some l0)) (ci := 11) hc ml_11_115 mf_X11_side rfl (by decide) ⟨rfl, rfl⟩ ⟨le_b rfl, le_b rfl⟩ ⟨Nat.zero_le _, Nat.zero_le _⟩ (fun a v e => mt_X11_side e) rfl rfl (le_b rfl) dX11_timesOf_21 hw (fun t4 hw => ?_)
      refine R_iload_n (q := 1) (i := 1) (v := l1) hc dX11_timesOf_24 rfl rfl ?_
      refine R_join (fun (s5 : Int32) => Rn x 0 0 33 [(0, rf x.w (some l0)), (1, .int l1), (2, .int l2), (4, .int l4_13)] [.int s5, .int l3_12] h) hw (fun r hw => ?_) (fun hw => ?_)
      · revert r hw
        intro s5 hw
        show Rn x 0 0 33 [(0, rf x.w (some l0)), (1, .int l1), (2, .int l2), (4, .int l4_13)] [.int s5, .int l3_12] h
        refine R_aload_n (q := 0) (i := 0) (v := (some l0)) hc dX11_timesOf_33 rfl rfl ?_
        refine R_iload (q := 3) (i := 4) (v := l4_13) hc dX11_timesOf_34 rfl ?_
        refine R_iconst (v := (0 : Int32)) hc dX11_timesOf_36 kI_0 ?_
        refine R_iload_n (q := 2) (i := 2) (v := l2) hc dX11_timesOf_37 rfl rfl ?_
        refine R_iconst (v := (1 : Int32)) hc dX11_timesOf_38 kI_1 ?_
        refine R_cVI (As := [.int l4_13, .int (0 : Int32), .int l2, .int (1 : Int32)]) (rest := [.int s5, .int l3_12]) (r := (some l0)) (ci := 11) hc ml_11_115 mf_X11_side rfl (by decide) ⟨rfl, rfl⟩ ⟨le_b rfl, le_b rfl⟩ ⟨Nat.zero_le _, Nat.zero_le _⟩ (fun a v e => mt_X11_side e) rfl rfl (le_b rfl) dX11_timesOf_39 hw (fun t7 hw => ?_)
        refine R_iload_n (q := 1) (i := 1) (v := l1) hc dX11_timesOf_42 rfl rfl ?_
        refine R_icmp_ne (tgt := 50) hc dX11_timesOf_43 (by decide) hw (fun hw => ?_) (fun hw => ?_)
        · refine R_iconst (v := (0 : Int32)) hc dX11_timesOf_50 kI_0 ?_
          refine R_iadd hc dX11_timesOf_51 ?_
          refine R_iadd hc dX11_timesOf_52 ?_
          refine R_nmI hw (fun l3_8 hw => ?_)
          refine R_istore_n (i := 3) (v := l3_8) hc [(3, .int l3_8), (0, rf x.w (some l0)), (1, .int l1), (2, .int l2), (4, .int l4_13)] dX11_timesOf_53 rfl (hnl 3 (le_b rfl)) rfl ?_
          refine R_iinc (q := 4) (i := 4) (v := l4_13) hc [(4, .int (l4_13 + (1 : Int32))), (3, .int l3_8), (0, rf x.w (some l0)), (1, .int l1), (2, .int l2)] dX11_timesOf_54 rfl (kC_1 _) (hnl 4 (le_b rfl)) rfl ?_
          refine R_goto (tgt := 5) hc dX11_timesOf_57 (by decide) ?_
          refine R_sub hc [2, 3, 4, 1, 0] rfl ?_
          exact hX (l3_8, l4_13 + (1 : Int32)) (wpO_some hw :)
        · refine R_iconst (v := (1 : Int32)) hc dX11_timesOf_46 kI_1 ?_
          refine R_goto (tgt := 51) hc dX11_timesOf_47 (by decide) ?_
          refine R_iadd hc dX11_timesOf_51 ?_
          refine R_iadd hc dX11_timesOf_52 ?_
          refine R_nmI hw (fun l3_9 hw => ?_)
          refine R_istore_n (i := 3) (v := l3_9) hc [(3, .int l3_9), (0, rf x.w (some l0)), (1, .int l1), (2, .int l2), (4, .int l4_13)] dX11_timesOf_53 rfl (hnl 3 (le_b rfl)) rfl ?_
          refine R_iinc (q := 4) (i := 4) (v := l4_13) hc [(4, .int (l4_13 + (1 : Int32))), (3, .int l3_9), (0, rf x.w (some l0)), (1, .int l1), (2, .int l2)] dX11_timesOf_54 rfl (kC_1 _) (hnl 4 (le_b rfl)) rfl ?_
          refine R_goto (tgt := 5) hc dX11_timesOf_57 (by decide) ?_
          refine R_sub hc [2, 3, 4, 1, 0] rfl ?_
          exact hX (l3_9, l4_13 + (1 : Int32)) (wpO_some hw :)
      · refine R_icmp_ne (tgt := 32) hc dX11_timesOf_25 (by decide) hw (fun hw => ?_) (fun hw => ?_)
        · refine R_iconst (v := (0 : Int32)) hc dX11_timesOf_32 kI_0 ?_
          refine R_sub hc [0, 1, 2, 4] rfl ?_
          exact (wpO_some hw :)
        · refine R_iconst (v := (1 : Int32)) hc dX11_timesOf_28 kI_1 ?_
          refine R_goto (tgt := 33) hc dX11_timesOf_29 (by decide) ?_
          refine R_sub hc [0, 1, 2, 4] rfl ?_
          exact (wpO_some hw :)
theorem dX11_bound0_0 : decode cX11_bound0 0 = .ok (.iconst 0, 1) := by decide +kernel
theorem dX11_bound0_1 : decode cX11_bound0 1 = .ok (.istore_n 2, 1) := by decide +kernel
theorem dX11_bound0_2 : decode cX11_bound0 2 = .ok (.iconst 0, 1) := by decide +kernel
theorem dX11_bound0_3 : decode cX11_bound0 3 = .ok (.istore_n 3, 1) := by decide +kernel
theorem dX11_bound0_4 : decode cX11_bound0 4 = .ok (.iconst 0, 1) := by decide +kernel
theorem dX11_bound0_5 : decode cX11_bound0 5 = .ok (.istore 4, 2) := by decide +kernel
theorem dX11_bound0_7 : decode cX11_bound0 7 = .ok (.iload 4, 2) := by decide +kernel
theorem dX11_bound0_9 : decode cX11_bound0 9 = .ok (.bipush 12, 2) := by decide +kernel
theorem dX11_bound0_11 : decode cX11_bound0 11 = .ok (.if_icmp .ge 108, 3) := by decide +kernel
theorem dX11_bound0_14 : decode cX11_bound0 14 = .ok (.iload_n 2, 1) := by decide +kernel
theorem dX11_bound0_15 : decode cX11_bound0 15 = .ok (.iload 4, 2) := by decide +kernel
theorem dX11_bound0_17 : decode cX11_bound0 17 = .ok (.invokestatic 178, 3) := by decide +kernel
theorem dX11_bound0_20 : decode cX11_bound0 20 = .ok (.ifCond .ne 93, 3) := by decide +kernel
theorem dX11_bound0_23 : decode cX11_bound0 23 = .ok (.aload_n 0, 1) := by decide +kernel
theorem dX11_bound0_24 : decode cX11_bound0 24 = .ok (.iload 4, 2) := by decide +kernel
theorem dX11_bound0_26 : decode cX11_bound0 26 = .ok (.iload_n 1, 1) := by decide +kernel
theorem dX11_bound0_27 : decode cX11_bound0 27 = .ok (.invokevirtual 340, 3) := by decide +kernel
theorem dX11_bound0_30 : decode cX11_bound0 30 = .ok (.ifCond .ne 6, 3) := by decide +kernel
theorem dX11_bound0_33 : decode cX11_bound0 33 = .ok (.goto 80, 3) := by decide +kernel
theorem dX11_bound0_36 : decode cX11_bound0 36 = .ok (.aload_n 0, 1) := by decide +kernel
theorem dX11_bound0_37 : decode cX11_bound0 37 = .ok (.iload 4, 2) := by decide +kernel
theorem dX11_bound0_39 : decode cX11_bound0 39 = .ok (.iload_n 1, 1) := by decide +kernel
theorem dX11_bound0_40 : decode cX11_bound0 40 = .ok (.invokevirtual 344, 3) := by decide +kernel
theorem dX11_bound0_43 : decode cX11_bound0 43 = .ok (.istore 5, 2) := by decide +kernel
theorem dX11_bound0_45 : decode cX11_bound0 45 = .ok (.iconst 0, 1) := by decide +kernel
theorem dX11_bound0_46 : decode cX11_bound0 46 = .ok (.istore 6, 2) := by decide +kernel
theorem dX11_bound0_48 : decode cX11_bound0 48 = .ok (.iconst 0, 1) := by decide +kernel
theorem dX11_bound0_49 : decode cX11_bound0 49 = .ok (.istore 7, 2) := by decide +kernel
theorem dX11_bound0_51 : decode cX11_bound0 51 = .ok (.iload 7, 2) := by decide +kernel
theorem dX11_bound0_53 : decode cX11_bound0 53 = .ok (.bipush 12, 2) := by decide +kernel
theorem dX11_bound0_55 : decode cX11_bound0 55 = .ok (.if_icmp .ge 42, 3) := by decide +kernel
theorem dX11_bound0_58 : decode cX11_bound0 58 = .ok (.iload 6, 2) := by decide +kernel
theorem dX11_bound0_60 : decode cX11_bound0 60 = .ok (.iload 5, 2) := by decide +kernel
theorem dX11_bound0_62 : decode cX11_bound0 62 = .ok (.iload 7, 2) := by decide +kernel
theorem dX11_bound0_64 : decode cX11_bound0 64 = .ok (.invokestatic 178, 3) := by decide +kernel
theorem dX11_bound0_67 : decode cX11_bound0 67 = .ok (.ifCond .eq 20, 3) := by decide +kernel
theorem dX11_bound0_70 : decode cX11_bound0 70 = .ok (.aload_n 0, 1) := by decide +kernel
theorem dX11_bound0_71 : decode cX11_bound0 71 = .ok (.iload 7, 2) := by decide +kernel
theorem dX11_bound0_73 : decode cX11_bound0 73 = .ok (.iload_n 1, 1) := by decide +kernel
theorem dX11_bound0_74 : decode cX11_bound0 74 = .ok (.invokevirtual 340, 3) := by decide +kernel
theorem dX11_bound0_77 : decode cX11_bound0 77 = .ok (.iconst 2, 1) := by decide +kernel
theorem dX11_bound0_78 : decode cX11_bound0 78 = .ok (.irem, 1) := by decide +kernel
theorem dX11_bound0_79 : decode cX11_bound0 79 = .ok (.iconst 1, 1) := by decide +kernel
theorem dX11_bound0_80 : decode cX11_bound0 80 = .ok (.if_icmp .ne 7, 3) := by decide +kernel
theorem dX11_bound0_83 : decode cX11_bound0 83 = .ok (.iconst 1, 1) := by decide +kernel
theorem dX11_bound0_84 : decode cX11_bound0 84 = .ok (.goto 4, 3) := by decide +kernel
theorem dX11_bound0_87 : decode cX11_bound0 87 = .ok (.iconst 0, 1) := by decide +kernel
theorem dX11_bound0_88 : decode cX11_bound0 88 = .ok (.iadd, 1) := by decide +kernel
theorem dX11_bound0_89 : decode cX11_bound0 89 = .ok (.istore 6, 2) := by decide +kernel
theorem dX11_bound0_91 : decode cX11_bound0 91 = .ok (.iinc 7 1, 3) := by decide +kernel
theorem dX11_bound0_94 : decode cX11_bound0 94 = .ok (.goto (-43), 3) := by decide +kernel
theorem dX11_bound0_97 : decode cX11_bound0 97 = .ok (.iload_n 3, 1) := by decide +kernel
theorem dX11_bound0_98 : decode cX11_bound0 98 = .ok (.iconst 1, 1) := by decide +kernel
theorem dX11_bound0_99 : decode cX11_bound0 99 = .ok (.iload 6, 2) := by decide +kernel
theorem dX11_bound0_101 : decode cX11_bound0 101 = .ok (.iconst 2, 1) := by decide +kernel
theorem dX11_bound0_102 : decode cX11_bound0 102 = .ok (.idiv, 1) := by decide +kernel
theorem dX11_bound0_103 : decode cX11_bound0 103 = .ok (.invokestatic 175, 3) := by decide +kernel
theorem dX11_bound0_106 : decode cX11_bound0 106 = .ok (.iadd, 1) := by decide +kernel
theorem dX11_bound0_107 : decode cX11_bound0 107 = .ok (.istore_n 3, 1) := by decide +kernel
theorem dX11_bound0_108 : decode cX11_bound0 108 = .ok (.iload_n 2, 1) := by decide +kernel
theorem dX11_bound0_109 : decode cX11_bound0 109 = .ok (.iload 5, 2) := by decide +kernel
theorem dX11_bound0_111 : decode cX11_bound0 111 = .ok (.ior, 1) := by decide +kernel
theorem dX11_bound0_112 : decode cX11_bound0 112 = .ok (.istore_n 2, 1) := by decide +kernel
theorem dX11_bound0_113 : decode cX11_bound0 113 = .ok (.iinc 4 1, 3) := by decide +kernel
theorem dX11_bound0_116 : decode cX11_bound0 116 = .ok (.goto (-109), 3) := by decide +kernel
theorem dX11_bound0_119 : decode cX11_bound0 119 = .ok (.iload_n 3, 1) := by decide +kernel
theorem dX11_bound0_120 : decode cX11_bound0 120 = .ok (.ifCond .ne 7, 3) := by decide +kernel
theorem dX11_bound0_123 : decode cX11_bound0 123 = .ok (.iconst 0, 1) := by decide +kernel
theorem dX11_bound0_124 : decode cX11_bound0 124 = .ok (.goto 6, 3) := by decide +kernel
theorem dX11_bound0_127 : decode cX11_bound0 127 = .ok (.iload_n 3, 1) := by decide +kernel
theorem dX11_bound0_128 : decode cX11_bound0 128 = .ok (.iconst 1, 1) := by decide +kernel
theorem dX11_bound0_129 : decode cX11_bound0 129 = .ok (.isub, 1) := by decide +kernel
theorem dX11_bound0_130 : decode cX11_bound0 130 = .ok (.ireturn, 1) := by decide +kernel
def sX11_bound0_L51 (F : Nat) (l0 : Nat) (l1 : Int32) (l2 : Int32) (l3 : Int32) (l4 : Int32) (l5 : Int32) (l6 : Int32) (l7 : Int32) (h : HP) : Option ((Int32 × Int32) ⊕ Int32) :=
  if (12 : Int32) ≤ l7 then
    some (.inr l6)
  else
    (sX11_has F l5 l7 h).bind fun t6 =>
    if t6 = 0 then
      nmI (l6 + (0 : Int32)) fun l6_7 =>
      some (.inl (l6_7, l7 + (1 : Int32)))
    else
      (dO h 11 (some l0)).bind fun a8 =>
      (sX11_timesOf F a8 l7 l1 h).bind fun t9 =>
      if ¬ (jrem t9 (2 : Int32)) = (1 : Int32) then
        nmI (l6 + (0 : Int32)) fun l6_10 =>
        some (.inl (l6_10, l7 + (1 : Int32)))
      else
        nmI (l6 + (1 : Int32)) fun l6_11 =>
        some (.inl (l6_11, l7 + (1 : Int32)))
def sX11_bound0_L7 (F : Nat) (l0 : Nat) (l1 : Int32) (l2 : Int32) (l3 : Int32) (l4 : Int32) (h : HP) : Option ((Int32 × Int32 × Int32) ⊕ Int32) :=
  if (12 : Int32) ≤ l4 then
    some (.inr l3)
  else
    (sX11_has F l2 l4 h).bind fun t1 =>
    if ¬ t1 = 0 then
      some (.inl (l2, l3, l4 + (1 : Int32)))
    else
      (dO h 11 (some l0)).bind fun a2 =>
      (sX11_timesOf F a2 l4 l1 h).bind fun t3 =>
      if ¬ t3 = 0 then
        (dO h 11 (some l0)).bind fun a4 =>
        (sX11_tiedTo F a4 l4 l1 h).bind fun t5 =>
        (iter (fun s => sX11_bound0_L51 F l0 l1 l2 l3 l4 t5 s.1 s.2 h) F ((0 : Int32), (0 : Int32))).bind fun l6_12 =>
          (sX11_greater F (1 : Int32) (l6_12 / (2 : Int32)) h).bind fun t13 =>
          nmI (l3 + t13) fun l3_14 =>
          nmI (l2 ||| t5) fun l2_15 =>
          some (.inl (l2_15, l3_14, l4 + (1 : Int32)))
      else
        some (.inl (l2, l3, l4 + (1 : Int32)))
def sX11_bound0 (F : Nat) (l0 : Nat) (l1 : Int32) (h : HP) : Option Int32 :=
  (iter (fun s => sX11_bound0_L7 F l0 l1 s.1 s.2.1 s.2.2 h) F ((0 : Int32), (0 : Int32), (0 : Int32))).bind fun l3_19 =>
    if ¬ l3_19 = 0 then
      some (l3_19 - (1 : Int32))
    else
      some (0 : Int32)
abbrev rm_X11_bound0 : Room := { frames := 3, cells := 0, slots := 0, locals := 73 }
set_option maxRecDepth 100000 in
set_option maxHeartbeats 4000000 in
theorem mt_X11_bound0 {w : WD} {l : Launch} {F : Nat} {l0 : Nat} {l1 : Int32} {h : HP} {v : Int32} (hs : sX11_bound0 F l0 l1 h = some v) : MI w l yX11_bound0 cX11_bound0 8 .int rm_X11_bound0 0 0 [rf w (some l0), .int l1] h v h := by
  refine of_body [(0, rf w (some l0)), (1, .int l1)] (by decide) (by simp [lg_sl, rf_cat, cat_i, cat_l, cat_a]) (by simp [lv_args, rf_cat, cat_i, cat_l, cat_a]) ?_
  intro x hw_ hnL_ hl_ hc hret hnm hQ
  subst hw_; subst hl_
  have hnl : ∀ i, i < 8 → i < x.nL := fun i h => by rw [hnL_]; exact h
  have hw : wpO (sX11_bound0 F l0 l1 h) (fun r => r = v) := ⟨_, hs, rfl⟩
  unfold sX11_bound0 at hw
  refine R_iconst (v := (0 : Int32)) hc dX11_bound0_0 kI_0 ?_
  refine R_istore_n (i := 2) (v := (0 : Int32)) hc [(2, .int (0 : Int32)), (0, rf x.w (some l0)), (1, .int l1)] dX11_bound0_1 rfl (hnl 2 (le_b rfl)) rfl ?_
  refine R_iconst (v := (0 : Int32)) hc dX11_bound0_2 kI_0 ?_
  refine R_istore_n (i := 3) (v := (0 : Int32)) hc [(3, .int (0 : Int32)), (2, .int (0 : Int32)), (0, rf x.w (some l0)), (1, .int l1)] dX11_bound0_3 rfl (hnl 3 (le_b rfl)) rfl ?_
  refine R_iconst (v := (0 : Int32)) hc dX11_bound0_4 kI_0 ?_
  refine R_istore (i := 4) (v := (0 : Int32)) hc [(4, .int (0 : Int32)), (3, .int (0 : Int32)), (2, .int (0 : Int32)), (0, rf x.w (some l0)), (1, .int l1)] dX11_bound0_5 (hnl 4 (le_b rfl)) rfl ?_
  refine R_sub hc [3, 4, 2, 1, 0] rfl ?_
  refine R_loop (P := fun (s : (Int32 × Int32 × Int32)) => Rn x 0 0 7 [(0, rf x.w (some l0)), (1, .int l1), (2, .int s.1), (3, .int s.2.1), (4, .int s.2.2)] [] h) (fun l3_19 => Rn x 0 0 119 [(3, .int l3_19)] [] h) hw (fun r hw => ?_) (fun X hX s hw => ?_)
  · revert r hw
    intro l3_19 hw
    show Rn x 0 0 119 [(3, .int l3_19)] [] h
    refine R_iload_n (q := 0) (i := 3) (v := l3_19) hc dX11_bound0_119 rfl rfl ?_
    refine R_if_ne (tgt := 127) hc dX11_bound0_120 (by decide) hw (fun hw => ?_) (fun hw => ?_)
    · refine R_iload_n (q := 0) (i := 3) (v := l3_19) hc dX11_bound0_127 rfl rfl ?_
      refine R_iconst (v := (1 : Int32)) hc dX11_bound0_128 kI_1 ?_
      refine R_isub hc dX11_bound0_129 ?_
      exact R_ireturnP hc hret rfl hQ hw dX11_bound0_130
    · refine R_iconst (v := (0 : Int32)) hc dX11_bound0_123 kI_0 ?_
      refine R_goto (tgt := 130) hc dX11_bound0_124 (by decide) ?_
      exact R_ireturnP hc hret rfl hQ hw dX11_bound0_130
  · obtain ⟨l2_21, l3_22, l4_23⟩ := s
    show Rn x 0 0 7 [(0, rf x.w (some l0)), (1, .int l1), (2, .int l2_21), (3, .int l3_22), (4, .int l4_23)] [] h
    have hw : wpO (sX11_bound0_L7 F l0 l1 l2_21 l3_22 l4_23 h) _ := hw
    unfold sX11_bound0_L7 at hw
    refine R_iload (q := 4) (i := 4) (v := l4_23) hc dX11_bound0_7 rfl ?_
    refine R_bipush (v := (12 : Int32)) hc dX11_bound0_9 kB_12 ?_
    refine R_icmp_ge (tgt := 119) hc dX11_bound0_11 (by decide) hw (fun hw => ?_) (fun hw => ?_)
    · refine R_sub hc [3] rfl ?_
      exact (wpO_some hw :)
    · refine R_iload_n (q := 2) (i := 2) (v := l2_21) hc dX11_bound0_14 rfl rfl ?_
      refine R_iload (q := 4) (i := 4) (v := l4_23) hc dX11_bound0_15 rfl ?_
      refine R_cSI (As := [.int l2_21, .int l4_23]) (rest := []) hc ml_11_178 mf_X11_has ⟨rfl, rfl⟩ ⟨le_b rfl, le_b rfl⟩ ⟨Nat.zero_le _, Nat.zero_le _⟩ (fun v e => mt_X11_has e) rfl rfl (Nat.zero_le _) dX11_bound0_17 hw (fun t1 hw => ?_)
      refine R_if_ne (tgt := 113) hc dX11_bound0_20 (by decide) hw (fun hw => ?_) (fun hw => ?_)
      · refine R_iinc (q := 4) (i := 4) (v := l4_23) hc [(4, .int (l4_23 + (1 : Int32))), (0, rf x.w (some l0)), (1, .int l1), (2, .int l2_21), (3, .int l3_22)] dX11_bound0_113 rfl (kC_1 _) (hnl 4 (le_b rfl)) rfl ?_
        refine R_goto (tgt := 7) hc dX11_bound0_116 (by decide) ?_
        refine R_sub hc [1, 2, 3, 4, 0] rfl ?_
        exact hX (l2_21, l3_22, l4_23 + (1 : Int32)) (wpO_some hw :)
      · refine R_aload_n (q := 0) (i := 0) (v := (some l0)) hc dX11_bound0_23 rfl rfl ?_
        refine R_iload (q := 4) (i := 4) (v := l4_23) hc dX11_bound0_24 rfl ?_
        refine R_iload_n (q := 1) (i := 1) (v := l1) hc dX11_bound0_26 rfl rfl ?_
        refine R_cVI (As := [.int l4_23, .int l1]) (rest := []) (r := (some l0)) (ci := 11) hc ml_11_340 mf_X11_timesOf rfl (by decide) ⟨rfl, rfl⟩ ⟨le_b rfl, le_b rfl⟩ ⟨Nat.zero_le _, Nat.zero_le _⟩ (fun a v e => mt_X11_timesOf e) rfl rfl (Nat.zero_le _) dX11_bound0_27 hw (fun t3 hw => ?_)
        refine R_if_ne (tgt := 36) hc dX11_bound0_30 (by decide) hw (fun hw => ?_) (fun hw => ?_)
        · refine R_aload_n (q := 0) (i := 0) (v := (some l0)) hc dX11_bound0_36 rfl rfl ?_
          refine R_iload (q := 4) (i := 4) (v := l4_23) hc dX11_bound0_37 rfl ?_
          refine R_iload_n (q := 1) (i := 1) (v := l1) hc dX11_bound0_39 rfl rfl ?_
          refine R_cVI (As := [.int l4_23, .int l1]) (rest := []) (r := (some l0)) (ci := 11) hc ml_11_344 mf_X11_tiedTo rfl (by decide) ⟨rfl, rfl⟩ ⟨le_b rfl, le_b rfl⟩ ⟨Nat.zero_le _, Nat.zero_le _⟩ (fun a v e => mt_X11_tiedTo e) rfl rfl (Nat.zero_le _) dX11_bound0_40 hw (fun t5 hw => ?_)
          refine R_istore (i := 5) (v := t5) hc [(5, .int t5), (0, rf x.w (some l0)), (1, .int l1), (2, .int l2_21), (3, .int l3_22), (4, .int l4_23)] dX11_bound0_43 (hnl 5 (le_b rfl)) rfl ?_
          refine R_iconst (v := (0 : Int32)) hc dX11_bound0_45 kI_0 ?_
          refine R_istore (i := 6) (v := (0 : Int32)) hc [(6, .int (0 : Int32)), (5, .int t5), (0, rf x.w (some l0)), (1, .int l1), (2, .int l2_21), (3, .int l3_22), (4, .int l4_23)] dX11_bound0_46 (hnl 6 (le_b rfl)) rfl ?_
          refine R_iconst (v := (0 : Int32)) hc dX11_bound0_48 kI_0 ?_
          refine R_istore (i := 7) (v := (0 : Int32)) hc [(7, .int (0 : Int32)), (6, .int (0 : Int32)), (5, .int t5), (0, rf x.w (some l0)), (1, .int l1), (2, .int l2_21), (3, .int l3_22), (4, .int l4_23)] dX11_bound0_49 (hnl 7 (le_b rfl)) rfl ?_
          refine R_sub hc [3, 4, 5, 6, 7, 2, 1, 0] rfl ?_
          refine R_loop (P := fun (s : (Int32 × Int32)) => Rn x 0 0 51 [(0, rf x.w (some l0)), (1, .int l1), (2, .int l2_21), (3, .int l3_22), (4, .int l4_23), (5, .int t5), (6, .int s.1), (7, .int s.2)] [] h) (fun l6_12 => Rn x 0 0 97 [(0, rf x.w (some l0)), (1, .int l1), (2, .int l2_21), (3, .int l3_22), (4, .int l4_23), (5, .int t5), (6, .int l6_12)] [] h) hw (fun r hw => ?_) (fun X hX s hw => ?_)
          · revert r hw
            intro l6_12 hw
            show Rn x 0 0 97 [(0, rf x.w (some l0)), (1, .int l1), (2, .int l2_21), (3, .int l3_22), (4, .int l4_23), (5, .int t5), (6, .int l6_12)] [] h
            refine R_iload_n (q := 3) (i := 3) (v := l3_22) hc dX11_bound0_97 rfl rfl ?_
            refine R_iconst (v := (1 : Int32)) hc dX11_bound0_98 kI_1 ?_
            refine R_iload (q := 6) (i := 6) (v := l6_12) hc dX11_bound0_99 rfl ?_
            refine R_iconst (v := (2 : Int32)) hc dX11_bound0_101 kI_2 ?_
            refine R_idivL hc dX11_bound0_102 (by decide) ?_
            refine R_cSI (As := [.int (1 : Int32), .int (l6_12 / (2 : Int32))]) (rest := [.int l3_22]) hc ml_11_175 mf_X11_greater ⟨rfl, rfl⟩ ⟨le_b rfl, le_b rfl⟩ ⟨Nat.zero_le _, Nat.zero_le _⟩ (fun v e => mt_X11_greater e) rfl rfl (le_b rfl) dX11_bound0_103 hw (fun t13 hw => ?_)
            refine R_iadd hc dX11_bound0_106 ?_
            refine R_nmI hw (fun l3_14 hw => ?_)
            refine R_istore_n (i := 3) (v := l3_14) hc [(3, .int l3_14), (0, rf x.w (some l0)), (1, .int l1), (2, .int l2_21), (4, .int l4_23), (5, .int t5), (6, .int l6_12)] dX11_bound0_107 rfl (hnl 3 (le_b rfl)) rfl ?_
            refine R_iload_n (q := 3) (i := 2) (v := l2_21) hc dX11_bound0_108 rfl rfl ?_
            refine R_iload (q := 5) (i := 5) (v := t5) hc dX11_bound0_109 rfl ?_
            refine R_ior hc dX11_bound0_111 ?_
            refine R_nmI hw (fun l2_15 hw => ?_)
            refine R_istore_n (i := 2) (v := l2_15) hc [(2, .int l2_15), (3, .int l3_14), (0, rf x.w (some l0)), (1, .int l1), (4, .int l4_23), (5, .int t5), (6, .int l6_12)] dX11_bound0_112 rfl (hnl 2 (le_b rfl)) rfl ?_
            refine R_iinc (q := 4) (i := 4) (v := l4_23) hc [(4, .int (l4_23 + (1 : Int32))), (2, .int l2_15), (3, .int l3_14), (0, rf x.w (some l0)), (1, .int l1), (5, .int t5), (6, .int l6_12)] dX11_bound0_113 rfl (kC_1 _) (hnl 4 (le_b rfl)) rfl ?_
            refine R_goto (tgt := 7) hc dX11_bound0_116 (by decide) ?_
            refine R_sub hc [3, 4, 1, 2, 0] rfl ?_
            exact hX (l2_15, l3_14, l4_23 + (1 : Int32)) (wpO_some hw :)
          · obtain ⟨l6_17, l7_18⟩ := s
            show Rn x 0 0 51 [(0, rf x.w (some l0)), (1, .int l1), (2, .int l2_21), (3, .int l3_22), (4, .int l4_23), (5, .int t5), (6, .int l6_17), (7, .int l7_18)] [] h
            have hw : wpO (sX11_bound0_L51 F l0 l1 l2_21 l3_22 l4_23 t5 l6_17 l7_18 h) _ := hw
            unfold sX11_bound0_L51 at hw
            refine R_iload (q := 7) (i := 7) (v := l7_18) hc dX11_bound0_51 rfl ?_
            refine R_bipush (v := (12 : Int32)) hc dX11_bound0_53 kB_12 ?_
            refine R_icmp_ge (tgt := 97) hc dX11_bound0_55 (by decide) hw (fun hw => ?_) (fun hw => ?_)
            · refine R_sub hc [0, 1, 2, 3, 4, 5, 6] rfl ?_
              exact (wpO_some hw :)
            · refine R_iload (q := 6) (i := 6) (v := l6_17) hc dX11_bound0_58 rfl ?_
              refine R_iload (q := 5) (i := 5) (v := t5) hc dX11_bound0_60 rfl ?_
              refine R_iload (q := 7) (i := 7) (v := l7_18) hc dX11_bound0_62 rfl ?_
              refine R_cSI (As := [.int t5, .int l7_18]) (rest := [.int l6_17]) hc ml_11_178 mf_X11_has ⟨rfl, rfl⟩ ⟨le_b rfl, le_b rfl⟩ ⟨Nat.zero_le _, Nat.zero_le _⟩ (fun v e => mt_X11_has e) rfl rfl (le_b rfl) dX11_bound0_64 hw (fun t6 hw => ?_)
              refine R_if_eq (tgt := 87) hc dX11_bound0_67 (by decide) hw (fun hw => ?_) (fun hw => ?_)
              · refine R_iconst (v := (0 : Int32)) hc dX11_bound0_87 kI_0 ?_
                refine R_iadd hc dX11_bound0_88 ?_
                refine R_nmI hw (fun l6_7 hw => ?_)
                refine R_istore (i := 6) (v := l6_7) hc [(6, .int l6_7), (0, rf x.w (some l0)), (1, .int l1), (2, .int l2_21), (3, .int l3_22), (4, .int l4_23), (5, .int t5), (7, .int l7_18)] dX11_bound0_89 (hnl 6 (le_b rfl)) rfl ?_
                refine R_iinc (q := 7) (i := 7) (v := l7_18) hc [(7, .int (l7_18 + (1 : Int32))), (6, .int l6_7), (0, rf x.w (some l0)), (1, .int l1), (2, .int l2_21), (3, .int l3_22), (4, .int l4_23), (5, .int t5)] dX11_bound0_91 rfl (kC_1 _) (hnl 7 (le_b rfl)) rfl ?_
                refine R_goto (tgt := 51) hc dX11_bound0_94 (by decide) ?_
                refine R_sub hc [2, 3, 4, 5, 6, 7, 1, 0] rfl ?_
                exact hX (l6_7, l7_18 + (1 : Int32)) (wpO_some hw :)
              · refine R_aload_n (q := 0) (i := 0) (v := (some l0)) hc dX11_bound0_70 rfl rfl ?_
                refine R_iload (q := 7) (i := 7) (v := l7_18) hc dX11_bound0_71 rfl ?_
                refine R_iload_n (q := 1) (i := 1) (v := l1) hc dX11_bound0_73 rfl rfl ?_
                refine R_cVI (As := [.int l7_18, .int l1]) (rest := [.int l6_17]) (r := (some l0)) (ci := 11) hc ml_11_340 mf_X11_timesOf rfl (by decide) ⟨rfl, rfl⟩ ⟨le_b rfl, le_b rfl⟩ ⟨Nat.zero_le _, Nat.zero_le _⟩ (fun a v e => mt_X11_timesOf e) rfl rfl (le_b rfl) dX11_bound0_74 hw (fun t9 hw => ?_)
                refine R_iconst (v := (2 : Int32)) hc dX11_bound0_77 kI_2 ?_
                refine R_iremL hc dX11_bound0_78 (by decide) ?_
                refine R_iconst (v := (1 : Int32)) hc dX11_bound0_79 kI_1 ?_
                refine R_icmp_ne (tgt := 87) hc dX11_bound0_80 (by decide) hw (fun hw => ?_) (fun hw => ?_)
                · refine R_iconst (v := (0 : Int32)) hc dX11_bound0_87 kI_0 ?_
                  refine R_iadd hc dX11_bound0_88 ?_
                  refine R_nmI hw (fun l6_10 hw => ?_)
                  refine R_istore (i := 6) (v := l6_10) hc [(6, .int l6_10), (0, rf x.w (some l0)), (1, .int l1), (2, .int l2_21), (3, .int l3_22), (4, .int l4_23), (5, .int t5), (7, .int l7_18)] dX11_bound0_89 (hnl 6 (le_b rfl)) rfl ?_
                  refine R_iinc (q := 7) (i := 7) (v := l7_18) hc [(7, .int (l7_18 + (1 : Int32))), (6, .int l6_10), (0, rf x.w (some l0)), (1, .int l1), (2, .int l2_21), (3, .int l3_22), (4, .int l4_23), (5, .int t5)] dX11_bound0_91 rfl (kC_1 _) (hnl 7 (le_b rfl)) rfl ?_
                  refine R_goto (tgt := 51) hc dX11_bound0_94 (by decide) ?_
                  refine R_sub hc [2, 3, 4, 5, 6, 7, 1, 0] rfl ?_
                  exact hX (l6_10, l7_18 + (1 : Int32)) (wpO_some hw :)
                · refine R_iconst (v := (1 : Int32)) hc dX11_bound0_83 kI_1 ?_
                  refine R_goto (tgt := 88) hc dX11_bound0_84 (by decide) ?_
                  refine R_iadd hc dX11_bound0_88 ?_
                  refine R_nmI hw (fun l6_11 hw => ?_)
                  refine R_istore (i := 6) (v := l6_11) hc [(6, .int l6_11), (0, rf x.w (some l0)), (1, .int l1), (2, .int l2_21), (3, .int l3_22), (4, .int l4_23), (5, .int t5), (7, .int l7_18)] dX11_bound0_89 (hnl 6 (le_b rfl)) rfl ?_
                  refine R_iinc (q := 7) (i := 7) (v := l7_18) hc [(7, .int (l7_18 + (1 : Int32))), (6, .int l6_11), (0, rf x.w (some l0)), (1, .int l1), (2, .int l2_21), (3, .int l3_22), (4, .int l4_23), (5, .int t5)] dX11_bound0_91 rfl (kC_1 _) (hnl 7 (le_b rfl)) rfl ?_
                  refine R_goto (tgt := 51) hc dX11_bound0_94 (by decide) ?_
                  refine R_sub hc [2, 3, 4, 5, 6, 7, 1, 0] rfl ?_
                  exact hX (l6_11, l7_18 + (1 : Int32)) (wpO_some hw :)
        · refine R_goto (tgt := 113) hc dX11_bound0_33 (by decide) ?_
          refine R_iinc (q := 4) (i := 4) (v := l4_23) hc [(4, .int (l4_23 + (1 : Int32))), (0, rf x.w (some l0)), (1, .int l1), (2, .int l2_21), (3, .int l3_22)] dX11_bound0_113 rfl (kC_1 _) (hnl 4 (le_b rfl)) rfl ?_
          refine R_goto (tgt := 7) hc dX11_bound0_116 (by decide) ?_
          refine R_sub hc [1, 2, 3, 4, 0] rfl ?_
          exact hX (l2_21, l3_22, l4_23 + (1 : Int32)) (wpO_some hw :)
theorem dX11_bound_0 : decode cX11_bound 0 = .ok (.aload_n 0, 1) := by decide +kernel
theorem dX11_bound_1 : decode cX11_bound 1 = .ok (.iconst 0, 1) := by decide +kernel
theorem dX11_bound_2 : decode cX11_bound 2 = .ok (.putfield 100, 3) := by decide +kernel
theorem dX11_bound_5 : decode cX11_bound 5 = .ok (.aload_n 0, 1) := by decide +kernel
theorem dX11_bound_6 : decode cX11_bound 6 = .ok (.iload_n 1, 1) := by decide +kernel
theorem dX11_bound_7 : decode cX11_bound 7 = .ok (.invokevirtual 347, 3) := by decide +kernel
theorem dX11_bound_10 : decode cX11_bound 10 = .ok (.ireturn, 1) := by decide +kernel
def sX11_bound (F : Nat) (l0 : Nat) (l1 : Int32) (h : HP) : Option (Int32 × HP) :=
  (pI h 11 (some l0) 0 (0 : Int32)).bind fun h1 =>
  (dO h1 11 (some l0)).bind fun a2 =>
  (sX11_bound0 F a2 l1 h1).bind fun t3 =>
  some (t3, h1)
abbrev rm_X11_bound : Room := { frames := 4, cells := 0, slots := 0, locals := 100 }
set_option maxRecDepth 100000 in
set_option maxHeartbeats 4000000 in
theorem mt_X11_bound {w : WD} {l : Launch} {F : Nat} {l0 : Nat} {l1 : Int32} {h : HP} {v : Int32} {h' : HP} (hs : sX11_bound F l0 l1 h = some (v, h')) : MI w l yX11_bound cX11_bound 2 .int rm_X11_bound 0 0 [rf w (some l0), .int l1] h v h' := by
  refine of_body [(0, rf w (some l0)), (1, .int l1)] (by decide) (by simp [lg_sl, rf_cat, cat_i, cat_l, cat_a]) (by simp [lv_args, rf_cat, cat_i, cat_l, cat_a]) ?_
  intro x hw_ hnL_ hl_ hc hret hnm hQ
  subst hw_; subst hl_
  have hnl : ∀ i, i < 2 → i < x.nL := fun i h => by rw [hnL_]; exact h
  have hw : wpO (sX11_bound F l0 l1 h) (fun r => r = (v, h')) := ⟨_, hs, rfl⟩
  unfold sX11_bound at hw
  refine R_aload_n (q := 0) (i := 0) (v := (some l0)) hc dX11_bound_0 rfl rfl ?_
  refine R_iconst (v := (0 : Int32)) hc dX11_bound_1 kI_0 ?_
  refine R_putI hc pl_11_100 rfl rfl dX11_bound_2 hw (fun h1 hw => ?_)
  refine R_aload_n (q := 0) (i := 0) (v := (some l0)) hc dX11_bound_5 rfl rfl ?_
  refine R_iload_n (q := 1) (i := 1) (v := l1) hc dX11_bound_6 rfl rfl ?_
  refine R_cVI (As := [.int l1]) (rest := []) (r := (some l0)) (ci := 11) hc ml_11_347 mf_X11_bound0 rfl (by decide) ⟨rfl, rfl⟩ ⟨le_b rfl, le_b rfl⟩ ⟨Nat.zero_le _, Nat.zero_le _⟩ (fun a v e => mt_X11_bound0 e) rfl rfl (Nat.zero_le _) dX11_bound_7 hw (fun t3 hw => ?_)
  exact R_ireturn hc hret rfl hQ hw dX11_bound_10
theorem dX11_agrees_0 : decode cX11_agrees 0 = .ok (.aload_n 0, 1) := by decide +kernel
theorem dX11_agrees_1 : decode cX11_agrees 1 = .ok (.iconst 0, 1) := by decide +kernel
theorem dX11_agrees_2 : decode cX11_agrees 2 = .ok (.putfield 100, 3) := by decide +kernel
theorem dX11_agrees_5 : decode cX11_agrees 5 = .ok (.aload_n 0, 1) := by decide +kernel
theorem dX11_agrees_6 : decode cX11_agrees 6 = .ok (.invokevirtual 333, 3) := by decide +kernel
theorem dX11_agrees_9 : decode cX11_agrees 9 = .ok (.aload_n 0, 1) := by decide +kernel
theorem dX11_agrees_10 : decode cX11_agrees 10 = .ok (.getfield 142, 3) := by decide +kernel
theorem dX11_agrees_13 : decode cX11_agrees 13 = .ok (.aload_n 0, 1) := by decide +kernel
theorem dX11_agrees_14 : decode cX11_agrees 14 = .ok (.iconst 1, 1) := by decide +kernel
theorem dX11_agrees_15 : decode cX11_agrees 15 = .ok (.invokevirtual 347, 3) := by decide +kernel
theorem dX11_agrees_18 : decode cX11_agrees 18 = .ok (.aload_n 0, 1) := by decide +kernel
theorem dX11_agrees_19 : decode cX11_agrees 19 = .ok (.iconst 0, 1) := by decide +kernel
theorem dX11_agrees_20 : decode cX11_agrees 20 = .ok (.invokevirtual 347, 3) := by decide +kernel
theorem dX11_agrees_23 : decode cX11_agrees 23 = .ok (.invokestatic 175, 3) := by decide +kernel
theorem dX11_agrees_26 : decode cX11_agrees 26 = .ok (.if_icmp .ne 7, 3) := by decide +kernel
theorem dX11_agrees_29 : decode cX11_agrees 29 = .ok (.iconst 1, 1) := by decide +kernel
theorem dX11_agrees_30 : decode cX11_agrees 30 = .ok (.goto 4, 3) := by decide +kernel
theorem dX11_agrees_33 : decode cX11_agrees 33 = .ok (.iconst 0, 1) := by decide +kernel
theorem dX11_agrees_34 : decode cX11_agrees 34 = .ok (.ireturn, 1) := by decide +kernel
def sX11_agrees (F : Nat) (l0 : Nat) (h : HP) : Option (Int32 × HP) :=
  (pI h 11 (some l0) 0 (0 : Int32)).bind fun h1 =>
  (dO h1 11 (some l0)).bind fun a2 =>
  (sX11_laysBest F a2 h1).bind fun h3 =>
  (gI h3 11 (some l0) 17).bind fun t4 =>
  (dO h3 11 (some l0)).bind fun a5 =>
  (sX11_bound0 F a5 (1 : Int32) h3).bind fun t6 =>
  (dO h3 11 (some l0)).bind fun a7 =>
  (sX11_bound0 F a7 (0 : Int32) h3).bind fun t8 =>
  (sX11_greater F t6 t8 h3).bind fun t9 =>
  if ¬ t4 = t9 then
    some ((0 : Int32), h3)
  else
    some ((1 : Int32), h3)
abbrev rm_X11_agrees : Room := { frames := 7, cells := 0, slots := 0, locals := 174 }
set_option maxRecDepth 100000 in
set_option maxHeartbeats 4000000 in
theorem mt_X11_agrees {w : WD} {l : Launch} {F : Nat} {l0 : Nat} {h : HP} {v : Int32} {h' : HP} (hs : sX11_agrees F l0 h = some (v, h')) : MI w l yX11_agrees cX11_agrees 1 .boolean rm_X11_agrees 0 0 [rf w (some l0)] h v h' := by
  refine of_body [(0, rf w (some l0))] (by decide) (by simp [lg_sl, rf_cat, cat_i, cat_l, cat_a]) (by simp [lv_args, rf_cat, cat_i, cat_l, cat_a]) ?_
  intro x hw_ hnL_ hl_ hc hret hnm hQ
  subst hw_; subst hl_
  have hnl : ∀ i, i < 1 → i < x.nL := fun i h => by rw [hnL_]; exact h
  have hw : wpO (sX11_agrees F l0 h) (fun r => r = (v, h')) := ⟨_, hs, rfl⟩
  unfold sX11_agrees at hw
  refine R_aload_n (q := 0) (i := 0) (v := (some l0)) hc dX11_agrees_0 rfl rfl ?_
  refine R_iconst (v := (0 : Int32)) hc dX11_agrees_1 kI_0 ?_
  refine R_putI hc pl_11_100 rfl rfl dX11_agrees_2 hw (fun h1 hw => ?_)
  refine R_aload_n (q := 0) (i := 0) (v := (some l0)) hc dX11_agrees_5 rfl rfl ?_
  refine R_cVVi (As := []) (rest := []) (r := (some l0)) (ci := 11) hc ml_11_333 mf_X11_laysBest rfl (by decide) ⟨rfl, rfl⟩ ⟨le_b rfl, le_b rfl⟩ ⟨Nat.zero_le _, Nat.zero_le _⟩ (fun a h' e => mt_X11_laysBest e) rfl rfl (Nat.zero_le _) dX11_agrees_6 hw (fun h3 hw => ?_)
  refine R_aload_n (q := 0) (i := 0) (v := (some l0)) hc dX11_agrees_9 rfl rfl ?_
  refine R_getI hc fl_11_142 dX11_agrees_10 hw (fun t4 hw => ?_)
  refine R_aload_n (q := 0) (i := 0) (v := (some l0)) hc dX11_agrees_13 rfl rfl ?_
  refine R_iconst (v := (1 : Int32)) hc dX11_agrees_14 kI_1 ?_
  refine R_cVI (As := [.int (1 : Int32)]) (rest := [.int t4]) (r := (some l0)) (ci := 11) hc ml_11_347 mf_X11_bound0 rfl (by decide) ⟨rfl, rfl⟩ ⟨le_b rfl, le_b rfl⟩ ⟨Nat.zero_le _, Nat.zero_le _⟩ (fun a v e => mt_X11_bound0 e) rfl rfl (le_b rfl) dX11_agrees_15 hw (fun t6 hw => ?_)
  refine R_aload_n (q := 0) (i := 0) (v := (some l0)) hc dX11_agrees_18 rfl rfl ?_
  refine R_iconst (v := (0 : Int32)) hc dX11_agrees_19 kI_0 ?_
  refine R_cVI (As := [.int (0 : Int32)]) (rest := [.int t6, .int t4]) (r := (some l0)) (ci := 11) hc ml_11_347 mf_X11_bound0 rfl (by decide) ⟨rfl, rfl⟩ ⟨le_b rfl, le_b rfl⟩ ⟨Nat.zero_le _, Nat.zero_le _⟩ (fun a v e => mt_X11_bound0 e) rfl rfl (le_b rfl) dX11_agrees_20 hw (fun t8 hw => ?_)
  refine R_cSI (As := [.int t6, .int t8]) (rest := [.int t4]) hc ml_11_175 mf_X11_greater ⟨rfl, rfl⟩ ⟨le_b rfl, le_b rfl⟩ ⟨Nat.zero_le _, Nat.zero_le _⟩ (fun v e => mt_X11_greater e) rfl rfl (le_b rfl) dX11_agrees_23 hw (fun t9 hw => ?_)
  refine R_icmp_ne (tgt := 33) hc dX11_agrees_26 (by decide) hw (fun hw => ?_) (fun hw => ?_)
  · refine R_iconst (v := (0 : Int32)) hc dX11_agrees_33 kI_0 ?_
    exact R_ireturn hc hret rfl hQ hw dX11_agrees_34
  · refine R_iconst (v := (1 : Int32)) hc dX11_agrees_29 kI_1 ?_
    refine R_goto (tgt := 34) hc dX11_agrees_30 (by decide) ?_
    exact R_ireturn hc hret rfl hQ hw dX11_agrees_34
theorem dX11_gapsOf_0 : decode cX11_gapsOf 0 = .ok (.iload_n 1, 1) := by decide +kernel
theorem dX11_gapsOf_1 : decode cX11_gapsOf 1 = .ok (.ifCond .ne 5, 3) := by decide +kernel
theorem dX11_gapsOf_4 : decode cX11_gapsOf 4 = .ok (.iconst 0, 1) := by decide +kernel
theorem dX11_gapsOf_5 : decode cX11_gapsOf 5 = .ok (.ireturn, 1) := by decide +kernel
theorem dX11_gapsOf_6 : decode cX11_gapsOf 6 = .ok (.sipush 1000, 3) := by decide +kernel
theorem dX11_gapsOf_9 : decode cX11_gapsOf 9 = .ok (.istore_n 2, 1) := by decide +kernel
theorem dX11_gapsOf_10 : decode cX11_gapsOf 10 = .ok (.iconst 0, 1) := by decide +kernel
theorem dX11_gapsOf_11 : decode cX11_gapsOf 11 = .ok (.istore_n 3, 1) := by decide +kernel
theorem dX11_gapsOf_12 : decode cX11_gapsOf 12 = .ok (.iload_n 3, 1) := by decide +kernel
theorem dX11_gapsOf_13 : decode cX11_gapsOf 13 = .ok (.aload_n 0, 1) := by decide +kernel
theorem dX11_gapsOf_14 : decode cX11_gapsOf 14 = .ok (.invokevirtual 103, 3) := by decide +kernel
theorem dX11_gapsOf_17 : decode cX11_gapsOf 17 = .ok (.if_icmp .ge 52, 3) := by decide +kernel
theorem dX11_gapsOf_20 : decode cX11_gapsOf 20 = .ok (.iload_n 1, 1) := by decide +kernel
theorem dX11_gapsOf_21 : decode cX11_gapsOf 21 = .ok (.iload_n 3, 1) := by decide +kernel
theorem dX11_gapsOf_22 : decode cX11_gapsOf 22 = .ok (.invokestatic 178, 3) := by decide +kernel
theorem dX11_gapsOf_25 : decode cX11_gapsOf 25 = .ok (.ifCond .ne 6, 3) := by decide +kernel
theorem dX11_gapsOf_28 : decode cX11_gapsOf 28 = .ok (.goto 35, 3) := by decide +kernel
theorem dX11_gapsOf_31 : decode cX11_gapsOf 31 = .ok (.iconst 0, 1) := by decide +kernel
theorem dX11_gapsOf_32 : decode cX11_gapsOf 32 = .ok (.istore 4, 2) := by decide +kernel
theorem dX11_gapsOf_34 : decode cX11_gapsOf 34 = .ok (.iload 4, 2) := by decide +kernel
theorem dX11_gapsOf_36 : decode cX11_gapsOf 36 = .ok (.iconst 4, 1) := by decide +kernel
theorem dX11_gapsOf_37 : decode cX11_gapsOf 37 = .ok (.if_icmp .ge 26, 3) := by decide +kernel
theorem dX11_gapsOf_40 : decode cX11_gapsOf 40 = .ok (.iload_n 2, 1) := by decide +kernel
theorem dX11_gapsOf_41 : decode cX11_gapsOf 41 = .ok (.aload_n 0, 1) := by decide +kernel
theorem dX11_gapsOf_42 : decode cX11_gapsOf 42 = .ok (.getfield 39, 3) := by decide +kernel
theorem dX11_gapsOf_45 : decode cX11_gapsOf 45 = .ok (.iload_n 1, 1) := by decide +kernel
theorem dX11_gapsOf_46 : decode cX11_gapsOf 46 = .ok (.iload_n 3, 1) := by decide +kernel
theorem dX11_gapsOf_47 : decode cX11_gapsOf 47 = .ok (.iload 4, 2) := by decide +kernel
theorem dX11_gapsOf_49 : decode cX11_gapsOf 49 = .ok (.invokestatic 123, 3) := by decide +kernel
theorem dX11_gapsOf_52 : decode cX11_gapsOf 52 = .ok (.iaload, 1) := by decide +kernel
theorem dX11_gapsOf_53 : decode cX11_gapsOf 53 = .ok (.invokestatic 131, 3) := by decide +kernel
theorem dX11_gapsOf_56 : decode cX11_gapsOf 56 = .ok (.istore_n 2, 1) := by decide +kernel
theorem dX11_gapsOf_57 : decode cX11_gapsOf 57 = .ok (.iinc 4 1, 3) := by decide +kernel
theorem dX11_gapsOf_60 : decode cX11_gapsOf 60 = .ok (.goto (-26), 3) := by decide +kernel
theorem dX11_gapsOf_63 : decode cX11_gapsOf 63 = .ok (.iinc 3 1, 3) := by decide +kernel
theorem dX11_gapsOf_66 : decode cX11_gapsOf 66 = .ok (.goto (-54), 3) := by decide +kernel
theorem dX11_gapsOf_69 : decode cX11_gapsOf 69 = .ok (.iload_n 2, 1) := by decide +kernel
theorem dX11_gapsOf_70 : decode cX11_gapsOf 70 = .ok (.ireturn, 1) := by decide +kernel
def sX11_gapsOf_L34 (F : Nat) (l0 : Nat) (l1 : Int32) (l3 : Int32) (l2 : Int32) (l4 : Int32) (h : HP) : Option ((Int32 × Int32) ⊕ Int32) :=
  if (4 : Int32) ≤ l4 then
    some (.inr l2)
  else
    (gR h 11 (some l0) 15).bind fun t4 =>
    (sX11_state F l1 l3 l4 h).bind fun t5 =>
    (aI h 13 t4 t5).bind fun t6 =>
    (sX11_lesser F l2 t6 h).bind fun t7 =>
    some (.inl (t7, l4 + (1 : Int32)))
def sX11_gapsOf_L12 (F : Nat) (l0 : Nat) (l1 : Int32) (l2 : Int32) (l3 : Int32) (h : HP) : Option ((Int32 × Int32) ⊕ Int32) :=
  (dO h 11 (some l0)).bind fun a1 =>
  (sX11_fingers F a1 h).bind fun t2 =>
  if t2 ≤ l3 then
    some (.inr l2)
  else
    (sX11_has F l1 l3 h).bind fun t3 =>
    if ¬ t3 = 0 then
      (iter (fun s => sX11_gapsOf_L34 F l0 l1 l3 s.1 s.2 h) F (l2, (0 : Int32))).bind fun l2_8 =>
        some (.inl (l2_8, l3 + (1 : Int32)))
    else
      some (.inl (l2, l3 + (1 : Int32)))
def sX11_gapsOf (F : Nat) (l0 : Nat) (l1 : Int32) (h : HP) : Option Int32 :=
  if ¬ l1 = 0 then
    (iter (fun s => sX11_gapsOf_L12 F l0 l1 s.1 s.2 h) F ((1000 : Int32), (0 : Int32))).bind fun l2_12 =>
      some l2_12
  else
    some (0 : Int32)
abbrev rm_X11_gapsOf : Room := { frames := 1, cells := 0, slots := 0, locals := 22 }
set_option maxRecDepth 100000 in
set_option maxHeartbeats 4000000 in
theorem mt_X11_gapsOf {w : WD} {l : Launch} {F : Nat} {l0 : Nat} {l1 : Int32} {h : HP} {v : Int32} (hs : sX11_gapsOf F l0 l1 h = some v) : MI w l yX11_gapsOf cX11_gapsOf 5 .int rm_X11_gapsOf 0 0 [rf w (some l0), .int l1] h v h := by
  refine of_body [(0, rf w (some l0)), (1, .int l1)] (by decide) (by simp [lg_sl, rf_cat, cat_i, cat_l, cat_a]) (by simp [lv_args, rf_cat, cat_i, cat_l, cat_a]) ?_
  intro x hw_ hnL_ hl_ hc hret hnm hQ
  subst hw_; subst hl_
  have hnl : ∀ i, i < 5 → i < x.nL := fun i h => by rw [hnL_]; exact h
  have hw : wpO (sX11_gapsOf F l0 l1 h) (fun r => r = v) := ⟨_, hs, rfl⟩
  unfold sX11_gapsOf at hw
  refine R_iload_n (q := 1) (i := 1) (v := l1) hc dX11_gapsOf_0 rfl rfl ?_
  refine R_if_ne (tgt := 6) hc dX11_gapsOf_1 (by decide) hw (fun hw => ?_) (fun hw => ?_)
  · refine R_sipush (v := (1000 : Int32)) hc dX11_gapsOf_6 kS_1000 ?_
    refine R_istore_n (i := 2) (v := (1000 : Int32)) hc [(2, .int (1000 : Int32)), (0, rf x.w (some l0)), (1, .int l1)] dX11_gapsOf_9 rfl (hnl 2 (le_b rfl)) rfl ?_
    refine R_iconst (v := (0 : Int32)) hc dX11_gapsOf_10 kI_0 ?_
    refine R_istore_n (i := 3) (v := (0 : Int32)) hc [(3, .int (0 : Int32)), (2, .int (1000 : Int32)), (0, rf x.w (some l0)), (1, .int l1)] dX11_gapsOf_11 rfl (hnl 3 (le_b rfl)) rfl ?_
    refine R_sub hc [2, 3, 1, 0] rfl ?_
    refine R_loop (P := fun (s : (Int32 × Int32)) => Rn x 0 0 12 [(0, rf x.w (some l0)), (1, .int l1), (2, .int s.1), (3, .int s.2)] [] h) (fun l2_12 => Rn x 0 0 69 [(2, .int l2_12)] [] h) hw (fun r hw => ?_) (fun X hX s hw => ?_)
    · revert r hw
      intro l2_12 hw
      show Rn x 0 0 69 [(2, .int l2_12)] [] h
      refine R_iload_n (q := 0) (i := 2) (v := l2_12) hc dX11_gapsOf_69 rfl rfl ?_
      exact R_ireturnP hc hret rfl hQ hw dX11_gapsOf_70
    · obtain ⟨l2_14, l3_15⟩ := s
      show Rn x 0 0 12 [(0, rf x.w (some l0)), (1, .int l1), (2, .int l2_14), (3, .int l3_15)] [] h
      have hw : wpO (sX11_gapsOf_L12 F l0 l1 l2_14 l3_15 h) _ := hw
      unfold sX11_gapsOf_L12 at hw
      refine R_iload_n (q := 3) (i := 3) (v := l3_15) hc dX11_gapsOf_12 rfl rfl ?_
      refine R_aload_n (q := 0) (i := 0) (v := (some l0)) hc dX11_gapsOf_13 rfl rfl ?_
      refine R_cVI (As := []) (rest := [.int l3_15]) (r := (some l0)) (ci := 11) hc ml_11_103 mf_X11_fingers rfl (by decide) ⟨rfl, rfl⟩ ⟨le_b rfl, le_b rfl⟩ ⟨Nat.zero_le _, Nat.zero_le _⟩ (fun a v e => mt_X11_fingers e) rfl rfl (le_b rfl) dX11_gapsOf_14 hw (fun t2 hw => ?_)
      refine R_icmp_ge (tgt := 69) hc dX11_gapsOf_17 (by decide) hw (fun hw => ?_) (fun hw => ?_)
      · refine R_sub hc [2] rfl ?_
        exact (wpO_some hw :)
      · refine R_iload_n (q := 1) (i := 1) (v := l1) hc dX11_gapsOf_20 rfl rfl ?_
        refine R_iload_n (q := 3) (i := 3) (v := l3_15) hc dX11_gapsOf_21 rfl rfl ?_
        refine R_cSI (As := [.int l1, .int l3_15]) (rest := []) hc ml_11_178 mf_X11_has ⟨rfl, rfl⟩ ⟨le_b rfl, le_b rfl⟩ ⟨Nat.zero_le _, Nat.zero_le _⟩ (fun v e => mt_X11_has e) rfl rfl (Nat.zero_le _) dX11_gapsOf_22 hw (fun t3 hw => ?_)
        refine R_if_ne (tgt := 31) hc dX11_gapsOf_25 (by decide) hw (fun hw => ?_) (fun hw => ?_)
        · refine R_iconst (v := (0 : Int32)) hc dX11_gapsOf_31 kI_0 ?_
          refine R_istore (i := 4) (v := (0 : Int32)) hc [(4, .int (0 : Int32)), (0, rf x.w (some l0)), (1, .int l1), (2, .int l2_14), (3, .int l3_15)] dX11_gapsOf_32 (hnl 4 (le_b rfl)) rfl ?_
          refine R_sub hc [1, 2, 3, 4, 0] rfl ?_
          refine R_loop (P := fun (s : (Int32 × Int32)) => Rn x 0 0 34 [(0, rf x.w (some l0)), (1, .int l1), (2, .int s.1), (3, .int l3_15), (4, .int s.2)] [] h) (fun l2_8 => Rn x 0 0 63 [(0, rf x.w (some l0)), (1, .int l1), (2, .int l2_8), (3, .int l3_15)] [] h) hw (fun r hw => ?_) (fun X hX s hw => ?_)
          · revert r hw
            intro l2_8 hw
            show Rn x 0 0 63 [(0, rf x.w (some l0)), (1, .int l1), (2, .int l2_8), (3, .int l3_15)] [] h
            refine R_iinc (q := 3) (i := 3) (v := l3_15) hc [(3, .int (l3_15 + (1 : Int32))), (0, rf x.w (some l0)), (1, .int l1), (2, .int l2_8)] dX11_gapsOf_63 rfl (kC_1 _) (hnl 3 (le_b rfl)) rfl ?_
            refine R_goto (tgt := 12) hc dX11_gapsOf_66 (by decide) ?_
            refine R_sub hc [1, 2, 3, 0] rfl ?_
            exact hX (l2_8, l3_15 + (1 : Int32)) (wpO_some hw :)
          · obtain ⟨l2_10, l4_11⟩ := s
            show Rn x 0 0 34 [(0, rf x.w (some l0)), (1, .int l1), (2, .int l2_10), (3, .int l3_15), (4, .int l4_11)] [] h
            have hw : wpO (sX11_gapsOf_L34 F l0 l1 l3_15 l2_10 l4_11 h) _ := hw
            unfold sX11_gapsOf_L34 at hw
            refine R_iload (q := 4) (i := 4) (v := l4_11) hc dX11_gapsOf_34 rfl ?_
            refine R_iconst (v := (4 : Int32)) hc dX11_gapsOf_36 kI_4 ?_
            refine R_icmp_ge (tgt := 63) hc dX11_gapsOf_37 (by decide) hw (fun hw => ?_) (fun hw => ?_)
            · refine R_sub hc [0, 1, 2, 3] rfl ?_
              exact (wpO_some hw :)
            · refine R_iload_n (q := 2) (i := 2) (v := l2_10) hc dX11_gapsOf_40 rfl rfl ?_
              refine R_aload_n (q := 0) (i := 0) (v := (some l0)) hc dX11_gapsOf_41 rfl rfl ?_
              refine R_getR hc fl_11_39 dX11_gapsOf_42 hw (fun t4 hw => ?_)
              refine R_iload_n (q := 1) (i := 1) (v := l1) hc dX11_gapsOf_45 rfl rfl ?_
              refine R_iload_n (q := 3) (i := 3) (v := l3_15) hc dX11_gapsOf_46 rfl rfl ?_
              refine R_iload (q := 4) (i := 4) (v := l4_11) hc dX11_gapsOf_47 rfl ?_
              refine R_cSI (As := [.int l1, .int l3_15, .int l4_11]) (rest := [rf x.w t4, .int l2_10]) hc ml_11_123 mf_X11_state ⟨rfl, rfl⟩ ⟨le_b rfl, le_b rfl⟩ ⟨Nat.zero_le _, Nat.zero_le _⟩ (fun v e => mt_X11_state e) rfl rfl (by simp [rf_cat, cat_i, cat_l, cat_a]) dX11_gapsOf_49 hw (fun t5 hw => ?_)
              refine R_iaload hc dX11_gapsOf_52 hw (fun t6 hw => ?_)
              refine R_cSI (As := [.int l2_10, .int t6]) (rest := []) hc ml_11_131 mf_X11_lesser ⟨rfl, rfl⟩ ⟨le_b rfl, le_b rfl⟩ ⟨Nat.zero_le _, Nat.zero_le _⟩ (fun v e => mt_X11_lesser e) rfl rfl (Nat.zero_le _) dX11_gapsOf_53 hw (fun t7 hw => ?_)
              refine R_istore_n (i := 2) (v := t7) hc [(2, .int t7), (0, rf x.w (some l0)), (1, .int l1), (3, .int l3_15), (4, .int l4_11)] dX11_gapsOf_56 rfl (hnl 2 (le_b rfl)) rfl ?_
              refine R_iinc (q := 4) (i := 4) (v := l4_11) hc [(4, .int (l4_11 + (1 : Int32))), (2, .int t7), (0, rf x.w (some l0)), (1, .int l1), (3, .int l3_15)] dX11_gapsOf_57 rfl (kC_1 _) (hnl 4 (le_b rfl)) rfl ?_
              refine R_goto (tgt := 34) hc dX11_gapsOf_60 (by decide) ?_
              refine R_sub hc [2, 3, 1, 4, 0] rfl ?_
              exact hX (t7, l4_11 + (1 : Int32)) (wpO_some hw :)
        · refine R_goto (tgt := 63) hc dX11_gapsOf_28 (by decide) ?_
          refine R_iinc (q := 3) (i := 3) (v := l3_15) hc [(3, .int (l3_15 + (1 : Int32))), (0, rf x.w (some l0)), (1, .int l1), (2, .int l2_14)] dX11_gapsOf_63 rfl (kC_1 _) (hnl 3 (le_b rfl)) rfl ?_
          refine R_goto (tgt := 12) hc dX11_gapsOf_66 (by decide) ?_
          refine R_sub hc [1, 2, 3, 0] rfl ?_
          exact hX (l2_14, l3_15 + (1 : Int32)) (wpO_some hw :)
  · refine R_iconst (v := (0 : Int32)) hc dX11_gapsOf_4 kI_0 ?_
    exact R_ireturnP hc hret rfl hQ hw dX11_gapsOf_5
theorem dX11_everyFinger_0 : decode cX11_everyFinger 0 = .ok (.iconst 1, 1) := by decide +kernel
theorem dX11_everyFinger_1 : decode cX11_everyFinger 1 = .ok (.aload_n 0, 1) := by decide +kernel
theorem dX11_everyFinger_2 : decode cX11_everyFinger 2 = .ok (.invokevirtual 103, 3) := by decide +kernel
theorem dX11_everyFinger_5 : decode cX11_everyFinger 5 = .ok (.ishl, 1) := by decide +kernel
theorem dX11_everyFinger_6 : decode cX11_everyFinger 6 = .ok (.iconst 1, 1) := by decide +kernel
theorem dX11_everyFinger_7 : decode cX11_everyFinger 7 = .ok (.isub, 1) := by decide +kernel
theorem dX11_everyFinger_8 : decode cX11_everyFinger 8 = .ok (.ireturn, 1) := by decide +kernel
def sX11_everyFinger (F : Nat) (l0 : Nat) (h : HP) : Option Int32 :=
  (dO h 11 (some l0)).bind fun a1 =>
  (sX11_fingers F a1 h).bind fun t2 =>
  some ((jshl (1 : Int32) t2) - (1 : Int32))
abbrev rm_X11_everyFinger : Room := { frames := 1, cells := 0, slots := 0, locals := 20 }
set_option maxRecDepth 100000 in
set_option maxHeartbeats 4000000 in
theorem mt_X11_everyFinger {w : WD} {l : Launch} {F : Nat} {l0 : Nat} {h : HP} {v : Int32} (hs : sX11_everyFinger F l0 h = some v) : MI w l yX11_everyFinger cX11_everyFinger 1 .int rm_X11_everyFinger 0 0 [rf w (some l0)] h v h := by
  refine of_body [(0, rf w (some l0))] (by decide) (by simp [lg_sl, rf_cat, cat_i, cat_l, cat_a]) (by simp [lv_args, rf_cat, cat_i, cat_l, cat_a]) ?_
  intro x hw_ hnL_ hl_ hc hret hnm hQ
  subst hw_; subst hl_
  have hnl : ∀ i, i < 1 → i < x.nL := fun i h => by rw [hnL_]; exact h
  have hw : wpO (sX11_everyFinger F l0 h) (fun r => r = v) := ⟨_, hs, rfl⟩
  unfold sX11_everyFinger at hw
  refine R_iconst (v := (1 : Int32)) hc dX11_everyFinger_0 kI_1 ?_
  refine R_aload_n (q := 0) (i := 0) (v := (some l0)) hc dX11_everyFinger_1 rfl rfl ?_
  refine R_cVI (As := []) (rest := [.int (1 : Int32)]) (r := (some l0)) (ci := 11) hc ml_11_103 mf_X11_fingers rfl (by decide) ⟨rfl, rfl⟩ ⟨le_b rfl, le_b rfl⟩ ⟨Nat.zero_le _, Nat.zero_le _⟩ (fun a v e => mt_X11_fingers e) rfl rfl (le_b rfl) dX11_everyFinger_2 hw (fun t2 hw => ?_)
  refine R_ishl hc dX11_everyFinger_5 ?_
  refine R_iconst (v := (1 : Int32)) hc dX11_everyFinger_6 kI_1 ?_
  refine R_isub hc dX11_everyFinger_7 ?_
  exact R_ireturnP hc hret rfl hQ hw dX11_everyFinger_8
theorem dX11_ofSet_0 : decode cX11_ofSet 0 = .ok (.aload_n 0, 1) := by decide +kernel
theorem dX11_ofSet_1 : decode cX11_ofSet 1 = .ok (.iload_n 1, 1) := by decide +kernel
theorem dX11_ofSet_2 : decode cX11_ofSet 2 = .ok (.aload_n 0, 1) := by decide +kernel
theorem dX11_ofSet_3 : decode cX11_ofSet 3 = .ok (.invokevirtual 351, 3) := by decide +kernel
theorem dX11_ofSet_6 : decode cX11_ofSet 6 = .ok (.iconst (-1), 1) := by decide +kernel
theorem dX11_ofSet_7 : decode cX11_ofSet 7 = .ok (.ixor, 1) := by decide +kernel
theorem dX11_ofSet_8 : decode cX11_ofSet 8 = .ok (.iand, 1) := by decide +kernel
theorem dX11_ofSet_9 : decode cX11_ofSet 9 = .ok (.ifCond .ne 7, 3) := by decide +kernel
theorem dX11_ofSet_12 : decode cX11_ofSet 12 = .ok (.iconst 0, 1) := by decide +kernel
theorem dX11_ofSet_13 : decode cX11_ofSet 13 = .ok (.goto 4, 3) := by decide +kernel
theorem dX11_ofSet_16 : decode cX11_ofSet 16 = .ok (.iconst 1, 1) := by decide +kernel
theorem dX11_ofSet_17 : decode cX11_ofSet 17 = .ok (.putfield 100, 3) := by decide +kernel
theorem dX11_ofSet_20 : decode cX11_ofSet 20 = .ok (.aload_n 0, 1) := by decide +kernel
theorem dX11_ofSet_21 : decode cX11_ofSet 21 = .ok (.getfield 100, 3) := by decide +kernel
theorem dX11_ofSet_24 : decode cX11_ofSet 24 = .ok (.ifCond .le 5, 3) := by decide +kernel
theorem dX11_ofSet_27 : decode cX11_ofSet 27 = .ok (.iconst 0, 1) := by decide +kernel
theorem dX11_ofSet_28 : decode cX11_ofSet 28 = .ok (.ireturn, 1) := by decide +kernel
theorem dX11_ofSet_29 : decode cX11_ofSet 29 = .ok (.aload_n 0, 1) := by decide +kernel
theorem dX11_ofSet_30 : decode cX11_ofSet 30 = .ok (.invokevirtual 354, 3) := by decide +kernel
theorem dX11_ofSet_33 : decode cX11_ofSet 33 = .ok (.aload_n 0, 1) := by decide +kernel
theorem dX11_ofSet_34 : decode cX11_ofSet 34 = .ok (.iload_n 1, 1) := by decide +kernel
theorem dX11_ofSet_35 : decode cX11_ofSet 35 = .ok (.invokevirtual 357, 3) := by decide +kernel
theorem dX11_ofSet_38 : decode cX11_ofSet 38 = .ok (.ireturn, 1) := by decide +kernel
def sX11_ofSet (F : Nat) (l0 : Nat) (l1 : Int32) (h : HP) : Option (Int32 × HP) :=
  (dO h 11 (some l0)).bind fun a1 =>
  (sX11_everyFinger F a1 h).bind fun t2 =>
  (if ¬ (l1 &&& (t2 ^^^ (-1 : Int32))) = 0 then
      some (1 : Int32)
    else
      some (0 : Int32)).bind fun s3 =>
  (pI h 11 (some l0) 0 s3).bind fun h4 =>
  (gI h4 11 (some l0) 0).bind fun t5 =>
  if t5 ≤ 0 then
    (dO h4 11 (some l0)).bind fun a6 =>
    (sX11_laysAhead F a6 h4).bind fun h7 =>
    (dO h7 11 (some l0)).bind fun a8 =>
    (sX11_gapsOf F a8 l1 h7).bind fun t9 =>
    some (t9, h7)
  else
    some ((0 : Int32), h4)
abbrev rm_X11_ofSet : Room := { frames := 6, cells := 0, slots := 0, locals := 148 }
set_option maxRecDepth 100000 in
set_option maxHeartbeats 4000000 in
theorem mt_X11_ofSet {w : WD} {l : Launch} {F : Nat} {l0 : Nat} {l1 : Int32} {h : HP} {v : Int32} {h' : HP} (hs : sX11_ofSet F l0 l1 h = some (v, h')) : MI w l yX11_ofSet cX11_ofSet 2 .int rm_X11_ofSet 0 0 [rf w (some l0), .int l1] h v h' := by
  refine of_body [(0, rf w (some l0)), (1, .int l1)] (by decide) (by simp [lg_sl, rf_cat, cat_i, cat_l, cat_a]) (by simp [lv_args, rf_cat, cat_i, cat_l, cat_a]) ?_
  intro x hw_ hnL_ hl_ hc hret hnm hQ
  subst hw_; subst hl_
  have hnl : ∀ i, i < 2 → i < x.nL := fun i h => by rw [hnL_]; exact h
  have hw : wpO (sX11_ofSet F l0 l1 h) (fun r => r = (v, h')) := ⟨_, hs, rfl⟩
  unfold sX11_ofSet at hw
  refine R_aload_n (q := 0) (i := 0) (v := (some l0)) hc dX11_ofSet_0 rfl rfl ?_
  refine R_iload_n (q := 1) (i := 1) (v := l1) hc dX11_ofSet_1 rfl rfl ?_
  refine R_aload_n (q := 0) (i := 0) (v := (some l0)) hc dX11_ofSet_2 rfl rfl ?_
  refine R_cVI (As := []) (rest := [.int l1, rf x.w (some l0)]) (r := (some l0)) (ci := 11) hc ml_11_351 mf_X11_everyFinger rfl (by decide) ⟨rfl, rfl⟩ ⟨le_b rfl, le_b rfl⟩ ⟨Nat.zero_le _, Nat.zero_le _⟩ (fun a v e => mt_X11_everyFinger e) rfl rfl (le_b rfl) dX11_ofSet_3 hw (fun t2 hw => ?_)
  refine R_iconst (v := (-1 : Int32)) hc dX11_ofSet_6 kI_m1 ?_
  refine R_ixor hc dX11_ofSet_7 ?_
  refine R_iand hc dX11_ofSet_8 ?_
  refine R_join (fun (s3 : Int32) => Rn x 0 0 17 [(0, rf x.w (some l0)), (1, .int l1)] [.int s3, rf x.w (some l0)] h) hw (fun r hw => ?_) (fun hw => ?_)
  · revert r hw
    intro s3 hw
    show Rn x 0 0 17 [(0, rf x.w (some l0)), (1, .int l1)] [.int s3, rf x.w (some l0)] h
    refine R_putI hc pl_11_100 rfl rfl dX11_ofSet_17 hw (fun h4 hw => ?_)
    refine R_aload_n (q := 0) (i := 0) (v := (some l0)) hc dX11_ofSet_20 rfl rfl ?_
    refine R_getI hc fl_11_100 dX11_ofSet_21 hw (fun t5 hw => ?_)
    refine R_if_le (tgt := 29) hc dX11_ofSet_24 (by decide) hw (fun hw => ?_) (fun hw => ?_)
    · refine R_aload_n (q := 0) (i := 0) (v := (some l0)) hc dX11_ofSet_29 rfl rfl ?_
      refine R_cVVi (As := []) (rest := []) (r := (some l0)) (ci := 11) hc ml_11_354 mf_X11_laysAhead rfl (by decide) ⟨rfl, rfl⟩ ⟨le_b rfl, le_b rfl⟩ ⟨Nat.zero_le _, Nat.zero_le _⟩ (fun a h' e => mt_X11_laysAhead e) rfl rfl (Nat.zero_le _) dX11_ofSet_30 hw (fun h7 hw => ?_)
      refine R_aload_n (q := 0) (i := 0) (v := (some l0)) hc dX11_ofSet_33 rfl rfl ?_
      refine R_iload_n (q := 1) (i := 1) (v := l1) hc dX11_ofSet_34 rfl rfl ?_
      refine R_cVI (As := [.int l1]) (rest := []) (r := (some l0)) (ci := 11) hc ml_11_357 mf_X11_gapsOf rfl (by decide) ⟨rfl, rfl⟩ ⟨le_b rfl, le_b rfl⟩ ⟨Nat.zero_le _, Nat.zero_le _⟩ (fun a v e => mt_X11_gapsOf e) rfl rfl (Nat.zero_le _) dX11_ofSet_35 hw (fun t9 hw => ?_)
      exact R_ireturn hc hret rfl hQ hw dX11_ofSet_38
    · refine R_iconst (v := (0 : Int32)) hc dX11_ofSet_27 kI_0 ?_
      exact R_ireturn hc hret rfl hQ hw dX11_ofSet_28
  · refine R_if_ne (tgt := 16) hc dX11_ofSet_9 (by decide) hw (fun hw => ?_) (fun hw => ?_)
    · refine R_iconst (v := (1 : Int32)) hc dX11_ofSet_16 kI_1 ?_
      refine R_sub hc [0, 1] rfl ?_
      exact (wpO_some hw :)
    · refine R_iconst (v := (0 : Int32)) hc dX11_ofSet_12 kI_0 ?_
      refine R_goto (tgt := 17) hc dX11_ofSet_13 (by decide) ?_
      refine R_sub hc [0, 1] rfl ?_
      exact (wpO_some hw :)
theorem dX11_parted_0 : decode cX11_parted 0 = .ok (.aload_n 0, 1) := by decide +kernel
theorem dX11_parted_1 : decode cX11_parted 1 = .ok (.iload_n 1, 1) := by decide +kernel
theorem dX11_parted_2 : decode cX11_parted 2 = .ok (.iconst 0, 1) := by decide +kernel
theorem dX11_parted_3 : decode cX11_parted 3 = .ok (.aload_n 0, 1) := by decide +kernel
theorem dX11_parted_4 : decode cX11_parted 4 = .ok (.invokevirtual 103, 3) := by decide +kernel
theorem dX11_parted_7 : decode cX11_parted 7 = .ok (.invokestatic 107, 3) := by decide +kernel
theorem dX11_parted_10 : decode cX11_parted 10 = .ok (.ifCond .eq 7, 3) := by decide +kernel
theorem dX11_parted_13 : decode cX11_parted 13 = .ok (.iconst 0, 1) := by decide +kernel
theorem dX11_parted_14 : decode cX11_parted 14 = .ok (.goto 4, 3) := by decide +kernel
theorem dX11_parted_17 : decode cX11_parted 17 = .ok (.iconst 1, 1) := by decide +kernel
theorem dX11_parted_18 : decode cX11_parted 18 = .ok (.putfield 100, 3) := by decide +kernel
theorem dX11_parted_21 : decode cX11_parted 21 = .ok (.aload_n 0, 1) := by decide +kernel
theorem dX11_parted_22 : decode cX11_parted 22 = .ok (.getfield 100, 3) := by decide +kernel
theorem dX11_parted_25 : decode cX11_parted 25 = .ok (.ifCond .le 5, 3) := by decide +kernel
theorem dX11_parted_28 : decode cX11_parted 28 = .ok (.iconst 0, 1) := by decide +kernel
theorem dX11_parted_29 : decode cX11_parted 29 = .ok (.ireturn, 1) := by decide +kernel
theorem dX11_parted_30 : decode cX11_parted 30 = .ok (.aload_n 0, 1) := by decide +kernel
theorem dX11_parted_31 : decode cX11_parted 31 = .ok (.invokevirtual 354, 3) := by decide +kernel
theorem dX11_parted_34 : decode cX11_parted 34 = .ok (.sipush 1000, 3) := by decide +kernel
theorem dX11_parted_37 : decode cX11_parted 37 = .ok (.istore_n 3, 1) := by decide +kernel
theorem dX11_parted_38 : decode cX11_parted 38 = .ok (.iconst (-1), 1) := by decide +kernel
theorem dX11_parted_39 : decode cX11_parted 39 = .ok (.istore 4, 2) := by decide +kernel
theorem dX11_parted_41 : decode cX11_parted 41 = .ok (.iconst 0, 1) := by decide +kernel
theorem dX11_parted_42 : decode cX11_parted 42 = .ok (.istore 5, 2) := by decide +kernel
theorem dX11_parted_44 : decode cX11_parted 44 = .ok (.iload 5, 2) := by decide +kernel
theorem dX11_parted_46 : decode cX11_parted 46 = .ok (.aload_n 0, 1) := by decide +kernel
theorem dX11_parted_47 : decode cX11_parted 47 = .ok (.invokevirtual 351, 3) := by decide +kernel
theorem dX11_parted_50 : decode cX11_parted 50 = .ok (.if_icmp .gt 59, 3) := by decide +kernel
theorem dX11_parted_53 : decode cX11_parted 53 = .ok (.iload 5, 2) := by decide +kernel
theorem dX11_parted_55 : decode cX11_parted 55 = .ok (.invokestatic 275, 3) := by decide +kernel
theorem dX11_parted_58 : decode cX11_parted 58 = .ok (.iload_n 1, 1) := by decide +kernel
theorem dX11_parted_59 : decode cX11_parted 59 = .ok (.if_icmp .eq 6, 3) := by decide +kernel
theorem dX11_parted_62 : decode cX11_parted 62 = .ok (.goto 41, 3) := by decide +kernel
theorem dX11_parted_65 : decode cX11_parted 65 = .ok (.aload_n 0, 1) := by decide +kernel
theorem dX11_parted_66 : decode cX11_parted 66 = .ok (.iload 5, 2) := by decide +kernel
theorem dX11_parted_68 : decode cX11_parted 68 = .ok (.invokevirtual 357, 3) := by decide +kernel
theorem dX11_parted_71 : decode cX11_parted 71 = .ok (.aload_n 0, 1) := by decide +kernel
theorem dX11_parted_72 : decode cX11_parted 72 = .ok (.aload_n 0, 1) := by decide +kernel
theorem dX11_parted_73 : decode cX11_parted 73 = .ok (.invokevirtual 351, 3) := by decide +kernel
theorem dX11_parted_76 : decode cX11_parted 76 = .ok (.iload 5, 2) := by decide +kernel
theorem dX11_parted_78 : decode cX11_parted 78 = .ok (.iconst (-1), 1) := by decide +kernel
theorem dX11_parted_79 : decode cX11_parted 79 = .ok (.ixor, 1) := by decide +kernel
theorem dX11_parted_80 : decode cX11_parted 80 = .ok (.iand, 1) := by decide +kernel
theorem dX11_parted_81 : decode cX11_parted 81 = .ok (.invokevirtual 357, 3) := by decide +kernel
theorem dX11_parted_84 : decode cX11_parted 84 = .ok (.iadd, 1) := by decide +kernel
theorem dX11_parted_85 : decode cX11_parted 85 = .ok (.istore 6, 2) := by decide +kernel
theorem dX11_parted_87 : decode cX11_parted 87 = .ok (.iload 6, 2) := by decide +kernel
theorem dX11_parted_89 : decode cX11_parted 89 = .ok (.iload_n 3, 1) := by decide +kernel
theorem dX11_parted_90 : decode cX11_parted 90 = .ok (.if_icmp .lt 6, 3) := by decide +kernel
theorem dX11_parted_93 : decode cX11_parted 93 = .ok (.goto 10, 3) := by decide +kernel
theorem dX11_parted_96 : decode cX11_parted 96 = .ok (.iload 6, 2) := by decide +kernel
theorem dX11_parted_98 : decode cX11_parted 98 = .ok (.istore_n 3, 1) := by decide +kernel
theorem dX11_parted_99 : decode cX11_parted 99 = .ok (.iload 5, 2) := by decide +kernel
theorem dX11_parted_101 : decode cX11_parted 101 = .ok (.istore 4, 2) := by decide +kernel
theorem dX11_parted_103 : decode cX11_parted 103 = .ok (.iinc 5 1, 3) := by decide +kernel
theorem dX11_parted_106 : decode cX11_parted 106 = .ok (.goto (-62), 3) := by decide +kernel
theorem dX11_parted_109 : decode cX11_parted 109 = .ok (.iload_n 2, 1) := by decide +kernel
theorem dX11_parted_110 : decode cX11_parted 110 = .ok (.ifCond .eq 8, 3) := by decide +kernel
theorem dX11_parted_113 : decode cX11_parted 113 = .ok (.iload 4, 2) := by decide +kernel
theorem dX11_parted_115 : decode cX11_parted 115 = .ok (.goto 4, 3) := by decide +kernel
theorem dX11_parted_118 : decode cX11_parted 118 = .ok (.iload_n 3, 1) := by decide +kernel
theorem dX11_parted_119 : decode cX11_parted 119 = .ok (.ireturn, 1) := by decide +kernel
def sX11_parted_L44 (F : Nat) (l0 : Nat) (l1 : Int32) (l2 : Int32) (l3 : Int32) (l4 : Int32) (l5 : Int32) (h : HP) : Option ((Int32 × Int32 × Int32) ⊕ (Int32 × Int32)) :=
  (dO h 11 (some l0)).bind fun a9 =>
  (sX11_everyFinger F a9 h).bind fun t10 =>
  if t10 < l5 then
    some (.inr (l3, l4))
  else
    (sX11_members F l5 h).bind fun t11 =>
    if t11 = l1 then
      (dO h 11 (some l0)).bind fun a12 =>
      (sX11_gapsOf F a12 l5 h).bind fun t13 =>
      (dO h 11 (some l0)).bind fun a14 =>
      (sX11_everyFinger F a14 h).bind fun t15 =>
      (dO h 11 (some l0)).bind fun a16 =>
      (sX11_gapsOf F a16 (t15 &&& (l5 ^^^ (-1 : Int32))) h).bind fun t17 =>
      nmI (t13 + t17) fun l6_18 =>
      if l6_18 < l3 then
        some (.inl (l6_18, l5, l5 + (1 : Int32)))
      else
        some (.inl (l3, l4, l5 + (1 : Int32)))
    else
      some (.inl (l3, l4, l5 + (1 : Int32)))
def sX11_parted (F : Nat) (l0 : Nat) (l1 : Int32) (l2 : Int32) (h : HP) : Option (Int32 × HP) :=
  (dO h 11 (some l0)).bind fun a1 =>
  (sX11_fingers F a1 h).bind fun t2 =>
  (sX11_isIn F l1 (0 : Int32) t2 h).bind fun t3 =>
  (if t3 = 0 then
      some (1 : Int32)
    else
      some (0 : Int32)).bind fun s4 =>
  (pI h 11 (some l0) 0 s4).bind fun h5 =>
  (gI h5 11 (some l0) 0).bind fun t6 =>
  if t6 ≤ 0 then
    (dO h5 11 (some l0)).bind fun a7 =>
    (sX11_laysAhead F a7 h5).bind fun h8 =>
    (iter (fun s => sX11_parted_L44 F l0 l1 l2 s.1 s.2.1 s.2.2 h8) F ((1000 : Int32), (-1 : Int32), (0 : Int32))).bind fun r => match r with
    | (l3_19, l4_20) =>
      if l2 = 0 then
        some (l3_19, h8)
      else
        some (l4_20, h8)
  else
    some ((0 : Int32), h5)
abbrev rm_X11_parted : Room := { frames := 6, cells := 0, slots := 0, locals := 148 }
set_option maxRecDepth 100000 in
set_option maxHeartbeats 4000000 in
theorem mt_X11_parted {w : WD} {l : Launch} {F : Nat} {l0 : Nat} {l1 : Int32} {l2 : Int32} {h : HP} {v : Int32} {h' : HP} (hs : sX11_parted F l0 l1 l2 h = some (v, h')) : MI w l yX11_parted cX11_parted 7 .int rm_X11_parted 0 0 [rf w (some l0), .int l1, .int l2] h v h' := by
  refine of_body [(0, rf w (some l0)), (1, .int l1), (2, .int l2)] (by decide) (by simp [lg_sl, rf_cat, cat_i, cat_l, cat_a]) (by simp [lv_args, rf_cat, cat_i, cat_l, cat_a]) ?_
  intro x hw_ hnL_ hl_ hc hret hnm hQ
  subst hw_; subst hl_
  have hnl : ∀ i, i < 7 → i < x.nL := fun i h => by rw [hnL_]; exact h
  have hw : wpO (sX11_parted F l0 l1 l2 h) (fun r => r = (v, h')) := ⟨_, hs, rfl⟩
  unfold sX11_parted at hw
  refine R_aload_n (q := 0) (i := 0) (v := (some l0)) hc dX11_parted_0 rfl rfl ?_
  refine R_iload_n (q := 1) (i := 1) (v := l1) hc dX11_parted_1 rfl rfl ?_
  refine R_iconst (v := (0 : Int32)) hc dX11_parted_2 kI_0 ?_
  refine R_aload_n (q := 0) (i := 0) (v := (some l0)) hc dX11_parted_3 rfl rfl ?_
  refine R_cVI (As := []) (rest := [.int (0 : Int32), .int l1, rf x.w (some l0)]) (r := (some l0)) (ci := 11) hc ml_11_103 mf_X11_fingers rfl (by decide) ⟨rfl, rfl⟩ ⟨le_b rfl, le_b rfl⟩ ⟨Nat.zero_le _, Nat.zero_le _⟩ (fun a v e => mt_X11_fingers e) rfl rfl (le_b rfl) dX11_parted_4 hw (fun t2 hw => ?_)
  refine R_cSI (As := [.int l1, .int (0 : Int32), .int t2]) (rest := [rf x.w (some l0)]) hc ml_11_107 mf_X11_isIn ⟨rfl, rfl⟩ ⟨le_b rfl, le_b rfl⟩ ⟨Nat.zero_le _, Nat.zero_le _⟩ (fun v e => mt_X11_isIn e) rfl rfl (le_b rfl) dX11_parted_7 hw (fun t3 hw => ?_)
  refine R_join (fun (s4 : Int32) => Rn x 0 0 18 [(0, rf x.w (some l0)), (1, .int l1), (2, .int l2)] [.int s4, rf x.w (some l0)] h) hw (fun r hw => ?_) (fun hw => ?_)
  · revert r hw
    intro s4 hw
    show Rn x 0 0 18 [(0, rf x.w (some l0)), (1, .int l1), (2, .int l2)] [.int s4, rf x.w (some l0)] h
    refine R_putI hc pl_11_100 rfl rfl dX11_parted_18 hw (fun h5 hw => ?_)
    refine R_aload_n (q := 0) (i := 0) (v := (some l0)) hc dX11_parted_21 rfl rfl ?_
    refine R_getI hc fl_11_100 dX11_parted_22 hw (fun t6 hw => ?_)
    refine R_if_le (tgt := 30) hc dX11_parted_25 (by decide) hw (fun hw => ?_) (fun hw => ?_)
    · refine R_aload_n (q := 0) (i := 0) (v := (some l0)) hc dX11_parted_30 rfl rfl ?_
      refine R_cVVi (As := []) (rest := []) (r := (some l0)) (ci := 11) hc ml_11_354 mf_X11_laysAhead rfl (by decide) ⟨rfl, rfl⟩ ⟨le_b rfl, le_b rfl⟩ ⟨Nat.zero_le _, Nat.zero_le _⟩ (fun a h' e => mt_X11_laysAhead e) rfl rfl (Nat.zero_le _) dX11_parted_31 hw (fun h8 hw => ?_)
      refine R_sipush (v := (1000 : Int32)) hc dX11_parted_34 kS_1000 ?_
      refine R_istore_n (i := 3) (v := (1000 : Int32)) hc [(3, .int (1000 : Int32)), (0, rf x.w (some l0)), (1, .int l1), (2, .int l2)] dX11_parted_37 rfl (hnl 3 (le_b rfl)) rfl ?_
      refine R_iconst (v := (-1 : Int32)) hc dX11_parted_38 kI_m1 ?_
      refine R_istore (i := 4) (v := (-1 : Int32)) hc [(4, .int (-1 : Int32)), (3, .int (1000 : Int32)), (0, rf x.w (some l0)), (1, .int l1), (2, .int l2)] dX11_parted_39 (hnl 4 (le_b rfl)) rfl ?_
      refine R_iconst (v := (0 : Int32)) hc dX11_parted_41 kI_0 ?_
      refine R_istore (i := 5) (v := (0 : Int32)) hc [(5, .int (0 : Int32)), (4, .int (-1 : Int32)), (3, .int (1000 : Int32)), (0, rf x.w (some l0)), (1, .int l1), (2, .int l2)] dX11_parted_42 (hnl 5 (le_b rfl)) rfl ?_
      refine R_sub hc [3, 4, 5, 2, 1, 0] rfl ?_
      refine R_loop (P := fun (s : (Int32 × Int32 × Int32)) => Rn x 0 0 44 [(0, rf x.w (some l0)), (1, .int l1), (2, .int l2), (3, .int s.1), (4, .int s.2.1), (5, .int s.2.2)] [] h8) (fun r => match r with | (l3_19, l4_20) => Rn x 0 0 109 [(2, .int l2), (3, .int l3_19), (4, .int l4_20)] [] h8) hw (fun r hw => ?_) (fun X hX s hw => ?_)
      · obtain ⟨l3_19, l4_20⟩ := r
        show Rn x 0 0 109 [(2, .int l2), (3, .int l3_19), (4, .int l4_20)] [] h8
        refine R_iload_n (q := 0) (i := 2) (v := l2) hc dX11_parted_109 rfl rfl ?_
        refine R_if_eq (tgt := 118) hc dX11_parted_110 (by decide) hw (fun hw => ?_) (fun hw => ?_)
        · refine R_iload_n (q := 1) (i := 3) (v := l3_19) hc dX11_parted_118 rfl rfl ?_
          exact R_ireturn hc hret rfl hQ hw dX11_parted_119
        · refine R_iload (q := 2) (i := 4) (v := l4_20) hc dX11_parted_113 rfl ?_
          refine R_goto (tgt := 119) hc dX11_parted_115 (by decide) ?_
          exact R_ireturn hc hret rfl hQ hw dX11_parted_119
      · obtain ⟨l3_22, l4_23, l5_24⟩ := s
        show Rn x 0 0 44 [(0, rf x.w (some l0)), (1, .int l1), (2, .int l2), (3, .int l3_22), (4, .int l4_23), (5, .int l5_24)] [] h8
        have hw : wpO (sX11_parted_L44 F l0 l1 l2 l3_22 l4_23 l5_24 h8) _ := hw
        unfold sX11_parted_L44 at hw
        refine R_iload (q := 5) (i := 5) (v := l5_24) hc dX11_parted_44 rfl ?_
        refine R_aload_n (q := 0) (i := 0) (v := (some l0)) hc dX11_parted_46 rfl rfl ?_
        refine R_cVI (As := []) (rest := [.int l5_24]) (r := (some l0)) (ci := 11) hc ml_11_351 mf_X11_everyFinger rfl (by decide) ⟨rfl, rfl⟩ ⟨le_b rfl, le_b rfl⟩ ⟨Nat.zero_le _, Nat.zero_le _⟩ (fun a v e => mt_X11_everyFinger e) rfl rfl (le_b rfl) dX11_parted_47 hw (fun t10 hw => ?_)
        refine R_icmp_gt (tgt := 109) hc dX11_parted_50 (by decide) hw (fun hw => ?_) (fun hw => ?_)
        · refine R_sub hc [2, 3, 4] rfl ?_
          exact (wpO_some hw :)
        · refine R_iload (q := 5) (i := 5) (v := l5_24) hc dX11_parted_53 rfl ?_
          refine R_cSI (As := [.int l5_24]) (rest := []) hc ml_11_275 mf_X11_members ⟨rfl, rfl⟩ ⟨le_b rfl, le_b rfl⟩ ⟨Nat.zero_le _, Nat.zero_le _⟩ (fun v e => mt_X11_members e) rfl rfl (Nat.zero_le _) dX11_parted_55 hw (fun t11 hw => ?_)
          refine R_iload_n (q := 1) (i := 1) (v := l1) hc dX11_parted_58 rfl rfl ?_
          refine R_icmp_eq (tgt := 65) hc dX11_parted_59 (by decide) hw (fun hw => ?_) (fun hw => ?_)
          · refine R_aload_n (q := 0) (i := 0) (v := (some l0)) hc dX11_parted_65 rfl rfl ?_
            refine R_iload (q := 5) (i := 5) (v := l5_24) hc dX11_parted_66 rfl ?_
            refine R_cVI (As := [.int l5_24]) (rest := []) (r := (some l0)) (ci := 11) hc ml_11_357 mf_X11_gapsOf rfl (by decide) ⟨rfl, rfl⟩ ⟨le_b rfl, le_b rfl⟩ ⟨Nat.zero_le _, Nat.zero_le _⟩ (fun a v e => mt_X11_gapsOf e) rfl rfl (Nat.zero_le _) dX11_parted_68 hw (fun t13 hw => ?_)
            refine R_aload_n (q := 0) (i := 0) (v := (some l0)) hc dX11_parted_71 rfl rfl ?_
            refine R_aload_n (q := 0) (i := 0) (v := (some l0)) hc dX11_parted_72 rfl rfl ?_
            refine R_cVI (As := []) (rest := [rf x.w (some l0), .int t13]) (r := (some l0)) (ci := 11) hc ml_11_351 mf_X11_everyFinger rfl (by decide) ⟨rfl, rfl⟩ ⟨le_b rfl, le_b rfl⟩ ⟨Nat.zero_le _, Nat.zero_le _⟩ (fun a v e => mt_X11_everyFinger e) rfl rfl (le_b rfl) dX11_parted_73 hw (fun t15 hw => ?_)
            refine R_iload (q := 5) (i := 5) (v := l5_24) hc dX11_parted_76 rfl ?_
            refine R_iconst (v := (-1 : Int32)) hc dX11_parted_78 kI_m1 ?_
            refine R_ixor hc dX11_parted_79 ?_
            refine R_iand hc dX11_parted_80 ?_
            refine R_cVI (As := [.int (t15 &&& (l5_24 ^^^ (-1 : Int32)))]) (rest := [.int t13]) (r := (some l0)) (ci := 11) hc ml_11_357 mf_X11_gapsOf rfl (by decide) ⟨rfl, rfl⟩ ⟨le_b rfl, le_b rfl⟩ ⟨Nat.zero_le _, Nat.zero_le _⟩ (fun a v e => mt_X11_gapsOf e) rfl rfl (le_b rfl) dX11_parted_81 hw (fun t17 hw => ?_)
            refine R_iadd hc dX11_parted_84 ?_
            refine R_nmI hw (fun l6_18 hw => ?_)
            refine R_istore (i := 6) (v := l6_18) hc [(6, .int l6_18), (0, rf x.w (some l0)), (1, .int l1), (2, .int l2), (3, .int l3_22), (4, .int l4_23), (5, .int l5_24)] dX11_parted_85 (hnl 6 (le_b rfl)) rfl ?_
            refine R_iload (q := 0) (i := 6) (v := l6_18) hc dX11_parted_87 rfl ?_
            refine R_iload_n (q := 4) (i := 3) (v := l3_22) hc dX11_parted_89 rfl rfl ?_
            refine R_icmp_lt (tgt := 96) hc dX11_parted_90 (by decide) hw (fun hw => ?_) (fun hw => ?_)
            · refine R_iload (q := 0) (i := 6) (v := l6_18) hc dX11_parted_96 rfl ?_
              refine R_istore_n (i := 3) (v := l6_18) hc [(3, .int l6_18), (6, .int l6_18), (0, rf x.w (some l0)), (1, .int l1), (2, .int l2), (4, .int l4_23), (5, .int l5_24)] dX11_parted_98 rfl (hnl 3 (le_b rfl)) rfl ?_
              refine R_iload (q := 6) (i := 5) (v := l5_24) hc dX11_parted_99 rfl ?_
              refine R_istore (i := 4) (v := l5_24) hc [(4, .int l5_24), (3, .int l6_18), (6, .int l6_18), (0, rf x.w (some l0)), (1, .int l1), (2, .int l2), (5, .int l5_24)] dX11_parted_101 (hnl 4 (le_b rfl)) rfl ?_
              refine R_iinc (q := 6) (i := 5) (v := l5_24) hc [(5, .int (l5_24 + (1 : Int32))), (4, .int l5_24), (3, .int l6_18), (6, .int l6_18), (0, rf x.w (some l0)), (1, .int l1), (2, .int l2)] dX11_parted_103 rfl (kC_1 _) (hnl 5 (le_b rfl)) rfl ?_
              refine R_goto (tgt := 44) hc dX11_parted_106 (by decide) ?_
              refine R_sub hc [4, 5, 6, 2, 1, 0] rfl ?_
              exact hX (l6_18, l5_24, l5_24 + (1 : Int32)) (wpO_some hw :)
            · refine R_goto (tgt := 103) hc dX11_parted_93 (by decide) ?_
              refine R_iinc (q := 6) (i := 5) (v := l5_24) hc [(5, .int (l5_24 + (1 : Int32))), (6, .int l6_18), (0, rf x.w (some l0)), (1, .int l1), (2, .int l2), (3, .int l3_22), (4, .int l4_23)] dX11_parted_103 rfl (kC_1 _) (hnl 5 (le_b rfl)) rfl ?_
              refine R_goto (tgt := 44) hc dX11_parted_106 (by decide) ?_
              refine R_sub hc [2, 3, 4, 5, 6, 0] rfl ?_
              exact hX (l3_22, l4_23, l5_24 + (1 : Int32)) (wpO_some hw :)
          · refine R_goto (tgt := 103) hc dX11_parted_62 (by decide) ?_
            refine R_iinc (q := 5) (i := 5) (v := l5_24) hc [(5, .int (l5_24 + (1 : Int32))), (0, rf x.w (some l0)), (1, .int l1), (2, .int l2), (3, .int l3_22), (4, .int l4_23)] dX11_parted_103 rfl (kC_1 _) (hnl 5 (le_b rfl)) rfl ?_
            refine R_goto (tgt := 44) hc dX11_parted_106 (by decide) ?_
            refine R_sub hc [1, 2, 3, 4, 5, 0] rfl ?_
            exact hX (l3_22, l4_23, l5_24 + (1 : Int32)) (wpO_some hw :)
    · refine R_iconst (v := (0 : Int32)) hc dX11_parted_28 kI_0 ?_
      exact R_ireturn hc hret rfl hQ hw dX11_parted_29
  · refine R_if_eq (tgt := 17) hc dX11_parted_10 (by decide) hw (fun hw => ?_) (fun hw => ?_)
    · refine R_iconst (v := (1 : Int32)) hc dX11_parted_17 kI_1 ?_
      refine R_sub hc [0, 1, 2] rfl ?_
      exact (wpO_some hw :)
    · refine R_iconst (v := (0 : Int32)) hc dX11_parted_13 kI_0 ?_
      refine R_goto (tgt := 18) hc dX11_parted_14 (by decide) ?_
      refine R_sub hc [0, 1, 2] rfl ?_
      exact (wpO_some hw :)
theorem dX11_dearest_0 : decode cX11_dearest 0 = .ok (.aload_n 0, 1) := by decide +kernel
theorem dX11_dearest_1 : decode cX11_dearest 1 = .ok (.iconst 0, 1) := by decide +kernel
theorem dX11_dearest_2 : decode cX11_dearest 2 = .ok (.putfield 100, 3) := by decide +kernel
theorem dX11_dearest_5 : decode cX11_dearest 5 = .ok (.aload_n 0, 1) := by decide +kernel
theorem dX11_dearest_6 : decode cX11_dearest 6 = .ok (.invokevirtual 354, 3) := by decide +kernel
theorem dX11_dearest_9 : decode cX11_dearest 9 = .ok (.sipush 1000, 3) := by decide +kernel
theorem dX11_dearest_12 : decode cX11_dearest 12 = .ok (.istore_n 1, 1) := by decide +kernel
theorem dX11_dearest_13 : decode cX11_dearest 13 = .ok (.iconst (-1), 1) := by decide +kernel
theorem dX11_dearest_14 : decode cX11_dearest 14 = .ok (.istore_n 2, 1) := by decide +kernel
theorem dX11_dearest_15 : decode cX11_dearest 15 = .ok (.iconst 0, 1) := by decide +kernel
theorem dX11_dearest_16 : decode cX11_dearest 16 = .ok (.istore_n 3, 1) := by decide +kernel
theorem dX11_dearest_17 : decode cX11_dearest 17 = .ok (.iload_n 3, 1) := by decide +kernel
theorem dX11_dearest_18 : decode cX11_dearest 18 = .ok (.aload_n 0, 1) := by decide +kernel
theorem dX11_dearest_19 : decode cX11_dearest 19 = .ok (.invokevirtual 103, 3) := by decide +kernel
theorem dX11_dearest_22 : decode cX11_dearest 22 = .ok (.if_icmp .ge 39, 3) := by decide +kernel
theorem dX11_dearest_25 : decode cX11_dearest 25 = .ok (.aload_n 0, 1) := by decide +kernel
theorem dX11_dearest_26 : decode cX11_dearest 26 = .ok (.aload_n 0, 1) := by decide +kernel
theorem dX11_dearest_27 : decode cX11_dearest 27 = .ok (.invokevirtual 351, 3) := by decide +kernel
theorem dX11_dearest_30 : decode cX11_dearest 30 = .ok (.iconst 1, 1) := by decide +kernel
theorem dX11_dearest_31 : decode cX11_dearest 31 = .ok (.iload_n 3, 1) := by decide +kernel
theorem dX11_dearest_32 : decode cX11_dearest 32 = .ok (.ishl, 1) := by decide +kernel
theorem dX11_dearest_33 : decode cX11_dearest 33 = .ok (.iconst (-1), 1) := by decide +kernel
theorem dX11_dearest_34 : decode cX11_dearest 34 = .ok (.ixor, 1) := by decide +kernel
theorem dX11_dearest_35 : decode cX11_dearest 35 = .ok (.iand, 1) := by decide +kernel
theorem dX11_dearest_36 : decode cX11_dearest 36 = .ok (.invokevirtual 357, 3) := by decide +kernel
theorem dX11_dearest_39 : decode cX11_dearest 39 = .ok (.istore 4, 2) := by decide +kernel
theorem dX11_dearest_41 : decode cX11_dearest 41 = .ok (.iload 4, 2) := by decide +kernel
theorem dX11_dearest_43 : decode cX11_dearest 43 = .ok (.iload_n 1, 1) := by decide +kernel
theorem dX11_dearest_44 : decode cX11_dearest 44 = .ok (.if_icmp .lt 6, 3) := by decide +kernel
theorem dX11_dearest_47 : decode cX11_dearest 47 = .ok (.goto 8, 3) := by decide +kernel
theorem dX11_dearest_50 : decode cX11_dearest 50 = .ok (.iload 4, 2) := by decide +kernel
theorem dX11_dearest_52 : decode cX11_dearest 52 = .ok (.istore_n 1, 1) := by decide +kernel
theorem dX11_dearest_53 : decode cX11_dearest 53 = .ok (.iload_n 3, 1) := by decide +kernel
theorem dX11_dearest_54 : decode cX11_dearest 54 = .ok (.istore_n 2, 1) := by decide +kernel
theorem dX11_dearest_55 : decode cX11_dearest 55 = .ok (.iinc 3 1, 3) := by decide +kernel
theorem dX11_dearest_58 : decode cX11_dearest 58 = .ok (.goto (-41), 3) := by decide +kernel
theorem dX11_dearest_61 : decode cX11_dearest 61 = .ok (.iload_n 2, 1) := by decide +kernel
theorem dX11_dearest_62 : decode cX11_dearest 62 = .ok (.ireturn, 1) := by decide +kernel
def sX11_dearest_L17 (F : Nat) (l0 : Nat) (l1 : Int32) (l2 : Int32) (l3 : Int32) (h : HP) : Option ((Int32 × Int32 × Int32) ⊕ Int32) :=
  (dO h 11 (some l0)).bind fun a4 =>
  (sX11_fingers F a4 h).bind fun t5 =>
  if t5 ≤ l3 then
    some (.inr l2)
  else
    (dO h 11 (some l0)).bind fun a6 =>
    (sX11_everyFinger F a6 h).bind fun t7 =>
    (dO h 11 (some l0)).bind fun a8 =>
    (sX11_gapsOf F a8 (t7 &&& ((jshl (1 : Int32) l3) ^^^ (-1 : Int32))) h).bind fun t9 =>
    if t9 < l1 then
      some (.inl (t9, l3, l3 + (1 : Int32)))
    else
      some (.inl (l1, l2, l3 + (1 : Int32)))
def sX11_dearest (F : Nat) (l0 : Nat) (h : HP) : Option (Int32 × HP) :=
  (pI h 11 (some l0) 0 (0 : Int32)).bind fun h1 =>
  (dO h1 11 (some l0)).bind fun a2 =>
  (sX11_laysAhead F a2 h1).bind fun h3 =>
  (iter (fun s => sX11_dearest_L17 F l0 s.1 s.2.1 s.2.2 h3) F ((1000 : Int32), (-1 : Int32), (0 : Int32))).bind fun l2_10 =>
    some (l2_10, h3)
abbrev rm_X11_dearest : Room := { frames := 6, cells := 0, slots := 0, locals := 148 }
set_option maxRecDepth 100000 in
set_option maxHeartbeats 4000000 in
theorem mt_X11_dearest {w : WD} {l : Launch} {F : Nat} {l0 : Nat} {h : HP} {v : Int32} {h' : HP} (hs : sX11_dearest F l0 h = some (v, h')) : MI w l yX11_dearest cX11_dearest 5 .int rm_X11_dearest 0 0 [rf w (some l0)] h v h' := by
  refine of_body [(0, rf w (some l0))] (by decide) (by simp [lg_sl, rf_cat, cat_i, cat_l, cat_a]) (by simp [lv_args, rf_cat, cat_i, cat_l, cat_a]) ?_
  intro x hw_ hnL_ hl_ hc hret hnm hQ
  subst hw_; subst hl_
  have hnl : ∀ i, i < 5 → i < x.nL := fun i h => by rw [hnL_]; exact h
  have hw : wpO (sX11_dearest F l0 h) (fun r => r = (v, h')) := ⟨_, hs, rfl⟩
  unfold sX11_dearest at hw
  refine R_aload_n (q := 0) (i := 0) (v := (some l0)) hc dX11_dearest_0 rfl rfl ?_
  refine R_iconst (v := (0 : Int32)) hc dX11_dearest_1 kI_0 ?_
  refine R_putI hc pl_11_100 rfl rfl dX11_dearest_2 hw (fun h1 hw => ?_)
  refine R_aload_n (q := 0) (i := 0) (v := (some l0)) hc dX11_dearest_5 rfl rfl ?_
  refine R_cVVi (As := []) (rest := []) (r := (some l0)) (ci := 11) hc ml_11_354 mf_X11_laysAhead rfl (by decide) ⟨rfl, rfl⟩ ⟨le_b rfl, le_b rfl⟩ ⟨Nat.zero_le _, Nat.zero_le _⟩ (fun a h' e => mt_X11_laysAhead e) rfl rfl (Nat.zero_le _) dX11_dearest_6 hw (fun h3 hw => ?_)
  refine R_sipush (v := (1000 : Int32)) hc dX11_dearest_9 kS_1000 ?_
  refine R_istore_n (i := 1) (v := (1000 : Int32)) hc [(1, .int (1000 : Int32)), (0, rf x.w (some l0))] dX11_dearest_12 rfl (hnl 1 (le_b rfl)) rfl ?_
  refine R_iconst (v := (-1 : Int32)) hc dX11_dearest_13 kI_m1 ?_
  refine R_istore_n (i := 2) (v := (-1 : Int32)) hc [(2, .int (-1 : Int32)), (1, .int (1000 : Int32)), (0, rf x.w (some l0))] dX11_dearest_14 rfl (hnl 2 (le_b rfl)) rfl ?_
  refine R_iconst (v := (0 : Int32)) hc dX11_dearest_15 kI_0 ?_
  refine R_istore_n (i := 3) (v := (0 : Int32)) hc [(3, .int (0 : Int32)), (2, .int (-1 : Int32)), (1, .int (1000 : Int32)), (0, rf x.w (some l0))] dX11_dearest_16 rfl (hnl 3 (le_b rfl)) rfl ?_
  refine R_sub hc [3, 2, 1, 0] rfl ?_
  refine R_loop (P := fun (s : (Int32 × Int32 × Int32)) => Rn x 0 0 17 [(0, rf x.w (some l0)), (1, .int s.1), (2, .int s.2.1), (3, .int s.2.2)] [] h3) (fun l2_10 => Rn x 0 0 61 [(2, .int l2_10)] [] h3) hw (fun r hw => ?_) (fun X hX s hw => ?_)
  · revert r hw
    intro l2_10 hw
    show Rn x 0 0 61 [(2, .int l2_10)] [] h3
    refine R_iload_n (q := 0) (i := 2) (v := l2_10) hc dX11_dearest_61 rfl rfl ?_
    exact R_ireturn hc hret rfl hQ hw dX11_dearest_62
  · obtain ⟨l1_12, l2_13, l3_14⟩ := s
    show Rn x 0 0 17 [(0, rf x.w (some l0)), (1, .int l1_12), (2, .int l2_13), (3, .int l3_14)] [] h3
    have hw : wpO (sX11_dearest_L17 F l0 l1_12 l2_13 l3_14 h3) _ := hw
    unfold sX11_dearest_L17 at hw
    refine R_iload_n (q := 3) (i := 3) (v := l3_14) hc dX11_dearest_17 rfl rfl ?_
    refine R_aload_n (q := 0) (i := 0) (v := (some l0)) hc dX11_dearest_18 rfl rfl ?_
    refine R_cVI (As := []) (rest := [.int l3_14]) (r := (some l0)) (ci := 11) hc ml_11_103 mf_X11_fingers rfl (by decide) ⟨rfl, rfl⟩ ⟨le_b rfl, le_b rfl⟩ ⟨Nat.zero_le _, Nat.zero_le _⟩ (fun a v e => mt_X11_fingers e) rfl rfl (le_b rfl) dX11_dearest_19 hw (fun t5 hw => ?_)
    refine R_icmp_ge (tgt := 61) hc dX11_dearest_22 (by decide) hw (fun hw => ?_) (fun hw => ?_)
    · refine R_sub hc [2] rfl ?_
      exact (wpO_some hw :)
    · refine R_aload_n (q := 0) (i := 0) (v := (some l0)) hc dX11_dearest_25 rfl rfl ?_
      refine R_aload_n (q := 0) (i := 0) (v := (some l0)) hc dX11_dearest_26 rfl rfl ?_
      refine R_cVI (As := []) (rest := [rf x.w (some l0)]) (r := (some l0)) (ci := 11) hc ml_11_351 mf_X11_everyFinger rfl (by decide) ⟨rfl, rfl⟩ ⟨le_b rfl, le_b rfl⟩ ⟨Nat.zero_le _, Nat.zero_le _⟩ (fun a v e => mt_X11_everyFinger e) rfl rfl (le_b rfl) dX11_dearest_27 hw (fun t7 hw => ?_)
      refine R_iconst (v := (1 : Int32)) hc dX11_dearest_30 kI_1 ?_
      refine R_iload_n (q := 3) (i := 3) (v := l3_14) hc dX11_dearest_31 rfl rfl ?_
      refine R_ishl hc dX11_dearest_32 ?_
      refine R_iconst (v := (-1 : Int32)) hc dX11_dearest_33 kI_m1 ?_
      refine R_ixor hc dX11_dearest_34 ?_
      refine R_iand hc dX11_dearest_35 ?_
      refine R_cVI (As := [.int (t7 &&& ((jshl (1 : Int32) l3_14) ^^^ (-1 : Int32)))]) (rest := []) (r := (some l0)) (ci := 11) hc ml_11_357 mf_X11_gapsOf rfl (by decide) ⟨rfl, rfl⟩ ⟨le_b rfl, le_b rfl⟩ ⟨Nat.zero_le _, Nat.zero_le _⟩ (fun a v e => mt_X11_gapsOf e) rfl rfl (Nat.zero_le _) dX11_dearest_36 hw (fun t9 hw => ?_)
      refine R_istore (i := 4) (v := t9) hc [(4, .int t9), (0, rf x.w (some l0)), (1, .int l1_12), (2, .int l2_13), (3, .int l3_14)] dX11_dearest_39 (hnl 4 (le_b rfl)) rfl ?_
      refine R_iload (q := 0) (i := 4) (v := t9) hc dX11_dearest_41 rfl ?_
      refine R_iload_n (q := 2) (i := 1) (v := l1_12) hc dX11_dearest_43 rfl rfl ?_
      refine R_icmp_lt (tgt := 50) hc dX11_dearest_44 (by decide) hw (fun hw => ?_) (fun hw => ?_)
      · refine R_iload (q := 0) (i := 4) (v := t9) hc dX11_dearest_50 rfl ?_
        refine R_istore_n (i := 1) (v := t9) hc [(1, .int t9), (4, .int t9), (0, rf x.w (some l0)), (2, .int l2_13), (3, .int l3_14)] dX11_dearest_52 rfl (hnl 1 (le_b rfl)) rfl ?_
        refine R_iload_n (q := 4) (i := 3) (v := l3_14) hc dX11_dearest_53 rfl rfl ?_
        refine R_istore_n (i := 2) (v := l3_14) hc [(2, .int l3_14), (1, .int t9), (4, .int t9), (0, rf x.w (some l0)), (3, .int l3_14)] dX11_dearest_54 rfl (hnl 2 (le_b rfl)) rfl ?_
        refine R_iinc (q := 4) (i := 3) (v := l3_14) hc [(3, .int (l3_14 + (1 : Int32))), (2, .int l3_14), (1, .int t9), (4, .int t9), (0, rf x.w (some l0))] dX11_dearest_55 rfl (kC_1 _) (hnl 3 (le_b rfl)) rfl ?_
        refine R_goto (tgt := 17) hc dX11_dearest_58 (by decide) ?_
        refine R_sub hc [4, 2, 1, 0] rfl ?_
        exact hX (t9, l3_14, l3_14 + (1 : Int32)) (wpO_some hw :)
      · refine R_goto (tgt := 55) hc dX11_dearest_47 (by decide) ?_
        refine R_iinc (q := 4) (i := 3) (v := l3_14) hc [(3, .int (l3_14 + (1 : Int32))), (4, .int t9), (0, rf x.w (some l0)), (1, .int l1_12), (2, .int l2_13)] dX11_dearest_55 rfl (kC_1 _) (hnl 3 (le_b rfl)) rfl ?_
        refine R_goto (tgt := 17) hc dX11_dearest_58 (by decide) ?_
        refine R_sub hc [2, 3, 4, 0] rfl ?_
        exact hX (l1_12, l2_13, l3_14 + (1 : Int32)) (wpO_some hw :)
theorem dX11_canJoin_0 : decode cX11_canJoin 0 = .ok (.iconst 0, 1) := by decide +kernel
theorem dX11_canJoin_1 : decode cX11_canJoin 1 = .ok (.istore_n 3, 1) := by decide +kernel
theorem dX11_canJoin_2 : decode cX11_canJoin 2 = .ok (.iload_n 3, 1) := by decide +kernel
theorem dX11_canJoin_3 : decode cX11_canJoin 3 = .ok (.bipush 16, 2) := by decide +kernel
theorem dX11_canJoin_5 : decode cX11_canJoin 5 = .ok (.if_icmp .ge 26, 3) := by decide +kernel
theorem dX11_canJoin_8 : decode cX11_canJoin 8 = .ok (.aload_n 0, 1) := by decide +kernel
theorem dX11_canJoin_9 : decode cX11_canJoin 9 = .ok (.iload_n 1, 1) := by decide +kernel
theorem dX11_canJoin_10 : decode cX11_canJoin 10 = .ok (.iload_n 3, 1) := by decide +kernel
theorem dX11_canJoin_11 : decode cX11_canJoin 11 = .ok (.iconst 4, 1) := by decide +kernel
theorem dX11_canJoin_12 : decode cX11_canJoin 12 = .ok (.idiv, 1) := by decide +kernel
theorem dX11_canJoin_13 : decode cX11_canJoin 13 = .ok (.iload_n 2, 1) := by decide +kernel
theorem dX11_canJoin_14 : decode cX11_canJoin 14 = .ok (.iload_n 3, 1) := by decide +kernel
theorem dX11_canJoin_15 : decode cX11_canJoin 15 = .ok (.iconst 4, 1) := by decide +kernel
theorem dX11_canJoin_16 : decode cX11_canJoin 16 = .ok (.irem, 1) := by decide +kernel
theorem dX11_canJoin_17 : decode cX11_canJoin 17 = .ok (.invokevirtual 127, 3) := by decide +kernel
theorem dX11_canJoin_20 : decode cX11_canJoin 20 = .ok (.ifCond .ne 5, 3) := by decide +kernel
theorem dX11_canJoin_23 : decode cX11_canJoin 23 = .ok (.iconst 1, 1) := by decide +kernel
theorem dX11_canJoin_24 : decode cX11_canJoin 24 = .ok (.ireturn, 1) := by decide +kernel
theorem dX11_canJoin_25 : decode cX11_canJoin 25 = .ok (.iinc 3 1, 3) := by decide +kernel
theorem dX11_canJoin_28 : decode cX11_canJoin 28 = .ok (.goto (-26), 3) := by decide +kernel
theorem dX11_canJoin_31 : decode cX11_canJoin 31 = .ok (.iconst 0, 1) := by decide +kernel
theorem dX11_canJoin_32 : decode cX11_canJoin 32 = .ok (.ireturn, 1) := by decide +kernel
def sX11_canJoin_L2 (F : Nat) (l0 : Nat) (l1 : Int32) (l2 : Int32) (l3 : Int32) (h : HP) : Option (Int32 ⊕ (Unit ⊕ Int32)) :=
  if (16 : Int32) ≤ l3 then
    some (.inr (.inl ()))
  else
    (dO h 11 (some l0)).bind fun a1 =>
    (sX11_lacks F a1 l1 (l3 / (4 : Int32)) l2 (jrem l3 (4 : Int32)) h).bind fun t2 =>
    if ¬ t2 = 0 then
      some (.inl (l3 + (1 : Int32)))
    else
      some (.inr (.inr (1 : Int32)))
def sX11_canJoin (F : Nat) (l0 : Nat) (l1 : Int32) (l2 : Int32) (h : HP) : Option Int32 :=
  (iter (fun s => sX11_canJoin_L2 F l0 l1 l2 s h) F (0 : Int32)).bind fun r => match r with
  | .inl _ =>
    some (0 : Int32)
  | .inr u3 => some u3
abbrev rm_X11_canJoin : Room := { frames := 4, cells := 0, slots := 0, locals := 96 }
set_option maxRecDepth 100000 in
set_option maxHeartbeats 4000000 in
theorem mt_X11_canJoin {w : WD} {l : Launch} {F : Nat} {l0 : Nat} {l1 : Int32} {l2 : Int32} {h : HP} {v : Int32} (hs : sX11_canJoin F l0 l1 l2 h = some v) : MI w l yX11_canJoin cX11_canJoin 4 .boolean rm_X11_canJoin 0 0 [rf w (some l0), .int l1, .int l2] h v h := by
  refine of_body [(0, rf w (some l0)), (1, .int l1), (2, .int l2)] (by decide) (by simp [lg_sl, rf_cat, cat_i, cat_l, cat_a]) (by simp [lv_args, rf_cat, cat_i, cat_l, cat_a]) ?_
  intro x hw_ hnL_ hl_ hc hret hnm hQ
  subst hw_; subst hl_
  have hnl : ∀ i, i < 4 → i < x.nL := fun i h => by rw [hnL_]; exact h
  have hw : wpO (sX11_canJoin F l0 l1 l2 h) (fun r => r = v) := ⟨_, hs, rfl⟩
  unfold sX11_canJoin at hw
  refine R_iconst (v := (0 : Int32)) hc dX11_canJoin_0 kI_0 ?_
  refine R_istore_n (i := 3) (v := (0 : Int32)) hc [(3, .int (0 : Int32)), (0, rf x.w (some l0)), (1, .int l1), (2, .int l2)] dX11_canJoin_1 rfl (hnl 3 (le_b rfl)) rfl ?_
  refine R_sub hc [1, 2, 3, 0] rfl ?_
  refine R_loop (P := fun (s : Int32) => Rn x 0 0 2 [(0, rf x.w (some l0)), (1, .int l1), (2, .int l2), (3, .int s)] [] h) (fun r => match r with | .inl _ => Rn x 0 0 31 [] [] h | .inr u => u = v) hw (fun r hw => ?_) (fun X hX s hw => ?_)
  · cases r with
    | inl r =>
      revert hw
      intro hw
      show Rn x 0 0 31 [] [] h
      have hw : wpO (_) _ := hw
      refine R_iconst (v := (0 : Int32)) hc dX11_canJoin_31 kI_0 ?_
      exact R_ireturnP hc hret rfl hQ hw dX11_canJoin_32
    | inr u => exact (wpO_some hw :)
  · revert s hw
    intro l3_4 hw
    show Rn x 0 0 2 [(0, rf x.w (some l0)), (1, .int l1), (2, .int l2), (3, .int l3_4)] [] h
    have hw : wpO (sX11_canJoin_L2 F l0 l1 l2 l3_4 h) _ := hw
    unfold sX11_canJoin_L2 at hw
    refine R_iload_n (q := 3) (i := 3) (v := l3_4) hc dX11_canJoin_2 rfl rfl ?_
    refine R_bipush (v := (16 : Int32)) hc dX11_canJoin_3 kB_16 ?_
    refine R_icmp_ge (tgt := 31) hc dX11_canJoin_5 (by decide) hw (fun hw => ?_) (fun hw => ?_)
    · refine R_sub hc [] rfl ?_
      exact (wpO_some hw :)
    · refine R_aload_n (q := 0) (i := 0) (v := (some l0)) hc dX11_canJoin_8 rfl rfl ?_
      refine R_iload_n (q := 1) (i := 1) (v := l1) hc dX11_canJoin_9 rfl rfl ?_
      refine R_iload_n (q := 3) (i := 3) (v := l3_4) hc dX11_canJoin_10 rfl rfl ?_
      refine R_iconst (v := (4 : Int32)) hc dX11_canJoin_11 kI_4 ?_
      refine R_idivL hc dX11_canJoin_12 (by decide) ?_
      refine R_iload_n (q := 2) (i := 2) (v := l2) hc dX11_canJoin_13 rfl rfl ?_
      refine R_iload_n (q := 3) (i := 3) (v := l3_4) hc dX11_canJoin_14 rfl rfl ?_
      refine R_iconst (v := (4 : Int32)) hc dX11_canJoin_15 kI_4 ?_
      refine R_iremL hc dX11_canJoin_16 (by decide) ?_
      refine R_cVI (As := [.int l1, .int (l3_4 / (4 : Int32)), .int l2, .int (jrem l3_4 (4 : Int32))]) (rest := []) (r := (some l0)) (ci := 11) hc ml_11_127 mf_X11_lacks rfl (by decide) ⟨rfl, rfl⟩ ⟨le_b rfl, le_b rfl⟩ ⟨Nat.zero_le _, Nat.zero_le _⟩ (fun a v e => mt_X11_lacks e) rfl rfl (Nat.zero_le _) dX11_canJoin_17 hw (fun t2 hw => ?_)
      refine R_if_ne (tgt := 25) hc dX11_canJoin_20 (by decide) hw (fun hw => ?_) (fun hw => ?_)
      · refine R_iinc (q := 3) (i := 3) (v := l3_4) hc [(3, .int (l3_4 + (1 : Int32))), (0, rf x.w (some l0)), (1, .int l1), (2, .int l2)] dX11_canJoin_25 rfl (kC_1 _) (hnl 3 (le_b rfl)) rfl ?_
        refine R_goto (tgt := 2) hc dX11_canJoin_28 (by decide) ?_
        refine R_sub hc [1, 2, 3, 0] rfl ?_
        exact hX (l3_4 + (1 : Int32)) (wpO_some hw :)
      · refine R_iconst (v := (1 : Int32)) hc dX11_canJoin_23 kI_1 ?_
        exact R_ireturnP hc hret rfl hQ ⟨_, rfl, (wpO_some hw :)⟩ dX11_canJoin_24
