theorem dX1_oddBound_0 : decode cX1_oddBound 0 = .ok (.aload_n 0, 1) := by decide +kernel
theorem dX1_oddBound_1 : decode cX1_oddBound 1 = .ok (.getfield 43, 3) := by decide +kernel
theorem dX1_oddBound_4 : decode cX1_oddBound 4 = .ok (.ifCond .ne 5, 3) := by decide +kernel
theorem dX1_oddBound_7 : decode cX1_oddBound 7 = .ok (.iconst 0, 1) := by decide +kernel
theorem dX1_oddBound_8 : decode cX1_oddBound 8 = .ok (.ireturn, 1) := by decide +kernel
theorem dX1_oddBound_9 : decode cX1_oddBound 9 = .ok (.iconst 0, 1) := by decide +kernel
theorem dX1_oddBound_10 : decode cX1_oddBound 10 = .ok (.istore_n 2, 1) := by decide +kernel
theorem dX1_oddBound_11 : decode cX1_oddBound 11 = .ok (.iconst 0, 1) := by decide +kernel
theorem dX1_oddBound_12 : decode cX1_oddBound 12 = .ok (.istore_n 3, 1) := by decide +kernel
theorem dX1_oddBound_13 : decode cX1_oddBound 13 = .ok (.iload_n 3, 1) := by decide +kernel
theorem dX1_oddBound_14 : decode cX1_oddBound 14 = .ok (.aload_n 0, 1) := by decide +kernel
theorem dX1_oddBound_15 : decode cX1_oddBound 15 = .ok (.getfield 43, 3) := by decide +kernel
theorem dX1_oddBound_18 : decode cX1_oddBound 18 = .ok (.if_icmp .ge 37, 3) := by decide +kernel
theorem dX1_oddBound_21 : decode cX1_oddBound 21 = .ok (.iload_n 2, 1) := by decide +kernel
theorem dX1_oddBound_22 : decode cX1_oddBound 22 = .ok (.iconst 1, 1) := by decide +kernel
theorem dX1_oddBound_23 : decode cX1_oddBound 23 = .ok (.aload_n 0, 1) := by decide +kernel
theorem dX1_oddBound_24 : decode cX1_oddBound 24 = .ok (.iload_n 3, 1) := by decide +kernel
theorem dX1_oddBound_25 : decode cX1_oddBound 25 = .ok (.iconst 4, 1) := by decide +kernel
theorem dX1_oddBound_26 : decode cX1_oddBound 26 = .ok (.imul, 1) := by decide +kernel
theorem dX1_oddBound_27 : decode cX1_oddBound 27 = .ok (.iload_n 1, 1) := by decide +kernel
theorem dX1_oddBound_28 : decode cX1_oddBound 28 = .ok (.iconst 0, 1) := by decide +kernel
theorem dX1_oddBound_29 : decode cX1_oddBound 29 = .ok (.invokevirtual 53, 3) := by decide +kernel
theorem dX1_oddBound_32 : decode cX1_oddBound 32 = .ok (.ishl, 1) := by decide +kernel
theorem dX1_oddBound_33 : decode cX1_oddBound 33 = .ok (.ixor, 1) := by decide +kernel
theorem dX1_oddBound_34 : decode cX1_oddBound 34 = .ok (.istore_n 2, 1) := by decide +kernel
theorem dX1_oddBound_35 : decode cX1_oddBound 35 = .ok (.iload_n 2, 1) := by decide +kernel
theorem dX1_oddBound_36 : decode cX1_oddBound 36 = .ok (.iconst 1, 1) := by decide +kernel
theorem dX1_oddBound_37 : decode cX1_oddBound 37 = .ok (.aload_n 0, 1) := by decide +kernel
theorem dX1_oddBound_38 : decode cX1_oddBound 38 = .ok (.iload_n 3, 1) := by decide +kernel
theorem dX1_oddBound_39 : decode cX1_oddBound 39 = .ok (.iconst 4, 1) := by decide +kernel
theorem dX1_oddBound_40 : decode cX1_oddBound 40 = .ok (.imul, 1) := by decide +kernel
theorem dX1_oddBound_41 : decode cX1_oddBound 41 = .ok (.iload_n 1, 1) := by decide +kernel
theorem dX1_oddBound_42 : decode cX1_oddBound 42 = .ok (.iconst 1, 1) := by decide +kernel
theorem dX1_oddBound_43 : decode cX1_oddBound 43 = .ok (.invokevirtual 53, 3) := by decide +kernel
theorem dX1_oddBound_46 : decode cX1_oddBound 46 = .ok (.ishl, 1) := by decide +kernel
theorem dX1_oddBound_47 : decode cX1_oddBound 47 = .ok (.ixor, 1) := by decide +kernel
theorem dX1_oddBound_48 : decode cX1_oddBound 48 = .ok (.istore_n 2, 1) := by decide +kernel
theorem dX1_oddBound_49 : decode cX1_oddBound 49 = .ok (.iinc 3 1, 3) := by decide +kernel
theorem dX1_oddBound_52 : decode cX1_oddBound 52 = .ok (.goto (-39), 3) := by decide +kernel
theorem dX1_oddBound_55 : decode cX1_oddBound 55 = .ok (.iconst 0, 1) := by decide +kernel
theorem dX1_oddBound_56 : decode cX1_oddBound 56 = .ok (.istore_n 3, 1) := by decide +kernel
theorem dX1_oddBound_57 : decode cX1_oddBound 57 = .ok (.iconst 0, 1) := by decide +kernel
theorem dX1_oddBound_58 : decode cX1_oddBound 58 = .ok (.istore 4, 2) := by decide +kernel
theorem dX1_oddBound_60 : decode cX1_oddBound 60 = .ok (.iconst 0, 1) := by decide +kernel
theorem dX1_oddBound_61 : decode cX1_oddBound 61 = .ok (.istore 5, 2) := by decide +kernel
theorem dX1_oddBound_63 : decode cX1_oddBound 63 = .ok (.iload 5, 2) := by decide +kernel
theorem dX1_oddBound_65 : decode cX1_oddBound 65 = .ok (.aload_n 0, 1) := by decide +kernel
theorem dX1_oddBound_66 : decode cX1_oddBound 66 = .ok (.getfield 43, 3) := by decide +kernel
theorem dX1_oddBound_69 : decode cX1_oddBound 69 = .ok (.if_icmp .ge 62, 3) := by decide +kernel
theorem dX1_oddBound_72 : decode cX1_oddBound 72 = .ok (.aload_n 0, 1) := by decide +kernel
theorem dX1_oddBound_73 : decode cX1_oddBound 73 = .ok (.iload 5, 2) := by decide +kernel
theorem dX1_oddBound_75 : decode cX1_oddBound 75 = .ok (.iconst 4, 1) := by decide +kernel
theorem dX1_oddBound_76 : decode cX1_oddBound 76 = .ok (.imul, 1) := by decide +kernel
theorem dX1_oddBound_77 : decode cX1_oddBound 77 = .ok (.iload_n 1, 1) := by decide +kernel
theorem dX1_oddBound_78 : decode cX1_oddBound 78 = .ok (.iconst 0, 1) := by decide +kernel
theorem dX1_oddBound_79 : decode cX1_oddBound 79 = .ok (.invokevirtual 53, 3) := by decide +kernel
theorem dX1_oddBound_82 : decode cX1_oddBound 82 = .ok (.istore 6, 2) := by decide +kernel
theorem dX1_oddBound_84 : decode cX1_oddBound 84 = .ok (.iload_n 3, 1) := by decide +kernel
theorem dX1_oddBound_85 : decode cX1_oddBound 85 = .ok (.iload 6, 2) := by decide +kernel
theorem dX1_oddBound_87 : decode cX1_oddBound 87 = .ok (.invokestatic 72, 3) := by decide +kernel
theorem dX1_oddBound_90 : decode cX1_oddBound 90 = .ok (.ifCond .ne 35, 3) := by decide +kernel
theorem dX1_oddBound_93 : decode cX1_oddBound 93 = .ok (.aload_n 0, 1) := by decide +kernel
theorem dX1_oddBound_94 : decode cX1_oddBound 94 = .ok (.iload_n 1, 1) := by decide +kernel
theorem dX1_oddBound_95 : decode cX1_oddBound 95 = .ok (.iload 6, 2) := by decide +kernel
theorem dX1_oddBound_97 : decode cX1_oddBound 97 = .ok (.invokevirtual 75, 3) := by decide +kernel
theorem dX1_oddBound_100 : decode cX1_oddBound 100 = .ok (.istore 7, 2) := by decide +kernel
theorem dX1_oddBound_102 : decode cX1_oddBound 102 = .ok (.iload_n 3, 1) := by decide +kernel
theorem dX1_oddBound_103 : decode cX1_oddBound 103 = .ok (.iload 7, 2) := by decide +kernel
theorem dX1_oddBound_105 : decode cX1_oddBound 105 = .ok (.ior, 1) := by decide +kernel
theorem dX1_oddBound_106 : decode cX1_oddBound 106 = .ok (.istore_n 3, 1) := by decide +kernel
theorem dX1_oddBound_107 : decode cX1_oddBound 107 = .ok (.iload 4, 2) := by decide +kernel
theorem dX1_oddBound_109 : decode cX1_oddBound 109 = .ok (.iconst 1, 1) := by decide +kernel
theorem dX1_oddBound_110 : decode cX1_oddBound 110 = .ok (.iload_n 2, 1) := by decide +kernel
theorem dX1_oddBound_111 : decode cX1_oddBound 111 = .ok (.iload 7, 2) := by decide +kernel
theorem dX1_oddBound_113 : decode cX1_oddBound 113 = .ok (.iand, 1) := by decide +kernel
theorem dX1_oddBound_114 : decode cX1_oddBound 114 = .ok (.invokestatic 78, 3) := by decide +kernel
theorem dX1_oddBound_117 : decode cX1_oddBound 117 = .ok (.iconst 2, 1) := by decide +kernel
theorem dX1_oddBound_118 : decode cX1_oddBound 118 = .ok (.idiv, 1) := by decide +kernel
theorem dX1_oddBound_119 : decode cX1_oddBound 119 = .ok (.invokestatic 83, 3) := by decide +kernel
theorem dX1_oddBound_122 : decode cX1_oddBound 122 = .ok (.iadd, 1) := by decide +kernel
theorem dX1_oddBound_123 : decode cX1_oddBound 123 = .ok (.istore 4, 2) := by decide +kernel
theorem dX1_oddBound_125 : decode cX1_oddBound 125 = .ok (.iinc 5 1, 3) := by decide +kernel
theorem dX1_oddBound_128 : decode cX1_oddBound 128 = .ok (.goto (-65), 3) := by decide +kernel
theorem dX1_oddBound_131 : decode cX1_oddBound 131 = .ok (.iload 4, 2) := by decide +kernel
theorem dX1_oddBound_133 : decode cX1_oddBound 133 = .ok (.iconst 1, 1) := by decide +kernel
theorem dX1_oddBound_134 : decode cX1_oddBound 134 = .ok (.isub, 1) := by decide +kernel
theorem dX1_oddBound_135 : decode cX1_oddBound 135 = .ok (.ireturn, 1) := by decide +kernel
def sX1_oddBound_L13 (F : Nat) (l0 : Nat) (l1 : Int32) (l2 : Int32) (l3 : Int32) (h : HP) : Option ((Int32 × Int32) ⊕ Int32) :=
  (gI h 1 (some l0) 5).bind fun t2 =>
  if t2 ≤ l3 then
    some (.inr l2)
  else
    (dO h 1 (some l0)).bind fun a3 =>
    (sX1_netOf F a3 (l3 * (4 : Int32)) l1 (0 : Int32) h).bind fun t4 =>
    nmI (l2 ^^^ (jshl (1 : Int32) t4)) fun l2_5 =>
    (dO h 1 (some l0)).bind fun a6 =>
    (sX1_netOf F a6 (l3 * (4 : Int32)) l1 (1 : Int32) h).bind fun t7 =>
    nmI (l2_5 ^^^ (jshl (1 : Int32) t7)) fun l2_8 =>
    some (.inl (l2_8, l3 + (1 : Int32)))
def sX1_oddBound_L63 (F : Nat) (l0 : Nat) (l1 : Int32) (l2 : Int32) (l3 : Int32) (l4 : Int32) (l5 : Int32) (h : HP) : Option ((Int32 × Int32 × Int32) ⊕ Int32) :=
  (gI h 1 (some l0) 5).bind fun t10 =>
  if t10 ≤ l5 then
    some (.inr l4)
  else
    (dO h 1 (some l0)).bind fun a11 =>
    (sX1_netOf F a11 (l5 * (4 : Int32)) l1 (0 : Int32) h).bind fun t12 =>
    (sX10_has F l3 t12 h).bind fun t13 =>
    if ¬ t13 = 0 then
      some (.inl (l3, l4, l5 + (1 : Int32)))
    else
      (dO h 1 (some l0)).bind fun a14 =>
      (sX1_tiedNets F a14 l1 t12 h).bind fun t15 =>
      nmI (l3 ||| t15) fun l3_16 =>
      (sJ6_bitCount_0f7a4 F (l2 &&& t15) h).bind fun t17 =>
      nmI (l4 + (jmx (1 : Int32) (t17 / (2 : Int32)))) fun l4_18 =>
      some (.inl (l3_16, l4_18, l5 + (1 : Int32)))
def sX1_oddBound (F : Nat) (l0 : Nat) (l1 : Int32) (h : HP) : Option Int32 :=
  (gI h 1 (some l0) 5).bind fun t1 =>
  if ¬ t1 = 0 then
    (iter (fun s => sX1_oddBound_L13 F l0 l1 s.1 s.2 h) F ((0 : Int32), (0 : Int32))).bind fun l2_9 =>
      (iter (fun s => sX1_oddBound_L63 F l0 l1 l2_9 s.1 s.2.1 s.2.2 h) F ((0 : Int32), (0 : Int32), (0 : Int32))).bind fun l4_19 =>
        some (l4_19 - (1 : Int32))
  else
    some (0 : Int32)
abbrev rm_X1_oddBound : Room := { frames := 3, cells := 0, slots := 0, locals := 73 }
set_option maxRecDepth 100000 in
set_option maxHeartbeats 4000000 in
theorem mt_X1_oddBound {w : WD} {l : Launch} {F : Nat} {l0 : Nat} {l1 : Int32} {h : HP} {v : Int32} (hs : sX1_oddBound F l0 l1 h = some v) : MI w l yX1_oddBound cX1_oddBound 8 .int rm_X1_oddBound 0 0 [rf w (some l0), .int l1] h v h := by
  refine of_body [(0, rf w (some l0)), (1, .int l1)] (by decide) (by simp [lg_sl, rf_cat, cat_i, cat_l, cat_a]) (by simp [lv_args, rf_cat, cat_i, cat_l, cat_a]) ?_
  intro x hw_ hnL_ hl_ hc hret hnm hQ
  subst hw_; subst hl_
  have hnl : ∀ i, i < 8 → i < x.nL := fun i h => by rw [hnL_]; exact h
  have hw : wpO (sX1_oddBound F l0 l1 h) (fun r => r = v) := ⟨_, hs, rfl⟩
  unfold sX1_oddBound at hw
  refine R_aload_n (q := 0) (i := 0) (v := (some l0)) hc dX1_oddBound_0 rfl rfl ?_
  refine R_getI hc fl_1_43 dX1_oddBound_1 hw (fun t1 hw => ?_)
  refine R_if_ne (tgt := 9) hc dX1_oddBound_4 (by decide) hw (fun hw => ?_) (fun hw => ?_)
  · refine R_iconst (v := (0 : Int32)) hc dX1_oddBound_9 kI_0 ?_
    refine R_istore_n (i := 2) (v := (0 : Int32)) hc [(2, .int (0 : Int32)), (0, rf x.w (some l0)), (1, .int l1)] dX1_oddBound_10 rfl (hnl 2 (le_b rfl)) rfl ?_
    refine R_iconst (v := (0 : Int32)) hc dX1_oddBound_11 kI_0 ?_
    refine R_istore_n (i := 3) (v := (0 : Int32)) hc [(3, .int (0 : Int32)), (2, .int (0 : Int32)), (0, rf x.w (some l0)), (1, .int l1)] dX1_oddBound_12 rfl (hnl 3 (le_b rfl)) rfl ?_
    refine R_sub hc [2, 3, 1, 0] rfl ?_
    refine R_loop (P := fun (s : (Int32 × Int32)) => Rn x 0 0 13 [(0, rf x.w (some l0)), (1, .int l1), (2, .int s.1), (3, .int s.2)] [] h) (fun l2_9 => Rn x 0 0 55 [(0, rf x.w (some l0)), (1, .int l1), (2, .int l2_9)] [] h) hw (fun r hw => ?_) (fun X hX s hw => ?_)
    · revert r hw
      intro l2_9 hw
      show Rn x 0 0 55 [(0, rf x.w (some l0)), (1, .int l1), (2, .int l2_9)] [] h
      refine R_iconst (v := (0 : Int32)) hc dX1_oddBound_55 kI_0 ?_
      refine R_istore_n (i := 3) (v := (0 : Int32)) hc [(3, .int (0 : Int32)), (0, rf x.w (some l0)), (1, .int l1), (2, .int l2_9)] dX1_oddBound_56 rfl (hnl 3 (le_b rfl)) rfl ?_
      refine R_iconst (v := (0 : Int32)) hc dX1_oddBound_57 kI_0 ?_
      refine R_istore (i := 4) (v := (0 : Int32)) hc [(4, .int (0 : Int32)), (3, .int (0 : Int32)), (0, rf x.w (some l0)), (1, .int l1), (2, .int l2_9)] dX1_oddBound_58 (hnl 4 (le_b rfl)) rfl ?_
      refine R_iconst (v := (0 : Int32)) hc dX1_oddBound_60 kI_0 ?_
      refine R_istore (i := 5) (v := (0 : Int32)) hc [(5, .int (0 : Int32)), (4, .int (0 : Int32)), (3, .int (0 : Int32)), (0, rf x.w (some l0)), (1, .int l1), (2, .int l2_9)] dX1_oddBound_61 (hnl 5 (le_b rfl)) rfl ?_
      refine R_sub hc [3, 4, 5, 2, 1, 0] rfl ?_
      refine R_loop (P := fun (s : (Int32 × Int32 × Int32)) => Rn x 0 0 63 [(0, rf x.w (some l0)), (1, .int l1), (2, .int l2_9), (3, .int s.1), (4, .int s.2.1), (5, .int s.2.2)] [] h) (fun l4_19 => Rn x 0 0 131 [(4, .int l4_19)] [] h) hw (fun r hw => ?_) (fun X hX s hw => ?_)
      · revert r hw
        intro l4_19 hw
        show Rn x 0 0 131 [(4, .int l4_19)] [] h
        refine R_iload (q := 0) (i := 4) (v := l4_19) hc dX1_oddBound_131 rfl ?_
        refine R_iconst (v := (1 : Int32)) hc dX1_oddBound_133 kI_1 ?_
        refine R_isub hc dX1_oddBound_134 ?_
        exact R_ireturnP hc hret rfl hQ hw dX1_oddBound_135
      · obtain ⟨l3_21, l4_22, l5_23⟩ := s
        show Rn x 0 0 63 [(0, rf x.w (some l0)), (1, .int l1), (2, .int l2_9), (3, .int l3_21), (4, .int l4_22), (5, .int l5_23)] [] h
        have hw : wpO (sX1_oddBound_L63 F l0 l1 l2_9 l3_21 l4_22 l5_23 h) _ := hw
        unfold sX1_oddBound_L63 at hw
        refine R_iload (q := 5) (i := 5) (v := l5_23) hc dX1_oddBound_63 rfl ?_
        refine R_aload_n (q := 0) (i := 0) (v := (some l0)) hc dX1_oddBound_65 rfl rfl ?_
        refine R_getI hc fl_1_43 dX1_oddBound_66 hw (fun t10 hw => ?_)
        refine R_icmp_ge (tgt := 131) hc dX1_oddBound_69 (by decide) hw (fun hw => ?_) (fun hw => ?_)
        · refine R_sub hc [4] rfl ?_
          exact (wpO_some hw :)
        · refine R_aload_n (q := 0) (i := 0) (v := (some l0)) hc dX1_oddBound_72 rfl rfl ?_
          refine R_iload (q := 5) (i := 5) (v := l5_23) hc dX1_oddBound_73 rfl ?_
          refine R_iconst (v := (4 : Int32)) hc dX1_oddBound_75 kI_4 ?_
          refine R_imul hc dX1_oddBound_76 ?_
          refine R_iload_n (q := 1) (i := 1) (v := l1) hc dX1_oddBound_77 rfl rfl ?_
          refine R_iconst (v := (0 : Int32)) hc dX1_oddBound_78 kI_0 ?_
          refine R_cVI (As := [.int (l5_23 * (4 : Int32)), .int l1, .int (0 : Int32)]) (rest := []) (r := (some l0)) (ci := 1) hc ml_1_53 mf_X1_netOf rfl (by decide) ⟨rfl, rfl⟩ ⟨le_b rfl, le_b rfl⟩ ⟨Nat.zero_le _, Nat.zero_le _⟩ (fun a v e => mt_X1_netOf e) rfl rfl (Nat.zero_le _) dX1_oddBound_79 hw (fun t12 hw => ?_)
          refine R_istore (i := 6) (v := t12) hc [(6, .int t12), (0, rf x.w (some l0)), (1, .int l1), (2, .int l2_9), (3, .int l3_21), (4, .int l4_22), (5, .int l5_23)] dX1_oddBound_82 (hnl 6 (le_b rfl)) rfl ?_
          refine R_iload_n (q := 4) (i := 3) (v := l3_21) hc dX1_oddBound_84 rfl rfl ?_
          refine R_iload (q := 0) (i := 6) (v := t12) hc dX1_oddBound_85 rfl ?_
          refine R_cNI (As := [.int l3_21, .int t12]) (rest := []) hc mn_1_72 mf_X10_has ⟨rfl, rfl⟩ ⟨le_b rfl, le_b rfl⟩ ⟨Nat.zero_le _, Nat.zero_le _⟩ (fun v e => mt_X10_has e) rfl rfl (Nat.zero_le _) dX1_oddBound_87 hw (fun t13 hw => ?_)
          refine R_if_ne (tgt := 125) hc dX1_oddBound_90 (by decide) hw (fun hw => ?_) (fun hw => ?_)
          · refine R_iinc (q := 6) (i := 5) (v := l5_23) hc [(5, .int (l5_23 + (1 : Int32))), (6, .int t12), (0, rf x.w (some l0)), (1, .int l1), (2, .int l2_9), (3, .int l3_21), (4, .int l4_22)] dX1_oddBound_125 rfl (kC_1 _) (hnl 5 (le_b rfl)) rfl ?_
            refine R_goto (tgt := 63) hc dX1_oddBound_128 (by decide) ?_
            refine R_sub hc [2, 3, 4, 5, 6, 0] rfl ?_
            exact hX (l3_21, l4_22, l5_23 + (1 : Int32)) (wpO_some hw :)
          · refine R_aload_n (q := 1) (i := 0) (v := (some l0)) hc dX1_oddBound_93 rfl rfl ?_
            refine R_iload_n (q := 2) (i := 1) (v := l1) hc dX1_oddBound_94 rfl rfl ?_
            refine R_iload (q := 0) (i := 6) (v := t12) hc dX1_oddBound_95 rfl ?_
            refine R_cVI (As := [.int l1, .int t12]) (rest := []) (r := (some l0)) (ci := 1) hc ml_1_75 mf_X1_tiedNets rfl (by decide) ⟨rfl, rfl⟩ ⟨le_b rfl, le_b rfl⟩ ⟨Nat.zero_le _, Nat.zero_le _⟩ (fun a v e => mt_X1_tiedNets e) rfl rfl (Nat.zero_le _) dX1_oddBound_97 hw (fun t15 hw => ?_)
            refine R_istore (i := 7) (v := t15) hc [(7, .int t15), (6, .int t12), (0, rf x.w (some l0)), (1, .int l1), (2, .int l2_9), (3, .int l3_21), (4, .int l4_22), (5, .int l5_23)] dX1_oddBound_100 (hnl 7 (le_b rfl)) rfl ?_
            refine R_iload_n (q := 5) (i := 3) (v := l3_21) hc dX1_oddBound_102 rfl rfl ?_
            refine R_iload (q := 0) (i := 7) (v := t15) hc dX1_oddBound_103 rfl ?_
            refine R_ior hc dX1_oddBound_105 ?_
            refine R_nmI hw (fun l3_16 hw => ?_)
            refine R_istore_n (i := 3) (v := l3_16) hc [(3, .int l3_16), (7, .int t15), (6, .int t12), (0, rf x.w (some l0)), (1, .int l1), (2, .int l2_9), (4, .int l4_22), (5, .int l5_23)] dX1_oddBound_106 rfl (hnl 3 (le_b rfl)) rfl ?_
            refine R_iload (q := 6) (i := 4) (v := l4_22) hc dX1_oddBound_107 rfl ?_
            refine R_iconst (v := (1 : Int32)) hc dX1_oddBound_109 kI_1 ?_
            refine R_iload_n (q := 5) (i := 2) (v := l2_9) hc dX1_oddBound_110 rfl rfl ?_
            refine R_iload (q := 1) (i := 7) (v := t15) hc dX1_oddBound_111 rfl ?_
            refine R_iand hc dX1_oddBound_113 ?_
            refine R_cSI (As := [.int (l2_9 &&& t15)]) (rest := [.int (1 : Int32), .int l4_22]) hc ml_1_78 mf_J6_bitCount_0f7a4 ⟨rfl, rfl⟩ ⟨le_b rfl, le_b rfl⟩ ⟨Nat.zero_le _, Nat.zero_le _⟩ (fun v e => mt_J6_bitCount_0f7a4 e) rfl rfl (le_b rfl) dX1_oddBound_114 hw (fun t17 hw => ?_)
            refine R_iconst (v := (2 : Int32)) hc dX1_oddBound_117 kI_2 ?_
            refine R_idivL hc dX1_oddBound_118 (by decide) ?_
            refine R_jmx hc ml_1_83 (le_b rfl) (le_b rfl) ⟨Nat.zero_le _, Nat.zero_le _⟩ dX1_oddBound_119 ?_
            refine R_iadd hc dX1_oddBound_122 ?_
            refine R_nmI hw (fun l4_18 hw => ?_)
            refine R_istore (i := 4) (v := l4_18) hc [(4, .int l4_18), (3, .int l3_16), (7, .int t15), (6, .int t12), (0, rf x.w (some l0)), (1, .int l1), (2, .int l2_9), (5, .int l5_23)] dX1_oddBound_123 (hnl 4 (le_b rfl)) rfl ?_
            refine R_iinc (q := 7) (i := 5) (v := l5_23) hc [(5, .int (l5_23 + (1 : Int32))), (4, .int l4_18), (3, .int l3_16), (7, .int t15), (6, .int t12), (0, rf x.w (some l0)), (1, .int l1), (2, .int l2_9)] dX1_oddBound_125 rfl (kC_1 _) (hnl 5 (le_b rfl)) rfl ?_
            refine R_goto (tgt := 63) hc dX1_oddBound_128 (by decide) ?_
            refine R_sub hc [5, 6, 7, 2, 1, 0] rfl ?_
            exact hX (l3_16, l4_18, l5_23 + (1 : Int32)) (wpO_some hw :)
    · obtain ⟨l2_25, l3_26⟩ := s
      show Rn x 0 0 13 [(0, rf x.w (some l0)), (1, .int l1), (2, .int l2_25), (3, .int l3_26)] [] h
      have hw : wpO (sX1_oddBound_L13 F l0 l1 l2_25 l3_26 h) _ := hw
      unfold sX1_oddBound_L13 at hw
      refine R_iload_n (q := 3) (i := 3) (v := l3_26) hc dX1_oddBound_13 rfl rfl ?_
      refine R_aload_n (q := 0) (i := 0) (v := (some l0)) hc dX1_oddBound_14 rfl rfl ?_
      refine R_getI hc fl_1_43 dX1_oddBound_15 hw (fun t2 hw => ?_)
      refine R_icmp_ge (tgt := 55) hc dX1_oddBound_18 (by decide) hw (fun hw => ?_) (fun hw => ?_)
      · refine R_sub hc [0, 1, 2] rfl ?_
        exact (wpO_some hw :)
      · refine R_iload_n (q := 2) (i := 2) (v := l2_25) hc dX1_oddBound_21 rfl rfl ?_
        refine R_iconst (v := (1 : Int32)) hc dX1_oddBound_22 kI_1 ?_
        refine R_aload_n (q := 0) (i := 0) (v := (some l0)) hc dX1_oddBound_23 rfl rfl ?_
        refine R_iload_n (q := 3) (i := 3) (v := l3_26) hc dX1_oddBound_24 rfl rfl ?_
        refine R_iconst (v := (4 : Int32)) hc dX1_oddBound_25 kI_4 ?_
        refine R_imul hc dX1_oddBound_26 ?_
        refine R_iload_n (q := 1) (i := 1) (v := l1) hc dX1_oddBound_27 rfl rfl ?_
        refine R_iconst (v := (0 : Int32)) hc dX1_oddBound_28 kI_0 ?_
        refine R_cVI (As := [.int (l3_26 * (4 : Int32)), .int l1, .int (0 : Int32)]) (rest := [.int (1 : Int32), .int l2_25]) (r := (some l0)) (ci := 1) hc ml_1_53 mf_X1_netOf rfl (by decide) ⟨rfl, rfl⟩ ⟨le_b rfl, le_b rfl⟩ ⟨Nat.zero_le _, Nat.zero_le _⟩ (fun a v e => mt_X1_netOf e) rfl rfl (le_b rfl) dX1_oddBound_29 hw (fun t4 hw => ?_)
        refine R_ishl hc dX1_oddBound_32 ?_
        refine R_ixor hc dX1_oddBound_33 ?_
        refine R_nmI hw (fun l2_5 hw => ?_)
        refine R_istore_n (i := 2) (v := l2_5) hc [(2, .int l2_5), (0, rf x.w (some l0)), (1, .int l1), (3, .int l3_26)] dX1_oddBound_34 rfl (hnl 2 (le_b rfl)) rfl ?_
        refine R_iload_n (q := 0) (i := 2) (v := l2_5) hc dX1_oddBound_35 rfl rfl ?_
        refine R_iconst (v := (1 : Int32)) hc dX1_oddBound_36 kI_1 ?_
        refine R_aload_n (q := 1) (i := 0) (v := (some l0)) hc dX1_oddBound_37 rfl rfl ?_
        refine R_iload_n (q := 3) (i := 3) (v := l3_26) hc dX1_oddBound_38 rfl rfl ?_
        refine R_iconst (v := (4 : Int32)) hc dX1_oddBound_39 kI_4 ?_
        refine R_imul hc dX1_oddBound_40 ?_
        refine R_iload_n (q := 2) (i := 1) (v := l1) hc dX1_oddBound_41 rfl rfl ?_
        refine R_iconst (v := (1 : Int32)) hc dX1_oddBound_42 kI_1 ?_
        refine R_cVI (As := [.int (l3_26 * (4 : Int32)), .int l1, .int (1 : Int32)]) (rest := [.int (1 : Int32), .int l2_5]) (r := (some l0)) (ci := 1) hc ml_1_53 mf_X1_netOf rfl (by decide) ⟨rfl, rfl⟩ ⟨le_b rfl, le_b rfl⟩ ⟨Nat.zero_le _, Nat.zero_le _⟩ (fun a v e => mt_X1_netOf e) rfl rfl (le_b rfl) dX1_oddBound_43 hw (fun t7 hw => ?_)
        refine R_ishl hc dX1_oddBound_46 ?_
        refine R_ixor hc dX1_oddBound_47 ?_
        refine R_nmI hw (fun l2_8 hw => ?_)
        refine R_istore_n (i := 2) (v := l2_8) hc [(2, .int l2_8), (0, rf x.w (some l0)), (1, .int l1), (3, .int l3_26)] dX1_oddBound_48 rfl (hnl 2 (le_b rfl)) rfl ?_
        refine R_iinc (q := 3) (i := 3) (v := l3_26) hc [(3, .int (l3_26 + (1 : Int32))), (2, .int l2_8), (0, rf x.w (some l0)), (1, .int l1)] dX1_oddBound_49 rfl (kC_1 _) (hnl 3 (le_b rfl)) rfl ?_
        refine R_goto (tgt := 13) hc dX1_oddBound_52 (by decide) ?_
        refine R_sub hc [2, 3, 1, 0] rfl ?_
        exact hX (l2_8, l3_26 + (1 : Int32)) (wpO_some hw :)
  · refine R_iconst (v := (0 : Int32)) hc dX1_oddBound_7 kI_0 ?_
    exact R_ireturnP hc hret rfl hQ hw dX1_oddBound_8
theorem dX10_bound_0 : decode cX10_bound 0 = .ok (.aload_n 0, 1) := by decide +kernel
theorem dX10_bound_1 : decode cX10_bound 1 = .ok (.getfield 75, 3) := by decide +kernel
theorem dX10_bound_4 : decode cX10_bound 4 = .ok (.getfield 125, 3) := by decide +kernel
theorem dX10_bound_7 : decode cX10_bound 7 = .ok (.iload_n 1, 1) := by decide +kernel
theorem dX10_bound_8 : decode cX10_bound 8 = .ok (.ifCond .eq 7, 3) := by decide +kernel
theorem dX10_bound_11 : decode cX10_bound 11 = .ok (.iconst 0, 1) := by decide +kernel
theorem dX10_bound_12 : decode cX10_bound 12 = .ok (.goto 4, 3) := by decide +kernel
theorem dX10_bound_15 : decode cX10_bound 15 = .ok (.iconst 1, 1) := by decide +kernel
theorem dX10_bound_16 : decode cX10_bound 16 = .ok (.invokevirtual 315, 3) := by decide +kernel
theorem dX10_bound_19 : decode cX10_bound 19 = .ok (.ireturn, 1) := by decide +kernel
def sX10_bound (F : Nat) (l0 : Nat) (l1 : Int32) (h : HP) : Option Int32 :=
  (gR h 10 (some l0) 12).bind fun t1 =>
  (gR h 4 t1 0).bind fun t2 =>
  if l1 = 0 then
    (dO h 1 t2).bind fun a3 =>
    (sX1_oddBound F a3 (1 : Int32) h).bind fun t4 =>
    some t4
  else
    (dO h 1 t2).bind fun a5 =>
    (sX1_oddBound F a5 (0 : Int32) h).bind fun t6 =>
    some t6
abbrev rm_X10_bound : Room := { frames := 4, cells := 0, slots := 0, locals := 100 }
set_option maxRecDepth 100000 in
set_option maxHeartbeats 4000000 in
theorem mt_X10_bound {w : WD} {l : Launch} {F : Nat} {l0 : Nat} {l1 : Int32} {h : HP} {v : Int32} (hs : sX10_bound F l0 l1 h = some v) : MI w l yX10_bound cX10_bound 2 .int rm_X10_bound 0 0 [rf w (some l0), .int l1] h v h := by
  refine of_body [(0, rf w (some l0)), (1, .int l1)] (by decide) (by simp [lg_sl, rf_cat, cat_i, cat_l, cat_a]) (by simp [lv_args, rf_cat, cat_i, cat_l, cat_a]) ?_
  intro x hw_ hnL_ hl_ hc hret hnm hQ
  subst hw_; subst hl_
  have hnl : ∀ i, i < 2 → i < x.nL := fun i h => by rw [hnL_]; exact h
  have hw : wpO (sX10_bound F l0 l1 h) (fun r => r = v) := ⟨_, hs, rfl⟩
  unfold sX10_bound at hw
  refine R_aload_n (q := 0) (i := 0) (v := (some l0)) hc dX10_bound_0 rfl rfl ?_
  refine R_getR hc fl_10_75 dX10_bound_1 hw (fun t1 hw => ?_)
  refine R_getR hc fl_10_125 dX10_bound_4 hw (fun t2 hw => ?_)
  refine R_iload_n (q := 1) (i := 1) (v := l1) hc dX10_bound_7 rfl rfl ?_
  refine R_if_eq (tgt := 15) hc dX10_bound_8 (by decide) hw (fun hw => ?_) (fun hw => ?_)
  · refine R_iconst (v := (1 : Int32)) hc dX10_bound_15 kI_1 ?_
    refine R_cVI (As := [.int (1 : Int32)]) (rest := []) (r := t2) (ci := 1) hc ml_10_315 mf_X1_oddBound rfl (by decide) ⟨rfl, rfl⟩ ⟨le_b rfl, le_b rfl⟩ ⟨Nat.zero_le _, Nat.zero_le _⟩ (fun a v e => mt_X1_oddBound e) rfl rfl (Nat.zero_le _) dX10_bound_16 hw (fun t4 hw => ?_)
    exact R_ireturnP hc hret rfl hQ hw dX10_bound_19
  · refine R_iconst (v := (0 : Int32)) hc dX10_bound_11 kI_0 ?_
    refine R_goto (tgt := 16) hc dX10_bound_12 (by decide) ?_
    refine R_cVI (As := [.int (0 : Int32)]) (rest := []) (r := t2) (ci := 1) hc ml_10_315 mf_X1_oddBound rfl (by decide) ⟨rfl, rfl⟩ ⟨le_b rfl, le_b rfl⟩ ⟨Nat.zero_le _, Nat.zero_le _⟩ (fun a v e => mt_X1_oddBound e) rfl rfl (Nat.zero_le _) dX10_bound_16 hw (fun t6 hw => ?_)
    exact R_ireturnP hc hret rfl hQ hw dX10_bound_19
theorem dX10_agrees_0 : decode cX10_agrees 0 = .ok (.aload_n 0, 1) := by decide +kernel
theorem dX10_agrees_1 : decode cX10_agrees 1 = .ok (.invokevirtual 318, 3) := by decide +kernel
theorem dX10_agrees_4 : decode cX10_agrees 4 = .ok (.aload_n 0, 1) := by decide +kernel
theorem dX10_agrees_5 : decode cX10_agrees 5 = .ok (.iconst 1, 1) := by decide +kernel
theorem dX10_agrees_6 : decode cX10_agrees 6 = .ok (.invokevirtual 320, 3) := by decide +kernel
theorem dX10_agrees_9 : decode cX10_agrees 9 = .ok (.aload_n 0, 1) := by decide +kernel
theorem dX10_agrees_10 : decode cX10_agrees 10 = .ok (.iconst 0, 1) := by decide +kernel
theorem dX10_agrees_11 : decode cX10_agrees 11 = .ok (.invokevirtual 320, 3) := by decide +kernel
theorem dX10_agrees_14 : decode cX10_agrees 14 = .ok (.invokestatic 324, 3) := by decide +kernel
theorem dX10_agrees_17 : decode cX10_agrees 17 = .ok (.if_icmp .ne 7, 3) := by decide +kernel
theorem dX10_agrees_20 : decode cX10_agrees 20 = .ok (.iconst 1, 1) := by decide +kernel
theorem dX10_agrees_21 : decode cX10_agrees 21 = .ok (.goto 4, 3) := by decide +kernel
theorem dX10_agrees_24 : decode cX10_agrees 24 = .ok (.iconst 0, 1) := by decide +kernel
theorem dX10_agrees_25 : decode cX10_agrees 25 = .ok (.ireturn, 1) := by decide +kernel
def sX10_agrees (F : Nat) (l0 : Nat) (h : HP) : Option Int32 :=
  (dO h 10 (some l0)).bind fun a1 =>
  (sX10_least F a1 h).bind fun t2 =>
  (dO h 10 (some l0)).bind fun a3 =>
  (sX10_bound F a3 (1 : Int32) h).bind fun t4 =>
  (dO h 10 (some l0)).bind fun a5 =>
  (sX10_bound F a5 (0 : Int32) h).bind fun t6 =>
  if ¬ t2 = (jmx t4 t6) then
    some (0 : Int32)
  else
    some (1 : Int32)
abbrev rm_X10_agrees : Room := { frames := 5, cells := 0, slots := 0, locals := 121 }
set_option maxRecDepth 100000 in
set_option maxHeartbeats 4000000 in
theorem mt_X10_agrees {w : WD} {l : Launch} {F : Nat} {l0 : Nat} {h : HP} {v : Int32} (hs : sX10_agrees F l0 h = some v) : MI w l yX10_agrees cX10_agrees 1 .boolean rm_X10_agrees 0 0 [rf w (some l0)] h v h := by
  refine of_body [(0, rf w (some l0))] (by decide) (by simp [lg_sl, rf_cat, cat_i, cat_l, cat_a]) (by simp [lv_args, rf_cat, cat_i, cat_l, cat_a]) ?_
  intro x hw_ hnL_ hl_ hc hret hnm hQ
  subst hw_; subst hl_
  have hnl : ∀ i, i < 1 → i < x.nL := fun i h => by rw [hnL_]; exact h
  have hw : wpO (sX10_agrees F l0 h) (fun r => r = v) := ⟨_, hs, rfl⟩
  unfold sX10_agrees at hw
  refine R_aload_n (q := 0) (i := 0) (v := (some l0)) hc dX10_agrees_0 rfl rfl ?_
  refine R_cVI (As := []) (rest := []) (r := (some l0)) (ci := 10) hc ml_10_318 mf_X10_least rfl (by decide) ⟨rfl, rfl⟩ ⟨le_b rfl, le_b rfl⟩ ⟨Nat.zero_le _, Nat.zero_le _⟩ (fun a v e => mt_X10_least e) rfl rfl (Nat.zero_le _) dX10_agrees_1 hw (fun t2 hw => ?_)
  refine R_aload_n (q := 0) (i := 0) (v := (some l0)) hc dX10_agrees_4 rfl rfl ?_
  refine R_iconst (v := (1 : Int32)) hc dX10_agrees_5 kI_1 ?_
  refine R_cVI (As := [.int (1 : Int32)]) (rest := [.int t2]) (r := (some l0)) (ci := 10) hc ml_10_320 mf_X10_bound rfl (by decide) ⟨rfl, rfl⟩ ⟨le_b rfl, le_b rfl⟩ ⟨Nat.zero_le _, Nat.zero_le _⟩ (fun a v e => mt_X10_bound e) rfl rfl (le_b rfl) dX10_agrees_6 hw (fun t4 hw => ?_)
  refine R_aload_n (q := 0) (i := 0) (v := (some l0)) hc dX10_agrees_9 rfl rfl ?_
  refine R_iconst (v := (0 : Int32)) hc dX10_agrees_10 kI_0 ?_
  refine R_cVI (As := [.int (0 : Int32)]) (rest := [.int t4, .int t2]) (r := (some l0)) (ci := 10) hc ml_10_320 mf_X10_bound rfl (by decide) ⟨rfl, rfl⟩ ⟨le_b rfl, le_b rfl⟩ ⟨Nat.zero_le _, Nat.zero_le _⟩ (fun a v e => mt_X10_bound e) rfl rfl (le_b rfl) dX10_agrees_11 hw (fun t6 hw => ?_)
  refine R_jmx hc ml_10_324 (le_b rfl) (le_b rfl) ⟨Nat.zero_le _, Nat.zero_le _⟩ dX10_agrees_14 ?_
  refine R_icmp_ne (tgt := 24) hc dX10_agrees_17 (by decide) hw (fun hw => ?_) (fun hw => ?_)
  · refine R_iconst (v := (0 : Int32)) hc dX10_agrees_24 kI_0 ?_
    exact R_ireturnP hc hret rfl hQ hw dX10_agrees_25
  · refine R_iconst (v := (1 : Int32)) hc dX10_agrees_20 kI_1 ?_
    refine R_goto (tgt := 25) hc dX10_agrees_21 (by decide) ?_
    exact R_ireturnP hc hret rfl hQ hw dX10_agrees_25
theorem dX4_partedGaps_0 : decode cX4_partedGaps 0 = .ok (.aload_n 0, 1) := by decide +kernel
theorem dX4_partedGaps_1 : decode cX4_partedGaps 1 = .ok (.getfield 21, 3) := by decide +kernel
theorem dX4_partedGaps_4 : decode cX4_partedGaps 4 = .ok (.getfield 125, 3) := by decide +kernel
theorem dX4_partedGaps_7 : decode cX4_partedGaps 7 = .ok (.iload_n 1, 1) := by decide +kernel
theorem dX4_partedGaps_8 : decode cX4_partedGaps 8 = .ok (.iaload, 1) := by decide +kernel
theorem dX4_partedGaps_9 : decode cX4_partedGaps 9 = .ok (.aload_n 0, 1) := by decide +kernel
theorem dX4_partedGaps_10 : decode cX4_partedGaps 10 = .ok (.getfield 21, 3) := by decide +kernel
theorem dX4_partedGaps_13 : decode cX4_partedGaps 13 = .ok (.getfield 125, 3) := by decide +kernel
theorem dX4_partedGaps_16 : decode cX4_partedGaps 16 = .ok (.aload_n 0, 1) := by decide +kernel
theorem dX4_partedGaps_17 : decode cX4_partedGaps 17 = .ok (.getfield 12, 3) := by decide +kernel
theorem dX4_partedGaps_20 : decode cX4_partedGaps 20 = .ok (.invokevirtual 42, 3) := by decide +kernel
theorem dX4_partedGaps_23 : decode cX4_partedGaps 23 = .ok (.iload_n 1, 1) := by decide +kernel
theorem dX4_partedGaps_24 : decode cX4_partedGaps 24 = .ok (.iconst (-1), 1) := by decide +kernel
theorem dX4_partedGaps_25 : decode cX4_partedGaps 25 = .ok (.ixor, 1) := by decide +kernel
theorem dX4_partedGaps_26 : decode cX4_partedGaps 26 = .ok (.iand, 1) := by decide +kernel
theorem dX4_partedGaps_27 : decode cX4_partedGaps 27 = .ok (.iaload, 1) := by decide +kernel
theorem dX4_partedGaps_28 : decode cX4_partedGaps 28 = .ok (.iadd, 1) := by decide +kernel
theorem dX4_partedGaps_29 : decode cX4_partedGaps 29 = .ok (.ireturn, 1) := by decide +kernel
def sX4_partedGaps (F : Nat) (l0 : Nat) (l1 : Int32) (h : HP) : Option Int32 :=
  (gR h 4 (some l0) 1).bind fun t1 =>
  (gR h 3 t1 0).bind fun t2 =>
  (aI h 13 t2 l1).bind fun t3 =>
  (gR h 4 (some l0) 1).bind fun t4 =>
  (gR h 3 t4 0).bind fun t5 =>
  (gR h 4 (some l0) 0).bind fun t6 =>
  (dO h 1 t6).bind fun a7 =>
  (sX1_allFingers F a7 h).bind fun t8 =>
  (aI h 13 t5 (t8 &&& (l1 ^^^ (-1 : Int32)))).bind fun t9 =>
  some (t3 + t9)
abbrev rm_X4_partedGaps : Room := { frames := 1, cells := 0, slots := 0, locals := 20 }
set_option maxRecDepth 100000 in
set_option maxHeartbeats 4000000 in
theorem mt_X4_partedGaps {w : WD} {l : Launch} {F : Nat} {l0 : Nat} {l1 : Int32} {h : HP} {v : Int32} (hs : sX4_partedGaps F l0 l1 h = some v) : MI w l yX4_partedGaps cX4_partedGaps 2 .int rm_X4_partedGaps 0 0 [rf w (some l0), .int l1] h v h := by
  refine of_body [(0, rf w (some l0)), (1, .int l1)] (by decide) (by simp [lg_sl, rf_cat, cat_i, cat_l, cat_a]) (by simp [lv_args, rf_cat, cat_i, cat_l, cat_a]) ?_
  intro x hw_ hnL_ hl_ hc hret hnm hQ
  subst hw_; subst hl_
  have hnl : ∀ i, i < 2 → i < x.nL := fun i h => by rw [hnL_]; exact h
  have hw : wpO (sX4_partedGaps F l0 l1 h) (fun r => r = v) := ⟨_, hs, rfl⟩
  unfold sX4_partedGaps at hw
  refine R_aload_n (q := 0) (i := 0) (v := (some l0)) hc dX4_partedGaps_0 rfl rfl ?_
  refine R_getR hc fl_4_21 dX4_partedGaps_1 hw (fun t1 hw => ?_)
  refine R_getR hc fl_4_125 dX4_partedGaps_4 hw (fun t2 hw => ?_)
  refine R_iload_n (q := 1) (i := 1) (v := l1) hc dX4_partedGaps_7 rfl rfl ?_
  refine R_iaload hc dX4_partedGaps_8 hw (fun t3 hw => ?_)
  refine R_aload_n (q := 0) (i := 0) (v := (some l0)) hc dX4_partedGaps_9 rfl rfl ?_
  refine R_getR hc fl_4_21 dX4_partedGaps_10 hw (fun t4 hw => ?_)
  refine R_getR hc fl_4_125 dX4_partedGaps_13 hw (fun t5 hw => ?_)
  refine R_aload_n (q := 0) (i := 0) (v := (some l0)) hc dX4_partedGaps_16 rfl rfl ?_
  refine R_getR hc fl_4_12 dX4_partedGaps_17 hw (fun t6 hw => ?_)
  refine R_cVI (As := []) (rest := [rf x.w t5, .int t3]) (r := t6) (ci := 1) hc ml_4_42 mf_X1_allFingers rfl (by decide) ⟨rfl, rfl⟩ ⟨le_b rfl, le_b rfl⟩ ⟨Nat.zero_le _, Nat.zero_le _⟩ (fun a v e => mt_X1_allFingers e) rfl rfl (by simp [rf_cat, cat_i, cat_l, cat_a]) dX4_partedGaps_20 hw (fun t8 hw => ?_)
  refine R_iload_n (q := 1) (i := 1) (v := l1) hc dX4_partedGaps_23 rfl rfl ?_
  refine R_iconst (v := (-1 : Int32)) hc dX4_partedGaps_24 kI_m1 ?_
  refine R_ixor hc dX4_partedGaps_25 ?_
  refine R_iand hc dX4_partedGaps_26 ?_
  refine R_iaload hc dX4_partedGaps_27 hw (fun t9 hw => ?_)
  refine R_iadd hc dX4_partedGaps_28 ?_
  exact R_ireturnP hc hret rfl hQ hw dX4_partedGaps_29
theorem dX4_partingSet_0 : decode cX4_partingSet 0 = .ok (.aload_n 0, 1) := by decide +kernel
theorem dX4_partingSet_1 : decode cX4_partingSet 1 = .ok (.getfield 12, 3) := by decide +kernel
theorem dX4_partingSet_4 : decode cX4_partingSet 4 = .ok (.invokevirtual 42, 3) := by decide +kernel
theorem dX4_partingSet_7 : decode cX4_partingSet 7 = .ok (.istore_n 2, 1) := by decide +kernel
theorem dX4_partingSet_8 : decode cX4_partingSet 8 = .ok (.iconst (-1), 1) := by decide +kernel
theorem dX4_partingSet_9 : decode cX4_partingSet 9 = .ok (.istore_n 3, 1) := by decide +kernel
theorem dX4_partingSet_10 : decode cX4_partingSet 10 = .ok (.iconst 0, 1) := by decide +kernel
theorem dX4_partingSet_11 : decode cX4_partingSet 11 = .ok (.istore 4, 2) := by decide +kernel
theorem dX4_partingSet_13 : decode cX4_partingSet 13 = .ok (.iload 4, 2) := by decide +kernel
theorem dX4_partingSet_15 : decode cX4_partingSet 15 = .ok (.iload_n 2, 1) := by decide +kernel
theorem dX4_partingSet_16 : decode cX4_partingSet 16 = .ok (.if_icmp .gt 40, 3) := by decide +kernel
theorem dX4_partingSet_19 : decode cX4_partingSet 19 = .ok (.iload 4, 2) := by decide +kernel
theorem dX4_partingSet_21 : decode cX4_partingSet 21 = .ok (.invokestatic 99, 3) := by decide +kernel
theorem dX4_partingSet_24 : decode cX4_partingSet 24 = .ok (.iload_n 1, 1) := by decide +kernel
theorem dX4_partingSet_25 : decode cX4_partingSet 25 = .ok (.if_icmp .ne 25, 3) := by decide +kernel
theorem dX4_partingSet_28 : decode cX4_partingSet 28 = .ok (.iload_n 3, 1) := by decide +kernel
theorem dX4_partingSet_29 : decode cX4_partingSet 29 = .ok (.iconst (-1), 1) := by decide +kernel
theorem dX4_partingSet_30 : decode cX4_partingSet 30 = .ok (.if_icmp .eq 17, 3) := by decide +kernel
theorem dX4_partingSet_33 : decode cX4_partingSet 33 = .ok (.aload_n 0, 1) := by decide +kernel
theorem dX4_partingSet_34 : decode cX4_partingSet 34 = .ok (.iload 4, 2) := by decide +kernel
theorem dX4_partingSet_36 : decode cX4_partingSet 36 = .ok (.invokevirtual 128, 3) := by decide +kernel
theorem dX4_partingSet_39 : decode cX4_partingSet 39 = .ok (.aload_n 0, 1) := by decide +kernel
theorem dX4_partingSet_40 : decode cX4_partingSet 40 = .ok (.iload_n 3, 1) := by decide +kernel
theorem dX4_partingSet_41 : decode cX4_partingSet 41 = .ok (.invokevirtual 128, 3) := by decide +kernel
theorem dX4_partingSet_44 : decode cX4_partingSet 44 = .ok (.if_icmp .ge 6, 3) := by decide +kernel
theorem dX4_partingSet_47 : decode cX4_partingSet 47 = .ok (.iload 4, 2) := by decide +kernel
theorem dX4_partingSet_49 : decode cX4_partingSet 49 = .ok (.istore_n 3, 1) := by decide +kernel
theorem dX4_partingSet_50 : decode cX4_partingSet 50 = .ok (.iinc 4 1, 3) := by decide +kernel
theorem dX4_partingSet_53 : decode cX4_partingSet 53 = .ok (.goto (-40), 3) := by decide +kernel
theorem dX4_partingSet_56 : decode cX4_partingSet 56 = .ok (.iload_n 3, 1) := by decide +kernel
theorem dX4_partingSet_57 : decode cX4_partingSet 57 = .ok (.iconst 0, 1) := by decide +kernel
theorem dX4_partingSet_58 : decode cX4_partingSet 58 = .ok (.invokestatic 131, 3) := by decide +kernel
theorem dX4_partingSet_61 : decode cX4_partingSet 61 = .ok (.ireturn, 1) := by decide +kernel
def sX4_partingSet_L13 (F : Nat) (l0 : Nat) (l1 : Int32) (l2 : Int32) (l3 : Int32) (l4 : Int32) (h : HP) : Option ((Int32 × Int32) ⊕ Int32) :=
  if l2 < l4 then
    some (.inr l3)
  else
    (sJ6_bitCount_0f7a4 F l4 h).bind fun t4 =>
    if ¬ t4 = l1 then
      some (.inl (l3, l4 + (1 : Int32)))
    else
      if l3 = (-1 : Int32) then
        some (.inl (l4, l4 + (1 : Int32)))
      else
        (dO h 4 (some l0)).bind fun a5 =>
        (sX4_partedGaps F a5 l4 h).bind fun t6 =>
        (dO h 4 (some l0)).bind fun a7 =>
        (sX4_partedGaps F a7 l3 h).bind fun t8 =>
        if t8 ≤ t6 then
          some (.inl (l3, l4 + (1 : Int32)))
        else
          some (.inl (l4, l4 + (1 : Int32)))
def sX4_partingSet (F : Nat) (l0 : Nat) (l1 : Int32) (h : HP) : Option Int32 :=
  (gR h 4 (some l0) 0).bind fun t1 =>
  (dO h 1 t1).bind fun a2 =>
  (sX1_allFingers F a2 h).bind fun t3 =>
  (iter (fun s => sX4_partingSet_L13 F l0 l1 t3 s.1 s.2 h) F ((-1 : Int32), (0 : Int32))).bind fun l3_9 =>
    some (jmx l3_9 (0 : Int32))
abbrev rm_X4_partingSet : Room := { frames := 2, cells := 0, slots := 0, locals := 41 }
set_option maxRecDepth 100000 in
set_option maxHeartbeats 4000000 in
theorem mt_X4_partingSet {w : WD} {l : Launch} {F : Nat} {l0 : Nat} {l1 : Int32} {h : HP} {v : Int32} (hs : sX4_partingSet F l0 l1 h = some v) : MI w l yX4_partingSet cX4_partingSet 5 .int rm_X4_partingSet 0 0 [rf w (some l0), .int l1] h v h := by
  refine of_body [(0, rf w (some l0)), (1, .int l1)] (by decide) (by simp [lg_sl, rf_cat, cat_i, cat_l, cat_a]) (by simp [lv_args, rf_cat, cat_i, cat_l, cat_a]) ?_
  intro x hw_ hnL_ hl_ hc hret hnm hQ
  subst hw_; subst hl_
  have hnl : ∀ i, i < 5 → i < x.nL := fun i h => by rw [hnL_]; exact h
  have hw : wpO (sX4_partingSet F l0 l1 h) (fun r => r = v) := ⟨_, hs, rfl⟩
  unfold sX4_partingSet at hw
  refine R_aload_n (q := 0) (i := 0) (v := (some l0)) hc dX4_partingSet_0 rfl rfl ?_
  refine R_getR hc fl_4_12 dX4_partingSet_1 hw (fun t1 hw => ?_)
  refine R_cVI (As := []) (rest := []) (r := t1) (ci := 1) hc ml_4_42 mf_X1_allFingers rfl (by decide) ⟨rfl, rfl⟩ ⟨le_b rfl, le_b rfl⟩ ⟨Nat.zero_le _, Nat.zero_le _⟩ (fun a v e => mt_X1_allFingers e) rfl rfl (Nat.zero_le _) dX4_partingSet_4 hw (fun t3 hw => ?_)
  refine R_istore_n (i := 2) (v := t3) hc [(2, .int t3), (0, rf x.w (some l0)), (1, .int l1)] dX4_partingSet_7 rfl (hnl 2 (le_b rfl)) rfl ?_
  refine R_iconst (v := (-1 : Int32)) hc dX4_partingSet_8 kI_m1 ?_
  refine R_istore_n (i := 3) (v := (-1 : Int32)) hc [(3, .int (-1 : Int32)), (2, .int t3), (0, rf x.w (some l0)), (1, .int l1)] dX4_partingSet_9 rfl (hnl 3 (le_b rfl)) rfl ?_
  refine R_iconst (v := (0 : Int32)) hc dX4_partingSet_10 kI_0 ?_
  refine R_istore (i := 4) (v := (0 : Int32)) hc [(4, .int (0 : Int32)), (3, .int (-1 : Int32)), (2, .int t3), (0, rf x.w (some l0)), (1, .int l1)] dX4_partingSet_11 (hnl 4 (le_b rfl)) rfl ?_
  refine R_sub hc [3, 4, 2, 1, 0] rfl ?_
  refine R_loop (P := fun (s : (Int32 × Int32)) => Rn x 0 0 13 [(0, rf x.w (some l0)), (1, .int l1), (2, .int t3), (3, .int s.1), (4, .int s.2)] [] h) (fun l3_9 => Rn x 0 0 56 [(3, .int l3_9)] [] h) hw (fun r hw => ?_) (fun X hX s hw => ?_)
  · revert r hw
    intro l3_9 hw
    show Rn x 0 0 56 [(3, .int l3_9)] [] h
    refine R_iload_n (q := 0) (i := 3) (v := l3_9) hc dX4_partingSet_56 rfl rfl ?_
    refine R_iconst (v := (0 : Int32)) hc dX4_partingSet_57 kI_0 ?_
    refine R_jmx hc ml_4_131 (le_b rfl) (le_b rfl) ⟨Nat.zero_le _, Nat.zero_le _⟩ dX4_partingSet_58 ?_
    exact R_ireturnP hc hret rfl hQ hw dX4_partingSet_61
  · obtain ⟨l3_11, l4_12⟩ := s
    show Rn x 0 0 13 [(0, rf x.w (some l0)), (1, .int l1), (2, .int t3), (3, .int l3_11), (4, .int l4_12)] [] h
    have hw : wpO (sX4_partingSet_L13 F l0 l1 t3 l3_11 l4_12 h) _ := hw
    unfold sX4_partingSet_L13 at hw
    refine R_iload (q := 4) (i := 4) (v := l4_12) hc dX4_partingSet_13 rfl ?_
    refine R_iload_n (q := 2) (i := 2) (v := t3) hc dX4_partingSet_15 rfl rfl ?_
    refine R_icmp_gt (tgt := 56) hc dX4_partingSet_16 (by decide) hw (fun hw => ?_) (fun hw => ?_)
    · refine R_sub hc [3] rfl ?_
      exact (wpO_some hw :)
    · refine R_iload (q := 4) (i := 4) (v := l4_12) hc dX4_partingSet_19 rfl ?_
      refine R_cSI (As := [.int l4_12]) (rest := []) hc ml_4_99 mf_J6_bitCount_0f7a4 ⟨rfl, rfl⟩ ⟨le_b rfl, le_b rfl⟩ ⟨Nat.zero_le _, Nat.zero_le _⟩ (fun v e => mt_J6_bitCount_0f7a4 e) rfl rfl (Nat.zero_le _) dX4_partingSet_21 hw (fun t4 hw => ?_)
      refine R_iload_n (q := 1) (i := 1) (v := l1) hc dX4_partingSet_24 rfl rfl ?_
      refine R_icmp_ne (tgt := 50) hc dX4_partingSet_25 (by decide) hw (fun hw => ?_) (fun hw => ?_)
      · refine R_iinc (q := 4) (i := 4) (v := l4_12) hc [(4, .int (l4_12 + (1 : Int32))), (0, rf x.w (some l0)), (1, .int l1), (2, .int t3), (3, .int l3_11)] dX4_partingSet_50 rfl (kC_1 _) (hnl 4 (le_b rfl)) rfl ?_
        refine R_goto (tgt := 13) hc dX4_partingSet_53 (by decide) ?_
        refine R_sub hc [1, 2, 3, 4, 0] rfl ?_
        exact hX (l3_11, l4_12 + (1 : Int32)) (wpO_some hw :)
      · refine R_iload_n (q := 3) (i := 3) (v := l3_11) hc dX4_partingSet_28 rfl rfl ?_
        refine R_iconst (v := (-1 : Int32)) hc dX4_partingSet_29 kI_m1 ?_
        refine R_icmp_eq (tgt := 47) hc dX4_partingSet_30 (by decide) hw (fun hw => ?_) (fun hw => ?_)
        · refine R_iload (q := 4) (i := 4) (v := l4_12) hc dX4_partingSet_47 rfl ?_
          refine R_istore_n (i := 3) (v := l4_12) hc [(3, .int l4_12), (0, rf x.w (some l0)), (1, .int l1), (2, .int t3), (4, .int l4_12)] dX4_partingSet_49 rfl (hnl 3 (le_b rfl)) rfl ?_
          refine R_iinc (q := 4) (i := 4) (v := l4_12) hc [(4, .int (l4_12 + (1 : Int32))), (3, .int l4_12), (0, rf x.w (some l0)), (1, .int l1), (2, .int t3)] dX4_partingSet_50 rfl (kC_1 _) (hnl 4 (le_b rfl)) rfl ?_
          refine R_goto (tgt := 13) hc dX4_partingSet_53 (by decide) ?_
          refine R_sub hc [2, 3, 4, 1, 0] rfl ?_
          exact hX (l4_12, l4_12 + (1 : Int32)) (wpO_some hw :)
        · refine R_aload_n (q := 0) (i := 0) (v := (some l0)) hc dX4_partingSet_33 rfl rfl ?_
          refine R_iload (q := 4) (i := 4) (v := l4_12) hc dX4_partingSet_34 rfl ?_
          refine R_cVI (As := [.int l4_12]) (rest := []) (r := (some l0)) (ci := 4) hc ml_4_128 mf_X4_partedGaps rfl (by decide) ⟨rfl, rfl⟩ ⟨le_b rfl, le_b rfl⟩ ⟨Nat.zero_le _, Nat.zero_le _⟩ (fun a v e => mt_X4_partedGaps e) rfl rfl (Nat.zero_le _) dX4_partingSet_36 hw (fun t6 hw => ?_)
          refine R_aload_n (q := 0) (i := 0) (v := (some l0)) hc dX4_partingSet_39 rfl rfl ?_
          refine R_iload_n (q := 3) (i := 3) (v := l3_11) hc dX4_partingSet_40 rfl rfl ?_
          refine R_cVI (As := [.int l3_11]) (rest := [.int t6]) (r := (some l0)) (ci := 4) hc ml_4_128 mf_X4_partedGaps rfl (by decide) ⟨rfl, rfl⟩ ⟨le_b rfl, le_b rfl⟩ ⟨Nat.zero_le _, Nat.zero_le _⟩ (fun a v e => mt_X4_partedGaps e) rfl rfl (le_b rfl) dX4_partingSet_41 hw (fun t8 hw => ?_)
          refine R_icmp_ge (tgt := 50) hc dX4_partingSet_44 (by decide) hw (fun hw => ?_) (fun hw => ?_)
          · refine R_iinc (q := 4) (i := 4) (v := l4_12) hc [(4, .int (l4_12 + (1 : Int32))), (0, rf x.w (some l0)), (1, .int l1), (2, .int t3), (3, .int l3_11)] dX4_partingSet_50 rfl (kC_1 _) (hnl 4 (le_b rfl)) rfl ?_
            refine R_goto (tgt := 13) hc dX4_partingSet_53 (by decide) ?_
            refine R_sub hc [1, 2, 3, 4, 0] rfl ?_
            exact hX (l3_11, l4_12 + (1 : Int32)) (wpO_some hw :)
          · refine R_iload (q := 4) (i := 4) (v := l4_12) hc dX4_partingSet_47 rfl ?_
            refine R_istore_n (i := 3) (v := l4_12) hc [(3, .int l4_12), (0, rf x.w (some l0)), (1, .int l1), (2, .int t3), (4, .int l4_12)] dX4_partingSet_49 rfl (hnl 3 (le_b rfl)) rfl ?_
            refine R_iinc (q := 4) (i := 4) (v := l4_12) hc [(4, .int (l4_12 + (1 : Int32))), (3, .int l4_12), (0, rf x.w (some l0)), (1, .int l1), (2, .int t3)] dX4_partingSet_50 rfl (kC_1 _) (hnl 4 (le_b rfl)) rfl ?_
            refine R_goto (tgt := 13) hc dX4_partingSet_53 (by decide) ?_
            refine R_sub hc [2, 3, 4, 1, 0] rfl ?_
            exact hX (l4_12, l4_12 + (1 : Int32)) (wpO_some hw :)
theorem dX4_dearestFinger_0 : decode cX4_dearestFinger 0 = .ok (.aload_n 0, 1) := by decide +kernel
theorem dX4_dearestFinger_1 : decode cX4_dearestFinger 1 = .ok (.getfield 12, 3) := by decide +kernel
theorem dX4_dearestFinger_4 : decode cX4_dearestFinger 4 = .ok (.invokevirtual 42, 3) := by decide +kernel
theorem dX4_dearestFinger_7 : decode cX4_dearestFinger 7 = .ok (.istore_n 1, 1) := by decide +kernel
theorem dX4_dearestFinger_8 : decode cX4_dearestFinger 8 = .ok (.iconst (-1), 1) := by decide +kernel
theorem dX4_dearestFinger_9 : decode cX4_dearestFinger 9 = .ok (.istore_n 2, 1) := by decide +kernel
theorem dX4_dearestFinger_10 : decode cX4_dearestFinger 10 = .ok (.sipush 1000, 3) := by decide +kernel
theorem dX4_dearestFinger_13 : decode cX4_dearestFinger 13 = .ok (.istore_n 3, 1) := by decide +kernel
theorem dX4_dearestFinger_14 : decode cX4_dearestFinger 14 = .ok (.iconst 0, 1) := by decide +kernel
theorem dX4_dearestFinger_15 : decode cX4_dearestFinger 15 = .ok (.istore 4, 2) := by decide +kernel
theorem dX4_dearestFinger_17 : decode cX4_dearestFinger 17 = .ok (.iload 4, 2) := by decide +kernel
theorem dX4_dearestFinger_19 : decode cX4_dearestFinger 19 = .ok (.aload_n 0, 1) := by decide +kernel
theorem dX4_dearestFinger_20 : decode cX4_dearestFinger 20 = .ok (.getfield 12, 3) := by decide +kernel
theorem dX4_dearestFinger_23 : decode cX4_dearestFinger 23 = .ok (.getfield 57, 3) := by decide +kernel
theorem dX4_dearestFinger_26 : decode cX4_dearestFinger 26 = .ok (.if_icmp .ge 45, 3) := by decide +kernel
theorem dX4_dearestFinger_29 : decode cX4_dearestFinger 29 = .ok (.aload_n 0, 1) := by decide +kernel
theorem dX4_dearestFinger_30 : decode cX4_dearestFinger 30 = .ok (.getfield 21, 3) := by decide +kernel
theorem dX4_dearestFinger_33 : decode cX4_dearestFinger 33 = .ok (.getfield 125, 3) := by decide +kernel
theorem dX4_dearestFinger_36 : decode cX4_dearestFinger 36 = .ok (.iload_n 1, 1) := by decide +kernel
theorem dX4_dearestFinger_37 : decode cX4_dearestFinger 37 = .ok (.iload 4, 2) := by decide +kernel
theorem dX4_dearestFinger_39 : decode cX4_dearestFinger 39 = .ok (.invokestatic 82, 3) := by decide +kernel
theorem dX4_dearestFinger_42 : decode cX4_dearestFinger 42 = .ok (.iaload, 1) := by decide +kernel
theorem dX4_dearestFinger_43 : decode cX4_dearestFinger 43 = .ok (.iload_n 3, 1) := by decide +kernel
theorem dX4_dearestFinger_44 : decode cX4_dearestFinger 44 = .ok (.if_icmp .ge 21, 3) := by decide +kernel
theorem dX4_dearestFinger_47 : decode cX4_dearestFinger 47 = .ok (.iload 4, 2) := by decide +kernel
theorem dX4_dearestFinger_49 : decode cX4_dearestFinger 49 = .ok (.istore_n 2, 1) := by decide +kernel
theorem dX4_dearestFinger_50 : decode cX4_dearestFinger 50 = .ok (.aload_n 0, 1) := by decide +kernel
theorem dX4_dearestFinger_51 : decode cX4_dearestFinger 51 = .ok (.getfield 21, 3) := by decide +kernel
theorem dX4_dearestFinger_54 : decode cX4_dearestFinger 54 = .ok (.getfield 125, 3) := by decide +kernel
theorem dX4_dearestFinger_57 : decode cX4_dearestFinger 57 = .ok (.iload_n 1, 1) := by decide +kernel
theorem dX4_dearestFinger_58 : decode cX4_dearestFinger 58 = .ok (.iload 4, 2) := by decide +kernel
theorem dX4_dearestFinger_60 : decode cX4_dearestFinger 60 = .ok (.invokestatic 82, 3) := by decide +kernel
theorem dX4_dearestFinger_63 : decode cX4_dearestFinger 63 = .ok (.iaload, 1) := by decide +kernel
theorem dX4_dearestFinger_64 : decode cX4_dearestFinger 64 = .ok (.istore_n 3, 1) := by decide +kernel
theorem dX4_dearestFinger_65 : decode cX4_dearestFinger 65 = .ok (.iinc 4 1, 3) := by decide +kernel
theorem dX4_dearestFinger_68 : decode cX4_dearestFinger 68 = .ok (.goto (-51), 3) := by decide +kernel
theorem dX4_dearestFinger_71 : decode cX4_dearestFinger 71 = .ok (.iload_n 2, 1) := by decide +kernel
theorem dX4_dearestFinger_72 : decode cX4_dearestFinger 72 = .ok (.ireturn, 1) := by decide +kernel
def sX4_dearestFinger_L17 (F : Nat) (l0 : Nat) (l1 : Int32) (l2 : Int32) (l3 : Int32) (l4 : Int32) (h : HP) : Option ((Int32 × Int32 × Int32) ⊕ Int32) :=
  (gR h 4 (some l0) 0).bind fun t4 =>
  (gI h 1 t4 5).bind fun t5 =>
  if t5 ≤ l4 then
    some (.inr l2)
  else
    (gR h 4 (some l0) 1).bind fun t6 =>
    (gR h 3 t6 0).bind fun t7 =>
    (sX10_without F l1 l4 h).bind fun t8 =>
    (aI h 13 t7 t8).bind fun t9 =>
    if l3 ≤ t9 then
      some (.inl (l2, l3, l4 + (1 : Int32)))
    else
      (gR h 4 (some l0) 1).bind fun t10 =>
      (gR h 3 t10 0).bind fun t11 =>
      (sX10_without F l1 l4 h).bind fun t12 =>
      (aI h 13 t11 t12).bind fun t13 =>
      some (.inl (l4, t13, l4 + (1 : Int32)))
def sX4_dearestFinger (F : Nat) (l0 : Nat) (h : HP) : Option Int32 :=
  (gR h 4 (some l0) 0).bind fun t1 =>
  (dO h 1 t1).bind fun a2 =>
  (sX1_allFingers F a2 h).bind fun t3 =>
  (iter (fun s => sX4_dearestFinger_L17 F l0 t3 s.1 s.2.1 s.2.2 h) F ((-1 : Int32), (1000 : Int32), (0 : Int32))).bind fun l2_14 =>
    some l2_14
abbrev rm_X4_dearestFinger : Room := { frames := 1, cells := 0, slots := 0, locals := 21 }
set_option maxRecDepth 100000 in
set_option maxHeartbeats 4000000 in
theorem mt_X4_dearestFinger {w : WD} {l : Launch} {F : Nat} {l0 : Nat} {h : HP} {v : Int32} (hs : sX4_dearestFinger F l0 h = some v) : MI w l yX4_dearestFinger cX4_dearestFinger 5 .int rm_X4_dearestFinger 0 0 [rf w (some l0)] h v h := by
  refine of_body [(0, rf w (some l0))] (by decide) (by simp [lg_sl, rf_cat, cat_i, cat_l, cat_a]) (by simp [lv_args, rf_cat, cat_i, cat_l, cat_a]) ?_
  intro x hw_ hnL_ hl_ hc hret hnm hQ
  subst hw_; subst hl_
  have hnl : ∀ i, i < 5 → i < x.nL := fun i h => by rw [hnL_]; exact h
  have hw : wpO (sX4_dearestFinger F l0 h) (fun r => r = v) := ⟨_, hs, rfl⟩
  unfold sX4_dearestFinger at hw
  refine R_aload_n (q := 0) (i := 0) (v := (some l0)) hc dX4_dearestFinger_0 rfl rfl ?_
  refine R_getR hc fl_4_12 dX4_dearestFinger_1 hw (fun t1 hw => ?_)
  refine R_cVI (As := []) (rest := []) (r := t1) (ci := 1) hc ml_4_42 mf_X1_allFingers rfl (by decide) ⟨rfl, rfl⟩ ⟨le_b rfl, le_b rfl⟩ ⟨Nat.zero_le _, Nat.zero_le _⟩ (fun a v e => mt_X1_allFingers e) rfl rfl (Nat.zero_le _) dX4_dearestFinger_4 hw (fun t3 hw => ?_)
  refine R_istore_n (i := 1) (v := t3) hc [(1, .int t3), (0, rf x.w (some l0))] dX4_dearestFinger_7 rfl (hnl 1 (le_b rfl)) rfl ?_
  refine R_iconst (v := (-1 : Int32)) hc dX4_dearestFinger_8 kI_m1 ?_
  refine R_istore_n (i := 2) (v := (-1 : Int32)) hc [(2, .int (-1 : Int32)), (1, .int t3), (0, rf x.w (some l0))] dX4_dearestFinger_9 rfl (hnl 2 (le_b rfl)) rfl ?_
  refine R_sipush (v := (1000 : Int32)) hc dX4_dearestFinger_10 kS_1000 ?_
  refine R_istore_n (i := 3) (v := (1000 : Int32)) hc [(3, .int (1000 : Int32)), (2, .int (-1 : Int32)), (1, .int t3), (0, rf x.w (some l0))] dX4_dearestFinger_13 rfl (hnl 3 (le_b rfl)) rfl ?_
  refine R_iconst (v := (0 : Int32)) hc dX4_dearestFinger_14 kI_0 ?_
  refine R_istore (i := 4) (v := (0 : Int32)) hc [(4, .int (0 : Int32)), (3, .int (1000 : Int32)), (2, .int (-1 : Int32)), (1, .int t3), (0, rf x.w (some l0))] dX4_dearestFinger_15 (hnl 4 (le_b rfl)) rfl ?_
  refine R_sub hc [4, 3, 2, 1, 0] rfl ?_
  refine R_loop (P := fun (s : (Int32 × Int32 × Int32)) => Rn x 0 0 17 [(0, rf x.w (some l0)), (1, .int t3), (2, .int s.1), (3, .int s.2.1), (4, .int s.2.2)] [] h) (fun l2_14 => Rn x 0 0 71 [(2, .int l2_14)] [] h) hw (fun r hw => ?_) (fun X hX s hw => ?_)
  · revert r hw
    intro l2_14 hw
    show Rn x 0 0 71 [(2, .int l2_14)] [] h
    refine R_iload_n (q := 0) (i := 2) (v := l2_14) hc dX4_dearestFinger_71 rfl rfl ?_
    exact R_ireturnP hc hret rfl hQ hw dX4_dearestFinger_72
  · obtain ⟨l2_16, l3_17, l4_18⟩ := s
    show Rn x 0 0 17 [(0, rf x.w (some l0)), (1, .int t3), (2, .int l2_16), (3, .int l3_17), (4, .int l4_18)] [] h
    have hw : wpO (sX4_dearestFinger_L17 F l0 t3 l2_16 l3_17 l4_18 h) _ := hw
    unfold sX4_dearestFinger_L17 at hw
    refine R_iload (q := 4) (i := 4) (v := l4_18) hc dX4_dearestFinger_17 rfl ?_
    refine R_aload_n (q := 0) (i := 0) (v := (some l0)) hc dX4_dearestFinger_19 rfl rfl ?_
    refine R_getR hc fl_4_12 dX4_dearestFinger_20 hw (fun t4 hw => ?_)
    refine R_getI hc fl_4_57 dX4_dearestFinger_23 hw (fun t5 hw => ?_)
    refine R_icmp_ge (tgt := 71) hc dX4_dearestFinger_26 (by decide) hw (fun hw => ?_) (fun hw => ?_)
    · refine R_sub hc [2] rfl ?_
      exact (wpO_some hw :)
    · refine R_aload_n (q := 0) (i := 0) (v := (some l0)) hc dX4_dearestFinger_29 rfl rfl ?_
      refine R_getR hc fl_4_21 dX4_dearestFinger_30 hw (fun t6 hw => ?_)
      refine R_getR hc fl_4_125 dX4_dearestFinger_33 hw (fun t7 hw => ?_)
      refine R_iload_n (q := 1) (i := 1) (v := t3) hc dX4_dearestFinger_36 rfl rfl ?_
      refine R_iload (q := 4) (i := 4) (v := l4_18) hc dX4_dearestFinger_37 rfl ?_
      refine R_cNI (As := [.int t3, .int l4_18]) (rest := [rf x.w t7]) hc mn_4_82 mf_X10_without ⟨rfl, rfl⟩ ⟨le_b rfl, le_b rfl⟩ ⟨Nat.zero_le _, Nat.zero_le _⟩ (fun v e => mt_X10_without e) rfl rfl (by simp [rf_cat, cat_i, cat_l, cat_a]) dX4_dearestFinger_39 hw (fun t8 hw => ?_)
      refine R_iaload hc dX4_dearestFinger_42 hw (fun t9 hw => ?_)
      refine R_iload_n (q := 3) (i := 3) (v := l3_17) hc dX4_dearestFinger_43 rfl rfl ?_
      refine R_icmp_ge (tgt := 65) hc dX4_dearestFinger_44 (by decide) hw (fun hw => ?_) (fun hw => ?_)
      · refine R_iinc (q := 4) (i := 4) (v := l4_18) hc [(4, .int (l4_18 + (1 : Int32))), (0, rf x.w (some l0)), (1, .int t3), (2, .int l2_16), (3, .int l3_17)] dX4_dearestFinger_65 rfl (kC_1 _) (hnl 4 (le_b rfl)) rfl ?_
        refine R_goto (tgt := 17) hc dX4_dearestFinger_68 (by decide) ?_
        refine R_sub hc [1, 2, 3, 4, 0] rfl ?_
        exact hX (l2_16, l3_17, l4_18 + (1 : Int32)) (wpO_some hw :)
      · refine R_iload (q := 4) (i := 4) (v := l4_18) hc dX4_dearestFinger_47 rfl ?_
        refine R_istore_n (i := 2) (v := l4_18) hc [(2, .int l4_18), (0, rf x.w (some l0)), (1, .int t3), (3, .int l3_17), (4, .int l4_18)] dX4_dearestFinger_49 rfl (hnl 2 (le_b rfl)) rfl ?_
        refine R_aload_n (q := 1) (i := 0) (v := (some l0)) hc dX4_dearestFinger_50 rfl rfl ?_
        refine R_getR hc fl_4_21 dX4_dearestFinger_51 hw (fun t10 hw => ?_)
        refine R_getR hc fl_4_125 dX4_dearestFinger_54 hw (fun t11 hw => ?_)
        refine R_iload_n (q := 2) (i := 1) (v := t3) hc dX4_dearestFinger_57 rfl rfl ?_
        refine R_iload (q := 4) (i := 4) (v := l4_18) hc dX4_dearestFinger_58 rfl ?_
        refine R_cNI (As := [.int t3, .int l4_18]) (rest := [rf x.w t11]) hc mn_4_82 mf_X10_without ⟨rfl, rfl⟩ ⟨le_b rfl, le_b rfl⟩ ⟨Nat.zero_le _, Nat.zero_le _⟩ (fun v e => mt_X10_without e) rfl rfl (by simp [rf_cat, cat_i, cat_l, cat_a]) dX4_dearestFinger_60 hw (fun t12 hw => ?_)
        refine R_iaload hc dX4_dearestFinger_63 hw (fun t13 hw => ?_)
        refine R_istore_n (i := 3) (v := t13) hc [(3, .int t13), (2, .int l4_18), (0, rf x.w (some l0)), (1, .int t3), (4, .int l4_18)] dX4_dearestFinger_64 rfl (hnl 3 (le_b rfl)) rfl ?_
        refine R_iinc (q := 4) (i := 4) (v := l4_18) hc [(4, .int (l4_18 + (1 : Int32))), (3, .int t13), (2, .int l4_18), (0, rf x.w (some l0)), (1, .int t3)] dX4_dearestFinger_65 rfl (kC_1 _) (hnl 4 (le_b rfl)) rfl ?_
        refine R_goto (tgt := 17) hc dX4_dearestFinger_68 (by decide) ?_
        refine R_sub hc [3, 4, 2, 1, 0] rfl ?_
        exact hX (l4_18, t13, l4_18 + (1 : Int32)) (wpO_some hw :)
theorem dX10_dearest_0 : decode cX10_dearest 0 = .ok (.aload_n 0, 1) := by decide +kernel
theorem dX10_dearest_1 : decode cX10_dearest 1 = .ok (.getfield 75, 3) := by decide +kernel
theorem dX10_dearest_4 : decode cX10_dearest 4 = .ok (.invokevirtual 337, 3) := by decide +kernel
theorem dX10_dearest_7 : decode cX10_dearest 7 = .ok (.ireturn, 1) := by decide +kernel
def sX10_dearest (F : Nat) (l0 : Nat) (h : HP) : Option Int32 :=
  (gR h 10 (some l0) 12).bind fun t1 =>
  (dO h 4 t1).bind fun a2 =>
  (sX4_dearestFinger F a2 h).bind fun t3 =>
  some t3
abbrev rm_X10_dearest : Room := { frames := 2, cells := 0, slots := 0, locals := 45 }
set_option maxRecDepth 100000 in
set_option maxHeartbeats 4000000 in
theorem mt_X10_dearest {w : WD} {l : Launch} {F : Nat} {l0 : Nat} {h : HP} {v : Int32} (hs : sX10_dearest F l0 h = some v) : MI w l yX10_dearest cX10_dearest 1 .int rm_X10_dearest 0 0 [rf w (some l0)] h v h := by
  refine of_body [(0, rf w (some l0))] (by decide) (by simp [lg_sl, rf_cat, cat_i, cat_l, cat_a]) (by simp [lv_args, rf_cat, cat_i, cat_l, cat_a]) ?_
  intro x hw_ hnL_ hl_ hc hret hnm hQ
  subst hw_; subst hl_
  have hnl : ∀ i, i < 1 → i < x.nL := fun i h => by rw [hnL_]; exact h
  have hw : wpO (sX10_dearest F l0 h) (fun r => r = v) := ⟨_, hs, rfl⟩
  unfold sX10_dearest at hw
  refine R_aload_n (q := 0) (i := 0) (v := (some l0)) hc dX10_dearest_0 rfl rfl ?_
  refine R_getR hc fl_10_75 dX10_dearest_1 hw (fun t1 hw => ?_)
  refine R_cVI (As := []) (rest := []) (r := t1) (ci := 4) hc ml_10_337 mf_X4_dearestFinger rfl (by decide) ⟨rfl, rfl⟩ ⟨le_b rfl, le_b rfl⟩ ⟨Nat.zero_le _, Nat.zero_le _⟩ (fun a v e => mt_X4_dearestFinger e) rfl rfl (Nat.zero_le _) dX10_dearest_4 hw (fun t3 hw => ?_)
  exact R_ireturnP hc hret rfl hQ hw dX10_dearest_7
theorem dX1_areTied_0 : decode cX1_areTied 0 = .ok (.iconst 0, 1) := by decide +kernel
theorem dX1_areTied_1 : decode cX1_areTied 1 = .ok (.istore_n 3, 1) := by decide +kernel
theorem dX1_areTied_2 : decode cX1_areTied 2 = .ok (.iload_n 3, 1) := by decide +kernel
theorem dX1_areTied_3 : decode cX1_areTied 3 = .ok (.iconst 4, 1) := by decide +kernel
theorem dX1_areTied_4 : decode cX1_areTied 4 = .ok (.if_icmp .ge 30, 3) := by decide +kernel
theorem dX1_areTied_7 : decode cX1_areTied 7 = .ok (.aload_n 0, 1) := by decide +kernel
theorem dX1_areTied_8 : decode cX1_areTied 8 = .ok (.iload_n 1, 1) := by decide +kernel
theorem dX1_areTied_9 : decode cX1_areTied 9 = .ok (.iconst 4, 1) := by decide +kernel
theorem dX1_areTied_10 : decode cX1_areTied 10 = .ok (.imul, 1) := by decide +kernel
theorem dX1_areTied_11 : decode cX1_areTied 11 = .ok (.iload_n 3, 1) := by decide +kernel
theorem dX1_areTied_12 : decode cX1_areTied 12 = .ok (.iadd, 1) := by decide +kernel
theorem dX1_areTied_13 : decode cX1_areTied 13 = .ok (.invokevirtual 57, 3) := by decide +kernel
theorem dX1_areTied_16 : decode cX1_areTied 16 = .ok (.iload_n 2, 1) := by decide +kernel
theorem dX1_areTied_17 : decode cX1_areTied 17 = .ok (.iconst 4, 1) := by decide +kernel
theorem dX1_areTied_18 : decode cX1_areTied 18 = .ok (.imul, 1) := by decide +kernel
theorem dX1_areTied_19 : decode cX1_areTied 19 = .ok (.iushr, 1) := by decide +kernel
theorem dX1_areTied_20 : decode cX1_areTied 20 = .ok (.bipush 15, 2) := by decide +kernel
theorem dX1_areTied_22 : decode cX1_areTied 22 = .ok (.iand, 1) := by decide +kernel
theorem dX1_areTied_23 : decode cX1_areTied 23 = .ok (.ifCond .eq 5, 3) := by decide +kernel
theorem dX1_areTied_26 : decode cX1_areTied 26 = .ok (.iconst 1, 1) := by decide +kernel
theorem dX1_areTied_27 : decode cX1_areTied 27 = .ok (.ireturn, 1) := by decide +kernel
theorem dX1_areTied_28 : decode cX1_areTied 28 = .ok (.iinc 3 1, 3) := by decide +kernel
theorem dX1_areTied_31 : decode cX1_areTied 31 = .ok (.goto (-29), 3) := by decide +kernel
theorem dX1_areTied_34 : decode cX1_areTied 34 = .ok (.iconst 0, 1) := by decide +kernel
theorem dX1_areTied_35 : decode cX1_areTied 35 = .ok (.ireturn, 1) := by decide +kernel
def sX1_areTied_L2 (F : Nat) (l0 : Nat) (l1 : Int32) (l2 : Int32) (l3 : Int32) (h : HP) : Option (Int32 ⊕ (Unit ⊕ Int32)) :=
  if (4 : Int32) ≤ l3 then
    some (.inr (.inl ()))
  else
    (dO h 1 (some l0)).bind fun a1 =>
    (sX1_joining F a1 ((l1 * (4 : Int32)) + l3) h).bind fun t2 =>
    if ((jush t2 (l2 * (4 : Int32))) &&& (15 : Int32)) = 0 then
      some (.inl (l3 + (1 : Int32)))
    else
      some (.inr (.inr (1 : Int32)))
def sX1_areTied (F : Nat) (l0 : Nat) (l1 : Int32) (l2 : Int32) (h : HP) : Option Int32 :=
  (iter (fun s => sX1_areTied_L2 F l0 l1 l2 s h) F (0 : Int32)).bind fun r => match r with
  | .inl _ =>
    some (0 : Int32)
  | .inr u3 => some u3
abbrev rm_X1_areTied : Room := { frames := 1, cells := 0, slots := 0, locals := 21 }
set_option maxRecDepth 100000 in
set_option maxHeartbeats 4000000 in
theorem mt_X1_areTied {w : WD} {l : Launch} {F : Nat} {l0 : Nat} {l1 : Int32} {l2 : Int32} {h : HP} {v : Int32} (hs : sX1_areTied F l0 l1 l2 h = some v) : MI w l yX1_areTied cX1_areTied 4 .boolean rm_X1_areTied 0 0 [rf w (some l0), .int l1, .int l2] h v h := by
  refine of_body [(0, rf w (some l0)), (1, .int l1), (2, .int l2)] (by decide) (by simp [lg_sl, rf_cat, cat_i, cat_l, cat_a]) (by simp [lv_args, rf_cat, cat_i, cat_l, cat_a]) ?_
  intro x hw_ hnL_ hl_ hc hret hnm hQ
  subst hw_; subst hl_
  have hnl : ∀ i, i < 4 → i < x.nL := fun i h => by rw [hnL_]; exact h
  have hw : wpO (sX1_areTied F l0 l1 l2 h) (fun r => r = v) := ⟨_, hs, rfl⟩
  unfold sX1_areTied at hw
  refine R_iconst (v := (0 : Int32)) hc dX1_areTied_0 kI_0 ?_
  refine R_istore_n (i := 3) (v := (0 : Int32)) hc [(3, .int (0 : Int32)), (0, rf x.w (some l0)), (1, .int l1), (2, .int l2)] dX1_areTied_1 rfl (hnl 3 (le_b rfl)) rfl ?_
  refine R_sub hc [1, 2, 3, 0] rfl ?_
  refine R_loop (P := fun (s : Int32) => Rn x 0 0 2 [(0, rf x.w (some l0)), (1, .int l1), (2, .int l2), (3, .int s)] [] h) (fun r => match r with | .inl _ => Rn x 0 0 34 [] [] h | .inr u => u = v) hw (fun r hw => ?_) (fun X hX s hw => ?_)
  · cases r with
    | inl r =>
      revert hw
      intro hw
      show Rn x 0 0 34 [] [] h
      have hw : wpO (_) _ := hw
      refine R_iconst (v := (0 : Int32)) hc dX1_areTied_34 kI_0 ?_
      exact R_ireturnP hc hret rfl hQ hw dX1_areTied_35
    | inr u => exact (wpO_some hw :)
  · revert s hw
    intro l3_4 hw
    show Rn x 0 0 2 [(0, rf x.w (some l0)), (1, .int l1), (2, .int l2), (3, .int l3_4)] [] h
    have hw : wpO (sX1_areTied_L2 F l0 l1 l2 l3_4 h) _ := hw
    unfold sX1_areTied_L2 at hw
    refine R_iload_n (q := 3) (i := 3) (v := l3_4) hc dX1_areTied_2 rfl rfl ?_
    refine R_iconst (v := (4 : Int32)) hc dX1_areTied_3 kI_4 ?_
    refine R_icmp_ge (tgt := 34) hc dX1_areTied_4 (by decide) hw (fun hw => ?_) (fun hw => ?_)
    · refine R_sub hc [] rfl ?_
      exact (wpO_some hw :)
    · refine R_aload_n (q := 0) (i := 0) (v := (some l0)) hc dX1_areTied_7 rfl rfl ?_
      refine R_iload_n (q := 1) (i := 1) (v := l1) hc dX1_areTied_8 rfl rfl ?_
      refine R_iconst (v := (4 : Int32)) hc dX1_areTied_9 kI_4 ?_
      refine R_imul hc dX1_areTied_10 ?_
      refine R_iload_n (q := 3) (i := 3) (v := l3_4) hc dX1_areTied_11 rfl rfl ?_
      refine R_iadd hc dX1_areTied_12 ?_
      refine R_cVI (As := [.int ((l1 * (4 : Int32)) + l3_4)]) (rest := []) (r := (some l0)) (ci := 1) hc ml_1_57 mf_X1_joining rfl (by decide) ⟨rfl, rfl⟩ ⟨le_b rfl, le_b rfl⟩ ⟨Nat.zero_le _, Nat.zero_le _⟩ (fun a v e => mt_X1_joining e) rfl rfl (Nat.zero_le _) dX1_areTied_13 hw (fun t2 hw => ?_)
      refine R_iload_n (q := 2) (i := 2) (v := l2) hc dX1_areTied_16 rfl rfl ?_
      refine R_iconst (v := (4 : Int32)) hc dX1_areTied_17 kI_4 ?_
      refine R_imul hc dX1_areTied_18 ?_
      refine R_iushr hc dX1_areTied_19 ?_
      refine R_bipush (v := (15 : Int32)) hc dX1_areTied_20 kB_15 ?_
      refine R_iand hc dX1_areTied_22 ?_
      refine R_if_eq (tgt := 28) hc dX1_areTied_23 (by decide) hw (fun hw => ?_) (fun hw => ?_)
      · refine R_iinc (q := 3) (i := 3) (v := l3_4) hc [(3, .int (l3_4 + (1 : Int32))), (0, rf x.w (some l0)), (1, .int l1), (2, .int l2)] dX1_areTied_28 rfl (kC_1 _) (hnl 3 (le_b rfl)) rfl ?_
        refine R_goto (tgt := 2) hc dX1_areTied_31 (by decide) ?_
        refine R_sub hc [1, 2, 3, 0] rfl ?_
        exact hX (l3_4 + (1 : Int32)) (wpO_some hw :)
      · refine R_iconst (v := (1 : Int32)) hc dX1_areTied_26 kI_1 ?_
        exact R_ireturnP hc hret rfl hQ ⟨_, rfl, (wpO_some hw :)⟩ dX1_areTied_27
theorem dX1_tiedPairs_0 : decode cX1_tiedPairs 0 = .ok (.iconst 0, 1) := by decide +kernel
theorem dX1_tiedPairs_1 : decode cX1_tiedPairs 1 = .ok (.istore_n 1, 1) := by decide +kernel
theorem dX1_tiedPairs_2 : decode cX1_tiedPairs 2 = .ok (.iconst 0, 1) := by decide +kernel
theorem dX1_tiedPairs_3 : decode cX1_tiedPairs 3 = .ok (.istore_n 2, 1) := by decide +kernel
theorem dX1_tiedPairs_4 : decode cX1_tiedPairs 4 = .ok (.iload_n 2, 1) := by decide +kernel
theorem dX1_tiedPairs_5 : decode cX1_tiedPairs 5 = .ok (.aload_n 0, 1) := by decide +kernel
theorem dX1_tiedPairs_6 : decode cX1_tiedPairs 6 = .ok (.getfield 43, 3) := by decide +kernel
theorem dX1_tiedPairs_9 : decode cX1_tiedPairs 9 = .ok (.if_icmp .ge 42, 3) := by decide +kernel
theorem dX1_tiedPairs_12 : decode cX1_tiedPairs 12 = .ok (.iconst 0, 1) := by decide +kernel
theorem dX1_tiedPairs_13 : decode cX1_tiedPairs 13 = .ok (.istore_n 3, 1) := by decide +kernel
theorem dX1_tiedPairs_14 : decode cX1_tiedPairs 14 = .ok (.iload_n 3, 1) := by decide +kernel
theorem dX1_tiedPairs_15 : decode cX1_tiedPairs 15 = .ok (.aload_n 0, 1) := by decide +kernel
theorem dX1_tiedPairs_16 : decode cX1_tiedPairs 16 = .ok (.getfield 43, 3) := by decide +kernel
theorem dX1_tiedPairs_19 : decode cX1_tiedPairs 19 = .ok (.if_icmp .ge 26, 3) := by decide +kernel
theorem dX1_tiedPairs_22 : decode cX1_tiedPairs 22 = .ok (.iload_n 2, 1) := by decide +kernel
theorem dX1_tiedPairs_23 : decode cX1_tiedPairs 23 = .ok (.iload_n 3, 1) := by decide +kernel
theorem dX1_tiedPairs_24 : decode cX1_tiedPairs 24 = .ok (.if_icmp .eq 15, 3) := by decide +kernel
theorem dX1_tiedPairs_27 : decode cX1_tiedPairs 27 = .ok (.aload_n 0, 1) := by decide +kernel
theorem dX1_tiedPairs_28 : decode cX1_tiedPairs 28 = .ok (.iload_n 2, 1) := by decide +kernel
theorem dX1_tiedPairs_29 : decode cX1_tiedPairs 29 = .ok (.iload_n 3, 1) := by decide +kernel
theorem dX1_tiedPairs_30 : decode cX1_tiedPairs 30 = .ok (.invokevirtual 61, 3) := by decide +kernel
theorem dX1_tiedPairs_33 : decode cX1_tiedPairs 33 = .ok (.ifCond .eq 6, 3) := by decide +kernel
theorem dX1_tiedPairs_36 : decode cX1_tiedPairs 36 = .ok (.iinc 1 1, 3) := by decide +kernel
theorem dX1_tiedPairs_39 : decode cX1_tiedPairs 39 = .ok (.iinc 3 1, 3) := by decide +kernel
theorem dX1_tiedPairs_42 : decode cX1_tiedPairs 42 = .ok (.goto (-28), 3) := by decide +kernel
theorem dX1_tiedPairs_45 : decode cX1_tiedPairs 45 = .ok (.iinc 2 1, 3) := by decide +kernel
theorem dX1_tiedPairs_48 : decode cX1_tiedPairs 48 = .ok (.goto (-44), 3) := by decide +kernel
theorem dX1_tiedPairs_51 : decode cX1_tiedPairs 51 = .ok (.iload_n 1, 1) := by decide +kernel
theorem dX1_tiedPairs_52 : decode cX1_tiedPairs 52 = .ok (.ireturn, 1) := by decide +kernel
def sX1_tiedPairs_L14 (F : Nat) (l0 : Nat) (l2 : Int32) (l1 : Int32) (l3 : Int32) (h : HP) : Option ((Int32 × Int32) ⊕ Int32) :=
  (gI h 1 (some l0) 5).bind fun t2 =>
  if t2 ≤ l3 then
    some (.inr l1)
  else
    if l2 = l3 then
      some (.inl (l1, l3 + (1 : Int32)))
    else
      (dO h 1 (some l0)).bind fun a3 =>
      (sX1_areTied F a3 l2 l3 h).bind fun t4 =>
      if t4 = 0 then
        some (.inl (l1, l3 + (1 : Int32)))
      else
        some (.inl (l1 + (1 : Int32), l3 + (1 : Int32)))
def sX1_tiedPairs_L4 (F : Nat) (l0 : Nat) (l1 : Int32) (l2 : Int32) (h : HP) : Option ((Int32 × Int32) ⊕ Int32) :=
  (gI h 1 (some l0) 5).bind fun t1 =>
  if t1 ≤ l2 then
    some (.inr l1)
  else
    (iter (fun s => sX1_tiedPairs_L14 F l0 l2 s.1 s.2 h) F (l1, (0 : Int32))).bind fun l1_5 =>
      some (.inl (l1_5, l2 + (1 : Int32)))
def sX1_tiedPairs (F : Nat) (l0 : Nat) (h : HP) : Option Int32 :=
  (iter (fun s => sX1_tiedPairs_L4 F l0 s.1 s.2 h) F ((0 : Int32), (0 : Int32))).bind fun l1_9 =>
    some l1_9
abbrev rm_X1_tiedPairs : Room := { frames := 2, cells := 0, slots := 0, locals := 44 }
set_option maxRecDepth 100000 in
set_option maxHeartbeats 4000000 in
theorem mt_X1_tiedPairs {w : WD} {l : Launch} {F : Nat} {l0 : Nat} {h : HP} {v : Int32} (hs : sX1_tiedPairs F l0 h = some v) : MI w l yX1_tiedPairs cX1_tiedPairs 4 .int rm_X1_tiedPairs 0 0 [rf w (some l0)] h v h := by
  refine of_body [(0, rf w (some l0))] (by decide) (by simp [lg_sl, rf_cat, cat_i, cat_l, cat_a]) (by simp [lv_args, rf_cat, cat_i, cat_l, cat_a]) ?_
  intro x hw_ hnL_ hl_ hc hret hnm hQ
  subst hw_; subst hl_
  have hnl : ∀ i, i < 4 → i < x.nL := fun i h => by rw [hnL_]; exact h
  have hw : wpO (sX1_tiedPairs F l0 h) (fun r => r = v) := ⟨_, hs, rfl⟩
  unfold sX1_tiedPairs at hw
  refine R_iconst (v := (0 : Int32)) hc dX1_tiedPairs_0 kI_0 ?_
  refine R_istore_n (i := 1) (v := (0 : Int32)) hc [(1, .int (0 : Int32)), (0, rf x.w (some l0))] dX1_tiedPairs_1 rfl (hnl 1 (le_b rfl)) rfl ?_
  refine R_iconst (v := (0 : Int32)) hc dX1_tiedPairs_2 kI_0 ?_
  refine R_istore_n (i := 2) (v := (0 : Int32)) hc [(2, .int (0 : Int32)), (1, .int (0 : Int32)), (0, rf x.w (some l0))] dX1_tiedPairs_3 rfl (hnl 2 (le_b rfl)) rfl ?_
  refine R_sub hc [2, 1, 0] rfl ?_
  refine R_loop (P := fun (s : (Int32 × Int32)) => Rn x 0 0 4 [(0, rf x.w (some l0)), (1, .int s.1), (2, .int s.2)] [] h) (fun l1_9 => Rn x 0 0 51 [(1, .int l1_9)] [] h) hw (fun r hw => ?_) (fun X hX s hw => ?_)
  · revert r hw
    intro l1_9 hw
    show Rn x 0 0 51 [(1, .int l1_9)] [] h
    refine R_iload_n (q := 0) (i := 1) (v := l1_9) hc dX1_tiedPairs_51 rfl rfl ?_
    exact R_ireturnP hc hret rfl hQ hw dX1_tiedPairs_52
  · obtain ⟨l1_11, l2_12⟩ := s
    show Rn x 0 0 4 [(0, rf x.w (some l0)), (1, .int l1_11), (2, .int l2_12)] [] h
    have hw : wpO (sX1_tiedPairs_L4 F l0 l1_11 l2_12 h) _ := hw
    unfold sX1_tiedPairs_L4 at hw
    refine R_iload_n (q := 2) (i := 2) (v := l2_12) hc dX1_tiedPairs_4 rfl rfl ?_
    refine R_aload_n (q := 0) (i := 0) (v := (some l0)) hc dX1_tiedPairs_5 rfl rfl ?_
    refine R_getI hc fl_1_43 dX1_tiedPairs_6 hw (fun t1 hw => ?_)
    refine R_icmp_ge (tgt := 51) hc dX1_tiedPairs_9 (by decide) hw (fun hw => ?_) (fun hw => ?_)
    · refine R_sub hc [1] rfl ?_
      exact (wpO_some hw :)
    · refine R_iconst (v := (0 : Int32)) hc dX1_tiedPairs_12 kI_0 ?_
      refine R_istore_n (i := 3) (v := (0 : Int32)) hc [(3, .int (0 : Int32)), (0, rf x.w (some l0)), (1, .int l1_11), (2, .int l2_12)] dX1_tiedPairs_13 rfl (hnl 3 (le_b rfl)) rfl ?_
      refine R_sub hc [1, 2, 3, 0] rfl ?_
      refine R_loop (P := fun (s : (Int32 × Int32)) => Rn x 0 0 14 [(0, rf x.w (some l0)), (1, .int s.1), (2, .int l2_12), (3, .int s.2)] [] h) (fun l1_5 => Rn x 0 0 45 [(0, rf x.w (some l0)), (1, .int l1_5), (2, .int l2_12)] [] h) hw (fun r hw => ?_) (fun X hX s hw => ?_)
      · revert r hw
        intro l1_5 hw
        show Rn x 0 0 45 [(0, rf x.w (some l0)), (1, .int l1_5), (2, .int l2_12)] [] h
        refine R_iinc (q := 2) (i := 2) (v := l2_12) hc [(2, .int (l2_12 + (1 : Int32))), (0, rf x.w (some l0)), (1, .int l1_5)] dX1_tiedPairs_45 rfl (kC_1 _) (hnl 2 (le_b rfl)) rfl ?_
        refine R_goto (tgt := 4) hc dX1_tiedPairs_48 (by decide) ?_
        refine R_sub hc [1, 2, 0] rfl ?_
        exact hX (l1_5, l2_12 + (1 : Int32)) (wpO_some hw :)
      · obtain ⟨l1_7, l3_8⟩ := s
        show Rn x 0 0 14 [(0, rf x.w (some l0)), (1, .int l1_7), (2, .int l2_12), (3, .int l3_8)] [] h
        have hw : wpO (sX1_tiedPairs_L14 F l0 l2_12 l1_7 l3_8 h) _ := hw
        unfold sX1_tiedPairs_L14 at hw
        refine R_iload_n (q := 3) (i := 3) (v := l3_8) hc dX1_tiedPairs_14 rfl rfl ?_
        refine R_aload_n (q := 0) (i := 0) (v := (some l0)) hc dX1_tiedPairs_15 rfl rfl ?_
        refine R_getI hc fl_1_43 dX1_tiedPairs_16 hw (fun t2 hw => ?_)
        refine R_icmp_ge (tgt := 45) hc dX1_tiedPairs_19 (by decide) hw (fun hw => ?_) (fun hw => ?_)
        · refine R_sub hc [0, 1, 2] rfl ?_
          exact (wpO_some hw :)
        · refine R_iload_n (q := 2) (i := 2) (v := l2_12) hc dX1_tiedPairs_22 rfl rfl ?_
          refine R_iload_n (q := 3) (i := 3) (v := l3_8) hc dX1_tiedPairs_23 rfl rfl ?_
          refine R_icmp_eq (tgt := 39) hc dX1_tiedPairs_24 (by decide) hw (fun hw => ?_) (fun hw => ?_)
          · refine R_iinc (q := 3) (i := 3) (v := l3_8) hc [(3, .int (l3_8 + (1 : Int32))), (0, rf x.w (some l0)), (1, .int l1_7), (2, .int l2_12)] dX1_tiedPairs_39 rfl (kC_1 _) (hnl 3 (le_b rfl)) rfl ?_
            refine R_goto (tgt := 14) hc dX1_tiedPairs_42 (by decide) ?_
            refine R_sub hc [1, 2, 3, 0] rfl ?_
            exact hX (l1_7, l3_8 + (1 : Int32)) (wpO_some hw :)
          · refine R_aload_n (q := 0) (i := 0) (v := (some l0)) hc dX1_tiedPairs_27 rfl rfl ?_
            refine R_iload_n (q := 2) (i := 2) (v := l2_12) hc dX1_tiedPairs_28 rfl rfl ?_
            refine R_iload_n (q := 3) (i := 3) (v := l3_8) hc dX1_tiedPairs_29 rfl rfl ?_
            refine R_cVI (As := [.int l2_12, .int l3_8]) (rest := []) (r := (some l0)) (ci := 1) hc ml_1_61 mf_X1_areTied rfl (by decide) ⟨rfl, rfl⟩ ⟨le_b rfl, le_b rfl⟩ ⟨Nat.zero_le _, Nat.zero_le _⟩ (fun a v e => mt_X1_areTied e) rfl rfl (Nat.zero_le _) dX1_tiedPairs_30 hw (fun t4 hw => ?_)
            refine R_if_eq (tgt := 39) hc dX1_tiedPairs_33 (by decide) hw (fun hw => ?_) (fun hw => ?_)
            · refine R_iinc (q := 3) (i := 3) (v := l3_8) hc [(3, .int (l3_8 + (1 : Int32))), (0, rf x.w (some l0)), (1, .int l1_7), (2, .int l2_12)] dX1_tiedPairs_39 rfl (kC_1 _) (hnl 3 (le_b rfl)) rfl ?_
              refine R_goto (tgt := 14) hc dX1_tiedPairs_42 (by decide) ?_
              refine R_sub hc [1, 2, 3, 0] rfl ?_
              exact hX (l1_7, l3_8 + (1 : Int32)) (wpO_some hw :)
            · refine R_iinc (q := 1) (i := 1) (v := l1_7) hc [(1, .int (l1_7 + (1 : Int32))), (0, rf x.w (some l0)), (2, .int l2_12), (3, .int l3_8)] dX1_tiedPairs_36 rfl (kC_1 _) (hnl 1 (le_b rfl)) rfl ?_
              refine R_iinc (q := 3) (i := 3) (v := l3_8) hc [(3, .int (l3_8 + (1 : Int32))), (1, .int (l1_7 + (1 : Int32))), (0, rf x.w (some l0)), (2, .int l2_12)] dX1_tiedPairs_39 rfl (kC_1 _) (hnl 3 (le_b rfl)) rfl ?_
              refine R_goto (tgt := 14) hc dX1_tiedPairs_42 (by decide) ?_
              refine R_sub hc [2, 1, 3, 0] rfl ?_
              exact hX (l1_7 + (1 : Int32), l3_8 + (1 : Int32)) (wpO_some hw :)
theorem dX10_ties_0 : decode cX10_ties 0 = .ok (.aload_n 0, 1) := by decide +kernel
theorem dX10_ties_1 : decode cX10_ties 1 = .ok (.getfield 75, 3) := by decide +kernel
theorem dX10_ties_4 : decode cX10_ties 4 = .ok (.getfield 125, 3) := by decide +kernel
theorem dX10_ties_7 : decode cX10_ties 7 = .ok (.invokevirtual 340, 3) := by decide +kernel
theorem dX10_ties_10 : decode cX10_ties 10 = .ok (.ireturn, 1) := by decide +kernel
def sX10_ties (F : Nat) (l0 : Nat) (h : HP) : Option Int32 :=
  (gR h 10 (some l0) 12).bind fun t1 =>
  (gR h 4 t1 0).bind fun t2 =>
  (dO h 1 t2).bind fun a3 =>
  (sX1_tiedPairs F a3 h).bind fun t4 =>
  some t4
abbrev rm_X10_ties : Room := { frames := 3, cells := 0, slots := 0, locals := 67 }
set_option maxRecDepth 100000 in
set_option maxHeartbeats 4000000 in
theorem mt_X10_ties {w : WD} {l : Launch} {F : Nat} {l0 : Nat} {h : HP} {v : Int32} (hs : sX10_ties F l0 h = some v) : MI w l yX10_ties cX10_ties 1 .int rm_X10_ties 0 0 [rf w (some l0)] h v h := by
  refine of_body [(0, rf w (some l0))] (by decide) (by simp [lg_sl, rf_cat, cat_i, cat_l, cat_a]) (by simp [lv_args, rf_cat, cat_i, cat_l, cat_a]) ?_
  intro x hw_ hnL_ hl_ hc hret hnm hQ
  subst hw_; subst hl_
  have hnl : ∀ i, i < 1 → i < x.nL := fun i h => by rw [hnL_]; exact h
  have hw : wpO (sX10_ties F l0 h) (fun r => r = v) := ⟨_, hs, rfl⟩
  unfold sX10_ties at hw
  refine R_aload_n (q := 0) (i := 0) (v := (some l0)) hc dX10_ties_0 rfl rfl ?_
  refine R_getR hc fl_10_75 dX10_ties_1 hw (fun t1 hw => ?_)
  refine R_getR hc fl_10_125 dX10_ties_4 hw (fun t2 hw => ?_)
  refine R_cVI (As := []) (rest := []) (r := t2) (ci := 1) hc ml_10_340 mf_X1_tiedPairs rfl (by decide) ⟨rfl, rfl⟩ ⟨le_b rfl, le_b rfl⟩ ⟨Nat.zero_le _, Nat.zero_le _⟩ (fun a v e => mt_X1_tiedPairs e) rfl rfl (Nat.zero_le _) dX10_ties_7 hw (fun t4 hw => ?_)
  exact R_ireturnP hc hret rfl hQ hw dX10_ties_10
theorem dX1_lonelyFingers_0 : decode cX1_lonelyFingers 0 = .ok (.aload_n 0, 1) := by decide +kernel
theorem dX1_lonelyFingers_1 : decode cX1_lonelyFingers 1 = .ok (.invokevirtual 65, 3) := by decide +kernel
theorem dX1_lonelyFingers_4 : decode cX1_lonelyFingers 4 = .ok (.istore_n 1, 1) := by decide +kernel
theorem dX1_lonelyFingers_5 : decode cX1_lonelyFingers 5 = .ok (.iconst 0, 1) := by decide +kernel
theorem dX1_lonelyFingers_6 : decode cX1_lonelyFingers 6 = .ok (.istore_n 2, 1) := by decide +kernel
theorem dX1_lonelyFingers_7 : decode cX1_lonelyFingers 7 = .ok (.iload_n 2, 1) := by decide +kernel
theorem dX1_lonelyFingers_8 : decode cX1_lonelyFingers 8 = .ok (.aload_n 0, 1) := by decide +kernel
theorem dX1_lonelyFingers_9 : decode cX1_lonelyFingers 9 = .ok (.getfield 43, 3) := by decide +kernel
theorem dX1_lonelyFingers_12 : decode cX1_lonelyFingers 12 = .ok (.if_icmp .ge 49, 3) := by decide +kernel
theorem dX1_lonelyFingers_15 : decode cX1_lonelyFingers 15 = .ok (.iconst 0, 1) := by decide +kernel
theorem dX1_lonelyFingers_16 : decode cX1_lonelyFingers 16 = .ok (.istore_n 3, 1) := by decide +kernel
theorem dX1_lonelyFingers_17 : decode cX1_lonelyFingers 17 = .ok (.iload_n 3, 1) := by decide +kernel
theorem dX1_lonelyFingers_18 : decode cX1_lonelyFingers 18 = .ok (.aload_n 0, 1) := by decide +kernel
theorem dX1_lonelyFingers_19 : decode cX1_lonelyFingers 19 = .ok (.getfield 43, 3) := by decide +kernel
theorem dX1_lonelyFingers_22 : decode cX1_lonelyFingers 22 = .ok (.if_icmp .ge 33, 3) := by decide +kernel
theorem dX1_lonelyFingers_25 : decode cX1_lonelyFingers 25 = .ok (.iload_n 2, 1) := by decide +kernel
theorem dX1_lonelyFingers_26 : decode cX1_lonelyFingers 26 = .ok (.iload_n 3, 1) := by decide +kernel
theorem dX1_lonelyFingers_27 : decode cX1_lonelyFingers 27 = .ok (.if_icmp .eq 22, 3) := by decide +kernel
theorem dX1_lonelyFingers_30 : decode cX1_lonelyFingers 30 = .ok (.aload_n 0, 1) := by decide +kernel
theorem dX1_lonelyFingers_31 : decode cX1_lonelyFingers 31 = .ok (.iload_n 2, 1) := by decide +kernel
theorem dX1_lonelyFingers_32 : decode cX1_lonelyFingers 32 = .ok (.iload_n 3, 1) := by decide +kernel
theorem dX1_lonelyFingers_33 : decode cX1_lonelyFingers 33 = .ok (.invokevirtual 61, 3) := by decide +kernel
theorem dX1_lonelyFingers_36 : decode cX1_lonelyFingers 36 = .ok (.ifCond .eq 13, 3) := by decide +kernel
theorem dX1_lonelyFingers_39 : decode cX1_lonelyFingers 39 = .ok (.iload_n 1, 1) := by decide +kernel
theorem dX1_lonelyFingers_40 : decode cX1_lonelyFingers 40 = .ok (.iload_n 2, 1) := by decide +kernel
theorem dX1_lonelyFingers_41 : decode cX1_lonelyFingers 41 = .ok (.invokestatic 69, 3) := by decide +kernel
theorem dX1_lonelyFingers_44 : decode cX1_lonelyFingers 44 = .ok (.iload_n 3, 1) := by decide +kernel
theorem dX1_lonelyFingers_45 : decode cX1_lonelyFingers 45 = .ok (.invokestatic 69, 3) := by decide +kernel
theorem dX1_lonelyFingers_48 : decode cX1_lonelyFingers 48 = .ok (.istore_n 1, 1) := by decide +kernel
theorem dX1_lonelyFingers_49 : decode cX1_lonelyFingers 49 = .ok (.iinc 3 1, 3) := by decide +kernel
theorem dX1_lonelyFingers_52 : decode cX1_lonelyFingers 52 = .ok (.goto (-35), 3) := by decide +kernel
theorem dX1_lonelyFingers_55 : decode cX1_lonelyFingers 55 = .ok (.iinc 2 1, 3) := by decide +kernel
theorem dX1_lonelyFingers_58 : decode cX1_lonelyFingers 58 = .ok (.goto (-51), 3) := by decide +kernel
theorem dX1_lonelyFingers_61 : decode cX1_lonelyFingers 61 = .ok (.iload_n 1, 1) := by decide +kernel
theorem dX1_lonelyFingers_62 : decode cX1_lonelyFingers 62 = .ok (.ireturn, 1) := by decide +kernel
def sX1_lonelyFingers_L17 (F : Nat) (l0 : Nat) (l2 : Int32) (l1 : Int32) (l3 : Int32) (h : HP) : Option ((Int32 × Int32) ⊕ Int32) :=
  (gI h 1 (some l0) 5).bind fun t4 =>
  if t4 ≤ l3 then
    some (.inr l1)
  else
    if l2 = l3 then
      some (.inl (l1, l3 + (1 : Int32)))
    else
      (dO h 1 (some l0)).bind fun a5 =>
      (sX1_areTied F a5 l2 l3 h).bind fun t6 =>
      if t6 = 0 then
        some (.inl (l1, l3 + (1 : Int32)))
      else
        (sX10_without F l1 l2 h).bind fun t7 =>
        (sX10_without F t7 l3 h).bind fun t8 =>
        some (.inl (t8, l3 + (1 : Int32)))
def sX1_lonelyFingers_L7 (F : Nat) (l0 : Nat) (l1 : Int32) (l2 : Int32) (h : HP) : Option ((Int32 × Int32) ⊕ Int32) :=
  (gI h 1 (some l0) 5).bind fun t3 =>
  if t3 ≤ l2 then
    some (.inr l1)
  else
    (iter (fun s => sX1_lonelyFingers_L17 F l0 l2 s.1 s.2 h) F (l1, (0 : Int32))).bind fun l1_9 =>
      some (.inl (l1_9, l2 + (1 : Int32)))
def sX1_lonelyFingers (F : Nat) (l0 : Nat) (h : HP) : Option Int32 :=
  (dO h 1 (some l0)).bind fun a1 =>
  (sX1_allFingers F a1 h).bind fun t2 =>
  (iter (fun s => sX1_lonelyFingers_L7 F l0 s.1 s.2 h) F (t2, (0 : Int32))).bind fun l1_13 =>
    some l1_13
abbrev rm_X1_lonelyFingers : Room := { frames := 2, cells := 0, slots := 0, locals := 44 }
set_option maxRecDepth 100000 in
set_option maxHeartbeats 4000000 in
theorem mt_X1_lonelyFingers {w : WD} {l : Launch} {F : Nat} {l0 : Nat} {h : HP} {v : Int32} (hs : sX1_lonelyFingers F l0 h = some v) : MI w l yX1_lonelyFingers cX1_lonelyFingers 4 .int rm_X1_lonelyFingers 0 0 [rf w (some l0)] h v h := by
  refine of_body [(0, rf w (some l0))] (by decide) (by simp [lg_sl, rf_cat, cat_i, cat_l, cat_a]) (by simp [lv_args, rf_cat, cat_i, cat_l, cat_a]) ?_
  intro x hw_ hnL_ hl_ hc hret hnm hQ
  subst hw_; subst hl_
  have hnl : ∀ i, i < 4 → i < x.nL := fun i h => by rw [hnL_]; exact h
  have hw : wpO (sX1_lonelyFingers F l0 h) (fun r => r = v) := ⟨_, hs, rfl⟩
  unfold sX1_lonelyFingers at hw
  refine R_aload_n (q := 0) (i := 0) (v := (some l0)) hc dX1_lonelyFingers_0 rfl rfl ?_
  refine R_cVI (As := []) (rest := []) (r := (some l0)) (ci := 1) hc ml_1_65 mf_X1_allFingers rfl (by decide) ⟨rfl, rfl⟩ ⟨le_b rfl, le_b rfl⟩ ⟨Nat.zero_le _, Nat.zero_le _⟩ (fun a v e => mt_X1_allFingers e) rfl rfl (Nat.zero_le _) dX1_lonelyFingers_1 hw (fun t2 hw => ?_)
  refine R_istore_n (i := 1) (v := t2) hc [(1, .int t2), (0, rf x.w (some l0))] dX1_lonelyFingers_4 rfl (hnl 1 (le_b rfl)) rfl ?_
  refine R_iconst (v := (0 : Int32)) hc dX1_lonelyFingers_5 kI_0 ?_
  refine R_istore_n (i := 2) (v := (0 : Int32)) hc [(2, .int (0 : Int32)), (1, .int t2), (0, rf x.w (some l0))] dX1_lonelyFingers_6 rfl (hnl 2 (le_b rfl)) rfl ?_
  refine R_sub hc [2, 1, 0] rfl ?_
  refine R_loop (P := fun (s : (Int32 × Int32)) => Rn x 0 0 7 [(0, rf x.w (some l0)), (1, .int s.1), (2, .int s.2)] [] h) (fun l1_13 => Rn x 0 0 61 [(1, .int l1_13)] [] h) hw (fun r hw => ?_) (fun X hX s hw => ?_)
  · revert r hw
    intro l1_13 hw
    show Rn x 0 0 61 [(1, .int l1_13)] [] h
    refine R_iload_n (q := 0) (i := 1) (v := l1_13) hc dX1_lonelyFingers_61 rfl rfl ?_
    exact R_ireturnP hc hret rfl hQ hw dX1_lonelyFingers_62
  · obtain ⟨l1_15, l2_16⟩ := s
    show Rn x 0 0 7 [(0, rf x.w (some l0)), (1, .int l1_15), (2, .int l2_16)] [] h
    have hw : wpO (sX1_lonelyFingers_L7 F l0 l1_15 l2_16 h) _ := hw
    unfold sX1_lonelyFingers_L7 at hw
    refine R_iload_n (q := 2) (i := 2) (v := l2_16) hc dX1_lonelyFingers_7 rfl rfl ?_
    refine R_aload_n (q := 0) (i := 0) (v := (some l0)) hc dX1_lonelyFingers_8 rfl rfl ?_
    refine R_getI hc fl_1_43 dX1_lonelyFingers_9 hw (fun t3 hw => ?_)
    refine R_icmp_ge (tgt := 61) hc dX1_lonelyFingers_12 (by decide) hw (fun hw => ?_) (fun hw => ?_)
    · refine R_sub hc [1] rfl ?_
      exact (wpO_some hw :)
    · refine R_iconst (v := (0 : Int32)) hc dX1_lonelyFingers_15 kI_0 ?_
      refine R_istore_n (i := 3) (v := (0 : Int32)) hc [(3, .int (0 : Int32)), (0, rf x.w (some l0)), (1, .int l1_15), (2, .int l2_16)] dX1_lonelyFingers_16 rfl (hnl 3 (le_b rfl)) rfl ?_
      refine R_sub hc [1, 2, 3, 0] rfl ?_
      refine R_loop (P := fun (s : (Int32 × Int32)) => Rn x 0 0 17 [(0, rf x.w (some l0)), (1, .int s.1), (2, .int l2_16), (3, .int s.2)] [] h) (fun l1_9 => Rn x 0 0 55 [(0, rf x.w (some l0)), (1, .int l1_9), (2, .int l2_16)] [] h) hw (fun r hw => ?_) (fun X hX s hw => ?_)
      · revert r hw
        intro l1_9 hw
        show Rn x 0 0 55 [(0, rf x.w (some l0)), (1, .int l1_9), (2, .int l2_16)] [] h
        refine R_iinc (q := 2) (i := 2) (v := l2_16) hc [(2, .int (l2_16 + (1 : Int32))), (0, rf x.w (some l0)), (1, .int l1_9)] dX1_lonelyFingers_55 rfl (kC_1 _) (hnl 2 (le_b rfl)) rfl ?_
        refine R_goto (tgt := 7) hc dX1_lonelyFingers_58 (by decide) ?_
        refine R_sub hc [1, 2, 0] rfl ?_
        exact hX (l1_9, l2_16 + (1 : Int32)) (wpO_some hw :)
      · obtain ⟨l1_11, l3_12⟩ := s
        show Rn x 0 0 17 [(0, rf x.w (some l0)), (1, .int l1_11), (2, .int l2_16), (3, .int l3_12)] [] h
        have hw : wpO (sX1_lonelyFingers_L17 F l0 l2_16 l1_11 l3_12 h) _ := hw
        unfold sX1_lonelyFingers_L17 at hw
        refine R_iload_n (q := 3) (i := 3) (v := l3_12) hc dX1_lonelyFingers_17 rfl rfl ?_
        refine R_aload_n (q := 0) (i := 0) (v := (some l0)) hc dX1_lonelyFingers_18 rfl rfl ?_
        refine R_getI hc fl_1_43 dX1_lonelyFingers_19 hw (fun t4 hw => ?_)
        refine R_icmp_ge (tgt := 55) hc dX1_lonelyFingers_22 (by decide) hw (fun hw => ?_) (fun hw => ?_)
        · refine R_sub hc [0, 1, 2] rfl ?_
          exact (wpO_some hw :)
        · refine R_iload_n (q := 2) (i := 2) (v := l2_16) hc dX1_lonelyFingers_25 rfl rfl ?_
          refine R_iload_n (q := 3) (i := 3) (v := l3_12) hc dX1_lonelyFingers_26 rfl rfl ?_
          refine R_icmp_eq (tgt := 49) hc dX1_lonelyFingers_27 (by decide) hw (fun hw => ?_) (fun hw => ?_)
          · refine R_iinc (q := 3) (i := 3) (v := l3_12) hc [(3, .int (l3_12 + (1 : Int32))), (0, rf x.w (some l0)), (1, .int l1_11), (2, .int l2_16)] dX1_lonelyFingers_49 rfl (kC_1 _) (hnl 3 (le_b rfl)) rfl ?_
            refine R_goto (tgt := 17) hc dX1_lonelyFingers_52 (by decide) ?_
            refine R_sub hc [1, 2, 3, 0] rfl ?_
            exact hX (l1_11, l3_12 + (1 : Int32)) (wpO_some hw :)
          · refine R_aload_n (q := 0) (i := 0) (v := (some l0)) hc dX1_lonelyFingers_30 rfl rfl ?_
            refine R_iload_n (q := 2) (i := 2) (v := l2_16) hc dX1_lonelyFingers_31 rfl rfl ?_
            refine R_iload_n (q := 3) (i := 3) (v := l3_12) hc dX1_lonelyFingers_32 rfl rfl ?_
            refine R_cVI (As := [.int l2_16, .int l3_12]) (rest := []) (r := (some l0)) (ci := 1) hc ml_1_61 mf_X1_areTied rfl (by decide) ⟨rfl, rfl⟩ ⟨le_b rfl, le_b rfl⟩ ⟨Nat.zero_le _, Nat.zero_le _⟩ (fun a v e => mt_X1_areTied e) rfl rfl (Nat.zero_le _) dX1_lonelyFingers_33 hw (fun t6 hw => ?_)
            refine R_if_eq (tgt := 49) hc dX1_lonelyFingers_36 (by decide) hw (fun hw => ?_) (fun hw => ?_)
            · refine R_iinc (q := 3) (i := 3) (v := l3_12) hc [(3, .int (l3_12 + (1 : Int32))), (0, rf x.w (some l0)), (1, .int l1_11), (2, .int l2_16)] dX1_lonelyFingers_49 rfl (kC_1 _) (hnl 3 (le_b rfl)) rfl ?_
              refine R_goto (tgt := 17) hc dX1_lonelyFingers_52 (by decide) ?_
              refine R_sub hc [1, 2, 3, 0] rfl ?_
              exact hX (l1_11, l3_12 + (1 : Int32)) (wpO_some hw :)
            · refine R_iload_n (q := 1) (i := 1) (v := l1_11) hc dX1_lonelyFingers_39 rfl rfl ?_
              refine R_iload_n (q := 2) (i := 2) (v := l2_16) hc dX1_lonelyFingers_40 rfl rfl ?_
              refine R_cNI (As := [.int l1_11, .int l2_16]) (rest := []) hc mn_1_69 mf_X10_without ⟨rfl, rfl⟩ ⟨le_b rfl, le_b rfl⟩ ⟨Nat.zero_le _, Nat.zero_le _⟩ (fun v e => mt_X10_without e) rfl rfl (Nat.zero_le _) dX1_lonelyFingers_41 hw (fun t7 hw => ?_)
              refine R_iload_n (q := 3) (i := 3) (v := l3_12) hc dX1_lonelyFingers_44 rfl rfl ?_
              refine R_cNI (As := [.int t7, .int l3_12]) (rest := []) hc mn_1_69 mf_X10_without ⟨rfl, rfl⟩ ⟨le_b rfl, le_b rfl⟩ ⟨Nat.zero_le _, Nat.zero_le _⟩ (fun v e => mt_X10_without e) rfl rfl (Nat.zero_le _) dX1_lonelyFingers_45 hw (fun t8 hw => ?_)
              refine R_istore_n (i := 1) (v := t8) hc [(1, .int t8), (0, rf x.w (some l0)), (2, .int l2_16), (3, .int l3_12)] dX1_lonelyFingers_48 rfl (hnl 1 (le_b rfl)) rfl ?_
              refine R_iinc (q := 3) (i := 3) (v := l3_12) hc [(3, .int (l3_12 + (1 : Int32))), (1, .int t8), (0, rf x.w (some l0)), (2, .int l2_16)] dX1_lonelyFingers_49 rfl (kC_1 _) (hnl 3 (le_b rfl)) rfl ?_
              refine R_goto (tgt := 17) hc dX1_lonelyFingers_52 (by decide) ?_
              refine R_sub hc [2, 1, 3, 0] rfl ?_
              exact hX (t8, l3_12 + (1 : Int32)) (wpO_some hw :)
theorem dX10_lonely_0 : decode cX10_lonely 0 = .ok (.aload_n 0, 1) := by decide +kernel
theorem dX10_lonely_1 : decode cX10_lonely 1 = .ok (.getfield 75, 3) := by decide +kernel
theorem dX10_lonely_4 : decode cX10_lonely 4 = .ok (.getfield 125, 3) := by decide +kernel
theorem dX10_lonely_7 : decode cX10_lonely 7 = .ok (.invokevirtual 343, 3) := by decide +kernel
theorem dX10_lonely_10 : decode cX10_lonely 10 = .ok (.ireturn, 1) := by decide +kernel
def sX10_lonely (F : Nat) (l0 : Nat) (h : HP) : Option Int32 :=
  (gR h 10 (some l0) 12).bind fun t1 =>
  (gR h 4 t1 0).bind fun t2 =>
  (dO h 1 t2).bind fun a3 =>
  (sX1_lonelyFingers F a3 h).bind fun t4 =>
  some t4
abbrev rm_X10_lonely : Room := { frames := 3, cells := 0, slots := 0, locals := 67 }
set_option maxRecDepth 100000 in
set_option maxHeartbeats 4000000 in
theorem mt_X10_lonely {w : WD} {l : Launch} {F : Nat} {l0 : Nat} {h : HP} {v : Int32} (hs : sX10_lonely F l0 h = some v) : MI w l yX10_lonely cX10_lonely 1 .int rm_X10_lonely 0 0 [rf w (some l0)] h v h := by
  refine of_body [(0, rf w (some l0))] (by decide) (by simp [lg_sl, rf_cat, cat_i, cat_l, cat_a]) (by simp [lv_args, rf_cat, cat_i, cat_l, cat_a]) ?_
  intro x hw_ hnL_ hl_ hc hret hnm hQ
  subst hw_; subst hl_
  have hnl : ∀ i, i < 1 → i < x.nL := fun i h => by rw [hnL_]; exact h
  have hw : wpO (sX10_lonely F l0 h) (fun r => r = v) := ⟨_, hs, rfl⟩
  unfold sX10_lonely at hw
  refine R_aload_n (q := 0) (i := 0) (v := (some l0)) hc dX10_lonely_0 rfl rfl ?_
  refine R_getR hc fl_10_75 dX10_lonely_1 hw (fun t1 hw => ?_)
  refine R_getR hc fl_10_125 dX10_lonely_4 hw (fun t2 hw => ?_)
  refine R_cVI (As := []) (rest := []) (r := t2) (ci := 1) hc ml_10_343 mf_X1_lonelyFingers rfl (by decide) ⟨rfl, rfl⟩ ⟨le_b rfl, le_b rfl⟩ ⟨Nat.zero_le _, Nat.zero_le _⟩ (fun a v e => mt_X1_lonelyFingers e) rfl rfl (Nat.zero_le _) dX10_lonely_7 hw (fun t4 hw => ?_)
  exact R_ireturnP hc hret rfl hQ hw dX10_lonely_10
theorem dX7_copyFrom_0 : decode cX7_copyFrom 0 = .ok (.aload_n 0, 1) := by decide +kernel
theorem dX7_copyFrom_1 : decode cX7_copyFrom 1 = .ok (.aload_n 1, 1) := by decide +kernel
theorem dX7_copyFrom_2 : decode cX7_copyFrom 2 = .ok (.getfield 9, 3) := by decide +kernel
theorem dX7_copyFrom_5 : decode cX7_copyFrom 5 = .ok (.putfield 9, 3) := by decide +kernel
theorem dX7_copyFrom_8 : decode cX7_copyFrom 8 = .ok (.iconst 0, 1) := by decide +kernel
theorem dX7_copyFrom_9 : decode cX7_copyFrom 9 = .ok (.istore_n 2, 1) := by decide +kernel
theorem dX7_copyFrom_10 : decode cX7_copyFrom 10 = .ok (.iload_n 2, 1) := by decide +kernel
theorem dX7_copyFrom_11 : decode cX7_copyFrom 11 = .ok (.aload_n 0, 1) := by decide +kernel
theorem dX7_copyFrom_12 : decode cX7_copyFrom 12 = .ok (.getfield 9, 3) := by decide +kernel
theorem dX7_copyFrom_15 : decode cX7_copyFrom 15 = .ok (.if_icmp .ge 21, 3) := by decide +kernel
theorem dX7_copyFrom_18 : decode cX7_copyFrom 18 = .ok (.aload_n 0, 1) := by decide +kernel
theorem dX7_copyFrom_19 : decode cX7_copyFrom 19 = .ok (.getfield 15, 3) := by decide +kernel
theorem dX7_copyFrom_22 : decode cX7_copyFrom 22 = .ok (.iload_n 2, 1) := by decide +kernel
theorem dX7_copyFrom_23 : decode cX7_copyFrom 23 = .ok (.aload_n 1, 1) := by decide +kernel
theorem dX7_copyFrom_24 : decode cX7_copyFrom 24 = .ok (.getfield 15, 3) := by decide +kernel
theorem dX7_copyFrom_27 : decode cX7_copyFrom 27 = .ok (.iload_n 2, 1) := by decide +kernel
theorem dX7_copyFrom_28 : decode cX7_copyFrom 28 = .ok (.iaload, 1) := by decide +kernel
theorem dX7_copyFrom_29 : decode cX7_copyFrom 29 = .ok (.iastore, 1) := by decide +kernel
theorem dX7_copyFrom_30 : decode cX7_copyFrom 30 = .ok (.iinc 2 1, 3) := by decide +kernel
theorem dX7_copyFrom_33 : decode cX7_copyFrom 33 = .ok (.goto (-23), 3) := by decide +kernel
theorem dX7_copyFrom_36 : decode cX7_copyFrom 36 = .ok (.return_, 1) := by decide +kernel
def sX7_copyFrom_L10 (F : Nat) (l0 : Nat) (l1 : Option Nat) (l2 : Int32) (h : HP) : Option ((Int32 × HP) ⊕ HP) :=
  (gI h 7 (some l0) 0).bind fun t3 =>
  if t3 ≤ l2 then
    some (.inr h)
  else
    (gR h 7 (some l0) 1).bind fun t4 =>
    (gR h 7 l1 1).bind fun t5 =>
    (aI h 13 t5 l2).bind fun t6 =>
    (sI h t4 l2 t6).bind fun h7 =>
    some (.inl (l2 + (1 : Int32), h7))
def sX7_copyFrom (F : Nat) (l0 : Nat) (l1 : Option Nat) (h : HP) : Option HP :=
  (gI h 7 l1 0).bind fun t1 =>
  (pI h 7 (some l0) 0 t1).bind fun h2 =>
  (iter (fun s => sX7_copyFrom_L10 F l0 l1 s.1 s.2) F ((0 : Int32), h2)).bind fun h8 =>
    some h8
abbrev rm_X7_copyFrom : Room := { frames := 0, cells := 0, slots := 0, locals := 0 }
set_option maxRecDepth 100000 in
set_option maxHeartbeats 4000000 in
theorem mt_X7_copyFrom {w : WD} {l : Launch} {F : Nat} {l0 : Nat} {l1 : Option Nat} {h : HP} {h' : HP} (hs : sX7_copyFrom F l0 l1 h = some h') : MV w l yX7_copyFrom cX7_copyFrom 3 rm_X7_copyFrom 0 0 [rf w (some l0), rf w l1] h h' := by
  refine of_body [(0, rf w (some l0)), (1, rf w l1)] (by decide) (by simp [lg_sl, rf_cat, cat_i, cat_l, cat_a]) (by simp [lv_args, rf_cat, cat_i, cat_l, cat_a]) ?_
  intro x hw_ hnL_ hl_ hc hret hnm hQ
  subst hw_; subst hl_
  have hnl : ∀ i, i < 3 → i < x.nL := fun i h => by rw [hnL_]; exact h
  have hw : wpO (sX7_copyFrom F l0 l1 h) (fun r => r = h') := ⟨_, hs, rfl⟩
  unfold sX7_copyFrom at hw
  refine R_aload_n (q := 0) (i := 0) (v := (some l0)) hc dX7_copyFrom_0 rfl rfl ?_
  refine R_aload_n (q := 1) (i := 1) (v := l1) hc dX7_copyFrom_1 rfl rfl ?_
  refine R_getI hc fl_7_9 dX7_copyFrom_2 hw (fun t1 hw => ?_)
  refine R_putI hc pl_7_9 rfl rfl dX7_copyFrom_5 hw (fun h2 hw => ?_)
  refine R_iconst (v := (0 : Int32)) hc dX7_copyFrom_8 kI_0 ?_
  refine R_istore_n (i := 2) (v := (0 : Int32)) hc [(2, .int (0 : Int32)), (0, rf x.w (some l0)), (1, rf x.w l1)] dX7_copyFrom_9 rfl (hnl 2 (le_b rfl)) (by simp [rf_cat]) ?_
  refine R_sub hc [1, 2, 0] rfl ?_
  refine R_loop (P := fun (s : (Int32 × HP)) => Rn x 0 0 10 [(0, rf x.w (some l0)), (1, rf x.w l1), (2, .int s.1)] [] s.2) (fun h8 => Rn x 0 0 36 [] [] h8) hw (fun r hw => ?_) (fun X hX s hw => ?_)
  · revert r hw
    intro h8 hw
    show Rn x 0 0 36 [] [] h8
    exact R_return hc hret hQ hw dX7_copyFrom_36
  · obtain ⟨l2_10, h11⟩ := s
    show Rn x 0 0 10 [(0, rf x.w (some l0)), (1, rf x.w l1), (2, .int l2_10)] [] h11
    have hw : wpO (sX7_copyFrom_L10 F l0 l1 l2_10 h11) _ := hw
    unfold sX7_copyFrom_L10 at hw
    refine R_iload_n (q := 2) (i := 2) (v := l2_10) hc dX7_copyFrom_10 rfl rfl ?_
    refine R_aload_n (q := 0) (i := 0) (v := (some l0)) hc dX7_copyFrom_11 rfl rfl ?_
    refine R_getI hc fl_7_9 dX7_copyFrom_12 hw (fun t3 hw => ?_)
    refine R_icmp_ge (tgt := 36) hc dX7_copyFrom_15 (by decide) hw (fun hw => ?_) (fun hw => ?_)
    · refine R_sub hc [] rfl ?_
      exact (wpO_some hw :)
    · refine R_aload_n (q := 0) (i := 0) (v := (some l0)) hc dX7_copyFrom_18 rfl rfl ?_
      refine R_getR hc fl_7_15 dX7_copyFrom_19 hw (fun t4 hw => ?_)
      refine R_iload_n (q := 2) (i := 2) (v := l2_10) hc dX7_copyFrom_22 rfl rfl ?_
      refine R_aload_n (q := 1) (i := 1) (v := l1) hc dX7_copyFrom_23 rfl rfl ?_
      refine R_getR hc fl_7_15 dX7_copyFrom_24 hw (fun t5 hw => ?_)
      refine R_iload_n (q := 2) (i := 2) (v := l2_10) hc dX7_copyFrom_27 rfl rfl ?_
      refine R_iaload hc dX7_copyFrom_28 hw (fun t6 hw => ?_)
      refine R_iastore hc dX7_copyFrom_29 hw (fun h7 hw => ?_)
      refine R_iinc (q := 2) (i := 2) (v := l2_10) hc [(2, .int (l2_10 + (1 : Int32))), (0, rf x.w (some l0)), (1, rf x.w l1)] dX7_copyFrom_30 rfl (kC_1 _) (hnl 2 (le_b rfl)) (by simp [rf_cat]) ?_
      refine R_goto (tgt := 10) hc dX7_copyFrom_33 (by decide) ?_
      refine R_sub hc [1, 2, 0] rfl ?_
      exact hX (l2_10 + (1 : Int32), h7) (wpO_some hw :)
theorem dX7_setTurn_0 : decode cX7_setTurn 0 = .ok (.aload_n 0, 1) := by decide +kernel
theorem dX7_setTurn_1 : decode cX7_setTurn 1 = .ok (.getfield 15, 3) := by decide +kernel
theorem dX7_setTurn_4 : decode cX7_setTurn 4 = .ok (.iload_n 1, 1) := by decide +kernel
theorem dX7_setTurn_5 : decode cX7_setTurn 5 = .ok (.aload_n 0, 1) := by decide +kernel
theorem dX7_setTurn_6 : decode cX7_setTurn 6 = .ok (.iload_n 1, 1) := by decide +kernel
theorem dX7_setTurn_7 : decode cX7_setTurn 7 = .ok (.invokevirtual 19, 3) := by decide +kernel
theorem dX7_setTurn_10 : decode cX7_setTurn 10 = .ok (.iconst 4, 1) := by decide +kernel
theorem dX7_setTurn_11 : decode cX7_setTurn 11 = .ok (.imul, 1) := by decide +kernel
theorem dX7_setTurn_12 : decode cX7_setTurn 12 = .ok (.iload_n 2, 1) := by decide +kernel
theorem dX7_setTurn_13 : decode cX7_setTurn 13 = .ok (.iadd, 1) := by decide +kernel
theorem dX7_setTurn_14 : decode cX7_setTurn 14 = .ok (.iastore, 1) := by decide +kernel
theorem dX7_setTurn_15 : decode cX7_setTurn 15 = .ok (.return_, 1) := by decide +kernel
def sX7_setTurn (F : Nat) (l0 : Nat) (l1 : Int32) (l2 : Int32) (h : HP) : Option HP :=
  (gR h 7 (some l0) 1).bind fun t1 =>
  (dO h 7 (some l0)).bind fun a2 =>
  (sX7_fingerAt F a2 l1 h).bind fun t3 =>
  (sI h t1 l1 ((t3 * (4 : Int32)) + l2)).bind fun h4 =>
  some h4
abbrev rm_X7_setTurn : Room := { frames := 1, cells := 0, slots := 0, locals := 21 }
set_option maxRecDepth 100000 in
set_option maxHeartbeats 4000000 in
theorem mt_X7_setTurn {w : WD} {l : Launch} {F : Nat} {l0 : Nat} {l1 : Int32} {l2 : Int32} {h : HP} {h' : HP} (hs : sX7_setTurn F l0 l1 l2 h = some h') : MV w l yX7_setTurn cX7_setTurn 3 rm_X7_setTurn 0 0 [rf w (some l0), .int l1, .int l2] h h' := by
  refine of_body [(0, rf w (some l0)), (1, .int l1), (2, .int l2)] (by decide) (by simp [lg_sl, rf_cat, cat_i, cat_l, cat_a]) (by simp [lv_args, rf_cat, cat_i, cat_l, cat_a]) ?_
  intro x hw_ hnL_ hl_ hc hret hnm hQ
  subst hw_; subst hl_
  have hnl : ∀ i, i < 3 → i < x.nL := fun i h => by rw [hnL_]; exact h
  have hw : wpO (sX7_setTurn F l0 l1 l2 h) (fun r => r = h') := ⟨_, hs, rfl⟩
  unfold sX7_setTurn at hw
  refine R_aload_n (q := 0) (i := 0) (v := (some l0)) hc dX7_setTurn_0 rfl rfl ?_
  refine R_getR hc fl_7_15 dX7_setTurn_1 hw (fun t1 hw => ?_)
  refine R_iload_n (q := 1) (i := 1) (v := l1) hc dX7_setTurn_4 rfl rfl ?_
  refine R_aload_n (q := 0) (i := 0) (v := (some l0)) hc dX7_setTurn_5 rfl rfl ?_
  refine R_iload_n (q := 1) (i := 1) (v := l1) hc dX7_setTurn_6 rfl rfl ?_
  refine R_cVI (As := [.int l1]) (rest := [.int l1, rf x.w t1]) (r := (some l0)) (ci := 7) hc ml_7_19 mf_X7_fingerAt rfl (by decide) ⟨rfl, rfl⟩ ⟨le_b rfl, le_b rfl⟩ ⟨Nat.zero_le _, Nat.zero_le _⟩ (fun a v e => mt_X7_fingerAt e) rfl rfl (by simp [rf_cat, cat_i, cat_l, cat_a]) dX7_setTurn_7 hw (fun t3 hw => ?_)
  refine R_iconst (v := (4 : Int32)) hc dX7_setTurn_10 kI_4 ?_
  refine R_imul hc dX7_setTurn_11 ?_
  refine R_iload_n (q := 2) (i := 2) (v := l2) hc dX7_setTurn_12 rfl rfl ?_
  refine R_iadd hc dX7_setTurn_13 ?_
  refine R_iastore hc dX7_setTurn_14 hw (fun h4 hw => ?_)
  exact R_return hc hret hQ hw dX7_setTurn_15
theorem dX7_countGaps_0 : decode cX7_countGaps 0 = .ok (.iconst 0, 1) := by decide +kernel
theorem dX7_countGaps_1 : decode cX7_countGaps 1 = .ok (.istore_n 2, 1) := by decide +kernel
theorem dX7_countGaps_2 : decode cX7_countGaps 2 = .ok (.iconst 0, 1) := by decide +kernel
theorem dX7_countGaps_3 : decode cX7_countGaps 3 = .ok (.istore_n 3, 1) := by decide +kernel
theorem dX7_countGaps_4 : decode cX7_countGaps 4 = .ok (.iload_n 3, 1) := by decide +kernel
theorem dX7_countGaps_5 : decode cX7_countGaps 5 = .ok (.iconst 1, 1) := by decide +kernel
theorem dX7_countGaps_6 : decode cX7_countGaps 6 = .ok (.iadd, 1) := by decide +kernel
theorem dX7_countGaps_7 : decode cX7_countGaps 7 = .ok (.aload_n 0, 1) := by decide +kernel
theorem dX7_countGaps_8 : decode cX7_countGaps 8 = .ok (.getfield 9, 3) := by decide +kernel
theorem dX7_countGaps_11 : decode cX7_countGaps 11 = .ok (.if_icmp .ge 26, 3) := by decide +kernel
theorem dX7_countGaps_14 : decode cX7_countGaps 14 = .ok (.iload_n 2, 1) := by decide +kernel
theorem dX7_countGaps_15 : decode cX7_countGaps 15 = .ok (.aload_n 0, 1) := by decide +kernel
theorem dX7_countGaps_16 : decode cX7_countGaps 16 = .ok (.aload_n 1, 1) := by decide +kernel
theorem dX7_countGaps_17 : decode cX7_countGaps 17 = .ok (.iload_n 3, 1) := by decide +kernel
theorem dX7_countGaps_18 : decode cX7_countGaps 18 = .ok (.invokevirtual 29, 3) := by decide +kernel
theorem dX7_countGaps_21 : decode cX7_countGaps 21 = .ok (.ifCond .eq 7, 3) := by decide +kernel
theorem dX7_countGaps_24 : decode cX7_countGaps 24 = .ok (.iconst 0, 1) := by decide +kernel
theorem dX7_countGaps_25 : decode cX7_countGaps 25 = .ok (.goto 4, 3) := by decide +kernel
theorem dX7_countGaps_28 : decode cX7_countGaps 28 = .ok (.iconst 1, 1) := by decide +kernel
theorem dX7_countGaps_29 : decode cX7_countGaps 29 = .ok (.iadd, 1) := by decide +kernel
theorem dX7_countGaps_30 : decode cX7_countGaps 30 = .ok (.istore_n 2, 1) := by decide +kernel
theorem dX7_countGaps_31 : decode cX7_countGaps 31 = .ok (.iinc 3 1, 3) := by decide +kernel
theorem dX7_countGaps_34 : decode cX7_countGaps 34 = .ok (.goto (-30), 3) := by decide +kernel
theorem dX7_countGaps_37 : decode cX7_countGaps 37 = .ok (.iload_n 2, 1) := by decide +kernel
theorem dX7_countGaps_38 : decode cX7_countGaps 38 = .ok (.ireturn, 1) := by decide +kernel
def sX7_countGaps_L4 (F : Nat) (l0 : Nat) (l1 : Option Nat) (l2 : Int32) (l3 : Int32) (h : HP) : Option ((Int32 × Int32) ⊕ Int32) :=
  (gI h 7 (some l0) 0).bind fun t1 =>
  if t1 ≤ (l3 + (1 : Int32)) then
    some (.inr l2)
  else
    (dO h 7 (some l0)).bind fun a2 =>
    (sX7_joinsNext F a2 l1 l3 h).bind fun t3 =>
    if t3 = 0 then
      nmI (l2 + (1 : Int32)) fun l2_4 =>
      some (.inl (l2_4, l3 + (1 : Int32)))
    else
      nmI (l2 + (0 : Int32)) fun l2_5 =>
      some (.inl (l2_5, l3 + (1 : Int32)))
def sX7_countGaps (F : Nat) (l0 : Nat) (l1 : Option Nat) (h : HP) : Option Int32 :=
  (iter (fun s => sX7_countGaps_L4 F l0 l1 s.1 s.2 h) F ((0 : Int32), (0 : Int32))).bind fun l2_6 =>
    some l2_6
abbrev rm_X7_countGaps : Room := { frames := 3, cells := 0, slots := 0, locals := 65 }
set_option maxRecDepth 100000 in
set_option maxHeartbeats 4000000 in
theorem mt_X7_countGaps {w : WD} {l : Launch} {F : Nat} {l0 : Nat} {l1 : Option Nat} {h : HP} {v : Int32} (hs : sX7_countGaps F l0 l1 h = some v) : MI w l yX7_countGaps cX7_countGaps 4 .int rm_X7_countGaps 0 0 [rf w (some l0), rf w l1] h v h := by
  refine of_body [(0, rf w (some l0)), (1, rf w l1)] (by decide) (by simp [lg_sl, rf_cat, cat_i, cat_l, cat_a]) (by simp [lv_args, rf_cat, cat_i, cat_l, cat_a]) ?_
  intro x hw_ hnL_ hl_ hc hret hnm hQ
  subst hw_; subst hl_
  have hnl : ∀ i, i < 4 → i < x.nL := fun i h => by rw [hnL_]; exact h
  have hw : wpO (sX7_countGaps F l0 l1 h) (fun r => r = v) := ⟨_, hs, rfl⟩
  unfold sX7_countGaps at hw
  refine R_iconst (v := (0 : Int32)) hc dX7_countGaps_0 kI_0 ?_
  refine R_istore_n (i := 2) (v := (0 : Int32)) hc [(2, .int (0 : Int32)), (0, rf x.w (some l0)), (1, rf x.w l1)] dX7_countGaps_1 rfl (hnl 2 (le_b rfl)) (by simp [rf_cat]) ?_
  refine R_iconst (v := (0 : Int32)) hc dX7_countGaps_2 kI_0 ?_
  refine R_istore_n (i := 3) (v := (0 : Int32)) hc [(3, .int (0 : Int32)), (2, .int (0 : Int32)), (0, rf x.w (some l0)), (1, rf x.w l1)] dX7_countGaps_3 rfl (hnl 3 (le_b rfl)) rfl ?_
  refine R_sub hc [2, 3, 1, 0] rfl ?_
  refine R_loop (P := fun (s : (Int32 × Int32)) => Rn x 0 0 4 [(0, rf x.w (some l0)), (1, rf x.w l1), (2, .int s.1), (3, .int s.2)] [] h) (fun l2_6 => Rn x 0 0 37 [(2, .int l2_6)] [] h) hw (fun r hw => ?_) (fun X hX s hw => ?_)
  · revert r hw
    intro l2_6 hw
    show Rn x 0 0 37 [(2, .int l2_6)] [] h
    refine R_iload_n (q := 0) (i := 2) (v := l2_6) hc dX7_countGaps_37 rfl rfl ?_
    exact R_ireturnP hc hret rfl hQ hw dX7_countGaps_38
  · obtain ⟨l2_8, l3_9⟩ := s
    show Rn x 0 0 4 [(0, rf x.w (some l0)), (1, rf x.w l1), (2, .int l2_8), (3, .int l3_9)] [] h
    have hw : wpO (sX7_countGaps_L4 F l0 l1 l2_8 l3_9 h) _ := hw
    unfold sX7_countGaps_L4 at hw
    refine R_iload_n (q := 3) (i := 3) (v := l3_9) hc dX7_countGaps_4 rfl rfl ?_
    refine R_iconst (v := (1 : Int32)) hc dX7_countGaps_5 kI_1 ?_
    refine R_iadd hc dX7_countGaps_6 ?_
    refine R_aload_n (q := 0) (i := 0) (v := (some l0)) hc dX7_countGaps_7 rfl rfl ?_
    refine R_getI hc fl_7_9 dX7_countGaps_8 hw (fun t1 hw => ?_)
    refine R_icmp_ge (tgt := 37) hc dX7_countGaps_11 (by decide) hw (fun hw => ?_) (fun hw => ?_)
    · refine R_sub hc [2] rfl ?_
      exact (wpO_some hw :)
    · refine R_iload_n (q := 2) (i := 2) (v := l2_8) hc dX7_countGaps_14 rfl rfl ?_
      refine R_aload_n (q := 0) (i := 0) (v := (some l0)) hc dX7_countGaps_15 rfl rfl ?_
      refine R_aload_n (q := 1) (i := 1) (v := l1) hc dX7_countGaps_16 rfl rfl ?_
      refine R_iload_n (q := 3) (i := 3) (v := l3_9) hc dX7_countGaps_17 rfl rfl ?_
      refine R_cVI (As := [rf x.w l1, .int l3_9]) (rest := [.int l2_8]) (r := (some l0)) (ci := 7) hc ml_7_29 mf_X7_joinsNext rfl (by decide) ⟨rfl, rfl⟩ ⟨le_b rfl, le_b rfl⟩ ⟨Nat.zero_le _, Nat.zero_le _⟩ (fun a v e => mt_X7_joinsNext e) rfl rfl (le_b rfl) dX7_countGaps_18 hw (fun t3 hw => ?_)
      refine R_if_eq (tgt := 28) hc dX7_countGaps_21 (by decide) hw (fun hw => ?_) (fun hw => ?_)
      · refine R_iconst (v := (1 : Int32)) hc dX7_countGaps_28 kI_1 ?_
        refine R_iadd hc dX7_countGaps_29 ?_
        refine R_nmI hw (fun l2_4 hw => ?_)
        refine R_istore_n (i := 2) (v := l2_4) hc [(2, .int l2_4), (0, rf x.w (some l0)), (1, rf x.w l1), (3, .int l3_9)] dX7_countGaps_30 rfl (hnl 2 (le_b rfl)) (by simp [rf_cat]) ?_
        refine R_iinc (q := 3) (i := 3) (v := l3_9) hc [(3, .int (l3_9 + (1 : Int32))), (2, .int l2_4), (0, rf x.w (some l0)), (1, rf x.w l1)] dX7_countGaps_31 rfl (kC_1 _) (hnl 3 (le_b rfl)) rfl ?_
        refine R_goto (tgt := 4) hc dX7_countGaps_34 (by decide) ?_
        refine R_sub hc [2, 3, 1, 0] rfl ?_
        exact hX (l2_4, l3_9 + (1 : Int32)) (wpO_some hw :)
      · refine R_iconst (v := (0 : Int32)) hc dX7_countGaps_24 kI_0 ?_
        refine R_goto (tgt := 29) hc dX7_countGaps_25 (by decide) ?_
        refine R_iadd hc dX7_countGaps_29 ?_
        refine R_nmI hw (fun l2_5 hw => ?_)
        refine R_istore_n (i := 2) (v := l2_5) hc [(2, .int l2_5), (0, rf x.w (some l0)), (1, rf x.w l1), (3, .int l3_9)] dX7_countGaps_30 rfl (hnl 2 (le_b rfl)) (by simp [rf_cat]) ?_
        refine R_iinc (q := 3) (i := 3) (v := l3_9) hc [(3, .int (l3_9 + (1 : Int32))), (2, .int l2_5), (0, rf x.w (some l0)), (1, rf x.w l1)] dX7_countGaps_31 rfl (kC_1 _) (hnl 3 (le_b rfl)) rfl ?_
        refine R_goto (tgt := 4) hc dX7_countGaps_34 (by decide) ?_
        refine R_sub hc [2, 3, 1, 0] rfl ?_
        exact hX (l2_5, l3_9 + (1 : Int32)) (wpO_some hw :)
theorem dX0_weigh_0 : decode cX0_weigh 0 = .ok (.aload_n 0, 1) := by decide +kernel
theorem dX0_weigh_1 : decode cX0_weigh 1 = .ok (.getfield 11, 3) := by decide +kernel
theorem dX0_weigh_4 : decode cX0_weigh 4 = .ok (.iconst 0, 1) := by decide +kernel
theorem dX0_weigh_5 : decode cX0_weigh 5 = .ok (.iaload, 1) := by decide +kernel
theorem dX0_weigh_6 : decode cX0_weigh 6 = .ok (.iconst (-1), 1) := by decide +kernel
theorem dX0_weigh_7 : decode cX0_weigh 7 = .ok (.if_icmp .eq 13, 3) := by decide +kernel
theorem dX0_weigh_10 : decode cX0_weigh 10 = .ok (.iload_n 1, 1) := by decide +kernel
theorem dX0_weigh_11 : decode cX0_weigh 11 = .ok (.aload_n 0, 1) := by decide +kernel
theorem dX0_weigh_12 : decode cX0_weigh 12 = .ok (.getfield 11, 3) := by decide +kernel
theorem dX0_weigh_15 : decode cX0_weigh 15 = .ok (.iconst 0, 1) := by decide +kernel
theorem dX0_weigh_16 : decode cX0_weigh 16 = .ok (.iaload, 1) := by decide +kernel
theorem dX0_weigh_17 : decode cX0_weigh 17 = .ok (.if_icmp .ge 32, 3) := by decide +kernel
theorem dX0_weigh_20 : decode cX0_weigh 20 = .ok (.aload_n 0, 1) := by decide +kernel
theorem dX0_weigh_21 : decode cX0_weigh 21 = .ok (.getfield 11, 3) := by decide +kernel
theorem dX0_weigh_24 : decode cX0_weigh 24 = .ok (.iconst 0, 1) := by decide +kernel
theorem dX0_weigh_25 : decode cX0_weigh 25 = .ok (.iload_n 1, 1) := by decide +kernel
theorem dX0_weigh_26 : decode cX0_weigh 26 = .ok (.iastore, 1) := by decide +kernel
theorem dX0_weigh_27 : decode cX0_weigh 27 = .ok (.aload_n 0, 1) := by decide +kernel
theorem dX0_weigh_28 : decode cX0_weigh 28 = .ok (.getfield 11, 3) := by decide +kernel
theorem dX0_weigh_31 : decode cX0_weigh 31 = .ok (.iconst 1, 1) := by decide +kernel
theorem dX0_weigh_32 : decode cX0_weigh 32 = .ok (.iload_n 2, 1) := by decide +kernel
theorem dX0_weigh_33 : decode cX0_weigh 33 = .ok (.iastore, 1) := by decide +kernel
theorem dX0_weigh_34 : decode cX0_weigh 34 = .ok (.aload_n 0, 1) := by decide +kernel
theorem dX0_weigh_35 : decode cX0_weigh 35 = .ok (.getfield 11, 3) := by decide +kernel
theorem dX0_weigh_38 : decode cX0_weigh 38 = .ok (.iconst 2, 1) := by decide +kernel
theorem dX0_weigh_39 : decode cX0_weigh 39 = .ok (.iload_n 3, 1) := by decide +kernel
theorem dX0_weigh_40 : decode cX0_weigh 40 = .ok (.iastore, 1) := by decide +kernel
theorem dX0_weigh_41 : decode cX0_weigh 41 = .ok (.aload_n 0, 1) := by decide +kernel
theorem dX0_weigh_42 : decode cX0_weigh 42 = .ok (.getfield 11, 3) := by decide +kernel
theorem dX0_weigh_45 : decode cX0_weigh 45 = .ok (.iconst 3, 1) := by decide +kernel
theorem dX0_weigh_46 : decode cX0_weigh 46 = .ok (.iload 4, 2) := by decide +kernel
theorem dX0_weigh_48 : decode cX0_weigh 48 = .ok (.iastore, 1) := by decide +kernel
theorem dX0_weigh_49 : decode cX0_weigh 49 = .ok (.return_, 1) := by decide +kernel
def sX0_weigh (F : Nat) (l0 : Nat) (l1 : Int32) (l2 : Int32) (l3 : Int32) (l4 : Int32) (h : HP) : Option HP :=
  (gR h 0 (some l0) 0).bind fun t1 =>
  (aI h 13 t1 (0 : Int32)).bind fun t2 =>
  if t2 = (-1 : Int32) then
    (gR h 0 (some l0) 0).bind fun t3 =>
    (sI h t3 (0 : Int32) l1).bind fun h4 =>
    (gR h4 0 (some l0) 0).bind fun t5 =>
    (sI h4 t5 (1 : Int32) l2).bind fun h6 =>
    (gR h6 0 (some l0) 0).bind fun t7 =>
    (sI h6 t7 (2 : Int32) l3).bind fun h8 =>
    (gR h8 0 (some l0) 0).bind fun t9 =>
    (sI h8 t9 (3 : Int32) l4).bind fun h10 =>
    some h10
  else
    (gR h 0 (some l0) 0).bind fun t11 =>
    (aI h 13 t11 (0 : Int32)).bind fun t12 =>
    if t12 ≤ l1 then
      some h
    else
      (gR h 0 (some l0) 0).bind fun t13 =>
      (sI h t13 (0 : Int32) l1).bind fun h14 =>
      (gR h14 0 (some l0) 0).bind fun t15 =>
      (sI h14 t15 (1 : Int32) l2).bind fun h16 =>
      (gR h16 0 (some l0) 0).bind fun t17 =>
      (sI h16 t17 (2 : Int32) l3).bind fun h18 =>
      (gR h18 0 (some l0) 0).bind fun t19 =>
      (sI h18 t19 (3 : Int32) l4).bind fun h20 =>
      some h20
abbrev rm_X0_weigh : Room := { frames := 0, cells := 0, slots := 0, locals := 0 }
set_option maxRecDepth 100000 in
set_option maxHeartbeats 4000000 in
theorem mt_X0_weigh {w : WD} {l : Launch} {F : Nat} {l0 : Nat} {l1 : Int32} {l2 : Int32} {l3 : Int32} {l4 : Int32} {h : HP} {h' : HP} (hs : sX0_weigh F l0 l1 l2 l3 l4 h = some h') : MV w l yX0_weigh cX0_weigh 5 rm_X0_weigh 0 0 [rf w (some l0), .int l1, .int l2, .int l3, .int l4] h h' := by
  refine of_body [(0, rf w (some l0)), (1, .int l1), (2, .int l2), (3, .int l3), (4, .int l4)] (by decide) (by simp [lg_sl, rf_cat, cat_i, cat_l, cat_a]) (by simp [lv_args, rf_cat, cat_i, cat_l, cat_a]) ?_
  intro x hw_ hnL_ hl_ hc hret hnm hQ
  subst hw_; subst hl_
  have hnl : ∀ i, i < 5 → i < x.nL := fun i h => by rw [hnL_]; exact h
  have hw : wpO (sX0_weigh F l0 l1 l2 l3 l4 h) (fun r => r = h') := ⟨_, hs, rfl⟩
  unfold sX0_weigh at hw
  refine R_aload_n (q := 0) (i := 0) (v := (some l0)) hc dX0_weigh_0 rfl rfl ?_
  refine R_getR hc fl_0_11 dX0_weigh_1 hw (fun t1 hw => ?_)
  refine R_iconst (v := (0 : Int32)) hc dX0_weigh_4 kI_0 ?_
  refine R_iaload hc dX0_weigh_5 hw (fun t2 hw => ?_)
  refine R_iconst (v := (-1 : Int32)) hc dX0_weigh_6 kI_m1 ?_
  refine R_icmp_eq (tgt := 20) hc dX0_weigh_7 (by decide) hw (fun hw => ?_) (fun hw => ?_)
  · refine R_aload_n (q := 0) (i := 0) (v := (some l0)) hc dX0_weigh_20 rfl rfl ?_
    refine R_getR hc fl_0_11 dX0_weigh_21 hw (fun t3 hw => ?_)
    refine R_iconst (v := (0 : Int32)) hc dX0_weigh_24 kI_0 ?_
    refine R_iload_n (q := 1) (i := 1) (v := l1) hc dX0_weigh_25 rfl rfl ?_
    refine R_iastore hc dX0_weigh_26 hw (fun h4 hw => ?_)
    refine R_aload_n (q := 0) (i := 0) (v := (some l0)) hc dX0_weigh_27 rfl rfl ?_
    refine R_getR hc fl_0_11 dX0_weigh_28 hw (fun t5 hw => ?_)
    refine R_iconst (v := (1 : Int32)) hc dX0_weigh_31 kI_1 ?_
    refine R_iload_n (q := 2) (i := 2) (v := l2) hc dX0_weigh_32 rfl rfl ?_
    refine R_iastore hc dX0_weigh_33 hw (fun h6 hw => ?_)
    refine R_aload_n (q := 0) (i := 0) (v := (some l0)) hc dX0_weigh_34 rfl rfl ?_
    refine R_getR hc fl_0_11 dX0_weigh_35 hw (fun t7 hw => ?_)
    refine R_iconst (v := (2 : Int32)) hc dX0_weigh_38 kI_2 ?_
    refine R_iload_n (q := 3) (i := 3) (v := l3) hc dX0_weigh_39 rfl rfl ?_
    refine R_iastore hc dX0_weigh_40 hw (fun h8 hw => ?_)
    refine R_aload_n (q := 0) (i := 0) (v := (some l0)) hc dX0_weigh_41 rfl rfl ?_
    refine R_getR hc fl_0_11 dX0_weigh_42 hw (fun t9 hw => ?_)
    refine R_iconst (v := (3 : Int32)) hc dX0_weigh_45 kI_3 ?_
    refine R_iload (q := 4) (i := 4) (v := l4) hc dX0_weigh_46 rfl ?_
    refine R_iastore hc dX0_weigh_48 hw (fun h10 hw => ?_)
    exact R_return hc hret hQ hw dX0_weigh_49
  · refine R_iload_n (q := 1) (i := 1) (v := l1) hc dX0_weigh_10 rfl rfl ?_
    refine R_aload_n (q := 0) (i := 0) (v := (some l0)) hc dX0_weigh_11 rfl rfl ?_
    refine R_getR hc fl_0_11 dX0_weigh_12 hw (fun t11 hw => ?_)
    refine R_iconst (v := (0 : Int32)) hc dX0_weigh_15 kI_0 ?_
    refine R_iaload hc dX0_weigh_16 hw (fun t12 hw => ?_)
    refine R_icmp_ge (tgt := 49) hc dX0_weigh_17 (by decide) hw (fun hw => ?_) (fun hw => ?_)
    · exact R_return hc hret hQ hw dX0_weigh_49
    · refine R_aload_n (q := 0) (i := 0) (v := (some l0)) hc dX0_weigh_20 rfl rfl ?_
      refine R_getR hc fl_0_11 dX0_weigh_21 hw (fun t13 hw => ?_)
      refine R_iconst (v := (0 : Int32)) hc dX0_weigh_24 kI_0 ?_
      refine R_iload_n (q := 1) (i := 1) (v := l1) hc dX0_weigh_25 rfl rfl ?_
      refine R_iastore hc dX0_weigh_26 hw (fun h14 hw => ?_)
      refine R_aload_n (q := 0) (i := 0) (v := (some l0)) hc dX0_weigh_27 rfl rfl ?_
      refine R_getR hc fl_0_11 dX0_weigh_28 hw (fun t15 hw => ?_)
      refine R_iconst (v := (1 : Int32)) hc dX0_weigh_31 kI_1 ?_
      refine R_iload_n (q := 2) (i := 2) (v := l2) hc dX0_weigh_32 rfl rfl ?_
      refine R_iastore hc dX0_weigh_33 hw (fun h16 hw => ?_)
      refine R_aload_n (q := 0) (i := 0) (v := (some l0)) hc dX0_weigh_34 rfl rfl ?_
      refine R_getR hc fl_0_11 dX0_weigh_35 hw (fun t17 hw => ?_)
      refine R_iconst (v := (2 : Int32)) hc dX0_weigh_38 kI_2 ?_
      refine R_iload_n (q := 3) (i := 3) (v := l3) hc dX0_weigh_39 rfl rfl ?_
      refine R_iastore hc dX0_weigh_40 hw (fun h18 hw => ?_)
      refine R_aload_n (q := 0) (i := 0) (v := (some l0)) hc dX0_weigh_41 rfl rfl ?_
      refine R_getR hc fl_0_11 dX0_weigh_42 hw (fun t19 hw => ?_)
      refine R_iconst (v := (3 : Int32)) hc dX0_weigh_45 kI_3 ?_
      refine R_iload (q := 4) (i := 4) (v := l4) hc dX0_weigh_46 rfl ?_
      refine R_iastore hc dX0_weigh_48 hw (fun h20 hw => ?_)
      exact R_return hc hret hQ hw dX0_weigh_49
theorem dX7_shift_0 : decode cX7_shift 0 = .ok (.aload_n 0, 1) := by decide +kernel
theorem dX7_shift_1 : decode cX7_shift 1 = .ok (.getfield 15, 3) := by decide +kernel
theorem dX7_shift_4 : decode cX7_shift 4 = .ok (.iload_n 1, 1) := by decide +kernel
theorem dX7_shift_5 : decode cX7_shift 5 = .ok (.iaload, 1) := by decide +kernel
theorem dX7_shift_6 : decode cX7_shift 6 = .ok (.istore_n 3, 1) := by decide +kernel
theorem dX7_shift_7 : decode cX7_shift 7 = .ok (.iload_n 1, 1) := by decide +kernel
theorem dX7_shift_8 : decode cX7_shift 8 = .ok (.istore 4, 2) := by decide +kernel
theorem dX7_shift_10 : decode cX7_shift 10 = .ok (.iload 4, 2) := by decide +kernel
theorem dX7_shift_12 : decode cX7_shift 12 = .ok (.iload_n 2, 1) := by decide +kernel
theorem dX7_shift_13 : decode cX7_shift 13 = .ok (.if_icmp .ge 25, 3) := by decide +kernel
theorem dX7_shift_16 : decode cX7_shift 16 = .ok (.aload_n 0, 1) := by decide +kernel
theorem dX7_shift_17 : decode cX7_shift 17 = .ok (.getfield 15, 3) := by decide +kernel
theorem dX7_shift_20 : decode cX7_shift 20 = .ok (.iload 4, 2) := by decide +kernel
theorem dX7_shift_22 : decode cX7_shift 22 = .ok (.aload_n 0, 1) := by decide +kernel
theorem dX7_shift_23 : decode cX7_shift 23 = .ok (.getfield 15, 3) := by decide +kernel
theorem dX7_shift_26 : decode cX7_shift 26 = .ok (.iload 4, 2) := by decide +kernel
theorem dX7_shift_28 : decode cX7_shift 28 = .ok (.iconst 1, 1) := by decide +kernel
theorem dX7_shift_29 : decode cX7_shift 29 = .ok (.iadd, 1) := by decide +kernel
theorem dX7_shift_30 : decode cX7_shift 30 = .ok (.iaload, 1) := by decide +kernel
theorem dX7_shift_31 : decode cX7_shift 31 = .ok (.iastore, 1) := by decide +kernel
theorem dX7_shift_32 : decode cX7_shift 32 = .ok (.iinc 4 1, 3) := by decide +kernel
theorem dX7_shift_35 : decode cX7_shift 35 = .ok (.goto (-25), 3) := by decide +kernel
theorem dX7_shift_38 : decode cX7_shift 38 = .ok (.iload_n 1, 1) := by decide +kernel
theorem dX7_shift_39 : decode cX7_shift 39 = .ok (.istore 4, 2) := by decide +kernel
theorem dX7_shift_41 : decode cX7_shift 41 = .ok (.iload 4, 2) := by decide +kernel
theorem dX7_shift_43 : decode cX7_shift 43 = .ok (.iload_n 2, 1) := by decide +kernel
theorem dX7_shift_44 : decode cX7_shift 44 = .ok (.if_icmp .le 25, 3) := by decide +kernel
theorem dX7_shift_47 : decode cX7_shift 47 = .ok (.aload_n 0, 1) := by decide +kernel
theorem dX7_shift_48 : decode cX7_shift 48 = .ok (.getfield 15, 3) := by decide +kernel
theorem dX7_shift_51 : decode cX7_shift 51 = .ok (.iload 4, 2) := by decide +kernel
theorem dX7_shift_53 : decode cX7_shift 53 = .ok (.aload_n 0, 1) := by decide +kernel
theorem dX7_shift_54 : decode cX7_shift 54 = .ok (.getfield 15, 3) := by decide +kernel
theorem dX7_shift_57 : decode cX7_shift 57 = .ok (.iload 4, 2) := by decide +kernel
theorem dX7_shift_59 : decode cX7_shift 59 = .ok (.iconst 1, 1) := by decide +kernel
theorem dX7_shift_60 : decode cX7_shift 60 = .ok (.isub, 1) := by decide +kernel
theorem dX7_shift_61 : decode cX7_shift 61 = .ok (.iaload, 1) := by decide +kernel
theorem dX7_shift_62 : decode cX7_shift 62 = .ok (.iastore, 1) := by decide +kernel
theorem dX7_shift_63 : decode cX7_shift 63 = .ok (.iinc 4 (-1), 3) := by decide +kernel
theorem dX7_shift_66 : decode cX7_shift 66 = .ok (.goto (-25), 3) := by decide +kernel
theorem dX7_shift_69 : decode cX7_shift 69 = .ok (.aload_n 0, 1) := by decide +kernel
theorem dX7_shift_70 : decode cX7_shift 70 = .ok (.getfield 15, 3) := by decide +kernel
theorem dX7_shift_73 : decode cX7_shift 73 = .ok (.iload_n 2, 1) := by decide +kernel
theorem dX7_shift_74 : decode cX7_shift 74 = .ok (.iload_n 3, 1) := by decide +kernel
theorem dX7_shift_75 : decode cX7_shift 75 = .ok (.iastore, 1) := by decide +kernel
theorem dX7_shift_76 : decode cX7_shift 76 = .ok (.return_, 1) := by decide +kernel
def sX7_shift_L10 (F : Nat) (l0 : Nat) (l1 : Int32) (l2 : Int32) (l3 : Int32) (l4 : Int32) (h : HP) : Option ((Int32 × HP) ⊕ HP) :=
  if l2 ≤ l4 then
    some (.inr h)
  else
    (gR h 7 (some l0) 1).bind fun t3 =>
    (gR h 7 (some l0) 1).bind fun t4 =>
    (aI h 13 t4 (l4 + (1 : Int32))).bind fun t5 =>
    (sI h t3 l4 t5).bind fun h6 =>
    some (.inl (l4 + (1 : Int32), h6))
def sX7_shift_L41 (F : Nat) (l0 : Nat) (l2 : Int32) (l3 : Int32) (l4 : Int32) (h : HP) : Option ((Int32 × HP) ⊕ HP) :=
  if l4 ≤ l2 then
    some (.inr h)
  else
    (gR h 7 (some l0) 1).bind fun t8 =>
    (gR h 7 (some l0) 1).bind fun t9 =>
    (aI h 13 t9 (l4 - (1 : Int32))).bind fun t10 =>
    (sI h t8 l4 t10).bind fun h11 =>
    some (.inl (l4 + (-1 : Int32), h11))
def sX7_shift (F : Nat) (l0 : Nat) (l1 : Int32) (l2 : Int32) (h : HP) : Option HP :=
  (gR h 7 (some l0) 1).bind fun t1 =>
  (aI h 13 t1 l1).bind fun t2 =>
  (iter (fun s => sX7_shift_L10 F l0 l1 l2 t2 s.1 s.2) F (l1, h)).bind fun h7 =>
    (iter (fun s => sX7_shift_L41 F l0 l2 t2 s.1 s.2) F (l1, h7)).bind fun h12 =>
      (gR h12 7 (some l0) 1).bind fun t13 =>
      (sI h12 t13 l2 t2).bind fun h14 =>
      some h14
abbrev rm_X7_shift : Room := { frames := 0, cells := 0, slots := 0, locals := 0 }
set_option maxRecDepth 100000 in
set_option maxHeartbeats 4000000 in
theorem mt_X7_shift {w : WD} {l : Launch} {F : Nat} {l0 : Nat} {l1 : Int32} {l2 : Int32} {h : HP} {h' : HP} (hs : sX7_shift F l0 l1 l2 h = some h') : MV w l yX7_shift cX7_shift 5 rm_X7_shift 0 0 [rf w (some l0), .int l1, .int l2] h h' := by
  refine of_body [(0, rf w (some l0)), (1, .int l1), (2, .int l2)] (by decide) (by simp [lg_sl, rf_cat, cat_i, cat_l, cat_a]) (by simp [lv_args, rf_cat, cat_i, cat_l, cat_a]) ?_
  intro x hw_ hnL_ hl_ hc hret hnm hQ
  subst hw_; subst hl_
  have hnl : ∀ i, i < 5 → i < x.nL := fun i h => by rw [hnL_]; exact h
  have hw : wpO (sX7_shift F l0 l1 l2 h) (fun r => r = h') := ⟨_, hs, rfl⟩
  unfold sX7_shift at hw
  refine R_aload_n (q := 0) (i := 0) (v := (some l0)) hc dX7_shift_0 rfl rfl ?_
  refine R_getR hc fl_7_15 dX7_shift_1 hw (fun t1 hw => ?_)
  refine R_iload_n (q := 1) (i := 1) (v := l1) hc dX7_shift_4 rfl rfl ?_
  refine R_iaload hc dX7_shift_5 hw (fun t2 hw => ?_)
  refine R_istore_n (i := 3) (v := t2) hc [(3, .int t2), (0, rf x.w (some l0)), (1, .int l1), (2, .int l2)] dX7_shift_6 rfl (hnl 3 (le_b rfl)) rfl ?_
  refine R_iload_n (q := 2) (i := 1) (v := l1) hc dX7_shift_7 rfl rfl ?_
  refine R_istore (i := 4) (v := l1) hc [(4, .int l1), (3, .int t2), (0, rf x.w (some l0)), (1, .int l1), (2, .int l2)] dX7_shift_8 (hnl 4 (le_b rfl)) rfl ?_
  refine R_sub hc [2, 3, 4, 1, 0] rfl ?_
  refine R_loop (P := fun (s : (Int32 × HP)) => Rn x 0 0 10 [(0, rf x.w (some l0)), (1, .int l1), (2, .int l2), (3, .int t2), (4, .int s.1)] [] s.2) (fun h7 => Rn x 0 0 38 [(0, rf x.w (some l0)), (1, .int l1), (2, .int l2), (3, .int t2)] [] h7) hw (fun r hw => ?_) (fun X hX s hw => ?_)
  · revert r hw
    intro h7 hw
    show Rn x 0 0 38 [(0, rf x.w (some l0)), (1, .int l1), (2, .int l2), (3, .int t2)] [] h7
    refine R_iload_n (q := 1) (i := 1) (v := l1) hc dX7_shift_38 rfl rfl ?_
    refine R_istore (i := 4) (v := l1) hc [(4, .int l1), (0, rf x.w (some l0)), (1, .int l1), (2, .int l2), (3, .int t2)] dX7_shift_39 (hnl 4 (le_b rfl)) rfl ?_
    refine R_sub hc [1, 3, 4, 0] rfl ?_
    refine R_loop (P := fun (s : (Int32 × HP)) => Rn x 0 0 41 [(0, rf x.w (some l0)), (2, .int l2), (3, .int t2), (4, .int s.1)] [] s.2) (fun h12 => Rn x 0 0 69 [(0, rf x.w (some l0)), (2, .int l2), (3, .int t2)] [] h12) hw (fun r hw => ?_) (fun X hX s hw => ?_)
    · revert r hw
      intro h12 hw
      show Rn x 0 0 69 [(0, rf x.w (some l0)), (2, .int l2), (3, .int t2)] [] h12
      refine R_aload_n (q := 0) (i := 0) (v := (some l0)) hc dX7_shift_69 rfl rfl ?_
      refine R_getR hc fl_7_15 dX7_shift_70 hw (fun t13 hw => ?_)
      refine R_iload_n (q := 1) (i := 2) (v := l2) hc dX7_shift_73 rfl rfl ?_
      refine R_iload_n (q := 2) (i := 3) (v := t2) hc dX7_shift_74 rfl rfl ?_
      refine R_iastore hc dX7_shift_75 hw (fun h14 hw => ?_)
      exact R_return hc hret hQ hw dX7_shift_76
    · obtain ⟨l4_16, h17⟩ := s
      show Rn x 0 0 41 [(0, rf x.w (some l0)), (2, .int l2), (3, .int t2), (4, .int l4_16)] [] h17
      have hw : wpO (sX7_shift_L41 F l0 l2 t2 l4_16 h17) _ := hw
      unfold sX7_shift_L41 at hw
      refine R_iload (q := 3) (i := 4) (v := l4_16) hc dX7_shift_41 rfl ?_
      refine R_iload_n (q := 1) (i := 2) (v := l2) hc dX7_shift_43 rfl rfl ?_
      refine R_icmp_le (tgt := 69) hc dX7_shift_44 (by decide) hw (fun hw => ?_) (fun hw => ?_)
      · refine R_sub hc [0, 1, 2] rfl ?_
        exact (wpO_some hw :)
      · refine R_aload_n (q := 0) (i := 0) (v := (some l0)) hc dX7_shift_47 rfl rfl ?_
        refine R_getR hc fl_7_15 dX7_shift_48 hw (fun t8 hw => ?_)
        refine R_iload (q := 3) (i := 4) (v := l4_16) hc dX7_shift_51 rfl ?_
        refine R_aload_n (q := 0) (i := 0) (v := (some l0)) hc dX7_shift_53 rfl rfl ?_
        refine R_getR hc fl_7_15 dX7_shift_54 hw (fun t9 hw => ?_)
        refine R_iload (q := 3) (i := 4) (v := l4_16) hc dX7_shift_57 rfl ?_
        refine R_iconst (v := (1 : Int32)) hc dX7_shift_59 kI_1 ?_
        refine R_isub hc dX7_shift_60 ?_
        refine R_iaload hc dX7_shift_61 hw (fun t10 hw => ?_)
        refine R_iastore hc dX7_shift_62 hw (fun h11 hw => ?_)
        refine R_iinc (q := 3) (i := 4) (v := l4_16) hc [(4, .int (l4_16 + (-1 : Int32))), (0, rf x.w (some l0)), (2, .int l2), (3, .int t2)] dX7_shift_63 rfl (kC_m1 _) (hnl 4 (le_b rfl)) rfl ?_
        refine R_goto (tgt := 41) hc dX7_shift_66 (by decide) ?_
        refine R_sub hc [1, 2, 3, 0] rfl ?_
        exact hX (l4_16 + (-1 : Int32), h11) (wpO_some hw :)
  · obtain ⟨l4_19, h20⟩ := s
    show Rn x 0 0 10 [(0, rf x.w (some l0)), (1, .int l1), (2, .int l2), (3, .int t2), (4, .int l4_19)] [] h20
    have hw : wpO (sX7_shift_L10 F l0 l1 l2 t2 l4_19 h20) _ := hw
    unfold sX7_shift_L10 at hw
    refine R_iload (q := 4) (i := 4) (v := l4_19) hc dX7_shift_10 rfl ?_
    refine R_iload_n (q := 2) (i := 2) (v := l2) hc dX7_shift_12 rfl rfl ?_
    refine R_icmp_ge (tgt := 38) hc dX7_shift_13 (by decide) hw (fun hw => ?_) (fun hw => ?_)
    · refine R_sub hc [0, 1, 2, 3] rfl ?_
      exact (wpO_some hw :)
    · refine R_aload_n (q := 0) (i := 0) (v := (some l0)) hc dX7_shift_16 rfl rfl ?_
      refine R_getR hc fl_7_15 dX7_shift_17 hw (fun t3 hw => ?_)
      refine R_iload (q := 4) (i := 4) (v := l4_19) hc dX7_shift_20 rfl ?_
      refine R_aload_n (q := 0) (i := 0) (v := (some l0)) hc dX7_shift_22 rfl rfl ?_
      refine R_getR hc fl_7_15 dX7_shift_23 hw (fun t4 hw => ?_)
      refine R_iload (q := 4) (i := 4) (v := l4_19) hc dX7_shift_26 rfl ?_
      refine R_iconst (v := (1 : Int32)) hc dX7_shift_28 kI_1 ?_
      refine R_iadd hc dX7_shift_29 ?_
      refine R_iaload hc dX7_shift_30 hw (fun t5 hw => ?_)
      refine R_iastore hc dX7_shift_31 hw (fun h6 hw => ?_)
      refine R_iinc (q := 4) (i := 4) (v := l4_19) hc [(4, .int (l4_19 + (1 : Int32))), (0, rf x.w (some l0)), (1, .int l1), (2, .int l2), (3, .int t2)] dX7_shift_32 rfl (kC_1 _) (hnl 4 (le_b rfl)) rfl ?_
      refine R_goto (tgt := 10) hc dX7_shift_35 (by decide) ?_
      refine R_sub hc [1, 2, 3, 4, 0] rfl ?_
      exact hX (l4_19 + (1 : Int32), h6) (wpO_some hw :)
theorem dX0_seek_0 : decode cX0_seek 0 = .ok (.iconst 0, 1) := by decide +kernel
theorem dX0_seek_1 : decode cX0_seek 1 = .ok (.istore 4, 2) := by decide +kernel
theorem dX0_seek_3 : decode cX0_seek 3 = .ok (.iload 4, 2) := by decide +kernel
theorem dX0_seek_5 : decode cX0_seek 5 = .ok (.iconst 4, 1) := by decide +kernel
theorem dX0_seek_6 : decode cX0_seek 6 = .ok (.if_icmp .ge 17, 3) := by decide +kernel
theorem dX0_seek_9 : decode cX0_seek 9 = .ok (.aload_n 0, 1) := by decide +kernel
theorem dX0_seek_10 : decode cX0_seek 10 = .ok (.getfield 11, 3) := by decide +kernel
theorem dX0_seek_13 : decode cX0_seek 13 = .ok (.iload 4, 2) := by decide +kernel
theorem dX0_seek_15 : decode cX0_seek 15 = .ok (.iconst (-1), 1) := by decide +kernel
theorem dX0_seek_16 : decode cX0_seek 16 = .ok (.iastore, 1) := by decide +kernel
theorem dX0_seek_17 : decode cX0_seek 17 = .ok (.iinc 4 1, 3) := by decide +kernel
theorem dX0_seek_20 : decode cX0_seek 20 = .ok (.goto (-17), 3) := by decide +kernel
theorem dX0_seek_23 : decode cX0_seek 23 = .ok (.iconst 0, 1) := by decide +kernel
theorem dX0_seek_24 : decode cX0_seek 24 = .ok (.istore 4, 2) := by decide +kernel
theorem dX0_seek_26 : decode cX0_seek 26 = .ok (.iload 4, 2) := by decide +kernel
theorem dX0_seek_28 : decode cX0_seek 28 = .ok (.aload_n 2, 1) := by decide +kernel
theorem dX0_seek_29 : decode cX0_seek 29 = .ok (.getfield 15, 3) := by decide +kernel
theorem dX0_seek_32 : decode cX0_seek 32 = .ok (.if_icmp .ge 62, 3) := by decide +kernel
theorem dX0_seek_35 : decode cX0_seek 35 = .ok (.iconst 0, 1) := by decide +kernel
theorem dX0_seek_36 : decode cX0_seek 36 = .ok (.istore 5, 2) := by decide +kernel
theorem dX0_seek_38 : decode cX0_seek 38 = .ok (.iload 5, 2) := by decide +kernel
theorem dX0_seek_40 : decode cX0_seek 40 = .ok (.iconst 4, 1) := by decide +kernel
theorem dX0_seek_41 : decode cX0_seek 41 = .ok (.if_icmp .ge 47, 3) := by decide +kernel
theorem dX0_seek_44 : decode cX0_seek 44 = .ok (.iload 5, 2) := by decide +kernel
theorem dX0_seek_46 : decode cX0_seek 46 = .ok (.aload_n 2, 1) := by decide +kernel
theorem dX0_seek_47 : decode cX0_seek 47 = .ok (.iload 4, 2) := by decide +kernel
theorem dX0_seek_49 : decode cX0_seek 49 = .ok (.invokevirtual 21, 3) := by decide +kernel
theorem dX0_seek_52 : decode cX0_seek 52 = .ok (.if_icmp .eq 30, 3) := by decide +kernel
theorem dX0_seek_55 : decode cX0_seek 55 = .ok (.aload_n 3, 1) := by decide +kernel
theorem dX0_seek_56 : decode cX0_seek 56 = .ok (.aload_n 2, 1) := by decide +kernel
theorem dX0_seek_57 : decode cX0_seek 57 = .ok (.invokevirtual 25, 3) := by decide +kernel
theorem dX0_seek_60 : decode cX0_seek 60 = .ok (.aload_n 3, 1) := by decide +kernel
theorem dX0_seek_61 : decode cX0_seek 61 = .ok (.iload 4, 2) := by decide +kernel
theorem dX0_seek_63 : decode cX0_seek 63 = .ok (.iload 5, 2) := by decide +kernel
theorem dX0_seek_65 : decode cX0_seek 65 = .ok (.invokevirtual 29, 3) := by decide +kernel
theorem dX0_seek_68 : decode cX0_seek 68 = .ok (.aload_n 0, 1) := by decide +kernel
theorem dX0_seek_69 : decode cX0_seek 69 = .ok (.aload_n 3, 1) := by decide +kernel
theorem dX0_seek_70 : decode cX0_seek 70 = .ok (.aload_n 1, 1) := by decide +kernel
theorem dX0_seek_71 : decode cX0_seek 71 = .ok (.invokevirtual 33, 3) := by decide +kernel
theorem dX0_seek_74 : decode cX0_seek 74 = .ok (.iconst 1, 1) := by decide +kernel
theorem dX0_seek_75 : decode cX0_seek 75 = .ok (.iload 4, 2) := by decide +kernel
theorem dX0_seek_77 : decode cX0_seek 77 = .ok (.iload 5, 2) := by decide +kernel
theorem dX0_seek_79 : decode cX0_seek 79 = .ok (.invokevirtual 37, 3) := by decide +kernel
theorem dX0_seek_82 : decode cX0_seek 82 = .ok (.iinc 5 1, 3) := by decide +kernel
theorem dX0_seek_85 : decode cX0_seek 85 = .ok (.goto (-47), 3) := by decide +kernel
theorem dX0_seek_88 : decode cX0_seek 88 = .ok (.iinc 4 1, 3) := by decide +kernel
theorem dX0_seek_91 : decode cX0_seek 91 = .ok (.goto (-65), 3) := by decide +kernel
theorem dX0_seek_94 : decode cX0_seek 94 = .ok (.iconst 0, 1) := by decide +kernel
theorem dX0_seek_95 : decode cX0_seek 95 = .ok (.istore 4, 2) := by decide +kernel
theorem dX0_seek_97 : decode cX0_seek 97 = .ok (.iload 4, 2) := by decide +kernel
theorem dX0_seek_99 : decode cX0_seek 99 = .ok (.aload_n 2, 1) := by decide +kernel
theorem dX0_seek_100 : decode cX0_seek 100 = .ok (.getfield 15, 3) := by decide +kernel
theorem dX0_seek_103 : decode cX0_seek 103 = .ok (.if_icmp .ge 61, 3) := by decide +kernel
theorem dX0_seek_106 : decode cX0_seek 106 = .ok (.iconst 0, 1) := by decide +kernel
theorem dX0_seek_107 : decode cX0_seek 107 = .ok (.istore 5, 2) := by decide +kernel
theorem dX0_seek_109 : decode cX0_seek 109 = .ok (.iload 5, 2) := by decide +kernel
theorem dX0_seek_111 : decode cX0_seek 111 = .ok (.aload_n 2, 1) := by decide +kernel
theorem dX0_seek_112 : decode cX0_seek 112 = .ok (.getfield 15, 3) := by decide +kernel
theorem dX0_seek_115 : decode cX0_seek 115 = .ok (.if_icmp .ge 43, 3) := by decide +kernel
theorem dX0_seek_118 : decode cX0_seek 118 = .ok (.iload 5, 2) := by decide +kernel
theorem dX0_seek_120 : decode cX0_seek 120 = .ok (.iload 4, 2) := by decide +kernel
theorem dX0_seek_122 : decode cX0_seek 122 = .ok (.if_icmp .eq 30, 3) := by decide +kernel
theorem dX0_seek_125 : decode cX0_seek 125 = .ok (.aload_n 3, 1) := by decide +kernel
theorem dX0_seek_126 : decode cX0_seek 126 = .ok (.aload_n 2, 1) := by decide +kernel
theorem dX0_seek_127 : decode cX0_seek 127 = .ok (.invokevirtual 25, 3) := by decide +kernel
theorem dX0_seek_130 : decode cX0_seek 130 = .ok (.aload_n 3, 1) := by decide +kernel
theorem dX0_seek_131 : decode cX0_seek 131 = .ok (.iload 4, 2) := by decide +kernel
theorem dX0_seek_133 : decode cX0_seek 133 = .ok (.iload 5, 2) := by decide +kernel
theorem dX0_seek_135 : decode cX0_seek 135 = .ok (.invokevirtual 41, 3) := by decide +kernel
theorem dX0_seek_138 : decode cX0_seek 138 = .ok (.aload_n 0, 1) := by decide +kernel
theorem dX0_seek_139 : decode cX0_seek 139 = .ok (.aload_n 3, 1) := by decide +kernel
theorem dX0_seek_140 : decode cX0_seek 140 = .ok (.aload_n 1, 1) := by decide +kernel
theorem dX0_seek_141 : decode cX0_seek 141 = .ok (.invokevirtual 33, 3) := by decide +kernel
theorem dX0_seek_144 : decode cX0_seek 144 = .ok (.iconst 2, 1) := by decide +kernel
theorem dX0_seek_145 : decode cX0_seek 145 = .ok (.iload 4, 2) := by decide +kernel
theorem dX0_seek_147 : decode cX0_seek 147 = .ok (.iload 5, 2) := by decide +kernel
theorem dX0_seek_149 : decode cX0_seek 149 = .ok (.invokevirtual 37, 3) := by decide +kernel
theorem dX0_seek_152 : decode cX0_seek 152 = .ok (.iinc 5 1, 3) := by decide +kernel
theorem dX0_seek_155 : decode cX0_seek 155 = .ok (.goto (-46), 3) := by decide +kernel
theorem dX0_seek_158 : decode cX0_seek 158 = .ok (.iinc 4 1, 3) := by decide +kernel
theorem dX0_seek_161 : decode cX0_seek 161 = .ok (.goto (-64), 3) := by decide +kernel
theorem dX0_seek_164 : decode cX0_seek 164 = .ok (.return_, 1) := by decide +kernel
def sX0_seek_L3 (F : Nat) (l0 : Nat) (l1 : Option Nat) (l2 : Option Nat) (l3 : Option Nat) (l4 : Int32) (h : HP) : Option ((Int32 × HP) ⊕ HP) :=
  if (4 : Int32) ≤ l4 then
    some (.inr h)
  else
    (gR h 0 (some l0) 0).bind fun t1 =>
    (sI h t1 l4 (-1 : Int32)).bind fun h2 =>
    some (.inl (l4 + (1 : Int32), h2))
def sX0_seek_L38 (F : Nat) (l0 : Nat) (l1 : Option Nat) (l2 : Option Nat) (l3 : Option Nat) (l4 : Int32) (l5 : Int32) (h : HP) : Option ((Int32 × HP) ⊕ HP) :=
  if (4 : Int32) ≤ l5 then
    some (.inr h)
  else
    (dO h 7 l2).bind fun a5 =>
    (sX7_turnAt F a5 l4 h).bind fun t6 =>
    if l5 = t6 then
      some (.inl (l5 + (1 : Int32), h))
    else
      (dO h 7 l3).bind fun a7 =>
      (sX7_copyFrom F a7 l2 h).bind fun h8 =>
      (dO h8 7 l3).bind fun a9 =>
      (sX7_setTurn F a9 l4 l5 h8).bind fun h10 =>
      (dO h10 7 l3).bind fun a11 =>
      (sX7_countGaps F a11 l1 h10).bind fun t12 =>
      (dO h10 0 (some l0)).bind fun a13 =>
      (sX0_weigh F a13 t12 (1 : Int32) l4 l5 h10).bind fun h14 =>
      some (.inl (l5 + (1 : Int32), h14))
def sX0_seek_L26 (F : Nat) (l0 : Nat) (l1 : Option Nat) (l2 : Option Nat) (l3 : Option Nat) (l4 : Int32) (h : HP) : Option ((Int32 × HP) ⊕ HP) :=
  (gI h 7 l2 0).bind fun t4 =>
  if t4 ≤ l4 then
    some (.inr h)
  else
    (iter (fun s => sX0_seek_L38 F l0 l1 l2 l3 l4 s.1 s.2) F ((0 : Int32), h)).bind fun h15 =>
      some (.inl (l4 + (1 : Int32), h15))
def sX0_seek_L109 (F : Nat) (l0 : Nat) (l1 : Option Nat) (l2 : Option Nat) (l3 : Option Nat) (l4 : Int32) (l5 : Int32) (h : HP) : Option ((Int32 × HP) ⊕ HP) :=
  (gI h 7 l2 0).bind fun t21 =>
  if t21 ≤ l5 then
    some (.inr h)
  else
    if l5 = l4 then
      some (.inl (l5 + (1 : Int32), h))
    else
      (dO h 7 l3).bind fun a22 =>
      (sX7_copyFrom F a22 l2 h).bind fun h23 =>
      (dO h23 7 l3).bind fun a24 =>
      (sX7_shift F a24 l4 l5 h23).bind fun h25 =>
      (dO h25 7 l3).bind fun a26 =>
      (sX7_countGaps F a26 l1 h25).bind fun t27 =>
      (dO h25 0 (some l0)).bind fun a28 =>
      (sX0_weigh F a28 t27 (2 : Int32) l4 l5 h25).bind fun h29 =>
      some (.inl (l5 + (1 : Int32), h29))
def sX0_seek_L97 (F : Nat) (l0 : Nat) (l1 : Option Nat) (l2 : Option Nat) (l3 : Option Nat) (l4 : Int32) (h : HP) : Option ((Int32 × HP) ⊕ HP) :=
  (gI h 7 l2 0).bind fun t20 =>
  if t20 ≤ l4 then
    some (.inr h)
  else
    (iter (fun s => sX0_seek_L109 F l0 l1 l2 l3 l4 s.1 s.2) F ((0 : Int32), h)).bind fun h30 =>
      some (.inl (l4 + (1 : Int32), h30))
def sX0_seek (F : Nat) (l0 : Nat) (l1 : Option Nat) (l2 : Option Nat) (l3 : Option Nat) (h : HP) : Option HP :=
  (iter (fun s => sX0_seek_L3 F l0 l1 l2 l3 s.1 s.2) F ((0 : Int32), h)).bind fun h3 =>
    (iter (fun s => sX0_seek_L26 F l0 l1 l2 l3 s.1 s.2) F ((0 : Int32), h3)).bind fun h19 =>
      (iter (fun s => sX0_seek_L97 F l0 l1 l2 l3 s.1 s.2) F ((0 : Int32), h19)).bind fun h34 =>
        some h34
abbrev rm_X0_seek : Room := { frames := 4, cells := 0, slots := 0, locals := 88 }
set_option maxRecDepth 100000 in
set_option maxHeartbeats 4000000 in
theorem mt_X0_seek {w : WD} {l : Launch} {F : Nat} {l0 : Nat} {l1 : Option Nat} {l2 : Option Nat} {l3 : Option Nat} {h : HP} {h' : HP} (hs : sX0_seek F l0 l1 l2 l3 h = some h') : MV w l yX0_seek cX0_seek 6 rm_X0_seek 0 0 [rf w (some l0), rf w l1, rf w l2, rf w l3] h h' := by
  refine of_body [(0, rf w (some l0)), (1, rf w l1), (2, rf w l2), (3, rf w l3)] (by decide) (by simp [lg_sl, rf_cat, cat_i, cat_l, cat_a]) (by simp [lv_args, rf_cat, cat_i, cat_l, cat_a]) ?_
  intro x hw_ hnL_ hl_ hc hret hnm hQ
  subst hw_; subst hl_
  have hnl : ∀ i, i < 6 → i < x.nL := fun i h => by rw [hnL_]; exact h
  have hw : wpO (sX0_seek F l0 l1 l2 l3 h) (fun r => r = h') := ⟨_, hs, rfl⟩
  unfold sX0_seek at hw
  refine R_iconst (v := (0 : Int32)) hc dX0_seek_0 kI_0 ?_
  refine R_istore (i := 4) (v := (0 : Int32)) hc [(4, .int (0 : Int32)), (0, rf x.w (some l0)), (1, rf x.w l1), (2, rf x.w l2), (3, rf x.w l3)] dX0_seek_1 (hnl 4 (le_b rfl)) (by simp [rf_cat]) ?_
  refine R_sub hc [1, 2, 3, 4, 0] rfl ?_
  refine R_loop (P := fun (s : (Int32 × HP)) => Rn x 0 0 3 [(0, rf x.w (some l0)), (1, rf x.w l1), (2, rf x.w l2), (3, rf x.w l3), (4, .int s.1)] [] s.2) (fun h3 => Rn x 0 0 23 [(0, rf x.w (some l0)), (1, rf x.w l1), (2, rf x.w l2), (3, rf x.w l3)] [] h3) hw (fun r hw => ?_) (fun X hX s hw => ?_)
  · revert r hw
    intro h3 hw
    show Rn x 0 0 23 [(0, rf x.w (some l0)), (1, rf x.w l1), (2, rf x.w l2), (3, rf x.w l3)] [] h3
    refine R_iconst (v := (0 : Int32)) hc dX0_seek_23 kI_0 ?_
    refine R_istore (i := 4) (v := (0 : Int32)) hc [(4, .int (0 : Int32)), (0, rf x.w (some l0)), (1, rf x.w l1), (2, rf x.w l2), (3, rf x.w l3)] dX0_seek_24 (hnl 4 (le_b rfl)) (by simp [rf_cat]) ?_
    refine R_sub hc [1, 2, 3, 4, 0] rfl ?_
    refine R_loop (P := fun (s : (Int32 × HP)) => Rn x 0 0 26 [(0, rf x.w (some l0)), (1, rf x.w l1), (2, rf x.w l2), (3, rf x.w l3), (4, .int s.1)] [] s.2) (fun h19 => Rn x 0 0 94 [(0, rf x.w (some l0)), (1, rf x.w l1), (2, rf x.w l2), (3, rf x.w l3)] [] h19) hw (fun r hw => ?_) (fun X hX s hw => ?_)
    · revert r hw
      intro h19 hw
      show Rn x 0 0 94 [(0, rf x.w (some l0)), (1, rf x.w l1), (2, rf x.w l2), (3, rf x.w l3)] [] h19
      refine R_iconst (v := (0 : Int32)) hc dX0_seek_94 kI_0 ?_
      refine R_istore (i := 4) (v := (0 : Int32)) hc [(4, .int (0 : Int32)), (0, rf x.w (some l0)), (1, rf x.w l1), (2, rf x.w l2), (3, rf x.w l3)] dX0_seek_95 (hnl 4 (le_b rfl)) (by simp [rf_cat]) ?_
      refine R_sub hc [1, 2, 3, 4, 0] rfl ?_
      refine R_loop (P := fun (s : (Int32 × HP)) => Rn x 0 0 97 [(0, rf x.w (some l0)), (1, rf x.w l1), (2, rf x.w l2), (3, rf x.w l3), (4, .int s.1)] [] s.2) (fun h34 => Rn x 0 0 164 [] [] h34) hw (fun r hw => ?_) (fun X hX s hw => ?_)
      · revert r hw
        intro h34 hw
        show Rn x 0 0 164 [] [] h34
        exact R_return hc hret hQ hw dX0_seek_164
      · obtain ⟨l4_36, h37⟩ := s
        show Rn x 0 0 97 [(0, rf x.w (some l0)), (1, rf x.w l1), (2, rf x.w l2), (3, rf x.w l3), (4, .int l4_36)] [] h37
        have hw : wpO (sX0_seek_L97 F l0 l1 l2 l3 l4_36 h37) _ := hw
        unfold sX0_seek_L97 at hw
        refine R_iload (q := 4) (i := 4) (v := l4_36) hc dX0_seek_97 rfl ?_
        refine R_aload_n (q := 2) (i := 2) (v := l2) hc dX0_seek_99 rfl rfl ?_
        refine R_getI hc fl_0_15 dX0_seek_100 hw (fun t20 hw => ?_)
        refine R_icmp_ge (tgt := 164) hc dX0_seek_103 (by decide) hw (fun hw => ?_) (fun hw => ?_)
        · refine R_sub hc [] rfl ?_
          exact (wpO_some hw :)
        · refine R_iconst (v := (0 : Int32)) hc dX0_seek_106 kI_0 ?_
          refine R_istore (i := 5) (v := (0 : Int32)) hc [(5, .int (0 : Int32)), (0, rf x.w (some l0)), (1, rf x.w l1), (2, rf x.w l2), (3, rf x.w l3), (4, .int l4_36)] dX0_seek_107 (hnl 5 (le_b rfl)) rfl ?_
          refine R_sub hc [1, 2, 3, 4, 5, 0] rfl ?_
          refine R_loop (P := fun (s : (Int32 × HP)) => Rn x 0 0 109 [(0, rf x.w (some l0)), (1, rf x.w l1), (2, rf x.w l2), (3, rf x.w l3), (4, .int l4_36), (5, .int s.1)] [] s.2) (fun h30 => Rn x 0 0 158 [(0, rf x.w (some l0)), (1, rf x.w l1), (2, rf x.w l2), (3, rf x.w l3), (4, .int l4_36)] [] h30) hw (fun r hw => ?_) (fun X hX s hw => ?_)
          · revert r hw
            intro h30 hw
            show Rn x 0 0 158 [(0, rf x.w (some l0)), (1, rf x.w l1), (2, rf x.w l2), (3, rf x.w l3), (4, .int l4_36)] [] h30
            refine R_iinc (q := 4) (i := 4) (v := l4_36) hc [(4, .int (l4_36 + (1 : Int32))), (0, rf x.w (some l0)), (1, rf x.w l1), (2, rf x.w l2), (3, rf x.w l3)] dX0_seek_158 rfl (kC_1 _) (hnl 4 (le_b rfl)) (by simp [rf_cat]) ?_
            refine R_goto (tgt := 97) hc dX0_seek_161 (by decide) ?_
            refine R_sub hc [1, 2, 3, 4, 0] rfl ?_
            exact hX (l4_36 + (1 : Int32), h30) (wpO_some hw :)
          · obtain ⟨l5_32, h33⟩ := s
            show Rn x 0 0 109 [(0, rf x.w (some l0)), (1, rf x.w l1), (2, rf x.w l2), (3, rf x.w l3), (4, .int l4_36), (5, .int l5_32)] [] h33
            have hw : wpO (sX0_seek_L109 F l0 l1 l2 l3 l4_36 l5_32 h33) _ := hw
            unfold sX0_seek_L109 at hw
            refine R_iload (q := 5) (i := 5) (v := l5_32) hc dX0_seek_109 rfl ?_
            refine R_aload_n (q := 2) (i := 2) (v := l2) hc dX0_seek_111 rfl rfl ?_
            refine R_getI hc fl_0_15 dX0_seek_112 hw (fun t21 hw => ?_)
            refine R_icmp_ge (tgt := 158) hc dX0_seek_115 (by decide) hw (fun hw => ?_) (fun hw => ?_)
            · refine R_sub hc [0, 1, 2, 3, 4] rfl ?_
              exact (wpO_some hw :)
            · refine R_iload (q := 5) (i := 5) (v := l5_32) hc dX0_seek_118 rfl ?_
              refine R_iload (q := 4) (i := 4) (v := l4_36) hc dX0_seek_120 rfl ?_
              refine R_icmp_eq (tgt := 152) hc dX0_seek_122 (by decide) hw (fun hw => ?_) (fun hw => ?_)
              · refine R_iinc (q := 5) (i := 5) (v := l5_32) hc [(5, .int (l5_32 + (1 : Int32))), (0, rf x.w (some l0)), (1, rf x.w l1), (2, rf x.w l2), (3, rf x.w l3), (4, .int l4_36)] dX0_seek_152 rfl (kC_1 _) (hnl 5 (le_b rfl)) rfl ?_
                refine R_goto (tgt := 109) hc dX0_seek_155 (by decide) ?_
                refine R_sub hc [1, 2, 3, 4, 5, 0] rfl ?_
                exact hX (l5_32 + (1 : Int32), h33) (wpO_some hw :)
              · refine R_aload_n (q := 3) (i := 3) (v := l3) hc dX0_seek_125 rfl rfl ?_
                refine R_aload_n (q := 2) (i := 2) (v := l2) hc dX0_seek_126 rfl rfl ?_
                refine R_cVVi (As := [rf x.w l2]) (rest := []) (r := l3) (ci := 7) hc ml_0_25 mf_X7_copyFrom rfl (by decide) ⟨rfl, rfl⟩ ⟨le_b rfl, le_b rfl⟩ ⟨Nat.zero_le _, Nat.zero_le _⟩ (fun a h' e => mt_X7_copyFrom e) rfl rfl (Nat.zero_le _) dX0_seek_127 hw (fun h23 hw => ?_)
                refine R_aload_n (q := 3) (i := 3) (v := l3) hc dX0_seek_130 rfl rfl ?_
                refine R_iload (q := 4) (i := 4) (v := l4_36) hc dX0_seek_131 rfl ?_
                refine R_iload (q := 5) (i := 5) (v := l5_32) hc dX0_seek_133 rfl ?_
                refine R_cVVi (As := [.int l4_36, .int l5_32]) (rest := []) (r := l3) (ci := 7) hc ml_0_41 mf_X7_shift rfl (by decide) ⟨rfl, rfl⟩ ⟨le_b rfl, le_b rfl⟩ ⟨Nat.zero_le _, Nat.zero_le _⟩ (fun a h' e => mt_X7_shift e) rfl rfl (Nat.zero_le _) dX0_seek_135 hw (fun h25 hw => ?_)
                refine R_aload_n (q := 0) (i := 0) (v := (some l0)) hc dX0_seek_138 rfl rfl ?_
                refine R_aload_n (q := 3) (i := 3) (v := l3) hc dX0_seek_139 rfl rfl ?_
                refine R_aload_n (q := 1) (i := 1) (v := l1) hc dX0_seek_140 rfl rfl ?_
                refine R_cVI (As := [rf x.w l1]) (rest := [rf x.w (some l0)]) (r := l3) (ci := 7) hc ml_0_33 mf_X7_countGaps rfl (by decide) ⟨rfl, rfl⟩ ⟨le_b rfl, le_b rfl⟩ ⟨Nat.zero_le _, Nat.zero_le _⟩ (fun a v e => mt_X7_countGaps e) rfl rfl (le_b rfl) dX0_seek_141 hw (fun t27 hw => ?_)
                refine R_iconst (v := (2 : Int32)) hc dX0_seek_144 kI_2 ?_
                refine R_iload (q := 4) (i := 4) (v := l4_36) hc dX0_seek_145 rfl ?_
                refine R_iload (q := 5) (i := 5) (v := l5_32) hc dX0_seek_147 rfl ?_
                refine R_cVVi (As := [.int t27, .int (2 : Int32), .int l4_36, .int l5_32]) (rest := []) (r := (some l0)) (ci := 0) hc ml_0_37 mf_X0_weigh rfl (by decide) ⟨rfl, rfl⟩ ⟨le_b rfl, le_b rfl⟩ ⟨Nat.zero_le _, Nat.zero_le _⟩ (fun a h' e => mt_X0_weigh e) rfl rfl (Nat.zero_le _) dX0_seek_149 hw (fun h29 hw => ?_)
                refine R_iinc (q := 5) (i := 5) (v := l5_32) hc [(5, .int (l5_32 + (1 : Int32))), (0, rf x.w (some l0)), (1, rf x.w l1), (2, rf x.w l2), (3, rf x.w l3), (4, .int l4_36)] dX0_seek_152 rfl (kC_1 _) (hnl 5 (le_b rfl)) rfl ?_
                refine R_goto (tgt := 109) hc dX0_seek_155 (by decide) ?_
                refine R_sub hc [1, 2, 3, 4, 5, 0] rfl ?_
                exact hX (l5_32 + (1 : Int32), h29) (wpO_some hw :)
    · obtain ⟨l4_39, h40⟩ := s
      show Rn x 0 0 26 [(0, rf x.w (some l0)), (1, rf x.w l1), (2, rf x.w l2), (3, rf x.w l3), (4, .int l4_39)] [] h40
      have hw : wpO (sX0_seek_L26 F l0 l1 l2 l3 l4_39 h40) _ := hw
      unfold sX0_seek_L26 at hw
      refine R_iload (q := 4) (i := 4) (v := l4_39) hc dX0_seek_26 rfl ?_
      refine R_aload_n (q := 2) (i := 2) (v := l2) hc dX0_seek_28 rfl rfl ?_
      refine R_getI hc fl_0_15 dX0_seek_29 hw (fun t4 hw => ?_)
      refine R_icmp_ge (tgt := 94) hc dX0_seek_32 (by decide) hw (fun hw => ?_) (fun hw => ?_)
      · refine R_sub hc [0, 1, 2, 3] rfl ?_
        exact (wpO_some hw :)
      · refine R_iconst (v := (0 : Int32)) hc dX0_seek_35 kI_0 ?_
        refine R_istore (i := 5) (v := (0 : Int32)) hc [(5, .int (0 : Int32)), (0, rf x.w (some l0)), (1, rf x.w l1), (2, rf x.w l2), (3, rf x.w l3), (4, .int l4_39)] dX0_seek_36 (hnl 5 (le_b rfl)) rfl ?_
        refine R_sub hc [1, 2, 3, 4, 5, 0] rfl ?_
        refine R_loop (P := fun (s : (Int32 × HP)) => Rn x 0 0 38 [(0, rf x.w (some l0)), (1, rf x.w l1), (2, rf x.w l2), (3, rf x.w l3), (4, .int l4_39), (5, .int s.1)] [] s.2) (fun h15 => Rn x 0 0 88 [(0, rf x.w (some l0)), (1, rf x.w l1), (2, rf x.w l2), (3, rf x.w l3), (4, .int l4_39)] [] h15) hw (fun r hw => ?_) (fun X hX s hw => ?_)
        · revert r hw
          intro h15 hw
          show Rn x 0 0 88 [(0, rf x.w (some l0)), (1, rf x.w l1), (2, rf x.w l2), (3, rf x.w l3), (4, .int l4_39)] [] h15
          refine R_iinc (q := 4) (i := 4) (v := l4_39) hc [(4, .int (l4_39 + (1 : Int32))), (0, rf x.w (some l0)), (1, rf x.w l1), (2, rf x.w l2), (3, rf x.w l3)] dX0_seek_88 rfl (kC_1 _) (hnl 4 (le_b rfl)) (by simp [rf_cat]) ?_
          refine R_goto (tgt := 26) hc dX0_seek_91 (by decide) ?_
          refine R_sub hc [1, 2, 3, 4, 0] rfl ?_
          exact hX (l4_39 + (1 : Int32), h15) (wpO_some hw :)
        · obtain ⟨l5_17, h18⟩ := s
          show Rn x 0 0 38 [(0, rf x.w (some l0)), (1, rf x.w l1), (2, rf x.w l2), (3, rf x.w l3), (4, .int l4_39), (5, .int l5_17)] [] h18
          have hw : wpO (sX0_seek_L38 F l0 l1 l2 l3 l4_39 l5_17 h18) _ := hw
          unfold sX0_seek_L38 at hw
          refine R_iload (q := 5) (i := 5) (v := l5_17) hc dX0_seek_38 rfl ?_
          refine R_iconst (v := (4 : Int32)) hc dX0_seek_40 kI_4 ?_
          refine R_icmp_ge (tgt := 88) hc dX0_seek_41 (by decide) hw (fun hw => ?_) (fun hw => ?_)
          · refine R_sub hc [0, 1, 2, 3, 4] rfl ?_
            exact (wpO_some hw :)
          · refine R_iload (q := 5) (i := 5) (v := l5_17) hc dX0_seek_44 rfl ?_
            refine R_aload_n (q := 2) (i := 2) (v := l2) hc dX0_seek_46 rfl rfl ?_
            refine R_iload (q := 4) (i := 4) (v := l4_39) hc dX0_seek_47 rfl ?_
            refine R_cVI (As := [.int l4_39]) (rest := [.int l5_17]) (r := l2) (ci := 7) hc ml_0_21 mf_X7_turnAt rfl (by decide) ⟨rfl, rfl⟩ ⟨le_b rfl, le_b rfl⟩ ⟨Nat.zero_le _, Nat.zero_le _⟩ (fun a v e => mt_X7_turnAt e) rfl rfl (le_b rfl) dX0_seek_49 hw (fun t6 hw => ?_)
            refine R_icmp_eq (tgt := 82) hc dX0_seek_52 (by decide) hw (fun hw => ?_) (fun hw => ?_)
            · refine R_iinc (q := 5) (i := 5) (v := l5_17) hc [(5, .int (l5_17 + (1 : Int32))), (0, rf x.w (some l0)), (1, rf x.w l1), (2, rf x.w l2), (3, rf x.w l3), (4, .int l4_39)] dX0_seek_82 rfl (kC_1 _) (hnl 5 (le_b rfl)) rfl ?_
              refine R_goto (tgt := 38) hc dX0_seek_85 (by decide) ?_
              refine R_sub hc [1, 2, 3, 4, 5, 0] rfl ?_
              exact hX (l5_17 + (1 : Int32), h18) (wpO_some hw :)
            · refine R_aload_n (q := 3) (i := 3) (v := l3) hc dX0_seek_55 rfl rfl ?_
              refine R_aload_n (q := 2) (i := 2) (v := l2) hc dX0_seek_56 rfl rfl ?_
              refine R_cVVi (As := [rf x.w l2]) (rest := []) (r := l3) (ci := 7) hc ml_0_25 mf_X7_copyFrom rfl (by decide) ⟨rfl, rfl⟩ ⟨le_b rfl, le_b rfl⟩ ⟨Nat.zero_le _, Nat.zero_le _⟩ (fun a h' e => mt_X7_copyFrom e) rfl rfl (Nat.zero_le _) dX0_seek_57 hw (fun h8 hw => ?_)
              refine R_aload_n (q := 3) (i := 3) (v := l3) hc dX0_seek_60 rfl rfl ?_
              refine R_iload (q := 4) (i := 4) (v := l4_39) hc dX0_seek_61 rfl ?_
              refine R_iload (q := 5) (i := 5) (v := l5_17) hc dX0_seek_63 rfl ?_
              refine R_cVVi (As := [.int l4_39, .int l5_17]) (rest := []) (r := l3) (ci := 7) hc ml_0_29 mf_X7_setTurn rfl (by decide) ⟨rfl, rfl⟩ ⟨le_b rfl, le_b rfl⟩ ⟨Nat.zero_le _, Nat.zero_le _⟩ (fun a h' e => mt_X7_setTurn e) rfl rfl (Nat.zero_le _) dX0_seek_65 hw (fun h10 hw => ?_)
              refine R_aload_n (q := 0) (i := 0) (v := (some l0)) hc dX0_seek_68 rfl rfl ?_
              refine R_aload_n (q := 3) (i := 3) (v := l3) hc dX0_seek_69 rfl rfl ?_
              refine R_aload_n (q := 1) (i := 1) (v := l1) hc dX0_seek_70 rfl rfl ?_
              refine R_cVI (As := [rf x.w l1]) (rest := [rf x.w (some l0)]) (r := l3) (ci := 7) hc ml_0_33 mf_X7_countGaps rfl (by decide) ⟨rfl, rfl⟩ ⟨le_b rfl, le_b rfl⟩ ⟨Nat.zero_le _, Nat.zero_le _⟩ (fun a v e => mt_X7_countGaps e) rfl rfl (le_b rfl) dX0_seek_71 hw (fun t12 hw => ?_)
              refine R_iconst (v := (1 : Int32)) hc dX0_seek_74 kI_1 ?_
              refine R_iload (q := 4) (i := 4) (v := l4_39) hc dX0_seek_75 rfl ?_
              refine R_iload (q := 5) (i := 5) (v := l5_17) hc dX0_seek_77 rfl ?_
              refine R_cVVi (As := [.int t12, .int (1 : Int32), .int l4_39, .int l5_17]) (rest := []) (r := (some l0)) (ci := 0) hc ml_0_37 mf_X0_weigh rfl (by decide) ⟨rfl, rfl⟩ ⟨le_b rfl, le_b rfl⟩ ⟨Nat.zero_le _, Nat.zero_le _⟩ (fun a h' e => mt_X0_weigh e) rfl rfl (Nat.zero_le _) dX0_seek_79 hw (fun h14 hw => ?_)
              refine R_iinc (q := 5) (i := 5) (v := l5_17) hc [(5, .int (l5_17 + (1 : Int32))), (0, rf x.w (some l0)), (1, rf x.w l1), (2, rf x.w l2), (3, rf x.w l3), (4, .int l4_39)] dX0_seek_82 rfl (kC_1 _) (hnl 5 (le_b rfl)) rfl ?_
              refine R_goto (tgt := 38) hc dX0_seek_85 (by decide) ?_
              refine R_sub hc [1, 2, 3, 4, 5, 0] rfl ?_
              exact hX (l5_17 + (1 : Int32), h14) (wpO_some hw :)
  · obtain ⟨l4_42, h43⟩ := s
    show Rn x 0 0 3 [(0, rf x.w (some l0)), (1, rf x.w l1), (2, rf x.w l2), (3, rf x.w l3), (4, .int l4_42)] [] h43
    have hw : wpO (sX0_seek_L3 F l0 l1 l2 l3 l4_42 h43) _ := hw
    unfold sX0_seek_L3 at hw
    refine R_iload (q := 4) (i := 4) (v := l4_42) hc dX0_seek_3 rfl ?_
    refine R_iconst (v := (4 : Int32)) hc dX0_seek_5 kI_4 ?_
    refine R_icmp_ge (tgt := 23) hc dX0_seek_6 (by decide) hw (fun hw => ?_) (fun hw => ?_)
    · refine R_sub hc [0, 1, 2, 3] rfl ?_
      exact (wpO_some hw :)
    · refine R_aload_n (q := 0) (i := 0) (v := (some l0)) hc dX0_seek_9 rfl rfl ?_
      refine R_getR hc fl_0_11 dX0_seek_10 hw (fun t1 hw => ?_)
      refine R_iload (q := 4) (i := 4) (v := l4_42) hc dX0_seek_13 rfl ?_
      refine R_iconst (v := (-1 : Int32)) hc dX0_seek_15 kI_m1 ?_
      refine R_iastore hc dX0_seek_16 hw (fun h2 hw => ?_)
      refine R_iinc (q := 4) (i := 4) (v := l4_42) hc [(4, .int (l4_42 + (1 : Int32))), (0, rf x.w (some l0)), (1, rf x.w l1), (2, rf x.w l2), (3, rf x.w l3)] dX0_seek_17 rfl (kC_1 _) (hnl 4 (le_b rfl)) (by simp [rf_cat]) ?_
      refine R_goto (tgt := 3) hc dX0_seek_20 (by decide) ?_
      refine R_sub hc [1, 2, 3, 4, 0] rfl ?_
      exact hX (l4_42 + (1 : Int32), h2) (wpO_some hw :)
theorem dX10_lengthOf_0 : decode cX10_lengthOf 0 = .ok (.aload_n 0, 1) := by decide +kernel
theorem dX10_lengthOf_1 : decode cX10_lengthOf 1 = .ok (.getfield 75, 3) := by decide +kernel
theorem dX10_lengthOf_4 : decode cX10_lengthOf 4 = .ok (.iload_n 1, 1) := by decide +kernel
theorem dX10_lengthOf_5 : decode cX10_lengthOf 5 = .ok (.i2l, 1) := by decide +kernel
theorem dX10_lengthOf_6 : decode cX10_lengthOf 6 = .ok (.aload_n 0, 1) := by decide +kernel
theorem dX10_lengthOf_7 : decode cX10_lengthOf 7 = .ok (.getfield 59, 3) := by decide +kernel
theorem dX10_lengthOf_10 : decode cX10_lengthOf 10 = .ok (.invokevirtual 300, 3) := by decide +kernel
theorem dX10_lengthOf_13 : decode cX10_lengthOf 13 = .ok (.aload_n 0, 1) := by decide +kernel
theorem dX10_lengthOf_14 : decode cX10_lengthOf 14 = .ok (.getfield 62, 3) := by decide +kernel
theorem dX10_lengthOf_17 : decode cX10_lengthOf 17 = .ok (.aload_n 0, 1) := by decide +kernel
theorem dX10_lengthOf_18 : decode cX10_lengthOf 18 = .ok (.getfield 75, 3) := by decide +kernel
theorem dX10_lengthOf_21 : decode cX10_lengthOf 21 = .ok (.getfield 125, 3) := by decide +kernel
theorem dX10_lengthOf_24 : decode cX10_lengthOf 24 = .ok (.aload_n 0, 1) := by decide +kernel
theorem dX10_lengthOf_25 : decode cX10_lengthOf 25 = .ok (.getfield 59, 3) := by decide +kernel
theorem dX10_lengthOf_28 : decode cX10_lengthOf 28 = .ok (.invokevirtual 428, 3) := by decide +kernel
theorem dX10_lengthOf_31 : decode cX10_lengthOf 31 = .ok (.aload_n 0, 1) := by decide +kernel
theorem dX10_lengthOf_32 : decode cX10_lengthOf 32 = .ok (.getfield 65, 3) := by decide +kernel
theorem dX10_lengthOf_35 : decode cX10_lengthOf 35 = .ok (.aload_n 0, 1) := by decide +kernel
theorem dX10_lengthOf_36 : decode cX10_lengthOf 36 = .ok (.getfield 75, 3) := by decide +kernel
theorem dX10_lengthOf_39 : decode cX10_lengthOf 39 = .ok (.getfield 125, 3) := by decide +kernel
theorem dX10_lengthOf_42 : decode cX10_lengthOf 42 = .ok (.aload_n 0, 1) := by decide +kernel
theorem dX10_lengthOf_43 : decode cX10_lengthOf 43 = .ok (.getfield 62, 3) := by decide +kernel
theorem dX10_lengthOf_46 : decode cX10_lengthOf 46 = .ok (.invokevirtual 432, 3) := by decide +kernel
theorem dX10_lengthOf_49 : decode cX10_lengthOf 49 = .ok (.aload_n 0, 1) := by decide +kernel
theorem dX10_lengthOf_50 : decode cX10_lengthOf 50 = .ok (.getfield 65, 3) := by decide +kernel
theorem dX10_lengthOf_53 : decode cX10_lengthOf 53 = .ok (.invokevirtual 273, 3) := by decide +kernel
theorem dX10_lengthOf_56 : decode cX10_lengthOf 56 = .ok (.ireturn, 1) := by decide +kernel
def sX10_lengthOf (F : Nat) (l0 : Nat) (l1 : Int32) (h : HP) : Option (Int32 × HP) :=
  (gR h 10 (some l0) 12).bind fun t1 =>
  (gR h 10 (some l0) 8).bind fun t2 =>
  (dO h 4 t1).bind fun a3 =>
  (sX4_layInto F a3 l1.toInt64 t2 h).bind fun h4 =>
  (gR h4 10 (some l0) 9).bind fun t5 =>
  (gR h4 10 (some l0) 12).bind fun t6 =>
  (gR h4 4 t6 0).bind fun t7 =>
  (gR h4 10 (some l0) 8).bind fun t8 =>
  (dO h4 2 t5).bind fun a9 =>
  (sX2_draw F a9 t7 t8 h4).bind fun h10 =>
  (gR h10 10 (some l0) 10).bind fun t11 =>
  (gR h10 10 (some l0) 12).bind fun t12 =>
  (gR h10 4 t12 0).bind fun t13 =>
  (gR h10 10 (some l0) 9).bind fun t14 =>
  (dO h10 9 t11).bind fun a15 =>
  (sX9_draw F a15 t13 t14 h10).bind fun h16 =>
  (gR h16 10 (some l0) 10).bind fun t17 =>
  (dO h16 9 t17).bind fun a18 =>
  (sX9_totalLength F a18 h16).bind fun t19 =>
  some (t19, h16)
abbrev rm_X10_lengthOf : Room := { frames := 5, cells := 0, slots := 0, locals := 130 }
set_option maxRecDepth 100000 in
set_option maxHeartbeats 4000000 in
theorem mt_X10_lengthOf {w : WD} {l : Launch} {F : Nat} {l0 : Nat} {l1 : Int32} {h : HP} {v : Int32} {h' : HP} (hs : sX10_lengthOf F l0 l1 h = some (v, h')) : MI w l yX10_lengthOf cX10_lengthOf 2 .int rm_X10_lengthOf 0 0 [rf w (some l0), .int l1] h v h' := by
  refine of_body [(0, rf w (some l0)), (1, .int l1)] (by decide) (by simp [lg_sl, rf_cat, cat_i, cat_l, cat_a]) (by simp [lv_args, rf_cat, cat_i, cat_l, cat_a]) ?_
  intro x hw_ hnL_ hl_ hc hret hnm hQ
  subst hw_; subst hl_
  have hnl : ∀ i, i < 2 → i < x.nL := fun i h => by rw [hnL_]; exact h
  have hw : wpO (sX10_lengthOf F l0 l1 h) (fun r => r = (v, h')) := ⟨_, hs, rfl⟩
  unfold sX10_lengthOf at hw
  refine R_aload_n (q := 0) (i := 0) (v := (some l0)) hc dX10_lengthOf_0 rfl rfl ?_
  refine R_getR hc fl_10_75 dX10_lengthOf_1 hw (fun t1 hw => ?_)
  refine R_iload_n (q := 1) (i := 1) (v := l1) hc dX10_lengthOf_4 rfl rfl ?_
  refine R_i2l hc dX10_lengthOf_5 ?_
  refine R_aload_n (q := 0) (i := 0) (v := (some l0)) hc dX10_lengthOf_6 rfl rfl ?_
  refine R_getR hc fl_10_59 dX10_lengthOf_7 hw (fun t2 hw => ?_)
  refine R_cVVi (As := [.long l1.toInt64, rf x.w t2]) (rest := []) (r := t1) (ci := 4) hc ml_10_300 mf_X4_layInto rfl (by decide) ⟨rfl, rfl⟩ ⟨le_b rfl, le_b rfl⟩ ⟨Nat.zero_le _, Nat.zero_le _⟩ (fun a h' e => mt_X4_layInto e) rfl rfl (Nat.zero_le _) dX10_lengthOf_10 hw (fun h4 hw => ?_)
  refine R_aload_n (q := 0) (i := 0) (v := (some l0)) hc dX10_lengthOf_13 rfl rfl ?_
  refine R_getR hc fl_10_62 dX10_lengthOf_14 hw (fun t5 hw => ?_)
  refine R_aload_n (q := 0) (i := 0) (v := (some l0)) hc dX10_lengthOf_17 rfl rfl ?_
  refine R_getR hc fl_10_75 dX10_lengthOf_18 hw (fun t6 hw => ?_)
  refine R_getR hc fl_10_125 dX10_lengthOf_21 hw (fun t7 hw => ?_)
  refine R_aload_n (q := 0) (i := 0) (v := (some l0)) hc dX10_lengthOf_24 rfl rfl ?_
  refine R_getR hc fl_10_59 dX10_lengthOf_25 hw (fun t8 hw => ?_)
  refine R_cVVi (As := [rf x.w t7, rf x.w t8]) (rest := []) (r := t5) (ci := 2) hc ml_10_428 mf_X2_draw rfl (by decide) ⟨rfl, rfl⟩ ⟨le_b rfl, le_b rfl⟩ ⟨Nat.zero_le _, Nat.zero_le _⟩ (fun a h' e => mt_X2_draw e) rfl rfl (Nat.zero_le _) dX10_lengthOf_28 hw (fun h10 hw => ?_)
  refine R_aload_n (q := 0) (i := 0) (v := (some l0)) hc dX10_lengthOf_31 rfl rfl ?_
  refine R_getR hc fl_10_65 dX10_lengthOf_32 hw (fun t11 hw => ?_)
  refine R_aload_n (q := 0) (i := 0) (v := (some l0)) hc dX10_lengthOf_35 rfl rfl ?_
  refine R_getR hc fl_10_75 dX10_lengthOf_36 hw (fun t12 hw => ?_)
  refine R_getR hc fl_10_125 dX10_lengthOf_39 hw (fun t13 hw => ?_)
  refine R_aload_n (q := 0) (i := 0) (v := (some l0)) hc dX10_lengthOf_42 rfl rfl ?_
  refine R_getR hc fl_10_62 dX10_lengthOf_43 hw (fun t14 hw => ?_)
  refine R_cVVi (As := [rf x.w t13, rf x.w t14]) (rest := []) (r := t11) (ci := 9) hc ml_10_432 mf_X9_draw rfl (by decide) ⟨rfl, rfl⟩ ⟨le_b rfl, le_b rfl⟩ ⟨Nat.zero_le _, Nat.zero_le _⟩ (fun a h' e => mt_X9_draw e) rfl rfl (Nat.zero_le _) dX10_lengthOf_46 hw (fun h16 hw => ?_)
  refine R_aload_n (q := 0) (i := 0) (v := (some l0)) hc dX10_lengthOf_49 rfl rfl ?_
  refine R_getR hc fl_10_65 dX10_lengthOf_50 hw (fun t17 hw => ?_)
  refine R_cVI (As := []) (rest := []) (r := t17) (ci := 9) hc ml_10_273 mf_X9_totalLength rfl (by decide) ⟨rfl, rfl⟩ ⟨le_b rfl, le_b rfl⟩ ⟨Nat.zero_le _, Nat.zero_le _⟩ (fun a v e => mt_X9_totalLength e) rfl rfl (Nat.zero_le _) dX10_lengthOf_53 hw (fun t19 hw => ?_)
  exact R_ireturn hc hret rfl hQ hw dX10_lengthOf_56
theorem dX4_waysAcross_0 : decode cX4_waysAcross 0 = .ok (.aload_n 0, 1) := by decide +kernel
theorem dX4_waysAcross_1 : decode cX4_waysAcross 1 = .ok (.getfield 12, 3) := by decide +kernel
theorem dX4_waysAcross_4 : decode cX4_waysAcross 4 = .ok (.invokevirtual 42, 3) := by decide +kernel
theorem dX4_waysAcross_7 : decode cX4_waysAcross 7 = .ok (.istore 4, 2) := by decide +kernel
theorem dX4_waysAcross_9 : decode cX4_waysAcross 9 = .ok (.iload 4, 2) := by decide +kernel
theorem dX4_waysAcross_11 : decode cX4_waysAcross 11 = .ok (.iload_n 1, 1) := by decide +kernel
theorem dX4_waysAcross_12 : decode cX4_waysAcross 12 = .ok (.iconst (-1), 1) := by decide +kernel
theorem dX4_waysAcross_13 : decode cX4_waysAcross 13 = .ok (.ixor, 1) := by decide +kernel
theorem dX4_waysAcross_14 : decode cX4_waysAcross 14 = .ok (.iand, 1) := by decide +kernel
theorem dX4_waysAcross_15 : decode cX4_waysAcross 15 = .ok (.istore 5, 2) := by decide +kernel
theorem dX4_waysAcross_17 : decode cX4_waysAcross 17 = .ok (.lconst 0, 1) := by decide +kernel
theorem dX4_waysAcross_18 : decode cX4_waysAcross 18 = .ok (.lstore 6, 2) := by decide +kernel
theorem dX4_waysAcross_20 : decode cX4_waysAcross 20 = .ok (.iconst 0, 1) := by decide +kernel
theorem dX4_waysAcross_21 : decode cX4_waysAcross 21 = .ok (.istore 8, 2) := by decide +kernel
theorem dX4_waysAcross_23 : decode cX4_waysAcross 23 = .ok (.iload 8, 2) := by decide +kernel
theorem dX4_waysAcross_25 : decode cX4_waysAcross 25 = .ok (.bipush 16, 2) := by decide +kernel
theorem dX4_waysAcross_27 : decode cX4_waysAcross 27 = .ok (.if_icmp .ge 135, 3) := by decide +kernel
theorem dX4_waysAcross_30 : decode cX4_waysAcross 30 = .ok (.iload_n 2, 1) := by decide +kernel
theorem dX4_waysAcross_31 : decode cX4_waysAcross 31 = .ok (.iconst 4, 1) := by decide +kernel
theorem dX4_waysAcross_32 : decode cX4_waysAcross 32 = .ok (.imul, 1) := by decide +kernel
theorem dX4_waysAcross_33 : decode cX4_waysAcross 33 = .ok (.iload 8, 2) := by decide +kernel
theorem dX4_waysAcross_35 : decode cX4_waysAcross 35 = .ok (.iconst 4, 1) := by decide +kernel
theorem dX4_waysAcross_36 : decode cX4_waysAcross 36 = .ok (.idiv, 1) := by decide +kernel
theorem dX4_waysAcross_37 : decode cX4_waysAcross 37 = .ok (.iadd, 1) := by decide +kernel
theorem dX4_waysAcross_38 : decode cX4_waysAcross 38 = .ok (.istore 9, 2) := by decide +kernel
theorem dX4_waysAcross_40 : decode cX4_waysAcross 40 = .ok (.iload_n 3, 1) := by decide +kernel
theorem dX4_waysAcross_41 : decode cX4_waysAcross 41 = .ok (.iconst 4, 1) := by decide +kernel
theorem dX4_waysAcross_42 : decode cX4_waysAcross 42 = .ok (.imul, 1) := by decide +kernel
theorem dX4_waysAcross_43 : decode cX4_waysAcross 43 = .ok (.iload 8, 2) := by decide +kernel
theorem dX4_waysAcross_45 : decode cX4_waysAcross 45 = .ok (.iconst 4, 1) := by decide +kernel
theorem dX4_waysAcross_46 : decode cX4_waysAcross 46 = .ok (.irem, 1) := by decide +kernel
theorem dX4_waysAcross_47 : decode cX4_waysAcross 47 = .ok (.iadd, 1) := by decide +kernel
theorem dX4_waysAcross_48 : decode cX4_waysAcross 48 = .ok (.istore 10, 2) := by decide +kernel
theorem dX4_waysAcross_50 : decode cX4_waysAcross 50 = .ok (.iload 9, 2) := by decide +kernel
theorem dX4_waysAcross_52 : decode cX4_waysAcross 52 = .ok (.iconst 3, 1) := by decide +kernel
theorem dX4_waysAcross_53 : decode cX4_waysAcross 53 = .ok (.ixor, 1) := by decide +kernel
theorem dX4_waysAcross_54 : decode cX4_waysAcross 54 = .ok (.istore 11, 2) := by decide +kernel
theorem dX4_waysAcross_56 : decode cX4_waysAcross 56 = .ok (.aload_n 0, 1) := by decide +kernel
theorem dX4_waysAcross_57 : decode cX4_waysAcross 57 = .ok (.getfield 21, 3) := by decide +kernel
theorem dX4_waysAcross_60 : decode cX4_waysAcross 60 = .ok (.aload_n 0, 1) := by decide +kernel
theorem dX4_waysAcross_61 : decode cX4_waysAcross 61 = .ok (.getfield 12, 3) := by decide +kernel
theorem dX4_waysAcross_64 : decode cX4_waysAcross 64 = .ok (.iload_n 1, 1) := by decide +kernel
theorem dX4_waysAcross_65 : decode cX4_waysAcross 65 = .ok (.iload 11, 2) := by decide +kernel
theorem dX4_waysAcross_67 : decode cX4_waysAcross 67 = .ok (.invokevirtual 122, 3) := by decide +kernel
theorem dX4_waysAcross_70 : decode cX4_waysAcross 70 = .ok (.aload_n 0, 1) := by decide +kernel
theorem dX4_waysAcross_71 : decode cX4_waysAcross 71 = .ok (.getfield 21, 3) := by decide +kernel
theorem dX4_waysAcross_74 : decode cX4_waysAcross 74 = .ok (.aload_n 0, 1) := by decide +kernel
theorem dX4_waysAcross_75 : decode cX4_waysAcross 75 = .ok (.getfield 12, 3) := by decide +kernel
theorem dX4_waysAcross_78 : decode cX4_waysAcross 78 = .ok (.iload 5, 2) := by decide +kernel
theorem dX4_waysAcross_80 : decode cX4_waysAcross 80 = .ok (.iload 10, 2) := by decide +kernel
theorem dX4_waysAcross_82 : decode cX4_waysAcross 82 = .ok (.invokevirtual 122, 3) := by decide +kernel
theorem dX4_waysAcross_85 : decode cX4_waysAcross 85 = .ok (.iadd, 1) := by decide +kernel
theorem dX4_waysAcross_86 : decode cX4_waysAcross 86 = .ok (.istore 12, 2) := by decide +kernel
theorem dX4_waysAcross_88 : decode cX4_waysAcross 88 = .ok (.iload 12, 2) := by decide +kernel
theorem dX4_waysAcross_90 : decode cX4_waysAcross 90 = .ok (.aload_n 0, 1) := by decide +kernel
theorem dX4_waysAcross_91 : decode cX4_waysAcross 91 = .ok (.getfield 12, 3) := by decide +kernel
theorem dX4_waysAcross_94 : decode cX4_waysAcross 94 = .ok (.iload 9, 2) := by decide +kernel
theorem dX4_waysAcross_96 : decode cX4_waysAcross 96 = .ok (.iload 10, 2) := by decide +kernel
theorem dX4_waysAcross_98 : decode cX4_waysAcross 98 = .ok (.invokevirtual 138, 3) := by decide +kernel
theorem dX4_waysAcross_101 : decode cX4_waysAcross 101 = .ok (.ifCond .eq 7, 3) := by decide +kernel
theorem dX4_waysAcross_104 : decode cX4_waysAcross 104 = .ok (.iconst 0, 1) := by decide +kernel
theorem dX4_waysAcross_105 : decode cX4_waysAcross 105 = .ok (.goto 4, 3) := by decide +kernel
theorem dX4_waysAcross_108 : decode cX4_waysAcross 108 = .ok (.iconst 1, 1) := by decide +kernel
theorem dX4_waysAcross_109 : decode cX4_waysAcross 109 = .ok (.iadd, 1) := by decide +kernel
theorem dX4_waysAcross_110 : decode cX4_waysAcross 110 = .ok (.aload_n 0, 1) := by decide +kernel
theorem dX4_waysAcross_111 : decode cX4_waysAcross 111 = .ok (.getfield 21, 3) := by decide +kernel
theorem dX4_waysAcross_114 : decode cX4_waysAcross 114 = .ok (.getfield 125, 3) := by decide +kernel
theorem dX4_waysAcross_117 : decode cX4_waysAcross 117 = .ok (.iload 4, 2) := by decide +kernel
theorem dX4_waysAcross_119 : decode cX4_waysAcross 119 = .ok (.iaload, 1) := by decide +kernel
theorem dX4_waysAcross_120 : decode cX4_waysAcross 120 = .ok (.if_icmp .ne 36, 3) := by decide +kernel
theorem dX4_waysAcross_123 : decode cX4_waysAcross 123 = .ok (.lload 6, 2) := by decide +kernel
theorem dX4_waysAcross_125 : decode cX4_waysAcross 125 = .ok (.aload_n 0, 1) := by decide +kernel
theorem dX4_waysAcross_126 : decode cX4_waysAcross 126 = .ok (.getfield 36, 3) := by decide +kernel
theorem dX4_waysAcross_129 : decode cX4_waysAcross 129 = .ok (.iload_n 1, 1) := by decide +kernel
theorem dX4_waysAcross_130 : decode cX4_waysAcross 130 = .ok (.bipush 32, 2) := by decide +kernel
theorem dX4_waysAcross_132 : decode cX4_waysAcross 132 = .ok (.imul, 1) := by decide +kernel
theorem dX4_waysAcross_133 : decode cX4_waysAcross 133 = .ok (.iload 11, 2) := by decide +kernel
theorem dX4_waysAcross_135 : decode cX4_waysAcross 135 = .ok (.iadd, 1) := by decide +kernel
theorem dX4_waysAcross_136 : decode cX4_waysAcross 136 = .ok (.iaload, 1) := by decide +kernel
theorem dX4_waysAcross_137 : decode cX4_waysAcross 137 = .ok (.i2l, 1) := by decide +kernel
theorem dX4_waysAcross_138 : decode cX4_waysAcross 138 = .ok (.aload_n 0, 1) := by decide +kernel
theorem dX4_waysAcross_139 : decode cX4_waysAcross 139 = .ok (.getfield 36, 3) := by decide +kernel
theorem dX4_waysAcross_142 : decode cX4_waysAcross 142 = .ok (.iload 5, 2) := by decide +kernel
theorem dX4_waysAcross_144 : decode cX4_waysAcross 144 = .ok (.bipush 32, 2) := by decide +kernel
theorem dX4_waysAcross_146 : decode cX4_waysAcross 146 = .ok (.imul, 1) := by decide +kernel
theorem dX4_waysAcross_147 : decode cX4_waysAcross 147 = .ok (.iload 10, 2) := by decide +kernel
theorem dX4_waysAcross_149 : decode cX4_waysAcross 149 = .ok (.iadd, 1) := by decide +kernel
theorem dX4_waysAcross_150 : decode cX4_waysAcross 150 = .ok (.iaload, 1) := by decide +kernel
theorem dX4_waysAcross_151 : decode cX4_waysAcross 151 = .ok (.i2l, 1) := by decide +kernel
theorem dX4_waysAcross_152 : decode cX4_waysAcross 152 = .ok (.lmul, 1) := by decide +kernel
theorem dX4_waysAcross_153 : decode cX4_waysAcross 153 = .ok (.ladd, 1) := by decide +kernel
theorem dX4_waysAcross_154 : decode cX4_waysAcross 154 = .ok (.lstore 6, 2) := by decide +kernel
theorem dX4_waysAcross_156 : decode cX4_waysAcross 156 = .ok (.iinc 8 1, 3) := by decide +kernel
theorem dX4_waysAcross_159 : decode cX4_waysAcross 159 = .ok (.goto (-136), 3) := by decide +kernel
theorem dX4_waysAcross_162 : decode cX4_waysAcross 162 = .ok (.lload 6, 2) := by decide +kernel
theorem dX4_waysAcross_164 : decode cX4_waysAcross 164 = .ok (.lreturn, 1) := by decide +kernel
def sX4_waysAcross_L23 (F : Nat) (l0 : Nat) (l1 : Int32) (l2 : Int32) (l3 : Int32) (l4 : Int32) (l5 : Int32) (l6 : Int64) (l8 : Int32) (h : HP) : Option ((Int64 × Int32) ⊕ Int64) :=
  if (16 : Int32) ≤ l8 then
    some (.inr l6)
  else
    nmI ((l2 * (4 : Int32)) + (l8 / (4 : Int32))) fun l9_5 =>
    nmI ((l3 * (4 : Int32)) + (jrem l8 (4 : Int32))) fun l10_6 =>
    nmI (l9_5 ^^^ (3 : Int32)) fun l11_7 =>
    (gR h 4 (some l0) 1).bind fun t8 =>
    (gR h 4 (some l0) 0).bind fun t9 =>
    (dO h 3 t8).bind fun a10 =>
    (sX3_gapsFrom F a10 t9 l1 l11_7 h).bind fun t11 =>
    (gR h 4 (some l0) 1).bind fun t12 =>
    (gR h 4 (some l0) 0).bind fun t13 =>
    (dO h 3 t12).bind fun a14 =>
    (sX3_gapsFrom F a14 t13 l5 l10_6 h).bind fun t15 =>
    nmI (t11 + t15) fun l12_16 =>
    (gR h 4 (some l0) 0).bind fun t17 =>
    (dO h 1 t17).bind fun a18 =>
    (sX1_areJoined F a18 l9_5 l10_6 h).bind fun t19 =>
    (if t19 = 0 then
        some (1 : Int32)
      else
        some (0 : Int32)).bind fun s20 =>
    (gR h 4 (some l0) 1).bind fun t21 =>
    (gR h 3 t21 0).bind fun t22 =>
    (aI h 13 t22 l4).bind fun t23 =>
    if ¬ (l12_16 + s20) = t23 then
      some (.inl (l6, l8 + (1 : Int32)))
    else
      (gR h 4 (some l0) 5).bind fun t24 =>
      (aI h 13 t24 ((l1 * (32 : Int32)) + l11_7)).bind fun t25 =>
      (gR h 4 (some l0) 5).bind fun t26 =>
      (aI h 13 t26 ((l5 * (32 : Int32)) + l10_6)).bind fun t27 =>
      nmJ (l6 + (t25.toInt64 * t27.toInt64)) fun l6_28 =>
      some (.inl (l6_28, l8 + (1 : Int32)))
def sX4_waysAcross (F : Nat) (l0 : Nat) (l1 : Int32) (l2 : Int32) (l3 : Int32) (h : HP) : Option Int64 :=
  (gR h 4 (some l0) 0).bind fun t1 =>
  (dO h 1 t1).bind fun a2 =>
  (sX1_allFingers F a2 h).bind fun t3 =>
  nmI (t3 &&& (l1 ^^^ (-1 : Int32))) fun l5_4 =>
  (iter (fun s => sX4_waysAcross_L23 F l0 l1 l2 l3 t3 l5_4 s.1 s.2 h) F ((0 : Int64), (0 : Int32))).bind fun l6_29 =>
    some l6_29
abbrev rm_X4_waysAcross : Room := { frames := 2, cells := 0, slots := 0, locals := 45 }
set_option maxRecDepth 100000 in
set_option maxHeartbeats 4000000 in
theorem mt_X4_waysAcross {w : WD} {l : Launch} {F : Nat} {l0 : Nat} {l1 : Int32} {l2 : Int32} {l3 : Int32} {h : HP} {v : Int64} (hs : sX4_waysAcross F l0 l1 l2 l3 h = some v) : MJ w l yX4_waysAcross cX4_waysAcross 13 rm_X4_waysAcross 0 0 [rf w (some l0), .int l1, .int l2, .int l3] h v h := by
  refine of_body [(0, rf w (some l0)), (1, .int l1), (2, .int l2), (3, .int l3)] (by decide) (by simp [lg_sl, rf_cat, cat_i, cat_l, cat_a]) (by simp [lv_args, rf_cat, cat_i, cat_l, cat_a]) ?_
  intro x hw_ hnL_ hl_ hc hret hnm hQ
  subst hw_; subst hl_
  have hnl : ∀ i, i < 13 → i < x.nL := fun i h => by rw [hnL_]; exact h
  have hw : wpO (sX4_waysAcross F l0 l1 l2 l3 h) (fun r => r = v) := ⟨_, hs, rfl⟩
  unfold sX4_waysAcross at hw
  refine R_aload_n (q := 0) (i := 0) (v := (some l0)) hc dX4_waysAcross_0 rfl rfl ?_
  refine R_getR hc fl_4_12 dX4_waysAcross_1 hw (fun t1 hw => ?_)
  refine R_cVI (As := []) (rest := []) (r := t1) (ci := 1) hc ml_4_42 mf_X1_allFingers rfl (by decide) ⟨rfl, rfl⟩ ⟨le_b rfl, le_b rfl⟩ ⟨Nat.zero_le _, Nat.zero_le _⟩ (fun a v e => mt_X1_allFingers e) rfl rfl (Nat.zero_le _) dX4_waysAcross_4 hw (fun t3 hw => ?_)
  refine R_istore (i := 4) (v := t3) hc [(4, .int t3), (0, rf x.w (some l0)), (1, .int l1), (2, .int l2), (3, .int l3)] dX4_waysAcross_7 (hnl 4 (le_b rfl)) rfl ?_
  refine R_iload (q := 0) (i := 4) (v := t3) hc dX4_waysAcross_9 rfl ?_
  refine R_iload_n (q := 2) (i := 1) (v := l1) hc dX4_waysAcross_11 rfl rfl ?_
  refine R_iconst (v := (-1 : Int32)) hc dX4_waysAcross_12 kI_m1 ?_
  refine R_ixor hc dX4_waysAcross_13 ?_
  refine R_iand hc dX4_waysAcross_14 ?_
  refine R_nmI hw (fun l5_4 hw => ?_)
  refine R_istore (i := 5) (v := l5_4) hc [(5, .int l5_4), (4, .int t3), (0, rf x.w (some l0)), (1, .int l1), (2, .int l2), (3, .int l3)] dX4_waysAcross_15 (hnl 5 (le_b rfl)) rfl ?_
  refine R_lconst (v := (0 : Int64)) hc dX4_waysAcross_17 kL_0 ?_
  refine R_lstore (i := 6) (v := (0 : Int64)) hc [(6, .long (0 : Int64)), (5, .int l5_4), (4, .int t3), (0, rf x.w (some l0)), (1, .int l1), (2, .int l2), (3, .int l3)] dX4_waysAcross_18 (hnl 7 (le_b rfl)) rfl ?_
  refine R_iconst (v := (0 : Int32)) hc dX4_waysAcross_20 kI_0 ?_
  refine R_istore (i := 8) (v := (0 : Int32)) hc [(8, .int (0 : Int32)), (6, .long (0 : Int64)), (5, .int l5_4), (4, .int t3), (0, rf x.w (some l0)), (1, .int l1), (2, .int l2), (3, .int l3)] dX4_waysAcross_21 (hnl 8 (le_b rfl)) rfl ?_
  refine R_sub hc [4, 5, 6, 7, 3, 2, 1, 0] rfl ?_
  refine R_loop (P := fun (s : (Int64 × Int32)) => Rn x 0 0 23 [(0, rf x.w (some l0)), (1, .int l1), (2, .int l2), (3, .int l3), (4, .int t3), (5, .int l5_4), (6, .long s.1), (8, .int s.2)] [] h) (fun l6_29 => Rn x 0 0 162 [(6, .long l6_29)] [] h) hw (fun r hw => ?_) (fun X hX s hw => ?_)
  · revert r hw
    intro l6_29 hw
    show Rn x 0 0 162 [(6, .long l6_29)] [] h
    refine R_lload (q := 0) (i := 6) (v := l6_29) hc dX4_waysAcross_162 rfl ?_
    exact R_lreturnP hc hret hQ hw dX4_waysAcross_164
  · obtain ⟨l6_31, l8_32⟩ := s
    show Rn x 0 0 23 [(0, rf x.w (some l0)), (1, .int l1), (2, .int l2), (3, .int l3), (4, .int t3), (5, .int l5_4), (6, .long l6_31), (8, .int l8_32)] [] h
    have hw : wpO (sX4_waysAcross_L23 F l0 l1 l2 l3 t3 l5_4 l6_31 l8_32 h) _ := hw
    unfold sX4_waysAcross_L23 at hw
    refine R_iload (q := 7) (i := 8) (v := l8_32) hc dX4_waysAcross_23 rfl ?_
    refine R_bipush (v := (16 : Int32)) hc dX4_waysAcross_25 kB_16 ?_
    refine R_icmp_ge (tgt := 162) hc dX4_waysAcross_27 (by decide) hw (fun hw => ?_) (fun hw => ?_)
    · refine R_sub hc [6] rfl ?_
      exact (wpO_some hw :)
    · refine R_iload_n (q := 2) (i := 2) (v := l2) hc dX4_waysAcross_30 rfl rfl ?_
      refine R_iconst (v := (4 : Int32)) hc dX4_waysAcross_31 kI_4 ?_
      refine R_imul hc dX4_waysAcross_32 ?_
      refine R_iload (q := 7) (i := 8) (v := l8_32) hc dX4_waysAcross_33 rfl ?_
      refine R_iconst (v := (4 : Int32)) hc dX4_waysAcross_35 kI_4 ?_
      refine R_idivL hc dX4_waysAcross_36 (by decide) ?_
      refine R_iadd hc dX4_waysAcross_37 ?_
      refine R_nmI hw (fun l9_5 hw => ?_)
      refine R_istore (i := 9) (v := l9_5) hc [(9, .int l9_5), (0, rf x.w (some l0)), (1, .int l1), (2, .int l2), (3, .int l3), (4, .int t3), (5, .int l5_4), (6, .long l6_31), (8, .int l8_32)] dX4_waysAcross_38 (hnl 9 (le_b rfl)) rfl ?_
      refine R_iload_n (q := 4) (i := 3) (v := l3) hc dX4_waysAcross_40 rfl rfl ?_
      refine R_iconst (v := (4 : Int32)) hc dX4_waysAcross_41 kI_4 ?_
      refine R_imul hc dX4_waysAcross_42 ?_
      refine R_iload (q := 8) (i := 8) (v := l8_32) hc dX4_waysAcross_43 rfl ?_
      refine R_iconst (v := (4 : Int32)) hc dX4_waysAcross_45 kI_4 ?_
      refine R_iremL hc dX4_waysAcross_46 (by decide) ?_
      refine R_iadd hc dX4_waysAcross_47 ?_
      refine R_nmI hw (fun l10_6 hw => ?_)
      refine R_istore (i := 10) (v := l10_6) hc [(10, .int l10_6), (9, .int l9_5), (0, rf x.w (some l0)), (1, .int l1), (2, .int l2), (3, .int l3), (4, .int t3), (5, .int l5_4), (6, .long l6_31), (8, .int l8_32)] dX4_waysAcross_48 (hnl 10 (le_b rfl)) rfl ?_
      refine R_iload (q := 1) (i := 9) (v := l9_5) hc dX4_waysAcross_50 rfl ?_
      refine R_iconst (v := (3 : Int32)) hc dX4_waysAcross_52 kI_3 ?_
      refine R_ixor hc dX4_waysAcross_53 ?_
      refine R_nmI hw (fun l11_7 hw => ?_)
      refine R_istore (i := 11) (v := l11_7) hc [(11, .int l11_7), (10, .int l10_6), (9, .int l9_5), (0, rf x.w (some l0)), (1, .int l1), (2, .int l2), (3, .int l3), (4, .int t3), (5, .int l5_4), (6, .long l6_31), (8, .int l8_32)] dX4_waysAcross_54 (hnl 11 (le_b rfl)) rfl ?_
      refine R_aload_n (q := 3) (i := 0) (v := (some l0)) hc dX4_waysAcross_56 rfl rfl ?_
      refine R_getR hc fl_4_21 dX4_waysAcross_57 hw (fun t8 hw => ?_)
      refine R_aload_n (q := 3) (i := 0) (v := (some l0)) hc dX4_waysAcross_60 rfl rfl ?_
      refine R_getR hc fl_4_12 dX4_waysAcross_61 hw (fun t9 hw => ?_)
      refine R_iload_n (q := 4) (i := 1) (v := l1) hc dX4_waysAcross_64 rfl rfl ?_
      refine R_iload (q := 0) (i := 11) (v := l11_7) hc dX4_waysAcross_65 rfl ?_
      refine R_cVI (As := [rf x.w t9, .int l1, .int l11_7]) (rest := []) (r := t8) (ci := 3) hc ml_4_122 mf_X3_gapsFrom rfl (by decide) ⟨rfl, rfl⟩ ⟨le_b rfl, le_b rfl⟩ ⟨Nat.zero_le _, Nat.zero_le _⟩ (fun a v e => mt_X3_gapsFrom e) rfl rfl (Nat.zero_le _) dX4_waysAcross_67 hw (fun t11 hw => ?_)
      refine R_aload_n (q := 3) (i := 0) (v := (some l0)) hc dX4_waysAcross_70 rfl rfl ?_
      refine R_getR hc fl_4_21 dX4_waysAcross_71 hw (fun t12 hw => ?_)
      refine R_aload_n (q := 3) (i := 0) (v := (some l0)) hc dX4_waysAcross_74 rfl rfl ?_
      refine R_getR hc fl_4_12 dX4_waysAcross_75 hw (fun t13 hw => ?_)
      refine R_iload (q := 8) (i := 5) (v := l5_4) hc dX4_waysAcross_78 rfl ?_
      refine R_iload (q := 1) (i := 10) (v := l10_6) hc dX4_waysAcross_80 rfl ?_
      refine R_cVI (As := [rf x.w t13, .int l5_4, .int l10_6]) (rest := [.int t11]) (r := t12) (ci := 3) hc ml_4_122 mf_X3_gapsFrom rfl (by decide) ⟨rfl, rfl⟩ ⟨le_b rfl, le_b rfl⟩ ⟨Nat.zero_le _, Nat.zero_le _⟩ (fun a v e => mt_X3_gapsFrom e) rfl rfl (le_b rfl) dX4_waysAcross_82 hw (fun t15 hw => ?_)
      refine R_iadd hc dX4_waysAcross_85 ?_
      refine R_nmI hw (fun l12_16 hw => ?_)
      refine R_istore (i := 12) (v := l12_16) hc [(12, .int l12_16), (11, .int l11_7), (10, .int l10_6), (9, .int l9_5), (0, rf x.w (some l0)), (1, .int l1), (2, .int l2), (3, .int l3), (4, .int t3), (5, .int l5_4), (6, .long l6_31), (8, .int l8_32)] dX4_waysAcross_86 (hnl 12 (le_b rfl)) rfl ?_
      refine R_iload (q := 0) (i := 12) (v := l12_16) hc dX4_waysAcross_88 rfl ?_
      refine R_aload_n (q := 4) (i := 0) (v := (some l0)) hc dX4_waysAcross_90 rfl rfl ?_
      refine R_getR hc fl_4_12 dX4_waysAcross_91 hw (fun t17 hw => ?_)
      refine R_iload (q := 3) (i := 9) (v := l9_5) hc dX4_waysAcross_94 rfl ?_
      refine R_iload (q := 2) (i := 10) (v := l10_6) hc dX4_waysAcross_96 rfl ?_
      refine R_cVI (As := [.int l9_5, .int l10_6]) (rest := [.int l12_16]) (r := t17) (ci := 1) hc ml_4_138 mf_X1_areJoined rfl (by decide) ⟨rfl, rfl⟩ ⟨le_b rfl, le_b rfl⟩ ⟨Nat.zero_le _, Nat.zero_le _⟩ (fun a v e => mt_X1_areJoined e) rfl rfl (le_b rfl) dX4_waysAcross_98 hw (fun t19 hw => ?_)
      refine R_join (fun (s20 : Int32) => Rn x 0 0 109 [(0, rf x.w (some l0)), (1, .int l1), (2, .int l2), (3, .int l3), (4, .int t3), (5, .int l5_4), (6, .long l6_31), (8, .int l8_32), (10, .int l10_6), (11, .int l11_7)] [.int s20, .int l12_16] h) hw (fun r hw => ?_) (fun hw => ?_)
      · revert r hw
        intro s20 hw
        show Rn x 0 0 109 [(0, rf x.w (some l0)), (1, .int l1), (2, .int l2), (3, .int l3), (4, .int t3), (5, .int l5_4), (6, .long l6_31), (8, .int l8_32), (10, .int l10_6), (11, .int l11_7)] [.int s20, .int l12_16] h
        refine R_iadd hc dX4_waysAcross_109 ?_
        refine R_aload_n (q := 0) (i := 0) (v := (some l0)) hc dX4_waysAcross_110 rfl rfl ?_
        refine R_getR hc fl_4_21 dX4_waysAcross_111 hw (fun t21 hw => ?_)
        refine R_getR hc fl_4_125 dX4_waysAcross_114 hw (fun t22 hw => ?_)
        refine R_iload (q := 4) (i := 4) (v := t3) hc dX4_waysAcross_117 rfl ?_
        refine R_iaload hc dX4_waysAcross_119 hw (fun t23 hw => ?_)
        refine R_icmp_ne (tgt := 156) hc dX4_waysAcross_120 (by decide) hw (fun hw => ?_) (fun hw => ?_)
        · refine R_iinc (q := 7) (i := 8) (v := l8_32) hc [(8, .int (l8_32 + (1 : Int32))), (0, rf x.w (some l0)), (1, .int l1), (2, .int l2), (3, .int l3), (4, .int t3), (5, .int l5_4), (6, .long l6_31), (10, .int l10_6), (11, .int l11_7)] dX4_waysAcross_156 rfl (kC_1 _) (hnl 8 (le_b rfl)) rfl ?_
          refine R_goto (tgt := 23) hc dX4_waysAcross_159 (by decide) ?_
          refine R_sub hc [1, 2, 3, 4, 5, 6, 7, 0] rfl ?_
          exact hX (l6_31, l8_32 + (1 : Int32)) (wpO_some hw :)
        · refine R_lload (q := 6) (i := 6) (v := l6_31) hc dX4_waysAcross_123 rfl ?_
          refine R_aload_n (q := 0) (i := 0) (v := (some l0)) hc dX4_waysAcross_125 rfl rfl ?_
          refine R_getR hc fl_4_36 dX4_waysAcross_126 hw (fun t24 hw => ?_)
          refine R_iload_n (q := 1) (i := 1) (v := l1) hc dX4_waysAcross_129 rfl rfl ?_
          refine R_bipush (v := (32 : Int32)) hc dX4_waysAcross_130 kB_32 ?_
          refine R_imul hc dX4_waysAcross_132 ?_
          refine R_iload (q := 9) (i := 11) (v := l11_7) hc dX4_waysAcross_133 rfl ?_
          refine R_iadd hc dX4_waysAcross_135 ?_
          refine R_iaload hc dX4_waysAcross_136 hw (fun t25 hw => ?_)
          refine R_i2l hc dX4_waysAcross_137 ?_
          refine R_aload_n (q := 0) (i := 0) (v := (some l0)) hc dX4_waysAcross_138 rfl rfl ?_
          refine R_getR hc fl_4_36 dX4_waysAcross_139 hw (fun t26 hw => ?_)
          refine R_iload (q := 5) (i := 5) (v := l5_4) hc dX4_waysAcross_142 rfl ?_
          refine R_bipush (v := (32 : Int32)) hc dX4_waysAcross_144 kB_32 ?_
          refine R_imul hc dX4_waysAcross_146 ?_
          refine R_iload (q := 8) (i := 10) (v := l10_6) hc dX4_waysAcross_147 rfl ?_
          refine R_iadd hc dX4_waysAcross_149 ?_
          refine R_iaload hc dX4_waysAcross_150 hw (fun t27 hw => ?_)
          refine R_i2l hc dX4_waysAcross_151 ?_
          refine R_lmul hc dX4_waysAcross_152 ?_
          refine R_ladd hc dX4_waysAcross_153 ?_
          refine R_nmJ hw (fun l6_28 hw => ?_)
          refine R_lstore (i := 6) (v := l6_28) hc [(6, .long l6_28), (0, rf x.w (some l0)), (1, .int l1), (2, .int l2), (3, .int l3), (4, .int t3), (5, .int l5_4), (8, .int l8_32), (10, .int l10_6), (11, .int l11_7)] dX4_waysAcross_154 (hnl 7 (le_b rfl)) rfl ?_
          refine R_iinc (q := 7) (i := 8) (v := l8_32) hc [(8, .int (l8_32 + (1 : Int32))), (6, .long l6_28), (0, rf x.w (some l0)), (1, .int l1), (2, .int l2), (3, .int l3), (4, .int t3), (5, .int l5_4), (10, .int l10_6), (11, .int l11_7)] dX4_waysAcross_156 rfl (kC_1 _) (hnl 8 (le_b rfl)) rfl ?_
          refine R_goto (tgt := 23) hc dX4_waysAcross_159 (by decide) ?_
          refine R_sub hc [2, 3, 4, 5, 6, 7, 1, 0] rfl ?_
          exact hX (l6_28, l8_32 + (1 : Int32)) (wpO_some hw :)
      · refine R_if_eq (tgt := 108) hc dX4_waysAcross_101 (by decide) hw (fun hw => ?_) (fun hw => ?_)
        · refine R_iconst (v := (1 : Int32)) hc dX4_waysAcross_108 kI_1 ?_
          refine R_sub hc [4, 5, 6, 7, 8, 9, 10, 11, 2, 1] rfl ?_
          exact (wpO_some hw :)
        · refine R_iconst (v := (0 : Int32)) hc dX4_waysAcross_104 kI_0 ?_
          refine R_goto (tgt := 109) hc dX4_waysAcross_105 (by decide) ?_
          refine R_sub hc [4, 5, 6, 7, 8, 9, 10, 11, 2, 1] rfl ?_
          exact (wpO_some hw :)
theorem dX4_waysAhead_0 : decode cX4_waysAhead 0 = .ok (.aload_n 0, 1) := by decide +kernel
theorem dX4_waysAhead_1 : decode cX4_waysAhead 1 = .ok (.getfield 12, 3) := by decide +kernel
theorem dX4_waysAhead_4 : decode cX4_waysAhead 4 = .ok (.invokevirtual 42, 3) := by decide +kernel
theorem dX4_waysAhead_7 : decode cX4_waysAhead 7 = .ok (.istore_n 3, 1) := by decide +kernel
theorem dX4_waysAhead_8 : decode cX4_waysAhead 8 = .ok (.lconst 0, 1) := by decide +kernel
theorem dX4_waysAhead_9 : decode cX4_waysAhead 9 = .ok (.lstore 4, 2) := by decide +kernel
theorem dX4_waysAhead_11 : decode cX4_waysAhead 11 = .ok (.iconst 0, 1) := by decide +kernel
theorem dX4_waysAhead_12 : decode cX4_waysAhead 12 = .ok (.istore 6, 2) := by decide +kernel
theorem dX4_waysAhead_14 : decode cX4_waysAhead 14 = .ok (.iload 6, 2) := by decide +kernel
theorem dX4_waysAhead_16 : decode cX4_waysAhead 16 = .ok (.iload_n 3, 1) := by decide +kernel
theorem dX4_waysAhead_17 : decode cX4_waysAhead 17 = .ok (.if_icmp .gt 40, 3) := by decide +kernel
theorem dX4_waysAhead_20 : decode cX4_waysAhead 20 = .ok (.iload 6, 2) := by decide +kernel
theorem dX4_waysAhead_22 : decode cX4_waysAhead 22 = .ok (.iload_n 1, 1) := by decide +kernel
theorem dX4_waysAhead_23 : decode cX4_waysAhead 23 = .ok (.invokestatic 61, 3) := by decide +kernel
theorem dX4_waysAhead_26 : decode cX4_waysAhead 26 = .ok (.ifCond .eq 25, 3) := by decide +kernel
theorem dX4_waysAhead_29 : decode cX4_waysAhead 29 = .ok (.iload 6, 2) := by decide +kernel
theorem dX4_waysAhead_31 : decode cX4_waysAhead 31 = .ok (.iload_n 2, 1) := by decide +kernel
theorem dX4_waysAhead_32 : decode cX4_waysAhead 32 = .ok (.invokestatic 61, 3) := by decide +kernel
theorem dX4_waysAhead_35 : decode cX4_waysAhead 35 = .ok (.ifCond .ne 16, 3) := by decide +kernel
theorem dX4_waysAhead_38 : decode cX4_waysAhead 38 = .ok (.lload 4, 2) := by decide +kernel
theorem dX4_waysAhead_40 : decode cX4_waysAhead 40 = .ok (.aload_n 0, 1) := by decide +kernel
theorem dX4_waysAhead_41 : decode cX4_waysAhead 41 = .ok (.iload 6, 2) := by decide +kernel
theorem dX4_waysAhead_43 : decode cX4_waysAhead 43 = .ok (.iload_n 1, 1) := by decide +kernel
theorem dX4_waysAhead_44 : decode cX4_waysAhead 44 = .ok (.iload_n 2, 1) := by decide +kernel
theorem dX4_waysAhead_45 : decode cX4_waysAhead 45 = .ok (.invokevirtual 134, 3) := by decide +kernel
theorem dX4_waysAhead_48 : decode cX4_waysAhead 48 = .ok (.ladd, 1) := by decide +kernel
theorem dX4_waysAhead_49 : decode cX4_waysAhead 49 = .ok (.lstore 4, 2) := by decide +kernel
theorem dX4_waysAhead_51 : decode cX4_waysAhead 51 = .ok (.iinc 6 1, 3) := by decide +kernel
theorem dX4_waysAhead_54 : decode cX4_waysAhead 54 = .ok (.goto (-40), 3) := by decide +kernel
theorem dX4_waysAhead_57 : decode cX4_waysAhead 57 = .ok (.lload 4, 2) := by decide +kernel
theorem dX4_waysAhead_59 : decode cX4_waysAhead 59 = .ok (.lreturn, 1) := by decide +kernel
def sX4_waysAhead_L14 (F : Nat) (l0 : Nat) (l1 : Int32) (l2 : Int32) (l3 : Int32) (l4 : Int64) (l6 : Int32) (h : HP) : Option ((Int64 × Int32) ⊕ Int64) :=
  if l3 < l6 then
    some (.inr l4)
  else
    (sX10_has F l6 l1 h).bind fun t4 =>
    if t4 = 0 then
      some (.inl (l4, l6 + (1 : Int32)))
    else
      (sX10_has F l6 l2 h).bind fun t5 =>
      if ¬ t5 = 0 then
        some (.inl (l4, l6 + (1 : Int32)))
      else
        (dO h 4 (some l0)).bind fun a6 =>
        (sX4_waysAcross F a6 l6 l1 l2 h).bind fun t7 =>
        nmJ (l4 + t7) fun l4_8 =>
        some (.inl (l4_8, l6 + (1 : Int32)))
def sX4_waysAhead (F : Nat) (l0 : Nat) (l1 : Int32) (l2 : Int32) (h : HP) : Option Int64 :=
  (gR h 4 (some l0) 0).bind fun t1 =>
  (dO h 1 t1).bind fun a2 =>
  (sX1_allFingers F a2 h).bind fun t3 =>
  (iter (fun s => sX4_waysAhead_L14 F l0 l1 l2 t3 s.1 s.2 h) F ((0 : Int64), (0 : Int32))).bind fun l4_9 =>
    some l4_9
abbrev rm_X4_waysAhead : Room := { frames := 3, cells := 0, slots := 0, locals := 77 }
set_option maxRecDepth 100000 in
set_option maxHeartbeats 4000000 in
theorem mt_X4_waysAhead {w : WD} {l : Launch} {F : Nat} {l0 : Nat} {l1 : Int32} {l2 : Int32} {h : HP} {v : Int64} (hs : sX4_waysAhead F l0 l1 l2 h = some v) : MJ w l yX4_waysAhead cX4_waysAhead 7 rm_X4_waysAhead 0 0 [rf w (some l0), .int l1, .int l2] h v h := by
  refine of_body [(0, rf w (some l0)), (1, .int l1), (2, .int l2)] (by decide) (by simp [lg_sl, rf_cat, cat_i, cat_l, cat_a]) (by simp [lv_args, rf_cat, cat_i, cat_l, cat_a]) ?_
  intro x hw_ hnL_ hl_ hc hret hnm hQ
  subst hw_; subst hl_
  have hnl : ∀ i, i < 7 → i < x.nL := fun i h => by rw [hnL_]; exact h
  have hw : wpO (sX4_waysAhead F l0 l1 l2 h) (fun r => r = v) := ⟨_, hs, rfl⟩
  unfold sX4_waysAhead at hw
  refine R_aload_n (q := 0) (i := 0) (v := (some l0)) hc dX4_waysAhead_0 rfl rfl ?_
  refine R_getR hc fl_4_12 dX4_waysAhead_1 hw (fun t1 hw => ?_)
  refine R_cVI (As := []) (rest := []) (r := t1) (ci := 1) hc ml_4_42 mf_X1_allFingers rfl (by decide) ⟨rfl, rfl⟩ ⟨le_b rfl, le_b rfl⟩ ⟨Nat.zero_le _, Nat.zero_le _⟩ (fun a v e => mt_X1_allFingers e) rfl rfl (Nat.zero_le _) dX4_waysAhead_4 hw (fun t3 hw => ?_)
  refine R_istore_n (i := 3) (v := t3) hc [(3, .int t3), (0, rf x.w (some l0)), (1, .int l1), (2, .int l2)] dX4_waysAhead_7 rfl (hnl 3 (le_b rfl)) rfl ?_
  refine R_lconst (v := (0 : Int64)) hc dX4_waysAhead_8 kL_0 ?_
  refine R_lstore (i := 4) (v := (0 : Int64)) hc [(4, .long (0 : Int64)), (3, .int t3), (0, rf x.w (some l0)), (1, .int l1), (2, .int l2)] dX4_waysAhead_9 (hnl 5 (le_b rfl)) rfl ?_
  refine R_iconst (v := (0 : Int32)) hc dX4_waysAhead_11 kI_0 ?_
  refine R_istore (i := 6) (v := (0 : Int32)) hc [(6, .int (0 : Int32)), (4, .long (0 : Int64)), (3, .int t3), (0, rf x.w (some l0)), (1, .int l1), (2, .int l2)] dX4_waysAhead_12 (hnl 6 (le_b rfl)) rfl ?_
  refine R_sub hc [3, 4, 5, 2, 1, 0] rfl ?_
  refine R_loop (P := fun (s : (Int64 × Int32)) => Rn x 0 0 14 [(0, rf x.w (some l0)), (1, .int l1), (2, .int l2), (3, .int t3), (4, .long s.1), (6, .int s.2)] [] h) (fun l4_9 => Rn x 0 0 57 [(4, .long l4_9)] [] h) hw (fun r hw => ?_) (fun X hX s hw => ?_)
  · revert r hw
    intro l4_9 hw
    show Rn x 0 0 57 [(4, .long l4_9)] [] h
    refine R_lload (q := 0) (i := 4) (v := l4_9) hc dX4_waysAhead_57 rfl ?_
    exact R_lreturnP hc hret hQ hw dX4_waysAhead_59
  · obtain ⟨l4_11, l6_12⟩ := s
    show Rn x 0 0 14 [(0, rf x.w (some l0)), (1, .int l1), (2, .int l2), (3, .int t3), (4, .long l4_11), (6, .int l6_12)] [] h
    have hw : wpO (sX4_waysAhead_L14 F l0 l1 l2 t3 l4_11 l6_12 h) _ := hw
    unfold sX4_waysAhead_L14 at hw
    refine R_iload (q := 5) (i := 6) (v := l6_12) hc dX4_waysAhead_14 rfl ?_
    refine R_iload_n (q := 3) (i := 3) (v := t3) hc dX4_waysAhead_16 rfl rfl ?_
    refine R_icmp_gt (tgt := 57) hc dX4_waysAhead_17 (by decide) hw (fun hw => ?_) (fun hw => ?_)
    · refine R_sub hc [4] rfl ?_
      exact (wpO_some hw :)
    · refine R_iload (q := 5) (i := 6) (v := l6_12) hc dX4_waysAhead_20 rfl ?_
      refine R_iload_n (q := 1) (i := 1) (v := l1) hc dX4_waysAhead_22 rfl rfl ?_
      refine R_cNI (As := [.int l6_12, .int l1]) (rest := []) hc mn_4_61 mf_X10_has ⟨rfl, rfl⟩ ⟨le_b rfl, le_b rfl⟩ ⟨Nat.zero_le _, Nat.zero_le _⟩ (fun v e => mt_X10_has e) rfl rfl (Nat.zero_le _) dX4_waysAhead_23 hw (fun t4 hw => ?_)
      refine R_if_eq (tgt := 51) hc dX4_waysAhead_26 (by decide) hw (fun hw => ?_) (fun hw => ?_)
      · refine R_iinc (q := 5) (i := 6) (v := l6_12) hc [(6, .int (l6_12 + (1 : Int32))), (0, rf x.w (some l0)), (1, .int l1), (2, .int l2), (3, .int t3), (4, .long l4_11)] dX4_waysAhead_51 rfl (kC_1 _) (hnl 6 (le_b rfl)) rfl ?_
        refine R_goto (tgt := 14) hc dX4_waysAhead_54 (by decide) ?_
        refine R_sub hc [1, 2, 3, 4, 5, 0] rfl ?_
        exact hX (l4_11, l6_12 + (1 : Int32)) (wpO_some hw :)
      · refine R_iload (q := 5) (i := 6) (v := l6_12) hc dX4_waysAhead_29 rfl ?_
        refine R_iload_n (q := 2) (i := 2) (v := l2) hc dX4_waysAhead_31 rfl rfl ?_
        refine R_cNI (As := [.int l6_12, .int l2]) (rest := []) hc mn_4_61 mf_X10_has ⟨rfl, rfl⟩ ⟨le_b rfl, le_b rfl⟩ ⟨Nat.zero_le _, Nat.zero_le _⟩ (fun v e => mt_X10_has e) rfl rfl (Nat.zero_le _) dX4_waysAhead_32 hw (fun t5 hw => ?_)
        refine R_if_ne (tgt := 51) hc dX4_waysAhead_35 (by decide) hw (fun hw => ?_) (fun hw => ?_)
        · refine R_iinc (q := 5) (i := 6) (v := l6_12) hc [(6, .int (l6_12 + (1 : Int32))), (0, rf x.w (some l0)), (1, .int l1), (2, .int l2), (3, .int t3), (4, .long l4_11)] dX4_waysAhead_51 rfl (kC_1 _) (hnl 6 (le_b rfl)) rfl ?_
          refine R_goto (tgt := 14) hc dX4_waysAhead_54 (by decide) ?_
          refine R_sub hc [1, 2, 3, 4, 5, 0] rfl ?_
          exact hX (l4_11, l6_12 + (1 : Int32)) (wpO_some hw :)
        · refine R_lload (q := 4) (i := 4) (v := l4_11) hc dX4_waysAhead_38 rfl ?_
          refine R_aload_n (q := 0) (i := 0) (v := (some l0)) hc dX4_waysAhead_40 rfl rfl ?_
          refine R_iload (q := 5) (i := 6) (v := l6_12) hc dX4_waysAhead_41 rfl ?_
          refine R_iload_n (q := 1) (i := 1) (v := l1) hc dX4_waysAhead_43 rfl rfl ?_
          refine R_iload_n (q := 2) (i := 2) (v := l2) hc dX4_waysAhead_44 rfl rfl ?_
          refine R_cVJ (As := [.int l6_12, .int l1, .int l2]) (rest := [.long l4_11]) (r := (some l0)) (ci := 4) hc ml_4_134 mf_X4_waysAcross rfl (by decide) ⟨rfl, rfl⟩ ⟨le_b rfl, le_b rfl⟩ ⟨Nat.zero_le _, Nat.zero_le _⟩ (fun a v e => mt_X4_waysAcross e) rfl rfl (le_b rfl) dX4_waysAhead_45 hw (fun t7 hw => ?_)
          refine R_ladd hc dX4_waysAhead_48 ?_
          refine R_nmJ hw (fun l4_8 hw => ?_)
          refine R_lstore (i := 4) (v := l4_8) hc [(4, .long l4_8), (0, rf x.w (some l0)), (1, .int l1), (2, .int l2), (3, .int t3), (6, .int l6_12)] dX4_waysAhead_49 (hnl 5 (le_b rfl)) rfl ?_
          refine R_iinc (q := 5) (i := 6) (v := l6_12) hc [(6, .int (l6_12 + (1 : Int32))), (4, .long l4_8), (0, rf x.w (some l0)), (1, .int l1), (2, .int l2), (3, .int t3)] dX4_waysAhead_51 rfl (kC_1 _) (hnl 6 (le_b rfl)) rfl ?_
          refine R_goto (tgt := 14) hc dX4_waysAhead_54 (by decide) ?_
          refine R_sub hc [2, 3, 4, 5, 1, 0] rfl ?_
          exact hX (l4_8, l6_12 + (1 : Int32)) (wpO_some hw :)
theorem dX4_waysFrom_0 : decode cX4_waysFrom 0 = .ok (.aload_n 0, 1) := by decide +kernel
theorem dX4_waysFrom_1 : decode cX4_waysFrom 1 = .ok (.getfield 12, 3) := by decide +kernel
theorem dX4_waysFrom_4 : decode cX4_waysFrom 4 = .ok (.invokevirtual 42, 3) := by decide +kernel
theorem dX4_waysFrom_7 : decode cX4_waysFrom 7 = .ok (.istore_n 2, 1) := by decide +kernel
theorem dX4_waysFrom_8 : decode cX4_waysFrom 8 = .ok (.aload_n 0, 1) := by decide +kernel
theorem dX4_waysFrom_9 : decode cX4_waysFrom 9 = .ok (.iload_n 2, 1) := by decide +kernel
theorem dX4_waysFrom_10 : decode cX4_waysFrom 10 = .ok (.aload_n 0, 1) := by decide +kernel
theorem dX4_waysFrom_11 : decode cX4_waysFrom 11 = .ok (.getfield 21, 3) := by decide +kernel
theorem dX4_waysFrom_14 : decode cX4_waysFrom 14 = .ok (.getfield 69, 3) := by decide +kernel
theorem dX4_waysFrom_17 : decode cX4_waysFrom 17 = .ok (.iload_n 2, 1) := by decide +kernel
theorem dX4_waysFrom_18 : decode cX4_waysFrom 18 = .ok (.iaload, 1) := by decide +kernel
theorem dX4_waysFrom_19 : decode cX4_waysFrom 19 = .ok (.bipush 15, 2) := by decide +kernel
theorem dX4_waysFrom_21 : decode cX4_waysFrom 21 = .ok (.iload_n 1, 1) := by decide +kernel
theorem dX4_waysFrom_22 : decode cX4_waysFrom 22 = .ok (.iconst 4, 1) := by decide +kernel
theorem dX4_waysFrom_23 : decode cX4_waysFrom 23 = .ok (.imul, 1) := by decide +kernel
theorem dX4_waysFrom_24 : decode cX4_waysFrom 24 = .ok (.ishl, 1) := by decide +kernel
theorem dX4_waysFrom_25 : decode cX4_waysFrom 25 = .ok (.iand, 1) := by decide +kernel
theorem dX4_waysFrom_26 : decode cX4_waysFrom 26 = .ok (.invokevirtual 72, 3) := by decide +kernel
theorem dX4_waysFrom_29 : decode cX4_waysFrom 29 = .ok (.lreturn, 1) := by decide +kernel
def sX4_waysFrom (F : Nat) (l0 : Nat) (l1 : Int32) (h : HP) : Option Int64 :=
  (gR h 4 (some l0) 0).bind fun t1 =>
  (dO h 1 t1).bind fun a2 =>
  (sX1_allFingers F a2 h).bind fun t3 =>
  (gR h 4 (some l0) 1).bind fun t4 =>
  (gR h 3 t4 1).bind fun t5 =>
  (aI h 13 t5 t3).bind fun t6 =>
  (dO h 4 (some l0)).bind fun a7 =>
  (sX4_waysOver F a7 t3 (t6 &&& (jshl (15 : Int32) (l1 * (4 : Int32)))) h).bind fun t8 =>
  some t8
abbrev rm_X4_waysFrom : Room := { frames := 3, cells := 0, slots := 0, locals := 66 }
set_option maxRecDepth 100000 in
set_option maxHeartbeats 4000000 in
theorem mt_X4_waysFrom {w : WD} {l : Launch} {F : Nat} {l0 : Nat} {l1 : Int32} {h : HP} {v : Int64} (hs : sX4_waysFrom F l0 l1 h = some v) : MJ w l yX4_waysFrom cX4_waysFrom 3 rm_X4_waysFrom 0 0 [rf w (some l0), .int l1] h v h := by
  refine of_body [(0, rf w (some l0)), (1, .int l1)] (by decide) (by simp [lg_sl, rf_cat, cat_i, cat_l, cat_a]) (by simp [lv_args, rf_cat, cat_i, cat_l, cat_a]) ?_
  intro x hw_ hnL_ hl_ hc hret hnm hQ
  subst hw_; subst hl_
  have hnl : ∀ i, i < 3 → i < x.nL := fun i h => by rw [hnL_]; exact h
  have hw : wpO (sX4_waysFrom F l0 l1 h) (fun r => r = v) := ⟨_, hs, rfl⟩
  unfold sX4_waysFrom at hw
  refine R_aload_n (q := 0) (i := 0) (v := (some l0)) hc dX4_waysFrom_0 rfl rfl ?_
  refine R_getR hc fl_4_12 dX4_waysFrom_1 hw (fun t1 hw => ?_)
  refine R_cVI (As := []) (rest := []) (r := t1) (ci := 1) hc ml_4_42 mf_X1_allFingers rfl (by decide) ⟨rfl, rfl⟩ ⟨le_b rfl, le_b rfl⟩ ⟨Nat.zero_le _, Nat.zero_le _⟩ (fun a v e => mt_X1_allFingers e) rfl rfl (Nat.zero_le _) dX4_waysFrom_4 hw (fun t3 hw => ?_)
  refine R_istore_n (i := 2) (v := t3) hc [(2, .int t3), (0, rf x.w (some l0)), (1, .int l1)] dX4_waysFrom_7 rfl (hnl 2 (le_b rfl)) rfl ?_
  refine R_aload_n (q := 1) (i := 0) (v := (some l0)) hc dX4_waysFrom_8 rfl rfl ?_
  refine R_iload_n (q := 0) (i := 2) (v := t3) hc dX4_waysFrom_9 rfl rfl ?_
  refine R_aload_n (q := 1) (i := 0) (v := (some l0)) hc dX4_waysFrom_10 rfl rfl ?_
  refine R_getR hc fl_4_21 dX4_waysFrom_11 hw (fun t4 hw => ?_)
  refine R_getR hc fl_4_69 dX4_waysFrom_14 hw (fun t5 hw => ?_)
  refine R_iload_n (q := 0) (i := 2) (v := t3) hc dX4_waysFrom_17 rfl rfl ?_
  refine R_iaload hc dX4_waysFrom_18 hw (fun t6 hw => ?_)
  refine R_bipush (v := (15 : Int32)) hc dX4_waysFrom_19 kB_15 ?_
  refine R_iload_n (q := 2) (i := 1) (v := l1) hc dX4_waysFrom_21 rfl rfl ?_
  refine R_iconst (v := (4 : Int32)) hc dX4_waysFrom_22 kI_4 ?_
  refine R_imul hc dX4_waysFrom_23 ?_
  refine R_ishl hc dX4_waysFrom_24 ?_
  refine R_iand hc dX4_waysFrom_25 ?_
  refine R_cVJ (As := [.int t3, .int (t6 &&& (jshl (15 : Int32) (l1 * (4 : Int32))))]) (rest := []) (r := (some l0)) (ci := 4) hc ml_4_72 mf_X4_waysOver rfl (by decide) ⟨rfl, rfl⟩ ⟨le_b rfl, le_b rfl⟩ ⟨Nat.zero_le _, Nat.zero_le _⟩ (fun a v e => mt_X4_waysOver e) rfl rfl (Nat.zero_le _) dX4_waysFrom_26 hw (fun t8 hw => ?_)
  exact R_lreturnP hc hret hQ hw dX4_waysFrom_29
theorem dX5_remember_0 : decode cX5_remember 0 = .ok (.aload_n 0, 1) := by decide +kernel
theorem dX5_remember_1 : decode cX5_remember 1 = .ok (.getfield 20, 3) := by decide +kernel
theorem dX5_remember_4 : decode cX5_remember 4 = .ok (.aload_n 0, 1) := by decide +kernel
theorem dX5_remember_5 : decode cX5_remember 5 = .ok (.getfield 15, 3) := by decide +kernel
theorem dX5_remember_8 : decode cX5_remember 8 = .ok (.aaload, 1) := by decide +kernel
theorem dX5_remember_9 : decode cX5_remember 9 = .ok (.aload_n 1, 1) := by decide +kernel
theorem dX5_remember_10 : decode cX5_remember 10 = .ok (.invokevirtual 25, 3) := by decide +kernel
theorem dX5_remember_13 : decode cX5_remember 13 = .ok (.aload_n 0, 1) := by decide +kernel
theorem dX5_remember_14 : decode cX5_remember 14 = .ok (.aload_n 0, 1) := by decide +kernel
theorem dX5_remember_15 : decode cX5_remember 15 = .ok (.getfield 15, 3) := by decide +kernel
theorem dX5_remember_18 : decode cX5_remember 18 = .ok (.iconst 1, 1) := by decide +kernel
theorem dX5_remember_19 : decode cX5_remember 19 = .ok (.iadd, 1) := by decide +kernel
theorem dX5_remember_20 : decode cX5_remember 20 = .ok (.bipush 8, 2) := by decide +kernel
theorem dX5_remember_22 : decode cX5_remember 22 = .ok (.irem, 1) := by decide +kernel
theorem dX5_remember_23 : decode cX5_remember 23 = .ok (.putfield 15, 3) := by decide +kernel
theorem dX5_remember_26 : decode cX5_remember 26 = .ok (.aload_n 0, 1) := by decide +kernel
theorem dX5_remember_27 : decode cX5_remember 27 = .ok (.aload_n 0, 1) := by decide +kernel
theorem dX5_remember_28 : decode cX5_remember 28 = .ok (.getfield 9, 3) := by decide +kernel
theorem dX5_remember_31 : decode cX5_remember 31 = .ok (.iconst 1, 1) := by decide +kernel
theorem dX5_remember_32 : decode cX5_remember 32 = .ok (.iadd, 1) := by decide +kernel
theorem dX5_remember_33 : decode cX5_remember 33 = .ok (.bipush 8, 2) := by decide +kernel
theorem dX5_remember_35 : decode cX5_remember 35 = .ok (.invokestatic 29, 3) := by decide +kernel
theorem dX5_remember_38 : decode cX5_remember 38 = .ok (.putfield 9, 3) := by decide +kernel
theorem dX5_remember_41 : decode cX5_remember 41 = .ok (.return_, 1) := by decide +kernel
def sX5_remember (F : Nat) (l0 : Nat) (l1 : Option Nat) (h : HP) : Option HP :=
  (gR h 5 (some l0) 2).bind fun t1 =>
  (gI h 5 (some l0) 1).bind fun t2 =>
  (aR h t1 t2).bind fun t3 =>
  (dO h 7 t3).bind fun a4 =>
  (sX7_copyFrom F a4 l1 h).bind fun h5 =>
  (gI h5 5 (some l0) 1).bind fun t6 =>
  (pI h5 5 (some l0) 1 (jrem (t6 + (1 : Int32)) (8 : Int32))).bind fun h7 =>
  (gI h7 5 (some l0) 0).bind fun t8 =>
  (pI h7 5 (some l0) 0 (jmn (t8 + (1 : Int32)) (8 : Int32))).bind fun h9 =>
  some h9
abbrev rm_X5_remember : Room := { frames := 1, cells := 0, slots := 0, locals := 24 }
set_option maxRecDepth 100000 in
set_option maxHeartbeats 4000000 in
theorem mt_X5_remember {w : WD} {l : Launch} {F : Nat} {l0 : Nat} {l1 : Option Nat} {h : HP} {h' : HP} (hs : sX5_remember F l0 l1 h = some h') : MV w l yX5_remember cX5_remember 2 rm_X5_remember 0 0 [rf w (some l0), rf w l1] h h' := by
  refine of_body [(0, rf w (some l0)), (1, rf w l1)] (by decide) (by simp [lg_sl, rf_cat, cat_i, cat_l, cat_a]) (by simp [lv_args, rf_cat, cat_i, cat_l, cat_a]) ?_
  intro x hw_ hnL_ hl_ hc hret hnm hQ
  subst hw_; subst hl_
  have hnl : ∀ i, i < 2 → i < x.nL := fun i h => by rw [hnL_]; exact h
  have hw : wpO (sX5_remember F l0 l1 h) (fun r => r = h') := ⟨_, hs, rfl⟩
  unfold sX5_remember at hw
  refine R_aload_n (q := 0) (i := 0) (v := (some l0)) hc dX5_remember_0 rfl rfl ?_
  refine R_getR hc fl_5_20 dX5_remember_1 hw (fun t1 hw => ?_)
  refine R_aload_n (q := 0) (i := 0) (v := (some l0)) hc dX5_remember_4 rfl rfl ?_
  refine R_getI hc fl_5_15 dX5_remember_5 hw (fun t2 hw => ?_)
  refine R_aaload hc dX5_remember_8 hw (fun t3 hw => ?_)
  refine R_aload_n (q := 1) (i := 1) (v := l1) hc dX5_remember_9 rfl rfl ?_
  refine R_cVVi (As := [rf x.w l1]) (rest := []) (r := t3) (ci := 7) hc ml_5_25 mf_X7_copyFrom rfl (by decide) ⟨rfl, rfl⟩ ⟨le_b rfl, le_b rfl⟩ ⟨Nat.zero_le _, Nat.zero_le _⟩ (fun a h' e => mt_X7_copyFrom e) rfl rfl (Nat.zero_le _) dX5_remember_10 hw (fun h5 hw => ?_)
  refine R_aload_n (q := 0) (i := 0) (v := (some l0)) hc dX5_remember_13 rfl rfl ?_
  refine R_aload_n (q := 0) (i := 0) (v := (some l0)) hc dX5_remember_14 rfl rfl ?_
  refine R_getI hc fl_5_15 dX5_remember_15 hw (fun t6 hw => ?_)
  refine R_iconst (v := (1 : Int32)) hc dX5_remember_18 kI_1 ?_
  refine R_iadd hc dX5_remember_19 ?_
  refine R_bipush (v := (8 : Int32)) hc dX5_remember_20 kB_8 ?_
  refine R_iremL hc dX5_remember_22 (by decide) ?_
  refine R_putI hc pl_5_15 rfl rfl dX5_remember_23 hw (fun h7 hw => ?_)
  refine R_aload_n (q := 0) (i := 0) (v := (some l0)) hc dX5_remember_26 rfl rfl ?_
  refine R_aload_n (q := 0) (i := 0) (v := (some l0)) hc dX5_remember_27 rfl rfl ?_
  refine R_getI hc fl_5_9 dX5_remember_28 hw (fun t8 hw => ?_)
  refine R_iconst (v := (1 : Int32)) hc dX5_remember_31 kI_1 ?_
  refine R_iadd hc dX5_remember_32 ?_
  refine R_bipush (v := (8 : Int32)) hc dX5_remember_33 kB_8 ?_
  refine R_jmn hc ml_5_29 (le_b rfl) (le_b rfl) ⟨Nat.zero_le _, Nat.zero_le _⟩ dX5_remember_35 ?_
  refine R_putI hc pl_5_9 rfl rfl dX5_remember_38 hw (fun h9 hw => ?_)
  exact R_return hc hret hQ hw dX5_remember_41
