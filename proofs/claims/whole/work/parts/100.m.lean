theorem dX1_partOf_0 : decode cX1_partOf 0 = .ok (.aload_n 0, 1) := by decide +kernel
theorem dX1_partOf_1 : decode cX1_partOf 1 = .ok (.getfield 9, 3) := by decide +kernel
theorem dX1_partOf_4 : decode cX1_partOf 4 = .ok (.iload_n 1, 1) := by decide +kernel
theorem dX1_partOf_5 : decode cX1_partOf 5 = .ok (.bipush 6, 2) := by decide +kernel
theorem dX1_partOf_7 : decode cX1_partOf 7 = .ok (.imul, 1) := by decide +kernel
theorem dX1_partOf_8 : decode cX1_partOf 8 = .ok (.iload_n 2, 1) := by decide +kernel
theorem dX1_partOf_9 : decode cX1_partOf 9 = .ok (.iadd, 1) := by decide +kernel
theorem dX1_partOf_10 : decode cX1_partOf 10 = .ok (.iaload, 1) := by decide +kernel
theorem dX1_partOf_11 : decode cX1_partOf 11 = .ok (.ireturn, 1) := by decide +kernel
def sX1_partOf (F : Nat) (l0 : Nat) (l1 : Int32) (l2 : Int32) (h : HP) : Option Int32 :=
  (gR h 1 (some l0) 7).bind fun t1 =>
  (aI h 13 t1 ((l1 * (6 : Int32)) + l2)).bind fun t2 =>
  some t2
abbrev rm_X1_partOf : Room := { frames := 0, cells := 0, slots := 0, locals := 0 }
set_option maxRecDepth 100000 in
set_option maxHeartbeats 4000000 in
theorem mt_X1_partOf {w : WD} {l : Launch} {F : Nat} {l0 : Nat} {l1 : Int32} {l2 : Int32} {h : HP} {v : Int32} (hs : sX1_partOf F l0 l1 l2 h = some v) : MI w l yX1_partOf cX1_partOf 3 .int rm_X1_partOf 0 0 [rf w (some l0), .int l1, .int l2] h v h := by
  refine of_body [(0, rf w (some l0)), (1, .int l1), (2, .int l2)] (by decide) (by simp [lg_sl, rf_cat, cat_i, cat_l, cat_a]) (by simp [lv_args, rf_cat, cat_i, cat_l, cat_a]) ?_
  intro x hw_ hnL_ hl_ hc hret hnm hQ
  subst hw_; subst hl_
  have hnl : ∀ i, i < 3 → i < x.nL := fun i h => by rw [hnL_]; exact h
  have hw : wpO (sX1_partOf F l0 l1 l2 h) (fun r => r = v) := ⟨_, hs, rfl⟩
  unfold sX1_partOf at hw
  refine R_aload_n (q := 0) (i := 0) (v := (some l0)) hc dX1_partOf_0 rfl rfl ?_
  refine R_getR hc fl_1_9 dX1_partOf_1 hw (fun t1 hw => ?_)
  refine R_iload_n (q := 1) (i := 1) (v := l1) hc dX1_partOf_4 rfl rfl ?_
  refine R_bipush (v := (6 : Int32)) hc dX1_partOf_5 kB_6 ?_
  refine R_imul hc dX1_partOf_7 ?_
  refine R_iload_n (q := 2) (i := 2) (v := l2) hc dX1_partOf_8 rfl rfl ?_
  refine R_iadd hc dX1_partOf_9 ?_
  refine R_iaload hc dX1_partOf_10 hw (fun t2 hw => ?_)
  exact R_ireturnP hc hret rfl hQ hw dX1_partOf_11
theorem dX1_netOf_0 : decode cX1_netOf 0 = .ok (.iload_n 1, 1) := by decide +kernel
theorem dX1_netOf_1 : decode cX1_netOf 1 = .ok (.iload_n 2, 1) := by decide +kernel
theorem dX1_netOf_2 : decode cX1_netOf 2 = .ok (.ishr, 1) := by decide +kernel
theorem dX1_netOf_3 : decode cX1_netOf 3 = .ok (.iconst 1, 1) := by decide +kernel
theorem dX1_netOf_4 : decode cX1_netOf 4 = .ok (.iand, 1) := by decide +kernel
theorem dX1_netOf_5 : decode cX1_netOf 5 = .ok (.ifCond .eq 7, 3) := by decide +kernel
theorem dX1_netOf_8 : decode cX1_netOf 8 = .ok (.iconst 1, 1) := by decide +kernel
theorem dX1_netOf_9 : decode cX1_netOf 9 = .ok (.goto 4, 3) := by decide +kernel
theorem dX1_netOf_12 : decode cX1_netOf 12 = .ok (.iconst 0, 1) := by decide +kernel
theorem dX1_netOf_13 : decode cX1_netOf 13 = .ok (.istore 4, 2) := by decide +kernel
theorem dX1_netOf_15 : decode cX1_netOf 15 = .ok (.iload_n 2, 1) := by decide +kernel
theorem dX1_netOf_16 : decode cX1_netOf 16 = .ok (.ifCond .ne 7, 3) := by decide +kernel
theorem dX1_netOf_19 : decode cX1_netOf 19 = .ok (.iconst 1, 1) := by decide +kernel
theorem dX1_netOf_20 : decode cX1_netOf 20 = .ok (.goto 4, 3) := by decide +kernel
theorem dX1_netOf_23 : decode cX1_netOf 23 = .ok (.iconst 3, 1) := by decide +kernel
theorem dX1_netOf_24 : decode cX1_netOf 24 = .ok (.istore 5, 2) := by decide +kernel
theorem dX1_netOf_26 : decode cX1_netOf 26 = .ok (.aload_n 0, 1) := by decide +kernel
theorem dX1_netOf_27 : decode cX1_netOf 27 = .ok (.aload_n 0, 1) := by decide +kernel
theorem dX1_netOf_28 : decode cX1_netOf 28 = .ok (.getfield 15, 3) := by decide +kernel
theorem dX1_netOf_31 : decode cX1_netOf 31 = .ok (.iload_n 1, 1) := by decide +kernel
theorem dX1_netOf_32 : decode cX1_netOf 32 = .ok (.iconst 4, 1) := by decide +kernel
theorem dX1_netOf_33 : decode cX1_netOf 33 = .ok (.idiv, 1) := by decide +kernel
theorem dX1_netOf_34 : decode cX1_netOf 34 = .ok (.iaload, 1) := by decide +kernel
theorem dX1_netOf_35 : decode cX1_netOf 35 = .ok (.iload 4, 2) := by decide +kernel
theorem dX1_netOf_37 : decode cX1_netOf 37 = .ok (.iload_n 3, 1) := by decide +kernel
theorem dX1_netOf_38 : decode cX1_netOf 38 = .ok (.if_icmp .ne 8, 3) := by decide +kernel
theorem dX1_netOf_41 : decode cX1_netOf 41 = .ok (.iload 5, 2) := by decide +kernel
theorem dX1_netOf_43 : decode cX1_netOf 43 = .ok (.goto 7, 3) := by decide +kernel
theorem dX1_netOf_46 : decode cX1_netOf 46 = .ok (.iload 5, 2) := by decide +kernel
theorem dX1_netOf_48 : decode cX1_netOf 48 = .ok (.iconst 1, 1) := by decide +kernel
theorem dX1_netOf_49 : decode cX1_netOf 49 = .ok (.iadd, 1) := by decide +kernel
theorem dX1_netOf_50 : decode cX1_netOf 50 = .ok (.invokevirtual 49, 3) := by decide +kernel
theorem dX1_netOf_53 : decode cX1_netOf 53 = .ok (.ireturn, 1) := by decide +kernel
def sX1_netOf (F : Nat) (l0 : Nat) (l1 : Int32) (l2 : Int32) (l3 : Int32) (h : HP) : Option Int32 :=
  (if ((jshr l1 l2) &&& (1 : Int32)) = 0 then
      some (0 : Int32)
    else
      some (1 : Int32)).bind fun s1 =>
  (if ¬ l2 = 0 then
      some (3 : Int32)
    else
      some (1 : Int32)).bind fun s2 =>
  (gR h 1 (some l0) 8).bind fun t3 =>
  (aI h 13 t3 (l1 / (4 : Int32))).bind fun t4 =>
  if ¬ s1 = l3 then
    (dO h 1 (some l0)).bind fun a5 =>
    (sX1_partOf F a5 t4 (s2 + (1 : Int32)) h).bind fun t6 =>
    some t6
  else
    (dO h 1 (some l0)).bind fun a7 =>
    (sX1_partOf F a7 t4 s2 h).bind fun t8 =>
    some t8
abbrev rm_X1_netOf : Room := { frames := 1, cells := 0, slots := 0, locals := 22 }
set_option maxRecDepth 100000 in
set_option maxHeartbeats 4000000 in
theorem mt_X1_netOf {w : WD} {l : Launch} {F : Nat} {l0 : Nat} {l1 : Int32} {l2 : Int32} {l3 : Int32} {h : HP} {v : Int32} (hs : sX1_netOf F l0 l1 l2 l3 h = some v) : MI w l yX1_netOf cX1_netOf 6 .int rm_X1_netOf 0 0 [rf w (some l0), .int l1, .int l2, .int l3] h v h := by
  refine of_body [(0, rf w (some l0)), (1, .int l1), (2, .int l2), (3, .int l3)] (by decide) (by simp [lg_sl, rf_cat, cat_i, cat_l, cat_a]) (by simp [lv_args, rf_cat, cat_i, cat_l, cat_a]) ?_
  intro x hw_ hnL_ hl_ hc hret hnm hQ
  subst hw_; subst hl_
  have hnl : ∀ i, i < 6 → i < x.nL := fun i h => by rw [hnL_]; exact h
  have hw : wpO (sX1_netOf F l0 l1 l2 l3 h) (fun r => r = v) := ⟨_, hs, rfl⟩
  unfold sX1_netOf at hw
  refine R_iload_n (q := 1) (i := 1) (v := l1) hc dX1_netOf_0 rfl rfl ?_
  refine R_iload_n (q := 2) (i := 2) (v := l2) hc dX1_netOf_1 rfl rfl ?_
  refine R_ishr hc dX1_netOf_2 ?_
  refine R_iconst (v := (1 : Int32)) hc dX1_netOf_3 kI_1 ?_
  refine R_iand hc dX1_netOf_4 ?_
  refine R_join (fun (s1 : Int32) => Rn x 0 0 13 [(0, rf x.w (some l0)), (1, .int l1), (2, .int l2), (3, .int l3)] [.int s1] h) hw (fun r hw => ?_) (fun hw => ?_)
  · revert r hw
    intro s1 hw
    show Rn x 0 0 13 [(0, rf x.w (some l0)), (1, .int l1), (2, .int l2), (3, .int l3)] [.int s1] h
    refine R_istore (i := 4) (v := s1) hc [(4, .int s1), (0, rf x.w (some l0)), (1, .int l1), (2, .int l2), (3, .int l3)] dX1_netOf_13 (hnl 4 (le_b rfl)) rfl ?_
    refine R_iload_n (q := 3) (i := 2) (v := l2) hc dX1_netOf_15 rfl rfl ?_
    refine R_join (fun (s2 : Int32) => Rn x 0 0 24 [(0, rf x.w (some l0)), (1, .int l1), (3, .int l3), (4, .int s1)] [.int s2] h) hw (fun r hw => ?_) (fun hw => ?_)
    · revert r hw
      intro s2 hw
      show Rn x 0 0 24 [(0, rf x.w (some l0)), (1, .int l1), (3, .int l3), (4, .int s1)] [.int s2] h
      refine R_istore (i := 5) (v := s2) hc [(5, .int s2), (0, rf x.w (some l0)), (1, .int l1), (3, .int l3), (4, .int s1)] dX1_netOf_24 (hnl 5 (le_b rfl)) rfl ?_
      refine R_aload_n (q := 1) (i := 0) (v := (some l0)) hc dX1_netOf_26 rfl rfl ?_
      refine R_aload_n (q := 1) (i := 0) (v := (some l0)) hc dX1_netOf_27 rfl rfl ?_
      refine R_getR hc fl_1_15 dX1_netOf_28 hw (fun t3 hw => ?_)
      refine R_iload_n (q := 2) (i := 1) (v := l1) hc dX1_netOf_31 rfl rfl ?_
      refine R_iconst (v := (4 : Int32)) hc dX1_netOf_32 kI_4 ?_
      refine R_idivL hc dX1_netOf_33 (by decide) ?_
      refine R_iaload hc dX1_netOf_34 hw (fun t4 hw => ?_)
      refine R_iload (q := 4) (i := 4) (v := s1) hc dX1_netOf_35 rfl ?_
      refine R_iload_n (q := 3) (i := 3) (v := l3) hc dX1_netOf_37 rfl rfl ?_
      refine R_icmp_ne (tgt := 46) hc dX1_netOf_38 (by decide) hw (fun hw => ?_) (fun hw => ?_)
      · refine R_iload (q := 0) (i := 5) (v := s2) hc dX1_netOf_46 rfl ?_
        refine R_iconst (v := (1 : Int32)) hc dX1_netOf_48 kI_1 ?_
        refine R_iadd hc dX1_netOf_49 ?_
        refine R_cVI (As := [.int t4, .int (s2 + (1 : Int32))]) (rest := []) (r := (some l0)) (ci := 1) hc ml_1_49 mf_X1_partOf rfl (by decide) ⟨rfl, rfl⟩ ⟨le_b rfl, le_b rfl⟩ ⟨Nat.zero_le _, Nat.zero_le _⟩ (fun a v e => mt_X1_partOf e) rfl rfl (Nat.zero_le _) dX1_netOf_50 hw (fun t6 hw => ?_)
        exact R_ireturnP hc hret rfl hQ hw dX1_netOf_53
      · refine R_iload (q := 0) (i := 5) (v := s2) hc dX1_netOf_41 rfl ?_
        refine R_goto (tgt := 50) hc dX1_netOf_43 (by decide) ?_
        refine R_cVI (As := [.int t4, .int s2]) (rest := []) (r := (some l0)) (ci := 1) hc ml_1_49 mf_X1_partOf rfl (by decide) ⟨rfl, rfl⟩ ⟨le_b rfl, le_b rfl⟩ ⟨Nat.zero_le _, Nat.zero_le _⟩ (fun a v e => mt_X1_partOf e) rfl rfl (Nat.zero_le _) dX1_netOf_50 hw (fun t8 hw => ?_)
        exact R_ireturnP hc hret rfl hQ hw dX1_netOf_53
    · refine R_if_ne (tgt := 23) hc dX1_netOf_16 (by decide) hw (fun hw => ?_) (fun hw => ?_)
      · refine R_iconst (v := (3 : Int32)) hc dX1_netOf_23 kI_3 ?_
        refine R_sub hc [1, 2, 4, 0] rfl ?_
        exact (wpO_some hw :)
      · refine R_iconst (v := (1 : Int32)) hc dX1_netOf_19 kI_1 ?_
        refine R_goto (tgt := 24) hc dX1_netOf_20 (by decide) ?_
        refine R_sub hc [1, 2, 4, 0] rfl ?_
        exact (wpO_some hw :)
  · refine R_if_eq (tgt := 12) hc dX1_netOf_5 (by decide) hw (fun hw => ?_) (fun hw => ?_)
    · refine R_iconst (v := (0 : Int32)) hc dX1_netOf_12 kI_0 ?_
      refine R_sub hc [0, 1, 2, 3] rfl ?_
      exact (wpO_some hw :)
    · refine R_iconst (v := (1 : Int32)) hc dX1_netOf_8 kI_1 ?_
      refine R_goto (tgt := 13) hc dX1_netOf_9 (by decide) ?_
      refine R_sub hc [0, 1, 2, 3] rfl ?_
      exact (wpO_some hw :)
theorem dX1_findMeetings_0 : decode cX1_findMeetings 0 = .ok (.iconst 0, 1) := by decide +kernel
theorem dX1_findMeetings_1 : decode cX1_findMeetings 1 = .ok (.istore_n 1, 1) := by decide +kernel
theorem dX1_findMeetings_2 : decode cX1_findMeetings 2 = .ok (.iload_n 1, 1) := by decide +kernel
theorem dX1_findMeetings_3 : decode cX1_findMeetings 3 = .ok (.bipush 24, 2) := by decide +kernel
theorem dX1_findMeetings_5 : decode cX1_findMeetings 5 = .ok (.if_icmp .ge 16, 3) := by decide +kernel
theorem dX1_findMeetings_8 : decode cX1_findMeetings 8 = .ok (.aload_n 0, 1) := by decide +kernel
theorem dX1_findMeetings_9 : decode cX1_findMeetings 9 = .ok (.getfield 21, 3) := by decide +kernel
theorem dX1_findMeetings_12 : decode cX1_findMeetings 12 = .ok (.iload_n 1, 1) := by decide +kernel
theorem dX1_findMeetings_13 : decode cX1_findMeetings 13 = .ok (.iconst 0, 1) := by decide +kernel
theorem dX1_findMeetings_14 : decode cX1_findMeetings 14 = .ok (.iastore, 1) := by decide +kernel
theorem dX1_findMeetings_15 : decode cX1_findMeetings 15 = .ok (.iinc 1 1, 3) := by decide +kernel
theorem dX1_findMeetings_18 : decode cX1_findMeetings 18 = .ok (.goto (-16), 3) := by decide +kernel
theorem dX1_findMeetings_21 : decode cX1_findMeetings 21 = .ok (.iconst 0, 1) := by decide +kernel
theorem dX1_findMeetings_22 : decode cX1_findMeetings 22 = .ok (.istore_n 1, 1) := by decide +kernel
theorem dX1_findMeetings_23 : decode cX1_findMeetings 23 = .ok (.iload_n 1, 1) := by decide +kernel
theorem dX1_findMeetings_24 : decode cX1_findMeetings 24 = .ok (.iconst 1, 1) := by decide +kernel
theorem dX1_findMeetings_25 : decode cX1_findMeetings 25 = .ok (.if_icmp .gt 96, 3) := by decide +kernel
theorem dX1_findMeetings_28 : decode cX1_findMeetings 28 = .ok (.iconst 0, 1) := by decide +kernel
theorem dX1_findMeetings_29 : decode cX1_findMeetings 29 = .ok (.istore_n 2, 1) := by decide +kernel
theorem dX1_findMeetings_30 : decode cX1_findMeetings 30 = .ok (.iload_n 2, 1) := by decide +kernel
theorem dX1_findMeetings_31 : decode cX1_findMeetings 31 = .ok (.aload_n 0, 1) := by decide +kernel
theorem dX1_findMeetings_32 : decode cX1_findMeetings 32 = .ok (.getfield 43, 3) := by decide +kernel
theorem dX1_findMeetings_35 : decode cX1_findMeetings 35 = .ok (.iconst 4, 1) := by decide +kernel
theorem dX1_findMeetings_36 : decode cX1_findMeetings 36 = .ok (.imul, 1) := by decide +kernel
theorem dX1_findMeetings_37 : decode cX1_findMeetings 37 = .ok (.if_icmp .ge 32, 3) := by decide +kernel
theorem dX1_findMeetings_40 : decode cX1_findMeetings 40 = .ok (.aload_n 0, 1) := by decide +kernel
theorem dX1_findMeetings_41 : decode cX1_findMeetings 41 = .ok (.getfield 21, 3) := by decide +kernel
theorem dX1_findMeetings_44 : decode cX1_findMeetings 44 = .ok (.iload_n 1, 1) := by decide +kernel
theorem dX1_findMeetings_45 : decode cX1_findMeetings 45 = .ok (.bipush 12, 2) := by decide +kernel
theorem dX1_findMeetings_47 : decode cX1_findMeetings 47 = .ok (.imul, 1) := by decide +kernel
theorem dX1_findMeetings_48 : decode cX1_findMeetings 48 = .ok (.aload_n 0, 1) := by decide +kernel
theorem dX1_findMeetings_49 : decode cX1_findMeetings 49 = .ok (.iload_n 2, 1) := by decide +kernel
theorem dX1_findMeetings_50 : decode cX1_findMeetings 50 = .ok (.iload_n 1, 1) := by decide +kernel
theorem dX1_findMeetings_51 : decode cX1_findMeetings 51 = .ok (.iconst 0, 1) := by decide +kernel
theorem dX1_findMeetings_52 : decode cX1_findMeetings 52 = .ok (.invokevirtual 53, 3) := by decide +kernel
theorem dX1_findMeetings_55 : decode cX1_findMeetings 55 = .ok (.iadd, 1) := by decide +kernel
theorem dX1_findMeetings_56 : decode cX1_findMeetings 56 = .ok (.dup2, 1) := by decide +kernel
theorem dX1_findMeetings_57 : decode cX1_findMeetings 57 = .ok (.iaload, 1) := by decide +kernel
theorem dX1_findMeetings_58 : decode cX1_findMeetings 58 = .ok (.iconst 1, 1) := by decide +kernel
theorem dX1_findMeetings_59 : decode cX1_findMeetings 59 = .ok (.iload_n 2, 1) := by decide +kernel
theorem dX1_findMeetings_60 : decode cX1_findMeetings 60 = .ok (.ishl, 1) := by decide +kernel
theorem dX1_findMeetings_61 : decode cX1_findMeetings 61 = .ok (.ior, 1) := by decide +kernel
theorem dX1_findMeetings_62 : decode cX1_findMeetings 62 = .ok (.iastore, 1) := by decide +kernel
theorem dX1_findMeetings_63 : decode cX1_findMeetings 63 = .ok (.iinc 2 1, 3) := by decide +kernel
theorem dX1_findMeetings_66 : decode cX1_findMeetings 66 = .ok (.goto (-36), 3) := by decide +kernel
theorem dX1_findMeetings_69 : decode cX1_findMeetings 69 = .ok (.iconst 0, 1) := by decide +kernel
theorem dX1_findMeetings_70 : decode cX1_findMeetings 70 = .ok (.istore_n 2, 1) := by decide +kernel
theorem dX1_findMeetings_71 : decode cX1_findMeetings 71 = .ok (.iload_n 2, 1) := by decide +kernel
theorem dX1_findMeetings_72 : decode cX1_findMeetings 72 = .ok (.aload_n 0, 1) := by decide +kernel
theorem dX1_findMeetings_73 : decode cX1_findMeetings 73 = .ok (.getfield 43, 3) := by decide +kernel
theorem dX1_findMeetings_76 : decode cX1_findMeetings 76 = .ok (.iconst 4, 1) := by decide +kernel
theorem dX1_findMeetings_77 : decode cX1_findMeetings 77 = .ok (.imul, 1) := by decide +kernel
theorem dX1_findMeetings_78 : decode cX1_findMeetings 78 = .ok (.if_icmp .ge 37, 3) := by decide +kernel
theorem dX1_findMeetings_81 : decode cX1_findMeetings 81 = .ok (.aload_n 0, 1) := by decide +kernel
theorem dX1_findMeetings_82 : decode cX1_findMeetings 82 = .ok (.getfield 24, 3) := by decide +kernel
theorem dX1_findMeetings_85 : decode cX1_findMeetings 85 = .ok (.iload_n 1, 1) := by decide +kernel
theorem dX1_findMeetings_86 : decode cX1_findMeetings 86 = .ok (.bipush 32, 2) := by decide +kernel
theorem dX1_findMeetings_88 : decode cX1_findMeetings 88 = .ok (.imul, 1) := by decide +kernel
theorem dX1_findMeetings_89 : decode cX1_findMeetings 89 = .ok (.iload_n 2, 1) := by decide +kernel
theorem dX1_findMeetings_90 : decode cX1_findMeetings 90 = .ok (.iadd, 1) := by decide +kernel
theorem dX1_findMeetings_91 : decode cX1_findMeetings 91 = .ok (.aload_n 0, 1) := by decide +kernel
theorem dX1_findMeetings_92 : decode cX1_findMeetings 92 = .ok (.getfield 21, 3) := by decide +kernel
theorem dX1_findMeetings_95 : decode cX1_findMeetings 95 = .ok (.iload_n 1, 1) := by decide +kernel
theorem dX1_findMeetings_96 : decode cX1_findMeetings 96 = .ok (.bipush 12, 2) := by decide +kernel
theorem dX1_findMeetings_98 : decode cX1_findMeetings 98 = .ok (.imul, 1) := by decide +kernel
theorem dX1_findMeetings_99 : decode cX1_findMeetings 99 = .ok (.aload_n 0, 1) := by decide +kernel
theorem dX1_findMeetings_100 : decode cX1_findMeetings 100 = .ok (.iload_n 2, 1) := by decide +kernel
theorem dX1_findMeetings_101 : decode cX1_findMeetings 101 = .ok (.iload_n 1, 1) := by decide +kernel
theorem dX1_findMeetings_102 : decode cX1_findMeetings 102 = .ok (.iconst 1, 1) := by decide +kernel
theorem dX1_findMeetings_103 : decode cX1_findMeetings 103 = .ok (.invokevirtual 53, 3) := by decide +kernel
theorem dX1_findMeetings_106 : decode cX1_findMeetings 106 = .ok (.iadd, 1) := by decide +kernel
theorem dX1_findMeetings_107 : decode cX1_findMeetings 107 = .ok (.iaload, 1) := by decide +kernel
theorem dX1_findMeetings_108 : decode cX1_findMeetings 108 = .ok (.iastore, 1) := by decide +kernel
theorem dX1_findMeetings_109 : decode cX1_findMeetings 109 = .ok (.iinc 2 1, 3) := by decide +kernel
theorem dX1_findMeetings_112 : decode cX1_findMeetings 112 = .ok (.goto (-41), 3) := by decide +kernel
theorem dX1_findMeetings_115 : decode cX1_findMeetings 115 = .ok (.iinc 1 1, 3) := by decide +kernel
theorem dX1_findMeetings_118 : decode cX1_findMeetings 118 = .ok (.goto (-95), 3) := by decide +kernel
theorem dX1_findMeetings_121 : decode cX1_findMeetings 121 = .ok (.return_, 1) := by decide +kernel
def sX1_findMeetings_L2 (F : Nat) (l0 : Nat) (l1 : Int32) (h : HP) : Option ((Int32 × HP) ⊕ HP) :=
  if (24 : Int32) ≤ l1 then
    some (.inr h)
  else
    (gR h 1 (some l0) 10).bind fun t1 =>
    (sI h t1 l1 (0 : Int32)).bind fun h2 =>
    some (.inl (l1 + (1 : Int32), h2))
def sX1_findMeetings_L30 (F : Nat) (l0 : Nat) (l1 : Int32) (l2 : Int32) (h : HP) : Option ((Int32 × HP) ⊕ HP) :=
  (gI h 1 (some l0) 5).bind fun t4 =>
  if (t4 * (4 : Int32)) ≤ l2 then
    some (.inr h)
  else
    (gR h 1 (some l0) 10).bind fun t5 =>
    (dO h 1 (some l0)).bind fun a6 =>
    (sX1_netOf F a6 l2 l1 (0 : Int32) h).bind fun t7 =>
    (aI h 13 t5 ((l1 * (12 : Int32)) + t7)).bind fun t8 =>
    (sI h t5 ((l1 * (12 : Int32)) + t7) (t8 ||| (jshl (1 : Int32) l2))).bind fun h9 =>
    some (.inl (l2 + (1 : Int32), h9))
def sX1_findMeetings_L71 (F : Nat) (l0 : Nat) (l1 : Int32) (l2 : Int32) (h : HP) : Option ((Int32 × HP) ⊕ HP) :=
  (gI h 1 (some l0) 5).bind fun t11 =>
  if (t11 * (4 : Int32)) ≤ l2 then
    some (.inr h)
  else
    (gR h 1 (some l0) 11).bind fun t12 =>
    (gR h 1 (some l0) 10).bind fun t13 =>
    (dO h 1 (some l0)).bind fun a14 =>
    (sX1_netOf F a14 l2 l1 (1 : Int32) h).bind fun t15 =>
    (aI h 13 t13 ((l1 * (12 : Int32)) + t15)).bind fun t16 =>
    (sI h t12 ((l1 * (32 : Int32)) + l2) t16).bind fun h17 =>
    some (.inl (l2 + (1 : Int32), h17))
def sX1_findMeetings_L23 (F : Nat) (l0 : Nat) (l1 : Int32) (h : HP) : Option ((Int32 × HP) ⊕ HP) :=
  if (1 : Int32) < l1 then
    some (.inr h)
  else
    (iter (fun s => sX1_findMeetings_L30 F l0 l1 s.1 s.2) F ((0 : Int32), h)).bind fun h10 =>
      (iter (fun s => sX1_findMeetings_L71 F l0 l1 s.1 s.2) F ((0 : Int32), h10)).bind fun h18 =>
        some (.inl (l1 + (1 : Int32), h18))
def sX1_findMeetings (F : Nat) (l0 : Nat) (h : HP) : Option HP :=
  (iter (fun s => sX1_findMeetings_L2 F l0 s.1 s.2) F ((0 : Int32), h)).bind fun h3 =>
    (iter (fun s => sX1_findMeetings_L23 F l0 s.1 s.2) F ((0 : Int32), h3)).bind fun h25 =>
      some h25
abbrev rm_X1_findMeetings : Room := { frames := 2, cells := 0, slots := 0, locals := 47 }
set_option maxRecDepth 100000 in
set_option maxHeartbeats 4000000 in
theorem mt_X1_findMeetings {w : WD} {l : Launch} {F : Nat} {l0 : Nat} {h : HP} {h' : HP} (hs : sX1_findMeetings F l0 h = some h') : MV w l yX1_findMeetings cX1_findMeetings 3 rm_X1_findMeetings 0 0 [rf w (some l0)] h h' := by
  refine of_body [(0, rf w (some l0))] (by decide) (by simp [lg_sl, rf_cat, cat_i, cat_l, cat_a]) (by simp [lv_args, rf_cat, cat_i, cat_l, cat_a]) ?_
  intro x hw_ hnL_ hl_ hc hret hnm hQ
  subst hw_; subst hl_
  have hnl : ∀ i, i < 3 → i < x.nL := fun i h => by rw [hnL_]; exact h
  have hw : wpO (sX1_findMeetings F l0 h) (fun r => r = h') := ⟨_, hs, rfl⟩
  unfold sX1_findMeetings at hw
  refine R_iconst (v := (0 : Int32)) hc dX1_findMeetings_0 kI_0 ?_
  refine R_istore_n (i := 1) (v := (0 : Int32)) hc [(1, .int (0 : Int32)), (0, rf x.w (some l0))] dX1_findMeetings_1 rfl (hnl 1 (le_b rfl)) rfl ?_
  refine R_sub hc [1, 0] rfl ?_
  refine R_loop (P := fun (s : (Int32 × HP)) => Rn x 0 0 2 [(0, rf x.w (some l0)), (1, .int s.1)] [] s.2) (fun h3 => Rn x 0 0 21 [(0, rf x.w (some l0))] [] h3) hw (fun r hw => ?_) (fun X hX s hw => ?_)
  · revert r hw
    intro h3 hw
    show Rn x 0 0 21 [(0, rf x.w (some l0))] [] h3
    refine R_iconst (v := (0 : Int32)) hc dX1_findMeetings_21 kI_0 ?_
    refine R_istore_n (i := 1) (v := (0 : Int32)) hc [(1, .int (0 : Int32)), (0, rf x.w (some l0))] dX1_findMeetings_22 rfl (hnl 1 (le_b rfl)) rfl ?_
    refine R_sub hc [1, 0] rfl ?_
    refine R_loop (P := fun (s : (Int32 × HP)) => Rn x 0 0 23 [(0, rf x.w (some l0)), (1, .int s.1)] [] s.2) (fun h25 => Rn x 0 0 121 [] [] h25) hw (fun r hw => ?_) (fun X hX s hw => ?_)
    · revert r hw
      intro h25 hw
      show Rn x 0 0 121 [] [] h25
      exact R_return hc hret hQ hw dX1_findMeetings_121
    · obtain ⟨l1_27, h28⟩ := s
      show Rn x 0 0 23 [(0, rf x.w (some l0)), (1, .int l1_27)] [] h28
      have hw : wpO (sX1_findMeetings_L23 F l0 l1_27 h28) _ := hw
      unfold sX1_findMeetings_L23 at hw
      refine R_iload_n (q := 1) (i := 1) (v := l1_27) hc dX1_findMeetings_23 rfl rfl ?_
      refine R_iconst (v := (1 : Int32)) hc dX1_findMeetings_24 kI_1 ?_
      refine R_icmp_gt (tgt := 121) hc dX1_findMeetings_25 (by decide) hw (fun hw => ?_) (fun hw => ?_)
      · refine R_sub hc [] rfl ?_
        exact (wpO_some hw :)
      · refine R_iconst (v := (0 : Int32)) hc dX1_findMeetings_28 kI_0 ?_
        refine R_istore_n (i := 2) (v := (0 : Int32)) hc [(2, .int (0 : Int32)), (0, rf x.w (some l0)), (1, .int l1_27)] dX1_findMeetings_29 rfl (hnl 2 (le_b rfl)) rfl ?_
        refine R_sub hc [1, 2, 0] rfl ?_
        refine R_loop (P := fun (s : (Int32 × HP)) => Rn x 0 0 30 [(0, rf x.w (some l0)), (1, .int l1_27), (2, .int s.1)] [] s.2) (fun h10 => Rn x 0 0 69 [(0, rf x.w (some l0)), (1, .int l1_27)] [] h10) hw (fun r hw => ?_) (fun X hX s hw => ?_)
        · revert r hw
          intro h10 hw
          show Rn x 0 0 69 [(0, rf x.w (some l0)), (1, .int l1_27)] [] h10
          refine R_iconst (v := (0 : Int32)) hc dX1_findMeetings_69 kI_0 ?_
          refine R_istore_n (i := 2) (v := (0 : Int32)) hc [(2, .int (0 : Int32)), (0, rf x.w (some l0)), (1, .int l1_27)] dX1_findMeetings_70 rfl (hnl 2 (le_b rfl)) rfl ?_
          refine R_sub hc [1, 2, 0] rfl ?_
          refine R_loop (P := fun (s : (Int32 × HP)) => Rn x 0 0 71 [(0, rf x.w (some l0)), (1, .int l1_27), (2, .int s.1)] [] s.2) (fun h18 => Rn x 0 0 115 [(0, rf x.w (some l0)), (1, .int l1_27)] [] h18) hw (fun r hw => ?_) (fun X hX s hw => ?_)
          · revert r hw
            intro h18 hw
            show Rn x 0 0 115 [(0, rf x.w (some l0)), (1, .int l1_27)] [] h18
            refine R_iinc (q := 1) (i := 1) (v := l1_27) hc [(1, .int (l1_27 + (1 : Int32))), (0, rf x.w (some l0))] dX1_findMeetings_115 rfl (kC_1 _) (hnl 1 (le_b rfl)) rfl ?_
            refine R_goto (tgt := 23) hc dX1_findMeetings_118 (by decide) ?_
            refine R_sub hc [1, 0] rfl ?_
            exact hX (l1_27 + (1 : Int32), h18) (wpO_some hw :)
          · obtain ⟨l2_20, h21⟩ := s
            show Rn x 0 0 71 [(0, rf x.w (some l0)), (1, .int l1_27), (2, .int l2_20)] [] h21
            have hw : wpO (sX1_findMeetings_L71 F l0 l1_27 l2_20 h21) _ := hw
            unfold sX1_findMeetings_L71 at hw
            refine R_iload_n (q := 2) (i := 2) (v := l2_20) hc dX1_findMeetings_71 rfl rfl ?_
            refine R_aload_n (q := 0) (i := 0) (v := (some l0)) hc dX1_findMeetings_72 rfl rfl ?_
            refine R_getI hc fl_1_43 dX1_findMeetings_73 hw (fun t11 hw => ?_)
            refine R_iconst (v := (4 : Int32)) hc dX1_findMeetings_76 kI_4 ?_
            refine R_imul hc dX1_findMeetings_77 ?_
            refine R_icmp_ge (tgt := 115) hc dX1_findMeetings_78 (by decide) hw (fun hw => ?_) (fun hw => ?_)
            · refine R_sub hc [0, 1] rfl ?_
              exact (wpO_some hw :)
            · refine R_aload_n (q := 0) (i := 0) (v := (some l0)) hc dX1_findMeetings_81 rfl rfl ?_
              refine R_getR hc fl_1_24 dX1_findMeetings_82 hw (fun t12 hw => ?_)
              refine R_iload_n (q := 1) (i := 1) (v := l1_27) hc dX1_findMeetings_85 rfl rfl ?_
              refine R_bipush (v := (32 : Int32)) hc dX1_findMeetings_86 kB_32 ?_
              refine R_imul hc dX1_findMeetings_88 ?_
              refine R_iload_n (q := 2) (i := 2) (v := l2_20) hc dX1_findMeetings_89 rfl rfl ?_
              refine R_iadd hc dX1_findMeetings_90 ?_
              refine R_aload_n (q := 0) (i := 0) (v := (some l0)) hc dX1_findMeetings_91 rfl rfl ?_
              refine R_getR hc fl_1_21 dX1_findMeetings_92 hw (fun t13 hw => ?_)
              refine R_iload_n (q := 1) (i := 1) (v := l1_27) hc dX1_findMeetings_95 rfl rfl ?_
              refine R_bipush (v := (12 : Int32)) hc dX1_findMeetings_96 kB_12 ?_
              refine R_imul hc dX1_findMeetings_98 ?_
              refine R_aload_n (q := 0) (i := 0) (v := (some l0)) hc dX1_findMeetings_99 rfl rfl ?_
              refine R_iload_n (q := 2) (i := 2) (v := l2_20) hc dX1_findMeetings_100 rfl rfl ?_
              refine R_iload_n (q := 1) (i := 1) (v := l1_27) hc dX1_findMeetings_101 rfl rfl ?_
              refine R_iconst (v := (1 : Int32)) hc dX1_findMeetings_102 kI_1 ?_
              refine R_cVI (As := [.int l2_20, .int l1_27, .int (1 : Int32)]) (rest := [.int (l1_27 * (12 : Int32)), rf x.w t13, .int ((l1_27 * (32 : Int32)) + l2_20), rf x.w t12]) (r := (some l0)) (ci := 1) hc ml_1_53 mf_X1_netOf rfl (by decide) ⟨rfl, rfl⟩ ⟨le_b rfl, le_b rfl⟩ ⟨Nat.zero_le _, Nat.zero_le _⟩ (fun a v e => mt_X1_netOf e) rfl rfl (by simp [rf_cat, cat_i, cat_l, cat_a]) dX1_findMeetings_103 hw (fun t15 hw => ?_)
              refine R_iadd hc dX1_findMeetings_106 ?_
              refine R_iaload hc dX1_findMeetings_107 hw (fun t16 hw => ?_)
              refine R_iastore hc dX1_findMeetings_108 hw (fun h17 hw => ?_)
              refine R_iinc (q := 2) (i := 2) (v := l2_20) hc [(2, .int (l2_20 + (1 : Int32))), (0, rf x.w (some l0)), (1, .int l1_27)] dX1_findMeetings_109 rfl (kC_1 _) (hnl 2 (le_b rfl)) rfl ?_
              refine R_goto (tgt := 71) hc dX1_findMeetings_112 (by decide) ?_
              refine R_sub hc [1, 2, 0] rfl ?_
              exact hX (l2_20 + (1 : Int32), h17) (wpO_some hw :)
        · obtain ⟨l2_23, h24⟩ := s
          show Rn x 0 0 30 [(0, rf x.w (some l0)), (1, .int l1_27), (2, .int l2_23)] [] h24
          have hw : wpO (sX1_findMeetings_L30 F l0 l1_27 l2_23 h24) _ := hw
          unfold sX1_findMeetings_L30 at hw
          refine R_iload_n (q := 2) (i := 2) (v := l2_23) hc dX1_findMeetings_30 rfl rfl ?_
          refine R_aload_n (q := 0) (i := 0) (v := (some l0)) hc dX1_findMeetings_31 rfl rfl ?_
          refine R_getI hc fl_1_43 dX1_findMeetings_32 hw (fun t4 hw => ?_)
          refine R_iconst (v := (4 : Int32)) hc dX1_findMeetings_35 kI_4 ?_
          refine R_imul hc dX1_findMeetings_36 ?_
          refine R_icmp_ge (tgt := 69) hc dX1_findMeetings_37 (by decide) hw (fun hw => ?_) (fun hw => ?_)
          · refine R_sub hc [0, 1] rfl ?_
            exact (wpO_some hw :)
          · refine R_aload_n (q := 0) (i := 0) (v := (some l0)) hc dX1_findMeetings_40 rfl rfl ?_
            refine R_getR hc fl_1_21 dX1_findMeetings_41 hw (fun t5 hw => ?_)
            refine R_iload_n (q := 1) (i := 1) (v := l1_27) hc dX1_findMeetings_44 rfl rfl ?_
            refine R_bipush (v := (12 : Int32)) hc dX1_findMeetings_45 kB_12 ?_
            refine R_imul hc dX1_findMeetings_47 ?_
            refine R_aload_n (q := 0) (i := 0) (v := (some l0)) hc dX1_findMeetings_48 rfl rfl ?_
            refine R_iload_n (q := 2) (i := 2) (v := l2_23) hc dX1_findMeetings_49 rfl rfl ?_
            refine R_iload_n (q := 1) (i := 1) (v := l1_27) hc dX1_findMeetings_50 rfl rfl ?_
            refine R_iconst (v := (0 : Int32)) hc dX1_findMeetings_51 kI_0 ?_
            refine R_cVI (As := [.int l2_23, .int l1_27, .int (0 : Int32)]) (rest := [.int (l1_27 * (12 : Int32)), rf x.w t5]) (r := (some l0)) (ci := 1) hc ml_1_53 mf_X1_netOf rfl (by decide) ⟨rfl, rfl⟩ ⟨le_b rfl, le_b rfl⟩ ⟨Nat.zero_le _, Nat.zero_le _⟩ (fun a v e => mt_X1_netOf e) rfl rfl (by simp [rf_cat, cat_i, cat_l, cat_a]) dX1_findMeetings_52 hw (fun t7 hw => ?_)
            refine R_iadd hc dX1_findMeetings_55 ?_
            refine R_dup2 hc dX1_findMeetings_56 rfl (rf_cat _ _) ?_
            refine R_iaload hc dX1_findMeetings_57 hw (fun t8 hw => ?_)
            refine R_iconst (v := (1 : Int32)) hc dX1_findMeetings_58 kI_1 ?_
            refine R_iload_n (q := 2) (i := 2) (v := l2_23) hc dX1_findMeetings_59 rfl rfl ?_
            refine R_ishl hc dX1_findMeetings_60 ?_
            refine R_ior hc dX1_findMeetings_61 ?_
            refine R_iastore hc dX1_findMeetings_62 hw (fun h9 hw => ?_)
            refine R_iinc (q := 2) (i := 2) (v := l2_23) hc [(2, .int (l2_23 + (1 : Int32))), (0, rf x.w (some l0)), (1, .int l1_27)] dX1_findMeetings_63 rfl (kC_1 _) (hnl 2 (le_b rfl)) rfl ?_
            refine R_goto (tgt := 30) hc dX1_findMeetings_66 (by decide) ?_
            refine R_sub hc [1, 2, 0] rfl ?_
            exact hX (l2_23 + (1 : Int32), h9) (wpO_some hw :)
  · obtain ⟨l1_30, h31⟩ := s
    show Rn x 0 0 2 [(0, rf x.w (some l0)), (1, .int l1_30)] [] h31
    have hw : wpO (sX1_findMeetings_L2 F l0 l1_30 h31) _ := hw
    unfold sX1_findMeetings_L2 at hw
    refine R_iload_n (q := 1) (i := 1) (v := l1_30) hc dX1_findMeetings_2 rfl rfl ?_
    refine R_bipush (v := (24 : Int32)) hc dX1_findMeetings_3 kB_24 ?_
    refine R_icmp_ge (tgt := 21) hc dX1_findMeetings_5 (by decide) hw (fun hw => ?_) (fun hw => ?_)
    · refine R_sub hc [0] rfl ?_
      exact (wpO_some hw :)
    · refine R_aload_n (q := 0) (i := 0) (v := (some l0)) hc dX1_findMeetings_8 rfl rfl ?_
      refine R_getR hc fl_1_21 dX1_findMeetings_9 hw (fun t1 hw => ?_)
      refine R_iload_n (q := 1) (i := 1) (v := l1_30) hc dX1_findMeetings_12 rfl rfl ?_
      refine R_iconst (v := (0 : Int32)) hc dX1_findMeetings_13 kI_0 ?_
      refine R_iastore hc dX1_findMeetings_14 hw (fun h2 hw => ?_)
      refine R_iinc (q := 1) (i := 1) (v := l1_30) hc [(1, .int (l1_30 + (1 : Int32))), (0, rf x.w (some l0))] dX1_findMeetings_15 rfl (kC_1 _) (hnl 1 (le_b rfl)) rfl ?_
      refine R_goto (tgt := 2) hc dX1_findMeetings_18 (by decide) ?_
      refine R_sub hc [1, 0] rfl ?_
      exact hX (l1_30 + (1 : Int32), h2) (wpO_some hw :)
theorem dX1_allFingers_0 : decode cX1_allFingers 0 = .ok (.iconst 1, 1) := by decide +kernel
theorem dX1_allFingers_1 : decode cX1_allFingers 1 = .ok (.aload_n 0, 1) := by decide +kernel
theorem dX1_allFingers_2 : decode cX1_allFingers 2 = .ok (.getfield 43, 3) := by decide +kernel
theorem dX1_allFingers_5 : decode cX1_allFingers 5 = .ok (.ishl, 1) := by decide +kernel
theorem dX1_allFingers_6 : decode cX1_allFingers 6 = .ok (.iconst 1, 1) := by decide +kernel
theorem dX1_allFingers_7 : decode cX1_allFingers 7 = .ok (.isub, 1) := by decide +kernel
theorem dX1_allFingers_8 : decode cX1_allFingers 8 = .ok (.ireturn, 1) := by decide +kernel
def sX1_allFingers (F : Nat) (l0 : Nat) (h : HP) : Option Int32 :=
  (gI h 1 (some l0) 5).bind fun t1 =>
  some ((jshl (1 : Int32) t1) - (1 : Int32))
abbrev rm_X1_allFingers : Room := { frames := 0, cells := 0, slots := 0, locals := 0 }
set_option maxRecDepth 100000 in
set_option maxHeartbeats 4000000 in
theorem mt_X1_allFingers {w : WD} {l : Launch} {F : Nat} {l0 : Nat} {h : HP} {v : Int32} (hs : sX1_allFingers F l0 h = some v) : MI w l yX1_allFingers cX1_allFingers 1 .int rm_X1_allFingers 0 0 [rf w (some l0)] h v h := by
  refine of_body [(0, rf w (some l0))] (by decide) (by simp [lg_sl, rf_cat, cat_i, cat_l, cat_a]) (by simp [lv_args, rf_cat, cat_i, cat_l, cat_a]) ?_
  intro x hw_ hnL_ hl_ hc hret hnm hQ
  subst hw_; subst hl_
  have hnl : ∀ i, i < 1 → i < x.nL := fun i h => by rw [hnL_]; exact h
  have hw : wpO (sX1_allFingers F l0 h) (fun r => r = v) := ⟨_, hs, rfl⟩
  unfold sX1_allFingers at hw
  refine R_iconst (v := (1 : Int32)) hc dX1_allFingers_0 kI_1 ?_
  refine R_aload_n (q := 0) (i := 0) (v := (some l0)) hc dX1_allFingers_1 rfl rfl ?_
  refine R_getI hc fl_1_43 dX1_allFingers_2 hw (fun t1 hw => ?_)
  refine R_ishl hc dX1_allFingers_5 ?_
  refine R_iconst (v := (1 : Int32)) hc dX1_allFingers_6 kI_1 ?_
  refine R_isub hc dX1_allFingers_7 ?_
  exact R_ireturnP hc hret rfl hQ hw dX1_allFingers_8
theorem dX10_has_0 : decode cX10_has 0 = .ok (.iload_n 0, 1) := by decide +kernel
theorem dX10_has_1 : decode cX10_has 1 = .ok (.iload_n 1, 1) := by decide +kernel
theorem dX10_has_2 : decode cX10_has 2 = .ok (.ishr, 1) := by decide +kernel
theorem dX10_has_3 : decode cX10_has 3 = .ok (.iconst 1, 1) := by decide +kernel
theorem dX10_has_4 : decode cX10_has 4 = .ok (.iand, 1) := by decide +kernel
theorem dX10_has_5 : decode cX10_has 5 = .ok (.ifCond .eq 7, 3) := by decide +kernel
theorem dX10_has_8 : decode cX10_has 8 = .ok (.iconst 1, 1) := by decide +kernel
theorem dX10_has_9 : decode cX10_has 9 = .ok (.goto 4, 3) := by decide +kernel
theorem dX10_has_12 : decode cX10_has 12 = .ok (.iconst 0, 1) := by decide +kernel
theorem dX10_has_13 : decode cX10_has 13 = .ok (.ireturn, 1) := by decide +kernel
def sX10_has (F : Nat) (l0 : Int32) (l1 : Int32) (h : HP) : Option Int32 :=
  if ((jshr l0 l1) &&& (1 : Int32)) = 0 then
    some (0 : Int32)
  else
    some (1 : Int32)
abbrev rm_X10_has : Room := { frames := 0, cells := 0, slots := 0, locals := 0 }
set_option maxRecDepth 100000 in
set_option maxHeartbeats 4000000 in
theorem mt_X10_has {w : WD} {l : Launch} {F : Nat} {l0 : Int32} {l1 : Int32} {h : HP} {v : Int32} (hs : sX10_has F l0 l1 h = some v) : MI w l yX10_has cX10_has 2 .boolean rm_X10_has 0 0 [.int l0, .int l1] h v h := by
  refine of_body [(0, .int l0), (1, .int l1)] (by decide) (by simp [lg_sl, rf_cat, cat_i, cat_l, cat_a]) (by simp [lv_args, rf_cat, cat_i, cat_l, cat_a]) ?_
  intro x hw_ hnL_ hl_ hc hret hnm hQ
  subst hw_; subst hl_
  have hnl : ∀ i, i < 2 → i < x.nL := fun i h => by rw [hnL_]; exact h
  have hw : wpO (sX10_has F l0 l1 h) (fun r => r = v) := ⟨_, hs, rfl⟩
  unfold sX10_has at hw
  refine R_iload_n (q := 0) (i := 0) (v := l0) hc dX10_has_0 rfl rfl ?_
  refine R_iload_n (q := 1) (i := 1) (v := l1) hc dX10_has_1 rfl rfl ?_
  refine R_ishr hc dX10_has_2 ?_
  refine R_iconst (v := (1 : Int32)) hc dX10_has_3 kI_1 ?_
  refine R_iand hc dX10_has_4 ?_
  refine R_if_eq (tgt := 12) hc dX10_has_5 (by decide) hw (fun hw => ?_) (fun hw => ?_)
  · refine R_iconst (v := (0 : Int32)) hc dX10_has_12 kI_0 ?_
    exact R_ireturnP hc hret rfl hQ hw dX10_has_13
  · refine R_iconst (v := (1 : Int32)) hc dX10_has_8 kI_1 ?_
    refine R_goto (tgt := 13) hc dX10_has_9 (by decide) ?_
    exact R_ireturnP hc hret rfl hQ hw dX10_has_13
theorem dX3_mayBegin_0 : decode cX3_mayBegin 0 = .ok (.iload_n 0, 1) := by decide +kernel
theorem dX3_mayBegin_1 : decode cX3_mayBegin 1 = .ok (.iload_n 1, 1) := by decide +kernel
theorem dX3_mayBegin_2 : decode cX3_mayBegin 2 = .ok (.invokestatic 43, 3) := by decide +kernel
theorem dX3_mayBegin_5 : decode cX3_mayBegin 5 = .ok (.ifCond .ne 5, 3) := by decide +kernel
theorem dX3_mayBegin_8 : decode cX3_mayBegin 8 = .ok (.iconst 0, 1) := by decide +kernel
theorem dX3_mayBegin_9 : decode cX3_mayBegin 9 = .ok (.ireturn, 1) := by decide +kernel
theorem dX3_mayBegin_10 : decode cX3_mayBegin 10 = .ok (.iload_n 2, 1) := by decide +kernel
theorem dX3_mayBegin_11 : decode cX3_mayBegin 11 = .ok (.iconst (-1), 1) := by decide +kernel
theorem dX3_mayBegin_12 : decode cX3_mayBegin 12 = .ok (.if_icmp .ne 5, 3) := by decide +kernel
theorem dX3_mayBegin_15 : decode cX3_mayBegin 15 = .ok (.iconst 1, 1) := by decide +kernel
theorem dX3_mayBegin_16 : decode cX3_mayBegin 16 = .ok (.ireturn, 1) := by decide +kernel
theorem dX3_mayBegin_17 : decode cX3_mayBegin 17 = .ok (.iload_n 0, 1) := by decide +kernel
theorem dX3_mayBegin_18 : decode cX3_mayBegin 18 = .ok (.iload_n 2, 1) := by decide +kernel
theorem dX3_mayBegin_19 : decode cX3_mayBegin 19 = .ok (.invokestatic 43, 3) := by decide +kernel
theorem dX3_mayBegin_22 : decode cX3_mayBegin 22 = .ok (.ifCond .eq 32, 3) := by decide +kernel
theorem dX3_mayBegin_25 : decode cX3_mayBegin 25 = .ok (.iload_n 1, 1) := by decide +kernel
theorem dX3_mayBegin_26 : decode cX3_mayBegin 26 = .ok (.iload_n 2, 1) := by decide +kernel
theorem dX3_mayBegin_27 : decode cX3_mayBegin 27 = .ok (.if_icmp .ne 7, 3) := by decide +kernel
theorem dX3_mayBegin_30 : decode cX3_mayBegin 30 = .ok (.iconst 1, 1) := by decide +kernel
theorem dX3_mayBegin_31 : decode cX3_mayBegin 31 = .ok (.goto 4, 3) := by decide +kernel
theorem dX3_mayBegin_34 : decode cX3_mayBegin 34 = .ok (.iconst 0, 1) := by decide +kernel
theorem dX3_mayBegin_35 : decode cX3_mayBegin 35 = .ok (.iload_n 0, 1) := by decide +kernel
theorem dX3_mayBegin_36 : decode cX3_mayBegin 36 = .ok (.iconst 1, 1) := by decide +kernel
theorem dX3_mayBegin_37 : decode cX3_mayBegin 37 = .ok (.iload_n 2, 1) := by decide +kernel
theorem dX3_mayBegin_38 : decode cX3_mayBegin 38 = .ok (.ishl, 1) := by decide +kernel
theorem dX3_mayBegin_39 : decode cX3_mayBegin 39 = .ok (.if_icmp .ne 7, 3) := by decide +kernel
theorem dX3_mayBegin_42 : decode cX3_mayBegin 42 = .ok (.iconst 1, 1) := by decide +kernel
theorem dX3_mayBegin_43 : decode cX3_mayBegin 43 = .ok (.goto 4, 3) := by decide +kernel
theorem dX3_mayBegin_46 : decode cX3_mayBegin 46 = .ok (.iconst 0, 1) := by decide +kernel
theorem dX3_mayBegin_47 : decode cX3_mayBegin 47 = .ok (.if_icmp .ne 7, 3) := by decide +kernel
theorem dX3_mayBegin_50 : decode cX3_mayBegin 50 = .ok (.iconst 1, 1) := by decide +kernel
theorem dX3_mayBegin_51 : decode cX3_mayBegin 51 = .ok (.goto 4, 3) := by decide +kernel
theorem dX3_mayBegin_54 : decode cX3_mayBegin 54 = .ok (.iconst 0, 1) := by decide +kernel
theorem dX3_mayBegin_55 : decode cX3_mayBegin 55 = .ok (.ireturn, 1) := by decide +kernel
def sX3_mayBegin (F : Nat) (l0 : Int32) (l1 : Int32) (l2 : Int32) (h : HP) : Option Int32 :=
  (sX10_has F l0 l1 h).bind fun t1 =>
  if ¬ t1 = 0 then
    if ¬ l2 = (-1 : Int32) then
      (sX10_has F l0 l2 h).bind fun t2 =>
      if t2 = 0 then
        some (0 : Int32)
      else
        (if ¬ l1 = l2 then
            some (0 : Int32)
          else
            some (1 : Int32)).bind fun s3 =>
        if ¬ l0 = (jshl (1 : Int32) l2) then
          if ¬ s3 = (0 : Int32) then
            some (0 : Int32)
          else
            some (1 : Int32)
        else
          if ¬ s3 = (1 : Int32) then
            some (0 : Int32)
          else
            some (1 : Int32)
    else
      some (1 : Int32)
  else
    some (0 : Int32)
abbrev rm_X3_mayBegin : Room := { frames := 1, cells := 0, slots := 0, locals := 21 }
set_option maxRecDepth 100000 in
set_option maxHeartbeats 4000000 in
theorem mt_X3_mayBegin {w : WD} {l : Launch} {F : Nat} {l0 : Int32} {l1 : Int32} {l2 : Int32} {h : HP} {v : Int32} (hs : sX3_mayBegin F l0 l1 l2 h = some v) : MI w l yX3_mayBegin cX3_mayBegin 3 .boolean rm_X3_mayBegin 0 0 [.int l0, .int l1, .int l2] h v h := by
  refine of_body [(0, .int l0), (1, .int l1), (2, .int l2)] (by decide) (by simp [lg_sl, rf_cat, cat_i, cat_l, cat_a]) (by simp [lv_args, rf_cat, cat_i, cat_l, cat_a]) ?_
  intro x hw_ hnL_ hl_ hc hret hnm hQ
  subst hw_; subst hl_
  have hnl : ∀ i, i < 3 → i < x.nL := fun i h => by rw [hnL_]; exact h
  have hw : wpO (sX3_mayBegin F l0 l1 l2 h) (fun r => r = v) := ⟨_, hs, rfl⟩
  unfold sX3_mayBegin at hw
  refine R_iload_n (q := 0) (i := 0) (v := l0) hc dX3_mayBegin_0 rfl rfl ?_
  refine R_iload_n (q := 1) (i := 1) (v := l1) hc dX3_mayBegin_1 rfl rfl ?_
  refine R_cNI (As := [.int l0, .int l1]) (rest := []) hc mn_3_43 mf_X10_has ⟨rfl, rfl⟩ ⟨le_b rfl, le_b rfl⟩ ⟨Nat.zero_le _, Nat.zero_le _⟩ (fun v e => mt_X10_has e) rfl rfl (Nat.zero_le _) dX3_mayBegin_2 hw (fun t1 hw => ?_)
  refine R_if_ne (tgt := 10) hc dX3_mayBegin_5 (by decide) hw (fun hw => ?_) (fun hw => ?_)
  · refine R_iload_n (q := 2) (i := 2) (v := l2) hc dX3_mayBegin_10 rfl rfl ?_
    refine R_iconst (v := (-1 : Int32)) hc dX3_mayBegin_11 kI_m1 ?_
    refine R_icmp_ne (tgt := 17) hc dX3_mayBegin_12 (by decide) hw (fun hw => ?_) (fun hw => ?_)
    · refine R_iload_n (q := 0) (i := 0) (v := l0) hc dX3_mayBegin_17 rfl rfl ?_
      refine R_iload_n (q := 2) (i := 2) (v := l2) hc dX3_mayBegin_18 rfl rfl ?_
      refine R_cNI (As := [.int l0, .int l2]) (rest := []) hc mn_3_43 mf_X10_has ⟨rfl, rfl⟩ ⟨le_b rfl, le_b rfl⟩ ⟨Nat.zero_le _, Nat.zero_le _⟩ (fun v e => mt_X10_has e) rfl rfl (Nat.zero_le _) dX3_mayBegin_19 hw (fun t2 hw => ?_)
      refine R_if_eq (tgt := 54) hc dX3_mayBegin_22 (by decide) hw (fun hw => ?_) (fun hw => ?_)
      · refine R_iconst (v := (0 : Int32)) hc dX3_mayBegin_54 kI_0 ?_
        exact R_ireturnP hc hret rfl hQ hw dX3_mayBegin_55
      · refine R_iload_n (q := 1) (i := 1) (v := l1) hc dX3_mayBegin_25 rfl rfl ?_
        refine R_iload_n (q := 2) (i := 2) (v := l2) hc dX3_mayBegin_26 rfl rfl ?_
        refine R_join (fun (s3 : Int32) => Rn x 0 0 35 [(0, .int l0), (2, .int l2)] [.int s3] h) hw (fun r hw => ?_) (fun hw => ?_)
        · revert r hw
          intro s3 hw
          show Rn x 0 0 35 [(0, .int l0), (2, .int l2)] [.int s3] h
          refine R_iload_n (q := 0) (i := 0) (v := l0) hc dX3_mayBegin_35 rfl rfl ?_
          refine R_iconst (v := (1 : Int32)) hc dX3_mayBegin_36 kI_1 ?_
          refine R_iload_n (q := 1) (i := 2) (v := l2) hc dX3_mayBegin_37 rfl rfl ?_
          refine R_ishl hc dX3_mayBegin_38 ?_
          refine R_icmp_ne (tgt := 46) hc dX3_mayBegin_39 (by decide) hw (fun hw => ?_) (fun hw => ?_)
          · refine R_iconst (v := (0 : Int32)) hc dX3_mayBegin_46 kI_0 ?_
            refine R_icmp_ne (tgt := 54) hc dX3_mayBegin_47 (by decide) hw (fun hw => ?_) (fun hw => ?_)
            · refine R_iconst (v := (0 : Int32)) hc dX3_mayBegin_54 kI_0 ?_
              exact R_ireturnP hc hret rfl hQ hw dX3_mayBegin_55
            · refine R_iconst (v := (1 : Int32)) hc dX3_mayBegin_50 kI_1 ?_
              refine R_goto (tgt := 55) hc dX3_mayBegin_51 (by decide) ?_
              exact R_ireturnP hc hret rfl hQ hw dX3_mayBegin_55
          · refine R_iconst (v := (1 : Int32)) hc dX3_mayBegin_42 kI_1 ?_
            refine R_goto (tgt := 47) hc dX3_mayBegin_43 (by decide) ?_
            refine R_icmp_ne (tgt := 54) hc dX3_mayBegin_47 (by decide) hw (fun hw => ?_) (fun hw => ?_)
            · refine R_iconst (v := (0 : Int32)) hc dX3_mayBegin_54 kI_0 ?_
              exact R_ireturnP hc hret rfl hQ hw dX3_mayBegin_55
            · refine R_iconst (v := (1 : Int32)) hc dX3_mayBegin_50 kI_1 ?_
              refine R_goto (tgt := 55) hc dX3_mayBegin_51 (by decide) ?_
              exact R_ireturnP hc hret rfl hQ hw dX3_mayBegin_55
        · refine R_icmp_ne (tgt := 34) hc dX3_mayBegin_27 (by decide) hw (fun hw => ?_) (fun hw => ?_)
          · refine R_iconst (v := (0 : Int32)) hc dX3_mayBegin_34 kI_0 ?_
            refine R_sub hc [0, 2] rfl ?_
            exact (wpO_some hw :)
          · refine R_iconst (v := (1 : Int32)) hc dX3_mayBegin_30 kI_1 ?_
            refine R_goto (tgt := 35) hc dX3_mayBegin_31 (by decide) ?_
            refine R_sub hc [0, 2] rfl ?_
            exact (wpO_some hw :)
    · refine R_iconst (v := (1 : Int32)) hc dX3_mayBegin_15 kI_1 ?_
      exact R_ireturnP hc hret rfl hQ hw dX3_mayBegin_16
  · refine R_iconst (v := (0 : Int32)) hc dX3_mayBegin_8 kI_0 ?_
    exact R_ireturnP hc hret rfl hQ hw dX3_mayBegin_9
theorem dX10_without_0 : decode cX10_without 0 = .ok (.iload_n 0, 1) := by decide +kernel
theorem dX10_without_1 : decode cX10_without 1 = .ok (.iconst 1, 1) := by decide +kernel
theorem dX10_without_2 : decode cX10_without 2 = .ok (.iload_n 1, 1) := by decide +kernel
theorem dX10_without_3 : decode cX10_without 3 = .ok (.ishl, 1) := by decide +kernel
theorem dX10_without_4 : decode cX10_without 4 = .ok (.iconst (-1), 1) := by decide +kernel
theorem dX10_without_5 : decode cX10_without 5 = .ok (.ixor, 1) := by decide +kernel
theorem dX10_without_6 : decode cX10_without 6 = .ok (.iand, 1) := by decide +kernel
theorem dX10_without_7 : decode cX10_without 7 = .ok (.ireturn, 1) := by decide +kernel
def sX10_without (F : Nat) (l0 : Int32) (l1 : Int32) (h : HP) : Option Int32 :=
  some (l0 &&& ((jshl (1 : Int32) l1) ^^^ (-1 : Int32)))
abbrev rm_X10_without : Room := { frames := 0, cells := 0, slots := 0, locals := 0 }
set_option maxRecDepth 100000 in
set_option maxHeartbeats 4000000 in
theorem mt_X10_without {w : WD} {l : Launch} {F : Nat} {l0 : Int32} {l1 : Int32} {h : HP} {v : Int32} (hs : sX10_without F l0 l1 h = some v) : MI w l yX10_without cX10_without 2 .int rm_X10_without 0 0 [.int l0, .int l1] h v h := by
  refine of_body [(0, .int l0), (1, .int l1)] (by decide) (by simp [lg_sl, rf_cat, cat_i, cat_l, cat_a]) (by simp [lv_args, rf_cat, cat_i, cat_l, cat_a]) ?_
  intro x hw_ hnL_ hl_ hc hret hnm hQ
  subst hw_; subst hl_
  have hnl : ∀ i, i < 2 → i < x.nL := fun i h => by rw [hnL_]; exact h
  have hw : wpO (sX10_without F l0 l1 h) (fun r => r = v) := ⟨_, hs, rfl⟩
  unfold sX10_without at hw
  refine R_iload_n (q := 0) (i := 0) (v := l0) hc dX10_without_0 rfl rfl ?_
  refine R_iconst (v := (1 : Int32)) hc dX10_without_1 kI_1 ?_
  refine R_iload_n (q := 1) (i := 1) (v := l1) hc dX10_without_2 rfl rfl ?_
  refine R_ishl hc dX10_without_3 ?_
  refine R_iconst (v := (-1 : Int32)) hc dX10_without_4 kI_m1 ?_
  refine R_ixor hc dX10_without_5 ?_
  refine R_iand hc dX10_without_6 ?_
  exact R_ireturnP hc hret rfl hQ hw dX10_without_7
theorem dX1_joining_0 : decode cX1_joining 0 = .ok (.aload_n 0, 1) := by decide +kernel
theorem dX1_joining_1 : decode cX1_joining 1 = .ok (.getfield 24, 3) := by decide +kernel
theorem dX1_joining_4 : decode cX1_joining 4 = .ok (.iload_n 1, 1) := by decide +kernel
theorem dX1_joining_5 : decode cX1_joining 5 = .ok (.iaload, 1) := by decide +kernel
theorem dX1_joining_6 : decode cX1_joining 6 = .ok (.aload_n 0, 1) := by decide +kernel
theorem dX1_joining_7 : decode cX1_joining 7 = .ok (.getfield 24, 3) := by decide +kernel
theorem dX1_joining_10 : decode cX1_joining 10 = .ok (.bipush 32, 2) := by decide +kernel
theorem dX1_joining_12 : decode cX1_joining 12 = .ok (.iload_n 1, 1) := by decide +kernel
theorem dX1_joining_13 : decode cX1_joining 13 = .ok (.iadd, 1) := by decide +kernel
theorem dX1_joining_14 : decode cX1_joining 14 = .ok (.iaload, 1) := by decide +kernel
theorem dX1_joining_15 : decode cX1_joining 15 = .ok (.iand, 1) := by decide +kernel
theorem dX1_joining_16 : decode cX1_joining 16 = .ok (.ireturn, 1) := by decide +kernel
def sX1_joining (F : Nat) (l0 : Nat) (l1 : Int32) (h : HP) : Option Int32 :=
  (gR h 1 (some l0) 11).bind fun t1 =>
  (aI h 13 t1 l1).bind fun t2 =>
  (gR h 1 (some l0) 11).bind fun t3 =>
  (aI h 13 t3 ((32 : Int32) + l1)).bind fun t4 =>
  some (t2 &&& t4)
abbrev rm_X1_joining : Room := { frames := 0, cells := 0, slots := 0, locals := 0 }
set_option maxRecDepth 100000 in
set_option maxHeartbeats 4000000 in
theorem mt_X1_joining {w : WD} {l : Launch} {F : Nat} {l0 : Nat} {l1 : Int32} {h : HP} {v : Int32} (hs : sX1_joining F l0 l1 h = some v) : MI w l yX1_joining cX1_joining 2 .int rm_X1_joining 0 0 [rf w (some l0), .int l1] h v h := by
  refine of_body [(0, rf w (some l0)), (1, .int l1)] (by decide) (by simp [lg_sl, rf_cat, cat_i, cat_l, cat_a]) (by simp [lv_args, rf_cat, cat_i, cat_l, cat_a]) ?_
  intro x hw_ hnL_ hl_ hc hret hnm hQ
  subst hw_; subst hl_
  have hnl : ∀ i, i < 2 → i < x.nL := fun i h => by rw [hnL_]; exact h
  have hw : wpO (sX1_joining F l0 l1 h) (fun r => r = v) := ⟨_, hs, rfl⟩
  unfold sX1_joining at hw
  refine R_aload_n (q := 0) (i := 0) (v := (some l0)) hc dX1_joining_0 rfl rfl ?_
  refine R_getR hc fl_1_24 dX1_joining_1 hw (fun t1 hw => ?_)
  refine R_iload_n (q := 1) (i := 1) (v := l1) hc dX1_joining_4 rfl rfl ?_
  refine R_iaload hc dX1_joining_5 hw (fun t2 hw => ?_)
  refine R_aload_n (q := 0) (i := 0) (v := (some l0)) hc dX1_joining_6 rfl rfl ?_
  refine R_getR hc fl_1_24 dX1_joining_7 hw (fun t3 hw => ?_)
  refine R_bipush (v := (32 : Int32)) hc dX1_joining_10 kB_32 ?_
  refine R_iload_n (q := 1) (i := 1) (v := l1) hc dX1_joining_12 rfl rfl ?_
  refine R_iadd hc dX1_joining_13 ?_
  refine R_iaload hc dX1_joining_14 hw (fun t4 hw => ?_)
  refine R_iand hc dX1_joining_15 ?_
  exact R_ireturnP hc hret rfl hQ hw dX1_joining_16
theorem dX3_gapsFrom_0 : decode cX3_gapsFrom 0 = .ok (.iload_n 2, 1) := by decide +kernel
theorem dX3_gapsFrom_1 : decode cX3_gapsFrom 1 = .ok (.iload_n 3, 1) := by decide +kernel
theorem dX3_gapsFrom_2 : decode cX3_gapsFrom 2 = .ok (.iconst 4, 1) := by decide +kernel
theorem dX3_gapsFrom_3 : decode cX3_gapsFrom 3 = .ok (.idiv, 1) := by decide +kernel
theorem dX3_gapsFrom_4 : decode cX3_gapsFrom 4 = .ok (.invokestatic 47, 3) := by decide +kernel
theorem dX3_gapsFrom_7 : decode cX3_gapsFrom 7 = .ok (.istore 4, 2) := by decide +kernel
theorem dX3_gapsFrom_9 : decode cX3_gapsFrom 9 = .ok (.iload 4, 2) := by decide +kernel
theorem dX3_gapsFrom_11 : decode cX3_gapsFrom 11 = .ok (.ifCond .ne 5, 3) := by decide +kernel
theorem dX3_gapsFrom_14 : decode cX3_gapsFrom 14 = .ok (.iconst 0, 1) := by decide +kernel
theorem dX3_gapsFrom_15 : decode cX3_gapsFrom 15 = .ok (.ireturn, 1) := by decide +kernel
theorem dX3_gapsFrom_16 : decode cX3_gapsFrom 16 = .ok (.aload_n 0, 1) := by decide +kernel
theorem dX3_gapsFrom_17 : decode cX3_gapsFrom 17 = .ok (.getfield 9, 3) := by decide +kernel
theorem dX3_gapsFrom_20 : decode cX3_gapsFrom 20 = .ok (.iload 4, 2) := by decide +kernel
theorem dX3_gapsFrom_22 : decode cX3_gapsFrom 22 = .ok (.iaload, 1) := by decide +kernel
theorem dX3_gapsFrom_23 : decode cX3_gapsFrom 23 = .ok (.aload_n 0, 1) := by decide +kernel
theorem dX3_gapsFrom_24 : decode cX3_gapsFrom 24 = .ok (.getfield 15, 3) := by decide +kernel
theorem dX3_gapsFrom_27 : decode cX3_gapsFrom 27 = .ok (.iload 4, 2) := by decide +kernel
theorem dX3_gapsFrom_29 : decode cX3_gapsFrom 29 = .ok (.iaload, 1) := by decide +kernel
theorem dX3_gapsFrom_30 : decode cX3_gapsFrom 30 = .ok (.aload_n 1, 1) := by decide +kernel
theorem dX3_gapsFrom_31 : decode cX3_gapsFrom 31 = .ok (.iload_n 3, 1) := by decide +kernel
theorem dX3_gapsFrom_32 : decode cX3_gapsFrom 32 = .ok (.invokevirtual 51, 3) := by decide +kernel
theorem dX3_gapsFrom_35 : decode cX3_gapsFrom 35 = .ok (.iand, 1) := by decide +kernel
theorem dX3_gapsFrom_36 : decode cX3_gapsFrom 36 = .ok (.ifCond .eq 7, 3) := by decide +kernel
theorem dX3_gapsFrom_39 : decode cX3_gapsFrom 39 = .ok (.iconst 0, 1) := by decide +kernel
theorem dX3_gapsFrom_40 : decode cX3_gapsFrom 40 = .ok (.goto 4, 3) := by decide +kernel
theorem dX3_gapsFrom_43 : decode cX3_gapsFrom 43 = .ok (.iconst 1, 1) := by decide +kernel
theorem dX3_gapsFrom_44 : decode cX3_gapsFrom 44 = .ok (.iadd, 1) := by decide +kernel
theorem dX3_gapsFrom_45 : decode cX3_gapsFrom 45 = .ok (.ireturn, 1) := by decide +kernel
def sX3_gapsFrom (F : Nat) (l0 : Nat) (l1 : Option Nat) (l2 : Int32) (l3 : Int32) (h : HP) : Option Int32 :=
  (sX10_without F l2 (l3 / (4 : Int32)) h).bind fun t1 =>
  if ¬ t1 = 0 then
    (gR h 3 (some l0) 0).bind fun t2 =>
    (aI h 13 t2 t1).bind fun t3 =>
    (gR h 3 (some l0) 1).bind fun t4 =>
    (aI h 13 t4 t1).bind fun t5 =>
    (dO h 1 l1).bind fun a6 =>
    (sX1_joining F a6 l3 h).bind fun t7 =>
    if (t5 &&& t7) = 0 then
      some (t3 + (1 : Int32))
    else
      some (t3 + (0 : Int32))
  else
    some (0 : Int32)
abbrev rm_X3_gapsFrom : Room := { frames := 1, cells := 0, slots := 0, locals := 21 }
set_option maxRecDepth 100000 in
set_option maxHeartbeats 4000000 in
theorem mt_X3_gapsFrom {w : WD} {l : Launch} {F : Nat} {l0 : Nat} {l1 : Option Nat} {l2 : Int32} {l3 : Int32} {h : HP} {v : Int32} (hs : sX3_gapsFrom F l0 l1 l2 l3 h = some v) : MI w l yX3_gapsFrom cX3_gapsFrom 5 .int rm_X3_gapsFrom 0 0 [rf w (some l0), rf w l1, .int l2, .int l3] h v h := by
  refine of_body [(0, rf w (some l0)), (1, rf w l1), (2, .int l2), (3, .int l3)] (by decide) (by simp [lg_sl, rf_cat, cat_i, cat_l, cat_a]) (by simp [lv_args, rf_cat, cat_i, cat_l, cat_a]) ?_
  intro x hw_ hnL_ hl_ hc hret hnm hQ
  subst hw_; subst hl_
  have hnl : ∀ i, i < 5 → i < x.nL := fun i h => by rw [hnL_]; exact h
  have hw : wpO (sX3_gapsFrom F l0 l1 l2 l3 h) (fun r => r = v) := ⟨_, hs, rfl⟩
  unfold sX3_gapsFrom at hw
  refine R_iload_n (q := 2) (i := 2) (v := l2) hc dX3_gapsFrom_0 rfl rfl ?_
  refine R_iload_n (q := 3) (i := 3) (v := l3) hc dX3_gapsFrom_1 rfl rfl ?_
  refine R_iconst (v := (4 : Int32)) hc dX3_gapsFrom_2 kI_4 ?_
  refine R_idivL hc dX3_gapsFrom_3 (by decide) ?_
  refine R_cNI (As := [.int l2, .int (l3 / (4 : Int32))]) (rest := []) hc mn_3_47 mf_X10_without ⟨rfl, rfl⟩ ⟨le_b rfl, le_b rfl⟩ ⟨Nat.zero_le _, Nat.zero_le _⟩ (fun v e => mt_X10_without e) rfl rfl (Nat.zero_le _) dX3_gapsFrom_4 hw (fun t1 hw => ?_)
  refine R_istore (i := 4) (v := t1) hc [(4, .int t1), (0, rf x.w (some l0)), (1, rf x.w l1), (2, .int l2), (3, .int l3)] dX3_gapsFrom_7 (hnl 4 (le_b rfl)) rfl ?_
  refine R_iload (q := 0) (i := 4) (v := t1) hc dX3_gapsFrom_9 rfl ?_
  refine R_if_ne (tgt := 16) hc dX3_gapsFrom_11 (by decide) hw (fun hw => ?_) (fun hw => ?_)
  · refine R_aload_n (q := 1) (i := 0) (v := (some l0)) hc dX3_gapsFrom_16 rfl rfl ?_
    refine R_getR hc fl_3_9 dX3_gapsFrom_17 hw (fun t2 hw => ?_)
    refine R_iload (q := 0) (i := 4) (v := t1) hc dX3_gapsFrom_20 rfl ?_
    refine R_iaload hc dX3_gapsFrom_22 hw (fun t3 hw => ?_)
    refine R_aload_n (q := 1) (i := 0) (v := (some l0)) hc dX3_gapsFrom_23 rfl rfl ?_
    refine R_getR hc fl_3_15 dX3_gapsFrom_24 hw (fun t4 hw => ?_)
    refine R_iload (q := 0) (i := 4) (v := t1) hc dX3_gapsFrom_27 rfl ?_
    refine R_iaload hc dX3_gapsFrom_29 hw (fun t5 hw => ?_)
    refine R_aload_n (q := 2) (i := 1) (v := l1) hc dX3_gapsFrom_30 rfl rfl ?_
    refine R_iload_n (q := 4) (i := 3) (v := l3) hc dX3_gapsFrom_31 rfl rfl ?_
    refine R_cVI (As := [.int l3]) (rest := [.int t5, .int t3]) (r := l1) (ci := 1) hc ml_3_51 mf_X1_joining rfl (by decide) ⟨rfl, rfl⟩ ⟨le_b rfl, le_b rfl⟩ ⟨Nat.zero_le _, Nat.zero_le _⟩ (fun a v e => mt_X1_joining e) rfl rfl (le_b rfl) dX3_gapsFrom_32 hw (fun t7 hw => ?_)
    refine R_iand hc dX3_gapsFrom_35 ?_
    refine R_if_eq (tgt := 43) hc dX3_gapsFrom_36 (by decide) hw (fun hw => ?_) (fun hw => ?_)
    · refine R_iconst (v := (1 : Int32)) hc dX3_gapsFrom_43 kI_1 ?_
      refine R_iadd hc dX3_gapsFrom_44 ?_
      exact R_ireturnP hc hret rfl hQ hw dX3_gapsFrom_45
    · refine R_iconst (v := (0 : Int32)) hc dX3_gapsFrom_39 kI_0 ?_
      refine R_goto (tgt := 44) hc dX3_gapsFrom_40 (by decide) ?_
      refine R_iadd hc dX3_gapsFrom_44 ?_
      exact R_ireturnP hc hret rfl hQ hw dX3_gapsFrom_45
  · refine R_iconst (v := (0 : Int32)) hc dX3_gapsFrom_14 kI_0 ?_
    exact R_ireturnP hc hret rfl hQ hw dX3_gapsFrom_15
theorem dX3_fillSet_0 : decode cX3_fillSet 0 = .ok (.sipush 1000, 3) := by decide +kernel
theorem dX3_fillSet_3 : decode cX3_fillSet 3 = .ok (.istore 4, 2) := by decide +kernel
theorem dX3_fillSet_5 : decode cX3_fillSet 5 = .ok (.iconst 0, 1) := by decide +kernel
theorem dX3_fillSet_6 : decode cX3_fillSet 6 = .ok (.istore 5, 2) := by decide +kernel
theorem dX3_fillSet_8 : decode cX3_fillSet 8 = .ok (.iconst 0, 1) := by decide +kernel
theorem dX3_fillSet_9 : decode cX3_fillSet 9 = .ok (.istore 6, 2) := by decide +kernel
theorem dX3_fillSet_11 : decode cX3_fillSet 11 = .ok (.iconst 0, 1) := by decide +kernel
theorem dX3_fillSet_12 : decode cX3_fillSet 12 = .ok (.istore 7, 2) := by decide +kernel
theorem dX3_fillSet_14 : decode cX3_fillSet 14 = .ok (.iload 7, 2) := by decide +kernel
theorem dX3_fillSet_16 : decode cX3_fillSet 16 = .ok (.aload_n 1, 1) := by decide +kernel
theorem dX3_fillSet_17 : decode cX3_fillSet 17 = .ok (.getfield 31, 3) := by decide +kernel
theorem dX3_fillSet_20 : decode cX3_fillSet 20 = .ok (.if_icmp .ge 128, 3) := by decide +kernel
theorem dX3_fillSet_23 : decode cX3_fillSet 23 = .ok (.iload_n 2, 1) := by decide +kernel
theorem dX3_fillSet_24 : decode cX3_fillSet 24 = .ok (.iload 7, 2) := by decide +kernel
theorem dX3_fillSet_26 : decode cX3_fillSet 26 = .ok (.iload_n 3, 1) := by decide +kernel
theorem dX3_fillSet_27 : decode cX3_fillSet 27 = .ok (.invokestatic 35, 3) := by decide +kernel
theorem dX3_fillSet_30 : decode cX3_fillSet 30 = .ok (.ifCond .ne 6, 3) := by decide +kernel
theorem dX3_fillSet_33 : decode cX3_fillSet 33 = .ok (.goto 109, 3) := by decide +kernel
theorem dX3_fillSet_36 : decode cX3_fillSet 36 = .ok (.iload 7, 2) := by decide +kernel
theorem dX3_fillSet_38 : decode cX3_fillSet 38 = .ok (.iconst 4, 1) := by decide +kernel
theorem dX3_fillSet_39 : decode cX3_fillSet 39 = .ok (.imul, 1) := by decide +kernel
theorem dX3_fillSet_40 : decode cX3_fillSet 40 = .ok (.istore 8, 2) := by decide +kernel
theorem dX3_fillSet_42 : decode cX3_fillSet 42 = .ok (.iload 8, 2) := by decide +kernel
theorem dX3_fillSet_44 : decode cX3_fillSet 44 = .ok (.iload 7, 2) := by decide +kernel
theorem dX3_fillSet_46 : decode cX3_fillSet 46 = .ok (.iconst 4, 1) := by decide +kernel
theorem dX3_fillSet_47 : decode cX3_fillSet 47 = .ok (.imul, 1) := by decide +kernel
theorem dX3_fillSet_48 : decode cX3_fillSet 48 = .ok (.iconst 4, 1) := by decide +kernel
theorem dX3_fillSet_49 : decode cX3_fillSet 49 = .ok (.iadd, 1) := by decide +kernel
theorem dX3_fillSet_50 : decode cX3_fillSet 50 = .ok (.if_icmp .ge 92, 3) := by decide +kernel
theorem dX3_fillSet_53 : decode cX3_fillSet 53 = .ok (.aload_n 0, 1) := by decide +kernel
theorem dX3_fillSet_54 : decode cX3_fillSet 54 = .ok (.aload_n 1, 1) := by decide +kernel
theorem dX3_fillSet_55 : decode cX3_fillSet 55 = .ok (.iload_n 2, 1) := by decide +kernel
theorem dX3_fillSet_56 : decode cX3_fillSet 56 = .ok (.iload 8, 2) := by decide +kernel
theorem dX3_fillSet_58 : decode cX3_fillSet 58 = .ok (.invokevirtual 39, 3) := by decide +kernel
theorem dX3_fillSet_61 : decode cX3_fillSet 61 = .ok (.istore 9, 2) := by decide +kernel
theorem dX3_fillSet_63 : decode cX3_fillSet 63 = .ok (.iload 9, 2) := by decide +kernel
theorem dX3_fillSet_65 : decode cX3_fillSet 65 = .ok (.iload 4, 2) := by decide +kernel
theorem dX3_fillSet_67 : decode cX3_fillSet 67 = .ok (.if_icmp .ge 27, 3) := by decide +kernel
theorem dX3_fillSet_70 : decode cX3_fillSet 70 = .ok (.iload 9, 2) := by decide +kernel
theorem dX3_fillSet_72 : decode cX3_fillSet 72 = .ok (.iload 4, 2) := by decide +kernel
theorem dX3_fillSet_74 : decode cX3_fillSet 74 = .ok (.iconst 1, 1) := by decide +kernel
theorem dX3_fillSet_75 : decode cX3_fillSet 75 = .ok (.isub, 1) := by decide +kernel
theorem dX3_fillSet_76 : decode cX3_fillSet 76 = .ok (.if_icmp .ne 8, 3) := by decide +kernel
theorem dX3_fillSet_79 : decode cX3_fillSet 79 = .ok (.iload 5, 2) := by decide +kernel
theorem dX3_fillSet_81 : decode cX3_fillSet 81 = .ok (.goto 4, 3) := by decide +kernel
theorem dX3_fillSet_84 : decode cX3_fillSet 84 = .ok (.iconst 0, 1) := by decide +kernel
theorem dX3_fillSet_85 : decode cX3_fillSet 85 = .ok (.istore 6, 2) := by decide +kernel
theorem dX3_fillSet_87 : decode cX3_fillSet 87 = .ok (.iconst 0, 1) := by decide +kernel
theorem dX3_fillSet_88 : decode cX3_fillSet 88 = .ok (.istore 5, 2) := by decide +kernel
theorem dX3_fillSet_90 : decode cX3_fillSet 90 = .ok (.iload 9, 2) := by decide +kernel
theorem dX3_fillSet_92 : decode cX3_fillSet 92 = .ok (.istore 4, 2) := by decide +kernel
theorem dX3_fillSet_94 : decode cX3_fillSet 94 = .ok (.iload 5, 2) := by decide +kernel
theorem dX3_fillSet_96 : decode cX3_fillSet 96 = .ok (.iload 9, 2) := by decide +kernel
theorem dX3_fillSet_98 : decode cX3_fillSet 98 = .ok (.iload 4, 2) := by decide +kernel
theorem dX3_fillSet_100 : decode cX3_fillSet 100 = .ok (.if_icmp .ne 10, 3) := by decide +kernel
theorem dX3_fillSet_103 : decode cX3_fillSet 103 = .ok (.iconst 1, 1) := by decide +kernel
theorem dX3_fillSet_104 : decode cX3_fillSet 104 = .ok (.iload 8, 2) := by decide +kernel
theorem dX3_fillSet_106 : decode cX3_fillSet 106 = .ok (.ishl, 1) := by decide +kernel
theorem dX3_fillSet_107 : decode cX3_fillSet 107 = .ok (.goto 4, 3) := by decide +kernel
theorem dX3_fillSet_110 : decode cX3_fillSet 110 = .ok (.iconst 0, 1) := by decide +kernel
theorem dX3_fillSet_111 : decode cX3_fillSet 111 = .ok (.ior, 1) := by decide +kernel
theorem dX3_fillSet_112 : decode cX3_fillSet 112 = .ok (.istore 5, 2) := by decide +kernel
theorem dX3_fillSet_114 : decode cX3_fillSet 114 = .ok (.iload 6, 2) := by decide +kernel
theorem dX3_fillSet_116 : decode cX3_fillSet 116 = .ok (.iload 9, 2) := by decide +kernel
theorem dX3_fillSet_118 : decode cX3_fillSet 118 = .ok (.iload 4, 2) := by decide +kernel
theorem dX3_fillSet_120 : decode cX3_fillSet 120 = .ok (.iconst 1, 1) := by decide +kernel
theorem dX3_fillSet_121 : decode cX3_fillSet 121 = .ok (.iadd, 1) := by decide +kernel
theorem dX3_fillSet_122 : decode cX3_fillSet 122 = .ok (.if_icmp .ne 10, 3) := by decide +kernel
theorem dX3_fillSet_125 : decode cX3_fillSet 125 = .ok (.iconst 1, 1) := by decide +kernel
theorem dX3_fillSet_126 : decode cX3_fillSet 126 = .ok (.iload 8, 2) := by decide +kernel
theorem dX3_fillSet_128 : decode cX3_fillSet 128 = .ok (.ishl, 1) := by decide +kernel
theorem dX3_fillSet_129 : decode cX3_fillSet 129 = .ok (.goto 4, 3) := by decide +kernel
theorem dX3_fillSet_132 : decode cX3_fillSet 132 = .ok (.iconst 0, 1) := by decide +kernel
theorem dX3_fillSet_133 : decode cX3_fillSet 133 = .ok (.ior, 1) := by decide +kernel
theorem dX3_fillSet_134 : decode cX3_fillSet 134 = .ok (.istore 6, 2) := by decide +kernel
theorem dX3_fillSet_136 : decode cX3_fillSet 136 = .ok (.iinc 8 1, 3) := by decide +kernel
theorem dX3_fillSet_139 : decode cX3_fillSet 139 = .ok (.goto (-97), 3) := by decide +kernel
theorem dX3_fillSet_142 : decode cX3_fillSet 142 = .ok (.iinc 7 1, 3) := by decide +kernel
theorem dX3_fillSet_145 : decode cX3_fillSet 145 = .ok (.goto (-131), 3) := by decide +kernel
theorem dX3_fillSet_148 : decode cX3_fillSet 148 = .ok (.aload_n 0, 1) := by decide +kernel
theorem dX3_fillSet_149 : decode cX3_fillSet 149 = .ok (.getfield 9, 3) := by decide +kernel
theorem dX3_fillSet_152 : decode cX3_fillSet 152 = .ok (.iload_n 2, 1) := by decide +kernel
theorem dX3_fillSet_153 : decode cX3_fillSet 153 = .ok (.iload 4, 2) := by decide +kernel
theorem dX3_fillSet_155 : decode cX3_fillSet 155 = .ok (.iastore, 1) := by decide +kernel
theorem dX3_fillSet_156 : decode cX3_fillSet 156 = .ok (.aload_n 0, 1) := by decide +kernel
theorem dX3_fillSet_157 : decode cX3_fillSet 157 = .ok (.getfield 15, 3) := by decide +kernel
theorem dX3_fillSet_160 : decode cX3_fillSet 160 = .ok (.iload_n 2, 1) := by decide +kernel
theorem dX3_fillSet_161 : decode cX3_fillSet 161 = .ok (.iload 5, 2) := by decide +kernel
theorem dX3_fillSet_163 : decode cX3_fillSet 163 = .ok (.iastore, 1) := by decide +kernel
theorem dX3_fillSet_164 : decode cX3_fillSet 164 = .ok (.aload_n 0, 1) := by decide +kernel
theorem dX3_fillSet_165 : decode cX3_fillSet 165 = .ok (.getfield 18, 3) := by decide +kernel
theorem dX3_fillSet_168 : decode cX3_fillSet 168 = .ok (.iload_n 2, 1) := by decide +kernel
theorem dX3_fillSet_169 : decode cX3_fillSet 169 = .ok (.iload 6, 2) := by decide +kernel
theorem dX3_fillSet_171 : decode cX3_fillSet 171 = .ok (.iastore, 1) := by decide +kernel
theorem dX3_fillSet_172 : decode cX3_fillSet 172 = .ok (.return_, 1) := by decide +kernel
def sX3_fillSet_L42 (F : Nat) (l0 : Nat) (l1 : Option Nat) (l2 : Int32) (l3 : Int32) (l7 : Int32) (l4 : Int32) (l5 : Int32) (l6 : Int32) (l8 : Int32) (h : HP) : Option ((Int32 × Int32 × Int32 × Int32) ⊕ (Int32 × Int32 × Int32)) :=
  if ((l7 * (4 : Int32)) + (4 : Int32)) ≤ l8 then
    some (.inr (l4, l5, l6))
  else
    (dO h 3 (some l0)).bind fun a4 =>
    (sX3_gapsFrom F a4 l1 l2 l8 h).bind fun t5 =>
    (if l4 ≤ t5 then
        some (l4, l5, l6)
      else
        (if ¬ t5 = (l4 - (1 : Int32)) then
            some (0 : Int32)
          else
            some l5).bind fun s9 =>
        some (t5, (0 : Int32), s9)).bind fun r => match r with
    | (l4_6, l5_7, l6_8) =>
    (if ¬ t5 = l4_6 then
        some (0 : Int32)
      else
        some (jshl (1 : Int32) l8)).bind fun s10 =>
    nmI (l5_7 ||| s10) fun l5_11 =>
    if ¬ t5 = (l4_6 + (1 : Int32)) then
      nmI (l6_8 ||| (0 : Int32)) fun l6_12 =>
      some (.inl (l4_6, l5_11, l6_12, l8 + (1 : Int32)))
    else
      nmI (l6_8 ||| (jshl (1 : Int32) l8)) fun l6_13 =>
      some (.inl (l4_6, l5_11, l6_13, l8 + (1 : Int32)))
def sX3_fillSet_L14 (F : Nat) (l0 : Nat) (l1 : Option Nat) (l2 : Int32) (l3 : Int32) (l4 : Int32) (l5 : Int32) (l6 : Int32) (l7 : Int32) (h : HP) : Option ((Int32 × Int32 × Int32 × Int32) ⊕ (Int32 × Int32 × Int32)) :=
  (gI h 1 l1 5).bind fun t1 =>
  if t1 ≤ l7 then
    some (.inr (l4, l5, l6))
  else
    (sX3_mayBegin F l2 l7 l3 h).bind fun t2 =>
    if ¬ t2 = 0 then
      nmI (l7 * (4 : Int32)) fun l8_3 =>
      (iter (fun s => sX3_fillSet_L42 F l0 l1 l2 l3 l7 s.1 s.2.1 s.2.2.1 s.2.2.2 h) F (l4, l5, l6, l8_3)).bind fun r => match r with
      | (l4_14, l5_15, l6_16) =>
        some (.inl (l4_14, l5_15, l6_16, l7 + (1 : Int32)))
    else
      some (.inl (l4, l5, l6, l7 + (1 : Int32)))
def sX3_fillSet (F : Nat) (l0 : Nat) (l1 : Option Nat) (l2 : Int32) (l3 : Int32) (h : HP) : Option HP :=
  (iter (fun s => sX3_fillSet_L14 F l0 l1 l2 l3 s.1 s.2.1 s.2.2.1 s.2.2.2 h) F ((1000 : Int32), (0 : Int32), (0 : Int32), (0 : Int32))).bind fun r => match r with
  | (l4_22, l5_23, l6_24) =>
    (gR h 3 (some l0) 0).bind fun t25 =>
    (sI h t25 l2 l4_22).bind fun h26 =>
    (gR h26 3 (some l0) 1).bind fun t27 =>
    (sI h26 t27 l2 l5_23).bind fun h28 =>
    (gR h28 3 (some l0) 2).bind fun t29 =>
    (sI h28 t29 l2 l6_24).bind fun h30 =>
    some h30
abbrev rm_X3_fillSet : Room := { frames := 2, cells := 0, slots := 0, locals := 45 }
set_option maxRecDepth 100000 in
set_option maxHeartbeats 4000000 in
theorem mt_X3_fillSet {w : WD} {l : Launch} {F : Nat} {l0 : Nat} {l1 : Option Nat} {l2 : Int32} {l3 : Int32} {h : HP} {h' : HP} (hs : sX3_fillSet F l0 l1 l2 l3 h = some h') : MV w l yX3_fillSet cX3_fillSet 10 rm_X3_fillSet 0 0 [rf w (some l0), rf w l1, .int l2, .int l3] h h' := by
  refine of_body [(0, rf w (some l0)), (1, rf w l1), (2, .int l2), (3, .int l3)] (by decide) (by simp [lg_sl, rf_cat, cat_i, cat_l, cat_a]) (by simp [lv_args, rf_cat, cat_i, cat_l, cat_a]) ?_
  intro x hw_ hnL_ hl_ hc hret hnm hQ
  subst hw_; subst hl_
  have hnl : ∀ i, i < 10 → i < x.nL := fun i h => by rw [hnL_]; exact h
  have hw : wpO (sX3_fillSet F l0 l1 l2 l3 h) (fun r => r = h') := ⟨_, hs, rfl⟩
  unfold sX3_fillSet at hw
  refine R_sipush (v := (1000 : Int32)) hc dX3_fillSet_0 kS_1000 ?_
  refine R_istore (i := 4) (v := (1000 : Int32)) hc [(4, .int (1000 : Int32)), (0, rf x.w (some l0)), (1, rf x.w l1), (2, .int l2), (3, .int l3)] dX3_fillSet_3 (hnl 4 (le_b rfl)) rfl ?_
  refine R_iconst (v := (0 : Int32)) hc dX3_fillSet_5 kI_0 ?_
  refine R_istore (i := 5) (v := (0 : Int32)) hc [(5, .int (0 : Int32)), (4, .int (1000 : Int32)), (0, rf x.w (some l0)), (1, rf x.w l1), (2, .int l2), (3, .int l3)] dX3_fillSet_6 (hnl 5 (le_b rfl)) rfl ?_
  refine R_iconst (v := (0 : Int32)) hc dX3_fillSet_8 kI_0 ?_
  refine R_istore (i := 6) (v := (0 : Int32)) hc [(6, .int (0 : Int32)), (5, .int (0 : Int32)), (4, .int (1000 : Int32)), (0, rf x.w (some l0)), (1, rf x.w l1), (2, .int l2), (3, .int l3)] dX3_fillSet_9 (hnl 6 (le_b rfl)) rfl ?_
  refine R_iconst (v := (0 : Int32)) hc dX3_fillSet_11 kI_0 ?_
  refine R_istore (i := 7) (v := (0 : Int32)) hc [(7, .int (0 : Int32)), (6, .int (0 : Int32)), (5, .int (0 : Int32)), (4, .int (1000 : Int32)), (0, rf x.w (some l0)), (1, rf x.w l1), (2, .int l2), (3, .int l3)] dX3_fillSet_12 (hnl 7 (le_b rfl)) rfl ?_
  refine R_sub hc [4, 5, 6, 7, 3, 2, 1, 0] rfl ?_
  refine R_loop (P := fun (s : (Int32 × Int32 × Int32 × Int32)) => Rn x 0 0 14 [(0, rf x.w (some l0)), (1, rf x.w l1), (2, .int l2), (3, .int l3), (4, .int s.1), (5, .int s.2.1), (6, .int s.2.2.1), (7, .int s.2.2.2)] [] h) (fun r => match r with | (l4_22, l5_23, l6_24) => Rn x 0 0 148 [(0, rf x.w (some l0)), (2, .int l2), (4, .int l4_22), (5, .int l5_23), (6, .int l6_24)] [] h) hw (fun r hw => ?_) (fun X hX s hw => ?_)
  · obtain ⟨l4_22, l5_23, l6_24⟩ := r
    show Rn x 0 0 148 [(0, rf x.w (some l0)), (2, .int l2), (4, .int l4_22), (5, .int l5_23), (6, .int l6_24)] [] h
    refine R_aload_n (q := 0) (i := 0) (v := (some l0)) hc dX3_fillSet_148 rfl rfl ?_
    refine R_getR hc fl_3_9 dX3_fillSet_149 hw (fun t25 hw => ?_)
    refine R_iload_n (q := 1) (i := 2) (v := l2) hc dX3_fillSet_152 rfl rfl ?_
    refine R_iload (q := 2) (i := 4) (v := l4_22) hc dX3_fillSet_153 rfl ?_
    refine R_iastore hc dX3_fillSet_155 hw (fun h26 hw => ?_)
    refine R_aload_n (q := 0) (i := 0) (v := (some l0)) hc dX3_fillSet_156 rfl rfl ?_
    refine R_getR hc fl_3_15 dX3_fillSet_157 hw (fun t27 hw => ?_)
    refine R_iload_n (q := 1) (i := 2) (v := l2) hc dX3_fillSet_160 rfl rfl ?_
    refine R_iload (q := 3) (i := 5) (v := l5_23) hc dX3_fillSet_161 rfl ?_
    refine R_iastore hc dX3_fillSet_163 hw (fun h28 hw => ?_)
    refine R_aload_n (q := 0) (i := 0) (v := (some l0)) hc dX3_fillSet_164 rfl rfl ?_
    refine R_getR hc fl_3_18 dX3_fillSet_165 hw (fun t29 hw => ?_)
    refine R_iload_n (q := 1) (i := 2) (v := l2) hc dX3_fillSet_168 rfl rfl ?_
    refine R_iload (q := 4) (i := 6) (v := l6_24) hc dX3_fillSet_169 rfl ?_
    refine R_iastore hc dX3_fillSet_171 hw (fun h30 hw => ?_)
    exact R_return hc hret hQ hw dX3_fillSet_172
  · obtain ⟨l4_32, l5_33, l6_34, l7_35⟩ := s
    show Rn x 0 0 14 [(0, rf x.w (some l0)), (1, rf x.w l1), (2, .int l2), (3, .int l3), (4, .int l4_32), (5, .int l5_33), (6, .int l6_34), (7, .int l7_35)] [] h
    have hw : wpO (sX3_fillSet_L14 F l0 l1 l2 l3 l4_32 l5_33 l6_34 l7_35 h) _ := hw
    unfold sX3_fillSet_L14 at hw
    refine R_iload (q := 7) (i := 7) (v := l7_35) hc dX3_fillSet_14 rfl ?_
    refine R_aload_n (q := 1) (i := 1) (v := l1) hc dX3_fillSet_16 rfl rfl ?_
    refine R_getI hc fl_3_31 dX3_fillSet_17 hw (fun t1 hw => ?_)
    refine R_icmp_ge (tgt := 148) hc dX3_fillSet_20 (by decide) hw (fun hw => ?_) (fun hw => ?_)
    · refine R_sub hc [0, 2, 4, 5, 6] rfl ?_
      exact (wpO_some hw :)
    · refine R_iload_n (q := 2) (i := 2) (v := l2) hc dX3_fillSet_23 rfl rfl ?_
      refine R_iload (q := 7) (i := 7) (v := l7_35) hc dX3_fillSet_24 rfl ?_
      refine R_iload_n (q := 3) (i := 3) (v := l3) hc dX3_fillSet_26 rfl rfl ?_
      refine R_cSI (As := [.int l2, .int l7_35, .int l3]) (rest := []) hc ml_3_35 mf_X3_mayBegin ⟨rfl, rfl⟩ ⟨le_b rfl, le_b rfl⟩ ⟨Nat.zero_le _, Nat.zero_le _⟩ (fun v e => mt_X3_mayBegin e) rfl rfl (Nat.zero_le _) dX3_fillSet_27 hw (fun t2 hw => ?_)
      refine R_if_ne (tgt := 36) hc dX3_fillSet_30 (by decide) hw (fun hw => ?_) (fun hw => ?_)
      · refine R_iload (q := 7) (i := 7) (v := l7_35) hc dX3_fillSet_36 rfl ?_
        refine R_iconst (v := (4 : Int32)) hc dX3_fillSet_38 kI_4 ?_
        refine R_imul hc dX3_fillSet_39 ?_
        refine R_nmI hw (fun l8_3 hw => ?_)
        refine R_istore (i := 8) (v := l8_3) hc [(8, .int l8_3), (0, rf x.w (some l0)), (1, rf x.w l1), (2, .int l2), (3, .int l3), (4, .int l4_32), (5, .int l5_33), (6, .int l6_34), (7, .int l7_35)] dX3_fillSet_40 (hnl 8 (le_b rfl)) rfl ?_
        refine R_sub hc [1, 2, 3, 4, 5, 6, 7, 8, 0] rfl ?_
        refine R_loop (P := fun (s : (Int32 × Int32 × Int32 × Int32)) => Rn x 0 0 42 [(0, rf x.w (some l0)), (1, rf x.w l1), (2, .int l2), (3, .int l3), (4, .int s.1), (5, .int s.2.1), (6, .int s.2.2.1), (7, .int l7_35), (8, .int s.2.2.2)] [] h) (fun r => match r with | (l4_14, l5_15, l6_16) => Rn x 0 0 142 [(0, rf x.w (some l0)), (1, rf x.w l1), (2, .int l2), (3, .int l3), (4, .int l4_14), (5, .int l5_15), (6, .int l6_16), (7, .int l7_35)] [] h) hw (fun r hw => ?_) (fun X hX s hw => ?_)
        · obtain ⟨l4_14, l5_15, l6_16⟩ := r
          show Rn x 0 0 142 [(0, rf x.w (some l0)), (1, rf x.w l1), (2, .int l2), (3, .int l3), (4, .int l4_14), (5, .int l5_15), (6, .int l6_16), (7, .int l7_35)] [] h
          refine R_iinc (q := 7) (i := 7) (v := l7_35) hc [(7, .int (l7_35 + (1 : Int32))), (0, rf x.w (some l0)), (1, rf x.w l1), (2, .int l2), (3, .int l3), (4, .int l4_14), (5, .int l5_15), (6, .int l6_16)] dX3_fillSet_142 rfl (kC_1 _) (hnl 7 (le_b rfl)) rfl ?_
          refine R_goto (tgt := 14) hc dX3_fillSet_145 (by decide) ?_
          refine R_sub hc [1, 2, 3, 4, 5, 6, 7, 0] rfl ?_
          exact hX (l4_14, l5_15, l6_16, l7_35 + (1 : Int32)) (wpO_some hw :)
        · obtain ⟨l4_18, l5_19, l6_20, l8_21⟩ := s
          show Rn x 0 0 42 [(0, rf x.w (some l0)), (1, rf x.w l1), (2, .int l2), (3, .int l3), (4, .int l4_18), (5, .int l5_19), (6, .int l6_20), (7, .int l7_35), (8, .int l8_21)] [] h
          have hw : wpO (sX3_fillSet_L42 F l0 l1 l2 l3 l7_35 l4_18 l5_19 l6_20 l8_21 h) _ := hw
          unfold sX3_fillSet_L42 at hw
          refine R_iload (q := 8) (i := 8) (v := l8_21) hc dX3_fillSet_42 rfl ?_
          refine R_iload (q := 7) (i := 7) (v := l7_35) hc dX3_fillSet_44 rfl ?_
          refine R_iconst (v := (4 : Int32)) hc dX3_fillSet_46 kI_4 ?_
          refine R_imul hc dX3_fillSet_47 ?_
          refine R_iconst (v := (4 : Int32)) hc dX3_fillSet_48 kI_4 ?_
          refine R_iadd hc dX3_fillSet_49 ?_
          refine R_icmp_ge (tgt := 142) hc dX3_fillSet_50 (by decide) hw (fun hw => ?_) (fun hw => ?_)
          · refine R_sub hc [0, 1, 2, 3, 4, 5, 6, 7] rfl ?_
            exact (wpO_some hw :)
          · refine R_aload_n (q := 0) (i := 0) (v := (some l0)) hc dX3_fillSet_53 rfl rfl ?_
            refine R_aload_n (q := 1) (i := 1) (v := l1) hc dX3_fillSet_54 rfl rfl ?_
            refine R_iload_n (q := 2) (i := 2) (v := l2) hc dX3_fillSet_55 rfl rfl ?_
            refine R_iload (q := 8) (i := 8) (v := l8_21) hc dX3_fillSet_56 rfl ?_
            refine R_cVI (As := [rf x.w l1, .int l2, .int l8_21]) (rest := []) (r := (some l0)) (ci := 3) hc ml_3_39 mf_X3_gapsFrom rfl (by decide) ⟨rfl, rfl⟩ ⟨le_b rfl, le_b rfl⟩ ⟨Nat.zero_le _, Nat.zero_le _⟩ (fun a v e => mt_X3_gapsFrom e) rfl rfl (Nat.zero_le _) dX3_fillSet_58 hw (fun t5 hw => ?_)
            refine R_istore (i := 9) (v := t5) hc [(9, .int t5), (0, rf x.w (some l0)), (1, rf x.w l1), (2, .int l2), (3, .int l3), (4, .int l4_18), (5, .int l5_19), (6, .int l6_20), (7, .int l7_35), (8, .int l8_21)] dX3_fillSet_61 (hnl 9 (le_b rfl)) rfl ?_
            refine R_iload (q := 0) (i := 9) (v := t5) hc dX3_fillSet_63 rfl ?_
            refine R_iload (q := 5) (i := 4) (v := l4_18) hc dX3_fillSet_65 rfl ?_
            refine R_join (fun (r : (Int32 × Int32 × Int32)) => match r with | (l4_6, l5_7, l6_8) => Rn x 0 0 94 [(0, rf x.w (some l0)), (1, rf x.w l1), (2, .int l2), (3, .int l3), (4, .int l4_6), (5, .int l5_7), (6, .int l6_8), (7, .int l7_35), (8, .int l8_21), (9, .int t5)] [] h) hw (fun r hw => ?_) (fun hw => ?_)
            · obtain ⟨l4_6, l5_7, l6_8⟩ := r
              show Rn x 0 0 94 [(0, rf x.w (some l0)), (1, rf x.w l1), (2, .int l2), (3, .int l3), (4, .int l4_6), (5, .int l5_7), (6, .int l6_8), (7, .int l7_35), (8, .int l8_21), (9, .int t5)] [] h
              refine R_iload (q := 5) (i := 5) (v := l5_7) hc dX3_fillSet_94 rfl ?_
              refine R_iload (q := 9) (i := 9) (v := t5) hc dX3_fillSet_96 rfl ?_
              refine R_iload (q := 4) (i := 4) (v := l4_6) hc dX3_fillSet_98 rfl ?_
              refine R_join (fun (s10 : Int32) => Rn x 0 0 111 [(0, rf x.w (some l0)), (1, rf x.w l1), (2, .int l2), (3, .int l3), (4, .int l4_6), (6, .int l6_8), (7, .int l7_35), (8, .int l8_21), (9, .int t5)] [.int s10, .int l5_7] h) hw (fun r hw => ?_) (fun hw => ?_)
              · revert r hw
                intro s10 hw
                show Rn x 0 0 111 [(0, rf x.w (some l0)), (1, rf x.w l1), (2, .int l2), (3, .int l3), (4, .int l4_6), (6, .int l6_8), (7, .int l7_35), (8, .int l8_21), (9, .int t5)] [.int s10, .int l5_7] h
                refine R_ior hc dX3_fillSet_111 ?_
                refine R_nmI hw (fun l5_11 hw => ?_)
                refine R_istore (i := 5) (v := l5_11) hc [(5, .int l5_11), (0, rf x.w (some l0)), (1, rf x.w l1), (2, .int l2), (3, .int l3), (4, .int l4_6), (6, .int l6_8), (7, .int l7_35), (8, .int l8_21), (9, .int t5)] dX3_fillSet_112 (hnl 5 (le_b rfl)) rfl ?_
                refine R_iload (q := 6) (i := 6) (v := l6_8) hc dX3_fillSet_114 rfl ?_
                refine R_iload (q := 9) (i := 9) (v := t5) hc dX3_fillSet_116 rfl ?_
                refine R_iload (q := 5) (i := 4) (v := l4_6) hc dX3_fillSet_118 rfl ?_
                refine R_iconst (v := (1 : Int32)) hc dX3_fillSet_120 kI_1 ?_
                refine R_iadd hc dX3_fillSet_121 ?_
                refine R_icmp_ne (tgt := 132) hc dX3_fillSet_122 (by decide) hw (fun hw => ?_) (fun hw => ?_)
                · refine R_iconst (v := (0 : Int32)) hc dX3_fillSet_132 kI_0 ?_
                  refine R_ior hc dX3_fillSet_133 ?_
                  refine R_nmI hw (fun l6_12 hw => ?_)
                  refine R_istore (i := 6) (v := l6_12) hc [(6, .int l6_12), (5, .int l5_11), (0, rf x.w (some l0)), (1, rf x.w l1), (2, .int l2), (3, .int l3), (4, .int l4_6), (7, .int l7_35), (8, .int l8_21), (9, .int t5)] dX3_fillSet_134 (hnl 6 (le_b rfl)) rfl ?_
                  refine R_iinc (q := 8) (i := 8) (v := l8_21) hc [(8, .int (l8_21 + (1 : Int32))), (6, .int l6_12), (5, .int l5_11), (0, rf x.w (some l0)), (1, rf x.w l1), (2, .int l2), (3, .int l3), (4, .int l4_6), (7, .int l7_35), (9, .int t5)] dX3_fillSet_136 rfl (kC_1 _) (hnl 8 (le_b rfl)) rfl ?_
                  refine R_goto (tgt := 42) hc dX3_fillSet_139 (by decide) ?_
                  refine R_sub hc [3, 4, 5, 6, 7, 2, 1, 8, 0] rfl ?_
                  exact hX (l4_6, l5_11, l6_12, l8_21 + (1 : Int32)) (wpO_some hw :)
                · refine R_iconst (v := (1 : Int32)) hc dX3_fillSet_125 kI_1 ?_
                  refine R_iload (q := 8) (i := 8) (v := l8_21) hc dX3_fillSet_126 rfl ?_
                  refine R_ishl hc dX3_fillSet_128 ?_
                  refine R_goto (tgt := 133) hc dX3_fillSet_129 (by decide) ?_
                  refine R_ior hc dX3_fillSet_133 ?_
                  refine R_nmI hw (fun l6_13 hw => ?_)
                  refine R_istore (i := 6) (v := l6_13) hc [(6, .int l6_13), (5, .int l5_11), (0, rf x.w (some l0)), (1, rf x.w l1), (2, .int l2), (3, .int l3), (4, .int l4_6), (7, .int l7_35), (8, .int l8_21), (9, .int t5)] dX3_fillSet_134 (hnl 6 (le_b rfl)) rfl ?_
                  refine R_iinc (q := 8) (i := 8) (v := l8_21) hc [(8, .int (l8_21 + (1 : Int32))), (6, .int l6_13), (5, .int l5_11), (0, rf x.w (some l0)), (1, rf x.w l1), (2, .int l2), (3, .int l3), (4, .int l4_6), (7, .int l7_35), (9, .int t5)] dX3_fillSet_136 rfl (kC_1 _) (hnl 8 (le_b rfl)) rfl ?_
                  refine R_goto (tgt := 42) hc dX3_fillSet_139 (by decide) ?_
                  refine R_sub hc [3, 4, 5, 6, 7, 2, 1, 8, 0] rfl ?_
                  exact hX (l4_6, l5_11, l6_13, l8_21 + (1 : Int32)) (wpO_some hw :)
              · refine R_icmp_ne (tgt := 110) hc dX3_fillSet_100 (by decide) hw (fun hw => ?_) (fun hw => ?_)
                · refine R_iconst (v := (0 : Int32)) hc dX3_fillSet_110 kI_0 ?_
                  refine R_sub hc [0, 1, 2, 3, 4, 6, 7, 8, 9] rfl ?_
                  exact (wpO_some hw :)
                · refine R_iconst (v := (1 : Int32)) hc dX3_fillSet_103 kI_1 ?_
                  refine R_iload (q := 8) (i := 8) (v := l8_21) hc dX3_fillSet_104 rfl ?_
                  refine R_ishl hc dX3_fillSet_106 ?_
                  refine R_goto (tgt := 111) hc dX3_fillSet_107 (by decide) ?_
                  refine R_sub hc [0, 1, 2, 3, 4, 6, 7, 8, 9] rfl ?_
                  exact (wpO_some hw :)
            · refine R_icmp_ge (tgt := 94) hc dX3_fillSet_67 (by decide) hw (fun hw => ?_) (fun hw => ?_)
              · refine R_sub hc [1, 2, 3, 4, 5, 6, 7, 8, 9, 0] rfl ?_
                exact (wpO_some hw :)
              · refine R_iload (q := 0) (i := 9) (v := t5) hc dX3_fillSet_70 rfl ?_
                refine R_iload (q := 5) (i := 4) (v := l4_18) hc dX3_fillSet_72 rfl ?_
                refine R_iconst (v := (1 : Int32)) hc dX3_fillSet_74 kI_1 ?_
                refine R_isub hc dX3_fillSet_75 ?_
                refine R_join (fun (s9 : Int32) => Rn x 0 0 85 [(0, rf x.w (some l0)), (1, rf x.w l1), (2, .int l2), (3, .int l3), (7, .int l7_35), (8, .int l8_21), (9, .int t5)] [.int s9] h) hw (fun r hw => ?_) (fun hw => ?_)
                · revert r hw
                  intro s9 hw
                  show Rn x 0 0 85 [(0, rf x.w (some l0)), (1, rf x.w l1), (2, .int l2), (3, .int l3), (7, .int l7_35), (8, .int l8_21), (9, .int t5)] [.int s9] h
                  refine R_istore (i := 6) (v := s9) hc [(6, .int s9), (0, rf x.w (some l0)), (1, rf x.w l1), (2, .int l2), (3, .int l3), (7, .int l7_35), (8, .int l8_21), (9, .int t5)] dX3_fillSet_85 (hnl 6 (le_b rfl)) rfl ?_
                  refine R_iconst (v := (0 : Int32)) hc dX3_fillSet_87 kI_0 ?_
                  refine R_istore (i := 5) (v := (0 : Int32)) hc [(5, .int (0 : Int32)), (6, .int s9), (0, rf x.w (some l0)), (1, rf x.w l1), (2, .int l2), (3, .int l3), (7, .int l7_35), (8, .int l8_21), (9, .int t5)] dX3_fillSet_88 (hnl 5 (le_b rfl)) rfl ?_
                  refine R_iload (q := 8) (i := 9) (v := t5) hc dX3_fillSet_90 rfl ?_
                  refine R_istore (i := 4) (v := t5) hc [(4, .int t5), (5, .int (0 : Int32)), (6, .int s9), (0, rf x.w (some l0)), (1, rf x.w l1), (2, .int l2), (3, .int l3), (7, .int l7_35), (8, .int l8_21), (9, .int t5)] dX3_fillSet_92 (hnl 4 (le_b rfl)) rfl ?_
                  refine R_sub hc [3, 4, 5, 6, 0, 1, 2, 7, 8, 9] rfl ?_
                  exact (wpO_some hw :)
                · refine R_icmp_ne (tgt := 84) hc dX3_fillSet_76 (by decide) hw (fun hw => ?_) (fun hw => ?_)
                  · refine R_iconst (v := (0 : Int32)) hc dX3_fillSet_84 kI_0 ?_
                    refine R_sub hc [1, 2, 3, 4, 8, 9, 0] rfl ?_
                    exact (wpO_some hw :)
                  · refine R_iload (q := 6) (i := 5) (v := l5_19) hc dX3_fillSet_79 rfl ?_
                    refine R_goto (tgt := 85) hc dX3_fillSet_81 (by decide) ?_
                    refine R_sub hc [1, 2, 3, 4, 8, 9, 0] rfl ?_
                    exact (wpO_some hw :)
      · refine R_goto (tgt := 142) hc dX3_fillSet_33 (by decide) ?_
        refine R_iinc (q := 7) (i := 7) (v := l7_35) hc [(7, .int (l7_35 + (1 : Int32))), (0, rf x.w (some l0)), (1, rf x.w l1), (2, .int l2), (3, .int l3), (4, .int l4_32), (5, .int l5_33), (6, .int l6_34)] dX3_fillSet_142 rfl (kC_1 _) (hnl 7 (le_b rfl)) rfl ?_
        refine R_goto (tgt := 14) hc dX3_fillSet_145 (by decide) ?_
        refine R_sub hc [1, 2, 3, 4, 5, 6, 7, 0] rfl ?_
        exact hX (l4_32, l5_33, l6_34, l7_35 + (1 : Int32)) (wpO_some hw :)
theorem dX3_fill_0 : decode cX3_fill 0 = .ok (.aload_n 1, 1) := by decide +kernel
theorem dX3_fill_1 : decode cX3_fill 1 = .ok (.invokevirtual 21, 3) := by decide +kernel
theorem dX3_fill_4 : decode cX3_fill 4 = .ok (.istore_n 3, 1) := by decide +kernel
theorem dX3_fill_5 : decode cX3_fill 5 = .ok (.aload_n 0, 1) := by decide +kernel
theorem dX3_fill_6 : decode cX3_fill 6 = .ok (.getfield 9, 3) := by decide +kernel
theorem dX3_fill_9 : decode cX3_fill 9 = .ok (.iconst 0, 1) := by decide +kernel
theorem dX3_fill_10 : decode cX3_fill 10 = .ok (.iconst 0, 1) := by decide +kernel
theorem dX3_fill_11 : decode cX3_fill 11 = .ok (.iastore, 1) := by decide +kernel
theorem dX3_fill_12 : decode cX3_fill 12 = .ok (.aload_n 0, 1) := by decide +kernel
theorem dX3_fill_13 : decode cX3_fill 13 = .ok (.getfield 15, 3) := by decide +kernel
theorem dX3_fill_16 : decode cX3_fill 16 = .ok (.iconst 0, 1) := by decide +kernel
theorem dX3_fill_17 : decode cX3_fill 17 = .ok (.iconst 0, 1) := by decide +kernel
theorem dX3_fill_18 : decode cX3_fill 18 = .ok (.iastore, 1) := by decide +kernel
theorem dX3_fill_19 : decode cX3_fill 19 = .ok (.aload_n 0, 1) := by decide +kernel
theorem dX3_fill_20 : decode cX3_fill 20 = .ok (.getfield 18, 3) := by decide +kernel
theorem dX3_fill_23 : decode cX3_fill 23 = .ok (.iconst 0, 1) := by decide +kernel
theorem dX3_fill_24 : decode cX3_fill 24 = .ok (.iconst 0, 1) := by decide +kernel
theorem dX3_fill_25 : decode cX3_fill 25 = .ok (.iastore, 1) := by decide +kernel
theorem dX3_fill_26 : decode cX3_fill 26 = .ok (.iconst 1, 1) := by decide +kernel
theorem dX3_fill_27 : decode cX3_fill 27 = .ok (.istore 4, 2) := by decide +kernel
theorem dX3_fill_29 : decode cX3_fill 29 = .ok (.iload 4, 2) := by decide +kernel
theorem dX3_fill_31 : decode cX3_fill 31 = .ok (.iload_n 3, 1) := by decide +kernel
theorem dX3_fill_32 : decode cX3_fill 32 = .ok (.if_icmp .gt 25, 3) := by decide +kernel
theorem dX3_fill_35 : decode cX3_fill 35 = .ok (.iload 4, 2) := by decide +kernel
theorem dX3_fill_37 : decode cX3_fill 37 = .ok (.sipush 256, 3) := by decide +kernel
theorem dX3_fill_40 : decode cX3_fill 40 = .ok (.if_icmp .ge 17, 3) := by decide +kernel
theorem dX3_fill_43 : decode cX3_fill 43 = .ok (.aload_n 0, 1) := by decide +kernel
theorem dX3_fill_44 : decode cX3_fill 44 = .ok (.aload_n 1, 1) := by decide +kernel
theorem dX3_fill_45 : decode cX3_fill 45 = .ok (.iload 4, 2) := by decide +kernel
theorem dX3_fill_47 : decode cX3_fill 47 = .ok (.iload_n 2, 1) := by decide +kernel
theorem dX3_fill_48 : decode cX3_fill 48 = .ok (.invokevirtual 27, 3) := by decide +kernel
theorem dX3_fill_51 : decode cX3_fill 51 = .ok (.iinc 4 1, 3) := by decide +kernel
theorem dX3_fill_54 : decode cX3_fill 54 = .ok (.goto (-25), 3) := by decide +kernel
theorem dX3_fill_57 : decode cX3_fill 57 = .ok (.return_, 1) := by decide +kernel
def sX3_fill_L29 (F : Nat) (l0 : Nat) (l1 : Option Nat) (l2 : Int32) (l3 : Int32) (l4 : Int32) (h : HP) : Option ((Int32 × HP) ⊕ HP) :=
  if l3 < l4 then
    some (.inr h)
  else
    if (256 : Int32) ≤ l4 then
      some (.inr h)
    else
      (dO h 3 (some l0)).bind fun a9 =>
      (sX3_fillSet F a9 l1 l4 l2 h).bind fun h10 =>
      some (.inl (l4 + (1 : Int32), h10))
def sX3_fill (F : Nat) (l0 : Nat) (l1 : Option Nat) (l2 : Int32) (h : HP) : Option HP :=
  (dO h 1 l1).bind fun a1 =>
  (sX1_allFingers F a1 h).bind fun t2 =>
  (gR h 3 (some l0) 0).bind fun t3 =>
  (sI h t3 (0 : Int32) (0 : Int32)).bind fun h4 =>
  (gR h4 3 (some l0) 1).bind fun t5 =>
  (sI h4 t5 (0 : Int32) (0 : Int32)).bind fun h6 =>
  (gR h6 3 (some l0) 2).bind fun t7 =>
  (sI h6 t7 (0 : Int32) (0 : Int32)).bind fun h8 =>
  (iter (fun s => sX3_fill_L29 F l0 l1 l2 t2 s.1 s.2) F ((1 : Int32), h8)).bind fun h11 =>
    some h11
abbrev rm_X3_fill : Room := { frames := 3, cells := 0, slots := 0, locals := 74 }
set_option maxRecDepth 100000 in
set_option maxHeartbeats 4000000 in
theorem mt_X3_fill {w : WD} {l : Launch} {F : Nat} {l0 : Nat} {l1 : Option Nat} {l2 : Int32} {h : HP} {h' : HP} (hs : sX3_fill F l0 l1 l2 h = some h') : MV w l yX3_fill cX3_fill 5 rm_X3_fill 0 0 [rf w (some l0), rf w l1, .int l2] h h' := by
  refine of_body [(0, rf w (some l0)), (1, rf w l1), (2, .int l2)] (by decide) (by simp [lg_sl, rf_cat, cat_i, cat_l, cat_a]) (by simp [lv_args, rf_cat, cat_i, cat_l, cat_a]) ?_
  intro x hw_ hnL_ hl_ hc hret hnm hQ
  subst hw_; subst hl_
  have hnl : ∀ i, i < 5 → i < x.nL := fun i h => by rw [hnL_]; exact h
  have hw : wpO (sX3_fill F l0 l1 l2 h) (fun r => r = h') := ⟨_, hs, rfl⟩
  unfold sX3_fill at hw
  refine R_aload_n (q := 1) (i := 1) (v := l1) hc dX3_fill_0 rfl rfl ?_
  refine R_cVI (As := []) (rest := []) (r := l1) (ci := 1) hc ml_3_21 mf_X1_allFingers rfl (by decide) ⟨rfl, rfl⟩ ⟨le_b rfl, le_b rfl⟩ ⟨Nat.zero_le _, Nat.zero_le _⟩ (fun a v e => mt_X1_allFingers e) rfl rfl (Nat.zero_le _) dX3_fill_1 hw (fun t2 hw => ?_)
  refine R_istore_n (i := 3) (v := t2) hc [(3, .int t2), (0, rf x.w (some l0)), (1, rf x.w l1), (2, .int l2)] dX3_fill_4 rfl (hnl 3 (le_b rfl)) rfl ?_
  refine R_aload_n (q := 1) (i := 0) (v := (some l0)) hc dX3_fill_5 rfl rfl ?_
  refine R_getR hc fl_3_9 dX3_fill_6 hw (fun t3 hw => ?_)
  refine R_iconst (v := (0 : Int32)) hc dX3_fill_9 kI_0 ?_
  refine R_iconst (v := (0 : Int32)) hc dX3_fill_10 kI_0 ?_
  refine R_iastore hc dX3_fill_11 hw (fun h4 hw => ?_)
  refine R_aload_n (q := 1) (i := 0) (v := (some l0)) hc dX3_fill_12 rfl rfl ?_
  refine R_getR hc fl_3_15 dX3_fill_13 hw (fun t5 hw => ?_)
  refine R_iconst (v := (0 : Int32)) hc dX3_fill_16 kI_0 ?_
  refine R_iconst (v := (0 : Int32)) hc dX3_fill_17 kI_0 ?_
  refine R_iastore hc dX3_fill_18 hw (fun h6 hw => ?_)
  refine R_aload_n (q := 1) (i := 0) (v := (some l0)) hc dX3_fill_19 rfl rfl ?_
  refine R_getR hc fl_3_18 dX3_fill_20 hw (fun t7 hw => ?_)
  refine R_iconst (v := (0 : Int32)) hc dX3_fill_23 kI_0 ?_
  refine R_iconst (v := (0 : Int32)) hc dX3_fill_24 kI_0 ?_
  refine R_iastore hc dX3_fill_25 hw (fun h8 hw => ?_)
  refine R_iconst (v := (1 : Int32)) hc dX3_fill_26 kI_1 ?_
  refine R_istore (i := 4) (v := (1 : Int32)) hc [(4, .int (1 : Int32)), (3, .int t2), (0, rf x.w (some l0)), (1, rf x.w l1), (2, .int l2)] dX3_fill_27 (hnl 4 (le_b rfl)) rfl ?_
  refine R_sub hc [2, 3, 4, 1, 0] rfl ?_
  refine R_loop (P := fun (s : (Int32 × HP)) => Rn x 0 0 29 [(0, rf x.w (some l0)), (1, rf x.w l1), (2, .int l2), (3, .int t2), (4, .int s.1)] [] s.2) (fun h11 => Rn x 0 0 57 [] [] h11) hw (fun r hw => ?_) (fun X hX s hw => ?_)
  · revert r hw
    intro h11 hw
    show Rn x 0 0 57 [] [] h11
    exact R_return hc hret hQ hw dX3_fill_57
  · obtain ⟨l4_13, h14⟩ := s
    show Rn x 0 0 29 [(0, rf x.w (some l0)), (1, rf x.w l1), (2, .int l2), (3, .int t2), (4, .int l4_13)] [] h14
    have hw : wpO (sX3_fill_L29 F l0 l1 l2 t2 l4_13 h14) _ := hw
    unfold sX3_fill_L29 at hw
    refine R_iload (q := 4) (i := 4) (v := l4_13) hc dX3_fill_29 rfl ?_
    refine R_iload_n (q := 3) (i := 3) (v := t2) hc dX3_fill_31 rfl rfl ?_
    refine R_icmp_gt (tgt := 57) hc dX3_fill_32 (by decide) hw (fun hw => ?_) (fun hw => ?_)
    · refine R_sub hc [] rfl ?_
      exact (wpO_some hw :)
    · refine R_iload (q := 4) (i := 4) (v := l4_13) hc dX3_fill_35 rfl ?_
      refine R_sipush (v := (256 : Int32)) hc dX3_fill_37 kS_256 ?_
      refine R_icmp_ge (tgt := 57) hc dX3_fill_40 (by decide) hw (fun hw => ?_) (fun hw => ?_)
      · refine R_sub hc [] rfl ?_
        exact (wpO_some hw :)
      · refine R_aload_n (q := 0) (i := 0) (v := (some l0)) hc dX3_fill_43 rfl rfl ?_
        refine R_aload_n (q := 1) (i := 1) (v := l1) hc dX3_fill_44 rfl rfl ?_
        refine R_iload (q := 4) (i := 4) (v := l4_13) hc dX3_fill_45 rfl ?_
        refine R_iload_n (q := 2) (i := 2) (v := l2) hc dX3_fill_47 rfl rfl ?_
        refine R_cVVi (As := [rf x.w l1, .int l4_13, .int l2]) (rest := []) (r := (some l0)) (ci := 3) hc ml_3_27 mf_X3_fillSet rfl (by decide) ⟨rfl, rfl⟩ ⟨le_b rfl, le_b rfl⟩ ⟨Nat.zero_le _, Nat.zero_le _⟩ (fun a h' e => mt_X3_fillSet e) rfl rfl (Nat.zero_le _) dX3_fill_48 hw (fun h10 hw => ?_)
        refine R_iinc (q := 4) (i := 4) (v := l4_13) hc [(4, .int (l4_13 + (1 : Int32))), (0, rf x.w (some l0)), (1, rf x.w l1), (2, .int l2), (3, .int t2)] dX3_fill_51 rfl (kC_1 _) (hnl 4 (le_b rfl)) rfl ?_
        refine R_goto (tgt := 29) hc dX3_fill_54 (by decide) ?_
        refine R_sub hc [1, 2, 3, 4, 0] rfl ?_
        exact hX (l4_13 + (1 : Int32), h10) (wpO_some hw :)
theorem dJ6_bitCount_0f7a4_0 : decode cJ6_bitCount_0f7a4 0 = .ok (.iload_n 0, 1) := by decide +kernel
theorem dJ6_bitCount_0f7a4_1 : decode cJ6_bitCount_0f7a4 1 = .ok (.iload_n 0, 1) := by decide +kernel
theorem dJ6_bitCount_0f7a4_2 : decode cJ6_bitCount_0f7a4 2 = .ok (.iconst 1, 1) := by decide +kernel
theorem dJ6_bitCount_0f7a4_3 : decode cJ6_bitCount_0f7a4 3 = .ok (.iushr, 1) := by decide +kernel
theorem dJ6_bitCount_0f7a4_4 : decode cJ6_bitCount_0f7a4 4 = .ok (.ldc_w 265, 3) := by decide +kernel
theorem dJ6_bitCount_0f7a4_7 : decode cJ6_bitCount_0f7a4 7 = .ok (.iand, 1) := by decide +kernel
theorem dJ6_bitCount_0f7a4_8 : decode cJ6_bitCount_0f7a4 8 = .ok (.isub, 1) := by decide +kernel
theorem dJ6_bitCount_0f7a4_9 : decode cJ6_bitCount_0f7a4 9 = .ok (.istore_n 0, 1) := by decide +kernel
theorem dJ6_bitCount_0f7a4_10 : decode cJ6_bitCount_0f7a4 10 = .ok (.iload_n 0, 1) := by decide +kernel
theorem dJ6_bitCount_0f7a4_11 : decode cJ6_bitCount_0f7a4 11 = .ok (.ldc_w 266, 3) := by decide +kernel
theorem dJ6_bitCount_0f7a4_14 : decode cJ6_bitCount_0f7a4 14 = .ok (.iand, 1) := by decide +kernel
theorem dJ6_bitCount_0f7a4_15 : decode cJ6_bitCount_0f7a4 15 = .ok (.iload_n 0, 1) := by decide +kernel
theorem dJ6_bitCount_0f7a4_16 : decode cJ6_bitCount_0f7a4 16 = .ok (.iconst 2, 1) := by decide +kernel
theorem dJ6_bitCount_0f7a4_17 : decode cJ6_bitCount_0f7a4 17 = .ok (.iushr, 1) := by decide +kernel
theorem dJ6_bitCount_0f7a4_18 : decode cJ6_bitCount_0f7a4 18 = .ok (.ldc_w 266, 3) := by decide +kernel
theorem dJ6_bitCount_0f7a4_21 : decode cJ6_bitCount_0f7a4 21 = .ok (.iand, 1) := by decide +kernel
theorem dJ6_bitCount_0f7a4_22 : decode cJ6_bitCount_0f7a4 22 = .ok (.iadd, 1) := by decide +kernel
theorem dJ6_bitCount_0f7a4_23 : decode cJ6_bitCount_0f7a4 23 = .ok (.istore_n 0, 1) := by decide +kernel
theorem dJ6_bitCount_0f7a4_24 : decode cJ6_bitCount_0f7a4 24 = .ok (.iload_n 0, 1) := by decide +kernel
theorem dJ6_bitCount_0f7a4_25 : decode cJ6_bitCount_0f7a4 25 = .ok (.iload_n 0, 1) := by decide +kernel
theorem dJ6_bitCount_0f7a4_26 : decode cJ6_bitCount_0f7a4 26 = .ok (.iconst 4, 1) := by decide +kernel
theorem dJ6_bitCount_0f7a4_27 : decode cJ6_bitCount_0f7a4 27 = .ok (.iushr, 1) := by decide +kernel
theorem dJ6_bitCount_0f7a4_28 : decode cJ6_bitCount_0f7a4 28 = .ok (.iadd, 1) := by decide +kernel
theorem dJ6_bitCount_0f7a4_29 : decode cJ6_bitCount_0f7a4 29 = .ok (.ldc_w 267, 3) := by decide +kernel
theorem dJ6_bitCount_0f7a4_32 : decode cJ6_bitCount_0f7a4 32 = .ok (.iand, 1) := by decide +kernel
theorem dJ6_bitCount_0f7a4_33 : decode cJ6_bitCount_0f7a4 33 = .ok (.istore_n 0, 1) := by decide +kernel
theorem dJ6_bitCount_0f7a4_34 : decode cJ6_bitCount_0f7a4 34 = .ok (.iload_n 0, 1) := by decide +kernel
theorem dJ6_bitCount_0f7a4_35 : decode cJ6_bitCount_0f7a4 35 = .ok (.iload_n 0, 1) := by decide +kernel
theorem dJ6_bitCount_0f7a4_36 : decode cJ6_bitCount_0f7a4 36 = .ok (.bipush 8, 2) := by decide +kernel
theorem dJ6_bitCount_0f7a4_38 : decode cJ6_bitCount_0f7a4 38 = .ok (.iushr, 1) := by decide +kernel
theorem dJ6_bitCount_0f7a4_39 : decode cJ6_bitCount_0f7a4 39 = .ok (.iadd, 1) := by decide +kernel
theorem dJ6_bitCount_0f7a4_40 : decode cJ6_bitCount_0f7a4 40 = .ok (.istore_n 0, 1) := by decide +kernel
theorem dJ6_bitCount_0f7a4_41 : decode cJ6_bitCount_0f7a4 41 = .ok (.iload_n 0, 1) := by decide +kernel
theorem dJ6_bitCount_0f7a4_42 : decode cJ6_bitCount_0f7a4 42 = .ok (.iload_n 0, 1) := by decide +kernel
theorem dJ6_bitCount_0f7a4_43 : decode cJ6_bitCount_0f7a4 43 = .ok (.bipush 16, 2) := by decide +kernel
theorem dJ6_bitCount_0f7a4_45 : decode cJ6_bitCount_0f7a4 45 = .ok (.iushr, 1) := by decide +kernel
theorem dJ6_bitCount_0f7a4_46 : decode cJ6_bitCount_0f7a4 46 = .ok (.iadd, 1) := by decide +kernel
theorem dJ6_bitCount_0f7a4_47 : decode cJ6_bitCount_0f7a4 47 = .ok (.istore_n 0, 1) := by decide +kernel
theorem dJ6_bitCount_0f7a4_48 : decode cJ6_bitCount_0f7a4 48 = .ok (.iload_n 0, 1) := by decide +kernel
theorem dJ6_bitCount_0f7a4_49 : decode cJ6_bitCount_0f7a4 49 = .ok (.bipush 63, 2) := by decide +kernel
theorem dJ6_bitCount_0f7a4_51 : decode cJ6_bitCount_0f7a4 51 = .ok (.iand, 1) := by decide +kernel
theorem dJ6_bitCount_0f7a4_52 : decode cJ6_bitCount_0f7a4 52 = .ok (.ireturn, 1) := by decide +kernel
def sJ6_bitCount_0f7a4 (F : Nat) (l0 : Int32) (h : HP) : Option Int32 :=
  nmI (l0 - ((jush l0 (1 : Int32)) &&& (1431655765 : Int32))) fun l0_1 =>
  nmI ((l0_1 &&& (858993459 : Int32)) + ((jush l0_1 (2 : Int32)) &&& (858993459 : Int32))) fun l0_2 =>
  nmI ((l0_2 + (jush l0_2 (4 : Int32))) &&& (252645135 : Int32)) fun l0_3 =>
  nmI (l0_3 + (jush l0_3 (8 : Int32))) fun l0_4 =>
  nmI (l0_4 + (jush l0_4 (16 : Int32))) fun l0_5 =>
  some (l0_5 &&& (63 : Int32))
abbrev rm_J6_bitCount_0f7a4 : Room := { frames := 0, cells := 0, slots := 0, locals := 0 }
set_option maxRecDepth 100000 in
set_option maxHeartbeats 4000000 in
theorem mt_J6_bitCount_0f7a4 {w : WD} {l : Launch} {F : Nat} {l0 : Int32} {h : HP} {v : Int32} (hs : sJ6_bitCount_0f7a4 F l0 h = some v) : MI w l yJ6_bitCount_0f7a4 cJ6_bitCount_0f7a4 1 .int rm_J6_bitCount_0f7a4 0 0 [.int l0] h v h := by
  refine of_body [(0, .int l0)] (by decide) (by simp [lg_sl, rf_cat, cat_i, cat_l, cat_a]) (by simp [lv_args, rf_cat, cat_i, cat_l, cat_a]) ?_
  intro x hw_ hnL_ hl_ hc hret hnm hQ
  subst hw_; subst hl_
  have hnl : ∀ i, i < 1 → i < x.nL := fun i h => by rw [hnL_]; exact h
  have hw : wpO (sJ6_bitCount_0f7a4 F l0 h) (fun r => r = v) := ⟨_, hs, rfl⟩
  unfold sJ6_bitCount_0f7a4 at hw
  refine R_iload_n (q := 0) (i := 0) (v := l0) hc dJ6_bitCount_0f7a4_0 rfl rfl ?_
  refine R_iload_n (q := 0) (i := 0) (v := l0) hc dJ6_bitCount_0f7a4_1 rfl rfl ?_
  refine R_iconst (v := (1 : Int32)) hc dJ6_bitCount_0f7a4_2 kI_1 ?_
  refine R_iushr hc dJ6_bitCount_0f7a4_3 ?_
  refine R_ldcw (v := (1431655765 : Int32)) hc kw_J6_265 dJ6_bitCount_0f7a4_4 ?_
  refine R_iand hc dJ6_bitCount_0f7a4_7 ?_
  refine R_isub hc dJ6_bitCount_0f7a4_8 ?_
  refine R_nmI hw (fun l0_1 hw => ?_)
  refine R_istore_n (i := 0) (v := l0_1) hc [(0, .int l0_1)] dJ6_bitCount_0f7a4_9 rfl (hnl 0 (le_b rfl)) rfl ?_
  refine R_iload_n (q := 0) (i := 0) (v := l0_1) hc dJ6_bitCount_0f7a4_10 rfl rfl ?_
  refine R_ldcw (v := (858993459 : Int32)) hc kw_J6_266 dJ6_bitCount_0f7a4_11 ?_
  refine R_iand hc dJ6_bitCount_0f7a4_14 ?_
  refine R_iload_n (q := 0) (i := 0) (v := l0_1) hc dJ6_bitCount_0f7a4_15 rfl rfl ?_
  refine R_iconst (v := (2 : Int32)) hc dJ6_bitCount_0f7a4_16 kI_2 ?_
  refine R_iushr hc dJ6_bitCount_0f7a4_17 ?_
  refine R_ldcw (v := (858993459 : Int32)) hc kw_J6_266 dJ6_bitCount_0f7a4_18 ?_
  refine R_iand hc dJ6_bitCount_0f7a4_21 ?_
  refine R_iadd hc dJ6_bitCount_0f7a4_22 ?_
  refine R_nmI hw (fun l0_2 hw => ?_)
  refine R_istore_n (i := 0) (v := l0_2) hc [(0, .int l0_2)] dJ6_bitCount_0f7a4_23 rfl (hnl 0 (le_b rfl)) rfl ?_
  refine R_iload_n (q := 0) (i := 0) (v := l0_2) hc dJ6_bitCount_0f7a4_24 rfl rfl ?_
  refine R_iload_n (q := 0) (i := 0) (v := l0_2) hc dJ6_bitCount_0f7a4_25 rfl rfl ?_
  refine R_iconst (v := (4 : Int32)) hc dJ6_bitCount_0f7a4_26 kI_4 ?_
  refine R_iushr hc dJ6_bitCount_0f7a4_27 ?_
  refine R_iadd hc dJ6_bitCount_0f7a4_28 ?_
  refine R_ldcw (v := (252645135 : Int32)) hc kw_J6_267 dJ6_bitCount_0f7a4_29 ?_
  refine R_iand hc dJ6_bitCount_0f7a4_32 ?_
  refine R_nmI hw (fun l0_3 hw => ?_)
  refine R_istore_n (i := 0) (v := l0_3) hc [(0, .int l0_3)] dJ6_bitCount_0f7a4_33 rfl (hnl 0 (le_b rfl)) rfl ?_
  refine R_iload_n (q := 0) (i := 0) (v := l0_3) hc dJ6_bitCount_0f7a4_34 rfl rfl ?_
  refine R_iload_n (q := 0) (i := 0) (v := l0_3) hc dJ6_bitCount_0f7a4_35 rfl rfl ?_
  refine R_bipush (v := (8 : Int32)) hc dJ6_bitCount_0f7a4_36 kB_8 ?_
  refine R_iushr hc dJ6_bitCount_0f7a4_38 ?_
  refine R_iadd hc dJ6_bitCount_0f7a4_39 ?_
  refine R_nmI hw (fun l0_4 hw => ?_)
  refine R_istore_n (i := 0) (v := l0_4) hc [(0, .int l0_4)] dJ6_bitCount_0f7a4_40 rfl (hnl 0 (le_b rfl)) rfl ?_
  refine R_iload_n (q := 0) (i := 0) (v := l0_4) hc dJ6_bitCount_0f7a4_41 rfl rfl ?_
  refine R_iload_n (q := 0) (i := 0) (v := l0_4) hc dJ6_bitCount_0f7a4_42 rfl rfl ?_
  refine R_bipush (v := (16 : Int32)) hc dJ6_bitCount_0f7a4_43 kB_16 ?_
  refine R_iushr hc dJ6_bitCount_0f7a4_45 ?_
  refine R_iadd hc dJ6_bitCount_0f7a4_46 ?_
  refine R_nmI hw (fun l0_5 hw => ?_)
  refine R_istore_n (i := 0) (v := l0_5) hc [(0, .int l0_5)] dJ6_bitCount_0f7a4_47 rfl (hnl 0 (le_b rfl)) rfl ?_
  refine R_iload_n (q := 0) (i := 0) (v := l0_5) hc dJ6_bitCount_0f7a4_48 rfl rfl ?_
  refine R_bipush (v := (63 : Int32)) hc dJ6_bitCount_0f7a4_49 kB_63 ?_
  refine R_iand hc dJ6_bitCount_0f7a4_51 ?_
  exact R_ireturnP hc hret rfl hQ hw dJ6_bitCount_0f7a4_52
theorem dX10_lowestBit_0 : decode cX10_lowestBit 0 = .ok (.iload_n 0, 1) := by decide +kernel
theorem dX10_lowestBit_1 : decode cX10_lowestBit 1 = .ok (.iload_n 0, 1) := by decide +kernel
theorem dX10_lowestBit_2 : decode cX10_lowestBit 2 = .ok (.ineg, 1) := by decide +kernel
theorem dX10_lowestBit_3 : decode cX10_lowestBit 3 = .ok (.iand, 1) := by decide +kernel
theorem dX10_lowestBit_4 : decode cX10_lowestBit 4 = .ok (.iconst 1, 1) := by decide +kernel
theorem dX10_lowestBit_5 : decode cX10_lowestBit 5 = .ok (.isub, 1) := by decide +kernel
theorem dX10_lowestBit_6 : decode cX10_lowestBit 6 = .ok (.invokestatic 262, 3) := by decide +kernel
theorem dX10_lowestBit_9 : decode cX10_lowestBit 9 = .ok (.ireturn, 1) := by decide +kernel
def sX10_lowestBit (F : Nat) (l0 : Int32) (h : HP) : Option Int32 :=
  (sJ6_bitCount_0f7a4 F ((l0 &&& (-l0)) - (1 : Int32)) h).bind fun t1 =>
  some t1
abbrev rm_X10_lowestBit : Room := { frames := 1, cells := 0, slots := 0, locals := 20 }
set_option maxRecDepth 100000 in
set_option maxHeartbeats 4000000 in
theorem mt_X10_lowestBit {w : WD} {l : Launch} {F : Nat} {l0 : Int32} {h : HP} {v : Int32} (hs : sX10_lowestBit F l0 h = some v) : MI w l yX10_lowestBit cX10_lowestBit 1 .int rm_X10_lowestBit 0 0 [.int l0] h v h := by
  refine of_body [(0, .int l0)] (by decide) (by simp [lg_sl, rf_cat, cat_i, cat_l, cat_a]) (by simp [lv_args, rf_cat, cat_i, cat_l, cat_a]) ?_
  intro x hw_ hnL_ hl_ hc hret hnm hQ
  subst hw_; subst hl_
  have hnl : ∀ i, i < 1 → i < x.nL := fun i h => by rw [hnL_]; exact h
  have hw : wpO (sX10_lowestBit F l0 h) (fun r => r = v) := ⟨_, hs, rfl⟩
  unfold sX10_lowestBit at hw
  refine R_iload_n (q := 0) (i := 0) (v := l0) hc dX10_lowestBit_0 rfl rfl ?_
  refine R_iload_n (q := 0) (i := 0) (v := l0) hc dX10_lowestBit_1 rfl rfl ?_
  refine R_ineg hc dX10_lowestBit_2 ?_
  refine R_iand hc dX10_lowestBit_3 ?_
  refine R_iconst (v := (1 : Int32)) hc dX10_lowestBit_4 kI_1 ?_
  refine R_isub hc dX10_lowestBit_5 ?_
  refine R_cSI (As := [.int ((l0 &&& (-l0)) - (1 : Int32))]) (rest := []) hc ml_10_262 mf_J6_bitCount_0f7a4 ⟨rfl, rfl⟩ ⟨le_b rfl, le_b rfl⟩ ⟨Nat.zero_le _, Nat.zero_le _⟩ (fun v e => mt_J6_bitCount_0f7a4 e) rfl rfl (Nat.zero_le _) dX10_lowestBit_6 hw (fun t1 hw => ?_)
  exact R_ireturnP hc hret rfl hQ hw dX10_lowestBit_9
theorem dX4_waysOver_0 : decode cX4_waysOver 0 = .ok (.lconst 0, 1) := by decide +kernel
theorem dX4_waysOver_1 : decode cX4_waysOver 1 = .ok (.lstore_n 3, 1) := by decide +kernel
theorem dX4_waysOver_2 : decode cX4_waysOver 2 = .ok (.iload_n 2, 1) := by decide +kernel
theorem dX4_waysOver_3 : decode cX4_waysOver 3 = .ok (.istore 5, 2) := by decide +kernel
theorem dX4_waysOver_5 : decode cX4_waysOver 5 = .ok (.iload_n 2, 1) := by decide +kernel
theorem dX4_waysOver_6 : decode cX4_waysOver 6 = .ok (.invokestatic 99, 3) := by decide +kernel
theorem dX4_waysOver_9 : decode cX4_waysOver 9 = .ok (.istore 6, 2) := by decide +kernel
theorem dX4_waysOver_11 : decode cX4_waysOver 11 = .ok (.iload 6, 2) := by decide +kernel
theorem dX4_waysOver_13 : decode cX4_waysOver 13 = .ok (.ifCond .le 37, 3) := by decide +kernel
theorem dX4_waysOver_16 : decode cX4_waysOver 16 = .ok (.lload_n 3, 1) := by decide +kernel
theorem dX4_waysOver_17 : decode cX4_waysOver 17 = .ok (.aload_n 0, 1) := by decide +kernel
theorem dX4_waysOver_18 : decode cX4_waysOver 18 = .ok (.getfield 36, 3) := by decide +kernel
theorem dX4_waysOver_21 : decode cX4_waysOver 21 = .ok (.iload_n 1, 1) := by decide +kernel
theorem dX4_waysOver_22 : decode cX4_waysOver 22 = .ok (.bipush 32, 2) := by decide +kernel
theorem dX4_waysOver_24 : decode cX4_waysOver 24 = .ok (.imul, 1) := by decide +kernel
theorem dX4_waysOver_25 : decode cX4_waysOver 25 = .ok (.iload 5, 2) := by decide +kernel
theorem dX4_waysOver_27 : decode cX4_waysOver 27 = .ok (.invokestatic 104, 3) := by decide +kernel
theorem dX4_waysOver_30 : decode cX4_waysOver 30 = .ok (.iadd, 1) := by decide +kernel
theorem dX4_waysOver_31 : decode cX4_waysOver 31 = .ok (.iaload, 1) := by decide +kernel
theorem dX4_waysOver_32 : decode cX4_waysOver 32 = .ok (.i2l, 1) := by decide +kernel
theorem dX4_waysOver_33 : decode cX4_waysOver 33 = .ok (.ladd, 1) := by decide +kernel
theorem dX4_waysOver_34 : decode cX4_waysOver 34 = .ok (.lstore_n 3, 1) := by decide +kernel
theorem dX4_waysOver_35 : decode cX4_waysOver 35 = .ok (.iload 5, 2) := by decide +kernel
theorem dX4_waysOver_37 : decode cX4_waysOver 37 = .ok (.iload 5, 2) := by decide +kernel
theorem dX4_waysOver_39 : decode cX4_waysOver 39 = .ok (.iconst 1, 1) := by decide +kernel
theorem dX4_waysOver_40 : decode cX4_waysOver 40 = .ok (.isub, 1) := by decide +kernel
theorem dX4_waysOver_41 : decode cX4_waysOver 41 = .ok (.iand, 1) := by decide +kernel
theorem dX4_waysOver_42 : decode cX4_waysOver 42 = .ok (.istore 5, 2) := by decide +kernel
theorem dX4_waysOver_44 : decode cX4_waysOver 44 = .ok (.iinc 6 (-1), 3) := by decide +kernel
theorem dX4_waysOver_47 : decode cX4_waysOver 47 = .ok (.goto (-36), 3) := by decide +kernel
theorem dX4_waysOver_50 : decode cX4_waysOver 50 = .ok (.lload_n 3, 1) := by decide +kernel
theorem dX4_waysOver_51 : decode cX4_waysOver 51 = .ok (.lreturn, 1) := by decide +kernel
def sX4_waysOver_L11 (F : Nat) (l0 : Nat) (l1 : Int32) (l3 : Int64) (l5 : Int32) (l6 : Int32) (h : HP) : Option ((Int64 × Int32 × Int32) ⊕ Int64) :=
  if l6 ≤ 0 then
    some (.inr l3)
  else
    (gR h 4 (some l0) 5).bind fun t2 =>
    (sX10_lowestBit F l5 h).bind fun t3 =>
    (aI h 13 t2 ((l1 * (32 : Int32)) + t3)).bind fun t4 =>
    nmJ (l3 + t4.toInt64) fun l3_5 =>
    nmI (l5 &&& (l5 - (1 : Int32))) fun l5_6 =>
    some (.inl (l3_5, l5_6, l6 + (-1 : Int32)))
def sX4_waysOver (F : Nat) (l0 : Nat) (l1 : Int32) (l2 : Int32) (h : HP) : Option Int64 :=
  (sJ6_bitCount_0f7a4 F l2 h).bind fun t1 =>
  (iter (fun s => sX4_waysOver_L11 F l0 l1 s.1 s.2.1 s.2.2 h) F ((0 : Int64), l2, t1)).bind fun l3_7 =>
    some l3_7
abbrev rm_X4_waysOver : Room := { frames := 2, cells := 0, slots := 0, locals := 40 }
set_option maxRecDepth 100000 in
set_option maxHeartbeats 4000000 in
theorem mt_X4_waysOver {w : WD} {l : Launch} {F : Nat} {l0 : Nat} {l1 : Int32} {l2 : Int32} {h : HP} {v : Int64} (hs : sX4_waysOver F l0 l1 l2 h = some v) : MJ w l yX4_waysOver cX4_waysOver 7 rm_X4_waysOver 0 0 [rf w (some l0), .int l1, .int l2] h v h := by
  refine of_body [(0, rf w (some l0)), (1, .int l1), (2, .int l2)] (by decide) (by simp [lg_sl, rf_cat, cat_i, cat_l, cat_a]) (by simp [lv_args, rf_cat, cat_i, cat_l, cat_a]) ?_
  intro x hw_ hnL_ hl_ hc hret hnm hQ
  subst hw_; subst hl_
  have hnl : ∀ i, i < 7 → i < x.nL := fun i h => by rw [hnL_]; exact h
  have hw : wpO (sX4_waysOver F l0 l1 l2 h) (fun r => r = v) := ⟨_, hs, rfl⟩
  unfold sX4_waysOver at hw
  refine R_lconst (v := (0 : Int64)) hc dX4_waysOver_0 kL_0 ?_
  refine R_lstore_n (i := 3) (v := (0 : Int64)) hc [(3, .long (0 : Int64)), (0, rf x.w (some l0)), (1, .int l1), (2, .int l2)] dX4_waysOver_1 rfl (hnl 4 (le_b rfl)) rfl ?_
  refine R_iload_n (q := 3) (i := 2) (v := l2) hc dX4_waysOver_2 rfl rfl ?_
  refine R_istore (i := 5) (v := l2) hc [(5, .int l2), (3, .long (0 : Int64)), (0, rf x.w (some l0)), (1, .int l1), (2, .int l2)] dX4_waysOver_3 (hnl 5 (le_b rfl)) rfl ?_
  refine R_iload_n (q := 4) (i := 2) (v := l2) hc dX4_waysOver_5 rfl rfl ?_
  refine R_cSI (As := [.int l2]) (rest := []) hc ml_4_99 mf_J6_bitCount_0f7a4 ⟨rfl, rfl⟩ ⟨le_b rfl, le_b rfl⟩ ⟨Nat.zero_le _, Nat.zero_le _⟩ (fun v e => mt_J6_bitCount_0f7a4 e) rfl rfl (Nat.zero_le _) dX4_waysOver_6 hw (fun t1 hw => ?_)
  refine R_istore (i := 6) (v := t1) hc [(6, .int t1), (5, .int l2), (3, .long (0 : Int64)), (0, rf x.w (some l0)), (1, .int l1), (2, .int l2)] dX4_waysOver_9 (hnl 6 (le_b rfl)) rfl ?_
  refine R_sub hc [3, 4, 2, 1, 0] rfl ?_
  refine R_loop (P := fun (s : (Int64 × Int32 × Int32)) => Rn x 0 0 11 [(0, rf x.w (some l0)), (1, .int l1), (3, .long s.1), (5, .int s.2.1), (6, .int s.2.2)] [] h) (fun l3_7 => Rn x 0 0 50 [(3, .long l3_7)] [] h) hw (fun r hw => ?_) (fun X hX s hw => ?_)
  · revert r hw
    intro l3_7 hw
    show Rn x 0 0 50 [(3, .long l3_7)] [] h
    refine R_lload_n (q := 0) (i := 3) (v := l3_7) hc dX4_waysOver_50 rfl rfl ?_
    exact R_lreturnP hc hret hQ hw dX4_waysOver_51
  · obtain ⟨l3_9, l5_10, l6_11⟩ := s
    show Rn x 0 0 11 [(0, rf x.w (some l0)), (1, .int l1), (3, .long l3_9), (5, .int l5_10), (6, .int l6_11)] [] h
    have hw : wpO (sX4_waysOver_L11 F l0 l1 l3_9 l5_10 l6_11 h) _ := hw
    unfold sX4_waysOver_L11 at hw
    refine R_iload (q := 4) (i := 6) (v := l6_11) hc dX4_waysOver_11 rfl ?_
    refine R_if_le (tgt := 50) hc dX4_waysOver_13 (by decide) hw (fun hw => ?_) (fun hw => ?_)
    · refine R_sub hc [2] rfl ?_
      exact (wpO_some hw :)
    · refine R_lload_n (q := 2) (i := 3) (v := l3_9) hc dX4_waysOver_16 rfl rfl ?_
      refine R_aload_n (q := 0) (i := 0) (v := (some l0)) hc dX4_waysOver_17 rfl rfl ?_
      refine R_getR hc fl_4_36 dX4_waysOver_18 hw (fun t2 hw => ?_)
      refine R_iload_n (q := 1) (i := 1) (v := l1) hc dX4_waysOver_21 rfl rfl ?_
      refine R_bipush (v := (32 : Int32)) hc dX4_waysOver_22 kB_32 ?_
      refine R_imul hc dX4_waysOver_24 ?_
      refine R_iload (q := 3) (i := 5) (v := l5_10) hc dX4_waysOver_25 rfl ?_
      refine R_cNI (As := [.int l5_10]) (rest := [.int (l1 * (32 : Int32)), rf x.w t2, .long l3_9]) hc mn_4_104 mf_X10_lowestBit ⟨rfl, rfl⟩ ⟨le_b rfl, le_b rfl⟩ ⟨Nat.zero_le _, Nat.zero_le _⟩ (fun v e => mt_X10_lowestBit e) rfl rfl (by simp [rf_cat, cat_i, cat_l, cat_a]) dX4_waysOver_27 hw (fun t3 hw => ?_)
      refine R_iadd hc dX4_waysOver_30 ?_
      refine R_iaload hc dX4_waysOver_31 hw (fun t4 hw => ?_)
      refine R_i2l hc dX4_waysOver_32 ?_
      refine R_ladd hc dX4_waysOver_33 ?_
      refine R_nmJ hw (fun l3_5 hw => ?_)
      refine R_lstore_n (i := 3) (v := l3_5) hc [(3, .long l3_5), (0, rf x.w (some l0)), (1, .int l1), (5, .int l5_10), (6, .int l6_11)] dX4_waysOver_34 rfl (hnl 4 (le_b rfl)) rfl ?_
      refine R_iload (q := 3) (i := 5) (v := l5_10) hc dX4_waysOver_35 rfl ?_
      refine R_iload (q := 3) (i := 5) (v := l5_10) hc dX4_waysOver_37 rfl ?_
      refine R_iconst (v := (1 : Int32)) hc dX4_waysOver_39 kI_1 ?_
      refine R_isub hc dX4_waysOver_40 ?_
      refine R_iand hc dX4_waysOver_41 ?_
      refine R_nmI hw (fun l5_6 hw => ?_)
      refine R_istore (i := 5) (v := l5_6) hc [(5, .int l5_6), (3, .long l3_5), (0, rf x.w (some l0)), (1, .int l1), (6, .int l6_11)] dX4_waysOver_42 (hnl 5 (le_b rfl)) rfl ?_
      refine R_iinc (q := 4) (i := 6) (v := l6_11) hc [(6, .int (l6_11 + (-1 : Int32))), (5, .int l5_6), (3, .long l3_5), (0, rf x.w (some l0)), (1, .int l1)] dX4_waysOver_44 rfl (kC_m1 _) (hnl 6 (le_b rfl)) rfl ?_
      refine R_goto (tgt := 11) hc dX4_waysOver_47 (by decide) ?_
      refine R_sub hc [3, 4, 2, 1, 0] rfl ?_
      exact hX (l3_5, l5_6, l6_11 + (-1 : Int32)) (wpO_some hw :)
theorem dX1_breaksBetween_0 : decode cX1_breaksBetween 0 = .ok (.iconst 2, 1) := by decide +kernel
theorem dX1_breaksBetween_1 : decode cX1_breaksBetween 1 = .ok (.aload_n 0, 1) := by decide +kernel
theorem dX1_breaksBetween_2 : decode cX1_breaksBetween 2 = .ok (.getfield 24, 3) := by decide +kernel
theorem dX1_breaksBetween_5 : decode cX1_breaksBetween 5 = .ok (.iload_n 1, 1) := by decide +kernel
theorem dX1_breaksBetween_6 : decode cX1_breaksBetween 6 = .ok (.iaload, 1) := by decide +kernel
theorem dX1_breaksBetween_7 : decode cX1_breaksBetween 7 = .ok (.iload_n 2, 1) := by decide +kernel
theorem dX1_breaksBetween_8 : decode cX1_breaksBetween 8 = .ok (.iushr, 1) := by decide +kernel
theorem dX1_breaksBetween_9 : decode cX1_breaksBetween 9 = .ok (.iconst 1, 1) := by decide +kernel
theorem dX1_breaksBetween_10 : decode cX1_breaksBetween 10 = .ok (.iand, 1) := by decide +kernel
theorem dX1_breaksBetween_11 : decode cX1_breaksBetween 11 = .ok (.isub, 1) := by decide +kernel
theorem dX1_breaksBetween_12 : decode cX1_breaksBetween 12 = .ok (.aload_n 0, 1) := by decide +kernel
theorem dX1_breaksBetween_13 : decode cX1_breaksBetween 13 = .ok (.getfield 24, 3) := by decide +kernel
theorem dX1_breaksBetween_16 : decode cX1_breaksBetween 16 = .ok (.bipush 32, 2) := by decide +kernel
theorem dX1_breaksBetween_18 : decode cX1_breaksBetween 18 = .ok (.iload_n 1, 1) := by decide +kernel
theorem dX1_breaksBetween_19 : decode cX1_breaksBetween 19 = .ok (.iadd, 1) := by decide +kernel
theorem dX1_breaksBetween_20 : decode cX1_breaksBetween 20 = .ok (.iaload, 1) := by decide +kernel
theorem dX1_breaksBetween_21 : decode cX1_breaksBetween 21 = .ok (.iload_n 2, 1) := by decide +kernel
theorem dX1_breaksBetween_22 : decode cX1_breaksBetween 22 = .ok (.iushr, 1) := by decide +kernel
theorem dX1_breaksBetween_23 : decode cX1_breaksBetween 23 = .ok (.iconst 1, 1) := by decide +kernel
theorem dX1_breaksBetween_24 : decode cX1_breaksBetween 24 = .ok (.iand, 1) := by decide +kernel
theorem dX1_breaksBetween_25 : decode cX1_breaksBetween 25 = .ok (.isub, 1) := by decide +kernel
theorem dX1_breaksBetween_26 : decode cX1_breaksBetween 26 = .ok (.ireturn, 1) := by decide +kernel
def sX1_breaksBetween (F : Nat) (l0 : Nat) (l1 : Int32) (l2 : Int32) (h : HP) : Option Int32 :=
  (gR h 1 (some l0) 11).bind fun t1 =>
  (aI h 13 t1 l1).bind fun t2 =>
  (gR h 1 (some l0) 11).bind fun t3 =>
  (aI h 13 t3 ((32 : Int32) + l1)).bind fun t4 =>
  some (((2 : Int32) - ((jush t2 l2) &&& (1 : Int32))) - ((jush t4 l2) &&& (1 : Int32)))
abbrev rm_X1_breaksBetween : Room := { frames := 0, cells := 0, slots := 0, locals := 0 }
set_option maxRecDepth 100000 in
set_option maxHeartbeats 4000000 in
theorem mt_X1_breaksBetween {w : WD} {l : Launch} {F : Nat} {l0 : Nat} {l1 : Int32} {l2 : Int32} {h : HP} {v : Int32} (hs : sX1_breaksBetween F l0 l1 l2 h = some v) : MI w l yX1_breaksBetween cX1_breaksBetween 3 .int rm_X1_breaksBetween 0 0 [rf w (some l0), .int l1, .int l2] h v h := by
  refine of_body [(0, rf w (some l0)), (1, .int l1), (2, .int l2)] (by decide) (by simp [lg_sl, rf_cat, cat_i, cat_l, cat_a]) (by simp [lv_args, rf_cat, cat_i, cat_l, cat_a]) ?_
  intro x hw_ hnL_ hl_ hc hret hnm hQ
  subst hw_; subst hl_
  have hnl : ∀ i, i < 3 → i < x.nL := fun i h => by rw [hnL_]; exact h
  have hw : wpO (sX1_breaksBetween F l0 l1 l2 h) (fun r => r = v) := ⟨_, hs, rfl⟩
  unfold sX1_breaksBetween at hw
  refine R_iconst (v := (2 : Int32)) hc dX1_breaksBetween_0 kI_2 ?_
  refine R_aload_n (q := 0) (i := 0) (v := (some l0)) hc dX1_breaksBetween_1 rfl rfl ?_
  refine R_getR hc fl_1_24 dX1_breaksBetween_2 hw (fun t1 hw => ?_)
  refine R_iload_n (q := 1) (i := 1) (v := l1) hc dX1_breaksBetween_5 rfl rfl ?_
  refine R_iaload hc dX1_breaksBetween_6 hw (fun t2 hw => ?_)
  refine R_iload_n (q := 2) (i := 2) (v := l2) hc dX1_breaksBetween_7 rfl rfl ?_
  refine R_iushr hc dX1_breaksBetween_8 ?_
  refine R_iconst (v := (1 : Int32)) hc dX1_breaksBetween_9 kI_1 ?_
  refine R_iand hc dX1_breaksBetween_10 ?_
  refine R_isub hc dX1_breaksBetween_11 ?_
  refine R_aload_n (q := 0) (i := 0) (v := (some l0)) hc dX1_breaksBetween_12 rfl rfl ?_
  refine R_getR hc fl_1_24 dX1_breaksBetween_13 hw (fun t3 hw => ?_)
  refine R_bipush (v := (32 : Int32)) hc dX1_breaksBetween_16 kB_32 ?_
  refine R_iload_n (q := 1) (i := 1) (v := l1) hc dX1_breaksBetween_18 rfl rfl ?_
  refine R_iadd hc dX1_breaksBetween_19 ?_
  refine R_iaload hc dX1_breaksBetween_20 hw (fun t4 hw => ?_)
  refine R_iload_n (q := 2) (i := 2) (v := l2) hc dX1_breaksBetween_21 rfl rfl ?_
  refine R_iushr hc dX1_breaksBetween_22 ?_
  refine R_iconst (v := (1 : Int32)) hc dX1_breaksBetween_23 kI_1 ?_
  refine R_iand hc dX1_breaksBetween_24 ?_
  refine R_isub hc dX1_breaksBetween_25 ?_
  exact R_ireturnP hc hret rfl hQ hw dX1_breaksBetween_26
theorem dX4_calmOver_0 : decode cX4_calmOver 0 = .ok (.sipush 1000, 3) := by decide +kernel
theorem dX4_calmOver_3 : decode cX4_calmOver 3 = .ok (.istore 4, 2) := by decide +kernel
theorem dX4_calmOver_5 : decode cX4_calmOver 5 = .ok (.iload_n 2, 1) := by decide +kernel
theorem dX4_calmOver_6 : decode cX4_calmOver 6 = .ok (.istore 5, 2) := by decide +kernel
theorem dX4_calmOver_8 : decode cX4_calmOver 8 = .ok (.iload_n 2, 1) := by decide +kernel
theorem dX4_calmOver_9 : decode cX4_calmOver 9 = .ok (.invokestatic 99, 3) := by decide +kernel
theorem dX4_calmOver_12 : decode cX4_calmOver 12 = .ok (.istore 6, 2) := by decide +kernel
theorem dX4_calmOver_14 : decode cX4_calmOver 14 = .ok (.iload 6, 2) := by decide +kernel
theorem dX4_calmOver_16 : decode cX4_calmOver 16 = .ok (.ifCond .le 55, 3) := by decide +kernel
theorem dX4_calmOver_19 : decode cX4_calmOver 19 = .ok (.iload 5, 2) := by decide +kernel
theorem dX4_calmOver_21 : decode cX4_calmOver 21 = .ok (.invokestatic 104, 3) := by decide +kernel
theorem dX4_calmOver_24 : decode cX4_calmOver 24 = .ok (.istore 7, 2) := by decide +kernel
theorem dX4_calmOver_26 : decode cX4_calmOver 26 = .ok (.iload 4, 2) := by decide +kernel
theorem dX4_calmOver_28 : decode cX4_calmOver 28 = .ok (.aload_n 0, 1) := by decide +kernel
theorem dX4_calmOver_29 : decode cX4_calmOver 29 = .ok (.getfield 12, 3) := by decide +kernel
theorem dX4_calmOver_32 : decode cX4_calmOver 32 = .ok (.iload_n 3, 1) := by decide +kernel
theorem dX4_calmOver_33 : decode cX4_calmOver 33 = .ok (.iload 7, 2) := by decide +kernel
theorem dX4_calmOver_35 : decode cX4_calmOver 35 = .ok (.invokevirtual 107, 3) := by decide +kernel
theorem dX4_calmOver_38 : decode cX4_calmOver 38 = .ok (.aload_n 0, 1) := by decide +kernel
theorem dX4_calmOver_39 : decode cX4_calmOver 39 = .ok (.getfield 39, 3) := by decide +kernel
theorem dX4_calmOver_42 : decode cX4_calmOver 42 = .ok (.iload_n 1, 1) := by decide +kernel
theorem dX4_calmOver_43 : decode cX4_calmOver 43 = .ok (.bipush 32, 2) := by decide +kernel
theorem dX4_calmOver_45 : decode cX4_calmOver 45 = .ok (.imul, 1) := by decide +kernel
theorem dX4_calmOver_46 : decode cX4_calmOver 46 = .ok (.iload 7, 2) := by decide +kernel
theorem dX4_calmOver_48 : decode cX4_calmOver 48 = .ok (.iadd, 1) := by decide +kernel
theorem dX4_calmOver_49 : decode cX4_calmOver 49 = .ok (.iaload, 1) := by decide +kernel
theorem dX4_calmOver_50 : decode cX4_calmOver 50 = .ok (.iadd, 1) := by decide +kernel
theorem dX4_calmOver_51 : decode cX4_calmOver 51 = .ok (.invokestatic 76, 3) := by decide +kernel
theorem dX4_calmOver_54 : decode cX4_calmOver 54 = .ok (.istore 4, 2) := by decide +kernel
theorem dX4_calmOver_56 : decode cX4_calmOver 56 = .ok (.iload 5, 2) := by decide +kernel
theorem dX4_calmOver_58 : decode cX4_calmOver 58 = .ok (.iload 5, 2) := by decide +kernel
theorem dX4_calmOver_60 : decode cX4_calmOver 60 = .ok (.iconst 1, 1) := by decide +kernel
theorem dX4_calmOver_61 : decode cX4_calmOver 61 = .ok (.isub, 1) := by decide +kernel
theorem dX4_calmOver_62 : decode cX4_calmOver 62 = .ok (.iand, 1) := by decide +kernel
theorem dX4_calmOver_63 : decode cX4_calmOver 63 = .ok (.istore 5, 2) := by decide +kernel
theorem dX4_calmOver_65 : decode cX4_calmOver 65 = .ok (.iinc 6 (-1), 3) := by decide +kernel
theorem dX4_calmOver_68 : decode cX4_calmOver 68 = .ok (.goto (-54), 3) := by decide +kernel
theorem dX4_calmOver_71 : decode cX4_calmOver 71 = .ok (.iload 4, 2) := by decide +kernel
theorem dX4_calmOver_73 : decode cX4_calmOver 73 = .ok (.ireturn, 1) := by decide +kernel
def sX4_calmOver_L14 (F : Nat) (l0 : Nat) (l1 : Int32) (l3 : Int32) (l4 : Int32) (l5 : Int32) (l6 : Int32) (h : HP) : Option ((Int32 × Int32 × Int32) ⊕ Int32) :=
  if l6 ≤ 0 then
    some (.inr l4)
  else
    (sX10_lowestBit F l5 h).bind fun t2 =>
    (gR h 4 (some l0) 0).bind fun t3 =>
    (dO h 1 t3).bind fun a4 =>
    (sX1_breaksBetween F a4 l3 t2 h).bind fun t5 =>
    (gR h 4 (some l0) 6).bind fun t6 =>
    (aI h 13 t6 ((l1 * (32 : Int32)) + t2)).bind fun t7 =>
    nmI (jmn l4 (t5 + t7)) fun l4_8 =>
    nmI (l5 &&& (l5 - (1 : Int32))) fun l5_9 =>
    some (.inl (l4_8, l5_9, l6 + (-1 : Int32)))
def sX4_calmOver (F : Nat) (l0 : Nat) (l1 : Int32) (l2 : Int32) (l3 : Int32) (h : HP) : Option Int32 :=
  (sJ6_bitCount_0f7a4 F l2 h).bind fun t1 =>
  (iter (fun s => sX4_calmOver_L14 F l0 l1 l3 s.1 s.2.1 s.2.2 h) F ((1000 : Int32), l2, t1)).bind fun l4_10 =>
    some l4_10
abbrev rm_X4_calmOver : Room := { frames := 2, cells := 0, slots := 0, locals := 40 }
set_option maxRecDepth 100000 in
set_option maxHeartbeats 4000000 in
theorem mt_X4_calmOver {w : WD} {l : Launch} {F : Nat} {l0 : Nat} {l1 : Int32} {l2 : Int32} {l3 : Int32} {h : HP} {v : Int32} (hs : sX4_calmOver F l0 l1 l2 l3 h = some v) : MI w l yX4_calmOver cX4_calmOver 8 .int rm_X4_calmOver 0 0 [rf w (some l0), .int l1, .int l2, .int l3] h v h := by
  refine of_body [(0, rf w (some l0)), (1, .int l1), (2, .int l2), (3, .int l3)] (by decide) (by simp [lg_sl, rf_cat, cat_i, cat_l, cat_a]) (by simp [lv_args, rf_cat, cat_i, cat_l, cat_a]) ?_
  intro x hw_ hnL_ hl_ hc hret hnm hQ
  subst hw_; subst hl_
  have hnl : ∀ i, i < 8 → i < x.nL := fun i h => by rw [hnL_]; exact h
  have hw : wpO (sX4_calmOver F l0 l1 l2 l3 h) (fun r => r = v) := ⟨_, hs, rfl⟩
  unfold sX4_calmOver at hw
  refine R_sipush (v := (1000 : Int32)) hc dX4_calmOver_0 kS_1000 ?_
  refine R_istore (i := 4) (v := (1000 : Int32)) hc [(4, .int (1000 : Int32)), (0, rf x.w (some l0)), (1, .int l1), (2, .int l2), (3, .int l3)] dX4_calmOver_3 (hnl 4 (le_b rfl)) rfl ?_
  refine R_iload_n (q := 3) (i := 2) (v := l2) hc dX4_calmOver_5 rfl rfl ?_
  refine R_istore (i := 5) (v := l2) hc [(5, .int l2), (4, .int (1000 : Int32)), (0, rf x.w (some l0)), (1, .int l1), (2, .int l2), (3, .int l3)] dX4_calmOver_6 (hnl 5 (le_b rfl)) rfl ?_
  refine R_iload_n (q := 4) (i := 2) (v := l2) hc dX4_calmOver_8 rfl rfl ?_
  refine R_cSI (As := [.int l2]) (rest := []) hc ml_4_99 mf_J6_bitCount_0f7a4 ⟨rfl, rfl⟩ ⟨le_b rfl, le_b rfl⟩ ⟨Nat.zero_le _, Nat.zero_le _⟩ (fun v e => mt_J6_bitCount_0f7a4 e) rfl rfl (Nat.zero_le _) dX4_calmOver_9 hw (fun t1 hw => ?_)
  refine R_istore (i := 6) (v := t1) hc [(6, .int t1), (5, .int l2), (4, .int (1000 : Int32)), (0, rf x.w (some l0)), (1, .int l1), (2, .int l2), (3, .int l3)] dX4_calmOver_12 (hnl 6 (le_b rfl)) rfl ?_
  refine R_sub hc [3, 4, 6, 2, 1, 0] rfl ?_
  refine R_loop (P := fun (s : (Int32 × Int32 × Int32)) => Rn x 0 0 14 [(0, rf x.w (some l0)), (1, .int l1), (3, .int l3), (4, .int s.1), (5, .int s.2.1), (6, .int s.2.2)] [] h) (fun l4_10 => Rn x 0 0 71 [(4, .int l4_10)] [] h) hw (fun r hw => ?_) (fun X hX s hw => ?_)
  · revert r hw
    intro l4_10 hw
    show Rn x 0 0 71 [(4, .int l4_10)] [] h
    refine R_iload (q := 0) (i := 4) (v := l4_10) hc dX4_calmOver_71 rfl ?_
    exact R_ireturnP hc hret rfl hQ hw dX4_calmOver_73
  · obtain ⟨l4_12, l5_13, l6_14⟩ := s
    show Rn x 0 0 14 [(0, rf x.w (some l0)), (1, .int l1), (3, .int l3), (4, .int l4_12), (5, .int l5_13), (6, .int l6_14)] [] h
    have hw : wpO (sX4_calmOver_L14 F l0 l1 l3 l4_12 l5_13 l6_14 h) _ := hw
    unfold sX4_calmOver_L14 at hw
    refine R_iload (q := 5) (i := 6) (v := l6_14) hc dX4_calmOver_14 rfl ?_
    refine R_if_le (tgt := 71) hc dX4_calmOver_16 (by decide) hw (fun hw => ?_) (fun hw => ?_)
    · refine R_sub hc [3] rfl ?_
      exact (wpO_some hw :)
    · refine R_iload (q := 4) (i := 5) (v := l5_13) hc dX4_calmOver_19 rfl ?_
      refine R_cNI (As := [.int l5_13]) (rest := []) hc mn_4_104 mf_X10_lowestBit ⟨rfl, rfl⟩ ⟨le_b rfl, le_b rfl⟩ ⟨Nat.zero_le _, Nat.zero_le _⟩ (fun v e => mt_X10_lowestBit e) rfl rfl (Nat.zero_le _) dX4_calmOver_21 hw (fun t2 hw => ?_)
      refine R_istore (i := 7) (v := t2) hc [(7, .int t2), (0, rf x.w (some l0)), (1, .int l1), (3, .int l3), (4, .int l4_12), (5, .int l5_13), (6, .int l6_14)] dX4_calmOver_24 (hnl 7 (le_b rfl)) rfl ?_
      refine R_iload (q := 4) (i := 4) (v := l4_12) hc dX4_calmOver_26 rfl ?_
      refine R_aload_n (q := 1) (i := 0) (v := (some l0)) hc dX4_calmOver_28 rfl rfl ?_
      refine R_getR hc fl_4_12 dX4_calmOver_29 hw (fun t3 hw => ?_)
      refine R_iload_n (q := 3) (i := 3) (v := l3) hc dX4_calmOver_32 rfl rfl ?_
      refine R_iload (q := 0) (i := 7) (v := t2) hc dX4_calmOver_33 rfl ?_
      refine R_cVI (As := [.int l3, .int t2]) (rest := [.int l4_12]) (r := t3) (ci := 1) hc ml_4_107 mf_X1_breaksBetween rfl (by decide) ⟨rfl, rfl⟩ ⟨le_b rfl, le_b rfl⟩ ⟨Nat.zero_le _, Nat.zero_le _⟩ (fun a v e => mt_X1_breaksBetween e) rfl rfl (le_b rfl) dX4_calmOver_35 hw (fun t5 hw => ?_)
      refine R_aload_n (q := 1) (i := 0) (v := (some l0)) hc dX4_calmOver_38 rfl rfl ?_
      refine R_getR hc fl_4_39 dX4_calmOver_39 hw (fun t6 hw => ?_)
      refine R_iload_n (q := 2) (i := 1) (v := l1) hc dX4_calmOver_42 rfl rfl ?_
      refine R_bipush (v := (32 : Int32)) hc dX4_calmOver_43 kB_32 ?_
      refine R_imul hc dX4_calmOver_45 ?_
      refine R_iload (q := 0) (i := 7) (v := t2) hc dX4_calmOver_46 rfl ?_
      refine R_iadd hc dX4_calmOver_48 ?_
      refine R_iaload hc dX4_calmOver_49 hw (fun t7 hw => ?_)
      refine R_iadd hc dX4_calmOver_50 ?_
      refine R_jmn hc ml_4_76 (le_b rfl) (le_b rfl) ⟨Nat.zero_le _, Nat.zero_le _⟩ dX4_calmOver_51 ?_
      refine R_nmI hw (fun l4_8 hw => ?_)
      refine R_istore (i := 4) (v := l4_8) hc [(4, .int l4_8), (7, .int t2), (0, rf x.w (some l0)), (1, .int l1), (3, .int l3), (5, .int l5_13), (6, .int l6_14)] dX4_calmOver_54 (hnl 4 (le_b rfl)) rfl ?_
      refine R_iload (q := 5) (i := 5) (v := l5_13) hc dX4_calmOver_56 rfl ?_
      refine R_iload (q := 5) (i := 5) (v := l5_13) hc dX4_calmOver_58 rfl ?_
      refine R_iconst (v := (1 : Int32)) hc dX4_calmOver_60 kI_1 ?_
      refine R_isub hc dX4_calmOver_61 ?_
      refine R_iand hc dX4_calmOver_62 ?_
      refine R_nmI hw (fun l5_9 hw => ?_)
      refine R_istore (i := 5) (v := l5_9) hc [(5, .int l5_9), (4, .int l4_8), (7, .int t2), (0, rf x.w (some l0)), (1, .int l1), (3, .int l3), (6, .int l6_14)] dX4_calmOver_63 (hnl 5 (le_b rfl)) rfl ?_
      refine R_iinc (q := 6) (i := 6) (v := l6_14) hc [(6, .int (l6_14 + (-1 : Int32))), (5, .int l5_9), (4, .int l4_8), (7, .int t2), (0, rf x.w (some l0)), (1, .int l1), (3, .int l3)] dX4_calmOver_65 rfl (kC_m1 _) (hnl 6 (le_b rfl)) rfl ?_
      refine R_goto (tgt := 14) hc dX4_calmOver_68 (by decide) ?_
      refine R_sub hc [4, 5, 6, 2, 1, 0] rfl ?_
      exact hX (l4_8, l5_9, l6_14 + (-1 : Int32)) (wpO_some hw :)
theorem dX1_meetingAtAll_0 : decode cX1_meetingAtAll 0 = .ok (.aload_n 0, 1) := by decide +kernel
theorem dX1_meetingAtAll_1 : decode cX1_meetingAtAll 1 = .ok (.getfield 24, 3) := by decide +kernel
theorem dX1_meetingAtAll_4 : decode cX1_meetingAtAll 4 = .ok (.iload_n 1, 1) := by decide +kernel
theorem dX1_meetingAtAll_5 : decode cX1_meetingAtAll 5 = .ok (.iaload, 1) := by decide +kernel
theorem dX1_meetingAtAll_6 : decode cX1_meetingAtAll 6 = .ok (.aload_n 0, 1) := by decide +kernel
theorem dX1_meetingAtAll_7 : decode cX1_meetingAtAll 7 = .ok (.getfield 24, 3) := by decide +kernel
theorem dX1_meetingAtAll_10 : decode cX1_meetingAtAll 10 = .ok (.bipush 32, 2) := by decide +kernel
theorem dX1_meetingAtAll_12 : decode cX1_meetingAtAll 12 = .ok (.iload_n 1, 1) := by decide +kernel
theorem dX1_meetingAtAll_13 : decode cX1_meetingAtAll 13 = .ok (.iadd, 1) := by decide +kernel
theorem dX1_meetingAtAll_14 : decode cX1_meetingAtAll 14 = .ok (.iaload, 1) := by decide +kernel
theorem dX1_meetingAtAll_15 : decode cX1_meetingAtAll 15 = .ok (.ior, 1) := by decide +kernel
theorem dX1_meetingAtAll_16 : decode cX1_meetingAtAll 16 = .ok (.ireturn, 1) := by decide +kernel
def sX1_meetingAtAll (F : Nat) (l0 : Nat) (l1 : Int32) (h : HP) : Option Int32 :=
  (gR h 1 (some l0) 11).bind fun t1 =>
  (aI h 13 t1 l1).bind fun t2 =>
  (gR h 1 (some l0) 11).bind fun t3 =>
  (aI h 13 t3 ((32 : Int32) + l1)).bind fun t4 =>
  some (t2 ||| t4)
abbrev rm_X1_meetingAtAll : Room := { frames := 0, cells := 0, slots := 0, locals := 0 }
set_option maxRecDepth 100000 in
set_option maxHeartbeats 4000000 in
theorem mt_X1_meetingAtAll {w : WD} {l : Launch} {F : Nat} {l0 : Nat} {l1 : Int32} {h : HP} {v : Int32} (hs : sX1_meetingAtAll F l0 l1 h = some v) : MI w l yX1_meetingAtAll cX1_meetingAtAll 2 .int rm_X1_meetingAtAll 0 0 [rf w (some l0), .int l1] h v h := by
  refine of_body [(0, rf w (some l0)), (1, .int l1)] (by decide) (by simp [lg_sl, rf_cat, cat_i, cat_l, cat_a]) (by simp [lv_args, rf_cat, cat_i, cat_l, cat_a]) ?_
  intro x hw_ hnL_ hl_ hc hret hnm hQ
  subst hw_; subst hl_
  have hnl : ∀ i, i < 2 → i < x.nL := fun i h => by rw [hnL_]; exact h
  have hw : wpO (sX1_meetingAtAll F l0 l1 h) (fun r => r = v) := ⟨_, hs, rfl⟩
  unfold sX1_meetingAtAll at hw
  refine R_aload_n (q := 0) (i := 0) (v := (some l0)) hc dX1_meetingAtAll_0 rfl rfl ?_
  refine R_getR hc fl_1_24 dX1_meetingAtAll_1 hw (fun t1 hw => ?_)
  refine R_iload_n (q := 1) (i := 1) (v := l1) hc dX1_meetingAtAll_4 rfl rfl ?_
  refine R_iaload hc dX1_meetingAtAll_5 hw (fun t2 hw => ?_)
  refine R_aload_n (q := 0) (i := 0) (v := (some l0)) hc dX1_meetingAtAll_6 rfl rfl ?_
  refine R_getR hc fl_1_24 dX1_meetingAtAll_7 hw (fun t3 hw => ?_)
  refine R_bipush (v := (32 : Int32)) hc dX1_meetingAtAll_10 kB_32 ?_
  refine R_iload_n (q := 1) (i := 1) (v := l1) hc dX1_meetingAtAll_12 rfl rfl ?_
  refine R_iadd hc dX1_meetingAtAll_13 ?_
  refine R_iaload hc dX1_meetingAtAll_14 hw (fun t4 hw => ?_)
  refine R_ior hc dX1_meetingAtAll_15 ?_
  exact R_ireturnP hc hret rfl hQ hw dX1_meetingAtAll_16
theorem dX4_weigh_0 : decode cX4_weigh 0 = .ok (.iload_n 1, 1) := by decide +kernel
theorem dX4_weigh_1 : decode cX4_weigh 1 = .ok (.bipush 32, 2) := by decide +kernel
theorem dX4_weigh_3 : decode cX4_weigh 3 = .ok (.imul, 1) := by decide +kernel
theorem dX4_weigh_4 : decode cX4_weigh 4 = .ok (.iload_n 2, 1) := by decide +kernel
theorem dX4_weigh_5 : decode cX4_weigh 5 = .ok (.iadd, 1) := by decide +kernel
theorem dX4_weigh_6 : decode cX4_weigh 6 = .ok (.istore_n 3, 1) := by decide +kernel
theorem dX4_weigh_7 : decode cX4_weigh 7 = .ok (.iload_n 1, 1) := by decide +kernel
theorem dX4_weigh_8 : decode cX4_weigh 8 = .ok (.iload_n 2, 1) := by decide +kernel
theorem dX4_weigh_9 : decode cX4_weigh 9 = .ok (.iconst 4, 1) := by decide +kernel
theorem dX4_weigh_10 : decode cX4_weigh 10 = .ok (.idiv, 1) := by decide +kernel
theorem dX4_weigh_11 : decode cX4_weigh 11 = .ok (.invokestatic 82, 3) := by decide +kernel
theorem dX4_weigh_14 : decode cX4_weigh 14 = .ok (.istore 4, 2) := by decide +kernel
theorem dX4_weigh_16 : decode cX4_weigh 16 = .ok (.aload_n 0, 1) := by decide +kernel
theorem dX4_weigh_17 : decode cX4_weigh 17 = .ok (.getfield 21, 3) := by decide +kernel
theorem dX4_weigh_20 : decode cX4_weigh 20 = .ok (.getfield 69, 3) := by decide +kernel
theorem dX4_weigh_23 : decode cX4_weigh 23 = .ok (.iload 4, 2) := by decide +kernel
theorem dX4_weigh_25 : decode cX4_weigh 25 = .ok (.iaload, 1) := by decide +kernel
theorem dX4_weigh_26 : decode cX4_weigh 26 = .ok (.istore 5, 2) := by decide +kernel
theorem dX4_weigh_28 : decode cX4_weigh 28 = .ok (.aload_n 0, 1) := by decide +kernel
theorem dX4_weigh_29 : decode cX4_weigh 29 = .ok (.getfield 12, 3) := by decide +kernel
theorem dX4_weigh_32 : decode cX4_weigh 32 = .ok (.iload_n 2, 1) := by decide +kernel
theorem dX4_weigh_33 : decode cX4_weigh 33 = .ok (.invokevirtual 85, 3) := by decide +kernel
theorem dX4_weigh_36 : decode cX4_weigh 36 = .ok (.istore 6, 2) := by decide +kernel
theorem dX4_weigh_38 : decode cX4_weigh 38 = .ok (.iload 4, 2) := by decide +kernel
theorem dX4_weigh_40 : decode cX4_weigh 40 = .ok (.ifCond .ne 20, 3) := by decide +kernel
theorem dX4_weigh_43 : decode cX4_weigh 43 = .ok (.aload_n 0, 1) := by decide +kernel
theorem dX4_weigh_44 : decode cX4_weigh 44 = .ok (.getfield 36, 3) := by decide +kernel
theorem dX4_weigh_47 : decode cX4_weigh 47 = .ok (.iload_n 3, 1) := by decide +kernel
theorem dX4_weigh_48 : decode cX4_weigh 48 = .ok (.iconst 1, 1) := by decide +kernel
theorem dX4_weigh_49 : decode cX4_weigh 49 = .ok (.iastore, 1) := by decide +kernel
theorem dX4_weigh_50 : decode cX4_weigh 50 = .ok (.aload_n 0, 1) := by decide +kernel
theorem dX4_weigh_51 : decode cX4_weigh 51 = .ok (.getfield 39, 3) := by decide +kernel
theorem dX4_weigh_54 : decode cX4_weigh 54 = .ok (.iload_n 3, 1) := by decide +kernel
theorem dX4_weigh_55 : decode cX4_weigh 55 = .ok (.iconst 0, 1) := by decide +kernel
theorem dX4_weigh_56 : decode cX4_weigh 56 = .ok (.iastore, 1) := by decide +kernel
theorem dX4_weigh_57 : decode cX4_weigh 57 = .ok (.goto 127, 3) := by decide +kernel
theorem dX4_weigh_60 : decode cX4_weigh 60 = .ok (.iload 5, 2) := by decide +kernel
theorem dX4_weigh_62 : decode cX4_weigh 62 = .ok (.iload 6, 2) := by decide +kernel
theorem dX4_weigh_64 : decode cX4_weigh 64 = .ok (.iand, 1) := by decide +kernel
theorem dX4_weigh_65 : decode cX4_weigh 65 = .ok (.ifCond .eq 42, 3) := by decide +kernel
theorem dX4_weigh_68 : decode cX4_weigh 68 = .ok (.aload_n 0, 1) := by decide +kernel
theorem dX4_weigh_69 : decode cX4_weigh 69 = .ok (.getfield 36, 3) := by decide +kernel
theorem dX4_weigh_72 : decode cX4_weigh 72 = .ok (.iload_n 3, 1) := by decide +kernel
theorem dX4_weigh_73 : decode cX4_weigh 73 = .ok (.aload_n 0, 1) := by decide +kernel
theorem dX4_weigh_74 : decode cX4_weigh 74 = .ok (.iload 4, 2) := by decide +kernel
theorem dX4_weigh_76 : decode cX4_weigh 76 = .ok (.iload 5, 2) := by decide +kernel
theorem dX4_weigh_78 : decode cX4_weigh 78 = .ok (.iload 6, 2) := by decide +kernel
theorem dX4_weigh_80 : decode cX4_weigh 80 = .ok (.iand, 1) := by decide +kernel
theorem dX4_weigh_81 : decode cX4_weigh 81 = .ok (.invokevirtual 72, 3) := by decide +kernel
theorem dX4_weigh_84 : decode cX4_weigh 84 = .ok (.l2i, 1) := by decide +kernel
theorem dX4_weigh_85 : decode cX4_weigh 85 = .ok (.iastore, 1) := by decide +kernel
theorem dX4_weigh_86 : decode cX4_weigh 86 = .ok (.aload_n 0, 1) := by decide +kernel
theorem dX4_weigh_87 : decode cX4_weigh 87 = .ok (.getfield 39, 3) := by decide +kernel
theorem dX4_weigh_90 : decode cX4_weigh 90 = .ok (.iload_n 3, 1) := by decide +kernel
theorem dX4_weigh_91 : decode cX4_weigh 91 = .ok (.aload_n 0, 1) := by decide +kernel
theorem dX4_weigh_92 : decode cX4_weigh 92 = .ok (.iload 4, 2) := by decide +kernel
theorem dX4_weigh_94 : decode cX4_weigh 94 = .ok (.iload 5, 2) := by decide +kernel
theorem dX4_weigh_96 : decode cX4_weigh 96 = .ok (.iload 6, 2) := by decide +kernel
theorem dX4_weigh_98 : decode cX4_weigh 98 = .ok (.iand, 1) := by decide +kernel
theorem dX4_weigh_99 : decode cX4_weigh 99 = .ok (.iload_n 2, 1) := by decide +kernel
theorem dX4_weigh_100 : decode cX4_weigh 100 = .ok (.invokevirtual 89, 3) := by decide +kernel
theorem dX4_weigh_103 : decode cX4_weigh 103 = .ok (.iastore, 1) := by decide +kernel
theorem dX4_weigh_104 : decode cX4_weigh 104 = .ok (.goto 80, 3) := by decide +kernel
theorem dX4_weigh_107 : decode cX4_weigh 107 = .ok (.aload_n 0, 1) := by decide +kernel
theorem dX4_weigh_108 : decode cX4_weigh 108 = .ok (.getfield 21, 3) := by decide +kernel
theorem dX4_weigh_111 : decode cX4_weigh 111 = .ok (.getfield 93, 3) := by decide +kernel
theorem dX4_weigh_114 : decode cX4_weigh 114 = .ok (.iload 4, 2) := by decide +kernel
theorem dX4_weigh_116 : decode cX4_weigh 116 = .ok (.iaload, 1) := by decide +kernel
theorem dX4_weigh_117 : decode cX4_weigh 117 = .ok (.iload 6, 2) := by decide +kernel
theorem dX4_weigh_119 : decode cX4_weigh 119 = .ok (.iand, 1) := by decide +kernel
theorem dX4_weigh_120 : decode cX4_weigh 120 = .ok (.istore 7, 2) := by decide +kernel
theorem dX4_weigh_122 : decode cX4_weigh 122 = .ok (.aload_n 0, 1) := by decide +kernel
theorem dX4_weigh_123 : decode cX4_weigh 123 = .ok (.getfield 36, 3) := by decide +kernel
theorem dX4_weigh_126 : decode cX4_weigh 126 = .ok (.iload_n 3, 1) := by decide +kernel
theorem dX4_weigh_127 : decode cX4_weigh 127 = .ok (.aload_n 0, 1) := by decide +kernel
theorem dX4_weigh_128 : decode cX4_weigh 128 = .ok (.getfield 25, 3) := by decide +kernel
theorem dX4_weigh_131 : decode cX4_weigh 131 = .ok (.iload 4, 2) := by decide +kernel
theorem dX4_weigh_133 : decode cX4_weigh 133 = .ok (.laload, 1) := by decide +kernel
theorem dX4_weigh_134 : decode cX4_weigh 134 = .ok (.aload_n 0, 1) := by decide +kernel
theorem dX4_weigh_135 : decode cX4_weigh 135 = .ok (.iload 4, 2) := by decide +kernel
theorem dX4_weigh_137 : decode cX4_weigh 137 = .ok (.iload 7, 2) := by decide +kernel
theorem dX4_weigh_139 : decode cX4_weigh 139 = .ok (.invokevirtual 72, 3) := by decide +kernel
theorem dX4_weigh_142 : decode cX4_weigh 142 = .ok (.ladd, 1) := by decide +kernel
theorem dX4_weigh_143 : decode cX4_weigh 143 = .ok (.l2i, 1) := by decide +kernel
theorem dX4_weigh_144 : decode cX4_weigh 144 = .ok (.iastore, 1) := by decide +kernel
theorem dX4_weigh_145 : decode cX4_weigh 145 = .ok (.aload_n 0, 1) := by decide +kernel
theorem dX4_weigh_146 : decode cX4_weigh 146 = .ok (.getfield 39, 3) := by decide +kernel
theorem dX4_weigh_149 : decode cX4_weigh 149 = .ok (.iload_n 3, 1) := by decide +kernel
theorem dX4_weigh_150 : decode cX4_weigh 150 = .ok (.iconst 2, 1) := by decide +kernel
theorem dX4_weigh_151 : decode cX4_weigh 151 = .ok (.aload_n 0, 1) := by decide +kernel
theorem dX4_weigh_152 : decode cX4_weigh 152 = .ok (.getfield 29, 3) := by decide +kernel
theorem dX4_weigh_155 : decode cX4_weigh 155 = .ok (.iload 4, 2) := by decide +kernel
theorem dX4_weigh_157 : decode cX4_weigh 157 = .ok (.iaload, 1) := by decide +kernel
theorem dX4_weigh_158 : decode cX4_weigh 158 = .ok (.iadd, 1) := by decide +kernel
theorem dX4_weigh_159 : decode cX4_weigh 159 = .ok (.aload_n 0, 1) := by decide +kernel
theorem dX4_weigh_160 : decode cX4_weigh 160 = .ok (.iload 4, 2) := by decide +kernel
theorem dX4_weigh_162 : decode cX4_weigh 162 = .ok (.iload 5, 2) := by decide +kernel
theorem dX4_weigh_164 : decode cX4_weigh 164 = .ok (.aload_n 0, 1) := by decide +kernel
theorem dX4_weigh_165 : decode cX4_weigh 165 = .ok (.getfield 12, 3) := by decide +kernel
theorem dX4_weigh_168 : decode cX4_weigh 168 = .ok (.iload_n 2, 1) := by decide +kernel
theorem dX4_weigh_169 : decode cX4_weigh 169 = .ok (.invokevirtual 96, 3) := by decide +kernel
theorem dX4_weigh_172 : decode cX4_weigh 172 = .ok (.iand, 1) := by decide +kernel
theorem dX4_weigh_173 : decode cX4_weigh 173 = .ok (.iload 7, 2) := by decide +kernel
theorem dX4_weigh_175 : decode cX4_weigh 175 = .ok (.ior, 1) := by decide +kernel
theorem dX4_weigh_176 : decode cX4_weigh 176 = .ok (.iload_n 2, 1) := by decide +kernel
theorem dX4_weigh_177 : decode cX4_weigh 177 = .ok (.invokevirtual 89, 3) := by decide +kernel
theorem dX4_weigh_180 : decode cX4_weigh 180 = .ok (.invokestatic 76, 3) := by decide +kernel
theorem dX4_weigh_183 : decode cX4_weigh 183 = .ok (.iastore, 1) := by decide +kernel
theorem dX4_weigh_184 : decode cX4_weigh 184 = .ok (.return_, 1) := by decide +kernel
def sX4_weigh (F : Nat) (l0 : Nat) (l1 : Int32) (l2 : Int32) (h : HP) : Option HP :=
  nmI ((l1 * (32 : Int32)) + l2) fun l3_1 =>
  (sX10_without F l1 (l2 / (4 : Int32)) h).bind fun t2 =>
  (gR h 4 (some l0) 1).bind fun t3 =>
  (gR h 3 t3 1).bind fun t4 =>
  (aI h 13 t4 t2).bind fun t5 =>
  (gR h 4 (some l0) 0).bind fun t6 =>
  (dO h 1 t6).bind fun a7 =>
  (sX1_joining F a7 l2 h).bind fun t8 =>
  if ¬ t2 = 0 then
    if (t5 &&& t8) = 0 then
      (gR h 4 (some l0) 1).bind fun t9 =>
      (gR h 3 t9 2).bind fun t10 =>
      (aI h 13 t10 t2).bind fun t11 =>
      nmI (t11 &&& t8) fun l7_12 =>
      (gR h 4 (some l0) 5).bind fun t13 =>
      (gR h 4 (some l0) 2).bind fun t14 =>
      (aJ h t14 t2).bind fun t15 =>
      (dO h 4 (some l0)).bind fun a16 =>
      (sX4_waysOver F a16 t2 l7_12 h).bind fun t17 =>
      (sI h t13 l3_1 ((t15 + t17).toInt32)).bind fun h18 =>
      (gR h18 4 (some l0) 6).bind fun t19 =>
      (gR h18 4 (some l0) 3).bind fun t20 =>
      (aI h18 13 t20 t2).bind fun t21 =>
      (gR h18 4 (some l0) 0).bind fun t22 =>
      (dO h18 1 t22).bind fun a23 =>
      (sX1_meetingAtAll F a23 l2 h18).bind fun t24 =>
      (dO h18 4 (some l0)).bind fun a25 =>
      (sX4_calmOver F a25 t2 ((t5 &&& t24) ||| l7_12) l2 h18).bind fun t26 =>
      (sI h18 t19 l3_1 (jmn ((2 : Int32) + t21) t26)).bind fun h27 =>
      some h27
    else
      (gR h 4 (some l0) 5).bind fun t28 =>
      (dO h 4 (some l0)).bind fun a29 =>
      (sX4_waysOver F a29 t2 (t5 &&& t8) h).bind fun t30 =>
      (sI h t28 l3_1 t30.toInt32).bind fun h31 =>
      (gR h31 4 (some l0) 6).bind fun t32 =>
      (dO h31 4 (some l0)).bind fun a33 =>
      (sX4_calmOver F a33 t2 (t5 &&& t8) l2 h31).bind fun t34 =>
      (sI h31 t32 l3_1 t34).bind fun h35 =>
      some h35
  else
    (gR h 4 (some l0) 5).bind fun t36 =>
    (sI h t36 l3_1 (1 : Int32)).bind fun h37 =>
    (gR h37 4 (some l0) 6).bind fun t38 =>
    (sI h37 t38 l3_1 (0 : Int32)).bind fun h39 =>
    some h39
abbrev rm_X4_weigh : Room := { frames := 3, cells := 0, slots := 0, locals := 67 }
set_option maxRecDepth 100000 in
set_option maxHeartbeats 4000000 in
theorem mt_X4_weigh {w : WD} {l : Launch} {F : Nat} {l0 : Nat} {l1 : Int32} {l2 : Int32} {h : HP} {h' : HP} (hs : sX4_weigh F l0 l1 l2 h = some h') : MV w l yX4_weigh cX4_weigh 8 rm_X4_weigh 0 0 [rf w (some l0), .int l1, .int l2] h h' := by
  refine of_body [(0, rf w (some l0)), (1, .int l1), (2, .int l2)] (by decide) (by simp [lg_sl, rf_cat, cat_i, cat_l, cat_a]) (by simp [lv_args, rf_cat, cat_i, cat_l, cat_a]) ?_
  intro x hw_ hnL_ hl_ hc hret hnm hQ
  subst hw_; subst hl_
  have hnl : ∀ i, i < 8 → i < x.nL := fun i h => by rw [hnL_]; exact h
  have hw : wpO (sX4_weigh F l0 l1 l2 h) (fun r => r = h') := ⟨_, hs, rfl⟩
  unfold sX4_weigh at hw
  refine R_iload_n (q := 1) (i := 1) (v := l1) hc dX4_weigh_0 rfl rfl ?_
  refine R_bipush (v := (32 : Int32)) hc dX4_weigh_1 kB_32 ?_
  refine R_imul hc dX4_weigh_3 ?_
  refine R_iload_n (q := 2) (i := 2) (v := l2) hc dX4_weigh_4 rfl rfl ?_
  refine R_iadd hc dX4_weigh_5 ?_
  refine R_nmI hw (fun l3_1 hw => ?_)
  refine R_istore_n (i := 3) (v := l3_1) hc [(3, .int l3_1), (0, rf x.w (some l0)), (1, .int l1), (2, .int l2)] dX4_weigh_6 rfl (hnl 3 (le_b rfl)) rfl ?_
  refine R_iload_n (q := 2) (i := 1) (v := l1) hc dX4_weigh_7 rfl rfl ?_
  refine R_iload_n (q := 3) (i := 2) (v := l2) hc dX4_weigh_8 rfl rfl ?_
  refine R_iconst (v := (4 : Int32)) hc dX4_weigh_9 kI_4 ?_
  refine R_idivL hc dX4_weigh_10 (by decide) ?_
  refine R_cNI (As := [.int l1, .int (l2 / (4 : Int32))]) (rest := []) hc mn_4_82 mf_X10_without ⟨rfl, rfl⟩ ⟨le_b rfl, le_b rfl⟩ ⟨Nat.zero_le _, Nat.zero_le _⟩ (fun v e => mt_X10_without e) rfl rfl (Nat.zero_le _) dX4_weigh_11 hw (fun t2 hw => ?_)
  refine R_istore (i := 4) (v := t2) hc [(4, .int t2), (3, .int l3_1), (0, rf x.w (some l0)), (1, .int l1), (2, .int l2)] dX4_weigh_14 (hnl 4 (le_b rfl)) rfl ?_
  refine R_aload_n (q := 2) (i := 0) (v := (some l0)) hc dX4_weigh_16 rfl rfl ?_
  refine R_getR hc fl_4_21 dX4_weigh_17 hw (fun t3 hw => ?_)
  refine R_getR hc fl_4_69 dX4_weigh_20 hw (fun t4 hw => ?_)
  refine R_iload (q := 0) (i := 4) (v := t2) hc dX4_weigh_23 rfl ?_
  refine R_iaload hc dX4_weigh_25 hw (fun t5 hw => ?_)
  refine R_istore (i := 5) (v := t5) hc [(5, .int t5), (4, .int t2), (3, .int l3_1), (0, rf x.w (some l0)), (1, .int l1), (2, .int l2)] dX4_weigh_26 (hnl 5 (le_b rfl)) rfl ?_
  refine R_aload_n (q := 3) (i := 0) (v := (some l0)) hc dX4_weigh_28 rfl rfl ?_
  refine R_getR hc fl_4_12 dX4_weigh_29 hw (fun t6 hw => ?_)
  refine R_iload_n (q := 5) (i := 2) (v := l2) hc dX4_weigh_32 rfl rfl ?_
  refine R_cVI (As := [.int l2]) (rest := []) (r := t6) (ci := 1) hc ml_4_85 mf_X1_joining rfl (by decide) ⟨rfl, rfl⟩ ⟨le_b rfl, le_b rfl⟩ ⟨Nat.zero_le _, Nat.zero_le _⟩ (fun a v e => mt_X1_joining e) rfl rfl (Nat.zero_le _) dX4_weigh_33 hw (fun t8 hw => ?_)
  refine R_istore (i := 6) (v := t8) hc [(6, .int t8), (5, .int t5), (4, .int t2), (3, .int l3_1), (0, rf x.w (some l0)), (1, .int l1), (2, .int l2)] dX4_weigh_36 (hnl 6 (le_b rfl)) rfl ?_
  refine R_iload (q := 2) (i := 4) (v := t2) hc dX4_weigh_38 rfl ?_
  refine R_if_ne (tgt := 60) hc dX4_weigh_40 (by decide) hw (fun hw => ?_) (fun hw => ?_)
  · refine R_iload (q := 1) (i := 5) (v := t5) hc dX4_weigh_60 rfl ?_
    refine R_iload (q := 0) (i := 6) (v := t8) hc dX4_weigh_62 rfl ?_
    refine R_iand hc dX4_weigh_64 ?_
    refine R_if_eq (tgt := 107) hc dX4_weigh_65 (by decide) hw (fun hw => ?_) (fun hw => ?_)
    · refine R_aload_n (q := 4) (i := 0) (v := (some l0)) hc dX4_weigh_107 rfl rfl ?_
      refine R_getR hc fl_4_21 dX4_weigh_108 hw (fun t9 hw => ?_)
      refine R_getR hc fl_4_93 dX4_weigh_111 hw (fun t10 hw => ?_)
      refine R_iload (q := 2) (i := 4) (v := t2) hc dX4_weigh_114 rfl ?_
      refine R_iaload hc dX4_weigh_116 hw (fun t11 hw => ?_)
      refine R_iload (q := 0) (i := 6) (v := t8) hc dX4_weigh_117 rfl ?_
      refine R_iand hc dX4_weigh_119 ?_
      refine R_nmI hw (fun l7_12 hw => ?_)
      refine R_istore (i := 7) (v := l7_12) hc [(7, .int l7_12), (6, .int t8), (5, .int t5), (4, .int t2), (3, .int l3_1), (0, rf x.w (some l0)), (1, .int l1), (2, .int l2)] dX4_weigh_120 (hnl 7 (le_b rfl)) rfl ?_
      refine R_aload_n (q := 5) (i := 0) (v := (some l0)) hc dX4_weigh_122 rfl rfl ?_
      refine R_getR hc fl_4_36 dX4_weigh_123 hw (fun t13 hw => ?_)
      refine R_iload_n (q := 4) (i := 3) (v := l3_1) hc dX4_weigh_126 rfl rfl ?_
      refine R_aload_n (q := 5) (i := 0) (v := (some l0)) hc dX4_weigh_127 rfl rfl ?_
      refine R_getR hc fl_4_25 dX4_weigh_128 hw (fun t14 hw => ?_)
      refine R_iload (q := 3) (i := 4) (v := t2) hc dX4_weigh_131 rfl ?_
      refine R_laload hc dX4_weigh_133 hw (fun t15 hw => ?_)
      refine R_aload_n (q := 5) (i := 0) (v := (some l0)) hc dX4_weigh_134 rfl rfl ?_
      refine R_iload (q := 3) (i := 4) (v := t2) hc dX4_weigh_135 rfl ?_
      refine R_iload (q := 0) (i := 7) (v := l7_12) hc dX4_weigh_137 rfl ?_
      refine R_cVJ (As := [.int t2, .int l7_12]) (rest := [.long t15, .int l3_1, rf x.w t13]) (r := (some l0)) (ci := 4) hc ml_4_72 mf_X4_waysOver rfl (by decide) ⟨rfl, rfl⟩ ⟨le_b rfl, le_b rfl⟩ ⟨Nat.zero_le _, Nat.zero_le _⟩ (fun a v e => mt_X4_waysOver e) rfl rfl (by simp [rf_cat, cat_i, cat_l, cat_a]) dX4_weigh_139 hw (fun t17 hw => ?_)
      refine R_ladd hc dX4_weigh_142 ?_
      refine R_l2i hc dX4_weigh_143 ?_
      refine R_iastore hc dX4_weigh_144 hw (fun h18 hw => ?_)
      refine R_aload_n (q := 5) (i := 0) (v := (some l0)) hc dX4_weigh_145 rfl rfl ?_
      refine R_getR hc fl_4_39 dX4_weigh_146 hw (fun t19 hw => ?_)
      refine R_iload_n (q := 4) (i := 3) (v := l3_1) hc dX4_weigh_149 rfl rfl ?_
      refine R_iconst (v := (2 : Int32)) hc dX4_weigh_150 kI_2 ?_
      refine R_aload_n (q := 5) (i := 0) (v := (some l0)) hc dX4_weigh_151 rfl rfl ?_
      refine R_getR hc fl_4_29 dX4_weigh_152 hw (fun t20 hw => ?_)
      refine R_iload (q := 3) (i := 4) (v := t2) hc dX4_weigh_155 rfl ?_
      refine R_iaload hc dX4_weigh_157 hw (fun t21 hw => ?_)
      refine R_iadd hc dX4_weigh_158 ?_
      refine R_aload_n (q := 5) (i := 0) (v := (some l0)) hc dX4_weigh_159 rfl rfl ?_
      refine R_iload (q := 3) (i := 4) (v := t2) hc dX4_weigh_160 rfl ?_
      refine R_iload (q := 2) (i := 5) (v := t5) hc dX4_weigh_162 rfl ?_
      refine R_aload_n (q := 5) (i := 0) (v := (some l0)) hc dX4_weigh_164 rfl rfl ?_
      refine R_getR hc fl_4_12 dX4_weigh_165 hw (fun t22 hw => ?_)
      refine R_iload_n (q := 7) (i := 2) (v := l2) hc dX4_weigh_168 rfl rfl ?_
      refine R_cVI (As := [.int l2]) (rest := [.int t5, .int t2, rf x.w (some l0), .int ((2 : Int32) + t21), .int l3_1, rf x.w t19]) (r := t22) (ci := 1) hc ml_4_96 mf_X1_meetingAtAll rfl (by decide) ⟨rfl, rfl⟩ ⟨le_b rfl, le_b rfl⟩ ⟨Nat.zero_le _, Nat.zero_le _⟩ (fun a v e => mt_X1_meetingAtAll e) rfl rfl (by simp [rf_cat, cat_i, cat_l, cat_a]) dX4_weigh_169 hw (fun t24 hw => ?_)
      refine R_iand hc dX4_weigh_172 ?_
      refine R_iload (q := 0) (i := 7) (v := l7_12) hc dX4_weigh_173 rfl ?_
      refine R_ior hc dX4_weigh_175 ?_
      refine R_iload_n (q := 7) (i := 2) (v := l2) hc dX4_weigh_176 rfl rfl ?_
      refine R_cVI (As := [.int t2, .int ((t5 &&& t24) ||| l7_12), .int l2]) (rest := [.int ((2 : Int32) + t21), .int l3_1, rf x.w t19]) (r := (some l0)) (ci := 4) hc ml_4_89 mf_X4_calmOver rfl (by decide) ⟨rfl, rfl⟩ ⟨le_b rfl, le_b rfl⟩ ⟨Nat.zero_le _, Nat.zero_le _⟩ (fun a v e => mt_X4_calmOver e) rfl rfl (by simp [rf_cat, cat_i, cat_l, cat_a]) dX4_weigh_177 hw (fun t26 hw => ?_)
      refine R_jmn hc ml_4_76 (le_b rfl) (by simp [rf_cat, cat_i, cat_l, cat_a]) ⟨Nat.zero_le _, Nat.zero_le _⟩ dX4_weigh_180 ?_
      refine R_iastore hc dX4_weigh_183 hw (fun h27 hw => ?_)
      exact R_return hc hret hQ hw dX4_weigh_184
    · refine R_aload_n (q := 4) (i := 0) (v := (some l0)) hc dX4_weigh_68 rfl rfl ?_
      refine R_getR hc fl_4_36 dX4_weigh_69 hw (fun t28 hw => ?_)
      refine R_iload_n (q := 3) (i := 3) (v := l3_1) hc dX4_weigh_72 rfl rfl ?_
      refine R_aload_n (q := 4) (i := 0) (v := (some l0)) hc dX4_weigh_73 rfl rfl ?_
      refine R_iload (q := 2) (i := 4) (v := t2) hc dX4_weigh_74 rfl ?_
      refine R_iload (q := 1) (i := 5) (v := t5) hc dX4_weigh_76 rfl ?_
      refine R_iload (q := 0) (i := 6) (v := t8) hc dX4_weigh_78 rfl ?_
      refine R_iand hc dX4_weigh_80 ?_
      refine R_cVJ (As := [.int t2, .int (t5 &&& t8)]) (rest := [.int l3_1, rf x.w t28]) (r := (some l0)) (ci := 4) hc ml_4_72 mf_X4_waysOver rfl (by decide) ⟨rfl, rfl⟩ ⟨le_b rfl, le_b rfl⟩ ⟨Nat.zero_le _, Nat.zero_le _⟩ (fun a v e => mt_X4_waysOver e) rfl rfl (by simp [rf_cat, cat_i, cat_l, cat_a]) dX4_weigh_81 hw (fun t30 hw => ?_)
      refine R_l2i hc dX4_weigh_84 ?_
      refine R_iastore hc dX4_weigh_85 hw (fun h31 hw => ?_)
      refine R_aload_n (q := 4) (i := 0) (v := (some l0)) hc dX4_weigh_86 rfl rfl ?_
      refine R_getR hc fl_4_39 dX4_weigh_87 hw (fun t32 hw => ?_)
      refine R_iload_n (q := 3) (i := 3) (v := l3_1) hc dX4_weigh_90 rfl rfl ?_
      refine R_aload_n (q := 4) (i := 0) (v := (some l0)) hc dX4_weigh_91 rfl rfl ?_
      refine R_iload (q := 2) (i := 4) (v := t2) hc dX4_weigh_92 rfl ?_
      refine R_iload (q := 1) (i := 5) (v := t5) hc dX4_weigh_94 rfl ?_
      refine R_iload (q := 0) (i := 6) (v := t8) hc dX4_weigh_96 rfl ?_
      refine R_iand hc dX4_weigh_98 ?_
      refine R_iload_n (q := 6) (i := 2) (v := l2) hc dX4_weigh_99 rfl rfl ?_
      refine R_cVI (As := [.int t2, .int (t5 &&& t8), .int l2]) (rest := [.int l3_1, rf x.w t32]) (r := (some l0)) (ci := 4) hc ml_4_89 mf_X4_calmOver rfl (by decide) ⟨rfl, rfl⟩ ⟨le_b rfl, le_b rfl⟩ ⟨Nat.zero_le _, Nat.zero_le _⟩ (fun a v e => mt_X4_calmOver e) rfl rfl (by simp [rf_cat, cat_i, cat_l, cat_a]) dX4_weigh_100 hw (fun t34 hw => ?_)
      refine R_iastore hc dX4_weigh_103 hw (fun h35 hw => ?_)
      refine R_goto (tgt := 184) hc dX4_weigh_104 (by decide) ?_
      exact R_return hc hret hQ hw dX4_weigh_184
  · refine R_aload_n (q := 4) (i := 0) (v := (some l0)) hc dX4_weigh_43 rfl rfl ?_
    refine R_getR hc fl_4_36 dX4_weigh_44 hw (fun t36 hw => ?_)
    refine R_iload_n (q := 3) (i := 3) (v := l3_1) hc dX4_weigh_47 rfl rfl ?_
    refine R_iconst (v := (1 : Int32)) hc dX4_weigh_48 kI_1 ?_
    refine R_iastore hc dX4_weigh_49 hw (fun h37 hw => ?_)
    refine R_aload_n (q := 4) (i := 0) (v := (some l0)) hc dX4_weigh_50 rfl rfl ?_
    refine R_getR hc fl_4_39 dX4_weigh_51 hw (fun t38 hw => ?_)
    refine R_iload_n (q := 3) (i := 3) (v := l3_1) hc dX4_weigh_54 rfl rfl ?_
    refine R_iconst (v := (0 : Int32)) hc dX4_weigh_55 kI_0 ?_
    refine R_iastore hc dX4_weigh_56 hw (fun h39 hw => ?_)
    refine R_goto (tgt := 184) hc dX4_weigh_57 (by decide) ?_
    exact R_return hc hret hQ hw dX4_weigh_184
theorem dX4_weighSet_0 : decode cX4_weighSet 0 = .ok (.iconst 0, 1) := by decide +kernel
theorem dX4_weighSet_1 : decode cX4_weighSet 1 = .ok (.istore_n 2, 1) := by decide +kernel
theorem dX4_weighSet_2 : decode cX4_weighSet 2 = .ok (.iload_n 2, 1) := by decide +kernel
theorem dX4_weighSet_3 : decode cX4_weighSet 3 = .ok (.aload_n 0, 1) := by decide +kernel
theorem dX4_weighSet_4 : decode cX4_weighSet 4 = .ok (.getfield 12, 3) := by decide +kernel
theorem dX4_weighSet_7 : decode cX4_weighSet 7 = .ok (.getfield 57, 3) := by decide +kernel
theorem dX4_weighSet_10 : decode cX4_weighSet 10 = .ok (.iconst 4, 1) := by decide +kernel
theorem dX4_weighSet_11 : decode cX4_weighSet 11 = .ok (.imul, 1) := by decide +kernel
theorem dX4_weighSet_12 : decode cX4_weighSet 12 = .ok (.if_icmp .ge 25, 3) := by decide +kernel
theorem dX4_weighSet_15 : decode cX4_weighSet 15 = .ok (.iload_n 1, 1) := by decide +kernel
theorem dX4_weighSet_16 : decode cX4_weighSet 16 = .ok (.iload_n 2, 1) := by decide +kernel
theorem dX4_weighSet_17 : decode cX4_weighSet 17 = .ok (.iconst 4, 1) := by decide +kernel
theorem dX4_weighSet_18 : decode cX4_weighSet 18 = .ok (.idiv, 1) := by decide +kernel
theorem dX4_weighSet_19 : decode cX4_weighSet 19 = .ok (.invokestatic 61, 3) := by decide +kernel
theorem dX4_weighSet_22 : decode cX4_weighSet 22 = .ok (.ifCond .eq 9, 3) := by decide +kernel
theorem dX4_weighSet_25 : decode cX4_weighSet 25 = .ok (.aload_n 0, 1) := by decide +kernel
theorem dX4_weighSet_26 : decode cX4_weighSet 26 = .ok (.iload_n 1, 1) := by decide +kernel
theorem dX4_weighSet_27 : decode cX4_weighSet 27 = .ok (.iload_n 2, 1) := by decide +kernel
theorem dX4_weighSet_28 : decode cX4_weighSet 28 = .ok (.invokevirtual 65, 3) := by decide +kernel
theorem dX4_weighSet_31 : decode cX4_weighSet 31 = .ok (.iinc 2 1, 3) := by decide +kernel
theorem dX4_weighSet_34 : decode cX4_weighSet 34 = .ok (.goto (-32), 3) := by decide +kernel
theorem dX4_weighSet_37 : decode cX4_weighSet 37 = .ok (.aload_n 0, 1) := by decide +kernel
theorem dX4_weighSet_38 : decode cX4_weighSet 38 = .ok (.getfield 25, 3) := by decide +kernel
theorem dX4_weighSet_41 : decode cX4_weighSet 41 = .ok (.iload_n 1, 1) := by decide +kernel
theorem dX4_weighSet_42 : decode cX4_weighSet 42 = .ok (.aload_n 0, 1) := by decide +kernel
theorem dX4_weighSet_43 : decode cX4_weighSet 43 = .ok (.iload_n 1, 1) := by decide +kernel
theorem dX4_weighSet_44 : decode cX4_weighSet 44 = .ok (.aload_n 0, 1) := by decide +kernel
theorem dX4_weighSet_45 : decode cX4_weighSet 45 = .ok (.getfield 21, 3) := by decide +kernel
theorem dX4_weighSet_48 : decode cX4_weighSet 48 = .ok (.getfield 69, 3) := by decide +kernel
theorem dX4_weighSet_51 : decode cX4_weighSet 51 = .ok (.iload_n 1, 1) := by decide +kernel
theorem dX4_weighSet_52 : decode cX4_weighSet 52 = .ok (.iaload, 1) := by decide +kernel
theorem dX4_weighSet_53 : decode cX4_weighSet 53 = .ok (.invokevirtual 72, 3) := by decide +kernel
theorem dX4_weighSet_56 : decode cX4_weighSet 56 = .ok (.lastore, 1) := by decide +kernel
theorem dX4_weighSet_57 : decode cX4_weighSet 57 = .ok (.sipush 1000, 3) := by decide +kernel
theorem dX4_weighSet_60 : decode cX4_weighSet 60 = .ok (.istore_n 2, 1) := by decide +kernel
theorem dX4_weighSet_61 : decode cX4_weighSet 61 = .ok (.iconst 0, 1) := by decide +kernel
theorem dX4_weighSet_62 : decode cX4_weighSet 62 = .ok (.istore_n 3, 1) := by decide +kernel
theorem dX4_weighSet_63 : decode cX4_weighSet 63 = .ok (.iload_n 3, 1) := by decide +kernel
theorem dX4_weighSet_64 : decode cX4_weighSet 64 = .ok (.aload_n 0, 1) := by decide +kernel
theorem dX4_weighSet_65 : decode cX4_weighSet 65 = .ok (.getfield 12, 3) := by decide +kernel
theorem dX4_weighSet_68 : decode cX4_weighSet 68 = .ok (.getfield 57, 3) := by decide +kernel
theorem dX4_weighSet_71 : decode cX4_weighSet 71 = .ok (.iconst 4, 1) := by decide +kernel
theorem dX4_weighSet_72 : decode cX4_weighSet 72 = .ok (.imul, 1) := by decide +kernel
theorem dX4_weighSet_73 : decode cX4_weighSet 73 = .ok (.if_icmp .ge 41, 3) := by decide +kernel
theorem dX4_weighSet_76 : decode cX4_weighSet 76 = .ok (.aload_n 0, 1) := by decide +kernel
theorem dX4_weighSet_77 : decode cX4_weighSet 77 = .ok (.getfield 21, 3) := by decide +kernel
theorem dX4_weighSet_80 : decode cX4_weighSet 80 = .ok (.getfield 69, 3) := by decide +kernel
theorem dX4_weighSet_83 : decode cX4_weighSet 83 = .ok (.iload_n 1, 1) := by decide +kernel
theorem dX4_weighSet_84 : decode cX4_weighSet 84 = .ok (.iaload, 1) := by decide +kernel
theorem dX4_weighSet_85 : decode cX4_weighSet 85 = .ok (.iload_n 3, 1) := by decide +kernel
theorem dX4_weighSet_86 : decode cX4_weighSet 86 = .ok (.iushr, 1) := by decide +kernel
theorem dX4_weighSet_87 : decode cX4_weighSet 87 = .ok (.iconst 1, 1) := by decide +kernel
theorem dX4_weighSet_88 : decode cX4_weighSet 88 = .ok (.iand, 1) := by decide +kernel
theorem dX4_weighSet_89 : decode cX4_weighSet 89 = .ok (.ifCond .eq 19, 3) := by decide +kernel
theorem dX4_weighSet_92 : decode cX4_weighSet 92 = .ok (.iload_n 2, 1) := by decide +kernel
theorem dX4_weighSet_93 : decode cX4_weighSet 93 = .ok (.aload_n 0, 1) := by decide +kernel
theorem dX4_weighSet_94 : decode cX4_weighSet 94 = .ok (.getfield 39, 3) := by decide +kernel
theorem dX4_weighSet_97 : decode cX4_weighSet 97 = .ok (.iload_n 1, 1) := by decide +kernel
theorem dX4_weighSet_98 : decode cX4_weighSet 98 = .ok (.bipush 32, 2) := by decide +kernel
theorem dX4_weighSet_100 : decode cX4_weighSet 100 = .ok (.imul, 1) := by decide +kernel
theorem dX4_weighSet_101 : decode cX4_weighSet 101 = .ok (.iload_n 3, 1) := by decide +kernel
theorem dX4_weighSet_102 : decode cX4_weighSet 102 = .ok (.iadd, 1) := by decide +kernel
theorem dX4_weighSet_103 : decode cX4_weighSet 103 = .ok (.iaload, 1) := by decide +kernel
theorem dX4_weighSet_104 : decode cX4_weighSet 104 = .ok (.invokestatic 76, 3) := by decide +kernel
theorem dX4_weighSet_107 : decode cX4_weighSet 107 = .ok (.istore_n 2, 1) := by decide +kernel
theorem dX4_weighSet_108 : decode cX4_weighSet 108 = .ok (.iinc 3 1, 3) := by decide +kernel
theorem dX4_weighSet_111 : decode cX4_weighSet 111 = .ok (.goto (-48), 3) := by decide +kernel
theorem dX4_weighSet_114 : decode cX4_weighSet 114 = .ok (.aload_n 0, 1) := by decide +kernel
theorem dX4_weighSet_115 : decode cX4_weighSet 115 = .ok (.getfield 29, 3) := by decide +kernel
theorem dX4_weighSet_118 : decode cX4_weighSet 118 = .ok (.iload_n 1, 1) := by decide +kernel
theorem dX4_weighSet_119 : decode cX4_weighSet 119 = .ok (.iload_n 2, 1) := by decide +kernel
theorem dX4_weighSet_120 : decode cX4_weighSet 120 = .ok (.iastore, 1) := by decide +kernel
theorem dX4_weighSet_121 : decode cX4_weighSet 121 = .ok (.return_, 1) := by decide +kernel
def sX4_weighSet_L2 (F : Nat) (l0 : Nat) (l1 : Int32) (l2 : Int32) (h : HP) : Option ((Int32 × HP) ⊕ HP) :=
  (gR h 4 (some l0) 0).bind fun t1 =>
  (gI h 1 t1 5).bind fun t2 =>
  if (t2 * (4 : Int32)) ≤ l2 then
    some (.inr h)
  else
    (sX10_has F l1 (l2 / (4 : Int32)) h).bind fun t3 =>
    if t3 = 0 then
      some (.inl (l2 + (1 : Int32), h))
    else
      (dO h 4 (some l0)).bind fun a4 =>
      (sX4_weigh F a4 l1 l2 h).bind fun h5 =>
      some (.inl (l2 + (1 : Int32), h5))
def sX4_weighSet_L63 (F : Nat) (l0 : Nat) (l1 : Int32) (l2 : Int32) (l3 : Int32) (h : HP) : Option ((Int32 × Int32) ⊕ Int32) :=
  (gR h 4 (some l0) 0).bind fun t14 =>
  (gI h 1 t14 5).bind fun t15 =>
  if (t15 * (4 : Int32)) ≤ l3 then
    some (.inr l2)
  else
    (gR h 4 (some l0) 1).bind fun t16 =>
    (gR h 3 t16 1).bind fun t17 =>
    (aI h 13 t17 l1).bind fun t18 =>
    if ((jush t18 l3) &&& (1 : Int32)) = 0 then
      some (.inl (l2, l3 + (1 : Int32)))
    else
      (gR h 4 (some l0) 6).bind fun t19 =>
      (aI h 13 t19 ((l1 * (32 : Int32)) + l3)).bind fun t20 =>
      nmI (jmn l2 t20) fun l2_21 =>
      some (.inl (l2_21, l3 + (1 : Int32)))
def sX4_weighSet (F : Nat) (l0 : Nat) (l1 : Int32) (h : HP) : Option HP :=
  (iter (fun s => sX4_weighSet_L2 F l0 l1 s.1 s.2) F ((0 : Int32), h)).bind fun h6 =>
    (gR h6 4 (some l0) 2).bind fun t7 =>
    (gR h6 4 (some l0) 1).bind fun t8 =>
    (gR h6 3 t8 1).bind fun t9 =>
    (aI h6 13 t9 l1).bind fun t10 =>
    (dO h6 4 (some l0)).bind fun a11 =>
    (sX4_waysOver F a11 l1 t10 h6).bind fun t12 =>
    (sJ h6 t7 l1 t12).bind fun h13 =>
    (iter (fun s => sX4_weighSet_L63 F l0 l1 s.1 s.2 h13) F ((1000 : Int32), (0 : Int32))).bind fun l2_22 =>
      (gR h13 4 (some l0) 3).bind fun t23 =>
      (sI h13 t23 l1 l2_22).bind fun h24 =>
      some h24
abbrev rm_X4_weighSet : Room := { frames := 4, cells := 0, slots := 0, locals := 94 }
set_option maxRecDepth 100000 in
set_option maxHeartbeats 4000000 in
theorem mt_X4_weighSet {w : WD} {l : Launch} {F : Nat} {l0 : Nat} {l1 : Int32} {h : HP} {h' : HP} (hs : sX4_weighSet F l0 l1 h = some h') : MV w l yX4_weighSet cX4_weighSet 4 rm_X4_weighSet 0 0 [rf w (some l0), .int l1] h h' := by
  refine of_body [(0, rf w (some l0)), (1, .int l1)] (by decide) (by simp [lg_sl, rf_cat, cat_i, cat_l, cat_a]) (by simp [lv_args, rf_cat, cat_i, cat_l, cat_a]) ?_
  intro x hw_ hnL_ hl_ hc hret hnm hQ
  subst hw_; subst hl_
  have hnl : ∀ i, i < 4 → i < x.nL := fun i h => by rw [hnL_]; exact h
  have hw : wpO (sX4_weighSet F l0 l1 h) (fun r => r = h') := ⟨_, hs, rfl⟩
  unfold sX4_weighSet at hw
  refine R_iconst (v := (0 : Int32)) hc dX4_weighSet_0 kI_0 ?_
  refine R_istore_n (i := 2) (v := (0 : Int32)) hc [(2, .int (0 : Int32)), (0, rf x.w (some l0)), (1, .int l1)] dX4_weighSet_1 rfl (hnl 2 (le_b rfl)) rfl ?_
  refine R_sub hc [1, 2, 0] rfl ?_
  refine R_loop (P := fun (s : (Int32 × HP)) => Rn x 0 0 2 [(0, rf x.w (some l0)), (1, .int l1), (2, .int s.1)] [] s.2) (fun h6 => Rn x 0 0 37 [(0, rf x.w (some l0)), (1, .int l1)] [] h6) hw (fun r hw => ?_) (fun X hX s hw => ?_)
  · revert r hw
    intro h6 hw
    show Rn x 0 0 37 [(0, rf x.w (some l0)), (1, .int l1)] [] h6
    refine R_aload_n (q := 0) (i := 0) (v := (some l0)) hc dX4_weighSet_37 rfl rfl ?_
    refine R_getR hc fl_4_25 dX4_weighSet_38 hw (fun t7 hw => ?_)
    refine R_iload_n (q := 1) (i := 1) (v := l1) hc dX4_weighSet_41 rfl rfl ?_
    refine R_aload_n (q := 0) (i := 0) (v := (some l0)) hc dX4_weighSet_42 rfl rfl ?_
    refine R_iload_n (q := 1) (i := 1) (v := l1) hc dX4_weighSet_43 rfl rfl ?_
    refine R_aload_n (q := 0) (i := 0) (v := (some l0)) hc dX4_weighSet_44 rfl rfl ?_
    refine R_getR hc fl_4_21 dX4_weighSet_45 hw (fun t8 hw => ?_)
    refine R_getR hc fl_4_69 dX4_weighSet_48 hw (fun t9 hw => ?_)
    refine R_iload_n (q := 1) (i := 1) (v := l1) hc dX4_weighSet_51 rfl rfl ?_
    refine R_iaload hc dX4_weighSet_52 hw (fun t10 hw => ?_)
    refine R_cVJ (As := [.int l1, .int t10]) (rest := [.int l1, rf x.w t7]) (r := (some l0)) (ci := 4) hc ml_4_72 mf_X4_waysOver rfl (by decide) ⟨rfl, rfl⟩ ⟨le_b rfl, le_b rfl⟩ ⟨Nat.zero_le _, Nat.zero_le _⟩ (fun a v e => mt_X4_waysOver e) rfl rfl (by simp [rf_cat, cat_i, cat_l, cat_a]) dX4_weighSet_53 hw (fun t12 hw => ?_)
    refine R_lastore hc dX4_weighSet_56 hw (fun h13 hw => ?_)
    refine R_sipush (v := (1000 : Int32)) hc dX4_weighSet_57 kS_1000 ?_
    refine R_istore_n (i := 2) (v := (1000 : Int32)) hc [(2, .int (1000 : Int32)), (0, rf x.w (some l0)), (1, .int l1)] dX4_weighSet_60 rfl (hnl 2 (le_b rfl)) rfl ?_
    refine R_iconst (v := (0 : Int32)) hc dX4_weighSet_61 kI_0 ?_
    refine R_istore_n (i := 3) (v := (0 : Int32)) hc [(3, .int (0 : Int32)), (2, .int (1000 : Int32)), (0, rf x.w (some l0)), (1, .int l1)] dX4_weighSet_62 rfl (hnl 3 (le_b rfl)) rfl ?_
    refine R_sub hc [2, 3, 1, 0] rfl ?_
    refine R_loop (P := fun (s : (Int32 × Int32)) => Rn x 0 0 63 [(0, rf x.w (some l0)), (1, .int l1), (2, .int s.1), (3, .int s.2)] [] h13) (fun l2_22 => Rn x 0 0 114 [(0, rf x.w (some l0)), (1, .int l1), (2, .int l2_22)] [] h13) hw (fun r hw => ?_) (fun X hX s hw => ?_)
    · revert r hw
      intro l2_22 hw
      show Rn x 0 0 114 [(0, rf x.w (some l0)), (1, .int l1), (2, .int l2_22)] [] h13
      refine R_aload_n (q := 0) (i := 0) (v := (some l0)) hc dX4_weighSet_114 rfl rfl ?_
      refine R_getR hc fl_4_29 dX4_weighSet_115 hw (fun t23 hw => ?_)
      refine R_iload_n (q := 1) (i := 1) (v := l1) hc dX4_weighSet_118 rfl rfl ?_
      refine R_iload_n (q := 2) (i := 2) (v := l2_22) hc dX4_weighSet_119 rfl rfl ?_
      refine R_iastore hc dX4_weighSet_120 hw (fun h24 hw => ?_)
      exact R_return hc hret hQ hw dX4_weighSet_121
    · obtain ⟨l2_26, l3_27⟩ := s
      show Rn x 0 0 63 [(0, rf x.w (some l0)), (1, .int l1), (2, .int l2_26), (3, .int l3_27)] [] h13
      have hw : wpO (sX4_weighSet_L63 F l0 l1 l2_26 l3_27 h13) _ := hw
      unfold sX4_weighSet_L63 at hw
      refine R_iload_n (q := 3) (i := 3) (v := l3_27) hc dX4_weighSet_63 rfl rfl ?_
      refine R_aload_n (q := 0) (i := 0) (v := (some l0)) hc dX4_weighSet_64 rfl rfl ?_
      refine R_getR hc fl_4_12 dX4_weighSet_65 hw (fun t14 hw => ?_)
      refine R_getI hc fl_4_57 dX4_weighSet_68 hw (fun t15 hw => ?_)
      refine R_iconst (v := (4 : Int32)) hc dX4_weighSet_71 kI_4 ?_
      refine R_imul hc dX4_weighSet_72 ?_
      refine R_icmp_ge (tgt := 114) hc dX4_weighSet_73 (by decide) hw (fun hw => ?_) (fun hw => ?_)
      · refine R_sub hc [0, 1, 2] rfl ?_
        exact (wpO_some hw :)
      · refine R_aload_n (q := 0) (i := 0) (v := (some l0)) hc dX4_weighSet_76 rfl rfl ?_
        refine R_getR hc fl_4_21 dX4_weighSet_77 hw (fun t16 hw => ?_)
        refine R_getR hc fl_4_69 dX4_weighSet_80 hw (fun t17 hw => ?_)
        refine R_iload_n (q := 1) (i := 1) (v := l1) hc dX4_weighSet_83 rfl rfl ?_
        refine R_iaload hc dX4_weighSet_84 hw (fun t18 hw => ?_)
        refine R_iload_n (q := 3) (i := 3) (v := l3_27) hc dX4_weighSet_85 rfl rfl ?_
        refine R_iushr hc dX4_weighSet_86 ?_
        refine R_iconst (v := (1 : Int32)) hc dX4_weighSet_87 kI_1 ?_
        refine R_iand hc dX4_weighSet_88 ?_
        refine R_if_eq (tgt := 108) hc dX4_weighSet_89 (by decide) hw (fun hw => ?_) (fun hw => ?_)
        · refine R_iinc (q := 3) (i := 3) (v := l3_27) hc [(3, .int (l3_27 + (1 : Int32))), (0, rf x.w (some l0)), (1, .int l1), (2, .int l2_26)] dX4_weighSet_108 rfl (kC_1 _) (hnl 3 (le_b rfl)) rfl ?_
          refine R_goto (tgt := 63) hc dX4_weighSet_111 (by decide) ?_
          refine R_sub hc [1, 2, 3, 0] rfl ?_
          exact hX (l2_26, l3_27 + (1 : Int32)) (wpO_some hw :)
        · refine R_iload_n (q := 2) (i := 2) (v := l2_26) hc dX4_weighSet_92 rfl rfl ?_
          refine R_aload_n (q := 0) (i := 0) (v := (some l0)) hc dX4_weighSet_93 rfl rfl ?_
          refine R_getR hc fl_4_39 dX4_weighSet_94 hw (fun t19 hw => ?_)
          refine R_iload_n (q := 1) (i := 1) (v := l1) hc dX4_weighSet_97 rfl rfl ?_
          refine R_bipush (v := (32 : Int32)) hc dX4_weighSet_98 kB_32 ?_
          refine R_imul hc dX4_weighSet_100 ?_
          refine R_iload_n (q := 3) (i := 3) (v := l3_27) hc dX4_weighSet_101 rfl rfl ?_
          refine R_iadd hc dX4_weighSet_102 ?_
          refine R_iaload hc dX4_weighSet_103 hw (fun t20 hw => ?_)
          refine R_jmn hc ml_4_76 (le_b rfl) (le_b rfl) ⟨Nat.zero_le _, Nat.zero_le _⟩ dX4_weighSet_104 ?_
          refine R_nmI hw (fun l2_21 hw => ?_)
          refine R_istore_n (i := 2) (v := l2_21) hc [(2, .int l2_21), (0, rf x.w (some l0)), (1, .int l1), (3, .int l3_27)] dX4_weighSet_107 rfl (hnl 2 (le_b rfl)) rfl ?_
          refine R_iinc (q := 3) (i := 3) (v := l3_27) hc [(3, .int (l3_27 + (1 : Int32))), (2, .int l2_21), (0, rf x.w (some l0)), (1, .int l1)] dX4_weighSet_108 rfl (kC_1 _) (hnl 3 (le_b rfl)) rfl ?_
          refine R_goto (tgt := 63) hc dX4_weighSet_111 (by decide) ?_
          refine R_sub hc [2, 3, 1, 0] rfl ?_
          exact hX (l2_21, l3_27 + (1 : Int32)) (wpO_some hw :)
  · obtain ⟨l2_29, h30⟩ := s
    show Rn x 0 0 2 [(0, rf x.w (some l0)), (1, .int l1), (2, .int l2_29)] [] h30
    have hw : wpO (sX4_weighSet_L2 F l0 l1 l2_29 h30) _ := hw
    unfold sX4_weighSet_L2 at hw
    refine R_iload_n (q := 2) (i := 2) (v := l2_29) hc dX4_weighSet_2 rfl rfl ?_
    refine R_aload_n (q := 0) (i := 0) (v := (some l0)) hc dX4_weighSet_3 rfl rfl ?_
    refine R_getR hc fl_4_12 dX4_weighSet_4 hw (fun t1 hw => ?_)
    refine R_getI hc fl_4_57 dX4_weighSet_7 hw (fun t2 hw => ?_)
    refine R_iconst (v := (4 : Int32)) hc dX4_weighSet_10 kI_4 ?_
    refine R_imul hc dX4_weighSet_11 ?_
    refine R_icmp_ge (tgt := 37) hc dX4_weighSet_12 (by decide) hw (fun hw => ?_) (fun hw => ?_)
    · refine R_sub hc [0, 1] rfl ?_
      exact (wpO_some hw :)
    · refine R_iload_n (q := 1) (i := 1) (v := l1) hc dX4_weighSet_15 rfl rfl ?_
      refine R_iload_n (q := 2) (i := 2) (v := l2_29) hc dX4_weighSet_16 rfl rfl ?_
      refine R_iconst (v := (4 : Int32)) hc dX4_weighSet_17 kI_4 ?_
      refine R_idivL hc dX4_weighSet_18 (by decide) ?_
      refine R_cNI (As := [.int l1, .int (l2_29 / (4 : Int32))]) (rest := []) hc mn_4_61 mf_X10_has ⟨rfl, rfl⟩ ⟨le_b rfl, le_b rfl⟩ ⟨Nat.zero_le _, Nat.zero_le _⟩ (fun v e => mt_X10_has e) rfl rfl (Nat.zero_le _) dX4_weighSet_19 hw (fun t3 hw => ?_)
      refine R_if_eq (tgt := 31) hc dX4_weighSet_22 (by decide) hw (fun hw => ?_) (fun hw => ?_)
      · refine R_iinc (q := 2) (i := 2) (v := l2_29) hc [(2, .int (l2_29 + (1 : Int32))), (0, rf x.w (some l0)), (1, .int l1)] dX4_weighSet_31 rfl (kC_1 _) (hnl 2 (le_b rfl)) rfl ?_
        refine R_goto (tgt := 2) hc dX4_weighSet_34 (by decide) ?_
        refine R_sub hc [1, 2, 0] rfl ?_
        exact hX (l2_29 + (1 : Int32), h30) (wpO_some hw :)
      · refine R_aload_n (q := 0) (i := 0) (v := (some l0)) hc dX4_weighSet_25 rfl rfl ?_
        refine R_iload_n (q := 1) (i := 1) (v := l1) hc dX4_weighSet_26 rfl rfl ?_
        refine R_iload_n (q := 2) (i := 2) (v := l2_29) hc dX4_weighSet_27 rfl rfl ?_
        refine R_cVVi (As := [.int l1, .int l2_29]) (rest := []) (r := (some l0)) (ci := 4) hc ml_4_65 mf_X4_weigh rfl (by decide) ⟨rfl, rfl⟩ ⟨le_b rfl, le_b rfl⟩ ⟨Nat.zero_le _, Nat.zero_le _⟩ (fun a h' e => mt_X4_weigh e) rfl rfl (Nat.zero_le _) dX4_weighSet_28 hw (fun h5 hw => ?_)
        refine R_iinc (q := 2) (i := 2) (v := l2_29) hc [(2, .int (l2_29 + (1 : Int32))), (0, rf x.w (some l0)), (1, .int l1)] dX4_weighSet_31 rfl (kC_1 _) (hnl 2 (le_b rfl)) rfl ?_
        refine R_goto (tgt := 2) hc dX4_weighSet_34 (by decide) ?_
        refine R_sub hc [1, 2, 0] rfl ?_
        exact hX (l2_29 + (1 : Int32), h5) (wpO_some hw :)
theorem dX4_prepare_0 : decode cX4_prepare 0 = .ok (.aload_n 0, 1) := by decide +kernel
theorem dX4_prepare_1 : decode cX4_prepare 1 = .ok (.getfield 12, 3) := by decide +kernel
theorem dX4_prepare_4 : decode cX4_prepare 4 = .ok (.invokevirtual 46, 3) := by decide +kernel
theorem dX4_prepare_7 : decode cX4_prepare 7 = .ok (.aload_n 0, 1) := by decide +kernel
theorem dX4_prepare_8 : decode cX4_prepare 8 = .ok (.getfield 21, 3) := by decide +kernel
theorem dX4_prepare_11 : decode cX4_prepare 11 = .ok (.aload_n 0, 1) := by decide +kernel
theorem dX4_prepare_12 : decode cX4_prepare 12 = .ok (.getfield 12, 3) := by decide +kernel
theorem dX4_prepare_15 : decode cX4_prepare 15 = .ok (.iconst (-1), 1) := by decide +kernel
theorem dX4_prepare_16 : decode cX4_prepare 16 = .ok (.invokevirtual 49, 3) := by decide +kernel
theorem dX4_prepare_19 : decode cX4_prepare 19 = .ok (.aload_n 0, 1) := by decide +kernel
theorem dX4_prepare_20 : decode cX4_prepare 20 = .ok (.getfield 25, 3) := by decide +kernel
theorem dX4_prepare_23 : decode cX4_prepare 23 = .ok (.iconst 0, 1) := by decide +kernel
theorem dX4_prepare_24 : decode cX4_prepare 24 = .ok (.lconst 1, 1) := by decide +kernel
theorem dX4_prepare_25 : decode cX4_prepare 25 = .ok (.lastore, 1) := by decide +kernel
theorem dX4_prepare_26 : decode cX4_prepare 26 = .ok (.aload_n 0, 1) := by decide +kernel
theorem dX4_prepare_27 : decode cX4_prepare 27 = .ok (.getfield 29, 3) := by decide +kernel
theorem dX4_prepare_30 : decode cX4_prepare 30 = .ok (.iconst 0, 1) := by decide +kernel
theorem dX4_prepare_31 : decode cX4_prepare 31 = .ok (.iconst 0, 1) := by decide +kernel
theorem dX4_prepare_32 : decode cX4_prepare 32 = .ok (.iastore, 1) := by decide +kernel
theorem dX4_prepare_33 : decode cX4_prepare 33 = .ok (.aload_n 0, 1) := by decide +kernel
theorem dX4_prepare_34 : decode cX4_prepare 34 = .ok (.getfield 12, 3) := by decide +kernel
theorem dX4_prepare_37 : decode cX4_prepare 37 = .ok (.invokevirtual 42, 3) := by decide +kernel
theorem dX4_prepare_40 : decode cX4_prepare 40 = .ok (.istore_n 1, 1) := by decide +kernel
theorem dX4_prepare_41 : decode cX4_prepare 41 = .ok (.iconst 1, 1) := by decide +kernel
theorem dX4_prepare_42 : decode cX4_prepare 42 = .ok (.istore_n 2, 1) := by decide +kernel
theorem dX4_prepare_43 : decode cX4_prepare 43 = .ok (.iload_n 2, 1) := by decide +kernel
theorem dX4_prepare_44 : decode cX4_prepare 44 = .ok (.iload_n 1, 1) := by decide +kernel
theorem dX4_prepare_45 : decode cX4_prepare 45 = .ok (.if_icmp .gt 21, 3) := by decide +kernel
theorem dX4_prepare_48 : decode cX4_prepare 48 = .ok (.iload_n 2, 1) := by decide +kernel
theorem dX4_prepare_49 : decode cX4_prepare 49 = .ok (.sipush 256, 3) := by decide +kernel
theorem dX4_prepare_52 : decode cX4_prepare 52 = .ok (.if_icmp .ge 14, 3) := by decide +kernel
theorem dX4_prepare_55 : decode cX4_prepare 55 = .ok (.aload_n 0, 1) := by decide +kernel
theorem dX4_prepare_56 : decode cX4_prepare 56 = .ok (.iload_n 2, 1) := by decide +kernel
theorem dX4_prepare_57 : decode cX4_prepare 57 = .ok (.invokevirtual 53, 3) := by decide +kernel
theorem dX4_prepare_60 : decode cX4_prepare 60 = .ok (.iinc 2 1, 3) := by decide +kernel
theorem dX4_prepare_63 : decode cX4_prepare 63 = .ok (.goto (-20), 3) := by decide +kernel
theorem dX4_prepare_66 : decode cX4_prepare 66 = .ok (.return_, 1) := by decide +kernel
def sX4_prepare_L43 (F : Nat) (l0 : Nat) (l1 : Int32) (l2 : Int32) (h : HP) : Option ((Int32 × HP) ⊕ HP) :=
  if l1 < l2 then
    some (.inr h)
  else
    if (256 : Int32) ≤ l2 then
      some (.inr h)
    else
      (dO h 4 (some l0)).bind fun a15 =>
      (sX4_weighSet F a15 l2 h).bind fun h16 =>
      some (.inl (l2 + (1 : Int32), h16))
def sX4_prepare (F : Nat) (l0 : Nat) (h : HP) : Option HP :=
  (gR h 4 (some l0) 0).bind fun t1 =>
  (dO h 1 t1).bind fun a2 =>
  (sX1_findMeetings F a2 h).bind fun h3 =>
  (gR h3 4 (some l0) 1).bind fun t4 =>
  (gR h3 4 (some l0) 0).bind fun t5 =>
  (dO h3 3 t4).bind fun a6 =>
  (sX3_fill F a6 t5 (-1 : Int32) h3).bind fun h7 =>
  (gR h7 4 (some l0) 2).bind fun t8 =>
  (sJ h7 t8 (0 : Int32) (1 : Int64)).bind fun h9 =>
  (gR h9 4 (some l0) 3).bind fun t10 =>
  (sI h9 t10 (0 : Int32) (0 : Int32)).bind fun h11 =>
  (gR h11 4 (some l0) 0).bind fun t12 =>
  (dO h11 1 t12).bind fun a13 =>
  (sX1_allFingers F a13 h11).bind fun t14 =>
  (iter (fun s => sX4_prepare_L43 F l0 t14 s.1 s.2) F ((1 : Int32), h11)).bind fun h17 =>
    some h17
abbrev rm_X4_prepare : Room := { frames := 5, cells := 0, slots := 0, locals := 117 }
set_option maxRecDepth 100000 in
set_option maxHeartbeats 4000000 in
theorem mt_X4_prepare {w : WD} {l : Launch} {F : Nat} {l0 : Nat} {h : HP} {h' : HP} (hs : sX4_prepare F l0 h = some h') : MV w l yX4_prepare cX4_prepare 3 rm_X4_prepare 0 0 [rf w (some l0)] h h' := by
  refine of_body [(0, rf w (some l0))] (by decide) (by simp [lg_sl, rf_cat, cat_i, cat_l, cat_a]) (by simp [lv_args, rf_cat, cat_i, cat_l, cat_a]) ?_
  intro x hw_ hnL_ hl_ hc hret hnm hQ
  subst hw_; subst hl_
  have hnl : ∀ i, i < 3 → i < x.nL := fun i h => by rw [hnL_]; exact h
  have hw : wpO (sX4_prepare F l0 h) (fun r => r = h') := ⟨_, hs, rfl⟩
  unfold sX4_prepare at hw
  refine R_aload_n (q := 0) (i := 0) (v := (some l0)) hc dX4_prepare_0 rfl rfl ?_
  refine R_getR hc fl_4_12 dX4_prepare_1 hw (fun t1 hw => ?_)
  refine R_cVVi (As := []) (rest := []) (r := t1) (ci := 1) hc ml_4_46 mf_X1_findMeetings rfl (by decide) ⟨rfl, rfl⟩ ⟨le_b rfl, le_b rfl⟩ ⟨Nat.zero_le _, Nat.zero_le _⟩ (fun a h' e => mt_X1_findMeetings e) rfl rfl (Nat.zero_le _) dX4_prepare_4 hw (fun h3 hw => ?_)
  refine R_aload_n (q := 0) (i := 0) (v := (some l0)) hc dX4_prepare_7 rfl rfl ?_
  refine R_getR hc fl_4_21 dX4_prepare_8 hw (fun t4 hw => ?_)
  refine R_aload_n (q := 0) (i := 0) (v := (some l0)) hc dX4_prepare_11 rfl rfl ?_
  refine R_getR hc fl_4_12 dX4_prepare_12 hw (fun t5 hw => ?_)
  refine R_iconst (v := (-1 : Int32)) hc dX4_prepare_15 kI_m1 ?_
  refine R_cVVi (As := [rf x.w t5, .int (-1 : Int32)]) (rest := []) (r := t4) (ci := 3) hc ml_4_49 mf_X3_fill rfl (by decide) ⟨rfl, rfl⟩ ⟨le_b rfl, le_b rfl⟩ ⟨Nat.zero_le _, Nat.zero_le _⟩ (fun a h' e => mt_X3_fill e) rfl rfl (Nat.zero_le _) dX4_prepare_16 hw (fun h7 hw => ?_)
  refine R_aload_n (q := 0) (i := 0) (v := (some l0)) hc dX4_prepare_19 rfl rfl ?_
  refine R_getR hc fl_4_25 dX4_prepare_20 hw (fun t8 hw => ?_)
  refine R_iconst (v := (0 : Int32)) hc dX4_prepare_23 kI_0 ?_
  refine R_lconst (v := (1 : Int64)) hc dX4_prepare_24 kL_1 ?_
  refine R_lastore hc dX4_prepare_25 hw (fun h9 hw => ?_)
  refine R_aload_n (q := 0) (i := 0) (v := (some l0)) hc dX4_prepare_26 rfl rfl ?_
  refine R_getR hc fl_4_29 dX4_prepare_27 hw (fun t10 hw => ?_)
  refine R_iconst (v := (0 : Int32)) hc dX4_prepare_30 kI_0 ?_
  refine R_iconst (v := (0 : Int32)) hc dX4_prepare_31 kI_0 ?_
  refine R_iastore hc dX4_prepare_32 hw (fun h11 hw => ?_)
  refine R_aload_n (q := 0) (i := 0) (v := (some l0)) hc dX4_prepare_33 rfl rfl ?_
  refine R_getR hc fl_4_12 dX4_prepare_34 hw (fun t12 hw => ?_)
  refine R_cVI (As := []) (rest := []) (r := t12) (ci := 1) hc ml_4_42 mf_X1_allFingers rfl (by decide) ⟨rfl, rfl⟩ ⟨le_b rfl, le_b rfl⟩ ⟨Nat.zero_le _, Nat.zero_le _⟩ (fun a v e => mt_X1_allFingers e) rfl rfl (Nat.zero_le _) dX4_prepare_37 hw (fun t14 hw => ?_)
  refine R_istore_n (i := 1) (v := t14) hc [(1, .int t14), (0, rf x.w (some l0))] dX4_prepare_40 rfl (hnl 1 (le_b rfl)) rfl ?_
  refine R_iconst (v := (1 : Int32)) hc dX4_prepare_41 kI_1 ?_
  refine R_istore_n (i := 2) (v := (1 : Int32)) hc [(2, .int (1 : Int32)), (1, .int t14), (0, rf x.w (some l0))] dX4_prepare_42 rfl (hnl 2 (le_b rfl)) rfl ?_
  refine R_sub hc [2, 1, 0] rfl ?_
  refine R_loop (P := fun (s : (Int32 × HP)) => Rn x 0 0 43 [(0, rf x.w (some l0)), (1, .int t14), (2, .int s.1)] [] s.2) (fun h17 => Rn x 0 0 66 [] [] h17) hw (fun r hw => ?_) (fun X hX s hw => ?_)
  · revert r hw
    intro h17 hw
    show Rn x 0 0 66 [] [] h17
    exact R_return hc hret hQ hw dX4_prepare_66
  · obtain ⟨l2_19, h20⟩ := s
    show Rn x 0 0 43 [(0, rf x.w (some l0)), (1, .int t14), (2, .int l2_19)] [] h20
    have hw : wpO (sX4_prepare_L43 F l0 t14 l2_19 h20) _ := hw
    unfold sX4_prepare_L43 at hw
    refine R_iload_n (q := 2) (i := 2) (v := l2_19) hc dX4_prepare_43 rfl rfl ?_
    refine R_iload_n (q := 1) (i := 1) (v := t14) hc dX4_prepare_44 rfl rfl ?_
    refine R_icmp_gt (tgt := 66) hc dX4_prepare_45 (by decide) hw (fun hw => ?_) (fun hw => ?_)
    · refine R_sub hc [] rfl ?_
      exact (wpO_some hw :)
    · refine R_iload_n (q := 2) (i := 2) (v := l2_19) hc dX4_prepare_48 rfl rfl ?_
      refine R_sipush (v := (256 : Int32)) hc dX4_prepare_49 kS_256 ?_
      refine R_icmp_ge (tgt := 66) hc dX4_prepare_52 (by decide) hw (fun hw => ?_) (fun hw => ?_)
      · refine R_sub hc [] rfl ?_
        exact (wpO_some hw :)
      · refine R_aload_n (q := 0) (i := 0) (v := (some l0)) hc dX4_prepare_55 rfl rfl ?_
        refine R_iload_n (q := 2) (i := 2) (v := l2_19) hc dX4_prepare_56 rfl rfl ?_
        refine R_cVVi (As := [.int l2_19]) (rest := []) (r := (some l0)) (ci := 4) hc ml_4_53 mf_X4_weighSet rfl (by decide) ⟨rfl, rfl⟩ ⟨le_b rfl, le_b rfl⟩ ⟨Nat.zero_le _, Nat.zero_le _⟩ (fun a h' e => mt_X4_weighSet e) rfl rfl (Nat.zero_le _) dX4_prepare_57 hw (fun h16 hw => ?_)
        refine R_iinc (q := 2) (i := 2) (v := l2_19) hc [(2, .int (l2_19 + (1 : Int32))), (0, rf x.w (some l0)), (1, .int t14)] dX4_prepare_60 rfl (kC_1 _) (hnl 2 (le_b rfl)) rfl ?_
        refine R_goto (tgt := 43) hc dX4_prepare_63 (by decide) ?_
        refine R_sub hc [1, 2, 0] rfl ?_
        exact hX (l2_19 + (1 : Int32), h16) (wpO_some hw :)
