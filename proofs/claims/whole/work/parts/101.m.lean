theorem dX1_areJoined_0 : decode cX1_areJoined 0 = .ok (.aload_n 0, 1) := by decide +kernel
theorem dX1_areJoined_1 : decode cX1_areJoined 1 = .ok (.iload_n 1, 1) := by decide +kernel
theorem dX1_areJoined_2 : decode cX1_areJoined 2 = .ok (.invokevirtual 57, 3) := by decide +kernel
theorem dX1_areJoined_5 : decode cX1_areJoined 5 = .ok (.iload_n 2, 1) := by decide +kernel
theorem dX1_areJoined_6 : decode cX1_areJoined 6 = .ok (.iushr, 1) := by decide +kernel
theorem dX1_areJoined_7 : decode cX1_areJoined 7 = .ok (.iconst 1, 1) := by decide +kernel
theorem dX1_areJoined_8 : decode cX1_areJoined 8 = .ok (.iand, 1) := by decide +kernel
theorem dX1_areJoined_9 : decode cX1_areJoined 9 = .ok (.ifCond .eq 7, 3) := by decide +kernel
theorem dX1_areJoined_12 : decode cX1_areJoined 12 = .ok (.iconst 1, 1) := by decide +kernel
theorem dX1_areJoined_13 : decode cX1_areJoined 13 = .ok (.goto 4, 3) := by decide +kernel
theorem dX1_areJoined_16 : decode cX1_areJoined 16 = .ok (.iconst 0, 1) := by decide +kernel
theorem dX1_areJoined_17 : decode cX1_areJoined 17 = .ok (.ireturn, 1) := by decide +kernel
def sX1_areJoined (F : Nat) (l0 : Nat) (l1 : Int32) (l2 : Int32) (h : HP) : Option Int32 :=
  (dO h 1 (some l0)).bind fun a1 =>
  (sX1_joining F a1 l1 h).bind fun t2 =>
  if ((jush t2 l2) &&& (1 : Int32)) = 0 then
    some (0 : Int32)
  else
    some (1 : Int32)
abbrev rm_X1_areJoined : Room := { frames := 1, cells := 0, slots := 0, locals := 21 }
set_option maxRecDepth 100000 in
set_option maxHeartbeats 4000000 in
theorem mt_X1_areJoined {w : WD} {l : Launch} {F : Nat} {l0 : Nat} {l1 : Int32} {l2 : Int32} {h : HP} {v : Int32} (hs : sX1_areJoined F l0 l1 l2 h = some v) : MI w l yX1_areJoined cX1_areJoined 3 .boolean rm_X1_areJoined 0 0 [rf w (some l0), .int l1, .int l2] h v h := by
  refine of_body [(0, rf w (some l0)), (1, .int l1), (2, .int l2)] (by decide) (by simp [lg_sl, rf_cat, cat_i, cat_l, cat_a]) (by simp [lv_args, rf_cat, cat_i, cat_l, cat_a]) ?_
  intro x hw_ hnL_ hl_ hc hret hnm hQ
  subst hw_; subst hl_
  have hnl : ∀ i, i < 3 → i < x.nL := fun i h => by rw [hnL_]; exact h
  have hw : wpO (sX1_areJoined F l0 l1 l2 h) (fun r => r = v) := ⟨_, hs, rfl⟩
  unfold sX1_areJoined at hw
  refine R_aload_n (q := 0) (i := 0) (v := (some l0)) hc dX1_areJoined_0 rfl rfl ?_
  refine R_iload_n (q := 1) (i := 1) (v := l1) hc dX1_areJoined_1 rfl rfl ?_
  refine R_cVI (As := [.int l1]) (rest := []) (r := (some l0)) (ci := 1) hc ml_1_57 mf_X1_joining rfl (by decide) ⟨rfl, rfl⟩ ⟨le_b rfl, le_b rfl⟩ ⟨Nat.zero_le _, Nat.zero_le _⟩ (fun a v e => mt_X1_joining e) rfl rfl (Nat.zero_le _) dX1_areJoined_2 hw (fun t2 hw => ?_)
  refine R_iload_n (q := 2) (i := 2) (v := l2) hc dX1_areJoined_5 rfl rfl ?_
  refine R_iushr hc dX1_areJoined_6 ?_
  refine R_iconst (v := (1 : Int32)) hc dX1_areJoined_7 kI_1 ?_
  refine R_iand hc dX1_areJoined_8 ?_
  refine R_if_eq (tgt := 16) hc dX1_areJoined_9 (by decide) hw (fun hw => ?_) (fun hw => ?_)
  · refine R_iconst (v := (0 : Int32)) hc dX1_areJoined_16 kI_0 ?_
    exact R_ireturnP hc hret rfl hQ hw dX1_areJoined_17
  · refine R_iconst (v := (1 : Int32)) hc dX1_areJoined_12 kI_1 ?_
    refine R_goto (tgt := 17) hc dX1_areJoined_13 (by decide) ?_
    exact R_ireturnP hc hret rfl hQ hw dX1_areJoined_17
theorem dX7_joinsNext_0 : decode cX7_joinsNext 0 = .ok (.iload_n 2, 1) := by decide +kernel
theorem dX7_joinsNext_1 : decode cX7_joinsNext 1 = .ok (.iconst 1, 1) := by decide +kernel
theorem dX7_joinsNext_2 : decode cX7_joinsNext 2 = .ok (.iadd, 1) := by decide +kernel
theorem dX7_joinsNext_3 : decode cX7_joinsNext 3 = .ok (.aload_n 0, 1) := by decide +kernel
theorem dX7_joinsNext_4 : decode cX7_joinsNext 4 = .ok (.getfield 9, 3) := by decide +kernel
theorem dX7_joinsNext_7 : decode cX7_joinsNext 7 = .ok (.if_icmp .ge 28, 3) := by decide +kernel
theorem dX7_joinsNext_10 : decode cX7_joinsNext 10 = .ok (.aload_n 1, 1) := by decide +kernel
theorem dX7_joinsNext_11 : decode cX7_joinsNext 11 = .ok (.aload_n 0, 1) := by decide +kernel
theorem dX7_joinsNext_12 : decode cX7_joinsNext 12 = .ok (.getfield 15, 3) := by decide +kernel
theorem dX7_joinsNext_15 : decode cX7_joinsNext 15 = .ok (.iload_n 2, 1) := by decide +kernel
theorem dX7_joinsNext_16 : decode cX7_joinsNext 16 = .ok (.iaload, 1) := by decide +kernel
theorem dX7_joinsNext_17 : decode cX7_joinsNext 17 = .ok (.aload_n 0, 1) := by decide +kernel
theorem dX7_joinsNext_18 : decode cX7_joinsNext 18 = .ok (.getfield 15, 3) := by decide +kernel
theorem dX7_joinsNext_21 : decode cX7_joinsNext 21 = .ok (.iload_n 2, 1) := by decide +kernel
theorem dX7_joinsNext_22 : decode cX7_joinsNext 22 = .ok (.iconst 1, 1) := by decide +kernel
theorem dX7_joinsNext_23 : decode cX7_joinsNext 23 = .ok (.iadd, 1) := by decide +kernel
theorem dX7_joinsNext_24 : decode cX7_joinsNext 24 = .ok (.iaload, 1) := by decide +kernel
theorem dX7_joinsNext_25 : decode cX7_joinsNext 25 = .ok (.invokevirtual 23, 3) := by decide +kernel
theorem dX7_joinsNext_28 : decode cX7_joinsNext 28 = .ok (.ifCond .eq 7, 3) := by decide +kernel
theorem dX7_joinsNext_31 : decode cX7_joinsNext 31 = .ok (.iconst 1, 1) := by decide +kernel
theorem dX7_joinsNext_32 : decode cX7_joinsNext 32 = .ok (.goto 4, 3) := by decide +kernel
theorem dX7_joinsNext_35 : decode cX7_joinsNext 35 = .ok (.iconst 0, 1) := by decide +kernel
theorem dX7_joinsNext_36 : decode cX7_joinsNext 36 = .ok (.ireturn, 1) := by decide +kernel
def sX7_joinsNext (F : Nat) (l0 : Nat) (l1 : Option Nat) (l2 : Int32) (h : HP) : Option Int32 :=
  (gI h 7 (some l0) 0).bind fun t1 =>
  if t1 ≤ (l2 + (1 : Int32)) then
    some (0 : Int32)
  else
    (gR h 7 (some l0) 1).bind fun t2 =>
    (aI h 13 t2 l2).bind fun t3 =>
    (gR h 7 (some l0) 1).bind fun t4 =>
    (aI h 13 t4 (l2 + (1 : Int32))).bind fun t5 =>
    (dO h 1 l1).bind fun a6 =>
    (sX1_areJoined F a6 t3 t5 h).bind fun t7 =>
    if t7 = 0 then
      some (0 : Int32)
    else
      some (1 : Int32)
abbrev rm_X7_joinsNext : Room := { frames := 2, cells := 0, slots := 0, locals := 43 }
set_option maxRecDepth 100000 in
set_option maxHeartbeats 4000000 in
theorem mt_X7_joinsNext {w : WD} {l : Launch} {F : Nat} {l0 : Nat} {l1 : Option Nat} {l2 : Int32} {h : HP} {v : Int32} (hs : sX7_joinsNext F l0 l1 l2 h = some v) : MI w l yX7_joinsNext cX7_joinsNext 3 .boolean rm_X7_joinsNext 0 0 [rf w (some l0), rf w l1, .int l2] h v h := by
  refine of_body [(0, rf w (some l0)), (1, rf w l1), (2, .int l2)] (by decide) (by simp [lg_sl, rf_cat, cat_i, cat_l, cat_a]) (by simp [lv_args, rf_cat, cat_i, cat_l, cat_a]) ?_
  intro x hw_ hnL_ hl_ hc hret hnm hQ
  subst hw_; subst hl_
  have hnl : ∀ i, i < 3 → i < x.nL := fun i h => by rw [hnL_]; exact h
  have hw : wpO (sX7_joinsNext F l0 l1 l2 h) (fun r => r = v) := ⟨_, hs, rfl⟩
  unfold sX7_joinsNext at hw
  refine R_iload_n (q := 2) (i := 2) (v := l2) hc dX7_joinsNext_0 rfl rfl ?_
  refine R_iconst (v := (1 : Int32)) hc dX7_joinsNext_1 kI_1 ?_
  refine R_iadd hc dX7_joinsNext_2 ?_
  refine R_aload_n (q := 0) (i := 0) (v := (some l0)) hc dX7_joinsNext_3 rfl rfl ?_
  refine R_getI hc fl_7_9 dX7_joinsNext_4 hw (fun t1 hw => ?_)
  refine R_icmp_ge (tgt := 35) hc dX7_joinsNext_7 (by decide) hw (fun hw => ?_) (fun hw => ?_)
  · refine R_iconst (v := (0 : Int32)) hc dX7_joinsNext_35 kI_0 ?_
    exact R_ireturnP hc hret rfl hQ hw dX7_joinsNext_36
  · refine R_aload_n (q := 1) (i := 1) (v := l1) hc dX7_joinsNext_10 rfl rfl ?_
    refine R_aload_n (q := 0) (i := 0) (v := (some l0)) hc dX7_joinsNext_11 rfl rfl ?_
    refine R_getR hc fl_7_15 dX7_joinsNext_12 hw (fun t2 hw => ?_)
    refine R_iload_n (q := 2) (i := 2) (v := l2) hc dX7_joinsNext_15 rfl rfl ?_
    refine R_iaload hc dX7_joinsNext_16 hw (fun t3 hw => ?_)
    refine R_aload_n (q := 0) (i := 0) (v := (some l0)) hc dX7_joinsNext_17 rfl rfl ?_
    refine R_getR hc fl_7_15 dX7_joinsNext_18 hw (fun t4 hw => ?_)
    refine R_iload_n (q := 2) (i := 2) (v := l2) hc dX7_joinsNext_21 rfl rfl ?_
    refine R_iconst (v := (1 : Int32)) hc dX7_joinsNext_22 kI_1 ?_
    refine R_iadd hc dX7_joinsNext_23 ?_
    refine R_iaload hc dX7_joinsNext_24 hw (fun t5 hw => ?_)
    refine R_cVI (As := [.int t3, .int t5]) (rest := []) (r := l1) (ci := 1) hc ml_7_23 mf_X1_areJoined rfl (by decide) ⟨rfl, rfl⟩ ⟨le_b rfl, le_b rfl⟩ ⟨Nat.zero_le _, Nat.zero_le _⟩ (fun a v e => mt_X1_areJoined e) rfl rfl (Nat.zero_le _) dX7_joinsNext_25 hw (fun t7 hw => ?_)
    refine R_if_eq (tgt := 35) hc dX7_joinsNext_28 (by decide) hw (fun hw => ?_) (fun hw => ?_)
    · refine R_iconst (v := (0 : Int32)) hc dX7_joinsNext_35 kI_0 ?_
      exact R_ireturnP hc hret rfl hQ hw dX7_joinsNext_36
    · refine R_iconst (v := (1 : Int32)) hc dX7_joinsNext_31 kI_1 ?_
      refine R_goto (tgt := 36) hc dX7_joinsNext_32 (by decide) ?_
      exact R_ireturnP hc hret rfl hQ hw dX7_joinsNext_36
theorem dX2_put_0 : decode cX2_put 0 = .ok (.aload_n 0, 1) := by decide +kernel
theorem dX2_put_1 : decode cX2_put 1 = .ok (.getfield 31, 3) := by decide +kernel
theorem dX2_put_4 : decode cX2_put 4 = .ok (.bipush 24, 2) := by decide +kernel
theorem dX2_put_6 : decode cX2_put 6 = .ok (.if_icmp .ge 43, 3) := by decide +kernel
theorem dX2_put_9 : decode cX2_put 9 = .ok (.aload_n 0, 1) := by decide +kernel
theorem dX2_put_10 : decode cX2_put 10 = .ok (.getfield 9, 3) := by decide +kernel
theorem dX2_put_13 : decode cX2_put 13 = .ok (.aload_n 0, 1) := by decide +kernel
theorem dX2_put_14 : decode cX2_put 14 = .ok (.getfield 31, 3) := by decide +kernel
theorem dX2_put_17 : decode cX2_put 17 = .ok (.iload_n 1, 1) := by decide +kernel
theorem dX2_put_18 : decode cX2_put 18 = .ok (.iastore, 1) := by decide +kernel
theorem dX2_put_19 : decode cX2_put 19 = .ok (.aload_n 0, 1) := by decide +kernel
theorem dX2_put_20 : decode cX2_put 20 = .ok (.getfield 15, 3) := by decide +kernel
theorem dX2_put_23 : decode cX2_put 23 = .ok (.aload_n 0, 1) := by decide +kernel
theorem dX2_put_24 : decode cX2_put 24 = .ok (.getfield 31, 3) := by decide +kernel
theorem dX2_put_27 : decode cX2_put 27 = .ok (.iload_n 2, 1) := by decide +kernel
theorem dX2_put_28 : decode cX2_put 28 = .ok (.iastore, 1) := by decide +kernel
theorem dX2_put_29 : decode cX2_put 29 = .ok (.aload_n 0, 1) := by decide +kernel
theorem dX2_put_30 : decode cX2_put 30 = .ok (.getfield 18, 3) := by decide +kernel
theorem dX2_put_33 : decode cX2_put 33 = .ok (.aload_n 0, 1) := by decide +kernel
theorem dX2_put_34 : decode cX2_put 34 = .ok (.getfield 31, 3) := by decide +kernel
theorem dX2_put_37 : decode cX2_put 37 = .ok (.iload_n 3, 1) := by decide +kernel
theorem dX2_put_38 : decode cX2_put 38 = .ok (.iastore, 1) := by decide +kernel
theorem dX2_put_39 : decode cX2_put 39 = .ok (.aload_n 0, 1) := by decide +kernel
theorem dX2_put_40 : decode cX2_put 40 = .ok (.dup, 1) := by decide +kernel
theorem dX2_put_41 : decode cX2_put 41 = .ok (.getfield 31, 3) := by decide +kernel
theorem dX2_put_44 : decode cX2_put 44 = .ok (.iconst 1, 1) := by decide +kernel
theorem dX2_put_45 : decode cX2_put 45 = .ok (.iadd, 1) := by decide +kernel
theorem dX2_put_46 : decode cX2_put 46 = .ok (.putfield 31, 3) := by decide +kernel
theorem dX2_put_49 : decode cX2_put 49 = .ok (.return_, 1) := by decide +kernel
def sX2_put (F : Nat) (l0 : Nat) (l1 : Int32) (l2 : Int32) (l3 : Int32) (h : HP) : Option HP :=
  (gI h 2 (some l0) 2).bind fun t1 =>
  if (24 : Int32) ≤ t1 then
    some h
  else
    (gR h 2 (some l0) 3).bind fun t2 =>
    (gI h 2 (some l0) 2).bind fun t3 =>
    (sI h t2 t3 l1).bind fun h4 =>
    (gR h4 2 (some l0) 4).bind fun t5 =>
    (gI h4 2 (some l0) 2).bind fun t6 =>
    (sI h4 t5 t6 l2).bind fun h7 =>
    (gR h7 2 (some l0) 5).bind fun t8 =>
    (gI h7 2 (some l0) 2).bind fun t9 =>
    (sI h7 t8 t9 l3).bind fun h10 =>
    (gI h10 2 (some l0) 2).bind fun t11 =>
    (pI h10 2 (some l0) 2 (t11 + (1 : Int32))).bind fun h12 =>
    some h12
abbrev rm_X2_put : Room := { frames := 0, cells := 0, slots := 0, locals := 0 }
set_option maxRecDepth 100000 in
set_option maxHeartbeats 4000000 in
theorem mt_X2_put {w : WD} {l : Launch} {F : Nat} {l0 : Nat} {l1 : Int32} {l2 : Int32} {l3 : Int32} {h : HP} {h' : HP} (hs : sX2_put F l0 l1 l2 l3 h = some h') : MV w l yX2_put cX2_put 4 rm_X2_put 0 0 [rf w (some l0), .int l1, .int l2, .int l3] h h' := by
  refine of_body [(0, rf w (some l0)), (1, .int l1), (2, .int l2), (3, .int l3)] (by decide) (by simp [lg_sl, rf_cat, cat_i, cat_l, cat_a]) (by simp [lv_args, rf_cat, cat_i, cat_l, cat_a]) ?_
  intro x hw_ hnL_ hl_ hc hret hnm hQ
  subst hw_; subst hl_
  have hnl : ∀ i, i < 4 → i < x.nL := fun i h => by rw [hnL_]; exact h
  have hw : wpO (sX2_put F l0 l1 l2 l3 h) (fun r => r = h') := ⟨_, hs, rfl⟩
  unfold sX2_put at hw
  refine R_aload_n (q := 0) (i := 0) (v := (some l0)) hc dX2_put_0 rfl rfl ?_
  refine R_getI hc fl_2_31 dX2_put_1 hw (fun t1 hw => ?_)
  refine R_bipush (v := (24 : Int32)) hc dX2_put_4 kB_24 ?_
  refine R_icmp_ge (tgt := 49) hc dX2_put_6 (by decide) hw (fun hw => ?_) (fun hw => ?_)
  · exact R_return hc hret hQ hw dX2_put_49
  · refine R_aload_n (q := 0) (i := 0) (v := (some l0)) hc dX2_put_9 rfl rfl ?_
    refine R_getR hc fl_2_9 dX2_put_10 hw (fun t2 hw => ?_)
    refine R_aload_n (q := 0) (i := 0) (v := (some l0)) hc dX2_put_13 rfl rfl ?_
    refine R_getI hc fl_2_31 dX2_put_14 hw (fun t3 hw => ?_)
    refine R_iload_n (q := 1) (i := 1) (v := l1) hc dX2_put_17 rfl rfl ?_
    refine R_iastore hc dX2_put_18 hw (fun h4 hw => ?_)
    refine R_aload_n (q := 0) (i := 0) (v := (some l0)) hc dX2_put_19 rfl rfl ?_
    refine R_getR hc fl_2_15 dX2_put_20 hw (fun t5 hw => ?_)
    refine R_aload_n (q := 0) (i := 0) (v := (some l0)) hc dX2_put_23 rfl rfl ?_
    refine R_getI hc fl_2_31 dX2_put_24 hw (fun t6 hw => ?_)
    refine R_iload_n (q := 2) (i := 2) (v := l2) hc dX2_put_27 rfl rfl ?_
    refine R_iastore hc dX2_put_28 hw (fun h7 hw => ?_)
    refine R_aload_n (q := 0) (i := 0) (v := (some l0)) hc dX2_put_29 rfl rfl ?_
    refine R_getR hc fl_2_18 dX2_put_30 hw (fun t8 hw => ?_)
    refine R_aload_n (q := 0) (i := 0) (v := (some l0)) hc dX2_put_33 rfl rfl ?_
    refine R_getI hc fl_2_31 dX2_put_34 hw (fun t9 hw => ?_)
    refine R_iload_n (q := 3) (i := 3) (v := l3) hc dX2_put_37 rfl rfl ?_
    refine R_iastore hc dX2_put_38 hw (fun h10 hw => ?_)
    refine R_aload_n (q := 0) (i := 0) (v := (some l0)) hc dX2_put_39 rfl rfl ?_
    refine R_dup hc dX2_put_40 (rf_cat _ _) ?_
    refine R_getI hc fl_2_31 dX2_put_41 hw (fun t11 hw => ?_)
    refine R_iconst (v := (1 : Int32)) hc dX2_put_44 kI_1 ?_
    refine R_iadd hc dX2_put_45 ?_
    refine R_putI hc pl_2_31 rfl rfl dX2_put_46 hw (fun h12 hw => ?_)
    exact R_return hc hret hQ hw dX2_put_49
theorem dX7_fingerAt_0 : decode cX7_fingerAt 0 = .ok (.aload_n 0, 1) := by decide +kernel
theorem dX7_fingerAt_1 : decode cX7_fingerAt 1 = .ok (.getfield 15, 3) := by decide +kernel
theorem dX7_fingerAt_4 : decode cX7_fingerAt 4 = .ok (.iload_n 1, 1) := by decide +kernel
theorem dX7_fingerAt_5 : decode cX7_fingerAt 5 = .ok (.iaload, 1) := by decide +kernel
theorem dX7_fingerAt_6 : decode cX7_fingerAt 6 = .ok (.iconst 4, 1) := by decide +kernel
theorem dX7_fingerAt_7 : decode cX7_fingerAt 7 = .ok (.idiv, 1) := by decide +kernel
theorem dX7_fingerAt_8 : decode cX7_fingerAt 8 = .ok (.ireturn, 1) := by decide +kernel
def sX7_fingerAt (F : Nat) (l0 : Nat) (l1 : Int32) (h : HP) : Option Int32 :=
  (gR h 7 (some l0) 1).bind fun t1 =>
  (aI h 13 t1 l1).bind fun t2 =>
  some (t2 / (4 : Int32))
abbrev rm_X7_fingerAt : Room := { frames := 0, cells := 0, slots := 0, locals := 0 }
set_option maxRecDepth 100000 in
set_option maxHeartbeats 4000000 in
theorem mt_X7_fingerAt {w : WD} {l : Launch} {F : Nat} {l0 : Nat} {l1 : Int32} {h : HP} {v : Int32} (hs : sX7_fingerAt F l0 l1 h = some v) : MI w l yX7_fingerAt cX7_fingerAt 2 .int rm_X7_fingerAt 0 0 [rf w (some l0), .int l1] h v h := by
  refine of_body [(0, rf w (some l0)), (1, .int l1)] (by decide) (by simp [lg_sl, rf_cat, cat_i, cat_l, cat_a]) (by simp [lv_args, rf_cat, cat_i, cat_l, cat_a]) ?_
  intro x hw_ hnL_ hl_ hc hret hnm hQ
  subst hw_; subst hl_
  have hnl : ∀ i, i < 2 → i < x.nL := fun i h => by rw [hnL_]; exact h
  have hw : wpO (sX7_fingerAt F l0 l1 h) (fun r => r = v) := ⟨_, hs, rfl⟩
  unfold sX7_fingerAt at hw
  refine R_aload_n (q := 0) (i := 0) (v := (some l0)) hc dX7_fingerAt_0 rfl rfl ?_
  refine R_getR hc fl_7_15 dX7_fingerAt_1 hw (fun t1 hw => ?_)
  refine R_iload_n (q := 1) (i := 1) (v := l1) hc dX7_fingerAt_4 rfl rfl ?_
  refine R_iaload hc dX7_fingerAt_5 hw (fun t2 hw => ?_)
  refine R_iconst (v := (4 : Int32)) hc dX7_fingerAt_6 kI_4 ?_
  refine R_idivL hc dX7_fingerAt_7 (by decide) ?_
  exact R_ireturnP hc hret rfl hQ hw dX7_fingerAt_8
theorem dX1_gateOf_0 : decode cX1_gateOf 0 = .ok (.aload_n 0, 1) := by decide +kernel
theorem dX1_gateOf_1 : decode cX1_gateOf 1 = .ok (.aload_n 0, 1) := by decide +kernel
theorem dX1_gateOf_2 : decode cX1_gateOf 2 = .ok (.getfield 15, 3) := by decide +kernel
theorem dX1_gateOf_5 : decode cX1_gateOf 5 = .ok (.iload_n 1, 1) := by decide +kernel
theorem dX1_gateOf_6 : decode cX1_gateOf 6 = .ok (.iaload, 1) := by decide +kernel
theorem dX1_gateOf_7 : decode cX1_gateOf 7 = .ok (.iconst 0, 1) := by decide +kernel
theorem dX1_gateOf_8 : decode cX1_gateOf 8 = .ok (.invokevirtual 49, 3) := by decide +kernel
theorem dX1_gateOf_11 : decode cX1_gateOf 11 = .ok (.ireturn, 1) := by decide +kernel
def sX1_gateOf (F : Nat) (l0 : Nat) (l1 : Int32) (h : HP) : Option Int32 :=
  (gR h 1 (some l0) 8).bind fun t1 =>
  (aI h 13 t1 l1).bind fun t2 =>
  (dO h 1 (some l0)).bind fun a3 =>
  (sX1_partOf F a3 t2 (0 : Int32) h).bind fun t4 =>
  some t4
abbrev rm_X1_gateOf : Room := { frames := 1, cells := 0, slots := 0, locals := 22 }
set_option maxRecDepth 100000 in
set_option maxHeartbeats 4000000 in
theorem mt_X1_gateOf {w : WD} {l : Launch} {F : Nat} {l0 : Nat} {l1 : Int32} {h : HP} {v : Int32} (hs : sX1_gateOf F l0 l1 h = some v) : MI w l yX1_gateOf cX1_gateOf 2 .int rm_X1_gateOf 0 0 [rf w (some l0), .int l1] h v h := by
  refine of_body [(0, rf w (some l0)), (1, .int l1)] (by decide) (by simp [lg_sl, rf_cat, cat_i, cat_l, cat_a]) (by simp [lv_args, rf_cat, cat_i, cat_l, cat_a]) ?_
  intro x hw_ hnL_ hl_ hc hret hnm hQ
  subst hw_; subst hl_
  have hnl : ∀ i, i < 2 → i < x.nL := fun i h => by rw [hnL_]; exact h
  have hw : wpO (sX1_gateOf F l0 l1 h) (fun r => r = v) := ⟨_, hs, rfl⟩
  unfold sX1_gateOf at hw
  refine R_aload_n (q := 0) (i := 0) (v := (some l0)) hc dX1_gateOf_0 rfl rfl ?_
  refine R_aload_n (q := 0) (i := 0) (v := (some l0)) hc dX1_gateOf_1 rfl rfl ?_
  refine R_getR hc fl_1_15 dX1_gateOf_2 hw (fun t1 hw => ?_)
  refine R_iload_n (q := 1) (i := 1) (v := l1) hc dX1_gateOf_5 rfl rfl ?_
  refine R_iaload hc dX1_gateOf_6 hw (fun t2 hw => ?_)
  refine R_iconst (v := (0 : Int32)) hc dX1_gateOf_7 kI_0 ?_
  refine R_cVI (As := [.int t2, .int (0 : Int32)]) (rest := []) (r := (some l0)) (ci := 1) hc ml_1_49 mf_X1_partOf rfl (by decide) ⟨rfl, rfl⟩ ⟨le_b rfl, le_b rfl⟩ ⟨Nat.zero_le _, Nat.zero_le _⟩ (fun a v e => mt_X1_partOf e) rfl rfl (Nat.zero_le _) dX1_gateOf_8 hw (fun t4 hw => ?_)
  exact R_ireturnP hc hret rfl hQ hw dX1_gateOf_11
theorem dX2_draw_0 : decode cX2_draw 0 = .ok (.aload_n 0, 1) := by decide +kernel
theorem dX2_draw_1 : decode cX2_draw 1 = .ok (.iconst 0, 1) := by decide +kernel
theorem dX2_draw_2 : decode cX2_draw 2 = .ok (.putfield 24, 3) := by decide +kernel
theorem dX2_draw_5 : decode cX2_draw 5 = .ok (.aload_n 0, 1) := by decide +kernel
theorem dX2_draw_6 : decode cX2_draw 6 = .ok (.iconst 0, 1) := by decide +kernel
theorem dX2_draw_7 : decode cX2_draw 7 = .ok (.putfield 28, 3) := by decide +kernel
theorem dX2_draw_10 : decode cX2_draw 10 = .ok (.aload_n 0, 1) := by decide +kernel
theorem dX2_draw_11 : decode cX2_draw 11 = .ok (.iconst 0, 1) := by decide +kernel
theorem dX2_draw_12 : decode cX2_draw 12 = .ok (.putfield 31, 3) := by decide +kernel
theorem dX2_draw_15 : decode cX2_draw 15 = .ok (.iconst 0, 1) := by decide +kernel
theorem dX2_draw_16 : decode cX2_draw 16 = .ok (.istore_n 3, 1) := by decide +kernel
theorem dX2_draw_17 : decode cX2_draw 17 = .ok (.iload_n 3, 1) := by decide +kernel
theorem dX2_draw_18 : decode cX2_draw 18 = .ok (.aload_n 2, 1) := by decide +kernel
theorem dX2_draw_19 : decode cX2_draw 19 = .ok (.getfield 34, 3) := by decide +kernel
theorem dX2_draw_22 : decode cX2_draw 22 = .ok (.if_icmp .ge 153, 3) := by decide +kernel
theorem dX2_draw_25 : decode cX2_draw 25 = .ok (.aload_n 2, 1) := by decide +kernel
theorem dX2_draw_26 : decode cX2_draw 26 = .ok (.getfield 39, 3) := by decide +kernel
theorem dX2_draw_29 : decode cX2_draw 29 = .ok (.iload_n 3, 1) := by decide +kernel
theorem dX2_draw_30 : decode cX2_draw 30 = .ok (.iaload, 1) := by decide +kernel
theorem dX2_draw_31 : decode cX2_draw 31 = .ok (.istore 4, 2) := by decide +kernel
theorem dX2_draw_33 : decode cX2_draw 33 = .ok (.iload_n 3, 1) := by decide +kernel
theorem dX2_draw_34 : decode cX2_draw 34 = .ok (.ifCond .le 18, 3) := by decide +kernel
theorem dX2_draw_37 : decode cX2_draw 37 = .ok (.aload_n 2, 1) := by decide +kernel
theorem dX2_draw_38 : decode cX2_draw 38 = .ok (.aload_n 1, 1) := by decide +kernel
theorem dX2_draw_39 : decode cX2_draw 39 = .ok (.iload_n 3, 1) := by decide +kernel
theorem dX2_draw_40 : decode cX2_draw 40 = .ok (.iconst 1, 1) := by decide +kernel
theorem dX2_draw_41 : decode cX2_draw 41 = .ok (.isub, 1) := by decide +kernel
theorem dX2_draw_42 : decode cX2_draw 42 = .ok (.invokevirtual 42, 3) := by decide +kernel
theorem dX2_draw_45 : decode cX2_draw 45 = .ok (.ifCond .eq 7, 3) := by decide +kernel
theorem dX2_draw_48 : decode cX2_draw 48 = .ok (.iconst 1, 1) := by decide +kernel
theorem dX2_draw_49 : decode cX2_draw 49 = .ok (.goto 4, 3) := by decide +kernel
theorem dX2_draw_52 : decode cX2_draw 52 = .ok (.iconst 0, 1) := by decide +kernel
theorem dX2_draw_53 : decode cX2_draw 53 = .ok (.istore 5, 2) := by decide +kernel
theorem dX2_draw_55 : decode cX2_draw 55 = .ok (.iload_n 3, 1) := by decide +kernel
theorem dX2_draw_56 : decode cX2_draw 56 = .ok (.ifCond .le 41, 3) := by decide +kernel
theorem dX2_draw_59 : decode cX2_draw 59 = .ok (.iload 5, 2) := by decide +kernel
theorem dX2_draw_61 : decode cX2_draw 61 = .ok (.ifCond .ne 36, 3) := by decide +kernel
theorem dX2_draw_64 : decode cX2_draw 64 = .ok (.aload_n 0, 1) := by decide +kernel
theorem dX2_draw_65 : decode cX2_draw 65 = .ok (.dup, 1) := by decide +kernel
theorem dX2_draw_66 : decode cX2_draw 66 = .ok (.getfield 24, 3) := by decide +kernel
theorem dX2_draw_69 : decode cX2_draw 69 = .ok (.iconst 1, 1) := by decide +kernel
theorem dX2_draw_70 : decode cX2_draw 70 = .ok (.iadd, 1) := by decide +kernel
theorem dX2_draw_71 : decode cX2_draw 71 = .ok (.putfield 24, 3) := by decide +kernel
theorem dX2_draw_74 : decode cX2_draw 74 = .ok (.aload_n 0, 1) := by decide +kernel
theorem dX2_draw_75 : decode cX2_draw 75 = .ok (.dup, 1) := by decide +kernel
theorem dX2_draw_76 : decode cX2_draw 76 = .ok (.getfield 28, 3) := by decide +kernel
theorem dX2_draw_79 : decode cX2_draw 79 = .ok (.aload_n 1, 1) := by decide +kernel
theorem dX2_draw_80 : decode cX2_draw 80 = .ok (.aload_n 2, 1) := by decide +kernel
theorem dX2_draw_81 : decode cX2_draw 81 = .ok (.getfield 39, 3) := by decide +kernel
theorem dX2_draw_84 : decode cX2_draw 84 = .ok (.iload_n 3, 1) := by decide +kernel
theorem dX2_draw_85 : decode cX2_draw 85 = .ok (.iconst 1, 1) := by decide +kernel
theorem dX2_draw_86 : decode cX2_draw 86 = .ok (.isub, 1) := by decide +kernel
theorem dX2_draw_87 : decode cX2_draw 87 = .ok (.iaload, 1) := by decide +kernel
theorem dX2_draw_88 : decode cX2_draw 88 = .ok (.iload 4, 2) := by decide +kernel
theorem dX2_draw_90 : decode cX2_draw 90 = .ok (.invokevirtual 46, 3) := by decide +kernel
theorem dX2_draw_93 : decode cX2_draw 93 = .ok (.iadd, 1) := by decide +kernel
theorem dX2_draw_94 : decode cX2_draw 94 = .ok (.putfield 28, 3) := by decide +kernel
theorem dX2_draw_97 : decode cX2_draw 97 = .ok (.iload 5, 2) := by decide +kernel
theorem dX2_draw_99 : decode cX2_draw 99 = .ok (.ifCond .ne 24, 3) := by decide +kernel
theorem dX2_draw_102 : decode cX2_draw 102 = .ok (.aload_n 0, 1) := by decide +kernel
theorem dX2_draw_103 : decode cX2_draw 103 = .ok (.aload_n 1, 1) := by decide +kernel
theorem dX2_draw_104 : decode cX2_draw 104 = .ok (.iload 4, 2) := by decide +kernel
theorem dX2_draw_106 : decode cX2_draw 106 = .ok (.iconst 0, 1) := by decide +kernel
theorem dX2_draw_107 : decode cX2_draw 107 = .ok (.iconst 0, 1) := by decide +kernel
theorem dX2_draw_108 : decode cX2_draw 108 = .ok (.invokevirtual 52, 3) := by decide +kernel
theorem dX2_draw_111 : decode cX2_draw 111 = .ok (.aload_n 1, 1) := by decide +kernel
theorem dX2_draw_112 : decode cX2_draw 112 = .ok (.iload 4, 2) := by decide +kernel
theorem dX2_draw_114 : decode cX2_draw 114 = .ok (.iconst 1, 1) := by decide +kernel
theorem dX2_draw_115 : decode cX2_draw 115 = .ok (.iconst 0, 1) := by decide +kernel
theorem dX2_draw_116 : decode cX2_draw 116 = .ok (.invokevirtual 52, 3) := by decide +kernel
theorem dX2_draw_119 : decode cX2_draw 119 = .ok (.iconst (-1), 1) := by decide +kernel
theorem dX2_draw_120 : decode cX2_draw 120 = .ok (.invokevirtual 56, 3) := by decide +kernel
theorem dX2_draw_123 : decode cX2_draw 123 = .ok (.aload_n 0, 1) := by decide +kernel
theorem dX2_draw_124 : decode cX2_draw 124 = .ok (.getfield 21, 3) := by decide +kernel
theorem dX2_draw_127 : decode cX2_draw 127 = .ok (.iload_n 3, 1) := by decide +kernel
theorem dX2_draw_128 : decode cX2_draw 128 = .ok (.aload_n 0, 1) := by decide +kernel
theorem dX2_draw_129 : decode cX2_draw 129 = .ok (.getfield 31, 3) := by decide +kernel
theorem dX2_draw_132 : decode cX2_draw 132 = .ok (.iastore, 1) := by decide +kernel
theorem dX2_draw_133 : decode cX2_draw 133 = .ok (.aload_n 0, 1) := by decide +kernel
theorem dX2_draw_134 : decode cX2_draw 134 = .ok (.iconst (-1), 1) := by decide +kernel
theorem dX2_draw_135 : decode cX2_draw 135 = .ok (.iconst (-1), 1) := by decide +kernel
theorem dX2_draw_136 : decode cX2_draw 136 = .ok (.aload_n 1, 1) := by decide +kernel
theorem dX2_draw_137 : decode cX2_draw 137 = .ok (.aload_n 2, 1) := by decide +kernel
theorem dX2_draw_138 : decode cX2_draw 138 = .ok (.iload_n 3, 1) := by decide +kernel
theorem dX2_draw_139 : decode cX2_draw 139 = .ok (.invokevirtual 60, 3) := by decide +kernel
theorem dX2_draw_142 : decode cX2_draw 142 = .ok (.invokevirtual 64, 3) := by decide +kernel
theorem dX2_draw_145 : decode cX2_draw 145 = .ok (.invokevirtual 56, 3) := by decide +kernel
theorem dX2_draw_148 : decode cX2_draw 148 = .ok (.aload_n 0, 1) := by decide +kernel
theorem dX2_draw_149 : decode cX2_draw 149 = .ok (.aload_n 1, 1) := by decide +kernel
theorem dX2_draw_150 : decode cX2_draw 150 = .ok (.iload 4, 2) := by decide +kernel
theorem dX2_draw_152 : decode cX2_draw 152 = .ok (.iconst 0, 1) := by decide +kernel
theorem dX2_draw_153 : decode cX2_draw 153 = .ok (.iconst 1, 1) := by decide +kernel
theorem dX2_draw_154 : decode cX2_draw 154 = .ok (.invokevirtual 52, 3) := by decide +kernel
theorem dX2_draw_157 : decode cX2_draw 157 = .ok (.aload_n 1, 1) := by decide +kernel
theorem dX2_draw_158 : decode cX2_draw 158 = .ok (.iload 4, 2) := by decide +kernel
theorem dX2_draw_160 : decode cX2_draw 160 = .ok (.iconst 1, 1) := by decide +kernel
theorem dX2_draw_161 : decode cX2_draw 161 = .ok (.iconst 1, 1) := by decide +kernel
theorem dX2_draw_162 : decode cX2_draw 162 = .ok (.invokevirtual 52, 3) := by decide +kernel
theorem dX2_draw_165 : decode cX2_draw 165 = .ok (.iconst (-1), 1) := by decide +kernel
theorem dX2_draw_166 : decode cX2_draw 166 = .ok (.invokevirtual 56, 3) := by decide +kernel
theorem dX2_draw_169 : decode cX2_draw 169 = .ok (.iinc 3 1, 3) := by decide +kernel
theorem dX2_draw_172 : decode cX2_draw 172 = .ok (.goto (-155), 3) := by decide +kernel
theorem dX2_draw_175 : decode cX2_draw 175 = .ok (.return_, 1) := by decide +kernel
def sX2_draw_L17 (F : Nat) (l0 : Nat) (l1 : Option Nat) (l2 : Option Nat) (l3 : Int32) (h : HP) : Option ((Int32 × HP) ⊕ HP) :=
  (gI h 7 l2 0).bind fun t4 =>
  if t4 ≤ l3 then
    some (.inr h)
  else
    (gR h 7 l2 1).bind fun t5 =>
    (aI h 13 t5 l3).bind fun t6 =>
    (if l3 ≤ 0 then
        some (0 : Int32)
      else
        (dO h 7 l2).bind fun a8 =>
        (sX7_joinsNext F a8 l1 (l3 - (1 : Int32)) h).bind fun t9 =>
        if t9 = 0 then
          some (0 : Int32)
        else
          some (1 : Int32)).bind fun s7 =>
    (if l3 ≤ 0 then
        some h
      else
        if ¬ s7 = 0 then
          some h
        else
          (gI h 2 (some l0) 0).bind fun t11 =>
          (pI h 2 (some l0) 0 (t11 + (1 : Int32))).bind fun h12 =>
          (gI h12 2 (some l0) 1).bind fun t13 =>
          (gR h12 7 l2 1).bind fun t14 =>
          (aI h12 13 t14 (l3 - (1 : Int32))).bind fun t15 =>
          (dO h12 1 l1).bind fun a16 =>
          (sX1_breaksBetween F a16 t15 t6 h12).bind fun t17 =>
          (pI h12 2 (some l0) 1 (t13 + t17)).bind fun h18 =>
          some h18).bind fun h10 =>
    (if ¬ s7 = 0 then
        some h10
      else
        (dO h10 1 l1).bind fun a20 =>
        (sX1_netOf F a20 t6 (0 : Int32) (0 : Int32) h10).bind fun t21 =>
        (dO h10 1 l1).bind fun a22 =>
        (sX1_netOf F a22 t6 (1 : Int32) (0 : Int32) h10).bind fun t23 =>
        (dO h10 2 (some l0)).bind fun a24 =>
        (sX2_put F a24 t21 t23 (-1 : Int32) h10).bind fun h25 =>
        some h25).bind fun h19 =>
    (gR h19 2 (some l0) 6).bind fun t26 =>
    (gI h19 2 (some l0) 2).bind fun t27 =>
    (sI h19 t26 l3 t27).bind fun h28 =>
    (dO h28 7 l2).bind fun a29 =>
    (sX7_fingerAt F a29 l3 h28).bind fun t30 =>
    (dO h28 1 l1).bind fun a31 =>
    (sX1_gateOf F a31 t30 h28).bind fun t32 =>
    (dO h28 2 (some l0)).bind fun a33 =>
    (sX2_put F a33 (-1 : Int32) (-1 : Int32) t32 h28).bind fun h34 =>
    (dO h34 1 l1).bind fun a35 =>
    (sX1_netOf F a35 t6 (0 : Int32) (1 : Int32) h34).bind fun t36 =>
    (dO h34 1 l1).bind fun a37 =>
    (sX1_netOf F a37 t6 (1 : Int32) (1 : Int32) h34).bind fun t38 =>
    (dO h34 2 (some l0)).bind fun a39 =>
    (sX2_put F a39 t36 t38 (-1 : Int32) h34).bind fun h40 =>
    some (.inl (l3 + (1 : Int32), h40))
def sX2_draw (F : Nat) (l0 : Nat) (l1 : Option Nat) (l2 : Option Nat) (h : HP) : Option HP :=
  (pI h 2 (some l0) 0 (0 : Int32)).bind fun h1 =>
  (pI h1 2 (some l0) 1 (0 : Int32)).bind fun h2 =>
  (pI h2 2 (some l0) 2 (0 : Int32)).bind fun h3 =>
  (iter (fun s => sX2_draw_L17 F l0 l1 l2 s.1 s.2) F ((0 : Int32), h3)).bind fun h41 =>
    some h41
abbrev rm_X2_draw : Room := { frames := 3, cells := 0, slots := 0, locals := 65 }
set_option maxRecDepth 100000 in
set_option maxHeartbeats 4000000 in
theorem mt_X2_draw {w : WD} {l : Launch} {F : Nat} {l0 : Nat} {l1 : Option Nat} {l2 : Option Nat} {h : HP} {h' : HP} (hs : sX2_draw F l0 l1 l2 h = some h') : MV w l yX2_draw cX2_draw 6 rm_X2_draw 0 0 [rf w (some l0), rf w l1, rf w l2] h h' := by
  refine of_body [(0, rf w (some l0)), (1, rf w l1), (2, rf w l2)] (by decide) (by simp [lg_sl, rf_cat, cat_i, cat_l, cat_a]) (by simp [lv_args, rf_cat, cat_i, cat_l, cat_a]) ?_
  intro x hw_ hnL_ hl_ hc hret hnm hQ
  subst hw_; subst hl_
  have hnl : ∀ i, i < 6 → i < x.nL := fun i h => by rw [hnL_]; exact h
  have hw : wpO (sX2_draw F l0 l1 l2 h) (fun r => r = h') := ⟨_, hs, rfl⟩
  unfold sX2_draw at hw
  refine R_aload_n (q := 0) (i := 0) (v := (some l0)) hc dX2_draw_0 rfl rfl ?_
  refine R_iconst (v := (0 : Int32)) hc dX2_draw_1 kI_0 ?_
  refine R_putI hc pl_2_24 rfl rfl dX2_draw_2 hw (fun h1 hw => ?_)
  refine R_aload_n (q := 0) (i := 0) (v := (some l0)) hc dX2_draw_5 rfl rfl ?_
  refine R_iconst (v := (0 : Int32)) hc dX2_draw_6 kI_0 ?_
  refine R_putI hc pl_2_28 rfl rfl dX2_draw_7 hw (fun h2 hw => ?_)
  refine R_aload_n (q := 0) (i := 0) (v := (some l0)) hc dX2_draw_10 rfl rfl ?_
  refine R_iconst (v := (0 : Int32)) hc dX2_draw_11 kI_0 ?_
  refine R_putI hc pl_2_31 rfl rfl dX2_draw_12 hw (fun h3 hw => ?_)
  refine R_iconst (v := (0 : Int32)) hc dX2_draw_15 kI_0 ?_
  refine R_istore_n (i := 3) (v := (0 : Int32)) hc [(3, .int (0 : Int32)), (0, rf x.w (some l0)), (1, rf x.w l1), (2, rf x.w l2)] dX2_draw_16 rfl (hnl 3 (le_b rfl)) (by simp [rf_cat]) ?_
  refine R_sub hc [1, 2, 3, 0] rfl ?_
  refine R_loop (P := fun (s : (Int32 × HP)) => Rn x 0 0 17 [(0, rf x.w (some l0)), (1, rf x.w l1), (2, rf x.w l2), (3, .int s.1)] [] s.2) (fun h41 => Rn x 0 0 175 [] [] h41) hw (fun r hw => ?_) (fun X hX s hw => ?_)
  · revert r hw
    intro h41 hw
    show Rn x 0 0 175 [] [] h41
    exact R_return hc hret hQ hw dX2_draw_175
  · obtain ⟨l3_43, h44⟩ := s
    show Rn x 0 0 17 [(0, rf x.w (some l0)), (1, rf x.w l1), (2, rf x.w l2), (3, .int l3_43)] [] h44
    have hw : wpO (sX2_draw_L17 F l0 l1 l2 l3_43 h44) _ := hw
    unfold sX2_draw_L17 at hw
    refine R_iload_n (q := 3) (i := 3) (v := l3_43) hc dX2_draw_17 rfl rfl ?_
    refine R_aload_n (q := 2) (i := 2) (v := l2) hc dX2_draw_18 rfl rfl ?_
    refine R_getI hc fl_2_34 dX2_draw_19 hw (fun t4 hw => ?_)
    refine R_icmp_ge (tgt := 175) hc dX2_draw_22 (by decide) hw (fun hw => ?_) (fun hw => ?_)
    · refine R_sub hc [] rfl ?_
      exact (wpO_some hw :)
    · refine R_aload_n (q := 2) (i := 2) (v := l2) hc dX2_draw_25 rfl rfl ?_
      refine R_getR hc fl_2_39 dX2_draw_26 hw (fun t5 hw => ?_)
      refine R_iload_n (q := 3) (i := 3) (v := l3_43) hc dX2_draw_29 rfl rfl ?_
      refine R_iaload hc dX2_draw_30 hw (fun t6 hw => ?_)
      refine R_istore (i := 4) (v := t6) hc [(4, .int t6), (0, rf x.w (some l0)), (1, rf x.w l1), (2, rf x.w l2), (3, .int l3_43)] dX2_draw_31 (hnl 4 (le_b rfl)) rfl ?_
      refine R_iload_n (q := 4) (i := 3) (v := l3_43) hc dX2_draw_33 rfl rfl ?_
      refine R_join (fun (s7 : Int32) => Rn x 0 0 53 [(0, rf x.w (some l0)), (1, rf x.w l1), (2, rf x.w l2), (3, .int l3_43), (4, .int t6)] [.int s7] h44) hw (fun r hw => ?_) (fun hw => ?_)
      · revert r hw
        intro s7 hw
        show Rn x 0 0 53 [(0, rf x.w (some l0)), (1, rf x.w l1), (2, rf x.w l2), (3, .int l3_43), (4, .int t6)] [.int s7] h44
        refine R_istore (i := 5) (v := s7) hc [(5, .int s7), (0, rf x.w (some l0)), (1, rf x.w l1), (2, rf x.w l2), (3, .int l3_43), (4, .int t6)] dX2_draw_53 (hnl 5 (le_b rfl)) rfl ?_
        refine R_iload_n (q := 4) (i := 3) (v := l3_43) hc dX2_draw_55 rfl rfl ?_
        refine R_join (fun (h10 : HP) => Rn x 0 0 97 [(0, rf x.w (some l0)), (1, rf x.w l1), (2, rf x.w l2), (3, .int l3_43), (4, .int t6), (5, .int s7)] [] h10) hw (fun r hw => ?_) (fun hw => ?_)
        · revert r hw
          intro h10 hw
          show Rn x 0 0 97 [(0, rf x.w (some l0)), (1, rf x.w l1), (2, rf x.w l2), (3, .int l3_43), (4, .int t6), (5, .int s7)] [] h10
          refine R_iload (q := 5) (i := 5) (v := s7) hc dX2_draw_97 rfl ?_
          refine R_join (fun (h19 : HP) => Rn x 0 0 123 [(0, rf x.w (some l0)), (1, rf x.w l1), (2, rf x.w l2), (3, .int l3_43), (4, .int t6)] [] h19) hw (fun r hw => ?_) (fun hw => ?_)
          · revert r hw
            intro h19 hw
            show Rn x 0 0 123 [(0, rf x.w (some l0)), (1, rf x.w l1), (2, rf x.w l2), (3, .int l3_43), (4, .int t6)] [] h19
            refine R_aload_n (q := 0) (i := 0) (v := (some l0)) hc dX2_draw_123 rfl rfl ?_
            refine R_getR hc fl_2_21 dX2_draw_124 hw (fun t26 hw => ?_)
            refine R_iload_n (q := 3) (i := 3) (v := l3_43) hc dX2_draw_127 rfl rfl ?_
            refine R_aload_n (q := 0) (i := 0) (v := (some l0)) hc dX2_draw_128 rfl rfl ?_
            refine R_getI hc fl_2_31 dX2_draw_129 hw (fun t27 hw => ?_)
            refine R_iastore hc dX2_draw_132 hw (fun h28 hw => ?_)
            refine R_aload_n (q := 0) (i := 0) (v := (some l0)) hc dX2_draw_133 rfl rfl ?_
            refine R_iconst (v := (-1 : Int32)) hc dX2_draw_134 kI_m1 ?_
            refine R_iconst (v := (-1 : Int32)) hc dX2_draw_135 kI_m1 ?_
            refine R_aload_n (q := 1) (i := 1) (v := l1) hc dX2_draw_136 rfl rfl ?_
            refine R_aload_n (q := 2) (i := 2) (v := l2) hc dX2_draw_137 rfl rfl ?_
            refine R_iload_n (q := 3) (i := 3) (v := l3_43) hc dX2_draw_138 rfl rfl ?_
            refine R_cVI (As := [.int l3_43]) (rest := [rf x.w l1, .int (-1 : Int32), .int (-1 : Int32), rf x.w (some l0)]) (r := l2) (ci := 7) hc ml_2_60 mf_X7_fingerAt rfl (by decide) ⟨rfl, rfl⟩ ⟨le_b rfl, le_b rfl⟩ ⟨Nat.zero_le _, Nat.zero_le _⟩ (fun a v e => mt_X7_fingerAt e) rfl rfl (by simp [rf_cat, cat_i, cat_l, cat_a]) dX2_draw_139 hw (fun t30 hw => ?_)
            refine R_cVI (As := [.int t30]) (rest := [.int (-1 : Int32), .int (-1 : Int32), rf x.w (some l0)]) (r := l1) (ci := 1) hc ml_2_64 mf_X1_gateOf rfl (by decide) ⟨rfl, rfl⟩ ⟨le_b rfl, le_b rfl⟩ ⟨Nat.zero_le _, Nat.zero_le _⟩ (fun a v e => mt_X1_gateOf e) rfl rfl (le_b rfl) dX2_draw_142 hw (fun t32 hw => ?_)
            refine R_cVVi (As := [.int (-1 : Int32), .int (-1 : Int32), .int t32]) (rest := []) (r := (some l0)) (ci := 2) hc ml_2_56 mf_X2_put rfl (by decide) ⟨rfl, rfl⟩ ⟨le_b rfl, le_b rfl⟩ ⟨Nat.zero_le _, Nat.zero_le _⟩ (fun a h' e => mt_X2_put e) rfl rfl (Nat.zero_le _) dX2_draw_145 hw (fun h34 hw => ?_)
            refine R_aload_n (q := 0) (i := 0) (v := (some l0)) hc dX2_draw_148 rfl rfl ?_
            refine R_aload_n (q := 1) (i := 1) (v := l1) hc dX2_draw_149 rfl rfl ?_
            refine R_iload (q := 4) (i := 4) (v := t6) hc dX2_draw_150 rfl ?_
            refine R_iconst (v := (0 : Int32)) hc dX2_draw_152 kI_0 ?_
            refine R_iconst (v := (1 : Int32)) hc dX2_draw_153 kI_1 ?_
            refine R_cVI (As := [.int t6, .int (0 : Int32), .int (1 : Int32)]) (rest := [rf x.w (some l0)]) (r := l1) (ci := 1) hc ml_2_52 mf_X1_netOf rfl (by decide) ⟨rfl, rfl⟩ ⟨le_b rfl, le_b rfl⟩ ⟨Nat.zero_le _, Nat.zero_le _⟩ (fun a v e => mt_X1_netOf e) rfl rfl (le_b rfl) dX2_draw_154 hw (fun t36 hw => ?_)
            refine R_aload_n (q := 1) (i := 1) (v := l1) hc dX2_draw_157 rfl rfl ?_
            refine R_iload (q := 4) (i := 4) (v := t6) hc dX2_draw_158 rfl ?_
            refine R_iconst (v := (1 : Int32)) hc dX2_draw_160 kI_1 ?_
            refine R_iconst (v := (1 : Int32)) hc dX2_draw_161 kI_1 ?_
            refine R_cVI (As := [.int t6, .int (1 : Int32), .int (1 : Int32)]) (rest := [.int t36, rf x.w (some l0)]) (r := l1) (ci := 1) hc ml_2_52 mf_X1_netOf rfl (by decide) ⟨rfl, rfl⟩ ⟨le_b rfl, le_b rfl⟩ ⟨Nat.zero_le _, Nat.zero_le _⟩ (fun a v e => mt_X1_netOf e) rfl rfl (le_b rfl) dX2_draw_162 hw (fun t38 hw => ?_)
            refine R_iconst (v := (-1 : Int32)) hc dX2_draw_165 kI_m1 ?_
            refine R_cVVi (As := [.int t36, .int t38, .int (-1 : Int32)]) (rest := []) (r := (some l0)) (ci := 2) hc ml_2_56 mf_X2_put rfl (by decide) ⟨rfl, rfl⟩ ⟨le_b rfl, le_b rfl⟩ ⟨Nat.zero_le _, Nat.zero_le _⟩ (fun a h' e => mt_X2_put e) rfl rfl (Nat.zero_le _) dX2_draw_166 hw (fun h40 hw => ?_)
            refine R_iinc (q := 3) (i := 3) (v := l3_43) hc [(3, .int (l3_43 + (1 : Int32))), (0, rf x.w (some l0)), (1, rf x.w l1), (2, rf x.w l2), (4, .int t6)] dX2_draw_169 rfl (kC_1 _) (hnl 3 (le_b rfl)) (by simp [rf_cat]) ?_
            refine R_goto (tgt := 17) hc dX2_draw_172 (by decide) ?_
            refine R_sub hc [1, 2, 3, 0] rfl ?_
            exact hX (l3_43 + (1 : Int32), h40) (wpO_some hw :)
          · refine R_if_ne (tgt := 123) hc dX2_draw_99 (by decide) hw (fun hw => ?_) (fun hw => ?_)
            · refine R_sub hc [0, 1, 2, 3, 4] rfl ?_
              exact (wpO_some hw :)
            · refine R_aload_n (q := 0) (i := 0) (v := (some l0)) hc dX2_draw_102 rfl rfl ?_
              refine R_aload_n (q := 1) (i := 1) (v := l1) hc dX2_draw_103 rfl rfl ?_
              refine R_iload (q := 4) (i := 4) (v := t6) hc dX2_draw_104 rfl ?_
              refine R_iconst (v := (0 : Int32)) hc dX2_draw_106 kI_0 ?_
              refine R_iconst (v := (0 : Int32)) hc dX2_draw_107 kI_0 ?_
              refine R_cVI (As := [.int t6, .int (0 : Int32), .int (0 : Int32)]) (rest := [rf x.w (some l0)]) (r := l1) (ci := 1) hc ml_2_52 mf_X1_netOf rfl (by decide) ⟨rfl, rfl⟩ ⟨le_b rfl, le_b rfl⟩ ⟨Nat.zero_le _, Nat.zero_le _⟩ (fun a v e => mt_X1_netOf e) rfl rfl (le_b rfl) dX2_draw_108 hw (fun t21 hw => ?_)
              refine R_aload_n (q := 1) (i := 1) (v := l1) hc dX2_draw_111 rfl rfl ?_
              refine R_iload (q := 4) (i := 4) (v := t6) hc dX2_draw_112 rfl ?_
              refine R_iconst (v := (1 : Int32)) hc dX2_draw_114 kI_1 ?_
              refine R_iconst (v := (0 : Int32)) hc dX2_draw_115 kI_0 ?_
              refine R_cVI (As := [.int t6, .int (1 : Int32), .int (0 : Int32)]) (rest := [.int t21, rf x.w (some l0)]) (r := l1) (ci := 1) hc ml_2_52 mf_X1_netOf rfl (by decide) ⟨rfl, rfl⟩ ⟨le_b rfl, le_b rfl⟩ ⟨Nat.zero_le _, Nat.zero_le _⟩ (fun a v e => mt_X1_netOf e) rfl rfl (le_b rfl) dX2_draw_116 hw (fun t23 hw => ?_)
              refine R_iconst (v := (-1 : Int32)) hc dX2_draw_119 kI_m1 ?_
              refine R_cVVi (As := [.int t21, .int t23, .int (-1 : Int32)]) (rest := []) (r := (some l0)) (ci := 2) hc ml_2_56 mf_X2_put rfl (by decide) ⟨rfl, rfl⟩ ⟨le_b rfl, le_b rfl⟩ ⟨Nat.zero_le _, Nat.zero_le _⟩ (fun a h' e => mt_X2_put e) rfl rfl (Nat.zero_le _) dX2_draw_120 hw (fun h25 hw => ?_)
              refine R_sub hc [0, 1, 2, 3, 4] rfl ?_
              exact (wpO_some hw :)
        · refine R_if_le (tgt := 97) hc dX2_draw_56 (by decide) hw (fun hw => ?_) (fun hw => ?_)
          · refine R_sub hc [1, 2, 3, 4, 5, 0] rfl ?_
            exact (wpO_some hw :)
          · refine R_iload (q := 0) (i := 5) (v := s7) hc dX2_draw_59 rfl ?_
            refine R_if_ne (tgt := 97) hc dX2_draw_61 (by decide) hw (fun hw => ?_) (fun hw => ?_)
            · refine R_sub hc [1, 2, 3, 4, 5, 0] rfl ?_
              exact (wpO_some hw :)
            · refine R_aload_n (q := 1) (i := 0) (v := (some l0)) hc dX2_draw_64 rfl rfl ?_
              refine R_dup hc dX2_draw_65 (rf_cat _ _) ?_
              refine R_getI hc fl_2_24 dX2_draw_66 hw (fun t11 hw => ?_)
              refine R_iconst (v := (1 : Int32)) hc dX2_draw_69 kI_1 ?_
              refine R_iadd hc dX2_draw_70 ?_
              refine R_putI hc pl_2_24 rfl rfl dX2_draw_71 hw (fun h12 hw => ?_)
              refine R_aload_n (q := 1) (i := 0) (v := (some l0)) hc dX2_draw_74 rfl rfl ?_
              refine R_dup hc dX2_draw_75 (rf_cat _ _) ?_
              refine R_getI hc fl_2_28 dX2_draw_76 hw (fun t13 hw => ?_)
              refine R_aload_n (q := 2) (i := 1) (v := l1) hc dX2_draw_79 rfl rfl ?_
              refine R_aload_n (q := 3) (i := 2) (v := l2) hc dX2_draw_80 rfl rfl ?_
              refine R_getR hc fl_2_39 dX2_draw_81 hw (fun t14 hw => ?_)
              refine R_iload_n (q := 4) (i := 3) (v := l3_43) hc dX2_draw_84 rfl rfl ?_
              refine R_iconst (v := (1 : Int32)) hc dX2_draw_85 kI_1 ?_
              refine R_isub hc dX2_draw_86 ?_
              refine R_iaload hc dX2_draw_87 hw (fun t15 hw => ?_)
              refine R_iload (q := 5) (i := 4) (v := t6) hc dX2_draw_88 rfl ?_
              refine R_cVI (As := [.int t15, .int t6]) (rest := [.int t13, rf x.w (some l0)]) (r := l1) (ci := 1) hc ml_2_46 mf_X1_breaksBetween rfl (by decide) ⟨rfl, rfl⟩ ⟨le_b rfl, le_b rfl⟩ ⟨Nat.zero_le _, Nat.zero_le _⟩ (fun a v e => mt_X1_breaksBetween e) rfl rfl (le_b rfl) dX2_draw_90 hw (fun t17 hw => ?_)
              refine R_iadd hc dX2_draw_93 ?_
              refine R_putI hc pl_2_28 rfl rfl dX2_draw_94 hw (fun h18 hw => ?_)
              refine R_sub hc [1, 2, 3, 4, 5, 0] rfl ?_
              exact (wpO_some hw :)
      · refine R_if_le (tgt := 52) hc dX2_draw_34 (by decide) hw (fun hw => ?_) (fun hw => ?_)
        · refine R_iconst (v := (0 : Int32)) hc dX2_draw_52 kI_0 ?_
          refine R_sub hc [1, 2, 3, 4, 0] rfl ?_
          exact (wpO_some hw :)
        · refine R_aload_n (q := 3) (i := 2) (v := l2) hc dX2_draw_37 rfl rfl ?_
          refine R_aload_n (q := 2) (i := 1) (v := l1) hc dX2_draw_38 rfl rfl ?_
          refine R_iload_n (q := 4) (i := 3) (v := l3_43) hc dX2_draw_39 rfl rfl ?_
          refine R_iconst (v := (1 : Int32)) hc dX2_draw_40 kI_1 ?_
          refine R_isub hc dX2_draw_41 ?_
          refine R_cVI (As := [rf x.w l1, .int (l3_43 - (1 : Int32))]) (rest := []) (r := l2) (ci := 7) hc ml_2_42 mf_X7_joinsNext rfl (by decide) ⟨rfl, rfl⟩ ⟨le_b rfl, le_b rfl⟩ ⟨Nat.zero_le _, Nat.zero_le _⟩ (fun a v e => mt_X7_joinsNext e) rfl rfl (Nat.zero_le _) dX2_draw_42 hw (fun t9 hw => ?_)
          refine R_if_eq (tgt := 52) hc dX2_draw_45 (by decide) hw (fun hw => ?_) (fun hw => ?_)
          · refine R_iconst (v := (0 : Int32)) hc dX2_draw_52 kI_0 ?_
            refine R_sub hc [1, 2, 3, 4, 0] rfl ?_
            exact (wpO_some hw :)
          · refine R_iconst (v := (1 : Int32)) hc dX2_draw_48 kI_1 ?_
            refine R_goto (tgt := 53) hc dX2_draw_49 (by decide) ?_
            refine R_sub hc [1, 2, 3, 4, 0] rfl ?_
            exact (wpO_some hw :)
theorem dX9_note_0 : decode cX9_note 0 = .ok (.iload_n 1, 1) := by decide +kernel
theorem dX9_note_1 : decode cX9_note 1 = .ok (.iconst (-1), 1) := by decide +kernel
theorem dX9_note_2 : decode cX9_note 2 = .ok (.if_icmp .eq 13, 3) := by decide +kernel
theorem dX9_note_5 : decode cX9_note 5 = .ok (.aload_n 0, 1) := by decide +kernel
theorem dX9_note_6 : decode cX9_note 6 = .ok (.getfield 15, 3) := by decide +kernel
theorem dX9_note_9 : decode cX9_note 9 = .ok (.iload_n 1, 1) := by decide +kernel
theorem dX9_note_10 : decode cX9_note 10 = .ok (.iaload, 1) := by decide +kernel
theorem dX9_note_11 : decode cX9_note 11 = .ok (.iload_n 2, 1) := by decide +kernel
theorem dX9_note_12 : decode cX9_note 12 = .ok (.if_icmp .ne 4, 3) := by decide +kernel
theorem dX9_note_15 : decode cX9_note 15 = .ok (.return_, 1) := by decide +kernel
theorem dX9_note_16 : decode cX9_note 16 = .ok (.aload_n 0, 1) := by decide +kernel
theorem dX9_note_17 : decode cX9_note 17 = .ok (.getfield 9, 3) := by decide +kernel
theorem dX9_note_20 : decode cX9_note 20 = .ok (.iload_n 1, 1) := by decide +kernel
theorem dX9_note_21 : decode cX9_note 21 = .ok (.iaload, 1) := by decide +kernel
theorem dX9_note_22 : decode cX9_note 22 = .ok (.iconst (-1), 1) := by decide +kernel
theorem dX9_note_23 : decode cX9_note 23 = .ok (.if_icmp .ne 10, 3) := by decide +kernel
theorem dX9_note_26 : decode cX9_note 26 = .ok (.aload_n 0, 1) := by decide +kernel
theorem dX9_note_27 : decode cX9_note 27 = .ok (.getfield 9, 3) := by decide +kernel
theorem dX9_note_30 : decode cX9_note 30 = .ok (.iload_n 1, 1) := by decide +kernel
theorem dX9_note_31 : decode cX9_note 31 = .ok (.iload_n 2, 1) := by decide +kernel
theorem dX9_note_32 : decode cX9_note 32 = .ok (.iastore, 1) := by decide +kernel
theorem dX9_note_33 : decode cX9_note 33 = .ok (.aload_n 0, 1) := by decide +kernel
theorem dX9_note_34 : decode cX9_note 34 = .ok (.getfield 15, 3) := by decide +kernel
theorem dX9_note_37 : decode cX9_note 37 = .ok (.iload_n 1, 1) := by decide +kernel
theorem dX9_note_38 : decode cX9_note 38 = .ok (.iload_n 2, 1) := by decide +kernel
theorem dX9_note_39 : decode cX9_note 39 = .ok (.iastore, 1) := by decide +kernel
theorem dX9_note_40 : decode cX9_note 40 = .ok (.aload_n 0, 1) := by decide +kernel
theorem dX9_note_41 : decode cX9_note 41 = .ok (.getfield 18, 3) := by decide +kernel
theorem dX9_note_44 : decode cX9_note 44 = .ok (.iload_n 1, 1) := by decide +kernel
theorem dX9_note_45 : decode cX9_note 45 = .ok (.dup2, 1) := by decide +kernel
theorem dX9_note_46 : decode cX9_note 46 = .ok (.iaload, 1) := by decide +kernel
theorem dX9_note_47 : decode cX9_note 47 = .ok (.iconst 1, 1) := by decide +kernel
theorem dX9_note_48 : decode cX9_note 48 = .ok (.iadd, 1) := by decide +kernel
theorem dX9_note_49 : decode cX9_note 49 = .ok (.iastore, 1) := by decide +kernel
theorem dX9_note_50 : decode cX9_note 50 = .ok (.return_, 1) := by decide +kernel
def sX9_note (F : Nat) (l0 : Nat) (l1 : Int32) (l2 : Int32) (h : HP) : Option HP :=
  if l1 = (-1 : Int32) then
    some h
  else
    (gR h 9 (some l0) 2).bind fun t1 =>
    (aI h 13 t1 l1).bind fun t2 =>
    if ¬ t2 = l2 then
      (gR h 9 (some l0) 1).bind fun t3 =>
      (aI h 13 t3 l1).bind fun t4 =>
      (if ¬ t4 = (-1 : Int32) then
          some h
        else
          (gR h 9 (some l0) 1).bind fun t6 =>
          (sI h t6 l1 l2).bind fun h7 =>
          some h7).bind fun h5 =>
      (gR h5 9 (some l0) 2).bind fun t8 =>
      (sI h5 t8 l1 l2).bind fun h9 =>
      (gR h9 9 (some l0) 3).bind fun t10 =>
      (aI h9 13 t10 l1).bind fun t11 =>
      (sI h9 t10 l1 (t11 + (1 : Int32))).bind fun h12 =>
      some h12
    else
      some h
abbrev rm_X9_note : Room := { frames := 0, cells := 0, slots := 0, locals := 0 }
set_option maxRecDepth 100000 in
set_option maxHeartbeats 4000000 in
theorem mt_X9_note {w : WD} {l : Launch} {F : Nat} {l0 : Nat} {l1 : Int32} {l2 : Int32} {h : HP} {h' : HP} (hs : sX9_note F l0 l1 l2 h = some h') : MV w l yX9_note cX9_note 3 rm_X9_note 0 0 [rf w (some l0), .int l1, .int l2] h h' := by
  refine of_body [(0, rf w (some l0)), (1, .int l1), (2, .int l2)] (by decide) (by simp [lg_sl, rf_cat, cat_i, cat_l, cat_a]) (by simp [lv_args, rf_cat, cat_i, cat_l, cat_a]) ?_
  intro x hw_ hnL_ hl_ hc hret hnm hQ
  subst hw_; subst hl_
  have hnl : ∀ i, i < 3 → i < x.nL := fun i h => by rw [hnL_]; exact h
  have hw : wpO (sX9_note F l0 l1 l2 h) (fun r => r = h') := ⟨_, hs, rfl⟩
  unfold sX9_note at hw
  refine R_iload_n (q := 1) (i := 1) (v := l1) hc dX9_note_0 rfl rfl ?_
  refine R_iconst (v := (-1 : Int32)) hc dX9_note_1 kI_m1 ?_
  refine R_icmp_eq (tgt := 15) hc dX9_note_2 (by decide) hw (fun hw => ?_) (fun hw => ?_)
  · exact R_return hc hret hQ hw dX9_note_15
  · refine R_aload_n (q := 0) (i := 0) (v := (some l0)) hc dX9_note_5 rfl rfl ?_
    refine R_getR hc fl_9_15 dX9_note_6 hw (fun t1 hw => ?_)
    refine R_iload_n (q := 1) (i := 1) (v := l1) hc dX9_note_9 rfl rfl ?_
    refine R_iaload hc dX9_note_10 hw (fun t2 hw => ?_)
    refine R_iload_n (q := 2) (i := 2) (v := l2) hc dX9_note_11 rfl rfl ?_
    refine R_icmp_ne (tgt := 16) hc dX9_note_12 (by decide) hw (fun hw => ?_) (fun hw => ?_)
    · refine R_aload_n (q := 0) (i := 0) (v := (some l0)) hc dX9_note_16 rfl rfl ?_
      refine R_getR hc fl_9_9 dX9_note_17 hw (fun t3 hw => ?_)
      refine R_iload_n (q := 1) (i := 1) (v := l1) hc dX9_note_20 rfl rfl ?_
      refine R_iaload hc dX9_note_21 hw (fun t4 hw => ?_)
      refine R_iconst (v := (-1 : Int32)) hc dX9_note_22 kI_m1 ?_
      refine R_join (fun (h5 : HP) => Rn x 0 0 33 [(0, rf x.w (some l0)), (1, .int l1), (2, .int l2)] [] h5) hw (fun r hw => ?_) (fun hw => ?_)
      · revert r hw
        intro h5 hw
        show Rn x 0 0 33 [(0, rf x.w (some l0)), (1, .int l1), (2, .int l2)] [] h5
        refine R_aload_n (q := 0) (i := 0) (v := (some l0)) hc dX9_note_33 rfl rfl ?_
        refine R_getR hc fl_9_15 dX9_note_34 hw (fun t8 hw => ?_)
        refine R_iload_n (q := 1) (i := 1) (v := l1) hc dX9_note_37 rfl rfl ?_
        refine R_iload_n (q := 2) (i := 2) (v := l2) hc dX9_note_38 rfl rfl ?_
        refine R_iastore hc dX9_note_39 hw (fun h9 hw => ?_)
        refine R_aload_n (q := 0) (i := 0) (v := (some l0)) hc dX9_note_40 rfl rfl ?_
        refine R_getR hc fl_9_18 dX9_note_41 hw (fun t10 hw => ?_)
        refine R_iload_n (q := 1) (i := 1) (v := l1) hc dX9_note_44 rfl rfl ?_
        refine R_dup2 hc dX9_note_45 rfl (rf_cat _ _) ?_
        refine R_iaload hc dX9_note_46 hw (fun t11 hw => ?_)
        refine R_iconst (v := (1 : Int32)) hc dX9_note_47 kI_1 ?_
        refine R_iadd hc dX9_note_48 ?_
        refine R_iastore hc dX9_note_49 hw (fun h12 hw => ?_)
        exact R_return hc hret hQ hw dX9_note_50
      · refine R_icmp_ne (tgt := 33) hc dX9_note_23 (by decide) hw (fun hw => ?_) (fun hw => ?_)
        · refine R_sub hc [0, 1, 2] rfl ?_
          exact (wpO_some hw :)
        · refine R_aload_n (q := 0) (i := 0) (v := (some l0)) hc dX9_note_26 rfl rfl ?_
          refine R_getR hc fl_9_9 dX9_note_27 hw (fun t6 hw => ?_)
          refine R_iload_n (q := 1) (i := 1) (v := l1) hc dX9_note_30 rfl rfl ?_
          refine R_iload_n (q := 2) (i := 2) (v := l2) hc dX9_note_31 rfl rfl ?_
          refine R_iastore hc dX9_note_32 hw (fun h7 hw => ?_)
          refine R_sub hc [0, 1, 2] rfl ?_
          exact (wpO_some hw :)
    · exact R_return hc hret hQ hw dX9_note_15
theorem dX6_collect_0 : decode cX6_collect 0 = .ok (.aload_n 0, 1) := by decide +kernel
theorem dX6_collect_1 : decode cX6_collect 1 = .ok (.iconst 0, 1) := by decide +kernel
theorem dX6_collect_2 : decode cX6_collect 2 = .ok (.putfield 26, 3) := by decide +kernel
theorem dX6_collect_5 : decode cX6_collect 5 = .ok (.iconst 0, 1) := by decide +kernel
theorem dX6_collect_6 : decode cX6_collect 6 = .ok (.istore_n 3, 1) := by decide +kernel
theorem dX6_collect_7 : decode cX6_collect 7 = .ok (.iload_n 3, 1) := by decide +kernel
theorem dX6_collect_8 : decode cX6_collect 8 = .ok (.bipush 12, 2) := by decide +kernel
theorem dX6_collect_10 : decode cX6_collect 10 = .ok (.if_icmp .ge 65, 3) := by decide +kernel
theorem dX6_collect_13 : decode cX6_collect 13 = .ok (.aload_n 2, 1) := by decide +kernel
theorem dX6_collect_14 : decode cX6_collect 14 = .ok (.getfield 47, 3) := by decide +kernel
theorem dX6_collect_17 : decode cX6_collect 17 = .ok (.iload_n 3, 1) := by decide +kernel
theorem dX6_collect_18 : decode cX6_collect 18 = .ok (.iconst (-1), 1) := by decide +kernel
theorem dX6_collect_19 : decode cX6_collect 19 = .ok (.iastore, 1) := by decide +kernel
theorem dX6_collect_20 : decode cX6_collect 20 = .ok (.aload_n 1, 1) := by decide +kernel
theorem dX6_collect_21 : decode cX6_collect 21 = .ok (.getfield 56, 3) := by decide +kernel
theorem dX6_collect_24 : decode cX6_collect 24 = .ok (.iload_n 3, 1) := by decide +kernel
theorem dX6_collect_25 : decode cX6_collect 25 = .ok (.invokestatic 59, 3) := by decide +kernel
theorem dX6_collect_28 : decode cX6_collect 28 = .ok (.ifCond .eq 41, 3) := by decide +kernel
theorem dX6_collect_31 : decode cX6_collect 31 = .ok (.aload_n 2, 1) := by decide +kernel
theorem dX6_collect_32 : decode cX6_collect 32 = .ok (.getfield 63, 3) := by decide +kernel
theorem dX6_collect_35 : decode cX6_collect 35 = .ok (.iload_n 3, 1) := by decide +kernel
theorem dX6_collect_36 : decode cX6_collect 36 = .ok (.iaload, 1) := by decide +kernel
theorem dX6_collect_37 : decode cX6_collect 37 = .ok (.ifCond .le 32, 3) := by decide +kernel
theorem dX6_collect_40 : decode cX6_collect 40 = .ok (.aload_n 0, 1) := by decide +kernel
theorem dX6_collect_41 : decode cX6_collect 41 = .ok (.getfield 26, 3) := by decide +kernel
theorem dX6_collect_44 : decode cX6_collect 44 = .ok (.bipush 6, 2) := by decide +kernel
theorem dX6_collect_46 : decode cX6_collect 46 = .ok (.if_icmp .ge 23, 3) := by decide +kernel
theorem dX6_collect_49 : decode cX6_collect 49 = .ok (.aload_n 0, 1) := by decide +kernel
theorem dX6_collect_50 : decode cX6_collect 50 = .ok (.getfield 9, 3) := by decide +kernel
theorem dX6_collect_53 : decode cX6_collect 53 = .ok (.aload_n 0, 1) := by decide +kernel
theorem dX6_collect_54 : decode cX6_collect 54 = .ok (.getfield 26, 3) := by decide +kernel
theorem dX6_collect_57 : decode cX6_collect 57 = .ok (.iload_n 3, 1) := by decide +kernel
theorem dX6_collect_58 : decode cX6_collect 58 = .ok (.iastore, 1) := by decide +kernel
theorem dX6_collect_59 : decode cX6_collect 59 = .ok (.aload_n 0, 1) := by decide +kernel
theorem dX6_collect_60 : decode cX6_collect 60 = .ok (.dup, 1) := by decide +kernel
theorem dX6_collect_61 : decode cX6_collect 61 = .ok (.getfield 26, 3) := by decide +kernel
theorem dX6_collect_64 : decode cX6_collect 64 = .ok (.iconst 1, 1) := by decide +kernel
theorem dX6_collect_65 : decode cX6_collect 65 = .ok (.iadd, 1) := by decide +kernel
theorem dX6_collect_66 : decode cX6_collect 66 = .ok (.putfield 26, 3) := by decide +kernel
theorem dX6_collect_69 : decode cX6_collect 69 = .ok (.iinc 3 1, 3) := by decide +kernel
theorem dX6_collect_72 : decode cX6_collect 72 = .ok (.goto (-65), 3) := by decide +kernel
theorem dX6_collect_75 : decode cX6_collect 75 = .ok (.return_, 1) := by decide +kernel
def sX6_collect_L7 (F : Nat) (l0 : Nat) (l1 : Option Nat) (l2 : Option Nat) (l3 : Int32) (h : HP) : Option ((Int32 × HP) ⊕ HP) :=
  if (12 : Int32) ≤ l3 then
    some (.inr h)
  else
    (gR h 9 l2 4).bind fun t2 =>
    (sI h t2 l3 (-1 : Int32)).bind fun h3 =>
    (gI h3 1 l1 3).bind fun t4 =>
    (sX10_has F t4 l3 h3).bind fun t5 =>
    if t5 = 0 then
      some (.inl (l3 + (1 : Int32), h3))
    else
      (gR h3 9 l2 3).bind fun t6 =>
      (aI h3 13 t6 l3).bind fun t7 =>
      if t7 ≤ 0 then
        some (.inl (l3 + (1 : Int32), h3))
      else
        (gI h3 6 (some l0) 0).bind fun t8 =>
        if (6 : Int32) ≤ t8 then
          some (.inl (l3 + (1 : Int32), h3))
        else
          (gR h3 6 (some l0) 1).bind fun t9 =>
          (gI h3 6 (some l0) 0).bind fun t10 =>
          (sI h3 t9 t10 l3).bind fun h11 =>
          (gI h11 6 (some l0) 0).bind fun t12 =>
          (pI h11 6 (some l0) 0 (t12 + (1 : Int32))).bind fun h13 =>
          some (.inl (l3 + (1 : Int32), h13))
def sX6_collect (F : Nat) (l0 : Nat) (l1 : Option Nat) (l2 : Option Nat) (h : HP) : Option HP :=
  (pI h 6 (some l0) 0 (0 : Int32)).bind fun h1 =>
  (iter (fun s => sX6_collect_L7 F l0 l1 l2 s.1 s.2) F ((0 : Int32), h1)).bind fun h14 =>
    some h14
abbrev rm_X6_collect : Room := { frames := 1, cells := 0, slots := 0, locals := 21 }
set_option maxRecDepth 100000 in
set_option maxHeartbeats 4000000 in
theorem mt_X6_collect {w : WD} {l : Launch} {F : Nat} {l0 : Nat} {l1 : Option Nat} {l2 : Option Nat} {h : HP} {h' : HP} (hs : sX6_collect F l0 l1 l2 h = some h') : MV w l yX6_collect cX6_collect 4 rm_X6_collect 0 0 [rf w (some l0), rf w l1, rf w l2] h h' := by
  refine of_body [(0, rf w (some l0)), (1, rf w l1), (2, rf w l2)] (by decide) (by simp [lg_sl, rf_cat, cat_i, cat_l, cat_a]) (by simp [lv_args, rf_cat, cat_i, cat_l, cat_a]) ?_
  intro x hw_ hnL_ hl_ hc hret hnm hQ
  subst hw_; subst hl_
  have hnl : ∀ i, i < 4 → i < x.nL := fun i h => by rw [hnL_]; exact h
  have hw : wpO (sX6_collect F l0 l1 l2 h) (fun r => r = h') := ⟨_, hs, rfl⟩
  unfold sX6_collect at hw
  refine R_aload_n (q := 0) (i := 0) (v := (some l0)) hc dX6_collect_0 rfl rfl ?_
  refine R_iconst (v := (0 : Int32)) hc dX6_collect_1 kI_0 ?_
  refine R_putI hc pl_6_26 rfl rfl dX6_collect_2 hw (fun h1 hw => ?_)
  refine R_iconst (v := (0 : Int32)) hc dX6_collect_5 kI_0 ?_
  refine R_istore_n (i := 3) (v := (0 : Int32)) hc [(3, .int (0 : Int32)), (0, rf x.w (some l0)), (1, rf x.w l1), (2, rf x.w l2)] dX6_collect_6 rfl (hnl 3 (le_b rfl)) (by simp [rf_cat]) ?_
  refine R_sub hc [1, 2, 3, 0] rfl ?_
  refine R_loop (P := fun (s : (Int32 × HP)) => Rn x 0 0 7 [(0, rf x.w (some l0)), (1, rf x.w l1), (2, rf x.w l2), (3, .int s.1)] [] s.2) (fun h14 => Rn x 0 0 75 [] [] h14) hw (fun r hw => ?_) (fun X hX s hw => ?_)
  · revert r hw
    intro h14 hw
    show Rn x 0 0 75 [] [] h14
    exact R_return hc hret hQ hw dX6_collect_75
  · obtain ⟨l3_16, h17⟩ := s
    show Rn x 0 0 7 [(0, rf x.w (some l0)), (1, rf x.w l1), (2, rf x.w l2), (3, .int l3_16)] [] h17
    have hw : wpO (sX6_collect_L7 F l0 l1 l2 l3_16 h17) _ := hw
    unfold sX6_collect_L7 at hw
    refine R_iload_n (q := 3) (i := 3) (v := l3_16) hc dX6_collect_7 rfl rfl ?_
    refine R_bipush (v := (12 : Int32)) hc dX6_collect_8 kB_12 ?_
    refine R_icmp_ge (tgt := 75) hc dX6_collect_10 (by decide) hw (fun hw => ?_) (fun hw => ?_)
    · refine R_sub hc [] rfl ?_
      exact (wpO_some hw :)
    · refine R_aload_n (q := 2) (i := 2) (v := l2) hc dX6_collect_13 rfl rfl ?_
      refine R_getR hc fl_6_47 dX6_collect_14 hw (fun t2 hw => ?_)
      refine R_iload_n (q := 3) (i := 3) (v := l3_16) hc dX6_collect_17 rfl rfl ?_
      refine R_iconst (v := (-1 : Int32)) hc dX6_collect_18 kI_m1 ?_
      refine R_iastore hc dX6_collect_19 hw (fun h3 hw => ?_)
      refine R_aload_n (q := 1) (i := 1) (v := l1) hc dX6_collect_20 rfl rfl ?_
      refine R_getI hc fl_6_56 dX6_collect_21 hw (fun t4 hw => ?_)
      refine R_iload_n (q := 3) (i := 3) (v := l3_16) hc dX6_collect_24 rfl rfl ?_
      refine R_cNI (As := [.int t4, .int l3_16]) (rest := []) hc mn_6_59 mf_X10_has ⟨rfl, rfl⟩ ⟨le_b rfl, le_b rfl⟩ ⟨Nat.zero_le _, Nat.zero_le _⟩ (fun v e => mt_X10_has e) rfl rfl (Nat.zero_le _) dX6_collect_25 hw (fun t5 hw => ?_)
      refine R_if_eq (tgt := 69) hc dX6_collect_28 (by decide) hw (fun hw => ?_) (fun hw => ?_)
      · refine R_iinc (q := 3) (i := 3) (v := l3_16) hc [(3, .int (l3_16 + (1 : Int32))), (0, rf x.w (some l0)), (1, rf x.w l1), (2, rf x.w l2)] dX6_collect_69 rfl (kC_1 _) (hnl 3 (le_b rfl)) (by simp [rf_cat]) ?_
        refine R_goto (tgt := 7) hc dX6_collect_72 (by decide) ?_
        refine R_sub hc [1, 2, 3, 0] rfl ?_
        exact hX (l3_16 + (1 : Int32), h3) (wpO_some hw :)
      · refine R_aload_n (q := 2) (i := 2) (v := l2) hc dX6_collect_31 rfl rfl ?_
        refine R_getR hc fl_6_63 dX6_collect_32 hw (fun t6 hw => ?_)
        refine R_iload_n (q := 3) (i := 3) (v := l3_16) hc dX6_collect_35 rfl rfl ?_
        refine R_iaload hc dX6_collect_36 hw (fun t7 hw => ?_)
        refine R_if_le (tgt := 69) hc dX6_collect_37 (by decide) hw (fun hw => ?_) (fun hw => ?_)
        · refine R_iinc (q := 3) (i := 3) (v := l3_16) hc [(3, .int (l3_16 + (1 : Int32))), (0, rf x.w (some l0)), (1, rf x.w l1), (2, rf x.w l2)] dX6_collect_69 rfl (kC_1 _) (hnl 3 (le_b rfl)) (by simp [rf_cat]) ?_
          refine R_goto (tgt := 7) hc dX6_collect_72 (by decide) ?_
          refine R_sub hc [1, 2, 3, 0] rfl ?_
          exact hX (l3_16 + (1 : Int32), h3) (wpO_some hw :)
        · refine R_aload_n (q := 0) (i := 0) (v := (some l0)) hc dX6_collect_40 rfl rfl ?_
          refine R_getI hc fl_6_26 dX6_collect_41 hw (fun t8 hw => ?_)
          refine R_bipush (v := (6 : Int32)) hc dX6_collect_44 kB_6 ?_
          refine R_icmp_ge (tgt := 69) hc dX6_collect_46 (by decide) hw (fun hw => ?_) (fun hw => ?_)
          · refine R_iinc (q := 3) (i := 3) (v := l3_16) hc [(3, .int (l3_16 + (1 : Int32))), (0, rf x.w (some l0)), (1, rf x.w l1), (2, rf x.w l2)] dX6_collect_69 rfl (kC_1 _) (hnl 3 (le_b rfl)) (by simp [rf_cat]) ?_
            refine R_goto (tgt := 7) hc dX6_collect_72 (by decide) ?_
            refine R_sub hc [1, 2, 3, 0] rfl ?_
            exact hX (l3_16 + (1 : Int32), h3) (wpO_some hw :)
          · refine R_aload_n (q := 0) (i := 0) (v := (some l0)) hc dX6_collect_49 rfl rfl ?_
            refine R_getR hc fl_6_9 dX6_collect_50 hw (fun t9 hw => ?_)
            refine R_aload_n (q := 0) (i := 0) (v := (some l0)) hc dX6_collect_53 rfl rfl ?_
            refine R_getI hc fl_6_26 dX6_collect_54 hw (fun t10 hw => ?_)
            refine R_iload_n (q := 3) (i := 3) (v := l3_16) hc dX6_collect_57 rfl rfl ?_
            refine R_iastore hc dX6_collect_58 hw (fun h11 hw => ?_)
            refine R_aload_n (q := 0) (i := 0) (v := (some l0)) hc dX6_collect_59 rfl rfl ?_
            refine R_dup hc dX6_collect_60 (rf_cat _ _) ?_
            refine R_getI hc fl_6_26 dX6_collect_61 hw (fun t12 hw => ?_)
            refine R_iconst (v := (1 : Int32)) hc dX6_collect_64 kI_1 ?_
            refine R_iadd hc dX6_collect_65 ?_
            refine R_putI hc pl_6_26 rfl rfl dX6_collect_66 hw (fun h13 hw => ?_)
            refine R_iinc (q := 3) (i := 3) (v := l3_16) hc [(3, .int (l3_16 + (1 : Int32))), (0, rf x.w (some l0)), (1, rf x.w l1), (2, rf x.w l2)] dX6_collect_69 rfl (kC_1 _) (hnl 3 (le_b rfl)) (by simp [rf_cat]) ?_
            refine R_goto (tgt := 7) hc dX6_collect_72 (by decide) ?_
            refine R_sub hc [1, 2, 3, 0] rfl ?_
            exact hX (l3_16 + (1 : Int32), h13) (wpO_some hw :)
theorem dX6_shiftOf_0 : decode cX6_shiftOf 0 = .ok (.iconst 5, 1) := by decide +kernel
theorem dX6_shiftOf_1 : decode cX6_shiftOf 1 = .ok (.iload_n 0, 1) := by decide +kernel
theorem dX6_shiftOf_2 : decode cX6_shiftOf 2 = .ok (.isub, 1) := by decide +kernel
theorem dX6_shiftOf_3 : decode cX6_shiftOf 3 = .ok (.iconst 5, 1) := by decide +kernel
theorem dX6_shiftOf_4 : decode cX6_shiftOf 4 = .ok (.imul, 1) := by decide +kernel
theorem dX6_shiftOf_5 : decode cX6_shiftOf 5 = .ok (.ireturn, 1) := by decide +kernel
def sX6_shiftOf (F : Nat) (l0 : Int32) (h : HP) : Option Int32 :=
  some (((5 : Int32) - l0) * (5 : Int32))
abbrev rm_X6_shiftOf : Room := { frames := 0, cells := 0, slots := 0, locals := 0 }
set_option maxRecDepth 100000 in
set_option maxHeartbeats 4000000 in
theorem mt_X6_shiftOf {w : WD} {l : Launch} {F : Nat} {l0 : Int32} {h : HP} {v : Int32} (hs : sX6_shiftOf F l0 h = some v) : MI w l yX6_shiftOf cX6_shiftOf 1 .int rm_X6_shiftOf 0 0 [.int l0] h v h := by
  refine of_body [(0, .int l0)] (by decide) (by simp [lg_sl, rf_cat, cat_i, cat_l, cat_a]) (by simp [lv_args, rf_cat, cat_i, cat_l, cat_a]) ?_
  intro x hw_ hnL_ hl_ hc hret hnm hQ
  subst hw_; subst hl_
  have hnl : ∀ i, i < 1 → i < x.nL := fun i h => by rw [hnL_]; exact h
  have hw : wpO (sX6_shiftOf F l0 h) (fun r => r = v) := ⟨_, hs, rfl⟩
  unfold sX6_shiftOf at hw
  refine R_iconst (v := (5 : Int32)) hc dX6_shiftOf_0 kI_5 ?_
  refine R_iload_n (q := 0) (i := 0) (v := l0) hc dX6_shiftOf_1 rfl rfl ?_
  refine R_isub hc dX6_shiftOf_2 ?_
  refine R_iconst (v := (5 : Int32)) hc dX6_shiftOf_3 kI_5 ?_
  refine R_imul hc dX6_shiftOf_4 ?_
  exact R_ireturnP hc hret rfl hQ hw dX6_shiftOf_5
theorem dX6_priceOf_0 : decode cX6_priceOf 0 = .ok (.iconst 0, 1) := by decide +kernel
theorem dX6_priceOf_1 : decode cX6_priceOf 1 = .ok (.aload_n 1, 1) := by decide +kernel
theorem dX6_priceOf_2 : decode cX6_priceOf 2 = .ok (.getfield 70, 3) := by decide +kernel
theorem dX6_priceOf_5 : decode cX6_priceOf 5 = .ok (.aload_n 0, 1) := by decide +kernel
theorem dX6_priceOf_6 : decode cX6_priceOf 6 = .ok (.getfield 9, 3) := by decide +kernel
theorem dX6_priceOf_9 : decode cX6_priceOf 9 = .ok (.iload_n 2, 1) := by decide +kernel
theorem dX6_priceOf_10 : decode cX6_priceOf 10 = .ok (.iaload, 1) := by decide +kernel
theorem dX6_priceOf_11 : decode cX6_priceOf 11 = .ok (.iaload, 1) := by decide +kernel
theorem dX6_priceOf_12 : decode cX6_priceOf 12 = .ok (.iload_n 3, 1) := by decide +kernel
theorem dX6_priceOf_13 : decode cX6_priceOf 13 = .ok (.isub, 1) := by decide +kernel
theorem dX6_priceOf_14 : decode cX6_priceOf 14 = .ok (.invokestatic 37, 3) := by decide +kernel
theorem dX6_priceOf_17 : decode cX6_priceOf 17 = .ok (.istore 4, 2) := by decide +kernel
theorem dX6_priceOf_19 : decode cX6_priceOf 19 = .ok (.iconst 0, 1) := by decide +kernel
theorem dX6_priceOf_20 : decode cX6_priceOf 20 = .ok (.iload_n 3, 1) := by decide +kernel
theorem dX6_priceOf_21 : decode cX6_priceOf 21 = .ok (.aload_n 1, 1) := by decide +kernel
theorem dX6_priceOf_22 : decode cX6_priceOf 22 = .ok (.getfield 73, 3) := by decide +kernel
theorem dX6_priceOf_25 : decode cX6_priceOf 25 = .ok (.aload_n 0, 1) := by decide +kernel
theorem dX6_priceOf_26 : decode cX6_priceOf 26 = .ok (.getfield 9, 3) := by decide +kernel
theorem dX6_priceOf_29 : decode cX6_priceOf 29 = .ok (.iload_n 2, 1) := by decide +kernel
theorem dX6_priceOf_30 : decode cX6_priceOf 30 = .ok (.iaload, 1) := by decide +kernel
theorem dX6_priceOf_31 : decode cX6_priceOf 31 = .ok (.iaload, 1) := by decide +kernel
theorem dX6_priceOf_32 : decode cX6_priceOf 32 = .ok (.isub, 1) := by decide +kernel
theorem dX6_priceOf_33 : decode cX6_priceOf 33 = .ok (.invokestatic 37, 3) := by decide +kernel
theorem dX6_priceOf_36 : decode cX6_priceOf 36 = .ok (.istore 5, 2) := by decide +kernel
theorem dX6_priceOf_38 : decode cX6_priceOf 38 = .ok (.iload 4, 2) := by decide +kernel
theorem dX6_priceOf_40 : decode cX6_priceOf 40 = .ok (.iload 5, 2) := by decide +kernel
theorem dX6_priceOf_42 : decode cX6_priceOf 42 = .ok (.iadd, 1) := by decide +kernel
theorem dX6_priceOf_43 : decode cX6_priceOf 43 = .ok (.i2l, 1) := by decide +kernel
theorem dX6_priceOf_44 : decode cX6_priceOf 44 = .ok (.bipush 30, 2) := by decide +kernel
theorem dX6_priceOf_46 : decode cX6_priceOf 46 = .ok (.lshl, 1) := by decide +kernel
theorem dX6_priceOf_47 : decode cX6_priceOf 47 = .ok (.iload_n 3, 1) := by decide +kernel
theorem dX6_priceOf_48 : decode cX6_priceOf 48 = .ok (.i2l, 1) := by decide +kernel
theorem dX6_priceOf_49 : decode cX6_priceOf 49 = .ok (.iload_n 2, 1) := by decide +kernel
theorem dX6_priceOf_50 : decode cX6_priceOf 50 = .ok (.invokestatic 52, 3) := by decide +kernel
theorem dX6_priceOf_53 : decode cX6_priceOf 53 = .ok (.lshl, 1) := by decide +kernel
theorem dX6_priceOf_54 : decode cX6_priceOf 54 = .ok (.ladd, 1) := by decide +kernel
theorem dX6_priceOf_55 : decode cX6_priceOf 55 = .ok (.lreturn, 1) := by decide +kernel
def sX6_priceOf (F : Nat) (l0 : Nat) (l1 : Option Nat) (l2 : Int32) (l3 : Int32) (h : HP) : Option Int64 :=
  (gR h 9 l1 1).bind fun t1 =>
  (gR h 6 (some l0) 1).bind fun t2 =>
  (aI h 13 t2 l2).bind fun t3 =>
  (aI h 13 t1 t3).bind fun t4 =>
  nmI (jmx (0 : Int32) (t4 - l3)) fun l4_5 =>
  (gR h 9 l1 2).bind fun t6 =>
  (gR h 6 (some l0) 1).bind fun t7 =>
  (aI h 13 t7 l2).bind fun t8 =>
  (aI h 13 t6 t8).bind fun t9 =>
  nmI (jmx (0 : Int32) (l3 - t9)) fun l5_10 =>
  (sX6_shiftOf F l2 h).bind fun t11 =>
  some ((Jshl ((l4_5 + l5_10).toInt64) (30 : Int32)) + (Jshl l3.toInt64 t11))
abbrev rm_X6_priceOf : Room := { frames := 1, cells := 0, slots := 0, locals := 24 }
set_option maxRecDepth 100000 in
set_option maxHeartbeats 4000000 in
theorem mt_X6_priceOf {w : WD} {l : Launch} {F : Nat} {l0 : Nat} {l1 : Option Nat} {l2 : Int32} {l3 : Int32} {h : HP} {v : Int64} (hs : sX6_priceOf F l0 l1 l2 l3 h = some v) : MJ w l yX6_priceOf cX6_priceOf 6 rm_X6_priceOf 0 0 [rf w (some l0), rf w l1, .int l2, .int l3] h v h := by
  refine of_body [(0, rf w (some l0)), (1, rf w l1), (2, .int l2), (3, .int l3)] (by decide) (by simp [lg_sl, rf_cat, cat_i, cat_l, cat_a]) (by simp [lv_args, rf_cat, cat_i, cat_l, cat_a]) ?_
  intro x hw_ hnL_ hl_ hc hret hnm hQ
  subst hw_; subst hl_
  have hnl : ∀ i, i < 6 → i < x.nL := fun i h => by rw [hnL_]; exact h
  have hw : wpO (sX6_priceOf F l0 l1 l2 l3 h) (fun r => r = v) := ⟨_, hs, rfl⟩
  unfold sX6_priceOf at hw
  refine R_iconst (v := (0 : Int32)) hc dX6_priceOf_0 kI_0 ?_
  refine R_aload_n (q := 1) (i := 1) (v := l1) hc dX6_priceOf_1 rfl rfl ?_
  refine R_getR hc fl_6_70 dX6_priceOf_2 hw (fun t1 hw => ?_)
  refine R_aload_n (q := 0) (i := 0) (v := (some l0)) hc dX6_priceOf_5 rfl rfl ?_
  refine R_getR hc fl_6_9 dX6_priceOf_6 hw (fun t2 hw => ?_)
  refine R_iload_n (q := 2) (i := 2) (v := l2) hc dX6_priceOf_9 rfl rfl ?_
  refine R_iaload hc dX6_priceOf_10 hw (fun t3 hw => ?_)
  refine R_iaload hc dX6_priceOf_11 hw (fun t4 hw => ?_)
  refine R_iload_n (q := 3) (i := 3) (v := l3) hc dX6_priceOf_12 rfl rfl ?_
  refine R_isub hc dX6_priceOf_13 ?_
  refine R_jmx hc ml_6_37 (le_b rfl) (le_b rfl) ⟨Nat.zero_le _, Nat.zero_le _⟩ dX6_priceOf_14 ?_
  refine R_nmI hw (fun l4_5 hw => ?_)
  refine R_istore (i := 4) (v := l4_5) hc [(4, .int l4_5), (0, rf x.w (some l0)), (1, rf x.w l1), (2, .int l2), (3, .int l3)] dX6_priceOf_17 (hnl 4 (le_b rfl)) rfl ?_
  refine R_iconst (v := (0 : Int32)) hc dX6_priceOf_19 kI_0 ?_
  refine R_iload_n (q := 4) (i := 3) (v := l3) hc dX6_priceOf_20 rfl rfl ?_
  refine R_aload_n (q := 2) (i := 1) (v := l1) hc dX6_priceOf_21 rfl rfl ?_
  refine R_getR hc fl_6_73 dX6_priceOf_22 hw (fun t6 hw => ?_)
  refine R_aload_n (q := 1) (i := 0) (v := (some l0)) hc dX6_priceOf_25 rfl rfl ?_
  refine R_getR hc fl_6_9 dX6_priceOf_26 hw (fun t7 hw => ?_)
  refine R_iload_n (q := 3) (i := 2) (v := l2) hc dX6_priceOf_29 rfl rfl ?_
  refine R_iaload hc dX6_priceOf_30 hw (fun t8 hw => ?_)
  refine R_iaload hc dX6_priceOf_31 hw (fun t9 hw => ?_)
  refine R_isub hc dX6_priceOf_32 ?_
  refine R_jmx hc ml_6_37 (le_b rfl) (le_b rfl) ⟨Nat.zero_le _, Nat.zero_le _⟩ dX6_priceOf_33 ?_
  refine R_nmI hw (fun l5_10 hw => ?_)
  refine R_istore (i := 5) (v := l5_10) hc [(5, .int l5_10), (4, .int l4_5), (0, rf x.w (some l0)), (1, rf x.w l1), (2, .int l2), (3, .int l3)] dX6_priceOf_36 (hnl 5 (le_b rfl)) rfl ?_
  refine R_iload (q := 1) (i := 4) (v := l4_5) hc dX6_priceOf_38 rfl ?_
  refine R_iload (q := 0) (i := 5) (v := l5_10) hc dX6_priceOf_40 rfl ?_
  refine R_iadd hc dX6_priceOf_42 ?_
  refine R_i2l hc dX6_priceOf_43 ?_
  refine R_bipush (v := (30 : Int32)) hc dX6_priceOf_44 kB_30 ?_
  refine R_lshl hc dX6_priceOf_46 ?_
  refine R_iload_n (q := 5) (i := 3) (v := l3) hc dX6_priceOf_47 rfl rfl ?_
  refine R_i2l hc dX6_priceOf_48 ?_
  refine R_iload_n (q := 4) (i := 2) (v := l2) hc dX6_priceOf_49 rfl rfl ?_
  refine R_cSI (As := [.int l2]) (rest := [.long l3.toInt64, .long (Jshl ((l4_5 + l5_10).toInt64) (30 : Int32))]) hc ml_6_52 mf_X6_shiftOf ⟨rfl, rfl⟩ ⟨le_b rfl, le_b rfl⟩ ⟨Nat.zero_le _, Nat.zero_le _⟩ (fun v e => mt_X6_shiftOf e) rfl rfl (le_b rfl) dX6_priceOf_50 hw (fun t11 hw => ?_)
  refine R_lshl hc dX6_priceOf_53 ?_
  refine R_ladd hc dX6_priceOf_54 ?_
  exact R_lreturnP hc hret hQ hw dX6_priceOf_55
theorem dX6_offer_0 : decode cX6_offer 0 = .ok (.iconst 0, 1) := by decide +kernel
theorem dX6_offer_1 : decode cX6_offer 1 = .ok (.istore 4, 2) := by decide +kernel
theorem dX6_offer_3 : decode cX6_offer 3 = .ok (.iload 4, 2) := by decide +kernel
theorem dX6_offer_5 : decode cX6_offer 5 = .ok (.aload_n 0, 1) := by decide +kernel
theorem dX6_offer_6 : decode cX6_offer 6 = .ok (.getfield 26, 3) := by decide +kernel
theorem dX6_offer_9 : decode cX6_offer 9 = .ok (.if_icmp .ge 24, 3) := by decide +kernel
theorem dX6_offer_12 : decode cX6_offer 12 = .ok (.aload_n 0, 1) := by decide +kernel
theorem dX6_offer_13 : decode cX6_offer 13 = .ok (.getfield 15, 3) := by decide +kernel
theorem dX6_offer_16 : decode cX6_offer 16 = .ok (.iload 4, 2) := by decide +kernel
theorem dX6_offer_18 : decode cX6_offer 18 = .ok (.aload_n 0, 1) := by decide +kernel
theorem dX6_offer_19 : decode cX6_offer 19 = .ok (.aload_n 1, 1) := by decide +kernel
theorem dX6_offer_20 : decode cX6_offer 20 = .ok (.iload 4, 2) := by decide +kernel
theorem dX6_offer_22 : decode cX6_offer 22 = .ok (.iload_n 2, 1) := by decide +kernel
theorem dX6_offer_23 : decode cX6_offer 23 = .ok (.invokevirtual 66, 3) := by decide +kernel
theorem dX6_offer_26 : decode cX6_offer 26 = .ok (.lastore, 1) := by decide +kernel
theorem dX6_offer_27 : decode cX6_offer 27 = .ok (.iinc 4 1, 3) := by decide +kernel
theorem dX6_offer_30 : decode cX6_offer 30 = .ok (.goto (-27), 3) := by decide +kernel
theorem dX6_offer_33 : decode cX6_offer 33 = .ok (.iload_n 3, 1) := by decide +kernel
theorem dX6_offer_34 : decode cX6_offer 34 = .ok (.istore 4, 2) := by decide +kernel
theorem dX6_offer_36 : decode cX6_offer 36 = .ok (.iload 4, 2) := by decide +kernel
theorem dX6_offer_38 : decode cX6_offer 38 = .ok (.ifCond .lt 109, 3) := by decide +kernel
theorem dX6_offer_41 : decode cX6_offer 41 = .ok (.aload_n 0, 1) := by decide +kernel
theorem dX6_offer_42 : decode cX6_offer 42 = .ok (.getfield 19, 3) := by decide +kernel
theorem dX6_offer_45 : decode cX6_offer 45 = .ok (.iload 4, 2) := by decide +kernel
theorem dX6_offer_47 : decode cX6_offer 47 = .ok (.laload, 1) := by decide +kernel
theorem dX6_offer_48 : decode cX6_offer 48 = .ok (.lstore 5, 2) := by decide +kernel
theorem dX6_offer_50 : decode cX6_offer 50 = .ok (.iconst 0, 1) := by decide +kernel
theorem dX6_offer_51 : decode cX6_offer 51 = .ok (.istore 7, 2) := by decide +kernel
theorem dX6_offer_53 : decode cX6_offer 53 = .ok (.iload 7, 2) := by decide +kernel
theorem dX6_offer_55 : decode cX6_offer 55 = .ok (.aload_n 0, 1) := by decide +kernel
theorem dX6_offer_56 : decode cX6_offer 56 = .ok (.getfield 26, 3) := by decide +kernel
theorem dX6_offer_59 : decode cX6_offer 59 = .ok (.if_icmp .ge 82, 3) := by decide +kernel
theorem dX6_offer_62 : decode cX6_offer 62 = .ok (.lload 5, 2) := by decide +kernel
theorem dX6_offer_64 : decode cX6_offer 64 = .ok (.ldc2_w 30, 3) := by decide +kernel
theorem dX6_offer_67 : decode cX6_offer 67 = .ok (.lcmp, 1) := by decide +kernel
theorem dX6_offer_68 : decode cX6_offer 68 = .ok (.ifCond .eq 73, 3) := by decide +kernel
theorem dX6_offer_71 : decode cX6_offer 71 = .ok (.iload 4, 2) := by decide +kernel
theorem dX6_offer_73 : decode cX6_offer 73 = .ok (.iconst 1, 1) := by decide +kernel
theorem dX6_offer_74 : decode cX6_offer 74 = .ok (.iload 7, 2) := by decide +kernel
theorem dX6_offer_76 : decode cX6_offer 76 = .ok (.ishl, 1) := by decide +kernel
theorem dX6_offer_77 : decode cX6_offer 77 = .ok (.ior, 1) := by decide +kernel
theorem dX6_offer_78 : decode cX6_offer 78 = .ok (.istore 8, 2) := by decide +kernel
theorem dX6_offer_80 : decode cX6_offer 80 = .ok (.lload 5, 2) := by decide +kernel
theorem dX6_offer_82 : decode cX6_offer 82 = .ok (.aload_n 0, 1) := by decide +kernel
theorem dX6_offer_83 : decode cX6_offer 83 = .ok (.getfield 15, 3) := by decide +kernel
theorem dX6_offer_86 : decode cX6_offer 86 = .ok (.iload 7, 2) := by decide +kernel
theorem dX6_offer_88 : decode cX6_offer 88 = .ok (.laload, 1) := by decide +kernel
theorem dX6_offer_89 : decode cX6_offer 89 = .ok (.ladd, 1) := by decide +kernel
theorem dX6_offer_90 : decode cX6_offer 90 = .ok (.lstore 9, 2) := by decide +kernel
theorem dX6_offer_92 : decode cX6_offer 92 = .ok (.iload 8, 2) := by decide +kernel
theorem dX6_offer_94 : decode cX6_offer 94 = .ok (.iload 4, 2) := by decide +kernel
theorem dX6_offer_96 : decode cX6_offer 96 = .ok (.if_icmp .eq 39, 3) := by decide +kernel
theorem dX6_offer_99 : decode cX6_offer 99 = .ok (.aload_n 0, 1) := by decide +kernel
theorem dX6_offer_100 : decode cX6_offer 100 = .ok (.getfield 19, 3) := by decide +kernel
theorem dX6_offer_103 : decode cX6_offer 103 = .ok (.iload 8, 2) := by decide +kernel
theorem dX6_offer_105 : decode cX6_offer 105 = .ok (.laload, 1) := by decide +kernel
theorem dX6_offer_106 : decode cX6_offer 106 = .ok (.ldc2_w 30, 3) := by decide +kernel
theorem dX6_offer_109 : decode cX6_offer 109 = .ok (.lcmp, 1) := by decide +kernel
theorem dX6_offer_110 : decode cX6_offer 110 = .ok (.ifCond .eq 16, 3) := by decide +kernel
theorem dX6_offer_113 : decode cX6_offer 113 = .ok (.lload 9, 2) := by decide +kernel
theorem dX6_offer_115 : decode cX6_offer 115 = .ok (.aload_n 0, 1) := by decide +kernel
theorem dX6_offer_116 : decode cX6_offer 116 = .ok (.getfield 19, 3) := by decide +kernel
theorem dX6_offer_119 : decode cX6_offer 119 = .ok (.iload 8, 2) := by decide +kernel
theorem dX6_offer_121 : decode cX6_offer 121 = .ok (.laload, 1) := by decide +kernel
theorem dX6_offer_122 : decode cX6_offer 122 = .ok (.lcmp, 1) := by decide +kernel
theorem dX6_offer_123 : decode cX6_offer 123 = .ok (.ifCond .ge 12, 3) := by decide +kernel
theorem dX6_offer_126 : decode cX6_offer 126 = .ok (.aload_n 0, 1) := by decide +kernel
theorem dX6_offer_127 : decode cX6_offer 127 = .ok (.getfield 19, 3) := by decide +kernel
theorem dX6_offer_130 : decode cX6_offer 130 = .ok (.iload 8, 2) := by decide +kernel
theorem dX6_offer_132 : decode cX6_offer 132 = .ok (.lload 9, 2) := by decide +kernel
theorem dX6_offer_134 : decode cX6_offer 134 = .ok (.lastore, 1) := by decide +kernel
theorem dX6_offer_135 : decode cX6_offer 135 = .ok (.iinc 7 1, 3) := by decide +kernel
theorem dX6_offer_138 : decode cX6_offer 138 = .ok (.goto (-85), 3) := by decide +kernel
theorem dX6_offer_141 : decode cX6_offer 141 = .ok (.iinc 4 (-1), 3) := by decide +kernel
theorem dX6_offer_144 : decode cX6_offer 144 = .ok (.goto (-108), 3) := by decide +kernel
theorem dX6_offer_147 : decode cX6_offer 147 = .ok (.return_, 1) := by decide +kernel
def sX6_offer_L3 (F : Nat) (l0 : Nat) (l1 : Option Nat) (l2 : Int32) (l3 : Int32) (l4 : Int32) (h : HP) : Option ((Int32 × HP) ⊕ HP) :=
  (gI h 6 (some l0) 0).bind fun t1 =>
  if t1 ≤ l4 then
    some (.inr h)
  else
    (gR h 6 (some l0) 2).bind fun t2 =>
    (dO h 6 (some l0)).bind fun a3 =>
    (sX6_priceOf F a3 l1 l4 l2 h).bind fun t4 =>
    (sJ h t2 l4 t4).bind fun h5 =>
    some (.inl (l4 + (1 : Int32), h5))
def sX6_offer_L53 (F : Nat) (l0 : Nat) (l4 : Int32) (l5 : Int64) (l7 : Int32) (h : HP) : Option ((Int32 × HP) ⊕ HP) :=
  (gI h 6 (some l0) 0).bind fun t9 =>
  if t9 ≤ l7 then
    some (.inr h)
  else
    if (lg_cmp l5 (-1 : Int64)) = 0 then
      some (.inr h)
    else
      nmI (l4 ||| (jshl (1 : Int32) l7)) fun l8_10 =>
      (gR h 6 (some l0) 2).bind fun t11 =>
      (aJ h t11 l7).bind fun t12 =>
      nmJ (l5 + t12) fun l9_13 =>
      if l8_10 = l4 then
        some (.inl (l7 + (1 : Int32), h))
      else
        (gR h 6 (some l0) 3).bind fun t14 =>
        (aJ h t14 l8_10).bind fun t15 =>
        if (lg_cmp t15 (-1 : Int64)) = 0 then
          (gR h 6 (some l0) 3).bind fun t16 =>
          (sJ h t16 l8_10 l9_13).bind fun h17 =>
          some (.inl (l7 + (1 : Int32), h17))
        else
          (gR h 6 (some l0) 3).bind fun t18 =>
          (aJ h t18 l8_10).bind fun t19 =>
          if 0 ≤ (lg_cmp l9_13 t19) then
            some (.inl (l7 + (1 : Int32), h))
          else
            (gR h 6 (some l0) 3).bind fun t20 =>
            (sJ h t20 l8_10 l9_13).bind fun h21 =>
            some (.inl (l7 + (1 : Int32), h21))
def sX6_offer_L36 (F : Nat) (l0 : Nat) (l4 : Int32) (h : HP) : Option ((Int32 × HP) ⊕ HP) :=
  if l4 < 0 then
    some (.inr h)
  else
    (gR h 6 (some l0) 3).bind fun t7 =>
    (aJ h t7 l4).bind fun t8 =>
    (iter (fun s => sX6_offer_L53 F l0 l4 t8 s.1 s.2) F ((0 : Int32), h)).bind fun h22 =>
      some (.inl (l4 + (-1 : Int32), h22))
def sX6_offer (F : Nat) (l0 : Nat) (l1 : Option Nat) (l2 : Int32) (l3 : Int32) (h : HP) : Option HP :=
  (iter (fun s => sX6_offer_L3 F l0 l1 l2 l3 s.1 s.2) F ((0 : Int32), h)).bind fun h6 =>
    (iter (fun s => sX6_offer_L36 F l0 s.1 s.2) F (l3, h6)).bind fun h26 =>
      some h26
abbrev rm_X6_offer : Room := { frames := 2, cells := 0, slots := 0, locals := 49 }
set_option maxRecDepth 100000 in
set_option maxHeartbeats 4000000 in
theorem mt_X6_offer {w : WD} {l : Launch} {F : Nat} {l0 : Nat} {l1 : Option Nat} {l2 : Int32} {l3 : Int32} {h : HP} {h' : HP} (hs : sX6_offer F l0 l1 l2 l3 h = some h') : MV w l yX6_offer cX6_offer 11 rm_X6_offer 0 0 [rf w (some l0), rf w l1, .int l2, .int l3] h h' := by
  refine of_body [(0, rf w (some l0)), (1, rf w l1), (2, .int l2), (3, .int l3)] (by decide) (by simp [lg_sl, rf_cat, cat_i, cat_l, cat_a]) (by simp [lv_args, rf_cat, cat_i, cat_l, cat_a]) ?_
  intro x hw_ hnL_ hl_ hc hret hnm hQ
  subst hw_; subst hl_
  have hnl : ∀ i, i < 11 → i < x.nL := fun i h => by rw [hnL_]; exact h
  have hw : wpO (sX6_offer F l0 l1 l2 l3 h) (fun r => r = h') := ⟨_, hs, rfl⟩
  unfold sX6_offer at hw
  refine R_iconst (v := (0 : Int32)) hc dX6_offer_0 kI_0 ?_
  refine R_istore (i := 4) (v := (0 : Int32)) hc [(4, .int (0 : Int32)), (0, rf x.w (some l0)), (1, rf x.w l1), (2, .int l2), (3, .int l3)] dX6_offer_1 (hnl 4 (le_b rfl)) rfl ?_
  refine R_sub hc [1, 2, 3, 4, 0] rfl ?_
  refine R_loop (P := fun (s : (Int32 × HP)) => Rn x 0 0 3 [(0, rf x.w (some l0)), (1, rf x.w l1), (2, .int l2), (3, .int l3), (4, .int s.1)] [] s.2) (fun h6 => Rn x 0 0 33 [(0, rf x.w (some l0)), (3, .int l3)] [] h6) hw (fun r hw => ?_) (fun X hX s hw => ?_)
  · revert r hw
    intro h6 hw
    show Rn x 0 0 33 [(0, rf x.w (some l0)), (3, .int l3)] [] h6
    refine R_iload_n (q := 1) (i := 3) (v := l3) hc dX6_offer_33 rfl rfl ?_
    refine R_istore (i := 4) (v := l3) hc [(4, .int l3), (0, rf x.w (some l0)), (3, .int l3)] dX6_offer_34 (hnl 4 (le_b rfl)) rfl ?_
    refine R_sub hc [1, 0] rfl ?_
    refine R_loop (P := fun (s : (Int32 × HP)) => Rn x 0 0 36 [(0, rf x.w (some l0)), (4, .int s.1)] [] s.2) (fun h26 => Rn x 0 0 147 [] [] h26) hw (fun r hw => ?_) (fun X hX s hw => ?_)
    · revert r hw
      intro h26 hw
      show Rn x 0 0 147 [] [] h26
      exact R_return hc hret hQ hw dX6_offer_147
    · obtain ⟨l4_28, h29⟩ := s
      show Rn x 0 0 36 [(0, rf x.w (some l0)), (4, .int l4_28)] [] h29
      have hw : wpO (sX6_offer_L36 F l0 l4_28 h29) _ := hw
      unfold sX6_offer_L36 at hw
      refine R_iload (q := 1) (i := 4) (v := l4_28) hc dX6_offer_36 rfl ?_
      refine R_if_lt (tgt := 147) hc dX6_offer_38 (by decide) hw (fun hw => ?_) (fun hw => ?_)
      · refine R_sub hc [] rfl ?_
        exact (wpO_some hw :)
      · refine R_aload_n (q := 0) (i := 0) (v := (some l0)) hc dX6_offer_41 rfl rfl ?_
        refine R_getR hc fl_6_19 dX6_offer_42 hw (fun t7 hw => ?_)
        refine R_iload (q := 1) (i := 4) (v := l4_28) hc dX6_offer_45 rfl ?_
        refine R_laload hc dX6_offer_47 hw (fun t8 hw => ?_)
        refine R_lstore (i := 5) (v := t8) hc [(5, .long t8), (0, rf x.w (some l0)), (4, .int l4_28)] dX6_offer_48 (hnl 6 (le_b rfl)) rfl ?_
        refine R_iconst (v := (0 : Int32)) hc dX6_offer_50 kI_0 ?_
        refine R_istore (i := 7) (v := (0 : Int32)) hc [(7, .int (0 : Int32)), (5, .long t8), (0, rf x.w (some l0)), (4, .int l4_28)] dX6_offer_51 (hnl 7 (le_b rfl)) rfl ?_
        refine R_sub hc [2, 3, 1, 0] rfl ?_
        refine R_loop (P := fun (s : (Int32 × HP)) => Rn x 0 0 53 [(0, rf x.w (some l0)), (4, .int l4_28), (5, .long t8), (7, .int s.1)] [] s.2) (fun h22 => Rn x 0 0 141 [(0, rf x.w (some l0)), (4, .int l4_28)] [] h22) hw (fun r hw => ?_) (fun X hX s hw => ?_)
        · revert r hw
          intro h22 hw
          show Rn x 0 0 141 [(0, rf x.w (some l0)), (4, .int l4_28)] [] h22
          refine R_iinc (q := 1) (i := 4) (v := l4_28) hc [(4, .int (l4_28 + (-1 : Int32))), (0, rf x.w (some l0))] dX6_offer_141 rfl (kC_m1 _) (hnl 4 (le_b rfl)) rfl ?_
          refine R_goto (tgt := 36) hc dX6_offer_144 (by decide) ?_
          refine R_sub hc [1, 0] rfl ?_
          exact hX (l4_28 + (-1 : Int32), h22) (wpO_some hw :)
        · obtain ⟨l7_24, h25⟩ := s
          show Rn x 0 0 53 [(0, rf x.w (some l0)), (4, .int l4_28), (5, .long t8), (7, .int l7_24)] [] h25
          have hw : wpO (sX6_offer_L53 F l0 l4_28 t8 l7_24 h25) _ := hw
          unfold sX6_offer_L53 at hw
          refine R_iload (q := 3) (i := 7) (v := l7_24) hc dX6_offer_53 rfl ?_
          refine R_aload_n (q := 0) (i := 0) (v := (some l0)) hc dX6_offer_55 rfl rfl ?_
          refine R_getI hc fl_6_26 dX6_offer_56 hw (fun t9 hw => ?_)
          refine R_icmp_ge (tgt := 141) hc dX6_offer_59 (by decide) hw (fun hw => ?_) (fun hw => ?_)
          · refine R_sub hc [0, 1] rfl ?_
            exact (wpO_some hw :)
          · refine R_lload (q := 2) (i := 5) (v := t8) hc dX6_offer_62 rfl ?_
            refine R_ldc2 (v := (-1 : Int64)) hc kw_6_30 dX6_offer_64 ?_
            refine R_lcmp hc dX6_offer_67 ?_
            refine R_if_eq (tgt := 141) hc dX6_offer_68 (by decide) hw (fun hw => ?_) (fun hw => ?_)
            · refine R_sub hc [0, 1] rfl ?_
              exact (wpO_some hw :)
            · refine R_iload (q := 1) (i := 4) (v := l4_28) hc dX6_offer_71 rfl ?_
              refine R_iconst (v := (1 : Int32)) hc dX6_offer_73 kI_1 ?_
              refine R_iload (q := 3) (i := 7) (v := l7_24) hc dX6_offer_74 rfl ?_
              refine R_ishl hc dX6_offer_76 ?_
              refine R_ior hc dX6_offer_77 ?_
              refine R_nmI hw (fun l8_10 hw => ?_)
              refine R_istore (i := 8) (v := l8_10) hc [(8, .int l8_10), (0, rf x.w (some l0)), (4, .int l4_28), (5, .long t8), (7, .int l7_24)] dX6_offer_78 (hnl 8 (le_b rfl)) rfl ?_
              refine R_lload (q := 3) (i := 5) (v := t8) hc dX6_offer_80 rfl ?_
              refine R_aload_n (q := 1) (i := 0) (v := (some l0)) hc dX6_offer_82 rfl rfl ?_
              refine R_getR hc fl_6_15 dX6_offer_83 hw (fun t11 hw => ?_)
              refine R_iload (q := 4) (i := 7) (v := l7_24) hc dX6_offer_86 rfl ?_
              refine R_laload hc dX6_offer_88 hw (fun t12 hw => ?_)
              refine R_ladd hc dX6_offer_89 ?_
              refine R_nmJ hw (fun l9_13 hw => ?_)
              refine R_lstore (i := 9) (v := l9_13) hc [(9, .long l9_13), (8, .int l8_10), (0, rf x.w (some l0)), (4, .int l4_28), (5, .long t8), (7, .int l7_24)] dX6_offer_90 (hnl 10 (le_b rfl)) rfl ?_
              refine R_iload (q := 1) (i := 8) (v := l8_10) hc dX6_offer_92 rfl ?_
              refine R_iload (q := 3) (i := 4) (v := l4_28) hc dX6_offer_94 rfl ?_
              refine R_icmp_eq (tgt := 135) hc dX6_offer_96 (by decide) hw (fun hw => ?_) (fun hw => ?_)
              · refine R_iinc (q := 5) (i := 7) (v := l7_24) hc [(7, .int (l7_24 + (1 : Int32))), (9, .long l9_13), (8, .int l8_10), (0, rf x.w (some l0)), (4, .int l4_28), (5, .long t8)] dX6_offer_135 rfl (kC_1 _) (hnl 7 (le_b rfl)) rfl ?_
                refine R_goto (tgt := 53) hc dX6_offer_138 (by decide) ?_
                refine R_sub hc [3, 4, 5, 0] rfl ?_
                exact hX (l7_24 + (1 : Int32), h25) (wpO_some hw :)
              · refine R_aload_n (q := 2) (i := 0) (v := (some l0)) hc dX6_offer_99 rfl rfl ?_
                refine R_getR hc fl_6_19 dX6_offer_100 hw (fun t14 hw => ?_)
                refine R_iload (q := 1) (i := 8) (v := l8_10) hc dX6_offer_103 rfl ?_
                refine R_laload hc dX6_offer_105 hw (fun t15 hw => ?_)
                refine R_ldc2 (v := (-1 : Int64)) hc kw_6_30 dX6_offer_106 ?_
                refine R_lcmp hc dX6_offer_109 ?_
                refine R_if_eq (tgt := 126) hc dX6_offer_110 (by decide) hw (fun hw => ?_) (fun hw => ?_)
                · refine R_aload_n (q := 2) (i := 0) (v := (some l0)) hc dX6_offer_126 rfl rfl ?_
                  refine R_getR hc fl_6_19 dX6_offer_127 hw (fun t16 hw => ?_)
                  refine R_iload (q := 1) (i := 8) (v := l8_10) hc dX6_offer_130 rfl ?_
                  refine R_lload (q := 0) (i := 9) (v := l9_13) hc dX6_offer_132 rfl ?_
                  refine R_lastore hc dX6_offer_134 hw (fun h17 hw => ?_)
                  refine R_iinc (q := 5) (i := 7) (v := l7_24) hc [(7, .int (l7_24 + (1 : Int32))), (9, .long l9_13), (8, .int l8_10), (0, rf x.w (some l0)), (4, .int l4_28), (5, .long t8)] dX6_offer_135 rfl (kC_1 _) (hnl 7 (le_b rfl)) rfl ?_
                  refine R_goto (tgt := 53) hc dX6_offer_138 (by decide) ?_
                  refine R_sub hc [3, 4, 5, 0] rfl ?_
                  exact hX (l7_24 + (1 : Int32), h17) (wpO_some hw :)
                · refine R_lload (q := 0) (i := 9) (v := l9_13) hc dX6_offer_113 rfl ?_
                  refine R_aload_n (q := 2) (i := 0) (v := (some l0)) hc dX6_offer_115 rfl rfl ?_
                  refine R_getR hc fl_6_19 dX6_offer_116 hw (fun t18 hw => ?_)
                  refine R_iload (q := 1) (i := 8) (v := l8_10) hc dX6_offer_119 rfl ?_
                  refine R_laload hc dX6_offer_121 hw (fun t19 hw => ?_)
                  refine R_lcmp hc dX6_offer_122 ?_
                  refine R_if_ge (tgt := 135) hc dX6_offer_123 (by decide) hw (fun hw => ?_) (fun hw => ?_)
                  · refine R_iinc (q := 5) (i := 7) (v := l7_24) hc [(7, .int (l7_24 + (1 : Int32))), (9, .long l9_13), (8, .int l8_10), (0, rf x.w (some l0)), (4, .int l4_28), (5, .long t8)] dX6_offer_135 rfl (kC_1 _) (hnl 7 (le_b rfl)) rfl ?_
                    refine R_goto (tgt := 53) hc dX6_offer_138 (by decide) ?_
                    refine R_sub hc [3, 4, 5, 0] rfl ?_
                    exact hX (l7_24 + (1 : Int32), h25) (wpO_some hw :)
                  · refine R_aload_n (q := 2) (i := 0) (v := (some l0)) hc dX6_offer_126 rfl rfl ?_
                    refine R_getR hc fl_6_19 dX6_offer_127 hw (fun t20 hw => ?_)
                    refine R_iload (q := 1) (i := 8) (v := l8_10) hc dX6_offer_130 rfl ?_
                    refine R_lload (q := 0) (i := 9) (v := l9_13) hc dX6_offer_132 rfl ?_
                    refine R_lastore hc dX6_offer_134 hw (fun h21 hw => ?_)
                    refine R_iinc (q := 5) (i := 7) (v := l7_24) hc [(7, .int (l7_24 + (1 : Int32))), (9, .long l9_13), (8, .int l8_10), (0, rf x.w (some l0)), (4, .int l4_28), (5, .long t8)] dX6_offer_135 rfl (kC_1 _) (hnl 7 (le_b rfl)) rfl ?_
                    refine R_goto (tgt := 53) hc dX6_offer_138 (by decide) ?_
                    refine R_sub hc [3, 4, 5, 0] rfl ?_
                    exact hX (l7_24 + (1 : Int32), h21) (wpO_some hw :)
  · obtain ⟨l4_31, h32⟩ := s
    show Rn x 0 0 3 [(0, rf x.w (some l0)), (1, rf x.w l1), (2, .int l2), (3, .int l3), (4, .int l4_31)] [] h32
    have hw : wpO (sX6_offer_L3 F l0 l1 l2 l3 l4_31 h32) _ := hw
    unfold sX6_offer_L3 at hw
    refine R_iload (q := 4) (i := 4) (v := l4_31) hc dX6_offer_3 rfl ?_
    refine R_aload_n (q := 0) (i := 0) (v := (some l0)) hc dX6_offer_5 rfl rfl ?_
    refine R_getI hc fl_6_26 dX6_offer_6 hw (fun t1 hw => ?_)
    refine R_icmp_ge (tgt := 33) hc dX6_offer_9 (by decide) hw (fun hw => ?_) (fun hw => ?_)
    · refine R_sub hc [0, 3] rfl ?_
      exact (wpO_some hw :)
    · refine R_aload_n (q := 0) (i := 0) (v := (some l0)) hc dX6_offer_12 rfl rfl ?_
      refine R_getR hc fl_6_15 dX6_offer_13 hw (fun t2 hw => ?_)
      refine R_iload (q := 4) (i := 4) (v := l4_31) hc dX6_offer_16 rfl ?_
      refine R_aload_n (q := 0) (i := 0) (v := (some l0)) hc dX6_offer_18 rfl rfl ?_
      refine R_aload_n (q := 1) (i := 1) (v := l1) hc dX6_offer_19 rfl rfl ?_
      refine R_iload (q := 4) (i := 4) (v := l4_31) hc dX6_offer_20 rfl ?_
      refine R_iload_n (q := 2) (i := 2) (v := l2) hc dX6_offer_22 rfl rfl ?_
      refine R_cVJ (As := [rf x.w l1, .int l4_31, .int l2]) (rest := [.int l4_31, rf x.w t2]) (r := (some l0)) (ci := 6) hc ml_6_66 mf_X6_priceOf rfl (by decide) ⟨rfl, rfl⟩ ⟨le_b rfl, le_b rfl⟩ ⟨Nat.zero_le _, Nat.zero_le _⟩ (fun a v e => mt_X6_priceOf e) rfl rfl (by simp [rf_cat, cat_i, cat_l, cat_a]) dX6_offer_23 hw (fun t4 hw => ?_)
      refine R_lastore hc dX6_offer_26 hw (fun h5 hw => ?_)
      refine R_iinc (q := 4) (i := 4) (v := l4_31) hc [(4, .int (l4_31 + (1 : Int32))), (0, rf x.w (some l0)), (1, rf x.w l1), (2, .int l2), (3, .int l3)] dX6_offer_27 rfl (kC_1 _) (hnl 4 (le_b rfl)) rfl ?_
      refine R_goto (tgt := 3) hc dX6_offer_30 (by decide) ?_
      refine R_sub hc [1, 2, 3, 4, 0] rfl ?_
      exact hX (l4_31 + (1 : Int32), h5) (wpO_some hw :)
theorem dX6_place_0 : decode cX6_place 0 = .ok (.aload_n 0, 1) := by decide +kernel
theorem dX6_place_1 : decode cX6_place 1 = .ok (.aload_n 1, 1) := by decide +kernel
theorem dX6_place_2 : decode cX6_place 2 = .ok (.aload_n 2, 1) := by decide +kernel
theorem dX6_place_3 : decode cX6_place 3 = .ok (.invokevirtual 22, 3) := by decide +kernel
theorem dX6_place_6 : decode cX6_place 6 = .ok (.iconst 1, 1) := by decide +kernel
theorem dX6_place_7 : decode cX6_place 7 = .ok (.aload_n 0, 1) := by decide +kernel
theorem dX6_place_8 : decode cX6_place 8 = .ok (.getfield 26, 3) := by decide +kernel
theorem dX6_place_11 : decode cX6_place 11 = .ok (.ishl, 1) := by decide +kernel
theorem dX6_place_12 : decode cX6_place 12 = .ok (.iconst 1, 1) := by decide +kernel
theorem dX6_place_13 : decode cX6_place 13 = .ok (.isub, 1) := by decide +kernel
theorem dX6_place_14 : decode cX6_place 14 = .ok (.istore 4, 2) := by decide +kernel
theorem dX6_place_16 : decode cX6_place 16 = .ok (.iconst 0, 1) := by decide +kernel
theorem dX6_place_17 : decode cX6_place 17 = .ok (.istore 5, 2) := by decide +kernel
theorem dX6_place_19 : decode cX6_place 19 = .ok (.iload 5, 2) := by decide +kernel
theorem dX6_place_21 : decode cX6_place 21 = .ok (.iload 4, 2) := by decide +kernel
theorem dX6_place_23 : decode cX6_place 23 = .ok (.if_icmp .gt 19, 3) := by decide +kernel
theorem dX6_place_26 : decode cX6_place 26 = .ok (.aload_n 0, 1) := by decide +kernel
theorem dX6_place_27 : decode cX6_place 27 = .ok (.getfield 19, 3) := by decide +kernel
theorem dX6_place_30 : decode cX6_place 30 = .ok (.iload 5, 2) := by decide +kernel
theorem dX6_place_32 : decode cX6_place 32 = .ok (.ldc2_w 30, 3) := by decide +kernel
theorem dX6_place_35 : decode cX6_place 35 = .ok (.lastore, 1) := by decide +kernel
theorem dX6_place_36 : decode cX6_place 36 = .ok (.iinc 5 1, 3) := by decide +kernel
theorem dX6_place_39 : decode cX6_place 39 = .ok (.goto (-20), 3) := by decide +kernel
theorem dX6_place_42 : decode cX6_place 42 = .ok (.aload_n 0, 1) := by decide +kernel
theorem dX6_place_43 : decode cX6_place 43 = .ok (.getfield 19, 3) := by decide +kernel
theorem dX6_place_46 : decode cX6_place 46 = .ok (.iconst 0, 1) := by decide +kernel
theorem dX6_place_47 : decode cX6_place 47 = .ok (.lconst 0, 1) := by decide +kernel
theorem dX6_place_48 : decode cX6_place 48 = .ok (.lastore, 1) := by decide +kernel
theorem dX6_place_49 : decode cX6_place 49 = .ok (.iconst 1, 1) := by decide +kernel
theorem dX6_place_50 : decode cX6_place 50 = .ok (.aload_n 1, 1) := by decide +kernel
theorem dX6_place_51 : decode cX6_place 51 = .ok (.getfield 32, 3) := by decide +kernel
theorem dX6_place_54 : decode cX6_place 54 = .ok (.invokestatic 37, 3) := by decide +kernel
theorem dX6_place_57 : decode cX6_place 57 = .ok (.istore 5, 2) := by decide +kernel
theorem dX6_place_59 : decode cX6_place 59 = .ok (.iconst 0, 1) := by decide +kernel
theorem dX6_place_60 : decode cX6_place 60 = .ok (.istore 6, 2) := by decide +kernel
theorem dX6_place_62 : decode cX6_place 62 = .ok (.iload 6, 2) := by decide +kernel
theorem dX6_place_64 : decode cX6_place 64 = .ok (.iload_n 3, 1) := by decide +kernel
theorem dX6_place_65 : decode cX6_place 65 = .ok (.if_icmp .ge 22, 3) := by decide +kernel
theorem dX6_place_68 : decode cX6_place 68 = .ok (.aload_n 0, 1) := by decide +kernel
theorem dX6_place_69 : decode cX6_place 69 = .ok (.aload_n 2, 1) := by decide +kernel
theorem dX6_place_70 : decode cX6_place 70 = .ok (.iload 6, 2) := by decide +kernel
theorem dX6_place_72 : decode cX6_place 72 = .ok (.iload 4, 2) := by decide +kernel
theorem dX6_place_74 : decode cX6_place 74 = .ok (.invokevirtual 43, 3) := by decide +kernel
theorem dX6_place_77 : decode cX6_place 77 = .ok (.iload 6, 2) := by decide +kernel
theorem dX6_place_79 : decode cX6_place 79 = .ok (.iload 5, 2) := by decide +kernel
theorem dX6_place_81 : decode cX6_place 81 = .ok (.iadd, 1) := by decide +kernel
theorem dX6_place_82 : decode cX6_place 82 = .ok (.istore 6, 2) := by decide +kernel
theorem dX6_place_84 : decode cX6_place 84 = .ok (.goto (-22), 3) := by decide +kernel
theorem dX6_place_87 : decode cX6_place 87 = .ok (.aload_n 0, 1) := by decide +kernel
theorem dX6_place_88 : decode cX6_place 88 = .ok (.getfield 19, 3) := by decide +kernel
theorem dX6_place_91 : decode cX6_place 91 = .ok (.iload 4, 2) := by decide +kernel
theorem dX6_place_93 : decode cX6_place 93 = .ok (.laload, 1) := by decide +kernel
theorem dX6_place_94 : decode cX6_place 94 = .ok (.lstore 6, 2) := by decide +kernel
theorem dX6_place_96 : decode cX6_place 96 = .ok (.lload 6, 2) := by decide +kernel
theorem dX6_place_98 : decode cX6_place 98 = .ok (.ldc2_w 30, 3) := by decide +kernel
theorem dX6_place_101 : decode cX6_place 101 = .ok (.lcmp, 1) := by decide +kernel
theorem dX6_place_102 : decode cX6_place 102 = .ok (.ifCond .ne 5, 3) := by decide +kernel
theorem dX6_place_105 : decode cX6_place 105 = .ok (.iconst (-1), 1) := by decide +kernel
theorem dX6_place_106 : decode cX6_place 106 = .ok (.ireturn, 1) := by decide +kernel
theorem dX6_place_107 : decode cX6_place 107 = .ok (.iconst 0, 1) := by decide +kernel
theorem dX6_place_108 : decode cX6_place 108 = .ok (.istore 8, 2) := by decide +kernel
theorem dX6_place_110 : decode cX6_place 110 = .ok (.iload 8, 2) := by decide +kernel
theorem dX6_place_112 : decode cX6_place 112 = .ok (.aload_n 0, 1) := by decide +kernel
theorem dX6_place_113 : decode cX6_place 113 = .ok (.getfield 26, 3) := by decide +kernel
theorem dX6_place_116 : decode cX6_place 116 = .ok (.if_icmp .ge 33, 3) := by decide +kernel
theorem dX6_place_119 : decode cX6_place 119 = .ok (.aload_n 2, 1) := by decide +kernel
theorem dX6_place_120 : decode cX6_place 120 = .ok (.getfield 47, 3) := by decide +kernel
theorem dX6_place_123 : decode cX6_place 123 = .ok (.aload_n 0, 1) := by decide +kernel
theorem dX6_place_124 : decode cX6_place 124 = .ok (.getfield 9, 3) := by decide +kernel
theorem dX6_place_127 : decode cX6_place 127 = .ok (.iload 8, 2) := by decide +kernel
theorem dX6_place_129 : decode cX6_place 129 = .ok (.iaload, 1) := by decide +kernel
theorem dX6_place_130 : decode cX6_place 130 = .ok (.lload 6, 2) := by decide +kernel
theorem dX6_place_132 : decode cX6_place 132 = .ok (.iload 8, 2) := by decide +kernel
theorem dX6_place_134 : decode cX6_place 134 = .ok (.invokestatic 52, 3) := by decide +kernel
theorem dX6_place_137 : decode cX6_place 137 = .ok (.lshr, 1) := by decide +kernel
theorem dX6_place_138 : decode cX6_place 138 = .ok (.l2i, 1) := by decide +kernel
theorem dX6_place_139 : decode cX6_place 139 = .ok (.bipush 31, 2) := by decide +kernel
theorem dX6_place_141 : decode cX6_place 141 = .ok (.iand, 1) := by decide +kernel
theorem dX6_place_142 : decode cX6_place 142 = .ok (.iastore, 1) := by decide +kernel
theorem dX6_place_143 : decode cX6_place 143 = .ok (.iinc 8 1, 3) := by decide +kernel
theorem dX6_place_146 : decode cX6_place 146 = .ok (.goto (-36), 3) := by decide +kernel
theorem dX6_place_149 : decode cX6_place 149 = .ok (.lload 6, 2) := by decide +kernel
theorem dX6_place_151 : decode cX6_place 151 = .ok (.bipush 30, 2) := by decide +kernel
theorem dX6_place_153 : decode cX6_place 153 = .ok (.lshr, 1) := by decide +kernel
theorem dX6_place_154 : decode cX6_place 154 = .ok (.l2i, 1) := by decide +kernel
theorem dX6_place_155 : decode cX6_place 155 = .ok (.ireturn, 1) := by decide +kernel
def sX6_place_L19 (F : Nat) (l0 : Nat) (l1 : Option Nat) (l2 : Option Nat) (l3 : Int32) (l4 : Int32) (l5 : Int32) (h : HP) : Option ((Int32 × HP) ⊕ HP) :=
  if l4 < l5 then
    some (.inr h)
  else
    (gR h 6 (some l0) 3).bind fun t5 =>
    (sJ h t5 l5 (-1 : Int64)).bind fun h6 =>
    some (.inl (l5 + (1 : Int32), h6))
def sX6_place_L62 (F : Nat) (l0 : Nat) (l2 : Option Nat) (l3 : Int32) (l4 : Int32) (l5 : Int32) (l6 : Int32) (h : HP) : Option ((Int32 × HP) ⊕ HP) :=
  if l3 ≤ l6 then
    some (.inr h)
  else
    (dO h 6 (some l0)).bind fun a12 =>
    (sX6_offer F a12 l2 l6 l4 h).bind fun h13 =>
    nmI (l6 + l5) fun l6_14 =>
    some (.inl (l6_14, h13))
def sX6_place_L110 (F : Nat) (l0 : Nat) (l2 : Option Nat) (l6 : Int64) (l8 : Int32) (h : HP) : Option ((Int32 × HP) ⊕ HP) :=
  (gI h 6 (some l0) 0).bind fun t18 =>
  if t18 ≤ l8 then
    some (.inr h)
  else
    (gR h 9 l2 4).bind fun t19 =>
    (gR h 6 (some l0) 1).bind fun t20 =>
    (aI h 13 t20 l8).bind fun t21 =>
    (sX6_shiftOf F l8 h).bind fun t22 =>
    (sI h t19 t21 (((Jshr l6 t22).toInt32) &&& (31 : Int32))).bind fun h23 =>
    some (.inl (l8 + (1 : Int32), h23))
def sX6_place (F : Nat) (l0 : Nat) (l1 : Option Nat) (l2 : Option Nat) (l3 : Int32) (h : HP) : Option (Int32 × HP) :=
  (dO h 6 (some l0)).bind fun a1 =>
  (sX6_collect F a1 l1 l2 h).bind fun h2 =>
  (gI h2 6 (some l0) 0).bind fun t3 =>
  nmI ((jshl (1 : Int32) t3) - (1 : Int32)) fun l4_4 =>
  (iter (fun s => sX6_place_L19 F l0 l1 l2 l3 l4_4 s.1 s.2) F ((0 : Int32), h2)).bind fun h7 =>
    (gR h7 6 (some l0) 3).bind fun t8 =>
    (sJ h7 t8 (0 : Int32) (0 : Int64)).bind fun h9 =>
    (gI h9 1 l1 1).bind fun t10 =>
    nmI (jmx (1 : Int32) t10) fun l5_11 =>
    (iter (fun s => sX6_place_L62 F l0 l2 l3 l4_4 l5_11 s.1 s.2) F ((0 : Int32), h9)).bind fun h15 =>
      (gR h15 6 (some l0) 3).bind fun t16 =>
      (aJ h15 t16 l4_4).bind fun t17 =>
      if ¬ (lg_cmp t17 (-1 : Int64)) = 0 then
        (iter (fun s => sX6_place_L110 F l0 l2 t17 s.1 s.2) F ((0 : Int32), h15)).bind fun h24 =>
          some ((Jshr t17 (30 : Int32)).toInt32, h24)
      else
        some ((-1 : Int32), h15)
abbrev rm_X6_place : Room := { frames := 3, cells := 0, slots := 0, locals := 79 }
set_option maxRecDepth 100000 in
set_option maxHeartbeats 4000000 in
theorem mt_X6_place {w : WD} {l : Launch} {F : Nat} {l0 : Nat} {l1 : Option Nat} {l2 : Option Nat} {l3 : Int32} {h : HP} {v : Int32} {h' : HP} (hs : sX6_place F l0 l1 l2 l3 h = some (v, h')) : MI w l yX6_place cX6_place 9 .int rm_X6_place 0 0 [rf w (some l0), rf w l1, rf w l2, .int l3] h v h' := by
  refine of_body [(0, rf w (some l0)), (1, rf w l1), (2, rf w l2), (3, .int l3)] (by decide) (by simp [lg_sl, rf_cat, cat_i, cat_l, cat_a]) (by simp [lv_args, rf_cat, cat_i, cat_l, cat_a]) ?_
  intro x hw_ hnL_ hl_ hc hret hnm hQ
  subst hw_; subst hl_
  have hnl : ∀ i, i < 9 → i < x.nL := fun i h => by rw [hnL_]; exact h
  have hw : wpO (sX6_place F l0 l1 l2 l3 h) (fun r => r = (v, h')) := ⟨_, hs, rfl⟩
  unfold sX6_place at hw
  refine R_aload_n (q := 0) (i := 0) (v := (some l0)) hc dX6_place_0 rfl rfl ?_
  refine R_aload_n (q := 1) (i := 1) (v := l1) hc dX6_place_1 rfl rfl ?_
  refine R_aload_n (q := 2) (i := 2) (v := l2) hc dX6_place_2 rfl rfl ?_
  refine R_cVVi (As := [rf x.w l1, rf x.w l2]) (rest := []) (r := (some l0)) (ci := 6) hc ml_6_22 mf_X6_collect rfl (by decide) ⟨rfl, rfl⟩ ⟨le_b rfl, le_b rfl⟩ ⟨Nat.zero_le _, Nat.zero_le _⟩ (fun a h' e => mt_X6_collect e) rfl rfl (Nat.zero_le _) dX6_place_3 hw (fun h2 hw => ?_)
  refine R_iconst (v := (1 : Int32)) hc dX6_place_6 kI_1 ?_
  refine R_aload_n (q := 0) (i := 0) (v := (some l0)) hc dX6_place_7 rfl rfl ?_
  refine R_getI hc fl_6_26 dX6_place_8 hw (fun t3 hw => ?_)
  refine R_ishl hc dX6_place_11 ?_
  refine R_iconst (v := (1 : Int32)) hc dX6_place_12 kI_1 ?_
  refine R_isub hc dX6_place_13 ?_
  refine R_nmI hw (fun l4_4 hw => ?_)
  refine R_istore (i := 4) (v := l4_4) hc [(4, .int l4_4), (0, rf x.w (some l0)), (1, rf x.w l1), (2, rf x.w l2), (3, .int l3)] dX6_place_14 (hnl 4 (le_b rfl)) rfl ?_
  refine R_iconst (v := (0 : Int32)) hc dX6_place_16 kI_0 ?_
  refine R_istore (i := 5) (v := (0 : Int32)) hc [(5, .int (0 : Int32)), (4, .int l4_4), (0, rf x.w (some l0)), (1, rf x.w l1), (2, rf x.w l2), (3, .int l3)] dX6_place_17 (hnl 5 (le_b rfl)) rfl ?_
  refine R_sub hc [2, 3, 4, 5, 1, 0] rfl ?_
  refine R_loop (P := fun (s : (Int32 × HP)) => Rn x 0 0 19 [(0, rf x.w (some l0)), (1, rf x.w l1), (2, rf x.w l2), (3, .int l3), (4, .int l4_4), (5, .int s.1)] [] s.2) (fun h7 => Rn x 0 0 42 [(0, rf x.w (some l0)), (1, rf x.w l1), (2, rf x.w l2), (3, .int l3), (4, .int l4_4)] [] h7) hw (fun r hw => ?_) (fun X hX s hw => ?_)
  · revert r hw
    intro h7 hw
    show Rn x 0 0 42 [(0, rf x.w (some l0)), (1, rf x.w l1), (2, rf x.w l2), (3, .int l3), (4, .int l4_4)] [] h7
    refine R_aload_n (q := 0) (i := 0) (v := (some l0)) hc dX6_place_42 rfl rfl ?_
    refine R_getR hc fl_6_19 dX6_place_43 hw (fun t8 hw => ?_)
    refine R_iconst (v := (0 : Int32)) hc dX6_place_46 kI_0 ?_
    refine R_lconst (v := (0 : Int64)) hc dX6_place_47 kL_0 ?_
    refine R_lastore hc dX6_place_48 hw (fun h9 hw => ?_)
    refine R_iconst (v := (1 : Int32)) hc dX6_place_49 kI_1 ?_
    refine R_aload_n (q := 1) (i := 1) (v := l1) hc dX6_place_50 rfl rfl ?_
    refine R_getI hc fl_6_32 dX6_place_51 hw (fun t10 hw => ?_)
    refine R_jmx hc ml_6_37 (le_b rfl) (le_b rfl) ⟨Nat.zero_le _, Nat.zero_le _⟩ dX6_place_54 ?_
    refine R_nmI hw (fun l5_11 hw => ?_)
    refine R_istore (i := 5) (v := l5_11) hc [(5, .int l5_11), (0, rf x.w (some l0)), (1, rf x.w l1), (2, rf x.w l2), (3, .int l3), (4, .int l4_4)] dX6_place_57 (hnl 5 (le_b rfl)) rfl ?_
    refine R_iconst (v := (0 : Int32)) hc dX6_place_59 kI_0 ?_
    refine R_istore (i := 6) (v := (0 : Int32)) hc [(6, .int (0 : Int32)), (5, .int l5_11), (0, rf x.w (some l0)), (1, rf x.w l1), (2, rf x.w l2), (3, .int l3), (4, .int l4_4)] dX6_place_60 (hnl 6 (le_b rfl)) rfl ?_
    refine R_sub hc [2, 4, 5, 6, 1, 0] rfl ?_
    refine R_loop (P := fun (s : (Int32 × HP)) => Rn x 0 0 62 [(0, rf x.w (some l0)), (2, rf x.w l2), (3, .int l3), (4, .int l4_4), (5, .int l5_11), (6, .int s.1)] [] s.2) (fun h15 => Rn x 0 0 87 [(0, rf x.w (some l0)), (2, rf x.w l2), (4, .int l4_4)] [] h15) hw (fun r hw => ?_) (fun X hX s hw => ?_)
    · revert r hw
      intro h15 hw
      show Rn x 0 0 87 [(0, rf x.w (some l0)), (2, rf x.w l2), (4, .int l4_4)] [] h15
      refine R_aload_n (q := 0) (i := 0) (v := (some l0)) hc dX6_place_87 rfl rfl ?_
      refine R_getR hc fl_6_19 dX6_place_88 hw (fun t16 hw => ?_)
      refine R_iload (q := 2) (i := 4) (v := l4_4) hc dX6_place_91 rfl ?_
      refine R_laload hc dX6_place_93 hw (fun t17 hw => ?_)
      refine R_lstore (i := 6) (v := t17) hc [(6, .long t17), (0, rf x.w (some l0)), (2, rf x.w l2), (4, .int l4_4)] dX6_place_94 (hnl 7 (le_b rfl)) rfl ?_
      refine R_lload (q := 0) (i := 6) (v := t17) hc dX6_place_96 rfl ?_
      refine R_ldc2 (v := (-1 : Int64)) hc kw_6_30 dX6_place_98 ?_
      refine R_lcmp hc dX6_place_101 ?_
      refine R_if_ne (tgt := 107) hc dX6_place_102 (by decide) hw (fun hw => ?_) (fun hw => ?_)
      · refine R_iconst (v := (0 : Int32)) hc dX6_place_107 kI_0 ?_
        refine R_istore (i := 8) (v := (0 : Int32)) hc [(8, .int (0 : Int32)), (6, .long t17), (0, rf x.w (some l0)), (2, rf x.w l2), (4, .int l4_4)] dX6_place_108 (hnl 8 (le_b rfl)) rfl ?_
        refine R_sub hc [2, 3, 1, 0] rfl ?_
        refine R_loop (P := fun (s : (Int32 × HP)) => Rn x 0 0 110 [(0, rf x.w (some l0)), (2, rf x.w l2), (6, .long t17), (8, .int s.1)] [] s.2) (fun h24 => Rn x 0 0 149 [(6, .long t17)] [] h24) hw (fun r hw => ?_) (fun X hX s hw => ?_)
        · revert r hw
          intro h24 hw
          show Rn x 0 0 149 [(6, .long t17)] [] h24
          refine R_lload (q := 0) (i := 6) (v := t17) hc dX6_place_149 rfl ?_
          refine R_bipush (v := (30 : Int32)) hc dX6_place_151 kB_30 ?_
          refine R_lshr hc dX6_place_153 ?_
          refine R_l2i hc dX6_place_154 ?_
          exact R_ireturn hc hret rfl hQ hw dX6_place_155
        · obtain ⟨l8_26, h27⟩ := s
          show Rn x 0 0 110 [(0, rf x.w (some l0)), (2, rf x.w l2), (6, .long t17), (8, .int l8_26)] [] h27
          have hw : wpO (sX6_place_L110 F l0 l2 t17 l8_26 h27) _ := hw
          unfold sX6_place_L110 at hw
          refine R_iload (q := 3) (i := 8) (v := l8_26) hc dX6_place_110 rfl ?_
          refine R_aload_n (q := 0) (i := 0) (v := (some l0)) hc dX6_place_112 rfl rfl ?_
          refine R_getI hc fl_6_26 dX6_place_113 hw (fun t18 hw => ?_)
          refine R_icmp_ge (tgt := 149) hc dX6_place_116 (by decide) hw (fun hw => ?_) (fun hw => ?_)
          · refine R_sub hc [2] rfl ?_
            exact (wpO_some hw :)
          · refine R_aload_n (q := 1) (i := 2) (v := l2) hc dX6_place_119 rfl rfl ?_
            refine R_getR hc fl_6_47 dX6_place_120 hw (fun t19 hw => ?_)
            refine R_aload_n (q := 0) (i := 0) (v := (some l0)) hc dX6_place_123 rfl rfl ?_
            refine R_getR hc fl_6_9 dX6_place_124 hw (fun t20 hw => ?_)
            refine R_iload (q := 3) (i := 8) (v := l8_26) hc dX6_place_127 rfl ?_
            refine R_iaload hc dX6_place_129 hw (fun t21 hw => ?_)
            refine R_lload (q := 2) (i := 6) (v := t17) hc dX6_place_130 rfl ?_
            refine R_iload (q := 3) (i := 8) (v := l8_26) hc dX6_place_132 rfl ?_
            refine R_cSI (As := [.int l8_26]) (rest := [.long t17, .int t21, rf x.w t19]) hc ml_6_52 mf_X6_shiftOf ⟨rfl, rfl⟩ ⟨le_b rfl, le_b rfl⟩ ⟨Nat.zero_le _, Nat.zero_le _⟩ (fun v e => mt_X6_shiftOf e) rfl rfl (by simp [rf_cat, cat_i, cat_l, cat_a]) dX6_place_134 hw (fun t22 hw => ?_)
            refine R_lshr hc dX6_place_137 ?_
            refine R_l2i hc dX6_place_138 ?_
            refine R_bipush (v := (31 : Int32)) hc dX6_place_139 kB_31 ?_
            refine R_iand hc dX6_place_141 ?_
            refine R_iastore hc dX6_place_142 hw (fun h23 hw => ?_)
            refine R_iinc (q := 3) (i := 8) (v := l8_26) hc [(8, .int (l8_26 + (1 : Int32))), (0, rf x.w (some l0)), (2, rf x.w l2), (6, .long t17)] dX6_place_143 rfl (kC_1 _) (hnl 8 (le_b rfl)) rfl ?_
            refine R_goto (tgt := 110) hc dX6_place_146 (by decide) ?_
            refine R_sub hc [1, 2, 3, 0] rfl ?_
            exact hX (l8_26 + (1 : Int32), h23) (wpO_some hw :)
      · refine R_iconst (v := (-1 : Int32)) hc dX6_place_105 kI_m1 ?_
        exact R_ireturn hc hret rfl hQ hw dX6_place_106
    · obtain ⟨l6_29, h30⟩ := s
      show Rn x 0 0 62 [(0, rf x.w (some l0)), (2, rf x.w l2), (3, .int l3), (4, .int l4_4), (5, .int l5_11), (6, .int l6_29)] [] h30
      have hw : wpO (sX6_place_L62 F l0 l2 l3 l4_4 l5_11 l6_29 h30) _ := hw
      unfold sX6_place_L62 at hw
      refine R_iload (q := 5) (i := 6) (v := l6_29) hc dX6_place_62 rfl ?_
      refine R_iload_n (q := 2) (i := 3) (v := l3) hc dX6_place_64 rfl rfl ?_
      refine R_icmp_ge (tgt := 87) hc dX6_place_65 (by decide) hw (fun hw => ?_) (fun hw => ?_)
      · refine R_sub hc [0, 1, 3] rfl ?_
        exact (wpO_some hw :)
      · refine R_aload_n (q := 0) (i := 0) (v := (some l0)) hc dX6_place_68 rfl rfl ?_
        refine R_aload_n (q := 1) (i := 2) (v := l2) hc dX6_place_69 rfl rfl ?_
        refine R_iload (q := 5) (i := 6) (v := l6_29) hc dX6_place_70 rfl ?_
        refine R_iload (q := 3) (i := 4) (v := l4_4) hc dX6_place_72 rfl ?_
        refine R_cVVi (As := [rf x.w l2, .int l6_29, .int l4_4]) (rest := []) (r := (some l0)) (ci := 6) hc ml_6_43 mf_X6_offer rfl (by decide) ⟨rfl, rfl⟩ ⟨le_b rfl, le_b rfl⟩ ⟨Nat.zero_le _, Nat.zero_le _⟩ (fun a h' e => mt_X6_offer e) rfl rfl (Nat.zero_le _) dX6_place_74 hw (fun h13 hw => ?_)
        refine R_iload (q := 5) (i := 6) (v := l6_29) hc dX6_place_77 rfl ?_
        refine R_iload (q := 4) (i := 5) (v := l5_11) hc dX6_place_79 rfl ?_
        refine R_iadd hc dX6_place_81 ?_
        refine R_nmI hw (fun l6_14 hw => ?_)
        refine R_istore (i := 6) (v := l6_14) hc [(6, .int l6_14), (0, rf x.w (some l0)), (2, rf x.w l2), (3, .int l3), (4, .int l4_4), (5, .int l5_11)] dX6_place_82 (hnl 6 (le_b rfl)) rfl ?_
        refine R_goto (tgt := 62) hc dX6_place_84 (by decide) ?_
        refine R_sub hc [1, 2, 3, 4, 5, 0] rfl ?_
        exact hX (l6_14, h13) (wpO_some hw :)
  · obtain ⟨l5_32, h33⟩ := s
    show Rn x 0 0 19 [(0, rf x.w (some l0)), (1, rf x.w l1), (2, rf x.w l2), (3, .int l3), (4, .int l4_4), (5, .int l5_32)] [] h33
    have hw : wpO (sX6_place_L19 F l0 l1 l2 l3 l4_4 l5_32 h33) _ := hw
    unfold sX6_place_L19 at hw
    refine R_iload (q := 5) (i := 5) (v := l5_32) hc dX6_place_19 rfl ?_
    refine R_iload (q := 4) (i := 4) (v := l4_4) hc dX6_place_21 rfl ?_
    refine R_icmp_gt (tgt := 42) hc dX6_place_23 (by decide) hw (fun hw => ?_) (fun hw => ?_)
    · refine R_sub hc [0, 1, 2, 3, 4] rfl ?_
      exact (wpO_some hw :)
    · refine R_aload_n (q := 0) (i := 0) (v := (some l0)) hc dX6_place_26 rfl rfl ?_
      refine R_getR hc fl_6_19 dX6_place_27 hw (fun t5 hw => ?_)
      refine R_iload (q := 5) (i := 5) (v := l5_32) hc dX6_place_30 rfl ?_
      refine R_ldc2 (v := (-1 : Int64)) hc kw_6_30 dX6_place_32 ?_
      refine R_lastore hc dX6_place_35 hw (fun h6 hw => ?_)
      refine R_iinc (q := 5) (i := 5) (v := l5_32) hc [(5, .int (l5_32 + (1 : Int32))), (0, rf x.w (some l0)), (1, rf x.w l1), (2, rf x.w l2), (3, .int l3), (4, .int l4_4)] dX6_place_36 rfl (kC_1 _) (hnl 5 (le_b rfl)) rfl ?_
      refine R_goto (tgt := 19) hc dX6_place_39 (by decide) ?_
      refine R_sub hc [1, 2, 3, 4, 5, 0] rfl ?_
      exact hX (l5_32 + (1 : Int32), h6) (wpO_some hw :)
theorem dX9_drawWire_0 : decode cX9_drawWire 0 = .ok (.aload_n 0, 1) := by decide +kernel
theorem dX9_drawWire_1 : decode cX9_drawWire 1 = .ok (.getfield 24, 3) := by decide +kernel
theorem dX9_drawWire_4 : decode cX9_drawWire 4 = .ok (.iload_n 1, 1) := by decide +kernel
theorem dX9_drawWire_5 : decode cX9_drawWire 5 = .ok (.iconst (-1), 1) := by decide +kernel
theorem dX9_drawWire_6 : decode cX9_drawWire 6 = .ok (.iastore, 1) := by decide +kernel
theorem dX9_drawWire_7 : decode cX9_drawWire 7 = .ok (.aload_n 0, 1) := by decide +kernel
theorem dX9_drawWire_8 : decode cX9_drawWire 8 = .ok (.getfield 27, 3) := by decide +kernel
theorem dX9_drawWire_11 : decode cX9_drawWire 11 = .ok (.iload_n 1, 1) := by decide +kernel
theorem dX9_drawWire_12 : decode cX9_drawWire 12 = .ok (.iconst (-1), 1) := by decide +kernel
theorem dX9_drawWire_13 : decode cX9_drawWire 13 = .ok (.iastore, 1) := by decide +kernel
theorem dX9_drawWire_14 : decode cX9_drawWire 14 = .ok (.iload_n 2, 1) := by decide +kernel
theorem dX9_drawWire_15 : decode cX9_drawWire 15 = .ok (.ifCond .ne 12, 3) := by decide +kernel
theorem dX9_drawWire_18 : decode cX9_drawWire 18 = .ok (.aload_n 0, 1) := by decide +kernel
theorem dX9_drawWire_19 : decode cX9_drawWire 19 = .ok (.getfield 18, 3) := by decide +kernel
theorem dX9_drawWire_22 : decode cX9_drawWire 22 = .ok (.iload_n 1, 1) := by decide +kernel
theorem dX9_drawWire_23 : decode cX9_drawWire 23 = .ok (.iaload, 1) := by decide +kernel
theorem dX9_drawWire_24 : decode cX9_drawWire 24 = .ok (.ifCond .ne 4, 3) := by decide +kernel
theorem dX9_drawWire_27 : decode cX9_drawWire 27 = .ok (.return_, 1) := by decide +kernel
theorem dX9_drawWire_28 : decode cX9_drawWire 28 = .ok (.aload_n 0, 1) := by decide +kernel
theorem dX9_drawWire_29 : decode cX9_drawWire 29 = .ok (.getfield 9, 3) := by decide +kernel
theorem dX9_drawWire_32 : decode cX9_drawWire 32 = .ok (.iload_n 1, 1) := by decide +kernel
theorem dX9_drawWire_33 : decode cX9_drawWire 33 = .ok (.iaload, 1) := by decide +kernel
theorem dX9_drawWire_34 : decode cX9_drawWire 34 = .ok (.istore_n 3, 1) := by decide +kernel
theorem dX9_drawWire_35 : decode cX9_drawWire 35 = .ok (.aload_n 0, 1) := by decide +kernel
theorem dX9_drawWire_36 : decode cX9_drawWire 36 = .ok (.getfield 15, 3) := by decide +kernel
theorem dX9_drawWire_39 : decode cX9_drawWire 39 = .ok (.iload_n 1, 1) := by decide +kernel
theorem dX9_drawWire_40 : decode cX9_drawWire 40 = .ok (.iaload, 1) := by decide +kernel
theorem dX9_drawWire_41 : decode cX9_drawWire 41 = .ok (.istore 4, 2) := by decide +kernel
theorem dX9_drawWire_43 : decode cX9_drawWire 43 = .ok (.aload_n 0, 1) := by decide +kernel
theorem dX9_drawWire_44 : decode cX9_drawWire 44 = .ok (.getfield 21, 3) := by decide +kernel
theorem dX9_drawWire_47 : decode cX9_drawWire 47 = .ok (.iload_n 1, 1) := by decide +kernel
theorem dX9_drawWire_48 : decode cX9_drawWire 48 = .ok (.iaload, 1) := by decide +kernel
theorem dX9_drawWire_49 : decode cX9_drawWire 49 = .ok (.iconst (-1), 1) := by decide +kernel
theorem dX9_drawWire_50 : decode cX9_drawWire 50 = .ok (.if_icmp .eq 27, 3) := by decide +kernel
theorem dX9_drawWire_53 : decode cX9_drawWire 53 = .ok (.iload_n 3, 1) := by decide +kernel
theorem dX9_drawWire_54 : decode cX9_drawWire 54 = .ok (.aload_n 0, 1) := by decide +kernel
theorem dX9_drawWire_55 : decode cX9_drawWire 55 = .ok (.getfield 21, 3) := by decide +kernel
theorem dX9_drawWire_58 : decode cX9_drawWire 58 = .ok (.iload_n 1, 1) := by decide +kernel
theorem dX9_drawWire_59 : decode cX9_drawWire 59 = .ok (.iaload, 1) := by decide +kernel
theorem dX9_drawWire_60 : decode cX9_drawWire 60 = .ok (.invokestatic 82, 3) := by decide +kernel
theorem dX9_drawWire_63 : decode cX9_drawWire 63 = .ok (.istore_n 3, 1) := by decide +kernel
theorem dX9_drawWire_64 : decode cX9_drawWire 64 = .ok (.iload 4, 2) := by decide +kernel
theorem dX9_drawWire_66 : decode cX9_drawWire 66 = .ok (.aload_n 0, 1) := by decide +kernel
theorem dX9_drawWire_67 : decode cX9_drawWire 67 = .ok (.getfield 21, 3) := by decide +kernel
theorem dX9_drawWire_70 : decode cX9_drawWire 70 = .ok (.iload_n 1, 1) := by decide +kernel
theorem dX9_drawWire_71 : decode cX9_drawWire 71 = .ok (.iaload, 1) := by decide +kernel
theorem dX9_drawWire_72 : decode cX9_drawWire 72 = .ok (.invokestatic 88, 3) := by decide +kernel
theorem dX9_drawWire_75 : decode cX9_drawWire 75 = .ok (.istore 4, 2) := by decide +kernel
theorem dX9_drawWire_77 : decode cX9_drawWire 77 = .ok (.iload_n 3, 1) := by decide +kernel
theorem dX9_drawWire_78 : decode cX9_drawWire 78 = .ok (.iload 4, 2) := by decide +kernel
theorem dX9_drawWire_80 : decode cX9_drawWire 80 = .ok (.if_icmp .ne 4, 3) := by decide +kernel
theorem dX9_drawWire_83 : decode cX9_drawWire 83 = .ok (.return_, 1) := by decide +kernel
theorem dX9_drawWire_84 : decode cX9_drawWire 84 = .ok (.aload_n 0, 1) := by decide +kernel
theorem dX9_drawWire_85 : decode cX9_drawWire 85 = .ok (.getfield 24, 3) := by decide +kernel
theorem dX9_drawWire_88 : decode cX9_drawWire 88 = .ok (.iload_n 1, 1) := by decide +kernel
theorem dX9_drawWire_89 : decode cX9_drawWire 89 = .ok (.iload_n 3, 1) := by decide +kernel
theorem dX9_drawWire_90 : decode cX9_drawWire 90 = .ok (.iastore, 1) := by decide +kernel
theorem dX9_drawWire_91 : decode cX9_drawWire 91 = .ok (.aload_n 0, 1) := by decide +kernel
theorem dX9_drawWire_92 : decode cX9_drawWire 92 = .ok (.getfield 27, 3) := by decide +kernel
theorem dX9_drawWire_95 : decode cX9_drawWire 95 = .ok (.iload_n 1, 1) := by decide +kernel
theorem dX9_drawWire_96 : decode cX9_drawWire 96 = .ok (.iload 4, 2) := by decide +kernel
theorem dX9_drawWire_98 : decode cX9_drawWire 98 = .ok (.iastore, 1) := by decide +kernel
theorem dX9_drawWire_99 : decode cX9_drawWire 99 = .ok (.iload_n 3, 1) := by decide +kernel
theorem dX9_drawWire_100 : decode cX9_drawWire 100 = .ok (.istore 5, 2) := by decide +kernel
theorem dX9_drawWire_102 : decode cX9_drawWire 102 = .ok (.iload 5, 2) := by decide +kernel
theorem dX9_drawWire_104 : decode cX9_drawWire 104 = .ok (.iload 4, 2) := by decide +kernel
theorem dX9_drawWire_106 : decode cX9_drawWire 106 = .ok (.if_icmp .gt 20, 3) := by decide +kernel
theorem dX9_drawWire_109 : decode cX9_drawWire 109 = .ok (.aload_n 0, 1) := by decide +kernel
theorem dX9_drawWire_110 : decode cX9_drawWire 110 = .ok (.getfield 33, 3) := by decide +kernel
theorem dX9_drawWire_113 : decode cX9_drawWire 113 = .ok (.iload 5, 2) := by decide +kernel
theorem dX9_drawWire_115 : decode cX9_drawWire 115 = .ok (.dup2, 1) := by decide +kernel
theorem dX9_drawWire_116 : decode cX9_drawWire 116 = .ok (.iaload, 1) := by decide +kernel
theorem dX9_drawWire_117 : decode cX9_drawWire 117 = .ok (.iconst 1, 1) := by decide +kernel
theorem dX9_drawWire_118 : decode cX9_drawWire 118 = .ok (.iadd, 1) := by decide +kernel
theorem dX9_drawWire_119 : decode cX9_drawWire 119 = .ok (.iastore, 1) := by decide +kernel
theorem dX9_drawWire_120 : decode cX9_drawWire 120 = .ok (.iinc 5 1, 3) := by decide +kernel
theorem dX9_drawWire_123 : decode cX9_drawWire 123 = .ok (.goto (-21), 3) := by decide +kernel
theorem dX9_drawWire_126 : decode cX9_drawWire 126 = .ok (.return_, 1) := by decide +kernel
def sX9_drawWire_L102 (F : Nat) (l0 : Nat) (l4 : Int32) (l5 : Int32) (h : HP) : Option ((Int32 × HP) ⊕ HP) :=
  if l4 < l5 then
    some (.inr h)
  else
    (gR h 9 (some l0) 8).bind fun t25 =>
    (aI h 13 t25 l5).bind fun t26 =>
    (sI h t25 l5 (t26 + (1 : Int32))).bind fun h27 =>
    some (.inl (l5 + (1 : Int32), h27))
def sX9_drawWire (F : Nat) (l0 : Nat) (l1 : Int32) (l2 : Int32) (h : HP) : Option HP :=
  (gR h 9 (some l0) 5).bind fun t1 =>
  (sI h t1 l1 (-1 : Int32)).bind fun h2 =>
  (gR h2 9 (some l0) 6).bind fun t3 =>
  (sI h2 t3 l1 (-1 : Int32)).bind fun h4 =>
  if ¬ l2 = 0 then
    some h4
  else
    (gR h4 9 (some l0) 3).bind fun t5 =>
    (aI h4 13 t5 l1).bind fun t6 =>
    if ¬ t6 = 0 then
      (gR h4 9 (some l0) 1).bind fun t7 =>
      (aI h4 13 t7 l1).bind fun t8 =>
      (gR h4 9 (some l0) 2).bind fun t9 =>
      (aI h4 13 t9 l1).bind fun t10 =>
      (gR h4 9 (some l0) 4).bind fun t11 =>
      (aI h4 13 t11 l1).bind fun t12 =>
      (if t12 = (-1 : Int32) then
          some (t8, t10)
        else
          (gR h4 9 (some l0) 4).bind fun t15 =>
          (aI h4 13 t15 l1).bind fun t16 =>
          nmI (jmn t8 t16) fun l3_17 =>
          (gR h4 9 (some l0) 4).bind fun t18 =>
          (aI h4 13 t18 l1).bind fun t19 =>
          nmI (jmx t10 t19) fun l4_20 =>
          some (l3_17, l4_20)).bind fun r => match r with
      | (l3_13, l4_14) =>
      if ¬ l3_13 = l4_14 then
        (gR h4 9 (some l0) 5).bind fun t21 =>
        (sI h4 t21 l1 l3_13).bind fun h22 =>
        (gR h22 9 (some l0) 6).bind fun t23 =>
        (sI h22 t23 l1 l4_14).bind fun h24 =>
        (iter (fun s => sX9_drawWire_L102 F l0 l4_14 s.1 s.2) F (l3_13, h24)).bind fun h28 =>
          some h28
      else
        some h4
    else
      some h4
abbrev rm_X9_drawWire : Room := { frames := 1, cells := 0, slots := 0, locals := 24 }
set_option maxRecDepth 100000 in
set_option maxHeartbeats 4000000 in
theorem mt_X9_drawWire {w : WD} {l : Launch} {F : Nat} {l0 : Nat} {l1 : Int32} {l2 : Int32} {h : HP} {h' : HP} (hs : sX9_drawWire F l0 l1 l2 h = some h') : MV w l yX9_drawWire cX9_drawWire 6 rm_X9_drawWire 0 0 [rf w (some l0), .int l1, .int l2] h h' := by
  refine of_body [(0, rf w (some l0)), (1, .int l1), (2, .int l2)] (by decide) (by simp [lg_sl, rf_cat, cat_i, cat_l, cat_a]) (by simp [lv_args, rf_cat, cat_i, cat_l, cat_a]) ?_
  intro x hw_ hnL_ hl_ hc hret hnm hQ
  subst hw_; subst hl_
  have hnl : ∀ i, i < 6 → i < x.nL := fun i h => by rw [hnL_]; exact h
  have hw : wpO (sX9_drawWire F l0 l1 l2 h) (fun r => r = h') := ⟨_, hs, rfl⟩
  unfold sX9_drawWire at hw
  refine R_aload_n (q := 0) (i := 0) (v := (some l0)) hc dX9_drawWire_0 rfl rfl ?_
  refine R_getR hc fl_9_24 dX9_drawWire_1 hw (fun t1 hw => ?_)
  refine R_iload_n (q := 1) (i := 1) (v := l1) hc dX9_drawWire_4 rfl rfl ?_
  refine R_iconst (v := (-1 : Int32)) hc dX9_drawWire_5 kI_m1 ?_
  refine R_iastore hc dX9_drawWire_6 hw (fun h2 hw => ?_)
  refine R_aload_n (q := 0) (i := 0) (v := (some l0)) hc dX9_drawWire_7 rfl rfl ?_
  refine R_getR hc fl_9_27 dX9_drawWire_8 hw (fun t3 hw => ?_)
  refine R_iload_n (q := 1) (i := 1) (v := l1) hc dX9_drawWire_11 rfl rfl ?_
  refine R_iconst (v := (-1 : Int32)) hc dX9_drawWire_12 kI_m1 ?_
  refine R_iastore hc dX9_drawWire_13 hw (fun h4 hw => ?_)
  refine R_iload_n (q := 2) (i := 2) (v := l2) hc dX9_drawWire_14 rfl rfl ?_
  refine R_if_ne (tgt := 27) hc dX9_drawWire_15 (by decide) hw (fun hw => ?_) (fun hw => ?_)
  · exact R_return hc hret hQ hw dX9_drawWire_27
  · refine R_aload_n (q := 0) (i := 0) (v := (some l0)) hc dX9_drawWire_18 rfl rfl ?_
    refine R_getR hc fl_9_18 dX9_drawWire_19 hw (fun t5 hw => ?_)
    refine R_iload_n (q := 1) (i := 1) (v := l1) hc dX9_drawWire_22 rfl rfl ?_
    refine R_iaload hc dX9_drawWire_23 hw (fun t6 hw => ?_)
    refine R_if_ne (tgt := 28) hc dX9_drawWire_24 (by decide) hw (fun hw => ?_) (fun hw => ?_)
    · refine R_aload_n (q := 0) (i := 0) (v := (some l0)) hc dX9_drawWire_28 rfl rfl ?_
      refine R_getR hc fl_9_9 dX9_drawWire_29 hw (fun t7 hw => ?_)
      refine R_iload_n (q := 1) (i := 1) (v := l1) hc dX9_drawWire_32 rfl rfl ?_
      refine R_iaload hc dX9_drawWire_33 hw (fun t8 hw => ?_)
      refine R_istore_n (i := 3) (v := t8) hc [(3, .int t8), (0, rf x.w (some l0)), (1, .int l1), (2, .int l2)] dX9_drawWire_34 rfl (hnl 3 (le_b rfl)) rfl ?_
      refine R_aload_n (q := 1) (i := 0) (v := (some l0)) hc dX9_drawWire_35 rfl rfl ?_
      refine R_getR hc fl_9_15 dX9_drawWire_36 hw (fun t9 hw => ?_)
      refine R_iload_n (q := 2) (i := 1) (v := l1) hc dX9_drawWire_39 rfl rfl ?_
      refine R_iaload hc dX9_drawWire_40 hw (fun t10 hw => ?_)
      refine R_istore (i := 4) (v := t10) hc [(4, .int t10), (3, .int t8), (0, rf x.w (some l0)), (1, .int l1), (2, .int l2)] dX9_drawWire_41 (hnl 4 (le_b rfl)) rfl ?_
      refine R_aload_n (q := 2) (i := 0) (v := (some l0)) hc dX9_drawWire_43 rfl rfl ?_
      refine R_getR hc fl_9_21 dX9_drawWire_44 hw (fun t11 hw => ?_)
      refine R_iload_n (q := 3) (i := 1) (v := l1) hc dX9_drawWire_47 rfl rfl ?_
      refine R_iaload hc dX9_drawWire_48 hw (fun t12 hw => ?_)
      refine R_iconst (v := (-1 : Int32)) hc dX9_drawWire_49 kI_m1 ?_
      refine R_join (fun (r : (Int32 × Int32)) => match r with | (l3_13, l4_14) => Rn x 0 0 77 [(0, rf x.w (some l0)), (1, .int l1), (3, .int l3_13), (4, .int l4_14)] [] h4) hw (fun r hw => ?_) (fun hw => ?_)
      · obtain ⟨l3_13, l4_14⟩ := r
        show Rn x 0 0 77 [(0, rf x.w (some l0)), (1, .int l1), (3, .int l3_13), (4, .int l4_14)] [] h4
        refine R_iload_n (q := 2) (i := 3) (v := l3_13) hc dX9_drawWire_77 rfl rfl ?_
        refine R_iload (q := 3) (i := 4) (v := l4_14) hc dX9_drawWire_78 rfl ?_
        refine R_icmp_ne (tgt := 84) hc dX9_drawWire_80 (by decide) hw (fun hw => ?_) (fun hw => ?_)
        · refine R_aload_n (q := 0) (i := 0) (v := (some l0)) hc dX9_drawWire_84 rfl rfl ?_
          refine R_getR hc fl_9_24 dX9_drawWire_85 hw (fun t21 hw => ?_)
          refine R_iload_n (q := 1) (i := 1) (v := l1) hc dX9_drawWire_88 rfl rfl ?_
          refine R_iload_n (q := 2) (i := 3) (v := l3_13) hc dX9_drawWire_89 rfl rfl ?_
          refine R_iastore hc dX9_drawWire_90 hw (fun h22 hw => ?_)
          refine R_aload_n (q := 0) (i := 0) (v := (some l0)) hc dX9_drawWire_91 rfl rfl ?_
          refine R_getR hc fl_9_27 dX9_drawWire_92 hw (fun t23 hw => ?_)
          refine R_iload_n (q := 1) (i := 1) (v := l1) hc dX9_drawWire_95 rfl rfl ?_
          refine R_iload (q := 3) (i := 4) (v := l4_14) hc dX9_drawWire_96 rfl ?_
          refine R_iastore hc dX9_drawWire_98 hw (fun h24 hw => ?_)
          refine R_iload_n (q := 2) (i := 3) (v := l3_13) hc dX9_drawWire_99 rfl rfl ?_
          refine R_istore (i := 5) (v := l3_13) hc [(5, .int l3_13), (0, rf x.w (some l0)), (1, .int l1), (3, .int l3_13), (4, .int l4_14)] dX9_drawWire_100 (hnl 5 (le_b rfl)) rfl ?_
          refine R_sub hc [1, 4, 0] rfl ?_
          refine R_loop (P := fun (s : (Int32 × HP)) => Rn x 0 0 102 [(0, rf x.w (some l0)), (4, .int l4_14), (5, .int s.1)] [] s.2) (fun h28 => Rn x 0 0 126 [] [] h28) hw (fun r hw => ?_) (fun X hX s hw => ?_)
          · revert r hw
            intro h28 hw
            show Rn x 0 0 126 [] [] h28
            exact R_return hc hret hQ hw dX9_drawWire_126
          · obtain ⟨l5_30, h31⟩ := s
            show Rn x 0 0 102 [(0, rf x.w (some l0)), (4, .int l4_14), (5, .int l5_30)] [] h31
            have hw : wpO (sX9_drawWire_L102 F l0 l4_14 l5_30 h31) _ := hw
            unfold sX9_drawWire_L102 at hw
            refine R_iload (q := 2) (i := 5) (v := l5_30) hc dX9_drawWire_102 rfl ?_
            refine R_iload (q := 1) (i := 4) (v := l4_14) hc dX9_drawWire_104 rfl ?_
            refine R_icmp_gt (tgt := 126) hc dX9_drawWire_106 (by decide) hw (fun hw => ?_) (fun hw => ?_)
            · refine R_sub hc [] rfl ?_
              exact (wpO_some hw :)
            · refine R_aload_n (q := 0) (i := 0) (v := (some l0)) hc dX9_drawWire_109 rfl rfl ?_
              refine R_getR hc fl_9_33 dX9_drawWire_110 hw (fun t25 hw => ?_)
              refine R_iload (q := 2) (i := 5) (v := l5_30) hc dX9_drawWire_113 rfl ?_
              refine R_dup2 hc dX9_drawWire_115 rfl (rf_cat _ _) ?_
              refine R_iaload hc dX9_drawWire_116 hw (fun t26 hw => ?_)
              refine R_iconst (v := (1 : Int32)) hc dX9_drawWire_117 kI_1 ?_
              refine R_iadd hc dX9_drawWire_118 ?_
              refine R_iastore hc dX9_drawWire_119 hw (fun h27 hw => ?_)
              refine R_iinc (q := 2) (i := 5) (v := l5_30) hc [(5, .int (l5_30 + (1 : Int32))), (0, rf x.w (some l0)), (4, .int l4_14)] dX9_drawWire_120 rfl (kC_1 _) (hnl 5 (le_b rfl)) rfl ?_
              refine R_goto (tgt := 102) hc dX9_drawWire_123 (by decide) ?_
              refine R_sub hc [1, 2, 0] rfl ?_
              exact hX (l5_30 + (1 : Int32), h27) (wpO_some hw :)
        · exact R_return hc hret hQ hw dX9_drawWire_83
      · refine R_icmp_eq (tgt := 77) hc dX9_drawWire_50 (by decide) hw (fun hw => ?_) (fun hw => ?_)
        · refine R_sub hc [2, 3, 1, 0] rfl ?_
          exact (wpO_some hw :)
        · refine R_iload_n (q := 1) (i := 3) (v := t8) hc dX9_drawWire_53 rfl rfl ?_
          refine R_aload_n (q := 2) (i := 0) (v := (some l0)) hc dX9_drawWire_54 rfl rfl ?_
          refine R_getR hc fl_9_21 dX9_drawWire_55 hw (fun t15 hw => ?_)
          refine R_iload_n (q := 3) (i := 1) (v := l1) hc dX9_drawWire_58 rfl rfl ?_
          refine R_iaload hc dX9_drawWire_59 hw (fun t16 hw => ?_)
          refine R_jmn hc ml_9_82 (le_b rfl) (le_b rfl) ⟨Nat.zero_le _, Nat.zero_le _⟩ dX9_drawWire_60 ?_
          refine R_nmI hw (fun l3_17 hw => ?_)
          refine R_istore_n (i := 3) (v := l3_17) hc [(3, .int l3_17), (4, .int t10), (0, rf x.w (some l0)), (1, .int l1), (2, .int l2)] dX9_drawWire_63 rfl (hnl 3 (le_b rfl)) rfl ?_
          refine R_iload (q := 1) (i := 4) (v := t10) hc dX9_drawWire_64 rfl ?_
          refine R_aload_n (q := 2) (i := 0) (v := (some l0)) hc dX9_drawWire_66 rfl rfl ?_
          refine R_getR hc fl_9_21 dX9_drawWire_67 hw (fun t18 hw => ?_)
          refine R_iload_n (q := 3) (i := 1) (v := l1) hc dX9_drawWire_70 rfl rfl ?_
          refine R_iaload hc dX9_drawWire_71 hw (fun t19 hw => ?_)
          refine R_jmx hc ml_9_88 (le_b rfl) (le_b rfl) ⟨Nat.zero_le _, Nat.zero_le _⟩ dX9_drawWire_72 ?_
          refine R_nmI hw (fun l4_20 hw => ?_)
          refine R_istore (i := 4) (v := l4_20) hc [(4, .int l4_20), (3, .int l3_17), (0, rf x.w (some l0)), (1, .int l1), (2, .int l2)] dX9_drawWire_75 (hnl 4 (le_b rfl)) rfl ?_
          refine R_sub hc [2, 3, 1, 0] rfl ?_
          exact (wpO_some hw :)
    · exact R_return hc hret hQ hw dX9_drawWire_27
theorem dX9_draw_0 : decode cX9_draw 0 = .ok (.iconst 0, 1) := by decide +kernel
theorem dX9_draw_1 : decode cX9_draw 1 = .ok (.istore_n 3, 1) := by decide +kernel
theorem dX9_draw_2 : decode cX9_draw 2 = .ok (.iload_n 3, 1) := by decide +kernel
theorem dX9_draw_3 : decode cX9_draw 3 = .ok (.bipush 12, 2) := by decide +kernel
theorem dX9_draw_5 : decode cX9_draw 5 = .ok (.if_icmp .ge 37, 3) := by decide +kernel
theorem dX9_draw_8 : decode cX9_draw 8 = .ok (.aload_n 0, 1) := by decide +kernel
theorem dX9_draw_9 : decode cX9_draw 9 = .ok (.getfield 9, 3) := by decide +kernel
theorem dX9_draw_12 : decode cX9_draw 12 = .ok (.iload_n 3, 1) := by decide +kernel
theorem dX9_draw_13 : decode cX9_draw 13 = .ok (.iconst (-1), 1) := by decide +kernel
theorem dX9_draw_14 : decode cX9_draw 14 = .ok (.iastore, 1) := by decide +kernel
theorem dX9_draw_15 : decode cX9_draw 15 = .ok (.aload_n 0, 1) := by decide +kernel
theorem dX9_draw_16 : decode cX9_draw 16 = .ok (.getfield 15, 3) := by decide +kernel
theorem dX9_draw_19 : decode cX9_draw 19 = .ok (.iload_n 3, 1) := by decide +kernel
theorem dX9_draw_20 : decode cX9_draw 20 = .ok (.iconst (-1), 1) := by decide +kernel
theorem dX9_draw_21 : decode cX9_draw 21 = .ok (.iastore, 1) := by decide +kernel
theorem dX9_draw_22 : decode cX9_draw 22 = .ok (.aload_n 0, 1) := by decide +kernel
theorem dX9_draw_23 : decode cX9_draw 23 = .ok (.getfield 18, 3) := by decide +kernel
theorem dX9_draw_26 : decode cX9_draw 26 = .ok (.iload_n 3, 1) := by decide +kernel
theorem dX9_draw_27 : decode cX9_draw 27 = .ok (.iconst 0, 1) := by decide +kernel
theorem dX9_draw_28 : decode cX9_draw 28 = .ok (.iastore, 1) := by decide +kernel
theorem dX9_draw_29 : decode cX9_draw 29 = .ok (.aload_n 0, 1) := by decide +kernel
theorem dX9_draw_30 : decode cX9_draw 30 = .ok (.getfield 30, 3) := by decide +kernel
theorem dX9_draw_33 : decode cX9_draw 33 = .ok (.iload_n 3, 1) := by decide +kernel
theorem dX9_draw_34 : decode cX9_draw 34 = .ok (.iconst (-1), 1) := by decide +kernel
theorem dX9_draw_35 : decode cX9_draw 35 = .ok (.iastore, 1) := by decide +kernel
theorem dX9_draw_36 : decode cX9_draw 36 = .ok (.iinc 3 1, 3) := by decide +kernel
theorem dX9_draw_39 : decode cX9_draw 39 = .ok (.goto (-37), 3) := by decide +kernel
theorem dX9_draw_42 : decode cX9_draw 42 = .ok (.iconst 0, 1) := by decide +kernel
theorem dX9_draw_43 : decode cX9_draw 43 = .ok (.istore_n 3, 1) := by decide +kernel
theorem dX9_draw_44 : decode cX9_draw 44 = .ok (.iload_n 3, 1) := by decide +kernel
theorem dX9_draw_45 : decode cX9_draw 45 = .ok (.aload_n 2, 1) := by decide +kernel
theorem dX9_draw_46 : decode cX9_draw 46 = .ok (.getfield 43, 3) := by decide +kernel
theorem dX9_draw_49 : decode cX9_draw 49 = .ok (.if_icmp .ge 49, 3) := by decide +kernel
theorem dX9_draw_52 : decode cX9_draw 52 = .ok (.aload_n 0, 1) := by decide +kernel
theorem dX9_draw_53 : decode cX9_draw 53 = .ok (.aload_n 2, 1) := by decide +kernel
theorem dX9_draw_54 : decode cX9_draw 54 = .ok (.getfield 49, 3) := by decide +kernel
theorem dX9_draw_57 : decode cX9_draw 57 = .ok (.iload_n 3, 1) := by decide +kernel
theorem dX9_draw_58 : decode cX9_draw 58 = .ok (.iaload, 1) := by decide +kernel
theorem dX9_draw_59 : decode cX9_draw 59 = .ok (.iload_n 3, 1) := by decide +kernel
theorem dX9_draw_60 : decode cX9_draw 60 = .ok (.invokevirtual 52, 3) := by decide +kernel
theorem dX9_draw_63 : decode cX9_draw 63 = .ok (.aload_n 0, 1) := by decide +kernel
theorem dX9_draw_64 : decode cX9_draw 64 = .ok (.aload_n 2, 1) := by decide +kernel
theorem dX9_draw_65 : decode cX9_draw 65 = .ok (.getfield 56, 3) := by decide +kernel
theorem dX9_draw_68 : decode cX9_draw 68 = .ok (.iload_n 3, 1) := by decide +kernel
theorem dX9_draw_69 : decode cX9_draw 69 = .ok (.iaload, 1) := by decide +kernel
theorem dX9_draw_70 : decode cX9_draw 70 = .ok (.iload_n 3, 1) := by decide +kernel
theorem dX9_draw_71 : decode cX9_draw 71 = .ok (.invokevirtual 52, 3) := by decide +kernel
theorem dX9_draw_74 : decode cX9_draw 74 = .ok (.aload_n 0, 1) := by decide +kernel
theorem dX9_draw_75 : decode cX9_draw 75 = .ok (.aload_n 2, 1) := by decide +kernel
theorem dX9_draw_76 : decode cX9_draw 76 = .ok (.getfield 59, 3) := by decide +kernel
theorem dX9_draw_79 : decode cX9_draw 79 = .ok (.iload_n 3, 1) := by decide +kernel
theorem dX9_draw_80 : decode cX9_draw 80 = .ok (.iaload, 1) := by decide +kernel
theorem dX9_draw_81 : decode cX9_draw 81 = .ok (.iload_n 3, 1) := by decide +kernel
theorem dX9_draw_82 : decode cX9_draw 82 = .ok (.invokevirtual 52, 3) := by decide +kernel
theorem dX9_draw_85 : decode cX9_draw 85 = .ok (.aload_n 0, 1) := by decide +kernel
theorem dX9_draw_86 : decode cX9_draw 86 = .ok (.getfield 33, 3) := by decide +kernel
theorem dX9_draw_89 : decode cX9_draw 89 = .ok (.iload_n 3, 1) := by decide +kernel
theorem dX9_draw_90 : decode cX9_draw 90 = .ok (.iconst 0, 1) := by decide +kernel
theorem dX9_draw_91 : decode cX9_draw 91 = .ok (.iastore, 1) := by decide +kernel
theorem dX9_draw_92 : decode cX9_draw 92 = .ok (.iinc 3 1, 3) := by decide +kernel
theorem dX9_draw_95 : decode cX9_draw 95 = .ok (.goto (-51), 3) := by decide +kernel
theorem dX9_draw_98 : decode cX9_draw 98 = .ok (.aload_n 0, 1) := by decide +kernel
theorem dX9_draw_99 : decode cX9_draw 99 = .ok (.aload_n 0, 1) := by decide +kernel
theorem dX9_draw_100 : decode cX9_draw 100 = .ok (.getfield 39, 3) := by decide +kernel
theorem dX9_draw_103 : decode cX9_draw 103 = .ok (.aload_n 1, 1) := by decide +kernel
theorem dX9_draw_104 : decode cX9_draw 104 = .ok (.aload_n 0, 1) := by decide +kernel
theorem dX9_draw_105 : decode cX9_draw 105 = .ok (.aload_n 2, 1) := by decide +kernel
theorem dX9_draw_106 : decode cX9_draw 106 = .ok (.getfield 43, 3) := by decide +kernel
theorem dX9_draw_109 : decode cX9_draw 109 = .ok (.invokevirtual 62, 3) := by decide +kernel
theorem dX9_draw_112 : decode cX9_draw 112 = .ok (.putfield 66, 3) := by decide +kernel
theorem dX9_draw_115 : decode cX9_draw 115 = .ok (.iconst 0, 1) := by decide +kernel
theorem dX9_draw_116 : decode cX9_draw 116 = .ok (.istore_n 3, 1) := by decide +kernel
theorem dX9_draw_117 : decode cX9_draw 117 = .ok (.iload_n 3, 1) := by decide +kernel
theorem dX9_draw_118 : decode cX9_draw 118 = .ok (.bipush 12, 2) := by decide +kernel
theorem dX9_draw_120 : decode cX9_draw 120 = .ok (.if_icmp .ge 22, 3) := by decide +kernel
theorem dX9_draw_123 : decode cX9_draw 123 = .ok (.aload_n 0, 1) := by decide +kernel
theorem dX9_draw_124 : decode cX9_draw 124 = .ok (.iload_n 3, 1) := by decide +kernel
theorem dX9_draw_125 : decode cX9_draw 125 = .ok (.aload_n 1, 1) := by decide +kernel
theorem dX9_draw_126 : decode cX9_draw 126 = .ok (.getfield 69, 3) := by decide +kernel
theorem dX9_draw_129 : decode cX9_draw 129 = .ok (.iload_n 3, 1) := by decide +kernel
theorem dX9_draw_130 : decode cX9_draw 130 = .ok (.invokestatic 74, 3) := by decide +kernel
theorem dX9_draw_133 : decode cX9_draw 133 = .ok (.invokevirtual 78, 3) := by decide +kernel
theorem dX9_draw_136 : decode cX9_draw 136 = .ok (.iinc 3 1, 3) := by decide +kernel
theorem dX9_draw_139 : decode cX9_draw 139 = .ok (.goto (-22), 3) := by decide +kernel
theorem dX9_draw_142 : decode cX9_draw 142 = .ok (.return_, 1) := by decide +kernel
def sX9_draw_L2 (F : Nat) (l0 : Nat) (l1 : Option Nat) (l2 : Option Nat) (l3 : Int32) (h : HP) : Option ((Int32 × HP) ⊕ HP) :=
  if (12 : Int32) ≤ l3 then
    some (.inr h)
  else
    (gR h 9 (some l0) 1).bind fun t1 =>
    (sI h t1 l3 (-1 : Int32)).bind fun h2 =>
    (gR h2 9 (some l0) 2).bind fun t3 =>
    (sI h2 t3 l3 (-1 : Int32)).bind fun h4 =>
    (gR h4 9 (some l0) 3).bind fun t5 =>
    (sI h4 t5 l3 (0 : Int32)).bind fun h6 =>
    (gR h6 9 (some l0) 7).bind fun t7 =>
    (sI h6 t7 l3 (-1 : Int32)).bind fun h8 =>
    some (.inl (l3 + (1 : Int32), h8))
def sX9_draw_L44 (F : Nat) (l0 : Nat) (l1 : Option Nat) (l2 : Option Nat) (l3 : Int32) (h : HP) : Option ((Int32 × HP) ⊕ HP) :=
  (gI h 2 l2 2).bind fun t10 =>
  if t10 ≤ l3 then
    some (.inr h)
  else
    (gR h 2 l2 3).bind fun t11 =>
    (aI h 13 t11 l3).bind fun t12 =>
    (dO h 9 (some l0)).bind fun a13 =>
    (sX9_note F a13 t12 l3 h).bind fun h14 =>
    (gR h14 2 l2 4).bind fun t15 =>
    (aI h14 13 t15 l3).bind fun t16 =>
    (dO h14 9 (some l0)).bind fun a17 =>
    (sX9_note F a17 t16 l3 h14).bind fun h18 =>
    (gR h18 2 l2 5).bind fun t19 =>
    (aI h18 13 t19 l3).bind fun t20 =>
    (dO h18 9 (some l0)).bind fun a21 =>
    (sX9_note F a21 t20 l3 h18).bind fun h22 =>
    (gR h22 9 (some l0) 8).bind fun t23 =>
    (sI h22 t23 l3 (0 : Int32)).bind fun h24 =>
    some (.inl (l3 + (1 : Int32), h24))
def sX9_draw_L117 (F : Nat) (l0 : Nat) (l1 : Option Nat) (l3 : Int32) (h : HP) : Option ((Int32 × HP) ⊕ HP) :=
  if (12 : Int32) ≤ l3 then
    some (.inr h)
  else
    (gI h 1 l1 2).bind fun t32 =>
    (sX10_has F t32 l3 h).bind fun t33 =>
    (dO h 9 (some l0)).bind fun a34 =>
    (sX9_drawWire F a34 l3 t33 h).bind fun h35 =>
    some (.inl (l3 + (1 : Int32), h35))
def sX9_draw (F : Nat) (l0 : Nat) (l1 : Option Nat) (l2 : Option Nat) (h : HP) : Option HP :=
  (iter (fun s => sX9_draw_L2 F l0 l1 l2 s.1 s.2) F ((0 : Int32), h)).bind fun h9 =>
    (iter (fun s => sX9_draw_L44 F l0 l1 l2 s.1 s.2) F ((0 : Int32), h9)).bind fun h25 =>
      (gR h25 9 (some l0) 9).bind fun t26 =>
      (gI h25 2 l2 2).bind fun t27 =>
      (dO h25 6 t26).bind fun a28 =>
      bd2 (sX6_place F a28 l1 (some l0) t27 h25) fun t29 h30 =>
      (pI h30 9 (some l0) 0 t29).bind fun h31 =>
      (iter (fun s => sX9_draw_L117 F l0 l1 s.1 s.2) F ((0 : Int32), h31)).bind fun h36 =>
        some h36
abbrev rm_X9_draw : Room := { frames := 4, cells := 0, slots := 0, locals := 107 }
set_option maxRecDepth 100000 in
set_option maxHeartbeats 4000000 in
theorem mt_X9_draw {w : WD} {l : Launch} {F : Nat} {l0 : Nat} {l1 : Option Nat} {l2 : Option Nat} {h : HP} {h' : HP} (hs : sX9_draw F l0 l1 l2 h = some h') : MV w l yX9_draw cX9_draw 4 rm_X9_draw 0 0 [rf w (some l0), rf w l1, rf w l2] h h' := by
  refine of_body [(0, rf w (some l0)), (1, rf w l1), (2, rf w l2)] (by decide) (by simp [lg_sl, rf_cat, cat_i, cat_l, cat_a]) (by simp [lv_args, rf_cat, cat_i, cat_l, cat_a]) ?_
  intro x hw_ hnL_ hl_ hc hret hnm hQ
  subst hw_; subst hl_
  have hnl : ∀ i, i < 4 → i < x.nL := fun i h => by rw [hnL_]; exact h
  have hw : wpO (sX9_draw F l0 l1 l2 h) (fun r => r = h') := ⟨_, hs, rfl⟩
  unfold sX9_draw at hw
  refine R_iconst (v := (0 : Int32)) hc dX9_draw_0 kI_0 ?_
  refine R_istore_n (i := 3) (v := (0 : Int32)) hc [(3, .int (0 : Int32)), (0, rf x.w (some l0)), (1, rf x.w l1), (2, rf x.w l2)] dX9_draw_1 rfl (hnl 3 (le_b rfl)) (by simp [rf_cat]) ?_
  refine R_sub hc [1, 2, 3, 0] rfl ?_
  refine R_loop (P := fun (s : (Int32 × HP)) => Rn x 0 0 2 [(0, rf x.w (some l0)), (1, rf x.w l1), (2, rf x.w l2), (3, .int s.1)] [] s.2) (fun h9 => Rn x 0 0 42 [(0, rf x.w (some l0)), (1, rf x.w l1), (2, rf x.w l2)] [] h9) hw (fun r hw => ?_) (fun X hX s hw => ?_)
  · revert r hw
    intro h9 hw
    show Rn x 0 0 42 [(0, rf x.w (some l0)), (1, rf x.w l1), (2, rf x.w l2)] [] h9
    refine R_iconst (v := (0 : Int32)) hc dX9_draw_42 kI_0 ?_
    refine R_istore_n (i := 3) (v := (0 : Int32)) hc [(3, .int (0 : Int32)), (0, rf x.w (some l0)), (1, rf x.w l1), (2, rf x.w l2)] dX9_draw_43 rfl (hnl 3 (le_b rfl)) (by simp [rf_cat]) ?_
    refine R_sub hc [1, 2, 3, 0] rfl ?_
    refine R_loop (P := fun (s : (Int32 × HP)) => Rn x 0 0 44 [(0, rf x.w (some l0)), (1, rf x.w l1), (2, rf x.w l2), (3, .int s.1)] [] s.2) (fun h25 => Rn x 0 0 98 [(0, rf x.w (some l0)), (1, rf x.w l1), (2, rf x.w l2)] [] h25) hw (fun r hw => ?_) (fun X hX s hw => ?_)
    · revert r hw
      intro h25 hw
      show Rn x 0 0 98 [(0, rf x.w (some l0)), (1, rf x.w l1), (2, rf x.w l2)] [] h25
      refine R_aload_n (q := 0) (i := 0) (v := (some l0)) hc dX9_draw_98 rfl rfl ?_
      refine R_aload_n (q := 0) (i := 0) (v := (some l0)) hc dX9_draw_99 rfl rfl ?_
      refine R_getR hc fl_9_39 dX9_draw_100 hw (fun t26 hw => ?_)
      refine R_aload_n (q := 1) (i := 1) (v := l1) hc dX9_draw_103 rfl rfl ?_
      refine R_aload_n (q := 0) (i := 0) (v := (some l0)) hc dX9_draw_104 rfl rfl ?_
      refine R_aload_n (q := 2) (i := 2) (v := l2) hc dX9_draw_105 rfl rfl ?_
      refine R_getI hc fl_9_43 dX9_draw_106 hw (fun t27 hw => ?_)
      refine R_cVIi (As := [rf x.w l1, rf x.w (some l0), .int t27]) (rest := [rf x.w (some l0)]) (r := t26) (ci := 6) hc ml_9_62 mf_X6_place rfl (by decide) ⟨rfl, rfl⟩ ⟨le_b rfl, le_b rfl⟩ ⟨Nat.zero_le _, Nat.zero_le _⟩ (fun a v h' e => mt_X6_place e) rfl rfl (le_b rfl) dX9_draw_109 hw (fun t29 h30 hw => ?_)
      refine R_putI hc pl_9_66 rfl rfl dX9_draw_112 hw (fun h31 hw => ?_)
      refine R_iconst (v := (0 : Int32)) hc dX9_draw_115 kI_0 ?_
      refine R_istore_n (i := 3) (v := (0 : Int32)) hc [(3, .int (0 : Int32)), (0, rf x.w (some l0)), (1, rf x.w l1), (2, rf x.w l2)] dX9_draw_116 rfl (hnl 3 (le_b rfl)) (by simp [rf_cat]) ?_
      refine R_sub hc [1, 2, 0] rfl ?_
      refine R_loop (P := fun (s : (Int32 × HP)) => Rn x 0 0 117 [(0, rf x.w (some l0)), (1, rf x.w l1), (3, .int s.1)] [] s.2) (fun h36 => Rn x 0 0 142 [] [] h36) hw (fun r hw => ?_) (fun X hX s hw => ?_)
      · revert r hw
        intro h36 hw
        show Rn x 0 0 142 [] [] h36
        exact R_return hc hret hQ hw dX9_draw_142
      · obtain ⟨l3_38, h39⟩ := s
        show Rn x 0 0 117 [(0, rf x.w (some l0)), (1, rf x.w l1), (3, .int l3_38)] [] h39
        have hw : wpO (sX9_draw_L117 F l0 l1 l3_38 h39) _ := hw
        unfold sX9_draw_L117 at hw
        refine R_iload_n (q := 2) (i := 3) (v := l3_38) hc dX9_draw_117 rfl rfl ?_
        refine R_bipush (v := (12 : Int32)) hc dX9_draw_118 kB_12 ?_
        refine R_icmp_ge (tgt := 142) hc dX9_draw_120 (by decide) hw (fun hw => ?_) (fun hw => ?_)
        · refine R_sub hc [] rfl ?_
          exact (wpO_some hw :)
        · refine R_aload_n (q := 0) (i := 0) (v := (some l0)) hc dX9_draw_123 rfl rfl ?_
          refine R_iload_n (q := 2) (i := 3) (v := l3_38) hc dX9_draw_124 rfl rfl ?_
          refine R_aload_n (q := 1) (i := 1) (v := l1) hc dX9_draw_125 rfl rfl ?_
          refine R_getI hc fl_9_69 dX9_draw_126 hw (fun t32 hw => ?_)
          refine R_iload_n (q := 2) (i := 3) (v := l3_38) hc dX9_draw_129 rfl rfl ?_
          refine R_cNI (As := [.int t32, .int l3_38]) (rest := [.int l3_38, rf x.w (some l0)]) hc mn_9_74 mf_X10_has ⟨rfl, rfl⟩ ⟨le_b rfl, le_b rfl⟩ ⟨Nat.zero_le _, Nat.zero_le _⟩ (fun v e => mt_X10_has e) rfl rfl (le_b rfl) dX9_draw_130 hw (fun t33 hw => ?_)
          refine R_cVVi (As := [.int l3_38, .int t33]) (rest := []) (r := (some l0)) (ci := 9) hc ml_9_78 mf_X9_drawWire rfl (by decide) ⟨rfl, rfl⟩ ⟨le_b rfl, le_b rfl⟩ ⟨Nat.zero_le _, Nat.zero_le _⟩ (fun a h' e => mt_X9_drawWire e) rfl rfl (Nat.zero_le _) dX9_draw_133 hw (fun h35 hw => ?_)
          refine R_iinc (q := 2) (i := 3) (v := l3_38) hc [(3, .int (l3_38 + (1 : Int32))), (0, rf x.w (some l0)), (1, rf x.w l1)] dX9_draw_136 rfl (kC_1 _) (hnl 3 (le_b rfl)) rfl ?_
          refine R_goto (tgt := 117) hc dX9_draw_139 (by decide) ?_
          refine R_sub hc [1, 2, 0] rfl ?_
          exact hX (l3_38 + (1 : Int32), h35) (wpO_some hw :)
    · obtain ⟨l3_41, h42⟩ := s
      show Rn x 0 0 44 [(0, rf x.w (some l0)), (1, rf x.w l1), (2, rf x.w l2), (3, .int l3_41)] [] h42
      have hw : wpO (sX9_draw_L44 F l0 l1 l2 l3_41 h42) _ := hw
      unfold sX9_draw_L44 at hw
      refine R_iload_n (q := 3) (i := 3) (v := l3_41) hc dX9_draw_44 rfl rfl ?_
      refine R_aload_n (q := 2) (i := 2) (v := l2) hc dX9_draw_45 rfl rfl ?_
      refine R_getI hc fl_9_43 dX9_draw_46 hw (fun t10 hw => ?_)
      refine R_icmp_ge (tgt := 98) hc dX9_draw_49 (by decide) hw (fun hw => ?_) (fun hw => ?_)
      · refine R_sub hc [0, 1, 2] rfl ?_
        exact (wpO_some hw :)
      · refine R_aload_n (q := 0) (i := 0) (v := (some l0)) hc dX9_draw_52 rfl rfl ?_
        refine R_aload_n (q := 2) (i := 2) (v := l2) hc dX9_draw_53 rfl rfl ?_
        refine R_getR hc fl_9_49 dX9_draw_54 hw (fun t11 hw => ?_)
        refine R_iload_n (q := 3) (i := 3) (v := l3_41) hc dX9_draw_57 rfl rfl ?_
        refine R_iaload hc dX9_draw_58 hw (fun t12 hw => ?_)
        refine R_iload_n (q := 3) (i := 3) (v := l3_41) hc dX9_draw_59 rfl rfl ?_
        refine R_cVVi (As := [.int t12, .int l3_41]) (rest := []) (r := (some l0)) (ci := 9) hc ml_9_52 mf_X9_note rfl (by decide) ⟨rfl, rfl⟩ ⟨le_b rfl, le_b rfl⟩ ⟨Nat.zero_le _, Nat.zero_le _⟩ (fun a h' e => mt_X9_note e) rfl rfl (Nat.zero_le _) dX9_draw_60 hw (fun h14 hw => ?_)
        refine R_aload_n (q := 0) (i := 0) (v := (some l0)) hc dX9_draw_63 rfl rfl ?_
        refine R_aload_n (q := 2) (i := 2) (v := l2) hc dX9_draw_64 rfl rfl ?_
        refine R_getR hc fl_9_56 dX9_draw_65 hw (fun t15 hw => ?_)
        refine R_iload_n (q := 3) (i := 3) (v := l3_41) hc dX9_draw_68 rfl rfl ?_
        refine R_iaload hc dX9_draw_69 hw (fun t16 hw => ?_)
        refine R_iload_n (q := 3) (i := 3) (v := l3_41) hc dX9_draw_70 rfl rfl ?_
        refine R_cVVi (As := [.int t16, .int l3_41]) (rest := []) (r := (some l0)) (ci := 9) hc ml_9_52 mf_X9_note rfl (by decide) ⟨rfl, rfl⟩ ⟨le_b rfl, le_b rfl⟩ ⟨Nat.zero_le _, Nat.zero_le _⟩ (fun a h' e => mt_X9_note e) rfl rfl (Nat.zero_le _) dX9_draw_71 hw (fun h18 hw => ?_)
        refine R_aload_n (q := 0) (i := 0) (v := (some l0)) hc dX9_draw_74 rfl rfl ?_
        refine R_aload_n (q := 2) (i := 2) (v := l2) hc dX9_draw_75 rfl rfl ?_
        refine R_getR hc fl_9_59 dX9_draw_76 hw (fun t19 hw => ?_)
        refine R_iload_n (q := 3) (i := 3) (v := l3_41) hc dX9_draw_79 rfl rfl ?_
        refine R_iaload hc dX9_draw_80 hw (fun t20 hw => ?_)
        refine R_iload_n (q := 3) (i := 3) (v := l3_41) hc dX9_draw_81 rfl rfl ?_
        refine R_cVVi (As := [.int t20, .int l3_41]) (rest := []) (r := (some l0)) (ci := 9) hc ml_9_52 mf_X9_note rfl (by decide) ⟨rfl, rfl⟩ ⟨le_b rfl, le_b rfl⟩ ⟨Nat.zero_le _, Nat.zero_le _⟩ (fun a h' e => mt_X9_note e) rfl rfl (Nat.zero_le _) dX9_draw_82 hw (fun h22 hw => ?_)
        refine R_aload_n (q := 0) (i := 0) (v := (some l0)) hc dX9_draw_85 rfl rfl ?_
        refine R_getR hc fl_9_33 dX9_draw_86 hw (fun t23 hw => ?_)
        refine R_iload_n (q := 3) (i := 3) (v := l3_41) hc dX9_draw_89 rfl rfl ?_
        refine R_iconst (v := (0 : Int32)) hc dX9_draw_90 kI_0 ?_
        refine R_iastore hc dX9_draw_91 hw (fun h24 hw => ?_)
        refine R_iinc (q := 3) (i := 3) (v := l3_41) hc [(3, .int (l3_41 + (1 : Int32))), (0, rf x.w (some l0)), (1, rf x.w l1), (2, rf x.w l2)] dX9_draw_92 rfl (kC_1 _) (hnl 3 (le_b rfl)) (by simp [rf_cat]) ?_
        refine R_goto (tgt := 44) hc dX9_draw_95 (by decide) ?_
        refine R_sub hc [1, 2, 3, 0] rfl ?_
        exact hX (l3_41 + (1 : Int32), h24) (wpO_some hw :)
  · obtain ⟨l3_44, h45⟩ := s
    show Rn x 0 0 2 [(0, rf x.w (some l0)), (1, rf x.w l1), (2, rf x.w l2), (3, .int l3_44)] [] h45
    have hw : wpO (sX9_draw_L2 F l0 l1 l2 l3_44 h45) _ := hw
    unfold sX9_draw_L2 at hw
    refine R_iload_n (q := 3) (i := 3) (v := l3_44) hc dX9_draw_2 rfl rfl ?_
    refine R_bipush (v := (12 : Int32)) hc dX9_draw_3 kB_12 ?_
    refine R_icmp_ge (tgt := 42) hc dX9_draw_5 (by decide) hw (fun hw => ?_) (fun hw => ?_)
    · refine R_sub hc [0, 1, 2] rfl ?_
      exact (wpO_some hw :)
    · refine R_aload_n (q := 0) (i := 0) (v := (some l0)) hc dX9_draw_8 rfl rfl ?_
      refine R_getR hc fl_9_9 dX9_draw_9 hw (fun t1 hw => ?_)
      refine R_iload_n (q := 3) (i := 3) (v := l3_44) hc dX9_draw_12 rfl rfl ?_
      refine R_iconst (v := (-1 : Int32)) hc dX9_draw_13 kI_m1 ?_
      refine R_iastore hc dX9_draw_14 hw (fun h2 hw => ?_)
      refine R_aload_n (q := 0) (i := 0) (v := (some l0)) hc dX9_draw_15 rfl rfl ?_
      refine R_getR hc fl_9_15 dX9_draw_16 hw (fun t3 hw => ?_)
      refine R_iload_n (q := 3) (i := 3) (v := l3_44) hc dX9_draw_19 rfl rfl ?_
      refine R_iconst (v := (-1 : Int32)) hc dX9_draw_20 kI_m1 ?_
      refine R_iastore hc dX9_draw_21 hw (fun h4 hw => ?_)
      refine R_aload_n (q := 0) (i := 0) (v := (some l0)) hc dX9_draw_22 rfl rfl ?_
      refine R_getR hc fl_9_18 dX9_draw_23 hw (fun t5 hw => ?_)
      refine R_iload_n (q := 3) (i := 3) (v := l3_44) hc dX9_draw_26 rfl rfl ?_
      refine R_iconst (v := (0 : Int32)) hc dX9_draw_27 kI_0 ?_
      refine R_iastore hc dX9_draw_28 hw (fun h6 hw => ?_)
      refine R_aload_n (q := 0) (i := 0) (v := (some l0)) hc dX9_draw_29 rfl rfl ?_
      refine R_getR hc fl_9_30 dX9_draw_30 hw (fun t7 hw => ?_)
      refine R_iload_n (q := 3) (i := 3) (v := l3_44) hc dX9_draw_33 rfl rfl ?_
      refine R_iconst (v := (-1 : Int32)) hc dX9_draw_34 kI_m1 ?_
      refine R_iastore hc dX9_draw_35 hw (fun h8 hw => ?_)
      refine R_iinc (q := 3) (i := 3) (v := l3_44) hc [(3, .int (l3_44 + (1 : Int32))), (0, rf x.w (some l0)), (1, rf x.w l1), (2, rf x.w l2)] dX9_draw_36 rfl (kC_1 _) (hnl 3 (le_b rfl)) (by simp [rf_cat]) ?_
      refine R_goto (tgt := 2) hc dX9_draw_39 (by decide) ?_
      refine R_sub hc [1, 2, 3, 0] rfl ?_
      exact hX (l3_44 + (1 : Int32), h8) (wpO_some hw :)
theorem dX10_overlap_0 : decode cX10_overlap 0 = .ok (.iload_n 0, 1) := by decide +kernel
theorem dX10_overlap_1 : decode cX10_overlap 1 = .ok (.iload_n 3, 1) := by decide +kernel
theorem dX10_overlap_2 : decode cX10_overlap 2 = .ok (.if_icmp .gt 12, 3) := by decide +kernel
theorem dX10_overlap_5 : decode cX10_overlap 5 = .ok (.iload_n 2, 1) := by decide +kernel
theorem dX10_overlap_6 : decode cX10_overlap 6 = .ok (.iload_n 1, 1) := by decide +kernel
theorem dX10_overlap_7 : decode cX10_overlap 7 = .ok (.if_icmp .gt 7, 3) := by decide +kernel
theorem dX10_overlap_10 : decode cX10_overlap 10 = .ok (.iconst 1, 1) := by decide +kernel
theorem dX10_overlap_11 : decode cX10_overlap 11 = .ok (.goto 4, 3) := by decide +kernel
theorem dX10_overlap_14 : decode cX10_overlap 14 = .ok (.iconst 0, 1) := by decide +kernel
theorem dX10_overlap_15 : decode cX10_overlap 15 = .ok (.ireturn, 1) := by decide +kernel
def sX10_overlap (F : Nat) (l0 : Int32) (l1 : Int32) (l2 : Int32) (l3 : Int32) (h : HP) : Option Int32 :=
  if l3 < l0 then
    some (0 : Int32)
  else
    if l1 < l2 then
      some (0 : Int32)
    else
      some (1 : Int32)
abbrev rm_X10_overlap : Room := { frames := 0, cells := 0, slots := 0, locals := 0 }
set_option maxRecDepth 100000 in
set_option maxHeartbeats 4000000 in
theorem mt_X10_overlap {w : WD} {l : Launch} {F : Nat} {l0 : Int32} {l1 : Int32} {l2 : Int32} {l3 : Int32} {h : HP} {v : Int32} (hs : sX10_overlap F l0 l1 l2 l3 h = some v) : MI w l yX10_overlap cX10_overlap 4 .boolean rm_X10_overlap 0 0 [.int l0, .int l1, .int l2, .int l3] h v h := by
  refine of_body [(0, .int l0), (1, .int l1), (2, .int l2), (3, .int l3)] (by decide) (by simp [lg_sl, rf_cat, cat_i, cat_l, cat_a]) (by simp [lv_args, rf_cat, cat_i, cat_l, cat_a]) ?_
  intro x hw_ hnL_ hl_ hc hret hnm hQ
  subst hw_; subst hl_
  have hnl : ∀ i, i < 4 → i < x.nL := fun i h => by rw [hnL_]; exact h
  have hw : wpO (sX10_overlap F l0 l1 l2 l3 h) (fun r => r = v) := ⟨_, hs, rfl⟩
  unfold sX10_overlap at hw
  refine R_iload_n (q := 0) (i := 0) (v := l0) hc dX10_overlap_0 rfl rfl ?_
  refine R_iload_n (q := 3) (i := 3) (v := l3) hc dX10_overlap_1 rfl rfl ?_
  refine R_icmp_gt (tgt := 14) hc dX10_overlap_2 (by decide) hw (fun hw => ?_) (fun hw => ?_)
  · refine R_iconst (v := (0 : Int32)) hc dX10_overlap_14 kI_0 ?_
    exact R_ireturnP hc hret rfl hQ hw dX10_overlap_15
  · refine R_iload_n (q := 2) (i := 2) (v := l2) hc dX10_overlap_5 rfl rfl ?_
    refine R_iload_n (q := 1) (i := 1) (v := l1) hc dX10_overlap_6 rfl rfl ?_
    refine R_icmp_gt (tgt := 14) hc dX10_overlap_7 (by decide) hw (fun hw => ?_) (fun hw => ?_)
    · refine R_iconst (v := (0 : Int32)) hc dX10_overlap_14 kI_0 ?_
      exact R_ireturnP hc hret rfl hQ hw dX10_overlap_15
    · refine R_iconst (v := (1 : Int32)) hc dX10_overlap_10 kI_1 ?_
      refine R_goto (tgt := 15) hc dX10_overlap_11 (by decide) ?_
      exact R_ireturnP hc hret rfl hQ hw dX10_overlap_15
theorem dX9_isFree_0 : decode cX9_isFree 0 = .ok (.iconst 0, 1) := by decide +kernel
theorem dX9_isFree_1 : decode cX9_isFree 1 = .ok (.istore 4, 2) := by decide +kernel
theorem dX9_isFree_3 : decode cX9_isFree 3 = .ok (.iload 4, 2) := by decide +kernel
theorem dX9_isFree_5 : decode cX9_isFree 5 = .ok (.bipush 12, 2) := by decide +kernel
theorem dX9_isFree_7 : decode cX9_isFree 7 = .ok (.if_icmp .ge 60, 3) := by decide +kernel
theorem dX9_isFree_10 : decode cX9_isFree 10 = .ok (.iload 4, 2) := by decide +kernel
theorem dX9_isFree_12 : decode cX9_isFree 12 = .ok (.iload_n 2, 1) := by decide +kernel
theorem dX9_isFree_13 : decode cX9_isFree 13 = .ok (.if_icmp .eq 48, 3) := by decide +kernel
theorem dX9_isFree_16 : decode cX9_isFree 16 = .ok (.aload_n 0, 1) := by decide +kernel
theorem dX9_isFree_17 : decode cX9_isFree 17 = .ok (.getfield 30, 3) := by decide +kernel
theorem dX9_isFree_20 : decode cX9_isFree 20 = .ok (.iload 4, 2) := by decide +kernel
theorem dX9_isFree_22 : decode cX9_isFree 22 = .ok (.iaload, 1) := by decide +kernel
theorem dX9_isFree_23 : decode cX9_isFree 23 = .ok (.iload_n 3, 1) := by decide +kernel
theorem dX9_isFree_24 : decode cX9_isFree 24 = .ok (.if_icmp .ne 37, 3) := by decide +kernel
theorem dX9_isFree_27 : decode cX9_isFree 27 = .ok (.aload_n 0, 1) := by decide +kernel
theorem dX9_isFree_28 : decode cX9_isFree 28 = .ok (.getfield 24, 3) := by decide +kernel
theorem dX9_isFree_31 : decode cX9_isFree 31 = .ok (.iload_n 2, 1) := by decide +kernel
theorem dX9_isFree_32 : decode cX9_isFree 32 = .ok (.iaload, 1) := by decide +kernel
theorem dX9_isFree_33 : decode cX9_isFree 33 = .ok (.aload_n 0, 1) := by decide +kernel
theorem dX9_isFree_34 : decode cX9_isFree 34 = .ok (.getfield 27, 3) := by decide +kernel
theorem dX9_isFree_37 : decode cX9_isFree 37 = .ok (.iload_n 2, 1) := by decide +kernel
theorem dX9_isFree_38 : decode cX9_isFree 38 = .ok (.iaload, 1) := by decide +kernel
theorem dX9_isFree_39 : decode cX9_isFree 39 = .ok (.aload_n 0, 1) := by decide +kernel
theorem dX9_isFree_40 : decode cX9_isFree 40 = .ok (.getfield 24, 3) := by decide +kernel
theorem dX9_isFree_43 : decode cX9_isFree 43 = .ok (.iload 4, 2) := by decide +kernel
theorem dX9_isFree_45 : decode cX9_isFree 45 = .ok (.iaload, 1) := by decide +kernel
theorem dX9_isFree_46 : decode cX9_isFree 46 = .ok (.aload_n 0, 1) := by decide +kernel
theorem dX9_isFree_47 : decode cX9_isFree 47 = .ok (.getfield 27, 3) := by decide +kernel
theorem dX9_isFree_50 : decode cX9_isFree 50 = .ok (.iload 4, 2) := by decide +kernel
theorem dX9_isFree_52 : decode cX9_isFree 52 = .ok (.iaload, 1) := by decide +kernel
theorem dX9_isFree_53 : decode cX9_isFree 53 = .ok (.invokestatic 106, 3) := by decide +kernel
theorem dX9_isFree_56 : decode cX9_isFree 56 = .ok (.ifCond .eq 5, 3) := by decide +kernel
theorem dX9_isFree_59 : decode cX9_isFree 59 = .ok (.iconst 0, 1) := by decide +kernel
theorem dX9_isFree_60 : decode cX9_isFree 60 = .ok (.ireturn, 1) := by decide +kernel
theorem dX9_isFree_61 : decode cX9_isFree 61 = .ok (.iinc 4 1, 3) := by decide +kernel
theorem dX9_isFree_64 : decode cX9_isFree 64 = .ok (.goto (-61), 3) := by decide +kernel
theorem dX9_isFree_67 : decode cX9_isFree 67 = .ok (.iconst 0, 1) := by decide +kernel
theorem dX9_isFree_68 : decode cX9_isFree 68 = .ok (.istore 4, 2) := by decide +kernel
theorem dX9_isFree_70 : decode cX9_isFree 70 = .ok (.iload 4, 2) := by decide +kernel
theorem dX9_isFree_72 : decode cX9_isFree 72 = .ok (.aload_n 1, 1) := by decide +kernel
theorem dX9_isFree_73 : decode cX9_isFree 73 = .ok (.getfield 110, 3) := by decide +kernel
theorem dX9_isFree_76 : decode cX9_isFree 76 = .ok (.if_icmp .ge 64, 3) := by decide +kernel
theorem dX9_isFree_79 : decode cX9_isFree 79 = .ok (.iload 4, 2) := by decide +kernel
theorem dX9_isFree_81 : decode cX9_isFree 81 = .ok (.iconst 3, 1) := by decide +kernel
theorem dX9_isFree_82 : decode cX9_isFree 82 = .ok (.imul, 1) := by decide +kernel
theorem dX9_isFree_83 : decode cX9_isFree 83 = .ok (.istore 5, 2) := by decide +kernel
theorem dX9_isFree_85 : decode cX9_isFree 85 = .ok (.aload_n 1, 1) := by decide +kernel
theorem dX9_isFree_86 : decode cX9_isFree 86 = .ok (.getfield 113, 3) := by decide +kernel
theorem dX9_isFree_89 : decode cX9_isFree 89 = .ok (.iload 5, 2) := by decide +kernel
theorem dX9_isFree_91 : decode cX9_isFree 91 = .ok (.iaload, 1) := by decide +kernel
theorem dX9_isFree_92 : decode cX9_isFree 92 = .ok (.iload_n 3, 1) := by decide +kernel
theorem dX9_isFree_93 : decode cX9_isFree 93 = .ok (.if_icmp .ne 41, 3) := by decide +kernel
theorem dX9_isFree_96 : decode cX9_isFree 96 = .ok (.aload_n 0, 1) := by decide +kernel
theorem dX9_isFree_97 : decode cX9_isFree 97 = .ok (.getfield 24, 3) := by decide +kernel
theorem dX9_isFree_100 : decode cX9_isFree 100 = .ok (.iload_n 2, 1) := by decide +kernel
theorem dX9_isFree_101 : decode cX9_isFree 101 = .ok (.iaload, 1) := by decide +kernel
theorem dX9_isFree_102 : decode cX9_isFree 102 = .ok (.aload_n 0, 1) := by decide +kernel
theorem dX9_isFree_103 : decode cX9_isFree 103 = .ok (.getfield 27, 3) := by decide +kernel
theorem dX9_isFree_106 : decode cX9_isFree 106 = .ok (.iload_n 2, 1) := by decide +kernel
theorem dX9_isFree_107 : decode cX9_isFree 107 = .ok (.iaload, 1) := by decide +kernel
theorem dX9_isFree_108 : decode cX9_isFree 108 = .ok (.aload_n 1, 1) := by decide +kernel
theorem dX9_isFree_109 : decode cX9_isFree 109 = .ok (.getfield 113, 3) := by decide +kernel
theorem dX9_isFree_112 : decode cX9_isFree 112 = .ok (.iload 5, 2) := by decide +kernel
theorem dX9_isFree_114 : decode cX9_isFree 114 = .ok (.iconst 1, 1) := by decide +kernel
theorem dX9_isFree_115 : decode cX9_isFree 115 = .ok (.iadd, 1) := by decide +kernel
theorem dX9_isFree_116 : decode cX9_isFree 116 = .ok (.iaload, 1) := by decide +kernel
theorem dX9_isFree_117 : decode cX9_isFree 117 = .ok (.aload_n 1, 1) := by decide +kernel
theorem dX9_isFree_118 : decode cX9_isFree 118 = .ok (.getfield 113, 3) := by decide +kernel
theorem dX9_isFree_121 : decode cX9_isFree 121 = .ok (.iload 5, 2) := by decide +kernel
theorem dX9_isFree_123 : decode cX9_isFree 123 = .ok (.iconst 2, 1) := by decide +kernel
theorem dX9_isFree_124 : decode cX9_isFree 124 = .ok (.iadd, 1) := by decide +kernel
theorem dX9_isFree_125 : decode cX9_isFree 125 = .ok (.iaload, 1) := by decide +kernel
theorem dX9_isFree_126 : decode cX9_isFree 126 = .ok (.invokestatic 106, 3) := by decide +kernel
theorem dX9_isFree_129 : decode cX9_isFree 129 = .ok (.ifCond .eq 5, 3) := by decide +kernel
theorem dX9_isFree_132 : decode cX9_isFree 132 = .ok (.iconst 0, 1) := by decide +kernel
theorem dX9_isFree_133 : decode cX9_isFree 133 = .ok (.ireturn, 1) := by decide +kernel
theorem dX9_isFree_134 : decode cX9_isFree 134 = .ok (.iinc 4 1, 3) := by decide +kernel
theorem dX9_isFree_137 : decode cX9_isFree 137 = .ok (.goto (-67), 3) := by decide +kernel
theorem dX9_isFree_140 : decode cX9_isFree 140 = .ok (.iconst 1, 1) := by decide +kernel
theorem dX9_isFree_141 : decode cX9_isFree 141 = .ok (.ireturn, 1) := by decide +kernel
def sX9_isFree_L3 (F : Nat) (l0 : Nat) (l1 : Option Nat) (l2 : Int32) (l3 : Int32) (l4 : Int32) (h : HP) : Option (Int32 ⊕ (Unit ⊕ Int32)) :=
  if (12 : Int32) ≤ l4 then
    some (.inr (.inl ()))
  else
    if l4 = l2 then
      some (.inl (l4 + (1 : Int32)))
    else
      (gR h 9 (some l0) 7).bind fun t1 =>
      (aI h 13 t1 l4).bind fun t2 =>
      if ¬ t2 = l3 then
        some (.inl (l4 + (1 : Int32)))
      else
        (gR h 9 (some l0) 5).bind fun t3 =>
        (aI h 13 t3 l2).bind fun t4 =>
        (gR h 9 (some l0) 6).bind fun t5 =>
        (aI h 13 t5 l2).bind fun t6 =>
        (gR h 9 (some l0) 5).bind fun t7 =>
        (aI h 13 t7 l4).bind fun t8 =>
        (gR h 9 (some l0) 6).bind fun t9 =>
        (aI h 13 t9 l4).bind fun t10 =>
        (sX10_overlap F t4 t6 t8 t10 h).bind fun t11 =>
        if t11 = 0 then
          some (.inl (l4 + (1 : Int32)))
        else
          some (.inr (.inr (0 : Int32)))
def sX9_isFree_L70 (F : Nat) (l0 : Nat) (l1 : Option Nat) (l2 : Int32) (l3 : Int32) (l4 : Int32) (h : HP) : Option (Int32 ⊕ (Unit ⊕ Int32)) :=
  (gI h 1 l1 6).bind fun t12 =>
  if t12 ≤ l4 then
    some (.inr (.inl ()))
  else
    nmI (l4 * (3 : Int32)) fun l5_13 =>
    (gR h 1 l1 9).bind fun t14 =>
    (aI h 13 t14 l5_13).bind fun t15 =>
    if ¬ t15 = l3 then
      some (.inl (l4 + (1 : Int32)))
    else
      (gR h 9 (some l0) 5).bind fun t16 =>
      (aI h 13 t16 l2).bind fun t17 =>
      (gR h 9 (some l0) 6).bind fun t18 =>
      (aI h 13 t18 l2).bind fun t19 =>
      (gR h 1 l1 9).bind fun t20 =>
      (aI h 13 t20 (l5_13 + (1 : Int32))).bind fun t21 =>
      (gR h 1 l1 9).bind fun t22 =>
      (aI h 13 t22 (l5_13 + (2 : Int32))).bind fun t23 =>
      (sX10_overlap F t17 t19 t21 t23 h).bind fun t24 =>
      if t24 = 0 then
        some (.inl (l4 + (1 : Int32)))
      else
        some (.inr (.inr (0 : Int32)))
def sX9_isFree (F : Nat) (l0 : Nat) (l1 : Option Nat) (l2 : Int32) (l3 : Int32) (h : HP) : Option Int32 :=
  (iter (fun s => sX9_isFree_L3 F l0 l1 l2 l3 s h) F (0 : Int32)).bind fun r => match r with
  | .inl _ =>
    (iter (fun s => sX9_isFree_L70 F l0 l1 l2 l3 s h) F (0 : Int32)).bind fun r => match r with
    | .inl _ =>
      some (1 : Int32)
    | .inr u25 => some u25
  | .inr u27 => some u27
abbrev rm_X9_isFree : Room := { frames := 1, cells := 0, slots := 0, locals := 23 }
set_option maxRecDepth 100000 in
set_option maxHeartbeats 4000000 in
theorem mt_X9_isFree {w : WD} {l : Launch} {F : Nat} {l0 : Nat} {l1 : Option Nat} {l2 : Int32} {l3 : Int32} {h : HP} {v : Int32} (hs : sX9_isFree F l0 l1 l2 l3 h = some v) : MI w l yX9_isFree cX9_isFree 6 .boolean rm_X9_isFree 0 0 [rf w (some l0), rf w l1, .int l2, .int l3] h v h := by
  refine of_body [(0, rf w (some l0)), (1, rf w l1), (2, .int l2), (3, .int l3)] (by decide) (by simp [lg_sl, rf_cat, cat_i, cat_l, cat_a]) (by simp [lv_args, rf_cat, cat_i, cat_l, cat_a]) ?_
  intro x hw_ hnL_ hl_ hc hret hnm hQ
  subst hw_; subst hl_
  have hnl : ∀ i, i < 6 → i < x.nL := fun i h => by rw [hnL_]; exact h
  have hw : wpO (sX9_isFree F l0 l1 l2 l3 h) (fun r => r = v) := ⟨_, hs, rfl⟩
  unfold sX9_isFree at hw
  refine R_iconst (v := (0 : Int32)) hc dX9_isFree_0 kI_0 ?_
  refine R_istore (i := 4) (v := (0 : Int32)) hc [(4, .int (0 : Int32)), (0, rf x.w (some l0)), (1, rf x.w l1), (2, .int l2), (3, .int l3)] dX9_isFree_1 (hnl 4 (le_b rfl)) rfl ?_
  refine R_sub hc [1, 2, 3, 4, 0] rfl ?_
  refine R_loop (P := fun (s : Int32) => Rn x 0 0 3 [(0, rf x.w (some l0)), (1, rf x.w l1), (2, .int l2), (3, .int l3), (4, .int s)] [] h) (fun r => match r with | .inl _ => Rn x 0 0 67 [(0, rf x.w (some l0)), (1, rf x.w l1), (2, .int l2), (3, .int l3)] [] h | .inr u => u = v) hw (fun r hw => ?_) (fun X hX s hw => ?_)
  · cases r with
    | inl r =>
      revert hw
      intro hw
      show Rn x 0 0 67 [(0, rf x.w (some l0)), (1, rf x.w l1), (2, .int l2), (3, .int l3)] [] h
      have hw : wpO (_) _ := hw
      refine R_iconst (v := (0 : Int32)) hc dX9_isFree_67 kI_0 ?_
      refine R_istore (i := 4) (v := (0 : Int32)) hc [(4, .int (0 : Int32)), (0, rf x.w (some l0)), (1, rf x.w l1), (2, .int l2), (3, .int l3)] dX9_isFree_68 (hnl 4 (le_b rfl)) rfl ?_
      refine R_sub hc [1, 2, 3, 4, 0] rfl ?_
      refine R_loop (P := fun (s : Int32) => Rn x 0 0 70 [(0, rf x.w (some l0)), (1, rf x.w l1), (2, .int l2), (3, .int l3), (4, .int s)] [] h) (fun r => match r with | .inl _ => Rn x 0 0 140 [] [] h | .inr u => u = v) hw (fun r hw => ?_) (fun X hX s hw => ?_)
      · cases r with
        | inl r =>
          revert hw
          intro hw
          show Rn x 0 0 140 [] [] h
          have hw : wpO (_) _ := hw
          refine R_iconst (v := (1 : Int32)) hc dX9_isFree_140 kI_1 ?_
          exact R_ireturnP hc hret rfl hQ hw dX9_isFree_141
        | inr u => exact (wpO_some hw :)
      · revert s hw
        intro l4_26 hw
        show Rn x 0 0 70 [(0, rf x.w (some l0)), (1, rf x.w l1), (2, .int l2), (3, .int l3), (4, .int l4_26)] [] h
        have hw : wpO (sX9_isFree_L70 F l0 l1 l2 l3 l4_26 h) _ := hw
        unfold sX9_isFree_L70 at hw
        refine R_iload (q := 4) (i := 4) (v := l4_26) hc dX9_isFree_70 rfl ?_
        refine R_aload_n (q := 1) (i := 1) (v := l1) hc dX9_isFree_72 rfl rfl ?_
        refine R_getI hc fl_9_110 dX9_isFree_73 hw (fun t12 hw => ?_)
        refine R_icmp_ge (tgt := 140) hc dX9_isFree_76 (by decide) hw (fun hw => ?_) (fun hw => ?_)
        · refine R_sub hc [] rfl ?_
          exact (wpO_some hw :)
        · refine R_iload (q := 4) (i := 4) (v := l4_26) hc dX9_isFree_79 rfl ?_
          refine R_iconst (v := (3 : Int32)) hc dX9_isFree_81 kI_3 ?_
          refine R_imul hc dX9_isFree_82 ?_
          refine R_nmI hw (fun l5_13 hw => ?_)
          refine R_istore (i := 5) (v := l5_13) hc [(5, .int l5_13), (0, rf x.w (some l0)), (1, rf x.w l1), (2, .int l2), (3, .int l3), (4, .int l4_26)] dX9_isFree_83 (hnl 5 (le_b rfl)) rfl ?_
          refine R_aload_n (q := 2) (i := 1) (v := l1) hc dX9_isFree_85 rfl rfl ?_
          refine R_getR hc fl_9_113 dX9_isFree_86 hw (fun t14 hw => ?_)
          refine R_iload (q := 0) (i := 5) (v := l5_13) hc dX9_isFree_89 rfl ?_
          refine R_iaload hc dX9_isFree_91 hw (fun t15 hw => ?_)
          refine R_iload_n (q := 4) (i := 3) (v := l3) hc dX9_isFree_92 rfl rfl ?_
          refine R_icmp_ne (tgt := 134) hc dX9_isFree_93 (by decide) hw (fun hw => ?_) (fun hw => ?_)
          · refine R_iinc (q := 5) (i := 4) (v := l4_26) hc [(4, .int (l4_26 + (1 : Int32))), (5, .int l5_13), (0, rf x.w (some l0)), (1, rf x.w l1), (2, .int l2), (3, .int l3)] dX9_isFree_134 rfl (kC_1 _) (hnl 4 (le_b rfl)) rfl ?_
            refine R_goto (tgt := 70) hc dX9_isFree_137 (by decide) ?_
            refine R_sub hc [2, 3, 4, 5, 0] rfl ?_
            exact hX (l4_26 + (1 : Int32)) (wpO_some hw :)
          · refine R_aload_n (q := 1) (i := 0) (v := (some l0)) hc dX9_isFree_96 rfl rfl ?_
            refine R_getR hc fl_9_24 dX9_isFree_97 hw (fun t16 hw => ?_)
            refine R_iload_n (q := 3) (i := 2) (v := l2) hc dX9_isFree_100 rfl rfl ?_
            refine R_iaload hc dX9_isFree_101 hw (fun t17 hw => ?_)
            refine R_aload_n (q := 1) (i := 0) (v := (some l0)) hc dX9_isFree_102 rfl rfl ?_
            refine R_getR hc fl_9_27 dX9_isFree_103 hw (fun t18 hw => ?_)
            refine R_iload_n (q := 3) (i := 2) (v := l2) hc dX9_isFree_106 rfl rfl ?_
            refine R_iaload hc dX9_isFree_107 hw (fun t19 hw => ?_)
            refine R_aload_n (q := 2) (i := 1) (v := l1) hc dX9_isFree_108 rfl rfl ?_
            refine R_getR hc fl_9_113 dX9_isFree_109 hw (fun t20 hw => ?_)
            refine R_iload (q := 0) (i := 5) (v := l5_13) hc dX9_isFree_112 rfl ?_
            refine R_iconst (v := (1 : Int32)) hc dX9_isFree_114 kI_1 ?_
            refine R_iadd hc dX9_isFree_115 ?_
            refine R_iaload hc dX9_isFree_116 hw (fun t21 hw => ?_)
            refine R_aload_n (q := 2) (i := 1) (v := l1) hc dX9_isFree_117 rfl rfl ?_
            refine R_getR hc fl_9_113 dX9_isFree_118 hw (fun t22 hw => ?_)
            refine R_iload (q := 0) (i := 5) (v := l5_13) hc dX9_isFree_121 rfl ?_
            refine R_iconst (v := (2 : Int32)) hc dX9_isFree_123 kI_2 ?_
            refine R_iadd hc dX9_isFree_124 ?_
            refine R_iaload hc dX9_isFree_125 hw (fun t23 hw => ?_)
            refine R_cNI (As := [.int t17, .int t19, .int t21, .int t23]) (rest := []) hc mn_9_106 mf_X10_overlap ⟨rfl, rfl⟩ ⟨le_b rfl, le_b rfl⟩ ⟨Nat.zero_le _, Nat.zero_le _⟩ (fun v e => mt_X10_overlap e) rfl rfl (Nat.zero_le _) dX9_isFree_126 hw (fun t24 hw => ?_)
            refine R_if_eq (tgt := 134) hc dX9_isFree_129 (by decide) hw (fun hw => ?_) (fun hw => ?_)
            · refine R_iinc (q := 5) (i := 4) (v := l4_26) hc [(4, .int (l4_26 + (1 : Int32))), (5, .int l5_13), (0, rf x.w (some l0)), (1, rf x.w l1), (2, .int l2), (3, .int l3)] dX9_isFree_134 rfl (kC_1 _) (hnl 4 (le_b rfl)) rfl ?_
              refine R_goto (tgt := 70) hc dX9_isFree_137 (by decide) ?_
              refine R_sub hc [2, 3, 4, 5, 0] rfl ?_
              exact hX (l4_26 + (1 : Int32)) (wpO_some hw :)
            · refine R_iconst (v := (0 : Int32)) hc dX9_isFree_132 kI_0 ?_
              exact R_ireturnP hc hret rfl hQ ⟨_, rfl, (wpO_some hw :)⟩ dX9_isFree_133
    | inr u => exact (wpO_some hw :)
  · revert s hw
    intro l4_28 hw
    show Rn x 0 0 3 [(0, rf x.w (some l0)), (1, rf x.w l1), (2, .int l2), (3, .int l3), (4, .int l4_28)] [] h
    have hw : wpO (sX9_isFree_L3 F l0 l1 l2 l3 l4_28 h) _ := hw
    unfold sX9_isFree_L3 at hw
    refine R_iload (q := 4) (i := 4) (v := l4_28) hc dX9_isFree_3 rfl ?_
    refine R_bipush (v := (12 : Int32)) hc dX9_isFree_5 kB_12 ?_
    refine R_icmp_ge (tgt := 67) hc dX9_isFree_7 (by decide) hw (fun hw => ?_) (fun hw => ?_)
    · refine R_sub hc [0, 1, 2, 3] rfl ?_
      exact (wpO_some hw :)
    · refine R_iload (q := 4) (i := 4) (v := l4_28) hc dX9_isFree_10 rfl ?_
      refine R_iload_n (q := 2) (i := 2) (v := l2) hc dX9_isFree_12 rfl rfl ?_
      refine R_icmp_eq (tgt := 61) hc dX9_isFree_13 (by decide) hw (fun hw => ?_) (fun hw => ?_)
      · refine R_iinc (q := 4) (i := 4) (v := l4_28) hc [(4, .int (l4_28 + (1 : Int32))), (0, rf x.w (some l0)), (1, rf x.w l1), (2, .int l2), (3, .int l3)] dX9_isFree_61 rfl (kC_1 _) (hnl 4 (le_b rfl)) rfl ?_
        refine R_goto (tgt := 3) hc dX9_isFree_64 (by decide) ?_
        refine R_sub hc [1, 2, 3, 4, 0] rfl ?_
        exact hX (l4_28 + (1 : Int32)) (wpO_some hw :)
      · refine R_aload_n (q := 0) (i := 0) (v := (some l0)) hc dX9_isFree_16 rfl rfl ?_
        refine R_getR hc fl_9_30 dX9_isFree_17 hw (fun t1 hw => ?_)
        refine R_iload (q := 4) (i := 4) (v := l4_28) hc dX9_isFree_20 rfl ?_
        refine R_iaload hc dX9_isFree_22 hw (fun t2 hw => ?_)
        refine R_iload_n (q := 3) (i := 3) (v := l3) hc dX9_isFree_23 rfl rfl ?_
        refine R_icmp_ne (tgt := 61) hc dX9_isFree_24 (by decide) hw (fun hw => ?_) (fun hw => ?_)
        · refine R_iinc (q := 4) (i := 4) (v := l4_28) hc [(4, .int (l4_28 + (1 : Int32))), (0, rf x.w (some l0)), (1, rf x.w l1), (2, .int l2), (3, .int l3)] dX9_isFree_61 rfl (kC_1 _) (hnl 4 (le_b rfl)) rfl ?_
          refine R_goto (tgt := 3) hc dX9_isFree_64 (by decide) ?_
          refine R_sub hc [1, 2, 3, 4, 0] rfl ?_
          exact hX (l4_28 + (1 : Int32)) (wpO_some hw :)
        · refine R_aload_n (q := 0) (i := 0) (v := (some l0)) hc dX9_isFree_27 rfl rfl ?_
          refine R_getR hc fl_9_24 dX9_isFree_28 hw (fun t3 hw => ?_)
          refine R_iload_n (q := 2) (i := 2) (v := l2) hc dX9_isFree_31 rfl rfl ?_
          refine R_iaload hc dX9_isFree_32 hw (fun t4 hw => ?_)
          refine R_aload_n (q := 0) (i := 0) (v := (some l0)) hc dX9_isFree_33 rfl rfl ?_
          refine R_getR hc fl_9_27 dX9_isFree_34 hw (fun t5 hw => ?_)
          refine R_iload_n (q := 2) (i := 2) (v := l2) hc dX9_isFree_37 rfl rfl ?_
          refine R_iaload hc dX9_isFree_38 hw (fun t6 hw => ?_)
          refine R_aload_n (q := 0) (i := 0) (v := (some l0)) hc dX9_isFree_39 rfl rfl ?_
          refine R_getR hc fl_9_24 dX9_isFree_40 hw (fun t7 hw => ?_)
          refine R_iload (q := 4) (i := 4) (v := l4_28) hc dX9_isFree_43 rfl ?_
          refine R_iaload hc dX9_isFree_45 hw (fun t8 hw => ?_)
          refine R_aload_n (q := 0) (i := 0) (v := (some l0)) hc dX9_isFree_46 rfl rfl ?_
          refine R_getR hc fl_9_27 dX9_isFree_47 hw (fun t9 hw => ?_)
          refine R_iload (q := 4) (i := 4) (v := l4_28) hc dX9_isFree_50 rfl ?_
          refine R_iaload hc dX9_isFree_52 hw (fun t10 hw => ?_)
          refine R_cNI (As := [.int t4, .int t6, .int t8, .int t10]) (rest := []) hc mn_9_106 mf_X10_overlap ⟨rfl, rfl⟩ ⟨le_b rfl, le_b rfl⟩ ⟨Nat.zero_le _, Nat.zero_le _⟩ (fun v e => mt_X10_overlap e) rfl rfl (Nat.zero_le _) dX9_isFree_53 hw (fun t11 hw => ?_)
          refine R_if_eq (tgt := 61) hc dX9_isFree_56 (by decide) hw (fun hw => ?_) (fun hw => ?_)
          · refine R_iinc (q := 4) (i := 4) (v := l4_28) hc [(4, .int (l4_28 + (1 : Int32))), (0, rf x.w (some l0)), (1, rf x.w l1), (2, .int l2), (3, .int l3)] dX9_isFree_61 rfl (kC_1 _) (hnl 4 (le_b rfl)) rfl ?_
            refine R_goto (tgt := 3) hc dX9_isFree_64 (by decide) ?_
            refine R_sub hc [1, 2, 3, 4, 0] rfl ?_
            exact hX (l4_28 + (1 : Int32)) (wpO_some hw :)
          · refine R_iconst (v := (0 : Int32)) hc dX9_isFree_59 kI_0 ?_
            exact R_ireturnP hc hret rfl hQ ⟨_, rfl, (wpO_some hw :)⟩ dX9_isFree_60
