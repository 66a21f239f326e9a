theorem dX7_flip_0 : decode cX7_flip 0 = .ok (.iconst 0, 1) := by decide +kernel
theorem dX7_flip_1 : decode cX7_flip 1 = .ok (.istore_n 1, 1) := by decide +kernel
theorem dX7_flip_2 : decode cX7_flip 2 = .ok (.iload_n 1, 1) := by decide +kernel
theorem dX7_flip_3 : decode cX7_flip 3 = .ok (.aload_n 0, 1) := by decide +kernel
theorem dX7_flip_4 : decode cX7_flip 4 = .ok (.getfield 9, 3) := by decide +kernel
theorem dX7_flip_7 : decode cX7_flip 7 = .ok (.iconst 1, 1) := by decide +kernel
theorem dX7_flip_8 : decode cX7_flip 8 = .ok (.isub, 1) := by decide +kernel
theorem dX7_flip_9 : decode cX7_flip 9 = .ok (.iload_n 1, 1) := by decide +kernel
theorem dX7_flip_10 : decode cX7_flip 10 = .ok (.isub, 1) := by decide +kernel
theorem dX7_flip_11 : decode cX7_flip 11 = .ok (.if_icmp .ge 49, 3) := by decide +kernel
theorem dX7_flip_14 : decode cX7_flip 14 = .ok (.aload_n 0, 1) := by decide +kernel
theorem dX7_flip_15 : decode cX7_flip 15 = .ok (.getfield 15, 3) := by decide +kernel
theorem dX7_flip_18 : decode cX7_flip 18 = .ok (.iload_n 1, 1) := by decide +kernel
theorem dX7_flip_19 : decode cX7_flip 19 = .ok (.iaload, 1) := by decide +kernel
theorem dX7_flip_20 : decode cX7_flip 20 = .ok (.istore_n 2, 1) := by decide +kernel
theorem dX7_flip_21 : decode cX7_flip 21 = .ok (.aload_n 0, 1) := by decide +kernel
theorem dX7_flip_22 : decode cX7_flip 22 = .ok (.getfield 15, 3) := by decide +kernel
theorem dX7_flip_25 : decode cX7_flip 25 = .ok (.iload_n 1, 1) := by decide +kernel
theorem dX7_flip_26 : decode cX7_flip 26 = .ok (.aload_n 0, 1) := by decide +kernel
theorem dX7_flip_27 : decode cX7_flip 27 = .ok (.getfield 15, 3) := by decide +kernel
theorem dX7_flip_30 : decode cX7_flip 30 = .ok (.aload_n 0, 1) := by decide +kernel
theorem dX7_flip_31 : decode cX7_flip 31 = .ok (.getfield 9, 3) := by decide +kernel
theorem dX7_flip_34 : decode cX7_flip 34 = .ok (.iconst 1, 1) := by decide +kernel
theorem dX7_flip_35 : decode cX7_flip 35 = .ok (.isub, 1) := by decide +kernel
theorem dX7_flip_36 : decode cX7_flip 36 = .ok (.iload_n 1, 1) := by decide +kernel
theorem dX7_flip_37 : decode cX7_flip 37 = .ok (.isub, 1) := by decide +kernel
theorem dX7_flip_38 : decode cX7_flip 38 = .ok (.iaload, 1) := by decide +kernel
theorem dX7_flip_39 : decode cX7_flip 39 = .ok (.iastore, 1) := by decide +kernel
theorem dX7_flip_40 : decode cX7_flip 40 = .ok (.aload_n 0, 1) := by decide +kernel
theorem dX7_flip_41 : decode cX7_flip 41 = .ok (.getfield 15, 3) := by decide +kernel
theorem dX7_flip_44 : decode cX7_flip 44 = .ok (.aload_n 0, 1) := by decide +kernel
theorem dX7_flip_45 : decode cX7_flip 45 = .ok (.getfield 9, 3) := by decide +kernel
theorem dX7_flip_48 : decode cX7_flip 48 = .ok (.iconst 1, 1) := by decide +kernel
theorem dX7_flip_49 : decode cX7_flip 49 = .ok (.isub, 1) := by decide +kernel
theorem dX7_flip_50 : decode cX7_flip 50 = .ok (.iload_n 1, 1) := by decide +kernel
theorem dX7_flip_51 : decode cX7_flip 51 = .ok (.isub, 1) := by decide +kernel
theorem dX7_flip_52 : decode cX7_flip 52 = .ok (.iload_n 2, 1) := by decide +kernel
theorem dX7_flip_53 : decode cX7_flip 53 = .ok (.iastore, 1) := by decide +kernel
theorem dX7_flip_54 : decode cX7_flip 54 = .ok (.iinc 1 1, 3) := by decide +kernel
theorem dX7_flip_57 : decode cX7_flip 57 = .ok (.goto (-55), 3) := by decide +kernel
theorem dX7_flip_60 : decode cX7_flip 60 = .ok (.iconst 0, 1) := by decide +kernel
theorem dX7_flip_61 : decode cX7_flip 61 = .ok (.istore_n 1, 1) := by decide +kernel
theorem dX7_flip_62 : decode cX7_flip 62 = .ok (.iload_n 1, 1) := by decide +kernel
theorem dX7_flip_63 : decode cX7_flip 63 = .ok (.aload_n 0, 1) := by decide +kernel
theorem dX7_flip_64 : decode cX7_flip 64 = .ok (.getfield 9, 3) := by decide +kernel
theorem dX7_flip_67 : decode cX7_flip 67 = .ok (.if_icmp .ge 19, 3) := by decide +kernel
theorem dX7_flip_70 : decode cX7_flip 70 = .ok (.aload_n 0, 1) := by decide +kernel
theorem dX7_flip_71 : decode cX7_flip 71 = .ok (.getfield 15, 3) := by decide +kernel
theorem dX7_flip_74 : decode cX7_flip 74 = .ok (.iload_n 1, 1) := by decide +kernel
theorem dX7_flip_75 : decode cX7_flip 75 = .ok (.dup2, 1) := by decide +kernel
theorem dX7_flip_76 : decode cX7_flip 76 = .ok (.iaload, 1) := by decide +kernel
theorem dX7_flip_77 : decode cX7_flip 77 = .ok (.iconst 3, 1) := by decide +kernel
theorem dX7_flip_78 : decode cX7_flip 78 = .ok (.ixor, 1) := by decide +kernel
theorem dX7_flip_79 : decode cX7_flip 79 = .ok (.iastore, 1) := by decide +kernel
theorem dX7_flip_80 : decode cX7_flip 80 = .ok (.iinc 1 1, 3) := by decide +kernel
theorem dX7_flip_83 : decode cX7_flip 83 = .ok (.goto (-21), 3) := by decide +kernel
theorem dX7_flip_86 : decode cX7_flip 86 = .ok (.return_, 1) := by decide +kernel
def sX7_flip_L2 (F : Nat) (l0 : Nat) (l1 : Int32) (h : HP) : Option ((Int32 × HP) ⊕ HP) :=
  (gI h 7 (some l0) 0).bind fun t1 =>
  if ((t1 - (1 : Int32)) - l1) ≤ l1 then
    some (.inr h)
  else
    (gR h 7 (some l0) 1).bind fun t2 =>
    (aI h 13 t2 l1).bind fun t3 =>
    (gR h 7 (some l0) 1).bind fun t4 =>
    (gR h 7 (some l0) 1).bind fun t5 =>
    (gI h 7 (some l0) 0).bind fun t6 =>
    (aI h 13 t5 ((t6 - (1 : Int32)) - l1)).bind fun t7 =>
    (sI h t4 l1 t7).bind fun h8 =>
    (gR h8 7 (some l0) 1).bind fun t9 =>
    (gI h8 7 (some l0) 0).bind fun t10 =>
    (sI h8 t9 ((t10 - (1 : Int32)) - l1) t3).bind fun h11 =>
    some (.inl (l1 + (1 : Int32), h11))
def sX7_flip_L62 (F : Nat) (l0 : Nat) (l1 : Int32) (h : HP) : Option ((Int32 × HP) ⊕ HP) :=
  (gI h 7 (some l0) 0).bind fun t13 =>
  if t13 ≤ l1 then
    some (.inr h)
  else
    (gR h 7 (some l0) 1).bind fun t14 =>
    (aI h 13 t14 l1).bind fun t15 =>
    (sI h t14 l1 (t15 ^^^ (3 : Int32))).bind fun h16 =>
    some (.inl (l1 + (1 : Int32), h16))
def sX7_flip (F : Nat) (l0 : Nat) (h : HP) : Option HP :=
  (iter (fun s => sX7_flip_L2 F l0 s.1 s.2) F ((0 : Int32), h)).bind fun h12 =>
    (iter (fun s => sX7_flip_L62 F l0 s.1 s.2) F ((0 : Int32), h12)).bind fun h17 =>
      some h17
abbrev rm_X7_flip : Room := { frames := 0, cells := 0, slots := 0, locals := 0 }
set_option maxRecDepth 100000 in
set_option maxHeartbeats 4000000 in
theorem mt_X7_flip {w : WD} {l : Launch} {F : Nat} {l0 : Nat} {h : HP} {h' : HP} (hs : sX7_flip F l0 h = some h') : MV w l yX7_flip cX7_flip 3 rm_X7_flip 0 0 [rf w (some l0)] h h' := by
  refine of_body [(0, rf w (some l0))] (by decide) (by simp [lg_sl, rf_cat, cat_i, cat_l, cat_a]) (by simp [lv_args, rf_cat, cat_i, cat_l, cat_a]) ?_
  intro x hw_ hnL_ hl_ hc hret hnm hQ
  subst hw_; subst hl_
  have hnl : ∀ i, i < 3 → i < x.nL := fun i h => by rw [hnL_]; exact h
  have hw : wpO (sX7_flip F l0 h) (fun r => r = h') := ⟨_, hs, rfl⟩
  unfold sX7_flip at hw
  refine R_iconst (v := (0 : Int32)) hc dX7_flip_0 kI_0 ?_
  refine R_istore_n (i := 1) (v := (0 : Int32)) hc [(1, .int (0 : Int32)), (0, rf x.w (some l0))] dX7_flip_1 rfl (hnl 1 (le_b rfl)) rfl ?_
  refine R_sub hc [1, 0] rfl ?_
  refine R_loop (P := fun (s : (Int32 × HP)) => Rn x 0 0 2 [(0, rf x.w (some l0)), (1, .int s.1)] [] s.2) (fun h12 => Rn x 0 0 60 [(0, rf x.w (some l0))] [] h12) hw (fun r hw => ?_) (fun X hX s hw => ?_)
  · revert r hw
    intro h12 hw
    show Rn x 0 0 60 [(0, rf x.w (some l0))] [] h12
    refine R_iconst (v := (0 : Int32)) hc dX7_flip_60 kI_0 ?_
    refine R_istore_n (i := 1) (v := (0 : Int32)) hc [(1, .int (0 : Int32)), (0, rf x.w (some l0))] dX7_flip_61 rfl (hnl 1 (le_b rfl)) rfl ?_
    refine R_sub hc [1, 0] rfl ?_
    refine R_loop (P := fun (s : (Int32 × HP)) => Rn x 0 0 62 [(0, rf x.w (some l0)), (1, .int s.1)] [] s.2) (fun h17 => Rn x 0 0 86 [] [] h17) hw (fun r hw => ?_) (fun X hX s hw => ?_)
    · revert r hw
      intro h17 hw
      show Rn x 0 0 86 [] [] h17
      exact R_return hc hret hQ hw dX7_flip_86
    · obtain ⟨l1_19, h20⟩ := s
      show Rn x 0 0 62 [(0, rf x.w (some l0)), (1, .int l1_19)] [] h20
      have hw : wpO (sX7_flip_L62 F l0 l1_19 h20) _ := hw
      unfold sX7_flip_L62 at hw
      refine R_iload_n (q := 1) (i := 1) (v := l1_19) hc dX7_flip_62 rfl rfl ?_
      refine R_aload_n (q := 0) (i := 0) (v := (some l0)) hc dX7_flip_63 rfl rfl ?_
      refine R_getI hc fl_7_9 dX7_flip_64 hw (fun t13 hw => ?_)
      refine R_icmp_ge (tgt := 86) hc dX7_flip_67 (by decide) hw (fun hw => ?_) (fun hw => ?_)
      · refine R_sub hc [] rfl ?_
        exact (wpO_some hw :)
      · refine R_aload_n (q := 0) (i := 0) (v := (some l0)) hc dX7_flip_70 rfl rfl ?_
        refine R_getR hc fl_7_15 dX7_flip_71 hw (fun t14 hw => ?_)
        refine R_iload_n (q := 1) (i := 1) (v := l1_19) hc dX7_flip_74 rfl rfl ?_
        refine R_dup2 hc dX7_flip_75 rfl (rf_cat _ _) ?_
        refine R_iaload hc dX7_flip_76 hw (fun t15 hw => ?_)
        refine R_iconst (v := (3 : Int32)) hc dX7_flip_77 kI_3 ?_
        refine R_ixor hc dX7_flip_78 ?_
        refine R_iastore hc dX7_flip_79 hw (fun h16 hw => ?_)
        refine R_iinc (q := 1) (i := 1) (v := l1_19) hc [(1, .int (l1_19 + (1 : Int32))), (0, rf x.w (some l0))] dX7_flip_80 rfl (kC_1 _) (hnl 1 (le_b rfl)) rfl ?_
        refine R_goto (tgt := 62) hc dX7_flip_83 (by decide) ?_
        refine R_sub hc [1, 0] rfl ?_
        exact hX (l1_19 + (1 : Int32), h16) (wpO_some hw :)
  · obtain ⟨l1_22, h23⟩ := s
    show Rn x 0 0 2 [(0, rf x.w (some l0)), (1, .int l1_22)] [] h23
    have hw : wpO (sX7_flip_L2 F l0 l1_22 h23) _ := hw
    unfold sX7_flip_L2 at hw
    refine R_iload_n (q := 1) (i := 1) (v := l1_22) hc dX7_flip_2 rfl rfl ?_
    refine R_aload_n (q := 0) (i := 0) (v := (some l0)) hc dX7_flip_3 rfl rfl ?_
    refine R_getI hc fl_7_9 dX7_flip_4 hw (fun t1 hw => ?_)
    refine R_iconst (v := (1 : Int32)) hc dX7_flip_7 kI_1 ?_
    refine R_isub hc dX7_flip_8 ?_
    refine R_iload_n (q := 1) (i := 1) (v := l1_22) hc dX7_flip_9 rfl rfl ?_
    refine R_isub hc dX7_flip_10 ?_
    refine R_icmp_ge (tgt := 60) hc dX7_flip_11 (by decide) hw (fun hw => ?_) (fun hw => ?_)
    · refine R_sub hc [0] rfl ?_
      exact (wpO_some hw :)
    · refine R_aload_n (q := 0) (i := 0) (v := (some l0)) hc dX7_flip_14 rfl rfl ?_
      refine R_getR hc fl_7_15 dX7_flip_15 hw (fun t2 hw => ?_)
      refine R_iload_n (q := 1) (i := 1) (v := l1_22) hc dX7_flip_18 rfl rfl ?_
      refine R_iaload hc dX7_flip_19 hw (fun t3 hw => ?_)
      refine R_istore_n (i := 2) (v := t3) hc [(2, .int t3), (0, rf x.w (some l0)), (1, .int l1_22)] dX7_flip_20 rfl (hnl 2 (le_b rfl)) rfl ?_
      refine R_aload_n (q := 1) (i := 0) (v := (some l0)) hc dX7_flip_21 rfl rfl ?_
      refine R_getR hc fl_7_15 dX7_flip_22 hw (fun t4 hw => ?_)
      refine R_iload_n (q := 2) (i := 1) (v := l1_22) hc dX7_flip_25 rfl rfl ?_
      refine R_aload_n (q := 1) (i := 0) (v := (some l0)) hc dX7_flip_26 rfl rfl ?_
      refine R_getR hc fl_7_15 dX7_flip_27 hw (fun t5 hw => ?_)
      refine R_aload_n (q := 1) (i := 0) (v := (some l0)) hc dX7_flip_30 rfl rfl ?_
      refine R_getI hc fl_7_9 dX7_flip_31 hw (fun t6 hw => ?_)
      refine R_iconst (v := (1 : Int32)) hc dX7_flip_34 kI_1 ?_
      refine R_isub hc dX7_flip_35 ?_
      refine R_iload_n (q := 2) (i := 1) (v := l1_22) hc dX7_flip_36 rfl rfl ?_
      refine R_isub hc dX7_flip_37 ?_
      refine R_iaload hc dX7_flip_38 hw (fun t7 hw => ?_)
      refine R_iastore hc dX7_flip_39 hw (fun h8 hw => ?_)
      refine R_aload_n (q := 1) (i := 0) (v := (some l0)) hc dX7_flip_40 rfl rfl ?_
      refine R_getR hc fl_7_15 dX7_flip_41 hw (fun t9 hw => ?_)
      refine R_aload_n (q := 1) (i := 0) (v := (some l0)) hc dX7_flip_44 rfl rfl ?_
      refine R_getI hc fl_7_9 dX7_flip_45 hw (fun t10 hw => ?_)
      refine R_iconst (v := (1 : Int32)) hc dX7_flip_48 kI_1 ?_
      refine R_isub hc dX7_flip_49 ?_
      refine R_iload_n (q := 2) (i := 1) (v := l1_22) hc dX7_flip_50 rfl rfl ?_
      refine R_isub hc dX7_flip_51 ?_
      refine R_iload_n (q := 0) (i := 2) (v := t3) hc dX7_flip_52 rfl rfl ?_
      refine R_iastore hc dX7_flip_53 hw (fun h11 hw => ?_)
      refine R_iinc (q := 2) (i := 1) (v := l1_22) hc [(1, .int (l1_22 + (1 : Int32))), (2, .int t3), (0, rf x.w (some l0))] dX7_flip_54 rfl (kC_1 _) (hnl 1 (le_b rfl)) rfl ?_
      refine R_goto (tgt := 2) hc dX7_flip_57 (by decide) ?_
      refine R_sub hc [2, 0] rfl ?_
      exact hX (l1_22 + (1 : Int32), h11) (wpO_some hw :)
theorem dX5_takeBack_0 : decode cX5_takeBack 0 = .ok (.aload_n 0, 1) := by decide +kernel
theorem dX5_takeBack_1 : decode cX5_takeBack 1 = .ok (.aload_n 0, 1) := by decide +kernel
theorem dX5_takeBack_2 : decode cX5_takeBack 2 = .ok (.getfield 15, 3) := by decide +kernel
theorem dX5_takeBack_5 : decode cX5_takeBack 5 = .ok (.bipush 8, 2) := by decide +kernel
theorem dX5_takeBack_7 : decode cX5_takeBack 7 = .ok (.iadd, 1) := by decide +kernel
theorem dX5_takeBack_8 : decode cX5_takeBack 8 = .ok (.iconst 1, 1) := by decide +kernel
theorem dX5_takeBack_9 : decode cX5_takeBack 9 = .ok (.isub, 1) := by decide +kernel
theorem dX5_takeBack_10 : decode cX5_takeBack 10 = .ok (.bipush 8, 2) := by decide +kernel
theorem dX5_takeBack_12 : decode cX5_takeBack 12 = .ok (.irem, 1) := by decide +kernel
theorem dX5_takeBack_13 : decode cX5_takeBack 13 = .ok (.putfield 15, 3) := by decide +kernel
theorem dX5_takeBack_16 : decode cX5_takeBack 16 = .ok (.aload_n 0, 1) := by decide +kernel
theorem dX5_takeBack_17 : decode cX5_takeBack 17 = .ok (.dup, 1) := by decide +kernel
theorem dX5_takeBack_18 : decode cX5_takeBack 18 = .ok (.getfield 9, 3) := by decide +kernel
theorem dX5_takeBack_21 : decode cX5_takeBack 21 = .ok (.iconst 1, 1) := by decide +kernel
theorem dX5_takeBack_22 : decode cX5_takeBack 22 = .ok (.isub, 1) := by decide +kernel
theorem dX5_takeBack_23 : decode cX5_takeBack 23 = .ok (.putfield 9, 3) := by decide +kernel
theorem dX5_takeBack_26 : decode cX5_takeBack 26 = .ok (.aload_n 1, 1) := by decide +kernel
theorem dX5_takeBack_27 : decode cX5_takeBack 27 = .ok (.aload_n 0, 1) := by decide +kernel
theorem dX5_takeBack_28 : decode cX5_takeBack 28 = .ok (.getfield 20, 3) := by decide +kernel
theorem dX5_takeBack_31 : decode cX5_takeBack 31 = .ok (.aload_n 0, 1) := by decide +kernel
theorem dX5_takeBack_32 : decode cX5_takeBack 32 = .ok (.getfield 15, 3) := by decide +kernel
theorem dX5_takeBack_35 : decode cX5_takeBack 35 = .ok (.aaload, 1) := by decide +kernel
theorem dX5_takeBack_36 : decode cX5_takeBack 36 = .ok (.invokevirtual 25, 3) := by decide +kernel
theorem dX5_takeBack_39 : decode cX5_takeBack 39 = .ok (.return_, 1) := by decide +kernel
def sX5_takeBack (F : Nat) (l0 : Nat) (l1 : Option Nat) (h : HP) : Option HP :=
  (gI h 5 (some l0) 1).bind fun t1 =>
  (pI h 5 (some l0) 1 (jrem ((t1 + (8 : Int32)) - (1 : Int32)) (8 : Int32))).bind fun h2 =>
  (gI h2 5 (some l0) 0).bind fun t3 =>
  (pI h2 5 (some l0) 0 (t3 - (1 : Int32))).bind fun h4 =>
  (gR h4 5 (some l0) 2).bind fun t5 =>
  (gI h4 5 (some l0) 1).bind fun t6 =>
  (aR h4 t5 t6).bind fun t7 =>
  (dO h4 7 l1).bind fun a8 =>
  (sX7_copyFrom F a8 t7 h4).bind fun h9 =>
  some h9
abbrev rm_X5_takeBack : Room := { frames := 1, cells := 0, slots := 0, locals := 22 }
set_option maxRecDepth 100000 in
set_option maxHeartbeats 4000000 in
theorem mt_X5_takeBack {w : WD} {l : Launch} {F : Nat} {l0 : Nat} {l1 : Option Nat} {h : HP} {h' : HP} (hs : sX5_takeBack F l0 l1 h = some h') : MV w l yX5_takeBack cX5_takeBack 2 rm_X5_takeBack 0 0 [rf w (some l0), rf w l1] h h' := by
  refine of_body [(0, rf w (some l0)), (1, rf w l1)] (by decide) (by simp [lg_sl, rf_cat, cat_i, cat_l, cat_a]) (by simp [lv_args, rf_cat, cat_i, cat_l, cat_a]) ?_
  intro x hw_ hnL_ hl_ hc hret hnm hQ
  subst hw_; subst hl_
  have hnl : ∀ i, i < 2 → i < x.nL := fun i h => by rw [hnL_]; exact h
  have hw : wpO (sX5_takeBack F l0 l1 h) (fun r => r = h') := ⟨_, hs, rfl⟩
  unfold sX5_takeBack at hw
  refine R_aload_n (q := 0) (i := 0) (v := (some l0)) hc dX5_takeBack_0 rfl rfl ?_
  refine R_aload_n (q := 0) (i := 0) (v := (some l0)) hc dX5_takeBack_1 rfl rfl ?_
  refine R_getI hc fl_5_15 dX5_takeBack_2 hw (fun t1 hw => ?_)
  refine R_bipush (v := (8 : Int32)) hc dX5_takeBack_5 kB_8 ?_
  refine R_iadd hc dX5_takeBack_7 ?_
  refine R_iconst (v := (1 : Int32)) hc dX5_takeBack_8 kI_1 ?_
  refine R_isub hc dX5_takeBack_9 ?_
  refine R_bipush (v := (8 : Int32)) hc dX5_takeBack_10 kB_8 ?_
  refine R_iremL hc dX5_takeBack_12 (by decide) ?_
  refine R_putI hc pl_5_15 rfl rfl dX5_takeBack_13 hw (fun h2 hw => ?_)
  refine R_aload_n (q := 0) (i := 0) (v := (some l0)) hc dX5_takeBack_16 rfl rfl ?_
  refine R_dup hc dX5_takeBack_17 (rf_cat _ _) ?_
  refine R_getI hc fl_5_9 dX5_takeBack_18 hw (fun t3 hw => ?_)
  refine R_iconst (v := (1 : Int32)) hc dX5_takeBack_21 kI_1 ?_
  refine R_isub hc dX5_takeBack_22 ?_
  refine R_putI hc pl_5_9 rfl rfl dX5_takeBack_23 hw (fun h4 hw => ?_)
  refine R_aload_n (q := 1) (i := 1) (v := l1) hc dX5_takeBack_26 rfl rfl ?_
  refine R_aload_n (q := 0) (i := 0) (v := (some l0)) hc dX5_takeBack_27 rfl rfl ?_
  refine R_getR hc fl_5_20 dX5_takeBack_28 hw (fun t5 hw => ?_)
  refine R_aload_n (q := 0) (i := 0) (v := (some l0)) hc dX5_takeBack_31 rfl rfl ?_
  refine R_getI hc fl_5_15 dX5_takeBack_32 hw (fun t6 hw => ?_)
  refine R_aaload hc dX5_takeBack_35 hw (fun t7 hw => ?_)
  refine R_cVVi (As := [rf x.w t7]) (rest := []) (r := l1) (ci := 7) hc ml_5_25 mf_X7_copyFrom rfl (by decide) ⟨rfl, rfl⟩ ⟨le_b rfl, le_b rfl⟩ ⟨Nat.zero_le _, Nat.zero_le _⟩ (fun a h' e => mt_X7_copyFrom e) rfl rfl (Nat.zero_le _) dX5_takeBack_36 hw (fun h9 hw => ?_)
  exact R_return hc hret hQ hw dX5_takeBack_39
theorem dX10_image_0 : decode cX10_image 0 = .ok (.aload_n 0, 1) := by decide +kernel
theorem dX10_image_1 : decode cX10_image 1 = .ok (.aload_n 0, 1) := by decide +kernel
theorem dX10_image_2 : decode cX10_image 2 = .ok (.getfield 75, 3) := by decide +kernel
theorem dX10_image_5 : decode cX10_image 5 = .ok (.putfield 78, 3) := by decide +kernel
theorem dX10_image_8 : decode cX10_image 8 = .ok (.aload_n 0, 1) := by decide +kernel
theorem dX10_image_9 : decode cX10_image 9 = .ok (.getfield 35, 3) := by decide +kernel
theorem dX10_image_12 : decode cX10_image 12 = .ok (.aload_n 0, 1) := by decide +kernel
theorem dX10_image_13 : decode cX10_image 13 = .ok (.getfield 31, 3) := by decide +kernel
theorem dX10_image_16 : decode cX10_image 16 = .ok (.invokevirtual 416, 3) := by decide +kernel
theorem dX10_image_19 : decode cX10_image 19 = .ok (.return_, 1) := by decide +kernel
def sX10_image (F : Nat) (l0 : Nat) (h : HP) : Option HP :=
  (gR h 10 (some l0) 12).bind fun t1 =>
  (pR h 10 (some l0) 13 t1).bind fun h2 =>
  (gR h2 10 (some l0) 4).bind fun t3 =>
  (gR h2 10 (some l0) 3).bind fun t4 =>
  (dO h2 7 t3).bind fun a5 =>
  (sX7_copyFrom F a5 t4 h2).bind fun h6 =>
  some h6
abbrev rm_X10_image : Room := { frames := 1, cells := 0, slots := 0, locals := 22 }
set_option maxRecDepth 100000 in
set_option maxHeartbeats 4000000 in
theorem mt_X10_image {w : WD} {l : Launch} {F : Nat} {l0 : Nat} {h : HP} {h' : HP} (hs : sX10_image F l0 h = some h') : MV w l yX10_image cX10_image 1 rm_X10_image 0 0 [rf w (some l0)] h h' := by
  refine of_body [(0, rf w (some l0))] (by decide) (by simp [lg_sl, rf_cat, cat_i, cat_l, cat_a]) (by simp [lv_args, rf_cat, cat_i, cat_l, cat_a]) ?_
  intro x hw_ hnL_ hl_ hc hret hnm hQ
  subst hw_; subst hl_
  have hnl : ∀ i, i < 1 → i < x.nL := fun i h => by rw [hnL_]; exact h
  have hw : wpO (sX10_image F l0 h) (fun r => r = h') := ⟨_, hs, rfl⟩
  unfold sX10_image at hw
  refine R_aload_n (q := 0) (i := 0) (v := (some l0)) hc dX10_image_0 rfl rfl ?_
  refine R_aload_n (q := 0) (i := 0) (v := (some l0)) hc dX10_image_1 rfl rfl ?_
  refine R_getR hc fl_10_75 dX10_image_2 hw (fun t1 hw => ?_)
  refine R_putR hc pl_10_78 (rf_fits_o _ _ _).1 (rf_fits_o _ _ _).2 dX10_image_5 hw (fun h2 hw => ?_)
  refine R_aload_n (q := 0) (i := 0) (v := (some l0)) hc dX10_image_8 rfl rfl ?_
  refine R_getR hc fl_10_35 dX10_image_9 hw (fun t3 hw => ?_)
  refine R_aload_n (q := 0) (i := 0) (v := (some l0)) hc dX10_image_12 rfl rfl ?_
  refine R_getR hc fl_10_31 dX10_image_13 hw (fun t4 hw => ?_)
  refine R_cVVi (As := [rf x.w t4]) (rest := []) (r := t3) (ci := 7) hc ml_10_416 mf_X7_copyFrom rfl (by decide) ⟨rfl, rfl⟩ ⟨le_b rfl, le_b rfl⟩ ⟨Nat.zero_le _, Nat.zero_le _⟩ (fun a h' e => mt_X7_copyFrom e) rfl rfl (Nat.zero_le _) dX10_image_16 hw (fun h6 hw => ?_)
  exact R_return hc hret hQ hw dX10_image_19
theorem dX10_back_0 : decode cX10_back 0 = .ok (.aload_n 0, 1) := by decide +kernel
theorem dX10_back_1 : decode cX10_back 1 = .ok (.getfield 78, 3) := by decide +kernel
theorem dX10_back_4 : decode cX10_back 4 = .ok (.ifnonnull 5, 3) := by decide +kernel
theorem dX10_back_7 : decode cX10_back 7 = .ok (.iconst 0, 1) := by decide +kernel
theorem dX10_back_8 : decode cX10_back 8 = .ok (.ireturn, 1) := by decide +kernel
theorem dX10_back_9 : decode cX10_back 9 = .ok (.aload_n 0, 1) := by decide +kernel
theorem dX10_back_10 : decode cX10_back 10 = .ok (.aload_n 0, 1) := by decide +kernel
theorem dX10_back_11 : decode cX10_back 11 = .ok (.getfield 78, 3) := by decide +kernel
theorem dX10_back_14 : decode cX10_back 14 = .ok (.putfield 75, 3) := by decide +kernel
theorem dX10_back_17 : decode cX10_back 17 = .ok (.aload_n 0, 1) := by decide +kernel
theorem dX10_back_18 : decode cX10_back 18 = .ok (.getfield 31, 3) := by decide +kernel
theorem dX10_back_21 : decode cX10_back 21 = .ok (.aload_n 0, 1) := by decide +kernel
theorem dX10_back_22 : decode cX10_back 22 = .ok (.getfield 35, 3) := by decide +kernel
theorem dX10_back_25 : decode cX10_back 25 = .ok (.invokevirtual 416, 3) := by decide +kernel
theorem dX10_back_28 : decode cX10_back 28 = .ok (.aload_n 0, 1) := by decide +kernel
theorem dX10_back_29 : decode cX10_back 29 = .ok (.getfield 41, 3) := by decide +kernel
theorem dX10_back_32 : decode cX10_back 32 = .ok (.invokevirtual 134, 3) := by decide +kernel
theorem dX10_back_35 : decode cX10_back 35 = .ok (.aload_n 0, 1) := by decide +kernel
theorem dX10_back_36 : decode cX10_back 36 = .ok (.invokevirtual 91, 3) := by decide +kernel
theorem dX10_back_39 : decode cX10_back 39 = .ok (.iconst 1, 1) := by decide +kernel
theorem dX10_back_40 : decode cX10_back 40 = .ok (.ireturn, 1) := by decide +kernel
def sX10_back (F : Nat) (l0 : Nat) (h : HP) : Option (Int32 × HP) :=
  (gR h 10 (some l0) 13).bind fun t1 =>
  if ¬ t1 = none then
    (gR h 10 (some l0) 13).bind fun t2 =>
    (pR h 10 (some l0) 12 t2).bind fun h3 =>
    (gR h3 10 (some l0) 3).bind fun t4 =>
    (gR h3 10 (some l0) 4).bind fun t5 =>
    (dO h3 7 t4).bind fun a6 =>
    (sX7_copyFrom F a6 t5 h3).bind fun h7 =>
    (gR h7 10 (some l0) 5).bind fun t8 =>
    (dO h7 5 t8).bind fun a9 =>
    (sX5_forget F a9 h7).bind fun h10 =>
    (dO h10 10 (some l0)).bind fun a11 =>
    (sX10_redraw F a11 h10).bind fun h12 =>
    some ((1 : Int32), h12)
  else
    some ((0 : Int32), h)
abbrev rm_X10_back : Room := { frames := 6, cells := 0, slots := 0, locals := 150 }
set_option maxRecDepth 100000 in
set_option maxHeartbeats 4000000 in
theorem mt_X10_back {w : WD} {l : Launch} {F : Nat} {l0 : Nat} {h : HP} {v : Int32} {h' : HP} (hs : sX10_back F l0 h = some (v, h')) : MI w l yX10_back cX10_back 1 .boolean rm_X10_back 0 0 [rf w (some l0)] h v h' := by
  refine of_body [(0, rf w (some l0))] (by decide) (by simp [lg_sl, rf_cat, cat_i, cat_l, cat_a]) (by simp [lv_args, rf_cat, cat_i, cat_l, cat_a]) ?_
  intro x hw_ hnL_ hl_ hc hret hnm hQ
  subst hw_; subst hl_
  have hnl : ∀ i, i < 1 → i < x.nL := fun i h => by rw [hnL_]; exact h
  have hw : wpO (sX10_back F l0 h) (fun r => r = (v, h')) := ⟨_, hs, rfl⟩
  unfold sX10_back at hw
  refine R_aload_n (q := 0) (i := 0) (v := (some l0)) hc dX10_back_0 rfl rfl ?_
  refine R_getR hc fl_10_78 dX10_back_1 hw (fun t1 hw => ?_)
  refine R_ifnonnull (tgt := 9) hc dX10_back_4 (by decide) hw (fun hw => ?_) (fun hw => ?_)
  · refine R_aload_n (q := 0) (i := 0) (v := (some l0)) hc dX10_back_9 rfl rfl ?_
    refine R_aload_n (q := 0) (i := 0) (v := (some l0)) hc dX10_back_10 rfl rfl ?_
    refine R_getR hc fl_10_78 dX10_back_11 hw (fun t2 hw => ?_)
    refine R_putR hc pl_10_75 (rf_fits_o _ _ _).1 (rf_fits_o _ _ _).2 dX10_back_14 hw (fun h3 hw => ?_)
    refine R_aload_n (q := 0) (i := 0) (v := (some l0)) hc dX10_back_17 rfl rfl ?_
    refine R_getR hc fl_10_31 dX10_back_18 hw (fun t4 hw => ?_)
    refine R_aload_n (q := 0) (i := 0) (v := (some l0)) hc dX10_back_21 rfl rfl ?_
    refine R_getR hc fl_10_35 dX10_back_22 hw (fun t5 hw => ?_)
    refine R_cVVi (As := [rf x.w t5]) (rest := []) (r := t4) (ci := 7) hc ml_10_416 mf_X7_copyFrom rfl (by decide) ⟨rfl, rfl⟩ ⟨le_b rfl, le_b rfl⟩ ⟨Nat.zero_le _, Nat.zero_le _⟩ (fun a h' e => mt_X7_copyFrom e) rfl rfl (Nat.zero_le _) dX10_back_25 hw (fun h7 hw => ?_)
    refine R_aload_n (q := 0) (i := 0) (v := (some l0)) hc dX10_back_28 rfl rfl ?_
    refine R_getR hc fl_10_41 dX10_back_29 hw (fun t8 hw => ?_)
    refine R_cVVi (As := []) (rest := []) (r := t8) (ci := 5) hc ml_10_134 mf_X5_forget rfl (by decide) ⟨rfl, rfl⟩ ⟨le_b rfl, le_b rfl⟩ ⟨Nat.zero_le _, Nat.zero_le _⟩ (fun a h' e => mt_X5_forget e) rfl rfl (Nat.zero_le _) dX10_back_32 hw (fun h10 hw => ?_)
    refine R_aload_n (q := 0) (i := 0) (v := (some l0)) hc dX10_back_35 rfl rfl ?_
    refine R_cVVi (As := []) (rest := []) (r := (some l0)) (ci := 10) hc ml_10_91 mf_X10_redraw rfl (by decide) ⟨rfl, rfl⟩ ⟨le_b rfl, le_b rfl⟩ ⟨Nat.zero_le _, Nat.zero_le _⟩ (fun a h' e => mt_X10_redraw e) rfl rfl (Nat.zero_le _) dX10_back_36 hw (fun h12 hw => ?_)
    refine R_iconst (v := (1 : Int32)) hc dX10_back_39 kI_1 ?_
    exact R_ireturn hc hret rfl hQ hw dX10_back_40
  · refine R_iconst (v := (0 : Int32)) hc dX10_back_7 kI_0 ?_
    exact R_ireturn hc hret rfl hQ hw dX10_back_8
theorem dX10_count_0 : decode cX10_count 0 = .ok (.iload_n 1, 1) := by decide +kernel
theorem dX10_count_1 : decode cX10_count 1 = .ok (.tableswitch 132 0 7 #[47, 58, 69, 80, 91, 102, 113, 124], 47) := by decide +kernel
theorem dX10_count_48 : decode cX10_count 48 = .ok (.aload_n 0, 1) := by decide +kernel
theorem dX10_count_49 : decode cX10_count 49 = .ok (.getfield 75, 3) := by decide +kernel
theorem dX10_count_52 : decode cX10_count 52 = .ok (.getfield 125, 3) := by decide +kernel
theorem dX10_count_55 : decode cX10_count 55 = .ok (.getfield 140, 3) := by decide +kernel
theorem dX10_count_58 : decode cX10_count 58 = .ok (.ireturn, 1) := by decide +kernel
theorem dX10_count_59 : decode cX10_count 59 = .ok (.aload_n 0, 1) := by decide +kernel
theorem dX10_count_60 : decode cX10_count 60 = .ok (.getfield 75, 3) := by decide +kernel
theorem dX10_count_63 : decode cX10_count 63 = .ok (.getfield 125, 3) := by decide +kernel
theorem dX10_count_66 : decode cX10_count 66 = .ok (.getfield 128, 3) := by decide +kernel
theorem dX10_count_69 : decode cX10_count 69 = .ok (.ireturn, 1) := by decide +kernel
theorem dX10_count_70 : decode cX10_count 70 = .ok (.aload_n 0, 1) := by decide +kernel
theorem dX10_count_71 : decode cX10_count 71 = .ok (.getfield 75, 3) := by decide +kernel
theorem dX10_count_74 : decode cX10_count 74 = .ok (.getfield 125, 3) := by decide +kernel
theorem dX10_count_77 : decode cX10_count 77 = .ok (.getfield 223, 3) := by decide +kernel
theorem dX10_count_80 : decode cX10_count 80 = .ok (.ireturn, 1) := by decide +kernel
theorem dX10_count_81 : decode cX10_count 81 = .ok (.aload_n 0, 1) := by decide +kernel
theorem dX10_count_82 : decode cX10_count 82 = .ok (.getfield 75, 3) := by decide +kernel
theorem dX10_count_85 : decode cX10_count 85 = .ok (.getfield 125, 3) := by decide +kernel
theorem dX10_count_88 : decode cX10_count 88 = .ok (.getfield 226, 3) := by decide +kernel
theorem dX10_count_91 : decode cX10_count 91 = .ok (.ireturn, 1) := by decide +kernel
theorem dX10_count_92 : decode cX10_count 92 = .ok (.aload_n 0, 1) := by decide +kernel
theorem dX10_count_93 : decode cX10_count 93 = .ok (.getfield 75, 3) := by decide +kernel
theorem dX10_count_96 : decode cX10_count 96 = .ok (.getfield 125, 3) := by decide +kernel
theorem dX10_count_99 : decode cX10_count 99 = .ok (.getfield 419, 3) := by decide +kernel
theorem dX10_count_102 : decode cX10_count 102 = .ok (.ireturn, 1) := by decide +kernel
theorem dX10_count_103 : decode cX10_count 103 = .ok (.aload_n 0, 1) := by decide +kernel
theorem dX10_count_104 : decode cX10_count 104 = .ok (.getfield 75, 3) := by decide +kernel
theorem dX10_count_107 : decode cX10_count 107 = .ok (.getfield 125, 3) := by decide +kernel
theorem dX10_count_110 : decode cX10_count 110 = .ok (.getfield 422, 3) := by decide +kernel
theorem dX10_count_113 : decode cX10_count 113 = .ok (.ireturn, 1) := by decide +kernel
theorem dX10_count_114 : decode cX10_count 114 = .ok (.aload_n 0, 1) := by decide +kernel
theorem dX10_count_115 : decode cX10_count 115 = .ok (.getfield 75, 3) := by decide +kernel
theorem dX10_count_118 : decode cX10_count 118 = .ok (.getfield 125, 3) := by decide +kernel
theorem dX10_count_121 : decode cX10_count 121 = .ok (.getfield 425, 3) := by decide +kernel
theorem dX10_count_124 : decode cX10_count 124 = .ok (.ireturn, 1) := by decide +kernel
theorem dX10_count_125 : decode cX10_count 125 = .ok (.aload_n 0, 1) := by decide +kernel
theorem dX10_count_126 : decode cX10_count 126 = .ok (.getfield 41, 3) := by decide +kernel
theorem dX10_count_129 : decode cX10_count 129 = .ok (.getfield 398, 3) := by decide +kernel
theorem dX10_count_132 : decode cX10_count 132 = .ok (.ireturn, 1) := by decide +kernel
theorem dX10_count_133 : decode cX10_count 133 = .ok (.iconst (-1), 1) := by decide +kernel
theorem dX10_count_134 : decode cX10_count 134 = .ok (.ireturn, 1) := by decide +kernel
def sX10_count (F : Nat) (l0 : Nat) (l1 : Int32) (h : HP) : Option Int32 :=
  if l1 = (0 : Int32) then
    (gR h 10 (some l0) 12).bind fun t1 =>
    (gR h 4 t1 0).bind fun t2 =>
    (gI h 1 t2 4).bind fun t3 =>
    some t3
  else if l1 = (1 : Int32) then
    (gR h 10 (some l0) 12).bind fun t4 =>
    (gR h 4 t4 0).bind fun t5 =>
    (gI h 1 t5 5).bind fun t6 =>
    some t6
  else if l1 = (2 : Int32) then
    (gR h 10 (some l0) 12).bind fun t7 =>
    (gR h 4 t7 0).bind fun t8 =>
    (gI h 1 t8 2).bind fun t9 =>
    some t9
  else if l1 = (3 : Int32) then
    (gR h 10 (some l0) 12).bind fun t10 =>
    (gR h 4 t10 0).bind fun t11 =>
    (gI h 1 t11 3).bind fun t12 =>
    some t12
  else if l1 = (4 : Int32) then
    (gR h 10 (some l0) 12).bind fun t13 =>
    (gR h 4 t13 0).bind fun t14 =>
    (gI h 1 t14 6).bind fun t15 =>
    some t15
  else if l1 = (5 : Int32) then
    (gR h 10 (some l0) 12).bind fun t16 =>
    (gR h 4 t16 0).bind fun t17 =>
    (gI h 1 t17 0).bind fun t18 =>
    some t18
  else if l1 = (6 : Int32) then
    (gR h 10 (some l0) 12).bind fun t19 =>
    (gR h 4 t19 0).bind fun t20 =>
    (gI h 1 t20 1).bind fun t21 =>
    some t21
  else if l1 = (7 : Int32) then
    (gR h 10 (some l0) 5).bind fun t22 =>
    (gI h 5 t22 0).bind fun t23 =>
    some t23
  else
    some (-1 : Int32)
abbrev rm_X10_count : Room := { frames := 0, cells := 0, slots := 0, locals := 0 }
set_option maxRecDepth 100000 in
set_option maxHeartbeats 4000000 in
theorem mt_X10_count {w : WD} {l : Launch} {F : Nat} {l0 : Nat} {l1 : Int32} {h : HP} {v : Int32} (hs : sX10_count F l0 l1 h = some v) : MI w l yX10_count cX10_count 2 .int rm_X10_count 0 0 [rf w (some l0), .int l1] h v h := by
  refine of_body [(0, rf w (some l0)), (1, .int l1)] (by decide) (by simp [lg_sl, rf_cat, cat_i, cat_l, cat_a]) (by simp [lv_args, rf_cat, cat_i, cat_l, cat_a]) ?_
  intro x hw_ hnL_ hl_ hc hret hnm hQ
  subst hw_; subst hl_
  have hnl : ∀ i, i < 2 → i < x.nL := fun i h => by rw [hnL_]; exact h
  have hw : wpO (sX10_count F l0 l1 h) (fun r => r = v) := ⟨_, hs, rfl⟩
  unfold sX10_count at hw
  refine R_iload_n (q := 1) (i := 1) (v := l1) hc dX10_count_0 rfl rfl ?_
  by_cases hk0 : l1 = (0 : Int32)
  · rw [if_pos hk0] at hw
    refine R_tsI (tgt := 48) hc dX10_count_1 (k := 0) (by rw [hk0]; decide) (by decide) (by decide) rfl (by decide) ?_
    refine R_aload_n (q := 0) (i := 0) (v := (some l0)) hc dX10_count_48 rfl rfl ?_
    refine R_getR hc fl_10_75 dX10_count_49 hw (fun t1 hw => ?_)
    refine R_getR hc fl_10_125 dX10_count_52 hw (fun t2 hw => ?_)
    refine R_getI hc fl_10_140 dX10_count_55 hw (fun t3 hw => ?_)
    exact R_ireturnP hc hret rfl hQ hw dX10_count_58
  rw [if_neg hk0] at hw
  by_cases hk1 : l1 = (1 : Int32)
  · rw [if_pos hk1] at hw
    refine R_tsI (tgt := 59) hc dX10_count_1 (k := 1) (by rw [hk1]; decide) (by decide) (by decide) rfl (by decide) ?_
    refine R_aload_n (q := 0) (i := 0) (v := (some l0)) hc dX10_count_59 rfl rfl ?_
    refine R_getR hc fl_10_75 dX10_count_60 hw (fun t4 hw => ?_)
    refine R_getR hc fl_10_125 dX10_count_63 hw (fun t5 hw => ?_)
    refine R_getI hc fl_10_128 dX10_count_66 hw (fun t6 hw => ?_)
    exact R_ireturnP hc hret rfl hQ hw dX10_count_69
  rw [if_neg hk1] at hw
  by_cases hk2 : l1 = (2 : Int32)
  · rw [if_pos hk2] at hw
    refine R_tsI (tgt := 70) hc dX10_count_1 (k := 2) (by rw [hk2]; decide) (by decide) (by decide) rfl (by decide) ?_
    refine R_aload_n (q := 0) (i := 0) (v := (some l0)) hc dX10_count_70 rfl rfl ?_
    refine R_getR hc fl_10_75 dX10_count_71 hw (fun t7 hw => ?_)
    refine R_getR hc fl_10_125 dX10_count_74 hw (fun t8 hw => ?_)
    refine R_getI hc fl_10_223 dX10_count_77 hw (fun t9 hw => ?_)
    exact R_ireturnP hc hret rfl hQ hw dX10_count_80
  rw [if_neg hk2] at hw
  by_cases hk3 : l1 = (3 : Int32)
  · rw [if_pos hk3] at hw
    refine R_tsI (tgt := 81) hc dX10_count_1 (k := 3) (by rw [hk3]; decide) (by decide) (by decide) rfl (by decide) ?_
    refine R_aload_n (q := 0) (i := 0) (v := (some l0)) hc dX10_count_81 rfl rfl ?_
    refine R_getR hc fl_10_75 dX10_count_82 hw (fun t10 hw => ?_)
    refine R_getR hc fl_10_125 dX10_count_85 hw (fun t11 hw => ?_)
    refine R_getI hc fl_10_226 dX10_count_88 hw (fun t12 hw => ?_)
    exact R_ireturnP hc hret rfl hQ hw dX10_count_91
  rw [if_neg hk3] at hw
  by_cases hk4 : l1 = (4 : Int32)
  · rw [if_pos hk4] at hw
    refine R_tsI (tgt := 92) hc dX10_count_1 (k := 4) (by rw [hk4]; decide) (by decide) (by decide) rfl (by decide) ?_
    refine R_aload_n (q := 0) (i := 0) (v := (some l0)) hc dX10_count_92 rfl rfl ?_
    refine R_getR hc fl_10_75 dX10_count_93 hw (fun t13 hw => ?_)
    refine R_getR hc fl_10_125 dX10_count_96 hw (fun t14 hw => ?_)
    refine R_getI hc fl_10_419 dX10_count_99 hw (fun t15 hw => ?_)
    exact R_ireturnP hc hret rfl hQ hw dX10_count_102
  rw [if_neg hk4] at hw
  by_cases hk5 : l1 = (5 : Int32)
  · rw [if_pos hk5] at hw
    refine R_tsI (tgt := 103) hc dX10_count_1 (k := 5) (by rw [hk5]; decide) (by decide) (by decide) rfl (by decide) ?_
    refine R_aload_n (q := 0) (i := 0) (v := (some l0)) hc dX10_count_103 rfl rfl ?_
    refine R_getR hc fl_10_75 dX10_count_104 hw (fun t16 hw => ?_)
    refine R_getR hc fl_10_125 dX10_count_107 hw (fun t17 hw => ?_)
    refine R_getI hc fl_10_422 dX10_count_110 hw (fun t18 hw => ?_)
    exact R_ireturnP hc hret rfl hQ hw dX10_count_113
  rw [if_neg hk5] at hw
  by_cases hk6 : l1 = (6 : Int32)
  · rw [if_pos hk6] at hw
    refine R_tsI (tgt := 114) hc dX10_count_1 (k := 6) (by rw [hk6]; decide) (by decide) (by decide) rfl (by decide) ?_
    refine R_aload_n (q := 0) (i := 0) (v := (some l0)) hc dX10_count_114 rfl rfl ?_
    refine R_getR hc fl_10_75 dX10_count_115 hw (fun t19 hw => ?_)
    refine R_getR hc fl_10_125 dX10_count_118 hw (fun t20 hw => ?_)
    refine R_getI hc fl_10_425 dX10_count_121 hw (fun t21 hw => ?_)
    exact R_ireturnP hc hret rfl hQ hw dX10_count_124
  rw [if_neg hk6] at hw
  by_cases hk7 : l1 = (7 : Int32)
  · rw [if_pos hk7] at hw
    refine R_tsI (tgt := 125) hc dX10_count_1 (k := 7) (by rw [hk7]; decide) (by decide) (by decide) rfl (by decide) ?_
    refine R_aload_n (q := 0) (i := 0) (v := (some l0)) hc dX10_count_125 rfl rfl ?_
    refine R_getR hc fl_10_41 dX10_count_126 hw (fun t22 hw => ?_)
    refine R_getI hc fl_10_398 dX10_count_129 hw (fun t23 hw => ?_)
    exact R_ireturnP hc hret rfl hQ hw dX10_count_132
  rw [if_neg hk7] at hw
  refine R_tsO (tgt := 133) hc dX10_count_1 (by have q0 := lv_neT hk0 (a := 0) (by decide); have q1 := lv_neT hk1 (a := 1) (by decide); have q2 := lv_neT hk2 (a := 2) (by decide); have q3 := lv_neT hk3 (a := 3) (by decide); have q4 := lv_neT hk4 (a := 4) (by decide); have q5 := lv_neT hk5 (a := 5) (by decide); have q6 := lv_neT hk6 (a := 6) (by decide); have q7 := lv_neT hk7 (a := 7) (by decide); omega) (by decide) ?_
  refine R_iconst (v := (-1 : Int32)) hc dX10_count_133 kI_m1 ?_
  exact R_ireturnP hc hret rfl hQ hw dX10_count_134
theorem dX11_clears_0 : decode cX11_clears 0 = .ok (.iconst 0, 1) := by decide +kernel
theorem dX11_clears_1 : decode cX11_clears 1 = .ok (.istore_n 1, 1) := by decide +kernel
theorem dX11_clears_2 : decode cX11_clears 2 = .ok (.iload_n 1, 1) := by decide +kernel
theorem dX11_clears_3 : decode cX11_clears 3 = .ok (.bipush 106, 2) := by decide +kernel
theorem dX11_clears_5 : decode cX11_clears 5 = .ok (.if_icmp .ge 13, 3) := by decide +kernel
theorem dX11_clears_8 : decode cX11_clears 8 = .ok (.aload_n 0, 1) := by decide +kernel
theorem dX11_clears_9 : decode cX11_clears 9 = .ok (.iload_n 1, 1) := by decide +kernel
theorem dX11_clears_10 : decode cX11_clears 10 = .ok (.iconst 0, 1) := by decide +kernel
theorem dX11_clears_11 : decode cX11_clears 11 = .ok (.iastore, 1) := by decide +kernel
theorem dX11_clears_12 : decode cX11_clears 12 = .ok (.iinc 1 1, 3) := by decide +kernel
theorem dX11_clears_15 : decode cX11_clears 15 = .ok (.goto (-13), 3) := by decide +kernel
theorem dX11_clears_18 : decode cX11_clears 18 = .ok (.return_, 1) := by decide +kernel
def sX11_clears_L2 (F : Nat) (l0 : Option Nat) (l1 : Int32) (h : HP) : Option ((Int32 × HP) ⊕ HP) :=
  if (106 : Int32) ≤ l1 then
    some (.inr h)
  else
    (sI h l0 l1 (0 : Int32)).bind fun h1 =>
    some (.inl (l1 + (1 : Int32), h1))
def sX11_clears (F : Nat) (l0 : Option Nat) (h : HP) : Option HP :=
  (iter (fun s => sX11_clears_L2 F l0 s.1 s.2) F ((0 : Int32), h)).bind fun h2 =>
    some h2
abbrev rm_X11_clears : Room := { frames := 0, cells := 0, slots := 0, locals := 0 }
set_option maxRecDepth 100000 in
set_option maxHeartbeats 4000000 in
theorem mt_X11_clears {w : WD} {l : Launch} {F : Nat} {l0 : Option Nat} {h : HP} {h' : HP} (hs : sX11_clears F l0 h = some h') : MV w l yX11_clears cX11_clears 2 rm_X11_clears 0 0 [rf w l0] h h' := by
  refine of_body [(0, rf w l0)] (by decide) (by simp [lg_sl, rf_cat, cat_i, cat_l, cat_a]) (by simp [lv_args, rf_cat, cat_i, cat_l, cat_a]) ?_
  intro x hw_ hnL_ hl_ hc hret hnm hQ
  subst hw_; subst hl_
  have hnl : ∀ i, i < 2 → i < x.nL := fun i h => by rw [hnL_]; exact h
  have hw : wpO (sX11_clears F l0 h) (fun r => r = h') := ⟨_, hs, rfl⟩
  unfold sX11_clears at hw
  refine R_iconst (v := (0 : Int32)) hc dX11_clears_0 kI_0 ?_
  refine R_istore_n (i := 1) (v := (0 : Int32)) hc [(1, .int (0 : Int32)), (0, rf x.w l0)] dX11_clears_1 rfl (hnl 1 (le_b rfl)) (by simp [rf_cat]) ?_
  refine R_sub hc [1, 0] rfl ?_
  refine R_loop (P := fun (s : (Int32 × HP)) => Rn x 0 0 2 [(0, rf x.w l0), (1, .int s.1)] [] s.2) (fun h2 => Rn x 0 0 18 [] [] h2) hw (fun r hw => ?_) (fun X hX s hw => ?_)
  · revert r hw
    intro h2 hw
    show Rn x 0 0 18 [] [] h2
    exact R_return hc hret hQ hw dX11_clears_18
  · obtain ⟨l1_4, h5⟩ := s
    show Rn x 0 0 2 [(0, rf x.w l0), (1, .int l1_4)] [] h5
    have hw : wpO (sX11_clears_L2 F l0 l1_4 h5) _ := hw
    unfold sX11_clears_L2 at hw
    refine R_iload_n (q := 1) (i := 1) (v := l1_4) hc dX11_clears_2 rfl rfl ?_
    refine R_bipush (v := (106 : Int32)) hc dX11_clears_3 kB_106 ?_
    refine R_icmp_ge (tgt := 18) hc dX11_clears_5 (by decide) hw (fun hw => ?_) (fun hw => ?_)
    · refine R_sub hc [] rfl ?_
      exact (wpO_some hw :)
    · refine R_aload_n (q := 0) (i := 0) (v := l0) hc dX11_clears_8 rfl rfl ?_
      refine R_iload_n (q := 1) (i := 1) (v := l1_4) hc dX11_clears_9 rfl rfl ?_
      refine R_iconst (v := (0 : Int32)) hc dX11_clears_10 kI_0 ?_
      refine R_iastore hc dX11_clears_11 hw (fun h1 hw => ?_)
      refine R_iinc (q := 1) (i := 1) (v := l1_4) hc [(1, .int (l1_4 + (1 : Int32))), (0, rf x.w l0)] dX11_clears_12 rfl (kC_1 _) (hnl 1 (le_b rfl)) (by simp [rf_cat]) ?_
      refine R_goto (tgt := 2) hc dX11_clears_15 (by decide) ?_
      refine R_sub hc [1, 0] rfl ?_
      exact hX (l1_4 + (1 : Int32), h1) (wpO_some hw :)
theorem dX11_thrown_0 : decode cX11_thrown 0 = .ok (.aload_n 0, 1) := by decide +kernel
theorem dX11_thrown_1 : decode cX11_thrown 1 = .ok (.getfield 100, 3) := by decide +kernel
theorem dX11_thrown_4 : decode cX11_thrown 4 = .ok (.ireturn, 1) := by decide +kernel
def sX11_thrown (F : Nat) (l0 : Nat) (h : HP) : Option Int32 :=
  (gI h 11 (some l0) 0).bind fun t1 =>
  some t1
abbrev rm_X11_thrown : Room := { frames := 0, cells := 0, slots := 0, locals := 0 }
set_option maxRecDepth 100000 in
set_option maxHeartbeats 4000000 in
theorem mt_X11_thrown {w : WD} {l : Launch} {F : Nat} {l0 : Nat} {h : HP} {v : Int32} (hs : sX11_thrown F l0 h = some v) : MI w l yX11_thrown cX11_thrown 1 .int rm_X11_thrown 0 0 [rf w (some l0)] h v h := by
  refine of_body [(0, rf w (some l0))] (by decide) (by simp [lg_sl, rf_cat, cat_i, cat_l, cat_a]) (by simp [lv_args, rf_cat, cat_i, cat_l, cat_a]) ?_
  intro x hw_ hnL_ hl_ hc hret hnm hQ
  subst hw_; subst hl_
  have hnl : ∀ i, i < 1 → i < x.nL := fun i h => by rw [hnL_]; exact h
  have hw : wpO (sX11_thrown F l0 h) (fun r => r = v) := ⟨_, hs, rfl⟩
  unfold sX11_thrown at hw
  refine R_aload_n (q := 0) (i := 0) (v := (some l0)) hc dX11_thrown_0 rfl rfl ?_
  refine R_getI hc fl_11_100 dX11_thrown_1 hw (fun t1 hw => ?_)
  exact R_ireturnP hc hret rfl hQ hw dX11_thrown_4
theorem dX11_isIn_0 : decode cX11_isIn 0 = .ok (.iload_n 0, 1) := by decide +kernel
theorem dX11_isIn_1 : decode cX11_isIn 1 = .ok (.iload_n 1, 1) := by decide +kernel
theorem dX11_isIn_2 : decode cX11_isIn 2 = .ok (.if_icmp .lt 12, 3) := by decide +kernel
theorem dX11_isIn_5 : decode cX11_isIn 5 = .ok (.iload_n 0, 1) := by decide +kernel
theorem dX11_isIn_6 : decode cX11_isIn 6 = .ok (.iload_n 2, 1) := by decide +kernel
theorem dX11_isIn_7 : decode cX11_isIn 7 = .ok (.if_icmp .gt 7, 3) := by decide +kernel
theorem dX11_isIn_10 : decode cX11_isIn 10 = .ok (.iconst 1, 1) := by decide +kernel
theorem dX11_isIn_11 : decode cX11_isIn 11 = .ok (.goto 4, 3) := by decide +kernel
theorem dX11_isIn_14 : decode cX11_isIn 14 = .ok (.iconst 0, 1) := by decide +kernel
theorem dX11_isIn_15 : decode cX11_isIn 15 = .ok (.ireturn, 1) := by decide +kernel
def sX11_isIn (F : Nat) (l0 : Int32) (l1 : Int32) (l2 : Int32) (h : HP) : Option Int32 :=
  if l0 < l1 then
    some (0 : Int32)
  else
    if l2 < l0 then
      some (0 : Int32)
    else
      some (1 : Int32)
abbrev rm_X11_isIn : Room := { frames := 0, cells := 0, slots := 0, locals := 0 }
set_option maxRecDepth 100000 in
set_option maxHeartbeats 4000000 in
theorem mt_X11_isIn {w : WD} {l : Launch} {F : Nat} {l0 : Int32} {l1 : Int32} {l2 : Int32} {h : HP} {v : Int32} (hs : sX11_isIn F l0 l1 l2 h = some v) : MI w l yX11_isIn cX11_isIn 3 .boolean rm_X11_isIn 0 0 [.int l0, .int l1, .int l2] h v h := by
  refine of_body [(0, .int l0), (1, .int l1), (2, .int l2)] (by decide) (by simp [lg_sl, rf_cat, cat_i, cat_l, cat_a]) (by simp [lv_args, rf_cat, cat_i, cat_l, cat_a]) ?_
  intro x hw_ hnL_ hl_ hc hret hnm hQ
  subst hw_; subst hl_
  have hnl : ∀ i, i < 3 → i < x.nL := fun i h => by rw [hnL_]; exact h
  have hw : wpO (sX11_isIn F l0 l1 l2 h) (fun r => r = v) := ⟨_, hs, rfl⟩
  unfold sX11_isIn at hw
  refine R_iload_n (q := 0) (i := 0) (v := l0) hc dX11_isIn_0 rfl rfl ?_
  refine R_iload_n (q := 1) (i := 1) (v := l1) hc dX11_isIn_1 rfl rfl ?_
  refine R_icmp_lt (tgt := 14) hc dX11_isIn_2 (by decide) hw (fun hw => ?_) (fun hw => ?_)
  · refine R_iconst (v := (0 : Int32)) hc dX11_isIn_14 kI_0 ?_
    exact R_ireturnP hc hret rfl hQ hw dX11_isIn_15
  · refine R_iload_n (q := 0) (i := 0) (v := l0) hc dX11_isIn_5 rfl rfl ?_
    refine R_iload_n (q := 2) (i := 2) (v := l2) hc dX11_isIn_6 rfl rfl ?_
    refine R_icmp_gt (tgt := 14) hc dX11_isIn_7 (by decide) hw (fun hw => ?_) (fun hw => ?_)
    · refine R_iconst (v := (0 : Int32)) hc dX11_isIn_14 kI_0 ?_
      exact R_ireturnP hc hret rfl hQ hw dX11_isIn_15
    · refine R_iconst (v := (1 : Int32)) hc dX11_isIn_10 kI_1 ?_
      refine R_goto (tgt := 15) hc dX11_isIn_11 (by decide) ?_
      exact R_ireturnP hc hret rfl hQ hw dX11_isIn_15
theorem dX11_lesser_0 : decode cX11_lesser 0 = .ok (.iload_n 0, 1) := by decide +kernel
theorem dX11_lesser_1 : decode cX11_lesser 1 = .ok (.iload_n 1, 1) := by decide +kernel
theorem dX11_lesser_2 : decode cX11_lesser 2 = .ok (.if_icmp .ge 7, 3) := by decide +kernel
theorem dX11_lesser_5 : decode cX11_lesser 5 = .ok (.iload_n 0, 1) := by decide +kernel
theorem dX11_lesser_6 : decode cX11_lesser 6 = .ok (.goto 4, 3) := by decide +kernel
theorem dX11_lesser_9 : decode cX11_lesser 9 = .ok (.iload_n 1, 1) := by decide +kernel
theorem dX11_lesser_10 : decode cX11_lesser 10 = .ok (.ireturn, 1) := by decide +kernel
def sX11_lesser (F : Nat) (l0 : Int32) (l1 : Int32) (h : HP) : Option Int32 :=
  if l1 ≤ l0 then
    some l1
  else
    some l0
abbrev rm_X11_lesser : Room := { frames := 0, cells := 0, slots := 0, locals := 0 }
set_option maxRecDepth 100000 in
set_option maxHeartbeats 4000000 in
theorem mt_X11_lesser {w : WD} {l : Launch} {F : Nat} {l0 : Int32} {l1 : Int32} {h : HP} {v : Int32} (hs : sX11_lesser F l0 l1 h = some v) : MI w l yX11_lesser cX11_lesser 2 .int rm_X11_lesser 0 0 [.int l0, .int l1] h v h := by
  refine of_body [(0, .int l0), (1, .int l1)] (by decide) (by simp [lg_sl, rf_cat, cat_i, cat_l, cat_a]) (by simp [lv_args, rf_cat, cat_i, cat_l, cat_a]) ?_
  intro x hw_ hnL_ hl_ hc hret hnm hQ
  subst hw_; subst hl_
  have hnl : ∀ i, i < 2 → i < x.nL := fun i h => by rw [hnL_]; exact h
  have hw : wpO (sX11_lesser F l0 l1 h) (fun r => r = v) := ⟨_, hs, rfl⟩
  unfold sX11_lesser at hw
  refine R_iload_n (q := 0) (i := 0) (v := l0) hc dX11_lesser_0 rfl rfl ?_
  refine R_iload_n (q := 1) (i := 1) (v := l1) hc dX11_lesser_1 rfl rfl ?_
  refine R_icmp_ge (tgt := 9) hc dX11_lesser_2 (by decide) hw (fun hw => ?_) (fun hw => ?_)
  · refine R_iload_n (q := 1) (i := 1) (v := l1) hc dX11_lesser_9 rfl rfl ?_
    exact R_ireturnP hc hret rfl hQ hw dX11_lesser_10
  · refine R_iload_n (q := 0) (i := 0) (v := l0) hc dX11_lesser_5 rfl rfl ?_
    refine R_goto (tgt := 10) hc dX11_lesser_6 (by decide) ?_
    exact R_ireturnP hc hret rfl hQ hw dX11_lesser_10
theorem dX11_greater_0 : decode cX11_greater 0 = .ok (.iload_n 0, 1) := by decide +kernel
theorem dX11_greater_1 : decode cX11_greater 1 = .ok (.iload_n 1, 1) := by decide +kernel
theorem dX11_greater_2 : decode cX11_greater 2 = .ok (.if_icmp .le 7, 3) := by decide +kernel
theorem dX11_greater_5 : decode cX11_greater 5 = .ok (.iload_n 0, 1) := by decide +kernel
theorem dX11_greater_6 : decode cX11_greater 6 = .ok (.goto 4, 3) := by decide +kernel
theorem dX11_greater_9 : decode cX11_greater 9 = .ok (.iload_n 1, 1) := by decide +kernel
theorem dX11_greater_10 : decode cX11_greater 10 = .ok (.ireturn, 1) := by decide +kernel
def sX11_greater (F : Nat) (l0 : Int32) (l1 : Int32) (h : HP) : Option Int32 :=
  if l0 ≤ l1 then
    some l1
  else
    some l0
abbrev rm_X11_greater : Room := { frames := 0, cells := 0, slots := 0, locals := 0 }
set_option maxRecDepth 100000 in
set_option maxHeartbeats 4000000 in
theorem mt_X11_greater {w : WD} {l : Launch} {F : Nat} {l0 : Int32} {l1 : Int32} {h : HP} {v : Int32} (hs : sX11_greater F l0 l1 h = some v) : MI w l yX11_greater cX11_greater 2 .int rm_X11_greater 0 0 [.int l0, .int l1] h v h := by
  refine of_body [(0, .int l0), (1, .int l1)] (by decide) (by simp [lg_sl, rf_cat, cat_i, cat_l, cat_a]) (by simp [lv_args, rf_cat, cat_i, cat_l, cat_a]) ?_
  intro x hw_ hnL_ hl_ hc hret hnm hQ
  subst hw_; subst hl_
  have hnl : ∀ i, i < 2 → i < x.nL := fun i h => by rw [hnL_]; exact h
  have hw : wpO (sX11_greater F l0 l1 h) (fun r => r = v) := ⟨_, hs, rfl⟩
  unfold sX11_greater at hw
  refine R_iload_n (q := 0) (i := 0) (v := l0) hc dX11_greater_0 rfl rfl ?_
  refine R_iload_n (q := 1) (i := 1) (v := l1) hc dX11_greater_1 rfl rfl ?_
  refine R_icmp_le (tgt := 9) hc dX11_greater_2 (by decide) hw (fun hw => ?_) (fun hw => ?_)
  · refine R_iload_n (q := 1) (i := 1) (v := l1) hc dX11_greater_9 rfl rfl ?_
    exact R_ireturnP hc hret rfl hQ hw dX11_greater_10
  · refine R_iload_n (q := 0) (i := 0) (v := l0) hc dX11_greater_5 rfl rfl ?_
    refine R_goto (tgt := 10) hc dX11_greater_6 (by decide) ?_
    exact R_ireturnP hc hret rfl hQ hw dX11_greater_10
theorem dX11_fingers_0 : decode cX11_fingers 0 = .ok (.aload_n 0, 1) := by decide +kernel
theorem dX11_fingers_1 : decode cX11_fingers 1 = .ok (.getfield 7, 3) := by decide +kernel
theorem dX11_fingers_4 : decode cX11_fingers 4 = .ok (.bipush 72, 2) := by decide +kernel
theorem dX11_fingers_6 : decode cX11_fingers 6 = .ok (.iaload, 1) := by decide +kernel
theorem dX11_fingers_7 : decode cX11_fingers 7 = .ok (.ireturn, 1) := by decide +kernel
def sX11_fingers (F : Nat) (l0 : Nat) (h : HP) : Option Int32 :=
  (gR h 11 (some l0) 1).bind fun t1 =>
  (aI h 13 t1 (72 : Int32)).bind fun t2 =>
  some t2
abbrev rm_X11_fingers : Room := { frames := 0, cells := 0, slots := 0, locals := 0 }
set_option maxRecDepth 100000 in
set_option maxHeartbeats 4000000 in
theorem mt_X11_fingers {w : WD} {l : Launch} {F : Nat} {l0 : Nat} {h : HP} {v : Int32} (hs : sX11_fingers F l0 h = some v) : MI w l yX11_fingers cX11_fingers 1 .int rm_X11_fingers 0 0 [rf w (some l0)] h v h := by
  refine of_body [(0, rf w (some l0))] (by decide) (by simp [lg_sl, rf_cat, cat_i, cat_l, cat_a]) (by simp [lv_args, rf_cat, cat_i, cat_l, cat_a]) ?_
  intro x hw_ hnL_ hl_ hc hret hnm hQ
  subst hw_; subst hl_
  have hnl : ∀ i, i < 1 → i < x.nL := fun i h => by rw [hnL_]; exact h
  have hw : wpO (sX11_fingers F l0 h) (fun r => r = v) := ⟨_, hs, rfl⟩
  unfold sX11_fingers at hw
  refine R_aload_n (q := 0) (i := 0) (v := (some l0)) hc dX11_fingers_0 rfl rfl ?_
  refine R_getR hc fl_11_7 dX11_fingers_1 hw (fun t1 hw => ?_)
  refine R_bipush (v := (72 : Int32)) hc dX11_fingers_4 kB_72 ?_
  refine R_iaload hc dX11_fingers_6 hw (fun t2 hw => ?_)
  exact R_ireturnP hc hret rfl hQ hw dX11_fingers_7
theorem dX11_isFinger_0 : decode cX11_isFinger 0 = .ok (.iload_n 1, 1) := by decide +kernel
theorem dX11_isFinger_1 : decode cX11_isFinger 1 = .ok (.iconst 0, 1) := by decide +kernel
theorem dX11_isFinger_2 : decode cX11_isFinger 2 = .ok (.aload_n 0, 1) := by decide +kernel
theorem dX11_isFinger_3 : decode cX11_isFinger 3 = .ok (.invokevirtual 103, 3) := by decide +kernel
theorem dX11_isFinger_6 : decode cX11_isFinger 6 = .ok (.iconst 1, 1) := by decide +kernel
theorem dX11_isFinger_7 : decode cX11_isFinger 7 = .ok (.isub, 1) := by decide +kernel
theorem dX11_isFinger_8 : decode cX11_isFinger 8 = .ok (.invokestatic 107, 3) := by decide +kernel
theorem dX11_isFinger_11 : decode cX11_isFinger 11 = .ok (.ireturn, 1) := by decide +kernel
def sX11_isFinger (F : Nat) (l0 : Nat) (l1 : Int32) (h : HP) : Option Int32 :=
  (dO h 11 (some l0)).bind fun a1 =>
  (sX11_fingers F a1 h).bind fun t2 =>
  (sX11_isIn F l1 (0 : Int32) (t2 - (1 : Int32)) h).bind fun t3 =>
  rzP t3
abbrev rm_X11_isFinger : Room := { frames := 1, cells := 0, slots := 0, locals := 22 }
set_option maxRecDepth 100000 in
set_option maxHeartbeats 4000000 in
theorem mt_X11_isFinger {w : WD} {l : Launch} {F : Nat} {l0 : Nat} {l1 : Int32} {h : HP} {v : Int32} (hs : sX11_isFinger F l0 l1 h = some v) : MI w l yX11_isFinger cX11_isFinger 2 .boolean rm_X11_isFinger 0 0 [rf w (some l0), .int l1] h v h := by
  refine of_body [(0, rf w (some l0)), (1, .int l1)] (by decide) (by simp [lg_sl, rf_cat, cat_i, cat_l, cat_a]) (by simp [lv_args, rf_cat, cat_i, cat_l, cat_a]) ?_
  intro x hw_ hnL_ hl_ hc hret hnm hQ
  subst hw_; subst hl_
  have hnl : ∀ i, i < 2 → i < x.nL := fun i h => by rw [hnL_]; exact h
  have hw : wpO (sX11_isFinger F l0 l1 h) (fun r => r = v) := ⟨_, hs, rfl⟩
  unfold sX11_isFinger at hw
  refine R_iload_n (q := 1) (i := 1) (v := l1) hc dX11_isFinger_0 rfl rfl ?_
  refine R_iconst (v := (0 : Int32)) hc dX11_isFinger_1 kI_0 ?_
  refine R_aload_n (q := 0) (i := 0) (v := (some l0)) hc dX11_isFinger_2 rfl rfl ?_
  refine R_cVI (As := []) (rest := [.int (0 : Int32), .int l1]) (r := (some l0)) (ci := 11) hc ml_11_103 mf_X11_fingers rfl (by decide) ⟨rfl, rfl⟩ ⟨le_b rfl, le_b rfl⟩ ⟨Nat.zero_le _, Nat.zero_le _⟩ (fun a v e => mt_X11_fingers e) rfl rfl (le_b rfl) dX11_isFinger_3 hw (fun t2 hw => ?_)
  refine R_iconst (v := (1 : Int32)) hc dX11_isFinger_6 kI_1 ?_
  refine R_isub hc dX11_isFinger_7 ?_
  refine R_cSI (As := [.int l1, .int (0 : Int32), .int (t2 - (1 : Int32))]) (rest := []) hc ml_11_107 mf_X11_isIn ⟨rfl, rfl⟩ ⟨le_b rfl, le_b rfl⟩ ⟨Nat.zero_le _, Nat.zero_le _⟩ (fun v e => mt_X11_isIn e) rfl rfl (Nat.zero_le _) dX11_isFinger_8 hw (fun t3 hw => ?_)
  exact R_zreturnP hc hret hQ hw dX11_isFinger_11
theorem dX11_isNet_0 : decode cX11_isNet 0 = .ok (.iload_n 0, 1) := by decide +kernel
theorem dX11_isNet_1 : decode cX11_isNet 1 = .ok (.iconst 0, 1) := by decide +kernel
theorem dX11_isNet_2 : decode cX11_isNet 2 = .ok (.bipush 11, 2) := by decide +kernel
theorem dX11_isNet_4 : decode cX11_isNet 4 = .ok (.invokestatic 107, 3) := by decide +kernel
theorem dX11_isNet_7 : decode cX11_isNet 7 = .ok (.ireturn, 1) := by decide +kernel
def sX11_isNet (F : Nat) (l0 : Int32) (h : HP) : Option Int32 :=
  (sX11_isIn F l0 (0 : Int32) (11 : Int32) h).bind fun t1 =>
  rzP t1
abbrev rm_X11_isNet : Room := { frames := 1, cells := 0, slots := 0, locals := 22 }
set_option maxRecDepth 100000 in
set_option maxHeartbeats 4000000 in
theorem mt_X11_isNet {w : WD} {l : Launch} {F : Nat} {l0 : Int32} {h : HP} {v : Int32} (hs : sX11_isNet F l0 h = some v) : MI w l yX11_isNet cX11_isNet 1 .boolean rm_X11_isNet 0 0 [.int l0] h v h := by
  refine of_body [(0, .int l0)] (by decide) (by simp [lg_sl, rf_cat, cat_i, cat_l, cat_a]) (by simp [lv_args, rf_cat, cat_i, cat_l, cat_a]) ?_
  intro x hw_ hnL_ hl_ hc hret hnm hQ
  subst hw_; subst hl_
  have hnl : ∀ i, i < 1 → i < x.nL := fun i h => by rw [hnL_]; exact h
  have hw : wpO (sX11_isNet F l0 h) (fun r => r = v) := ⟨_, hs, rfl⟩
  unfold sX11_isNet at hw
  refine R_iload_n (q := 0) (i := 0) (v := l0) hc dX11_isNet_0 rfl rfl ?_
  refine R_iconst (v := (0 : Int32)) hc dX11_isNet_1 kI_0 ?_
  refine R_bipush (v := (11 : Int32)) hc dX11_isNet_2 kB_11 ?_
  refine R_cSI (As := [.int l0, .int (0 : Int32), .int (11 : Int32)]) (rest := []) hc ml_11_107 mf_X11_isIn ⟨rfl, rfl⟩ ⟨le_b rfl, le_b rfl⟩ ⟨Nat.zero_le _, Nat.zero_le _⟩ (fun v e => mt_X11_isIn e) rfl rfl (Nat.zero_le _) dX11_isNet_4 hw (fun t1 hw => ?_)
  exact R_zreturnP hc hret hQ hw dX11_isNet_7
theorem dX11_of_0 : decode cX11_of 0 = .ok (.aload_n 0, 1) := by decide +kernel
theorem dX11_of_1 : decode cX11_of 1 = .ok (.getfield 7, 3) := by decide +kernel
theorem dX11_of_4 : decode cX11_of 4 = .ok (.iconst 5, 1) := by decide +kernel
theorem dX11_of_5 : decode cX11_of 5 = .ok (.bipush 6, 2) := by decide +kernel
theorem dX11_of_7 : decode cX11_of 7 = .ok (.aload_n 0, 1) := by decide +kernel
theorem dX11_of_8 : decode cX11_of 8 = .ok (.getfield 7, 3) := by decide +kernel
theorem dX11_of_11 : decode cX11_of 11 = .ok (.bipush 73, 2) := by decide +kernel
theorem dX11_of_13 : decode cX11_of 13 = .ok (.iload_n 1, 1) := by decide +kernel
theorem dX11_of_14 : decode cX11_of 14 = .ok (.iadd, 1) := by decide +kernel
theorem dX11_of_15 : decode cX11_of 15 = .ok (.iaload, 1) := by decide +kernel
theorem dX11_of_16 : decode cX11_of 16 = .ok (.imul, 1) := by decide +kernel
theorem dX11_of_17 : decode cX11_of 17 = .ok (.iadd, 1) := by decide +kernel
theorem dX11_of_18 : decode cX11_of 18 = .ok (.iload_n 2, 1) := by decide +kernel
theorem dX11_of_19 : decode cX11_of 19 = .ok (.iadd, 1) := by decide +kernel
theorem dX11_of_20 : decode cX11_of 20 = .ok (.iaload, 1) := by decide +kernel
theorem dX11_of_21 : decode cX11_of 21 = .ok (.ireturn, 1) := by decide +kernel
def sX11_of (F : Nat) (l0 : Nat) (l1 : Int32) (l2 : Int32) (h : HP) : Option Int32 :=
  (gR h 11 (some l0) 1).bind fun t1 =>
  (gR h 11 (some l0) 1).bind fun t2 =>
  (aI h 13 t2 ((73 : Int32) + l1)).bind fun t3 =>
  (aI h 13 t1 (((5 : Int32) + ((6 : Int32) * t3)) + l2)).bind fun t4 =>
  some t4
abbrev rm_X11_of : Room := { frames := 0, cells := 0, slots := 0, locals := 0 }
set_option maxRecDepth 100000 in
set_option maxHeartbeats 4000000 in
theorem mt_X11_of {w : WD} {l : Launch} {F : Nat} {l0 : Nat} {l1 : Int32} {l2 : Int32} {h : HP} {v : Int32} (hs : sX11_of F l0 l1 l2 h = some v) : MI w l yX11_of cX11_of 3 .int rm_X11_of 0 0 [rf w (some l0), .int l1, .int l2] h v h := by
  refine of_body [(0, rf w (some l0)), (1, .int l1), (2, .int l2)] (by decide) (by simp [lg_sl, rf_cat, cat_i, cat_l, cat_a]) (by simp [lv_args, rf_cat, cat_i, cat_l, cat_a]) ?_
  intro x hw_ hnL_ hl_ hc hret hnm hQ
  subst hw_; subst hl_
  have hnl : ∀ i, i < 3 → i < x.nL := fun i h => by rw [hnL_]; exact h
  have hw : wpO (sX11_of F l0 l1 l2 h) (fun r => r = v) := ⟨_, hs, rfl⟩
  unfold sX11_of at hw
  refine R_aload_n (q := 0) (i := 0) (v := (some l0)) hc dX11_of_0 rfl rfl ?_
  refine R_getR hc fl_11_7 dX11_of_1 hw (fun t1 hw => ?_)
  refine R_iconst (v := (5 : Int32)) hc dX11_of_4 kI_5 ?_
  refine R_bipush (v := (6 : Int32)) hc dX11_of_5 kB_6 ?_
  refine R_aload_n (q := 0) (i := 0) (v := (some l0)) hc dX11_of_7 rfl rfl ?_
  refine R_getR hc fl_11_7 dX11_of_8 hw (fun t2 hw => ?_)
  refine R_bipush (v := (73 : Int32)) hc dX11_of_11 kB_73 ?_
  refine R_iload_n (q := 1) (i := 1) (v := l1) hc dX11_of_13 rfl rfl ?_
  refine R_iadd hc dX11_of_14 ?_
  refine R_iaload hc dX11_of_15 hw (fun t3 hw => ?_)
  refine R_imul hc dX11_of_16 ?_
  refine R_iadd hc dX11_of_17 ?_
  refine R_iload_n (q := 2) (i := 2) (v := l2) hc dX11_of_18 rfl rfl ?_
  refine R_iadd hc dX11_of_19 ?_
  refine R_iaload hc dX11_of_20 hw (fun t4 hw => ?_)
  exact R_ireturnP hc hret rfl hQ hw dX11_of_21
theorem dX11_side_0 : decode cX11_side 0 = .ok (.iload_n 3, 1) := by decide +kernel
theorem dX11_side_1 : decode cX11_side 1 = .ok (.ifCond .eq 18, 3) := by decide +kernel
theorem dX11_side_4 : decode cX11_side 4 = .ok (.iload_n 2, 1) := by decide +kernel
theorem dX11_side_5 : decode cX11_side 5 = .ok (.iconst 2, 1) := by decide +kernel
theorem dX11_side_6 : decode cX11_side 6 = .ok (.irem, 1) := by decide +kernel
theorem dX11_side_7 : decode cX11_side 7 = .ok (.iconst 1, 1) := by decide +kernel
theorem dX11_side_8 : decode cX11_side 8 = .ok (.if_icmp .ne 7, 3) := by decide +kernel
theorem dX11_side_11 : decode cX11_side 11 = .ok (.iconst 1, 1) := by decide +kernel
theorem dX11_side_12 : decode cX11_side 12 = .ok (.goto 17, 3) := by decide +kernel
theorem dX11_side_15 : decode cX11_side 15 = .ok (.iconst 0, 1) := by decide +kernel
theorem dX11_side_16 : decode cX11_side 16 = .ok (.goto 13, 3) := by decide +kernel
theorem dX11_side_19 : decode cX11_side 19 = .ok (.iload_n 2, 1) := by decide +kernel
theorem dX11_side_20 : decode cX11_side 20 = .ok (.iconst 1, 1) := by decide +kernel
theorem dX11_side_21 : decode cX11_side 21 = .ok (.if_icmp .le 7, 3) := by decide +kernel
theorem dX11_side_24 : decode cX11_side 24 = .ok (.iconst 1, 1) := by decide +kernel
theorem dX11_side_25 : decode cX11_side 25 = .ok (.goto 4, 3) := by decide +kernel
theorem dX11_side_28 : decode cX11_side 28 = .ok (.iconst 0, 1) := by decide +kernel
theorem dX11_side_29 : decode cX11_side 29 = .ok (.istore 5, 2) := by decide +kernel
theorem dX11_side_31 : decode cX11_side 31 = .ok (.aload_n 0, 1) := by decide +kernel
theorem dX11_side_32 : decode cX11_side 32 = .ok (.iload_n 1, 1) := by decide +kernel
theorem dX11_side_33 : decode cX11_side 33 = .ok (.iload_n 3, 1) := by decide +kernel
theorem dX11_side_34 : decode cX11_side 34 = .ok (.ifCond .eq 7, 3) := by decide +kernel
theorem dX11_side_37 : decode cX11_side 37 = .ok (.iconst 1, 1) := by decide +kernel
theorem dX11_side_38 : decode cX11_side 38 = .ok (.goto 4, 3) := by decide +kernel
theorem dX11_side_41 : decode cX11_side 41 = .ok (.iconst 3, 1) := by decide +kernel
theorem dX11_side_42 : decode cX11_side 42 = .ok (.iload 5, 2) := by decide +kernel
theorem dX11_side_44 : decode cX11_side 44 = .ok (.iload 4, 2) := by decide +kernel
theorem dX11_side_46 : decode cX11_side 46 = .ok (.if_icmp .eq 7, 3) := by decide +kernel
theorem dX11_side_49 : decode cX11_side 49 = .ok (.iconst 1, 1) := by decide +kernel
theorem dX11_side_50 : decode cX11_side 50 = .ok (.goto 4, 3) := by decide +kernel
theorem dX11_side_53 : decode cX11_side 53 = .ok (.iconst 0, 1) := by decide +kernel
theorem dX11_side_54 : decode cX11_side 54 = .ok (.iadd, 1) := by decide +kernel
theorem dX11_side_55 : decode cX11_side 55 = .ok (.invokevirtual 111, 3) := by decide +kernel
theorem dX11_side_58 : decode cX11_side 58 = .ok (.ireturn, 1) := by decide +kernel
def sX11_side (F : Nat) (l0 : Nat) (l1 : Int32) (l2 : Int32) (l3 : Int32) (l4 : Int32) (h : HP) : Option Int32 :=
  (if l3 = 0 then
      if l2 ≤ (1 : Int32) then
        some (0 : Int32)
      else
        some (1 : Int32)
    else
      if ¬ (jrem l2 (2 : Int32)) = (1 : Int32) then
        some (0 : Int32)
      else
        some (1 : Int32)).bind fun s1 =>
  (if l3 = 0 then
      some (3 : Int32)
    else
      some (1 : Int32)).bind fun s2 =>
  if s1 = l4 then
    (dO h 11 (some l0)).bind fun a3 =>
    (sX11_of F a3 l1 (s2 + (0 : Int32)) h).bind fun t4 =>
    some t4
  else
    (dO h 11 (some l0)).bind fun a5 =>
    (sX11_of F a5 l1 (s2 + (1 : Int32)) h).bind fun t6 =>
    some t6
abbrev rm_X11_side : Room := { frames := 1, cells := 0, slots := 0, locals := 22 }
set_option maxRecDepth 100000 in
set_option maxHeartbeats 4000000 in
theorem mt_X11_side {w : WD} {l : Launch} {F : Nat} {l0 : Nat} {l1 : Int32} {l2 : Int32} {l3 : Int32} {l4 : Int32} {h : HP} {v : Int32} (hs : sX11_side F l0 l1 l2 l3 l4 h = some v) : MI w l yX11_side cX11_side 6 .int rm_X11_side 0 0 [rf w (some l0), .int l1, .int l2, .int l3, .int l4] h v h := by
  refine of_body [(0, rf w (some l0)), (1, .int l1), (2, .int l2), (3, .int l3), (4, .int l4)] (by decide) (by simp [lg_sl, rf_cat, cat_i, cat_l, cat_a]) (by simp [lv_args, rf_cat, cat_i, cat_l, cat_a]) ?_
  intro x hw_ hnL_ hl_ hc hret hnm hQ
  subst hw_; subst hl_
  have hnl : ∀ i, i < 6 → i < x.nL := fun i h => by rw [hnL_]; exact h
  have hw : wpO (sX11_side F l0 l1 l2 l3 l4 h) (fun r => r = v) := ⟨_, hs, rfl⟩
  unfold sX11_side at hw
  refine R_iload_n (q := 3) (i := 3) (v := l3) hc dX11_side_0 rfl rfl ?_
  refine R_join (fun (s1 : Int32) => Rn x 0 0 29 [(0, rf x.w (some l0)), (1, .int l1), (3, .int l3), (4, .int l4)] [.int s1] h) hw (fun r hw => ?_) (fun hw => ?_)
  · revert r hw
    intro s1 hw
    show Rn x 0 0 29 [(0, rf x.w (some l0)), (1, .int l1), (3, .int l3), (4, .int l4)] [.int s1] h
    refine R_istore (i := 5) (v := s1) hc [(5, .int s1), (0, rf x.w (some l0)), (1, .int l1), (3, .int l3), (4, .int l4)] dX11_side_29 (hnl 5 (le_b rfl)) rfl ?_
    refine R_aload_n (q := 1) (i := 0) (v := (some l0)) hc dX11_side_31 rfl rfl ?_
    refine R_iload_n (q := 2) (i := 1) (v := l1) hc dX11_side_32 rfl rfl ?_
    refine R_iload_n (q := 3) (i := 3) (v := l3) hc dX11_side_33 rfl rfl ?_
    refine R_join (fun (s2 : Int32) => Rn x 0 0 42 [(4, .int l4), (5, .int s1)] [.int s2, .int l1, rf x.w (some l0)] h) hw (fun r hw => ?_) (fun hw => ?_)
    · revert r hw
      intro s2 hw
      show Rn x 0 0 42 [(4, .int l4), (5, .int s1)] [.int s2, .int l1, rf x.w (some l0)] h
      refine R_iload (q := 1) (i := 5) (v := s1) hc dX11_side_42 rfl ?_
      refine R_iload (q := 0) (i := 4) (v := l4) hc dX11_side_44 rfl ?_
      refine R_icmp_eq (tgt := 53) hc dX11_side_46 (by decide) hw (fun hw => ?_) (fun hw => ?_)
      · refine R_iconst (v := (0 : Int32)) hc dX11_side_53 kI_0 ?_
        refine R_iadd hc dX11_side_54 ?_
        refine R_cVI (As := [.int l1, .int (s2 + (0 : Int32))]) (rest := []) (r := (some l0)) (ci := 11) hc ml_11_111 mf_X11_of rfl (by decide) ⟨rfl, rfl⟩ ⟨le_b rfl, le_b rfl⟩ ⟨Nat.zero_le _, Nat.zero_le _⟩ (fun a v e => mt_X11_of e) rfl rfl (Nat.zero_le _) dX11_side_55 hw (fun t4 hw => ?_)
        exact R_ireturnP hc hret rfl hQ hw dX11_side_58
      · refine R_iconst (v := (1 : Int32)) hc dX11_side_49 kI_1 ?_
        refine R_goto (tgt := 54) hc dX11_side_50 (by decide) ?_
        refine R_iadd hc dX11_side_54 ?_
        refine R_cVI (As := [.int l1, .int (s2 + (1 : Int32))]) (rest := []) (r := (some l0)) (ci := 11) hc ml_11_111 mf_X11_of rfl (by decide) ⟨rfl, rfl⟩ ⟨le_b rfl, le_b rfl⟩ ⟨Nat.zero_le _, Nat.zero_le _⟩ (fun a v e => mt_X11_of e) rfl rfl (Nat.zero_le _) dX11_side_55 hw (fun t6 hw => ?_)
        exact R_ireturnP hc hret rfl hQ hw dX11_side_58
    · refine R_if_eq (tgt := 41) hc dX11_side_34 (by decide) hw (fun hw => ?_) (fun hw => ?_)
      · refine R_iconst (v := (3 : Int32)) hc dX11_side_41 kI_3 ?_
        refine R_sub hc [4, 0] rfl ?_
        exact (wpO_some hw :)
      · refine R_iconst (v := (1 : Int32)) hc dX11_side_37 kI_1 ?_
        refine R_goto (tgt := 42) hc dX11_side_38 (by decide) ?_
        refine R_sub hc [4, 0] rfl ?_
        exact (wpO_some hw :)
  · refine R_if_eq (tgt := 19) hc dX11_side_1 (by decide) hw (fun hw => ?_) (fun hw => ?_)
    · refine R_iload_n (q := 2) (i := 2) (v := l2) hc dX11_side_19 rfl rfl ?_
      refine R_iconst (v := (1 : Int32)) hc dX11_side_20 kI_1 ?_
      refine R_icmp_le (tgt := 28) hc dX11_side_21 (by decide) hw (fun hw => ?_) (fun hw => ?_)
      · refine R_iconst (v := (0 : Int32)) hc dX11_side_28 kI_0 ?_
        refine R_sub hc [0, 1, 3, 4] rfl ?_
        exact (wpO_some hw :)
      · refine R_iconst (v := (1 : Int32)) hc dX11_side_24 kI_1 ?_
        refine R_goto (tgt := 29) hc dX11_side_25 (by decide) ?_
        refine R_sub hc [0, 1, 3, 4] rfl ?_
        exact (wpO_some hw :)
    · refine R_iload_n (q := 2) (i := 2) (v := l2) hc dX11_side_4 rfl rfl ?_
      refine R_iconst (v := (2 : Int32)) hc dX11_side_5 kI_2 ?_
      refine R_iremL hc dX11_side_6 (by decide) ?_
      refine R_iconst (v := (1 : Int32)) hc dX11_side_7 kI_1 ?_
      refine R_icmp_ne (tgt := 15) hc dX11_side_8 (by decide) hw (fun hw => ?_) (fun hw => ?_)
      · refine R_iconst (v := (0 : Int32)) hc dX11_side_15 kI_0 ?_
        refine R_goto (tgt := 29) hc dX11_side_16 (by decide) ?_
        refine R_sub hc [0, 1, 3, 4] rfl ?_
        exact (wpO_some hw :)
      · refine R_iconst (v := (1 : Int32)) hc dX11_side_11 kI_1 ?_
        refine R_goto (tgt := 29) hc dX11_side_12 (by decide) ?_
        refine R_sub hc [0, 1, 3, 4] rfl ?_
        exact (wpO_some hw :)
theorem dX11_meets_0 : decode cX11_meets 0 = .ok (.aload_n 0, 1) := by decide +kernel
theorem dX11_meets_1 : decode cX11_meets 1 = .ok (.iload_n 1, 1) := by decide +kernel
theorem dX11_meets_2 : decode cX11_meets 2 = .ok (.iload_n 2, 1) := by decide +kernel
theorem dX11_meets_3 : decode cX11_meets 3 = .ok (.iload 5, 2) := by decide +kernel
theorem dX11_meets_5 : decode cX11_meets 5 = .ok (.iconst 1, 1) := by decide +kernel
theorem dX11_meets_6 : decode cX11_meets 6 = .ok (.invokevirtual 115, 3) := by decide +kernel
theorem dX11_meets_9 : decode cX11_meets 9 = .ok (.aload_n 0, 1) := by decide +kernel
theorem dX11_meets_10 : decode cX11_meets 10 = .ok (.iload_n 3, 1) := by decide +kernel
theorem dX11_meets_11 : decode cX11_meets 11 = .ok (.iload 4, 2) := by decide +kernel
theorem dX11_meets_13 : decode cX11_meets 13 = .ok (.iload 5, 2) := by decide +kernel
theorem dX11_meets_15 : decode cX11_meets 15 = .ok (.iconst 0, 1) := by decide +kernel
theorem dX11_meets_16 : decode cX11_meets 16 = .ok (.invokevirtual 115, 3) := by decide +kernel
theorem dX11_meets_19 : decode cX11_meets 19 = .ok (.if_icmp .ne 7, 3) := by decide +kernel
theorem dX11_meets_22 : decode cX11_meets 22 = .ok (.iconst 1, 1) := by decide +kernel
theorem dX11_meets_23 : decode cX11_meets 23 = .ok (.goto 4, 3) := by decide +kernel
theorem dX11_meets_26 : decode cX11_meets 26 = .ok (.iconst 0, 1) := by decide +kernel
theorem dX11_meets_27 : decode cX11_meets 27 = .ok (.ireturn, 1) := by decide +kernel
def sX11_meets (F : Nat) (l0 : Nat) (l1 : Int32) (l2 : Int32) (l3 : Int32) (l4 : Int32) (l5 : Int32) (h : HP) : Option Int32 :=
  (dO h 11 (some l0)).bind fun a1 =>
  (sX11_side F a1 l1 l2 l5 (1 : Int32) h).bind fun t2 =>
  (dO h 11 (some l0)).bind fun a3 =>
  (sX11_side F a3 l3 l4 l5 (0 : Int32) h).bind fun t4 =>
  if ¬ t2 = t4 then
    some (0 : Int32)
  else
    some (1 : Int32)
abbrev rm_X11_meets : Room := { frames := 2, cells := 0, slots := 0, locals := 47 }
set_option maxRecDepth 100000 in
set_option maxHeartbeats 4000000 in
theorem mt_X11_meets {w : WD} {l : Launch} {F : Nat} {l0 : Nat} {l1 : Int32} {l2 : Int32} {l3 : Int32} {l4 : Int32} {l5 : Int32} {h : HP} {v : Int32} (hs : sX11_meets F l0 l1 l2 l3 l4 l5 h = some v) : MI w l yX11_meets cX11_meets 6 .boolean rm_X11_meets 0 0 [rf w (some l0), .int l1, .int l2, .int l3, .int l4, .int l5] h v h := by
  refine of_body [(0, rf w (some l0)), (1, .int l1), (2, .int l2), (3, .int l3), (4, .int l4), (5, .int l5)] (by decide) (by simp [lg_sl, rf_cat, cat_i, cat_l, cat_a]) (by simp [lv_args, rf_cat, cat_i, cat_l, cat_a]) ?_
  intro x hw_ hnL_ hl_ hc hret hnm hQ
  subst hw_; subst hl_
  have hnl : ∀ i, i < 6 → i < x.nL := fun i h => by rw [hnL_]; exact h
  have hw : wpO (sX11_meets F l0 l1 l2 l3 l4 l5 h) (fun r => r = v) := ⟨_, hs, rfl⟩
  unfold sX11_meets at hw
  refine R_aload_n (q := 0) (i := 0) (v := (some l0)) hc dX11_meets_0 rfl rfl ?_
  refine R_iload_n (q := 1) (i := 1) (v := l1) hc dX11_meets_1 rfl rfl ?_
  refine R_iload_n (q := 2) (i := 2) (v := l2) hc dX11_meets_2 rfl rfl ?_
  refine R_iload (q := 5) (i := 5) (v := l5) hc dX11_meets_3 rfl ?_
  refine R_iconst (v := (1 : Int32)) hc dX11_meets_5 kI_1 ?_
  refine R_cVI (As := [.int l1, .int l2, .int l5, .int (1 : Int32)]) (rest := []) (r := (some l0)) (ci := 11) hc ml_11_115 mf_X11_side rfl (by decide) ⟨rfl, rfl⟩ ⟨le_b rfl, le_b rfl⟩ ⟨Nat.zero_le _, Nat.zero_le _⟩ (fun a v e => mt_X11_side e) rfl rfl (Nat.zero_le _) dX11_meets_6 hw (fun t2 hw => ?_)
  refine R_aload_n (q := 0) (i := 0) (v := (some l0)) hc dX11_meets_9 rfl rfl ?_
  refine R_iload_n (q := 3) (i := 3) (v := l3) hc dX11_meets_10 rfl rfl ?_
  refine R_iload (q := 4) (i := 4) (v := l4) hc dX11_meets_11 rfl ?_
  refine R_iload (q := 5) (i := 5) (v := l5) hc dX11_meets_13 rfl ?_
  refine R_iconst (v := (0 : Int32)) hc dX11_meets_15 kI_0 ?_
  refine R_cVI (As := [.int l3, .int l4, .int l5, .int (0 : Int32)]) (rest := [.int t2]) (r := (some l0)) (ci := 11) hc ml_11_115 mf_X11_side rfl (by decide) ⟨rfl, rfl⟩ ⟨le_b rfl, le_b rfl⟩ ⟨Nat.zero_le _, Nat.zero_le _⟩ (fun a v e => mt_X11_side e) rfl rfl (le_b rfl) dX11_meets_16 hw (fun t4 hw => ?_)
  refine R_icmp_ne (tgt := 26) hc dX11_meets_19 (by decide) hw (fun hw => ?_) (fun hw => ?_)
  · refine R_iconst (v := (0 : Int32)) hc dX11_meets_26 kI_0 ?_
    exact R_ireturnP hc hret rfl hQ hw dX11_meets_27
  · refine R_iconst (v := (1 : Int32)) hc dX11_meets_22 kI_1 ?_
    refine R_goto (tgt := 27) hc dX11_meets_23 (by decide) ?_
    exact R_ireturnP hc hret rfl hQ hw dX11_meets_27
theorem dX11_lacks_0 : decode cX11_lacks 0 = .ok (.aload_n 0, 1) := by decide +kernel
theorem dX11_lacks_1 : decode cX11_lacks 1 = .ok (.iload_n 1, 1) := by decide +kernel
theorem dX11_lacks_2 : decode cX11_lacks 2 = .ok (.iload_n 2, 1) := by decide +kernel
theorem dX11_lacks_3 : decode cX11_lacks 3 = .ok (.iload_n 3, 1) := by decide +kernel
theorem dX11_lacks_4 : decode cX11_lacks 4 = .ok (.iload 4, 2) := by decide +kernel
theorem dX11_lacks_6 : decode cX11_lacks 6 = .ok (.iconst 1, 1) := by decide +kernel
theorem dX11_lacks_7 : decode cX11_lacks 7 = .ok (.invokevirtual 119, 3) := by decide +kernel
theorem dX11_lacks_10 : decode cX11_lacks 10 = .ok (.ifCond .eq 7, 3) := by decide +kernel
theorem dX11_lacks_13 : decode cX11_lacks 13 = .ok (.iconst 0, 1) := by decide +kernel
theorem dX11_lacks_14 : decode cX11_lacks 14 = .ok (.goto 4, 3) := by decide +kernel
theorem dX11_lacks_17 : decode cX11_lacks 17 = .ok (.iconst 1, 1) := by decide +kernel
theorem dX11_lacks_18 : decode cX11_lacks 18 = .ok (.aload_n 0, 1) := by decide +kernel
theorem dX11_lacks_19 : decode cX11_lacks 19 = .ok (.iload_n 1, 1) := by decide +kernel
theorem dX11_lacks_20 : decode cX11_lacks 20 = .ok (.iload_n 2, 1) := by decide +kernel
theorem dX11_lacks_21 : decode cX11_lacks 21 = .ok (.iload_n 3, 1) := by decide +kernel
theorem dX11_lacks_22 : decode cX11_lacks 22 = .ok (.iload 4, 2) := by decide +kernel
theorem dX11_lacks_24 : decode cX11_lacks 24 = .ok (.iconst 0, 1) := by decide +kernel
theorem dX11_lacks_25 : decode cX11_lacks 25 = .ok (.invokevirtual 119, 3) := by decide +kernel
theorem dX11_lacks_28 : decode cX11_lacks 28 = .ok (.ifCond .eq 7, 3) := by decide +kernel
theorem dX11_lacks_31 : decode cX11_lacks 31 = .ok (.iconst 0, 1) := by decide +kernel
theorem dX11_lacks_32 : decode cX11_lacks 32 = .ok (.goto 4, 3) := by decide +kernel
theorem dX11_lacks_35 : decode cX11_lacks 35 = .ok (.iconst 1, 1) := by decide +kernel
theorem dX11_lacks_36 : decode cX11_lacks 36 = .ok (.iadd, 1) := by decide +kernel
theorem dX11_lacks_37 : decode cX11_lacks 37 = .ok (.ireturn, 1) := by decide +kernel
def sX11_lacks (F : Nat) (l0 : Nat) (l1 : Int32) (l2 : Int32) (l3 : Int32) (l4 : Int32) (h : HP) : Option Int32 :=
  (dO h 11 (some l0)).bind fun a1 =>
  (sX11_meets F a1 l1 l2 l3 l4 (1 : Int32) h).bind fun t2 =>
  (if t2 = 0 then
      some (1 : Int32)
    else
      some (0 : Int32)).bind fun s3 =>
  (dO h 11 (some l0)).bind fun a4 =>
  (sX11_meets F a4 l1 l2 l3 l4 (0 : Int32) h).bind fun t5 =>
  if t5 = 0 then
    some (s3 + (1 : Int32))
  else
    some (s3 + (0 : Int32))
abbrev rm_X11_lacks : Room := { frames := 3, cells := 0, slots := 0, locals := 72 }
set_option maxRecDepth 100000 in
set_option maxHeartbeats 4000000 in
theorem mt_X11_lacks {w : WD} {l : Launch} {F : Nat} {l0 : Nat} {l1 : Int32} {l2 : Int32} {l3 : Int32} {l4 : Int32} {h : HP} {v : Int32} (hs : sX11_lacks F l0 l1 l2 l3 l4 h = some v) : MI w l yX11_lacks cX11_lacks 5 .int rm_X11_lacks 0 0 [rf w (some l0), .int l1, .int l2, .int l3, .int l4] h v h := by
  refine of_body [(0, rf w (some l0)), (1, .int l1), (2, .int l2), (3, .int l3), (4, .int l4)] (by decide) (by simp [lg_sl, rf_cat, cat_i, cat_l, cat_a]) (by simp [lv_args, rf_cat, cat_i, cat_l, cat_a]) ?_
  intro x hw_ hnL_ hl_ hc hret hnm hQ
  subst hw_; subst hl_
  have hnl : ∀ i, i < 5 → i < x.nL := fun i h => by rw [hnL_]; exact h
  have hw : wpO (sX11_lacks F l0 l1 l2 l3 l4 h) (fun r => r = v) := ⟨_, hs, rfl⟩
  unfold sX11_lacks at hw
  refine R_aload_n (q := 0) (i := 0) (v := (some l0)) hc dX11_lacks_0 rfl rfl ?_
  refine R_iload_n (q := 1) (i := 1) (v := l1) hc dX11_lacks_1 rfl rfl ?_
  refine R_iload_n (q := 2) (i := 2) (v := l2) hc dX11_lacks_2 rfl rfl ?_
  refine R_iload_n (q := 3) (i := 3) (v := l3) hc dX11_lacks_3 rfl rfl ?_
  refine R_iload (q := 4) (i := 4) (v := l4) hc dX11_lacks_4 rfl ?_
  refine R_iconst (v := (1 : Int32)) hc dX11_lacks_6 kI_1 ?_
  refine R_cVI (As := [.int l1, .int l2, .int l3, .int l4, .int (1 : Int32)]) (rest := []) (r := (some l0)) (ci := 11) hc ml_11_119 mf_X11_meets rfl (by decide) ⟨rfl, rfl⟩ ⟨le_b rfl, le_b rfl⟩ ⟨Nat.zero_le _, Nat.zero_le _⟩ (fun a v e => mt_X11_meets e) rfl rfl (Nat.zero_le _) dX11_lacks_7 hw (fun t2 hw => ?_)
  refine R_join (fun (s3 : Int32) => Rn x 0 0 18 [(0, rf x.w (some l0)), (1, .int l1), (2, .int l2), (3, .int l3), (4, .int l4)] [.int s3] h) hw (fun r hw => ?_) (fun hw => ?_)
  · revert r hw
    intro s3 hw
    show Rn x 0 0 18 [(0, rf x.w (some l0)), (1, .int l1), (2, .int l2), (3, .int l3), (4, .int l4)] [.int s3] h
    refine R_aload_n (q := 0) (i := 0) (v := (some l0)) hc dX11_lacks_18 rfl rfl ?_
    refine R_iload_n (q := 1) (i := 1) (v := l1) hc dX11_lacks_19 rfl rfl ?_
    refine R_iload_n (q := 2) (i := 2) (v := l2) hc dX11_lacks_20 rfl rfl ?_
    refine R_iload_n (q := 3) (i := 3) (v := l3) hc dX11_lacks_21 rfl rfl ?_
    refine R_iload (q := 4) (i := 4) (v := l4) hc dX11_lacks_22 rfl ?_
    refine R_iconst (v := (0 : Int32)) hc dX11_lacks_24 kI_0 ?_
    refine R_cVI (As := [.int l1, .int l2, .int l3, .int l4, .int (0 : Int32)]) (rest := [.int s3]) (r := (some l0)) (ci := 11) hc ml_11_119 mf_X11_meets rfl (by decide) ⟨rfl, rfl⟩ ⟨le_b rfl, le_b rfl⟩ ⟨Nat.zero_le _, Nat.zero_le _⟩ (fun a v e => mt_X11_meets e) rfl rfl (le_b rfl) dX11_lacks_25 hw (fun t5 hw => ?_)
    refine R_if_eq (tgt := 35) hc dX11_lacks_28 (by decide) hw (fun hw => ?_) (fun hw => ?_)
    · refine R_iconst (v := (1 : Int32)) hc dX11_lacks_35 kI_1 ?_
      refine R_iadd hc dX11_lacks_36 ?_
      exact R_ireturnP hc hret rfl hQ hw dX11_lacks_37
    · refine R_iconst (v := (0 : Int32)) hc dX11_lacks_31 kI_0 ?_
      refine R_goto (tgt := 36) hc dX11_lacks_32 (by decide) ?_
      refine R_iadd hc dX11_lacks_36 ?_
      exact R_ireturnP hc hret rfl hQ hw dX11_lacks_37
  · refine R_if_eq (tgt := 17) hc dX11_lacks_10 (by decide) hw (fun hw => ?_) (fun hw => ?_)
    · refine R_iconst (v := (1 : Int32)) hc dX11_lacks_17 kI_1 ?_
      refine R_sub hc [0, 1, 2, 3, 4] rfl ?_
      exact (wpO_some hw :)
    · refine R_iconst (v := (0 : Int32)) hc dX11_lacks_13 kI_0 ?_
      refine R_goto (tgt := 18) hc dX11_lacks_14 (by decide) ?_
      refine R_sub hc [0, 1, 2, 3, 4] rfl ?_
      exact (wpO_some hw :)
theorem dX11_state_0 : decode cX11_state 0 = .ok (.bipush 32, 2) := by decide +kernel
theorem dX11_state_2 : decode cX11_state 2 = .ok (.iload_n 0, 1) := by decide +kernel
theorem dX11_state_3 : decode cX11_state 3 = .ok (.imul, 1) := by decide +kernel
theorem dX11_state_4 : decode cX11_state 4 = .ok (.iconst 4, 1) := by decide +kernel
theorem dX11_state_5 : decode cX11_state 5 = .ok (.iload_n 1, 1) := by decide +kernel
theorem dX11_state_6 : decode cX11_state 6 = .ok (.imul, 1) := by decide +kernel
theorem dX11_state_7 : decode cX11_state 7 = .ok (.iadd, 1) := by decide +kernel
theorem dX11_state_8 : decode cX11_state 8 = .ok (.iload_n 2, 1) := by decide +kernel
theorem dX11_state_9 : decode cX11_state 9 = .ok (.iadd, 1) := by decide +kernel
theorem dX11_state_10 : decode cX11_state 10 = .ok (.ireturn, 1) := by decide +kernel
def sX11_state (F : Nat) (l0 : Int32) (l1 : Int32) (l2 : Int32) (h : HP) : Option Int32 :=
  some ((((32 : Int32) * l0) + ((4 : Int32) * l1)) + l2)
abbrev rm_X11_state : Room := { frames := 0, cells := 0, slots := 0, locals := 0 }
set_option maxRecDepth 100000 in
set_option maxHeartbeats 4000000 in
theorem mt_X11_state {w : WD} {l : Launch} {F : Nat} {l0 : Int32} {l1 : Int32} {l2 : Int32} {h : HP} {v : Int32} (hs : sX11_state F l0 l1 l2 h = some v) : MI w l yX11_state cX11_state 3 .int rm_X11_state 0 0 [.int l0, .int l1, .int l2] h v h := by
  refine of_body [(0, .int l0), (1, .int l1), (2, .int l2)] (by decide) (by simp [lg_sl, rf_cat, cat_i, cat_l, cat_a]) (by simp [lv_args, rf_cat, cat_i, cat_l, cat_a]) ?_
  intro x hw_ hnL_ hl_ hc hret hnm hQ
  subst hw_; subst hl_
  have hnl : ∀ i, i < 3 → i < x.nL := fun i h => by rw [hnL_]; exact h
  have hw : wpO (sX11_state F l0 l1 l2 h) (fun r => r = v) := ⟨_, hs, rfl⟩
  unfold sX11_state at hw
  refine R_bipush (v := (32 : Int32)) hc dX11_state_0 kB_32 ?_
  refine R_iload_n (q := 0) (i := 0) (v := l0) hc dX11_state_2 rfl rfl ?_
  refine R_imul hc dX11_state_3 ?_
  refine R_iconst (v := (4 : Int32)) hc dX11_state_4 kI_4 ?_
  refine R_iload_n (q := 1) (i := 1) (v := l1) hc dX11_state_5 rfl rfl ?_
  refine R_imul hc dX11_state_6 ?_
  refine R_iadd hc dX11_state_7 ?_
  refine R_iload_n (q := 2) (i := 2) (v := l2) hc dX11_state_8 rfl rfl ?_
  refine R_iadd hc dX11_state_9 ?_
  exact R_ireturnP hc hret rfl hQ hw dX11_state_10
theorem dX11_laysState_0 : decode cX11_laysState 0 = .ok (.iload_n 1, 1) := by decide +kernel
theorem dX11_laysState_1 : decode cX11_laysState 1 = .ok (.iload_n 2, 1) := by decide +kernel
theorem dX11_laysState_2 : decode cX11_laysState 2 = .ok (.iload_n 3, 1) := by decide +kernel
theorem dX11_laysState_3 : decode cX11_laysState 3 = .ok (.invokestatic 123, 3) := by decide +kernel
theorem dX11_laysState_6 : decode cX11_laysState 6 = .ok (.istore 5, 2) := by decide +kernel
theorem dX11_laysState_8 : decode cX11_laysState 8 = .ok (.iload_n 1, 1) := by decide +kernel
theorem dX11_laysState_9 : decode cX11_laysState 9 = .ok (.iconst 1, 1) := by decide +kernel
theorem dX11_laysState_10 : decode cX11_laysState 10 = .ok (.aload_n 0, 1) := by decide +kernel
theorem dX11_laysState_11 : decode cX11_laysState 11 = .ok (.invokevirtual 103, 3) := by decide +kernel
theorem dX11_laysState_14 : decode cX11_laysState 14 = .ok (.ishl, 1) := by decide +kernel
theorem dX11_laysState_15 : decode cX11_laysState 15 = .ok (.iconst 1, 1) := by decide +kernel
theorem dX11_laysState_16 : decode cX11_laysState 16 = .ok (.isub, 1) := by decide +kernel
theorem dX11_laysState_17 : decode cX11_laysState 17 = .ok (.if_icmp .ne 7, 3) := by decide +kernel
theorem dX11_laysState_20 : decode cX11_laysState 20 = .ok (.iconst 1, 1) := by decide +kernel
theorem dX11_laysState_21 : decode cX11_laysState 21 = .ok (.goto 4, 3) := by decide +kernel
theorem dX11_laysState_24 : decode cX11_laysState 24 = .ok (.iconst 0, 1) := by decide +kernel
theorem dX11_laysState_25 : decode cX11_laysState 25 = .ok (.istore 6, 2) := by decide +kernel
theorem dX11_laysState_27 : decode cX11_laysState 27 = .ok (.aload_n 0, 1) := by decide +kernel
theorem dX11_laysState_28 : decode cX11_laysState 28 = .ok (.getfield 29, 3) := by decide +kernel
theorem dX11_laysState_31 : decode cX11_laysState 31 = .ok (.iload 5, 2) := by decide +kernel
theorem dX11_laysState_33 : decode cX11_laysState 33 = .ok (.iload 6, 2) := by decide +kernel
theorem dX11_laysState_35 : decode cX11_laysState 35 = .ok (.ifCond .eq 19, 3) := by decide +kernel
theorem dX11_laysState_38 : decode cX11_laysState 38 = .ok (.iload 4, 2) := by decide +kernel
theorem dX11_laysState_40 : decode cX11_laysState 40 = .ok (.iconst (-1), 1) := by decide +kernel
theorem dX11_laysState_41 : decode cX11_laysState 41 = .ok (.if_icmp .eq 9, 3) := by decide +kernel
theorem dX11_laysState_44 : decode cX11_laysState 44 = .ok (.iload 4, 2) := by decide +kernel
theorem dX11_laysState_46 : decode cX11_laysState 46 = .ok (.iload_n 2, 1) := by decide +kernel
theorem dX11_laysState_47 : decode cX11_laysState 47 = .ok (.if_icmp .ne 7, 3) := by decide +kernel
theorem dX11_laysState_50 : decode cX11_laysState 50 = .ok (.iconst 0, 1) := by decide +kernel
theorem dX11_laysState_51 : decode cX11_laysState 51 = .ok (.goto 6, 3) := by decide +kernel
theorem dX11_laysState_54 : decode cX11_laysState 54 = .ok (.sipush 1000, 3) := by decide +kernel
theorem dX11_laysState_57 : decode cX11_laysState 57 = .ok (.iastore, 1) := by decide +kernel
theorem dX11_laysState_58 : decode cX11_laysState 58 = .ok (.aload_n 0, 1) := by decide +kernel
theorem dX11_laysState_59 : decode cX11_laysState 59 = .ok (.getfield 32, 3) := by decide +kernel
theorem dX11_laysState_62 : decode cX11_laysState 62 = .ok (.iload 5, 2) := by decide +kernel
theorem dX11_laysState_64 : decode cX11_laysState 64 = .ok (.aload_n 0, 1) := by decide +kernel
theorem dX11_laysState_65 : decode cX11_laysState 65 = .ok (.getfield 29, 3) := by decide +kernel
theorem dX11_laysState_68 : decode cX11_laysState 68 = .ok (.iload 5, 2) := by decide +kernel
theorem dX11_laysState_70 : decode cX11_laysState 70 = .ok (.iaload, 1) := by decide +kernel
theorem dX11_laysState_71 : decode cX11_laysState 71 = .ok (.ifCond .ne 7, 3) := by decide +kernel
theorem dX11_laysState_74 : decode cX11_laysState 74 = .ok (.lconst 1, 1) := by decide +kernel
theorem dX11_laysState_75 : decode cX11_laysState 75 = .ok (.goto 4, 3) := by decide +kernel
theorem dX11_laysState_78 : decode cX11_laysState 78 = .ok (.lconst 0, 1) := by decide +kernel
theorem dX11_laysState_79 : decode cX11_laysState 79 = .ok (.lastore, 1) := by decide +kernel
theorem dX11_laysState_80 : decode cX11_laysState 80 = .ok (.aload_n 0, 1) := by decide +kernel
theorem dX11_laysState_81 : decode cX11_laysState 81 = .ok (.getfield 36, 3) := by decide +kernel
theorem dX11_laysState_84 : decode cX11_laysState 84 = .ok (.iload 5, 2) := by decide +kernel
theorem dX11_laysState_86 : decode cX11_laysState 86 = .ok (.iconst 0, 1) := by decide +kernel
theorem dX11_laysState_87 : decode cX11_laysState 87 = .ok (.iastore, 1) := by decide +kernel
theorem dX11_laysState_88 : decode cX11_laysState 88 = .ok (.iconst 0, 1) := by decide +kernel
theorem dX11_laysState_89 : decode cX11_laysState 89 = .ok (.istore 7, 2) := by decide +kernel
theorem dX11_laysState_91 : decode cX11_laysState 91 = .ok (.iload 7, 2) := by decide +kernel
theorem dX11_laysState_93 : decode cX11_laysState 93 = .ok (.aload_n 0, 1) := by decide +kernel
theorem dX11_laysState_94 : decode cX11_laysState 94 = .ok (.invokevirtual 103, 3) := by decide +kernel
theorem dX11_laysState_97 : decode cX11_laysState 97 = .ok (.if_icmp .ge 195, 3) := by decide +kernel
theorem dX11_laysState_100 : decode cX11_laysState 100 = .ok (.iload_n 1, 1) := by decide +kernel
theorem dX11_laysState_101 : decode cX11_laysState 101 = .ok (.iload 7, 2) := by decide +kernel
theorem dX11_laysState_103 : decode cX11_laysState 103 = .ok (.ishr, 1) := by decide +kernel
theorem dX11_laysState_104 : decode cX11_laysState 104 = .ok (.iconst 1, 1) := by decide +kernel
theorem dX11_laysState_105 : decode cX11_laysState 105 = .ok (.iand, 1) := by decide +kernel
theorem dX11_laysState_106 : decode cX11_laysState 106 = .ok (.iconst 1, 1) := by decide +kernel
theorem dX11_laysState_107 : decode cX11_laysState 107 = .ok (.if_icmp .ne 6, 3) := by decide +kernel
theorem dX11_laysState_110 : decode cX11_laysState 110 = .ok (.goto 176, 3) := by decide +kernel
theorem dX11_laysState_113 : decode cX11_laysState 113 = .ok (.iconst 0, 1) := by decide +kernel
theorem dX11_laysState_114 : decode cX11_laysState 114 = .ok (.istore 8, 2) := by decide +kernel
theorem dX11_laysState_116 : decode cX11_laysState 116 = .ok (.iload 8, 2) := by decide +kernel
theorem dX11_laysState_118 : decode cX11_laysState 118 = .ok (.iconst 4, 1) := by decide +kernel
theorem dX11_laysState_119 : decode cX11_laysState 119 = .ok (.if_icmp .ge 167, 3) := by decide +kernel
theorem dX11_laysState_122 : decode cX11_laysState 122 = .ok (.iload_n 1, 1) := by decide +kernel
theorem dX11_laysState_123 : decode cX11_laysState 123 = .ok (.iconst 1, 1) := by decide +kernel
theorem dX11_laysState_124 : decode cX11_laysState 124 = .ok (.iload 7, 2) := by decide +kernel
theorem dX11_laysState_126 : decode cX11_laysState 126 = .ok (.ishl, 1) := by decide +kernel
theorem dX11_laysState_127 : decode cX11_laysState 127 = .ok (.ior, 1) := by decide +kernel
theorem dX11_laysState_128 : decode cX11_laysState 128 = .ok (.iload 7, 2) := by decide +kernel
theorem dX11_laysState_130 : decode cX11_laysState 130 = .ok (.iload 8, 2) := by decide +kernel
theorem dX11_laysState_132 : decode cX11_laysState 132 = .ok (.invokestatic 123, 3) := by decide +kernel
theorem dX11_laysState_135 : decode cX11_laysState 135 = .ok (.istore 9, 2) := by decide +kernel
theorem dX11_laysState_137 : decode cX11_laysState 137 = .ok (.aload_n 0, 1) := by decide +kernel
theorem dX11_laysState_138 : decode cX11_laysState 138 = .ok (.iload_n 2, 1) := by decide +kernel
theorem dX11_laysState_139 : decode cX11_laysState 139 = .ok (.iload_n 3, 1) := by decide +kernel
theorem dX11_laysState_140 : decode cX11_laysState 140 = .ok (.iload 7, 2) := by decide +kernel
theorem dX11_laysState_142 : decode cX11_laysState 142 = .ok (.iload 8, 2) := by decide +kernel
theorem dX11_laysState_144 : decode cX11_laysState 144 = .ok (.invokevirtual 127, 3) := by decide +kernel
theorem dX11_laysState_147 : decode cX11_laysState 147 = .ok (.istore 10, 2) := by decide +kernel
theorem dX11_laysState_149 : decode cX11_laysState 149 = .ok (.aload_n 0, 1) := by decide +kernel
theorem dX11_laysState_150 : decode cX11_laysState 150 = .ok (.getfield 29, 3) := by decide +kernel
theorem dX11_laysState_153 : decode cX11_laysState 153 = .ok (.iload 9, 2) := by decide +kernel
theorem dX11_laysState_155 : decode cX11_laysState 155 = .ok (.iaload, 1) := by decide +kernel
theorem dX11_laysState_156 : decode cX11_laysState 156 = .ok (.iload 10, 2) := by decide +kernel
theorem dX11_laysState_158 : decode cX11_laysState 158 = .ok (.ifCond .le 7, 3) := by decide +kernel
theorem dX11_laysState_161 : decode cX11_laysState 161 = .ok (.iconst 1, 1) := by decide +kernel
theorem dX11_laysState_162 : decode cX11_laysState 162 = .ok (.goto 4, 3) := by decide +kernel
theorem dX11_laysState_165 : decode cX11_laysState 165 = .ok (.iconst 0, 1) := by decide +kernel
theorem dX11_laysState_166 : decode cX11_laysState 166 = .ok (.iadd, 1) := by decide +kernel
theorem dX11_laysState_167 : decode cX11_laysState 167 = .ok (.istore 11, 2) := by decide +kernel
theorem dX11_laysState_169 : decode cX11_laysState 169 = .ok (.aload_n 0, 1) := by decide +kernel
theorem dX11_laysState_170 : decode cX11_laysState 170 = .ok (.getfield 29, 3) := by decide +kernel
theorem dX11_laysState_173 : decode cX11_laysState 173 = .ok (.iload 9, 2) := by decide +kernel
theorem dX11_laysState_175 : decode cX11_laysState 175 = .ok (.iaload, 1) := by decide +kernel
theorem dX11_laysState_176 : decode cX11_laysState 176 = .ok (.sipush 1000, 3) := by decide +kernel
theorem dX11_laysState_179 : decode cX11_laysState 179 = .ok (.if_icmp .eq 101, 3) := by decide +kernel
theorem dX11_laysState_182 : decode cX11_laysState 182 = .ok (.iload 11, 2) := by decide +kernel
theorem dX11_laysState_184 : decode cX11_laysState 184 = .ok (.aload_n 0, 1) := by decide +kernel
theorem dX11_laysState_185 : decode cX11_laysState 185 = .ok (.getfield 29, 3) := by decide +kernel
theorem dX11_laysState_188 : decode cX11_laysState 188 = .ok (.iload 5, 2) := by decide +kernel
theorem dX11_laysState_190 : decode cX11_laysState 190 = .ok (.iaload, 1) := by decide +kernel
theorem dX11_laysState_191 : decode cX11_laysState 191 = .ok (.if_icmp .le 6, 3) := by decide +kernel
theorem dX11_laysState_194 : decode cX11_laysState 194 = .ok (.goto 86, 3) := by decide +kernel
theorem dX11_laysState_197 : decode cX11_laysState 197 = .ok (.iload 11, 2) := by decide +kernel
theorem dX11_laysState_199 : decode cX11_laysState 199 = .ok (.aload_n 0, 1) := by decide +kernel
theorem dX11_laysState_200 : decode cX11_laysState 200 = .ok (.getfield 29, 3) := by decide +kernel
theorem dX11_laysState_203 : decode cX11_laysState 203 = .ok (.iload 5, 2) := by decide +kernel
theorem dX11_laysState_205 : decode cX11_laysState 205 = .ok (.iaload, 1) := by decide +kernel
theorem dX11_laysState_206 : decode cX11_laysState 206 = .ok (.if_icmp .ge 30, 3) := by decide +kernel
theorem dX11_laysState_209 : decode cX11_laysState 209 = .ok (.aload_n 0, 1) := by decide +kernel
theorem dX11_laysState_210 : decode cX11_laysState 210 = .ok (.getfield 29, 3) := by decide +kernel
theorem dX11_laysState_213 : decode cX11_laysState 213 = .ok (.iload 5, 2) := by decide +kernel
theorem dX11_laysState_215 : decode cX11_laysState 215 = .ok (.iload 11, 2) := by decide +kernel
theorem dX11_laysState_217 : decode cX11_laysState 217 = .ok (.iastore, 1) := by decide +kernel
theorem dX11_laysState_218 : decode cX11_laysState 218 = .ok (.aload_n 0, 1) := by decide +kernel
theorem dX11_laysState_219 : decode cX11_laysState 219 = .ok (.getfield 32, 3) := by decide +kernel
theorem dX11_laysState_222 : decode cX11_laysState 222 = .ok (.iload 5, 2) := by decide +kernel
theorem dX11_laysState_224 : decode cX11_laysState 224 = .ok (.lconst 0, 1) := by decide +kernel
theorem dX11_laysState_225 : decode cX11_laysState 225 = .ok (.lastore, 1) := by decide +kernel
theorem dX11_laysState_226 : decode cX11_laysState 226 = .ok (.aload_n 0, 1) := by decide +kernel
theorem dX11_laysState_227 : decode cX11_laysState 227 = .ok (.getfield 36, 3) := by decide +kernel
theorem dX11_laysState_230 : decode cX11_laysState 230 = .ok (.iload 5, 2) := by decide +kernel
theorem dX11_laysState_232 : decode cX11_laysState 232 = .ok (.sipush 1000, 3) := by decide +kernel
theorem dX11_laysState_235 : decode cX11_laysState 235 = .ok (.iastore, 1) := by decide +kernel
theorem dX11_laysState_236 : decode cX11_laysState 236 = .ok (.aload_n 0, 1) := by decide +kernel
theorem dX11_laysState_237 : decode cX11_laysState 237 = .ok (.getfield 32, 3) := by decide +kernel
theorem dX11_laysState_240 : decode cX11_laysState 240 = .ok (.iload 5, 2) := by decide +kernel
theorem dX11_laysState_242 : decode cX11_laysState 242 = .ok (.dup2, 1) := by decide +kernel
theorem dX11_laysState_243 : decode cX11_laysState 243 = .ok (.laload, 1) := by decide +kernel
theorem dX11_laysState_244 : decode cX11_laysState 244 = .ok (.aload_n 0, 1) := by decide +kernel
theorem dX11_laysState_245 : decode cX11_laysState 245 = .ok (.getfield 32, 3) := by decide +kernel
theorem dX11_laysState_248 : decode cX11_laysState 248 = .ok (.iload 9, 2) := by decide +kernel
theorem dX11_laysState_250 : decode cX11_laysState 250 = .ok (.laload, 1) := by decide +kernel
theorem dX11_laysState_251 : decode cX11_laysState 251 = .ok (.ladd, 1) := by decide +kernel
theorem dX11_laysState_252 : decode cX11_laysState 252 = .ok (.lastore, 1) := by decide +kernel
theorem dX11_laysState_253 : decode cX11_laysState 253 = .ok (.aload_n 0, 1) := by decide +kernel
theorem dX11_laysState_254 : decode cX11_laysState 254 = .ok (.getfield 36, 3) := by decide +kernel
theorem dX11_laysState_257 : decode cX11_laysState 257 = .ok (.iload 5, 2) := by decide +kernel
theorem dX11_laysState_259 : decode cX11_laysState 259 = .ok (.aload_n 0, 1) := by decide +kernel
theorem dX11_laysState_260 : decode cX11_laysState 260 = .ok (.getfield 36, 3) := by decide +kernel
theorem dX11_laysState_263 : decode cX11_laysState 263 = .ok (.iload 5, 2) := by decide +kernel
theorem dX11_laysState_265 : decode cX11_laysState 265 = .ok (.iaload, 1) := by decide +kernel
theorem dX11_laysState_266 : decode cX11_laysState 266 = .ok (.aload_n 0, 1) := by decide +kernel
theorem dX11_laysState_267 : decode cX11_laysState 267 = .ok (.getfield 36, 3) := by decide +kernel
theorem dX11_laysState_270 : decode cX11_laysState 270 = .ok (.iload 9, 2) := by decide +kernel
theorem dX11_laysState_272 : decode cX11_laysState 272 = .ok (.iaload, 1) := by decide +kernel
theorem dX11_laysState_273 : decode cX11_laysState 273 = .ok (.iload 10, 2) := by decide +kernel
theorem dX11_laysState_275 : decode cX11_laysState 275 = .ok (.iadd, 1) := by decide +kernel
theorem dX11_laysState_276 : decode cX11_laysState 276 = .ok (.invokestatic 131, 3) := by decide +kernel
theorem dX11_laysState_279 : decode cX11_laysState 279 = .ok (.iastore, 1) := by decide +kernel
theorem dX11_laysState_280 : decode cX11_laysState 280 = .ok (.iinc 8 1, 3) := by decide +kernel
theorem dX11_laysState_283 : decode cX11_laysState 283 = .ok (.goto (-167), 3) := by decide +kernel
theorem dX11_laysState_286 : decode cX11_laysState 286 = .ok (.iinc 7 1, 3) := by decide +kernel
theorem dX11_laysState_289 : decode cX11_laysState 289 = .ok (.goto (-198), 3) := by decide +kernel
theorem dX11_laysState_292 : decode cX11_laysState 292 = .ok (.return_, 1) := by decide +kernel
def sX11_laysState_L116 (F : Nat) (l0 : Nat) (l1 : Int32) (l2 : Int32) (l3 : Int32) (l5 : Int32) (l7 : Int32) (l8 : Int32) (h : HP) : Option ((Int32 × HP) ⊕ HP) :=
  if (4 : Int32) ≤ l8 then
    some (.inr h)
  else
    (sX11_state F (l1 ||| (jshl (1 : Int32) l7)) l7 l8 h).bind fun t17 =>
    (dO h 11 (some l0)).bind fun a18 =>
    (sX11_lacks F a18 l2 l3 l7 l8 h).bind fun t19 =>
    (gR h 11 (some l0) 12).bind fun t20 =>
    (aI h 13 t20 t17).bind fun t21 =>
    (if t19 ≤ 0 then
        some (0 : Int32)
      else
        some (1 : Int32)).bind fun s22 =>
    nmI (t21 + s22) fun l11_23 =>
    (gR h 11 (some l0) 12).bind fun t24 =>
    (aI h 13 t24 t17).bind fun t25 =>
    if t25 = (1000 : Int32) then
      some (.inl (l8 + (1 : Int32), h))
    else
      (gR h 11 (some l0) 12).bind fun t26 =>
      (aI h 13 t26 l5).bind fun t27 =>
      if l11_23 ≤ t27 then
        (gR h 11 (some l0) 12).bind fun t28 =>
        (aI h 13 t28 l5).bind fun t29 =>
        (if t29 ≤ l11_23 then
            some h
          else
            (gR h 11 (some l0) 12).bind fun t31 =>
            (sI h t31 l5 l11_23).bind fun h32 =>
            (gR h32 11 (some l0) 13).bind fun t33 =>
            (sJ h32 t33 l5 (0 : Int64)).bind fun h34 =>
            (gR h34 11 (some l0) 14).bind fun t35 =>
            (sI h34 t35 l5 (1000 : Int32)).bind fun h36 =>
            some h36).bind fun h30 =>
        (gR h30 11 (some l0) 13).bind fun t37 =>
        (aJ h30 t37 l5).bind fun t38 =>
        (gR h30 11 (some l0) 13).bind fun t39 =>
        (aJ h30 t39 t17).bind fun t40 =>
        (sJ h30 t37 l5 (t38 + t40)).bind fun h41 =>
        (gR h41 11 (some l0) 14).bind fun t42 =>
        (gR h41 11 (some l0) 14).bind fun t43 =>
        (aI h41 13 t43 l5).bind fun t44 =>
        (gR h41 11 (some l0) 14).bind fun t45 =>
        (aI h41 13 t45 t17).bind fun t46 =>
        (sX11_lesser F t44 (t46 + t19) h41).bind fun t47 =>
        (sI h41 t42 l5 t47).bind fun h48 =>
        some (.inl (l8 + (1 : Int32), h48))
      else
        some (.inl (l8 + (1 : Int32), h))
def sX11_laysState_L91 (F : Nat) (l0 : Nat) (l1 : Int32) (l2 : Int32) (l3 : Int32) (l5 : Int32) (l7 : Int32) (h : HP) : Option ((Int32 × HP) ⊕ HP) :=
  (dO h 11 (some l0)).bind fun a15 =>
  (sX11_fingers F a15 h).bind fun t16 =>
  if t16 ≤ l7 then
    some (.inr h)
  else
    if ¬ ((jshr l1 l7) &&& (1 : Int32)) = (1 : Int32) then
      (iter (fun s => sX11_laysState_L116 F l0 l1 l2 l3 l5 l7 s.1 s.2) F ((0 : Int32), h)).bind fun h49 =>
        some (.inl (l7 + (1 : Int32), h49))
    else
      some (.inl (l7 + (1 : Int32), h))
def sX11_laysState (F : Nat) (l0 : Nat) (l1 : Int32) (l2 : Int32) (l3 : Int32) (l4 : Int32) (h : HP) : Option HP :=
  (sX11_state F l1 l2 l3 h).bind fun t1 =>
  (dO h 11 (some l0)).bind fun a2 =>
  (sX11_fingers F a2 h).bind fun t3 =>
  (if ¬ l1 = ((jshl (1 : Int32) t3) - (1 : Int32)) then
      some (0 : Int32)
    else
      some (1 : Int32)).bind fun s4 =>
  (gR h 11 (some l0) 12).bind fun t5 =>
  (if s4 = 0 then
      some (1000 : Int32)
    else
      if l4 = (-1 : Int32) then
        some (0 : Int32)
      else
        if ¬ l4 = l2 then
          some (1000 : Int32)
        else
          some (0 : Int32)).bind fun s6 =>
  (sI h t5 t1 s6).bind fun h7 =>
  (gR h7 11 (some l0) 13).bind fun t8 =>
  (gR h7 11 (some l0) 12).bind fun t9 =>
  (aI h7 13 t9 t1).bind fun t10 =>
  (if ¬ t10 = 0 then
      some (0 : Int64)
    else
      some (1 : Int64)).bind fun s11 =>
  (sJ h7 t8 t1 s11).bind fun h12 =>
  (gR h12 11 (some l0) 14).bind fun t13 =>
  (sI h12 t13 t1 (0 : Int32)).bind fun h14 =>
  (iter (fun s => sX11_laysState_L91 F l0 l1 l2 l3 t1 s.1 s.2) F ((0 : Int32), h14)).bind fun h53 =>
    some h53
abbrev rm_X11_laysState : Room := { frames := 4, cells := 0, slots := 0, locals := 96 }
set_option maxRecDepth 100000 in
set_option maxHeartbeats 4000000 in
theorem mt_X11_laysState {w : WD} {l : Launch} {F : Nat} {l0 : Nat} {l1 : Int32} {l2 : Int32} {l3 : Int32} {l4 : Int32} {h : HP} {h' : HP} (hs : sX11_laysState F l0 l1 l2 l3 l4 h = some h') : MV w l yX11_laysState cX11_laysState 12 rm_X11_laysState 0 0 [rf w (some l0), .int l1, .int l2, .int l3, .int l4] h h' := by
  refine of_body [(0, rf w (some l0)), (1, .int l1), (2, .int l2), (3, .int l3), (4, .int l4)] (by decide) (by simp [lg_sl, rf_cat, cat_i, cat_l, cat_a]) (by simp [lv_args, rf_cat, cat_i, cat_l, cat_a]) ?_
  intro x hw_ hnL_ hl_ hc hret hnm hQ
  subst hw_; subst hl_
  have hnl : ∀ i, i < 12 → i < x.nL := fun i h => by rw [hnL_]; exact h
  have hw : wpO (sX11_laysState F l0 l1 l2 l3 l4 h) (fun r => r = h') := ⟨_, hs, rfl⟩
  unfold sX11_laysState at hw
  refine R_iload_n (q := 1) (i := 1) (v := l1) hc dX11_laysState_0 rfl rfl ?_
  refine R_iload_n (q := 2) (i := 2) (v := l2) hc dX11_laysState_1 rfl rfl ?_
  refine R_iload_n (q := 3) (i := 3) (v := l3) hc dX11_laysState_2 rfl rfl ?_
  refine R_cSI (As := [.int l1, .int l2, .int l3]) (rest := []) hc ml_11_123 mf_X11_state ⟨rfl, rfl⟩ ⟨le_b rfl, le_b rfl⟩ ⟨Nat.zero_le _, Nat.zero_le _⟩ (fun v e => mt_X11_state e) rfl rfl (Nat.zero_le _) dX11_laysState_3 hw (fun t1 hw => ?_)
  refine R_istore (i := 5) (v := t1) hc [(5, .int t1), (0, rf x.w (some l0)), (1, .int l1), (2, .int l2), (3, .int l3), (4, .int l4)] dX11_laysState_6 (hnl 5 (le_b rfl)) rfl ?_
  refine R_iload_n (q := 2) (i := 1) (v := l1) hc dX11_laysState_8 rfl rfl ?_
  refine R_iconst (v := (1 : Int32)) hc dX11_laysState_9 kI_1 ?_
  refine R_aload_n (q := 1) (i := 0) (v := (some l0)) hc dX11_laysState_10 rfl rfl ?_
  refine R_cVI (As := []) (rest := [.int (1 : Int32), .int l1]) (r := (some l0)) (ci := 11) hc ml_11_103 mf_X11_fingers rfl (by decide) ⟨rfl, rfl⟩ ⟨le_b rfl, le_b rfl⟩ ⟨Nat.zero_le _, Nat.zero_le _⟩ (fun a v e => mt_X11_fingers e) rfl rfl (le_b rfl) dX11_laysState_11 hw (fun t3 hw => ?_)
  refine R_ishl hc dX11_laysState_14 ?_
  refine R_iconst (v := (1 : Int32)) hc dX11_laysState_15 kI_1 ?_
  refine R_isub hc dX11_laysState_16 ?_
  refine R_join (fun (s4 : Int32) => Rn x 0 0 25 [(0, rf x.w (some l0)), (1, .int l1), (2, .int l2), (3, .int l3), (4, .int l4), (5, .int t1)] [.int s4] h) hw (fun r hw => ?_) (fun hw => ?_)
  · revert r hw
    intro s4 hw
    show Rn x 0 0 25 [(0, rf x.w (some l0)), (1, .int l1), (2, .int l2), (3, .int l3), (4, .int l4), (5, .int t1)] [.int s4] h
    refine R_istore (i := 6) (v := s4) hc [(6, .int s4), (0, rf x.w (some l0)), (1, .int l1), (2, .int l2), (3, .int l3), (4, .int l4), (5, .int t1)] dX11_laysState_25 (hnl 6 (le_b rfl)) rfl ?_
    refine R_aload_n (q := 1) (i := 0) (v := (some l0)) hc dX11_laysState_27 rfl rfl ?_
    refine R_getR hc fl_11_29 dX11_laysState_28 hw (fun t5 hw => ?_)
    refine R_iload (q := 6) (i := 5) (v := t1) hc dX11_laysState_31 rfl ?_
    refine R_iload (q := 0) (i := 6) (v := s4) hc dX11_laysState_33 rfl ?_
    refine R_join (fun (s6 : Int32) => Rn x 0 0 57 [(0, rf x.w (some l0)), (1, .int l1), (2, .int l2), (3, .int l3), (5, .int t1)] [.int s6, .int t1, rf x.w t5] h) hw (fun r hw => ?_) (fun hw => ?_)
    · revert r hw
      intro s6 hw
      show Rn x 0 0 57 [(0, rf x.w (some l0)), (1, .int l1), (2, .int l2), (3, .int l3), (5, .int t1)] [.int s6, .int t1, rf x.w t5] h
      refine R_iastore hc dX11_laysState_57 hw (fun h7 hw => ?_)
      refine R_aload_n (q := 0) (i := 0) (v := (some l0)) hc dX11_laysState_58 rfl rfl ?_
      refine R_getR hc fl_11_32 dX11_laysState_59 hw (fun t8 hw => ?_)
      refine R_iload (q := 4) (i := 5) (v := t1) hc dX11_laysState_62 rfl ?_
      refine R_aload_n (q := 0) (i := 0) (v := (some l0)) hc dX11_laysState_64 rfl rfl ?_
      refine R_getR hc fl_11_29 dX11_laysState_65 hw (fun t9 hw => ?_)
      refine R_iload (q := 4) (i := 5) (v := t1) hc dX11_laysState_68 rfl ?_
      refine R_iaload hc dX11_laysState_70 hw (fun t10 hw => ?_)
      refine R_join (fun (s11 : Int64) => Rn x 0 0 79 [(0, rf x.w (some l0)), (1, .int l1), (2, .int l2), (3, .int l3), (5, .int t1)] [.long s11, .int t1, rf x.w t8] h7) hw (fun r hw => ?_) (fun hw => ?_)
      · revert r hw
        intro s11 hw
        show Rn x 0 0 79 [(0, rf x.w (some l0)), (1, .int l1), (2, .int l2), (3, .int l3), (5, .int t1)] [.long s11, .int t1, rf x.w t8] h7
        refine R_lastore hc dX11_laysState_79 hw (fun h12 hw => ?_)
        refine R_aload_n (q := 0) (i := 0) (v := (some l0)) hc dX11_laysState_80 rfl rfl ?_
        refine R_getR hc fl_11_36 dX11_laysState_81 hw (fun t13 hw => ?_)
        refine R_iload (q := 4) (i := 5) (v := t1) hc dX11_laysState_84 rfl ?_
        refine R_iconst (v := (0 : Int32)) hc dX11_laysState_86 kI_0 ?_
        refine R_iastore hc dX11_laysState_87 hw (fun h14 hw => ?_)
        refine R_iconst (v := (0 : Int32)) hc dX11_laysState_88 kI_0 ?_
        refine R_istore (i := 7) (v := (0 : Int32)) hc [(7, .int (0 : Int32)), (0, rf x.w (some l0)), (1, .int l1), (2, .int l2), (3, .int l3), (5, .int t1)] dX11_laysState_89 (hnl 7 (le_b rfl)) rfl ?_
        refine R_sub hc [1, 2, 3, 4, 5, 0] rfl ?_
        refine R_loop (P := fun (s : (Int32 × HP)) => Rn x 0 0 91 [(0, rf x.w (some l0)), (1, .int l1), (2, .int l2), (3, .int l3), (5, .int t1), (7, .int s.1)] [] s.2) (fun h53 => Rn x 0 0 292 [] [] h53) hw (fun r hw => ?_) (fun X hX s hw => ?_)
        · revert r hw
          intro h53 hw
          show Rn x 0 0 292 [] [] h53
          exact R_return hc hret hQ hw dX11_laysState_292
        · obtain ⟨l7_55, h56⟩ := s
          show Rn x 0 0 91 [(0, rf x.w (some l0)), (1, .int l1), (2, .int l2), (3, .int l3), (5, .int t1), (7, .int l7_55)] [] h56
          have hw : wpO (sX11_laysState_L91 F l0 l1 l2 l3 t1 l7_55 h56) _ := hw
          unfold sX11_laysState_L91 at hw
          refine R_iload (q := 5) (i := 7) (v := l7_55) hc dX11_laysState_91 rfl ?_
          refine R_aload_n (q := 0) (i := 0) (v := (some l0)) hc dX11_laysState_93 rfl rfl ?_
          refine R_cVI (As := []) (rest := [.int l7_55]) (r := (some l0)) (ci := 11) hc ml_11_103 mf_X11_fingers rfl (by decide) ⟨rfl, rfl⟩ ⟨le_b rfl, le_b rfl⟩ ⟨Nat.zero_le _, Nat.zero_le _⟩ (fun a v e => mt_X11_fingers e) rfl rfl (le_b rfl) dX11_laysState_94 hw (fun t16 hw => ?_)
          refine R_icmp_ge (tgt := 292) hc dX11_laysState_97 (by decide) hw (fun hw => ?_) (fun hw => ?_)
          · refine R_sub hc [] rfl ?_
            exact (wpO_some hw :)
          · refine R_iload_n (q := 1) (i := 1) (v := l1) hc dX11_laysState_100 rfl rfl ?_
            refine R_iload (q := 5) (i := 7) (v := l7_55) hc dX11_laysState_101 rfl ?_
            refine R_ishr hc dX11_laysState_103 ?_
            refine R_iconst (v := (1 : Int32)) hc dX11_laysState_104 kI_1 ?_
            refine R_iand hc dX11_laysState_105 ?_
            refine R_iconst (v := (1 : Int32)) hc dX11_laysState_106 kI_1 ?_
            refine R_icmp_ne (tgt := 113) hc dX11_laysState_107 (by decide) hw (fun hw => ?_) (fun hw => ?_)
            · refine R_iconst (v := (0 : Int32)) hc dX11_laysState_113 kI_0 ?_
              refine R_istore (i := 8) (v := (0 : Int32)) hc [(8, .int (0 : Int32)), (0, rf x.w (some l0)), (1, .int l1), (2, .int l2), (3, .int l3), (5, .int t1), (7, .int l7_55)] dX11_laysState_114 (hnl 8 (le_b rfl)) rfl ?_
              refine R_sub hc [1, 2, 3, 4, 5, 6, 0] rfl ?_
              refine R_loop (P := fun (s : (Int32 × HP)) => Rn x 0 0 116 [(0, rf x.w (some l0)), (1, .int l1), (2, .int l2), (3, .int l3), (5, .int t1), (7, .int l7_55), (8, .int s.1)] [] s.2) (fun h49 => Rn x 0 0 286 [(0, rf x.w (some l0)), (1, .int l1), (2, .int l2), (3, .int l3), (5, .int t1), (7, .int l7_55)] [] h49) hw (fun r hw => ?_) (fun X hX s hw => ?_)
              · revert r hw
                intro h49 hw
                show Rn x 0 0 286 [(0, rf x.w (some l0)), (1, .int l1), (2, .int l2), (3, .int l3), (5, .int t1), (7, .int l7_55)] [] h49
                refine R_iinc (q := 5) (i := 7) (v := l7_55) hc [(7, .int (l7_55 + (1 : Int32))), (0, rf x.w (some l0)), (1, .int l1), (2, .int l2), (3, .int l3), (5, .int t1)] dX11_laysState_286 rfl (kC_1 _) (hnl 7 (le_b rfl)) rfl ?_
                refine R_goto (tgt := 91) hc dX11_laysState_289 (by decide) ?_
                refine R_sub hc [1, 2, 3, 4, 5, 0] rfl ?_
                exact hX (l7_55 + (1 : Int32), h49) (wpO_some hw :)
              · obtain ⟨l8_51, h52⟩ := s
                show Rn x 0 0 116 [(0, rf x.w (some l0)), (1, .int l1), (2, .int l2), (3, .int l3), (5, .int t1), (7, .int l7_55), (8, .int l8_51)] [] h52
                have hw : wpO (sX11_laysState_L116 F l0 l1 l2 l3 t1 l7_55 l8_51 h52) _ := hw
                unfold sX11_laysState_L116 at hw
                refine R_iload (q := 6) (i := 8) (v := l8_51) hc dX11_laysState_116 rfl ?_
                refine R_iconst (v := (4 : Int32)) hc dX11_laysState_118 kI_4 ?_
                refine R_icmp_ge (tgt := 286) hc dX11_laysState_119 (by decide) hw (fun hw => ?_) (fun hw => ?_)
                · refine R_sub hc [0, 1, 2, 3, 4, 5] rfl ?_
                  exact (wpO_some hw :)
                · refine R_iload_n (q := 1) (i := 1) (v := l1) hc dX11_laysState_122 rfl rfl ?_
                  refine R_iconst (v := (1 : Int32)) hc dX11_laysState_123 kI_1 ?_
                  refine R_iload (q := 5) (i := 7) (v := l7_55) hc dX11_laysState_124 rfl ?_
                  refine R_ishl hc dX11_laysState_126 ?_
                  refine R_ior hc dX11_laysState_127 ?_
                  refine R_iload (q := 5) (i := 7) (v := l7_55) hc dX11_laysState_128 rfl ?_
                  refine R_iload (q := 6) (i := 8) (v := l8_51) hc dX11_laysState_130 rfl ?_
                  refine R_cSI (As := [.int (l1 ||| (jshl (1 : Int32) l7_55)), .int l7_55, .int l8_51]) (rest := []) hc ml_11_123 mf_X11_state ⟨rfl, rfl⟩ ⟨le_b rfl, le_b rfl⟩ ⟨Nat.zero_le _, Nat.zero_le _⟩ (fun v e => mt_X11_state e) rfl rfl (Nat.zero_le _) dX11_laysState_132 hw (fun t17 hw => ?_)
                  refine R_istore (i := 9) (v := t17) hc [(9, .int t17), (0, rf x.w (some l0)), (1, .int l1), (2, .int l2), (3, .int l3), (5, .int t1), (7, .int l7_55), (8, .int l8_51)] dX11_laysState_135 (hnl 9 (le_b rfl)) rfl ?_
                  refine R_aload_n (q := 1) (i := 0) (v := (some l0)) hc dX11_laysState_137 rfl rfl ?_
                  refine R_iload_n (q := 3) (i := 2) (v := l2) hc dX11_laysState_138 rfl rfl ?_
                  refine R_iload_n (q := 4) (i := 3) (v := l3) hc dX11_laysState_139 rfl rfl ?_
                  refine R_iload (q := 6) (i := 7) (v := l7_55) hc dX11_laysState_140 rfl ?_
                  refine R_iload (q := 7) (i := 8) (v := l8_51) hc dX11_laysState_142 rfl ?_
                  refine R_cVI (As := [.int l2, .int l3, .int l7_55, .int l8_51]) (rest := []) (r := (some l0)) (ci := 11) hc ml_11_127 mf_X11_lacks rfl (by decide) ⟨rfl, rfl⟩ ⟨le_b rfl, le_b rfl⟩ ⟨Nat.zero_le _, Nat.zero_le _⟩ (fun a v e => mt_X11_lacks e) rfl rfl (Nat.zero_le _) dX11_laysState_144 hw (fun t19 hw => ?_)
                  refine R_istore (i := 10) (v := t19) hc [(10, .int t19), (9, .int t17), (0, rf x.w (some l0)), (1, .int l1), (2, .int l2), (3, .int l3), (5, .int t1), (7, .int l7_55), (8, .int l8_51)] dX11_laysState_147 (hnl 10 (le_b rfl)) rfl ?_
                  refine R_aload_n (q := 2) (i := 0) (v := (some l0)) hc dX11_laysState_149 rfl rfl ?_
                  refine R_getR hc fl_11_29 dX11_laysState_150 hw (fun t20 hw => ?_)
                  refine R_iload (q := 1) (i := 9) (v := t17) hc dX11_laysState_153 rfl ?_
                  refine R_iaload hc dX11_laysState_155 hw (fun t21 hw => ?_)
                  refine R_iload (q := 0) (i := 10) (v := t19) hc dX11_laysState_156 rfl ?_
                  refine R_join (fun (s22 : Int32) => Rn x 0 0 166 [(0, rf x.w (some l0)), (1, .int l1), (2, .int l2), (3, .int l3), (5, .int t1), (7, .int l7_55), (8, .int l8_51), (9, .int t17), (10, .int t19)] [.int s22, .int t21] h52) hw (fun r hw => ?_) (fun hw => ?_)
                  · revert r hw
                    intro s22 hw
                    show Rn x 0 0 166 [(0, rf x.w (some l0)), (1, .int l1), (2, .int l2), (3, .int l3), (5, .int t1), (7, .int l7_55), (8, .int l8_51), (9, .int t17), (10, .int t19)] [.int s22, .int t21] h52
                    refine R_iadd hc dX11_laysState_166 ?_
                    refine R_nmI hw (fun l11_23 hw => ?_)
                    refine R_istore (i := 11) (v := l11_23) hc [(11, .int l11_23), (0, rf x.w (some l0)), (1, .int l1), (2, .int l2), (3, .int l3), (5, .int t1), (7, .int l7_55), (8, .int l8_51), (9, .int t17), (10, .int t19)] dX11_laysState_167 (hnl 11 (le_b rfl)) rfl ?_
                    refine R_aload_n (q := 1) (i := 0) (v := (some l0)) hc dX11_laysState_169 rfl rfl ?_
                    refine R_getR hc fl_11_29 dX11_laysState_170 hw (fun t24 hw => ?_)
                    refine R_iload (q := 8) (i := 9) (v := t17) hc dX11_laysState_173 rfl ?_
                    refine R_iaload hc dX11_laysState_175 hw (fun t25 hw => ?_)
                    refine R_sipush (v := (1000 : Int32)) hc dX11_laysState_176 kS_1000 ?_
                    refine R_icmp_eq (tgt := 280) hc dX11_laysState_179 (by decide) hw (fun hw => ?_) (fun hw => ?_)
                    · refine R_iinc (q := 7) (i := 8) (v := l8_51) hc [(8, .int (l8_51 + (1 : Int32))), (11, .int l11_23), (0, rf x.w (some l0)), (1, .int l1), (2, .int l2), (3, .int l3), (5, .int t1), (7, .int l7_55), (9, .int t17), (10, .int t19)] dX11_laysState_280 rfl (kC_1 _) (hnl 8 (le_b rfl)) rfl ?_
                      refine R_goto (tgt := 116) hc dX11_laysState_283 (by decide) ?_
                      refine R_sub hc [2, 3, 4, 5, 6, 7, 0] rfl ?_
                      exact hX (l8_51 + (1 : Int32), h52) (wpO_some hw :)
                    · refine R_iload (q := 0) (i := 11) (v := l11_23) hc dX11_laysState_182 rfl ?_
                      refine R_aload_n (q := 1) (i := 0) (v := (some l0)) hc dX11_laysState_184 rfl rfl ?_
                      refine R_getR hc fl_11_29 dX11_laysState_185 hw (fun t26 hw => ?_)
                      refine R_iload (q := 5) (i := 5) (v := t1) hc dX11_laysState_188 rfl ?_
                      refine R_iaload hc dX11_laysState_190 hw (fun t27 hw => ?_)
                      refine R_icmp_le (tgt := 197) hc dX11_laysState_191 (by decide) hw (fun hw => ?_) (fun hw => ?_)
                      · refine R_iload (q := 0) (i := 11) (v := l11_23) hc dX11_laysState_197 rfl ?_
                        refine R_aload_n (q := 1) (i := 0) (v := (some l0)) hc dX11_laysState_199 rfl rfl ?_
                        refine R_getR hc fl_11_29 dX11_laysState_200 hw (fun t28 hw => ?_)
                        refine R_iload (q := 5) (i := 5) (v := t1) hc dX11_laysState_203 rfl ?_
                        refine R_iaload hc dX11_laysState_205 hw (fun t29 hw => ?_)
                        refine R_join (fun (h30 : HP) => Rn x 0 0 236 [(0, rf x.w (some l0)), (1, .int l1), (2, .int l2), (3, .int l3), (5, .int t1), (7, .int l7_55), (8, .int l8_51), (9, .int t17), (10, .int t19)] [] h30) hw (fun r hw => ?_) (fun hw => ?_)
                        · revert r hw
                          intro h30 hw
                          show Rn x 0 0 236 [(0, rf x.w (some l0)), (1, .int l1), (2, .int l2), (3, .int l3), (5, .int t1), (7, .int l7_55), (8, .int l8_51), (9, .int t17), (10, .int t19)] [] h30
                          refine R_aload_n (q := 0) (i := 0) (v := (some l0)) hc dX11_laysState_236 rfl rfl ?_
                          refine R_getR hc fl_11_32 dX11_laysState_237 hw (fun t37 hw => ?_)
                          refine R_iload (q := 4) (i := 5) (v := t1) hc dX11_laysState_240 rfl ?_
                          refine R_dup2 hc dX11_laysState_242 rfl (rf_cat _ _) ?_
                          refine R_laload hc dX11_laysState_243 hw (fun t38 hw => ?_)
                          refine R_aload_n (q := 0) (i := 0) (v := (some l0)) hc dX11_laysState_244 rfl rfl ?_
                          refine R_getR hc fl_11_32 dX11_laysState_245 hw (fun t39 hw => ?_)
                          refine R_iload (q := 7) (i := 9) (v := t17) hc dX11_laysState_248 rfl ?_
                          refine R_laload hc dX11_laysState_250 hw (fun t40 hw => ?_)
                          refine R_ladd hc dX11_laysState_251 ?_
                          refine R_lastore hc dX11_laysState_252 hw (fun h41 hw => ?_)
                          refine R_aload_n (q := 0) (i := 0) (v := (some l0)) hc dX11_laysState_253 rfl rfl ?_
                          refine R_getR hc fl_11_36 dX11_laysState_254 hw (fun t42 hw => ?_)
                          refine R_iload (q := 4) (i := 5) (v := t1) hc dX11_laysState_257 rfl ?_
                          refine R_aload_n (q := 0) (i := 0) (v := (some l0)) hc dX11_laysState_259 rfl rfl ?_
                          refine R_getR hc fl_11_36 dX11_laysState_260 hw (fun t43 hw => ?_)
                          refine R_iload (q := 4) (i := 5) (v := t1) hc dX11_laysState_263 rfl ?_
                          refine R_iaload hc dX11_laysState_265 hw (fun t44 hw => ?_)
                          refine R_aload_n (q := 0) (i := 0) (v := (some l0)) hc dX11_laysState_266 rfl rfl ?_
                          refine R_getR hc fl_11_36 dX11_laysState_267 hw (fun t45 hw => ?_)
                          refine R_iload (q := 7) (i := 9) (v := t17) hc dX11_laysState_270 rfl ?_
                          refine R_iaload hc dX11_laysState_272 hw (fun t46 hw => ?_)
                          refine R_iload (q := 8) (i := 10) (v := t19) hc dX11_laysState_273 rfl ?_
                          refine R_iadd hc dX11_laysState_275 ?_
                          refine R_cSI (As := [.int t44, .int (t46 + t19)]) (rest := [.int t1, rf x.w t42]) hc ml_11_131 mf_X11_lesser ⟨rfl, rfl⟩ ⟨le_b rfl, le_b rfl⟩ ⟨Nat.zero_le _, Nat.zero_le _⟩ (fun v e => mt_X11_lesser e) rfl rfl (by simp [rf_cat, cat_i, cat_l, cat_a]) dX11_laysState_276 hw (fun t47 hw => ?_)
                          refine R_iastore hc dX11_laysState_279 hw (fun h48 hw => ?_)
                          refine R_iinc (q := 6) (i := 8) (v := l8_51) hc [(8, .int (l8_51 + (1 : Int32))), (0, rf x.w (some l0)), (1, .int l1), (2, .int l2), (3, .int l3), (5, .int t1), (7, .int l7_55), (9, .int t17), (10, .int t19)] dX11_laysState_280 rfl (kC_1 _) (hnl 8 (le_b rfl)) rfl ?_
                          refine R_goto (tgt := 116) hc dX11_laysState_283 (by decide) ?_
                          refine R_sub hc [1, 2, 3, 4, 5, 6, 0] rfl ?_
                          exact hX (l8_51 + (1 : Int32), h48) (wpO_some hw :)
                        · refine R_icmp_ge (tgt := 236) hc dX11_laysState_206 (by decide) hw (fun hw => ?_) (fun hw => ?_)
                          · refine R_sub hc [1, 2, 3, 4, 5, 6, 7, 8, 9] rfl ?_
                            exact (wpO_some hw :)
                          · refine R_aload_n (q := 1) (i := 0) (v := (some l0)) hc dX11_laysState_209 rfl rfl ?_
                            refine R_getR hc fl_11_29 dX11_laysState_210 hw (fun t31 hw => ?_)
                            refine R_iload (q := 5) (i := 5) (v := t1) hc dX11_laysState_213 rfl ?_
                            refine R_iload (q := 0) (i := 11) (v := l11_23) hc dX11_laysState_215 rfl ?_
                            refine R_iastore hc dX11_laysState_217 hw (fun h32 hw => ?_)
                            refine R_aload_n (q := 1) (i := 0) (v := (some l0)) hc dX11_laysState_218 rfl rfl ?_
                            refine R_getR hc fl_11_32 dX11_laysState_219 hw (fun t33 hw => ?_)
                            refine R_iload (q := 5) (i := 5) (v := t1) hc dX11_laysState_222 rfl ?_
                            refine R_lconst (v := (0 : Int64)) hc dX11_laysState_224 kL_0 ?_
                            refine R_lastore hc dX11_laysState_225 hw (fun h34 hw => ?_)
                            refine R_aload_n (q := 1) (i := 0) (v := (some l0)) hc dX11_laysState_226 rfl rfl ?_
                            refine R_getR hc fl_11_36 dX11_laysState_227 hw (fun t35 hw => ?_)
                            refine R_iload (q := 5) (i := 5) (v := t1) hc dX11_laysState_230 rfl ?_
                            refine R_sipush (v := (1000 : Int32)) hc dX11_laysState_232 kS_1000 ?_
                            refine R_iastore hc dX11_laysState_235 hw (fun h36 hw => ?_)
                            refine R_sub hc [1, 2, 3, 4, 5, 6, 7, 8, 9] rfl ?_
                            exact (wpO_some hw :)
                      · refine R_goto (tgt := 280) hc dX11_laysState_194 (by decide) ?_
                        refine R_iinc (q := 7) (i := 8) (v := l8_51) hc [(8, .int (l8_51 + (1 : Int32))), (11, .int l11_23), (0, rf x.w (some l0)), (1, .int l1), (2, .int l2), (3, .int l3), (5, .int t1), (7, .int l7_55), (9, .int t17), (10, .int t19)] dX11_laysState_280 rfl (kC_1 _) (hnl 8 (le_b rfl)) rfl ?_
                        refine R_goto (tgt := 116) hc dX11_laysState_283 (by decide) ?_
                        refine R_sub hc [2, 3, 4, 5, 6, 7, 0] rfl ?_
                        exact hX (l8_51 + (1 : Int32), h52) (wpO_some hw :)
                  · refine R_if_le (tgt := 165) hc dX11_laysState_158 (by decide) hw (fun hw => ?_) (fun hw => ?_)
                    · refine R_iconst (v := (0 : Int32)) hc dX11_laysState_165 kI_0 ?_
                      refine R_sub hc [2, 3, 4, 5, 6, 7, 8, 1, 0] rfl ?_
                      exact (wpO_some hw :)
                    · refine R_iconst (v := (1 : Int32)) hc dX11_laysState_161 kI_1 ?_
                      refine R_goto (tgt := 166) hc dX11_laysState_162 (by decide) ?_
                      refine R_sub hc [2, 3, 4, 5, 6, 7, 8, 1, 0] rfl ?_
                      exact (wpO_some hw :)
            · refine R_goto (tgt := 286) hc dX11_laysState_110 (by decide) ?_
              refine R_iinc (q := 5) (i := 7) (v := l7_55) hc [(7, .int (l7_55 + (1 : Int32))), (0, rf x.w (some l0)), (1, .int l1), (2, .int l2), (3, .int l3), (5, .int t1)] dX11_laysState_286 rfl (kC_1 _) (hnl 7 (le_b rfl)) rfl ?_
              refine R_goto (tgt := 91) hc dX11_laysState_289 (by decide) ?_
              refine R_sub hc [1, 2, 3, 4, 5, 0] rfl ?_
              exact hX (l7_55 + (1 : Int32), h56) (wpO_some hw :)
      · refine R_if_ne (tgt := 78) hc dX11_laysState_71 (by decide) hw (fun hw => ?_) (fun hw => ?_)
        · refine R_lconst (v := (0 : Int64)) hc dX11_laysState_78 kL_0 ?_
          refine R_sub hc [0, 1, 2, 3, 4] rfl ?_
          exact (wpO_some hw :)
        · refine R_lconst (v := (1 : Int64)) hc dX11_laysState_74 kL_1 ?_
          refine R_goto (tgt := 79) hc dX11_laysState_75 (by decide) ?_
          refine R_sub hc [0, 1, 2, 3, 4] rfl ?_
          exact (wpO_some hw :)
    · refine R_if_eq (tgt := 54) hc dX11_laysState_35 (by decide) hw (fun hw => ?_) (fun hw => ?_)
      · refine R_sipush (v := (1000 : Int32)) hc dX11_laysState_54 kS_1000 ?_
        refine R_sub hc [1, 2, 3, 4, 6] rfl ?_
        exact (wpO_some hw :)
      · refine R_iload (q := 5) (i := 4) (v := l4) hc dX11_laysState_38 rfl ?_
        refine R_iconst (v := (-1 : Int32)) hc dX11_laysState_40 kI_m1 ?_
        refine R_icmp_eq (tgt := 50) hc dX11_laysState_41 (by decide) hw (fun hw => ?_) (fun hw => ?_)
        · refine R_iconst (v := (0 : Int32)) hc dX11_laysState_50 kI_0 ?_
          refine R_goto (tgt := 57) hc dX11_laysState_51 (by decide) ?_
          refine R_sub hc [1, 2, 3, 4, 6] rfl ?_
          exact (wpO_some hw :)
        · refine R_iload (q := 5) (i := 4) (v := l4) hc dX11_laysState_44 rfl ?_
          refine R_iload_n (q := 3) (i := 2) (v := l2) hc dX11_laysState_46 rfl rfl ?_
          refine R_icmp_ne (tgt := 54) hc dX11_laysState_47 (by decide) hw (fun hw => ?_) (fun hw => ?_)
          · refine R_sipush (v := (1000 : Int32)) hc dX11_laysState_54 kS_1000 ?_
            refine R_sub hc [1, 2, 3, 4, 6] rfl ?_
            exact (wpO_some hw :)
          · refine R_iconst (v := (0 : Int32)) hc dX11_laysState_50 kI_0 ?_
            refine R_goto (tgt := 57) hc dX11_laysState_51 (by decide) ?_
            refine R_sub hc [1, 2, 3, 4, 6] rfl ?_
            exact (wpO_some hw :)
  · refine R_icmp_ne (tgt := 24) hc dX11_laysState_17 (by decide) hw (fun hw => ?_) (fun hw => ?_)
    · refine R_iconst (v := (0 : Int32)) hc dX11_laysState_24 kI_0 ?_
      refine R_sub hc [1, 2, 3, 4, 5, 0] rfl ?_
      exact (wpO_some hw :)
    · refine R_iconst (v := (1 : Int32)) hc dX11_laysState_20 kI_1 ?_
      refine R_goto (tgt := 25) hc dX11_laysState_21 (by decide) ?_
      refine R_sub hc [1, 2, 3, 4, 5, 0] rfl ?_
      exact (wpO_some hw :)
theorem dX11_laysAll_0 : decode cX11_laysAll 0 = .ok (.iconst 1, 1) := by decide +kernel
theorem dX11_laysAll_1 : decode cX11_laysAll 1 = .ok (.aload_n 0, 1) := by decide +kernel
theorem dX11_laysAll_2 : decode cX11_laysAll 2 = .ok (.invokevirtual 103, 3) := by decide +kernel
theorem dX11_laysAll_5 : decode cX11_laysAll 5 = .ok (.ishl, 1) := by decide +kernel
theorem dX11_laysAll_6 : decode cX11_laysAll 6 = .ok (.iconst 1, 1) := by decide +kernel
theorem dX11_laysAll_7 : decode cX11_laysAll 7 = .ok (.isub, 1) := by decide +kernel
theorem dX11_laysAll_8 : decode cX11_laysAll 8 = .ok (.istore_n 2, 1) := by decide +kernel
theorem dX11_laysAll_9 : decode cX11_laysAll 9 = .ok (.iload_n 2, 1) := by decide +kernel
theorem dX11_laysAll_10 : decode cX11_laysAll 10 = .ok (.ifCond .le 60, 3) := by decide +kernel
theorem dX11_laysAll_13 : decode cX11_laysAll 13 = .ok (.iconst 0, 1) := by decide +kernel
theorem dX11_laysAll_14 : decode cX11_laysAll 14 = .ok (.istore_n 3, 1) := by decide +kernel
theorem dX11_laysAll_15 : decode cX11_laysAll 15 = .ok (.iload_n 3, 1) := by decide +kernel
theorem dX11_laysAll_16 : decode cX11_laysAll 16 = .ok (.aload_n 0, 1) := by decide +kernel
theorem dX11_laysAll_17 : decode cX11_laysAll 17 = .ok (.invokevirtual 103, 3) := by decide +kernel
theorem dX11_laysAll_20 : decode cX11_laysAll 20 = .ok (.if_icmp .ge 44, 3) := by decide +kernel
theorem dX11_laysAll_23 : decode cX11_laysAll 23 = .ok (.iload_n 2, 1) := by decide +kernel
theorem dX11_laysAll_24 : decode cX11_laysAll 24 = .ok (.iload_n 3, 1) := by decide +kernel
theorem dX11_laysAll_25 : decode cX11_laysAll 25 = .ok (.ishr, 1) := by decide +kernel
theorem dX11_laysAll_26 : decode cX11_laysAll 26 = .ok (.iconst 1, 1) := by decide +kernel
theorem dX11_laysAll_27 : decode cX11_laysAll 27 = .ok (.iand, 1) := by decide +kernel
theorem dX11_laysAll_28 : decode cX11_laysAll 28 = .ok (.ifCond .ne 6, 3) := by decide +kernel
theorem dX11_laysAll_31 : decode cX11_laysAll 31 = .ok (.goto 27, 3) := by decide +kernel
theorem dX11_laysAll_34 : decode cX11_laysAll 34 = .ok (.iconst 0, 1) := by decide +kernel
theorem dX11_laysAll_35 : decode cX11_laysAll 35 = .ok (.istore 4, 2) := by decide +kernel
theorem dX11_laysAll_37 : decode cX11_laysAll 37 = .ok (.iload 4, 2) := by decide +kernel
theorem dX11_laysAll_39 : decode cX11_laysAll 39 = .ok (.iconst 4, 1) := by decide +kernel
theorem dX11_laysAll_40 : decode cX11_laysAll 40 = .ok (.if_icmp .ge 18, 3) := by decide +kernel
theorem dX11_laysAll_43 : decode cX11_laysAll 43 = .ok (.aload_n 0, 1) := by decide +kernel
theorem dX11_laysAll_44 : decode cX11_laysAll 44 = .ok (.iload_n 2, 1) := by decide +kernel
theorem dX11_laysAll_45 : decode cX11_laysAll 45 = .ok (.iload_n 3, 1) := by decide +kernel
theorem dX11_laysAll_46 : decode cX11_laysAll 46 = .ok (.iload 4, 2) := by decide +kernel
theorem dX11_laysAll_48 : decode cX11_laysAll 48 = .ok (.iload_n 1, 1) := by decide +kernel
theorem dX11_laysAll_49 : decode cX11_laysAll 49 = .ok (.invokevirtual 134, 3) := by decide +kernel
theorem dX11_laysAll_52 : decode cX11_laysAll 52 = .ok (.iinc 4 1, 3) := by decide +kernel
theorem dX11_laysAll_55 : decode cX11_laysAll 55 = .ok (.goto (-18), 3) := by decide +kernel
theorem dX11_laysAll_58 : decode cX11_laysAll 58 = .ok (.iinc 3 1, 3) := by decide +kernel
theorem dX11_laysAll_61 : decode cX11_laysAll 61 = .ok (.goto (-46), 3) := by decide +kernel
theorem dX11_laysAll_64 : decode cX11_laysAll 64 = .ok (.iinc 2 (-1), 3) := by decide +kernel
theorem dX11_laysAll_67 : decode cX11_laysAll 67 = .ok (.goto (-58), 3) := by decide +kernel
theorem dX11_laysAll_70 : decode cX11_laysAll 70 = .ok (.return_, 1) := by decide +kernel
def sX11_laysAll_L37 (F : Nat) (l0 : Nat) (l1 : Int32) (l2 : Int32) (l3 : Int32) (l4 : Int32) (h : HP) : Option ((Int32 × HP) ⊕ HP) :=
  if (4 : Int32) ≤ l4 then
    some (.inr h)
  else
    (dO h 11 (some l0)).bind fun a6 =>
    (sX11_laysState F a6 l2 l3 l4 l1 h).bind fun h7 =>
    some (.inl (l4 + (1 : Int32), h7))
def sX11_laysAll_L15 (F : Nat) (l0 : Nat) (l1 : Int32) (l2 : Int32) (l3 : Int32) (h : HP) : Option ((Int32 × HP) ⊕ HP) :=
  (dO h 11 (some l0)).bind fun a4 =>
  (sX11_fingers F a4 h).bind fun t5 =>
  if t5 ≤ l3 then
    some (.inr h)
  else
    if ¬ ((jshr l2 l3) &&& (1 : Int32)) = 0 then
      (iter (fun s => sX11_laysAll_L37 F l0 l1 l2 l3 s.1 s.2) F ((0 : Int32), h)).bind fun h8 =>
        some (.inl (l3 + (1 : Int32), h8))
    else
      some (.inl (l3 + (1 : Int32), h))
def sX11_laysAll_L9 (F : Nat) (l0 : Nat) (l1 : Int32) (l2 : Int32) (h : HP) : Option ((Int32 × HP) ⊕ HP) :=
  if l2 ≤ 0 then
    some (.inr h)
  else
    (iter (fun s => sX11_laysAll_L15 F l0 l1 l2 s.1 s.2) F ((0 : Int32), h)).bind fun h12 =>
      some (.inl (l2 + (-1 : Int32), h12))
def sX11_laysAll (F : Nat) (l0 : Nat) (l1 : Int32) (h : HP) : Option HP :=
  (dO h 11 (some l0)).bind fun a1 =>
  (sX11_fingers F a1 h).bind fun t2 =>
  nmI ((jshl (1 : Int32) t2) - (1 : Int32)) fun l2_3 =>
  (iter (fun s => sX11_laysAll_L9 F l0 l1 s.1 s.2) F (l2_3, h)).bind fun h16 =>
    some h16
abbrev rm_X11_laysAll : Room := { frames := 5, cells := 0, slots := 0, locals := 127 }
set_option maxRecDepth 100000 in
set_option maxHeartbeats 4000000 in
theorem mt_X11_laysAll {w : WD} {l : Launch} {F : Nat} {l0 : Nat} {l1 : Int32} {h : HP} {h' : HP} (hs : sX11_laysAll F l0 l1 h = some h') : MV w l yX11_laysAll cX11_laysAll 5 rm_X11_laysAll 0 0 [rf w (some l0), .int l1] h h' := by
  refine of_body [(0, rf w (some l0)), (1, .int l1)] (by decide) (by simp [lg_sl, rf_cat, cat_i, cat_l, cat_a]) (by simp [lv_args, rf_cat, cat_i, cat_l, cat_a]) ?_
  intro x hw_ hnL_ hl_ hc hret hnm hQ
  subst hw_; subst hl_
  have hnl : ∀ i, i < 5 → i < x.nL := fun i h => by rw [hnL_]; exact h
  have hw : wpO (sX11_laysAll F l0 l1 h) (fun r => r = h') := ⟨_, hs, rfl⟩
  unfold sX11_laysAll at hw
  refine R_iconst (v := (1 : Int32)) hc dX11_laysAll_0 kI_1 ?_
  refine R_aload_n (q := 0) (i := 0) (v := (some l0)) hc dX11_laysAll_1 rfl rfl ?_
  refine R_cVI (As := []) (rest := [.int (1 : Int32)]) (r := (some l0)) (ci := 11) hc ml_11_103 mf_X11_fingers rfl (by decide) ⟨rfl, rfl⟩ ⟨le_b rfl, le_b rfl⟩ ⟨Nat.zero_le _, Nat.zero_le _⟩ (fun a v e => mt_X11_fingers e) rfl rfl (le_b rfl) dX11_laysAll_2 hw (fun t2 hw => ?_)
  refine R_ishl hc dX11_laysAll_5 ?_
  refine R_iconst (v := (1 : Int32)) hc dX11_laysAll_6 kI_1 ?_
  refine R_isub hc dX11_laysAll_7 ?_
  refine R_nmI hw (fun l2_3 hw => ?_)
  refine R_istore_n (i := 2) (v := l2_3) hc [(2, .int l2_3), (0, rf x.w (some l0)), (1, .int l1)] dX11_laysAll_8 rfl (hnl 2 (le_b rfl)) rfl ?_
  refine R_sub hc [1, 2, 0] rfl ?_
  refine R_loop (P := fun (s : (Int32 × HP)) => Rn x 0 0 9 [(0, rf x.w (some l0)), (1, .int l1), (2, .int s.1)] [] s.2) (fun h16 => Rn x 0 0 70 [] [] h16) hw (fun r hw => ?_) (fun X hX s hw => ?_)
  · revert r hw
    intro h16 hw
    show Rn x 0 0 70 [] [] h16
    exact R_return hc hret hQ hw dX11_laysAll_70
  · obtain ⟨l2_18, h19⟩ := s
    show Rn x 0 0 9 [(0, rf x.w (some l0)), (1, .int l1), (2, .int l2_18)] [] h19
    have hw : wpO (sX11_laysAll_L9 F l0 l1 l2_18 h19) _ := hw
    unfold sX11_laysAll_L9 at hw
    refine R_iload_n (q := 2) (i := 2) (v := l2_18) hc dX11_laysAll_9 rfl rfl ?_
    refine R_if_le (tgt := 70) hc dX11_laysAll_10 (by decide) hw (fun hw => ?_) (fun hw => ?_)
    · refine R_sub hc [] rfl ?_
      exact (wpO_some hw :)
    · refine R_iconst (v := (0 : Int32)) hc dX11_laysAll_13 kI_0 ?_
      refine R_istore_n (i := 3) (v := (0 : Int32)) hc [(3, .int (0 : Int32)), (0, rf x.w (some l0)), (1, .int l1), (2, .int l2_18)] dX11_laysAll_14 rfl (hnl 3 (le_b rfl)) rfl ?_
      refine R_sub hc [1, 2, 3, 0] rfl ?_
      refine R_loop (P := fun (s : (Int32 × HP)) => Rn x 0 0 15 [(0, rf x.w (some l0)), (1, .int l1), (2, .int l2_18), (3, .int s.1)] [] s.2) (fun h12 => Rn x 0 0 64 [(0, rf x.w (some l0)), (1, .int l1), (2, .int l2_18)] [] h12) hw (fun r hw => ?_) (fun X hX s hw => ?_)
      · revert r hw
        intro h12 hw
        show Rn x 0 0 64 [(0, rf x.w (some l0)), (1, .int l1), (2, .int l2_18)] [] h12
        refine R_iinc (q := 2) (i := 2) (v := l2_18) hc [(2, .int (l2_18 + (-1 : Int32))), (0, rf x.w (some l0)), (1, .int l1)] dX11_laysAll_64 rfl (kC_m1 _) (hnl 2 (le_b rfl)) rfl ?_
        refine R_goto (tgt := 9) hc dX11_laysAll_67 (by decide) ?_
        refine R_sub hc [1, 2, 0] rfl ?_
        exact hX (l2_18 + (-1 : Int32), h12) (wpO_some hw :)
      · obtain ⟨l3_14, h15⟩ := s
        show Rn x 0 0 15 [(0, rf x.w (some l0)), (1, .int l1), (2, .int l2_18), (3, .int l3_14)] [] h15
        have hw : wpO (sX11_laysAll_L15 F l0 l1 l2_18 l3_14 h15) _ := hw
        unfold sX11_laysAll_L15 at hw
        refine R_iload_n (q := 3) (i := 3) (v := l3_14) hc dX11_laysAll_15 rfl rfl ?_
        refine R_aload_n (q := 0) (i := 0) (v := (some l0)) hc dX11_laysAll_16 rfl rfl ?_
        refine R_cVI (As := []) (rest := [.int l3_14]) (r := (some l0)) (ci := 11) hc ml_11_103 mf_X11_fingers rfl (by decide) ⟨rfl, rfl⟩ ⟨le_b rfl, le_b rfl⟩ ⟨Nat.zero_le _, Nat.zero_le _⟩ (fun a v e => mt_X11_fingers e) rfl rfl (le_b rfl) dX11_laysAll_17 hw (fun t5 hw => ?_)
        refine R_icmp_ge (tgt := 64) hc dX11_laysAll_20 (by decide) hw (fun hw => ?_) (fun hw => ?_)
        · refine R_sub hc [0, 1, 2] rfl ?_
          exact (wpO_some hw :)
        · refine R_iload_n (q := 2) (i := 2) (v := l2_18) hc dX11_laysAll_23 rfl rfl ?_
          refine R_iload_n (q := 3) (i := 3) (v := l3_14) hc dX11_laysAll_24 rfl rfl ?_
          refine R_ishr hc dX11_laysAll_25 ?_
          refine R_iconst (v := (1 : Int32)) hc dX11_laysAll_26 kI_1 ?_
          refine R_iand hc dX11_laysAll_27 ?_
          refine R_if_ne (tgt := 34) hc dX11_laysAll_28 (by decide) hw (fun hw => ?_) (fun hw => ?_)
          · refine R_iconst (v := (0 : Int32)) hc dX11_laysAll_34 kI_0 ?_
            refine R_istore (i := 4) (v := (0 : Int32)) hc [(4, .int (0 : Int32)), (0, rf x.w (some l0)), (1, .int l1), (2, .int l2_18), (3, .int l3_14)] dX11_laysAll_35 (hnl 4 (le_b rfl)) rfl ?_
            refine R_sub hc [1, 2, 3, 4, 0] rfl ?_
            refine R_loop (P := fun (s : (Int32 × HP)) => Rn x 0 0 37 [(0, rf x.w (some l0)), (1, .int l1), (2, .int l2_18), (3, .int l3_14), (4, .int s.1)] [] s.2) (fun h8 => Rn x 0 0 58 [(0, rf x.w (some l0)), (1, .int l1), (2, .int l2_18), (3, .int l3_14)] [] h8) hw (fun r hw => ?_) (fun X hX s hw => ?_)
            · revert r hw
              intro h8 hw
              show Rn x 0 0 58 [(0, rf x.w (some l0)), (1, .int l1), (2, .int l2_18), (3, .int l3_14)] [] h8
              refine R_iinc (q := 3) (i := 3) (v := l3_14) hc [(3, .int (l3_14 + (1 : Int32))), (0, rf x.w (some l0)), (1, .int l1), (2, .int l2_18)] dX11_laysAll_58 rfl (kC_1 _) (hnl 3 (le_b rfl)) rfl ?_
              refine R_goto (tgt := 15) hc dX11_laysAll_61 (by decide) ?_
              refine R_sub hc [1, 2, 3, 0] rfl ?_
              exact hX (l3_14 + (1 : Int32), h8) (wpO_some hw :)
            · obtain ⟨l4_10, h11⟩ := s
              show Rn x 0 0 37 [(0, rf x.w (some l0)), (1, .int l1), (2, .int l2_18), (3, .int l3_14), (4, .int l4_10)] [] h11
              have hw : wpO (sX11_laysAll_L37 F l0 l1 l2_18 l3_14 l4_10 h11) _ := hw
              unfold sX11_laysAll_L37 at hw
              refine R_iload (q := 4) (i := 4) (v := l4_10) hc dX11_laysAll_37 rfl ?_
              refine R_iconst (v := (4 : Int32)) hc dX11_laysAll_39 kI_4 ?_
              refine R_icmp_ge (tgt := 58) hc dX11_laysAll_40 (by decide) hw (fun hw => ?_) (fun hw => ?_)
              · refine R_sub hc [0, 1, 2, 3] rfl ?_
                exact (wpO_some hw :)
              · refine R_aload_n (q := 0) (i := 0) (v := (some l0)) hc dX11_laysAll_43 rfl rfl ?_
                refine R_iload_n (q := 2) (i := 2) (v := l2_18) hc dX11_laysAll_44 rfl rfl ?_
                refine R_iload_n (q := 3) (i := 3) (v := l3_14) hc dX11_laysAll_45 rfl rfl ?_
                refine R_iload (q := 4) (i := 4) (v := l4_10) hc dX11_laysAll_46 rfl ?_
                refine R_iload_n (q := 1) (i := 1) (v := l1) hc dX11_laysAll_48 rfl rfl ?_
                refine R_cVVi (As := [.int l2_18, .int l3_14, .int l4_10, .int l1]) (rest := []) (r := (some l0)) (ci := 11) hc ml_11_134 mf_X11_laysState rfl (by decide) ⟨rfl, rfl⟩ ⟨le_b rfl, le_b rfl⟩ ⟨Nat.zero_le _, Nat.zero_le _⟩ (fun a h' e => mt_X11_laysState e) rfl rfl (Nat.zero_le _) dX11_laysAll_49 hw (fun h7 hw => ?_)
                refine R_iinc (q := 4) (i := 4) (v := l4_10) hc [(4, .int (l4_10 + (1 : Int32))), (0, rf x.w (some l0)), (1, .int l1), (2, .int l2_18), (3, .int l3_14)] dX11_laysAll_52 rfl (kC_1 _) (hnl 4 (le_b rfl)) rfl ?_
                refine R_goto (tgt := 37) hc dX11_laysAll_55 (by decide) ?_
                refine R_sub hc [1, 2, 3, 4, 0] rfl ?_
                exact hX (l4_10 + (1 : Int32), h7) (wpO_some hw :)
          · refine R_goto (tgt := 58) hc dX11_laysAll_31 (by decide) ?_
            refine R_iinc (q := 3) (i := 3) (v := l3_14) hc [(3, .int (l3_14 + (1 : Int32))), (0, rf x.w (some l0)), (1, .int l1), (2, .int l2_18)] dX11_laysAll_58 rfl (kC_1 _) (hnl 3 (le_b rfl)) rfl ?_
            refine R_goto (tgt := 15) hc dX11_laysAll_61 (by decide) ?_
            refine R_sub hc [1, 2, 3, 0] rfl ?_
            exact hX (l3_14 + (1 : Int32), h15) (wpO_some hw :)
theorem dX11_laysBest_0 : decode cX11_laysBest 0 = .ok (.aload_n 0, 1) := by decide +kernel
theorem dX11_laysBest_1 : decode cX11_laysBest 1 = .ok (.iconst (-1), 1) := by decide +kernel
theorem dX11_laysBest_2 : decode cX11_laysBest 2 = .ok (.invokevirtual 138, 3) := by decide +kernel
theorem dX11_laysBest_5 : decode cX11_laysBest 5 = .ok (.aload_n 0, 1) := by decide +kernel
theorem dX11_laysBest_6 : decode cX11_laysBest 6 = .ok (.aload_n 0, 1) := by decide +kernel
theorem dX11_laysBest_7 : decode cX11_laysBest 7 = .ok (.invokevirtual 103, 3) := by decide +kernel
theorem dX11_laysBest_10 : decode cX11_laysBest 10 = .ok (.ifCond .ne 7, 3) := by decide +kernel
theorem dX11_laysBest_13 : decode cX11_laysBest 13 = .ok (.iconst 0, 1) := by decide +kernel
theorem dX11_laysBest_14 : decode cX11_laysBest 14 = .ok (.goto 6, 3) := by decide +kernel
theorem dX11_laysBest_17 : decode cX11_laysBest 17 = .ok (.sipush 1000, 3) := by decide +kernel
theorem dX11_laysBest_20 : decode cX11_laysBest 20 = .ok (.putfield 142, 3) := by decide +kernel
theorem dX11_laysBest_23 : decode cX11_laysBest 23 = .ok (.aload_n 0, 1) := by decide +kernel
theorem dX11_laysBest_24 : decode cX11_laysBest 24 = .ok (.aload_n 0, 1) := by decide +kernel
theorem dX11_laysBest_25 : decode cX11_laysBest 25 = .ok (.invokevirtual 103, 3) := by decide +kernel
theorem dX11_laysBest_28 : decode cX11_laysBest 28 = .ok (.ifCond .ne 7, 3) := by decide +kernel
theorem dX11_laysBest_31 : decode cX11_laysBest 31 = .ok (.lconst 1, 1) := by decide +kernel
theorem dX11_laysBest_32 : decode cX11_laysBest 32 = .ok (.goto 4, 3) := by decide +kernel
theorem dX11_laysBest_35 : decode cX11_laysBest 35 = .ok (.lconst 0, 1) := by decide +kernel
theorem dX11_laysBest_36 : decode cX11_laysBest 36 = .ok (.putfield 145, 3) := by decide +kernel
theorem dX11_laysBest_39 : decode cX11_laysBest 39 = .ok (.aload_n 0, 1) := by decide +kernel
theorem dX11_laysBest_40 : decode cX11_laysBest 40 = .ok (.iconst 0, 1) := by decide +kernel
theorem dX11_laysBest_41 : decode cX11_laysBest 41 = .ok (.putfield 149, 3) := by decide +kernel
theorem dX11_laysBest_44 : decode cX11_laysBest 44 = .ok (.iconst 0, 1) := by decide +kernel
theorem dX11_laysBest_45 : decode cX11_laysBest 45 = .ok (.istore_n 1, 1) := by decide +kernel
theorem dX11_laysBest_46 : decode cX11_laysBest 46 = .ok (.iload_n 1, 1) := by decide +kernel
theorem dX11_laysBest_47 : decode cX11_laysBest 47 = .ok (.aload_n 0, 1) := by decide +kernel
theorem dX11_laysBest_48 : decode cX11_laysBest 48 = .ok (.invokevirtual 103, 3) := by decide +kernel
theorem dX11_laysBest_51 : decode cX11_laysBest 51 = .ok (.if_icmp .ge 114, 3) := by decide +kernel
theorem dX11_laysBest_54 : decode cX11_laysBest 54 = .ok (.iconst 0, 1) := by decide +kernel
theorem dX11_laysBest_55 : decode cX11_laysBest 55 = .ok (.istore_n 2, 1) := by decide +kernel
theorem dX11_laysBest_56 : decode cX11_laysBest 56 = .ok (.iload_n 2, 1) := by decide +kernel
theorem dX11_laysBest_57 : decode cX11_laysBest 57 = .ok (.iconst 4, 1) := by decide +kernel
theorem dX11_laysBest_58 : decode cX11_laysBest 58 = .ok (.if_icmp .ge 101, 3) := by decide +kernel
theorem dX11_laysBest_61 : decode cX11_laysBest 61 = .ok (.iconst 1, 1) := by decide +kernel
theorem dX11_laysBest_62 : decode cX11_laysBest 62 = .ok (.iload_n 1, 1) := by decide +kernel
theorem dX11_laysBest_63 : decode cX11_laysBest 63 = .ok (.ishl, 1) := by decide +kernel
theorem dX11_laysBest_64 : decode cX11_laysBest 64 = .ok (.iload_n 1, 1) := by decide +kernel
theorem dX11_laysBest_65 : decode cX11_laysBest 65 = .ok (.iload_n 2, 1) := by decide +kernel
theorem dX11_laysBest_66 : decode cX11_laysBest 66 = .ok (.invokestatic 123, 3) := by decide +kernel
theorem dX11_laysBest_69 : decode cX11_laysBest 69 = .ok (.istore_n 3, 1) := by decide +kernel
theorem dX11_laysBest_70 : decode cX11_laysBest 70 = .ok (.aload_n 0, 1) := by decide +kernel
theorem dX11_laysBest_71 : decode cX11_laysBest 71 = .ok (.getfield 29, 3) := by decide +kernel
theorem dX11_laysBest_74 : decode cX11_laysBest 74 = .ok (.iload_n 3, 1) := by decide +kernel
theorem dX11_laysBest_75 : decode cX11_laysBest 75 = .ok (.iaload, 1) := by decide +kernel
theorem dX11_laysBest_76 : decode cX11_laysBest 76 = .ok (.aload_n 0, 1) := by decide +kernel
theorem dX11_laysBest_77 : decode cX11_laysBest 77 = .ok (.getfield 142, 3) := by decide +kernel
theorem dX11_laysBest_80 : decode cX11_laysBest 80 = .ok (.if_icmp .le 6, 3) := by decide +kernel
theorem dX11_laysBest_83 : decode cX11_laysBest 83 = .ok (.goto 70, 3) := by decide +kernel
theorem dX11_laysBest_86 : decode cX11_laysBest 86 = .ok (.aload_n 0, 1) := by decide +kernel
theorem dX11_laysBest_87 : decode cX11_laysBest 87 = .ok (.getfield 29, 3) := by decide +kernel
theorem dX11_laysBest_90 : decode cX11_laysBest 90 = .ok (.iload_n 3, 1) := by decide +kernel
theorem dX11_laysBest_91 : decode cX11_laysBest 91 = .ok (.iaload, 1) := by decide +kernel
theorem dX11_laysBest_92 : decode cX11_laysBest 92 = .ok (.aload_n 0, 1) := by decide +kernel
theorem dX11_laysBest_93 : decode cX11_laysBest 93 = .ok (.getfield 142, 3) := by decide +kernel
theorem dX11_laysBest_96 : decode cX11_laysBest 96 = .ok (.if_icmp .ge 25, 3) := by decide +kernel
theorem dX11_laysBest_99 : decode cX11_laysBest 99 = .ok (.aload_n 0, 1) := by decide +kernel
theorem dX11_laysBest_100 : decode cX11_laysBest 100 = .ok (.aload_n 0, 1) := by decide +kernel
theorem dX11_laysBest_101 : decode cX11_laysBest 101 = .ok (.getfield 29, 3) := by decide +kernel
theorem dX11_laysBest_104 : decode cX11_laysBest 104 = .ok (.iload_n 3, 1) := by decide +kernel
theorem dX11_laysBest_105 : decode cX11_laysBest 105 = .ok (.iaload, 1) := by decide +kernel
theorem dX11_laysBest_106 : decode cX11_laysBest 106 = .ok (.putfield 142, 3) := by decide +kernel
theorem dX11_laysBest_109 : decode cX11_laysBest 109 = .ok (.aload_n 0, 1) := by decide +kernel
theorem dX11_laysBest_110 : decode cX11_laysBest 110 = .ok (.lconst 0, 1) := by decide +kernel
theorem dX11_laysBest_111 : decode cX11_laysBest 111 = .ok (.putfield 145, 3) := by decide +kernel
theorem dX11_laysBest_114 : decode cX11_laysBest 114 = .ok (.aload_n 0, 1) := by decide +kernel
theorem dX11_laysBest_115 : decode cX11_laysBest 115 = .ok (.sipush 1000, 3) := by decide +kernel
theorem dX11_laysBest_118 : decode cX11_laysBest 118 = .ok (.putfield 149, 3) := by decide +kernel
theorem dX11_laysBest_121 : decode cX11_laysBest 121 = .ok (.aload_n 0, 1) := by decide +kernel
theorem dX11_laysBest_122 : decode cX11_laysBest 122 = .ok (.dup, 1) := by decide +kernel
theorem dX11_laysBest_123 : decode cX11_laysBest 123 = .ok (.getfield 145, 3) := by decide +kernel
theorem dX11_laysBest_126 : decode cX11_laysBest 126 = .ok (.aload_n 0, 1) := by decide +kernel
theorem dX11_laysBest_127 : decode cX11_laysBest 127 = .ok (.getfield 32, 3) := by decide +kernel
theorem dX11_laysBest_130 : decode cX11_laysBest 130 = .ok (.iload_n 3, 1) := by decide +kernel
theorem dX11_laysBest_131 : decode cX11_laysBest 131 = .ok (.laload, 1) := by decide +kernel
theorem dX11_laysBest_132 : decode cX11_laysBest 132 = .ok (.ladd, 1) := by decide +kernel
theorem dX11_laysBest_133 : decode cX11_laysBest 133 = .ok (.putfield 145, 3) := by decide +kernel
theorem dX11_laysBest_136 : decode cX11_laysBest 136 = .ok (.aload_n 0, 1) := by decide +kernel
theorem dX11_laysBest_137 : decode cX11_laysBest 137 = .ok (.aload_n 0, 1) := by decide +kernel
theorem dX11_laysBest_138 : decode cX11_laysBest 138 = .ok (.getfield 149, 3) := by decide +kernel
theorem dX11_laysBest_141 : decode cX11_laysBest 141 = .ok (.aload_n 0, 1) := by decide +kernel
theorem dX11_laysBest_142 : decode cX11_laysBest 142 = .ok (.getfield 36, 3) := by decide +kernel
theorem dX11_laysBest_145 : decode cX11_laysBest 145 = .ok (.iload_n 3, 1) := by decide +kernel
theorem dX11_laysBest_146 : decode cX11_laysBest 146 = .ok (.iaload, 1) := by decide +kernel
theorem dX11_laysBest_147 : decode cX11_laysBest 147 = .ok (.invokestatic 131, 3) := by decide +kernel
theorem dX11_laysBest_150 : decode cX11_laysBest 150 = .ok (.putfield 149, 3) := by decide +kernel
theorem dX11_laysBest_153 : decode cX11_laysBest 153 = .ok (.iinc 2 1, 3) := by decide +kernel
theorem dX11_laysBest_156 : decode cX11_laysBest 156 = .ok (.goto (-100), 3) := by decide +kernel
theorem dX11_laysBest_159 : decode cX11_laysBest 159 = .ok (.iinc 1 1, 3) := by decide +kernel
theorem dX11_laysBest_162 : decode cX11_laysBest 162 = .ok (.goto (-116), 3) := by decide +kernel
theorem dX11_laysBest_165 : decode cX11_laysBest 165 = .ok (.return_, 1) := by decide +kernel
def sX11_laysBest_L56 (F : Nat) (l0 : Nat) (l1 : Int32) (l2 : Int32) (h : HP) : Option ((Int32 × HP) ⊕ HP) :=
  if (4 : Int32) ≤ l2 then
    some (.inr h)
  else
    (sX11_state F (jshl (1 : Int32) l1) l1 l2 h).bind fun t14 =>
    (gR h 11 (some l0) 12).bind fun t15 =>
    (aI h 13 t15 t14).bind fun t16 =>
    (gI h 11 (some l0) 17).bind fun t17 =>
    if t16 ≤ t17 then
      (gR h 11 (some l0) 12).bind fun t18 =>
      (aI h 13 t18 t14).bind fun t19 =>
      (gI h 11 (some l0) 17).bind fun t20 =>
      (if t20 ≤ t19 then
          some h
        else
          (gR h 11 (some l0) 12).bind fun t22 =>
          (aI h 13 t22 t14).bind fun t23 =>
          (pI h 11 (some l0) 17 t23).bind fun h24 =>
          (pJ h24 11 (some l0) 18 (0 : Int64)).bind fun h25 =>
          (pI h25 11 (some l0) 19 (1000 : Int32)).bind fun h26 =>
          some h26).bind fun h21 =>
      (gJ h21 11 (some l0) 18).bind fun t27 =>
      (gR h21 11 (some l0) 13).bind fun t28 =>
      (aJ h21 t28 t14).bind fun t29 =>
      (pJ h21 11 (some l0) 18 (t27 + t29)).bind fun h30 =>
      (gI h30 11 (some l0) 19).bind fun t31 =>
      (gR h30 11 (some l0) 14).bind fun t32 =>
      (aI h30 13 t32 t14).bind fun t33 =>
      (sX11_lesser F t31 t33 h30).bind fun t34 =>
      (pI h30 11 (some l0) 19 t34).bind fun h35 =>
      some (.inl (l2 + (1 : Int32), h35))
    else
      some (.inl (l2 + (1 : Int32), h))
def sX11_laysBest_L46 (F : Nat) (l0 : Nat) (l1 : Int32) (h : HP) : Option ((Int32 × HP) ⊕ HP) :=
  (dO h 11 (some l0)).bind fun a12 =>
  (sX11_fingers F a12 h).bind fun t13 =>
  if t13 ≤ l1 then
    some (.inr h)
  else
    (iter (fun s => sX11_laysBest_L56 F l0 l1 s.1 s.2) F ((0 : Int32), h)).bind fun h36 =>
      some (.inl (l1 + (1 : Int32), h36))
def sX11_laysBest (F : Nat) (l0 : Nat) (h : HP) : Option HP :=
  (dO h 11 (some l0)).bind fun a1 =>
  (sX11_laysAll F a1 (-1 : Int32) h).bind fun h2 =>
  (dO h2 11 (some l0)).bind fun a3 =>
  (sX11_fingers F a3 h2).bind fun t4 =>
  (if ¬ t4 = 0 then
      some (1000 : Int32)
    else
      some (0 : Int32)).bind fun s5 =>
  (pI h2 11 (some l0) 17 s5).bind fun h6 =>
  (dO h6 11 (some l0)).bind fun a7 =>
  (sX11_fingers F a7 h6).bind fun t8 =>
  (if ¬ t8 = 0 then
      some (0 : Int64)
    else
      some (1 : Int64)).bind fun s9 =>
  (pJ h6 11 (some l0) 18 s9).bind fun h10 =>
  (pI h10 11 (some l0) 19 (0 : Int32)).bind fun h11 =>
  (iter (fun s => sX11_laysBest_L46 F l0 s.1 s.2) F ((0 : Int32), h11)).bind fun h40 =>
    some h40
abbrev rm_X11_laysBest : Room := { frames := 6, cells := 0, slots := 0, locals := 151 }
set_option maxRecDepth 100000 in
set_option maxHeartbeats 4000000 in
theorem mt_X11_laysBest {w : WD} {l : Launch} {F : Nat} {l0 : Nat} {h : HP} {h' : HP} (hs : sX11_laysBest F l0 h = some h') : MV w l yX11_laysBest cX11_laysBest 4 rm_X11_laysBest 0 0 [rf w (some l0)] h h' := by
  refine of_body [(0, rf w (some l0))] (by decide) (by simp [lg_sl, rf_cat, cat_i, cat_l, cat_a]) (by simp [lv_args, rf_cat, cat_i, cat_l, cat_a]) ?_
  intro x hw_ hnL_ hl_ hc hret hnm hQ
  subst hw_; subst hl_
  have hnl : ∀ i, i < 4 → i < x.nL := fun i h => by rw [hnL_]; exact h
  have hw : wpO (sX11_laysBest F l0 h) (fun r => r = h') := ⟨_, hs, rfl⟩
  unfold sX11_laysBest at hw
  refine R_aload_n (q := 0) (i := 0) (v := (some l0)) hc dX11_laysBest_0 rfl rfl ?_
  refine R_iconst (v := (-1 : Int32)) hc dX11_laysBest_1 kI_m1 ?_
  refine R_cVVi (As := [.int (-1 : Int32)]) (rest := []) (r := (some l0)) (ci := 11) hc ml_11_138 mf_X11_laysAll rfl (by decide) ⟨rfl, rfl⟩ ⟨le_b rfl, le_b rfl⟩ ⟨Nat.zero_le _, Nat.zero_le _⟩ (fun a h' e => mt_X11_laysAll e) rfl rfl (Nat.zero_le _) dX11_laysBest_2 hw (fun h2 hw => ?_)
  refine R_aload_n (q := 0) (i := 0) (v := (some l0)) hc dX11_laysBest_5 rfl rfl ?_
  refine R_aload_n (q := 0) (i := 0) (v := (some l0)) hc dX11_laysBest_6 rfl rfl ?_
  refine R_cVI (As := []) (rest := [rf x.w (some l0)]) (r := (some l0)) (ci := 11) hc ml_11_103 mf_X11_fingers rfl (by decide) ⟨rfl, rfl⟩ ⟨le_b rfl, le_b rfl⟩ ⟨Nat.zero_le _, Nat.zero_le _⟩ (fun a v e => mt_X11_fingers e) rfl rfl (le_b rfl) dX11_laysBest_7 hw (fun t4 hw => ?_)
  refine R_join (fun (s5 : Int32) => Rn x 0 0 20 [(0, rf x.w (some l0))] [.int s5, rf x.w (some l0)] h2) hw (fun r hw => ?_) (fun hw => ?_)
  · revert r hw
    intro s5 hw
    show Rn x 0 0 20 [(0, rf x.w (some l0))] [.int s5, rf x.w (some l0)] h2
    refine R_putI hc pl_11_142 rfl rfl dX11_laysBest_20 hw (fun h6 hw => ?_)
    refine R_aload_n (q := 0) (i := 0) (v := (some l0)) hc dX11_laysBest_23 rfl rfl ?_
    refine R_aload_n (q := 0) (i := 0) (v := (some l0)) hc dX11_laysBest_24 rfl rfl ?_
    refine R_cVI (As := []) (rest := [rf x.w (some l0)]) (r := (some l0)) (ci := 11) hc ml_11_103 mf_X11_fingers rfl (by decide) ⟨rfl, rfl⟩ ⟨le_b rfl, le_b rfl⟩ ⟨Nat.zero_le _, Nat.zero_le _⟩ (fun a v e => mt_X11_fingers e) rfl rfl (le_b rfl) dX11_laysBest_25 hw (fun t8 hw => ?_)
    refine R_join (fun (s9 : Int64) => Rn x 0 0 36 [(0, rf x.w (some l0))] [.long s9, rf x.w (some l0)] h6) hw (fun r hw => ?_) (fun hw => ?_)
    · revert r hw
      intro s9 hw
      show Rn x 0 0 36 [(0, rf x.w (some l0))] [.long s9, rf x.w (some l0)] h6
      refine R_putJ hc pl_11_145 rfl rfl dX11_laysBest_36 hw (fun h10 hw => ?_)
      refine R_aload_n (q := 0) (i := 0) (v := (some l0)) hc dX11_laysBest_39 rfl rfl ?_
      refine R_iconst (v := (0 : Int32)) hc dX11_laysBest_40 kI_0 ?_
      refine R_putI hc pl_11_149 rfl rfl dX11_laysBest_41 hw (fun h11 hw => ?_)
      refine R_iconst (v := (0 : Int32)) hc dX11_laysBest_44 kI_0 ?_
      refine R_istore_n (i := 1) (v := (0 : Int32)) hc [(1, .int (0 : Int32)), (0, rf x.w (some l0))] dX11_laysBest_45 rfl (hnl 1 (le_b rfl)) rfl ?_
      refine R_sub hc [1, 0] rfl ?_
      refine R_loop (P := fun (s : (Int32 × HP)) => Rn x 0 0 46 [(0, rf x.w (some l0)), (1, .int s.1)] [] s.2) (fun h40 => Rn x 0 0 165 [] [] h40) hw (fun r hw => ?_) (fun X hX s hw => ?_)
      · revert r hw
        intro h40 hw
        show Rn x 0 0 165 [] [] h40
        exact R_return hc hret hQ hw dX11_laysBest_165
      · obtain ⟨l1_42, h43⟩ := s
        show Rn x 0 0 46 [(0, rf x.w (some l0)), (1, .int l1_42)] [] h43
        have hw : wpO (sX11_laysBest_L46 F l0 l1_42 h43) _ := hw
        unfold sX11_laysBest_L46 at hw
        refine R_iload_n (q := 1) (i := 1) (v := l1_42) hc dX11_laysBest_46 rfl rfl ?_
        refine R_aload_n (q := 0) (i := 0) (v := (some l0)) hc dX11_laysBest_47 rfl rfl ?_
        refine R_cVI (As := []) (rest := [.int l1_42]) (r := (some l0)) (ci := 11) hc ml_11_103 mf_X11_fingers rfl (by decide) ⟨rfl, rfl⟩ ⟨le_b rfl, le_b rfl⟩ ⟨Nat.zero_le _, Nat.zero_le _⟩ (fun a v e => mt_X11_fingers e) rfl rfl (le_b rfl) dX11_laysBest_48 hw (fun t13 hw => ?_)
        refine R_icmp_ge (tgt := 165) hc dX11_laysBest_51 (by decide) hw (fun hw => ?_) (fun hw => ?_)
        · refine R_sub hc [] rfl ?_
          exact (wpO_some hw :)
        · refine R_iconst (v := (0 : Int32)) hc dX11_laysBest_54 kI_0 ?_
          refine R_istore_n (i := 2) (v := (0 : Int32)) hc [(2, .int (0 : Int32)), (0, rf x.w (some l0)), (1, .int l1_42)] dX11_laysBest_55 rfl (hnl 2 (le_b rfl)) rfl ?_
          refine R_sub hc [1, 2, 0] rfl ?_
          refine R_loop (P := fun (s : (Int32 × HP)) => Rn x 0 0 56 [(0, rf x.w (some l0)), (1, .int l1_42), (2, .int s.1)] [] s.2) (fun h36 => Rn x 0 0 159 [(0, rf x.w (some l0)), (1, .int l1_42)] [] h36) hw (fun r hw => ?_) (fun X hX s hw => ?_)
          · revert r hw
            intro h36 hw
            show Rn x 0 0 159 [(0, rf x.w (some l0)), (1, .int l1_42)] [] h36
            refine R_iinc (q := 1) (i := 1) (v := l1_42) hc [(1, .int (l1_42 + (1 : Int32))), (0, rf x.w (some l0))] dX11_laysBest_159 rfl (kC_1 _) (hnl 1 (le_b rfl)) rfl ?_
            refine R_goto (tgt := 46) hc dX11_laysBest_162 (by decide) ?_
            refine R_sub hc [1, 0] rfl ?_
            exact hX (l1_42 + (1 : Int32), h36) (wpO_some hw :)
          · obtain ⟨l2_38, h39⟩ := s
            show Rn x 0 0 56 [(0, rf x.w (some l0)), (1, .int l1_42), (2, .int l2_38)] [] h39
            have hw : wpO (sX11_laysBest_L56 F l0 l1_42 l2_38 h39) _ := hw
            unfold sX11_laysBest_L56 at hw
            refine R_iload_n (q := 2) (i := 2) (v := l2_38) hc dX11_laysBest_56 rfl rfl ?_
            refine R_iconst (v := (4 : Int32)) hc dX11_laysBest_57 kI_4 ?_
            refine R_icmp_ge (tgt := 159) hc dX11_laysBest_58 (by decide) hw (fun hw => ?_) (fun hw => ?_)
            · refine R_sub hc [0, 1] rfl ?_
              exact (wpO_some hw :)
            · refine R_iconst (v := (1 : Int32)) hc dX11_laysBest_61 kI_1 ?_
              refine R_iload_n (q := 1) (i := 1) (v := l1_42) hc dX11_laysBest_62 rfl rfl ?_
              refine R_ishl hc dX11_laysBest_63 ?_
              refine R_iload_n (q := 1) (i := 1) (v := l1_42) hc dX11_laysBest_64 rfl rfl ?_
              refine R_iload_n (q := 2) (i := 2) (v := l2_38) hc dX11_laysBest_65 rfl rfl ?_
              refine R_cSI (As := [.int (jshl (1 : Int32) l1_42), .int l1_42, .int l2_38]) (rest := []) hc ml_11_123 mf_X11_state ⟨rfl, rfl⟩ ⟨le_b rfl, le_b rfl⟩ ⟨Nat.zero_le _, Nat.zero_le _⟩ (fun v e => mt_X11_state e) rfl rfl (Nat.zero_le _) dX11_laysBest_66 hw (fun t14 hw => ?_)
              refine R_istore_n (i := 3) (v := t14) hc [(3, .int t14), (0, rf x.w (some l0)), (1, .int l1_42), (2, .int l2_38)] dX11_laysBest_69 rfl (hnl 3 (le_b rfl)) rfl ?_
              refine R_aload_n (q := 1) (i := 0) (v := (some l0)) hc dX11_laysBest_70 rfl rfl ?_
              refine R_getR hc fl_11_29 dX11_laysBest_71 hw (fun t15 hw => ?_)
              refine R_iload_n (q := 0) (i := 3) (v := t14) hc dX11_laysBest_74 rfl rfl ?_
              refine R_iaload hc dX11_laysBest_75 hw (fun t16 hw => ?_)
              refine R_aload_n (q := 1) (i := 0) (v := (some l0)) hc dX11_laysBest_76 rfl rfl ?_
              refine R_getI hc fl_11_142 dX11_laysBest_77 hw (fun t17 hw => ?_)
              refine R_icmp_le (tgt := 86) hc dX11_laysBest_80 (by decide) hw (fun hw => ?_) (fun hw => ?_)
              · refine R_aload_n (q := 1) (i := 0) (v := (some l0)) hc dX11_laysBest_86 rfl rfl ?_
                refine R_getR hc fl_11_29 dX11_laysBest_87 hw (fun t18 hw => ?_)
                refine R_iload_n (q := 0) (i := 3) (v := t14) hc dX11_laysBest_90 rfl rfl ?_
                refine R_iaload hc dX11_laysBest_91 hw (fun t19 hw => ?_)
                refine R_aload_n (q := 1) (i := 0) (v := (some l0)) hc dX11_laysBest_92 rfl rfl ?_
                refine R_getI hc fl_11_142 dX11_laysBest_93 hw (fun t20 hw => ?_)
                refine R_join (fun (h21 : HP) => Rn x 0 0 121 [(0, rf x.w (some l0)), (1, .int l1_42), (2, .int l2_38), (3, .int t14)] [] h21) hw (fun r hw => ?_) (fun hw => ?_)
                · revert r hw
                  intro h21 hw
                  show Rn x 0 0 121 [(0, rf x.w (some l0)), (1, .int l1_42), (2, .int l2_38), (3, .int t14)] [] h21
                  refine R_aload_n (q := 0) (i := 0) (v := (some l0)) hc dX11_laysBest_121 rfl rfl ?_
                  refine R_dup hc dX11_laysBest_122 (rf_cat _ _) ?_
                  refine R_getJ hc fl_11_145 dX11_laysBest_123 hw (fun t27 hw => ?_)
                  refine R_aload_n (q := 0) (i := 0) (v := (some l0)) hc dX11_laysBest_126 rfl rfl ?_
                  refine R_getR hc fl_11_32 dX11_laysBest_127 hw (fun t28 hw => ?_)
                  refine R_iload_n (q := 3) (i := 3) (v := t14) hc dX11_laysBest_130 rfl rfl ?_
                  refine R_laload hc dX11_laysBest_131 hw (fun t29 hw => ?_)
                  refine R_ladd hc dX11_laysBest_132 ?_
                  refine R_putJ hc pl_11_145 rfl rfl dX11_laysBest_133 hw (fun h30 hw => ?_)
                  refine R_aload_n (q := 0) (i := 0) (v := (some l0)) hc dX11_laysBest_136 rfl rfl ?_
                  refine R_aload_n (q := 0) (i := 0) (v := (some l0)) hc dX11_laysBest_137 rfl rfl ?_
                  refine R_getI hc fl_11_149 dX11_laysBest_138 hw (fun t31 hw => ?_)
                  refine R_aload_n (q := 0) (i := 0) (v := (some l0)) hc dX11_laysBest_141 rfl rfl ?_
                  refine R_getR hc fl_11_36 dX11_laysBest_142 hw (fun t32 hw => ?_)
                  refine R_iload_n (q := 3) (i := 3) (v := t14) hc dX11_laysBest_145 rfl rfl ?_
                  refine R_iaload hc dX11_laysBest_146 hw (fun t33 hw => ?_)
                  refine R_cSI (As := [.int t31, .int t33]) (rest := [rf x.w (some l0)]) hc ml_11_131 mf_X11_lesser ⟨rfl, rfl⟩ ⟨le_b rfl, le_b rfl⟩ ⟨Nat.zero_le _, Nat.zero_le _⟩ (fun v e => mt_X11_lesser e) rfl rfl (le_b rfl) dX11_laysBest_147 hw (fun t34 hw => ?_)
                  refine R_putI hc pl_11_149 rfl rfl dX11_laysBest_150 hw (fun h35 hw => ?_)
                  refine R_iinc (q := 2) (i := 2) (v := l2_38) hc [(2, .int (l2_38 + (1 : Int32))), (0, rf x.w (some l0)), (1, .int l1_42), (3, .int t14)] dX11_laysBest_153 rfl (kC_1 _) (hnl 2 (le_b rfl)) rfl ?_
                  refine R_goto (tgt := 56) hc dX11_laysBest_156 (by decide) ?_
                  refine R_sub hc [1, 2, 0] rfl ?_
                  exact hX (l2_38 + (1 : Int32), h35) (wpO_some hw :)
                · refine R_icmp_ge (tgt := 121) hc dX11_laysBest_96 (by decide) hw (fun hw => ?_) (fun hw => ?_)
                  · refine R_sub hc [1, 2, 3, 0] rfl ?_
                    exact (wpO_some hw :)
                  · refine R_aload_n (q := 1) (i := 0) (v := (some l0)) hc dX11_laysBest_99 rfl rfl ?_
                    refine R_aload_n (q := 1) (i := 0) (v := (some l0)) hc dX11_laysBest_100 rfl rfl ?_
                    refine R_getR hc fl_11_29 dX11_laysBest_101 hw (fun t22 hw => ?_)
                    refine R_iload_n (q := 0) (i := 3) (v := t14) hc dX11_laysBest_104 rfl rfl ?_
                    refine R_iaload hc dX11_laysBest_105 hw (fun t23 hw => ?_)
                    refine R_putI hc pl_11_142 rfl rfl dX11_laysBest_106 hw (fun h24 hw => ?_)
                    refine R_aload_n (q := 1) (i := 0) (v := (some l0)) hc dX11_laysBest_109 rfl rfl ?_
                    refine R_lconst (v := (0 : Int64)) hc dX11_laysBest_110 kL_0 ?_
                    refine R_putJ hc pl_11_145 rfl rfl dX11_laysBest_111 hw (fun h25 hw => ?_)
                    refine R_aload_n (q := 1) (i := 0) (v := (some l0)) hc dX11_laysBest_114 rfl rfl ?_
                    refine R_sipush (v := (1000 : Int32)) hc dX11_laysBest_115 kS_1000 ?_
                    refine R_putI hc pl_11_149 rfl rfl dX11_laysBest_118 hw (fun h26 hw => ?_)
                    refine R_sub hc [1, 2, 3, 0] rfl ?_
                    exact (wpO_some hw :)
              · refine R_goto (tgt := 153) hc dX11_laysBest_83 (by decide) ?_
                refine R_iinc (q := 3) (i := 2) (v := l2_38) hc [(2, .int (l2_38 + (1 : Int32))), (3, .int t14), (0, rf x.w (some l0)), (1, .int l1_42)] dX11_laysBest_153 rfl (kC_1 _) (hnl 2 (le_b rfl)) rfl ?_
                refine R_goto (tgt := 56) hc dX11_laysBest_156 (by decide) ?_
                refine R_sub hc [2, 3, 0] rfl ?_
                exact hX (l2_38 + (1 : Int32), h39) (wpO_some hw :)
    · refine R_if_ne (tgt := 35) hc dX11_laysBest_28 (by decide) hw (fun hw => ?_) (fun hw => ?_)
      · refine R_lconst (v := (0 : Int64)) hc dX11_laysBest_35 kL_0 ?_
        refine R_sub hc [0] rfl ?_
        exact (wpO_some hw :)
      · refine R_lconst (v := (1 : Int64)) hc dX11_laysBest_31 kL_1 ?_
        refine R_goto (tgt := 36) hc dX11_laysBest_32 (by decide) ?_
        refine R_sub hc [0] rfl ?_
        exact (wpO_some hw :)
  · refine R_if_ne (tgt := 17) hc dX11_laysBest_10 (by decide) hw (fun hw => ?_) (fun hw => ?_)
    · refine R_sipush (v := (1000 : Int32)) hc dX11_laysBest_17 kS_1000 ?_
      refine R_sub hc [0] rfl ?_
      exact (wpO_some hw :)
    · refine R_iconst (v := (0 : Int32)) hc dX11_laysBest_13 kI_0 ?_
      refine R_goto (tgt := 20) hc dX11_laysBest_14 (by decide) ?_
      refine R_sub hc [0] rfl ?_
      exact (wpO_some hw :)
theorem dX11_laysAheadOf_0 : decode cX11_laysAheadOf 0 = .ok (.iload_n 1, 1) := by decide +kernel
theorem dX11_laysAheadOf_1 : decode cX11_laysAheadOf 1 = .ok (.iload_n 2, 1) := by decide +kernel
theorem dX11_laysAheadOf_2 : decode cX11_laysAheadOf 2 = .ok (.iload_n 3, 1) := by decide +kernel
theorem dX11_laysAheadOf_3 : decode cX11_laysAheadOf 3 = .ok (.invokestatic 123, 3) := by decide +kernel
theorem dX11_laysAheadOf_6 : decode cX11_laysAheadOf 6 = .ok (.istore 4, 2) := by decide +kernel
theorem dX11_laysAheadOf_8 : decode cX11_laysAheadOf 8 = .ok (.aload_n 0, 1) := by decide +kernel
theorem dX11_laysAheadOf_9 : decode cX11_laysAheadOf 9 = .ok (.getfield 39, 3) := by decide +kernel
theorem dX11_laysAheadOf_12 : decode cX11_laysAheadOf 12 = .ok (.iload 4, 2) := by decide +kernel
theorem dX11_laysAheadOf_14 : decode cX11_laysAheadOf 14 = .ok (.iload_n 1, 1) := by decide +kernel
theorem dX11_laysAheadOf_15 : decode cX11_laysAheadOf 15 = .ok (.iconst 1, 1) := by decide +kernel
theorem dX11_laysAheadOf_16 : decode cX11_laysAheadOf 16 = .ok (.iload_n 2, 1) := by decide +kernel
theorem dX11_laysAheadOf_17 : decode cX11_laysAheadOf 17 = .ok (.ishl, 1) := by decide +kernel
theorem dX11_laysAheadOf_18 : decode cX11_laysAheadOf 18 = .ok (.if_icmp .ne 7, 3) := by decide +kernel
theorem dX11_laysAheadOf_21 : decode cX11_laysAheadOf 21 = .ok (.iconst 0, 1) := by decide +kernel
theorem dX11_laysAheadOf_22 : decode cX11_laysAheadOf 22 = .ok (.goto 6, 3) := by decide +kernel
theorem dX11_laysAheadOf_25 : decode cX11_laysAheadOf 25 = .ok (.sipush 1000, 3) := by decide +kernel
theorem dX11_laysAheadOf_28 : decode cX11_laysAheadOf 28 = .ok (.iastore, 1) := by decide +kernel
theorem dX11_laysAheadOf_29 : decode cX11_laysAheadOf 29 = .ok (.aload_n 0, 1) := by decide +kernel
theorem dX11_laysAheadOf_30 : decode cX11_laysAheadOf 30 = .ok (.getfield 42, 3) := by decide +kernel
theorem dX11_laysAheadOf_33 : decode cX11_laysAheadOf 33 = .ok (.iload 4, 2) := by decide +kernel
theorem dX11_laysAheadOf_35 : decode cX11_laysAheadOf 35 = .ok (.iload_n 1, 1) := by decide +kernel
theorem dX11_laysAheadOf_36 : decode cX11_laysAheadOf 36 = .ok (.iconst 1, 1) := by decide +kernel
theorem dX11_laysAheadOf_37 : decode cX11_laysAheadOf 37 = .ok (.iload_n 2, 1) := by decide +kernel
theorem dX11_laysAheadOf_38 : decode cX11_laysAheadOf 38 = .ok (.ishl, 1) := by decide +kernel
theorem dX11_laysAheadOf_39 : decode cX11_laysAheadOf 39 = .ok (.if_icmp .ne 7, 3) := by decide +kernel
theorem dX11_laysAheadOf_42 : decode cX11_laysAheadOf 42 = .ok (.lconst 1, 1) := by decide +kernel
theorem dX11_laysAheadOf_43 : decode cX11_laysAheadOf 43 = .ok (.goto 4, 3) := by decide +kernel
theorem dX11_laysAheadOf_46 : decode cX11_laysAheadOf 46 = .ok (.lconst 0, 1) := by decide +kernel
theorem dX11_laysAheadOf_47 : decode cX11_laysAheadOf 47 = .ok (.lastore, 1) := by decide +kernel
theorem dX11_laysAheadOf_48 : decode cX11_laysAheadOf 48 = .ok (.iload_n 1, 1) := by decide +kernel
theorem dX11_laysAheadOf_49 : decode cX11_laysAheadOf 49 = .ok (.iconst 1, 1) := by decide +kernel
theorem dX11_laysAheadOf_50 : decode cX11_laysAheadOf 50 = .ok (.iload_n 2, 1) := by decide +kernel
theorem dX11_laysAheadOf_51 : decode cX11_laysAheadOf 51 = .ok (.ishl, 1) := by decide +kernel
theorem dX11_laysAheadOf_52 : decode cX11_laysAheadOf 52 = .ok (.iconst (-1), 1) := by decide +kernel
theorem dX11_laysAheadOf_53 : decode cX11_laysAheadOf 53 = .ok (.ixor, 1) := by decide +kernel
theorem dX11_laysAheadOf_54 : decode cX11_laysAheadOf 54 = .ok (.iand, 1) := by decide +kernel
theorem dX11_laysAheadOf_55 : decode cX11_laysAheadOf 55 = .ok (.istore 5, 2) := by decide +kernel
theorem dX11_laysAheadOf_57 : decode cX11_laysAheadOf 57 = .ok (.iconst 0, 1) := by decide +kernel
theorem dX11_laysAheadOf_58 : decode cX11_laysAheadOf 58 = .ok (.istore 6, 2) := by decide +kernel
theorem dX11_laysAheadOf_60 : decode cX11_laysAheadOf 60 = .ok (.iload 6, 2) := by decide +kernel
theorem dX11_laysAheadOf_62 : decode cX11_laysAheadOf 62 = .ok (.aload_n 0, 1) := by decide +kernel
theorem dX11_laysAheadOf_63 : decode cX11_laysAheadOf 63 = .ok (.invokevirtual 103, 3) := by decide +kernel
theorem dX11_laysAheadOf_66 : decode cX11_laysAheadOf 66 = .ok (.if_icmp .ge 137, 3) := by decide +kernel
theorem dX11_laysAheadOf_69 : decode cX11_laysAheadOf 69 = .ok (.iload 5, 2) := by decide +kernel
theorem dX11_laysAheadOf_71 : decode cX11_laysAheadOf 71 = .ok (.iload 6, 2) := by decide +kernel
theorem dX11_laysAheadOf_73 : decode cX11_laysAheadOf 73 = .ok (.ishr, 1) := by decide +kernel
theorem dX11_laysAheadOf_74 : decode cX11_laysAheadOf 74 = .ok (.iconst 1, 1) := by decide +kernel
theorem dX11_laysAheadOf_75 : decode cX11_laysAheadOf 75 = .ok (.iand, 1) := by decide +kernel
theorem dX11_laysAheadOf_76 : decode cX11_laysAheadOf 76 = .ok (.ifCond .ne 6, 3) := by decide +kernel
theorem dX11_laysAheadOf_79 : decode cX11_laysAheadOf 79 = .ok (.goto 118, 3) := by decide +kernel
theorem dX11_laysAheadOf_82 : decode cX11_laysAheadOf 82 = .ok (.iconst 0, 1) := by decide +kernel
theorem dX11_laysAheadOf_83 : decode cX11_laysAheadOf 83 = .ok (.istore 7, 2) := by decide +kernel
theorem dX11_laysAheadOf_85 : decode cX11_laysAheadOf 85 = .ok (.iload 7, 2) := by decide +kernel
theorem dX11_laysAheadOf_87 : decode cX11_laysAheadOf 87 = .ok (.iconst 4, 1) := by decide +kernel
theorem dX11_laysAheadOf_88 : decode cX11_laysAheadOf 88 = .ok (.if_icmp .ge 109, 3) := by decide +kernel
theorem dX11_laysAheadOf_91 : decode cX11_laysAheadOf 91 = .ok (.iload 5, 2) := by decide +kernel
theorem dX11_laysAheadOf_93 : decode cX11_laysAheadOf 93 = .ok (.iload 6, 2) := by decide +kernel
theorem dX11_laysAheadOf_95 : decode cX11_laysAheadOf 95 = .ok (.iload 7, 2) := by decide +kernel
theorem dX11_laysAheadOf_97 : decode cX11_laysAheadOf 97 = .ok (.invokestatic 123, 3) := by decide +kernel
theorem dX11_laysAheadOf_100 : decode cX11_laysAheadOf 100 = .ok (.istore 8, 2) := by decide +kernel
theorem dX11_laysAheadOf_102 : decode cX11_laysAheadOf 102 = .ok (.aload_n 0, 1) := by decide +kernel
theorem dX11_laysAheadOf_103 : decode cX11_laysAheadOf 103 = .ok (.getfield 39, 3) := by decide +kernel
theorem dX11_laysAheadOf_106 : decode cX11_laysAheadOf 106 = .ok (.iload 8, 2) := by decide +kernel
theorem dX11_laysAheadOf_108 : decode cX11_laysAheadOf 108 = .ok (.iaload, 1) := by decide +kernel
theorem dX11_laysAheadOf_109 : decode cX11_laysAheadOf 109 = .ok (.aload_n 0, 1) := by decide +kernel
theorem dX11_laysAheadOf_110 : decode cX11_laysAheadOf 110 = .ok (.iload 6, 2) := by decide +kernel
theorem dX11_laysAheadOf_112 : decode cX11_laysAheadOf 112 = .ok (.iload 7, 2) := by decide +kernel
theorem dX11_laysAheadOf_114 : decode cX11_laysAheadOf 114 = .ok (.iload_n 2, 1) := by decide +kernel
theorem dX11_laysAheadOf_115 : decode cX11_laysAheadOf 115 = .ok (.iload_n 3, 1) := by decide +kernel
theorem dX11_laysAheadOf_116 : decode cX11_laysAheadOf 116 = .ok (.invokevirtual 127, 3) := by decide +kernel
theorem dX11_laysAheadOf_119 : decode cX11_laysAheadOf 119 = .ok (.ifCond .le 7, 3) := by decide +kernel
theorem dX11_laysAheadOf_122 : decode cX11_laysAheadOf 122 = .ok (.iconst 1, 1) := by decide +kernel
theorem dX11_laysAheadOf_123 : decode cX11_laysAheadOf 123 = .ok (.goto 4, 3) := by decide +kernel
theorem dX11_laysAheadOf_126 : decode cX11_laysAheadOf 126 = .ok (.iconst 0, 1) := by decide +kernel
theorem dX11_laysAheadOf_127 : decode cX11_laysAheadOf 127 = .ok (.iadd, 1) := by decide +kernel
theorem dX11_laysAheadOf_128 : decode cX11_laysAheadOf 128 = .ok (.istore 9, 2) := by decide +kernel
theorem dX11_laysAheadOf_130 : decode cX11_laysAheadOf 130 = .ok (.iload 9, 2) := by decide +kernel
theorem dX11_laysAheadOf_132 : decode cX11_laysAheadOf 132 = .ok (.aload_n 0, 1) := by decide +kernel
theorem dX11_laysAheadOf_133 : decode cX11_laysAheadOf 133 = .ok (.getfield 39, 3) := by decide +kernel
theorem dX11_laysAheadOf_136 : decode cX11_laysAheadOf 136 = .ok (.iload 4, 2) := by decide +kernel
theorem dX11_laysAheadOf_138 : decode cX11_laysAheadOf 138 = .ok (.iaload, 1) := by decide +kernel
theorem dX11_laysAheadOf_139 : decode cX11_laysAheadOf 139 = .ok (.if_icmp .le 6, 3) := by decide +kernel
theorem dX11_laysAheadOf_142 : decode cX11_laysAheadOf 142 = .ok (.goto 49, 3) := by decide +kernel
theorem dX11_laysAheadOf_145 : decode cX11_laysAheadOf 145 = .ok (.iload 9, 2) := by decide +kernel
theorem dX11_laysAheadOf_147 : decode cX11_laysAheadOf 147 = .ok (.aload_n 0, 1) := by decide +kernel
theorem dX11_laysAheadOf_148 : decode cX11_laysAheadOf 148 = .ok (.getfield 39, 3) := by decide +kernel
theorem dX11_laysAheadOf_151 : decode cX11_laysAheadOf 151 = .ok (.iload 4, 2) := by decide +kernel
theorem dX11_laysAheadOf_153 : decode cX11_laysAheadOf 153 = .ok (.iaload, 1) := by decide +kernel
theorem dX11_laysAheadOf_154 : decode cX11_laysAheadOf 154 = .ok (.if_icmp .ge 20, 3) := by decide +kernel
theorem dX11_laysAheadOf_157 : decode cX11_laysAheadOf 157 = .ok (.aload_n 0, 1) := by decide +kernel
theorem dX11_laysAheadOf_158 : decode cX11_laysAheadOf 158 = .ok (.getfield 39, 3) := by decide +kernel
theorem dX11_laysAheadOf_161 : decode cX11_laysAheadOf 161 = .ok (.iload 4, 2) := by decide +kernel
theorem dX11_laysAheadOf_163 : decode cX11_laysAheadOf 163 = .ok (.iload 9, 2) := by decide +kernel
theorem dX11_laysAheadOf_165 : decode cX11_laysAheadOf 165 = .ok (.iastore, 1) := by decide +kernel
theorem dX11_laysAheadOf_166 : decode cX11_laysAheadOf 166 = .ok (.aload_n 0, 1) := by decide +kernel
theorem dX11_laysAheadOf_167 : decode cX11_laysAheadOf 167 = .ok (.getfield 42, 3) := by decide +kernel
theorem dX11_laysAheadOf_170 : decode cX11_laysAheadOf 170 = .ok (.iload 4, 2) := by decide +kernel
theorem dX11_laysAheadOf_172 : decode cX11_laysAheadOf 172 = .ok (.lconst 0, 1) := by decide +kernel
theorem dX11_laysAheadOf_173 : decode cX11_laysAheadOf 173 = .ok (.lastore, 1) := by decide +kernel
theorem dX11_laysAheadOf_174 : decode cX11_laysAheadOf 174 = .ok (.aload_n 0, 1) := by decide +kernel
theorem dX11_laysAheadOf_175 : decode cX11_laysAheadOf 175 = .ok (.getfield 42, 3) := by decide +kernel
theorem dX11_laysAheadOf_178 : decode cX11_laysAheadOf 178 = .ok (.iload 4, 2) := by decide +kernel
theorem dX11_laysAheadOf_180 : decode cX11_laysAheadOf 180 = .ok (.dup2, 1) := by decide +kernel
theorem dX11_laysAheadOf_181 : decode cX11_laysAheadOf 181 = .ok (.laload, 1) := by decide +kernel
theorem dX11_laysAheadOf_182 : decode cX11_laysAheadOf 182 = .ok (.aload_n 0, 1) := by decide +kernel
theorem dX11_laysAheadOf_183 : decode cX11_laysAheadOf 183 = .ok (.getfield 42, 3) := by decide +kernel
theorem dX11_laysAheadOf_186 : decode cX11_laysAheadOf 186 = .ok (.iload 8, 2) := by decide +kernel
theorem dX11_laysAheadOf_188 : decode cX11_laysAheadOf 188 = .ok (.laload, 1) := by decide +kernel
theorem dX11_laysAheadOf_189 : decode cX11_laysAheadOf 189 = .ok (.ladd, 1) := by decide +kernel
theorem dX11_laysAheadOf_190 : decode cX11_laysAheadOf 190 = .ok (.lastore, 1) := by decide +kernel
theorem dX11_laysAheadOf_191 : decode cX11_laysAheadOf 191 = .ok (.iinc 7 1, 3) := by decide +kernel
theorem dX11_laysAheadOf_194 : decode cX11_laysAheadOf 194 = .ok (.goto (-109), 3) := by decide +kernel
theorem dX11_laysAheadOf_197 : decode cX11_laysAheadOf 197 = .ok (.iinc 6 1, 3) := by decide +kernel
theorem dX11_laysAheadOf_200 : decode cX11_laysAheadOf 200 = .ok (.goto (-140), 3) := by decide +kernel
theorem dX11_laysAheadOf_203 : decode cX11_laysAheadOf 203 = .ok (.return_, 1) := by decide +kernel
def sX11_laysAheadOf_L85 (F : Nat) (l0 : Nat) (l2 : Int32) (l3 : Int32) (l4 : Int32) (l5 : Int32) (l6 : Int32) (l7 : Int32) (h : HP) : Option ((Int32 × HP) ⊕ HP) :=
  if (4 : Int32) ≤ l7 then
    some (.inr h)
  else
    (sX11_state F l5 l6 l7 h).bind fun t11 =>
    (gR h 11 (some l0) 15).bind fun t12 =>
    (aI h 13 t12 t11).bind fun t13 =>
    (dO h 11 (some l0)).bind fun a14 =>
    (sX11_lacks F a14 l6 l7 l2 l3 h).bind fun t15 =>
    (if t15 ≤ 0 then
        some (0 : Int32)
      else
        some (1 : Int32)).bind fun s16 =>
    nmI (t13 + s16) fun l9_17 =>
    (gR h 11 (some l0) 15).bind fun t18 =>
    (aI h 13 t18 l4).bind fun t19 =>
    if l9_17 ≤ t19 then
      (gR h 11 (some l0) 15).bind fun t20 =>
      (aI h 13 t20 l4).bind fun t21 =>
      (if t21 ≤ l9_17 then
          some h
        else
          (gR h 11 (some l0) 15).bind fun t23 =>
          (sI h t23 l4 l9_17).bind fun h24 =>
          (gR h24 11 (some l0) 16).bind fun t25 =>
          (sJ h24 t25 l4 (0 : Int64)).bind fun h26 =>
          some h26).bind fun h22 =>
      (gR h22 11 (some l0) 16).bind fun t27 =>
      (aJ h22 t27 l4).bind fun t28 =>
      (gR h22 11 (some l0) 16).bind fun t29 =>
      (aJ h22 t29 t11).bind fun t30 =>
      (sJ h22 t27 l4 (t28 + t30)).bind fun h31 =>
      some (.inl (l7 + (1 : Int32), h31))
    else
      some (.inl (l7 + (1 : Int32), h))
def sX11_laysAheadOf_L60 (F : Nat) (l0 : Nat) (l2 : Int32) (l3 : Int32) (l4 : Int32) (l5 : Int32) (l6 : Int32) (h : HP) : Option ((Int32 × HP) ⊕ HP) :=
  (dO h 11 (some l0)).bind fun a9 =>
  (sX11_fingers F a9 h).bind fun t10 =>
  if t10 ≤ l6 then
    some (.inr h)
  else
    if ¬ ((jshr l5 l6) &&& (1 : Int32)) = 0 then
      (iter (fun s => sX11_laysAheadOf_L85 F l0 l2 l3 l4 l5 l6 s.1 s.2) F ((0 : Int32), h)).bind fun h32 =>
        some (.inl (l6 + (1 : Int32), h32))
    else
      some (.inl (l6 + (1 : Int32), h))
def sX11_laysAheadOf (F : Nat) (l0 : Nat) (l1 : Int32) (l2 : Int32) (l3 : Int32) (h : HP) : Option HP :=
  (sX11_state F l1 l2 l3 h).bind fun t1 =>
  (gR h 11 (some l0) 15).bind fun t2 =>
  (if ¬ l1 = (jshl (1 : Int32) l2) then
      some (1000 : Int32)
    else
      some (0 : Int32)).bind fun s3 =>
  (sI h t2 t1 s3).bind fun h4 =>
  (gR h4 11 (some l0) 16).bind fun t5 =>
  (if ¬ l1 = (jshl (1 : Int32) l2) then
      some (0 : Int64)
    else
      some (1 : Int64)).bind fun s6 =>
  (sJ h4 t5 t1 s6).bind fun h7 =>
  nmI (l1 &&& ((jshl (1 : Int32) l2) ^^^ (-1 : Int32))) fun l5_8 =>
  (iter (fun s => sX11_laysAheadOf_L60 F l0 l2 l3 t1 l5_8 s.1 s.2) F ((0 : Int32), h7)).bind fun h36 =>
    some h36
abbrev rm_X11_laysAheadOf : Room := { frames := 4, cells := 0, slots := 0, locals := 96 }
set_option maxRecDepth 100000 in
set_option maxHeartbeats 4000000 in
theorem mt_X11_laysAheadOf {w : WD} {l : Launch} {F : Nat} {l0 : Nat} {l1 : Int32} {l2 : Int32} {l3 : Int32} {h : HP} {h' : HP} (hs : sX11_laysAheadOf F l0 l1 l2 l3 h = some h') : MV w l yX11_laysAheadOf cX11_laysAheadOf 10 rm_X11_laysAheadOf 0 0 [rf w (some l0), .int l1, .int l2, .int l3] h h' := by
  refine of_body [(0, rf w (some l0)), (1, .int l1), (2, .int l2), (3, .int l3)] (by decide) (by simp [lg_sl, rf_cat, cat_i, cat_l, cat_a]) (by simp [lv_args, rf_cat, cat_i, cat_l, cat_a]) ?_
  intro x hw_ hnL_ hl_ hc hret hnm hQ
  subst hw_; subst hl_
  have hnl : ∀ i, i < 10 → i < x.nL := fun i h => by rw [hnL_]; exact h
  have hw : wpO (sX11_laysAheadOf F l0 l1 l2 l3 h) (fun r => r = h') := ⟨_, hs, rfl⟩
  unfold sX11_laysAheadOf at hw
  refine R_iload_n (q := 1) (i := 1) (v := l1) hc dX11_laysAheadOf_0 rfl rfl ?_
  refine R_iload_n (q := 2) (i := 2) (v := l2) hc dX11_laysAheadOf_1 rfl rfl ?_
  refine R_iload_n (q := 3) (i := 3) (v := l3) hc dX11_laysAheadOf_2 rfl rfl ?_
  refine R_cSI (As := [.int l1, .int l2, .int l3]) (rest := []) hc ml_11_123 mf_X11_state ⟨rfl, rfl⟩ ⟨le_b rfl, le_b rfl⟩ ⟨Nat.zero_le _, Nat.zero_le _⟩ (fun v e => mt_X11_state e) rfl rfl (Nat.zero_le _) dX11_laysAheadOf_3 hw (fun t1 hw => ?_)
  refine R_istore (i := 4) (v := t1) hc [(4, .int t1), (0, rf x.w (some l0)), (1, .int l1), (2, .int l2), (3, .int l3)] dX11_laysAheadOf_6 (hnl 4 (le_b rfl)) rfl ?_
  refine R_aload_n (q := 1) (i := 0) (v := (some l0)) hc dX11_laysAheadOf_8 rfl rfl ?_
  refine R_getR hc fl_11_39 dX11_laysAheadOf_9 hw (fun t2 hw => ?_)
  refine R_iload (q := 0) (i := 4) (v := t1) hc dX11_laysAheadOf_12 rfl ?_
  refine R_iload_n (q := 2) (i := 1) (v := l1) hc dX11_laysAheadOf_14 rfl rfl ?_
  refine R_iconst (v := (1 : Int32)) hc dX11_laysAheadOf_15 kI_1 ?_
  refine R_iload_n (q := 3) (i := 2) (v := l2) hc dX11_laysAheadOf_16 rfl rfl ?_
  refine R_ishl hc dX11_laysAheadOf_17 ?_
  refine R_join (fun (s3 : Int32) => Rn x 0 0 28 [(0, rf x.w (some l0)), (1, .int l1), (2, .int l2), (3, .int l3), (4, .int t1)] [.int s3, .int t1, rf x.w t2] h) hw (fun r hw => ?_) (fun hw => ?_)
  · revert r hw
    intro s3 hw
    show Rn x 0 0 28 [(0, rf x.w (some l0)), (1, .int l1), (2, .int l2), (3, .int l3), (4, .int t1)] [.int s3, .int t1, rf x.w t2] h
    refine R_iastore hc dX11_laysAheadOf_28 hw (fun h4 hw => ?_)
    refine R_aload_n (q := 0) (i := 0) (v := (some l0)) hc dX11_laysAheadOf_29 rfl rfl ?_
    refine R_getR hc fl_11_42 dX11_laysAheadOf_30 hw (fun t5 hw => ?_)
    refine R_iload (q := 4) (i := 4) (v := t1) hc dX11_laysAheadOf_33 rfl ?_
    refine R_iload_n (q := 1) (i := 1) (v := l1) hc dX11_laysAheadOf_35 rfl rfl ?_
    refine R_iconst (v := (1 : Int32)) hc dX11_laysAheadOf_36 kI_1 ?_
    refine R_iload_n (q := 2) (i := 2) (v := l2) hc dX11_laysAheadOf_37 rfl rfl ?_
    refine R_ishl hc dX11_laysAheadOf_38 ?_
    refine R_join (fun (s6 : Int64) => Rn x 0 0 47 [(0, rf x.w (some l0)), (1, .int l1), (2, .int l2), (3, .int l3), (4, .int t1)] [.long s6, .int t1, rf x.w t5] h4) hw (fun r hw => ?_) (fun hw => ?_)
    · revert r hw
      intro s6 hw
      show Rn x 0 0 47 [(0, rf x.w (some l0)), (1, .int l1), (2, .int l2), (3, .int l3), (4, .int t1)] [.long s6, .int t1, rf x.w t5] h4
      refine R_lastore hc dX11_laysAheadOf_47 hw (fun h7 hw => ?_)
      refine R_iload_n (q := 1) (i := 1) (v := l1) hc dX11_laysAheadOf_48 rfl rfl ?_
      refine R_iconst (v := (1 : Int32)) hc dX11_laysAheadOf_49 kI_1 ?_
      refine R_iload_n (q := 2) (i := 2) (v := l2) hc dX11_laysAheadOf_50 rfl rfl ?_
      refine R_ishl hc dX11_laysAheadOf_51 ?_
      refine R_iconst (v := (-1 : Int32)) hc dX11_laysAheadOf_52 kI_m1 ?_
      refine R_ixor hc dX11_laysAheadOf_53 ?_
      refine R_iand hc dX11_laysAheadOf_54 ?_
      refine R_nmI hw (fun l5_8 hw => ?_)
      refine R_istore (i := 5) (v := l5_8) hc [(5, .int l5_8), (0, rf x.w (some l0)), (1, .int l1), (2, .int l2), (3, .int l3), (4, .int t1)] dX11_laysAheadOf_55 (hnl 5 (le_b rfl)) rfl ?_
      refine R_iconst (v := (0 : Int32)) hc dX11_laysAheadOf_57 kI_0 ?_
      refine R_istore (i := 6) (v := (0 : Int32)) hc [(6, .int (0 : Int32)), (5, .int l5_8), (0, rf x.w (some l0)), (1, .int l1), (2, .int l2), (3, .int l3), (4, .int t1)] dX11_laysAheadOf_58 (hnl 6 (le_b rfl)) rfl ?_
      refine R_sub hc [2, 4, 5, 6, 1, 0] rfl ?_
      refine R_loop (P := fun (s : (Int32 × HP)) => Rn x 0 0 60 [(0, rf x.w (some l0)), (2, .int l2), (3, .int l3), (4, .int t1), (5, .int l5_8), (6, .int s.1)] [] s.2) (fun h36 => Rn x 0 0 203 [] [] h36) hw (fun r hw => ?_) (fun X hX s hw => ?_)
      · revert r hw
        intro h36 hw
        show Rn x 0 0 203 [] [] h36
        exact R_return hc hret hQ hw dX11_laysAheadOf_203
      · obtain ⟨l6_38, h39⟩ := s
        show Rn x 0 0 60 [(0, rf x.w (some l0)), (2, .int l2), (3, .int l3), (4, .int t1), (5, .int l5_8), (6, .int l6_38)] [] h39
        have hw : wpO (sX11_laysAheadOf_L60 F l0 l2 l3 t1 l5_8 l6_38 h39) _ := hw
        unfold sX11_laysAheadOf_L60 at hw
        refine R_iload (q := 5) (i := 6) (v := l6_38) hc dX11_laysAheadOf_60 rfl ?_
        refine R_aload_n (q := 0) (i := 0) (v := (some l0)) hc dX11_laysAheadOf_62 rfl rfl ?_
        refine R_cVI (As := []) (rest := [.int l6_38]) (r := (some l0)) (ci := 11) hc ml_11_103 mf_X11_fingers rfl (by decide) ⟨rfl, rfl⟩ ⟨le_b rfl, le_b rfl⟩ ⟨Nat.zero_le _, Nat.zero_le _⟩ (fun a v e => mt_X11_fingers e) rfl rfl (le_b rfl) dX11_laysAheadOf_63 hw (fun t10 hw => ?_)
        refine R_icmp_ge (tgt := 203) hc dX11_laysAheadOf_66 (by decide) hw (fun hw => ?_) (fun hw => ?_)
        · refine R_sub hc [] rfl ?_
          exact (wpO_some hw :)
        · refine R_iload (q := 4) (i := 5) (v := l5_8) hc dX11_laysAheadOf_69 rfl ?_
          refine R_iload (q := 5) (i := 6) (v := l6_38) hc dX11_laysAheadOf_71 rfl ?_
          refine R_ishr hc dX11_laysAheadOf_73 ?_
          refine R_iconst (v := (1 : Int32)) hc dX11_laysAheadOf_74 kI_1 ?_
          refine R_iand hc dX11_laysAheadOf_75 ?_
          refine R_if_ne (tgt := 82) hc dX11_laysAheadOf_76 (by decide) hw (fun hw => ?_) (fun hw => ?_)
          · refine R_iconst (v := (0 : Int32)) hc dX11_laysAheadOf_82 kI_0 ?_
            refine R_istore (i := 7) (v := (0 : Int32)) hc [(7, .int (0 : Int32)), (0, rf x.w (some l0)), (2, .int l2), (3, .int l3), (4, .int t1), (5, .int l5_8), (6, .int l6_38)] dX11_laysAheadOf_83 (hnl 7 (le_b rfl)) rfl ?_
            refine R_sub hc [1, 2, 3, 4, 5, 6, 0] rfl ?_
            refine R_loop (P := fun (s : (Int32 × HP)) => Rn x 0 0 85 [(0, rf x.w (some l0)), (2, .int l2), (3, .int l3), (4, .int t1), (5, .int l5_8), (6, .int l6_38), (7, .int s.1)] [] s.2) (fun h32 => Rn x 0 0 197 [(0, rf x.w (some l0)), (2, .int l2), (3, .int l3), (4, .int t1), (5, .int l5_8), (6, .int l6_38)] [] h32) hw (fun r hw => ?_) (fun X hX s hw => ?_)
            · revert r hw
              intro h32 hw
              show Rn x 0 0 197 [(0, rf x.w (some l0)), (2, .int l2), (3, .int l3), (4, .int t1), (5, .int l5_8), (6, .int l6_38)] [] h32
              refine R_iinc (q := 5) (i := 6) (v := l6_38) hc [(6, .int (l6_38 + (1 : Int32))), (0, rf x.w (some l0)), (2, .int l2), (3, .int l3), (4, .int t1), (5, .int l5_8)] dX11_laysAheadOf_197 rfl (kC_1 _) (hnl 6 (le_b rfl)) rfl ?_
              refine R_goto (tgt := 60) hc dX11_laysAheadOf_200 (by decide) ?_
              refine R_sub hc [1, 2, 3, 4, 5, 0] rfl ?_
              exact hX (l6_38 + (1 : Int32), h32) (wpO_some hw :)
            · obtain ⟨l7_34, h35⟩ := s
              show Rn x 0 0 85 [(0, rf x.w (some l0)), (2, .int l2), (3, .int l3), (4, .int t1), (5, .int l5_8), (6, .int l6_38), (7, .int l7_34)] [] h35
              have hw : wpO (sX11_laysAheadOf_L85 F l0 l2 l3 t1 l5_8 l6_38 l7_34 h35) _ := hw
              unfold sX11_laysAheadOf_L85 at hw
              refine R_iload (q := 6) (i := 7) (v := l7_34) hc dX11_laysAheadOf_85 rfl ?_
              refine R_iconst (v := (4 : Int32)) hc dX11_laysAheadOf_87 kI_4 ?_
              refine R_icmp_ge (tgt := 197) hc dX11_laysAheadOf_88 (by decide) hw (fun hw => ?_) (fun hw => ?_)
              · refine R_sub hc [0, 1, 2, 3, 4, 5] rfl ?_
                exact (wpO_some hw :)
              · refine R_iload (q := 4) (i := 5) (v := l5_8) hc dX11_laysAheadOf_91 rfl ?_
                refine R_iload (q := 5) (i := 6) (v := l6_38) hc dX11_laysAheadOf_93 rfl ?_
                refine R_iload (q := 6) (i := 7) (v := l7_34) hc dX11_laysAheadOf_95 rfl ?_
                refine R_cSI (As := [.int l5_8, .int l6_38, .int l7_34]) (rest := []) hc ml_11_123 mf_X11_state ⟨rfl, rfl⟩ ⟨le_b rfl, le_b rfl⟩ ⟨Nat.zero_le _, Nat.zero_le _⟩ (fun v e => mt_X11_state e) rfl rfl (Nat.zero_le _) dX11_laysAheadOf_97 hw (fun t11 hw => ?_)
                refine R_istore (i := 8) (v := t11) hc [(8, .int t11), (0, rf x.w (some l0)), (2, .int l2), (3, .int l3), (4, .int t1), (5, .int l5_8), (6, .int l6_38), (7, .int l7_34)] dX11_laysAheadOf_100 (hnl 8 (le_b rfl)) rfl ?_
                refine R_aload_n (q := 1) (i := 0) (v := (some l0)) hc dX11_laysAheadOf_102 rfl rfl ?_
                refine R_getR hc fl_11_39 dX11_laysAheadOf_103 hw (fun t12 hw => ?_)
                refine R_iload (q := 0) (i := 8) (v := t11) hc dX11_laysAheadOf_106 rfl ?_
                refine R_iaload hc dX11_laysAheadOf_108 hw (fun t13 hw => ?_)
                refine R_aload_n (q := 1) (i := 0) (v := (some l0)) hc dX11_laysAheadOf_109 rfl rfl ?_
                refine R_iload (q := 6) (i := 6) (v := l6_38) hc dX11_laysAheadOf_110 rfl ?_
                refine R_iload (q := 7) (i := 7) (v := l7_34) hc dX11_laysAheadOf_112 rfl ?_
                refine R_iload_n (q := 2) (i := 2) (v := l2) hc dX11_laysAheadOf_114 rfl rfl ?_
                refine R_iload_n (q := 3) (i := 3) (v := l3) hc dX11_laysAheadOf_115 rfl rfl ?_
                refine R_cVI (As := [.int l6_38, .int l7_34, .int l2, .int l3]) (rest := [.int t13]) (r := (some l0)) (ci := 11) hc ml_11_127 mf_X11_lacks rfl (by decide) ⟨rfl, rfl⟩ ⟨le_b rfl, le_b rfl⟩ ⟨Nat.zero_le _, Nat.zero_le _⟩ (fun a v e => mt_X11_lacks e) rfl rfl (le_b rfl) dX11_laysAheadOf_116 hw (fun t15 hw => ?_)
                refine R_join (fun (s16 : Int32) => Rn x 0 0 127 [(0, rf x.w (some l0)), (2, .int l2), (3, .int l3), (4, .int t1), (5, .int l5_8), (6, .int l6_38), (7, .int l7_34), (8, .int t11)] [.int s16, .int t13] h35) hw (fun r hw => ?_) (fun hw => ?_)
                · revert r hw
                  intro s16 hw
                  show Rn x 0 0 127 [(0, rf x.w (some l0)), (2, .int l2), (3, .int l3), (4, .int t1), (5, .int l5_8), (6, .int l6_38), (7, .int l7_34), (8, .int t11)] [.int s16, .int t13] h35
                  refine R_iadd hc dX11_laysAheadOf_127 ?_
                  refine R_nmI hw (fun l9_17 hw => ?_)
                  refine R_istore (i := 9) (v := l9_17) hc [(9, .int l9_17), (0, rf x.w (some l0)), (2, .int l2), (3, .int l3), (4, .int t1), (5, .int l5_8), (6, .int l6_38), (7, .int l7_34), (8, .int t11)] dX11_laysAheadOf_128 (hnl 9 (le_b rfl)) rfl ?_
                  refine R_iload (q := 0) (i := 9) (v := l9_17) hc dX11_laysAheadOf_130 rfl ?_
                  refine R_aload_n (q := 1) (i := 0) (v := (some l0)) hc dX11_laysAheadOf_132 rfl rfl ?_
                  refine R_getR hc fl_11_39 dX11_laysAheadOf_133 hw (fun t18 hw => ?_)
                  refine R_iload (q := 4) (i := 4) (v := t1) hc dX11_laysAheadOf_136 rfl ?_
                  refine R_iaload hc dX11_laysAheadOf_138 hw (fun t19 hw => ?_)
                  refine R_icmp_le (tgt := 145) hc dX11_laysAheadOf_139 (by decide) hw (fun hw => ?_) (fun hw => ?_)
                  · refine R_iload (q := 0) (i := 9) (v := l9_17) hc dX11_laysAheadOf_145 rfl ?_
                    refine R_aload_n (q := 1) (i := 0) (v := (some l0)) hc dX11_laysAheadOf_147 rfl rfl ?_
                    refine R_getR hc fl_11_39 dX11_laysAheadOf_148 hw (fun t20 hw => ?_)
                    refine R_iload (q := 4) (i := 4) (v := t1) hc dX11_laysAheadOf_151 rfl ?_
                    refine R_iaload hc dX11_laysAheadOf_153 hw (fun t21 hw => ?_)
                    refine R_join (fun (h22 : HP) => Rn x 0 0 174 [(0, rf x.w (some l0)), (2, .int l2), (3, .int l3), (4, .int t1), (5, .int l5_8), (6, .int l6_38), (7, .int l7_34), (8, .int t11)] [] h22) hw (fun r hw => ?_) (fun hw => ?_)
                    · revert r hw
                      intro h22 hw
                      show Rn x 0 0 174 [(0, rf x.w (some l0)), (2, .int l2), (3, .int l3), (4, .int t1), (5, .int l5_8), (6, .int l6_38), (7, .int l7_34), (8, .int t11)] [] h22
                      refine R_aload_n (q := 0) (i := 0) (v := (some l0)) hc dX11_laysAheadOf_174 rfl rfl ?_
                      refine R_getR hc fl_11_42 dX11_laysAheadOf_175 hw (fun t27 hw => ?_)
                      refine R_iload (q := 3) (i := 4) (v := t1) hc dX11_laysAheadOf_178 rfl ?_
                      refine R_dup2 hc dX11_laysAheadOf_180 rfl (rf_cat _ _) ?_
                      refine R_laload hc dX11_laysAheadOf_181 hw (fun t28 hw => ?_)
                      refine R_aload_n (q := 0) (i := 0) (v := (some l0)) hc dX11_laysAheadOf_182 rfl rfl ?_
                      refine R_getR hc fl_11_42 dX11_laysAheadOf_183 hw (fun t29 hw => ?_)
                      refine R_iload (q := 7) (i := 8) (v := t11) hc dX11_laysAheadOf_186 rfl ?_
                      refine R_laload hc dX11_laysAheadOf_188 hw (fun t30 hw => ?_)
                      refine R_ladd hc dX11_laysAheadOf_189 ?_
                      refine R_lastore hc dX11_laysAheadOf_190 hw (fun h31 hw => ?_)
                      refine R_iinc (q := 6) (i := 7) (v := l7_34) hc [(7, .int (l7_34 + (1 : Int32))), (0, rf x.w (some l0)), (2, .int l2), (3, .int l3), (4, .int t1), (5, .int l5_8), (6, .int l6_38), (8, .int t11)] dX11_laysAheadOf_191 rfl (kC_1 _) (hnl 7 (le_b rfl)) rfl ?_
                      refine R_goto (tgt := 85) hc dX11_laysAheadOf_194 (by decide) ?_
                      refine R_sub hc [1, 2, 3, 4, 5, 6, 0] rfl ?_
                      exact hX (l7_34 + (1 : Int32), h31) (wpO_some hw :)
                    · refine R_icmp_ge (tgt := 174) hc dX11_laysAheadOf_154 (by decide) hw (fun hw => ?_) (fun hw => ?_)
                      · refine R_sub hc [1, 2, 3, 4, 5, 6, 7, 8] rfl ?_
                        exact (wpO_some hw :)
                      · refine R_aload_n (q := 1) (i := 0) (v := (some l0)) hc dX11_laysAheadOf_157 rfl rfl ?_
                        refine R_getR hc fl_11_39 dX11_laysAheadOf_158 hw (fun t23 hw => ?_)
                        refine R_iload (q := 4) (i := 4) (v := t1) hc dX11_laysAheadOf_161 rfl ?_
                        refine R_iload (q := 0) (i := 9) (v := l9_17) hc dX11_laysAheadOf_163 rfl ?_
                        refine R_iastore hc dX11_laysAheadOf_165 hw (fun h24 hw => ?_)
                        refine R_aload_n (q := 1) (i := 0) (v := (some l0)) hc dX11_laysAheadOf_166 rfl rfl ?_
                        refine R_getR hc fl_11_42 dX11_laysAheadOf_167 hw (fun t25 hw => ?_)
                        refine R_iload (q := 4) (i := 4) (v := t1) hc dX11_laysAheadOf_170 rfl ?_
                        refine R_lconst (v := (0 : Int64)) hc dX11_laysAheadOf_172 kL_0 ?_
                        refine R_lastore hc dX11_laysAheadOf_173 hw (fun h26 hw => ?_)
                        refine R_sub hc [1, 2, 3, 4, 5, 6, 7, 8] rfl ?_
                        exact (wpO_some hw :)
                  · refine R_goto (tgt := 191) hc dX11_laysAheadOf_142 (by decide) ?_
                    refine R_iinc (q := 7) (i := 7) (v := l7_34) hc [(7, .int (l7_34 + (1 : Int32))), (9, .int l9_17), (0, rf x.w (some l0)), (2, .int l2), (3, .int l3), (4, .int t1), (5, .int l5_8), (6, .int l6_38), (8, .int t11)] dX11_laysAheadOf_191 rfl (kC_1 _) (hnl 7 (le_b rfl)) rfl ?_
                    refine R_goto (tgt := 85) hc dX11_laysAheadOf_194 (by decide) ?_
                    refine R_sub hc [2, 3, 4, 5, 6, 7, 0] rfl ?_
                    exact hX (l7_34 + (1 : Int32), h35) (wpO_some hw :)
                · refine R_if_le (tgt := 126) hc dX11_laysAheadOf_119 (by decide) hw (fun hw => ?_) (fun hw => ?_)
                  · refine R_iconst (v := (0 : Int32)) hc dX11_laysAheadOf_126 kI_0 ?_
                    refine R_sub hc [1, 2, 3, 4, 5, 6, 7, 0] rfl ?_
                    exact (wpO_some hw :)
                  · refine R_iconst (v := (1 : Int32)) hc dX11_laysAheadOf_122 kI_1 ?_
                    refine R_goto (tgt := 127) hc dX11_laysAheadOf_123 (by decide) ?_
                    refine R_sub hc [1, 2, 3, 4, 5, 6, 7, 0] rfl ?_
                    exact (wpO_some hw :)
          · refine R_goto (tgt := 197) hc dX11_laysAheadOf_79 (by decide) ?_
            refine R_iinc (q := 5) (i := 6) (v := l6_38) hc [(6, .int (l6_38 + (1 : Int32))), (0, rf x.w (some l0)), (2, .int l2), (3, .int l3), (4, .int t1), (5, .int l5_8)] dX11_laysAheadOf_197 rfl (kC_1 _) (hnl 6 (le_b rfl)) rfl ?_
            refine R_goto (tgt := 60) hc dX11_laysAheadOf_200 (by decide) ?_
            refine R_sub hc [1, 2, 3, 4, 5, 0] rfl ?_
            exact hX (l6_38 + (1 : Int32), h39) (wpO_some hw :)
    · refine R_icmp_ne (tgt := 46) hc dX11_laysAheadOf_39 (by decide) hw (fun hw => ?_) (fun hw => ?_)
      · refine R_lconst (v := (0 : Int64)) hc dX11_laysAheadOf_46 kL_0 ?_
        refine R_sub hc [0, 1, 2, 3, 4] rfl ?_
        exact (wpO_some hw :)
      · refine R_lconst (v := (1 : Int64)) hc dX11_laysAheadOf_42 kL_1 ?_
        refine R_goto (tgt := 47) hc dX11_laysAheadOf_43 (by decide) ?_
        refine R_sub hc [0, 1, 2, 3, 4] rfl ?_
        exact (wpO_some hw :)
  · refine R_icmp_ne (tgt := 25) hc dX11_laysAheadOf_18 (by decide) hw (fun hw => ?_) (fun hw => ?_)
    · refine R_sipush (v := (1000 : Int32)) hc dX11_laysAheadOf_25 kS_1000 ?_
      refine R_sub hc [1, 2, 3, 4, 0] rfl ?_
      exact (wpO_some hw :)
    · refine R_iconst (v := (0 : Int32)) hc dX11_laysAheadOf_21 kI_0 ?_
      refine R_goto (tgt := 28) hc dX11_laysAheadOf_22 (by decide) ?_
      refine R_sub hc [1, 2, 3, 4, 0] rfl ?_
      exact (wpO_some hw :)
