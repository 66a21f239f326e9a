theorem dX11_of_0 : decode cX11_of 0 = .ok (.aload_n 0, 1) := by decide +kernel
theorem dX11_of_1 : decode cX11_of 1 = .ok (.getfield 7, 3) := by decide +kernel
theorem dX11_of_4 : decode cX11_of 4 = .ok (.iconst 5, 1) := by decide +kernel
theorem dX11_of_5 : decode cX11_of 5 = .ok (.bipush 6, 2) := by decide +kernel
theorem dX11_of_7 : decode cX11_of 7 = .ok (.aload_n 0, 1) := by decide +kernel
theorem dX11_of_8 : decode cX11_of 8 = .ok (.getfield 7, 3) := by decide +kernel
theorem dX11_of_11 : decode cX11_of 11 = .ok (.bipush 73, 2) := by decide +kernel
theorem dX11_of_13 : decode cX11_of 13 = .ok (.iload_n 1, 1) := by decide +kernel
theorem dX11_of_14 : decode cX11_of 14 = .ok (.iadd, 1) := by decide +kernel
theorem dX11_of_15 : decode cX11_of 15 = .ok (.iaload, 1) := by decide +kernel
theorem dX11_of_16 : decode cX11_of 16 = .ok (.imul, 1) := by decide +kernel
theorem dX11_of_17 : decode cX11_of 17 = .ok (.iadd, 1) := by decide +kernel
theorem dX11_of_18 : decode cX11_of 18 = .ok (.iload_n 2, 1) := by decide +kernel
theorem dX11_of_19 : decode cX11_of 19 = .ok (.iadd, 1) := by decide +kernel
theorem dX11_of_20 : decode cX11_of 20 = .ok (.iaload, 1) := by decide +kernel
theorem dX11_of_21 : decode cX11_of 21 = .ok (.ireturn, 1) := by decide +kernel
def sX11_of (F : Nat) (l0 : Nat) (l1 : Int32) (l2 : Int32) (h : HP) : Option Int32 :=
  (gR h 11 (some l0) 1).bind fun t1 =>
  (gR h 11 (some l0) 1).bind fun t2 =>
  (aI h 13 t2 ((73 : Int32) + l1)).bind fun t3 =>
  (aI h 13 t1 (((5 : Int32) + ((6 : Int32) * t3)) + l2)).bind fun t4 =>
  some t4
abbrev rm_X11_of : Room := { frames := 0, cells := 0, slots := 0, locals := 0 }
set_option maxRecDepth 100000 in
set_option maxHeartbeats 4000000 in
theorem mt_X11_of {w : WD} {l : Launch} {F : Nat} {l0 : Nat} {l1 : Int32} {l2 : Int32} {h : HP} {v : Int32} (hs : sX11_of F l0 l1 l2 h = some v) : MI w l yX11_of cX11_of 3 .int rm_X11_of 0 0 [rf w (some l0), .int l1, .int l2] h v h := by
  refine of_body [(0, rf w (some l0)), (1, .int l1), (2, .int l2)] (by decide) (by simp [lg_sl, rf_cat, cat_i, cat_l, cat_a]) (by simp [lv_args, rf_cat, cat_i, cat_l, cat_a]) ?_
  intro x hw_ hnL_ hl_ hc hret hnm hQ
  subst hw_; subst hl_
  have hnl : ∀ i, i < 3 → i < x.nL := fun i h => by rw [hnL_]; exact h
  have hw : wpO (sX11_of F l0 l1 l2 h) (fun r => r = v) := ⟨_, hs, rfl⟩
  unfold sX11_of at hw
  refine R_aload_n (q := 0) (i := 0) (v := (some l0)) hc dX11_of_0 rfl rfl ?_
  refine R_getR hc fl_11_7 dX11_of_1 hw (fun t1 hw => ?_)
  refine R_iconst (v := (5 : Int32)) hc dX11_of_4 kI_5 ?_
  refine R_bipush (v := (6 : Int32)) hc dX11_of_5 kB_6 ?_
  refine R_aload_n (q := 0) (i := 0) (v := (some l0)) hc dX11_of_7 rfl rfl ?_
  refine R_getR hc fl_11_7 dX11_of_8 hw (fun t2 hw => ?_)
  refine R_bipush (v := (73 : Int32)) hc dX11_of_11 kB_73 ?_
  refine R_iload_n (q := 1) (i := 1) (v := l1) hc dX11_of_13 rfl rfl ?_
  refine R_iadd hc dX11_of_14 ?_
  refine R_iaload hc dX11_of_15 hw (fun t3 hw => ?_)
  refine R_imul hc dX11_of_16 ?_
  refine R_iadd hc dX11_of_17 ?_
  refine R_iload_n (q := 2) (i := 2) (v := l2) hc dX11_of_18 rfl rfl ?_
  refine R_iadd hc dX11_of_19 ?_
  refine R_iaload hc dX11_of_20 hw (fun t4 hw => ?_)
  exact R_ireturnP hc hret rfl hQ hw dX11_of_21
theorem dX11_side_0 : decode cX11_side 0 = .ok (.iload_n 3, 1) := by decide +kernel
theorem dX11_side_1 : decode cX11_side 1 = .ok (.ifCond .eq 18, 3) := by decide +kernel
theorem dX11_side_4 : decode cX11_side 4 = .ok (.iload_n 2, 1) := by decide +kernel
theorem dX11_side_5 : decode cX11_side 5 = .ok (.iconst 2, 1) := by decide +kernel
theorem dX11_side_6 : decode cX11_side 6 = .ok (.irem, 1) := by decide +kernel
theorem dX11_side_7 : decode cX11_side 7 = .ok (.iconst 1, 1) := by decide +kernel
theorem dX11_side_8 : decode cX11_side 8 = .ok (.if_icmp .ne 7, 3) := by decide +kernel
theorem dX11_side_11 : decode cX11_side 11 = .ok (.iconst 1, 1) := by decide +kernel
theorem dX11_side_12 : decode cX11_side 12 = .ok (.goto 17, 3) := by decide +kernel
theorem dX11_side_15 : decode cX11_side 15 = .ok (.iconst 0, 1) := by decide +kernel
theorem dX11_side_16 : decode cX11_side 16 = .ok (.goto 13, 3) := by decide +kernel
theorem dX11_side_19 : decode cX11_side 19 = .ok (.iload_n 2, 1) := by decide +kernel
theorem dX11_side_20 : decode cX11_side 20 = .ok (.iconst 1, 1) := by decide +kernel
theorem dX11_side_21 : decode cX11_side 21 = .ok (.if_icmp .le 7, 3) := by decide +kernel
theorem dX11_side_24 : decode cX11_side 24 = .ok (.iconst 1, 1) := by decide +kernel
theorem dX11_side_25 : decode cX11_side 25 = .ok (.goto 4, 3) := by decide +kernel
theorem dX11_side_28 : decode cX11_side 28 = .ok (.iconst 0, 1) := by decide +kernel
theorem dX11_side_29 : decode cX11_side 29 = .ok (.istore 5, 2) := by decide +kernel
theorem dX11_side_31 : decode cX11_side 31 = .ok (.aload_n 0, 1) := by decide +kernel
theorem dX11_side_32 : decode cX11_side 32 = .ok (.iload_n 1, 1) := by decide +kernel
theorem dX11_side_33 : decode cX11_side 33 = .ok (.iload_n 3, 1) := by decide +kernel
theorem dX11_side_34 : decode cX11_side 34 = .ok (.ifCond .eq 7, 3) := by decide +kernel
theorem dX11_side_37 : decode cX11_side 37 = .ok (.iconst 1, 1) := by decide +kernel
theorem dX11_side_38 : decode cX11_side 38 = .ok (.goto 4, 3) := by decide +kernel
theorem dX11_side_41 : decode cX11_side 41 = .ok (.iconst 3, 1) := by decide +kernel
theorem dX11_side_42 : decode cX11_side 42 = .ok (.iload 5, 2) := by decide +kernel
theorem dX11_side_44 : decode cX11_side 44 = .ok (.iload 4, 2) := by decide +kernel
theorem dX11_side_46 : decode cX11_side 46 = .ok (.if_icmp .eq 7, 3) := by decide +kernel
theorem dX11_side_49 : decode cX11_side 49 = .ok (.iconst 1, 1) := by decide +kernel
theorem dX11_side_50 : decode cX11_side 50 = .ok (.goto 4, 3) := by decide +kernel
theorem dX11_side_53 : decode cX11_side 53 = .ok (.iconst 0, 1) := by decide +kernel
theorem dX11_side_54 : decode cX11_side 54 = .ok (.iadd, 1) := by decide +kernel
theorem dX11_side_55 : decode cX11_side 55 = .ok (.invokevirtual 111, 3) := by decide +kernel
theorem dX11_side_58 : decode cX11_side 58 = .ok (.ireturn, 1) := by decide +kernel
def sX11_side (F : Nat) (l0 : Nat) (l1 : Int32) (l2 : Int32) (l3 : Int32) (l4 : Int32) (h : HP) : Option Int32 :=
  (if l3 = 0 then
      if l2 ≤ (1 : Int32) then
        some (0 : Int32)
      else
        some (1 : Int32)
    else
      if ¬ (jrem l2 (2 : Int32)) = (1 : Int32) then
        some (0 : Int32)
      else
        some (1 : Int32)).bind fun s1 =>
  (if l3 = 0 then
      some (3 : Int32)
    else
      some (1 : Int32)).bind fun s2 =>
  if s1 = l4 then
    (dO h 11 (some l0)).bind fun a3 =>
    (sX11_of F a3 l1 (s2 + (0 : Int32)) h).bind fun t4 =>
    some t4
  else
    (dO h 11 (some l0)).bind fun a5 =>
    (sX11_of F a5 l1 (s2 + (1 : Int32)) h).bind fun t6 =>
    some t6
abbrev rm_X11_side : Room := { frames := 1, cells := 0, slots := 0, locals := 22 }
set_option maxRecDepth 100000 in
set_option maxHeartbeats 4000000 in
theorem mt_X11_side {w : WD} {l : Launch} {F : Nat} {l0 : Nat} {l1 : Int32} {l2 : Int32} {l3 : Int32} {l4 : Int32} {h : HP} {v : Int32} (hs : sX11_side F l0 l1 l2 l3 l4 h = some v) : MI w l yX11_side cX11_side 6 .int rm_X11_side 0 0 [rf w (some l0), .int l1, .int l2, .int l3, .int l4] h v h := by
  refine of_body [(0, rf w (some l0)), (1, .int l1), (2, .int l2), (3, .int l3), (4, .int l4)] (by decide) (by simp [lg_sl, rf_cat, cat_i, cat_l, cat_a]) (by simp [lv_args, rf_cat, cat_i, cat_l, cat_a]) ?_
  intro x hw_ hnL_ hl_ hc hret hnm hQ
  subst hw_; subst hl_
  have hnl : ∀ i, i < 6 → i < x.nL := fun i h => by rw [hnL_]; exact h
  have hw : wpO (sX11_side F l0 l1 l2 l3 l4 h) (fun r => r = v) := ⟨_, hs, rfl⟩
  unfold sX11_side at hw
  refine R_iload_n (q := 3) (i := 3) (v := l3) hc dX11_side_0 rfl rfl ?_
  refine R_join (fun (s1 : Int32) => Rn x 0 0 29 [(0, rf x.w (some l0)), (1, .int l1), (3, .int l3), (4, .int l4)] [.int s1] h) hw (fun r hw => ?_) (fun hw => ?_)
  · revert r hw
    intro s1 hw
    show Rn x 0 0 29 [(0, rf x.w (some l0)), (1, .int l1), (3, .int l3), (4, .int l4)] [.int s1] h
    refine R_istore (i := 5) (v := s1) hc [(5, .int s1), (0, rf x.w (some l0)), (1, .int l1), (3, .int l3), (4, .int l4)] dX11_side_29 (hnl 5 (le_b rfl)) rfl ?_
    refine R_aload_n (q := 1) (i := 0) (v := (some l0)) hc dX11_side_31 rfl rfl ?_
    refine R_iload_n (q := 2) (i := 1) (v := l1) hc dX11_side_32 rfl rfl ?_
    refine R_iload_n (q := 3) (i := 3) (v := l3) hc dX11_side_33 rfl rfl ?_
    refine R_join (fun (s2 : Int32) => Rn x 0 0 42 [(4, .int l4), (5, .int s1)] [.int s2, .int l1, rf x.w (some l0)] h) hw (fun r hw => ?_) (fun hw => ?_)
    · revert r hw
      intro s2 hw
      show Rn x 0 0 42 [(4, .int l4), (5, .int s1)] [.int s2, .int l1, rf x.w (some l0)] h
      refine R_iload (q := 1) (i := 5) (v := s1) hc dX11_side_42 rfl ?_
      refine R_iload (q := 0) (i := 4) (v := l4) hc dX11_side_44 rfl ?_
      refine R_icmp_eq (tgt := 53) hc dX11_side_46 (by decide) hw (fun hw => ?_) (fun hw => ?_)
      · refine R_iconst (v := (0 : Int32)) hc dX11_side_53 kI_0 ?_
        refine R_iadd hc dX11_side_54 ?_
        refine R_cVI (As := [.int l1, .int (s2 + (0 : Int32))]) (rest := []) (r := (some l0)) (ci := 11) hc ml_11_111 mf_X11_of rfl (by decide) ⟨rfl, rfl⟩ ⟨le_b rfl, le_b rfl⟩ ⟨Nat.zero_le _, Nat.zero_le _⟩ (fun a v e => mt_X11_of e) rfl rfl (Nat.zero_le _) dX11_side_55 hw (fun t4 hw => ?_)
        exact R_ireturnP hc hret rfl hQ hw dX11_side_58
      · refine R_iconst (v := (1 : Int32)) hc dX11_side_49 kI_1 ?_
        refine R_goto (tgt := 54) hc dX11_side_50 (by decide) ?_
        refine R_iadd hc dX11_side_54 ?_
        refine R_cVI (As := [.int l1, .int (s2 + (1 : Int32))]) (rest := []) (r := (some l0)) (ci := 11) hc ml_11_111 mf_X11_of rfl (by decide) ⟨rfl, rfl⟩ ⟨le_b rfl, le_b rfl⟩ ⟨Nat.zero_le _, Nat.zero_le _⟩ (fun a v e => mt_X11_of e) rfl rfl (Nat.zero_le _) dX11_side_55 hw (fun t6 hw => ?_)
        exact R_ireturnP hc hret rfl hQ hw dX11_side_58
    · refine R_if_eq (tgt := 41) hc dX11_side_34 (by decide) hw (fun hw => ?_) (fun hw => ?_)
      · refine R_iconst (v := (3 : Int32)) hc dX11_side_41 kI_3 ?_
        refine R_sub hc [4, 0] rfl ?_
        exact (wpO_some hw :)
      · refine R_iconst (v := (1 : Int32)) hc dX11_side_37 kI_1 ?_
        refine R_goto (tgt := 42) hc dX11_side_38 (by decide) ?_
        refine R_sub hc [4, 0] rfl ?_
        exact (wpO_some hw :)
  · refine R_if_eq (tgt := 19) hc dX11_side_1 (by decide) hw (fun hw => ?_) (fun hw => ?_)
    · refine R_iload_n (q := 2) (i := 2) (v := l2) hc dX11_side_19 rfl rfl ?_
      refine R_iconst (v := (1 : Int32)) hc dX11_side_20 kI_1 ?_
      refine R_icmp_le (tgt := 28) hc dX11_side_21 (by decide) hw (fun hw => ?_) (fun hw => ?_)
      · refine R_iconst (v := (0 : Int32)) hc dX11_side_28 kI_0 ?_
        refine R_sub hc [0, 1, 3, 4] rfl ?_
        exact (wpO_some hw :)
      · refine R_iconst (v := (1 : Int32)) hc dX11_side_24 kI_1 ?_
        refine R_goto (tgt := 29) hc dX11_side_25 (by decide) ?_
        refine R_sub hc [0, 1, 3, 4] rfl ?_
        exact (wpO_some hw :)
    · refine R_iload_n (q := 2) (i := 2) (v := l2) hc dX11_side_4 rfl rfl ?_
      refine R_iconst (v := (2 : Int32)) hc dX11_side_5 kI_2 ?_
      refine R_iremL hc dX11_side_6 (by decide) ?_
      refine R_iconst (v := (1 : Int32)) hc dX11_side_7 kI_1 ?_
      refine R_icmp_ne (tgt := 15) hc dX11_side_8 (by decide) hw (fun hw => ?_) (fun hw => ?_)
      · refine R_iconst (v := (0 : Int32)) hc dX11_side_15 kI_0 ?_
        refine R_goto (tgt := 29) hc dX11_side_16 (by decide) ?_
        refine R_sub hc [0, 1, 3, 4] rfl ?_
        exact (wpO_some hw :)
      · refine R_iconst (v := (1 : Int32)) hc dX11_side_11 kI_1 ?_
        refine R_goto (tgt := 29) hc dX11_side_12 (by decide) ?_
        refine R_sub hc [0, 1, 3, 4] rfl ?_
        exact (wpO_some hw :)
theorem dX11_meets_0 : decode cX11_meets 0 = .ok (.aload_n 0, 1) := by decide +kernel
theorem dX11_meets_1 : decode cX11_meets 1 = .ok (.iload_n 1, 1) := by decide +kernel
theorem dX11_meets_2 : decode cX11_meets 2 = .ok (.iload_n 2, 1) := by decide +kernel
theorem dX11_meets_3 : decode cX11_meets 3 = .ok (.iload 5, 2) := by decide +kernel
theorem dX11_meets_5 : decode cX11_meets 5 = .ok (.iconst 1, 1) := by decide +kernel
theorem dX11_meets_6 : decode cX11_meets 6 = .ok (.invokevirtual 115, 3) := by decide +kernel
theorem dX11_meets_9 : decode cX11_meets 9 = .ok (.aload_n 0, 1) := by decide +kernel
theorem dX11_meets_10 : decode cX11_meets 10 = .ok (.iload_n 3, 1) := by decide +kernel
theorem dX11_meets_11 : decode cX11_meets 11 = .ok (.iload 4, 2) := by decide +kernel
theorem dX11_meets_13 : decode cX11_meets 13 = .ok (.iload 5, 2) := by decide +kernel
theorem dX11_meets_15 : decode cX11_meets 15 = .ok (.iconst 0, 1) := by decide +kernel
theorem dX11_meets_16 : decode cX11_meets 16 = .ok (.invokevirtual 115, 3) := by decide +kernel
theorem dX11_meets_19 : decode cX11_meets 19 = .ok (.if_icmp .ne 7, 3) := by decide +kernel
theorem dX11_meets_22 : decode cX11_meets 22 = .ok (.iconst 1, 1) := by decide +kernel
theorem dX11_meets_23 : decode cX11_meets 23 = .ok (.goto 4, 3) := by decide +kernel
theorem dX11_meets_26 : decode cX11_meets 26 = .ok (.iconst 0, 1) := by decide +kernel
theorem dX11_meets_27 : decode cX11_meets 27 = .ok (.ireturn, 1) := by decide +kernel
def sX11_meets (F : Nat) (l0 : Nat) (l1 : Int32) (l2 : Int32) (l3 : Int32) (l4 : Int32) (l5 : Int32) (h : HP) : Option Int32 :=
  (dO h 11 (some l0)).bind fun a1 =>
  (sX11_side F a1 l1 l2 l5 (1 : Int32) h).bind fun t2 =>
  (dO h 11 (some l0)).bind fun a3 =>
  (sX11_side F a3 l3 l4 l5 (0 : Int32) h).bind fun t4 =>
  if ¬ t2 = t4 then
    some (0 : Int32)
  else
    some (1 : Int32)
abbrev rm_X11_meets : Room := { frames := 2, cells := 0, slots := 0, locals := 47 }
set_option maxRecDepth 100000 in
set_option maxHeartbeats 4000000 in
theorem mt_X11_meets {w : WD} {l : Launch} {F : Nat} {l0 : Nat} {l1 : Int32} {l2 : Int32} {l3 : Int32} {l4 : Int32} {l5 : Int32} {h : HP} {v : Int32} (hs : sX11_meets F l0 l1 l2 l3 l4 l5 h = some v) : MI w l yX11_meets cX11_meets 6 .boolean rm_X11_meets 0 0 [rf w (some l0), .int l1, .int l2, .int l3, .int l4, .int l5] h v h := by
  refine of_body [(0, rf w (some l0)), (1, .int l1), (2, .int l2), (3, .int l3), (4, .int l4), (5, .int l5)] (by decide) (by simp [lg_sl, rf_cat, cat_i, cat_l, cat_a]) (by simp [lv_args, rf_cat, cat_i, cat_l, cat_a]) ?_
  intro x hw_ hnL_ hl_ hc hret hnm hQ
  subst hw_; subst hl_
  have hnl : ∀ i, i < 6 → i < x.nL := fun i h => by rw [hnL_]; exact h
  have hw : wpO (sX11_meets F l0 l1 l2 l3 l4 l5 h) (fun r => r = v) := ⟨_, hs, rfl⟩
  unfold sX11_meets at hw
  refine R_aload_n (q := 0) (i := 0) (v := (some l0)) hc dX11_meets_0 rfl rfl ?_
  refine R_iload_n (q := 1) (i := 1) (v := l1) hc dX11_meets_1 rfl rfl ?_
  refine R_iload_n (q := 2) (i := 2) (v := l2) hc dX11_meets_2 rfl rfl ?_
  refine R_iload (q := 5) (i := 5) (v := l5) hc dX11_meets_3 rfl ?_
  refine R_iconst (v := (1 : Int32)) hc dX11_meets_5 kI_1 ?_
  refine R_cVI (As := [.int l1, .int l2, .int l5, .int (1 : Int32)]) (rest := []) (r := (some l0)) (ci := 11) hc ml_11_115 mf_X11_side rfl (by decide) ⟨rfl, rfl⟩ ⟨le_b rfl, le_b rfl⟩ ⟨Nat.zero_le _, Nat.zero_le _⟩ (fun a v e => mt_X11_side e) rfl rfl (Nat.zero_le _) dX11_meets_6 hw (fun t2 hw => ?_)
  refine R_aload_n (q := 0) (i := 0) (v := (some l0)) hc dX11_meets_9 rfl rfl ?_
  refine R_iload_n (q := 3) (i := 3) (v := l3) hc dX11_meets_10 rfl rfl ?_
  refine R_iload (q := 4) (i := 4) (v := l4) hc dX11_meets_11 rfl ?_
  refine R_iload (q := 5) (i := 5) (v := l5) hc dX11_meets_13 rfl ?_
  refine R_iconst (v := (0 : Int32)) hc dX11_meets_15 kI_0 ?_
  refine R_cVI (As := [.int l3, .int l4, .int l5, .int (0 : Int32)]) (rest := [.int t2]) (r := (some l0)) (ci := 11) hc ml_11_115 mf_X11_side rfl (by decide) ⟨rfl, rfl⟩ ⟨le_b rfl, le_b rfl⟩ ⟨Nat.zero_le _, Nat.zero_le _⟩ (fun a v e => mt_X11_side e) rfl rfl (le_b rfl) dX11_meets_16 hw (fun t4 hw => ?_)
  refine R_icmp_ne (tgt := 26) hc dX11_meets_19 (by decide) hw (fun hw => ?_) (fun hw => ?_)
  · refine R_iconst (v := (0 : Int32)) hc dX11_meets_26 kI_0 ?_
    exact R_ireturnP hc hret rfl hQ hw dX11_meets_27
  · refine R_iconst (v := (1 : Int32)) hc dX11_meets_22 kI_1 ?_
    refine R_goto (tgt := 27) hc dX11_meets_23 (by decide) ?_
    exact R_ireturnP hc hret rfl hQ hw dX11_meets_27
theorem dX11_lacks_0 : decode cX11_lacks 0 = .ok (.aload_n 0, 1) := by decide +kernel
theorem dX11_lacks_1 : decode cX11_lacks 1 = .ok (.iload_n 1, 1) := by decide +kernel
theorem dX11_lacks_2 : decode cX11_lacks 2 = .ok (.iload_n 2, 1) := by decide +kernel
theorem dX11_lacks_3 : decode cX11_lacks 3 = .ok (.iload_n 3, 1) := by decide +kernel
theorem dX11_lacks_4 : decode cX11_lacks 4 = .ok (.iload 4, 2) := by decide +kernel
theorem dX11_lacks_6 : decode cX11_lacks 6 = .ok (.iconst 1, 1) := by decide +kernel
theorem dX11_lacks_7 : decode cX11_lacks 7 = .ok (.invokevirtual 119, 3) := by decide +kernel
theorem dX11_lacks_10 : decode cX11_lacks 10 = .ok (.ifCond .eq 7, 3) := by decide +kernel
theorem dX11_lacks_13 : decode cX11_lacks 13 = .ok (.iconst 0, 1) := by decide +kernel
theorem dX11_lacks_14 : decode cX11_lacks 14 = .ok (.goto 4, 3) := by decide +kernel
theorem dX11_lacks_17 : decode cX11_lacks 17 = .ok (.iconst 1, 1) := by decide +kernel
theorem dX11_lacks_18 : decode cX11_lacks 18 = .ok (.aload_n 0, 1) := by decide +kernel
theorem dX11_lacks_19 : decode cX11_lacks 19 = .ok (.iload_n 1, 1) := by decide +kernel
theorem dX11_lacks_20 : decode cX11_lacks 20 = .ok (.iload_n 2, 1) := by decide +kernel
theorem dX11_lacks_21 : decode cX11_lacks 21 = .ok (.iload_n 3, 1) := by decide +kernel
theorem dX11_lacks_22 : decode cX11_lacks 22 = .ok (.iload 4, 2) := by decide +kernel
theorem dX11_lacks_24 : decode cX11_lacks 24 = .ok (.iconst 0, 1) := by decide +kernel
theorem dX11_lacks_25 : decode cX11_lacks 25 = .ok (.invokevirtual 119, 3) := by decide +kernel
theorem dX11_lacks_28 : decode cX11_lacks 28 = .ok (.ifCond .eq 7, 3) := by decide +kernel
theorem dX11_lacks_31 : decode cX11_lacks 31 = .ok (.iconst 0, 1) := by decide +kernel
theorem dX11_lacks_32 : decode cX11_lacks 32 = .ok (.goto 4, 3) := by decide +kernel
theorem dX11_lacks_35 : decode cX11_lacks 35 = .ok (.iconst 1, 1) := by decide +kernel
theorem dX11_lacks_36 : decode cX11_lacks 36 = .ok (.iadd, 1) := by decide +kernel
theorem dX11_lacks_37 : decode cX11_lacks 37 = .ok (.ireturn, 1) := by decide +kernel
def sX11_lacks (F : Nat) (l0 : Nat) (l1 : Int32) (l2 : Int32) (l3 : Int32) (l4 : Int32) (h : HP) : Option Int32 :=
  (dO h 11 (some l0)).bind fun a1 =>
  (sX11_meets F a1 l1 l2 l3 l4 (1 : Int32) h).bind fun t2 =>
  (if t2 = 0 then
      some (1 : Int32)
    else
      some (0 : Int32)).bind fun s3 =>
  (dO h 11 (some l0)).bind fun a4 =>
  (sX11_meets F a4 l1 l2 l3 l4 (0 : Int32) h).bind fun t5 =>
  if t5 = 0 then
    some (s3 + (1 : Int32))
  else
    some (s3 + (0 : Int32))
abbrev rm_X11_lacks : Room := { frames := 3, cells := 0, slots := 0, locals := 72 }
set_option maxRecDepth 100000 in
set_option maxHeartbeats 4000000 in
theorem mt_X11_lacks {w : WD} {l : Launch} {F : Nat} {l0 : Nat} {l1 : Int32} {l2 : Int32} {l3 : Int32} {l4 : Int32} {h : HP} {v : Int32} (hs : sX11_lacks F l0 l1 l2 l3 l4 h = some v) : MI w l yX11_lacks cX11_lacks 5 .int rm_X11_lacks 0 0 [rf w (some l0), .int l1, .int l2, .int l3, .int l4] h v h := by
  refine of_body [(0, rf w (some l0)), (1, .int l1), (2, .int l2), (3, .int l3), (4, .int l4)] (by decide) (by simp [lg_sl, rf_cat, cat_i, cat_l, cat_a]) (by simp [lv_args, rf_cat, cat_i, cat_l, cat_a]) ?_
  intro x hw_ hnL_ hl_ hc hret hnm hQ
  subst hw_; subst hl_
  have hnl : ∀ i, i < 5 → i < x.nL := fun i h => by rw [hnL_]; exact h
  have hw : wpO (sX11_lacks F l0 l1 l2 l3 l4 h) (fun r => r = v) := ⟨_, hs, rfl⟩
  unfold sX11_lacks at hw
  refine R_aload_n (q := 0) (i := 0) (v := (some l0)) hc dX11_lacks_0 rfl rfl ?_
  refine R_iload_n (q := 1) (i := 1) (v := l1) hc dX11_lacks_1 rfl rfl ?_
  refine R_iload_n (q := 2) (i := 2) (v := l2) hc dX11_lacks_2 rfl rfl ?_
  refine R_iload_n (q := 3) (i := 3) (v := l3) hc dX11_lacks_3 rfl rfl ?_
  refine R_iload (q := 4) (i := 4) (v := l4) hc dX11_lacks_4 rfl ?_
  refine R_iconst (v := (1 : Int32)) hc dX11_lacks_6 kI_1 ?_
  refine R_cVI (As := [.int l1, .int l2, .int l3, .int l4, .int (1 : Int32)]) (rest := []) (r := (some l0)) (ci := 11) hc ml_11_119 mf_X11_meets rfl (by decide) ⟨rfl, rfl⟩ ⟨le_b rfl, le_b rfl⟩ ⟨Nat.zero_le _, Nat.zero_le _⟩ (fun a v e => mt_X11_meets e) rfl rfl (Nat.zero_le _) dX11_lacks_7 hw (fun t2 hw => ?_)
  refine R_join (fun (s3 : Int32) => Rn x 0 0 18 [(0, rf x.w (some l0)), (1, .int l1), (2, .int l2), (3, .int l3), (4, .int l4)] [.int s3] h) hw (fun r hw => ?_) (fun hw => ?_)
  · revert r hw
    intro s3 hw
    show Rn x 0 0 18 [(0, rf x.w (some l0)), (1, .int l1), (2, .int l2), (3, .int l3), (4, .int l4)] [.int s3] h
    refine R_aload_n (q := 0) (i := 0) (v := (some l0)) hc dX11_lacks_18 rfl rfl ?_
    refine R_iload_n (q := 1) (i := 1) (v := l1) hc dX11_lacks_19 rfl rfl ?_
    refine R_iload_n (q := 2) (i := 2) (v := l2) hc dX11_lacks_20 rfl rfl ?_
    refine R_iload_n (q := 3) (i := 3) (v := l3) hc dX11_lacks_21 rfl rfl ?_
    refine R_iload (q := 4) (i := 4) (v := l4) hc dX11_lacks_22 rfl ?_
    refine R_iconst (v := (0 : Int32)) hc dX11_lacks_24 kI_0 ?_
    refine R_cVI (As := [.int l1, .int l2, .int l3, .int l4, .int (0 : Int32)]) (rest := [.int s3]) (r := (some l0)) (ci := 11) hc ml_11_119 mf_X11_meets rfl (by decide) ⟨rfl, rfl⟩ ⟨le_b rfl, le_b rfl⟩ ⟨Nat.zero_le _, Nat.zero_le _⟩ (fun a v e => mt_X11_meets e) rfl rfl (le_b rfl) dX11_lacks_25 hw (fun t5 hw => ?_)
    refine R_if_eq (tgt := 35) hc dX11_lacks_28 (by decide) hw (fun hw => ?_) (fun hw => ?_)
    · refine R_iconst (v := (1 : Int32)) hc dX11_lacks_35 kI_1 ?_
      refine R_iadd hc dX11_lacks_36 ?_
      exact R_ireturnP hc hret rfl hQ hw dX11_lacks_37
    · refine R_iconst (v := (0 : Int32)) hc dX11_lacks_31 kI_0 ?_
      refine R_goto (tgt := 36) hc dX11_lacks_32 (by decide) ?_
      refine R_iadd hc dX11_lacks_36 ?_
      exact R_ireturnP hc hret rfl hQ hw dX11_lacks_37
  · refine R_if_eq (tgt := 17) hc dX11_lacks_10 (by decide) hw (fun hw => ?_) (fun hw => ?_)
    · refine R_iconst (v := (1 : Int32)) hc dX11_lacks_17 kI_1 ?_
      refine R_sub hc [0, 1, 2, 3, 4] rfl ?_
      exact (wpO_some hw :)
    · refine R_iconst (v := (0 : Int32)) hc dX11_lacks_13 kI_0 ?_
      refine R_goto (tgt := 18) hc dX11_lacks_14 (by decide) ?_
      refine R_sub hc [0, 1, 2, 3, 4] rfl ?_
      exact (wpO_some hw :)
theorem dX11_state_0 : decode cX11_state 0 = .ok (.bipush 32, 2) := by decide +kernel
theorem dX11_state_2 : decode cX11_state 2 = .ok (.iload_n 0, 1) := by decide +kernel
theorem dX11_state_3 : decode cX11_state 3 = .ok (.imul, 1) := by decide +kernel
theorem dX11_state_4 : decode cX11_state 4 = .ok (.iconst 4, 1) := by decide +kernel
theorem dX11_state_5 : decode cX11_state 5 = .ok (.iload_n 1, 1) := by decide +kernel
theorem dX11_state_6 : decode cX11_state 6 = .ok (.imul, 1) := by decide +kernel
theorem dX11_state_7 : decode cX11_state 7 = .ok (.iadd, 1) := by decide +kernel
theorem dX11_state_8 : decode cX11_state 8 = .ok (.iload_n 2, 1) := by decide +kernel
theorem dX11_state_9 : decode cX11_state 9 = .ok (.iadd, 1) := by decide +kernel
theorem dX11_state_10 : decode cX11_state 10 = .ok (.ireturn, 1) := by decide +kernel
def sX11_state (F : Nat) (l0 : Int32) (l1 : Int32) (l2 : Int32) (h : HP) : Option Int32 :=
  some ((((32 : Int32) * l0) + ((4 : Int32) * l1)) + l2)
abbrev rm_X11_state : Room := { frames := 0, cells := 0, slots := 0, locals := 0 }
set_option maxRecDepth 100000 in
set_option maxHeartbeats 4000000 in
theorem mt_X11_state {w : WD} {l : Launch} {F : Nat} {l0 : Int32} {l1 : Int32} {l2 : Int32} {h : HP} {v : Int32} (hs : sX11_state F l0 l1 l2 h = some v) : MI w l yX11_state cX11_state 3 .int rm_X11_state 0 0 [.int l0, .int l1, .int l2] h v h := by
  refine of_body [(0, .int l0), (1, .int l1), (2, .int l2)] (by decide) (by simp [lg_sl, rf_cat, cat_i, cat_l, cat_a]) (by simp [lv_args, rf_cat, cat_i, cat_l, cat_a]) ?_
  intro x hw_ hnL_ hl_ hc hret hnm hQ
  subst hw_; subst hl_
  have hnl : ∀ i, i < 3 → i < x.nL := fun i h => by rw [hnL_]; exact h
  have hw : wpO (sX11_state F l0 l1 l2 h) (fun r => r = v) := ⟨_, hs, rfl⟩
  unfold sX11_state at hw
  refine R_bipush (v := (32 : Int32)) hc dX11_state_0 kB_32 ?_
  refine R_iload_n (q := 0) (i := 0) (v := l0) hc dX11_state_2 rfl rfl ?_
  refine R_imul hc dX11_state_3 ?_
  refine R_iconst (v := (4 : Int32)) hc dX11_state_4 kI_4 ?_
  refine R_iload_n (q := 1) (i := 1) (v := l1) hc dX11_state_5 rfl rfl ?_
  refine R_imul hc dX11_state_6 ?_
  refine R_iadd hc dX11_state_7 ?_
  refine R_iload_n (q := 2) (i := 2) (v := l2) hc dX11_state_8 rfl rfl ?_
  refine R_iadd hc dX11_state_9 ?_
  exact R_ireturnP hc hret rfl hQ hw dX11_state_10
theorem dX11_laysState_0 : decode cX11_laysState 0 = .ok (.iload_n 1, 1) := by decide +kernel
theorem dX11_laysState_1 : decode cX11_laysState 1 = .ok (.iload_n 2, 1) := by decide +kernel
theorem dX11_laysState_2 : decode cX11_laysState 2 = .ok (.iload_n 3, 1) := by decide +kernel
theorem dX11_laysState_3 : decode cX11_laysState 3 = .ok (.invokestatic 123, 3) := by decide +kernel
theorem dX11_laysState_6 : decode cX11_laysState 6 = .ok (.istore 5, 2) := by decide +kernel
theorem dX11_laysState_8 : decode cX11_laysState 8 = .ok (.iload_n 1, 1) := by decide +kernel
theorem dX11_laysState_9 : decode cX11_laysState 9 = .ok (.iconst 1, 1) := by decide +kernel
theorem dX11_laysState_10 : decode cX11_laysState 10 = .ok (.aload_n 0, 1) := by decide +kernel
theorem dX11_laysState_11 : decode cX11_laysState 11 = .ok (.invokevirtual 103, 3) := by decide +kernel
theorem dX11_laysState_14 : decode cX11_laysState 14 = .ok (.ishl, 1) := by decide +kernel
theorem dX11_laysState_15 : decode cX11_laysState 15 = .ok (.iconst 1, 1) := by decide +kernel
theorem dX11_laysState_16 : decode cX11_laysState 16 = .ok (.isub, 1) := by decide +kernel
theorem dX11_laysState_17 : decode cX11_laysState 17 = .ok (.if_icmp .ne 7, 3) := by decide +kernel
theorem dX11_laysState_20 : decode cX11_laysState 20 = .ok (.iconst 1, 1) := by decide +kernel
theorem dX11_laysState_21 : decode cX11_laysState 21 = .ok (.goto 4, 3) := by decide +kernel
theorem dX11_laysState_24 : decode cX11_laysState 24 = .ok (.iconst 0, 1) := by decide +kernel
theorem dX11_laysState_25 : decode cX11_laysState 25 = .ok (.istore 6, 2) := by decide +kernel
theorem dX11_laysState_27 : decode cX11_laysState 27 = .ok (.aload_n 0, 1) := by decide +kernel
theorem dX11_laysState_28 : decode cX11_laysState 28 = .ok (.getfield 29, 3) := by decide +kernel
theorem dX11_laysState_31 : decode cX11_laysState 31 = .ok (.iload 5, 2) := by decide +kernel
theorem dX11_laysState_33 : decode cX11_laysState 33 = .ok (.iload 6, 2) := by decide +kernel
theorem dX11_laysState_35 : decode cX11_laysState 35 = .ok (.ifCond .eq 19, 3) := by decide +kernel
theorem dX11_laysState_38 : decode cX11_laysState 38 = .ok (.iload 4, 2) := by decide +kernel
theorem dX11_laysState_40 : decode cX11_laysState 40 = .ok (.iconst (-1), 1) := by decide +kernel
theorem dX11_laysState_41 : decode cX11_laysState 41 = .ok (.if_icmp .eq 9, 3) := by decide +kernel
theorem dX11_laysState_44 : decode cX11_laysState 44 = .ok (.iload 4, 2) := by decide +kernel
theorem dX11_laysState_46 : decode cX11_laysState 46 = .ok (.iload_n 2, 1) := by decide +kernel
theorem dX11_laysState_47 : decode cX11_laysState 47 = .ok (.if_icmp .ne 7, 3) := by decide +kernel
theorem dX11_laysState_50 : decode cX11_laysState 50 = .ok (.iconst 0, 1) := by decide +kernel
theorem dX11_laysState_51 : decode cX11_laysState 51 = .ok (.goto 6, 3) := by decide +kernel
theorem dX11_laysState_54 : decode cX11_laysState 54 = .ok (.sipush 1000, 3) := by decide +kernel
theorem dX11_laysState_57 : decode cX11_laysState 57 = .ok (.iastore, 1) := by decide +kernel
theorem dX11_laysState_58 : decode cX11_laysState 58 = .ok (.aload_n 0, 1) := by decide +kernel
theorem dX11_laysState_59 : decode cX11_laysState 59 = .ok (.getfield 32, 3) := by decide +kernel
theorem dX11_laysState_62 : decode cX11_laysState 62 = .ok (.iload 5, 2) := by decide +kernel
theorem dX11_laysState_64 : decode cX11_laysState 64 = .ok (.aload_n 0, 1) := by decide +kernel
theorem dX11_laysState_65 : decode cX11_laysState 65 = .ok (.getfield 29, 3) := by decide +kernel
theorem dX11_laysState_68 : decode cX11_laysState 68 = .ok (.iload 5, 2) := by decide +kernel
theorem dX11_laysState_70 : decode cX11_laysState 70 = .ok (.iaload, 1) := by decide +kernel
theorem dX11_laysState_71 : decode cX11_laysState 71 = .ok (.ifCond .ne 7, 3) := by decide +kernel
theorem dX11_laysState_74 : decode cX11_laysState 74 = .ok (.lconst 1, 1) := by decide +kernel
theorem dX11_laysState_75 : decode cX11_laysState 75 = .ok (.goto 4, 3) := by decide +kernel
theorem dX11_laysState_78 : decode cX11_laysState 78 = .ok (.lconst 0, 1) := by decide +kernel
theorem dX11_laysState_79 : decode cX11_laysState 79 = .ok (.lastore, 1) := by decide +kernel
theorem dX11_laysState_80 : decode cX11_laysState 80 = .ok (.aload_n 0, 1) := by decide +kernel
theorem dX11_laysState_81 : decode cX11_laysState 81 = .ok (.getfield 36, 3) := by decide +kernel
theorem dX11_laysState_84 : decode cX11_laysState 84 = .ok (.iload 5, 2) := by decide +kernel
theorem dX11_laysState_86 : decode cX11_laysState 86 = .ok (.iconst 0, 1) := by decide +kernel
theorem dX11_laysState_87 : decode cX11_laysState 87 = .ok (.iastore, 1) := by decide +kernel
theorem dX11_laysState_88 : decode cX11_laysState 88 = .ok (.iconst 0, 1) := by decide +kernel
theorem dX11_laysState_89 : decode cX11_laysState 89 = .ok (.istore 7, 2) := by decide +kernel
theorem dX11_laysState_91 : decode cX11_laysState 91 = .ok (.iload 7, 2) := by decide +kernel
theorem dX11_laysState_93 : decode cX11_laysState 93 = .ok (.aload_n 0, 1) := by decide +kernel
theorem dX11_laysState_94 : decode cX11_laysState 94 = .ok (.invokevirtual 103, 3) := by decide +kernel
theorem dX11_laysState_97 : decode cX11_laysState 97 = .ok (.if_icmp .ge 195, 3) := by decide +kernel
theorem dX11_laysState_100 : decode cX11_laysState 100 = .ok (.iload_n 1, 1) := by decide +kernel
theorem dX11_laysState_101 : decode cX11_laysState 101 = .ok (.iload 7, 2) := by decide +kernel
theorem dX11_laysState_103 : decode cX11_laysState 103 = .ok (.ishr, 1) := by decide +kernel
theorem dX11_laysState_104 : decode cX11_laysState 104 = .ok (.iconst 1, 1) := by decide +kernel
theorem dX11_laysState_105 : decode cX11_laysState 105 = .ok (.iand, 1) := by decide +kernel
theorem dX11_laysState_106 : decode cX11_laysState 106 = .ok (.iconst 1, 1) := by decide +kernel
theorem dX11_laysState_107 : decode cX11_laysState 107 = .ok (.if_icmp .ne 6, 3) := by decide +kernel
theorem dX11_laysState_110 : decode cX11_laysState 110 = .ok (.goto 176, 3) := by decide +kernel
theorem dX11_laysState_113 : decode cX11_laysState 113 = .ok (.iconst 0, 1) := by decide +kernel
theorem dX11_laysState_114 : decode cX11_laysState 114 = .ok (.istore 8, 2) := by decide +kernel
theorem dX11_laysState_116 : decode cX11_laysState 116 = .ok (.iload 8, 2) := by decide +kernel
theorem dX11_laysState_118 : decode cX11_laysState 118 = .ok (.iconst 4, 1) := by decide +kernel
theorem dX11_laysState_119 : decode cX11_laysState 119 = .ok (.if_icmp .ge 167, 3) := by decide +kernel
theorem dX11_laysState_122 : decode cX11_laysState 122 = .ok (.iload_n 1, 1) := by decide +kernel
theorem dX11_laysState_123 : decode cX11_laysState 123 = .ok (.iconst 1, 1) := by decide +kernel
theorem dX11_laysState_124 : decode cX11_laysState 124 = .ok (.iload 7, 2) := by decide +kernel
theorem dX11_laysState_126 : decode cX11_laysState 126 = .ok (.ishl, 1) := by decide +kernel
theorem dX11_laysState_127 : decode cX11_laysState 127 = .ok (.ior, 1) := by decide +kernel
theorem dX11_laysState_128 : decode cX11_laysState 128 = .ok (.iload 7, 2) := by decide +kernel
theorem dX11_laysState_130 : decode cX11_laysState 130 = .ok (.iload 8, 2) := by decide +kernel
theorem dX11_laysState_132 : decode cX11_laysState 132 = .ok (.invokestatic 123, 3) := by decide +kernel
theorem dX11_laysState_135 : decode cX11_laysState 135 = .ok (.istore 9, 2) := by decide +kernel
theorem dX11_laysState_137 : decode cX11_laysState 137 = .ok (.aload_n 0, 1) := by decide +kernel
theorem dX11_laysState_138 : decode cX11_laysState 138 = .ok (.iload_n 2, 1) := by decide +kernel
theorem dX11_laysState_139 : decode cX11_laysState 139 = .ok (.iload_n 3, 1) := by decide +kernel
theorem dX11_laysState_140 : decode cX11_laysState 140 = .ok (.iload 7, 2) := by decide +kernel
theorem dX11_laysState_142 : decode cX11_laysState 142 = .ok (.iload 8, 2) := by decide +kernel
theorem dX11_laysState_144 : decode cX11_laysState 144 = .ok (.invokevirtual 127, 3) := by decide +kernel
theorem dX11_laysState_147 : decode cX11_laysState 147 = .ok (.istore 10, 2) := by decide +kernel
theorem dX11_laysState_149 : decode cX11_laysState 149 = .ok (.aload_n 0, 1) := by decide +kernel
theorem dX11_laysState_150 : decode cX11_laysState 150 = .ok (.getfield 29, 3) := by decide +kernel
theorem dX11_laysState_153 : decode cX11_laysState 153 = .ok (.iload 9, 2) := by decide +kernel
theorem dX11_laysState_155 : decode cX11_laysState 155 = .ok (.iaload, 1) := by decide +kernel
theorem dX11_laysState_156 : decode cX11_laysState 156 = .ok (.iload 10, 2) := by decide +kernel
theorem dX11_laysState_158 : decode cX11_laysState 158 = .ok (.ifCond .le 7, 3) := by decide +kernel
theorem dX11_laysState_161 : decode cX11_laysState 161 = .ok (.iconst 1, 1) := by decide +kernel
theorem dX11_laysState_162 : decode cX11_laysState 162 = .ok (.goto 4, 3) := by decide +kernel
theorem dX11_laysState_165 : decode cX11_laysState 165 = .ok (.iconst 0, 1) := by decide +kernel
theorem dX11_laysState_166 : decode cX11_laysState 166 = .ok (.iadd, 1) := by decide +kernel
theorem dX11_laysState_167 : decode cX11_laysState 167 = .ok (.istore 11, 2) := by decide +kernel
theorem dX11_laysState_169 : decode cX11_laysState 169 = .ok (.aload_n 0, 1) := by decide +kernel
theorem dX11_laysState_170 : decode cX11_laysState 170 = .ok (.getfield 29, 3) := by decide +kernel
theorem dX11_laysState_173 : decode cX11_laysState 173 = .ok (.iload 9, 2) := by decide +kernel
theorem dX11_laysState_175 : decode cX11_laysState 175 = .ok (.iaload, 1) := by decide +kernel
theorem dX11_laysState_176 : decode cX11_laysState 176 = .ok (.sipush 1000, 3) := by decide +kernel
theorem dX11_laysState_179 : decode cX11_laysState 179 = .ok (.if_icmp .eq 101, 3) := by decide +kernel
theorem dX11_laysState_182 : decode cX11_laysState 182 = .ok (.iload 11, 2) := by decide +kernel
theorem dX11_laysState_184 : decode cX11_laysState 184 = .ok (.aload_n 0, 1) := by decide +kernel
theorem dX11_laysState_185 : decode cX11_laysState 185 = .ok (.getfield 29, 3) := by decide +kernel
theorem dX11_laysState_188 : decode cX11_laysState 188 = .ok (.iload 5, 2) := by decide +kernel
theorem dX11_laysState_190 : decode cX11_laysState 190 = .ok (.iaload, 1) := by decide +kernel
theorem dX11_laysState_191 : decode cX11_laysState 191 = .ok (.if_icmp .le 6, 3) := by decide +kernel
theorem dX11_laysState_194 : decode cX11_laysState 194 = .ok (.goto 86, 3) := by decide +kernel
theorem dX11_laysState_197 : decode cX11_laysState 197 = .ok (.iload 11, 2) := by decide +kernel
theorem dX11_laysState_199 : decode cX11_laysState 199 = .ok (.aload_n 0, 1) := by decide +kernel
theorem dX11_laysState_200 : decode cX11_laysState 200 = .ok (.getfield 29, 3) := by decide +kernel
theorem dX11_laysState_203 : decode cX11_laysState 203 = .ok (.iload 5, 2) := by decide +kernel
theorem dX11_laysState_205 : decode cX11_laysState 205 = .ok (.iaload, 1) := by decide +kernel
theorem dX11_laysState_206 : decode cX11_laysState 206 = .ok (.if_icmp .ge 30, 3) := by decide +kernel
theorem dX11_laysState_209 : decode cX11_laysState 209 = .ok (.aload_n 0, 1) := by decide +kernel
theorem dX11_laysState_210 : decode cX11_laysState 210 = .ok (.getfield 29, 3) := by decide +kernel
theorem dX11_laysState_213 : decode cX11_laysState 213 = .ok (.iload 5, 2) := by decide +kernel
theorem dX11_laysState_215 : decode cX11_laysState 215 = .ok (.iload 11, 2) := by decide +kernel
theorem dX11_laysState_217 : decode cX11_laysState 217 = .ok (.iastore, 1) := by decide +kernel
theorem dX11_laysState_218 : decode cX11_laysState 218 = .ok (.aload_n 0, 1) := by decide +kernel
theorem dX11_laysState_219 : decode cX11_laysState 219 = .ok (.getfield 32, 3) := by decide +kernel
theorem dX11_laysState_222 : decode cX11_laysState 222 = .ok (.iload 5, 2) := by decide +kernel
theorem dX11_laysState_224 : decode cX11_laysState 224 = .ok (.lconst 0, 1) := by decide +kernel
theorem dX11_laysState_225 : decode cX11_laysState 225 = .ok (.lastore, 1) := by decide +kernel
theorem dX11_laysState_226 : decode cX11_laysState 226 = .ok (.aload_n 0, 1) := by decide +kernel
theorem dX11_laysState_227 : decode cX11_laysState 227 = .ok (.getfield 36, 3) := by decide +kernel
theorem dX11_laysState_230 : decode cX11_laysState 230 = .ok (.iload 5, 2) := by decide +kernel
theorem dX11_laysState_232 : decode cX11_laysState 232 = .ok (.sipush 1000, 3) := by decide +kernel
theorem dX11_laysState_235 : decode cX11_laysState 235 = .ok (.iastore, 1) := by decide +kernel
theorem dX11_laysState_236 : decode cX11_laysState 236 = .ok (.aload_n 0, 1) := by decide +kernel
theorem dX11_laysState_237 : decode cX11_laysState 237 = .ok (.getfield 32, 3) := by decide +kernel
theorem dX11_laysState_240 : decode cX11_laysState 240 = .ok (.iload 5, 2) := by decide +kernel
theorem dX11_laysState_242 : decode cX11_laysState 242 = .ok (.dup2, 1) := by decide +kernel
theorem dX11_laysState_243 : decode cX11_laysState 243 = .ok (.laload, 1) := by decide +kernel
theorem dX11_laysState_244 : decode cX11_laysState 244 = .ok (.aload_n 0, 1) := by decide +kernel
theorem dX11_laysState_245 : decode cX11_laysState 245 = .ok (.getfield 32, 3) := by decide +kernel
theorem dX11_laysState_248 : decode cX11_laysState 248 = .ok (.iload 9, 2) := by decide +kernel
theorem dX11_laysState_250 : decode cX11_laysState 250 = .ok (.laload, 1) := by decide +kernel
theorem dX11_laysState_251 : decode cX11_laysState 251 = .ok (.ladd, 1) := by decide +kernel
theorem dX11_laysState_252 : decode cX11_laysState 252 = .ok (.lastore, 1) := by decide +kernel
theorem dX11_laysState_253 : decode cX11_laysState 253 = .ok (.aload_n 0, 1) := by decide +kernel
theorem dX11_laysState_254 : decode cX11_laysState 254 = .ok (.getfield 36, 3) := by decide +kernel
theorem dX11_laysState_257 : decode cX11_laysState 257 = .ok (.iload 5, 2) := by decide +kernel
theorem dX11_laysState_259 : decode cX11_laysState 259 = .ok (.aload_n 0, 1) := by decide +kernel
theorem dX11_laysState_260 : decode cX11_laysState 260 = .ok (.getfield 36, 3) := by decide +kernel
theorem dX11_laysState_263 : decode cX11_laysState 263 = .ok (.iload 5, 2) := by decide +kernel
theorem dX11_laysState_265 : decode cX11_laysState 265 = .ok (.iaload, 1) := by decide +kernel
theorem dX11_laysState_266 : decode cX11_laysState 266 = .ok (.aload_n 0, 1) := by decide +kernel
theorem dX11_laysState_267 : decode cX11_laysState 267 = .ok (.getfield 36, 3) := by decide +kernel
theorem dX11_laysState_270 : decode cX11_laysState 270 = .ok (.iload 9, 2) := by decide +kernel
theorem dX11_laysState_272 : decode cX11_laysState 272 = .ok (.iaload, 1) := by decide +kernel
theorem dX11_laysState_273 : decode cX11_laysState 273 = .ok (.iload 10, 2) := by decide +kernel
theorem dX11_laysState_275 : decode cX11_laysState 275 = .ok (.iadd, 1) := by decide +kernel
theorem dX11_laysState_276 : decode cX11_laysState 276 = .ok (.invokestatic 131, 3) := by decide +kernel
theorem dX11_laysState_279 : decode cX11_laysState 279 = .ok (.iastore, 1) := by decide +kernel
theorem dX11_laysState_280 : decode cX11_laysState 280 = .ok (.iinc 8 1, 3) := by decide +kernel
theorem dX11_laysState_283 : decode cX11_laysState 283 = .ok (.goto (-167), 3) := by decide +kernel
theorem dX11_laysState_286 : decode cX11_laysState 286 = .ok (.iinc 7 1, 3) := by decide +kernel
theorem dX11_laysState_289 : decode cX11_laysState 289 = .ok (.goto (-198), 3) := by decide +kernel
theorem dX11_laysState_292 : decode cX11_laysState 292 = .ok (.return_, 1) := by decide +kernel
def sX11_laysState_L116 (F : Nat) (l0 : Nat) (l1 : Int32) (l2 : Int32) (l3 : Int32) (l5 : Int32) (l7 : Int32) (l8 : Int32) (h : HP) : Option ((Int32 × HP) ⊕ HP) :=
  if (4 : Int32) ≤ l8 then
    some (.inr h)
  else
    (sX11_state F (l1 ||| (jshl (1 : Int32) l7)) l7 l8 h).bind fun t17 =>
    (dO h 11 (some l0)).bind fun a18 =>
    (sX11_lacks F a18 l2 l3 l7 l8 h).bind fun t19 =>
    (gR h 11 (some l0) 12).bind fun t20 =>
    (aI h 13 t20 t17).bind fun t21 =>
    (if t19 ≤ 0 then
        some (0 : Int32)
      else
        some (1 : Int32)).bind fun s22 =>
    nmI (t21 + s22) fun l11_23 =>
    (gR h 11 (some l0) 12).bind fun t24 =>
    (aI h 13 t24 t17).bind fun t25 =>
    if t25 = (1000 : Int32) then
      some (.inl (l8 + (1 : Int32), h))
    else
      (gR h 11 (some l0) 12).bind fun t26 =>
      (aI h 13 t26 l5).bind fun t27 =>
      if l11_23 ≤ t27 then
        (gR h 11 (some l0) 12).bind fun t28 =>
        (aI h 13 t28 l5).bind fun t29 =>
        (if t29 ≤ l11_23 then
            some h
          else
            (gR h 11 (some l0) 12).bind fun t31 =>
            (sI h t31 l5 l11_23).bind fun h32 =>
            (gR h32 11 (some l0) 13).bind fun t33 =>
            (sJ h32 t33 l5 (0 : Int64)).bind fun h34 =>
            (gR h34 11 (some l0) 14).bind fun t35 =>
            (sI h34 t35 l5 (1000 : Int32)).bind fun h36 =>
            some h36).bind fun h30 =>
        (gR h30 11 (some l0) 13).bind fun t37 =>
        (aJ h30 t37 l5).bind fun t38 =>
        (gR h30 11 (some l0) 13).bind fun t39 =>
        (aJ h30 t39 t17).bind fun t40 =>
        (sJ h30 t37 l5 (t38 + t40)).bind fun h41 =>
        (gR h41 11 (some l0) 14).bind fun t42 =>
        (gR h41 11 (some l0) 14).bind fun t43 =>
        (aI h41 13 t43 l5).bind fun t44 =>
        (gR h41 11 (some l0) 14).bind fun t45 =>
        (aI h41 13 t45 t17).bind fun t46 =>
        (sX11_lesser F t44 (t46 + t19) h41).bind fun t47 =>
        (sI h41 t42 l5 t47).bind fun h48 =>
        some (.inl (l8 + (1 : Int32), h48))
      else
        some (.inl (l8 + (1 : Int32), h))
def sX11_laysState_L91 (F : Nat) (l0 : Nat) (l1 : Int32) (l2 : Int32) (l3 : Int32) (l5 : Int32) (l7 : Int32) (h : HP) : Option ((Int32 × HP) ⊕ HP) :=
  (dO h 11 (some l0)).bind fun a15 =>
  (sX11_fingers F a15 h).bind fun t16 =>
  if t16 ≤ l7 then
    some (.inr h)
  else
    if ¬ ((jshr l1 l7) &&& (1 : Int32)) = (1 : Int32) then
      (iter (fun s => sX11_laysState_L116 F l0 l1 l2 l3 l5 l7 s.1 s.2) F ((0 : Int32), h)).bind fun h49 =>
        some (.inl (l7 + (1 : Int32), h49))
    else
      some (.inl (l7 + (1 : Int32), h))
def sX11_laysState (F : Nat) (l0 : Nat) (l1 : Int32) (l2 : Int32) (l3 : Int32) (l4 : Int32) (h : HP) : Option HP :=
  (sX11_state F l1 l2 l3 h).bind fun t1 =>
  (dO h 11 (some l0)).bind fun a2 =>
  (sX11_fingers F a2 h).bind fun t3 =>
  (if ¬ l1 = ((jshl (1 : Int32) t3) - (1 : Int32)) then
      some (0 : Int32)
    else
      some (1 : Int32)).bind fun s4 =>
  (gR h 11 (some l0) 12).bind fun t5 =>
  (if s4 = 0 then
      some (1000 : Int32)
    else
      if l4 = (-1 : Int32) then
        some (0 : Int32)
      else
        if ¬ l4 = l2 then
          some (1000 : Int32)
        else
          some (0 : Int32)).bind fun s6 =>
  (sI h t5 t1 s6).bind fun h7 =>
  (gR h7 11 (some l0) 13).bind fun t8 =>
  (gR h7 11 (some l0) 12).bind fun t9 =>
  (aI h7 13 t9 t1).bind fun t10 =>
  (if ¬ t10 = 0 then
      some (0 : Int64)
    else
      some (1 : Int64)).bind fun s11 =>
  (sJ h7 t8 t1 s11).bind fun h12 =>
  (gR h12 11 (some l0) 14).bind fun t13 =>
  (sI h12 t13 t1 (0 : Int32)).bind fun h14 =>
  (iter (fun s => sX11_laysState_L91 F l0 l1 l2 l3 t1 s.1 s.2) F ((0 : Int32), h14)).bind fun h53 =>
    some h53
abbrev rm_X11_laysState : Room := { frames := 4, cells := 0, slots := 0, locals := 96 }
set_option maxRecDepth 100000 in
set_option maxHeartbeats 4000000 in
theorem mt_X11_laysState {w : WD} {l : Launch} {F : Nat} {l0 : Nat} {l1 : Int32} {l2 : Int32} {l3 : Int32} {l4 : Int32} {h : HP} {h' : HP} (hs : sX11_laysState F l0 l1 l2 l3 l4 h = some h') : MV w l yX11_laysState cX11_laysState 12 rm_X11_laysState 0 0 [rf w (some l0), .int l1, .int l2, .int l3, .int l4] h h' := by
  refine of_body [(0, rf w (some l0)), (1, .int l1), (2, .int l2), (3, .int l3), (4, .int l4)] (by decide) (by simp [lg_sl, rf_cat, cat_i, cat_l, cat_a]) (by simp [lv_args, rf_cat, cat_i, cat_l, cat_a]) ?_
  intro x hw_ hnL_ hl_ hc hret hnm hQ
  subst hw_; subst hl_
  have hnl : ∀ i, i < 12 → i < x.nL := fun i h => by rw [hnL_]; exact h
  have hw : wpO (sX11_laysState F l0 l1 l2 l3 l4 h) (fun r => r = h') := ⟨_, hs, rfl⟩
  unfold sX11_laysState at hw
  refine R_iload_n (q := 1) (i := 1) (v := l1) hc dX11_laysState_0 rfl rfl ?_
  refine R_iload_n (q := 2) (i := 2) (v := l2) hc dX11_laysState_1 rfl rfl ?_
  refine R_iload_n (q := 3) (i := 3) (v := l3) hc dX11_laysState_2 rfl rfl ?_
  refine R_cSI (As := [.int l1, .int l2, .int l3]) (rest := []) hc ml_11_123 mf_X11_state ⟨rfl, rfl⟩ ⟨le_b rfl, le_b rfl⟩ ⟨Nat.zero_le _, Nat.zero_le _⟩ (fun v e => mt_X11_state e) rfl rfl (Nat.zero_le _) dX11_laysState_3 hw (fun t1 hw => ?_)
  refine R_istore (i := 5) (v := t1) hc [(5, .int t1), (0, rf x.w (some l0)), (1, .int l1), (2, .int l2), (3, .int l3), (4, .int l4)] dX11_laysState_6 (hnl 5 (le_b rfl)) rfl ?_
  refine R_iload_n (q := 2) (i := 1) (v := l1) hc dX11_laysState_8 rfl rfl ?_
  refine R_iconst (v := (1 : Int32)) hc dX11_laysState_9 kI_1 ?_
  refine R_aload_n (q := 1) (i := 0) (v := (some l0)) hc dX11_laysState_10 rfl rfl ?_
  refine R_cVI (As := []) (rest := [.int (1 : Int32), .int l1]) (r := (some l0)) (ci := 11) hc ml_11_103 mf_X11_fingers rfl (by decide) ⟨rfl, rfl⟩ ⟨le_b rfl, le_b rfl⟩ ⟨Nat.zero_le _, Nat.zero_le _⟩ (fun a v e => mt_X11_fingers e) rfl rfl (le_b rfl) dX11_laysState_11 hw (fun t3 hw => ?_)
  refine R_ishl hc dX11_laysState_14 ?_
  refine R_iconst (v := (1 : Int32)) hc dX11_laysState_15 kI_1 ?_
  refine R_isub hc dX11_laysState_16 ?_
  refine R_join (fun (s4 : Int32) => Rn x 0 0 25 [(0, rf x.w (some l0)), (1, .int l1), (2, .int l2), (3, .int l3), (4, .int l4), (5, .int t1)] [.int s4] h) hw (fun r hw => ?_) (fun hw => ?_)
  · revert r hw
    intro s4 hw
    show Rn x 0 0 25 [(0, rf x.w (some l0)), (1, .int l1), (2, .int l2), (3, .int l3), (4, .int l4), (5, .int t1)] [.int s4] h
    refine R_istore (i := 6) (v := s4) hc [(6, .int s4), (0, rf x.w (some l0)), (1, .int l1), (2, .int l2), (3, .int l3), (4, .int l4), (5, .int t1)] dX11_laysState_25 (hnl 6 (le_b rfl)) rfl ?_
    refine R_aload_n (q := 1) (i := 0) (v := (some l0)) hc dX11_laysState_27 rfl rfl ?_
    refine R_getR hc fl_11_29 dX11_laysState_28 hw (fun t5 hw => ?_)
    refine R_iload (q := 6) (i := 5) (v := t1) hc dX11_laysState_31 rfl ?_
    refine R_iload (q := 0) (i := 6) (v := s4) hc dX11_laysState_33 rfl ?_
    refine R_join (fun (s6 : Int32) => Rn x 0 0 57 [(0, rf x.w (some l0)), (1, .int l1), (2, .int l2), (3, .int l3), (5, .int t1)] [.int s6, .int t1, rf x.w t5] h) hw (fun r hw => ?_) (fun hw => ?_)
    · revert r hw
      intro s6 hw
      show Rn x 0 0 57 [(0, rf x.w (some l0)), (1, .int l1), (2, .int l2), (3, .int l3), (5, .int t1)] [.int s6, .int t1, rf x.w t5] h
      refine R_iastore hc dX11_laysState_57 hw (fun h7 hw => ?_)
      refine R_aload_n (q := 0) (i := 0) (v := (some l0)) hc dX11_laysState_58 rfl rfl ?_
      refine R_getR hc fl_11_32 dX11_laysState_59 hw (fun t8 hw => ?_)
      refine R_iload (q := 4) (i := 5) (v := t1) hc dX11_laysState_62 rfl ?_
      refine R_aload_n (q := 0) (i := 0) (v := (some l0)) hc dX11_laysState_64 rfl rfl ?_
      refine R_getR hc fl_11_29 dX11_laysState_65 hw (fun t9 hw => ?_)
      refine R_iload (q := 4) (i := 5) (v := t1) hc dX11_laysState_68 rfl ?_
      refine R_iaload hc dX11_laysState_70 hw (fun t10 hw => ?_)
      refine R_join (fun (s11 : Int64) => Rn x 0 0 79 [(0, rf x.w (some l0)), (1, .int l1), (2, .int l2), (3, .int l3), (5, .int t1)] [.long s11, .int t1, rf x.w t8] h7) hw (fun r hw => ?_) (fun hw => ?_)
      · revert r hw
        intro s11 hw
        show Rn x 0 0 79 [(0, rf x.w (some l0)), (1, .int l1), (2, .int l2), (3, .int l3), (5, .int t1)] [.long s11, .int t1, rf x.w t8] h7
        refine R_lastore hc dX11_laysState_79 hw (fun h12 hw => ?_)
        refine R_aload_n (q := 0) (i := 0) (v := (some l0)) hc dX11_laysState_80 rfl rfl ?_
        refine R_getR hc fl_11_36 dX11_laysState_81 hw (fun t13 hw => ?_)
        refine R_iload (q := 4) (i := 5) (v := t1) hc dX11_laysState_84 rfl ?_
        refine R_iconst (v := (0 : Int32)) hc dX11_laysState_86 kI_0 ?_
        refine R_iastore hc dX11_laysState_87 hw (fun h14 hw => ?_)
        refine R_iconst (v := (0 : Int32)) hc dX11_laysState_88 kI_0 ?_
        refine R_istore (i := 7) (v := (0 : Int32)) hc [(7, .int (0 : Int32)), (0, rf x.w (some l0)), (1, .int l1), (2, .int l2), (3, .int l3), (5, .int t1)] dX11_laysState_89 (hnl 7 (le_b rfl)) rfl ?_
        refine R_sub hc [1, 2, 3, 4, 5, 0] rfl ?_
        refine R_loop (P := fun (s : (Int32 × HP)) => Rn x 0 0 91 [(0, rf x.w (some l0)), (1, .int l1), (2, .int l2), (3, .int l3), (5, .int t1), (7, .int s.1)] [] s.2) (fun h53 => Rn x 0 0 292 [] [] h53) hw (fun r hw => ?_) (fun X hX s hw => ?_)
        · revert r hw
          intro h53 hw
          show Rn x 0 0 292 [] [] h53
          exact R_return hc hret hQ hw dX11_laysState_292
        · obtain ⟨l7_55, h56⟩ := s
          show Rn x 0 0 91 [(0, rf x.w (some l0)), (1, .int l1), (2, .int l2), (3, .int l3), (5, .int t1), (7, .int l7_55)] [] h56
          have hw : wpO (sX11_laysState_L91 F l0 l1 l2 l3 t1 l7_55 h56) _ := hw
          unfold sX11_laysState_L91 at hw
          refine R_iload (q := 5) (i := 7) (v := l7_55) hc dX11_laysState_91 rfl ?_
          refine R_aload_n (q := 0) (i := 0) (v := (some l0)) hc dX11_laysState_93 rfl rfl ?_
          refine R_cVI (As := []) (rest := [.int l7_55]) (r := (some l0)) (ci := 11) hc ml_11_103 mf_X11_fingers rfl (by decide) ⟨rfl, rfl⟩ ⟨le_b rfl, le_b rfl⟩ ⟨Nat.zero_le _, Nat.zero_le _⟩ (fun a v e => mt_X11_fingers e) rfl rfl (le_b rfl) dX11_laysState_94 hw (fun t16 hw => ?_)
          refine R_icmp_ge (tgt := 292) hc dX11_laysState_97 (by decide) hw (fun hw => ?_) (fun hw => ?_)
          · refine R_sub hc [] rfl ?_
            exact (wpO_some hw :)
          · refine R_iload_n (q := 1) (i := 1) (v := l1) hc dX11_laysState_100 rfl rfl ?_
            refine R_iload (q := 5) (i := 7) (v := l7_55) hc dX11_laysState_101 rfl ?_
            refine R_ishr hc dX11_laysState_103 ?_
            refine R_iconst (v := (1 : Int32)) hc dX11_laysState_104 kI_1 ?_
            refine R_iand hc dX11_laysState_105 ?_
            refine R_iconst (v := (1 : Int32)) hc dX11_laysState_106 kI_1 ?_
            refine R_icmp_ne (tgt := 113) hc dX11_laysState_107 (by decide) hw (fun hw => ?_) (fun hw => ?_)
            · refine R_iconst (v := (0 : Int32)) hc dX11_laysState_113 kI_0 ?_
              refine R_istore (i := 8) (v := (0 : Int32)) hc [(8, .int (0 : Int32)), (0, rf x.w (some l0)), (1, .int l1), (2, .int l2), (3, .int l3), (5, .int t1), (7, .int l7_55)] dX11_laysState_114 (hnl 8 (le_b rfl)) rfl ?_
              refine R_sub hc [1, 2, 3, 4, 5, 6, 0] rfl ?_
              refine R_loop (P := fun (s : (Int32 × HP)) => Rn x 0 0 116 [(0, rf x.w (some l0)), (1, .int l1), (2, .int l2), (3, .int l3), (5, .int t1), (7, .int l7_55), (8, .int s.1)] [] s.2) (fun h49 => Rn x 0 0 286 [(0, rf x.w (some l0)), (1, .int l1), (2, .int l2), (3, .int l3), (5, .int t1), (7, .int l7_55)] [] h49) hw (fun r hw => ?_) (fun X hX s hw => ?_)
              · revert r hw
                intro h49 hw
                show Rn x 0 0 286 [(0, rf x.w (some l0)), (1, .int l1), (2, .int l2), (3, .int l3), (5, .int t1), (7, .int l7_55)] [] h49
                refine R_iinc (q := 5) (i := 7) (v := l7_55) hc [(7, .int (l7_55 + (1 : Int32))), (0, rf x.w (some l0)), (1, .int l1), (2, .int l2), (3, .int l3), (5, .int t1)] dX11_laysState_286 rfl (kC_1 _) (hnl 7 (le_b rfl)) rfl ?_
                refine R_goto (tgt := 91) hc dX11_laysState_289 (by decide) ?_
                refine R_sub hc [1, 2, 3, 4, 5, 0] rfl ?_
                exact hX (l7_55 + (1 : Int32), h49) (wpO_some hw :)
              · obtain ⟨l8_51, h52⟩ := s
                show Rn x 0 0 116 [(0, rf x.w (some l0)), (1, .int l1), (2, .int l2), (3, .int l3), (5, .int t1), (7, .int l7_55), (8, .int l8_51)] [] h52
                have hw : wpO (sX11_laysState_L116 F l0 l1 l2 l3 t1 l7_55 l8_51 h52) _ := hw
                unfold sX11_laysState_L116 at hw
                refine R_iload (q := 6) (i := 8) (v := l8_51) hc dX11_laysState_116 rfl ?_
                refine R_iconst (v := (4 : Int32)) hc dX11_laysState_118 kI_4 ?_
                refine R_icmp_ge (tgt := 286) hc dX11_laysState_119 (by decide) hw (fun hw => ?_) (fun hw => ?_)
                · refine R_sub hc [0, 1, 2, 3, 4, 5] rfl ?_
                  exact (wpO_some hw :)
                · refine R_iload_n (q := 1) (i := 1) (v := l1) hc dX11_laysState_122 rfl rfl ?_
                  refine R_iconst (v := (1 : Int32)) hc dX11_laysState_123 kI_1 ?_
                  refine R_iload (q := 5) (i := 7) (v := l7_55) hc dX11_laysState_124 rfl ?_
                  refine R_ishl hc dX11_laysState_126 ?_
                  refine R_ior hc dX11_laysState_127 ?_
                  refine R_iload (q := 5) (i := 7) (v := l7_55) hc dX11_laysState_128 rfl ?_
                  refine R_iload (q := 6) (i := 8) (v := l8_51) hc dX11_laysState_130 rfl ?_
                  refine R_cSI (As := [.int (l1 ||| (jshl (1 : Int32) l7_55)), .int l7_55, .int l8_51]) (rest := []) hc ml_11_123 mf_X11_state ⟨rfl, rfl⟩ ⟨le_b rfl, le_b rfl⟩ ⟨Nat.zero_le _, Nat.zero_le _⟩ (fun v e => mt_X11_state e) rfl rfl (Nat.zero_le _) dX11_laysState_132 hw (fun t17 hw => ?_)
                  refine R_istore (i := 9) (v := t17) hc [(9, .int t17), (0, rf x.w (some l0)), (1, .int l1), (2, .int l2), (3, .int l3), (5, .int t1), (7, .int l7_55), (8, .int l8_51)] dX11_laysState_135 (hnl 9 (le_b rfl)) rfl ?_
                  refine R_aload_n (q := 1) (i := 0) (v := (some l0)) hc dX11_laysState_137 rfl rfl ?_
                  refine R_iload_n (q := 3) (i := 2) (v := l2) hc dX11_laysState_138 rfl rfl ?_
                  refine R_iload_n (q := 4) (i := 3) (v := l3) hc dX11_laysState_139 rfl rfl ?_
                  refine R_iload (q := 6) (i := 7) (v := l7_55) hc dX11_laysState_140 rfl ?_
                  refine R_iload (q := 7) (i := 8) (v := l8_51) hc dX11_laysState_142 rfl ?_
                  refine R_cVI (As := [.int l2, .int l3, .int l7_55, .int l8_51]) (rest := []) (r := (some l0)) (ci := 11) hc ml_11_127 mf_X11_lacks rfl (by decide) ⟨rfl, rfl⟩ ⟨le_b rfl, le_b rfl⟩ ⟨Nat.zero_le _, Nat.zero_le _⟩ (fun a v e => mt_X11_lacks e) rfl rfl (Nat.zero_le _) dX11_laysState_144 hw (fun t19 hw => ?_)
                  refine R_istore (i := 10) (v := t19) hc [(10, .int t19), (9, .int t17), (0, rf x.w (some l0)), (1, .int l1), (2, .int l2), (3, .int l3), (5, .int t1), (7, .int l7_55), (8, .int l8_51)] dX11_laysState_147 (hnl 10 (le_b rfl)) rfl ?_
                  refine R_aload_n (q := 2) (i := 0) (v := (some l0)) hc dX11_laysState_149 rfl rfl ?_
                  refine R_getR hc fl_11_29 dX11_laysState_150 hw (fun t20 hw => ?_)
                  refine R_iload (q := 1) (i := 9) (v := t17) hc dX11_laysState_153 rfl ?_
                  refine R_iaload hc dX11_laysState_155 hw (fun t21 hw => ?_)
                  refine R_iload (q := 0) (i := 10) (v := t19) hc dX11_laysState_156 rfl ?_
                  refine R_join (fun (s22 : Int32) => Rn x 0 0 166 [(0, rf x.w (some l0)), (1, .int l1), (2, .int l2), (3, .int l3), (5, .int t1), (7, .int l7_55), (8, .int l8_51), (9, .int t17), (10, .int t19)] [.int s22, .int t21] h52) hw (fun r hw => ?_) (fun hw => ?_)
                  · revert r hw
                    intro s22 hw
                    show Rn x 0 0 166 [(0, rf x.w (some l0)), (1, .int l1), (2, .int l2), (3, .int l3), (5, .int t1), (7, .int l7_55), (8, .int l8_51), (9, .int t17), (10, .int t19)] [.int s22, .int t21] h52
                    refine R_iadd hc dX11_laysState_166 ?_
                    refine R_nmI hw (fun l11_23 hw => ?_)
                    refine R_istore (i := 11) (v := l11_23) hc [(11, .int l11_23), (0, rf x.w (some l0)), (1, .int l1), (2, .int l2), (3, .int l3), (5, .int t1), (7, .int l7_55), (8, .int l8_51), (9, .int t17), (10, .int t19)] dX11_laysState_167 (hnl 11 (le_b rfl)) rfl ?_
                    refine R_aload_n (q := 1) (i := 0) (v := (some l0)) hc dX11_laysState_169 rfl rfl ?_
                    refine R_getR hc fl_11_29 dX11_laysState_170 hw (fun t24 hw => ?_)
                    refine R_iload (q := 8) (i := 9) (v := t17) hc dX11_laysState_173 rfl ?_
                    refine R_iaload hc dX11_laysState_175 hw (fun t25 hw => ?_)
                    refine R_sipush (v := (1000 : Int32)) hc dX11_laysState_176 kS_1000 ?_
                    refine R_icmp_eq (tgt := 280) hc dX11_laysState_179 (by decide) hw (fun hw => ?_) (fun hw => ?_)
                    · refine R_iinc (q := 7) (i := 8) (v := l8_51) hc [(8, .int (l8_51 + (1 : Int32))), (11, .int l11_23), (0, rf x.w (some l0)), (1, .int l1), (2, .int l2), (3, .int l3), (5, .int t1), (7, .int l7_55), (9, .int t17), (10, .int t19)] dX11_laysState_280 rfl (kC_1 _) (hnl 8 (le_b rfl)) rfl ?_
                      refine R_goto (tgt := 116) hc dX11_laysState_283 (by decide) ?_
                      refine R_sub hc [2, 3, 4, 5, 6, 7, 0] rfl ?_
                      exact hX (l8_51 + (1 : Int32), h52) (wpO_some hw :)
                    · refine R_iload (q := 0) (i := 11) (v := l11_23) hc dX11_laysState_182 rfl ?_
                      refine R_aload_n (q := 1) (i := 0) (v := (some l0)) hc dX11_laysState_184 rfl rfl ?_
                      refine R_getR hc fl_11_29 dX11_laysState_185 hw (fun t26 hw => ?_)
                      refine R_iload (q := 5) (i := 5) (v := t1) hc dX11_laysState_188 rfl ?_
                      refine R_iaload hc dX11_laysState_190 hw (fun t27 hw => ?_)
                      refine R_icmp_le (tgt := 197) hc dX11_laysState_191 (by decide) hw (fun hw => ?_) (fun hw => ?_)
                      · refine R_iload (q := 0) (i := 11) (v := l11_23) hc dX11_laysState_197 rfl ?_
                        refine R_aload_n (q := 1) (i := 0) (v := (some l0)) hc dX11_laysState_199 rfl rfl ?_
                        refine R_getR hc fl_11_29 dX11_laysState_200 hw (fun t28 hw => ?_)
                        refine R_iload (q := 5) (i := 5) (v := t1) hc dX11_laysState_203 rfl ?_
                        refine R_iaload hc dX11_laysState_205 hw (fun t29 hw => ?_)
                        refine R_join (fun (h30 : HP) => Rn x 0 0 236 [(0, rf x.w (some l0)), (1, .int l1), (2, .int l2), (3, .int l3), (5, .int t1), (7, .int l7_55), (8, .int l8_51), (9, .int t17), (10, .int t19)] [] h30) hw (fun r hw => ?_) (fun hw => ?_)
                        · revert r hw
                          intro h30 hw
                          show Rn x 0 0 236 [(0, rf x.w (some l0)), (1, .int l1), (2, .int l2), (3, .int l3), (5, .int t1), (7, .int l7_55), (8, .int l8_51), (9, .int t17), (10, .int t19)] [] h30
                          refine R_aload_n (q := 0) (i := 0) (v := (some l0)) hc dX11_laysState_236 rfl rfl ?_
                          refine R_getR hc fl_11_32 dX11_laysState_237 hw (fun t37 hw => ?_)
                          refine R_iload (q := 4) (i := 5) (v := t1) hc dX11_laysState_240 rfl ?_
                          refine R_dup2 hc dX11_laysState_242 rfl (rf_cat _ _) ?_
                          refine R_laload hc dX11_laysState_243 hw (fun t38 hw => ?_)
                          refine R_aload_n (q := 0) (i := 0) (v := (some l0)) hc dX11_laysState_244 rfl rfl ?_
                          refine R_getR hc fl_11_32 dX11_laysState_245 hw (fun t39 hw => ?_)
                          refine R_iload (q := 7) (i := 9) (v := t17) hc dX11_laysState_248 rfl ?_
                          refine R_laload hc dX11_laysState_250 hw (fun t40 hw => ?_)
                          refine R_ladd hc dX11_laysState_251 ?_
                          refine R_lastore hc dX11_laysState_252 hw (fun h41 hw => ?_)
                          refine R_aload_n (q := 0) (i := 0) (v := (some l0)) hc dX11_laysState_253 rfl rfl ?_
                          refine R_getR hc fl_11_36 dX11_laysState_254 hw (fun t42 hw => ?_)
                          refine R_iload (q := 4) (i := 5) (v := t1) hc dX11_laysState_257 rfl ?_
                          refine R_aload_n (q := 0) (i := 0) (v := (some l0)) hc dX11_laysState_259 rfl rfl ?_
                          refine R_getR hc fl_11_36 dX11_laysState_260 hw (fun t43 hw => ?_)
                          refine R_iload (q := 4) (i := 5) (v := t1) hc dX11_laysState_263 rfl ?_
                          refine R_iaload hc dX11_laysState_265 hw (fun t44 hw => ?_)
                          refine R_aload_n (q := 0) (i := 0) (v := (some l0)) hc dX11_laysState_266 rfl rfl ?_
                          refine R_getR hc fl_11_36 dX11_laysState_267 hw (fun t45 hw => ?_)
                          refine R_iload (q := 7) (i := 9) (v := t17) hc dX11_laysState_270 rfl ?_
                          refine R_iaload hc dX11_laysState_272 hw (fun t46 hw => ?_)
                          refine R_iload (q := 8) (i := 10) (v := t19) hc dX11_laysState_273 rfl ?_
                          refine R_iadd hc dX11_laysState_275 ?_
                          refine R_cSI (As := [.int t44, .int (t46 + t19)]) (rest := [.int t1, rf x.w t42]) hc ml_11_131 mf_X11_lesser ⟨rfl, rfl⟩ ⟨le_b rfl, le_b rfl⟩ ⟨Nat.zero_le _, Nat.zero_le _⟩ (fun v e => mt_X11_lesser e) rfl rfl (by simp [rf_cat, cat_i, cat_l, cat_a]) dX11_laysState_276 hw (fun t47 hw => ?_)
                          refine R_iastore hc dX11_laysState_279 hw (fun h48 hw => ?_)
                          refine R_iinc (q := 6) (i := 8) (v := l8_51) hc [(8, .int (l8_51 + (1 : Int32))), (0, rf x.w (some l0)), (1, .int l1), (2, .int l2), (3, .int l3), (5, .int t1), (7, .int l7_55), (9, .int t17), (10, .int t19)] dX11_laysState_280 rfl (kC_1 _) (hnl 8 (le_b rfl)) rfl ?_
                          refine R_goto (tgt := 116) hc dX11_laysState_283 (by decide) ?_
                          refine R_sub hc [1, 2, 3, 4, 5, 6, 0] rfl ?_
                          exact hX (l8_51 + (1 : Int32), h48) (wpO_some hw :)
                        · refine R_icmp_ge (tgt := 236) hc dX11_laysState_206 (by decide) hw (fun hw => ?_) (fun hw => ?_)
                          · refine R_sub hc [1, 2, 3, 4, 5, 6, 7, 8, 9] rfl ?_
                            exact (wpO_some hw :)
                          · refine R_aload_n (q := 1) (i := 0) (v := (some l0)) hc dX11_laysState_209 rfl rfl ?_
                            refine R_getR hc fl_11_29 dX11_laysState_210 hw (fun t31 hw => ?_)
                            refine R_iload (q := 5) (i := 5) (v := t1) hc dX11_laysState_213 rfl ?_
                            refine R_iload (q := 0) (i := 11) (v := l11_23) hc dX11_laysState_215 rfl ?_
                            refine R_iastore hc dX11_laysState_217 hw (fun h32 hw => ?_)
                            refine R_aload_n (q := 1) (i := 0) (v := (some l0)) hc dX11_laysState_218 rfl rfl ?_
                            refine R_getR hc fl_11_32 dX11_laysState_219 hw (fun t33 hw => ?_)
                            refine R_iload (q := 5) (i := 5) (v := t1) hc dX11_laysState_222 rfl ?_
                            refine R_lconst (v := (0 : Int64)) hc dX11_laysState_224 kL_0 ?_
                            refine R_lastore hc dX11_laysState_225 hw (fun h34 hw => ?_)
                            refine R_aload_n (q := 1) (i := 0) (v := (some l0)) hc dX11_laysState_226 rfl rfl ?_
                            refine R_getR hc fl_11_36 dX11_laysState_227 hw (fun t35 hw => ?_)
                            refine R_iload (q := 5) (i := 5) (v := t1) hc dX11_laysState_230 rfl ?_
                            refine R_sipush (v := (1000 : Int32)) hc dX11_laysState_232 kS_1000 ?_
                            refine R_iastore hc dX11_laysState_235 hw (fun h36 hw => ?_)
                            refine R_sub hc [1, 2, 3, 4, 5, 6, 7, 8, 9] rfl ?_
                            exact (wpO_some hw :)
                      · refine R_goto (tgt := 280) hc dX11_laysState_194 (by decide) ?_
                        refine R_iinc (q := 7) (i := 8) (v := l8_51) hc [(8, .int (l8_51 + (1 : Int32))), (11, .int l11_23), (0, rf x.w (some l0)), (1, .int l1), (2, .int l2), (3, .int l3), (5, .int t1), (7, .int l7_55), (9, .int t17), (10, .int t19)] dX11_laysState_280 rfl (kC_1 _) (hnl 8 (le_b rfl)) rfl ?_
                        refine R_goto (tgt := 116) hc dX11_laysState_283 (by decide) ?_
                        refine R_sub hc [2, 3, 4, 5, 6, 7, 0] rfl ?_
                        exact hX (l8_51 + (1 : Int32), h52) (wpO_some hw :)
                  · refine R_if_le (tgt := 165) hc dX11_laysState_158 (by decide) hw (fun hw => ?_) (fun hw => ?_)
                    · refine R_iconst (v := (0 : Int32)) hc dX11_laysState_165 kI_0 ?_
                      refine R_sub hc [2, 3, 4, 5, 6, 7, 8, 1, 0] rfl ?_
                      exact (wpO_some hw :)
                    · refine R_iconst (v := (1 : Int32)) hc dX11_laysState_161 kI_1 ?_
                      refine R_goto (tgt := 166) hc dX11_laysState_162 (by decide) ?_
                      refine R_sub hc [2, 3, 4, 5, 6, 7, 8, 1, 0] rfl ?_
                      exact (wpO_some hw :)
            · refine R_goto (tgt := 286) hc dX11_laysState_110 (by decide) ?_
              refine R_iinc (q := 5) (i := 7) (v := l7_55) hc [(7, .int (l7_55 + (1 : Int32))), (0, rf x.w (some l0)), (1, .int l1), (2, .int l2), (3, .int l3), (5, .int t1)] dX11_laysState_286 rfl (kC_1 _) (hnl 7 (le_b rfl)) rfl ?_
              refine R_goto (tgt := 91) hc dX11_laysState_289 (by decide) ?_
              refine R_sub hc [1, 2, 3, 4, 5, 0] rfl ?_
              exact hX (l7_55 + (1 : Int32), h56) (wpO_some hw :)
      · refine R_if_ne (tgt := 78) hc dX11_laysState_71 (by decide) hw (fun hw => ?_) (fun hw => ?_)
        · refine R_lconst (v := (0 : Int64)) hc dX11_laysState_78 kL_0 ?_
          refine R_sub hc [0, 1, 2, 3, 4] rfl ?_
          exact (wpO_some hw :)
        · refine R_lconst (v := (1 : Int64)) hc dX11_laysState_74 kL_1 ?_
          refine R_goto (tgt := 79) hc dX11_laysState_75 (by decide) ?_
          refine R_sub hc [0, 1, 2, 3, 4] rfl ?_
          exact (wpO_some hw :)
    · refine R_if_eq (tgt := 54) hc dX11_laysState_35 (by decide) hw (fun hw => ?_) (fun hw => ?_)
      · refine R_sipush (v := (1000 : Int32)) hc dX11_laysState_54 kS_1000 ?_
        refine R_sub hc [1, 2, 3, 4, 6] rfl ?_
        exact (wpO_some hw :)
      · refine R_iload (q := 5) (i := 4) (v := l4) hc dX11_laysState_38 rfl ?_
        refine R_iconst (v := (-1 : Int32)) hc dX11_laysState_40 kI_m1 ?_
        refine R_icmp_eq (tgt := 50) hc dX11_laysState_41 (by decide) hw (fun hw => ?_) (fun hw => ?_)
        · refine R_iconst (v := (0 : Int32)) hc dX11_laysState_50 kI_0 ?_
          refine R_goto (tgt := 57) hc dX11_laysState_51 (by decide) ?_
          refine R_sub hc [1, 2, 3, 4, 6] rfl ?_
          exact (wpO_some hw :)
        · refine R_iload (q := 5) (i := 4) (v := l4) hc dX11_laysState_44 rfl ?_
          refine R_iload_n (q := 3) (i := 2) (v := l2) hc dX11_laysState_46 rfl rfl ?_
          refine R_icmp_ne (tgt := 54) hc dX11_laysState_47 (by decide) hw (fun hw => ?_) (fun hw => ?_)
          · refine R_sipush (v := (1000 : Int32)) hc dX11_laysState_54 kS_1000 ?_
            refine R_sub hc [1, 2, 3, 4, 6] rfl ?_
            exact (wpO_some hw :)
          · refine R_iconst (v := (0 : Int32)) hc dX11_laysState_50 kI_0 ?_
            refine R_goto (tgt := 57) hc dX11_laysState_51 (by decide) ?_
            refine R_sub hc [1, 2, 3, 4, 6] rfl ?_
            exact (wpO_some hw :)
  · refine R_icmp_ne (tgt := 24) hc dX11_laysState_17 (by decide) hw (fun hw => ?_) (fun hw => ?_)
    · refine R_iconst (v := (0 : Int32)) hc dX11_laysState_24 kI_0 ?_
      refine R_sub hc [1, 2, 3, 4, 5, 0] rfl ?_
      exact (wpO_some hw :)
    · refine R_iconst (v := (1 : Int32)) hc dX11_laysState_20 kI_1 ?_
      refine R_goto (tgt := 25) hc dX11_laysState_21 (by decide) ?_
      refine R_sub hc [1, 2, 3, 4, 5, 0] rfl ?_
      exact (wpO_some hw :)
theorem dX11_laysAll_0 : decode cX11_laysAll 0 = .ok (.iconst 1, 1) := by decide +kernel
theorem dX11_laysAll_1 : decode cX11_laysAll 1 = .ok (.aload_n 0, 1) := by decide +kernel
theorem dX11_laysAll_2 : decode cX11_laysAll 2 = .ok (.invokevirtual 103, 3) := by decide +kernel
theorem dX11_laysAll_5 : decode cX11_laysAll 5 = .ok (.ishl, 1) := by decide +kernel
theorem dX11_laysAll_6 : decode cX11_laysAll 6 = .ok (.iconst 1, 1) := by decide +kernel
theorem dX11_laysAll_7 : decode cX11_laysAll 7 = .ok (.isub, 1) := by decide +kernel
theorem dX11_laysAll_8 : decode cX11_laysAll 8 = .ok (.istore_n 2, 1) := by decide +kernel
theorem dX11_laysAll_9 : decode cX11_laysAll 9 = .ok (.iload_n 2, 1) := by decide +kernel
theorem dX11_laysAll_10 : decode cX11_laysAll 10 = .ok (.ifCond .le 60, 3) := by decide +kernel
theorem dX11_laysAll_13 : decode cX11_laysAll 13 = .ok (.iconst 0, 1) := by decide +kernel
theorem dX11_laysAll_14 : decode cX11_laysAll 14 = .ok (.istore_n 3, 1) := by decide +kernel
theorem dX11_laysAll_15 : decode cX11_laysAll 15 = .ok (.iload_n 3, 1) := by decide +kernel
theorem dX11_laysAll_16 : decode cX11_laysAll 16 = .ok (.aload_n 0, 1) := by decide +kernel
theorem dX11_laysAll_17 : decode cX11_laysAll 17 = .ok (.invokevirtual 103, 3) := by decide +kernel
theorem dX11_laysAll_20 : decode cX11_laysAll 20 = .ok (.if_icmp .ge 44, 3) := by decide +kernel
theorem dX11_laysAll_23 : decode cX11_laysAll 23 = .ok (.iload_n 2, 1) := by decide +kernel
theorem dX11_laysAll_24 : decode cX11_laysAll 24 = .ok (.iload_n 3, 1) := by decide +kernel
theorem dX11_laysAll_25 : decode cX11_laysAll 25 = .ok (.ishr, 1) := by decide +kernel
theorem dX11_laysAll_26 : decode cX11_laysAll 26 = .ok (.iconst 1, 1) := by decide +kernel
theorem dX11_laysAll_27 : decode cX11_laysAll 27 = .ok (.iand, 1) := by decide +kernel
theorem dX11_laysAll_28 : decode cX11_laysAll 28 = .ok (.ifCond .ne 6, 3) := by decide +kernel
theorem dX11_laysAll_31 : decode cX11_laysAll 31 = .ok (.goto 27, 3) := by decide +kernel
theorem dX11_laysAll_34 : decode cX11_laysAll 34 = .ok (.iconst 0, 1) := by decide +kernel
theorem dX11_laysAll_35 : decode cX11_laysAll 35 = .ok (.istore 4, 2) := by decide +kernel
theorem dX11_laysAll_37 : decode cX11_laysAll 37 = .ok (.iload 4, 2) := by decide +kernel
theorem dX11_laysAll_39 : decode cX11_laysAll 39 = .ok (.iconst 4, 1) := by decide +kernel
theorem dX11_laysAll_40 : decode cX11_laysAll 40 = .ok (.if_icmp .ge 18, 3) := by decide +kernel
theorem dX11_laysAll_43 : decode cX11_laysAll 43 = .ok (.aload_n 0, 1) := by decide +kernel
theorem dX11_laysAll_44 : decode cX11_laysAll 44 = .ok (.iload_n 2, 1) := by decide +kernel
theorem dX11_laysAll_45 : decode cX11_laysAll 45 = .ok (.iload_n 3, 1) := by decide +kernel
theorem dX11_laysAll_46 : decode cX11_laysAll 46 = .ok (.iload 4, 2) := by decide +kernel
theorem dX11_laysAll_48 : decode cX11_laysAll 48 = .ok (.iload_n 1, 1) := by decide +kernel
theorem dX11_laysAll_49 : decode cX11_laysAll 49 = .ok (.invokevirtual 134, 3) := by decide +kernel
theorem dX11_laysAll_52 : decode cX11_laysAll 52 = .ok (.iinc 4 1, 3) := by decide +kernel
theorem dX11_laysAll_55 : decode cX11_laysAll 55 = .ok (.goto (-18), 3) := by decide +kernel
theorem dX11_laysAll_58 : decode cX11_laysAll 58 = .ok (.iinc 3 1, 3) := by decide +kernel
theorem dX11_laysAll_61 : decode cX11_laysAll 61 = .ok (.goto (-46), 3) := by decide +kernel
theorem dX11_laysAll_64 : decode cX11_laysAll 64 = .ok (.iinc 2 (-1), 3) := by decide +kernel
theorem dX11_laysAll_67 : decode cX11_laysAll 67 = .ok (.goto (-58), 3) := by decide +kernel
theorem dX11_laysAll_70 : decode cX11_laysAll 70 = .ok (.return_, 1) := by decide +kernel
def sX11_laysAll_L37 (F : Nat) (l0 : Nat) (l1 : Int32) (l2 : Int32) (l3 : Int32) (l4 : Int32) (h : HP) : Option ((Int32 × HP) ⊕ HP) :=
  if (4 : Int32) ≤ l4 then
    some (.inr h)
  else
    (dO h 11 (some l0)).bind fun a6 =>
    (sX11_laysState F a6 l2 l3 l4 l1 h).bind fun h7 =>
    some (.inl (l4 + (1 : Int32), h7))
def sX11_laysAll_L15 (F : Nat) (l0 : Nat) (l1 : Int32) (l2 : Int32) (l3 : Int32) (h : HP) : Option ((Int32 × HP) ⊕ HP) :=
  (dO h 11 (some l0)).bind fun a4 =>
  (sX11_fingers F a4 h).bind fun t5 =>
  if t5 ≤ l3 then
    some (.inr h)
  else
    if ¬ ((jshr l2 l3) &&& (1 : Int32)) = 0 then
      (iter (fun s => sX11_laysAll_L37 F l0 l1 l2 l3 s.1 s.2) F ((0 : Int32), h)).bind fun h8 =>
        some (.inl (l3 + (1 : Int32), h8))
    else
      some (.inl (l3 + (1 : Int32), h))
def sX11_laysAll_L9 (F : Nat) (l0 : Nat) (l1 : Int32) (l2 : Int32) (h : HP) : Option ((Int32 × HP) ⊕ HP) :=
  if l2 ≤ 0 then
    some (.inr h)
  else
    (iter (fun s => sX11_laysAll_L15 F l0 l1 l2 s.1 s.2) F ((0 : Int32), h)).bind fun h12 =>
      some (.inl (l2 + (-1 : Int32), h12))
def sX11_laysAll (F : Nat) (l0 : Nat) (l1 : Int32) (h : HP) : Option HP :=
  (dO h 11 (some l0)).bind fun a1 =>
  (sX11_fingers F a1 h).bind fun t2 =>
  nmI ((jshl (1 : Int32) t2) - (1 : Int32)) fun l2_3 =>
  (iter (fun s => sX11_laysAll_L9 F l0 l1 s.1 s.2) F (l2_3, h)).bind fun h16 =>
    some h16
abbrev rm_X11_laysAll : Room := { frames := 5, cells := 0, slots := 0, locals := 127 }
set_option maxRecDepth 100000 in
set_option maxHeartbeats 4000000 in
theorem mt_X11_laysAll {w : WD} {l : Launch} {F : Nat} {l0 : Nat} {l1 : Int32} {h : HP} {h' : HP} (hs : sX11_laysAll F l0 l1 h = some h') : MV w l yX11_laysAll cX11_laysAll 5 rm_X11_laysAll 0 0 [rf w (some l0), .int l1] h h' := by
  refine of_body [(0, rf w (some l0)), (1, .int l1)] (by decide) (by simp [lg_sl, rf_cat, cat_i, cat_l, cat_a]) (by simp [lv_args, rf_cat, cat_i, cat_l, cat_a]) ?_
  intro x hw_ hnL_ hl_ hc hret hnm hQ
  subst hw_; subst hl_
  have hnl : ∀ i, i < 5 → i < x.nL := fun i h => by rw [hnL_]; exact h
  have hw : wpO (sX11_laysAll F l0 l1 h) (fun r => r = h') := ⟨_, hs, rfl⟩
  unfold sX11_laysAll at hw
  refine R_iconst (v := (1 : Int32)) hc dX11_laysAll_0 kI_1 ?_
  refine R_aload_n (q := 0) (i := 0) (v := (some l0)) hc dX11_laysAll_1 rfl rfl ?_
  refine R_cVI (As := []) (rest := [.int (1 : Int32)]) (r := (some l0)) (ci := 11) hc ml_11_103 mf_X11_fingers rfl (by decide) ⟨rfl, rfl⟩ ⟨le_b rfl, le_b rfl⟩ ⟨Nat.zero_le _, Nat.zero_le _⟩ (fun a v e => mt_X11_fingers e) rfl rfl (le_b rfl) dX11_laysAll_2 hw (fun t2 hw => ?_)
  refine R_ishl hc dX11_laysAll_5 ?_
  refine R_iconst (v := (1 : Int32)) hc dX11_laysAll_6 kI_1 ?_
  refine R_isub hc dX11_laysAll_7 ?_
  refine R_nmI hw (fun l2_3 hw => ?_)
  refine R_istore_n (i := 2) (v := l2_3) hc [(2, .int l2_3), (0, rf x.w (some l0)), (1, .int l1)] dX11_laysAll_8 rfl (hnl 2 (le_b rfl)) rfl ?_
  refine R_sub hc [1, 2, 0] rfl ?_
  refine R_loop (P := fun (s : (Int32 × HP)) => Rn x 0 0 9 [(0, rf x.w (some l0)), (1, .int l1), (2, .int s.1)] [] s.2) (fun h16 => Rn x 0 0 70 [] [] h16) hw (fun r hw => ?_) (fun X hX s hw => ?_)
  · revert r hw
    intro h16 hw
    show Rn x 0 0 70 [] [] h16
    exact R_return hc hret hQ hw dX11_laysAll_70
  · obtain ⟨l2_18, h19⟩ := s
    show Rn x 0 0 9 [(0, rf x.w (some l0)), (1, .int l1), (2, .int l2_18)] [] h19
    have hw : wpO (sX11_laysAll_L9 F l0 l1 l2_18 h19) _ := hw
    unfold sX11_laysAll_L9 at hw
    refine R_iload_n (q := 2) (i := 2) (v := l2_18) hc dX11_laysAll_9 rfl rfl ?_
    refine R_if_le (tgt := 70) hc dX11_laysAll_10 (by decide) hw (fun hw => ?_) (fun hw => ?_)
    · refine R_sub hc [] rfl ?_
      exact (wpO_some hw :)
    · refine R_iconst (v := (0 : Int32)) hc dX11_laysAll_13 kI_0 ?_
      refine R_istore_n (i := 3) (v := (0 : Int32)) hc [(3, .int (0 : Int32)), (0, rf x.w (some l0)), (1, .int l1), (2, .int l2_18)] dX11_laysAll_14 rfl (hnl 3 (le_b rfl)) rfl ?_
      refine R_sub hc [1, 2, 3, 0] rfl ?_
      refine R_loop (P := fun (s : (Int32 × HP)) => Rn x 0 0 15 [(0, rf x.w (some l0)), (1, .int l1), (2, .int l2_18), (3, .int s.1)] [] s.2) (fun h12 => Rn x 0 0 64 [(0, rf x.w (some l0)), (1, .int l1), (2, .int l2_18)] [] h12) hw (fun r hw => ?_) (fun X hX s hw => ?_)
      · revert r hw
        intro h12 hw
        show Rn x 0 0 64 [(0, rf x.w (some l0)), (1, .int l1), (2, .int l2_18)] [] h12
        refine R_iinc (q := 2) (i := 2) (v := l2_18) hc [(2, .int (l2_18 + (-1 : Int32))), (0, rf x.w (some l0)), (1, .int l1)] dX11_laysAll_64 rfl (kC_m1 _) (hnl 2 (le_b rfl)) rfl ?_
        refine R_goto (tgt := 9) hc dX11_laysAll_67 (by decide) ?_
        refine R_sub hc [1, 2, 0] rfl ?_
        exact hX (l2_18 + (-1 : Int32), h12) (wpO_some hw :)
      · obtain ⟨l3_14, h15⟩ := s
        show Rn x 0 0 15 [(0, rf x.w (some l0)), (1, .int l1), (2, .int l2_18), (3, .int l3_14)] [] h15
        have hw : wpO (sX11_laysAll_L15 F l0 l1 l2_18 l3_14 h15) _ := hw
        unfold sX11_laysAll_L15 at hw
        refine R_iload_n (q := 3) (i := 3) (v := l3_14) hc dX11_laysAll_15 rfl rfl ?_
        refine R_aload_n (q := 0) (i := 0) (v := (some l0)) hc dX11_laysAll_16 rfl rfl ?_
        refine R_cVI (As := []) (rest := [.int l3_14]) (r := (some l0)) (ci := 11) hc ml_11_103 mf_X11_fingers rfl (by decide) ⟨rfl, rfl⟩ ⟨le_b rfl, le_b rfl⟩ ⟨Nat.zero_le _, Nat.zero_le _⟩ (fun a v e => mt_X11_fingers e) rfl rfl (le_b rfl) dX11_laysAll_17 hw (fun t5 hw => ?_)
        refine R_icmp_ge (tgt := 64) hc dX11_laysAll_20 (by decide) hw (fun hw => ?_) (fun hw => ?_)
        · refine R_sub hc [0, 1, 2] rfl ?_
          exact (wpO_some hw :)
        · refine R_iload_n (q := 2) (i := 2) (v := l2_18) hc dX11_laysAll_23 rfl rfl ?_
          refine R_iload_n (q := 3) (i := 3) (v := l3_14) hc dX11_laysAll_24 rfl rfl ?_
          refine R_ishr hc dX11_laysAll_25 ?_
          refine R_iconst (v := (1 : Int32)) hc dX11_laysAll_26 kI_1 ?_
          refine R_iand hc dX11_laysAll_27 ?_
          refine R_if_ne (tgt := 34) hc dX11_laysAll_28 (by decide) hw (fun hw => ?_) (fun hw => ?_)
          · refine R_iconst (v := (0 : Int32)) hc dX11_laysAll_34 kI_0 ?_
            refine R_istore (i := 4) (v := (0 : Int32)) hc [(4, .int (0 : Int32)), (0, rf x.w (some l0)), (1, .int l1), (2, .int l2_18), (3, .int l3_14)] dX11_laysAll_35 (hnl 4 (le_b rfl)) rfl ?_
            refine R_sub hc [1, 2, 3, 4, 0] rfl ?_
            refine R_loop (P := fun (s : (Int32 × HP)) => Rn x 0 0 37 [(0, rf x.w (some l0)), (1, .int l1), (2, .int l2_18), (3, .int l3_14), (4, .int s.1)] [] s.2) (fun h8 => Rn x 0 0 58 [(0, rf x.w (some l0)), (1, .int l1), (2, .int l2_18), (3, .int l3_14)] [] h8) hw (fun r hw => ?_) (fun X hX s hw => ?_)
            · revert r hw
              intro h8 hw
              show Rn x 0 0 58 [(0, rf x.w (some l0)), (1, .int l1), (2, .int l2_18), (3, .int l3_14)] [] h8
              refine R_iinc (q := 3) (i := 3) (v := l3_14) hc [(3, .int (l3_14 + (1 : Int32))), (0, rf x.w (some l0)), (1, .int l1), (2, .int l2_18)] dX11_laysAll_58 rfl (kC_1 _) (hnl 3 (le_b rfl)) rfl ?_
              refine R_goto (tgt := 15) hc dX11_laysAll_61 (by decide) ?_
              refine R_sub hc [1, 2, 3, 0] rfl ?_
              exact hX (l3_14 + (1 : Int32), h8) (wpO_some hw :)
            · obtain ⟨l4_10, h11⟩ := s
              show Rn x 0 0 37 [(0, rf x.w (some l0)), (1, .int l1), (2, .int l2_18), (3, .int l3_14), (4, .int l4_10)] [] h11
              have hw : wpO (sX11_laysAll_L37 F l0 l1 l2_18 l3_14 l4_10 h11) _ := hw
              unfold sX11_laysAll_L37 at hw
              refine R_iload (q := 4) (i := 4) (v := l4_10) hc dX11_laysAll_37 rfl ?_
              refine R_iconst (v := (4 : Int32)) hc dX11_laysAll_39 kI_4 ?_
              refine R_icmp_ge (tgt := 58) hc dX11_laysAll_40 (by decide) hw (fun hw => ?_) (fun hw => ?_)
              · refine R_sub hc [0, 1, 2, 3] rfl ?_
                exact (wpO_some hw :)
              · refine R_aload_n (q := 0) (i := 0) (v := (some l0)) hc dX11_laysAll_43 rfl rfl ?_
                refine R_iload_n (q := 2) (i := 2) (v := l2_18) hc dX11_laysAll_44 rfl rfl ?_
                refine R_iload_n (q := 3) (i := 3) (v := l3_14) hc dX11_laysAll_45 rfl rfl ?_
                refine R_iload (q := 4) (i := 4) (v := l4_10) hc dX11_laysAll_46 rfl ?_
                refine R_iload_n (q := 1) (i := 1) (v := l1) hc dX11_laysAll_48 rfl rfl ?_
                refine R_cVVi (As := [.int l2_18, .int l3_14, .int l4_10, .int l1]) (rest := []) (r := (some l0)) (ci := 11) hc ml_11_134 mf_X11_laysState rfl (by decide) ⟨rfl, rfl⟩ ⟨le_b rfl, le_b rfl⟩ ⟨Nat.zero_le _, Nat.zero_le _⟩ (fun a h' e => mt_X11_laysState e) rfl rfl (Nat.zero_le _) dX11_laysAll_49 hw (fun h7 hw => ?_)
                refine R_iinc (q := 4) (i := 4) (v := l4_10) hc [(4, .int (l4_10 + (1 : Int32))), (0, rf x.w (some l0)), (1, .int l1), (2, .int l2_18), (3, .int l3_14)] dX11_laysAll_52 rfl (kC_1 _) (hnl 4 (le_b rfl)) rfl ?_
                refine R_goto (tgt := 37) hc dX11_laysAll_55 (by decide) ?_
                refine R_sub hc [1, 2, 3, 4, 0] rfl ?_
                exact hX (l4_10 + (1 : Int32), h7) (wpO_some hw :)
          · refine R_goto (tgt := 58) hc dX11_laysAll_31 (by decide) ?_
            refine R_iinc (q := 3) (i := 3) (v := l3_14) hc [(3, .int (l3_14 + (1 : Int32))), (0, rf x.w (some l0)), (1, .int l1), (2, .int l2_18)] dX11_laysAll_58 rfl (kC_1 _) (hnl 3 (le_b rfl)) rfl ?_
            refine R_goto (tgt := 15) hc dX11_laysAll_61 (by decide) ?_
            refine R_sub hc [1, 2, 3, 0] rfl ?_
            exact hX (l3_14 + (1 : Int32), h15) (wpO_some hw :)
theorem dX11_laysBest_0 : decode cX11_laysBest 0 = .ok (.aload_n 0, 1) := by decide +kernel
theorem dX11_laysBest_1 : decode cX11_laysBest 1 = .ok (.iconst (-1), 1) := by decide +kernel
theorem dX11_laysBest_2 : decode cX11_laysBest 2 = .ok (.invokevirtual 138, 3) := by decide +kernel
theorem dX11_laysBest_5 : decode cX11_laysBest 5 = .ok (.aload_n 0, 1) := by decide +kernel
theorem dX11_laysBest_6 : decode cX11_laysBest 6 = .ok (.aload_n 0, 1) := by decide +kernel
theorem dX11_laysBest_7 : decode cX11_laysBest 7 = .ok (.invokevirtual 103, 3) := by decide +kernel
theorem dX11_laysBest_10 : decode cX11_laysBest 10 = .ok (.ifCond .ne 7, 3) := by decide +kernel
theorem dX11_laysBest_13 : decode cX11_laysBest 13 = .ok (.iconst 0, 1) := by decide +kernel
theorem dX11_laysBest_14 : decode cX11_laysBest 14 = .ok (.goto 6, 3) := by decide +kernel
theorem dX11_laysBest_17 : decode cX11_laysBest 17 = .ok (.sipush 1000, 3) := by decide +kernel
theorem dX11_laysBest_20 : decode cX11_laysBest 20 = .ok (.putfield 142, 3) := by decide +kernel
theorem dX11_laysBest_23 : decode cX11_laysBest 23 = .ok (.aload_n 0, 1) := by decide +kernel
theorem dX11_laysBest_24 : decode cX11_laysBest 24 = .ok (.aload_n 0, 1) := by decide +kernel
theorem dX11_laysBest_25 : decode cX11_laysBest 25 = .ok (.invokevirtual 103, 3) := by decide +kernel
theorem dX11_laysBest_28 : decode cX11_laysBest 28 = .ok (.ifCond .ne 7, 3) := by decide +kernel
theorem dX11_laysBest_31 : decode cX11_laysBest 31 = .ok (.lconst 1, 1) := by decide +kernel
theorem dX11_laysBest_32 : decode cX11_laysBest 32 = .ok (.goto 4, 3) := by decide +kernel
theorem dX11_laysBest_35 : decode cX11_laysBest 35 = .ok (.lconst 0, 1) := by decide +kernel
theorem dX11_laysBest_36 : decode cX11_laysBest 36 = .ok (.putfield 145, 3) := by decide +kernel
theorem dX11_laysBest_39 : decode cX11_laysBest 39 = .ok (.aload_n 0, 1) := by decide +kernel
theorem dX11_laysBest_40 : decode cX11_laysBest 40 = .ok (.iconst 0, 1) := by decide +kernel
theorem dX11_laysBest_41 : decode cX11_laysBest 41 = .ok (.putfield 149, 3) := by decide +kernel
theorem dX11_laysBest_44 : decode cX11_laysBest 44 = .ok (.iconst 0, 1) := by decide +kernel
theorem dX11_laysBest_45 : decode cX11_laysBest 45 = .ok (.istore_n 1, 1) := by decide +kernel
theorem dX11_laysBest_46 : decode cX11_laysBest 46 = .ok (.iload_n 1, 1) := by decide +kernel
theorem dX11_laysBest_47 : decode cX11_laysBest 47 = .ok (.aload_n 0, 1) := by decide +kernel
theorem dX11_laysBest_48 : decode cX11_laysBest 48 = .ok (.invokevirtual 103, 3) := by decide +kernel
theorem dX11_laysBest_51 : decode cX11_laysBest 51 = .ok (.if_icmp .ge 114, 3) := by decide +kernel
theorem dX11_laysBest_54 : decode cX11_laysBest 54 = .ok (.iconst 0, 1) := by decide +kernel
theorem dX11_laysBest_55 : decode cX11_laysBest 55 = .ok (.istore_n 2, 1) := by decide +kernel
theorem dX11_laysBest_56 : decode cX11_laysBest 56 = .ok (.iload_n 2, 1) := by decide +kernel
theorem dX11_laysBest_57 : decode cX11_laysBest 57 = .ok (.iconst 4, 1) := by decide +kernel
theorem dX11_laysBest_58 : decode cX11_laysBest 58 = .ok (.if_icmp .ge 101, 3) := by decide +kernel
theorem dX11_laysBest_61 : decode cX11_laysBest 61 = .ok (.iconst 1, 1) := by decide +kernel
theorem dX11_laysBest_62 : decode cX11_laysBest 62 = .ok (.iload_n 1, 1) := by decide +kernel
theorem dX11_laysBest_63 : decode cX11_laysBest 63 = .ok (.ishl, 1) := by decide +kernel
theorem dX11_laysBest_64 : decode cX11_laysBest 64 = .ok (.iload_n 1, 1) := by decide +kernel
theorem dX11_laysBest_65 : decode cX11_laysBest 65 = .ok (.iload_n 2, 1) := by decide +kernel
theorem dX11_laysBest_66 : decode cX11_laysBest 66 = .ok (.invokestatic 123, 3) := by decide +kernel
theorem dX11_laysBest_69 : decode cX11_laysBest 69 = .ok (.istore_n 3, 1) := by decide +kernel
theorem dX11_laysBest_70 : decode cX11_laysBest 70 = .ok (.aload_n 0, 1) := by decide +kernel
theorem dX11_laysBest_71 : decode cX11_laysBest 71 = .ok (.getfield 29, 3) := by decide +kernel
theorem dX11_laysBest_74 : decode cX11_laysBest 74 = .ok (.iload_n 3, 1) := by decide +kernel
theorem dX11_laysBest_75 : decode cX11_laysBest 75 = .ok (.iaload, 1) := by decide +kernel
theorem dX11_laysBest_76 : decode cX11_laysBest 76 = .ok (.aload_n 0, 1) := by decide +kernel
theorem dX11_laysBest_77 : decode cX11_laysBest 77 = .ok (.getfield 142, 3) := by decide +kernel
theorem dX11_laysBest_80 : decode cX11_laysBest 80 = .ok (.if_icmp .le 6, 3) := by decide +kernel
theorem dX11_laysBest_83 : decode cX11_laysBest 83 = .ok (.goto 70, 3) := by decide +kernel
theorem dX11_laysBest_86 : decode cX11_laysBest 86 = .ok (.aload_n 0, 1) := by decide +kernel
theorem dX11_laysBest_87 : decode cX11_laysBest 87 = .ok (.getfield 29, 3) := by decide +kernel
theorem dX11_laysBest_90 : decode cX11_laysBest 90 = .ok (.iload_n 3, 1) := by decide +kernel
theorem dX11_laysBest_91 : decode cX11_laysBest 91 = .ok (.iaload, 1) := by decide +kernel
theorem dX11_laysBest_92 : decode cX11_laysBest 92 = .ok (.aload_n 0, 1) := by decide +kernel
theorem dX11_laysBest_93 : decode cX11_laysBest 93 = .ok (.getfield 142, 3) := by decide +kernel
theorem dX11_laysBest_96 : decode cX11_laysBest 96 = .ok (.if_icmp .ge 25, 3) := by decide +kernel
theorem dX11_laysBest_99 : decode cX11_laysBest 99 = .ok (.aload_n 0, 1) := by decide +kernel
theorem dX11_laysBest_100 : decode cX11_laysBest 100 = .ok (.aload_n 0, 1) := by decide +kernel
theorem dX11_laysBest_101 : decode cX11_laysBest 101 = .ok (.getfield 29, 3) := by decide +kernel
theorem dX11_laysBest_104 : decode cX11_laysBest 104 = .ok (.iload_n 3, 1) := by decide +kernel
theorem dX11_laysBest_105 : decode cX11_laysBest 105 = .ok (.iaload, 1) := by decide +kernel
theorem dX11_laysBest_106 : decode cX11_laysBest 106 = .ok (.putfield 142, 3) := by decide +kernel
theorem dX11_laysBest_109 : decode cX11_laysBest 109 = .ok (.aload_n 0, 1) := by decide +kernel
theorem dX11_laysBest_110 : decode cX11_laysBest 110 = .ok (.lconst 0, 1) := by decide +kernel
theorem dX11_laysBest_111 : decode cX11_laysBest 111 = .ok (.putfield 145, 3) := by decide +kernel
theorem dX11_laysBest_114 : decode cX11_laysBest 114 = .ok (.aload_n 0, 1) := by decide +kernel
theorem dX11_laysBest_115 : decode cX11_laysBest 115 = .ok (.sipush 1000, 3) := by decide +kernel
theorem dX11_laysBest_118 : decode cX11_laysBest 118 = .ok (.putfield 149, 3) := by decide +kernel
theorem dX11_laysBest_121 : decode cX11_laysBest 121 = .ok (.aload_n 0, 1) := by decide +kernel
theorem dX11_laysBest_122 : decode cX11_laysBest 122 = .ok (.dup, 1) := by decide +kernel
theorem dX11_laysBest_123 : decode cX11_laysBest 123 = .ok (.getfield 145, 3) := by decide +kernel
theorem dX11_laysBest_126 : decode cX11_laysBest 126 = .ok (.aload_n 0, 1) := by decide +kernel
theorem dX11_laysBest_127 : decode cX11_laysBest 127 = .ok (.getfield 32, 3) := by decide +kernel
theorem dX11_laysBest_130 : decode cX11_laysBest 130 = .ok (.iload_n 3, 1) := by decide +kernel
theorem dX11_laysBest_131 : decode cX11_laysBest 131 = .ok (.laload, 1) := by decide +kernel
theorem dX11_laysBest_132 : decode cX11_laysBest 132 = .ok (.ladd, 1) := by decide +kernel
theorem dX11_laysBest_133 : decode cX11_laysBest 133 = .ok (.putfield 145, 3) := by decide +kernel
theorem dX11_laysBest_136 : decode cX11_laysBest 136 = .ok (.aload_n 0, 1) := by decide +kernel
theorem dX11_laysBest_137 : decode cX11_laysBest 137 = .ok (.aload_n 0, 1) := by decide +kernel
theorem dX11_laysBest_138 : decode cX11_laysBest 138 = .ok (.getfield 149, 3) := by decide +kernel
theorem dX11_laysBest_141 : decode cX11_laysBest 141 = .ok (.aload_n 0, 1) := by decide +kernel
theorem dX11_laysBest_142 : decode cX11_laysBest 142 = .ok (.getfield 36, 3) := by decide +kernel
theorem dX11_laysBest_145 : decode cX11_laysBest 145 = .ok (.iload_n 3, 1) := by decide +kernel
theorem dX11_laysBest_146 : decode cX11_laysBest 146 = .ok (.iaload, 1) := by decide +kernel
theorem dX11_laysBest_147 : decode cX11_laysBest 147 = .ok (.invokestatic 131, 3) := by decide +kernel
theorem dX11_laysBest_150 : decode cX11_laysBest 150 = .ok (.putfield 149, 3) := by decide +kernel
theorem dX11_laysBest_153 : decode cX11_laysBest 153 = .ok (.iinc 2 1, 3) := by decide +kernel
theorem dX11_laysBest_156 : decode cX11_laysBest 156 = .ok (.goto (-100), 3) := by decide +kernel
theorem dX11_laysBest_159 : decode cX11_laysBest 159 = .ok (.iinc 1 1, 3) := by decide +kernel
theorem dX11_laysBest_162 : decode cX11_laysBest 162 = .ok (.goto (-116), 3) := by decide +kernel
theorem dX11_laysBest_165 : decode cX11_laysBest 165 = .ok (.return_, 1) := by decide +kernel
def sX11_laysBest_L56 (F : Nat) (l0 : Nat) (l1 : Int32) (l2 : Int32) (h : HP) : Option ((Int32 × HP) ⊕ HP) :=
  if (4 : Int32) ≤ l2 then
    some (.inr h)
  else
    (sX11_state F (jshl (1 : Int32) l1) l1 l2 h).bind fun t14 =>
    (gR h 11 (some l0) 12).bind fun t15 =>
    (aI h 13 t15 t14).bind fun t16 =>
    (gI h 11 (some l0) 17).bind fun t17 =>
    if t16 ≤ t17 then
      (gR h 11 (some l0) 12).bind fun t18 =>
      (aI h 13 t18 t14).bind fun t19 =>
      (gI h 11 (some l0) 17).bind fun t20 =>
      (if t20 ≤ t19 then
          some h
        else
          (gR h 11 (some l0) 12).bind fun t22 =>
          (aI h 13 t22 t14).bind fun t23 =>
          (pI h 11 (some l0) 17 t23).bind fun h24 =>
          (pJ h24 11 (some l0) 18 (0 : Int64)).bind fun h25 =>
          (pI h25 11 (some l0) 19 (1000 : Int32)).bind fun h26 =>
          some h26).bind fun h21 =>
      (gJ h21 11 (some l0) 18).bind fun t27 =>
      (gR h21 11 (some l0) 13).bind fun t28 =>
      (aJ h21 t28 t14).bind fun t29 =>
      (pJ h21 11 (some l0) 18 (t27 + t29)).bind fun h30 =>
      (gI h30 11 (some l0) 19).bind fun t31 =>
      (gR h30 11 (some l0) 14).bind fun t32 =>
      (aI h30 13 t32 t14).bind fun t33 =>
      (sX11_lesser F t31 t33 h30).bind fun t34 =>
      (pI h30 11 (some l0) 19 t34).bind fun h35 =>
      some (.inl (l2 + (1 : Int32), h35))
    else
      some (.inl (l2 + (1 : Int32), h))
def sX11_laysBest_L46 (F : Nat) (l0 : Nat) (l1 : Int32) (h : HP) : Option ((Int32 × HP) ⊕ HP) :=
  (dO h 11 (some l0)).bind fun a12 =>
  (sX11_fingers F a12 h).bind fun t13 =>
  if t13 ≤ l1 then
    some (.inr h)
  else
    (iter (fun s => sX11_laysBest_L56 F l0 l1 s.1 s.2) F ((0 : Int32), h)).bind fun h36 =>
      some (.inl (l1 + (1 : Int32), h36))
def sX11_laysBest (F : Nat) (l0 : Nat) (h : HP) : Option HP :=
  (dO h 11 (some l0)).bind fun a1 =>
  (sX11_laysAll F a1 (-1 : Int32) h).bind fun h2 =>
  (dO h2 11 (some l0)).bind fun a3 =>
  (sX11_fingers F a3 h2).bind fun t4 =>
  (if ¬ t4 = 0 then
      some (1000 : Int32)
    else
      some (0 : Int32)).bind fun s5 =>
  (pI h2 11 (some l0) 17 s5).bind fun h6 =>
  (dO h6 11 (some l0)).bind fun a7 =>
  (sX11_fingers F a7 h6).bind fun t8 =>
  (if ¬ t8 = 0 then
      some (0 : Int64)
    else
      some (1 : Int64)).bind fun s9 =>
  (pJ h6 11 (some l0) 18 s9).bind fun h10 =>
  (pI h10 11 (some l0) 19 (0 : Int32)).bind fun h11 =>
  (iter (fun s => sX11_laysBest_L46 F l0 s.1 s.2) F ((0 : Int32), h11)).bind fun h40 =>
    some h40
abbrev rm_X11_laysBest : Room := { frames := 6, cells := 0, slots := 0, locals := 151 }
set_option maxRecDepth 100000 in
set_option maxHeartbeats 4000000 in
theorem mt_X11_laysBest {w : WD} {l : Launch} {F : Nat} {l0 : Nat} {h : HP} {h' : HP} (hs : sX11_laysBest F l0 h = some h') : MV w l yX11_laysBest cX11_laysBest 4 rm_X11_laysBest 0 0 [rf w (some l0)] h h' := by
  refine of_body [(0, rf w (some l0))] (by decide) (by simp [lg_sl, rf_cat, cat_i, cat_l, cat_a]) (by simp [lv_args, rf_cat, cat_i, cat_l, cat_a]) ?_
  intro x hw_ hnL_ hl_ hc hret hnm hQ
  subst hw_; subst hl_
  have hnl : ∀ i, i < 4 → i < x.nL := fun i h => by rw [hnL_]; exact h
  have hw : wpO (sX11_laysBest F l0 h) (fun r => r = h') := ⟨_, hs, rfl⟩
  unfold sX11_laysBest at hw
  refine R_aload_n (q := 0) (i := 0) (v := (some l0)) hc dX11_laysBest_0 rfl rfl ?_
  refine R_iconst (v := (-1 : Int32)) hc dX11_laysBest_1 kI_m1 ?_
  refine R_cVVi (As := [.int (-1 : Int32)]) (rest := []) (r := (some l0)) (ci := 11) hc ml_11_138 mf_X11_laysAll rfl (by decide) ⟨rfl, rfl⟩ ⟨le_b rfl, le_b rfl⟩ ⟨Nat.zero_le _, Nat.zero_le _⟩ (fun a h' e => mt_X11_laysAll e) rfl rfl (Nat.zero_le _) dX11_laysBest_2 hw (fun h2 hw => ?_)
  refine R_aload_n (q := 0) (i := 0) (v := (some l0)) hc dX11_laysBest_5 rfl rfl ?_
  refine R_aload_n (q := 0) (i := 0) (v := (some l0)) hc dX11_laysBest_6 rfl rfl ?_
  refine R_cVI (As := []) (rest := [rf x.w (some l0)]) (r := (some l0)) (ci := 11) hc ml_11_103 mf_X11_fingers rfl (by decide) ⟨rfl, rfl⟩ ⟨le_b rfl, le_b rfl⟩ ⟨Nat.zero_le _, Nat.zero_le _⟩ (fun a v e => mt_X11_fingers e) rfl rfl (le_b rfl) dX11_laysBest_7 hw (fun t4 hw => ?_)
  refine R_join (fun (s5 : Int32) => Rn x 0 0 20 [(0, rf x.w (some l0))] [.int s5, rf x.w (some l0)] h2) hw (fun r hw => ?_) (fun hw => ?_)
  · revert r hw
    intro s5 hw
    show Rn x 0 0 20 [(0, rf x.w (some l0))] [.int s5, rf x.w (some l0)] h2
    refine R_putI hc pl_11_142 rfl rfl dX11_laysBest_20 hw (fun h6 hw => ?_)
    refine R_aload_n (q := 0) (i := 0) (v := (some l0)) hc dX11_laysBest_23 rfl rfl ?_
    refine R_aload_n (q := 0) (i := 0) (v := (some l0)) hc dX11_laysBest_24 rfl rfl ?_
    refine R_cVI (As := []) (rest := [rf x.w (some l0)]) (r := (some l0)) (ci := 11) hc ml_11_103 mf_X11_fingers rfl (by decide) ⟨rfl, rfl⟩ ⟨le_b rfl, le_b rfl⟩ ⟨Nat.zero_le _, Nat.zero_le _⟩ (fun a v e => mt_X11_fingers e) rfl rfl (le_b rfl) dX11_laysBest_25 hw (fun t8 hw => ?_)
    refine R_join (fun (s9 : Int64) => Rn x 0 0 36 [(0, rf x.w (some l0))] [.long s9, rf x.w (some l0)] h6) hw (fun r hw => ?_) (fun hw => ?_)
    · revert r hw
      intro s9 hw
      show Rn x 0 0 36 [(0, rf x.w (some l0))] [.long s9, rf x.w (some l0)] h6
      refine R_putJ hc pl_11_145 rfl rfl dX11_laysBest_36 hw (fun h10 hw => ?_)
      refine R_aload_n (q := 0) (i := 0) (v := (some l0)) hc dX11_laysBest_39 rfl rfl ?_
      refine R_iconst (v := (0 : Int32)) hc dX11_laysBest_40 kI_0 ?_
      refine R_putI hc pl_11_149 rfl rfl dX11_laysBest_41 hw (fun h11 hw => ?_)
      refine R_iconst (v := (0 : Int32)) hc dX11_laysBest_44 kI_0 ?_
      refine R_istore_n (i := 1) (v := (0 : Int32)) hc [(1, .int (0 : Int32)), (0, rf x.w (some l0))] dX11_laysBest_45 rfl (hnl 1 (le_b rfl)) rfl ?_
      refine R_sub hc [1, 0] rfl ?_
      refine R_loop (P := fun (s : (Int32 × HP)) => Rn x 0 0 46 [(0, rf x.w (some l0)), (1, .int s.1)] [] s.2) (fun h40 => Rn x 0 0 165 [] [] h40) hw (fun r hw => ?_) (fun X hX s hw => ?_)
      · revert r hw
        intro h40 hw
        show Rn x 0 0 165 [] [] h40
        exact R_return hc hret hQ hw dX11_laysBest_165
      · obtain ⟨l1_42, h43⟩ := s
        show Rn x 0 0 46 [(0, rf x.w (some l0)), (1, .int l1_42)] [] h43
        have hw : wpO (sX11_laysBest_L46 F l0 l1_42 h43) _ := hw
        unfold sX11_laysBest_L46 at hw
        refine R_iload_n (q := 1) (i := 1) (v := l1_42) hc dX11_laysBest_46 rfl rfl ?_
        refine R_aload_n (q := 0) (i := 0) (v := (some l0)) hc dX11_laysBest_47 rfl rfl ?_
        refine R_cVI (As := []) (rest := [.int l1_42]) (r := (some l0)) (ci := 11) hc ml_11_103 mf_X11_fingers rfl (by decide) ⟨rfl, rfl⟩ ⟨le_b rfl, le_b rfl⟩ ⟨Nat.zero_le _, Nat.zero_le _⟩ (fun a v e => mt_X11_fingers e) rfl rfl (le_b rfl) dX11_laysBest_48 hw (fun t13 hw => ?_)
        refine R_icmp_ge (tgt := 165) hc dX11_laysBest_51 (by decide) hw (fun hw => ?_) (fun hw => ?_)
        · refine R_sub hc [] rfl ?_
          exact (wpO_some hw :)
        · refine R_iconst (v := (0 : Int32)) hc dX11_laysBest_54 kI_0 ?_
          refine R_istore_n (i := 2) (v := (0 : Int32)) hc [(2, .int (0 : Int32)), (0, rf x.w (some l0)), (1, .int l1_42)] dX11_laysBest_55 rfl (hnl 2 (le_b rfl)) rfl ?_
          refine R_sub hc [1, 2, 0] rfl ?_
          refine R_loop (P := fun (s : (Int32 × HP)) => Rn x 0 0 56 [(0, rf x.w (some l0)), (1, .int l1_42), (2, .int s.1)] [] s.2) (fun h36 => Rn x 0 0 159 [(0, rf x.w (some l0)), (1, .int l1_42)] [] h36) hw (fun r hw => ?_) (fun X hX s hw => ?_)
          · revert r hw
            intro h36 hw
            show Rn x 0 0 159 [(0, rf x.w (some l0)), (1, .int l1_42)] [] h36
            refine R_iinc (q := 1) (i := 1) (v := l1_42) hc [(1, .int (l1_42 + (1 : Int32))), (0, rf x.w (some l0))] dX11_laysBest_159 rfl (kC_1 _) (hnl 1 (le_b rfl)) rfl ?_
            refine R_goto (tgt := 46) hc dX11_laysBest_162 (by decide) ?_
            refine R_sub hc [1, 0] rfl ?_
            exact hX (l1_42 + (1 : Int32), h36) (wpO_some hw :)
          · obtain ⟨l2_38, h39⟩ := s
            show Rn x 0 0 56 [(0, rf x.w (some l0)), (1, .int l1_42), (2, .int l2_38)] [] h39
            have hw : wpO (sX11_laysBest_L56 F l0 l1_42 l2_38 h39) _ := hw
            unfold sX11_laysBest_L56 at hw
            refine R_iload_n (q := 2) (i := 2) (v := l2_38) hc dX11_laysBest_56 rfl rfl ?_
            refine R_iconst (v := (4 : Int32)) hc dX11_laysBest_57 kI_4 ?_
            refine R_icmp_ge (tgt := 159) hc dX11_laysBest_58 (by decide) hw (fun hw => ?_) (fun hw => ?_)
            · refine R_sub hc [0, 1] rfl ?_
              exact (wpO_some hw :)
            · refine R_iconst (v := (1 : Int32)) hc dX11_laysBest_61 kI_1 ?_
              refine R_iload_n (q := 1) (i := 1) (v := l1_42) hc dX11_laysBest_62 rfl rfl ?_
              refine R_ishl hc dX11_laysBest_63 ?_
              refine R_iload_n (q := 1) (i := 1) (v := l1_42) hc dX11_laysBest_64 rfl rfl ?_
              refine R_iload_n (q := 2) (i := 2) (v := l2_38) hc dX11_laysBest_65 rfl rfl ?_
              refine R_cSI (As := [.int (jshl (1 : Int32) l1_42), .int l1_42, .int l2_38]) (rest := []) hc ml_11_123 mf_X11_state ⟨rfl, rfl⟩ ⟨le_b rfl, le_b rfl⟩ ⟨Nat.zero_le _, Nat.zero_le _⟩ (fun v e => mt_X11_state e) rfl rfl (Nat.zero_le _) dX11_laysBest_66 hw (fun t14 hw => ?_)
              refine R_istore_n (i := 3) (v := t14) hc [(3, .int t14), (0, rf x.w (some l0)), (1, .int l1_42), (2, .int l2_38)] dX11_laysBest_69 rfl (hnl 3 (le_b rfl)) rfl ?_
              refine R_aload_n (q := 1) (i := 0) (v := (some l0)) hc dX11_laysBest_70 rfl rfl ?_
              refine R_getR hc fl_11_29 dX11_laysBest_71 hw (fun t15 hw => ?_)
              refine R_iload_n (q := 0) (i := 3) (v := t14) hc dX11_laysBest_74 rfl rfl ?_
              refine R_iaload hc dX11_laysBest_75 hw (fun t16 hw => ?_)
              refine R_aload_n (q := 1) (i := 0) (v := (some l0)) hc dX11_laysBest_76 rfl rfl ?_
              refine R_getI hc fl_11_142 dX11_laysBest_77 hw (fun t17 hw => ?_)
              refine R_icmp_le (tgt := 86) hc dX11_laysBest_80 (by decide) hw (fun hw => ?_) (fun hw => ?_)
              · refine R_aload_n (q := 1) (i := 0) (v := (some l0)) hc dX11_laysBest_86 rfl rfl ?_
                refine R_getR hc fl_11_29 dX11_laysBest_87 hw (fun t18 hw => ?_)
                refine R_iload_n (q := 0) (i := 3) (v := t14) hc dX11_laysBest_90 rfl rfl ?_
                refine R_iaload hc dX11_laysBest_91 hw (fun t19 hw => ?_)
                refine R_aload_n (q := 1) (i := 0) (v := (some l0)) hc dX11_laysBest_92 rfl rfl ?_
                refine R_getI hc fl_11_142 dX11_laysBest_93 hw (fun t20 hw => ?_)
                refine R_join (fun (h21 : HP) => Rn x 0 0 121 [(0, rf x.w (some l0)), (1, .int l1_42), (2, .int l2_38), (3, .int t14)] [] h21) hw (fun r hw => ?_) (fun hw => ?_)
                · revert r hw
                  intro h21 hw
                  show Rn x 0 0 121 [(0, rf x.w (some l0)), (1, .int l1_42), (2, .int l2_38), (3, .int t14)] [] h21
                  refine R_aload_n (q := 0) (i := 0) (v := (some l0)) hc dX11_laysBest_121 rfl rfl ?_
                  refine R_dup hc dX11_laysBest_122 (rf_cat _ _) ?_
                  refine R_getJ hc fl_11_145 dX11_laysBest_123 hw (fun t27 hw => ?_)
                  refine R_aload_n (q := 0) (i := 0) (v := (some l0)) hc dX11_laysBest_126 rfl rfl ?_
                  refine R_getR hc fl_11_32 dX11_laysBest_127 hw (fun t28 hw => ?_)
                  refine R_iload_n (q := 3) (i := 3) (v := t14) hc dX11_laysBest_130 rfl rfl ?_
                  refine R_laload hc dX11_laysBest_131 hw (fun t29 hw => ?_)
                  refine R_ladd hc dX11_laysBest_132 ?_
                  refine R_putJ hc pl_11_145 rfl rfl dX11_laysBest_133 hw (fun h30 hw => ?_)
                  refine R_aload_n (q := 0) (i := 0) (v := (some l0)) hc dX11_laysBest_136 rfl rfl ?_
                  refine R_aload_n (q := 0) (i := 0) (v := (some l0)) hc dX11_laysBest_137 rfl rfl ?_
                  refine R_getI hc fl_11_149 dX11_laysBest_138 hw (fun t31 hw => ?_)
                  refine R_aload_n (q := 0) (i := 0) (v := (some l0)) hc dX11_laysBest_141 rfl rfl ?_
                  refine R_getR hc fl_11_36 dX11_laysBest_142 hw (fun t32 hw => ?_)
                  refine R_iload_n (q := 3) (i := 3) (v := t14) hc dX11_laysBest_145 rfl rfl ?_
                  refine R_iaload hc dX11_laysBest_146 hw (fun t33 hw => ?_)
                  refine R_cSI (As := [.int t31, .int t33]) (rest := [rf x.w (some l0)]) hc ml_11_131 mf_X11_lesser ⟨rfl, rfl⟩ ⟨le_b rfl, le_b rfl⟩ ⟨Nat.zero_le _, Nat.zero_le _⟩ (fun v e => mt_X11_lesser e) rfl rfl (le_b rfl) dX11_laysBest_147 hw (fun t34 hw => ?_)
                  refine R_putI hc pl_11_149 rfl rfl dX11_laysBest_150 hw (fun h35 hw => ?_)
                  refine R_iinc (q := 2) (i := 2) (v := l2_38) hc [(2, .int (l2_38 + (1 : Int32))), (0, rf x.w (some l0)), (1, .int l1_42), (3, .int t14)] dX11_laysBest_153 rfl (kC_1 _) (hnl 2 (le_b rfl)) rfl ?_
                  refine R_goto (tgt := 56) hc dX11_laysBest_156 (by decide) ?_
                  refine R_sub hc [1, 2, 0] rfl ?_
                  exact hX (l2_38 + (1 : Int32), h35) (wpO_some hw :)
                · refine R_icmp_ge (tgt := 121) hc dX11_laysBest_96 (by decide) hw (fun hw => ?_) (fun hw => ?_)
                  · refine R_sub hc [1, 2, 3, 0] rfl ?_
                    exact (wpO_some hw :)
                  · refine R_aload_n (q := 1) (i := 0) (v := (some l0)) hc dX11_laysBest_99 rfl rfl ?_
                    refine R_aload_n (q := 1) (i := 0) (v := (some l0)) hc dX11_laysBest_100 rfl rfl ?_
                    refine R_getR hc fl_11_29 dX11_laysBest_101 hw (fun t22 hw => ?_)
                    refine R_iload_n (q := 0) (i := 3) (v := t14) hc dX11_laysBest_104 rfl rfl ?_
                    refine R_iaload hc dX11_laysBest_105 hw (fun t23 hw => ?_)
                    refine R_putI hc pl_11_142 rfl rfl dX11_laysBest_106 hw (fun h24 hw => ?_)
                    refine R_aload_n (q := 1) (i := 0) (v := (some l0)) hc dX11_laysBest_109 rfl rfl ?_
                    refine R_lconst (v := (0 : Int64)) hc dX11_laysBest_110 kL_0 ?_
                    refine R_putJ hc pl_11_145 rfl rfl dX11_laysBest_111 hw (fun h25 hw => ?_)
                    refine R_aload_n (q := 1) (i := 0) (v := (some l0)) hc dX11_laysBest_114 rfl rfl ?_
                    refine R_sipush (v := (1000 : Int32)) hc dX11_laysBest_115 kS_1000 ?_
                    refine R_putI hc pl_11_149 rfl rfl dX11_laysBest_118 hw (fun h26 hw => ?_)
                    refine R_sub hc [1, 2, 3, 0] rfl ?_
                    exact (wpO_some hw :)
              · refine R_goto (tgt := 153) hc dX11_laysBest_83 (by decide) ?_
                refine R_iinc (q := 3) (i := 2) (v := l2_38) hc [(2, .int (l2_38 + (1 : Int32))), (3, .int t14), (0, rf x.w (some l0)), (1, .int l1_42)] dX11_laysBest_153 rfl (kC_1 _) (hnl 2 (le_b rfl)) rfl ?_
                refine R_goto (tgt := 56) hc dX11_laysBest_156 (by decide) ?_
                refine R_sub hc [2, 3, 0] rfl ?_
                exact hX (l2_38 + (1 : Int32), h39) (wpO_some hw :)
    · refine R_if_ne (tgt := 35) hc dX11_laysBest_28 (by decide) hw (fun hw => ?_) (fun hw => ?_)
      · refine R_lconst (v := (0 : Int64)) hc dX11_laysBest_35 kL_0 ?_
        refine R_sub hc [0] rfl ?_
        exact (wpO_some hw :)
      · refine R_lconst (v := (1 : Int64)) hc dX11_laysBest_31 kL_1 ?_
        refine R_goto (tgt := 36) hc dX11_laysBest_32 (by decide) ?_
        refine R_sub hc [0] rfl ?_
        exact (wpO_some hw :)
  · refine R_if_ne (tgt := 17) hc dX11_laysBest_10 (by decide) hw (fun hw => ?_) (fun hw => ?_)
    · refine R_sipush (v := (1000 : Int32)) hc dX11_laysBest_17 kS_1000 ?_
      refine R_sub hc [0] rfl ?_
      exact (wpO_some hw :)
    · refine R_iconst (v := (0 : Int32)) hc dX11_laysBest_13 kI_0 ?_
      refine R_goto (tgt := 20) hc dX11_laysBest_14 (by decide) ?_
      refine R_sub hc [0] rfl ?_
      exact (wpO_some hw :)
theorem dX11_laysAheadOf_0 : decode cX11_laysAheadOf 0 = .ok (.iload_n 1, 1) := by decide +kernel
theorem dX11_laysAheadOf_1 : decode cX11_laysAheadOf 1 = .ok (.iload_n 2, 1) := by decide +kernel
theorem dX11_laysAheadOf_2 : decode cX11_laysAheadOf 2 = .ok (.iload_n 3, 1) := by decide +kernel
theorem dX11_laysAheadOf_3 : decode cX11_laysAheadOf 3 = .ok (.invokestatic 123, 3) := by decide +kernel
theorem dX11_laysAheadOf_6 : decode cX11_laysAheadOf 6 = .ok (.istore 4, 2) := by decide +kernel
theorem dX11_laysAheadOf_8 : decode cX11_laysAheadOf 8 = .ok (.aload_n 0, 1) := by decide +kernel
theorem dX11_laysAheadOf_9 : decode cX11_laysAheadOf 9 = .ok (.getfield 39, 3) := by decide +kernel
theorem dX11_laysAheadOf_12 : decode cX11_laysAheadOf 12 = .ok (.iload 4, 2) := by decide +kernel
theorem dX11_laysAheadOf_14 : decode cX11_laysAheadOf 14 = .ok (.iload_n 1, 1) := by decide +kernel
theorem dX11_laysAheadOf_15 : decode cX11_laysAheadOf 15 = .ok (.iconst 1, 1) := by decide +kernel
theorem dX11_laysAheadOf_16 : decode cX11_laysAheadOf 16 = .ok (.iload_n 2, 1) := by decide +kernel
theorem dX11_laysAheadOf_17 : decode cX11_laysAheadOf 17 = .ok (.ishl, 1) := by decide +kernel
theorem dX11_laysAheadOf_18 : decode cX11_laysAheadOf 18 = .ok (.if_icmp .ne 7, 3) := by decide +kernel
theorem dX11_laysAheadOf_21 : decode cX11_laysAheadOf 21 = .ok (.iconst 0, 1) := by decide +kernel
theorem dX11_laysAheadOf_22 : decode cX11_laysAheadOf 22 = .ok (.goto 6, 3) := by decide +kernel
theorem dX11_laysAheadOf_25 : decode cX11_laysAheadOf 25 = .ok (.sipush 1000, 3) := by decide +kernel
theorem dX11_laysAheadOf_28 : decode cX11_laysAheadOf 28 = .ok (.iastore, 1) := by decide +kernel
theorem dX11_laysAheadOf_29 : decode cX11_laysAheadOf 29 = .ok (.aload_n 0, 1) := by decide +kernel
theorem dX11_laysAheadOf_30 : decode cX11_laysAheadOf 30 = .ok (.getfield 42, 3) := by decide +kernel
theorem dX11_laysAheadOf_33 : decode cX11_laysAheadOf 33 = .ok (.iload 4, 2) := by decide +kernel
theorem dX11_laysAheadOf_35 : decode cX11_laysAheadOf 35 = .ok (.iload_n 1, 1) := by decide +kernel
theorem dX11_laysAheadOf_36 : decode cX11_laysAheadOf 36 = .ok (.iconst 1, 1) := by decide +kernel
theorem dX11_laysAheadOf_37 : decode cX11_laysAheadOf 37 = .ok (.iload_n 2, 1) := by decide +kernel
theorem dX11_laysAheadOf_38 : decode cX11_laysAheadOf 38 = .ok (.ishl, 1) := by decide +kernel
theorem dX11_laysAheadOf_39 : decode cX11_laysAheadOf 39 = .ok (.if_icmp .ne 7, 3) := by decide +kernel
theorem dX11_laysAheadOf_42 : decode cX11_laysAheadOf 42 = .ok (.lconst 1, 1) := by decide +kernel
theorem dX11_laysAheadOf_43 : decode cX11_laysAheadOf 43 = .ok (.goto 4, 3) := by decide +kernel
theorem dX11_laysAheadOf_46 : decode cX11_laysAheadOf 46 = .ok (.lconst 0, 1) := by decide +kernel
theorem dX11_laysAheadOf_47 : decode cX11_laysAheadOf 47 = .ok (.lastore, 1) := by decide +kernel
theorem dX11_laysAheadOf_48 : decode cX11_laysAheadOf 48 = .ok (.iload_n 1, 1) := by decide +kernel
theorem dX11_laysAheadOf_49 : decode cX11_laysAheadOf 49 = .ok (.iconst 1, 1) := by decide +kernel
theorem dX11_laysAheadOf_50 : decode cX11_laysAheadOf 50 = .ok (.iload_n 2, 1) := by decide +kernel
theorem dX11_laysAheadOf_51 : decode cX11_laysAheadOf 51 = .ok (.ishl, 1) := by decide +kernel
theorem dX11_laysAheadOf_52 : decode cX11_laysAheadOf 52 = .ok (.iconst (-1), 1) := by decide +kernel
theorem dX11_laysAheadOf_53 : decode cX11_laysAheadOf 53 = .ok (.ixor, 1) := by decide +kernel
theorem dX11_laysAheadOf_54 : decode cX11_laysAheadOf 54 = .ok (.iand, 1) := by decide +kernel
theorem dX11_laysAheadOf_55 : decode cX11_laysAheadOf 55 = .ok (.istore 5, 2) := by decide +kernel
theorem dX11_laysAheadOf_57 : decode cX11_laysAheadOf 57 = .ok (.iconst 0, 1) := by decide +kernel
theorem dX11_laysAheadOf_58 : decode cX11_laysAheadOf 58 = .ok (.istore 6, 2) := by decide +kernel
theorem dX11_laysAheadOf_60 : decode cX11_laysAheadOf 60 = .ok (.iload 6, 2) := by decide +kernel
theorem dX11_laysAheadOf_62 : decode cX11_laysAheadOf 62 = .ok (.aload_n 0, 1) := by decide +kernel
theorem dX11_laysAheadOf_63 : decode cX11_laysAheadOf 63 = .ok (.invokevirtual 103, 3) := by decide +kernel
theorem dX11_laysAheadOf_66 : decode cX11_laysAheadOf 66 = .ok (.if_icmp .ge 137, 3) := by decide +kernel
theorem dX11_laysAheadOf_69 : decode cX11_laysAheadOf 69 = .ok (.iload 5, 2) := by decide +kernel
theorem dX11_laysAheadOf_71 : decode cX11_laysAheadOf 71 = .ok (.iload 6, 2) := by decide +kernel
theorem dX11_laysAheadOf_73 : decode cX11_laysAheadOf 73 = .ok (.ishr, 1) := by decide +kernel
theorem dX11_laysAheadOf_74 : decode cX11_laysAheadOf 74 = .ok (.iconst 1, 1) := by decide +kernel
theorem dX11_laysAheadOf_75 : decode cX11_laysAheadOf 75 = .ok (.iand, 1) := by decide +kernel
theorem dX11_laysAheadOf_76 : decode cX11_laysAheadOf 76 = .ok (.ifCond .ne 6, 3) := by decide +kernel
theorem dX11_laysAheadOf_79 : decode cX11_laysAheadOf 79 = .ok (.goto 118, 3) := by decide +kernel
theorem dX11_laysAheadOf_82 : decode cX11_laysAheadOf 82 = .ok (.iconst 0, 1) := by decide +kernel
theorem dX11_laysAheadOf_83 : decode cX11_laysAheadOf 83 = .ok (.istore 7, 2) := by decide +kernel
theorem dX11_laysAheadOf_85 : decode cX11_laysAheadOf 85 = .ok (.iload 7, 2) := by decide +kernel
theorem dX11_laysAheadOf_87 : decode cX11_laysAheadOf 87 = .ok (.iconst 4, 1) := by decide +kernel
theorem dX11_laysAheadOf_88 : decode cX11_laysAheadOf 88 = .ok (.if_icmp .ge 109, 3) := by decide +kernel
theorem dX11_laysAheadOf_91 : decode cX11_laysAheadOf 91 = .ok (.iload 5, 2) := by decide +kernel
theorem dX11_laysAheadOf_93 : decode cX11_laysAheadOf 93 = .ok (.iload 6, 2) := by decide +kernel
theorem dX11_laysAheadOf_95 : decode cX11_laysAheadOf 95 = .ok (.iload 7, 2) := by decide +kernel
theorem dX11_laysAheadOf_97 : decode cX11_laysAheadOf 97 = .ok (.invokestatic 123, 3) := by decide +kernel
theorem dX11_laysAheadOf_100 : decode cX11_laysAheadOf 100 = .ok (.istore 8, 2) := by decide +kernel
theorem dX11_laysAheadOf_102 : decode cX11_laysAheadOf 102 = .ok (.aload_n 0, 1) := by decide +kernel
theorem dX11_laysAheadOf_103 : decode cX11_laysAheadOf 103 = .ok (.getfield 39, 3) := by decide +kernel
theorem dX11_laysAheadOf_106 : decode cX11_laysAheadOf 106 = .ok (.iload 8, 2) := by decide +kernel
theorem dX11_laysAheadOf_108 : decode cX11_laysAheadOf 108 = .ok (.iaload, 1) := by decide +kernel
theorem dX11_laysAheadOf_109 : decode cX11_laysAheadOf 109 = .ok (.aload_n 0, 1) := by decide +kernel
theorem dX11_laysAheadOf_110 : decode cX11_laysAheadOf 110 = .ok (.iload 6, 2) := by decide +kernel
theorem dX11_laysAheadOf_112 : decode cX11_laysAheadOf 112 = .ok (.iload 7, 2) := by decide +kernel
theorem dX11_laysAheadOf_114 : decode cX11_laysAheadOf 114 = .ok (.iload_n 2, 1) := by decide +kernel
theorem dX11_laysAheadOf_115 : decode cX11_laysAheadOf 115 = .ok (.iload_n 3, 1) := by decide +kernel
theorem dX11_laysAheadOf_116 : decode cX11_laysAheadOf 116 = .ok (.invokevirtual 127, 3) := by decide +kernel
theorem dX11_laysAheadOf_119 : decode cX11_laysAheadOf 119 = .ok (.ifCond .le 7, 3) := by decide +kernel
theorem dX11_laysAheadOf_122 : decode cX11_laysAheadOf 122 = .ok (.iconst 1, 1) := by decide +kernel
theorem dX11_laysAheadOf_123 : decode cX11_laysAheadOf 123 = .ok (.goto 4, 3) := by decide +kernel
theorem dX11_laysAheadOf_126 : decode cX11_laysAheadOf 126 = .ok (.iconst 0, 1) := by decide +kernel
theorem dX11_laysAheadOf_127 : decode cX11_laysAheadOf 127 = .ok (.iadd, 1) := by decide +kernel
theorem dX11_laysAheadOf_128 : decode cX11_laysAheadOf 128 = .ok (.istore 9, 2) := by decide +kernel
theorem dX11_laysAheadOf_130 : decode cX11_laysAheadOf 130 = .ok (.iload 9, 2) := by decide +kernel
theorem dX11_laysAheadOf_132 : decode cX11_laysAheadOf 132 = .ok (.aload_n 0, 1) := by decide +kernel
theorem dX11_laysAheadOf_133 : decode cX11_laysAheadOf 133 = .ok (.getfield 39, 3) := by decide +kernel
theorem dX11_laysAheadOf_136 : decode cX11_laysAheadOf 136 = .ok (.iload 4, 2) := by decide +kernel
theorem dX11_laysAheadOf_138 : decode cX11_laysAheadOf 138 = .ok (.iaload, 1) := by decide +kernel
theorem dX11_laysAheadOf_139 : decode cX11_laysAheadOf 139 = .ok (.if_icmp .le 6, 3) := by decide +kernel
theorem dX11_laysAheadOf_142 : decode cX11_laysAheadOf 142 = .ok (.goto 49, 3) := by decide +kernel
theorem dX11_laysAheadOf_145 : decode cX11_laysAheadOf 145 = .ok (.iload 9, 2) := by decide +kernel
theorem dX11_laysAheadOf_147 : decode cX11_laysAheadOf 147 = .ok (.aload_n 0, 1) := by decide +kernel
theorem dX11_laysAheadOf_148 : decode cX11_laysAheadOf 148 = .ok (.getfield 39, 3) := by decide +kernel
theorem dX11_laysAheadOf_151 : decode cX11_laysAheadOf 151 = .ok (.iload 4, 2) := by decide +kernel
theorem dX11_laysAheadOf_153 : decode cX11_laysAheadOf 153 = .ok (.iaload, 1) := by decide +kernel
theorem dX11_laysAheadOf_154 : decode cX11_laysAheadOf 154 = .ok (.if_icmp .ge 20, 3) := by decide +kernel
theorem dX11_laysAheadOf_157 : decode cX11_laysAheadOf 157 = .ok (.aload_n 0, 1) := by decide +kernel
theorem dX11_laysAheadOf_158 : decode cX11_laysAheadOf 158 = .ok (.getfield 39, 3) := by decide +kernel
theorem dX11_laysAheadOf_161 : decode cX11_laysAheadOf 161 = .ok (.iload 4, 2) := by decide +kernel
theorem dX11_laysAheadOf_163 : decode cX11_laysAheadOf 163 = .ok (.iload 9, 2) := by decide +kernel
theorem dX11_laysAheadOf_165 : decode cX11_laysAheadOf 165 = .ok (.iastore, 1) := by decide +kernel
theorem dX11_laysAheadOf_166 : decode cX11_laysAheadOf 166 = .ok (.aload_n 0, 1) := by decide +kernel
theorem dX11_laysAheadOf_167 : decode cX11_laysAheadOf 167 = .ok (.getfield 42, 3) := by decide +kernel
theorem dX11_laysAheadOf_170 : decode cX11_laysAheadOf 170 = .ok (.iload 4, 2) := by decide +kernel
theorem dX11_laysAheadOf_172 : decode cX11_laysAheadOf 172 = .ok (.lconst 0, 1) := by decide +kernel
theorem dX11_laysAheadOf_173 : decode cX11_laysAheadOf 173 = .ok (.lastore, 1) := by decide +kernel
theorem dX11_laysAheadOf_174 : decode cX11_laysAheadOf 174 = .ok (.aload_n 0, 1) := by decide +kernel
theorem dX11_laysAheadOf_175 : decode cX11_laysAheadOf 175 = .ok (.getfield 42, 3) := by decide +kernel
theorem dX11_laysAheadOf_178 : decode cX11_laysAheadOf 178 = .ok (.iload 4, 2) := by decide +kernel
theorem dX11_laysAheadOf_180 : decode cX11_laysAheadOf 180 = .ok (.dup2, 1) := by decide +kernel
theorem dX11_laysAheadOf_181 : decode cX11_laysAheadOf 181 = .ok (.laload, 1) := by decide +kernel
theorem dX11_laysAheadOf_182 : decode cX11_laysAheadOf 182 = .ok (.aload_n 0, 1) := by decide +kernel
theorem dX11_laysAheadOf_183 : decode cX11_laysAheadOf 183 = .ok (.getfield 42, 3) := by decide +kernel
theorem dX11_laysAheadOf_186 : decode cX11_laysAheadOf 186 = .ok (.iload 8, 2) := by decide +kernel
theorem dX11_laysAheadOf_188 : decode cX11_laysAheadOf 188 = .ok (.laload, 1) := by decide +kernel
theorem dX11_laysAheadOf_189 : decode cX11_laysAheadOf 189 = .ok (.ladd, 1) := by decide +kernel
theorem dX11_laysAheadOf_190 : decode cX11_laysAheadOf 190 = .ok (.lastore, 1) := by decide +kernel
theorem dX11_laysAheadOf_191 : decode cX11_laysAheadOf 191 = .ok (.iinc 7 1, 3) := by decide +kernel
theorem dX11_laysAheadOf_194 : decode cX11_laysAheadOf 194 = .ok (.goto (-109), 3) := by decide +kernel
theorem dX11_laysAheadOf_197 : decode cX11_laysAheadOf 197 = .ok (.iinc 6 1, 3) := by decide +kernel
theorem dX11_laysAheadOf_200 : decode cX11_laysAheadOf 200 = .ok (.goto (-140), 3) := by decide +kernel
theorem dX11_laysAheadOf_203 : decode cX11_laysAheadOf 203 = .ok (.return_, 1) := by decide +kernel
def sX11_laysAheadOf_L85 (F : Nat) (l0 : Nat) (l2 : Int32) (l3 : Int32) (l4 : Int32) (l5 : Int32) (l6 : Int32) (l7 : Int32) (h : HP) : Option ((Int32 × HP) ⊕ HP) :=
  if (4 : Int32) ≤ l7 then
    some (.inr h)
  else
    (sX11_state F l5 l6 l7 h).bind fun t11 =>
    (gR h 11 (some l0) 15).bind fun t12 =>
    (aI h 13 t12 t11).bind fun t13 =>
    (dO h 11 (some l0)).bind fun a14 =>
    (sX11_lacks F a14 l6 l7 l2 l3 h).bind fun t15 =>
    (if t15 ≤ 0 then
        some (0 : Int32)
      else
        some (1 : Int32)).bind fun s16 =>
    nmI (t13 + s16) fun l9_17 =>
    (gR h 11 (some l0) 15).bind fun t18 =>
    (aI h 13 t18 l4).bind fun t19 =>
    if l9_17 ≤ t19 then
      (gR h 11 (some l0) 15).bind fun t20 =>
      (aI h 13 t20 l4).bind fun t21 =>
      (if t21 ≤ l9_17 then
          some h
        else
          (gR h 11 (some l0) 15).bind fun t23 =>
          (sI h t23 l4 l9_17).bind fun h24 =>
          (gR h24 11 (some l0) 16).bind fun t25 =>
          (sJ h24 t25 l4 (0 : Int64)).bind fun h26 =>
          some h26).bind fun h22 =>
      (gR h22 11 (some l0) 16).bind fun t27 =>
      (aJ h22 t27 l4).bind fun t28 =>
      (gR h22 11 (some l0) 16).bind fun t29 =>
      (aJ h22 t29 t11).bind fun t30 =>
      (sJ h22 t27 l4 (t28 + t30)).bind fun h31 =>
      some (.inl (l7 + (1 : Int32), h31))
    else
      some (.inl (l7 + (1 : Int32), h))
def sX11_laysAheadOf_L60 (F : Nat) (l0 : Nat) (l2 : Int32) (l3 : Int32) (l4 : Int32) (l5 : Int32) (l6 : Int32) (h : HP) : Option ((Int32 × HP) ⊕ HP) :=
  (dO h 11 (some l0)).bind fun a9 =>
  (sX11_fingers F a9 h).bind fun t10 =>
  if t10 ≤ l6 then
    some (.inr h)
  else
    if ¬ ((jshr l5 l6) &&& (1 : Int32)) = 0 then
      (iter (fun s => sX11_laysAheadOf_L85 F l0 l2 l3 l4 l5 l6 s.1 s.2) F ((0 : Int32), h)).bind fun h32 =>
        some (.inl (l6 + (1 : Int32), h32))
    else
      some (.inl (l6 + (1 : Int32), h))
def sX11_laysAheadOf (F : Nat) (l0 : Nat) (l1 : Int32) (l2 : Int32) (l3 : Int32) (h : HP) : Option HP :=
  (sX11_state F l1 l2 l3 h).bind fun t1 =>
  (gR h 11 (some l0) 15).bind fun t2 =>
  (if ¬ l1 = (jshl (1 : Int32) l2) then
      some (1000 : Int32)
    else
      some (0 : Int32)).bind fun s3 =>
  (sI h t2 t1 s3).bind fun h4 =>
  (gR h4 11 (some l0) 16).bind fun t5 =>
  (if ¬ l1 = (jshl (1 : Int32) l2) then
      some (0 : Int64)
    else
      some (1 : Int64)).bind fun s6 =>
  (sJ h4 t5 t1 s6).bind fun h7 =>
  nmI (l1 &&& ((jshl (1 : Int32) l2) ^^^ (-1 : Int32))) fun l5_8 =>
  (iter (fun s => sX11_laysAheadOf_L60 F l0 l2 l3 t1 l5_8 s.1 s.2) F ((0 : Int32), h7)).bind fun h36 =>
    some h36
abbrev rm_X11_laysAheadOf : Room := { frames := 4, cells := 0, slots := 0, locals := 96 }
set_option maxRecDepth 100000 in
set_option maxHeartbeats 4000000 in
theorem mt_X11_laysAheadOf {w : WD} {l : Launch} {F : Nat} {l0 : Nat} {l1 : Int32} {l2 : Int32} {l3 : Int32} {h : HP} {h' : HP} (hs : sX11_laysAheadOf F l0 l1 l2 l3 h = some h') : MV w l yX11_laysAheadOf cX11_laysAheadOf 10 rm_X11_laysAheadOf 0 0 [rf w (some l0), .int l1, .int l2, .int l3] h h' := by
  refine of_body [(0, rf w (some l0)), (1, .int l1), (2, .int l2), (3, .int l3)] (by decide) (by simp [lg_sl, rf_cat, cat_i, cat_l, cat_a]) (by simp [lv_args, rf_cat, cat_i, cat_l, cat_a]) ?_
  intro x hw_ hnL_ hl_ hc hret hnm hQ
  subst hw_; subst hl_
  have hnl : ∀ i, i < 10 → i < x.nL := fun i h => by rw [hnL_]; exact h
  have hw : wpO (sX11_laysAheadOf F l0 l1 l2 l3 h) (fun r => r = h') := ⟨_, hs, rfl⟩
  unfold sX11_laysAheadOf at hw
  refine R_iload_n (q := 1) (i := 1) (v := l1) hc dX11_laysAheadOf_0 rfl rfl ?_
  refine R_iload_n (q := 2) (i := 2) (v := l2) hc dX11_laysAheadOf_1 rfl rfl ?_
  refine R_iload_n (q := 3) (i := 3) (v := l3) hc dX11_laysAheadOf_2 rfl rfl ?_
  refine R_cSI (As := [.int l1, .int l2, .int l3]) (rest := []) hc ml_11_123 mf_X11_state ⟨rfl, rfl⟩ ⟨le_b rfl, le_b rfl⟩ ⟨Nat.zero_le _, Nat.zero_le _⟩ (fun v e => mt_X11_state e) rfl rfl (Nat.zero_le _) dX11_laysAheadOf_3 hw (fun t1 hw => ?_)
  refine R_istore (i := 4) (v := t1) hc [(4, .int t1), (0, rf x.w (some l0)), (1, .int l1), (2, .int l2), (3, .int l3)] dX11_laysAheadOf_6 (hnl 4 (le_b rfl)) rfl ?_
  refine R_aload_n (q := 1) (i := 0) (v := (some l0)) hc dX11_laysAheadOf_8 rfl rfl ?_
  refine R_getR hc fl_11_39 dX11_laysAheadOf_9 hw (fun t2 hw => ?_)
  refine R_iload (q := 0) (i := 4) (v := t1) hc dX11_laysAheadOf_12 rfl ?_
  refine R_iload_n (q := 2) (i := 1) (v := l1) hc dX11_laysAheadOf_14 rfl rfl ?_
  refine R_iconst (v := (1 : Int32)) hc dX11_laysAheadOf_15 kI_1 ?_
  refine R_iload_n (q := 3) (i := 2) (v := l2) hc dX11_laysAheadOf_16 rfl rfl ?_
  refine R_ishl hc dX11_laysAheadOf_17 ?_
  refine R_join (fun (s3 : Int32) => Rn x 0 0 28 [(0, rf x.w (some l0)), (1, .int l1), (2, .int l2), (3, .int l3), (4, .int t1)] [.int s3, .int t1, rf x.w t2] h) hw (fun r hw => ?_) (fun hw => ?_)
  · revert r hw
    intro s3 hw
    show Rn x 0 0 28 [(0, rf x.w (some l0)), (1, .int l1), (2, .int l2), (3, .int l3), (4, .int t1)] [.int s3, .int t1, rf x.w t2] h
    refine R_iastore hc dX11_laysAheadOf_28 hw (fun h4 hw => ?_)
    refine R_aload_n (q := 0) (i := 0) (v := (some l0)) hc dX11_laysAheadOf_29 rfl rfl ?_
    refine R_getR hc fl_11_42 dX11_laysAheadOf_30 hw (fun t5 hw => ?_)
    refine R_iload (q := 4) (i := 4) (v := t1) hc dX11_laysAheadOf_33 rfl ?_
    refine R_iload_n (q := 1) (i := 1) (v := l1) hc dX11_laysAheadOf_35 rfl rfl ?_
    refine R_iconst (v := (1 : Int32)) hc dX11_laysAheadOf_36 kI_1 ?_
    refine R_iload_n (q := 2) (i := 2) (v := l2) hc dX11_laysAheadOf_37 rfl rfl ?_
    refine R_ishl hc dX11_laysAheadOf_38 ?_
    refine R_join (fun (s6 : Int64) => Rn x 0 0 47 [(0, rf x.w (some l0)), (1, .int l1), (2, .int l2), (3, .int l3), (4, .int t1)] [.long s6, .int t1, rf x.w t5] h4) hw (fun r hw => ?_) (fun hw => ?_)
    · revert r hw
      intro s6 hw
      show Rn x 0 0 47 [(0, rf x.w (some l0)), (1, .int l1), (2, .int l2), (3, .int l3), (4, .int t1)] [.long s6, .int t1, rf x.w t5] h4
      refine R_lastore hc dX11_laysAheadOf_47 hw (fun h7 hw => ?_)
      refine R_iload_n (q := 1) (i := 1) (v := l1) hc dX11_laysAheadOf_48 rfl rfl ?_
      refine R_iconst (v := (1 : Int32)) hc dX11_laysAheadOf_49 kI_1 ?_
      refine R_iload_n (q := 2) (i := 2) (v := l2) hc dX11_laysAheadOf_50 rfl rfl ?_
      refine R_ishl hc dX11_laysAheadOf_51 ?_
      refine R_iconst (v := (-1 : Int32)) hc dX11_laysAheadOf_52 kI_m1 ?_
      refine R_ixor hc dX11_laysAheadOf_53 ?_
      refine R_iand hc dX11_laysAheadOf_54 ?_
      refine R_nmI hw (fun l5_8 hw => ?_)
      refine R_istore (i := 5) (v := l5_8) hc [(5, .int l5_8), (0, rf x.w (some l0)), (1, .int l1), (2, .int l2), (3, .int l3), (4, .int t1)] dX11_laysAheadOf_55 (hnl 5 (le_b rfl)) rfl ?_
      refine R_iconst (v := (0 : Int32)) hc dX11_laysAheadOf_57 kI_0 ?_
      refine R_istore (i := 6) (v := (0 : Int32)) hc [(6, .int (0 : Int32)), (5, .int l5_8), (0, rf x.w (some l0)), (1, .int l1), (2, .int l2), (3, .int l3), (4, .int t1)] dX11_laysAheadOf_58 (hnl 6 (le_b rfl)) rfl ?_
      refine R_sub hc [2, 4, 5, 6, 1, 0] rfl ?_
      refine R_loop (P := fun (s : (Int32 × HP)) => Rn x 0 0 60 [(0, rf x.w (some l0)), (2, .int l2), (3, .int l3), (4, .int t1), (5, .int l5_8), (6, .int s.1)] [] s.2) (fun h36 => Rn x 0 0 203 [] [] h36) hw (fun r hw => ?_) (fun X hX s hw => ?_)
      · revert r hw
        intro h36 hw
        show Rn x 0 0 203 [] [] h36
        exact R_return hc hret hQ hw dX11_laysAheadOf_203
      · obtain ⟨l6_38, h39⟩ := s
        show Rn x 0 0 60 [(0, rf x.w (some l0)), (2, .int l2), (3, .int l3), (4, .int t1), (5, .int l5_8), (6, .int l6_38)] [] h39
        have hw : wpO (sX11_laysAheadOf_L60 F l0 l2 l3 t1 l5_8 l6_38 h39) _ := hw
        unfold sX11_laysAheadOf_L60 at hw
        refine R_iload (q := 5) (i := 6) (v := l6_38) hc dX11_laysAheadOf_60 rfl ?_
        refine R_aload_n (q := 0) (i := 0) (v := (some l0)) hc dX11_laysAheadOf_62 rfl rfl ?_
        refine R_cVI (As := []) (rest := [.int l6_38]) (r := (some l0)) (ci := 11) hc ml_11_103 mf_X11_fingers rfl (by decide) ⟨rfl, rfl⟩ ⟨le_b rfl, le_b rfl⟩ ⟨Nat.zero_le _, Nat.zero_le _⟩ (fun a v e => mt_X11_fingers e) rfl rfl (le_b rfl) dX11_laysAheadOf_63 hw (fun t10 hw => ?_)
        refine R_icmp_ge (tgt := 203) hc dX11_laysAheadOf_66 (by decide) hw (fun hw => ?_) (fun hw => ?_)
        · refine R_sub hc [] rfl ?_
          exact (wpO_some hw :)
        · refine R_iload (q := 4) (i := 5) (v := l5_8) hc dX11_laysAheadOf_69 rfl ?_
          refine R_iload (q := 5) (i := 6) (v := l6_38) hc dX11_laysAheadOf_71 rfl ?_
          refine R_ishr hc dX11_laysAheadOf_73 ?_
          refine R_iconst (v := (1 : Int32)) hc dX11_laysAheadOf_74 kI_1 ?_
          refine R_iand hc dX11_laysAheadOf_75 ?_
          refine R_if_ne (tgt := 82) hc dX11_laysAheadOf_76 (by decide) hw (fun hw => ?_) (fun hw => ?_)
          · refine R_iconst (v := (0 : Int32)) hc dX11_laysAheadOf_82 kI_0 ?_
            refine R_istore (i := 7) (v := (0 : Int32)) hc [(7, .int (0 : Int32)), (0, rf x.w (some l0)), (2, .int l2), (3, .int l3), (4, .int t1), (5, .int l5_8), (6, .int l6_38)] dX11_laysAheadOf_83 (hnl 7 (le_b rfl)) rfl ?_
            refine R_sub hc [1, 2, 3, 4, 5, 6, 0] rfl ?_
            refine R_loop (P := fun (s : (Int32 × HP)) => Rn x 0 0 85 [(0, rf x.w (some l0)), (2, .int l2), (3, .int l3), (4, .int t1), (5, .int l5_8), (6, .int l6_38), (7, .int s.1)] [] s.2) (fun h32 => Rn x 0 0 197 [(0, rf x.w (some l0)), (2, .int l2), (3, .int l3), (4, .int t1), (5, .int l5_8), (6, .int l6_38)] [] h32) hw (fun r hw => ?_) (fun X hX s hw => ?_)
            · revert r hw
              intro h32 hw
              show Rn x 0 0 197 [(0, rf x.w (some l0)), (2, .int l2), (3, .int l3), (4, .int t1), (5, .int l5_8), (6, .int l6_38)] [] h32
              refine R_iinc (q := 5) (i := 6) (v := l6_38) hc [(6, .int (l6_38 + (1 : Int32))), (0, rf x.w (some l0)), (2, .int l2), (3, .int l3), (4, .int t1), (5, .int l5_8)] dX11_laysAheadOf_197 rfl (kC_1 _) (hnl 6 (le_b rfl)) rfl ?_
              refine R_goto (tgt := 60) hc dX11_laysAheadOf_200 (by decide) ?_
              refine R_sub hc [1, 2, 3, 4, 5, 0] rfl ?_
              exact hX (l6_38 + (1 : Int32), h32) (wpO_some hw :)
            · obtain ⟨l7_34, h35⟩ := s
              show Rn x 0 0 85 [(0, rf x.w (some l0)), (2, .int l2), (3, .int l3), (4, .int t1), (5, .int l5_8), (6, .int l6_38), (7, .int l7_34)] [] h35
              have hw : wpO (sX11_laysAheadOf_L85 F l0 l2 l3 t1 l5_8 l6_38 l7_34 h35) _ := hw
              unfold sX11_laysAheadOf_L85 at hw
              refine R_iload (q := 6) (i := 7) (v := l7_34) hc dX11_laysAheadOf_85 rfl ?_
              refine R_iconst (v := (4 : Int32)) hc dX11_laysAheadOf_87 kI_4 ?_
              refine R_icmp_ge (tgt := 197) hc dX11_laysAheadOf_88 (by decide) hw (fun hw => ?_) (fun hw => ?_)
              · refine R_sub hc [0, 1, 2, 3, 4, 5] rfl ?_
                exact (wpO_some hw :)
              · refine R_iload (q := 4) (i := 5) (v := l5_8) hc dX11_laysAheadOf_91 rfl ?_
                refine R_iload (q := 5) (i := 6) (v := l6_38) hc dX11_laysAheadOf_93 rfl ?_
                refine R_iload (q := 6) (i := 7) (v := l7_34) hc dX11_laysAheadOf_95 rfl ?_
                refine R_cSI (As := [.int l5_8, .int l6_38, .int l7_34]) (rest := []) hc ml_11_123 mf_X11_state ⟨rfl, rfl⟩ ⟨le_b rfl, le_b rfl⟩ ⟨Nat.zero_le _, Nat.zero_le _⟩ (fun v e => mt_X11_state e) rfl rfl (Nat.zero_le _) dX11_laysAheadOf_97 hw (fun t11 hw => ?_)
                refine R_istore (i := 8) (v := t11) hc [(8, .int t11), (0, rf x.w (some l0)), (2, .int l2), (3, .int l3), (4, .int t1), (5, .int l5_8), (6, .int l6_38), (7, .int l7_34)] dX11_laysAheadOf_100 (hnl 8 (le_b rfl)) rfl ?_
                refine R_aload_n (q := 1) (i := 0) (v := (some l0)) hc dX11_laysAheadOf_102 rfl rfl ?_
                refine R_getR hc fl_11_39 dX11_laysAheadOf_103 hw (fun t12 hw => ?_)
                refine R_iload (q := 0) (i := 8) (v := t11) hc dX11_laysAheadOf_106 rfl ?_
                refine R_iaload hc dX11_laysAheadOf_108 hw (fun t13 hw => ?_)
                refine R_aload_n (q := 1) (i := 0) (v := (some l0)) hc dX11_laysAheadOf_109 rfl rfl ?_
                refine R_iload (q := 6) (i := 6) (v := l6_38) hc dX11_laysAheadOf_110 rfl ?_
                refine R_iload (q := 7) (i := 7) (v := l7_34) hc dX11_laysAheadOf_112 rfl ?_
                refine R_iload_n (q := 2) (i := 2) (v := l2) hc dX11_laysAheadOf_114 rfl rfl ?_
                refine R_iload_n (q := 3) (i := 3) (v := l3) hc dX11_laysAheadOf_115 rfl rfl ?_
                refine R_cVI (As := [.int l6_38, .int l7_34, .int l2, .int l3]) (rest := [.int t13]) (r := (some l0)) (ci := 11) hc ml_11_127 mf_X11_lacks rfl (by decide) ⟨rfl, rfl⟩ ⟨le_b rfl, le_b rfl⟩ ⟨Nat.zero_le _, Nat.zero_le _⟩ (fun a v e => mt_X11_lacks e) rfl rfl (le_b rfl) dX11_laysAheadOf_116 hw (fun t15 hw => ?_)
                refine R_join (fun (s16 : Int32) => Rn x 0 0 127 [(0, rf x.w (some l0)), (2, .int l2), (3, .int l3), (4, .int t1), (5, .int l5_8), (6, .int l6_38), (7, .int l7_34), (8, .int t11)] [.int s16, .int t13] h35) hw (fun r hw => ?_) (fun hw => ?_)
                · revert r hw
                  intro s16 hw
                  show Rn x 0 0 127 [(0, rf x.w (some l0)), (2, .int l2), (3, .int l3), (4, .int t1), (5, .int l5_8), (6, .int l6_38), (7, .int l7_34), (8, .int t11)] [.int s16, .int t13] h35
                  refine R_iadd hc dX11_laysAheadOf_127 ?_
                  refine R_nmI hw (fun l9_17 hw => ?_)
                  refine R_istore (i := 9) (v := l9_17) hc [(9, .int l9_17), (0, rf x.w (some l0)), (2, .int l2), (3, .int l3), (4, .int t1), (5, .int l5_8), (6, .int l6_38), (7, .int l7_34), (8, .int t11)] dX11_laysAheadOf_128 (hnl 9 (le_b rfl)) rfl ?_
                  refine R_iload (q := 0) (i := 9) (v := l9_17) hc dX11_laysAheadOf_130 rfl ?_
                  refine R_aload_n (q := 1) (i := 0) (v := (some l0)) hc dX11_laysAheadOf_132 rfl rfl ?_
                  refine R_getR hc fl_11_39 dX11_laysAheadOf_133 hw (fun t18 hw => ?_)
                  refine R_iload (q := 4) (i := 4) (v := t1) hc dX11_laysAheadOf_136 rfl ?_
                  refine R_iaload hc dX11_laysAheadOf_138 hw (fun t19 hw => ?_)
                  refine R_icmp_le (tgt := 145) hc dX11_laysAheadOf_139 (by decide) hw (fun hw => ?_) (fun hw => ?_)
                  · refine R_iload (q := 0) (i := 9) (v := l9_17) hc dX11_laysAheadOf_145 rfl ?_
                    refine R_aload_n (q := 1) (i := 0) (v := (some l0)) hc dX11_laysAheadOf_147 rfl rfl ?_
                    refine R_getR hc fl_11_39 dX11_laysAheadOf_148 hw (fun t20 hw => ?_)
                    refine R_iload (q := 4) (i := 4) (v := t1) hc dX11_laysAheadOf_151 rfl ?_
                    refine R_iaload hc dX11_laysAheadOf_153 hw (fun t21 hw => ?_)
                    refine R_join (fun (h22 : HP) => Rn x 0 0 174 [(0, rf x.w (some l0)), (2, .int l2), (3, .int l3), (4, .int t1), (5, .int l5_8), (6, .int l6_38), (7, .int l7_34), (8, .int t11)] [] h22) hw (fun r hw => ?_) (fun hw => ?_)
                    · revert r hw
                      intro h22 hw
                      show Rn x 0 0 174 [(0, rf x.w (some l0)), (2, .int l2), (3, .int l3), (4, .int t1), (5, .int l5_8), (6, .int l6_38), (7, .int l7_34), (8, .int t11)] [] h22
                      refine R_aload_n (q := 0) (i := 0) (v := (some l0)) hc dX11_laysAheadOf_174 rfl rfl ?_
                      refine R_getR hc fl_11_42 dX11_laysAheadOf_175 hw (fun t27 hw => ?_)
                      refine R_iload (q := 3) (i := 4) (v := t1) hc dX11_laysAheadOf_178 rfl ?_
                      refine R_dup2 hc dX11_laysAheadOf_180 rfl (rf_cat _ _) ?_
                      refine R_laload hc dX11_laysAheadOf_181 hw (fun t28 hw => ?_)
                      refine R_aload_n (q := 0) (i := 0) (v := (some l0)) hc dX11_laysAheadOf_182 rfl rfl ?_
                      refine R_getR hc fl_11_42 dX11_laysAheadOf_183 hw (fun t29 hw => ?_)
                      refine R_iload (q := 7) (i := 8) (v := t11) hc dX11_laysAheadOf_186 rfl ?_
                      refine R_laload hc dX11_laysAheadOf_188 hw (fun t30 hw => ?_)
                      refine R_ladd hc dX11_laysAheadOf_189 ?_
                      refine R_lastore hc dX11_laysAheadOf_190 hw (fun h31 hw => ?_)
                      refine R_iinc (q := 6) (i := 7) (v := l7_34) hc [(7, .int (l7_34 + (1 : Int32))), (0, rf x.w (some l0)), (2, .int l2), (3, .int l3), (4, .int t1), (5, .int l5_8), (6, .int l6_38), (8, .int t11)] dX11_laysAheadOf_191 rfl (kC_1 _) (hnl 7 (le_b rfl)) rfl ?_
                      refine R_goto (tgt := 85) hc dX11_laysAheadOf_194 (by decide) ?_
                      refine R_sub hc [1, 2, 3, 4, 5, 6, 0] rfl ?_
                      exact hX (l7_34 + (1 : Int32), h31) (wpO_some hw :)
                    · refine R_icmp_ge (tgt := 174) hc dX11_laysAheadOf_154 (by decide) hw (fun hw => ?_) (fun hw => ?_)
                      · refine R_sub hc [1, 2, 3, 4, 5, 6, 7, 8] rfl ?_
                        exact (wpO_some hw :)
                      · refine R_aload_n (q := 1) (i := 0) (v := (some l0)) hc dX11_laysAheadOf_157 rfl rfl ?_
                        refine R_getR hc fl_11_39 dX11_laysAheadOf_158 hw (fun t23 hw => ?_)
                        refine R_iload (q := 4) (i := 4) (v := t1) hc dX11_laysAheadOf_161 rfl ?_
                        refine R_iload (q := 0) (i := 9) (v := l9_17) hc dX11_laysAheadOf_163 rfl ?_
                        refine R_iastore hc dX11_laysAheadOf_165 hw (fun h24 hw => ?_)
                        refine R_aload_n (q := 1) (i := 0) (v := (some l0)) hc dX11_laysAheadOf_166 rfl rfl ?_
                        refine R_getR hc fl_11_42 dX11_laysAheadOf_167 hw (fun t25 hw => ?_)
                        refine R_iload (q := 4) (i := 4) (v := t1) hc dX11_laysAheadOf_170 rfl ?_
                        refine R_lconst (v := (0 : Int64)) hc dX11_laysAheadOf_172 kL_0 ?_
                        refine R_lastore hc dX11_laysAheadOf_173 hw (fun h26 hw => ?_)
                        refine R_sub hc [1, 2, 3, 4, 5, 6, 7, 8] rfl ?_
                        exact (wpO_some hw :)
                  · refine R_goto (tgt := 191) hc dX11_laysAheadOf_142 (by decide) ?_
                    refine R_iinc (q := 7) (i := 7) (v := l7_34) hc [(7, .int (l7_34 + (1 : Int32))), (9, .int l9_17), (0, rf x.w (some l0)), (2, .int l2), (3, .int l3), (4, .int t1), (5, .int l5_8), (6, .int l6_38), (8, .int t11)] dX11_laysAheadOf_191 rfl (kC_1 _) (hnl 7 (le_b rfl)) rfl ?_
                    refine R_goto (tgt := 85) hc dX11_laysAheadOf_194 (by decide) ?_
                    refine R_sub hc [2, 3, 4, 5, 6, 7, 0] rfl ?_
                    exact hX (l7_34 + (1 : Int32), h35) (wpO_some hw :)
                · refine R_if_le (tgt := 126) hc dX11_laysAheadOf_119 (by decide) hw (fun hw => ?_) (fun hw => ?_)
                  · refine R_iconst (v := (0 : Int32)) hc dX11_laysAheadOf_126 kI_0 ?_
                    refine R_sub hc [1, 2, 3, 4, 5, 6, 7, 0] rfl ?_
                    exact (wpO_some hw :)
                  · refine R_iconst (v := (1 : Int32)) hc dX11_laysAheadOf_122 kI_1 ?_
                    refine R_goto (tgt := 127) hc dX11_laysAheadOf_123 (by decide) ?_
                    refine R_sub hc [1, 2, 3, 4, 5, 6, 7, 0] rfl ?_
                    exact (wpO_some hw :)
          · refine R_goto (tgt := 197) hc dX11_laysAheadOf_79 (by decide) ?_
            refine R_iinc (q := 5) (i := 6) (v := l6_38) hc [(6, .int (l6_38 + (1 : Int32))), (0, rf x.w (some l0)), (2, .int l2), (3, .int l3), (4, .int t1), (5, .int l5_8)] dX11_laysAheadOf_197 rfl (kC_1 _) (hnl 6 (le_b rfl)) rfl ?_
            refine R_goto (tgt := 60) hc dX11_laysAheadOf_200 (by decide) ?_
            refine R_sub hc [1, 2, 3, 4, 5, 0] rfl ?_
            exact hX (l6_38 + (1 : Int32), h39) (wpO_some hw :)
    · refine R_icmp_ne (tgt := 46) hc dX11_laysAheadOf_39 (by decide) hw (fun hw => ?_) (fun hw => ?_)
      · refine R_lconst (v := (0 : Int64)) hc dX11_laysAheadOf_46 kL_0 ?_
        refine R_sub hc [0, 1, 2, 3, 4] rfl ?_
        exact (wpO_some hw :)
      · refine R_lconst (v := (1 : Int64)) hc dX11_laysAheadOf_42 kL_1 ?_
        refine R_goto (tgt := 47) hc dX11_laysAheadOf_43 (by decide) ?_
        refine R_sub hc [0, 1, 2, 3, 4] rfl ?_
        exact (wpO_some hw :)
  · refine R_icmp_ne (tgt := 25) hc dX11_laysAheadOf_18 (by decide) hw (fun hw => ?_) (fun hw => ?_)
    · refine R_sipush (v := (1000 : Int32)) hc dX11_laysAheadOf_25 kS_1000 ?_
      refine R_sub hc [1, 2, 3, 4, 0] rfl ?_
      exact (wpO_some hw :)
    · refine R_iconst (v := (0 : Int32)) hc dX11_laysAheadOf_21 kI_0 ?_
      refine R_goto (tgt := 28) hc dX11_laysAheadOf_22 (by decide) ?_
      refine R_sub hc [1, 2, 3, 4, 0] rfl ?_
      exact (wpO_some hw :)
theorem dX11_laysAhead_0 : decode cX11_laysAhead 0 = .ok (.iconst 1, 1) := by decide +kernel
theorem dX11_laysAhead_1 : decode cX11_laysAhead 1 = .ok (.istore_n 1, 1) := by decide +kernel
theorem dX11_laysAhead_2 : decode cX11_laysAhead 2 = .ok (.iload_n 1, 1) := by decide +kernel
theorem dX11_laysAhead_3 : decode cX11_laysAhead 3 = .ok (.iconst 1, 1) := by decide +kernel
theorem dX11_laysAhead_4 : decode cX11_laysAhead 4 = .ok (.aload_n 0, 1) := by decide +kernel
theorem dX11_laysAhead_5 : decode cX11_laysAhead 5 = .ok (.invokevirtual 103, 3) := by decide +kernel
theorem dX11_laysAhead_8 : decode cX11_laysAhead 8 = .ok (.ishl, 1) := by decide +kernel
theorem dX11_laysAhead_9 : decode cX11_laysAhead 9 = .ok (.if_icmp .ge 56, 3) := by decide +kernel
theorem dX11_laysAhead_12 : decode cX11_laysAhead 12 = .ok (.iconst 0, 1) := by decide +kernel
theorem dX11_laysAhead_13 : decode cX11_laysAhead 13 = .ok (.istore_n 2, 1) := by decide +kernel
theorem dX11_laysAhead_14 : decode cX11_laysAhead 14 = .ok (.iload_n 2, 1) := by decide +kernel
theorem dX11_laysAhead_15 : decode cX11_laysAhead 15 = .ok (.aload_n 0, 1) := by decide +kernel
theorem dX11_laysAhead_16 : decode cX11_laysAhead 16 = .ok (.invokevirtual 103, 3) := by decide +kernel
theorem dX11_laysAhead_19 : decode cX11_laysAhead 19 = .ok (.if_icmp .ge 40, 3) := by decide +kernel
theorem dX11_laysAhead_22 : decode cX11_laysAhead 22 = .ok (.iload_n 1, 1) := by decide +kernel
theorem dX11_laysAhead_23 : decode cX11_laysAhead 23 = .ok (.iload_n 2, 1) := by decide +kernel
theorem dX11_laysAhead_24 : decode cX11_laysAhead 24 = .ok (.ishr, 1) := by decide +kernel
theorem dX11_laysAhead_25 : decode cX11_laysAhead 25 = .ok (.iconst 1, 1) := by decide +kernel
theorem dX11_laysAhead_26 : decode cX11_laysAhead 26 = .ok (.iand, 1) := by decide +kernel
theorem dX11_laysAhead_27 : decode cX11_laysAhead 27 = .ok (.ifCond .ne 6, 3) := by decide +kernel
theorem dX11_laysAhead_30 : decode cX11_laysAhead 30 = .ok (.goto 23, 3) := by decide +kernel
theorem dX11_laysAhead_33 : decode cX11_laysAhead 33 = .ok (.iconst 0, 1) := by decide +kernel
theorem dX11_laysAhead_34 : decode cX11_laysAhead 34 = .ok (.istore_n 3, 1) := by decide +kernel
theorem dX11_laysAhead_35 : decode cX11_laysAhead 35 = .ok (.iload_n 3, 1) := by decide +kernel
theorem dX11_laysAhead_36 : decode cX11_laysAhead 36 = .ok (.iconst 4, 1) := by decide +kernel
theorem dX11_laysAhead_37 : decode cX11_laysAhead 37 = .ok (.if_icmp .ge 16, 3) := by decide +kernel
theorem dX11_laysAhead_40 : decode cX11_laysAhead 40 = .ok (.aload_n 0, 1) := by decide +kernel
theorem dX11_laysAhead_41 : decode cX11_laysAhead 41 = .ok (.iload_n 1, 1) := by decide +kernel
theorem dX11_laysAhead_42 : decode cX11_laysAhead 42 = .ok (.iload_n 2, 1) := by decide +kernel
theorem dX11_laysAhead_43 : decode cX11_laysAhead 43 = .ok (.iload_n 3, 1) := by decide +kernel
theorem dX11_laysAhead_44 : decode cX11_laysAhead 44 = .ok (.invokevirtual 152, 3) := by decide +kernel
theorem dX11_laysAhead_47 : decode cX11_laysAhead 47 = .ok (.iinc 3 1, 3) := by decide +kernel
theorem dX11_laysAhead_50 : decode cX11_laysAhead 50 = .ok (.goto (-15), 3) := by decide +kernel
theorem dX11_laysAhead_53 : decode cX11_laysAhead 53 = .ok (.iinc 2 1, 3) := by decide +kernel
theorem dX11_laysAhead_56 : decode cX11_laysAhead 56 = .ok (.goto (-42), 3) := by decide +kernel
theorem dX11_laysAhead_59 : decode cX11_laysAhead 59 = .ok (.iinc 1 1, 3) := by decide +kernel
theorem dX11_laysAhead_62 : decode cX11_laysAhead 62 = .ok (.goto (-60), 3) := by decide +kernel
theorem dX11_laysAhead_65 : decode cX11_laysAhead 65 = .ok (.return_, 1) := by decide +kernel
def sX11_laysAhead_L35 (F : Nat) (l0 : Nat) (l1 : Int32) (l2 : Int32) (l3 : Int32) (h : HP) : Option ((Int32 × HP) ⊕ HP) :=
  if (4 : Int32) ≤ l3 then
    some (.inr h)
  else
    (dO h 11 (some l0)).bind fun a5 =>
    (sX11_laysAheadOf F a5 l1 l2 l3 h).bind fun h6 =>
    some (.inl (l3 + (1 : Int32), h6))
def sX11_laysAhead_L14 (F : Nat) (l0 : Nat) (l1 : Int32) (l2 : Int32) (h : HP) : Option ((Int32 × HP) ⊕ HP) :=
  (dO h 11 (some l0)).bind fun a3 =>
  (sX11_fingers F a3 h).bind fun t4 =>
  if t4 ≤ l2 then
    some (.inr h)
  else
    if ¬ ((jshr l1 l2) &&& (1 : Int32)) = 0 then
      (iter (fun s => sX11_laysAhead_L35 F l0 l1 l2 s.1 s.2) F ((0 : Int32), h)).bind fun h7 =>
        some (.inl (l2 + (1 : Int32), h7))
    else
      some (.inl (l2 + (1 : Int32), h))
def sX11_laysAhead_L2 (F : Nat) (l0 : Nat) (l1 : Int32) (h : HP) : Option ((Int32 × HP) ⊕ HP) :=
  (dO h 11 (some l0)).bind fun a1 =>
  (sX11_fingers F a1 h).bind fun t2 =>
  if (jshl (1 : Int32) t2) ≤ l1 then
    some (.inr h)
  else
    (iter (fun s => sX11_laysAhead_L14 F l0 l1 s.1 s.2) F ((0 : Int32), h)).bind fun h11 =>
      some (.inl (l1 + (1 : Int32), h11))
def sX11_laysAhead (F : Nat) (l0 : Nat) (h : HP) : Option HP :=
  (iter (fun s => sX11_laysAhead_L2 F l0 s.1 s.2) F ((1 : Int32), h)).bind fun h15 =>
    some h15
abbrev rm_X11_laysAhead : Room := { frames := 5, cells := 0, slots := 0, locals := 125 }
set_option maxRecDepth 100000 in
set_option maxHeartbeats 4000000 in
theorem mt_X11_laysAhead {w : WD} {l : Launch} {F : Nat} {l0 : Nat} {h : HP} {h' : HP} (hs : sX11_laysAhead F l0 h = some h') : MV w l yX11_laysAhead cX11_laysAhead 4 rm_X11_laysAhead 0 0 [rf w (some l0)] h h' := by
  refine of_body [(0, rf w (some l0))] (by decide) (by simp [lg_sl, rf_cat, cat_i, cat_l, cat_a]) (by simp [lv_args, rf_cat, cat_i, cat_l, cat_a]) ?_
  intro x hw_ hnL_ hl_ hc hret hnm hQ
  subst hw_; subst hl_
  have hnl : ∀ i, i < 4 → i < x.nL := fun i h => by rw [hnL_]; exact h
  have hw : wpO (sX11_laysAhead F l0 h) (fun r => r = h') := ⟨_, hs, rfl⟩
  unfold sX11_laysAhead at hw
  refine R_iconst (v := (1 : Int32)) hc dX11_laysAhead_0 kI_1 ?_
  refine R_istore_n (i := 1) (v := (1 : Int32)) hc [(1, .int (1 : Int32)), (0, rf x.w (some l0))] dX11_laysAhead_1 rfl (hnl 1 (le_b rfl)) rfl ?_
  refine R_sub hc [1, 0] rfl ?_
  refine R_loop (P := fun (s : (Int32 × HP)) => Rn x 0 0 2 [(0, rf x.w (some l0)), (1, .int s.1)] [] s.2) (fun h15 => Rn x 0 0 65 [] [] h15) hw (fun r hw => ?_) (fun X hX s hw => ?_)
  · revert r hw
    intro h15 hw
    show Rn x 0 0 65 [] [] h15
    exact R_return hc hret hQ hw dX11_laysAhead_65
  · obtain ⟨l1_17, h18⟩ := s
    show Rn x 0 0 2 [(0, rf x.w (some l0)), (1, .int l1_17)] [] h18
    have hw : wpO (sX11_laysAhead_L2 F l0 l1_17 h18) _ := hw
    unfold sX11_laysAhead_L2 at hw
    refine R_iload_n (q := 1) (i := 1) (v := l1_17) hc dX11_laysAhead_2 rfl rfl ?_
    refine R_iconst (v := (1 : Int32)) hc dX11_laysAhead_3 kI_1 ?_
    refine R_aload_n (q := 0) (i := 0) (v := (some l0)) hc dX11_laysAhead_4 rfl rfl ?_
    refine R_cVI (As := []) (rest := [.int (1 : Int32), .int l1_17]) (r := (some l0)) (ci := 11) hc ml_11_103 mf_X11_fingers rfl (by decide) ⟨rfl, rfl⟩ ⟨le_b rfl, le_b rfl⟩ ⟨Nat.zero_le _, Nat.zero_le _⟩ (fun a v e => mt_X11_fingers e) rfl rfl (le_b rfl) dX11_laysAhead_5 hw (fun t2 hw => ?_)
    refine R_ishl hc dX11_laysAhead_8 ?_
    refine R_icmp_ge (tgt := 65) hc dX11_laysAhead_9 (by decide) hw (fun hw => ?_) (fun hw => ?_)
    · refine R_sub hc [] rfl ?_
      exact (wpO_some hw :)
    · refine R_iconst (v := (0 : Int32)) hc dX11_laysAhead_12 kI_0 ?_
      refine R_istore_n (i := 2) (v := (0 : Int32)) hc [(2, .int (0 : Int32)), (0, rf x.w (some l0)), (1, .int l1_17)] dX11_laysAhead_13 rfl (hnl 2 (le_b rfl)) rfl ?_
      refine R_sub hc [1, 2, 0] rfl ?_
      refine R_loop (P := fun (s : (Int32 × HP)) => Rn x 0 0 14 [(0, rf x.w (some l0)), (1, .int l1_17), (2, .int s.1)] [] s.2) (fun h11 => Rn x 0 0 59 [(0, rf x.w (some l0)), (1, .int l1_17)] [] h11) hw (fun r hw => ?_) (fun X hX s hw => ?_)
      · revert r hw
        intro h11 hw
        show Rn x 0 0 59 [(0, rf x.w (some l0)), (1, .int l1_17)] [] h11
        refine R_iinc (q := 1) (i := 1) (v := l1_17) hc [(1, .int (l1_17 + (1 : Int32))), (0, rf x.w (some l0))] dX11_laysAhead_59 rfl (kC_1 _) (hnl 1 (le_b rfl)) rfl ?_
        refine R_goto (tgt := 2) hc dX11_laysAhead_62 (by decide) ?_
        refine R_sub hc [1, 0] rfl ?_
        exact hX (l1_17 + (1 : Int32), h11) (wpO_some hw :)
      · obtain ⟨l2_13, h14⟩ := s
        show Rn x 0 0 14 [(0, rf x.w (some l0)), (1, .int l1_17), (2, .int l2_13)] [] h14
        have hw : wpO (sX11_laysAhead_L14 F l0 l1_17 l2_13 h14) _ := hw
        unfold sX11_laysAhead_L14 at hw
        refine R_iload_n (q := 2) (i := 2) (v := l2_13) hc dX11_laysAhead_14 rfl rfl ?_
        refine R_aload_n (q := 0) (i := 0) (v := (some l0)) hc dX11_laysAhead_15 rfl rfl ?_
        refine R_cVI (As := []) (rest := [.int l2_13]) (r := (some l0)) (ci := 11) hc ml_11_103 mf_X11_fingers rfl (by decide) ⟨rfl, rfl⟩ ⟨le_b rfl, le_b rfl⟩ ⟨Nat.zero_le _, Nat.zero_le _⟩ (fun a v e => mt_X11_fingers e) rfl rfl (le_b rfl) dX11_laysAhead_16 hw (fun t4 hw => ?_)
        refine R_icmp_ge (tgt := 59) hc dX11_laysAhead_19 (by decide) hw (fun hw => ?_) (fun hw => ?_)
        · refine R_sub hc [0, 1] rfl ?_
          exact (wpO_some hw :)
        · refine R_iload_n (q := 1) (i := 1) (v := l1_17) hc dX11_laysAhead_22 rfl rfl ?_
          refine R_iload_n (q := 2) (i := 2) (v := l2_13) hc dX11_laysAhead_23 rfl rfl ?_
          refine R_ishr hc dX11_laysAhead_24 ?_
          refine R_iconst (v := (1 : Int32)) hc dX11_laysAhead_25 kI_1 ?_
          refine R_iand hc dX11_laysAhead_26 ?_
          refine R_if_ne (tgt := 33) hc dX11_laysAhead_27 (by decide) hw (fun hw => ?_) (fun hw => ?_)
          · refine R_iconst (v := (0 : Int32)) hc dX11_laysAhead_33 kI_0 ?_
            refine R_istore_n (i := 3) (v := (0 : Int32)) hc [(3, .int (0 : Int32)), (0, rf x.w (some l0)), (1, .int l1_17), (2, .int l2_13)] dX11_laysAhead_34 rfl (hnl 3 (le_b rfl)) rfl ?_
            refine R_sub hc [1, 2, 3, 0] rfl ?_
            refine R_loop (P := fun (s : (Int32 × HP)) => Rn x 0 0 35 [(0, rf x.w (some l0)), (1, .int l1_17), (2, .int l2_13), (3, .int s.1)] [] s.2) (fun h7 => Rn x 0 0 53 [(0, rf x.w (some l0)), (1, .int l1_17), (2, .int l2_13)] [] h7) hw (fun r hw => ?_) (fun X hX s hw => ?_)
            · revert r hw
              intro h7 hw
              show Rn x 0 0 53 [(0, rf x.w (some l0)), (1, .int l1_17), (2, .int l2_13)] [] h7
              refine R_iinc (q := 2) (i := 2) (v := l2_13) hc [(2, .int (l2_13 + (1 : Int32))), (0, rf x.w (some l0)), (1, .int l1_17)] dX11_laysAhead_53 rfl (kC_1 _) (hnl 2 (le_b rfl)) rfl ?_
              refine R_goto (tgt := 14) hc dX11_laysAhead_56 (by decide) ?_
              refine R_sub hc [1, 2, 0] rfl ?_
              exact hX (l2_13 + (1 : Int32), h7) (wpO_some hw :)
            · obtain ⟨l3_9, h10⟩ := s
              show Rn x 0 0 35 [(0, rf x.w (some l0)), (1, .int l1_17), (2, .int l2_13), (3, .int l3_9)] [] h10
              have hw : wpO (sX11_laysAhead_L35 F l0 l1_17 l2_13 l3_9 h10) _ := hw
              unfold sX11_laysAhead_L35 at hw
              refine R_iload_n (q := 3) (i := 3) (v := l3_9) hc dX11_laysAhead_35 rfl rfl ?_
              refine R_iconst (v := (4 : Int32)) hc dX11_laysAhead_36 kI_4 ?_
              refine R_icmp_ge (tgt := 53) hc dX11_laysAhead_37 (by decide) hw (fun hw => ?_) (fun hw => ?_)
              · refine R_sub hc [0, 1, 2] rfl ?_
                exact (wpO_some hw :)
              · refine R_aload_n (q := 0) (i := 0) (v := (some l0)) hc dX11_laysAhead_40 rfl rfl ?_
                refine R_iload_n (q := 1) (i := 1) (v := l1_17) hc dX11_laysAhead_41 rfl rfl ?_
                refine R_iload_n (q := 2) (i := 2) (v := l2_13) hc dX11_laysAhead_42 rfl rfl ?_
                refine R_iload_n (q := 3) (i := 3) (v := l3_9) hc dX11_laysAhead_43 rfl rfl ?_
                refine R_cVVi (As := [.int l1_17, .int l2_13, .int l3_9]) (rest := []) (r := (some l0)) (ci := 11) hc ml_11_152 mf_X11_laysAheadOf rfl (by decide) ⟨rfl, rfl⟩ ⟨le_b rfl, le_b rfl⟩ ⟨Nat.zero_le _, Nat.zero_le _⟩ (fun a h' e => mt_X11_laysAheadOf e) rfl rfl (Nat.zero_le _) dX11_laysAhead_44 hw (fun h6 hw => ?_)
                refine R_iinc (q := 3) (i := 3) (v := l3_9) hc [(3, .int (l3_9 + (1 : Int32))), (0, rf x.w (some l0)), (1, .int l1_17), (2, .int l2_13)] dX11_laysAhead_47 rfl (kC_1 _) (hnl 3 (le_b rfl)) rfl ?_
                refine R_goto (tgt := 35) hc dX11_laysAhead_50 (by decide) ?_
                refine R_sub hc [1, 2, 3, 0] rfl ?_
                exact hX (l3_9 + (1 : Int32), h6) (wpO_some hw :)
          · refine R_goto (tgt := 53) hc dX11_laysAhead_30 (by decide) ?_
            refine R_iinc (q := 2) (i := 2) (v := l2_13) hc [(2, .int (l2_13 + (1 : Int32))), (0, rf x.w (some l0)), (1, .int l1_17)] dX11_laysAhead_53 rfl (kC_1 _) (hnl 2 (le_b rfl)) rfl ?_
            refine R_goto (tgt := 14) hc dX11_laysAhead_56 (by decide) ?_
            refine R_sub hc [1, 2, 0] rfl ?_
            exact hX (l2_13 + (1 : Int32), h14) (wpO_some hw :)
theorem dX11_tellsBest_0 : decode cX11_tellsBest 0 = .ok (.lload_n 1, 1) := by decide +kernel
theorem dX11_tellsBest_1 : decode cX11_tellsBest 1 = .ok (.lstore_n 3, 1) := by decide +kernel
theorem dX11_tellsBest_2 : decode cX11_tellsBest 2 = .ok (.iconst 0, 1) := by decide +kernel
theorem dX11_tellsBest_3 : decode cX11_tellsBest 3 = .ok (.istore 5, 2) := by decide +kernel
theorem dX11_tellsBest_5 : decode cX11_tellsBest 5 = .ok (.iconst 0, 1) := by decide +kernel
theorem dX11_tellsBest_6 : decode cX11_tellsBest 6 = .ok (.istore 6, 2) := by decide +kernel
theorem dX11_tellsBest_8 : decode cX11_tellsBest 8 = .ok (.iconst 0, 1) := by decide +kernel
theorem dX11_tellsBest_9 : decode cX11_tellsBest 9 = .ok (.istore 7, 2) := by decide +kernel
theorem dX11_tellsBest_11 : decode cX11_tellsBest 11 = .ok (.iload 7, 2) := by decide +kernel
theorem dX11_tellsBest_13 : decode cX11_tellsBest 13 = .ok (.aload_n 0, 1) := by decide +kernel
theorem dX11_tellsBest_14 : decode cX11_tellsBest 14 = .ok (.invokevirtual 103, 3) := by decide +kernel
theorem dX11_tellsBest_17 : decode cX11_tellsBest 17 = .ok (.if_icmp .ge 205, 3) := by decide +kernel
theorem dX11_tellsBest_20 : decode cX11_tellsBest 20 = .ok (.iconst 0, 1) := by decide +kernel
theorem dX11_tellsBest_21 : decode cX11_tellsBest 21 = .ok (.istore 8, 2) := by decide +kernel
theorem dX11_tellsBest_23 : decode cX11_tellsBest 23 = .ok (.iconst 0, 1) := by decide +kernel
theorem dX11_tellsBest_24 : decode cX11_tellsBest 24 = .ok (.istore 9, 2) := by decide +kernel
theorem dX11_tellsBest_26 : decode cX11_tellsBest 26 = .ok (.iload 9, 2) := by decide +kernel
theorem dX11_tellsBest_28 : decode cX11_tellsBest 28 = .ok (.iconst 4, 1) := by decide +kernel
theorem dX11_tellsBest_29 : decode cX11_tellsBest 29 = .ok (.aload_n 0, 1) := by decide +kernel
theorem dX11_tellsBest_30 : decode cX11_tellsBest 30 = .ok (.invokevirtual 103, 3) := by decide +kernel
theorem dX11_tellsBest_33 : decode cX11_tellsBest 33 = .ok (.imul, 1) := by decide +kernel
theorem dX11_tellsBest_34 : decode cX11_tellsBest 34 = .ok (.if_icmp .ge 182, 3) := by decide +kernel
theorem dX11_tellsBest_37 : decode cX11_tellsBest 37 = .ok (.iload 8, 2) := by decide +kernel
theorem dX11_tellsBest_39 : decode cX11_tellsBest 39 = .ok (.ifCond .ne 177, 3) := by decide +kernel
theorem dX11_tellsBest_42 : decode cX11_tellsBest 42 = .ok (.iload 9, 2) := by decide +kernel
theorem dX11_tellsBest_44 : decode cX11_tellsBest 44 = .ok (.iconst 4, 1) := by decide +kernel
theorem dX11_tellsBest_45 : decode cX11_tellsBest 45 = .ok (.idiv, 1) := by decide +kernel
theorem dX11_tellsBest_46 : decode cX11_tellsBest 46 = .ok (.istore 10, 2) := by decide +kernel
theorem dX11_tellsBest_48 : decode cX11_tellsBest 48 = .ok (.iload 9, 2) := by decide +kernel
theorem dX11_tellsBest_50 : decode cX11_tellsBest 50 = .ok (.iconst 4, 1) := by decide +kernel
theorem dX11_tellsBest_51 : decode cX11_tellsBest 51 = .ok (.irem, 1) := by decide +kernel
theorem dX11_tellsBest_52 : decode cX11_tellsBest 52 = .ok (.istore 11, 2) := by decide +kernel
theorem dX11_tellsBest_54 : decode cX11_tellsBest 54 = .ok (.iload 5, 2) := by decide +kernel
theorem dX11_tellsBest_56 : decode cX11_tellsBest 56 = .ok (.iload 10, 2) := by decide +kernel
theorem dX11_tellsBest_58 : decode cX11_tellsBest 58 = .ok (.ishr, 1) := by decide +kernel
theorem dX11_tellsBest_59 : decode cX11_tellsBest 59 = .ok (.iconst 1, 1) := by decide +kernel
theorem dX11_tellsBest_60 : decode cX11_tellsBest 60 = .ok (.iand, 1) := by decide +kernel
theorem dX11_tellsBest_61 : decode cX11_tellsBest 61 = .ok (.iconst 1, 1) := by decide +kernel
theorem dX11_tellsBest_62 : decode cX11_tellsBest 62 = .ok (.if_icmp .ne 6, 3) := by decide +kernel
theorem dX11_tellsBest_65 : decode cX11_tellsBest 65 = .ok (.goto 145, 3) := by decide +kernel
theorem dX11_tellsBest_68 : decode cX11_tellsBest 68 = .ok (.iload 7, 2) := by decide +kernel
theorem dX11_tellsBest_70 : decode cX11_tellsBest 70 = .ok (.ifCond .le 36, 3) := by decide +kernel
theorem dX11_tellsBest_73 : decode cX11_tellsBest 73 = .ok (.aload_n 0, 1) := by decide +kernel
theorem dX11_tellsBest_74 : decode cX11_tellsBest 74 = .ok (.aload_n 0, 1) := by decide +kernel
theorem dX11_tellsBest_75 : decode cX11_tellsBest 75 = .ok (.getfield 45, 3) := by decide +kernel
theorem dX11_tellsBest_78 : decode cX11_tellsBest 78 = .ok (.iload 7, 2) := by decide +kernel
theorem dX11_tellsBest_80 : decode cX11_tellsBest 80 = .ok (.iconst 1, 1) := by decide +kernel
theorem dX11_tellsBest_81 : decode cX11_tellsBest 81 = .ok (.isub, 1) := by decide +kernel
theorem dX11_tellsBest_82 : decode cX11_tellsBest 82 = .ok (.iaload, 1) := by decide +kernel
theorem dX11_tellsBest_83 : decode cX11_tellsBest 83 = .ok (.aload_n 0, 1) := by decide +kernel
theorem dX11_tellsBest_84 : decode cX11_tellsBest 84 = .ok (.getfield 48, 3) := by decide +kernel
theorem dX11_tellsBest_87 : decode cX11_tellsBest 87 = .ok (.iload 7, 2) := by decide +kernel
theorem dX11_tellsBest_89 : decode cX11_tellsBest 89 = .ok (.iconst 1, 1) := by decide +kernel
theorem dX11_tellsBest_90 : decode cX11_tellsBest 90 = .ok (.isub, 1) := by decide +kernel
theorem dX11_tellsBest_91 : decode cX11_tellsBest 91 = .ok (.iaload, 1) := by decide +kernel
theorem dX11_tellsBest_92 : decode cX11_tellsBest 92 = .ok (.iload 10, 2) := by decide +kernel
theorem dX11_tellsBest_94 : decode cX11_tellsBest 94 = .ok (.iload 11, 2) := by decide +kernel
theorem dX11_tellsBest_96 : decode cX11_tellsBest 96 = .ok (.invokevirtual 127, 3) := by decide +kernel
theorem dX11_tellsBest_99 : decode cX11_tellsBest 99 = .ok (.ifCond .le 7, 3) := by decide +kernel
theorem dX11_tellsBest_102 : decode cX11_tellsBest 102 = .ok (.iconst 1, 1) := by decide +kernel
theorem dX11_tellsBest_103 : decode cX11_tellsBest 103 = .ok (.goto 4, 3) := by decide +kernel
theorem dX11_tellsBest_106 : decode cX11_tellsBest 106 = .ok (.iconst 0, 1) := by decide +kernel
theorem dX11_tellsBest_107 : decode cX11_tellsBest 107 = .ok (.istore 12, 2) := by decide +kernel
theorem dX11_tellsBest_109 : decode cX11_tellsBest 109 = .ok (.iload 5, 2) := by decide +kernel
theorem dX11_tellsBest_111 : decode cX11_tellsBest 111 = .ok (.iconst 1, 1) := by decide +kernel
theorem dX11_tellsBest_112 : decode cX11_tellsBest 112 = .ok (.iload 10, 2) := by decide +kernel
theorem dX11_tellsBest_114 : decode cX11_tellsBest 114 = .ok (.ishl, 1) := by decide +kernel
theorem dX11_tellsBest_115 : decode cX11_tellsBest 115 = .ok (.ior, 1) := by decide +kernel
theorem dX11_tellsBest_116 : decode cX11_tellsBest 116 = .ok (.iload 10, 2) := by decide +kernel
theorem dX11_tellsBest_118 : decode cX11_tellsBest 118 = .ok (.iload 11, 2) := by decide +kernel
theorem dX11_tellsBest_120 : decode cX11_tellsBest 120 = .ok (.invokestatic 123, 3) := by decide +kernel
theorem dX11_tellsBest_123 : decode cX11_tellsBest 123 = .ok (.istore 13, 2) := by decide +kernel
theorem dX11_tellsBest_125 : decode cX11_tellsBest 125 = .ok (.iload 6, 2) := by decide +kernel
theorem dX11_tellsBest_127 : decode cX11_tellsBest 127 = .ok (.iload 12, 2) := by decide +kernel
theorem dX11_tellsBest_129 : decode cX11_tellsBest 129 = .ok (.iadd, 1) := by decide +kernel
theorem dX11_tellsBest_130 : decode cX11_tellsBest 130 = .ok (.aload_n 0, 1) := by decide +kernel
theorem dX11_tellsBest_131 : decode cX11_tellsBest 131 = .ok (.getfield 29, 3) := by decide +kernel
theorem dX11_tellsBest_134 : decode cX11_tellsBest 134 = .ok (.iload 13, 2) := by decide +kernel
theorem dX11_tellsBest_136 : decode cX11_tellsBest 136 = .ok (.iaload, 1) := by decide +kernel
theorem dX11_tellsBest_137 : decode cX11_tellsBest 137 = .ok (.iadd, 1) := by decide +kernel
theorem dX11_tellsBest_138 : decode cX11_tellsBest 138 = .ok (.aload_n 0, 1) := by decide +kernel
theorem dX11_tellsBest_139 : decode cX11_tellsBest 139 = .ok (.getfield 142, 3) := by decide +kernel
theorem dX11_tellsBest_142 : decode cX11_tellsBest 142 = .ok (.if_icmp .eq 6, 3) := by decide +kernel
theorem dX11_tellsBest_145 : decode cX11_tellsBest 145 = .ok (.goto 65, 3) := by decide +kernel
theorem dX11_tellsBest_148 : decode cX11_tellsBest 148 = .ok (.lload_n 3, 1) := by decide +kernel
theorem dX11_tellsBest_149 : decode cX11_tellsBest 149 = .ok (.aload_n 0, 1) := by decide +kernel
theorem dX11_tellsBest_150 : decode cX11_tellsBest 150 = .ok (.getfield 32, 3) := by decide +kernel
theorem dX11_tellsBest_153 : decode cX11_tellsBest 153 = .ok (.iload 13, 2) := by decide +kernel
theorem dX11_tellsBest_155 : decode cX11_tellsBest 155 = .ok (.laload, 1) := by decide +kernel
theorem dX11_tellsBest_156 : decode cX11_tellsBest 156 = .ok (.lcmp, 1) := by decide +kernel
theorem dX11_tellsBest_157 : decode cX11_tellsBest 157 = .ok (.ifCond .lt 16, 3) := by decide +kernel
theorem dX11_tellsBest_160 : decode cX11_tellsBest 160 = .ok (.lload_n 3, 1) := by decide +kernel
theorem dX11_tellsBest_161 : decode cX11_tellsBest 161 = .ok (.aload_n 0, 1) := by decide +kernel
theorem dX11_tellsBest_162 : decode cX11_tellsBest 162 = .ok (.getfield 32, 3) := by decide +kernel
theorem dX11_tellsBest_165 : decode cX11_tellsBest 165 = .ok (.iload 13, 2) := by decide +kernel
theorem dX11_tellsBest_167 : decode cX11_tellsBest 167 = .ok (.laload, 1) := by decide +kernel
theorem dX11_tellsBest_168 : decode cX11_tellsBest 168 = .ok (.lsub, 1) := by decide +kernel
theorem dX11_tellsBest_169 : decode cX11_tellsBest 169 = .ok (.lstore_n 3, 1) := by decide +kernel
theorem dX11_tellsBest_170 : decode cX11_tellsBest 170 = .ok (.goto 40, 3) := by decide +kernel
theorem dX11_tellsBest_173 : decode cX11_tellsBest 173 = .ok (.iconst 1, 1) := by decide +kernel
theorem dX11_tellsBest_174 : decode cX11_tellsBest 174 = .ok (.istore 8, 2) := by decide +kernel
theorem dX11_tellsBest_176 : decode cX11_tellsBest 176 = .ok (.aload_n 0, 1) := by decide +kernel
theorem dX11_tellsBest_177 : decode cX11_tellsBest 177 = .ok (.getfield 45, 3) := by decide +kernel
theorem dX11_tellsBest_180 : decode cX11_tellsBest 180 = .ok (.iload 7, 2) := by decide +kernel
theorem dX11_tellsBest_182 : decode cX11_tellsBest 182 = .ok (.iload 10, 2) := by decide +kernel
theorem dX11_tellsBest_184 : decode cX11_tellsBest 184 = .ok (.iastore, 1) := by decide +kernel
theorem dX11_tellsBest_185 : decode cX11_tellsBest 185 = .ok (.aload_n 0, 1) := by decide +kernel
theorem dX11_tellsBest_186 : decode cX11_tellsBest 186 = .ok (.getfield 48, 3) := by decide +kernel
theorem dX11_tellsBest_189 : decode cX11_tellsBest 189 = .ok (.iload 7, 2) := by decide +kernel
theorem dX11_tellsBest_191 : decode cX11_tellsBest 191 = .ok (.iload 11, 2) := by decide +kernel
theorem dX11_tellsBest_193 : decode cX11_tellsBest 193 = .ok (.iastore, 1) := by decide +kernel
theorem dX11_tellsBest_194 : decode cX11_tellsBest 194 = .ok (.iload 5, 2) := by decide +kernel
theorem dX11_tellsBest_196 : decode cX11_tellsBest 196 = .ok (.iconst 1, 1) := by decide +kernel
theorem dX11_tellsBest_197 : decode cX11_tellsBest 197 = .ok (.iload 10, 2) := by decide +kernel
theorem dX11_tellsBest_199 : decode cX11_tellsBest 199 = .ok (.ishl, 1) := by decide +kernel
theorem dX11_tellsBest_200 : decode cX11_tellsBest 200 = .ok (.ior, 1) := by decide +kernel
theorem dX11_tellsBest_201 : decode cX11_tellsBest 201 = .ok (.istore 5, 2) := by decide +kernel
theorem dX11_tellsBest_203 : decode cX11_tellsBest 203 = .ok (.iload 6, 2) := by decide +kernel
theorem dX11_tellsBest_205 : decode cX11_tellsBest 205 = .ok (.iload 12, 2) := by decide +kernel
theorem dX11_tellsBest_207 : decode cX11_tellsBest 207 = .ok (.iadd, 1) := by decide +kernel
theorem dX11_tellsBest_208 : decode cX11_tellsBest 208 = .ok (.istore 6, 2) := by decide +kernel
theorem dX11_tellsBest_210 : decode cX11_tellsBest 210 = .ok (.iinc 9 1, 3) := by decide +kernel
theorem dX11_tellsBest_213 : decode cX11_tellsBest 213 = .ok (.goto (-187), 3) := by decide +kernel
theorem dX11_tellsBest_216 : decode cX11_tellsBest 216 = .ok (.iinc 7 1, 3) := by decide +kernel
theorem dX11_tellsBest_219 : decode cX11_tellsBest 219 = .ok (.goto (-208), 3) := by decide +kernel
theorem dX11_tellsBest_222 : decode cX11_tellsBest 222 = .ok (.return_, 1) := by decide +kernel
def sX11_tellsBest_L26 (F : Nat) (l0 : Nat) (l7 : Int32) (l3 : Int64) (l5 : Int32) (l6 : Int32) (l8 : Int32) (l9 : Int32) (h : HP) : Option ((Int64 × Int32 × Int32 × Int32 × Int32 × HP) ⊕ (Int64 × Int32 × Int32 × HP)) :=
  (dO h 11 (some l0)).bind fun a3 =>
  (sX11_fingers F a3 h).bind fun t4 =>
  if ((4 : Int32) * t4) ≤ l9 then
    some (.inr (l3, l5, l6, h))
  else
    if ¬ l8 = 0 then
      some (.inr (l3, l5, l6, h))
    else
      nmI (l9 / (4 : Int32)) fun l10_5 =>
      nmI (jrem l9 (4 : Int32)) fun l11_6 =>
      if ¬ ((jshr l5 l10_5) &&& (1 : Int32)) = (1 : Int32) then
        (if l7 ≤ 0 then
            some (0 : Int32)
          else
            (gR h 11 (some l0) 20).bind fun t8 =>
            (aI h 13 t8 (l7 - (1 : Int32))).bind fun t9 =>
            (gR h 11 (some l0) 21).bind fun t10 =>
            (aI h 13 t10 (l7 - (1 : Int32))).bind fun t11 =>
            (dO h 11 (some l0)).bind fun a12 =>
            (sX11_lacks F a12 t9 t11 l10_5 l11_6 h).bind fun t13 =>
            if t13 ≤ 0 then
              some (0 : Int32)
            else
              some (1 : Int32)).bind fun s7 =>
        (sX11_state F (l5 ||| (jshl (1 : Int32) l10_5)) l10_5 l11_6 h).bind fun t14 =>
        (gR h 11 (some l0) 12).bind fun t15 =>
        (aI h 13 t15 t14).bind fun t16 =>
        (gI h 11 (some l0) 17).bind fun t17 =>
        if ((l6 + s7) + t16) = t17 then
          (gR h 11 (some l0) 13).bind fun t18 =>
          (aJ h t18 t14).bind fun t19 =>
          if (lg_cmp l3 t19) < 0 then
            (gR h 11 (some l0) 20).bind fun t20 =>
            (sI h t20 l7 l10_5).bind fun h21 =>
            (gR h21 11 (some l0) 21).bind fun t22 =>
            (sI h21 t22 l7 l11_6).bind fun h23 =>
            nmI (l5 ||| (jshl (1 : Int32) l10_5)) fun l5_24 =>
            nmI (l6 + s7) fun l6_25 =>
            some (.inl (l3, l5_24, l6_25, (1 : Int32), l9 + (1 : Int32), h23))
          else
            (gR h 11 (some l0) 13).bind fun t26 =>
            (aJ h t26 t14).bind fun t27 =>
            nmJ (l3 - t27) fun l3_28 =>
            some (.inl (l3_28, l5, l6, l8, l9 + (1 : Int32), h))
        else
          some (.inl (l3, l5, l6, l8, l9 + (1 : Int32), h))
      else
        some (.inl (l3, l5, l6, l8, l9 + (1 : Int32), h))
def sX11_tellsBest_L11 (F : Nat) (l0 : Nat) (l3 : Int64) (l5 : Int32) (l6 : Int32) (l7 : Int32) (h : HP) : Option ((Int64 × Int32 × Int32 × Int32 × HP) ⊕ HP) :=
  (dO h 11 (some l0)).bind fun a1 =>
  (sX11_fingers F a1 h).bind fun t2 =>
  if t2 ≤ l7 then
    some (.inr h)
  else
    (iter (fun s => sX11_tellsBest_L26 F l0 l7 s.1 s.2.1 s.2.2.1 s.2.2.2.1 s.2.2.2.2.1 s.2.2.2.2.2) F (l3, l5, l6, (0 : Int32), (0 : Int32), h)).bind fun r => match r with
    | (l3_29, l5_30, l6_31, h32) =>
      some (.inl (l3_29, l5_30, l6_31, l7 + (1 : Int32), h32))
def sX11_tellsBest (F : Nat) (l0 : Nat) (l1 : Int64) (h : HP) : Option HP :=
  (iter (fun s => sX11_tellsBest_L11 F l0 s.1 s.2.1 s.2.2.1 s.2.2.2.1 s.2.2.2.2) F (l1, (0 : Int32), (0 : Int32), (0 : Int32), h)).bind fun h40 =>
    some h40
abbrev rm_X11_tellsBest : Room := { frames := 4, cells := 0, slots := 0, locals := 96 }
set_option maxRecDepth 100000 in
set_option maxHeartbeats 4000000 in
theorem mt_X11_tellsBest {w : WD} {l : Launch} {F : Nat} {l0 : Nat} {l1 : Int64} {h : HP} {h' : HP} (hs : sX11_tellsBest F l0 l1 h = some h') : MV w l yX11_tellsBest cX11_tellsBest 14 rm_X11_tellsBest 0 0 [rf w (some l0), .long l1] h h' := by
  refine of_body [(0, rf w (some l0)), (1, .long l1)] (by decide) (by simp [lg_sl, rf_cat, cat_i, cat_l, cat_a]) (by simp [lv_args, rf_cat, cat_i, cat_l, cat_a]) ?_
  intro x hw_ hnL_ hl_ hc hret hnm hQ
  subst hw_; subst hl_
  have hnl : ∀ i, i < 14 → i < x.nL := fun i h => by rw [hnL_]; exact h
  have hw : wpO (sX11_tellsBest F l0 l1 h) (fun r => r = h') := ⟨_, hs, rfl⟩
  unfold sX11_tellsBest at hw
  refine R_lload_n (q := 1) (i := 1) (v := l1) hc dX11_tellsBest_0 rfl rfl ?_
  refine R_lstore_n (i := 3) (v := l1) hc [(3, .long l1), (0, rf x.w (some l0)), (1, .long l1)] dX11_tellsBest_1 rfl (hnl 4 (le_b rfl)) rfl ?_
  refine R_iconst (v := (0 : Int32)) hc dX11_tellsBest_2 kI_0 ?_
  refine R_istore (i := 5) (v := (0 : Int32)) hc [(5, .int (0 : Int32)), (3, .long l1), (0, rf x.w (some l0)), (1, .long l1)] dX11_tellsBest_3 (hnl 5 (le_b rfl)) rfl ?_
  refine R_iconst (v := (0 : Int32)) hc dX11_tellsBest_5 kI_0 ?_
  refine R_istore (i := 6) (v := (0 : Int32)) hc [(6, .int (0 : Int32)), (5, .int (0 : Int32)), (3, .long l1), (0, rf x.w (some l0)), (1, .long l1)] dX11_tellsBest_6 (hnl 6 (le_b rfl)) rfl ?_
  refine R_iconst (v := (0 : Int32)) hc dX11_tellsBest_8 kI_0 ?_
  refine R_istore (i := 7) (v := (0 : Int32)) hc [(7, .int (0 : Int32)), (6, .int (0 : Int32)), (5, .int (0 : Int32)), (3, .long l1), (0, rf x.w (some l0)), (1, .long l1)] dX11_tellsBest_9 (hnl 7 (le_b rfl)) rfl ?_
  refine R_sub hc [4, 3, 2, 1, 0] rfl ?_
  refine R_loop (P := fun (s : (Int64 × Int32 × Int32 × Int32 × HP)) => Rn x 0 0 11 [(0, rf x.w (some l0)), (3, .long s.1), (5, .int s.2.1), (6, .int s.2.2.1), (7, .int s.2.2.2.1)] [] s.2.2.2.2) (fun h40 => Rn x 0 0 222 [] [] h40) hw (fun r hw => ?_) (fun X hX s hw => ?_)
  · revert r hw
    intro h40 hw
    show Rn x 0 0 222 [] [] h40
    exact R_return hc hret hQ hw dX11_tellsBest_222
  · obtain ⟨l3_42, l5_43, l6_44, l7_45, h46⟩ := s
    show Rn x 0 0 11 [(0, rf x.w (some l0)), (3, .long l3_42), (5, .int l5_43), (6, .int l6_44), (7, .int l7_45)] [] h46
    have hw : wpO (sX11_tellsBest_L11 F l0 l3_42 l5_43 l6_44 l7_45 h46) _ := hw
    unfold sX11_tellsBest_L11 at hw
    refine R_iload (q := 4) (i := 7) (v := l7_45) hc dX11_tellsBest_11 rfl ?_
    refine R_aload_n (q := 0) (i := 0) (v := (some l0)) hc dX11_tellsBest_13 rfl rfl ?_
    refine R_cVI (As := []) (rest := [.int l7_45]) (r := (some l0)) (ci := 11) hc ml_11_103 mf_X11_fingers rfl (by decide) ⟨rfl, rfl⟩ ⟨le_b rfl, le_b rfl⟩ ⟨Nat.zero_le _, Nat.zero_le _⟩ (fun a v e => mt_X11_fingers e) rfl rfl (le_b rfl) dX11_tellsBest_14 hw (fun t2 hw => ?_)
    refine R_icmp_ge (tgt := 222) hc dX11_tellsBest_17 (by decide) hw (fun hw => ?_) (fun hw => ?_)
    · refine R_sub hc [] rfl ?_
      exact (wpO_some hw :)
    · refine R_iconst (v := (0 : Int32)) hc dX11_tellsBest_20 kI_0 ?_
      refine R_istore (i := 8) (v := (0 : Int32)) hc [(8, .int (0 : Int32)), (0, rf x.w (some l0)), (3, .long l3_42), (5, .int l5_43), (6, .int l6_44), (7, .int l7_45)] dX11_tellsBest_21 (hnl 8 (le_b rfl)) rfl ?_
      refine R_iconst (v := (0 : Int32)) hc dX11_tellsBest_23 kI_0 ?_
      refine R_istore (i := 9) (v := (0 : Int32)) hc [(9, .int (0 : Int32)), (8, .int (0 : Int32)), (0, rf x.w (some l0)), (3, .long l3_42), (5, .int l5_43), (6, .int l6_44), (7, .int l7_45)] dX11_tellsBest_24 (hnl 9 (le_b rfl)) rfl ?_
      refine R_sub hc [2, 3, 4, 5, 6, 1, 0] rfl ?_
      refine R_loop (P := fun (s : (Int64 × Int32 × Int32 × Int32 × Int32 × HP)) => Rn x 0 0 26 [(0, rf x.w (some l0)), (3, .long s.1), (5, .int s.2.1), (6, .int s.2.2.1), (7, .int l7_45), (8, .int s.2.2.2.1), (9, .int s.2.2.2.2.1)] [] s.2.2.2.2.2) (fun r => match r with | (l3_29, l5_30, l6_31, h32) => Rn x 0 0 216 [(0, rf x.w (some l0)), (3, .long l3_29), (5, .int l5_30), (6, .int l6_31), (7, .int l7_45)] [] h32) hw (fun r hw => ?_) (fun X hX s hw => ?_)
      · obtain ⟨l3_29, l5_30, l6_31, h32⟩ := r
        show Rn x 0 0 216 [(0, rf x.w (some l0)), (3, .long l3_29), (5, .int l5_30), (6, .int l6_31), (7, .int l7_45)] [] h32
        refine R_iinc (q := 4) (i := 7) (v := l7_45) hc [(7, .int (l7_45 + (1 : Int32))), (0, rf x.w (some l0)), (3, .long l3_29), (5, .int l5_30), (6, .int l6_31)] dX11_tellsBest_216 rfl (kC_1 _) (hnl 7 (le_b rfl)) rfl ?_
        refine R_goto (tgt := 11) hc dX11_tellsBest_219 (by decide) ?_
        refine R_sub hc [1, 2, 3, 4, 0] rfl ?_
        exact hX (l3_29, l5_30, l6_31, l7_45 + (1 : Int32), h32) (wpO_some hw :)
      · obtain ⟨l3_34, l5_35, l6_36, l8_37, l9_38, h39⟩ := s
        show Rn x 0 0 26 [(0, rf x.w (some l0)), (3, .long l3_34), (5, .int l5_35), (6, .int l6_36), (7, .int l7_45), (8, .int l8_37), (9, .int l9_38)] [] h39
        have hw : wpO (sX11_tellsBest_L26 F l0 l7_45 l3_34 l5_35 l6_36 l8_37 l9_38 h39) _ := hw
        unfold sX11_tellsBest_L26 at hw
        refine R_iload (q := 6) (i := 9) (v := l9_38) hc dX11_tellsBest_26 rfl ?_
        refine R_iconst (v := (4 : Int32)) hc dX11_tellsBest_28 kI_4 ?_
        refine R_aload_n (q := 0) (i := 0) (v := (some l0)) hc dX11_tellsBest_29 rfl rfl ?_
        refine R_cVI (As := []) (rest := [.int (4 : Int32), .int l9_38]) (r := (some l0)) (ci := 11) hc ml_11_103 mf_X11_fingers rfl (by decide) ⟨rfl, rfl⟩ ⟨le_b rfl, le_b rfl⟩ ⟨Nat.zero_le _, Nat.zero_le _⟩ (fun a v e => mt_X11_fingers e) rfl rfl (le_b rfl) dX11_tellsBest_30 hw (fun t4 hw => ?_)
        refine R_imul hc dX11_tellsBest_33 ?_
        refine R_icmp_ge (tgt := 216) hc dX11_tellsBest_34 (by decide) hw (fun hw => ?_) (fun hw => ?_)
        · refine R_sub hc [0, 1, 2, 3, 4] rfl ?_
          exact (wpO_some hw :)
        · refine R_iload (q := 5) (i := 8) (v := l8_37) hc dX11_tellsBest_37 rfl ?_
          refine R_if_ne (tgt := 216) hc dX11_tellsBest_39 (by decide) hw (fun hw => ?_) (fun hw => ?_)
          · refine R_sub hc [0, 1, 2, 3, 4] rfl ?_
            exact (wpO_some hw :)
          · refine R_iload (q := 6) (i := 9) (v := l9_38) hc dX11_tellsBest_42 rfl ?_
            refine R_iconst (v := (4 : Int32)) hc dX11_tellsBest_44 kI_4 ?_
            refine R_idivL hc dX11_tellsBest_45 (by decide) ?_
            refine R_nmI hw (fun l10_5 hw => ?_)
            refine R_istore (i := 10) (v := l10_5) hc [(10, .int l10_5), (0, rf x.w (some l0)), (3, .long l3_34), (5, .int l5_35), (6, .int l6_36), (7, .int l7_45), (8, .int l8_37), (9, .int l9_38)] dX11_tellsBest_46 (hnl 10 (le_b rfl)) rfl ?_
            refine R_iload (q := 7) (i := 9) (v := l9_38) hc dX11_tellsBest_48 rfl ?_
            refine R_iconst (v := (4 : Int32)) hc dX11_tellsBest_50 kI_4 ?_
            refine R_iremL hc dX11_tellsBest_51 (by decide) ?_
            refine R_nmI hw (fun l11_6 hw => ?_)
            refine R_istore (i := 11) (v := l11_6) hc [(11, .int l11_6), (10, .int l10_5), (0, rf x.w (some l0)), (3, .long l3_34), (5, .int l5_35), (6, .int l6_36), (7, .int l7_45), (8, .int l8_37), (9, .int l9_38)] dX11_tellsBest_52 (hnl 11 (le_b rfl)) rfl ?_
            refine R_iload (q := 4) (i := 5) (v := l5_35) hc dX11_tellsBest_54 rfl ?_
            refine R_iload (q := 1) (i := 10) (v := l10_5) hc dX11_tellsBest_56 rfl ?_
            refine R_ishr hc dX11_tellsBest_58 ?_
            refine R_iconst (v := (1 : Int32)) hc dX11_tellsBest_59 kI_1 ?_
            refine R_iand hc dX11_tellsBest_60 ?_
            refine R_iconst (v := (1 : Int32)) hc dX11_tellsBest_61 kI_1 ?_
            refine R_icmp_ne (tgt := 68) hc dX11_tellsBest_62 (by decide) hw (fun hw => ?_) (fun hw => ?_)
            · refine R_iload (q := 6) (i := 7) (v := l7_45) hc dX11_tellsBest_68 rfl ?_
              refine R_join (fun (s7 : Int32) => Rn x 0 0 107 [(0, rf x.w (some l0)), (3, .long l3_34), (5, .int l5_35), (6, .int l6_36), (7, .int l7_45), (8, .int l8_37), (9, .int l9_38), (10, .int l10_5), (11, .int l11_6)] [.int s7] h39) hw (fun r hw => ?_) (fun hw => ?_)
              · revert r hw
                intro s7 hw
                show Rn x 0 0 107 [(0, rf x.w (some l0)), (3, .long l3_34), (5, .int l5_35), (6, .int l6_36), (7, .int l7_45), (8, .int l8_37), (9, .int l9_38), (10, .int l10_5), (11, .int l11_6)] [.int s7] h39
                refine R_istore (i := 12) (v := s7) hc [(12, .int s7), (0, rf x.w (some l0)), (3, .long l3_34), (5, .int l5_35), (6, .int l6_36), (7, .int l7_45), (8, .int l8_37), (9, .int l9_38), (10, .int l10_5), (11, .int l11_6)] dX11_tellsBest_107 (hnl 12 (le_b rfl)) rfl ?_
                refine R_iload (q := 3) (i := 5) (v := l5_35) hc dX11_tellsBest_109 rfl ?_
                refine R_iconst (v := (1 : Int32)) hc dX11_tellsBest_111 kI_1 ?_
                refine R_iload (q := 8) (i := 10) (v := l10_5) hc dX11_tellsBest_112 rfl ?_
                refine R_ishl hc dX11_tellsBest_114 ?_
                refine R_ior hc dX11_tellsBest_115 ?_
                refine R_iload (q := 8) (i := 10) (v := l10_5) hc dX11_tellsBest_116 rfl ?_
                refine R_iload (q := 9) (i := 11) (v := l11_6) hc dX11_tellsBest_118 rfl ?_
                refine R_cSI (As := [.int (l5_35 ||| (jshl (1 : Int32) l10_5)), .int l10_5, .int l11_6]) (rest := []) hc ml_11_123 mf_X11_state ⟨rfl, rfl⟩ ⟨le_b rfl, le_b rfl⟩ ⟨Nat.zero_le _, Nat.zero_le _⟩ (fun v e => mt_X11_state e) rfl rfl (Nat.zero_le _) dX11_tellsBest_120 hw (fun t14 hw => ?_)
                refine R_istore (i := 13) (v := t14) hc [(13, .int t14), (12, .int s7), (0, rf x.w (some l0)), (3, .long l3_34), (5, .int l5_35), (6, .int l6_36), (7, .int l7_45), (8, .int l8_37), (9, .int l9_38), (10, .int l10_5), (11, .int l11_6)] dX11_tellsBest_123 (hnl 13 (le_b rfl)) rfl ?_
                refine R_iload (q := 5) (i := 6) (v := l6_36) hc dX11_tellsBest_125 rfl ?_
                refine R_iload (q := 1) (i := 12) (v := s7) hc dX11_tellsBest_127 rfl ?_
                refine R_iadd hc dX11_tellsBest_129 ?_
                refine R_aload_n (q := 2) (i := 0) (v := (some l0)) hc dX11_tellsBest_130 rfl rfl ?_
                refine R_getR hc fl_11_29 dX11_tellsBest_131 hw (fun t15 hw => ?_)
                refine R_iload (q := 0) (i := 13) (v := t14) hc dX11_tellsBest_134 rfl ?_
                refine R_iaload hc dX11_tellsBest_136 hw (fun t16 hw => ?_)
                refine R_iadd hc dX11_tellsBest_137 ?_
                refine R_aload_n (q := 2) (i := 0) (v := (some l0)) hc dX11_tellsBest_138 rfl rfl ?_
                refine R_getI hc fl_11_142 dX11_tellsBest_139 hw (fun t17 hw => ?_)
                refine R_icmp_eq (tgt := 148) hc dX11_tellsBest_142 (by decide) hw (fun hw => ?_) (fun hw => ?_)
                · refine R_lload_n (q := 3) (i := 3) (v := l3_34) hc dX11_tellsBest_148 rfl rfl ?_
                  refine R_aload_n (q := 2) (i := 0) (v := (some l0)) hc dX11_tellsBest_149 rfl rfl ?_
                  refine R_getR hc fl_11_32 dX11_tellsBest_150 hw (fun t18 hw => ?_)
                  refine R_iload (q := 0) (i := 13) (v := t14) hc dX11_tellsBest_153 rfl ?_
                  refine R_laload hc dX11_tellsBest_155 hw (fun t19 hw => ?_)
                  refine R_lcmp hc dX11_tellsBest_156 ?_
                  refine R_if_lt (tgt := 173) hc dX11_tellsBest_157 (by decide) hw (fun hw => ?_) (fun hw => ?_)
                  · refine R_iconst (v := (1 : Int32)) hc dX11_tellsBest_173 kI_1 ?_
                    refine R_istore (i := 8) (v := (1 : Int32)) hc [(8, .int (1 : Int32)), (13, .int t14), (12, .int s7), (0, rf x.w (some l0)), (3, .long l3_34), (5, .int l5_35), (6, .int l6_36), (7, .int l7_45), (9, .int l9_38), (10, .int l10_5), (11, .int l11_6)] dX11_tellsBest_174 (hnl 8 (le_b rfl)) rfl ?_
                    refine R_aload_n (q := 3) (i := 0) (v := (some l0)) hc dX11_tellsBest_176 rfl rfl ?_
                    refine R_getR hc fl_11_45 dX11_tellsBest_177 hw (fun t20 hw => ?_)
                    refine R_iload (q := 7) (i := 7) (v := l7_45) hc dX11_tellsBest_180 rfl ?_
                    refine R_iload (q := 9) (i := 10) (v := l10_5) hc dX11_tellsBest_182 rfl ?_
                    refine R_iastore hc dX11_tellsBest_184 hw (fun h21 hw => ?_)
                    refine R_aload_n (q := 3) (i := 0) (v := (some l0)) hc dX11_tellsBest_185 rfl rfl ?_
                    refine R_getR hc fl_11_48 dX11_tellsBest_186 hw (fun t22 hw => ?_)
                    refine R_iload (q := 7) (i := 7) (v := l7_45) hc dX11_tellsBest_189 rfl ?_
                    refine R_iload (q := 10) (i := 11) (v := l11_6) hc dX11_tellsBest_191 rfl ?_
                    refine R_iastore hc dX11_tellsBest_193 hw (fun h23 hw => ?_)
                    refine R_iload (q := 5) (i := 5) (v := l5_35) hc dX11_tellsBest_194 rfl ?_
                    refine R_iconst (v := (1 : Int32)) hc dX11_tellsBest_196 kI_1 ?_
                    refine R_iload (q := 9) (i := 10) (v := l10_5) hc dX11_tellsBest_197 rfl ?_
                    refine R_ishl hc dX11_tellsBest_199 ?_
                    refine R_ior hc dX11_tellsBest_200 ?_
                    refine R_nmI hw (fun l5_24 hw => ?_)
                    refine R_istore (i := 5) (v := l5_24) hc [(5, .int l5_24), (8, .int (1 : Int32)), (13, .int t14), (12, .int s7), (0, rf x.w (some l0)), (3, .long l3_34), (6, .int l6_36), (7, .int l7_45), (9, .int l9_38), (10, .int l10_5), (11, .int l11_6)] dX11_tellsBest_201 (hnl 5 (le_b rfl)) rfl ?_
                    refine R_iload (q := 6) (i := 6) (v := l6_36) hc dX11_tellsBest_203 rfl ?_
                    refine R_iload (q := 3) (i := 12) (v := s7) hc dX11_tellsBest_205 rfl ?_
                    refine R_iadd hc dX11_tellsBest_207 ?_
                    refine R_nmI hw (fun l6_25 hw => ?_)
                    refine R_istore (i := 6) (v := l6_25) hc [(6, .int l6_25), (5, .int l5_24), (8, .int (1 : Int32)), (13, .int t14), (12, .int s7), (0, rf x.w (some l0)), (3, .long l3_34), (7, .int l7_45), (9, .int l9_38), (10, .int l10_5), (11, .int l11_6)] dX11_tellsBest_208 (hnl 6 (le_b rfl)) rfl ?_
                    refine R_iinc (q := 8) (i := 9) (v := l9_38) hc [(9, .int (l9_38 + (1 : Int32))), (6, .int l6_25), (5, .int l5_24), (8, .int (1 : Int32)), (13, .int t14), (12, .int s7), (0, rf x.w (some l0)), (3, .long l3_34), (7, .int l7_45), (10, .int l10_5), (11, .int l11_6)] dX11_tellsBest_210 rfl (kC_1 _) (hnl 9 (le_b rfl)) rfl ?_
                    refine R_goto (tgt := 26) hc dX11_tellsBest_213 (by decide) ?_
                    refine R_sub hc [6, 7, 2, 1, 8, 3, 0] rfl ?_
                    exact hX (l3_34, l5_24, l6_25, (1 : Int32), l9_38 + (1 : Int32), h23) (wpO_some hw :)
                  · refine R_lload_n (q := 3) (i := 3) (v := l3_34) hc dX11_tellsBest_160 rfl rfl ?_
                    refine R_aload_n (q := 2) (i := 0) (v := (some l0)) hc dX11_tellsBest_161 rfl rfl ?_
                    refine R_getR hc fl_11_32 dX11_tellsBest_162 hw (fun t26 hw => ?_)
                    refine R_iload (q := 0) (i := 13) (v := t14) hc dX11_tellsBest_165 rfl ?_
                    refine R_laload hc dX11_tellsBest_167 hw (fun t27 hw => ?_)
                    refine R_lsub hc dX11_tellsBest_168 ?_
                    refine R_nmJ hw (fun l3_28 hw => ?_)
                    refine R_lstore_n (i := 3) (v := l3_28) hc [(3, .long l3_28), (13, .int t14), (12, .int s7), (0, rf x.w (some l0)), (5, .int l5_35), (6, .int l6_36), (7, .int l7_45), (8, .int l8_37), (9, .int l9_38), (10, .int l10_5), (11, .int l11_6)] dX11_tellsBest_169 rfl (hnl 4 (le_b rfl)) rfl ?_
                    refine R_goto (tgt := 210) hc dX11_tellsBest_170 (by decide) ?_
                    refine R_iinc (q := 8) (i := 9) (v := l9_38) hc [(9, .int (l9_38 + (1 : Int32))), (3, .long l3_28), (13, .int t14), (12, .int s7), (0, rf x.w (some l0)), (5, .int l5_35), (6, .int l6_36), (7, .int l7_45), (8, .int l8_37), (10, .int l10_5), (11, .int l11_6)] dX11_tellsBest_210 rfl (kC_1 _) (hnl 9 (le_b rfl)) rfl ?_
                    refine R_goto (tgt := 26) hc dX11_tellsBest_213 (by decide) ?_
                    refine R_sub hc [4, 1, 5, 6, 7, 8, 0] rfl ?_
                    exact hX (l3_28, l5_35, l6_36, l8_37, l9_38 + (1 : Int32), h39) (wpO_some hw :)
                · refine R_goto (tgt := 210) hc dX11_tellsBest_145 (by decide) ?_
                  refine R_iinc (q := 8) (i := 9) (v := l9_38) hc [(9, .int (l9_38 + (1 : Int32))), (13, .int t14), (12, .int s7), (0, rf x.w (some l0)), (3, .long l3_34), (5, .int l5_35), (6, .int l6_36), (7, .int l7_45), (8, .int l8_37), (10, .int l10_5), (11, .int l11_6)] dX11_tellsBest_210 rfl (kC_1 _) (hnl 9 (le_b rfl)) rfl ?_
                  refine R_goto (tgt := 26) hc dX11_tellsBest_213 (by decide) ?_
                  refine R_sub hc [3, 4, 5, 6, 7, 8, 0] rfl ?_
                  exact hX (l3_34, l5_35, l6_36, l8_37, l9_38 + (1 : Int32), h39) (wpO_some hw :)
              · refine R_if_le (tgt := 106) hc dX11_tellsBest_70 (by decide) hw (fun hw => ?_) (fun hw => ?_)
                · refine R_iconst (v := (0 : Int32)) hc dX11_tellsBest_106 kI_0 ?_
                  refine R_sub hc [2, 3, 4, 5, 6, 7, 8, 1, 0] rfl ?_
                  exact (wpO_some hw :)
                · refine R_aload_n (q := 2) (i := 0) (v := (some l0)) hc dX11_tellsBest_73 rfl rfl ?_
                  refine R_aload_n (q := 2) (i := 0) (v := (some l0)) hc dX11_tellsBest_74 rfl rfl ?_
                  refine R_getR hc fl_11_45 dX11_tellsBest_75 hw (fun t8 hw => ?_)
                  refine R_iload (q := 6) (i := 7) (v := l7_45) hc dX11_tellsBest_78 rfl ?_
                  refine R_iconst (v := (1 : Int32)) hc dX11_tellsBest_80 kI_1 ?_
                  refine R_isub hc dX11_tellsBest_81 ?_
                  refine R_iaload hc dX11_tellsBest_82 hw (fun t9 hw => ?_)
                  refine R_aload_n (q := 2) (i := 0) (v := (some l0)) hc dX11_tellsBest_83 rfl rfl ?_
                  refine R_getR hc fl_11_48 dX11_tellsBest_84 hw (fun t10 hw => ?_)
                  refine R_iload (q := 6) (i := 7) (v := l7_45) hc dX11_tellsBest_87 rfl ?_
                  refine R_iconst (v := (1 : Int32)) hc dX11_tellsBest_89 kI_1 ?_
                  refine R_isub hc dX11_tellsBest_90 ?_
                  refine R_iaload hc dX11_tellsBest_91 hw (fun t11 hw => ?_)
                  refine R_iload (q := 1) (i := 10) (v := l10_5) hc dX11_tellsBest_92 rfl ?_
                  refine R_iload (q := 0) (i := 11) (v := l11_6) hc dX11_tellsBest_94 rfl ?_
                  refine R_cVI (As := [.int t9, .int t11, .int l10_5, .int l11_6]) (rest := []) (r := (some l0)) (ci := 11) hc ml_11_127 mf_X11_lacks rfl (by decide) ⟨rfl, rfl⟩ ⟨le_b rfl, le_b rfl⟩ ⟨Nat.zero_le _, Nat.zero_le _⟩ (fun a v e => mt_X11_lacks e) rfl rfl (Nat.zero_le _) dX11_tellsBest_96 hw (fun t13 hw => ?_)
                  refine R_if_le (tgt := 106) hc dX11_tellsBest_99 (by decide) hw (fun hw => ?_) (fun hw => ?_)
                  · refine R_iconst (v := (0 : Int32)) hc dX11_tellsBest_106 kI_0 ?_
                    refine R_sub hc [2, 3, 4, 5, 6, 7, 8, 1, 0] rfl ?_
                    exact (wpO_some hw :)
                  · refine R_iconst (v := (1 : Int32)) hc dX11_tellsBest_102 kI_1 ?_
                    refine R_goto (tgt := 107) hc dX11_tellsBest_103 (by decide) ?_
                    refine R_sub hc [2, 3, 4, 5, 6, 7, 8, 1, 0] rfl ?_
                    exact (wpO_some hw :)
            · refine R_goto (tgt := 210) hc dX11_tellsBest_65 (by decide) ?_
              refine R_iinc (q := 8) (i := 9) (v := l9_38) hc [(9, .int (l9_38 + (1 : Int32))), (11, .int l11_6), (10, .int l10_5), (0, rf x.w (some l0)), (3, .long l3_34), (5, .int l5_35), (6, .int l6_36), (7, .int l7_45), (8, .int l8_37)] dX11_tellsBest_210 rfl (kC_1 _) (hnl 9 (le_b rfl)) rfl ?_
              refine R_goto (tgt := 26) hc dX11_tellsBest_213 (by decide) ?_
              refine R_sub hc [3, 4, 5, 6, 7, 8, 0] rfl ?_
              exact hX (l3_34, l5_35, l6_36, l8_37, l9_38 + (1 : Int32), h39) (wpO_some hw :)
theorem dX11_fingerAt_0 : decode cX11_fingerAt 0 = .ok (.aload_n 0, 1) := by decide +kernel
theorem dX11_fingerAt_1 : decode cX11_fingerAt 1 = .ok (.getfield 7, 3) := by decide +kernel
theorem dX11_fingerAt_4 : decode cX11_fingerAt 4 = .ok (.bipush 81, 2) := by decide +kernel
theorem dX11_fingerAt_6 : decode cX11_fingerAt 6 = .ok (.iload_n 1, 1) := by decide +kernel
theorem dX11_fingerAt_7 : decode cX11_fingerAt 7 = .ok (.iadd, 1) := by decide +kernel
theorem dX11_fingerAt_8 : decode cX11_fingerAt 8 = .ok (.iaload, 1) := by decide +kernel
theorem dX11_fingerAt_9 : decode cX11_fingerAt 9 = .ok (.ireturn, 1) := by decide +kernel
def sX11_fingerAt (F : Nat) (l0 : Nat) (l1 : Int32) (h : HP) : Option Int32 :=
  (gR h 11 (some l0) 1).bind fun t1 =>
  (aI h 13 t1 ((81 : Int32) + l1)).bind fun t2 =>
  some t2
abbrev rm_X11_fingerAt : Room := { frames := 0, cells := 0, slots := 0, locals := 0 }
set_option maxRecDepth 100000 in
set_option maxHeartbeats 4000000 in
theorem mt_X11_fingerAt {w : WD} {l : Launch} {F : Nat} {l0 : Nat} {l1 : Int32} {h : HP} {v : Int32} (hs : sX11_fingerAt F l0 l1 h = some v) : MI w l yX11_fingerAt cX11_fingerAt 2 .int rm_X11_fingerAt 0 0 [rf w (some l0), .int l1] h v h := by
  refine of_body [(0, rf w (some l0)), (1, .int l1)] (by decide) (by simp [lg_sl, rf_cat, cat_i, cat_l, cat_a]) (by simp [lv_args, rf_cat, cat_i, cat_l, cat_a]) ?_
  intro x hw_ hnL_ hl_ hc hret hnm hQ
  subst hw_; subst hl_
  have hnl : ∀ i, i < 2 → i < x.nL := fun i h => by rw [hnL_]; exact h
  have hw : wpO (sX11_fingerAt F l0 l1 h) (fun r => r = v) := ⟨_, hs, rfl⟩
  unfold sX11_fingerAt at hw
  refine R_aload_n (q := 0) (i := 0) (v := (some l0)) hc dX11_fingerAt_0 rfl rfl ?_
  refine R_getR hc fl_11_7 dX11_fingerAt_1 hw (fun t1 hw => ?_)
  refine R_bipush (v := (81 : Int32)) hc dX11_fingerAt_4 kB_81 ?_
  refine R_iload_n (q := 1) (i := 1) (v := l1) hc dX11_fingerAt_6 rfl rfl ?_
  refine R_iadd hc dX11_fingerAt_7 ?_
  refine R_iaload hc dX11_fingerAt_8 hw (fun t2 hw => ?_)
  exact R_ireturnP hc hret rfl hQ hw dX11_fingerAt_9
theorem dX11_turnAt_0 : decode cX11_turnAt 0 = .ok (.aload_n 0, 1) := by decide +kernel
theorem dX11_turnAt_1 : decode cX11_turnAt 1 = .ok (.getfield 7, 3) := by decide +kernel
theorem dX11_turnAt_4 : decode cX11_turnAt 4 = .ok (.bipush 89, 2) := by decide +kernel
theorem dX11_turnAt_6 : decode cX11_turnAt 6 = .ok (.iload_n 1, 1) := by decide +kernel
theorem dX11_turnAt_7 : decode cX11_turnAt 7 = .ok (.iadd, 1) := by decide +kernel
theorem dX11_turnAt_8 : decode cX11_turnAt 8 = .ok (.iaload, 1) := by decide +kernel
theorem dX11_turnAt_9 : decode cX11_turnAt 9 = .ok (.ireturn, 1) := by decide +kernel
def sX11_turnAt (F : Nat) (l0 : Nat) (l1 : Int32) (h : HP) : Option Int32 :=
  (gR h 11 (some l0) 1).bind fun t1 =>
  (aI h 13 t1 ((89 : Int32) + l1)).bind fun t2 =>
  some t2
abbrev rm_X11_turnAt : Room := { frames := 0, cells := 0, slots := 0, locals := 0 }
set_option maxRecDepth 100000 in
set_option maxHeartbeats 4000000 in
theorem mt_X11_turnAt {w : WD} {l : Launch} {F : Nat} {l0 : Nat} {l1 : Int32} {h : HP} {v : Int32} (hs : sX11_turnAt F l0 l1 h = some v) : MI w l yX11_turnAt cX11_turnAt 2 .int rm_X11_turnAt 0 0 [rf w (some l0), .int l1] h v h := by
  refine of_body [(0, rf w (some l0)), (1, .int l1)] (by decide) (by simp [lg_sl, rf_cat, cat_i, cat_l, cat_a]) (by simp [lv_args, rf_cat, cat_i, cat_l, cat_a]) ?_
  intro x hw_ hnL_ hl_ hc hret hnm hQ
  subst hw_; subst hl_
  have hnl : ∀ i, i < 2 → i < x.nL := fun i h => by rw [hnL_]; exact h
  have hw : wpO (sX11_turnAt F l0 l1 h) (fun r => r = v) := ⟨_, hs, rfl⟩
  unfold sX11_turnAt at hw
  refine R_aload_n (q := 0) (i := 0) (v := (some l0)) hc dX11_turnAt_0 rfl rfl ?_
  refine R_getR hc fl_11_7 dX11_turnAt_1 hw (fun t1 hw => ?_)
  refine R_bipush (v := (89 : Int32)) hc dX11_turnAt_4 kB_89 ?_
  refine R_iload_n (q := 1) (i := 1) (v := l1) hc dX11_turnAt_6 rfl rfl ?_
  refine R_iadd hc dX11_turnAt_7 ?_
  refine R_iaload hc dX11_turnAt_8 hw (fun t2 hw => ?_)
  exact R_ireturnP hc hret rfl hQ hw dX11_turnAt_9
theorem dX11_lackBehind_0 : decode cX11_lackBehind 0 = .ok (.aload_n 0, 1) := by decide +kernel
theorem dX11_lackBehind_1 : decode cX11_lackBehind 1 = .ok (.aload_n 0, 1) := by decide +kernel
theorem dX11_lackBehind_2 : decode cX11_lackBehind 2 = .ok (.iload_n 1, 1) := by decide +kernel
theorem dX11_lackBehind_3 : decode cX11_lackBehind 3 = .ok (.invokevirtual 156, 3) := by decide +kernel
theorem dX11_lackBehind_6 : decode cX11_lackBehind 6 = .ok (.aload_n 0, 1) := by decide +kernel
theorem dX11_lackBehind_7 : decode cX11_lackBehind 7 = .ok (.iload_n 1, 1) := by decide +kernel
theorem dX11_lackBehind_8 : decode cX11_lackBehind 8 = .ok (.invokevirtual 160, 3) := by decide +kernel
theorem dX11_lackBehind_11 : decode cX11_lackBehind 11 = .ok (.aload_n 0, 1) := by decide +kernel
theorem dX11_lackBehind_12 : decode cX11_lackBehind 12 = .ok (.iload_n 1, 1) := by decide +kernel
theorem dX11_lackBehind_13 : decode cX11_lackBehind 13 = .ok (.iconst 1, 1) := by decide +kernel
theorem dX11_lackBehind_14 : decode cX11_lackBehind 14 = .ok (.iadd, 1) := by decide +kernel
theorem dX11_lackBehind_15 : decode cX11_lackBehind 15 = .ok (.invokevirtual 156, 3) := by decide +kernel
theorem dX11_lackBehind_18 : decode cX11_lackBehind 18 = .ok (.aload_n 0, 1) := by decide +kernel
theorem dX11_lackBehind_19 : decode cX11_lackBehind 19 = .ok (.iload_n 1, 1) := by decide +kernel
theorem dX11_lackBehind_20 : decode cX11_lackBehind 20 = .ok (.iconst 1, 1) := by decide +kernel
theorem dX11_lackBehind_21 : decode cX11_lackBehind 21 = .ok (.iadd, 1) := by decide +kernel
theorem dX11_lackBehind_22 : decode cX11_lackBehind 22 = .ok (.invokevirtual 160, 3) := by decide +kernel
theorem dX11_lackBehind_25 : decode cX11_lackBehind 25 = .ok (.invokevirtual 127, 3) := by decide +kernel
theorem dX11_lackBehind_28 : decode cX11_lackBehind 28 = .ok (.ireturn, 1) := by decide +kernel
def sX11_lackBehind (F : Nat) (l0 : Nat) (l1 : Int32) (h : HP) : Option Int32 :=
  (dO h 11 (some l0)).bind fun a1 =>
  (sX11_fingerAt F a1 l1 h).bind fun t2 =>
  (dO h 11 (some l0)).bind fun a3 =>
  (sX11_turnAt F a3 l1 h).bind fun t4 =>
  (dO h 11 (some l0)).bind fun a5 =>
  (sX11_fingerAt F a5 (l1 + (1 : Int32)) h).bind fun t6 =>
  (dO h 11 (some l0)).bind fun a7 =>
  (sX11_turnAt F a7 (l1 + (1 : Int32)) h).bind fun t8 =>
  (dO h 11 (some l0)).bind fun a9 =>
  (sX11_lacks F a9 t2 t4 t6 t8 h).bind fun t10 =>
  some t10
abbrev rm_X11_lackBehind : Room := { frames := 4, cells := 0, slots := 0, locals := 96 }
set_option maxRecDepth 100000 in
set_option maxHeartbeats 4000000 in
theorem mt_X11_lackBehind {w : WD} {l : Launch} {F : Nat} {l0 : Nat} {l1 : Int32} {h : HP} {v : Int32} (hs : sX11_lackBehind F l0 l1 h = some v) : MI w l yX11_lackBehind cX11_lackBehind 2 .int rm_X11_lackBehind 0 0 [rf w (some l0), .int l1] h v h := by
  refine of_body [(0, rf w (some l0)), (1, .int l1)] (by decide) (by simp [lg_sl, rf_cat, cat_i, cat_l, cat_a]) (by simp [lv_args, rf_cat, cat_i, cat_l, cat_a]) ?_
  intro x hw_ hnL_ hl_ hc hret hnm hQ
  subst hw_; subst hl_
  have hnl : ∀ i, i < 2 → i < x.nL := fun i h => by rw [hnL_]; exact h
  have hw : wpO (sX11_lackBehind F l0 l1 h) (fun r => r = v) := ⟨_, hs, rfl⟩
  unfold sX11_lackBehind at hw
  refine R_aload_n (q := 0) (i := 0) (v := (some l0)) hc dX11_lackBehind_0 rfl rfl ?_
  refine R_aload_n (q := 0) (i := 0) (v := (some l0)) hc dX11_lackBehind_1 rfl rfl ?_
  refine R_iload_n (q := 1) (i := 1) (v := l1) hc dX11_lackBehind_2 rfl rfl ?_
  refine R_cVI (As := [.int l1]) (rest := [rf x.w (some l0)]) (r := (some l0)) (ci := 11) hc ml_11_156 mf_X11_fingerAt rfl (by decide) ⟨rfl, rfl⟩ ⟨le_b rfl, le_b rfl⟩ ⟨Nat.zero_le _, Nat.zero_le _⟩ (fun a v e => mt_X11_fingerAt e) rfl rfl (le_b rfl) dX11_lackBehind_3 hw (fun t2 hw => ?_)
  refine R_aload_n (q := 0) (i := 0) (v := (some l0)) hc dX11_lackBehind_6 rfl rfl ?_
  refine R_iload_n (q := 1) (i := 1) (v := l1) hc dX11_lackBehind_7 rfl rfl ?_
  refine R_cVI (As := [.int l1]) (rest := [.int t2, rf x.w (some l0)]) (r := (some l0)) (ci := 11) hc ml_11_160 mf_X11_turnAt rfl (by decide) ⟨rfl, rfl⟩ ⟨le_b rfl, le_b rfl⟩ ⟨Nat.zero_le _, Nat.zero_le _⟩ (fun a v e => mt_X11_turnAt e) rfl rfl (le_b rfl) dX11_lackBehind_8 hw (fun t4 hw => ?_)
  refine R_aload_n (q := 0) (i := 0) (v := (some l0)) hc dX11_lackBehind_11 rfl rfl ?_
  refine R_iload_n (q := 1) (i := 1) (v := l1) hc dX11_lackBehind_12 rfl rfl ?_
  refine R_iconst (v := (1 : Int32)) hc dX11_lackBehind_13 kI_1 ?_
  refine R_iadd hc dX11_lackBehind_14 ?_
  refine R_cVI (As := [.int (l1 + (1 : Int32))]) (rest := [.int t4, .int t2, rf x.w (some l0)]) (r := (some l0)) (ci := 11) hc ml_11_156 mf_X11_fingerAt rfl (by decide) ⟨rfl, rfl⟩ ⟨le_b rfl, le_b rfl⟩ ⟨Nat.zero_le _, Nat.zero_le _⟩ (fun a v e => mt_X11_fingerAt e) rfl rfl (le_b rfl) dX11_lackBehind_15 hw (fun t6 hw => ?_)
  refine R_aload_n (q := 0) (i := 0) (v := (some l0)) hc dX11_lackBehind_18 rfl rfl ?_
  refine R_iload_n (q := 1) (i := 1) (v := l1) hc dX11_lackBehind_19 rfl rfl ?_
  refine R_iconst (v := (1 : Int32)) hc dX11_lackBehind_20 kI_1 ?_
  refine R_iadd hc dX11_lackBehind_21 ?_
  refine R_cVI (As := [.int (l1 + (1 : Int32))]) (rest := [.int t6, .int t4, .int t2, rf x.w (some l0)]) (r := (some l0)) (ci := 11) hc ml_11_160 mf_X11_turnAt rfl (by decide) ⟨rfl, rfl⟩ ⟨le_b rfl, le_b rfl⟩ ⟨Nat.zero_le _, Nat.zero_le _⟩ (fun a v e => mt_X11_turnAt e) rfl rfl (le_b rfl) dX11_lackBehind_22 hw (fun t8 hw => ?_)
  refine R_cVI (As := [.int t2, .int t4, .int t6, .int t8]) (rest := []) (r := (some l0)) (ci := 11) hc ml_11_127 mf_X11_lacks rfl (by decide) ⟨rfl, rfl⟩ ⟨le_b rfl, le_b rfl⟩ ⟨Nat.zero_le _, Nat.zero_le _⟩ (fun a v e => mt_X11_lacks e) rfl rfl (Nat.zero_le _) dX11_lackBehind_25 hw (fun t10 hw => ?_)
  exact R_ireturnP hc hret rfl hQ hw dX11_lackBehind_28
