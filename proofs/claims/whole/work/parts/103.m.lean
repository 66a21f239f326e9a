theorem dX10_isNet_0 : decode cX10_isNet 0 = .ok (.iload_n 0, 1) := by decide +kernel
theorem dX10_isNet_1 : decode cX10_isNet 1 = .ok (.ifCond .lt 13, 3) := by decide +kernel
theorem dX10_isNet_4 : decode cX10_isNet 4 = .ok (.iload_n 0, 1) := by decide +kernel
theorem dX10_isNet_5 : decode cX10_isNet 5 = .ok (.bipush 12, 2) := by decide +kernel
theorem dX10_isNet_7 : decode cX10_isNet 7 = .ok (.if_icmp .ge 7, 3) := by decide +kernel
theorem dX10_isNet_10 : decode cX10_isNet 10 = .ok (.iconst 1, 1) := by decide +kernel
theorem dX10_isNet_11 : decode cX10_isNet 11 = .ok (.goto 4, 3) := by decide +kernel
theorem dX10_isNet_14 : decode cX10_isNet 14 = .ok (.iconst 0, 1) := by decide +kernel
theorem dX10_isNet_15 : decode cX10_isNet 15 = .ok (.ireturn, 1) := by decide +kernel
def sX10_isNet (F : Nat) (l0 : Int32) (h : HP) : Option Int32 :=
  if l0 < 0 then
    some (0 : Int32)
  else
    if (12 : Int32) ≤ l0 then
      some (0 : Int32)
    else
      some (1 : Int32)
abbrev rm_X10_isNet : Room := { frames := 0, cells := 0, slots := 0, locals := 0 }
set_option maxRecDepth 100000 in
set_option maxHeartbeats 4000000 in
theorem mt_X10_isNet {w : WD} {l : Launch} {F : Nat} {l0 : Int32} {h : HP} {v : Int32} (hs : sX10_isNet F l0 h = some v) : MI w l yX10_isNet cX10_isNet 1 .boolean rm_X10_isNet 0 0 [.int l0] h v h := by
  refine of_body [(0, .int l0)] (by decide) (by simp [lg_sl, rf_cat, cat_i, cat_l, cat_a]) (by simp [lv_args, rf_cat, cat_i, cat_l, cat_a]) ?_
  intro x hw_ hnL_ hl_ hc hret hnm hQ
  subst hw_; subst hl_
  have hnl : ∀ i, i < 1 → i < x.nL := fun i h => by rw [hnL_]; exact h
  have hw : wpO (sX10_isNet F l0 h) (fun r => r = v) := ⟨_, hs, rfl⟩
  unfold sX10_isNet at hw
  refine R_iload_n (q := 0) (i := 0) (v := l0) hc dX10_isNet_0 rfl rfl ?_
  refine R_if_lt (tgt := 14) hc dX10_isNet_1 (by decide) hw (fun hw => ?_) (fun hw => ?_)
  · refine R_iconst (v := (0 : Int32)) hc dX10_isNet_14 kI_0 ?_
    exact R_ireturnP hc hret rfl hQ hw dX10_isNet_15
  · refine R_iload_n (q := 0) (i := 0) (v := l0) hc dX10_isNet_4 rfl rfl ?_
    refine R_bipush (v := (12 : Int32)) hc dX10_isNet_5 kB_12 ?_
    refine R_icmp_ge (tgt := 14) hc dX10_isNet_7 (by decide) hw (fun hw => ?_) (fun hw => ?_)
    · refine R_iconst (v := (0 : Int32)) hc dX10_isNet_14 kI_0 ?_
      exact R_ireturnP hc hret rfl hQ hw dX10_isNet_15
    · refine R_iconst (v := (1 : Int32)) hc dX10_isNet_10 kI_1 ?_
      refine R_goto (tgt := 15) hc dX10_isNet_11 (by decide) ?_
      exact R_ireturnP hc hret rfl hQ hw dX10_isNet_15
theorem dX9_hasWire_0 : decode cX9_hasWire 0 = .ok (.aload_n 0, 1) := by decide +kernel
theorem dX9_hasWire_1 : decode cX9_hasWire 1 = .ok (.getfield 24, 3) := by decide +kernel
theorem dX9_hasWire_4 : decode cX9_hasWire 4 = .ok (.iload_n 1, 1) := by decide +kernel
theorem dX9_hasWire_5 : decode cX9_hasWire 5 = .ok (.iaload, 1) := by decide +kernel
theorem dX9_hasWire_6 : decode cX9_hasWire 6 = .ok (.iconst (-1), 1) := by decide +kernel
theorem dX9_hasWire_7 : decode cX9_hasWire 7 = .ok (.if_icmp .eq 7, 3) := by decide +kernel
theorem dX9_hasWire_10 : decode cX9_hasWire 10 = .ok (.iconst 1, 1) := by decide +kernel
theorem dX9_hasWire_11 : decode cX9_hasWire 11 = .ok (.goto 4, 3) := by decide +kernel
theorem dX9_hasWire_14 : decode cX9_hasWire 14 = .ok (.iconst 0, 1) := by decide +kernel
theorem dX9_hasWire_15 : decode cX9_hasWire 15 = .ok (.ireturn, 1) := by decide +kernel
def sX9_hasWire (F : Nat) (l0 : Nat) (l1 : Int32) (h : HP) : Option Int32 :=
  (gR h 9 (some l0) 5).bind fun t1 =>
  (aI h 13 t1 l1).bind fun t2 =>
  if t2 = (-1 : Int32) then
    some (0 : Int32)
  else
    some (1 : Int32)
abbrev rm_X9_hasWire : Room := { frames := 0, cells := 0, slots := 0, locals := 0 }
set_option maxRecDepth 100000 in
set_option maxHeartbeats 4000000 in
theorem mt_X9_hasWire {w : WD} {l : Launch} {F : Nat} {l0 : Nat} {l1 : Int32} {h : HP} {v : Int32} (hs : sX9_hasWire F l0 l1 h = some v) : MI w l yX9_hasWire cX9_hasWire 2 .boolean rm_X9_hasWire 0 0 [rf w (some l0), .int l1] h v h := by
  refine of_body [(0, rf w (some l0)), (1, .int l1)] (by decide) (by simp [lg_sl, rf_cat, cat_i, cat_l, cat_a]) (by simp [lv_args, rf_cat, cat_i, cat_l, cat_a]) ?_
  intro x hw_ hnL_ hl_ hc hret hnm hQ
  subst hw_; subst hl_
  have hnl : ∀ i, i < 2 → i < x.nL := fun i h => by rw [hnL_]; exact h
  have hw : wpO (sX9_hasWire F l0 l1 h) (fun r => r = v) := ⟨_, hs, rfl⟩
  unfold sX9_hasWire at hw
  refine R_aload_n (q := 0) (i := 0) (v := (some l0)) hc dX9_hasWire_0 rfl rfl ?_
  refine R_getR hc fl_9_24 dX9_hasWire_1 hw (fun t1 hw => ?_)
  refine R_iload_n (q := 1) (i := 1) (v := l1) hc dX9_hasWire_4 rfl rfl ?_
  refine R_iaload hc dX9_hasWire_5 hw (fun t2 hw => ?_)
  refine R_iconst (v := (-1 : Int32)) hc dX9_hasWire_6 kI_m1 ?_
  refine R_icmp_eq (tgt := 14) hc dX9_hasWire_7 (by decide) hw (fun hw => ?_) (fun hw => ?_)
  · refine R_iconst (v := (0 : Int32)) hc dX9_hasWire_14 kI_0 ?_
    exact R_ireturnP hc hret rfl hQ hw dX9_hasWire_15
  · refine R_iconst (v := (1 : Int32)) hc dX9_hasWire_10 kI_1 ?_
    refine R_goto (tgt := 15) hc dX9_hasWire_11 (by decide) ?_
    exact R_ireturnP hc hret rfl hQ hw dX9_hasWire_15
theorem dX9_total_0 : decode cX9_total 0 = .ok (.iconst 0, 1) := by decide +kernel
theorem dX9_total_1 : decode cX9_total 1 = .ok (.istore_n 1, 1) := by decide +kernel
theorem dX9_total_2 : decode cX9_total 2 = .ok (.iconst 0, 1) := by decide +kernel
theorem dX9_total_3 : decode cX9_total 3 = .ok (.istore_n 2, 1) := by decide +kernel
theorem dX9_total_4 : decode cX9_total 4 = .ok (.iload_n 2, 1) := by decide +kernel
theorem dX9_total_5 : decode cX9_total 5 = .ok (.bipush 12, 2) := by decide +kernel
theorem dX9_total_7 : decode cX9_total 7 = .ok (.if_icmp .ge 25, 3) := by decide +kernel
theorem dX9_total_10 : decode cX9_total 10 = .ok (.iload_n 1, 1) := by decide +kernel
theorem dX9_total_11 : decode cX9_total 11 = .ok (.aload_n 0, 1) := by decide +kernel
theorem dX9_total_12 : decode cX9_total 12 = .ok (.iload_n 2, 1) := by decide +kernel
theorem dX9_total_13 : decode cX9_total 13 = .ok (.invokevirtual 116, 3) := by decide +kernel
theorem dX9_total_16 : decode cX9_total 16 = .ok (.ifCond .eq 7, 3) := by decide +kernel
theorem dX9_total_19 : decode cX9_total 19 = .ok (.iconst 1, 1) := by decide +kernel
theorem dX9_total_20 : decode cX9_total 20 = .ok (.goto 4, 3) := by decide +kernel
theorem dX9_total_23 : decode cX9_total 23 = .ok (.iconst 0, 1) := by decide +kernel
theorem dX9_total_24 : decode cX9_total 24 = .ok (.iadd, 1) := by decide +kernel
theorem dX9_total_25 : decode cX9_total 25 = .ok (.istore_n 1, 1) := by decide +kernel
theorem dX9_total_26 : decode cX9_total 26 = .ok (.iinc 2 1, 3) := by decide +kernel
theorem dX9_total_29 : decode cX9_total 29 = .ok (.goto (-25), 3) := by decide +kernel
theorem dX9_total_32 : decode cX9_total 32 = .ok (.iload_n 1, 1) := by decide +kernel
theorem dX9_total_33 : decode cX9_total 33 = .ok (.ireturn, 1) := by decide +kernel
def sX9_total_L4 (F : Nat) (l0 : Nat) (l1 : Int32) (l2 : Int32) (h : HP) : Option ((Int32 × Int32) ⊕ Int32) :=
  if (12 : Int32) ≤ l2 then
    some (.inr l1)
  else
    (dO h 9 (some l0)).bind fun a1 =>
    (sX9_hasWire F a1 l2 h).bind fun t2 =>
    if t2 = 0 then
      nmI (l1 + (0 : Int32)) fun l1_3 =>
      some (.inl (l1_3, l2 + (1 : Int32)))
    else
      nmI (l1 + (1 : Int32)) fun l1_4 =>
      some (.inl (l1_4, l2 + (1 : Int32)))
def sX9_total (F : Nat) (l0 : Nat) (h : HP) : Option Int32 :=
  (iter (fun s => sX9_total_L4 F l0 s.1 s.2 h) F ((0 : Int32), (0 : Int32))).bind fun l1_5 =>
    some l1_5
abbrev rm_X9_total : Room := { frames := 1, cells := 0, slots := 0, locals := 21 }
set_option maxRecDepth 100000 in
set_option maxHeartbeats 4000000 in
theorem mt_X9_total {w : WD} {l : Launch} {F : Nat} {l0 : Nat} {h : HP} {v : Int32} (hs : sX9_total F l0 h = some v) : MI w l yX9_total cX9_total 3 .int rm_X9_total 0 0 [rf w (some l0)] h v h := by
  refine of_body [(0, rf w (some l0))] (by decide) (by simp [lg_sl, rf_cat, cat_i, cat_l, cat_a]) (by simp [lv_args, rf_cat, cat_i, cat_l, cat_a]) ?_
  intro x hw_ hnL_ hl_ hc hret hnm hQ
  subst hw_; subst hl_
  have hnl : ∀ i, i < 3 → i < x.nL := fun i h => by rw [hnL_]; exact h
  have hw : wpO (sX9_total F l0 h) (fun r => r = v) := ⟨_, hs, rfl⟩
  unfold sX9_total at hw
  refine R_iconst (v := (0 : Int32)) hc dX9_total_0 kI_0 ?_
  refine R_istore_n (i := 1) (v := (0 : Int32)) hc [(1, .int (0 : Int32)), (0, rf x.w (some l0))] dX9_total_1 rfl (hnl 1 (le_b rfl)) rfl ?_
  refine R_iconst (v := (0 : Int32)) hc dX9_total_2 kI_0 ?_
  refine R_istore_n (i := 2) (v := (0 : Int32)) hc [(2, .int (0 : Int32)), (1, .int (0 : Int32)), (0, rf x.w (some l0))] dX9_total_3 rfl (hnl 2 (le_b rfl)) rfl ?_
  refine R_sub hc [2, 1, 0] rfl ?_
  refine R_loop (P := fun (s : (Int32 × Int32)) => Rn x 0 0 4 [(0, rf x.w (some l0)), (1, .int s.1), (2, .int s.2)] [] h) (fun l1_5 => Rn x 0 0 32 [(1, .int l1_5)] [] h) hw (fun r hw => ?_) (fun X hX s hw => ?_)
  · revert r hw
    intro l1_5 hw
    show Rn x 0 0 32 [(1, .int l1_5)] [] h
    refine R_iload_n (q := 0) (i := 1) (v := l1_5) hc dX9_total_32 rfl rfl ?_
    exact R_ireturnP hc hret rfl hQ hw dX9_total_33
  · obtain ⟨l1_7, l2_8⟩ := s
    show Rn x 0 0 4 [(0, rf x.w (some l0)), (1, .int l1_7), (2, .int l2_8)] [] h
    have hw : wpO (sX9_total_L4 F l0 l1_7 l2_8 h) _ := hw
    unfold sX9_total_L4 at hw
    refine R_iload_n (q := 2) (i := 2) (v := l2_8) hc dX9_total_4 rfl rfl ?_
    refine R_bipush (v := (12 : Int32)) hc dX9_total_5 kB_12 ?_
    refine R_icmp_ge (tgt := 32) hc dX9_total_7 (by decide) hw (fun hw => ?_) (fun hw => ?_)
    · refine R_sub hc [1] rfl ?_
      exact (wpO_some hw :)
    · refine R_iload_n (q := 1) (i := 1) (v := l1_7) hc dX9_total_10 rfl rfl ?_
      refine R_aload_n (q := 0) (i := 0) (v := (some l0)) hc dX9_total_11 rfl rfl ?_
      refine R_iload_n (q := 2) (i := 2) (v := l2_8) hc dX9_total_12 rfl rfl ?_
      refine R_cVI (As := [.int l2_8]) (rest := [.int l1_7]) (r := (some l0)) (ci := 9) hc ml_9_116 mf_X9_hasWire rfl (by decide) ⟨rfl, rfl⟩ ⟨le_b rfl, le_b rfl⟩ ⟨Nat.zero_le _, Nat.zero_le _⟩ (fun a v e => mt_X9_hasWire e) rfl rfl (le_b rfl) dX9_total_13 hw (fun t2 hw => ?_)
      refine R_if_eq (tgt := 23) hc dX9_total_16 (by decide) hw (fun hw => ?_) (fun hw => ?_)
      · refine R_iconst (v := (0 : Int32)) hc dX9_total_23 kI_0 ?_
        refine R_iadd hc dX9_total_24 ?_
        refine R_nmI hw (fun l1_3 hw => ?_)
        refine R_istore_n (i := 1) (v := l1_3) hc [(1, .int l1_3), (0, rf x.w (some l0)), (2, .int l2_8)] dX9_total_25 rfl (hnl 1 (le_b rfl)) rfl ?_
        refine R_iinc (q := 2) (i := 2) (v := l2_8) hc [(2, .int (l2_8 + (1 : Int32))), (1, .int l1_3), (0, rf x.w (some l0))] dX9_total_26 rfl (kC_1 _) (hnl 2 (le_b rfl)) rfl ?_
        refine R_goto (tgt := 4) hc dX9_total_29 (by decide) ?_
        refine R_sub hc [2, 1, 0] rfl ?_
        exact hX (l1_3, l2_8 + (1 : Int32)) (wpO_some hw :)
      · refine R_iconst (v := (1 : Int32)) hc dX9_total_19 kI_1 ?_
        refine R_goto (tgt := 24) hc dX9_total_20 (by decide) ?_
        refine R_iadd hc dX9_total_24 ?_
        refine R_nmI hw (fun l1_4 hw => ?_)
        refine R_istore_n (i := 1) (v := l1_4) hc [(1, .int l1_4), (0, rf x.w (some l0)), (2, .int l2_8)] dX9_total_25 rfl (hnl 1 (le_b rfl)) rfl ?_
        refine R_iinc (q := 2) (i := 2) (v := l2_8) hc [(2, .int (l2_8 + (1 : Int32))), (1, .int l1_4), (0, rf x.w (some l0))] dX9_total_26 rfl (kC_1 _) (hnl 2 (le_b rfl)) rfl ?_
        refine R_goto (tgt := 4) hc dX9_total_29 (by decide) ?_
        refine R_sub hc [2, 1, 0] rfl ?_
        exact hX (l1_4, l2_8 + (1 : Int32)) (wpO_some hw :)
theorem dX9_greatestCut_0 : decode cX9_greatestCut 0 = .ok (.iconst 0, 1) := by decide +kernel
theorem dX9_greatestCut_1 : decode cX9_greatestCut 1 = .ok (.istore_n 2, 1) := by decide +kernel
theorem dX9_greatestCut_2 : decode cX9_greatestCut 2 = .ok (.iconst 0, 1) := by decide +kernel
theorem dX9_greatestCut_3 : decode cX9_greatestCut 3 = .ok (.istore_n 3, 1) := by decide +kernel
theorem dX9_greatestCut_4 : decode cX9_greatestCut 4 = .ok (.iload_n 3, 1) := by decide +kernel
theorem dX9_greatestCut_5 : decode cX9_greatestCut 5 = .ok (.iload_n 1, 1) := by decide +kernel
theorem dX9_greatestCut_6 : decode cX9_greatestCut 6 = .ok (.if_icmp .ge 20, 3) := by decide +kernel
theorem dX9_greatestCut_9 : decode cX9_greatestCut 9 = .ok (.iload_n 2, 1) := by decide +kernel
theorem dX9_greatestCut_10 : decode cX9_greatestCut 10 = .ok (.aload_n 0, 1) := by decide +kernel
theorem dX9_greatestCut_11 : decode cX9_greatestCut 11 = .ok (.getfield 33, 3) := by decide +kernel
theorem dX9_greatestCut_14 : decode cX9_greatestCut 14 = .ok (.iload_n 3, 1) := by decide +kernel
theorem dX9_greatestCut_15 : decode cX9_greatestCut 15 = .ok (.iaload, 1) := by decide +kernel
theorem dX9_greatestCut_16 : decode cX9_greatestCut 16 = .ok (.invokestatic 88, 3) := by decide +kernel
theorem dX9_greatestCut_19 : decode cX9_greatestCut 19 = .ok (.istore_n 2, 1) := by decide +kernel
theorem dX9_greatestCut_20 : decode cX9_greatestCut 20 = .ok (.iinc 3 1, 3) := by decide +kernel
theorem dX9_greatestCut_23 : decode cX9_greatestCut 23 = .ok (.goto (-19), 3) := by decide +kernel
theorem dX9_greatestCut_26 : decode cX9_greatestCut 26 = .ok (.iload_n 2, 1) := by decide +kernel
theorem dX9_greatestCut_27 : decode cX9_greatestCut 27 = .ok (.ireturn, 1) := by decide +kernel
def sX9_greatestCut_L4 (F : Nat) (l0 : Nat) (l1 : Int32) (l2 : Int32) (l3 : Int32) (h : HP) : Option ((Int32 × Int32) ⊕ Int32) :=
  if l1 ≤ l3 then
    some (.inr l2)
  else
    (gR h 9 (some l0) 8).bind fun t1 =>
    (aI h 13 t1 l3).bind fun t2 =>
    nmI (jmx l2 t2) fun l2_3 =>
    some (.inl (l2_3, l3 + (1 : Int32)))
def sX9_greatestCut (F : Nat) (l0 : Nat) (l1 : Int32) (h : HP) : Option Int32 :=
  (iter (fun s => sX9_greatestCut_L4 F l0 l1 s.1 s.2 h) F ((0 : Int32), (0 : Int32))).bind fun l2_4 =>
    some l2_4
abbrev rm_X9_greatestCut : Room := { frames := 1, cells := 0, slots := 0, locals := 24 }
set_option maxRecDepth 100000 in
set_option maxHeartbeats 4000000 in
theorem mt_X9_greatestCut {w : WD} {l : Launch} {F : Nat} {l0 : Nat} {l1 : Int32} {h : HP} {v : Int32} (hs : sX9_greatestCut F l0 l1 h = some v) : MI w l yX9_greatestCut cX9_greatestCut 4 .int rm_X9_greatestCut 0 0 [rf w (some l0), .int l1] h v h := by
  refine of_body [(0, rf w (some l0)), (1, .int l1)] (by decide) (by simp [lg_sl, rf_cat, cat_i, cat_l, cat_a]) (by simp [lv_args, rf_cat, cat_i, cat_l, cat_a]) ?_
  intro x hw_ hnL_ hl_ hc hret hnm hQ
  subst hw_; subst hl_
  have hnl : ∀ i, i < 4 → i < x.nL := fun i h => by rw [hnL_]; exact h
  have hw : wpO (sX9_greatestCut F l0 l1 h) (fun r => r = v) := ⟨_, hs, rfl⟩
  unfold sX9_greatestCut at hw
  refine R_iconst (v := (0 : Int32)) hc dX9_greatestCut_0 kI_0 ?_
  refine R_istore_n (i := 2) (v := (0 : Int32)) hc [(2, .int (0 : Int32)), (0, rf x.w (some l0)), (1, .int l1)] dX9_greatestCut_1 rfl (hnl 2 (le_b rfl)) rfl ?_
  refine R_iconst (v := (0 : Int32)) hc dX9_greatestCut_2 kI_0 ?_
  refine R_istore_n (i := 3) (v := (0 : Int32)) hc [(3, .int (0 : Int32)), (2, .int (0 : Int32)), (0, rf x.w (some l0)), (1, .int l1)] dX9_greatestCut_3 rfl (hnl 3 (le_b rfl)) rfl ?_
  refine R_sub hc [2, 3, 1, 0] rfl ?_
  refine R_loop (P := fun (s : (Int32 × Int32)) => Rn x 0 0 4 [(0, rf x.w (some l0)), (1, .int l1), (2, .int s.1), (3, .int s.2)] [] h) (fun l2_4 => Rn x 0 0 26 [(2, .int l2_4)] [] h) hw (fun r hw => ?_) (fun X hX s hw => ?_)
  · revert r hw
    intro l2_4 hw
    show Rn x 0 0 26 [(2, .int l2_4)] [] h
    refine R_iload_n (q := 0) (i := 2) (v := l2_4) hc dX9_greatestCut_26 rfl rfl ?_
    exact R_ireturnP hc hret rfl hQ hw dX9_greatestCut_27
  · obtain ⟨l2_6, l3_7⟩ := s
    show Rn x 0 0 4 [(0, rf x.w (some l0)), (1, .int l1), (2, .int l2_6), (3, .int l3_7)] [] h
    have hw : wpO (sX9_greatestCut_L4 F l0 l1 l2_6 l3_7 h) _ := hw
    unfold sX9_greatestCut_L4 at hw
    refine R_iload_n (q := 3) (i := 3) (v := l3_7) hc dX9_greatestCut_4 rfl rfl ?_
    refine R_iload_n (q := 1) (i := 1) (v := l1) hc dX9_greatestCut_5 rfl rfl ?_
    refine R_icmp_ge (tgt := 26) hc dX9_greatestCut_6 (by decide) hw (fun hw => ?_) (fun hw => ?_)
    · refine R_sub hc [2] rfl ?_
      exact (wpO_some hw :)
    · refine R_iload_n (q := 2) (i := 2) (v := l2_6) hc dX9_greatestCut_9 rfl rfl ?_
      refine R_aload_n (q := 0) (i := 0) (v := (some l0)) hc dX9_greatestCut_10 rfl rfl ?_
      refine R_getR hc fl_9_33 dX9_greatestCut_11 hw (fun t1 hw => ?_)
      refine R_iload_n (q := 3) (i := 3) (v := l3_7) hc dX9_greatestCut_14 rfl rfl ?_
      refine R_iaload hc dX9_greatestCut_15 hw (fun t2 hw => ?_)
      refine R_jmx hc ml_9_88 (le_b rfl) (le_b rfl) ⟨Nat.zero_le _, Nat.zero_le _⟩ dX9_greatestCut_16 ?_
      refine R_nmI hw (fun l2_3 hw => ?_)
      refine R_istore_n (i := 2) (v := l2_3) hc [(2, .int l2_3), (0, rf x.w (some l0)), (1, .int l1), (3, .int l3_7)] dX9_greatestCut_19 rfl (hnl 2 (le_b rfl)) rfl ?_
      refine R_iinc (q := 3) (i := 3) (v := l3_7) hc [(3, .int (l3_7 + (1 : Int32))), (2, .int l2_3), (0, rf x.w (some l0)), (1, .int l1)] dX9_greatestCut_20 rfl (kC_1 _) (hnl 3 (le_b rfl)) rfl ?_
      refine R_goto (tgt := 4) hc dX9_greatestCut_23 (by decide) ?_
      refine R_sub hc [2, 3, 1, 0] rfl ?_
      exact hX (l2_3, l3_7 + (1 : Int32)) (wpO_some hw :)
theorem dX9_worst_0 : decode cX9_worst 0 = .ok (.iconst 0, 1) := by decide +kernel
theorem dX9_worst_1 : decode cX9_worst 1 = .ok (.istore_n 2, 1) := by decide +kernel
theorem dX9_worst_2 : decode cX9_worst 2 = .ok (.iconst (-1), 1) := by decide +kernel
theorem dX9_worst_3 : decode cX9_worst 3 = .ok (.istore_n 3, 1) := by decide +kernel
theorem dX9_worst_4 : decode cX9_worst 4 = .ok (.iconst 0, 1) := by decide +kernel
theorem dX9_worst_5 : decode cX9_worst 5 = .ok (.istore 4, 2) := by decide +kernel
theorem dX9_worst_7 : decode cX9_worst 7 = .ok (.iload 4, 2) := by decide +kernel
theorem dX9_worst_9 : decode cX9_worst 9 = .ok (.iload_n 1, 1) := by decide +kernel
theorem dX9_worst_10 : decode cX9_worst 10 = .ok (.if_icmp .ge 31, 3) := by decide +kernel
theorem dX9_worst_13 : decode cX9_worst 13 = .ok (.aload_n 0, 1) := by decide +kernel
theorem dX9_worst_14 : decode cX9_worst 14 = .ok (.getfield 33, 3) := by decide +kernel
theorem dX9_worst_17 : decode cX9_worst 17 = .ok (.iload 4, 2) := by decide +kernel
theorem dX9_worst_19 : decode cX9_worst 19 = .ok (.iaload, 1) := by decide +kernel
theorem dX9_worst_20 : decode cX9_worst 20 = .ok (.iload_n 2, 1) := by decide +kernel
theorem dX9_worst_21 : decode cX9_worst 21 = .ok (.if_icmp .le 14, 3) := by decide +kernel
theorem dX9_worst_24 : decode cX9_worst 24 = .ok (.aload_n 0, 1) := by decide +kernel
theorem dX9_worst_25 : decode cX9_worst 25 = .ok (.getfield 33, 3) := by decide +kernel
theorem dX9_worst_28 : decode cX9_worst 28 = .ok (.iload 4, 2) := by decide +kernel
theorem dX9_worst_30 : decode cX9_worst 30 = .ok (.iaload, 1) := by decide +kernel
theorem dX9_worst_31 : decode cX9_worst 31 = .ok (.istore_n 2, 1) := by decide +kernel
theorem dX9_worst_32 : decode cX9_worst 32 = .ok (.iload 4, 2) := by decide +kernel
theorem dX9_worst_34 : decode cX9_worst 34 = .ok (.istore_n 3, 1) := by decide +kernel
theorem dX9_worst_35 : decode cX9_worst 35 = .ok (.iinc 4 1, 3) := by decide +kernel
theorem dX9_worst_38 : decode cX9_worst 38 = .ok (.goto (-31), 3) := by decide +kernel
theorem dX9_worst_41 : decode cX9_worst 41 = .ok (.iload_n 3, 1) := by decide +kernel
theorem dX9_worst_42 : decode cX9_worst 42 = .ok (.ireturn, 1) := by decide +kernel
def sX9_worst_L7 (F : Nat) (l0 : Nat) (l1 : Int32) (l2 : Int32) (l3 : Int32) (l4 : Int32) (h : HP) : Option ((Int32 × Int32 × Int32) ⊕ Int32) :=
  if l1 ≤ l4 then
    some (.inr l3)
  else
    (gR h 9 (some l0) 8).bind fun t1 =>
    (aI h 13 t1 l4).bind fun t2 =>
    if t2 ≤ l2 then
      some (.inl (l2, l3, l4 + (1 : Int32)))
    else
      (gR h 9 (some l0) 8).bind fun t3 =>
      (aI h 13 t3 l4).bind fun t4 =>
      some (.inl (t4, l4, l4 + (1 : Int32)))
def sX9_worst (F : Nat) (l0 : Nat) (l1 : Int32) (h : HP) : Option Int32 :=
  (iter (fun s => sX9_worst_L7 F l0 l1 s.1 s.2.1 s.2.2 h) F ((0 : Int32), (-1 : Int32), (0 : Int32))).bind fun l3_5 =>
    some l3_5
abbrev rm_X9_worst : Room := { frames := 0, cells := 0, slots := 0, locals := 0 }
set_option maxRecDepth 100000 in
set_option maxHeartbeats 4000000 in
theorem mt_X9_worst {w : WD} {l : Launch} {F : Nat} {l0 : Nat} {l1 : Int32} {h : HP} {v : Int32} (hs : sX9_worst F l0 l1 h = some v) : MI w l yX9_worst cX9_worst 5 .int rm_X9_worst 0 0 [rf w (some l0), .int l1] h v h := by
  refine of_body [(0, rf w (some l0)), (1, .int l1)] (by decide) (by simp [lg_sl, rf_cat, cat_i, cat_l, cat_a]) (by simp [lv_args, rf_cat, cat_i, cat_l, cat_a]) ?_
  intro x hw_ hnL_ hl_ hc hret hnm hQ
  subst hw_; subst hl_
  have hnl : ∀ i, i < 5 → i < x.nL := fun i h => by rw [hnL_]; exact h
  have hw : wpO (sX9_worst F l0 l1 h) (fun r => r = v) := ⟨_, hs, rfl⟩
  unfold sX9_worst at hw
  refine R_iconst (v := (0 : Int32)) hc dX9_worst_0 kI_0 ?_
  refine R_istore_n (i := 2) (v := (0 : Int32)) hc [(2, .int (0 : Int32)), (0, rf x.w (some l0)), (1, .int l1)] dX9_worst_1 rfl (hnl 2 (le_b rfl)) rfl ?_
  refine R_iconst (v := (-1 : Int32)) hc dX9_worst_2 kI_m1 ?_
  refine R_istore_n (i := 3) (v := (-1 : Int32)) hc [(3, .int (-1 : Int32)), (2, .int (0 : Int32)), (0, rf x.w (some l0)), (1, .int l1)] dX9_worst_3 rfl (hnl 3 (le_b rfl)) rfl ?_
  refine R_iconst (v := (0 : Int32)) hc dX9_worst_4 kI_0 ?_
  refine R_istore (i := 4) (v := (0 : Int32)) hc [(4, .int (0 : Int32)), (3, .int (-1 : Int32)), (2, .int (0 : Int32)), (0, rf x.w (some l0)), (1, .int l1)] dX9_worst_5 (hnl 4 (le_b rfl)) rfl ?_
  refine R_sub hc [3, 4, 2, 1, 0] rfl ?_
  refine R_loop (P := fun (s : (Int32 × Int32 × Int32)) => Rn x 0 0 7 [(0, rf x.w (some l0)), (1, .int l1), (2, .int s.1), (3, .int s.2.1), (4, .int s.2.2)] [] h) (fun l3_5 => Rn x 0 0 41 [(3, .int l3_5)] [] h) hw (fun r hw => ?_) (fun X hX s hw => ?_)
  · revert r hw
    intro l3_5 hw
    show Rn x 0 0 41 [(3, .int l3_5)] [] h
    refine R_iload_n (q := 0) (i := 3) (v := l3_5) hc dX9_worst_41 rfl rfl ?_
    exact R_ireturnP hc hret rfl hQ hw dX9_worst_42
  · obtain ⟨l2_7, l3_8, l4_9⟩ := s
    show Rn x 0 0 7 [(0, rf x.w (some l0)), (1, .int l1), (2, .int l2_7), (3, .int l3_8), (4, .int l4_9)] [] h
    have hw : wpO (sX9_worst_L7 F l0 l1 l2_7 l3_8 l4_9 h) _ := hw
    unfold sX9_worst_L7 at hw
    refine R_iload (q := 4) (i := 4) (v := l4_9) hc dX9_worst_7 rfl ?_
    refine R_iload_n (q := 1) (i := 1) (v := l1) hc dX9_worst_9 rfl rfl ?_
    refine R_icmp_ge (tgt := 41) hc dX9_worst_10 (by decide) hw (fun hw => ?_) (fun hw => ?_)
    · refine R_sub hc [3] rfl ?_
      exact (wpO_some hw :)
    · refine R_aload_n (q := 0) (i := 0) (v := (some l0)) hc dX9_worst_13 rfl rfl ?_
      refine R_getR hc fl_9_33 dX9_worst_14 hw (fun t1 hw => ?_)
      refine R_iload (q := 4) (i := 4) (v := l4_9) hc dX9_worst_17 rfl ?_
      refine R_iaload hc dX9_worst_19 hw (fun t2 hw => ?_)
      refine R_iload_n (q := 2) (i := 2) (v := l2_7) hc dX9_worst_20 rfl rfl ?_
      refine R_icmp_le (tgt := 35) hc dX9_worst_21 (by decide) hw (fun hw => ?_) (fun hw => ?_)
      · refine R_iinc (q := 4) (i := 4) (v := l4_9) hc [(4, .int (l4_9 + (1 : Int32))), (0, rf x.w (some l0)), (1, .int l1), (2, .int l2_7), (3, .int l3_8)] dX9_worst_35 rfl (kC_1 _) (hnl 4 (le_b rfl)) rfl ?_
        refine R_goto (tgt := 7) hc dX9_worst_38 (by decide) ?_
        refine R_sub hc [1, 2, 3, 4, 0] rfl ?_
        exact hX (l2_7, l3_8, l4_9 + (1 : Int32)) (wpO_some hw :)
      · refine R_aload_n (q := 0) (i := 0) (v := (some l0)) hc dX9_worst_24 rfl rfl ?_
        refine R_getR hc fl_9_33 dX9_worst_25 hw (fun t3 hw => ?_)
        refine R_iload (q := 4) (i := 4) (v := l4_9) hc dX9_worst_28 rfl ?_
        refine R_iaload hc dX9_worst_30 hw (fun t4 hw => ?_)
        refine R_istore_n (i := 2) (v := t4) hc [(2, .int t4), (0, rf x.w (some l0)), (1, .int l1), (3, .int l3_8), (4, .int l4_9)] dX9_worst_31 rfl (hnl 2 (le_b rfl)) rfl ?_
        refine R_iload (q := 4) (i := 4) (v := l4_9) hc dX9_worst_32 rfl ?_
        refine R_istore_n (i := 3) (v := l4_9) hc [(3, .int l4_9), (2, .int t4), (0, rf x.w (some l0)), (1, .int l1), (4, .int l4_9)] dX9_worst_34 rfl (hnl 3 (le_b rfl)) rfl ?_
        refine R_iinc (q := 4) (i := 4) (v := l4_9) hc [(4, .int (l4_9 + (1 : Int32))), (3, .int l4_9), (2, .int t4), (0, rf x.w (some l0)), (1, .int l1)] dX9_worst_35 rfl (kC_1 _) (hnl 4 (le_b rfl)) rfl ?_
        refine R_goto (tgt := 7) hc dX9_worst_38 (by decide) ?_
        refine R_sub hc [3, 4, 2, 1, 0] rfl ?_
        exact hX (t4, l4_9, l4_9 + (1 : Int32)) (wpO_some hw :)
theorem dX9_usedTracks_0 : decode cX9_usedTracks 0 = .ok (.iconst 0, 1) := by decide +kernel
theorem dX9_usedTracks_1 : decode cX9_usedTracks 1 = .ok (.istore_n 1, 1) := by decide +kernel
theorem dX9_usedTracks_2 : decode cX9_usedTracks 2 = .ok (.iconst 0, 1) := by decide +kernel
theorem dX9_usedTracks_3 : decode cX9_usedTracks 3 = .ok (.istore_n 2, 1) := by decide +kernel
theorem dX9_usedTracks_4 : decode cX9_usedTracks 4 = .ok (.iload_n 2, 1) := by decide +kernel
theorem dX9_usedTracks_5 : decode cX9_usedTracks 5 = .ok (.bipush 12, 2) := by decide +kernel
theorem dX9_usedTracks_7 : decode cX9_usedTracks 7 = .ok (.if_icmp .ge 34, 3) := by decide +kernel
theorem dX9_usedTracks_10 : decode cX9_usedTracks 10 = .ok (.iload_n 1, 1) := by decide +kernel
theorem dX9_usedTracks_11 : decode cX9_usedTracks 11 = .ok (.aload_n 0, 1) := by decide +kernel
theorem dX9_usedTracks_12 : decode cX9_usedTracks 12 = .ok (.getfield 30, 3) := by decide +kernel
theorem dX9_usedTracks_15 : decode cX9_usedTracks 15 = .ok (.iload_n 2, 1) := by decide +kernel
theorem dX9_usedTracks_16 : decode cX9_usedTracks 16 = .ok (.iaload, 1) := by decide +kernel
theorem dX9_usedTracks_17 : decode cX9_usedTracks 17 = .ok (.iconst (-1), 1) := by decide +kernel
theorem dX9_usedTracks_18 : decode cX9_usedTracks 18 = .ok (.if_icmp .ne 7, 3) := by decide +kernel
theorem dX9_usedTracks_21 : decode cX9_usedTracks 21 = .ok (.iconst 0, 1) := by decide +kernel
theorem dX9_usedTracks_22 : decode cX9_usedTracks 22 = .ok (.goto 11, 3) := by decide +kernel
theorem dX9_usedTracks_25 : decode cX9_usedTracks 25 = .ok (.iconst 1, 1) := by decide +kernel
theorem dX9_usedTracks_26 : decode cX9_usedTracks 26 = .ok (.aload_n 0, 1) := by decide +kernel
theorem dX9_usedTracks_27 : decode cX9_usedTracks 27 = .ok (.getfield 30, 3) := by decide +kernel
theorem dX9_usedTracks_30 : decode cX9_usedTracks 30 = .ok (.iload_n 2, 1) := by decide +kernel
theorem dX9_usedTracks_31 : decode cX9_usedTracks 31 = .ok (.iaload, 1) := by decide +kernel
theorem dX9_usedTracks_32 : decode cX9_usedTracks 32 = .ok (.ishl, 1) := by decide +kernel
theorem dX9_usedTracks_33 : decode cX9_usedTracks 33 = .ok (.ior, 1) := by decide +kernel
theorem dX9_usedTracks_34 : decode cX9_usedTracks 34 = .ok (.istore_n 1, 1) := by decide +kernel
theorem dX9_usedTracks_35 : decode cX9_usedTracks 35 = .ok (.iinc 2 1, 3) := by decide +kernel
theorem dX9_usedTracks_38 : decode cX9_usedTracks 38 = .ok (.goto (-34), 3) := by decide +kernel
theorem dX9_usedTracks_41 : decode cX9_usedTracks 41 = .ok (.iload_n 1, 1) := by decide +kernel
theorem dX9_usedTracks_42 : decode cX9_usedTracks 42 = .ok (.ireturn, 1) := by decide +kernel
def sX9_usedTracks_L4 (F : Nat) (l0 : Nat) (l1 : Int32) (l2 : Int32) (h : HP) : Option ((Int32 × Int32) ⊕ Int32) :=
  if (12 : Int32) ≤ l2 then
    some (.inr l1)
  else
    (gR h 9 (some l0) 7).bind fun t1 =>
    (aI h 13 t1 l2).bind fun t2 =>
    if ¬ t2 = (-1 : Int32) then
      (gR h 9 (some l0) 7).bind fun t3 =>
      (aI h 13 t3 l2).bind fun t4 =>
      nmI (l1 ||| (jshl (1 : Int32) t4)) fun l1_5 =>
      some (.inl (l1_5, l2 + (1 : Int32)))
    else
      nmI (l1 ||| (0 : Int32)) fun l1_6 =>
      some (.inl (l1_6, l2 + (1 : Int32)))
def sX9_usedTracks (F : Nat) (l0 : Nat) (h : HP) : Option Int32 :=
  (iter (fun s => sX9_usedTracks_L4 F l0 s.1 s.2 h) F ((0 : Int32), (0 : Int32))).bind fun l1_7 =>
    some l1_7
abbrev rm_X9_usedTracks : Room := { frames := 0, cells := 0, slots := 0, locals := 0 }
set_option maxRecDepth 100000 in
set_option maxHeartbeats 4000000 in
theorem mt_X9_usedTracks {w : WD} {l : Launch} {F : Nat} {l0 : Nat} {h : HP} {v : Int32} (hs : sX9_usedTracks F l0 h = some v) : MI w l yX9_usedTracks cX9_usedTracks 3 .int rm_X9_usedTracks 0 0 [rf w (some l0)] h v h := by
  refine of_body [(0, rf w (some l0))] (by decide) (by simp [lg_sl, rf_cat, cat_i, cat_l, cat_a]) (by simp [lv_args, rf_cat, cat_i, cat_l, cat_a]) ?_
  intro x hw_ hnL_ hl_ hc hret hnm hQ
  subst hw_; subst hl_
  have hnl : ∀ i, i < 3 → i < x.nL := fun i h => by rw [hnL_]; exact h
  have hw : wpO (sX9_usedTracks F l0 h) (fun r => r = v) := ⟨_, hs, rfl⟩
  unfold sX9_usedTracks at hw
  refine R_iconst (v := (0 : Int32)) hc dX9_usedTracks_0 kI_0 ?_
  refine R_istore_n (i := 1) (v := (0 : Int32)) hc [(1, .int (0 : Int32)), (0, rf x.w (some l0))] dX9_usedTracks_1 rfl (hnl 1 (le_b rfl)) rfl ?_
  refine R_iconst (v := (0 : Int32)) hc dX9_usedTracks_2 kI_0 ?_
  refine R_istore_n (i := 2) (v := (0 : Int32)) hc [(2, .int (0 : Int32)), (1, .int (0 : Int32)), (0, rf x.w (some l0))] dX9_usedTracks_3 rfl (hnl 2 (le_b rfl)) rfl ?_
  refine R_sub hc [2, 1, 0] rfl ?_
  refine R_loop (P := fun (s : (Int32 × Int32)) => Rn x 0 0 4 [(0, rf x.w (some l0)), (1, .int s.1), (2, .int s.2)] [] h) (fun l1_7 => Rn x 0 0 41 [(1, .int l1_7)] [] h) hw (fun r hw => ?_) (fun X hX s hw => ?_)
  · revert r hw
    intro l1_7 hw
    show Rn x 0 0 41 [(1, .int l1_7)] [] h
    refine R_iload_n (q := 0) (i := 1) (v := l1_7) hc dX9_usedTracks_41 rfl rfl ?_
    exact R_ireturnP hc hret rfl hQ hw dX9_usedTracks_42
  · obtain ⟨l1_9, l2_10⟩ := s
    show Rn x 0 0 4 [(0, rf x.w (some l0)), (1, .int l1_9), (2, .int l2_10)] [] h
    have hw : wpO (sX9_usedTracks_L4 F l0 l1_9 l2_10 h) _ := hw
    unfold sX9_usedTracks_L4 at hw
    refine R_iload_n (q := 2) (i := 2) (v := l2_10) hc dX9_usedTracks_4 rfl rfl ?_
    refine R_bipush (v := (12 : Int32)) hc dX9_usedTracks_5 kB_12 ?_
    refine R_icmp_ge (tgt := 41) hc dX9_usedTracks_7 (by decide) hw (fun hw => ?_) (fun hw => ?_)
    · refine R_sub hc [1] rfl ?_
      exact (wpO_some hw :)
    · refine R_iload_n (q := 1) (i := 1) (v := l1_9) hc dX9_usedTracks_10 rfl rfl ?_
      refine R_aload_n (q := 0) (i := 0) (v := (some l0)) hc dX9_usedTracks_11 rfl rfl ?_
      refine R_getR hc fl_9_30 dX9_usedTracks_12 hw (fun t1 hw => ?_)
      refine R_iload_n (q := 2) (i := 2) (v := l2_10) hc dX9_usedTracks_15 rfl rfl ?_
      refine R_iaload hc dX9_usedTracks_16 hw (fun t2 hw => ?_)
      refine R_iconst (v := (-1 : Int32)) hc dX9_usedTracks_17 kI_m1 ?_
      refine R_icmp_ne (tgt := 25) hc dX9_usedTracks_18 (by decide) hw (fun hw => ?_) (fun hw => ?_)
      · refine R_iconst (v := (1 : Int32)) hc dX9_usedTracks_25 kI_1 ?_
        refine R_aload_n (q := 0) (i := 0) (v := (some l0)) hc dX9_usedTracks_26 rfl rfl ?_
        refine R_getR hc fl_9_30 dX9_usedTracks_27 hw (fun t3 hw => ?_)
        refine R_iload_n (q := 2) (i := 2) (v := l2_10) hc dX9_usedTracks_30 rfl rfl ?_
        refine R_iaload hc dX9_usedTracks_31 hw (fun t4 hw => ?_)
        refine R_ishl hc dX9_usedTracks_32 ?_
        refine R_ior hc dX9_usedTracks_33 ?_
        refine R_nmI hw (fun l1_5 hw => ?_)
        refine R_istore_n (i := 1) (v := l1_5) hc [(1, .int l1_5), (0, rf x.w (some l0)), (2, .int l2_10)] dX9_usedTracks_34 rfl (hnl 1 (le_b rfl)) rfl ?_
        refine R_iinc (q := 2) (i := 2) (v := l2_10) hc [(2, .int (l2_10 + (1 : Int32))), (1, .int l1_5), (0, rf x.w (some l0))] dX9_usedTracks_35 rfl (kC_1 _) (hnl 2 (le_b rfl)) rfl ?_
        refine R_goto (tgt := 4) hc dX9_usedTracks_38 (by decide) ?_
        refine R_sub hc [2, 1, 0] rfl ?_
        exact hX (l1_5, l2_10 + (1 : Int32)) (wpO_some hw :)
      · refine R_iconst (v := (0 : Int32)) hc dX9_usedTracks_21 kI_0 ?_
        refine R_goto (tgt := 33) hc dX9_usedTracks_22 (by decide) ?_
        refine R_ior hc dX9_usedTracks_33 ?_
        refine R_nmI hw (fun l1_6 hw => ?_)
        refine R_istore_n (i := 1) (v := l1_6) hc [(1, .int l1_6), (0, rf x.w (some l0)), (2, .int l2_10)] dX9_usedTracks_34 rfl (hnl 1 (le_b rfl)) rfl ?_
        refine R_iinc (q := 2) (i := 2) (v := l2_10) hc [(2, .int (l2_10 + (1 : Int32))), (1, .int l1_6), (0, rf x.w (some l0))] dX9_usedTracks_35 rfl (kC_1 _) (hnl 2 (le_b rfl)) rfl ?_
        refine R_goto (tgt := 4) hc dX9_usedTracks_38 (by decide) ?_
        refine R_sub hc [2, 1, 0] rfl ?_
        exact hX (l1_6, l2_10 + (1 : Int32)) (wpO_some hw :)
theorem dX9_lost_0 : decode cX9_lost 0 = .ok (.iconst 0, 1) := by decide +kernel
theorem dX9_lost_1 : decode cX9_lost 1 = .ok (.istore_n 1, 1) := by decide +kernel
theorem dX9_lost_2 : decode cX9_lost 2 = .ok (.iconst 0, 1) := by decide +kernel
theorem dX9_lost_3 : decode cX9_lost 3 = .ok (.istore_n 2, 1) := by decide +kernel
theorem dX9_lost_4 : decode cX9_lost 4 = .ok (.iload_n 2, 1) := by decide +kernel
theorem dX9_lost_5 : decode cX9_lost 5 = .ok (.bipush 12, 2) := by decide +kernel
theorem dX9_lost_7 : decode cX9_lost 7 = .ok (.if_icmp .ge 35, 3) := by decide +kernel
theorem dX9_lost_10 : decode cX9_lost 10 = .ok (.iload_n 1, 1) := by decide +kernel
theorem dX9_lost_11 : decode cX9_lost 11 = .ok (.aload_n 0, 1) := by decide +kernel
theorem dX9_lost_12 : decode cX9_lost 12 = .ok (.iload_n 2, 1) := by decide +kernel
theorem dX9_lost_13 : decode cX9_lost 13 = .ok (.invokevirtual 116, 3) := by decide +kernel
theorem dX9_lost_16 : decode cX9_lost 16 = .ok (.ifCond .eq 17, 3) := by decide +kernel
theorem dX9_lost_19 : decode cX9_lost 19 = .ok (.aload_n 0, 1) := by decide +kernel
theorem dX9_lost_20 : decode cX9_lost 20 = .ok (.getfield 30, 3) := by decide +kernel
theorem dX9_lost_23 : decode cX9_lost 23 = .ok (.iload_n 2, 1) := by decide +kernel
theorem dX9_lost_24 : decode cX9_lost 24 = .ok (.iaload, 1) := by decide +kernel
theorem dX9_lost_25 : decode cX9_lost 25 = .ok (.iconst (-1), 1) := by decide +kernel
theorem dX9_lost_26 : decode cX9_lost 26 = .ok (.if_icmp .ne 7, 3) := by decide +kernel
theorem dX9_lost_29 : decode cX9_lost 29 = .ok (.iconst 1, 1) := by decide +kernel
theorem dX9_lost_30 : decode cX9_lost 30 = .ok (.goto 4, 3) := by decide +kernel
theorem dX9_lost_33 : decode cX9_lost 33 = .ok (.iconst 0, 1) := by decide +kernel
theorem dX9_lost_34 : decode cX9_lost 34 = .ok (.iadd, 1) := by decide +kernel
theorem dX9_lost_35 : decode cX9_lost 35 = .ok (.istore_n 1, 1) := by decide +kernel
theorem dX9_lost_36 : decode cX9_lost 36 = .ok (.iinc 2 1, 3) := by decide +kernel
theorem dX9_lost_39 : decode cX9_lost 39 = .ok (.goto (-35), 3) := by decide +kernel
theorem dX9_lost_42 : decode cX9_lost 42 = .ok (.iload_n 1, 1) := by decide +kernel
theorem dX9_lost_43 : decode cX9_lost 43 = .ok (.ireturn, 1) := by decide +kernel
def sX9_lost_L4 (F : Nat) (l0 : Nat) (l1 : Int32) (l2 : Int32) (h : HP) : Option ((Int32 × Int32) ⊕ Int32) :=
  if (12 : Int32) ≤ l2 then
    some (.inr l1)
  else
    (dO h 9 (some l0)).bind fun a1 =>
    (sX9_hasWire F a1 l2 h).bind fun t2 =>
    if t2 = 0 then
      nmI (l1 + (0 : Int32)) fun l1_3 =>
      some (.inl (l1_3, l2 + (1 : Int32)))
    else
      (gR h 9 (some l0) 7).bind fun t4 =>
      (aI h 13 t4 l2).bind fun t5 =>
      if ¬ t5 = (-1 : Int32) then
        nmI (l1 + (0 : Int32)) fun l1_6 =>
        some (.inl (l1_6, l2 + (1 : Int32)))
      else
        nmI (l1 + (1 : Int32)) fun l1_7 =>
        some (.inl (l1_7, l2 + (1 : Int32)))
def sX9_lost (F : Nat) (l0 : Nat) (h : HP) : Option Int32 :=
  (iter (fun s => sX9_lost_L4 F l0 s.1 s.2 h) F ((0 : Int32), (0 : Int32))).bind fun l1_8 =>
    some l1_8
abbrev rm_X9_lost : Room := { frames := 1, cells := 0, slots := 0, locals := 21 }
set_option maxRecDepth 100000 in
set_option maxHeartbeats 4000000 in
theorem mt_X9_lost {w : WD} {l : Launch} {F : Nat} {l0 : Nat} {h : HP} {v : Int32} (hs : sX9_lost F l0 h = some v) : MI w l yX9_lost cX9_lost 3 .int rm_X9_lost 0 0 [rf w (some l0)] h v h := by
  refine of_body [(0, rf w (some l0))] (by decide) (by simp [lg_sl, rf_cat, cat_i, cat_l, cat_a]) (by simp [lv_args, rf_cat, cat_i, cat_l, cat_a]) ?_
  intro x hw_ hnL_ hl_ hc hret hnm hQ
  subst hw_; subst hl_
  have hnl : ∀ i, i < 3 → i < x.nL := fun i h => by rw [hnL_]; exact h
  have hw : wpO (sX9_lost F l0 h) (fun r => r = v) := ⟨_, hs, rfl⟩
  unfold sX9_lost at hw
  refine R_iconst (v := (0 : Int32)) hc dX9_lost_0 kI_0 ?_
  refine R_istore_n (i := 1) (v := (0 : Int32)) hc [(1, .int (0 : Int32)), (0, rf x.w (some l0))] dX9_lost_1 rfl (hnl 1 (le_b rfl)) rfl ?_
  refine R_iconst (v := (0 : Int32)) hc dX9_lost_2 kI_0 ?_
  refine R_istore_n (i := 2) (v := (0 : Int32)) hc [(2, .int (0 : Int32)), (1, .int (0 : Int32)), (0, rf x.w (some l0))] dX9_lost_3 rfl (hnl 2 (le_b rfl)) rfl ?_
  refine R_sub hc [2, 1, 0] rfl ?_
  refine R_loop (P := fun (s : (Int32 × Int32)) => Rn x 0 0 4 [(0, rf x.w (some l0)), (1, .int s.1), (2, .int s.2)] [] h) (fun l1_8 => Rn x 0 0 42 [(1, .int l1_8)] [] h) hw (fun r hw => ?_) (fun X hX s hw => ?_)
  · revert r hw
    intro l1_8 hw
    show Rn x 0 0 42 [(1, .int l1_8)] [] h
    refine R_iload_n (q := 0) (i := 1) (v := l1_8) hc dX9_lost_42 rfl rfl ?_
    exact R_ireturnP hc hret rfl hQ hw dX9_lost_43
  · obtain ⟨l1_10, l2_11⟩ := s
    show Rn x 0 0 4 [(0, rf x.w (some l0)), (1, .int l1_10), (2, .int l2_11)] [] h
    have hw : wpO (sX9_lost_L4 F l0 l1_10 l2_11 h) _ := hw
    unfold sX9_lost_L4 at hw
    refine R_iload_n (q := 2) (i := 2) (v := l2_11) hc dX9_lost_4 rfl rfl ?_
    refine R_bipush (v := (12 : Int32)) hc dX9_lost_5 kB_12 ?_
    refine R_icmp_ge (tgt := 42) hc dX9_lost_7 (by decide) hw (fun hw => ?_) (fun hw => ?_)
    · refine R_sub hc [1] rfl ?_
      exact (wpO_some hw :)
    · refine R_iload_n (q := 1) (i := 1) (v := l1_10) hc dX9_lost_10 rfl rfl ?_
      refine R_aload_n (q := 0) (i := 0) (v := (some l0)) hc dX9_lost_11 rfl rfl ?_
      refine R_iload_n (q := 2) (i := 2) (v := l2_11) hc dX9_lost_12 rfl rfl ?_
      refine R_cVI (As := [.int l2_11]) (rest := [.int l1_10]) (r := (some l0)) (ci := 9) hc ml_9_116 mf_X9_hasWire rfl (by decide) ⟨rfl, rfl⟩ ⟨le_b rfl, le_b rfl⟩ ⟨Nat.zero_le _, Nat.zero_le _⟩ (fun a v e => mt_X9_hasWire e) rfl rfl (le_b rfl) dX9_lost_13 hw (fun t2 hw => ?_)
      refine R_if_eq (tgt := 33) hc dX9_lost_16 (by decide) hw (fun hw => ?_) (fun hw => ?_)
      · refine R_iconst (v := (0 : Int32)) hc dX9_lost_33 kI_0 ?_
        refine R_iadd hc dX9_lost_34 ?_
        refine R_nmI hw (fun l1_3 hw => ?_)
        refine R_istore_n (i := 1) (v := l1_3) hc [(1, .int l1_3), (0, rf x.w (some l0)), (2, .int l2_11)] dX9_lost_35 rfl (hnl 1 (le_b rfl)) rfl ?_
        refine R_iinc (q := 2) (i := 2) (v := l2_11) hc [(2, .int (l2_11 + (1 : Int32))), (1, .int l1_3), (0, rf x.w (some l0))] dX9_lost_36 rfl (kC_1 _) (hnl 2 (le_b rfl)) rfl ?_
        refine R_goto (tgt := 4) hc dX9_lost_39 (by decide) ?_
        refine R_sub hc [2, 1, 0] rfl ?_
        exact hX (l1_3, l2_11 + (1 : Int32)) (wpO_some hw :)
      · refine R_aload_n (q := 0) (i := 0) (v := (some l0)) hc dX9_lost_19 rfl rfl ?_
        refine R_getR hc fl_9_30 dX9_lost_20 hw (fun t4 hw => ?_)
        refine R_iload_n (q := 2) (i := 2) (v := l2_11) hc dX9_lost_23 rfl rfl ?_
        refine R_iaload hc dX9_lost_24 hw (fun t5 hw => ?_)
        refine R_iconst (v := (-1 : Int32)) hc dX9_lost_25 kI_m1 ?_
        refine R_icmp_ne (tgt := 33) hc dX9_lost_26 (by decide) hw (fun hw => ?_) (fun hw => ?_)
        · refine R_iconst (v := (0 : Int32)) hc dX9_lost_33 kI_0 ?_
          refine R_iadd hc dX9_lost_34 ?_
          refine R_nmI hw (fun l1_6 hw => ?_)
          refine R_istore_n (i := 1) (v := l1_6) hc [(1, .int l1_6), (0, rf x.w (some l0)), (2, .int l2_11)] dX9_lost_35 rfl (hnl 1 (le_b rfl)) rfl ?_
          refine R_iinc (q := 2) (i := 2) (v := l2_11) hc [(2, .int (l2_11 + (1 : Int32))), (1, .int l1_6), (0, rf x.w (some l0))] dX9_lost_36 rfl (kC_1 _) (hnl 2 (le_b rfl)) rfl ?_
          refine R_goto (tgt := 4) hc dX9_lost_39 (by decide) ?_
          refine R_sub hc [2, 1, 0] rfl ?_
          exact hX (l1_6, l2_11 + (1 : Int32)) (wpO_some hw :)
        · refine R_iconst (v := (1 : Int32)) hc dX9_lost_29 kI_1 ?_
          refine R_goto (tgt := 34) hc dX9_lost_30 (by decide) ?_
          refine R_iadd hc dX9_lost_34 ?_
          refine R_nmI hw (fun l1_7 hw => ?_)
          refine R_istore_n (i := 1) (v := l1_7) hc [(1, .int l1_7), (0, rf x.w (some l0)), (2, .int l2_11)] dX9_lost_35 rfl (hnl 1 (le_b rfl)) rfl ?_
          refine R_iinc (q := 2) (i := 2) (v := l2_11) hc [(2, .int (l2_11 + (1 : Int32))), (1, .int l1_7), (0, rf x.w (some l0))] dX9_lost_36 rfl (kC_1 _) (hnl 2 (le_b rfl)) rfl ?_
          refine R_goto (tgt := 4) hc dX9_lost_39 (by decide) ?_
          refine R_sub hc [2, 1, 0] rfl ?_
          exact hX (l1_7, l2_11 + (1 : Int32)) (wpO_some hw :)
theorem dX9_height_0 : decode cX9_height 0 = .ok (.iconst 0, 1) := by decide +kernel
theorem dX9_height_1 : decode cX9_height 1 = .ok (.istore_n 1, 1) := by decide +kernel
theorem dX9_height_2 : decode cX9_height 2 = .ok (.iconst 0, 1) := by decide +kernel
theorem dX9_height_3 : decode cX9_height 3 = .ok (.istore_n 2, 1) := by decide +kernel
theorem dX9_height_4 : decode cX9_height 4 = .ok (.iload_n 2, 1) := by decide +kernel
theorem dX9_height_5 : decode cX9_height 5 = .ok (.bipush 12, 2) := by decide +kernel
theorem dX9_height_7 : decode cX9_height 7 = .ok (.if_icmp .ge 22, 3) := by decide +kernel
theorem dX9_height_10 : decode cX9_height 10 = .ok (.iload_n 1, 1) := by decide +kernel
theorem dX9_height_11 : decode cX9_height 11 = .ok (.aload_n 0, 1) := by decide +kernel
theorem dX9_height_12 : decode cX9_height 12 = .ok (.getfield 30, 3) := by decide +kernel
theorem dX9_height_15 : decode cX9_height 15 = .ok (.iload_n 2, 1) := by decide +kernel
theorem dX9_height_16 : decode cX9_height 16 = .ok (.iaload, 1) := by decide +kernel
theorem dX9_height_17 : decode cX9_height 17 = .ok (.iconst 1, 1) := by decide +kernel
theorem dX9_height_18 : decode cX9_height 18 = .ok (.iadd, 1) := by decide +kernel
theorem dX9_height_19 : decode cX9_height 19 = .ok (.invokestatic 88, 3) := by decide +kernel
theorem dX9_height_22 : decode cX9_height 22 = .ok (.istore_n 1, 1) := by decide +kernel
theorem dX9_height_23 : decode cX9_height 23 = .ok (.iinc 2 1, 3) := by decide +kernel
theorem dX9_height_26 : decode cX9_height 26 = .ok (.goto (-22), 3) := by decide +kernel
theorem dX9_height_29 : decode cX9_height 29 = .ok (.iload_n 1, 1) := by decide +kernel
theorem dX9_height_30 : decode cX9_height 30 = .ok (.ireturn, 1) := by decide +kernel
def sX9_height_L4 (F : Nat) (l0 : Nat) (l1 : Int32) (l2 : Int32) (h : HP) : Option ((Int32 × Int32) ⊕ Int32) :=
  if (12 : Int32) ≤ l2 then
    some (.inr l1)
  else
    (gR h 9 (some l0) 7).bind fun t1 =>
    (aI h 13 t1 l2).bind fun t2 =>
    nmI (jmx l1 (t2 + (1 : Int32))) fun l1_3 =>
    some (.inl (l1_3, l2 + (1 : Int32)))
def sX9_height (F : Nat) (l0 : Nat) (h : HP) : Option Int32 :=
  (iter (fun s => sX9_height_L4 F l0 s.1 s.2 h) F ((0 : Int32), (0 : Int32))).bind fun l1_4 =>
    some l1_4
abbrev rm_X9_height : Room := { frames := 1, cells := 0, slots := 0, locals := 24 }
set_option maxRecDepth 100000 in
set_option maxHeartbeats 4000000 in
theorem mt_X9_height {w : WD} {l : Launch} {F : Nat} {l0 : Nat} {h : HP} {v : Int32} (hs : sX9_height F l0 h = some v) : MI w l yX9_height cX9_height 3 .int rm_X9_height 0 0 [rf w (some l0)] h v h := by
  refine of_body [(0, rf w (some l0))] (by decide) (by simp [lg_sl, rf_cat, cat_i, cat_l, cat_a]) (by simp [lv_args, rf_cat, cat_i, cat_l, cat_a]) ?_
  intro x hw_ hnL_ hl_ hc hret hnm hQ
  subst hw_; subst hl_
  have hnl : ∀ i, i < 3 → i < x.nL := fun i h => by rw [hnL_]; exact h
  have hw : wpO (sX9_height F l0 h) (fun r => r = v) := ⟨_, hs, rfl⟩
  unfold sX9_height at hw
  refine R_iconst (v := (0 : Int32)) hc dX9_height_0 kI_0 ?_
  refine R_istore_n (i := 1) (v := (0 : Int32)) hc [(1, .int (0 : Int32)), (0, rf x.w (some l0))] dX9_height_1 rfl (hnl 1 (le_b rfl)) rfl ?_
  refine R_iconst (v := (0 : Int32)) hc dX9_height_2 kI_0 ?_
  refine R_istore_n (i := 2) (v := (0 : Int32)) hc [(2, .int (0 : Int32)), (1, .int (0 : Int32)), (0, rf x.w (some l0))] dX9_height_3 rfl (hnl 2 (le_b rfl)) rfl ?_
  refine R_sub hc [2, 1, 0] rfl ?_
  refine R_loop (P := fun (s : (Int32 × Int32)) => Rn x 0 0 4 [(0, rf x.w (some l0)), (1, .int s.1), (2, .int s.2)] [] h) (fun l1_4 => Rn x 0 0 29 [(1, .int l1_4)] [] h) hw (fun r hw => ?_) (fun X hX s hw => ?_)
  · revert r hw
    intro l1_4 hw
    show Rn x 0 0 29 [(1, .int l1_4)] [] h
    refine R_iload_n (q := 0) (i := 1) (v := l1_4) hc dX9_height_29 rfl rfl ?_
    exact R_ireturnP hc hret rfl hQ hw dX9_height_30
  · obtain ⟨l1_6, l2_7⟩ := s
    show Rn x 0 0 4 [(0, rf x.w (some l0)), (1, .int l1_6), (2, .int l2_7)] [] h
    have hw : wpO (sX9_height_L4 F l0 l1_6 l2_7 h) _ := hw
    unfold sX9_height_L4 at hw
    refine R_iload_n (q := 2) (i := 2) (v := l2_7) hc dX9_height_4 rfl rfl ?_
    refine R_bipush (v := (12 : Int32)) hc dX9_height_5 kB_12 ?_
    refine R_icmp_ge (tgt := 29) hc dX9_height_7 (by decide) hw (fun hw => ?_) (fun hw => ?_)
    · refine R_sub hc [1] rfl ?_
      exact (wpO_some hw :)
    · refine R_iload_n (q := 1) (i := 1) (v := l1_6) hc dX9_height_10 rfl rfl ?_
      refine R_aload_n (q := 0) (i := 0) (v := (some l0)) hc dX9_height_11 rfl rfl ?_
      refine R_getR hc fl_9_30 dX9_height_12 hw (fun t1 hw => ?_)
      refine R_iload_n (q := 2) (i := 2) (v := l2_7) hc dX9_height_15 rfl rfl ?_
      refine R_iaload hc dX9_height_16 hw (fun t2 hw => ?_)
      refine R_iconst (v := (1 : Int32)) hc dX9_height_17 kI_1 ?_
      refine R_iadd hc dX9_height_18 ?_
      refine R_jmx hc ml_9_88 (le_b rfl) (le_b rfl) ⟨Nat.zero_le _, Nat.zero_le _⟩ dX9_height_19 ?_
      refine R_nmI hw (fun l1_3 hw => ?_)
      refine R_istore_n (i := 1) (v := l1_3) hc [(1, .int l1_3), (0, rf x.w (some l0)), (2, .int l2_7)] dX9_height_22 rfl (hnl 1 (le_b rfl)) rfl ?_
      refine R_iinc (q := 2) (i := 2) (v := l2_7) hc [(2, .int (l2_7 + (1 : Int32))), (1, .int l1_3), (0, rf x.w (some l0))] dX9_height_23 rfl (kC_1 _) (hnl 2 (le_b rfl)) rfl ?_
      refine R_goto (tgt := 4) hc dX9_height_26 (by decide) ?_
      refine R_sub hc [2, 1, 0] rfl ?_
      exact hX (l1_3, l2_7 + (1 : Int32)) (wpO_some hw :)
theorem dX9_totalLength_0 : decode cX9_totalLength 0 = .ok (.iconst 0, 1) := by decide +kernel
theorem dX9_totalLength_1 : decode cX9_totalLength 1 = .ok (.istore_n 1, 1) := by decide +kernel
theorem dX9_totalLength_2 : decode cX9_totalLength 2 = .ok (.iconst 0, 1) := by decide +kernel
theorem dX9_totalLength_3 : decode cX9_totalLength 3 = .ok (.istore_n 2, 1) := by decide +kernel
theorem dX9_totalLength_4 : decode cX9_totalLength 4 = .ok (.iload_n 2, 1) := by decide +kernel
theorem dX9_totalLength_5 : decode cX9_totalLength 5 = .ok (.bipush 12, 2) := by decide +kernel
theorem dX9_totalLength_7 : decode cX9_totalLength 7 = .ok (.if_icmp .ge 25, 3) := by decide +kernel
theorem dX9_totalLength_10 : decode cX9_totalLength 10 = .ok (.iload_n 1, 1) := by decide +kernel
theorem dX9_totalLength_11 : decode cX9_totalLength 11 = .ok (.aload_n 0, 1) := by decide +kernel
theorem dX9_totalLength_12 : decode cX9_totalLength 12 = .ok (.getfield 27, 3) := by decide +kernel
theorem dX9_totalLength_15 : decode cX9_totalLength 15 = .ok (.iload_n 2, 1) := by decide +kernel
theorem dX9_totalLength_16 : decode cX9_totalLength 16 = .ok (.iaload, 1) := by decide +kernel
theorem dX9_totalLength_17 : decode cX9_totalLength 17 = .ok (.aload_n 0, 1) := by decide +kernel
theorem dX9_totalLength_18 : decode cX9_totalLength 18 = .ok (.getfield 24, 3) := by decide +kernel
theorem dX9_totalLength_21 : decode cX9_totalLength 21 = .ok (.iload_n 2, 1) := by decide +kernel
theorem dX9_totalLength_22 : decode cX9_totalLength 22 = .ok (.iaload, 1) := by decide +kernel
theorem dX9_totalLength_23 : decode cX9_totalLength 23 = .ok (.isub, 1) := by decide +kernel
theorem dX9_totalLength_24 : decode cX9_totalLength 24 = .ok (.iadd, 1) := by decide +kernel
theorem dX9_totalLength_25 : decode cX9_totalLength 25 = .ok (.istore_n 1, 1) := by decide +kernel
theorem dX9_totalLength_26 : decode cX9_totalLength 26 = .ok (.iinc 2 1, 3) := by decide +kernel
theorem dX9_totalLength_29 : decode cX9_totalLength 29 = .ok (.goto (-25), 3) := by decide +kernel
theorem dX9_totalLength_32 : decode cX9_totalLength 32 = .ok (.iload_n 1, 1) := by decide +kernel
theorem dX9_totalLength_33 : decode cX9_totalLength 33 = .ok (.ireturn, 1) := by decide +kernel
def sX9_totalLength_L4 (F : Nat) (l0 : Nat) (l1 : Int32) (l2 : Int32) (h : HP) : Option ((Int32 × Int32) ⊕ Int32) :=
  if (12 : Int32) ≤ l2 then
    some (.inr l1)
  else
    (gR h 9 (some l0) 6).bind fun t1 =>
    (aI h 13 t1 l2).bind fun t2 =>
    (gR h 9 (some l0) 5).bind fun t3 =>
    (aI h 13 t3 l2).bind fun t4 =>
    nmI (l1 + (t2 - t4)) fun l1_5 =>
    some (.inl (l1_5, l2 + (1 : Int32)))
def sX9_totalLength (F : Nat) (l0 : Nat) (h : HP) : Option Int32 :=
  (iter (fun s => sX9_totalLength_L4 F l0 s.1 s.2 h) F ((0 : Int32), (0 : Int32))).bind fun l1_6 =>
    some l1_6
abbrev rm_X9_totalLength : Room := { frames := 0, cells := 0, slots := 0, locals := 0 }
set_option maxRecDepth 100000 in
set_option maxHeartbeats 4000000 in
theorem mt_X9_totalLength {w : WD} {l : Launch} {F : Nat} {l0 : Nat} {h : HP} {v : Int32} (hs : sX9_totalLength F l0 h = some v) : MI w l yX9_totalLength cX9_totalLength 3 .int rm_X9_totalLength 0 0 [rf w (some l0)] h v h := by
  refine of_body [(0, rf w (some l0))] (by decide) (by simp [lg_sl, rf_cat, cat_i, cat_l, cat_a]) (by simp [lv_args, rf_cat, cat_i, cat_l, cat_a]) ?_
  intro x hw_ hnL_ hl_ hc hret hnm hQ
  subst hw_; subst hl_
  have hnl : ∀ i, i < 3 → i < x.nL := fun i h => by rw [hnL_]; exact h
  have hw : wpO (sX9_totalLength F l0 h) (fun r => r = v) := ⟨_, hs, rfl⟩
  unfold sX9_totalLength at hw
  refine R_iconst (v := (0 : Int32)) hc dX9_totalLength_0 kI_0 ?_
  refine R_istore_n (i := 1) (v := (0 : Int32)) hc [(1, .int (0 : Int32)), (0, rf x.w (some l0))] dX9_totalLength_1 rfl (hnl 1 (le_b rfl)) rfl ?_
  refine R_iconst (v := (0 : Int32)) hc dX9_totalLength_2 kI_0 ?_
  refine R_istore_n (i := 2) (v := (0 : Int32)) hc [(2, .int (0 : Int32)), (1, .int (0 : Int32)), (0, rf x.w (some l0))] dX9_totalLength_3 rfl (hnl 2 (le_b rfl)) rfl ?_
  refine R_sub hc [2, 1, 0] rfl ?_
  refine R_loop (P := fun (s : (Int32 × Int32)) => Rn x 0 0 4 [(0, rf x.w (some l0)), (1, .int s.1), (2, .int s.2)] [] h) (fun l1_6 => Rn x 0 0 32 [(1, .int l1_6)] [] h) hw (fun r hw => ?_) (fun X hX s hw => ?_)
  · revert r hw
    intro l1_6 hw
    show Rn x 0 0 32 [(1, .int l1_6)] [] h
    refine R_iload_n (q := 0) (i := 1) (v := l1_6) hc dX9_totalLength_32 rfl rfl ?_
    exact R_ireturnP hc hret rfl hQ hw dX9_totalLength_33
  · obtain ⟨l1_8, l2_9⟩ := s
    show Rn x 0 0 4 [(0, rf x.w (some l0)), (1, .int l1_8), (2, .int l2_9)] [] h
    have hw : wpO (sX9_totalLength_L4 F l0 l1_8 l2_9 h) _ := hw
    unfold sX9_totalLength_L4 at hw
    refine R_iload_n (q := 2) (i := 2) (v := l2_9) hc dX9_totalLength_4 rfl rfl ?_
    refine R_bipush (v := (12 : Int32)) hc dX9_totalLength_5 kB_12 ?_
    refine R_icmp_ge (tgt := 32) hc dX9_totalLength_7 (by decide) hw (fun hw => ?_) (fun hw => ?_)
    · refine R_sub hc [1] rfl ?_
      exact (wpO_some hw :)
    · refine R_iload_n (q := 1) (i := 1) (v := l1_8) hc dX9_totalLength_10 rfl rfl ?_
      refine R_aload_n (q := 0) (i := 0) (v := (some l0)) hc dX9_totalLength_11 rfl rfl ?_
      refine R_getR hc fl_9_27 dX9_totalLength_12 hw (fun t1 hw => ?_)
      refine R_iload_n (q := 2) (i := 2) (v := l2_9) hc dX9_totalLength_15 rfl rfl ?_
      refine R_iaload hc dX9_totalLength_16 hw (fun t2 hw => ?_)
      refine R_aload_n (q := 0) (i := 0) (v := (some l0)) hc dX9_totalLength_17 rfl rfl ?_
      refine R_getR hc fl_9_24 dX9_totalLength_18 hw (fun t3 hw => ?_)
      refine R_iload_n (q := 2) (i := 2) (v := l2_9) hc dX9_totalLength_21 rfl rfl ?_
      refine R_iaload hc dX9_totalLength_22 hw (fun t4 hw => ?_)
      refine R_isub hc dX9_totalLength_23 ?_
      refine R_iadd hc dX9_totalLength_24 ?_
      refine R_nmI hw (fun l1_5 hw => ?_)
      refine R_istore_n (i := 1) (v := l1_5) hc [(1, .int l1_5), (0, rf x.w (some l0)), (2, .int l2_9)] dX9_totalLength_25 rfl (hnl 1 (le_b rfl)) rfl ?_
      refine R_iinc (q := 2) (i := 2) (v := l2_9) hc [(2, .int (l2_9 + (1 : Int32))), (1, .int l1_5), (0, rf x.w (some l0))] dX9_totalLength_26 rfl (kC_1 _) (hnl 2 (le_b rfl)) rfl ?_
      refine R_goto (tgt := 4) hc dX9_totalLength_29 (by decide) ?_
      refine R_sub hc [2, 1, 0] rfl ?_
      exact hX (l1_5, l2_9 + (1 : Int32)) (wpO_some hw :)
theorem dX2_isSame_0 : decode cX2_isSame 0 = .ok (.iconst 0, 1) := by decide +kernel
theorem dX2_isSame_1 : decode cX2_isSame 1 = .ok (.istore_n 1, 1) := by decide +kernel
theorem dX2_isSame_2 : decode cX2_isSame 2 = .ok (.iload_n 1, 1) := by decide +kernel
theorem dX2_isSame_3 : decode cX2_isSame 3 = .ok (.aload_n 0, 1) := by decide +kernel
theorem dX2_isSame_4 : decode cX2_isSame 4 = .ok (.getfield 31, 3) := by decide +kernel
theorem dX2_isSame_7 : decode cX2_isSame 7 = .ok (.if_icmp .ge 65, 3) := by decide +kernel
theorem dX2_isSame_10 : decode cX2_isSame 10 = .ok (.aload_n 0, 1) := by decide +kernel
theorem dX2_isSame_11 : decode cX2_isSame 11 = .ok (.getfield 31, 3) := by decide +kernel
theorem dX2_isSame_14 : decode cX2_isSame 14 = .ok (.iconst 1, 1) := by decide +kernel
theorem dX2_isSame_15 : decode cX2_isSame 15 = .ok (.isub, 1) := by decide +kernel
theorem dX2_isSame_16 : decode cX2_isSame 16 = .ok (.iload_n 1, 1) := by decide +kernel
theorem dX2_isSame_17 : decode cX2_isSame 17 = .ok (.isub, 1) := by decide +kernel
theorem dX2_isSame_18 : decode cX2_isSame 18 = .ok (.istore_n 2, 1) := by decide +kernel
theorem dX2_isSame_19 : decode cX2_isSame 19 = .ok (.aload_n 0, 1) := by decide +kernel
theorem dX2_isSame_20 : decode cX2_isSame 20 = .ok (.getfield 9, 3) := by decide +kernel
theorem dX2_isSame_23 : decode cX2_isSame 23 = .ok (.iload_n 1, 1) := by decide +kernel
theorem dX2_isSame_24 : decode cX2_isSame 24 = .ok (.iaload, 1) := by decide +kernel
theorem dX2_isSame_25 : decode cX2_isSame 25 = .ok (.aload_n 0, 1) := by decide +kernel
theorem dX2_isSame_26 : decode cX2_isSame 26 = .ok (.getfield 9, 3) := by decide +kernel
theorem dX2_isSame_29 : decode cX2_isSame 29 = .ok (.iload_n 2, 1) := by decide +kernel
theorem dX2_isSame_30 : decode cX2_isSame 30 = .ok (.iaload, 1) := by decide +kernel
theorem dX2_isSame_31 : decode cX2_isSame 31 = .ok (.if_icmp .ne 33, 3) := by decide +kernel
theorem dX2_isSame_34 : decode cX2_isSame 34 = .ok (.aload_n 0, 1) := by decide +kernel
theorem dX2_isSame_35 : decode cX2_isSame 35 = .ok (.getfield 15, 3) := by decide +kernel
theorem dX2_isSame_38 : decode cX2_isSame 38 = .ok (.iload_n 1, 1) := by decide +kernel
theorem dX2_isSame_39 : decode cX2_isSame 39 = .ok (.iaload, 1) := by decide +kernel
theorem dX2_isSame_40 : decode cX2_isSame 40 = .ok (.aload_n 0, 1) := by decide +kernel
theorem dX2_isSame_41 : decode cX2_isSame 41 = .ok (.getfield 15, 3) := by decide +kernel
theorem dX2_isSame_44 : decode cX2_isSame 44 = .ok (.iload_n 2, 1) := by decide +kernel
theorem dX2_isSame_45 : decode cX2_isSame 45 = .ok (.iaload, 1) := by decide +kernel
theorem dX2_isSame_46 : decode cX2_isSame 46 = .ok (.if_icmp .ne 18, 3) := by decide +kernel
theorem dX2_isSame_49 : decode cX2_isSame 49 = .ok (.aload_n 0, 1) := by decide +kernel
theorem dX2_isSame_50 : decode cX2_isSame 50 = .ok (.getfield 18, 3) := by decide +kernel
theorem dX2_isSame_53 : decode cX2_isSame 53 = .ok (.iload_n 1, 1) := by decide +kernel
theorem dX2_isSame_54 : decode cX2_isSame 54 = .ok (.iaload, 1) := by decide +kernel
theorem dX2_isSame_55 : decode cX2_isSame 55 = .ok (.aload_n 0, 1) := by decide +kernel
theorem dX2_isSame_56 : decode cX2_isSame 56 = .ok (.getfield 18, 3) := by decide +kernel
theorem dX2_isSame_59 : decode cX2_isSame 59 = .ok (.iload_n 2, 1) := by decide +kernel
theorem dX2_isSame_60 : decode cX2_isSame 60 = .ok (.iaload, 1) := by decide +kernel
theorem dX2_isSame_61 : decode cX2_isSame 61 = .ok (.if_icmp .eq 5, 3) := by decide +kernel
theorem dX2_isSame_64 : decode cX2_isSame 64 = .ok (.iconst 0, 1) := by decide +kernel
theorem dX2_isSame_65 : decode cX2_isSame 65 = .ok (.ireturn, 1) := by decide +kernel
theorem dX2_isSame_66 : decode cX2_isSame 66 = .ok (.iinc 1 1, 3) := by decide +kernel
theorem dX2_isSame_69 : decode cX2_isSame 69 = .ok (.goto (-67), 3) := by decide +kernel
theorem dX2_isSame_72 : decode cX2_isSame 72 = .ok (.iconst 1, 1) := by decide +kernel
theorem dX2_isSame_73 : decode cX2_isSame 73 = .ok (.ireturn, 1) := by decide +kernel
def sX2_isSame_L2 (F : Nat) (l0 : Nat) (l1 : Int32) (h : HP) : Option (Int32 ⊕ (Unit ⊕ Int32)) :=
  (gI h 2 (some l0) 2).bind fun t1 =>
  if t1 ≤ l1 then
    some (.inr (.inl ()))
  else
    (gI h 2 (some l0) 2).bind fun t2 =>
    nmI ((t2 - (1 : Int32)) - l1) fun l2_3 =>
    (gR h 2 (some l0) 3).bind fun t4 =>
    (aI h 13 t4 l1).bind fun t5 =>
    (gR h 2 (some l0) 3).bind fun t6 =>
    (aI h 13 t6 l2_3).bind fun t7 =>
    if ¬ t5 = t7 then
      some (.inr (.inr (0 : Int32)))
    else
      (gR h 2 (some l0) 4).bind fun t8 =>
      (aI h 13 t8 l1).bind fun t9 =>
      (gR h 2 (some l0) 4).bind fun t10 =>
      (aI h 13 t10 l2_3).bind fun t11 =>
      if ¬ t9 = t11 then
        some (.inr (.inr (0 : Int32)))
      else
        (gR h 2 (some l0) 5).bind fun t12 =>
        (aI h 13 t12 l1).bind fun t13 =>
        (gR h 2 (some l0) 5).bind fun t14 =>
        (aI h 13 t14 l2_3).bind fun t15 =>
        if t13 = t15 then
          some (.inl (l1 + (1 : Int32)))
        else
          some (.inr (.inr (0 : Int32)))
def sX2_isSame (F : Nat) (l0 : Nat) (h : HP) : Option Int32 :=
  (iter (fun s => sX2_isSame_L2 F l0 s h) F (0 : Int32)).bind fun r => match r with
  | .inl _ =>
    some (1 : Int32)
  | .inr u16 => some u16
abbrev rm_X2_isSame : Room := { frames := 0, cells := 0, slots := 0, locals := 0 }
set_option maxRecDepth 100000 in
set_option maxHeartbeats 4000000 in
theorem mt_X2_isSame {w : WD} {l : Launch} {F : Nat} {l0 : Nat} {h : HP} {v : Int32} (hs : sX2_isSame F l0 h = some v) : MI w l yX2_isSame cX2_isSame 3 .boolean rm_X2_isSame 0 0 [rf w (some l0)] h v h := by
  refine of_body [(0, rf w (some l0))] (by decide) (by simp [lg_sl, rf_cat, cat_i, cat_l, cat_a]) (by simp [lv_args, rf_cat, cat_i, cat_l, cat_a]) ?_
  intro x hw_ hnL_ hl_ hc hret hnm hQ
  subst hw_; subst hl_
  have hnl : ∀ i, i < 3 → i < x.nL := fun i h => by rw [hnL_]; exact h
  have hw : wpO (sX2_isSame F l0 h) (fun r => r = v) := ⟨_, hs, rfl⟩
  unfold sX2_isSame at hw
  refine R_iconst (v := (0 : Int32)) hc dX2_isSame_0 kI_0 ?_
  refine R_istore_n (i := 1) (v := (0 : Int32)) hc [(1, .int (0 : Int32)), (0, rf x.w (some l0))] dX2_isSame_1 rfl (hnl 1 (le_b rfl)) rfl ?_
  refine R_sub hc [1, 0] rfl ?_
  refine R_loop (P := fun (s : Int32) => Rn x 0 0 2 [(0, rf x.w (some l0)), (1, .int s)] [] h) (fun r => match r with | .inl _ => Rn x 0 0 72 [] [] h | .inr u => u = v) hw (fun r hw => ?_) (fun X hX s hw => ?_)
  · cases r with
    | inl r =>
      revert hw
      intro hw
      show Rn x 0 0 72 [] [] h
      have hw : wpO (_) _ := hw
      refine R_iconst (v := (1 : Int32)) hc dX2_isSame_72 kI_1 ?_
      exact R_ireturnP hc hret rfl hQ hw dX2_isSame_73
    | inr u => exact (wpO_some hw :)
  · revert s hw
    intro l1_17 hw
    show Rn x 0 0 2 [(0, rf x.w (some l0)), (1, .int l1_17)] [] h
    have hw : wpO (sX2_isSame_L2 F l0 l1_17 h) _ := hw
    unfold sX2_isSame_L2 at hw
    refine R_iload_n (q := 1) (i := 1) (v := l1_17) hc dX2_isSame_2 rfl rfl ?_
    refine R_aload_n (q := 0) (i := 0) (v := (some l0)) hc dX2_isSame_3 rfl rfl ?_
    refine R_getI hc fl_2_31 dX2_isSame_4 hw (fun t1 hw => ?_)
    refine R_icmp_ge (tgt := 72) hc dX2_isSame_7 (by decide) hw (fun hw => ?_) (fun hw => ?_)
    · refine R_sub hc [] rfl ?_
      exact (wpO_some hw :)
    · refine R_aload_n (q := 0) (i := 0) (v := (some l0)) hc dX2_isSame_10 rfl rfl ?_
      refine R_getI hc fl_2_31 dX2_isSame_11 hw (fun t2 hw => ?_)
      refine R_iconst (v := (1 : Int32)) hc dX2_isSame_14 kI_1 ?_
      refine R_isub hc dX2_isSame_15 ?_
      refine R_iload_n (q := 1) (i := 1) (v := l1_17) hc dX2_isSame_16 rfl rfl ?_
      refine R_isub hc dX2_isSame_17 ?_
      refine R_nmI hw (fun l2_3 hw => ?_)
      refine R_istore_n (i := 2) (v := l2_3) hc [(2, .int l2_3), (0, rf x.w (some l0)), (1, .int l1_17)] dX2_isSame_18 rfl (hnl 2 (le_b rfl)) rfl ?_
      refine R_aload_n (q := 1) (i := 0) (v := (some l0)) hc dX2_isSame_19 rfl rfl ?_
      refine R_getR hc fl_2_9 dX2_isSame_20 hw (fun t4 hw => ?_)
      refine R_iload_n (q := 2) (i := 1) (v := l1_17) hc dX2_isSame_23 rfl rfl ?_
      refine R_iaload hc dX2_isSame_24 hw (fun t5 hw => ?_)
      refine R_aload_n (q := 1) (i := 0) (v := (some l0)) hc dX2_isSame_25 rfl rfl ?_
      refine R_getR hc fl_2_9 dX2_isSame_26 hw (fun t6 hw => ?_)
      refine R_iload_n (q := 0) (i := 2) (v := l2_3) hc dX2_isSame_29 rfl rfl ?_
      refine R_iaload hc dX2_isSame_30 hw (fun t7 hw => ?_)
      refine R_icmp_ne (tgt := 64) hc dX2_isSame_31 (by decide) hw (fun hw => ?_) (fun hw => ?_)
      · refine R_iconst (v := (0 : Int32)) hc dX2_isSame_64 kI_0 ?_
        exact R_ireturnP hc hret rfl hQ ⟨_, rfl, (wpO_some hw :)⟩ dX2_isSame_65
      · refine R_aload_n (q := 1) (i := 0) (v := (some l0)) hc dX2_isSame_34 rfl rfl ?_
        refine R_getR hc fl_2_15 dX2_isSame_35 hw (fun t8 hw => ?_)
        refine R_iload_n (q := 2) (i := 1) (v := l1_17) hc dX2_isSame_38 rfl rfl ?_
        refine R_iaload hc dX2_isSame_39 hw (fun t9 hw => ?_)
        refine R_aload_n (q := 1) (i := 0) (v := (some l0)) hc dX2_isSame_40 rfl rfl ?_
        refine R_getR hc fl_2_15 dX2_isSame_41 hw (fun t10 hw => ?_)
        refine R_iload_n (q := 0) (i := 2) (v := l2_3) hc dX2_isSame_44 rfl rfl ?_
        refine R_iaload hc dX2_isSame_45 hw (fun t11 hw => ?_)
        refine R_icmp_ne (tgt := 64) hc dX2_isSame_46 (by decide) hw (fun hw => ?_) (fun hw => ?_)
        · refine R_iconst (v := (0 : Int32)) hc dX2_isSame_64 kI_0 ?_
          exact R_ireturnP hc hret rfl hQ ⟨_, rfl, (wpO_some hw :)⟩ dX2_isSame_65
        · refine R_aload_n (q := 1) (i := 0) (v := (some l0)) hc dX2_isSame_49 rfl rfl ?_
          refine R_getR hc fl_2_18 dX2_isSame_50 hw (fun t12 hw => ?_)
          refine R_iload_n (q := 2) (i := 1) (v := l1_17) hc dX2_isSame_53 rfl rfl ?_
          refine R_iaload hc dX2_isSame_54 hw (fun t13 hw => ?_)
          refine R_aload_n (q := 1) (i := 0) (v := (some l0)) hc dX2_isSame_55 rfl rfl ?_
          refine R_getR hc fl_2_18 dX2_isSame_56 hw (fun t14 hw => ?_)
          refine R_iload_n (q := 0) (i := 2) (v := l2_3) hc dX2_isSame_59 rfl rfl ?_
          refine R_iaload hc dX2_isSame_60 hw (fun t15 hw => ?_)
          refine R_icmp_eq (tgt := 66) hc dX2_isSame_61 (by decide) hw (fun hw => ?_) (fun hw => ?_)
          · refine R_iinc (q := 2) (i := 1) (v := l1_17) hc [(1, .int (l1_17 + (1 : Int32))), (2, .int l2_3), (0, rf x.w (some l0))] dX2_isSame_66 rfl (kC_1 _) (hnl 1 (le_b rfl)) rfl ?_
            refine R_goto (tgt := 2) hc dX2_isSame_69 (by decide) ?_
            refine R_sub hc [2, 0] rfl ?_
            exact hX (l1_17 + (1 : Int32)) (wpO_some hw :)
          · refine R_iconst (v := (0 : Int32)) hc dX2_isSame_64 kI_0 ?_
            exact R_ireturnP hc hret rfl hQ ⟨_, rfl, (wpO_some hw :)⟩ dX2_isSame_65
theorem dX10_least_0 : decode cX10_least 0 = .ok (.aload_n 0, 1) := by decide +kernel
theorem dX10_least_1 : decode cX10_least 1 = .ok (.getfield 75, 3) := by decide +kernel
theorem dX10_least_4 : decode cX10_least 4 = .ok (.getfield 284, 3) := by decide +kernel
theorem dX10_least_7 : decode cX10_least 7 = .ok (.getfield 288, 3) := by decide +kernel
theorem dX10_least_10 : decode cX10_least 10 = .ok (.aload_n 0, 1) := by decide +kernel
theorem dX10_least_11 : decode cX10_least 11 = .ok (.getfield 75, 3) := by decide +kernel
theorem dX10_least_14 : decode cX10_least 14 = .ok (.getfield 125, 3) := by decide +kernel
theorem dX10_least_17 : decode cX10_least 17 = .ok (.invokevirtual 292, 3) := by decide +kernel
theorem dX10_least_20 : decode cX10_least 20 = .ok (.iaload, 1) := by decide +kernel
theorem dX10_least_21 : decode cX10_least 21 = .ok (.ireturn, 1) := by decide +kernel
def sX10_least (F : Nat) (l0 : Nat) (h : HP) : Option Int32 :=
  (gR h 10 (some l0) 12).bind fun t1 =>
  (gR h 4 t1 1).bind fun t2 =>
  (gR h 3 t2 0).bind fun t3 =>
  (gR h 10 (some l0) 12).bind fun t4 =>
  (gR h 4 t4 0).bind fun t5 =>
  (dO h 1 t5).bind fun a6 =>
  (sX1_allFingers F a6 h).bind fun t7 =>
  (aI h 13 t3 t7).bind fun t8 =>
  some t8
abbrev rm_X10_least : Room := { frames := 1, cells := 0, slots := 0, locals := 20 }
set_option maxRecDepth 100000 in
set_option maxHeartbeats 4000000 in
theorem mt_X10_least {w : WD} {l : Launch} {F : Nat} {l0 : Nat} {h : HP} {v : Int32} (hs : sX10_least F l0 h = some v) : MI w l yX10_least cX10_least 1 .int rm_X10_least 0 0 [rf w (some l0)] h v h := by
  refine of_body [(0, rf w (some l0))] (by decide) (by simp [lg_sl, rf_cat, cat_i, cat_l, cat_a]) (by simp [lv_args, rf_cat, cat_i, cat_l, cat_a]) ?_
  intro x hw_ hnL_ hl_ hc hret hnm hQ
  subst hw_; subst hl_
  have hnl : ∀ i, i < 1 → i < x.nL := fun i h => by rw [hnL_]; exact h
  have hw : wpO (sX10_least F l0 h) (fun r => r = v) := ⟨_, hs, rfl⟩
  unfold sX10_least at hw
  refine R_aload_n (q := 0) (i := 0) (v := (some l0)) hc dX10_least_0 rfl rfl ?_
  refine R_getR hc fl_10_75 dX10_least_1 hw (fun t1 hw => ?_)
  refine R_getR hc fl_10_284 dX10_least_4 hw (fun t2 hw => ?_)
  refine R_getR hc fl_10_288 dX10_least_7 hw (fun t3 hw => ?_)
  refine R_aload_n (q := 0) (i := 0) (v := (some l0)) hc dX10_least_10 rfl rfl ?_
  refine R_getR hc fl_10_75 dX10_least_11 hw (fun t4 hw => ?_)
  refine R_getR hc fl_10_125 dX10_least_14 hw (fun t5 hw => ?_)
  refine R_cVI (As := []) (rest := [rf x.w t3]) (r := t5) (ci := 1) hc ml_10_292 mf_X1_allFingers rfl (by decide) ⟨rfl, rfl⟩ ⟨le_b rfl, le_b rfl⟩ ⟨Nat.zero_le _, Nat.zero_le _⟩ (fun a v e => mt_X1_allFingers e) rfl rfl (by simp [rf_cat, cat_i, cat_l, cat_a]) dX10_least_17 hw (fun t7 hw => ?_)
  refine R_iaload hc dX10_least_20 hw (fun t8 hw => ?_)
  exact R_ireturnP hc hret rfl hQ hw dX10_least_21
theorem dX4_total_0 : decode cX4_total 0 = .ok (.aload_n 0, 1) := by decide +kernel
theorem dX4_total_1 : decode cX4_total 1 = .ok (.getfield 25, 3) := by decide +kernel
theorem dX4_total_4 : decode cX4_total 4 = .ok (.aload_n 0, 1) := by decide +kernel
theorem dX4_total_5 : decode cX4_total 5 = .ok (.getfield 12, 3) := by decide +kernel
theorem dX4_total_8 : decode cX4_total 8 = .ok (.invokevirtual 42, 3) := by decide +kernel
theorem dX4_total_11 : decode cX4_total 11 = .ok (.laload, 1) := by decide +kernel
theorem dX4_total_12 : decode cX4_total 12 = .ok (.lreturn, 1) := by decide +kernel
def sX4_total (F : Nat) (l0 : Nat) (h : HP) : Option Int64 :=
  (gR h 4 (some l0) 2).bind fun t1 =>
  (gR h 4 (some l0) 0).bind fun t2 =>
  (dO h 1 t2).bind fun a3 =>
  (sX1_allFingers F a3 h).bind fun t4 =>
  (aJ h t1 t4).bind fun t5 =>
  some t5
abbrev rm_X4_total : Room := { frames := 1, cells := 0, slots := 0, locals := 20 }
set_option maxRecDepth 100000 in
set_option maxHeartbeats 4000000 in
theorem mt_X4_total {w : WD} {l : Launch} {F : Nat} {l0 : Nat} {h : HP} {v : Int64} (hs : sX4_total F l0 h = some v) : MJ w l yX4_total cX4_total 1 rm_X4_total 0 0 [rf w (some l0)] h v h := by
  refine of_body [(0, rf w (some l0))] (by decide) (by simp [lg_sl, rf_cat, cat_i, cat_l, cat_a]) (by simp [lv_args, rf_cat, cat_i, cat_l, cat_a]) ?_
  intro x hw_ hnL_ hl_ hc hret hnm hQ
  subst hw_; subst hl_
  have hnl : ∀ i, i < 1 → i < x.nL := fun i h => by rw [hnL_]; exact h
  have hw : wpO (sX4_total F l0 h) (fun r => r = v) := ⟨_, hs, rfl⟩
  unfold sX4_total at hw
  refine R_aload_n (q := 0) (i := 0) (v := (some l0)) hc dX4_total_0 rfl rfl ?_
  refine R_getR hc fl_4_25 dX4_total_1 hw (fun t1 hw => ?_)
  refine R_aload_n (q := 0) (i := 0) (v := (some l0)) hc dX4_total_4 rfl rfl ?_
  refine R_getR hc fl_4_12 dX4_total_5 hw (fun t2 hw => ?_)
  refine R_cVI (As := []) (rest := [rf x.w t1]) (r := t2) (ci := 1) hc ml_4_42 mf_X1_allFingers rfl (by decide) ⟨rfl, rfl⟩ ⟨le_b rfl, le_b rfl⟩ ⟨Nat.zero_le _, Nat.zero_le _⟩ (fun a v e => mt_X1_allFingers e) rfl rfl (by simp [rf_cat, cat_i, cat_l, cat_a]) dX4_total_8 hw (fun t4 hw => ?_)
  refine R_laload hc dX4_total_11 hw (fun t5 hw => ?_)
  exact R_lreturnP hc hret hQ hw dX4_total_12
theorem dX10_many_0 : decode cX10_many 0 = .ok (.aload_n 0, 1) := by decide +kernel
theorem dX10_many_1 : decode cX10_many 1 = .ok (.getfield 75, 3) := by decide +kernel
theorem dX10_many_4 : decode cX10_many 4 = .ok (.invokevirtual 295, 3) := by decide +kernel
theorem dX10_many_7 : decode cX10_many 7 = .ok (.lreturn, 1) := by decide +kernel
def sX10_many (F : Nat) (l0 : Nat) (h : HP) : Option Int64 :=
  (gR h 10 (some l0) 12).bind fun t1 =>
  (dO h 4 t1).bind fun a2 =>
  (sX4_total F a2 h).bind fun t3 =>
  some t3
abbrev rm_X10_many : Room := { frames := 2, cells := 0, slots := 0, locals := 40 }
set_option maxRecDepth 100000 in
set_option maxHeartbeats 4000000 in
theorem mt_X10_many {w : WD} {l : Launch} {F : Nat} {l0 : Nat} {h : HP} {v : Int64} (hs : sX10_many F l0 h = some v) : MJ w l yX10_many cX10_many 1 rm_X10_many 0 0 [rf w (some l0)] h v h := by
  refine of_body [(0, rf w (some l0))] (by decide) (by simp [lg_sl, rf_cat, cat_i, cat_l, cat_a]) (by simp [lv_args, rf_cat, cat_i, cat_l, cat_a]) ?_
  intro x hw_ hnL_ hl_ hc hret hnm hQ
  subst hw_; subst hl_
  have hnl : ∀ i, i < 1 → i < x.nL := fun i h => by rw [hnL_]; exact h
  have hw : wpO (sX10_many F l0 h) (fun r => r = v) := ⟨_, hs, rfl⟩
  unfold sX10_many at hw
  refine R_aload_n (q := 0) (i := 0) (v := (some l0)) hc dX10_many_0 rfl rfl ?_
  refine R_getR hc fl_10_75 dX10_many_1 hw (fun t1 hw => ?_)
  refine R_cVJ (As := []) (rest := []) (r := t1) (ci := 4) hc ml_10_295 mf_X4_total rfl (by decide) ⟨rfl, rfl⟩ ⟨le_b rfl, le_b rfl⟩ ⟨Nat.zero_le _, Nat.zero_le _⟩ (fun a v e => mt_X4_total e) rfl rfl (Nat.zero_le _) dX10_many_4 hw (fun t3 hw => ?_)
  exact R_lreturnP hc hret hQ hw dX10_many_7
theorem dX3_nexts_0 : decode cX3_nexts 0 = .ok (.aload_n 0, 1) := by decide +kernel
theorem dX3_nexts_1 : decode cX3_nexts 1 = .ok (.getfield 15, 3) := by decide +kernel
theorem dX3_nexts_4 : decode cX3_nexts 4 = .ok (.iload_n 2, 1) := by decide +kernel
theorem dX3_nexts_5 : decode cX3_nexts 5 = .ok (.iaload, 1) := by decide +kernel
theorem dX3_nexts_6 : decode cX3_nexts 6 = .ok (.aload_n 1, 1) := by decide +kernel
theorem dX3_nexts_7 : decode cX3_nexts 7 = .ok (.iload_n 3, 1) := by decide +kernel
theorem dX3_nexts_8 : decode cX3_nexts 8 = .ok (.invokevirtual 51, 3) := by decide +kernel
theorem dX3_nexts_11 : decode cX3_nexts 11 = .ok (.iand, 1) := by decide +kernel
theorem dX3_nexts_12 : decode cX3_nexts 12 = .ok (.istore 4, 2) := by decide +kernel
theorem dX3_nexts_14 : decode cX3_nexts 14 = .ok (.iload 4, 2) := by decide +kernel
theorem dX3_nexts_16 : decode cX3_nexts 16 = .ok (.ifCond .eq 6, 3) := by decide +kernel
theorem dX3_nexts_19 : decode cX3_nexts 19 = .ok (.iload 4, 2) := by decide +kernel
theorem dX3_nexts_21 : decode cX3_nexts 21 = .ok (.ireturn, 1) := by decide +kernel
theorem dX3_nexts_22 : decode cX3_nexts 22 = .ok (.aload_n 0, 1) := by decide +kernel
theorem dX3_nexts_23 : decode cX3_nexts 23 = .ok (.getfield 15, 3) := by decide +kernel
theorem dX3_nexts_26 : decode cX3_nexts 26 = .ok (.iload_n 2, 1) := by decide +kernel
theorem dX3_nexts_27 : decode cX3_nexts 27 = .ok (.iaload, 1) := by decide +kernel
theorem dX3_nexts_28 : decode cX3_nexts 28 = .ok (.aload_n 0, 1) := by decide +kernel
theorem dX3_nexts_29 : decode cX3_nexts 29 = .ok (.getfield 18, 3) := by decide +kernel
theorem dX3_nexts_32 : decode cX3_nexts 32 = .ok (.iload_n 2, 1) := by decide +kernel
theorem dX3_nexts_33 : decode cX3_nexts 33 = .ok (.iaload, 1) := by decide +kernel
theorem dX3_nexts_34 : decode cX3_nexts 34 = .ok (.aload_n 1, 1) := by decide +kernel
theorem dX3_nexts_35 : decode cX3_nexts 35 = .ok (.iload_n 3, 1) := by decide +kernel
theorem dX3_nexts_36 : decode cX3_nexts 36 = .ok (.invokevirtual 51, 3) := by decide +kernel
theorem dX3_nexts_39 : decode cX3_nexts 39 = .ok (.iand, 1) := by decide +kernel
theorem dX3_nexts_40 : decode cX3_nexts 40 = .ok (.ior, 1) := by decide +kernel
theorem dX3_nexts_41 : decode cX3_nexts 41 = .ok (.ireturn, 1) := by decide +kernel
def sX3_nexts (F : Nat) (l0 : Nat) (l1 : Option Nat) (l2 : Int32) (l3 : Int32) (h : HP) : Option Int32 :=
  (gR h 3 (some l0) 1).bind fun t1 =>
  (aI h 13 t1 l2).bind fun t2 =>
  (dO h 1 l1).bind fun a3 =>
  (sX1_joining F a3 l3 h).bind fun t4 =>
  nmI (t2 &&& t4) fun l4_5 =>
  if l4_5 = 0 then
    (gR h 3 (some l0) 1).bind fun t6 =>
    (aI h 13 t6 l2).bind fun t7 =>
    (gR h 3 (some l0) 2).bind fun t8 =>
    (aI h 13 t8 l2).bind fun t9 =>
    (dO h 1 l1).bind fun a10 =>
    (sX1_joining F a10 l3 h).bind fun t11 =>
    some (t7 ||| (t9 &&& t11))
  else
    some l4_5
abbrev rm_X3_nexts : Room := { frames := 1, cells := 0, slots := 0, locals := 21 }
set_option maxRecDepth 100000 in
set_option maxHeartbeats 4000000 in
theorem mt_X3_nexts {w : WD} {l : Launch} {F : Nat} {l0 : Nat} {l1 : Option Nat} {l2 : Int32} {l3 : Int32} {h : HP} {v : Int32} (hs : sX3_nexts F l0 l1 l2 l3 h = some v) : MI w l yX3_nexts cX3_nexts 5 .int rm_X3_nexts 0 0 [rf w (some l0), rf w l1, .int l2, .int l3] h v h := by
  refine of_body [(0, rf w (some l0)), (1, rf w l1), (2, .int l2), (3, .int l3)] (by decide) (by simp [lg_sl, rf_cat, cat_i, cat_l, cat_a]) (by simp [lv_args, rf_cat, cat_i, cat_l, cat_a]) ?_
  intro x hw_ hnL_ hl_ hc hret hnm hQ
  subst hw_; subst hl_
  have hnl : ∀ i, i < 5 → i < x.nL := fun i h => by rw [hnL_]; exact h
  have hw : wpO (sX3_nexts F l0 l1 l2 l3 h) (fun r => r = v) := ⟨_, hs, rfl⟩
  unfold sX3_nexts at hw
  refine R_aload_n (q := 0) (i := 0) (v := (some l0)) hc dX3_nexts_0 rfl rfl ?_
  refine R_getR hc fl_3_15 dX3_nexts_1 hw (fun t1 hw => ?_)
  refine R_iload_n (q := 2) (i := 2) (v := l2) hc dX3_nexts_4 rfl rfl ?_
  refine R_iaload hc dX3_nexts_5 hw (fun t2 hw => ?_)
  refine R_aload_n (q := 1) (i := 1) (v := l1) hc dX3_nexts_6 rfl rfl ?_
  refine R_iload_n (q := 3) (i := 3) (v := l3) hc dX3_nexts_7 rfl rfl ?_
  refine R_cVI (As := [.int l3]) (rest := [.int t2]) (r := l1) (ci := 1) hc ml_3_51 mf_X1_joining rfl (by decide) ⟨rfl, rfl⟩ ⟨le_b rfl, le_b rfl⟩ ⟨Nat.zero_le _, Nat.zero_le _⟩ (fun a v e => mt_X1_joining e) rfl rfl (le_b rfl) dX3_nexts_8 hw (fun t4 hw => ?_)
  refine R_iand hc dX3_nexts_11 ?_
  refine R_nmI hw (fun l4_5 hw => ?_)
  refine R_istore (i := 4) (v := l4_5) hc [(4, .int l4_5), (0, rf x.w (some l0)), (1, rf x.w l1), (2, .int l2), (3, .int l3)] dX3_nexts_12 (hnl 4 (le_b rfl)) rfl ?_
  refine R_iload (q := 0) (i := 4) (v := l4_5) hc dX3_nexts_14 rfl ?_
  refine R_if_eq (tgt := 22) hc dX3_nexts_16 (by decide) hw (fun hw => ?_) (fun hw => ?_)
  · refine R_aload_n (q := 1) (i := 0) (v := (some l0)) hc dX3_nexts_22 rfl rfl ?_
    refine R_getR hc fl_3_15 dX3_nexts_23 hw (fun t6 hw => ?_)
    refine R_iload_n (q := 3) (i := 2) (v := l2) hc dX3_nexts_26 rfl rfl ?_
    refine R_iaload hc dX3_nexts_27 hw (fun t7 hw => ?_)
    refine R_aload_n (q := 1) (i := 0) (v := (some l0)) hc dX3_nexts_28 rfl rfl ?_
    refine R_getR hc fl_3_18 dX3_nexts_29 hw (fun t8 hw => ?_)
    refine R_iload_n (q := 3) (i := 2) (v := l2) hc dX3_nexts_32 rfl rfl ?_
    refine R_iaload hc dX3_nexts_33 hw (fun t9 hw => ?_)
    refine R_aload_n (q := 2) (i := 1) (v := l1) hc dX3_nexts_34 rfl rfl ?_
    refine R_iload_n (q := 4) (i := 3) (v := l3) hc dX3_nexts_35 rfl rfl ?_
    refine R_cVI (As := [.int l3]) (rest := [.int t9, .int t7]) (r := l1) (ci := 1) hc ml_3_51 mf_X1_joining rfl (by decide) ⟨rfl, rfl⟩ ⟨le_b rfl, le_b rfl⟩ ⟨Nat.zero_le _, Nat.zero_le _⟩ (fun a v e => mt_X1_joining e) rfl rfl (le_b rfl) dX3_nexts_36 hw (fun t11 hw => ?_)
    refine R_iand hc dX3_nexts_39 ?_
    refine R_ior hc dX3_nexts_40 ?_
    exact R_ireturnP hc hret rfl hQ hw dX3_nexts_41
  · refine R_iload (q := 0) (i := 4) (v := l4_5) hc dX3_nexts_19 rfl ?_
    exact R_ireturnP hc hret rfl hQ hw dX3_nexts_21
theorem dX4_layInto_0 : decode cX4_layInto 0 = .ok (.aload_n 0, 1) := by decide +kernel
theorem dX4_layInto_1 : decode cX4_layInto 1 = .ok (.getfield 12, 3) := by decide +kernel
theorem dX4_layInto_4 : decode cX4_layInto 4 = .ok (.invokevirtual 42, 3) := by decide +kernel
theorem dX4_layInto_7 : decode cX4_layInto 7 = .ok (.istore 4, 2) := by decide +kernel
theorem dX4_layInto_9 : decode cX4_layInto 9 = .ok (.aload_n 0, 1) := by decide +kernel
theorem dX4_layInto_10 : decode cX4_layInto 10 = .ok (.getfield 21, 3) := by decide +kernel
theorem dX4_layInto_13 : decode cX4_layInto 13 = .ok (.getfield 69, 3) := by decide +kernel
theorem dX4_layInto_16 : decode cX4_layInto 16 = .ok (.iload 4, 2) := by decide +kernel
theorem dX4_layInto_18 : decode cX4_layInto 18 = .ok (.iaload, 1) := by decide +kernel
theorem dX4_layInto_19 : decode cX4_layInto 19 = .ok (.istore 5, 2) := by decide +kernel
theorem dX4_layInto_21 : decode cX4_layInto 21 = .ok (.lload_n 1, 1) := by decide +kernel
theorem dX4_layInto_22 : decode cX4_layInto 22 = .ok (.lstore 6, 2) := by decide +kernel
theorem dX4_layInto_24 : decode cX4_layInto 24 = .ok (.aload_n 3, 1) := by decide +kernel
theorem dX4_layInto_25 : decode cX4_layInto 25 = .ok (.aload_n 0, 1) := by decide +kernel
theorem dX4_layInto_26 : decode cX4_layInto 26 = .ok (.getfield 12, 3) := by decide +kernel
theorem dX4_layInto_29 : decode cX4_layInto 29 = .ok (.getfield 57, 3) := by decide +kernel
theorem dX4_layInto_32 : decode cX4_layInto 32 = .ok (.invokevirtual 110, 3) := by decide +kernel
theorem dX4_layInto_35 : decode cX4_layInto 35 = .ok (.iconst 0, 1) := by decide +kernel
theorem dX4_layInto_36 : decode cX4_layInto 36 = .ok (.istore 8, 2) := by decide +kernel
theorem dX4_layInto_38 : decode cX4_layInto 38 = .ok (.iload 8, 2) := by decide +kernel
theorem dX4_layInto_40 : decode cX4_layInto 40 = .ok (.aload_n 0, 1) := by decide +kernel
theorem dX4_layInto_41 : decode cX4_layInto 41 = .ok (.getfield 12, 3) := by decide +kernel
theorem dX4_layInto_44 : decode cX4_layInto 44 = .ok (.getfield 57, 3) := by decide +kernel
theorem dX4_layInto_47 : decode cX4_layInto 47 = .ok (.if_icmp .ge 123, 3) := by decide +kernel
theorem dX4_layInto_50 : decode cX4_layInto 50 = .ok (.iload 5, 2) := by decide +kernel
theorem dX4_layInto_52 : decode cX4_layInto 52 = .ok (.invokestatic 104, 3) := by decide +kernel
theorem dX4_layInto_55 : decode cX4_layInto 55 = .ok (.istore 9, 2) := by decide +kernel
theorem dX4_layInto_57 : decode cX4_layInto 57 = .ok (.iload 5, 2) := by decide +kernel
theorem dX4_layInto_59 : decode cX4_layInto 59 = .ok (.invokestatic 99, 3) := by decide +kernel
theorem dX4_layInto_62 : decode cX4_layInto 62 = .ok (.istore 10, 2) := by decide +kernel
theorem dX4_layInto_64 : decode cX4_layInto 64 = .ok (.iload 10, 2) := by decide +kernel
theorem dX4_layInto_66 : decode cX4_layInto 66 = .ok (.iconst 1, 1) := by decide +kernel
theorem dX4_layInto_67 : decode cX4_layInto 67 = .ok (.if_icmp .le 60, 3) := by decide +kernel
theorem dX4_layInto_70 : decode cX4_layInto 70 = .ok (.aload_n 0, 1) := by decide +kernel
theorem dX4_layInto_71 : decode cX4_layInto 71 = .ok (.getfield 36, 3) := by decide +kernel
theorem dX4_layInto_74 : decode cX4_layInto 74 = .ok (.iload 4, 2) := by decide +kernel
theorem dX4_layInto_76 : decode cX4_layInto 76 = .ok (.bipush 32, 2) := by decide +kernel
theorem dX4_layInto_78 : decode cX4_layInto 78 = .ok (.imul, 1) := by decide +kernel
theorem dX4_layInto_79 : decode cX4_layInto 79 = .ok (.iload 9, 2) := by decide +kernel
theorem dX4_layInto_81 : decode cX4_layInto 81 = .ok (.iadd, 1) := by decide +kernel
theorem dX4_layInto_82 : decode cX4_layInto 82 = .ok (.iaload, 1) := by decide +kernel
theorem dX4_layInto_83 : decode cX4_layInto 83 = .ok (.istore 11, 2) := by decide +kernel
theorem dX4_layInto_85 : decode cX4_layInto 85 = .ok (.lload 6, 2) := by decide +kernel
theorem dX4_layInto_87 : decode cX4_layInto 87 = .ok (.iload 11, 2) := by decide +kernel
theorem dX4_layInto_89 : decode cX4_layInto 89 = .ok (.i2l, 1) := by decide +kernel
theorem dX4_layInto_90 : decode cX4_layInto 90 = .ok (.lcmp, 1) := by decide +kernel
theorem dX4_layInto_91 : decode cX4_layInto 91 = .ok (.ifCond .ge 6, 3) := by decide +kernel
theorem dX4_layInto_94 : decode cX4_layInto 94 = .ok (.goto 33, 3) := by decide +kernel
theorem dX4_layInto_97 : decode cX4_layInto 97 = .ok (.lload 6, 2) := by decide +kernel
theorem dX4_layInto_99 : decode cX4_layInto 99 = .ok (.iload 11, 2) := by decide +kernel
theorem dX4_layInto_101 : decode cX4_layInto 101 = .ok (.i2l, 1) := by decide +kernel
theorem dX4_layInto_102 : decode cX4_layInto 102 = .ok (.lsub, 1) := by decide +kernel
theorem dX4_layInto_103 : decode cX4_layInto 103 = .ok (.lstore 6, 2) := by decide +kernel
theorem dX4_layInto_105 : decode cX4_layInto 105 = .ok (.iload 5, 2) := by decide +kernel
theorem dX4_layInto_107 : decode cX4_layInto 107 = .ok (.iload 5, 2) := by decide +kernel
theorem dX4_layInto_109 : decode cX4_layInto 109 = .ok (.iconst 1, 1) := by decide +kernel
theorem dX4_layInto_110 : decode cX4_layInto 110 = .ok (.isub, 1) := by decide +kernel
theorem dX4_layInto_111 : decode cX4_layInto 111 = .ok (.iand, 1) := by decide +kernel
theorem dX4_layInto_112 : decode cX4_layInto 112 = .ok (.istore 5, 2) := by decide +kernel
theorem dX4_layInto_114 : decode cX4_layInto 114 = .ok (.iload 5, 2) := by decide +kernel
theorem dX4_layInto_116 : decode cX4_layInto 116 = .ok (.invokestatic 104, 3) := by decide +kernel
theorem dX4_layInto_119 : decode cX4_layInto 119 = .ok (.istore 9, 2) := by decide +kernel
theorem dX4_layInto_121 : decode cX4_layInto 121 = .ok (.iinc 10 (-1), 3) := by decide +kernel
theorem dX4_layInto_124 : decode cX4_layInto 124 = .ok (.goto (-60), 3) := by decide +kernel
theorem dX4_layInto_127 : decode cX4_layInto 127 = .ok (.aload_n 3, 1) := by decide +kernel
theorem dX4_layInto_128 : decode cX4_layInto 128 = .ok (.getfield 115, 3) := by decide +kernel
theorem dX4_layInto_131 : decode cX4_layInto 131 = .ok (.iload 8, 2) := by decide +kernel
theorem dX4_layInto_133 : decode cX4_layInto 133 = .ok (.iload 9, 2) := by decide +kernel
theorem dX4_layInto_135 : decode cX4_layInto 135 = .ok (.iastore, 1) := by decide +kernel
theorem dX4_layInto_136 : decode cX4_layInto 136 = .ok (.iload 4, 2) := by decide +kernel
theorem dX4_layInto_138 : decode cX4_layInto 138 = .ok (.iload 9, 2) := by decide +kernel
theorem dX4_layInto_140 : decode cX4_layInto 140 = .ok (.iconst 4, 1) := by decide +kernel
theorem dX4_layInto_141 : decode cX4_layInto 141 = .ok (.idiv, 1) := by decide +kernel
theorem dX4_layInto_142 : decode cX4_layInto 142 = .ok (.invokestatic 82, 3) := by decide +kernel
theorem dX4_layInto_145 : decode cX4_layInto 145 = .ok (.istore 4, 2) := by decide +kernel
theorem dX4_layInto_147 : decode cX4_layInto 147 = .ok (.aload_n 0, 1) := by decide +kernel
theorem dX4_layInto_148 : decode cX4_layInto 148 = .ok (.getfield 21, 3) := by decide +kernel
theorem dX4_layInto_151 : decode cX4_layInto 151 = .ok (.aload_n 0, 1) := by decide +kernel
theorem dX4_layInto_152 : decode cX4_layInto 152 = .ok (.getfield 12, 3) := by decide +kernel
theorem dX4_layInto_155 : decode cX4_layInto 155 = .ok (.iload 4, 2) := by decide +kernel
theorem dX4_layInto_157 : decode cX4_layInto 157 = .ok (.iload 9, 2) := by decide +kernel
theorem dX4_layInto_159 : decode cX4_layInto 159 = .ok (.invokevirtual 118, 3) := by decide +kernel
theorem dX4_layInto_162 : decode cX4_layInto 162 = .ok (.istore 5, 2) := by decide +kernel
theorem dX4_layInto_164 : decode cX4_layInto 164 = .ok (.iinc 8 1, 3) := by decide +kernel
theorem dX4_layInto_167 : decode cX4_layInto 167 = .ok (.goto (-129), 3) := by decide +kernel
theorem dX4_layInto_170 : decode cX4_layInto 170 = .ok (.return_, 1) := by decide +kernel
def sX4_layInto_L64 (F : Nat) (l0 : Nat) (l3 : Option Nat) (l4 : Int32) (l8 : Int32) (l5 : Int32) (l6 : Int64) (l9 : Int32) (l10 : Int32) (h : HP) : Option ((Int32 × Int64 × Int32 × Int32) ⊕ (Int64 × Int32)) :=
  if l10 ≤ (1 : Int32) then
    some (.inr (l6, l9))
  else
    (gR h 4 (some l0) 5).bind fun t15 =>
    (aI h 13 t15 ((l4 * (32 : Int32)) + l9)).bind fun t16 =>
    if 0 ≤ (lg_cmp l6 t16.toInt64) then
      nmJ (l6 - t16.toInt64) fun l6_17 =>
      nmI (l5 &&& (l5 - (1 : Int32))) fun l5_18 =>
      (sX10_lowestBit F l5_18 h).bind fun t19 =>
      some (.inl (l5_18, l6_17, t19, l10 + (-1 : Int32)))
    else
      some (.inr (l6, l9))
def sX4_layInto_L38 (F : Nat) (l0 : Nat) (l3 : Option Nat) (l4 : Int32) (l5 : Int32) (l6 : Int64) (l8 : Int32) (h : HP) : Option ((Int32 × Int32 × Int64 × Int32 × HP) ⊕ HP) :=
  (gR h 4 (some l0) 0).bind fun t11 =>
  (gI h 1 t11 5).bind fun t12 =>
  if t12 ≤ l8 then
    some (.inr h)
  else
    (sX10_lowestBit F l5 h).bind fun t13 =>
    (sJ6_bitCount_0f7a4 F l5 h).bind fun t14 =>
    (iter (fun s => sX4_layInto_L64 F l0 l3 l4 l8 s.1 s.2.1 s.2.2.1 s.2.2.2 h) F (l5, l6, t13, t14)).bind fun r => match r with
    | (l6_20, l9_21) =>
      (gR h 7 l3 1).bind fun t22 =>
      (sI h t22 l8 l9_21).bind fun h23 =>
      (sX10_without F l4 (l9_21 / (4 : Int32)) h23).bind fun t24 =>
      (gR h23 4 (some l0) 1).bind fun t25 =>
      (gR h23 4 (some l0) 0).bind fun t26 =>
      (dO h23 3 t25).bind fun a27 =>
      (sX3_nexts F a27 t26 t24 l9_21 h23).bind fun t28 =>
      some (.inl (t24, t28, l6_20, l8 + (1 : Int32), h23))
def sX4_layInto (F : Nat) (l0 : Nat) (l1 : Int64) (l3 : Option Nat) (h : HP) : Option HP :=
  (gR h 4 (some l0) 0).bind fun t1 =>
  (dO h 1 t1).bind fun a2 =>
  (sX1_allFingers F a2 h).bind fun t3 =>
  (gR h 4 (some l0) 1).bind fun t4 =>
  (gR h 3 t4 1).bind fun t5 =>
  (aI h 13 t5 t3).bind fun t6 =>
  (gR h 4 (some l0) 0).bind fun t7 =>
  (gI h 1 t7 5).bind fun t8 =>
  (dO h 7 l3).bind fun a9 =>
  (sX7_reset F a9 t8 h).bind fun h10 =>
  (iter (fun s => sX4_layInto_L38 F l0 l3 s.1 s.2.1 s.2.2.1 s.2.2.2.1 s.2.2.2.2) F (t3, t6, l1, (0 : Int32), h10)).bind fun h34 =>
    some h34
abbrev rm_X4_layInto : Room := { frames := 2, cells := 0, slots := 0, locals := 45 }
set_option maxRecDepth 100000 in
set_option maxHeartbeats 4000000 in
theorem mt_X4_layInto {w : WD} {l : Launch} {F : Nat} {l0 : Nat} {l1 : Int64} {l3 : Option Nat} {h : HP} {h' : HP} (hs : sX4_layInto F l0 l1 l3 h = some h') : MV w l yX4_layInto cX4_layInto 12 rm_X4_layInto 0 0 [rf w (some l0), .long l1, rf w l3] h h' := by
  refine of_body [(0, rf w (some l0)), (1, .long l1), (3, rf w l3)] (by decide) (by simp [lg_sl, rf_cat, cat_i, cat_l, cat_a]) (by simp [lv_args, rf_cat, cat_i, cat_l, cat_a]) ?_
  intro x hw_ hnL_ hl_ hc hret hnm hQ
  subst hw_; subst hl_
  have hnl : ∀ i, i < 12 → i < x.nL := fun i h => by rw [hnL_]; exact h
  have hw : wpO (sX4_layInto F l0 l1 l3 h) (fun r => r = h') := ⟨_, hs, rfl⟩
  unfold sX4_layInto at hw
  refine R_aload_n (q := 0) (i := 0) (v := (some l0)) hc dX4_layInto_0 rfl rfl ?_
  refine R_getR hc fl_4_12 dX4_layInto_1 hw (fun t1 hw => ?_)
  refine R_cVI (As := []) (rest := []) (r := t1) (ci := 1) hc ml_4_42 mf_X1_allFingers rfl (by decide) ⟨rfl, rfl⟩ ⟨le_b rfl, le_b rfl⟩ ⟨Nat.zero_le _, Nat.zero_le _⟩ (fun a v e => mt_X1_allFingers e) rfl rfl (Nat.zero_le _) dX4_layInto_4 hw (fun t3 hw => ?_)
  refine R_istore (i := 4) (v := t3) hc [(4, .int t3), (0, rf x.w (some l0)), (1, .long l1), (3, rf x.w l3)] dX4_layInto_7 (hnl 4 (le_b rfl)) (by simp [rf_cat]) ?_
  refine R_aload_n (q := 1) (i := 0) (v := (some l0)) hc dX4_layInto_9 rfl rfl ?_
  refine R_getR hc fl_4_21 dX4_layInto_10 hw (fun t4 hw => ?_)
  refine R_getR hc fl_4_69 dX4_layInto_13 hw (fun t5 hw => ?_)
  refine R_iload (q := 0) (i := 4) (v := t3) hc dX4_layInto_16 rfl ?_
  refine R_iaload hc dX4_layInto_18 hw (fun t6 hw => ?_)
  refine R_istore (i := 5) (v := t6) hc [(5, .int t6), (4, .int t3), (0, rf x.w (some l0)), (1, .long l1), (3, rf x.w l3)] dX4_layInto_19 (hnl 5 (le_b rfl)) rfl ?_
  refine R_lload_n (q := 3) (i := 1) (v := l1) hc dX4_layInto_21 rfl rfl ?_
  refine R_lstore (i := 6) (v := l1) hc [(6, .long l1), (5, .int t6), (4, .int t3), (0, rf x.w (some l0)), (1, .long l1), (3, rf x.w l3)] dX4_layInto_22 (hnl 7 (le_b rfl)) rfl ?_
  refine R_aload_n (q := 5) (i := 3) (v := l3) hc dX4_layInto_24 rfl rfl ?_
  refine R_aload_n (q := 3) (i := 0) (v := (some l0)) hc dX4_layInto_25 rfl rfl ?_
  refine R_getR hc fl_4_12 dX4_layInto_26 hw (fun t7 hw => ?_)
  refine R_getI hc fl_4_57 dX4_layInto_29 hw (fun t8 hw => ?_)
  refine R_cVVi (As := [.int t8]) (rest := []) (r := l3) (ci := 7) hc ml_4_110 mf_X7_reset rfl (by decide) ⟨rfl, rfl⟩ ⟨le_b rfl, le_b rfl⟩ ⟨Nat.zero_le _, Nat.zero_le _⟩ (fun a h' e => mt_X7_reset e) rfl rfl (Nat.zero_le _) dX4_layInto_32 hw (fun h10 hw => ?_)
  refine R_iconst (v := (0 : Int32)) hc dX4_layInto_35 kI_0 ?_
  refine R_istore (i := 8) (v := (0 : Int32)) hc [(8, .int (0 : Int32)), (6, .long l1), (5, .int t6), (4, .int t3), (0, rf x.w (some l0)), (1, .long l1), (3, rf x.w l3)] dX4_layInto_36 (hnl 8 (le_b rfl)) rfl ?_
  refine R_sub hc [4, 6, 3, 2, 1, 0] rfl ?_
  refine R_loop (P := fun (s : (Int32 × Int32 × Int64 × Int32 × HP)) => Rn x 0 0 38 [(0, rf x.w (some l0)), (3, rf x.w l3), (4, .int s.1), (5, .int s.2.1), (6, .long s.2.2.1), (8, .int s.2.2.2.1)] [] s.2.2.2.2) (fun h34 => Rn x 0 0 170 [] [] h34) hw (fun r hw => ?_) (fun X hX s hw => ?_)
  · revert r hw
    intro h34 hw
    show Rn x 0 0 170 [] [] h34
    exact R_return hc hret hQ hw dX4_layInto_170
  · obtain ⟨l4_36, l5_37, l6_38, l8_39, h40⟩ := s
    show Rn x 0 0 38 [(0, rf x.w (some l0)), (3, rf x.w l3), (4, .int l4_36), (5, .int l5_37), (6, .long l6_38), (8, .int l8_39)] [] h40
    have hw : wpO (sX4_layInto_L38 F l0 l3 l4_36 l5_37 l6_38 l8_39 h40) _ := hw
    unfold sX4_layInto_L38 at hw
    refine R_iload (q := 5) (i := 8) (v := l8_39) hc dX4_layInto_38 rfl ?_
    refine R_aload_n (q := 0) (i := 0) (v := (some l0)) hc dX4_layInto_40 rfl rfl ?_
    refine R_getR hc fl_4_12 dX4_layInto_41 hw (fun t11 hw => ?_)
    refine R_getI hc fl_4_57 dX4_layInto_44 hw (fun t12 hw => ?_)
    refine R_icmp_ge (tgt := 170) hc dX4_layInto_47 (by decide) hw (fun hw => ?_) (fun hw => ?_)
    · refine R_sub hc [] rfl ?_
      exact (wpO_some hw :)
    · refine R_iload (q := 3) (i := 5) (v := l5_37) hc dX4_layInto_50 rfl ?_
      refine R_cNI (As := [.int l5_37]) (rest := []) hc mn_4_104 mf_X10_lowestBit ⟨rfl, rfl⟩ ⟨le_b rfl, le_b rfl⟩ ⟨Nat.zero_le _, Nat.zero_le _⟩ (fun v e => mt_X10_lowestBit e) rfl rfl (Nat.zero_le _) dX4_layInto_52 hw (fun t13 hw => ?_)
      refine R_istore (i := 9) (v := t13) hc [(9, .int t13), (0, rf x.w (some l0)), (3, rf x.w l3), (4, .int l4_36), (5, .int l5_37), (6, .long l6_38), (8, .int l8_39)] dX4_layInto_55 (hnl 9 (le_b rfl)) rfl ?_
      refine R_iload (q := 4) (i := 5) (v := l5_37) hc dX4_layInto_57 rfl ?_
      refine R_cSI (As := [.int l5_37]) (rest := []) hc ml_4_99 mf_J6_bitCount_0f7a4 ⟨rfl, rfl⟩ ⟨le_b rfl, le_b rfl⟩ ⟨Nat.zero_le _, Nat.zero_le _⟩ (fun v e => mt_J6_bitCount_0f7a4 e) rfl rfl (Nat.zero_le _) dX4_layInto_59 hw (fun t14 hw => ?_)
      refine R_istore (i := 10) (v := t14) hc [(10, .int t14), (9, .int t13), (0, rf x.w (some l0)), (3, rf x.w l3), (4, .int l4_36), (5, .int l5_37), (6, .long l6_38), (8, .int l8_39)] dX4_layInto_62 (hnl 10 (le_b rfl)) rfl ?_
      refine R_sub hc [2, 3, 4, 5, 6, 7, 1, 0] rfl ?_
      refine R_loop (P := fun (s : (Int32 × Int64 × Int32 × Int32)) => Rn x 0 0 64 [(0, rf x.w (some l0)), (3, rf x.w l3), (4, .int l4_36), (5, .int s.1), (6, .long s.2.1), (8, .int l8_39), (9, .int s.2.2.1), (10, .int s.2.2.2)] [] h40) (fun r => match r with | (l6_20, l9_21) => Rn x 0 0 127 [(0, rf x.w (some l0)), (3, rf x.w l3), (4, .int l4_36), (6, .long l6_20), (8, .int l8_39), (9, .int l9_21)] [] h40) hw (fun r hw => ?_) (fun X hX s hw => ?_)
      · obtain ⟨l6_20, l9_21⟩ := r
        show Rn x 0 0 127 [(0, rf x.w (some l0)), (3, rf x.w l3), (4, .int l4_36), (6, .long l6_20), (8, .int l8_39), (9, .int l9_21)] [] h40
        refine R_aload_n (q := 1) (i := 3) (v := l3) hc dX4_layInto_127 rfl rfl ?_
        refine R_getR hc fl_4_115 dX4_layInto_128 hw (fun t22 hw => ?_)
        refine R_iload (q := 4) (i := 8) (v := l8_39) hc dX4_layInto_131 rfl ?_
        refine R_iload (q := 5) (i := 9) (v := l9_21) hc dX4_layInto_133 rfl ?_
        refine R_iastore hc dX4_layInto_135 hw (fun h23 hw => ?_)
        refine R_iload (q := 2) (i := 4) (v := l4_36) hc dX4_layInto_136 rfl ?_
        refine R_iload (q := 5) (i := 9) (v := l9_21) hc dX4_layInto_138 rfl ?_
        refine R_iconst (v := (4 : Int32)) hc dX4_layInto_140 kI_4 ?_
        refine R_idivL hc dX4_layInto_141 (by decide) ?_
        refine R_cNI (As := [.int l4_36, .int (l9_21 / (4 : Int32))]) (rest := []) hc mn_4_82 mf_X10_without ⟨rfl, rfl⟩ ⟨le_b rfl, le_b rfl⟩ ⟨Nat.zero_le _, Nat.zero_le _⟩ (fun v e => mt_X10_without e) rfl rfl (Nat.zero_le _) dX4_layInto_142 hw (fun t24 hw => ?_)
        refine R_istore (i := 4) (v := t24) hc [(4, .int t24), (0, rf x.w (some l0)), (3, rf x.w l3), (6, .long l6_20), (8, .int l8_39), (9, .int l9_21)] dX4_layInto_145 (hnl 4 (le_b rfl)) (by simp [rf_cat]) ?_
        refine R_aload_n (q := 1) (i := 0) (v := (some l0)) hc dX4_layInto_147 rfl rfl ?_
        refine R_getR hc fl_4_21 dX4_layInto_148 hw (fun t25 hw => ?_)
        refine R_aload_n (q := 1) (i := 0) (v := (some l0)) hc dX4_layInto_151 rfl rfl ?_
        refine R_getR hc fl_4_12 dX4_layInto_152 hw (fun t26 hw => ?_)
        refine R_iload (q := 0) (i := 4) (v := t24) hc dX4_layInto_155 rfl ?_
        refine R_iload (q := 5) (i := 9) (v := l9_21) hc dX4_layInto_157 rfl ?_
        refine R_cVI (As := [rf x.w t26, .int t24, .int l9_21]) (rest := []) (r := t25) (ci := 3) hc ml_4_118 mf_X3_nexts rfl (by decide) ⟨rfl, rfl⟩ ⟨le_b rfl, le_b rfl⟩ ⟨Nat.zero_le _, Nat.zero_le _⟩ (fun a v e => mt_X3_nexts e) rfl rfl (Nat.zero_le _) dX4_layInto_159 hw (fun t28 hw => ?_)
        refine R_istore (i := 5) (v := t28) hc [(5, .int t28), (4, .int t24), (0, rf x.w (some l0)), (3, rf x.w l3), (6, .long l6_20), (8, .int l8_39), (9, .int l9_21)] dX4_layInto_162 (hnl 5 (le_b rfl)) rfl ?_
        refine R_iinc (q := 5) (i := 8) (v := l8_39) hc [(8, .int (l8_39 + (1 : Int32))), (5, .int t28), (4, .int t24), (0, rf x.w (some l0)), (3, rf x.w l3), (6, .long l6_20), (9, .int l9_21)] dX4_layInto_164 rfl (kC_1 _) (hnl 8 (le_b rfl)) rfl ?_
        refine R_goto (tgt := 38) hc dX4_layInto_167 (by decide) ?_
        refine R_sub hc [3, 4, 2, 1, 5, 0] rfl ?_
        exact hX (t24, t28, l6_20, l8_39 + (1 : Int32), h23) (wpO_some hw :)
      · obtain ⟨l5_30, l6_31, l9_32, l10_33⟩ := s
        show Rn x 0 0 64 [(0, rf x.w (some l0)), (3, rf x.w l3), (4, .int l4_36), (5, .int l5_30), (6, .long l6_31), (8, .int l8_39), (9, .int l9_32), (10, .int l10_33)] [] h40
        have hw : wpO (sX4_layInto_L64 F l0 l3 l4_36 l8_39 l5_30 l6_31 l9_32 l10_33 h40) _ := hw
        unfold sX4_layInto_L64 at hw
        refine R_iload (q := 7) (i := 10) (v := l10_33) hc dX4_layInto_64 rfl ?_
        refine R_iconst (v := (1 : Int32)) hc dX4_layInto_66 kI_1 ?_
        refine R_icmp_le (tgt := 127) hc dX4_layInto_67 (by decide) hw (fun hw => ?_) (fun hw => ?_)
        · refine R_sub hc [0, 1, 2, 4, 5, 6] rfl ?_
          exact (wpO_some hw :)
        · refine R_aload_n (q := 0) (i := 0) (v := (some l0)) hc dX4_layInto_70 rfl rfl ?_
          refine R_getR hc fl_4_36 dX4_layInto_71 hw (fun t15 hw => ?_)
          refine R_iload (q := 2) (i := 4) (v := l4_36) hc dX4_layInto_74 rfl ?_
          refine R_bipush (v := (32 : Int32)) hc dX4_layInto_76 kB_32 ?_
          refine R_imul hc dX4_layInto_78 ?_
          refine R_iload (q := 6) (i := 9) (v := l9_32) hc dX4_layInto_79 rfl ?_
          refine R_iadd hc dX4_layInto_81 ?_
          refine R_iaload hc dX4_layInto_82 hw (fun t16 hw => ?_)
          refine R_istore (i := 11) (v := t16) hc [(11, .int t16), (0, rf x.w (some l0)), (3, rf x.w l3), (4, .int l4_36), (5, .int l5_30), (6, .long l6_31), (8, .int l8_39), (9, .int l9_32), (10, .int l10_33)] dX4_layInto_83 (hnl 11 (le_b rfl)) rfl ?_
          refine R_lload (q := 5) (i := 6) (v := l6_31) hc dX4_layInto_85 rfl ?_
          refine R_iload (q := 0) (i := 11) (v := t16) hc dX4_layInto_87 rfl ?_
          refine R_i2l hc dX4_layInto_89 ?_
          refine R_lcmp hc dX4_layInto_90 ?_
          refine R_if_ge (tgt := 97) hc dX4_layInto_91 (by decide) hw (fun hw => ?_) (fun hw => ?_)
          · refine R_lload (q := 5) (i := 6) (v := l6_31) hc dX4_layInto_97 rfl ?_
            refine R_iload (q := 0) (i := 11) (v := t16) hc dX4_layInto_99 rfl ?_
            refine R_i2l hc dX4_layInto_101 ?_
            refine R_lsub hc dX4_layInto_102 ?_
            refine R_nmJ hw (fun l6_17 hw => ?_)
            refine R_lstore (i := 6) (v := l6_17) hc [(6, .long l6_17), (11, .int t16), (0, rf x.w (some l0)), (3, rf x.w l3), (4, .int l4_36), (5, .int l5_30), (8, .int l8_39), (9, .int l9_32), (10, .int l10_33)] dX4_layInto_103 (hnl 7 (le_b rfl)) rfl ?_
            refine R_iload (q := 5) (i := 5) (v := l5_30) hc dX4_layInto_105 rfl ?_
            refine R_iload (q := 5) (i := 5) (v := l5_30) hc dX4_layInto_107 rfl ?_
            refine R_iconst (v := (1 : Int32)) hc dX4_layInto_109 kI_1 ?_
            refine R_isub hc dX4_layInto_110 ?_
            refine R_iand hc dX4_layInto_111 ?_
            refine R_nmI hw (fun l5_18 hw => ?_)
            refine R_istore (i := 5) (v := l5_18) hc [(5, .int l5_18), (6, .long l6_17), (11, .int t16), (0, rf x.w (some l0)), (3, rf x.w l3), (4, .int l4_36), (8, .int l8_39), (9, .int l9_32), (10, .int l10_33)] dX4_layInto_112 (hnl 5 (le_b rfl)) rfl ?_
            refine R_iload (q := 0) (i := 5) (v := l5_18) hc dX4_layInto_114 rfl ?_
            refine R_cNI (As := [.int l5_18]) (rest := []) hc mn_4_104 mf_X10_lowestBit ⟨rfl, rfl⟩ ⟨le_b rfl, le_b rfl⟩ ⟨Nat.zero_le _, Nat.zero_le _⟩ (fun v e => mt_X10_lowestBit e) rfl rfl (Nat.zero_le _) dX4_layInto_116 hw (fun t19 hw => ?_)
            refine R_istore (i := 9) (v := t19) hc [(9, .int t19), (5, .int l5_18), (6, .long l6_17), (11, .int t16), (0, rf x.w (some l0)), (3, rf x.w l3), (4, .int l4_36), (8, .int l8_39), (10, .int l10_33)] dX4_layInto_119 (hnl 9 (le_b rfl)) rfl ?_
            refine R_iinc (q := 8) (i := 10) (v := l10_33) hc [(10, .int (l10_33 + (-1 : Int32))), (9, .int t19), (5, .int l5_18), (6, .long l6_17), (11, .int t16), (0, rf x.w (some l0)), (3, rf x.w l3), (4, .int l4_36), (8, .int l8_39)] dX4_layInto_121 rfl (kC_m1 _) (hnl 10 (le_b rfl)) rfl ?_
            refine R_goto (tgt := 64) hc dX4_layInto_124 (by decide) ?_
            refine R_sub hc [5, 6, 7, 2, 3, 8, 1, 0] rfl ?_
            exact hX (l5_18, l6_17, t19, l10_33 + (-1 : Int32)) (wpO_some hw :)
          · refine R_goto (tgt := 127) hc dX4_layInto_94 (by decide) ?_
            refine R_sub hc [1, 2, 3, 5, 6, 7] rfl ?_
            exact (wpO_some hw :)
theorem dX10_calm_0 : decode cX10_calm 0 = .ok (.aload_n 0, 1) := by decide +kernel
theorem dX10_calm_1 : decode cX10_calm 1 = .ok (.getfield 75, 3) := by decide +kernel
theorem dX10_calm_4 : decode cX10_calm 4 = .ok (.getfield 304, 3) := by decide +kernel
theorem dX10_calm_7 : decode cX10_calm 7 = .ok (.aload_n 0, 1) := by decide +kernel
theorem dX10_calm_8 : decode cX10_calm 8 = .ok (.getfield 75, 3) := by decide +kernel
theorem dX10_calm_11 : decode cX10_calm 11 = .ok (.getfield 125, 3) := by decide +kernel
theorem dX10_calm_14 : decode cX10_calm 14 = .ok (.invokevirtual 292, 3) := by decide +kernel
theorem dX10_calm_17 : decode cX10_calm 17 = .ok (.iaload, 1) := by decide +kernel
theorem dX10_calm_18 : decode cX10_calm 18 = .ok (.ireturn, 1) := by decide +kernel
def sX10_calm (F : Nat) (l0 : Nat) (h : HP) : Option Int32 :=
  (gR h 10 (some l0) 12).bind fun t1 =>
  (gR h 4 t1 3).bind fun t2 =>
  (gR h 10 (some l0) 12).bind fun t3 =>
  (gR h 4 t3 0).bind fun t4 =>
  (dO h 1 t4).bind fun a5 =>
  (sX1_allFingers F a5 h).bind fun t6 =>
  (aI h 13 t2 t6).bind fun t7 =>
  some t7
abbrev rm_X10_calm : Room := { frames := 1, cells := 0, slots := 0, locals := 20 }
set_option maxRecDepth 100000 in
set_option maxHeartbeats 4000000 in
theorem mt_X10_calm {w : WD} {l : Launch} {F : Nat} {l0 : Nat} {h : HP} {v : Int32} (hs : sX10_calm F l0 h = some v) : MI w l yX10_calm cX10_calm 1 .int rm_X10_calm 0 0 [rf w (some l0)] h v h := by
  refine of_body [(0, rf w (some l0))] (by decide) (by simp [lg_sl, rf_cat, cat_i, cat_l, cat_a]) (by simp [lv_args, rf_cat, cat_i, cat_l, cat_a]) ?_
  intro x hw_ hnL_ hl_ hc hret hnm hQ
  subst hw_; subst hl_
  have hnl : ∀ i, i < 1 → i < x.nL := fun i h => by rw [hnL_]; exact h
  have hw : wpO (sX10_calm F l0 h) (fun r => r = v) := ⟨_, hs, rfl⟩
  unfold sX10_calm at hw
  refine R_aload_n (q := 0) (i := 0) (v := (some l0)) hc dX10_calm_0 rfl rfl ?_
  refine R_getR hc fl_10_75 dX10_calm_1 hw (fun t1 hw => ?_)
  refine R_getR hc fl_10_304 dX10_calm_4 hw (fun t2 hw => ?_)
  refine R_aload_n (q := 0) (i := 0) (v := (some l0)) hc dX10_calm_7 rfl rfl ?_
  refine R_getR hc fl_10_75 dX10_calm_8 hw (fun t3 hw => ?_)
  refine R_getR hc fl_10_125 dX10_calm_11 hw (fun t4 hw => ?_)
  refine R_cVI (As := []) (rest := [rf x.w t2]) (r := t4) (ci := 1) hc ml_10_292 mf_X1_allFingers rfl (by decide) ⟨rfl, rfl⟩ ⟨le_b rfl, le_b rfl⟩ ⟨Nat.zero_le _, Nat.zero_le _⟩ (fun a v e => mt_X1_allFingers e) rfl rfl (by simp [rf_cat, cat_i, cat_l, cat_a]) dX10_calm_14 hw (fun t6 hw => ?_)
  refine R_iaload hc dX10_calm_17 hw (fun t7 hw => ?_)
  exact R_ireturnP hc hret rfl hQ hw dX10_calm_18
theorem dX10_isFinger_0 : decode cX10_isFinger 0 = .ok (.iload_n 1, 1) := by decide +kernel
theorem dX10_isFinger_1 : decode cX10_isFinger 1 = .ok (.ifCond .lt 21, 3) := by decide +kernel
theorem dX10_isFinger_4 : decode cX10_isFinger 4 = .ok (.iload_n 1, 1) := by decide +kernel
theorem dX10_isFinger_5 : decode cX10_isFinger 5 = .ok (.aload_n 0, 1) := by decide +kernel
theorem dX10_isFinger_6 : decode cX10_isFinger 6 = .ok (.getfield 75, 3) := by decide +kernel
theorem dX10_isFinger_9 : decode cX10_isFinger 9 = .ok (.getfield 125, 3) := by decide +kernel
theorem dX10_isFinger_12 : decode cX10_isFinger 12 = .ok (.getfield 128, 3) := by decide +kernel
theorem dX10_isFinger_15 : decode cX10_isFinger 15 = .ok (.if_icmp .ge 7, 3) := by decide +kernel
theorem dX10_isFinger_18 : decode cX10_isFinger 18 = .ok (.iconst 1, 1) := by decide +kernel
theorem dX10_isFinger_19 : decode cX10_isFinger 19 = .ok (.goto 4, 3) := by decide +kernel
theorem dX10_isFinger_22 : decode cX10_isFinger 22 = .ok (.iconst 0, 1) := by decide +kernel
theorem dX10_isFinger_23 : decode cX10_isFinger 23 = .ok (.ireturn, 1) := by decide +kernel
def sX10_isFinger (F : Nat) (l0 : Nat) (l1 : Int32) (h : HP) : Option Int32 :=
  if l1 < 0 then
    some (0 : Int32)
  else
    (gR h 10 (some l0) 12).bind fun t1 =>
    (gR h 4 t1 0).bind fun t2 =>
    (gI h 1 t2 5).bind fun t3 =>
    if t3 ≤ l1 then
      some (0 : Int32)
    else
      some (1 : Int32)
abbrev rm_X10_isFinger : Room := { frames := 0, cells := 0, slots := 0, locals := 0 }
set_option maxRecDepth 100000 in
set_option maxHeartbeats 4000000 in
theorem mt_X10_isFinger {w : WD} {l : Launch} {F : Nat} {l0 : Nat} {l1 : Int32} {h : HP} {v : Int32} (hs : sX10_isFinger F l0 l1 h = some v) : MI w l yX10_isFinger cX10_isFinger 2 .boolean rm_X10_isFinger 0 0 [rf w (some l0), .int l1] h v h := by
  refine of_body [(0, rf w (some l0)), (1, .int l1)] (by decide) (by simp [lg_sl, rf_cat, cat_i, cat_l, cat_a]) (by simp [lv_args, rf_cat, cat_i, cat_l, cat_a]) ?_
  intro x hw_ hnL_ hl_ hc hret hnm hQ
  subst hw_; subst hl_
  have hnl : ∀ i, i < 2 → i < x.nL := fun i h => by rw [hnL_]; exact h
  have hw : wpO (sX10_isFinger F l0 l1 h) (fun r => r = v) := ⟨_, hs, rfl⟩
  unfold sX10_isFinger at hw
  refine R_iload_n (q := 1) (i := 1) (v := l1) hc dX10_isFinger_0 rfl rfl ?_
  refine R_if_lt (tgt := 22) hc dX10_isFinger_1 (by decide) hw (fun hw => ?_) (fun hw => ?_)
  · refine R_iconst (v := (0 : Int32)) hc dX10_isFinger_22 kI_0 ?_
    exact R_ireturnP hc hret rfl hQ hw dX10_isFinger_23
  · refine R_iload_n (q := 1) (i := 1) (v := l1) hc dX10_isFinger_4 rfl rfl ?_
    refine R_aload_n (q := 0) (i := 0) (v := (some l0)) hc dX10_isFinger_5 rfl rfl ?_
    refine R_getR hc fl_10_75 dX10_isFinger_6 hw (fun t1 hw => ?_)
    refine R_getR hc fl_10_125 dX10_isFinger_9 hw (fun t2 hw => ?_)
    refine R_getI hc fl_10_128 dX10_isFinger_12 hw (fun t3 hw => ?_)
    refine R_icmp_ge (tgt := 22) hc dX10_isFinger_15 (by decide) hw (fun hw => ?_) (fun hw => ?_)
    · refine R_iconst (v := (0 : Int32)) hc dX10_isFinger_22 kI_0 ?_
      exact R_ireturnP hc hret rfl hQ hw dX10_isFinger_23
    · refine R_iconst (v := (1 : Int32)) hc dX10_isFinger_18 kI_1 ?_
      refine R_goto (tgt := 23) hc dX10_isFinger_19 (by decide) ?_
      exact R_ireturnP hc hret rfl hQ hw dX10_isFinger_23
theorem dX4_fewestBetween_0 : decode cX4_fewestBetween 0 = .ok (.iload_n 1, 1) := by decide +kernel
theorem dX4_fewestBetween_1 : decode cX4_fewestBetween 1 = .ok (.iload_n 2, 1) := by decide +kernel
theorem dX4_fewestBetween_2 : decode cX4_fewestBetween 2 = .ok (.if_icmp .ne 20, 3) := by decide +kernel
theorem dX4_fewestBetween_5 : decode cX4_fewestBetween 5 = .ok (.aload_n 0, 1) := by decide +kernel
theorem dX4_fewestBetween_6 : decode cX4_fewestBetween 6 = .ok (.getfield 12, 3) := by decide +kernel
theorem dX4_fewestBetween_9 : decode cX4_fewestBetween 9 = .ok (.getfield 57, 3) := by decide +kernel
theorem dX4_fewestBetween_12 : decode cX4_fewestBetween 12 = .ok (.iconst 1, 1) := by decide +kernel
theorem dX4_fewestBetween_13 : decode cX4_fewestBetween 13 = .ok (.if_icmp .ne 7, 3) := by decide +kernel
theorem dX4_fewestBetween_16 : decode cX4_fewestBetween 16 = .ok (.iconst 0, 1) := by decide +kernel
theorem dX4_fewestBetween_17 : decode cX4_fewestBetween 17 = .ok (.goto 4, 3) := by decide +kernel
theorem dX4_fewestBetween_20 : decode cX4_fewestBetween 20 = .ok (.iconst (-1), 1) := by decide +kernel
theorem dX4_fewestBetween_21 : decode cX4_fewestBetween 21 = .ok (.ireturn, 1) := by decide +kernel
theorem dX4_fewestBetween_22 : decode cX4_fewestBetween 22 = .ok (.aload_n 0, 1) := by decide +kernel
theorem dX4_fewestBetween_23 : decode cX4_fewestBetween 23 = .ok (.getfield 33, 3) := by decide +kernel
theorem dX4_fewestBetween_26 : decode cX4_fewestBetween 26 = .ok (.aload_n 0, 1) := by decide +kernel
theorem dX4_fewestBetween_27 : decode cX4_fewestBetween 27 = .ok (.getfield 12, 3) := by decide +kernel
theorem dX4_fewestBetween_30 : decode cX4_fewestBetween 30 = .ok (.iload_n 2, 1) := by decide +kernel
theorem dX4_fewestBetween_31 : decode cX4_fewestBetween 31 = .ok (.invokevirtual 49, 3) := by decide +kernel
theorem dX4_fewestBetween_34 : decode cX4_fewestBetween 34 = .ok (.sipush 1000, 3) := by decide +kernel
theorem dX4_fewestBetween_37 : decode cX4_fewestBetween 37 = .ok (.istore_n 3, 1) := by decide +kernel
theorem dX4_fewestBetween_38 : decode cX4_fewestBetween 38 = .ok (.iconst 0, 1) := by decide +kernel
theorem dX4_fewestBetween_39 : decode cX4_fewestBetween 39 = .ok (.istore 4, 2) := by decide +kernel
theorem dX4_fewestBetween_41 : decode cX4_fewestBetween 41 = .ok (.iload 4, 2) := by decide +kernel
theorem dX4_fewestBetween_43 : decode cX4_fewestBetween 43 = .ok (.iconst 4, 1) := by decide +kernel
theorem dX4_fewestBetween_44 : decode cX4_fewestBetween 44 = .ok (.if_icmp .ge 38, 3) := by decide +kernel
theorem dX4_fewestBetween_47 : decode cX4_fewestBetween 47 = .ok (.iload_n 3, 1) := by decide +kernel
theorem dX4_fewestBetween_48 : decode cX4_fewestBetween 48 = .ok (.aload_n 0, 1) := by decide +kernel
theorem dX4_fewestBetween_49 : decode cX4_fewestBetween 49 = .ok (.getfield 33, 3) := by decide +kernel
theorem dX4_fewestBetween_52 : decode cX4_fewestBetween 52 = .ok (.aload_n 0, 1) := by decide +kernel
theorem dX4_fewestBetween_53 : decode cX4_fewestBetween 53 = .ok (.getfield 12, 3) := by decide +kernel
theorem dX4_fewestBetween_56 : decode cX4_fewestBetween 56 = .ok (.aload_n 0, 1) := by decide +kernel
theorem dX4_fewestBetween_57 : decode cX4_fewestBetween 57 = .ok (.getfield 12, 3) := by decide +kernel
theorem dX4_fewestBetween_60 : decode cX4_fewestBetween 60 = .ok (.invokevirtual 42, 3) := by decide +kernel
theorem dX4_fewestBetween_63 : decode cX4_fewestBetween 63 = .ok (.iload_n 1, 1) := by decide +kernel
theorem dX4_fewestBetween_64 : decode cX4_fewestBetween 64 = .ok (.iconst 4, 1) := by decide +kernel
theorem dX4_fewestBetween_65 : decode cX4_fewestBetween 65 = .ok (.imul, 1) := by decide +kernel
theorem dX4_fewestBetween_66 : decode cX4_fewestBetween 66 = .ok (.iload 4, 2) := by decide +kernel
theorem dX4_fewestBetween_68 : decode cX4_fewestBetween 68 = .ok (.iadd, 1) := by decide +kernel
theorem dX4_fewestBetween_69 : decode cX4_fewestBetween 69 = .ok (.invokevirtual 122, 3) := by decide +kernel
theorem dX4_fewestBetween_72 : decode cX4_fewestBetween 72 = .ok (.invokestatic 76, 3) := by decide +kernel
theorem dX4_fewestBetween_75 : decode cX4_fewestBetween 75 = .ok (.istore_n 3, 1) := by decide +kernel
theorem dX4_fewestBetween_76 : decode cX4_fewestBetween 76 = .ok (.iinc 4 1, 3) := by decide +kernel
theorem dX4_fewestBetween_79 : decode cX4_fewestBetween 79 = .ok (.goto (-38), 3) := by decide +kernel
theorem dX4_fewestBetween_82 : decode cX4_fewestBetween 82 = .ok (.iload_n 3, 1) := by decide +kernel
theorem dX4_fewestBetween_83 : decode cX4_fewestBetween 83 = .ok (.ireturn, 1) := by decide +kernel
def sX4_fewestBetween_L41 (F : Nat) (l0 : Nat) (l1 : Int32) (l3 : Int32) (l4 : Int32) (h : HP) : Option ((Int32 × Int32) ⊕ Int32) :=
  if (4 : Int32) ≤ l4 then
    some (.inr l3)
  else
    (gR h 4 (some l0) 4).bind fun t5 =>
    (gR h 4 (some l0) 0).bind fun t6 =>
    (gR h 4 (some l0) 0).bind fun t7 =>
    (dO h 1 t7).bind fun a8 =>
    (sX1_allFingers F a8 h).bind fun t9 =>
    (dO h 3 t5).bind fun a10 =>
    (sX3_gapsFrom F a10 t6 t9 ((l1 * (4 : Int32)) + l4) h).bind fun t11 =>
    nmI (jmn l3 t11) fun l3_12 =>
    some (.inl (l3_12, l4 + (1 : Int32)))
def sX4_fewestBetween (F : Nat) (l0 : Nat) (l1 : Int32) (l2 : Int32) (h : HP) : Option (Int32 × HP) :=
  if ¬ l1 = l2 then
    (gR h 4 (some l0) 4).bind fun t1 =>
    (gR h 4 (some l0) 0).bind fun t2 =>
    (dO h 3 t1).bind fun a3 =>
    (sX3_fill F a3 t2 l2 h).bind fun h4 =>
    (iter (fun s => sX4_fewestBetween_L41 F l0 l1 s.1 s.2 h4) F ((1000 : Int32), (0 : Int32))).bind fun l3_13 =>
      some (l3_13, h4)
  else
    (gR h 4 (some l0) 0).bind fun t17 =>
    (gI h 1 t17 5).bind fun t18 =>
    if ¬ t18 = (1 : Int32) then
      some ((-1 : Int32), h)
    else
      some ((0 : Int32), h)
abbrev rm_X4_fewestBetween : Room := { frames := 4, cells := 0, slots := 0, locals := 98 }
set_option maxRecDepth 100000 in
set_option maxHeartbeats 4000000 in
theorem mt_X4_fewestBetween {w : WD} {l : Launch} {F : Nat} {l0 : Nat} {l1 : Int32} {l2 : Int32} {h : HP} {v : Int32} {h' : HP} (hs : sX4_fewestBetween F l0 l1 l2 h = some (v, h')) : MI w l yX4_fewestBetween cX4_fewestBetween 5 .int rm_X4_fewestBetween 0 0 [rf w (some l0), .int l1, .int l2] h v h' := by
  refine of_body [(0, rf w (some l0)), (1, .int l1), (2, .int l2)] (by decide) (by simp [lg_sl, rf_cat, cat_i, cat_l, cat_a]) (by simp [lv_args, rf_cat, cat_i, cat_l, cat_a]) ?_
  intro x hw_ hnL_ hl_ hc hret hnm hQ
  subst hw_; subst hl_
  have hnl : ∀ i, i < 5 → i < x.nL := fun i h => by rw [hnL_]; exact h
  have hw : wpO (sX4_fewestBetween F l0 l1 l2 h) (fun r => r = (v, h')) := ⟨_, hs, rfl⟩
  unfold sX4_fewestBetween at hw
  refine R_iload_n (q := 1) (i := 1) (v := l1) hc dX4_fewestBetween_0 rfl rfl ?_
  refine R_iload_n (q := 2) (i := 2) (v := l2) hc dX4_fewestBetween_1 rfl rfl ?_
  refine R_icmp_ne (tgt := 22) hc dX4_fewestBetween_2 (by decide) hw (fun hw => ?_) (fun hw => ?_)
  · refine R_aload_n (q := 0) (i := 0) (v := (some l0)) hc dX4_fewestBetween_22 rfl rfl ?_
    refine R_getR hc fl_4_33 dX4_fewestBetween_23 hw (fun t1 hw => ?_)
    refine R_aload_n (q := 0) (i := 0) (v := (some l0)) hc dX4_fewestBetween_26 rfl rfl ?_
    refine R_getR hc fl_4_12 dX4_fewestBetween_27 hw (fun t2 hw => ?_)
    refine R_iload_n (q := 2) (i := 2) (v := l2) hc dX4_fewestBetween_30 rfl rfl ?_
    refine R_cVVi (As := [rf x.w t2, .int l2]) (rest := []) (r := t1) (ci := 3) hc ml_4_49 mf_X3_fill rfl (by decide) ⟨rfl, rfl⟩ ⟨le_b rfl, le_b rfl⟩ ⟨Nat.zero_le _, Nat.zero_le _⟩ (fun a h' e => mt_X3_fill e) rfl rfl (Nat.zero_le _) dX4_fewestBetween_31 hw (fun h4 hw => ?_)
    refine R_sipush (v := (1000 : Int32)) hc dX4_fewestBetween_34 kS_1000 ?_
    refine R_istore_n (i := 3) (v := (1000 : Int32)) hc [(3, .int (1000 : Int32)), (0, rf x.w (some l0)), (1, .int l1), (2, .int l2)] dX4_fewestBetween_37 rfl (hnl 3 (le_b rfl)) rfl ?_
    refine R_iconst (v := (0 : Int32)) hc dX4_fewestBetween_38 kI_0 ?_
    refine R_istore (i := 4) (v := (0 : Int32)) hc [(4, .int (0 : Int32)), (3, .int (1000 : Int32)), (0, rf x.w (some l0)), (1, .int l1), (2, .int l2)] dX4_fewestBetween_39 (hnl 4 (le_b rfl)) rfl ?_
    refine R_sub hc [2, 3, 1, 0] rfl ?_
    refine R_loop (P := fun (s : (Int32 × Int32)) => Rn x 0 0 41 [(0, rf x.w (some l0)), (1, .int l1), (3, .int s.1), (4, .int s.2)] [] h4) (fun l3_13 => Rn x 0 0 82 [(3, .int l3_13)] [] h4) hw (fun r hw => ?_) (fun X hX s hw => ?_)
    · revert r hw
      intro l3_13 hw
      show Rn x 0 0 82 [(3, .int l3_13)] [] h4
      refine R_iload_n (q := 0) (i := 3) (v := l3_13) hc dX4_fewestBetween_82 rfl rfl ?_
      exact R_ireturn hc hret rfl hQ hw dX4_fewestBetween_83
    · obtain ⟨l3_15, l4_16⟩ := s
      show Rn x 0 0 41 [(0, rf x.w (some l0)), (1, .int l1), (3, .int l3_15), (4, .int l4_16)] [] h4
      have hw : wpO (sX4_fewestBetween_L41 F l0 l1 l3_15 l4_16 h4) _ := hw
      unfold sX4_fewestBetween_L41 at hw
      refine R_iload (q := 3) (i := 4) (v := l4_16) hc dX4_fewestBetween_41 rfl ?_
      refine R_iconst (v := (4 : Int32)) hc dX4_fewestBetween_43 kI_4 ?_
      refine R_icmp_ge (tgt := 82) hc dX4_fewestBetween_44 (by decide) hw (fun hw => ?_) (fun hw => ?_)
      · refine R_sub hc [2] rfl ?_
        exact (wpO_some hw :)
      · refine R_iload_n (q := 2) (i := 3) (v := l3_15) hc dX4_fewestBetween_47 rfl rfl ?_
        refine R_aload_n (q := 0) (i := 0) (v := (some l0)) hc dX4_fewestBetween_48 rfl rfl ?_
        refine R_getR hc fl_4_33 dX4_fewestBetween_49 hw (fun t5 hw => ?_)
        refine R_aload_n (q := 0) (i := 0) (v := (some l0)) hc dX4_fewestBetween_52 rfl rfl ?_
        refine R_getR hc fl_4_12 dX4_fewestBetween_53 hw (fun t6 hw => ?_)
        refine R_aload_n (q := 0) (i := 0) (v := (some l0)) hc dX4_fewestBetween_56 rfl rfl ?_
        refine R_getR hc fl_4_12 dX4_fewestBetween_57 hw (fun t7 hw => ?_)
        refine R_cVI (As := []) (rest := [rf x.w t6, rf x.w t5, .int l3_15]) (r := t7) (ci := 1) hc ml_4_42 mf_X1_allFingers rfl (by decide) ⟨rfl, rfl⟩ ⟨le_b rfl, le_b rfl⟩ ⟨Nat.zero_le _, Nat.zero_le _⟩ (fun a v e => mt_X1_allFingers e) rfl rfl (by simp [rf_cat, cat_i, cat_l, cat_a]) dX4_fewestBetween_60 hw (fun t9 hw => ?_)
        refine R_iload_n (q := 1) (i := 1) (v := l1) hc dX4_fewestBetween_63 rfl rfl ?_
        refine R_iconst (v := (4 : Int32)) hc dX4_fewestBetween_64 kI_4 ?_
        refine R_imul hc dX4_fewestBetween_65 ?_
        refine R_iload (q := 3) (i := 4) (v := l4_16) hc dX4_fewestBetween_66 rfl ?_
        refine R_iadd hc dX4_fewestBetween_68 ?_
        refine R_cVI (As := [rf x.w t6, .int t9, .int ((l1 * (4 : Int32)) + l4_16)]) (rest := [.int l3_15]) (r := t5) (ci := 3) hc ml_4_122 mf_X3_gapsFrom rfl (by decide) ⟨rfl, rfl⟩ ⟨le_b rfl, le_b rfl⟩ ⟨Nat.zero_le _, Nat.zero_le _⟩ (fun a v e => mt_X3_gapsFrom e) rfl rfl (le_b rfl) dX4_fewestBetween_69 hw (fun t11 hw => ?_)
        refine R_jmn hc ml_4_76 (le_b rfl) (le_b rfl) ⟨Nat.zero_le _, Nat.zero_le _⟩ dX4_fewestBetween_72 ?_
        refine R_nmI hw (fun l3_12 hw => ?_)
        refine R_istore_n (i := 3) (v := l3_12) hc [(3, .int l3_12), (0, rf x.w (some l0)), (1, .int l1), (4, .int l4_16)] dX4_fewestBetween_75 rfl (hnl 3 (le_b rfl)) rfl ?_
        refine R_iinc (q := 3) (i := 4) (v := l4_16) hc [(4, .int (l4_16 + (1 : Int32))), (3, .int l3_12), (0, rf x.w (some l0)), (1, .int l1)] dX4_fewestBetween_76 rfl (kC_1 _) (hnl 4 (le_b rfl)) rfl ?_
        refine R_goto (tgt := 41) hc dX4_fewestBetween_79 (by decide) ?_
        refine R_sub hc [2, 3, 1, 0] rfl ?_
        exact hX (l3_12, l4_16 + (1 : Int32)) (wpO_some hw :)
  · refine R_aload_n (q := 0) (i := 0) (v := (some l0)) hc dX4_fewestBetween_5 rfl rfl ?_
    refine R_getR hc fl_4_12 dX4_fewestBetween_6 hw (fun t17 hw => ?_)
    refine R_getI hc fl_4_57 dX4_fewestBetween_9 hw (fun t18 hw => ?_)
    refine R_iconst (v := (1 : Int32)) hc dX4_fewestBetween_12 kI_1 ?_
    refine R_icmp_ne (tgt := 20) hc dX4_fewestBetween_13 (by decide) hw (fun hw => ?_) (fun hw => ?_)
    · refine R_iconst (v := (-1 : Int32)) hc dX4_fewestBetween_20 kI_m1 ?_
      exact R_ireturn hc hret rfl hQ hw dX4_fewestBetween_21
    · refine R_iconst (v := (0 : Int32)) hc dX4_fewestBetween_16 kI_0 ?_
      refine R_goto (tgt := 21) hc dX4_fewestBetween_17 (by decide) ?_
      exact R_ireturn hc hret rfl hQ hw dX4_fewestBetween_21
theorem dX1_tiedNets_0 : decode cX1_tiedNets 0 = .ok (.iconst 1, 1) := by decide +kernel
theorem dX1_tiedNets_1 : decode cX1_tiedNets 1 = .ok (.iload_n 2, 1) := by decide +kernel
theorem dX1_tiedNets_2 : decode cX1_tiedNets 2 = .ok (.ishl, 1) := by decide +kernel
theorem dX1_tiedNets_3 : decode cX1_tiedNets 3 = .ok (.istore_n 3, 1) := by decide +kernel
theorem dX1_tiedNets_4 : decode cX1_tiedNets 4 = .ok (.iconst 0, 1) := by decide +kernel
theorem dX1_tiedNets_5 : decode cX1_tiedNets 5 = .ok (.istore 4, 2) := by decide +kernel
theorem dX1_tiedNets_7 : decode cX1_tiedNets 7 = .ok (.iload 4, 2) := by decide +kernel
theorem dX1_tiedNets_9 : decode cX1_tiedNets 9 = .ok (.aload_n 0, 1) := by decide +kernel
theorem dX1_tiedNets_10 : decode cX1_tiedNets 10 = .ok (.getfield 43, 3) := by decide +kernel
theorem dX1_tiedNets_13 : decode cX1_tiedNets 13 = .ok (.if_icmp .ge 66, 3) := by decide +kernel
theorem dX1_tiedNets_16 : decode cX1_tiedNets 16 = .ok (.iconst 0, 1) := by decide +kernel
theorem dX1_tiedNets_17 : decode cX1_tiedNets 17 = .ok (.istore 5, 2) := by decide +kernel
theorem dX1_tiedNets_19 : decode cX1_tiedNets 19 = .ok (.iload 5, 2) := by decide +kernel
theorem dX1_tiedNets_21 : decode cX1_tiedNets 21 = .ok (.aload_n 0, 1) := by decide +kernel
theorem dX1_tiedNets_22 : decode cX1_tiedNets 22 = .ok (.getfield 43, 3) := by decide +kernel
theorem dX1_tiedNets_25 : decode cX1_tiedNets 25 = .ok (.if_icmp .ge 48, 3) := by decide +kernel
theorem dX1_tiedNets_28 : decode cX1_tiedNets 28 = .ok (.iconst 1, 1) := by decide +kernel
theorem dX1_tiedNets_29 : decode cX1_tiedNets 29 = .ok (.aload_n 0, 1) := by decide +kernel
theorem dX1_tiedNets_30 : decode cX1_tiedNets 30 = .ok (.iload 5, 2) := by decide +kernel
theorem dX1_tiedNets_32 : decode cX1_tiedNets 32 = .ok (.iconst 4, 1) := by decide +kernel
theorem dX1_tiedNets_33 : decode cX1_tiedNets 33 = .ok (.imul, 1) := by decide +kernel
theorem dX1_tiedNets_34 : decode cX1_tiedNets 34 = .ok (.iload_n 1, 1) := by decide +kernel
theorem dX1_tiedNets_35 : decode cX1_tiedNets 35 = .ok (.iconst 0, 1) := by decide +kernel
theorem dX1_tiedNets_36 : decode cX1_tiedNets 36 = .ok (.invokevirtual 53, 3) := by decide +kernel
theorem dX1_tiedNets_39 : decode cX1_tiedNets 39 = .ok (.ishl, 1) := by decide +kernel
theorem dX1_tiedNets_40 : decode cX1_tiedNets 40 = .ok (.iconst 1, 1) := by decide +kernel
theorem dX1_tiedNets_41 : decode cX1_tiedNets 41 = .ok (.aload_n 0, 1) := by decide +kernel
theorem dX1_tiedNets_42 : decode cX1_tiedNets 42 = .ok (.iload 5, 2) := by decide +kernel
theorem dX1_tiedNets_44 : decode cX1_tiedNets 44 = .ok (.iconst 4, 1) := by decide +kernel
theorem dX1_tiedNets_45 : decode cX1_tiedNets 45 = .ok (.imul, 1) := by decide +kernel
theorem dX1_tiedNets_46 : decode cX1_tiedNets 46 = .ok (.iload_n 1, 1) := by decide +kernel
theorem dX1_tiedNets_47 : decode cX1_tiedNets 47 = .ok (.iconst 1, 1) := by decide +kernel
theorem dX1_tiedNets_48 : decode cX1_tiedNets 48 = .ok (.invokevirtual 53, 3) := by decide +kernel
theorem dX1_tiedNets_51 : decode cX1_tiedNets 51 = .ok (.ishl, 1) := by decide +kernel
theorem dX1_tiedNets_52 : decode cX1_tiedNets 52 = .ok (.ior, 1) := by decide +kernel
theorem dX1_tiedNets_53 : decode cX1_tiedNets 53 = .ok (.istore 6, 2) := by decide +kernel
theorem dX1_tiedNets_55 : decode cX1_tiedNets 55 = .ok (.iload 6, 2) := by decide +kernel
theorem dX1_tiedNets_57 : decode cX1_tiedNets 57 = .ok (.iload_n 3, 1) := by decide +kernel
theorem dX1_tiedNets_58 : decode cX1_tiedNets 58 = .ok (.iand, 1) := by decide +kernel
theorem dX1_tiedNets_59 : decode cX1_tiedNets 59 = .ok (.ifCond .eq 8, 3) := by decide +kernel
theorem dX1_tiedNets_62 : decode cX1_tiedNets 62 = .ok (.iload_n 3, 1) := by decide +kernel
theorem dX1_tiedNets_63 : decode cX1_tiedNets 63 = .ok (.iload 6, 2) := by decide +kernel
theorem dX1_tiedNets_65 : decode cX1_tiedNets 65 = .ok (.ior, 1) := by decide +kernel
theorem dX1_tiedNets_66 : decode cX1_tiedNets 66 = .ok (.istore_n 3, 1) := by decide +kernel
theorem dX1_tiedNets_67 : decode cX1_tiedNets 67 = .ok (.iinc 5 1, 3) := by decide +kernel
theorem dX1_tiedNets_70 : decode cX1_tiedNets 70 = .ok (.goto (-51), 3) := by decide +kernel
theorem dX1_tiedNets_73 : decode cX1_tiedNets 73 = .ok (.iinc 4 1, 3) := by decide +kernel
theorem dX1_tiedNets_76 : decode cX1_tiedNets 76 = .ok (.goto (-69), 3) := by decide +kernel
theorem dX1_tiedNets_79 : decode cX1_tiedNets 79 = .ok (.iload_n 3, 1) := by decide +kernel
theorem dX1_tiedNets_80 : decode cX1_tiedNets 80 = .ok (.ireturn, 1) := by decide +kernel
def sX1_tiedNets_L19 (F : Nat) (l0 : Nat) (l1 : Int32) (l4 : Int32) (l3 : Int32) (l5 : Int32) (h : HP) : Option ((Int32 × Int32) ⊕ Int32) :=
  (gI h 1 (some l0) 5).bind fun t3 =>
  if t3 ≤ l5 then
    some (.inr l3)
  else
    (dO h 1 (some l0)).bind fun a4 =>
    (sX1_netOf F a4 (l5 * (4 : Int32)) l1 (0 : Int32) h).bind fun t5 =>
    (dO h 1 (some l0)).bind fun a6 =>
    (sX1_netOf F a6 (l5 * (4 : Int32)) l1 (1 : Int32) h).bind fun t7 =>
    nmI ((jshl (1 : Int32) t5) ||| (jshl (1 : Int32) t7)) fun l6_8 =>
    if (l6_8 &&& l3) = 0 then
      some (.inl (l3, l5 + (1 : Int32)))
    else
      nmI (l3 ||| l6_8) fun l3_9 =>
      some (.inl (l3_9, l5 + (1 : Int32)))
def sX1_tiedNets_L7 (F : Nat) (l0 : Nat) (l1 : Int32) (l3 : Int32) (l4 : Int32) (h : HP) : Option ((Int32 × Int32) ⊕ Int32) :=
  (gI h 1 (some l0) 5).bind fun t2 =>
  if t2 ≤ l4 then
    some (.inr l3)
  else
    (iter (fun s => sX1_tiedNets_L19 F l0 l1 l4 s.1 s.2 h) F (l3, (0 : Int32))).bind fun l3_10 =>
      some (.inl (l3_10, l4 + (1 : Int32)))
def sX1_tiedNets (F : Nat) (l0 : Nat) (l1 : Int32) (l2 : Int32) (h : HP) : Option Int32 :=
  nmI (jshl (1 : Int32) l2) fun l3_1 =>
  (iter (fun s => sX1_tiedNets_L7 F l0 l1 s.1 s.2 h) F (l3_1, (0 : Int32))).bind fun l3_14 =>
    some l3_14
abbrev rm_X1_tiedNets : Room := { frames := 2, cells := 0, slots := 0, locals := 47 }
set_option maxRecDepth 100000 in
set_option maxHeartbeats 4000000 in
theorem mt_X1_tiedNets {w : WD} {l : Launch} {F : Nat} {l0 : Nat} {l1 : Int32} {l2 : Int32} {h : HP} {v : Int32} (hs : sX1_tiedNets F l0 l1 l2 h = some v) : MI w l yX1_tiedNets cX1_tiedNets 7 .int rm_X1_tiedNets 0 0 [rf w (some l0), .int l1, .int l2] h v h := by
  refine of_body [(0, rf w (some l0)), (1, .int l1), (2, .int l2)] (by decide) (by simp [lg_sl, rf_cat, cat_i, cat_l, cat_a]) (by simp [lv_args, rf_cat, cat_i, cat_l, cat_a]) ?_
  intro x hw_ hnL_ hl_ hc hret hnm hQ
  subst hw_; subst hl_
  have hnl : ∀ i, i < 7 → i < x.nL := fun i h => by rw [hnL_]; exact h
  have hw : wpO (sX1_tiedNets F l0 l1 l2 h) (fun r => r = v) := ⟨_, hs, rfl⟩
  unfold sX1_tiedNets at hw
  refine R_iconst (v := (1 : Int32)) hc dX1_tiedNets_0 kI_1 ?_
  refine R_iload_n (q := 2) (i := 2) (v := l2) hc dX1_tiedNets_1 rfl rfl ?_
  refine R_ishl hc dX1_tiedNets_2 ?_
  refine R_nmI hw (fun l3_1 hw => ?_)
  refine R_istore_n (i := 3) (v := l3_1) hc [(3, .int l3_1), (0, rf x.w (some l0)), (1, .int l1), (2, .int l2)] dX1_tiedNets_3 rfl (hnl 3 (le_b rfl)) rfl ?_
  refine R_iconst (v := (0 : Int32)) hc dX1_tiedNets_4 kI_0 ?_
  refine R_istore (i := 4) (v := (0 : Int32)) hc [(4, .int (0 : Int32)), (3, .int l3_1), (0, rf x.w (some l0)), (1, .int l1), (2, .int l2)] dX1_tiedNets_5 (hnl 4 (le_b rfl)) rfl ?_
  refine R_sub hc [2, 3, 1, 0] rfl ?_
  refine R_loop (P := fun (s : (Int32 × Int32)) => Rn x 0 0 7 [(0, rf x.w (some l0)), (1, .int l1), (3, .int s.1), (4, .int s.2)] [] h) (fun l3_14 => Rn x 0 0 79 [(3, .int l3_14)] [] h) hw (fun r hw => ?_) (fun X hX s hw => ?_)
  · revert r hw
    intro l3_14 hw
    show Rn x 0 0 79 [(3, .int l3_14)] [] h
    refine R_iload_n (q := 0) (i := 3) (v := l3_14) hc dX1_tiedNets_79 rfl rfl ?_
    exact R_ireturnP hc hret rfl hQ hw dX1_tiedNets_80
  · obtain ⟨l3_16, l4_17⟩ := s
    show Rn x 0 0 7 [(0, rf x.w (some l0)), (1, .int l1), (3, .int l3_16), (4, .int l4_17)] [] h
    have hw : wpO (sX1_tiedNets_L7 F l0 l1 l3_16 l4_17 h) _ := hw
    unfold sX1_tiedNets_L7 at hw
    refine R_iload (q := 3) (i := 4) (v := l4_17) hc dX1_tiedNets_7 rfl ?_
    refine R_aload_n (q := 0) (i := 0) (v := (some l0)) hc dX1_tiedNets_9 rfl rfl ?_
    refine R_getI hc fl_1_43 dX1_tiedNets_10 hw (fun t2 hw => ?_)
    refine R_icmp_ge (tgt := 79) hc dX1_tiedNets_13 (by decide) hw (fun hw => ?_) (fun hw => ?_)
    · refine R_sub hc [2] rfl ?_
      exact (wpO_some hw :)
    · refine R_iconst (v := (0 : Int32)) hc dX1_tiedNets_16 kI_0 ?_
      refine R_istore (i := 5) (v := (0 : Int32)) hc [(5, .int (0 : Int32)), (0, rf x.w (some l0)), (1, .int l1), (3, .int l3_16), (4, .int l4_17)] dX1_tiedNets_17 (hnl 5 (le_b rfl)) rfl ?_
      refine R_sub hc [1, 2, 3, 4, 0] rfl ?_
      refine R_loop (P := fun (s : (Int32 × Int32)) => Rn x 0 0 19 [(0, rf x.w (some l0)), (1, .int l1), (3, .int s.1), (4, .int l4_17), (5, .int s.2)] [] h) (fun l3_10 => Rn x 0 0 73 [(0, rf x.w (some l0)), (1, .int l1), (3, .int l3_10), (4, .int l4_17)] [] h) hw (fun r hw => ?_) (fun X hX s hw => ?_)
      · revert r hw
        intro l3_10 hw
        show Rn x 0 0 73 [(0, rf x.w (some l0)), (1, .int l1), (3, .int l3_10), (4, .int l4_17)] [] h
        refine R_iinc (q := 3) (i := 4) (v := l4_17) hc [(4, .int (l4_17 + (1 : Int32))), (0, rf x.w (some l0)), (1, .int l1), (3, .int l3_10)] dX1_tiedNets_73 rfl (kC_1 _) (hnl 4 (le_b rfl)) rfl ?_
        refine R_goto (tgt := 7) hc dX1_tiedNets_76 (by decide) ?_
        refine R_sub hc [1, 2, 3, 0] rfl ?_
        exact hX (l3_10, l4_17 + (1 : Int32)) (wpO_some hw :)
      · obtain ⟨l3_12, l5_13⟩ := s
        show Rn x 0 0 19 [(0, rf x.w (some l0)), (1, .int l1), (3, .int l3_12), (4, .int l4_17), (5, .int l5_13)] [] h
        have hw : wpO (sX1_tiedNets_L19 F l0 l1 l4_17 l3_12 l5_13 h) _ := hw
        unfold sX1_tiedNets_L19 at hw
        refine R_iload (q := 4) (i := 5) (v := l5_13) hc dX1_tiedNets_19 rfl ?_
        refine R_aload_n (q := 0) (i := 0) (v := (some l0)) hc dX1_tiedNets_21 rfl rfl ?_
        refine R_getI hc fl_1_43 dX1_tiedNets_22 hw (fun t3 hw => ?_)
        refine R_icmp_ge (tgt := 73) hc dX1_tiedNets_25 (by decide) hw (fun hw => ?_) (fun hw => ?_)
        · refine R_sub hc [0, 1, 2, 3] rfl ?_
          exact (wpO_some hw :)
        · refine R_iconst (v := (1 : Int32)) hc dX1_tiedNets_28 kI_1 ?_
          refine R_aload_n (q := 0) (i := 0) (v := (some l0)) hc dX1_tiedNets_29 rfl rfl ?_
          refine R_iload (q := 4) (i := 5) (v := l5_13) hc dX1_tiedNets_30 rfl ?_
          refine R_iconst (v := (4 : Int32)) hc dX1_tiedNets_32 kI_4 ?_
          refine R_imul hc dX1_tiedNets_33 ?_
          refine R_iload_n (q := 1) (i := 1) (v := l1) hc dX1_tiedNets_34 rfl rfl ?_
          refine R_iconst (v := (0 : Int32)) hc dX1_tiedNets_35 kI_0 ?_
          refine R_cVI (As := [.int (l5_13 * (4 : Int32)), .int l1, .int (0 : Int32)]) (rest := [.int (1 : Int32)]) (r := (some l0)) (ci := 1) hc ml_1_53 mf_X1_netOf rfl (by decide) ⟨rfl, rfl⟩ ⟨le_b rfl, le_b rfl⟩ ⟨Nat.zero_le _, Nat.zero_le _⟩ (fun a v e => mt_X1_netOf e) rfl rfl (le_b rfl) dX1_tiedNets_36 hw (fun t5 hw => ?_)
          refine R_ishl hc dX1_tiedNets_39 ?_
          refine R_iconst (v := (1 : Int32)) hc dX1_tiedNets_40 kI_1 ?_
          refine R_aload_n (q := 0) (i := 0) (v := (some l0)) hc dX1_tiedNets_41 rfl rfl ?_
          refine R_iload (q := 4) (i := 5) (v := l5_13) hc dX1_tiedNets_42 rfl ?_
          refine R_iconst (v := (4 : Int32)) hc dX1_tiedNets_44 kI_4 ?_
          refine R_imul hc dX1_tiedNets_45 ?_
          refine R_iload_n (q := 1) (i := 1) (v := l1) hc dX1_tiedNets_46 rfl rfl ?_
          refine R_iconst (v := (1 : Int32)) hc dX1_tiedNets_47 kI_1 ?_
          refine R_cVI (As := [.int (l5_13 * (4 : Int32)), .int l1, .int (1 : Int32)]) (rest := [.int (1 : Int32), .int (jshl (1 : Int32) t5)]) (r := (some l0)) (ci := 1) hc ml_1_53 mf_X1_netOf rfl (by decide) ⟨rfl, rfl⟩ ⟨le_b rfl, le_b rfl⟩ ⟨Nat.zero_le _, Nat.zero_le _⟩ (fun a v e => mt_X1_netOf e) rfl rfl (le_b rfl) dX1_tiedNets_48 hw (fun t7 hw => ?_)
          refine R_ishl hc dX1_tiedNets_51 ?_
          refine R_ior hc dX1_tiedNets_52 ?_
          refine R_nmI hw (fun l6_8 hw => ?_)
          refine R_istore (i := 6) (v := l6_8) hc [(6, .int l6_8), (0, rf x.w (some l0)), (1, .int l1), (3, .int l3_12), (4, .int l4_17), (5, .int l5_13)] dX1_tiedNets_53 (hnl 6 (le_b rfl)) rfl ?_
          refine R_iload (q := 0) (i := 6) (v := l6_8) hc dX1_tiedNets_55 rfl ?_
          refine R_iload_n (q := 3) (i := 3) (v := l3_12) hc dX1_tiedNets_57 rfl rfl ?_
          refine R_iand hc dX1_tiedNets_58 ?_
          refine R_if_eq (tgt := 67) hc dX1_tiedNets_59 (by decide) hw (fun hw => ?_) (fun hw => ?_)
          · refine R_iinc (q := 5) (i := 5) (v := l5_13) hc [(5, .int (l5_13 + (1 : Int32))), (6, .int l6_8), (0, rf x.w (some l0)), (1, .int l1), (3, .int l3_12), (4, .int l4_17)] dX1_tiedNets_67 rfl (kC_1 _) (hnl 5 (le_b rfl)) rfl ?_
            refine R_goto (tgt := 19) hc dX1_tiedNets_70 (by decide) ?_
            refine R_sub hc [2, 3, 4, 5, 0] rfl ?_
            exact hX (l3_12, l5_13 + (1 : Int32)) (wpO_some hw :)
          · refine R_iload_n (q := 3) (i := 3) (v := l3_12) hc dX1_tiedNets_62 rfl rfl ?_
            refine R_iload (q := 0) (i := 6) (v := l6_8) hc dX1_tiedNets_63 rfl ?_
            refine R_ior hc dX1_tiedNets_65 ?_
            refine R_nmI hw (fun l3_9 hw => ?_)
            refine R_istore_n (i := 3) (v := l3_9) hc [(3, .int l3_9), (6, .int l6_8), (0, rf x.w (some l0)), (1, .int l1), (4, .int l4_17), (5, .int l5_13)] dX1_tiedNets_66 rfl (hnl 3 (le_b rfl)) rfl ?_
            refine R_iinc (q := 5) (i := 5) (v := l5_13) hc [(5, .int (l5_13 + (1 : Int32))), (3, .int l3_9), (6, .int l6_8), (0, rf x.w (some l0)), (1, .int l1), (4, .int l4_17)] dX1_tiedNets_67 rfl (kC_1 _) (hnl 5 (le_b rfl)) rfl ?_
            refine R_goto (tgt := 19) hc dX1_tiedNets_70 (by decide) ?_
            refine R_sub hc [3, 4, 1, 5, 0] rfl ?_
            exact hX (l3_9, l5_13 + (1 : Int32)) (wpO_some hw :)
theorem dX1_oddBound_0 : decode cX1_oddBound 0 = .ok (.aload_n 0, 1) := by decide +kernel
theorem dX1_oddBound_1 : decode cX1_oddBound 1 = .ok (.getfield 43, 3) := by decide +kernel
theorem dX1_oddBound_4 : decode cX1_oddBound 4 = .ok (.ifCond .ne 5, 3) := by decide +kernel
theorem dX1_oddBound_7 : decode cX1_oddBound 7 = .ok (.iconst 0, 1) := by decide +kernel
theorem dX1_oddBound_8 : decode cX1_oddBound 8 = .ok (.ireturn, 1) := by decide +kernel
theorem dX1_oddBound_9 : decode cX1_oddBound 9 = .ok (.iconst 0, 1) := by decide +kernel
theorem dX1_oddBound_10 : decode cX1_oddBound 10 = .ok (.istore_n 2, 1) := by decide +kernel
theorem dX1_oddBound_11 : decode cX1_oddBound 11 = .ok (.iconst 0, 1) := by decide +kernel
theorem dX1_oddBound_12 : decode cX1_oddBound 12 = .ok (.istore_n 3, 1) := by decide +kernel
theorem dX1_oddBound_13 : decode cX1_oddBound 13 = .ok (.iload_n 3, 1) := by decide +kernel
theorem dX1_oddBound_14 : decode cX1_oddBound 14 = .ok (.aload_n 0, 1) := by decide +kernel
theorem dX1_oddBound_15 : decode cX1_oddBound 15 = .ok (.getfield 43, 3) := by decide +kernel
theorem dX1_oddBound_18 : decode cX1_oddBound 18 = .ok (.if_icmp .ge 37, 3) := by decide +kernel
theorem dX1_oddBound_21 : decode cX1_oddBound 21 = .ok (.iload_n 2, 1) := by decide +kernel
theorem dX1_oddBound_22 : decode cX1_oddBound 22 = .ok (.iconst 1, 1) := by decide +kernel
theorem dX1_oddBound_23 : decode cX1_oddBound 23 = .ok (.aload_n 0, 1) := by decide +kernel
theorem dX1_oddBound_24 : decode cX1_oddBound 24 = .ok (.iload_n 3, 1) := by decide +kernel
theorem dX1_oddBound_25 : decode cX1_oddBound 25 = .ok (.iconst 4, 1) := by decide +kernel
theorem dX1_oddBound_26 : decode cX1_oddBound 26 = .ok (.imul, 1) := by decide +kernel
theorem dX1_oddBound_27 : decode cX1_oddBound 27 = .ok (.iload_n 1, 1) := by decide +kernel
theorem dX1_oddBound_28 : decode cX1_oddBound 28 = .ok (.iconst 0, 1) := by decide +kernel
theorem dX1_oddBound_29 : decode cX1_oddBound 29 = .ok (.invokevirtual 53, 3) := by decide +kernel
theorem dX1_oddBound_32 : decode cX1_oddBound 32 = .ok (.ishl, 1) := by decide +kernel
theorem dX1_oddBound_33 : decode cX1_oddBound 33 = .ok (.ixor, 1) := by decide +kernel
theorem dX1_oddBound_34 : decode cX1_oddBound 34 = .ok (.istore_n 2, 1) := by decide +kernel
theorem dX1_oddBound_35 : decode cX1_oddBound 35 = .ok (.iload_n 2, 1) := by decide +kernel
theorem dX1_oddBound_36 : decode cX1_oddBound 36 = .ok (.iconst 1, 1) := by decide +kernel
theorem dX1_oddBound_37 : decode cX1_oddBound 37 = .ok (.aload_n 0, 1) := by decide +kernel
theorem dX1_oddBound_38 : decode cX1_oddBound 38 = .ok (.iload_n 3, 1) := by decide +kernel
theorem dX1_oddBound_39 : decode cX1_oddBound 39 = .ok (.iconst 4, 1) := by decide +kernel
theorem dX1_oddBound_40 : decode cX1_oddBound 40 = .ok (.imul, 1) := by decide +kernel
theorem dX1_oddBound_41 : decode cX1_oddBound 41 = .ok (.iload_n 1, 1) := by decide +kernel
theorem dX1_oddBound_42 : decode cX1_oddBound 42 = .ok (.iconst 1, 1) := by decide +kernel
theorem dX1_oddBound_43 : decode cX1_oddBound 43 = .ok (.invokevirtual 53, 3) := by decide +kernel
theorem dX1_oddBound_46 : decode cX1_oddBound 46 = .ok (.ishl, 1) := by decide +kernel
theorem dX1_oddBound_47 : decode cX1_oddBound 47 = .ok (.ixor, 1) := by decide +kernel
theorem dX1_oddBound_48 : decode cX1_oddBound 48 = .ok (.istore_n 2, 1) := by decide +kernel
theorem dX1_oddBound_49 : decode cX1_oddBound 49 = .ok (.iinc 3 1, 3) := by decide +kernel
theorem dX1_oddBound_52 : decode cX1_oddBound 52 = .ok (.goto (-39), 3) := by decide +kernel
theorem dX1_oddBound_55 : decode cX1_oddBound 55 = .ok (.iconst 0, 1) := by decide +kernel
theorem dX1_oddBound_56 : decode cX1_oddBound 56 = .ok (.istore_n 3, 1) := by decide +kernel
theorem dX1_oddBound_57 : decode cX1_oddBound 57 = .ok (.iconst 0, 1) := by decide +kernel
theorem dX1_oddBound_58 : decode cX1_oddBound 58 = .ok (.istore 4, 2) := by decide +kernel
theorem dX1_oddBound_60 : decode cX1_oddBound 60 = .ok (.iconst 0, 1) := by decide +kernel
theorem dX1_oddBound_61 : decode cX1_oddBound 61 = .ok (.istore 5, 2) := by decide +kernel
theorem dX1_oddBound_63 : decode cX1_oddBound 63 = .ok (.iload 5, 2) := by decide +kernel
theorem dX1_oddBound_65 : decode cX1_oddBound 65 = .ok (.aload_n 0, 1) := by decide +kernel
theorem dX1_oddBound_66 : decode cX1_oddBound 66 = .ok (.getfield 43, 3) := by decide +kernel
theorem dX1_oddBound_69 : decode cX1_oddBound 69 = .ok (.if_icmp .ge 62, 3) := by decide +kernel
theorem dX1_oddBound_72 : decode cX1_oddBound 72 = .ok (.aload_n 0, 1) := by decide +kernel
theorem dX1_oddBound_73 : decode cX1_oddBound 73 = .ok (.iload 5, 2) := by decide +kernel
theorem dX1_oddBound_75 : decode cX1_oddBound 75 = .ok (.iconst 4, 1) := by decide +kernel
theorem dX1_oddBound_76 : decode cX1_oddBound 76 = .ok (.imul, 1) := by decide +kernel
theorem dX1_oddBound_77 : decode cX1_oddBound 77 = .ok (.iload_n 1, 1) := by decide +kernel
theorem dX1_oddBound_78 : decode cX1_oddBound 78 = .ok (.iconst 0, 1) := by decide +kernel
theorem dX1_oddBound_79 : decode cX1_oddBound 79 = .ok (.invokevirtual 53, 3) := by decide +kernel
theorem dX1_oddBound_82 : decode cX1_oddBound 82 = .ok (.istore 6, 2) := by decide +kernel
theorem dX1_oddBound_84 : decode cX1_oddBound 84 = .ok (.iload_n 3, 1) := by decide +kernel
theorem dX1_oddBound_85 : decode cX1_oddBound 85 = .ok (.iload 6, 2) := by decide +kernel
theorem dX1_oddBound_87 : decode cX1_oddBound 87 = .ok (.invokestatic 72, 3) := by decide +kernel
theorem dX1_oddBound_90 : decode cX1_oddBound 90 = .ok (.ifCond .ne 35, 3) := by decide +kernel
theorem dX1_oddBound_93 : decode cX1_oddBound 93 = .ok (.aload_n 0, 1) := by decide +kernel
theorem dX1_oddBound_94 : decode cX1_oddBound 94 = .ok (.iload_n 1, 1) := by decide +kernel
theorem dX1_oddBound_95 : decode cX1_oddBound 95 = .ok (.iload 6, 2) := by decide +kernel
theorem dX1_oddBound_97 : decode cX1_oddBound 97 = .ok (.invokevirtual 75, 3) := by decide +kernel
theorem dX1_oddBound_100 : decode cX1_oddBound 100 = .ok (.istore 7, 2) := by decide +kernel
theorem dX1_oddBound_102 : decode cX1_oddBound 102 = .ok (.iload_n 3, 1) := by decide +kernel
theorem dX1_oddBound_103 : decode cX1_oddBound 103 = .ok (.iload 7, 2) := by decide +kernel
theorem dX1_oddBound_105 : decode cX1_oddBound 105 = .ok (.ior, 1) := by decide +kernel
theorem dX1_oddBound_106 : decode cX1_oddBound 106 = .ok (.istore_n 3, 1) := by decide +kernel
theorem dX1_oddBound_107 : decode cX1_oddBound 107 = .ok (.iload 4, 2) := by decide +kernel
theorem dX1_oddBound_109 : decode cX1_oddBound 109 = .ok (.iconst 1, 1) := by decide +kernel
theorem dX1_oddBound_110 : decode cX1_oddBound 110 = .ok (.iload_n 2, 1) := by decide +kernel
theorem dX1_oddBound_111 : decode cX1_oddBound 111 = .ok (.iload 7, 2) := by decide +kernel
theorem dX1_oddBound_113 : decode cX1_oddBound 113 = .ok (.iand, 1) := by decide +kernel
theorem dX1_oddBound_114 : decode cX1_oddBound 114 = .ok (.invokestatic 78, 3) := by decide +kernel
theorem dX1_oddBound_117 : decode cX1_oddBound 117 = .ok (.iconst 2, 1) := by decide +kernel
theorem dX1_oddBound_118 : decode cX1_oddBound 118 = .ok (.idiv, 1) := by decide +kernel
theorem dX1_oddBound_119 : decode cX1_oddBound 119 = .ok (.invokestatic 83, 3) := by decide +kernel
theorem dX1_oddBound_122 : decode cX1_oddBound 122 = .ok (.iadd, 1) := by decide +kernel
theorem dX1_oddBound_123 : decode cX1_oddBound 123 = .ok (.istore 4, 2) := by decide +kernel
theorem dX1_oddBound_125 : decode cX1_oddBound 125 = .ok (.iinc 5 1, 3) := by decide +kernel
theorem dX1_oddBound_128 : decode cX1_oddBound 128 = .ok (.goto (-65), 3) := by decide +kernel
theorem dX1_oddBound_131 : decode cX1_oddBound 131 = .ok (.iload 4, 2) := by decide +kernel
theorem dX1_oddBound_133 : decode cX1_oddBound 133 = .ok (.iconst 1, 1) := by decide +kernel
theorem dX1_oddBound_134 : decode cX1_oddBound 134 = .ok (.isub, 1) := by decide +kernel
theorem dX1_oddBound_135 : decode cX1_oddBound 135 = .ok (.ireturn, 1) := by decide +kernel
def sX1_oddBound_L13 (F : Nat) (l0 : Nat) (l1 : Int32) (l2 : Int32) (l3 : Int32) (h : HP) : Option ((Int32 × Int32) ⊕ Int32) :=
  (gI h 1 (some l0) 5).bind fun t2 =>
  if t2 ≤ l3 then
    some (.inr l2)
  else
    (dO h 1 (some l0)).bind fun a3 =>
    (sX1_netOf F a3 (l3 * (4 : Int32)) l1 (0 : Int32) h).bind fun t4 =>
    nmI (l2 ^^^ (jshl (1 : Int32) t4)) fun l2_5 =>
    (dO h 1 (some l0)).bind fun a6 =>
    (sX1_netOf F a6 (l3 * (4 : Int32)) l1 (1 : Int32) h).bind fun t7 =>
    nmI (l2_5 ^^^ (jshl (1 : Int32) t7)) fun l2_8 =>
    some (.inl (l2_8, l3 + (1 : Int32)))
def sX1_oddBound_L63 (F : Nat) (l0 : Nat) (l1 : Int32) (l2 : Int32) (l3 : Int32) (l4 : Int32) (l5 : Int32) (h : HP) : Option ((Int32 × Int32 × Int32) ⊕ Int32) :=
  (gI h 1 (some l0) 5).bind fun t10 =>
  if t10 ≤ l5 then
    some (.inr l4)
  else
    (dO h 1 (some l0)).bind fun a11 =>
    (sX1_netOf F a11 (l5 * (4 : Int32)) l1 (0 : Int32) h).bind fun t12 =>
    (sX10_has F l3 t12 h).bind fun t13 =>
    if ¬ t13 = 0 then
      some (.inl (l3, l4, l5 + (1 : Int32)))
    else
      (dO h 1 (some l0)).bind fun a14 =>
      (sX1_tiedNets F a14 l1 t12 h).bind fun t15 =>
      nmI (l3 ||| t15) fun l3_16 =>
      (sJ6_bitCount_0f7a4 F (l2 &&& t15) h).bind fun t17 =>
      nmI (l4 + (jmx (1 : Int32) (t17 / (2 : Int32)))) fun l4_18 =>
      some (.inl (l3_16, l4_18, l5 + (1 : Int32)))
def sX1_oddBound (F : Nat) (l0 : Nat) (l1 : Int32) (h : HP) : Option Int32 :=
  (gI h 1 (some l0) 5).bind fun t1 =>
  if ¬ t1 = 0 then
    (iter (fun s => sX1_oddBound_L13 F l0 l1 s.1 s.2 h) F ((0 : Int32), (0 : Int32))).bind fun l2_9 =>
      (iter (fun s => sX1_oddBound_L63 F l0 l1 l2_9 s.1 s.2.1 s.2.2 h) F ((0 : Int32), (0 : Int32), (0 : Int32))).bind fun l4_19 =>
        some (l4_19 - (1 : Int32))
  else
    some (0 : Int32)
abbrev rm_X1_oddBound : Room := { frames := 3, cells := 0, slots := 0, locals := 73 }
set_option maxRecDepth 100000 in
set_option maxHeartbeats 4000000 in
theorem mt_X1_oddBound {w : WD} {l : Launch} {F : Nat} {l0 : Nat} {l1 : Int32} {h : HP} {v : Int32} (hs : sX1_oddBound F l0 l1 h = some v) : MI w l yX1_oddBound cX1_oddBound 8 .int rm_X1_oddBound 0 0 [rf w (some l0), .int l1] h v h := by
  refine of_body [(0, rf w (some l0)), (1, .int l1)] (by decide) (by simp [lg_sl, rf_cat, cat_i, cat_l, cat_a]) (by simp [lv_args, rf_cat, cat_i, cat_l, cat_a]) ?_
  intro x hw_ hnL_ hl_ hc hret hnm hQ
  subst hw_; subst hl_
  have hnl : ∀ i, i < 8 → i < x.nL := fun i h => by rw [hnL_]; exact h
  have hw : wpO (sX1_oddBound F l0 l1 h) (fun r => r = v) := ⟨_, hs, rfl⟩
  unfold sX1_oddBound at hw
  refine R_aload_n (q := 0) (i := 0) (v := (some l0)) hc dX1_oddBound_0 rfl rfl ?_
  refine R_getI hc fl_1_43 dX1_oddBound_1 hw (fun t1 hw => ?_)
  refine R_if_ne (tgt := 9) hc dX1_oddBound_4 (by decide) hw (fun hw => ?_) (fun hw => ?_)
  · refine R_iconst (v := (0 : Int32)) hc dX1_oddBound_9 kI_0 ?_
    refine R_istore_n (i := 2) (v := (0 : Int32)) hc [(2, .int (0 : Int32)), (0, rf x.w (some l0)), (1, .int l1)] dX1_oddBound_10 rfl (hnl 2 (le_b rfl)) rfl ?_
    refine R_iconst (v := (0 : Int32)) hc dX1_oddBound_11 kI_0 ?_
    refine R_istore_n (i := 3) (v := (0 : Int32)) hc [(3, .int (0 : Int32)), (2, .int (0 : Int32)), (0, rf x.w (some l0)), (1, .int l1)] dX1_oddBound_12 rfl (hnl 3 (le_b rfl)) rfl ?_
    refine R_sub hc [2, 3, 1, 0] rfl ?_
    refine R_loop (P := fun (s : (Int32 × Int32)) => Rn x 0 0 13 [(0, rf x.w (some l0)), (1, .int l1), (2, .int s.1), (3, .int s.2)] [] h) (fun l2_9 => Rn x 0 0 55 [(0, rf x.w (some l0)), (1, .int l1), (2, .int l2_9)] [] h) hw (fun r hw => ?_) (fun X hX s hw => ?_)
    · revert r hw
      intro l2_9 hw
      show Rn x 0 0 55 [(0, rf x.w (some l0)), (1, .int l1), (2, .int l2_9)] [] h
      refine R_iconst (v := (0 : Int32)) hc dX1_oddBound_55 kI_0 ?_
      refine R_istore_n (i := 3) (v := (0 : Int32)) hc [(3, .int (0 : Int32)), (0, rf x.w (some l0)), (1, .int l1), (2, .int l2_9)] dX1_oddBound_56 rfl (hnl 3 (le_b rfl)) rfl ?_
      refine R_iconst (v := (0 : Int32)) hc dX1_oddBound_57 kI_0 ?_
      refine R_istore (i := 4) (v := (0 : Int32)) hc [(4, .int (0 : Int32)), (3, .int (0 : Int32)), (0, rf x.w (some l0)), (1, .int l1), (2, .int l2_9)] dX1_oddBound_58 (hnl 4 (le_b rfl)) rfl ?_
      refine R_iconst (v := (0 : Int32)) hc dX1_oddBound_60 kI_0 ?_
      refine R_istore (i := 5) (v := (0 : Int32)) hc [(5, .int (0 : Int32)), (4, .int (0 : Int32)), (3, .int (0 : Int32)), (0, rf x.w (some l0)), (1, .int l1), (2, .int l2_9)] dX1_oddBound_61 (hnl 5 (le_b rfl)) rfl ?_
      refine R_sub hc [3, 4, 5, 2, 1, 0] rfl ?_
      refine R_loop (P := fun (s : (Int32 × Int32 × Int32)) => Rn x 0 0 63 [(0, rf x.w (some l0)), (1, .int l1), (2, .int l2_9), (3, .int s.1), (4, .int s.2.1), (5, .int s.2.2)] [] h) (fun l4_19 => Rn x 0 0 131 [(4, .int l4_19)] [] h) hw (fun r hw => ?_) (fun X hX s hw => ?_)
      · revert r hw
        intro l4_19 hw
        show Rn x 0 0 131 [(4, .int l4_19)] [] h
        refine R_iload (q := 0) (i := 4) (v := l4_19) hc dX1_oddBound_131 rfl ?_
        refine R_iconst (v := (1 : Int32)) hc dX1_oddBound_133 kI_1 ?_
        refine R_isub hc dX1_oddBound_134 ?_
        exact R_ireturnP hc hret rfl hQ hw dX1_oddBound_135
      · obtain ⟨l3_21, l4_22, l5_23⟩ := s
        show Rn x 0 0 63 [(0, rf x.w (some l0)), (1, .int l1), (2, .int l2_9), (3, .int l3_21), (4, .int l4_22), (5, .int l5_23)] [] h
        have hw : wpO (sX1_oddBound_L63 F l0 l1 l2_9 l3_21 l4_22 l5_23 h) _ := hw
        unfold sX1_oddBound_L63 at hw
        refine R_iload (q := 5) (i := 5) (v := l5_23) hc dX1_oddBound_63 rfl ?_
        refine R_aload_n (q := 0) (i := 0) (v := (some l0)) hc dX1_oddBound_65 rfl rfl ?_
        refine R_getI hc fl_1_43 dX1_oddBound_66 hw (fun t10 hw => ?_)
        refine R_icmp_ge (tgt := 131) hc dX1_oddBound_69 (by decide) hw (fun hw => ?_) (fun hw => ?_)
        · refine R_sub hc [4] rfl ?_
          exact (wpO_some hw :)
        · refine R_aload_n (q := 0) (i := 0) (v := (some l0)) hc dX1_oddBound_72 rfl rfl ?_
          refine R_iload (q := 5) (i := 5) (v := l5_23) hc dX1_oddBound_73 rfl ?_
          refine R_iconst (v := (4 : Int32)) hc dX1_oddBound_75 kI_4 ?_
          refine R_imul hc dX1_oddBound_76 ?_
          refine R_iload_n (q := 1) (i := 1) (v := l1) hc dX1_oddBound_77 rfl rfl ?_
          refine R_iconst (v := (0 : Int32)) hc dX1_oddBound_78 kI_0 ?_
          refine R_cVI (As := [.int (l5_23 * (4 : Int32)), .int l1, .int (0 : Int32)]) (rest := []) (r := (some l0)) (ci := 1) hc ml_1_53 mf_X1_netOf rfl (by decide) ⟨rfl, rfl⟩ ⟨le_b rfl, le_b rfl⟩ ⟨Nat.zero_le _, Nat.zero_le _⟩ (fun a v e => mt_X1_netOf e) rfl rfl (Nat.zero_le _) dX1_oddBound_79 hw (fun t12 hw => ?_)
          refine R_istore (i := 6) (v := t12) hc [(6, .int t12), (0, rf x.w (some l0)), (1, .int l1), (2, .int l2_9), (3, .int l3_21), (4, .int l4_22), (5, .int l5_23)] dX1_oddBound_82 (hnl 6 (le_b rfl)) rfl ?_
          refine R_iload_n (q := 4) (i := 3) (v := l3_21) hc dX1_oddBound_84 rfl rfl ?_
          refine R_iload (q := 0) (i := 6) (v := t12) hc dX1_oddBound_85 rfl ?_
          refine R_cNI (As := [.int l3_21, .int t12]) (rest := []) hc mn_1_72 mf_X10_has ⟨rfl, rfl⟩ ⟨le_b rfl, le_b rfl⟩ ⟨Nat.zero_le _, Nat.zero_le _⟩ (fun v e => mt_X10_has e) rfl rfl (Nat.zero_le _) dX1_oddBound_87 hw (fun t13 hw => ?_)
          refine R_if_ne (tgt := 125) hc dX1_oddBound_90 (by decide) hw (fun hw => ?_) (fun hw => ?_)
          · refine R_iinc (q := 6) (i := 5) (v := l5_23) hc [(5, .int (l5_23 + (1 : Int32))), (6, .int t12), (0, rf x.w (some l0)), (1, .int l1), (2, .int l2_9), (3, .int l3_21), (4, .int l4_22)] dX1_oddBound_125 rfl (kC_1 _) (hnl 5 (le_b rfl)) rfl ?_
            refine R_goto (tgt := 63) hc dX1_oddBound_128 (by decide) ?_
            refine R_sub hc [2, 3, 4, 5, 6, 0] rfl ?_
            exact hX (l3_21, l4_22, l5_23 + (1 : Int32)) (wpO_some hw :)
          · refine R_aload_n (q := 1) (i := 0) (v := (some l0)) hc dX1_oddBound_93 rfl rfl ?_
            refine R_iload_n (q := 2) (i := 1) (v := l1) hc dX1_oddBound_94 rfl rfl ?_
            refine R_iload (q := 0) (i := 6) (v := t12) hc dX1_oddBound_95 rfl ?_
            refine R_cVI (As := [.int l1, .int t12]) (rest := []) (r := (some l0)) (ci := 1) hc ml_1_75 mf_X1_tiedNets rfl (by decide) ⟨rfl, rfl⟩ ⟨le_b rfl, le_b rfl⟩ ⟨Nat.zero_le _, Nat.zero_le _⟩ (fun a v e => mt_X1_tiedNets e) rfl rfl (Nat.zero_le _) dX1_oddBound_97 hw (fun t15 hw => ?_)
            refine R_istore (i := 7) (v := t15) hc [(7, .int t15), (6, .int t12), (0, rf x.w (some l0)), (1, .int l1), (2, .int l2_9), (3, .int l3_21), (4, .int l4_22), (5, .int l5_23)] dX1_oddBound_100 (hnl 7 (le_b rfl)) rfl ?_
            refine R_iload_n (q := 5) (i := 3) (v := l3_21) hc dX1_oddBound_102 rfl rfl ?_
            refine R_iload (q := 0) (i := 7) (v := t15) hc dX1_oddBound_103 rfl ?_
            refine R_ior hc dX1_oddBound_105 ?_
            refine R_nmI hw (fun l3_16 hw => ?_)
            refine R_istore_n (i := 3) (v := l3_16) hc [(3, .int l3_16), (7, .int t15), (6, .int t12), (0, rf x.w (some l0)), (1, .int l1), (2, .int l2_9), (4, .int l4_22), (5, .int l5_23)] dX1_oddBound_106 rfl (hnl 3 (le_b rfl)) rfl ?_
            refine R_iload (q := 6) (i := 4) (v := l4_22) hc dX1_oddBound_107 rfl ?_
            refine R_iconst (v := (1 : Int32)) hc dX1_oddBound_109 kI_1 ?_
            refine R_iload_n (q := 5) (i := 2) (v := l2_9) hc dX1_oddBound_110 rfl rfl ?_
            refine R_iload (q := 1) (i := 7) (v := t15) hc dX1_oddBound_111 rfl ?_
            refine R_iand hc dX1_oddBound_113 ?_
            refine R_cSI (As := [.int (l2_9 &&& t15)]) (rest := [.int (1 : Int32), .int l4_22]) hc ml_1_78 mf_J6_bitCount_0f7a4 ⟨rfl, rfl⟩ ⟨le_b rfl, le_b rfl⟩ ⟨Nat.zero_le _, Nat.zero_le _⟩ (fun v e => mt_J6_bitCount_0f7a4 e) rfl rfl (le_b rfl) dX1_oddBound_114 hw (fun t17 hw => ?_)
            refine R_iconst (v := (2 : Int32)) hc dX1_oddBound_117 kI_2 ?_
            refine R_idivL hc dX1_oddBound_118 (by decide) ?_
            refine R_jmx hc ml_1_83 (le_b rfl) (le_b rfl) ⟨Nat.zero_le _, Nat.zero_le _⟩ dX1_oddBound_119 ?_
            refine R_iadd hc dX1_oddBound_122 ?_
            refine R_nmI hw (fun l4_18 hw => ?_)
            refine R_istore (i := 4) (v := l4_18) hc [(4, .int l4_18), (3, .int l3_16), (7, .int t15), (6, .int t12), (0, rf x.w (some l0)), (1, .int l1), (2, .int l2_9), (5, .int l5_23)] dX1_oddBound_123 (hnl 4 (le_b rfl)) rfl ?_
            refine R_iinc (q := 7) (i := 5) (v := l5_23) hc [(5, .int (l5_23 + (1 : Int32))), (4, .int l4_18), (3, .int l3_16), (7, .int t15), (6, .int t12), (0, rf x.w (some l0)), (1, .int l1), (2, .int l2_9)] dX1_oddBound_125 rfl (kC_1 _) (hnl 5 (le_b rfl)) rfl ?_
            refine R_goto (tgt := 63) hc dX1_oddBound_128 (by decide) ?_
            refine R_sub hc [5, 6, 7, 2, 1, 0] rfl ?_
            exact hX (l3_16, l4_18, l5_23 + (1 : Int32)) (wpO_some hw :)
    · obtain ⟨l2_25, l3_26⟩ := s
      show Rn x 0 0 13 [(0, rf x.w (some l0)), (1, .int l1), (2, .int l2_25), (3, .int l3_26)] [] h
      have hw : wpO (sX1_oddBound_L13 F l0 l1 l2_25 l3_26 h) _ := hw
      unfold sX1_oddBound_L13 at hw
      refine R_iload_n (q := 3) (i := 3) (v := l3_26) hc dX1_oddBound_13 rfl rfl ?_
      refine R_aload_n (q := 0) (i := 0) (v := (some l0)) hc dX1_oddBound_14 rfl rfl ?_
      refine R_getI hc fl_1_43 dX1_oddBound_15 hw (fun t2 hw => ?_)
      refine R_icmp_ge (tgt := 55) hc dX1_oddBound_18 (by decide) hw (fun hw => ?_) (fun hw => ?_)
      · refine R_sub hc [0, 1, 2] rfl ?_
        exact (wpO_some hw :)
      · refine R_iload_n (q := 2) (i := 2) (v := l2_25) hc dX1_oddBound_21 rfl rfl ?_
        refine R_iconst (v := (1 : Int32)) hc dX1_oddBound_22 kI_1 ?_
        refine R_aload_n (q := 0) (i := 0) (v := (some l0)) hc dX1_oddBound_23 rfl rfl ?_
        refine R_iload_n (q := 3) (i := 3) (v := l3_26) hc dX1_oddBound_24 rfl rfl ?_
        refine R_iconst (v := (4 : Int32)) hc dX1_oddBound_25 kI_4 ?_
        refine R_imul hc dX1_oddBound_26 ?_
        refine R_iload_n (q := 1) (i := 1) (v := l1) hc dX1_oddBound_27 rfl rfl ?_
        refine R_iconst (v := (0 : Int32)) hc dX1_oddBound_28 kI_0 ?_
        refine R_cVI (As := [.int (l3_26 * (4 : Int32)), .int l1, .int (0 : Int32)]) (rest := [.int (1 : Int32), .int l2_25]) (r := (some l0)) (ci := 1) hc ml_1_53 mf_X1_netOf rfl (by decide) ⟨rfl, rfl⟩ ⟨le_b rfl, le_b rfl⟩ ⟨Nat.zero_le _, Nat.zero_le _⟩ (fun a v e => mt_X1_netOf e) rfl rfl (le_b rfl) dX1_oddBound_29 hw (fun t4 hw => ?_)
        refine R_ishl hc dX1_oddBound_32 ?_
        refine R_ixor hc dX1_oddBound_33 ?_
        refine R_nmI hw (fun l2_5 hw => ?_)
        refine R_istore_n (i := 2) (v := l2_5) hc [(2, .int l2_5), (0, rf x.w (some l0)), (1, .int l1), (3, .int l3_26)] dX1_oddBound_34 rfl (hnl 2 (le_b rfl)) rfl ?_
        refine R_iload_n (q := 0) (i := 2) (v := l2_5) hc dX1_oddBound_35 rfl rfl ?_
        refine R_iconst (v := (1 : Int32)) hc dX1_oddBound_36 kI_1 ?_
        refine R_aload_n (q := 1) (i := 0) (v := (some l0)) hc dX1_oddBound_37 rfl rfl ?_
        refine R_iload_n (q := 3) (i := 3) (v := l3_26) hc dX1_oddBound_38 rfl rfl ?_
        refine R_iconst (v := (4 : Int32)) hc dX1_oddBound_39 kI_4 ?_
        refine R_imul hc dX1_oddBound_40 ?_
        refine R_iload_n (q := 2) (i := 1) (v := l1) hc dX1_oddBound_41 rfl rfl ?_
        refine R_iconst (v := (1 : Int32)) hc dX1_oddBound_42 kI_1 ?_
        refine R_cVI (As := [.int (l3_26 * (4 : Int32)), .int l1, .int (1 : Int32)]) (rest := [.int (1 : Int32), .int l2_5]) (r := (some l0)) (ci := 1) hc ml_1_53 mf_X1_netOf rfl (by decide) ⟨rfl, rfl⟩ ⟨le_b rfl, le_b rfl⟩ ⟨Nat.zero_le _, Nat.zero_le _⟩ (fun a v e => mt_X1_netOf e) rfl rfl (le_b rfl) dX1_oddBound_43 hw (fun t7 hw => ?_)
        refine R_ishl hc dX1_oddBound_46 ?_
        refine R_ixor hc dX1_oddBound_47 ?_
        refine R_nmI hw (fun l2_8 hw => ?_)
        refine R_istore_n (i := 2) (v := l2_8) hc [(2, .int l2_8), (0, rf x.w (some l0)), (1, .int l1), (3, .int l3_26)] dX1_oddBound_48 rfl (hnl 2 (le_b rfl)) rfl ?_
        refine R_iinc (q := 3) (i := 3) (v := l3_26) hc [(3, .int (l3_26 + (1 : Int32))), (2, .int l2_8), (0, rf x.w (some l0)), (1, .int l1)] dX1_oddBound_49 rfl (kC_1 _) (hnl 3 (le_b rfl)) rfl ?_
        refine R_goto (tgt := 13) hc dX1_oddBound_52 (by decide) ?_
        refine R_sub hc [2, 3, 1, 0] rfl ?_
        exact hX (l2_8, l3_26 + (1 : Int32)) (wpO_some hw :)
  · refine R_iconst (v := (0 : Int32)) hc dX1_oddBound_7 kI_0 ?_
    exact R_ireturnP hc hret rfl hQ hw dX1_oddBound_8
theorem dX10_bound_0 : decode cX10_bound 0 = .ok (.aload_n 0, 1) := by decide +kernel
theorem dX10_bound_1 : decode cX10_bound 1 = .ok (.getfield 75, 3) := by decide +kernel
theorem dX10_bound_4 : decode cX10_bound 4 = .ok (.getfield 125, 3) := by decide +kernel
theorem dX10_bound_7 : decode cX10_bound 7 = .ok (.iload_n 1, 1) := by decide +kernel
theorem dX10_bound_8 : decode cX10_bound 8 = .ok (.ifCond .eq 7, 3) := by decide +kernel
theorem dX10_bound_11 : decode cX10_bound 11 = .ok (.iconst 0, 1) := by decide +kernel
theorem dX10_bound_12 : decode cX10_bound 12 = .ok (.goto 4, 3) := by decide +kernel
theorem dX10_bound_15 : decode cX10_bound 15 = .ok (.iconst 1, 1) := by decide +kernel
theorem dX10_bound_16 : decode cX10_bound 16 = .ok (.invokevirtual 315, 3) := by decide +kernel
theorem dX10_bound_19 : decode cX10_bound 19 = .ok (.ireturn, 1) := by decide +kernel
def sX10_bound (F : Nat) (l0 : Nat) (l1 : Int32) (h : HP) : Option Int32 :=
  (gR h 10 (some l0) 12).bind fun t1 =>
  (gR h 4 t1 0).bind fun t2 =>
  if l1 = 0 then
    (dO h 1 t2).bind fun a3 =>
    (sX1_oddBound F a3 (1 : Int32) h).bind fun t4 =>
    some t4
  else
    (dO h 1 t2).bind fun a5 =>
    (sX1_oddBound F a5 (0 : Int32) h).bind fun t6 =>
    some t6
abbrev rm_X10_bound : Room := { frames := 4, cells := 0, slots := 0, locals := 100 }
set_option maxRecDepth 100000 in
set_option maxHeartbeats 4000000 in
theorem mt_X10_bound {w : WD} {l : Launch} {F : Nat} {l0 : Nat} {l1 : Int32} {h : HP} {v : Int32} (hs : sX10_bound F l0 l1 h = some v) : MI w l yX10_bound cX10_bound 2 .int rm_X10_bound 0 0 [rf w (some l0), .int l1] h v h := by
  refine of_body [(0, rf w (some l0)), (1, .int l1)] (by decide) (by simp [lg_sl, rf_cat, cat_i, cat_l, cat_a]) (by simp [lv_args, rf_cat, cat_i, cat_l, cat_a]) ?_
  intro x hw_ hnL_ hl_ hc hret hnm hQ
  subst hw_; subst hl_
  have hnl : ∀ i, i < 2 → i < x.nL := fun i h => by rw [hnL_]; exact h
  have hw : wpO (sX10_bound F l0 l1 h) (fun r => r = v) := ⟨_, hs, rfl⟩
  unfold sX10_bound at hw
  refine R_aload_n (q := 0) (i := 0) (v := (some l0)) hc dX10_bound_0 rfl rfl ?_
  refine R_getR hc fl_10_75 dX10_bound_1 hw (fun t1 hw => ?_)
  refine R_getR hc fl_10_125 dX10_bound_4 hw (fun t2 hw => ?_)
  refine R_iload_n (q := 1) (i := 1) (v := l1) hc dX10_bound_7 rfl rfl ?_
  refine R_if_eq (tgt := 15) hc dX10_bound_8 (by decide) hw (fun hw => ?_) (fun hw => ?_)
  · refine R_iconst (v := (1 : Int32)) hc dX10_bound_15 kI_1 ?_
    refine R_cVI (As := [.int (1 : Int32)]) (rest := []) (r := t2) (ci := 1) hc ml_10_315 mf_X1_oddBound rfl (by decide) ⟨rfl, rfl⟩ ⟨le_b rfl, le_b rfl⟩ ⟨Nat.zero_le _, Nat.zero_le _⟩ (fun a v e => mt_X1_oddBound e) rfl rfl (Nat.zero_le _) dX10_bound_16 hw (fun t4 hw => ?_)
    exact R_ireturnP hc hret rfl hQ hw dX10_bound_19
  · refine R_iconst (v := (0 : Int32)) hc dX10_bound_11 kI_0 ?_
    refine R_goto (tgt := 16) hc dX10_bound_12 (by decide) ?_
    refine R_cVI (As := [.int (0 : Int32)]) (rest := []) (r := t2) (ci := 1) hc ml_10_315 mf_X1_oddBound rfl (by decide) ⟨rfl, rfl⟩ ⟨le_b rfl, le_b rfl⟩ ⟨Nat.zero_le _, Nat.zero_le _⟩ (fun a v e => mt_X1_oddBound e) rfl rfl (Nat.zero_le _) dX10_bound_16 hw (fun t6 hw => ?_)
    exact R_ireturnP hc hret rfl hQ hw dX10_bound_19
theorem dX10_agrees_0 : decode cX10_agrees 0 = .ok (.aload_n 0, 1) := by decide +kernel
theorem dX10_agrees_1 : decode cX10_agrees 1 = .ok (.invokevirtual 318, 3) := by decide +kernel
theorem dX10_agrees_4 : decode cX10_agrees 4 = .ok (.aload_n 0, 1) := by decide +kernel
theorem dX10_agrees_5 : decode cX10_agrees 5 = .ok (.iconst 1, 1) := by decide +kernel
theorem dX10_agrees_6 : decode cX10_agrees 6 = .ok (.invokevirtual 320, 3) := by decide +kernel
theorem dX10_agrees_9 : decode cX10_agrees 9 = .ok (.aload_n 0, 1) := by decide +kernel
theorem dX10_agrees_10 : decode cX10_agrees 10 = .ok (.iconst 0, 1) := by decide +kernel
theorem dX10_agrees_11 : decode cX10_agrees 11 = .ok (.invokevirtual 320, 3) := by decide +kernel
theorem dX10_agrees_14 : decode cX10_agrees 14 = .ok (.invokestatic 324, 3) := by decide +kernel
theorem dX10_agrees_17 : decode cX10_agrees 17 = .ok (.if_icmp .ne 7, 3) := by decide +kernel
theorem dX10_agrees_20 : decode cX10_agrees 20 = .ok (.iconst 1, 1) := by decide +kernel
theorem dX10_agrees_21 : decode cX10_agrees 21 = .ok (.goto 4, 3) := by decide +kernel
theorem dX10_agrees_24 : decode cX10_agrees 24 = .ok (.iconst 0, 1) := by decide +kernel
theorem dX10_agrees_25 : decode cX10_agrees 25 = .ok (.ireturn, 1) := by decide +kernel
def sX10_agrees (F : Nat) (l0 : Nat) (h : HP) : Option Int32 :=
  (dO h 10 (some l0)).bind fun a1 =>
  (sX10_least F a1 h).bind fun t2 =>
  (dO h 10 (some l0)).bind fun a3 =>
  (sX10_bound F a3 (1 : Int32) h).bind fun t4 =>
  (dO h 10 (some l0)).bind fun a5 =>
  (sX10_bound F a5 (0 : Int32) h).bind fun t6 =>
  if ¬ t2 = (jmx t4 t6) then
    some (0 : Int32)
  else
    some (1 : Int32)
abbrev rm_X10_agrees : Room := { frames := 5, cells := 0, slots := 0, locals := 121 }
set_option maxRecDepth 100000 in
set_option maxHeartbeats 4000000 in
theorem mt_X10_agrees {w : WD} {l : Launch} {F : Nat} {l0 : Nat} {h : HP} {v : Int32} (hs : sX10_agrees F l0 h = some v) : MI w l yX10_agrees cX10_agrees 1 .boolean rm_X10_agrees 0 0 [rf w (some l0)] h v h := by
  refine of_body [(0, rf w (some l0))] (by decide) (by simp [lg_sl, rf_cat, cat_i, cat_l, cat_a]) (by simp [lv_args, rf_cat, cat_i, cat_l, cat_a]) ?_
  intro x hw_ hnL_ hl_ hc hret hnm hQ
  subst hw_; subst hl_
  have hnl : ∀ i, i < 1 → i < x.nL := fun i h => by rw [hnL_]; exact h
  have hw : wpO (sX10_agrees F l0 h) (fun r => r = v) := ⟨_, hs, rfl⟩
  unfold sX10_agrees at hw
  refine R_aload_n (q := 0) (i := 0) (v := (some l0)) hc dX10_agrees_0 rfl rfl ?_
  refine R_cVI (As := []) (rest := []) (r := (some l0)) (ci := 10) hc ml_10_318 mf_X10_least rfl (by decide) ⟨rfl, rfl⟩ ⟨le_b rfl, le_b rfl⟩ ⟨Nat.zero_le _, Nat.zero_le _⟩ (fun a v e => mt_X10_least e) rfl rfl (Nat.zero_le _) dX10_agrees_1 hw (fun t2 hw => ?_)
  refine R_aload_n (q := 0) (i := 0) (v := (some l0)) hc dX10_agrees_4 rfl rfl ?_
  refine R_iconst (v := (1 : Int32)) hc dX10_agrees_5 kI_1 ?_
  refine R_cVI (As := [.int (1 : Int32)]) (rest := [.int t2]) (r := (some l0)) (ci := 10) hc ml_10_320 mf_X10_bound rfl (by decide) ⟨rfl, rfl⟩ ⟨le_b rfl, le_b rfl⟩ ⟨Nat.zero_le _, Nat.zero_le _⟩ (fun a v e => mt_X10_bound e) rfl rfl (le_b rfl) dX10_agrees_6 hw (fun t4 hw => ?_)
  refine R_aload_n (q := 0) (i := 0) (v := (some l0)) hc dX10_agrees_9 rfl rfl ?_
  refine R_iconst (v := (0 : Int32)) hc dX10_agrees_10 kI_0 ?_
  refine R_cVI (As := [.int (0 : Int32)]) (rest := [.int t4, .int t2]) (r := (some l0)) (ci := 10) hc ml_10_320 mf_X10_bound rfl (by decide) ⟨rfl, rfl⟩ ⟨le_b rfl, le_b rfl⟩ ⟨Nat.zero_le _, Nat.zero_le _⟩ (fun a v e => mt_X10_bound e) rfl rfl (le_b rfl) dX10_agrees_11 hw (fun t6 hw => ?_)
  refine R_jmx hc ml_10_324 (le_b rfl) (le_b rfl) ⟨Nat.zero_le _, Nat.zero_le _⟩ dX10_agrees_14 ?_
  refine R_icmp_ne (tgt := 24) hc dX10_agrees_17 (by decide) hw (fun hw => ?_) (fun hw => ?_)
  · refine R_iconst (v := (0 : Int32)) hc dX10_agrees_24 kI_0 ?_
    exact R_ireturnP hc hret rfl hQ hw dX10_agrees_25
  · refine R_iconst (v := (1 : Int32)) hc dX10_agrees_20 kI_1 ?_
    refine R_goto (tgt := 25) hc dX10_agrees_21 (by decide) ?_
    exact R_ireturnP hc hret rfl hQ hw dX10_agrees_25
theorem dX4_partedGaps_0 : decode cX4_partedGaps 0 = .ok (.aload_n 0, 1) := by decide +kernel
theorem dX4_partedGaps_1 : decode cX4_partedGaps 1 = .ok (.getfield 21, 3) := by decide +kernel
theorem dX4_partedGaps_4 : decode cX4_partedGaps 4 = .ok (.getfield 125, 3) := by decide +kernel
theorem dX4_partedGaps_7 : decode cX4_partedGaps 7 = .ok (.iload_n 1, 1) := by decide +kernel
theorem dX4_partedGaps_8 : decode cX4_partedGaps 8 = .ok (.iaload, 1) := by decide +kernel
theorem dX4_partedGaps_9 : decode cX4_partedGaps 9 = .ok (.aload_n 0, 1) := by decide +kernel
theorem dX4_partedGaps_10 : decode cX4_partedGaps 10 = .ok (.getfield 21, 3) := by decide +kernel
theorem dX4_partedGaps_13 : decode cX4_partedGaps 13 = .ok (.getfield 125, 3) := by decide +kernel
theorem dX4_partedGaps_16 : decode cX4_partedGaps 16 = .ok (.aload_n 0, 1) := by decide +kernel
theorem dX4_partedGaps_17 : decode cX4_partedGaps 17 = .ok (.getfield 12, 3) := by decide +kernel
theorem dX4_partedGaps_20 : decode cX4_partedGaps 20 = .ok (.invokevirtual 42, 3) := by decide +kernel
theorem dX4_partedGaps_23 : decode cX4_partedGaps 23 = .ok (.iload_n 1, 1) := by decide +kernel
theorem dX4_partedGaps_24 : decode cX4_partedGaps 24 = .ok (.iconst (-1), 1) := by decide +kernel
theorem dX4_partedGaps_25 : decode cX4_partedGaps 25 = .ok (.ixor, 1) := by decide +kernel
theorem dX4_partedGaps_26 : decode cX4_partedGaps 26 = .ok (.iand, 1) := by decide +kernel
theorem dX4_partedGaps_27 : decode cX4_partedGaps 27 = .ok (.iaload, 1) := by decide +kernel
theorem dX4_partedGaps_28 : decode cX4_partedGaps 28 = .ok (.iadd, 1) := by decide +kernel
theorem dX4_partedGaps_29 : decode cX4_partedGaps 29 = .ok (.ireturn, 1) := by decide +kernel
def sX4_partedGaps (F : Nat) (l0 : Nat) (l1 : Int32) (h : HP) : Option Int32 :=
  (gR h 4 (some l0) 1).bind fun t1 =>
  (gR h 3 t1 0).bind fun t2 =>
  (aI h 13 t2 l1).bind fun t3 =>
  (gR h 4 (some l0) 1).bind fun t4 =>
  (gR h 3 t4 0).bind fun t5 =>
  (gR h 4 (some l0) 0).bind fun t6 =>
  (dO h 1 t6).bind fun a7 =>
  (sX1_allFingers F a7 h).bind fun t8 =>
  (aI h 13 t5 (t8 &&& (l1 ^^^ (-1 : Int32)))).bind fun t9 =>
  some (t3 + t9)
abbrev rm_X4_partedGaps : Room := { frames := 1, cells := 0, slots := 0, locals := 20 }
set_option maxRecDepth 100000 in
set_option maxHeartbeats 4000000 in
theorem mt_X4_partedGaps {w : WD} {l : Launch} {F : Nat} {l0 : Nat} {l1 : Int32} {h : HP} {v : Int32} (hs : sX4_partedGaps F l0 l1 h = some v) : MI w l yX4_partedGaps cX4_partedGaps 2 .int rm_X4_partedGaps 0 0 [rf w (some l0), .int l1] h v h := by
  refine of_body [(0, rf w (some l0)), (1, .int l1)] (by decide) (by simp [lg_sl, rf_cat, cat_i, cat_l, cat_a]) (by simp [lv_args, rf_cat, cat_i, cat_l, cat_a]) ?_
  intro x hw_ hnL_ hl_ hc hret hnm hQ
  subst hw_; subst hl_
  have hnl : ∀ i, i < 2 → i < x.nL := fun i h => by rw [hnL_]; exact h
  have hw : wpO (sX4_partedGaps F l0 l1 h) (fun r => r = v) := ⟨_, hs, rfl⟩
  unfold sX4_partedGaps at hw
  refine R_aload_n (q := 0) (i := 0) (v := (some l0)) hc dX4_partedGaps_0 rfl rfl ?_
  refine R_getR hc fl_4_21 dX4_partedGaps_1 hw (fun t1 hw => ?_)
  refine R_getR hc fl_4_125 dX4_partedGaps_4 hw (fun t2 hw => ?_)
  refine R_iload_n (q := 1) (i := 1) (v := l1) hc dX4_partedGaps_7 rfl rfl ?_
  refine R_iaload hc dX4_partedGaps_8 hw (fun t3 hw => ?_)
  refine R_aload_n (q := 0) (i := 0) (v := (some l0)) hc dX4_partedGaps_9 rfl rfl ?_
  refine R_getR hc fl_4_21 dX4_partedGaps_10 hw (fun t4 hw => ?_)
  refine R_getR hc fl_4_125 dX4_partedGaps_13 hw (fun t5 hw => ?_)
  refine R_aload_n (q := 0) (i := 0) (v := (some l0)) hc dX4_partedGaps_16 rfl rfl ?_
  refine R_getR hc fl_4_12 dX4_partedGaps_17 hw (fun t6 hw => ?_)
  refine R_cVI (As := []) (rest := [rf x.w t5, .int t3]) (r := t6) (ci := 1) hc ml_4_42 mf_X1_allFingers rfl (by decide) ⟨rfl, rfl⟩ ⟨le_b rfl, le_b rfl⟩ ⟨Nat.zero_le _, Nat.zero_le _⟩ (fun a v e => mt_X1_allFingers e) rfl rfl (by simp [rf_cat, cat_i, cat_l, cat_a]) dX4_partedGaps_20 hw (fun t8 hw => ?_)
  refine R_iload_n (q := 1) (i := 1) (v := l1) hc dX4_partedGaps_23 rfl rfl ?_
  refine R_iconst (v := (-1 : Int32)) hc dX4_partedGaps_24 kI_m1 ?_
  refine R_ixor hc dX4_partedGaps_25 ?_
  refine R_iand hc dX4_partedGaps_26 ?_
  refine R_iaload hc dX4_partedGaps_27 hw (fun t9 hw => ?_)
  refine R_iadd hc dX4_partedGaps_28 ?_
  exact R_ireturnP hc hret rfl hQ hw dX4_partedGaps_29
theorem dX4_partingSet_0 : decode cX4_partingSet 0 = .ok (.aload_n 0, 1) := by decide +kernel
theorem dX4_partingSet_1 : decode cX4_partingSet 1 = .ok (.getfield 12, 3) := by decide +kernel
theorem dX4_partingSet_4 : decode cX4_partingSet 4 = .ok (.invokevirtual 42, 3) := by decide +kernel
theorem dX4_partingSet_7 : decode cX4_partingSet 7 = .ok (.istore_n 2, 1) := by decide +kernel
theorem dX4_partingSet_8 : decode cX4_partingSet 8 = .ok (.iconst (-1), 1) := by decide +kernel
theorem dX4_partingSet_9 : decode cX4_partingSet 9 = .ok (.istore_n 3, 1) := by decide +kernel
theorem dX4_partingSet_10 : decode cX4_partingSet 10 = .ok (.iconst 0, 1) := by decide +kernel
theorem dX4_partingSet_11 : decode cX4_partingSet 11 = .ok (.istore 4, 2) := by decide +kernel
theorem dX4_partingSet_13 : decode cX4_partingSet 13 = .ok (.iload 4, 2) := by decide +kernel
theorem dX4_partingSet_15 : decode cX4_partingSet 15 = .ok (.iload_n 2, 1) := by decide +kernel
theorem dX4_partingSet_16 : decode cX4_partingSet 16 = .ok (.if_icmp .gt 40, 3) := by decide +kernel
theorem dX4_partingSet_19 : decode cX4_partingSet 19 = .ok (.iload 4, 2) := by decide +kernel
theorem dX4_partingSet_21 : decode cX4_partingSet 21 = .ok (.invokestatic 99, 3) := by decide +kernel
theorem dX4_partingSet_24 : decode cX4_partingSet 24 = .ok (.iload_n 1, 1) := by decide +kernel
theorem dX4_partingSet_25 : decode cX4_partingSet 25 = .ok (.if_icmp .ne 25, 3) := by decide +kernel
theorem dX4_partingSet_28 : decode cX4_partingSet 28 = .ok (.iload_n 3, 1) := by decide +kernel
theorem dX4_partingSet_29 : decode cX4_partingSet 29 = .ok (.iconst (-1), 1) := by decide +kernel
theorem dX4_partingSet_30 : decode cX4_partingSet 30 = .ok (.if_icmp .eq 17, 3) := by decide +kernel
theorem dX4_partingSet_33 : decode cX4_partingSet 33 = .ok (.aload_n 0, 1) := by decide +kernel
theorem dX4_partingSet_34 : decode cX4_partingSet 34 = .ok (.iload 4, 2) := by decide +kernel
theorem dX4_partingSet_36 : decode cX4_partingSet 36 = .ok (.invokevirtual 128, 3) := by decide +kernel
theorem dX4_partingSet_39 : decode cX4_partingSet 39 = .ok (.aload_n 0, 1) := by decide +kernel
theorem dX4_partingSet_40 : decode cX4_partingSet 40 = .ok (.iload_n 3, 1) := by decide +kernel
theorem dX4_partingSet_41 : decode cX4_partingSet 41 = .ok (.invokevirtual 128, 3) := by decide +kernel
theorem dX4_partingSet_44 : decode cX4_partingSet 44 = .ok (.if_icmp .ge 6, 3) := by decide +kernel
theorem dX4_partingSet_47 : decode cX4_partingSet 47 = .ok (.iload 4, 2) := by decide +kernel
theorem dX4_partingSet_49 : decode cX4_partingSet 49 = .ok (.istore_n 3, 1) := by decide +kernel
theorem dX4_partingSet_50 : decode cX4_partingSet 50 = .ok (.iinc 4 1, 3) := by decide +kernel
theorem dX4_partingSet_53 : decode cX4_partingSet 53 = .ok (.goto (-40), 3) := by decide +kernel
theorem dX4_partingSet_56 : decode cX4_partingSet 56 = .ok (.iload_n 3, 1) := by decide +kernel
theorem dX4_partingSet_57 : decode cX4_partingSet 57 = .ok (.iconst 0, 1) := by decide +kernel
theorem dX4_partingSet_58 : decode cX4_partingSet 58 = .ok (.invokestatic 131, 3) := by decide +kernel
theorem dX4_partingSet_61 : decode cX4_partingSet 61 = .ok (.ireturn, 1) := by decide +kernel
def sX4_partingSet_L13 (F : Nat) (l0 : Nat) (l1 : Int32) (l2 : Int32) (l3 : Int32) (l4 : Int32) (h : HP) : Option ((Int32 × Int32) ⊕ Int32) :=
  if l2 < l4 then
    some (.inr l3)
  else
    (sJ6_bitCount_0f7a4 F l4 h).bind fun t4 =>
    if ¬ t4 = l1 then
      some (.inl (l3, l4 + (1 : Int32)))
    else
      if l3 = (-1 : Int32) then
        some (.inl (l4, l4 + (1 : Int32)))
      else
        (dO h 4 (some l0)).bind fun a5 =>
        (sX4_partedGaps F a5 l4 h).bind fun t6 =>
        (dO h 4 (some l0)).bind fun a7 =>
        (sX4_partedGaps F a7 l3 h).bind fun t8 =>
        if t8 ≤ t6 then
          some (.inl (l3, l4 + (1 : Int32)))
        else
          some (.inl (l4, l4 + (1 : Int32)))
def sX4_partingSet (F : Nat) (l0 : Nat) (l1 : Int32) (h : HP) : Option Int32 :=
  (gR h 4 (some l0) 0).bind fun t1 =>
  (dO h 1 t1).bind fun a2 =>
  (sX1_allFingers F a2 h).bind fun t3 =>
  (iter (fun s => sX4_partingSet_L13 F l0 l1 t3 s.1 s.2 h) F ((-1 : Int32), (0 : Int32))).bind fun l3_9 =>
    some (jmx l3_9 (0 : Int32))
abbrev rm_X4_partingSet : Room := { frames := 2, cells := 0, slots := 0, locals := 41 }
set_option maxRecDepth 100000 in
set_option maxHeartbeats 4000000 in
theorem mt_X4_partingSet {w : WD} {l : Launch} {F : Nat} {l0 : Nat} {l1 : Int32} {h : HP} {v : Int32} (hs : sX4_partingSet F l0 l1 h = some v) : MI w l yX4_partingSet cX4_partingSet 5 .int rm_X4_partingSet 0 0 [rf w (some l0), .int l1] h v h := by
  refine of_body [(0, rf w (some l0)), (1, .int l1)] (by decide) (by simp [lg_sl, rf_cat, cat_i, cat_l, cat_a]) (by simp [lv_args, rf_cat, cat_i, cat_l, cat_a]) ?_
  intro x hw_ hnL_ hl_ hc hret hnm hQ
  subst hw_; subst hl_
  have hnl : ∀ i, i < 5 → i < x.nL := fun i h => by rw [hnL_]; exact h
  have hw : wpO (sX4_partingSet F l0 l1 h) (fun r => r = v) := ⟨_, hs, rfl⟩
  unfold sX4_partingSet at hw
  refine R_aload_n (q := 0) (i := 0) (v := (some l0)) hc dX4_partingSet_0 rfl rfl ?_
  refine R_getR hc fl_4_12 dX4_partingSet_1 hw (fun t1 hw => ?_)
  refine R_cVI (As := []) (rest := []) (r := t1) (ci := 1) hc ml_4_42 mf_X1_allFingers rfl (by decide) ⟨rfl, rfl⟩ ⟨le_b rfl, le_b rfl⟩ ⟨Nat.zero_le _, Nat.zero_le _⟩ (fun a v e => mt_X1_allFingers e) rfl rfl (Nat.zero_le _) dX4_partingSet_4 hw (fun t3 hw => ?_)
  refine R_istore_n (i := 2) (v := t3) hc [(2, .int t3), (0, rf x.w (some l0)), (1, .int l1)] dX4_partingSet_7 rfl (hnl 2 (le_b rfl)) rfl ?_
  refine R_iconst (v := (-1 : Int32)) hc dX4_partingSet_8 kI_m1 ?_
  refine R_istore_n (i := 3) (v := (-1 : Int32)) hc [(3, .int (-1 : Int32)), (2, .int t3), (0, rf x.w (some l0)), (1, .int l1)] dX4_partingSet_9 rfl (hnl 3 (le_b rfl)) rfl ?_
  refine R_iconst (v := (0 : Int32)) hc dX4_partingSet_10 kI_0 ?_
  refine R_istore (i := 4) (v := (0 : Int32)) hc [(4, .int (0 : Int32)), (3, .int (-1 : Int32)), (2, .int t3), (0, rf x.w (some l0)), (1, .int l1)] dX4_partingSet_11 (hnl 4 (le_b rfl)) rfl ?_
  refine R_sub hc [3, 4, 2, 1, 0] rfl ?_
  refine R_loop (P := fun (s : (Int32 × Int32)) => Rn x 0 0 13 [(0, rf x.w (some l0)), (1, .int l1), (2, .int t3), (3, .int s.1), (4, .int s.2)] [] h) (fun l3_9 => Rn x 0 0 56 [(3, .int l3_9)] [] h) hw (fun r hw => ?_) (fun X hX s hw => ?_)
  · revert r hw
    intro l3_9 hw
    show Rn x 0 0 56 [(3, .int l3_9)] [] h
    refine R_iload_n (q := 0) (i := 3) (v := l3_9) hc dX4_partingSet_56 rfl rfl ?_
    refine R_iconst (v := (0 : Int32)) hc dX4_partingSet_57 kI_0 ?_
    refine R_jmx hc ml_4_131 (le_b rfl) (le_b rfl) ⟨Nat.zero_le _, Nat.zero_le _⟩ dX4_partingSet_58 ?_
    exact R_ireturnP hc hret rfl hQ hw dX4_partingSet_61
  · obtain ⟨l3_11, l4_12⟩ := s
    show Rn x 0 0 13 [(0, rf x.w (some l0)), (1, .int l1), (2, .int t3), (3, .int l3_11), (4, .int l4_12)] [] h
    have hw : wpO (sX4_partingSet_L13 F l0 l1 t3 l3_11 l4_12 h) _ := hw
    unfold sX4_partingSet_L13 at hw
    refine R_iload (q := 4) (i := 4) (v := l4_12) hc dX4_partingSet_13 rfl ?_
    refine R_iload_n (q := 2) (i := 2) (v := t3) hc dX4_partingSet_15 rfl rfl ?_
    refine R_icmp_gt (tgt := 56) hc dX4_partingSet_16 (by decide) hw (fun hw => ?_) (fun hw => ?_)
    · refine R_sub hc [3] rfl ?_
      exact (wpO_some hw :)
    · refine R_iload (q := 4) (i := 4) (v := l4_12) hc dX4_partingSet_19 rfl ?_
      refine R_cSI (As := [.int l4_12]) (rest := []) hc ml_4_99 mf_J6_bitCount_0f7a4 ⟨rfl, rfl⟩ ⟨le_b rfl, le_b rfl⟩ ⟨Nat.zero_le _, Nat.zero_le _⟩ (fun v e => mt_J6_bitCount_0f7a4 e) rfl rfl (Nat.zero_le _) dX4_partingSet_21 hw (fun t4 hw => ?_)
      refine R_iload_n (q := 1) (i := 1) (v := l1) hc dX4_partingSet_24 rfl rfl ?_
      refine R_icmp_ne (tgt := 50) hc dX4_partingSet_25 (by decide) hw (fun hw => ?_) (fun hw => ?_)
      · refine R_iinc (q := 4) (i := 4) (v := l4_12) hc [(4, .int (l4_12 + (1 : Int32))), (0, rf x.w (some l0)), (1, .int l1), (2, .int t3), (3, .int l3_11)] dX4_partingSet_50 rfl (kC_1 _) (hnl 4 (le_b rfl)) rfl ?_
        refine R_goto (tgt := 13) hc dX4_partingSet_53 (by decide) ?_
        refine R_sub hc [1, 2, 3, 4, 0] rfl ?_
        exact hX (l3_11, l4_12 + (1 : Int32)) (wpO_some hw :)
      · refine R_iload_n (q := 3) (i := 3) (v := l3_11) hc dX4_partingSet_28 rfl rfl ?_
        refine R_iconst (v := (-1 : Int32)) hc dX4_partingSet_29 kI_m1 ?_
        refine R_icmp_eq (tgt := 47) hc dX4_partingSet_30 (by decide) hw (fun hw => ?_) (fun hw => ?_)
        · refine R_iload (q := 4) (i := 4) (v := l4_12) hc dX4_partingSet_47 rfl ?_
          refine R_istore_n (i := 3) (v := l4_12) hc [(3, .int l4_12), (0, rf x.w (some l0)), (1, .int l1), (2, .int t3), (4, .int l4_12)] dX4_partingSet_49 rfl (hnl 3 (le_b rfl)) rfl ?_
          refine R_iinc (q := 4) (i := 4) (v := l4_12) hc [(4, .int (l4_12 + (1 : Int32))), (3, .int l4_12), (0, rf x.w (some l0)), (1, .int l1), (2, .int t3)] dX4_partingSet_50 rfl (kC_1 _) (hnl 4 (le_b rfl)) rfl ?_
          refine R_goto (tgt := 13) hc dX4_partingSet_53 (by decide) ?_
          refine R_sub hc [2, 3, 4, 1, 0] rfl ?_
          exact hX (l4_12, l4_12 + (1 : Int32)) (wpO_some hw :)
        · refine R_aload_n (q := 0) (i := 0) (v := (some l0)) hc dX4_partingSet_33 rfl rfl ?_
          refine R_iload (q := 4) (i := 4) (v := l4_12) hc dX4_partingSet_34 rfl ?_
          refine R_cVI (As := [.int l4_12]) (rest := []) (r := (some l0)) (ci := 4) hc ml_4_128 mf_X4_partedGaps rfl (by decide) ⟨rfl, rfl⟩ ⟨le_b rfl, le_b rfl⟩ ⟨Nat.zero_le _, Nat.zero_le _⟩ (fun a v e => mt_X4_partedGaps e) rfl rfl (Nat.zero_le _) dX4_partingSet_36 hw (fun t6 hw => ?_)
          refine R_aload_n (q := 0) (i := 0) (v := (some l0)) hc dX4_partingSet_39 rfl rfl ?_
          refine R_iload_n (q := 3) (i := 3) (v := l3_11) hc dX4_partingSet_40 rfl rfl ?_
          refine R_cVI (As := [.int l3_11]) (rest := [.int t6]) (r := (some l0)) (ci := 4) hc ml_4_128 mf_X4_partedGaps rfl (by decide) ⟨rfl, rfl⟩ ⟨le_b rfl, le_b rfl⟩ ⟨Nat.zero_le _, Nat.zero_le _⟩ (fun a v e => mt_X4_partedGaps e) rfl rfl (le_b rfl) dX4_partingSet_41 hw (fun t8 hw => ?_)
          refine R_icmp_ge (tgt := 50) hc dX4_partingSet_44 (by decide) hw (fun hw => ?_) (fun hw => ?_)
          · refine R_iinc (q := 4) (i := 4) (v := l4_12) hc [(4, .int (l4_12 + (1 : Int32))), (0, rf x.w (some l0)), (1, .int l1), (2, .int t3), (3, .int l3_11)] dX4_partingSet_50 rfl (kC_1 _) (hnl 4 (le_b rfl)) rfl ?_
            refine R_goto (tgt := 13) hc dX4_partingSet_53 (by decide) ?_
            refine R_sub hc [1, 2, 3, 4, 0] rfl ?_
            exact hX (l3_11, l4_12 + (1 : Int32)) (wpO_some hw :)
          · refine R_iload (q := 4) (i := 4) (v := l4_12) hc dX4_partingSet_47 rfl ?_
            refine R_istore_n (i := 3) (v := l4_12) hc [(3, .int l4_12), (0, rf x.w (some l0)), (1, .int l1), (2, .int t3), (4, .int l4_12)] dX4_partingSet_49 rfl (hnl 3 (le_b rfl)) rfl ?_
            refine R_iinc (q := 4) (i := 4) (v := l4_12) hc [(4, .int (l4_12 + (1 : Int32))), (3, .int l4_12), (0, rf x.w (some l0)), (1, .int l1), (2, .int t3)] dX4_partingSet_50 rfl (kC_1 _) (hnl 4 (le_b rfl)) rfl ?_
            refine R_goto (tgt := 13) hc dX4_partingSet_53 (by decide) ?_
            refine R_sub hc [2, 3, 4, 1, 0] rfl ?_
            exact hX (l4_12, l4_12 + (1 : Int32)) (wpO_some hw :)
theorem dX4_dearestFinger_0 : decode cX4_dearestFinger 0 = .ok (.aload_n 0, 1) := by decide +kernel
theorem dX4_dearestFinger_1 : decode cX4_dearestFinger 1 = .ok (.getfield 12, 3) := by decide +kernel
theorem dX4_dearestFinger_4 : decode cX4_dearestFinger 4 = .ok (.invokevirtual 42, 3) := by decide +kernel
theorem dX4_dearestFinger_7 : decode cX4_dearestFinger 7 = .ok (.istore_n 1, 1) := by decide +kernel
theorem dX4_dearestFinger_8 : decode cX4_dearestFinger 8 = .ok (.iconst (-1), 1) := by decide +kernel
theorem dX4_dearestFinger_9 : decode cX4_dearestFinger 9 = .ok (.istore_n 2, 1) := by decide +kernel
theorem dX4_dearestFinger_10 : decode cX4_dearestFinger 10 = .ok (.sipush 1000, 3) := by decide +kernel
theorem dX4_dearestFinger_13 : decode cX4_dearestFinger 13 = .ok (.istore_n 3, 1) := by decide +kernel
theorem dX4_dearestFinger_14 : decode cX4_dearestFinger 14 = .ok (.iconst 0, 1) := by decide +kernel
theorem dX4_dearestFinger_15 : decode cX4_dearestFinger 15 = .ok (.istore 4, 2) := by decide +kernel
theorem dX4_dearestFinger_17 : decode cX4_dearestFinger 17 = .ok (.iload 4, 2) := by decide +kernel
theorem dX4_dearestFinger_19 : decode cX4_dearestFinger 19 = .ok (.aload_n 0, 1) := by decide +kernel
theorem dX4_dearestFinger_20 : decode cX4_dearestFinger 20 = .ok (.getfield 12, 3) := by decide +kernel
theorem dX4_dearestFinger_23 : decode cX4_dearestFinger 23 = .ok (.getfield 57, 3) := by decide +kernel
theorem dX4_dearestFinger_26 : decode cX4_dearestFinger 26 = .ok (.if_icmp .ge 45, 3) := by decide +kernel
theorem dX4_dearestFinger_29 : decode cX4_dearestFinger 29 = .ok (.aload_n 0, 1) := by decide +kernel
theorem dX4_dearestFinger_30 : decode cX4_dearestFinger 30 = .ok (.getfield 21, 3) := by decide +kernel
theorem dX4_dearestFinger_33 : decode cX4_dearestFinger 33 = .ok (.getfield 125, 3) := by decide +kernel
theorem dX4_dearestFinger_36 : decode cX4_dearestFinger 36 = .ok (.iload_n 1, 1) := by decide +kernel
theorem dX4_dearestFinger_37 : decode cX4_dearestFinger 37 = .ok (.iload 4, 2) := by decide +kernel
theorem dX4_dearestFinger_39 : decode cX4_dearestFinger 39 = .ok (.invokestatic 82, 3) := by decide +kernel
theorem dX4_dearestFinger_42 : decode cX4_dearestFinger 42 = .ok (.iaload, 1) := by decide +kernel
theorem dX4_dearestFinger_43 : decode cX4_dearestFinger 43 = .ok (.iload_n 3, 1) := by decide +kernel
theorem dX4_dearestFinger_44 : decode cX4_dearestFinger 44 = .ok (.if_icmp .ge 21, 3) := by decide +kernel
theorem dX4_dearestFinger_47 : decode cX4_dearestFinger 47 = .ok (.iload 4, 2) := by decide +kernel
theorem dX4_dearestFinger_49 : decode cX4_dearestFinger 49 = .ok (.istore_n 2, 1) := by decide +kernel
theorem dX4_dearestFinger_50 : decode cX4_dearestFinger 50 = .ok (.aload_n 0, 1) := by decide +kernel
theorem dX4_dearestFinger_51 : decode cX4_dearestFinger 51 = .ok (.getfield 21, 3) := by decide +kernel
theorem dX4_dearestFinger_54 : decode cX4_dearestFinger 54 = .ok (.getfield 125, 3) := by decide +kernel
theorem dX4_dearestFinger_57 : decode cX4_dearestFinger 57 = .ok (.iload_n 1, 1) := by decide +kernel
theorem dX4_dearestFinger_58 : decode cX4_dearestFinger 58 = .ok (.iload 4, 2) := by decide +kernel
theorem dX4_dearestFinger_60 : decode cX4_dearestFinger 60 = .ok (.invokestatic 82, 3) := by decide +kernel
theorem dX4_dearestFinger_63 : decode cX4_dearestFinger 63 = .ok (.iaload, 1) := by decide +kernel
theorem dX4_dearestFinger_64 : decode cX4_dearestFinger 64 = .ok (.istore_n 3, 1) := by decide +kernel
theorem dX4_dearestFinger_65 : decode cX4_dearestFinger 65 = .ok (.iinc 4 1, 3) := by decide +kernel
theorem dX4_dearestFinger_68 : decode cX4_dearestFinger 68 = .ok (.goto (-51), 3) := by decide +kernel
theorem dX4_dearestFinger_71 : decode cX4_dearestFinger 71 = .ok (.iload_n 2, 1) := by decide +kernel
theorem dX4_dearestFinger_72 : decode cX4_dearestFinger 72 = .ok (.ireturn, 1) := by decide +kernel
def sX4_dearestFinger_L17 (F : Nat) (l0 : Nat) (l1 : Int32) (l2 : Int32) (l3 : Int32) (l4 : Int32) (h : HP) : Option ((Int32 × Int32 × Int32) ⊕ Int32) :=
  (gR h 4 (some l0) 0).bind fun t4 =>
  (gI h 1 t4 5).bind fun t5 =>
  if t5 ≤ l4 then
    some (.inr l2)
  else
    (gR h 4 (some l0) 1).bind fun t6 =>
    (gR h 3 t6 0).bind fun t7 =>
    (sX10_without F l1 l4 h).bind fun t8 =>
    (aI h 13 t7 t8).bind fun t9 =>
    if l3 ≤ t9 then
      some (.inl (l2, l3, l4 + (1 : Int32)))
    else
      (gR h 4 (some l0) 1).bind fun t10 =>
      (gR h 3 t10 0).bind fun t11 =>
      (sX10_without F l1 l4 h).bind fun t12 =>
      (aI h 13 t11 t12).bind fun t13 =>
      some (.inl (l4, t13, l4 + (1 : Int32)))
def sX4_dearestFinger (F : Nat) (l0 : Nat) (h : HP) : Option Int32 :=
  (gR h 4 (some l0) 0).bind fun t1 =>
  (dO h 1 t1).bind fun a2 =>
  (sX1_allFingers F a2 h).bind fun t3 =>
  (iter (fun s => sX4_dearestFinger_L17 F l0 t3 s.1 s.2.1 s.2.2 h) F ((-1 : Int32), (1000 : Int32), (0 : Int32))).bind fun l2_14 =>
    some l2_14
abbrev rm_X4_dearestFinger : Room := { frames := 1, cells := 0, slots := 0, locals := 21 }
set_option maxRecDepth 100000 in
set_option maxHeartbeats 4000000 in
theorem mt_X4_dearestFinger {w : WD} {l : Launch} {F : Nat} {l0 : Nat} {h : HP} {v : Int32} (hs : sX4_dearestFinger F l0 h = some v) : MI w l yX4_dearestFinger cX4_dearestFinger 5 .int rm_X4_dearestFinger 0 0 [rf w (some l0)] h v h := by
  refine of_body [(0, rf w (some l0))] (by decide) (by simp [lg_sl, rf_cat, cat_i, cat_l, cat_a]) (by simp [lv_args, rf_cat, cat_i, cat_l, cat_a]) ?_
  intro x hw_ hnL_ hl_ hc hret hnm hQ
  subst hw_; subst hl_
  have hnl : ∀ i, i < 5 → i < x.nL := fun i h => by rw [hnL_]; exact h
  have hw : wpO (sX4_dearestFinger F l0 h) (fun r => r = v) := ⟨_, hs, rfl⟩
  unfold sX4_dearestFinger at hw
  refine R_aload_n (q := 0) (i := 0) (v := (some l0)) hc dX4_dearestFinger_0 rfl rfl ?_
  refine R_getR hc fl_4_12 dX4_dearestFinger_1 hw (fun t1 hw => ?_)
  refine R_cVI (As := []) (rest := []) (r := t1) (ci := 1) hc ml_4_42 mf_X1_allFingers rfl (by decide) ⟨rfl, rfl⟩ ⟨le_b rfl, le_b rfl⟩ ⟨Nat.zero_le _, Nat.zero_le _⟩ (fun a v e => mt_X1_allFingers e) rfl rfl (Nat.zero_le _) dX4_dearestFinger_4 hw (fun t3 hw => ?_)
  refine R_istore_n (i := 1) (v := t3) hc [(1, .int t3), (0, rf x.w (some l0))] dX4_dearestFinger_7 rfl (hnl 1 (le_b rfl)) rfl ?_
  refine R_iconst (v := (-1 : Int32)) hc dX4_dearestFinger_8 kI_m1 ?_
  refine R_istore_n (i := 2) (v := (-1 : Int32)) hc [(2, .int (-1 : Int32)), (1, .int t3), (0, rf x.w (some l0))] dX4_dearestFinger_9 rfl (hnl 2 (le_b rfl)) rfl ?_
  refine R_sipush (v := (1000 : Int32)) hc dX4_dearestFinger_10 kS_1000 ?_
  refine R_istore_n (i := 3) (v := (1000 : Int32)) hc [(3, .int (1000 : Int32)), (2, .int (-1 : Int32)), (1, .int t3), (0, rf x.w (some l0))] dX4_dearestFinger_13 rfl (hnl 3 (le_b rfl)) rfl ?_
  refine R_iconst (v := (0 : Int32)) hc dX4_dearestFinger_14 kI_0 ?_
  refine R_istore (i := 4) (v := (0 : Int32)) hc [(4, .int (0 : Int32)), (3, .int (1000 : Int32)), (2, .int (-1 : Int32)), (1, .int t3), (0, rf x.w (some l0))] dX4_dearestFinger_15 (hnl 4 (le_b rfl)) rfl ?_
  refine R_sub hc [4, 3, 2, 1, 0] rfl ?_
  refine R_loop (P := fun (s : (Int32 × Int32 × Int32)) => Rn x 0 0 17 [(0, rf x.w (some l0)), (1, .int t3), (2, .int s.1), (3, .int s.2.1), (4, .int s.2.2)] [] h) (fun l2_14 => Rn x 0 0 71 [(2, .int l2_14)] [] h) hw (fun r hw => ?_) (fun X hX s hw => ?_)
  · revert r hw
    intro l2_14 hw
    show Rn x 0 0 71 [(2, .int l2_14)] [] h
    refine R_iload_n (q := 0) (i := 2) (v := l2_14) hc dX4_dearestFinger_71 rfl rfl ?_
    exact R_ireturnP hc hret rfl hQ hw dX4_dearestFinger_72
  · obtain ⟨l2_16, l3_17, l4_18⟩ := s
    show Rn x 0 0 17 [(0, rf x.w (some l0)), (1, .int t3), (2, .int l2_16), (3, .int l3_17), (4, .int l4_18)] [] h
    have hw : wpO (sX4_dearestFinger_L17 F l0 t3 l2_16 l3_17 l4_18 h) _ := hw
    unfold sX4_dearestFinger_L17 at hw
    refine R_iload (q := 4) (i := 4) (v := l4_18) hc dX4_dearestFinger_17 rfl ?_
    refine R_aload_n (q := 0) (i := 0) (v := (some l0)) hc dX4_dearestFinger_19 rfl rfl ?_
    refine R_getR hc fl_4_12 dX4_dearestFinger_20 hw (fun t4 hw => ?_)
    refine R_getI hc fl_4_57 dX4_dearestFinger_23 hw (fun t5 hw => ?_)
    refine R_icmp_ge (tgt := 71) hc dX4_dearestFinger_26 (by decide) hw (fun hw => ?_) (fun hw => ?_)
    · refine R_sub hc [2] rfl ?_
      exact (wpO_some hw :)
    · refine R_aload_n (q := 0) (i := 0) (v := (some l0)) hc dX4_dearestFinger_29 rfl rfl ?_
      refine R_getR hc fl_4_21 dX4_dearestFinger_30 hw (fun t6 hw => ?_)
      refine R_getR hc fl_4_125 dX4_dearestFinger_33 hw (fun t7 hw => ?_)
      refine R_iload_n (q := 1) (i := 1) (v := t3) hc dX4_dearestFinger_36 rfl rfl ?_
      refine R_iload (q := 4) (i := 4) (v := l4_18) hc dX4_dearestFinger_37 rfl ?_
      refine R_cNI (As := [.int t3, .int l4_18]) (rest := [rf x.w t7]) hc mn_4_82 mf_X10_without ⟨rfl, rfl⟩ ⟨le_b rfl, le_b rfl⟩ ⟨Nat.zero_le _, Nat.zero_le _⟩ (fun v e => mt_X10_without e) rfl rfl (by simp [rf_cat, cat_i, cat_l, cat_a]) dX4_dearestFinger_39 hw (fun t8 hw => ?_)
      refine R_iaload hc dX4_dearestFinger_42 hw (fun t9 hw => ?_)
      refine R_iload_n (q := 3) (i := 3) (v := l3_17) hc dX4_dearestFinger_43 rfl rfl ?_
      refine R_icmp_ge (tgt := 65) hc dX4_dearestFinger_44 (by decide) hw (fun hw => ?_) (fun hw => ?_)
      · refine R_iinc (q := 4) (i := 4) (v := l4_18) hc [(4, .int (l4_18 + (1 : Int32))), (0, rf x.w (some l0)), (1, .int t3), (2, .int l2_16), (3, .int l3_17)] dX4_dearestFinger_65 rfl (kC_1 _) (hnl 4 (le_b rfl)) rfl ?_
        refine R_goto (tgt := 17) hc dX4_dearestFinger_68 (by decide) ?_
        refine R_sub hc [1, 2, 3, 4, 0] rfl ?_
        exact hX (l2_16, l3_17, l4_18 + (1 : Int32)) (wpO_some hw :)
      · refine R_iload (q := 4) (i := 4) (v := l4_18) hc dX4_dearestFinger_47 rfl ?_
        refine R_istore_n (i := 2) (v := l4_18) hc [(2, .int l4_18), (0, rf x.w (some l0)), (1, .int t3), (3, .int l3_17), (4, .int l4_18)] dX4_dearestFinger_49 rfl (hnl 2 (le_b rfl)) rfl ?_
        refine R_aload_n (q := 1) (i := 0) (v := (some l0)) hc dX4_dearestFinger_50 rfl rfl ?_
        refine R_getR hc fl_4_21 dX4_dearestFinger_51 hw (fun t10 hw => ?_)
        refine R_getR hc fl_4_125 dX4_dearestFinger_54 hw (fun t11 hw => ?_)
        refine R_iload_n (q := 2) (i := 1) (v := t3) hc dX4_dearestFinger_57 rfl rfl ?_
        refine R_iload (q := 4) (i := 4) (v := l4_18) hc dX4_dearestFinger_58 rfl ?_
        refine R_cNI (As := [.int t3, .int l4_18]) (rest := [rf x.w t11]) hc mn_4_82 mf_X10_without ⟨rfl, rfl⟩ ⟨le_b rfl, le_b rfl⟩ ⟨Nat.zero_le _, Nat.zero_le _⟩ (fun v e => mt_X10_without e) rfl rfl (by simp [rf_cat, cat_i, cat_l, cat_a]) dX4_dearestFinger_60 hw (fun t12 hw => ?_)
        refine R_iaload hc dX4_dearestFinger_63 hw (fun t13 hw => ?_)
        refine R_istore_n (i := 3) (v := t13) hc [(3, .int t13), (2, .int l4_18), (0, rf x.w (some l0)), (1, .int t3), (4, .int l4_18)] dX4_dearestFinger_64 rfl (hnl 3 (le_b rfl)) rfl ?_
        refine R_iinc (q := 4) (i := 4) (v := l4_18) hc [(4, .int (l4_18 + (1 : Int32))), (3, .int t13), (2, .int l4_18), (0, rf x.w (some l0)), (1, .int t3)] dX4_dearestFinger_65 rfl (kC_1 _) (hnl 4 (le_b rfl)) rfl ?_
        refine R_goto (tgt := 17) hc dX4_dearestFinger_68 (by decide) ?_
        refine R_sub hc [3, 4, 2, 1, 0] rfl ?_
        exact hX (l4_18, t13, l4_18 + (1 : Int32)) (wpO_some hw :)
theorem dX10_dearest_0 : decode cX10_dearest 0 = .ok (.aload_n 0, 1) := by decide +kernel
theorem dX10_dearest_1 : decode cX10_dearest 1 = .ok (.getfield 75, 3) := by decide +kernel
theorem dX10_dearest_4 : decode cX10_dearest 4 = .ok (.invokevirtual 337, 3) := by decide +kernel
theorem dX10_dearest_7 : decode cX10_dearest 7 = .ok (.ireturn, 1) := by decide +kernel
def sX10_dearest (F : Nat) (l0 : Nat) (h : HP) : Option Int32 :=
  (gR h 10 (some l0) 12).bind fun t1 =>
  (dO h 4 t1).bind fun a2 =>
  (sX4_dearestFinger F a2 h).bind fun t3 =>
  some t3
abbrev rm_X10_dearest : Room := { frames := 2, cells := 0, slots := 0, locals := 45 }
set_option maxRecDepth 100000 in
set_option maxHeartbeats 4000000 in
theorem mt_X10_dearest {w : WD} {l : Launch} {F : Nat} {l0 : Nat} {h : HP} {v : Int32} (hs : sX10_dearest F l0 h = some v) : MI w l yX10_dearest cX10_dearest 1 .int rm_X10_dearest 0 0 [rf w (some l0)] h v h := by
  refine of_body [(0, rf w (some l0))] (by decide) (by simp [lg_sl, rf_cat, cat_i, cat_l, cat_a]) (by simp [lv_args, rf_cat, cat_i, cat_l, cat_a]) ?_
  intro x hw_ hnL_ hl_ hc hret hnm hQ
  subst hw_; subst hl_
  have hnl : ∀ i, i < 1 → i < x.nL := fun i h => by rw [hnL_]; exact h
  have hw : wpO (sX10_dearest F l0 h) (fun r => r = v) := ⟨_, hs, rfl⟩
  unfold sX10_dearest at hw
  refine R_aload_n (q := 0) (i := 0) (v := (some l0)) hc dX10_dearest_0 rfl rfl ?_
  refine R_getR hc fl_10_75 dX10_dearest_1 hw (fun t1 hw => ?_)
  refine R_cVI (As := []) (rest := []) (r := t1) (ci := 4) hc ml_10_337 mf_X4_dearestFinger rfl (by decide) ⟨rfl, rfl⟩ ⟨le_b rfl, le_b rfl⟩ ⟨Nat.zero_le _, Nat.zero_le _⟩ (fun a v e => mt_X4_dearestFinger e) rfl rfl (Nat.zero_le _) dX10_dearest_4 hw (fun t3 hw => ?_)
  exact R_ireturnP hc hret rfl hQ hw dX10_dearest_7
theorem dX1_areTied_0 : decode cX1_areTied 0 = .ok (.iconst 0, 1) := by decide +kernel
theorem dX1_areTied_1 : decode cX1_areTied 1 = .ok (.istore_n 3, 1) := by decide +kernel
theorem dX1_areTied_2 : decode cX1_areTied 2 = .ok (.iload_n 3, 1) := by decide +kernel
theorem dX1_areTied_3 : decode cX1_areTied 3 = .ok (.iconst 4, 1) := by decide +kernel
theorem dX1_areTied_4 : decode cX1_areTied 4 = .ok (.if_icmp .ge 30, 3) := by decide +kernel
theorem dX1_areTied_7 : decode cX1_areTied 7 = .ok (.aload_n 0, 1) := by decide +kernel
theorem dX1_areTied_8 : decode cX1_areTied 8 = .ok (.iload_n 1, 1) := by decide +kernel
theorem dX1_areTied_9 : decode cX1_areTied 9 = .ok (.iconst 4, 1) := by decide +kernel
theorem dX1_areTied_10 : decode cX1_areTied 10 = .ok (.imul, 1) := by decide +kernel
theorem dX1_areTied_11 : decode cX1_areTied 11 = .ok (.iload_n 3, 1) := by decide +kernel
theorem dX1_areTied_12 : decode cX1_areTied 12 = .ok (.iadd, 1) := by decide +kernel
theorem dX1_areTied_13 : decode cX1_areTied 13 = .ok (.invokevirtual 57, 3) := by decide +kernel
theorem dX1_areTied_16 : decode cX1_areTied 16 = .ok (.iload_n 2, 1) := by decide +kernel
theorem dX1_areTied_17 : decode cX1_areTied 17 = .ok (.iconst 4, 1) := by decide +kernel
theorem dX1_areTied_18 : decode cX1_areTied 18 = .ok (.imul, 1) := by decide +kernel
theorem dX1_areTied_19 : decode cX1_areTied 19 = .ok (.iushr, 1) := by decide +kernel
theorem dX1_areTied_20 : decode cX1_areTied 20 = .ok (.bipush 15, 2) := by decide +kernel
theorem dX1_areTied_22 : decode cX1_areTied 22 = .ok (.iand, 1) := by decide +kernel
theorem dX1_areTied_23 : decode cX1_areTied 23 = .ok (.ifCond .eq 5, 3) := by decide +kernel
theorem dX1_areTied_26 : decode cX1_areTied 26 = .ok (.iconst 1, 1) := by decide +kernel
theorem dX1_areTied_27 : decode cX1_areTied 27 = .ok (.ireturn, 1) := by decide +kernel
theorem dX1_areTied_28 : decode cX1_areTied 28 = .ok (.iinc 3 1, 3) := by decide +kernel
theorem dX1_areTied_31 : decode cX1_areTied 31 = .ok (.goto (-29), 3) := by decide +kernel
theorem dX1_areTied_34 : decode cX1_areTied 34 = .ok (.iconst 0, 1) := by decide +kernel
theorem dX1_areTied_35 : decode cX1_areTied 35 = .ok (.ireturn, 1) := by decide +kernel
def sX1_areTied_L2 (F : Nat) (l0 : Nat) (l1 : Int32) (l2 : Int32) (l3 : Int32) (h : HP) : Option (Int32 ⊕ (Unit ⊕ Int32)) :=
  if (4 : Int32) ≤ l3 then
    some (.inr (.inl ()))
  else
    (dO h 1 (some l0)).bind fun a1 =>
    (sX1_joining F a1 ((l1 * (4 : Int32)) + l3) h).bind fun t2 =>
    if ((jush t2 (l2 * (4 : Int32))) &&& (15 : Int32)) = 0 then
      some (.inl (l3 + (1 : Int32)))
    else
      some (.inr (.inr (1 : Int32)))
def sX1_areTied (F : Nat) (l0 : Nat) (l1 : Int32) (l2 : Int32) (h : HP) : Option Int32 :=
  (iter (fun s => sX1_areTied_L2 F l0 l1 l2 s h) F (0 : Int32)).bind fun r => match r with
  | .inl _ =>
    some (0 : Int32)
  | .inr u3 => some u3
abbrev rm_X1_areTied : Room := { frames := 1, cells := 0, slots := 0, locals := 21 }
set_option maxRecDepth 100000 in
set_option maxHeartbeats 4000000 in
theorem mt_X1_areTied {w : WD} {l : Launch} {F : Nat} {l0 : Nat} {l1 : Int32} {l2 : Int32} {h : HP} {v : Int32} (hs : sX1_areTied F l0 l1 l2 h = some v) : MI w l yX1_areTied cX1_areTied 4 .boolean rm_X1_areTied 0 0 [rf w (some l0), .int l1, .int l2] h v h := by
  refine of_body [(0, rf w (some l0)), (1, .int l1), (2, .int l2)] (by decide) (by simp [lg_sl, rf_cat, cat_i, cat_l, cat_a]) (by simp [lv_args, rf_cat, cat_i, cat_l, cat_a]) ?_
  intro x hw_ hnL_ hl_ hc hret hnm hQ
  subst hw_; subst hl_
  have hnl : ∀ i, i < 4 → i < x.nL := fun i h => by rw [hnL_]; exact h
  have hw : wpO (sX1_areTied F l0 l1 l2 h) (fun r => r = v) := ⟨_, hs, rfl⟩
  unfold sX1_areTied at hw
  refine R_iconst (v := (0 : Int32)) hc dX1_areTied_0 kI_0 ?_
  refine R_istore_n (i := 3) (v := (0 : Int32)) hc [(3, .int (0 : Int32)), (0, rf x.w (some l0)), (1, .int l1), (2, .int l2)] dX1_areTied_1 rfl (hnl 3 (le_b rfl)) rfl ?_
  refine R_sub hc [1, 2, 3, 0] rfl ?_
  refine R_loop (P := fun (s : Int32) => Rn x 0 0 2 [(0, rf x.w (some l0)), (1, .int l1), (2, .int l2), (3, .int s)] [] h) (fun r => match r with | .inl _ => Rn x 0 0 34 [] [] h | .inr u => u = v) hw (fun r hw => ?_) (fun X hX s hw => ?_)
  · cases r with
    | inl r =>
      revert hw
      intro hw
      show Rn x 0 0 34 [] [] h
      have hw : wpO (_) _ := hw
      refine R_iconst (v := (0 : Int32)) hc dX1_areTied_34 kI_0 ?_
      exact R_ireturnP hc hret rfl hQ hw dX1_areTied_35
    | inr u => exact (wpO_some hw :)
  · revert s hw
    intro l3_4 hw
    show Rn x 0 0 2 [(0, rf x.w (some l0)), (1, .int l1), (2, .int l2), (3, .int l3_4)] [] h
    have hw : wpO (sX1_areTied_L2 F l0 l1 l2 l3_4 h) _ := hw
    unfold sX1_areTied_L2 at hw
    refine R_iload_n (q := 3) (i := 3) (v := l3_4) hc dX1_areTied_2 rfl rfl ?_
    refine R_iconst (v := (4 : Int32)) hc dX1_areTied_3 kI_4 ?_
    refine R_icmp_ge (tgt := 34) hc dX1_areTied_4 (by decide) hw (fun hw => ?_) (fun hw => ?_)
    · refine R_sub hc [] rfl ?_
      exact (wpO_some hw :)
    · refine R_aload_n (q := 0) (i := 0) (v := (some l0)) hc dX1_areTied_7 rfl rfl ?_
      refine R_iload_n (q := 1) (i := 1) (v := l1) hc dX1_areTied_8 rfl rfl ?_
      refine R_iconst (v := (4 : Int32)) hc dX1_areTied_9 kI_4 ?_
      refine R_imul hc dX1_areTied_10 ?_
      refine R_iload_n (q := 3) (i := 3) (v := l3_4) hc dX1_areTied_11 rfl rfl ?_
      refine R_iadd hc dX1_areTied_12 ?_
      refine R_cVI (As := [.int ((l1 * (4 : Int32)) + l3_4)]) (rest := []) (r := (some l0)) (ci := 1) hc ml_1_57 mf_X1_joining rfl (by decide) ⟨rfl, rfl⟩ ⟨le_b rfl, le_b rfl⟩ ⟨Nat.zero_le _, Nat.zero_le _⟩ (fun a v e => mt_X1_joining e) rfl rfl (Nat.zero_le _) dX1_areTied_13 hw (fun t2 hw => ?_)
      refine R_iload_n (q := 2) (i := 2) (v := l2) hc dX1_areTied_16 rfl rfl ?_
      refine R_iconst (v := (4 : Int32)) hc dX1_areTied_17 kI_4 ?_
      refine R_imul hc dX1_areTied_18 ?_
      refine R_iushr hc dX1_areTied_19 ?_
      refine R_bipush (v := (15 : Int32)) hc dX1_areTied_20 kB_15 ?_
      refine R_iand hc dX1_areTied_22 ?_
      refine R_if_eq (tgt := 28) hc dX1_areTied_23 (by decide) hw (fun hw => ?_) (fun hw => ?_)
      · refine R_iinc (q := 3) (i := 3) (v := l3_4) hc [(3, .int (l3_4 + (1 : Int32))), (0, rf x.w (some l0)), (1, .int l1), (2, .int l2)] dX1_areTied_28 rfl (kC_1 _) (hnl 3 (le_b rfl)) rfl ?_
        refine R_goto (tgt := 2) hc dX1_areTied_31 (by decide) ?_
        refine R_sub hc [1, 2, 3, 0] rfl ?_
        exact hX (l3_4 + (1 : Int32)) (wpO_some hw :)
      · refine R_iconst (v := (1 : Int32)) hc dX1_areTied_26 kI_1 ?_
        exact R_ireturnP hc hret rfl hQ ⟨_, rfl, (wpO_some hw :)⟩ dX1_areTied_27
