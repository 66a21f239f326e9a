theorem dX11_laysOut_0 : decode cX11_laysOut 0 = .ok (.aload_n 0, 1) := by decide +kernel
theorem dX11_laysOut_1 : decode cX11_laysOut 1 = .ok (.invokevirtual 208, 3) := by decide +kernel
theorem dX11_laysOut_4 : decode cX11_laysOut 4 = .ok (.aload_n 0, 1) := by decide +kernel
theorem dX11_laysOut_5 : decode cX11_laysOut 5 = .ok (.invokevirtual 211, 3) := by decide +kernel
theorem dX11_laysOut_8 : decode cX11_laysOut 8 = .ok (.iconst 0, 1) := by decide +kernel
theorem dX11_laysOut_9 : decode cX11_laysOut 9 = .ok (.istore_n 1, 1) := by decide +kernel
theorem dX11_laysOut_10 : decode cX11_laysOut 10 = .ok (.iload_n 1, 1) := by decide +kernel
theorem dX11_laysOut_11 : decode cX11_laysOut 11 = .ok (.bipush 12, 2) := by decide +kernel
theorem dX11_laysOut_13 : decode cX11_laysOut 13 = .ok (.if_icmp .ge 14, 3) := by decide +kernel
theorem dX11_laysOut_16 : decode cX11_laysOut 16 = .ok (.aload_n 0, 1) := by decide +kernel
theorem dX11_laysOut_17 : decode cX11_laysOut 17 = .ok (.iload_n 1, 1) := by decide +kernel
theorem dX11_laysOut_18 : decode cX11_laysOut 18 = .ok (.invokevirtual 214, 3) := by decide +kernel
theorem dX11_laysOut_21 : decode cX11_laysOut 21 = .ok (.iinc 1 1, 3) := by decide +kernel
theorem dX11_laysOut_24 : decode cX11_laysOut 24 = .ok (.goto (-14), 3) := by decide +kernel
theorem dX11_laysOut_27 : decode cX11_laysOut 27 = .ok (.aload_n 0, 1) := by decide +kernel
theorem dX11_laysOut_28 : decode cX11_laysOut 28 = .ok (.invokevirtual 217, 3) := by decide +kernel
theorem dX11_laysOut_31 : decode cX11_laysOut 31 = .ok (.return_, 1) := by decide +kernel
def sX11_laysOut_L10 (F : Nat) (l0 : Nat) (l1 : Int32) (h : HP) : Option ((Int32 × HP) ⊕ HP) :=
  if (12 : Int32) ≤ l1 then
    some (.inr h)
  else
    (dO h 11 (some l0)).bind fun a5 =>
    (sX11_laysWire F a5 l1 h).bind fun h6 =>
    some (.inl (l1 + (1 : Int32), h6))
def sX11_laysOut (F : Nat) (l0 : Nat) (h : HP) : Option HP :=
  (dO h 11 (some l0)).bind fun a1 =>
  (sX11_laysColumns F a1 h).bind fun h2 =>
  (dO h2 11 (some l0)).bind fun a3 =>
  (sX11_laysPins F a3 h2).bind fun h4 =>
  (iter (fun s => sX11_laysOut_L10 F l0 s.1 s.2) F ((0 : Int32), h4)).bind fun h7 =>
    (dO h7 11 (some l0)).bind fun a8 =>
    (sX11_laysTracks F a8 h7).bind fun h9 =>
    some h9
abbrev rm_X11_laysOut : Room := { frames := 6, cells := 0, slots := 0, locals := 141 }
set_option maxRecDepth 100000 in
set_option maxHeartbeats 4000000 in
theorem mt_X11_laysOut {w : WD} {l : Launch} {F : Nat} {l0 : Nat} {h : HP} {h' : HP} (hs : sX11_laysOut F l0 h = some h') : MV w l yX11_laysOut cX11_laysOut 2 rm_X11_laysOut 0 0 [rf w (some l0)] h h' := by
  refine of_body [(0, rf w (some l0))] (by decide) (by simp [lg_sl, rf_cat, cat_i, cat_l, cat_a]) (by simp [lv_args, rf_cat, cat_i, cat_l, cat_a]) ?_
  intro x hw_ hnL_ hl_ hc hret hnm hQ
  subst hw_; subst hl_
  have hnl : ∀ i, i < 2 → i < x.nL := fun i h => by rw [hnL_]; exact h
  have hw : wpO (sX11_laysOut F l0 h) (fun r => r = h') := ⟨_, hs, rfl⟩
  unfold sX11_laysOut at hw
  refine R_aload_n (q := 0) (i := 0) (v := (some l0)) hc dX11_laysOut_0 rfl rfl ?_
  refine R_cVVi (As := []) (rest := []) (r := (some l0)) (ci := 11) hc ml_11_208 mf_X11_laysColumns rfl (by decide) ⟨rfl, rfl⟩ ⟨le_b rfl, le_b rfl⟩ ⟨Nat.zero_le _, Nat.zero_le _⟩ (fun a h' e => mt_X11_laysColumns e) rfl rfl (Nat.zero_le _) dX11_laysOut_1 hw (fun h2 hw => ?_)
  refine R_aload_n (q := 0) (i := 0) (v := (some l0)) hc dX11_laysOut_4 rfl rfl ?_
  refine R_cVVi (As := []) (rest := []) (r := (some l0)) (ci := 11) hc ml_11_211 mf_X11_laysPins rfl (by decide) ⟨rfl, rfl⟩ ⟨le_b rfl, le_b rfl⟩ ⟨Nat.zero_le _, Nat.zero_le _⟩ (fun a h' e => mt_X11_laysPins e) rfl rfl (Nat.zero_le _) dX11_laysOut_5 hw (fun h4 hw => ?_)
  refine R_iconst (v := (0 : Int32)) hc dX11_laysOut_8 kI_0 ?_
  refine R_istore_n (i := 1) (v := (0 : Int32)) hc [(1, .int (0 : Int32)), (0, rf x.w (some l0))] dX11_laysOut_9 rfl (hnl 1 (le_b rfl)) rfl ?_
  refine R_sub hc [1, 0] rfl ?_
  refine R_loop (P := fun (s : (Int32 × HP)) => Rn x 0 0 10 [(0, rf x.w (some l0)), (1, .int s.1)] [] s.2) (fun h7 => Rn x 0 0 27 [(0, rf x.w (some l0))] [] h7) hw (fun r hw => ?_) (fun X hX s hw => ?_)
  · revert r hw
    intro h7 hw
    show Rn x 0 0 27 [(0, rf x.w (some l0))] [] h7
    refine R_aload_n (q := 0) (i := 0) (v := (some l0)) hc dX11_laysOut_27 rfl rfl ?_
    refine R_cVVi (As := []) (rest := []) (r := (some l0)) (ci := 11) hc ml_11_217 mf_X11_laysTracks rfl (by decide) ⟨rfl, rfl⟩ ⟨le_b rfl, le_b rfl⟩ ⟨Nat.zero_le _, Nat.zero_le _⟩ (fun a h' e => mt_X11_laysTracks e) rfl rfl (Nat.zero_le _) dX11_laysOut_28 hw (fun h9 hw => ?_)
    exact R_return hc hret hQ hw dX11_laysOut_31
  · obtain ⟨l1_11, h12⟩ := s
    show Rn x 0 0 10 [(0, rf x.w (some l0)), (1, .int l1_11)] [] h12
    have hw : wpO (sX11_laysOut_L10 F l0 l1_11 h12) _ := hw
    unfold sX11_laysOut_L10 at hw
    refine R_iload_n (q := 1) (i := 1) (v := l1_11) hc dX11_laysOut_10 rfl rfl ?_
    refine R_bipush (v := (12 : Int32)) hc dX11_laysOut_11 kB_12 ?_
    refine R_icmp_ge (tgt := 27) hc dX11_laysOut_13 (by decide) hw (fun hw => ?_) (fun hw => ?_)
    · refine R_sub hc [0] rfl ?_
      exact (wpO_some hw :)
    · refine R_aload_n (q := 0) (i := 0) (v := (some l0)) hc dX11_laysOut_16 rfl rfl ?_
      refine R_iload_n (q := 1) (i := 1) (v := l1_11) hc dX11_laysOut_17 rfl rfl ?_
      refine R_cVVi (As := [.int l1_11]) (rest := []) (r := (some l0)) (ci := 11) hc ml_11_214 mf_X11_laysWire rfl (by decide) ⟨rfl, rfl⟩ ⟨le_b rfl, le_b rfl⟩ ⟨Nat.zero_le _, Nat.zero_le _⟩ (fun a h' e => mt_X11_laysWire e) rfl rfl (Nat.zero_le _) dX11_laysOut_18 hw (fun h6 hw => ?_)
      refine R_iinc (q := 1) (i := 1) (v := l1_11) hc [(1, .int (l1_11 + (1 : Int32))), (0, rf x.w (some l0))] dX11_laysOut_21 rfl (kC_1 _) (hnl 1 (le_b rfl)) rfl ?_
      refine R_goto (tgt := 10) hc dX11_laysOut_24 (by decide) ?_
      refine R_sub hc [1, 0] rfl ?_
      exact hX (l1_11 + (1 : Int32), h6) (wpO_some hw :)
theorem dX11_cut_0 : decode cX11_cut 0 = .ok (.iconst 0, 1) := by decide +kernel
theorem dX11_cut_1 : decode cX11_cut 1 = .ok (.istore_n 2, 1) := by decide +kernel
theorem dX11_cut_2 : decode cX11_cut 2 = .ok (.iconst 0, 1) := by decide +kernel
theorem dX11_cut_3 : decode cX11_cut 3 = .ok (.istore_n 3, 1) := by decide +kernel
theorem dX11_cut_4 : decode cX11_cut 4 = .ok (.iload_n 3, 1) := by decide +kernel
theorem dX11_cut_5 : decode cX11_cut 5 = .ok (.bipush 12, 2) := by decide +kernel
theorem dX11_cut_7 : decode cX11_cut 7 = .ok (.if_icmp .ge 44, 3) := by decide +kernel
theorem dX11_cut_10 : decode cX11_cut 10 = .ok (.iload_n 2, 1) := by decide +kernel
theorem dX11_cut_11 : decode cX11_cut 11 = .ok (.aload_n 0, 1) := by decide +kernel
theorem dX11_cut_12 : decode cX11_cut 12 = .ok (.iload_n 3, 1) := by decide +kernel
theorem dX11_cut_13 : decode cX11_cut 13 = .ok (.invokevirtual 201, 3) := by decide +kernel
theorem dX11_cut_16 : decode cX11_cut 16 = .ok (.ifCond .eq 26, 3) := by decide +kernel
theorem dX11_cut_19 : decode cX11_cut 19 = .ok (.iload_n 1, 1) := by decide +kernel
theorem dX11_cut_20 : decode cX11_cut 20 = .ok (.aload_n 0, 1) := by decide +kernel
theorem dX11_cut_21 : decode cX11_cut 21 = .ok (.getfield 78, 3) := by decide +kernel
theorem dX11_cut_24 : decode cX11_cut 24 = .ok (.iload_n 3, 1) := by decide +kernel
theorem dX11_cut_25 : decode cX11_cut 25 = .ok (.iaload, 1) := by decide +kernel
theorem dX11_cut_26 : decode cX11_cut 26 = .ok (.aload_n 0, 1) := by decide +kernel
theorem dX11_cut_27 : decode cX11_cut 27 = .ok (.getfield 81, 3) := by decide +kernel
theorem dX11_cut_30 : decode cX11_cut 30 = .ok (.iload_n 3, 1) := by decide +kernel
theorem dX11_cut_31 : decode cX11_cut 31 = .ok (.iaload, 1) := by decide +kernel
theorem dX11_cut_32 : decode cX11_cut 32 = .ok (.invokestatic 107, 3) := by decide +kernel
theorem dX11_cut_35 : decode cX11_cut 35 = .ok (.ifCond .eq 7, 3) := by decide +kernel
theorem dX11_cut_38 : decode cX11_cut 38 = .ok (.iconst 1, 1) := by decide +kernel
theorem dX11_cut_39 : decode cX11_cut 39 = .ok (.goto 4, 3) := by decide +kernel
theorem dX11_cut_42 : decode cX11_cut 42 = .ok (.iconst 0, 1) := by decide +kernel
theorem dX11_cut_43 : decode cX11_cut 43 = .ok (.iadd, 1) := by decide +kernel
theorem dX11_cut_44 : decode cX11_cut 44 = .ok (.istore_n 2, 1) := by decide +kernel
theorem dX11_cut_45 : decode cX11_cut 45 = .ok (.iinc 3 1, 3) := by decide +kernel
theorem dX11_cut_48 : decode cX11_cut 48 = .ok (.goto (-44), 3) := by decide +kernel
theorem dX11_cut_51 : decode cX11_cut 51 = .ok (.iload_n 2, 1) := by decide +kernel
theorem dX11_cut_52 : decode cX11_cut 52 = .ok (.ireturn, 1) := by decide +kernel
def sX11_cut_L4 (F : Nat) (l0 : Nat) (l1 : Int32) (l2 : Int32) (l3 : Int32) (h : HP) : Option ((Int32 × Int32) ⊕ Int32) :=
  if (12 : Int32) ≤ l3 then
    some (.inr l2)
  else
    (dO h 11 (some l0)).bind fun a1 =>
    (sX11_hasWire F a1 l3 h).bind fun t2 =>
    if t2 = 0 then
      nmI (l2 + (0 : Int32)) fun l2_3 =>
      some (.inl (l2_3, l3 + (1 : Int32)))
    else
      (gR h 11 (some l0) 32).bind fun t4 =>
      (aI h 13 t4 l3).bind fun t5 =>
      (gR h 11 (some l0) 33).bind fun t6 =>
      (aI h 13 t6 l3).bind fun t7 =>
      (sX11_isIn F l1 t5 t7 h).bind fun t8 =>
      if t8 = 0 then
        nmI (l2 + (0 : Int32)) fun l2_9 =>
        some (.inl (l2_9, l3 + (1 : Int32)))
      else
        nmI (l2 + (1 : Int32)) fun l2_10 =>
        some (.inl (l2_10, l3 + (1 : Int32)))
def sX11_cut (F : Nat) (l0 : Nat) (l1 : Int32) (h : HP) : Option Int32 :=
  (iter (fun s => sX11_cut_L4 F l0 l1 s.1 s.2 h) F ((0 : Int32), (0 : Int32))).bind fun l2_11 =>
    some l2_11
abbrev rm_X11_cut : Room := { frames := 1, cells := 0, slots := 0, locals := 22 }
set_option maxRecDepth 100000 in
set_option maxHeartbeats 4000000 in
theorem mt_X11_cut {w : WD} {l : Launch} {F : Nat} {l0 : Nat} {l1 : Int32} {h : HP} {v : Int32} (hs : sX11_cut F l0 l1 h = some v) : MI w l yX11_cut cX11_cut 4 .int rm_X11_cut 0 0 [rf w (some l0), .int l1] h v h := by
  refine of_body [(0, rf w (some l0)), (1, .int l1)] (by decide) (by simp [lg_sl, rf_cat, cat_i, cat_l, cat_a]) (by simp [lv_args, rf_cat, cat_i, cat_l, cat_a]) ?_
  intro x hw_ hnL_ hl_ hc hret hnm hQ
  subst hw_; subst hl_
  have hnl : ∀ i, i < 4 → i < x.nL := fun i h => by rw [hnL_]; exact h
  have hw : wpO (sX11_cut F l0 l1 h) (fun r => r = v) := ⟨_, hs, rfl⟩
  unfold sX11_cut at hw
  refine R_iconst (v := (0 : Int32)) hc dX11_cut_0 kI_0 ?_
  refine R_istore_n (i := 2) (v := (0 : Int32)) hc [(2, .int (0 : Int32)), (0, rf x.w (some l0)), (1, .int l1)] dX11_cut_1 rfl (hnl 2 (le_b rfl)) rfl ?_
  refine R_iconst (v := (0 : Int32)) hc dX11_cut_2 kI_0 ?_
  refine R_istore_n (i := 3) (v := (0 : Int32)) hc [(3, .int (0 : Int32)), (2, .int (0 : Int32)), (0, rf x.w (some l0)), (1, .int l1)] dX11_cut_3 rfl (hnl 3 (le_b rfl)) rfl ?_
  refine R_sub hc [2, 3, 1, 0] rfl ?_
  refine R_loop (P := fun (s : (Int32 × Int32)) => Rn x 0 0 4 [(0, rf x.w (some l0)), (1, .int l1), (2, .int s.1), (3, .int s.2)] [] h) (fun l2_11 => Rn x 0 0 51 [(2, .int l2_11)] [] h) hw (fun r hw => ?_) (fun X hX s hw => ?_)
  · revert r hw
    intro l2_11 hw
    show Rn x 0 0 51 [(2, .int l2_11)] [] h
    refine R_iload_n (q := 0) (i := 2) (v := l2_11) hc dX11_cut_51 rfl rfl ?_
    exact R_ireturnP hc hret rfl hQ hw dX11_cut_52
  · obtain ⟨l2_13, l3_14⟩ := s
    show Rn x 0 0 4 [(0, rf x.w (some l0)), (1, .int l1), (2, .int l2_13), (3, .int l3_14)] [] h
    have hw : wpO (sX11_cut_L4 F l0 l1 l2_13 l3_14 h) _ := hw
    unfold sX11_cut_L4 at hw
    refine R_iload_n (q := 3) (i := 3) (v := l3_14) hc dX11_cut_4 rfl rfl ?_
    refine R_bipush (v := (12 : Int32)) hc dX11_cut_5 kB_12 ?_
    refine R_icmp_ge (tgt := 51) hc dX11_cut_7 (by decide) hw (fun hw => ?_) (fun hw => ?_)
    · refine R_sub hc [2] rfl ?_
      exact (wpO_some hw :)
    · refine R_iload_n (q := 2) (i := 2) (v := l2_13) hc dX11_cut_10 rfl rfl ?_
      refine R_aload_n (q := 0) (i := 0) (v := (some l0)) hc dX11_cut_11 rfl rfl ?_
      refine R_iload_n (q := 3) (i := 3) (v := l3_14) hc dX11_cut_12 rfl rfl ?_
      refine R_cVI (As := [.int l3_14]) (rest := [.int l2_13]) (r := (some l0)) (ci := 11) hc ml_11_201 mf_X11_hasWire rfl (by decide) ⟨rfl, rfl⟩ ⟨le_b rfl, le_b rfl⟩ ⟨Nat.zero_le _, Nat.zero_le _⟩ (fun a v e => mt_X11_hasWire e) rfl rfl (le_b rfl) dX11_cut_13 hw (fun t2 hw => ?_)
      refine R_if_eq (tgt := 42) hc dX11_cut_16 (by decide) hw (fun hw => ?_) (fun hw => ?_)
      · refine R_iconst (v := (0 : Int32)) hc dX11_cut_42 kI_0 ?_
        refine R_iadd hc dX11_cut_43 ?_
        refine R_nmI hw (fun l2_3 hw => ?_)
        refine R_istore_n (i := 2) (v := l2_3) hc [(2, .int l2_3), (0, rf x.w (some l0)), (1, .int l1), (3, .int l3_14)] dX11_cut_44 rfl (hnl 2 (le_b rfl)) rfl ?_
        refine R_iinc (q := 3) (i := 3) (v := l3_14) hc [(3, .int (l3_14 + (1 : Int32))), (2, .int l2_3), (0, rf x.w (some l0)), (1, .int l1)] dX11_cut_45 rfl (kC_1 _) (hnl 3 (le_b rfl)) rfl ?_
        refine R_goto (tgt := 4) hc dX11_cut_48 (by decide) ?_
        refine R_sub hc [2, 3, 1, 0] rfl ?_
        exact hX (l2_3, l3_14 + (1 : Int32)) (wpO_some hw :)
      · refine R_iload_n (q := 1) (i := 1) (v := l1) hc dX11_cut_19 rfl rfl ?_
        refine R_aload_n (q := 0) (i := 0) (v := (some l0)) hc dX11_cut_20 rfl rfl ?_
        refine R_getR hc fl_11_78 dX11_cut_21 hw (fun t4 hw => ?_)
        refine R_iload_n (q := 3) (i := 3) (v := l3_14) hc dX11_cut_24 rfl rfl ?_
        refine R_iaload hc dX11_cut_25 hw (fun t5 hw => ?_)
        refine R_aload_n (q := 0) (i := 0) (v := (some l0)) hc dX11_cut_26 rfl rfl ?_
        refine R_getR hc fl_11_81 dX11_cut_27 hw (fun t6 hw => ?_)
        refine R_iload_n (q := 3) (i := 3) (v := l3_14) hc dX11_cut_30 rfl rfl ?_
        refine R_iaload hc dX11_cut_31 hw (fun t7 hw => ?_)
        refine R_cSI (As := [.int l1, .int t5, .int t7]) (rest := [.int l2_13]) hc ml_11_107 mf_X11_isIn ⟨rfl, rfl⟩ ⟨le_b rfl, le_b rfl⟩ ⟨Nat.zero_le _, Nat.zero_le _⟩ (fun v e => mt_X11_isIn e) rfl rfl (le_b rfl) dX11_cut_32 hw (fun t8 hw => ?_)
        refine R_if_eq (tgt := 42) hc dX11_cut_35 (by decide) hw (fun hw => ?_) (fun hw => ?_)
        · refine R_iconst (v := (0 : Int32)) hc dX11_cut_42 kI_0 ?_
          refine R_iadd hc dX11_cut_43 ?_
          refine R_nmI hw (fun l2_9 hw => ?_)
          refine R_istore_n (i := 2) (v := l2_9) hc [(2, .int l2_9), (0, rf x.w (some l0)), (1, .int l1), (3, .int l3_14)] dX11_cut_44 rfl (hnl 2 (le_b rfl)) rfl ?_
          refine R_iinc (q := 3) (i := 3) (v := l3_14) hc [(3, .int (l3_14 + (1 : Int32))), (2, .int l2_9), (0, rf x.w (some l0)), (1, .int l1)] dX11_cut_45 rfl (kC_1 _) (hnl 3 (le_b rfl)) rfl ?_
          refine R_goto (tgt := 4) hc dX11_cut_48 (by decide) ?_
          refine R_sub hc [2, 3, 1, 0] rfl ?_
          exact hX (l2_9, l3_14 + (1 : Int32)) (wpO_some hw :)
        · refine R_iconst (v := (1 : Int32)) hc dX11_cut_38 kI_1 ?_
          refine R_goto (tgt := 43) hc dX11_cut_39 (by decide) ?_
          refine R_iadd hc dX11_cut_43 ?_
          refine R_nmI hw (fun l2_10 hw => ?_)
          refine R_istore_n (i := 2) (v := l2_10) hc [(2, .int l2_10), (0, rf x.w (some l0)), (1, .int l1), (3, .int l3_14)] dX11_cut_44 rfl (hnl 2 (le_b rfl)) rfl ?_
          refine R_iinc (q := 3) (i := 3) (v := l3_14) hc [(3, .int (l3_14 + (1 : Int32))), (2, .int l2_10), (0, rf x.w (some l0)), (1, .int l1)] dX11_cut_45 rfl (kC_1 _) (hnl 3 (le_b rfl)) rfl ?_
          refine R_goto (tgt := 4) hc dX11_cut_48 (by decide) ?_
          refine R_sub hc [2, 3, 1, 0] rfl ?_
          exact hX (l2_10, l3_14 + (1 : Int32)) (wpO_some hw :)
theorem dX11_worst_0 : decode cX11_worst 0 = .ok (.iconst (-1), 1) := by decide +kernel
theorem dX11_worst_1 : decode cX11_worst 1 = .ok (.istore_n 1, 1) := by decide +kernel
theorem dX11_worst_2 : decode cX11_worst 2 = .ok (.iconst 0, 1) := by decide +kernel
theorem dX11_worst_3 : decode cX11_worst 3 = .ok (.istore_n 2, 1) := by decide +kernel
theorem dX11_worst_4 : decode cX11_worst 4 = .ok (.iconst 0, 1) := by decide +kernel
theorem dX11_worst_5 : decode cX11_worst 5 = .ok (.istore_n 3, 1) := by decide +kernel
theorem dX11_worst_6 : decode cX11_worst 6 = .ok (.iload_n 3, 1) := by decide +kernel
theorem dX11_worst_7 : decode cX11_worst 7 = .ok (.aload_n 0, 1) := by decide +kernel
theorem dX11_worst_8 : decode cX11_worst 8 = .ok (.getfield 166, 3) := by decide +kernel
theorem dX11_worst_11 : decode cX11_worst 11 = .ok (.if_icmp .ge 29, 3) := by decide +kernel
theorem dX11_worst_14 : decode cX11_worst 14 = .ok (.aload_n 0, 1) := by decide +kernel
theorem dX11_worst_15 : decode cX11_worst 15 = .ok (.iload_n 3, 1) := by decide +kernel
theorem dX11_worst_16 : decode cX11_worst 16 = .ok (.invokevirtual 220, 3) := by decide +kernel
theorem dX11_worst_19 : decode cX11_worst 19 = .ok (.iload_n 2, 1) := by decide +kernel
theorem dX11_worst_20 : decode cX11_worst 20 = .ok (.if_icmp .gt 6, 3) := by decide +kernel
theorem dX11_worst_23 : decode cX11_worst 23 = .ok (.goto 11, 3) := by decide +kernel
theorem dX11_worst_26 : decode cX11_worst 26 = .ok (.iload_n 3, 1) := by decide +kernel
theorem dX11_worst_27 : decode cX11_worst 27 = .ok (.istore_n 1, 1) := by decide +kernel
theorem dX11_worst_28 : decode cX11_worst 28 = .ok (.aload_n 0, 1) := by decide +kernel
theorem dX11_worst_29 : decode cX11_worst 29 = .ok (.iload_n 3, 1) := by decide +kernel
theorem dX11_worst_30 : decode cX11_worst 30 = .ok (.invokevirtual 220, 3) := by decide +kernel
theorem dX11_worst_33 : decode cX11_worst 33 = .ok (.istore_n 2, 1) := by decide +kernel
theorem dX11_worst_34 : decode cX11_worst 34 = .ok (.iinc 3 1, 3) := by decide +kernel
theorem dX11_worst_37 : decode cX11_worst 37 = .ok (.goto (-31), 3) := by decide +kernel
theorem dX11_worst_40 : decode cX11_worst 40 = .ok (.iload_n 1, 1) := by decide +kernel
theorem dX11_worst_41 : decode cX11_worst 41 = .ok (.ireturn, 1) := by decide +kernel
def sX11_worst_L6 (F : Nat) (l0 : Nat) (l1 : Int32) (l2 : Int32) (l3 : Int32) (h : HP) : Option ((Int32 × Int32 × Int32) ⊕ Int32) :=
  (gI h 11 (some l0) 27).bind fun t1 =>
  if t1 ≤ l3 then
    some (.inr l1)
  else
    (dO h 11 (some l0)).bind fun a2 =>
    (sX11_cut F a2 l3 h).bind fun t3 =>
    if l2 < t3 then
      (dO h 11 (some l0)).bind fun a4 =>
      (sX11_cut F a4 l3 h).bind fun t5 =>
      some (.inl (l3, t5, l3 + (1 : Int32)))
    else
      some (.inl (l1, l2, l3 + (1 : Int32)))
def sX11_worst (F : Nat) (l0 : Nat) (h : HP) : Option Int32 :=
  (iter (fun s => sX11_worst_L6 F l0 s.1 s.2.1 s.2.2 h) F ((-1 : Int32), (0 : Int32), (0 : Int32))).bind fun l1_6 =>
    some l1_6
abbrev rm_X11_worst : Room := { frames := 2, cells := 0, slots := 0, locals := 45 }
set_option maxRecDepth 100000 in
set_option maxHeartbeats 4000000 in
theorem mt_X11_worst {w : WD} {l : Launch} {F : Nat} {l0 : Nat} {h : HP} {v : Int32} (hs : sX11_worst F l0 h = some v) : MI w l yX11_worst cX11_worst 4 .int rm_X11_worst 0 0 [rf w (some l0)] h v h := by
  refine of_body [(0, rf w (some l0))] (by decide) (by simp [lg_sl, rf_cat, cat_i, cat_l, cat_a]) (by simp [lv_args, rf_cat, cat_i, cat_l, cat_a]) ?_
  intro x hw_ hnL_ hl_ hc hret hnm hQ
  subst hw_; subst hl_
  have hnl : ∀ i, i < 4 → i < x.nL := fun i h => by rw [hnL_]; exact h
  have hw : wpO (sX11_worst F l0 h) (fun r => r = v) := ⟨_, hs, rfl⟩
  unfold sX11_worst at hw
  refine R_iconst (v := (-1 : Int32)) hc dX11_worst_0 kI_m1 ?_
  refine R_istore_n (i := 1) (v := (-1 : Int32)) hc [(1, .int (-1 : Int32)), (0, rf x.w (some l0))] dX11_worst_1 rfl (hnl 1 (le_b rfl)) rfl ?_
  refine R_iconst (v := (0 : Int32)) hc dX11_worst_2 kI_0 ?_
  refine R_istore_n (i := 2) (v := (0 : Int32)) hc [(2, .int (0 : Int32)), (1, .int (-1 : Int32)), (0, rf x.w (some l0))] dX11_worst_3 rfl (hnl 2 (le_b rfl)) rfl ?_
  refine R_iconst (v := (0 : Int32)) hc dX11_worst_4 kI_0 ?_
  refine R_istore_n (i := 3) (v := (0 : Int32)) hc [(3, .int (0 : Int32)), (2, .int (0 : Int32)), (1, .int (-1 : Int32)), (0, rf x.w (some l0))] dX11_worst_5 rfl (hnl 3 (le_b rfl)) rfl ?_
  refine R_sub hc [3, 2, 1, 0] rfl ?_
  refine R_loop (P := fun (s : (Int32 × Int32 × Int32)) => Rn x 0 0 6 [(0, rf x.w (some l0)), (1, .int s.1), (2, .int s.2.1), (3, .int s.2.2)] [] h) (fun l1_6 => Rn x 0 0 40 [(1, .int l1_6)] [] h) hw (fun r hw => ?_) (fun X hX s hw => ?_)
  · revert r hw
    intro l1_6 hw
    show Rn x 0 0 40 [(1, .int l1_6)] [] h
    refine R_iload_n (q := 0) (i := 1) (v := l1_6) hc dX11_worst_40 rfl rfl ?_
    exact R_ireturnP hc hret rfl hQ hw dX11_worst_41
  · obtain ⟨l1_8, l2_9, l3_10⟩ := s
    show Rn x 0 0 6 [(0, rf x.w (some l0)), (1, .int l1_8), (2, .int l2_9), (3, .int l3_10)] [] h
    have hw : wpO (sX11_worst_L6 F l0 l1_8 l2_9 l3_10 h) _ := hw
    unfold sX11_worst_L6 at hw
    refine R_iload_n (q := 3) (i := 3) (v := l3_10) hc dX11_worst_6 rfl rfl ?_
    refine R_aload_n (q := 0) (i := 0) (v := (some l0)) hc dX11_worst_7 rfl rfl ?_
    refine R_getI hc fl_11_166 dX11_worst_8 hw (fun t1 hw => ?_)
    refine R_icmp_ge (tgt := 40) hc dX11_worst_11 (by decide) hw (fun hw => ?_) (fun hw => ?_)
    · refine R_sub hc [1] rfl ?_
      exact (wpO_some hw :)
    · refine R_aload_n (q := 0) (i := 0) (v := (some l0)) hc dX11_worst_14 rfl rfl ?_
      refine R_iload_n (q := 3) (i := 3) (v := l3_10) hc dX11_worst_15 rfl rfl ?_
      refine R_cVI (As := [.int l3_10]) (rest := []) (r := (some l0)) (ci := 11) hc ml_11_220 mf_X11_cut rfl (by decide) ⟨rfl, rfl⟩ ⟨le_b rfl, le_b rfl⟩ ⟨Nat.zero_le _, Nat.zero_le _⟩ (fun a v e => mt_X11_cut e) rfl rfl (Nat.zero_le _) dX11_worst_16 hw (fun t3 hw => ?_)
      refine R_iload_n (q := 2) (i := 2) (v := l2_9) hc dX11_worst_19 rfl rfl ?_
      refine R_icmp_gt (tgt := 26) hc dX11_worst_20 (by decide) hw (fun hw => ?_) (fun hw => ?_)
      · refine R_iload_n (q := 3) (i := 3) (v := l3_10) hc dX11_worst_26 rfl rfl ?_
        refine R_istore_n (i := 1) (v := l3_10) hc [(1, .int l3_10), (0, rf x.w (some l0)), (2, .int l2_9), (3, .int l3_10)] dX11_worst_27 rfl (hnl 1 (le_b rfl)) rfl ?_
        refine R_aload_n (q := 1) (i := 0) (v := (some l0)) hc dX11_worst_28 rfl rfl ?_
        refine R_iload_n (q := 3) (i := 3) (v := l3_10) hc dX11_worst_29 rfl rfl ?_
        refine R_cVI (As := [.int l3_10]) (rest := []) (r := (some l0)) (ci := 11) hc ml_11_220 mf_X11_cut rfl (by decide) ⟨rfl, rfl⟩ ⟨le_b rfl, le_b rfl⟩ ⟨Nat.zero_le _, Nat.zero_le _⟩ (fun a v e => mt_X11_cut e) rfl rfl (Nat.zero_le _) dX11_worst_30 hw (fun t5 hw => ?_)
        refine R_istore_n (i := 2) (v := t5) hc [(2, .int t5), (1, .int l3_10), (0, rf x.w (some l0)), (3, .int l3_10)] dX11_worst_33 rfl (hnl 2 (le_b rfl)) rfl ?_
        refine R_iinc (q := 3) (i := 3) (v := l3_10) hc [(3, .int (l3_10 + (1 : Int32))), (2, .int t5), (1, .int l3_10), (0, rf x.w (some l0))] dX11_worst_34 rfl (kC_1 _) (hnl 3 (le_b rfl)) rfl ?_
        refine R_goto (tgt := 6) hc dX11_worst_37 (by decide) ?_
        refine R_sub hc [3, 2, 1, 0] rfl ?_
        exact hX (l3_10, t5, l3_10 + (1 : Int32)) (wpO_some hw :)
      · refine R_goto (tgt := 34) hc dX11_worst_23 (by decide) ?_
        refine R_iinc (q := 3) (i := 3) (v := l3_10) hc [(3, .int (l3_10 + (1 : Int32))), (0, rf x.w (some l0)), (1, .int l1_8), (2, .int l2_9)] dX11_worst_34 rfl (kC_1 _) (hnl 3 (le_b rfl)) rfl ?_
        refine R_goto (tgt := 6) hc dX11_worst_37 (by decide) ?_
        refine R_sub hc [1, 2, 3, 0] rfl ?_
        exact hX (l1_8, l2_9, l3_10 + (1 : Int32)) (wpO_some hw :)
theorem dX11_wires_0 : decode cX11_wires 0 = .ok (.iconst 0, 1) := by decide +kernel
theorem dX11_wires_1 : decode cX11_wires 1 = .ok (.istore_n 1, 1) := by decide +kernel
theorem dX11_wires_2 : decode cX11_wires 2 = .ok (.iconst 0, 1) := by decide +kernel
theorem dX11_wires_3 : decode cX11_wires 3 = .ok (.istore_n 2, 1) := by decide +kernel
theorem dX11_wires_4 : decode cX11_wires 4 = .ok (.iload_n 2, 1) := by decide +kernel
theorem dX11_wires_5 : decode cX11_wires 5 = .ok (.bipush 12, 2) := by decide +kernel
theorem dX11_wires_7 : decode cX11_wires 7 = .ok (.if_icmp .ge 25, 3) := by decide +kernel
theorem dX11_wires_10 : decode cX11_wires 10 = .ok (.iload_n 1, 1) := by decide +kernel
theorem dX11_wires_11 : decode cX11_wires 11 = .ok (.aload_n 0, 1) := by decide +kernel
theorem dX11_wires_12 : decode cX11_wires 12 = .ok (.iload_n 2, 1) := by decide +kernel
theorem dX11_wires_13 : decode cX11_wires 13 = .ok (.invokevirtual 201, 3) := by decide +kernel
theorem dX11_wires_16 : decode cX11_wires 16 = .ok (.ifCond .eq 7, 3) := by decide +kernel
theorem dX11_wires_19 : decode cX11_wires 19 = .ok (.iconst 1, 1) := by decide +kernel
theorem dX11_wires_20 : decode cX11_wires 20 = .ok (.goto 4, 3) := by decide +kernel
theorem dX11_wires_23 : decode cX11_wires 23 = .ok (.iconst 0, 1) := by decide +kernel
theorem dX11_wires_24 : decode cX11_wires 24 = .ok (.iadd, 1) := by decide +kernel
theorem dX11_wires_25 : decode cX11_wires 25 = .ok (.istore_n 1, 1) := by decide +kernel
theorem dX11_wires_26 : decode cX11_wires 26 = .ok (.iinc 2 1, 3) := by decide +kernel
theorem dX11_wires_29 : decode cX11_wires 29 = .ok (.goto (-25), 3) := by decide +kernel
theorem dX11_wires_32 : decode cX11_wires 32 = .ok (.iload_n 1, 1) := by decide +kernel
theorem dX11_wires_33 : decode cX11_wires 33 = .ok (.ireturn, 1) := by decide +kernel
def sX11_wires_L4 (F : Nat) (l0 : Nat) (l1 : Int32) (l2 : Int32) (h : HP) : Option ((Int32 × Int32) ⊕ Int32) :=
  if (12 : Int32) ≤ l2 then
    some (.inr l1)
  else
    (dO h 11 (some l0)).bind fun a1 =>
    (sX11_hasWire F a1 l2 h).bind fun t2 =>
    if t2 = 0 then
      nmI (l1 + (0 : Int32)) fun l1_3 =>
      some (.inl (l1_3, l2 + (1 : Int32)))
    else
      nmI (l1 + (1 : Int32)) fun l1_4 =>
      some (.inl (l1_4, l2 + (1 : Int32)))
def sX11_wires (F : Nat) (l0 : Nat) (h : HP) : Option Int32 :=
  (iter (fun s => sX11_wires_L4 F l0 s.1 s.2 h) F ((0 : Int32), (0 : Int32))).bind fun l1_5 =>
    some l1_5
abbrev rm_X11_wires : Room := { frames := 1, cells := 0, slots := 0, locals := 21 }
set_option maxRecDepth 100000 in
set_option maxHeartbeats 4000000 in
theorem mt_X11_wires {w : WD} {l : Launch} {F : Nat} {l0 : Nat} {h : HP} {v : Int32} (hs : sX11_wires F l0 h = some v) : MI w l yX11_wires cX11_wires 3 .int rm_X11_wires 0 0 [rf w (some l0)] h v h := by
  refine of_body [(0, rf w (some l0))] (by decide) (by simp [lg_sl, rf_cat, cat_i, cat_l, cat_a]) (by simp [lv_args, rf_cat, cat_i, cat_l, cat_a]) ?_
  intro x hw_ hnL_ hl_ hc hret hnm hQ
  subst hw_; subst hl_
  have hnl : ∀ i, i < 3 → i < x.nL := fun i h => by rw [hnL_]; exact h
  have hw : wpO (sX11_wires F l0 h) (fun r => r = v) := ⟨_, hs, rfl⟩
  unfold sX11_wires at hw
  refine R_iconst (v := (0 : Int32)) hc dX11_wires_0 kI_0 ?_
  refine R_istore_n (i := 1) (v := (0 : Int32)) hc [(1, .int (0 : Int32)), (0, rf x.w (some l0))] dX11_wires_1 rfl (hnl 1 (le_b rfl)) rfl ?_
  refine R_iconst (v := (0 : Int32)) hc dX11_wires_2 kI_0 ?_
  refine R_istore_n (i := 2) (v := (0 : Int32)) hc [(2, .int (0 : Int32)), (1, .int (0 : Int32)), (0, rf x.w (some l0))] dX11_wires_3 rfl (hnl 2 (le_b rfl)) rfl ?_
  refine R_sub hc [2, 1, 0] rfl ?_
  refine R_loop (P := fun (s : (Int32 × Int32)) => Rn x 0 0 4 [(0, rf x.w (some l0)), (1, .int s.1), (2, .int s.2)] [] h) (fun l1_5 => Rn x 0 0 32 [(1, .int l1_5)] [] h) hw (fun r hw => ?_) (fun X hX s hw => ?_)
  · revert r hw
    intro l1_5 hw
    show Rn x 0 0 32 [(1, .int l1_5)] [] h
    refine R_iload_n (q := 0) (i := 1) (v := l1_5) hc dX11_wires_32 rfl rfl ?_
    exact R_ireturnP hc hret rfl hQ hw dX11_wires_33
  · obtain ⟨l1_7, l2_8⟩ := s
    show Rn x 0 0 4 [(0, rf x.w (some l0)), (1, .int l1_7), (2, .int l2_8)] [] h
    have hw : wpO (sX11_wires_L4 F l0 l1_7 l2_8 h) _ := hw
    unfold sX11_wires_L4 at hw
    refine R_iload_n (q := 2) (i := 2) (v := l2_8) hc dX11_wires_4 rfl rfl ?_
    refine R_bipush (v := (12 : Int32)) hc dX11_wires_5 kB_12 ?_
    refine R_icmp_ge (tgt := 32) hc dX11_wires_7 (by decide) hw (fun hw => ?_) (fun hw => ?_)
    · refine R_sub hc [1] rfl ?_
      exact (wpO_some hw :)
    · refine R_iload_n (q := 1) (i := 1) (v := l1_7) hc dX11_wires_10 rfl rfl ?_
      refine R_aload_n (q := 0) (i := 0) (v := (some l0)) hc dX11_wires_11 rfl rfl ?_
      refine R_iload_n (q := 2) (i := 2) (v := l2_8) hc dX11_wires_12 rfl rfl ?_
      refine R_cVI (As := [.int l2_8]) (rest := [.int l1_7]) (r := (some l0)) (ci := 11) hc ml_11_201 mf_X11_hasWire rfl (by decide) ⟨rfl, rfl⟩ ⟨le_b rfl, le_b rfl⟩ ⟨Nat.zero_le _, Nat.zero_le _⟩ (fun a v e => mt_X11_hasWire e) rfl rfl (le_b rfl) dX11_wires_13 hw (fun t2 hw => ?_)
      refine R_if_eq (tgt := 23) hc dX11_wires_16 (by decide) hw (fun hw => ?_) (fun hw => ?_)
      · refine R_iconst (v := (0 : Int32)) hc dX11_wires_23 kI_0 ?_
        refine R_iadd hc dX11_wires_24 ?_
        refine R_nmI hw (fun l1_3 hw => ?_)
        refine R_istore_n (i := 1) (v := l1_3) hc [(1, .int l1_3), (0, rf x.w (some l0)), (2, .int l2_8)] dX11_wires_25 rfl (hnl 1 (le_b rfl)) rfl ?_
        refine R_iinc (q := 2) (i := 2) (v := l2_8) hc [(2, .int (l2_8 + (1 : Int32))), (1, .int l1_3), (0, rf x.w (some l0))] dX11_wires_26 rfl (kC_1 _) (hnl 2 (le_b rfl)) rfl ?_
        refine R_goto (tgt := 4) hc dX11_wires_29 (by decide) ?_
        refine R_sub hc [2, 1, 0] rfl ?_
        exact hX (l1_3, l2_8 + (1 : Int32)) (wpO_some hw :)
      · refine R_iconst (v := (1 : Int32)) hc dX11_wires_19 kI_1 ?_
        refine R_goto (tgt := 24) hc dX11_wires_20 (by decide) ?_
        refine R_iadd hc dX11_wires_24 ?_
        refine R_nmI hw (fun l1_4 hw => ?_)
        refine R_istore_n (i := 1) (v := l1_4) hc [(1, .int l1_4), (0, rf x.w (some l0)), (2, .int l2_8)] dX11_wires_25 rfl (hnl 1 (le_b rfl)) rfl ?_
        refine R_iinc (q := 2) (i := 2) (v := l2_8) hc [(2, .int (l2_8 + (1 : Int32))), (1, .int l1_4), (0, rf x.w (some l0))] dX11_wires_26 rfl (kC_1 _) (hnl 2 (le_b rfl)) rfl ?_
        refine R_goto (tgt := 4) hc dX11_wires_29 (by decide) ?_
        refine R_sub hc [2, 1, 0] rfl ?_
        exact hX (l1_4, l2_8 + (1 : Int32)) (wpO_some hw :)
theorem dX11_tracks_0 : decode cX11_tracks 0 = .ok (.iconst 0, 1) := by decide +kernel
theorem dX11_tracks_1 : decode cX11_tracks 1 = .ok (.istore_n 1, 1) := by decide +kernel
theorem dX11_tracks_2 : decode cX11_tracks 2 = .ok (.iconst 0, 1) := by decide +kernel
theorem dX11_tracks_3 : decode cX11_tracks 3 = .ok (.istore_n 2, 1) := by decide +kernel
theorem dX11_tracks_4 : decode cX11_tracks 4 = .ok (.iload_n 2, 1) := by decide +kernel
theorem dX11_tracks_5 : decode cX11_tracks 5 = .ok (.bipush 12, 2) := by decide +kernel
theorem dX11_tracks_7 : decode cX11_tracks 7 = .ok (.if_icmp .ge 42, 3) := by decide +kernel
theorem dX11_tracks_10 : decode cX11_tracks 10 = .ok (.iload_n 1, 1) := by decide +kernel
theorem dX11_tracks_11 : decode cX11_tracks 11 = .ok (.aload_n 0, 1) := by decide +kernel
theorem dX11_tracks_12 : decode cX11_tracks 12 = .ok (.iload_n 2, 1) := by decide +kernel
theorem dX11_tracks_13 : decode cX11_tracks 13 = .ok (.invokevirtual 201, 3) := by decide +kernel
theorem dX11_tracks_16 : decode cX11_tracks 16 = .ok (.ifCond .eq 24, 3) := by decide +kernel
theorem dX11_tracks_19 : decode cX11_tracks 19 = .ok (.aload_n 0, 1) := by decide +kernel
theorem dX11_tracks_20 : decode cX11_tracks 20 = .ok (.getfield 84, 3) := by decide +kernel
theorem dX11_tracks_23 : decode cX11_tracks 23 = .ok (.iload_n 2, 1) := by decide +kernel
theorem dX11_tracks_24 : decode cX11_tracks 24 = .ok (.iaload, 1) := by decide +kernel
theorem dX11_tracks_25 : decode cX11_tracks 25 = .ok (.iconst (-1), 1) := by decide +kernel
theorem dX11_tracks_26 : decode cX11_tracks 26 = .ok (.if_icmp .eq 14, 3) := by decide +kernel
theorem dX11_tracks_29 : decode cX11_tracks 29 = .ok (.iconst 1, 1) := by decide +kernel
theorem dX11_tracks_30 : decode cX11_tracks 30 = .ok (.aload_n 0, 1) := by decide +kernel
theorem dX11_tracks_31 : decode cX11_tracks 31 = .ok (.getfield 84, 3) := by decide +kernel
theorem dX11_tracks_34 : decode cX11_tracks 34 = .ok (.iload_n 2, 1) := by decide +kernel
theorem dX11_tracks_35 : decode cX11_tracks 35 = .ok (.iaload, 1) := by decide +kernel
theorem dX11_tracks_36 : decode cX11_tracks 36 = .ok (.ishl, 1) := by decide +kernel
theorem dX11_tracks_37 : decode cX11_tracks 37 = .ok (.goto 4, 3) := by decide +kernel
theorem dX11_tracks_40 : decode cX11_tracks 40 = .ok (.iconst 0, 1) := by decide +kernel
theorem dX11_tracks_41 : decode cX11_tracks 41 = .ok (.ior, 1) := by decide +kernel
theorem dX11_tracks_42 : decode cX11_tracks 42 = .ok (.istore_n 1, 1) := by decide +kernel
theorem dX11_tracks_43 : decode cX11_tracks 43 = .ok (.iinc 2 1, 3) := by decide +kernel
theorem dX11_tracks_46 : decode cX11_tracks 46 = .ok (.goto (-42), 3) := by decide +kernel
theorem dX11_tracks_49 : decode cX11_tracks 49 = .ok (.iload_n 1, 1) := by decide +kernel
theorem dX11_tracks_50 : decode cX11_tracks 50 = .ok (.ireturn, 1) := by decide +kernel
def sX11_tracks_L4 (F : Nat) (l0 : Nat) (l1 : Int32) (l2 : Int32) (h : HP) : Option ((Int32 × Int32) ⊕ Int32) :=
  if (12 : Int32) ≤ l2 then
    some (.inr l1)
  else
    (dO h 11 (some l0)).bind fun a1 =>
    (sX11_hasWire F a1 l2 h).bind fun t2 =>
    if t2 = 0 then
      nmI (l1 ||| (0 : Int32)) fun l1_3 =>
      some (.inl (l1_3, l2 + (1 : Int32)))
    else
      (gR h 11 (some l0) 34).bind fun t4 =>
      (aI h 13 t4 l2).bind fun t5 =>
      if t5 = (-1 : Int32) then
        nmI (l1 ||| (0 : Int32)) fun l1_6 =>
        some (.inl (l1_6, l2 + (1 : Int32)))
      else
        (gR h 11 (some l0) 34).bind fun t7 =>
        (aI h 13 t7 l2).bind fun t8 =>
        nmI (l1 ||| (jshl (1 : Int32) t8)) fun l1_9 =>
        some (.inl (l1_9, l2 + (1 : Int32)))
def sX11_tracks (F : Nat) (l0 : Nat) (h : HP) : Option Int32 :=
  (iter (fun s => sX11_tracks_L4 F l0 s.1 s.2 h) F ((0 : Int32), (0 : Int32))).bind fun l1_10 =>
    some l1_10
abbrev rm_X11_tracks : Room := { frames := 1, cells := 0, slots := 0, locals := 21 }
set_option maxRecDepth 100000 in
set_option maxHeartbeats 4000000 in
theorem mt_X11_tracks {w : WD} {l : Launch} {F : Nat} {l0 : Nat} {h : HP} {v : Int32} (hs : sX11_tracks F l0 h = some v) : MI w l yX11_tracks cX11_tracks 3 .int rm_X11_tracks 0 0 [rf w (some l0)] h v h := by
  refine of_body [(0, rf w (some l0))] (by decide) (by simp [lg_sl, rf_cat, cat_i, cat_l, cat_a]) (by simp [lv_args, rf_cat, cat_i, cat_l, cat_a]) ?_
  intro x hw_ hnL_ hl_ hc hret hnm hQ
  subst hw_; subst hl_
  have hnl : ∀ i, i < 3 → i < x.nL := fun i h => by rw [hnL_]; exact h
  have hw : wpO (sX11_tracks F l0 h) (fun r => r = v) := ⟨_, hs, rfl⟩
  unfold sX11_tracks at hw
  refine R_iconst (v := (0 : Int32)) hc dX11_tracks_0 kI_0 ?_
  refine R_istore_n (i := 1) (v := (0 : Int32)) hc [(1, .int (0 : Int32)), (0, rf x.w (some l0))] dX11_tracks_1 rfl (hnl 1 (le_b rfl)) rfl ?_
  refine R_iconst (v := (0 : Int32)) hc dX11_tracks_2 kI_0 ?_
  refine R_istore_n (i := 2) (v := (0 : Int32)) hc [(2, .int (0 : Int32)), (1, .int (0 : Int32)), (0, rf x.w (some l0))] dX11_tracks_3 rfl (hnl 2 (le_b rfl)) rfl ?_
  refine R_sub hc [2, 1, 0] rfl ?_
  refine R_loop (P := fun (s : (Int32 × Int32)) => Rn x 0 0 4 [(0, rf x.w (some l0)), (1, .int s.1), (2, .int s.2)] [] h) (fun l1_10 => Rn x 0 0 49 [(1, .int l1_10)] [] h) hw (fun r hw => ?_) (fun X hX s hw => ?_)
  · revert r hw
    intro l1_10 hw
    show Rn x 0 0 49 [(1, .int l1_10)] [] h
    refine R_iload_n (q := 0) (i := 1) (v := l1_10) hc dX11_tracks_49 rfl rfl ?_
    exact R_ireturnP hc hret rfl hQ hw dX11_tracks_50
  · obtain ⟨l1_12, l2_13⟩ := s
    show Rn x 0 0 4 [(0, rf x.w (some l0)), (1, .int l1_12), (2, .int l2_13)] [] h
    have hw : wpO (sX11_tracks_L4 F l0 l1_12 l2_13 h) _ := hw
    unfold sX11_tracks_L4 at hw
    refine R_iload_n (q := 2) (i := 2) (v := l2_13) hc dX11_tracks_4 rfl rfl ?_
    refine R_bipush (v := (12 : Int32)) hc dX11_tracks_5 kB_12 ?_
    refine R_icmp_ge (tgt := 49) hc dX11_tracks_7 (by decide) hw (fun hw => ?_) (fun hw => ?_)
    · refine R_sub hc [1] rfl ?_
      exact (wpO_some hw :)
    · refine R_iload_n (q := 1) (i := 1) (v := l1_12) hc dX11_tracks_10 rfl rfl ?_
      refine R_aload_n (q := 0) (i := 0) (v := (some l0)) hc dX11_tracks_11 rfl rfl ?_
      refine R_iload_n (q := 2) (i := 2) (v := l2_13) hc dX11_tracks_12 rfl rfl ?_
      refine R_cVI (As := [.int l2_13]) (rest := [.int l1_12]) (r := (some l0)) (ci := 11) hc ml_11_201 mf_X11_hasWire rfl (by decide) ⟨rfl, rfl⟩ ⟨le_b rfl, le_b rfl⟩ ⟨Nat.zero_le _, Nat.zero_le _⟩ (fun a v e => mt_X11_hasWire e) rfl rfl (le_b rfl) dX11_tracks_13 hw (fun t2 hw => ?_)
      refine R_if_eq (tgt := 40) hc dX11_tracks_16 (by decide) hw (fun hw => ?_) (fun hw => ?_)
      · refine R_iconst (v := (0 : Int32)) hc dX11_tracks_40 kI_0 ?_
        refine R_ior hc dX11_tracks_41 ?_
        refine R_nmI hw (fun l1_3 hw => ?_)
        refine R_istore_n (i := 1) (v := l1_3) hc [(1, .int l1_3), (0, rf x.w (some l0)), (2, .int l2_13)] dX11_tracks_42 rfl (hnl 1 (le_b rfl)) rfl ?_
        refine R_iinc (q := 2) (i := 2) (v := l2_13) hc [(2, .int (l2_13 + (1 : Int32))), (1, .int l1_3), (0, rf x.w (some l0))] dX11_tracks_43 rfl (kC_1 _) (hnl 2 (le_b rfl)) rfl ?_
        refine R_goto (tgt := 4) hc dX11_tracks_46 (by decide) ?_
        refine R_sub hc [2, 1, 0] rfl ?_
        exact hX (l1_3, l2_13 + (1 : Int32)) (wpO_some hw :)
      · refine R_aload_n (q := 0) (i := 0) (v := (some l0)) hc dX11_tracks_19 rfl rfl ?_
        refine R_getR hc fl_11_84 dX11_tracks_20 hw (fun t4 hw => ?_)
        refine R_iload_n (q := 2) (i := 2) (v := l2_13) hc dX11_tracks_23 rfl rfl ?_
        refine R_iaload hc dX11_tracks_24 hw (fun t5 hw => ?_)
        refine R_iconst (v := (-1 : Int32)) hc dX11_tracks_25 kI_m1 ?_
        refine R_icmp_eq (tgt := 40) hc dX11_tracks_26 (by decide) hw (fun hw => ?_) (fun hw => ?_)
        · refine R_iconst (v := (0 : Int32)) hc dX11_tracks_40 kI_0 ?_
          refine R_ior hc dX11_tracks_41 ?_
          refine R_nmI hw (fun l1_6 hw => ?_)
          refine R_istore_n (i := 1) (v := l1_6) hc [(1, .int l1_6), (0, rf x.w (some l0)), (2, .int l2_13)] dX11_tracks_42 rfl (hnl 1 (le_b rfl)) rfl ?_
          refine R_iinc (q := 2) (i := 2) (v := l2_13) hc [(2, .int (l2_13 + (1 : Int32))), (1, .int l1_6), (0, rf x.w (some l0))] dX11_tracks_43 rfl (kC_1 _) (hnl 2 (le_b rfl)) rfl ?_
          refine R_goto (tgt := 4) hc dX11_tracks_46 (by decide) ?_
          refine R_sub hc [2, 1, 0] rfl ?_
          exact hX (l1_6, l2_13 + (1 : Int32)) (wpO_some hw :)
        · refine R_iconst (v := (1 : Int32)) hc dX11_tracks_29 kI_1 ?_
          refine R_aload_n (q := 0) (i := 0) (v := (some l0)) hc dX11_tracks_30 rfl rfl ?_
          refine R_getR hc fl_11_84 dX11_tracks_31 hw (fun t7 hw => ?_)
          refine R_iload_n (q := 2) (i := 2) (v := l2_13) hc dX11_tracks_34 rfl rfl ?_
          refine R_iaload hc dX11_tracks_35 hw (fun t8 hw => ?_)
          refine R_ishl hc dX11_tracks_36 ?_
          refine R_goto (tgt := 41) hc dX11_tracks_37 (by decide) ?_
          refine R_ior hc dX11_tracks_41 ?_
          refine R_nmI hw (fun l1_9 hw => ?_)
          refine R_istore_n (i := 1) (v := l1_9) hc [(1, .int l1_9), (0, rf x.w (some l0)), (2, .int l2_13)] dX11_tracks_42 rfl (hnl 1 (le_b rfl)) rfl ?_
          refine R_iinc (q := 2) (i := 2) (v := l2_13) hc [(2, .int (l2_13 + (1 : Int32))), (1, .int l1_9), (0, rf x.w (some l0))] dX11_tracks_43 rfl (kC_1 _) (hnl 2 (le_b rfl)) rfl ?_
          refine R_goto (tgt := 4) hc dX11_tracks_46 (by decide) ?_
          refine R_sub hc [2, 1, 0] rfl ?_
          exact hX (l1_9, l2_13 + (1 : Int32)) (wpO_some hw :)
theorem dX11_lost_0 : decode cX11_lost 0 = .ok (.iconst 0, 1) := by decide +kernel
theorem dX11_lost_1 : decode cX11_lost 1 = .ok (.istore_n 1, 1) := by decide +kernel
theorem dX11_lost_2 : decode cX11_lost 2 = .ok (.iconst 0, 1) := by decide +kernel
theorem dX11_lost_3 : decode cX11_lost 3 = .ok (.istore_n 2, 1) := by decide +kernel
theorem dX11_lost_4 : decode cX11_lost 4 = .ok (.iload_n 2, 1) := by decide +kernel
theorem dX11_lost_5 : decode cX11_lost 5 = .ok (.bipush 12, 2) := by decide +kernel
theorem dX11_lost_7 : decode cX11_lost 7 = .ok (.if_icmp .ge 35, 3) := by decide +kernel
theorem dX11_lost_10 : decode cX11_lost 10 = .ok (.iload_n 1, 1) := by decide +kernel
theorem dX11_lost_11 : decode cX11_lost 11 = .ok (.aload_n 0, 1) := by decide +kernel
theorem dX11_lost_12 : decode cX11_lost 12 = .ok (.iload_n 2, 1) := by decide +kernel
theorem dX11_lost_13 : decode cX11_lost 13 = .ok (.invokevirtual 201, 3) := by decide +kernel
theorem dX11_lost_16 : decode cX11_lost 16 = .ok (.ifCond .eq 17, 3) := by decide +kernel
theorem dX11_lost_19 : decode cX11_lost 19 = .ok (.aload_n 0, 1) := by decide +kernel
theorem dX11_lost_20 : decode cX11_lost 20 = .ok (.getfield 84, 3) := by decide +kernel
theorem dX11_lost_23 : decode cX11_lost 23 = .ok (.iload_n 2, 1) := by decide +kernel
theorem dX11_lost_24 : decode cX11_lost 24 = .ok (.iaload, 1) := by decide +kernel
theorem dX11_lost_25 : decode cX11_lost 25 = .ok (.iconst (-1), 1) := by decide +kernel
theorem dX11_lost_26 : decode cX11_lost 26 = .ok (.if_icmp .ne 7, 3) := by decide +kernel
theorem dX11_lost_29 : decode cX11_lost 29 = .ok (.iconst 1, 1) := by decide +kernel
theorem dX11_lost_30 : decode cX11_lost 30 = .ok (.goto 4, 3) := by decide +kernel
theorem dX11_lost_33 : decode cX11_lost 33 = .ok (.iconst 0, 1) := by decide +kernel
theorem dX11_lost_34 : decode cX11_lost 34 = .ok (.iadd, 1) := by decide +kernel
theorem dX11_lost_35 : decode cX11_lost 35 = .ok (.istore_n 1, 1) := by decide +kernel
theorem dX11_lost_36 : decode cX11_lost 36 = .ok (.iinc 2 1, 3) := by decide +kernel
theorem dX11_lost_39 : decode cX11_lost 39 = .ok (.goto (-35), 3) := by decide +kernel
theorem dX11_lost_42 : decode cX11_lost 42 = .ok (.iload_n 1, 1) := by decide +kernel
theorem dX11_lost_43 : decode cX11_lost 43 = .ok (.ireturn, 1) := by decide +kernel
def sX11_lost_L4 (F : Nat) (l0 : Nat) (l1 : Int32) (l2 : Int32) (h : HP) : Option ((Int32 × Int32) ⊕ Int32) :=
  if (12 : Int32) ≤ l2 then
    some (.inr l1)
  else
    (dO h 11 (some l0)).bind fun a1 =>
    (sX11_hasWire F a1 l2 h).bind fun t2 =>
    if t2 = 0 then
      nmI (l1 + (0 : Int32)) fun l1_3 =>
      some (.inl (l1_3, l2 + (1 : Int32)))
    else
      (gR h 11 (some l0) 34).bind fun t4 =>
      (aI h 13 t4 l2).bind fun t5 =>
      if ¬ t5 = (-1 : Int32) then
        nmI (l1 + (0 : Int32)) fun l1_6 =>
        some (.inl (l1_6, l2 + (1 : Int32)))
      else
        nmI (l1 + (1 : Int32)) fun l1_7 =>
        some (.inl (l1_7, l2 + (1 : Int32)))
def sX11_lost (F : Nat) (l0 : Nat) (h : HP) : Option Int32 :=
  (iter (fun s => sX11_lost_L4 F l0 s.1 s.2 h) F ((0 : Int32), (0 : Int32))).bind fun l1_8 =>
    some l1_8
abbrev rm_X11_lost : Room := { frames := 1, cells := 0, slots := 0, locals := 21 }
set_option maxRecDepth 100000 in
set_option maxHeartbeats 4000000 in
theorem mt_X11_lost {w : WD} {l : Launch} {F : Nat} {l0 : Nat} {h : HP} {v : Int32} (hs : sX11_lost F l0 h = some v) : MI w l yX11_lost cX11_lost 3 .int rm_X11_lost 0 0 [rf w (some l0)] h v h := by
  refine of_body [(0, rf w (some l0))] (by decide) (by simp [lg_sl, rf_cat, cat_i, cat_l, cat_a]) (by simp [lv_args, rf_cat, cat_i, cat_l, cat_a]) ?_
  intro x hw_ hnL_ hl_ hc hret hnm hQ
  subst hw_; subst hl_
  have hnl : ∀ i, i < 3 → i < x.nL := fun i h => by rw [hnL_]; exact h
  have hw : wpO (sX11_lost F l0 h) (fun r => r = v) := ⟨_, hs, rfl⟩
  unfold sX11_lost at hw
  refine R_iconst (v := (0 : Int32)) hc dX11_lost_0 kI_0 ?_
  refine R_istore_n (i := 1) (v := (0 : Int32)) hc [(1, .int (0 : Int32)), (0, rf x.w (some l0))] dX11_lost_1 rfl (hnl 1 (le_b rfl)) rfl ?_
  refine R_iconst (v := (0 : Int32)) hc dX11_lost_2 kI_0 ?_
  refine R_istore_n (i := 2) (v := (0 : Int32)) hc [(2, .int (0 : Int32)), (1, .int (0 : Int32)), (0, rf x.w (some l0))] dX11_lost_3 rfl (hnl 2 (le_b rfl)) rfl ?_
  refine R_sub hc [2, 1, 0] rfl ?_
  refine R_loop (P := fun (s : (Int32 × Int32)) => Rn x 0 0 4 [(0, rf x.w (some l0)), (1, .int s.1), (2, .int s.2)] [] h) (fun l1_8 => Rn x 0 0 42 [(1, .int l1_8)] [] h) hw (fun r hw => ?_) (fun X hX s hw => ?_)
  · revert r hw
    intro l1_8 hw
    show Rn x 0 0 42 [(1, .int l1_8)] [] h
    refine R_iload_n (q := 0) (i := 1) (v := l1_8) hc dX11_lost_42 rfl rfl ?_
    exact R_ireturnP hc hret rfl hQ hw dX11_lost_43
  · obtain ⟨l1_10, l2_11⟩ := s
    show Rn x 0 0 4 [(0, rf x.w (some l0)), (1, .int l1_10), (2, .int l2_11)] [] h
    have hw : wpO (sX11_lost_L4 F l0 l1_10 l2_11 h) _ := hw
    unfold sX11_lost_L4 at hw
    refine R_iload_n (q := 2) (i := 2) (v := l2_11) hc dX11_lost_4 rfl rfl ?_
    refine R_bipush (v := (12 : Int32)) hc dX11_lost_5 kB_12 ?_
    refine R_icmp_ge (tgt := 42) hc dX11_lost_7 (by decide) hw (fun hw => ?_) (fun hw => ?_)
    · refine R_sub hc [1] rfl ?_
      exact (wpO_some hw :)
    · refine R_iload_n (q := 1) (i := 1) (v := l1_10) hc dX11_lost_10 rfl rfl ?_
      refine R_aload_n (q := 0) (i := 0) (v := (some l0)) hc dX11_lost_11 rfl rfl ?_
      refine R_iload_n (q := 2) (i := 2) (v := l2_11) hc dX11_lost_12 rfl rfl ?_
      refine R_cVI (As := [.int l2_11]) (rest := [.int l1_10]) (r := (some l0)) (ci := 11) hc ml_11_201 mf_X11_hasWire rfl (by decide) ⟨rfl, rfl⟩ ⟨le_b rfl, le_b rfl⟩ ⟨Nat.zero_le _, Nat.zero_le _⟩ (fun a v e => mt_X11_hasWire e) rfl rfl (le_b rfl) dX11_lost_13 hw (fun t2 hw => ?_)
      refine R_if_eq (tgt := 33) hc dX11_lost_16 (by decide) hw (fun hw => ?_) (fun hw => ?_)
      · refine R_iconst (v := (0 : Int32)) hc dX11_lost_33 kI_0 ?_
        refine R_iadd hc dX11_lost_34 ?_
        refine R_nmI hw (fun l1_3 hw => ?_)
        refine R_istore_n (i := 1) (v := l1_3) hc [(1, .int l1_3), (0, rf x.w (some l0)), (2, .int l2_11)] dX11_lost_35 rfl (hnl 1 (le_b rfl)) rfl ?_
        refine R_iinc (q := 2) (i := 2) (v := l2_11) hc [(2, .int (l2_11 + (1 : Int32))), (1, .int l1_3), (0, rf x.w (some l0))] dX11_lost_36 rfl (kC_1 _) (hnl 2 (le_b rfl)) rfl ?_
        refine R_goto (tgt := 4) hc dX11_lost_39 (by decide) ?_
        refine R_sub hc [2, 1, 0] rfl ?_
        exact hX (l1_3, l2_11 + (1 : Int32)) (wpO_some hw :)
      · refine R_aload_n (q := 0) (i := 0) (v := (some l0)) hc dX11_lost_19 rfl rfl ?_
        refine R_getR hc fl_11_84 dX11_lost_20 hw (fun t4 hw => ?_)
        refine R_iload_n (q := 2) (i := 2) (v := l2_11) hc dX11_lost_23 rfl rfl ?_
        refine R_iaload hc dX11_lost_24 hw (fun t5 hw => ?_)
        refine R_iconst (v := (-1 : Int32)) hc dX11_lost_25 kI_m1 ?_
        refine R_icmp_ne (tgt := 33) hc dX11_lost_26 (by decide) hw (fun hw => ?_) (fun hw => ?_)
        · refine R_iconst (v := (0 : Int32)) hc dX11_lost_33 kI_0 ?_
          refine R_iadd hc dX11_lost_34 ?_
          refine R_nmI hw (fun l1_6 hw => ?_)
          refine R_istore_n (i := 1) (v := l1_6) hc [(1, .int l1_6), (0, rf x.w (some l0)), (2, .int l2_11)] dX11_lost_35 rfl (hnl 1 (le_b rfl)) rfl ?_
          refine R_iinc (q := 2) (i := 2) (v := l2_11) hc [(2, .int (l2_11 + (1 : Int32))), (1, .int l1_6), (0, rf x.w (some l0))] dX11_lost_36 rfl (kC_1 _) (hnl 2 (le_b rfl)) rfl ?_
          refine R_goto (tgt := 4) hc dX11_lost_39 (by decide) ?_
          refine R_sub hc [2, 1, 0] rfl ?_
          exact hX (l1_6, l2_11 + (1 : Int32)) (wpO_some hw :)
        · refine R_iconst (v := (1 : Int32)) hc dX11_lost_29 kI_1 ?_
          refine R_goto (tgt := 34) hc dX11_lost_30 (by decide) ?_
          refine R_iadd hc dX11_lost_34 ?_
          refine R_nmI hw (fun l1_7 hw => ?_)
          refine R_istore_n (i := 1) (v := l1_7) hc [(1, .int l1_7), (0, rf x.w (some l0)), (2, .int l2_11)] dX11_lost_35 rfl (hnl 1 (le_b rfl)) rfl ?_
          refine R_iinc (q := 2) (i := 2) (v := l2_11) hc [(2, .int (l2_11 + (1 : Int32))), (1, .int l1_7), (0, rf x.w (some l0))] dX11_lost_36 rfl (kC_1 _) (hnl 2 (le_b rfl)) rfl ?_
          refine R_goto (tgt := 4) hc dX11_lost_39 (by decide) ?_
          refine R_sub hc [2, 1, 0] rfl ?_
          exact hX (l1_7, l2_11 + (1 : Int32)) (wpO_some hw :)
theorem dX11_length_0 : decode cX11_length 0 = .ok (.iconst 0, 1) := by decide +kernel
theorem dX11_length_1 : decode cX11_length 1 = .ok (.istore_n 1, 1) := by decide +kernel
theorem dX11_length_2 : decode cX11_length 2 = .ok (.iconst 0, 1) := by decide +kernel
theorem dX11_length_3 : decode cX11_length 3 = .ok (.istore_n 2, 1) := by decide +kernel
theorem dX11_length_4 : decode cX11_length 4 = .ok (.iload_n 2, 1) := by decide +kernel
theorem dX11_length_5 : decode cX11_length 5 = .ok (.bipush 12, 2) := by decide +kernel
theorem dX11_length_7 : decode cX11_length 7 = .ok (.if_icmp .ge 37, 3) := by decide +kernel
theorem dX11_length_10 : decode cX11_length 10 = .ok (.iload_n 1, 1) := by decide +kernel
theorem dX11_length_11 : decode cX11_length 11 = .ok (.aload_n 0, 1) := by decide +kernel
theorem dX11_length_12 : decode cX11_length 12 = .ok (.iload_n 2, 1) := by decide +kernel
theorem dX11_length_13 : decode cX11_length 13 = .ok (.invokevirtual 201, 3) := by decide +kernel
theorem dX11_length_16 : decode cX11_length 16 = .ok (.ifCond .eq 19, 3) := by decide +kernel
theorem dX11_length_19 : decode cX11_length 19 = .ok (.aload_n 0, 1) := by decide +kernel
theorem dX11_length_20 : decode cX11_length 20 = .ok (.getfield 81, 3) := by decide +kernel
theorem dX11_length_23 : decode cX11_length 23 = .ok (.iload_n 2, 1) := by decide +kernel
theorem dX11_length_24 : decode cX11_length 24 = .ok (.iaload, 1) := by decide +kernel
theorem dX11_length_25 : decode cX11_length 25 = .ok (.aload_n 0, 1) := by decide +kernel
theorem dX11_length_26 : decode cX11_length 26 = .ok (.getfield 78, 3) := by decide +kernel
theorem dX11_length_29 : decode cX11_length 29 = .ok (.iload_n 2, 1) := by decide +kernel
theorem dX11_length_30 : decode cX11_length 30 = .ok (.iaload, 1) := by decide +kernel
theorem dX11_length_31 : decode cX11_length 31 = .ok (.isub, 1) := by decide +kernel
theorem dX11_length_32 : decode cX11_length 32 = .ok (.goto 4, 3) := by decide +kernel
theorem dX11_length_35 : decode cX11_length 35 = .ok (.iconst 0, 1) := by decide +kernel
theorem dX11_length_36 : decode cX11_length 36 = .ok (.iadd, 1) := by decide +kernel
theorem dX11_length_37 : decode cX11_length 37 = .ok (.istore_n 1, 1) := by decide +kernel
theorem dX11_length_38 : decode cX11_length 38 = .ok (.iinc 2 1, 3) := by decide +kernel
theorem dX11_length_41 : decode cX11_length 41 = .ok (.goto (-37), 3) := by decide +kernel
theorem dX11_length_44 : decode cX11_length 44 = .ok (.iload_n 1, 1) := by decide +kernel
theorem dX11_length_45 : decode cX11_length 45 = .ok (.ireturn, 1) := by decide +kernel
def sX11_length_L4 (F : Nat) (l0 : Nat) (l1 : Int32) (l2 : Int32) (h : HP) : Option ((Int32 × Int32) ⊕ Int32) :=
  if (12 : Int32) ≤ l2 then
    some (.inr l1)
  else
    (dO h 11 (some l0)).bind fun a1 =>
    (sX11_hasWire F a1 l2 h).bind fun t2 =>
    if t2 = 0 then
      nmI (l1 + (0 : Int32)) fun l1_3 =>
      some (.inl (l1_3, l2 + (1 : Int32)))
    else
      (gR h 11 (some l0) 33).bind fun t4 =>
      (aI h 13 t4 l2).bind fun t5 =>
      (gR h 11 (some l0) 32).bind fun t6 =>
      (aI h 13 t6 l2).bind fun t7 =>
      nmI (l1 + (t5 - t7)) fun l1_8 =>
      some (.inl (l1_8, l2 + (1 : Int32)))
def sX11_length (F : Nat) (l0 : Nat) (h : HP) : Option Int32 :=
  (iter (fun s => sX11_length_L4 F l0 s.1 s.2 h) F ((0 : Int32), (0 : Int32))).bind fun l1_9 =>
    some l1_9
abbrev rm_X11_length : Room := { frames := 1, cells := 0, slots := 0, locals := 21 }
set_option maxRecDepth 100000 in
set_option maxHeartbeats 4000000 in
theorem mt_X11_length {w : WD} {l : Launch} {F : Nat} {l0 : Nat} {h : HP} {v : Int32} (hs : sX11_length F l0 h = some v) : MI w l yX11_length cX11_length 3 .int rm_X11_length 0 0 [rf w (some l0)] h v h := by
  refine of_body [(0, rf w (some l0))] (by decide) (by simp [lg_sl, rf_cat, cat_i, cat_l, cat_a]) (by simp [lv_args, rf_cat, cat_i, cat_l, cat_a]) ?_
  intro x hw_ hnL_ hl_ hc hret hnm hQ
  subst hw_; subst hl_
  have hnl : ∀ i, i < 3 → i < x.nL := fun i h => by rw [hnL_]; exact h
  have hw : wpO (sX11_length F l0 h) (fun r => r = v) := ⟨_, hs, rfl⟩
  unfold sX11_length at hw
  refine R_iconst (v := (0 : Int32)) hc dX11_length_0 kI_0 ?_
  refine R_istore_n (i := 1) (v := (0 : Int32)) hc [(1, .int (0 : Int32)), (0, rf x.w (some l0))] dX11_length_1 rfl (hnl 1 (le_b rfl)) rfl ?_
  refine R_iconst (v := (0 : Int32)) hc dX11_length_2 kI_0 ?_
  refine R_istore_n (i := 2) (v := (0 : Int32)) hc [(2, .int (0 : Int32)), (1, .int (0 : Int32)), (0, rf x.w (some l0))] dX11_length_3 rfl (hnl 2 (le_b rfl)) rfl ?_
  refine R_sub hc [2, 1, 0] rfl ?_
  refine R_loop (P := fun (s : (Int32 × Int32)) => Rn x 0 0 4 [(0, rf x.w (some l0)), (1, .int s.1), (2, .int s.2)] [] h) (fun l1_9 => Rn x 0 0 44 [(1, .int l1_9)] [] h) hw (fun r hw => ?_) (fun X hX s hw => ?_)
  · revert r hw
    intro l1_9 hw
    show Rn x 0 0 44 [(1, .int l1_9)] [] h
    refine R_iload_n (q := 0) (i := 1) (v := l1_9) hc dX11_length_44 rfl rfl ?_
    exact R_ireturnP hc hret rfl hQ hw dX11_length_45
  · obtain ⟨l1_11, l2_12⟩ := s
    show Rn x 0 0 4 [(0, rf x.w (some l0)), (1, .int l1_11), (2, .int l2_12)] [] h
    have hw : wpO (sX11_length_L4 F l0 l1_11 l2_12 h) _ := hw
    unfold sX11_length_L4 at hw
    refine R_iload_n (q := 2) (i := 2) (v := l2_12) hc dX11_length_4 rfl rfl ?_
    refine R_bipush (v := (12 : Int32)) hc dX11_length_5 kB_12 ?_
    refine R_icmp_ge (tgt := 44) hc dX11_length_7 (by decide) hw (fun hw => ?_) (fun hw => ?_)
    · refine R_sub hc [1] rfl ?_
      exact (wpO_some hw :)
    · refine R_iload_n (q := 1) (i := 1) (v := l1_11) hc dX11_length_10 rfl rfl ?_
      refine R_aload_n (q := 0) (i := 0) (v := (some l0)) hc dX11_length_11 rfl rfl ?_
      refine R_iload_n (q := 2) (i := 2) (v := l2_12) hc dX11_length_12 rfl rfl ?_
      refine R_cVI (As := [.int l2_12]) (rest := [.int l1_11]) (r := (some l0)) (ci := 11) hc ml_11_201 mf_X11_hasWire rfl (by decide) ⟨rfl, rfl⟩ ⟨le_b rfl, le_b rfl⟩ ⟨Nat.zero_le _, Nat.zero_le _⟩ (fun a v e => mt_X11_hasWire e) rfl rfl (le_b rfl) dX11_length_13 hw (fun t2 hw => ?_)
      refine R_if_eq (tgt := 35) hc dX11_length_16 (by decide) hw (fun hw => ?_) (fun hw => ?_)
      · refine R_iconst (v := (0 : Int32)) hc dX11_length_35 kI_0 ?_
        refine R_iadd hc dX11_length_36 ?_
        refine R_nmI hw (fun l1_3 hw => ?_)
        refine R_istore_n (i := 1) (v := l1_3) hc [(1, .int l1_3), (0, rf x.w (some l0)), (2, .int l2_12)] dX11_length_37 rfl (hnl 1 (le_b rfl)) rfl ?_
        refine R_iinc (q := 2) (i := 2) (v := l2_12) hc [(2, .int (l2_12 + (1 : Int32))), (1, .int l1_3), (0, rf x.w (some l0))] dX11_length_38 rfl (kC_1 _) (hnl 2 (le_b rfl)) rfl ?_
        refine R_goto (tgt := 4) hc dX11_length_41 (by decide) ?_
        refine R_sub hc [2, 1, 0] rfl ?_
        exact hX (l1_3, l2_12 + (1 : Int32)) (wpO_some hw :)
      · refine R_aload_n (q := 0) (i := 0) (v := (some l0)) hc dX11_length_19 rfl rfl ?_
        refine R_getR hc fl_11_81 dX11_length_20 hw (fun t4 hw => ?_)
        refine R_iload_n (q := 2) (i := 2) (v := l2_12) hc dX11_length_23 rfl rfl ?_
        refine R_iaload hc dX11_length_24 hw (fun t5 hw => ?_)
        refine R_aload_n (q := 0) (i := 0) (v := (some l0)) hc dX11_length_25 rfl rfl ?_
        refine R_getR hc fl_11_78 dX11_length_26 hw (fun t6 hw => ?_)
        refine R_iload_n (q := 2) (i := 2) (v := l2_12) hc dX11_length_29 rfl rfl ?_
        refine R_iaload hc dX11_length_30 hw (fun t7 hw => ?_)
        refine R_isub hc dX11_length_31 ?_
        refine R_goto (tgt := 36) hc dX11_length_32 (by decide) ?_
        refine R_iadd hc dX11_length_36 ?_
        refine R_nmI hw (fun l1_8 hw => ?_)
        refine R_istore_n (i := 1) (v := l1_8) hc [(1, .int l1_8), (0, rf x.w (some l0)), (2, .int l2_12)] dX11_length_37 rfl (hnl 1 (le_b rfl)) rfl ?_
        refine R_iinc (q := 2) (i := 2) (v := l2_12) hc [(2, .int (l2_12 + (1 : Int32))), (1, .int l1_8), (0, rf x.w (some l0))] dX11_length_38 rfl (kC_1 _) (hnl 2 (le_b rfl)) rfl ?_
        refine R_goto (tgt := 4) hc dX11_length_41 (by decide) ?_
        refine R_sub hc [2, 1, 0] rfl ?_
        exact hX (l1_8, l2_12 + (1 : Int32)) (wpO_some hw :)
theorem dX11_isSame_0 : decode cX11_isSame 0 = .ok (.iconst 0, 1) := by decide +kernel
theorem dX11_isSame_1 : decode cX11_isSame 1 = .ok (.istore_n 1, 1) := by decide +kernel
theorem dX11_isSame_2 : decode cX11_isSame 2 = .ok (.iload_n 1, 1) := by decide +kernel
theorem dX11_isSame_3 : decode cX11_isSame 3 = .ok (.aload_n 0, 1) := by decide +kernel
theorem dX11_isSame_4 : decode cX11_isSame 4 = .ok (.getfield 166, 3) := by decide +kernel
theorem dX11_isSame_7 : decode cX11_isSame 7 = .ok (.if_icmp .ge 65, 3) := by decide +kernel
theorem dX11_isSame_10 : decode cX11_isSame 10 = .ok (.aload_n 0, 1) := by decide +kernel
theorem dX11_isSame_11 : decode cX11_isSame 11 = .ok (.getfield 166, 3) := by decide +kernel
theorem dX11_isSame_14 : decode cX11_isSame 14 = .ok (.iconst 1, 1) := by decide +kernel
theorem dX11_isSame_15 : decode cX11_isSame 15 = .ok (.isub, 1) := by decide +kernel
theorem dX11_isSame_16 : decode cX11_isSame 16 = .ok (.iload_n 1, 1) := by decide +kernel
theorem dX11_isSame_17 : decode cX11_isSame 17 = .ok (.isub, 1) := by decide +kernel
theorem dX11_isSame_18 : decode cX11_isSame 18 = .ok (.istore_n 2, 1) := by decide +kernel
theorem dX11_isSame_19 : decode cX11_isSame 19 = .ok (.aload_n 0, 1) := by decide +kernel
theorem dX11_isSame_20 : decode cX11_isSame 20 = .ok (.getfield 54, 3) := by decide +kernel
theorem dX11_isSame_23 : decode cX11_isSame 23 = .ok (.iload_n 1, 1) := by decide +kernel
theorem dX11_isSame_24 : decode cX11_isSame 24 = .ok (.iaload, 1) := by decide +kernel
theorem dX11_isSame_25 : decode cX11_isSame 25 = .ok (.aload_n 0, 1) := by decide +kernel
theorem dX11_isSame_26 : decode cX11_isSame 26 = .ok (.getfield 54, 3) := by decide +kernel
theorem dX11_isSame_29 : decode cX11_isSame 29 = .ok (.iload_n 2, 1) := by decide +kernel
theorem dX11_isSame_30 : decode cX11_isSame 30 = .ok (.iaload, 1) := by decide +kernel
theorem dX11_isSame_31 : decode cX11_isSame 31 = .ok (.if_icmp .ne 33, 3) := by decide +kernel
theorem dX11_isSame_34 : decode cX11_isSame 34 = .ok (.aload_n 0, 1) := by decide +kernel
theorem dX11_isSame_35 : decode cX11_isSame 35 = .ok (.getfield 57, 3) := by decide +kernel
theorem dX11_isSame_38 : decode cX11_isSame 38 = .ok (.iload_n 1, 1) := by decide +kernel
theorem dX11_isSame_39 : decode cX11_isSame 39 = .ok (.iaload, 1) := by decide +kernel
theorem dX11_isSame_40 : decode cX11_isSame 40 = .ok (.aload_n 0, 1) := by decide +kernel
theorem dX11_isSame_41 : decode cX11_isSame 41 = .ok (.getfield 57, 3) := by decide +kernel
theorem dX11_isSame_44 : decode cX11_isSame 44 = .ok (.iload_n 2, 1) := by decide +kernel
theorem dX11_isSame_45 : decode cX11_isSame 45 = .ok (.iaload, 1) := by decide +kernel
theorem dX11_isSame_46 : decode cX11_isSame 46 = .ok (.if_icmp .ne 18, 3) := by decide +kernel
theorem dX11_isSame_49 : decode cX11_isSame 49 = .ok (.aload_n 0, 1) := by decide +kernel
theorem dX11_isSame_50 : decode cX11_isSame 50 = .ok (.getfield 60, 3) := by decide +kernel
theorem dX11_isSame_53 : decode cX11_isSame 53 = .ok (.iload_n 1, 1) := by decide +kernel
theorem dX11_isSame_54 : decode cX11_isSame 54 = .ok (.iaload, 1) := by decide +kernel
theorem dX11_isSame_55 : decode cX11_isSame 55 = .ok (.aload_n 0, 1) := by decide +kernel
theorem dX11_isSame_56 : decode cX11_isSame 56 = .ok (.getfield 60, 3) := by decide +kernel
theorem dX11_isSame_59 : decode cX11_isSame 59 = .ok (.iload_n 2, 1) := by decide +kernel
theorem dX11_isSame_60 : decode cX11_isSame 60 = .ok (.iaload, 1) := by decide +kernel
theorem dX11_isSame_61 : decode cX11_isSame 61 = .ok (.if_icmp .eq 5, 3) := by decide +kernel
theorem dX11_isSame_64 : decode cX11_isSame 64 = .ok (.iconst 0, 1) := by decide +kernel
theorem dX11_isSame_65 : decode cX11_isSame 65 = .ok (.ireturn, 1) := by decide +kernel
theorem dX11_isSame_66 : decode cX11_isSame 66 = .ok (.iinc 1 1, 3) := by decide +kernel
theorem dX11_isSame_69 : decode cX11_isSame 69 = .ok (.goto (-67), 3) := by decide +kernel
theorem dX11_isSame_72 : decode cX11_isSame 72 = .ok (.iconst 1, 1) := by decide +kernel
theorem dX11_isSame_73 : decode cX11_isSame 73 = .ok (.ireturn, 1) := by decide +kernel
def sX11_isSame_L2 (F : Nat) (l0 : Nat) (l1 : Int32) (h : HP) : Option (Int32 ⊕ (Unit ⊕ Int32)) :=
  (gI h 11 (some l0) 27).bind fun t1 =>
  if t1 ≤ l1 then
    some (.inr (.inl ()))
  else
    (gI h 11 (some l0) 27).bind fun t2 =>
    nmI ((t2 - (1 : Int32)) - l1) fun l2_3 =>
    (gR h 11 (some l0) 23).bind fun t4 =>
    (aI h 13 t4 l1).bind fun t5 =>
    (gR h 11 (some l0) 23).bind fun t6 =>
    (aI h 13 t6 l2_3).bind fun t7 =>
    if ¬ t5 = t7 then
      some (.inr (.inr (0 : Int32)))
    else
      (gR h 11 (some l0) 24).bind fun t8 =>
      (aI h 13 t8 l1).bind fun t9 =>
      (gR h 11 (some l0) 24).bind fun t10 =>
      (aI h 13 t10 l2_3).bind fun t11 =>
      if ¬ t9 = t11 then
        some (.inr (.inr (0 : Int32)))
      else
        (gR h 11 (some l0) 25).bind fun t12 =>
        (aI h 13 t12 l1).bind fun t13 =>
        (gR h 11 (some l0) 25).bind fun t14 =>
        (aI h 13 t14 l2_3).bind fun t15 =>
        if t13 = t15 then
          some (.inl (l1 + (1 : Int32)))
        else
          some (.inr (.inr (0 : Int32)))
def sX11_isSame (F : Nat) (l0 : Nat) (h : HP) : Option Int32 :=
  (iter (fun s => sX11_isSame_L2 F l0 s h) F (0 : Int32)).bind fun r => match r with
  | .inl _ =>
    some (1 : Int32)
  | .inr u16 => some u16
abbrev rm_X11_isSame : Room := { frames := 0, cells := 0, slots := 0, locals := 0 }
set_option maxRecDepth 100000 in
set_option maxHeartbeats 4000000 in
theorem mt_X11_isSame {w : WD} {l : Launch} {F : Nat} {l0 : Nat} {h : HP} {v : Int32} (hs : sX11_isSame F l0 h = some v) : MI w l yX11_isSame cX11_isSame 3 .boolean rm_X11_isSame 0 0 [rf w (some l0)] h v h := by
  refine of_body [(0, rf w (some l0))] (by decide) (by simp [lg_sl, rf_cat, cat_i, cat_l, cat_a]) (by simp [lv_args, rf_cat, cat_i, cat_l, cat_a]) ?_
  intro x hw_ hnL_ hl_ hc hret hnm hQ
  subst hw_; subst hl_
  have hnl : ∀ i, i < 3 → i < x.nL := fun i h => by rw [hnL_]; exact h
  have hw : wpO (sX11_isSame F l0 h) (fun r => r = v) := ⟨_, hs, rfl⟩
  unfold sX11_isSame at hw
  refine R_iconst (v := (0 : Int32)) hc dX11_isSame_0 kI_0 ?_
  refine R_istore_n (i := 1) (v := (0 : Int32)) hc [(1, .int (0 : Int32)), (0, rf x.w (some l0))] dX11_isSame_1 rfl (hnl 1 (le_b rfl)) rfl ?_
  refine R_sub hc [1, 0] rfl ?_
  refine R_loop (P := fun (s : Int32) => Rn x 0 0 2 [(0, rf x.w (some l0)), (1, .int s)] [] h) (fun r => match r with | .inl _ => Rn x 0 0 72 [] [] h | .inr u => u = v) hw (fun r hw => ?_) (fun X hX s hw => ?_)
  · cases r with
    | inl r =>
      revert hw
      intro hw
      show Rn x 0 0 72 [] [] h
      have hw : wpO (_) _ := hw
      refine R_iconst (v := (1 : Int32)) hc dX11_isSame_72 kI_1 ?_
      exact R_ireturnP hc hret rfl hQ hw dX11_isSame_73
    | inr u => exact (wpO_some hw :)
  · revert s hw
    intro l1_17 hw
    show Rn x 0 0 2 [(0, rf x.w (some l0)), (1, .int l1_17)] [] h
    have hw : wpO (sX11_isSame_L2 F l0 l1_17 h) _ := hw
    unfold sX11_isSame_L2 at hw
    refine R_iload_n (q := 1) (i := 1) (v := l1_17) hc dX11_isSame_2 rfl rfl ?_
    refine R_aload_n (q := 0) (i := 0) (v := (some l0)) hc dX11_isSame_3 rfl rfl ?_
    refine R_getI hc fl_11_166 dX11_isSame_4 hw (fun t1 hw => ?_)
    refine R_icmp_ge (tgt := 72) hc dX11_isSame_7 (by decide) hw (fun hw => ?_) (fun hw => ?_)
    · refine R_sub hc [] rfl ?_
      exact (wpO_some hw :)
    · refine R_aload_n (q := 0) (i := 0) (v := (some l0)) hc dX11_isSame_10 rfl rfl ?_
      refine R_getI hc fl_11_166 dX11_isSame_11 hw (fun t2 hw => ?_)
      refine R_iconst (v := (1 : Int32)) hc dX11_isSame_14 kI_1 ?_
      refine R_isub hc dX11_isSame_15 ?_
      refine R_iload_n (q := 1) (i := 1) (v := l1_17) hc dX11_isSame_16 rfl rfl ?_
      refine R_isub hc dX11_isSame_17 ?_
      refine R_nmI hw (fun l2_3 hw => ?_)
      refine R_istore_n (i := 2) (v := l2_3) hc [(2, .int l2_3), (0, rf x.w (some l0)), (1, .int l1_17)] dX11_isSame_18 rfl (hnl 2 (le_b rfl)) rfl ?_
      refine R_aload_n (q := 1) (i := 0) (v := (some l0)) hc dX11_isSame_19 rfl rfl ?_
      refine R_getR hc fl_11_54 dX11_isSame_20 hw (fun t4 hw => ?_)
      refine R_iload_n (q := 2) (i := 1) (v := l1_17) hc dX11_isSame_23 rfl rfl ?_
      refine R_iaload hc dX11_isSame_24 hw (fun t5 hw => ?_)
      refine R_aload_n (q := 1) (i := 0) (v := (some l0)) hc dX11_isSame_25 rfl rfl ?_
      refine R_getR hc fl_11_54 dX11_isSame_26 hw (fun t6 hw => ?_)
      refine R_iload_n (q := 0) (i := 2) (v := l2_3) hc dX11_isSame_29 rfl rfl ?_
      refine R_iaload hc dX11_isSame_30 hw (fun t7 hw => ?_)
      refine R_icmp_ne (tgt := 64) hc dX11_isSame_31 (by decide) hw (fun hw => ?_) (fun hw => ?_)
      · refine R_iconst (v := (0 : Int32)) hc dX11_isSame_64 kI_0 ?_
        exact R_ireturnP hc hret rfl hQ ⟨_, rfl, (wpO_some hw :)⟩ dX11_isSame_65
      · refine R_aload_n (q := 1) (i := 0) (v := (some l0)) hc dX11_isSame_34 rfl rfl ?_
        refine R_getR hc fl_11_57 dX11_isSame_35 hw (fun t8 hw => ?_)
        refine R_iload_n (q := 2) (i := 1) (v := l1_17) hc dX11_isSame_38 rfl rfl ?_
        refine R_iaload hc dX11_isSame_39 hw (fun t9 hw => ?_)
        refine R_aload_n (q := 1) (i := 0) (v := (some l0)) hc dX11_isSame_40 rfl rfl ?_
        refine R_getR hc fl_11_57 dX11_isSame_41 hw (fun t10 hw => ?_)
        refine R_iload_n (q := 0) (i := 2) (v := l2_3) hc dX11_isSame_44 rfl rfl ?_
        refine R_iaload hc dX11_isSame_45 hw (fun t11 hw => ?_)
        refine R_icmp_ne (tgt := 64) hc dX11_isSame_46 (by decide) hw (fun hw => ?_) (fun hw => ?_)
        · refine R_iconst (v := (0 : Int32)) hc dX11_isSame_64 kI_0 ?_
          exact R_ireturnP hc hret rfl hQ ⟨_, rfl, (wpO_some hw :)⟩ dX11_isSame_65
        · refine R_aload_n (q := 1) (i := 0) (v := (some l0)) hc dX11_isSame_49 rfl rfl ?_
          refine R_getR hc fl_11_60 dX11_isSame_50 hw (fun t12 hw => ?_)
          refine R_iload_n (q := 2) (i := 1) (v := l1_17) hc dX11_isSame_53 rfl rfl ?_
          refine R_iaload hc dX11_isSame_54 hw (fun t13 hw => ?_)
          refine R_aload_n (q := 1) (i := 0) (v := (some l0)) hc dX11_isSame_55 rfl rfl ?_
          refine R_getR hc fl_11_60 dX11_isSame_56 hw (fun t14 hw => ?_)
          refine R_iload_n (q := 0) (i := 2) (v := l2_3) hc dX11_isSame_59 rfl rfl ?_
          refine R_iaload hc dX11_isSame_60 hw (fun t15 hw => ?_)
          refine R_icmp_eq (tgt := 66) hc dX11_isSame_61 (by decide) hw (fun hw => ?_) (fun hw => ?_)
          · refine R_iinc (q := 2) (i := 1) (v := l1_17) hc [(1, .int (l1_17 + (1 : Int32))), (2, .int l2_3), (0, rf x.w (some l0))] dX11_isSame_66 rfl (kC_1 _) (hnl 1 (le_b rfl)) rfl ?_
            refine R_goto (tgt := 2) hc dX11_isSame_69 (by decide) ?_
            refine R_sub hc [2, 0] rfl ?_
            exact hX (l1_17 + (1 : Int32)) (wpO_some hw :)
          · refine R_iconst (v := (0 : Int32)) hc dX11_isSame_64 kI_0 ?_
            exact R_ireturnP hc hret rfl hQ ⟨_, rfl, (wpO_some hw :)⟩ dX11_isSame_65
theorem dX11_feed_0 : decode cX11_feed 0 = .ok (.aload_n 0, 1) := by decide +kernel
theorem dX11_feed_1 : decode cX11_feed 1 = .ok (.iconst 0, 1) := by decide +kernel
theorem dX11_feed_2 : decode cX11_feed 2 = .ok (.putfield 100, 3) := by decide +kernel
theorem dX11_feed_5 : decode cX11_feed 5 = .ok (.aload_n 0, 1) := by decide +kernel
theorem dX11_feed_6 : decode cX11_feed 6 = .ok (.getfield 223, 3) := by decide +kernel
theorem dX11_feed_9 : decode cX11_feed 9 = .ok (.bipush 20, 2) := by decide +kernel
theorem dX11_feed_11 : decode cX11_feed 11 = .ok (.iadd, 1) := by decide +kernel
theorem dX11_feed_12 : decode cX11_feed 12 = .ok (.sipush 400, 3) := by decide +kernel
theorem dX11_feed_15 : decode cX11_feed 15 = .ok (.if_icmp .le 5, 3) := by decide +kernel
theorem dX11_feed_18 : decode cX11_feed 18 = .ok (.iconst (-1), 1) := by decide +kernel
theorem dX11_feed_19 : decode cX11_feed 19 = .ok (.ireturn, 1) := by decide +kernel
theorem dX11_feed_20 : decode cX11_feed 20 = .ok (.iconst 0, 1) := by decide +kernel
theorem dX11_feed_21 : decode cX11_feed 21 = .ok (.istore 6, 2) := by decide +kernel
theorem dX11_feed_23 : decode cX11_feed 23 = .ok (.iload 6, 2) := by decide +kernel
theorem dX11_feed_25 : decode cX11_feed 25 = .ok (.bipush 20, 2) := by decide +kernel
theorem dX11_feed_27 : decode cX11_feed 27 = .ok (.if_icmp .ge 93, 3) := by decide +kernel
theorem dX11_feed_30 : decode cX11_feed 30 = .ok (.iload 6, 2) := by decide +kernel
theorem dX11_feed_32 : decode cX11_feed 32 = .ok (.iconst 4, 1) := by decide +kernel
theorem dX11_feed_33 : decode cX11_feed 33 = .ok (.if_icmp .ge 7, 3) := by decide +kernel
theorem dX11_feed_36 : decode cX11_feed 36 = .ok (.iload_n 1, 1) := by decide +kernel
theorem dX11_feed_37 : decode cX11_feed 37 = .ok (.goto 39, 3) := by decide +kernel
theorem dX11_feed_40 : decode cX11_feed 40 = .ok (.iload 6, 2) := by decide +kernel
theorem dX11_feed_42 : decode cX11_feed 42 = .ok (.bipush 8, 2) := by decide +kernel
theorem dX11_feed_44 : decode cX11_feed 44 = .ok (.if_icmp .ge 7, 3) := by decide +kernel
theorem dX11_feed_47 : decode cX11_feed 47 = .ok (.iload_n 2, 1) := by decide +kernel
theorem dX11_feed_48 : decode cX11_feed 48 = .ok (.goto 28, 3) := by decide +kernel
theorem dX11_feed_51 : decode cX11_feed 51 = .ok (.iload 6, 2) := by decide +kernel
theorem dX11_feed_53 : decode cX11_feed 53 = .ok (.bipush 12, 2) := by decide +kernel
theorem dX11_feed_55 : decode cX11_feed 55 = .ok (.if_icmp .ge 7, 3) := by decide +kernel
theorem dX11_feed_58 : decode cX11_feed 58 = .ok (.iload_n 3, 1) := by decide +kernel
theorem dX11_feed_59 : decode cX11_feed 59 = .ok (.goto 17, 3) := by decide +kernel
theorem dX11_feed_62 : decode cX11_feed 62 = .ok (.iload 6, 2) := by decide +kernel
theorem dX11_feed_64 : decode cX11_feed 64 = .ok (.bipush 16, 2) := by decide +kernel
theorem dX11_feed_66 : decode cX11_feed 66 = .ok (.if_icmp .ge 8, 3) := by decide +kernel
theorem dX11_feed_69 : decode cX11_feed 69 = .ok (.iload 4, 2) := by decide +kernel
theorem dX11_feed_71 : decode cX11_feed 71 = .ok (.goto 5, 3) := by decide +kernel
theorem dX11_feed_74 : decode cX11_feed 74 = .ok (.iload 5, 2) := by decide +kernel
theorem dX11_feed_76 : decode cX11_feed 76 = .ok (.istore 7, 2) := by decide +kernel
theorem dX11_feed_78 : decode cX11_feed 78 = .ok (.aload_n 0, 1) := by decide +kernel
theorem dX11_feed_79 : decode cX11_feed 79 = .ok (.getfield 19, 3) := by decide +kernel
theorem dX11_feed_82 : decode cX11_feed 82 = .ok (.aload_n 0, 1) := by decide +kernel
theorem dX11_feed_83 : decode cX11_feed 83 = .ok (.getfield 223, 3) := by decide +kernel
theorem dX11_feed_86 : decode cX11_feed 86 = .ok (.iload 7, 2) := by decide +kernel
theorem dX11_feed_88 : decode cX11_feed 88 = .ok (.bipush 24, 2) := by decide +kernel
theorem dX11_feed_90 : decode cX11_feed 90 = .ok (.bipush 8, 2) := by decide +kernel
theorem dX11_feed_92 : decode cX11_feed 92 = .ok (.iload 6, 2) := by decide +kernel
theorem dX11_feed_94 : decode cX11_feed 94 = .ok (.iconst 4, 1) := by decide +kernel
theorem dX11_feed_95 : decode cX11_feed 95 = .ok (.irem, 1) := by decide +kernel
theorem dX11_feed_96 : decode cX11_feed 96 = .ok (.imul, 1) := by decide +kernel
theorem dX11_feed_97 : decode cX11_feed 97 = .ok (.isub, 1) := by decide +kernel
theorem dX11_feed_98 : decode cX11_feed 98 = .ok (.iushr, 1) := by decide +kernel
theorem dX11_feed_99 : decode cX11_feed 99 = .ok (.sipush 255, 3) := by decide +kernel
theorem dX11_feed_102 : decode cX11_feed 102 = .ok (.iand, 1) := by decide +kernel
theorem dX11_feed_103 : decode cX11_feed 103 = .ok (.iastore, 1) := by decide +kernel
theorem dX11_feed_104 : decode cX11_feed 104 = .ok (.aload_n 0, 1) := by decide +kernel
theorem dX11_feed_105 : decode cX11_feed 105 = .ok (.dup, 1) := by decide +kernel
theorem dX11_feed_106 : decode cX11_feed 106 = .ok (.getfield 223, 3) := by decide +kernel
theorem dX11_feed_109 : decode cX11_feed 109 = .ok (.iconst 1, 1) := by decide +kernel
theorem dX11_feed_110 : decode cX11_feed 110 = .ok (.iadd, 1) := by decide +kernel
theorem dX11_feed_111 : decode cX11_feed 111 = .ok (.putfield 223, 3) := by decide +kernel
theorem dX11_feed_114 : decode cX11_feed 114 = .ok (.iinc 6 1, 3) := by decide +kernel
theorem dX11_feed_117 : decode cX11_feed 117 = .ok (.goto (-94), 3) := by decide +kernel
theorem dX11_feed_120 : decode cX11_feed 120 = .ok (.aload_n 0, 1) := by decide +kernel
theorem dX11_feed_121 : decode cX11_feed 121 = .ok (.getfield 223, 3) := by decide +kernel
theorem dX11_feed_124 : decode cX11_feed 124 = .ok (.ireturn, 1) := by decide +kernel
def sX11_feed_L23 (F : Nat) (l0 : Nat) (l1 : Int32) (l2 : Int32) (l3 : Int32) (l4 : Int32) (l5 : Int32) (l6 : Int32) (h : HP) : Option ((Int32 × HP) ⊕ HP) :=
  if (20 : Int32) ≤ l6 then
    some (.inr h)
  else
    (if (4 : Int32) ≤ l6 then
        if (8 : Int32) ≤ l6 then
          if (12 : Int32) ≤ l6 then
            if (16 : Int32) ≤ l6 then
              some l5
            else
              some l4
          else
            some l3
        else
          some l2
      else
        some l1).bind fun s3 =>
    (gR h 11 (some l0) 6).bind fun t4 =>
    (gI h 11 (some l0) 7).bind fun t5 =>
    (sI h t4 t5 ((jush s3 ((24 : Int32) - ((8 : Int32) * (jrem l6 (4 : Int32))))) &&& (255 : Int32))).bind fun h6 =>
    (gI h6 11 (some l0) 7).bind fun t7 =>
    (pI h6 11 (some l0) 7 (t7 + (1 : Int32))).bind fun h8 =>
    some (.inl (l6 + (1 : Int32), h8))
def sX11_feed (F : Nat) (l0 : Nat) (l1 : Int32) (l2 : Int32) (l3 : Int32) (l4 : Int32) (l5 : Int32) (h : HP) : Option (Int32 × HP) :=
  (pI h 11 (some l0) 0 (0 : Int32)).bind fun h1 =>
  (gI h1 11 (some l0) 7).bind fun t2 =>
  if (t2 + (20 : Int32)) ≤ (400 : Int32) then
    (iter (fun s => sX11_feed_L23 F l0 l1 l2 l3 l4 l5 s.1 s.2) F ((0 : Int32), h1)).bind fun h9 =>
      (gI h9 11 (some l0) 7).bind fun t10 =>
      some (t10, h9)
  else
    some ((-1 : Int32), h1)
abbrev rm_X11_feed : Room := { frames := 0, cells := 0, slots := 0, locals := 0 }
set_option maxRecDepth 100000 in
set_option maxHeartbeats 4000000 in
theorem mt_X11_feed {w : WD} {l : Launch} {F : Nat} {l0 : Nat} {l1 : Int32} {l2 : Int32} {l3 : Int32} {l4 : Int32} {l5 : Int32} {h : HP} {v : Int32} {h' : HP} (hs : sX11_feed F l0 l1 l2 l3 l4 l5 h = some (v, h')) : MI w l yX11_feed cX11_feed 8 .int rm_X11_feed 0 0 [rf w (some l0), .int l1, .int l2, .int l3, .int l4, .int l5] h v h' := by
  refine of_body [(0, rf w (some l0)), (1, .int l1), (2, .int l2), (3, .int l3), (4, .int l4), (5, .int l5)] (by decide) (by simp [lg_sl, rf_cat, cat_i, cat_l, cat_a]) (by simp [lv_args, rf_cat, cat_i, cat_l, cat_a]) ?_
  intro x hw_ hnL_ hl_ hc hret hnm hQ
  subst hw_; subst hl_
  have hnl : ∀ i, i < 8 → i < x.nL := fun i h => by rw [hnL_]; exact h
  have hw : wpO (sX11_feed F l0 l1 l2 l3 l4 l5 h) (fun r => r = (v, h')) := ⟨_, hs, rfl⟩
  unfold sX11_feed at hw
  refine R_aload_n (q := 0) (i := 0) (v := (some l0)) hc dX11_feed_0 rfl rfl ?_
  refine R_iconst (v := (0 : Int32)) hc dX11_feed_1 kI_0 ?_
  refine R_putI hc pl_11_100 rfl rfl dX11_feed_2 hw (fun h1 hw => ?_)
  refine R_aload_n (q := 0) (i := 0) (v := (some l0)) hc dX11_feed_5 rfl rfl ?_
  refine R_getI hc fl_11_223 dX11_feed_6 hw (fun t2 hw => ?_)
  refine R_bipush (v := (20 : Int32)) hc dX11_feed_9 kB_20 ?_
  refine R_iadd hc dX11_feed_11 ?_
  refine R_sipush (v := (400 : Int32)) hc dX11_feed_12 kS_400 ?_
  refine R_icmp_le (tgt := 20) hc dX11_feed_15 (by decide) hw (fun hw => ?_) (fun hw => ?_)
  · refine R_iconst (v := (0 : Int32)) hc dX11_feed_20 kI_0 ?_
    refine R_istore (i := 6) (v := (0 : Int32)) hc [(6, .int (0 : Int32)), (0, rf x.w (some l0)), (1, .int l1), (2, .int l2), (3, .int l3), (4, .int l4), (5, .int l5)] dX11_feed_21 (hnl 6 (le_b rfl)) rfl ?_
    refine R_sub hc [1, 2, 3, 4, 5, 6, 0] rfl ?_
    refine R_loop (P := fun (s : (Int32 × HP)) => Rn x 0 0 23 [(0, rf x.w (some l0)), (1, .int l1), (2, .int l2), (3, .int l3), (4, .int l4), (5, .int l5), (6, .int s.1)] [] s.2) (fun h9 => Rn x 0 0 120 [(0, rf x.w (some l0))] [] h9) hw (fun r hw => ?_) (fun X hX s hw => ?_)
    · revert r hw
      intro h9 hw
      show Rn x 0 0 120 [(0, rf x.w (some l0))] [] h9
      refine R_aload_n (q := 0) (i := 0) (v := (some l0)) hc dX11_feed_120 rfl rfl ?_
      refine R_getI hc fl_11_223 dX11_feed_121 hw (fun t10 hw => ?_)
      exact R_ireturn hc hret rfl hQ hw dX11_feed_124
    · obtain ⟨l6_12, h13⟩ := s
      show Rn x 0 0 23 [(0, rf x.w (some l0)), (1, .int l1), (2, .int l2), (3, .int l3), (4, .int l4), (5, .int l5), (6, .int l6_12)] [] h13
      have hw : wpO (sX11_feed_L23 F l0 l1 l2 l3 l4 l5 l6_12 h13) _ := hw
      unfold sX11_feed_L23 at hw
      refine R_iload (q := 6) (i := 6) (v := l6_12) hc dX11_feed_23 rfl ?_
      refine R_bipush (v := (20 : Int32)) hc dX11_feed_25 kB_20 ?_
      refine R_icmp_ge (tgt := 120) hc dX11_feed_27 (by decide) hw (fun hw => ?_) (fun hw => ?_)
      · refine R_sub hc [0] rfl ?_
        exact (wpO_some hw :)
      · refine R_iload (q := 6) (i := 6) (v := l6_12) hc dX11_feed_30 rfl ?_
        refine R_iconst (v := (4 : Int32)) hc dX11_feed_32 kI_4 ?_
        refine R_join (fun (s3 : Int32) => Rn x 0 0 76 [(0, rf x.w (some l0)), (1, .int l1), (2, .int l2), (3, .int l3), (4, .int l4), (5, .int l5), (6, .int l6_12)] [.int s3] h13) hw (fun r hw => ?_) (fun hw => ?_)
        · revert r hw
          intro s3 hw
          show Rn x 0 0 76 [(0, rf x.w (some l0)), (1, .int l1), (2, .int l2), (3, .int l3), (4, .int l4), (5, .int l5), (6, .int l6_12)] [.int s3] h13
          refine R_istore (i := 7) (v := s3) hc [(7, .int s3), (0, rf x.w (some l0)), (1, .int l1), (2, .int l2), (3, .int l3), (4, .int l4), (5, .int l5), (6, .int l6_12)] dX11_feed_76 (hnl 7 (le_b rfl)) rfl ?_
          refine R_aload_n (q := 1) (i := 0) (v := (some l0)) hc dX11_feed_78 rfl rfl ?_
          refine R_getR hc fl_11_19 dX11_feed_79 hw (fun t4 hw => ?_)
          refine R_aload_n (q := 1) (i := 0) (v := (some l0)) hc dX11_feed_82 rfl rfl ?_
          refine R_getI hc fl_11_223 dX11_feed_83 hw (fun t5 hw => ?_)
          refine R_iload (q := 0) (i := 7) (v := s3) hc dX11_feed_86 rfl ?_
          refine R_bipush (v := (24 : Int32)) hc dX11_feed_88 kB_24 ?_
          refine R_bipush (v := (8 : Int32)) hc dX11_feed_90 kB_8 ?_
          refine R_iload (q := 7) (i := 6) (v := l6_12) hc dX11_feed_92 rfl ?_
          refine R_iconst (v := (4 : Int32)) hc dX11_feed_94 kI_4 ?_
          refine R_iremL hc dX11_feed_95 (by decide) ?_
          refine R_imul hc dX11_feed_96 ?_
          refine R_isub hc dX11_feed_97 ?_
          refine R_iushr hc dX11_feed_98 ?_
          refine R_sipush (v := (255 : Int32)) hc dX11_feed_99 kS_255 ?_
          refine R_iand hc dX11_feed_102 ?_
          refine R_iastore hc dX11_feed_103 hw (fun h6 hw => ?_)
          refine R_aload_n (q := 1) (i := 0) (v := (some l0)) hc dX11_feed_104 rfl rfl ?_
          refine R_dup hc dX11_feed_105 (rf_cat _ _) ?_
          refine R_getI hc fl_11_223 dX11_feed_106 hw (fun t7 hw => ?_)
          refine R_iconst (v := (1 : Int32)) hc dX11_feed_109 kI_1 ?_
          refine R_iadd hc dX11_feed_110 ?_
          refine R_putI hc pl_11_223 rfl rfl dX11_feed_111 hw (fun h8 hw => ?_)
          refine R_iinc (q := 7) (i := 6) (v := l6_12) hc [(6, .int (l6_12 + (1 : Int32))), (7, .int s3), (0, rf x.w (some l0)), (1, .int l1), (2, .int l2), (3, .int l3), (4, .int l4), (5, .int l5)] dX11_feed_114 rfl (kC_1 _) (hnl 6 (le_b rfl)) rfl ?_
          refine R_goto (tgt := 23) hc dX11_feed_117 (by decide) ?_
          refine R_sub hc [2, 3, 4, 5, 6, 7, 0] rfl ?_
          exact hX (l6_12 + (1 : Int32), h8) (wpO_some hw :)
        · refine R_icmp_ge (tgt := 40) hc dX11_feed_33 (by decide) hw (fun hw => ?_) (fun hw => ?_)
          · refine R_iload (q := 6) (i := 6) (v := l6_12) hc dX11_feed_40 rfl ?_
            refine R_bipush (v := (8 : Int32)) hc dX11_feed_42 kB_8 ?_
            refine R_icmp_ge (tgt := 51) hc dX11_feed_44 (by decide) hw (fun hw => ?_) (fun hw => ?_)
            · refine R_iload (q := 6) (i := 6) (v := l6_12) hc dX11_feed_51 rfl ?_
              refine R_bipush (v := (12 : Int32)) hc dX11_feed_53 kB_12 ?_
              refine R_icmp_ge (tgt := 62) hc dX11_feed_55 (by decide) hw (fun hw => ?_) (fun hw => ?_)
              · refine R_iload (q := 6) (i := 6) (v := l6_12) hc dX11_feed_62 rfl ?_
                refine R_bipush (v := (16 : Int32)) hc dX11_feed_64 kB_16 ?_
                refine R_icmp_ge (tgt := 74) hc dX11_feed_66 (by decide) hw (fun hw => ?_) (fun hw => ?_)
                · refine R_iload (q := 5) (i := 5) (v := l5) hc dX11_feed_74 rfl ?_
                  refine R_sub hc [0, 1, 2, 3, 4, 5, 6] rfl ?_
                  exact (wpO_some hw :)
                · refine R_iload (q := 4) (i := 4) (v := l4) hc dX11_feed_69 rfl ?_
                  refine R_goto (tgt := 76) hc dX11_feed_71 (by decide) ?_
                  refine R_sub hc [0, 1, 2, 3, 4, 5, 6] rfl ?_
                  exact (wpO_some hw :)
              · refine R_iload_n (q := 3) (i := 3) (v := l3) hc dX11_feed_58 rfl rfl ?_
                refine R_goto (tgt := 76) hc dX11_feed_59 (by decide) ?_
                refine R_sub hc [0, 1, 2, 3, 4, 5, 6] rfl ?_
                exact (wpO_some hw :)
            · refine R_iload_n (q := 2) (i := 2) (v := l2) hc dX11_feed_47 rfl rfl ?_
              refine R_goto (tgt := 76) hc dX11_feed_48 (by decide) ?_
              refine R_sub hc [0, 1, 2, 3, 4, 5, 6] rfl ?_
              exact (wpO_some hw :)
          · refine R_iload_n (q := 1) (i := 1) (v := l1) hc dX11_feed_36 rfl rfl ?_
            refine R_goto (tgt := 76) hc dX11_feed_37 (by decide) ?_
            refine R_sub hc [0, 1, 2, 3, 4, 5, 6] rfl ?_
            exact (wpO_some hw :)
  · refine R_iconst (v := (-1 : Int32)) hc dX11_feed_18 kI_m1 ?_
    exact R_ireturn hc hret rfl hQ hw dX11_feed_19
theorem dX11_end_0 : decode cX11_end 0 = .ok (.aload_n 0, 1) := by decide +kernel
theorem dX11_end_1 : decode cX11_end 1 = .ok (.iconst 0, 1) := by decide +kernel
theorem dX11_end_2 : decode cX11_end 2 = .ok (.putfield 100, 3) := by decide +kernel
theorem dX11_end_5 : decode cX11_end 5 = .ok (.iload_n 1, 1) := by decide +kernel
theorem dX11_end_6 : decode cX11_end 6 = .ok (.iconst 0, 1) := by decide +kernel
theorem dX11_end_7 : decode cX11_end 7 = .ok (.aload_n 0, 1) := by decide +kernel
theorem dX11_end_8 : decode cX11_end 8 = .ok (.getfield 223, 3) := by decide +kernel
theorem dX11_end_11 : decode cX11_end 11 = .ok (.invokestatic 107, 3) := by decide +kernel
theorem dX11_end_14 : decode cX11_end 14 = .ok (.ifCond .ne 5, 3) := by decide +kernel
theorem dX11_end_17 : decode cX11_end 17 = .ok (.iconst 0, 1) := by decide +kernel
theorem dX11_end_18 : decode cX11_end 18 = .ok (.ireturn, 1) := by decide +kernel
theorem dX11_end_19 : decode cX11_end 19 = .ok (.aload_n 0, 1) := by decide +kernel
theorem dX11_end_20 : decode cX11_end 20 = .ok (.iload_n 1, 1) := by decide +kernel
theorem dX11_end_21 : decode cX11_end 21 = .ok (.putfield 223, 3) := by decide +kernel
theorem dX11_end_24 : decode cX11_end 24 = .ok (.iconst 1, 1) := by decide +kernel
theorem dX11_end_25 : decode cX11_end 25 = .ok (.ireturn, 1) := by decide +kernel
def sX11_end (F : Nat) (l0 : Nat) (l1 : Int32) (h : HP) : Option (Int32 × HP) :=
  (pI h 11 (some l0) 0 (0 : Int32)).bind fun h1 =>
  (gI h1 11 (some l0) 7).bind fun t2 =>
  (sX11_isIn F l1 (0 : Int32) t2 h1).bind fun t3 =>
  if ¬ t3 = 0 then
    (pI h1 11 (some l0) 7 l1).bind fun h4 =>
    some ((1 : Int32), h4)
  else
    some ((0 : Int32), h1)
abbrev rm_X11_end : Room := { frames := 1, cells := 0, slots := 0, locals := 22 }
set_option maxRecDepth 100000 in
set_option maxHeartbeats 4000000 in
theorem mt_X11_end {w : WD} {l : Launch} {F : Nat} {l0 : Nat} {l1 : Int32} {h : HP} {v : Int32} {h' : HP} (hs : sX11_end F l0 l1 h = some (v, h')) : MI w l yX11_end cX11_end 2 .boolean rm_X11_end 0 0 [rf w (some l0), .int l1] h v h' := by
  refine of_body [(0, rf w (some l0)), (1, .int l1)] (by decide) (by simp [lg_sl, rf_cat, cat_i, cat_l, cat_a]) (by simp [lv_args, rf_cat, cat_i, cat_l, cat_a]) ?_
  intro x hw_ hnL_ hl_ hc hret hnm hQ
  subst hw_; subst hl_
  have hnl : ∀ i, i < 2 → i < x.nL := fun i h => by rw [hnL_]; exact h
  have hw : wpO (sX11_end F l0 l1 h) (fun r => r = (v, h')) := ⟨_, hs, rfl⟩
  unfold sX11_end at hw
  refine R_aload_n (q := 0) (i := 0) (v := (some l0)) hc dX11_end_0 rfl rfl ?_
  refine R_iconst (v := (0 : Int32)) hc dX11_end_1 kI_0 ?_
  refine R_putI hc pl_11_100 rfl rfl dX11_end_2 hw (fun h1 hw => ?_)
  refine R_iload_n (q := 1) (i := 1) (v := l1) hc dX11_end_5 rfl rfl ?_
  refine R_iconst (v := (0 : Int32)) hc dX11_end_6 kI_0 ?_
  refine R_aload_n (q := 0) (i := 0) (v := (some l0)) hc dX11_end_7 rfl rfl ?_
  refine R_getI hc fl_11_223 dX11_end_8 hw (fun t2 hw => ?_)
  refine R_cSI (As := [.int l1, .int (0 : Int32), .int t2]) (rest := []) hc ml_11_107 mf_X11_isIn ⟨rfl, rfl⟩ ⟨le_b rfl, le_b rfl⟩ ⟨Nat.zero_le _, Nat.zero_le _⟩ (fun v e => mt_X11_isIn e) rfl rfl (Nat.zero_le _) dX11_end_11 hw (fun t3 hw => ?_)
  refine R_if_ne (tgt := 19) hc dX11_end_14 (by decide) hw (fun hw => ?_) (fun hw => ?_)
  · refine R_aload_n (q := 0) (i := 0) (v := (some l0)) hc dX11_end_19 rfl rfl ?_
    refine R_iload_n (q := 1) (i := 1) (v := l1) hc dX11_end_20 rfl rfl ?_
    refine R_putI hc pl_11_223 rfl rfl dX11_end_21 hw (fun h4 hw => ?_)
    refine R_iconst (v := (1 : Int32)) hc dX11_end_24 kI_1 ?_
    exact R_ireturn hc hret rfl hQ hw dX11_end_25
  · refine R_iconst (v := (0 : Int32)) hc dX11_end_17 kI_0 ?_
    exact R_ireturn hc hret rfl hQ hw dX11_end_18
theorem dX11_here_0 : decode cX11_here 0 = .ok (.aload_n 0, 1) := by decide +kernel
theorem dX11_here_1 : decode cX11_here 1 = .ok (.getfield 226, 3) := by decide +kernel
theorem dX11_here_4 : decode cX11_here 4 = .ok (.aload_n 0, 1) := by decide +kernel
theorem dX11_here_5 : decode cX11_here 5 = .ok (.getfield 229, 3) := by decide +kernel
theorem dX11_here_8 : decode cX11_here 8 = .ok (.if_icmp .ge 30, 3) := by decide +kernel
theorem dX11_here_11 : decode cX11_here 11 = .ok (.aload_n 0, 1) := by decide +kernel
theorem dX11_here_12 : decode cX11_here 12 = .ok (.getfield 19, 3) := by decide +kernel
theorem dX11_here_15 : decode cX11_here 15 = .ok (.aload_n 0, 1) := by decide +kernel
theorem dX11_here_16 : decode cX11_here 16 = .ok (.getfield 226, 3) := by decide +kernel
theorem dX11_here_19 : decode cX11_here 19 = .ok (.iaload, 1) := by decide +kernel
theorem dX11_here_20 : decode cX11_here 20 = .ok (.bipush 32, 2) := by decide +kernel
theorem dX11_here_22 : decode cX11_here 22 = .ok (.if_icmp .ne 16, 3) := by decide +kernel
theorem dX11_here_25 : decode cX11_here 25 = .ok (.aload_n 0, 1) := by decide +kernel
theorem dX11_here_26 : decode cX11_here 26 = .ok (.dup, 1) := by decide +kernel
theorem dX11_here_27 : decode cX11_here 27 = .ok (.getfield 226, 3) := by decide +kernel
theorem dX11_here_30 : decode cX11_here 30 = .ok (.iconst 1, 1) := by decide +kernel
theorem dX11_here_31 : decode cX11_here 31 = .ok (.iadd, 1) := by decide +kernel
theorem dX11_here_32 : decode cX11_here 32 = .ok (.putfield 226, 3) := by decide +kernel
theorem dX11_here_35 : decode cX11_here 35 = .ok (.goto (-35), 3) := by decide +kernel
theorem dX11_here_38 : decode cX11_here 38 = .ok (.aload_n 0, 1) := by decide +kernel
theorem dX11_here_39 : decode cX11_here 39 = .ok (.getfield 226, 3) := by decide +kernel
theorem dX11_here_42 : decode cX11_here 42 = .ok (.ireturn, 1) := by decide +kernel
def sX11_here_L0 (F : Nat) (l0 : Nat) (h : HP) : Option (HP ⊕ HP) :=
  (gI h 11 (some l0) 9).bind fun t1 =>
  (gI h 11 (some l0) 8).bind fun t2 =>
  if t2 ≤ t1 then
    some (.inr h)
  else
    (gR h 11 (some l0) 6).bind fun t3 =>
    (gI h 11 (some l0) 9).bind fun t4 =>
    (aI h 13 t3 t4).bind fun t5 =>
    if ¬ t5 = (32 : Int32) then
      some (.inr h)
    else
      (gI h 11 (some l0) 9).bind fun t6 =>
      (pI h 11 (some l0) 9 (t6 + (1 : Int32))).bind fun h7 =>
      some (.inl h7)
def sX11_here (F : Nat) (l0 : Nat) (h : HP) : Option (Int32 × HP) :=
  (iter (fun s => sX11_here_L0 F l0 s) F h).bind fun h8 =>
    (gI h8 11 (some l0) 9).bind fun t9 =>
    some (t9, h8)
abbrev rm_X11_here : Room := { frames := 0, cells := 0, slots := 0, locals := 0 }
set_option maxRecDepth 100000 in
set_option maxHeartbeats 4000000 in
theorem mt_X11_here {w : WD} {l : Launch} {F : Nat} {l0 : Nat} {h : HP} {v : Int32} {h' : HP} (hs : sX11_here F l0 h = some (v, h')) : MI w l yX11_here cX11_here 1 .int rm_X11_here 0 0 [rf w (some l0)] h v h' := by
  refine of_body [(0, rf w (some l0))] (by decide) (by simp [lg_sl, rf_cat, cat_i, cat_l, cat_a]) (by simp [lv_args, rf_cat, cat_i, cat_l, cat_a]) ?_
  intro x hw_ hnL_ hl_ hc hret hnm hQ
  subst hw_; subst hl_
  have hnl : ∀ i, i < 1 → i < x.nL := fun i h => by rw [hnL_]; exact h
  have hw : wpO (sX11_here F l0 h) (fun r => r = (v, h')) := ⟨_, hs, rfl⟩
  unfold sX11_here at hw
  refine R_sub hc [0] rfl ?_
  refine R_loop (P := fun (s : HP) => Rn x 0 0 0 [(0, rf x.w (some l0))] [] s) (fun h8 => Rn x 0 0 38 [(0, rf x.w (some l0))] [] h8) hw (fun r hw => ?_) (fun X hX s hw => ?_)
  · revert r hw
    intro h8 hw
    show Rn x 0 0 38 [(0, rf x.w (some l0))] [] h8
    refine R_aload_n (q := 0) (i := 0) (v := (some l0)) hc dX11_here_38 rfl rfl ?_
    refine R_getI hc fl_11_226 dX11_here_39 hw (fun t9 hw => ?_)
    exact R_ireturn hc hret rfl hQ hw dX11_here_42
  · revert s hw
    intro h11 hw
    show Rn x 0 0 0 [(0, rf x.w (some l0))] [] h11
    have hw : wpO (sX11_here_L0 F l0 h11) _ := hw
    unfold sX11_here_L0 at hw
    refine R_aload_n (q := 0) (i := 0) (v := (some l0)) hc dX11_here_0 rfl rfl ?_
    refine R_getI hc fl_11_226 dX11_here_1 hw (fun t1 hw => ?_)
    refine R_aload_n (q := 0) (i := 0) (v := (some l0)) hc dX11_here_4 rfl rfl ?_
    refine R_getI hc fl_11_229 dX11_here_5 hw (fun t2 hw => ?_)
    refine R_icmp_ge (tgt := 38) hc dX11_here_8 (by decide) hw (fun hw => ?_) (fun hw => ?_)
    · refine R_sub hc [0] rfl ?_
      exact (wpO_some hw :)
    · refine R_aload_n (q := 0) (i := 0) (v := (some l0)) hc dX11_here_11 rfl rfl ?_
      refine R_getR hc fl_11_19 dX11_here_12 hw (fun t3 hw => ?_)
      refine R_aload_n (q := 0) (i := 0) (v := (some l0)) hc dX11_here_15 rfl rfl ?_
      refine R_getI hc fl_11_226 dX11_here_16 hw (fun t4 hw => ?_)
      refine R_iaload hc dX11_here_19 hw (fun t5 hw => ?_)
      refine R_bipush (v := (32 : Int32)) hc dX11_here_20 kB_32 ?_
      refine R_icmp_ne (tgt := 38) hc dX11_here_22 (by decide) hw (fun hw => ?_) (fun hw => ?_)
      · refine R_sub hc [0] rfl ?_
        exact (wpO_some hw :)
      · refine R_aload_n (q := 0) (i := 0) (v := (some l0)) hc dX11_here_25 rfl rfl ?_
        refine R_dup hc dX11_here_26 (rf_cat _ _) ?_
        refine R_getI hc fl_11_226 dX11_here_27 hw (fun t6 hw => ?_)
        refine R_iconst (v := (1 : Int32)) hc dX11_here_30 kI_1 ?_
        refine R_iadd hc dX11_here_31 ?_
        refine R_putI hc pl_11_226 rfl rfl dX11_here_32 hw (fun h7 hw => ?_)
        refine R_goto (tgt := 0) hc dX11_here_35 (by decide) ?_
        refine R_sub hc [0] rfl ?_
        exact hX h7 (wpO_some hw :)
theorem dX11_wrong_0 : decode cX11_wrong 0 = .ok (.aload_n 0, 1) := by decide +kernel
theorem dX11_wrong_1 : decode cX11_wrong 1 = .ok (.getfield 22, 3) := by decide +kernel
theorem dX11_wrong_4 : decode cX11_wrong 4 = .ok (.iconst (-1), 1) := by decide +kernel
theorem dX11_wrong_5 : decode cX11_wrong 5 = .ok (.if_icmp .ne 8, 3) := by decide +kernel
theorem dX11_wrong_8 : decode cX11_wrong 8 = .ok (.aload_n 0, 1) := by decide +kernel
theorem dX11_wrong_9 : decode cX11_wrong 9 = .ok (.iload_n 1, 1) := by decide +kernel
theorem dX11_wrong_10 : decode cX11_wrong 10 = .ok (.putfield 22, 3) := by decide +kernel
theorem dX11_wrong_13 : decode cX11_wrong 13 = .ok (.return_, 1) := by decide +kernel
def sX11_wrong (F : Nat) (l0 : Nat) (l1 : Int32) (h : HP) : Option HP :=
  (gI h 11 (some l0) 10).bind fun t1 =>
  if ¬ t1 = (-1 : Int32) then
    some h
  else
    (pI h 11 (some l0) 10 l1).bind fun h2 =>
    some h2
abbrev rm_X11_wrong : Room := { frames := 0, cells := 0, slots := 0, locals := 0 }
set_option maxRecDepth 100000 in
set_option maxHeartbeats 4000000 in
theorem mt_X11_wrong {w : WD} {l : Launch} {F : Nat} {l0 : Nat} {l1 : Int32} {h : HP} {h' : HP} (hs : sX11_wrong F l0 l1 h = some h') : MV w l yX11_wrong cX11_wrong 2 rm_X11_wrong 0 0 [rf w (some l0), .int l1] h h' := by
  refine of_body [(0, rf w (some l0)), (1, .int l1)] (by decide) (by simp [lg_sl, rf_cat, cat_i, cat_l, cat_a]) (by simp [lv_args, rf_cat, cat_i, cat_l, cat_a]) ?_
  intro x hw_ hnL_ hl_ hc hret hnm hQ
  subst hw_; subst hl_
  have hnl : ∀ i, i < 2 → i < x.nL := fun i h => by rw [hnL_]; exact h
  have hw : wpO (sX11_wrong F l0 l1 h) (fun r => r = h') := ⟨_, hs, rfl⟩
  unfold sX11_wrong at hw
  refine R_aload_n (q := 0) (i := 0) (v := (some l0)) hc dX11_wrong_0 rfl rfl ?_
  refine R_getI hc fl_11_22 dX11_wrong_1 hw (fun t1 hw => ?_)
  refine R_iconst (v := (-1 : Int32)) hc dX11_wrong_4 kI_m1 ?_
  refine R_icmp_ne (tgt := 13) hc dX11_wrong_5 (by decide) hw (fun hw => ?_) (fun hw => ?_)
  · exact R_return hc hret hQ hw dX11_wrong_13
  · refine R_aload_n (q := 0) (i := 0) (v := (some l0)) hc dX11_wrong_8 rfl rfl ?_
    refine R_iload_n (q := 1) (i := 1) (v := l1) hc dX11_wrong_9 rfl rfl ?_
    refine R_putI hc pl_11_22 rfl rfl dX11_wrong_10 hw (fun h2 hw => ?_)
    exact R_return hc hret hQ hw dX11_wrong_13
theorem dX11_number_0 : decode cX11_number 0 = .ok (.aload_n 0, 1) := by decide +kernel
theorem dX11_number_1 : decode cX11_number 1 = .ok (.getfield 22, 3) := by decide +kernel
theorem dX11_number_4 : decode cX11_number 4 = .ok (.iconst (-1), 1) := by decide +kernel
theorem dX11_number_5 : decode cX11_number 5 = .ok (.if_icmp .eq 5, 3) := by decide +kernel
theorem dX11_number_8 : decode cX11_number 8 = .ok (.iconst 0, 1) := by decide +kernel
theorem dX11_number_9 : decode cX11_number 9 = .ok (.ireturn, 1) := by decide +kernel
theorem dX11_number_10 : decode cX11_number 10 = .ok (.aload_n 0, 1) := by decide +kernel
theorem dX11_number_11 : decode cX11_number 11 = .ok (.invokevirtual 232, 3) := by decide +kernel
theorem dX11_number_14 : decode cX11_number 14 = .ok (.istore_n 3, 1) := by decide +kernel
theorem dX11_number_15 : decode cX11_number 15 = .ok (.iconst 0, 1) := by decide +kernel
theorem dX11_number_16 : decode cX11_number 16 = .ok (.istore 4, 2) := by decide +kernel
theorem dX11_number_18 : decode cX11_number 18 = .ok (.aload_n 0, 1) := by decide +kernel
theorem dX11_number_19 : decode cX11_number 19 = .ok (.getfield 226, 3) := by decide +kernel
theorem dX11_number_22 : decode cX11_number 22 = .ok (.aload_n 0, 1) := by decide +kernel
theorem dX11_number_23 : decode cX11_number 23 = .ok (.getfield 229, 3) := by decide +kernel
theorem dX11_number_26 : decode cX11_number 26 = .ok (.if_icmp .ge 65, 3) := by decide +kernel
theorem dX11_number_29 : decode cX11_number 29 = .ok (.aload_n 0, 1) := by decide +kernel
theorem dX11_number_30 : decode cX11_number 30 = .ok (.getfield 19, 3) := by decide +kernel
theorem dX11_number_33 : decode cX11_number 33 = .ok (.aload_n 0, 1) := by decide +kernel
theorem dX11_number_34 : decode cX11_number 34 = .ok (.getfield 226, 3) := by decide +kernel
theorem dX11_number_37 : decode cX11_number 37 = .ok (.iaload, 1) := by decide +kernel
theorem dX11_number_38 : decode cX11_number 38 = .ok (.bipush 48, 2) := by decide +kernel
theorem dX11_number_40 : decode cX11_number 40 = .ok (.bipush 57, 2) := by decide +kernel
theorem dX11_number_42 : decode cX11_number 42 = .ok (.invokestatic 107, 3) := by decide +kernel
theorem dX11_number_45 : decode cX11_number 45 = .ok (.ifCond .eq 46, 3) := by decide +kernel
theorem dX11_number_48 : decode cX11_number 48 = .ok (.aload_n 0, 1) := by decide +kernel
theorem dX11_number_49 : decode cX11_number 49 = .ok (.getfield 226, 3) := by decide +kernel
theorem dX11_number_52 : decode cX11_number 52 = .ok (.iload_n 3, 1) := by decide +kernel
theorem dX11_number_53 : decode cX11_number 53 = .ok (.isub, 1) := by decide +kernel
theorem dX11_number_54 : decode cX11_number 54 = .ok (.iconst 2, 1) := by decide +kernel
theorem dX11_number_55 : decode cX11_number 55 = .ok (.if_icmp .gt 36, 3) := by decide +kernel
theorem dX11_number_58 : decode cX11_number 58 = .ok (.bipush 10, 2) := by decide +kernel
theorem dX11_number_60 : decode cX11_number 60 = .ok (.iload 4, 2) := by decide +kernel
theorem dX11_number_62 : decode cX11_number 62 = .ok (.imul, 1) := by decide +kernel
theorem dX11_number_63 : decode cX11_number 63 = .ok (.aload_n 0, 1) := by decide +kernel
theorem dX11_number_64 : decode cX11_number 64 = .ok (.getfield 19, 3) := by decide +kernel
theorem dX11_number_67 : decode cX11_number 67 = .ok (.aload_n 0, 1) := by decide +kernel
theorem dX11_number_68 : decode cX11_number 68 = .ok (.getfield 226, 3) := by decide +kernel
theorem dX11_number_71 : decode cX11_number 71 = .ok (.iaload, 1) := by decide +kernel
theorem dX11_number_72 : decode cX11_number 72 = .ok (.iadd, 1) := by decide +kernel
theorem dX11_number_73 : decode cX11_number 73 = .ok (.bipush 48, 2) := by decide +kernel
theorem dX11_number_75 : decode cX11_number 75 = .ok (.isub, 1) := by decide +kernel
theorem dX11_number_76 : decode cX11_number 76 = .ok (.istore 4, 2) := by decide +kernel
theorem dX11_number_78 : decode cX11_number 78 = .ok (.aload_n 0, 1) := by decide +kernel
theorem dX11_number_79 : decode cX11_number 79 = .ok (.dup, 1) := by decide +kernel
theorem dX11_number_80 : decode cX11_number 80 = .ok (.getfield 226, 3) := by decide +kernel
theorem dX11_number_83 : decode cX11_number 83 = .ok (.iconst 1, 1) := by decide +kernel
theorem dX11_number_84 : decode cX11_number 84 = .ok (.iadd, 1) := by decide +kernel
theorem dX11_number_85 : decode cX11_number 85 = .ok (.putfield 226, 3) := by decide +kernel
theorem dX11_number_88 : decode cX11_number 88 = .ok (.goto (-70), 3) := by decide +kernel
theorem dX11_number_91 : decode cX11_number 91 = .ok (.aload_n 0, 1) := by decide +kernel
theorem dX11_number_92 : decode cX11_number 92 = .ok (.getfield 226, 3) := by decide +kernel
theorem dX11_number_95 : decode cX11_number 95 = .ok (.iload_n 3, 1) := by decide +kernel
theorem dX11_number_96 : decode cX11_number 96 = .ok (.if_icmp .eq 25, 3) := by decide +kernel
theorem dX11_number_99 : decode cX11_number 99 = .ok (.aload_n 0, 1) := by decide +kernel
theorem dX11_number_100 : decode cX11_number 100 = .ok (.getfield 226, 3) := by decide +kernel
theorem dX11_number_103 : decode cX11_number 103 = .ok (.iload_n 3, 1) := by decide +kernel
theorem dX11_number_104 : decode cX11_number 104 = .ok (.isub, 1) := by decide +kernel
theorem dX11_number_105 : decode cX11_number 105 = .ok (.iconst 2, 1) := by decide +kernel
theorem dX11_number_106 : decode cX11_number 106 = .ok (.if_icmp .gt 15, 3) := by decide +kernel
theorem dX11_number_109 : decode cX11_number 109 = .ok (.iload 4, 2) := by decide +kernel
theorem dX11_number_111 : decode cX11_number 111 = .ok (.iload_n 1, 1) := by decide +kernel
theorem dX11_number_112 : decode cX11_number 112 = .ok (.if_icmp .lt 9, 3) := by decide +kernel
theorem dX11_number_115 : decode cX11_number 115 = .ok (.iload 4, 2) := by decide +kernel
theorem dX11_number_117 : decode cX11_number 117 = .ok (.iload_n 2, 1) := by decide +kernel
theorem dX11_number_118 : decode cX11_number 118 = .ok (.if_icmp .le 8, 3) := by decide +kernel
theorem dX11_number_121 : decode cX11_number 121 = .ok (.aload_n 0, 1) := by decide +kernel
theorem dX11_number_122 : decode cX11_number 122 = .ok (.iload_n 3, 1) := by decide +kernel
theorem dX11_number_123 : decode cX11_number 123 = .ok (.invokevirtual 247, 3) := by decide +kernel
theorem dX11_number_126 : decode cX11_number 126 = .ok (.iload 4, 2) := by decide +kernel
theorem dX11_number_128 : decode cX11_number 128 = .ok (.ireturn, 1) := by decide +kernel
def sX11_number_L18 (F : Nat) (l0 : Nat) (l1 : Int32) (l2 : Int32) (l3 : Int32) (l4 : Int32) (h : HP) : Option ((Int32 × HP) ⊕ (Int32 × HP)) :=
  (gI h 11 (some l0) 9).bind fun t5 =>
  (gI h 11 (some l0) 8).bind fun t6 =>
  if t6 ≤ t5 then
    some (.inr (l4, h))
  else
    (gR h 11 (some l0) 6).bind fun t7 =>
    (gI h 11 (some l0) 9).bind fun t8 =>
    (aI h 13 t7 t8).bind fun t9 =>
    (sX11_isIn F t9 (48 : Int32) (57 : Int32) h).bind fun t10 =>
    if t10 = 0 then
      some (.inr (l4, h))
    else
      (gI h 11 (some l0) 9).bind fun t11 =>
      if (2 : Int32) < (t11 - l3) then
        some (.inr (l4, h))
      else
        (gR h 11 (some l0) 6).bind fun t12 =>
        (gI h 11 (some l0) 9).bind fun t13 =>
        (aI h 13 t12 t13).bind fun t14 =>
        nmI ((((10 : Int32) * l4) + t14) - (48 : Int32)) fun l4_15 =>
        (gI h 11 (some l0) 9).bind fun t16 =>
        (pI h 11 (some l0) 9 (t16 + (1 : Int32))).bind fun h17 =>
        some (.inl (l4_15, h17))
def sX11_number (F : Nat) (l0 : Nat) (l1 : Int32) (l2 : Int32) (h : HP) : Option (Int32 × HP) :=
  (gI h 11 (some l0) 10).bind fun t1 =>
  if t1 = (-1 : Int32) then
    (dO h 11 (some l0)).bind fun a2 =>
    bd2 (sX11_here F a2 h) fun t3 h4 =>
    (iter (fun s => sX11_number_L18 F l0 l1 l2 t3 s.1 s.2) F ((0 : Int32), h4)).bind fun r => match r with
    | (l4_18, h19) =>
      (gI h19 11 (some l0) 9).bind fun t20 =>
      if t20 = t3 then
        (dO h19 11 (some l0)).bind fun a21 =>
        (sX11_wrong F a21 t3 h19).bind fun h22 =>
        some (l4_18, h22)
      else
        (gI h19 11 (some l0) 9).bind fun t23 =>
        if (2 : Int32) < (t23 - t3) then
          (dO h19 11 (some l0)).bind fun a24 =>
          (sX11_wrong F a24 t3 h19).bind fun h25 =>
          some (l4_18, h25)
        else
          if l4_18 < l1 then
            (dO h19 11 (some l0)).bind fun a26 =>
            (sX11_wrong F a26 t3 h19).bind fun h27 =>
            some (l4_18, h27)
          else
            if l4_18 ≤ l2 then
              some (l4_18, h19)
            else
              (dO h19 11 (some l0)).bind fun a28 =>
              (sX11_wrong F a28 t3 h19).bind fun h29 =>
              some (l4_18, h29)
  else
    some ((0 : Int32), h)
abbrev rm_X11_number : Room := { frames := 1, cells := 0, slots := 0, locals := 22 }
set_option maxRecDepth 100000 in
set_option maxHeartbeats 4000000 in
theorem mt_X11_number {w : WD} {l : Launch} {F : Nat} {l0 : Nat} {l1 : Int32} {l2 : Int32} {h : HP} {v : Int32} {h' : HP} (hs : sX11_number F l0 l1 l2 h = some (v, h')) : MI w l yX11_number cX11_number 5 .int rm_X11_number 0 0 [rf w (some l0), .int l1, .int l2] h v h' := by
  refine of_body [(0, rf w (some l0)), (1, .int l1), (2, .int l2)] (by decide) (by simp [lg_sl, rf_cat, cat_i, cat_l, cat_a]) (by simp [lv_args, rf_cat, cat_i, cat_l, cat_a]) ?_
  intro x hw_ hnL_ hl_ hc hret hnm hQ
  subst hw_; subst hl_
  have hnl : ∀ i, i < 5 → i < x.nL := fun i h => by rw [hnL_]; exact h
  have hw : wpO (sX11_number F l0 l1 l2 h) (fun r => r = (v, h')) := ⟨_, hs, rfl⟩
  unfold sX11_number at hw
  refine R_aload_n (q := 0) (i := 0) (v := (some l0)) hc dX11_number_0 rfl rfl ?_
  refine R_getI hc fl_11_22 dX11_number_1 hw (fun t1 hw => ?_)
  refine R_iconst (v := (-1 : Int32)) hc dX11_number_4 kI_m1 ?_
  refine R_icmp_eq (tgt := 10) hc dX11_number_5 (by decide) hw (fun hw => ?_) (fun hw => ?_)
  · refine R_aload_n (q := 0) (i := 0) (v := (some l0)) hc dX11_number_10 rfl rfl ?_
    refine R_cVIi (As := []) (rest := []) (r := (some l0)) (ci := 11) hc ml_11_232 mf_X11_here rfl (by decide) ⟨rfl, rfl⟩ ⟨le_b rfl, le_b rfl⟩ ⟨Nat.zero_le _, Nat.zero_le _⟩ (fun a v h' e => mt_X11_here e) rfl rfl (Nat.zero_le _) dX11_number_11 hw (fun t3 h4 hw => ?_)
    refine R_istore_n (i := 3) (v := t3) hc [(3, .int t3), (0, rf x.w (some l0)), (1, .int l1), (2, .int l2)] dX11_number_14 rfl (hnl 3 (le_b rfl)) rfl ?_
    refine R_iconst (v := (0 : Int32)) hc dX11_number_15 kI_0 ?_
    refine R_istore (i := 4) (v := (0 : Int32)) hc [(4, .int (0 : Int32)), (3, .int t3), (0, rf x.w (some l0)), (1, .int l1), (2, .int l2)] dX11_number_16 (hnl 4 (le_b rfl)) rfl ?_
    refine R_sub hc [2, 3, 4, 1, 0] rfl ?_
    refine R_loop (P := fun (s : (Int32 × HP)) => Rn x 0 0 18 [(0, rf x.w (some l0)), (1, .int l1), (2, .int l2), (3, .int t3), (4, .int s.1)] [] s.2) (fun r => match r with | (l4_18, h19) => Rn x 0 0 91 [(0, rf x.w (some l0)), (1, .int l1), (2, .int l2), (3, .int t3), (4, .int l4_18)] [] h19) hw (fun r hw => ?_) (fun X hX s hw => ?_)
    · obtain ⟨l4_18, h19⟩ := r
      show Rn x 0 0 91 [(0, rf x.w (some l0)), (1, .int l1), (2, .int l2), (3, .int t3), (4, .int l4_18)] [] h19
      refine R_aload_n (q := 0) (i := 0) (v := (some l0)) hc dX11_number_91 rfl rfl ?_
      refine R_getI hc fl_11_226 dX11_number_92 hw (fun t20 hw => ?_)
      refine R_iload_n (q := 3) (i := 3) (v := t3) hc dX11_number_95 rfl rfl ?_
      refine R_icmp_eq (tgt := 121) hc dX11_number_96 (by decide) hw (fun hw => ?_) (fun hw => ?_)
      · refine R_aload_n (q := 0) (i := 0) (v := (some l0)) hc dX11_number_121 rfl rfl ?_
        refine R_iload_n (q := 3) (i := 3) (v := t3) hc dX11_number_122 rfl rfl ?_
        refine R_cVVi (As := [.int t3]) (rest := []) (r := (some l0)) (ci := 11) hc ml_11_247 mf_X11_wrong rfl (by decide) ⟨rfl, rfl⟩ ⟨le_b rfl, le_b rfl⟩ ⟨Nat.zero_le _, Nat.zero_le _⟩ (fun a h' e => mt_X11_wrong e) rfl rfl (Nat.zero_le _) dX11_number_123 hw (fun h22 hw => ?_)
        refine R_iload (q := 4) (i := 4) (v := l4_18) hc dX11_number_126 rfl ?_
        exact R_ireturn hc hret rfl hQ hw dX11_number_128
      · refine R_aload_n (q := 0) (i := 0) (v := (some l0)) hc dX11_number_99 rfl rfl ?_
        refine R_getI hc fl_11_226 dX11_number_100 hw (fun t23 hw => ?_)
        refine R_iload_n (q := 3) (i := 3) (v := t3) hc dX11_number_103 rfl rfl ?_
        refine R_isub hc dX11_number_104 ?_
        refine R_iconst (v := (2 : Int32)) hc dX11_number_105 kI_2 ?_
        refine R_icmp_gt (tgt := 121) hc dX11_number_106 (by decide) hw (fun hw => ?_) (fun hw => ?_)
        · refine R_aload_n (q := 0) (i := 0) (v := (some l0)) hc dX11_number_121 rfl rfl ?_
          refine R_iload_n (q := 3) (i := 3) (v := t3) hc dX11_number_122 rfl rfl ?_
          refine R_cVVi (As := [.int t3]) (rest := []) (r := (some l0)) (ci := 11) hc ml_11_247 mf_X11_wrong rfl (by decide) ⟨rfl, rfl⟩ ⟨le_b rfl, le_b rfl⟩ ⟨Nat.zero_le _, Nat.zero_le _⟩ (fun a h' e => mt_X11_wrong e) rfl rfl (Nat.zero_le _) dX11_number_123 hw (fun h25 hw => ?_)
          refine R_iload (q := 4) (i := 4) (v := l4_18) hc dX11_number_126 rfl ?_
          exact R_ireturn hc hret rfl hQ hw dX11_number_128
        · refine R_iload (q := 4) (i := 4) (v := l4_18) hc dX11_number_109 rfl ?_
          refine R_iload_n (q := 1) (i := 1) (v := l1) hc dX11_number_111 rfl rfl ?_
          refine R_icmp_lt (tgt := 121) hc dX11_number_112 (by decide) hw (fun hw => ?_) (fun hw => ?_)
          · refine R_aload_n (q := 0) (i := 0) (v := (some l0)) hc dX11_number_121 rfl rfl ?_
            refine R_iload_n (q := 3) (i := 3) (v := t3) hc dX11_number_122 rfl rfl ?_
            refine R_cVVi (As := [.int t3]) (rest := []) (r := (some l0)) (ci := 11) hc ml_11_247 mf_X11_wrong rfl (by decide) ⟨rfl, rfl⟩ ⟨le_b rfl, le_b rfl⟩ ⟨Nat.zero_le _, Nat.zero_le _⟩ (fun a h' e => mt_X11_wrong e) rfl rfl (Nat.zero_le _) dX11_number_123 hw (fun h27 hw => ?_)
            refine R_iload (q := 4) (i := 4) (v := l4_18) hc dX11_number_126 rfl ?_
            exact R_ireturn hc hret rfl hQ hw dX11_number_128
          · refine R_iload (q := 4) (i := 4) (v := l4_18) hc dX11_number_115 rfl ?_
            refine R_iload_n (q := 2) (i := 2) (v := l2) hc dX11_number_117 rfl rfl ?_
            refine R_icmp_le (tgt := 126) hc dX11_number_118 (by decide) hw (fun hw => ?_) (fun hw => ?_)
            · refine R_iload (q := 4) (i := 4) (v := l4_18) hc dX11_number_126 rfl ?_
              exact R_ireturn hc hret rfl hQ hw dX11_number_128
            · refine R_aload_n (q := 0) (i := 0) (v := (some l0)) hc dX11_number_121 rfl rfl ?_
              refine R_iload_n (q := 3) (i := 3) (v := t3) hc dX11_number_122 rfl rfl ?_
              refine R_cVVi (As := [.int t3]) (rest := []) (r := (some l0)) (ci := 11) hc ml_11_247 mf_X11_wrong rfl (by decide) ⟨rfl, rfl⟩ ⟨le_b rfl, le_b rfl⟩ ⟨Nat.zero_le _, Nat.zero_le _⟩ (fun a h' e => mt_X11_wrong e) rfl rfl (Nat.zero_le _) dX11_number_123 hw (fun h29 hw => ?_)
              refine R_iload (q := 4) (i := 4) (v := l4_18) hc dX11_number_126 rfl ?_
              exact R_ireturn hc hret rfl hQ hw dX11_number_128
    · obtain ⟨l4_31, h32⟩ := s
      show Rn x 0 0 18 [(0, rf x.w (some l0)), (1, .int l1), (2, .int l2), (3, .int t3), (4, .int l4_31)] [] h32
      have hw : wpO (sX11_number_L18 F l0 l1 l2 t3 l4_31 h32) _ := hw
      unfold sX11_number_L18 at hw
      refine R_aload_n (q := 0) (i := 0) (v := (some l0)) hc dX11_number_18 rfl rfl ?_
      refine R_getI hc fl_11_226 dX11_number_19 hw (fun t5 hw => ?_)
      refine R_aload_n (q := 0) (i := 0) (v := (some l0)) hc dX11_number_22 rfl rfl ?_
      refine R_getI hc fl_11_229 dX11_number_23 hw (fun t6 hw => ?_)
      refine R_icmp_ge (tgt := 91) hc dX11_number_26 (by decide) hw (fun hw => ?_) (fun hw => ?_)
      · refine R_sub hc [0, 1, 2, 3, 4] rfl ?_
        exact (wpO_some hw :)
      · refine R_aload_n (q := 0) (i := 0) (v := (some l0)) hc dX11_number_29 rfl rfl ?_
        refine R_getR hc fl_11_19 dX11_number_30 hw (fun t7 hw => ?_)
        refine R_aload_n (q := 0) (i := 0) (v := (some l0)) hc dX11_number_33 rfl rfl ?_
        refine R_getI hc fl_11_226 dX11_number_34 hw (fun t8 hw => ?_)
        refine R_iaload hc dX11_number_37 hw (fun t9 hw => ?_)
        refine R_bipush (v := (48 : Int32)) hc dX11_number_38 kB_48 ?_
        refine R_bipush (v := (57 : Int32)) hc dX11_number_40 kB_57 ?_
        refine R_cSI (As := [.int t9, .int (48 : Int32), .int (57 : Int32)]) (rest := []) hc ml_11_107 mf_X11_isIn ⟨rfl, rfl⟩ ⟨le_b rfl, le_b rfl⟩ ⟨Nat.zero_le _, Nat.zero_le _⟩ (fun v e => mt_X11_isIn e) rfl rfl (Nat.zero_le _) dX11_number_42 hw (fun t10 hw => ?_)
        refine R_if_eq (tgt := 91) hc dX11_number_45 (by decide) hw (fun hw => ?_) (fun hw => ?_)
        · refine R_sub hc [0, 1, 2, 3, 4] rfl ?_
          exact (wpO_some hw :)
        · refine R_aload_n (q := 0) (i := 0) (v := (some l0)) hc dX11_number_48 rfl rfl ?_
          refine R_getI hc fl_11_226 dX11_number_49 hw (fun t11 hw => ?_)
          refine R_iload_n (q := 3) (i := 3) (v := t3) hc dX11_number_52 rfl rfl ?_
          refine R_isub hc dX11_number_53 ?_
          refine R_iconst (v := (2 : Int32)) hc dX11_number_54 kI_2 ?_
          refine R_icmp_gt (tgt := 91) hc dX11_number_55 (by decide) hw (fun hw => ?_) (fun hw => ?_)
          · refine R_sub hc [0, 1, 2, 3, 4] rfl ?_
            exact (wpO_some hw :)
          · refine R_bipush (v := (10 : Int32)) hc dX11_number_58 kB_10 ?_
            refine R_iload (q := 4) (i := 4) (v := l4_31) hc dX11_number_60 rfl ?_
            refine R_imul hc dX11_number_62 ?_
            refine R_aload_n (q := 0) (i := 0) (v := (some l0)) hc dX11_number_63 rfl rfl ?_
            refine R_getR hc fl_11_19 dX11_number_64 hw (fun t12 hw => ?_)
            refine R_aload_n (q := 0) (i := 0) (v := (some l0)) hc dX11_number_67 rfl rfl ?_
            refine R_getI hc fl_11_226 dX11_number_68 hw (fun t13 hw => ?_)
            refine R_iaload hc dX11_number_71 hw (fun t14 hw => ?_)
            refine R_iadd hc dX11_number_72 ?_
            refine R_bipush (v := (48 : Int32)) hc dX11_number_73 kB_48 ?_
            refine R_isub hc dX11_number_75 ?_
            refine R_nmI hw (fun l4_15 hw => ?_)
            refine R_istore (i := 4) (v := l4_15) hc [(4, .int l4_15), (0, rf x.w (some l0)), (1, .int l1), (2, .int l2), (3, .int t3)] dX11_number_76 (hnl 4 (le_b rfl)) rfl ?_
            refine R_aload_n (q := 1) (i := 0) (v := (some l0)) hc dX11_number_78 rfl rfl ?_
            refine R_dup hc dX11_number_79 (rf_cat _ _) ?_
            refine R_getI hc fl_11_226 dX11_number_80 hw (fun t16 hw => ?_)
            refine R_iconst (v := (1 : Int32)) hc dX11_number_83 kI_1 ?_
            refine R_iadd hc dX11_number_84 ?_
            refine R_putI hc pl_11_226 rfl rfl dX11_number_85 hw (fun h17 hw => ?_)
            refine R_goto (tgt := 18) hc dX11_number_88 (by decide) ?_
            refine R_sub hc [1, 2, 3, 4, 0] rfl ?_
            exact hX (l4_15, h17) (wpO_some hw :)
  · refine R_iconst (v := (0 : Int32)) hc dX11_number_8 kI_0 ?_
    exact R_ireturn hc hret rfl hQ hw dX11_number_9
theorem dX11_netLine_0 : decode cX11_netLine 0 = .ok (.aload_n 0, 1) := by decide +kernel
theorem dX11_netLine_1 : decode cX11_netLine 1 = .ok (.invokevirtual 232, 3) := by decide +kernel
theorem dX11_netLine_4 : decode cX11_netLine 4 = .ok (.istore_n 2, 1) := by decide +kernel
theorem dX11_netLine_5 : decode cX11_netLine 5 = .ok (.aload_n 0, 1) := by decide +kernel
theorem dX11_netLine_6 : decode cX11_netLine 6 = .ok (.iconst 0, 1) := by decide +kernel
theorem dX11_netLine_7 : decode cX11_netLine 7 = .ok (.bipush 11, 2) := by decide +kernel
theorem dX11_netLine_9 : decode cX11_netLine 9 = .ok (.invokevirtual 250, 3) := by decide +kernel
theorem dX11_netLine_12 : decode cX11_netLine 12 = .ok (.istore_n 3, 1) := by decide +kernel
theorem dX11_netLine_13 : decode cX11_netLine 13 = .ok (.aload_n 0, 1) := by decide +kernel
theorem dX11_netLine_14 : decode cX11_netLine 14 = .ok (.getfield 22, 3) := by decide +kernel
theorem dX11_netLine_17 : decode cX11_netLine 17 = .ok (.iconst (-1), 1) := by decide +kernel
theorem dX11_netLine_18 : decode cX11_netLine 18 = .ok (.if_icmp .ne 21, 3) := by decide +kernel
theorem dX11_netLine_21 : decode cX11_netLine 21 = .ok (.aload_n 0, 1) := by decide +kernel
theorem dX11_netLine_22 : decode cX11_netLine 22 = .ok (.getfield 26, 3) := by decide +kernel
theorem dX11_netLine_25 : decode cX11_netLine 25 = .ok (.iload_n 1, 1) := by decide +kernel
theorem dX11_netLine_26 : decode cX11_netLine 26 = .ok (.iaload, 1) := by decide +kernel
theorem dX11_netLine_27 : decode cX11_netLine 27 = .ok (.iload_n 3, 1) := by decide +kernel
theorem dX11_netLine_28 : decode cX11_netLine 28 = .ok (.invokestatic 178, 3) := by decide +kernel
theorem dX11_netLine_31 : decode cX11_netLine 31 = .ok (.ifCond .eq 8, 3) := by decide +kernel
theorem dX11_netLine_34 : decode cX11_netLine 34 = .ok (.aload_n 0, 1) := by decide +kernel
theorem dX11_netLine_35 : decode cX11_netLine 35 = .ok (.iload_n 2, 1) := by decide +kernel
theorem dX11_netLine_36 : decode cX11_netLine 36 = .ok (.invokevirtual 247, 3) := by decide +kernel
theorem dX11_netLine_39 : decode cX11_netLine 39 = .ok (.aload_n 0, 1) := by decide +kernel
theorem dX11_netLine_40 : decode cX11_netLine 40 = .ok (.getfield 22, 3) := by decide +kernel
theorem dX11_netLine_43 : decode cX11_netLine 43 = .ok (.iconst (-1), 1) := by decide +kernel
theorem dX11_netLine_44 : decode cX11_netLine 44 = .ok (.if_icmp .ne 15, 3) := by decide +kernel
theorem dX11_netLine_47 : decode cX11_netLine 47 = .ok (.aload_n 0, 1) := by decide +kernel
theorem dX11_netLine_48 : decode cX11_netLine 48 = .ok (.getfield 26, 3) := by decide +kernel
theorem dX11_netLine_51 : decode cX11_netLine 51 = .ok (.iload_n 1, 1) := by decide +kernel
theorem dX11_netLine_52 : decode cX11_netLine 52 = .ok (.dup2, 1) := by decide +kernel
theorem dX11_netLine_53 : decode cX11_netLine 53 = .ok (.iaload, 1) := by decide +kernel
theorem dX11_netLine_54 : decode cX11_netLine 54 = .ok (.iconst 1, 1) := by decide +kernel
theorem dX11_netLine_55 : decode cX11_netLine 55 = .ok (.iload_n 3, 1) := by decide +kernel
theorem dX11_netLine_56 : decode cX11_netLine 56 = .ok (.ishl, 1) := by decide +kernel
theorem dX11_netLine_57 : decode cX11_netLine 57 = .ok (.ior, 1) := by decide +kernel
theorem dX11_netLine_58 : decode cX11_netLine 58 = .ok (.iastore, 1) := by decide +kernel
theorem dX11_netLine_59 : decode cX11_netLine 59 = .ok (.return_, 1) := by decide +kernel
def sX11_netLine (F : Nat) (l0 : Nat) (l1 : Int32) (h : HP) : Option HP :=
  (dO h 11 (some l0)).bind fun a1 =>
  bd2 (sX11_here F a1 h) fun t2 h3 =>
  (dO h3 11 (some l0)).bind fun a4 =>
  bd2 (sX11_number F a4 (0 : Int32) (11 : Int32) h3) fun t5 h6 =>
  (gI h6 11 (some l0) 10).bind fun t7 =>
  (if ¬ t7 = (-1 : Int32) then
      some h6
    else
      (gR h6 11 (some l0) 11).bind fun t9 =>
      (aI h6 13 t9 l1).bind fun t10 =>
      (sX11_has F t10 t5 h6).bind fun t11 =>
      if t11 = 0 then
        some h6
      else
        (dO h6 11 (some l0)).bind fun a12 =>
        (sX11_wrong F a12 t2 h6).bind fun h13 =>
        some h13).bind fun h8 =>
  (gI h8 11 (some l0) 10).bind fun t14 =>
  if ¬ t14 = (-1 : Int32) then
    some h8
  else
    (gR h8 11 (some l0) 11).bind fun t15 =>
    (aI h8 13 t15 l1).bind fun t16 =>
    (sI h8 t15 l1 (t16 ||| (jshl (1 : Int32) t5))).bind fun h17 =>
    some h17
abbrev rm_X11_netLine : Room := { frames := 2, cells := 0, slots := 0, locals := 46 }
set_option maxRecDepth 100000 in
set_option maxHeartbeats 4000000 in
theorem mt_X11_netLine {w : WD} {l : Launch} {F : Nat} {l0 : Nat} {l1 : Int32} {h : HP} {h' : HP} (hs : sX11_netLine F l0 l1 h = some h') : MV w l yX11_netLine cX11_netLine 4 rm_X11_netLine 0 0 [rf w (some l0), .int l1] h h' := by
  refine of_body [(0, rf w (some l0)), (1, .int l1)] (by decide) (by simp [lg_sl, rf_cat, cat_i, cat_l, cat_a]) (by simp [lv_args, rf_cat, cat_i, cat_l, cat_a]) ?_
  intro x hw_ hnL_ hl_ hc hret hnm hQ
  subst hw_; subst hl_
  have hnl : ∀ i, i < 4 → i < x.nL := fun i h => by rw [hnL_]; exact h
  have hw : wpO (sX11_netLine F l0 l1 h) (fun r => r = h') := ⟨_, hs, rfl⟩
  unfold sX11_netLine at hw
  refine R_aload_n (q := 0) (i := 0) (v := (some l0)) hc dX11_netLine_0 rfl rfl ?_
  refine R_cVIi (As := []) (rest := []) (r := (some l0)) (ci := 11) hc ml_11_232 mf_X11_here rfl (by decide) ⟨rfl, rfl⟩ ⟨le_b rfl, le_b rfl⟩ ⟨Nat.zero_le _, Nat.zero_le _⟩ (fun a v h' e => mt_X11_here e) rfl rfl (Nat.zero_le _) dX11_netLine_1 hw (fun t2 h3 hw => ?_)
  refine R_istore_n (i := 2) (v := t2) hc [(2, .int t2), (0, rf x.w (some l0)), (1, .int l1)] dX11_netLine_4 rfl (hnl 2 (le_b rfl)) rfl ?_
  refine R_aload_n (q := 1) (i := 0) (v := (some l0)) hc dX11_netLine_5 rfl rfl ?_
  refine R_iconst (v := (0 : Int32)) hc dX11_netLine_6 kI_0 ?_
  refine R_bipush (v := (11 : Int32)) hc dX11_netLine_7 kB_11 ?_
  refine R_cVIi (As := [.int (0 : Int32), .int (11 : Int32)]) (rest := []) (r := (some l0)) (ci := 11) hc ml_11_250 mf_X11_number rfl (by decide) ⟨rfl, rfl⟩ ⟨le_b rfl, le_b rfl⟩ ⟨Nat.zero_le _, Nat.zero_le _⟩ (fun a v h' e => mt_X11_number e) rfl rfl (Nat.zero_le _) dX11_netLine_9 hw (fun t5 h6 hw => ?_)
  refine R_istore_n (i := 3) (v := t5) hc [(3, .int t5), (2, .int t2), (0, rf x.w (some l0)), (1, .int l1)] dX11_netLine_12 rfl (hnl 3 (le_b rfl)) rfl ?_
  refine R_aload_n (q := 2) (i := 0) (v := (some l0)) hc dX11_netLine_13 rfl rfl ?_
  refine R_getI hc fl_11_22 dX11_netLine_14 hw (fun t7 hw => ?_)
  refine R_iconst (v := (-1 : Int32)) hc dX11_netLine_17 kI_m1 ?_
  refine R_join (fun (h8 : HP) => Rn x 0 0 39 [(0, rf x.w (some l0)), (1, .int l1), (3, .int t5)] [] h8) hw (fun r hw => ?_) (fun hw => ?_)
  · revert r hw
    intro h8 hw
    show Rn x 0 0 39 [(0, rf x.w (some l0)), (1, .int l1), (3, .int t5)] [] h8
    refine R_aload_n (q := 0) (i := 0) (v := (some l0)) hc dX11_netLine_39 rfl rfl ?_
    refine R_getI hc fl_11_22 dX11_netLine_40 hw (fun t14 hw => ?_)
    refine R_iconst (v := (-1 : Int32)) hc dX11_netLine_43 kI_m1 ?_
    refine R_icmp_ne (tgt := 59) hc dX11_netLine_44 (by decide) hw (fun hw => ?_) (fun hw => ?_)
    · exact R_return hc hret hQ hw dX11_netLine_59
    · refine R_aload_n (q := 0) (i := 0) (v := (some l0)) hc dX11_netLine_47 rfl rfl ?_
      refine R_getR hc fl_11_26 dX11_netLine_48 hw (fun t15 hw => ?_)
      refine R_iload_n (q := 1) (i := 1) (v := l1) hc dX11_netLine_51 rfl rfl ?_
      refine R_dup2 hc dX11_netLine_52 rfl (rf_cat _ _) ?_
      refine R_iaload hc dX11_netLine_53 hw (fun t16 hw => ?_)
      refine R_iconst (v := (1 : Int32)) hc dX11_netLine_54 kI_1 ?_
      refine R_iload_n (q := 2) (i := 3) (v := t5) hc dX11_netLine_55 rfl rfl ?_
      refine R_ishl hc dX11_netLine_56 ?_
      refine R_ior hc dX11_netLine_57 ?_
      refine R_iastore hc dX11_netLine_58 hw (fun h17 hw => ?_)
      exact R_return hc hret hQ hw dX11_netLine_59
  · refine R_icmp_ne (tgt := 39) hc dX11_netLine_18 (by decide) hw (fun hw => ?_) (fun hw => ?_)
    · refine R_sub hc [2, 3, 0] rfl ?_
      exact (wpO_some hw :)
    · refine R_aload_n (q := 2) (i := 0) (v := (some l0)) hc dX11_netLine_21 rfl rfl ?_
      refine R_getR hc fl_11_26 dX11_netLine_22 hw (fun t9 hw => ?_)
      refine R_iload_n (q := 3) (i := 1) (v := l1) hc dX11_netLine_25 rfl rfl ?_
      refine R_iaload hc dX11_netLine_26 hw (fun t10 hw => ?_)
      refine R_iload_n (q := 0) (i := 3) (v := t5) hc dX11_netLine_27 rfl rfl ?_
      refine R_cSI (As := [.int t10, .int t5]) (rest := []) hc ml_11_178 mf_X11_has ⟨rfl, rfl⟩ ⟨le_b rfl, le_b rfl⟩ ⟨Nat.zero_le _, Nat.zero_le _⟩ (fun v e => mt_X11_has e) rfl rfl (Nat.zero_le _) dX11_netLine_28 hw (fun t11 hw => ?_)
      refine R_if_eq (tgt := 39) hc dX11_netLine_31 (by decide) hw (fun hw => ?_) (fun hw => ?_)
      · refine R_sub hc [2, 3, 0] rfl ?_
        exact (wpO_some hw :)
      · refine R_aload_n (q := 2) (i := 0) (v := (some l0)) hc dX11_netLine_34 rfl rfl ?_
        refine R_iload_n (q := 1) (i := 2) (v := t2) hc dX11_netLine_35 rfl rfl ?_
        refine R_cVVi (As := [.int t2]) (rest := []) (r := (some l0)) (ci := 11) hc ml_11_247 mf_X11_wrong rfl (by decide) ⟨rfl, rfl⟩ ⟨le_b rfl, le_b rfl⟩ ⟨Nat.zero_le _, Nat.zero_le _⟩ (fun a h' e => mt_X11_wrong e) rfl rfl (Nat.zero_le _) dX11_netLine_36 hw (fun h13 hw => ?_)
        refine R_sub hc [2, 3, 0] rfl ?_
        exact (wpO_some hw :)
theorem dX11_members_0 : decode cX11_members 0 = .ok (.iconst 0, 1) := by decide +kernel
theorem dX11_members_1 : decode cX11_members 1 = .ok (.istore_n 1, 1) := by decide +kernel
theorem dX11_members_2 : decode cX11_members 2 = .ok (.iconst 0, 1) := by decide +kernel
theorem dX11_members_3 : decode cX11_members 3 = .ok (.istore_n 2, 1) := by decide +kernel
theorem dX11_members_4 : decode cX11_members 4 = .ok (.iload_n 2, 1) := by decide +kernel
theorem dX11_members_5 : decode cX11_members 5 = .ok (.bipush 12, 2) := by decide +kernel
theorem dX11_members_7 : decode cX11_members 7 = .ok (.if_icmp .ge 17, 3) := by decide +kernel
theorem dX11_members_10 : decode cX11_members 10 = .ok (.iload_n 1, 1) := by decide +kernel
theorem dX11_members_11 : decode cX11_members 11 = .ok (.iload_n 0, 1) := by decide +kernel
theorem dX11_members_12 : decode cX11_members 12 = .ok (.iload_n 2, 1) := by decide +kernel
theorem dX11_members_13 : decode cX11_members 13 = .ok (.ishr, 1) := by decide +kernel
theorem dX11_members_14 : decode cX11_members 14 = .ok (.iconst 1, 1) := by decide +kernel
theorem dX11_members_15 : decode cX11_members 15 = .ok (.iand, 1) := by decide +kernel
theorem dX11_members_16 : decode cX11_members 16 = .ok (.iadd, 1) := by decide +kernel
theorem dX11_members_17 : decode cX11_members 17 = .ok (.istore_n 1, 1) := by decide +kernel
theorem dX11_members_18 : decode cX11_members 18 = .ok (.iinc 2 1, 3) := by decide +kernel
theorem dX11_members_21 : decode cX11_members 21 = .ok (.goto (-17), 3) := by decide +kernel
theorem dX11_members_24 : decode cX11_members 24 = .ok (.iload_n 1, 1) := by decide +kernel
theorem dX11_members_25 : decode cX11_members 25 = .ok (.ireturn, 1) := by decide +kernel
def sX11_members_L4 (F : Nat) (l0 : Int32) (l1 : Int32) (l2 : Int32) (h : HP) : Option ((Int32 × Int32) ⊕ Int32) :=
  if (12 : Int32) ≤ l2 then
    some (.inr l1)
  else
    nmI (l1 + ((jshr l0 l2) &&& (1 : Int32))) fun l1_1 =>
    some (.inl (l1_1, l2 + (1 : Int32)))
def sX11_members (F : Nat) (l0 : Int32) (h : HP) : Option Int32 :=
  (iter (fun s => sX11_members_L4 F l0 s.1 s.2 h) F ((0 : Int32), (0 : Int32))).bind fun l1_2 =>
    some l1_2
abbrev rm_X11_members : Room := { frames := 0, cells := 0, slots := 0, locals := 0 }
set_option maxRecDepth 100000 in
set_option maxHeartbeats 4000000 in
theorem mt_X11_members {w : WD} {l : Launch} {F : Nat} {l0 : Int32} {h : HP} {v : Int32} (hs : sX11_members F l0 h = some v) : MI w l yX11_members cX11_members 3 .int rm_X11_members 0 0 [.int l0] h v h := by
  refine of_body [(0, .int l0)] (by decide) (by simp [lg_sl, rf_cat, cat_i, cat_l, cat_a]) (by simp [lv_args, rf_cat, cat_i, cat_l, cat_a]) ?_
  intro x hw_ hnL_ hl_ hc hret hnm hQ
  subst hw_; subst hl_
  have hnl : ∀ i, i < 3 → i < x.nL := fun i h => by rw [hnL_]; exact h
  have hw : wpO (sX11_members F l0 h) (fun r => r = v) := ⟨_, hs, rfl⟩
  unfold sX11_members at hw
  refine R_iconst (v := (0 : Int32)) hc dX11_members_0 kI_0 ?_
  refine R_istore_n (i := 1) (v := (0 : Int32)) hc [(1, .int (0 : Int32)), (0, .int l0)] dX11_members_1 rfl (hnl 1 (le_b rfl)) rfl ?_
  refine R_iconst (v := (0 : Int32)) hc dX11_members_2 kI_0 ?_
  refine R_istore_n (i := 2) (v := (0 : Int32)) hc [(2, .int (0 : Int32)), (1, .int (0 : Int32)), (0, .int l0)] dX11_members_3 rfl (hnl 2 (le_b rfl)) rfl ?_
  refine R_sub hc [2, 1, 0] rfl ?_
  refine R_loop (P := fun (s : (Int32 × Int32)) => Rn x 0 0 4 [(0, .int l0), (1, .int s.1), (2, .int s.2)] [] h) (fun l1_2 => Rn x 0 0 24 [(1, .int l1_2)] [] h) hw (fun r hw => ?_) (fun X hX s hw => ?_)
  · revert r hw
    intro l1_2 hw
    show Rn x 0 0 24 [(1, .int l1_2)] [] h
    refine R_iload_n (q := 0) (i := 1) (v := l1_2) hc dX11_members_24 rfl rfl ?_
    exact R_ireturnP hc hret rfl hQ hw dX11_members_25
  · obtain ⟨l1_4, l2_5⟩ := s
    show Rn x 0 0 4 [(0, .int l0), (1, .int l1_4), (2, .int l2_5)] [] h
    have hw : wpO (sX11_members_L4 F l0 l1_4 l2_5 h) _ := hw
    unfold sX11_members_L4 at hw
    refine R_iload_n (q := 2) (i := 2) (v := l2_5) hc dX11_members_4 rfl rfl ?_
    refine R_bipush (v := (12 : Int32)) hc dX11_members_5 kB_12 ?_
    refine R_icmp_ge (tgt := 24) hc dX11_members_7 (by decide) hw (fun hw => ?_) (fun hw => ?_)
    · refine R_sub hc [1] rfl ?_
      exact (wpO_some hw :)
    · refine R_iload_n (q := 1) (i := 1) (v := l1_4) hc dX11_members_10 rfl rfl ?_
      refine R_iload_n (q := 0) (i := 0) (v := l0) hc dX11_members_11 rfl rfl ?_
      refine R_iload_n (q := 2) (i := 2) (v := l2_5) hc dX11_members_12 rfl rfl ?_
      refine R_ishr hc dX11_members_13 ?_
      refine R_iconst (v := (1 : Int32)) hc dX11_members_14 kI_1 ?_
      refine R_iand hc dX11_members_15 ?_
      refine R_iadd hc dX11_members_16 ?_
      refine R_nmI hw (fun l1_1 hw => ?_)
      refine R_istore_n (i := 1) (v := l1_1) hc [(1, .int l1_1), (0, .int l0), (2, .int l2_5)] dX11_members_17 rfl (hnl 1 (le_b rfl)) rfl ?_
      refine R_iinc (q := 2) (i := 2) (v := l2_5) hc [(2, .int (l2_5 + (1 : Int32))), (1, .int l1_1), (0, .int l0)] dX11_members_18 rfl (kC_1 _) (hnl 2 (le_b rfl)) rfl ?_
      refine R_goto (tgt := 4) hc dX11_members_21 (by decide) ?_
      refine R_sub hc [2, 1, 0] rfl ?_
      exact hX (l1_1, l2_5 + (1 : Int32)) (wpO_some hw :)
theorem dX11_blockLine_0 : decode cX11_blockLine 0 = .ok (.aload_n 0, 1) := by decide +kernel
theorem dX11_blockLine_1 : decode cX11_blockLine 1 = .ok (.getfield 26, 3) := by decide +kernel
theorem dX11_blockLine_4 : decode cX11_blockLine 4 = .ok (.bipush 53, 2) := by decide +kernel
theorem dX11_blockLine_6 : decode cX11_blockLine 6 = .ok (.iaload, 1) := by decide +kernel
theorem dX11_blockLine_7 : decode cX11_blockLine 7 = .ok (.bipush 6, 2) := by decide +kernel
theorem dX11_blockLine_9 : decode cX11_blockLine 9 = .ok (.if_icmp .ne 8, 3) := by decide +kernel
theorem dX11_blockLine_12 : decode cX11_blockLine 12 = .ok (.aload_n 0, 1) := by decide +kernel
theorem dX11_blockLine_13 : decode cX11_blockLine 13 = .ok (.iload_n 1, 1) := by decide +kernel
theorem dX11_blockLine_14 : decode cX11_blockLine 14 = .ok (.invokevirtual 247, 3) := by decide +kernel
theorem dX11_blockLine_17 : decode cX11_blockLine 17 = .ok (.aload_n 0, 1) := by decide +kernel
theorem dX11_blockLine_18 : decode cX11_blockLine 18 = .ok (.getfield 22, 3) := by decide +kernel
theorem dX11_blockLine_21 : decode cX11_blockLine 21 = .ok (.iconst (-1), 1) := by decide +kernel
theorem dX11_blockLine_22 : decode cX11_blockLine 22 = .ok (.if_icmp .eq 4, 3) := by decide +kernel
theorem dX11_blockLine_25 : decode cX11_blockLine 25 = .ok (.return_, 1) := by decide +kernel
theorem dX11_blockLine_26 : decode cX11_blockLine 26 = .ok (.bipush 54, 2) := by decide +kernel
theorem dX11_blockLine_28 : decode cX11_blockLine 28 = .ok (.iconst 3, 1) := by decide +kernel
theorem dX11_blockLine_29 : decode cX11_blockLine 29 = .ok (.aload_n 0, 1) := by decide +kernel
theorem dX11_blockLine_30 : decode cX11_blockLine 30 = .ok (.getfield 26, 3) := by decide +kernel
theorem dX11_blockLine_33 : decode cX11_blockLine 33 = .ok (.bipush 53, 2) := by decide +kernel
theorem dX11_blockLine_35 : decode cX11_blockLine 35 = .ok (.iaload, 1) := by decide +kernel
theorem dX11_blockLine_36 : decode cX11_blockLine 36 = .ok (.imul, 1) := by decide +kernel
theorem dX11_blockLine_37 : decode cX11_blockLine 37 = .ok (.iadd, 1) := by decide +kernel
theorem dX11_blockLine_38 : decode cX11_blockLine 38 = .ok (.istore_n 2, 1) := by decide +kernel
theorem dX11_blockLine_39 : decode cX11_blockLine 39 = .ok (.aload_n 0, 1) := by decide +kernel
theorem dX11_blockLine_40 : decode cX11_blockLine 40 = .ok (.getfield 26, 3) := by decide +kernel
theorem dX11_blockLine_43 : decode cX11_blockLine 43 = .ok (.iload_n 2, 1) := by decide +kernel
theorem dX11_blockLine_44 : decode cX11_blockLine 44 = .ok (.aload_n 0, 1) := by decide +kernel
theorem dX11_blockLine_45 : decode cX11_blockLine 45 = .ok (.iconst 0, 1) := by decide +kernel
theorem dX11_blockLine_46 : decode cX11_blockLine 46 = .ok (.bipush 11, 2) := by decide +kernel
theorem dX11_blockLine_48 : decode cX11_blockLine 48 = .ok (.invokevirtual 250, 3) := by decide +kernel
theorem dX11_blockLine_51 : decode cX11_blockLine 51 = .ok (.iastore, 1) := by decide +kernel
theorem dX11_blockLine_52 : decode cX11_blockLine 52 = .ok (.aload_n 0, 1) := by decide +kernel
theorem dX11_blockLine_53 : decode cX11_blockLine 53 = .ok (.getfield 26, 3) := by decide +kernel
theorem dX11_blockLine_56 : decode cX11_blockLine 56 = .ok (.iload_n 2, 1) := by decide +kernel
theorem dX11_blockLine_57 : decode cX11_blockLine 57 = .ok (.iconst 1, 1) := by decide +kernel
theorem dX11_blockLine_58 : decode cX11_blockLine 58 = .ok (.iadd, 1) := by decide +kernel
theorem dX11_blockLine_59 : decode cX11_blockLine 59 = .ok (.aload_n 0, 1) := by decide +kernel
theorem dX11_blockLine_60 : decode cX11_blockLine 60 = .ok (.iconst 0, 1) := by decide +kernel
theorem dX11_blockLine_61 : decode cX11_blockLine 61 = .ok (.bipush 40, 2) := by decide +kernel
theorem dX11_blockLine_63 : decode cX11_blockLine 63 = .ok (.invokevirtual 250, 3) := by decide +kernel
theorem dX11_blockLine_66 : decode cX11_blockLine 66 = .ok (.iastore, 1) := by decide +kernel
theorem dX11_blockLine_67 : decode cX11_blockLine 67 = .ok (.aload_n 0, 1) := by decide +kernel
theorem dX11_blockLine_68 : decode cX11_blockLine 68 = .ok (.getfield 26, 3) := by decide +kernel
theorem dX11_blockLine_71 : decode cX11_blockLine 71 = .ok (.iload_n 2, 1) := by decide +kernel
theorem dX11_blockLine_72 : decode cX11_blockLine 72 = .ok (.iconst 2, 1) := by decide +kernel
theorem dX11_blockLine_73 : decode cX11_blockLine 73 = .ok (.iadd, 1) := by decide +kernel
theorem dX11_blockLine_74 : decode cX11_blockLine 74 = .ok (.aload_n 0, 1) := by decide +kernel
theorem dX11_blockLine_75 : decode cX11_blockLine 75 = .ok (.aload_n 0, 1) := by decide +kernel
theorem dX11_blockLine_76 : decode cX11_blockLine 76 = .ok (.getfield 26, 3) := by decide +kernel
theorem dX11_blockLine_79 : decode cX11_blockLine 79 = .ok (.iload_n 2, 1) := by decide +kernel
theorem dX11_blockLine_80 : decode cX11_blockLine 80 = .ok (.iconst 1, 1) := by decide +kernel
theorem dX11_blockLine_81 : decode cX11_blockLine 81 = .ok (.iadd, 1) := by decide +kernel
theorem dX11_blockLine_82 : decode cX11_blockLine 82 = .ok (.iaload, 1) := by decide +kernel
theorem dX11_blockLine_83 : decode cX11_blockLine 83 = .ok (.bipush 40, 2) := by decide +kernel
theorem dX11_blockLine_85 : decode cX11_blockLine 85 = .ok (.invokevirtual 250, 3) := by decide +kernel
theorem dX11_blockLine_88 : decode cX11_blockLine 88 = .ok (.iastore, 1) := by decide +kernel
theorem dX11_blockLine_89 : decode cX11_blockLine 89 = .ok (.aload_n 0, 1) := by decide +kernel
theorem dX11_blockLine_90 : decode cX11_blockLine 90 = .ok (.getfield 26, 3) := by decide +kernel
theorem dX11_blockLine_93 : decode cX11_blockLine 93 = .ok (.bipush 53, 2) := by decide +kernel
theorem dX11_blockLine_95 : decode cX11_blockLine 95 = .ok (.dup2, 1) := by decide +kernel
theorem dX11_blockLine_96 : decode cX11_blockLine 96 = .ok (.iaload, 1) := by decide +kernel
theorem dX11_blockLine_97 : decode cX11_blockLine 97 = .ok (.iconst 1, 1) := by decide +kernel
theorem dX11_blockLine_98 : decode cX11_blockLine 98 = .ok (.iadd, 1) := by decide +kernel
theorem dX11_blockLine_99 : decode cX11_blockLine 99 = .ok (.iastore, 1) := by decide +kernel
theorem dX11_blockLine_100 : decode cX11_blockLine 100 = .ok (.return_, 1) := by decide +kernel
def sX11_blockLine (F : Nat) (l0 : Nat) (l1 : Int32) (h : HP) : Option HP :=
  (gR h 11 (some l0) 11).bind fun t1 =>
  (aI h 13 t1 (53 : Int32)).bind fun t2 =>
  (if ¬ t2 = (6 : Int32) then
      some h
    else
      (dO h 11 (some l0)).bind fun a4 =>
      (sX11_wrong F a4 l1 h).bind fun h5 =>
      some h5).bind fun h3 =>
  (gI h3 11 (some l0) 10).bind fun t6 =>
  if t6 = (-1 : Int32) then
    (gR h3 11 (some l0) 11).bind fun t7 =>
    (aI h3 13 t7 (53 : Int32)).bind fun t8 =>
    nmI ((54 : Int32) + ((3 : Int32) * t8)) fun l2_9 =>
    (gR h3 11 (some l0) 11).bind fun t10 =>
    (dO h3 11 (some l0)).bind fun a11 =>
    bd2 (sX11_number F a11 (0 : Int32) (11 : Int32) h3) fun t12 h13 =>
    (sI h13 t10 l2_9 t12).bind fun h14 =>
    (gR h14 11 (some l0) 11).bind fun t15 =>
    (dO h14 11 (some l0)).bind fun a16 =>
    bd2 (sX11_number F a16 (0 : Int32) (40 : Int32) h14) fun t17 h18 =>
    (sI h18 t15 (l2_9 + (1 : Int32)) t17).bind fun h19 =>
    (gR h19 11 (some l0) 11).bind fun t20 =>
    (gR h19 11 (some l0) 11).bind fun t21 =>
    (aI h19 13 t21 (l2_9 + (1 : Int32))).bind fun t22 =>
    (dO h19 11 (some l0)).bind fun a23 =>
    bd2 (sX11_number F a23 t22 (40 : Int32) h19) fun t24 h25 =>
    (sI h25 t20 (l2_9 + (2 : Int32)) t24).bind fun h26 =>
    (gR h26 11 (some l0) 11).bind fun t27 =>
    (aI h26 13 t27 (53 : Int32)).bind fun t28 =>
    (sI h26 t27 (53 : Int32) (t28 + (1 : Int32))).bind fun h29 =>
    some h29
  else
    some h3
abbrev rm_X11_blockLine : Room := { frames := 2, cells := 0, slots := 0, locals := 46 }
set_option maxRecDepth 100000 in
set_option maxHeartbeats 4000000 in
theorem mt_X11_blockLine {w : WD} {l : Launch} {F : Nat} {l0 : Nat} {l1 : Int32} {h : HP} {h' : HP} (hs : sX11_blockLine F l0 l1 h = some h') : MV w l yX11_blockLine cX11_blockLine 3 rm_X11_blockLine 0 0 [rf w (some l0), .int l1] h h' := by
  refine of_body [(0, rf w (some l0)), (1, .int l1)] (by decide) (by simp [lg_sl, rf_cat, cat_i, cat_l, cat_a]) (by simp [lv_args, rf_cat, cat_i, cat_l, cat_a]) ?_
  intro x hw_ hnL_ hl_ hc hret hnm hQ
  subst hw_; subst hl_
  have hnl : ∀ i, i < 3 → i < x.nL := fun i h => by rw [hnL_]; exact h
  have hw : wpO (sX11_blockLine F l0 l1 h) (fun r => r = h') := ⟨_, hs, rfl⟩
  unfold sX11_blockLine at hw
  refine R_aload_n (q := 0) (i := 0) (v := (some l0)) hc dX11_blockLine_0 rfl rfl ?_
  refine R_getR hc fl_11_26 dX11_blockLine_1 hw (fun t1 hw => ?_)
  refine R_bipush (v := (53 : Int32)) hc dX11_blockLine_4 kB_53 ?_
  refine R_iaload hc dX11_blockLine_6 hw (fun t2 hw => ?_)
  refine R_bipush (v := (6 : Int32)) hc dX11_blockLine_7 kB_6 ?_
  refine R_join (fun (h3 : HP) => Rn x 0 0 17 [(0, rf x.w (some l0))] [] h3) hw (fun r hw => ?_) (fun hw => ?_)
  · revert r hw
    intro h3 hw
    show Rn x 0 0 17 [(0, rf x.w (some l0))] [] h3
    refine R_aload_n (q := 0) (i := 0) (v := (some l0)) hc dX11_blockLine_17 rfl rfl ?_
    refine R_getI hc fl_11_22 dX11_blockLine_18 hw (fun t6 hw => ?_)
    refine R_iconst (v := (-1 : Int32)) hc dX11_blockLine_21 kI_m1 ?_
    refine R_icmp_eq (tgt := 26) hc dX11_blockLine_22 (by decide) hw (fun hw => ?_) (fun hw => ?_)
    · refine R_bipush (v := (54 : Int32)) hc dX11_blockLine_26 kB_54 ?_
      refine R_iconst (v := (3 : Int32)) hc dX11_blockLine_28 kI_3 ?_
      refine R_aload_n (q := 0) (i := 0) (v := (some l0)) hc dX11_blockLine_29 rfl rfl ?_
      refine R_getR hc fl_11_26 dX11_blockLine_30 hw (fun t7 hw => ?_)
      refine R_bipush (v := (53 : Int32)) hc dX11_blockLine_33 kB_53 ?_
      refine R_iaload hc dX11_blockLine_35 hw (fun t8 hw => ?_)
      refine R_imul hc dX11_blockLine_36 ?_
      refine R_iadd hc dX11_blockLine_37 ?_
      refine R_nmI hw (fun l2_9 hw => ?_)
      refine R_istore_n (i := 2) (v := l2_9) hc [(2, .int l2_9), (0, rf x.w (some l0))] dX11_blockLine_38 rfl (hnl 2 (le_b rfl)) rfl ?_
      refine R_aload_n (q := 1) (i := 0) (v := (some l0)) hc dX11_blockLine_39 rfl rfl ?_
      refine R_getR hc fl_11_26 dX11_blockLine_40 hw (fun t10 hw => ?_)
      refine R_iload_n (q := 0) (i := 2) (v := l2_9) hc dX11_blockLine_43 rfl rfl ?_
      refine R_aload_n (q := 1) (i := 0) (v := (some l0)) hc dX11_blockLine_44 rfl rfl ?_
      refine R_iconst (v := (0 : Int32)) hc dX11_blockLine_45 kI_0 ?_
      refine R_bipush (v := (11 : Int32)) hc dX11_blockLine_46 kB_11 ?_
      refine R_cVIi (As := [.int (0 : Int32), .int (11 : Int32)]) (rest := [.int l2_9, rf x.w t10]) (r := (some l0)) (ci := 11) hc ml_11_250 mf_X11_number rfl (by decide) ⟨rfl, rfl⟩ ⟨le_b rfl, le_b rfl⟩ ⟨Nat.zero_le _, Nat.zero_le _⟩ (fun a v h' e => mt_X11_number e) rfl rfl (by simp [rf_cat, cat_i, cat_l, cat_a]) dX11_blockLine_48 hw (fun t12 h13 hw => ?_)
      refine R_iastore hc dX11_blockLine_51 hw (fun h14 hw => ?_)
      refine R_aload_n (q := 1) (i := 0) (v := (some l0)) hc dX11_blockLine_52 rfl rfl ?_
      refine R_getR hc fl_11_26 dX11_blockLine_53 hw (fun t15 hw => ?_)
      refine R_iload_n (q := 0) (i := 2) (v := l2_9) hc dX11_blockLine_56 rfl rfl ?_
      refine R_iconst (v := (1 : Int32)) hc dX11_blockLine_57 kI_1 ?_
      refine R_iadd hc dX11_blockLine_58 ?_
      refine R_aload_n (q := 1) (i := 0) (v := (some l0)) hc dX11_blockLine_59 rfl rfl ?_
      refine R_iconst (v := (0 : Int32)) hc dX11_blockLine_60 kI_0 ?_
      refine R_bipush (v := (40 : Int32)) hc dX11_blockLine_61 kB_40 ?_
      refine R_cVIi (As := [.int (0 : Int32), .int (40 : Int32)]) (rest := [.int (l2_9 + (1 : Int32)), rf x.w t15]) (r := (some l0)) (ci := 11) hc ml_11_250 mf_X11_number rfl (by decide) ⟨rfl, rfl⟩ ⟨le_b rfl, le_b rfl⟩ ⟨Nat.zero_le _, Nat.zero_le _⟩ (fun a v h' e => mt_X11_number e) rfl rfl (by simp [rf_cat, cat_i, cat_l, cat_a]) dX11_blockLine_63 hw (fun t17 h18 hw => ?_)
      refine R_iastore hc dX11_blockLine_66 hw (fun h19 hw => ?_)
      refine R_aload_n (q := 1) (i := 0) (v := (some l0)) hc dX11_blockLine_67 rfl rfl ?_
      refine R_getR hc fl_11_26 dX11_blockLine_68 hw (fun t20 hw => ?_)
      refine R_iload_n (q := 0) (i := 2) (v := l2_9) hc dX11_blockLine_71 rfl rfl ?_
      refine R_iconst (v := (2 : Int32)) hc dX11_blockLine_72 kI_2 ?_
      refine R_iadd hc dX11_blockLine_73 ?_
      refine R_aload_n (q := 1) (i := 0) (v := (some l0)) hc dX11_blockLine_74 rfl rfl ?_
      refine R_aload_n (q := 1) (i := 0) (v := (some l0)) hc dX11_blockLine_75 rfl rfl ?_
      refine R_getR hc fl_11_26 dX11_blockLine_76 hw (fun t21 hw => ?_)
      refine R_iload_n (q := 0) (i := 2) (v := l2_9) hc dX11_blockLine_79 rfl rfl ?_
      refine R_iconst (v := (1 : Int32)) hc dX11_blockLine_80 kI_1 ?_
      refine R_iadd hc dX11_blockLine_81 ?_
      refine R_iaload hc dX11_blockLine_82 hw (fun t22 hw => ?_)
      refine R_bipush (v := (40 : Int32)) hc dX11_blockLine_83 kB_40 ?_
      refine R_cVIi (As := [.int t22, .int (40 : Int32)]) (rest := [.int (l2_9 + (2 : Int32)), rf x.w t20]) (r := (some l0)) (ci := 11) hc ml_11_250 mf_X11_number rfl (by decide) ⟨rfl, rfl⟩ ⟨le_b rfl, le_b rfl⟩ ⟨Nat.zero_le _, Nat.zero_le _⟩ (fun a v h' e => mt_X11_number e) rfl rfl (by simp [rf_cat, cat_i, cat_l, cat_a]) dX11_blockLine_85 hw (fun t24 h25 hw => ?_)
      refine R_iastore hc dX11_blockLine_88 hw (fun h26 hw => ?_)
      refine R_aload_n (q := 1) (i := 0) (v := (some l0)) hc dX11_blockLine_89 rfl rfl ?_
      refine R_getR hc fl_11_26 dX11_blockLine_90 hw (fun t27 hw => ?_)
      refine R_bipush (v := (53 : Int32)) hc dX11_blockLine_93 kB_53 ?_
      refine R_dup2 hc dX11_blockLine_95 rfl (rf_cat _ _) ?_
      refine R_iaload hc dX11_blockLine_96 hw (fun t28 hw => ?_)
      refine R_iconst (v := (1 : Int32)) hc dX11_blockLine_97 kI_1 ?_
      refine R_iadd hc dX11_blockLine_98 ?_
      refine R_iastore hc dX11_blockLine_99 hw (fun h29 hw => ?_)
      exact R_return hc hret hQ hw dX11_blockLine_100
    · exact R_return hc hret hQ hw dX11_blockLine_25
  · refine R_icmp_ne (tgt := 17) hc dX11_blockLine_9 (by decide) hw (fun hw => ?_) (fun hw => ?_)
    · refine R_sub hc [0] rfl ?_
      exact (wpO_some hw :)
    · refine R_aload_n (q := 0) (i := 0) (v := (some l0)) hc dX11_blockLine_12 rfl rfl ?_
      refine R_iload_n (q := 1) (i := 1) (v := l1) hc dX11_blockLine_13 rfl rfl ?_
      refine R_cVVi (As := [.int l1]) (rest := []) (r := (some l0)) (ci := 11) hc ml_11_247 mf_X11_wrong rfl (by decide) ⟨rfl, rfl⟩ ⟨le_b rfl, le_b rfl⟩ ⟨Nat.zero_le _, Nat.zero_le _⟩ (fun a h' e => mt_X11_wrong e) rfl rfl (Nat.zero_le _) dX11_blockLine_14 hw (fun h5 hw => ?_)
      refine R_sub hc [0] rfl ?_
      exact (wpO_some hw :)
theorem dX11_fault_0 : decode cX11_fault 0 = .ok (.aload_n 0, 1) := by decide +kernel
theorem dX11_fault_1 : decode cX11_fault 1 = .ok (.iconst 0, 1) := by decide +kernel
theorem dX11_fault_2 : decode cX11_fault 2 = .ok (.putfield 100, 3) := by decide +kernel
theorem dX11_fault_5 : decode cX11_fault 5 = .ok (.aload_n 0, 1) := by decide +kernel
theorem dX11_fault_6 : decode cX11_fault 6 = .ok (.getfield 22, 3) := by decide +kernel
theorem dX11_fault_9 : decode cX11_fault 9 = .ok (.ireturn, 1) := by decide +kernel
def sX11_fault (F : Nat) (l0 : Nat) (h : HP) : Option (Int32 × HP) :=
  (pI h 11 (some l0) 0 (0 : Int32)).bind fun h1 =>
  (gI h1 11 (some l0) 10).bind fun t2 =>
  some (t2, h1)
abbrev rm_X11_fault : Room := { frames := 0, cells := 0, slots := 0, locals := 0 }
set_option maxRecDepth 100000 in
set_option maxHeartbeats 4000000 in
theorem mt_X11_fault {w : WD} {l : Launch} {F : Nat} {l0 : Nat} {h : HP} {v : Int32} {h' : HP} (hs : sX11_fault F l0 h = some (v, h')) : MI w l yX11_fault cX11_fault 1 .int rm_X11_fault 0 0 [rf w (some l0)] h v h' := by
  refine of_body [(0, rf w (some l0))] (by decide) (by simp [lg_sl, rf_cat, cat_i, cat_l, cat_a]) (by simp [lv_args, rf_cat, cat_i, cat_l, cat_a]) ?_
  intro x hw_ hnL_ hl_ hc hret hnm hQ
  subst hw_; subst hl_
  have hnl : ∀ i, i < 1 → i < x.nL := fun i h => by rw [hnL_]; exact h
  have hw : wpO (sX11_fault F l0 h) (fun r => r = (v, h')) := ⟨_, hs, rfl⟩
  unfold sX11_fault at hw
  refine R_aload_n (q := 0) (i := 0) (v := (some l0)) hc dX11_fault_0 rfl rfl ?_
  refine R_iconst (v := (0 : Int32)) hc dX11_fault_1 kI_0 ?_
  refine R_putI hc pl_11_100 rfl rfl dX11_fault_2 hw (fun h1 hw => ?_)
  refine R_aload_n (q := 0) (i := 0) (v := (some l0)) hc dX11_fault_5 rfl rfl ?_
  refine R_getI hc fl_11_22 dX11_fault_6 hw (fun t2 hw => ?_)
  exact R_ireturn hc hret rfl hQ hw dX11_fault_9
theorem dX11_fingersOf_0 : decode cX11_fingersOf 0 = .ok (.iconst 0, 1) := by decide +kernel
theorem dX11_fingersOf_1 : decode cX11_fingersOf 1 = .ok (.istore_n 2, 1) := by decide +kernel
theorem dX11_fingersOf_2 : decode cX11_fingersOf 2 = .ok (.iconst 0, 1) := by decide +kernel
theorem dX11_fingersOf_3 : decode cX11_fingersOf 3 = .ok (.istore_n 3, 1) := by decide +kernel
theorem dX11_fingersOf_4 : decode cX11_fingersOf 4 = .ok (.iload_n 3, 1) := by decide +kernel
theorem dX11_fingersOf_5 : decode cX11_fingersOf 5 = .ok (.aload_n 0, 1) := by decide +kernel
theorem dX11_fingersOf_6 : decode cX11_fingersOf 6 = .ok (.invokevirtual 103, 3) := by decide +kernel
theorem dX11_fingersOf_9 : decode cX11_fingersOf 9 = .ok (.if_icmp .ge 32, 3) := by decide +kernel
theorem dX11_fingersOf_12 : decode cX11_fingersOf 12 = .ok (.iload_n 2, 1) := by decide +kernel
theorem dX11_fingersOf_13 : decode cX11_fingersOf 13 = .ok (.aload_n 0, 1) := by decide +kernel
theorem dX11_fingersOf_14 : decode cX11_fingersOf 14 = .ok (.getfield 7, 3) := by decide +kernel
theorem dX11_fingersOf_17 : decode cX11_fingersOf 17 = .ok (.bipush 73, 2) := by decide +kernel
theorem dX11_fingersOf_19 : decode cX11_fingersOf 19 = .ok (.iload_n 3, 1) := by decide +kernel
theorem dX11_fingersOf_20 : decode cX11_fingersOf 20 = .ok (.iadd, 1) := by decide +kernel
theorem dX11_fingersOf_21 : decode cX11_fingersOf 21 = .ok (.iaload, 1) := by decide +kernel
theorem dX11_fingersOf_22 : decode cX11_fingersOf 22 = .ok (.iload_n 1, 1) := by decide +kernel
theorem dX11_fingersOf_23 : decode cX11_fingersOf 23 = .ok (.if_icmp .ne 9, 3) := by decide +kernel
theorem dX11_fingersOf_26 : decode cX11_fingersOf 26 = .ok (.iconst 1, 1) := by decide +kernel
theorem dX11_fingersOf_27 : decode cX11_fingersOf 27 = .ok (.iload_n 3, 1) := by decide +kernel
theorem dX11_fingersOf_28 : decode cX11_fingersOf 28 = .ok (.ishl, 1) := by decide +kernel
theorem dX11_fingersOf_29 : decode cX11_fingersOf 29 = .ok (.goto 4, 3) := by decide +kernel
theorem dX11_fingersOf_32 : decode cX11_fingersOf 32 = .ok (.iconst 0, 1) := by decide +kernel
theorem dX11_fingersOf_33 : decode cX11_fingersOf 33 = .ok (.ior, 1) := by decide +kernel
theorem dX11_fingersOf_34 : decode cX11_fingersOf 34 = .ok (.istore_n 2, 1) := by decide +kernel
theorem dX11_fingersOf_35 : decode cX11_fingersOf 35 = .ok (.iinc 3 1, 3) := by decide +kernel
theorem dX11_fingersOf_38 : decode cX11_fingersOf 38 = .ok (.goto (-34), 3) := by decide +kernel
theorem dX11_fingersOf_41 : decode cX11_fingersOf 41 = .ok (.iload_n 2, 1) := by decide +kernel
theorem dX11_fingersOf_42 : decode cX11_fingersOf 42 = .ok (.ireturn, 1) := by decide +kernel
def sX11_fingersOf_L4 (F : Nat) (l0 : Nat) (l1 : Int32) (l2 : Int32) (l3 : Int32) (h : HP) : Option ((Int32 × Int32) ⊕ Int32) :=
  (dO h 11 (some l0)).bind fun a1 =>
  (sX11_fingers F a1 h).bind fun t2 =>
  if t2 ≤ l3 then
    some (.inr l2)
  else
    (gR h 11 (some l0) 1).bind fun t3 =>
    (aI h 13 t3 ((73 : Int32) + l3)).bind fun t4 =>
    if ¬ t4 = l1 then
      nmI (l2 ||| (0 : Int32)) fun l2_5 =>
      some (.inl (l2_5, l3 + (1 : Int32)))
    else
      nmI (l2 ||| (jshl (1 : Int32) l3)) fun l2_6 =>
      some (.inl (l2_6, l3 + (1 : Int32)))
def sX11_fingersOf (F : Nat) (l0 : Nat) (l1 : Int32) (h : HP) : Option Int32 :=
  (iter (fun s => sX11_fingersOf_L4 F l0 l1 s.1 s.2 h) F ((0 : Int32), (0 : Int32))).bind fun l2_7 =>
    some l2_7
abbrev rm_X11_fingersOf : Room := { frames := 1, cells := 0, slots := 0, locals := 20 }
set_option maxRecDepth 100000 in
set_option maxHeartbeats 4000000 in
theorem mt_X11_fingersOf {w : WD} {l : Launch} {F : Nat} {l0 : Nat} {l1 : Int32} {h : HP} {v : Int32} (hs : sX11_fingersOf F l0 l1 h = some v) : MI w l yX11_fingersOf cX11_fingersOf 4 .int rm_X11_fingersOf 0 0 [rf w (some l0), .int l1] h v h := by
  refine of_body [(0, rf w (some l0)), (1, .int l1)] (by decide) (by simp [lg_sl, rf_cat, cat_i, cat_l, cat_a]) (by simp [lv_args, rf_cat, cat_i, cat_l, cat_a]) ?_
  intro x hw_ hnL_ hl_ hc hret hnm hQ
  subst hw_; subst hl_
  have hnl : ∀ i, i < 4 → i < x.nL := fun i h => by rw [hnL_]; exact h
  have hw : wpO (sX11_fingersOf F l0 l1 h) (fun r => r = v) := ⟨_, hs, rfl⟩
  unfold sX11_fingersOf at hw
  refine R_iconst (v := (0 : Int32)) hc dX11_fingersOf_0 kI_0 ?_
  refine R_istore_n (i := 2) (v := (0 : Int32)) hc [(2, .int (0 : Int32)), (0, rf x.w (some l0)), (1, .int l1)] dX11_fingersOf_1 rfl (hnl 2 (le_b rfl)) rfl ?_
  refine R_iconst (v := (0 : Int32)) hc dX11_fingersOf_2 kI_0 ?_
  refine R_istore_n (i := 3) (v := (0 : Int32)) hc [(3, .int (0 : Int32)), (2, .int (0 : Int32)), (0, rf x.w (some l0)), (1, .int l1)] dX11_fingersOf_3 rfl (hnl 3 (le_b rfl)) rfl ?_
  refine R_sub hc [2, 3, 1, 0] rfl ?_
  refine R_loop (P := fun (s : (Int32 × Int32)) => Rn x 0 0 4 [(0, rf x.w (some l0)), (1, .int l1), (2, .int s.1), (3, .int s.2)] [] h) (fun l2_7 => Rn x 0 0 41 [(2, .int l2_7)] [] h) hw (fun r hw => ?_) (fun X hX s hw => ?_)
  · revert r hw
    intro l2_7 hw
    show Rn x 0 0 41 [(2, .int l2_7)] [] h
    refine R_iload_n (q := 0) (i := 2) (v := l2_7) hc dX11_fingersOf_41 rfl rfl ?_
    exact R_ireturnP hc hret rfl hQ hw dX11_fingersOf_42
  · obtain ⟨l2_9, l3_10⟩ := s
    show Rn x 0 0 4 [(0, rf x.w (some l0)), (1, .int l1), (2, .int l2_9), (3, .int l3_10)] [] h
    have hw : wpO (sX11_fingersOf_L4 F l0 l1 l2_9 l3_10 h) _ := hw
    unfold sX11_fingersOf_L4 at hw
    refine R_iload_n (q := 3) (i := 3) (v := l3_10) hc dX11_fingersOf_4 rfl rfl ?_
    refine R_aload_n (q := 0) (i := 0) (v := (some l0)) hc dX11_fingersOf_5 rfl rfl ?_
    refine R_cVI (As := []) (rest := [.int l3_10]) (r := (some l0)) (ci := 11) hc ml_11_103 mf_X11_fingers rfl (by decide) ⟨rfl, rfl⟩ ⟨le_b rfl, le_b rfl⟩ ⟨Nat.zero_le _, Nat.zero_le _⟩ (fun a v e => mt_X11_fingers e) rfl rfl (le_b rfl) dX11_fingersOf_6 hw (fun t2 hw => ?_)
    refine R_icmp_ge (tgt := 41) hc dX11_fingersOf_9 (by decide) hw (fun hw => ?_) (fun hw => ?_)
    · refine R_sub hc [2] rfl ?_
      exact (wpO_some hw :)
    · refine R_iload_n (q := 2) (i := 2) (v := l2_9) hc dX11_fingersOf_12 rfl rfl ?_
      refine R_aload_n (q := 0) (i := 0) (v := (some l0)) hc dX11_fingersOf_13 rfl rfl ?_
      refine R_getR hc fl_11_7 dX11_fingersOf_14 hw (fun t3 hw => ?_)
      refine R_bipush (v := (73 : Int32)) hc dX11_fingersOf_17 kB_73 ?_
      refine R_iload_n (q := 3) (i := 3) (v := l3_10) hc dX11_fingersOf_19 rfl rfl ?_
      refine R_iadd hc dX11_fingersOf_20 ?_
      refine R_iaload hc dX11_fingersOf_21 hw (fun t4 hw => ?_)
      refine R_iload_n (q := 1) (i := 1) (v := l1) hc dX11_fingersOf_22 rfl rfl ?_
      refine R_icmp_ne (tgt := 32) hc dX11_fingersOf_23 (by decide) hw (fun hw => ?_) (fun hw => ?_)
      · refine R_iconst (v := (0 : Int32)) hc dX11_fingersOf_32 kI_0 ?_
        refine R_ior hc dX11_fingersOf_33 ?_
        refine R_nmI hw (fun l2_5 hw => ?_)
        refine R_istore_n (i := 2) (v := l2_5) hc [(2, .int l2_5), (0, rf x.w (some l0)), (1, .int l1), (3, .int l3_10)] dX11_fingersOf_34 rfl (hnl 2 (le_b rfl)) rfl ?_
        refine R_iinc (q := 3) (i := 3) (v := l3_10) hc [(3, .int (l3_10 + (1 : Int32))), (2, .int l2_5), (0, rf x.w (some l0)), (1, .int l1)] dX11_fingersOf_35 rfl (kC_1 _) (hnl 3 (le_b rfl)) rfl ?_
        refine R_goto (tgt := 4) hc dX11_fingersOf_38 (by decide) ?_
        refine R_sub hc [2, 3, 1, 0] rfl ?_
        exact hX (l2_5, l3_10 + (1 : Int32)) (wpO_some hw :)
      · refine R_iconst (v := (1 : Int32)) hc dX11_fingersOf_26 kI_1 ?_
        refine R_iload_n (q := 3) (i := 3) (v := l3_10) hc dX11_fingersOf_27 rfl rfl ?_
        refine R_ishl hc dX11_fingersOf_28 ?_
        refine R_goto (tgt := 33) hc dX11_fingersOf_29 (by decide) ?_
        refine R_ior hc dX11_fingersOf_33 ?_
        refine R_nmI hw (fun l2_6 hw => ?_)
        refine R_istore_n (i := 2) (v := l2_6) hc [(2, .int l2_6), (0, rf x.w (some l0)), (1, .int l1), (3, .int l3_10)] dX11_fingersOf_34 rfl (hnl 2 (le_b rfl)) rfl ?_
        refine R_iinc (q := 3) (i := 3) (v := l3_10) hc [(3, .int (l3_10 + (1 : Int32))), (2, .int l2_6), (0, rf x.w (some l0)), (1, .int l1)] dX11_fingersOf_35 rfl (kC_1 _) (hnl 3 (le_b rfl)) rfl ?_
        refine R_goto (tgt := 4) hc dX11_fingersOf_38 (by decide) ?_
        refine R_sub hc [2, 3, 1, 0] rfl ?_
        exact hX (l2_6, l3_10 + (1 : Int32)) (wpO_some hw :)
theorem dX11_pair_0 : decode cX11_pair 0 = .ok (.aload_n 0, 1) := by decide +kernel
theorem dX11_pair_1 : decode cX11_pair 1 = .ok (.iload_n 1, 1) := by decide +kernel
theorem dX11_pair_2 : decode cX11_pair 2 = .ok (.iconst 0, 1) := by decide +kernel
theorem dX11_pair_3 : decode cX11_pair 3 = .ok (.aload_n 0, 1) := by decide +kernel
theorem dX11_pair_4 : decode cX11_pair 4 = .ok (.getfield 7, 3) := by decide +kernel
theorem dX11_pair_7 : decode cX11_pair 7 = .ok (.iconst 4, 1) := by decide +kernel
theorem dX11_pair_8 : decode cX11_pair 8 = .ok (.iaload, 1) := by decide +kernel
theorem dX11_pair_9 : decode cX11_pair 9 = .ok (.iconst 1, 1) := by decide +kernel
theorem dX11_pair_10 : decode cX11_pair 10 = .ok (.isub, 1) := by decide +kernel
theorem dX11_pair_11 : decode cX11_pair 11 = .ok (.invokestatic 107, 3) := by decide +kernel
theorem dX11_pair_14 : decode cX11_pair 14 = .ok (.ifCond .ne 7, 3) := by decide +kernel
theorem dX11_pair_17 : decode cX11_pair 17 = .ok (.iconst 1, 1) := by decide +kernel
theorem dX11_pair_18 : decode cX11_pair 18 = .ok (.goto 18, 3) := by decide +kernel
theorem dX11_pair_21 : decode cX11_pair 21 = .ok (.iload_n 2, 1) := by decide +kernel
theorem dX11_pair_22 : decode cX11_pair 22 = .ok (.iconst 0, 1) := by decide +kernel
theorem dX11_pair_23 : decode cX11_pair 23 = .ok (.bipush 6, 2) := by decide +kernel
theorem dX11_pair_25 : decode cX11_pair 25 = .ok (.invokestatic 107, 3) := by decide +kernel
theorem dX11_pair_28 : decode cX11_pair 28 = .ok (.ifCond .ne 7, 3) := by decide +kernel
theorem dX11_pair_31 : decode cX11_pair 31 = .ok (.iconst 2, 1) := by decide +kernel
theorem dX11_pair_32 : decode cX11_pair 32 = .ok (.goto 4, 3) := by decide +kernel
theorem dX11_pair_35 : decode cX11_pair 35 = .ok (.iconst 0, 1) := by decide +kernel
theorem dX11_pair_36 : decode cX11_pair 36 = .ok (.putfield 100, 3) := by decide +kernel
theorem dX11_pair_39 : decode cX11_pair 39 = .ok (.aload_n 0, 1) := by decide +kernel
theorem dX11_pair_40 : decode cX11_pair 40 = .ok (.getfield 100, 3) := by decide +kernel
theorem dX11_pair_43 : decode cX11_pair 43 = .ok (.ifCond .le 5, 3) := by decide +kernel
theorem dX11_pair_46 : decode cX11_pair 46 = .ok (.iconst 0, 1) := by decide +kernel
theorem dX11_pair_47 : decode cX11_pair 47 = .ok (.ireturn, 1) := by decide +kernel
theorem dX11_pair_48 : decode cX11_pair 48 = .ok (.iload_n 2, 1) := by decide +kernel
theorem dX11_pair_49 : decode cX11_pair 49 = .ok (.bipush 6, 2) := by decide +kernel
theorem dX11_pair_51 : decode cX11_pair 51 = .ok (.if_icmp .ne 11, 3) := by decide +kernel
theorem dX11_pair_54 : decode cX11_pair 54 = .ok (.aload_n 0, 1) := by decide +kernel
theorem dX11_pair_55 : decode cX11_pair 55 = .ok (.iload_n 1, 1) := by decide +kernel
theorem dX11_pair_56 : decode cX11_pair 56 = .ok (.invokevirtual 291, 3) := by decide +kernel
theorem dX11_pair_59 : decode cX11_pair 59 = .ok (.goto 16, 3) := by decide +kernel
theorem dX11_pair_62 : decode cX11_pair 62 = .ok (.aload_n 0, 1) := by decide +kernel
theorem dX11_pair_63 : decode cX11_pair 63 = .ok (.getfield 7, 3) := by decide +kernel
theorem dX11_pair_66 : decode cX11_pair 66 = .ok (.iconst 5, 1) := by decide +kernel
theorem dX11_pair_67 : decode cX11_pair 67 = .ok (.bipush 6, 2) := by decide +kernel
theorem dX11_pair_69 : decode cX11_pair 69 = .ok (.iload_n 1, 1) := by decide +kernel
theorem dX11_pair_70 : decode cX11_pair 70 = .ok (.imul, 1) := by decide +kernel
theorem dX11_pair_71 : decode cX11_pair 71 = .ok (.iadd, 1) := by decide +kernel
theorem dX11_pair_72 : decode cX11_pair 72 = .ok (.iload_n 2, 1) := by decide +kernel
theorem dX11_pair_73 : decode cX11_pair 73 = .ok (.iadd, 1) := by decide +kernel
theorem dX11_pair_74 : decode cX11_pair 74 = .ok (.iaload, 1) := by decide +kernel
theorem dX11_pair_75 : decode cX11_pair 75 = .ok (.ireturn, 1) := by decide +kernel
def sX11_pair (F : Nat) (l0 : Nat) (l1 : Int32) (l2 : Int32) (h : HP) : Option (Int32 × HP) :=
  (gR h 11 (some l0) 1).bind fun t1 =>
  (aI h 13 t1 (4 : Int32)).bind fun t2 =>
  (sX11_isIn F l1 (0 : Int32) (t2 - (1 : Int32)) h).bind fun t3 =>
  (if ¬ t3 = 0 then
      (sX11_isIn F l2 (0 : Int32) (6 : Int32) h).bind fun t5 =>
      if ¬ t5 = 0 then
        some (0 : Int32)
      else
        some (2 : Int32)
    else
      some (1 : Int32)).bind fun s4 =>
  (pI h 11 (some l0) 0 s4).bind fun h6 =>
  (gI h6 11 (some l0) 0).bind fun t7 =>
  if t7 ≤ 0 then
    if ¬ l2 = (6 : Int32) then
      (gR h6 11 (some l0) 1).bind fun t8 =>
      (aI h6 13 t8 (((5 : Int32) + ((6 : Int32) * l1)) + l2)).bind fun t9 =>
      some (t9, h6)
    else
      (dO h6 11 (some l0)).bind fun a10 =>
      (sX11_fingersOf F a10 l1 h6).bind fun t11 =>
      some (t11, h6)
  else
    some ((0 : Int32), h6)
abbrev rm_X11_pair : Room := { frames := 2, cells := 0, slots := 0, locals := 43 }
set_option maxRecDepth 100000 in
set_option maxHeartbeats 4000000 in
theorem mt_X11_pair {w : WD} {l : Launch} {F : Nat} {l0 : Nat} {l1 : Int32} {l2 : Int32} {h : HP} {v : Int32} {h' : HP} (hs : sX11_pair F l0 l1 l2 h = some (v, h')) : MI w l yX11_pair cX11_pair 3 .int rm_X11_pair 0 0 [rf w (some l0), .int l1, .int l2] h v h' := by
  refine of_body [(0, rf w (some l0)), (1, .int l1), (2, .int l2)] (by decide) (by simp [lg_sl, rf_cat, cat_i, cat_l, cat_a]) (by simp [lv_args, rf_cat, cat_i, cat_l, cat_a]) ?_
  intro x hw_ hnL_ hl_ hc hret hnm hQ
  subst hw_; subst hl_
  have hnl : ∀ i, i < 3 → i < x.nL := fun i h => by rw [hnL_]; exact h
  have hw : wpO (sX11_pair F l0 l1 l2 h) (fun r => r = (v, h')) := ⟨_, hs, rfl⟩
  unfold sX11_pair at hw
  refine R_aload_n (q := 0) (i := 0) (v := (some l0)) hc dX11_pair_0 rfl rfl ?_
  refine R_iload_n (q := 1) (i := 1) (v := l1) hc dX11_pair_1 rfl rfl ?_
  refine R_iconst (v := (0 : Int32)) hc dX11_pair_2 kI_0 ?_
  refine R_aload_n (q := 0) (i := 0) (v := (some l0)) hc dX11_pair_3 rfl rfl ?_
  refine R_getR hc fl_11_7 dX11_pair_4 hw (fun t1 hw => ?_)
  refine R_iconst (v := (4 : Int32)) hc dX11_pair_7 kI_4 ?_
  refine R_iaload hc dX11_pair_8 hw (fun t2 hw => ?_)
  refine R_iconst (v := (1 : Int32)) hc dX11_pair_9 kI_1 ?_
  refine R_isub hc dX11_pair_10 ?_
  refine R_cSI (As := [.int l1, .int (0 : Int32), .int (t2 - (1 : Int32))]) (rest := [rf x.w (some l0)]) hc ml_11_107 mf_X11_isIn ⟨rfl, rfl⟩ ⟨le_b rfl, le_b rfl⟩ ⟨Nat.zero_le _, Nat.zero_le _⟩ (fun v e => mt_X11_isIn e) rfl rfl (le_b rfl) dX11_pair_11 hw (fun t3 hw => ?_)
  refine R_join (fun (s4 : Int32) => Rn x 0 0 36 [(0, rf x.w (some l0)), (1, .int l1), (2, .int l2)] [.int s4, rf x.w (some l0)] h) hw (fun r hw => ?_) (fun hw => ?_)
  · revert r hw
    intro s4 hw
    show Rn x 0 0 36 [(0, rf x.w (some l0)), (1, .int l1), (2, .int l2)] [.int s4, rf x.w (some l0)] h
    refine R_putI hc pl_11_100 rfl rfl dX11_pair_36 hw (fun h6 hw => ?_)
    refine R_aload_n (q := 0) (i := 0) (v := (some l0)) hc dX11_pair_39 rfl rfl ?_
    refine R_getI hc fl_11_100 dX11_pair_40 hw (fun t7 hw => ?_)
    refine R_if_le (tgt := 48) hc dX11_pair_43 (by decide) hw (fun hw => ?_) (fun hw => ?_)
    · refine R_iload_n (q := 2) (i := 2) (v := l2) hc dX11_pair_48 rfl rfl ?_
      refine R_bipush (v := (6 : Int32)) hc dX11_pair_49 kB_6 ?_
      refine R_icmp_ne (tgt := 62) hc dX11_pair_51 (by decide) hw (fun hw => ?_) (fun hw => ?_)
      · refine R_aload_n (q := 0) (i := 0) (v := (some l0)) hc dX11_pair_62 rfl rfl ?_
        refine R_getR hc fl_11_7 dX11_pair_63 hw (fun t8 hw => ?_)
        refine R_iconst (v := (5 : Int32)) hc dX11_pair_66 kI_5 ?_
        refine R_bipush (v := (6 : Int32)) hc dX11_pair_67 kB_6 ?_
        refine R_iload_n (q := 1) (i := 1) (v := l1) hc dX11_pair_69 rfl rfl ?_
        refine R_imul hc dX11_pair_70 ?_
        refine R_iadd hc dX11_pair_71 ?_
        refine R_iload_n (q := 2) (i := 2) (v := l2) hc dX11_pair_72 rfl rfl ?_
        refine R_iadd hc dX11_pair_73 ?_
        refine R_iaload hc dX11_pair_74 hw (fun t9 hw => ?_)
        exact R_ireturn hc hret rfl hQ hw dX11_pair_75
      · refine R_aload_n (q := 0) (i := 0) (v := (some l0)) hc dX11_pair_54 rfl rfl ?_
        refine R_iload_n (q := 1) (i := 1) (v := l1) hc dX11_pair_55 rfl rfl ?_
        refine R_cVI (As := [.int l1]) (rest := []) (r := (some l0)) (ci := 11) hc ml_11_291 mf_X11_fingersOf rfl (by decide) ⟨rfl, rfl⟩ ⟨le_b rfl, le_b rfl⟩ ⟨Nat.zero_le _, Nat.zero_le _⟩ (fun a v e => mt_X11_fingersOf e) rfl rfl (Nat.zero_le _) dX11_pair_56 hw (fun t11 hw => ?_)
        refine R_goto (tgt := 75) hc dX11_pair_59 (by decide) ?_
        exact R_ireturn hc hret rfl hQ hw dX11_pair_75
    · refine R_iconst (v := (0 : Int32)) hc dX11_pair_46 kI_0 ?_
      exact R_ireturn hc hret rfl hQ hw dX11_pair_47
  · refine R_if_ne (tgt := 21) hc dX11_pair_14 (by decide) hw (fun hw => ?_) (fun hw => ?_)
    · refine R_iload_n (q := 2) (i := 2) (v := l2) hc dX11_pair_21 rfl rfl ?_
      refine R_iconst (v := (0 : Int32)) hc dX11_pair_22 kI_0 ?_
      refine R_bipush (v := (6 : Int32)) hc dX11_pair_23 kB_6 ?_
      refine R_cSI (As := [.int l2, .int (0 : Int32), .int (6 : Int32)]) (rest := [rf x.w (some l0)]) hc ml_11_107 mf_X11_isIn ⟨rfl, rfl⟩ ⟨le_b rfl, le_b rfl⟩ ⟨Nat.zero_le _, Nat.zero_le _⟩ (fun v e => mt_X11_isIn e) rfl rfl (le_b rfl) dX11_pair_25 hw (fun t5 hw => ?_)
      refine R_if_ne (tgt := 35) hc dX11_pair_28 (by decide) hw (fun hw => ?_) (fun hw => ?_)
      · refine R_iconst (v := (0 : Int32)) hc dX11_pair_35 kI_0 ?_
        refine R_sub hc [0, 1, 2] rfl ?_
        exact (wpO_some hw :)
      · refine R_iconst (v := (2 : Int32)) hc dX11_pair_31 kI_2 ?_
        refine R_goto (tgt := 36) hc dX11_pair_32 (by decide) ?_
        refine R_sub hc [0, 1, 2] rfl ?_
        exact (wpO_some hw :)
    · refine R_iconst (v := (1 : Int32)) hc dX11_pair_17 kI_1 ?_
      refine R_goto (tgt := 36) hc dX11_pair_18 (by decide) ?_
      refine R_sub hc [0, 1, 2] rfl ?_
      exact (wpO_some hw :)
theorem dX11_areLike_0 : decode cX11_areLike 0 = .ok (.iload_n 0, 1) := by decide +kernel
theorem dX11_areLike_1 : decode cX11_areLike 1 = .ok (.iload_n 2, 1) := by decide +kernel
theorem dX11_areLike_2 : decode cX11_areLike 2 = .ok (.if_icmp .ne 8, 3) := by decide +kernel
theorem dX11_areLike_5 : decode cX11_areLike 5 = .ok (.iload_n 1, 1) := by decide +kernel
theorem dX11_areLike_6 : decode cX11_areLike 6 = .ok (.iload_n 3, 1) := by decide +kernel
theorem dX11_areLike_7 : decode cX11_areLike 7 = .ok (.if_icmp .eq 13, 3) := by decide +kernel
theorem dX11_areLike_10 : decode cX11_areLike 10 = .ok (.iload_n 0, 1) := by decide +kernel
theorem dX11_areLike_11 : decode cX11_areLike 11 = .ok (.iload_n 3, 1) := by decide +kernel
theorem dX11_areLike_12 : decode cX11_areLike 12 = .ok (.if_icmp .ne 12, 3) := by decide +kernel
theorem dX11_areLike_15 : decode cX11_areLike 15 = .ok (.iload_n 1, 1) := by decide +kernel
theorem dX11_areLike_16 : decode cX11_areLike 16 = .ok (.iload_n 2, 1) := by decide +kernel
theorem dX11_areLike_17 : decode cX11_areLike 17 = .ok (.if_icmp .ne 7, 3) := by decide +kernel
theorem dX11_areLike_20 : decode cX11_areLike 20 = .ok (.iconst 1, 1) := by decide +kernel
theorem dX11_areLike_21 : decode cX11_areLike 21 = .ok (.goto 4, 3) := by decide +kernel
theorem dX11_areLike_24 : decode cX11_areLike 24 = .ok (.iconst 0, 1) := by decide +kernel
theorem dX11_areLike_25 : decode cX11_areLike 25 = .ok (.ireturn, 1) := by decide +kernel
def sX11_areLike (F : Nat) (l0 : Int32) (l1 : Int32) (l2 : Int32) (l3 : Int32) (h : HP) : Option Int32 :=
  if ¬ l0 = l2 then
    if ¬ l0 = l3 then
      some (0 : Int32)
    else
      if ¬ l1 = l2 then
        some (0 : Int32)
      else
        some (1 : Int32)
  else
    if l1 = l3 then
      some (1 : Int32)
    else
      if ¬ l0 = l3 then
        some (0 : Int32)
      else
        if ¬ l1 = l2 then
          some (0 : Int32)
        else
          some (1 : Int32)
abbrev rm_X11_areLike : Room := { frames := 0, cells := 0, slots := 0, locals := 0 }
set_option maxRecDepth 100000 in
set_option maxHeartbeats 4000000 in
theorem mt_X11_areLike {w : WD} {l : Launch} {F : Nat} {l0 : Int32} {l1 : Int32} {l2 : Int32} {l3 : Int32} {h : HP} {v : Int32} (hs : sX11_areLike F l0 l1 l2 l3 h = some v) : MI w l yX11_areLike cX11_areLike 4 .boolean rm_X11_areLike 0 0 [.int l0, .int l1, .int l2, .int l3] h v h := by
  refine of_body [(0, .int l0), (1, .int l1), (2, .int l2), (3, .int l3)] (by decide) (by simp [lg_sl, rf_cat, cat_i, cat_l, cat_a]) (by simp [lv_args, rf_cat, cat_i, cat_l, cat_a]) ?_
  intro x hw_ hnL_ hl_ hc hret hnm hQ
  subst hw_; subst hl_
  have hnl : ∀ i, i < 4 → i < x.nL := fun i h => by rw [hnL_]; exact h
  have hw : wpO (sX11_areLike F l0 l1 l2 l3 h) (fun r => r = v) := ⟨_, hs, rfl⟩
  unfold sX11_areLike at hw
  refine R_iload_n (q := 0) (i := 0) (v := l0) hc dX11_areLike_0 rfl rfl ?_
  refine R_iload_n (q := 2) (i := 2) (v := l2) hc dX11_areLike_1 rfl rfl ?_
  refine R_icmp_ne (tgt := 10) hc dX11_areLike_2 (by decide) hw (fun hw => ?_) (fun hw => ?_)
  · refine R_iload_n (q := 0) (i := 0) (v := l0) hc dX11_areLike_10 rfl rfl ?_
    refine R_iload_n (q := 3) (i := 3) (v := l3) hc dX11_areLike_11 rfl rfl ?_
    refine R_icmp_ne (tgt := 24) hc dX11_areLike_12 (by decide) hw (fun hw => ?_) (fun hw => ?_)
    · refine R_iconst (v := (0 : Int32)) hc dX11_areLike_24 kI_0 ?_
      exact R_ireturnP hc hret rfl hQ hw dX11_areLike_25
    · refine R_iload_n (q := 1) (i := 1) (v := l1) hc dX11_areLike_15 rfl rfl ?_
      refine R_iload_n (q := 2) (i := 2) (v := l2) hc dX11_areLike_16 rfl rfl ?_
      refine R_icmp_ne (tgt := 24) hc dX11_areLike_17 (by decide) hw (fun hw => ?_) (fun hw => ?_)
      · refine R_iconst (v := (0 : Int32)) hc dX11_areLike_24 kI_0 ?_
        exact R_ireturnP hc hret rfl hQ hw dX11_areLike_25
      · refine R_iconst (v := (1 : Int32)) hc dX11_areLike_20 kI_1 ?_
        refine R_goto (tgt := 25) hc dX11_areLike_21 (by decide) ?_
        exact R_ireturnP hc hret rfl hQ hw dX11_areLike_25
  · refine R_iload_n (q := 1) (i := 1) (v := l1) hc dX11_areLike_5 rfl rfl ?_
    refine R_iload_n (q := 3) (i := 3) (v := l3) hc dX11_areLike_6 rfl rfl ?_
    refine R_icmp_eq (tgt := 20) hc dX11_areLike_7 (by decide) hw (fun hw => ?_) (fun hw => ?_)
    · refine R_iconst (v := (1 : Int32)) hc dX11_areLike_20 kI_1 ?_
      refine R_goto (tgt := 25) hc dX11_areLike_21 (by decide) ?_
      exact R_ireturnP hc hret rfl hQ hw dX11_areLike_25
    · refine R_iload_n (q := 0) (i := 0) (v := l0) hc dX11_areLike_10 rfl rfl ?_
      refine R_iload_n (q := 3) (i := 3) (v := l3) hc dX11_areLike_11 rfl rfl ?_
      refine R_icmp_ne (tgt := 24) hc dX11_areLike_12 (by decide) hw (fun hw => ?_) (fun hw => ?_)
      · refine R_iconst (v := (0 : Int32)) hc dX11_areLike_24 kI_0 ?_
        exact R_ireturnP hc hret rfl hQ hw dX11_areLike_25
      · refine R_iload_n (q := 1) (i := 1) (v := l1) hc dX11_areLike_15 rfl rfl ?_
        refine R_iload_n (q := 2) (i := 2) (v := l2) hc dX11_areLike_16 rfl rfl ?_
        refine R_icmp_ne (tgt := 24) hc dX11_areLike_17 (by decide) hw (fun hw => ?_) (fun hw => ?_)
        · refine R_iconst (v := (0 : Int32)) hc dX11_areLike_24 kI_0 ?_
          exact R_ireturnP hc hret rfl hQ hw dX11_areLike_25
        · refine R_iconst (v := (1 : Int32)) hc dX11_areLike_20 kI_1 ?_
          refine R_goto (tgt := 25) hc dX11_areLike_21 (by decide) ?_
          exact R_ireturnP hc hret rfl hQ hw dX11_areLike_25
theorem dX11_isReadBack_0 : decode cX11_isReadBack 0 = .ok (.aload_n 0, 1) := by decide +kernel
theorem dX11_isReadBack_1 : decode cX11_isReadBack 1 = .ok (.iload_n 1, 1) := by decide +kernel
theorem dX11_isReadBack_2 : decode cX11_isReadBack 2 = .ok (.invokevirtual 156, 3) := by decide +kernel
theorem dX11_isReadBack_5 : decode cX11_isReadBack 5 = .ok (.istore_n 2, 1) := by decide +kernel
theorem dX11_isReadBack_6 : decode cX11_isReadBack 6 = .ok (.aload_n 0, 1) := by decide +kernel
theorem dX11_isReadBack_7 : decode cX11_isReadBack 7 = .ok (.getfield 63, 3) := by decide +kernel
theorem dX11_isReadBack_10 : decode cX11_isReadBack 10 = .ok (.iload_n 1, 1) := by decide +kernel
theorem dX11_isReadBack_11 : decode cX11_isReadBack 11 = .ok (.iaload, 1) := by decide +kernel
theorem dX11_isReadBack_12 : decode cX11_isReadBack 12 = .ok (.istore_n 3, 1) := by decide +kernel
theorem dX11_isReadBack_13 : decode cX11_isReadBack 13 = .ok (.aload_n 0, 1) := by decide +kernel
theorem dX11_isReadBack_14 : decode cX11_isReadBack 14 = .ok (.getfield 57, 3) := by decide +kernel
theorem dX11_isReadBack_17 : decode cX11_isReadBack 17 = .ok (.iload_n 3, 1) := by decide +kernel
theorem dX11_isReadBack_18 : decode cX11_isReadBack 18 = .ok (.iaload, 1) := by decide +kernel
theorem dX11_isReadBack_19 : decode cX11_isReadBack 19 = .ok (.aload_n 0, 1) := by decide +kernel
theorem dX11_isReadBack_20 : decode cX11_isReadBack 20 = .ok (.iload_n 2, 1) := by decide +kernel
theorem dX11_isReadBack_21 : decode cX11_isReadBack 21 = .ok (.iconst 0, 1) := by decide +kernel
theorem dX11_isReadBack_22 : decode cX11_isReadBack 22 = .ok (.invokevirtual 111, 3) := by decide +kernel
theorem dX11_isReadBack_25 : decode cX11_isReadBack 25 = .ok (.if_icmp .ne 75, 3) := by decide +kernel
theorem dX11_isReadBack_28 : decode cX11_isReadBack 28 = .ok (.aload_n 0, 1) := by decide +kernel
theorem dX11_isReadBack_29 : decode cX11_isReadBack 29 = .ok (.getfield 54, 3) := by decide +kernel
theorem dX11_isReadBack_32 : decode cX11_isReadBack 32 = .ok (.iload_n 3, 1) := by decide +kernel
theorem dX11_isReadBack_33 : decode cX11_isReadBack 33 = .ok (.iconst 1, 1) := by decide +kernel
theorem dX11_isReadBack_34 : decode cX11_isReadBack 34 = .ok (.isub, 1) := by decide +kernel
theorem dX11_isReadBack_35 : decode cX11_isReadBack 35 = .ok (.iaload, 1) := by decide +kernel
theorem dX11_isReadBack_36 : decode cX11_isReadBack 36 = .ok (.aload_n 0, 1) := by decide +kernel
theorem dX11_isReadBack_37 : decode cX11_isReadBack 37 = .ok (.getfield 54, 3) := by decide +kernel
theorem dX11_isReadBack_40 : decode cX11_isReadBack 40 = .ok (.iload_n 3, 1) := by decide +kernel
theorem dX11_isReadBack_41 : decode cX11_isReadBack 41 = .ok (.iconst 1, 1) := by decide +kernel
theorem dX11_isReadBack_42 : decode cX11_isReadBack 42 = .ok (.iadd, 1) := by decide +kernel
theorem dX11_isReadBack_43 : decode cX11_isReadBack 43 = .ok (.iaload, 1) := by decide +kernel
theorem dX11_isReadBack_44 : decode cX11_isReadBack 44 = .ok (.aload_n 0, 1) := by decide +kernel
theorem dX11_isReadBack_45 : decode cX11_isReadBack 45 = .ok (.iload_n 2, 1) := by decide +kernel
theorem dX11_isReadBack_46 : decode cX11_isReadBack 46 = .ok (.iconst 1, 1) := by decide +kernel
theorem dX11_isReadBack_47 : decode cX11_isReadBack 47 = .ok (.invokevirtual 111, 3) := by decide +kernel
theorem dX11_isReadBack_50 : decode cX11_isReadBack 50 = .ok (.aload_n 0, 1) := by decide +kernel
theorem dX11_isReadBack_51 : decode cX11_isReadBack 51 = .ok (.iload_n 2, 1) := by decide +kernel
theorem dX11_isReadBack_52 : decode cX11_isReadBack 52 = .ok (.iconst 2, 1) := by decide +kernel
theorem dX11_isReadBack_53 : decode cX11_isReadBack 53 = .ok (.invokevirtual 111, 3) := by decide +kernel
theorem dX11_isReadBack_56 : decode cX11_isReadBack 56 = .ok (.invokestatic 294, 3) := by decide +kernel
theorem dX11_isReadBack_59 : decode cX11_isReadBack 59 = .ok (.ifCond .eq 41, 3) := by decide +kernel
theorem dX11_isReadBack_62 : decode cX11_isReadBack 62 = .ok (.aload_n 0, 1) := by decide +kernel
theorem dX11_isReadBack_63 : decode cX11_isReadBack 63 = .ok (.getfield 60, 3) := by decide +kernel
theorem dX11_isReadBack_66 : decode cX11_isReadBack 66 = .ok (.iload_n 3, 1) := by decide +kernel
theorem dX11_isReadBack_67 : decode cX11_isReadBack 67 = .ok (.iconst 1, 1) := by decide +kernel
theorem dX11_isReadBack_68 : decode cX11_isReadBack 68 = .ok (.isub, 1) := by decide +kernel
theorem dX11_isReadBack_69 : decode cX11_isReadBack 69 = .ok (.iaload, 1) := by decide +kernel
theorem dX11_isReadBack_70 : decode cX11_isReadBack 70 = .ok (.aload_n 0, 1) := by decide +kernel
theorem dX11_isReadBack_71 : decode cX11_isReadBack 71 = .ok (.getfield 60, 3) := by decide +kernel
theorem dX11_isReadBack_74 : decode cX11_isReadBack 74 = .ok (.iload_n 3, 1) := by decide +kernel
theorem dX11_isReadBack_75 : decode cX11_isReadBack 75 = .ok (.iconst 1, 1) := by decide +kernel
theorem dX11_isReadBack_76 : decode cX11_isReadBack 76 = .ok (.iadd, 1) := by decide +kernel
theorem dX11_isReadBack_77 : decode cX11_isReadBack 77 = .ok (.iaload, 1) := by decide +kernel
theorem dX11_isReadBack_78 : decode cX11_isReadBack 78 = .ok (.aload_n 0, 1) := by decide +kernel
theorem dX11_isReadBack_79 : decode cX11_isReadBack 79 = .ok (.iload_n 2, 1) := by decide +kernel
theorem dX11_isReadBack_80 : decode cX11_isReadBack 80 = .ok (.iconst 3, 1) := by decide +kernel
theorem dX11_isReadBack_81 : decode cX11_isReadBack 81 = .ok (.invokevirtual 111, 3) := by decide +kernel
theorem dX11_isReadBack_84 : decode cX11_isReadBack 84 = .ok (.aload_n 0, 1) := by decide +kernel
theorem dX11_isReadBack_85 : decode cX11_isReadBack 85 = .ok (.iload_n 2, 1) := by decide +kernel
theorem dX11_isReadBack_86 : decode cX11_isReadBack 86 = .ok (.iconst 4, 1) := by decide +kernel
theorem dX11_isReadBack_87 : decode cX11_isReadBack 87 = .ok (.invokevirtual 111, 3) := by decide +kernel
theorem dX11_isReadBack_90 : decode cX11_isReadBack 90 = .ok (.invokestatic 294, 3) := by decide +kernel
theorem dX11_isReadBack_93 : decode cX11_isReadBack 93 = .ok (.ifCond .eq 7, 3) := by decide +kernel
theorem dX11_isReadBack_96 : decode cX11_isReadBack 96 = .ok (.iconst 1, 1) := by decide +kernel
theorem dX11_isReadBack_97 : decode cX11_isReadBack 97 = .ok (.goto 4, 3) := by decide +kernel
theorem dX11_isReadBack_100 : decode cX11_isReadBack 100 = .ok (.iconst 0, 1) := by decide +kernel
theorem dX11_isReadBack_101 : decode cX11_isReadBack 101 = .ok (.ireturn, 1) := by decide +kernel
def sX11_isReadBack (F : Nat) (l0 : Nat) (l1 : Int32) (h : HP) : Option Int32 :=
  (dO h 11 (some l0)).bind fun a1 =>
  (sX11_fingerAt F a1 l1 h).bind fun t2 =>
  (gR h 11 (some l0) 26).bind fun t3 =>
  (aI h 13 t3 l1).bind fun t4 =>
  (gR h 11 (some l0) 24).bind fun t5 =>
  (aI h 13 t5 t4).bind fun t6 =>
  (dO h 11 (some l0)).bind fun a7 =>
  (sX11_of F a7 t2 (0 : Int32) h).bind fun t8 =>
  if ¬ t6 = t8 then
    some (0 : Int32)
  else
    (gR h 11 (some l0) 23).bind fun t9 =>
    (aI h 13 t9 (t4 - (1 : Int32))).bind fun t10 =>
    (gR h 11 (some l0) 23).bind fun t11 =>
    (aI h 13 t11 (t4 + (1 : Int32))).bind fun t12 =>
    (dO h 11 (some l0)).bind fun a13 =>
    (sX11_of F a13 t2 (1 : Int32) h).bind fun t14 =>
    (dO h 11 (some l0)).bind fun a15 =>
    (sX11_of F a15 t2 (2 : Int32) h).bind fun t16 =>
    (sX11_areLike F t10 t12 t14 t16 h).bind fun t17 =>
    if t17 = 0 then
      some (0 : Int32)
    else
      (gR h 11 (some l0) 25).bind fun t18 =>
      (aI h 13 t18 (t4 - (1 : Int32))).bind fun t19 =>
      (gR h 11 (some l0) 25).bind fun t20 =>
      (aI h 13 t20 (t4 + (1 : Int32))).bind fun t21 =>
      (dO h 11 (some l0)).bind fun a22 =>
      (sX11_of F a22 t2 (3 : Int32) h).bind fun t23 =>
      (dO h 11 (some l0)).bind fun a24 =>
      (sX11_of F a24 t2 (4 : Int32) h).bind fun t25 =>
      (sX11_areLike F t19 t21 t23 t25 h).bind fun t26 =>
      if t26 = 0 then
        some (0 : Int32)
      else
        some (1 : Int32)
abbrev rm_X11_isReadBack : Room := { frames := 1, cells := 0, slots := 0, locals := 23 }
set_option maxRecDepth 100000 in
set_option maxHeartbeats 4000000 in
theorem mt_X11_isReadBack {w : WD} {l : Launch} {F : Nat} {l0 : Nat} {l1 : Int32} {h : HP} {v : Int32} (hs : sX11_isReadBack F l0 l1 h = some v) : MI w l yX11_isReadBack cX11_isReadBack 4 .boolean rm_X11_isReadBack 0 0 [rf w (some l0), .int l1] h v h := by
  refine of_body [(0, rf w (some l0)), (1, .int l1)] (by decide) (by simp [lg_sl, rf_cat, cat_i, cat_l, cat_a]) (by simp [lv_args, rf_cat, cat_i, cat_l, cat_a]) ?_
  intro x hw_ hnL_ hl_ hc hret hnm hQ
  subst hw_; subst hl_
  have hnl : ∀ i, i < 4 → i < x.nL := fun i h => by rw [hnL_]; exact h
  have hw : wpO (sX11_isReadBack F l0 l1 h) (fun r => r = v) := ⟨_, hs, rfl⟩
  unfold sX11_isReadBack at hw
  refine R_aload_n (q := 0) (i := 0) (v := (some l0)) hc dX11_isReadBack_0 rfl rfl ?_
  refine R_iload_n (q := 1) (i := 1) (v := l1) hc dX11_isReadBack_1 rfl rfl ?_
  refine R_cVI (As := [.int l1]) (rest := []) (r := (some l0)) (ci := 11) hc ml_11_156 mf_X11_fingerAt rfl (by decide) ⟨rfl, rfl⟩ ⟨le_b rfl, le_b rfl⟩ ⟨Nat.zero_le _, Nat.zero_le _⟩ (fun a v e => mt_X11_fingerAt e) rfl rfl (Nat.zero_le _) dX11_isReadBack_2 hw (fun t2 hw => ?_)
  refine R_istore_n (i := 2) (v := t2) hc [(2, .int t2), (0, rf x.w (some l0)), (1, .int l1)] dX11_isReadBack_5 rfl (hnl 2 (le_b rfl)) rfl ?_
  refine R_aload_n (q := 1) (i := 0) (v := (some l0)) hc dX11_isReadBack_6 rfl rfl ?_
  refine R_getR hc fl_11_63 dX11_isReadBack_7 hw (fun t3 hw => ?_)
  refine R_iload_n (q := 2) (i := 1) (v := l1) hc dX11_isReadBack_10 rfl rfl ?_
  refine R_iaload hc dX11_isReadBack_11 hw (fun t4 hw => ?_)
  refine R_istore_n (i := 3) (v := t4) hc [(3, .int t4), (2, .int t2), (0, rf x.w (some l0)), (1, .int l1)] dX11_isReadBack_12 rfl (hnl 3 (le_b rfl)) rfl ?_
  refine R_aload_n (q := 2) (i := 0) (v := (some l0)) hc dX11_isReadBack_13 rfl rfl ?_
  refine R_getR hc fl_11_57 dX11_isReadBack_14 hw (fun t5 hw => ?_)
  refine R_iload_n (q := 0) (i := 3) (v := t4) hc dX11_isReadBack_17 rfl rfl ?_
  refine R_iaload hc dX11_isReadBack_18 hw (fun t6 hw => ?_)
  refine R_aload_n (q := 2) (i := 0) (v := (some l0)) hc dX11_isReadBack_19 rfl rfl ?_
  refine R_iload_n (q := 1) (i := 2) (v := t2) hc dX11_isReadBack_20 rfl rfl ?_
  refine R_iconst (v := (0 : Int32)) hc dX11_isReadBack_21 kI_0 ?_
  refine R_cVI (As := [.int t2, .int (0 : Int32)]) (rest := [.int t6]) (r := (some l0)) (ci := 11) hc ml_11_111 mf_X11_of rfl (by decide) ⟨rfl, rfl⟩ ⟨le_b rfl, le_b rfl⟩ ⟨Nat.zero_le _, Nat.zero_le _⟩ (fun a v e => mt_X11_of e) rfl rfl (le_b rfl) dX11_isReadBack_22 hw (fun t8 hw => ?_)
  refine R_icmp_ne (tgt := 100) hc dX11_isReadBack_25 (by decide) hw (fun hw => ?_) (fun hw => ?_)
  · refine R_iconst (v := (0 : Int32)) hc dX11_isReadBack_100 kI_0 ?_
    exact R_ireturnP hc hret rfl hQ hw dX11_isReadBack_101
  · refine R_aload_n (q := 2) (i := 0) (v := (some l0)) hc dX11_isReadBack_28 rfl rfl ?_
    refine R_getR hc fl_11_54 dX11_isReadBack_29 hw (fun t9 hw => ?_)
    refine R_iload_n (q := 0) (i := 3) (v := t4) hc dX11_isReadBack_32 rfl rfl ?_
    refine R_iconst (v := (1 : Int32)) hc dX11_isReadBack_33 kI_1 ?_
    refine R_isub hc dX11_isReadBack_34 ?_
    refine R_iaload hc dX11_isReadBack_35 hw (fun t10 hw => ?_)
    refine R_aload_n (q := 2) (i := 0) (v := (some l0)) hc dX11_isReadBack_36 rfl rfl ?_
    refine R_getR hc fl_11_54 dX11_isReadBack_37 hw (fun t11 hw => ?_)
    refine R_iload_n (q := 0) (i := 3) (v := t4) hc dX11_isReadBack_40 rfl rfl ?_
    refine R_iconst (v := (1 : Int32)) hc dX11_isReadBack_41 kI_1 ?_
    refine R_iadd hc dX11_isReadBack_42 ?_
    refine R_iaload hc dX11_isReadBack_43 hw (fun t12 hw => ?_)
    refine R_aload_n (q := 2) (i := 0) (v := (some l0)) hc dX11_isReadBack_44 rfl rfl ?_
    refine R_iload_n (q := 1) (i := 2) (v := t2) hc dX11_isReadBack_45 rfl rfl ?_
    refine R_iconst (v := (1 : Int32)) hc dX11_isReadBack_46 kI_1 ?_
    refine R_cVI (As := [.int t2, .int (1 : Int32)]) (rest := [.int t12, .int t10]) (r := (some l0)) (ci := 11) hc ml_11_111 mf_X11_of rfl (by decide) ⟨rfl, rfl⟩ ⟨le_b rfl, le_b rfl⟩ ⟨Nat.zero_le _, Nat.zero_le _⟩ (fun a v e => mt_X11_of e) rfl rfl (le_b rfl) dX11_isReadBack_47 hw (fun t14 hw => ?_)
    refine R_aload_n (q := 2) (i := 0) (v := (some l0)) hc dX11_isReadBack_50 rfl rfl ?_
    refine R_iload_n (q := 1) (i := 2) (v := t2) hc dX11_isReadBack_51 rfl rfl ?_
    refine R_iconst (v := (2 : Int32)) hc dX11_isReadBack_52 kI_2 ?_
    refine R_cVI (As := [.int t2, .int (2 : Int32)]) (rest := [.int t14, .int t12, .int t10]) (r := (some l0)) (ci := 11) hc ml_11_111 mf_X11_of rfl (by decide) ⟨rfl, rfl⟩ ⟨le_b rfl, le_b rfl⟩ ⟨Nat.zero_le _, Nat.zero_le _⟩ (fun a v e => mt_X11_of e) rfl rfl (le_b rfl) dX11_isReadBack_53 hw (fun t16 hw => ?_)
    refine R_cSI (As := [.int t10, .int t12, .int t14, .int t16]) (rest := []) hc ml_11_294 mf_X11_areLike ⟨rfl, rfl⟩ ⟨le_b rfl, le_b rfl⟩ ⟨Nat.zero_le _, Nat.zero_le _⟩ (fun v e => mt_X11_areLike e) rfl rfl (Nat.zero_le _) dX11_isReadBack_56 hw (fun t17 hw => ?_)
    refine R_if_eq (tgt := 100) hc dX11_isReadBack_59 (by decide) hw (fun hw => ?_) (fun hw => ?_)
    · refine R_iconst (v := (0 : Int32)) hc dX11_isReadBack_100 kI_0 ?_
      exact R_ireturnP hc hret rfl hQ hw dX11_isReadBack_101
    · refine R_aload_n (q := 2) (i := 0) (v := (some l0)) hc dX11_isReadBack_62 rfl rfl ?_
      refine R_getR hc fl_11_60 dX11_isReadBack_63 hw (fun t18 hw => ?_)
      refine R_iload_n (q := 0) (i := 3) (v := t4) hc dX11_isReadBack_66 rfl rfl ?_
      refine R_iconst (v := (1 : Int32)) hc dX11_isReadBack_67 kI_1 ?_
      refine R_isub hc dX11_isReadBack_68 ?_
      refine R_iaload hc dX11_isReadBack_69 hw (fun t19 hw => ?_)
      refine R_aload_n (q := 2) (i := 0) (v := (some l0)) hc dX11_isReadBack_70 rfl rfl ?_
      refine R_getR hc fl_11_60 dX11_isReadBack_71 hw (fun t20 hw => ?_)
      refine R_iload_n (q := 0) (i := 3) (v := t4) hc dX11_isReadBack_74 rfl rfl ?_
      refine R_iconst (v := (1 : Int32)) hc dX11_isReadBack_75 kI_1 ?_
      refine R_iadd hc dX11_isReadBack_76 ?_
      refine R_iaload hc dX11_isReadBack_77 hw (fun t21 hw => ?_)
      refine R_aload_n (q := 2) (i := 0) (v := (some l0)) hc dX11_isReadBack_78 rfl rfl ?_
      refine R_iload_n (q := 1) (i := 2) (v := t2) hc dX11_isReadBack_79 rfl rfl ?_
      refine R_iconst (v := (3 : Int32)) hc dX11_isReadBack_80 kI_3 ?_
      refine R_cVI (As := [.int t2, .int (3 : Int32)]) (rest := [.int t21, .int t19]) (r := (some l0)) (ci := 11) hc ml_11_111 mf_X11_of rfl (by decide) ⟨rfl, rfl⟩ ⟨le_b rfl, le_b rfl⟩ ⟨Nat.zero_le _, Nat.zero_le _⟩ (fun a v e => mt_X11_of e) rfl rfl (le_b rfl) dX11_isReadBack_81 hw (fun t23 hw => ?_)
      refine R_aload_n (q := 2) (i := 0) (v := (some l0)) hc dX11_isReadBack_84 rfl rfl ?_
      refine R_iload_n (q := 1) (i := 2) (v := t2) hc dX11_isReadBack_85 rfl rfl ?_
      refine R_iconst (v := (4 : Int32)) hc dX11_isReadBack_86 kI_4 ?_
      refine R_cVI (As := [.int t2, .int (4 : Int32)]) (rest := [.int t23, .int t21, .int t19]) (r := (some l0)) (ci := 11) hc ml_11_111 mf_X11_of rfl (by decide) ⟨rfl, rfl⟩ ⟨le_b rfl, le_b rfl⟩ ⟨Nat.zero_le _, Nat.zero_le _⟩ (fun a v e => mt_X11_of e) rfl rfl (le_b rfl) dX11_isReadBack_87 hw (fun t25 hw => ?_)
      refine R_cSI (As := [.int t19, .int t21, .int t23, .int t25]) (rest := []) hc ml_11_294 mf_X11_areLike ⟨rfl, rfl⟩ ⟨le_b rfl, le_b rfl⟩ ⟨Nat.zero_le _, Nat.zero_le _⟩ (fun v e => mt_X11_areLike e) rfl rfl (Nat.zero_le _) dX11_isReadBack_90 hw (fun t26 hw => ?_)
      refine R_if_eq (tgt := 100) hc dX11_isReadBack_93 (by decide) hw (fun hw => ?_) (fun hw => ?_)
      · refine R_iconst (v := (0 : Int32)) hc dX11_isReadBack_100 kI_0 ?_
        exact R_ireturnP hc hret rfl hQ hw dX11_isReadBack_101
      · refine R_iconst (v := (1 : Int32)) hc dX11_isReadBack_96 kI_1 ?_
        refine R_goto (tgt := 101) hc dX11_isReadBack_97 (by decide) ?_
        exact R_ireturnP hc hret rfl hQ hw dX11_isReadBack_101
theorem dX11_at_0 : decode cX11_at 0 = .ok (.aload_n 0, 1) := by decide +kernel
theorem dX11_at_1 : decode cX11_at 1 = .ok (.aload_n 0, 1) := by decide +kernel
theorem dX11_at_2 : decode cX11_at 2 = .ok (.iload_n 1, 1) := by decide +kernel
theorem dX11_at_3 : decode cX11_at 3 = .ok (.invokevirtual 298, 3) := by decide +kernel
theorem dX11_at_6 : decode cX11_at 6 = .ok (.ifCond .ne 7, 3) := by decide +kernel
theorem dX11_at_9 : decode cX11_at 9 = .ok (.iconst 1, 1) := by decide +kernel
theorem dX11_at_10 : decode cX11_at 10 = .ok (.goto 17, 3) := by decide +kernel
theorem dX11_at_13 : decode cX11_at 13 = .ok (.iload_n 2, 1) := by decide +kernel
theorem dX11_at_14 : decode cX11_at 14 = .ok (.iconst 0, 1) := by decide +kernel
theorem dX11_at_15 : decode cX11_at 15 = .ok (.iconst 5, 1) := by decide +kernel
theorem dX11_at_16 : decode cX11_at 16 = .ok (.invokestatic 107, 3) := by decide +kernel
theorem dX11_at_19 : decode cX11_at 19 = .ok (.ifCond .ne 7, 3) := by decide +kernel
theorem dX11_at_22 : decode cX11_at 22 = .ok (.iconst 2, 1) := by decide +kernel
theorem dX11_at_23 : decode cX11_at 23 = .ok (.goto 4, 3) := by decide +kernel
theorem dX11_at_26 : decode cX11_at 26 = .ok (.iconst 0, 1) := by decide +kernel
theorem dX11_at_27 : decode cX11_at 27 = .ok (.putfield 100, 3) := by decide +kernel
theorem dX11_at_30 : decode cX11_at 30 = .ok (.aload_n 0, 1) := by decide +kernel
theorem dX11_at_31 : decode cX11_at 31 = .ok (.getfield 100, 3) := by decide +kernel
theorem dX11_at_34 : decode cX11_at 34 = .ok (.ifCond .le 5, 3) := by decide +kernel
theorem dX11_at_37 : decode cX11_at 37 = .ok (.iconst 0, 1) := by decide +kernel
theorem dX11_at_38 : decode cX11_at 38 = .ok (.ireturn, 1) := by decide +kernel
theorem dX11_at_39 : decode cX11_at 39 = .ok (.aload_n 0, 1) := by decide +kernel
theorem dX11_at_40 : decode cX11_at 40 = .ok (.invokevirtual 208, 3) := by decide +kernel
theorem dX11_at_43 : decode cX11_at 43 = .ok (.iload_n 2, 1) := by decide +kernel
theorem dX11_at_44 : decode cX11_at 44 = .ok (.tableswitch 93 0 4 #[36, 42, 56, 62, 69], 36) := by decide +kernel
theorem dX11_at_80 : decode cX11_at 80 = .ok (.aload_n 0, 1) := by decide +kernel
theorem dX11_at_81 : decode cX11_at 81 = .ok (.iload_n 1, 1) := by decide +kernel
theorem dX11_at_82 : decode cX11_at 82 = .ok (.invokevirtual 156, 3) := by decide +kernel
theorem dX11_at_85 : decode cX11_at 85 = .ok (.ireturn, 1) := by decide +kernel
theorem dX11_at_86 : decode cX11_at 86 = .ok (.aload_n 0, 1) := by decide +kernel
theorem dX11_at_87 : decode cX11_at 87 = .ok (.getfield 7, 3) := by decide +kernel
theorem dX11_at_90 : decode cX11_at 90 = .ok (.bipush 73, 2) := by decide +kernel
theorem dX11_at_92 : decode cX11_at 92 = .ok (.aload_n 0, 1) := by decide +kernel
theorem dX11_at_93 : decode cX11_at 93 = .ok (.iload_n 1, 1) := by decide +kernel
theorem dX11_at_94 : decode cX11_at 94 = .ok (.invokevirtual 156, 3) := by decide +kernel
theorem dX11_at_97 : decode cX11_at 97 = .ok (.iadd, 1) := by decide +kernel
theorem dX11_at_98 : decode cX11_at 98 = .ok (.iaload, 1) := by decide +kernel
theorem dX11_at_99 : decode cX11_at 99 = .ok (.ireturn, 1) := by decide +kernel
theorem dX11_at_100 : decode cX11_at 100 = .ok (.aload_n 0, 1) := by decide +kernel
theorem dX11_at_101 : decode cX11_at 101 = .ok (.iload_n 1, 1) := by decide +kernel
theorem dX11_at_102 : decode cX11_at 102 = .ok (.invokevirtual 160, 3) := by decide +kernel
theorem dX11_at_105 : decode cX11_at 105 = .ok (.ireturn, 1) := by decide +kernel
theorem dX11_at_106 : decode cX11_at 106 = .ok (.aload_n 0, 1) := by decide +kernel
theorem dX11_at_107 : decode cX11_at 107 = .ok (.getfield 63, 3) := by decide +kernel
theorem dX11_at_110 : decode cX11_at 110 = .ok (.iload_n 1, 1) := by decide +kernel
theorem dX11_at_111 : decode cX11_at 111 = .ok (.iaload, 1) := by decide +kernel
theorem dX11_at_112 : decode cX11_at 112 = .ok (.ireturn, 1) := by decide +kernel
theorem dX11_at_113 : decode cX11_at 113 = .ok (.iload_n 1, 1) := by decide +kernel
theorem dX11_at_114 : decode cX11_at 114 = .ok (.aload_n 0, 1) := by decide +kernel
theorem dX11_at_115 : decode cX11_at 115 = .ok (.invokevirtual 103, 3) := by decide +kernel
theorem dX11_at_118 : decode cX11_at 118 = .ok (.iconst 1, 1) := by decide +kernel
theorem dX11_at_119 : decode cX11_at 119 = .ok (.isub, 1) := by decide +kernel
theorem dX11_at_120 : decode cX11_at 120 = .ok (.if_icmp .ge 15, 3) := by decide +kernel
theorem dX11_at_123 : decode cX11_at 123 = .ok (.aload_n 0, 1) := by decide +kernel
theorem dX11_at_124 : decode cX11_at 124 = .ok (.iload_n 1, 1) := by decide +kernel
theorem dX11_at_125 : decode cX11_at 125 = .ok (.invokevirtual 163, 3) := by decide +kernel
theorem dX11_at_128 : decode cX11_at 128 = .ok (.ifCond .ne 7, 3) := by decide +kernel
theorem dX11_at_131 : decode cX11_at 131 = .ok (.iconst 1, 1) := by decide +kernel
theorem dX11_at_132 : decode cX11_at 132 = .ok (.goto 4, 3) := by decide +kernel
theorem dX11_at_135 : decode cX11_at 135 = .ok (.iconst 0, 1) := by decide +kernel
theorem dX11_at_136 : decode cX11_at 136 = .ok (.ireturn, 1) := by decide +kernel
theorem dX11_at_137 : decode cX11_at 137 = .ok (.aload_n 0, 1) := by decide +kernel
theorem dX11_at_138 : decode cX11_at 138 = .ok (.iload_n 1, 1) := by decide +kernel
theorem dX11_at_139 : decode cX11_at 139 = .ok (.invokevirtual 301, 3) := by decide +kernel
theorem dX11_at_142 : decode cX11_at 142 = .ok (.ifCond .eq 7, 3) := by decide +kernel
theorem dX11_at_145 : decode cX11_at 145 = .ok (.iconst 1, 1) := by decide +kernel
theorem dX11_at_146 : decode cX11_at 146 = .ok (.goto 4, 3) := by decide +kernel
theorem dX11_at_149 : decode cX11_at 149 = .ok (.iconst 0, 1) := by decide +kernel
theorem dX11_at_150 : decode cX11_at 150 = .ok (.ireturn, 1) := by decide +kernel
def sX11_at (F : Nat) (l0 : Nat) (l1 : Int32) (l2 : Int32) (h : HP) : Option (Int32 × HP) :=
  (dO h 11 (some l0)).bind fun a1 =>
  (sX11_isFinger F a1 l1 h).bind fun t2 =>
  (if ¬ t2 = 0 then
      (sX11_isIn F l2 (0 : Int32) (5 : Int32) h).bind fun t4 =>
      if ¬ t4 = 0 then
        some (0 : Int32)
      else
        some (2 : Int32)
    else
      some (1 : Int32)).bind fun s3 =>
  (pI h 11 (some l0) 0 s3).bind fun h5 =>
  (gI h5 11 (some l0) 0).bind fun t6 =>
  if t6 ≤ 0 then
    (dO h5 11 (some l0)).bind fun a7 =>
    (sX11_laysColumns F a7 h5).bind fun h8 =>
    if l2 = (0 : Int32) then
      (dO h8 11 (some l0)).bind fun a9 =>
      (sX11_fingerAt F a9 l1 h8).bind fun t10 =>
      some (t10, h8)
    else if l2 = (1 : Int32) then
      (gR h8 11 (some l0) 1).bind fun t11 =>
      (dO h8 11 (some l0)).bind fun a12 =>
      (sX11_fingerAt F a12 l1 h8).bind fun t13 =>
      (aI h8 13 t11 ((73 : Int32) + t13)).bind fun t14 =>
      some (t14, h8)
    else if l2 = (2 : Int32) then
      (dO h8 11 (some l0)).bind fun a15 =>
      (sX11_turnAt F a15 l1 h8).bind fun t16 =>
      some (t16, h8)
    else if l2 = (3 : Int32) then
      (gR h8 11 (some l0) 26).bind fun t17 =>
      (aI h8 13 t17 l1).bind fun t18 =>
      some (t18, h8)
    else if l2 = (4 : Int32) then
      (dO h8 11 (some l0)).bind fun a19 =>
      (sX11_fingers F a19 h8).bind fun t20 =>
      if (t20 - (1 : Int32)) ≤ l1 then
        some ((0 : Int32), h8)
      else
        (dO h8 11 (some l0)).bind fun a21 =>
        (sX11_lackBehind F a21 l1 h8).bind fun t22 =>
        if ¬ t22 = 0 then
          some ((0 : Int32), h8)
        else
          some ((1 : Int32), h8)
    else
      (dO h8 11 (some l0)).bind fun a23 =>
      (sX11_isReadBack F a23 l1 h8).bind fun t24 =>
      if t24 = 0 then
        some ((0 : Int32), h8)
      else
        some ((1 : Int32), h8)
  else
    some ((0 : Int32), h5)
abbrev rm_X11_at : Room := { frames := 6, cells := 0, slots := 0, locals := 141 }
set_option maxRecDepth 100000 in
set_option maxHeartbeats 4000000 in
theorem mt_X11_at {w : WD} {l : Launch} {F : Nat} {l0 : Nat} {l1 : Int32} {l2 : Int32} {h : HP} {v : Int32} {h' : HP} (hs : sX11_at F l0 l1 l2 h = some (v, h')) : MI w l yX11_at cX11_at 3 .int rm_X11_at 0 0 [rf w (some l0), .int l1, .int l2] h v h' := by
  refine of_body [(0, rf w (some l0)), (1, .int l1), (2, .int l2)] (by decide) (by simp [lg_sl, rf_cat, cat_i, cat_l, cat_a]) (by simp [lv_args, rf_cat, cat_i, cat_l, cat_a]) ?_
  intro x hw_ hnL_ hl_ hc hret hnm hQ
  subst hw_; subst hl_
  have hnl : ∀ i, i < 3 → i < x.nL := fun i h => by rw [hnL_]; exact h
  have hw : wpO (sX11_at F l0 l1 l2 h) (fun r => r = (v, h')) := ⟨_, hs, rfl⟩
  unfold sX11_at at hw
  refine R_aload_n (q := 0) (i := 0) (v := (some l0)) hc dX11_at_0 rfl rfl ?_
  refine R_aload_n (q := 0) (i := 0) (v := (some l0)) hc dX11_at_1 rfl rfl ?_
  refine R_iload_n (q := 1) (i := 1) (v := l1) hc dX11_at_2 rfl rfl ?_
  refine R_cVI (As := [.int l1]) (rest := [rf x.w (some l0)]) (r := (some l0)) (ci := 11) hc ml_11_298 mf_X11_isFinger rfl (by decide) ⟨rfl, rfl⟩ ⟨le_b rfl, le_b rfl⟩ ⟨Nat.zero_le _, Nat.zero_le _⟩ (fun a v e => mt_X11_isFinger e) rfl rfl (le_b rfl) dX11_at_3 hw (fun t2 hw => ?_)
  refine R_join (fun (s3 : Int32) => Rn x 0 0 27 [(0, rf x.w (some l0)), (1, .int l1), (2, .int l2)] [.int s3, rf x.w (some l0)] h) hw (fun r hw => ?_) (fun hw => ?_)
  · revert r hw
    intro s3 hw
    show Rn x 0 0 27 [(0, rf x.w (some l0)), (1, .int l1), (2, .int l2)] [.int s3, rf x.w (some l0)] h
    refine R_putI hc pl_11_100 rfl rfl dX11_at_27 hw (fun h5 hw => ?_)
    refine R_aload_n (q := 0) (i := 0) (v := (some l0)) hc dX11_at_30 rfl rfl ?_
    refine R_getI hc fl_11_100 dX11_at_31 hw (fun t6 hw => ?_)
    refine R_if_le (tgt := 39) hc dX11_at_34 (by decide) hw (fun hw => ?_) (fun hw => ?_)
    · refine R_aload_n (q := 0) (i := 0) (v := (some l0)) hc dX11_at_39 rfl rfl ?_
      refine R_cVVi (As := []) (rest := []) (r := (some l0)) (ci := 11) hc ml_11_208 mf_X11_laysColumns rfl (by decide) ⟨rfl, rfl⟩ ⟨le_b rfl, le_b rfl⟩ ⟨Nat.zero_le _, Nat.zero_le _⟩ (fun a h' e => mt_X11_laysColumns e) rfl rfl (Nat.zero_le _) dX11_at_40 hw (fun h8 hw => ?_)
      refine R_iload_n (q := 2) (i := 2) (v := l2) hc dX11_at_43 rfl rfl ?_
      by_cases hk0 : l2 = (0 : Int32)
      · rw [if_pos hk0] at hw
        refine R_tsI (tgt := 80) hc dX11_at_44 (k := 0) (by rw [hk0]; decide) (by decide) (by decide) rfl (by decide) ?_
        refine R_aload_n (q := 0) (i := 0) (v := (some l0)) hc dX11_at_80 rfl rfl ?_
        refine R_iload_n (q := 1) (i := 1) (v := l1) hc dX11_at_81 rfl rfl ?_
        refine R_cVI (As := [.int l1]) (rest := []) (r := (some l0)) (ci := 11) hc ml_11_156 mf_X11_fingerAt rfl (by decide) ⟨rfl, rfl⟩ ⟨le_b rfl, le_b rfl⟩ ⟨Nat.zero_le _, Nat.zero_le _⟩ (fun a v e => mt_X11_fingerAt e) rfl rfl (Nat.zero_le _) dX11_at_82 hw (fun t10 hw => ?_)
        exact R_ireturn hc hret rfl hQ hw dX11_at_85
      rw [if_neg hk0] at hw
      by_cases hk1 : l2 = (1 : Int32)
      · rw [if_pos hk1] at hw
        refine R_tsI (tgt := 86) hc dX11_at_44 (k := 1) (by rw [hk1]; decide) (by decide) (by decide) rfl (by decide) ?_
        refine R_aload_n (q := 0) (i := 0) (v := (some l0)) hc dX11_at_86 rfl rfl ?_
        refine R_getR hc fl_11_7 dX11_at_87 hw (fun t11 hw => ?_)
        refine R_bipush (v := (73 : Int32)) hc dX11_at_90 kB_73 ?_
        refine R_aload_n (q := 0) (i := 0) (v := (some l0)) hc dX11_at_92 rfl rfl ?_
        refine R_iload_n (q := 1) (i := 1) (v := l1) hc dX11_at_93 rfl rfl ?_
        refine R_cVI (As := [.int l1]) (rest := [.int (73 : Int32), rf x.w t11]) (r := (some l0)) (ci := 11) hc ml_11_156 mf_X11_fingerAt rfl (by decide) ⟨rfl, rfl⟩ ⟨le_b rfl, le_b rfl⟩ ⟨Nat.zero_le _, Nat.zero_le _⟩ (fun a v e => mt_X11_fingerAt e) rfl rfl (by simp [rf_cat, cat_i, cat_l, cat_a]) dX11_at_94 hw (fun t13 hw => ?_)
        refine R_iadd hc dX11_at_97 ?_
        refine R_iaload hc dX11_at_98 hw (fun t14 hw => ?_)
        exact R_ireturn hc hret rfl hQ hw dX11_at_99
      rw [if_neg hk1] at hw
      by_cases hk2 : l2 = (2 : Int32)
      · rw [if_pos hk2] at hw
        refine R_tsI (tgt := 100) hc dX11_at_44 (k := 2) (by rw [hk2]; decide) (by decide) (by decide) rfl (by decide) ?_
        refine R_aload_n (q := 0) (i := 0) (v := (some l0)) hc dX11_at_100 rfl rfl ?_
        refine R_iload_n (q := 1) (i := 1) (v := l1) hc dX11_at_101 rfl rfl ?_
        refine R_cVI (As := [.int l1]) (rest := []) (r := (some l0)) (ci := 11) hc ml_11_160 mf_X11_turnAt rfl (by decide) ⟨rfl, rfl⟩ ⟨le_b rfl, le_b rfl⟩ ⟨Nat.zero_le _, Nat.zero_le _⟩ (fun a v e => mt_X11_turnAt e) rfl rfl (Nat.zero_le _) dX11_at_102 hw (fun t16 hw => ?_)
        exact R_ireturn hc hret rfl hQ hw dX11_at_105
      rw [if_neg hk2] at hw
      by_cases hk3 : l2 = (3 : Int32)
      · rw [if_pos hk3] at hw
        refine R_tsI (tgt := 106) hc dX11_at_44 (k := 3) (by rw [hk3]; decide) (by decide) (by decide) rfl (by decide) ?_
        refine R_aload_n (q := 0) (i := 0) (v := (some l0)) hc dX11_at_106 rfl rfl ?_
        refine R_getR hc fl_11_63 dX11_at_107 hw (fun t17 hw => ?_)
        refine R_iload_n (q := 1) (i := 1) (v := l1) hc dX11_at_110 rfl rfl ?_
        refine R_iaload hc dX11_at_111 hw (fun t18 hw => ?_)
        exact R_ireturn hc hret rfl hQ hw dX11_at_112
      rw [if_neg hk3] at hw
      by_cases hk4 : l2 = (4 : Int32)
      · rw [if_pos hk4] at hw
        refine R_tsI (tgt := 113) hc dX11_at_44 (k := 4) (by rw [hk4]; decide) (by decide) (by decide) rfl (by decide) ?_
        refine R_iload_n (q := 1) (i := 1) (v := l1) hc dX11_at_113 rfl rfl ?_
        refine R_aload_n (q := 0) (i := 0) (v := (some l0)) hc dX11_at_114 rfl rfl ?_
        refine R_cVI (As := []) (rest := [.int l1]) (r := (some l0)) (ci := 11) hc ml_11_103 mf_X11_fingers rfl (by decide) ⟨rfl, rfl⟩ ⟨le_b rfl, le_b rfl⟩ ⟨Nat.zero_le _, Nat.zero_le _⟩ (fun a v e => mt_X11_fingers e) rfl rfl (le_b rfl) dX11_at_115 hw (fun t20 hw => ?_)
        refine R_iconst (v := (1 : Int32)) hc dX11_at_118 kI_1 ?_
        refine R_isub hc dX11_at_119 ?_
        refine R_icmp_ge (tgt := 135) hc dX11_at_120 (by decide) hw (fun hw => ?_) (fun hw => ?_)
        · refine R_iconst (v := (0 : Int32)) hc dX11_at_135 kI_0 ?_
          exact R_ireturn hc hret rfl hQ hw dX11_at_136
        · refine R_aload_n (q := 0) (i := 0) (v := (some l0)) hc dX11_at_123 rfl rfl ?_
          refine R_iload_n (q := 1) (i := 1) (v := l1) hc dX11_at_124 rfl rfl ?_
          refine R_cVI (As := [.int l1]) (rest := []) (r := (some l0)) (ci := 11) hc ml_11_163 mf_X11_lackBehind rfl (by decide) ⟨rfl, rfl⟩ ⟨le_b rfl, le_b rfl⟩ ⟨Nat.zero_le _, Nat.zero_le _⟩ (fun a v e => mt_X11_lackBehind e) rfl rfl (Nat.zero_le _) dX11_at_125 hw (fun t22 hw => ?_)
          refine R_if_ne (tgt := 135) hc dX11_at_128 (by decide) hw (fun hw => ?_) (fun hw => ?_)
          · refine R_iconst (v := (0 : Int32)) hc dX11_at_135 kI_0 ?_
            exact R_ireturn hc hret rfl hQ hw dX11_at_136
          · refine R_iconst (v := (1 : Int32)) hc dX11_at_131 kI_1 ?_
            refine R_goto (tgt := 136) hc dX11_at_132 (by decide) ?_
            exact R_ireturn hc hret rfl hQ hw dX11_at_136
      rw [if_neg hk4] at hw
      refine R_tsO (tgt := 137) hc dX11_at_44 (by have q0 := lv_neT hk0 (a := 0) (by decide); have q1 := lv_neT hk1 (a := 1) (by decide); have q2 := lv_neT hk2 (a := 2) (by decide); have q3 := lv_neT hk3 (a := 3) (by decide); have q4 := lv_neT hk4 (a := 4) (by decide); omega) (by decide) ?_
      refine R_aload_n (q := 0) (i := 0) (v := (some l0)) hc dX11_at_137 rfl rfl ?_
      refine R_iload_n (q := 1) (i := 1) (v := l1) hc dX11_at_138 rfl rfl ?_
      refine R_cVI (As := [.int l1]) (rest := []) (r := (some l0)) (ci := 11) hc ml_11_301 mf_X11_isReadBack rfl (by decide) ⟨rfl, rfl⟩ ⟨le_b rfl, le_b rfl⟩ ⟨Nat.zero_le _, Nat.zero_le _⟩ (fun a v e => mt_X11_isReadBack e) rfl rfl (Nat.zero_le _) dX11_at_139 hw (fun t24 hw => ?_)
      refine R_if_eq (tgt := 149) hc dX11_at_142 (by decide) hw (fun hw => ?_) (fun hw => ?_)
      · refine R_iconst (v := (0 : Int32)) hc dX11_at_149 kI_0 ?_
        exact R_ireturn hc hret rfl hQ hw dX11_at_150
      · refine R_iconst (v := (1 : Int32)) hc dX11_at_145 kI_1 ?_
        refine R_goto (tgt := 150) hc dX11_at_146 (by decide) ?_
        exact R_ireturn hc hret rfl hQ hw dX11_at_150
    · refine R_iconst (v := (0 : Int32)) hc dX11_at_37 kI_0 ?_
      exact R_ireturn hc hret rfl hQ hw dX11_at_38
  · refine R_if_ne (tgt := 13) hc dX11_at_6 (by decide) hw (fun hw => ?_) (fun hw => ?_)
    · refine R_iload_n (q := 2) (i := 2) (v := l2) hc dX11_at_13 rfl rfl ?_
      refine R_iconst (v := (0 : Int32)) hc dX11_at_14 kI_0 ?_
      refine R_iconst (v := (5 : Int32)) hc dX11_at_15 kI_5 ?_
      refine R_cSI (As := [.int l2, .int (0 : Int32), .int (5 : Int32)]) (rest := [rf x.w (some l0)]) hc ml_11_107 mf_X11_isIn ⟨rfl, rfl⟩ ⟨le_b rfl, le_b rfl⟩ ⟨Nat.zero_le _, Nat.zero_le _⟩ (fun v e => mt_X11_isIn e) rfl rfl (le_b rfl) dX11_at_16 hw (fun t4 hw => ?_)
      refine R_if_ne (tgt := 26) hc dX11_at_19 (by decide) hw (fun hw => ?_) (fun hw => ?_)
      · refine R_iconst (v := (0 : Int32)) hc dX11_at_26 kI_0 ?_
        refine R_sub hc [0, 1, 2] rfl ?_
        exact (wpO_some hw :)
      · refine R_iconst (v := (2 : Int32)) hc dX11_at_22 kI_2 ?_
        refine R_goto (tgt := 27) hc dX11_at_23 (by decide) ?_
        refine R_sub hc [0, 1, 2] rfl ?_
        exact (wpO_some hw :)
    · refine R_iconst (v := (1 : Int32)) hc dX11_at_9 kI_1 ?_
      refine R_goto (tgt := 27) hc dX11_at_10 (by decide) ?_
      refine R_sub hc [0, 1, 2] rfl ?_
      exact (wpO_some hw :)
