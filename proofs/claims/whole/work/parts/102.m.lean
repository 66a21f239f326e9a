theorem dX9_freeTracks_0 : decode cX9_freeTracks 0 = .ok (.iconst 0, 1) := by decide +kernel
theorem dX9_freeTracks_1 : decode cX9_freeTracks 1 = .ok (.istore_n 3, 1) := by decide +kernel
theorem dX9_freeTracks_2 : decode cX9_freeTracks 2 = .ok (.iconst 0, 1) := by decide +kernel
theorem dX9_freeTracks_3 : decode cX9_freeTracks 3 = .ok (.istore 4, 2) := by decide +kernel
theorem dX9_freeTracks_5 : decode cX9_freeTracks 5 = .ok (.iload 4, 2) := by decide +kernel
theorem dX9_freeTracks_7 : decode cX9_freeTracks 7 = .ok (.bipush 12, 2) := by decide +kernel
theorem dX9_freeTracks_9 : decode cX9_freeTracks 9 = .ok (.if_icmp .ge 27, 3) := by decide +kernel
theorem dX9_freeTracks_12 : decode cX9_freeTracks 12 = .ok (.aload_n 0, 1) := by decide +kernel
theorem dX9_freeTracks_13 : decode cX9_freeTracks 13 = .ok (.aload_n 1, 1) := by decide +kernel
theorem dX9_freeTracks_14 : decode cX9_freeTracks 14 = .ok (.iload_n 2, 1) := by decide +kernel
theorem dX9_freeTracks_15 : decode cX9_freeTracks 15 = .ok (.iload 4, 2) := by decide +kernel
theorem dX9_freeTracks_17 : decode cX9_freeTracks 17 = .ok (.invokevirtual 102, 3) := by decide +kernel
theorem dX9_freeTracks_20 : decode cX9_freeTracks 20 = .ok (.ifCond .eq 10, 3) := by decide +kernel
theorem dX9_freeTracks_23 : decode cX9_freeTracks 23 = .ok (.iload_n 3, 1) := by decide +kernel
theorem dX9_freeTracks_24 : decode cX9_freeTracks 24 = .ok (.iconst 1, 1) := by decide +kernel
theorem dX9_freeTracks_25 : decode cX9_freeTracks 25 = .ok (.iload 4, 2) := by decide +kernel
theorem dX9_freeTracks_27 : decode cX9_freeTracks 27 = .ok (.ishl, 1) := by decide +kernel
theorem dX9_freeTracks_28 : decode cX9_freeTracks 28 = .ok (.ior, 1) := by decide +kernel
theorem dX9_freeTracks_29 : decode cX9_freeTracks 29 = .ok (.istore_n 3, 1) := by decide +kernel
theorem dX9_freeTracks_30 : decode cX9_freeTracks 30 = .ok (.iinc 4 1, 3) := by decide +kernel
theorem dX9_freeTracks_33 : decode cX9_freeTracks 33 = .ok (.goto (-28), 3) := by decide +kernel
theorem dX9_freeTracks_36 : decode cX9_freeTracks 36 = .ok (.iload_n 3, 1) := by decide +kernel
theorem dX9_freeTracks_37 : decode cX9_freeTracks 37 = .ok (.ireturn, 1) := by decide +kernel
def sX9_freeTracks_L5 (F : Nat) (l0 : Nat) (l1 : Option Nat) (l2 : Int32) (l3 : Int32) (l4 : Int32) (h : HP) : Option ((Int32 × Int32) ⊕ Int32) :=
  if (12 : Int32) ≤ l4 then
    some (.inr l3)
  else
    (dO h 9 (some l0)).bind fun a1 =>
    (sX9_isFree F a1 l1 l2 l4 h).bind fun t2 =>
    if t2 = 0 then
      some (.inl (l3, l4 + (1 : Int32)))
    else
      nmI (l3 ||| (jshl (1 : Int32) l4)) fun l3_3 =>
      some (.inl (l3_3, l4 + (1 : Int32)))
def sX9_freeTracks (F : Nat) (l0 : Nat) (l1 : Option Nat) (l2 : Int32) (h : HP) : Option Int32 :=
  (iter (fun s => sX9_freeTracks_L5 F l0 l1 l2 s.1 s.2 h) F ((0 : Int32), (0 : Int32))).bind fun l3_4 =>
    some l3_4
abbrev rm_X9_freeTracks : Room := { frames := 2, cells := 0, slots := 0, locals := 48 }
set_option maxRecDepth 100000 in
set_option maxHeartbeats 4000000 in
theorem mt_X9_freeTracks {w : WD} {l : Launch} {F : Nat} {l0 : Nat} {l1 : Option Nat} {l2 : Int32} {h : HP} {v : Int32} (hs : sX9_freeTracks F l0 l1 l2 h = some v) : MI w l yX9_freeTracks cX9_freeTracks 5 .int rm_X9_freeTracks 0 0 [rf w (some l0), rf w l1, .int l2] h v h := by
  refine of_body [(0, rf w (some l0)), (1, rf w l1), (2, .int l2)] (by decide) (by simp [lg_sl, rf_cat, cat_i, cat_l, cat_a]) (by simp [lv_args, rf_cat, cat_i, cat_l, cat_a]) ?_
  intro x hw_ hnL_ hl_ hc hret hnm hQ
  subst hw_; subst hl_
  have hnl : ∀ i, i < 5 → i < x.nL := fun i h => by rw [hnL_]; exact h
  have hw : wpO (sX9_freeTracks F l0 l1 l2 h) (fun r => r = v) := ⟨_, hs, rfl⟩
  unfold sX9_freeTracks at hw
  refine R_iconst (v := (0 : Int32)) hc dX9_freeTracks_0 kI_0 ?_
  refine R_istore_n (i := 3) (v := (0 : Int32)) hc [(3, .int (0 : Int32)), (0, rf x.w (some l0)), (1, rf x.w l1), (2, .int l2)] dX9_freeTracks_1 rfl (hnl 3 (le_b rfl)) rfl ?_
  refine R_iconst (v := (0 : Int32)) hc dX9_freeTracks_2 kI_0 ?_
  refine R_istore (i := 4) (v := (0 : Int32)) hc [(4, .int (0 : Int32)), (3, .int (0 : Int32)), (0, rf x.w (some l0)), (1, rf x.w l1), (2, .int l2)] dX9_freeTracks_3 (hnl 4 (le_b rfl)) rfl ?_
  refine R_sub hc [2, 3, 4, 1, 0] rfl ?_
  refine R_loop (P := fun (s : (Int32 × Int32)) => Rn x 0 0 5 [(0, rf x.w (some l0)), (1, rf x.w l1), (2, .int l2), (3, .int s.1), (4, .int s.2)] [] h) (fun l3_4 => Rn x 0 0 36 [(3, .int l3_4)] [] h) hw (fun r hw => ?_) (fun X hX s hw => ?_)
  · revert r hw
    intro l3_4 hw
    show Rn x 0 0 36 [(3, .int l3_4)] [] h
    refine R_iload_n (q := 0) (i := 3) (v := l3_4) hc dX9_freeTracks_36 rfl rfl ?_
    exact R_ireturnP hc hret rfl hQ hw dX9_freeTracks_37
  · obtain ⟨l3_6, l4_7⟩ := s
    show Rn x 0 0 5 [(0, rf x.w (some l0)), (1, rf x.w l1), (2, .int l2), (3, .int l3_6), (4, .int l4_7)] [] h
    have hw : wpO (sX9_freeTracks_L5 F l0 l1 l2 l3_6 l4_7 h) _ := hw
    unfold sX9_freeTracks_L5 at hw
    refine R_iload (q := 4) (i := 4) (v := l4_7) hc dX9_freeTracks_5 rfl ?_
    refine R_bipush (v := (12 : Int32)) hc dX9_freeTracks_7 kB_12 ?_
    refine R_icmp_ge (tgt := 36) hc dX9_freeTracks_9 (by decide) hw (fun hw => ?_) (fun hw => ?_)
    · refine R_sub hc [3] rfl ?_
      exact (wpO_some hw :)
    · refine R_aload_n (q := 0) (i := 0) (v := (some l0)) hc dX9_freeTracks_12 rfl rfl ?_
      refine R_aload_n (q := 1) (i := 1) (v := l1) hc dX9_freeTracks_13 rfl rfl ?_
      refine R_iload_n (q := 2) (i := 2) (v := l2) hc dX9_freeTracks_14 rfl rfl ?_
      refine R_iload (q := 4) (i := 4) (v := l4_7) hc dX9_freeTracks_15 rfl ?_
      refine R_cVI (As := [rf x.w l1, .int l2, .int l4_7]) (rest := []) (r := (some l0)) (ci := 9) hc ml_9_102 mf_X9_isFree rfl (by decide) ⟨rfl, rfl⟩ ⟨le_b rfl, le_b rfl⟩ ⟨Nat.zero_le _, Nat.zero_le _⟩ (fun a v e => mt_X9_isFree e) rfl rfl (Nat.zero_le _) dX9_freeTracks_17 hw (fun t2 hw => ?_)
      refine R_if_eq (tgt := 30) hc dX9_freeTracks_20 (by decide) hw (fun hw => ?_) (fun hw => ?_)
      · refine R_iinc (q := 4) (i := 4) (v := l4_7) hc [(4, .int (l4_7 + (1 : Int32))), (0, rf x.w (some l0)), (1, rf x.w l1), (2, .int l2), (3, .int l3_6)] dX9_freeTracks_30 rfl (kC_1 _) (hnl 4 (le_b rfl)) rfl ?_
        refine R_goto (tgt := 5) hc dX9_freeTracks_33 (by decide) ?_
        refine R_sub hc [1, 2, 3, 4, 0] rfl ?_
        exact hX (l3_6, l4_7 + (1 : Int32)) (wpO_some hw :)
      · refine R_iload_n (q := 3) (i := 3) (v := l3_6) hc dX9_freeTracks_23 rfl rfl ?_
        refine R_iconst (v := (1 : Int32)) hc dX9_freeTracks_24 kI_1 ?_
        refine R_iload (q := 4) (i := 4) (v := l4_7) hc dX9_freeTracks_25 rfl ?_
        refine R_ishl hc dX9_freeTracks_27 ?_
        refine R_ior hc dX9_freeTracks_28 ?_
        refine R_nmI hw (fun l3_3 hw => ?_)
        refine R_istore_n (i := 3) (v := l3_3) hc [(3, .int l3_3), (0, rf x.w (some l0)), (1, rf x.w l1), (2, .int l2), (4, .int l4_7)] dX9_freeTracks_29 rfl (hnl 3 (le_b rfl)) rfl ?_
        refine R_iinc (q := 4) (i := 4) (v := l4_7) hc [(4, .int (l4_7 + (1 : Int32))), (3, .int l3_3), (0, rf x.w (some l0)), (1, rf x.w l1), (2, .int l2)] dX9_freeTracks_30 rfl (kC_1 _) (hnl 4 (le_b rfl)) rfl ?_
        refine R_goto (tgt := 5) hc dX9_freeTracks_33 (by decide) ?_
        refine R_sub hc [2, 3, 4, 1, 0] rfl ?_
        exact hX (l3_3, l4_7 + (1 : Int32)) (wpO_some hw :)
theorem dX9_leastTrack_0 : decode cX9_leastTrack 0 = .ok (.iload_n 0, 1) := by decide +kernel
theorem dX9_leastTrack_1 : decode cX9_leastTrack 1 = .ok (.ifCond .ne 7, 3) := by decide +kernel
theorem dX9_leastTrack_4 : decode cX9_leastTrack 4 = .ok (.iconst (-1), 1) := by decide +kernel
theorem dX9_leastTrack_5 : decode cX9_leastTrack 5 = .ok (.goto 7, 3) := by decide +kernel
theorem dX9_leastTrack_8 : decode cX9_leastTrack 8 = .ok (.iload_n 0, 1) := by decide +kernel
theorem dX9_leastTrack_9 : decode cX9_leastTrack 9 = .ok (.invokestatic 99, 3) := by decide +kernel
theorem dX9_leastTrack_12 : decode cX9_leastTrack 12 = .ok (.ireturn, 1) := by decide +kernel
def sX9_leastTrack (F : Nat) (l0 : Int32) (h : HP) : Option Int32 :=
  if ¬ l0 = 0 then
    (sX10_lowestBit F l0 h).bind fun t1 =>
    some t1
  else
    some (-1 : Int32)
abbrev rm_X9_leastTrack : Room := { frames := 2, cells := 0, slots := 0, locals := 40 }
set_option maxRecDepth 100000 in
set_option maxHeartbeats 4000000 in
theorem mt_X9_leastTrack {w : WD} {l : Launch} {F : Nat} {l0 : Int32} {h : HP} {v : Int32} (hs : sX9_leastTrack F l0 h = some v) : MI w l yX9_leastTrack cX9_leastTrack 1 .int rm_X9_leastTrack 0 0 [.int l0] h v h := by
  refine of_body [(0, .int l0)] (by decide) (by simp [lg_sl, rf_cat, cat_i, cat_l, cat_a]) (by simp [lv_args, rf_cat, cat_i, cat_l, cat_a]) ?_
  intro x hw_ hnL_ hl_ hc hret hnm hQ
  subst hw_; subst hl_
  have hnl : ∀ i, i < 1 → i < x.nL := fun i h => by rw [hnL_]; exact h
  have hw : wpO (sX9_leastTrack F l0 h) (fun r => r = v) := ⟨_, hs, rfl⟩
  unfold sX9_leastTrack at hw
  refine R_iload_n (q := 0) (i := 0) (v := l0) hc dX9_leastTrack_0 rfl rfl ?_
  refine R_if_ne (tgt := 8) hc dX9_leastTrack_1 (by decide) hw (fun hw => ?_) (fun hw => ?_)
  · refine R_iload_n (q := 0) (i := 0) (v := l0) hc dX9_leastTrack_8 rfl rfl ?_
    refine R_cNI (As := [.int l0]) (rest := []) hc mn_9_99 mf_X10_lowestBit ⟨rfl, rfl⟩ ⟨le_b rfl, le_b rfl⟩ ⟨Nat.zero_le _, Nat.zero_le _⟩ (fun v e => mt_X10_lowestBit e) rfl rfl (Nat.zero_le _) dX9_leastTrack_9 hw (fun t1 hw => ?_)
    exact R_ireturnP hc hret rfl hQ hw dX9_leastTrack_12
  · refine R_iconst (v := (-1 : Int32)) hc dX9_leastTrack_4 kI_m1 ?_
    refine R_goto (tgt := 12) hc dX9_leastTrack_5 (by decide) ?_
    exact R_ireturnP hc hret rfl hQ hw dX9_leastTrack_12
theorem dX9_assignTracks_0 : decode cX9_assignTracks 0 = .ok (.iconst 0, 1) := by decide +kernel
theorem dX9_assignTracks_1 : decode cX9_assignTracks 1 = .ok (.istore_n 3, 1) := by decide +kernel
theorem dX9_assignTracks_2 : decode cX9_assignTracks 2 = .ok (.iload_n 3, 1) := by decide +kernel
theorem dX9_assignTracks_3 : decode cX9_assignTracks 3 = .ok (.iload_n 2, 1) := by decide +kernel
theorem dX9_assignTracks_4 : decode cX9_assignTracks 4 = .ok (.if_icmp .ge 53, 3) := by decide +kernel
theorem dX9_assignTracks_7 : decode cX9_assignTracks 7 = .ok (.iconst 0, 1) := by decide +kernel
theorem dX9_assignTracks_8 : decode cX9_assignTracks 8 = .ok (.istore 4, 2) := by decide +kernel
theorem dX9_assignTracks_10 : decode cX9_assignTracks 10 = .ok (.iload 4, 2) := by decide +kernel
theorem dX9_assignTracks_12 : decode cX9_assignTracks 12 = .ok (.bipush 12, 2) := by decide +kernel
theorem dX9_assignTracks_14 : decode cX9_assignTracks 14 = .ok (.if_icmp .ge 37, 3) := by decide +kernel
theorem dX9_assignTracks_17 : decode cX9_assignTracks 17 = .ok (.aload_n 0, 1) := by decide +kernel
theorem dX9_assignTracks_18 : decode cX9_assignTracks 18 = .ok (.getfield 24, 3) := by decide +kernel
theorem dX9_assignTracks_21 : decode cX9_assignTracks 21 = .ok (.iload 4, 2) := by decide +kernel
theorem dX9_assignTracks_23 : decode cX9_assignTracks 23 = .ok (.iaload, 1) := by decide +kernel
theorem dX9_assignTracks_24 : decode cX9_assignTracks 24 = .ok (.iload_n 3, 1) := by decide +kernel
theorem dX9_assignTracks_25 : decode cX9_assignTracks 25 = .ok (.if_icmp .ne 20, 3) := by decide +kernel
theorem dX9_assignTracks_28 : decode cX9_assignTracks 28 = .ok (.aload_n 0, 1) := by decide +kernel
theorem dX9_assignTracks_29 : decode cX9_assignTracks 29 = .ok (.getfield 30, 3) := by decide +kernel
theorem dX9_assignTracks_32 : decode cX9_assignTracks 32 = .ok (.iload 4, 2) := by decide +kernel
theorem dX9_assignTracks_34 : decode cX9_assignTracks 34 = .ok (.aload_n 0, 1) := by decide +kernel
theorem dX9_assignTracks_35 : decode cX9_assignTracks 35 = .ok (.aload_n 1, 1) := by decide +kernel
theorem dX9_assignTracks_36 : decode cX9_assignTracks 36 = .ok (.iload 4, 2) := by decide +kernel
theorem dX9_assignTracks_38 : decode cX9_assignTracks 38 = .ok (.invokevirtual 91, 3) := by decide +kernel
theorem dX9_assignTracks_41 : decode cX9_assignTracks 41 = .ok (.invokestatic 95, 3) := by decide +kernel
theorem dX9_assignTracks_44 : decode cX9_assignTracks 44 = .ok (.iastore, 1) := by decide +kernel
theorem dX9_assignTracks_45 : decode cX9_assignTracks 45 = .ok (.iinc 4 1, 3) := by decide +kernel
theorem dX9_assignTracks_48 : decode cX9_assignTracks 48 = .ok (.goto (-38), 3) := by decide +kernel
theorem dX9_assignTracks_51 : decode cX9_assignTracks 51 = .ok (.iinc 3 1, 3) := by decide +kernel
theorem dX9_assignTracks_54 : decode cX9_assignTracks 54 = .ok (.goto (-52), 3) := by decide +kernel
theorem dX9_assignTracks_57 : decode cX9_assignTracks 57 = .ok (.return_, 1) := by decide +kernel
def sX9_assignTracks_L10 (F : Nat) (l0 : Nat) (l1 : Option Nat) (l2 : Int32) (l3 : Int32) (l4 : Int32) (h : HP) : Option ((Int32 × HP) ⊕ HP) :=
  if (12 : Int32) ≤ l4 then
    some (.inr h)
  else
    (gR h 9 (some l0) 5).bind fun t1 =>
    (aI h 13 t1 l4).bind fun t2 =>
    if ¬ t2 = l3 then
      some (.inl (l4 + (1 : Int32), h))
    else
      (gR h 9 (some l0) 7).bind fun t3 =>
      (dO h 9 (some l0)).bind fun a4 =>
      (sX9_freeTracks F a4 l1 l4 h).bind fun t5 =>
      (sX9_leastTrack F t5 h).bind fun t6 =>
      (sI h t3 l4 t6).bind fun h7 =>
      some (.inl (l4 + (1 : Int32), h7))
def sX9_assignTracks_L2 (F : Nat) (l0 : Nat) (l1 : Option Nat) (l2 : Int32) (l3 : Int32) (h : HP) : Option ((Int32 × HP) ⊕ HP) :=
  if l2 ≤ l3 then
    some (.inr h)
  else
    (iter (fun s => sX9_assignTracks_L10 F l0 l1 l2 l3 s.1 s.2) F ((0 : Int32), h)).bind fun h8 =>
      some (.inl (l3 + (1 : Int32), h8))
def sX9_assignTracks (F : Nat) (l0 : Nat) (l1 : Option Nat) (l2 : Int32) (h : HP) : Option HP :=
  (iter (fun s => sX9_assignTracks_L2 F l0 l1 l2 s.1 s.2) F ((0 : Int32), h)).bind fun h12 =>
    some h12
abbrev rm_X9_assignTracks : Room := { frames := 3, cells := 0, slots := 0, locals := 72 }
set_option maxRecDepth 100000 in
set_option maxHeartbeats 4000000 in
theorem mt_X9_assignTracks {w : WD} {l : Launch} {F : Nat} {l0 : Nat} {l1 : Option Nat} {l2 : Int32} {h : HP} {h' : HP} (hs : sX9_assignTracks F l0 l1 l2 h = some h') : MV w l yX9_assignTracks cX9_assignTracks 5 rm_X9_assignTracks 0 0 [rf w (some l0), rf w l1, .int l2] h h' := by
  refine of_body [(0, rf w (some l0)), (1, rf w l1), (2, .int l2)] (by decide) (by simp [lg_sl, rf_cat, cat_i, cat_l, cat_a]) (by simp [lv_args, rf_cat, cat_i, cat_l, cat_a]) ?_
  intro x hw_ hnL_ hl_ hc hret hnm hQ
  subst hw_; subst hl_
  have hnl : ∀ i, i < 5 → i < x.nL := fun i h => by rw [hnL_]; exact h
  have hw : wpO (sX9_assignTracks F l0 l1 l2 h) (fun r => r = h') := ⟨_, hs, rfl⟩
  unfold sX9_assignTracks at hw
  refine R_iconst (v := (0 : Int32)) hc dX9_assignTracks_0 kI_0 ?_
  refine R_istore_n (i := 3) (v := (0 : Int32)) hc [(3, .int (0 : Int32)), (0, rf x.w (some l0)), (1, rf x.w l1), (2, .int l2)] dX9_assignTracks_1 rfl (hnl 3 (le_b rfl)) rfl ?_
  refine R_sub hc [1, 2, 3, 0] rfl ?_
  refine R_loop (P := fun (s : (Int32 × HP)) => Rn x 0 0 2 [(0, rf x.w (some l0)), (1, rf x.w l1), (2, .int l2), (3, .int s.1)] [] s.2) (fun h12 => Rn x 0 0 57 [] [] h12) hw (fun r hw => ?_) (fun X hX s hw => ?_)
  · revert r hw
    intro h12 hw
    show Rn x 0 0 57 [] [] h12
    exact R_return hc hret hQ hw dX9_assignTracks_57
  · obtain ⟨l3_14, h15⟩ := s
    show Rn x 0 0 2 [(0, rf x.w (some l0)), (1, rf x.w l1), (2, .int l2), (3, .int l3_14)] [] h15
    have hw : wpO (sX9_assignTracks_L2 F l0 l1 l2 l3_14 h15) _ := hw
    unfold sX9_assignTracks_L2 at hw
    refine R_iload_n (q := 3) (i := 3) (v := l3_14) hc dX9_assignTracks_2 rfl rfl ?_
    refine R_iload_n (q := 2) (i := 2) (v := l2) hc dX9_assignTracks_3 rfl rfl ?_
    refine R_icmp_ge (tgt := 57) hc dX9_assignTracks_4 (by decide) hw (fun hw => ?_) (fun hw => ?_)
    · refine R_sub hc [] rfl ?_
      exact (wpO_some hw :)
    · refine R_iconst (v := (0 : Int32)) hc dX9_assignTracks_7 kI_0 ?_
      refine R_istore (i := 4) (v := (0 : Int32)) hc [(4, .int (0 : Int32)), (0, rf x.w (some l0)), (1, rf x.w l1), (2, .int l2), (3, .int l3_14)] dX9_assignTracks_8 (hnl 4 (le_b rfl)) rfl ?_
      refine R_sub hc [1, 2, 3, 4, 0] rfl ?_
      refine R_loop (P := fun (s : (Int32 × HP)) => Rn x 0 0 10 [(0, rf x.w (some l0)), (1, rf x.w l1), (2, .int l2), (3, .int l3_14), (4, .int s.1)] [] s.2) (fun h8 => Rn x 0 0 51 [(0, rf x.w (some l0)), (1, rf x.w l1), (2, .int l2), (3, .int l3_14)] [] h8) hw (fun r hw => ?_) (fun X hX s hw => ?_)
      · revert r hw
        intro h8 hw
        show Rn x 0 0 51 [(0, rf x.w (some l0)), (1, rf x.w l1), (2, .int l2), (3, .int l3_14)] [] h8
        refine R_iinc (q := 3) (i := 3) (v := l3_14) hc [(3, .int (l3_14 + (1 : Int32))), (0, rf x.w (some l0)), (1, rf x.w l1), (2, .int l2)] dX9_assignTracks_51 rfl (kC_1 _) (hnl 3 (le_b rfl)) rfl ?_
        refine R_goto (tgt := 2) hc dX9_assignTracks_54 (by decide) ?_
        refine R_sub hc [1, 2, 3, 0] rfl ?_
        exact hX (l3_14 + (1 : Int32), h8) (wpO_some hw :)
      · obtain ⟨l4_10, h11⟩ := s
        show Rn x 0 0 10 [(0, rf x.w (some l0)), (1, rf x.w l1), (2, .int l2), (3, .int l3_14), (4, .int l4_10)] [] h11
        have hw : wpO (sX9_assignTracks_L10 F l0 l1 l2 l3_14 l4_10 h11) _ := hw
        unfold sX9_assignTracks_L10 at hw
        refine R_iload (q := 4) (i := 4) (v := l4_10) hc dX9_assignTracks_10 rfl ?_
        refine R_bipush (v := (12 : Int32)) hc dX9_assignTracks_12 kB_12 ?_
        refine R_icmp_ge (tgt := 51) hc dX9_assignTracks_14 (by decide) hw (fun hw => ?_) (fun hw => ?_)
        · refine R_sub hc [0, 1, 2, 3] rfl ?_
          exact (wpO_some hw :)
        · refine R_aload_n (q := 0) (i := 0) (v := (some l0)) hc dX9_assignTracks_17 rfl rfl ?_
          refine R_getR hc fl_9_24 dX9_assignTracks_18 hw (fun t1 hw => ?_)
          refine R_iload (q := 4) (i := 4) (v := l4_10) hc dX9_assignTracks_21 rfl ?_
          refine R_iaload hc dX9_assignTracks_23 hw (fun t2 hw => ?_)
          refine R_iload_n (q := 3) (i := 3) (v := l3_14) hc dX9_assignTracks_24 rfl rfl ?_
          refine R_icmp_ne (tgt := 45) hc dX9_assignTracks_25 (by decide) hw (fun hw => ?_) (fun hw => ?_)
          · refine R_iinc (q := 4) (i := 4) (v := l4_10) hc [(4, .int (l4_10 + (1 : Int32))), (0, rf x.w (some l0)), (1, rf x.w l1), (2, .int l2), (3, .int l3_14)] dX9_assignTracks_45 rfl (kC_1 _) (hnl 4 (le_b rfl)) rfl ?_
            refine R_goto (tgt := 10) hc dX9_assignTracks_48 (by decide) ?_
            refine R_sub hc [1, 2, 3, 4, 0] rfl ?_
            exact hX (l4_10 + (1 : Int32), h11) (wpO_some hw :)
          · refine R_aload_n (q := 0) (i := 0) (v := (some l0)) hc dX9_assignTracks_28 rfl rfl ?_
            refine R_getR hc fl_9_30 dX9_assignTracks_29 hw (fun t3 hw => ?_)
            refine R_iload (q := 4) (i := 4) (v := l4_10) hc dX9_assignTracks_32 rfl ?_
            refine R_aload_n (q := 0) (i := 0) (v := (some l0)) hc dX9_assignTracks_34 rfl rfl ?_
            refine R_aload_n (q := 1) (i := 1) (v := l1) hc dX9_assignTracks_35 rfl rfl ?_
            refine R_iload (q := 4) (i := 4) (v := l4_10) hc dX9_assignTracks_36 rfl ?_
            refine R_cVI (As := [rf x.w l1, .int l4_10]) (rest := [.int l4_10, rf x.w t3]) (r := (some l0)) (ci := 9) hc ml_9_91 mf_X9_freeTracks rfl (by decide) ⟨rfl, rfl⟩ ⟨le_b rfl, le_b rfl⟩ ⟨Nat.zero_le _, Nat.zero_le _⟩ (fun a v e => mt_X9_freeTracks e) rfl rfl (by simp [rf_cat, cat_i, cat_l, cat_a]) dX9_assignTracks_38 hw (fun t5 hw => ?_)
            refine R_cSI (As := [.int t5]) (rest := [.int l4_10, rf x.w t3]) hc ml_9_95 mf_X9_leastTrack ⟨rfl, rfl⟩ ⟨le_b rfl, le_b rfl⟩ ⟨Nat.zero_le _, Nat.zero_le _⟩ (fun v e => mt_X9_leastTrack e) rfl rfl (by simp [rf_cat, cat_i, cat_l, cat_a]) dX9_assignTracks_41 hw (fun t6 hw => ?_)
            refine R_iastore hc dX9_assignTracks_44 hw (fun h7 hw => ?_)
            refine R_iinc (q := 4) (i := 4) (v := l4_10) hc [(4, .int (l4_10 + (1 : Int32))), (0, rf x.w (some l0)), (1, rf x.w l1), (2, .int l2), (3, .int l3_14)] dX9_assignTracks_45 rfl (kC_1 _) (hnl 4 (le_b rfl)) rfl ?_
            refine R_goto (tgt := 10) hc dX9_assignTracks_48 (by decide) ?_
            refine R_sub hc [1, 2, 3, 4, 0] rfl ?_
            exact hX (l4_10 + (1 : Int32), h7) (wpO_some hw :)
theorem dX10_redraw_0 : decode cX10_redraw 0 = .ok (.aload_n 0, 1) := by decide +kernel
theorem dX10_redraw_1 : decode cX10_redraw 1 = .ok (.getfield 48, 3) := by decide +kernel
theorem dX10_redraw_4 : decode cX10_redraw 4 = .ok (.aload_n 0, 1) := by decide +kernel
theorem dX10_redraw_5 : decode cX10_redraw 5 = .ok (.getfield 75, 3) := by decide +kernel
theorem dX10_redraw_8 : decode cX10_redraw 8 = .ok (.getfield 125, 3) := by decide +kernel
theorem dX10_redraw_11 : decode cX10_redraw 11 = .ok (.aload_n 0, 1) := by decide +kernel
theorem dX10_redraw_12 : decode cX10_redraw 12 = .ok (.getfield 31, 3) := by decide +kernel
theorem dX10_redraw_15 : decode cX10_redraw 15 = .ok (.invokevirtual 428, 3) := by decide +kernel
theorem dX10_redraw_18 : decode cX10_redraw 18 = .ok (.aload_n 0, 1) := by decide +kernel
theorem dX10_redraw_19 : decode cX10_redraw 19 = .ok (.getfield 55, 3) := by decide +kernel
theorem dX10_redraw_22 : decode cX10_redraw 22 = .ok (.aload_n 0, 1) := by decide +kernel
theorem dX10_redraw_23 : decode cX10_redraw 23 = .ok (.getfield 75, 3) := by decide +kernel
theorem dX10_redraw_26 : decode cX10_redraw 26 = .ok (.getfield 125, 3) := by decide +kernel
theorem dX10_redraw_29 : decode cX10_redraw 29 = .ok (.aload_n 0, 1) := by decide +kernel
theorem dX10_redraw_30 : decode cX10_redraw 30 = .ok (.getfield 48, 3) := by decide +kernel
theorem dX10_redraw_33 : decode cX10_redraw 33 = .ok (.invokevirtual 432, 3) := by decide +kernel
theorem dX10_redraw_36 : decode cX10_redraw 36 = .ok (.aload_n 0, 1) := by decide +kernel
theorem dX10_redraw_37 : decode cX10_redraw 37 = .ok (.getfield 55, 3) := by decide +kernel
theorem dX10_redraw_40 : decode cX10_redraw 40 = .ok (.aload_n 0, 1) := by decide +kernel
theorem dX10_redraw_41 : decode cX10_redraw 41 = .ok (.getfield 75, 3) := by decide +kernel
theorem dX10_redraw_44 : decode cX10_redraw 44 = .ok (.getfield 125, 3) := by decide +kernel
theorem dX10_redraw_47 : decode cX10_redraw 47 = .ok (.aload_n 0, 1) := by decide +kernel
theorem dX10_redraw_48 : decode cX10_redraw 48 = .ok (.getfield 48, 3) := by decide +kernel
theorem dX10_redraw_51 : decode cX10_redraw 51 = .ok (.getfield 190, 3) := by decide +kernel
theorem dX10_redraw_54 : decode cX10_redraw 54 = .ok (.invokevirtual 435, 3) := by decide +kernel
theorem dX10_redraw_57 : decode cX10_redraw 57 = .ok (.return_, 1) := by decide +kernel
def sX10_redraw (F : Nat) (l0 : Nat) (h : HP) : Option HP :=
  (gR h 10 (some l0) 6).bind fun t1 =>
  (gR h 10 (some l0) 12).bind fun t2 =>
  (gR h 4 t2 0).bind fun t3 =>
  (gR h 10 (some l0) 3).bind fun t4 =>
  (dO h 2 t1).bind fun a5 =>
  (sX2_draw F a5 t3 t4 h).bind fun h6 =>
  (gR h6 10 (some l0) 7).bind fun t7 =>
  (gR h6 10 (some l0) 12).bind fun t8 =>
  (gR h6 4 t8 0).bind fun t9 =>
  (gR h6 10 (some l0) 6).bind fun t10 =>
  (dO h6 9 t7).bind fun a11 =>
  (sX9_draw F a11 t9 t10 h6).bind fun h12 =>
  (gR h12 10 (some l0) 7).bind fun t13 =>
  (gR h12 10 (some l0) 12).bind fun t14 =>
  (gR h12 4 t14 0).bind fun t15 =>
  (gR h12 10 (some l0) 6).bind fun t16 =>
  (gI h12 2 t16 2).bind fun t17 =>
  (dO h12 9 t13).bind fun a18 =>
  (sX9_assignTracks F a18 t15 t17 h12).bind fun h19 =>
  some h19
abbrev rm_X10_redraw : Room := { frames := 5, cells := 0, slots := 0, locals := 130 }
set_option maxRecDepth 100000 in
set_option maxHeartbeats 4000000 in
theorem mt_X10_redraw {w : WD} {l : Launch} {F : Nat} {l0 : Nat} {h : HP} {h' : HP} (hs : sX10_redraw F l0 h = some h') : MV w l yX10_redraw cX10_redraw 1 rm_X10_redraw 0 0 [rf w (some l0)] h h' := by
  refine of_body [(0, rf w (some l0))] (by decide) (by simp [lg_sl, rf_cat, cat_i, cat_l, cat_a]) (by simp [lv_args, rf_cat, cat_i, cat_l, cat_a]) ?_
  intro x hw_ hnL_ hl_ hc hret hnm hQ
  subst hw_; subst hl_
  have hnl : ∀ i, i < 1 → i < x.nL := fun i h => by rw [hnL_]; exact h
  have hw : wpO (sX10_redraw F l0 h) (fun r => r = h') := ⟨_, hs, rfl⟩
  unfold sX10_redraw at hw
  refine R_aload_n (q := 0) (i := 0) (v := (some l0)) hc dX10_redraw_0 rfl rfl ?_
  refine R_getR hc fl_10_48 dX10_redraw_1 hw (fun t1 hw => ?_)
  refine R_aload_n (q := 0) (i := 0) (v := (some l0)) hc dX10_redraw_4 rfl rfl ?_
  refine R_getR hc fl_10_75 dX10_redraw_5 hw (fun t2 hw => ?_)
  refine R_getR hc fl_10_125 dX10_redraw_8 hw (fun t3 hw => ?_)
  refine R_aload_n (q := 0) (i := 0) (v := (some l0)) hc dX10_redraw_11 rfl rfl ?_
  refine R_getR hc fl_10_31 dX10_redraw_12 hw (fun t4 hw => ?_)
  refine R_cVVi (As := [rf x.w t3, rf x.w t4]) (rest := []) (r := t1) (ci := 2) hc ml_10_428 mf_X2_draw rfl (by decide) ⟨rfl, rfl⟩ ⟨le_b rfl, le_b rfl⟩ ⟨Nat.zero_le _, Nat.zero_le _⟩ (fun a h' e => mt_X2_draw e) rfl rfl (Nat.zero_le _) dX10_redraw_15 hw (fun h6 hw => ?_)
  refine R_aload_n (q := 0) (i := 0) (v := (some l0)) hc dX10_redraw_18 rfl rfl ?_
  refine R_getR hc fl_10_55 dX10_redraw_19 hw (fun t7 hw => ?_)
  refine R_aload_n (q := 0) (i := 0) (v := (some l0)) hc dX10_redraw_22 rfl rfl ?_
  refine R_getR hc fl_10_75 dX10_redraw_23 hw (fun t8 hw => ?_)
  refine R_getR hc fl_10_125 dX10_redraw_26 hw (fun t9 hw => ?_)
  refine R_aload_n (q := 0) (i := 0) (v := (some l0)) hc dX10_redraw_29 rfl rfl ?_
  refine R_getR hc fl_10_48 dX10_redraw_30 hw (fun t10 hw => ?_)
  refine R_cVVi (As := [rf x.w t9, rf x.w t10]) (rest := []) (r := t7) (ci := 9) hc ml_10_432 mf_X9_draw rfl (by decide) ⟨rfl, rfl⟩ ⟨le_b rfl, le_b rfl⟩ ⟨Nat.zero_le _, Nat.zero_le _⟩ (fun a h' e => mt_X9_draw e) rfl rfl (Nat.zero_le _) dX10_redraw_33 hw (fun h12 hw => ?_)
  refine R_aload_n (q := 0) (i := 0) (v := (some l0)) hc dX10_redraw_36 rfl rfl ?_
  refine R_getR hc fl_10_55 dX10_redraw_37 hw (fun t13 hw => ?_)
  refine R_aload_n (q := 0) (i := 0) (v := (some l0)) hc dX10_redraw_40 rfl rfl ?_
  refine R_getR hc fl_10_75 dX10_redraw_41 hw (fun t14 hw => ?_)
  refine R_getR hc fl_10_125 dX10_redraw_44 hw (fun t15 hw => ?_)
  refine R_aload_n (q := 0) (i := 0) (v := (some l0)) hc dX10_redraw_47 rfl rfl ?_
  refine R_getR hc fl_10_48 dX10_redraw_48 hw (fun t16 hw => ?_)
  refine R_getI hc fl_10_190 dX10_redraw_51 hw (fun t17 hw => ?_)
  refine R_cVVi (As := [rf x.w t15, .int t17]) (rest := []) (r := t13) (ci := 9) hc ml_10_435 mf_X9_assignTracks rfl (by decide) ⟨rfl, rfl⟩ ⟨le_b rfl, le_b rfl⟩ ⟨Nat.zero_le _, Nat.zero_le _⟩ (fun a h' e => mt_X9_assignTracks e) rfl rfl (Nat.zero_le _) dX10_redraw_54 hw (fun h19 hw => ?_)
  exact R_return hc hret hQ hw dX10_redraw_57
theorem dX8_hasRoom_0 : decode cX8_hasRoom 0 = .ok (.aload_n 0, 1) := by decide +kernel
theorem dX8_hasRoom_1 : decode cX8_hasRoom 1 = .ok (.getfield 9, 3) := by decide +kernel
theorem dX8_hasRoom_4 : decode cX8_hasRoom 4 = .ok (.bipush 20, 2) := by decide +kernel
theorem dX8_hasRoom_6 : decode cX8_hasRoom 6 = .ok (.iadd, 1) := by decide +kernel
theorem dX8_hasRoom_7 : decode cX8_hasRoom 7 = .ok (.sipush 400, 3) := by decide +kernel
theorem dX8_hasRoom_10 : decode cX8_hasRoom 10 = .ok (.if_icmp .gt 7, 3) := by decide +kernel
theorem dX8_hasRoom_13 : decode cX8_hasRoom 13 = .ok (.iconst 1, 1) := by decide +kernel
theorem dX8_hasRoom_14 : decode cX8_hasRoom 14 = .ok (.goto 4, 3) := by decide +kernel
theorem dX8_hasRoom_17 : decode cX8_hasRoom 17 = .ok (.iconst 0, 1) := by decide +kernel
theorem dX8_hasRoom_18 : decode cX8_hasRoom 18 = .ok (.ireturn, 1) := by decide +kernel
def sX8_hasRoom (F : Nat) (l0 : Nat) (h : HP) : Option Int32 :=
  (gI h 8 (some l0) 0).bind fun t1 =>
  if (400 : Int32) < (t1 + (20 : Int32)) then
    some (0 : Int32)
  else
    some (1 : Int32)
abbrev rm_X8_hasRoom : Room := { frames := 0, cells := 0, slots := 0, locals := 0 }
set_option maxRecDepth 100000 in
set_option maxHeartbeats 4000000 in
theorem mt_X8_hasRoom {w : WD} {l : Launch} {F : Nat} {l0 : Nat} {h : HP} {v : Int32} (hs : sX8_hasRoom F l0 h = some v) : MI w l yX8_hasRoom cX8_hasRoom 1 .boolean rm_X8_hasRoom 0 0 [rf w (some l0)] h v h := by
  refine of_body [(0, rf w (some l0))] (by decide) (by simp [lg_sl, rf_cat, cat_i, cat_l, cat_a]) (by simp [lv_args, rf_cat, cat_i, cat_l, cat_a]) ?_
  intro x hw_ hnL_ hl_ hc hret hnm hQ
  subst hw_; subst hl_
  have hnl : ∀ i, i < 1 → i < x.nL := fun i h => by rw [hnL_]; exact h
  have hw : wpO (sX8_hasRoom F l0 h) (fun r => r = v) := ⟨_, hs, rfl⟩
  unfold sX8_hasRoom at hw
  refine R_aload_n (q := 0) (i := 0) (v := (some l0)) hc dX8_hasRoom_0 rfl rfl ?_
  refine R_getI hc fl_8_9 dX8_hasRoom_1 hw (fun t1 hw => ?_)
  refine R_bipush (v := (20 : Int32)) hc dX8_hasRoom_4 kB_20 ?_
  refine R_iadd hc dX8_hasRoom_6 ?_
  refine R_sipush (v := (400 : Int32)) hc dX8_hasRoom_7 kS_400 ?_
  refine R_icmp_gt (tgt := 17) hc dX8_hasRoom_10 (by decide) hw (fun hw => ?_) (fun hw => ?_)
  · refine R_iconst (v := (0 : Int32)) hc dX8_hasRoom_17 kI_0 ?_
    exact R_ireturnP hc hret rfl hQ hw dX8_hasRoom_18
  · refine R_iconst (v := (1 : Int32)) hc dX8_hasRoom_13 kI_1 ?_
    refine R_goto (tgt := 18) hc dX8_hasRoom_14 (by decide) ?_
    exact R_ireturnP hc hret rfl hQ hw dX8_hasRoom_18
theorem dX8_take_0 : decode cX8_take 0 = .ok (.bipush 24, 2) := by decide +kernel
theorem dX8_take_2 : decode cX8_take 2 = .ok (.istore_n 2, 1) := by decide +kernel
theorem dX8_take_3 : decode cX8_take 3 = .ok (.iload_n 2, 1) := by decide +kernel
theorem dX8_take_4 : decode cX8_take 4 = .ok (.ifCond .lt 42, 3) := by decide +kernel
theorem dX8_take_7 : decode cX8_take 7 = .ok (.aload_n 0, 1) := by decide +kernel
theorem dX8_take_8 : decode cX8_take 8 = .ok (.getfield 9, 3) := by decide +kernel
theorem dX8_take_11 : decode cX8_take 11 = .ok (.sipush 400, 3) := by decide +kernel
theorem dX8_take_14 : decode cX8_take 14 = .ok (.if_icmp .ge 32, 3) := by decide +kernel
theorem dX8_take_17 : decode cX8_take 17 = .ok (.aload_n 0, 1) := by decide +kernel
theorem dX8_take_18 : decode cX8_take 18 = .ok (.getfield 18, 3) := by decide +kernel
theorem dX8_take_21 : decode cX8_take 21 = .ok (.aload_n 0, 1) := by decide +kernel
theorem dX8_take_22 : decode cX8_take 22 = .ok (.getfield 9, 3) := by decide +kernel
theorem dX8_take_25 : decode cX8_take 25 = .ok (.iload_n 1, 1) := by decide +kernel
theorem dX8_take_26 : decode cX8_take 26 = .ok (.iload_n 2, 1) := by decide +kernel
theorem dX8_take_27 : decode cX8_take 27 = .ok (.ishr, 1) := by decide +kernel
theorem dX8_take_28 : decode cX8_take 28 = .ok (.i2b, 1) := by decide +kernel
theorem dX8_take_29 : decode cX8_take 29 = .ok (.bastore, 1) := by decide +kernel
theorem dX8_take_30 : decode cX8_take 30 = .ok (.aload_n 0, 1) := by decide +kernel
theorem dX8_take_31 : decode cX8_take 31 = .ok (.dup, 1) := by decide +kernel
theorem dX8_take_32 : decode cX8_take 32 = .ok (.getfield 9, 3) := by decide +kernel
theorem dX8_take_35 : decode cX8_take 35 = .ok (.iconst 1, 1) := by decide +kernel
theorem dX8_take_36 : decode cX8_take 36 = .ok (.iadd, 1) := by decide +kernel
theorem dX8_take_37 : decode cX8_take 37 = .ok (.putfield 9, 3) := by decide +kernel
theorem dX8_take_40 : decode cX8_take 40 = .ok (.iinc 2 (-8), 3) := by decide +kernel
theorem dX8_take_43 : decode cX8_take 43 = .ok (.goto (-40), 3) := by decide +kernel
theorem dX8_take_46 : decode cX8_take 46 = .ok (.return_, 1) := by decide +kernel
def sX8_take_L3 (F : Nat) (l0 : Nat) (l1 : Int32) (l2 : Int32) (h : HP) : Option ((Int32 × HP) ⊕ HP) :=
  if l2 < 0 then
    some (.inr h)
  else
    (gI h 8 (some l0) 0).bind fun t1 =>
    if (400 : Int32) ≤ t1 then
      some (.inr h)
    else
      (gR h 8 (some l0) 2).bind fun t2 =>
      (gI h 8 (some l0) 0).bind fun t3 =>
      (sB h t2 t3 ((jshr l1 l2).toInt8.toInt32)).bind fun h4 =>
      (gI h4 8 (some l0) 0).bind fun t5 =>
      (pI h4 8 (some l0) 0 (t5 + (1 : Int32))).bind fun h6 =>
      some (.inl (l2 + (-8 : Int32), h6))
def sX8_take (F : Nat) (l0 : Nat) (l1 : Int32) (h : HP) : Option HP :=
  (iter (fun s => sX8_take_L3 F l0 l1 s.1 s.2) F ((24 : Int32), h)).bind fun h7 =>
    some h7
abbrev rm_X8_take : Room := { frames := 0, cells := 0, slots := 0, locals := 0 }
set_option maxRecDepth 100000 in
set_option maxHeartbeats 4000000 in
theorem mt_X8_take {w : WD} {l : Launch} {F : Nat} {l0 : Nat} {l1 : Int32} {h : HP} {h' : HP} (hs : sX8_take F l0 l1 h = some h') : MV w l yX8_take cX8_take 3 rm_X8_take 0 0 [rf w (some l0), .int l1] h h' := by
  refine of_body [(0, rf w (some l0)), (1, .int l1)] (by decide) (by simp [lg_sl, rf_cat, cat_i, cat_l, cat_a]) (by simp [lv_args, rf_cat, cat_i, cat_l, cat_a]) ?_
  intro x hw_ hnL_ hl_ hc hret hnm hQ
  subst hw_; subst hl_
  have hnl : ∀ i, i < 3 → i < x.nL := fun i h => by rw [hnL_]; exact h
  have hw : wpO (sX8_take F l0 l1 h) (fun r => r = h') := ⟨_, hs, rfl⟩
  unfold sX8_take at hw
  refine R_bipush (v := (24 : Int32)) hc dX8_take_0 kB_24 ?_
  refine R_istore_n (i := 2) (v := (24 : Int32)) hc [(2, .int (24 : Int32)), (0, rf x.w (some l0)), (1, .int l1)] dX8_take_2 rfl (hnl 2 (le_b rfl)) rfl ?_
  refine R_sub hc [1, 2, 0] rfl ?_
  refine R_loop (P := fun (s : (Int32 × HP)) => Rn x 0 0 3 [(0, rf x.w (some l0)), (1, .int l1), (2, .int s.1)] [] s.2) (fun h7 => Rn x 0 0 46 [] [] h7) hw (fun r hw => ?_) (fun X hX s hw => ?_)
  · revert r hw
    intro h7 hw
    show Rn x 0 0 46 [] [] h7
    exact R_return hc hret hQ hw dX8_take_46
  · obtain ⟨l2_9, h10⟩ := s
    show Rn x 0 0 3 [(0, rf x.w (some l0)), (1, .int l1), (2, .int l2_9)] [] h10
    have hw : wpO (sX8_take_L3 F l0 l1 l2_9 h10) _ := hw
    unfold sX8_take_L3 at hw
    refine R_iload_n (q := 2) (i := 2) (v := l2_9) hc dX8_take_3 rfl rfl ?_
    refine R_if_lt (tgt := 46) hc dX8_take_4 (by decide) hw (fun hw => ?_) (fun hw => ?_)
    · refine R_sub hc [] rfl ?_
      exact (wpO_some hw :)
    · refine R_aload_n (q := 0) (i := 0) (v := (some l0)) hc dX8_take_7 rfl rfl ?_
      refine R_getI hc fl_8_9 dX8_take_8 hw (fun t1 hw => ?_)
      refine R_sipush (v := (400 : Int32)) hc dX8_take_11 kS_400 ?_
      refine R_icmp_ge (tgt := 46) hc dX8_take_14 (by decide) hw (fun hw => ?_) (fun hw => ?_)
      · refine R_sub hc [] rfl ?_
        exact (wpO_some hw :)
      · refine R_aload_n (q := 0) (i := 0) (v := (some l0)) hc dX8_take_17 rfl rfl ?_
        refine R_getR hc fl_8_18 dX8_take_18 hw (fun t2 hw => ?_)
        refine R_aload_n (q := 0) (i := 0) (v := (some l0)) hc dX8_take_21 rfl rfl ?_
        refine R_getI hc fl_8_9 dX8_take_22 hw (fun t3 hw => ?_)
        refine R_iload_n (q := 1) (i := 1) (v := l1) hc dX8_take_25 rfl rfl ?_
        refine R_iload_n (q := 2) (i := 2) (v := l2_9) hc dX8_take_26 rfl rfl ?_
        refine R_ishr hc dX8_take_27 ?_
        refine R_i2b hc dX8_take_28 ?_
        refine R_bastore hc dX8_take_29 hw (fun h4 hw => ?_)
        refine R_aload_n (q := 0) (i := 0) (v := (some l0)) hc dX8_take_30 rfl rfl ?_
        refine R_dup hc dX8_take_31 (rf_cat _ _) ?_
        refine R_getI hc fl_8_9 dX8_take_32 hw (fun t5 hw => ?_)
        refine R_iconst (v := (1 : Int32)) hc dX8_take_35 kI_1 ?_
        refine R_iadd hc dX8_take_36 ?_
        refine R_putI hc pl_8_9 rfl rfl dX8_take_37 hw (fun h6 hw => ?_)
        refine R_iinc (q := 2) (i := 2) (v := l2_9) hc [(2, .int (l2_9 + (-8 : Int32))), (0, rf x.w (some l0)), (1, .int l1)] dX8_take_40 rfl (kC_m8 _) (hnl 2 (le_b rfl)) rfl ?_
        refine R_goto (tgt := 3) hc dX8_take_43 (by decide) ?_
        refine R_sub hc [1, 2, 0] rfl ?_
        exact hX (l2_9 + (-8 : Int32), h6) (wpO_some hw :)
theorem dX10_feed_0 : decode cX10_feed 0 = .ok (.aload_n 0, 1) := by decide +kernel
theorem dX10_feed_1 : decode cX10_feed 1 = .ok (.getfield 12, 3) := by decide +kernel
theorem dX10_feed_4 : decode cX10_feed 4 = .ok (.invokevirtual 94, 3) := by decide +kernel
theorem dX10_feed_7 : decode cX10_feed 7 = .ok (.ifCond .ne 5, 3) := by decide +kernel
theorem dX10_feed_10 : decode cX10_feed 10 = .ok (.iconst (-1), 1) := by decide +kernel
theorem dX10_feed_11 : decode cX10_feed 11 = .ok (.ireturn, 1) := by decide +kernel
theorem dX10_feed_12 : decode cX10_feed 12 = .ok (.aload_n 0, 1) := by decide +kernel
theorem dX10_feed_13 : decode cX10_feed 13 = .ok (.getfield 12, 3) := by decide +kernel
theorem dX10_feed_16 : decode cX10_feed 16 = .ok (.iload_n 1, 1) := by decide +kernel
theorem dX10_feed_17 : decode cX10_feed 17 = .ok (.invokevirtual 98, 3) := by decide +kernel
theorem dX10_feed_20 : decode cX10_feed 20 = .ok (.aload_n 0, 1) := by decide +kernel
theorem dX10_feed_21 : decode cX10_feed 21 = .ok (.getfield 12, 3) := by decide +kernel
theorem dX10_feed_24 : decode cX10_feed 24 = .ok (.iload_n 2, 1) := by decide +kernel
theorem dX10_feed_25 : decode cX10_feed 25 = .ok (.invokevirtual 98, 3) := by decide +kernel
theorem dX10_feed_28 : decode cX10_feed 28 = .ok (.aload_n 0, 1) := by decide +kernel
theorem dX10_feed_29 : decode cX10_feed 29 = .ok (.getfield 12, 3) := by decide +kernel
theorem dX10_feed_32 : decode cX10_feed 32 = .ok (.iload_n 3, 1) := by decide +kernel
theorem dX10_feed_33 : decode cX10_feed 33 = .ok (.invokevirtual 98, 3) := by decide +kernel
theorem dX10_feed_36 : decode cX10_feed 36 = .ok (.aload_n 0, 1) := by decide +kernel
theorem dX10_feed_37 : decode cX10_feed 37 = .ok (.getfield 12, 3) := by decide +kernel
theorem dX10_feed_40 : decode cX10_feed 40 = .ok (.iload 4, 2) := by decide +kernel
theorem dX10_feed_42 : decode cX10_feed 42 = .ok (.invokevirtual 98, 3) := by decide +kernel
theorem dX10_feed_45 : decode cX10_feed 45 = .ok (.aload_n 0, 1) := by decide +kernel
theorem dX10_feed_46 : decode cX10_feed 46 = .ok (.getfield 12, 3) := by decide +kernel
theorem dX10_feed_49 : decode cX10_feed 49 = .ok (.iload 5, 2) := by decide +kernel
theorem dX10_feed_51 : decode cX10_feed 51 = .ok (.invokevirtual 98, 3) := by decide +kernel
theorem dX10_feed_54 : decode cX10_feed 54 = .ok (.aload_n 0, 1) := by decide +kernel
theorem dX10_feed_55 : decode cX10_feed 55 = .ok (.getfield 12, 3) := by decide +kernel
theorem dX10_feed_58 : decode cX10_feed 58 = .ok (.getfield 102, 3) := by decide +kernel
theorem dX10_feed_61 : decode cX10_feed 61 = .ok (.ireturn, 1) := by decide +kernel
def sX10_feed (F : Nat) (l0 : Nat) (l1 : Int32) (l2 : Int32) (l3 : Int32) (l4 : Int32) (l5 : Int32) (h : HP) : Option (Int32 × HP) :=
  (gR h 10 (some l0) 0).bind fun t1 =>
  (dO h 8 t1).bind fun a2 =>
  (sX8_hasRoom F a2 h).bind fun t3 =>
  if ¬ t3 = 0 then
    (gR h 10 (some l0) 0).bind fun t4 =>
    (dO h 8 t4).bind fun a5 =>
    (sX8_take F a5 l1 h).bind fun h6 =>
    (gR h6 10 (some l0) 0).bind fun t7 =>
    (dO h6 8 t7).bind fun a8 =>
    (sX8_take F a8 l2 h6).bind fun h9 =>
    (gR h9 10 (some l0) 0).bind fun t10 =>
    (dO h9 8 t10).bind fun a11 =>
    (sX8_take F a11 l3 h9).bind fun h12 =>
    (gR h12 10 (some l0) 0).bind fun t13 =>
    (dO h12 8 t13).bind fun a14 =>
    (sX8_take F a14 l4 h12).bind fun h15 =>
    (gR h15 10 (some l0) 0).bind fun t16 =>
    (dO h15 8 t16).bind fun a17 =>
    (sX8_take F a17 l5 h15).bind fun h18 =>
    (gR h18 10 (some l0) 0).bind fun t19 =>
    (gI h18 8 t19 0).bind fun t20 =>
    some (t20, h18)
  else
    some ((-1 : Int32), h)
abbrev rm_X10_feed : Room := { frames := 1, cells := 0, slots := 0, locals := 22 }
set_option maxRecDepth 100000 in
set_option maxHeartbeats 4000000 in
theorem mt_X10_feed {w : WD} {l : Launch} {F : Nat} {l0 : Nat} {l1 : Int32} {l2 : Int32} {l3 : Int32} {l4 : Int32} {l5 : Int32} {h : HP} {v : Int32} {h' : HP} (hs : sX10_feed F l0 l1 l2 l3 l4 l5 h = some (v, h')) : MI w l yX10_feed cX10_feed 6 .int rm_X10_feed 0 0 [rf w (some l0), .int l1, .int l2, .int l3, .int l4, .int l5] h v h' := by
  refine of_body [(0, rf w (some l0)), (1, .int l1), (2, .int l2), (3, .int l3), (4, .int l4), (5, .int l5)] (by decide) (by simp [lg_sl, rf_cat, cat_i, cat_l, cat_a]) (by simp [lv_args, rf_cat, cat_i, cat_l, cat_a]) ?_
  intro x hw_ hnL_ hl_ hc hret hnm hQ
  subst hw_; subst hl_
  have hnl : ∀ i, i < 6 → i < x.nL := fun i h => by rw [hnL_]; exact h
  have hw : wpO (sX10_feed F l0 l1 l2 l3 l4 l5 h) (fun r => r = (v, h')) := ⟨_, hs, rfl⟩
  unfold sX10_feed at hw
  refine R_aload_n (q := 0) (i := 0) (v := (some l0)) hc dX10_feed_0 rfl rfl ?_
  refine R_getR hc fl_10_12 dX10_feed_1 hw (fun t1 hw => ?_)
  refine R_cVI (As := []) (rest := []) (r := t1) (ci := 8) hc ml_10_94 mf_X8_hasRoom rfl (by decide) ⟨rfl, rfl⟩ ⟨le_b rfl, le_b rfl⟩ ⟨Nat.zero_le _, Nat.zero_le _⟩ (fun a v e => mt_X8_hasRoom e) rfl rfl (Nat.zero_le _) dX10_feed_4 hw (fun t3 hw => ?_)
  refine R_if_ne (tgt := 12) hc dX10_feed_7 (by decide) hw (fun hw => ?_) (fun hw => ?_)
  · refine R_aload_n (q := 0) (i := 0) (v := (some l0)) hc dX10_feed_12 rfl rfl ?_
    refine R_getR hc fl_10_12 dX10_feed_13 hw (fun t4 hw => ?_)
    refine R_iload_n (q := 1) (i := 1) (v := l1) hc dX10_feed_16 rfl rfl ?_
    refine R_cVVi (As := [.int l1]) (rest := []) (r := t4) (ci := 8) hc ml_10_98 mf_X8_take rfl (by decide) ⟨rfl, rfl⟩ ⟨le_b rfl, le_b rfl⟩ ⟨Nat.zero_le _, Nat.zero_le _⟩ (fun a h' e => mt_X8_take e) rfl rfl (Nat.zero_le _) dX10_feed_17 hw (fun h6 hw => ?_)
    refine R_aload_n (q := 0) (i := 0) (v := (some l0)) hc dX10_feed_20 rfl rfl ?_
    refine R_getR hc fl_10_12 dX10_feed_21 hw (fun t7 hw => ?_)
    refine R_iload_n (q := 2) (i := 2) (v := l2) hc dX10_feed_24 rfl rfl ?_
    refine R_cVVi (As := [.int l2]) (rest := []) (r := t7) (ci := 8) hc ml_10_98 mf_X8_take rfl (by decide) ⟨rfl, rfl⟩ ⟨le_b rfl, le_b rfl⟩ ⟨Nat.zero_le _, Nat.zero_le _⟩ (fun a h' e => mt_X8_take e) rfl rfl (Nat.zero_le _) dX10_feed_25 hw (fun h9 hw => ?_)
    refine R_aload_n (q := 0) (i := 0) (v := (some l0)) hc dX10_feed_28 rfl rfl ?_
    refine R_getR hc fl_10_12 dX10_feed_29 hw (fun t10 hw => ?_)
    refine R_iload_n (q := 3) (i := 3) (v := l3) hc dX10_feed_32 rfl rfl ?_
    refine R_cVVi (As := [.int l3]) (rest := []) (r := t10) (ci := 8) hc ml_10_98 mf_X8_take rfl (by decide) ⟨rfl, rfl⟩ ⟨le_b rfl, le_b rfl⟩ ⟨Nat.zero_le _, Nat.zero_le _⟩ (fun a h' e => mt_X8_take e) rfl rfl (Nat.zero_le _) dX10_feed_33 hw (fun h12 hw => ?_)
    refine R_aload_n (q := 0) (i := 0) (v := (some l0)) hc dX10_feed_36 rfl rfl ?_
    refine R_getR hc fl_10_12 dX10_feed_37 hw (fun t13 hw => ?_)
    refine R_iload (q := 4) (i := 4) (v := l4) hc dX10_feed_40 rfl ?_
    refine R_cVVi (As := [.int l4]) (rest := []) (r := t13) (ci := 8) hc ml_10_98 mf_X8_take rfl (by decide) ⟨rfl, rfl⟩ ⟨le_b rfl, le_b rfl⟩ ⟨Nat.zero_le _, Nat.zero_le _⟩ (fun a h' e => mt_X8_take e) rfl rfl (Nat.zero_le _) dX10_feed_42 hw (fun h15 hw => ?_)
    refine R_aload_n (q := 0) (i := 0) (v := (some l0)) hc dX10_feed_45 rfl rfl ?_
    refine R_getR hc fl_10_12 dX10_feed_46 hw (fun t16 hw => ?_)
    refine R_iload (q := 5) (i := 5) (v := l5) hc dX10_feed_49 rfl ?_
    refine R_cVVi (As := [.int l5]) (rest := []) (r := t16) (ci := 8) hc ml_10_98 mf_X8_take rfl (by decide) ⟨rfl, rfl⟩ ⟨le_b rfl, le_b rfl⟩ ⟨Nat.zero_le _, Nat.zero_le _⟩ (fun a h' e => mt_X8_take e) rfl rfl (Nat.zero_le _) dX10_feed_51 hw (fun h18 hw => ?_)
    refine R_aload_n (q := 0) (i := 0) (v := (some l0)) hc dX10_feed_54 rfl rfl ?_
    refine R_getR hc fl_10_12 dX10_feed_55 hw (fun t19 hw => ?_)
    refine R_getI hc fl_10_102 dX10_feed_58 hw (fun t20 hw => ?_)
    exact R_ireturn hc hret rfl hQ hw dX10_feed_61
  · refine R_iconst (v := (-1 : Int32)) hc dX10_feed_10 kI_m1 ?_
    exact R_ireturn hc hret rfl hQ hw dX10_feed_11
theorem dX10_end_0 : decode cX10_end 0 = .ok (.iload_n 1, 1) := by decide +kernel
theorem dX10_end_1 : decode cX10_end 1 = .ok (.ifCond .lt 14, 3) := by decide +kernel
theorem dX10_end_4 : decode cX10_end 4 = .ok (.iload_n 1, 1) := by decide +kernel
theorem dX10_end_5 : decode cX10_end 5 = .ok (.aload_n 0, 1) := by decide +kernel
theorem dX10_end_6 : decode cX10_end 6 = .ok (.getfield 12, 3) := by decide +kernel
theorem dX10_end_9 : decode cX10_end 9 = .ok (.getfield 102, 3) := by decide +kernel
theorem dX10_end_12 : decode cX10_end 12 = .ok (.if_icmp .le 5, 3) := by decide +kernel
theorem dX10_end_15 : decode cX10_end 15 = .ok (.iconst 0, 1) := by decide +kernel
theorem dX10_end_16 : decode cX10_end 16 = .ok (.ireturn, 1) := by decide +kernel
theorem dX10_end_17 : decode cX10_end 17 = .ok (.aload_n 0, 1) := by decide +kernel
theorem dX10_end_18 : decode cX10_end 18 = .ok (.getfield 12, 3) := by decide +kernel
theorem dX10_end_21 : decode cX10_end 21 = .ok (.iload_n 1, 1) := by decide +kernel
theorem dX10_end_22 : decode cX10_end 22 = .ok (.putfield 102, 3) := by decide +kernel
theorem dX10_end_25 : decode cX10_end 25 = .ok (.iconst 1, 1) := by decide +kernel
theorem dX10_end_26 : decode cX10_end 26 = .ok (.ireturn, 1) := by decide +kernel
def sX10_end (F : Nat) (l0 : Nat) (l1 : Int32) (h : HP) : Option (Int32 × HP) :=
  if l1 < 0 then
    some ((0 : Int32), h)
  else
    (gR h 10 (some l0) 0).bind fun t1 =>
    (gI h 8 t1 0).bind fun t2 =>
    if l1 ≤ t2 then
      (gR h 10 (some l0) 0).bind fun t3 =>
      (pI h 8 t3 0 l1).bind fun h4 =>
      some ((1 : Int32), h4)
    else
      some ((0 : Int32), h)
abbrev rm_X10_end : Room := { frames := 0, cells := 0, slots := 0, locals := 0 }
set_option maxRecDepth 100000 in
set_option maxHeartbeats 4000000 in
theorem mt_X10_end {w : WD} {l : Launch} {F : Nat} {l0 : Nat} {l1 : Int32} {h : HP} {v : Int32} {h' : HP} (hs : sX10_end F l0 l1 h = some (v, h')) : MI w l yX10_end cX10_end 2 .boolean rm_X10_end 0 0 [rf w (some l0), .int l1] h v h' := by
  refine of_body [(0, rf w (some l0)), (1, .int l1)] (by decide) (by simp [lg_sl, rf_cat, cat_i, cat_l, cat_a]) (by simp [lv_args, rf_cat, cat_i, cat_l, cat_a]) ?_
  intro x hw_ hnL_ hl_ hc hret hnm hQ
  subst hw_; subst hl_
  have hnl : ∀ i, i < 2 → i < x.nL := fun i h => by rw [hnL_]; exact h
  have hw : wpO (sX10_end F l0 l1 h) (fun r => r = (v, h')) := ⟨_, hs, rfl⟩
  unfold sX10_end at hw
  refine R_iload_n (q := 1) (i := 1) (v := l1) hc dX10_end_0 rfl rfl ?_
  refine R_if_lt (tgt := 15) hc dX10_end_1 (by decide) hw (fun hw => ?_) (fun hw => ?_)
  · refine R_iconst (v := (0 : Int32)) hc dX10_end_15 kI_0 ?_
    exact R_ireturn hc hret rfl hQ hw dX10_end_16
  · refine R_iload_n (q := 1) (i := 1) (v := l1) hc dX10_end_4 rfl rfl ?_
    refine R_aload_n (q := 0) (i := 0) (v := (some l0)) hc dX10_end_5 rfl rfl ?_
    refine R_getR hc fl_10_12 dX10_end_6 hw (fun t1 hw => ?_)
    refine R_getI hc fl_10_102 dX10_end_9 hw (fun t2 hw => ?_)
    refine R_icmp_le (tgt := 17) hc dX10_end_12 (by decide) hw (fun hw => ?_) (fun hw => ?_)
    · refine R_aload_n (q := 0) (i := 0) (v := (some l0)) hc dX10_end_17 rfl rfl ?_
      refine R_getR hc fl_10_12 dX10_end_18 hw (fun t3 hw => ?_)
      refine R_iload_n (q := 1) (i := 1) (v := l1) hc dX10_end_21 rfl rfl ?_
      refine R_putI hc pl_10_102 rfl rfl dX10_end_22 hw (fun h4 hw => ?_)
      refine R_iconst (v := (1 : Int32)) hc dX10_end_25 kI_1 ?_
      exact R_ireturn hc hret rfl hQ hw dX10_end_26
    · refine R_iconst (v := (0 : Int32)) hc dX10_end_15 kI_0 ?_
      exact R_ireturn hc hret rfl hQ hw dX10_end_16
theorem dX1_clear_0 : decode cX1_clear 0 = .ok (.aload_n 0, 1) := by decide +kernel
theorem dX1_clear_1 : decode cX1_clear 1 = .ok (.iconst 0, 1) := by decide +kernel
theorem dX1_clear_2 : decode cX1_clear 2 = .ok (.putfield 27, 3) := by decide +kernel
theorem dX1_clear_5 : decode cX1_clear 5 = .ok (.aload_n 0, 1) := by decide +kernel
theorem dX1_clear_6 : decode cX1_clear 6 = .ok (.iconst 0, 1) := by decide +kernel
theorem dX1_clear_7 : decode cX1_clear 7 = .ok (.putfield 31, 3) := by decide +kernel
theorem dX1_clear_10 : decode cX1_clear 10 = .ok (.aload_n 0, 1) := by decide +kernel
theorem dX1_clear_11 : decode cX1_clear 11 = .ok (.iconst 0, 1) := by decide +kernel
theorem dX1_clear_12 : decode cX1_clear 12 = .ok (.putfield 34, 3) := by decide +kernel
theorem dX1_clear_15 : decode cX1_clear 15 = .ok (.aload_n 0, 1) := by decide +kernel
theorem dX1_clear_16 : decode cX1_clear 16 = .ok (.iconst 0, 1) := by decide +kernel
theorem dX1_clear_17 : decode cX1_clear 17 = .ok (.putfield 37, 3) := by decide +kernel
theorem dX1_clear_20 : decode cX1_clear 20 = .ok (.aload_n 0, 1) := by decide +kernel
theorem dX1_clear_21 : decode cX1_clear 21 = .ok (.iconst 0, 1) := by decide +kernel
theorem dX1_clear_22 : decode cX1_clear 22 = .ok (.putfield 40, 3) := by decide +kernel
theorem dX1_clear_25 : decode cX1_clear 25 = .ok (.aload_n 0, 1) := by decide +kernel
theorem dX1_clear_26 : decode cX1_clear 26 = .ok (.iconst 0, 1) := by decide +kernel
theorem dX1_clear_27 : decode cX1_clear 27 = .ok (.putfield 43, 3) := by decide +kernel
theorem dX1_clear_30 : decode cX1_clear 30 = .ok (.aload_n 0, 1) := by decide +kernel
theorem dX1_clear_31 : decode cX1_clear 31 = .ok (.iconst 0, 1) := by decide +kernel
theorem dX1_clear_32 : decode cX1_clear 32 = .ok (.putfield 46, 3) := by decide +kernel
theorem dX1_clear_35 : decode cX1_clear 35 = .ok (.return_, 1) := by decide +kernel
def sX1_clear (F : Nat) (l0 : Nat) (h : HP) : Option HP :=
  (pI h 1 (some l0) 0 (0 : Int32)).bind fun h1 =>
  (pI h1 1 (some l0) 1 (0 : Int32)).bind fun h2 =>
  (pI h2 1 (some l0) 2 (0 : Int32)).bind fun h3 =>
  (pI h3 1 (some l0) 3 (0 : Int32)).bind fun h4 =>
  (pI h4 1 (some l0) 4 (0 : Int32)).bind fun h5 =>
  (pI h5 1 (some l0) 5 (0 : Int32)).bind fun h6 =>
  (pI h6 1 (some l0) 6 (0 : Int32)).bind fun h7 =>
  some h7
abbrev rm_X1_clear : Room := { frames := 0, cells := 0, slots := 0, locals := 0 }
set_option maxRecDepth 100000 in
set_option maxHeartbeats 4000000 in
theorem mt_X1_clear {w : WD} {l : Launch} {F : Nat} {l0 : Nat} {h : HP} {h' : HP} (hs : sX1_clear F l0 h = some h') : MV w l yX1_clear cX1_clear 1 rm_X1_clear 0 0 [rf w (some l0)] h h' := by
  refine of_body [(0, rf w (some l0))] (by decide) (by simp [lg_sl, rf_cat, cat_i, cat_l, cat_a]) (by simp [lv_args, rf_cat, cat_i, cat_l, cat_a]) ?_
  intro x hw_ hnL_ hl_ hc hret hnm hQ
  subst hw_; subst hl_
  have hnl : ∀ i, i < 1 → i < x.nL := fun i h => by rw [hnL_]; exact h
  have hw : wpO (sX1_clear F l0 h) (fun r => r = h') := ⟨_, hs, rfl⟩
  unfold sX1_clear at hw
  refine R_aload_n (q := 0) (i := 0) (v := (some l0)) hc dX1_clear_0 rfl rfl ?_
  refine R_iconst (v := (0 : Int32)) hc dX1_clear_1 kI_0 ?_
  refine R_putI hc pl_1_27 rfl rfl dX1_clear_2 hw (fun h1 hw => ?_)
  refine R_aload_n (q := 0) (i := 0) (v := (some l0)) hc dX1_clear_5 rfl rfl ?_
  refine R_iconst (v := (0 : Int32)) hc dX1_clear_6 kI_0 ?_
  refine R_putI hc pl_1_31 rfl rfl dX1_clear_7 hw (fun h2 hw => ?_)
  refine R_aload_n (q := 0) (i := 0) (v := (some l0)) hc dX1_clear_10 rfl rfl ?_
  refine R_iconst (v := (0 : Int32)) hc dX1_clear_11 kI_0 ?_
  refine R_putI hc pl_1_34 rfl rfl dX1_clear_12 hw (fun h3 hw => ?_)
  refine R_aload_n (q := 0) (i := 0) (v := (some l0)) hc dX1_clear_15 rfl rfl ?_
  refine R_iconst (v := (0 : Int32)) hc dX1_clear_16 kI_0 ?_
  refine R_putI hc pl_1_37 rfl rfl dX1_clear_17 hw (fun h4 hw => ?_)
  refine R_aload_n (q := 0) (i := 0) (v := (some l0)) hc dX1_clear_20 rfl rfl ?_
  refine R_iconst (v := (0 : Int32)) hc dX1_clear_21 kI_0 ?_
  refine R_putI hc pl_1_40 rfl rfl dX1_clear_22 hw (fun h5 hw => ?_)
  refine R_aload_n (q := 0) (i := 0) (v := (some l0)) hc dX1_clear_25 rfl rfl ?_
  refine R_iconst (v := (0 : Int32)) hc dX1_clear_26 kI_0 ?_
  refine R_putI hc pl_1_43 rfl rfl dX1_clear_27 hw (fun h6 hw => ?_)
  refine R_aload_n (q := 0) (i := 0) (v := (some l0)) hc dX1_clear_30 rfl rfl ?_
  refine R_iconst (v := (0 : Int32)) hc dX1_clear_31 kI_0 ?_
  refine R_putI hc pl_1_46 rfl rfl dX1_clear_32 hw (fun h7 hw => ?_)
  exact R_return hc hret hQ hw dX1_clear_35
theorem dX8_skipBlanks_0 : decode cX8_skipBlanks 0 = .ok (.aload_n 0, 1) := by decide +kernel
theorem dX8_skipBlanks_1 : decode cX8_skipBlanks 1 = .ok (.getfield 15, 3) := by decide +kernel
theorem dX8_skipBlanks_4 : decode cX8_skipBlanks 4 = .ok (.iconst (-1), 1) := by decide +kernel
theorem dX8_skipBlanks_5 : decode cX8_skipBlanks 5 = .ok (.if_icmp .ne 41, 3) := by decide +kernel
theorem dX8_skipBlanks_8 : decode cX8_skipBlanks 8 = .ok (.aload_n 0, 1) := by decide +kernel
theorem dX8_skipBlanks_9 : decode cX8_skipBlanks 9 = .ok (.getfield 22, 3) := by decide +kernel
theorem dX8_skipBlanks_12 : decode cX8_skipBlanks 12 = .ok (.aload_n 0, 1) := by decide +kernel
theorem dX8_skipBlanks_13 : decode cX8_skipBlanks 13 = .ok (.getfield 9, 3) := by decide +kernel
theorem dX8_skipBlanks_16 : decode cX8_skipBlanks 16 = .ok (.if_icmp .ge 30, 3) := by decide +kernel
theorem dX8_skipBlanks_19 : decode cX8_skipBlanks 19 = .ok (.aload_n 0, 1) := by decide +kernel
theorem dX8_skipBlanks_20 : decode cX8_skipBlanks 20 = .ok (.getfield 18, 3) := by decide +kernel
theorem dX8_skipBlanks_23 : decode cX8_skipBlanks 23 = .ok (.aload_n 0, 1) := by decide +kernel
theorem dX8_skipBlanks_24 : decode cX8_skipBlanks 24 = .ok (.getfield 22, 3) := by decide +kernel
theorem dX8_skipBlanks_27 : decode cX8_skipBlanks 27 = .ok (.baload, 1) := by decide +kernel
theorem dX8_skipBlanks_28 : decode cX8_skipBlanks 28 = .ok (.bipush 32, 2) := by decide +kernel
theorem dX8_skipBlanks_30 : decode cX8_skipBlanks 30 = .ok (.if_icmp .ne 16, 3) := by decide +kernel
theorem dX8_skipBlanks_33 : decode cX8_skipBlanks 33 = .ok (.aload_n 0, 1) := by decide +kernel
theorem dX8_skipBlanks_34 : decode cX8_skipBlanks 34 = .ok (.dup, 1) := by decide +kernel
theorem dX8_skipBlanks_35 : decode cX8_skipBlanks 35 = .ok (.getfield 22, 3) := by decide +kernel
theorem dX8_skipBlanks_38 : decode cX8_skipBlanks 38 = .ok (.iconst 1, 1) := by decide +kernel
theorem dX8_skipBlanks_39 : decode cX8_skipBlanks 39 = .ok (.iadd, 1) := by decide +kernel
theorem dX8_skipBlanks_40 : decode cX8_skipBlanks 40 = .ok (.putfield 22, 3) := by decide +kernel
theorem dX8_skipBlanks_43 : decode cX8_skipBlanks 43 = .ok (.goto (-43), 3) := by decide +kernel
theorem dX8_skipBlanks_46 : decode cX8_skipBlanks 46 = .ok (.aload_n 0, 1) := by decide +kernel
theorem dX8_skipBlanks_47 : decode cX8_skipBlanks 47 = .ok (.aload_n 0, 1) := by decide +kernel
theorem dX8_skipBlanks_48 : decode cX8_skipBlanks 48 = .ok (.getfield 22, 3) := by decide +kernel
theorem dX8_skipBlanks_51 : decode cX8_skipBlanks 51 = .ok (.putfield 25, 3) := by decide +kernel
theorem dX8_skipBlanks_54 : decode cX8_skipBlanks 54 = .ok (.return_, 1) := by decide +kernel
def sX8_skipBlanks_L0 (F : Nat) (l0 : Nat) (h : HP) : Option (HP ⊕ HP) :=
  (gI h 8 (some l0) 1).bind fun t1 =>
  if ¬ t1 = (-1 : Int32) then
    some (.inr h)
  else
    (gI h 8 (some l0) 3).bind fun t2 =>
    (gI h 8 (some l0) 0).bind fun t3 =>
    if t3 ≤ t2 then
      some (.inr h)
    else
      (gR h 8 (some l0) 2).bind fun t4 =>
      (gI h 8 (some l0) 3).bind fun t5 =>
      (aI h 12 t4 t5).bind fun t6 =>
      if ¬ t6 = (32 : Int32) then
        some (.inr h)
      else
        (gI h 8 (some l0) 3).bind fun t7 =>
        (pI h 8 (some l0) 3 (t7 + (1 : Int32))).bind fun h8 =>
        some (.inl h8)
def sX8_skipBlanks (F : Nat) (l0 : Nat) (h : HP) : Option HP :=
  (iter (fun s => sX8_skipBlanks_L0 F l0 s) F h).bind fun h9 =>
    (gI h9 8 (some l0) 3).bind fun t10 =>
    (pI h9 8 (some l0) 4 t10).bind fun h11 =>
    some h11
abbrev rm_X8_skipBlanks : Room := { frames := 0, cells := 0, slots := 0, locals := 0 }
set_option maxRecDepth 100000 in
set_option maxHeartbeats 4000000 in
theorem mt_X8_skipBlanks {w : WD} {l : Launch} {F : Nat} {l0 : Nat} {h : HP} {h' : HP} (hs : sX8_skipBlanks F l0 h = some h') : MV w l yX8_skipBlanks cX8_skipBlanks 1 rm_X8_skipBlanks 0 0 [rf w (some l0)] h h' := by
  refine of_body [(0, rf w (some l0))] (by decide) (by simp [lg_sl, rf_cat, cat_i, cat_l, cat_a]) (by simp [lv_args, rf_cat, cat_i, cat_l, cat_a]) ?_
  intro x hw_ hnL_ hl_ hc hret hnm hQ
  subst hw_; subst hl_
  have hnl : ∀ i, i < 1 → i < x.nL := fun i h => by rw [hnL_]; exact h
  have hw : wpO (sX8_skipBlanks F l0 h) (fun r => r = h') := ⟨_, hs, rfl⟩
  unfold sX8_skipBlanks at hw
  refine R_sub hc [0] rfl ?_
  refine R_loop (P := fun (s : HP) => Rn x 0 0 0 [(0, rf x.w (some l0))] [] s) (fun h9 => Rn x 0 0 46 [(0, rf x.w (some l0))] [] h9) hw (fun r hw => ?_) (fun X hX s hw => ?_)
  · revert r hw
    intro h9 hw
    show Rn x 0 0 46 [(0, rf x.w (some l0))] [] h9
    refine R_aload_n (q := 0) (i := 0) (v := (some l0)) hc dX8_skipBlanks_46 rfl rfl ?_
    refine R_aload_n (q := 0) (i := 0) (v := (some l0)) hc dX8_skipBlanks_47 rfl rfl ?_
    refine R_getI hc fl_8_22 dX8_skipBlanks_48 hw (fun t10 hw => ?_)
    refine R_putI hc pl_8_25 rfl rfl dX8_skipBlanks_51 hw (fun h11 hw => ?_)
    exact R_return hc hret hQ hw dX8_skipBlanks_54
  · revert s hw
    intro h13 hw
    show Rn x 0 0 0 [(0, rf x.w (some l0))] [] h13
    have hw : wpO (sX8_skipBlanks_L0 F l0 h13) _ := hw
    unfold sX8_skipBlanks_L0 at hw
    refine R_aload_n (q := 0) (i := 0) (v := (some l0)) hc dX8_skipBlanks_0 rfl rfl ?_
    refine R_getI hc fl_8_15 dX8_skipBlanks_1 hw (fun t1 hw => ?_)
    refine R_iconst (v := (-1 : Int32)) hc dX8_skipBlanks_4 kI_m1 ?_
    refine R_icmp_ne (tgt := 46) hc dX8_skipBlanks_5 (by decide) hw (fun hw => ?_) (fun hw => ?_)
    · refine R_sub hc [0] rfl ?_
      exact (wpO_some hw :)
    · refine R_aload_n (q := 0) (i := 0) (v := (some l0)) hc dX8_skipBlanks_8 rfl rfl ?_
      refine R_getI hc fl_8_22 dX8_skipBlanks_9 hw (fun t2 hw => ?_)
      refine R_aload_n (q := 0) (i := 0) (v := (some l0)) hc dX8_skipBlanks_12 rfl rfl ?_
      refine R_getI hc fl_8_9 dX8_skipBlanks_13 hw (fun t3 hw => ?_)
      refine R_icmp_ge (tgt := 46) hc dX8_skipBlanks_16 (by decide) hw (fun hw => ?_) (fun hw => ?_)
      · refine R_sub hc [0] rfl ?_
        exact (wpO_some hw :)
      · refine R_aload_n (q := 0) (i := 0) (v := (some l0)) hc dX8_skipBlanks_19 rfl rfl ?_
        refine R_getR hc fl_8_18 dX8_skipBlanks_20 hw (fun t4 hw => ?_)
        refine R_aload_n (q := 0) (i := 0) (v := (some l0)) hc dX8_skipBlanks_23 rfl rfl ?_
        refine R_getI hc fl_8_22 dX8_skipBlanks_24 hw (fun t5 hw => ?_)
        refine R_baload hc dX8_skipBlanks_27 hw (fun t6 hw => ?_)
        refine R_bipush (v := (32 : Int32)) hc dX8_skipBlanks_28 kB_32 ?_
        refine R_icmp_ne (tgt := 46) hc dX8_skipBlanks_30 (by decide) hw (fun hw => ?_) (fun hw => ?_)
        · refine R_sub hc [0] rfl ?_
          exact (wpO_some hw :)
        · refine R_aload_n (q := 0) (i := 0) (v := (some l0)) hc dX8_skipBlanks_33 rfl rfl ?_
          refine R_dup hc dX8_skipBlanks_34 (rf_cat _ _) ?_
          refine R_getI hc fl_8_22 dX8_skipBlanks_35 hw (fun t7 hw => ?_)
          refine R_iconst (v := (1 : Int32)) hc dX8_skipBlanks_38 kI_1 ?_
          refine R_iadd hc dX8_skipBlanks_39 ?_
          refine R_putI hc pl_8_22 rfl rfl dX8_skipBlanks_40 hw (fun h8 hw => ?_)
          refine R_goto (tgt := 0) hc dX8_skipBlanks_43 (by decide) ?_
          refine R_sub hc [0] rfl ?_
          exact hX h8 (wpO_some hw :)
theorem dX8_goThroughWord_0 : decode cX8_goThroughWord 0 = .ok (.aload_n 0, 1) := by decide +kernel
theorem dX8_goThroughWord_1 : decode cX8_goThroughWord 1 = .ok (.getfield 15, 3) := by decide +kernel
theorem dX8_goThroughWord_4 : decode cX8_goThroughWord 4 = .ok (.iconst (-1), 1) := by decide +kernel
theorem dX8_goThroughWord_5 : decode cX8_goThroughWord 5 = .ok (.if_icmp .ne 55, 3) := by decide +kernel
theorem dX8_goThroughWord_8 : decode cX8_goThroughWord 8 = .ok (.aload_n 0, 1) := by decide +kernel
theorem dX8_goThroughWord_9 : decode cX8_goThroughWord 9 = .ok (.getfield 22, 3) := by decide +kernel
theorem dX8_goThroughWord_12 : decode cX8_goThroughWord 12 = .ok (.aload_n 0, 1) := by decide +kernel
theorem dX8_goThroughWord_13 : decode cX8_goThroughWord 13 = .ok (.getfield 9, 3) := by decide +kernel
theorem dX8_goThroughWord_16 : decode cX8_goThroughWord 16 = .ok (.if_icmp .ge 44, 3) := by decide +kernel
theorem dX8_goThroughWord_19 : decode cX8_goThroughWord 19 = .ok (.aload_n 0, 1) := by decide +kernel
theorem dX8_goThroughWord_20 : decode cX8_goThroughWord 20 = .ok (.getfield 18, 3) := by decide +kernel
theorem dX8_goThroughWord_23 : decode cX8_goThroughWord 23 = .ok (.aload_n 0, 1) := by decide +kernel
theorem dX8_goThroughWord_24 : decode cX8_goThroughWord 24 = .ok (.getfield 22, 3) := by decide +kernel
theorem dX8_goThroughWord_27 : decode cX8_goThroughWord 27 = .ok (.baload, 1) := by decide +kernel
theorem dX8_goThroughWord_28 : decode cX8_goThroughWord 28 = .ok (.bipush 97, 2) := by decide +kernel
theorem dX8_goThroughWord_30 : decode cX8_goThroughWord 30 = .ok (.if_icmp .lt 30, 3) := by decide +kernel
theorem dX8_goThroughWord_33 : decode cX8_goThroughWord 33 = .ok (.aload_n 0, 1) := by decide +kernel
theorem dX8_goThroughWord_34 : decode cX8_goThroughWord 34 = .ok (.getfield 18, 3) := by decide +kernel
theorem dX8_goThroughWord_37 : decode cX8_goThroughWord 37 = .ok (.aload_n 0, 1) := by decide +kernel
theorem dX8_goThroughWord_38 : decode cX8_goThroughWord 38 = .ok (.getfield 22, 3) := by decide +kernel
theorem dX8_goThroughWord_41 : decode cX8_goThroughWord 41 = .ok (.baload, 1) := by decide +kernel
theorem dX8_goThroughWord_42 : decode cX8_goThroughWord 42 = .ok (.bipush 122, 2) := by decide +kernel
theorem dX8_goThroughWord_44 : decode cX8_goThroughWord 44 = .ok (.if_icmp .gt 16, 3) := by decide +kernel
theorem dX8_goThroughWord_47 : decode cX8_goThroughWord 47 = .ok (.aload_n 0, 1) := by decide +kernel
theorem dX8_goThroughWord_48 : decode cX8_goThroughWord 48 = .ok (.dup, 1) := by decide +kernel
theorem dX8_goThroughWord_49 : decode cX8_goThroughWord 49 = .ok (.getfield 22, 3) := by decide +kernel
theorem dX8_goThroughWord_52 : decode cX8_goThroughWord 52 = .ok (.iconst 1, 1) := by decide +kernel
theorem dX8_goThroughWord_53 : decode cX8_goThroughWord 53 = .ok (.iadd, 1) := by decide +kernel
theorem dX8_goThroughWord_54 : decode cX8_goThroughWord 54 = .ok (.putfield 22, 3) := by decide +kernel
theorem dX8_goThroughWord_57 : decode cX8_goThroughWord 57 = .ok (.goto (-57), 3) := by decide +kernel
theorem dX8_goThroughWord_60 : decode cX8_goThroughWord 60 = .ok (.return_, 1) := by decide +kernel
def sX8_goThroughWord_L0 (F : Nat) (l0 : Nat) (h : HP) : Option (HP ⊕ HP) :=
  (gI h 8 (some l0) 1).bind fun t1 =>
  if ¬ t1 = (-1 : Int32) then
    some (.inr h)
  else
    (gI h 8 (some l0) 3).bind fun t2 =>
    (gI h 8 (some l0) 0).bind fun t3 =>
    if t3 ≤ t2 then
      some (.inr h)
    else
      (gR h 8 (some l0) 2).bind fun t4 =>
      (gI h 8 (some l0) 3).bind fun t5 =>
      (aI h 12 t4 t5).bind fun t6 =>
      if t6 < (97 : Int32) then
        some (.inr h)
      else
        (gR h 8 (some l0) 2).bind fun t7 =>
        (gI h 8 (some l0) 3).bind fun t8 =>
        (aI h 12 t7 t8).bind fun t9 =>
        if (122 : Int32) < t9 then
          some (.inr h)
        else
          (gI h 8 (some l0) 3).bind fun t10 =>
          (pI h 8 (some l0) 3 (t10 + (1 : Int32))).bind fun h11 =>
          some (.inl h11)
def sX8_goThroughWord (F : Nat) (l0 : Nat) (h : HP) : Option HP :=
  (iter (fun s => sX8_goThroughWord_L0 F l0 s) F h).bind fun h12 =>
    some h12
abbrev rm_X8_goThroughWord : Room := { frames := 0, cells := 0, slots := 0, locals := 0 }
set_option maxRecDepth 100000 in
set_option maxHeartbeats 4000000 in
theorem mt_X8_goThroughWord {w : WD} {l : Launch} {F : Nat} {l0 : Nat} {h : HP} {h' : HP} (hs : sX8_goThroughWord F l0 h = some h') : MV w l yX8_goThroughWord cX8_goThroughWord 1 rm_X8_goThroughWord 0 0 [rf w (some l0)] h h' := by
  refine of_body [(0, rf w (some l0))] (by decide) (by simp [lg_sl, rf_cat, cat_i, cat_l, cat_a]) (by simp [lv_args, rf_cat, cat_i, cat_l, cat_a]) ?_
  intro x hw_ hnL_ hl_ hc hret hnm hQ
  subst hw_; subst hl_
  have hnl : ∀ i, i < 1 → i < x.nL := fun i h => by rw [hnL_]; exact h
  have hw : wpO (sX8_goThroughWord F l0 h) (fun r => r = h') := ⟨_, hs, rfl⟩
  unfold sX8_goThroughWord at hw
  refine R_sub hc [0] rfl ?_
  refine R_loop (P := fun (s : HP) => Rn x 0 0 0 [(0, rf x.w (some l0))] [] s) (fun h12 => Rn x 0 0 60 [] [] h12) hw (fun r hw => ?_) (fun X hX s hw => ?_)
  · revert r hw
    intro h12 hw
    show Rn x 0 0 60 [] [] h12
    exact R_return hc hret hQ hw dX8_goThroughWord_60
  · revert s hw
    intro h14 hw
    show Rn x 0 0 0 [(0, rf x.w (some l0))] [] h14
    have hw : wpO (sX8_goThroughWord_L0 F l0 h14) _ := hw
    unfold sX8_goThroughWord_L0 at hw
    refine R_aload_n (q := 0) (i := 0) (v := (some l0)) hc dX8_goThroughWord_0 rfl rfl ?_
    refine R_getI hc fl_8_15 dX8_goThroughWord_1 hw (fun t1 hw => ?_)
    refine R_iconst (v := (-1 : Int32)) hc dX8_goThroughWord_4 kI_m1 ?_
    refine R_icmp_ne (tgt := 60) hc dX8_goThroughWord_5 (by decide) hw (fun hw => ?_) (fun hw => ?_)
    · refine R_sub hc [] rfl ?_
      exact (wpO_some hw :)
    · refine R_aload_n (q := 0) (i := 0) (v := (some l0)) hc dX8_goThroughWord_8 rfl rfl ?_
      refine R_getI hc fl_8_22 dX8_goThroughWord_9 hw (fun t2 hw => ?_)
      refine R_aload_n (q := 0) (i := 0) (v := (some l0)) hc dX8_goThroughWord_12 rfl rfl ?_
      refine R_getI hc fl_8_9 dX8_goThroughWord_13 hw (fun t3 hw => ?_)
      refine R_icmp_ge (tgt := 60) hc dX8_goThroughWord_16 (by decide) hw (fun hw => ?_) (fun hw => ?_)
      · refine R_sub hc [] rfl ?_
        exact (wpO_some hw :)
      · refine R_aload_n (q := 0) (i := 0) (v := (some l0)) hc dX8_goThroughWord_19 rfl rfl ?_
        refine R_getR hc fl_8_18 dX8_goThroughWord_20 hw (fun t4 hw => ?_)
        refine R_aload_n (q := 0) (i := 0) (v := (some l0)) hc dX8_goThroughWord_23 rfl rfl ?_
        refine R_getI hc fl_8_22 dX8_goThroughWord_24 hw (fun t5 hw => ?_)
        refine R_baload hc dX8_goThroughWord_27 hw (fun t6 hw => ?_)
        refine R_bipush (v := (97 : Int32)) hc dX8_goThroughWord_28 kB_97 ?_
        refine R_icmp_lt (tgt := 60) hc dX8_goThroughWord_30 (by decide) hw (fun hw => ?_) (fun hw => ?_)
        · refine R_sub hc [] rfl ?_
          exact (wpO_some hw :)
        · refine R_aload_n (q := 0) (i := 0) (v := (some l0)) hc dX8_goThroughWord_33 rfl rfl ?_
          refine R_getR hc fl_8_18 dX8_goThroughWord_34 hw (fun t7 hw => ?_)
          refine R_aload_n (q := 0) (i := 0) (v := (some l0)) hc dX8_goThroughWord_37 rfl rfl ?_
          refine R_getI hc fl_8_22 dX8_goThroughWord_38 hw (fun t8 hw => ?_)
          refine R_baload hc dX8_goThroughWord_41 hw (fun t9 hw => ?_)
          refine R_bipush (v := (122 : Int32)) hc dX8_goThroughWord_42 kB_122 ?_
          refine R_icmp_gt (tgt := 60) hc dX8_goThroughWord_44 (by decide) hw (fun hw => ?_) (fun hw => ?_)
          · refine R_sub hc [] rfl ?_
            exact (wpO_some hw :)
          · refine R_aload_n (q := 0) (i := 0) (v := (some l0)) hc dX8_goThroughWord_47 rfl rfl ?_
            refine R_dup hc dX8_goThroughWord_48 (rf_cat _ _) ?_
            refine R_getI hc fl_8_22 dX8_goThroughWord_49 hw (fun t10 hw => ?_)
            refine R_iconst (v := (1 : Int32)) hc dX8_goThroughWord_52 kI_1 ?_
            refine R_iadd hc dX8_goThroughWord_53 ?_
            refine R_putI hc pl_8_22 rfl rfl dX8_goThroughWord_54 hw (fun h11 hw => ?_)
            refine R_goto (tgt := 0) hc dX8_goThroughWord_57 (by decide) ?_
            refine R_sub hc [0] rfl ?_
            exact hX h11 (wpO_some hw :)
theorem dX8_fail_0 : decode cX8_fail 0 = .ok (.aload_n 0, 1) := by decide +kernel
theorem dX8_fail_1 : decode cX8_fail 1 = .ok (.getfield 15, 3) := by decide +kernel
theorem dX8_fail_4 : decode cX8_fail 4 = .ok (.iconst (-1), 1) := by decide +kernel
theorem dX8_fail_5 : decode cX8_fail 5 = .ok (.if_icmp .ne 8, 3) := by decide +kernel
theorem dX8_fail_8 : decode cX8_fail 8 = .ok (.aload_n 0, 1) := by decide +kernel
theorem dX8_fail_9 : decode cX8_fail 9 = .ok (.iload_n 1, 1) := by decide +kernel
theorem dX8_fail_10 : decode cX8_fail 10 = .ok (.putfield 15, 3) := by decide +kernel
theorem dX8_fail_13 : decode cX8_fail 13 = .ok (.return_, 1) := by decide +kernel
def sX8_fail (F : Nat) (l0 : Nat) (l1 : Int32) (h : HP) : Option HP :=
  (gI h 8 (some l0) 1).bind fun t1 =>
  if ¬ t1 = (-1 : Int32) then
    some h
  else
    (pI h 8 (some l0) 1 l1).bind fun h2 =>
    some h2
abbrev rm_X8_fail : Room := { frames := 0, cells := 0, slots := 0, locals := 0 }
set_option maxRecDepth 100000 in
set_option maxHeartbeats 4000000 in
theorem mt_X8_fail {w : WD} {l : Launch} {F : Nat} {l0 : Nat} {l1 : Int32} {h : HP} {h' : HP} (hs : sX8_fail F l0 l1 h = some h') : MV w l yX8_fail cX8_fail 2 rm_X8_fail 0 0 [rf w (some l0), .int l1] h h' := by
  refine of_body [(0, rf w (some l0)), (1, .int l1)] (by decide) (by simp [lg_sl, rf_cat, cat_i, cat_l, cat_a]) (by simp [lv_args, rf_cat, cat_i, cat_l, cat_a]) ?_
  intro x hw_ hnL_ hl_ hc hret hnm hQ
  subst hw_; subst hl_
  have hnl : ∀ i, i < 2 → i < x.nL := fun i h => by rw [hnL_]; exact h
  have hw : wpO (sX8_fail F l0 l1 h) (fun r => r = h') := ⟨_, hs, rfl⟩
  unfold sX8_fail at hw
  refine R_aload_n (q := 0) (i := 0) (v := (some l0)) hc dX8_fail_0 rfl rfl ?_
  refine R_getI hc fl_8_15 dX8_fail_1 hw (fun t1 hw => ?_)
  refine R_iconst (v := (-1 : Int32)) hc dX8_fail_4 kI_m1 ?_
  refine R_icmp_ne (tgt := 13) hc dX8_fail_5 (by decide) hw (fun hw => ?_) (fun hw => ?_)
  · exact R_return hc hret hQ hw dX8_fail_13
  · refine R_aload_n (q := 0) (i := 0) (v := (some l0)) hc dX8_fail_8 rfl rfl ?_
    refine R_iload_n (q := 1) (i := 1) (v := l1) hc dX8_fail_9 rfl rfl ?_
    refine R_putI hc pl_8_15 rfl rfl dX8_fail_10 hw (fun h2 hw => ?_)
    exact R_return hc hret hQ hw dX8_fail_13
theorem dX8_readWord_0 : decode cX8_readWord 0 = .ok (.aload_n 0, 1) := by decide +kernel
theorem dX8_readWord_1 : decode cX8_readWord 1 = .ok (.invokevirtual 133, 3) := by decide +kernel
theorem dX8_readWord_4 : decode cX8_readWord 4 = .ok (.aload_n 0, 1) := by decide +kernel
theorem dX8_readWord_5 : decode cX8_readWord 5 = .ok (.invokevirtual 136, 3) := by decide +kernel
theorem dX8_readWord_8 : decode cX8_readWord 8 = .ok (.aload_n 0, 1) := by decide +kernel
theorem dX8_readWord_9 : decode cX8_readWord 9 = .ok (.getfield 22, 3) := by decide +kernel
theorem dX8_readWord_12 : decode cX8_readWord 12 = .ok (.aload_n 0, 1) := by decide +kernel
theorem dX8_readWord_13 : decode cX8_readWord 13 = .ok (.getfield 25, 3) := by decide +kernel
theorem dX8_readWord_16 : decode cX8_readWord 16 = .ok (.if_icmp .ne 11, 3) := by decide +kernel
theorem dX8_readWord_19 : decode cX8_readWord 19 = .ok (.aload_n 0, 1) := by decide +kernel
theorem dX8_readWord_20 : decode cX8_readWord 20 = .ok (.aload_n 0, 1) := by decide +kernel
theorem dX8_readWord_21 : decode cX8_readWord 21 = .ok (.getfield 25, 3) := by decide +kernel
theorem dX8_readWord_24 : decode cX8_readWord 24 = .ok (.invokevirtual 60, 3) := by decide +kernel
theorem dX8_readWord_27 : decode cX8_readWord 27 = .ok (.return_, 1) := by decide +kernel
def sX8_readWord (F : Nat) (l0 : Nat) (h : HP) : Option HP :=
  (dO h 8 (some l0)).bind fun a1 =>
  (sX8_skipBlanks F a1 h).bind fun h2 =>
  (dO h2 8 (some l0)).bind fun a3 =>
  (sX8_goThroughWord F a3 h2).bind fun h4 =>
  (gI h4 8 (some l0) 3).bind fun t5 =>
  (gI h4 8 (some l0) 4).bind fun t6 =>
  if ¬ t5 = t6 then
    some h4
  else
    (gI h4 8 (some l0) 4).bind fun t7 =>
    (dO h4 8 (some l0)).bind fun a8 =>
    (sX8_fail F a8 t7 h4).bind fun h9 =>
    some h9
abbrev rm_X8_readWord : Room := { frames := 1, cells := 0, slots := 0, locals := 21 }
set_option maxRecDepth 100000 in
set_option maxHeartbeats 4000000 in
theorem mt_X8_readWord {w : WD} {l : Launch} {F : Nat} {l0 : Nat} {h : HP} {h' : HP} (hs : sX8_readWord F l0 h = some h') : MV w l yX8_readWord cX8_readWord 1 rm_X8_readWord 0 0 [rf w (some l0)] h h' := by
  refine of_body [(0, rf w (some l0))] (by decide) (by simp [lg_sl, rf_cat, cat_i, cat_l, cat_a]) (by simp [lv_args, rf_cat, cat_i, cat_l, cat_a]) ?_
  intro x hw_ hnL_ hl_ hc hret hnm hQ
  subst hw_; subst hl_
  have hnl : ∀ i, i < 1 → i < x.nL := fun i h => by rw [hnL_]; exact h
  have hw : wpO (sX8_readWord F l0 h) (fun r => r = h') := ⟨_, hs, rfl⟩
  unfold sX8_readWord at hw
  refine R_aload_n (q := 0) (i := 0) (v := (some l0)) hc dX8_readWord_0 rfl rfl ?_
  refine R_cVVi (As := []) (rest := []) (r := (some l0)) (ci := 8) hc ml_8_133 mf_X8_skipBlanks rfl (by decide) ⟨rfl, rfl⟩ ⟨le_b rfl, le_b rfl⟩ ⟨Nat.zero_le _, Nat.zero_le _⟩ (fun a h' e => mt_X8_skipBlanks e) rfl rfl (Nat.zero_le _) dX8_readWord_1 hw (fun h2 hw => ?_)
  refine R_aload_n (q := 0) (i := 0) (v := (some l0)) hc dX8_readWord_4 rfl rfl ?_
  refine R_cVVi (As := []) (rest := []) (r := (some l0)) (ci := 8) hc ml_8_136 mf_X8_goThroughWord rfl (by decide) ⟨rfl, rfl⟩ ⟨le_b rfl, le_b rfl⟩ ⟨Nat.zero_le _, Nat.zero_le _⟩ (fun a h' e => mt_X8_goThroughWord e) rfl rfl (Nat.zero_le _) dX8_readWord_5 hw (fun h4 hw => ?_)
  refine R_aload_n (q := 0) (i := 0) (v := (some l0)) hc dX8_readWord_8 rfl rfl ?_
  refine R_getI hc fl_8_22 dX8_readWord_9 hw (fun t5 hw => ?_)
  refine R_aload_n (q := 0) (i := 0) (v := (some l0)) hc dX8_readWord_12 rfl rfl ?_
  refine R_getI hc fl_8_25 dX8_readWord_13 hw (fun t6 hw => ?_)
  refine R_icmp_ne (tgt := 27) hc dX8_readWord_16 (by decide) hw (fun hw => ?_) (fun hw => ?_)
  · exact R_return hc hret hQ hw dX8_readWord_27
  · refine R_aload_n (q := 0) (i := 0) (v := (some l0)) hc dX8_readWord_19 rfl rfl ?_
    refine R_aload_n (q := 0) (i := 0) (v := (some l0)) hc dX8_readWord_20 rfl rfl ?_
    refine R_getI hc fl_8_25 dX8_readWord_21 hw (fun t7 hw => ?_)
    refine R_cVVi (As := [.int t7]) (rest := []) (r := (some l0)) (ci := 8) hc ml_8_60 mf_X8_fail rfl (by decide) ⟨rfl, rfl⟩ ⟨le_b rfl, le_b rfl⟩ ⟨Nat.zero_le _, Nat.zero_le _⟩ (fun a h' e => mt_X8_fail e) rfl rfl (Nat.zero_le _) dX8_readWord_24 hw (fun h9 hw => ?_)
    exact R_return hc hret hQ hw dX8_readWord_27
theorem dX8_wordIs_0 : decode cX8_wordIs 0 = .ok (.aload_n 0, 1) := by decide +kernel
theorem dX8_wordIs_1 : decode cX8_wordIs 1 = .ok (.getfield 22, 3) := by decide +kernel
theorem dX8_wordIs_4 : decode cX8_wordIs 4 = .ok (.aload_n 0, 1) := by decide +kernel
theorem dX8_wordIs_5 : decode cX8_wordIs 5 = .ok (.getfield 25, 3) := by decide +kernel
theorem dX8_wordIs_8 : decode cX8_wordIs 8 = .ok (.isub, 1) := by decide +kernel
theorem dX8_wordIs_9 : decode cX8_wordIs 9 = .ok (.aload_n 1, 1) := by decide +kernel
theorem dX8_wordIs_10 : decode cX8_wordIs 10 = .ok (.invokevirtual 139, 3) := by decide +kernel
theorem dX8_wordIs_13 : decode cX8_wordIs 13 = .ok (.if_icmp .eq 5, 3) := by decide +kernel
theorem dX8_wordIs_16 : decode cX8_wordIs 16 = .ok (.iconst 0, 1) := by decide +kernel
theorem dX8_wordIs_17 : decode cX8_wordIs 17 = .ok (.ireturn, 1) := by decide +kernel
theorem dX8_wordIs_18 : decode cX8_wordIs 18 = .ok (.iconst 0, 1) := by decide +kernel
theorem dX8_wordIs_19 : decode cX8_wordIs 19 = .ok (.istore_n 2, 1) := by decide +kernel
theorem dX8_wordIs_20 : decode cX8_wordIs 20 = .ok (.iload_n 2, 1) := by decide +kernel
theorem dX8_wordIs_21 : decode cX8_wordIs 21 = .ok (.aload_n 1, 1) := by decide +kernel
theorem dX8_wordIs_22 : decode cX8_wordIs 22 = .ok (.invokevirtual 139, 3) := by decide +kernel
theorem dX8_wordIs_25 : decode cX8_wordIs 25 = .ok (.if_icmp .ge 30, 3) := by decide +kernel
theorem dX8_wordIs_28 : decode cX8_wordIs 28 = .ok (.aload_n 0, 1) := by decide +kernel
theorem dX8_wordIs_29 : decode cX8_wordIs 29 = .ok (.getfield 18, 3) := by decide +kernel
theorem dX8_wordIs_32 : decode cX8_wordIs 32 = .ok (.aload_n 0, 1) := by decide +kernel
theorem dX8_wordIs_33 : decode cX8_wordIs 33 = .ok (.getfield 25, 3) := by decide +kernel
theorem dX8_wordIs_36 : decode cX8_wordIs 36 = .ok (.iload_n 2, 1) := by decide +kernel
theorem dX8_wordIs_37 : decode cX8_wordIs 37 = .ok (.iadd, 1) := by decide +kernel
theorem dX8_wordIs_38 : decode cX8_wordIs 38 = .ok (.baload, 1) := by decide +kernel
theorem dX8_wordIs_39 : decode cX8_wordIs 39 = .ok (.aload_n 1, 1) := by decide +kernel
theorem dX8_wordIs_40 : decode cX8_wordIs 40 = .ok (.iload_n 2, 1) := by decide +kernel
theorem dX8_wordIs_41 : decode cX8_wordIs 41 = .ok (.invokevirtual 143, 3) := by decide +kernel
theorem dX8_wordIs_44 : decode cX8_wordIs 44 = .ok (.if_icmp .eq 5, 3) := by decide +kernel
theorem dX8_wordIs_47 : decode cX8_wordIs 47 = .ok (.iconst 0, 1) := by decide +kernel
theorem dX8_wordIs_48 : decode cX8_wordIs 48 = .ok (.ireturn, 1) := by decide +kernel
theorem dX8_wordIs_49 : decode cX8_wordIs 49 = .ok (.iinc 2 1, 3) := by decide +kernel
theorem dX8_wordIs_52 : decode cX8_wordIs 52 = .ok (.goto (-32), 3) := by decide +kernel
theorem dX8_wordIs_55 : decode cX8_wordIs 55 = .ok (.iconst 1, 1) := by decide +kernel
theorem dX8_wordIs_56 : decode cX8_wordIs 56 = .ok (.ireturn, 1) := by decide +kernel
def sX8_wordIs_L20 (F : Nat) (l0 : Nat) (l1 : Nat) (l2 : Int32) (h : HP) : Option (Int32 ⊕ (Unit ⊕ Int32)) :=
  (sLen l1).bind fun t4 =>
  if t4 ≤ l2 then
    some (.inr (.inl ()))
  else
    (gR h 8 (some l0) 2).bind fun t5 =>
    (gI h 8 (some l0) 4).bind fun t6 =>
    (aI h 12 t5 (t6 + l2)).bind fun t7 =>
    (sAt l1 l2).bind fun t8 =>
    if t7 = t8 then
      some (.inl (l2 + (1 : Int32)))
    else
      some (.inr (.inr (0 : Int32)))
def sX8_wordIs (F : Nat) (l0 : Nat) (l1 : Nat) (h : HP) : Option Int32 :=
  (gI h 8 (some l0) 3).bind fun t1 =>
  (gI h 8 (some l0) 4).bind fun t2 =>
  (sLen l1).bind fun t3 =>
  if (t1 - t2) = t3 then
    (iter (fun s => sX8_wordIs_L20 F l0 l1 s h) F (0 : Int32)).bind fun r => match r with
    | .inl _ =>
      some (1 : Int32)
    | .inr u9 => some u9
  else
    some (0 : Int32)
abbrev rm_X8_wordIs : Room := { frames := 4, cells := 0, slots := 0, locals := 85 }
set_option maxRecDepth 100000 in
set_option maxHeartbeats 4000000 in
theorem mt_X8_wordIs {w : WD} {l : Launch} {F : Nat} {l0 : Nat} {l1 : Nat} {h : HP} {v : Int32} (hs : sX8_wordIs F l0 l1 h = some v) : MI w l yX8_wordIs cX8_wordIs 3 .boolean rm_X8_wordIs 0 0 [rf w (some l0), .ref (w.aS l1)] h v h := by
  refine of_body [(0, rf w (some l0)), (1, .ref (w.aS l1))] (by decide) (by simp [lg_sl, rf_cat, cat_i, cat_l, cat_a]) (by simp [lv_args, rf_cat, cat_i, cat_l, cat_a]) ?_
  intro x hw_ hnL_ hl_ hc hret hnm hQ
  subst hw_; subst hl_
  have hnl : ∀ i, i < 3 → i < x.nL := fun i h => by rw [hnL_]; exact h
  have hw : wpO (sX8_wordIs F l0 l1 h) (fun r => r = v) := ⟨_, hs, rfl⟩
  unfold sX8_wordIs at hw
  refine R_aload_n (q := 0) (i := 0) (v := (some l0)) hc dX8_wordIs_0 rfl rfl ?_
  refine R_getI hc fl_8_22 dX8_wordIs_1 hw (fun t1 hw => ?_)
  refine R_aload_n (q := 0) (i := 0) (v := (some l0)) hc dX8_wordIs_4 rfl rfl ?_
  refine R_getI hc fl_8_25 dX8_wordIs_5 hw (fun t2 hw => ?_)
  refine R_isub hc dX8_wordIs_8 ?_
  refine R_aloadS_n (q := 1) (i := 1) (v := l1) hc dX8_wordIs_9 rfl rfl ?_
  refine R_slen hc ml_8_139 ⟨le_b rfl, le_b rfl⟩ ⟨Nat.zero_le _, Nat.zero_le _⟩ (le_b rfl) dX8_wordIs_10 hw (fun t3 hw => ?_)
  refine R_icmp_eq (tgt := 18) hc dX8_wordIs_13 (by decide) hw (fun hw => ?_) (fun hw => ?_)
  · refine R_iconst (v := (0 : Int32)) hc dX8_wordIs_18 kI_0 ?_
    refine R_istore_n (i := 2) (v := (0 : Int32)) hc [(2, .int (0 : Int32)), (0, rf x.w (some l0)), (1, .ref (x.w.aS l1))] dX8_wordIs_19 rfl (hnl 2 (le_b rfl)) rfl ?_
    refine R_sub hc [1, 2, 0] rfl ?_
    refine R_loop (P := fun (s : Int32) => Rn x 0 0 20 [(0, rf x.w (some l0)), (1, .ref (x.w.aS l1)), (2, .int s)] [] h) (fun r => match r with | .inl _ => Rn x 0 0 55 [] [] h | .inr u => u = v) hw (fun r hw => ?_) (fun X hX s hw => ?_)
    · cases r with
      | inl r =>
        revert hw
        intro hw
        show Rn x 0 0 55 [] [] h
        have hw : wpO (_) _ := hw
        refine R_iconst (v := (1 : Int32)) hc dX8_wordIs_55 kI_1 ?_
        exact R_ireturnP hc hret rfl hQ hw dX8_wordIs_56
      | inr u => exact (wpO_some hw :)
    · revert s hw
      intro l2_10 hw
      show Rn x 0 0 20 [(0, rf x.w (some l0)), (1, .ref (x.w.aS l1)), (2, .int l2_10)] [] h
      have hw : wpO (sX8_wordIs_L20 F l0 l1 l2_10 h) _ := hw
      unfold sX8_wordIs_L20 at hw
      refine R_iload_n (q := 2) (i := 2) (v := l2_10) hc dX8_wordIs_20 rfl rfl ?_
      refine R_aloadS_n (q := 1) (i := 1) (v := l1) hc dX8_wordIs_21 rfl rfl ?_
      refine R_slen hc ml_8_139 ⟨le_b rfl, le_b rfl⟩ ⟨Nat.zero_le _, Nat.zero_le _⟩ (le_b rfl) dX8_wordIs_22 hw (fun t4 hw => ?_)
      refine R_icmp_ge (tgt := 55) hc dX8_wordIs_25 (by decide) hw (fun hw => ?_) (fun hw => ?_)
      · refine R_sub hc [] rfl ?_
        exact (wpO_some hw :)
      · refine R_aload_n (q := 0) (i := 0) (v := (some l0)) hc dX8_wordIs_28 rfl rfl ?_
        refine R_getR hc fl_8_18 dX8_wordIs_29 hw (fun t5 hw => ?_)
        refine R_aload_n (q := 0) (i := 0) (v := (some l0)) hc dX8_wordIs_32 rfl rfl ?_
        refine R_getI hc fl_8_25 dX8_wordIs_33 hw (fun t6 hw => ?_)
        refine R_iload_n (q := 2) (i := 2) (v := l2_10) hc dX8_wordIs_36 rfl rfl ?_
        refine R_iadd hc dX8_wordIs_37 ?_
        refine R_baload hc dX8_wordIs_38 hw (fun t7 hw => ?_)
        refine R_aloadS_n (q := 1) (i := 1) (v := l1) hc dX8_wordIs_39 rfl rfl ?_
        refine R_iload_n (q := 2) (i := 2) (v := l2_10) hc dX8_wordIs_40 rfl rfl ?_
        refine R_sat hc ml_8_143 ⟨le_b rfl, le_b rfl⟩ ⟨Nat.zero_le _, Nat.zero_le _⟩ (le_b rfl) dX8_wordIs_41 hw (fun t8 hw => ?_)
        refine R_icmp_eq (tgt := 49) hc dX8_wordIs_44 (by decide) hw (fun hw => ?_) (fun hw => ?_)
        · refine R_iinc (q := 2) (i := 2) (v := l2_10) hc [(2, .int (l2_10 + (1 : Int32))), (0, rf x.w (some l0)), (1, .ref (x.w.aS l1))] dX8_wordIs_49 rfl (kC_1 _) (hnl 2 (le_b rfl)) rfl ?_
          refine R_goto (tgt := 20) hc dX8_wordIs_52 (by decide) ?_
          refine R_sub hc [1, 2, 0] rfl ?_
          exact hX (l2_10 + (1 : Int32)) (wpO_some hw :)
        · refine R_iconst (v := (0 : Int32)) hc dX8_wordIs_47 kI_0 ?_
          exact R_ireturnP hc hret rfl hQ ⟨_, rfl, (wpO_some hw :)⟩ dX8_wordIs_48
  · refine R_iconst (v := (0 : Int32)) hc dX8_wordIs_16 kI_0 ?_
    exact R_ireturnP hc hret rfl hQ hw dX8_wordIs_17
theorem dX8_expectWord_0 : decode cX8_expectWord 0 = .ok (.aload_n 0, 1) := by decide +kernel
theorem dX8_expectWord_1 : decode cX8_expectWord 1 = .ok (.invokevirtual 57, 3) := by decide +kernel
theorem dX8_expectWord_4 : decode cX8_expectWord 4 = .ok (.aload_n 0, 1) := by decide +kernel
theorem dX8_expectWord_5 : decode cX8_expectWord 5 = .ok (.aload_n 1, 1) := by decide +kernel
theorem dX8_expectWord_6 : decode cX8_expectWord 6 = .ok (.invokevirtual 66, 3) := by decide +kernel
theorem dX8_expectWord_9 : decode cX8_expectWord 9 = .ok (.ifCond .ne 11, 3) := by decide +kernel
theorem dX8_expectWord_12 : decode cX8_expectWord 12 = .ok (.aload_n 0, 1) := by decide +kernel
theorem dX8_expectWord_13 : decode cX8_expectWord 13 = .ok (.aload_n 0, 1) := by decide +kernel
theorem dX8_expectWord_14 : decode cX8_expectWord 14 = .ok (.getfield 25, 3) := by decide +kernel
theorem dX8_expectWord_17 : decode cX8_expectWord 17 = .ok (.invokevirtual 60, 3) := by decide +kernel
theorem dX8_expectWord_20 : decode cX8_expectWord 20 = .ok (.return_, 1) := by decide +kernel
def sX8_expectWord (F : Nat) (l0 : Nat) (l1 : Nat) (h : HP) : Option HP :=
  (dO h 8 (some l0)).bind fun a1 =>
  (sX8_readWord F a1 h).bind fun h2 =>
  (dO h2 8 (some l0)).bind fun a3 =>
  (sX8_wordIs F a3 l1 h2).bind fun t4 =>
  if ¬ t4 = 0 then
    some h2
  else
    (gI h2 8 (some l0) 4).bind fun t5 =>
    (dO h2 8 (some l0)).bind fun a6 =>
    (sX8_fail F a6 t5 h2).bind fun h7 =>
    some h7
abbrev rm_X8_expectWord : Room := { frames := 5, cells := 0, slots := 0, locals := 107 }
set_option maxRecDepth 100000 in
set_option maxHeartbeats 4000000 in
theorem mt_X8_expectWord {w : WD} {l : Launch} {F : Nat} {l0 : Nat} {l1 : Nat} {h : HP} {h' : HP} (hs : sX8_expectWord F l0 l1 h = some h') : MV w l yX8_expectWord cX8_expectWord 2 rm_X8_expectWord 0 0 [rf w (some l0), .ref (w.aS l1)] h h' := by
  refine of_body [(0, rf w (some l0)), (1, .ref (w.aS l1))] (by decide) (by simp [lg_sl, rf_cat, cat_i, cat_l, cat_a]) (by simp [lv_args, rf_cat, cat_i, cat_l, cat_a]) ?_
  intro x hw_ hnL_ hl_ hc hret hnm hQ
  subst hw_; subst hl_
  have hnl : ∀ i, i < 2 → i < x.nL := fun i h => by rw [hnL_]; exact h
  have hw : wpO (sX8_expectWord F l0 l1 h) (fun r => r = h') := ⟨_, hs, rfl⟩
  unfold sX8_expectWord at hw
  refine R_aload_n (q := 0) (i := 0) (v := (some l0)) hc dX8_expectWord_0 rfl rfl ?_
  refine R_cVVi (As := []) (rest := []) (r := (some l0)) (ci := 8) hc ml_8_57 mf_X8_readWord rfl (by decide) ⟨rfl, rfl⟩ ⟨le_b rfl, le_b rfl⟩ ⟨Nat.zero_le _, Nat.zero_le _⟩ (fun a h' e => mt_X8_readWord e) rfl rfl (Nat.zero_le _) dX8_expectWord_1 hw (fun h2 hw => ?_)
  refine R_aload_n (q := 0) (i := 0) (v := (some l0)) hc dX8_expectWord_4 rfl rfl ?_
  refine R_aloadS_n (q := 1) (i := 1) (v := l1) hc dX8_expectWord_5 rfl rfl ?_
  refine R_cVI (As := [.ref (x.w.aS l1)]) (rest := []) (r := (some l0)) (ci := 8) hc ml_8_66 mf_X8_wordIs rfl (by decide) ⟨rfl, rfl⟩ ⟨le_b rfl, le_b rfl⟩ ⟨Nat.zero_le _, Nat.zero_le _⟩ (fun a v e => mt_X8_wordIs e) rfl rfl (Nat.zero_le _) dX8_expectWord_6 hw (fun t4 hw => ?_)
  refine R_if_ne (tgt := 20) hc dX8_expectWord_9 (by decide) hw (fun hw => ?_) (fun hw => ?_)
  · exact R_return hc hret hQ hw dX8_expectWord_20
  · refine R_aload_n (q := 0) (i := 0) (v := (some l0)) hc dX8_expectWord_12 rfl rfl ?_
    refine R_aload_n (q := 0) (i := 0) (v := (some l0)) hc dX8_expectWord_13 rfl rfl ?_
    refine R_getI hc fl_8_25 dX8_expectWord_14 hw (fun t5 hw => ?_)
    refine R_cVVi (As := [.int t5]) (rest := []) (r := (some l0)) (ci := 8) hc ml_8_60 mf_X8_fail rfl (by decide) ⟨rfl, rfl⟩ ⟨le_b rfl, le_b rfl⟩ ⟨Nat.zero_le _, Nat.zero_le _⟩ (fun a h' e => mt_X8_fail e) rfl rfl (Nat.zero_le _) dX8_expectWord_17 hw (fun h7 hw => ?_)
    exact R_return hc hret hQ hw dX8_expectWord_20
theorem dX8_readNumber_0 : decode cX8_readNumber 0 = .ok (.aload_n 0, 1) := by decide +kernel
theorem dX8_readNumber_1 : decode cX8_readNumber 1 = .ok (.invokevirtual 133, 3) := by decide +kernel
theorem dX8_readNumber_4 : decode cX8_readNumber 4 = .ok (.iconst 0, 1) := by decide +kernel
theorem dX8_readNumber_5 : decode cX8_readNumber 5 = .ok (.istore_n 3, 1) := by decide +kernel
theorem dX8_readNumber_6 : decode cX8_readNumber 6 = .ok (.iconst 0, 1) := by decide +kernel
theorem dX8_readNumber_7 : decode cX8_readNumber 7 = .ok (.istore 4, 2) := by decide +kernel
theorem dX8_readNumber_9 : decode cX8_readNumber 9 = .ok (.aload_n 0, 1) := by decide +kernel
theorem dX8_readNumber_10 : decode cX8_readNumber 10 = .ok (.getfield 15, 3) := by decide +kernel
theorem dX8_readNumber_13 : decode cX8_readNumber 13 = .ok (.iconst (-1), 1) := by decide +kernel
theorem dX8_readNumber_14 : decode cX8_readNumber 14 = .ok (.if_icmp .ne 86, 3) := by decide +kernel
theorem dX8_readNumber_17 : decode cX8_readNumber 17 = .ok (.aload_n 0, 1) := by decide +kernel
theorem dX8_readNumber_18 : decode cX8_readNumber 18 = .ok (.getfield 22, 3) := by decide +kernel
theorem dX8_readNumber_21 : decode cX8_readNumber 21 = .ok (.aload_n 0, 1) := by decide +kernel
theorem dX8_readNumber_22 : decode cX8_readNumber 22 = .ok (.getfield 9, 3) := by decide +kernel
theorem dX8_readNumber_25 : decode cX8_readNumber 25 = .ok (.if_icmp .ge 75, 3) := by decide +kernel
theorem dX8_readNumber_28 : decode cX8_readNumber 28 = .ok (.aload_n 0, 1) := by decide +kernel
theorem dX8_readNumber_29 : decode cX8_readNumber 29 = .ok (.getfield 18, 3) := by decide +kernel
theorem dX8_readNumber_32 : decode cX8_readNumber 32 = .ok (.aload_n 0, 1) := by decide +kernel
theorem dX8_readNumber_33 : decode cX8_readNumber 33 = .ok (.getfield 22, 3) := by decide +kernel
theorem dX8_readNumber_36 : decode cX8_readNumber 36 = .ok (.baload, 1) := by decide +kernel
theorem dX8_readNumber_37 : decode cX8_readNumber 37 = .ok (.bipush 48, 2) := by decide +kernel
theorem dX8_readNumber_39 : decode cX8_readNumber 39 = .ok (.if_icmp .lt 61, 3) := by decide +kernel
theorem dX8_readNumber_42 : decode cX8_readNumber 42 = .ok (.aload_n 0, 1) := by decide +kernel
theorem dX8_readNumber_43 : decode cX8_readNumber 43 = .ok (.getfield 18, 3) := by decide +kernel
theorem dX8_readNumber_46 : decode cX8_readNumber 46 = .ok (.aload_n 0, 1) := by decide +kernel
theorem dX8_readNumber_47 : decode cX8_readNumber 47 = .ok (.getfield 22, 3) := by decide +kernel
theorem dX8_readNumber_50 : decode cX8_readNumber 50 = .ok (.baload, 1) := by decide +kernel
theorem dX8_readNumber_51 : decode cX8_readNumber 51 = .ok (.bipush 57, 2) := by decide +kernel
theorem dX8_readNumber_53 : decode cX8_readNumber 53 = .ok (.if_icmp .gt 47, 3) := by decide +kernel
theorem dX8_readNumber_56 : decode cX8_readNumber 56 = .ok (.iload 4, 2) := by decide +kernel
theorem dX8_readNumber_58 : decode cX8_readNumber 58 = .ok (.iconst 2, 1) := by decide +kernel
theorem dX8_readNumber_59 : decode cX8_readNumber 59 = .ok (.if_icmp .ge 23, 3) := by decide +kernel
theorem dX8_readNumber_62 : decode cX8_readNumber 62 = .ok (.iload_n 3, 1) := by decide +kernel
theorem dX8_readNumber_63 : decode cX8_readNumber 63 = .ok (.bipush 10, 2) := by decide +kernel
theorem dX8_readNumber_65 : decode cX8_readNumber 65 = .ok (.imul, 1) := by decide +kernel
theorem dX8_readNumber_66 : decode cX8_readNumber 66 = .ok (.aload_n 0, 1) := by decide +kernel
theorem dX8_readNumber_67 : decode cX8_readNumber 67 = .ok (.getfield 18, 3) := by decide +kernel
theorem dX8_readNumber_70 : decode cX8_readNumber 70 = .ok (.aload_n 0, 1) := by decide +kernel
theorem dX8_readNumber_71 : decode cX8_readNumber 71 = .ok (.getfield 22, 3) := by decide +kernel
theorem dX8_readNumber_74 : decode cX8_readNumber 74 = .ok (.baload, 1) := by decide +kernel
theorem dX8_readNumber_75 : decode cX8_readNumber 75 = .ok (.iadd, 1) := by decide +kernel
theorem dX8_readNumber_76 : decode cX8_readNumber 76 = .ok (.bipush 48, 2) := by decide +kernel
theorem dX8_readNumber_78 : decode cX8_readNumber 78 = .ok (.isub, 1) := by decide +kernel
theorem dX8_readNumber_79 : decode cX8_readNumber 79 = .ok (.goto 4, 3) := by decide +kernel
theorem dX8_readNumber_82 : decode cX8_readNumber 82 = .ok (.iload_n 3, 1) := by decide +kernel
theorem dX8_readNumber_83 : decode cX8_readNumber 83 = .ok (.istore_n 3, 1) := by decide +kernel
theorem dX8_readNumber_84 : decode cX8_readNumber 84 = .ok (.iinc 4 1, 3) := by decide +kernel
theorem dX8_readNumber_87 : decode cX8_readNumber 87 = .ok (.aload_n 0, 1) := by decide +kernel
theorem dX8_readNumber_88 : decode cX8_readNumber 88 = .ok (.dup, 1) := by decide +kernel
theorem dX8_readNumber_89 : decode cX8_readNumber 89 = .ok (.getfield 22, 3) := by decide +kernel
theorem dX8_readNumber_92 : decode cX8_readNumber 92 = .ok (.iconst 1, 1) := by decide +kernel
theorem dX8_readNumber_93 : decode cX8_readNumber 93 = .ok (.iadd, 1) := by decide +kernel
theorem dX8_readNumber_94 : decode cX8_readNumber 94 = .ok (.putfield 22, 3) := by decide +kernel
theorem dX8_readNumber_97 : decode cX8_readNumber 97 = .ok (.goto (-88), 3) := by decide +kernel
theorem dX8_readNumber_100 : decode cX8_readNumber 100 = .ok (.iload 4, 2) := by decide +kernel
theorem dX8_readNumber_102 : decode cX8_readNumber 102 = .ok (.iconst 1, 1) := by decide +kernel
theorem dX8_readNumber_103 : decode cX8_readNumber 103 = .ok (.if_icmp .lt 19, 3) := by decide +kernel
theorem dX8_readNumber_106 : decode cX8_readNumber 106 = .ok (.iload 4, 2) := by decide +kernel
theorem dX8_readNumber_108 : decode cX8_readNumber 108 = .ok (.iconst 2, 1) := by decide +kernel
theorem dX8_readNumber_109 : decode cX8_readNumber 109 = .ok (.if_icmp .gt 13, 3) := by decide +kernel
theorem dX8_readNumber_112 : decode cX8_readNumber 112 = .ok (.iload_n 3, 1) := by decide +kernel
theorem dX8_readNumber_113 : decode cX8_readNumber 113 = .ok (.iload_n 1, 1) := by decide +kernel
theorem dX8_readNumber_114 : decode cX8_readNumber 114 = .ok (.if_icmp .lt 8, 3) := by decide +kernel
theorem dX8_readNumber_117 : decode cX8_readNumber 117 = .ok (.iload_n 3, 1) := by decide +kernel
theorem dX8_readNumber_118 : decode cX8_readNumber 118 = .ok (.iload_n 2, 1) := by decide +kernel
theorem dX8_readNumber_119 : decode cX8_readNumber 119 = .ok (.if_icmp .le 13, 3) := by decide +kernel
theorem dX8_readNumber_122 : decode cX8_readNumber 122 = .ok (.aload_n 0, 1) := by decide +kernel
theorem dX8_readNumber_123 : decode cX8_readNumber 123 = .ok (.aload_n 0, 1) := by decide +kernel
theorem dX8_readNumber_124 : decode cX8_readNumber 124 = .ok (.getfield 25, 3) := by decide +kernel
theorem dX8_readNumber_127 : decode cX8_readNumber 127 = .ok (.invokevirtual 60, 3) := by decide +kernel
theorem dX8_readNumber_130 : decode cX8_readNumber 130 = .ok (.iconst 0, 1) := by decide +kernel
theorem dX8_readNumber_131 : decode cX8_readNumber 131 = .ok (.ireturn, 1) := by decide +kernel
theorem dX8_readNumber_132 : decode cX8_readNumber 132 = .ok (.iload_n 3, 1) := by decide +kernel
theorem dX8_readNumber_133 : decode cX8_readNumber 133 = .ok (.ireturn, 1) := by decide +kernel
def sX8_readNumber_L9 (F : Nat) (l0 : Nat) (l1 : Int32) (l2 : Int32) (l3 : Int32) (l4 : Int32) (h : HP) : Option ((Int32 × Int32 × HP) ⊕ (Int32 × Int32 × HP)) :=
  (gI h 8 (some l0) 1).bind fun t3 =>
  if ¬ t3 = (-1 : Int32) then
    some (.inr (l3, l4, h))
  else
    (gI h 8 (some l0) 3).bind fun t4 =>
    (gI h 8 (some l0) 0).bind fun t5 =>
    if t5 ≤ t4 then
      some (.inr (l3, l4, h))
    else
      (gR h 8 (some l0) 2).bind fun t6 =>
      (gI h 8 (some l0) 3).bind fun t7 =>
      (aI h 12 t6 t7).bind fun t8 =>
      if t8 < (48 : Int32) then
        some (.inr (l3, l4, h))
      else
        (gR h 8 (some l0) 2).bind fun t9 =>
        (gI h 8 (some l0) 3).bind fun t10 =>
        (aI h 12 t9 t10).bind fun t11 =>
        if (57 : Int32) < t11 then
          some (.inr (l3, l4, h))
        else
          (if (2 : Int32) ≤ l4 then
              some l3
            else
              (gR h 8 (some l0) 2).bind fun t13 =>
              (gI h 8 (some l0) 3).bind fun t14 =>
              (aI h 12 t13 t14).bind fun t15 =>
              some (((l3 * (10 : Int32)) + t15) - (48 : Int32))).bind fun s12 =>
          (gI h 8 (some l0) 3).bind fun t16 =>
          (pI h 8 (some l0) 3 (t16 + (1 : Int32))).bind fun h17 =>
          some (.inl (s12, l4 + (1 : Int32), h17))
def sX8_readNumber (F : Nat) (l0 : Nat) (l1 : Int32) (l2 : Int32) (h : HP) : Option (Int32 × HP) :=
  (dO h 8 (some l0)).bind fun a1 =>
  (sX8_skipBlanks F a1 h).bind fun h2 =>
  (iter (fun s => sX8_readNumber_L9 F l0 l1 l2 s.1 s.2.1 s.2.2) F ((0 : Int32), (0 : Int32), h2)).bind fun r => match r with
  | (l3_18, l4_19, h20) =>
    if l4_19 < (1 : Int32) then
      (gI h20 8 (some l0) 4).bind fun t21 =>
      (dO h20 8 (some l0)).bind fun a22 =>
      (sX8_fail F a22 t21 h20).bind fun h23 =>
      some ((0 : Int32), h23)
    else
      if (2 : Int32) < l4_19 then
        (gI h20 8 (some l0) 4).bind fun t24 =>
        (dO h20 8 (some l0)).bind fun a25 =>
        (sX8_fail F a25 t24 h20).bind fun h26 =>
        some ((0 : Int32), h26)
      else
        if l3_18 < l1 then
          (gI h20 8 (some l0) 4).bind fun t27 =>
          (dO h20 8 (some l0)).bind fun a28 =>
          (sX8_fail F a28 t27 h20).bind fun h29 =>
          some ((0 : Int32), h29)
        else
          if l3_18 ≤ l2 then
            some (l3_18, h20)
          else
            (gI h20 8 (some l0) 4).bind fun t30 =>
            (dO h20 8 (some l0)).bind fun a31 =>
            (sX8_fail F a31 t30 h20).bind fun h32 =>
            some ((0 : Int32), h32)
abbrev rm_X8_readNumber : Room := { frames := 1, cells := 0, slots := 0, locals := 21 }
set_option maxRecDepth 100000 in
set_option maxHeartbeats 4000000 in
theorem mt_X8_readNumber {w : WD} {l : Launch} {F : Nat} {l0 : Nat} {l1 : Int32} {l2 : Int32} {h : HP} {v : Int32} {h' : HP} (hs : sX8_readNumber F l0 l1 l2 h = some (v, h')) : MI w l yX8_readNumber cX8_readNumber 5 .int rm_X8_readNumber 0 0 [rf w (some l0), .int l1, .int l2] h v h' := by
  refine of_body [(0, rf w (some l0)), (1, .int l1), (2, .int l2)] (by decide) (by simp [lg_sl, rf_cat, cat_i, cat_l, cat_a]) (by simp [lv_args, rf_cat, cat_i, cat_l, cat_a]) ?_
  intro x hw_ hnL_ hl_ hc hret hnm hQ
  subst hw_; subst hl_
  have hnl : ∀ i, i < 5 → i < x.nL := fun i h => by rw [hnL_]; exact h
  have hw : wpO (sX8_readNumber F l0 l1 l2 h) (fun r => r = (v, h')) := ⟨_, hs, rfl⟩
  unfold sX8_readNumber at hw
  refine R_aload_n (q := 0) (i := 0) (v := (some l0)) hc dX8_readNumber_0 rfl rfl ?_
  refine R_cVVi (As := []) (rest := []) (r := (some l0)) (ci := 8) hc ml_8_133 mf_X8_skipBlanks rfl (by decide) ⟨rfl, rfl⟩ ⟨le_b rfl, le_b rfl⟩ ⟨Nat.zero_le _, Nat.zero_le _⟩ (fun a h' e => mt_X8_skipBlanks e) rfl rfl (Nat.zero_le _) dX8_readNumber_1 hw (fun h2 hw => ?_)
  refine R_iconst (v := (0 : Int32)) hc dX8_readNumber_4 kI_0 ?_
  refine R_istore_n (i := 3) (v := (0 : Int32)) hc [(3, .int (0 : Int32)), (0, rf x.w (some l0)), (1, .int l1), (2, .int l2)] dX8_readNumber_5 rfl (hnl 3 (le_b rfl)) rfl ?_
  refine R_iconst (v := (0 : Int32)) hc dX8_readNumber_6 kI_0 ?_
  refine R_istore (i := 4) (v := (0 : Int32)) hc [(4, .int (0 : Int32)), (3, .int (0 : Int32)), (0, rf x.w (some l0)), (1, .int l1), (2, .int l2)] dX8_readNumber_7 (hnl 4 (le_b rfl)) rfl ?_
  refine R_sub hc [2, 3, 4, 1, 0] rfl ?_
  refine R_loop (P := fun (s : (Int32 × Int32 × HP)) => Rn x 0 0 9 [(0, rf x.w (some l0)), (1, .int l1), (2, .int l2), (3, .int s.1), (4, .int s.2.1)] [] s.2.2) (fun r => match r with | (l3_18, l4_19, h20) => Rn x 0 0 100 [(0, rf x.w (some l0)), (1, .int l1), (2, .int l2), (3, .int l3_18), (4, .int l4_19)] [] h20) hw (fun r hw => ?_) (fun X hX s hw => ?_)
  · obtain ⟨l3_18, l4_19, h20⟩ := r
    show Rn x 0 0 100 [(0, rf x.w (some l0)), (1, .int l1), (2, .int l2), (3, .int l3_18), (4, .int l4_19)] [] h20
    refine R_iload (q := 4) (i := 4) (v := l4_19) hc dX8_readNumber_100 rfl ?_
    refine R_iconst (v := (1 : Int32)) hc dX8_readNumber_102 kI_1 ?_
    refine R_icmp_lt (tgt := 122) hc dX8_readNumber_103 (by decide) hw (fun hw => ?_) (fun hw => ?_)
    · refine R_aload_n (q := 0) (i := 0) (v := (some l0)) hc dX8_readNumber_122 rfl rfl ?_
      refine R_aload_n (q := 0) (i := 0) (v := (some l0)) hc dX8_readNumber_123 rfl rfl ?_
      refine R_getI hc fl_8_25 dX8_readNumber_124 hw (fun t21 hw => ?_)
      refine R_cVVi (As := [.int t21]) (rest := []) (r := (some l0)) (ci := 8) hc ml_8_60 mf_X8_fail rfl (by decide) ⟨rfl, rfl⟩ ⟨le_b rfl, le_b rfl⟩ ⟨Nat.zero_le _, Nat.zero_le _⟩ (fun a h' e => mt_X8_fail e) rfl rfl (Nat.zero_le _) dX8_readNumber_127 hw (fun h23 hw => ?_)
      refine R_iconst (v := (0 : Int32)) hc dX8_readNumber_130 kI_0 ?_
      exact R_ireturn hc hret rfl hQ hw dX8_readNumber_131
    · refine R_iload (q := 4) (i := 4) (v := l4_19) hc dX8_readNumber_106 rfl ?_
      refine R_iconst (v := (2 : Int32)) hc dX8_readNumber_108 kI_2 ?_
      refine R_icmp_gt (tgt := 122) hc dX8_readNumber_109 (by decide) hw (fun hw => ?_) (fun hw => ?_)
      · refine R_aload_n (q := 0) (i := 0) (v := (some l0)) hc dX8_readNumber_122 rfl rfl ?_
        refine R_aload_n (q := 0) (i := 0) (v := (some l0)) hc dX8_readNumber_123 rfl rfl ?_
        refine R_getI hc fl_8_25 dX8_readNumber_124 hw (fun t24 hw => ?_)
        refine R_cVVi (As := [.int t24]) (rest := []) (r := (some l0)) (ci := 8) hc ml_8_60 mf_X8_fail rfl (by decide) ⟨rfl, rfl⟩ ⟨le_b rfl, le_b rfl⟩ ⟨Nat.zero_le _, Nat.zero_le _⟩ (fun a h' e => mt_X8_fail e) rfl rfl (Nat.zero_le _) dX8_readNumber_127 hw (fun h26 hw => ?_)
        refine R_iconst (v := (0 : Int32)) hc dX8_readNumber_130 kI_0 ?_
        exact R_ireturn hc hret rfl hQ hw dX8_readNumber_131
      · refine R_iload_n (q := 3) (i := 3) (v := l3_18) hc dX8_readNumber_112 rfl rfl ?_
        refine R_iload_n (q := 1) (i := 1) (v := l1) hc dX8_readNumber_113 rfl rfl ?_
        refine R_icmp_lt (tgt := 122) hc dX8_readNumber_114 (by decide) hw (fun hw => ?_) (fun hw => ?_)
        · refine R_aload_n (q := 0) (i := 0) (v := (some l0)) hc dX8_readNumber_122 rfl rfl ?_
          refine R_aload_n (q := 0) (i := 0) (v := (some l0)) hc dX8_readNumber_123 rfl rfl ?_
          refine R_getI hc fl_8_25 dX8_readNumber_124 hw (fun t27 hw => ?_)
          refine R_cVVi (As := [.int t27]) (rest := []) (r := (some l0)) (ci := 8) hc ml_8_60 mf_X8_fail rfl (by decide) ⟨rfl, rfl⟩ ⟨le_b rfl, le_b rfl⟩ ⟨Nat.zero_le _, Nat.zero_le _⟩ (fun a h' e => mt_X8_fail e) rfl rfl (Nat.zero_le _) dX8_readNumber_127 hw (fun h29 hw => ?_)
          refine R_iconst (v := (0 : Int32)) hc dX8_readNumber_130 kI_0 ?_
          exact R_ireturn hc hret rfl hQ hw dX8_readNumber_131
        · refine R_iload_n (q := 3) (i := 3) (v := l3_18) hc dX8_readNumber_117 rfl rfl ?_
          refine R_iload_n (q := 2) (i := 2) (v := l2) hc dX8_readNumber_118 rfl rfl ?_
          refine R_icmp_le (tgt := 132) hc dX8_readNumber_119 (by decide) hw (fun hw => ?_) (fun hw => ?_)
          · refine R_iload_n (q := 3) (i := 3) (v := l3_18) hc dX8_readNumber_132 rfl rfl ?_
            exact R_ireturn hc hret rfl hQ hw dX8_readNumber_133
          · refine R_aload_n (q := 0) (i := 0) (v := (some l0)) hc dX8_readNumber_122 rfl rfl ?_
            refine R_aload_n (q := 0) (i := 0) (v := (some l0)) hc dX8_readNumber_123 rfl rfl ?_
            refine R_getI hc fl_8_25 dX8_readNumber_124 hw (fun t30 hw => ?_)
            refine R_cVVi (As := [.int t30]) (rest := []) (r := (some l0)) (ci := 8) hc ml_8_60 mf_X8_fail rfl (by decide) ⟨rfl, rfl⟩ ⟨le_b rfl, le_b rfl⟩ ⟨Nat.zero_le _, Nat.zero_le _⟩ (fun a h' e => mt_X8_fail e) rfl rfl (Nat.zero_le _) dX8_readNumber_127 hw (fun h32 hw => ?_)
            refine R_iconst (v := (0 : Int32)) hc dX8_readNumber_130 kI_0 ?_
            exact R_ireturn hc hret rfl hQ hw dX8_readNumber_131
  · obtain ⟨l3_34, l4_35, h36⟩ := s
    show Rn x 0 0 9 [(0, rf x.w (some l0)), (1, .int l1), (2, .int l2), (3, .int l3_34), (4, .int l4_35)] [] h36
    have hw : wpO (sX8_readNumber_L9 F l0 l1 l2 l3_34 l4_35 h36) _ := hw
    unfold sX8_readNumber_L9 at hw
    refine R_aload_n (q := 0) (i := 0) (v := (some l0)) hc dX8_readNumber_9 rfl rfl ?_
    refine R_getI hc fl_8_15 dX8_readNumber_10 hw (fun t3 hw => ?_)
    refine R_iconst (v := (-1 : Int32)) hc dX8_readNumber_13 kI_m1 ?_
    refine R_icmp_ne (tgt := 100) hc dX8_readNumber_14 (by decide) hw (fun hw => ?_) (fun hw => ?_)
    · refine R_sub hc [0, 1, 2, 3, 4] rfl ?_
      exact (wpO_some hw :)
    · refine R_aload_n (q := 0) (i := 0) (v := (some l0)) hc dX8_readNumber_17 rfl rfl ?_
      refine R_getI hc fl_8_22 dX8_readNumber_18 hw (fun t4 hw => ?_)
      refine R_aload_n (q := 0) (i := 0) (v := (some l0)) hc dX8_readNumber_21 rfl rfl ?_
      refine R_getI hc fl_8_9 dX8_readNumber_22 hw (fun t5 hw => ?_)
      refine R_icmp_ge (tgt := 100) hc dX8_readNumber_25 (by decide) hw (fun hw => ?_) (fun hw => ?_)
      · refine R_sub hc [0, 1, 2, 3, 4] rfl ?_
        exact (wpO_some hw :)
      · refine R_aload_n (q := 0) (i := 0) (v := (some l0)) hc dX8_readNumber_28 rfl rfl ?_
        refine R_getR hc fl_8_18 dX8_readNumber_29 hw (fun t6 hw => ?_)
        refine R_aload_n (q := 0) (i := 0) (v := (some l0)) hc dX8_readNumber_32 rfl rfl ?_
        refine R_getI hc fl_8_22 dX8_readNumber_33 hw (fun t7 hw => ?_)
        refine R_baload hc dX8_readNumber_36 hw (fun t8 hw => ?_)
        refine R_bipush (v := (48 : Int32)) hc dX8_readNumber_37 kB_48 ?_
        refine R_icmp_lt (tgt := 100) hc dX8_readNumber_39 (by decide) hw (fun hw => ?_) (fun hw => ?_)
        · refine R_sub hc [0, 1, 2, 3, 4] rfl ?_
          exact (wpO_some hw :)
        · refine R_aload_n (q := 0) (i := 0) (v := (some l0)) hc dX8_readNumber_42 rfl rfl ?_
          refine R_getR hc fl_8_18 dX8_readNumber_43 hw (fun t9 hw => ?_)
          refine R_aload_n (q := 0) (i := 0) (v := (some l0)) hc dX8_readNumber_46 rfl rfl ?_
          refine R_getI hc fl_8_22 dX8_readNumber_47 hw (fun t10 hw => ?_)
          refine R_baload hc dX8_readNumber_50 hw (fun t11 hw => ?_)
          refine R_bipush (v := (57 : Int32)) hc dX8_readNumber_51 kB_57 ?_
          refine R_icmp_gt (tgt := 100) hc dX8_readNumber_53 (by decide) hw (fun hw => ?_) (fun hw => ?_)
          · refine R_sub hc [0, 1, 2, 3, 4] rfl ?_
            exact (wpO_some hw :)
          · refine R_iload (q := 4) (i := 4) (v := l4_35) hc dX8_readNumber_56 rfl ?_
            refine R_iconst (v := (2 : Int32)) hc dX8_readNumber_58 kI_2 ?_
            refine R_join (fun (s12 : Int32) => Rn x 0 0 83 [(0, rf x.w (some l0)), (1, .int l1), (2, .int l2), (4, .int l4_35)] [.int s12] h36) hw (fun r hw => ?_) (fun hw => ?_)
            · revert r hw
              intro s12 hw
              show Rn x 0 0 83 [(0, rf x.w (some l0)), (1, .int l1), (2, .int l2), (4, .int l4_35)] [.int s12] h36
              refine R_istore_n (i := 3) (v := s12) hc [(3, .int s12), (0, rf x.w (some l0)), (1, .int l1), (2, .int l2), (4, .int l4_35)] dX8_readNumber_83 rfl (hnl 3 (le_b rfl)) rfl ?_
              refine R_iinc (q := 4) (i := 4) (v := l4_35) hc [(4, .int (l4_35 + (1 : Int32))), (3, .int s12), (0, rf x.w (some l0)), (1, .int l1), (2, .int l2)] dX8_readNumber_84 rfl (kC_1 _) (hnl 4 (le_b rfl)) rfl ?_
              refine R_aload_n (q := 2) (i := 0) (v := (some l0)) hc dX8_readNumber_87 rfl rfl ?_
              refine R_dup hc dX8_readNumber_88 (rf_cat _ _) ?_
              refine R_getI hc fl_8_22 dX8_readNumber_89 hw (fun t16 hw => ?_)
              refine R_iconst (v := (1 : Int32)) hc dX8_readNumber_92 kI_1 ?_
              refine R_iadd hc dX8_readNumber_93 ?_
              refine R_putI hc pl_8_22 rfl rfl dX8_readNumber_94 hw (fun h17 hw => ?_)
              refine R_goto (tgt := 9) hc dX8_readNumber_97 (by decide) ?_
              refine R_sub hc [2, 3, 4, 1, 0] rfl ?_
              exact hX (s12, l4_35 + (1 : Int32), h17) (wpO_some hw :)
            · refine R_icmp_ge (tgt := 82) hc dX8_readNumber_59 (by decide) hw (fun hw => ?_) (fun hw => ?_)
              · refine R_iload_n (q := 3) (i := 3) (v := l3_34) hc dX8_readNumber_82 rfl rfl ?_
                refine R_sub hc [0, 1, 2, 4] rfl ?_
                exact (wpO_some hw :)
              · refine R_iload_n (q := 3) (i := 3) (v := l3_34) hc dX8_readNumber_62 rfl rfl ?_
                refine R_bipush (v := (10 : Int32)) hc dX8_readNumber_63 kB_10 ?_
                refine R_imul hc dX8_readNumber_65 ?_
                refine R_aload_n (q := 0) (i := 0) (v := (some l0)) hc dX8_readNumber_66 rfl rfl ?_
                refine R_getR hc fl_8_18 dX8_readNumber_67 hw (fun t13 hw => ?_)
                refine R_aload_n (q := 0) (i := 0) (v := (some l0)) hc dX8_readNumber_70 rfl rfl ?_
                refine R_getI hc fl_8_22 dX8_readNumber_71 hw (fun t14 hw => ?_)
                refine R_baload hc dX8_readNumber_74 hw (fun t15 hw => ?_)
                refine R_iadd hc dX8_readNumber_75 ?_
                refine R_bipush (v := (48 : Int32)) hc dX8_readNumber_76 kB_48 ?_
                refine R_isub hc dX8_readNumber_78 ?_
                refine R_goto (tgt := 83) hc dX8_readNumber_79 (by decide) ?_
                refine R_sub hc [0, 1, 2, 4] rfl ?_
                exact (wpO_some hw :)
theorem dX8_anotherLine_0 : decode cX8_anotherLine 0 = .ok (.aload_n 0, 1) := by decide +kernel
theorem dX8_anotherLine_1 : decode cX8_anotherLine 1 = .ok (.invokevirtual 133, 3) := by decide +kernel
theorem dX8_anotherLine_4 : decode cX8_anotherLine 4 = .ok (.aload_n 0, 1) := by decide +kernel
theorem dX8_anotherLine_5 : decode cX8_anotherLine 5 = .ok (.getfield 15, 3) := by decide +kernel
theorem dX8_anotherLine_8 : decode cX8_anotherLine 8 = .ok (.iconst (-1), 1) := by decide +kernel
theorem dX8_anotherLine_9 : decode cX8_anotherLine 9 = .ok (.if_icmp .ne 14, 3) := by decide +kernel
theorem dX8_anotherLine_12 : decode cX8_anotherLine 12 = .ok (.aload_n 0, 1) := by decide +kernel
theorem dX8_anotherLine_13 : decode cX8_anotherLine 13 = .ok (.getfield 22, 3) := by decide +kernel
theorem dX8_anotherLine_16 : decode cX8_anotherLine 16 = .ok (.aload_n 0, 1) := by decide +kernel
theorem dX8_anotherLine_17 : decode cX8_anotherLine 17 = .ok (.getfield 9, 3) := by decide +kernel
theorem dX8_anotherLine_20 : decode cX8_anotherLine 20 = .ok (.if_icmp .lt 5, 3) := by decide +kernel
theorem dX8_anotherLine_23 : decode cX8_anotherLine 23 = .ok (.iconst 0, 1) := by decide +kernel
theorem dX8_anotherLine_24 : decode cX8_anotherLine 24 = .ok (.ireturn, 1) := by decide +kernel
theorem dX8_anotherLine_25 : decode cX8_anotherLine 25 = .ok (.aload_n 0, 1) := by decide +kernel
theorem dX8_anotherLine_26 : decode cX8_anotherLine 26 = .ok (.getfield 18, 3) := by decide +kernel
theorem dX8_anotherLine_29 : decode cX8_anotherLine 29 = .ok (.aload_n 0, 1) := by decide +kernel
theorem dX8_anotherLine_30 : decode cX8_anotherLine 30 = .ok (.getfield 22, 3) := by decide +kernel
theorem dX8_anotherLine_33 : decode cX8_anotherLine 33 = .ok (.baload, 1) := by decide +kernel
theorem dX8_anotherLine_34 : decode cX8_anotherLine 34 = .ok (.bipush 59, 2) := by decide +kernel
theorem dX8_anotherLine_36 : decode cX8_anotherLine 36 = .ok (.if_icmp .eq 13, 3) := by decide +kernel
theorem dX8_anotherLine_39 : decode cX8_anotherLine 39 = .ok (.aload_n 0, 1) := by decide +kernel
theorem dX8_anotherLine_40 : decode cX8_anotherLine 40 = .ok (.aload_n 0, 1) := by decide +kernel
theorem dX8_anotherLine_41 : decode cX8_anotherLine 41 = .ok (.getfield 22, 3) := by decide +kernel
theorem dX8_anotherLine_44 : decode cX8_anotherLine 44 = .ok (.invokevirtual 60, 3) := by decide +kernel
theorem dX8_anotherLine_47 : decode cX8_anotherLine 47 = .ok (.iconst 0, 1) := by decide +kernel
theorem dX8_anotherLine_48 : decode cX8_anotherLine 48 = .ok (.ireturn, 1) := by decide +kernel
theorem dX8_anotherLine_49 : decode cX8_anotherLine 49 = .ok (.aload_n 0, 1) := by decide +kernel
theorem dX8_anotherLine_50 : decode cX8_anotherLine 50 = .ok (.dup, 1) := by decide +kernel
theorem dX8_anotherLine_51 : decode cX8_anotherLine 51 = .ok (.getfield 22, 3) := by decide +kernel
theorem dX8_anotherLine_54 : decode cX8_anotherLine 54 = .ok (.iconst 1, 1) := by decide +kernel
theorem dX8_anotherLine_55 : decode cX8_anotherLine 55 = .ok (.iadd, 1) := by decide +kernel
theorem dX8_anotherLine_56 : decode cX8_anotherLine 56 = .ok (.putfield 22, 3) := by decide +kernel
theorem dX8_anotherLine_59 : decode cX8_anotherLine 59 = .ok (.iconst 1, 1) := by decide +kernel
theorem dX8_anotherLine_60 : decode cX8_anotherLine 60 = .ok (.ireturn, 1) := by decide +kernel
def sX8_anotherLine (F : Nat) (l0 : Nat) (h : HP) : Option (Int32 × HP) :=
  (dO h 8 (some l0)).bind fun a1 =>
  (sX8_skipBlanks F a1 h).bind fun h2 =>
  (gI h2 8 (some l0) 1).bind fun t3 =>
  if ¬ t3 = (-1 : Int32) then
    some ((0 : Int32), h2)
  else
    (gI h2 8 (some l0) 3).bind fun t4 =>
    (gI h2 8 (some l0) 0).bind fun t5 =>
    if t4 < t5 then
      (gR h2 8 (some l0) 2).bind fun t6 =>
      (gI h2 8 (some l0) 3).bind fun t7 =>
      (aI h2 12 t6 t7).bind fun t8 =>
      if t8 = (59 : Int32) then
        (gI h2 8 (some l0) 3).bind fun t9 =>
        (pI h2 8 (some l0) 3 (t9 + (1 : Int32))).bind fun h10 =>
        some ((1 : Int32), h10)
      else
        (gI h2 8 (some l0) 3).bind fun t11 =>
        (dO h2 8 (some l0)).bind fun a12 =>
        (sX8_fail F a12 t11 h2).bind fun h13 =>
        some ((0 : Int32), h13)
    else
      some ((0 : Int32), h2)
abbrev rm_X8_anotherLine : Room := { frames := 1, cells := 0, slots := 0, locals := 21 }
set_option maxRecDepth 100000 in
set_option maxHeartbeats 4000000 in
theorem mt_X8_anotherLine {w : WD} {l : Launch} {F : Nat} {l0 : Nat} {h : HP} {v : Int32} {h' : HP} (hs : sX8_anotherLine F l0 h = some (v, h')) : MI w l yX8_anotherLine cX8_anotherLine 1 .boolean rm_X8_anotherLine 0 0 [rf w (some l0)] h v h' := by
  refine of_body [(0, rf w (some l0))] (by decide) (by simp [lg_sl, rf_cat, cat_i, cat_l, cat_a]) (by simp [lv_args, rf_cat, cat_i, cat_l, cat_a]) ?_
  intro x hw_ hnL_ hl_ hc hret hnm hQ
  subst hw_; subst hl_
  have hnl : ∀ i, i < 1 → i < x.nL := fun i h => by rw [hnL_]; exact h
  have hw : wpO (sX8_anotherLine F l0 h) (fun r => r = (v, h')) := ⟨_, hs, rfl⟩
  unfold sX8_anotherLine at hw
  refine R_aload_n (q := 0) (i := 0) (v := (some l0)) hc dX8_anotherLine_0 rfl rfl ?_
  refine R_cVVi (As := []) (rest := []) (r := (some l0)) (ci := 8) hc ml_8_133 mf_X8_skipBlanks rfl (by decide) ⟨rfl, rfl⟩ ⟨le_b rfl, le_b rfl⟩ ⟨Nat.zero_le _, Nat.zero_le _⟩ (fun a h' e => mt_X8_skipBlanks e) rfl rfl (Nat.zero_le _) dX8_anotherLine_1 hw (fun h2 hw => ?_)
  refine R_aload_n (q := 0) (i := 0) (v := (some l0)) hc dX8_anotherLine_4 rfl rfl ?_
  refine R_getI hc fl_8_15 dX8_anotherLine_5 hw (fun t3 hw => ?_)
  refine R_iconst (v := (-1 : Int32)) hc dX8_anotherLine_8 kI_m1 ?_
  refine R_icmp_ne (tgt := 23) hc dX8_anotherLine_9 (by decide) hw (fun hw => ?_) (fun hw => ?_)
  · refine R_iconst (v := (0 : Int32)) hc dX8_anotherLine_23 kI_0 ?_
    exact R_ireturn hc hret rfl hQ hw dX8_anotherLine_24
  · refine R_aload_n (q := 0) (i := 0) (v := (some l0)) hc dX8_anotherLine_12 rfl rfl ?_
    refine R_getI hc fl_8_22 dX8_anotherLine_13 hw (fun t4 hw => ?_)
    refine R_aload_n (q := 0) (i := 0) (v := (some l0)) hc dX8_anotherLine_16 rfl rfl ?_
    refine R_getI hc fl_8_9 dX8_anotherLine_17 hw (fun t5 hw => ?_)
    refine R_icmp_lt (tgt := 25) hc dX8_anotherLine_20 (by decide) hw (fun hw => ?_) (fun hw => ?_)
    · refine R_aload_n (q := 0) (i := 0) (v := (some l0)) hc dX8_anotherLine_25 rfl rfl ?_
      refine R_getR hc fl_8_18 dX8_anotherLine_26 hw (fun t6 hw => ?_)
      refine R_aload_n (q := 0) (i := 0) (v := (some l0)) hc dX8_anotherLine_29 rfl rfl ?_
      refine R_getI hc fl_8_22 dX8_anotherLine_30 hw (fun t7 hw => ?_)
      refine R_baload hc dX8_anotherLine_33 hw (fun t8 hw => ?_)
      refine R_bipush (v := (59 : Int32)) hc dX8_anotherLine_34 kB_59 ?_
      refine R_icmp_eq (tgt := 49) hc dX8_anotherLine_36 (by decide) hw (fun hw => ?_) (fun hw => ?_)
      · refine R_aload_n (q := 0) (i := 0) (v := (some l0)) hc dX8_anotherLine_49 rfl rfl ?_
        refine R_dup hc dX8_anotherLine_50 (rf_cat _ _) ?_
        refine R_getI hc fl_8_22 dX8_anotherLine_51 hw (fun t9 hw => ?_)
        refine R_iconst (v := (1 : Int32)) hc dX8_anotherLine_54 kI_1 ?_
        refine R_iadd hc dX8_anotherLine_55 ?_
        refine R_putI hc pl_8_22 rfl rfl dX8_anotherLine_56 hw (fun h10 hw => ?_)
        refine R_iconst (v := (1 : Int32)) hc dX8_anotherLine_59 kI_1 ?_
        exact R_ireturn hc hret rfl hQ hw dX8_anotherLine_60
      · refine R_aload_n (q := 0) (i := 0) (v := (some l0)) hc dX8_anotherLine_39 rfl rfl ?_
        refine R_aload_n (q := 0) (i := 0) (v := (some l0)) hc dX8_anotherLine_40 rfl rfl ?_
        refine R_getI hc fl_8_22 dX8_anotherLine_41 hw (fun t11 hw => ?_)
        refine R_cVVi (As := [.int t11]) (rest := []) (r := (some l0)) (ci := 8) hc ml_8_60 mf_X8_fail rfl (by decide) ⟨rfl, rfl⟩ ⟨le_b rfl, le_b rfl⟩ ⟨Nat.zero_le _, Nat.zero_le _⟩ (fun a h' e => mt_X8_fail e) rfl rfl (Nat.zero_le _) dX8_anotherLine_44 hw (fun h13 hw => ?_)
        refine R_iconst (v := (0 : Int32)) hc dX8_anotherLine_47 kI_0 ?_
        exact R_ireturn hc hret rfl hQ hw dX8_anotherLine_48
    · refine R_iconst (v := (0 : Int32)) hc dX8_anotherLine_23 kI_0 ?_
      exact R_ireturn hc hret rfl hQ hw dX8_anotherLine_24
theorem dX8_readNet_0 : decode cX8_readNet 0 = .ok (.aload_n 0, 1) := by decide +kernel
theorem dX8_readNet_1 : decode cX8_readNet 1 = .ok (.iconst 0, 1) := by decide +kernel
theorem dX8_readNet_2 : decode cX8_readNet 2 = .ok (.bipush 11, 2) := by decide +kernel
theorem dX8_readNet_4 : decode cX8_readNet 4 = .ok (.invokevirtual 39, 3) := by decide +kernel
theorem dX8_readNet_7 : decode cX8_readNet 7 = .ok (.ireturn, 1) := by decide +kernel
def sX8_readNet (F : Nat) (l0 : Nat) (h : HP) : Option (Int32 × HP) :=
  (dO h 8 (some l0)).bind fun a1 =>
  bd2 (sX8_readNumber F a1 (0 : Int32) (11 : Int32) h) fun t2 h3 =>
  some (t2, h3)
abbrev rm_X8_readNet : Room := { frames := 2, cells := 0, slots := 0, locals := 45 }
set_option maxRecDepth 100000 in
set_option maxHeartbeats 4000000 in
theorem mt_X8_readNet {w : WD} {l : Launch} {F : Nat} {l0 : Nat} {h : HP} {v : Int32} {h' : HP} (hs : sX8_readNet F l0 h = some (v, h')) : MI w l yX8_readNet cX8_readNet 1 .int rm_X8_readNet 0 0 [rf w (some l0)] h v h' := by
  refine of_body [(0, rf w (some l0))] (by decide) (by simp [lg_sl, rf_cat, cat_i, cat_l, cat_a]) (by simp [lv_args, rf_cat, cat_i, cat_l, cat_a]) ?_
  intro x hw_ hnL_ hl_ hc hret hnm hQ
  subst hw_; subst hl_
  have hnl : ∀ i, i < 1 → i < x.nL := fun i h => by rw [hnL_]; exact h
  have hw : wpO (sX8_readNet F l0 h) (fun r => r = (v, h')) := ⟨_, hs, rfl⟩
  unfold sX8_readNet at hw
  refine R_aload_n (q := 0) (i := 0) (v := (some l0)) hc dX8_readNet_0 rfl rfl ?_
  refine R_iconst (v := (0 : Int32)) hc dX8_readNet_1 kI_0 ?_
  refine R_bipush (v := (11 : Int32)) hc dX8_readNet_2 kB_11 ?_
  refine R_cVIi (As := [.int (0 : Int32), .int (11 : Int32)]) (rest := []) (r := (some l0)) (ci := 8) hc ml_8_39 mf_X8_readNumber rfl (by decide) ⟨rfl, rfl⟩ ⟨le_b rfl, le_b rfl⟩ ⟨Nat.zero_le _, Nat.zero_le _⟩ (fun a v h' e => mt_X8_readNumber e) rfl rfl (Nat.zero_le _) dX8_readNet_4 hw (fun t2 h3 hw => ?_)
  exact R_ireturn hc hret rfl hQ hw dX8_readNet_7
theorem dX8_passWord_0 : decode cX8_passWord 0 = .ok (.aload_n 0, 1) := by decide +kernel
theorem dX8_passWord_1 : decode cX8_passWord 1 = .ok (.invokevirtual 133, 3) := by decide +kernel
theorem dX8_passWord_4 : decode cX8_passWord 4 = .ok (.aload_n 0, 1) := by decide +kernel
theorem dX8_passWord_5 : decode cX8_passWord 5 = .ok (.invokevirtual 136, 3) := by decide +kernel
theorem dX8_passWord_8 : decode cX8_passWord 8 = .ok (.aload_n 0, 1) := by decide +kernel
theorem dX8_passWord_9 : decode cX8_passWord 9 = .ok (.getfield 15, 3) := by decide +kernel
theorem dX8_passWord_12 : decode cX8_passWord 12 = .ok (.iconst (-1), 1) := by decide +kernel
theorem dX8_passWord_13 : decode cX8_passWord 13 = .ok (.if_icmp .ne 13, 3) := by decide +kernel
theorem dX8_passWord_16 : decode cX8_passWord 16 = .ok (.aload_n 0, 1) := by decide +kernel
theorem dX8_passWord_17 : decode cX8_passWord 17 = .ok (.aload_n 1, 1) := by decide +kernel
theorem dX8_passWord_18 : decode cX8_passWord 18 = .ok (.invokevirtual 66, 3) := by decide +kernel
theorem dX8_passWord_21 : decode cX8_passWord 21 = .ok (.ifCond .eq 5, 3) := by decide +kernel
theorem dX8_passWord_24 : decode cX8_passWord 24 = .ok (.iconst 1, 1) := by decide +kernel
theorem dX8_passWord_25 : decode cX8_passWord 25 = .ok (.ireturn, 1) := by decide +kernel
theorem dX8_passWord_26 : decode cX8_passWord 26 = .ok (.aload_n 0, 1) := by decide +kernel
theorem dX8_passWord_27 : decode cX8_passWord 27 = .ok (.aload_n 0, 1) := by decide +kernel
theorem dX8_passWord_28 : decode cX8_passWord 28 = .ok (.getfield 25, 3) := by decide +kernel
theorem dX8_passWord_31 : decode cX8_passWord 31 = .ok (.putfield 22, 3) := by decide +kernel
theorem dX8_passWord_34 : decode cX8_passWord 34 = .ok (.iconst 0, 1) := by decide +kernel
theorem dX8_passWord_35 : decode cX8_passWord 35 = .ok (.ireturn, 1) := by decide +kernel
def sX8_passWord (F : Nat) (l0 : Nat) (l1 : Nat) (h : HP) : Option (Int32 × HP) :=
  (dO h 8 (some l0)).bind fun a1 =>
  (sX8_skipBlanks F a1 h).bind fun h2 =>
  (dO h2 8 (some l0)).bind fun a3 =>
  (sX8_goThroughWord F a3 h2).bind fun h4 =>
  (gI h4 8 (some l0) 1).bind fun t5 =>
  if ¬ t5 = (-1 : Int32) then
    (gI h4 8 (some l0) 4).bind fun t6 =>
    (pI h4 8 (some l0) 3 t6).bind fun h7 =>
    some ((0 : Int32), h7)
  else
    (dO h4 8 (some l0)).bind fun a8 =>
    (sX8_wordIs F a8 l1 h4).bind fun t9 =>
    if t9 = 0 then
      (gI h4 8 (some l0) 4).bind fun t10 =>
      (pI h4 8 (some l0) 3 t10).bind fun h11 =>
      some ((0 : Int32), h11)
    else
      some ((1 : Int32), h4)
abbrev rm_X8_passWord : Room := { frames := 5, cells := 0, slots := 0, locals := 107 }
set_option maxRecDepth 100000 in
set_option maxHeartbeats 4000000 in
theorem mt_X8_passWord {w : WD} {l : Launch} {F : Nat} {l0 : Nat} {l1 : Nat} {h : HP} {v : Int32} {h' : HP} (hs : sX8_passWord F l0 l1 h = some (v, h')) : MI w l yX8_passWord cX8_passWord 2 .boolean rm_X8_passWord 0 0 [rf w (some l0), .ref (w.aS l1)] h v h' := by
  refine of_body [(0, rf w (some l0)), (1, .ref (w.aS l1))] (by decide) (by simp [lg_sl, rf_cat, cat_i, cat_l, cat_a]) (by simp [lv_args, rf_cat, cat_i, cat_l, cat_a]) ?_
  intro x hw_ hnL_ hl_ hc hret hnm hQ
  subst hw_; subst hl_
  have hnl : ∀ i, i < 2 → i < x.nL := fun i h => by rw [hnL_]; exact h
  have hw : wpO (sX8_passWord F l0 l1 h) (fun r => r = (v, h')) := ⟨_, hs, rfl⟩
  unfold sX8_passWord at hw
  refine R_aload_n (q := 0) (i := 0) (v := (some l0)) hc dX8_passWord_0 rfl rfl ?_
  refine R_cVVi (As := []) (rest := []) (r := (some l0)) (ci := 8) hc ml_8_133 mf_X8_skipBlanks rfl (by decide) ⟨rfl, rfl⟩ ⟨le_b rfl, le_b rfl⟩ ⟨Nat.zero_le _, Nat.zero_le _⟩ (fun a h' e => mt_X8_skipBlanks e) rfl rfl (Nat.zero_le _) dX8_passWord_1 hw (fun h2 hw => ?_)
  refine R_aload_n (q := 0) (i := 0) (v := (some l0)) hc dX8_passWord_4 rfl rfl ?_
  refine R_cVVi (As := []) (rest := []) (r := (some l0)) (ci := 8) hc ml_8_136 mf_X8_goThroughWord rfl (by decide) ⟨rfl, rfl⟩ ⟨le_b rfl, le_b rfl⟩ ⟨Nat.zero_le _, Nat.zero_le _⟩ (fun a h' e => mt_X8_goThroughWord e) rfl rfl (Nat.zero_le _) dX8_passWord_5 hw (fun h4 hw => ?_)
  refine R_aload_n (q := 0) (i := 0) (v := (some l0)) hc dX8_passWord_8 rfl rfl ?_
  refine R_getI hc fl_8_15 dX8_passWord_9 hw (fun t5 hw => ?_)
  refine R_iconst (v := (-1 : Int32)) hc dX8_passWord_12 kI_m1 ?_
  refine R_icmp_ne (tgt := 26) hc dX8_passWord_13 (by decide) hw (fun hw => ?_) (fun hw => ?_)
  · refine R_aload_n (q := 0) (i := 0) (v := (some l0)) hc dX8_passWord_26 rfl rfl ?_
    refine R_aload_n (q := 0) (i := 0) (v := (some l0)) hc dX8_passWord_27 rfl rfl ?_
    refine R_getI hc fl_8_25 dX8_passWord_28 hw (fun t6 hw => ?_)
    refine R_putI hc pl_8_22 rfl rfl dX8_passWord_31 hw (fun h7 hw => ?_)
    refine R_iconst (v := (0 : Int32)) hc dX8_passWord_34 kI_0 ?_
    exact R_ireturn hc hret rfl hQ hw dX8_passWord_35
  · refine R_aload_n (q := 0) (i := 0) (v := (some l0)) hc dX8_passWord_16 rfl rfl ?_
    refine R_aloadS_n (q := 1) (i := 1) (v := l1) hc dX8_passWord_17 rfl rfl ?_
    refine R_cVI (As := [.ref (x.w.aS l1)]) (rest := []) (r := (some l0)) (ci := 8) hc ml_8_66 mf_X8_wordIs rfl (by decide) ⟨rfl, rfl⟩ ⟨le_b rfl, le_b rfl⟩ ⟨Nat.zero_le _, Nat.zero_le _⟩ (fun a v e => mt_X8_wordIs e) rfl rfl (Nat.zero_le _) dX8_passWord_18 hw (fun t9 hw => ?_)
    refine R_if_eq (tgt := 26) hc dX8_passWord_21 (by decide) hw (fun hw => ?_) (fun hw => ?_)
    · refine R_aload_n (q := 0) (i := 0) (v := (some l0)) hc dX8_passWord_26 rfl rfl ?_
      refine R_aload_n (q := 0) (i := 0) (v := (some l0)) hc dX8_passWord_27 rfl rfl ?_
      refine R_getI hc fl_8_25 dX8_passWord_28 hw (fun t10 hw => ?_)
      refine R_putI hc pl_8_22 rfl rfl dX8_passWord_31 hw (fun h11 hw => ?_)
      refine R_iconst (v := (0 : Int32)) hc dX8_passWord_34 kI_0 ?_
      exact R_ireturn hc hret rfl hQ hw dX8_passWord_35
    · refine R_iconst (v := (1 : Int32)) hc dX8_passWord_24 kI_1 ?_
      exact R_ireturn hc hret rfl hQ hw dX8_passWord_25
theorem dX1_addPair_0 : decode cX1_addPair 0 = .ok (.aload_n 0, 1) := by decide +kernel
theorem dX1_addPair_1 : decode cX1_addPair 1 = .ok (.aload_n 0, 1) := by decide +kernel
theorem dX1_addPair_2 : decode cX1_addPair 2 = .ok (.getfield 40, 3) := by decide +kernel
theorem dX1_addPair_5 : decode cX1_addPair 5 = .ok (.iconst 5, 1) := by decide +kernel
theorem dX1_addPair_6 : decode cX1_addPair 6 = .ok (.invokevirtual 49, 3) := by decide +kernel
theorem dX1_addPair_9 : decode cX1_addPair 9 = .ok (.istore_n 1, 1) := by decide +kernel
theorem dX1_addPair_10 : decode cX1_addPair 10 = .ok (.aload_n 0, 1) := by decide +kernel
theorem dX1_addPair_11 : decode cX1_addPair 11 = .ok (.getfield 27, 3) := by decide +kernel
theorem dX1_addPair_14 : decode cX1_addPair 14 = .ok (.iconst 1, 1) := by decide +kernel
theorem dX1_addPair_15 : decode cX1_addPair 15 = .ok (.if_icmp .ge 8, 3) := by decide +kernel
theorem dX1_addPair_18 : decode cX1_addPair 18 = .ok (.bipush 9, 2) := by decide +kernel
theorem dX1_addPair_20 : decode cX1_addPair 20 = .ok (.goto 16, 3) := by decide +kernel
theorem dX1_addPair_23 : decode cX1_addPair 23 = .ok (.iload_n 1, 1) := by decide +kernel
theorem dX1_addPair_24 : decode cX1_addPair 24 = .ok (.aload_n 0, 1) := by decide +kernel
theorem dX1_addPair_25 : decode cX1_addPair 25 = .ok (.getfield 27, 3) := by decide +kernel
theorem dX1_addPair_28 : decode cX1_addPair 28 = .ok (.iadd, 1) := by decide +kernel
theorem dX1_addPair_29 : decode cX1_addPair 29 = .ok (.iconst 1, 1) := by decide +kernel
theorem dX1_addPair_30 : decode cX1_addPair 30 = .ok (.isub, 1) := by decide +kernel
theorem dX1_addPair_31 : decode cX1_addPair 31 = .ok (.aload_n 0, 1) := by decide +kernel
theorem dX1_addPair_32 : decode cX1_addPair 32 = .ok (.getfield 27, 3) := by decide +kernel
theorem dX1_addPair_35 : decode cX1_addPair 35 = .ok (.idiv, 1) := by decide +kernel
theorem dX1_addPair_36 : decode cX1_addPair 36 = .ok (.istore_n 2, 1) := by decide +kernel
theorem dX1_addPair_37 : decode cX1_addPair 37 = .ok (.aload_n 0, 1) := by decide +kernel
theorem dX1_addPair_38 : decode cX1_addPair 38 = .ok (.getfield 43, 3) := by decide +kernel
theorem dX1_addPair_41 : decode cX1_addPair 41 = .ok (.iload_n 2, 1) := by decide +kernel
theorem dX1_addPair_42 : decode cX1_addPair 42 = .ok (.iadd, 1) := by decide +kernel
theorem dX1_addPair_43 : decode cX1_addPair 43 = .ok (.bipush 8, 2) := by decide +kernel
theorem dX1_addPair_45 : decode cX1_addPair 45 = .ok (.if_icmp .le 5, 3) := by decide +kernel
theorem dX1_addPair_48 : decode cX1_addPair 48 = .ok (.iconst 0, 1) := by decide +kernel
theorem dX1_addPair_49 : decode cX1_addPair 49 = .ok (.ireturn, 1) := by decide +kernel
theorem dX1_addPair_50 : decode cX1_addPair 50 = .ok (.iconst 0, 1) := by decide +kernel
theorem dX1_addPair_51 : decode cX1_addPair 51 = .ok (.istore_n 3, 1) := by decide +kernel
theorem dX1_addPair_52 : decode cX1_addPair 52 = .ok (.iload_n 3, 1) := by decide +kernel
theorem dX1_addPair_53 : decode cX1_addPair 53 = .ok (.iload_n 2, 1) := by decide +kernel
theorem dX1_addPair_54 : decode cX1_addPair 54 = .ok (.if_icmp .ge 24, 3) := by decide +kernel
theorem dX1_addPair_57 : decode cX1_addPair 57 = .ok (.aload_n 0, 1) := by decide +kernel
theorem dX1_addPair_58 : decode cX1_addPair 58 = .ok (.getfield 15, 3) := by decide +kernel
theorem dX1_addPair_61 : decode cX1_addPair 61 = .ok (.aload_n 0, 1) := by decide +kernel
theorem dX1_addPair_62 : decode cX1_addPair 62 = .ok (.getfield 43, 3) := by decide +kernel
theorem dX1_addPair_65 : decode cX1_addPair 65 = .ok (.iload_n 3, 1) := by decide +kernel
theorem dX1_addPair_66 : decode cX1_addPair 66 = .ok (.iadd, 1) := by decide +kernel
theorem dX1_addPair_67 : decode cX1_addPair 67 = .ok (.aload_n 0, 1) := by decide +kernel
theorem dX1_addPair_68 : decode cX1_addPair 68 = .ok (.getfield 40, 3) := by decide +kernel
theorem dX1_addPair_71 : decode cX1_addPair 71 = .ok (.iastore, 1) := by decide +kernel
theorem dX1_addPair_72 : decode cX1_addPair 72 = .ok (.iinc 3 1, 3) := by decide +kernel
theorem dX1_addPair_75 : decode cX1_addPair 75 = .ok (.goto (-23), 3) := by decide +kernel
theorem dX1_addPair_78 : decode cX1_addPair 78 = .ok (.aload_n 0, 1) := by decide +kernel
theorem dX1_addPair_79 : decode cX1_addPair 79 = .ok (.dup, 1) := by decide +kernel
theorem dX1_addPair_80 : decode cX1_addPair 80 = .ok (.getfield 43, 3) := by decide +kernel
theorem dX1_addPair_83 : decode cX1_addPair 83 = .ok (.iload_n 2, 1) := by decide +kernel
theorem dX1_addPair_84 : decode cX1_addPair 84 = .ok (.iadd, 1) := by decide +kernel
theorem dX1_addPair_85 : decode cX1_addPair 85 = .ok (.putfield 43, 3) := by decide +kernel
theorem dX1_addPair_88 : decode cX1_addPair 88 = .ok (.aload_n 0, 1) := by decide +kernel
theorem dX1_addPair_89 : decode cX1_addPair 89 = .ok (.dup, 1) := by decide +kernel
theorem dX1_addPair_90 : decode cX1_addPair 90 = .ok (.getfield 40, 3) := by decide +kernel
theorem dX1_addPair_93 : decode cX1_addPair 93 = .ok (.iconst 1, 1) := by decide +kernel
theorem dX1_addPair_94 : decode cX1_addPair 94 = .ok (.iadd, 1) := by decide +kernel
theorem dX1_addPair_95 : decode cX1_addPair 95 = .ok (.putfield 40, 3) := by decide +kernel
theorem dX1_addPair_98 : decode cX1_addPair 98 = .ok (.iconst 1, 1) := by decide +kernel
theorem dX1_addPair_99 : decode cX1_addPair 99 = .ok (.ireturn, 1) := by decide +kernel
def sX1_addPair_L52 (F : Nat) (l0 : Nat) (l2 : Int32) (l3 : Int32) (h : HP) : Option ((Int32 × HP) ⊕ HP) :=
  if l2 ≤ l3 then
    some (.inr h)
  else
    (gR h 1 (some l0) 8).bind fun t10 =>
    (gI h 1 (some l0) 5).bind fun t11 =>
    (gI h 1 (some l0) 4).bind fun t12 =>
    (sI h t10 (t11 + l3) t12).bind fun h13 =>
    some (.inl (l3 + (1 : Int32), h13))
def sX1_addPair (F : Nat) (l0 : Nat) (h : HP) : Option (Int32 × HP) :=
  (gI h 1 (some l0) 4).bind fun t1 =>
  (dO h 1 (some l0)).bind fun a2 =>
  (sX1_partOf F a2 t1 (5 : Int32) h).bind fun t3 =>
  (gI h 1 (some l0) 0).bind fun t4 =>
  (if (1 : Int32) ≤ t4 then
      (gI h 1 (some l0) 0).bind fun t6 =>
      (gI h 1 (some l0) 0).bind fun t7 =>
      (dvI ((t3 + t6) - (1 : Int32)) t7).bind fun t8 =>
      some t8
    else
      some (9 : Int32)).bind fun s5 =>
  (gI h 1 (some l0) 5).bind fun t9 =>
  if (t9 + s5) ≤ (8 : Int32) then
    (iter (fun s => sX1_addPair_L52 F l0 s5 s.1 s.2) F ((0 : Int32), h)).bind fun h14 =>
      (gI h14 1 (some l0) 5).bind fun t15 =>
      (pI h14 1 (some l0) 5 (t15 + s5)).bind fun h16 =>
      (gI h16 1 (some l0) 4).bind fun t17 =>
      (pI h16 1 (some l0) 4 (t17 + (1 : Int32))).bind fun h18 =>
      some ((1 : Int32), h18)
  else
    some ((0 : Int32), h)
abbrev rm_X1_addPair : Room := { frames := 1, cells := 0, slots := 0, locals := 22 }
set_option maxRecDepth 100000 in
set_option maxHeartbeats 4000000 in
theorem mt_X1_addPair {w : WD} {l : Launch} {F : Nat} {l0 : Nat} {h : HP} {v : Int32} {h' : HP} (hs : sX1_addPair F l0 h = some (v, h')) : MI w l yX1_addPair cX1_addPair 4 .boolean rm_X1_addPair 0 0 [rf w (some l0)] h v h' := by
  refine of_body [(0, rf w (some l0))] (by decide) (by simp [lg_sl, rf_cat, cat_i, cat_l, cat_a]) (by simp [lv_args, rf_cat, cat_i, cat_l, cat_a]) ?_
  intro x hw_ hnL_ hl_ hc hret hnm hQ
  subst hw_; subst hl_
  have hnl : ∀ i, i < 4 → i < x.nL := fun i h => by rw [hnL_]; exact h
  have hw : wpO (sX1_addPair F l0 h) (fun r => r = (v, h')) := ⟨_, hs, rfl⟩
  unfold sX1_addPair at hw
  refine R_aload_n (q := 0) (i := 0) (v := (some l0)) hc dX1_addPair_0 rfl rfl ?_
  refine R_aload_n (q := 0) (i := 0) (v := (some l0)) hc dX1_addPair_1 rfl rfl ?_
  refine R_getI hc fl_1_40 dX1_addPair_2 hw (fun t1 hw => ?_)
  refine R_iconst (v := (5 : Int32)) hc dX1_addPair_5 kI_5 ?_
  refine R_cVI (As := [.int t1, .int (5 : Int32)]) (rest := []) (r := (some l0)) (ci := 1) hc ml_1_49 mf_X1_partOf rfl (by decide) ⟨rfl, rfl⟩ ⟨le_b rfl, le_b rfl⟩ ⟨Nat.zero_le _, Nat.zero_le _⟩ (fun a v e => mt_X1_partOf e) rfl rfl (Nat.zero_le _) dX1_addPair_6 hw (fun t3 hw => ?_)
  refine R_istore_n (i := 1) (v := t3) hc [(1, .int t3), (0, rf x.w (some l0))] dX1_addPair_9 rfl (hnl 1 (le_b rfl)) rfl ?_
  refine R_aload_n (q := 1) (i := 0) (v := (some l0)) hc dX1_addPair_10 rfl rfl ?_
  refine R_getI hc fl_1_27 dX1_addPair_11 hw (fun t4 hw => ?_)
  refine R_iconst (v := (1 : Int32)) hc dX1_addPair_14 kI_1 ?_
  refine R_join (fun (s5 : Int32) => Rn x 0 0 36 [(0, rf x.w (some l0))] [.int s5] h) hw (fun r hw => ?_) (fun hw => ?_)
  · revert r hw
    intro s5 hw
    show Rn x 0 0 36 [(0, rf x.w (some l0))] [.int s5] h
    refine R_istore_n (i := 2) (v := s5) hc [(2, .int s5), (0, rf x.w (some l0))] dX1_addPair_36 rfl (hnl 2 (le_b rfl)) rfl ?_
    refine R_aload_n (q := 1) (i := 0) (v := (some l0)) hc dX1_addPair_37 rfl rfl ?_
    refine R_getI hc fl_1_43 dX1_addPair_38 hw (fun t9 hw => ?_)
    refine R_iload_n (q := 0) (i := 2) (v := s5) hc dX1_addPair_41 rfl rfl ?_
    refine R_iadd hc dX1_addPair_42 ?_
    refine R_bipush (v := (8 : Int32)) hc dX1_addPair_43 kB_8 ?_
    refine R_icmp_le (tgt := 50) hc dX1_addPair_45 (by decide) hw (fun hw => ?_) (fun hw => ?_)
    · refine R_iconst (v := (0 : Int32)) hc dX1_addPair_50 kI_0 ?_
      refine R_istore_n (i := 3) (v := (0 : Int32)) hc [(3, .int (0 : Int32)), (2, .int s5), (0, rf x.w (some l0))] dX1_addPair_51 rfl (hnl 3 (le_b rfl)) rfl ?_
      refine R_sub hc [2, 1, 0] rfl ?_
      refine R_loop (P := fun (s : (Int32 × HP)) => Rn x 0 0 52 [(0, rf x.w (some l0)), (2, .int s5), (3, .int s.1)] [] s.2) (fun h14 => Rn x 0 0 78 [(0, rf x.w (some l0)), (2, .int s5)] [] h14) hw (fun r hw => ?_) (fun X hX s hw => ?_)
      · revert r hw
        intro h14 hw
        show Rn x 0 0 78 [(0, rf x.w (some l0)), (2, .int s5)] [] h14
        refine R_aload_n (q := 0) (i := 0) (v := (some l0)) hc dX1_addPair_78 rfl rfl ?_
        refine R_dup hc dX1_addPair_79 (rf_cat _ _) ?_
        refine R_getI hc fl_1_43 dX1_addPair_80 hw (fun t15 hw => ?_)
        refine R_iload_n (q := 1) (i := 2) (v := s5) hc dX1_addPair_83 rfl rfl ?_
        refine R_iadd hc dX1_addPair_84 ?_
        refine R_putI hc pl_1_43 rfl rfl dX1_addPair_85 hw (fun h16 hw => ?_)
        refine R_aload_n (q := 0) (i := 0) (v := (some l0)) hc dX1_addPair_88 rfl rfl ?_
        refine R_dup hc dX1_addPair_89 (rf_cat _ _) ?_
        refine R_getI hc fl_1_40 dX1_addPair_90 hw (fun t17 hw => ?_)
        refine R_iconst (v := (1 : Int32)) hc dX1_addPair_93 kI_1 ?_
        refine R_iadd hc dX1_addPair_94 ?_
        refine R_putI hc pl_1_40 rfl rfl dX1_addPair_95 hw (fun h18 hw => ?_)
        refine R_iconst (v := (1 : Int32)) hc dX1_addPair_98 kI_1 ?_
        exact R_ireturn hc hret rfl hQ hw dX1_addPair_99
      · obtain ⟨l3_20, h21⟩ := s
        show Rn x 0 0 52 [(0, rf x.w (some l0)), (2, .int s5), (3, .int l3_20)] [] h21
        have hw : wpO (sX1_addPair_L52 F l0 s5 l3_20 h21) _ := hw
        unfold sX1_addPair_L52 at hw
        refine R_iload_n (q := 2) (i := 3) (v := l3_20) hc dX1_addPair_52 rfl rfl ?_
        refine R_iload_n (q := 1) (i := 2) (v := s5) hc dX1_addPair_53 rfl rfl ?_
        refine R_icmp_ge (tgt := 78) hc dX1_addPair_54 (by decide) hw (fun hw => ?_) (fun hw => ?_)
        · refine R_sub hc [0, 1] rfl ?_
          exact (wpO_some hw :)
        · refine R_aload_n (q := 0) (i := 0) (v := (some l0)) hc dX1_addPair_57 rfl rfl ?_
          refine R_getR hc fl_1_15 dX1_addPair_58 hw (fun t10 hw => ?_)
          refine R_aload_n (q := 0) (i := 0) (v := (some l0)) hc dX1_addPair_61 rfl rfl ?_
          refine R_getI hc fl_1_43 dX1_addPair_62 hw (fun t11 hw => ?_)
          refine R_iload_n (q := 2) (i := 3) (v := l3_20) hc dX1_addPair_65 rfl rfl ?_
          refine R_iadd hc dX1_addPair_66 ?_
          refine R_aload_n (q := 0) (i := 0) (v := (some l0)) hc dX1_addPair_67 rfl rfl ?_
          refine R_getI hc fl_1_40 dX1_addPair_68 hw (fun t12 hw => ?_)
          refine R_iastore hc dX1_addPair_71 hw (fun h13 hw => ?_)
          refine R_iinc (q := 2) (i := 3) (v := l3_20) hc [(3, .int (l3_20 + (1 : Int32))), (0, rf x.w (some l0)), (2, .int s5)] dX1_addPair_72 rfl (kC_1 _) (hnl 3 (le_b rfl)) rfl ?_
          refine R_goto (tgt := 52) hc dX1_addPair_75 (by decide) ?_
          refine R_sub hc [1, 2, 0] rfl ?_
          exact hX (l3_20 + (1 : Int32), h13) (wpO_some hw :)
    · refine R_iconst (v := (0 : Int32)) hc dX1_addPair_48 kI_0 ?_
      exact R_ireturn hc hret rfl hQ hw dX1_addPair_49
  · refine R_icmp_ge (tgt := 23) hc dX1_addPair_15 (by decide) hw (fun hw => ?_) (fun hw => ?_)
    · refine R_iload_n (q := 0) (i := 1) (v := t3) hc dX1_addPair_23 rfl rfl ?_
      refine R_aload_n (q := 1) (i := 0) (v := (some l0)) hc dX1_addPair_24 rfl rfl ?_
      refine R_getI hc fl_1_27 dX1_addPair_25 hw (fun t6 hw => ?_)
      refine R_iadd hc dX1_addPair_28 ?_
      refine R_iconst (v := (1 : Int32)) hc dX1_addPair_29 kI_1 ?_
      refine R_isub hc dX1_addPair_30 ?_
      refine R_aload_n (q := 1) (i := 0) (v := (some l0)) hc dX1_addPair_31 rfl rfl ?_
      refine R_getI hc fl_1_27 dX1_addPair_32 hw (fun t7 hw => ?_)
      refine R_idiv hc dX1_addPair_35 hw (fun t8 hw => ?_)
      refine R_sub hc [1] rfl ?_
      exact (wpO_some hw :)
    · refine R_bipush (v := (9 : Int32)) hc dX1_addPair_18 kB_9 ?_
      refine R_goto (tgt := 36) hc dX1_addPair_20 (by decide) ?_
      refine R_sub hc [1] rfl ?_
      exact (wpO_some hw :)
theorem dX8_readPair_0 : decode cX8_readPair 0 = .ok (.aload_n 1, 1) := by decide +kernel
theorem dX8_readPair_1 : decode cX8_readPair 1 = .ok (.getfield 92, 3) := by decide +kernel
theorem dX8_readPair_4 : decode cX8_readPair 4 = .ok (.bipush 8, 2) := by decide +kernel
theorem dX8_readPair_6 : decode cX8_readPair 6 = .ok (.if_icmp .lt 9, 3) := by decide +kernel
theorem dX8_readPair_9 : decode cX8_readPair 9 = .ok (.aload_n 0, 1) := by decide +kernel
theorem dX8_readPair_10 : decode cX8_readPair 10 = .ok (.iload_n 2, 1) := by decide +kernel
theorem dX8_readPair_11 : decode cX8_readPair 11 = .ok (.invokevirtual 60, 3) := by decide +kernel
theorem dX8_readPair_14 : decode cX8_readPair 14 = .ok (.return_, 1) := by decide +kernel
theorem dX8_readPair_15 : decode cX8_readPair 15 = .ok (.aload_n 1, 1) := by decide +kernel
theorem dX8_readPair_16 : decode cX8_readPair 16 = .ok (.getfield 92, 3) := by decide +kernel
theorem dX8_readPair_19 : decode cX8_readPair 19 = .ok (.bipush 6, 2) := by decide +kernel
theorem dX8_readPair_21 : decode cX8_readPair 21 = .ok (.imul, 1) := by decide +kernel
theorem dX8_readPair_22 : decode cX8_readPair 22 = .ok (.istore_n 3, 1) := by decide +kernel
theorem dX8_readPair_23 : decode cX8_readPair 23 = .ok (.aload_n 1, 1) := by decide +kernel
theorem dX8_readPair_24 : decode cX8_readPair 24 = .ok (.getfield 95, 3) := by decide +kernel
theorem dX8_readPair_27 : decode cX8_readPair 27 = .ok (.iload_n 3, 1) := by decide +kernel
theorem dX8_readPair_28 : decode cX8_readPair 28 = .ok (.iconst 0, 1) := by decide +kernel
theorem dX8_readPair_29 : decode cX8_readPair 29 = .ok (.iadd, 1) := by decide +kernel
theorem dX8_readPair_30 : decode cX8_readPair 30 = .ok (.aload_n 0, 1) := by decide +kernel
theorem dX8_readPair_31 : decode cX8_readPair 31 = .ok (.invokevirtual 99, 3) := by decide +kernel
theorem dX8_readPair_34 : decode cX8_readPair 34 = .ok (.iastore, 1) := by decide +kernel
theorem dX8_readPair_35 : decode cX8_readPair 35 = .ok (.aload_n 0, 1) := by decide +kernel
theorem dX8_readPair_36 : decode cX8_readPair 36 = .ok (.ldc 103, 2) := by decide +kernel
theorem dX8_readPair_38 : decode cX8_readPair 38 = .ok (.invokevirtual 35, 3) := by decide +kernel
theorem dX8_readPair_41 : decode cX8_readPair 41 = .ok (.aload_n 1, 1) := by decide +kernel
theorem dX8_readPair_42 : decode cX8_readPair 42 = .ok (.getfield 95, 3) := by decide +kernel
theorem dX8_readPair_45 : decode cX8_readPair 45 = .ok (.iload_n 3, 1) := by decide +kernel
theorem dX8_readPair_46 : decode cX8_readPair 46 = .ok (.iconst 1, 1) := by decide +kernel
theorem dX8_readPair_47 : decode cX8_readPair 47 = .ok (.iadd, 1) := by decide +kernel
theorem dX8_readPair_48 : decode cX8_readPair 48 = .ok (.aload_n 0, 1) := by decide +kernel
theorem dX8_readPair_49 : decode cX8_readPair 49 = .ok (.invokevirtual 99, 3) := by decide +kernel
theorem dX8_readPair_52 : decode cX8_readPair 52 = .ok (.iastore, 1) := by decide +kernel
theorem dX8_readPair_53 : decode cX8_readPair 53 = .ok (.aload_n 1, 1) := by decide +kernel
theorem dX8_readPair_54 : decode cX8_readPair 54 = .ok (.getfield 95, 3) := by decide +kernel
theorem dX8_readPair_57 : decode cX8_readPair 57 = .ok (.iload_n 3, 1) := by decide +kernel
theorem dX8_readPair_58 : decode cX8_readPair 58 = .ok (.iconst 1, 1) := by decide +kernel
theorem dX8_readPair_59 : decode cX8_readPair 59 = .ok (.iadd, 1) := by decide +kernel
theorem dX8_readPair_60 : decode cX8_readPair 60 = .ok (.iconst 1, 1) := by decide +kernel
theorem dX8_readPair_61 : decode cX8_readPair 61 = .ok (.iadd, 1) := by decide +kernel
theorem dX8_readPair_62 : decode cX8_readPair 62 = .ok (.aload_n 0, 1) := by decide +kernel
theorem dX8_readPair_63 : decode cX8_readPair 63 = .ok (.invokevirtual 99, 3) := by decide +kernel
theorem dX8_readPair_66 : decode cX8_readPair 66 = .ok (.iastore, 1) := by decide +kernel
theorem dX8_readPair_67 : decode cX8_readPair 67 = .ok (.aload_n 0, 1) := by decide +kernel
theorem dX8_readPair_68 : decode cX8_readPair 68 = .ok (.ldc 105, 2) := by decide +kernel
theorem dX8_readPair_70 : decode cX8_readPair 70 = .ok (.invokevirtual 35, 3) := by decide +kernel
theorem dX8_readPair_73 : decode cX8_readPair 73 = .ok (.aload_n 1, 1) := by decide +kernel
theorem dX8_readPair_74 : decode cX8_readPair 74 = .ok (.getfield 95, 3) := by decide +kernel
theorem dX8_readPair_77 : decode cX8_readPair 77 = .ok (.iload_n 3, 1) := by decide +kernel
theorem dX8_readPair_78 : decode cX8_readPair 78 = .ok (.iconst 3, 1) := by decide +kernel
theorem dX8_readPair_79 : decode cX8_readPair 79 = .ok (.iadd, 1) := by decide +kernel
theorem dX8_readPair_80 : decode cX8_readPair 80 = .ok (.aload_n 0, 1) := by decide +kernel
theorem dX8_readPair_81 : decode cX8_readPair 81 = .ok (.invokevirtual 99, 3) := by decide +kernel
theorem dX8_readPair_84 : decode cX8_readPair 84 = .ok (.iastore, 1) := by decide +kernel
theorem dX8_readPair_85 : decode cX8_readPair 85 = .ok (.aload_n 1, 1) := by decide +kernel
theorem dX8_readPair_86 : decode cX8_readPair 86 = .ok (.getfield 95, 3) := by decide +kernel
theorem dX8_readPair_89 : decode cX8_readPair 89 = .ok (.iload_n 3, 1) := by decide +kernel
theorem dX8_readPair_90 : decode cX8_readPair 90 = .ok (.iconst 3, 1) := by decide +kernel
theorem dX8_readPair_91 : decode cX8_readPair 91 = .ok (.iadd, 1) := by decide +kernel
theorem dX8_readPair_92 : decode cX8_readPair 92 = .ok (.iconst 1, 1) := by decide +kernel
theorem dX8_readPair_93 : decode cX8_readPair 93 = .ok (.iadd, 1) := by decide +kernel
theorem dX8_readPair_94 : decode cX8_readPair 94 = .ok (.aload_n 0, 1) := by decide +kernel
theorem dX8_readPair_95 : decode cX8_readPair 95 = .ok (.invokevirtual 99, 3) := by decide +kernel
theorem dX8_readPair_98 : decode cX8_readPair 98 = .ok (.iastore, 1) := by decide +kernel
theorem dX8_readPair_99 : decode cX8_readPair 99 = .ok (.aload_n 1, 1) := by decide +kernel
theorem dX8_readPair_100 : decode cX8_readPair 100 = .ok (.getfield 95, 3) := by decide +kernel
theorem dX8_readPair_103 : decode cX8_readPair 103 = .ok (.iload_n 3, 1) := by decide +kernel
theorem dX8_readPair_104 : decode cX8_readPair 104 = .ok (.iconst 5, 1) := by decide +kernel
theorem dX8_readPair_105 : decode cX8_readPair 105 = .ok (.iadd, 1) := by decide +kernel
theorem dX8_readPair_106 : decode cX8_readPair 106 = .ok (.aload_n 0, 1) := by decide +kernel
theorem dX8_readPair_107 : decode cX8_readPair 107 = .ok (.ldc 107, 2) := by decide +kernel
theorem dX8_readPair_109 : decode cX8_readPair 109 = .ok (.invokevirtual 109, 3) := by decide +kernel
theorem dX8_readPair_112 : decode cX8_readPair 112 = .ok (.ifCond .eq 13, 3) := by decide +kernel
theorem dX8_readPair_115 : decode cX8_readPair 115 = .ok (.aload_n 0, 1) := by decide +kernel
theorem dX8_readPair_116 : decode cX8_readPair 116 = .ok (.iconst 1, 1) := by decide +kernel
theorem dX8_readPair_117 : decode cX8_readPair 117 = .ok (.bipush 40, 2) := by decide +kernel
theorem dX8_readPair_119 : decode cX8_readPair 119 = .ok (.invokevirtual 39, 3) := by decide +kernel
theorem dX8_readPair_122 : decode cX8_readPair 122 = .ok (.goto 4, 3) := by decide +kernel
theorem dX8_readPair_125 : decode cX8_readPair 125 = .ok (.iconst 1, 1) := by decide +kernel
theorem dX8_readPair_126 : decode cX8_readPair 126 = .ok (.iastore, 1) := by decide +kernel
theorem dX8_readPair_127 : decode cX8_readPair 127 = .ok (.aload_n 0, 1) := by decide +kernel
theorem dX8_readPair_128 : decode cX8_readPair 128 = .ok (.getfield 15, 3) := by decide +kernel
theorem dX8_readPair_131 : decode cX8_readPair 131 = .ok (.iconst (-1), 1) := by decide +kernel
theorem dX8_readPair_132 : decode cX8_readPair 132 = .ok (.if_icmp .ne 15, 3) := by decide +kernel
theorem dX8_readPair_135 : decode cX8_readPair 135 = .ok (.aload_n 1, 1) := by decide +kernel
theorem dX8_readPair_136 : decode cX8_readPair 136 = .ok (.invokevirtual 112, 3) := by decide +kernel
theorem dX8_readPair_139 : decode cX8_readPair 139 = .ok (.ifCond .ne 8, 3) := by decide +kernel
theorem dX8_readPair_142 : decode cX8_readPair 142 = .ok (.aload_n 0, 1) := by decide +kernel
theorem dX8_readPair_143 : decode cX8_readPair 143 = .ok (.iload_n 2, 1) := by decide +kernel
theorem dX8_readPair_144 : decode cX8_readPair 144 = .ok (.invokevirtual 60, 3) := by decide +kernel
theorem dX8_readPair_147 : decode cX8_readPair 147 = .ok (.return_, 1) := by decide +kernel
def sX8_readPair (F : Nat) (l0 : Nat) (l1 : Option Nat) (l2 : Int32) (h : HP) : Option HP :=
  (gI h 1 l1 4).bind fun t1 =>
  if t1 < (8 : Int32) then
    (gI h 1 l1 4).bind fun t2 =>
    nmI (t2 * (6 : Int32)) fun l3_3 =>
    (gR h 1 l1 7).bind fun t4 =>
    (dO h 8 (some l0)).bind fun a5 =>
    bd2 (sX8_readNet F a5 h) fun t6 h7 =>
    (sI h7 t4 (l3_3 + (0 : Int32)) t6).bind fun h8 =>
    (dO h8 8 (some l0)).bind fun a9 =>
    (sX8_expectWord F a9 (5) h8).bind fun h10 =>
    (gR h10 1 l1 7).bind fun t11 =>
    (dO h10 8 (some l0)).bind fun a12 =>
    bd2 (sX8_readNet F a12 h10) fun t13 h14 =>
    (sI h14 t11 (l3_3 + (1 : Int32)) t13).bind fun h15 =>
    (gR h15 1 l1 7).bind fun t16 =>
    (dO h15 8 (some l0)).bind fun a17 =>
    bd2 (sX8_readNet F a17 h15) fun t18 h19 =>
    (sI h19 t16 ((l3_3 + (1 : Int32)) + (1 : Int32)) t18).bind fun h20 =>
    (dO h20 8 (some l0)).bind fun a21 =>
    (sX8_expectWord F a21 (6) h20).bind fun h22 =>
    (gR h22 1 l1 7).bind fun t23 =>
    (dO h22 8 (some l0)).bind fun a24 =>
    bd2 (sX8_readNet F a24 h22) fun t25 h26 =>
    (sI h26 t23 (l3_3 + (3 : Int32)) t25).bind fun h27 =>
    (gR h27 1 l1 7).bind fun t28 =>
    (dO h27 8 (some l0)).bind fun a29 =>
    bd2 (sX8_readNet F a29 h27) fun t30 h31 =>
    (sI h31 t28 ((l3_3 + (3 : Int32)) + (1 : Int32)) t30).bind fun h32 =>
    (gR h32 1 l1 7).bind fun t33 =>
    (dO h32 8 (some l0)).bind fun a34 =>
    bd2 (sX8_passWord F a34 (7) h32) fun t35 h36 =>
    (if t35 = 0 then
        some ((1 : Int32), h36)
      else
        (dO h36 8 (some l0)).bind fun a39 =>
        bd2 (sX8_readNumber F a39 (1 : Int32) (40 : Int32) h36) fun t40 h41 =>
        some (t40, h41)).bind fun r => match r with
    | (s37, h38) =>
    (sI h38 t33 (l3_3 + (5 : Int32)) s37).bind fun h42 =>
    (gI h42 8 (some l0) 1).bind fun t43 =>
    if ¬ t43 = (-1 : Int32) then
      some h42
    else
      (dO h42 1 l1).bind fun a44 =>
      bd2 (sX1_addPair F a44 h42) fun t45 h46 =>
      if ¬ t45 = 0 then
        some h46
      else
        (dO h46 8 (some l0)).bind fun a47 =>
        (sX8_fail F a47 l2 h46).bind fun h48 =>
        some h48
  else
    (dO h 8 (some l0)).bind fun a49 =>
    (sX8_fail F a49 l2 h).bind fun h50 =>
    some h50
abbrev rm_X8_readPair : Room := { frames := 6, cells := 0, slots := 0, locals := 128 }
set_option maxRecDepth 100000 in
set_option maxHeartbeats 4000000 in
theorem mt_X8_readPair {w : WD} {l : Launch} {F : Nat} {l0 : Nat} {l1 : Option Nat} {l2 : Int32} {h : HP} {h' : HP} (hs : sX8_readPair F l0 l1 l2 h = some h') : MV w l yX8_readPair cX8_readPair 4 rm_X8_readPair 0 0 [rf w (some l0), rf w l1, .int l2] h h' := by
  refine of_body [(0, rf w (some l0)), (1, rf w l1), (2, .int l2)] (by decide) (by simp [lg_sl, rf_cat, cat_i, cat_l, cat_a]) (by simp [lv_args, rf_cat, cat_i, cat_l, cat_a]) ?_
  intro x hw_ hnL_ hl_ hc hret hnm hQ
  subst hw_; subst hl_
  have hnl : ∀ i, i < 4 → i < x.nL := fun i h => by rw [hnL_]; exact h
  have hw : wpO (sX8_readPair F l0 l1 l2 h) (fun r => r = h') := ⟨_, hs, rfl⟩
  unfold sX8_readPair at hw
  refine R_aload_n (q := 1) (i := 1) (v := l1) hc dX8_readPair_0 rfl rfl ?_
  refine R_getI hc fl_8_92 dX8_readPair_1 hw (fun t1 hw => ?_)
  refine R_bipush (v := (8 : Int32)) hc dX8_readPair_4 kB_8 ?_
  refine R_icmp_lt (tgt := 15) hc dX8_readPair_6 (by decide) hw (fun hw => ?_) (fun hw => ?_)
  · refine R_aload_n (q := 1) (i := 1) (v := l1) hc dX8_readPair_15 rfl rfl ?_
    refine R_getI hc fl_8_92 dX8_readPair_16 hw (fun t2 hw => ?_)
    refine R_bipush (v := (6 : Int32)) hc dX8_readPair_19 kB_6 ?_
    refine R_imul hc dX8_readPair_21 ?_
    refine R_nmI hw (fun l3_3 hw => ?_)
    refine R_istore_n (i := 3) (v := l3_3) hc [(3, .int l3_3), (0, rf x.w (some l0)), (1, rf x.w l1), (2, .int l2)] dX8_readPair_22 rfl (hnl 3 (le_b rfl)) rfl ?_
    refine R_aload_n (q := 2) (i := 1) (v := l1) hc dX8_readPair_23 rfl rfl ?_
    refine R_getR hc fl_8_95 dX8_readPair_24 hw (fun t4 hw => ?_)
    refine R_iload_n (q := 0) (i := 3) (v := l3_3) hc dX8_readPair_27 rfl rfl ?_
    refine R_iconst (v := (0 : Int32)) hc dX8_readPair_28 kI_0 ?_
    refine R_iadd hc dX8_readPair_29 ?_
    refine R_aload_n (q := 1) (i := 0) (v := (some l0)) hc dX8_readPair_30 rfl rfl ?_
    refine R_cVIi (As := []) (rest := [.int (l3_3 + (0 : Int32)), rf x.w t4]) (r := (some l0)) (ci := 8) hc ml_8_99 mf_X8_readNet rfl (by decide) ⟨rfl, rfl⟩ ⟨le_b rfl, le_b rfl⟩ ⟨Nat.zero_le _, Nat.zero_le _⟩ (fun a v h' e => mt_X8_readNet e) rfl rfl (by simp [rf_cat, cat_i, cat_l, cat_a]) dX8_readPair_31 hw (fun t6 h7 hw => ?_)
    refine R_iastore hc dX8_readPair_34 hw (fun h8 hw => ?_)
    refine R_aload_n (q := 1) (i := 0) (v := (some l0)) hc dX8_readPair_35 rfl rfl ?_
    refine R_ldcS (k := 5) hc (hc.sk.2.2.2.2.2.1 (RX8, 103, "up", 5) (List.mem_of_getElem? (i := 5) rfl)) dX8_readPair_36 ?_
    refine R_cVVi (As := [.ref (x.w.aS (5))]) (rest := []) (r := (some l0)) (ci := 8) hc ml_8_35 mf_X8_expectWord rfl (by decide) ⟨rfl, rfl⟩ ⟨le_b rfl, le_b rfl⟩ ⟨Nat.zero_le _, Nat.zero_le _⟩ (fun a h' e => mt_X8_expectWord e) rfl rfl (Nat.zero_le _) dX8_readPair_38 hw (fun h10 hw => ?_)
    refine R_aload_n (q := 2) (i := 1) (v := l1) hc dX8_readPair_41 rfl rfl ?_
    refine R_getR hc fl_8_95 dX8_readPair_42 hw (fun t11 hw => ?_)
    refine R_iload_n (q := 0) (i := 3) (v := l3_3) hc dX8_readPair_45 rfl rfl ?_
    refine R_iconst (v := (1 : Int32)) hc dX8_readPair_46 kI_1 ?_
    refine R_iadd hc dX8_readPair_47 ?_
    refine R_aload_n (q := 1) (i := 0) (v := (some l0)) hc dX8_readPair_48 rfl rfl ?_
    refine R_cVIi (As := []) (rest := [.int (l3_3 + (1 : Int32)), rf x.w t11]) (r := (some l0)) (ci := 8) hc ml_8_99 mf_X8_readNet rfl (by decide) ⟨rfl, rfl⟩ ⟨le_b rfl, le_b rfl⟩ ⟨Nat.zero_le _, Nat.zero_le _⟩ (fun a v h' e => mt_X8_readNet e) rfl rfl (by simp [rf_cat, cat_i, cat_l, cat_a]) dX8_readPair_49 hw (fun t13 h14 hw => ?_)
    refine R_iastore hc dX8_readPair_52 hw (fun h15 hw => ?_)
    refine R_aload_n (q := 2) (i := 1) (v := l1) hc dX8_readPair_53 rfl rfl ?_
    refine R_getR hc fl_8_95 dX8_readPair_54 hw (fun t16 hw => ?_)
    refine R_iload_n (q := 0) (i := 3) (v := l3_3) hc dX8_readPair_57 rfl rfl ?_
    refine R_iconst (v := (1 : Int32)) hc dX8_readPair_58 kI_1 ?_
    refine R_iadd hc dX8_readPair_59 ?_
    refine R_iconst (v := (1 : Int32)) hc dX8_readPair_60 kI_1 ?_
    refine R_iadd hc dX8_readPair_61 ?_
    refine R_aload_n (q := 1) (i := 0) (v := (some l0)) hc dX8_readPair_62 rfl rfl ?_
    refine R_cVIi (As := []) (rest := [.int ((l3_3 + (1 : Int32)) + (1 : Int32)), rf x.w t16]) (r := (some l0)) (ci := 8) hc ml_8_99 mf_X8_readNet rfl (by decide) ⟨rfl, rfl⟩ ⟨le_b rfl, le_b rfl⟩ ⟨Nat.zero_le _, Nat.zero_le _⟩ (fun a v h' e => mt_X8_readNet e) rfl rfl (by simp [rf_cat, cat_i, cat_l, cat_a]) dX8_readPair_63 hw (fun t18 h19 hw => ?_)
    refine R_iastore hc dX8_readPair_66 hw (fun h20 hw => ?_)
    refine R_aload_n (q := 1) (i := 0) (v := (some l0)) hc dX8_readPair_67 rfl rfl ?_
    refine R_ldcS (k := 6) hc (hc.sk.2.2.2.2.2.1 (RX8, 105, "low", 6) (List.mem_of_getElem? (i := 6) rfl)) dX8_readPair_68 ?_
    refine R_cVVi (As := [.ref (x.w.aS (6))]) (rest := []) (r := (some l0)) (ci := 8) hc ml_8_35 mf_X8_expectWord rfl (by decide) ⟨rfl, rfl⟩ ⟨le_b rfl, le_b rfl⟩ ⟨Nat.zero_le _, Nat.zero_le _⟩ (fun a h' e => mt_X8_expectWord e) rfl rfl (Nat.zero_le _) dX8_readPair_70 hw (fun h22 hw => ?_)
    refine R_aload_n (q := 2) (i := 1) (v := l1) hc dX8_readPair_73 rfl rfl ?_
    refine R_getR hc fl_8_95 dX8_readPair_74 hw (fun t23 hw => ?_)
    refine R_iload_n (q := 0) (i := 3) (v := l3_3) hc dX8_readPair_77 rfl rfl ?_
    refine R_iconst (v := (3 : Int32)) hc dX8_readPair_78 kI_3 ?_
    refine R_iadd hc dX8_readPair_79 ?_
    refine R_aload_n (q := 1) (i := 0) (v := (some l0)) hc dX8_readPair_80 rfl rfl ?_
    refine R_cVIi (As := []) (rest := [.int (l3_3 + (3 : Int32)), rf x.w t23]) (r := (some l0)) (ci := 8) hc ml_8_99 mf_X8_readNet rfl (by decide) ⟨rfl, rfl⟩ ⟨le_b rfl, le_b rfl⟩ ⟨Nat.zero_le _, Nat.zero_le _⟩ (fun a v h' e => mt_X8_readNet e) rfl rfl (by simp [rf_cat, cat_i, cat_l, cat_a]) dX8_readPair_81 hw (fun t25 h26 hw => ?_)
    refine R_iastore hc dX8_readPair_84 hw (fun h27 hw => ?_)
    refine R_aload_n (q := 2) (i := 1) (v := l1) hc dX8_readPair_85 rfl rfl ?_
    refine R_getR hc fl_8_95 dX8_readPair_86 hw (fun t28 hw => ?_)
    refine R_iload_n (q := 0) (i := 3) (v := l3_3) hc dX8_readPair_89 rfl rfl ?_
    refine R_iconst (v := (3 : Int32)) hc dX8_readPair_90 kI_3 ?_
    refine R_iadd hc dX8_readPair_91 ?_
    refine R_iconst (v := (1 : Int32)) hc dX8_readPair_92 kI_1 ?_
    refine R_iadd hc dX8_readPair_93 ?_
    refine R_aload_n (q := 1) (i := 0) (v := (some l0)) hc dX8_readPair_94 rfl rfl ?_
    refine R_cVIi (As := []) (rest := [.int ((l3_3 + (3 : Int32)) + (1 : Int32)), rf x.w t28]) (r := (some l0)) (ci := 8) hc ml_8_99 mf_X8_readNet rfl (by decide) ⟨rfl, rfl⟩ ⟨le_b rfl, le_b rfl⟩ ⟨Nat.zero_le _, Nat.zero_le _⟩ (fun a v h' e => mt_X8_readNet e) rfl rfl (by simp [rf_cat, cat_i, cat_l, cat_a]) dX8_readPair_95 hw (fun t30 h31 hw => ?_)
    refine R_iastore hc dX8_readPair_98 hw (fun h32 hw => ?_)
    refine R_aload_n (q := 2) (i := 1) (v := l1) hc dX8_readPair_99 rfl rfl ?_
    refine R_getR hc fl_8_95 dX8_readPair_100 hw (fun t33 hw => ?_)
    refine R_iload_n (q := 0) (i := 3) (v := l3_3) hc dX8_readPair_103 rfl rfl ?_
    refine R_iconst (v := (5 : Int32)) hc dX8_readPair_104 kI_5 ?_
    refine R_iadd hc dX8_readPair_105 ?_
    refine R_aload_n (q := 1) (i := 0) (v := (some l0)) hc dX8_readPair_106 rfl rfl ?_
    refine R_ldcS (k := 7) hc (hc.sk.2.2.2.2.2.1 (RX8, 107, "wide", 7) (List.mem_of_getElem? (i := 7) rfl)) dX8_readPair_107 ?_
    refine R_cVIi (As := [.ref (x.w.aS (7))]) (rest := [.int (l3_3 + (5 : Int32)), rf x.w t33]) (r := (some l0)) (ci := 8) hc ml_8_109 mf_X8_passWord rfl (by decide) ⟨rfl, rfl⟩ ⟨le_b rfl, le_b rfl⟩ ⟨Nat.zero_le _, Nat.zero_le _⟩ (fun a v h' e => mt_X8_passWord e) rfl rfl (by simp [rf_cat, cat_i, cat_l, cat_a]) dX8_readPair_109 hw (fun t35 h36 hw => ?_)
    refine R_join (fun (r : (Int32 × HP)) => match r with | (s37, h38) => Rn x 0 0 126 [(0, rf x.w (some l0)), (1, rf x.w l1), (2, .int l2)] [.int s37, .int (l3_3 + (5 : Int32)), rf x.w t33] h38) hw (fun r hw => ?_) (fun hw => ?_)
    · obtain ⟨s37, h38⟩ := r
      show Rn x 0 0 126 [(0, rf x.w (some l0)), (1, rf x.w l1), (2, .int l2)] [.int s37, .int (l3_3 + (5 : Int32)), rf x.w t33] h38
      refine R_iastore hc dX8_readPair_126 hw (fun h42 hw => ?_)
      refine R_aload_n (q := 0) (i := 0) (v := (some l0)) hc dX8_readPair_127 rfl rfl ?_
      refine R_getI hc fl_8_15 dX8_readPair_128 hw (fun t43 hw => ?_)
      refine R_iconst (v := (-1 : Int32)) hc dX8_readPair_131 kI_m1 ?_
      refine R_icmp_ne (tgt := 147) hc dX8_readPair_132 (by decide) hw (fun hw => ?_) (fun hw => ?_)
      · exact R_return hc hret hQ hw dX8_readPair_147
      · refine R_aload_n (q := 1) (i := 1) (v := l1) hc dX8_readPair_135 rfl rfl ?_
        refine R_cVIi (As := []) (rest := []) (r := l1) (ci := 1) hc ml_8_112 mf_X1_addPair rfl (by decide) ⟨rfl, rfl⟩ ⟨le_b rfl, le_b rfl⟩ ⟨Nat.zero_le _, Nat.zero_le _⟩ (fun a v h' e => mt_X1_addPair e) rfl rfl (Nat.zero_le _) dX8_readPair_136 hw (fun t45 h46 hw => ?_)
        refine R_if_ne (tgt := 147) hc dX8_readPair_139 (by decide) hw (fun hw => ?_) (fun hw => ?_)
        · exact R_return hc hret hQ hw dX8_readPair_147
        · refine R_aload_n (q := 0) (i := 0) (v := (some l0)) hc dX8_readPair_142 rfl rfl ?_
          refine R_iload_n (q := 2) (i := 2) (v := l2) hc dX8_readPair_143 rfl rfl ?_
          refine R_cVVi (As := [.int l2]) (rest := []) (r := (some l0)) (ci := 8) hc ml_8_60 mf_X8_fail rfl (by decide) ⟨rfl, rfl⟩ ⟨le_b rfl, le_b rfl⟩ ⟨Nat.zero_le _, Nat.zero_le _⟩ (fun a h' e => mt_X8_fail e) rfl rfl (Nat.zero_le _) dX8_readPair_144 hw (fun h48 hw => ?_)
          exact R_return hc hret hQ hw dX8_readPair_147
    · refine R_if_eq (tgt := 125) hc dX8_readPair_112 (by decide) hw (fun hw => ?_) (fun hw => ?_)
      · refine R_iconst (v := (1 : Int32)) hc dX8_readPair_125 kI_1 ?_
        refine R_sub hc [1, 2, 3] rfl ?_
        exact (wpO_some hw :)
      · refine R_aload_n (q := 1) (i := 0) (v := (some l0)) hc dX8_readPair_115 rfl rfl ?_
        refine R_iconst (v := (1 : Int32)) hc dX8_readPair_116 kI_1 ?_
        refine R_bipush (v := (40 : Int32)) hc dX8_readPair_117 kB_40 ?_
        refine R_cVIi (As := [.int (1 : Int32), .int (40 : Int32)]) (rest := [.int (l3_3 + (5 : Int32)), rf x.w t33]) (r := (some l0)) (ci := 8) hc ml_8_39 mf_X8_readNumber rfl (by decide) ⟨rfl, rfl⟩ ⟨le_b rfl, le_b rfl⟩ ⟨Nat.zero_le _, Nat.zero_le _⟩ (fun a v h' e => mt_X8_readNumber e) rfl rfl (by simp [rf_cat, cat_i, cat_l, cat_a]) dX8_readPair_119 hw (fun t40 h41 hw => ?_)
        refine R_goto (tgt := 126) hc dX8_readPair_122 (by decide) ?_
        refine R_sub hc [1, 2, 3] rfl ?_
        exact (wpO_some hw :)
  · refine R_aload_n (q := 0) (i := 0) (v := (some l0)) hc dX8_readPair_9 rfl rfl ?_
    refine R_iload_n (q := 2) (i := 2) (v := l2) hc dX8_readPair_10 rfl rfl ?_
    refine R_cVVi (As := [.int l2]) (rest := []) (r := (some l0)) (ci := 8) hc ml_8_60 mf_X8_fail rfl (by decide) ⟨rfl, rfl⟩ ⟨le_b rfl, le_b rfl⟩ ⟨Nat.zero_le _, Nat.zero_le _⟩ (fun a h' e => mt_X8_fail e) rfl rfl (Nat.zero_le _) dX8_readPair_11 hw (fun h50 hw => ?_)
    exact R_return hc hret hQ hw dX8_readPair_14
theorem dX8_readNewNet_0 : decode cX8_readNewNet 0 = .ok (.aload_n 0, 1) := by decide +kernel
theorem dX8_readNewNet_1 : decode cX8_readNewNet 1 = .ok (.iconst 0, 1) := by decide +kernel
theorem dX8_readNewNet_2 : decode cX8_readNewNet 2 = .ok (.bipush 11, 2) := by decide +kernel
theorem dX8_readNewNet_4 : decode cX8_readNewNet 4 = .ok (.invokevirtual 39, 3) := by decide +kernel
theorem dX8_readNewNet_7 : decode cX8_readNewNet 7 = .ok (.istore_n 2, 1) := by decide +kernel
theorem dX8_readNewNet_8 : decode cX8_readNewNet 8 = .ok (.aload_n 0, 1) := by decide +kernel
theorem dX8_readNewNet_9 : decode cX8_readNewNet 9 = .ok (.getfield 15, 3) := by decide +kernel
theorem dX8_readNewNet_12 : decode cX8_readNewNet 12 = .ok (.iconst (-1), 1) := by decide +kernel
theorem dX8_readNewNet_13 : decode cX8_readNewNet 13 = .ok (.if_icmp .ne 19, 3) := by decide +kernel
theorem dX8_readNewNet_16 : decode cX8_readNewNet 16 = .ok (.iload_n 1, 1) := by decide +kernel
theorem dX8_readNewNet_17 : decode cX8_readNewNet 17 = .ok (.iload_n 2, 1) := by decide +kernel
theorem dX8_readNewNet_18 : decode cX8_readNewNet 18 = .ok (.invokestatic 129, 3) := by decide +kernel
theorem dX8_readNewNet_21 : decode cX8_readNewNet 21 = .ok (.ifCond .eq 11, 3) := by decide +kernel
theorem dX8_readNewNet_24 : decode cX8_readNewNet 24 = .ok (.aload_n 0, 1) := by decide +kernel
theorem dX8_readNewNet_25 : decode cX8_readNewNet 25 = .ok (.aload_n 0, 1) := by decide +kernel
theorem dX8_readNewNet_26 : decode cX8_readNewNet 26 = .ok (.getfield 25, 3) := by decide +kernel
theorem dX8_readNewNet_29 : decode cX8_readNewNet 29 = .ok (.invokevirtual 60, 3) := by decide +kernel
theorem dX8_readNewNet_32 : decode cX8_readNewNet 32 = .ok (.iload_n 2, 1) := by decide +kernel
theorem dX8_readNewNet_33 : decode cX8_readNewNet 33 = .ok (.ireturn, 1) := by decide +kernel
def sX8_readNewNet (F : Nat) (l0 : Nat) (l1 : Int32) (h : HP) : Option (Int32 × HP) :=
  (dO h 8 (some l0)).bind fun a1 =>
  bd2 (sX8_readNumber F a1 (0 : Int32) (11 : Int32) h) fun t2 h3 =>
  (gI h3 8 (some l0) 1).bind fun t4 =>
  if ¬ t4 = (-1 : Int32) then
    some (t2, h3)
  else
    (sX10_has F l1 t2 h3).bind fun t5 =>
    if t5 = 0 then
      some (t2, h3)
    else
      (gI h3 8 (some l0) 4).bind fun t6 =>
      (dO h3 8 (some l0)).bind fun a7 =>
      (sX8_fail F a7 t6 h3).bind fun h8 =>
      some (t2, h8)
abbrev rm_X8_readNewNet : Room := { frames := 2, cells := 0, slots := 0, locals := 45 }
set_option maxRecDepth 100000 in
set_option maxHeartbeats 4000000 in
theorem mt_X8_readNewNet {w : WD} {l : Launch} {F : Nat} {l0 : Nat} {l1 : Int32} {h : HP} {v : Int32} {h' : HP} (hs : sX8_readNewNet F l0 l1 h = some (v, h')) : MI w l yX8_readNewNet cX8_readNewNet 3 .int rm_X8_readNewNet 0 0 [rf w (some l0), .int l1] h v h' := by
  refine of_body [(0, rf w (some l0)), (1, .int l1)] (by decide) (by simp [lg_sl, rf_cat, cat_i, cat_l, cat_a]) (by simp [lv_args, rf_cat, cat_i, cat_l, cat_a]) ?_
  intro x hw_ hnL_ hl_ hc hret hnm hQ
  subst hw_; subst hl_
  have hnl : ∀ i, i < 3 → i < x.nL := fun i h => by rw [hnL_]; exact h
  have hw : wpO (sX8_readNewNet F l0 l1 h) (fun r => r = (v, h')) := ⟨_, hs, rfl⟩
  unfold sX8_readNewNet at hw
  refine R_aload_n (q := 0) (i := 0) (v := (some l0)) hc dX8_readNewNet_0 rfl rfl ?_
  refine R_iconst (v := (0 : Int32)) hc dX8_readNewNet_1 kI_0 ?_
  refine R_bipush (v := (11 : Int32)) hc dX8_readNewNet_2 kB_11 ?_
  refine R_cVIi (As := [.int (0 : Int32), .int (11 : Int32)]) (rest := []) (r := (some l0)) (ci := 8) hc ml_8_39 mf_X8_readNumber rfl (by decide) ⟨rfl, rfl⟩ ⟨le_b rfl, le_b rfl⟩ ⟨Nat.zero_le _, Nat.zero_le _⟩ (fun a v h' e => mt_X8_readNumber e) rfl rfl (Nat.zero_le _) dX8_readNewNet_4 hw (fun t2 h3 hw => ?_)
  refine R_istore_n (i := 2) (v := t2) hc [(2, .int t2), (0, rf x.w (some l0)), (1, .int l1)] dX8_readNewNet_7 rfl (hnl 2 (le_b rfl)) rfl ?_
  refine R_aload_n (q := 1) (i := 0) (v := (some l0)) hc dX8_readNewNet_8 rfl rfl ?_
  refine R_getI hc fl_8_15 dX8_readNewNet_9 hw (fun t4 hw => ?_)
  refine R_iconst (v := (-1 : Int32)) hc dX8_readNewNet_12 kI_m1 ?_
  refine R_icmp_ne (tgt := 32) hc dX8_readNewNet_13 (by decide) hw (fun hw => ?_) (fun hw => ?_)
  · refine R_iload_n (q := 0) (i := 2) (v := t2) hc dX8_readNewNet_32 rfl rfl ?_
    exact R_ireturn hc hret rfl hQ hw dX8_readNewNet_33
  · refine R_iload_n (q := 2) (i := 1) (v := l1) hc dX8_readNewNet_16 rfl rfl ?_
    refine R_iload_n (q := 0) (i := 2) (v := t2) hc dX8_readNewNet_17 rfl rfl ?_
    refine R_cNI (As := [.int l1, .int t2]) (rest := []) hc mn_8_129 mf_X10_has ⟨rfl, rfl⟩ ⟨le_b rfl, le_b rfl⟩ ⟨Nat.zero_le _, Nat.zero_le _⟩ (fun v e => mt_X10_has e) rfl rfl (Nat.zero_le _) dX8_readNewNet_18 hw (fun t5 hw => ?_)
    refine R_if_eq (tgt := 32) hc dX8_readNewNet_21 (by decide) hw (fun hw => ?_) (fun hw => ?_)
    · refine R_iload_n (q := 0) (i := 2) (v := t2) hc dX8_readNewNet_32 rfl rfl ?_
      exact R_ireturn hc hret rfl hQ hw dX8_readNewNet_33
    · refine R_aload_n (q := 1) (i := 0) (v := (some l0)) hc dX8_readNewNet_24 rfl rfl ?_
      refine R_aload_n (q := 1) (i := 0) (v := (some l0)) hc dX8_readNewNet_25 rfl rfl ?_
      refine R_getI hc fl_8_25 dX8_readNewNet_26 hw (fun t6 hw => ?_)
      refine R_cVVi (As := [.int t6]) (rest := []) (r := (some l0)) (ci := 8) hc ml_8_60 mf_X8_fail rfl (by decide) ⟨rfl, rfl⟩ ⟨le_b rfl, le_b rfl⟩ ⟨Nat.zero_le _, Nat.zero_le _⟩ (fun a h' e => mt_X8_fail e) rfl rfl (Nat.zero_le _) dX8_readNewNet_29 hw (fun h8 hw => ?_)
      refine R_iload_n (q := 0) (i := 2) (v := t2) hc dX8_readNewNet_32 rfl rfl ?_
      exact R_ireturn hc hret rfl hQ hw dX8_readNewNet_33
theorem dX8_readPin_0 : decode cX8_readPin 0 = .ok (.aload_n 1, 1) := by decide +kernel
theorem dX8_readPin_1 : decode cX8_readPin 1 = .ok (.getfield 115, 3) := by decide +kernel
theorem dX8_readPin_4 : decode cX8_readPin 4 = .ok (.invokestatic 118, 3) := by decide +kernel
theorem dX8_readPin_7 : decode cX8_readPin 7 = .ok (.bipush 6, 2) := by decide +kernel
theorem dX8_readPin_9 : decode cX8_readPin 9 = .ok (.if_icmp .lt 9, 3) := by decide +kernel
theorem dX8_readPin_12 : decode cX8_readPin 12 = .ok (.aload_n 0, 1) := by decide +kernel
theorem dX8_readPin_13 : decode cX8_readPin 13 = .ok (.iload_n 2, 1) := by decide +kernel
theorem dX8_readPin_14 : decode cX8_readPin 14 = .ok (.invokevirtual 60, 3) := by decide +kernel
theorem dX8_readPin_17 : decode cX8_readPin 17 = .ok (.return_, 1) := by decide +kernel
theorem dX8_readPin_18 : decode cX8_readPin 18 = .ok (.aload_n 1, 1) := by decide +kernel
theorem dX8_readPin_19 : decode cX8_readPin 19 = .ok (.dup, 1) := by decide +kernel
theorem dX8_readPin_20 : decode cX8_readPin 20 = .ok (.getfield 115, 3) := by decide +kernel
theorem dX8_readPin_23 : decode cX8_readPin 23 = .ok (.iconst 1, 1) := by decide +kernel
theorem dX8_readPin_24 : decode cX8_readPin 24 = .ok (.aload_n 0, 1) := by decide +kernel
theorem dX8_readPin_25 : decode cX8_readPin 25 = .ok (.aload_n 1, 1) := by decide +kernel
theorem dX8_readPin_26 : decode cX8_readPin 26 = .ok (.getfield 115, 3) := by decide +kernel
theorem dX8_readPin_29 : decode cX8_readPin 29 = .ok (.invokevirtual 78, 3) := by decide +kernel
theorem dX8_readPin_32 : decode cX8_readPin 32 = .ok (.ishl, 1) := by decide +kernel
theorem dX8_readPin_33 : decode cX8_readPin 33 = .ok (.ior, 1) := by decide +kernel
theorem dX8_readPin_34 : decode cX8_readPin 34 = .ok (.putfield 115, 3) := by decide +kernel
theorem dX8_readPin_37 : decode cX8_readPin 37 = .ok (.return_, 1) := by decide +kernel
def sX8_readPin (F : Nat) (l0 : Nat) (l1 : Option Nat) (l2 : Int32) (h : HP) : Option HP :=
  (gI h 1 l1 3).bind fun t1 =>
  (sJ6_bitCount_0f7a4 F t1 h).bind fun t2 =>
  if t2 < (6 : Int32) then
    (gI h 1 l1 3).bind fun t3 =>
    (gI h 1 l1 3).bind fun t4 =>
    (dO h 8 (some l0)).bind fun a5 =>
    bd2 (sX8_readNewNet F a5 t4 h) fun t6 h7 =>
    (pI h7 1 l1 3 (t3 ||| (jshl (1 : Int32) t6))).bind fun h8 =>
    some h8
  else
    (dO h 8 (some l0)).bind fun a9 =>
    (sX8_fail F a9 l2 h).bind fun h10 =>
    some h10
abbrev rm_X8_readPin : Room := { frames := 3, cells := 0, slots := 0, locals := 67 }
set_option maxRecDepth 100000 in
set_option maxHeartbeats 4000000 in
theorem mt_X8_readPin {w : WD} {l : Launch} {F : Nat} {l0 : Nat} {l1 : Option Nat} {l2 : Int32} {h : HP} {h' : HP} (hs : sX8_readPin F l0 l1 l2 h = some h') : MV w l yX8_readPin cX8_readPin 3 rm_X8_readPin 0 0 [rf w (some l0), rf w l1, .int l2] h h' := by
  refine of_body [(0, rf w (some l0)), (1, rf w l1), (2, .int l2)] (by decide) (by simp [lg_sl, rf_cat, cat_i, cat_l, cat_a]) (by simp [lv_args, rf_cat, cat_i, cat_l, cat_a]) ?_
  intro x hw_ hnL_ hl_ hc hret hnm hQ
  subst hw_; subst hl_
  have hnl : ∀ i, i < 3 → i < x.nL := fun i h => by rw [hnL_]; exact h
  have hw : wpO (sX8_readPin F l0 l1 l2 h) (fun r => r = h') := ⟨_, hs, rfl⟩
  unfold sX8_readPin at hw
  refine R_aload_n (q := 1) (i := 1) (v := l1) hc dX8_readPin_0 rfl rfl ?_
  refine R_getI hc fl_8_115 dX8_readPin_1 hw (fun t1 hw => ?_)
  refine R_cSI (As := [.int t1]) (rest := []) hc ml_8_118 mf_J6_bitCount_0f7a4 ⟨rfl, rfl⟩ ⟨le_b rfl, le_b rfl⟩ ⟨Nat.zero_le _, Nat.zero_le _⟩ (fun v e => mt_J6_bitCount_0f7a4 e) rfl rfl (Nat.zero_le _) dX8_readPin_4 hw (fun t2 hw => ?_)
  refine R_bipush (v := (6 : Int32)) hc dX8_readPin_7 kB_6 ?_
  refine R_icmp_lt (tgt := 18) hc dX8_readPin_9 (by decide) hw (fun hw => ?_) (fun hw => ?_)
  · refine R_aload_n (q := 1) (i := 1) (v := l1) hc dX8_readPin_18 rfl rfl ?_
    refine R_dup hc dX8_readPin_19 (rf_cat _ _) ?_
    refine R_getI hc fl_8_115 dX8_readPin_20 hw (fun t3 hw => ?_)
    refine R_iconst (v := (1 : Int32)) hc dX8_readPin_23 kI_1 ?_
    refine R_aload_n (q := 0) (i := 0) (v := (some l0)) hc dX8_readPin_24 rfl rfl ?_
    refine R_aload_n (q := 1) (i := 1) (v := l1) hc dX8_readPin_25 rfl rfl ?_
    refine R_getI hc fl_8_115 dX8_readPin_26 hw (fun t4 hw => ?_)
    refine R_cVIi (As := [.int t4]) (rest := [.int (1 : Int32), .int t3, rf x.w l1]) (r := (some l0)) (ci := 8) hc ml_8_78 mf_X8_readNewNet rfl (by decide) ⟨rfl, rfl⟩ ⟨le_b rfl, le_b rfl⟩ ⟨Nat.zero_le _, Nat.zero_le _⟩ (fun a v h' e => mt_X8_readNewNet e) rfl rfl (by simp [rf_cat, cat_i, cat_l, cat_a]) dX8_readPin_29 hw (fun t6 h7 hw => ?_)
    refine R_ishl hc dX8_readPin_32 ?_
    refine R_ior hc dX8_readPin_33 ?_
    refine R_putI hc pl_8_115 rfl rfl dX8_readPin_34 hw (fun h8 hw => ?_)
    exact R_return hc hret hQ hw dX8_readPin_37
  · refine R_aload_n (q := 0) (i := 0) (v := (some l0)) hc dX8_readPin_12 rfl rfl ?_
    refine R_iload_n (q := 2) (i := 2) (v := l2) hc dX8_readPin_13 rfl rfl ?_
    refine R_cVVi (As := [.int l2]) (rest := []) (r := (some l0)) (ci := 8) hc ml_8_60 mf_X8_fail rfl (by decide) ⟨rfl, rfl⟩ ⟨le_b rfl, le_b rfl⟩ ⟨Nat.zero_le _, Nat.zero_le _⟩ (fun a h' e => mt_X8_fail e) rfl rfl (Nat.zero_le _) dX8_readPin_14 hw (fun h10 hw => ?_)
    exact R_return hc hret hQ hw dX8_readPin_17
theorem dX8_readBlock_0 : decode cX8_readBlock 0 = .ok (.aload_n 1, 1) := by decide +kernel
theorem dX8_readBlock_1 : decode cX8_readBlock 1 = .ok (.getfield 123, 3) := by decide +kernel
theorem dX8_readBlock_4 : decode cX8_readBlock 4 = .ok (.bipush 6, 2) := by decide +kernel
theorem dX8_readBlock_6 : decode cX8_readBlock 6 = .ok (.if_icmp .lt 9, 3) := by decide +kernel
theorem dX8_readBlock_9 : decode cX8_readBlock 9 = .ok (.aload_n 0, 1) := by decide +kernel
theorem dX8_readBlock_10 : decode cX8_readBlock 10 = .ok (.iload_n 2, 1) := by decide +kernel
theorem dX8_readBlock_11 : decode cX8_readBlock 11 = .ok (.invokevirtual 60, 3) := by decide +kernel
theorem dX8_readBlock_14 : decode cX8_readBlock 14 = .ok (.return_, 1) := by decide +kernel
theorem dX8_readBlock_15 : decode cX8_readBlock 15 = .ok (.aload_n 1, 1) := by decide +kernel
theorem dX8_readBlock_16 : decode cX8_readBlock 16 = .ok (.getfield 123, 3) := by decide +kernel
theorem dX8_readBlock_19 : decode cX8_readBlock 19 = .ok (.iconst 3, 1) := by decide +kernel
theorem dX8_readBlock_20 : decode cX8_readBlock 20 = .ok (.imul, 1) := by decide +kernel
theorem dX8_readBlock_21 : decode cX8_readBlock 21 = .ok (.istore_n 3, 1) := by decide +kernel
theorem dX8_readBlock_22 : decode cX8_readBlock 22 = .ok (.aload_n 0, 1) := by decide +kernel
theorem dX8_readBlock_23 : decode cX8_readBlock 23 = .ok (.iconst 0, 1) := by decide +kernel
theorem dX8_readBlock_24 : decode cX8_readBlock 24 = .ok (.bipush 11, 2) := by decide +kernel
theorem dX8_readBlock_26 : decode cX8_readBlock 26 = .ok (.invokevirtual 39, 3) := by decide +kernel
theorem dX8_readBlock_29 : decode cX8_readBlock 29 = .ok (.istore 4, 2) := by decide +kernel
theorem dX8_readBlock_31 : decode cX8_readBlock 31 = .ok (.aload_n 0, 1) := by decide +kernel
theorem dX8_readBlock_32 : decode cX8_readBlock 32 = .ok (.iconst 0, 1) := by decide +kernel
theorem dX8_readBlock_33 : decode cX8_readBlock 33 = .ok (.bipush 40, 2) := by decide +kernel
theorem dX8_readBlock_35 : decode cX8_readBlock 35 = .ok (.invokevirtual 39, 3) := by decide +kernel
theorem dX8_readBlock_38 : decode cX8_readBlock 38 = .ok (.istore 5, 2) := by decide +kernel
theorem dX8_readBlock_40 : decode cX8_readBlock 40 = .ok (.aload_n 0, 1) := by decide +kernel
theorem dX8_readBlock_41 : decode cX8_readBlock 41 = .ok (.iload 5, 2) := by decide +kernel
theorem dX8_readBlock_43 : decode cX8_readBlock 43 = .ok (.bipush 40, 2) := by decide +kernel
theorem dX8_readBlock_45 : decode cX8_readBlock 45 = .ok (.invokevirtual 39, 3) := by decide +kernel
theorem dX8_readBlock_48 : decode cX8_readBlock 48 = .ok (.istore 6, 2) := by decide +kernel
theorem dX8_readBlock_50 : decode cX8_readBlock 50 = .ok (.aload_n 1, 1) := by decide +kernel
theorem dX8_readBlock_51 : decode cX8_readBlock 51 = .ok (.getfield 126, 3) := by decide +kernel
theorem dX8_readBlock_54 : decode cX8_readBlock 54 = .ok (.iload_n 3, 1) := by decide +kernel
theorem dX8_readBlock_55 : decode cX8_readBlock 55 = .ok (.iload 4, 2) := by decide +kernel
theorem dX8_readBlock_57 : decode cX8_readBlock 57 = .ok (.iastore, 1) := by decide +kernel
theorem dX8_readBlock_58 : decode cX8_readBlock 58 = .ok (.aload_n 1, 1) := by decide +kernel
theorem dX8_readBlock_59 : decode cX8_readBlock 59 = .ok (.getfield 126, 3) := by decide +kernel
theorem dX8_readBlock_62 : decode cX8_readBlock 62 = .ok (.iload_n 3, 1) := by decide +kernel
theorem dX8_readBlock_63 : decode cX8_readBlock 63 = .ok (.iconst 1, 1) := by decide +kernel
theorem dX8_readBlock_64 : decode cX8_readBlock 64 = .ok (.iadd, 1) := by decide +kernel
theorem dX8_readBlock_65 : decode cX8_readBlock 65 = .ok (.iload 5, 2) := by decide +kernel
theorem dX8_readBlock_67 : decode cX8_readBlock 67 = .ok (.iastore, 1) := by decide +kernel
theorem dX8_readBlock_68 : decode cX8_readBlock 68 = .ok (.aload_n 1, 1) := by decide +kernel
theorem dX8_readBlock_69 : decode cX8_readBlock 69 = .ok (.getfield 126, 3) := by decide +kernel
theorem dX8_readBlock_72 : decode cX8_readBlock 72 = .ok (.iload_n 3, 1) := by decide +kernel
theorem dX8_readBlock_73 : decode cX8_readBlock 73 = .ok (.iconst 2, 1) := by decide +kernel
theorem dX8_readBlock_74 : decode cX8_readBlock 74 = .ok (.iadd, 1) := by decide +kernel
theorem dX8_readBlock_75 : decode cX8_readBlock 75 = .ok (.iload 6, 2) := by decide +kernel
theorem dX8_readBlock_77 : decode cX8_readBlock 77 = .ok (.iastore, 1) := by decide +kernel
theorem dX8_readBlock_78 : decode cX8_readBlock 78 = .ok (.aload_n 1, 1) := by decide +kernel
theorem dX8_readBlock_79 : decode cX8_readBlock 79 = .ok (.dup, 1) := by decide +kernel
theorem dX8_readBlock_80 : decode cX8_readBlock 80 = .ok (.getfield 123, 3) := by decide +kernel
theorem dX8_readBlock_83 : decode cX8_readBlock 83 = .ok (.iconst 1, 1) := by decide +kernel
theorem dX8_readBlock_84 : decode cX8_readBlock 84 = .ok (.iadd, 1) := by decide +kernel
theorem dX8_readBlock_85 : decode cX8_readBlock 85 = .ok (.putfield 123, 3) := by decide +kernel
theorem dX8_readBlock_88 : decode cX8_readBlock 88 = .ok (.return_, 1) := by decide +kernel
def sX8_readBlock (F : Nat) (l0 : Nat) (l1 : Option Nat) (l2 : Int32) (h : HP) : Option HP :=
  (gI h 1 l1 6).bind fun t1 =>
  if t1 < (6 : Int32) then
    (gI h 1 l1 6).bind fun t2 =>
    nmI (t2 * (3 : Int32)) fun l3_3 =>
    (dO h 8 (some l0)).bind fun a4 =>
    bd2 (sX8_readNumber F a4 (0 : Int32) (11 : Int32) h) fun t5 h6 =>
    (dO h6 8 (some l0)).bind fun a7 =>
    bd2 (sX8_readNumber F a7 (0 : Int32) (40 : Int32) h6) fun t8 h9 =>
    (dO h9 8 (some l0)).bind fun a10 =>
    bd2 (sX8_readNumber F a10 t8 (40 : Int32) h9) fun t11 h12 =>
    (gR h12 1 l1 9).bind fun t13 =>
    (sI h12 t13 l3_3 t5).bind fun h14 =>
    (gR h14 1 l1 9).bind fun t15 =>
    (sI h14 t15 (l3_3 + (1 : Int32)) t8).bind fun h16 =>
    (gR h16 1 l1 9).bind fun t17 =>
    (sI h16 t17 (l3_3 + (2 : Int32)) t11).bind fun h18 =>
    (gI h18 1 l1 6).bind fun t19 =>
    (pI h18 1 l1 6 (t19 + (1 : Int32))).bind fun h20 =>
    some h20
  else
    (dO h 8 (some l0)).bind fun a21 =>
    (sX8_fail F a21 l2 h).bind fun h22 =>
    some h22
abbrev rm_X8_readBlock : Room := { frames := 2, cells := 0, slots := 0, locals := 45 }
set_option maxRecDepth 100000 in
set_option maxHeartbeats 4000000 in
theorem mt_X8_readBlock {w : WD} {l : Launch} {F : Nat} {l0 : Nat} {l1 : Option Nat} {l2 : Int32} {h : HP} {h' : HP} (hs : sX8_readBlock F l0 l1 l2 h = some h') : MV w l yX8_readBlock cX8_readBlock 7 rm_X8_readBlock 0 0 [rf w (some l0), rf w l1, .int l2] h h' := by
  refine of_body [(0, rf w (some l0)), (1, rf w l1), (2, .int l2)] (by decide) (by simp [lg_sl, rf_cat, cat_i, cat_l, cat_a]) (by simp [lv_args, rf_cat, cat_i, cat_l, cat_a]) ?_
  intro x hw_ hnL_ hl_ hc hret hnm hQ
  subst hw_; subst hl_
  have hnl : ∀ i, i < 7 → i < x.nL := fun i h => by rw [hnL_]; exact h
  have hw : wpO (sX8_readBlock F l0 l1 l2 h) (fun r => r = h') := ⟨_, hs, rfl⟩
  unfold sX8_readBlock at hw
  refine R_aload_n (q := 1) (i := 1) (v := l1) hc dX8_readBlock_0 rfl rfl ?_
  refine R_getI hc fl_8_123 dX8_readBlock_1 hw (fun t1 hw => ?_)
  refine R_bipush (v := (6 : Int32)) hc dX8_readBlock_4 kB_6 ?_
  refine R_icmp_lt (tgt := 15) hc dX8_readBlock_6 (by decide) hw (fun hw => ?_) (fun hw => ?_)
  · refine R_aload_n (q := 1) (i := 1) (v := l1) hc dX8_readBlock_15 rfl rfl ?_
    refine R_getI hc fl_8_123 dX8_readBlock_16 hw (fun t2 hw => ?_)
    refine R_iconst (v := (3 : Int32)) hc dX8_readBlock_19 kI_3 ?_
    refine R_imul hc dX8_readBlock_20 ?_
    refine R_nmI hw (fun l3_3 hw => ?_)
    refine R_istore_n (i := 3) (v := l3_3) hc [(3, .int l3_3), (0, rf x.w (some l0)), (1, rf x.w l1), (2, .int l2)] dX8_readBlock_21 rfl (hnl 3 (le_b rfl)) rfl ?_
    refine R_aload_n (q := 1) (i := 0) (v := (some l0)) hc dX8_readBlock_22 rfl rfl ?_
    refine R_iconst (v := (0 : Int32)) hc dX8_readBlock_23 kI_0 ?_
    refine R_bipush (v := (11 : Int32)) hc dX8_readBlock_24 kB_11 ?_
    refine R_cVIi (As := [.int (0 : Int32), .int (11 : Int32)]) (rest := []) (r := (some l0)) (ci := 8) hc ml_8_39 mf_X8_readNumber rfl (by decide) ⟨rfl, rfl⟩ ⟨le_b rfl, le_b rfl⟩ ⟨Nat.zero_le _, Nat.zero_le _⟩ (fun a v h' e => mt_X8_readNumber e) rfl rfl (Nat.zero_le _) dX8_readBlock_26 hw (fun t5 h6 hw => ?_)
    refine R_istore (i := 4) (v := t5) hc [(4, .int t5), (3, .int l3_3), (0, rf x.w (some l0)), (1, rf x.w l1), (2, .int l2)] dX8_readBlock_29 (hnl 4 (le_b rfl)) rfl ?_
    refine R_aload_n (q := 2) (i := 0) (v := (some l0)) hc dX8_readBlock_31 rfl rfl ?_
    refine R_iconst (v := (0 : Int32)) hc dX8_readBlock_32 kI_0 ?_
    refine R_bipush (v := (40 : Int32)) hc dX8_readBlock_33 kB_40 ?_
    refine R_cVIi (As := [.int (0 : Int32), .int (40 : Int32)]) (rest := []) (r := (some l0)) (ci := 8) hc ml_8_39 mf_X8_readNumber rfl (by decide) ⟨rfl, rfl⟩ ⟨le_b rfl, le_b rfl⟩ ⟨Nat.zero_le _, Nat.zero_le _⟩ (fun a v h' e => mt_X8_readNumber e) rfl rfl (Nat.zero_le _) dX8_readBlock_35 hw (fun t8 h9 hw => ?_)
    refine R_istore (i := 5) (v := t8) hc [(5, .int t8), (4, .int t5), (3, .int l3_3), (0, rf x.w (some l0)), (1, rf x.w l1), (2, .int l2)] dX8_readBlock_38 (hnl 5 (le_b rfl)) rfl ?_
    refine R_aload_n (q := 3) (i := 0) (v := (some l0)) hc dX8_readBlock_40 rfl rfl ?_
    refine R_iload (q := 0) (i := 5) (v := t8) hc dX8_readBlock_41 rfl ?_
    refine R_bipush (v := (40 : Int32)) hc dX8_readBlock_43 kB_40 ?_
    refine R_cVIi (As := [.int t8, .int (40 : Int32)]) (rest := []) (r := (some l0)) (ci := 8) hc ml_8_39 mf_X8_readNumber rfl (by decide) ⟨rfl, rfl⟩ ⟨le_b rfl, le_b rfl⟩ ⟨Nat.zero_le _, Nat.zero_le _⟩ (fun a v h' e => mt_X8_readNumber e) rfl rfl (Nat.zero_le _) dX8_readBlock_45 hw (fun t11 h12 hw => ?_)
    refine R_istore (i := 6) (v := t11) hc [(6, .int t11), (5, .int t8), (4, .int t5), (3, .int l3_3), (0, rf x.w (some l0)), (1, rf x.w l1), (2, .int l2)] dX8_readBlock_48 (hnl 6 (le_b rfl)) rfl ?_
    refine R_aload_n (q := 5) (i := 1) (v := l1) hc dX8_readBlock_50 rfl rfl ?_
    refine R_getR hc fl_8_126 dX8_readBlock_51 hw (fun t13 hw => ?_)
    refine R_iload_n (q := 3) (i := 3) (v := l3_3) hc dX8_readBlock_54 rfl rfl ?_
    refine R_iload (q := 2) (i := 4) (v := t5) hc dX8_readBlock_55 rfl ?_
    refine R_iastore hc dX8_readBlock_57 hw (fun h14 hw => ?_)
    refine R_aload_n (q := 5) (i := 1) (v := l1) hc dX8_readBlock_58 rfl rfl ?_
    refine R_getR hc fl_8_126 dX8_readBlock_59 hw (fun t15 hw => ?_)
    refine R_iload_n (q := 3) (i := 3) (v := l3_3) hc dX8_readBlock_62 rfl rfl ?_
    refine R_iconst (v := (1 : Int32)) hc dX8_readBlock_63 kI_1 ?_
    refine R_iadd hc dX8_readBlock_64 ?_
    refine R_iload (q := 1) (i := 5) (v := t8) hc dX8_readBlock_65 rfl ?_
    refine R_iastore hc dX8_readBlock_67 hw (fun h16 hw => ?_)
    refine R_aload_n (q := 5) (i := 1) (v := l1) hc dX8_readBlock_68 rfl rfl ?_
    refine R_getR hc fl_8_126 dX8_readBlock_69 hw (fun t17 hw => ?_)
    refine R_iload_n (q := 3) (i := 3) (v := l3_3) hc dX8_readBlock_72 rfl rfl ?_
    refine R_iconst (v := (2 : Int32)) hc dX8_readBlock_73 kI_2 ?_
    refine R_iadd hc dX8_readBlock_74 ?_
    refine R_iload (q := 0) (i := 6) (v := t11) hc dX8_readBlock_75 rfl ?_
    refine R_iastore hc dX8_readBlock_77 hw (fun h18 hw => ?_)
    refine R_aload_n (q := 5) (i := 1) (v := l1) hc dX8_readBlock_78 rfl rfl ?_
    refine R_dup hc dX8_readBlock_79 (rf_cat _ _) ?_
    refine R_getI hc fl_8_123 dX8_readBlock_80 hw (fun t19 hw => ?_)
    refine R_iconst (v := (1 : Int32)) hc dX8_readBlock_83 kI_1 ?_
    refine R_iadd hc dX8_readBlock_84 ?_
    refine R_putI hc pl_8_123 rfl rfl dX8_readBlock_85 hw (fun h20 hw => ?_)
    exact R_return hc hret hQ hw dX8_readBlock_88
  · refine R_aload_n (q := 0) (i := 0) (v := (some l0)) hc dX8_readBlock_9 rfl rfl ?_
    refine R_iload_n (q := 2) (i := 2) (v := l2) hc dX8_readBlock_10 rfl rfl ?_
    refine R_cVVi (As := [.int l2]) (rest := []) (r := (some l0)) (ci := 8) hc ml_8_60 mf_X8_fail rfl (by decide) ⟨rfl, rfl⟩ ⟨le_b rfl, le_b rfl⟩ ⟨Nat.zero_le _, Nat.zero_le _⟩ (fun a h' e => mt_X8_fail e) rfl rfl (Nat.zero_le _) dX8_readBlock_11 hw (fun h22 hw => ?_)
    exact R_return hc hret hQ hw dX8_readBlock_14
theorem dX8_readLine_0 : decode cX8_readLine 0 = .ok (.aload_n 0, 1) := by decide +kernel
theorem dX8_readLine_1 : decode cX8_readLine 1 = .ok (.invokevirtual 57, 3) := by decide +kernel
theorem dX8_readLine_4 : decode cX8_readLine 4 = .ok (.aload_n 0, 1) := by decide +kernel
theorem dX8_readLine_5 : decode cX8_readLine 5 = .ok (.getfield 25, 3) := by decide +kernel
theorem dX8_readLine_8 : decode cX8_readLine 8 = .ok (.istore_n 3, 1) := by decide +kernel
theorem dX8_readLine_9 : decode cX8_readLine 9 = .ok (.aload_n 0, 1) := by decide +kernel
theorem dX8_readLine_10 : decode cX8_readLine 10 = .ok (.getfield 15, 3) := by decide +kernel
theorem dX8_readLine_13 : decode cX8_readLine 13 = .ok (.iconst (-1), 1) := by decide +kernel
theorem dX8_readLine_14 : decode cX8_readLine 14 = .ok (.if_icmp .eq 4, 3) := by decide +kernel
theorem dX8_readLine_17 : decode cX8_readLine 17 = .ok (.return_, 1) := by decide +kernel
theorem dX8_readLine_18 : decode cX8_readLine 18 = .ok (.iload_n 2, 1) := by decide +kernel
theorem dX8_readLine_19 : decode cX8_readLine 19 = .ok (.bipush 20, 2) := by decide +kernel
theorem dX8_readLine_21 : decode cX8_readLine 21 = .ok (.if_icmp .ne 11, 3) := by decide +kernel
theorem dX8_readLine_24 : decode cX8_readLine 24 = .ok (.aload_n 0, 1) := by decide +kernel
theorem dX8_readLine_25 : decode cX8_readLine 25 = .ok (.iload_n 3, 1) := by decide +kernel
theorem dX8_readLine_26 : decode cX8_readLine 26 = .ok (.invokevirtual 60, 3) := by decide +kernel
theorem dX8_readLine_29 : decode cX8_readLine 29 = .ok (.goto 93, 3) := by decide +kernel
theorem dX8_readLine_32 : decode cX8_readLine 32 = .ok (.aload_n 0, 1) := by decide +kernel
theorem dX8_readLine_33 : decode cX8_readLine 33 = .ok (.ldc 64, 2) := by decide +kernel
theorem dX8_readLine_35 : decode cX8_readLine 35 = .ok (.invokevirtual 66, 3) := by decide +kernel
theorem dX8_readLine_38 : decode cX8_readLine 38 = .ok (.ifCond .eq 12, 3) := by decide +kernel
theorem dX8_readLine_41 : decode cX8_readLine 41 = .ok (.aload_n 0, 1) := by decide +kernel
theorem dX8_readLine_42 : decode cX8_readLine 42 = .ok (.aload_n 1, 1) := by decide +kernel
theorem dX8_readLine_43 : decode cX8_readLine 43 = .ok (.iload_n 3, 1) := by decide +kernel
theorem dX8_readLine_44 : decode cX8_readLine 44 = .ok (.invokevirtual 70, 3) := by decide +kernel
theorem dX8_readLine_47 : decode cX8_readLine 47 = .ok (.goto 75, 3) := by decide +kernel
theorem dX8_readLine_50 : decode cX8_readLine 50 = .ok (.aload_n 0, 1) := by decide +kernel
theorem dX8_readLine_51 : decode cX8_readLine 51 = .ok (.ldc 73, 2) := by decide +kernel
theorem dX8_readLine_53 : decode cX8_readLine 53 = .ok (.invokevirtual 66, 3) := by decide +kernel
theorem dX8_readLine_56 : decode cX8_readLine 56 = .ok (.ifCond .eq 25, 3) := by decide +kernel
theorem dX8_readLine_59 : decode cX8_readLine 59 = .ok (.aload_n 1, 1) := by decide +kernel
theorem dX8_readLine_60 : decode cX8_readLine 60 = .ok (.dup, 1) := by decide +kernel
theorem dX8_readLine_61 : decode cX8_readLine 61 = .ok (.getfield 75, 3) := by decide +kernel
theorem dX8_readLine_64 : decode cX8_readLine 64 = .ok (.iconst 1, 1) := by decide +kernel
theorem dX8_readLine_65 : decode cX8_readLine 65 = .ok (.aload_n 0, 1) := by decide +kernel
theorem dX8_readLine_66 : decode cX8_readLine 66 = .ok (.aload_n 1, 1) := by decide +kernel
theorem dX8_readLine_67 : decode cX8_readLine 67 = .ok (.getfield 75, 3) := by decide +kernel
theorem dX8_readLine_70 : decode cX8_readLine 70 = .ok (.invokevirtual 78, 3) := by decide +kernel
theorem dX8_readLine_73 : decode cX8_readLine 73 = .ok (.ishl, 1) := by decide +kernel
theorem dX8_readLine_74 : decode cX8_readLine 74 = .ok (.ior, 1) := by decide +kernel
theorem dX8_readLine_75 : decode cX8_readLine 75 = .ok (.putfield 75, 3) := by decide +kernel
theorem dX8_readLine_78 : decode cX8_readLine 78 = .ok (.goto 44, 3) := by decide +kernel
theorem dX8_readLine_81 : decode cX8_readLine 81 = .ok (.aload_n 0, 1) := by decide +kernel
theorem dX8_readLine_82 : decode cX8_readLine 82 = .ok (.ldc 82, 2) := by decide +kernel
theorem dX8_readLine_84 : decode cX8_readLine 84 = .ok (.invokevirtual 66, 3) := by decide +kernel
theorem dX8_readLine_87 : decode cX8_readLine 87 = .ok (.ifCond .eq 12, 3) := by decide +kernel
theorem dX8_readLine_90 : decode cX8_readLine 90 = .ok (.aload_n 0, 1) := by decide +kernel
theorem dX8_readLine_91 : decode cX8_readLine 91 = .ok (.aload_n 1, 1) := by decide +kernel
theorem dX8_readLine_92 : decode cX8_readLine 92 = .ok (.iload_n 3, 1) := by decide +kernel
theorem dX8_readLine_93 : decode cX8_readLine 93 = .ok (.invokevirtual 84, 3) := by decide +kernel
theorem dX8_readLine_96 : decode cX8_readLine 96 = .ok (.goto 26, 3) := by decide +kernel
theorem dX8_readLine_99 : decode cX8_readLine 99 = .ok (.aload_n 0, 1) := by decide +kernel
theorem dX8_readLine_100 : decode cX8_readLine 100 = .ok (.ldc 87, 2) := by decide +kernel
theorem dX8_readLine_102 : decode cX8_readLine 102 = .ok (.invokevirtual 66, 3) := by decide +kernel
theorem dX8_readLine_105 : decode cX8_readLine 105 = .ok (.ifCond .eq 12, 3) := by decide +kernel
theorem dX8_readLine_108 : decode cX8_readLine 108 = .ok (.aload_n 0, 1) := by decide +kernel
theorem dX8_readLine_109 : decode cX8_readLine 109 = .ok (.aload_n 1, 1) := by decide +kernel
theorem dX8_readLine_110 : decode cX8_readLine 110 = .ok (.iload_n 3, 1) := by decide +kernel
theorem dX8_readLine_111 : decode cX8_readLine 111 = .ok (.invokevirtual 89, 3) := by decide +kernel
theorem dX8_readLine_114 : decode cX8_readLine 114 = .ok (.goto 8, 3) := by decide +kernel
theorem dX8_readLine_117 : decode cX8_readLine 117 = .ok (.aload_n 0, 1) := by decide +kernel
theorem dX8_readLine_118 : decode cX8_readLine 118 = .ok (.iload_n 3, 1) := by decide +kernel
theorem dX8_readLine_119 : decode cX8_readLine 119 = .ok (.invokevirtual 60, 3) := by decide +kernel
theorem dX8_readLine_122 : decode cX8_readLine 122 = .ok (.return_, 1) := by decide +kernel
def sX8_readLine (F : Nat) (l0 : Nat) (l1 : Option Nat) (l2 : Int32) (h : HP) : Option HP :=
  (dO h 8 (some l0)).bind fun a1 =>
  (sX8_readWord F a1 h).bind fun h2 =>
  (gI h2 8 (some l0) 4).bind fun t3 =>
  (gI h2 8 (some l0) 1).bind fun t4 =>
  if t4 = (-1 : Int32) then
    if ¬ l2 = (20 : Int32) then
      (dO h2 8 (some l0)).bind fun a5 =>
      (sX8_wordIs F a5 (1) h2).bind fun t6 =>
      if t6 = 0 then
        (dO h2 8 (some l0)).bind fun a7 =>
        (sX8_wordIs F a7 (2) h2).bind fun t8 =>
        if t8 = 0 then
          (dO h2 8 (some l0)).bind fun a9 =>
          (sX8_wordIs F a9 (3) h2).bind fun t10 =>
          if t10 = 0 then
            (dO h2 8 (some l0)).bind fun a11 =>
            (sX8_wordIs F a11 (4) h2).bind fun t12 =>
            if t12 = 0 then
              (dO h2 8 (some l0)).bind fun a13 =>
              (sX8_fail F a13 t3 h2).bind fun h14 =>
              some h14
            else
              (dO h2 8 (some l0)).bind fun a15 =>
              (sX8_readBlock F a15 l1 t3 h2).bind fun h16 =>
              some h16
          else
            (dO h2 8 (some l0)).bind fun a17 =>
            (sX8_readPin F a17 l1 t3 h2).bind fun h18 =>
            some h18
        else
          (gI h2 1 l1 2).bind fun t19 =>
          (gI h2 1 l1 2).bind fun t20 =>
          (dO h2 8 (some l0)).bind fun a21 =>
          bd2 (sX8_readNewNet F a21 t20 h2) fun t22 h23 =>
          (pI h23 1 l1 2 (t19 ||| (jshl (1 : Int32) t22))).bind fun h24 =>
          some h24
      else
        (dO h2 8 (some l0)).bind fun a25 =>
        (sX8_readPair F a25 l1 t3 h2).bind fun h26 =>
        some h26
    else
      (dO h2 8 (some l0)).bind fun a27 =>
      (sX8_fail F a27 t3 h2).bind fun h28 =>
      some h28
  else
    some h2
abbrev rm_X8_readLine : Room := { frames := 7, cells := 0, slots := 0, locals := 151 }
set_option maxRecDepth 100000 in
set_option maxHeartbeats 4000000 in
theorem mt_X8_readLine {w : WD} {l : Launch} {F : Nat} {l0 : Nat} {l1 : Option Nat} {l2 : Int32} {h : HP} {h' : HP} (hs : sX8_readLine F l0 l1 l2 h = some h') : MV w l yX8_readLine cX8_readLine 4 rm_X8_readLine 0 0 [rf w (some l0), rf w l1, .int l2] h h' := by
  refine of_body [(0, rf w (some l0)), (1, rf w l1), (2, .int l2)] (by decide) (by simp [lg_sl, rf_cat, cat_i, cat_l, cat_a]) (by simp [lv_args, rf_cat, cat_i, cat_l, cat_a]) ?_
  intro x hw_ hnL_ hl_ hc hret hnm hQ
  subst hw_; subst hl_
  have hnl : ∀ i, i < 4 → i < x.nL := fun i h => by rw [hnL_]; exact h
  have hw : wpO (sX8_readLine F l0 l1 l2 h) (fun r => r = h') := ⟨_, hs, rfl⟩
  unfold sX8_readLine at hw
  refine R_aload_n (q := 0) (i := 0) (v := (some l0)) hc dX8_readLine_0 rfl rfl ?_
  refine R_cVVi (As := []) (rest := []) (r := (some l0)) (ci := 8) hc ml_8_57 mf_X8_readWord rfl (by decide) ⟨rfl, rfl⟩ ⟨le_b rfl, le_b rfl⟩ ⟨Nat.zero_le _, Nat.zero_le _⟩ (fun a h' e => mt_X8_readWord e) rfl rfl (Nat.zero_le _) dX8_readLine_1 hw (fun h2 hw => ?_)
  refine R_aload_n (q := 0) (i := 0) (v := (some l0)) hc dX8_readLine_4 rfl rfl ?_
  refine R_getI hc fl_8_25 dX8_readLine_5 hw (fun t3 hw => ?_)
  refine R_istore_n (i := 3) (v := t3) hc [(3, .int t3), (0, rf x.w (some l0)), (1, rf x.w l1), (2, .int l2)] dX8_readLine_8 rfl (hnl 3 (le_b rfl)) rfl ?_
  refine R_aload_n (q := 1) (i := 0) (v := (some l0)) hc dX8_readLine_9 rfl rfl ?_
  refine R_getI hc fl_8_15 dX8_readLine_10 hw (fun t4 hw => ?_)
  refine R_iconst (v := (-1 : Int32)) hc dX8_readLine_13 kI_m1 ?_
  refine R_icmp_eq (tgt := 18) hc dX8_readLine_14 (by decide) hw (fun hw => ?_) (fun hw => ?_)
  · refine R_iload_n (q := 3) (i := 2) (v := l2) hc dX8_readLine_18 rfl rfl ?_
    refine R_bipush (v := (20 : Int32)) hc dX8_readLine_19 kB_20 ?_
    refine R_icmp_ne (tgt := 32) hc dX8_readLine_21 (by decide) hw (fun hw => ?_) (fun hw => ?_)
    · refine R_aload_n (q := 1) (i := 0) (v := (some l0)) hc dX8_readLine_32 rfl rfl ?_
      refine R_ldcS (k := 1) hc (hc.sk.2.2.2.2.2.1 (RX8, 64, "pair", 1) (List.mem_of_getElem? (i := 1) rfl)) dX8_readLine_33 ?_
      refine R_cVI (As := [.ref (x.w.aS (1))]) (rest := []) (r := (some l0)) (ci := 8) hc ml_8_66 mf_X8_wordIs rfl (by decide) ⟨rfl, rfl⟩ ⟨le_b rfl, le_b rfl⟩ ⟨Nat.zero_le _, Nat.zero_le _⟩ (fun a v e => mt_X8_wordIs e) rfl rfl (Nat.zero_le _) dX8_readLine_35 hw (fun t6 hw => ?_)
      refine R_if_eq (tgt := 50) hc dX8_readLine_38 (by decide) hw (fun hw => ?_) (fun hw => ?_)
      · refine R_aload_n (q := 1) (i := 0) (v := (some l0)) hc dX8_readLine_50 rfl rfl ?_
        refine R_ldcS (k := 2) hc (hc.sk.2.2.2.2.2.1 (RX8, 73, "rail", 2) (List.mem_of_getElem? (i := 2) rfl)) dX8_readLine_51 ?_
        refine R_cVI (As := [.ref (x.w.aS (2))]) (rest := []) (r := (some l0)) (ci := 8) hc ml_8_66 mf_X8_wordIs rfl (by decide) ⟨rfl, rfl⟩ ⟨le_b rfl, le_b rfl⟩ ⟨Nat.zero_le _, Nat.zero_le _⟩ (fun a v e => mt_X8_wordIs e) rfl rfl (Nat.zero_le _) dX8_readLine_53 hw (fun t8 hw => ?_)
        refine R_if_eq (tgt := 81) hc dX8_readLine_56 (by decide) hw (fun hw => ?_) (fun hw => ?_)
        · refine R_aload_n (q := 1) (i := 0) (v := (some l0)) hc dX8_readLine_81 rfl rfl ?_
          refine R_ldcS (k := 3) hc (hc.sk.2.2.2.2.2.1 (RX8, 82, "pin", 3) (List.mem_of_getElem? (i := 3) rfl)) dX8_readLine_82 ?_
          refine R_cVI (As := [.ref (x.w.aS (3))]) (rest := []) (r := (some l0)) (ci := 8) hc ml_8_66 mf_X8_wordIs rfl (by decide) ⟨rfl, rfl⟩ ⟨le_b rfl, le_b rfl⟩ ⟨Nat.zero_le _, Nat.zero_le _⟩ (fun a v e => mt_X8_wordIs e) rfl rfl (Nat.zero_le _) dX8_readLine_84 hw (fun t10 hw => ?_)
          refine R_if_eq (tgt := 99) hc dX8_readLine_87 (by decide) hw (fun hw => ?_) (fun hw => ?_)
          · refine R_aload_n (q := 1) (i := 0) (v := (some l0)) hc dX8_readLine_99 rfl rfl ?_
            refine R_ldcS (k := 4) hc (hc.sk.2.2.2.2.2.1 (RX8, 87, "block", 4) (List.mem_of_getElem? (i := 4) rfl)) dX8_readLine_100 ?_
            refine R_cVI (As := [.ref (x.w.aS (4))]) (rest := []) (r := (some l0)) (ci := 8) hc ml_8_66 mf_X8_wordIs rfl (by decide) ⟨rfl, rfl⟩ ⟨le_b rfl, le_b rfl⟩ ⟨Nat.zero_le _, Nat.zero_le _⟩ (fun a v e => mt_X8_wordIs e) rfl rfl (Nat.zero_le _) dX8_readLine_102 hw (fun t12 hw => ?_)
            refine R_if_eq (tgt := 117) hc dX8_readLine_105 (by decide) hw (fun hw => ?_) (fun hw => ?_)
            · refine R_aload_n (q := 1) (i := 0) (v := (some l0)) hc dX8_readLine_117 rfl rfl ?_
              refine R_iload_n (q := 0) (i := 3) (v := t3) hc dX8_readLine_118 rfl rfl ?_
              refine R_cVVi (As := [.int t3]) (rest := []) (r := (some l0)) (ci := 8) hc ml_8_60 mf_X8_fail rfl (by decide) ⟨rfl, rfl⟩ ⟨le_b rfl, le_b rfl⟩ ⟨Nat.zero_le _, Nat.zero_le _⟩ (fun a h' e => mt_X8_fail e) rfl rfl (Nat.zero_le _) dX8_readLine_119 hw (fun h14 hw => ?_)
              exact R_return hc hret hQ hw dX8_readLine_122
            · refine R_aload_n (q := 1) (i := 0) (v := (some l0)) hc dX8_readLine_108 rfl rfl ?_
              refine R_aload_n (q := 2) (i := 1) (v := l1) hc dX8_readLine_109 rfl rfl ?_
              refine R_iload_n (q := 0) (i := 3) (v := t3) hc dX8_readLine_110 rfl rfl ?_
              refine R_cVVi (As := [rf x.w l1, .int t3]) (rest := []) (r := (some l0)) (ci := 8) hc ml_8_89 mf_X8_readBlock rfl (by decide) ⟨rfl, rfl⟩ ⟨le_b rfl, le_b rfl⟩ ⟨Nat.zero_le _, Nat.zero_le _⟩ (fun a h' e => mt_X8_readBlock e) rfl rfl (Nat.zero_le _) dX8_readLine_111 hw (fun h16 hw => ?_)
              refine R_goto (tgt := 122) hc dX8_readLine_114 (by decide) ?_
              exact R_return hc hret hQ hw dX8_readLine_122
          · refine R_aload_n (q := 1) (i := 0) (v := (some l0)) hc dX8_readLine_90 rfl rfl ?_
            refine R_aload_n (q := 2) (i := 1) (v := l1) hc dX8_readLine_91 rfl rfl ?_
            refine R_iload_n (q := 0) (i := 3) (v := t3) hc dX8_readLine_92 rfl rfl ?_
            refine R_cVVi (As := [rf x.w l1, .int t3]) (rest := []) (r := (some l0)) (ci := 8) hc ml_8_84 mf_X8_readPin rfl (by decide) ⟨rfl, rfl⟩ ⟨le_b rfl, le_b rfl⟩ ⟨Nat.zero_le _, Nat.zero_le _⟩ (fun a h' e => mt_X8_readPin e) rfl rfl (Nat.zero_le _) dX8_readLine_93 hw (fun h18 hw => ?_)
            refine R_goto (tgt := 122) hc dX8_readLine_96 (by decide) ?_
            exact R_return hc hret hQ hw dX8_readLine_122
        · refine R_aload_n (q := 2) (i := 1) (v := l1) hc dX8_readLine_59 rfl rfl ?_
          refine R_dup hc dX8_readLine_60 (rf_cat _ _) ?_
          refine R_getI hc fl_8_75 dX8_readLine_61 hw (fun t19 hw => ?_)
          refine R_iconst (v := (1 : Int32)) hc dX8_readLine_64 kI_1 ?_
          refine R_aload_n (q := 1) (i := 0) (v := (some l0)) hc dX8_readLine_65 rfl rfl ?_
          refine R_aload_n (q := 2) (i := 1) (v := l1) hc dX8_readLine_66 rfl rfl ?_
          refine R_getI hc fl_8_75 dX8_readLine_67 hw (fun t20 hw => ?_)
          refine R_cVIi (As := [.int t20]) (rest := [.int (1 : Int32), .int t19, rf x.w l1]) (r := (some l0)) (ci := 8) hc ml_8_78 mf_X8_readNewNet rfl (by decide) ⟨rfl, rfl⟩ ⟨le_b rfl, le_b rfl⟩ ⟨Nat.zero_le _, Nat.zero_le _⟩ (fun a v h' e => mt_X8_readNewNet e) rfl rfl (by simp [rf_cat, cat_i, cat_l, cat_a]) dX8_readLine_70 hw (fun t22 h23 hw => ?_)
          refine R_ishl hc dX8_readLine_73 ?_
          refine R_ior hc dX8_readLine_74 ?_
          refine R_putI hc pl_8_75 rfl rfl dX8_readLine_75 hw (fun h24 hw => ?_)
          refine R_goto (tgt := 122) hc dX8_readLine_78 (by decide) ?_
          exact R_return hc hret hQ hw dX8_readLine_122
      · refine R_aload_n (q := 1) (i := 0) (v := (some l0)) hc dX8_readLine_41 rfl rfl ?_
        refine R_aload_n (q := 2) (i := 1) (v := l1) hc dX8_readLine_42 rfl rfl ?_
        refine R_iload_n (q := 0) (i := 3) (v := t3) hc dX8_readLine_43 rfl rfl ?_
        refine R_cVVi (As := [rf x.w l1, .int t3]) (rest := []) (r := (some l0)) (ci := 8) hc ml_8_70 mf_X8_readPair rfl (by decide) ⟨rfl, rfl⟩ ⟨le_b rfl, le_b rfl⟩ ⟨Nat.zero_le _, Nat.zero_le _⟩ (fun a h' e => mt_X8_readPair e) rfl rfl (Nat.zero_le _) dX8_readLine_44 hw (fun h26 hw => ?_)
        refine R_goto (tgt := 122) hc dX8_readLine_47 (by decide) ?_
        exact R_return hc hret hQ hw dX8_readLine_122
    · refine R_aload_n (q := 1) (i := 0) (v := (some l0)) hc dX8_readLine_24 rfl rfl ?_
      refine R_iload_n (q := 0) (i := 3) (v := t3) hc dX8_readLine_25 rfl rfl ?_
      refine R_cVVi (As := [.int t3]) (rest := []) (r := (some l0)) (ci := 8) hc ml_8_60 mf_X8_fail rfl (by decide) ⟨rfl, rfl⟩ ⟨le_b rfl, le_b rfl⟩ ⟨Nat.zero_le _, Nat.zero_le _⟩ (fun a h' e => mt_X8_fail e) rfl rfl (Nat.zero_le _) dX8_readLine_26 hw (fun h28 hw => ?_)
      refine R_goto (tgt := 122) hc dX8_readLine_29 (by decide) ?_
      exact R_return hc hret hQ hw dX8_readLine_122
  · exact R_return hc hret hQ hw dX8_readLine_17
