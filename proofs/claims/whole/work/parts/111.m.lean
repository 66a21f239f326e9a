theorem dX11_neighbours_0 : decode cX11_neighbours 0 = .ok (.aload_n 0, 1) := by decide +kernel
theorem dX11_neighbours_1 : decode cX11_neighbours 1 = .ok (.aload_n 0, 1) := by decide +kernel
theorem dX11_neighbours_2 : decode cX11_neighbours 2 = .ok (.iload_n 1, 1) := by decide +kernel
theorem dX11_neighbours_3 : decode cX11_neighbours 3 = .ok (.invokevirtual 298, 3) := by decide +kernel
theorem dX11_neighbours_6 : decode cX11_neighbours 6 = .ok (.ifCond .eq 11, 3) := by decide +kernel
theorem dX11_neighbours_9 : decode cX11_neighbours 9 = .ok (.aload_n 0, 1) := by decide +kernel
theorem dX11_neighbours_10 : decode cX11_neighbours 10 = .ok (.iload_n 2, 1) := by decide +kernel
theorem dX11_neighbours_11 : decode cX11_neighbours 11 = .ok (.invokevirtual 298, 3) := by decide +kernel
theorem dX11_neighbours_14 : decode cX11_neighbours 14 = .ok (.ifCond .ne 7, 3) := by decide +kernel
theorem dX11_neighbours_17 : decode cX11_neighbours 17 = .ok (.iconst 1, 1) := by decide +kernel
theorem dX11_neighbours_18 : decode cX11_neighbours 18 = .ok (.goto 13, 3) := by decide +kernel
theorem dX11_neighbours_21 : decode cX11_neighbours 21 = .ok (.iload_n 1, 1) := by decide +kernel
theorem dX11_neighbours_22 : decode cX11_neighbours 22 = .ok (.iload_n 2, 1) := by decide +kernel
theorem dX11_neighbours_23 : decode cX11_neighbours 23 = .ok (.if_icmp .ne 7, 3) := by decide +kernel
theorem dX11_neighbours_26 : decode cX11_neighbours 26 = .ok (.iconst 2, 1) := by decide +kernel
theorem dX11_neighbours_27 : decode cX11_neighbours 27 = .ok (.goto 4, 3) := by decide +kernel
theorem dX11_neighbours_30 : decode cX11_neighbours 30 = .ok (.iconst 0, 1) := by decide +kernel
theorem dX11_neighbours_31 : decode cX11_neighbours 31 = .ok (.putfield 100, 3) := by decide +kernel
theorem dX11_neighbours_34 : decode cX11_neighbours 34 = .ok (.aload_n 0, 1) := by decide +kernel
theorem dX11_neighbours_35 : decode cX11_neighbours 35 = .ok (.getfield 100, 3) := by decide +kernel
theorem dX11_neighbours_38 : decode cX11_neighbours 38 = .ok (.ifCond .le 5, 3) := by decide +kernel
theorem dX11_neighbours_41 : decode cX11_neighbours 41 = .ok (.lconst 0, 1) := by decide +kernel
theorem dX11_neighbours_42 : decode cX11_neighbours 42 = .ok (.lreturn, 1) := by decide +kernel
theorem dX11_neighbours_43 : decode cX11_neighbours 43 = .ok (.aload_n 0, 1) := by decide +kernel
theorem dX11_neighbours_44 : decode cX11_neighbours 44 = .ok (.invokevirtual 333, 3) := by decide +kernel
theorem dX11_neighbours_47 : decode cX11_neighbours 47 = .ok (.aload_n 0, 1) := by decide +kernel
theorem dX11_neighbours_48 : decode cX11_neighbours 48 = .ok (.invokevirtual 354, 3) := by decide +kernel
theorem dX11_neighbours_51 : decode cX11_neighbours 51 = .ok (.aload_n 0, 1) := by decide +kernel
theorem dX11_neighbours_52 : decode cX11_neighbours 52 = .ok (.iload_n 1, 1) := by decide +kernel
theorem dX11_neighbours_53 : decode cX11_neighbours 53 = .ok (.iload_n 2, 1) := by decide +kernel
theorem dX11_neighbours_54 : decode cX11_neighbours 54 = .ok (.invokevirtual 380, 3) := by decide +kernel
theorem dX11_neighbours_57 : decode cX11_neighbours 57 = .ok (.aload_n 0, 1) := by decide +kernel
theorem dX11_neighbours_58 : decode cX11_neighbours 58 = .ok (.iload_n 2, 1) := by decide +kernel
theorem dX11_neighbours_59 : decode cX11_neighbours 59 = .ok (.iload_n 1, 1) := by decide +kernel
theorem dX11_neighbours_60 : decode cX11_neighbours 60 = .ok (.invokevirtual 380, 3) := by decide +kernel
theorem dX11_neighbours_63 : decode cX11_neighbours 63 = .ok (.ladd, 1) := by decide +kernel
theorem dX11_neighbours_64 : decode cX11_neighbours 64 = .ok (.lreturn, 1) := by decide +kernel
def sX11_neighbours (F : Nat) (l0 : Nat) (l1 : Int32) (l2 : Int32) (h : HP) : Option (Int64 × HP) :=
  (dO h 11 (some l0)).bind fun a1 =>
  (sX11_isFinger F a1 l1 h).bind fun t2 =>
  (if t2 = 0 then
      some (1 : Int32)
    else
      (dO h 11 (some l0)).bind fun a4 =>
      (sX11_isFinger F a4 l2 h).bind fun t5 =>
      if ¬ t5 = 0 then
        if ¬ l1 = l2 then
          some (0 : Int32)
        else
          some (2 : Int32)
      else
        some (1 : Int32)).bind fun s3 =>
  (pI h 11 (some l0) 0 s3).bind fun h6 =>
  (gI h6 11 (some l0) 0).bind fun t7 =>
  if t7 ≤ 0 then
    (dO h6 11 (some l0)).bind fun a8 =>
    (sX11_laysBest F a8 h6).bind fun h9 =>
    (dO h9 11 (some l0)).bind fun a10 =>
    (sX11_laysAhead F a10 h9).bind fun h11 =>
    (dO h11 11 (some l0)).bind fun a12 =>
    (sX11_aheadOf F a12 l1 l2 h11).bind fun t13 =>
    (dO h11 11 (some l0)).bind fun a14 =>
    (sX11_aheadOf F a14 l2 l1 h11).bind fun t15 =>
    some (t13 + t15, h11)
  else
    some ((0 : Int64), h6)
abbrev rm_X11_neighbours : Room := { frames := 7, cells := 0, slots := 0, locals := 174 }
set_option maxRecDepth 100000 in
set_option maxHeartbeats 4000000 in
theorem mt_X11_neighbours {w : WD} {l : Launch} {F : Nat} {l0 : Nat} {l1 : Int32} {l2 : Int32} {h : HP} {v : Int64} {h' : HP} (hs : sX11_neighbours F l0 l1 l2 h = some (v, h')) : MJ w l yX11_neighbours cX11_neighbours 3 rm_X11_neighbours 0 0 [rf w (some l0), .int l1, .int l2] h v h' := by
  refine of_body [(0, rf w (some l0)), (1, .int l1), (2, .int l2)] (by decide) (by simp [lg_sl, rf_cat, cat_i, cat_l, cat_a]) (by simp [lv_args, rf_cat, cat_i, cat_l, cat_a]) ?_
  intro x hw_ hnL_ hl_ hc hret hnm hQ
  subst hw_; subst hl_
  have hnl : ∀ i, i < 3 → i < x.nL := fun i h => by rw [hnL_]; exact h
  have hw : wpO (sX11_neighbours F l0 l1 l2 h) (fun r => r = (v, h')) := ⟨_, hs, rfl⟩
  unfold sX11_neighbours at hw
  refine R_aload_n (q := 0) (i := 0) (v := (some l0)) hc dX11_neighbours_0 rfl rfl ?_
  refine R_aload_n (q := 0) (i := 0) (v := (some l0)) hc dX11_neighbours_1 rfl rfl ?_
  refine R_iload_n (q := 1) (i := 1) (v := l1) hc dX11_neighbours_2 rfl rfl ?_
  refine R_cVI (As := [.int l1]) (rest := [rf x.w (some l0)]) (r := (some l0)) (ci := 11) hc ml_11_298 mf_X11_isFinger rfl (by decide) ⟨rfl, rfl⟩ ⟨le_b rfl, le_b rfl⟩ ⟨Nat.zero_le _, Nat.zero_le _⟩ (fun a v e => mt_X11_isFinger e) rfl rfl (le_b rfl) dX11_neighbours_3 hw (fun t2 hw => ?_)
  refine R_join (fun (s3 : Int32) => Rn x 0 0 31 [(0, rf x.w (some l0)), (1, .int l1), (2, .int l2)] [.int s3, rf x.w (some l0)] h) hw (fun r hw => ?_) (fun hw => ?_)
  · revert r hw
    intro s3 hw
    show Rn x 0 0 31 [(0, rf x.w (some l0)), (1, .int l1), (2, .int l2)] [.int s3, rf x.w (some l0)] h
    refine R_putI hc pl_11_100 rfl rfl dX11_neighbours_31 hw (fun h6 hw => ?_)
    refine R_aload_n (q := 0) (i := 0) (v := (some l0)) hc dX11_neighbours_34 rfl rfl ?_
    refine R_getI hc fl_11_100 dX11_neighbours_35 hw (fun t7 hw => ?_)
    refine R_if_le (tgt := 43) hc dX11_neighbours_38 (by decide) hw (fun hw => ?_) (fun hw => ?_)
    · refine R_aload_n (q := 0) (i := 0) (v := (some l0)) hc dX11_neighbours_43 rfl rfl ?_
      refine R_cVVi (As := []) (rest := []) (r := (some l0)) (ci := 11) hc ml_11_333 mf_X11_laysBest rfl (by decide) ⟨rfl, rfl⟩ ⟨le_b rfl, le_b rfl⟩ ⟨Nat.zero_le _, Nat.zero_le _⟩ (fun a h' e => mt_X11_laysBest e) rfl rfl (Nat.zero_le _) dX11_neighbours_44 hw (fun h9 hw => ?_)
      refine R_aload_n (q := 0) (i := 0) (v := (some l0)) hc dX11_neighbours_47 rfl rfl ?_
      refine R_cVVi (As := []) (rest := []) (r := (some l0)) (ci := 11) hc ml_11_354 mf_X11_laysAhead rfl (by decide) ⟨rfl, rfl⟩ ⟨le_b rfl, le_b rfl⟩ ⟨Nat.zero_le _, Nat.zero_le _⟩ (fun a h' e => mt_X11_laysAhead e) rfl rfl (Nat.zero_le _) dX11_neighbours_48 hw (fun h11 hw => ?_)
      refine R_aload_n (q := 0) (i := 0) (v := (some l0)) hc dX11_neighbours_51 rfl rfl ?_
      refine R_iload_n (q := 1) (i := 1) (v := l1) hc dX11_neighbours_52 rfl rfl ?_
      refine R_iload_n (q := 2) (i := 2) (v := l2) hc dX11_neighbours_53 rfl rfl ?_
      refine R_cVJ (As := [.int l1, .int l2]) (rest := []) (r := (some l0)) (ci := 11) hc ml_11_380 mf_X11_aheadOf rfl (by decide) ⟨rfl, rfl⟩ ⟨le_b rfl, le_b rfl⟩ ⟨Nat.zero_le _, Nat.zero_le _⟩ (fun a v e => mt_X11_aheadOf e) rfl rfl (Nat.zero_le _) dX11_neighbours_54 hw (fun t13 hw => ?_)
      refine R_aload_n (q := 0) (i := 0) (v := (some l0)) hc dX11_neighbours_57 rfl rfl ?_
      refine R_iload_n (q := 2) (i := 2) (v := l2) hc dX11_neighbours_58 rfl rfl ?_
      refine R_iload_n (q := 1) (i := 1) (v := l1) hc dX11_neighbours_59 rfl rfl ?_
      refine R_cVJ (As := [.int l2, .int l1]) (rest := [.long t13]) (r := (some l0)) (ci := 11) hc ml_11_380 mf_X11_aheadOf rfl (by decide) ⟨rfl, rfl⟩ ⟨le_b rfl, le_b rfl⟩ ⟨Nat.zero_le _, Nat.zero_le _⟩ (fun a v e => mt_X11_aheadOf e) rfl rfl (le_b rfl) dX11_neighbours_60 hw (fun t15 hw => ?_)
      refine R_ladd hc dX11_neighbours_63 ?_
      exact R_lreturn hc hret hQ hw dX11_neighbours_64
    · refine R_lconst (v := (0 : Int64)) hc dX11_neighbours_41 kL_0 ?_
      exact R_lreturn hc hret hQ hw dX11_neighbours_42
  · refine R_if_eq (tgt := 17) hc dX11_neighbours_6 (by decide) hw (fun hw => ?_) (fun hw => ?_)
    · refine R_iconst (v := (1 : Int32)) hc dX11_neighbours_17 kI_1 ?_
      refine R_goto (tgt := 31) hc dX11_neighbours_18 (by decide) ?_
      refine R_sub hc [0, 1, 2] rfl ?_
      exact (wpO_some hw :)
    · refine R_aload_n (q := 0) (i := 0) (v := (some l0)) hc dX11_neighbours_9 rfl rfl ?_
      refine R_iload_n (q := 2) (i := 2) (v := l2) hc dX11_neighbours_10 rfl rfl ?_
      refine R_cVI (As := [.int l2]) (rest := [rf x.w (some l0)]) (r := (some l0)) (ci := 11) hc ml_11_298 mf_X11_isFinger rfl (by decide) ⟨rfl, rfl⟩ ⟨le_b rfl, le_b rfl⟩ ⟨Nat.zero_le _, Nat.zero_le _⟩ (fun a v e => mt_X11_isFinger e) rfl rfl (le_b rfl) dX11_neighbours_11 hw (fun t5 hw => ?_)
      refine R_if_ne (tgt := 21) hc dX11_neighbours_14 (by decide) hw (fun hw => ?_) (fun hw => ?_)
      · refine R_iload_n (q := 1) (i := 1) (v := l1) hc dX11_neighbours_21 rfl rfl ?_
        refine R_iload_n (q := 2) (i := 2) (v := l2) hc dX11_neighbours_22 rfl rfl ?_
        refine R_icmp_ne (tgt := 30) hc dX11_neighbours_23 (by decide) hw (fun hw => ?_) (fun hw => ?_)
        · refine R_iconst (v := (0 : Int32)) hc dX11_neighbours_30 kI_0 ?_
          refine R_sub hc [0, 1, 2] rfl ?_
          exact (wpO_some hw :)
        · refine R_iconst (v := (2 : Int32)) hc dX11_neighbours_26 kI_2 ?_
          refine R_goto (tgt := 31) hc dX11_neighbours_27 (by decide) ?_
          refine R_sub hc [0, 1, 2] rfl ?_
          exact (wpO_some hw :)
      · refine R_iconst (v := (1 : Int32)) hc dX11_neighbours_17 kI_1 ?_
        refine R_goto (tgt := 31) hc dX11_neighbours_18 (by decide) ?_
        refine R_sub hc [0, 1, 2] rfl ?_
        exact (wpO_some hw :)
theorem dX11_starts_0 : decode cX11_starts 0 = .ok (.aload_n 0, 1) := by decide +kernel
theorem dX11_starts_1 : decode cX11_starts 1 = .ok (.aload_n 0, 1) := by decide +kernel
theorem dX11_starts_2 : decode cX11_starts 2 = .ok (.iload_n 1, 1) := by decide +kernel
theorem dX11_starts_3 : decode cX11_starts 3 = .ok (.invokevirtual 298, 3) := by decide +kernel
theorem dX11_starts_6 : decode cX11_starts 6 = .ok (.ifCond .eq 7, 3) := by decide +kernel
theorem dX11_starts_9 : decode cX11_starts 9 = .ok (.iconst 0, 1) := by decide +kernel
theorem dX11_starts_10 : decode cX11_starts 10 = .ok (.goto 4, 3) := by decide +kernel
theorem dX11_starts_13 : decode cX11_starts 13 = .ok (.iconst 1, 1) := by decide +kernel
theorem dX11_starts_14 : decode cX11_starts 14 = .ok (.putfield 100, 3) := by decide +kernel
theorem dX11_starts_17 : decode cX11_starts 17 = .ok (.aload_n 0, 1) := by decide +kernel
theorem dX11_starts_18 : decode cX11_starts 18 = .ok (.getfield 100, 3) := by decide +kernel
theorem dX11_starts_21 : decode cX11_starts 21 = .ok (.ifCond .le 5, 3) := by decide +kernel
theorem dX11_starts_24 : decode cX11_starts 24 = .ok (.lconst 0, 1) := by decide +kernel
theorem dX11_starts_25 : decode cX11_starts 25 = .ok (.lreturn, 1) := by decide +kernel
theorem dX11_starts_26 : decode cX11_starts 26 = .ok (.aload_n 0, 1) := by decide +kernel
theorem dX11_starts_27 : decode cX11_starts 27 = .ok (.invokevirtual 333, 3) := by decide +kernel
theorem dX11_starts_30 : decode cX11_starts 30 = .ok (.lconst 0, 1) := by decide +kernel
theorem dX11_starts_31 : decode cX11_starts 31 = .ok (.lstore_n 2, 1) := by decide +kernel
theorem dX11_starts_32 : decode cX11_starts 32 = .ok (.iconst 0, 1) := by decide +kernel
theorem dX11_starts_33 : decode cX11_starts 33 = .ok (.istore 4, 2) := by decide +kernel
theorem dX11_starts_35 : decode cX11_starts 35 = .ok (.iload 4, 2) := by decide +kernel
theorem dX11_starts_37 : decode cX11_starts 37 = .ok (.iconst 4, 1) := by decide +kernel
theorem dX11_starts_38 : decode cX11_starts 38 = .ok (.if_icmp .ge 48, 3) := by decide +kernel
theorem dX11_starts_41 : decode cX11_starts 41 = .ok (.iconst 1, 1) := by decide +kernel
theorem dX11_starts_42 : decode cX11_starts 42 = .ok (.iload_n 1, 1) := by decide +kernel
theorem dX11_starts_43 : decode cX11_starts 43 = .ok (.ishl, 1) := by decide +kernel
theorem dX11_starts_44 : decode cX11_starts 44 = .ok (.iload_n 1, 1) := by decide +kernel
theorem dX11_starts_45 : decode cX11_starts 45 = .ok (.iload 4, 2) := by decide +kernel
theorem dX11_starts_47 : decode cX11_starts 47 = .ok (.invokestatic 123, 3) := by decide +kernel
theorem dX11_starts_50 : decode cX11_starts 50 = .ok (.istore 5, 2) := by decide +kernel
theorem dX11_starts_52 : decode cX11_starts 52 = .ok (.lload_n 2, 1) := by decide +kernel
theorem dX11_starts_53 : decode cX11_starts 53 = .ok (.aload_n 0, 1) := by decide +kernel
theorem dX11_starts_54 : decode cX11_starts 54 = .ok (.getfield 29, 3) := by decide +kernel
theorem dX11_starts_57 : decode cX11_starts 57 = .ok (.iload 5, 2) := by decide +kernel
theorem dX11_starts_59 : decode cX11_starts 59 = .ok (.iaload, 1) := by decide +kernel
theorem dX11_starts_60 : decode cX11_starts 60 = .ok (.aload_n 0, 1) := by decide +kernel
theorem dX11_starts_61 : decode cX11_starts 61 = .ok (.getfield 142, 3) := by decide +kernel
theorem dX11_starts_64 : decode cX11_starts 64 = .ok (.if_icmp .ne 13, 3) := by decide +kernel
theorem dX11_starts_67 : decode cX11_starts 67 = .ok (.aload_n 0, 1) := by decide +kernel
theorem dX11_starts_68 : decode cX11_starts 68 = .ok (.getfield 32, 3) := by decide +kernel
theorem dX11_starts_71 : decode cX11_starts 71 = .ok (.iload 5, 2) := by decide +kernel
theorem dX11_starts_73 : decode cX11_starts 73 = .ok (.laload, 1) := by decide +kernel
theorem dX11_starts_74 : decode cX11_starts 74 = .ok (.goto 4, 3) := by decide +kernel
theorem dX11_starts_77 : decode cX11_starts 77 = .ok (.lconst 0, 1) := by decide +kernel
theorem dX11_starts_78 : decode cX11_starts 78 = .ok (.ladd, 1) := by decide +kernel
theorem dX11_starts_79 : decode cX11_starts 79 = .ok (.lstore_n 2, 1) := by decide +kernel
theorem dX11_starts_80 : decode cX11_starts 80 = .ok (.iinc 4 1, 3) := by decide +kernel
theorem dX11_starts_83 : decode cX11_starts 83 = .ok (.goto (-48), 3) := by decide +kernel
theorem dX11_starts_86 : decode cX11_starts 86 = .ok (.lload_n 2, 1) := by decide +kernel
theorem dX11_starts_87 : decode cX11_starts 87 = .ok (.lreturn, 1) := by decide +kernel
def sX11_starts_L35 (F : Nat) (l0 : Nat) (l1 : Int32) (l2 : Int64) (l4 : Int32) (h : HP) : Option ((Int64 × Int32) ⊕ Int64) :=
  if (4 : Int32) ≤ l4 then
    some (.inr l2)
  else
    (sX11_state F (jshl (1 : Int32) l1) l1 l4 h).bind fun t8 =>
    (gR h 11 (some l0) 12).bind fun t9 =>
    (aI h 13 t9 t8).bind fun t10 =>
    (gI h 11 (some l0) 17).bind fun t11 =>
    if ¬ t10 = t11 then
      nmJ (l2 + (0 : Int64)) fun l2_12 =>
      some (.inl (l2_12, l4 + (1 : Int32)))
    else
      (gR h 11 (some l0) 13).bind fun t13 =>
      (aJ h t13 t8).bind fun t14 =>
      nmJ (l2 + t14) fun l2_15 =>
      some (.inl (l2_15, l4 + (1 : Int32)))
def sX11_starts (F : Nat) (l0 : Nat) (l1 : Int32) (h : HP) : Option (Int64 × HP) :=
  (dO h 11 (some l0)).bind fun a1 =>
  (sX11_isFinger F a1 l1 h).bind fun t2 =>
  (if t2 = 0 then
      some (1 : Int32)
    else
      some (0 : Int32)).bind fun s3 =>
  (pI h 11 (some l0) 0 s3).bind fun h4 =>
  (gI h4 11 (some l0) 0).bind fun t5 =>
  if t5 ≤ 0 then
    (dO h4 11 (some l0)).bind fun a6 =>
    (sX11_laysBest F a6 h4).bind fun h7 =>
    (iter (fun s => sX11_starts_L35 F l0 l1 s.1 s.2 h7) F ((0 : Int64), (0 : Int32))).bind fun l2_16 =>
      some (l2_16, h7)
  else
    some ((0 : Int64), h4)
abbrev rm_X11_starts : Room := { frames := 7, cells := 0, slots := 0, locals := 174 }
set_option maxRecDepth 100000 in
set_option maxHeartbeats 4000000 in
theorem mt_X11_starts {w : WD} {l : Launch} {F : Nat} {l0 : Nat} {l1 : Int32} {h : HP} {v : Int64} {h' : HP} (hs : sX11_starts F l0 l1 h = some (v, h')) : MJ w l yX11_starts cX11_starts 6 rm_X11_starts 0 0 [rf w (some l0), .int l1] h v h' := by
  refine of_body [(0, rf w (some l0)), (1, .int l1)] (by decide) (by simp [lg_sl, rf_cat, cat_i, cat_l, cat_a]) (by simp [lv_args, rf_cat, cat_i, cat_l, cat_a]) ?_
  intro x hw_ hnL_ hl_ hc hret hnm hQ
  subst hw_; subst hl_
  have hnl : ∀ i, i < 6 → i < x.nL := fun i h => by rw [hnL_]; exact h
  have hw : wpO (sX11_starts F l0 l1 h) (fun r => r = (v, h')) := ⟨_, hs, rfl⟩
  unfold sX11_starts at hw
  refine R_aload_n (q := 0) (i := 0) (v := (some l0)) hc dX11_starts_0 rfl rfl ?_
  refine R_aload_n (q := 0) (i := 0) (v := (some l0)) hc dX11_starts_1 rfl rfl ?_
  refine R_iload_n (q := 1) (i := 1) (v := l1) hc dX11_starts_2 rfl rfl ?_
  refine R_cVI (As := [.int l1]) (rest := [rf x.w (some l0)]) (r := (some l0)) (ci := 11) hc ml_11_298 mf_X11_isFinger rfl (by decide) ⟨rfl, rfl⟩ ⟨le_b rfl, le_b rfl⟩ ⟨Nat.zero_le _, Nat.zero_le _⟩ (fun a v e => mt_X11_isFinger e) rfl rfl (le_b rfl) dX11_starts_3 hw (fun t2 hw => ?_)
  refine R_join (fun (s3 : Int32) => Rn x 0 0 14 [(0, rf x.w (some l0)), (1, .int l1)] [.int s3, rf x.w (some l0)] h) hw (fun r hw => ?_) (fun hw => ?_)
  · revert r hw
    intro s3 hw
    show Rn x 0 0 14 [(0, rf x.w (some l0)), (1, .int l1)] [.int s3, rf x.w (some l0)] h
    refine R_putI hc pl_11_100 rfl rfl dX11_starts_14 hw (fun h4 hw => ?_)
    refine R_aload_n (q := 0) (i := 0) (v := (some l0)) hc dX11_starts_17 rfl rfl ?_
    refine R_getI hc fl_11_100 dX11_starts_18 hw (fun t5 hw => ?_)
    refine R_if_le (tgt := 26) hc dX11_starts_21 (by decide) hw (fun hw => ?_) (fun hw => ?_)
    · refine R_aload_n (q := 0) (i := 0) (v := (some l0)) hc dX11_starts_26 rfl rfl ?_
      refine R_cVVi (As := []) (rest := []) (r := (some l0)) (ci := 11) hc ml_11_333 mf_X11_laysBest rfl (by decide) ⟨rfl, rfl⟩ ⟨le_b rfl, le_b rfl⟩ ⟨Nat.zero_le _, Nat.zero_le _⟩ (fun a h' e => mt_X11_laysBest e) rfl rfl (Nat.zero_le _) dX11_starts_27 hw (fun h7 hw => ?_)
      refine R_lconst (v := (0 : Int64)) hc dX11_starts_30 kL_0 ?_
      refine R_lstore_n (i := 2) (v := (0 : Int64)) hc [(2, .long (0 : Int64)), (0, rf x.w (some l0)), (1, .int l1)] dX11_starts_31 rfl (hnl 3 (le_b rfl)) rfl ?_
      refine R_iconst (v := (0 : Int32)) hc dX11_starts_32 kI_0 ?_
      refine R_istore (i := 4) (v := (0 : Int32)) hc [(4, .int (0 : Int32)), (2, .long (0 : Int64)), (0, rf x.w (some l0)), (1, .int l1)] dX11_starts_33 (hnl 4 (le_b rfl)) rfl ?_
      refine R_sub hc [2, 3, 1, 0] rfl ?_
      refine R_loop (P := fun (s : (Int64 × Int32)) => Rn x 0 0 35 [(0, rf x.w (some l0)), (1, .int l1), (2, .long s.1), (4, .int s.2)] [] h7) (fun l2_16 => Rn x 0 0 86 [(2, .long l2_16)] [] h7) hw (fun r hw => ?_) (fun X hX s hw => ?_)
      · revert r hw
        intro l2_16 hw
        show Rn x 0 0 86 [(2, .long l2_16)] [] h7
        refine R_lload_n (q := 0) (i := 2) (v := l2_16) hc dX11_starts_86 rfl rfl ?_
        exact R_lreturn hc hret hQ hw dX11_starts_87
      · obtain ⟨l2_18, l4_19⟩ := s
        show Rn x 0 0 35 [(0, rf x.w (some l0)), (1, .int l1), (2, .long l2_18), (4, .int l4_19)] [] h7
        have hw : wpO (sX11_starts_L35 F l0 l1 l2_18 l4_19 h7) _ := hw
        unfold sX11_starts_L35 at hw
        refine R_iload (q := 3) (i := 4) (v := l4_19) hc dX11_starts_35 rfl ?_
        refine R_iconst (v := (4 : Int32)) hc dX11_starts_37 kI_4 ?_
        refine R_icmp_ge (tgt := 86) hc dX11_starts_38 (by decide) hw (fun hw => ?_) (fun hw => ?_)
        · refine R_sub hc [2] rfl ?_
          exact (wpO_some hw :)
        · refine R_iconst (v := (1 : Int32)) hc dX11_starts_41 kI_1 ?_
          refine R_iload_n (q := 1) (i := 1) (v := l1) hc dX11_starts_42 rfl rfl ?_
          refine R_ishl hc dX11_starts_43 ?_
          refine R_iload_n (q := 1) (i := 1) (v := l1) hc dX11_starts_44 rfl rfl ?_
          refine R_iload (q := 3) (i := 4) (v := l4_19) hc dX11_starts_45 rfl ?_
          refine R_cSI (As := [.int (jshl (1 : Int32) l1), .int l1, .int l4_19]) (rest := []) hc ml_11_123 mf_X11_state ⟨rfl, rfl⟩ ⟨le_b rfl, le_b rfl⟩ ⟨Nat.zero_le _, Nat.zero_le _⟩ (fun v e => mt_X11_state e) rfl rfl (Nat.zero_le _) dX11_starts_47 hw (fun t8 hw => ?_)
          refine R_istore (i := 5) (v := t8) hc [(5, .int t8), (0, rf x.w (some l0)), (1, .int l1), (2, .long l2_18), (4, .int l4_19)] dX11_starts_50 (hnl 5 (le_b rfl)) rfl ?_
          refine R_lload_n (q := 3) (i := 2) (v := l2_18) hc dX11_starts_52 rfl rfl ?_
          refine R_aload_n (q := 1) (i := 0) (v := (some l0)) hc dX11_starts_53 rfl rfl ?_
          refine R_getR hc fl_11_29 dX11_starts_54 hw (fun t9 hw => ?_)
          refine R_iload (q := 0) (i := 5) (v := t8) hc dX11_starts_57 rfl ?_
          refine R_iaload hc dX11_starts_59 hw (fun t10 hw => ?_)
          refine R_aload_n (q := 1) (i := 0) (v := (some l0)) hc dX11_starts_60 rfl rfl ?_
          refine R_getI hc fl_11_142 dX11_starts_61 hw (fun t11 hw => ?_)
          refine R_icmp_ne (tgt := 77) hc dX11_starts_64 (by decide) hw (fun hw => ?_) (fun hw => ?_)
          · refine R_lconst (v := (0 : Int64)) hc dX11_starts_77 kL_0 ?_
            refine R_ladd hc dX11_starts_78 ?_
            refine R_nmJ hw (fun l2_12 hw => ?_)
            refine R_lstore_n (i := 2) (v := l2_12) hc [(2, .long l2_12), (5, .int t8), (0, rf x.w (some l0)), (1, .int l1), (4, .int l4_19)] dX11_starts_79 rfl (hnl 3 (le_b rfl)) rfl ?_
            refine R_iinc (q := 4) (i := 4) (v := l4_19) hc [(4, .int (l4_19 + (1 : Int32))), (2, .long l2_12), (5, .int t8), (0, rf x.w (some l0)), (1, .int l1)] dX11_starts_80 rfl (kC_1 _) (hnl 4 (le_b rfl)) rfl ?_
            refine R_goto (tgt := 35) hc dX11_starts_83 (by decide) ?_
            refine R_sub hc [3, 4, 1, 0] rfl ?_
            exact hX (l2_12, l4_19 + (1 : Int32)) (wpO_some hw :)
          · refine R_aload_n (q := 1) (i := 0) (v := (some l0)) hc dX11_starts_67 rfl rfl ?_
            refine R_getR hc fl_11_32 dX11_starts_68 hw (fun t13 hw => ?_)
            refine R_iload (q := 0) (i := 5) (v := t8) hc dX11_starts_71 rfl ?_
            refine R_laload hc dX11_starts_73 hw (fun t14 hw => ?_)
            refine R_goto (tgt := 78) hc dX11_starts_74 (by decide) ?_
            refine R_ladd hc dX11_starts_78 ?_
            refine R_nmJ hw (fun l2_15 hw => ?_)
            refine R_lstore_n (i := 2) (v := l2_15) hc [(2, .long l2_15), (5, .int t8), (0, rf x.w (some l0)), (1, .int l1), (4, .int l4_19)] dX11_starts_79 rfl (hnl 3 (le_b rfl)) rfl ?_
            refine R_iinc (q := 4) (i := 4) (v := l4_19) hc [(4, .int (l4_19 + (1 : Int32))), (2, .long l2_15), (5, .int t8), (0, rf x.w (some l0)), (1, .int l1)] dX11_starts_80 rfl (kC_1 _) (hnl 4 (le_b rfl)) rfl ?_
            refine R_goto (tgt := 35) hc dX11_starts_83 (by decide) ?_
            refine R_sub hc [3, 4, 1, 0] rfl ?_
            exact hX (l2_15, l4_19 + (1 : Int32)) (wpO_some hw :)
    · refine R_lconst (v := (0 : Int64)) hc dX11_starts_24 kL_0 ?_
      exact R_lreturn hc hret hQ hw dX11_starts_25
  · refine R_if_eq (tgt := 13) hc dX11_starts_6 (by decide) hw (fun hw => ?_) (fun hw => ?_)
    · refine R_iconst (v := (1 : Int32)) hc dX11_starts_13 kI_1 ?_
      refine R_sub hc [0, 1] rfl ?_
      exact (wpO_some hw :)
    · refine R_iconst (v := (0 : Int32)) hc dX11_starts_9 kI_0 ?_
      refine R_goto (tgt := 14) hc dX11_starts_10 (by decide) ?_
      refine R_sub hc [0, 1] rfl ?_
      exact (wpO_some hw :)
theorem dX11_fits_0 : decode cX11_fits 0 = .ok (.aload_n 0, 1) := by decide +kernel
theorem dX11_fits_1 : decode cX11_fits 1 = .ok (.iload_n 1, 1) := by decide +kernel
theorem dX11_fits_2 : decode cX11_fits 2 = .ok (.invokestatic 307, 3) := by decide +kernel
theorem dX11_fits_5 : decode cX11_fits 5 = .ok (.ifCond .ne 7, 3) := by decide +kernel
theorem dX11_fits_8 : decode cX11_fits 8 = .ok (.iconst 1, 1) := by decide +kernel
theorem dX11_fits_9 : decode cX11_fits 9 = .ok (.goto 18, 3) := by decide +kernel
theorem dX11_fits_12 : decode cX11_fits 12 = .ok (.iload_n 2, 1) := by decide +kernel
theorem dX11_fits_13 : decode cX11_fits 13 = .ok (.iconst 0, 1) := by decide +kernel
theorem dX11_fits_14 : decode cX11_fits 14 = .ok (.bipush 11, 2) := by decide +kernel
theorem dX11_fits_16 : decode cX11_fits 16 = .ok (.invokestatic 107, 3) := by decide +kernel
theorem dX11_fits_19 : decode cX11_fits 19 = .ok (.ifCond .ne 7, 3) := by decide +kernel
theorem dX11_fits_22 : decode cX11_fits 22 = .ok (.iconst 2, 1) := by decide +kernel
theorem dX11_fits_23 : decode cX11_fits 23 = .ok (.goto 4, 3) := by decide +kernel
theorem dX11_fits_26 : decode cX11_fits 26 = .ok (.iconst 0, 1) := by decide +kernel
theorem dX11_fits_27 : decode cX11_fits 27 = .ok (.putfield 100, 3) := by decide +kernel
theorem dX11_fits_30 : decode cX11_fits 30 = .ok (.aload_n 0, 1) := by decide +kernel
theorem dX11_fits_31 : decode cX11_fits 31 = .ok (.getfield 100, 3) := by decide +kernel
theorem dX11_fits_34 : decode cX11_fits 34 = .ok (.ifCond .le 5, 3) := by decide +kernel
theorem dX11_fits_37 : decode cX11_fits 37 = .ok (.iconst 0, 1) := by decide +kernel
theorem dX11_fits_38 : decode cX11_fits 38 = .ok (.ireturn, 1) := by decide +kernel
theorem dX11_fits_39 : decode cX11_fits 39 = .ok (.aload_n 0, 1) := by decide +kernel
theorem dX11_fits_40 : decode cX11_fits 40 = .ok (.invokevirtual 304, 3) := by decide +kernel
theorem dX11_fits_43 : decode cX11_fits 43 = .ok (.aload_n 0, 1) := by decide +kernel
theorem dX11_fits_44 : decode cX11_fits 44 = .ok (.iload_n 1, 1) := by decide +kernel
theorem dX11_fits_45 : decode cX11_fits 45 = .ok (.invokevirtual 201, 3) := by decide +kernel
theorem dX11_fits_48 : decode cX11_fits 48 = .ok (.ifCond .ne 5, 3) := by decide +kernel
theorem dX11_fits_51 : decode cX11_fits 51 = .ok (.iconst (-1), 1) := by decide +kernel
theorem dX11_fits_52 : decode cX11_fits 52 = .ok (.ireturn, 1) := by decide +kernel
theorem dX11_fits_53 : decode cX11_fits 53 = .ok (.aload_n 0, 1) := by decide +kernel
theorem dX11_fits_54 : decode cX11_fits 54 = .ok (.iload_n 1, 1) := by decide +kernel
theorem dX11_fits_55 : decode cX11_fits 55 = .ok (.iload_n 2, 1) := by decide +kernel
theorem dX11_fits_56 : decode cX11_fits 56 = .ok (.invokevirtual 205, 3) := by decide +kernel
theorem dX11_fits_59 : decode cX11_fits 59 = .ok (.ifCond .eq 7, 3) := by decide +kernel
theorem dX11_fits_62 : decode cX11_fits 62 = .ok (.iconst 1, 1) := by decide +kernel
theorem dX11_fits_63 : decode cX11_fits 63 = .ok (.goto 4, 3) := by decide +kernel
theorem dX11_fits_66 : decode cX11_fits 66 = .ok (.iconst 0, 1) := by decide +kernel
theorem dX11_fits_67 : decode cX11_fits 67 = .ok (.ireturn, 1) := by decide +kernel
def sX11_fits (F : Nat) (l0 : Nat) (l1 : Int32) (l2 : Int32) (h : HP) : Option (Int32 × HP) :=
  (sX11_isNet F l1 h).bind fun t1 =>
  (if ¬ t1 = 0 then
      (sX11_isIn F l2 (0 : Int32) (11 : Int32) h).bind fun t3 =>
      if ¬ t3 = 0 then
        some (0 : Int32)
      else
        some (2 : Int32)
    else
      some (1 : Int32)).bind fun s2 =>
  (pI h 11 (some l0) 0 s2).bind fun h4 =>
  (gI h4 11 (some l0) 0).bind fun t5 =>
  if t5 ≤ 0 then
    (dO h4 11 (some l0)).bind fun a6 =>
    (sX11_laysOut F a6 h4).bind fun h7 =>
    (dO h7 11 (some l0)).bind fun a8 =>
    (sX11_hasWire F a8 l1 h7).bind fun t9 =>
    if ¬ t9 = 0 then
      (dO h7 11 (some l0)).bind fun a10 =>
      (sX11_isFree F a10 l1 l2 h7).bind fun t11 =>
      if t11 = 0 then
        some ((0 : Int32), h7)
      else
        some ((1 : Int32), h7)
    else
      some ((-1 : Int32), h7)
  else
    some ((0 : Int32), h4)
abbrev rm_X11_fits : Room := { frames := 7, cells := 0, slots := 0, locals := 162 }
set_option maxRecDepth 100000 in
set_option maxHeartbeats 4000000 in
theorem mt_X11_fits {w : WD} {l : Launch} {F : Nat} {l0 : Nat} {l1 : Int32} {l2 : Int32} {h : HP} {v : Int32} {h' : HP} (hs : sX11_fits F l0 l1 l2 h = some (v, h')) : MI w l yX11_fits cX11_fits 3 .int rm_X11_fits 0 0 [rf w (some l0), .int l1, .int l2] h v h' := by
  refine of_body [(0, rf w (some l0)), (1, .int l1), (2, .int l2)] (by decide) (by simp [lg_sl, rf_cat, cat_i, cat_l, cat_a]) (by simp [lv_args, rf_cat, cat_i, cat_l, cat_a]) ?_
  intro x hw_ hnL_ hl_ hc hret hnm hQ
  subst hw_; subst hl_
  have hnl : ∀ i, i < 3 → i < x.nL := fun i h => by rw [hnL_]; exact h
  have hw : wpO (sX11_fits F l0 l1 l2 h) (fun r => r = (v, h')) := ⟨_, hs, rfl⟩
  unfold sX11_fits at hw
  refine R_aload_n (q := 0) (i := 0) (v := (some l0)) hc dX11_fits_0 rfl rfl ?_
  refine R_iload_n (q := 1) (i := 1) (v := l1) hc dX11_fits_1 rfl rfl ?_
  refine R_cSI (As := [.int l1]) (rest := [rf x.w (some l0)]) hc ml_11_307 mf_X11_isNet ⟨rfl, rfl⟩ ⟨le_b rfl, le_b rfl⟩ ⟨Nat.zero_le _, Nat.zero_le _⟩ (fun v e => mt_X11_isNet e) rfl rfl (le_b rfl) dX11_fits_2 hw (fun t1 hw => ?_)
  refine R_join (fun (s2 : Int32) => Rn x 0 0 27 [(0, rf x.w (some l0)), (1, .int l1), (2, .int l2)] [.int s2, rf x.w (some l0)] h) hw (fun r hw => ?_) (fun hw => ?_)
  · revert r hw
    intro s2 hw
    show Rn x 0 0 27 [(0, rf x.w (some l0)), (1, .int l1), (2, .int l2)] [.int s2, rf x.w (some l0)] h
    refine R_putI hc pl_11_100 rfl rfl dX11_fits_27 hw (fun h4 hw => ?_)
    refine R_aload_n (q := 0) (i := 0) (v := (some l0)) hc dX11_fits_30 rfl rfl ?_
    refine R_getI hc fl_11_100 dX11_fits_31 hw (fun t5 hw => ?_)
    refine R_if_le (tgt := 39) hc dX11_fits_34 (by decide) hw (fun hw => ?_) (fun hw => ?_)
    · refine R_aload_n (q := 0) (i := 0) (v := (some l0)) hc dX11_fits_39 rfl rfl ?_
      refine R_cVVi (As := []) (rest := []) (r := (some l0)) (ci := 11) hc ml_11_304 mf_X11_laysOut rfl (by decide) ⟨rfl, rfl⟩ ⟨le_b rfl, le_b rfl⟩ ⟨Nat.zero_le _, Nat.zero_le _⟩ (fun a h' e => mt_X11_laysOut e) rfl rfl (Nat.zero_le _) dX11_fits_40 hw (fun h7 hw => ?_)
      refine R_aload_n (q := 0) (i := 0) (v := (some l0)) hc dX11_fits_43 rfl rfl ?_
      refine R_iload_n (q := 1) (i := 1) (v := l1) hc dX11_fits_44 rfl rfl ?_
      refine R_cVI (As := [.int l1]) (rest := []) (r := (some l0)) (ci := 11) hc ml_11_201 mf_X11_hasWire rfl (by decide) ⟨rfl, rfl⟩ ⟨le_b rfl, le_b rfl⟩ ⟨Nat.zero_le _, Nat.zero_le _⟩ (fun a v e => mt_X11_hasWire e) rfl rfl (Nat.zero_le _) dX11_fits_45 hw (fun t9 hw => ?_)
      refine R_if_ne (tgt := 53) hc dX11_fits_48 (by decide) hw (fun hw => ?_) (fun hw => ?_)
      · refine R_aload_n (q := 0) (i := 0) (v := (some l0)) hc dX11_fits_53 rfl rfl ?_
        refine R_iload_n (q := 1) (i := 1) (v := l1) hc dX11_fits_54 rfl rfl ?_
        refine R_iload_n (q := 2) (i := 2) (v := l2) hc dX11_fits_55 rfl rfl ?_
        refine R_cVI (As := [.int l1, .int l2]) (rest := []) (r := (some l0)) (ci := 11) hc ml_11_205 mf_X11_isFree rfl (by decide) ⟨rfl, rfl⟩ ⟨le_b rfl, le_b rfl⟩ ⟨Nat.zero_le _, Nat.zero_le _⟩ (fun a v e => mt_X11_isFree e) rfl rfl (Nat.zero_le _) dX11_fits_56 hw (fun t11 hw => ?_)
        refine R_if_eq (tgt := 66) hc dX11_fits_59 (by decide) hw (fun hw => ?_) (fun hw => ?_)
        · refine R_iconst (v := (0 : Int32)) hc dX11_fits_66 kI_0 ?_
          exact R_ireturn hc hret rfl hQ hw dX11_fits_67
        · refine R_iconst (v := (1 : Int32)) hc dX11_fits_62 kI_1 ?_
          refine R_goto (tgt := 67) hc dX11_fits_63 (by decide) ?_
          exact R_ireturn hc hret rfl hQ hw dX11_fits_67
      · refine R_iconst (v := (-1 : Int32)) hc dX11_fits_51 kI_m1 ?_
        exact R_ireturn hc hret rfl hQ hw dX11_fits_52
    · refine R_iconst (v := (0 : Int32)) hc dX11_fits_37 kI_0 ?_
      exact R_ireturn hc hret rfl hQ hw dX11_fits_38
  · refine R_if_ne (tgt := 12) hc dX11_fits_5 (by decide) hw (fun hw => ?_) (fun hw => ?_)
    · refine R_iload_n (q := 2) (i := 2) (v := l2) hc dX11_fits_12 rfl rfl ?_
      refine R_iconst (v := (0 : Int32)) hc dX11_fits_13 kI_0 ?_
      refine R_bipush (v := (11 : Int32)) hc dX11_fits_14 kB_11 ?_
      refine R_cSI (As := [.int l2, .int (0 : Int32), .int (11 : Int32)]) (rest := [rf x.w (some l0)]) hc ml_11_107 mf_X11_isIn ⟨rfl, rfl⟩ ⟨le_b rfl, le_b rfl⟩ ⟨Nat.zero_le _, Nat.zero_le _⟩ (fun v e => mt_X11_isIn e) rfl rfl (le_b rfl) dX11_fits_16 hw (fun t3 hw => ?_)
      refine R_if_ne (tgt := 26) hc dX11_fits_19 (by decide) hw (fun hw => ?_) (fun hw => ?_)
      · refine R_iconst (v := (0 : Int32)) hc dX11_fits_26 kI_0 ?_
        refine R_sub hc [0, 1, 2] rfl ?_
        exact (wpO_some hw :)
      · refine R_iconst (v := (2 : Int32)) hc dX11_fits_22 kI_2 ?_
        refine R_goto (tgt := 27) hc dX11_fits_23 (by decide) ?_
        refine R_sub hc [0, 1, 2] rfl ?_
        exact (wpO_some hw :)
    · refine R_iconst (v := (1 : Int32)) hc dX11_fits_8 kI_1 ?_
      refine R_goto (tgt := 27) hc dX11_fits_9 (by decide) ?_
      refine R_sub hc [0, 1, 2] rfl ?_
      exact (wpO_some hw :)
theorem dX11_room_0 : decode cX11_room 0 = .ok (.aload_n 0, 1) := by decide +kernel
theorem dX11_room_1 : decode cX11_room 1 = .ok (.iload_n 1, 1) := by decide +kernel
theorem dX11_room_2 : decode cX11_room 2 = .ok (.invokestatic 307, 3) := by decide +kernel
theorem dX11_room_5 : decode cX11_room 5 = .ok (.ifCond .eq 7, 3) := by decide +kernel
theorem dX11_room_8 : decode cX11_room 8 = .ok (.iconst 0, 1) := by decide +kernel
theorem dX11_room_9 : decode cX11_room 9 = .ok (.goto 4, 3) := by decide +kernel
theorem dX11_room_12 : decode cX11_room 12 = .ok (.iconst 1, 1) := by decide +kernel
theorem dX11_room_13 : decode cX11_room 13 = .ok (.putfield 100, 3) := by decide +kernel
theorem dX11_room_16 : decode cX11_room 16 = .ok (.aload_n 0, 1) := by decide +kernel
theorem dX11_room_17 : decode cX11_room 17 = .ok (.getfield 100, 3) := by decide +kernel
theorem dX11_room_20 : decode cX11_room 20 = .ok (.ifCond .le 5, 3) := by decide +kernel
theorem dX11_room_23 : decode cX11_room 23 = .ok (.iconst 0, 1) := by decide +kernel
theorem dX11_room_24 : decode cX11_room 24 = .ok (.ireturn, 1) := by decide +kernel
theorem dX11_room_25 : decode cX11_room 25 = .ok (.aload_n 0, 1) := by decide +kernel
theorem dX11_room_26 : decode cX11_room 26 = .ok (.invokevirtual 304, 3) := by decide +kernel
theorem dX11_room_29 : decode cX11_room 29 = .ok (.aload_n 0, 1) := by decide +kernel
theorem dX11_room_30 : decode cX11_room 30 = .ok (.iload_n 1, 1) := by decide +kernel
theorem dX11_room_31 : decode cX11_room 31 = .ok (.invokevirtual 201, 3) := by decide +kernel
theorem dX11_room_34 : decode cX11_room 34 = .ok (.ifCond .ne 5, 3) := by decide +kernel
theorem dX11_room_37 : decode cX11_room 37 = .ok (.iconst (-1), 1) := by decide +kernel
theorem dX11_room_38 : decode cX11_room 38 = .ok (.ireturn, 1) := by decide +kernel
theorem dX11_room_39 : decode cX11_room 39 = .ok (.iconst 0, 1) := by decide +kernel
theorem dX11_room_40 : decode cX11_room 40 = .ok (.istore_n 2, 1) := by decide +kernel
theorem dX11_room_41 : decode cX11_room 41 = .ok (.iconst 0, 1) := by decide +kernel
theorem dX11_room_42 : decode cX11_room 42 = .ok (.istore_n 3, 1) := by decide +kernel
theorem dX11_room_43 : decode cX11_room 43 = .ok (.iload_n 3, 1) := by decide +kernel
theorem dX11_room_44 : decode cX11_room 44 = .ok (.bipush 12, 2) := by decide +kernel
theorem dX11_room_46 : decode cX11_room 46 = .ok (.if_icmp .ge 28, 3) := by decide +kernel
theorem dX11_room_49 : decode cX11_room 49 = .ok (.iload_n 2, 1) := by decide +kernel
theorem dX11_room_50 : decode cX11_room 50 = .ok (.aload_n 0, 1) := by decide +kernel
theorem dX11_room_51 : decode cX11_room 51 = .ok (.iload_n 1, 1) := by decide +kernel
theorem dX11_room_52 : decode cX11_room 52 = .ok (.iload_n 3, 1) := by decide +kernel
theorem dX11_room_53 : decode cX11_room 53 = .ok (.invokevirtual 205, 3) := by decide +kernel
theorem dX11_room_56 : decode cX11_room 56 = .ok (.ifCond .eq 9, 3) := by decide +kernel
theorem dX11_room_59 : decode cX11_room 59 = .ok (.iconst 1, 1) := by decide +kernel
theorem dX11_room_60 : decode cX11_room 60 = .ok (.iload_n 3, 1) := by decide +kernel
theorem dX11_room_61 : decode cX11_room 61 = .ok (.ishl, 1) := by decide +kernel
theorem dX11_room_62 : decode cX11_room 62 = .ok (.goto 4, 3) := by decide +kernel
theorem dX11_room_65 : decode cX11_room 65 = .ok (.iconst 0, 1) := by decide +kernel
theorem dX11_room_66 : decode cX11_room 66 = .ok (.ior, 1) := by decide +kernel
theorem dX11_room_67 : decode cX11_room 67 = .ok (.istore_n 2, 1) := by decide +kernel
theorem dX11_room_68 : decode cX11_room 68 = .ok (.iinc 3 1, 3) := by decide +kernel
theorem dX11_room_71 : decode cX11_room 71 = .ok (.goto (-28), 3) := by decide +kernel
theorem dX11_room_74 : decode cX11_room 74 = .ok (.iload_n 2, 1) := by decide +kernel
theorem dX11_room_75 : decode cX11_room 75 = .ok (.ireturn, 1) := by decide +kernel
def sX11_room_L43 (F : Nat) (l0 : Nat) (l1 : Int32) (l2 : Int32) (l3 : Int32) (h : HP) : Option ((Int32 × Int32) ⊕ Int32) :=
  if (12 : Int32) ≤ l3 then
    some (.inr l2)
  else
    (dO h 11 (some l0)).bind fun a9 =>
    (sX11_isFree F a9 l1 l3 h).bind fun t10 =>
    if t10 = 0 then
      nmI (l2 ||| (0 : Int32)) fun l2_11 =>
      some (.inl (l2_11, l3 + (1 : Int32)))
    else
      nmI (l2 ||| (jshl (1 : Int32) l3)) fun l2_12 =>
      some (.inl (l2_12, l3 + (1 : Int32)))
def sX11_room (F : Nat) (l0 : Nat) (l1 : Int32) (h : HP) : Option (Int32 × HP) :=
  (sX11_isNet F l1 h).bind fun t1 =>
  (if t1 = 0 then
      some (1 : Int32)
    else
      some (0 : Int32)).bind fun s2 =>
  (pI h 11 (some l0) 0 s2).bind fun h3 =>
  (gI h3 11 (some l0) 0).bind fun t4 =>
  if t4 ≤ 0 then
    (dO h3 11 (some l0)).bind fun a5 =>
    (sX11_laysOut F a5 h3).bind fun h6 =>
    (dO h6 11 (some l0)).bind fun a7 =>
    (sX11_hasWire F a7 l1 h6).bind fun t8 =>
    if ¬ t8 = 0 then
      (iter (fun s => sX11_room_L43 F l0 l1 s.1 s.2 h6) F ((0 : Int32), (0 : Int32))).bind fun l2_13 =>
        some (l2_13, h6)
    else
      some ((-1 : Int32), h6)
  else
    some ((0 : Int32), h3)
abbrev rm_X11_room : Room := { frames := 7, cells := 0, slots := 0, locals := 162 }
set_option maxRecDepth 100000 in
set_option maxHeartbeats 4000000 in
theorem mt_X11_room {w : WD} {l : Launch} {F : Nat} {l0 : Nat} {l1 : Int32} {h : HP} {v : Int32} {h' : HP} (hs : sX11_room F l0 l1 h = some (v, h')) : MI w l yX11_room cX11_room 4 .int rm_X11_room 0 0 [rf w (some l0), .int l1] h v h' := by
  refine of_body [(0, rf w (some l0)), (1, .int l1)] (by decide) (by simp [lg_sl, rf_cat, cat_i, cat_l, cat_a]) (by simp [lv_args, rf_cat, cat_i, cat_l, cat_a]) ?_
  intro x hw_ hnL_ hl_ hc hret hnm hQ
  subst hw_; subst hl_
  have hnl : ∀ i, i < 4 → i < x.nL := fun i h => by rw [hnL_]; exact h
  have hw : wpO (sX11_room F l0 l1 h) (fun r => r = (v, h')) := ⟨_, hs, rfl⟩
  unfold sX11_room at hw
  refine R_aload_n (q := 0) (i := 0) (v := (some l0)) hc dX11_room_0 rfl rfl ?_
  refine R_iload_n (q := 1) (i := 1) (v := l1) hc dX11_room_1 rfl rfl ?_
  refine R_cSI (As := [.int l1]) (rest := [rf x.w (some l0)]) hc ml_11_307 mf_X11_isNet ⟨rfl, rfl⟩ ⟨le_b rfl, le_b rfl⟩ ⟨Nat.zero_le _, Nat.zero_le _⟩ (fun v e => mt_X11_isNet e) rfl rfl (le_b rfl) dX11_room_2 hw (fun t1 hw => ?_)
  refine R_join (fun (s2 : Int32) => Rn x 0 0 13 [(0, rf x.w (some l0)), (1, .int l1)] [.int s2, rf x.w (some l0)] h) hw (fun r hw => ?_) (fun hw => ?_)
  · revert r hw
    intro s2 hw
    show Rn x 0 0 13 [(0, rf x.w (some l0)), (1, .int l1)] [.int s2, rf x.w (some l0)] h
    refine R_putI hc pl_11_100 rfl rfl dX11_room_13 hw (fun h3 hw => ?_)
    refine R_aload_n (q := 0) (i := 0) (v := (some l0)) hc dX11_room_16 rfl rfl ?_
    refine R_getI hc fl_11_100 dX11_room_17 hw (fun t4 hw => ?_)
    refine R_if_le (tgt := 25) hc dX11_room_20 (by decide) hw (fun hw => ?_) (fun hw => ?_)
    · refine R_aload_n (q := 0) (i := 0) (v := (some l0)) hc dX11_room_25 rfl rfl ?_
      refine R_cVVi (As := []) (rest := []) (r := (some l0)) (ci := 11) hc ml_11_304 mf_X11_laysOut rfl (by decide) ⟨rfl, rfl⟩ ⟨le_b rfl, le_b rfl⟩ ⟨Nat.zero_le _, Nat.zero_le _⟩ (fun a h' e => mt_X11_laysOut e) rfl rfl (Nat.zero_le _) dX11_room_26 hw (fun h6 hw => ?_)
      refine R_aload_n (q := 0) (i := 0) (v := (some l0)) hc dX11_room_29 rfl rfl ?_
      refine R_iload_n (q := 1) (i := 1) (v := l1) hc dX11_room_30 rfl rfl ?_
      refine R_cVI (As := [.int l1]) (rest := []) (r := (some l0)) (ci := 11) hc ml_11_201 mf_X11_hasWire rfl (by decide) ⟨rfl, rfl⟩ ⟨le_b rfl, le_b rfl⟩ ⟨Nat.zero_le _, Nat.zero_le _⟩ (fun a v e => mt_X11_hasWire e) rfl rfl (Nat.zero_le _) dX11_room_31 hw (fun t8 hw => ?_)
      refine R_if_ne (tgt := 39) hc dX11_room_34 (by decide) hw (fun hw => ?_) (fun hw => ?_)
      · refine R_iconst (v := (0 : Int32)) hc dX11_room_39 kI_0 ?_
        refine R_istore_n (i := 2) (v := (0 : Int32)) hc [(2, .int (0 : Int32)), (0, rf x.w (some l0)), (1, .int l1)] dX11_room_40 rfl (hnl 2 (le_b rfl)) rfl ?_
        refine R_iconst (v := (0 : Int32)) hc dX11_room_41 kI_0 ?_
        refine R_istore_n (i := 3) (v := (0 : Int32)) hc [(3, .int (0 : Int32)), (2, .int (0 : Int32)), (0, rf x.w (some l0)), (1, .int l1)] dX11_room_42 rfl (hnl 3 (le_b rfl)) rfl ?_
        refine R_sub hc [2, 3, 1, 0] rfl ?_
        refine R_loop (P := fun (s : (Int32 × Int32)) => Rn x 0 0 43 [(0, rf x.w (some l0)), (1, .int l1), (2, .int s.1), (3, .int s.2)] [] h6) (fun l2_13 => Rn x 0 0 74 [(2, .int l2_13)] [] h6) hw (fun r hw => ?_) (fun X hX s hw => ?_)
        · revert r hw
          intro l2_13 hw
          show Rn x 0 0 74 [(2, .int l2_13)] [] h6
          refine R_iload_n (q := 0) (i := 2) (v := l2_13) hc dX11_room_74 rfl rfl ?_
          exact R_ireturn hc hret rfl hQ hw dX11_room_75
        · obtain ⟨l2_15, l3_16⟩ := s
          show Rn x 0 0 43 [(0, rf x.w (some l0)), (1, .int l1), (2, .int l2_15), (3, .int l3_16)] [] h6
          have hw : wpO (sX11_room_L43 F l0 l1 l2_15 l3_16 h6) _ := hw
          unfold sX11_room_L43 at hw
          refine R_iload_n (q := 3) (i := 3) (v := l3_16) hc dX11_room_43 rfl rfl ?_
          refine R_bipush (v := (12 : Int32)) hc dX11_room_44 kB_12 ?_
          refine R_icmp_ge (tgt := 74) hc dX11_room_46 (by decide) hw (fun hw => ?_) (fun hw => ?_)
          · refine R_sub hc [2] rfl ?_
            exact (wpO_some hw :)
          · refine R_iload_n (q := 2) (i := 2) (v := l2_15) hc dX11_room_49 rfl rfl ?_
            refine R_aload_n (q := 0) (i := 0) (v := (some l0)) hc dX11_room_50 rfl rfl ?_
            refine R_iload_n (q := 1) (i := 1) (v := l1) hc dX11_room_51 rfl rfl ?_
            refine R_iload_n (q := 3) (i := 3) (v := l3_16) hc dX11_room_52 rfl rfl ?_
            refine R_cVI (As := [.int l1, .int l3_16]) (rest := [.int l2_15]) (r := (some l0)) (ci := 11) hc ml_11_205 mf_X11_isFree rfl (by decide) ⟨rfl, rfl⟩ ⟨le_b rfl, le_b rfl⟩ ⟨Nat.zero_le _, Nat.zero_le _⟩ (fun a v e => mt_X11_isFree e) rfl rfl (le_b rfl) dX11_room_53 hw (fun t10 hw => ?_)
            refine R_if_eq (tgt := 65) hc dX11_room_56 (by decide) hw (fun hw => ?_) (fun hw => ?_)
            · refine R_iconst (v := (0 : Int32)) hc dX11_room_65 kI_0 ?_
              refine R_ior hc dX11_room_66 ?_
              refine R_nmI hw (fun l2_11 hw => ?_)
              refine R_istore_n (i := 2) (v := l2_11) hc [(2, .int l2_11), (0, rf x.w (some l0)), (1, .int l1), (3, .int l3_16)] dX11_room_67 rfl (hnl 2 (le_b rfl)) rfl ?_
              refine R_iinc (q := 3) (i := 3) (v := l3_16) hc [(3, .int (l3_16 + (1 : Int32))), (2, .int l2_11), (0, rf x.w (some l0)), (1, .int l1)] dX11_room_68 rfl (kC_1 _) (hnl 3 (le_b rfl)) rfl ?_
              refine R_goto (tgt := 43) hc dX11_room_71 (by decide) ?_
              refine R_sub hc [2, 3, 1, 0] rfl ?_
              exact hX (l2_11, l3_16 + (1 : Int32)) (wpO_some hw :)
            · refine R_iconst (v := (1 : Int32)) hc dX11_room_59 kI_1 ?_
              refine R_iload_n (q := 3) (i := 3) (v := l3_16) hc dX11_room_60 rfl rfl ?_
              refine R_ishl hc dX11_room_61 ?_
              refine R_goto (tgt := 66) hc dX11_room_62 (by decide) ?_
              refine R_ior hc dX11_room_66 ?_
              refine R_nmI hw (fun l2_12 hw => ?_)
              refine R_istore_n (i := 2) (v := l2_12) hc [(2, .int l2_12), (0, rf x.w (some l0)), (1, .int l1), (3, .int l3_16)] dX11_room_67 rfl (hnl 2 (le_b rfl)) rfl ?_
              refine R_iinc (q := 3) (i := 3) (v := l3_16) hc [(3, .int (l3_16 + (1 : Int32))), (2, .int l2_12), (0, rf x.w (some l0)), (1, .int l1)] dX11_room_68 rfl (kC_1 _) (hnl 3 (le_b rfl)) rfl ?_
              refine R_goto (tgt := 43) hc dX11_room_71 (by decide) ?_
              refine R_sub hc [2, 3, 1, 0] rfl ?_
              exact hX (l2_12, l3_16 + (1 : Int32)) (wpO_some hw :)
      · refine R_iconst (v := (-1 : Int32)) hc dX11_room_37 kI_m1 ?_
        exact R_ireturn hc hret rfl hQ hw dX11_room_38
    · refine R_iconst (v := (0 : Int32)) hc dX11_room_23 kI_0 ?_
      exact R_ireturn hc hret rfl hQ hw dX11_room_24
  · refine R_if_eq (tgt := 12) hc dX11_room_5 (by decide) hw (fun hw => ?_) (fun hw => ?_)
    · refine R_iconst (v := (1 : Int32)) hc dX11_room_12 kI_1 ?_
      refine R_sub hc [0, 1] rfl ?_
      exact (wpO_some hw :)
    · refine R_iconst (v := (0 : Int32)) hc dX11_room_8 kI_0 ?_
      refine R_goto (tgt := 13) hc dX11_room_9 (by decide) ?_
      refine R_sub hc [0, 1] rfl ?_
      exact (wpO_some hw :)
theorem dX11_image_0 : decode cX11_image 0 = .ok (.aload_n 0, 1) := by decide +kernel
theorem dX11_image_1 : decode cX11_image 1 = .ok (.iconst 0, 1) := by decide +kernel
theorem dX11_image_2 : decode cX11_image 2 = .ok (.putfield 100, 3) := by decide +kernel
theorem dX11_image_5 : decode cX11_image 5 = .ok (.iconst 0, 1) := by decide +kernel
theorem dX11_image_6 : decode cX11_image 6 = .ok (.istore_n 1, 1) := by decide +kernel
theorem dX11_image_7 : decode cX11_image 7 = .ok (.iload_n 1, 1) := by decide +kernel
theorem dX11_image_8 : decode cX11_image 8 = .ok (.bipush 106, 2) := by decide +kernel
theorem dX11_image_10 : decode cX11_image 10 = .ok (.if_icmp .ge 21, 3) := by decide +kernel
theorem dX11_image_13 : decode cX11_image 13 = .ok (.aload_n 0, 1) := by decide +kernel
theorem dX11_image_14 : decode cX11_image 14 = .ok (.getfield 16, 3) := by decide +kernel
theorem dX11_image_17 : decode cX11_image 17 = .ok (.iload_n 1, 1) := by decide +kernel
theorem dX11_image_18 : decode cX11_image 18 = .ok (.aload_n 0, 1) := by decide +kernel
theorem dX11_image_19 : decode cX11_image 19 = .ok (.getfield 7, 3) := by decide +kernel
theorem dX11_image_22 : decode cX11_image 22 = .ok (.iload_n 1, 1) := by decide +kernel
theorem dX11_image_23 : decode cX11_image 23 = .ok (.iaload, 1) := by decide +kernel
theorem dX11_image_24 : decode cX11_image 24 = .ok (.iastore, 1) := by decide +kernel
theorem dX11_image_25 : decode cX11_image 25 = .ok (.iinc 1 1, 3) := by decide +kernel
theorem dX11_image_28 : decode cX11_image 28 = .ok (.goto (-21), 3) := by decide +kernel
theorem dX11_image_31 : decode cX11_image 31 = .ok (.aload_n 0, 1) := by decide +kernel
theorem dX11_image_32 : decode cX11_image 32 = .ok (.iconst 1, 1) := by decide +kernel
theorem dX11_image_33 : decode cX11_image 33 = .ok (.putfield 384, 3) := by decide +kernel
theorem dX11_image_36 : decode cX11_image 36 = .ok (.return_, 1) := by decide +kernel
def sX11_image_L7 (F : Nat) (l0 : Nat) (l1 : Int32) (h : HP) : Option ((Int32 × HP) ⊕ HP) :=
  if (106 : Int32) ≤ l1 then
    some (.inr h)
  else
    (gR h 11 (some l0) 4).bind fun t2 =>
    (gR h 11 (some l0) 1).bind fun t3 =>
    (aI h 13 t3 l1).bind fun t4 =>
    (sI h t2 l1 t4).bind fun h5 =>
    some (.inl (l1 + (1 : Int32), h5))
def sX11_image (F : Nat) (l0 : Nat) (h : HP) : Option HP :=
  (pI h 11 (some l0) 0 (0 : Int32)).bind fun h1 =>
  (iter (fun s => sX11_image_L7 F l0 s.1 s.2) F ((0 : Int32), h1)).bind fun h6 =>
    (pZ h6 11 (some l0) 5 (1 : Int32)).bind fun h7 =>
    some h7
abbrev rm_X11_image : Room := { frames := 0, cells := 0, slots := 0, locals := 0 }
set_option maxRecDepth 100000 in
set_option maxHeartbeats 4000000 in
theorem mt_X11_image {w : WD} {l : Launch} {F : Nat} {l0 : Nat} {h : HP} {h' : HP} (hs : sX11_image F l0 h = some h') : MV w l yX11_image cX11_image 2 rm_X11_image 0 0 [rf w (some l0)] h h' := by
  refine of_body [(0, rf w (some l0))] (by decide) (by simp [lg_sl, rf_cat, cat_i, cat_l, cat_a]) (by simp [lv_args, rf_cat, cat_i, cat_l, cat_a]) ?_
  intro x hw_ hnL_ hl_ hc hret hnm hQ
  subst hw_; subst hl_
  have hnl : ∀ i, i < 2 → i < x.nL := fun i h => by rw [hnL_]; exact h
  have hw : wpO (sX11_image F l0 h) (fun r => r = h') := ⟨_, hs, rfl⟩
  unfold sX11_image at hw
  refine R_aload_n (q := 0) (i := 0) (v := (some l0)) hc dX11_image_0 rfl rfl ?_
  refine R_iconst (v := (0 : Int32)) hc dX11_image_1 kI_0 ?_
  refine R_putI hc pl_11_100 rfl rfl dX11_image_2 hw (fun h1 hw => ?_)
  refine R_iconst (v := (0 : Int32)) hc dX11_image_5 kI_0 ?_
  refine R_istore_n (i := 1) (v := (0 : Int32)) hc [(1, .int (0 : Int32)), (0, rf x.w (some l0))] dX11_image_6 rfl (hnl 1 (le_b rfl)) rfl ?_
  refine R_sub hc [1, 0] rfl ?_
  refine R_loop (P := fun (s : (Int32 × HP)) => Rn x 0 0 7 [(0, rf x.w (some l0)), (1, .int s.1)] [] s.2) (fun h6 => Rn x 0 0 31 [(0, rf x.w (some l0))] [] h6) hw (fun r hw => ?_) (fun X hX s hw => ?_)
  · revert r hw
    intro h6 hw
    show Rn x 0 0 31 [(0, rf x.w (some l0))] [] h6
    refine R_aload_n (q := 0) (i := 0) (v := (some l0)) hc dX11_image_31 rfl rfl ?_
    refine R_iconst (v := (1 : Int32)) hc dX11_image_32 kI_1 ?_
    refine R_putZ hc pl_11_384 dX11_image_33 hw (fun h7 hw => ?_)
    exact R_return hc hret hQ hw dX11_image_36
  · obtain ⟨l1_9, h10⟩ := s
    show Rn x 0 0 7 [(0, rf x.w (some l0)), (1, .int l1_9)] [] h10
    have hw : wpO (sX11_image_L7 F l0 l1_9 h10) _ := hw
    unfold sX11_image_L7 at hw
    refine R_iload_n (q := 1) (i := 1) (v := l1_9) hc dX11_image_7 rfl rfl ?_
    refine R_bipush (v := (106 : Int32)) hc dX11_image_8 kB_106 ?_
    refine R_icmp_ge (tgt := 31) hc dX11_image_10 (by decide) hw (fun hw => ?_) (fun hw => ?_)
    · refine R_sub hc [0] rfl ?_
      exact (wpO_some hw :)
    · refine R_aload_n (q := 0) (i := 0) (v := (some l0)) hc dX11_image_13 rfl rfl ?_
      refine R_getR hc fl_11_16 dX11_image_14 hw (fun t2 hw => ?_)
      refine R_iload_n (q := 1) (i := 1) (v := l1_9) hc dX11_image_17 rfl rfl ?_
      refine R_aload_n (q := 0) (i := 0) (v := (some l0)) hc dX11_image_18 rfl rfl ?_
      refine R_getR hc fl_11_7 dX11_image_19 hw (fun t3 hw => ?_)
      refine R_iload_n (q := 1) (i := 1) (v := l1_9) hc dX11_image_22 rfl rfl ?_
      refine R_iaload hc dX11_image_23 hw (fun t4 hw => ?_)
      refine R_iastore hc dX11_image_24 hw (fun h5 hw => ?_)
      refine R_iinc (q := 1) (i := 1) (v := l1_9) hc [(1, .int (l1_9 + (1 : Int32))), (0, rf x.w (some l0))] dX11_image_25 rfl (kC_1 _) (hnl 1 (le_b rfl)) rfl ?_
      refine R_goto (tgt := 7) hc dX11_image_28 (by decide) ?_
      refine R_sub hc [1, 0] rfl ?_
      exact hX (l1_9 + (1 : Int32), h5) (wpO_some hw :)
theorem dX11_back_0 : decode cX11_back 0 = .ok (.aload_n 0, 1) := by decide +kernel
theorem dX11_back_1 : decode cX11_back 1 = .ok (.iconst 0, 1) := by decide +kernel
theorem dX11_back_2 : decode cX11_back 2 = .ok (.putfield 100, 3) := by decide +kernel
theorem dX11_back_5 : decode cX11_back 5 = .ok (.aload_n 0, 1) := by decide +kernel
theorem dX11_back_6 : decode cX11_back 6 = .ok (.getfield 384, 3) := by decide +kernel
theorem dX11_back_9 : decode cX11_back 9 = .ok (.ifCond .ne 5, 3) := by decide +kernel
theorem dX11_back_12 : decode cX11_back 12 = .ok (.iconst 0, 1) := by decide +kernel
theorem dX11_back_13 : decode cX11_back 13 = .ok (.ireturn, 1) := by decide +kernel
theorem dX11_back_14 : decode cX11_back 14 = .ok (.iconst 0, 1) := by decide +kernel
theorem dX11_back_15 : decode cX11_back 15 = .ok (.istore_n 1, 1) := by decide +kernel
theorem dX11_back_16 : decode cX11_back 16 = .ok (.iload_n 1, 1) := by decide +kernel
theorem dX11_back_17 : decode cX11_back 17 = .ok (.bipush 106, 2) := by decide +kernel
theorem dX11_back_19 : decode cX11_back 19 = .ok (.if_icmp .ge 21, 3) := by decide +kernel
theorem dX11_back_22 : decode cX11_back 22 = .ok (.aload_n 0, 1) := by decide +kernel
theorem dX11_back_23 : decode cX11_back 23 = .ok (.getfield 7, 3) := by decide +kernel
theorem dX11_back_26 : decode cX11_back 26 = .ok (.iload_n 1, 1) := by decide +kernel
theorem dX11_back_27 : decode cX11_back 27 = .ok (.aload_n 0, 1) := by decide +kernel
theorem dX11_back_28 : decode cX11_back 28 = .ok (.getfield 16, 3) := by decide +kernel
theorem dX11_back_31 : decode cX11_back 31 = .ok (.iload_n 1, 1) := by decide +kernel
theorem dX11_back_32 : decode cX11_back 32 = .ok (.iaload, 1) := by decide +kernel
theorem dX11_back_33 : decode cX11_back 33 = .ok (.iastore, 1) := by decide +kernel
theorem dX11_back_34 : decode cX11_back 34 = .ok (.iinc 1 1, 3) := by decide +kernel
theorem dX11_back_37 : decode cX11_back 37 = .ok (.goto (-21), 3) := by decide +kernel
theorem dX11_back_40 : decode cX11_back 40 = .ok (.aload_n 0, 1) := by decide +kernel
theorem dX11_back_41 : decode cX11_back 41 = .ok (.iconst 0, 1) := by decide +kernel
theorem dX11_back_42 : decode cX11_back 42 = .ok (.putfield 288, 3) := by decide +kernel
theorem dX11_back_45 : decode cX11_back 45 = .ok (.iconst 1, 1) := by decide +kernel
theorem dX11_back_46 : decode cX11_back 46 = .ok (.ireturn, 1) := by decide +kernel
def sX11_back_L16 (F : Nat) (l0 : Nat) (l1 : Int32) (h : HP) : Option ((Int32 × HP) ⊕ HP) :=
  if (106 : Int32) ≤ l1 then
    some (.inr h)
  else
    (gR h 11 (some l0) 1).bind fun t3 =>
    (gR h 11 (some l0) 4).bind fun t4 =>
    (aI h 13 t4 l1).bind fun t5 =>
    (sI h t3 l1 t5).bind fun h6 =>
    some (.inl (l1 + (1 : Int32), h6))
def sX11_back (F : Nat) (l0 : Nat) (h : HP) : Option (Int32 × HP) :=
  (pI h 11 (some l0) 0 (0 : Int32)).bind fun h1 =>
  (gI h1 11 (some l0) 5).bind fun t2 =>
  if ¬ t2 = 0 then
    (iter (fun s => sX11_back_L16 F l0 s.1 s.2) F ((0 : Int32), h1)).bind fun h7 =>
      (pI h7 11 (some l0) 3 (0 : Int32)).bind fun h8 =>
      some ((1 : Int32), h8)
  else
    some ((0 : Int32), h1)
abbrev rm_X11_back : Room := { frames := 0, cells := 0, slots := 0, locals := 0 }
set_option maxRecDepth 100000 in
set_option maxHeartbeats 4000000 in
theorem mt_X11_back {w : WD} {l : Launch} {F : Nat} {l0 : Nat} {h : HP} {v : Int32} {h' : HP} (hs : sX11_back F l0 h = some (v, h')) : MI w l yX11_back cX11_back 2 .boolean rm_X11_back 0 0 [rf w (some l0)] h v h' := by
  refine of_body [(0, rf w (some l0))] (by decide) (by simp [lg_sl, rf_cat, cat_i, cat_l, cat_a]) (by simp [lv_args, rf_cat, cat_i, cat_l, cat_a]) ?_
  intro x hw_ hnL_ hl_ hc hret hnm hQ
  subst hw_; subst hl_
  have hnl : ∀ i, i < 2 → i < x.nL := fun i h => by rw [hnL_]; exact h
  have hw : wpO (sX11_back F l0 h) (fun r => r = (v, h')) := ⟨_, hs, rfl⟩
  unfold sX11_back at hw
  refine R_aload_n (q := 0) (i := 0) (v := (some l0)) hc dX11_back_0 rfl rfl ?_
  refine R_iconst (v := (0 : Int32)) hc dX11_back_1 kI_0 ?_
  refine R_putI hc pl_11_100 rfl rfl dX11_back_2 hw (fun h1 hw => ?_)
  refine R_aload_n (q := 0) (i := 0) (v := (some l0)) hc dX11_back_5 rfl rfl ?_
  refine R_getI hc fl_11_384 dX11_back_6 hw (fun t2 hw => ?_)
  refine R_if_ne (tgt := 14) hc dX11_back_9 (by decide) hw (fun hw => ?_) (fun hw => ?_)
  · refine R_iconst (v := (0 : Int32)) hc dX11_back_14 kI_0 ?_
    refine R_istore_n (i := 1) (v := (0 : Int32)) hc [(1, .int (0 : Int32)), (0, rf x.w (some l0))] dX11_back_15 rfl (hnl 1 (le_b rfl)) rfl ?_
    refine R_sub hc [1, 0] rfl ?_
    refine R_loop (P := fun (s : (Int32 × HP)) => Rn x 0 0 16 [(0, rf x.w (some l0)), (1, .int s.1)] [] s.2) (fun h7 => Rn x 0 0 40 [(0, rf x.w (some l0))] [] h7) hw (fun r hw => ?_) (fun X hX s hw => ?_)
    · revert r hw
      intro h7 hw
      show Rn x 0 0 40 [(0, rf x.w (some l0))] [] h7
      refine R_aload_n (q := 0) (i := 0) (v := (some l0)) hc dX11_back_40 rfl rfl ?_
      refine R_iconst (v := (0 : Int32)) hc dX11_back_41 kI_0 ?_
      refine R_putI hc pl_11_288 rfl rfl dX11_back_42 hw (fun h8 hw => ?_)
      refine R_iconst (v := (1 : Int32)) hc dX11_back_45 kI_1 ?_
      exact R_ireturn hc hret rfl hQ hw dX11_back_46
    · obtain ⟨l1_10, h11⟩ := s
      show Rn x 0 0 16 [(0, rf x.w (some l0)), (1, .int l1_10)] [] h11
      have hw : wpO (sX11_back_L16 F l0 l1_10 h11) _ := hw
      unfold sX11_back_L16 at hw
      refine R_iload_n (q := 1) (i := 1) (v := l1_10) hc dX11_back_16 rfl rfl ?_
      refine R_bipush (v := (106 : Int32)) hc dX11_back_17 kB_106 ?_
      refine R_icmp_ge (tgt := 40) hc dX11_back_19 (by decide) hw (fun hw => ?_) (fun hw => ?_)
      · refine R_sub hc [0] rfl ?_
        exact (wpO_some hw :)
      · refine R_aload_n (q := 0) (i := 0) (v := (some l0)) hc dX11_back_22 rfl rfl ?_
        refine R_getR hc fl_11_7 dX11_back_23 hw (fun t3 hw => ?_)
        refine R_iload_n (q := 1) (i := 1) (v := l1_10) hc dX11_back_26 rfl rfl ?_
        refine R_aload_n (q := 0) (i := 0) (v := (some l0)) hc dX11_back_27 rfl rfl ?_
        refine R_getR hc fl_11_16 dX11_back_28 hw (fun t4 hw => ?_)
        refine R_iload_n (q := 1) (i := 1) (v := l1_10) hc dX11_back_31 rfl rfl ?_
        refine R_iaload hc dX11_back_32 hw (fun t5 hw => ?_)
        refine R_iastore hc dX11_back_33 hw (fun h6 hw => ?_)
        refine R_iinc (q := 1) (i := 1) (v := l1_10) hc [(1, .int (l1_10 + (1 : Int32))), (0, rf x.w (some l0))] dX11_back_34 rfl (kC_1 _) (hnl 1 (le_b rfl)) rfl ?_
        refine R_goto (tgt := 16) hc dX11_back_37 (by decide) ?_
        refine R_sub hc [1, 0] rfl ?_
        exact hX (l1_10 + (1 : Int32), h6) (wpO_some hw :)
  · refine R_iconst (v := (0 : Int32)) hc dX11_back_12 kI_0 ?_
    exact R_ireturn hc hret rfl hQ hw dX11_back_13
theorem dX11_count_0 : decode cX11_count 0 = .ok (.aload_n 0, 1) := by decide +kernel
theorem dX11_count_1 : decode cX11_count 1 = .ok (.iconst 0, 1) := by decide +kernel
theorem dX11_count_2 : decode cX11_count 2 = .ok (.putfield 100, 3) := by decide +kernel
theorem dX11_count_5 : decode cX11_count 5 = .ok (.iload_n 1, 1) := by decide +kernel
theorem dX11_count_6 : decode cX11_count 6 = .ok (.tableswitch 99 0 7 #[46, 53, 58, 65, 72, 80, 87, 94], 46) := by decide +kernel
theorem dX11_count_52 : decode cX11_count 52 = .ok (.aload_n 0, 1) := by decide +kernel
theorem dX11_count_53 : decode cX11_count 53 = .ok (.getfield 7, 3) := by decide +kernel
theorem dX11_count_56 : decode cX11_count 56 = .ok (.iconst 4, 1) := by decide +kernel
theorem dX11_count_57 : decode cX11_count 57 = .ok (.iaload, 1) := by decide +kernel
theorem dX11_count_58 : decode cX11_count 58 = .ok (.ireturn, 1) := by decide +kernel
theorem dX11_count_59 : decode cX11_count 59 = .ok (.aload_n 0, 1) := by decide +kernel
theorem dX11_count_60 : decode cX11_count 60 = .ok (.invokevirtual 103, 3) := by decide +kernel
theorem dX11_count_63 : decode cX11_count 63 = .ok (.ireturn, 1) := by decide +kernel
theorem dX11_count_64 : decode cX11_count 64 = .ok (.aload_n 0, 1) := by decide +kernel
theorem dX11_count_65 : decode cX11_count 65 = .ok (.getfield 7, 3) := by decide +kernel
theorem dX11_count_68 : decode cX11_count 68 = .ok (.iconst 2, 1) := by decide +kernel
theorem dX11_count_69 : decode cX11_count 69 = .ok (.iaload, 1) := by decide +kernel
theorem dX11_count_70 : decode cX11_count 70 = .ok (.ireturn, 1) := by decide +kernel
theorem dX11_count_71 : decode cX11_count 71 = .ok (.aload_n 0, 1) := by decide +kernel
theorem dX11_count_72 : decode cX11_count 72 = .ok (.getfield 7, 3) := by decide +kernel
theorem dX11_count_75 : decode cX11_count 75 = .ok (.iconst 3, 1) := by decide +kernel
theorem dX11_count_76 : decode cX11_count 76 = .ok (.iaload, 1) := by decide +kernel
theorem dX11_count_77 : decode cX11_count 77 = .ok (.ireturn, 1) := by decide +kernel
theorem dX11_count_78 : decode cX11_count 78 = .ok (.aload_n 0, 1) := by decide +kernel
theorem dX11_count_79 : decode cX11_count 79 = .ok (.getfield 7, 3) := by decide +kernel
theorem dX11_count_82 : decode cX11_count 82 = .ok (.bipush 53, 2) := by decide +kernel
theorem dX11_count_84 : decode cX11_count 84 = .ok (.iaload, 1) := by decide +kernel
theorem dX11_count_85 : decode cX11_count 85 = .ok (.ireturn, 1) := by decide +kernel
theorem dX11_count_86 : decode cX11_count 86 = .ok (.aload_n 0, 1) := by decide +kernel
theorem dX11_count_87 : decode cX11_count 87 = .ok (.getfield 7, 3) := by decide +kernel
theorem dX11_count_90 : decode cX11_count 90 = .ok (.iconst 0, 1) := by decide +kernel
theorem dX11_count_91 : decode cX11_count 91 = .ok (.iaload, 1) := by decide +kernel
theorem dX11_count_92 : decode cX11_count 92 = .ok (.ireturn, 1) := by decide +kernel
theorem dX11_count_93 : decode cX11_count 93 = .ok (.aload_n 0, 1) := by decide +kernel
theorem dX11_count_94 : decode cX11_count 94 = .ok (.getfield 7, 3) := by decide +kernel
theorem dX11_count_97 : decode cX11_count 97 = .ok (.iconst 1, 1) := by decide +kernel
theorem dX11_count_98 : decode cX11_count 98 = .ok (.iaload, 1) := by decide +kernel
theorem dX11_count_99 : decode cX11_count 99 = .ok (.ireturn, 1) := by decide +kernel
theorem dX11_count_100 : decode cX11_count 100 = .ok (.aload_n 0, 1) := by decide +kernel
theorem dX11_count_101 : decode cX11_count 101 = .ok (.getfield 288, 3) := by decide +kernel
theorem dX11_count_104 : decode cX11_count 104 = .ok (.ireturn, 1) := by decide +kernel
theorem dX11_count_105 : decode cX11_count 105 = .ok (.iconst (-1), 1) := by decide +kernel
theorem dX11_count_106 : decode cX11_count 106 = .ok (.ireturn, 1) := by decide +kernel
def sX11_count (F : Nat) (l0 : Nat) (l1 : Int32) (h : HP) : Option (Int32 × HP) :=
  (pI h 11 (some l0) 0 (0 : Int32)).bind fun h1 =>
  if l1 = (0 : Int32) then
    (gR h1 11 (some l0) 1).bind fun t2 =>
    (aI h1 13 t2 (4 : Int32)).bind fun t3 =>
    some (t3, h1)
  else if l1 = (1 : Int32) then
    (dO h1 11 (some l0)).bind fun a4 =>
    (sX11_fingers F a4 h1).bind fun t5 =>
    some (t5, h1)
  else if l1 = (2 : Int32) then
    (gR h1 11 (some l0) 1).bind fun t6 =>
    (aI h1 13 t6 (2 : Int32)).bind fun t7 =>
    some (t7, h1)
  else if l1 = (3 : Int32) then
    (gR h1 11 (some l0) 1).bind fun t8 =>
    (aI h1 13 t8 (3 : Int32)).bind fun t9 =>
    some (t9, h1)
  else if l1 = (4 : Int32) then
    (gR h1 11 (some l0) 1).bind fun t10 =>
    (aI h1 13 t10 (53 : Int32)).bind fun t11 =>
    some (t11, h1)
  else if l1 = (5 : Int32) then
    (gR h1 11 (some l0) 1).bind fun t12 =>
    (aI h1 13 t12 (0 : Int32)).bind fun t13 =>
    some (t13, h1)
  else if l1 = (6 : Int32) then
    (gR h1 11 (some l0) 1).bind fun t14 =>
    (aI h1 13 t14 (1 : Int32)).bind fun t15 =>
    some (t15, h1)
  else if l1 = (7 : Int32) then
    (gI h1 11 (some l0) 3).bind fun t16 =>
    some (t16, h1)
  else
    some ((-1 : Int32), h1)
abbrev rm_X11_count : Room := { frames := 1, cells := 0, slots := 0, locals := 20 }
set_option maxRecDepth 100000 in
set_option maxHeartbeats 4000000 in
theorem mt_X11_count {w : WD} {l : Launch} {F : Nat} {l0 : Nat} {l1 : Int32} {h : HP} {v : Int32} {h' : HP} (hs : sX11_count F l0 l1 h = some (v, h')) : MI w l yX11_count cX11_count 2 .int rm_X11_count 0 0 [rf w (some l0), .int l1] h v h' := by
  refine of_body [(0, rf w (some l0)), (1, .int l1)] (by decide) (by simp [lg_sl, rf_cat, cat_i, cat_l, cat_a]) (by simp [lv_args, rf_cat, cat_i, cat_l, cat_a]) ?_
  intro x hw_ hnL_ hl_ hc hret hnm hQ
  subst hw_; subst hl_
  have hnl : ∀ i, i < 2 → i < x.nL := fun i h => by rw [hnL_]; exact h
  have hw : wpO (sX11_count F l0 l1 h) (fun r => r = (v, h')) := ⟨_, hs, rfl⟩
  unfold sX11_count at hw
  refine R_aload_n (q := 0) (i := 0) (v := (some l0)) hc dX11_count_0 rfl rfl ?_
  refine R_iconst (v := (0 : Int32)) hc dX11_count_1 kI_0 ?_
  refine R_putI hc pl_11_100 rfl rfl dX11_count_2 hw (fun h1 hw => ?_)
  refine R_iload_n (q := 1) (i := 1) (v := l1) hc dX11_count_5 rfl rfl ?_
  by_cases hk0 : l1 = (0 : Int32)
  · rw [if_pos hk0] at hw
    refine R_tsI (tgt := 52) hc dX11_count_6 (k := 0) (by rw [hk0]; decide) (by decide) (by decide) rfl (by decide) ?_
    refine R_aload_n (q := 0) (i := 0) (v := (some l0)) hc dX11_count_52 rfl rfl ?_
    refine R_getR hc fl_11_7 dX11_count_53 hw (fun t2 hw => ?_)
    refine R_iconst (v := (4 : Int32)) hc dX11_count_56 kI_4 ?_
    refine R_iaload hc dX11_count_57 hw (fun t3 hw => ?_)
    exact R_ireturn hc hret rfl hQ hw dX11_count_58
  rw [if_neg hk0] at hw
  by_cases hk1 : l1 = (1 : Int32)
  · rw [if_pos hk1] at hw
    refine R_tsI (tgt := 59) hc dX11_count_6 (k := 1) (by rw [hk1]; decide) (by decide) (by decide) rfl (by decide) ?_
    refine R_aload_n (q := 0) (i := 0) (v := (some l0)) hc dX11_count_59 rfl rfl ?_
    refine R_cVI (As := []) (rest := []) (r := (some l0)) (ci := 11) hc ml_11_103 mf_X11_fingers rfl (by decide) ⟨rfl, rfl⟩ ⟨le_b rfl, le_b rfl⟩ ⟨Nat.zero_le _, Nat.zero_le _⟩ (fun a v e => mt_X11_fingers e) rfl rfl (Nat.zero_le _) dX11_count_60 hw (fun t5 hw => ?_)
    exact R_ireturn hc hret rfl hQ hw dX11_count_63
  rw [if_neg hk1] at hw
  by_cases hk2 : l1 = (2 : Int32)
  · rw [if_pos hk2] at hw
    refine R_tsI (tgt := 64) hc dX11_count_6 (k := 2) (by rw [hk2]; decide) (by decide) (by decide) rfl (by decide) ?_
    refine R_aload_n (q := 0) (i := 0) (v := (some l0)) hc dX11_count_64 rfl rfl ?_
    refine R_getR hc fl_11_7 dX11_count_65 hw (fun t6 hw => ?_)
    refine R_iconst (v := (2 : Int32)) hc dX11_count_68 kI_2 ?_
    refine R_iaload hc dX11_count_69 hw (fun t7 hw => ?_)
    exact R_ireturn hc hret rfl hQ hw dX11_count_70
  rw [if_neg hk2] at hw
  by_cases hk3 : l1 = (3 : Int32)
  · rw [if_pos hk3] at hw
    refine R_tsI (tgt := 71) hc dX11_count_6 (k := 3) (by rw [hk3]; decide) (by decide) (by decide) rfl (by decide) ?_
    refine R_aload_n (q := 0) (i := 0) (v := (some l0)) hc dX11_count_71 rfl rfl ?_
    refine R_getR hc fl_11_7 dX11_count_72 hw (fun t8 hw => ?_)
    refine R_iconst (v := (3 : Int32)) hc dX11_count_75 kI_3 ?_
    refine R_iaload hc dX11_count_76 hw (fun t9 hw => ?_)
    exact R_ireturn hc hret rfl hQ hw dX11_count_77
  rw [if_neg hk3] at hw
  by_cases hk4 : l1 = (4 : Int32)
  · rw [if_pos hk4] at hw
    refine R_tsI (tgt := 78) hc dX11_count_6 (k := 4) (by rw [hk4]; decide) (by decide) (by decide) rfl (by decide) ?_
    refine R_aload_n (q := 0) (i := 0) (v := (some l0)) hc dX11_count_78 rfl rfl ?_
    refine R_getR hc fl_11_7 dX11_count_79 hw (fun t10 hw => ?_)
    refine R_bipush (v := (53 : Int32)) hc dX11_count_82 kB_53 ?_
    refine R_iaload hc dX11_count_84 hw (fun t11 hw => ?_)
    exact R_ireturn hc hret rfl hQ hw dX11_count_85
  rw [if_neg hk4] at hw
  by_cases hk5 : l1 = (5 : Int32)
  · rw [if_pos hk5] at hw
    refine R_tsI (tgt := 86) hc dX11_count_6 (k := 5) (by rw [hk5]; decide) (by decide) (by decide) rfl (by decide) ?_
    refine R_aload_n (q := 0) (i := 0) (v := (some l0)) hc dX11_count_86 rfl rfl ?_
    refine R_getR hc fl_11_7 dX11_count_87 hw (fun t12 hw => ?_)
    refine R_iconst (v := (0 : Int32)) hc dX11_count_90 kI_0 ?_
    refine R_iaload hc dX11_count_91 hw (fun t13 hw => ?_)
    exact R_ireturn hc hret rfl hQ hw dX11_count_92
  rw [if_neg hk5] at hw
  by_cases hk6 : l1 = (6 : Int32)
  · rw [if_pos hk6] at hw
    refine R_tsI (tgt := 93) hc dX11_count_6 (k := 6) (by rw [hk6]; decide) (by decide) (by decide) rfl (by decide) ?_
    refine R_aload_n (q := 0) (i := 0) (v := (some l0)) hc dX11_count_93 rfl rfl ?_
    refine R_getR hc fl_11_7 dX11_count_94 hw (fun t14 hw => ?_)
    refine R_iconst (v := (1 : Int32)) hc dX11_count_97 kI_1 ?_
    refine R_iaload hc dX11_count_98 hw (fun t15 hw => ?_)
    exact R_ireturn hc hret rfl hQ hw dX11_count_99
  rw [if_neg hk6] at hw
  by_cases hk7 : l1 = (7 : Int32)
  · rw [if_pos hk7] at hw
    refine R_tsI (tgt := 100) hc dX11_count_6 (k := 7) (by rw [hk7]; decide) (by decide) (by decide) rfl (by decide) ?_
    refine R_aload_n (q := 0) (i := 0) (v := (some l0)) hc dX11_count_100 rfl rfl ?_
    refine R_getI hc fl_11_288 dX11_count_101 hw (fun t16 hw => ?_)
    exact R_ireturn hc hret rfl hQ hw dX11_count_104
  rw [if_neg hk7] at hw
  refine R_tsO (tgt := 105) hc dX11_count_6 (by have q0 := lv_neT hk0 (a := 0) (by decide); have q1 := lv_neT hk1 (a := 1) (by decide); have q2 := lv_neT hk2 (a := 2) (by decide); have q3 := lv_neT hk3 (a := 3) (by decide); have q4 := lv_neT hk4 (a := 4) (by decide); have q5 := lv_neT hk5 (a := 5) (by decide); have q6 := lv_neT hk6 (a := 6) (by decide); have q7 := lv_neT hk7 (a := 7) (by decide); omega) (by decide) ?_
  refine R_iconst (v := (-1 : Int32)) hc dX11_count_105 kI_m1 ?_
  exact R_ireturn hc hret rfl hQ hw dX11_count_106
