theorem mf_L_cell : MfW yL_cell cL_cell 3 [(0, 8, 11, 13)] 2 := ⟨tg_in 189 tables_1_3 (fun _ h => tb3 h) rfl rfl, tg_in 0 tables_1_1 (fun _ h => tb1 h) rfl rfl, tg_in 188 tables_1_3 (fun _ h => tb3 h) rfl rfl, by decide +kernel⟩
theorem mf_L_pair : MfW yL_pair cL_pair 5 [(0, 10, 13, 19), (0, 10, 17, 21)] 4 := ⟨tg_in 167 tables_1_4 (fun _ h => tb4 h) rfl rfl, tg_in 0 tables_1_1 (fun _ h => tb1 h) rfl rfl, tg_in 166 tables_1_4 (fun _ h => tb4 h) rfl rfl, by decide +kernel⟩
theorem mf_L_at : MfW yL_at cL_at 5 [(0, 10, 13, 19), (0, 10, 17, 21)] 4 := ⟨tg_in 213 tables_1_4 (fun _ h => tb4 h) rfl rfl, tg_in 0 tables_1_1 (fun _ h => tb1 h) rfl rfl, tg_in 212 tables_1_4 (fun _ h => tb4 h) rfl rfl, by decide +kernel⟩
theorem mf_L_column : MfW yL_column cL_column 5 [(0, 10, 13, 19), (0, 10, 17, 21)] 4 := ⟨tg_in 0 tables_1_5 (fun _ h => tb5 h) rfl rfl, tg_in 0 tables_1_1 (fun _ h => tb1 h) rfl rfl, tg_in 239 tables_1_4 (fun _ h => tb4 h) rfl rfl, by decide +kernel⟩
theorem mf_L_net : MfW yL_net cL_net 5 [(0, 10, 13, 19), (0, 10, 17, 21)] 4 := ⟨tg_in 9 tables_1_5 (fun _ h => tb5 h) rfl rfl, tg_in 0 tables_1_1 (fun _ h => tb1 h) rfl rfl, tg_in 8 tables_1_5 (fun _ h => tb5 h) rfl rfl, by decide +kernel⟩
theorem mf_L_layout : MfW yL_layout cL_layout 4 [(0, 9, 12, 21)] 3 := ⟨tg_in 21 tables_1_5 (fun _ h => tb5 h) rfl rfl, tg_in 0 tables_1_1 (fun _ h => tb1 h) rfl rfl, tg_in 20 tables_1_5 (fun _ h => tb5 h) rfl rfl, by decide +kernel⟩
theorem mf_L_best : MfW yL_best cL_best 7 [(0, 13, 16, 19), (0, 13, 20, 13)] 5 := ⟨tg_in 65 tables_1_5 (fun _ h => tb5 h) rfl rfl, tg_in 0 tables_1_1 (fun _ h => tb1 h) rfl rfl, tg_in 64 tables_1_5 (fun _ h => tb5 h) rfl rfl, by decide +kernel⟩
theorem mf_L_with : MfW yL_with cL_with 5 [(0, 10, 13, 19)] 4 := ⟨tg_in 82 tables_1_5 (fun _ h => tb5 h) rfl rfl, tg_in 0 tables_1_1 (fun _ h => tb1 h) rfl rfl, tg_in 81 tables_1_5 (fun _ h => tb5 h) rfl rfl, by decide +kernel⟩
theorem mf_L_ofSet : MfW yL_ofSet cL_ofSet 4 [(0, 9, 12, 13)] 3 := ⟨tg_in 99 tables_1_5 (fun _ h => tb5 h) rfl rfl, tg_in 0 tables_1_1 (fun _ h => tb1 h) rfl rfl, tg_in 98 tables_1_5 (fun _ h => tb5 h) rfl rfl, by decide +kernel⟩
theorem mf_L_parted : MfW yL_parted cL_parted 5 [(0, 10, 13, 13)] 4 := ⟨tg_in 106 tables_1_5 (fun _ h => tb5 h) rfl rfl, tg_in 0 tables_1_1 (fun _ h => tb1 h) rfl rfl, tg_in 105 tables_1_5 (fun _ h => tb5 h) rfl rfl, by decide +kernel⟩
theorem mf_L_better : MfW yL_better cL_better 4 [(0, 9, 12, 21)] 3 := ⟨tg_in 124 tables_1_5 (fun _ h => tb5 h) rfl rfl, tg_in 0 tables_1_1 (fun _ h => tb1 h) rfl rfl, tg_in 123 tables_1_5 (fun _ h => tb5 h) rfl rfl, by decide +kernel⟩
theorem mf_L_shortest : MfW yL_shortest cL_shortest 5 [(0, 10, 13, 13)] 4 := ⟨tg_in 156 tables_1_5 (fun _ h => tb5 h) rfl rfl, tg_in 0 tables_1_1 (fun _ h => tb1 h) rfl rfl, tg_in 155 tables_1_5 (fun _ h => tb5 h) rfl rfl, by decide +kernel⟩
theorem mf_L_neighbours : MfW yL_neighbours cL_neighbours 5 [(0, 9, 12, 19), (0, 9, 16, 13)] 4 := ⟨tg_in 168 tables_1_5 (fun _ h => tb5 h) rfl rfl, tg_in 0 tables_1_1 (fun _ h => tb1 h) rfl rfl, tg_in 167 tables_1_5 (fun _ h => tb5 h) rfl rfl, by decide +kernel⟩
theorem mf_L_starts : MfW yL_starts cL_starts 4 [(0, 8, 11, 19)] 3 := ⟨tg_in 186 tables_1_5 (fun _ h => tb5 h) rfl rfl, tg_in 0 tables_1_1 (fun _ h => tb1 h) rfl rfl, tg_in 185 tables_1_5 (fun _ h => tb5 h) rfl rfl, by decide +kernel⟩
theorem mf_L_turn : MfW yL_turn cL_turn 5 [(0, 10, 13, 19), (0, 10, 17, 13)] 4 := ⟨tg_in 197 tables_1_5 (fun _ h => tb5 h) rfl rfl, tg_in 0 tables_1_1 (fun _ h => tb1 h) rfl rfl, tg_in 196 tables_1_5 (fun _ h => tb5 h) rfl rfl, by decide +kernel⟩
theorem mf_L_move : MfW yL_move cL_move 5 [(0, 10, 13, 19), (0, 10, 17, 13)] 4 := ⟨tg_in 212 tables_1_5 (fun _ h => tb5 h) rfl rfl, tg_in 0 tables_1_1 (fun _ h => tb1 h) rfl rfl, tg_in 211 tables_1_5 (fun _ h => tb5 h) rfl rfl, by decide +kernel⟩
theorem mf_L_mirror : MfW yL_mirror cL_mirror 3 [(0, 8, 11, 73)] 2 := ⟨tg_in 221 tables_1_5 (fun _ h => tb5 h) rfl rfl, tg_in 0 tables_1_1 (fun _ h => tb1 h) rfl rfl, tg_in 220 tables_1_5 (fun _ h => tb5 h) rfl rfl, by decide +kernel⟩
theorem mf_L_lay : MfW yL_lay cL_lay 5 [(0, 9, 12, 13)] 3 := ⟨tg_in 9 tables_1_6 (fun _ h => tb6 h) rfl rfl, tg_in 0 tables_1_1 (fun _ h => tb1 h) rfl rfl, tg_in 8 tables_1_6 (fun _ h => tb6 h) rfl rfl, by decide +kernel⟩
theorem mf_L_undo : MfW yL_undo cL_undo 3 [(0, 8, 11, 73)] 2 := ⟨tg_in 16 tables_1_6 (fun _ h => tb6 h) rfl rfl, tg_in 0 tables_1_1 (fun _ h => tb1 h) rfl rfl, tg_in 15 tables_1_6 (fun _ h => tb6 h) rfl rfl, by decide +kernel⟩
theorem mf_L_fits : MfW yL_fits cL_fits 5 [(0, 10, 13, 19), (0, 10, 17, 13)] 4 := ⟨tg_in 28 tables_1_6 (fun _ h => tb6 h) rfl rfl, tg_in 0 tables_1_1 (fun _ h => tb1 h) rfl rfl, tg_in 27 tables_1_6 (fun _ h => tb6 h) rfl rfl, by decide +kernel⟩
theorem mf_L_room : MfW yL_room cL_room 4 [(0, 9, 12, 19)] 3 := ⟨tg_in 38 tables_1_6 (fun _ h => tb6 h) rfl rfl, tg_in 0 tables_1_1 (fun _ h => tb1 h) rfl rfl, tg_in 37 tables_1_6 (fun _ h => tb6 h) rfl rfl, by decide +kernel⟩
theorem dL_cell_0 : decode cL_cell 0 = .ok (.aload_n 1, 1) := by decide +kernel
theorem dL_cell_1 : decode cL_cell 1 = .ok (.iconst 0, 1) := by decide +kernel
theorem dL_cell_2 : decode cL_cell 2 = .ok (.aload_n 0, 1) := by decide +kernel
theorem dL_cell_3 : decode cL_cell 3 = .ok (.invokevirtual 7, 3) := by decide +kernel
theorem dL_cell_6 : decode cL_cell 6 = .ok (.i2l, 1) := by decide +kernel
theorem dL_cell_7 : decode cL_cell 7 = .ok (.lastore, 1) := by decide +kernel
theorem dL_cell_8 : decode cL_cell 8 = .ok (.goto 6, 3) := by decide +kernel
theorem dL_cell_11 : decode cL_cell 11 = .ok (.astore_n 2, 1) := by decide +kernel
theorem dL_cell_12 : decode cL_cell 12 = .ok (.iconst 1, 1) := by decide +kernel
theorem dL_cell_13 : decode cL_cell 13 = .ok (.ireturn, 1) := by decide +kernel
theorem dL_cell_14 : decode cL_cell 14 = .ok (.iconst 0, 1) := by decide +kernel
theorem dL_cell_15 : decode cL_cell 15 = .ok (.ireturn, 1) := by decide +kernel
def sL_cell (F : Nat) (l0 : Option Nat) (l1 : Option Nat) (h : HP) : Option (Int32 × HP) :=
  (dO h 10 l0).bind fun a =>
  bd2 (sX10_cell F a  h) fun r h1 => match r with
  | .inl v => (sJ h1 l1 (0 : Int32) v.toInt64).bind fun h2 => some ((0 : Int32), h2)
  | .inr k => if k = 0 then some ((1 : Int32), h1) else none
abbrev rm_L_cell : Room := { frames := 10, cells := 1, slots := 6, locals := 217 }
abbrev hh_L_cell : List (Nat × Nat × Nat × Nat) := [(0, 8, 11, 13)]
set_option maxRecDepth 100000 in
set_option maxHeartbeats 4000000 in
theorem mt_L_cell {w : WD} {l : Launch} {F : Nat} (hlt : l.stackTraces = false) {l0 : Option Nat} {l1 : Option Nat} {h : HP} {v : Int32} {h' : HP} (hs : sL_cell F l0 l1 h = some (v, h')) : MW w l yL_cell cL_cell 3 hh_L_cell rm_L_cell [rf w l0, rf w l1] h v h' := by
  refine of_bodyW [(0, rf w l0), (1, rf w l1)] (by decide) (by simp [lg_sl, rf_cat, cat_i, cat_l, cat_a]) (by simp [lv_args, rf_cat, cat_i, cat_l, cat_a]) ?_
  intro x hw_ hnL_ hl_ hc hret htab hQ
  subst hw_; subst hl_
  have hnl : ∀ i, i < 3 → i < x.nL := fun i h => by rw [hnL_]; exact h
  have hw : wpO (sL_cell F l0 l1 h) (fun q => q = (v, h')) := ⟨_, hs, rfl⟩
  unfold sL_cell at hw
  refine R_aload_n (q := 1) (i := 1) (v := l1) hc dL_cell_0 rfl rfl ?_
  refine R_iconst (v := (0 : Int32)) hc dL_cell_1 kI_0 ?_
  refine R_aload_n (q := 0) (i := 0) (v := l0) hc dL_cell_2 rfl rfl ?_
  refine R_cXI (As := []) (rest := [.int (0 : Int32), rf x.w l1]) (r0 := l0) (ci := 10) hc ml_L_7 mf_X10_cell rfl (by decide) ⟨rfl, rfl⟩ ⟨le_b rfl, le_b rfl⟩ ⟨le_b rfl, le_b rfl⟩ (fun a r h' e => mt_X10_cell hlt e) rfl rfl (by simp [rf_cat, cat_i]) dL_cell_3 hw (fun v h1 hw => ?_) (fun k h1 hw => ?_)
  · have hw : wpO ((sJ h1 l1 (0 : Int32) v.toInt64).bind fun h2 => some ((0 : Int32), h2)) _ := hw
    refine R_i2l hc dL_cell_6 ?_
    refine R_lastore hc dL_cell_7 hw (fun h2 hw => ?_)
    refine R_goto (tgt := 14) hc dL_cell_8 (by decide) ?_
    refine R_iconst (v := (0 : Int32)) hc dL_cell_14 kI_0 ?_
    exact R_ireturn hc hret rfl hQ hw dL_cell_15
  · have hw : wpO (if k = 0 then some ((1 : Int32), h1) else none) _ := hw
    by_cases hk0 : k = 0
    · subst hk0
      rw [if_pos rfl] at hw
      refine R_catch (k := 0) (nm := "java/lang/IllegalArgumentException") hc [] ⟨0, 8, 11, 13⟩ [] (by rw [htab]; rfl) (fun z hz => nomatch hz) rfl (by decide) lc_13 (List.mem_of_getElem? (i := 0) rfl) (hp := 11) rfl (fun q => ?_)
      refine R_astoreV_n (i := 2) hc [(2, .ref q), (0, rf x.w l0), (1, rf x.w l1)] dL_cell_11 rfl (hnl 2 (le_b rfl)) (by simp [rf_cat]) ?_
      refine R_iconst (v := (1 : Int32)) hc dL_cell_12 kI_1 ?_
      exact R_ireturn hc hret rfl hQ hw dL_cell_13
    rw [if_neg hk0] at hw
    obtain ⟨_, h9, -⟩ := hw
    cases h9
theorem dL_pair_0 : decode cL_pair 0 = .ok (.aload_n 3, 1) := by decide +kernel
theorem dL_pair_1 : decode cL_pair 1 = .ok (.iconst 0, 1) := by decide +kernel
theorem dL_pair_2 : decode cL_pair 2 = .ok (.aload_n 0, 1) := by decide +kernel
theorem dL_pair_3 : decode cL_pair 3 = .ok (.iload_n 1, 1) := by decide +kernel
theorem dL_pair_4 : decode cL_pair 4 = .ok (.iload_n 2, 1) := by decide +kernel
theorem dL_pair_5 : decode cL_pair 5 = .ok (.invokevirtual 15, 3) := by decide +kernel
theorem dL_pair_8 : decode cL_pair 8 = .ok (.i2l, 1) := by decide +kernel
theorem dL_pair_9 : decode cL_pair 9 = .ok (.lastore, 1) := by decide +kernel
theorem dL_pair_10 : decode cL_pair 10 = .ok (.goto 11, 3) := by decide +kernel
theorem dL_pair_13 : decode cL_pair 13 = .ok (.astore 4, 2) := by decide +kernel
theorem dL_pair_15 : decode cL_pair 15 = .ok (.iconst 1, 1) := by decide +kernel
theorem dL_pair_16 : decode cL_pair 16 = .ok (.ireturn, 1) := by decide +kernel
theorem dL_pair_17 : decode cL_pair 17 = .ok (.astore 4, 2) := by decide +kernel
theorem dL_pair_19 : decode cL_pair 19 = .ok (.iconst 2, 1) := by decide +kernel
theorem dL_pair_20 : decode cL_pair 20 = .ok (.ireturn, 1) := by decide +kernel
theorem dL_pair_21 : decode cL_pair 21 = .ok (.iconst 0, 1) := by decide +kernel
theorem dL_pair_22 : decode cL_pair 22 = .ok (.ireturn, 1) := by decide +kernel
def sL_pair (F : Nat) (l0 : Option Nat) (l1 : Int32) (l2 : Int32) (l3 : Option Nat) (h : HP) : Option (Int32 × HP) :=
  (dO h 10 l0).bind fun a =>
  bd2 (sX10_pair F a l1 l2 h) fun r h1 => match r with
  | .inl v => (sJ h1 l3 (0 : Int32) v.toInt64).bind fun h2 => some ((0 : Int32), h2)
  | .inr k => if k = 1 then some ((1 : Int32), h1) else if k = 2 then some ((2 : Int32), h1) else none
abbrev rm_L_pair : Room := { frames := 7, cells := 1, slots := 6, locals := 104 }
abbrev hh_L_pair : List (Nat × Nat × Nat × Nat) := [(0, 10, 13, 19), (0, 10, 17, 21)]
set_option maxRecDepth 100000 in
set_option maxHeartbeats 4000000 in
theorem mt_L_pair {w : WD} {l : Launch} {F : Nat} (hlt : l.stackTraces = false) {l0 : Option Nat} {l1 : Int32} {l2 : Int32} {l3 : Option Nat} {h : HP} {v : Int32} {h' : HP} (hs : sL_pair F l0 l1 l2 l3 h = some (v, h')) : MW w l yL_pair cL_pair 5 hh_L_pair rm_L_pair [rf w l0, .int l1, .int l2, rf w l3] h v h' := by
  refine of_bodyW [(0, rf w l0), (1, .int l1), (2, .int l2), (3, rf w l3)] (by decide) (by simp [lg_sl, rf_cat, cat_i, cat_l, cat_a]) (by simp [lv_args, rf_cat, cat_i, cat_l, cat_a]) ?_
  intro x hw_ hnL_ hl_ hc hret htab hQ
  subst hw_; subst hl_
  have hnl : ∀ i, i < 5 → i < x.nL := fun i h => by rw [hnL_]; exact h
  have hw : wpO (sL_pair F l0 l1 l2 l3 h) (fun q => q = (v, h')) := ⟨_, hs, rfl⟩
  unfold sL_pair at hw
  refine R_aload_n (q := 3) (i := 3) (v := l3) hc dL_pair_0 rfl rfl ?_
  refine R_iconst (v := (0 : Int32)) hc dL_pair_1 kI_0 ?_
  refine R_aload_n (q := 0) (i := 0) (v := l0) hc dL_pair_2 rfl rfl ?_
  refine R_iload_n (q := 1) (i := 1) (v := l1) hc dL_pair_3 rfl rfl ?_
  refine R_iload_n (q := 2) (i := 2) (v := l2) hc dL_pair_4 rfl rfl ?_
  refine R_cXI (As := [.int l1, .int l2]) (rest := [.int (0 : Int32), rf x.w l3]) (r0 := l0) (ci := 10) hc ml_L_15 mf_X10_pair rfl (by decide) ⟨rfl, rfl⟩ ⟨le_b rfl, le_b rfl⟩ ⟨le_b rfl, le_b rfl⟩ (fun a r h' e => mt_X10_pair hlt e) rfl rfl (by simp [rf_cat, cat_i]) dL_pair_5 hw (fun v h1 hw => ?_) (fun k h1 hw => ?_)
  · have hw : wpO ((sJ h1 l3 (0 : Int32) v.toInt64).bind fun h2 => some ((0 : Int32), h2)) _ := hw
    refine R_i2l hc dL_pair_8 ?_
    refine R_lastore hc dL_pair_9 hw (fun h2 hw => ?_)
    refine R_goto (tgt := 21) hc dL_pair_10 (by decide) ?_
    refine R_iconst (v := (0 : Int32)) hc dL_pair_21 kI_0 ?_
    exact R_ireturn hc hret rfl hQ hw dL_pair_22
  · have hw : wpO (if k = 1 then some ((1 : Int32), h1) else if k = 2 then some ((2 : Int32), h1) else none) _ := hw
    by_cases hk0 : k = 1
    · subst hk0
      rw [if_pos rfl] at hw
      refine R_catch (k := 1) (nm := "java/lang/IndexOutOfBoundsException") hc [] ⟨0, 10, 13, 19⟩ [⟨0, 10, 17, 21⟩] (by rw [htab]; rfl) (fun z hz => nomatch hz) rfl (by decide) lc_19 (List.mem_of_getElem? (i := 1) rfl) (hp := 13) rfl (fun q => ?_)
      refine R_astoreV (i := 4) hc [(4, .ref q), (0, rf x.w l0), (1, .int l1), (2, .int l2), (3, rf x.w l3)] dL_pair_13 (hnl 4 (le_b rfl)) (by simp [rf_cat]) ?_
      refine R_iconst (v := (1 : Int32)) hc dL_pair_15 kI_1 ?_
      exact R_ireturn hc hret rfl hQ hw dL_pair_16
    rw [if_neg hk0] at hw
    by_cases hk1 : k = 2
    · subst hk1
      rw [if_pos rfl] at hw
      refine R_catch (k := 2) (nm := "java/util/NoSuchElementException") hc [⟨0, 10, 13, 19⟩] ⟨0, 10, 17, 21⟩ [] (by rw [htab]; rfl) (fun z hz => by cases hz with | head => exact Or.inr ⟨by decide, "java/lang/IndexOutOfBoundsException", lc_19, hc.sk.2.2.2.2.2.2.2.2 ("java/util/NoSuchElementException", "java/lang/IndexOutOfBoundsException") (List.mem_of_getElem? (i := 0) rfl)⟩ | tail _ hz => cases hz) rfl (by decide) lc_21 (List.mem_of_getElem? (i := 2) rfl) (hp := 17) rfl (fun q => ?_)
      refine R_astoreV (i := 4) hc [(4, .ref q), (0, rf x.w l0), (1, .int l1), (2, .int l2), (3, rf x.w l3)] dL_pair_17 (hnl 4 (le_b rfl)) (by simp [rf_cat]) ?_
      refine R_iconst (v := (2 : Int32)) hc dL_pair_19 kI_2 ?_
      exact R_ireturn hc hret rfl hQ hw dL_pair_20
    rw [if_neg hk1] at hw
    obtain ⟨_, h9, -⟩ := hw
    cases h9
theorem dL_at_0 : decode cL_at 0 = .ok (.aload_n 3, 1) := by decide +kernel
theorem dL_at_1 : decode cL_at 1 = .ok (.iconst 0, 1) := by decide +kernel
theorem dL_at_2 : decode cL_at 2 = .ok (.aload_n 0, 1) := by decide +kernel
theorem dL_at_3 : decode cL_at 3 = .ok (.iload_n 1, 1) := by decide +kernel
theorem dL_at_4 : decode cL_at 4 = .ok (.iload_n 2, 1) := by decide +kernel
theorem dL_at_5 : decode cL_at 5 = .ok (.invokevirtual 23, 3) := by decide +kernel
theorem dL_at_8 : decode cL_at 8 = .ok (.i2l, 1) := by decide +kernel
theorem dL_at_9 : decode cL_at 9 = .ok (.lastore, 1) := by decide +kernel
theorem dL_at_10 : decode cL_at 10 = .ok (.goto 11, 3) := by decide +kernel
theorem dL_at_13 : decode cL_at 13 = .ok (.astore 4, 2) := by decide +kernel
theorem dL_at_15 : decode cL_at 15 = .ok (.iconst 1, 1) := by decide +kernel
theorem dL_at_16 : decode cL_at 16 = .ok (.ireturn, 1) := by decide +kernel
theorem dL_at_17 : decode cL_at 17 = .ok (.astore 4, 2) := by decide +kernel
theorem dL_at_19 : decode cL_at 19 = .ok (.iconst 2, 1) := by decide +kernel
theorem dL_at_20 : decode cL_at 20 = .ok (.ireturn, 1) := by decide +kernel
theorem dL_at_21 : decode cL_at 21 = .ok (.iconst 0, 1) := by decide +kernel
theorem dL_at_22 : decode cL_at 22 = .ok (.ireturn, 1) := by decide +kernel
def sL_at (F : Nat) (l0 : Option Nat) (l1 : Int32) (l2 : Int32) (l3 : Option Nat) (h : HP) : Option (Int32 × HP) :=
  (dO h 10 l0).bind fun a =>
  bd2 (sX10_at F a l1 l2 h) fun r h1 => match r with
  | .inl v => (sJ h1 l3 (0 : Int32) v.toInt64).bind fun h2 => some ((0 : Int32), h2)
  | .inr k => if k = 1 then some ((1 : Int32), h1) else if k = 2 then some ((2 : Int32), h1) else none
abbrev rm_L_at : Room := { frames := 7, cells := 1, slots := 6, locals := 105 }
abbrev hh_L_at : List (Nat × Nat × Nat × Nat) := [(0, 10, 13, 19), (0, 10, 17, 21)]
set_option maxRecDepth 100000 in
set_option maxHeartbeats 4000000 in
theorem mt_L_at {w : WD} {l : Launch} {F : Nat} (hlt : l.stackTraces = false) {l0 : Option Nat} {l1 : Int32} {l2 : Int32} {l3 : Option Nat} {h : HP} {v : Int32} {h' : HP} (hs : sL_at F l0 l1 l2 l3 h = some (v, h')) : MW w l yL_at cL_at 5 hh_L_at rm_L_at [rf w l0, .int l1, .int l2, rf w l3] h v h' := by
  refine of_bodyW [(0, rf w l0), (1, .int l1), (2, .int l2), (3, rf w l3)] (by decide) (by simp [lg_sl, rf_cat, cat_i, cat_l, cat_a]) (by simp [lv_args, rf_cat, cat_i, cat_l, cat_a]) ?_
  intro x hw_ hnL_ hl_ hc hret htab hQ
  subst hw_; subst hl_
  have hnl : ∀ i, i < 5 → i < x.nL := fun i h => by rw [hnL_]; exact h
  have hw : wpO (sL_at F l0 l1 l2 l3 h) (fun q => q = (v, h')) := ⟨_, hs, rfl⟩
  unfold sL_at at hw
  refine R_aload_n (q := 3) (i := 3) (v := l3) hc dL_at_0 rfl rfl ?_
  refine R_iconst (v := (0 : Int32)) hc dL_at_1 kI_0 ?_
  refine R_aload_n (q := 0) (i := 0) (v := l0) hc dL_at_2 rfl rfl ?_
  refine R_iload_n (q := 1) (i := 1) (v := l1) hc dL_at_3 rfl rfl ?_
  refine R_iload_n (q := 2) (i := 2) (v := l2) hc dL_at_4 rfl rfl ?_
  refine R_cXI (As := [.int l1, .int l2]) (rest := [.int (0 : Int32), rf x.w l3]) (r0 := l0) (ci := 10) hc ml_L_23 mf_X10_at rfl (by decide) ⟨rfl, rfl⟩ ⟨le_b rfl, le_b rfl⟩ ⟨le_b rfl, le_b rfl⟩ (fun a r h' e => mt_X10_at hlt e) rfl rfl (by simp [rf_cat, cat_i]) dL_at_5 hw (fun v h1 hw => ?_) (fun k h1 hw => ?_)
  · have hw : wpO ((sJ h1 l3 (0 : Int32) v.toInt64).bind fun h2 => some ((0 : Int32), h2)) _ := hw
    refine R_i2l hc dL_at_8 ?_
    refine R_lastore hc dL_at_9 hw (fun h2 hw => ?_)
    refine R_goto (tgt := 21) hc dL_at_10 (by decide) ?_
    refine R_iconst (v := (0 : Int32)) hc dL_at_21 kI_0 ?_
    exact R_ireturn hc hret rfl hQ hw dL_at_22
  · have hw : wpO (if k = 1 then some ((1 : Int32), h1) else if k = 2 then some ((2 : Int32), h1) else none) _ := hw
    by_cases hk0 : k = 1
    · subst hk0
      rw [if_pos rfl] at hw
      refine R_catch (k := 1) (nm := "java/lang/IndexOutOfBoundsException") hc [] ⟨0, 10, 13, 19⟩ [⟨0, 10, 17, 21⟩] (by rw [htab]; rfl) (fun z hz => nomatch hz) rfl (by decide) lc_19 (List.mem_of_getElem? (i := 1) rfl) (hp := 13) rfl (fun q => ?_)
      refine R_astoreV (i := 4) hc [(4, .ref q), (0, rf x.w l0), (1, .int l1), (2, .int l2), (3, rf x.w l3)] dL_at_13 (hnl 4 (le_b rfl)) (by simp [rf_cat]) ?_
      refine R_iconst (v := (1 : Int32)) hc dL_at_15 kI_1 ?_
      exact R_ireturn hc hret rfl hQ hw dL_at_16
    rw [if_neg hk0] at hw
    by_cases hk1 : k = 2
    · subst hk1
      rw [if_pos rfl] at hw
      refine R_catch (k := 2) (nm := "java/util/NoSuchElementException") hc [⟨0, 10, 13, 19⟩] ⟨0, 10, 17, 21⟩ [] (by rw [htab]; rfl) (fun z hz => by cases hz with | head => exact Or.inr ⟨by decide, "java/lang/IndexOutOfBoundsException", lc_19, hc.sk.2.2.2.2.2.2.2.2 ("java/util/NoSuchElementException", "java/lang/IndexOutOfBoundsException") (List.mem_of_getElem? (i := 0) rfl)⟩ | tail _ hz => cases hz) rfl (by decide) lc_21 (List.mem_of_getElem? (i := 2) rfl) (hp := 17) rfl (fun q => ?_)
      refine R_astoreV (i := 4) hc [(4, .ref q), (0, rf x.w l0), (1, .int l1), (2, .int l2), (3, rf x.w l3)] dL_at_17 (hnl 4 (le_b rfl)) (by simp [rf_cat]) ?_
      refine R_iconst (v := (2 : Int32)) hc dL_at_19 kI_2 ?_
      exact R_ireturn hc hret rfl hQ hw dL_at_20
    rw [if_neg hk1] at hw
    obtain ⟨_, h9, -⟩ := hw
    cases h9
theorem dL_column_0 : decode cL_column 0 = .ok (.aload_n 3, 1) := by decide +kernel
theorem dL_column_1 : decode cL_column 1 = .ok (.iconst 0, 1) := by decide +kernel
theorem dL_column_2 : decode cL_column 2 = .ok (.aload_n 0, 1) := by decide +kernel
theorem dL_column_3 : decode cL_column 3 = .ok (.iload_n 1, 1) := by decide +kernel
theorem dL_column_4 : decode cL_column 4 = .ok (.iload_n 2, 1) := by decide +kernel
theorem dL_column_5 : decode cL_column 5 = .ok (.invokevirtual 26, 3) := by decide +kernel
theorem dL_column_8 : decode cL_column 8 = .ok (.i2l, 1) := by decide +kernel
theorem dL_column_9 : decode cL_column 9 = .ok (.lastore, 1) := by decide +kernel
theorem dL_column_10 : decode cL_column 10 = .ok (.goto 11, 3) := by decide +kernel
theorem dL_column_13 : decode cL_column 13 = .ok (.astore 4, 2) := by decide +kernel
theorem dL_column_15 : decode cL_column 15 = .ok (.iconst 1, 1) := by decide +kernel
theorem dL_column_16 : decode cL_column 16 = .ok (.ireturn, 1) := by decide +kernel
theorem dL_column_17 : decode cL_column 17 = .ok (.astore 4, 2) := by decide +kernel
theorem dL_column_19 : decode cL_column 19 = .ok (.iconst 2, 1) := by decide +kernel
theorem dL_column_20 : decode cL_column 20 = .ok (.ireturn, 1) := by decide +kernel
theorem dL_column_21 : decode cL_column 21 = .ok (.iconst 0, 1) := by decide +kernel
theorem dL_column_22 : decode cL_column 22 = .ok (.ireturn, 1) := by decide +kernel
def sL_column (F : Nat) (l0 : Option Nat) (l1 : Int32) (l2 : Int32) (l3 : Option Nat) (h : HP) : Option (Int32 × HP) :=
  (dO h 10 l0).bind fun a =>
  bd2 (sX10_column F a l1 l2 h) fun r h1 => match r with
  | .inl v => (sJ h1 l3 (0 : Int32) v.toInt64).bind fun h2 => some ((0 : Int32), h2)
  | .inr k => if k = 1 then some ((1 : Int32), h1) else if k = 2 then some ((2 : Int32), h1) else none
abbrev rm_L_column : Room := { frames := 7, cells := 1, slots := 6, locals := 104 }
abbrev hh_L_column : List (Nat × Nat × Nat × Nat) := [(0, 10, 13, 19), (0, 10, 17, 21)]
set_option maxRecDepth 100000 in
set_option maxHeartbeats 4000000 in
theorem mt_L_column {w : WD} {l : Launch} {F : Nat} (hlt : l.stackTraces = false) {l0 : Option Nat} {l1 : Int32} {l2 : Int32} {l3 : Option Nat} {h : HP} {v : Int32} {h' : HP} (hs : sL_column F l0 l1 l2 l3 h = some (v, h')) : MW w l yL_column cL_column 5 hh_L_column rm_L_column [rf w l0, .int l1, .int l2, rf w l3] h v h' := by
  refine of_bodyW [(0, rf w l0), (1, .int l1), (2, .int l2), (3, rf w l3)] (by decide) (by simp [lg_sl, rf_cat, cat_i, cat_l, cat_a]) (by simp [lv_args, rf_cat, cat_i, cat_l, cat_a]) ?_
  intro x hw_ hnL_ hl_ hc hret htab hQ
  subst hw_; subst hl_
  have hnl : ∀ i, i < 5 → i < x.nL := fun i h => by rw [hnL_]; exact h
  have hw : wpO (sL_column F l0 l1 l2 l3 h) (fun q => q = (v, h')) := ⟨_, hs, rfl⟩
  unfold sL_column at hw
  refine R_aload_n (q := 3) (i := 3) (v := l3) hc dL_column_0 rfl rfl ?_
  refine R_iconst (v := (0 : Int32)) hc dL_column_1 kI_0 ?_
  refine R_aload_n (q := 0) (i := 0) (v := l0) hc dL_column_2 rfl rfl ?_
  refine R_iload_n (q := 1) (i := 1) (v := l1) hc dL_column_3 rfl rfl ?_
  refine R_iload_n (q := 2) (i := 2) (v := l2) hc dL_column_4 rfl rfl ?_
  refine R_cXI (As := [.int l1, .int l2]) (rest := [.int (0 : Int32), rf x.w l3]) (r0 := l0) (ci := 10) hc ml_L_26 mf_X10_column rfl (by decide) ⟨rfl, rfl⟩ ⟨le_b rfl, le_b rfl⟩ ⟨le_b rfl, le_b rfl⟩ (fun a r h' e => mt_X10_column hlt e) rfl rfl (by simp [rf_cat, cat_i]) dL_column_5 hw (fun v h1 hw => ?_) (fun k h1 hw => ?_)
  · have hw : wpO ((sJ h1 l3 (0 : Int32) v.toInt64).bind fun h2 => some ((0 : Int32), h2)) _ := hw
    refine R_i2l hc dL_column_8 ?_
    refine R_lastore hc dL_column_9 hw (fun h2 hw => ?_)
    refine R_goto (tgt := 21) hc dL_column_10 (by decide) ?_
    refine R_iconst (v := (0 : Int32)) hc dL_column_21 kI_0 ?_
    exact R_ireturn hc hret rfl hQ hw dL_column_22
  · have hw : wpO (if k = 1 then some ((1 : Int32), h1) else if k = 2 then some ((2 : Int32), h1) else none) _ := hw
    by_cases hk0 : k = 1
    · subst hk0
      rw [if_pos rfl] at hw
      refine R_catch (k := 1) (nm := "java/lang/IndexOutOfBoundsException") hc [] ⟨0, 10, 13, 19⟩ [⟨0, 10, 17, 21⟩] (by rw [htab]; rfl) (fun z hz => nomatch hz) rfl (by decide) lc_19 (List.mem_of_getElem? (i := 1) rfl) (hp := 13) rfl (fun q => ?_)
      refine R_astoreV (i := 4) hc [(4, .ref q), (0, rf x.w l0), (1, .int l1), (2, .int l2), (3, rf x.w l3)] dL_column_13 (hnl 4 (le_b rfl)) (by simp [rf_cat]) ?_
      refine R_iconst (v := (1 : Int32)) hc dL_column_15 kI_1 ?_
      exact R_ireturn hc hret rfl hQ hw dL_column_16
    rw [if_neg hk0] at hw
    by_cases hk1 : k = 2
    · subst hk1
      rw [if_pos rfl] at hw
      refine R_catch (k := 2) (nm := "java/util/NoSuchElementException") hc [⟨0, 10, 13, 19⟩] ⟨0, 10, 17, 21⟩ [] (by rw [htab]; rfl) (fun z hz => by cases hz with | head => exact Or.inr ⟨by decide, "java/lang/IndexOutOfBoundsException", lc_19, hc.sk.2.2.2.2.2.2.2.2 ("java/util/NoSuchElementException", "java/lang/IndexOutOfBoundsException") (List.mem_of_getElem? (i := 0) rfl)⟩ | tail _ hz => cases hz) rfl (by decide) lc_21 (List.mem_of_getElem? (i := 2) rfl) (hp := 17) rfl (fun q => ?_)
      refine R_astoreV (i := 4) hc [(4, .ref q), (0, rf x.w l0), (1, .int l1), (2, .int l2), (3, rf x.w l3)] dL_column_17 (hnl 4 (le_b rfl)) (by simp [rf_cat]) ?_
      refine R_iconst (v := (2 : Int32)) hc dL_column_19 kI_2 ?_
      exact R_ireturn hc hret rfl hQ hw dL_column_20
    rw [if_neg hk1] at hw
    obtain ⟨_, h9, -⟩ := hw
    cases h9
theorem dL_net_0 : decode cL_net 0 = .ok (.aload_n 3, 1) := by decide +kernel
theorem dL_net_1 : decode cL_net 1 = .ok (.iconst 0, 1) := by decide +kernel
theorem dL_net_2 : decode cL_net 2 = .ok (.aload_n 0, 1) := by decide +kernel
theorem dL_net_3 : decode cL_net 3 = .ok (.iload_n 1, 1) := by decide +kernel
theorem dL_net_4 : decode cL_net 4 = .ok (.iload_n 2, 1) := by decide +kernel
theorem dL_net_5 : decode cL_net 5 = .ok (.invokevirtual 29, 3) := by decide +kernel
theorem dL_net_8 : decode cL_net 8 = .ok (.i2l, 1) := by decide +kernel
theorem dL_net_9 : decode cL_net 9 = .ok (.lastore, 1) := by decide +kernel
theorem dL_net_10 : decode cL_net 10 = .ok (.goto 11, 3) := by decide +kernel
theorem dL_net_13 : decode cL_net 13 = .ok (.astore 4, 2) := by decide +kernel
theorem dL_net_15 : decode cL_net 15 = .ok (.iconst 1, 1) := by decide +kernel
theorem dL_net_16 : decode cL_net 16 = .ok (.ireturn, 1) := by decide +kernel
theorem dL_net_17 : decode cL_net 17 = .ok (.astore 4, 2) := by decide +kernel
theorem dL_net_19 : decode cL_net 19 = .ok (.iconst 2, 1) := by decide +kernel
theorem dL_net_20 : decode cL_net 20 = .ok (.ireturn, 1) := by decide +kernel
theorem dL_net_21 : decode cL_net 21 = .ok (.iconst 0, 1) := by decide +kernel
theorem dL_net_22 : decode cL_net 22 = .ok (.ireturn, 1) := by decide +kernel
def sL_net (F : Nat) (l0 : Option Nat) (l1 : Int32) (l2 : Int32) (l3 : Option Nat) (h : HP) : Option (Int32 × HP) :=
  (dO h 10 l0).bind fun a =>
  bd2 (sX10_net F a l1 l2 h) fun r h1 => match r with
  | .inl v => (sJ h1 l3 (0 : Int32) v.toInt64).bind fun h2 => some ((0 : Int32), h2)
  | .inr k => if k = 1 then some ((1 : Int32), h1) else if k = 2 then some ((2 : Int32), h1) else none
abbrev rm_L_net : Room := { frames := 7, cells := 1, slots := 6, locals := 104 }
abbrev hh_L_net : List (Nat × Nat × Nat × Nat) := [(0, 10, 13, 19), (0, 10, 17, 21)]
set_option maxRecDepth 100000 in
set_option maxHeartbeats 4000000 in
theorem mt_L_net {w : WD} {l : Launch} {F : Nat} (hlt : l.stackTraces = false) {l0 : Option Nat} {l1 : Int32} {l2 : Int32} {l3 : Option Nat} {h : HP} {v : Int32} {h' : HP} (hs : sL_net F l0 l1 l2 l3 h = some (v, h')) : MW w l yL_net cL_net 5 hh_L_net rm_L_net [rf w l0, .int l1, .int l2, rf w l3] h v h' := by
  refine of_bodyW [(0, rf w l0), (1, .int l1), (2, .int l2), (3, rf w l3)] (by decide) (by simp [lg_sl, rf_cat, cat_i, cat_l, cat_a]) (by simp [lv_args, rf_cat, cat_i, cat_l, cat_a]) ?_
  intro x hw_ hnL_ hl_ hc hret htab hQ
  subst hw_; subst hl_
  have hnl : ∀ i, i < 5 → i < x.nL := fun i h => by rw [hnL_]; exact h
  have hw : wpO (sL_net F l0 l1 l2 l3 h) (fun q => q = (v, h')) := ⟨_, hs, rfl⟩
  unfold sL_net at hw
  refine R_aload_n (q := 3) (i := 3) (v := l3) hc dL_net_0 rfl rfl ?_
  refine R_iconst (v := (0 : Int32)) hc dL_net_1 kI_0 ?_
  refine R_aload_n (q := 0) (i := 0) (v := l0) hc dL_net_2 rfl rfl ?_
  refine R_iload_n (q := 1) (i := 1) (v := l1) hc dL_net_3 rfl rfl ?_
  refine R_iload_n (q := 2) (i := 2) (v := l2) hc dL_net_4 rfl rfl ?_
  refine R_cXI (As := [.int l1, .int l2]) (rest := [.int (0 : Int32), rf x.w l3]) (r0 := l0) (ci := 10) hc ml_L_29 mf_X10_net rfl (by decide) ⟨rfl, rfl⟩ ⟨le_b rfl, le_b rfl⟩ ⟨le_b rfl, le_b rfl⟩ (fun a r h' e => mt_X10_net hlt e) rfl rfl (by simp [rf_cat, cat_i]) dL_net_5 hw (fun v h1 hw => ?_) (fun k h1 hw => ?_)
  · have hw : wpO ((sJ h1 l3 (0 : Int32) v.toInt64).bind fun h2 => some ((0 : Int32), h2)) _ := hw
    refine R_i2l hc dL_net_8 ?_
    refine R_lastore hc dL_net_9 hw (fun h2 hw => ?_)
    refine R_goto (tgt := 21) hc dL_net_10 (by decide) ?_
    refine R_iconst (v := (0 : Int32)) hc dL_net_21 kI_0 ?_
    exact R_ireturn hc hret rfl hQ hw dL_net_22
  · have hw : wpO (if k = 1 then some ((1 : Int32), h1) else if k = 2 then some ((2 : Int32), h1) else none) _ := hw
    by_cases hk0 : k = 1
    · subst hk0
      rw [if_pos rfl] at hw
      refine R_catch (k := 1) (nm := "java/lang/IndexOutOfBoundsException") hc [] ⟨0, 10, 13, 19⟩ [⟨0, 10, 17, 21⟩] (by rw [htab]; rfl) (fun z hz => nomatch hz) rfl (by decide) lc_19 (List.mem_of_getElem? (i := 1) rfl) (hp := 13) rfl (fun q => ?_)
      refine R_astoreV (i := 4) hc [(4, .ref q), (0, rf x.w l0), (1, .int l1), (2, .int l2), (3, rf x.w l3)] dL_net_13 (hnl 4 (le_b rfl)) (by simp [rf_cat]) ?_
      refine R_iconst (v := (1 : Int32)) hc dL_net_15 kI_1 ?_
      exact R_ireturn hc hret rfl hQ hw dL_net_16
    rw [if_neg hk0] at hw
    by_cases hk1 : k = 2
    · subst hk1
      rw [if_pos rfl] at hw
      refine R_catch (k := 2) (nm := "java/util/NoSuchElementException") hc [⟨0, 10, 13, 19⟩] ⟨0, 10, 17, 21⟩ [] (by rw [htab]; rfl) (fun z hz => by cases hz with | head => exact Or.inr ⟨by decide, "java/lang/IndexOutOfBoundsException", lc_19, hc.sk.2.2.2.2.2.2.2.2 ("java/util/NoSuchElementException", "java/lang/IndexOutOfBoundsException") (List.mem_of_getElem? (i := 0) rfl)⟩ | tail _ hz => cases hz) rfl (by decide) lc_21 (List.mem_of_getElem? (i := 2) rfl) (hp := 17) rfl (fun q => ?_)
      refine R_astoreV (i := 4) hc [(4, .ref q), (0, rf x.w l0), (1, .int l1), (2, .int l2), (3, rf x.w l3)] dL_net_17 (hnl 4 (le_b rfl)) (by simp [rf_cat]) ?_
      refine R_iconst (v := (2 : Int32)) hc dL_net_19 kI_2 ?_
      exact R_ireturn hc hret rfl hQ hw dL_net_20
    rw [if_neg hk1] at hw
    obtain ⟨_, h9, -⟩ := hw
    cases h9
theorem dL_layout_0 : decode cL_layout 0 = .ok (.aload_n 2, 1) := by decide +kernel
theorem dL_layout_1 : decode cL_layout 1 = .ok (.iconst 0, 1) := by decide +kernel
theorem dL_layout_2 : decode cL_layout 2 = .ok (.aload_n 0, 1) := by decide +kernel
theorem dL_layout_3 : decode cL_layout 3 = .ok (.iload_n 1, 1) := by decide +kernel
theorem dL_layout_4 : decode cL_layout 4 = .ok (.invokevirtual 32, 3) := by decide +kernel
theorem dL_layout_7 : decode cL_layout 7 = .ok (.i2l, 1) := by decide +kernel
theorem dL_layout_8 : decode cL_layout 8 = .ok (.lastore, 1) := by decide +kernel
theorem dL_layout_9 : decode cL_layout 9 = .ok (.goto 6, 3) := by decide +kernel
theorem dL_layout_12 : decode cL_layout 12 = .ok (.astore_n 3, 1) := by decide +kernel
theorem dL_layout_13 : decode cL_layout 13 = .ok (.iconst 1, 1) := by decide +kernel
theorem dL_layout_14 : decode cL_layout 14 = .ok (.ireturn, 1) := by decide +kernel
theorem dL_layout_15 : decode cL_layout 15 = .ok (.iconst 0, 1) := by decide +kernel
theorem dL_layout_16 : decode cL_layout 16 = .ok (.ireturn, 1) := by decide +kernel
def sL_layout (F : Nat) (l0 : Option Nat) (l1 : Int32) (l2 : Option Nat) (h : HP) : Option (Int32 × HP) :=
  (dO h 10 l0).bind fun a =>
  bd2 (sX10_layout F a l1 h) fun r h1 => match r with
  | .inl v => (sJ h1 l2 (0 : Int32) v.toInt64).bind fun h2 => some ((0 : Int32), h2)
  | .inr k => if k = 2 then some ((1 : Int32), h1) else none
abbrev rm_L_layout : Room := { frames := 7, cells := 1, slots := 6, locals := 103 }
abbrev hh_L_layout : List (Nat × Nat × Nat × Nat) := [(0, 9, 12, 21)]
set_option maxRecDepth 100000 in
set_option maxHeartbeats 4000000 in
theorem mt_L_layout {w : WD} {l : Launch} {F : Nat} (hlt : l.stackTraces = false) {l0 : Option Nat} {l1 : Int32} {l2 : Option Nat} {h : HP} {v : Int32} {h' : HP} (hs : sL_layout F l0 l1 l2 h = some (v, h')) : MW w l yL_layout cL_layout 4 hh_L_layout rm_L_layout [rf w l0, .int l1, rf w l2] h v h' := by
  refine of_bodyW [(0, rf w l0), (1, .int l1), (2, rf w l2)] (by decide) (by simp [lg_sl, rf_cat, cat_i, cat_l, cat_a]) (by simp [lv_args, rf_cat, cat_i, cat_l, cat_a]) ?_
  intro x hw_ hnL_ hl_ hc hret htab hQ
  subst hw_; subst hl_
  have hnl : ∀ i, i < 4 → i < x.nL := fun i h => by rw [hnL_]; exact h
  have hw : wpO (sL_layout F l0 l1 l2 h) (fun q => q = (v, h')) := ⟨_, hs, rfl⟩
  unfold sL_layout at hw
  refine R_aload_n (q := 2) (i := 2) (v := l2) hc dL_layout_0 rfl rfl ?_
  refine R_iconst (v := (0 : Int32)) hc dL_layout_1 kI_0 ?_
  refine R_aload_n (q := 0) (i := 0) (v := l0) hc dL_layout_2 rfl rfl ?_
  refine R_iload_n (q := 1) (i := 1) (v := l1) hc dL_layout_3 rfl rfl ?_
  refine R_cXI (As := [.int l1]) (rest := [.int (0 : Int32), rf x.w l2]) (r0 := l0) (ci := 10) hc ml_L_32 mf_X10_layout rfl (by decide) ⟨rfl, rfl⟩ ⟨le_b rfl, le_b rfl⟩ ⟨le_b rfl, le_b rfl⟩ (fun a r h' e => mt_X10_layout hlt e) rfl rfl (by simp [rf_cat, cat_i]) dL_layout_4 hw (fun v h1 hw => ?_) (fun k h1 hw => ?_)
  · have hw : wpO ((sJ h1 l2 (0 : Int32) v.toInt64).bind fun h2 => some ((0 : Int32), h2)) _ := hw
    refine R_i2l hc dL_layout_7 ?_
    refine R_lastore hc dL_layout_8 hw (fun h2 hw => ?_)
    refine R_goto (tgt := 15) hc dL_layout_9 (by decide) ?_
    refine R_iconst (v := (0 : Int32)) hc dL_layout_15 kI_0 ?_
    exact R_ireturn hc hret rfl hQ hw dL_layout_16
  · have hw : wpO (if k = 2 then some ((1 : Int32), h1) else none) _ := hw
    by_cases hk0 : k = 2
    · subst hk0
      rw [if_pos rfl] at hw
      refine R_catch (k := 2) (nm := "java/util/NoSuchElementException") hc [] ⟨0, 9, 12, 21⟩ [] (by rw [htab]; rfl) (fun z hz => nomatch hz) rfl (by decide) lc_21 (List.mem_of_getElem? (i := 2) rfl) (hp := 12) rfl (fun q => ?_)
      refine R_astoreV_n (i := 3) hc [(3, .ref q), (0, rf x.w l0), (1, .int l1), (2, rf x.w l2)] dL_layout_12 rfl (hnl 3 (le_b rfl)) (by simp [rf_cat]) ?_
      refine R_iconst (v := (1 : Int32)) hc dL_layout_13 kI_1 ?_
      exact R_ireturn hc hret rfl hQ hw dL_layout_14
    rw [if_neg hk0] at hw
    obtain ⟨_, h9, -⟩ := hw
    cases h9
theorem dL_best_0 : decode cL_best 0 = .ok (.aload 5, 2) := by decide +kernel
theorem dL_best_2 : decode cL_best 2 = .ok (.iconst 0, 1) := by decide +kernel
theorem dL_best_3 : decode cL_best 3 = .ok (.aload_n 0, 1) := by decide +kernel
theorem dL_best_4 : decode cL_best 4 = .ok (.lload_n 1, 1) := by decide +kernel
theorem dL_best_5 : decode cL_best 5 = .ok (.iload_n 3, 1) := by decide +kernel
theorem dL_best_6 : decode cL_best 6 = .ok (.iload 4, 2) := by decide +kernel
theorem dL_best_8 : decode cL_best 8 = .ok (.invokevirtual 36, 3) := by decide +kernel
theorem dL_best_11 : decode cL_best 11 = .ok (.i2l, 1) := by decide +kernel
theorem dL_best_12 : decode cL_best 12 = .ok (.lastore, 1) := by decide +kernel
theorem dL_best_13 : decode cL_best 13 = .ok (.goto 11, 3) := by decide +kernel
theorem dL_best_16 : decode cL_best 16 = .ok (.astore 6, 2) := by decide +kernel
theorem dL_best_18 : decode cL_best 18 = .ok (.iconst 1, 1) := by decide +kernel
theorem dL_best_19 : decode cL_best 19 = .ok (.ireturn, 1) := by decide +kernel
theorem dL_best_20 : decode cL_best 20 = .ok (.astore 6, 2) := by decide +kernel
theorem dL_best_22 : decode cL_best 22 = .ok (.iconst 2, 1) := by decide +kernel
theorem dL_best_23 : decode cL_best 23 = .ok (.ireturn, 1) := by decide +kernel
theorem dL_best_24 : decode cL_best 24 = .ok (.iconst 0, 1) := by decide +kernel
theorem dL_best_25 : decode cL_best 25 = .ok (.ireturn, 1) := by decide +kernel
def sL_best (F : Nat) (l0 : Option Nat) (l1 : Int64) (l3 : Int32) (l4 : Int32) (l5 : Option Nat) (h : HP) : Option (Int32 × HP) :=
  (dO h 10 l0).bind fun a =>
  bd2 (sX10_best F a l1 l3 l4 h) fun r h1 => match r with
  | .inl v => (sJ h1 l5 (0 : Int32) v.toInt64).bind fun h2 => some ((0 : Int32), h2)
  | .inr k => if k = 1 then some ((1 : Int32), h1) else if k = 0 then some ((2 : Int32), h1) else none
abbrev rm_L_best : Room := { frames := 7, cells := 1, slots := 6, locals := 106 }
abbrev hh_L_best : List (Nat × Nat × Nat × Nat) := [(0, 13, 16, 19), (0, 13, 20, 13)]
set_option maxRecDepth 100000 in
set_option maxHeartbeats 4000000 in
theorem mt_L_best {w : WD} {l : Launch} {F : Nat} (hlt : l.stackTraces = false) {l0 : Option Nat} {l1 : Int64} {l3 : Int32} {l4 : Int32} {l5 : Option Nat} {h : HP} {v : Int32} {h' : HP} (hs : sL_best F l0 l1 l3 l4 l5 h = some (v, h')) : MW w l yL_best cL_best 7 hh_L_best rm_L_best [rf w l0, .long l1, .int l3, .int l4, rf w l5] h v h' := by
  refine of_bodyW [(0, rf w l0), (1, .long l1), (3, .int l3), (4, .int l4), (5, rf w l5)] (by decide) (by simp [lg_sl, rf_cat, cat_i, cat_l, cat_a]) (by simp [lv_args, rf_cat, cat_i, cat_l, cat_a]) ?_
  intro x hw_ hnL_ hl_ hc hret htab hQ
  subst hw_; subst hl_
  have hnl : ∀ i, i < 7 → i < x.nL := fun i h => by rw [hnL_]; exact h
  have hw : wpO (sL_best F l0 l1 l3 l4 l5 h) (fun q => q = (v, h')) := ⟨_, hs, rfl⟩
  unfold sL_best at hw
  refine R_aload (q := 4) (i := 5) (v := l5) hc dL_best_0 rfl ?_
  refine R_iconst (v := (0 : Int32)) hc dL_best_2 kI_0 ?_
  refine R_aload_n (q := 0) (i := 0) (v := l0) hc dL_best_3 rfl rfl ?_
  refine R_lload_n (q := 1) (i := 1) (v := l1) hc dL_best_4 rfl rfl ?_
  refine R_iload_n (q := 2) (i := 3) (v := l3) hc dL_best_5 rfl rfl ?_
  refine R_iload (q := 3) (i := 4) (v := l4) hc dL_best_6 rfl ?_
  refine R_cXI (As := [.long l1, .int l3, .int l4]) (rest := [.int (0 : Int32), rf x.w l5]) (r0 := l0) (ci := 10) hc ml_L_36 mf_X10_best rfl (by decide) ⟨rfl, rfl⟩ ⟨le_b rfl, le_b rfl⟩ ⟨le_b rfl, le_b rfl⟩ (fun a r h' e => mt_X10_best hlt e) rfl rfl (by simp [rf_cat, cat_i]) dL_best_8 hw (fun v h1 hw => ?_) (fun k h1 hw => ?_)
  · have hw : wpO ((sJ h1 l5 (0 : Int32) v.toInt64).bind fun h2 => some ((0 : Int32), h2)) _ := hw
    refine R_i2l hc dL_best_11 ?_
    refine R_lastore hc dL_best_12 hw (fun h2 hw => ?_)
    refine R_goto (tgt := 24) hc dL_best_13 (by decide) ?_
    refine R_iconst (v := (0 : Int32)) hc dL_best_24 kI_0 ?_
    exact R_ireturn hc hret rfl hQ hw dL_best_25
  · have hw : wpO (if k = 1 then some ((1 : Int32), h1) else if k = 0 then some ((2 : Int32), h1) else none) _ := hw
    by_cases hk0 : k = 1
    · subst hk0
      rw [if_pos rfl] at hw
      refine R_catch (k := 1) (nm := "java/lang/IndexOutOfBoundsException") hc [] ⟨0, 13, 16, 19⟩ [⟨0, 13, 20, 13⟩] (by rw [htab]; rfl) (fun z hz => nomatch hz) rfl (by decide) lc_19 (List.mem_of_getElem? (i := 1) rfl) (hp := 16) rfl (fun q => ?_)
      refine R_astoreV (i := 6) hc [(6, .ref q), (0, rf x.w l0), (1, .long l1), (3, .int l3), (4, .int l4), (5, rf x.w l5)] dL_best_16 (hnl 6 (le_b rfl)) (by simp [rf_cat]) ?_
      refine R_iconst (v := (1 : Int32)) hc dL_best_18 kI_1 ?_
      exact R_ireturn hc hret rfl hQ hw dL_best_19
    rw [if_neg hk0] at hw
    by_cases hk1 : k = 0
    · subst hk1
      rw [if_pos rfl] at hw
      refine R_catch (k := 0) (nm := "java/lang/IllegalArgumentException") hc [⟨0, 13, 16, 19⟩] ⟨0, 13, 20, 13⟩ [] (by rw [htab]; rfl) (fun z hz => by cases hz with | head => exact Or.inr ⟨by decide, "java/lang/IndexOutOfBoundsException", lc_19, hc.sk.2.2.2.2.2.2.2.2 ("java/lang/IllegalArgumentException", "java/lang/IndexOutOfBoundsException") (List.mem_of_getElem? (i := 1) rfl)⟩ | tail _ hz => cases hz) rfl (by decide) lc_13 (List.mem_of_getElem? (i := 0) rfl) (hp := 20) rfl (fun q => ?_)
      refine R_astoreV (i := 6) hc [(6, .ref q), (0, rf x.w l0), (1, .long l1), (3, .int l3), (4, .int l4), (5, rf x.w l5)] dL_best_20 (hnl 6 (le_b rfl)) (by simp [rf_cat]) ?_
      refine R_iconst (v := (2 : Int32)) hc dL_best_22 kI_2 ?_
      exact R_ireturn hc hret rfl hQ hw dL_best_23
    rw [if_neg hk1] at hw
    obtain ⟨_, h9, -⟩ := hw
    cases h9
theorem dL_with_0 : decode cL_with 0 = .ok (.aload_n 3, 1) := by decide +kernel
theorem dL_with_1 : decode cL_with 1 = .ok (.iconst 0, 1) := by decide +kernel
theorem dL_with_2 : decode cL_with 2 = .ok (.aload_n 0, 1) := by decide +kernel
theorem dL_with_3 : decode cL_with 3 = .ok (.iload_n 1, 1) := by decide +kernel
theorem dL_with_4 : decode cL_with 4 = .ok (.iload_n 2, 1) := by decide +kernel
theorem dL_with_5 : decode cL_with 5 = .ok (.invokevirtual 40, 3) := by decide +kernel
theorem dL_with_8 : decode cL_with 8 = .ok (.i2l, 1) := by decide +kernel
theorem dL_with_9 : decode cL_with 9 = .ok (.lastore, 1) := by decide +kernel
theorem dL_with_10 : decode cL_with 10 = .ok (.goto 7, 3) := by decide +kernel
theorem dL_with_13 : decode cL_with 13 = .ok (.astore 4, 2) := by decide +kernel
theorem dL_with_15 : decode cL_with 15 = .ok (.iconst 1, 1) := by decide +kernel
theorem dL_with_16 : decode cL_with 16 = .ok (.ireturn, 1) := by decide +kernel
theorem dL_with_17 : decode cL_with 17 = .ok (.iconst 0, 1) := by decide +kernel
theorem dL_with_18 : decode cL_with 18 = .ok (.ireturn, 1) := by decide +kernel
def sL_with (F : Nat) (l0 : Option Nat) (l1 : Int32) (l2 : Int32) (l3 : Option Nat) (h : HP) : Option (Int32 × HP) :=
  (dO h 10 l0).bind fun a =>
  bd2 (sX10_with F a l1 l2 h) fun r h1 => match r with
  | .inl v => (sJ h1 l3 (0 : Int32) v.toInt64).bind fun h2 => some ((0 : Int32), h2)
  | .inr k => if k = 1 then some ((1 : Int32), h1) else none
abbrev rm_L_with : Room := { frames := 7, cells := 1, slots := 6, locals := 144 }
abbrev hh_L_with : List (Nat × Nat × Nat × Nat) := [(0, 10, 13, 19)]
set_option maxRecDepth 100000 in
set_option maxHeartbeats 4000000 in
theorem mt_L_with {w : WD} {l : Launch} {F : Nat} (hlt : l.stackTraces = false) {l0 : Option Nat} {l1 : Int32} {l2 : Int32} {l3 : Option Nat} {h : HP} {v : Int32} {h' : HP} (hs : sL_with F l0 l1 l2 l3 h = some (v, h')) : MW w l yL_with cL_with 5 hh_L_with rm_L_with [rf w l0, .int l1, .int l2, rf w l3] h v h' := by
  refine of_bodyW [(0, rf w l0), (1, .int l1), (2, .int l2), (3, rf w l3)] (by decide) (by simp [lg_sl, rf_cat, cat_i, cat_l, cat_a]) (by simp [lv_args, rf_cat, cat_i, cat_l, cat_a]) ?_
  intro x hw_ hnL_ hl_ hc hret htab hQ
  subst hw_; subst hl_
  have hnl : ∀ i, i < 5 → i < x.nL := fun i h => by rw [hnL_]; exact h
  have hw : wpO (sL_with F l0 l1 l2 l3 h) (fun q => q = (v, h')) := ⟨_, hs, rfl⟩
  unfold sL_with at hw
  refine R_aload_n (q := 3) (i := 3) (v := l3) hc dL_with_0 rfl rfl ?_
  refine R_iconst (v := (0 : Int32)) hc dL_with_1 kI_0 ?_
  refine R_aload_n (q := 0) (i := 0) (v := l0) hc dL_with_2 rfl rfl ?_
  refine R_iload_n (q := 1) (i := 1) (v := l1) hc dL_with_3 rfl rfl ?_
  refine R_iload_n (q := 2) (i := 2) (v := l2) hc dL_with_4 rfl rfl ?_
  refine R_cXI (As := [.int l1, .int l2]) (rest := [.int (0 : Int32), rf x.w l3]) (r0 := l0) (ci := 10) hc ml_L_40 mf_X10_with rfl (by decide) ⟨rfl, rfl⟩ ⟨le_b rfl, le_b rfl⟩ ⟨le_b rfl, le_b rfl⟩ (fun a r h' e => mt_X10_with hlt e) rfl rfl (by simp [rf_cat, cat_i]) dL_with_5 hw (fun v h1 hw => ?_) (fun k h1 hw => ?_)
  · have hw : wpO ((sJ h1 l3 (0 : Int32) v.toInt64).bind fun h2 => some ((0 : Int32), h2)) _ := hw
    refine R_i2l hc dL_with_8 ?_
    refine R_lastore hc dL_with_9 hw (fun h2 hw => ?_)
    refine R_goto (tgt := 17) hc dL_with_10 (by decide) ?_
    refine R_iconst (v := (0 : Int32)) hc dL_with_17 kI_0 ?_
    exact R_ireturn hc hret rfl hQ hw dL_with_18
  · have hw : wpO (if k = 1 then some ((1 : Int32), h1) else none) _ := hw
    by_cases hk0 : k = 1
    · subst hk0
      rw [if_pos rfl] at hw
      refine R_catch (k := 1) (nm := "java/lang/IndexOutOfBoundsException") hc [] ⟨0, 10, 13, 19⟩ [] (by rw [htab]; rfl) (fun z hz => nomatch hz) rfl (by decide) lc_19 (List.mem_of_getElem? (i := 1) rfl) (hp := 13) rfl (fun q => ?_)
      refine R_astoreV (i := 4) hc [(4, .ref q), (0, rf x.w l0), (1, .int l1), (2, .int l2), (3, rf x.w l3)] dL_with_13 (hnl 4 (le_b rfl)) (by simp [rf_cat]) ?_
      refine R_iconst (v := (1 : Int32)) hc dL_with_15 kI_1 ?_
      exact R_ireturn hc hret rfl hQ hw dL_with_16
    rw [if_neg hk0] at hw
    obtain ⟨_, h9, -⟩ := hw
    cases h9
theorem dL_ofSet_0 : decode cL_ofSet 0 = .ok (.aload_n 2, 1) := by decide +kernel
theorem dL_ofSet_1 : decode cL_ofSet 1 = .ok (.iconst 0, 1) := by decide +kernel
theorem dL_ofSet_2 : decode cL_ofSet 2 = .ok (.aload_n 0, 1) := by decide +kernel
theorem dL_ofSet_3 : decode cL_ofSet 3 = .ok (.iload_n 1, 1) := by decide +kernel
theorem dL_ofSet_4 : decode cL_ofSet 4 = .ok (.invokevirtual 43, 3) := by decide +kernel
theorem dL_ofSet_7 : decode cL_ofSet 7 = .ok (.i2l, 1) := by decide +kernel
theorem dL_ofSet_8 : decode cL_ofSet 8 = .ok (.lastore, 1) := by decide +kernel
theorem dL_ofSet_9 : decode cL_ofSet 9 = .ok (.goto 6, 3) := by decide +kernel
theorem dL_ofSet_12 : decode cL_ofSet 12 = .ok (.astore_n 3, 1) := by decide +kernel
theorem dL_ofSet_13 : decode cL_ofSet 13 = .ok (.iconst 1, 1) := by decide +kernel
theorem dL_ofSet_14 : decode cL_ofSet 14 = .ok (.ireturn, 1) := by decide +kernel
theorem dL_ofSet_15 : decode cL_ofSet 15 = .ok (.iconst 0, 1) := by decide +kernel
theorem dL_ofSet_16 : decode cL_ofSet 16 = .ok (.ireturn, 1) := by decide +kernel
def sL_ofSet (F : Nat) (l0 : Option Nat) (l1 : Int32) (l2 : Option Nat) (h : HP) : Option (Int32 × HP) :=
  (dO h 10 l0).bind fun a =>
  bd2 (sX10_ofSet F a l1 h) fun r h1 => match r with
  | .inl v => (sJ h1 l2 (0 : Int32) v.toInt64).bind fun h2 => some ((0 : Int32), h2)
  | .inr k => if k = 0 then some ((1 : Int32), h1) else none
abbrev rm_L_ofSet : Room := { frames := 7, cells := 1, slots := 6, locals := 103 }
abbrev hh_L_ofSet : List (Nat × Nat × Nat × Nat) := [(0, 9, 12, 13)]
set_option maxRecDepth 100000 in
set_option maxHeartbeats 4000000 in
theorem mt_L_ofSet {w : WD} {l : Launch} {F : Nat} (hlt : l.stackTraces = false) {l0 : Option Nat} {l1 : Int32} {l2 : Option Nat} {h : HP} {v : Int32} {h' : HP} (hs : sL_ofSet F l0 l1 l2 h = some (v, h')) : MW w l yL_ofSet cL_ofSet 4 hh_L_ofSet rm_L_ofSet [rf w l0, .int l1, rf w l2] h v h' := by
  refine of_bodyW [(0, rf w l0), (1, .int l1), (2, rf w l2)] (by decide) (by simp [lg_sl, rf_cat, cat_i, cat_l, cat_a]) (by simp [lv_args, rf_cat, cat_i, cat_l, cat_a]) ?_
  intro x hw_ hnL_ hl_ hc hret htab hQ
  subst hw_; subst hl_
  have hnl : ∀ i, i < 4 → i < x.nL := fun i h => by rw [hnL_]; exact h
  have hw : wpO (sL_ofSet F l0 l1 l2 h) (fun q => q = (v, h')) := ⟨_, hs, rfl⟩
  unfold sL_ofSet at hw
  refine R_aload_n (q := 2) (i := 2) (v := l2) hc dL_ofSet_0 rfl rfl ?_
  refine R_iconst (v := (0 : Int32)) hc dL_ofSet_1 kI_0 ?_
  refine R_aload_n (q := 0) (i := 0) (v := l0) hc dL_ofSet_2 rfl rfl ?_
  refine R_iload_n (q := 1) (i := 1) (v := l1) hc dL_ofSet_3 rfl rfl ?_
  refine R_cXI (As := [.int l1]) (rest := [.int (0 : Int32), rf x.w l2]) (r0 := l0) (ci := 10) hc ml_L_43 mf_X10_ofSet rfl (by decide) ⟨rfl, rfl⟩ ⟨le_b rfl, le_b rfl⟩ ⟨le_b rfl, le_b rfl⟩ (fun a r h' e => mt_X10_ofSet hlt e) rfl rfl (by simp [rf_cat, cat_i]) dL_ofSet_4 hw (fun v h1 hw => ?_) (fun k h1 hw => ?_)
  · have hw : wpO ((sJ h1 l2 (0 : Int32) v.toInt64).bind fun h2 => some ((0 : Int32), h2)) _ := hw
    refine R_i2l hc dL_ofSet_7 ?_
    refine R_lastore hc dL_ofSet_8 hw (fun h2 hw => ?_)
    refine R_goto (tgt := 15) hc dL_ofSet_9 (by decide) ?_
    refine R_iconst (v := (0 : Int32)) hc dL_ofSet_15 kI_0 ?_
    exact R_ireturn hc hret rfl hQ hw dL_ofSet_16
  · have hw : wpO (if k = 0 then some ((1 : Int32), h1) else none) _ := hw
    by_cases hk0 : k = 0
    · subst hk0
      rw [if_pos rfl] at hw
      refine R_catch (k := 0) (nm := "java/lang/IllegalArgumentException") hc [] ⟨0, 9, 12, 13⟩ [] (by rw [htab]; rfl) (fun z hz => nomatch hz) rfl (by decide) lc_13 (List.mem_of_getElem? (i := 0) rfl) (hp := 12) rfl (fun q => ?_)
      refine R_astoreV_n (i := 3) hc [(3, .ref q), (0, rf x.w l0), (1, .int l1), (2, rf x.w l2)] dL_ofSet_12 rfl (hnl 3 (le_b rfl)) (by simp [rf_cat]) ?_
      refine R_iconst (v := (1 : Int32)) hc dL_ofSet_13 kI_1 ?_
      exact R_ireturn hc hret rfl hQ hw dL_ofSet_14
    rw [if_neg hk0] at hw
    obtain ⟨_, h9, -⟩ := hw
    cases h9
theorem dL_parted_0 : decode cL_parted 0 = .ok (.aload_n 3, 1) := by decide +kernel
theorem dL_parted_1 : decode cL_parted 1 = .ok (.iconst 0, 1) := by decide +kernel
theorem dL_parted_2 : decode cL_parted 2 = .ok (.aload_n 0, 1) := by decide +kernel
theorem dL_parted_3 : decode cL_parted 3 = .ok (.iload_n 1, 1) := by decide +kernel
theorem dL_parted_4 : decode cL_parted 4 = .ok (.iload_n 2, 1) := by decide +kernel
theorem dL_parted_5 : decode cL_parted 5 = .ok (.invokevirtual 46, 3) := by decide +kernel
theorem dL_parted_8 : decode cL_parted 8 = .ok (.i2l, 1) := by decide +kernel
theorem dL_parted_9 : decode cL_parted 9 = .ok (.lastore, 1) := by decide +kernel
theorem dL_parted_10 : decode cL_parted 10 = .ok (.goto 7, 3) := by decide +kernel
theorem dL_parted_13 : decode cL_parted 13 = .ok (.astore 4, 2) := by decide +kernel
theorem dL_parted_15 : decode cL_parted 15 = .ok (.iconst 1, 1) := by decide +kernel
theorem dL_parted_16 : decode cL_parted 16 = .ok (.ireturn, 1) := by decide +kernel
theorem dL_parted_17 : decode cL_parted 17 = .ok (.iconst 0, 1) := by decide +kernel
theorem dL_parted_18 : decode cL_parted 18 = .ok (.ireturn, 1) := by decide +kernel
def sL_parted (F : Nat) (l0 : Option Nat) (l1 : Int32) (l2 : Int32) (l3 : Option Nat) (h : HP) : Option (Int32 × HP) :=
  (dO h 10 l0).bind fun a =>
  bd2 (sX10_parted F a l1 l2 h) fun r h1 => match r with
  | .inl v => (sJ h1 l3 (0 : Int32) v.toInt64).bind fun h2 => some ((0 : Int32), h2)
  | .inr k => if k = 0 then some ((1 : Int32), h1) else none
abbrev rm_L_parted : Room := { frames := 7, cells := 1, slots := 6, locals := 105 }
abbrev hh_L_parted : List (Nat × Nat × Nat × Nat) := [(0, 10, 13, 13)]
set_option maxRecDepth 100000 in
set_option maxHeartbeats 4000000 in
theorem mt_L_parted {w : WD} {l : Launch} {F : Nat} (hlt : l.stackTraces = false) {l0 : Option Nat} {l1 : Int32} {l2 : Int32} {l3 : Option Nat} {h : HP} {v : Int32} {h' : HP} (hs : sL_parted F l0 l1 l2 l3 h = some (v, h')) : MW w l yL_parted cL_parted 5 hh_L_parted rm_L_parted [rf w l0, .int l1, .int l2, rf w l3] h v h' := by
  refine of_bodyW [(0, rf w l0), (1, .int l1), (2, .int l2), (3, rf w l3)] (by decide) (by simp [lg_sl, rf_cat, cat_i, cat_l, cat_a]) (by simp [lv_args, rf_cat, cat_i, cat_l, cat_a]) ?_
  intro x hw_ hnL_ hl_ hc hret htab hQ
  subst hw_; subst hl_
  have hnl : ∀ i, i < 5 → i < x.nL := fun i h => by rw [hnL_]; exact h
  have hw : wpO (sL_parted F l0 l1 l2 l3 h) (fun q => q = (v, h')) := ⟨_, hs, rfl⟩
  unfold sL_parted at hw
  refine R_aload_n (q := 3) (i := 3) (v := l3) hc dL_parted_0 rfl rfl ?_
  refine R_iconst (v := (0 : Int32)) hc dL_parted_1 kI_0 ?_
  refine R_aload_n (q := 0) (i := 0) (v := l0) hc dL_parted_2 rfl rfl ?_
  refine R_iload_n (q := 1) (i := 1) (v := l1) hc dL_parted_3 rfl rfl ?_
  refine R_iload_n (q := 2) (i := 2) (v := l2) hc dL_parted_4 rfl rfl ?_
  refine R_cXI (As := [.int l1, .int l2]) (rest := [.int (0 : Int32), rf x.w l3]) (r0 := l0) (ci := 10) hc ml_L_46 mf_X10_parted rfl (by decide) ⟨rfl, rfl⟩ ⟨le_b rfl, le_b rfl⟩ ⟨le_b rfl, le_b rfl⟩ (fun a r h' e => mt_X10_parted hlt e) rfl rfl (by simp [rf_cat, cat_i]) dL_parted_5 hw (fun v h1 hw => ?_) (fun k h1 hw => ?_)
  · have hw : wpO ((sJ h1 l3 (0 : Int32) v.toInt64).bind fun h2 => some ((0 : Int32), h2)) _ := hw
    refine R_i2l hc dL_parted_8 ?_
    refine R_lastore hc dL_parted_9 hw (fun h2 hw => ?_)
    refine R_goto (tgt := 17) hc dL_parted_10 (by decide) ?_
    refine R_iconst (v := (0 : Int32)) hc dL_parted_17 kI_0 ?_
    exact R_ireturn hc hret rfl hQ hw dL_parted_18
  · have hw : wpO (if k = 0 then some ((1 : Int32), h1) else none) _ := hw
    by_cases hk0 : k = 0
    · subst hk0
      rw [if_pos rfl] at hw
      refine R_catch (k := 0) (nm := "java/lang/IllegalArgumentException") hc [] ⟨0, 10, 13, 13⟩ [] (by rw [htab]; rfl) (fun z hz => nomatch hz) rfl (by decide) lc_13 (List.mem_of_getElem? (i := 0) rfl) (hp := 13) rfl (fun q => ?_)
      refine R_astoreV (i := 4) hc [(4, .ref q), (0, rf x.w l0), (1, .int l1), (2, .int l2), (3, rf x.w l3)] dL_parted_13 (hnl 4 (le_b rfl)) (by simp [rf_cat]) ?_
      refine R_iconst (v := (1 : Int32)) hc dL_parted_15 kI_1 ?_
      exact R_ireturn hc hret rfl hQ hw dL_parted_16
    rw [if_neg hk0] at hw
    obtain ⟨_, h9, -⟩ := hw
    cases h9
theorem dL_better_0 : decode cL_better 0 = .ok (.aload_n 2, 1) := by decide +kernel
theorem dL_better_1 : decode cL_better 1 = .ok (.iconst 0, 1) := by decide +kernel
theorem dL_better_2 : decode cL_better 2 = .ok (.aload_n 0, 1) := by decide +kernel
theorem dL_better_3 : decode cL_better 3 = .ok (.iload_n 1, 1) := by decide +kernel
theorem dL_better_4 : decode cL_better 4 = .ok (.invokevirtual 50, 3) := by decide +kernel
theorem dL_better_7 : decode cL_better 7 = .ok (.i2l, 1) := by decide +kernel
theorem dL_better_8 : decode cL_better 8 = .ok (.lastore, 1) := by decide +kernel
theorem dL_better_9 : decode cL_better 9 = .ok (.goto 6, 3) := by decide +kernel
theorem dL_better_12 : decode cL_better 12 = .ok (.astore_n 3, 1) := by decide +kernel
theorem dL_better_13 : decode cL_better 13 = .ok (.iconst 1, 1) := by decide +kernel
theorem dL_better_14 : decode cL_better 14 = .ok (.ireturn, 1) := by decide +kernel
theorem dL_better_15 : decode cL_better 15 = .ok (.iconst 0, 1) := by decide +kernel
theorem dL_better_16 : decode cL_better 16 = .ok (.ireturn, 1) := by decide +kernel
def sL_better (F : Nat) (l0 : Option Nat) (l1 : Int32) (l2 : Option Nat) (h : HP) : Option (Int32 × HP) :=
  (dO h 10 l0).bind fun a =>
  bd2 (sX10_better F a l1 h) fun r h1 => match r with
  | .inl v => (sJ h1 l2 (0 : Int32) v.toInt64).bind fun h2 => some ((0 : Int32), h2)
  | .inr k => if k = 2 then some ((1 : Int32), h1) else none
abbrev rm_L_better : Room := { frames := 7, cells := 1, slots := 6, locals := 134 }
abbrev hh_L_better : List (Nat × Nat × Nat × Nat) := [(0, 9, 12, 21)]
set_option maxRecDepth 100000 in
set_option maxHeartbeats 4000000 in
theorem mt_L_better {w : WD} {l : Launch} {F : Nat} (hlt : l.stackTraces = false) {l0 : Option Nat} {l1 : Int32} {l2 : Option Nat} {h : HP} {v : Int32} {h' : HP} (hs : sL_better F l0 l1 l2 h = some (v, h')) : MW w l yL_better cL_better 4 hh_L_better rm_L_better [rf w l0, .int l1, rf w l2] h v h' := by
  refine of_bodyW [(0, rf w l0), (1, .int l1), (2, rf w l2)] (by decide) (by simp [lg_sl, rf_cat, cat_i, cat_l, cat_a]) (by simp [lv_args, rf_cat, cat_i, cat_l, cat_a]) ?_
  intro x hw_ hnL_ hl_ hc hret htab hQ
  subst hw_; subst hl_
  have hnl : ∀ i, i < 4 → i < x.nL := fun i h => by rw [hnL_]; exact h
  have hw : wpO (sL_better F l0 l1 l2 h) (fun q => q = (v, h')) := ⟨_, hs, rfl⟩
  unfold sL_better at hw
  refine R_aload_n (q := 2) (i := 2) (v := l2) hc dL_better_0 rfl rfl ?_
  refine R_iconst (v := (0 : Int32)) hc dL_better_1 kI_0 ?_
  refine R_aload_n (q := 0) (i := 0) (v := l0) hc dL_better_2 rfl rfl ?_
  refine R_iload_n (q := 1) (i := 1) (v := l1) hc dL_better_3 rfl rfl ?_
  refine R_cXI (As := [.int l1]) (rest := [.int (0 : Int32), rf x.w l2]) (r0 := l0) (ci := 10) hc ml_L_50 mf_X10_better rfl (by decide) ⟨rfl, rfl⟩ ⟨le_b rfl, le_b rfl⟩ ⟨le_b rfl, le_b rfl⟩ (fun a r h' e => mt_X10_better hlt e) rfl rfl (by simp [rf_cat, cat_i]) dL_better_4 hw (fun v h1 hw => ?_) (fun k h1 hw => ?_)
  · have hw : wpO ((sJ h1 l2 (0 : Int32) v.toInt64).bind fun h2 => some ((0 : Int32), h2)) _ := hw
    refine R_i2l hc dL_better_7 ?_
    refine R_lastore hc dL_better_8 hw (fun h2 hw => ?_)
    refine R_goto (tgt := 15) hc dL_better_9 (by decide) ?_
    refine R_iconst (v := (0 : Int32)) hc dL_better_15 kI_0 ?_
    exact R_ireturn hc hret rfl hQ hw dL_better_16
  · have hw : wpO (if k = 2 then some ((1 : Int32), h1) else none) _ := hw
    by_cases hk0 : k = 2
    · subst hk0
      rw [if_pos rfl] at hw
      refine R_catch (k := 2) (nm := "java/util/NoSuchElementException") hc [] ⟨0, 9, 12, 21⟩ [] (by rw [htab]; rfl) (fun z hz => nomatch hz) rfl (by decide) lc_21 (List.mem_of_getElem? (i := 2) rfl) (hp := 12) rfl (fun q => ?_)
      refine R_astoreV_n (i := 3) hc [(3, .ref q), (0, rf x.w l0), (1, .int l1), (2, rf x.w l2)] dL_better_12 rfl (hnl 3 (le_b rfl)) (by simp [rf_cat]) ?_
      refine R_iconst (v := (1 : Int32)) hc dL_better_13 kI_1 ?_
      exact R_ireturn hc hret rfl hQ hw dL_better_14
    rw [if_neg hk0] at hw
    obtain ⟨_, h9, -⟩ := hw
    cases h9
theorem dL_shortest_0 : decode cL_shortest 0 = .ok (.aload_n 3, 1) := by decide +kernel
theorem dL_shortest_1 : decode cL_shortest 1 = .ok (.iconst 0, 1) := by decide +kernel
theorem dL_shortest_2 : decode cL_shortest 2 = .ok (.aload_n 0, 1) := by decide +kernel
theorem dL_shortest_3 : decode cL_shortest 3 = .ok (.iload_n 1, 1) := by decide +kernel
theorem dL_shortest_4 : decode cL_shortest 4 = .ok (.iload_n 2, 1) := by decide +kernel
theorem dL_shortest_5 : decode cL_shortest 5 = .ok (.invokevirtual 53, 3) := by decide +kernel
theorem dL_shortest_8 : decode cL_shortest 8 = .ok (.i2l, 1) := by decide +kernel
theorem dL_shortest_9 : decode cL_shortest 9 = .ok (.lastore, 1) := by decide +kernel
theorem dL_shortest_10 : decode cL_shortest 10 = .ok (.goto 7, 3) := by decide +kernel
theorem dL_shortest_13 : decode cL_shortest 13 = .ok (.astore 4, 2) := by decide +kernel
theorem dL_shortest_15 : decode cL_shortest 15 = .ok (.iconst 1, 1) := by decide +kernel
theorem dL_shortest_16 : decode cL_shortest 16 = .ok (.ireturn, 1) := by decide +kernel
theorem dL_shortest_17 : decode cL_shortest 17 = .ok (.iconst 0, 1) := by decide +kernel
theorem dL_shortest_18 : decode cL_shortest 18 = .ok (.ireturn, 1) := by decide +kernel
def sL_shortest (F : Nat) (l0 : Option Nat) (l1 : Int32) (l2 : Int32) (l3 : Option Nat) (h : HP) : Option (Int32 × HP) :=
  (dO h 10 l0).bind fun a =>
  bd2 (sX10_shortest F a l1 l2 h) fun r h1 => match r with
  | .inl v => (sJ h1 l3 (0 : Int32) v.toInt64).bind fun h2 => some ((0 : Int32), h2)
  | .inr k => if k = 0 then some ((1 : Int32), h1) else none
abbrev rm_L_shortest : Room := { frames := 7, cells := 1, slots := 6, locals := 177 }
abbrev hh_L_shortest : List (Nat × Nat × Nat × Nat) := [(0, 10, 13, 13)]
set_option maxRecDepth 100000 in
set_option maxHeartbeats 4000000 in
theorem mt_L_shortest {w : WD} {l : Launch} {F : Nat} (hlt : l.stackTraces = false) {l0 : Option Nat} {l1 : Int32} {l2 : Int32} {l3 : Option Nat} {h : HP} {v : Int32} {h' : HP} (hs : sL_shortest F l0 l1 l2 l3 h = some (v, h')) : MW w l yL_shortest cL_shortest 5 hh_L_shortest rm_L_shortest [rf w l0, .int l1, .int l2, rf w l3] h v h' := by
  refine of_bodyW [(0, rf w l0), (1, .int l1), (2, .int l2), (3, rf w l3)] (by decide) (by simp [lg_sl, rf_cat, cat_i, cat_l, cat_a]) (by simp [lv_args, rf_cat, cat_i, cat_l, cat_a]) ?_
  intro x hw_ hnL_ hl_ hc hret htab hQ
  subst hw_; subst hl_
  have hnl : ∀ i, i < 5 → i < x.nL := fun i h => by rw [hnL_]; exact h
  have hw : wpO (sL_shortest F l0 l1 l2 l3 h) (fun q => q = (v, h')) := ⟨_, hs, rfl⟩
  unfold sL_shortest at hw
  refine R_aload_n (q := 3) (i := 3) (v := l3) hc dL_shortest_0 rfl rfl ?_
  refine R_iconst (v := (0 : Int32)) hc dL_shortest_1 kI_0 ?_
  refine R_aload_n (q := 0) (i := 0) (v := l0) hc dL_shortest_2 rfl rfl ?_
  refine R_iload_n (q := 1) (i := 1) (v := l1) hc dL_shortest_3 rfl rfl ?_
  refine R_iload_n (q := 2) (i := 2) (v := l2) hc dL_shortest_4 rfl rfl ?_
  refine R_cXI (As := [.int l1, .int l2]) (rest := [.int (0 : Int32), rf x.w l3]) (r0 := l0) (ci := 10) hc ml_L_53 mf_X10_shortest rfl (by decide) ⟨rfl, rfl⟩ ⟨le_b rfl, le_b rfl⟩ ⟨le_b rfl, le_b rfl⟩ (fun a r h' e => mt_X10_shortest hlt e) rfl rfl (by simp [rf_cat, cat_i]) dL_shortest_5 hw (fun v h1 hw => ?_) (fun k h1 hw => ?_)
  · have hw : wpO ((sJ h1 l3 (0 : Int32) v.toInt64).bind fun h2 => some ((0 : Int32), h2)) _ := hw
    refine R_i2l hc dL_shortest_8 ?_
    refine R_lastore hc dL_shortest_9 hw (fun h2 hw => ?_)
    refine R_goto (tgt := 17) hc dL_shortest_10 (by decide) ?_
    refine R_iconst (v := (0 : Int32)) hc dL_shortest_17 kI_0 ?_
    exact R_ireturn hc hret rfl hQ hw dL_shortest_18
  · have hw : wpO (if k = 0 then some ((1 : Int32), h1) else none) _ := hw
    by_cases hk0 : k = 0
    · subst hk0
      rw [if_pos rfl] at hw
      refine R_catch (k := 0) (nm := "java/lang/IllegalArgumentException") hc [] ⟨0, 10, 13, 13⟩ [] (by rw [htab]; rfl) (fun z hz => nomatch hz) rfl (by decide) lc_13 (List.mem_of_getElem? (i := 0) rfl) (hp := 13) rfl (fun q => ?_)
      refine R_astoreV (i := 4) hc [(4, .ref q), (0, rf x.w l0), (1, .int l1), (2, .int l2), (3, rf x.w l3)] dL_shortest_13 (hnl 4 (le_b rfl)) (by simp [rf_cat]) ?_
      refine R_iconst (v := (1 : Int32)) hc dL_shortest_15 kI_1 ?_
      exact R_ireturn hc hret rfl hQ hw dL_shortest_16
    rw [if_neg hk0] at hw
    obtain ⟨_, h9, -⟩ := hw
    cases h9
theorem dL_neighbours_0 : decode cL_neighbours 0 = .ok (.aload_n 3, 1) := by decide +kernel
theorem dL_neighbours_1 : decode cL_neighbours 1 = .ok (.iconst 0, 1) := by decide +kernel
theorem dL_neighbours_2 : decode cL_neighbours 2 = .ok (.aload_n 0, 1) := by decide +kernel
theorem dL_neighbours_3 : decode cL_neighbours 3 = .ok (.iload_n 1, 1) := by decide +kernel
theorem dL_neighbours_4 : decode cL_neighbours 4 = .ok (.iload_n 2, 1) := by decide +kernel
theorem dL_neighbours_5 : decode cL_neighbours 5 = .ok (.invokevirtual 56, 3) := by decide +kernel
theorem dL_neighbours_8 : decode cL_neighbours 8 = .ok (.lastore, 1) := by decide +kernel
theorem dL_neighbours_9 : decode cL_neighbours 9 = .ok (.goto 11, 3) := by decide +kernel
theorem dL_neighbours_12 : decode cL_neighbours 12 = .ok (.astore 4, 2) := by decide +kernel
theorem dL_neighbours_14 : decode cL_neighbours 14 = .ok (.iconst 1, 1) := by decide +kernel
theorem dL_neighbours_15 : decode cL_neighbours 15 = .ok (.ireturn, 1) := by decide +kernel
theorem dL_neighbours_16 : decode cL_neighbours 16 = .ok (.astore 4, 2) := by decide +kernel
theorem dL_neighbours_18 : decode cL_neighbours 18 = .ok (.iconst 2, 1) := by decide +kernel
theorem dL_neighbours_19 : decode cL_neighbours 19 = .ok (.ireturn, 1) := by decide +kernel
theorem dL_neighbours_20 : decode cL_neighbours 20 = .ok (.iconst 0, 1) := by decide +kernel
theorem dL_neighbours_21 : decode cL_neighbours 21 = .ok (.ireturn, 1) := by decide +kernel
def sL_neighbours (F : Nat) (l0 : Option Nat) (l1 : Int32) (l2 : Int32) (l3 : Option Nat) (h : HP) : Option (Int32 × HP) :=
  (dO h 10 l0).bind fun a =>
  bd2 (sX10_neighbours F a l1 l2 h) fun r h1 => match r with
  | .inl v => (sJ h1 l3 (0 : Int32) v).bind fun h2 => some ((0 : Int32), h2)
  | .inr k => if k = 1 then some ((1 : Int32), h1) else if k = 0 then some ((2 : Int32), h1) else none
abbrev rm_L_neighbours : Room := { frames := 7, cells := 1, slots := 6, locals := 125 }
abbrev hh_L_neighbours : List (Nat × Nat × Nat × Nat) := [(0, 9, 12, 19), (0, 9, 16, 13)]
set_option maxRecDepth 100000 in
set_option maxHeartbeats 4000000 in
theorem mt_L_neighbours {w : WD} {l : Launch} {F : Nat} (hlt : l.stackTraces = false) {l0 : Option Nat} {l1 : Int32} {l2 : Int32} {l3 : Option Nat} {h : HP} {v : Int32} {h' : HP} (hs : sL_neighbours F l0 l1 l2 l3 h = some (v, h')) : MW w l yL_neighbours cL_neighbours 5 hh_L_neighbours rm_L_neighbours [rf w l0, .int l1, .int l2, rf w l3] h v h' := by
  refine of_bodyW [(0, rf w l0), (1, .int l1), (2, .int l2), (3, rf w l3)] (by decide) (by simp [lg_sl, rf_cat, cat_i, cat_l, cat_a]) (by simp [lv_args, rf_cat, cat_i, cat_l, cat_a]) ?_
  intro x hw_ hnL_ hl_ hc hret htab hQ
  subst hw_; subst hl_
  have hnl : ∀ i, i < 5 → i < x.nL := fun i h => by rw [hnL_]; exact h
  have hw : wpO (sL_neighbours F l0 l1 l2 l3 h) (fun q => q = (v, h')) := ⟨_, hs, rfl⟩
  unfold sL_neighbours at hw
  refine R_aload_n (q := 3) (i := 3) (v := l3) hc dL_neighbours_0 rfl rfl ?_
  refine R_iconst (v := (0 : Int32)) hc dL_neighbours_1 kI_0 ?_
  refine R_aload_n (q := 0) (i := 0) (v := l0) hc dL_neighbours_2 rfl rfl ?_
  refine R_iload_n (q := 1) (i := 1) (v := l1) hc dL_neighbours_3 rfl rfl ?_
  refine R_iload_n (q := 2) (i := 2) (v := l2) hc dL_neighbours_4 rfl rfl ?_
  refine R_cXJ (As := [.int l1, .int l2]) (rest := [.int (0 : Int32), rf x.w l3]) (r0 := l0) (ci := 10) hc ml_L_56 mf_X10_neighbours rfl (by decide) ⟨rfl, rfl⟩ ⟨le_b rfl, le_b rfl⟩ ⟨le_b rfl, le_b rfl⟩ (fun a r h' e => mt_X10_neighbours hlt e) rfl rfl (by simp [rf_cat, cat_i]) dL_neighbours_5 hw (fun v h1 hw => ?_) (fun k h1 hw => ?_)
  · have hw : wpO ((sJ h1 l3 (0 : Int32) v).bind fun h2 => some ((0 : Int32), h2)) _ := hw
    refine R_lastore hc dL_neighbours_8 hw (fun h2 hw => ?_)
    refine R_goto (tgt := 20) hc dL_neighbours_9 (by decide) ?_
    refine R_iconst (v := (0 : Int32)) hc dL_neighbours_20 kI_0 ?_
    exact R_ireturn hc hret rfl hQ hw dL_neighbours_21
  · have hw : wpO (if k = 1 then some ((1 : Int32), h1) else if k = 0 then some ((2 : Int32), h1) else none) _ := hw
    by_cases hk0 : k = 1
    · subst hk0
      rw [if_pos rfl] at hw
      refine R_catch (k := 1) (nm := "java/lang/IndexOutOfBoundsException") hc [] ⟨0, 9, 12, 19⟩ [⟨0, 9, 16, 13⟩] (by rw [htab]; rfl) (fun z hz => nomatch hz) rfl (by decide) lc_19 (List.mem_of_getElem? (i := 1) rfl) (hp := 12) rfl (fun q => ?_)
      refine R_astoreV (i := 4) hc [(4, .ref q), (0, rf x.w l0), (1, .int l1), (2, .int l2), (3, rf x.w l3)] dL_neighbours_12 (hnl 4 (le_b rfl)) (by simp [rf_cat]) ?_
      refine R_iconst (v := (1 : Int32)) hc dL_neighbours_14 kI_1 ?_
      exact R_ireturn hc hret rfl hQ hw dL_neighbours_15
    rw [if_neg hk0] at hw
    by_cases hk1 : k = 0
    · subst hk1
      rw [if_pos rfl] at hw
      refine R_catch (k := 0) (nm := "java/lang/IllegalArgumentException") hc [⟨0, 9, 12, 19⟩] ⟨0, 9, 16, 13⟩ [] (by rw [htab]; rfl) (fun z hz => by cases hz with | head => exact Or.inr ⟨by decide, "java/lang/IndexOutOfBoundsException", lc_19, hc.sk.2.2.2.2.2.2.2.2 ("java/lang/IllegalArgumentException", "java/lang/IndexOutOfBoundsException") (List.mem_of_getElem? (i := 1) rfl)⟩ | tail _ hz => cases hz) rfl (by decide) lc_13 (List.mem_of_getElem? (i := 0) rfl) (hp := 16) rfl (fun q => ?_)
      refine R_astoreV (i := 4) hc [(4, .ref q), (0, rf x.w l0), (1, .int l1), (2, .int l2), (3, rf x.w l3)] dL_neighbours_16 (hnl 4 (le_b rfl)) (by simp [rf_cat]) ?_
      refine R_iconst (v := (2 : Int32)) hc dL_neighbours_18 kI_2 ?_
      exact R_ireturn hc hret rfl hQ hw dL_neighbours_19
    rw [if_neg hk1] at hw
    obtain ⟨_, h9, -⟩ := hw
    cases h9
theorem dL_starts_0 : decode cL_starts 0 = .ok (.aload_n 2, 1) := by decide +kernel
theorem dL_starts_1 : decode cL_starts 1 = .ok (.iconst 0, 1) := by decide +kernel
theorem dL_starts_2 : decode cL_starts 2 = .ok (.aload_n 0, 1) := by decide +kernel
theorem dL_starts_3 : decode cL_starts 3 = .ok (.iload_n 1, 1) := by decide +kernel
theorem dL_starts_4 : decode cL_starts 4 = .ok (.invokevirtual 60, 3) := by decide +kernel
theorem dL_starts_7 : decode cL_starts 7 = .ok (.lastore, 1) := by decide +kernel
theorem dL_starts_8 : decode cL_starts 8 = .ok (.goto 6, 3) := by decide +kernel
theorem dL_starts_11 : decode cL_starts 11 = .ok (.astore_n 3, 1) := by decide +kernel
theorem dL_starts_12 : decode cL_starts 12 = .ok (.iconst 1, 1) := by decide +kernel
theorem dL_starts_13 : decode cL_starts 13 = .ok (.ireturn, 1) := by decide +kernel
theorem dL_starts_14 : decode cL_starts 14 = .ok (.iconst 0, 1) := by decide +kernel
theorem dL_starts_15 : decode cL_starts 15 = .ok (.ireturn, 1) := by decide +kernel
def sL_starts (F : Nat) (l0 : Option Nat) (l1 : Int32) (l2 : Option Nat) (h : HP) : Option (Int32 × HP) :=
  (dO h 10 l0).bind fun a =>
  bd2 (sX10_starts F a l1 h) fun r h1 => match r with
  | .inl v => (sJ h1 l2 (0 : Int32) v).bind fun h2 => some ((0 : Int32), h2)
  | .inr k => if k = 1 then some ((1 : Int32), h1) else none
abbrev rm_L_starts : Room := { frames := 7, cells := 1, slots := 6, locals := 109 }
abbrev hh_L_starts : List (Nat × Nat × Nat × Nat) := [(0, 8, 11, 19)]
set_option maxRecDepth 100000 in
set_option maxHeartbeats 4000000 in
theorem mt_L_starts {w : WD} {l : Launch} {F : Nat} (hlt : l.stackTraces = false) {l0 : Option Nat} {l1 : Int32} {l2 : Option Nat} {h : HP} {v : Int32} {h' : HP} (hs : sL_starts F l0 l1 l2 h = some (v, h')) : MW w l yL_starts cL_starts 4 hh_L_starts rm_L_starts [rf w l0, .int l1, rf w l2] h v h' := by
  refine of_bodyW [(0, rf w l0), (1, .int l1), (2, rf w l2)] (by decide) (by simp [lg_sl, rf_cat, cat_i, cat_l, cat_a]) (by simp [lv_args, rf_cat, cat_i, cat_l, cat_a]) ?_
  intro x hw_ hnL_ hl_ hc hret htab hQ
  subst hw_; subst hl_
  have hnl : ∀ i, i < 4 → i < x.nL := fun i h => by rw [hnL_]; exact h
  have hw : wpO (sL_starts F l0 l1 l2 h) (fun q => q = (v, h')) := ⟨_, hs, rfl⟩
  unfold sL_starts at hw
  refine R_aload_n (q := 2) (i := 2) (v := l2) hc dL_starts_0 rfl rfl ?_
  refine R_iconst (v := (0 : Int32)) hc dL_starts_1 kI_0 ?_
  refine R_aload_n (q := 0) (i := 0) (v := l0) hc dL_starts_2 rfl rfl ?_
  refine R_iload_n (q := 1) (i := 1) (v := l1) hc dL_starts_3 rfl rfl ?_
  refine R_cXJ (As := [.int l1]) (rest := [.int (0 : Int32), rf x.w l2]) (r0 := l0) (ci := 10) hc ml_L_60 mf_X10_starts rfl (by decide) ⟨rfl, rfl⟩ ⟨le_b rfl, le_b rfl⟩ ⟨le_b rfl, le_b rfl⟩ (fun a r h' e => mt_X10_starts hlt e) rfl rfl (by simp [rf_cat, cat_i]) dL_starts_4 hw (fun v h1 hw => ?_) (fun k h1 hw => ?_)
  · have hw : wpO ((sJ h1 l2 (0 : Int32) v).bind fun h2 => some ((0 : Int32), h2)) _ := hw
    refine R_lastore hc dL_starts_7 hw (fun h2 hw => ?_)
    refine R_goto (tgt := 14) hc dL_starts_8 (by decide) ?_
    refine R_iconst (v := (0 : Int32)) hc dL_starts_14 kI_0 ?_
    exact R_ireturn hc hret rfl hQ hw dL_starts_15
  · have hw : wpO (if k = 1 then some ((1 : Int32), h1) else none) _ := hw
    by_cases hk0 : k = 1
    · subst hk0
      rw [if_pos rfl] at hw
      refine R_catch (k := 1) (nm := "java/lang/IndexOutOfBoundsException") hc [] ⟨0, 8, 11, 19⟩ [] (by rw [htab]; rfl) (fun z hz => nomatch hz) rfl (by decide) lc_19 (List.mem_of_getElem? (i := 1) rfl) (hp := 11) rfl (fun q => ?_)
      refine R_astoreV_n (i := 3) hc [(3, .ref q), (0, rf x.w l0), (1, .int l1), (2, rf x.w l2)] dL_starts_11 rfl (hnl 3 (le_b rfl)) (by simp [rf_cat]) ?_
      refine R_iconst (v := (1 : Int32)) hc dL_starts_12 kI_1 ?_
      exact R_ireturn hc hret rfl hQ hw dL_starts_13
    rw [if_neg hk0] at hw
    obtain ⟨_, h9, -⟩ := hw
    cases h9
theorem dL_turn_0 : decode cL_turn 0 = .ok (.aload_n 3, 1) := by decide +kernel
theorem dL_turn_1 : decode cL_turn 1 = .ok (.iconst 0, 1) := by decide +kernel
theorem dL_turn_2 : decode cL_turn 2 = .ok (.aload_n 0, 1) := by decide +kernel
theorem dL_turn_3 : decode cL_turn 3 = .ok (.iload_n 1, 1) := by decide +kernel
theorem dL_turn_4 : decode cL_turn 4 = .ok (.iload_n 2, 1) := by decide +kernel
theorem dL_turn_5 : decode cL_turn 5 = .ok (.invokevirtual 64, 3) := by decide +kernel
theorem dL_turn_8 : decode cL_turn 8 = .ok (.i2l, 1) := by decide +kernel
theorem dL_turn_9 : decode cL_turn 9 = .ok (.lastore, 1) := by decide +kernel
theorem dL_turn_10 : decode cL_turn 10 = .ok (.goto 11, 3) := by decide +kernel
theorem dL_turn_13 : decode cL_turn 13 = .ok (.astore 4, 2) := by decide +kernel
theorem dL_turn_15 : decode cL_turn 15 = .ok (.iconst 1, 1) := by decide +kernel
theorem dL_turn_16 : decode cL_turn 16 = .ok (.ireturn, 1) := by decide +kernel
theorem dL_turn_17 : decode cL_turn 17 = .ok (.astore 4, 2) := by decide +kernel
theorem dL_turn_19 : decode cL_turn 19 = .ok (.iconst 2, 1) := by decide +kernel
theorem dL_turn_20 : decode cL_turn 20 = .ok (.ireturn, 1) := by decide +kernel
theorem dL_turn_21 : decode cL_turn 21 = .ok (.iconst 0, 1) := by decide +kernel
theorem dL_turn_22 : decode cL_turn 22 = .ok (.ireturn, 1) := by decide +kernel
def sL_turn (F : Nat) (l0 : Option Nat) (l1 : Int32) (l2 : Int32) (l3 : Option Nat) (h : HP) : Option (Int32 × HP) :=
  (dO h 10 l0).bind fun a =>
  bd2 (sX10_turn F a l1 l2 h) fun r h1 => match r with
  | .inl v => (sJ h1 l3 (0 : Int32) v.toInt64).bind fun h2 => some ((0 : Int32), h2)
  | .inr k => if k = 1 then some ((1 : Int32), h1) else if k = 0 then some ((2 : Int32), h1) else none
abbrev rm_L_turn : Room := { frames := 7, cells := 1, slots := 6, locals := 173 }
abbrev hh_L_turn : List (Nat × Nat × Nat × Nat) := [(0, 10, 13, 19), (0, 10, 17, 13)]
set_option maxRecDepth 100000 in
set_option maxHeartbeats 4000000 in
theorem mt_L_turn {w : WD} {l : Launch} {F : Nat} (hlt : l.stackTraces = false) {l0 : Option Nat} {l1 : Int32} {l2 : Int32} {l3 : Option Nat} {h : HP} {v : Int32} {h' : HP} (hs : sL_turn F l0 l1 l2 l3 h = some (v, h')) : MW w l yL_turn cL_turn 5 hh_L_turn rm_L_turn [rf w l0, .int l1, .int l2, rf w l3] h v h' := by
  refine of_bodyW [(0, rf w l0), (1, .int l1), (2, .int l2), (3, rf w l3)] (by decide) (by simp [lg_sl, rf_cat, cat_i, cat_l, cat_a]) (by simp [lv_args, rf_cat, cat_i, cat_l, cat_a]) ?_
  intro x hw_ hnL_ hl_ hc hret htab hQ
  subst hw_; subst hl_
  have hnl : ∀ i, i < 5 → i < x.nL := fun i h => by rw [hnL_]; exact h
  have hw : wpO (sL_turn F l0 l1 l2 l3 h) (fun q => q = (v, h')) := ⟨_, hs, rfl⟩
  unfold sL_turn at hw
  refine R_aload_n (q := 3) (i := 3) (v := l3) hc dL_turn_0 rfl rfl ?_
  refine R_iconst (v := (0 : Int32)) hc dL_turn_1 kI_0 ?_
  refine R_aload_n (q := 0) (i := 0) (v := l0) hc dL_turn_2 rfl rfl ?_
  refine R_iload_n (q := 1) (i := 1) (v := l1) hc dL_turn_3 rfl rfl ?_
  refine R_iload_n (q := 2) (i := 2) (v := l2) hc dL_turn_4 rfl rfl ?_
  refine R_cXI (As := [.int l1, .int l2]) (rest := [.int (0 : Int32), rf x.w l3]) (r0 := l0) (ci := 10) hc ml_L_64 mf_X10_turn rfl (by decide) ⟨rfl, rfl⟩ ⟨le_b rfl, le_b rfl⟩ ⟨le_b rfl, le_b rfl⟩ (fun a r h' e => mt_X10_turn hlt e) rfl rfl (by simp [rf_cat, cat_i]) dL_turn_5 hw (fun v h1 hw => ?_) (fun k h1 hw => ?_)
  · have hw : wpO ((sJ h1 l3 (0 : Int32) v.toInt64).bind fun h2 => some ((0 : Int32), h2)) _ := hw
    refine R_i2l hc dL_turn_8 ?_
    refine R_lastore hc dL_turn_9 hw (fun h2 hw => ?_)
    refine R_goto (tgt := 21) hc dL_turn_10 (by decide) ?_
    refine R_iconst (v := (0 : Int32)) hc dL_turn_21 kI_0 ?_
    exact R_ireturn hc hret rfl hQ hw dL_turn_22
  · have hw : wpO (if k = 1 then some ((1 : Int32), h1) else if k = 0 then some ((2 : Int32), h1) else none) _ := hw
    by_cases hk0 : k = 1
    · subst hk0
      rw [if_pos rfl] at hw
      refine R_catch (k := 1) (nm := "java/lang/IndexOutOfBoundsException") hc [] ⟨0, 10, 13, 19⟩ [⟨0, 10, 17, 13⟩] (by rw [htab]; rfl) (fun z hz => nomatch hz) rfl (by decide) lc_19 (List.mem_of_getElem? (i := 1) rfl) (hp := 13) rfl (fun q => ?_)
      refine R_astoreV (i := 4) hc [(4, .ref q), (0, rf x.w l0), (1, .int l1), (2, .int l2), (3, rf x.w l3)] dL_turn_13 (hnl 4 (le_b rfl)) (by simp [rf_cat]) ?_
      refine R_iconst (v := (1 : Int32)) hc dL_turn_15 kI_1 ?_
      exact R_ireturn hc hret rfl hQ hw dL_turn_16
    rw [if_neg hk0] at hw
    by_cases hk1 : k = 0
    · subst hk1
      rw [if_pos rfl] at hw
      refine R_catch (k := 0) (nm := "java/lang/IllegalArgumentException") hc [⟨0, 10, 13, 19⟩] ⟨0, 10, 17, 13⟩ [] (by rw [htab]; rfl) (fun z hz => by cases hz with | head => exact Or.inr ⟨by decide, "java/lang/IndexOutOfBoundsException", lc_19, hc.sk.2.2.2.2.2.2.2.2 ("java/lang/IllegalArgumentException", "java/lang/IndexOutOfBoundsException") (List.mem_of_getElem? (i := 1) rfl)⟩ | tail _ hz => cases hz) rfl (by decide) lc_13 (List.mem_of_getElem? (i := 0) rfl) (hp := 17) rfl (fun q => ?_)
      refine R_astoreV (i := 4) hc [(4, .ref q), (0, rf x.w l0), (1, .int l1), (2, .int l2), (3, rf x.w l3)] dL_turn_17 (hnl 4 (le_b rfl)) (by simp [rf_cat]) ?_
      refine R_iconst (v := (2 : Int32)) hc dL_turn_19 kI_2 ?_
      exact R_ireturn hc hret rfl hQ hw dL_turn_20
    rw [if_neg hk1] at hw
    obtain ⟨_, h9, -⟩ := hw
    cases h9
theorem dL_move_0 : decode cL_move 0 = .ok (.aload_n 3, 1) := by decide +kernel
theorem dL_move_1 : decode cL_move 1 = .ok (.iconst 0, 1) := by decide +kernel
theorem dL_move_2 : decode cL_move 2 = .ok (.aload_n 0, 1) := by decide +kernel
theorem dL_move_3 : decode cL_move 3 = .ok (.iload_n 1, 1) := by decide +kernel
theorem dL_move_4 : decode cL_move 4 = .ok (.iload_n 2, 1) := by decide +kernel
theorem dL_move_5 : decode cL_move 5 = .ok (.invokevirtual 67, 3) := by decide +kernel
theorem dL_move_8 : decode cL_move 8 = .ok (.i2l, 1) := by decide +kernel
theorem dL_move_9 : decode cL_move 9 = .ok (.lastore, 1) := by decide +kernel
theorem dL_move_10 : decode cL_move 10 = .ok (.goto 11, 3) := by decide +kernel
theorem dL_move_13 : decode cL_move 13 = .ok (.astore 4, 2) := by decide +kernel
theorem dL_move_15 : decode cL_move 15 = .ok (.iconst 1, 1) := by decide +kernel
theorem dL_move_16 : decode cL_move 16 = .ok (.ireturn, 1) := by decide +kernel
theorem dL_move_17 : decode cL_move 17 = .ok (.astore 4, 2) := by decide +kernel
theorem dL_move_19 : decode cL_move 19 = .ok (.iconst 2, 1) := by decide +kernel
theorem dL_move_20 : decode cL_move 20 = .ok (.ireturn, 1) := by decide +kernel
theorem dL_move_21 : decode cL_move 21 = .ok (.iconst 0, 1) := by decide +kernel
theorem dL_move_22 : decode cL_move 22 = .ok (.ireturn, 1) := by decide +kernel
def sL_move (F : Nat) (l0 : Option Nat) (l1 : Int32) (l2 : Int32) (l3 : Option Nat) (h : HP) : Option (Int32 × HP) :=
  (dO h 10 l0).bind fun a =>
  bd2 (sX10_move F a l1 l2 h) fun r h1 => match r with
  | .inl v => (sJ h1 l3 (0 : Int32) v.toInt64).bind fun h2 => some ((0 : Int32), h2)
  | .inr k => if k = 1 then some ((1 : Int32), h1) else if k = 0 then some ((2 : Int32), h1) else none
abbrev rm_L_move : Room := { frames := 7, cells := 1, slots := 6, locals := 172 }
abbrev hh_L_move : List (Nat × Nat × Nat × Nat) := [(0, 10, 13, 19), (0, 10, 17, 13)]
set_option maxRecDepth 100000 in
set_option maxHeartbeats 4000000 in
theorem mt_L_move {w : WD} {l : Launch} {F : Nat} (hlt : l.stackTraces = false) {l0 : Option Nat} {l1 : Int32} {l2 : Int32} {l3 : Option Nat} {h : HP} {v : Int32} {h' : HP} (hs : sL_move F l0 l1 l2 l3 h = some (v, h')) : MW w l yL_move cL_move 5 hh_L_move rm_L_move [rf w l0, .int l1, .int l2, rf w l3] h v h' := by
  refine of_bodyW [(0, rf w l0), (1, .int l1), (2, .int l2), (3, rf w l3)] (by decide) (by simp [lg_sl, rf_cat, cat_i, cat_l, cat_a]) (by simp [lv_args, rf_cat, cat_i, cat_l, cat_a]) ?_
  intro x hw_ hnL_ hl_ hc hret htab hQ
  subst hw_; subst hl_
  have hnl : ∀ i, i < 5 → i < x.nL := fun i h => by rw [hnL_]; exact h
  have hw : wpO (sL_move F l0 l1 l2 l3 h) (fun q => q = (v, h')) := ⟨_, hs, rfl⟩
  unfold sL_move at hw
  refine R_aload_n (q := 3) (i := 3) (v := l3) hc dL_move_0 rfl rfl ?_
  refine R_iconst (v := (0 : Int32)) hc dL_move_1 kI_0 ?_
  refine R_aload_n (q := 0) (i := 0) (v := l0) hc dL_move_2 rfl rfl ?_
  refine R_iload_n (q := 1) (i := 1) (v := l1) hc dL_move_3 rfl rfl ?_
  refine R_iload_n (q := 2) (i := 2) (v := l2) hc dL_move_4 rfl rfl ?_
  refine R_cXI (As := [.int l1, .int l2]) (rest := [.int (0 : Int32), rf x.w l3]) (r0 := l0) (ci := 10) hc ml_L_67 mf_X10_move rfl (by decide) ⟨rfl, rfl⟩ ⟨le_b rfl, le_b rfl⟩ ⟨le_b rfl, le_b rfl⟩ (fun a r h' e => mt_X10_move hlt e) rfl rfl (by simp [rf_cat, cat_i]) dL_move_5 hw (fun v h1 hw => ?_) (fun k h1 hw => ?_)
  · have hw : wpO ((sJ h1 l3 (0 : Int32) v.toInt64).bind fun h2 => some ((0 : Int32), h2)) _ := hw
    refine R_i2l hc dL_move_8 ?_
    refine R_lastore hc dL_move_9 hw (fun h2 hw => ?_)
    refine R_goto (tgt := 21) hc dL_move_10 (by decide) ?_
    refine R_iconst (v := (0 : Int32)) hc dL_move_21 kI_0 ?_
    exact R_ireturn hc hret rfl hQ hw dL_move_22
  · have hw : wpO (if k = 1 then some ((1 : Int32), h1) else if k = 0 then some ((2 : Int32), h1) else none) _ := hw
    by_cases hk0 : k = 1
    · subst hk0
      rw [if_pos rfl] at hw
      refine R_catch (k := 1) (nm := "java/lang/IndexOutOfBoundsException") hc [] ⟨0, 10, 13, 19⟩ [⟨0, 10, 17, 13⟩] (by rw [htab]; rfl) (fun z hz => nomatch hz) rfl (by decide) lc_19 (List.mem_of_getElem? (i := 1) rfl) (hp := 13) rfl (fun q => ?_)
      refine R_astoreV (i := 4) hc [(4, .ref q), (0, rf x.w l0), (1, .int l1), (2, .int l2), (3, rf x.w l3)] dL_move_13 (hnl 4 (le_b rfl)) (by simp [rf_cat]) ?_
      refine R_iconst (v := (1 : Int32)) hc dL_move_15 kI_1 ?_
      exact R_ireturn hc hret rfl hQ hw dL_move_16
    rw [if_neg hk0] at hw
    by_cases hk1 : k = 0
    · subst hk1
      rw [if_pos rfl] at hw
      refine R_catch (k := 0) (nm := "java/lang/IllegalArgumentException") hc [⟨0, 10, 13, 19⟩] ⟨0, 10, 17, 13⟩ [] (by rw [htab]; rfl) (fun z hz => by cases hz with | head => exact Or.inr ⟨by decide, "java/lang/IndexOutOfBoundsException", lc_19, hc.sk.2.2.2.2.2.2.2.2 ("java/lang/IllegalArgumentException", "java/lang/IndexOutOfBoundsException") (List.mem_of_getElem? (i := 1) rfl)⟩ | tail _ hz => cases hz) rfl (by decide) lc_13 (List.mem_of_getElem? (i := 0) rfl) (hp := 17) rfl (fun q => ?_)
      refine R_astoreV (i := 4) hc [(4, .ref q), (0, rf x.w l0), (1, .int l1), (2, .int l2), (3, rf x.w l3)] dL_move_17 (hnl 4 (le_b rfl)) (by simp [rf_cat]) ?_
      refine R_iconst (v := (2 : Int32)) hc dL_move_19 kI_2 ?_
      exact R_ireturn hc hret rfl hQ hw dL_move_20
    rw [if_neg hk1] at hw
    obtain ⟨_, h9, -⟩ := hw
    cases h9
theorem dL_mirror_0 : decode cL_mirror 0 = .ok (.aload_n 1, 1) := by decide +kernel
theorem dL_mirror_1 : decode cL_mirror 1 = .ok (.iconst 0, 1) := by decide +kernel
theorem dL_mirror_2 : decode cL_mirror 2 = .ok (.aload_n 0, 1) := by decide +kernel
theorem dL_mirror_3 : decode cL_mirror 3 = .ok (.invokevirtual 70, 3) := by decide +kernel
theorem dL_mirror_6 : decode cL_mirror 6 = .ok (.i2l, 1) := by decide +kernel
theorem dL_mirror_7 : decode cL_mirror 7 = .ok (.lastore, 1) := by decide +kernel
theorem dL_mirror_8 : decode cL_mirror 8 = .ok (.goto 6, 3) := by decide +kernel
theorem dL_mirror_11 : decode cL_mirror 11 = .ok (.astore_n 2, 1) := by decide +kernel
theorem dL_mirror_12 : decode cL_mirror 12 = .ok (.iconst 1, 1) := by decide +kernel
theorem dL_mirror_13 : decode cL_mirror 13 = .ok (.ireturn, 1) := by decide +kernel
theorem dL_mirror_14 : decode cL_mirror 14 = .ok (.iconst 0, 1) := by decide +kernel
theorem dL_mirror_15 : decode cL_mirror 15 = .ok (.ireturn, 1) := by decide +kernel
def sL_mirror (F : Nat) (l0 : Option Nat) (l1 : Option Nat) (h : HP) : Option (Int32 × HP) :=
  (dO h 10 l0).bind fun a =>
  bd2 (sX10_mirror F a  h) fun r h1 => match r with
  | .inl v => (sJ h1 l1 (0 : Int32) v.toInt64).bind fun h2 => some ((0 : Int32), h2)
  | .inr k => if k = 3 then some ((1 : Int32), h1) else none
abbrev rm_L_mirror : Room := { frames := 7, cells := 1, slots := 6, locals := 170 }
abbrev hh_L_mirror : List (Nat × Nat × Nat × Nat) := [(0, 8, 11, 73)]
set_option maxRecDepth 100000 in
set_option maxHeartbeats 4000000 in
theorem mt_L_mirror {w : WD} {l : Launch} {F : Nat} (hlt : l.stackTraces = false) {l0 : Option Nat} {l1 : Option Nat} {h : HP} {v : Int32} {h' : HP} (hs : sL_mirror F l0 l1 h = some (v, h')) : MW w l yL_mirror cL_mirror 3 hh_L_mirror rm_L_mirror [rf w l0, rf w l1] h v h' := by
  refine of_bodyW [(0, rf w l0), (1, rf w l1)] (by decide) (by simp [lg_sl, rf_cat, cat_i, cat_l, cat_a]) (by simp [lv_args, rf_cat, cat_i, cat_l, cat_a]) ?_
  intro x hw_ hnL_ hl_ hc hret htab hQ
  subst hw_; subst hl_
  have hnl : ∀ i, i < 3 → i < x.nL := fun i h => by rw [hnL_]; exact h
  have hw : wpO (sL_mirror F l0 l1 h) (fun q => q = (v, h')) := ⟨_, hs, rfl⟩
  unfold sL_mirror at hw
  refine R_aload_n (q := 1) (i := 1) (v := l1) hc dL_mirror_0 rfl rfl ?_
  refine R_iconst (v := (0 : Int32)) hc dL_mirror_1 kI_0 ?_
  refine R_aload_n (q := 0) (i := 0) (v := l0) hc dL_mirror_2 rfl rfl ?_
  refine R_cXI (As := []) (rest := [.int (0 : Int32), rf x.w l1]) (r0 := l0) (ci := 10) hc ml_L_70 mf_X10_mirror rfl (by decide) ⟨rfl, rfl⟩ ⟨le_b rfl, le_b rfl⟩ ⟨le_b rfl, le_b rfl⟩ (fun a r h' e => mt_X10_mirror hlt e) rfl rfl (by simp [rf_cat, cat_i]) dL_mirror_3 hw (fun v h1 hw => ?_) (fun k h1 hw => ?_)
  · have hw : wpO ((sJ h1 l1 (0 : Int32) v.toInt64).bind fun h2 => some ((0 : Int32), h2)) _ := hw
    refine R_i2l hc dL_mirror_6 ?_
    refine R_lastore hc dL_mirror_7 hw (fun h2 hw => ?_)
    refine R_goto (tgt := 14) hc dL_mirror_8 (by decide) ?_
    refine R_iconst (v := (0 : Int32)) hc dL_mirror_14 kI_0 ?_
    exact R_ireturn hc hret rfl hQ hw dL_mirror_15
  · have hw : wpO (if k = 3 then some ((1 : Int32), h1) else none) _ := hw
    by_cases hk0 : k = 3
    · subst hk0
      rw [if_pos rfl] at hw
      refine R_catch (k := 3) (nm := "java/lang/IllegalStateException") hc [] ⟨0, 8, 11, 73⟩ [] (by rw [htab]; rfl) (fun z hz => nomatch hz) rfl (by decide) lc_73 (List.mem_of_getElem? (i := 3) rfl) (hp := 11) rfl (fun q => ?_)
      refine R_astoreV_n (i := 2) hc [(2, .ref q), (0, rf x.w l0), (1, rf x.w l1)] dL_mirror_11 rfl (hnl 2 (le_b rfl)) (by simp [rf_cat]) ?_
      refine R_iconst (v := (1 : Int32)) hc dL_mirror_12 kI_1 ?_
      exact R_ireturn hc hret rfl hQ hw dL_mirror_13
    rw [if_neg hk0] at hw
    obtain ⟨_, h9, -⟩ := hw
    cases h9
theorem dL_lay_0 : decode cL_lay 0 = .ok (.aload_n 3, 1) := by decide +kernel
theorem dL_lay_1 : decode cL_lay 1 = .ok (.iconst 0, 1) := by decide +kernel
theorem dL_lay_2 : decode cL_lay 2 = .ok (.aload_n 0, 1) := by decide +kernel
theorem dL_lay_3 : decode cL_lay 3 = .ok (.lload_n 1, 1) := by decide +kernel
theorem dL_lay_4 : decode cL_lay 4 = .ok (.invokevirtual 75, 3) := by decide +kernel
theorem dL_lay_7 : decode cL_lay 7 = .ok (.i2l, 1) := by decide +kernel
theorem dL_lay_8 : decode cL_lay 8 = .ok (.lastore, 1) := by decide +kernel
theorem dL_lay_9 : decode cL_lay 9 = .ok (.goto 7, 3) := by decide +kernel
theorem dL_lay_12 : decode cL_lay 12 = .ok (.astore 4, 2) := by decide +kernel
theorem dL_lay_14 : decode cL_lay 14 = .ok (.iconst 1, 1) := by decide +kernel
theorem dL_lay_15 : decode cL_lay 15 = .ok (.ireturn, 1) := by decide +kernel
theorem dL_lay_16 : decode cL_lay 16 = .ok (.iconst 0, 1) := by decide +kernel
theorem dL_lay_17 : decode cL_lay 17 = .ok (.ireturn, 1) := by decide +kernel
def sL_lay (F : Nat) (l0 : Option Nat) (l1 : Int64) (l3 : Option Nat) (h : HP) : Option (Int32 × HP) :=
  (dO h 10 l0).bind fun a =>
  bd2 (sX10_lay F a l1 h) fun r h1 => match r with
  | .inl v => (sJ h1 l3 (0 : Int32) v.toInt64).bind fun h2 => some ((0 : Int32), h2)
  | .inr k => if k = 0 then some ((1 : Int32), h1) else none
abbrev rm_L_lay : Room := { frames := 7, cells := 1, slots := 6, locals := 172 }
abbrev hh_L_lay : List (Nat × Nat × Nat × Nat) := [(0, 9, 12, 13)]
set_option maxRecDepth 100000 in
set_option maxHeartbeats 4000000 in
theorem mt_L_lay {w : WD} {l : Launch} {F : Nat} (hlt : l.stackTraces = false) {l0 : Option Nat} {l1 : Int64} {l3 : Option Nat} {h : HP} {v : Int32} {h' : HP} (hs : sL_lay F l0 l1 l3 h = some (v, h')) : MW w l yL_lay cL_lay 5 hh_L_lay rm_L_lay [rf w l0, .long l1, rf w l3] h v h' := by
  refine of_bodyW [(0, rf w l0), (1, .long l1), (3, rf w l3)] (by decide) (by simp [lg_sl, rf_cat, cat_i, cat_l, cat_a]) (by simp [lv_args, rf_cat, cat_i, cat_l, cat_a]) ?_
  intro x hw_ hnL_ hl_ hc hret htab hQ
  subst hw_; subst hl_
  have hnl : ∀ i, i < 5 → i < x.nL := fun i h => by rw [hnL_]; exact h
  have hw : wpO (sL_lay F l0 l1 l3 h) (fun q => q = (v, h')) := ⟨_, hs, rfl⟩
  unfold sL_lay at hw
  refine R_aload_n (q := 2) (i := 3) (v := l3) hc dL_lay_0 rfl rfl ?_
  refine R_iconst (v := (0 : Int32)) hc dL_lay_1 kI_0 ?_
  refine R_aload_n (q := 0) (i := 0) (v := l0) hc dL_lay_2 rfl rfl ?_
  refine R_lload_n (q := 1) (i := 1) (v := l1) hc dL_lay_3 rfl rfl ?_
  refine R_cXI (As := [.long l1]) (rest := [.int (0 : Int32), rf x.w l3]) (r0 := l0) (ci := 10) hc ml_L_75 mf_X10_lay rfl (by decide) ⟨rfl, rfl⟩ ⟨le_b rfl, le_b rfl⟩ ⟨le_b rfl, le_b rfl⟩ (fun a r h' e => mt_X10_lay hlt e) rfl rfl (by simp [rf_cat, cat_i]) dL_lay_4 hw (fun v h1 hw => ?_) (fun k h1 hw => ?_)
  · have hw : wpO ((sJ h1 l3 (0 : Int32) v.toInt64).bind fun h2 => some ((0 : Int32), h2)) _ := hw
    refine R_i2l hc dL_lay_7 ?_
    refine R_lastore hc dL_lay_8 hw (fun h2 hw => ?_)
    refine R_goto (tgt := 16) hc dL_lay_9 (by decide) ?_
    refine R_iconst (v := (0 : Int32)) hc dL_lay_16 kI_0 ?_
    exact R_ireturn hc hret rfl hQ hw dL_lay_17
  · have hw : wpO (if k = 0 then some ((1 : Int32), h1) else none) _ := hw
    by_cases hk0 : k = 0
    · subst hk0
      rw [if_pos rfl] at hw
      refine R_catch (k := 0) (nm := "java/lang/IllegalArgumentException") hc [] ⟨0, 9, 12, 13⟩ [] (by rw [htab]; rfl) (fun z hz => nomatch hz) rfl (by decide) lc_13 (List.mem_of_getElem? (i := 0) rfl) (hp := 12) rfl (fun q => ?_)
      refine R_astoreV (i := 4) hc [(4, .ref q), (0, rf x.w l0), (1, .long l1), (3, rf x.w l3)] dL_lay_12 (hnl 4 (le_b rfl)) (by simp [rf_cat]) ?_
      refine R_iconst (v := (1 : Int32)) hc dL_lay_14 kI_1 ?_
      exact R_ireturn hc hret rfl hQ hw dL_lay_15
    rw [if_neg hk0] at hw
    obtain ⟨_, h9, -⟩ := hw
    cases h9
theorem dL_undo_0 : decode cL_undo 0 = .ok (.aload_n 1, 1) := by decide +kernel
theorem dL_undo_1 : decode cL_undo 1 = .ok (.iconst 0, 1) := by decide +kernel
theorem dL_undo_2 : decode cL_undo 2 = .ok (.aload_n 0, 1) := by decide +kernel
theorem dL_undo_3 : decode cL_undo 3 = .ok (.invokevirtual 79, 3) := by decide +kernel
theorem dL_undo_6 : decode cL_undo 6 = .ok (.i2l, 1) := by decide +kernel
theorem dL_undo_7 : decode cL_undo 7 = .ok (.lastore, 1) := by decide +kernel
theorem dL_undo_8 : decode cL_undo 8 = .ok (.goto 6, 3) := by decide +kernel
theorem dL_undo_11 : decode cL_undo 11 = .ok (.astore_n 2, 1) := by decide +kernel
theorem dL_undo_12 : decode cL_undo 12 = .ok (.iconst 1, 1) := by decide +kernel
theorem dL_undo_13 : decode cL_undo 13 = .ok (.ireturn, 1) := by decide +kernel
theorem dL_undo_14 : decode cL_undo 14 = .ok (.iconst 0, 1) := by decide +kernel
theorem dL_undo_15 : decode cL_undo 15 = .ok (.ireturn, 1) := by decide +kernel
def sL_undo (F : Nat) (l0 : Option Nat) (l1 : Option Nat) (h : HP) : Option (Int32 × HP) :=
  (dO h 10 l0).bind fun a =>
  bd2 (sX10_undo F a  h) fun r h1 => match r with
  | .inl v => (sJ h1 l1 (0 : Int32) v.toInt64).bind fun h2 => some ((0 : Int32), h2)
  | .inr k => if k = 3 then some ((1 : Int32), h1) else none
abbrev rm_L_undo : Room := { frames := 7, cells := 1, slots := 6, locals := 170 }
abbrev hh_L_undo : List (Nat × Nat × Nat × Nat) := [(0, 8, 11, 73)]
set_option maxRecDepth 100000 in
set_option maxHeartbeats 4000000 in
theorem mt_L_undo {w : WD} {l : Launch} {F : Nat} (hlt : l.stackTraces = false) {l0 : Option Nat} {l1 : Option Nat} {h : HP} {v : Int32} {h' : HP} (hs : sL_undo F l0 l1 h = some (v, h')) : MW w l yL_undo cL_undo 3 hh_L_undo rm_L_undo [rf w l0, rf w l1] h v h' := by
  refine of_bodyW [(0, rf w l0), (1, rf w l1)] (by decide) (by simp [lg_sl, rf_cat, cat_i, cat_l, cat_a]) (by simp [lv_args, rf_cat, cat_i, cat_l, cat_a]) ?_
  intro x hw_ hnL_ hl_ hc hret htab hQ
  subst hw_; subst hl_
  have hnl : ∀ i, i < 3 → i < x.nL := fun i h => by rw [hnL_]; exact h
  have hw : wpO (sL_undo F l0 l1 h) (fun q => q = (v, h')) := ⟨_, hs, rfl⟩
  unfold sL_undo at hw
  refine R_aload_n (q := 1) (i := 1) (v := l1) hc dL_undo_0 rfl rfl ?_
  refine R_iconst (v := (0 : Int32)) hc dL_undo_1 kI_0 ?_
  refine R_aload_n (q := 0) (i := 0) (v := l0) hc dL_undo_2 rfl rfl ?_
  refine R_cXI (As := []) (rest := [.int (0 : Int32), rf x.w l1]) (r0 := l0) (ci := 10) hc ml_L_79 mf_X10_undo rfl (by decide) ⟨rfl, rfl⟩ ⟨le_b rfl, le_b rfl⟩ ⟨le_b rfl, le_b rfl⟩ (fun a r h' e => mt_X10_undo hlt e) rfl rfl (by simp [rf_cat, cat_i]) dL_undo_3 hw (fun v h1 hw => ?_) (fun k h1 hw => ?_)
  · have hw : wpO ((sJ h1 l1 (0 : Int32) v.toInt64).bind fun h2 => some ((0 : Int32), h2)) _ := hw
    refine R_i2l hc dL_undo_6 ?_
    refine R_lastore hc dL_undo_7 hw (fun h2 hw => ?_)
    refine R_goto (tgt := 14) hc dL_undo_8 (by decide) ?_
    refine R_iconst (v := (0 : Int32)) hc dL_undo_14 kI_0 ?_
    exact R_ireturn hc hret rfl hQ hw dL_undo_15
  · have hw : wpO (if k = 3 then some ((1 : Int32), h1) else none) _ := hw
    by_cases hk0 : k = 3
    · subst hk0
      rw [if_pos rfl] at hw
      refine R_catch (k := 3) (nm := "java/lang/IllegalStateException") hc [] ⟨0, 8, 11, 73⟩ [] (by rw [htab]; rfl) (fun z hz => nomatch hz) rfl (by decide) lc_73 (List.mem_of_getElem? (i := 3) rfl) (hp := 11) rfl (fun q => ?_)
      refine R_astoreV_n (i := 2) hc [(2, .ref q), (0, rf x.w l0), (1, rf x.w l1)] dL_undo_11 rfl (hnl 2 (le_b rfl)) (by simp [rf_cat]) ?_
      refine R_iconst (v := (1 : Int32)) hc dL_undo_12 kI_1 ?_
      exact R_ireturn hc hret rfl hQ hw dL_undo_13
    rw [if_neg hk0] at hw
    obtain ⟨_, h9, -⟩ := hw
    cases h9
theorem dL_fits_0 : decode cL_fits 0 = .ok (.aload_n 3, 1) := by decide +kernel
theorem dL_fits_1 : decode cL_fits 1 = .ok (.iconst 0, 1) := by decide +kernel
theorem dL_fits_2 : decode cL_fits 2 = .ok (.aload_n 0, 1) := by decide +kernel
theorem dL_fits_3 : decode cL_fits 3 = .ok (.iload_n 1, 1) := by decide +kernel
theorem dL_fits_4 : decode cL_fits 4 = .ok (.iload_n 2, 1) := by decide +kernel
theorem dL_fits_5 : decode cL_fits 5 = .ok (.invokevirtual 82, 3) := by decide +kernel
theorem dL_fits_8 : decode cL_fits 8 = .ok (.i2l, 1) := by decide +kernel
theorem dL_fits_9 : decode cL_fits 9 = .ok (.lastore, 1) := by decide +kernel
theorem dL_fits_10 : decode cL_fits 10 = .ok (.goto 11, 3) := by decide +kernel
theorem dL_fits_13 : decode cL_fits 13 = .ok (.astore 4, 2) := by decide +kernel
theorem dL_fits_15 : decode cL_fits 15 = .ok (.iconst 1, 1) := by decide +kernel
theorem dL_fits_16 : decode cL_fits 16 = .ok (.ireturn, 1) := by decide +kernel
theorem dL_fits_17 : decode cL_fits 17 = .ok (.astore 4, 2) := by decide +kernel
theorem dL_fits_19 : decode cL_fits 19 = .ok (.iconst 2, 1) := by decide +kernel
theorem dL_fits_20 : decode cL_fits 20 = .ok (.ireturn, 1) := by decide +kernel
theorem dL_fits_21 : decode cL_fits 21 = .ok (.iconst 0, 1) := by decide +kernel
theorem dL_fits_22 : decode cL_fits 22 = .ok (.ireturn, 1) := by decide +kernel
def sL_fits (F : Nat) (l0 : Option Nat) (l1 : Int32) (l2 : Int32) (l3 : Option Nat) (h : HP) : Option (Int32 × HP) :=
  (dO h 10 l0).bind fun a =>
  bd2 (sX10_fits F a l1 l2 h) fun r h1 => match r with
  | .inl v => (sJ h1 l3 (0 : Int32) v.toInt64).bind fun h2 => some ((0 : Int32), h2)
  | .inr k => if k = 1 then some ((1 : Int32), h1) else if k = 0 then some ((2 : Int32), h1) else none
abbrev rm_L_fits : Room := { frames := 7, cells := 1, slots := 6, locals := 104 }
abbrev hh_L_fits : List (Nat × Nat × Nat × Nat) := [(0, 10, 13, 19), (0, 10, 17, 13)]
set_option maxRecDepth 100000 in
set_option maxHeartbeats 4000000 in
theorem mt_L_fits {w : WD} {l : Launch} {F : Nat} (hlt : l.stackTraces = false) {l0 : Option Nat} {l1 : Int32} {l2 : Int32} {l3 : Option Nat} {h : HP} {v : Int32} {h' : HP} (hs : sL_fits F l0 l1 l2 l3 h = some (v, h')) : MW w l yL_fits cL_fits 5 hh_L_fits rm_L_fits [rf w l0, .int l1, .int l2, rf w l3] h v h' := by
  refine of_bodyW [(0, rf w l0), (1, .int l1), (2, .int l2), (3, rf w l3)] (by decide) (by simp [lg_sl, rf_cat, cat_i, cat_l, cat_a]) (by simp [lv_args, rf_cat, cat_i, cat_l, cat_a]) ?_
  intro x hw_ hnL_ hl_ hc hret htab hQ
  subst hw_; subst hl_
  have hnl : ∀ i, i < 5 → i < x.nL := fun i h => by rw [hnL_]; exact h
  have hw : wpO (sL_fits F l0 l1 l2 l3 h) (fun q => q = (v, h')) := ⟨_, hs, rfl⟩
  unfold sL_fits at hw
  refine R_aload_n (q := 3) (i := 3) (v := l3) hc dL_fits_0 rfl rfl ?_
  refine R_iconst (v := (0 : Int32)) hc dL_fits_1 kI_0 ?_
  refine R_aload_n (q := 0) (i := 0) (v := l0) hc dL_fits_2 rfl rfl ?_
  refine R_iload_n (q := 1) (i := 1) (v := l1) hc dL_fits_3 rfl rfl ?_
  refine R_iload_n (q := 2) (i := 2) (v := l2) hc dL_fits_4 rfl rfl ?_
  refine R_cXI (As := [.int l1, .int l2]) (rest := [.int (0 : Int32), rf x.w l3]) (r0 := l0) (ci := 10) hc ml_L_82 mf_X10_fits rfl (by decide) ⟨rfl, rfl⟩ ⟨le_b rfl, le_b rfl⟩ ⟨le_b rfl, le_b rfl⟩ (fun a r h' e => mt_X10_fits hlt e) rfl rfl (by simp [rf_cat, cat_i]) dL_fits_5 hw (fun v h1 hw => ?_) (fun k h1 hw => ?_)
  · have hw : wpO ((sJ h1 l3 (0 : Int32) v.toInt64).bind fun h2 => some ((0 : Int32), h2)) _ := hw
    refine R_i2l hc dL_fits_8 ?_
    refine R_lastore hc dL_fits_9 hw (fun h2 hw => ?_)
    refine R_goto (tgt := 21) hc dL_fits_10 (by decide) ?_
    refine R_iconst (v := (0 : Int32)) hc dL_fits_21 kI_0 ?_
    exact R_ireturn hc hret rfl hQ hw dL_fits_22
  · have hw : wpO (if k = 1 then some ((1 : Int32), h1) else if k = 0 then some ((2 : Int32), h1) else none) _ := hw
    by_cases hk0 : k = 1
    · subst hk0
      rw [if_pos rfl] at hw
      refine R_catch (k := 1) (nm := "java/lang/IndexOutOfBoundsException") hc [] ⟨0, 10, 13, 19⟩ [⟨0, 10, 17, 13⟩] (by rw [htab]; rfl) (fun z hz => nomatch hz) rfl (by decide) lc_19 (List.mem_of_getElem? (i := 1) rfl) (hp := 13) rfl (fun q => ?_)
      refine R_astoreV (i := 4) hc [(4, .ref q), (0, rf x.w l0), (1, .int l1), (2, .int l2), (3, rf x.w l3)] dL_fits_13 (hnl 4 (le_b rfl)) (by simp [rf_cat]) ?_
      refine R_iconst (v := (1 : Int32)) hc dL_fits_15 kI_1 ?_
      exact R_ireturn hc hret rfl hQ hw dL_fits_16
    rw [if_neg hk0] at hw
    by_cases hk1 : k = 0
    · subst hk1
      rw [if_pos rfl] at hw
      refine R_catch (k := 0) (nm := "java/lang/IllegalArgumentException") hc [⟨0, 10, 13, 19⟩] ⟨0, 10, 17, 13⟩ [] (by rw [htab]; rfl) (fun z hz => by cases hz with | head => exact Or.inr ⟨by decide, "java/lang/IndexOutOfBoundsException", lc_19, hc.sk.2.2.2.2.2.2.2.2 ("java/lang/IllegalArgumentException", "java/lang/IndexOutOfBoundsException") (List.mem_of_getElem? (i := 1) rfl)⟩ | tail _ hz => cases hz) rfl (by decide) lc_13 (List.mem_of_getElem? (i := 0) rfl) (hp := 17) rfl (fun q => ?_)
      refine R_astoreV (i := 4) hc [(4, .ref q), (0, rf x.w l0), (1, .int l1), (2, .int l2), (3, rf x.w l3)] dL_fits_17 (hnl 4 (le_b rfl)) (by simp [rf_cat]) ?_
      refine R_iconst (v := (2 : Int32)) hc dL_fits_19 kI_2 ?_
      exact R_ireturn hc hret rfl hQ hw dL_fits_20
    rw [if_neg hk1] at hw
    obtain ⟨_, h9, -⟩ := hw
    cases h9
theorem dL_room_0 : decode cL_room 0 = .ok (.aload_n 2, 1) := by decide +kernel
theorem dL_room_1 : decode cL_room 1 = .ok (.iconst 0, 1) := by decide +kernel
theorem dL_room_2 : decode cL_room 2 = .ok (.aload_n 0, 1) := by decide +kernel
theorem dL_room_3 : decode cL_room 3 = .ok (.iload_n 1, 1) := by decide +kernel
theorem dL_room_4 : decode cL_room 4 = .ok (.invokevirtual 85, 3) := by decide +kernel
theorem dL_room_7 : decode cL_room 7 = .ok (.i2l, 1) := by decide +kernel
theorem dL_room_8 : decode cL_room 8 = .ok (.lastore, 1) := by decide +kernel
theorem dL_room_9 : decode cL_room 9 = .ok (.goto 6, 3) := by decide +kernel
theorem dL_room_12 : decode cL_room 12 = .ok (.astore_n 3, 1) := by decide +kernel
theorem dL_room_13 : decode cL_room 13 = .ok (.iconst 1, 1) := by decide +kernel
theorem dL_room_14 : decode cL_room 14 = .ok (.ireturn, 1) := by decide +kernel
theorem dL_room_15 : decode cL_room 15 = .ok (.iconst 0, 1) := by decide +kernel
theorem dL_room_16 : decode cL_room 16 = .ok (.ireturn, 1) := by decide +kernel
def sL_room (F : Nat) (l0 : Option Nat) (l1 : Int32) (l2 : Option Nat) (h : HP) : Option (Int32 × HP) :=
  (dO h 10 l0).bind fun a =>
  bd2 (sX10_room F a l1 h) fun r h1 => match r with
  | .inl v => (sJ h1 l2 (0 : Int32) v.toInt64).bind fun h2 => some ((0 : Int32), h2)
  | .inr k => if k = 1 then some ((1 : Int32), h1) else none
abbrev rm_L_room : Room := { frames := 7, cells := 1, slots := 6, locals := 103 }
abbrev hh_L_room : List (Nat × Nat × Nat × Nat) := [(0, 9, 12, 19)]
set_option maxRecDepth 100000 in
set_option maxHeartbeats 4000000 in
theorem mt_L_room {w : WD} {l : Launch} {F : Nat} (hlt : l.stackTraces = false) {l0 : Option Nat} {l1 : Int32} {l2 : Option Nat} {h : HP} {v : Int32} {h' : HP} (hs : sL_room F l0 l1 l2 h = some (v, h')) : MW w l yL_room cL_room 4 hh_L_room rm_L_room [rf w l0, .int l1, rf w l2] h v h' := by
  refine of_bodyW [(0, rf w l0), (1, .int l1), (2, rf w l2)] (by decide) (by simp [lg_sl, rf_cat, cat_i, cat_l, cat_a]) (by simp [lv_args, rf_cat, cat_i, cat_l, cat_a]) ?_
  intro x hw_ hnL_ hl_ hc hret htab hQ
  subst hw_; subst hl_
  have hnl : ∀ i, i < 4 → i < x.nL := fun i h => by rw [hnL_]; exact h
  have hw : wpO (sL_room F l0 l1 l2 h) (fun q => q = (v, h')) := ⟨_, hs, rfl⟩
  unfold sL_room at hw
  refine R_aload_n (q := 2) (i := 2) (v := l2) hc dL_room_0 rfl rfl ?_
  refine R_iconst (v := (0 : Int32)) hc dL_room_1 kI_0 ?_
  refine R_aload_n (q := 0) (i := 0) (v := l0) hc dL_room_2 rfl rfl ?_
  refine R_iload_n (q := 1) (i := 1) (v := l1) hc dL_room_3 rfl rfl ?_
  refine R_cXI (As := [.int l1]) (rest := [.int (0 : Int32), rf x.w l2]) (r0 := l0) (ci := 10) hc ml_L_85 mf_X10_room rfl (by decide) ⟨rfl, rfl⟩ ⟨le_b rfl, le_b rfl⟩ ⟨le_b rfl, le_b rfl⟩ (fun a r h' e => mt_X10_room hlt e) rfl rfl (by simp [rf_cat, cat_i]) dL_room_4 hw (fun v h1 hw => ?_) (fun k h1 hw => ?_)
  · have hw : wpO ((sJ h1 l2 (0 : Int32) v.toInt64).bind fun h2 => some ((0 : Int32), h2)) _ := hw
    refine R_i2l hc dL_room_7 ?_
    refine R_lastore hc dL_room_8 hw (fun h2 hw => ?_)
    refine R_goto (tgt := 15) hc dL_room_9 (by decide) ?_
    refine R_iconst (v := (0 : Int32)) hc dL_room_15 kI_0 ?_
    exact R_ireturn hc hret rfl hQ hw dL_room_16
  · have hw : wpO (if k = 1 then some ((1 : Int32), h1) else none) _ := hw
    by_cases hk0 : k = 1
    · subst hk0
      rw [if_pos rfl] at hw
      refine R_catch (k := 1) (nm := "java/lang/IndexOutOfBoundsException") hc [] ⟨0, 9, 12, 19⟩ [] (by rw [htab]; rfl) (fun z hz => nomatch hz) rfl (by decide) lc_19 (List.mem_of_getElem? (i := 1) rfl) (hp := 12) rfl (fun q => ?_)
      refine R_astoreV_n (i := 3) hc [(3, .ref q), (0, rf x.w l0), (1, .int l1), (2, rf x.w l2)] dL_room_12 rfl (hnl 3 (le_b rfl)) (by simp [rf_cat]) ?_
      refine R_iconst (v := (1 : Int32)) hc dL_room_13 kI_1 ?_
      exact R_ireturn hc hret rfl hQ hw dL_room_14
    rw [if_neg hk0] at hw
    obtain ⟨_, h9, -⟩ := hw
    cases h9
