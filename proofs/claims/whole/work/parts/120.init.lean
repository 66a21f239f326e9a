theorem dX8_init_0 : decode cX8_init 0 = .ok (.aload_n 0, 1) := by decide +kernel
theorem dX8_init_1 : decode cX8_init 1 = .ok (.invokespecial 3, 3) := by decide +kernel
theorem dX8_init_4 : decode cX8_init 4 = .ok (.aload_n 0, 1) := by decide +kernel
theorem dX8_init_5 : decode cX8_init 5 = .ok (.iconst 0, 1) := by decide +kernel
theorem dX8_init_6 : decode cX8_init 6 = .ok (.putfield 9, 3) := by decide +kernel
theorem dX8_init_9 : decode cX8_init 9 = .ok (.aload_n 0, 1) := by decide +kernel
theorem dX8_init_10 : decode cX8_init 10 = .ok (.iconst (-1), 1) := by decide +kernel
theorem dX8_init_11 : decode cX8_init 11 = .ok (.putfield 15, 3) := by decide +kernel
theorem dX8_init_14 : decode cX8_init 14 = .ok (.aload_n 0, 1) := by decide +kernel
theorem dX8_init_15 : decode cX8_init 15 = .ok (.sipush 400, 3) := by decide +kernel
theorem dX8_init_18 : decode cX8_init 18 = .ok (.newarray .byte, 2) := by decide +kernel
theorem dX8_init_20 : decode cX8_init 20 = .ok (.putfield 18, 3) := by decide +kernel
theorem dX8_init_23 : decode cX8_init 23 = .ok (.aload_n 0, 1) := by decide +kernel
theorem dX8_init_24 : decode cX8_init 24 = .ok (.iconst 0, 1) := by decide +kernel
theorem dX8_init_25 : decode cX8_init 25 = .ok (.putfield 22, 3) := by decide +kernel
theorem dX8_init_28 : decode cX8_init 28 = .ok (.aload_n 0, 1) := by decide +kernel
theorem dX8_init_29 : decode cX8_init 29 = .ok (.iconst 0, 1) := by decide +kernel
theorem dX8_init_30 : decode cX8_init 30 = .ok (.putfield 25, 3) := by decide +kernel
theorem dX8_init_33 : decode cX8_init 33 = .ok (.return_, 1) := by decide +kernel
def sX8_init (F : Nat) (l0 : Nat) (h : HP) : Option HP :=
  (pI h 8 (some l0) 0 (0 : Int32)).bind fun h1 =>
  (pI h1 8 (some l0) 1 (-1 : Int32)).bind fun h2 =>
  (some (h2.new 12 400)).bind fun h3 =>
  (pR h3 8 (some l0) 2 (some h2.n)).bind fun h4 =>
  (pI h4 8 (some l0) 3 (0 : Int32)).bind fun h5 =>
  (pI h5 8 (some l0) 4 (0 : Int32)).bind fun h6 =>
  some h6
abbrev rm_X8_init : Room := { frames := 1, cells := 1, slots := 400, locals := 16 }
set_option maxRecDepth 100000 in
set_option maxHeartbeats 4000000 in
theorem mt_X8_init {w : WD} {l : Launch} {F : Nat} {l0 : Nat} {h : HP} {h' : HP} (hs : sX8_init F l0 h = some h') : MX w l yX8_init cX8_init 1 rm_X8_init 1 400 [rf w (some l0)] h h' := by
  refine of_bodyX [(0, rf w (some l0))] (by decide) (by simp [lg_sl, rf_cat, cat_i, cat_l, cat_a]) (by simp [lv_args, rf_cat, cat_i, cat_l, cat_a]) ?_
  intro x hw_ hnL_ hl_ hc hret hnm hx hQ
  subst hw_; subst hl_
  have hx : x.s.heap.size + 0 = x.w.b + h.n := hx
  have hnl : ∀ i, i < 1 → i < x.nL := fun i h => by rw [hnL_]; exact h
  have hw : wpO (sX8_init F l0 h) (fun r => r = h') := ⟨_, hs, rfl⟩
  unfold sX8_init at hw
  refine R_aload_n (q := 0) (i := 0) (v := (some l0)) hc dX8_init_0 rfl rfl ?_
  refine R_objInit hc oi_8_3 oi_ins oi_code (le_b rfl) (le_b rfl) rfl dX8_init_1 ?_
  refine R_aload_n (q := 0) (i := 0) (v := (some l0)) hc dX8_init_4 rfl rfl ?_
  refine R_iconst (v := (0 : Int32)) hc dX8_init_5 kI_0 ?_
  refine R_keep (fun h' e => n_pI e) (fun hw kk => R_putI hc pl_8_9 rfl rfl dX8_init_6 hw kk) hx hw (fun h1 hx hw => ?_)
  refine R_aload_n (q := 0) (i := 0) (v := (some l0)) hc dX8_init_9 rfl rfl ?_
  refine R_iconst (v := (-1 : Int32)) hc dX8_init_10 kI_m1 ?_
  refine R_keep (fun h' e => n_pI e) (fun hw kk => R_putI hc pl_8_15 rfl rfl dX8_init_11 hw kk) hx hw (fun h2 hx hw => ?_)
  refine R_aload_n (q := 0) (i := 0) (v := (some l0)) hc dX8_init_14 rfl rfl ?_
  refine R_sipush (v := (400 : Int32)) hc dX8_init_15 kS_400 ?_
  refine R_newB (N := 400) hc hx (by decide) rfl (le_b rfl) ar_byte (le_b rfl) (le_b rfl) dX8_init_18 hw (fun h3 hx hw => ?_)
  refine R_keep (fun h' e => n_pR e) (fun hw kk => R_putRF hc pl_8_18 hnm rfl (rf_fits_a _ _ _).1 (rf_fits_a _ _ _).2 dX8_init_20 hw kk) hx hw (fun h4 hx hw => ?_)
  refine R_aload_n (q := 0) (i := 0) (v := (some l0)) hc dX8_init_23 rfl rfl ?_
  refine R_iconst (v := (0 : Int32)) hc dX8_init_24 kI_0 ?_
  refine R_keep (fun h' e => n_pI e) (fun hw kk => R_putI hc pl_8_22 rfl rfl dX8_init_25 hw kk) hx hw (fun h5 hx hw => ?_)
  refine R_aload_n (q := 0) (i := 0) (v := (some l0)) hc dX8_init_28 rfl rfl ?_
  refine R_iconst (v := (0 : Int32)) hc dX8_init_29 kI_0 ?_
  refine R_keep (fun h' e => n_pI e) (fun hw kk => R_putI hc pl_8_25 rfl rfl dX8_init_30 hw kk) hx hw (fun h6 hx hw => ?_)
  exact R_return hc hret hQ hw dX8_init_33
theorem nn_X8_init {F : Nat} {l0 : Nat} {h : HP} {h' : HP} (e : sX8_init F l0 h = some h') : h'.n = h.n + 1 := by
  unfold sX8_init at e
  obtain ⟨h1, e1, e⟩ := bd e
  have n_h1 := n_pI e1
  obtain ⟨h2, e1, e⟩ := bd e
  have n_h2 := n_pI e1
  obtain ⟨h3, e1, e⟩ := bd e
  have n_h3 := n_new e1
  obtain ⟨h4, e1, e⟩ := bd e
  have n_h4 := n_pR e1
  obtain ⟨h5, e1, e⟩ := bd e
  have n_h5 := n_pI e1
  obtain ⟨h6, e1, e⟩ := bd e
  have n_h6 := n_pI e1
  cases e
  omega
theorem dX1_init_0 : decode cX1_init 0 = .ok (.aload_n 0, 1) := by decide +kernel
theorem dX1_init_1 : decode cX1_init 1 = .ok (.invokespecial 3, 3) := by decide +kernel
theorem dX1_init_4 : decode cX1_init 4 = .ok (.aload_n 0, 1) := by decide +kernel
theorem dX1_init_5 : decode cX1_init 5 = .ok (.bipush 48, 2) := by decide +kernel
theorem dX1_init_7 : decode cX1_init 7 = .ok (.newarray .int, 2) := by decide +kernel
theorem dX1_init_9 : decode cX1_init 9 = .ok (.putfield 9, 3) := by decide +kernel
theorem dX1_init_12 : decode cX1_init 12 = .ok (.aload_n 0, 1) := by decide +kernel
theorem dX1_init_13 : decode cX1_init 13 = .ok (.bipush 8, 2) := by decide +kernel
theorem dX1_init_15 : decode cX1_init 15 = .ok (.newarray .int, 2) := by decide +kernel
theorem dX1_init_17 : decode cX1_init 17 = .ok (.putfield 15, 3) := by decide +kernel
theorem dX1_init_20 : decode cX1_init 20 = .ok (.aload_n 0, 1) := by decide +kernel
theorem dX1_init_21 : decode cX1_init 21 = .ok (.bipush 18, 2) := by decide +kernel
theorem dX1_init_23 : decode cX1_init 23 = .ok (.newarray .int, 2) := by decide +kernel
theorem dX1_init_25 : decode cX1_init 25 = .ok (.putfield 18, 3) := by decide +kernel
theorem dX1_init_28 : decode cX1_init 28 = .ok (.aload_n 0, 1) := by decide +kernel
theorem dX1_init_29 : decode cX1_init 29 = .ok (.bipush 24, 2) := by decide +kernel
theorem dX1_init_31 : decode cX1_init 31 = .ok (.newarray .int, 2) := by decide +kernel
theorem dX1_init_33 : decode cX1_init 33 = .ok (.putfield 21, 3) := by decide +kernel
theorem dX1_init_36 : decode cX1_init 36 = .ok (.aload_n 0, 1) := by decide +kernel
theorem dX1_init_37 : decode cX1_init 37 = .ok (.bipush 64, 2) := by decide +kernel
theorem dX1_init_39 : decode cX1_init 39 = .ok (.newarray .int, 2) := by decide +kernel
theorem dX1_init_41 : decode cX1_init 41 = .ok (.putfield 24, 3) := by decide +kernel
theorem dX1_init_44 : decode cX1_init 44 = .ok (.return_, 1) := by decide +kernel
def sX1_init (F : Nat) (l0 : Nat) (h : HP) : Option HP :=
  (some (h.new 13 48)).bind fun h1 =>
  (pR h1 1 (some l0) 7 (some h.n)).bind fun h2 =>
  (some (h2.new 13 8)).bind fun h3 =>
  (pR h3 1 (some l0) 8 (some h2.n)).bind fun h4 =>
  (some (h4.new 13 18)).bind fun h5 =>
  (pR h5 1 (some l0) 9 (some h4.n)).bind fun h6 =>
  (some (h6.new 13 24)).bind fun h7 =>
  (pR h7 1 (some l0) 10 (some h6.n)).bind fun h8 =>
  (some (h8.new 13 64)).bind fun h9 =>
  (pR h9 1 (some l0) 11 (some h8.n)).bind fun h10 =>
  some h10
abbrev rm_X1_init : Room := { frames := 1, cells := 5, slots := 162, locals := 16 }
set_option maxRecDepth 100000 in
set_option maxHeartbeats 4000000 in
theorem mt_X1_init {w : WD} {l : Launch} {F : Nat} {l0 : Nat} {h : HP} {h' : HP} (hs : sX1_init F l0 h = some h') : MX w l yX1_init cX1_init 1 rm_X1_init 5 162 [rf w (some l0)] h h' := by
  refine of_bodyX [(0, rf w (some l0))] (by decide) (by simp [lg_sl, rf_cat, cat_i, cat_l, cat_a]) (by simp [lv_args, rf_cat, cat_i, cat_l, cat_a]) ?_
  intro x hw_ hnL_ hl_ hc hret hnm hx hQ
  subst hw_; subst hl_
  have hx : x.s.heap.size + 0 = x.w.b + h.n := hx
  have hnl : ∀ i, i < 1 → i < x.nL := fun i h => by rw [hnL_]; exact h
  have hw : wpO (sX1_init F l0 h) (fun r => r = h') := ⟨_, hs, rfl⟩
  unfold sX1_init at hw
  refine R_aload_n (q := 0) (i := 0) (v := (some l0)) hc dX1_init_0 rfl rfl ?_
  refine R_objInit hc oi_1_3 oi_ins oi_code (le_b rfl) (le_b rfl) rfl dX1_init_1 ?_
  refine R_aload_n (q := 0) (i := 0) (v := (some l0)) hc dX1_init_4 rfl rfl ?_
  refine R_bipush (v := (48 : Int32)) hc dX1_init_5 kB_48 ?_
  refine R_newI (N := 48) hc hx (by decide) rfl (le_b rfl) ar_int (le_b rfl) (le_b rfl) dX1_init_7 hw (fun h1 hx hw => ?_)
  refine R_keep (fun h' e => n_pR e) (fun hw kk => R_putRF hc pl_1_9 hnm rfl (rf_fits_a _ _ _).1 (rf_fits_a _ _ _).2 dX1_init_9 hw kk) hx hw (fun h2 hx hw => ?_)
  refine R_aload_n (q := 0) (i := 0) (v := (some l0)) hc dX1_init_12 rfl rfl ?_
  refine R_bipush (v := (8 : Int32)) hc dX1_init_13 kB_8 ?_
  refine R_newI (N := 8) hc hx (by decide) rfl (le_b rfl) ar_int (le_b rfl) (le_b rfl) dX1_init_15 hw (fun h3 hx hw => ?_)
  refine R_keep (fun h' e => n_pR e) (fun hw kk => R_putRF hc pl_1_15 hnm rfl (rf_fits_a _ _ _).1 (rf_fits_a _ _ _).2 dX1_init_17 hw kk) hx hw (fun h4 hx hw => ?_)
  refine R_aload_n (q := 0) (i := 0) (v := (some l0)) hc dX1_init_20 rfl rfl ?_
  refine R_bipush (v := (18 : Int32)) hc dX1_init_21 kB_18 ?_
  refine R_newI (N := 18) hc hx (by decide) rfl (le_b rfl) ar_int (le_b rfl) (le_b rfl) dX1_init_23 hw (fun h5 hx hw => ?_)
  refine R_keep (fun h' e => n_pR e) (fun hw kk => R_putRF hc pl_1_18 hnm rfl (rf_fits_a _ _ _).1 (rf_fits_a _ _ _).2 dX1_init_25 hw kk) hx hw (fun h6 hx hw => ?_)
  refine R_aload_n (q := 0) (i := 0) (v := (some l0)) hc dX1_init_28 rfl rfl ?_
  refine R_bipush (v := (24 : Int32)) hc dX1_init_29 kB_24 ?_
  refine R_newI (N := 24) hc hx (by decide) rfl (le_b rfl) ar_int (le_b rfl) (le_b rfl) dX1_init_31 hw (fun h7 hx hw => ?_)
  refine R_keep (fun h' e => n_pR e) (fun hw kk => R_putRF hc pl_1_21 hnm rfl (rf_fits_a _ _ _).1 (rf_fits_a _ _ _).2 dX1_init_33 hw kk) hx hw (fun h8 hx hw => ?_)
  refine R_aload_n (q := 0) (i := 0) (v := (some l0)) hc dX1_init_36 rfl rfl ?_
  refine R_bipush (v := (64 : Int32)) hc dX1_init_37 kB_64 ?_
  refine R_newI (N := 64) hc hx (by decide) rfl (le_b rfl) ar_int (le_b rfl) (le_b rfl) dX1_init_39 hw (fun h9 hx hw => ?_)
  refine R_keep (fun h' e => n_pR e) (fun hw kk => R_putRF hc pl_1_24 hnm rfl (rf_fits_a _ _ _).1 (rf_fits_a _ _ _).2 dX1_init_41 hw kk) hx hw (fun h10 hx hw => ?_)
  exact R_return hc hret hQ hw dX1_init_44
theorem nn_X1_init {F : Nat} {l0 : Nat} {h : HP} {h' : HP} (e : sX1_init F l0 h = some h') : h'.n = h.n + 5 := by
  unfold sX1_init at e
  obtain ⟨h1, e1, e⟩ := bd e
  have n_h1 := n_new e1
  obtain ⟨h2, e1, e⟩ := bd e
  have n_h2 := n_pR e1
  obtain ⟨h3, e1, e⟩ := bd e
  have n_h3 := n_new e1
  obtain ⟨h4, e1, e⟩ := bd e
  have n_h4 := n_pR e1
  obtain ⟨h5, e1, e⟩ := bd e
  have n_h5 := n_new e1
  obtain ⟨h6, e1, e⟩ := bd e
  have n_h6 := n_pR e1
  obtain ⟨h7, e1, e⟩ := bd e
  have n_h7 := n_new e1
  obtain ⟨h8, e1, e⟩ := bd e
  have n_h8 := n_pR e1
  obtain ⟨h9, e1, e⟩ := bd e
  have n_h9 := n_new e1
  obtain ⟨h10, e1, e⟩ := bd e
  have n_h10 := n_pR e1
  cases e
  omega
theorem dX3_init_0 : decode cX3_init 0 = .ok (.aload_n 0, 1) := by decide +kernel
theorem dX3_init_1 : decode cX3_init 1 = .ok (.invokespecial 3, 3) := by decide +kernel
theorem dX3_init_4 : decode cX3_init 4 = .ok (.aload_n 0, 1) := by decide +kernel
theorem dX3_init_5 : decode cX3_init 5 = .ok (.sipush 256, 3) := by decide +kernel
theorem dX3_init_8 : decode cX3_init 8 = .ok (.newarray .int, 2) := by decide +kernel
theorem dX3_init_10 : decode cX3_init 10 = .ok (.putfield 9, 3) := by decide +kernel
theorem dX3_init_13 : decode cX3_init 13 = .ok (.aload_n 0, 1) := by decide +kernel
theorem dX3_init_14 : decode cX3_init 14 = .ok (.sipush 256, 3) := by decide +kernel
theorem dX3_init_17 : decode cX3_init 17 = .ok (.newarray .int, 2) := by decide +kernel
theorem dX3_init_19 : decode cX3_init 19 = .ok (.putfield 15, 3) := by decide +kernel
theorem dX3_init_22 : decode cX3_init 22 = .ok (.aload_n 0, 1) := by decide +kernel
theorem dX3_init_23 : decode cX3_init 23 = .ok (.sipush 256, 3) := by decide +kernel
theorem dX3_init_26 : decode cX3_init 26 = .ok (.newarray .int, 2) := by decide +kernel
theorem dX3_init_28 : decode cX3_init 28 = .ok (.putfield 18, 3) := by decide +kernel
theorem dX3_init_31 : decode cX3_init 31 = .ok (.return_, 1) := by decide +kernel
def sX3_init (F : Nat) (l0 : Nat) (h : HP) : Option HP :=
  (some (h.new 13 256)).bind fun h1 =>
  (pR h1 3 (some l0) 0 (some h.n)).bind fun h2 =>
  (some (h2.new 13 256)).bind fun h3 =>
  (pR h3 3 (some l0) 1 (some h2.n)).bind fun h4 =>
  (some (h4.new 13 256)).bind fun h5 =>
  (pR h5 3 (some l0) 2 (some h4.n)).bind fun h6 =>
  some h6
abbrev rm_X3_init : Room := { frames := 1, cells := 3, slots := 768, locals := 16 }
set_option maxRecDepth 100000 in
set_option maxHeartbeats 4000000 in
theorem mt_X3_init {w : WD} {l : Launch} {F : Nat} {l0 : Nat} {h : HP} {h' : HP} (hs : sX3_init F l0 h = some h') : MX w l yX3_init cX3_init 1 rm_X3_init 3 768 [rf w (some l0)] h h' := by
  refine of_bodyX [(0, rf w (some l0))] (by decide) (by simp [lg_sl, rf_cat, cat_i, cat_l, cat_a]) (by simp [lv_args, rf_cat, cat_i, cat_l, cat_a]) ?_
  intro x hw_ hnL_ hl_ hc hret hnm hx hQ
  subst hw_; subst hl_
  have hx : x.s.heap.size + 0 = x.w.b + h.n := hx
  have hnl : ∀ i, i < 1 → i < x.nL := fun i h => by rw [hnL_]; exact h
  have hw : wpO (sX3_init F l0 h) (fun r => r = h') := ⟨_, hs, rfl⟩
  unfold sX3_init at hw
  refine R_aload_n (q := 0) (i := 0) (v := (some l0)) hc dX3_init_0 rfl rfl ?_
  refine R_objInit hc oi_3_3 oi_ins oi_code (le_b rfl) (le_b rfl) rfl dX3_init_1 ?_
  refine R_aload_n (q := 0) (i := 0) (v := (some l0)) hc dX3_init_4 rfl rfl ?_
  refine R_sipush (v := (256 : Int32)) hc dX3_init_5 kS_256 ?_
  refine R_newI (N := 256) hc hx (by decide) rfl (le_b rfl) ar_int (le_b rfl) (le_b rfl) dX3_init_8 hw (fun h1 hx hw => ?_)
  refine R_keep (fun h' e => n_pR e) (fun hw kk => R_putRF hc pl_3_9 hnm rfl (rf_fits_a _ _ _).1 (rf_fits_a _ _ _).2 dX3_init_10 hw kk) hx hw (fun h2 hx hw => ?_)
  refine R_aload_n (q := 0) (i := 0) (v := (some l0)) hc dX3_init_13 rfl rfl ?_
  refine R_sipush (v := (256 : Int32)) hc dX3_init_14 kS_256 ?_
  refine R_newI (N := 256) hc hx (by decide) rfl (le_b rfl) ar_int (le_b rfl) (le_b rfl) dX3_init_17 hw (fun h3 hx hw => ?_)
  refine R_keep (fun h' e => n_pR e) (fun hw kk => R_putRF hc pl_3_15 hnm rfl (rf_fits_a _ _ _).1 (rf_fits_a _ _ _).2 dX3_init_19 hw kk) hx hw (fun h4 hx hw => ?_)
  refine R_aload_n (q := 0) (i := 0) (v := (some l0)) hc dX3_init_22 rfl rfl ?_
  refine R_sipush (v := (256 : Int32)) hc dX3_init_23 kS_256 ?_
  refine R_newI (N := 256) hc hx (by decide) rfl (le_b rfl) ar_int (le_b rfl) (le_b rfl) dX3_init_26 hw (fun h5 hx hw => ?_)
  refine R_keep (fun h' e => n_pR e) (fun hw kk => R_putRF hc pl_3_18 hnm rfl (rf_fits_a _ _ _).1 (rf_fits_a _ _ _).2 dX3_init_28 hw kk) hx hw (fun h6 hx hw => ?_)
  exact R_return hc hret hQ hw dX3_init_31
theorem nn_X3_init {F : Nat} {l0 : Nat} {h : HP} {h' : HP} (e : sX3_init F l0 h = some h') : h'.n = h.n + 3 := by
  unfold sX3_init at e
  obtain ⟨h1, e1, e⟩ := bd e
  have n_h1 := n_new e1
  obtain ⟨h2, e1, e⟩ := bd e
  have n_h2 := n_pR e1
  obtain ⟨h3, e1, e⟩ := bd e
  have n_h3 := n_new e1
  obtain ⟨h4, e1, e⟩ := bd e
  have n_h4 := n_pR e1
  obtain ⟨h5, e1, e⟩ := bd e
  have n_h5 := n_new e1
  obtain ⟨h6, e1, e⟩ := bd e
  have n_h6 := n_pR e1
  cases e
  omega
theorem dX4_init_0 : decode cX4_init 0 = .ok (.aload_n 0, 1) := by decide +kernel
theorem dX4_init_1 : decode cX4_init 1 = .ok (.invokespecial 3, 3) := by decide +kernel
theorem dX4_init_4 : decode cX4_init 4 = .ok (.aload_n 0, 1) := by decide +kernel
theorem dX4_init_5 : decode cX4_init 5 = .ok (.new 9, 3) := by decide +kernel
theorem dX4_init_8 : decode cX4_init 8 = .ok (.dup, 1) := by decide +kernel
theorem dX4_init_9 : decode cX4_init 9 = .ok (.invokespecial 11, 3) := by decide +kernel
theorem dX4_init_12 : decode cX4_init 12 = .ok (.putfield 12, 3) := by decide +kernel
theorem dX4_init_15 : decode cX4_init 15 = .ok (.aload_n 0, 1) := by decide +kernel
theorem dX4_init_16 : decode cX4_init 16 = .ok (.new 18, 3) := by decide +kernel
theorem dX4_init_19 : decode cX4_init 19 = .ok (.dup, 1) := by decide +kernel
theorem dX4_init_20 : decode cX4_init 20 = .ok (.invokespecial 20, 3) := by decide +kernel
theorem dX4_init_23 : decode cX4_init 23 = .ok (.putfield 21, 3) := by decide +kernel
theorem dX4_init_26 : decode cX4_init 26 = .ok (.aload_n 0, 1) := by decide +kernel
theorem dX4_init_27 : decode cX4_init 27 = .ok (.sipush 256, 3) := by decide +kernel
theorem dX4_init_30 : decode cX4_init 30 = .ok (.newarray .long, 2) := by decide +kernel
theorem dX4_init_32 : decode cX4_init 32 = .ok (.putfield 25, 3) := by decide +kernel
theorem dX4_init_35 : decode cX4_init 35 = .ok (.aload_n 0, 1) := by decide +kernel
theorem dX4_init_36 : decode cX4_init 36 = .ok (.sipush 256, 3) := by decide +kernel
theorem dX4_init_39 : decode cX4_init 39 = .ok (.newarray .int, 2) := by decide +kernel
theorem dX4_init_41 : decode cX4_init 41 = .ok (.putfield 29, 3) := by decide +kernel
theorem dX4_init_44 : decode cX4_init 44 = .ok (.aload_n 0, 1) := by decide +kernel
theorem dX4_init_45 : decode cX4_init 45 = .ok (.new 18, 3) := by decide +kernel
theorem dX4_init_48 : decode cX4_init 48 = .ok (.dup, 1) := by decide +kernel
theorem dX4_init_49 : decode cX4_init 49 = .ok (.invokespecial 20, 3) := by decide +kernel
theorem dX4_init_52 : decode cX4_init 52 = .ok (.putfield 33, 3) := by decide +kernel
theorem dX4_init_55 : decode cX4_init 55 = .ok (.aload_n 0, 1) := by decide +kernel
theorem dX4_init_56 : decode cX4_init 56 = .ok (.sipush 8192, 3) := by decide +kernel
theorem dX4_init_59 : decode cX4_init 59 = .ok (.newarray .int, 2) := by decide +kernel
theorem dX4_init_61 : decode cX4_init 61 = .ok (.putfield 36, 3) := by decide +kernel
theorem dX4_init_64 : decode cX4_init 64 = .ok (.aload_n 0, 1) := by decide +kernel
theorem dX4_init_65 : decode cX4_init 65 = .ok (.aload_n 1, 1) := by decide +kernel
theorem dX4_init_66 : decode cX4_init 66 = .ok (.putfield 39, 3) := by decide +kernel
theorem dX4_init_69 : decode cX4_init 69 = .ok (.return_, 1) := by decide +kernel
def sX4_init (F : Nat) (l0 : Nat) (l1 : Option Nat) (h : HP) : Option HP :=
  (some (h.new 1 12)).bind fun h1 =>
  (sX1_init F h.n h1).bind fun h2 =>
  (pR h2 4 (some l0) 0 (some h.n)).bind fun h3 =>
  (some (h3.new 3 3)).bind fun h4 =>
  (sX3_init F h3.n h4).bind fun h5 =>
  (pR h5 4 (some l0) 1 (some h3.n)).bind fun h6 =>
  (some (h6.new 14 256)).bind fun h7 =>
  (pR h7 4 (some l0) 2 (some h6.n)).bind fun h8 =>
  (some (h8.new 13 256)).bind fun h9 =>
  (pR h9 4 (some l0) 3 (some h8.n)).bind fun h10 =>
  (some (h10.new 3 3)).bind fun h11 =>
  (sX3_init F h10.n h11).bind fun h12 =>
  (pR h12 4 (some l0) 4 (some h10.n)).bind fun h13 =>
  (some (h13.new 13 8192)).bind fun h14 =>
  (pR h14 4 (some l0) 5 (some h13.n)).bind fun h15 =>
  (pR h15 4 (some l0) 6 l1).bind fun h16 =>
  some h16
abbrev rm_X4_init : Room := { frames := 2, cells := 17, slots := 10420, locals := 36 }
set_option maxRecDepth 100000 in
set_option maxHeartbeats 4000000 in
theorem mt_X4_init {w : WD} {l : Launch} {F : Nat} {l0 : Nat} {l1 : Option Nat} {h : HP} {h' : HP} (hs : sX4_init F l0 l1 h = some h') : MX w l yX4_init cX4_init 2 rm_X4_init 17 10420 [rf w (some l0), rf w l1] h h' := by
  refine of_bodyX [(0, rf w (some l0)), (1, rf w l1)] (by decide) (by simp [lg_sl, rf_cat, cat_i, cat_l, cat_a]) (by simp [lv_args, rf_cat, cat_i, cat_l, cat_a]) ?_
  intro x hw_ hnL_ hl_ hc hret hnm hx hQ
  subst hw_; subst hl_
  have hx : x.s.heap.size + 0 = x.w.b + h.n := hx
  have hnl : ∀ i, i < 2 → i < x.nL := fun i h => by rw [hnL_]; exact h
  have hw : wpO (sX4_init F l0 l1 h) (fun r => r = h') := ⟨_, hs, rfl⟩
  unfold sX4_init at hw
  refine R_aload_n (q := 0) (i := 0) (v := (some l0)) hc dX4_init_0 rfl rfl ?_
  refine R_objInit hc oi_4_3 oi_ins oi_code (le_b rfl) (le_b rfl) rfl dX4_init_1 ?_
  refine R_aload_n (q := 0) (i := 0) (v := (some l0)) hc dX4_init_4 rfl rfl ?_
  refine R_new hc hx tyX1 rfl cl_4_9 ins_1 ini_1 inT1 tyX1_ok (by decide) rfl (by decide) (le_b rfl) (le_b rfl) dX4_init_5 hw (fun h1 hx hw => ?_)
  refine R_dup hc dX4_init_8 (rf_cat _ _) ?_
  refine R_cIN (As := []) (rest := [rf x.w (some h.n), rf x.w (some l0)]) (a := h.n) hc hx mn_4_11 mf_X1_init ⟨rfl, rfl⟩ ⟨le_b rfl, le_b rfl⟩ ⟨le_b rfl, le_b rfl⟩ (fun h' e => mt_X1_init e) (fun h' e => nn_X1_init e) rfl rfl (le_b rfl) dX4_init_9 hw (fun h2 hx hw => ?_)
  refine R_keep (fun h' e => n_pR e) (fun hw kk => R_putR hc pl_4_12 (rf_fits_o _ _ _).1 (rf_fits_o _ _ _).2 dX4_init_12 hw kk) hx hw (fun h3 hx hw => ?_)
  refine R_aload_n (q := 0) (i := 0) (v := (some l0)) hc dX4_init_15 rfl rfl ?_
  refine R_new hc hx tyX3 rfl cl_4_18 ins_3 ini_3 inT3 tyX3_ok (by decide) rfl (by decide) (le_b rfl) (le_b rfl) dX4_init_16 hw (fun h4 hx hw => ?_)
  refine R_dup hc dX4_init_19 (rf_cat _ _) ?_
  refine R_cIN (As := []) (rest := [rf x.w (some h3.n), rf x.w (some l0)]) (a := h3.n) hc hx mn_4_20 mf_X3_init ⟨rfl, rfl⟩ ⟨le_b rfl, le_b rfl⟩ ⟨le_b rfl, le_b rfl⟩ (fun h' e => mt_X3_init e) (fun h' e => nn_X3_init e) rfl rfl (le_b rfl) dX4_init_20 hw (fun h5 hx hw => ?_)
  refine R_keep (fun h' e => n_pR e) (fun hw kk => R_putRF hc pl_4_21 hnm rfl (rf_fits_o _ _ _).1 (rf_fits_o _ _ _).2 dX4_init_23 hw kk) hx hw (fun h6 hx hw => ?_)
  refine R_aload_n (q := 0) (i := 0) (v := (some l0)) hc dX4_init_26 rfl rfl ?_
  refine R_sipush (v := (256 : Int32)) hc dX4_init_27 kS_256 ?_
  refine R_newJ (N := 256) hc hx (by decide) rfl (le_b rfl) ar_long (le_b rfl) (le_b rfl) dX4_init_30 hw (fun h7 hx hw => ?_)
  refine R_keep (fun h' e => n_pR e) (fun hw kk => R_putRF hc pl_4_25 hnm rfl (rf_fits_a _ _ _).1 (rf_fits_a _ _ _).2 dX4_init_32 hw kk) hx hw (fun h8 hx hw => ?_)
  refine R_aload_n (q := 0) (i := 0) (v := (some l0)) hc dX4_init_35 rfl rfl ?_
  refine R_sipush (v := (256 : Int32)) hc dX4_init_36 kS_256 ?_
  refine R_newI (N := 256) hc hx (by decide) rfl (le_b rfl) ar_int (le_b rfl) (le_b rfl) dX4_init_39 hw (fun h9 hx hw => ?_)
  refine R_keep (fun h' e => n_pR e) (fun hw kk => R_putRF hc pl_4_29 hnm rfl (rf_fits_a _ _ _).1 (rf_fits_a _ _ _).2 dX4_init_41 hw kk) hx hw (fun h10 hx hw => ?_)
  refine R_aload_n (q := 0) (i := 0) (v := (some l0)) hc dX4_init_44 rfl rfl ?_
  refine R_new hc hx tyX3 rfl cl_4_18 ins_3 ini_3 inT3 tyX3_ok (by decide) rfl (by decide) (le_b rfl) (le_b rfl) dX4_init_45 hw (fun h11 hx hw => ?_)
  refine R_dup hc dX4_init_48 (rf_cat _ _) ?_
  refine R_cIN (As := []) (rest := [rf x.w (some h10.n), rf x.w (some l0)]) (a := h10.n) hc hx mn_4_20 mf_X3_init ⟨rfl, rfl⟩ ⟨le_b rfl, le_b rfl⟩ ⟨le_b rfl, le_b rfl⟩ (fun h' e => mt_X3_init e) (fun h' e => nn_X3_init e) rfl rfl (le_b rfl) dX4_init_49 hw (fun h12 hx hw => ?_)
  refine R_keep (fun h' e => n_pR e) (fun hw kk => R_putRF hc pl_4_33 hnm rfl (rf_fits_o _ _ _).1 (rf_fits_o _ _ _).2 dX4_init_52 hw kk) hx hw (fun h13 hx hw => ?_)
  refine R_aload_n (q := 0) (i := 0) (v := (some l0)) hc dX4_init_55 rfl rfl ?_
  refine R_sipush (v := (8192 : Int32)) hc dX4_init_56 kS_8192 ?_
  refine R_newI (N := 8192) hc hx (by decide) rfl (le_b rfl) ar_int (le_b rfl) (le_b rfl) dX4_init_59 hw (fun h14 hx hw => ?_)
  refine R_keep (fun h' e => n_pR e) (fun hw kk => R_putRF hc pl_4_36 hnm rfl (rf_fits_a _ _ _).1 (rf_fits_a _ _ _).2 dX4_init_61 hw kk) hx hw (fun h15 hx hw => ?_)
  refine R_aload_n (q := 0) (i := 0) (v := (some l0)) hc dX4_init_64 rfl rfl ?_
  refine R_aload_n (q := 1) (i := 1) (v := l1) hc dX4_init_65 rfl rfl ?_
  refine R_keep (fun h' e => n_pR e) (fun hw kk => R_putRF hc pl_4_39 hnm rfl (rf_fits_a _ _ _).1 (rf_fits_a _ _ _).2 dX4_init_66 hw kk) hx hw (fun h16 hx hw => ?_)
  exact R_return hc hret hQ hw dX4_init_69
theorem nn_X4_init {F : Nat} {l0 : Nat} {l1 : Option Nat} {h : HP} {h' : HP} (e : sX4_init F l0 l1 h = some h') : h'.n = h.n + 17 := by
  unfold sX4_init at e
  obtain ⟨h1, e1, e⟩ := bd e
  have n_h1 := n_new e1
  obtain ⟨h2, e1, e⟩ := bd e
  have n_h2 := nn_X1_init e1
  obtain ⟨h3, e1, e⟩ := bd e
  have n_h3 := n_pR e1
  obtain ⟨h4, e1, e⟩ := bd e
  have n_h4 := n_new e1
  obtain ⟨h5, e1, e⟩ := bd e
  have n_h5 := nn_X3_init e1
  obtain ⟨h6, e1, e⟩ := bd e
  have n_h6 := n_pR e1
  obtain ⟨h7, e1, e⟩ := bd e
  have n_h7 := n_new e1
  obtain ⟨h8, e1, e⟩ := bd e
  have n_h8 := n_pR e1
  obtain ⟨h9, e1, e⟩ := bd e
  have n_h9 := n_new e1
  obtain ⟨h10, e1, e⟩ := bd e
  have n_h10 := n_pR e1
  obtain ⟨h11, e1, e⟩ := bd e
  have n_h11 := n_new e1
  obtain ⟨h12, e1, e⟩ := bd e
  have n_h12 := nn_X3_init e1
  obtain ⟨h13, e1, e⟩ := bd e
  have n_h13 := n_pR e1
  obtain ⟨h14, e1, e⟩ := bd e
  have n_h14 := n_new e1
  obtain ⟨h15, e1, e⟩ := bd e
  have n_h15 := n_pR e1
  obtain ⟨h16, e1, e⟩ := bd e
  have n_h16 := n_pR e1
  cases e
  omega
theorem dX7_init_0 : decode cX7_init 0 = .ok (.aload_n 0, 1) := by decide +kernel
theorem dX7_init_1 : decode cX7_init 1 = .ok (.invokespecial 3, 3) := by decide +kernel
theorem dX7_init_4 : decode cX7_init 4 = .ok (.aload_n 0, 1) := by decide +kernel
theorem dX7_init_5 : decode cX7_init 5 = .ok (.iconst 0, 1) := by decide +kernel
theorem dX7_init_6 : decode cX7_init 6 = .ok (.putfield 9, 3) := by decide +kernel
theorem dX7_init_9 : decode cX7_init 9 = .ok (.aload_n 0, 1) := by decide +kernel
theorem dX7_init_10 : decode cX7_init 10 = .ok (.bipush 8, 2) := by decide +kernel
theorem dX7_init_12 : decode cX7_init 12 = .ok (.newarray .int, 2) := by decide +kernel
theorem dX7_init_14 : decode cX7_init 14 = .ok (.putfield 15, 3) := by decide +kernel
theorem dX7_init_17 : decode cX7_init 17 = .ok (.return_, 1) := by decide +kernel
def sX7_init (F : Nat) (l0 : Nat) (h : HP) : Option HP :=
  (pI h 7 (some l0) 0 (0 : Int32)).bind fun h1 =>
  (some (h1.new 13 8)).bind fun h2 =>
  (pR h2 7 (some l0) 1 (some h1.n)).bind fun h3 =>
  some h3
abbrev rm_X7_init : Room := { frames := 1, cells := 1, slots := 8, locals := 16 }
set_option maxRecDepth 100000 in
set_option maxHeartbeats 4000000 in
theorem mt_X7_init {w : WD} {l : Launch} {F : Nat} {l0 : Nat} {h : HP} {h' : HP} (hs : sX7_init F l0 h = some h') : MX w l yX7_init cX7_init 1 rm_X7_init 1 8 [rf w (some l0)] h h' := by
  refine of_bodyX [(0, rf w (some l0))] (by decide) (by simp [lg_sl, rf_cat, cat_i, cat_l, cat_a]) (by simp [lv_args, rf_cat, cat_i, cat_l, cat_a]) ?_
  intro x hw_ hnL_ hl_ hc hret hnm hx hQ
  subst hw_; subst hl_
  have hx : x.s.heap.size + 0 = x.w.b + h.n := hx
  have hnl : ∀ i, i < 1 → i < x.nL := fun i h => by rw [hnL_]; exact h
  have hw : wpO (sX7_init F l0 h) (fun r => r = h') := ⟨_, hs, rfl⟩
  unfold sX7_init at hw
  refine R_aload_n (q := 0) (i := 0) (v := (some l0)) hc dX7_init_0 rfl rfl ?_
  refine R_objInit hc oi_7_3 oi_ins oi_code (le_b rfl) (le_b rfl) rfl dX7_init_1 ?_
  refine R_aload_n (q := 0) (i := 0) (v := (some l0)) hc dX7_init_4 rfl rfl ?_
  refine R_iconst (v := (0 : Int32)) hc dX7_init_5 kI_0 ?_
  refine R_keep (fun h' e => n_pI e) (fun hw kk => R_putI hc pl_7_9 rfl rfl dX7_init_6 hw kk) hx hw (fun h1 hx hw => ?_)
  refine R_aload_n (q := 0) (i := 0) (v := (some l0)) hc dX7_init_9 rfl rfl ?_
  refine R_bipush (v := (8 : Int32)) hc dX7_init_10 kB_8 ?_
  refine R_newI (N := 8) hc hx (by decide) rfl (le_b rfl) ar_int (le_b rfl) (le_b rfl) dX7_init_12 hw (fun h2 hx hw => ?_)
  refine R_keep (fun h' e => n_pR e) (fun hw kk => R_putRF hc pl_7_15 hnm rfl (rf_fits_a _ _ _).1 (rf_fits_a _ _ _).2 dX7_init_14 hw kk) hx hw (fun h3 hx hw => ?_)
  exact R_return hc hret hQ hw dX7_init_17
theorem nn_X7_init {F : Nat} {l0 : Nat} {h : HP} {h' : HP} (e : sX7_init F l0 h = some h') : h'.n = h.n + 1 := by
  unfold sX7_init at e
  obtain ⟨h1, e1, e⟩ := bd e
  have n_h1 := n_pI e1
  obtain ⟨h2, e1, e⟩ := bd e
  have n_h2 := n_new e1
  obtain ⟨h3, e1, e⟩ := bd e
  have n_h3 := n_pR e1
  cases e
  omega
theorem dX5_init_0 : decode cX5_init 0 = .ok (.aload_n 0, 1) := by decide +kernel
theorem dX5_init_1 : decode cX5_init 1 = .ok (.invokespecial 3, 3) := by decide +kernel
theorem dX5_init_4 : decode cX5_init 4 = .ok (.aload_n 0, 1) := by decide +kernel
theorem dX5_init_5 : decode cX5_init 5 = .ok (.iconst 0, 1) := by decide +kernel
theorem dX5_init_6 : decode cX5_init 6 = .ok (.putfield 9, 3) := by decide +kernel
theorem dX5_init_9 : decode cX5_init 9 = .ok (.aload_n 0, 1) := by decide +kernel
theorem dX5_init_10 : decode cX5_init 10 = .ok (.iconst 0, 1) := by decide +kernel
theorem dX5_init_11 : decode cX5_init 11 = .ok (.putfield 15, 3) := by decide +kernel
theorem dX5_init_14 : decode cX5_init 14 = .ok (.aload_n 0, 1) := by decide +kernel
theorem dX5_init_15 : decode cX5_init 15 = .ok (.bipush 8, 2) := by decide +kernel
theorem dX5_init_17 : decode cX5_init 17 = .ok (.anewarray 18, 3) := by decide +kernel
theorem dX5_init_20 : decode cX5_init 20 = .ok (.putfield 20, 3) := by decide +kernel
theorem dX5_init_23 : decode cX5_init 23 = .ok (.iconst 0, 1) := by decide +kernel
theorem dX5_init_24 : decode cX5_init 24 = .ok (.istore_n 1, 1) := by decide +kernel
theorem dX5_init_25 : decode cX5_init 25 = .ok (.iload_n 1, 1) := by decide +kernel
theorem dX5_init_26 : decode cX5_init 26 = .ok (.bipush 8, 2) := by decide +kernel
theorem dX5_init_28 : decode cX5_init 28 = .ok (.if_icmp .ge 22, 3) := by decide +kernel
theorem dX5_init_31 : decode cX5_init 31 = .ok (.aload_n 0, 1) := by decide +kernel
theorem dX5_init_32 : decode cX5_init 32 = .ok (.getfield 20, 3) := by decide +kernel
theorem dX5_init_35 : decode cX5_init 35 = .ok (.iload_n 1, 1) := by decide +kernel
theorem dX5_init_36 : decode cX5_init 36 = .ok (.new 18, 3) := by decide +kernel
theorem dX5_init_39 : decode cX5_init 39 = .ok (.dup, 1) := by decide +kernel
theorem dX5_init_40 : decode cX5_init 40 = .ok (.invokespecial 24, 3) := by decide +kernel
theorem dX5_init_43 : decode cX5_init 43 = .ok (.aastore, 1) := by decide +kernel
theorem dX5_init_44 : decode cX5_init 44 = .ok (.iinc 1 1, 3) := by decide +kernel
theorem dX5_init_47 : decode cX5_init 47 = .ok (.goto (-22), 3) := by decide +kernel
theorem dX5_init_50 : decode cX5_init 50 = .ok (.return_, 1) := by decide +kernel
def sX5_init_L25 (F : Nat) (l0 : Nat) (l1 : Int32) (h : HP) : Option ((Int32 × HP) ⊕ HP) :=
  if (8 : Int32) ≤ l1 then
    some (.inr h)
  else
    (gR h 5 (some l0) 2).bind fun t5 =>
    (some (h.new 7 2)).bind fun h6 =>
    (sX7_init F h.n h6).bind fun h7 =>
    (sR h7 t5 l1 (some h.n)).bind fun h8 =>
    some (.inl (l1 + (1 : Int32), h8))
def sX5_init (F : Nat) (l0 : Nat) (h : HP) : Option HP :=
  (pI h 5 (some l0) 0 (0 : Int32)).bind fun h1 =>
  (pI h1 5 (some l0) 1 (0 : Int32)).bind fun h2 =>
  (some (h2.new 15 8)).bind fun h3 =>
  (pR h3 5 (some l0) 2 (some h2.n)).bind fun h4 =>
  (iter (fun s => sX5_init_L25 F l0 s.1 s.2) F ((0 : Int32), h4)).bind fun h9 =>
    some h9
abbrev rm_X5_init : Room := { frames := 2, cells := 17, slots := 88, locals := 36 }
theorem nn_X5_init_L {F l0 : Nat} : ∀ (n : Nat) (j : Nat) (h h' : HP), j ≤ 8 → iter (fun s => sX5_init_L25 F l0 s.1 s.2) n (nI j, h) = some h' → h'.n = h.n + 2 * (8 - j) := by
  intro n
  induction n with
  | zero => intro j h h' hj e; cases e
  | succ n ih =>
    intro j h h' hj e
    obtain ⟨o, e1, e⟩ := bd (show (sX5_init_L25 F l0 (nI j) h).bind _ = some h' from e)
    unfold sX5_init_L25 at e1
    by_cases hc : (8 : Int32) ≤ nI j
    · rw [if_pos hc] at e1
      cases e1
      have h8 : j = 8 := by
        rcases Nat.lt_or_ge j 8 with h1 | h1
        · exact absurd hc (show ¬ nI 8 ≤ nI j from nI_ge h1 (by decide))
        · omega
      subst h8
      cases e
      rfl
    · rw [if_neg hc] at e1
      have hj8 : j < 8 := by
        rcases Nat.lt_or_ge j 8 with h1 | h1
        · exact h1
        · exact absurd (show nI 8 ≤ nI j from nI_le h1 (by omega)) hc
      obtain ⟨t5, -, e1⟩ := bd e1
      obtain ⟨h6, q6, e1⟩ := bd e1
      obtain ⟨h7, q7, e1⟩ := bd e1
      obtain ⟨h8, q8, e1⟩ := bd e1
      cases e1
      have n6 := n_new q6
      have n7 := nn_X7_init q7
      have n8 := n_sR q8
      have e : iter (fun s => sX5_init_L25 F l0 s.1 s.2) n (nI (j + 1), h8) = some h' := by rw [← nI_1]; exact e
      have := ih (j + 1) h8 h' (by omega) e
      omega
theorem nn_X5_init {F : Nat} {l0 : Nat} {h : HP} {h' : HP} (e : sX5_init F l0 h = some h') : h'.n = h.n + 17 := by
  unfold sX5_init at e
  obtain ⟨h1, e1, e⟩ := bd e
  have n1 := n_pI e1
  obtain ⟨h2, e2, e⟩ := bd e
  have n2 := n_pI e2
  obtain ⟨h3, e3, e⟩ := bd e
  have n3 := n_new e3
  obtain ⟨h4, e4, e⟩ := bd e
  have n4 := n_pR e4
  obtain ⟨h9, e9, e⟩ := bd e
  have n9 := nn_X5_init_L F 0 h4 h9 (by omega) e9
  cases e
  omega
set_option maxRecDepth 100000 in
set_option maxHeartbeats 4000000 in
theorem mt_X5_init {w : WD} {l : Launch} {F : Nat} {l0 : Nat} {h : HP} {h' : HP} (hs : sX5_init F l0 h = some h') : MX w l yX5_init cX5_init 2 rm_X5_init 17 88 [rf w (some l0)] h h' := by
  refine of_bodyX [(0, rf w (some l0))] (by decide) (by simp [lg_sl, rf_cat, cat_i, cat_l, cat_a]) (by simp [lv_args, rf_cat, cat_i, cat_l, cat_a]) ?_
  intro x hw_ hnL_ hl_ hc hret hnm hx hQ
  subst hw_; subst hl_
  have hx : x.s.heap.size + 0 = x.w.b + h.n := hx
  have hnl : ∀ i, i < 2 → i < x.nL := fun i h => by rw [hnL_]; exact h
  have hw : wpO (sX5_init F l0 h) (fun r => r = h') := ⟨_, hs, rfl⟩
  unfold sX5_init at hw
  refine R_aload_n (q := 0) (i := 0) (v := (some l0)) hc dX5_init_0 rfl rfl ?_
  refine R_objInit hc oi_5_3 oi_ins oi_code (le_b rfl) (le_b rfl) rfl dX5_init_1 ?_
  refine R_aload_n (q := 0) (i := 0) (v := (some l0)) hc dX5_init_4 rfl rfl ?_
  refine R_iconst (v := (0 : Int32)) hc dX5_init_5 kI_0 ?_
  refine R_keep (fun h' e => n_pI e) (fun hw kk => R_putI hc pl_5_9 rfl rfl dX5_init_6 hw kk) hx hw (fun h1 hx hw => ?_)
  refine R_aload_n (q := 0) (i := 0) (v := (some l0)) hc dX5_init_9 rfl rfl ?_
  refine R_iconst (v := (0 : Int32)) hc dX5_init_10 kI_0 ?_
  refine R_keep (fun h' e => n_pI e) (fun hw kk => R_putI hc pl_5_15 rfl rfl dX5_init_11 hw kk) hx hw (fun h2 hx hw => ?_)
  refine R_aload_n (q := 0) (i := 0) (v := (some l0)) hc dX5_init_14 rfl rfl ?_
  refine R_bipush (v := (8 : Int32)) hc dX5_init_15 kB_8 ?_
  refine R_newR (N := 8) hc hx (by decide) rfl (le_b rfl) cl_5_18 (le_b rfl) (le_b rfl) dX5_init_17 hw (fun h3 hx hw => ?_)
  refine R_keep (fun h' e => n_pR e) (fun hw kk => R_putRF hc pl_5_20 hnm rfl (rf_fits_a _ _ _).1 (rf_fits_a _ _ _).2 dX5_init_20 hw kk) hx hw (fun h4 hx hw => ?_)
  refine R_iconst (v := (0 : Int32)) hc dX5_init_23 kI_0 ?_
  refine R_istore_n (i := 1) (v := (0 : Int32)) hc [(1, .int (0 : Int32)), (0, rf x.w (some l0))] dX5_init_24 rfl (hnl 1 (le_b rfl)) rfl ?_
  refine R_sub hc [1, 0] rfl ?_
  refine (R_loop (P := fun (s : (Int32 × HP)) => ∀ j : Nat, j ≤ 8 → s.1 = nI j → x.s.heap.size + (1 + 2 * j) = x.w.b + s.2.n → Rn x (1 + 2 * j) (8 + 10 * j) 25 [(0, rf x.w (some l0)), (1, .int s.1)] [] s.2) (fun h9 => Rn x 17 88 50 [] [] h9) hw (fun r hw => ?_) (fun X hX s hw => ?_)) 0 (by omega) rfl hx
  · revert r hw
    intro h9 hw
    show Rn x 17 88 50 [] [] h9
    exact R_return hc hret hQ hw dX5_init_50
  · obtain ⟨l1_11, h12⟩ := s
    intro j hj ej hx
    have hw : wpO (sX5_init_L25 F l0 l1_11 h12) _ := hw
    have hx : x.s.heap.size + (1 + 2 * j) = x.w.b + h12.n := hx
    have ej : l1_11 = nI j := ej
    show Rn x (1 + 2 * j) (8 + 10 * j) 25 [(0, rf x.w (some l0)), (1, .int l1_11)] [] h12
    unfold sX5_init_L25 at hw
    refine R_iload_n (q := 1) (i := 1) (v := l1_11) hc dX5_init_25 rfl rfl ?_
    refine R_bipush (v := (8 : Int32)) hc dX5_init_26 kB_8 ?_
    refine R_icmp_geC (tgt := 50) hc dX5_init_28 (by decide) hw (fun hcn hw => ?_) (fun hcn hw => ?_)
    · have h8 : j = 8 := by
        rcases Nat.lt_or_ge j 8 with h1 | h1
        · exact absurd hcn (by rw [ej]; exact (show ¬ nI 8 ≤ nI j from nI_ge h1 (by decide)))
        · omega
      subst h8
      refine R_sub hc [] rfl ?_
      exact (wpO_some hw :)
    · have hj8 : j < 8 := by
        rcases Nat.lt_or_ge j 8 with h1 | h1
        · exact h1
        · exact absurd (by rw [ej]; exact (show nI 8 ≤ nI j from nI_le h1 (by omega))) hcn
      refine R_aload_n (q := 0) (i := 0) (v := (some l0)) hc dX5_init_31 rfl rfl ?_
      refine R_getR hc fl_5_20 dX5_init_32 hw (fun t5 hw => ?_)
      refine R_iload_n (q := 1) (i := 1) (v := l1_11) hc dX5_init_35 rfl rfl ?_
      refine R_new hc hx tyX7 rfl cl_5_18 ins_7 ini_7 inT7 tyX7_ok (by decide) rfl (by decide) (by show 1 + 2 * j + 1 ≤ 17; omega) (by show 8 + 10 * j + 2 ≤ 88; omega) dX5_init_36 hw (fun h6 hx hw => ?_)
      refine R_dup hc dX5_init_39 (rf_cat _ _) ?_
      refine R_cIN (As := []) (rest := [rf x.w (some h12.n), .int l1_11, rf x.w t5]) (a := h12.n) hc hx mn_5_24 mf_X7_init ⟨rfl, rfl⟩ ⟨le_b rfl, le_b rfl⟩ ⟨by show 1 + 2 * j + 1 + 1 ≤ 17; omega, by show 8 + 10 * j + 2 + 8 ≤ 88; omega⟩ (fun h' e => mt_X7_init e) (fun h' e => nn_X7_init e) rfl rfl (by simp [rf_cat, cat_i, cat_l, cat_a]) dX5_init_40 hw (fun h7 hx hw => ?_)
      refine R_keep (fun h' e => n_sR e) (fun hw kk => R_aastore hc dX5_init_43 hw kk) hx hw (fun h8 hx hw => ?_)
      refine R_iinc (q := 1) (i := 1) (v := l1_11) hc [(1, .int (l1_11 + (1 : Int32))), (0, rf x.w (some l0))] dX5_init_44 rfl (kC_1 _) (hnl 1 (le_b rfl)) rfl ?_
      refine R_goto (tgt := 25) hc dX5_init_47 (by decide) ?_
      refine R_sub hc [1, 0] rfl ?_
      have key := hX (l1_11 + (1 : Int32), h8) (wpO_some hw :) (j + 1) (by omega) (by show l1_11 + 1 = _; rw [ej, nI_1]) (by show _ = x.w.b + h8.n; omega)
      rw [show 1 + 2 * j + 1 + 1 = 1 + 2 * (j + 1) by omega, show 8 + 10 * j + 2 + 8 = 8 + 10 * (j + 1) by omega]
      exact key
theorem dX2_init_0 : decode cX2_init 0 = .ok (.aload_n 0, 1) := by decide +kernel
theorem dX2_init_1 : decode cX2_init 1 = .ok (.invokespecial 3, 3) := by decide +kernel
theorem dX2_init_4 : decode cX2_init 4 = .ok (.aload_n 0, 1) := by decide +kernel
theorem dX2_init_5 : decode cX2_init 5 = .ok (.bipush 24, 2) := by decide +kernel
theorem dX2_init_7 : decode cX2_init 7 = .ok (.newarray .int, 2) := by decide +kernel
theorem dX2_init_9 : decode cX2_init 9 = .ok (.putfield 9, 3) := by decide +kernel
theorem dX2_init_12 : decode cX2_init 12 = .ok (.aload_n 0, 1) := by decide +kernel
theorem dX2_init_13 : decode cX2_init 13 = .ok (.bipush 24, 2) := by decide +kernel
theorem dX2_init_15 : decode cX2_init 15 = .ok (.newarray .int, 2) := by decide +kernel
theorem dX2_init_17 : decode cX2_init 17 = .ok (.putfield 15, 3) := by decide +kernel
theorem dX2_init_20 : decode cX2_init 20 = .ok (.aload_n 0, 1) := by decide +kernel
theorem dX2_init_21 : decode cX2_init 21 = .ok (.bipush 24, 2) := by decide +kernel
theorem dX2_init_23 : decode cX2_init 23 = .ok (.newarray .int, 2) := by decide +kernel
theorem dX2_init_25 : decode cX2_init 25 = .ok (.putfield 18, 3) := by decide +kernel
theorem dX2_init_28 : decode cX2_init 28 = .ok (.aload_n 0, 1) := by decide +kernel
theorem dX2_init_29 : decode cX2_init 29 = .ok (.bipush 8, 2) := by decide +kernel
theorem dX2_init_31 : decode cX2_init 31 = .ok (.newarray .int, 2) := by decide +kernel
theorem dX2_init_33 : decode cX2_init 33 = .ok (.putfield 21, 3) := by decide +kernel
theorem dX2_init_36 : decode cX2_init 36 = .ok (.return_, 1) := by decide +kernel
def sX2_init (F : Nat) (l0 : Nat) (h : HP) : Option HP :=
  (some (h.new 13 24)).bind fun h1 =>
  (pR h1 2 (some l0) 3 (some h.n)).bind fun h2 =>
  (some (h2.new 13 24)).bind fun h3 =>
  (pR h3 2 (some l0) 4 (some h2.n)).bind fun h4 =>
  (some (h4.new 13 24)).bind fun h5 =>
  (pR h5 2 (some l0) 5 (some h4.n)).bind fun h6 =>
  (some (h6.new 13 8)).bind fun h7 =>
  (pR h7 2 (some l0) 6 (some h6.n)).bind fun h8 =>
  some h8
abbrev rm_X2_init : Room := { frames := 1, cells := 4, slots := 80, locals := 16 }
set_option maxRecDepth 100000 in
set_option maxHeartbeats 4000000 in
theorem mt_X2_init {w : WD} {l : Launch} {F : Nat} {l0 : Nat} {h : HP} {h' : HP} (hs : sX2_init F l0 h = some h') : MX w l yX2_init cX2_init 1 rm_X2_init 4 80 [rf w (some l0)] h h' := by
  refine of_bodyX [(0, rf w (some l0))] (by decide) (by simp [lg_sl, rf_cat, cat_i, cat_l, cat_a]) (by simp [lv_args, rf_cat, cat_i, cat_l, cat_a]) ?_
  intro x hw_ hnL_ hl_ hc hret hnm hx hQ
  subst hw_; subst hl_
  have hx : x.s.heap.size + 0 = x.w.b + h.n := hx
  have hnl : ∀ i, i < 1 → i < x.nL := fun i h => by rw [hnL_]; exact h
  have hw : wpO (sX2_init F l0 h) (fun r => r = h') := ⟨_, hs, rfl⟩
  unfold sX2_init at hw
  refine R_aload_n (q := 0) (i := 0) (v := (some l0)) hc dX2_init_0 rfl rfl ?_
  refine R_objInit hc oi_2_3 oi_ins oi_code (le_b rfl) (le_b rfl) rfl dX2_init_1 ?_
  refine R_aload_n (q := 0) (i := 0) (v := (some l0)) hc dX2_init_4 rfl rfl ?_
  refine R_bipush (v := (24 : Int32)) hc dX2_init_5 kB_24 ?_
  refine R_newI (N := 24) hc hx (by decide) rfl (le_b rfl) ar_int (le_b rfl) (le_b rfl) dX2_init_7 hw (fun h1 hx hw => ?_)
  refine R_keep (fun h' e => n_pR e) (fun hw kk => R_putRF hc pl_2_9 hnm rfl (rf_fits_a _ _ _).1 (rf_fits_a _ _ _).2 dX2_init_9 hw kk) hx hw (fun h2 hx hw => ?_)
  refine R_aload_n (q := 0) (i := 0) (v := (some l0)) hc dX2_init_12 rfl rfl ?_
  refine R_bipush (v := (24 : Int32)) hc dX2_init_13 kB_24 ?_
  refine R_newI (N := 24) hc hx (by decide) rfl (le_b rfl) ar_int (le_b rfl) (le_b rfl) dX2_init_15 hw (fun h3 hx hw => ?_)
  refine R_keep (fun h' e => n_pR e) (fun hw kk => R_putRF hc pl_2_15 hnm rfl (rf_fits_a _ _ _).1 (rf_fits_a _ _ _).2 dX2_init_17 hw kk) hx hw (fun h4 hx hw => ?_)
  refine R_aload_n (q := 0) (i := 0) (v := (some l0)) hc dX2_init_20 rfl rfl ?_
  refine R_bipush (v := (24 : Int32)) hc dX2_init_21 kB_24 ?_
  refine R_newI (N := 24) hc hx (by decide) rfl (le_b rfl) ar_int (le_b rfl) (le_b rfl) dX2_init_23 hw (fun h5 hx hw => ?_)
  refine R_keep (fun h' e => n_pR e) (fun hw kk => R_putRF hc pl_2_18 hnm rfl (rf_fits_a _ _ _).1 (rf_fits_a _ _ _).2 dX2_init_25 hw kk) hx hw (fun h6 hx hw => ?_)
  refine R_aload_n (q := 0) (i := 0) (v := (some l0)) hc dX2_init_28 rfl rfl ?_
  refine R_bipush (v := (8 : Int32)) hc dX2_init_29 kB_8 ?_
  refine R_newI (N := 8) hc hx (by decide) rfl (le_b rfl) ar_int (le_b rfl) (le_b rfl) dX2_init_31 hw (fun h7 hx hw => ?_)
  refine R_keep (fun h' e => n_pR e) (fun hw kk => R_putRF hc pl_2_21 hnm rfl (rf_fits_a _ _ _).1 (rf_fits_a _ _ _).2 dX2_init_33 hw kk) hx hw (fun h8 hx hw => ?_)
  exact R_return hc hret hQ hw dX2_init_36
theorem nn_X2_init {F : Nat} {l0 : Nat} {h : HP} {h' : HP} (e : sX2_init F l0 h = some h') : h'.n = h.n + 4 := by
  unfold sX2_init at e
  obtain ⟨h1, e1, e⟩ := bd e
  have n_h1 := n_new e1
  obtain ⟨h2, e1, e⟩ := bd e
  have n_h2 := n_pR e1
  obtain ⟨h3, e1, e⟩ := bd e
  have n_h3 := n_new e1
  obtain ⟨h4, e1, e⟩ := bd e
  have n_h4 := n_pR e1
  obtain ⟨h5, e1, e⟩ := bd e
  have n_h5 := n_new e1
  obtain ⟨h6, e1, e⟩ := bd e
  have n_h6 := n_pR e1
  obtain ⟨h7, e1, e⟩ := bd e
  have n_h7 := n_new e1
  obtain ⟨h8, e1, e⟩ := bd e
  have n_h8 := n_pR e1
  cases e
  omega
theorem dX6_init_0 : decode cX6_init 0 = .ok (.aload_n 0, 1) := by decide +kernel
theorem dX6_init_1 : decode cX6_init 1 = .ok (.invokespecial 3, 3) := by decide +kernel
theorem dX6_init_4 : decode cX6_init 4 = .ok (.aload_n 0, 1) := by decide +kernel
theorem dX6_init_5 : decode cX6_init 5 = .ok (.bipush 6, 2) := by decide +kernel
theorem dX6_init_7 : decode cX6_init 7 = .ok (.newarray .int, 2) := by decide +kernel
theorem dX6_init_9 : decode cX6_init 9 = .ok (.putfield 9, 3) := by decide +kernel
theorem dX6_init_12 : decode cX6_init 12 = .ok (.aload_n 0, 1) := by decide +kernel
theorem dX6_init_13 : decode cX6_init 13 = .ok (.bipush 6, 2) := by decide +kernel
theorem dX6_init_15 : decode cX6_init 15 = .ok (.newarray .long, 2) := by decide +kernel
theorem dX6_init_17 : decode cX6_init 17 = .ok (.putfield 15, 3) := by decide +kernel
theorem dX6_init_20 : decode cX6_init 20 = .ok (.aload_n 0, 1) := by decide +kernel
theorem dX6_init_21 : decode cX6_init 21 = .ok (.bipush 64, 2) := by decide +kernel
theorem dX6_init_23 : decode cX6_init 23 = .ok (.newarray .long, 2) := by decide +kernel
theorem dX6_init_25 : decode cX6_init 25 = .ok (.putfield 19, 3) := by decide +kernel
theorem dX6_init_28 : decode cX6_init 28 = .ok (.return_, 1) := by decide +kernel
def sX6_init (F : Nat) (l0 : Nat) (h : HP) : Option HP :=
  (some (h.new 13 6)).bind fun h1 =>
  (pR h1 6 (some l0) 1 (some h.n)).bind fun h2 =>
  (some (h2.new 14 6)).bind fun h3 =>
  (pR h3 6 (some l0) 2 (some h2.n)).bind fun h4 =>
  (some (h4.new 14 64)).bind fun h5 =>
  (pR h5 6 (some l0) 3 (some h4.n)).bind fun h6 =>
  some h6
abbrev rm_X6_init : Room := { frames := 1, cells := 3, slots := 76, locals := 16 }
set_option maxRecDepth 100000 in
set_option maxHeartbeats 4000000 in
theorem mt_X6_init {w : WD} {l : Launch} {F : Nat} {l0 : Nat} {h : HP} {h' : HP} (hs : sX6_init F l0 h = some h') : MX w l yX6_init cX6_init 1 rm_X6_init 3 76 [rf w (some l0)] h h' := by
  refine of_bodyX [(0, rf w (some l0))] (by decide) (by simp [lg_sl, rf_cat, cat_i, cat_l, cat_a]) (by simp [lv_args, rf_cat, cat_i, cat_l, cat_a]) ?_
  intro x hw_ hnL_ hl_ hc hret hnm hx hQ
  subst hw_; subst hl_
  have hx : x.s.heap.size + 0 = x.w.b + h.n := hx
  have hnl : ∀ i, i < 1 → i < x.nL := fun i h => by rw [hnL_]; exact h
  have hw : wpO (sX6_init F l0 h) (fun r => r = h') := ⟨_, hs, rfl⟩
  unfold sX6_init at hw
  refine R_aload_n (q := 0) (i := 0) (v := (some l0)) hc dX6_init_0 rfl rfl ?_
  refine R_objInit hc oi_6_3 oi_ins oi_code (le_b rfl) (le_b rfl) rfl dX6_init_1 ?_
  refine R_aload_n (q := 0) (i := 0) (v := (some l0)) hc dX6_init_4 rfl rfl ?_
  refine R_bipush (v := (6 : Int32)) hc dX6_init_5 kB_6 ?_
  refine R_newI (N := 6) hc hx (by decide) rfl (le_b rfl) ar_int (le_b rfl) (le_b rfl) dX6_init_7 hw (fun h1 hx hw => ?_)
  refine R_keep (fun h' e => n_pR e) (fun hw kk => R_putRF hc pl_6_9 hnm rfl (rf_fits_a _ _ _).1 (rf_fits_a _ _ _).2 dX6_init_9 hw kk) hx hw (fun h2 hx hw => ?_)
  refine R_aload_n (q := 0) (i := 0) (v := (some l0)) hc dX6_init_12 rfl rfl ?_
  refine R_bipush (v := (6 : Int32)) hc dX6_init_13 kB_6 ?_
  refine R_newJ (N := 6) hc hx (by decide) rfl (le_b rfl) ar_long (le_b rfl) (le_b rfl) dX6_init_15 hw (fun h3 hx hw => ?_)
  refine R_keep (fun h' e => n_pR e) (fun hw kk => R_putRF hc pl_6_15 hnm rfl (rf_fits_a _ _ _).1 (rf_fits_a _ _ _).2 dX6_init_17 hw kk) hx hw (fun h4 hx hw => ?_)
  refine R_aload_n (q := 0) (i := 0) (v := (some l0)) hc dX6_init_20 rfl rfl ?_
  refine R_bipush (v := (64 : Int32)) hc dX6_init_21 kB_64 ?_
  refine R_newJ (N := 64) hc hx (by decide) rfl (le_b rfl) ar_long (le_b rfl) (le_b rfl) dX6_init_23 hw (fun h5 hx hw => ?_)
  refine R_keep (fun h' e => n_pR e) (fun hw kk => R_putRF hc pl_6_19 hnm rfl (rf_fits_a _ _ _).1 (rf_fits_a _ _ _).2 dX6_init_25 hw kk) hx hw (fun h6 hx hw => ?_)
  exact R_return hc hret hQ hw dX6_init_28
theorem nn_X6_init {F : Nat} {l0 : Nat} {h : HP} {h' : HP} (e : sX6_init F l0 h = some h') : h'.n = h.n + 3 := by
  unfold sX6_init at e
  obtain ⟨h1, e1, e⟩ := bd e
  have n_h1 := n_new e1
  obtain ⟨h2, e1, e⟩ := bd e
  have n_h2 := n_pR e1
  obtain ⟨h3, e1, e⟩ := bd e
  have n_h3 := n_new e1
  obtain ⟨h4, e1, e⟩ := bd e
  have n_h4 := n_pR e1
  obtain ⟨h5, e1, e⟩ := bd e
  have n_h5 := n_new e1
  obtain ⟨h6, e1, e⟩ := bd e
  have n_h6 := n_pR e1
  cases e
  omega
theorem dX9_init_0 : decode cX9_init 0 = .ok (.aload_n 0, 1) := by decide +kernel
theorem dX9_init_1 : decode cX9_init 1 = .ok (.invokespecial 3, 3) := by decide +kernel
theorem dX9_init_4 : decode cX9_init 4 = .ok (.aload_n 0, 1) := by decide +kernel
theorem dX9_init_5 : decode cX9_init 5 = .ok (.bipush 12, 2) := by decide +kernel
theorem dX9_init_7 : decode cX9_init 7 = .ok (.newarray .int, 2) := by decide +kernel
theorem dX9_init_9 : decode cX9_init 9 = .ok (.putfield 9, 3) := by decide +kernel
theorem dX9_init_12 : decode cX9_init 12 = .ok (.aload_n 0, 1) := by decide +kernel
theorem dX9_init_13 : decode cX9_init 13 = .ok (.bipush 12, 2) := by decide +kernel
theorem dX9_init_15 : decode cX9_init 15 = .ok (.newarray .int, 2) := by decide +kernel
theorem dX9_init_17 : decode cX9_init 17 = .ok (.putfield 15, 3) := by decide +kernel
theorem dX9_init_20 : decode cX9_init 20 = .ok (.aload_n 0, 1) := by decide +kernel
theorem dX9_init_21 : decode cX9_init 21 = .ok (.bipush 12, 2) := by decide +kernel
theorem dX9_init_23 : decode cX9_init 23 = .ok (.newarray .int, 2) := by decide +kernel
theorem dX9_init_25 : decode cX9_init 25 = .ok (.putfield 18, 3) := by decide +kernel
theorem dX9_init_28 : decode cX9_init 28 = .ok (.aload_n 0, 1) := by decide +kernel
theorem dX9_init_29 : decode cX9_init 29 = .ok (.bipush 12, 2) := by decide +kernel
theorem dX9_init_31 : decode cX9_init 31 = .ok (.newarray .int, 2) := by decide +kernel
theorem dX9_init_33 : decode cX9_init 33 = .ok (.putfield 21, 3) := by decide +kernel
theorem dX9_init_36 : decode cX9_init 36 = .ok (.aload_n 0, 1) := by decide +kernel
theorem dX9_init_37 : decode cX9_init 37 = .ok (.bipush 12, 2) := by decide +kernel
theorem dX9_init_39 : decode cX9_init 39 = .ok (.newarray .int, 2) := by decide +kernel
theorem dX9_init_41 : decode cX9_init 41 = .ok (.putfield 24, 3) := by decide +kernel
theorem dX9_init_44 : decode cX9_init 44 = .ok (.aload_n 0, 1) := by decide +kernel
theorem dX9_init_45 : decode cX9_init 45 = .ok (.bipush 12, 2) := by decide +kernel
theorem dX9_init_47 : decode cX9_init 47 = .ok (.newarray .int, 2) := by decide +kernel
theorem dX9_init_49 : decode cX9_init 49 = .ok (.putfield 27, 3) := by decide +kernel
theorem dX9_init_52 : decode cX9_init 52 = .ok (.aload_n 0, 1) := by decide +kernel
theorem dX9_init_53 : decode cX9_init 53 = .ok (.bipush 12, 2) := by decide +kernel
theorem dX9_init_55 : decode cX9_init 55 = .ok (.newarray .int, 2) := by decide +kernel
theorem dX9_init_57 : decode cX9_init 57 = .ok (.putfield 30, 3) := by decide +kernel
theorem dX9_init_60 : decode cX9_init 60 = .ok (.aload_n 0, 1) := by decide +kernel
theorem dX9_init_61 : decode cX9_init 61 = .ok (.bipush 24, 2) := by decide +kernel
theorem dX9_init_63 : decode cX9_init 63 = .ok (.newarray .int, 2) := by decide +kernel
theorem dX9_init_65 : decode cX9_init 65 = .ok (.putfield 33, 3) := by decide +kernel
theorem dX9_init_68 : decode cX9_init 68 = .ok (.aload_n 0, 1) := by decide +kernel
theorem dX9_init_69 : decode cX9_init 69 = .ok (.new 36, 3) := by decide +kernel
theorem dX9_init_72 : decode cX9_init 72 = .ok (.dup, 1) := by decide +kernel
theorem dX9_init_73 : decode cX9_init 73 = .ok (.invokespecial 38, 3) := by decide +kernel
theorem dX9_init_76 : decode cX9_init 76 = .ok (.putfield 39, 3) := by decide +kernel
theorem dX9_init_79 : decode cX9_init 79 = .ok (.return_, 1) := by decide +kernel
def sX9_init (F : Nat) (l0 : Nat) (h : HP) : Option HP :=
  (some (h.new 13 12)).bind fun h1 =>
  (pR h1 9 (some l0) 1 (some h.n)).bind fun h2 =>
  (some (h2.new 13 12)).bind fun h3 =>
  (pR h3 9 (some l0) 2 (some h2.n)).bind fun h4 =>
  (some (h4.new 13 12)).bind fun h5 =>
  (pR h5 9 (some l0) 3 (some h4.n)).bind fun h6 =>
  (some (h6.new 13 12)).bind fun h7 =>
  (pR h7 9 (some l0) 4 (some h6.n)).bind fun h8 =>
  (some (h8.new 13 12)).bind fun h9 =>
  (pR h9 9 (some l0) 5 (some h8.n)).bind fun h10 =>
  (some (h10.new 13 12)).bind fun h11 =>
  (pR h11 9 (some l0) 6 (some h10.n)).bind fun h12 =>
  (some (h12.new 13 12)).bind fun h13 =>
  (pR h13 9 (some l0) 7 (some h12.n)).bind fun h14 =>
  (some (h14.new 13 24)).bind fun h15 =>
  (pR h15 9 (some l0) 8 (some h14.n)).bind fun h16 =>
  (some (h16.new 6 4)).bind fun h17 =>
  (sX6_init F h16.n h17).bind fun h18 =>
  (pR h18 9 (some l0) 9 (some h16.n)).bind fun h19 =>
  some h19
abbrev rm_X9_init : Room := { frames := 2, cells := 12, slots := 188, locals := 36 }
set_option maxRecDepth 100000 in
set_option maxHeartbeats 4000000 in
theorem mt_X9_init {w : WD} {l : Launch} {F : Nat} {l0 : Nat} {h : HP} {h' : HP} (hs : sX9_init F l0 h = some h') : MX w l yX9_init cX9_init 1 rm_X9_init 12 188 [rf w (some l0)] h h' := by
  refine of_bodyX [(0, rf w (some l0))] (by decide) (by simp [lg_sl, rf_cat, cat_i, cat_l, cat_a]) (by simp [lv_args, rf_cat, cat_i, cat_l, cat_a]) ?_
  intro x hw_ hnL_ hl_ hc hret hnm hx hQ
  subst hw_; subst hl_
  have hx : x.s.heap.size + 0 = x.w.b + h.n := hx
  have hnl : ∀ i, i < 1 → i < x.nL := fun i h => by rw [hnL_]; exact h
  have hw : wpO (sX9_init F l0 h) (fun r => r = h') := ⟨_, hs, rfl⟩
  unfold sX9_init at hw
  refine R_aload_n (q := 0) (i := 0) (v := (some l0)) hc dX9_init_0 rfl rfl ?_
  refine R_objInit hc oi_9_3 oi_ins oi_code (le_b rfl) (le_b rfl) rfl dX9_init_1 ?_
  refine R_aload_n (q := 0) (i := 0) (v := (some l0)) hc dX9_init_4 rfl rfl ?_
  refine R_bipush (v := (12 : Int32)) hc dX9_init_5 kB_12 ?_
  refine R_newI (N := 12) hc hx (by decide) rfl (le_b rfl) ar_int (le_b rfl) (le_b rfl) dX9_init_7 hw (fun h1 hx hw => ?_)
  refine R_keep (fun h' e => n_pR e) (fun hw kk => R_putRF hc pl_9_9 hnm rfl (rf_fits_a _ _ _).1 (rf_fits_a _ _ _).2 dX9_init_9 hw kk) hx hw (fun h2 hx hw => ?_)
  refine R_aload_n (q := 0) (i := 0) (v := (some l0)) hc dX9_init_12 rfl rfl ?_
  refine R_bipush (v := (12 : Int32)) hc dX9_init_13 kB_12 ?_
  refine R_newI (N := 12) hc hx (by decide) rfl (le_b rfl) ar_int (le_b rfl) (le_b rfl) dX9_init_15 hw (fun h3 hx hw => ?_)
  refine R_keep (fun h' e => n_pR e) (fun hw kk => R_putRF hc pl_9_15 hnm rfl (rf_fits_a _ _ _).1 (rf_fits_a _ _ _).2 dX9_init_17 hw kk) hx hw (fun h4 hx hw => ?_)
  refine R_aload_n (q := 0) (i := 0) (v := (some l0)) hc dX9_init_20 rfl rfl ?_
  refine R_bipush (v := (12 : Int32)) hc dX9_init_21 kB_12 ?_
  refine R_newI (N := 12) hc hx (by decide) rfl (le_b rfl) ar_int (le_b rfl) (le_b rfl) dX9_init_23 hw (fun h5 hx hw => ?_)
  refine R_keep (fun h' e => n_pR e) (fun hw kk => R_putRF hc pl_9_18 hnm rfl (rf_fits_a _ _ _).1 (rf_fits_a _ _ _).2 dX9_init_25 hw kk) hx hw (fun h6 hx hw => ?_)
  refine R_aload_n (q := 0) (i := 0) (v := (some l0)) hc dX9_init_28 rfl rfl ?_
  refine R_bipush (v := (12 : Int32)) hc dX9_init_29 kB_12 ?_
  refine R_newI (N := 12) hc hx (by decide) rfl (le_b rfl) ar_int (le_b rfl) (le_b rfl) dX9_init_31 hw (fun h7 hx hw => ?_)
  refine R_keep (fun h' e => n_pR e) (fun hw kk => R_putRF hc pl_9_21 hnm rfl (rf_fits_a _ _ _).1 (rf_fits_a _ _ _).2 dX9_init_33 hw kk) hx hw (fun h8 hx hw => ?_)
  refine R_aload_n (q := 0) (i := 0) (v := (some l0)) hc dX9_init_36 rfl rfl ?_
  refine R_bipush (v := (12 : Int32)) hc dX9_init_37 kB_12 ?_
  refine R_newI (N := 12) hc hx (by decide) rfl (le_b rfl) ar_int (le_b rfl) (le_b rfl) dX9_init_39 hw (fun h9 hx hw => ?_)
  refine R_keep (fun h' e => n_pR e) (fun hw kk => R_putRF hc pl_9_24 hnm rfl (rf_fits_a _ _ _).1 (rf_fits_a _ _ _).2 dX9_init_41 hw kk) hx hw (fun h10 hx hw => ?_)
  refine R_aload_n (q := 0) (i := 0) (v := (some l0)) hc dX9_init_44 rfl rfl ?_
  refine R_bipush (v := (12 : Int32)) hc dX9_init_45 kB_12 ?_
  refine R_newI (N := 12) hc hx (by decide) rfl (le_b rfl) ar_int (le_b rfl) (le_b rfl) dX9_init_47 hw (fun h11 hx hw => ?_)
  refine R_keep (fun h' e => n_pR e) (fun hw kk => R_putRF hc pl_9_27 hnm rfl (rf_fits_a _ _ _).1 (rf_fits_a _ _ _).2 dX9_init_49 hw kk) hx hw (fun h12 hx hw => ?_)
  refine R_aload_n (q := 0) (i := 0) (v := (some l0)) hc dX9_init_52 rfl rfl ?_
  refine R_bipush (v := (12 : Int32)) hc dX9_init_53 kB_12 ?_
  refine R_newI (N := 12) hc hx (by decide) rfl (le_b rfl) ar_int (le_b rfl) (le_b rfl) dX9_init_55 hw (fun h13 hx hw => ?_)
  refine R_keep (fun h' e => n_pR e) (fun hw kk => R_putRF hc pl_9_30 hnm rfl (rf_fits_a _ _ _).1 (rf_fits_a _ _ _).2 dX9_init_57 hw kk) hx hw (fun h14 hx hw => ?_)
  refine R_aload_n (q := 0) (i := 0) (v := (some l0)) hc dX9_init_60 rfl rfl ?_
  refine R_bipush (v := (24 : Int32)) hc dX9_init_61 kB_24 ?_
  refine R_newI (N := 24) hc hx (by decide) rfl (le_b rfl) ar_int (le_b rfl) (le_b rfl) dX9_init_63 hw (fun h15 hx hw => ?_)
  refine R_keep (fun h' e => n_pR e) (fun hw kk => R_putRF hc pl_9_33 hnm rfl (rf_fits_a _ _ _).1 (rf_fits_a _ _ _).2 dX9_init_65 hw kk) hx hw (fun h16 hx hw => ?_)
  refine R_aload_n (q := 0) (i := 0) (v := (some l0)) hc dX9_init_68 rfl rfl ?_
  refine R_new hc hx tyX6 rfl cl_9_36 ins_6 ini_6 inT6 tyX6_ok (by decide) rfl (by decide) (le_b rfl) (le_b rfl) dX9_init_69 hw (fun h17 hx hw => ?_)
  refine R_dup hc dX9_init_72 (rf_cat _ _) ?_
  refine R_cIN (As := []) (rest := [rf x.w (some h16.n), rf x.w (some l0)]) (a := h16.n) hc hx mn_9_38 mf_X6_init ⟨rfl, rfl⟩ ⟨le_b rfl, le_b rfl⟩ ⟨le_b rfl, le_b rfl⟩ (fun h' e => mt_X6_init e) (fun h' e => nn_X6_init e) rfl rfl (le_b rfl) dX9_init_73 hw (fun h18 hx hw => ?_)
  refine R_keep (fun h' e => n_pR e) (fun hw kk => R_putRF hc pl_9_39 hnm rfl (rf_fits_o _ _ _).1 (rf_fits_o _ _ _).2 dX9_init_76 hw kk) hx hw (fun h19 hx hw => ?_)
  exact R_return hc hret hQ hw dX9_init_79
theorem nn_X9_init {F : Nat} {l0 : Nat} {h : HP} {h' : HP} (e : sX9_init F l0 h = some h') : h'.n = h.n + 12 := by
  unfold sX9_init at e
  obtain ⟨h1, e1, e⟩ := bd e
  have n_h1 := n_new e1
  obtain ⟨h2, e1, e⟩ := bd e
  have n_h2 := n_pR e1
  obtain ⟨h3, e1, e⟩ := bd e
  have n_h3 := n_new e1
  obtain ⟨h4, e1, e⟩ := bd e
  have n_h4 := n_pR e1
  obtain ⟨h5, e1, e⟩ := bd e
  have n_h5 := n_new e1
  obtain ⟨h6, e1, e⟩ := bd e
  have n_h6 := n_pR e1
  obtain ⟨h7, e1, e⟩ := bd e
  have n_h7 := n_new e1
  obtain ⟨h8, e1, e⟩ := bd e
  have n_h8 := n_pR e1
  obtain ⟨h9, e1, e⟩ := bd e
  have n_h9 := n_new e1
  obtain ⟨h10, e1, e⟩ := bd e
  have n_h10 := n_pR e1
  obtain ⟨h11, e1, e⟩ := bd e
  have n_h11 := n_new e1
  obtain ⟨h12, e1, e⟩ := bd e
  have n_h12 := n_pR e1
  obtain ⟨h13, e1, e⟩ := bd e
  have n_h13 := n_new e1
  obtain ⟨h14, e1, e⟩ := bd e
  have n_h14 := n_pR e1
  obtain ⟨h15, e1, e⟩ := bd e
  have n_h15 := n_new e1
  obtain ⟨h16, e1, e⟩ := bd e
  have n_h16 := n_pR e1
  obtain ⟨h17, e1, e⟩ := bd e
  have n_h17 := n_new e1
  obtain ⟨h18, e1, e⟩ := bd e
  have n_h18 := nn_X6_init e1
  obtain ⟨h19, e1, e⟩ := bd e
  have n_h19 := n_pR e1
  cases e
  omega
theorem dX0_init_0 : decode cX0_init 0 = .ok (.aload_n 0, 1) := by decide +kernel
theorem dX0_init_1 : decode cX0_init 1 = .ok (.invokespecial 3, 3) := by decide +kernel
theorem dX0_init_4 : decode cX0_init 4 = .ok (.aload_n 0, 1) := by decide +kernel
theorem dX0_init_5 : decode cX0_init 5 = .ok (.iconst 4, 1) := by decide +kernel
theorem dX0_init_6 : decode cX0_init 6 = .ok (.newarray .int, 2) := by decide +kernel
theorem dX0_init_8 : decode cX0_init 8 = .ok (.putfield 11, 3) := by decide +kernel
theorem dX0_init_11 : decode cX0_init 11 = .ok (.return_, 1) := by decide +kernel
def sX0_init (F : Nat) (l0 : Nat) (h : HP) : Option HP :=
  (some (h.new 13 4)).bind fun h1 =>
  (pR h1 0 (some l0) 0 (some h.n)).bind fun h2 =>
  some h2
abbrev rm_X0_init : Room := { frames := 1, cells := 1, slots := 4, locals := 16 }
set_option maxRecDepth 100000 in
set_option maxHeartbeats 4000000 in
theorem mt_X0_init {w : WD} {l : Launch} {F : Nat} {l0 : Nat} {h : HP} {h' : HP} (hs : sX0_init F l0 h = some h') : MX w l yX0_init cX0_init 1 rm_X0_init 1 4 [rf w (some l0)] h h' := by
  refine of_bodyX [(0, rf w (some l0))] (by decide) (by simp [lg_sl, rf_cat, cat_i, cat_l, cat_a]) (by simp [lv_args, rf_cat, cat_i, cat_l, cat_a]) ?_
  intro x hw_ hnL_ hl_ hc hret hnm hx hQ
  subst hw_; subst hl_
  have hx : x.s.heap.size + 0 = x.w.b + h.n := hx
  have hnl : ∀ i, i < 1 → i < x.nL := fun i h => by rw [hnL_]; exact h
  have hw : wpO (sX0_init F l0 h) (fun r => r = h') := ⟨_, hs, rfl⟩
  unfold sX0_init at hw
  refine R_aload_n (q := 0) (i := 0) (v := (some l0)) hc dX0_init_0 rfl rfl ?_
  refine R_objInit hc oi_0_3 oi_ins oi_code (le_b rfl) (le_b rfl) rfl dX0_init_1 ?_
  refine R_aload_n (q := 0) (i := 0) (v := (some l0)) hc dX0_init_4 rfl rfl ?_
  refine R_iconst (v := (4 : Int32)) hc dX0_init_5 kI_4 ?_
  refine R_newI (N := 4) hc hx (by decide) rfl (le_b rfl) ar_int (le_b rfl) (le_b rfl) dX0_init_6 hw (fun h1 hx hw => ?_)
  refine R_keep (fun h' e => n_pR e) (fun hw kk => R_putRF hc pl_0_11 hnm rfl (rf_fits_a _ _ _).1 (rf_fits_a _ _ _).2 dX0_init_8 hw kk) hx hw (fun h2 hx hw => ?_)
  exact R_return hc hret hQ hw dX0_init_11
theorem nn_X0_init {F : Nat} {l0 : Nat} {h : HP} {h' : HP} (e : sX0_init F l0 h = some h') : h'.n = h.n + 1 := by
  unfold sX0_init at e
  obtain ⟨h1, e1, e⟩ := bd e
  have n_h1 := n_new e1
  obtain ⟨h2, e1, e⟩ := bd e
  have n_h2 := n_pR e1
  cases e
  omega
theorem dX10_init_0 : decode cX10_init 0 = .ok (.aload_n 0, 1) := by decide +kernel
theorem dX10_init_1 : decode cX10_init 1 = .ok (.invokespecial 1, 3) := by decide +kernel
theorem dX10_init_4 : decode cX10_init 4 = .ok (.sipush 8192, 3) := by decide +kernel
theorem dX10_init_7 : decode cX10_init 7 = .ok (.newarray .int, 2) := by decide +kernel
theorem dX10_init_9 : decode cX10_init 9 = .ok (.astore_n 1, 1) := by decide +kernel
theorem dX10_init_10 : decode cX10_init 10 = .ok (.aload_n 0, 1) := by decide +kernel
theorem dX10_init_11 : decode cX10_init 11 = .ok (.new 9, 3) := by decide +kernel
theorem dX10_init_14 : decode cX10_init 14 = .ok (.dup, 1) := by decide +kernel
theorem dX10_init_15 : decode cX10_init 15 = .ok (.invokespecial 11, 3) := by decide +kernel
theorem dX10_init_18 : decode cX10_init 18 = .ok (.putfield 12, 3) := by decide +kernel
theorem dX10_init_21 : decode cX10_init 21 = .ok (.aload_n 0, 1) := by decide +kernel
theorem dX10_init_22 : decode cX10_init 22 = .ok (.new 16, 3) := by decide +kernel
theorem dX10_init_25 : decode cX10_init 25 = .ok (.dup, 1) := by decide +kernel
theorem dX10_init_26 : decode cX10_init 26 = .ok (.aload_n 1, 1) := by decide +kernel
theorem dX10_init_27 : decode cX10_init 27 = .ok (.invokespecial 18, 3) := by decide +kernel
theorem dX10_init_30 : decode cX10_init 30 = .ok (.putfield 21, 3) := by decide +kernel
theorem dX10_init_33 : decode cX10_init 33 = .ok (.aload_n 0, 1) := by decide +kernel
theorem dX10_init_34 : decode cX10_init 34 = .ok (.new 16, 3) := by decide +kernel
theorem dX10_init_37 : decode cX10_init 37 = .ok (.dup, 1) := by decide +kernel
theorem dX10_init_38 : decode cX10_init 38 = .ok (.aload_n 1, 1) := by decide +kernel
theorem dX10_init_39 : decode cX10_init 39 = .ok (.invokespecial 18, 3) := by decide +kernel
theorem dX10_init_42 : decode cX10_init 42 = .ok (.putfield 25, 3) := by decide +kernel
theorem dX10_init_45 : decode cX10_init 45 = .ok (.aload_n 0, 1) := by decide +kernel
theorem dX10_init_46 : decode cX10_init 46 = .ok (.new 28, 3) := by decide +kernel
theorem dX10_init_49 : decode cX10_init 49 = .ok (.dup, 1) := by decide +kernel
theorem dX10_init_50 : decode cX10_init 50 = .ok (.invokespecial 30, 3) := by decide +kernel
theorem dX10_init_53 : decode cX10_init 53 = .ok (.putfield 31, 3) := by decide +kernel
theorem dX10_init_56 : decode cX10_init 56 = .ok (.aload_n 0, 1) := by decide +kernel
theorem dX10_init_57 : decode cX10_init 57 = .ok (.new 28, 3) := by decide +kernel
theorem dX10_init_60 : decode cX10_init 60 = .ok (.dup, 1) := by decide +kernel
theorem dX10_init_61 : decode cX10_init 61 = .ok (.invokespecial 30, 3) := by decide +kernel
theorem dX10_init_64 : decode cX10_init 64 = .ok (.putfield 35, 3) := by decide +kernel
theorem dX10_init_67 : decode cX10_init 67 = .ok (.aload_n 0, 1) := by decide +kernel
theorem dX10_init_68 : decode cX10_init 68 = .ok (.new 38, 3) := by decide +kernel
theorem dX10_init_71 : decode cX10_init 71 = .ok (.dup, 1) := by decide +kernel
theorem dX10_init_72 : decode cX10_init 72 = .ok (.invokespecial 40, 3) := by decide +kernel
theorem dX10_init_75 : decode cX10_init 75 = .ok (.putfield 41, 3) := by decide +kernel
theorem dX10_init_78 : decode cX10_init 78 = .ok (.aload_n 0, 1) := by decide +kernel
theorem dX10_init_79 : decode cX10_init 79 = .ok (.new 45, 3) := by decide +kernel
theorem dX10_init_82 : decode cX10_init 82 = .ok (.dup, 1) := by decide +kernel
theorem dX10_init_83 : decode cX10_init 83 = .ok (.invokespecial 47, 3) := by decide +kernel
theorem dX10_init_86 : decode cX10_init 86 = .ok (.putfield 48, 3) := by decide +kernel
theorem dX10_init_89 : decode cX10_init 89 = .ok (.aload_n 0, 1) := by decide +kernel
theorem dX10_init_90 : decode cX10_init 90 = .ok (.new 52, 3) := by decide +kernel
theorem dX10_init_93 : decode cX10_init 93 = .ok (.dup, 1) := by decide +kernel
theorem dX10_init_94 : decode cX10_init 94 = .ok (.invokespecial 54, 3) := by decide +kernel
theorem dX10_init_97 : decode cX10_init 97 = .ok (.putfield 55, 3) := by decide +kernel
theorem dX10_init_100 : decode cX10_init 100 = .ok (.aload_n 0, 1) := by decide +kernel
theorem dX10_init_101 : decode cX10_init 101 = .ok (.new 28, 3) := by decide +kernel
theorem dX10_init_104 : decode cX10_init 104 = .ok (.dup, 1) := by decide +kernel
theorem dX10_init_105 : decode cX10_init 105 = .ok (.invokespecial 30, 3) := by decide +kernel
theorem dX10_init_108 : decode cX10_init 108 = .ok (.putfield 59, 3) := by decide +kernel
theorem dX10_init_111 : decode cX10_init 111 = .ok (.aload_n 0, 1) := by decide +kernel
theorem dX10_init_112 : decode cX10_init 112 = .ok (.new 45, 3) := by decide +kernel
theorem dX10_init_115 : decode cX10_init 115 = .ok (.dup, 1) := by decide +kernel
theorem dX10_init_116 : decode cX10_init 116 = .ok (.invokespecial 47, 3) := by decide +kernel
theorem dX10_init_119 : decode cX10_init 119 = .ok (.putfield 62, 3) := by decide +kernel
theorem dX10_init_122 : decode cX10_init 122 = .ok (.aload_n 0, 1) := by decide +kernel
theorem dX10_init_123 : decode cX10_init 123 = .ok (.new 52, 3) := by decide +kernel
theorem dX10_init_126 : decode cX10_init 126 = .ok (.dup, 1) := by decide +kernel
theorem dX10_init_127 : decode cX10_init 127 = .ok (.invokespecial 54, 3) := by decide +kernel
theorem dX10_init_130 : decode cX10_init 130 = .ok (.putfield 65, 3) := by decide +kernel
theorem dX10_init_133 : decode cX10_init 133 = .ok (.aload_n 0, 1) := by decide +kernel
theorem dX10_init_134 : decode cX10_init 134 = .ok (.new 68, 3) := by decide +kernel
theorem dX10_init_137 : decode cX10_init 137 = .ok (.dup, 1) := by decide +kernel
theorem dX10_init_138 : decode cX10_init 138 = .ok (.invokespecial 70, 3) := by decide +kernel
theorem dX10_init_141 : decode cX10_init 141 = .ok (.putfield 71, 3) := by decide +kernel
theorem dX10_init_144 : decode cX10_init 144 = .ok (.aload_n 0, 1) := by decide +kernel
theorem dX10_init_145 : decode cX10_init 145 = .ok (.aload_n 0, 1) := by decide +kernel
theorem dX10_init_146 : decode cX10_init 146 = .ok (.getfield 21, 3) := by decide +kernel
theorem dX10_init_149 : decode cX10_init 149 = .ok (.putfield 75, 3) := by decide +kernel
theorem dX10_init_152 : decode cX10_init 152 = .ok (.aload_n 0, 1) := by decide +kernel
theorem dX10_init_153 : decode cX10_init 153 = .ok (.aconst_null, 1) := by decide +kernel
theorem dX10_init_154 : decode cX10_init 154 = .ok (.putfield 78, 3) := by decide +kernel
theorem dX10_init_157 : decode cX10_init 157 = .ok (.aload_n 0, 1) := by decide +kernel
theorem dX10_init_158 : decode cX10_init 158 = .ok (.new 81, 3) := by decide +kernel
theorem dX10_init_161 : decode cX10_init 161 = .ok (.dup, 1) := by decide +kernel
theorem dX10_init_162 : decode cX10_init 162 = .ok (.invokespecial 83, 3) := by decide +kernel
theorem dX10_init_165 : decode cX10_init 165 = .ok (.putfield 84, 3) := by decide +kernel
theorem dX10_init_168 : decode cX10_init 168 = .ok (.aload_n 0, 1) := by decide +kernel
theorem dX10_init_169 : decode cX10_init 169 = .ok (.getfield 75, 3) := by decide +kernel
theorem dX10_init_172 : decode cX10_init 172 = .ok (.invokevirtual 88, 3) := by decide +kernel
theorem dX10_init_175 : decode cX10_init 175 = .ok (.aload_n 0, 1) := by decide +kernel
theorem dX10_init_176 : decode cX10_init 176 = .ok (.invokevirtual 91, 3) := by decide +kernel
theorem dX10_init_179 : decode cX10_init 179 = .ok (.return_, 1) := by decide +kernel
def sX10_init (F : Nat) (l0 : Nat) (h : HP) : Option HP :=
  (some (h.new 13 8192)).bind fun h1 =>
  (some (h1.new 8 5)).bind fun h2 =>
  (sX8_init F h1.n h2).bind fun h3 =>
  (pR h3 10 (some l0) 0 (some h1.n)).bind fun h4 =>
  (some (h4.new 4 7)).bind fun h5 =>
  (sX4_init F h4.n (some h.n) h5).bind fun h6 =>
  (pR h6 10 (some l0) 1 (some h4.n)).bind fun h7 =>
  (some (h7.new 4 7)).bind fun h8 =>
  (sX4_init F h7.n (some h.n) h8).bind fun h9 =>
  (pR h9 10 (some l0) 2 (some h7.n)).bind fun h10 =>
  (some (h10.new 7 2)).bind fun h11 =>
  (sX7_init F h10.n h11).bind fun h12 =>
  (pR h12 10 (some l0) 3 (some h10.n)).bind fun h13 =>
  (some (h13.new 7 2)).bind fun h14 =>
  (sX7_init F h13.n h14).bind fun h15 =>
  (pR h15 10 (some l0) 4 (some h13.n)).bind fun h16 =>
  (some (h16.new 5 3)).bind fun h17 =>
  (sX5_init F h16.n h17).bind fun h18 =>
  (pR h18 10 (some l0) 5 (some h16.n)).bind fun h19 =>
  (some (h19.new 2 7)).bind fun h20 =>
  (sX2_init F h19.n h20).bind fun h21 =>
  (pR h21 10 (some l0) 6 (some h19.n)).bind fun h22 =>
  (some (h22.new 9 10)).bind fun h23 =>
  (sX9_init F h22.n h23).bind fun h24 =>
  (pR h24 10 (some l0) 7 (some h22.n)).bind fun h25 =>
  (some (h25.new 7 2)).bind fun h26 =>
  (sX7_init F h25.n h26).bind fun h27 =>
  (pR h27 10 (some l0) 8 (some h25.n)).bind fun h28 =>
  (some (h28.new 2 7)).bind fun h29 =>
  (sX2_init F h28.n h29).bind fun h30 =>
  (pR h30 10 (some l0) 9 (some h28.n)).bind fun h31 =>
  (some (h31.new 9 10)).bind fun h32 =>
  (sX9_init F h31.n h32).bind fun h33 =>
  (pR h33 10 (some l0) 10 (some h31.n)).bind fun h34 =>
  (some (h34.new 0 1)).bind fun h35 =>
  (sX0_init F h34.n h35).bind fun h36 =>
  (pR h36 10 (some l0) 11 (some h34.n)).bind fun h37 =>
  (gR h37 10 (some l0) 1).bind fun t38 =>
  (pR h37 10 (some l0) 12 t38).bind fun h39 =>
  (pR h39 10 (some l0) 13 none).bind fun h40 =>
  (some (h40.new 1 12)).bind fun h41 =>
  (sX1_init F h40.n h41).bind fun h42 =>
  (pR h42 10 (some l0) 14 (some h40.n)).bind fun h43 =>
  (gR h43 10 (some l0) 12).bind fun t44 =>
  (dO h43 4 t44).bind fun a45 =>
  (sX4_prepare F a45 h43).bind fun h46 =>
  (dO h46 10 (some l0)).bind fun a47 =>
  (sX10_redraw F a47 h46).bind fun h48 =>
  some h48
abbrev rm_X10_init : Room := { frames := 6, cells := 107, slots := 30321, locals := 150 }
set_option maxRecDepth 100000 in
set_option maxHeartbeats 4000000 in
theorem mt_X10_init {w : WD} {l : Launch} {F : Nat} {l0 : Nat} {h : HP} {h' : HP} (hs : sX10_init F l0 h = some h') : MX w l yX10_init cX10_init 2 rm_X10_init 107 30321 [rf w (some l0)] h h' := by
  refine of_bodyX [(0, rf w (some l0))] (by decide) (by simp [lg_sl, rf_cat, cat_i, cat_l, cat_a]) (by simp [lv_args, rf_cat, cat_i, cat_l, cat_a]) ?_
  intro x hw_ hnL_ hl_ hc hret hnm hx hQ
  subst hw_; subst hl_
  have hx : x.s.heap.size + 0 = x.w.b + h.n := hx
  have hnl : ∀ i, i < 2 → i < x.nL := fun i h => by rw [hnL_]; exact h
  have hw : wpO (sX10_init F l0 h) (fun r => r = h') := ⟨_, hs, rfl⟩
  unfold sX10_init at hw
  refine R_aload_n (q := 0) (i := 0) (v := (some l0)) hc dX10_init_0 rfl rfl ?_
  refine R_objInit hc oi_10_1 oi_ins oi_code (le_b rfl) (le_b rfl) rfl dX10_init_1 ?_
  refine R_sipush (v := (8192 : Int32)) hc dX10_init_4 kS_8192 ?_
  refine R_newI (N := 8192) hc hx (by decide) rfl (le_b rfl) ar_int (le_b rfl) (le_b rfl) dX10_init_7 hw (fun h1 hx hw => ?_)
  refine R_astore_n (i := 1) (v := (some h.n)) hc [(1, rf x.w (some h.n)), (0, rf x.w (some l0))] dX10_init_9 rfl (hnl 1 (le_b rfl)) rfl ?_
  refine R_aload_n (q := 1) (i := 0) (v := (some l0)) hc dX10_init_10 rfl rfl ?_
  refine R_new hc hx tyX8 rfl cl_10_9 ins_8 ini_8 inT8 tyX8_ok (by decide) rfl (by decide) (le_b rfl) (le_b rfl) dX10_init_11 hw (fun h2 hx hw => ?_)
  refine R_dup hc dX10_init_14 (rf_cat _ _) ?_
  refine R_cIN (As := []) (rest := [rf x.w (some h1.n), rf x.w (some l0)]) (a := h1.n) hc hx mn_10_11 mf_X8_init ⟨rfl, rfl⟩ ⟨le_b rfl, le_b rfl⟩ ⟨le_b rfl, le_b rfl⟩ (fun h' e => mt_X8_init e) (fun h' e => nn_X8_init e) rfl rfl (le_b rfl) dX10_init_15 hw (fun h3 hx hw => ?_)
  refine R_keep (fun h' e => n_pR e) (fun hw kk => R_putRF hc pl_10_12 hnm rfl (rf_fits_o _ _ _).1 (rf_fits_o _ _ _).2 dX10_init_18 hw kk) hx hw (fun h4 hx hw => ?_)
  refine R_aload_n (q := 1) (i := 0) (v := (some l0)) hc dX10_init_21 rfl rfl ?_
  refine R_new hc hx tyX4 rfl cl_10_16 ins_4 ini_4 inT4 tyX4_ok (by decide) rfl (by decide) (le_b rfl) (le_b rfl) dX10_init_22 hw (fun h5 hx hw => ?_)
  refine R_dup hc dX10_init_25 (rf_cat _ _) ?_
  refine R_aload_n (q := 0) (i := 1) (v := (some h.n)) hc dX10_init_26 rfl rfl ?_
  refine R_cI (As := [rf x.w (some h.n)]) (rest := [rf x.w (some h4.n), rf x.w (some l0)]) (a := h4.n) hc hx ml_10_18 mf_X4_init ⟨rfl, rfl⟩ ⟨le_b rfl, le_b rfl⟩ ⟨le_b rfl, le_b rfl⟩ (fun h' e => mt_X4_init e) (fun h' e => nn_X4_init e) rfl rfl (le_b rfl) dX10_init_27 hw (fun h6 hx hw => ?_)
  refine R_keep (fun h' e => n_pR e) (fun hw kk => R_putRF hc pl_10_21 hnm rfl (rf_fits_o _ _ _).1 (rf_fits_o _ _ _).2 dX10_init_30 hw kk) hx hw (fun h7 hx hw => ?_)
  refine R_aload_n (q := 1) (i := 0) (v := (some l0)) hc dX10_init_33 rfl rfl ?_
  refine R_new hc hx tyX4 rfl cl_10_16 ins_4 ini_4 inT4 tyX4_ok (by decide) rfl (by decide) (le_b rfl) (le_b rfl) dX10_init_34 hw (fun h8 hx hw => ?_)
  refine R_dup hc dX10_init_37 (rf_cat _ _) ?_
  refine R_aload_n (q := 0) (i := 1) (v := (some h.n)) hc dX10_init_38 rfl rfl ?_
  refine R_cI (As := [rf x.w (some h.n)]) (rest := [rf x.w (some h7.n), rf x.w (some l0)]) (a := h7.n) hc hx ml_10_18 mf_X4_init ⟨rfl, rfl⟩ ⟨le_b rfl, le_b rfl⟩ ⟨le_b rfl, le_b rfl⟩ (fun h' e => mt_X4_init e) (fun h' e => nn_X4_init e) rfl rfl (le_b rfl) dX10_init_39 hw (fun h9 hx hw => ?_)
  refine R_keep (fun h' e => n_pR e) (fun hw kk => R_putRF hc pl_10_25 hnm rfl (rf_fits_o _ _ _).1 (rf_fits_o _ _ _).2 dX10_init_42 hw kk) hx hw (fun h10 hx hw => ?_)
  refine R_aload_n (q := 1) (i := 0) (v := (some l0)) hc dX10_init_45 rfl rfl ?_
  refine R_new hc hx tyX7 rfl cl_10_28 ins_7 ini_7 inT7 tyX7_ok (by decide) rfl (by decide) (le_b rfl) (le_b rfl) dX10_init_46 hw (fun h11 hx hw => ?_)
  refine R_dup hc dX10_init_49 (rf_cat _ _) ?_
  refine R_cIN (As := []) (rest := [rf x.w (some h10.n), rf x.w (some l0)]) (a := h10.n) hc hx mn_10_30 mf_X7_init ⟨rfl, rfl⟩ ⟨le_b rfl, le_b rfl⟩ ⟨le_b rfl, le_b rfl⟩ (fun h' e => mt_X7_init e) (fun h' e => nn_X7_init e) rfl rfl (le_b rfl) dX10_init_50 hw (fun h12 hx hw => ?_)
  refine R_keep (fun h' e => n_pR e) (fun hw kk => R_putRF hc pl_10_31 hnm rfl (rf_fits_o _ _ _).1 (rf_fits_o _ _ _).2 dX10_init_53 hw kk) hx hw (fun h13 hx hw => ?_)
  refine R_aload_n (q := 1) (i := 0) (v := (some l0)) hc dX10_init_56 rfl rfl ?_
  refine R_new hc hx tyX7 rfl cl_10_28 ins_7 ini_7 inT7 tyX7_ok (by decide) rfl (by decide) (le_b rfl) (le_b rfl) dX10_init_57 hw (fun h14 hx hw => ?_)
  refine R_dup hc dX10_init_60 (rf_cat _ _) ?_
  refine R_cIN (As := []) (rest := [rf x.w (some h13.n), rf x.w (some l0)]) (a := h13.n) hc hx mn_10_30 mf_X7_init ⟨rfl, rfl⟩ ⟨le_b rfl, le_b rfl⟩ ⟨le_b rfl, le_b rfl⟩ (fun h' e => mt_X7_init e) (fun h' e => nn_X7_init e) rfl rfl (le_b rfl) dX10_init_61 hw (fun h15 hx hw => ?_)
  refine R_keep (fun h' e => n_pR e) (fun hw kk => R_putRF hc pl_10_35 hnm rfl (rf_fits_o _ _ _).1 (rf_fits_o _ _ _).2 dX10_init_64 hw kk) hx hw (fun h16 hx hw => ?_)
  refine R_aload_n (q := 1) (i := 0) (v := (some l0)) hc dX10_init_67 rfl rfl ?_
  refine R_new hc hx tyX5 rfl cl_10_38 ins_5 ini_5 inT5 tyX5_ok (by decide) rfl (by decide) (le_b rfl) (le_b rfl) dX10_init_68 hw (fun h17 hx hw => ?_)
  refine R_dup hc dX10_init_71 (rf_cat _ _) ?_
  refine R_cI (As := []) (rest := [rf x.w (some h16.n), rf x.w (some l0)]) (a := h16.n) hc hx ml_10_40 mf_X5_init ⟨rfl, rfl⟩ ⟨le_b rfl, le_b rfl⟩ ⟨le_b rfl, le_b rfl⟩ (fun h' e => mt_X5_init e) (fun h' e => nn_X5_init e) rfl rfl (le_b rfl) dX10_init_72 hw (fun h18 hx hw => ?_)
  refine R_keep (fun h' e => n_pR e) (fun hw kk => R_putRF hc pl_10_41 hnm rfl (rf_fits_o _ _ _).1 (rf_fits_o _ _ _).2 dX10_init_75 hw kk) hx hw (fun h19 hx hw => ?_)
  refine R_aload_n (q := 1) (i := 0) (v := (some l0)) hc dX10_init_78 rfl rfl ?_
  refine R_new hc hx tyX2 rfl cl_10_45 ins_2 ini_2 inT2 tyX2_ok (by decide) rfl (by decide) (le_b rfl) (le_b rfl) dX10_init_79 hw (fun h20 hx hw => ?_)
  refine R_dup hc dX10_init_82 (rf_cat _ _) ?_
  refine R_cIN (As := []) (rest := [rf x.w (some h19.n), rf x.w (some l0)]) (a := h19.n) hc hx mn_10_47 mf_X2_init ⟨rfl, rfl⟩ ⟨le_b rfl, le_b rfl⟩ ⟨le_b rfl, le_b rfl⟩ (fun h' e => mt_X2_init e) (fun h' e => nn_X2_init e) rfl rfl (le_b rfl) dX10_init_83 hw (fun h21 hx hw => ?_)
  refine R_keep (fun h' e => n_pR e) (fun hw kk => R_putRF hc pl_10_48 hnm rfl (rf_fits_o _ _ _).1 (rf_fits_o _ _ _).2 dX10_init_86 hw kk) hx hw (fun h22 hx hw => ?_)
  refine R_aload_n (q := 1) (i := 0) (v := (some l0)) hc dX10_init_89 rfl rfl ?_
  refine R_new hc hx tyX9 rfl cl_10_52 ins_9 ini_9 inT9 tyX9_ok (by decide) rfl (by decide) (le_b rfl) (le_b rfl) dX10_init_90 hw (fun h23 hx hw => ?_)
  refine R_dup hc dX10_init_93 (rf_cat _ _) ?_
  refine R_cIN (As := []) (rest := [rf x.w (some h22.n), rf x.w (some l0)]) (a := h22.n) hc hx mn_10_54 mf_X9_init ⟨rfl, rfl⟩ ⟨le_b rfl, le_b rfl⟩ ⟨le_b rfl, le_b rfl⟩ (fun h' e => mt_X9_init e) (fun h' e => nn_X9_init e) rfl rfl (le_b rfl) dX10_init_94 hw (fun h24 hx hw => ?_)
  refine R_keep (fun h' e => n_pR e) (fun hw kk => R_putRF hc pl_10_55 hnm rfl (rf_fits_o _ _ _).1 (rf_fits_o _ _ _).2 dX10_init_97 hw kk) hx hw (fun h25 hx hw => ?_)
  refine R_aload_n (q := 1) (i := 0) (v := (some l0)) hc dX10_init_100 rfl rfl ?_
  refine R_new hc hx tyX7 rfl cl_10_28 ins_7 ini_7 inT7 tyX7_ok (by decide) rfl (by decide) (le_b rfl) (le_b rfl) dX10_init_101 hw (fun h26 hx hw => ?_)
  refine R_dup hc dX10_init_104 (rf_cat _ _) ?_
  refine R_cIN (As := []) (rest := [rf x.w (some h25.n), rf x.w (some l0)]) (a := h25.n) hc hx mn_10_30 mf_X7_init ⟨rfl, rfl⟩ ⟨le_b rfl, le_b rfl⟩ ⟨le_b rfl, le_b rfl⟩ (fun h' e => mt_X7_init e) (fun h' e => nn_X7_init e) rfl rfl (le_b rfl) dX10_init_105 hw (fun h27 hx hw => ?_)
  refine R_keep (fun h' e => n_pR e) (fun hw kk => R_putRF hc pl_10_59 hnm rfl (rf_fits_o _ _ _).1 (rf_fits_o _ _ _).2 dX10_init_108 hw kk) hx hw (fun h28 hx hw => ?_)
  refine R_aload_n (q := 1) (i := 0) (v := (some l0)) hc dX10_init_111 rfl rfl ?_
  refine R_new hc hx tyX2 rfl cl_10_45 ins_2 ini_2 inT2 tyX2_ok (by decide) rfl (by decide) (le_b rfl) (le_b rfl) dX10_init_112 hw (fun h29 hx hw => ?_)
  refine R_dup hc dX10_init_115 (rf_cat _ _) ?_
  refine R_cIN (As := []) (rest := [rf x.w (some h28.n), rf x.w (some l0)]) (a := h28.n) hc hx mn_10_47 mf_X2_init ⟨rfl, rfl⟩ ⟨le_b rfl, le_b rfl⟩ ⟨le_b rfl, le_b rfl⟩ (fun h' e => mt_X2_init e) (fun h' e => nn_X2_init e) rfl rfl (le_b rfl) dX10_init_116 hw (fun h30 hx hw => ?_)
  refine R_keep (fun h' e => n_pR e) (fun hw kk => R_putRF hc pl_10_62 hnm rfl (rf_fits_o _ _ _).1 (rf_fits_o _ _ _).2 dX10_init_119 hw kk) hx hw (fun h31 hx hw => ?_)
  refine R_aload_n (q := 1) (i := 0) (v := (some l0)) hc dX10_init_122 rfl rfl ?_
  refine R_new hc hx tyX9 rfl cl_10_52 ins_9 ini_9 inT9 tyX9_ok (by decide) rfl (by decide) (le_b rfl) (le_b rfl) dX10_init_123 hw (fun h32 hx hw => ?_)
  refine R_dup hc dX10_init_126 (rf_cat _ _) ?_
  refine R_cIN (As := []) (rest := [rf x.w (some h31.n), rf x.w (some l0)]) (a := h31.n) hc hx mn_10_54 mf_X9_init ⟨rfl, rfl⟩ ⟨le_b rfl, le_b rfl⟩ ⟨le_b rfl, le_b rfl⟩ (fun h' e => mt_X9_init e) (fun h' e => nn_X9_init e) rfl rfl (le_b rfl) dX10_init_127 hw (fun h33 hx hw => ?_)
  refine R_keep (fun h' e => n_pR e) (fun hw kk => R_putRF hc pl_10_65 hnm rfl (rf_fits_o _ _ _).1 (rf_fits_o _ _ _).2 dX10_init_130 hw kk) hx hw (fun h34 hx hw => ?_)
  refine R_aload_n (q := 1) (i := 0) (v := (some l0)) hc dX10_init_133 rfl rfl ?_
  refine R_new hc hx tyX0 rfl cl_10_68 ins_0 ini_0 inT0 tyX0_ok (by decide) rfl (by decide) (le_b rfl) (le_b rfl) dX10_init_134 hw (fun h35 hx hw => ?_)
  refine R_dup hc dX10_init_137 (rf_cat _ _) ?_
  refine R_cIN (As := []) (rest := [rf x.w (some h34.n), rf x.w (some l0)]) (a := h34.n) hc hx mn_10_70 mf_X0_init ⟨rfl, rfl⟩ ⟨le_b rfl, le_b rfl⟩ ⟨le_b rfl, le_b rfl⟩ (fun h' e => mt_X0_init e) (fun h' e => nn_X0_init e) rfl rfl (le_b rfl) dX10_init_138 hw (fun h36 hx hw => ?_)
  refine R_keep (fun h' e => n_pR e) (fun hw kk => R_putRF hc pl_10_71 hnm rfl (rf_fits_o _ _ _).1 (rf_fits_o _ _ _).2 dX10_init_141 hw kk) hx hw (fun h37 hx hw => ?_)
  refine R_aload_n (q := 1) (i := 0) (v := (some l0)) hc dX10_init_144 rfl rfl ?_
  refine R_aload_n (q := 1) (i := 0) (v := (some l0)) hc dX10_init_145 rfl rfl ?_
  refine R_getR hc fl_10_21 dX10_init_146 hw (fun t38 hw => ?_)
  refine R_keep (fun h' e => n_pR e) (fun hw kk => R_putR hc pl_10_75 (rf_fits_o _ _ _).1 (rf_fits_o _ _ _).2 dX10_init_149 hw kk) hx hw (fun h39 hx hw => ?_)
  refine R_aload_n (q := 1) (i := 0) (v := (some l0)) hc dX10_init_152 rfl rfl ?_
  refine R_null hc dX10_init_153 ?_
  refine R_keep (fun h' e => n_pR e) (fun hw kk => R_putR hc pl_10_78 (rf_fits_o _ _ _).1 (rf_fits_o _ _ _).2 dX10_init_154 hw kk) hx hw (fun h40 hx hw => ?_)
  refine R_aload_n (q := 1) (i := 0) (v := (some l0)) hc dX10_init_157 rfl rfl ?_
  refine R_new hc hx tyX1 rfl cl_10_81 ins_1 ini_1 inT1 tyX1_ok (by decide) rfl (by decide) (le_b rfl) (le_b rfl) dX10_init_158 hw (fun h41 hx hw => ?_)
  refine R_dup hc dX10_init_161 (rf_cat _ _) ?_
  refine R_cIN (As := []) (rest := [rf x.w (some h40.n), rf x.w (some l0)]) (a := h40.n) hc hx mn_10_83 mf_X1_init ⟨rfl, rfl⟩ ⟨le_b rfl, le_b rfl⟩ ⟨le_b rfl, le_b rfl⟩ (fun h' e => mt_X1_init e) (fun h' e => nn_X1_init e) rfl rfl (le_b rfl) dX10_init_162 hw (fun h42 hx hw => ?_)
  refine R_keep (fun h' e => n_pR e) (fun hw kk => R_putR hc pl_10_84 (rf_fits_o _ _ _).1 (rf_fits_o _ _ _).2 dX10_init_165 hw kk) hx hw (fun h43 hx hw => ?_)
  refine R_aload_n (q := 1) (i := 0) (v := (some l0)) hc dX10_init_168 rfl rfl ?_
  refine R_getR hc fl_10_75 dX10_init_169 hw (fun t44 hw => ?_)
  refine R_cVVi (As := []) (rest := []) (r := t44) (ci := 4) hc ml_10_88 mf_X4_prepare rfl (by decide) ⟨rfl, rfl⟩ ⟨le_b rfl, le_b rfl⟩ ⟨le_b rfl, le_b rfl⟩ (fun a h' e => mt_X4_prepare e) rfl rfl (Nat.zero_le _) dX10_init_172 hw (fun h46 hw => ?_)
  refine R_aload_n (q := 1) (i := 0) (v := (some l0)) hc dX10_init_175 rfl rfl ?_
  refine R_cVVi (As := []) (rest := []) (r := (some l0)) (ci := 10) hc ml_10_91 mf_X10_redraw rfl (by decide) ⟨rfl, rfl⟩ ⟨le_b rfl, le_b rfl⟩ ⟨le_b rfl, le_b rfl⟩ (fun a h' e => mt_X10_redraw e) rfl rfl (Nat.zero_le _) dX10_init_176 hw (fun h48 hw => ?_)
  exact R_return hc hret hQ hw dX10_init_179
theorem dX11_init_0 : decode cX11_init 0 = .ok (.aload_n 0, 1) := by decide +kernel
theorem dX11_init_1 : decode cX11_init 1 = .ok (.invokespecial 1, 3) := by decide +kernel
theorem dX11_init_4 : decode cX11_init 4 = .ok (.aload_n 0, 1) := by decide +kernel
theorem dX11_init_5 : decode cX11_init 5 = .ok (.bipush 106, 2) := by decide +kernel
theorem dX11_init_7 : decode cX11_init 7 = .ok (.newarray .int, 2) := by decide +kernel
theorem dX11_init_9 : decode cX11_init 9 = .ok (.putfield 7, 3) := by decide +kernel
theorem dX11_init_12 : decode cX11_init 12 = .ok (.aload_n 0, 1) := by decide +kernel
theorem dX11_init_13 : decode cX11_init 13 = .ok (.sipush 128, 3) := by decide +kernel
theorem dX11_init_16 : decode cX11_init 16 = .ok (.newarray .int, 2) := by decide +kernel
theorem dX11_init_18 : decode cX11_init 18 = .ok (.putfield 13, 3) := by decide +kernel
theorem dX11_init_21 : decode cX11_init 21 = .ok (.aload_n 0, 1) := by decide +kernel
theorem dX11_init_22 : decode cX11_init 22 = .ok (.bipush 106, 2) := by decide +kernel
theorem dX11_init_24 : decode cX11_init 24 = .ok (.newarray .int, 2) := by decide +kernel
theorem dX11_init_26 : decode cX11_init 26 = .ok (.putfield 16, 3) := by decide +kernel
theorem dX11_init_29 : decode cX11_init 29 = .ok (.aload_n 0, 1) := by decide +kernel
theorem dX11_init_30 : decode cX11_init 30 = .ok (.sipush 400, 3) := by decide +kernel
theorem dX11_init_33 : decode cX11_init 33 = .ok (.newarray .int, 2) := by decide +kernel
theorem dX11_init_35 : decode cX11_init 35 = .ok (.putfield 19, 3) := by decide +kernel
theorem dX11_init_38 : decode cX11_init 38 = .ok (.aload_n 0, 1) := by decide +kernel
theorem dX11_init_39 : decode cX11_init 39 = .ok (.iconst (-1), 1) := by decide +kernel
theorem dX11_init_40 : decode cX11_init 40 = .ok (.putfield 22, 3) := by decide +kernel
theorem dX11_init_43 : decode cX11_init 43 = .ok (.aload_n 0, 1) := by decide +kernel
theorem dX11_init_44 : decode cX11_init 44 = .ok (.bipush 106, 2) := by decide +kernel
theorem dX11_init_46 : decode cX11_init 46 = .ok (.newarray .int, 2) := by decide +kernel
theorem dX11_init_48 : decode cX11_init 48 = .ok (.putfield 26, 3) := by decide +kernel
theorem dX11_init_51 : decode cX11_init 51 = .ok (.aload_n 0, 1) := by decide +kernel
theorem dX11_init_52 : decode cX11_init 52 = .ok (.sipush 8192, 3) := by decide +kernel
theorem dX11_init_55 : decode cX11_init 55 = .ok (.newarray .int, 2) := by decide +kernel
theorem dX11_init_57 : decode cX11_init 57 = .ok (.putfield 29, 3) := by decide +kernel
theorem dX11_init_60 : decode cX11_init 60 = .ok (.aload_n 0, 1) := by decide +kernel
theorem dX11_init_61 : decode cX11_init 61 = .ok (.sipush 8192, 3) := by decide +kernel
theorem dX11_init_64 : decode cX11_init 64 = .ok (.newarray .long, 2) := by decide +kernel
theorem dX11_init_66 : decode cX11_init 66 = .ok (.putfield 32, 3) := by decide +kernel
theorem dX11_init_69 : decode cX11_init 69 = .ok (.aload_n 0, 1) := by decide +kernel
theorem dX11_init_70 : decode cX11_init 70 = .ok (.sipush 8192, 3) := by decide +kernel
theorem dX11_init_73 : decode cX11_init 73 = .ok (.newarray .int, 2) := by decide +kernel
theorem dX11_init_75 : decode cX11_init 75 = .ok (.putfield 36, 3) := by decide +kernel
theorem dX11_init_78 : decode cX11_init 78 = .ok (.aload_n 0, 1) := by decide +kernel
theorem dX11_init_79 : decode cX11_init 79 = .ok (.sipush 8192, 3) := by decide +kernel
theorem dX11_init_82 : decode cX11_init 82 = .ok (.newarray .int, 2) := by decide +kernel
theorem dX11_init_84 : decode cX11_init 84 = .ok (.putfield 39, 3) := by decide +kernel
theorem dX11_init_87 : decode cX11_init 87 = .ok (.aload_n 0, 1) := by decide +kernel
theorem dX11_init_88 : decode cX11_init 88 = .ok (.sipush 8192, 3) := by decide +kernel
theorem dX11_init_91 : decode cX11_init 91 = .ok (.newarray .long, 2) := by decide +kernel
theorem dX11_init_93 : decode cX11_init 93 = .ok (.putfield 42, 3) := by decide +kernel
theorem dX11_init_96 : decode cX11_init 96 = .ok (.aload_n 0, 1) := by decide +kernel
theorem dX11_init_97 : decode cX11_init 97 = .ok (.bipush 8, 2) := by decide +kernel
theorem dX11_init_99 : decode cX11_init 99 = .ok (.newarray .int, 2) := by decide +kernel
theorem dX11_init_101 : decode cX11_init 101 = .ok (.putfield 45, 3) := by decide +kernel
theorem dX11_init_104 : decode cX11_init 104 = .ok (.aload_n 0, 1) := by decide +kernel
theorem dX11_init_105 : decode cX11_init 105 = .ok (.bipush 8, 2) := by decide +kernel
theorem dX11_init_107 : decode cX11_init 107 = .ok (.newarray .int, 2) := by decide +kernel
theorem dX11_init_109 : decode cX11_init 109 = .ok (.putfield 48, 3) := by decide +kernel
theorem dX11_init_112 : decode cX11_init 112 = .ok (.aload_n 0, 1) := by decide +kernel
theorem dX11_init_113 : decode cX11_init 113 = .ok (.bipush 16, 2) := by decide +kernel
theorem dX11_init_115 : decode cX11_init 115 = .ok (.newarray .int, 2) := by decide +kernel
theorem dX11_init_117 : decode cX11_init 117 = .ok (.putfield 51, 3) := by decide +kernel
theorem dX11_init_120 : decode cX11_init 120 = .ok (.aload_n 0, 1) := by decide +kernel
theorem dX11_init_121 : decode cX11_init 121 = .ok (.bipush 32, 2) := by decide +kernel
theorem dX11_init_123 : decode cX11_init 123 = .ok (.newarray .int, 2) := by decide +kernel
theorem dX11_init_125 : decode cX11_init 125 = .ok (.putfield 54, 3) := by decide +kernel
theorem dX11_init_128 : decode cX11_init 128 = .ok (.aload_n 0, 1) := by decide +kernel
theorem dX11_init_129 : decode cX11_init 129 = .ok (.bipush 32, 2) := by decide +kernel
theorem dX11_init_131 : decode cX11_init 131 = .ok (.newarray .int, 2) := by decide +kernel
theorem dX11_init_133 : decode cX11_init 133 = .ok (.putfield 57, 3) := by decide +kernel
theorem dX11_init_136 : decode cX11_init 136 = .ok (.aload_n 0, 1) := by decide +kernel
theorem dX11_init_137 : decode cX11_init 137 = .ok (.bipush 32, 2) := by decide +kernel
theorem dX11_init_139 : decode cX11_init 139 = .ok (.newarray .int, 2) := by decide +kernel
theorem dX11_init_141 : decode cX11_init 141 = .ok (.putfield 60, 3) := by decide +kernel
theorem dX11_init_144 : decode cX11_init 144 = .ok (.aload_n 0, 1) := by decide +kernel
theorem dX11_init_145 : decode cX11_init 145 = .ok (.bipush 8, 2) := by decide +kernel
theorem dX11_init_147 : decode cX11_init 147 = .ok (.newarray .int, 2) := by decide +kernel
theorem dX11_init_149 : decode cX11_init 149 = .ok (.putfield 63, 3) := by decide +kernel
theorem dX11_init_152 : decode cX11_init 152 = .ok (.aload_n 0, 1) := by decide +kernel
theorem dX11_init_153 : decode cX11_init 153 = .ok (.bipush 12, 2) := by decide +kernel
theorem dX11_init_155 : decode cX11_init 155 = .ok (.newarray .int, 2) := by decide +kernel
theorem dX11_init_157 : decode cX11_init 157 = .ok (.putfield 66, 3) := by decide +kernel
theorem dX11_init_160 : decode cX11_init 160 = .ok (.aload_n 0, 1) := by decide +kernel
theorem dX11_init_161 : decode cX11_init 161 = .ok (.bipush 12, 2) := by decide +kernel
theorem dX11_init_163 : decode cX11_init 163 = .ok (.newarray .int, 2) := by decide +kernel
theorem dX11_init_165 : decode cX11_init 165 = .ok (.putfield 69, 3) := by decide +kernel
theorem dX11_init_168 : decode cX11_init 168 = .ok (.aload_n 0, 1) := by decide +kernel
theorem dX11_init_169 : decode cX11_init 169 = .ok (.bipush 12, 2) := by decide +kernel
theorem dX11_init_171 : decode cX11_init 171 = .ok (.newarray .int, 2) := by decide +kernel
theorem dX11_init_173 : decode cX11_init 173 = .ok (.putfield 72, 3) := by decide +kernel
theorem dX11_init_176 : decode cX11_init 176 = .ok (.aload_n 0, 1) := by decide +kernel
theorem dX11_init_177 : decode cX11_init 177 = .ok (.bipush 12, 2) := by decide +kernel
theorem dX11_init_179 : decode cX11_init 179 = .ok (.newarray .int, 2) := by decide +kernel
theorem dX11_init_181 : decode cX11_init 181 = .ok (.putfield 75, 3) := by decide +kernel
theorem dX11_init_184 : decode cX11_init 184 = .ok (.aload_n 0, 1) := by decide +kernel
theorem dX11_init_185 : decode cX11_init 185 = .ok (.bipush 12, 2) := by decide +kernel
theorem dX11_init_187 : decode cX11_init 187 = .ok (.newarray .int, 2) := by decide +kernel
theorem dX11_init_189 : decode cX11_init 189 = .ok (.putfield 78, 3) := by decide +kernel
theorem dX11_init_192 : decode cX11_init 192 = .ok (.aload_n 0, 1) := by decide +kernel
theorem dX11_init_193 : decode cX11_init 193 = .ok (.bipush 12, 2) := by decide +kernel
theorem dX11_init_195 : decode cX11_init 195 = .ok (.newarray .int, 2) := by decide +kernel
theorem dX11_init_197 : decode cX11_init 197 = .ok (.putfield 81, 3) := by decide +kernel
theorem dX11_init_200 : decode cX11_init 200 = .ok (.aload_n 0, 1) := by decide +kernel
theorem dX11_init_201 : decode cX11_init 201 = .ok (.bipush 12, 2) := by decide +kernel
theorem dX11_init_203 : decode cX11_init 203 = .ok (.newarray .int, 2) := by decide +kernel
theorem dX11_init_205 : decode cX11_init 205 = .ok (.putfield 84, 3) := by decide +kernel
theorem dX11_init_208 : decode cX11_init 208 = .ok (.aload_n 0, 1) := by decide +kernel
theorem dX11_init_209 : decode cX11_init 209 = .ok (.bipush 6, 2) := by decide +kernel
theorem dX11_init_211 : decode cX11_init 211 = .ok (.newarray .int, 2) := by decide +kernel
theorem dX11_init_213 : decode cX11_init 213 = .ok (.putfield 87, 3) := by decide +kernel
theorem dX11_init_216 : decode cX11_init 216 = .ok (.aload_n 0, 1) := by decide +kernel
theorem dX11_init_217 : decode cX11_init 217 = .ok (.bipush 64, 2) := by decide +kernel
theorem dX11_init_219 : decode cX11_init 219 = .ok (.newarray .int, 2) := by decide +kernel
theorem dX11_init_221 : decode cX11_init 221 = .ok (.putfield 90, 3) := by decide +kernel
theorem dX11_init_224 : decode cX11_init 224 = .ok (.aload_n 0, 1) := by decide +kernel
theorem dX11_init_225 : decode cX11_init 225 = .ok (.iconst 4, 1) := by decide +kernel
theorem dX11_init_226 : decode cX11_init 226 = .ok (.newarray .int, 2) := by decide +kernel
theorem dX11_init_228 : decode cX11_init 228 = .ok (.putfield 93, 3) := by decide +kernel
theorem dX11_init_231 : decode cX11_init 231 = .ok (.aload_n 0, 1) := by decide +kernel
theorem dX11_init_232 : decode cX11_init 232 = .ok (.getfield 7, 3) := by decide +kernel
theorem dX11_init_235 : decode cX11_init 235 = .ok (.invokestatic 96, 3) := by decide +kernel
theorem dX11_init_238 : decode cX11_init 238 = .ok (.return_, 1) := by decide +kernel
def sX11_init (F : Nat) (l0 : Nat) (h : HP) : Option HP :=
  (some (h.new 13 106)).bind fun h1 =>
  (pR h1 11 (some l0) 1 (some h.n)).bind fun h2 =>
  (some (h2.new 13 128)).bind fun h3 =>
  (pR h3 11 (some l0) 2 (some h2.n)).bind fun h4 =>
  (some (h4.new 13 106)).bind fun h5 =>
  (pR h5 11 (some l0) 4 (some h4.n)).bind fun h6 =>
  (some (h6.new 13 400)).bind fun h7 =>
  (pR h7 11 (some l0) 6 (some h6.n)).bind fun h8 =>
  (pI h8 11 (some l0) 10 (-1 : Int32)).bind fun h9 =>
  (some (h9.new 13 106)).bind fun h10 =>
  (pR h10 11 (some l0) 11 (some h9.n)).bind fun h11 =>
  (some (h11.new 13 8192)).bind fun h12 =>
  (pR h12 11 (some l0) 12 (some h11.n)).bind fun h13 =>
  (some (h13.new 14 8192)).bind fun h14 =>
  (pR h14 11 (some l0) 13 (some h13.n)).bind fun h15 =>
  (some (h15.new 13 8192)).bind fun h16 =>
  (pR h16 11 (some l0) 14 (some h15.n)).bind fun h17 =>
  (some (h17.new 13 8192)).bind fun h18 =>
  (pR h18 11 (some l0) 15 (some h17.n)).bind fun h19 =>
  (some (h19.new 14 8192)).bind fun h20 =>
  (pR h20 11 (some l0) 16 (some h19.n)).bind fun h21 =>
  (some (h21.new 13 8)).bind fun h22 =>
  (pR h22 11 (some l0) 20 (some h21.n)).bind fun h23 =>
  (some (h23.new 13 8)).bind fun h24 =>
  (pR h24 11 (some l0) 21 (some h23.n)).bind fun h25 =>
  (some (h25.new 13 16)).bind fun h26 =>
  (pR h26 11 (some l0) 22 (some h25.n)).bind fun h27 =>
  (some (h27.new 13 32)).bind fun h28 =>
  (pR h28 11 (some l0) 23 (some h27.n)).bind fun h29 =>
  (some (h29.new 13 32)).bind fun h30 =>
  (pR h30 11 (some l0) 24 (some h29.n)).bind fun h31 =>
  (some (h31.new 13 32)).bind fun h32 =>
  (pR h32 11 (some l0) 25 (some h31.n)).bind fun h33 =>
  (some (h33.new 13 8)).bind fun h34 =>
  (pR h34 11 (some l0) 26 (some h33.n)).bind fun h35 =>
  (some (h35.new 13 12)).bind fun h36 =>
  (pR h36 11 (some l0) 28 (some h35.n)).bind fun h37 =>
  (some (h37.new 13 12)).bind fun h38 =>
  (pR h38 11 (some l0) 29 (some h37.n)).bind fun h39 =>
  (some (h39.new 13 12)).bind fun h40 =>
  (pR h40 11 (some l0) 30 (some h39.n)).bind fun h41 =>
  (some (h41.new 13 12)).bind fun h42 =>
  (pR h42 11 (some l0) 31 (some h41.n)).bind fun h43 =>
  (some (h43.new 13 12)).bind fun h44 =>
  (pR h44 11 (some l0) 32 (some h43.n)).bind fun h45 =>
  (some (h45.new 13 12)).bind fun h46 =>
  (pR h46 11 (some l0) 33 (some h45.n)).bind fun h47 =>
  (some (h47.new 13 12)).bind fun h48 =>
  (pR h48 11 (some l0) 34 (some h47.n)).bind fun h49 =>
  (some (h49.new 13 6)).bind fun h50 =>
  (pR h50 11 (some l0) 37 (some h49.n)).bind fun h51 =>
  (some (h51.new 13 64)).bind fun h52 =>
  (pR h52 11 (some l0) 39 (some h51.n)).bind fun h53 =>
  (some (h53.new 13 4)).bind fun h54 =>
  (pR h54 11 (some l0) 40 (some h53.n)).bind fun h55 =>
  (gR h55 11 (some l0) 1).bind fun t56 =>
  (sX11_clears F t56 h55).bind fun h57 =>
  some h57
abbrev rm_X11_init : Room := { frames := 1, cells := 27, slots := 42100, locals := 21 }
set_option maxRecDepth 100000 in
set_option maxHeartbeats 4000000 in
theorem mt_X11_init {w : WD} {l : Launch} {F : Nat} {l0 : Nat} {h : HP} {h' : HP} (hs : sX11_init F l0 h = some h') : MX w l yX11_init cX11_init 1 rm_X11_init 27 42100 [rf w (some l0)] h h' := by
  refine of_bodyX [(0, rf w (some l0))] (by decide) (by simp [lg_sl, rf_cat, cat_i, cat_l, cat_a]) (by simp [lv_args, rf_cat, cat_i, cat_l, cat_a]) ?_
  intro x hw_ hnL_ hl_ hc hret hnm hx hQ
  subst hw_; subst hl_
  have hx : x.s.heap.size + 0 = x.w.b + h.n := hx
  have hnl : ∀ i, i < 1 → i < x.nL := fun i h => by rw [hnL_]; exact h
  have hw : wpO (sX11_init F l0 h) (fun r => r = h') := ⟨_, hs, rfl⟩
  unfold sX11_init at hw
  refine R_aload_n (q := 0) (i := 0) (v := (some l0)) hc dX11_init_0 rfl rfl ?_
  refine R_objInit hc oi_11_1 oi_ins oi_code (le_b rfl) (le_b rfl) rfl dX11_init_1 ?_
  refine R_aload_n (q := 0) (i := 0) (v := (some l0)) hc dX11_init_4 rfl rfl ?_
  refine R_bipush (v := (106 : Int32)) hc dX11_init_5 kB_106 ?_
  refine R_newI (N := 106) hc hx (by decide) rfl (le_b rfl) ar_int (le_b rfl) (le_b rfl) dX11_init_7 hw (fun h1 hx hw => ?_)
  refine R_keep (fun h' e => n_pR e) (fun hw kk => R_putRF hc pl_11_7 hnm rfl (rf_fits_a _ _ _).1 (rf_fits_a _ _ _).2 dX11_init_9 hw kk) hx hw (fun h2 hx hw => ?_)
  refine R_aload_n (q := 0) (i := 0) (v := (some l0)) hc dX11_init_12 rfl rfl ?_
  refine R_sipush (v := (128 : Int32)) hc dX11_init_13 kS_128 ?_
  refine R_newI (N := 128) hc hx (by decide) rfl (le_b rfl) ar_int (le_b rfl) (le_b rfl) dX11_init_16 hw (fun h3 hx hw => ?_)
  refine R_keep (fun h' e => n_pR e) (fun hw kk => R_putRF hc pl_11_13 hnm rfl (rf_fits_a _ _ _).1 (rf_fits_a _ _ _).2 dX11_init_18 hw kk) hx hw (fun h4 hx hw => ?_)
  refine R_aload_n (q := 0) (i := 0) (v := (some l0)) hc dX11_init_21 rfl rfl ?_
  refine R_bipush (v := (106 : Int32)) hc dX11_init_22 kB_106 ?_
  refine R_newI (N := 106) hc hx (by decide) rfl (le_b rfl) ar_int (le_b rfl) (le_b rfl) dX11_init_24 hw (fun h5 hx hw => ?_)
  refine R_keep (fun h' e => n_pR e) (fun hw kk => R_putRF hc pl_11_16 hnm rfl (rf_fits_a _ _ _).1 (rf_fits_a _ _ _).2 dX11_init_26 hw kk) hx hw (fun h6 hx hw => ?_)
  refine R_aload_n (q := 0) (i := 0) (v := (some l0)) hc dX11_init_29 rfl rfl ?_
  refine R_sipush (v := (400 : Int32)) hc dX11_init_30 kS_400 ?_
  refine R_newI (N := 400) hc hx (by decide) rfl (le_b rfl) ar_int (le_b rfl) (le_b rfl) dX11_init_33 hw (fun h7 hx hw => ?_)
  refine R_keep (fun h' e => n_pR e) (fun hw kk => R_putRF hc pl_11_19 hnm rfl (rf_fits_a _ _ _).1 (rf_fits_a _ _ _).2 dX11_init_35 hw kk) hx hw (fun h8 hx hw => ?_)
  refine R_aload_n (q := 0) (i := 0) (v := (some l0)) hc dX11_init_38 rfl rfl ?_
  refine R_iconst (v := (-1 : Int32)) hc dX11_init_39 kI_m1 ?_
  refine R_keep (fun h' e => n_pI e) (fun hw kk => R_putI hc pl_11_22 rfl rfl dX11_init_40 hw kk) hx hw (fun h9 hx hw => ?_)
  refine R_aload_n (q := 0) (i := 0) (v := (some l0)) hc dX11_init_43 rfl rfl ?_
  refine R_bipush (v := (106 : Int32)) hc dX11_init_44 kB_106 ?_
  refine R_newI (N := 106) hc hx (by decide) rfl (le_b rfl) ar_int (le_b rfl) (le_b rfl) dX11_init_46 hw (fun h10 hx hw => ?_)
  refine R_keep (fun h' e => n_pR e) (fun hw kk => R_putRF hc pl_11_26 hnm rfl (rf_fits_a _ _ _).1 (rf_fits_a _ _ _).2 dX11_init_48 hw kk) hx hw (fun h11 hx hw => ?_)
  refine R_aload_n (q := 0) (i := 0) (v := (some l0)) hc dX11_init_51 rfl rfl ?_
  refine R_sipush (v := (8192 : Int32)) hc dX11_init_52 kS_8192 ?_
  refine R_newI (N := 8192) hc hx (by decide) rfl (le_b rfl) ar_int (le_b rfl) (le_b rfl) dX11_init_55 hw (fun h12 hx hw => ?_)
  refine R_keep (fun h' e => n_pR e) (fun hw kk => R_putRF hc pl_11_29 hnm rfl (rf_fits_a _ _ _).1 (rf_fits_a _ _ _).2 dX11_init_57 hw kk) hx hw (fun h13 hx hw => ?_)
  refine R_aload_n (q := 0) (i := 0) (v := (some l0)) hc dX11_init_60 rfl rfl ?_
  refine R_sipush (v := (8192 : Int32)) hc dX11_init_61 kS_8192 ?_
  refine R_newJ (N := 8192) hc hx (by decide) rfl (le_b rfl) ar_long (le_b rfl) (le_b rfl) dX11_init_64 hw (fun h14 hx hw => ?_)
  refine R_keep (fun h' e => n_pR e) (fun hw kk => R_putRF hc pl_11_32 hnm rfl (rf_fits_a _ _ _).1 (rf_fits_a _ _ _).2 dX11_init_66 hw kk) hx hw (fun h15 hx hw => ?_)
  refine R_aload_n (q := 0) (i := 0) (v := (some l0)) hc dX11_init_69 rfl rfl ?_
  refine R_sipush (v := (8192 : Int32)) hc dX11_init_70 kS_8192 ?_
  refine R_newI (N := 8192) hc hx (by decide) rfl (le_b rfl) ar_int (le_b rfl) (le_b rfl) dX11_init_73 hw (fun h16 hx hw => ?_)
  refine R_keep (fun h' e => n_pR e) (fun hw kk => R_putRF hc pl_11_36 hnm rfl (rf_fits_a _ _ _).1 (rf_fits_a _ _ _).2 dX11_init_75 hw kk) hx hw (fun h17 hx hw => ?_)
  refine R_aload_n (q := 0) (i := 0) (v := (some l0)) hc dX11_init_78 rfl rfl ?_
  refine R_sipush (v := (8192 : Int32)) hc dX11_init_79 kS_8192 ?_
  refine R_newI (N := 8192) hc hx (by decide) rfl (le_b rfl) ar_int (le_b rfl) (le_b rfl) dX11_init_82 hw (fun h18 hx hw => ?_)
  refine R_keep (fun h' e => n_pR e) (fun hw kk => R_putRF hc pl_11_39 hnm rfl (rf_fits_a _ _ _).1 (rf_fits_a _ _ _).2 dX11_init_84 hw kk) hx hw (fun h19 hx hw => ?_)
  refine R_aload_n (q := 0) (i := 0) (v := (some l0)) hc dX11_init_87 rfl rfl ?_
  refine R_sipush (v := (8192 : Int32)) hc dX11_init_88 kS_8192 ?_
  refine R_newJ (N := 8192) hc hx (by decide) rfl (le_b rfl) ar_long (le_b rfl) (le_b rfl) dX11_init_91 hw (fun h20 hx hw => ?_)
  refine R_keep (fun h' e => n_pR e) (fun hw kk => R_putRF hc pl_11_42 hnm rfl (rf_fits_a _ _ _).1 (rf_fits_a _ _ _).2 dX11_init_93 hw kk) hx hw (fun h21 hx hw => ?_)
  refine R_aload_n (q := 0) (i := 0) (v := (some l0)) hc dX11_init_96 rfl rfl ?_
  refine R_bipush (v := (8 : Int32)) hc dX11_init_97 kB_8 ?_
  refine R_newI (N := 8) hc hx (by decide) rfl (le_b rfl) ar_int (le_b rfl) (le_b rfl) dX11_init_99 hw (fun h22 hx hw => ?_)
  refine R_keep (fun h' e => n_pR e) (fun hw kk => R_putRF hc pl_11_45 hnm rfl (rf_fits_a _ _ _).1 (rf_fits_a _ _ _).2 dX11_init_101 hw kk) hx hw (fun h23 hx hw => ?_)
  refine R_aload_n (q := 0) (i := 0) (v := (some l0)) hc dX11_init_104 rfl rfl ?_
  refine R_bipush (v := (8 : Int32)) hc dX11_init_105 kB_8 ?_
  refine R_newI (N := 8) hc hx (by decide) rfl (le_b rfl) ar_int (le_b rfl) (le_b rfl) dX11_init_107 hw (fun h24 hx hw => ?_)
  refine R_keep (fun h' e => n_pR e) (fun hw kk => R_putRF hc pl_11_48 hnm rfl (rf_fits_a _ _ _).1 (rf_fits_a _ _ _).2 dX11_init_109 hw kk) hx hw (fun h25 hx hw => ?_)
  refine R_aload_n (q := 0) (i := 0) (v := (some l0)) hc dX11_init_112 rfl rfl ?_
  refine R_bipush (v := (16 : Int32)) hc dX11_init_113 kB_16 ?_
  refine R_newI (N := 16) hc hx (by decide) rfl (le_b rfl) ar_int (le_b rfl) (le_b rfl) dX11_init_115 hw (fun h26 hx hw => ?_)
  refine R_keep (fun h' e => n_pR e) (fun hw kk => R_putRF hc pl_11_51 hnm rfl (rf_fits_a _ _ _).1 (rf_fits_a _ _ _).2 dX11_init_117 hw kk) hx hw (fun h27 hx hw => ?_)
  refine R_aload_n (q := 0) (i := 0) (v := (some l0)) hc dX11_init_120 rfl rfl ?_
  refine R_bipush (v := (32 : Int32)) hc dX11_init_121 kB_32 ?_
  refine R_newI (N := 32) hc hx (by decide) rfl (le_b rfl) ar_int (le_b rfl) (le_b rfl) dX11_init_123 hw (fun h28 hx hw => ?_)
  refine R_keep (fun h' e => n_pR e) (fun hw kk => R_putRF hc pl_11_54 hnm rfl (rf_fits_a _ _ _).1 (rf_fits_a _ _ _).2 dX11_init_125 hw kk) hx hw (fun h29 hx hw => ?_)
  refine R_aload_n (q := 0) (i := 0) (v := (some l0)) hc dX11_init_128 rfl rfl ?_
  refine R_bipush (v := (32 : Int32)) hc dX11_init_129 kB_32 ?_
  refine R_newI (N := 32) hc hx (by decide) rfl (le_b rfl) ar_int (le_b rfl) (le_b rfl) dX11_init_131 hw (fun h30 hx hw => ?_)
  refine R_keep (fun h' e => n_pR e) (fun hw kk => R_putRF hc pl_11_57 hnm rfl (rf_fits_a _ _ _).1 (rf_fits_a _ _ _).2 dX11_init_133 hw kk) hx hw (fun h31 hx hw => ?_)
  refine R_aload_n (q := 0) (i := 0) (v := (some l0)) hc dX11_init_136 rfl rfl ?_
  refine R_bipush (v := (32 : Int32)) hc dX11_init_137 kB_32 ?_
  refine R_newI (N := 32) hc hx (by decide) rfl (le_b rfl) ar_int (le_b rfl) (le_b rfl) dX11_init_139 hw (fun h32 hx hw => ?_)
  refine R_keep (fun h' e => n_pR e) (fun hw kk => R_putRF hc pl_11_60 hnm rfl (rf_fits_a _ _ _).1 (rf_fits_a _ _ _).2 dX11_init_141 hw kk) hx hw (fun h33 hx hw => ?_)
  refine R_aload_n (q := 0) (i := 0) (v := (some l0)) hc dX11_init_144 rfl rfl ?_
  refine R_bipush (v := (8 : Int32)) hc dX11_init_145 kB_8 ?_
  refine R_newI (N := 8) hc hx (by decide) rfl (le_b rfl) ar_int (le_b rfl) (le_b rfl) dX11_init_147 hw (fun h34 hx hw => ?_)
  refine R_keep (fun h' e => n_pR e) (fun hw kk => R_putRF hc pl_11_63 hnm rfl (rf_fits_a _ _ _).1 (rf_fits_a _ _ _).2 dX11_init_149 hw kk) hx hw (fun h35 hx hw => ?_)
  refine R_aload_n (q := 0) (i := 0) (v := (some l0)) hc dX11_init_152 rfl rfl ?_
  refine R_bipush (v := (12 : Int32)) hc dX11_init_153 kB_12 ?_
  refine R_newI (N := 12) hc hx (by decide) rfl (le_b rfl) ar_int (le_b rfl) (le_b rfl) dX11_init_155 hw (fun h36 hx hw => ?_)
  refine R_keep (fun h' e => n_pR e) (fun hw kk => R_putRF hc pl_11_66 hnm rfl (rf_fits_a _ _ _).1 (rf_fits_a _ _ _).2 dX11_init_157 hw kk) hx hw (fun h37 hx hw => ?_)
  refine R_aload_n (q := 0) (i := 0) (v := (some l0)) hc dX11_init_160 rfl rfl ?_
  refine R_bipush (v := (12 : Int32)) hc dX11_init_161 kB_12 ?_
  refine R_newI (N := 12) hc hx (by decide) rfl (le_b rfl) ar_int (le_b rfl) (le_b rfl) dX11_init_163 hw (fun h38 hx hw => ?_)
  refine R_keep (fun h' e => n_pR e) (fun hw kk => R_putRF hc pl_11_69 hnm rfl (rf_fits_a _ _ _).1 (rf_fits_a _ _ _).2 dX11_init_165 hw kk) hx hw (fun h39 hx hw => ?_)
  refine R_aload_n (q := 0) (i := 0) (v := (some l0)) hc dX11_init_168 rfl rfl ?_
  refine R_bipush (v := (12 : Int32)) hc dX11_init_169 kB_12 ?_
  refine R_newI (N := 12) hc hx (by decide) rfl (le_b rfl) ar_int (le_b rfl) (le_b rfl) dX11_init_171 hw (fun h40 hx hw => ?_)
  refine R_keep (fun h' e => n_pR e) (fun hw kk => R_putRF hc pl_11_72 hnm rfl (rf_fits_a _ _ _).1 (rf_fits_a _ _ _).2 dX11_init_173 hw kk) hx hw (fun h41 hx hw => ?_)
  refine R_aload_n (q := 0) (i := 0) (v := (some l0)) hc dX11_init_176 rfl rfl ?_
  refine R_bipush (v := (12 : Int32)) hc dX11_init_177 kB_12 ?_
  refine R_newI (N := 12) hc hx (by decide) rfl (le_b rfl) ar_int (le_b rfl) (le_b rfl) dX11_init_179 hw (fun h42 hx hw => ?_)
  refine R_keep (fun h' e => n_pR e) (fun hw kk => R_putRF hc pl_11_75 hnm rfl (rf_fits_a _ _ _).1 (rf_fits_a _ _ _).2 dX11_init_181 hw kk) hx hw (fun h43 hx hw => ?_)
  refine R_aload_n (q := 0) (i := 0) (v := (some l0)) hc dX11_init_184 rfl rfl ?_
  refine R_bipush (v := (12 : Int32)) hc dX11_init_185 kB_12 ?_
  refine R_newI (N := 12) hc hx (by decide) rfl (le_b rfl) ar_int (le_b rfl) (le_b rfl) dX11_init_187 hw (fun h44 hx hw => ?_)
  refine R_keep (fun h' e => n_pR e) (fun hw kk => R_putRF hc pl_11_78 hnm rfl (rf_fits_a _ _ _).1 (rf_fits_a _ _ _).2 dX11_init_189 hw kk) hx hw (fun h45 hx hw => ?_)
  refine R_aload_n (q := 0) (i := 0) (v := (some l0)) hc dX11_init_192 rfl rfl ?_
  refine R_bipush (v := (12 : Int32)) hc dX11_init_193 kB_12 ?_
  refine R_newI (N := 12) hc hx (by decide) rfl (le_b rfl) ar_int (le_b rfl) (le_b rfl) dX11_init_195 hw (fun h46 hx hw => ?_)
  refine R_keep (fun h' e => n_pR e) (fun hw kk => R_putRF hc pl_11_81 hnm rfl (rf_fits_a _ _ _).1 (rf_fits_a _ _ _).2 dX11_init_197 hw kk) hx hw (fun h47 hx hw => ?_)
  refine R_aload_n (q := 0) (i := 0) (v := (some l0)) hc dX11_init_200 rfl rfl ?_
  refine R_bipush (v := (12 : Int32)) hc dX11_init_201 kB_12 ?_
  refine R_newI (N := 12) hc hx (by decide) rfl (le_b rfl) ar_int (le_b rfl) (le_b rfl) dX11_init_203 hw (fun h48 hx hw => ?_)
  refine R_keep (fun h' e => n_pR e) (fun hw kk => R_putRF hc pl_11_84 hnm rfl (rf_fits_a _ _ _).1 (rf_fits_a _ _ _).2 dX11_init_205 hw kk) hx hw (fun h49 hx hw => ?_)
  refine R_aload_n (q := 0) (i := 0) (v := (some l0)) hc dX11_init_208 rfl rfl ?_
  refine R_bipush (v := (6 : Int32)) hc dX11_init_209 kB_6 ?_
  refine R_newI (N := 6) hc hx (by decide) rfl (le_b rfl) ar_int (le_b rfl) (le_b rfl) dX11_init_211 hw (fun h50 hx hw => ?_)
  refine R_keep (fun h' e => n_pR e) (fun hw kk => R_putRF hc pl_11_87 hnm rfl (rf_fits_a _ _ _).1 (rf_fits_a _ _ _).2 dX11_init_213 hw kk) hx hw (fun h51 hx hw => ?_)
  refine R_aload_n (q := 0) (i := 0) (v := (some l0)) hc dX11_init_216 rfl rfl ?_
  refine R_bipush (v := (64 : Int32)) hc dX11_init_217 kB_64 ?_
  refine R_newI (N := 64) hc hx (by decide) rfl (le_b rfl) ar_int (le_b rfl) (le_b rfl) dX11_init_219 hw (fun h52 hx hw => ?_)
  refine R_keep (fun h' e => n_pR e) (fun hw kk => R_putRF hc pl_11_90 hnm rfl (rf_fits_a _ _ _).1 (rf_fits_a _ _ _).2 dX11_init_221 hw kk) hx hw (fun h53 hx hw => ?_)
  refine R_aload_n (q := 0) (i := 0) (v := (some l0)) hc dX11_init_224 rfl rfl ?_
  refine R_iconst (v := (4 : Int32)) hc dX11_init_225 kI_4 ?_
  refine R_newI (N := 4) hc hx (by decide) rfl (le_b rfl) ar_int (le_b rfl) (le_b rfl) dX11_init_226 hw (fun h54 hx hw => ?_)
  refine R_keep (fun h' e => n_pR e) (fun hw kk => R_putRF hc pl_11_93 hnm rfl (rf_fits_a _ _ _).1 (rf_fits_a _ _ _).2 dX11_init_228 hw kk) hx hw (fun h55 hx hw => ?_)
  refine R_aload_n (q := 0) (i := 0) (v := (some l0)) hc dX11_init_231 rfl rfl ?_
  refine R_getR hc fl_11_7 dX11_init_232 hw (fun t56 hw => ?_)
  refine R_cSVi (As := [rf x.w t56]) (rest := []) hc ml_11_96 mf_X11_clears ⟨rfl, rfl⟩ ⟨le_b rfl, le_b rfl⟩ ⟨le_b rfl, le_b rfl⟩ (fun h' e => mt_X11_clears e) rfl rfl (Nat.zero_le _) dX11_init_235 hw (fun h57 hw => ?_)
  exact R_return hc hret hQ hw dX11_init_238
