theorem dJ0_length_8abf5_0 : decode cJ0_length_8abf5 0 = .ok (.aload_n 0, 1) := by decide +kernel
theorem dJ0_length_8abf5_1 : decode cJ0_length_8abf5 1 = .ok (.getfield 9, 3) := by decide +kernel
theorem dJ0_length_8abf5_4 : decode cJ0_length_8abf5 4 = .ok (.arraylength, 1) := by decide +kernel
theorem dJ0_length_8abf5_5 : decode cJ0_length_8abf5 5 = .ok (.aload_n 0, 1) := by decide +kernel
theorem dJ0_length_8abf5_6 : decode cJ0_length_8abf5 6 = .ok (.invokevirtual 335, 3) := by decide +kernel
theorem dJ0_length_8abf5_9 : decode cJ0_length_8abf5 9 = .ok (.ishr, 1) := by decide +kernel
theorem dJ0_length_8abf5_10 : decode cJ0_length_8abf5 10 = .ok (.ireturn, 1) := by decide +kernel
theorem dJ0_charAt_5068e_0 : decode cJ0_charAt_5068e 0 = .ok (.aload_n 0, 1) := by decide +kernel
theorem dJ0_charAt_5068e_1 : decode cJ0_charAt_5068e 1 = .ok (.invokevirtual 492, 3) := by decide +kernel
theorem dJ0_charAt_5068e_4 : decode cJ0_charAt_5068e 4 = .ok (.ifCond .eq 12, 3) := by decide +kernel
theorem dJ0_charAt_5068e_7 : decode cJ0_charAt_5068e 7 = .ok (.aload_n 0, 1) := by decide +kernel
theorem dJ0_charAt_5068e_8 : decode cJ0_charAt_5068e 8 = .ok (.getfield 9, 3) := by decide +kernel
theorem dJ0_charAt_5068e_11 : decode cJ0_charAt_5068e 11 = .ok (.iload_n 1, 1) := by decide +kernel
theorem dJ0_charAt_5068e_12 : decode cJ0_charAt_5068e 12 = .ok (.invokestatic 495, 3) := by decide +kernel
theorem dJ0_charAt_5068e_15 : decode cJ0_charAt_5068e 15 = .ok (.ireturn, 1) := by decide +kernel
theorem dJ0_charAt_5068e_16 : decode cJ0_charAt_5068e 16 = .ok (.aload_n 0, 1) := by decide +kernel
theorem dJ0_charAt_5068e_17 : decode cJ0_charAt_5068e 17 = .ok (.getfield 9, 3) := by decide +kernel
theorem dJ0_charAt_5068e_20 : decode cJ0_charAt_5068e 20 = .ok (.iload_n 1, 1) := by decide +kernel
theorem dJ0_charAt_5068e_21 : decode cJ0_charAt_5068e 21 = .ok (.invokestatic 498, 3) := by decide +kernel
theorem dJ0_charAt_5068e_24 : decode cJ0_charAt_5068e 24 = .ok (.ireturn, 1) := by decide +kernel
theorem dJ0_coder_7d493_0 : decode cJ0_coder_7d493 0 = .ok (.getstatic 38, 3) := by decide +kernel
theorem dJ0_coder_7d493_3 : decode cJ0_coder_7d493 3 = .ok (.ifCond .eq 10, 3) := by decide +kernel
theorem dJ0_coder_7d493_6 : decode cJ0_coder_7d493 6 = .ok (.aload_n 0, 1) := by decide +kernel
theorem dJ0_coder_7d493_7 : decode cJ0_coder_7d493 7 = .ok (.getfield 15, 3) := by decide +kernel
theorem dJ0_coder_7d493_10 : decode cJ0_coder_7d493 10 = .ok (.goto 4, 3) := by decide +kernel
theorem dJ0_coder_7d493_13 : decode cJ0_coder_7d493 13 = .ok (.iconst 1, 1) := by decide +kernel
theorem dJ0_coder_7d493_14 : decode cJ0_coder_7d493 14 = .ok (.ireturn, 1) := by decide +kernel
theorem dJ0_isLatin1_aae02_0 : decode cJ0_isLatin1_aae02 0 = .ok (.getstatic 38, 3) := by decide +kernel
theorem dJ0_isLatin1_aae02_3 : decode cJ0_isLatin1_aae02 3 = .ok (.ifCond .eq 14, 3) := by decide +kernel
theorem dJ0_isLatin1_aae02_6 : decode cJ0_isLatin1_aae02 6 = .ok (.aload_n 0, 1) := by decide +kernel
theorem dJ0_isLatin1_aae02_7 : decode cJ0_isLatin1_aae02 7 = .ok (.getfield 15, 3) := by decide +kernel
theorem dJ0_isLatin1_aae02_10 : decode cJ0_isLatin1_aae02 10 = .ok (.ifCond .ne 7, 3) := by decide +kernel
theorem dJ0_isLatin1_aae02_13 : decode cJ0_isLatin1_aae02 13 = .ok (.iconst 1, 1) := by decide +kernel
theorem dJ0_isLatin1_aae02_14 : decode cJ0_isLatin1_aae02 14 = .ok (.goto 4, 3) := by decide +kernel
theorem dJ0_isLatin1_aae02_17 : decode cJ0_isLatin1_aae02 17 = .ok (.iconst 0, 1) := by decide +kernel
theorem dJ0_isLatin1_aae02_18 : decode cJ0_isLatin1_aae02 18 = .ok (.ireturn, 1) := by decide +kernel
theorem dJ0_checkIndex_df160_0 : decode cJ0_checkIndex_df160 0 = .ok (.iload_n 0, 1) := by decide +kernel
theorem dJ0_checkIndex_df160_1 : decode cJ0_checkIndex_df160 1 = .ok (.iload_n 1, 1) := by decide +kernel
theorem dJ0_checkIndex_df160_2 : decode cJ0_checkIndex_df160 2 = .ok (.getstatic 1053, 3) := by decide +kernel
theorem dJ0_checkIndex_df160_5 : decode cJ0_checkIndex_df160 5 = .ok (.invokestatic 1059, 3) := by decide +kernel
theorem dJ0_checkIndex_df160_8 : decode cJ0_checkIndex_df160 8 = .ok (.pop, 1) := by decide +kernel
theorem dJ0_checkIndex_df160_9 : decode cJ0_checkIndex_df160 9 = .ok (.return_, 1) := by decide +kernel
theorem dJ1_charAt_3b067_0 : decode cJ1_charAt_3b067 0 = .ok (.iload_n 1, 1) := by decide +kernel
theorem dJ1_charAt_3b067_1 : decode cJ1_charAt_3b067 1 = .ok (.aload_n 0, 1) := by decide +kernel
theorem dJ1_charAt_3b067_2 : decode cJ1_charAt_3b067 2 = .ok (.arraylength, 1) := by decide +kernel
theorem dJ1_charAt_3b067_3 : decode cJ1_charAt_3b067 3 = .ok (.invokestatic 9, 3) := by decide +kernel
theorem dJ1_charAt_3b067_6 : decode cJ1_charAt_3b067 6 = .ok (.aload_n 0, 1) := by decide +kernel
theorem dJ1_charAt_3b067_7 : decode cJ1_charAt_3b067 7 = .ok (.iload_n 1, 1) := by decide +kernel
theorem dJ1_charAt_3b067_8 : decode cJ1_charAt_3b067 8 = .ok (.baload, 1) := by decide +kernel
theorem dJ1_charAt_3b067_9 : decode cJ1_charAt_3b067 9 = .ok (.sipush 255, 3) := by decide +kernel
theorem dJ1_charAt_3b067_12 : decode cJ1_charAt_3b067 12 = .ok (.iand, 1) := by decide +kernel
theorem dJ1_charAt_3b067_13 : decode cJ1_charAt_3b067 13 = .ok (.i2c, 1) := by decide +kernel
theorem dJ1_charAt_3b067_14 : decode cJ1_charAt_3b067 14 = .ok (.ireturn, 1) := by decide +kernel
theorem dJ3_checkIndex_8e157_0 : decode cJ3_checkIndex_8e157 0 = .ok (.iload_n 0, 1) := by decide +kernel
theorem dJ3_checkIndex_8e157_1 : decode cJ3_checkIndex_8e157 1 = .ok (.ifCond .lt 8, 3) := by decide +kernel
theorem dJ3_checkIndex_8e157_4 : decode cJ3_checkIndex_8e157 4 = .ok (.iload_n 0, 1) := by decide +kernel
theorem dJ3_checkIndex_8e157_5 : decode cJ3_checkIndex_8e157 5 = .ok (.iload_n 1, 1) := by decide +kernel
theorem dJ3_checkIndex_8e157_6 : decode cJ3_checkIndex_8e157 6 = .ok (.if_icmp .lt 10, 3) := by decide +kernel
theorem dJ3_checkIndex_8e157_9 : decode cJ3_checkIndex_8e157 9 = .ok (.aload_n 2, 1) := by decide +kernel
theorem dJ3_checkIndex_8e157_10 : decode cJ3_checkIndex_8e157 10 = .ok (.iload_n 0, 1) := by decide +kernel
theorem dJ3_checkIndex_8e157_11 : decode cJ3_checkIndex_8e157 11 = .ok (.iload_n 1, 1) := by decide +kernel
theorem dJ3_checkIndex_8e157_12 : decode cJ3_checkIndex_8e157 12 = .ok (.invokestatic 95, 3) := by decide +kernel
theorem dJ3_checkIndex_8e157_15 : decode cJ3_checkIndex_8e157 15 = .ok (.athrow, 1) := by decide +kernel
theorem dJ3_checkIndex_8e157_16 : decode cJ3_checkIndex_8e157 16 = .ok (.iload_n 0, 1) := by decide +kernel
theorem dJ3_checkIndex_8e157_17 : decode cJ3_checkIndex_8e157 17 = .ok (.ireturn, 1) := by decide +kernel
theorem mf_J0_length_8abf5 : MfV yJ0_length_8abf5 cJ0_length_8abf5 1 (some .int) 0 := ⟨⟨tg_in 231 tables_1_3 (fun _ h => tb3 h) rfl rfl, tg_in 15 tables_1_1 (fun _ h => tb1 h) rfl rfl, by decide +kernel⟩, tg_in 229 tables_1_3 (fun _ h => tb3 h) rfl rfl, tg_in 230 tables_1_3 (fun _ h => tb3 h) rfl rfl⟩
theorem mf_J0_charAt_5068e : MfV yJ0_charAt_5068e cJ0_charAt_5068e 2 (some .char) 1 := ⟨⟨tg_in 1 tables_1_4 (fun _ h => tb4 h) rfl rfl, tg_in 15 tables_1_1 (fun _ h => tb1 h) rfl rfl, by decide +kernel⟩, tg_in 239 tables_1_3 (fun _ h => tb3 h) rfl rfl, tg_in 0 tables_1_4 (fun _ h => tb4 h) rfl rfl⟩
theorem mf_J0_coder_7d493 : MfV yJ0_coder_7d493 cJ0_coder_7d493 1 (some .byte) 0 := ⟨⟨tg_in 235 tables_1_3 (fun _ h => tb3 h) rfl rfl, tg_in 15 tables_1_1 (fun _ h => tb1 h) rfl rfl, by decide +kernel⟩, tg_in 233 tables_1_3 (fun _ h => tb3 h) rfl rfl, tg_in 234 tables_1_3 (fun _ h => tb3 h) rfl rfl⟩
theorem mf_J0_isLatin1_aae02 : MfV yJ0_isLatin1_aae02 cJ0_isLatin1_aae02 1 (some .boolean) 0 := ⟨⟨tg_in 5 tables_1_4 (fun _ h => tb4 h) rfl rfl, tg_in 15 tables_1_1 (fun _ h => tb1 h) rfl rfl, by decide +kernel⟩, tg_in 3 tables_1_4 (fun _ h => tb4 h) rfl rfl, tg_in 4 tables_1_4 (fun _ h => tb4 h) rfl rfl⟩
theorem mf_J0_checkIndex_df160 : MfS yJ0_checkIndex_df160 cJ0_checkIndex_df160 2 none 2 := ⟨⟨tg_in 11 tables_1_4 (fun _ h => tb4 h) rfl rfl, tg_in 15 tables_1_1 (fun _ h => tb1 h) rfl rfl, by decide +kernel⟩, tg_in 10 tables_1_4 (fun _ h => tb4 h) rfl rfl⟩
theorem mf_J1_charAt_3b067 : MfS yJ1_charAt_3b067 cJ1_charAt_3b067 2 (some .char) 2 := ⟨⟨tg_in 8 tables_1_4 (fun _ h => tb4 h) rfl rfl, tg_in 16 tables_1_1 (fun _ h => tb1 h) rfl rfl, by decide +kernel⟩, tg_in 7 tables_1_4 (fun _ h => tb4 h) rfl rfl⟩
theorem mf_J3_checkIndex_8e157 : MfS yJ3_checkIndex_8e157 cJ3_checkIndex_8e157 3 (some .int) 3 := ⟨⟨tg_in 16 tables_1_4 (fun _ h => tb4 h) rfl rfl, tg_in 17 tables_1_1 (fun _ h => tb1 h) rfl rfl, by decide +kernel⟩, tg_in 15 tables_1_4 (fun _ h => tb4 h) rfl rfl⟩
theorem ml_J0_335 : Cond.methodLink RJ0 335 yJ0_coder_7d493 ∈ Tg := tg_in 232 tables_1_3 (fun _ h => tb3 h) rfl rfl
theorem ml_J0_492 : Cond.methodLink RJ0 492 yJ0_isLatin1_aae02 ∈ Tg := tg_in 2 tables_1_4 (fun _ h => tb4 h) rfl rfl
theorem ml_J0_495 : Cond.methodLink RJ0 495 yJ1_charAt_3b067 ∈ Tg := tg_in 6 tables_1_4 (fun _ h => tb4 h) rfl rfl
theorem ml_J1_9 : Cond.methodLink RJ1 9 yJ0_checkIndex_df160 ∈ Tg := tg_in 9 tables_1_4 (fun _ h => tb4 h) rfl rfl
theorem ml_J0_1059 : Cond.methodLink RJ0 1059 yJ3_checkIndex_8e157 ∈ Tg := tg_in 14 tables_1_4 (fun _ h => tb4 h) rfl rfl
theorem fw_J0_38 : Cond.fieldLink RJ0 38 "java/lang/String" "COMPACT_STRINGS" "Z" ∈ Tg := tg_in 236 tables_1_3 (fun _ h => tb3 h) rfl rfl
theorem fw_J0_1053 : Cond.fieldLink RJ0 1053 "jdk/internal/util/Preconditions" "SIOOBE_FORMATTER" "Ljava/util/function/BiFunction;" ∈ Tg := tg_in 12 tables_1_4 (fun _ h => tb4 h) rfl rfl
theorem fw_J0_9 : Cond.fieldLink RJ0 9 "java/lang/String" "value" "[B" ∈ Tg := tg_in 131 tables_1_8 (fun _ h => tb8 h) rfl rfl
theorem fw_J0_15 : Cond.fieldLink RJ0 15 "java/lang/String" "coder" "B" ∈ Tg := tg_in 132 tables_1_8 (fun _ h => tb8 h) rfl rfl
/-- a text's char -/
def sCh (k j : Nat) : Int32 := (((((bytS.getD k []).getD j 0) &&& 255).toUInt32) % 65536).toInt32
def sLen (k : Nat) : Option Int32 := if k < 8 then some (jshr (Int32.ofNat (lenS.getD k 0)) 0) else none
def sAt (k : Nat) (i : Int32) : Option Int32 := if k < 8 ∧ 0 ≤ i ∧ i.toNatClampNeg < lenS.getD k 0 then some (sCh k i.toNatClampNeg) else none
section
variable {x : CX} {cc : ByteArray} {own : String} {rm0 : Room} {kc ks pc : Nat} {lv : List (Nat × Value)} {st : List Value} {h : HP} {α : Type} {C : α → Prop}
theorem R_aloadV (hc : Cx x cc own rm0) {j : Fin 4} {i q : Nat} {a : Nat} (hd : decode cc pc = .ok (.aload_n j, 1)) (hi : (j : Nat) = i) (hq : lv[q]? = some (i, .ref a)) (k : Rn x kc ks (pc + 1) lv (.ref a :: st) h) : Rn x kc ks pc lv st h := fun H locs ls hl hS hP => lv_aload_n hc.1 hc.2.1 hd hi (lv_at hl q hq) (k H locs ls hl hS hP)
theorem R_aloadS_n (hc : Cx x cc own rm0) {j : Fin 4} {i q : Nat} {v : Nat} (hd : decode cc pc = .ok (.aload_n j, 1)) (hi : (j : Nat) = i) (hq : lv[q]? = some (i, .ref (x.w.aS v))) (k : Rn x kc ks (pc + 1) lv (.ref (x.w.aS v) :: st) h) : Rn x kc ks pc lv st h := R_aloadV hc hd hi hq k
theorem R_ldcS (hc : Cx x cc own rm0) {idx k : Nat} {tx : String} (hr : vk_R own idx tx (x.w.aS k) x.s) (hd : decode cc pc = .ok (.ldc idx, 2)) (kk : Rn x kc ks (pc + 2) lv (.ref (x.w.aS k) :: st) h) : Rn x kc ks pc lv st h := fun H locs ls hl hS hP => va_ldcS hc.1 hc.2.1 hc.2.2.2.1 hr hd (kk H locs ls hl hS hP)
theorem R_ldcwS (hc : Cx x cc own rm0) {idx k : Nat} {tx : String} (hr : vk_R own idx tx (x.w.aS k) x.s) (hd : decode cc pc = .ok (.ldc_w idx, 3)) (kk : Rn x kc ks (pc + 3) lv (.ref (x.w.aS k) :: st) h) : Rn x kc ks pc lv st h := by
  intro H locs ls hl hS hP T hT X
  obtain ⟨t, a1, b1⟩ := kk H locs ls hl hS hP T hT X
  exact ⟨t, X.ldcStringW hc.1 hc.2.2.2.1 (text := tx) (a := x.w.aS k) hr.1 hr.2 (g := F0 x.m pc ls st) rfl (by rw [hc.2.1]; exact hd) t a1, b1⟩
theorem R_if_eqF (hc : Cx x cc own rm0) {a : Int32} {off : Int} {tgt : Nat} (hd : decode cc pc = .ok (.ifCond .eq off, 3)) (ht : (pc : Int) + off = (tgt : Int)) (hn : ¬ a = 0) (k : Rn x kc ks (pc + 3) lv st h) : Rn x kc ks pc lv (.int a :: st) h := fun H locs ls hl hS hP => lv_if_eq hc.1 hc.2.1 hd ht (fun hh => absurd hh hn) (fun _ => k H locs ls hl hS hP)
theorem R_if_neF (hc : Cx x cc own rm0) {a : Int32} {off : Int} {tgt : Nat} (hd : decode cc pc = .ok (.ifCond .ne off, 3)) (ht : (pc : Int) + off = (tgt : Int)) (hn : a = 0) (k : Rn x kc ks (pc + 3) lv st h) : Rn x kc ks pc lv (.int a :: st) h := fun H locs ls hl hS hP => lv_if_ne hc.1 hc.2.1 hd ht (fun hh => absurd hn hh) (fun _ => k H locs ls hl hS hP)
theorem R_if_ltF (hc : Cx x cc own rm0) {a : Int32} {off : Int} {tgt : Nat} (hd : decode cc pc = .ok (.ifCond .lt off, 3)) (ht : (pc : Int) + off = (tgt : Int)) (hn : ¬ a < 0) (k : Rn x kc ks (pc + 3) lv st h) : Rn x kc ks pc lv (.int a :: st) h := fun H locs ls hl hS hP => lv_if_lt hc.1 hc.2.1 hd ht (fun hh => absurd hh hn) (fun _ => k H locs ls hl hS hP)
theorem R_icmp_ltT (hc : Cx x cc own rm0) {a b : Int32} {off : Int} {tgt : Nat} (hd : decode cc pc = .ok (.if_icmp .lt off, 3)) (ht : (pc : Int) + off = (tgt : Int)) (hn : a < b) (k : Rn x kc ks tgt lv st h) : Rn x kc ks pc lv (.int b :: .int a :: st) h := fun H locs ls hl hS hP => lv_icmp_lt hc.1 hc.2.1 hd ht (fun _ => k H locs ls hl hS hP) (fun hh => absurd hn hh)
theorem R_compact (hc : Cx x cc RJ0 rm0) (hd : decode cc pc = .ok (.getstatic 38, 3)) (k : Rn x kc ks (pc + 3) lv (.int 1 :: st) h) : Rn x kc ks pc lv st h := fun H locs ls hl hS hP => va_gets hc.1 hc.2.1 hc.sk.2.1 hS hc.2.2.2.1 (hc.ts _ fw_J0_38) (fun _ h => h) hd (k H locs ls hl hS hP)
theorem R_fmt (hc : Cx x cc RJ0 rm0) (hd : decode cc pc = .ok (.getstatic 1053, 3)) (k : ∀ v : Value, v.category = 1 → Rn x kc ks (pc + 3) lv (v :: st) h) : Rn x kc ks pc lv st h := by
  intro H locs ls hl hS hP
  rcases hc.sk.2.2.1 with hz | ⟨t, hz⟩
  · exact va_gets hc.1 hc.2.1 hz hS hc.2.2.2.1 (hc.ts _ fw_J0_1053) (fun _ h => h) hd (k _ rfl H locs ls hl hS hP)
  · exact va_gets hc.1 hc.2.1 hz hS hc.2.2.2.1 (hc.ts _ fw_J0_1053) (fun _ h => h) hd (k _ rfl H locs ls hl hS hP)
theorem R_scoder (hc : Cx x cc RJ0 rm0) {i : Nat} (hi : i < 8) (hd : decode cc pc = .ok (.getfield 15, 3)) (k : Rn x kc ks (pc + 3) lv (.int 0 :: st) h) : Rn x kc ks pc lv (.ref (x.w.aS i) :: st) h := fun H locs ls hl hS hP => vk_getf hc.1 hc.2.1 (hc.sk.1.1 i hi).2.1 hS hc.2.2.2.1 (hc.ts _ fw_J0_15) (fun _ h => h) hd (k H locs ls hl hS hP)
theorem R_svalue (hc : Cx x cc RJ0 rm0) {i : Nat} (hi : i < 8) (hd : decode cc pc = .ok (.getfield 9, 3)) (k : Rn x kc ks (pc + 3) lv (.ref (x.w.aV i) :: st) h) : Rn x kc ks pc lv (.ref (x.w.aS i) :: st) h := fun H locs ls hl hS hP => vk_getf hc.1 hc.2.1 (hc.sk.1.1 i hi).2.2.1 hS hc.2.2.2.1 (hc.ts _ fw_J0_9) (fun _ h => h) hd (k H locs ls hl hS hP)
theorem R_slenA (hc : Cx x cc own rm0) {i : Nat} (hi : i < 8) (hd : decode cc pc = .ok (.arraylength, 1)) (k : Rn x kc ks (pc + 1) lv (.int (Int32.ofNat (lenS.getD i 0)) :: st) h) : Rn x kc ks pc lv (.ref (x.w.aV i) :: st) h := fun H locs ls hl hS hP => va_tlen hc.1 hc.2.1 (hc.sk.1.1 i hi).2.2.2 hS rfl hd (k H locs ls hl hS hP)
theorem R_sbald (hc : Cx x cc own rm0) {i : Nat} {j : Int32} (hi : i < 8) (hj : vp_in j (lenS.getD i 0)) (hd : decode cc pc = .ok (.baload, 1)) (k : Rn x kc ks (pc + 1) lv (.int ((bytS.getD i []).getD j.toNatClampNeg 0) :: st) h) : Rn x kc ks pc lv (.int j :: .ref (x.w.aV i) :: st) h := fun H locs ls hl hS hP => va_tb hc.1 hc.2.1 (hc.sk.1.1 i hi).2.2.2 hS hj rfl hd (k H locs ls hl hS hP)
theorem R_i2c (hc : Cx x cc own rm0) {a : Int32} (hd : decode cc pc = .ok (.i2c, 1)) (k : Rn x kc ks (pc + 1) lv (.int (a.toUInt32 % 65536).toInt32 :: st) h) : Rn x kc ks pc lv (.int a :: st) h := fun H locs ls hl hS hP => lv_i2c hc.1 hc.2.1 hd rfl (k H locs ls hl hS hP)
theorem R_pop (hc : Cx x cc own rm0) {v : Value} (hv : v.category = 1) (hd : decode cc pc = .ok (.pop, 1)) (k : Rn x kc ks (pc + 1) lv st h) : Rn x kc ks pc lv (v :: st) h := fun H locs ls hl hS hP => lv_pop hc.1 hc.2.1 hd hv (k H locs ls hl hS hP)
theorem runVS {y : MethodName} {b : ByteArray} {mL n idx mc ms i : Nat} {ret : Option FieldType} {rm : Room} {Qc : Array Value → State → Outcome → State → Prop} {As rest : List Value} (hc : Cx x cc own rm0) (ml : Cond.methodLink own idx y ∈ Tg) (mf : MfV y b mL ret n) (hy : y.cls = "java/lang/String") (hi : i < 8) (hrm : rm.cells = mc ∧ rm.slots = ms) (hR : rm.frames + 1 ≤ rm0.frames ∧ 8 + (mL + 11) + rm.locals ≤ rm0.locals) (hf : kc + mc ≤ rm0.cells ∧ ks + ms ≤ rm0.slots) (hM : Met x.l y (.code y b mL ret :: Tg) rm (va_Pc (.ref (x.w.aS i) :: As) (RepS x.w h)) Qc mc ms x.w.A) (hn : As.length = n) (hst : st = As.reverse ++ .ref (x.w.aS i) :: rest) (hroom : (rest.map fun v => v.category).sum ≤ 8) (hd : decode cc pc = .ok (.invokevirtual idx, 3)) : ∀ (H : Heap) (locs : List Loc) (ls : Array Slot), lv_has ls x.nL lv → va_S x.w.A x.s.heap H locs → Rep x.w h H → va_Run x.p x.l x.e x.rm x.s x.m x.a x.bl x.mt x.c H locs kc ks mc ms (F0 x.m pc ls st) rest (Qc (.ref (x.w.aS i) :: As).toArray) x.w.A := by
  intro H locs ls hl hS hP
  exact va_runV (b := x.w.aS i) (C := y.cls) (As := As) (rest := rest) (cfix hc) hM ⟨cb hc ml mf.1 hrm hR, hc.ts _ mf.2.1, hc.ts _ mf.2.2⟩ ⟨RepS.blind _, by rw [hy]; exact vk_recv hc.sk.1 hi hS, fun U hU hW => ⟨rfl, hc.rep hS hP U hU hW⟩⟩ rfl hn hl.1 hst (lv_room hroom) hd (by rw [hc.r]; exact hf)
end
abbrev rm_J3_checkIndex_8e157 : Room := { frames := 0, cells := 0, slots := 0, locals := 0 }
abbrev rm_J0_checkIndex_df160 : Room := { frames := 1, cells := 0, slots := 0, locals := 22 }
abbrev rm_J1_charAt_3b067 : Room := { frames := 2, cells := 0, slots := 0, locals := 43 }
abbrev rm_J0_coder_7d493 : Room := { frames := 0, cells := 0, slots := 0, locals := 0 }
abbrev rm_J0_isLatin1_aae02 : Room := { frames := 0, cells := 0, slots := 0, locals := 0 }
abbrev rm_J0_length_8abf5 : Room := { frames := 1, cells := 0, slots := 0, locals := 20 }
abbrev rm_J0_charAt_5068e : Room := { frames := 3, cells := 0, slots := 0, locals := 64 }
theorem mt_J3_checkIndex_8e157 {w : WD} {l : Launch} {i n : Int32} {v : Value} {h : HP} (hv : v.category = 1) (hi : ¬ i < 0) (hn : i < n) : MI w l yJ3_checkIndex_8e157 cJ3_checkIndex_8e157 3 .int rm_J3_checkIndex_8e157 0 0 [.int i, .int n, v] h i h := by
  refine of_body [(0, .int i), (1, .int n), (2, v)] (by decide) (by simp [lg_sl, cat_i, hv]) (by simp [lv_args, cat_i, hv]) ?_
  intro x hw_ hnL_ hl_ hc hret hnm hQ
  subst hw_; subst hl_
  refine R_iload_n (q := 0) (i := 0) (v := i) hc dJ3_checkIndex_8e157_0 rfl rfl ?_
  refine R_if_ltF (tgt := 9) hc dJ3_checkIndex_8e157_1 (by decide) hi ?_
  refine R_iload_n (q := 0) (i := 0) (v := i) hc dJ3_checkIndex_8e157_4 rfl rfl ?_
  refine R_iload_n (q := 1) (i := 1) (v := n) hc dJ3_checkIndex_8e157_5 rfl rfl ?_
  refine R_icmp_ltT (tgt := 16) hc dJ3_checkIndex_8e157_6 (by decide) hn ?_
  refine R_iload_n (q := 0) (i := 0) (v := i) hc dJ3_checkIndex_8e157_16 rfl rfl ?_
  exact R_ireturnP hc hret rfl hQ ⟨_, rfl, rfl⟩ dJ3_checkIndex_8e157_17
theorem mt_J0_checkIndex_df160 {w : WD} {l : Launch} {i n : Int32} {h : HP} (hi : ¬ i < 0) (hn : i < n) : MV w l yJ0_checkIndex_df160 cJ0_checkIndex_df160 2 rm_J0_checkIndex_df160 0 0 [.int i, .int n] h h := by
  refine of_body [(0, .int i), (1, .int n)] (by decide) (by simp [lg_sl, cat_i]) (by simp [lv_args, cat_i]) ?_
  intro x hw_ hnL_ hl_ hc hret hnm hQ
  subst hw_; subst hl_
  refine R_iload_n (q := 0) (i := 0) (v := i) hc dJ0_checkIndex_df160_0 rfl rfl ?_
  refine R_iload_n (q := 1) (i := 1) (v := n) hc dJ0_checkIndex_df160_1 rfl rfl ?_
  refine R_fmt hc dJ0_checkIndex_df160_2 (fun v hv => ?_)
  refine R_afI hc (runS (mc := 0) (ms := 0) (As := [.int i, .int n, v]) (rest := []) hc ml_J0_1059 mf_J3_checkIndex_8e157 ⟨rfl, rfl⟩ ⟨le_b rfl, le_b rfl⟩ ⟨Nat.zero_le _, Nat.zero_le _⟩ (mt_J3_checkIndex_8e157 hv hi hn) rfl rfl (Nat.zero_le _) dJ0_checkIndex_df160_5) ?_
  refine R_pop hc (cat_i _) dJ0_checkIndex_df160_8 ?_
  exact R_return hc hret hQ ⟨_, rfl, rfl⟩ dJ0_checkIndex_df160_9
theorem mt_J1_charAt_3b067 {w : WD} {l : Launch} {k : Nat} {i : Int32} {h : HP} (hk : k < 8) (hi : vp_in i (lenS.getD k 0)) : MI w l yJ1_charAt_3b067 cJ1_charAt_3b067 2 .char rm_J1_charAt_3b067 0 0 [.ref (w.aV k), .int i] h (sCh k i.toNatClampNeg) h := by
  refine of_body [(0, .ref (w.aV k)), (1, .int i)] (by decide) (by simp [lg_sl, cat_i, cat_a]) (by simp [lv_args, cat_i, cat_a]) ?_
  intro x hw_ hnL_ hl_ hc hret hnm hQ
  subst hw_; subst hl_
  have hlen : ∀ k, k < 8 → lenS.getD k 0 < 100 := by decide
  obtain ⟨j, hj, ej⟩ := vp_in_of hi (by have := hlen k hk; omega)
  have hi0 : ¬ i < 0 := by rw [ej]; exact nI_pos (by have := hlen k hk; omega)
  have hin : i < Int32.ofNat (lenS.getD k 0) := by rw [ej]; exact nI_lt hj (by have := hlen k hk; omega)
  refine R_iload_n (q := 1) (i := 1) (v := i) hc dJ1_charAt_3b067_0 rfl rfl ?_
  refine R_aloadV (q := 0) (i := 0) hc dJ1_charAt_3b067_1 rfl rfl ?_
  refine R_slenA hc hk dJ1_charAt_3b067_2 ?_
  refine R_afV hc (runS (mc := 0) (ms := 0) (As := [.int i, .int (Int32.ofNat (lenS.getD k 0))]) (rest := []) hc ml_J1_9 mf_J0_checkIndex_df160 ⟨rfl, rfl⟩ ⟨le_b rfl, le_b rfl⟩ ⟨Nat.zero_le _, Nat.zero_le _⟩ (mt_J0_checkIndex_df160 hi0 hin) rfl rfl (Nat.zero_le _) dJ1_charAt_3b067_3) ?_
  refine R_aloadV (q := 0) (i := 0) hc dJ1_charAt_3b067_6 rfl rfl ?_
  refine R_iload_n (q := 1) (i := 1) (v := i) hc dJ1_charAt_3b067_7 rfl rfl ?_
  refine R_sbald hc hk hi dJ1_charAt_3b067_8 ?_
  refine R_sipush (v := 255) hc dJ1_charAt_3b067_9 (by decide) ?_
  refine R_iand hc dJ1_charAt_3b067_12 ?_
  refine R_i2c hc dJ1_charAt_3b067_13 ?_
  exact R_ireturnP hc hret (pk_nc _) hQ ⟨_, rfl, rfl⟩ dJ1_charAt_3b067_14
theorem mt_J0_isLatin1_aae02 {w : WD} {l : Launch} {k : Nat} {h : HP} (hk : k < 8) : MI w l yJ0_isLatin1_aae02 cJ0_isLatin1_aae02 1 .boolean rm_J0_isLatin1_aae02 0 0 [.ref (w.aS k)] h 1 h := by
  refine of_body [(0, .ref (w.aS k))] (by decide) (by simp [lg_sl, cat_i, cat_a]) (by simp [lv_args, cat_i, cat_a]) ?_
  intro x hw_ hnL_ hl_ hc hret hnm hQ
  subst hw_; subst hl_
  refine R_compact hc dJ0_isLatin1_aae02_0 ?_
  refine R_if_eqF (tgt := 17) hc dJ0_isLatin1_aae02_3 (by decide) (by decide) ?_
  refine R_aloadV (q := 0) (i := 0) hc dJ0_isLatin1_aae02_6 rfl rfl ?_
  refine R_scoder hc hk dJ0_isLatin1_aae02_7 ?_
  refine R_if_neF (tgt := 17) hc dJ0_isLatin1_aae02_10 (by decide) rfl ?_
  refine R_iconst (v := 1) hc dJ0_isLatin1_aae02_13 (by decide) ?_
  refine R_goto (tgt := 18) hc dJ0_isLatin1_aae02_14 (by decide) ?_
  exact R_ireturnP hc hret rfl hQ ⟨_, rfl, rfl⟩ dJ0_isLatin1_aae02_18
theorem mt_J0_coder_7d493 {w : WD} {l : Launch} {k : Nat} {h : HP} (hk : k < 8) : MI w l yJ0_coder_7d493 cJ0_coder_7d493 1 .byte rm_J0_coder_7d493 0 0 [.ref (w.aS k)] h 0 h := by
  refine of_body [(0, .ref (w.aS k))] (by decide) (by simp [lg_sl, cat_i, cat_a]) (by simp [lv_args, cat_i, cat_a]) ?_
  intro x hw_ hnL_ hl_ hc hret hnm hQ
  subst hw_; subst hl_
  refine R_compact hc dJ0_coder_7d493_0 ?_
  refine R_if_eqF (tgt := 13) hc dJ0_coder_7d493_3 (by decide) (by decide) ?_
  refine R_aloadV (q := 0) (i := 0) hc dJ0_coder_7d493_6 rfl rfl ?_
  refine R_scoder hc hk dJ0_coder_7d493_7 ?_
  refine R_goto (tgt := 14) hc dJ0_coder_7d493_10 (by decide) ?_
  exact R_ireturnP hc hret rfl hQ ⟨_, rfl, rfl⟩ dJ0_coder_7d493_14
theorem mt_J0_length_8abf5 {w : WD} {l : Launch} {k : Nat} {h : HP} (hk : k < 8) : MI w l yJ0_length_8abf5 cJ0_length_8abf5 1 .int rm_J0_length_8abf5 0 0 [.ref (w.aS k)] h (jshr (Int32.ofNat (lenS.getD k 0)) 0) h := by
  refine of_body [(0, .ref (w.aS k))] (by decide) (by simp [lg_sl, cat_i, cat_a]) (by simp [lv_args, cat_i, cat_a]) ?_
  intro x hw_ hnL_ hl_ hc hret hnm hQ
  subst hw_; subst hl_
  refine R_aloadV (q := 0) (i := 0) hc dJ0_length_8abf5_0 rfl rfl ?_
  refine R_svalue hc hk dJ0_length_8abf5_1 ?_
  refine R_slenA hc hk dJ0_length_8abf5_4 ?_
  refine R_aloadV (q := 0) (i := 0) hc dJ0_length_8abf5_5 rfl rfl ?_
  refine R_afI hc (runVS (mc := 0) (ms := 0) (As := []) (rest := [.int (Int32.ofNat (lenS.getD k 0))]) hc ml_J0_335 mf_J0_coder_7d493 rfl hk ⟨rfl, rfl⟩ ⟨le_b rfl, le_b rfl⟩ ⟨Nat.zero_le _, Nat.zero_le _⟩ (mt_J0_coder_7d493 hk) rfl rfl (le_b rfl) dJ0_length_8abf5_6) ?_
  refine R_ishr hc dJ0_length_8abf5_9 ?_
  exact R_ireturnP hc hret rfl hQ ⟨_, rfl, rfl⟩ dJ0_length_8abf5_10
theorem mt_J0_charAt_5068e {w : WD} {l : Launch} {k : Nat} {i : Int32} {h : HP} (hk : k < 8) (hi : vp_in i (lenS.getD k 0)) : MI w l yJ0_charAt_5068e cJ0_charAt_5068e 2 .char rm_J0_charAt_5068e 0 0 [.ref (w.aS k), .int i] h (sCh k i.toNatClampNeg) h := by
  refine of_body [(0, .ref (w.aS k)), (1, .int i)] (by decide) (by simp [lg_sl, cat_i, cat_a]) (by simp [lv_args, cat_i, cat_a]) ?_
  intro x hw_ hnL_ hl_ hc hret hnm hQ
  subst hw_; subst hl_
  refine R_aloadV (q := 0) (i := 0) hc dJ0_charAt_5068e_0 rfl rfl ?_
  refine R_afI hc (runVS (mc := 0) (ms := 0) (As := []) (rest := []) hc ml_J0_492 mf_J0_isLatin1_aae02 rfl hk ⟨rfl, rfl⟩ ⟨le_b rfl, le_b rfl⟩ ⟨Nat.zero_le _, Nat.zero_le _⟩ (mt_J0_isLatin1_aae02 hk) rfl rfl (Nat.zero_le _) dJ0_charAt_5068e_1) ?_
  refine R_if_eqF (tgt := 16) hc dJ0_charAt_5068e_4 (by decide) (by decide) ?_
  refine R_aloadV (q := 0) (i := 0) hc dJ0_charAt_5068e_7 rfl rfl ?_
  refine R_svalue hc hk dJ0_charAt_5068e_8 ?_
  refine R_iload_n (q := 1) (i := 1) (v := i) hc dJ0_charAt_5068e_11 rfl rfl ?_
  refine R_afI hc (runS (mc := 0) (ms := 0) (As := [.ref (x.w.aV k), .int i]) (rest := []) hc ml_J0_495 mf_J1_charAt_3b067 ⟨rfl, rfl⟩ ⟨le_b rfl, le_b rfl⟩ ⟨Nat.zero_le _, Nat.zero_le _⟩ (mt_J1_charAt_3b067 hk hi) rfl rfl (Nat.zero_le _) dJ0_charAt_5068e_12) ?_
  exact R_ireturnP hc hret (pk_nc _) hQ ⟨_, rfl, rfl⟩ dJ0_charAt_5068e_15
section
variable {x : CX} {cc : ByteArray} {own : String} {rm0 : Room} {kc ks pc : Nat} {lv : List (Nat × Value)} {st rest : List Value} {h : HP} {α : Type} {C : α → Prop} {idx k : Nat}
theorem R_slen (hc : Cx x cc own rm0) {f : Int32 → Option α} (ml : Cond.methodLink own idx yJ0_length_8abf5 ∈ Tg) (hR : 1 + 1 ≤ rm0.frames ∧ 8 + (1 + 11) + 20 ≤ rm0.locals) (hf : kc ≤ rm0.cells ∧ ks ≤ rm0.slots) (hroom : (rest.map fun v => v.category).sum ≤ 8) (hd : decode cc pc = .ok (.invokevirtual idx, 3)) (hw : wpO ((sLen k).bind f) C) (kk : ∀ v, wpO (f v) C → Rn x kc ks (pc + 3) lv (.int v :: rest) h) : Rn x kc ks pc lv (.ref (x.w.aS k) :: rest) h := by
  obtain ⟨v, e, hw⟩ := wpO_bind hw
  unfold sLen at e
  by_cases hk : k < 8
  · rw [if_pos hk] at e; cases e
    exact R_afI hc (runVS (mc := 0) (ms := 0) (As := []) (rest := rest) hc ml mf_J0_length_8abf5 rfl hk ⟨rfl, rfl⟩ hR hf (mt_J0_length_8abf5 hk) rfl rfl hroom hd) (kk _ hw)
  · rw [if_neg hk] at e; cases e
theorem R_sat (hc : Cx x cc own rm0) {i : Int32} {f : Int32 → Option α} (ml : Cond.methodLink own idx yJ0_charAt_5068e ∈ Tg) (hR : 3 + 1 ≤ rm0.frames ∧ 8 + (2 + 11) + 64 ≤ rm0.locals) (hf : kc ≤ rm0.cells ∧ ks ≤ rm0.slots) (hroom : (rest.map fun v => v.category).sum ≤ 8) (hd : decode cc pc = .ok (.invokevirtual idx, 3)) (hw : wpO ((sAt k i).bind f) C) (kk : ∀ v, wpO (f v) C → Rn x kc ks (pc + 3) lv (.int v :: rest) h) : Rn x kc ks pc lv (.int i :: .ref (x.w.aS k) :: rest) h := by
  obtain ⟨v, e, hw⟩ := wpO_bind hw
  unfold sAt at e
  by_cases hk : k < 8 ∧ 0 ≤ i ∧ i.toNatClampNeg < lenS.getD k 0
  · rw [if_pos hk] at e; cases e
    have hi : vp_in i (lenS.getD k 0) := by
      intro hh
      rcases hh with hh | hh
      · have e1 := Int32.lt_iff_toInt_lt.mp hh
        have e2 := Int32.le_iff_toInt_le.mp hk.2.1
        omega
      · omega
    exact R_afI hc (runVS (mc := 0) (ms := 0) (As := [.int i]) (rest := rest) hc ml mf_J0_charAt_5068e rfl hk.1 ⟨rfl, rfl⟩ hR hf (mt_J0_charAt_5068e hk.1 hi) rfl rfl hroom hd) (kk _ hw)
  · rw [if_neg hk] at e; cases e
end
