def sC0 (F : Nat) (xs : Nat → Int32) (L xa ma oa : Nat) (i : Int32) (h : HP) : Option (Option HP) :=
  (scrI xs L (i + (1 : Int32))).bind fun t1 =>
  (scrI xs L (i + (2 : Int32))).bind fun t2 =>
  (scrI xs L (i + (3 : Int32))).bind fun t3 =>
  (scrI xs L (i + (4 : Int32))).bind fun t4 =>
  (scrI xs L (i + (5 : Int32))).bind fun t5 =>
  (dO h 10 (some xa)).bind fun a6 =>
  bd2 (sX10_feed F a6 t1 t2 t3 t4 t5 h) fun t7 h8 =>
  (scrI xs L (i + (1 : Int32))).bind fun t9 =>
  (scrI xs L (i + (2 : Int32))).bind fun t10 =>
  (scrI xs L (i + (3 : Int32))).bind fun t11 =>
  (scrI xs L (i + (4 : Int32))).bind fun t12 =>
  (scrI xs L (i + (5 : Int32))).bind fun t13 =>
  (dO h8 11 (some ma)).bind fun a14 =>
  bd2 (sX11_feed F a14 t9 t10 t11 t12 t13 h8) fun t15 h16 =>
  if t7 = t15 then
    some (some h16)
  else
    some none
set_option maxRecDepth 100000 in
set_option maxHeartbeats 4000000 in
theorem mC0 {x : CX} (hc : Cx x cL_law RL room_1) (hlt : x.l.stackTraces = false) (hnl : ∀ i, i < 8 → i < x.nL) {F : Nat} {xs : Nat → Int32} {b L xa ma oa kc ks : Nat} (hsc : Scr x b L xs) (hk1 : kc ≤ room_1.cells ∧ ks ≤ room_1.slots) (hk2 : kc + 1 ≤ room_1.cells ∧ ks + 6 ≤ room_1.slots) {i : Int32} {h : HP} {C : Option HP → Prop} (hbr : ∀ h', C (some h') → Rn x (kc + 1) (ks + 6) 1895 [(0, .ref b), (1, rf x.w (some xa)), (2, rf x.w (some ma)), (3, rf x.w (some oa)), (4, .int i)] [] h') (hno : ¬ C none) (hw : wpO (sC0 F xs L xa ma oa i h) C) : Rn x kc ks 196 [(0, .ref b), (1, rf x.w (some xa)), (2, rf x.w (some ma)), (3, rf x.w (some oa)), (4, .int i)] [] h := by
  unfold sC0 at hw
  refine R_aload_n (q := 1) (i := 1) (v := (some xa)) hc dL_law_196 rfl rfl ?_
  refine R_aloadV (q := 0) (i := 0) hc dL_law_197 rfl rfl ?_
  refine R_iload (q := 4) (i := 4) (v := i) hc dL_law_198 rfl ?_
  refine R_iconst (v := (1 : Int32)) hc dL_law_200 kI_1 ?_
  refine R_iadd hc dL_law_201 ?_
  refine R_scr hc hsc dL_law_202 hw (fun t1 hw => ?_)
  refine R_aloadV (q := 0) (i := 0) hc dL_law_203 rfl rfl ?_
  refine R_iload (q := 4) (i := 4) (v := i) hc dL_law_204 rfl ?_
  refine R_iconst (v := (2 : Int32)) hc dL_law_206 kI_2 ?_
  refine R_iadd hc dL_law_207 ?_
  refine R_scr hc hsc dL_law_208 hw (fun t2 hw => ?_)
  refine R_aloadV (q := 0) (i := 0) hc dL_law_209 rfl rfl ?_
  refine R_iload (q := 4) (i := 4) (v := i) hc dL_law_210 rfl ?_
  refine R_iconst (v := (3 : Int32)) hc dL_law_212 kI_3 ?_
  refine R_iadd hc dL_law_213 ?_
  refine R_scr hc hsc dL_law_214 hw (fun t3 hw => ?_)
  refine R_aloadV (q := 0) (i := 0) hc dL_law_215 rfl rfl ?_
  refine R_iload (q := 4) (i := 4) (v := i) hc dL_law_216 rfl ?_
  refine R_iconst (v := (4 : Int32)) hc dL_law_218 kI_4 ?_
  refine R_iadd hc dL_law_219 ?_
  refine R_scr hc hsc dL_law_220 hw (fun t4 hw => ?_)
  refine R_aloadV (q := 0) (i := 0) hc dL_law_221 rfl rfl ?_
  refine R_iload (q := 4) (i := 4) (v := i) hc dL_law_222 rfl ?_
  refine R_iconst (v := (5 : Int32)) hc dL_law_224 kI_5 ?_
  refine R_iadd hc dL_law_225 ?_
  refine R_scr hc hsc dL_law_226 hw (fun t5 hw => ?_)
  refine R_cVIi (As := [.int t1, .int t2, .int t3, .int t4, .int t5]) (rest := []) (r := (some xa)) (ci := 10) hc ml_L_92 mf_X10_feed rfl (by decide) ⟨rfl, rfl⟩ ⟨le_b rfl, le_b rfl⟩ hk1 (fun a v h' e => mt_X10_feed e) rfl rfl (Nat.zero_le _) dL_law_227 hw (fun t7 h8 hw => ?_)
  refine R_aload_n (q := 2) (i := 2) (v := (some ma)) hc dL_law_230 rfl rfl ?_
  refine R_aloadV (q := 0) (i := 0) hc dL_law_231 rfl rfl ?_
  refine R_iload (q := 4) (i := 4) (v := i) hc dL_law_232 rfl ?_
  refine R_iconst (v := (1 : Int32)) hc dL_law_234 kI_1 ?_
  refine R_iadd hc dL_law_235 ?_
  refine R_scr hc hsc dL_law_236 hw (fun t9 hw => ?_)
  refine R_aloadV (q := 0) (i := 0) hc dL_law_237 rfl rfl ?_
  refine R_iload (q := 4) (i := 4) (v := i) hc dL_law_238 rfl ?_
  refine R_iconst (v := (2 : Int32)) hc dL_law_240 kI_2 ?_
  refine R_iadd hc dL_law_241 ?_
  refine R_scr hc hsc dL_law_242 hw (fun t10 hw => ?_)
  refine R_aloadV (q := 0) (i := 0) hc dL_law_243 rfl rfl ?_
  refine R_iload (q := 4) (i := 4) (v := i) hc dL_law_244 rfl ?_
  refine R_iconst (v := (3 : Int32)) hc dL_law_246 kI_3 ?_
  refine R_iadd hc dL_law_247 ?_
  refine R_scr hc hsc dL_law_248 hw (fun t11 hw => ?_)
  refine R_aloadV (q := 0) (i := 0) hc dL_law_249 rfl rfl ?_
  refine R_iload (q := 4) (i := 4) (v := i) hc dL_law_250 rfl ?_
  refine R_iconst (v := (4 : Int32)) hc dL_law_252 kI_4 ?_
  refine R_iadd hc dL_law_253 ?_
  refine R_scr hc hsc dL_law_254 hw (fun t12 hw => ?_)
  refine R_aloadV (q := 0) (i := 0) hc dL_law_255 rfl rfl ?_
  refine R_iload (q := 4) (i := 4) (v := i) hc dL_law_256 rfl ?_
  refine R_iconst (v := (5 : Int32)) hc dL_law_258 kI_5 ?_
  refine R_iadd hc dL_law_259 ?_
  refine R_scr hc hsc dL_law_260 hw (fun t13 hw => ?_)
  refine R_cVIi (As := [.int t9, .int t10, .int t11, .int t12, .int t13]) (rest := [.int t7]) (r := (some ma)) (ci := 11) hc ml_L_96 mf_X11_feed rfl (by decide) ⟨rfl, rfl⟩ ⟨le_b rfl, le_b rfl⟩ hk1 (fun a v h' e => mt_X11_feed e) rfl rfl (le_b rfl) dL_law_261 hw (fun t15 h16 hw => ?_)
  refine R_icmp_eq (tgt := 1895) hc dL_law_264 (by decide) hw (fun hw => ?_) (fun hw => ?_)
  · refine R_wide (k := kc + 1) (n := ks + 6) (Nat.le_succ _) (Nat.le_add_right _ _) ?_
    refine R_sub hc [0, 1, 2, 3, 4] rfl ?_
    exact hbr _ (wpO_some hw :)
  · refine R_iconst (v := (0 : Int32)) hc dL_law_267 kI_0 ?_
    exact absurd (wpO_some hw :) hno
def sC1 (F : Nat) (xs : Nat → Int32) (L xa ma oa : Nat) (i : Int32) (h : HP) : Option (Option HP) :=
  (scrI xs L (i + (1 : Int32))).bind fun t1 =>
  (dO h 10 (some xa)).bind fun a2 =>
  bd2 (sX10_end F a2 t1 h) fun t3 h4 =>
  (scrI xs L (i + (1 : Int32))).bind fun t5 =>
  (dO h4 11 (some ma)).bind fun a6 =>
  bd2 (sX11_end F a6 t5 h4) fun t7 h8 =>
  if t3 = t7 then
    some (some h8)
  else
    some none
set_option maxRecDepth 100000 in
set_option maxHeartbeats 4000000 in
theorem mC1 {x : CX} (hc : Cx x cL_law RL room_1) (hlt : x.l.stackTraces = false) (hnl : ∀ i, i < 8 → i < x.nL) {F : Nat} {xs : Nat → Int32} {b L xa ma oa kc ks : Nat} (hsc : Scr x b L xs) (hk1 : kc ≤ room_1.cells ∧ ks ≤ room_1.slots) (hk2 : kc + 1 ≤ room_1.cells ∧ ks + 6 ≤ room_1.slots) {i : Int32} {h : HP} {C : Option HP → Prop} (hbr : ∀ h', C (some h') → Rn x (kc + 1) (ks + 6) 1895 [(0, .ref b), (1, rf x.w (some xa)), (2, rf x.w (some ma)), (3, rf x.w (some oa)), (4, .int i)] [] h') (hno : ¬ C none) (hw : wpO (sC1 F xs L xa ma oa i h) C) : Rn x kc ks 269 [(0, .ref b), (1, rf x.w (some xa)), (2, rf x.w (some ma)), (3, rf x.w (some oa)), (4, .int i)] [] h := by
  unfold sC1 at hw
  refine R_aload_n (q := 1) (i := 1) (v := (some xa)) hc dL_law_269 rfl rfl ?_
  refine R_aloadV (q := 0) (i := 0) hc dL_law_270 rfl rfl ?_
  refine R_iload (q := 4) (i := 4) (v := i) hc dL_law_271 rfl ?_
  refine R_iconst (v := (1 : Int32)) hc dL_law_273 kI_1 ?_
  refine R_iadd hc dL_law_274 ?_
  refine R_scr hc hsc dL_law_275 hw (fun t1 hw => ?_)
  refine R_cVIi (As := [.int t1]) (rest := []) (r := (some xa)) (ci := 10) hc ml_L_97 mf_X10_end rfl (by decide) ⟨rfl, rfl⟩ ⟨le_b rfl, le_b rfl⟩ hk1 (fun a v h' e => mt_X10_end e) rfl rfl (Nat.zero_le _) dL_law_276 hw (fun t3 h4 hw => ?_)
  refine R_aload_n (q := 2) (i := 2) (v := (some ma)) hc dL_law_279 rfl rfl ?_
  refine R_aloadV (q := 0) (i := 0) hc dL_law_280 rfl rfl ?_
  refine R_iload (q := 4) (i := 4) (v := i) hc dL_law_281 rfl ?_
  refine R_iconst (v := (1 : Int32)) hc dL_law_283 kI_1 ?_
  refine R_iadd hc dL_law_284 ?_
  refine R_scr hc hsc dL_law_285 hw (fun t5 hw => ?_)
  refine R_cVIi (As := [.int t5]) (rest := [.int t3]) (r := (some ma)) (ci := 11) hc ml_L_101 mf_X11_end rfl (by decide) ⟨rfl, rfl⟩ ⟨le_b rfl, le_b rfl⟩ hk1 (fun a v h' e => mt_X11_end e) rfl rfl (le_b rfl) dL_law_286 hw (fun t7 h8 hw => ?_)
  refine R_icmp_eq (tgt := 1895) hc dL_law_289 (by decide) hw (fun hw => ?_) (fun hw => ?_)
  · refine R_wide (k := kc + 1) (n := ks + 6) (Nat.le_succ _) (Nat.le_add_right _ _) ?_
    refine R_sub hc [0, 1, 2, 3, 4] rfl ?_
    exact hbr _ (wpO_some hw :)
  · refine R_iconst (v := (0 : Int32)) hc dL_law_292 kI_0 ?_
    exact absurd (wpO_some hw :) hno
def sC2 (F : Nat) (xs : Nat → Int32) (L xa ma oa : Nat) (i : Int32) (h : HP) : Option (Option HP) :=
  bd2 (sL_cell F (some xa) (some oa) h) fun t1 h2 =>
  (dO h2 11 (some ma)).bind fun a3 =>
  bd2 (sX11_cell F a3 h2) fun t4 h5 =>
  (dO h5 11 (some ma)).bind fun a6 =>
  (sX11_thrown F a6 h5).bind fun t7 =>
  if t7 = t1 then
    if ¬ t1 = 0 then
      some (some h5)
    else
      (aJ h5 (some oa) (0 : Int32)).bind fun t8 =>
      if (lg_cmp t8 t4.toInt64) = 0 then
        some (some h5)
      else
        some none
  else
    some none
set_option maxRecDepth 100000 in
set_option maxHeartbeats 4000000 in
theorem mC2 {x : CX} (hc : Cx x cL_law RL room_1) (hlt : x.l.stackTraces = false) (hnl : ∀ i, i < 8 → i < x.nL) {F : Nat} {xs : Nat → Int32} {b L xa ma oa kc ks : Nat} (hsc : Scr x b L xs) (hk1 : kc ≤ room_1.cells ∧ ks ≤ room_1.slots) (hk2 : kc + 1 ≤ room_1.cells ∧ ks + 6 ≤ room_1.slots) {i : Int32} {h : HP} {C : Option HP → Prop} (hbr : ∀ h', C (some h') → Rn x (kc + 1) (ks + 6) 1895 [(0, .ref b), (1, rf x.w (some xa)), (2, rf x.w (some ma)), (3, rf x.w (some oa)), (4, .int i)] [] h') (hno : ¬ C none) (hw : wpO (sC2 F xs L xa ma oa i h) C) : Rn x kc ks 294 [(0, .ref b), (1, rf x.w (some xa)), (2, rf x.w (some ma)), (3, rf x.w (some oa)), (4, .int i)] [] h := by
  unfold sC2 at hw
  refine R_aload_n (q := 1) (i := 1) (v := (some xa)) hc dL_law_294 rfl rfl ?_
  refine R_aload_n (q := 3) (i := 3) (v := (some oa)) hc dL_law_295 rfl rfl ?_
  refine R_cW (As := [rf x.w (some xa), rf x.w (some oa)]) (rest := []) hc ml_L_102 mf_L_cell ⟨rfl, rfl⟩ ⟨le_b rfl, le_b rfl⟩ hk2 (fun v h' e => mt_L_cell hlt e) rfl rfl (Nat.zero_le _) dL_law_296 hw (fun t1 h2 hw => ?_)
  refine R_istore (i := 5) (v := t1) hc [(5, .int t1), (0, .ref b), (1, rf x.w (some xa)), (2, rf x.w (some ma)), (3, rf x.w (some oa)), (4, .int i)] dL_law_299 (hnl 5 (le_b rfl)) rfl ?_
  refine R_aload_n (q := 3) (i := 2) (v := (some ma)) hc dL_law_301 rfl rfl ?_
  refine R_cVIi (As := []) (rest := []) (r := (some ma)) (ci := 11) hc ml_L_107 mf_X11_cell rfl (by decide) ⟨rfl, rfl⟩ ⟨le_b rfl, le_b rfl⟩ hk2 (fun a v h' e => mt_X11_cell e) rfl rfl (Nat.zero_le _) dL_law_302 hw (fun t4 h5 hw => ?_)
  refine R_istore (i := 6) (v := t4) hc [(6, .int t4), (5, .int t1), (0, .ref b), (1, rf x.w (some xa)), (2, rf x.w (some ma)), (3, rf x.w (some oa)), (4, .int i)] dL_law_305 (hnl 6 (le_b rfl)) rfl ?_
  refine R_aload_n (q := 4) (i := 2) (v := (some ma)) hc dL_law_307 rfl rfl ?_
  refine R_cVI (As := []) (rest := []) (r := (some ma)) (ci := 11) hc ml_L_108 mf_X11_thrown rfl (by decide) ⟨rfl, rfl⟩ ⟨le_b rfl, le_b rfl⟩ hk2 (fun a v e => mt_X11_thrown e) rfl rfl (Nat.zero_le _) dL_law_308 hw (fun t7 hw => ?_)
  refine R_iload (q := 1) (i := 5) (v := t1) hc dL_law_311 rfl ?_
  refine R_icmp_eq (tgt := 318) hc dL_law_313 (by decide) hw (fun hw => ?_) (fun hw => ?_)
  · refine R_iload (q := 1) (i := 5) (v := t1) hc dL_law_318 rfl ?_
    refine R_if_ne (tgt := 335) hc dL_law_320 (by decide) hw (fun hw => ?_) (fun hw => ?_)
    · refine R_goto (tgt := 1895) hc dL_law_335 (by decide) ?_
      refine R_sub hc [2, 3, 4, 5, 6] rfl ?_
      exact hbr _ (wpO_some hw :)
    · refine R_aload_n (q := 5) (i := 3) (v := (some oa)) hc dL_law_323 rfl rfl ?_
      refine R_iconst (v := (0 : Int32)) hc dL_law_324 kI_0 ?_
      refine R_laload hc dL_law_325 hw (fun t8 hw => ?_)
      refine R_iload (q := 0) (i := 6) (v := t4) hc dL_law_326 rfl ?_
      refine R_i2l hc dL_law_328 ?_
      refine R_lcmp hc dL_law_329 ?_
      refine R_if_eq (tgt := 335) hc dL_law_330 (by decide) hw (fun hw => ?_) (fun hw => ?_)
      · refine R_goto (tgt := 1895) hc dL_law_335 (by decide) ?_
        refine R_sub hc [2, 3, 4, 5, 6] rfl ?_
        exact hbr _ (wpO_some hw :)
      · refine R_iconst (v := (0 : Int32)) hc dL_law_333 kI_0 ?_
        exact absurd (wpO_some hw :) hno
  · refine R_iconst (v := (0 : Int32)) hc dL_law_316 kI_0 ?_
    exact absurd (wpO_some hw :) hno
def sC3 (F : Nat) (xs : Nat → Int32) (L xa ma oa : Nat) (i : Int32) (h : HP) : Option (Option HP) :=
  (dO h 10 (some xa)).bind fun a1 =>
  (sX10_fault F a1 h).bind fun t2 =>
  (dO h 11 (some ma)).bind fun a3 =>
  bd2 (sX11_fault F a3 h) fun t4 h5 =>
  if t2 = t4 then
    some (some h5)
  else
    some none
set_option maxRecDepth 100000 in
set_option maxHeartbeats 4000000 in
theorem mC3 {x : CX} (hc : Cx x cL_law RL room_1) (hlt : x.l.stackTraces = false) (hnl : ∀ i, i < 8 → i < x.nL) {F : Nat} {xs : Nat → Int32} {b L xa ma oa kc ks : Nat} (hsc : Scr x b L xs) (hk1 : kc ≤ room_1.cells ∧ ks ≤ room_1.slots) (hk2 : kc + 1 ≤ room_1.cells ∧ ks + 6 ≤ room_1.slots) {i : Int32} {h : HP} {C : Option HP → Prop} (hbr : ∀ h', C (some h') → Rn x (kc + 1) (ks + 6) 1895 [(0, .ref b), (1, rf x.w (some xa)), (2, rf x.w (some ma)), (3, rf x.w (some oa)), (4, .int i)] [] h') (hno : ¬ C none) (hw : wpO (sC3 F xs L xa ma oa i h) C) : Rn x kc ks 338 [(0, .ref b), (1, rf x.w (some xa)), (2, rf x.w (some ma)), (3, rf x.w (some oa)), (4, .int i)] [] h := by
  unfold sC3 at hw
  refine R_aload_n (q := 1) (i := 1) (v := (some xa)) hc dL_law_338 rfl rfl ?_
  refine R_cVI (As := []) (rest := []) (r := (some xa)) (ci := 10) hc ml_L_111 mf_X10_fault rfl (by decide) ⟨rfl, rfl⟩ ⟨le_b rfl, le_b rfl⟩ hk1 (fun a v e => mt_X10_fault e) rfl rfl (Nat.zero_le _) dL_law_339 hw (fun t2 hw => ?_)
  refine R_aload_n (q := 2) (i := 2) (v := (some ma)) hc dL_law_342 rfl rfl ?_
  refine R_cVIi (As := []) (rest := [.int t2]) (r := (some ma)) (ci := 11) hc ml_L_114 mf_X11_fault rfl (by decide) ⟨rfl, rfl⟩ ⟨le_b rfl, le_b rfl⟩ hk1 (fun a v h' e => mt_X11_fault e) rfl rfl (le_b rfl) dL_law_343 hw (fun t4 h5 hw => ?_)
  refine R_icmp_eq (tgt := 1895) hc dL_law_346 (by decide) hw (fun hw => ?_) (fun hw => ?_)
  · refine R_wide (k := kc + 1) (n := ks + 6) (Nat.le_succ _) (Nat.le_add_right _ _) ?_
    refine R_sub hc [0, 1, 2, 3, 4] rfl ?_
    exact hbr _ (wpO_some hw :)
  · refine R_iconst (v := (0 : Int32)) hc dL_law_349 kI_0 ?_
    exact absurd (wpO_some hw :) hno
def sC4 (F : Nat) (xs : Nat → Int32) (L xa ma oa : Nat) (i : Int32) (h : HP) : Option (Option HP) :=
  (scrI xs L (i + (1 : Int32))).bind fun t1 =>
  (scrI xs L (i + (2 : Int32))).bind fun t2 =>
  bd2 (sL_pair F (some xa) t1 t2 (some oa) h) fun t3 h4 =>
  (scrI xs L (i + (1 : Int32))).bind fun t5 =>
  (scrI xs L (i + (2 : Int32))).bind fun t6 =>
  (dO h4 11 (some ma)).bind fun a7 =>
  bd2 (sX11_pair F a7 t5 t6 h4) fun t8 h9 =>
  (dO h9 11 (some ma)).bind fun a10 =>
  (sX11_thrown F a10 h9).bind fun t11 =>
  if t11 = t3 then
    if ¬ t3 = 0 then
      some (some h9)
    else
      (aJ h9 (some oa) (0 : Int32)).bind fun t12 =>
      if (lg_cmp t12 t8.toInt64) = 0 then
        some (some h9)
      else
        some none
  else
    some none
set_option maxRecDepth 100000 in
set_option maxHeartbeats 4000000 in
theorem mC4 {x : CX} (hc : Cx x cL_law RL room_1) (hlt : x.l.stackTraces = false) (hnl : ∀ i, i < 8 → i < x.nL) {F : Nat} {xs : Nat → Int32} {b L xa ma oa kc ks : Nat} (hsc : Scr x b L xs) (hk1 : kc ≤ room_1.cells ∧ ks ≤ room_1.slots) (hk2 : kc + 1 ≤ room_1.cells ∧ ks + 6 ≤ room_1.slots) {i : Int32} {h : HP} {C : Option HP → Prop} (hbr : ∀ h', C (some h') → Rn x (kc + 1) (ks + 6) 1895 [(0, .ref b), (1, rf x.w (some xa)), (2, rf x.w (some ma)), (3, rf x.w (some oa)), (4, .int i)] [] h') (hno : ¬ C none) (hw : wpO (sC4 F xs L xa ma oa i h) C) : Rn x kc ks 351 [(0, .ref b), (1, rf x.w (some xa)), (2, rf x.w (some ma)), (3, rf x.w (some oa)), (4, .int i)] [] h := by
  unfold sC4 at hw
  refine R_aload_n (q := 1) (i := 1) (v := (some xa)) hc dL_law_351 rfl rfl ?_
  refine R_aloadV (q := 0) (i := 0) hc dL_law_352 rfl rfl ?_
  refine R_iload (q := 4) (i := 4) (v := i) hc dL_law_353 rfl ?_
  refine R_iconst (v := (1 : Int32)) hc dL_law_355 kI_1 ?_
  refine R_iadd hc dL_law_356 ?_
  refine R_scr hc hsc dL_law_357 hw (fun t1 hw => ?_)
  refine R_aloadV (q := 0) (i := 0) hc dL_law_358 rfl rfl ?_
  refine R_iload (q := 4) (i := 4) (v := i) hc dL_law_359 rfl ?_
  refine R_iconst (v := (2 : Int32)) hc dL_law_361 kI_2 ?_
  refine R_iadd hc dL_law_362 ?_
  refine R_scr hc hsc dL_law_363 hw (fun t2 hw => ?_)
  refine R_aload_n (q := 3) (i := 3) (v := (some oa)) hc dL_law_364 rfl rfl ?_
  refine R_cW (As := [rf x.w (some xa), .int t1, .int t2, rf x.w (some oa)]) (rest := []) hc ml_L_115 mf_L_pair ⟨rfl, rfl⟩ ⟨le_b rfl, le_b rfl⟩ hk2 (fun v h' e => mt_L_pair hlt e) rfl rfl (Nat.zero_le _) dL_law_365 hw (fun t3 h4 hw => ?_)
  refine R_istore (i := 5) (v := t3) hc [(5, .int t3), (0, .ref b), (1, rf x.w (some xa)), (2, rf x.w (some ma)), (3, rf x.w (some oa)), (4, .int i)] dL_law_368 (hnl 5 (le_b rfl)) rfl ?_
  refine R_aload_n (q := 3) (i := 2) (v := (some ma)) hc dL_law_370 rfl rfl ?_
  refine R_aloadV (q := 1) (i := 0) hc dL_law_371 rfl rfl ?_
  refine R_iload (q := 5) (i := 4) (v := i) hc dL_law_372 rfl ?_
  refine R_iconst (v := (1 : Int32)) hc dL_law_374 kI_1 ?_
  refine R_iadd hc dL_law_375 ?_
  refine R_scr hc hsc dL_law_376 hw (fun t5 hw => ?_)
  refine R_aloadV (q := 1) (i := 0) hc dL_law_377 rfl rfl ?_
  refine R_iload (q := 5) (i := 4) (v := i) hc dL_law_378 rfl ?_
  refine R_iconst (v := (2 : Int32)) hc dL_law_380 kI_2 ?_
  refine R_iadd hc dL_law_381 ?_
  refine R_scr hc hsc dL_law_382 hw (fun t6 hw => ?_)
  refine R_cVIi (As := [.int t5, .int t6]) (rest := []) (r := (some ma)) (ci := 11) hc ml_L_118 mf_X11_pair rfl (by decide) ⟨rfl, rfl⟩ ⟨le_b rfl, le_b rfl⟩ hk2 (fun a v h' e => mt_X11_pair e) rfl rfl (Nat.zero_le _) dL_law_383 hw (fun t8 h9 hw => ?_)
  refine R_istore (i := 6) (v := t8) hc [(6, .int t8), (5, .int t3), (0, .ref b), (1, rf x.w (some xa)), (2, rf x.w (some ma)), (3, rf x.w (some oa)), (4, .int i)] dL_law_386 (hnl 6 (le_b rfl)) rfl ?_
  refine R_aload_n (q := 4) (i := 2) (v := (some ma)) hc dL_law_388 rfl rfl ?_
  refine R_cVI (As := []) (rest := []) (r := (some ma)) (ci := 11) hc ml_L_108 mf_X11_thrown rfl (by decide) ⟨rfl, rfl⟩ ⟨le_b rfl, le_b rfl⟩ hk2 (fun a v e => mt_X11_thrown e) rfl rfl (Nat.zero_le _) dL_law_389 hw (fun t11 hw => ?_)
  refine R_iload (q := 1) (i := 5) (v := t3) hc dL_law_392 rfl ?_
  refine R_icmp_eq (tgt := 399) hc dL_law_394 (by decide) hw (fun hw => ?_) (fun hw => ?_)
  · refine R_iload (q := 1) (i := 5) (v := t3) hc dL_law_399 rfl ?_
    refine R_if_ne (tgt := 416) hc dL_law_401 (by decide) hw (fun hw => ?_) (fun hw => ?_)
    · refine R_goto (tgt := 1895) hc dL_law_416 (by decide) ?_
      refine R_sub hc [2, 3, 4, 5, 6] rfl ?_
      exact hbr _ (wpO_some hw :)
    · refine R_aload_n (q := 5) (i := 3) (v := (some oa)) hc dL_law_404 rfl rfl ?_
      refine R_iconst (v := (0 : Int32)) hc dL_law_405 kI_0 ?_
      refine R_laload hc dL_law_406 hw (fun t12 hw => ?_)
      refine R_iload (q := 0) (i := 6) (v := t8) hc dL_law_407 rfl ?_
      refine R_i2l hc dL_law_409 ?_
      refine R_lcmp hc dL_law_410 ?_
      refine R_if_eq (tgt := 416) hc dL_law_411 (by decide) hw (fun hw => ?_) (fun hw => ?_)
      · refine R_goto (tgt := 1895) hc dL_law_416 (by decide) ?_
        refine R_sub hc [2, 3, 4, 5, 6] rfl ?_
        exact hbr _ (wpO_some hw :)
      · refine R_iconst (v := (0 : Int32)) hc dL_law_414 kI_0 ?_
        exact absurd (wpO_some hw :) hno
  · refine R_iconst (v := (0 : Int32)) hc dL_law_397 kI_0 ?_
    exact absurd (wpO_some hw :) hno
def sC5 (F : Nat) (xs : Nat → Int32) (L xa ma oa : Nat) (i : Int32) (h : HP) : Option (Option HP) :=
  (scrI xs L (i + (1 : Int32))).bind fun t1 =>
  (scrI xs L (i + (2 : Int32))).bind fun t2 =>
  bd2 (sL_at F (some xa) t1 t2 (some oa) h) fun t3 h4 =>
  (scrI xs L (i + (1 : Int32))).bind fun t5 =>
  (scrI xs L (i + (2 : Int32))).bind fun t6 =>
  (dO h4 11 (some ma)).bind fun a7 =>
  bd2 (sX11_at F a7 t5 t6 h4) fun t8 h9 =>
  (dO h9 11 (some ma)).bind fun a10 =>
  (sX11_thrown F a10 h9).bind fun t11 =>
  if t11 = t3 then
    if ¬ t3 = 0 then
      some (some h9)
    else
      (aJ h9 (some oa) (0 : Int32)).bind fun t12 =>
      if (lg_cmp t12 t8.toInt64) = 0 then
        some (some h9)
      else
        some none
  else
    some none
set_option maxRecDepth 100000 in
set_option maxHeartbeats 4000000 in
theorem mC5 {x : CX} (hc : Cx x cL_law RL room_1) (hlt : x.l.stackTraces = false) (hnl : ∀ i, i < 8 → i < x.nL) {F : Nat} {xs : Nat → Int32} {b L xa ma oa kc ks : Nat} (hsc : Scr x b L xs) (hk1 : kc ≤ room_1.cells ∧ ks ≤ room_1.slots) (hk2 : kc + 1 ≤ room_1.cells ∧ ks + 6 ≤ room_1.slots) {i : Int32} {h : HP} {C : Option HP → Prop} (hbr : ∀ h', C (some h') → Rn x (kc + 1) (ks + 6) 1895 [(0, .ref b), (1, rf x.w (some xa)), (2, rf x.w (some ma)), (3, rf x.w (some oa)), (4, .int i)] [] h') (hno : ¬ C none) (hw : wpO (sC5 F xs L xa ma oa i h) C) : Rn x kc ks 419 [(0, .ref b), (1, rf x.w (some xa)), (2, rf x.w (some ma)), (3, rf x.w (some oa)), (4, .int i)] [] h := by
  unfold sC5 at hw
  refine R_aload_n (q := 1) (i := 1) (v := (some xa)) hc dL_law_419 rfl rfl ?_
  refine R_aloadV (q := 0) (i := 0) hc dL_law_420 rfl rfl ?_
  refine R_iload (q := 4) (i := 4) (v := i) hc dL_law_421 rfl ?_
  refine R_iconst (v := (1 : Int32)) hc dL_law_423 kI_1 ?_
  refine R_iadd hc dL_law_424 ?_
  refine R_scr hc hsc dL_law_425 hw (fun t1 hw => ?_)
  refine R_aloadV (q := 0) (i := 0) hc dL_law_426 rfl rfl ?_
  refine R_iload (q := 4) (i := 4) (v := i) hc dL_law_427 rfl ?_
  refine R_iconst (v := (2 : Int32)) hc dL_law_429 kI_2 ?_
  refine R_iadd hc dL_law_430 ?_
  refine R_scr hc hsc dL_law_431 hw (fun t2 hw => ?_)
  refine R_aload_n (q := 3) (i := 3) (v := (some oa)) hc dL_law_432 rfl rfl ?_
  refine R_cW (As := [rf x.w (some xa), .int t1, .int t2, rf x.w (some oa)]) (rest := []) hc ml_L_119 mf_L_at ⟨rfl, rfl⟩ ⟨le_b rfl, le_b rfl⟩ hk2 (fun v h' e => mt_L_at hlt e) rfl rfl (Nat.zero_le _) dL_law_433 hw (fun t3 h4 hw => ?_)
  refine R_istore (i := 5) (v := t3) hc [(5, .int t3), (0, .ref b), (1, rf x.w (some xa)), (2, rf x.w (some ma)), (3, rf x.w (some oa)), (4, .int i)] dL_law_436 (hnl 5 (le_b rfl)) rfl ?_
  refine R_aload_n (q := 3) (i := 2) (v := (some ma)) hc dL_law_438 rfl rfl ?_
  refine R_aloadV (q := 1) (i := 0) hc dL_law_439 rfl rfl ?_
  refine R_iload (q := 5) (i := 4) (v := i) hc dL_law_440 rfl ?_
  refine R_iconst (v := (1 : Int32)) hc dL_law_442 kI_1 ?_
  refine R_iadd hc dL_law_443 ?_
  refine R_scr hc hsc dL_law_444 hw (fun t5 hw => ?_)
  refine R_aloadV (q := 1) (i := 0) hc dL_law_445 rfl rfl ?_
  refine R_iload (q := 5) (i := 4) (v := i) hc dL_law_446 rfl ?_
  refine R_iconst (v := (2 : Int32)) hc dL_law_448 kI_2 ?_
  refine R_iadd hc dL_law_449 ?_
  refine R_scr hc hsc dL_law_450 hw (fun t6 hw => ?_)
  refine R_cVIi (As := [.int t5, .int t6]) (rest := []) (r := (some ma)) (ci := 11) hc ml_L_121 mf_X11_at rfl (by decide) ⟨rfl, rfl⟩ ⟨le_b rfl, le_b rfl⟩ hk2 (fun a v h' e => mt_X11_at e) rfl rfl (Nat.zero_le _) dL_law_451 hw (fun t8 h9 hw => ?_)
  refine R_istore (i := 6) (v := t8) hc [(6, .int t8), (5, .int t3), (0, .ref b), (1, rf x.w (some xa)), (2, rf x.w (some ma)), (3, rf x.w (some oa)), (4, .int i)] dL_law_454 (hnl 6 (le_b rfl)) rfl ?_
  refine R_aload_n (q := 4) (i := 2) (v := (some ma)) hc dL_law_456 rfl rfl ?_
  refine R_cVI (As := []) (rest := []) (r := (some ma)) (ci := 11) hc ml_L_108 mf_X11_thrown rfl (by decide) ⟨rfl, rfl⟩ ⟨le_b rfl, le_b rfl⟩ hk2 (fun a v e => mt_X11_thrown e) rfl rfl (Nat.zero_le _) dL_law_457 hw (fun t11 hw => ?_)
  refine R_iload (q := 1) (i := 5) (v := t3) hc dL_law_460 rfl ?_
  refine R_icmp_eq (tgt := 467) hc dL_law_462 (by decide) hw (fun hw => ?_) (fun hw => ?_)
  · refine R_iload (q := 1) (i := 5) (v := t3) hc dL_law_467 rfl ?_
    refine R_if_ne (tgt := 484) hc dL_law_469 (by decide) hw (fun hw => ?_) (fun hw => ?_)
    · refine R_goto (tgt := 1895) hc dL_law_484 (by decide) ?_
      refine R_sub hc [2, 3, 4, 5, 6] rfl ?_
      exact hbr _ (wpO_some hw :)
    · refine R_aload_n (q := 5) (i := 3) (v := (some oa)) hc dL_law_472 rfl rfl ?_
      refine R_iconst (v := (0 : Int32)) hc dL_law_473 kI_0 ?_
      refine R_laload hc dL_law_474 hw (fun t12 hw => ?_)
      refine R_iload (q := 0) (i := 6) (v := t8) hc dL_law_475 rfl ?_
      refine R_i2l hc dL_law_477 ?_
      refine R_lcmp hc dL_law_478 ?_
      refine R_if_eq (tgt := 484) hc dL_law_479 (by decide) hw (fun hw => ?_) (fun hw => ?_)
      · refine R_goto (tgt := 1895) hc dL_law_484 (by decide) ?_
        refine R_sub hc [2, 3, 4, 5, 6] rfl ?_
        exact hbr _ (wpO_some hw :)
      · refine R_iconst (v := (0 : Int32)) hc dL_law_482 kI_0 ?_
        exact absurd (wpO_some hw :) hno
  · refine R_iconst (v := (0 : Int32)) hc dL_law_465 kI_0 ?_
    exact absurd (wpO_some hw :) hno
def sC6 (F : Nat) (xs : Nat → Int32) (L xa ma oa : Nat) (i : Int32) (h : HP) : Option (Option HP) :=
  (scrI xs L (i + (1 : Int32))).bind fun t1 =>
  (scrI xs L (i + (2 : Int32))).bind fun t2 =>
  bd2 (sL_column F (some xa) t1 t2 (some oa) h) fun t3 h4 =>
  (scrI xs L (i + (1 : Int32))).bind fun t5 =>
  (scrI xs L (i + (2 : Int32))).bind fun t6 =>
  (dO h4 11 (some ma)).bind fun a7 =>
  bd2 (sX11_column F a7 t5 t6 h4) fun t8 h9 =>
  (dO h9 11 (some ma)).bind fun a10 =>
  (sX11_thrown F a10 h9).bind fun t11 =>
  if t11 = t3 then
    if ¬ t3 = 0 then
      some (some h9)
    else
      (aJ h9 (some oa) (0 : Int32)).bind fun t12 =>
      if (lg_cmp t12 t8.toInt64) = 0 then
        some (some h9)
      else
        some none
  else
    some none
set_option maxRecDepth 100000 in
set_option maxHeartbeats 4000000 in
theorem mC6 {x : CX} (hc : Cx x cL_law RL room_1) (hlt : x.l.stackTraces = false) (hnl : ∀ i, i < 8 → i < x.nL) {F : Nat} {xs : Nat → Int32} {b L xa ma oa kc ks : Nat} (hsc : Scr x b L xs) (hk1 : kc ≤ room_1.cells ∧ ks ≤ room_1.slots) (hk2 : kc + 1 ≤ room_1.cells ∧ ks + 6 ≤ room_1.slots) {i : Int32} {h : HP} {C : Option HP → Prop} (hbr : ∀ h', C (some h') → Rn x (kc + 1) (ks + 6) 1895 [(0, .ref b), (1, rf x.w (some xa)), (2, rf x.w (some ma)), (3, rf x.w (some oa)), (4, .int i)] [] h') (hno : ¬ C none) (hw : wpO (sC6 F xs L xa ma oa i h) C) : Rn x kc ks 487 [(0, .ref b), (1, rf x.w (some xa)), (2, rf x.w (some ma)), (3, rf x.w (some oa)), (4, .int i)] [] h := by
  unfold sC6 at hw
  refine R_aload_n (q := 1) (i := 1) (v := (some xa)) hc dL_law_487 rfl rfl ?_
  refine R_aloadV (q := 0) (i := 0) hc dL_law_488 rfl rfl ?_
  refine R_iload (q := 4) (i := 4) (v := i) hc dL_law_489 rfl ?_
  refine R_iconst (v := (1 : Int32)) hc dL_law_491 kI_1 ?_
  refine R_iadd hc dL_law_492 ?_
  refine R_scr hc hsc dL_law_493 hw (fun t1 hw => ?_)
  refine R_aloadV (q := 0) (i := 0) hc dL_law_494 rfl rfl ?_
  refine R_iload (q := 4) (i := 4) (v := i) hc dL_law_495 rfl ?_
  refine R_iconst (v := (2 : Int32)) hc dL_law_497 kI_2 ?_
  refine R_iadd hc dL_law_498 ?_
  refine R_scr hc hsc dL_law_499 hw (fun t2 hw => ?_)
  refine R_aload_n (q := 3) (i := 3) (v := (some oa)) hc dL_law_500 rfl rfl ?_
  refine R_cW (As := [rf x.w (some xa), .int t1, .int t2, rf x.w (some oa)]) (rest := []) hc ml_L_122 mf_L_column ⟨rfl, rfl⟩ ⟨le_b rfl, le_b rfl⟩ hk2 (fun v h' e => mt_L_column hlt e) rfl rfl (Nat.zero_le _) dL_law_501 hw (fun t3 h4 hw => ?_)
  refine R_istore (i := 5) (v := t3) hc [(5, .int t3), (0, .ref b), (1, rf x.w (some xa)), (2, rf x.w (some ma)), (3, rf x.w (some oa)), (4, .int i)] dL_law_504 (hnl 5 (le_b rfl)) rfl ?_
  refine R_aload_n (q := 3) (i := 2) (v := (some ma)) hc dL_law_506 rfl rfl ?_
  refine R_aloadV (q := 1) (i := 0) hc dL_law_507 rfl rfl ?_
  refine R_iload (q := 5) (i := 4) (v := i) hc dL_law_508 rfl ?_
  refine R_iconst (v := (1 : Int32)) hc dL_law_510 kI_1 ?_
  refine R_iadd hc dL_law_511 ?_
  refine R_scr hc hsc dL_law_512 hw (fun t5 hw => ?_)
  refine R_aloadV (q := 1) (i := 0) hc dL_law_513 rfl rfl ?_
  refine R_iload (q := 5) (i := 4) (v := i) hc dL_law_514 rfl ?_
  refine R_iconst (v := (2 : Int32)) hc dL_law_516 kI_2 ?_
  refine R_iadd hc dL_law_517 ?_
  refine R_scr hc hsc dL_law_518 hw (fun t6 hw => ?_)
  refine R_cVIi (As := [.int t5, .int t6]) (rest := []) (r := (some ma)) (ci := 11) hc ml_L_124 mf_X11_column rfl (by decide) ⟨rfl, rfl⟩ ⟨le_b rfl, le_b rfl⟩ hk2 (fun a v h' e => mt_X11_column e) rfl rfl (Nat.zero_le _) dL_law_519 hw (fun t8 h9 hw => ?_)
  refine R_istore (i := 6) (v := t8) hc [(6, .int t8), (5, .int t3), (0, .ref b), (1, rf x.w (some xa)), (2, rf x.w (some ma)), (3, rf x.w (some oa)), (4, .int i)] dL_law_522 (hnl 6 (le_b rfl)) rfl ?_
  refine R_aload_n (q := 4) (i := 2) (v := (some ma)) hc dL_law_524 rfl rfl ?_
  refine R_cVI (As := []) (rest := []) (r := (some ma)) (ci := 11) hc ml_L_108 mf_X11_thrown rfl (by decide) ⟨rfl, rfl⟩ ⟨le_b rfl, le_b rfl⟩ hk2 (fun a v e => mt_X11_thrown e) rfl rfl (Nat.zero_le _) dL_law_525 hw (fun t11 hw => ?_)
  refine R_iload (q := 1) (i := 5) (v := t3) hc dL_law_528 rfl ?_
  refine R_icmp_eq (tgt := 535) hc dL_law_530 (by decide) hw (fun hw => ?_) (fun hw => ?_)
  · refine R_iload (q := 1) (i := 5) (v := t3) hc dL_law_535 rfl ?_
    refine R_if_ne (tgt := 552) hc dL_law_537 (by decide) hw (fun hw => ?_) (fun hw => ?_)
    · refine R_goto (tgt := 1895) hc dL_law_552 (by decide) ?_
      refine R_sub hc [2, 3, 4, 5, 6] rfl ?_
      exact hbr _ (wpO_some hw :)
    · refine R_aload_n (q := 5) (i := 3) (v := (some oa)) hc dL_law_540 rfl rfl ?_
      refine R_iconst (v := (0 : Int32)) hc dL_law_541 kI_0 ?_
      refine R_laload hc dL_law_542 hw (fun t12 hw => ?_)
      refine R_iload (q := 0) (i := 6) (v := t8) hc dL_law_543 rfl ?_
      refine R_i2l hc dL_law_545 ?_
      refine R_lcmp hc dL_law_546 ?_
      refine R_if_eq (tgt := 552) hc dL_law_547 (by decide) hw (fun hw => ?_) (fun hw => ?_)
      · refine R_goto (tgt := 1895) hc dL_law_552 (by decide) ?_
        refine R_sub hc [2, 3, 4, 5, 6] rfl ?_
        exact hbr _ (wpO_some hw :)
      · refine R_iconst (v := (0 : Int32)) hc dL_law_550 kI_0 ?_
        exact absurd (wpO_some hw :) hno
  · refine R_iconst (v := (0 : Int32)) hc dL_law_533 kI_0 ?_
    exact absurd (wpO_some hw :) hno
def sC7 (F : Nat) (xs : Nat → Int32) (L xa ma oa : Nat) (i : Int32) (h : HP) : Option (Option HP) :=
  (scrI xs L (i + (1 : Int32))).bind fun t1 =>
  (scrI xs L (i + (2 : Int32))).bind fun t2 =>
  bd2 (sL_net F (some xa) t1 t2 (some oa) h) fun t3 h4 =>
  (scrI xs L (i + (1 : Int32))).bind fun t5 =>
  (scrI xs L (i + (2 : Int32))).bind fun t6 =>
  (dO h4 11 (some ma)).bind fun a7 =>
  bd2 (sX11_net F a7 t5 t6 h4) fun t8 h9 =>
  (dO h9 11 (some ma)).bind fun a10 =>
  (sX11_thrown F a10 h9).bind fun t11 =>
  if t11 = t3 then
    if ¬ t3 = 0 then
      some (some h9)
    else
      (aJ h9 (some oa) (0 : Int32)).bind fun t12 =>
      if (lg_cmp t12 t8.toInt64) = 0 then
        some (some h9)
      else
        some none
  else
    some none
set_option maxRecDepth 100000 in
set_option maxHeartbeats 4000000 in
theorem mC7 {x : CX} (hc : Cx x cL_law RL room_1) (hlt : x.l.stackTraces = false) (hnl : ∀ i, i < 8 → i < x.nL) {F : Nat} {xs : Nat → Int32} {b L xa ma oa kc ks : Nat} (hsc : Scr x b L xs) (hk1 : kc ≤ room_1.cells ∧ ks ≤ room_1.slots) (hk2 : kc + 1 ≤ room_1.cells ∧ ks + 6 ≤ room_1.slots) {i : Int32} {h : HP} {C : Option HP → Prop} (hbr : ∀ h', C (some h') → Rn x (kc + 1) (ks + 6) 1895 [(0, .ref b), (1, rf x.w (some xa)), (2, rf x.w (some ma)), (3, rf x.w (some oa)), (4, .int i)] [] h') (hno : ¬ C none) (hw : wpO (sC7 F xs L xa ma oa i h) C) : Rn x kc ks 555 [(0, .ref b), (1, rf x.w (some xa)), (2, rf x.w (some ma)), (3, rf x.w (some oa)), (4, .int i)] [] h := by
  unfold sC7 at hw
  refine R_aload_n (q := 1) (i := 1) (v := (some xa)) hc dL_law_555 rfl rfl ?_
  refine R_aloadV (q := 0) (i := 0) hc dL_law_556 rfl rfl ?_
  refine R_iload (q := 4) (i := 4) (v := i) hc dL_law_557 rfl ?_
  refine R_iconst (v := (1 : Int32)) hc dL_law_559 kI_1 ?_
  refine R_iadd hc dL_law_560 ?_
  refine R_scr hc hsc dL_law_561 hw (fun t1 hw => ?_)
  refine R_aloadV (q := 0) (i := 0) hc dL_law_562 rfl rfl ?_
  refine R_iload (q := 4) (i := 4) (v := i) hc dL_law_563 rfl ?_
  refine R_iconst (v := (2 : Int32)) hc dL_law_565 kI_2 ?_
  refine R_iadd hc dL_law_566 ?_
  refine R_scr hc hsc dL_law_567 hw (fun t2 hw => ?_)
  refine R_aload_n (q := 3) (i := 3) (v := (some oa)) hc dL_law_568 rfl rfl ?_
  refine R_cW (As := [rf x.w (some xa), .int t1, .int t2, rf x.w (some oa)]) (rest := []) hc ml_L_125 mf_L_net ⟨rfl, rfl⟩ ⟨le_b rfl, le_b rfl⟩ hk2 (fun v h' e => mt_L_net hlt e) rfl rfl (Nat.zero_le _) dL_law_569 hw (fun t3 h4 hw => ?_)
  refine R_istore (i := 5) (v := t3) hc [(5, .int t3), (0, .ref b), (1, rf x.w (some xa)), (2, rf x.w (some ma)), (3, rf x.w (some oa)), (4, .int i)] dL_law_572 (hnl 5 (le_b rfl)) rfl ?_
  refine R_aload_n (q := 3) (i := 2) (v := (some ma)) hc dL_law_574 rfl rfl ?_
  refine R_aloadV (q := 1) (i := 0) hc dL_law_575 rfl rfl ?_
  refine R_iload (q := 5) (i := 4) (v := i) hc dL_law_576 rfl ?_
  refine R_iconst (v := (1 : Int32)) hc dL_law_578 kI_1 ?_
  refine R_iadd hc dL_law_579 ?_
  refine R_scr hc hsc dL_law_580 hw (fun t5 hw => ?_)
  refine R_aloadV (q := 1) (i := 0) hc dL_law_581 rfl rfl ?_
  refine R_iload (q := 5) (i := 4) (v := i) hc dL_law_582 rfl ?_
  refine R_iconst (v := (2 : Int32)) hc dL_law_584 kI_2 ?_
  refine R_iadd hc dL_law_585 ?_
  refine R_scr hc hsc dL_law_586 hw (fun t6 hw => ?_)
  refine R_cVIi (As := [.int t5, .int t6]) (rest := []) (r := (some ma)) (ci := 11) hc ml_L_127 mf_X11_net rfl (by decide) ⟨rfl, rfl⟩ ⟨le_b rfl, le_b rfl⟩ hk2 (fun a v h' e => mt_X11_net e) rfl rfl (Nat.zero_le _) dL_law_587 hw (fun t8 h9 hw => ?_)
  refine R_istore (i := 6) (v := t8) hc [(6, .int t8), (5, .int t3), (0, .ref b), (1, rf x.w (some xa)), (2, rf x.w (some ma)), (3, rf x.w (some oa)), (4, .int i)] dL_law_590 (hnl 6 (le_b rfl)) rfl ?_
  refine R_aload_n (q := 4) (i := 2) (v := (some ma)) hc dL_law_592 rfl rfl ?_
  refine R_cVI (As := []) (rest := []) (r := (some ma)) (ci := 11) hc ml_L_108 mf_X11_thrown rfl (by decide) ⟨rfl, rfl⟩ ⟨le_b rfl, le_b rfl⟩ hk2 (fun a v e => mt_X11_thrown e) rfl rfl (Nat.zero_le _) dL_law_593 hw (fun t11 hw => ?_)
  refine R_iload (q := 1) (i := 5) (v := t3) hc dL_law_596 rfl ?_
  refine R_icmp_eq (tgt := 603) hc dL_law_598 (by decide) hw (fun hw => ?_) (fun hw => ?_)
  · refine R_iload (q := 1) (i := 5) (v := t3) hc dL_law_603 rfl ?_
    refine R_if_ne (tgt := 620) hc dL_law_605 (by decide) hw (fun hw => ?_) (fun hw => ?_)
    · refine R_goto (tgt := 1895) hc dL_law_620 (by decide) ?_
      refine R_sub hc [2, 3, 4, 5, 6] rfl ?_
      exact hbr _ (wpO_some hw :)
    · refine R_aload_n (q := 5) (i := 3) (v := (some oa)) hc dL_law_608 rfl rfl ?_
      refine R_iconst (v := (0 : Int32)) hc dL_law_609 kI_0 ?_
      refine R_laload hc dL_law_610 hw (fun t12 hw => ?_)
      refine R_iload (q := 0) (i := 6) (v := t8) hc dL_law_611 rfl ?_
      refine R_i2l hc dL_law_613 ?_
      refine R_lcmp hc dL_law_614 ?_
      refine R_if_eq (tgt := 620) hc dL_law_615 (by decide) hw (fun hw => ?_) (fun hw => ?_)
      · refine R_goto (tgt := 1895) hc dL_law_620 (by decide) ?_
        refine R_sub hc [2, 3, 4, 5, 6] rfl ?_
        exact hbr _ (wpO_some hw :)
      · refine R_iconst (v := (0 : Int32)) hc dL_law_618 kI_0 ?_
        exact absurd (wpO_some hw :) hno
  · refine R_iconst (v := (0 : Int32)) hc dL_law_601 kI_0 ?_
    exact absurd (wpO_some hw :) hno
def sC8 (F : Nat) (xs : Nat → Int32) (L xa ma oa : Nat) (i : Int32) (h : HP) : Option (Option HP) :=
  (scrI xs L (i + (1 : Int32))).bind fun t1 =>
  bd2 (sL_layout F (some xa) t1 (some oa) h) fun t2 h3 =>
  (scrI xs L (i + (1 : Int32))).bind fun t4 =>
  (dO h3 11 (some ma)).bind fun a5 =>
  bd2 (sX11_layout F a5 t4 h3) fun t6 h7 =>
  (dO h7 11 (some ma)).bind fun a8 =>
  (sX11_thrown F a8 h7).bind fun t9 =>
  if t9 = t2 then
    if ¬ t2 = 0 then
      some (some h7)
    else
      (aJ h7 (some oa) (0 : Int32)).bind fun t10 =>
      if (lg_cmp t10 t6.toInt64) = 0 then
        some (some h7)
      else
        some none
  else
    some none
set_option maxRecDepth 100000 in
set_option maxHeartbeats 4000000 in
theorem mC8 {x : CX} (hc : Cx x cL_law RL room_1) (hlt : x.l.stackTraces = false) (hnl : ∀ i, i < 8 → i < x.nL) {F : Nat} {xs : Nat → Int32} {b L xa ma oa kc ks : Nat} (hsc : Scr x b L xs) (hk1 : kc ≤ room_1.cells ∧ ks ≤ room_1.slots) (hk2 : kc + 1 ≤ room_1.cells ∧ ks + 6 ≤ room_1.slots) {i : Int32} {h : HP} {C : Option HP → Prop} (hbr : ∀ h', C (some h') → Rn x (kc + 1) (ks + 6) 1895 [(0, .ref b), (1, rf x.w (some xa)), (2, rf x.w (some ma)), (3, rf x.w (some oa)), (4, .int i)] [] h') (hno : ¬ C none) (hw : wpO (sC8 F xs L xa ma oa i h) C) : Rn x kc ks 623 [(0, .ref b), (1, rf x.w (some xa)), (2, rf x.w (some ma)), (3, rf x.w (some oa)), (4, .int i)] [] h := by
  unfold sC8 at hw
  refine R_aload_n (q := 1) (i := 1) (v := (some xa)) hc dL_law_623 rfl rfl ?_
  refine R_aloadV (q := 0) (i := 0) hc dL_law_624 rfl rfl ?_
  refine R_iload (q := 4) (i := 4) (v := i) hc dL_law_625 rfl ?_
  refine R_iconst (v := (1 : Int32)) hc dL_law_627 kI_1 ?_
  refine R_iadd hc dL_law_628 ?_
  refine R_scr hc hsc dL_law_629 hw (fun t1 hw => ?_)
  refine R_aload_n (q := 3) (i := 3) (v := (some oa)) hc dL_law_630 rfl rfl ?_
  refine R_cW (As := [rf x.w (some xa), .int t1, rf x.w (some oa)]) (rest := []) hc ml_L_128 mf_L_layout ⟨rfl, rfl⟩ ⟨le_b rfl, le_b rfl⟩ hk2 (fun v h' e => mt_L_layout hlt e) rfl rfl (Nat.zero_le _) dL_law_631 hw (fun t2 h3 hw => ?_)
  refine R_istore (i := 5) (v := t2) hc [(5, .int t2), (0, .ref b), (1, rf x.w (some xa)), (2, rf x.w (some ma)), (3, rf x.w (some oa)), (4, .int i)] dL_law_634 (hnl 5 (le_b rfl)) rfl ?_
  refine R_aload_n (q := 3) (i := 2) (v := (some ma)) hc dL_law_636 rfl rfl ?_
  refine R_aloadV (q := 1) (i := 0) hc dL_law_637 rfl rfl ?_
  refine R_iload (q := 5) (i := 4) (v := i) hc dL_law_638 rfl ?_
  refine R_iconst (v := (1 : Int32)) hc dL_law_640 kI_1 ?_
  refine R_iadd hc dL_law_641 ?_
  refine R_scr hc hsc dL_law_642 hw (fun t4 hw => ?_)
  refine R_cVIi (As := [.int t4]) (rest := []) (r := (some ma)) (ci := 11) hc ml_L_131 mf_X11_layout rfl (by decide) ⟨rfl, rfl⟩ ⟨le_b rfl, le_b rfl⟩ hk2 (fun a v h' e => mt_X11_layout e) rfl rfl (Nat.zero_le _) dL_law_643 hw (fun t6 h7 hw => ?_)
  refine R_istore (i := 6) (v := t6) hc [(6, .int t6), (5, .int t2), (0, .ref b), (1, rf x.w (some xa)), (2, rf x.w (some ma)), (3, rf x.w (some oa)), (4, .int i)] dL_law_646 (hnl 6 (le_b rfl)) rfl ?_
  refine R_aload_n (q := 4) (i := 2) (v := (some ma)) hc dL_law_648 rfl rfl ?_
  refine R_cVI (As := []) (rest := []) (r := (some ma)) (ci := 11) hc ml_L_108 mf_X11_thrown rfl (by decide) ⟨rfl, rfl⟩ ⟨le_b rfl, le_b rfl⟩ hk2 (fun a v e => mt_X11_thrown e) rfl rfl (Nat.zero_le _) dL_law_649 hw (fun t9 hw => ?_)
  refine R_iload (q := 1) (i := 5) (v := t2) hc dL_law_652 rfl ?_
  refine R_icmp_eq (tgt := 659) hc dL_law_654 (by decide) hw (fun hw => ?_) (fun hw => ?_)
  · refine R_iload (q := 1) (i := 5) (v := t2) hc dL_law_659 rfl ?_
    refine R_if_ne (tgt := 676) hc dL_law_661 (by decide) hw (fun hw => ?_) (fun hw => ?_)
    · refine R_goto (tgt := 1895) hc dL_law_676 (by decide) ?_
      refine R_sub hc [2, 3, 4, 5, 6] rfl ?_
      exact hbr _ (wpO_some hw :)
    · refine R_aload_n (q := 5) (i := 3) (v := (some oa)) hc dL_law_664 rfl rfl ?_
      refine R_iconst (v := (0 : Int32)) hc dL_law_665 kI_0 ?_
      refine R_laload hc dL_law_666 hw (fun t10 hw => ?_)
      refine R_iload (q := 0) (i := 6) (v := t6) hc dL_law_667 rfl ?_
      refine R_i2l hc dL_law_669 ?_
      refine R_lcmp hc dL_law_670 ?_
      refine R_if_eq (tgt := 676) hc dL_law_671 (by decide) hw (fun hw => ?_) (fun hw => ?_)
      · refine R_goto (tgt := 1895) hc dL_law_676 (by decide) ?_
        refine R_sub hc [2, 3, 4, 5, 6] rfl ?_
        exact hbr _ (wpO_some hw :)
      · refine R_iconst (v := (0 : Int32)) hc dL_law_674 kI_0 ?_
        exact absurd (wpO_some hw :) hno
  · refine R_iconst (v := (0 : Int32)) hc dL_law_657 kI_0 ?_
    exact absurd (wpO_some hw :) hno
def sC9 (F : Nat) (xs : Nat → Int32) (L xa ma oa : Nat) (i : Int32) (h : HP) : Option (Option HP) :=
  (dO h 10 (some xa)).bind fun a1 =>
  (sX10_least F a1 h).bind fun t2 =>
  (dO h 11 (some ma)).bind fun a3 =>
  bd2 (sX11_least F a3 h) fun t4 h5 =>
  if t2 = t4 then
    some (some h5)
  else
    some none
set_option maxRecDepth 100000 in
set_option maxHeartbeats 4000000 in
theorem mC9 {x : CX} (hc : Cx x cL_law RL room_1) (hlt : x.l.stackTraces = false) (hnl : ∀ i, i < 8 → i < x.nL) {F : Nat} {xs : Nat → Int32} {b L xa ma oa kc ks : Nat} (hsc : Scr x b L xs) (hk1 : kc ≤ room_1.cells ∧ ks ≤ room_1.slots) (hk2 : kc + 1 ≤ room_1.cells ∧ ks + 6 ≤ room_1.slots) {i : Int32} {h : HP} {C : Option HP → Prop} (hbr : ∀ h', C (some h') → Rn x (kc + 1) (ks + 6) 1895 [(0, .ref b), (1, rf x.w (some xa)), (2, rf x.w (some ma)), (3, rf x.w (some oa)), (4, .int i)] [] h') (hno : ¬ C none) (hw : wpO (sC9 F xs L xa ma oa i h) C) : Rn x kc ks 679 [(0, .ref b), (1, rf x.w (some xa)), (2, rf x.w (some ma)), (3, rf x.w (some oa)), (4, .int i)] [] h := by
  unfold sC9 at hw
  refine R_aload_n (q := 1) (i := 1) (v := (some xa)) hc dL_law_679 rfl rfl ?_
  refine R_cVI (As := []) (rest := []) (r := (some xa)) (ci := 10) hc ml_L_132 mf_X10_least rfl (by decide) ⟨rfl, rfl⟩ ⟨le_b rfl, le_b rfl⟩ hk1 (fun a v e => mt_X10_least e) rfl rfl (Nat.zero_le _) dL_law_680 hw (fun t2 hw => ?_)
  refine R_aload_n (q := 2) (i := 2) (v := (some ma)) hc dL_law_683 rfl rfl ?_
  refine R_cVIi (As := []) (rest := [.int t2]) (r := (some ma)) (ci := 11) hc ml_L_135 mf_X11_least rfl (by decide) ⟨rfl, rfl⟩ ⟨le_b rfl, le_b rfl⟩ hk1 (fun a v h' e => mt_X11_least e) rfl rfl (le_b rfl) dL_law_684 hw (fun t4 h5 hw => ?_)
  refine R_icmp_eq (tgt := 1895) hc dL_law_687 (by decide) hw (fun hw => ?_) (fun hw => ?_)
  · refine R_wide (k := kc + 1) (n := ks + 6) (Nat.le_succ _) (Nat.le_add_right _ _) ?_
    refine R_sub hc [0, 1, 2, 3, 4] rfl ?_
    exact hbr _ (wpO_some hw :)
  · refine R_iconst (v := (0 : Int32)) hc dL_law_690 kI_0 ?_
    exact absurd (wpO_some hw :) hno
def sC10 (F : Nat) (xs : Nat → Int32) (L xa ma oa : Nat) (i : Int32) (h : HP) : Option (Option HP) :=
  (dO h 10 (some xa)).bind fun a1 =>
  (sX10_many F a1 h).bind fun t2 =>
  (dO h 11 (some ma)).bind fun a3 =>
  bd2 (sX11_many F a3 h) fun t4 h5 =>
  if (lg_cmp t2 t4) = 0 then
    some (some h5)
  else
    some none
set_option maxRecDepth 100000 in
set_option maxHeartbeats 4000000 in
theorem mC10 {x : CX} (hc : Cx x cL_law RL room_1) (hlt : x.l.stackTraces = false) (hnl : ∀ i, i < 8 → i < x.nL) {F : Nat} {xs : Nat → Int32} {b L xa ma oa kc ks : Nat} (hsc : Scr x b L xs) (hk1 : kc ≤ room_1.cells ∧ ks ≤ room_1.slots) (hk2 : kc + 1 ≤ room_1.cells ∧ ks + 6 ≤ room_1.slots) {i : Int32} {h : HP} {C : Option HP → Prop} (hbr : ∀ h', C (some h') → Rn x (kc + 1) (ks + 6) 1895 [(0, .ref b), (1, rf x.w (some xa)), (2, rf x.w (some ma)), (3, rf x.w (some oa)), (4, .int i)] [] h') (hno : ¬ C none) (hw : wpO (sC10 F xs L xa ma oa i h) C) : Rn x kc ks 692 [(0, .ref b), (1, rf x.w (some xa)), (2, rf x.w (some ma)), (3, rf x.w (some oa)), (4, .int i)] [] h := by
  unfold sC10 at hw
  refine R_aload_n (q := 1) (i := 1) (v := (some xa)) hc dL_law_692 rfl rfl ?_
  refine R_cVJ (As := []) (rest := []) (r := (some xa)) (ci := 10) hc ml_L_136 mf_X10_many rfl (by decide) ⟨rfl, rfl⟩ ⟨le_b rfl, le_b rfl⟩ hk1 (fun a v e => mt_X10_many e) rfl rfl (Nat.zero_le _) dL_law_693 hw (fun t2 hw => ?_)
  refine R_aload_n (q := 2) (i := 2) (v := (some ma)) hc dL_law_696 rfl rfl ?_
  refine R_cVJi (As := []) (rest := [.long t2]) (r := (some ma)) (ci := 11) hc ml_L_140 mf_X11_many rfl (by decide) ⟨rfl, rfl⟩ ⟨le_b rfl, le_b rfl⟩ hk1 (fun a v h' e => mt_X11_many e) rfl rfl (le_b rfl) dL_law_697 hw (fun t4 h5 hw => ?_)
  refine R_lcmp hc dL_law_700 ?_
  refine R_if_eq (tgt := 1895) hc dL_law_701 (by decide) hw (fun hw => ?_) (fun hw => ?_)
  · refine R_wide (k := kc + 1) (n := ks + 6) (Nat.le_succ _) (Nat.le_add_right _ _) ?_
    refine R_sub hc [0, 1, 2, 3, 4] rfl ?_
    exact hbr _ (wpO_some hw :)
  · refine R_iconst (v := (0 : Int32)) hc dL_law_704 kI_0 ?_
    exact absurd (wpO_some hw :) hno
def sC11 (F : Nat) (xs : Nat → Int32) (L xa ma oa : Nat) (i : Int32) (h : HP) : Option (Option HP) :=
  (scrI xs L (i + (1 : Int32))).bind fun t1 =>
  (scrI xs L (i + (2 : Int32))).bind fun t2 =>
  (scrI xs L (i + (3 : Int32))).bind fun t3 =>
  (scrI xs L (i + (4 : Int32))).bind fun t4 =>
  (if t4 = 0 then
      some (0 : Int32)
    else
      some (1 : Int32)).bind fun s5 =>
  bd2 (sL_best F (some xa) ((Jshl t1.toInt64 (32 : Int32)) ||| (t2.toInt64 &&& (4294967295 : Int64))) t3 s5 (some oa) h) fun t6 h7 =>
  (scrI xs L (i + (1 : Int32))).bind fun t8 =>
  (scrI xs L (i + (2 : Int32))).bind fun t9 =>
  (scrI xs L (i + (3 : Int32))).bind fun t10 =>
  (scrI xs L (i + (4 : Int32))).bind fun t11 =>
  (if t11 = 0 then
      some (0 : Int32)
    else
      some (1 : Int32)).bind fun s12 =>
  (dO h7 11 (some ma)).bind fun a13 =>
  bd2 (sX11_best F a13 ((Jshl t8.toInt64 (32 : Int32)) ||| (t9.toInt64 &&& (4294967295 : Int64))) t10 s12 h7) fun t14 h15 =>
  (dO h15 11 (some ma)).bind fun a16 =>
  (sX11_thrown F a16 h15).bind fun t17 =>
  if t17 = t6 then
    if ¬ t6 = 0 then
      some (some h15)
    else
      (aJ h15 (some oa) (0 : Int32)).bind fun t18 =>
      if (lg_cmp t18 t14.toInt64) = 0 then
        some (some h15)
      else
        some none
  else
    some none
set_option maxRecDepth 100000 in
set_option maxHeartbeats 4000000 in
theorem mC11 {x : CX} (hc : Cx x cL_law RL room_1) (hlt : x.l.stackTraces = false) (hnl : ∀ i, i < 8 → i < x.nL) {F : Nat} {xs : Nat → Int32} {b L xa ma oa kc ks : Nat} (hsc : Scr x b L xs) (hk1 : kc ≤ room_1.cells ∧ ks ≤ room_1.slots) (hk2 : kc + 1 ≤ room_1.cells ∧ ks + 6 ≤ room_1.slots) {i : Int32} {h : HP} {C : Option HP → Prop} (hbr : ∀ h', C (some h') → Rn x (kc + 1) (ks + 6) 1895 [(0, .ref b), (1, rf x.w (some xa)), (2, rf x.w (some ma)), (3, rf x.w (some oa)), (4, .int i)] [] h') (hno : ¬ C none) (hw : wpO (sC11 F xs L xa ma oa i h) C) : Rn x kc ks 706 [(0, .ref b), (1, rf x.w (some xa)), (2, rf x.w (some ma)), (3, rf x.w (some oa)), (4, .int i)] [] h := by
  unfold sC11 at hw
  refine R_aload_n (q := 1) (i := 1) (v := (some xa)) hc dL_law_706 rfl rfl ?_
  refine R_aloadV (q := 0) (i := 0) hc dL_law_707 rfl rfl ?_
  refine R_iload (q := 4) (i := 4) (v := i) hc dL_law_708 rfl ?_
  refine R_iconst (v := (1 : Int32)) hc dL_law_710 kI_1 ?_
  refine R_iadd hc dL_law_711 ?_
  refine R_scr hc hsc dL_law_712 hw (fun t1 hw => ?_)
  refine R_i2l hc dL_law_713 ?_
  refine R_bipush (v := (32 : Int32)) hc dL_law_714 kB_32 ?_
  refine R_lshl hc dL_law_716 ?_
  refine R_aloadV (q := 0) (i := 0) hc dL_law_717 rfl rfl ?_
  refine R_iload (q := 4) (i := 4) (v := i) hc dL_law_718 rfl ?_
  refine R_iconst (v := (2 : Int32)) hc dL_law_720 kI_2 ?_
  refine R_iadd hc dL_law_721 ?_
  refine R_scr hc hsc dL_law_722 hw (fun t2 hw => ?_)
  refine R_i2l hc dL_law_723 ?_
  refine R_ldc2 (v := (4294967295 : Int64)) hc kw_L_141 dL_law_724 ?_
  refine R_land hc dL_law_727 ?_
  refine R_lor hc dL_law_728 ?_
  refine R_aloadV (q := 0) (i := 0) hc dL_law_729 rfl rfl ?_
  refine R_iload (q := 4) (i := 4) (v := i) hc dL_law_730 rfl ?_
  refine R_iconst (v := (3 : Int32)) hc dL_law_732 kI_3 ?_
  refine R_iadd hc dL_law_733 ?_
  refine R_scr hc hsc dL_law_734 hw (fun t3 hw => ?_)
  refine R_aloadV (q := 0) (i := 0) hc dL_law_735 rfl rfl ?_
  refine R_iload (q := 4) (i := 4) (v := i) hc dL_law_736 rfl ?_
  refine R_iconst (v := (4 : Int32)) hc dL_law_738 kI_4 ?_
  refine R_iadd hc dL_law_739 ?_
  refine R_scr hc hsc dL_law_740 hw (fun t4 hw => ?_)
  refine R_join (fun (s5 : Int32) => Rn x kc ks 749 [(0, .ref b), (1, rf x.w (some xa)), (2, rf x.w (some ma)), (3, rf x.w (some oa)), (4, .int i)] [.int s5, .int t3, .long ((Jshl t1.toInt64 (32 : Int32)) ||| (t2.toInt64 &&& (4294967295 : Int64))), rf x.w (some xa)] h) hw (fun r hw => ?_) (fun hw => ?_)
  · revert r hw
    intro s5 hw
    show Rn x kc ks 749 [(0, .ref b), (1, rf x.w (some xa)), (2, rf x.w (some ma)), (3, rf x.w (some oa)), (4, .int i)] [.int s5, .int t3, .long ((Jshl t1.toInt64 (32 : Int32)) ||| (t2.toInt64 &&& (4294967295 : Int64))), rf x.w (some xa)] h
    refine R_aload_n (q := 3) (i := 3) (v := (some oa)) hc dL_law_749 rfl rfl ?_
    refine R_cW (As := [rf x.w (some xa), .long ((Jshl t1.toInt64 (32 : Int32)) ||| (t2.toInt64 &&& (4294967295 : Int64))), .int t3, .int s5, rf x.w (some oa)]) (rest := []) hc ml_L_143 mf_L_best ⟨rfl, rfl⟩ ⟨le_b rfl, le_b rfl⟩ hk2 (fun v h' e => mt_L_best hlt e) rfl rfl (Nat.zero_le _) dL_law_750 hw (fun t6 h7 hw => ?_)
    refine R_istore (i := 5) (v := t6) hc [(5, .int t6), (0, .ref b), (1, rf x.w (some xa)), (2, rf x.w (some ma)), (3, rf x.w (some oa)), (4, .int i)] dL_law_753 (hnl 5 (le_b rfl)) rfl ?_
    refine R_aload_n (q := 3) (i := 2) (v := (some ma)) hc dL_law_755 rfl rfl ?_
    refine R_aloadV (q := 1) (i := 0) hc dL_law_756 rfl rfl ?_
    refine R_iload (q := 5) (i := 4) (v := i) hc dL_law_757 rfl ?_
    refine R_iconst (v := (1 : Int32)) hc dL_law_759 kI_1 ?_
    refine R_iadd hc dL_law_760 ?_
    refine R_scr hc hsc dL_law_761 hw (fun t8 hw => ?_)
    refine R_i2l hc dL_law_762 ?_
    refine R_bipush (v := (32 : Int32)) hc dL_law_763 kB_32 ?_
    refine R_lshl hc dL_law_765 ?_
    refine R_aloadV (q := 1) (i := 0) hc dL_law_766 rfl rfl ?_
    refine R_iload (q := 5) (i := 4) (v := i) hc dL_law_767 rfl ?_
    refine R_iconst (v := (2 : Int32)) hc dL_law_769 kI_2 ?_
    refine R_iadd hc dL_law_770 ?_
    refine R_scr hc hsc dL_law_771 hw (fun t9 hw => ?_)
    refine R_i2l hc dL_law_772 ?_
    refine R_ldc2 (v := (4294967295 : Int64)) hc kw_L_141 dL_law_773 ?_
    refine R_land hc dL_law_776 ?_
    refine R_lor hc dL_law_777 ?_
    refine R_aloadV (q := 1) (i := 0) hc dL_law_778 rfl rfl ?_
    refine R_iload (q := 5) (i := 4) (v := i) hc dL_law_779 rfl ?_
    refine R_iconst (v := (3 : Int32)) hc dL_law_781 kI_3 ?_
    refine R_iadd hc dL_law_782 ?_
    refine R_scr hc hsc dL_law_783 hw (fun t10 hw => ?_)
    refine R_aloadV (q := 1) (i := 0) hc dL_law_784 rfl rfl ?_
    refine R_iload (q := 5) (i := 4) (v := i) hc dL_law_785 rfl ?_
    refine R_iconst (v := (4 : Int32)) hc dL_law_787 kI_4 ?_
    refine R_iadd hc dL_law_788 ?_
    refine R_scr hc hsc dL_law_789 hw (fun t11 hw => ?_)
    refine R_join (fun (s12 : Int32) => Rn x (kc + 1) (ks + 6) 798 [(0, .ref b), (1, rf x.w (some xa)), (2, rf x.w (some ma)), (3, rf x.w (some oa)), (4, .int i), (5, .int t6)] [.int s12, .int t10, .long ((Jshl t8.toInt64 (32 : Int32)) ||| (t9.toInt64 &&& (4294967295 : Int64))), rf x.w (some ma)] h7) hw (fun r hw => ?_) (fun hw => ?_)
    · revert r hw
      intro s12 hw
      show Rn x (kc + 1) (ks + 6) 798 [(0, .ref b), (1, rf x.w (some xa)), (2, rf x.w (some ma)), (3, rf x.w (some oa)), (4, .int i), (5, .int t6)] [.int s12, .int t10, .long ((Jshl t8.toInt64 (32 : Int32)) ||| (t9.toInt64 &&& (4294967295 : Int64))), rf x.w (some ma)] h7
      refine R_cVIi (As := [.long ((Jshl t8.toInt64 (32 : Int32)) ||| (t9.toInt64 &&& (4294967295 : Int64))), .int t10, .int s12]) (rest := []) (r := (some ma)) (ci := 11) hc ml_L_146 mf_X11_best rfl (by decide) ⟨rfl, rfl⟩ ⟨le_b rfl, le_b rfl⟩ hk2 (fun a v h' e => mt_X11_best e) rfl rfl (Nat.zero_le _) dL_law_798 hw (fun t14 h15 hw => ?_)
      refine R_istore (i := 6) (v := t14) hc [(6, .int t14), (0, .ref b), (1, rf x.w (some xa)), (2, rf x.w (some ma)), (3, rf x.w (some oa)), (4, .int i), (5, .int t6)] dL_law_801 (hnl 6 (le_b rfl)) rfl ?_
      refine R_aload_n (q := 3) (i := 2) (v := (some ma)) hc dL_law_803 rfl rfl ?_
      refine R_cVI (As := []) (rest := []) (r := (some ma)) (ci := 11) hc ml_L_108 mf_X11_thrown rfl (by decide) ⟨rfl, rfl⟩ ⟨le_b rfl, le_b rfl⟩ hk2 (fun a v e => mt_X11_thrown e) rfl rfl (Nat.zero_le _) dL_law_804 hw (fun t17 hw => ?_)
      refine R_iload (q := 6) (i := 5) (v := t6) hc dL_law_807 rfl ?_
      refine R_icmp_eq (tgt := 814) hc dL_law_809 (by decide) hw (fun hw => ?_) (fun hw => ?_)
      · refine R_iload (q := 6) (i := 5) (v := t6) hc dL_law_814 rfl ?_
        refine R_if_ne (tgt := 831) hc dL_law_816 (by decide) hw (fun hw => ?_) (fun hw => ?_)
        · refine R_goto (tgt := 1895) hc dL_law_831 (by decide) ?_
          refine R_sub hc [1, 2, 3, 4, 5] rfl ?_
          exact hbr _ (wpO_some hw :)
        · refine R_aload_n (q := 4) (i := 3) (v := (some oa)) hc dL_law_819 rfl rfl ?_
          refine R_iconst (v := (0 : Int32)) hc dL_law_820 kI_0 ?_
          refine R_laload hc dL_law_821 hw (fun t18 hw => ?_)
          refine R_iload (q := 0) (i := 6) (v := t14) hc dL_law_822 rfl ?_
          refine R_i2l hc dL_law_824 ?_
          refine R_lcmp hc dL_law_825 ?_
          refine R_if_eq (tgt := 831) hc dL_law_826 (by decide) hw (fun hw => ?_) (fun hw => ?_)
          · refine R_goto (tgt := 1895) hc dL_law_831 (by decide) ?_
            refine R_sub hc [1, 2, 3, 4, 5] rfl ?_
            exact hbr _ (wpO_some hw :)
          · refine R_iconst (v := (0 : Int32)) hc dL_law_829 kI_0 ?_
            exact absurd (wpO_some hw :) hno
      · refine R_iconst (v := (0 : Int32)) hc dL_law_812 kI_0 ?_
        exact absurd (wpO_some hw :) hno
    · refine R_if_eq (tgt := 797) hc dL_law_790 (by decide) hw (fun hw => ?_) (fun hw => ?_)
      · refine R_iconst (v := (0 : Int32)) hc dL_law_797 kI_0 ?_
        refine R_sub hc [1, 2, 3, 4, 5, 0] rfl ?_
        exact (wpO_some hw :)
      · refine R_iconst (v := (1 : Int32)) hc dL_law_793 kI_1 ?_
        refine R_goto (tgt := 798) hc dL_law_794 (by decide) ?_
        refine R_sub hc [1, 2, 3, 4, 5, 0] rfl ?_
        exact (wpO_some hw :)
  · refine R_if_eq (tgt := 748) hc dL_law_741 (by decide) hw (fun hw => ?_) (fun hw => ?_)
    · refine R_iconst (v := (0 : Int32)) hc dL_law_748 kI_0 ?_
      refine R_sub hc [0, 1, 2, 3, 4] rfl ?_
      exact (wpO_some hw :)
    · refine R_iconst (v := (1 : Int32)) hc dL_law_744 kI_1 ?_
      refine R_goto (tgt := 749) hc dL_law_745 (by decide) ?_
      refine R_sub hc [0, 1, 2, 3, 4] rfl ?_
      exact (wpO_some hw :)
def sC12 (F : Nat) (xs : Nat → Int32) (L xa ma oa : Nat) (i : Int32) (h : HP) : Option (Option HP) :=
  (dO h 10 (some xa)).bind fun a1 =>
  (sX10_calm F a1 h).bind fun t2 =>
  (dO h 11 (some ma)).bind fun a3 =>
  bd2 (sX11_calm F a3 h) fun t4 h5 =>
  if t2 = t4 then
    some (some h5)
  else
    some none
set_option maxRecDepth 100000 in
set_option maxHeartbeats 4000000 in
theorem mC12 {x : CX} (hc : Cx x cL_law RL room_1) (hlt : x.l.stackTraces = false) (hnl : ∀ i, i < 8 → i < x.nL) {F : Nat} {xs : Nat → Int32} {b L xa ma oa kc ks : Nat} (hsc : Scr x b L xs) (hk1 : kc ≤ room_1.cells ∧ ks ≤ room_1.slots) (hk2 : kc + 1 ≤ room_1.cells ∧ ks + 6 ≤ room_1.slots) {i : Int32} {h : HP} {C : Option HP → Prop} (hbr : ∀ h', C (some h') → Rn x (kc + 1) (ks + 6) 1895 [(0, .ref b), (1, rf x.w (some xa)), (2, rf x.w (some ma)), (3, rf x.w (some oa)), (4, .int i)] [] h') (hno : ¬ C none) (hw : wpO (sC12 F xs L xa ma oa i h) C) : Rn x kc ks 834 [(0, .ref b), (1, rf x.w (some xa)), (2, rf x.w (some ma)), (3, rf x.w (some oa)), (4, .int i)] [] h := by
  unfold sC12 at hw
  refine R_aload_n (q := 1) (i := 1) (v := (some xa)) hc dL_law_834 rfl rfl ?_
  refine R_cVI (As := []) (rest := []) (r := (some xa)) (ci := 10) hc ml_L_147 mf_X10_calm rfl (by decide) ⟨rfl, rfl⟩ ⟨le_b rfl, le_b rfl⟩ hk1 (fun a v e => mt_X10_calm e) rfl rfl (Nat.zero_le _) dL_law_835 hw (fun t2 hw => ?_)
  refine R_aload_n (q := 2) (i := 2) (v := (some ma)) hc dL_law_838 rfl rfl ?_
  refine R_cVIi (As := []) (rest := [.int t2]) (r := (some ma)) (ci := 11) hc ml_L_150 mf_X11_calm rfl (by decide) ⟨rfl, rfl⟩ ⟨le_b rfl, le_b rfl⟩ hk1 (fun a v h' e => mt_X11_calm e) rfl rfl (le_b rfl) dL_law_839 hw (fun t4 h5 hw => ?_)
  refine R_icmp_eq (tgt := 1895) hc dL_law_842 (by decide) hw (fun hw => ?_) (fun hw => ?_)
  · refine R_wide (k := kc + 1) (n := ks + 6) (Nat.le_succ _) (Nat.le_add_right _ _) ?_
    refine R_sub hc [0, 1, 2, 3, 4] rfl ?_
    exact hbr _ (wpO_some hw :)
  · refine R_iconst (v := (0 : Int32)) hc dL_law_845 kI_0 ?_
    exact absurd (wpO_some hw :) hno
def sC13 (F : Nat) (xs : Nat → Int32) (L xa ma oa : Nat) (i : Int32) (h : HP) : Option (Option HP) :=
  (scrI xs L (i + (1 : Int32))).bind fun t1 =>
  (scrI xs L (i + (2 : Int32))).bind fun t2 =>
  bd2 (sL_with F (some xa) t1 t2 (some oa) h) fun t3 h4 =>
  (scrI xs L (i + (1 : Int32))).bind fun t5 =>
  (scrI xs L (i + (2 : Int32))).bind fun t6 =>
  (dO h4 11 (some ma)).bind fun a7 =>
  bd2 (sX11_with F a7 t5 t6 h4) fun t8 h9 =>
  (dO h9 11 (some ma)).bind fun a10 =>
  (sX11_thrown F a10 h9).bind fun t11 =>
  if t11 = t3 then
    if ¬ t3 = 0 then
      some (some h9)
    else
      (aJ h9 (some oa) (0 : Int32)).bind fun t12 =>
      if (lg_cmp t12 t8.toInt64) = 0 then
        some (some h9)
      else
        some none
  else
    some none
set_option maxRecDepth 100000 in
set_option maxHeartbeats 4000000 in
theorem mC13 {x : CX} (hc : Cx x cL_law RL room_1) (hlt : x.l.stackTraces = false) (hnl : ∀ i, i < 8 → i < x.nL) {F : Nat} {xs : Nat → Int32} {b L xa ma oa kc ks : Nat} (hsc : Scr x b L xs) (hk1 : kc ≤ room_1.cells ∧ ks ≤ room_1.slots) (hk2 : kc + 1 ≤ room_1.cells ∧ ks + 6 ≤ room_1.slots) {i : Int32} {h : HP} {C : Option HP → Prop} (hbr : ∀ h', C (some h') → Rn x (kc + 1) (ks + 6) 1895 [(0, .ref b), (1, rf x.w (some xa)), (2, rf x.w (some ma)), (3, rf x.w (some oa)), (4, .int i)] [] h') (hno : ¬ C none) (hw : wpO (sC13 F xs L xa ma oa i h) C) : Rn x kc ks 847 [(0, .ref b), (1, rf x.w (some xa)), (2, rf x.w (some ma)), (3, rf x.w (some oa)), (4, .int i)] [] h := by
  unfold sC13 at hw
  refine R_aload_n (q := 1) (i := 1) (v := (some xa)) hc dL_law_847 rfl rfl ?_
  refine R_aloadV (q := 0) (i := 0) hc dL_law_848 rfl rfl ?_
  refine R_iload (q := 4) (i := 4) (v := i) hc dL_law_849 rfl ?_
  refine R_iconst (v := (1 : Int32)) hc dL_law_851 kI_1 ?_
  refine R_iadd hc dL_law_852 ?_
  refine R_scr hc hsc dL_law_853 hw (fun t1 hw => ?_)
  refine R_aloadV (q := 0) (i := 0) hc dL_law_854 rfl rfl ?_
  refine R_iload (q := 4) (i := 4) (v := i) hc dL_law_855 rfl ?_
  refine R_iconst (v := (2 : Int32)) hc dL_law_857 kI_2 ?_
  refine R_iadd hc dL_law_858 ?_
  refine R_scr hc hsc dL_law_859 hw (fun t2 hw => ?_)
  refine R_aload_n (q := 3) (i := 3) (v := (some oa)) hc dL_law_860 rfl rfl ?_
  refine R_cW (As := [rf x.w (some xa), .int t1, .int t2, rf x.w (some oa)]) (rest := []) hc ml_L_151 mf_L_with ⟨rfl, rfl⟩ ⟨le_b rfl, le_b rfl⟩ hk2 (fun v h' e => mt_L_with hlt e) rfl rfl (Nat.zero_le _) dL_law_861 hw (fun t3 h4 hw => ?_)
  refine R_istore (i := 5) (v := t3) hc [(5, .int t3), (0, .ref b), (1, rf x.w (some xa)), (2, rf x.w (some ma)), (3, rf x.w (some oa)), (4, .int i)] dL_law_864 (hnl 5 (le_b rfl)) rfl ?_
  refine R_aload_n (q := 3) (i := 2) (v := (some ma)) hc dL_law_866 rfl rfl ?_
  refine R_aloadV (q := 1) (i := 0) hc dL_law_867 rfl rfl ?_
  refine R_iload (q := 5) (i := 4) (v := i) hc dL_law_868 rfl ?_
  refine R_iconst (v := (1 : Int32)) hc dL_law_870 kI_1 ?_
  refine R_iadd hc dL_law_871 ?_
  refine R_scr hc hsc dL_law_872 hw (fun t5 hw => ?_)
  refine R_aloadV (q := 1) (i := 0) hc dL_law_873 rfl rfl ?_
  refine R_iload (q := 5) (i := 4) (v := i) hc dL_law_874 rfl ?_
  refine R_iconst (v := (2 : Int32)) hc dL_law_876 kI_2 ?_
  refine R_iadd hc dL_law_877 ?_
  refine R_scr hc hsc dL_law_878 hw (fun t6 hw => ?_)
  refine R_cVIi (As := [.int t5, .int t6]) (rest := []) (r := (some ma)) (ci := 11) hc ml_L_153 mf_X11_with rfl (by decide) ⟨rfl, rfl⟩ ⟨le_b rfl, le_b rfl⟩ hk2 (fun a v h' e => mt_X11_with e) rfl rfl (Nat.zero_le _) dL_law_879 hw (fun t8 h9 hw => ?_)
  refine R_istore (i := 6) (v := t8) hc [(6, .int t8), (5, .int t3), (0, .ref b), (1, rf x.w (some xa)), (2, rf x.w (some ma)), (3, rf x.w (some oa)), (4, .int i)] dL_law_882 (hnl 6 (le_b rfl)) rfl ?_
  refine R_aload_n (q := 4) (i := 2) (v := (some ma)) hc dL_law_884 rfl rfl ?_
  refine R_cVI (As := []) (rest := []) (r := (some ma)) (ci := 11) hc ml_L_108 mf_X11_thrown rfl (by decide) ⟨rfl, rfl⟩ ⟨le_b rfl, le_b rfl⟩ hk2 (fun a v e => mt_X11_thrown e) rfl rfl (Nat.zero_le _) dL_law_885 hw (fun t11 hw => ?_)
  refine R_iload (q := 1) (i := 5) (v := t3) hc dL_law_888 rfl ?_
  refine R_icmp_eq (tgt := 895) hc dL_law_890 (by decide) hw (fun hw => ?_) (fun hw => ?_)
  · refine R_iload (q := 1) (i := 5) (v := t3) hc dL_law_895 rfl ?_
    refine R_if_ne (tgt := 912) hc dL_law_897 (by decide) hw (fun hw => ?_) (fun hw => ?_)
    · refine R_goto (tgt := 1895) hc dL_law_912 (by decide) ?_
      refine R_sub hc [2, 3, 4, 5, 6] rfl ?_
      exact hbr _ (wpO_some hw :)
    · refine R_aload_n (q := 5) (i := 3) (v := (some oa)) hc dL_law_900 rfl rfl ?_
      refine R_iconst (v := (0 : Int32)) hc dL_law_901 kI_0 ?_
      refine R_laload hc dL_law_902 hw (fun t12 hw => ?_)
      refine R_iload (q := 0) (i := 6) (v := t8) hc dL_law_903 rfl ?_
      refine R_i2l hc dL_law_905 ?_
      refine R_lcmp hc dL_law_906 ?_
      refine R_if_eq (tgt := 912) hc dL_law_907 (by decide) hw (fun hw => ?_) (fun hw => ?_)
      · refine R_goto (tgt := 1895) hc dL_law_912 (by decide) ?_
        refine R_sub hc [2, 3, 4, 5, 6] rfl ?_
        exact hbr _ (wpO_some hw :)
      · refine R_iconst (v := (0 : Int32)) hc dL_law_910 kI_0 ?_
        exact absurd (wpO_some hw :) hno
  · refine R_iconst (v := (0 : Int32)) hc dL_law_893 kI_0 ?_
    exact absurd (wpO_some hw :) hno
def sC14 (F : Nat) (xs : Nat → Int32) (L xa ma oa : Nat) (i : Int32) (h : HP) : Option (Option HP) :=
  (scrI xs L (i + (1 : Int32))).bind fun t1 =>
  (if t1 = 0 then
      some (0 : Int32)
    else
      some (1 : Int32)).bind fun s2 =>
  (dO h 10 (some xa)).bind fun a3 =>
  (sX10_bound F a3 s2 h).bind fun t4 =>
  (scrI xs L (i + (1 : Int32))).bind fun t5 =>
  if t5 = 0 then
    (dO h 11 (some ma)).bind fun a6 =>
    bd2 (sX11_bound F a6 (0 : Int32) h) fun t7 h8 =>
    if t4 = t7 then
      some (some h8)
    else
      some none
  else
    (dO h 11 (some ma)).bind fun a9 =>
    bd2 (sX11_bound F a9 (1 : Int32) h) fun t10 h11 =>
    if t4 = t10 then
      some (some h11)
    else
      some none
set_option maxRecDepth 100000 in
set_option maxHeartbeats 4000000 in
theorem mC14 {x : CX} (hc : Cx x cL_law RL room_1) (hlt : x.l.stackTraces = false) (hnl : ∀ i, i < 8 → i < x.nL) {F : Nat} {xs : Nat → Int32} {b L xa ma oa kc ks : Nat} (hsc : Scr x b L xs) (hk1 : kc ≤ room_1.cells ∧ ks ≤ room_1.slots) (hk2 : kc + 1 ≤ room_1.cells ∧ ks + 6 ≤ room_1.slots) {i : Int32} {h : HP} {C : Option HP → Prop} (hbr : ∀ h', C (some h') → Rn x (kc + 1) (ks + 6) 1895 [(0, .ref b), (1, rf x.w (some xa)), (2, rf x.w (some ma)), (3, rf x.w (some oa)), (4, .int i)] [] h') (hno : ¬ C none) (hw : wpO (sC14 F xs L xa ma oa i h) C) : Rn x kc ks 915 [(0, .ref b), (1, rf x.w (some xa)), (2, rf x.w (some ma)), (3, rf x.w (some oa)), (4, .int i)] [] h := by
  unfold sC14 at hw
  refine R_aload_n (q := 1) (i := 1) (v := (some xa)) hc dL_law_915 rfl rfl ?_
  refine R_aloadV (q := 0) (i := 0) hc dL_law_916 rfl rfl ?_
  refine R_iload (q := 4) (i := 4) (v := i) hc dL_law_917 rfl ?_
  refine R_iconst (v := (1 : Int32)) hc dL_law_919 kI_1 ?_
  refine R_iadd hc dL_law_920 ?_
  refine R_scr hc hsc dL_law_921 hw (fun t1 hw => ?_)
  refine R_join (fun (s2 : Int32) => Rn x kc ks 930 [(0, .ref b), (1, rf x.w (some xa)), (2, rf x.w (some ma)), (3, rf x.w (some oa)), (4, .int i)] [.int s2, rf x.w (some xa)] h) hw (fun r hw => ?_) (fun hw => ?_)
  · revert r hw
    intro s2 hw
    show Rn x kc ks 930 [(0, .ref b), (1, rf x.w (some xa)), (2, rf x.w (some ma)), (3, rf x.w (some oa)), (4, .int i)] [.int s2, rf x.w (some xa)] h
    refine R_cVI (As := [.int s2]) (rest := []) (r := (some xa)) (ci := 10) hc ml_L_154 mf_X10_bound rfl (by decide) ⟨rfl, rfl⟩ ⟨le_b rfl, le_b rfl⟩ hk1 (fun a v e => mt_X10_bound e) rfl rfl (Nat.zero_le _) dL_law_930 hw (fun t4 hw => ?_)
    refine R_aload_n (q := 2) (i := 2) (v := (some ma)) hc dL_law_933 rfl rfl ?_
    refine R_aloadV (q := 0) (i := 0) hc dL_law_934 rfl rfl ?_
    refine R_iload (q := 4) (i := 4) (v := i) hc dL_law_935 rfl ?_
    refine R_iconst (v := (1 : Int32)) hc dL_law_937 kI_1 ?_
    refine R_iadd hc dL_law_938 ?_
    refine R_scr hc hsc dL_law_939 hw (fun t5 hw => ?_)
    refine R_if_eq (tgt := 947) hc dL_law_940 (by decide) hw (fun hw => ?_) (fun hw => ?_)
    · refine R_iconst (v := (0 : Int32)) hc dL_law_947 kI_0 ?_
      refine R_cVIi (As := [.int (0 : Int32)]) (rest := [.int t4]) (r := (some ma)) (ci := 11) hc ml_L_158 mf_X11_bound rfl (by decide) ⟨rfl, rfl⟩ ⟨le_b rfl, le_b rfl⟩ hk1 (fun a v h' e => mt_X11_bound e) rfl rfl (le_b rfl) dL_law_948 hw (fun t7 h8 hw => ?_)
      refine R_icmp_eq (tgt := 1895) hc dL_law_951 (by decide) hw (fun hw => ?_) (fun hw => ?_)
      · refine R_wide (k := kc + 1) (n := ks + 6) (Nat.le_succ _) (Nat.le_add_right _ _) ?_
        refine R_sub hc [0, 1, 2, 3, 4] rfl ?_
        exact hbr _ (wpO_some hw :)
      · refine R_iconst (v := (0 : Int32)) hc dL_law_954 kI_0 ?_
        exact absurd (wpO_some hw :) hno
    · refine R_iconst (v := (1 : Int32)) hc dL_law_943 kI_1 ?_
      refine R_goto (tgt := 948) hc dL_law_944 (by decide) ?_
      refine R_cVIi (As := [.int (1 : Int32)]) (rest := [.int t4]) (r := (some ma)) (ci := 11) hc ml_L_158 mf_X11_bound rfl (by decide) ⟨rfl, rfl⟩ ⟨le_b rfl, le_b rfl⟩ hk1 (fun a v h' e => mt_X11_bound e) rfl rfl (le_b rfl) dL_law_948 hw (fun t10 h11 hw => ?_)
      refine R_icmp_eq (tgt := 1895) hc dL_law_951 (by decide) hw (fun hw => ?_) (fun hw => ?_)
      · refine R_wide (k := kc + 1) (n := ks + 6) (Nat.le_succ _) (Nat.le_add_right _ _) ?_
        refine R_sub hc [0, 1, 2, 3, 4] rfl ?_
        exact hbr _ (wpO_some hw :)
      · refine R_iconst (v := (0 : Int32)) hc dL_law_954 kI_0 ?_
        exact absurd (wpO_some hw :) hno
  · refine R_if_eq (tgt := 929) hc dL_law_922 (by decide) hw (fun hw => ?_) (fun hw => ?_)
    · refine R_iconst (v := (0 : Int32)) hc dL_law_929 kI_0 ?_
      refine R_sub hc [0, 1, 2, 3, 4] rfl ?_
      exact (wpO_some hw :)
    · refine R_iconst (v := (1 : Int32)) hc dL_law_925 kI_1 ?_
      refine R_goto (tgt := 930) hc dL_law_926 (by decide) ?_
      refine R_sub hc [0, 1, 2, 3, 4] rfl ?_
      exact (wpO_some hw :)
def sC15 (F : Nat) (xs : Nat → Int32) (L xa ma oa : Nat) (i : Int32) (h : HP) : Option (Option HP) :=
  (dO h 10 (some xa)).bind fun a1 =>
  (sX10_agrees F a1 h).bind fun t2 =>
  (dO h 11 (some ma)).bind fun a3 =>
  bd2 (sX11_agrees F a3 h) fun t4 h5 =>
  if t2 = t4 then
    some (some h5)
  else
    some none
set_option maxRecDepth 100000 in
set_option maxHeartbeats 4000000 in
theorem mC15 {x : CX} (hc : Cx x cL_law RL room_1) (hlt : x.l.stackTraces = false) (hnl : ∀ i, i < 8 → i < x.nL) {F : Nat} {xs : Nat → Int32} {b L xa ma oa kc ks : Nat} (hsc : Scr x b L xs) (hk1 : kc ≤ room_1.cells ∧ ks ≤ room_1.slots) (hk2 : kc + 1 ≤ room_1.cells ∧ ks + 6 ≤ room_1.slots) {i : Int32} {h : HP} {C : Option HP → Prop} (hbr : ∀ h', C (some h') → Rn x (kc + 1) (ks + 6) 1895 [(0, .ref b), (1, rf x.w (some xa)), (2, rf x.w (some ma)), (3, rf x.w (some oa)), (4, .int i)] [] h') (hno : ¬ C none) (hw : wpO (sC15 F xs L xa ma oa i h) C) : Rn x kc ks 956 [(0, .ref b), (1, rf x.w (some xa)), (2, rf x.w (some ma)), (3, rf x.w (some oa)), (4, .int i)] [] h := by
  unfold sC15 at hw
  refine R_aload_n (q := 1) (i := 1) (v := (some xa)) hc dL_law_956 rfl rfl ?_
  refine R_cVI (As := []) (rest := []) (r := (some xa)) (ci := 10) hc ml_L_159 mf_X10_agrees rfl (by decide) ⟨rfl, rfl⟩ ⟨le_b rfl, le_b rfl⟩ hk1 (fun a v e => mt_X10_agrees e) rfl rfl (Nat.zero_le _) dL_law_957 hw (fun t2 hw => ?_)
  refine R_aload_n (q := 2) (i := 2) (v := (some ma)) hc dL_law_960 rfl rfl ?_
  refine R_cVIi (As := []) (rest := [.int t2]) (r := (some ma)) (ci := 11) hc ml_L_163 mf_X11_agrees rfl (by decide) ⟨rfl, rfl⟩ ⟨le_b rfl, le_b rfl⟩ hk1 (fun a v h' e => mt_X11_agrees e) rfl rfl (le_b rfl) dL_law_961 hw (fun t4 h5 hw => ?_)
  refine R_icmp_eq (tgt := 1895) hc dL_law_964 (by decide) hw (fun hw => ?_) (fun hw => ?_)
  · refine R_wide (k := kc + 1) (n := ks + 6) (Nat.le_succ _) (Nat.le_add_right _ _) ?_
    refine R_sub hc [0, 1, 2, 3, 4] rfl ?_
    exact hbr _ (wpO_some hw :)
  · refine R_iconst (v := (0 : Int32)) hc dL_law_967 kI_0 ?_
    exact absurd (wpO_some hw :) hno
def sC16 (F : Nat) (xs : Nat → Int32) (L xa ma oa : Nat) (i : Int32) (h : HP) : Option (Option HP) :=
  (scrI xs L (i + (1 : Int32))).bind fun t1 =>
  bd2 (sL_ofSet F (some xa) t1 (some oa) h) fun t2 h3 =>
  (scrI xs L (i + (1 : Int32))).bind fun t4 =>
  (dO h3 11 (some ma)).bind fun a5 =>
  bd2 (sX11_ofSet F a5 t4 h3) fun t6 h7 =>
  (dO h7 11 (some ma)).bind fun a8 =>
  (sX11_thrown F a8 h7).bind fun t9 =>
  if t9 = t2 then
    if ¬ t2 = 0 then
      some (some h7)
    else
      (aJ h7 (some oa) (0 : Int32)).bind fun t10 =>
      if (lg_cmp t10 t6.toInt64) = 0 then
        some (some h7)
      else
        some none
  else
    some none
set_option maxRecDepth 100000 in
set_option maxHeartbeats 4000000 in
theorem mC16 {x : CX} (hc : Cx x cL_law RL room_1) (hlt : x.l.stackTraces = false) (hnl : ∀ i, i < 8 → i < x.nL) {F : Nat} {xs : Nat → Int32} {b L xa ma oa kc ks : Nat} (hsc : Scr x b L xs) (hk1 : kc ≤ room_1.cells ∧ ks ≤ room_1.slots) (hk2 : kc + 1 ≤ room_1.cells ∧ ks + 6 ≤ room_1.slots) {i : Int32} {h : HP} {C : Option HP → Prop} (hbr : ∀ h', C (some h') → Rn x (kc + 1) (ks + 6) 1895 [(0, .ref b), (1, rf x.w (some xa)), (2, rf x.w (some ma)), (3, rf x.w (some oa)), (4, .int i)] [] h') (hno : ¬ C none) (hw : wpO (sC16 F xs L xa ma oa i h) C) : Rn x kc ks 969 [(0, .ref b), (1, rf x.w (some xa)), (2, rf x.w (some ma)), (3, rf x.w (some oa)), (4, .int i)] [] h := by
  unfold sC16 at hw
  refine R_aload_n (q := 1) (i := 1) (v := (some xa)) hc dL_law_969 rfl rfl ?_
  refine R_aloadV (q := 0) (i := 0) hc dL_law_970 rfl rfl ?_
  refine R_iload (q := 4) (i := 4) (v := i) hc dL_law_971 rfl ?_
  refine R_iconst (v := (1 : Int32)) hc dL_law_973 kI_1 ?_
  refine R_iadd hc dL_law_974 ?_
  refine R_scr hc hsc dL_law_975 hw (fun t1 hw => ?_)
  refine R_aload_n (q := 3) (i := 3) (v := (some oa)) hc dL_law_976 rfl rfl ?_
  refine R_cW (As := [rf x.w (some xa), .int t1, rf x.w (some oa)]) (rest := []) hc ml_L_164 mf_L_ofSet ⟨rfl, rfl⟩ ⟨le_b rfl, le_b rfl⟩ hk2 (fun v h' e => mt_L_ofSet hlt e) rfl rfl (Nat.zero_le _) dL_law_977 hw (fun t2 h3 hw => ?_)
  refine R_istore (i := 5) (v := t2) hc [(5, .int t2), (0, .ref b), (1, rf x.w (some xa)), (2, rf x.w (some ma)), (3, rf x.w (some oa)), (4, .int i)] dL_law_980 (hnl 5 (le_b rfl)) rfl ?_
  refine R_aload_n (q := 3) (i := 2) (v := (some ma)) hc dL_law_982 rfl rfl ?_
  refine R_aloadV (q := 1) (i := 0) hc dL_law_983 rfl rfl ?_
  refine R_iload (q := 5) (i := 4) (v := i) hc dL_law_984 rfl ?_
  refine R_iconst (v := (1 : Int32)) hc dL_law_986 kI_1 ?_
  refine R_iadd hc dL_law_987 ?_
  refine R_scr hc hsc dL_law_988 hw (fun t4 hw => ?_)
  refine R_cVIi (As := [.int t4]) (rest := []) (r := (some ma)) (ci := 11) hc ml_L_166 mf_X11_ofSet rfl (by decide) ⟨rfl, rfl⟩ ⟨le_b rfl, le_b rfl⟩ hk2 (fun a v h' e => mt_X11_ofSet e) rfl rfl (Nat.zero_le _) dL_law_989 hw (fun t6 h7 hw => ?_)
  refine R_istore (i := 6) (v := t6) hc [(6, .int t6), (5, .int t2), (0, .ref b), (1, rf x.w (some xa)), (2, rf x.w (some ma)), (3, rf x.w (some oa)), (4, .int i)] dL_law_992 (hnl 6 (le_b rfl)) rfl ?_
  refine R_aload_n (q := 4) (i := 2) (v := (some ma)) hc dL_law_994 rfl rfl ?_
  refine R_cVI (As := []) (rest := []) (r := (some ma)) (ci := 11) hc ml_L_108 mf_X11_thrown rfl (by decide) ⟨rfl, rfl⟩ ⟨le_b rfl, le_b rfl⟩ hk2 (fun a v e => mt_X11_thrown e) rfl rfl (Nat.zero_le _) dL_law_995 hw (fun t9 hw => ?_)
  refine R_iload (q := 1) (i := 5) (v := t2) hc dL_law_998 rfl ?_
  refine R_icmp_eq (tgt := 1005) hc dL_law_1000 (by decide) hw (fun hw => ?_) (fun hw => ?_)
  · refine R_iload (q := 1) (i := 5) (v := t2) hc dL_law_1005 rfl ?_
    refine R_if_ne (tgt := 1022) hc dL_law_1007 (by decide) hw (fun hw => ?_) (fun hw => ?_)
    · refine R_goto (tgt := 1895) hc dL_law_1022 (by decide) ?_
      refine R_sub hc [2, 3, 4, 5, 6] rfl ?_
      exact hbr _ (wpO_some hw :)
    · refine R_aload_n (q := 5) (i := 3) (v := (some oa)) hc dL_law_1010 rfl rfl ?_
      refine R_iconst (v := (0 : Int32)) hc dL_law_1011 kI_0 ?_
      refine R_laload hc dL_law_1012 hw (fun t10 hw => ?_)
      refine R_iload (q := 0) (i := 6) (v := t6) hc dL_law_1013 rfl ?_
      refine R_i2l hc dL_law_1015 ?_
      refine R_lcmp hc dL_law_1016 ?_
      refine R_if_eq (tgt := 1022) hc dL_law_1017 (by decide) hw (fun hw => ?_) (fun hw => ?_)
      · refine R_goto (tgt := 1895) hc dL_law_1022 (by decide) ?_
        refine R_sub hc [2, 3, 4, 5, 6] rfl ?_
        exact hbr _ (wpO_some hw :)
      · refine R_iconst (v := (0 : Int32)) hc dL_law_1020 kI_0 ?_
        exact absurd (wpO_some hw :) hno
  · refine R_iconst (v := (0 : Int32)) hc dL_law_1003 kI_0 ?_
    exact absurd (wpO_some hw :) hno
def sC17 (F : Nat) (xs : Nat → Int32) (L xa ma oa : Nat) (i : Int32) (h : HP) : Option (Option HP) :=
  (scrI xs L (i + (1 : Int32))).bind fun t1 =>
  (scrI xs L (i + (2 : Int32))).bind fun t2 =>
  (if t2 = 0 then
      some (0 : Int32)
    else
      some (1 : Int32)).bind fun s3 =>
  bd2 (sL_parted F (some xa) t1 s3 (some oa) h) fun t4 h5 =>
  (scrI xs L (i + (1 : Int32))).bind fun t6 =>
  (scrI xs L (i + (2 : Int32))).bind fun t7 =>
  (if t7 = 0 then
      some (0 : Int32)
    else
      some (1 : Int32)).bind fun s8 =>
  (dO h5 11 (some ma)).bind fun a9 =>
  bd2 (sX11_parted F a9 t6 s8 h5) fun t10 h11 =>
  (dO h11 11 (some ma)).bind fun a12 =>
  (sX11_thrown F a12 h11).bind fun t13 =>
  if t13 = t4 then
    if ¬ t4 = 0 then
      some (some h11)
    else
      (aJ h11 (some oa) (0 : Int32)).bind fun t14 =>
      if (lg_cmp t14 t10.toInt64) = 0 then
        some (some h11)
      else
        some none
  else
    some none
set_option maxRecDepth 100000 in
set_option maxHeartbeats 4000000 in
theorem mC17 {x : CX} (hc : Cx x cL_law RL room_1) (hlt : x.l.stackTraces = false) (hnl : ∀ i, i < 8 → i < x.nL) {F : Nat} {xs : Nat → Int32} {b L xa ma oa kc ks : Nat} (hsc : Scr x b L xs) (hk1 : kc ≤ room_1.cells ∧ ks ≤ room_1.slots) (hk2 : kc + 1 ≤ room_1.cells ∧ ks + 6 ≤ room_1.slots) {i : Int32} {h : HP} {C : Option HP → Prop} (hbr : ∀ h', C (some h') → Rn x (kc + 1) (ks + 6) 1895 [(0, .ref b), (1, rf x.w (some xa)), (2, rf x.w (some ma)), (3, rf x.w (some oa)), (4, .int i)] [] h') (hno : ¬ C none) (hw : wpO (sC17 F xs L xa ma oa i h) C) : Rn x kc ks 1025 [(0, .ref b), (1, rf x.w (some xa)), (2, rf x.w (some ma)), (3, rf x.w (some oa)), (4, .int i)] [] h := by
  unfold sC17 at hw
  refine R_aload_n (q := 1) (i := 1) (v := (some xa)) hc dL_law_1025 rfl rfl ?_
  refine R_aloadV (q := 0) (i := 0) hc dL_law_1026 rfl rfl ?_
  refine R_iload (q := 4) (i := 4) (v := i) hc dL_law_1027 rfl ?_
  refine R_iconst (v := (1 : Int32)) hc dL_law_1029 kI_1 ?_
  refine R_iadd hc dL_law_1030 ?_
  refine R_scr hc hsc dL_law_1031 hw (fun t1 hw => ?_)
  refine R_aloadV (q := 0) (i := 0) hc dL_law_1032 rfl rfl ?_
  refine R_iload (q := 4) (i := 4) (v := i) hc dL_law_1033 rfl ?_
  refine R_iconst (v := (2 : Int32)) hc dL_law_1035 kI_2 ?_
  refine R_iadd hc dL_law_1036 ?_
  refine R_scr hc hsc dL_law_1037 hw (fun t2 hw => ?_)
  refine R_join (fun (s3 : Int32) => Rn x kc ks 1046 [(0, .ref b), (1, rf x.w (some xa)), (2, rf x.w (some ma)), (3, rf x.w (some oa)), (4, .int i)] [.int s3, .int t1, rf x.w (some xa)] h) hw (fun r hw => ?_) (fun hw => ?_)
  · revert r hw
    intro s3 hw
    show Rn x kc ks 1046 [(0, .ref b), (1, rf x.w (some xa)), (2, rf x.w (some ma)), (3, rf x.w (some oa)), (4, .int i)] [.int s3, .int t1, rf x.w (some xa)] h
    refine R_aload_n (q := 3) (i := 3) (v := (some oa)) hc dL_law_1046 rfl rfl ?_
    refine R_cW (As := [rf x.w (some xa), .int t1, .int s3, rf x.w (some oa)]) (rest := []) hc ml_L_167 mf_L_parted ⟨rfl, rfl⟩ ⟨le_b rfl, le_b rfl⟩ hk2 (fun v h' e => mt_L_parted hlt e) rfl rfl (Nat.zero_le _) dL_law_1047 hw (fun t4 h5 hw => ?_)
    refine R_istore (i := 5) (v := t4) hc [(5, .int t4), (0, .ref b), (1, rf x.w (some xa)), (2, rf x.w (some ma)), (3, rf x.w (some oa)), (4, .int i)] dL_law_1050 (hnl 5 (le_b rfl)) rfl ?_
    refine R_aload_n (q := 3) (i := 2) (v := (some ma)) hc dL_law_1052 rfl rfl ?_
    refine R_aloadV (q := 1) (i := 0) hc dL_law_1053 rfl rfl ?_
    refine R_iload (q := 5) (i := 4) (v := i) hc dL_law_1054 rfl ?_
    refine R_iconst (v := (1 : Int32)) hc dL_law_1056 kI_1 ?_
    refine R_iadd hc dL_law_1057 ?_
    refine R_scr hc hsc dL_law_1058 hw (fun t6 hw => ?_)
    refine R_aloadV (q := 1) (i := 0) hc dL_law_1059 rfl rfl ?_
    refine R_iload (q := 5) (i := 4) (v := i) hc dL_law_1060 rfl ?_
    refine R_iconst (v := (2 : Int32)) hc dL_law_1062 kI_2 ?_
    refine R_iadd hc dL_law_1063 ?_
    refine R_scr hc hsc dL_law_1064 hw (fun t7 hw => ?_)
    refine R_join (fun (s8 : Int32) => Rn x (kc + 1) (ks + 6) 1073 [(0, .ref b), (1, rf x.w (some xa)), (2, rf x.w (some ma)), (3, rf x.w (some oa)), (4, .int i), (5, .int t4)] [.int s8, .int t6, rf x.w (some ma)] h5) hw (fun r hw => ?_) (fun hw => ?_)
    · revert r hw
      intro s8 hw
      show Rn x (kc + 1) (ks + 6) 1073 [(0, .ref b), (1, rf x.w (some xa)), (2, rf x.w (some ma)), (3, rf x.w (some oa)), (4, .int i), (5, .int t4)] [.int s8, .int t6, rf x.w (some ma)] h5
      refine R_cVIi (As := [.int t6, .int s8]) (rest := []) (r := (some ma)) (ci := 11) hc ml_L_170 mf_X11_parted rfl (by decide) ⟨rfl, rfl⟩ ⟨le_b rfl, le_b rfl⟩ hk2 (fun a v h' e => mt_X11_parted e) rfl rfl (Nat.zero_le _) dL_law_1073 hw (fun t10 h11 hw => ?_)
      refine R_istore (i := 6) (v := t10) hc [(6, .int t10), (0, .ref b), (1, rf x.w (some xa)), (2, rf x.w (some ma)), (3, rf x.w (some oa)), (4, .int i), (5, .int t4)] dL_law_1076 (hnl 6 (le_b rfl)) rfl ?_
      refine R_aload_n (q := 3) (i := 2) (v := (some ma)) hc dL_law_1078 rfl rfl ?_
      refine R_cVI (As := []) (rest := []) (r := (some ma)) (ci := 11) hc ml_L_108 mf_X11_thrown rfl (by decide) ⟨rfl, rfl⟩ ⟨le_b rfl, le_b rfl⟩ hk2 (fun a v e => mt_X11_thrown e) rfl rfl (Nat.zero_le _) dL_law_1079 hw (fun t13 hw => ?_)
      refine R_iload (q := 6) (i := 5) (v := t4) hc dL_law_1082 rfl ?_
      refine R_icmp_eq (tgt := 1089) hc dL_law_1084 (by decide) hw (fun hw => ?_) (fun hw => ?_)
      · refine R_iload (q := 6) (i := 5) (v := t4) hc dL_law_1089 rfl ?_
        refine R_if_ne (tgt := 1106) hc dL_law_1091 (by decide) hw (fun hw => ?_) (fun hw => ?_)
        · refine R_goto (tgt := 1895) hc dL_law_1106 (by decide) ?_
          refine R_sub hc [1, 2, 3, 4, 5] rfl ?_
          exact hbr _ (wpO_some hw :)
        · refine R_aload_n (q := 4) (i := 3) (v := (some oa)) hc dL_law_1094 rfl rfl ?_
          refine R_iconst (v := (0 : Int32)) hc dL_law_1095 kI_0 ?_
          refine R_laload hc dL_law_1096 hw (fun t14 hw => ?_)
          refine R_iload (q := 0) (i := 6) (v := t10) hc dL_law_1097 rfl ?_
          refine R_i2l hc dL_law_1099 ?_
          refine R_lcmp hc dL_law_1100 ?_
          refine R_if_eq (tgt := 1106) hc dL_law_1101 (by decide) hw (fun hw => ?_) (fun hw => ?_)
          · refine R_goto (tgt := 1895) hc dL_law_1106 (by decide) ?_
            refine R_sub hc [1, 2, 3, 4, 5] rfl ?_
            exact hbr _ (wpO_some hw :)
          · refine R_iconst (v := (0 : Int32)) hc dL_law_1104 kI_0 ?_
            exact absurd (wpO_some hw :) hno
      · refine R_iconst (v := (0 : Int32)) hc dL_law_1087 kI_0 ?_
        exact absurd (wpO_some hw :) hno
    · refine R_if_eq (tgt := 1072) hc dL_law_1065 (by decide) hw (fun hw => ?_) (fun hw => ?_)
      · refine R_iconst (v := (0 : Int32)) hc dL_law_1072 kI_0 ?_
        refine R_sub hc [1, 2, 3, 4, 5, 0] rfl ?_
        exact (wpO_some hw :)
      · refine R_iconst (v := (1 : Int32)) hc dL_law_1068 kI_1 ?_
        refine R_goto (tgt := 1073) hc dL_law_1069 (by decide) ?_
        refine R_sub hc [1, 2, 3, 4, 5, 0] rfl ?_
        exact (wpO_some hw :)
  · refine R_if_eq (tgt := 1045) hc dL_law_1038 (by decide) hw (fun hw => ?_) (fun hw => ?_)
    · refine R_iconst (v := (0 : Int32)) hc dL_law_1045 kI_0 ?_
      refine R_sub hc [0, 1, 2, 3, 4] rfl ?_
      exact (wpO_some hw :)
    · refine R_iconst (v := (1 : Int32)) hc dL_law_1041 kI_1 ?_
      refine R_goto (tgt := 1046) hc dL_law_1042 (by decide) ?_
      refine R_sub hc [0, 1, 2, 3, 4] rfl ?_
      exact (wpO_some hw :)
def sC18 (F : Nat) (xs : Nat → Int32) (L xa ma oa : Nat) (i : Int32) (h : HP) : Option (Option HP) :=
  (dO h 10 (some xa)).bind fun a1 =>
  (sX10_dearest F a1 h).bind fun t2 =>
  (dO h 11 (some ma)).bind fun a3 =>
  bd2 (sX11_dearest F a3 h) fun t4 h5 =>
  if t2 = t4 then
    some (some h5)
  else
    some none
set_option maxRecDepth 100000 in
set_option maxHeartbeats 4000000 in
theorem mC18 {x : CX} (hc : Cx x cL_law RL room_1) (hlt : x.l.stackTraces = false) (hnl : ∀ i, i < 8 → i < x.nL) {F : Nat} {xs : Nat → Int32} {b L xa ma oa kc ks : Nat} (hsc : Scr x b L xs) (hk1 : kc ≤ room_1.cells ∧ ks ≤ room_1.slots) (hk2 : kc + 1 ≤ room_1.cells ∧ ks + 6 ≤ room_1.slots) {i : Int32} {h : HP} {C : Option HP → Prop} (hbr : ∀ h', C (some h') → Rn x (kc + 1) (ks + 6) 1895 [(0, .ref b), (1, rf x.w (some xa)), (2, rf x.w (some ma)), (3, rf x.w (some oa)), (4, .int i)] [] h') (hno : ¬ C none) (hw : wpO (sC18 F xs L xa ma oa i h) C) : Rn x kc ks 1109 [(0, .ref b), (1, rf x.w (some xa)), (2, rf x.w (some ma)), (3, rf x.w (some oa)), (4, .int i)] [] h := by
  unfold sC18 at hw
  refine R_aload_n (q := 1) (i := 1) (v := (some xa)) hc dL_law_1109 rfl rfl ?_
  refine R_cVI (As := []) (rest := []) (r := (some xa)) (ci := 10) hc ml_L_171 mf_X10_dearest rfl (by decide) ⟨rfl, rfl⟩ ⟨le_b rfl, le_b rfl⟩ hk1 (fun a v e => mt_X10_dearest e) rfl rfl (Nat.zero_le _) dL_law_1110 hw (fun t2 hw => ?_)
  refine R_aload_n (q := 2) (i := 2) (v := (some ma)) hc dL_law_1113 rfl rfl ?_
  refine R_cVIi (As := []) (rest := [.int t2]) (r := (some ma)) (ci := 11) hc ml_L_174 mf_X11_dearest rfl (by decide) ⟨rfl, rfl⟩ ⟨le_b rfl, le_b rfl⟩ hk1 (fun a v h' e => mt_X11_dearest e) rfl rfl (le_b rfl) dL_law_1114 hw (fun t4 h5 hw => ?_)
  refine R_icmp_eq (tgt := 1895) hc dL_law_1117 (by decide) hw (fun hw => ?_) (fun hw => ?_)
  · refine R_wide (k := kc + 1) (n := ks + 6) (Nat.le_succ _) (Nat.le_add_right _ _) ?_
    refine R_sub hc [0, 1, 2, 3, 4] rfl ?_
    exact hbr _ (wpO_some hw :)
  · refine R_iconst (v := (0 : Int32)) hc dL_law_1120 kI_0 ?_
    exact absurd (wpO_some hw :) hno
def sC19 (F : Nat) (xs : Nat → Int32) (L xa ma oa : Nat) (i : Int32) (h : HP) : Option (Option HP) :=
  (dO h 10 (some xa)).bind fun a1 =>
  (sX10_ties F a1 h).bind fun t2 =>
  (dO h 11 (some ma)).bind fun a3 =>
  bd2 (sX11_ties F a3 h) fun t4 h5 =>
  if t2 = t4 then
    some (some h5)
  else
    some none
set_option maxRecDepth 100000 in
set_option maxHeartbeats 4000000 in
theorem mC19 {x : CX} (hc : Cx x cL_law RL room_1) (hlt : x.l.stackTraces = false) (hnl : ∀ i, i < 8 → i < x.nL) {F : Nat} {xs : Nat → Int32} {b L xa ma oa kc ks : Nat} (hsc : Scr x b L xs) (hk1 : kc ≤ room_1.cells ∧ ks ≤ room_1.slots) (hk2 : kc + 1 ≤ room_1.cells ∧ ks + 6 ≤ room_1.slots) {i : Int32} {h : HP} {C : Option HP → Prop} (hbr : ∀ h', C (some h') → Rn x (kc + 1) (ks + 6) 1895 [(0, .ref b), (1, rf x.w (some xa)), (2, rf x.w (some ma)), (3, rf x.w (some oa)), (4, .int i)] [] h') (hno : ¬ C none) (hw : wpO (sC19 F xs L xa ma oa i h) C) : Rn x kc ks 1122 [(0, .ref b), (1, rf x.w (some xa)), (2, rf x.w (some ma)), (3, rf x.w (some oa)), (4, .int i)] [] h := by
  unfold sC19 at hw
  refine R_aload_n (q := 1) (i := 1) (v := (some xa)) hc dL_law_1122 rfl rfl ?_
  refine R_cVI (As := []) (rest := []) (r := (some xa)) (ci := 10) hc ml_L_175 mf_X10_ties rfl (by decide) ⟨rfl, rfl⟩ ⟨le_b rfl, le_b rfl⟩ hk1 (fun a v e => mt_X10_ties e) rfl rfl (Nat.zero_le _) dL_law_1123 hw (fun t2 hw => ?_)
  refine R_aload_n (q := 2) (i := 2) (v := (some ma)) hc dL_law_1126 rfl rfl ?_
  refine R_cVIi (As := []) (rest := [.int t2]) (r := (some ma)) (ci := 11) hc ml_L_178 mf_X11_ties rfl (by decide) ⟨rfl, rfl⟩ ⟨le_b rfl, le_b rfl⟩ hk1 (fun a v h' e => mt_X11_ties e) rfl rfl (le_b rfl) dL_law_1127 hw (fun t4 h5 hw => ?_)
  refine R_icmp_eq (tgt := 1895) hc dL_law_1130 (by decide) hw (fun hw => ?_) (fun hw => ?_)
  · refine R_wide (k := kc + 1) (n := ks + 6) (Nat.le_succ _) (Nat.le_add_right _ _) ?_
    refine R_sub hc [0, 1, 2, 3, 4] rfl ?_
    exact hbr _ (wpO_some hw :)
  · refine R_iconst (v := (0 : Int32)) hc dL_law_1133 kI_0 ?_
    exact absurd (wpO_some hw :) hno
def sC20 (F : Nat) (xs : Nat → Int32) (L xa ma oa : Nat) (i : Int32) (h : HP) : Option (Option HP) :=
  (dO h 10 (some xa)).bind fun a1 =>
  (sX10_lonely F a1 h).bind fun t2 =>
  (dO h 11 (some ma)).bind fun a3 =>
  bd2 (sX11_lonely F a3 h) fun t4 h5 =>
  if t2 = t4 then
    some (some h5)
  else
    some none
set_option maxRecDepth 100000 in
set_option maxHeartbeats 4000000 in
theorem mC20 {x : CX} (hc : Cx x cL_law RL room_1) (hlt : x.l.stackTraces = false) (hnl : ∀ i, i < 8 → i < x.nL) {F : Nat} {xs : Nat → Int32} {b L xa ma oa kc ks : Nat} (hsc : Scr x b L xs) (hk1 : kc ≤ room_1.cells ∧ ks ≤ room_1.slots) (hk2 : kc + 1 ≤ room_1.cells ∧ ks + 6 ≤ room_1.slots) {i : Int32} {h : HP} {C : Option HP → Prop} (hbr : ∀ h', C (some h') → Rn x (kc + 1) (ks + 6) 1895 [(0, .ref b), (1, rf x.w (some xa)), (2, rf x.w (some ma)), (3, rf x.w (some oa)), (4, .int i)] [] h') (hno : ¬ C none) (hw : wpO (sC20 F xs L xa ma oa i h) C) : Rn x kc ks 1135 [(0, .ref b), (1, rf x.w (some xa)), (2, rf x.w (some ma)), (3, rf x.w (some oa)), (4, .int i)] [] h := by
  unfold sC20 at hw
  refine R_aload_n (q := 1) (i := 1) (v := (some xa)) hc dL_law_1135 rfl rfl ?_
  refine R_cVI (As := []) (rest := []) (r := (some xa)) (ci := 10) hc ml_L_179 mf_X10_lonely rfl (by decide) ⟨rfl, rfl⟩ ⟨le_b rfl, le_b rfl⟩ hk1 (fun a v e => mt_X10_lonely e) rfl rfl (Nat.zero_le _) dL_law_1136 hw (fun t2 hw => ?_)
  refine R_aload_n (q := 2) (i := 2) (v := (some ma)) hc dL_law_1139 rfl rfl ?_
  refine R_cVIi (As := []) (rest := [.int t2]) (r := (some ma)) (ci := 11) hc ml_L_182 mf_X11_lonely rfl (by decide) ⟨rfl, rfl⟩ ⟨le_b rfl, le_b rfl⟩ hk1 (fun a v h' e => mt_X11_lonely e) rfl rfl (le_b rfl) dL_law_1140 hw (fun t4 h5 hw => ?_)
  refine R_icmp_eq (tgt := 1895) hc dL_law_1143 (by decide) hw (fun hw => ?_) (fun hw => ?_)
  · refine R_wide (k := kc + 1) (n := ks + 6) (Nat.le_succ _) (Nat.le_add_right _ _) ?_
    refine R_sub hc [0, 1, 2, 3, 4] rfl ?_
    exact hbr _ (wpO_some hw :)
  · refine R_iconst (v := (0 : Int32)) hc dL_law_1146 kI_0 ?_
    exact absurd (wpO_some hw :) hno
def sC21 (F : Nat) (xs : Nat → Int32) (L xa ma oa : Nat) (i : Int32) (h : HP) : Option (Option HP) :=
  (scrI xs L (i + (1 : Int32))).bind fun t1 =>
  bd2 (sL_better F (some xa) t1 (some oa) h) fun t2 h3 =>
  (scrI xs L (i + (1 : Int32))).bind fun t4 =>
  (dO h3 11 (some ma)).bind fun a5 =>
  bd2 (sX11_better F a5 t4 h3) fun t6 h7 =>
  (dO h7 11 (some ma)).bind fun a8 =>
  (sX11_thrown F a8 h7).bind fun t9 =>
  if t9 = t2 then
    if ¬ t2 = 0 then
      some (some h7)
    else
      (aJ h7 (some oa) (0 : Int32)).bind fun t10 =>
      if (lg_cmp t10 t6.toInt64) = 0 then
        some (some h7)
      else
        some none
  else
    some none
set_option maxRecDepth 100000 in
set_option maxHeartbeats 4000000 in
theorem mC21 {x : CX} (hc : Cx x cL_law RL room_1) (hlt : x.l.stackTraces = false) (hnl : ∀ i, i < 8 → i < x.nL) {F : Nat} {xs : Nat → Int32} {b L xa ma oa kc ks : Nat} (hsc : Scr x b L xs) (hk1 : kc ≤ room_1.cells ∧ ks ≤ room_1.slots) (hk2 : kc + 1 ≤ room_1.cells ∧ ks + 6 ≤ room_1.slots) {i : Int32} {h : HP} {C : Option HP → Prop} (hbr : ∀ h', C (some h') → Rn x (kc + 1) (ks + 6) 1895 [(0, .ref b), (1, rf x.w (some xa)), (2, rf x.w (some ma)), (3, rf x.w (some oa)), (4, .int i)] [] h') (hno : ¬ C none) (hw : wpO (sC21 F xs L xa ma oa i h) C) : Rn x kc ks 1148 [(0, .ref b), (1, rf x.w (some xa)), (2, rf x.w (some ma)), (3, rf x.w (some oa)), (4, .int i)] [] h := by
  unfold sC21 at hw
  refine R_aload_n (q := 1) (i := 1) (v := (some xa)) hc dL_law_1148 rfl rfl ?_
  refine R_aloadV (q := 0) (i := 0) hc dL_law_1149 rfl rfl ?_
  refine R_iload (q := 4) (i := 4) (v := i) hc dL_law_1150 rfl ?_
  refine R_iconst (v := (1 : Int32)) hc dL_law_1152 kI_1 ?_
  refine R_iadd hc dL_law_1153 ?_
  refine R_scr hc hsc dL_law_1154 hw (fun t1 hw => ?_)
  refine R_aload_n (q := 3) (i := 3) (v := (some oa)) hc dL_law_1155 rfl rfl ?_
  refine R_cW (As := [rf x.w (some xa), .int t1, rf x.w (some oa)]) (rest := []) hc ml_L_183 mf_L_better ⟨rfl, rfl⟩ ⟨le_b rfl, le_b rfl⟩ hk2 (fun v h' e => mt_L_better hlt e) rfl rfl (Nat.zero_le _) dL_law_1156 hw (fun t2 h3 hw => ?_)
  refine R_istore (i := 5) (v := t2) hc [(5, .int t2), (0, .ref b), (1, rf x.w (some xa)), (2, rf x.w (some ma)), (3, rf x.w (some oa)), (4, .int i)] dL_law_1159 (hnl 5 (le_b rfl)) rfl ?_
  refine R_aload_n (q := 3) (i := 2) (v := (some ma)) hc dL_law_1161 rfl rfl ?_
  refine R_aloadV (q := 1) (i := 0) hc dL_law_1162 rfl rfl ?_
  refine R_iload (q := 5) (i := 4) (v := i) hc dL_law_1163 rfl ?_
  refine R_iconst (v := (1 : Int32)) hc dL_law_1165 kI_1 ?_
  refine R_iadd hc dL_law_1166 ?_
  refine R_scr hc hsc dL_law_1167 hw (fun t4 hw => ?_)
  refine R_cVIi (As := [.int t4]) (rest := []) (r := (some ma)) (ci := 11) hc ml_L_185 mf_X11_better rfl (by decide) ⟨rfl, rfl⟩ ⟨le_b rfl, le_b rfl⟩ hk2 (fun a v h' e => mt_X11_better e) rfl rfl (Nat.zero_le _) dL_law_1168 hw (fun t6 h7 hw => ?_)
  refine R_istore (i := 6) (v := t6) hc [(6, .int t6), (5, .int t2), (0, .ref b), (1, rf x.w (some xa)), (2, rf x.w (some ma)), (3, rf x.w (some oa)), (4, .int i)] dL_law_1171 (hnl 6 (le_b rfl)) rfl ?_
  refine R_aload_n (q := 4) (i := 2) (v := (some ma)) hc dL_law_1173 rfl rfl ?_
  refine R_cVI (As := []) (rest := []) (r := (some ma)) (ci := 11) hc ml_L_108 mf_X11_thrown rfl (by decide) ⟨rfl, rfl⟩ ⟨le_b rfl, le_b rfl⟩ hk2 (fun a v e => mt_X11_thrown e) rfl rfl (Nat.zero_le _) dL_law_1174 hw (fun t9 hw => ?_)
  refine R_iload (q := 1) (i := 5) (v := t2) hc dL_law_1177 rfl ?_
  refine R_icmp_eq (tgt := 1184) hc dL_law_1179 (by decide) hw (fun hw => ?_) (fun hw => ?_)
  · refine R_iload (q := 1) (i := 5) (v := t2) hc dL_law_1184 rfl ?_
    refine R_if_ne (tgt := 1201) hc dL_law_1186 (by decide) hw (fun hw => ?_) (fun hw => ?_)
    · refine R_goto (tgt := 1895) hc dL_law_1201 (by decide) ?_
      refine R_sub hc [2, 3, 4, 5, 6] rfl ?_
      exact hbr _ (wpO_some hw :)
    · refine R_aload_n (q := 5) (i := 3) (v := (some oa)) hc dL_law_1189 rfl rfl ?_
      refine R_iconst (v := (0 : Int32)) hc dL_law_1190 kI_0 ?_
      refine R_laload hc dL_law_1191 hw (fun t10 hw => ?_)
      refine R_iload (q := 0) (i := 6) (v := t6) hc dL_law_1192 rfl ?_
      refine R_i2l hc dL_law_1194 ?_
      refine R_lcmp hc dL_law_1195 ?_
      refine R_if_eq (tgt := 1201) hc dL_law_1196 (by decide) hw (fun hw => ?_) (fun hw => ?_)
      · refine R_goto (tgt := 1895) hc dL_law_1201 (by decide) ?_
        refine R_sub hc [2, 3, 4, 5, 6] rfl ?_
        exact hbr _ (wpO_some hw :)
      · refine R_iconst (v := (0 : Int32)) hc dL_law_1199 kI_0 ?_
        exact absurd (wpO_some hw :) hno
  · refine R_iconst (v := (0 : Int32)) hc dL_law_1182 kI_0 ?_
    exact absurd (wpO_some hw :) hno
def sC22 (F : Nat) (xs : Nat → Int32) (L xa ma oa : Nat) (i : Int32) (h : HP) : Option (Option HP) :=
  (scrI xs L (i + (1 : Int32))).bind fun t1 =>
  (scrI xs L (i + (2 : Int32))).bind fun t2 =>
  (if t2 = 0 then
      some (0 : Int32)
    else
      some (1 : Int32)).bind fun s3 =>
  bd2 (sL_shortest F (some xa) t1 s3 (some oa) h) fun t4 h5 =>
  (scrI xs L (i + (1 : Int32))).bind fun t6 =>
  (scrI xs L (i + (2 : Int32))).bind fun t7 =>
  (if t7 = 0 then
      some (0 : Int32)
    else
      some (1 : Int32)).bind fun s8 =>
  (dO h5 11 (some ma)).bind fun a9 =>
  bd2 (sX11_shortest F a9 t6 s8 h5) fun t10 h11 =>
  (dO h11 11 (some ma)).bind fun a12 =>
  (sX11_thrown F a12 h11).bind fun t13 =>
  if t13 = t4 then
    if ¬ t4 = 0 then
      some (some h11)
    else
      (aJ h11 (some oa) (0 : Int32)).bind fun t14 =>
      if (lg_cmp t14 t10.toInt64) = 0 then
        some (some h11)
      else
        some none
  else
    some none
set_option maxRecDepth 100000 in
set_option maxHeartbeats 4000000 in
theorem mC22 {x : CX} (hc : Cx x cL_law RL room_1) (hlt : x.l.stackTraces = false) (hnl : ∀ i, i < 8 → i < x.nL) {F : Nat} {xs : Nat → Int32} {b L xa ma oa kc ks : Nat} (hsc : Scr x b L xs) (hk1 : kc ≤ room_1.cells ∧ ks ≤ room_1.slots) (hk2 : kc + 1 ≤ room_1.cells ∧ ks + 6 ≤ room_1.slots) {i : Int32} {h : HP} {C : Option HP → Prop} (hbr : ∀ h', C (some h') → Rn x (kc + 1) (ks + 6) 1895 [(0, .ref b), (1, rf x.w (some xa)), (2, rf x.w (some ma)), (3, rf x.w (some oa)), (4, .int i)] [] h') (hno : ¬ C none) (hw : wpO (sC22 F xs L xa ma oa i h) C) : Rn x kc ks 1204 [(0, .ref b), (1, rf x.w (some xa)), (2, rf x.w (some ma)), (3, rf x.w (some oa)), (4, .int i)] [] h := by
  unfold sC22 at hw
  refine R_aload_n (q := 1) (i := 1) (v := (some xa)) hc dL_law_1204 rfl rfl ?_
  refine R_aloadV (q := 0) (i := 0) hc dL_law_1205 rfl rfl ?_
  refine R_iload (q := 4) (i := 4) (v := i) hc dL_law_1206 rfl ?_
  refine R_iconst (v := (1 : Int32)) hc dL_law_1208 kI_1 ?_
  refine R_iadd hc dL_law_1209 ?_
  refine R_scr hc hsc dL_law_1210 hw (fun t1 hw => ?_)
  refine R_aloadV (q := 0) (i := 0) hc dL_law_1211 rfl rfl ?_
  refine R_iload (q := 4) (i := 4) (v := i) hc dL_law_1212 rfl ?_
  refine R_iconst (v := (2 : Int32)) hc dL_law_1214 kI_2 ?_
  refine R_iadd hc dL_law_1215 ?_
  refine R_scr hc hsc dL_law_1216 hw (fun t2 hw => ?_)
  refine R_join (fun (s3 : Int32) => Rn x kc ks 1225 [(0, .ref b), (1, rf x.w (some xa)), (2, rf x.w (some ma)), (3, rf x.w (some oa)), (4, .int i)] [.int s3, .int t1, rf x.w (some xa)] h) hw (fun r hw => ?_) (fun hw => ?_)
  · revert r hw
    intro s3 hw
    show Rn x kc ks 1225 [(0, .ref b), (1, rf x.w (some xa)), (2, rf x.w (some ma)), (3, rf x.w (some oa)), (4, .int i)] [.int s3, .int t1, rf x.w (some xa)] h
    refine R_aload_n (q := 3) (i := 3) (v := (some oa)) hc dL_law_1225 rfl rfl ?_
    refine R_cW (As := [rf x.w (some xa), .int t1, .int s3, rf x.w (some oa)]) (rest := []) hc ml_L_186 mf_L_shortest ⟨rfl, rfl⟩ ⟨le_b rfl, le_b rfl⟩ hk2 (fun v h' e => mt_L_shortest hlt e) rfl rfl (Nat.zero_le _) dL_law_1226 hw (fun t4 h5 hw => ?_)
    refine R_istore (i := 5) (v := t4) hc [(5, .int t4), (0, .ref b), (1, rf x.w (some xa)), (2, rf x.w (some ma)), (3, rf x.w (some oa)), (4, .int i)] dL_law_1229 (hnl 5 (le_b rfl)) rfl ?_
    refine R_aload_n (q := 3) (i := 2) (v := (some ma)) hc dL_law_1231 rfl rfl ?_
    refine R_aloadV (q := 1) (i := 0) hc dL_law_1232 rfl rfl ?_
    refine R_iload (q := 5) (i := 4) (v := i) hc dL_law_1233 rfl ?_
    refine R_iconst (v := (1 : Int32)) hc dL_law_1235 kI_1 ?_
    refine R_iadd hc dL_law_1236 ?_
    refine R_scr hc hsc dL_law_1237 hw (fun t6 hw => ?_)
    refine R_aloadV (q := 1) (i := 0) hc dL_law_1238 rfl rfl ?_
    refine R_iload (q := 5) (i := 4) (v := i) hc dL_law_1239 rfl ?_
    refine R_iconst (v := (2 : Int32)) hc dL_law_1241 kI_2 ?_
    refine R_iadd hc dL_law_1242 ?_
    refine R_scr hc hsc dL_law_1243 hw (fun t7 hw => ?_)
    refine R_join (fun (s8 : Int32) => Rn x (kc + 1) (ks + 6) 1252 [(0, .ref b), (1, rf x.w (some xa)), (2, rf x.w (some ma)), (3, rf x.w (some oa)), (4, .int i), (5, .int t4)] [.int s8, .int t6, rf x.w (some ma)] h5) hw (fun r hw => ?_) (fun hw => ?_)
    · revert r hw
      intro s8 hw
      show Rn x (kc + 1) (ks + 6) 1252 [(0, .ref b), (1, rf x.w (some xa)), (2, rf x.w (some ma)), (3, rf x.w (some oa)), (4, .int i), (5, .int t4)] [.int s8, .int t6, rf x.w (some ma)] h5
      refine R_cVIi (As := [.int t6, .int s8]) (rest := []) (r := (some ma)) (ci := 11) hc ml_L_188 mf_X11_shortest rfl (by decide) ⟨rfl, rfl⟩ ⟨le_b rfl, le_b rfl⟩ hk2 (fun a v h' e => mt_X11_shortest e) rfl rfl (Nat.zero_le _) dL_law_1252 hw (fun t10 h11 hw => ?_)
      refine R_istore (i := 6) (v := t10) hc [(6, .int t10), (0, .ref b), (1, rf x.w (some xa)), (2, rf x.w (some ma)), (3, rf x.w (some oa)), (4, .int i), (5, .int t4)] dL_law_1255 (hnl 6 (le_b rfl)) rfl ?_
      refine R_aload_n (q := 3) (i := 2) (v := (some ma)) hc dL_law_1257 rfl rfl ?_
      refine R_cVI (As := []) (rest := []) (r := (some ma)) (ci := 11) hc ml_L_108 mf_X11_thrown rfl (by decide) ⟨rfl, rfl⟩ ⟨le_b rfl, le_b rfl⟩ hk2 (fun a v e => mt_X11_thrown e) rfl rfl (Nat.zero_le _) dL_law_1258 hw (fun t13 hw => ?_)
      refine R_iload (q := 6) (i := 5) (v := t4) hc dL_law_1261 rfl ?_
      refine R_icmp_eq (tgt := 1268) hc dL_law_1263 (by decide) hw (fun hw => ?_) (fun hw => ?_)
      · refine R_iload (q := 6) (i := 5) (v := t4) hc dL_law_1268 rfl ?_
        refine R_if_ne (tgt := 1285) hc dL_law_1270 (by decide) hw (fun hw => ?_) (fun hw => ?_)
        · refine R_goto (tgt := 1895) hc dL_law_1285 (by decide) ?_
          refine R_sub hc [1, 2, 3, 4, 5] rfl ?_
          exact hbr _ (wpO_some hw :)
        · refine R_aload_n (q := 4) (i := 3) (v := (some oa)) hc dL_law_1273 rfl rfl ?_
          refine R_iconst (v := (0 : Int32)) hc dL_law_1274 kI_0 ?_
          refine R_laload hc dL_law_1275 hw (fun t14 hw => ?_)
          refine R_iload (q := 0) (i := 6) (v := t10) hc dL_law_1276 rfl ?_
          refine R_i2l hc dL_law_1278 ?_
          refine R_lcmp hc dL_law_1279 ?_
          refine R_if_eq (tgt := 1285) hc dL_law_1280 (by decide) hw (fun hw => ?_) (fun hw => ?_)
          · refine R_goto (tgt := 1895) hc dL_law_1285 (by decide) ?_
            refine R_sub hc [1, 2, 3, 4, 5] rfl ?_
            exact hbr _ (wpO_some hw :)
          · refine R_iconst (v := (0 : Int32)) hc dL_law_1283 kI_0 ?_
            exact absurd (wpO_some hw :) hno
      · refine R_iconst (v := (0 : Int32)) hc dL_law_1266 kI_0 ?_
        exact absurd (wpO_some hw :) hno
    · refine R_if_eq (tgt := 1251) hc dL_law_1244 (by decide) hw (fun hw => ?_) (fun hw => ?_)
      · refine R_iconst (v := (0 : Int32)) hc dL_law_1251 kI_0 ?_
        refine R_sub hc [1, 2, 3, 4, 5, 0] rfl ?_
        exact (wpO_some hw :)
      · refine R_iconst (v := (1 : Int32)) hc dL_law_1247 kI_1 ?_
        refine R_goto (tgt := 1252) hc dL_law_1248 (by decide) ?_
        refine R_sub hc [1, 2, 3, 4, 5, 0] rfl ?_
        exact (wpO_some hw :)
  · refine R_if_eq (tgt := 1224) hc dL_law_1217 (by decide) hw (fun hw => ?_) (fun hw => ?_)
    · refine R_iconst (v := (0 : Int32)) hc dL_law_1224 kI_0 ?_
      refine R_sub hc [0, 1, 2, 3, 4] rfl ?_
      exact (wpO_some hw :)
    · refine R_iconst (v := (1 : Int32)) hc dL_law_1220 kI_1 ?_
      refine R_goto (tgt := 1225) hc dL_law_1221 (by decide) ?_
      refine R_sub hc [0, 1, 2, 3, 4] rfl ?_
      exact (wpO_some hw :)
def sC23 (F : Nat) (xs : Nat → Int32) (L xa ma oa : Nat) (i : Int32) (h : HP) : Option (Option HP) :=
  (scrI xs L (i + (1 : Int32))).bind fun t1 =>
  (scrI xs L (i + (2 : Int32))).bind fun t2 =>
  bd2 (sL_neighbours F (some xa) t1 t2 (some oa) h) fun t3 h4 =>
  (scrI xs L (i + (1 : Int32))).bind fun t5 =>
  (scrI xs L (i + (2 : Int32))).bind fun t6 =>
  (dO h4 11 (some ma)).bind fun a7 =>
  bd2 (sX11_neighbours F a7 t5 t6 h4) fun t8 h9 =>
  (dO h9 11 (some ma)).bind fun a10 =>
  (sX11_thrown F a10 h9).bind fun t11 =>
  if t11 = t3 then
    if ¬ t3 = 0 then
      some (some h9)
    else
      (aJ h9 (some oa) (0 : Int32)).bind fun t12 =>
      if (lg_cmp t12 t8) = 0 then
        some (some h9)
      else
        some none
  else
    some none
set_option maxRecDepth 100000 in
set_option maxHeartbeats 4000000 in
theorem mC23 {x : CX} (hc : Cx x cL_law RL room_1) (hlt : x.l.stackTraces = false) (hnl : ∀ i, i < 8 → i < x.nL) {F : Nat} {xs : Nat → Int32} {b L xa ma oa kc ks : Nat} (hsc : Scr x b L xs) (hk1 : kc ≤ room_1.cells ∧ ks ≤ room_1.slots) (hk2 : kc + 1 ≤ room_1.cells ∧ ks + 6 ≤ room_1.slots) {i : Int32} {h : HP} {C : Option HP → Prop} (hbr : ∀ h', C (some h') → Rn x (kc + 1) (ks + 6) 1895 [(0, .ref b), (1, rf x.w (some xa)), (2, rf x.w (some ma)), (3, rf x.w (some oa)), (4, .int i)] [] h') (hno : ¬ C none) (hw : wpO (sC23 F xs L xa ma oa i h) C) : Rn x kc ks 1288 [(0, .ref b), (1, rf x.w (some xa)), (2, rf x.w (some ma)), (3, rf x.w (some oa)), (4, .int i)] [] h := by
  unfold sC23 at hw
  refine R_aload_n (q := 1) (i := 1) (v := (some xa)) hc dL_law_1288 rfl rfl ?_
  refine R_aloadV (q := 0) (i := 0) hc dL_law_1289 rfl rfl ?_
  refine R_iload (q := 4) (i := 4) (v := i) hc dL_law_1290 rfl ?_
  refine R_iconst (v := (1 : Int32)) hc dL_law_1292 kI_1 ?_
  refine R_iadd hc dL_law_1293 ?_
  refine R_scr hc hsc dL_law_1294 hw (fun t1 hw => ?_)
  refine R_aloadV (q := 0) (i := 0) hc dL_law_1295 rfl rfl ?_
  refine R_iload (q := 4) (i := 4) (v := i) hc dL_law_1296 rfl ?_
  refine R_iconst (v := (2 : Int32)) hc dL_law_1298 kI_2 ?_
  refine R_iadd hc dL_law_1299 ?_
  refine R_scr hc hsc dL_law_1300 hw (fun t2 hw => ?_)
  refine R_aload_n (q := 3) (i := 3) (v := (some oa)) hc dL_law_1301 rfl rfl ?_
  refine R_cW (As := [rf x.w (some xa), .int t1, .int t2, rf x.w (some oa)]) (rest := []) hc ml_L_189 mf_L_neighbours ⟨rfl, rfl⟩ ⟨le_b rfl, le_b rfl⟩ hk2 (fun v h' e => mt_L_neighbours hlt e) rfl rfl (Nat.zero_le _) dL_law_1302 hw (fun t3 h4 hw => ?_)
  refine R_istore (i := 5) (v := t3) hc [(5, .int t3), (0, .ref b), (1, rf x.w (some xa)), (2, rf x.w (some ma)), (3, rf x.w (some oa)), (4, .int i)] dL_law_1305 (hnl 5 (le_b rfl)) rfl ?_
  refine R_aload_n (q := 3) (i := 2) (v := (some ma)) hc dL_law_1307 rfl rfl ?_
  refine R_aloadV (q := 1) (i := 0) hc dL_law_1308 rfl rfl ?_
  refine R_iload (q := 5) (i := 4) (v := i) hc dL_law_1309 rfl ?_
  refine R_iconst (v := (1 : Int32)) hc dL_law_1311 kI_1 ?_
  refine R_iadd hc dL_law_1312 ?_
  refine R_scr hc hsc dL_law_1313 hw (fun t5 hw => ?_)
  refine R_aloadV (q := 1) (i := 0) hc dL_law_1314 rfl rfl ?_
  refine R_iload (q := 5) (i := 4) (v := i) hc dL_law_1315 rfl ?_
  refine R_iconst (v := (2 : Int32)) hc dL_law_1317 kI_2 ?_
  refine R_iadd hc dL_law_1318 ?_
  refine R_scr hc hsc dL_law_1319 hw (fun t6 hw => ?_)
  refine R_cVJi (As := [.int t5, .int t6]) (rest := []) (r := (some ma)) (ci := 11) hc ml_L_191 mf_X11_neighbours rfl (by decide) ⟨rfl, rfl⟩ ⟨le_b rfl, le_b rfl⟩ hk2 (fun a v h' e => mt_X11_neighbours e) rfl rfl (Nat.zero_le _) dL_law_1320 hw (fun t8 h9 hw => ?_)
  refine R_lstore (i := 6) (v := t8) hc [(6, .long t8), (5, .int t3), (0, .ref b), (1, rf x.w (some xa)), (2, rf x.w (some ma)), (3, rf x.w (some oa)), (4, .int i)] dL_law_1323 (hnl 7 (le_b rfl)) rfl ?_
  refine R_aload_n (q := 4) (i := 2) (v := (some ma)) hc dL_law_1325 rfl rfl ?_
  refine R_cVI (As := []) (rest := []) (r := (some ma)) (ci := 11) hc ml_L_108 mf_X11_thrown rfl (by decide) ⟨rfl, rfl⟩ ⟨le_b rfl, le_b rfl⟩ hk2 (fun a v e => mt_X11_thrown e) rfl rfl (Nat.zero_le _) dL_law_1326 hw (fun t11 hw => ?_)
  refine R_iload (q := 1) (i := 5) (v := t3) hc dL_law_1329 rfl ?_
  refine R_icmp_eq (tgt := 1336) hc dL_law_1331 (by decide) hw (fun hw => ?_) (fun hw => ?_)
  · refine R_iload (q := 1) (i := 5) (v := t3) hc dL_law_1336 rfl ?_
    refine R_if_ne (tgt := 1352) hc dL_law_1338 (by decide) hw (fun hw => ?_) (fun hw => ?_)
    · refine R_goto (tgt := 1895) hc dL_law_1352 (by decide) ?_
      refine R_sub hc [2, 3, 4, 5, 6] rfl ?_
      exact hbr _ (wpO_some hw :)
    · refine R_aload_n (q := 5) (i := 3) (v := (some oa)) hc dL_law_1341 rfl rfl ?_
      refine R_iconst (v := (0 : Int32)) hc dL_law_1342 kI_0 ?_
      refine R_laload hc dL_law_1343 hw (fun t12 hw => ?_)
      refine R_lload (q := 0) (i := 6) (v := t8) hc dL_law_1344 rfl ?_
      refine R_lcmp hc dL_law_1346 ?_
      refine R_if_eq (tgt := 1352) hc dL_law_1347 (by decide) hw (fun hw => ?_) (fun hw => ?_)
      · refine R_goto (tgt := 1895) hc dL_law_1352 (by decide) ?_
        refine R_sub hc [2, 3, 4, 5, 6] rfl ?_
        exact hbr _ (wpO_some hw :)
      · refine R_iconst (v := (0 : Int32)) hc dL_law_1350 kI_0 ?_
        exact absurd (wpO_some hw :) hno
  · refine R_iconst (v := (0 : Int32)) hc dL_law_1334 kI_0 ?_
    exact absurd (wpO_some hw :) hno
def sC24 (F : Nat) (xs : Nat → Int32) (L xa ma oa : Nat) (i : Int32) (h : HP) : Option (Option HP) :=
  (scrI xs L (i + (1 : Int32))).bind fun t1 =>
  bd2 (sL_starts F (some xa) t1 (some oa) h) fun t2 h3 =>
  (scrI xs L (i + (1 : Int32))).bind fun t4 =>
  (dO h3 11 (some ma)).bind fun a5 =>
  bd2 (sX11_starts F a5 t4 h3) fun t6 h7 =>
  (dO h7 11 (some ma)).bind fun a8 =>
  (sX11_thrown F a8 h7).bind fun t9 =>
  if t9 = t2 then
    if ¬ t2 = 0 then
      some (some h7)
    else
      (aJ h7 (some oa) (0 : Int32)).bind fun t10 =>
      if (lg_cmp t10 t6) = 0 then
        some (some h7)
      else
        some none
  else
    some none
set_option maxRecDepth 100000 in
set_option maxHeartbeats 4000000 in
theorem mC24 {x : CX} (hc : Cx x cL_law RL room_1) (hlt : x.l.stackTraces = false) (hnl : ∀ i, i < 8 → i < x.nL) {F : Nat} {xs : Nat → Int32} {b L xa ma oa kc ks : Nat} (hsc : Scr x b L xs) (hk1 : kc ≤ room_1.cells ∧ ks ≤ room_1.slots) (hk2 : kc + 1 ≤ room_1.cells ∧ ks + 6 ≤ room_1.slots) {i : Int32} {h : HP} {C : Option HP → Prop} (hbr : ∀ h', C (some h') → Rn x (kc + 1) (ks + 6) 1895 [(0, .ref b), (1, rf x.w (some xa)), (2, rf x.w (some ma)), (3, rf x.w (some oa)), (4, .int i)] [] h') (hno : ¬ C none) (hw : wpO (sC24 F xs L xa ma oa i h) C) : Rn x kc ks 1355 [(0, .ref b), (1, rf x.w (some xa)), (2, rf x.w (some ma)), (3, rf x.w (some oa)), (4, .int i)] [] h := by
  unfold sC24 at hw
  refine R_aload_n (q := 1) (i := 1) (v := (some xa)) hc dL_law_1355 rfl rfl ?_
  refine R_aloadV (q := 0) (i := 0) hc dL_law_1356 rfl rfl ?_
  refine R_iload (q := 4) (i := 4) (v := i) hc dL_law_1357 rfl ?_
  refine R_iconst (v := (1 : Int32)) hc dL_law_1359 kI_1 ?_
  refine R_iadd hc dL_law_1360 ?_
  refine R_scr hc hsc dL_law_1361 hw (fun t1 hw => ?_)
  refine R_aload_n (q := 3) (i := 3) (v := (some oa)) hc dL_law_1362 rfl rfl ?_
  refine R_cW (As := [rf x.w (some xa), .int t1, rf x.w (some oa)]) (rest := []) hc ml_L_192 mf_L_starts ⟨rfl, rfl⟩ ⟨le_b rfl, le_b rfl⟩ hk2 (fun v h' e => mt_L_starts hlt e) rfl rfl (Nat.zero_le _) dL_law_1363 hw (fun t2 h3 hw => ?_)
  refine R_istore (i := 5) (v := t2) hc [(5, .int t2), (0, .ref b), (1, rf x.w (some xa)), (2, rf x.w (some ma)), (3, rf x.w (some oa)), (4, .int i)] dL_law_1366 (hnl 5 (le_b rfl)) rfl ?_
  refine R_aload_n (q := 3) (i := 2) (v := (some ma)) hc dL_law_1368 rfl rfl ?_
  refine R_aloadV (q := 1) (i := 0) hc dL_law_1369 rfl rfl ?_
  refine R_iload (q := 5) (i := 4) (v := i) hc dL_law_1370 rfl ?_
  refine R_iconst (v := (1 : Int32)) hc dL_law_1372 kI_1 ?_
  refine R_iadd hc dL_law_1373 ?_
  refine R_scr hc hsc dL_law_1374 hw (fun t4 hw => ?_)
  refine R_cVJi (As := [.int t4]) (rest := []) (r := (some ma)) (ci := 11) hc ml_L_194 mf_X11_starts rfl (by decide) ⟨rfl, rfl⟩ ⟨le_b rfl, le_b rfl⟩ hk2 (fun a v h' e => mt_X11_starts e) rfl rfl (Nat.zero_le _) dL_law_1375 hw (fun t6 h7 hw => ?_)
  refine R_lstore (i := 6) (v := t6) hc [(6, .long t6), (5, .int t2), (0, .ref b), (1, rf x.w (some xa)), (2, rf x.w (some ma)), (3, rf x.w (some oa)), (4, .int i)] dL_law_1378 (hnl 7 (le_b rfl)) rfl ?_
  refine R_aload_n (q := 4) (i := 2) (v := (some ma)) hc dL_law_1380 rfl rfl ?_
  refine R_cVI (As := []) (rest := []) (r := (some ma)) (ci := 11) hc ml_L_108 mf_X11_thrown rfl (by decide) ⟨rfl, rfl⟩ ⟨le_b rfl, le_b rfl⟩ hk2 (fun a v e => mt_X11_thrown e) rfl rfl (Nat.zero_le _) dL_law_1381 hw (fun t9 hw => ?_)
  refine R_iload (q := 1) (i := 5) (v := t2) hc dL_law_1384 rfl ?_
  refine R_icmp_eq (tgt := 1391) hc dL_law_1386 (by decide) hw (fun hw => ?_) (fun hw => ?_)
  · refine R_iload (q := 1) (i := 5) (v := t2) hc dL_law_1391 rfl ?_
    refine R_if_ne (tgt := 1407) hc dL_law_1393 (by decide) hw (fun hw => ?_) (fun hw => ?_)
    · refine R_goto (tgt := 1895) hc dL_law_1407 (by decide) ?_
      refine R_sub hc [2, 3, 4, 5, 6] rfl ?_
      exact hbr _ (wpO_some hw :)
    · refine R_aload_n (q := 5) (i := 3) (v := (some oa)) hc dL_law_1396 rfl rfl ?_
      refine R_iconst (v := (0 : Int32)) hc dL_law_1397 kI_0 ?_
      refine R_laload hc dL_law_1398 hw (fun t10 hw => ?_)
      refine R_lload (q := 0) (i := 6) (v := t6) hc dL_law_1399 rfl ?_
      refine R_lcmp hc dL_law_1401 ?_
      refine R_if_eq (tgt := 1407) hc dL_law_1402 (by decide) hw (fun hw => ?_) (fun hw => ?_)
      · refine R_goto (tgt := 1895) hc dL_law_1407 (by decide) ?_
        refine R_sub hc [2, 3, 4, 5, 6] rfl ?_
        exact hbr _ (wpO_some hw :)
      · refine R_iconst (v := (0 : Int32)) hc dL_law_1405 kI_0 ?_
        exact absurd (wpO_some hw :) hno
  · refine R_iconst (v := (0 : Int32)) hc dL_law_1389 kI_0 ?_
    exact absurd (wpO_some hw :) hno
def sC25 (F : Nat) (xs : Nat → Int32) (L xa ma oa : Nat) (i : Int32) (h : HP) : Option (Option HP) :=
  (scrI xs L (i + (1 : Int32))).bind fun t1 =>
  (scrI xs L (i + (2 : Int32))).bind fun t2 =>
  bd2 (sL_turn F (some xa) t1 t2 (some oa) h) fun t3 h4 =>
  (scrI xs L (i + (1 : Int32))).bind fun t5 =>
  (scrI xs L (i + (2 : Int32))).bind fun t6 =>
  (dO h4 11 (some ma)).bind fun a7 =>
  bd2 (sX11_turn F a7 t5 t6 h4) fun t8 h9 =>
  (dO h9 11 (some ma)).bind fun a10 =>
  (sX11_thrown F a10 h9).bind fun t11 =>
  if t11 = t3 then
    if ¬ t3 = 0 then
      some (some h9)
    else
      (aJ h9 (some oa) (0 : Int32)).bind fun t12 =>
      if (lg_cmp t12 t8.toInt64) = 0 then
        some (some h9)
      else
        some none
  else
    some none
set_option maxRecDepth 100000 in
set_option maxHeartbeats 4000000 in
theorem mC25 {x : CX} (hc : Cx x cL_law RL room_1) (hlt : x.l.stackTraces = false) (hnl : ∀ i, i < 8 → i < x.nL) {F : Nat} {xs : Nat → Int32} {b L xa ma oa kc ks : Nat} (hsc : Scr x b L xs) (hk1 : kc ≤ room_1.cells ∧ ks ≤ room_1.slots) (hk2 : kc + 1 ≤ room_1.cells ∧ ks + 6 ≤ room_1.slots) {i : Int32} {h : HP} {C : Option HP → Prop} (hbr : ∀ h', C (some h') → Rn x (kc + 1) (ks + 6) 1895 [(0, .ref b), (1, rf x.w (some xa)), (2, rf x.w (some ma)), (3, rf x.w (some oa)), (4, .int i)] [] h') (hno : ¬ C none) (hw : wpO (sC25 F xs L xa ma oa i h) C) : Rn x kc ks 1410 [(0, .ref b), (1, rf x.w (some xa)), (2, rf x.w (some ma)), (3, rf x.w (some oa)), (4, .int i)] [] h := by
  unfold sC25 at hw
  refine R_aload_n (q := 1) (i := 1) (v := (some xa)) hc dL_law_1410 rfl rfl ?_
  refine R_aloadV (q := 0) (i := 0) hc dL_law_1411 rfl rfl ?_
  refine R_iload (q := 4) (i := 4) (v := i) hc dL_law_1412 rfl ?_
  refine R_iconst (v := (1 : Int32)) hc dL_law_1414 kI_1 ?_
  refine R_iadd hc dL_law_1415 ?_
  refine R_scr hc hsc dL_law_1416 hw (fun t1 hw => ?_)
  refine R_aloadV (q := 0) (i := 0) hc dL_law_1417 rfl rfl ?_
  refine R_iload (q := 4) (i := 4) (v := i) hc dL_law_1418 rfl ?_
  refine R_iconst (v := (2 : Int32)) hc dL_law_1420 kI_2 ?_
  refine R_iadd hc dL_law_1421 ?_
  refine R_scr hc hsc dL_law_1422 hw (fun t2 hw => ?_)
  refine R_aload_n (q := 3) (i := 3) (v := (some oa)) hc dL_law_1423 rfl rfl ?_
  refine R_cW (As := [rf x.w (some xa), .int t1, .int t2, rf x.w (some oa)]) (rest := []) hc ml_L_195 mf_L_turn ⟨rfl, rfl⟩ ⟨le_b rfl, le_b rfl⟩ hk2 (fun v h' e => mt_L_turn hlt e) rfl rfl (Nat.zero_le _) dL_law_1424 hw (fun t3 h4 hw => ?_)
  refine R_istore (i := 5) (v := t3) hc [(5, .int t3), (0, .ref b), (1, rf x.w (some xa)), (2, rf x.w (some ma)), (3, rf x.w (some oa)), (4, .int i)] dL_law_1427 (hnl 5 (le_b rfl)) rfl ?_
  refine R_aload_n (q := 3) (i := 2) (v := (some ma)) hc dL_law_1429 rfl rfl ?_
  refine R_aloadV (q := 1) (i := 0) hc dL_law_1430 rfl rfl ?_
  refine R_iload (q := 5) (i := 4) (v := i) hc dL_law_1431 rfl ?_
  refine R_iconst (v := (1 : Int32)) hc dL_law_1433 kI_1 ?_
  refine R_iadd hc dL_law_1434 ?_
  refine R_scr hc hsc dL_law_1435 hw (fun t5 hw => ?_)
  refine R_aloadV (q := 1) (i := 0) hc dL_law_1436 rfl rfl ?_
  refine R_iload (q := 5) (i := 4) (v := i) hc dL_law_1437 rfl ?_
  refine R_iconst (v := (2 : Int32)) hc dL_law_1439 kI_2 ?_
  refine R_iadd hc dL_law_1440 ?_
  refine R_scr hc hsc dL_law_1441 hw (fun t6 hw => ?_)
  refine R_cVIi (As := [.int t5, .int t6]) (rest := []) (r := (some ma)) (ci := 11) hc ml_L_197 mf_X11_turn rfl (by decide) ⟨rfl, rfl⟩ ⟨le_b rfl, le_b rfl⟩ hk2 (fun a v h' e => mt_X11_turn e) rfl rfl (Nat.zero_le _) dL_law_1442 hw (fun t8 h9 hw => ?_)
  refine R_istore (i := 6) (v := t8) hc [(6, .int t8), (5, .int t3), (0, .ref b), (1, rf x.w (some xa)), (2, rf x.w (some ma)), (3, rf x.w (some oa)), (4, .int i)] dL_law_1445 (hnl 6 (le_b rfl)) rfl ?_
  refine R_aload_n (q := 4) (i := 2) (v := (some ma)) hc dL_law_1447 rfl rfl ?_
  refine R_cVI (As := []) (rest := []) (r := (some ma)) (ci := 11) hc ml_L_108 mf_X11_thrown rfl (by decide) ⟨rfl, rfl⟩ ⟨le_b rfl, le_b rfl⟩ hk2 (fun a v e => mt_X11_thrown e) rfl rfl (Nat.zero_le _) dL_law_1448 hw (fun t11 hw => ?_)
  refine R_iload (q := 1) (i := 5) (v := t3) hc dL_law_1451 rfl ?_
  refine R_icmp_eq (tgt := 1458) hc dL_law_1453 (by decide) hw (fun hw => ?_) (fun hw => ?_)
  · refine R_iload (q := 1) (i := 5) (v := t3) hc dL_law_1458 rfl ?_
    refine R_if_ne (tgt := 1475) hc dL_law_1460 (by decide) hw (fun hw => ?_) (fun hw => ?_)
    · refine R_goto (tgt := 1895) hc dL_law_1475 (by decide) ?_
      refine R_sub hc [2, 3, 4, 5, 6] rfl ?_
      exact hbr _ (wpO_some hw :)
    · refine R_aload_n (q := 5) (i := 3) (v := (some oa)) hc dL_law_1463 rfl rfl ?_
      refine R_iconst (v := (0 : Int32)) hc dL_law_1464 kI_0 ?_
      refine R_laload hc dL_law_1465 hw (fun t12 hw => ?_)
      refine R_iload (q := 0) (i := 6) (v := t8) hc dL_law_1466 rfl ?_
      refine R_i2l hc dL_law_1468 ?_
      refine R_lcmp hc dL_law_1469 ?_
      refine R_if_eq (tgt := 1475) hc dL_law_1470 (by decide) hw (fun hw => ?_) (fun hw => ?_)
      · refine R_goto (tgt := 1895) hc dL_law_1475 (by decide) ?_
        refine R_sub hc [2, 3, 4, 5, 6] rfl ?_
        exact hbr _ (wpO_some hw :)
      · refine R_iconst (v := (0 : Int32)) hc dL_law_1473 kI_0 ?_
        exact absurd (wpO_some hw :) hno
  · refine R_iconst (v := (0 : Int32)) hc dL_law_1456 kI_0 ?_
    exact absurd (wpO_some hw :) hno
def sC26 (F : Nat) (xs : Nat → Int32) (L xa ma oa : Nat) (i : Int32) (h : HP) : Option (Option HP) :=
  (scrI xs L (i + (1 : Int32))).bind fun t1 =>
  (scrI xs L (i + (2 : Int32))).bind fun t2 =>
  bd2 (sL_move F (some xa) t1 t2 (some oa) h) fun t3 h4 =>
  (scrI xs L (i + (1 : Int32))).bind fun t5 =>
  (scrI xs L (i + (2 : Int32))).bind fun t6 =>
  (dO h4 11 (some ma)).bind fun a7 =>
  bd2 (sX11_move F a7 t5 t6 h4) fun t8 h9 =>
  (dO h9 11 (some ma)).bind fun a10 =>
  (sX11_thrown F a10 h9).bind fun t11 =>
  if t11 = t3 then
    if ¬ t3 = 0 then
      some (some h9)
    else
      (aJ h9 (some oa) (0 : Int32)).bind fun t12 =>
      if (lg_cmp t12 t8.toInt64) = 0 then
        some (some h9)
      else
        some none
  else
    some none
set_option maxRecDepth 100000 in
set_option maxHeartbeats 4000000 in
theorem mC26 {x : CX} (hc : Cx x cL_law RL room_1) (hlt : x.l.stackTraces = false) (hnl : ∀ i, i < 8 → i < x.nL) {F : Nat} {xs : Nat → Int32} {b L xa ma oa kc ks : Nat} (hsc : Scr x b L xs) (hk1 : kc ≤ room_1.cells ∧ ks ≤ room_1.slots) (hk2 : kc + 1 ≤ room_1.cells ∧ ks + 6 ≤ room_1.slots) {i : Int32} {h : HP} {C : Option HP → Prop} (hbr : ∀ h', C (some h') → Rn x (kc + 1) (ks + 6) 1895 [(0, .ref b), (1, rf x.w (some xa)), (2, rf x.w (some ma)), (3, rf x.w (some oa)), (4, .int i)] [] h') (hno : ¬ C none) (hw : wpO (sC26 F xs L xa ma oa i h) C) : Rn x kc ks 1478 [(0, .ref b), (1, rf x.w (some xa)), (2, rf x.w (some ma)), (3, rf x.w (some oa)), (4, .int i)] [] h := by
  unfold sC26 at hw
  refine R_aload_n (q := 1) (i := 1) (v := (some xa)) hc dL_law_1478 rfl rfl ?_
  refine R_aloadV (q := 0) (i := 0) hc dL_law_1479 rfl rfl ?_
  refine R_iload (q := 4) (i := 4) (v := i) hc dL_law_1480 rfl ?_
  refine R_iconst (v := (1 : Int32)) hc dL_law_1482 kI_1 ?_
  refine R_iadd hc dL_law_1483 ?_
  refine R_scr hc hsc dL_law_1484 hw (fun t1 hw => ?_)
  refine R_aloadV (q := 0) (i := 0) hc dL_law_1485 rfl rfl ?_
  refine R_iload (q := 4) (i := 4) (v := i) hc dL_law_1486 rfl ?_
  refine R_iconst (v := (2 : Int32)) hc dL_law_1488 kI_2 ?_
  refine R_iadd hc dL_law_1489 ?_
  refine R_scr hc hsc dL_law_1490 hw (fun t2 hw => ?_)
  refine R_aload_n (q := 3) (i := 3) (v := (some oa)) hc dL_law_1491 rfl rfl ?_
  refine R_cW (As := [rf x.w (some xa), .int t1, .int t2, rf x.w (some oa)]) (rest := []) hc ml_L_198 mf_L_move ⟨rfl, rfl⟩ ⟨le_b rfl, le_b rfl⟩ hk2 (fun v h' e => mt_L_move hlt e) rfl rfl (Nat.zero_le _) dL_law_1492 hw (fun t3 h4 hw => ?_)
  refine R_istore (i := 5) (v := t3) hc [(5, .int t3), (0, .ref b), (1, rf x.w (some xa)), (2, rf x.w (some ma)), (3, rf x.w (some oa)), (4, .int i)] dL_law_1495 (hnl 5 (le_b rfl)) rfl ?_
  refine R_aload_n (q := 3) (i := 2) (v := (some ma)) hc dL_law_1497 rfl rfl ?_
  refine R_aloadV (q := 1) (i := 0) hc dL_law_1498 rfl rfl ?_
  refine R_iload (q := 5) (i := 4) (v := i) hc dL_law_1499 rfl ?_
  refine R_iconst (v := (1 : Int32)) hc dL_law_1501 kI_1 ?_
  refine R_iadd hc dL_law_1502 ?_
  refine R_scr hc hsc dL_law_1503 hw (fun t5 hw => ?_)
  refine R_aloadV (q := 1) (i := 0) hc dL_law_1504 rfl rfl ?_
  refine R_iload (q := 5) (i := 4) (v := i) hc dL_law_1505 rfl ?_
  refine R_iconst (v := (2 : Int32)) hc dL_law_1507 kI_2 ?_
  refine R_iadd hc dL_law_1508 ?_
  refine R_scr hc hsc dL_law_1509 hw (fun t6 hw => ?_)
  refine R_cVIi (As := [.int t5, .int t6]) (rest := []) (r := (some ma)) (ci := 11) hc ml_L_200 mf_X11_move rfl (by decide) ⟨rfl, rfl⟩ ⟨le_b rfl, le_b rfl⟩ hk2 (fun a v h' e => mt_X11_move e) rfl rfl (Nat.zero_le _) dL_law_1510 hw (fun t8 h9 hw => ?_)
  refine R_istore (i := 6) (v := t8) hc [(6, .int t8), (5, .int t3), (0, .ref b), (1, rf x.w (some xa)), (2, rf x.w (some ma)), (3, rf x.w (some oa)), (4, .int i)] dL_law_1513 (hnl 6 (le_b rfl)) rfl ?_
  refine R_aload_n (q := 4) (i := 2) (v := (some ma)) hc dL_law_1515 rfl rfl ?_
  refine R_cVI (As := []) (rest := []) (r := (some ma)) (ci := 11) hc ml_L_108 mf_X11_thrown rfl (by decide) ⟨rfl, rfl⟩ ⟨le_b rfl, le_b rfl⟩ hk2 (fun a v e => mt_X11_thrown e) rfl rfl (Nat.zero_le _) dL_law_1516 hw (fun t11 hw => ?_)
  refine R_iload (q := 1) (i := 5) (v := t3) hc dL_law_1519 rfl ?_
  refine R_icmp_eq (tgt := 1526) hc dL_law_1521 (by decide) hw (fun hw => ?_) (fun hw => ?_)
  · refine R_iload (q := 1) (i := 5) (v := t3) hc dL_law_1526 rfl ?_
    refine R_if_ne (tgt := 1543) hc dL_law_1528 (by decide) hw (fun hw => ?_) (fun hw => ?_)
    · refine R_goto (tgt := 1895) hc dL_law_1543 (by decide) ?_
      refine R_sub hc [2, 3, 4, 5, 6] rfl ?_
      exact hbr _ (wpO_some hw :)
    · refine R_aload_n (q := 5) (i := 3) (v := (some oa)) hc dL_law_1531 rfl rfl ?_
      refine R_iconst (v := (0 : Int32)) hc dL_law_1532 kI_0 ?_
      refine R_laload hc dL_law_1533 hw (fun t12 hw => ?_)
      refine R_iload (q := 0) (i := 6) (v := t8) hc dL_law_1534 rfl ?_
      refine R_i2l hc dL_law_1536 ?_
      refine R_lcmp hc dL_law_1537 ?_
      refine R_if_eq (tgt := 1543) hc dL_law_1538 (by decide) hw (fun hw => ?_) (fun hw => ?_)
      · refine R_goto (tgt := 1895) hc dL_law_1543 (by decide) ?_
        refine R_sub hc [2, 3, 4, 5, 6] rfl ?_
        exact hbr _ (wpO_some hw :)
      · refine R_iconst (v := (0 : Int32)) hc dL_law_1541 kI_0 ?_
        exact absurd (wpO_some hw :) hno
  · refine R_iconst (v := (0 : Int32)) hc dL_law_1524 kI_0 ?_
    exact absurd (wpO_some hw :) hno
def sC27 (F : Nat) (xs : Nat → Int32) (L xa ma oa : Nat) (i : Int32) (h : HP) : Option (Option HP) :=
  bd2 (sL_mirror F (some xa) (some oa) h) fun t1 h2 =>
  (dO h2 11 (some ma)).bind fun a3 =>
  bd2 (sX11_mirror F a3 h2) fun t4 h5 =>
  (dO h5 11 (some ma)).bind fun a6 =>
  (sX11_thrown F a6 h5).bind fun t7 =>
  if t7 = t1 then
    if ¬ t1 = 0 then
      some (some h5)
    else
      (aJ h5 (some oa) (0 : Int32)).bind fun t8 =>
      if (lg_cmp t8 t4.toInt64) = 0 then
        some (some h5)
      else
        some none
  else
    some none
set_option maxRecDepth 100000 in
set_option maxHeartbeats 4000000 in
theorem mC27 {x : CX} (hc : Cx x cL_law RL room_1) (hlt : x.l.stackTraces = false) (hnl : ∀ i, i < 8 → i < x.nL) {F : Nat} {xs : Nat → Int32} {b L xa ma oa kc ks : Nat} (hsc : Scr x b L xs) (hk1 : kc ≤ room_1.cells ∧ ks ≤ room_1.slots) (hk2 : kc + 1 ≤ room_1.cells ∧ ks + 6 ≤ room_1.slots) {i : Int32} {h : HP} {C : Option HP → Prop} (hbr : ∀ h', C (some h') → Rn x (kc + 1) (ks + 6) 1895 [(0, .ref b), (1, rf x.w (some xa)), (2, rf x.w (some ma)), (3, rf x.w (some oa)), (4, .int i)] [] h') (hno : ¬ C none) (hw : wpO (sC27 F xs L xa ma oa i h) C) : Rn x kc ks 1546 [(0, .ref b), (1, rf x.w (some xa)), (2, rf x.w (some ma)), (3, rf x.w (some oa)), (4, .int i)] [] h := by
  unfold sC27 at hw
  refine R_aload_n (q := 1) (i := 1) (v := (some xa)) hc dL_law_1546 rfl rfl ?_
  refine R_aload_n (q := 3) (i := 3) (v := (some oa)) hc dL_law_1547 rfl rfl ?_
  refine R_cW (As := [rf x.w (some xa), rf x.w (some oa)]) (rest := []) hc ml_L_201 mf_L_mirror ⟨rfl, rfl⟩ ⟨le_b rfl, le_b rfl⟩ hk2 (fun v h' e => mt_L_mirror hlt e) rfl rfl (Nat.zero_le _) dL_law_1548 hw (fun t1 h2 hw => ?_)
  refine R_istore (i := 5) (v := t1) hc [(5, .int t1), (0, .ref b), (1, rf x.w (some xa)), (2, rf x.w (some ma)), (3, rf x.w (some oa)), (4, .int i)] dL_law_1551 (hnl 5 (le_b rfl)) rfl ?_
  refine R_aload_n (q := 3) (i := 2) (v := (some ma)) hc dL_law_1553 rfl rfl ?_
  refine R_cVIi (As := []) (rest := []) (r := (some ma)) (ci := 11) hc ml_L_203 mf_X11_mirror rfl (by decide) ⟨rfl, rfl⟩ ⟨le_b rfl, le_b rfl⟩ hk2 (fun a v h' e => mt_X11_mirror e) rfl rfl (Nat.zero_le _) dL_law_1554 hw (fun t4 h5 hw => ?_)
  refine R_istore (i := 6) (v := t4) hc [(6, .int t4), (5, .int t1), (0, .ref b), (1, rf x.w (some xa)), (2, rf x.w (some ma)), (3, rf x.w (some oa)), (4, .int i)] dL_law_1557 (hnl 6 (le_b rfl)) rfl ?_
  refine R_aload_n (q := 4) (i := 2) (v := (some ma)) hc dL_law_1559 rfl rfl ?_
  refine R_cVI (As := []) (rest := []) (r := (some ma)) (ci := 11) hc ml_L_108 mf_X11_thrown rfl (by decide) ⟨rfl, rfl⟩ ⟨le_b rfl, le_b rfl⟩ hk2 (fun a v e => mt_X11_thrown e) rfl rfl (Nat.zero_le _) dL_law_1560 hw (fun t7 hw => ?_)
  refine R_iload (q := 1) (i := 5) (v := t1) hc dL_law_1563 rfl ?_
  refine R_icmp_eq (tgt := 1570) hc dL_law_1565 (by decide) hw (fun hw => ?_) (fun hw => ?_)
  · refine R_iload (q := 1) (i := 5) (v := t1) hc dL_law_1570 rfl ?_
    refine R_if_ne (tgt := 1587) hc dL_law_1572 (by decide) hw (fun hw => ?_) (fun hw => ?_)
    · refine R_goto (tgt := 1895) hc dL_law_1587 (by decide) ?_
      refine R_sub hc [2, 3, 4, 5, 6] rfl ?_
      exact hbr _ (wpO_some hw :)
    · refine R_aload_n (q := 5) (i := 3) (v := (some oa)) hc dL_law_1575 rfl rfl ?_
      refine R_iconst (v := (0 : Int32)) hc dL_law_1576 kI_0 ?_
      refine R_laload hc dL_law_1577 hw (fun t8 hw => ?_)
      refine R_iload (q := 0) (i := 6) (v := t4) hc dL_law_1578 rfl ?_
      refine R_i2l hc dL_law_1580 ?_
      refine R_lcmp hc dL_law_1581 ?_
      refine R_if_eq (tgt := 1587) hc dL_law_1582 (by decide) hw (fun hw => ?_) (fun hw => ?_)
      · refine R_goto (tgt := 1895) hc dL_law_1587 (by decide) ?_
        refine R_sub hc [2, 3, 4, 5, 6] rfl ?_
        exact hbr _ (wpO_some hw :)
      · refine R_iconst (v := (0 : Int32)) hc dL_law_1585 kI_0 ?_
        exact absurd (wpO_some hw :) hno
  · refine R_iconst (v := (0 : Int32)) hc dL_law_1568 kI_0 ?_
    exact absurd (wpO_some hw :) hno
def sC28 (F : Nat) (xs : Nat → Int32) (L xa ma oa : Nat) (i : Int32) (h : HP) : Option (Option HP) :=
  (scrI xs L (i + (1 : Int32))).bind fun t1 =>
  (scrI xs L (i + (2 : Int32))).bind fun t2 =>
  bd2 (sL_lay F (some xa) ((Jshl t1.toInt64 (32 : Int32)) ||| (t2.toInt64 &&& (4294967295 : Int64))) (some oa) h) fun t3 h4 =>
  (scrI xs L (i + (1 : Int32))).bind fun t5 =>
  (scrI xs L (i + (2 : Int32))).bind fun t6 =>
  (dO h4 11 (some ma)).bind fun a7 =>
  bd2 (sX11_lay F a7 ((Jshl t5.toInt64 (32 : Int32)) ||| (t6.toInt64 &&& (4294967295 : Int64))) h4) fun t8 h9 =>
  (dO h9 11 (some ma)).bind fun a10 =>
  (sX11_thrown F a10 h9).bind fun t11 =>
  if t11 = t3 then
    if ¬ t3 = 0 then
      some (some h9)
    else
      (aJ h9 (some oa) (0 : Int32)).bind fun t12 =>
      if (lg_cmp t12 t8.toInt64) = 0 then
        some (some h9)
      else
        some none
  else
    some none
set_option maxRecDepth 100000 in
set_option maxHeartbeats 4000000 in
theorem mC28 {x : CX} (hc : Cx x cL_law RL room_1) (hlt : x.l.stackTraces = false) (hnl : ∀ i, i < 8 → i < x.nL) {F : Nat} {xs : Nat → Int32} {b L xa ma oa kc ks : Nat} (hsc : Scr x b L xs) (hk1 : kc ≤ room_1.cells ∧ ks ≤ room_1.slots) (hk2 : kc + 1 ≤ room_1.cells ∧ ks + 6 ≤ room_1.slots) {i : Int32} {h : HP} {C : Option HP → Prop} (hbr : ∀ h', C (some h') → Rn x (kc + 1) (ks + 6) 1895 [(0, .ref b), (1, rf x.w (some xa)), (2, rf x.w (some ma)), (3, rf x.w (some oa)), (4, .int i)] [] h') (hno : ¬ C none) (hw : wpO (sC28 F xs L xa ma oa i h) C) : Rn x kc ks 1590 [(0, .ref b), (1, rf x.w (some xa)), (2, rf x.w (some ma)), (3, rf x.w (some oa)), (4, .int i)] [] h := by
  unfold sC28 at hw
  refine R_aload_n (q := 1) (i := 1) (v := (some xa)) hc dL_law_1590 rfl rfl ?_
  refine R_aloadV (q := 0) (i := 0) hc dL_law_1591 rfl rfl ?_
  refine R_iload (q := 4) (i := 4) (v := i) hc dL_law_1592 rfl ?_
  refine R_iconst (v := (1 : Int32)) hc dL_law_1594 kI_1 ?_
  refine R_iadd hc dL_law_1595 ?_
  refine R_scr hc hsc dL_law_1596 hw (fun t1 hw => ?_)
  refine R_i2l hc dL_law_1597 ?_
  refine R_bipush (v := (32 : Int32)) hc dL_law_1598 kB_32 ?_
  refine R_lshl hc dL_law_1600 ?_
  refine R_aloadV (q := 0) (i := 0) hc dL_law_1601 rfl rfl ?_
  refine R_iload (q := 4) (i := 4) (v := i) hc dL_law_1602 rfl ?_
  refine R_iconst (v := (2 : Int32)) hc dL_law_1604 kI_2 ?_
  refine R_iadd hc dL_law_1605 ?_
  refine R_scr hc hsc dL_law_1606 hw (fun t2 hw => ?_)
  refine R_i2l hc dL_law_1607 ?_
  refine R_ldc2 (v := (4294967295 : Int64)) hc kw_L_141 dL_law_1608 ?_
  refine R_land hc dL_law_1611 ?_
  refine R_lor hc dL_law_1612 ?_
  refine R_aload_n (q := 3) (i := 3) (v := (some oa)) hc dL_law_1613 rfl rfl ?_
  refine R_cW (As := [rf x.w (some xa), .long ((Jshl t1.toInt64 (32 : Int32)) ||| (t2.toInt64 &&& (4294967295 : Int64))), rf x.w (some oa)]) (rest := []) hc ml_L_204 mf_L_lay ⟨rfl, rfl⟩ ⟨le_b rfl, le_b rfl⟩ hk2 (fun v h' e => mt_L_lay hlt e) rfl rfl (Nat.zero_le _) dL_law_1614 hw (fun t3 h4 hw => ?_)
  refine R_istore (i := 5) (v := t3) hc [(5, .int t3), (0, .ref b), (1, rf x.w (some xa)), (2, rf x.w (some ma)), (3, rf x.w (some oa)), (4, .int i)] dL_law_1617 (hnl 5 (le_b rfl)) rfl ?_
  refine R_aload_n (q := 3) (i := 2) (v := (some ma)) hc dL_law_1619 rfl rfl ?_
  refine R_aloadV (q := 1) (i := 0) hc dL_law_1620 rfl rfl ?_
  refine R_iload (q := 5) (i := 4) (v := i) hc dL_law_1621 rfl ?_
  refine R_iconst (v := (1 : Int32)) hc dL_law_1623 kI_1 ?_
  refine R_iadd hc dL_law_1624 ?_
  refine R_scr hc hsc dL_law_1625 hw (fun t5 hw => ?_)
  refine R_i2l hc dL_law_1626 ?_
  refine R_bipush (v := (32 : Int32)) hc dL_law_1627 kB_32 ?_
  refine R_lshl hc dL_law_1629 ?_
  refine R_aloadV (q := 1) (i := 0) hc dL_law_1630 rfl rfl ?_
  refine R_iload (q := 5) (i := 4) (v := i) hc dL_law_1631 rfl ?_
  refine R_iconst (v := (2 : Int32)) hc dL_law_1633 kI_2 ?_
  refine R_iadd hc dL_law_1634 ?_
  refine R_scr hc hsc dL_law_1635 hw (fun t6 hw => ?_)
  refine R_i2l hc dL_law_1636 ?_
  refine R_ldc2 (v := (4294967295 : Int64)) hc kw_L_141 dL_law_1637 ?_
  refine R_land hc dL_law_1640 ?_
  refine R_lor hc dL_law_1641 ?_
  refine R_cVIi (As := [.long ((Jshl t5.toInt64 (32 : Int32)) ||| (t6.toInt64 &&& (4294967295 : Int64)))]) (rest := []) (r := (some ma)) (ci := 11) hc ml_L_207 mf_X11_lay rfl (by decide) ⟨rfl, rfl⟩ ⟨le_b rfl, le_b rfl⟩ hk2 (fun a v h' e => mt_X11_lay e) rfl rfl (Nat.zero_le _) dL_law_1642 hw (fun t8 h9 hw => ?_)
  refine R_istore (i := 6) (v := t8) hc [(6, .int t8), (5, .int t3), (0, .ref b), (1, rf x.w (some xa)), (2, rf x.w (some ma)), (3, rf x.w (some oa)), (4, .int i)] dL_law_1645 (hnl 6 (le_b rfl)) rfl ?_
  refine R_aload_n (q := 4) (i := 2) (v := (some ma)) hc dL_law_1647 rfl rfl ?_
  refine R_cVI (As := []) (rest := []) (r := (some ma)) (ci := 11) hc ml_L_108 mf_X11_thrown rfl (by decide) ⟨rfl, rfl⟩ ⟨le_b rfl, le_b rfl⟩ hk2 (fun a v e => mt_X11_thrown e) rfl rfl (Nat.zero_le _) dL_law_1648 hw (fun t11 hw => ?_)
  refine R_iload (q := 1) (i := 5) (v := t3) hc dL_law_1651 rfl ?_
  refine R_icmp_eq (tgt := 1658) hc dL_law_1653 (by decide) hw (fun hw => ?_) (fun hw => ?_)
  · refine R_iload (q := 1) (i := 5) (v := t3) hc dL_law_1658 rfl ?_
    refine R_if_ne (tgt := 1675) hc dL_law_1660 (by decide) hw (fun hw => ?_) (fun hw => ?_)
    · refine R_goto (tgt := 1895) hc dL_law_1675 (by decide) ?_
      refine R_sub hc [2, 3, 4, 5, 6] rfl ?_
      exact hbr _ (wpO_some hw :)
    · refine R_aload_n (q := 5) (i := 3) (v := (some oa)) hc dL_law_1663 rfl rfl ?_
      refine R_iconst (v := (0 : Int32)) hc dL_law_1664 kI_0 ?_
      refine R_laload hc dL_law_1665 hw (fun t12 hw => ?_)
      refine R_iload (q := 0) (i := 6) (v := t8) hc dL_law_1666 rfl ?_
      refine R_i2l hc dL_law_1668 ?_
      refine R_lcmp hc dL_law_1669 ?_
      refine R_if_eq (tgt := 1675) hc dL_law_1670 (by decide) hw (fun hw => ?_) (fun hw => ?_)
      · refine R_goto (tgt := 1895) hc dL_law_1675 (by decide) ?_
        refine R_sub hc [2, 3, 4, 5, 6] rfl ?_
        exact hbr _ (wpO_some hw :)
      · refine R_iconst (v := (0 : Int32)) hc dL_law_1673 kI_0 ?_
        exact absurd (wpO_some hw :) hno
  · refine R_iconst (v := (0 : Int32)) hc dL_law_1656 kI_0 ?_
    exact absurd (wpO_some hw :) hno
def sC29 (F : Nat) (xs : Nat → Int32) (L xa ma oa : Nat) (i : Int32) (h : HP) : Option (Option HP) :=
  bd2 (sL_undo F (some xa) (some oa) h) fun t1 h2 =>
  (dO h2 11 (some ma)).bind fun a3 =>
  bd2 (sX11_undo F a3 h2) fun t4 h5 =>
  (dO h5 11 (some ma)).bind fun a6 =>
  (sX11_thrown F a6 h5).bind fun t7 =>
  if t7 = t1 then
    if ¬ t1 = 0 then
      some (some h5)
    else
      (aJ h5 (some oa) (0 : Int32)).bind fun t8 =>
      if (lg_cmp t8 t4.toInt64) = 0 then
        some (some h5)
      else
        some none
  else
    some none
set_option maxRecDepth 100000 in
set_option maxHeartbeats 4000000 in
theorem mC29 {x : CX} (hc : Cx x cL_law RL room_1) (hlt : x.l.stackTraces = false) (hnl : ∀ i, i < 8 → i < x.nL) {F : Nat} {xs : Nat → Int32} {b L xa ma oa kc ks : Nat} (hsc : Scr x b L xs) (hk1 : kc ≤ room_1.cells ∧ ks ≤ room_1.slots) (hk2 : kc + 1 ≤ room_1.cells ∧ ks + 6 ≤ room_1.slots) {i : Int32} {h : HP} {C : Option HP → Prop} (hbr : ∀ h', C (some h') → Rn x (kc + 1) (ks + 6) 1895 [(0, .ref b), (1, rf x.w (some xa)), (2, rf x.w (some ma)), (3, rf x.w (some oa)), (4, .int i)] [] h') (hno : ¬ C none) (hw : wpO (sC29 F xs L xa ma oa i h) C) : Rn x kc ks 1678 [(0, .ref b), (1, rf x.w (some xa)), (2, rf x.w (some ma)), (3, rf x.w (some oa)), (4, .int i)] [] h := by
  unfold sC29 at hw
  refine R_aload_n (q := 1) (i := 1) (v := (some xa)) hc dL_law_1678 rfl rfl ?_
  refine R_aload_n (q := 3) (i := 3) (v := (some oa)) hc dL_law_1679 rfl rfl ?_
  refine R_cW (As := [rf x.w (some xa), rf x.w (some oa)]) (rest := []) hc ml_L_208 mf_L_undo ⟨rfl, rfl⟩ ⟨le_b rfl, le_b rfl⟩ hk2 (fun v h' e => mt_L_undo hlt e) rfl rfl (Nat.zero_le _) dL_law_1680 hw (fun t1 h2 hw => ?_)
  refine R_istore (i := 5) (v := t1) hc [(5, .int t1), (0, .ref b), (1, rf x.w (some xa)), (2, rf x.w (some ma)), (3, rf x.w (some oa)), (4, .int i)] dL_law_1683 (hnl 5 (le_b rfl)) rfl ?_
  refine R_aload_n (q := 3) (i := 2) (v := (some ma)) hc dL_law_1685 rfl rfl ?_
  refine R_cVIi (As := []) (rest := []) (r := (some ma)) (ci := 11) hc ml_L_210 mf_X11_undo rfl (by decide) ⟨rfl, rfl⟩ ⟨le_b rfl, le_b rfl⟩ hk2 (fun a v h' e => mt_X11_undo e) rfl rfl (Nat.zero_le _) dL_law_1686 hw (fun t4 h5 hw => ?_)
  refine R_istore (i := 6) (v := t4) hc [(6, .int t4), (5, .int t1), (0, .ref b), (1, rf x.w (some xa)), (2, rf x.w (some ma)), (3, rf x.w (some oa)), (4, .int i)] dL_law_1689 (hnl 6 (le_b rfl)) rfl ?_
  refine R_aload_n (q := 4) (i := 2) (v := (some ma)) hc dL_law_1691 rfl rfl ?_
  refine R_cVI (As := []) (rest := []) (r := (some ma)) (ci := 11) hc ml_L_108 mf_X11_thrown rfl (by decide) ⟨rfl, rfl⟩ ⟨le_b rfl, le_b rfl⟩ hk2 (fun a v e => mt_X11_thrown e) rfl rfl (Nat.zero_le _) dL_law_1692 hw (fun t7 hw => ?_)
  refine R_iload (q := 1) (i := 5) (v := t1) hc dL_law_1695 rfl ?_
  refine R_icmp_eq (tgt := 1702) hc dL_law_1697 (by decide) hw (fun hw => ?_) (fun hw => ?_)
  · refine R_iload (q := 1) (i := 5) (v := t1) hc dL_law_1702 rfl ?_
    refine R_if_ne (tgt := 1719) hc dL_law_1704 (by decide) hw (fun hw => ?_) (fun hw => ?_)
    · refine R_goto (tgt := 1895) hc dL_law_1719 (by decide) ?_
      refine R_sub hc [2, 3, 4, 5, 6] rfl ?_
      exact hbr _ (wpO_some hw :)
    · refine R_aload_n (q := 5) (i := 3) (v := (some oa)) hc dL_law_1707 rfl rfl ?_
      refine R_iconst (v := (0 : Int32)) hc dL_law_1708 kI_0 ?_
      refine R_laload hc dL_law_1709 hw (fun t8 hw => ?_)
      refine R_iload (q := 0) (i := 6) (v := t4) hc dL_law_1710 rfl ?_
      refine R_i2l hc dL_law_1712 ?_
      refine R_lcmp hc dL_law_1713 ?_
      refine R_if_eq (tgt := 1719) hc dL_law_1714 (by decide) hw (fun hw => ?_) (fun hw => ?_)
      · refine R_goto (tgt := 1895) hc dL_law_1719 (by decide) ?_
        refine R_sub hc [2, 3, 4, 5, 6] rfl ?_
        exact hbr _ (wpO_some hw :)
      · refine R_iconst (v := (0 : Int32)) hc dL_law_1717 kI_0 ?_
        exact absurd (wpO_some hw :) hno
  · refine R_iconst (v := (0 : Int32)) hc dL_law_1700 kI_0 ?_
    exact absurd (wpO_some hw :) hno
def sC30 (F : Nat) (xs : Nat → Int32) (L xa ma oa : Nat) (i : Int32) (h : HP) : Option (Option HP) :=
  (scrI xs L (i + (1 : Int32))).bind fun t1 =>
  (scrI xs L (i + (2 : Int32))).bind fun t2 =>
  bd2 (sL_fits F (some xa) t1 t2 (some oa) h) fun t3 h4 =>
  (scrI xs L (i + (1 : Int32))).bind fun t5 =>
  (scrI xs L (i + (2 : Int32))).bind fun t6 =>
  (dO h4 11 (some ma)).bind fun a7 =>
  bd2 (sX11_fits F a7 t5 t6 h4) fun t8 h9 =>
  (dO h9 11 (some ma)).bind fun a10 =>
  (sX11_thrown F a10 h9).bind fun t11 =>
  if t11 = t3 then
    if ¬ t3 = 0 then
      some (some h9)
    else
      (aJ h9 (some oa) (0 : Int32)).bind fun t12 =>
      if (lg_cmp t12 t8.toInt64) = 0 then
        some (some h9)
      else
        some none
  else
    some none
set_option maxRecDepth 100000 in
set_option maxHeartbeats 4000000 in
theorem mC30 {x : CX} (hc : Cx x cL_law RL room_1) (hlt : x.l.stackTraces = false) (hnl : ∀ i, i < 8 → i < x.nL) {F : Nat} {xs : Nat → Int32} {b L xa ma oa kc ks : Nat} (hsc : Scr x b L xs) (hk1 : kc ≤ room_1.cells ∧ ks ≤ room_1.slots) (hk2 : kc + 1 ≤ room_1.cells ∧ ks + 6 ≤ room_1.slots) {i : Int32} {h : HP} {C : Option HP → Prop} (hbr : ∀ h', C (some h') → Rn x (kc + 1) (ks + 6) 1895 [(0, .ref b), (1, rf x.w (some xa)), (2, rf x.w (some ma)), (3, rf x.w (some oa)), (4, .int i)] [] h') (hno : ¬ C none) (hw : wpO (sC30 F xs L xa ma oa i h) C) : Rn x kc ks 1722 [(0, .ref b), (1, rf x.w (some xa)), (2, rf x.w (some ma)), (3, rf x.w (some oa)), (4, .int i)] [] h := by
  unfold sC30 at hw
  refine R_aload_n (q := 1) (i := 1) (v := (some xa)) hc dL_law_1722 rfl rfl ?_
  refine R_aloadV (q := 0) (i := 0) hc dL_law_1723 rfl rfl ?_
  refine R_iload (q := 4) (i := 4) (v := i) hc dL_law_1724 rfl ?_
  refine R_iconst (v := (1 : Int32)) hc dL_law_1726 kI_1 ?_
  refine R_iadd hc dL_law_1727 ?_
  refine R_scr hc hsc dL_law_1728 hw (fun t1 hw => ?_)
  refine R_aloadV (q := 0) (i := 0) hc dL_law_1729 rfl rfl ?_
  refine R_iload (q := 4) (i := 4) (v := i) hc dL_law_1730 rfl ?_
  refine R_iconst (v := (2 : Int32)) hc dL_law_1732 kI_2 ?_
  refine R_iadd hc dL_law_1733 ?_
  refine R_scr hc hsc dL_law_1734 hw (fun t2 hw => ?_)
  refine R_aload_n (q := 3) (i := 3) (v := (some oa)) hc dL_law_1735 rfl rfl ?_
  refine R_cW (As := [rf x.w (some xa), .int t1, .int t2, rf x.w (some oa)]) (rest := []) hc ml_L_211 mf_L_fits ⟨rfl, rfl⟩ ⟨le_b rfl, le_b rfl⟩ hk2 (fun v h' e => mt_L_fits hlt e) rfl rfl (Nat.zero_le _) dL_law_1736 hw (fun t3 h4 hw => ?_)
  refine R_istore (i := 5) (v := t3) hc [(5, .int t3), (0, .ref b), (1, rf x.w (some xa)), (2, rf x.w (some ma)), (3, rf x.w (some oa)), (4, .int i)] dL_law_1739 (hnl 5 (le_b rfl)) rfl ?_
  refine R_aload_n (q := 3) (i := 2) (v := (some ma)) hc dL_law_1741 rfl rfl ?_
  refine R_aloadV (q := 1) (i := 0) hc dL_law_1742 rfl rfl ?_
  refine R_iload (q := 5) (i := 4) (v := i) hc dL_law_1743 rfl ?_
  refine R_iconst (v := (1 : Int32)) hc dL_law_1745 kI_1 ?_
  refine R_iadd hc dL_law_1746 ?_
  refine R_scr hc hsc dL_law_1747 hw (fun t5 hw => ?_)
  refine R_aloadV (q := 1) (i := 0) hc dL_law_1748 rfl rfl ?_
  refine R_iload (q := 5) (i := 4) (v := i) hc dL_law_1749 rfl ?_
  refine R_iconst (v := (2 : Int32)) hc dL_law_1751 kI_2 ?_
  refine R_iadd hc dL_law_1752 ?_
  refine R_scr hc hsc dL_law_1753 hw (fun t6 hw => ?_)
  refine R_cVIi (As := [.int t5, .int t6]) (rest := []) (r := (some ma)) (ci := 11) hc ml_L_213 mf_X11_fits rfl (by decide) ⟨rfl, rfl⟩ ⟨le_b rfl, le_b rfl⟩ hk2 (fun a v h' e => mt_X11_fits e) rfl rfl (Nat.zero_le _) dL_law_1754 hw (fun t8 h9 hw => ?_)
  refine R_istore (i := 6) (v := t8) hc [(6, .int t8), (5, .int t3), (0, .ref b), (1, rf x.w (some xa)), (2, rf x.w (some ma)), (3, rf x.w (some oa)), (4, .int i)] dL_law_1757 (hnl 6 (le_b rfl)) rfl ?_
  refine R_aload_n (q := 4) (i := 2) (v := (some ma)) hc dL_law_1759 rfl rfl ?_
  refine R_cVI (As := []) (rest := []) (r := (some ma)) (ci := 11) hc ml_L_108 mf_X11_thrown rfl (by decide) ⟨rfl, rfl⟩ ⟨le_b rfl, le_b rfl⟩ hk2 (fun a v e => mt_X11_thrown e) rfl rfl (Nat.zero_le _) dL_law_1760 hw (fun t11 hw => ?_)
  refine R_iload (q := 1) (i := 5) (v := t3) hc dL_law_1763 rfl ?_
  refine R_icmp_eq (tgt := 1770) hc dL_law_1765 (by decide) hw (fun hw => ?_) (fun hw => ?_)
  · refine R_iload (q := 1) (i := 5) (v := t3) hc dL_law_1770 rfl ?_
    refine R_if_ne (tgt := 1787) hc dL_law_1772 (by decide) hw (fun hw => ?_) (fun hw => ?_)
    · refine R_goto (tgt := 1895) hc dL_law_1787 (by decide) ?_
      refine R_sub hc [2, 3, 4, 5, 6] rfl ?_
      exact hbr _ (wpO_some hw :)
    · refine R_aload_n (q := 5) (i := 3) (v := (some oa)) hc dL_law_1775 rfl rfl ?_
      refine R_iconst (v := (0 : Int32)) hc dL_law_1776 kI_0 ?_
      refine R_laload hc dL_law_1777 hw (fun t12 hw => ?_)
      refine R_iload (q := 0) (i := 6) (v := t8) hc dL_law_1778 rfl ?_
      refine R_i2l hc dL_law_1780 ?_
      refine R_lcmp hc dL_law_1781 ?_
      refine R_if_eq (tgt := 1787) hc dL_law_1782 (by decide) hw (fun hw => ?_) (fun hw => ?_)
      · refine R_goto (tgt := 1895) hc dL_law_1787 (by decide) ?_
        refine R_sub hc [2, 3, 4, 5, 6] rfl ?_
        exact hbr _ (wpO_some hw :)
      · refine R_iconst (v := (0 : Int32)) hc dL_law_1785 kI_0 ?_
        exact absurd (wpO_some hw :) hno
  · refine R_iconst (v := (0 : Int32)) hc dL_law_1768 kI_0 ?_
    exact absurd (wpO_some hw :) hno
def sC31 (F : Nat) (xs : Nat → Int32) (L xa ma oa : Nat) (i : Int32) (h : HP) : Option (Option HP) :=
  (scrI xs L (i + (1 : Int32))).bind fun t1 =>
  bd2 (sL_room F (some xa) t1 (some oa) h) fun t2 h3 =>
  (scrI xs L (i + (1 : Int32))).bind fun t4 =>
  (dO h3 11 (some ma)).bind fun a5 =>
  bd2 (sX11_room F a5 t4 h3) fun t6 h7 =>
  (dO h7 11 (some ma)).bind fun a8 =>
  (sX11_thrown F a8 h7).bind fun t9 =>
  if t9 = t2 then
    if ¬ t2 = 0 then
      some (some h7)
    else
      (aJ h7 (some oa) (0 : Int32)).bind fun t10 =>
      if (lg_cmp t10 t6.toInt64) = 0 then
        some (some h7)
      else
        some none
  else
    some none
set_option maxRecDepth 100000 in
set_option maxHeartbeats 4000000 in
theorem mC31 {x : CX} (hc : Cx x cL_law RL room_1) (hlt : x.l.stackTraces = false) (hnl : ∀ i, i < 8 → i < x.nL) {F : Nat} {xs : Nat → Int32} {b L xa ma oa kc ks : Nat} (hsc : Scr x b L xs) (hk1 : kc ≤ room_1.cells ∧ ks ≤ room_1.slots) (hk2 : kc + 1 ≤ room_1.cells ∧ ks + 6 ≤ room_1.slots) {i : Int32} {h : HP} {C : Option HP → Prop} (hbr : ∀ h', C (some h') → Rn x (kc + 1) (ks + 6) 1895 [(0, .ref b), (1, rf x.w (some xa)), (2, rf x.w (some ma)), (3, rf x.w (some oa)), (4, .int i)] [] h') (hno : ¬ C none) (hw : wpO (sC31 F xs L xa ma oa i h) C) : Rn x kc ks 1790 [(0, .ref b), (1, rf x.w (some xa)), (2, rf x.w (some ma)), (3, rf x.w (some oa)), (4, .int i)] [] h := by
  unfold sC31 at hw
  refine R_aload_n (q := 1) (i := 1) (v := (some xa)) hc dL_law_1790 rfl rfl ?_
  refine R_aloadV (q := 0) (i := 0) hc dL_law_1791 rfl rfl ?_
  refine R_iload (q := 4) (i := 4) (v := i) hc dL_law_1792 rfl ?_
  refine R_iconst (v := (1 : Int32)) hc dL_law_1794 kI_1 ?_
  refine R_iadd hc dL_law_1795 ?_
  refine R_scr hc hsc dL_law_1796 hw (fun t1 hw => ?_)
  refine R_aload_n (q := 3) (i := 3) (v := (some oa)) hc dL_law_1797 rfl rfl ?_
  refine R_cW (As := [rf x.w (some xa), .int t1, rf x.w (some oa)]) (rest := []) hc ml_L_214 mf_L_room ⟨rfl, rfl⟩ ⟨le_b rfl, le_b rfl⟩ hk2 (fun v h' e => mt_L_room hlt e) rfl rfl (Nat.zero_le _) dL_law_1798 hw (fun t2 h3 hw => ?_)
  refine R_istore (i := 5) (v := t2) hc [(5, .int t2), (0, .ref b), (1, rf x.w (some xa)), (2, rf x.w (some ma)), (3, rf x.w (some oa)), (4, .int i)] dL_law_1801 (hnl 5 (le_b rfl)) rfl ?_
  refine R_aload_n (q := 3) (i := 2) (v := (some ma)) hc dL_law_1803 rfl rfl ?_
  refine R_aloadV (q := 1) (i := 0) hc dL_law_1804 rfl rfl ?_
  refine R_iload (q := 5) (i := 4) (v := i) hc dL_law_1805 rfl ?_
  refine R_iconst (v := (1 : Int32)) hc dL_law_1807 kI_1 ?_
  refine R_iadd hc dL_law_1808 ?_
  refine R_scr hc hsc dL_law_1809 hw (fun t4 hw => ?_)
  refine R_cVIi (As := [.int t4]) (rest := []) (r := (some ma)) (ci := 11) hc ml_L_216 mf_X11_room rfl (by decide) ⟨rfl, rfl⟩ ⟨le_b rfl, le_b rfl⟩ hk2 (fun a v h' e => mt_X11_room e) rfl rfl (Nat.zero_le _) dL_law_1810 hw (fun t6 h7 hw => ?_)
  refine R_istore (i := 6) (v := t6) hc [(6, .int t6), (5, .int t2), (0, .ref b), (1, rf x.w (some xa)), (2, rf x.w (some ma)), (3, rf x.w (some oa)), (4, .int i)] dL_law_1813 (hnl 6 (le_b rfl)) rfl ?_
  refine R_aload_n (q := 4) (i := 2) (v := (some ma)) hc dL_law_1815 rfl rfl ?_
  refine R_cVI (As := []) (rest := []) (r := (some ma)) (ci := 11) hc ml_L_108 mf_X11_thrown rfl (by decide) ⟨rfl, rfl⟩ ⟨le_b rfl, le_b rfl⟩ hk2 (fun a v e => mt_X11_thrown e) rfl rfl (Nat.zero_le _) dL_law_1816 hw (fun t9 hw => ?_)
  refine R_iload (q := 1) (i := 5) (v := t2) hc dL_law_1819 rfl ?_
  refine R_icmp_eq (tgt := 1826) hc dL_law_1821 (by decide) hw (fun hw => ?_) (fun hw => ?_)
  · refine R_iload (q := 1) (i := 5) (v := t2) hc dL_law_1826 rfl ?_
    refine R_if_ne (tgt := 1843) hc dL_law_1828 (by decide) hw (fun hw => ?_) (fun hw => ?_)
    · refine R_goto (tgt := 1895) hc dL_law_1843 (by decide) ?_
      refine R_sub hc [2, 3, 4, 5, 6] rfl ?_
      exact hbr _ (wpO_some hw :)
    · refine R_aload_n (q := 5) (i := 3) (v := (some oa)) hc dL_law_1831 rfl rfl ?_
      refine R_iconst (v := (0 : Int32)) hc dL_law_1832 kI_0 ?_
      refine R_laload hc dL_law_1833 hw (fun t10 hw => ?_)
      refine R_iload (q := 0) (i := 6) (v := t6) hc dL_law_1834 rfl ?_
      refine R_i2l hc dL_law_1836 ?_
      refine R_lcmp hc dL_law_1837 ?_
      refine R_if_eq (tgt := 1843) hc dL_law_1838 (by decide) hw (fun hw => ?_) (fun hw => ?_)
      · refine R_goto (tgt := 1895) hc dL_law_1843 (by decide) ?_
        refine R_sub hc [2, 3, 4, 5, 6] rfl ?_
        exact hbr _ (wpO_some hw :)
      · refine R_iconst (v := (0 : Int32)) hc dL_law_1841 kI_0 ?_
        exact absurd (wpO_some hw :) hno
  · refine R_iconst (v := (0 : Int32)) hc dL_law_1824 kI_0 ?_
    exact absurd (wpO_some hw :) hno
def sC32 (F : Nat) (xs : Nat → Int32) (L xa ma oa : Nat) (i : Int32) (h : HP) : Option (Option HP) :=
  (dO h 10 (some xa)).bind fun a1 =>
  (sX10_image F a1 h).bind fun h2 =>
  (dO h2 11 (some ma)).bind fun a3 =>
  (sX11_image F a3 h2).bind fun h4 =>
  some (some h4)
set_option maxRecDepth 100000 in
set_option maxHeartbeats 4000000 in
theorem mC32 {x : CX} (hc : Cx x cL_law RL room_1) (hlt : x.l.stackTraces = false) (hnl : ∀ i, i < 8 → i < x.nL) {F : Nat} {xs : Nat → Int32} {b L xa ma oa kc ks : Nat} (hsc : Scr x b L xs) (hk1 : kc ≤ room_1.cells ∧ ks ≤ room_1.slots) (hk2 : kc + 1 ≤ room_1.cells ∧ ks + 6 ≤ room_1.slots) {i : Int32} {h : HP} {C : Option HP → Prop} (hbr : ∀ h', C (some h') → Rn x (kc + 1) (ks + 6) 1895 [(0, .ref b), (1, rf x.w (some xa)), (2, rf x.w (some ma)), (3, rf x.w (some oa)), (4, .int i)] [] h') (hno : ¬ C none) (hw : wpO (sC32 F xs L xa ma oa i h) C) : Rn x kc ks 1846 [(0, .ref b), (1, rf x.w (some xa)), (2, rf x.w (some ma)), (3, rf x.w (some oa)), (4, .int i)] [] h := by
  unfold sC32 at hw
  refine R_aload_n (q := 1) (i := 1) (v := (some xa)) hc dL_law_1846 rfl rfl ?_
  refine R_cVVi (As := []) (rest := []) (r := (some xa)) (ci := 10) hc ml_L_217 mf_X10_image rfl (by decide) ⟨rfl, rfl⟩ ⟨le_b rfl, le_b rfl⟩ hk1 (fun a h' e => mt_X10_image e) rfl rfl (Nat.zero_le _) dL_law_1847 hw (fun h2 hw => ?_)
  refine R_aload_n (q := 2) (i := 2) (v := (some ma)) hc dL_law_1850 rfl rfl ?_
  refine R_cVVi (As := []) (rest := []) (r := (some ma)) (ci := 11) hc ml_L_220 mf_X11_image rfl (by decide) ⟨rfl, rfl⟩ ⟨le_b rfl, le_b rfl⟩ hk1 (fun a h' e => mt_X11_image e) rfl rfl (Nat.zero_le _) dL_law_1851 hw (fun h4 hw => ?_)
  refine R_goto (tgt := 1895) hc dL_law_1854 (by decide) ?_
  refine R_wide (k := kc + 1) (n := ks + 6) (Nat.le_succ _) (Nat.le_add_right _ _) ?_
  refine R_sub hc [0, 1, 2, 3, 4] rfl ?_
  exact hbr _ (wpO_some hw :)
def sC33 (F : Nat) (xs : Nat → Int32) (L xa ma oa : Nat) (i : Int32) (h : HP) : Option (Option HP) :=
  (dO h 10 (some xa)).bind fun a1 =>
  bd2 (sX10_back F a1 h) fun t2 h3 =>
  (dO h3 11 (some ma)).bind fun a4 =>
  bd2 (sX11_back F a4 h3) fun t5 h6 =>
  if t2 = t5 then
    some (some h6)
  else
    some none
set_option maxRecDepth 100000 in
set_option maxHeartbeats 4000000 in
theorem mC33 {x : CX} (hc : Cx x cL_law RL room_1) (hlt : x.l.stackTraces = false) (hnl : ∀ i, i < 8 → i < x.nL) {F : Nat} {xs : Nat → Int32} {b L xa ma oa kc ks : Nat} (hsc : Scr x b L xs) (hk1 : kc ≤ room_1.cells ∧ ks ≤ room_1.slots) (hk2 : kc + 1 ≤ room_1.cells ∧ ks + 6 ≤ room_1.slots) {i : Int32} {h : HP} {C : Option HP → Prop} (hbr : ∀ h', C (some h') → Rn x (kc + 1) (ks + 6) 1895 [(0, .ref b), (1, rf x.w (some xa)), (2, rf x.w (some ma)), (3, rf x.w (some oa)), (4, .int i)] [] h') (hno : ¬ C none) (hw : wpO (sC33 F xs L xa ma oa i h) C) : Rn x kc ks 1857 [(0, .ref b), (1, rf x.w (some xa)), (2, rf x.w (some ma)), (3, rf x.w (some oa)), (4, .int i)] [] h := by
  unfold sC33 at hw
  refine R_aload_n (q := 1) (i := 1) (v := (some xa)) hc dL_law_1857 rfl rfl ?_
  refine R_cVIi (As := []) (rest := []) (r := (some xa)) (ci := 10) hc ml_L_221 mf_X10_back rfl (by decide) ⟨rfl, rfl⟩ ⟨le_b rfl, le_b rfl⟩ hk1 (fun a v h' e => mt_X10_back e) rfl rfl (Nat.zero_le _) dL_law_1858 hw (fun t2 h3 hw => ?_)
  refine R_aload_n (q := 2) (i := 2) (v := (some ma)) hc dL_law_1861 rfl rfl ?_
  refine R_cVIi (As := []) (rest := [.int t2]) (r := (some ma)) (ci := 11) hc ml_L_224 mf_X11_back rfl (by decide) ⟨rfl, rfl⟩ ⟨le_b rfl, le_b rfl⟩ hk1 (fun a v h' e => mt_X11_back e) rfl rfl (le_b rfl) dL_law_1862 hw (fun t5 h6 hw => ?_)
  refine R_icmp_eq (tgt := 1895) hc dL_law_1865 (by decide) hw (fun hw => ?_) (fun hw => ?_)
  · refine R_wide (k := kc + 1) (n := ks + 6) (Nat.le_succ _) (Nat.le_add_right _ _) ?_
    refine R_sub hc [0, 1, 2, 3, 4] rfl ?_
    exact hbr _ (wpO_some hw :)
  · refine R_iconst (v := (0 : Int32)) hc dL_law_1868 kI_0 ?_
    exact absurd (wpO_some hw :) hno
def sC34 (F : Nat) (xs : Nat → Int32) (L xa ma oa : Nat) (i : Int32) (h : HP) : Option (Option HP) :=
  (scrI xs L (i + (1 : Int32))).bind fun t1 =>
  (dO h 10 (some xa)).bind fun a2 =>
  (sX10_count F a2 t1 h).bind fun t3 =>
  (scrI xs L (i + (1 : Int32))).bind fun t4 =>
  (dO h 11 (some ma)).bind fun a5 =>
  bd2 (sX11_count F a5 t4 h) fun t6 h7 =>
  if t3 = t6 then
    some (some h7)
  else
    some none
set_option maxRecDepth 100000 in
set_option maxHeartbeats 4000000 in
theorem mC34 {x : CX} (hc : Cx x cL_law RL room_1) (hlt : x.l.stackTraces = false) (hnl : ∀ i, i < 8 → i < x.nL) {F : Nat} {xs : Nat → Int32} {b L xa ma oa kc ks : Nat} (hsc : Scr x b L xs) (hk1 : kc ≤ room_1.cells ∧ ks ≤ room_1.slots) (hk2 : kc + 1 ≤ room_1.cells ∧ ks + 6 ≤ room_1.slots) {i : Int32} {h : HP} {C : Option HP → Prop} (hbr : ∀ h', C (some h') → Rn x (kc + 1) (ks + 6) 1895 [(0, .ref b), (1, rf x.w (some xa)), (2, rf x.w (some ma)), (3, rf x.w (some oa)), (4, .int i)] [] h') (hno : ¬ C none) (hw : wpO (sC34 F xs L xa ma oa i h) C) : Rn x kc ks 1870 [(0, .ref b), (1, rf x.w (some xa)), (2, rf x.w (some ma)), (3, rf x.w (some oa)), (4, .int i)] [] h := by
  unfold sC34 at hw
  refine R_aload_n (q := 1) (i := 1) (v := (some xa)) hc dL_law_1870 rfl rfl ?_
  refine R_aloadV (q := 0) (i := 0) hc dL_law_1871 rfl rfl ?_
  refine R_iload (q := 4) (i := 4) (v := i) hc dL_law_1872 rfl ?_
  refine R_iconst (v := (1 : Int32)) hc dL_law_1874 kI_1 ?_
  refine R_iadd hc dL_law_1875 ?_
  refine R_scr hc hsc dL_law_1876 hw (fun t1 hw => ?_)
  refine R_cVI (As := [.int t1]) (rest := []) (r := (some xa)) (ci := 10) hc ml_L_225 mf_X10_count rfl (by decide) ⟨rfl, rfl⟩ ⟨le_b rfl, le_b rfl⟩ hk1 (fun a v e => mt_X10_count e) rfl rfl (Nat.zero_le _) dL_law_1877 hw (fun t3 hw => ?_)
  refine R_aload_n (q := 2) (i := 2) (v := (some ma)) hc dL_law_1880 rfl rfl ?_
  refine R_aloadV (q := 0) (i := 0) hc dL_law_1881 rfl rfl ?_
  refine R_iload (q := 4) (i := 4) (v := i) hc dL_law_1882 rfl ?_
  refine R_iconst (v := (1 : Int32)) hc dL_law_1884 kI_1 ?_
  refine R_iadd hc dL_law_1885 ?_
  refine R_scr hc hsc dL_law_1886 hw (fun t4 hw => ?_)
  refine R_cVIi (As := [.int t4]) (rest := [.int t3]) (r := (some ma)) (ci := 11) hc ml_L_228 mf_X11_count rfl (by decide) ⟨rfl, rfl⟩ ⟨le_b rfl, le_b rfl⟩ hk1 (fun a v h' e => mt_X11_count e) rfl rfl (le_b rfl) dL_law_1887 hw (fun t6 h7 hw => ?_)
  refine R_icmp_eq (tgt := 1895) hc dL_law_1890 (by decide) hw (fun hw => ?_) (fun hw => ?_)
  · refine R_wide (k := kc + 1) (n := ks + 6) (Nat.le_succ _) (Nat.le_add_right _ _) ?_
    refine R_sub hc [0, 1, 2, 3, 4] rfl ?_
    exact hbr _ (wpO_some hw :)
  · refine R_iconst (v := (0 : Int32)) hc dL_law_1893 kI_0 ?_
    exact absurd (wpO_some hw :) hno
