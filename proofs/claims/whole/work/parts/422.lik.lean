/-! one cell, two layouts -/
section
variable {n : Nat} {l l' : Nat → Nat → Nat} {b : Nat → Nat}
theorem D_con (hl : ∀ s t, s < 4 * n → t < 4 * n → l s t = l' s t) : ∀ (R s : Nat), s < 4 * n → D n l b R s = D n l' b R s := by
  intro R
  induction R using Nat.strongRecOn with
  | ind R ih =>
    intro s hs
    by_cases z : R = 0
    · subst z; rw [D_0, D_0]
    · rw [D_s _ _ _ _ z, D_s _ _ _ _ z]
      refine fd_congr (fun _ _ => rfl) (fun t ht hp => ?_)
      have e := ih (clr R (t / 4)) (clr_lt hp) t ht
      have e2 := hl s t hs ht
      unfold Dv Dw Db gpf
      rw [e, e2]
      exact ⟨rfl, rfl, rfl⟩
theorem gv_con (hl : ∀ s t, s < 4 * n → t < 4 * n → l s t = l' s t) (S : Nat) {t : Nat} (ht : t < 4 * n) : gv n l b S t = gv n l' b S t := by
  unfold gv; rw [D_con hl _ _ ht]
theorem wv_con (hl : ∀ s t, s < 4 * n → t < 4 * n → l s t = l' s t) (S : Nat) {t : Nat} (ht : t < 4 * n) : wv n l b S t = wv n l' b S t := by
  unfold wv; rw [D_con hl _ _ ht]
theorem cv_con (hl : ∀ s t, s < 4 * n → t < 4 * n → l s t = l' s t) (S : Nat) {t : Nat} (ht : t < 4 * n) : cv n l b S t = cv n l' b S t := by
  unfold cv; rw [D_con hl _ _ ht]
theorem Gm_con (hl : ∀ s t, s < 4 * n → t < 4 * n → l s t = l' s t) (S : Nat) : Gm n l b S = Gm n l' b S := mn_congr (fun _ _ => rfl) (fun _ ht _ => gv_con hl S ht)
theorem atm_con {P : Nat → Bool} {v v' : Nat → Nat} {a t : Nat} (e : P t = true → v t = v' t) : atm P v a t = atm P v' a t := by
  unfold atm
  cases y : P t
  · rfl
  · rw [e y]
theorem fs_con (hl : ∀ s t, s < 4 * n → t < 4 * n → l s t = l' s t) {S : Nat} (hS : S < 2 ^ n) (t : Nat) : fs n l b S t = fs n l' b S t := by
  unfold fs
  rw [Gm_con hl S]
  exact atm_con (fun w => gv_con hl S (inR_lt hS w))
theorem sc_con (hl : ∀ s t, s < 4 * n → t < 4 * n → l s t = l' s t) {S : Nat} (hS : S < 2 ^ n) (t : Nat) : sc n l b S t = sc n l' b S t := by
  unfold sc
  rw [Gm_con hl S]
  exact atm_con (fun w => gv_con hl S (inR_lt hS w))
end
/-- the same cell; u' has another layout -/
def Lik (u u' : Nat → Nat) : Prop := (∀ k, k < 81 ∨ 97 ≤ k → u' k = u k) ∧ ∀ p, p < u 72 → u' (81 + p) < u 72 ∧ u' (89 + p) < 4
theorem Lik.e {u u' : Nat → Nat} (q : Lik u u') {k : Nat} (hk : k < 81) : u' k = u k := q.1 k (Or.inl hk)
theorem Vd.lik {u u' : Nat → Nat} (V : Vd u) (q : Lik u u') : Vd u' := by
  have e := @Lik.e u u' q
  obtain ⟨v1, v2, v3, v4, v5, v6, v7, v8, v9, v10, v11, v12, v13, v14⟩ := V
  have e72 := e (k := 72) (by omega)
  have e4 := e (k := 4) (by omega)
  have e53 := e (k := 53) (by omega)
  refine ⟨by omega, by omega, fun f hf => ?_, fun p w hp hw => ?_, fun p hp => ?_, by omega, fun b hb => ?_, by rw [e (by omega)]; exact v8, by rw [e (by omega)]; exact v9, by rw [e (by omega)]; exact v10, by rw [e (by omega)]; exact v11, fun w => ?_, fun p hp => ?_, fun p hp => ?_⟩
  · rw [e (by omega), e4]; exact v3 f (by omega)
  · rw [e (by omega)]; exact v4 p w (by omega) hw
  · rw [e (by omega)]; exact v5 p (by omega)
  · rw [e (by omega), e (by omega), e (by omega)]; exact v7 b (by omega)
  · rw [e (by omega)]; exact v12 (by omega)
  · rw [e72]; exact (q.2 p (by omega)).1
  · exact (q.2 p (by omega)).2
theorem V6.lik {u u' : Nat → Nat} (V : V6 u) (q : Lik u u') : V6 u' := by
  unfold V6
  rw [q.e (by omega)]
  exact V
theorem Lik.net_ {u u' : Nat → Nat} (q : Lik u u') (V : Vd u) {f w : Nat} (hf : f < u 72) (hw : w < 6) : net u' f w = net u f w := by
  obtain ⟨v1, v2, v3, -⟩ := V
  have := v3 f hf
  show u' (5 + 6 * u' (73 + f) + w) = u (5 + 6 * u (73 + f) + w)
  rw [q.e (k := 73 + f) (by omega), q.e (by omega)]
theorem Lik.sd_ {u u' : Nat → Nat} (q : Lik u u') (V : Vd u) (up : Bool) {s : Nat} (hs : s < 4 * u 72) (r : Bool) : sd u' up s r = sd u up s r := by
  have hx : ∀ (a b : Nat), a ≤ 3 → b ≤ 1 → net u' (s / 4) (a + b) = net u (s / 4) (a + b) := fun a b ha hb => q.net_ V (by omega) (by omega)
  refine hx _ _ ?_ ?_
  · split <;> omega
  · have h01 : ∀ (c : Prop) [Decidable c], (if c then 0 else 1) ≤ 1 := fun c _ => by split <;> omega
    exact h01 _
theorem Lik.lkR_ {u u' : Nat → Nat} (q : Lik u u') (V : Vd u) (up : Bool) {s t : Nat} (hs : s < 4 * u 72) (ht : t < 4 * u 72) : lkR u' up s t = lkR u up s t := by
  show (if sd u' up s true = sd u' up t false then 0 else 1) = (if sd u up s true = sd u up t false then 0 else 1)
  rw [q.sd_ V up hs, q.sd_ V up ht]
theorem Lik.lk_ {u u' : Nat → Nat} (q : Lik u u') (V : Vd u) : ∀ s t, s < 4 * u 72 → t < 4 * u 72 → lk u s t = lk u' s t := by
  intro s t hs ht
  show lkR u true s t + lkR u false s t = lkR u' true s t + lkR u' false s t
  rw [q.lkR_ V true hs ht, q.lkR_ V false hs ht]
theorem Cw.lik {h : HP} {c : Nat} {u u' : Nat → Nat} (C : Cw h c u) (V : Vd u) (q : Lik u u') : Cw h c u' := by
  have e := @Lik.e u u' q
  obtain ⟨v1, v2, v3, v4, v5, v6, -⟩ := V
  obtain ⟨c0, c1, c2, c3, c4, c5, c6, c7, c8, c9⟩ := C
  have e72 := e (k := 72) (by omega)
  have e4 := e (k := 4) (by omega)
  have e53 := e (k := 53) (by omega)
  refine ⟨by rw [e (by omega)]; exact c0, by rw [e (by omega)]; exact c1, by rw [e (by omega)]; exact c2, by rw [e (by omega)]; exact c3, by rw [e4]; exact c4, by rw [e72]; exact c5, by rw [e53]; exact c6, fun k hk => ?_, fun f hf => ?_, fun k hk => ?_⟩
  · rw [e (by omega)]; exact c7 k (by omega)
  · rw [e (by omega)]; exact c8 f (by omega)
  · rw [e (by omega)]; exact c9 k (by omega)
theorem Mt.lik {h : HP} {c : Nat} {u u' : Nat → Nat} (m : Mt h c u) (V : Vd u) (q : Lik u u') : Mt h c u' := by
  have e72 := q.e (k := 72) (by omega)
  intro up s hs t ht
  rw [e72] at hs ⊢
  rw [m up s hs t ht]
  by_cases g : t < 4 * u 72
  · rw [q.lkR_ V up hs g]
  · rw [decide_eq_false g]; rfl
theorem Ord.lik {h : HP} {o c : Nat} {u u' : Nat → Nat} (O : Ord h o c u) (V : Vd u) (q : Lik u u') : Ord h o c u' := by
  have e72 := q.e (k := 72) (by omega)
  have hl := q.lk_ V
  obtain ⟨a1, a2, a3, a4, a5, a6⟩ := O
  refine ⟨a1, a2.lik V q, a3.lik V q, ?_, ?_, ?_⟩
  · rw [e72]
    intro S hS hQ
    obtain ⟨b1, b2⟩ := a4 S hS hQ
    refine ⟨?_, fun t ht => ?_⟩
    · rw [b1, Gm_con hl S]
    · rw [← fs_con hl hS t, ← sc_con hl hS t]; exact b2 t ht
  · rw [e72]
    intro S t hS ht hQ
    rw [a5 S t hS ht hQ, wv_con hl S (inR_lt hS ht)]
  · rw [e72]
    intro S hS hQ
    obtain ⟨b1, b2⟩ := a6 S hS hQ
    have f1 : sm (fs (u 72) (lk u) b0 S) (wv (u 72) (lk u) b0 S) (4 * u 72) = sm (fs (u 72) (lk u') b0 S) (wv (u 72) (lk u') b0 S) (4 * u 72) := sm_congr (fun t _ => fs_con hl hS t) (fun t ht _ => wv_con hl S ht)
    have f2 : mn (fs (u 72) (lk u) b0 S) (cv (u 72) (lk u) b0 S) (4 * u 72) = mn (fs (u 72) (lk u') b0 S) (cv (u 72) (lk u') b0 S) (4 * u 72) := mn_congr (fun t _ => fs_con hl hS t) (fun t ht _ => cv_con hl S ht)
    rw [← f1, ← f2]
    exact ⟨b1, b2⟩
