/-! the best ones of one cell, whatever its layout is; there is one -/
theorem pk_con {P P' : Nat → Bool} {w w' : Nat → Nat} {k : Nat} : ∀ {N : Nat}, (∀ t, t < N → P t = P' t) → (∀ t, t < N → P t = true → w t = w' t) → pk P w k N = pk P' w' k N
  | 0, _, _ => rfl
  | N + 1, h1, h2 => by
    have ih := pk_con (k := k) (N := N) (fun t ht => h1 t (by omega)) (fun t ht => h2 t (by omega))
    have e := sm_congr (P := P) (Q := P') (v := w) (u := w') (N := N) (fun t ht => h1 t (by omega)) (fun t ht => h2 t (by omega))
    show (if k < sm P w N then pk P w k N else N) = (if k < sm P' w' N then pk P' w' k N else N)
    rw [ih, e]
theorem pk_lq {P : Nat → Bool} {w : Nat → Nat} {k : Nat} : ∀ N, pk P w k N ≤ N
  | 0 => Nat.le_refl _
  | N + 1 => by
    have := pk_lq (P := P) (w := w) (k := k) N
    show (if k < sm P w N then pk P w k N else N) ≤ N + 1
    split <;> omega
section
variable {n : Nat} {l l' : Nat → Nat → Nat}
theorem nx_con (hl : ∀ s t, s < 4 * n → t < 4 * n → l s t = l' s t) {S s : Nat} (hS : S < 2 ^ n) (hs : s < 4 * n) (t : Nat) : nx n l b0 S s t = nx n l' b0 S s t := by
  unfold nx
  rw [D_con hl S s hs]
  refine atm_con (fun w => ?_)
  have ht := inR_lt hS w
  rw [Dv_eq, Dv_eq, gv_con hl S ht, gpf_c (hl s t hs ht)]
theorem cnd_con (hl : ∀ s t, s < 4 * n → t < 4 * n → l s t = l' s t) {p S s : Nat} (hS : S < 2 ^ n) (hs : 0 < p → s < 4 * n) (t : Nat) : cnd n l p S s t = cnd n l' p S s t := by
  unfold cnd
  by_cases g : p = 0
  · rw [if_pos g, if_pos g]; exact fs_con hl hS t
  · rw [if_neg g, if_neg g]; exact nx_con hl hS (hs (by omega)) t
theorem kS_con (h8 : n ≤ 8) (hl : ∀ s t, s < 4 * n → t < 4 * n → l s t = l' s t) {k0 : Nat} (hk : k0 < sm (fs n l b0 (2 ^ n - 1)) (wv n l b0 (2 ^ n - 1)) (4 * n)) : ∀ p, p ≤ n → kS n l k0 p = kS n l' k0 p
  | 0, _ => rfl
  | p + 1, hp => by
    have ih := kS_con h8 hl hk p (by omega)
    obtain ⟨a1, a2, a3, a4, a5⟩ := kS_inv h8 hk p (by omega)
    have hkS : ∀ l, kS n l k0 (p + 1) = (clr (kS n l k0 p).1 (pk (cnd n l p (kS n l k0 p).1 (kS n l k0 p).2.1) (wv n l b0 (kS n l k0 p).1) (kS n l k0 p).2.2 (4 * n) / 4), pk (cnd n l p (kS n l k0 p).1 (kS n l k0 p).2.1) (wv n l b0 (kS n l k0 p).1) (kS n l k0 p).2.2 (4 * n), (kS n l k0 p).2.2 - sm (cnd n l p (kS n l k0 p).1 (kS n l k0 p).2.1) (wv n l b0 (kS n l k0 p).1) (pk (cnd n l p (kS n l k0 p).1 (kS n l k0 p).2.1) (wv n l b0 (kS n l k0 p).1) (kS n l k0 p).2.2 (4 * n))) := fun _ => rfl
    rw [hkS l, hkS l', ← ih]
    have e1 : ∀ t, t < 4 * n → cnd n l p (kS n l k0 p).1 (kS n l k0 p).2.1 t = cnd n l' p (kS n l k0 p).1 (kS n l k0 p).2.1 t := fun t _ => cnd_con hl a1 a4 t
    have e2 : ∀ t, t < 4 * n → cnd n l p (kS n l k0 p).1 (kS n l k0 p).2.1 t = true → wv n l b0 (kS n l k0 p).1 t = wv n l' b0 (kS n l k0 p).1 t := fun t ht _ => wv_con hl _ ht
    have e3 := pk_con (k := (kS n l k0 p).2.2) e1 e2
    have e4 := pk_lq (P := cnd n l p (kS n l k0 p).1 (kS n l k0 p).2.1) (w := wv n l b0 (kS n l k0 p).1) (k := (kS n l k0 p).2.2) (4 * n)
    rw [← e3]
    generalize pk (cnd n l p (kS n l k0 p).1 (kS n l k0 p).2.1) (wv n l b0 (kS n l k0 p).1) (kS n l k0 p).2.2 (4 * n) = t at *
    rw [sm_congr (N := t) (fun x hx => e1 x (by omega)) (fun x hx => e2 x (by omega))]
theorem Tot_con (hl : ∀ s t, s < 4 * n → t < 4 * n → l s t = l' s t) : Tot n l = Tot n l' := by
  unfold Tot
  have hS : 2 ^ n - 1 < 2 ^ n := by have := Nat.two_pow_pos n; omega
  rw [sm_congr (fun t _ => fs_con hl hS t) (fun t ht _ => wv_con hl _ ht)]
theorem Gs_con (hl : ∀ s t, s < 4 * n → t < 4 * n → l s t = l' s t) (S : Nat) : Gs n l S = Gs n l' S := by
  unfold Gs
  rw [Gm_con hl S]
theorem sq_con (h8 : n ≤ 8) (hl : ∀ s t, s < 4 * n → t < 4 * n → l s t = l' s t) {k0 p : Nat} (hk : k0 < Tot n l) (hp : p < n) : sq n l k0 p = sq n l' k0 p := by
  rw [tot_n (by omega)] at hk
  unfold sq
  rw [kS_con h8 hl hk (p + 1) (by omega)]
theorem Tb.con {h : HP} {b : Nat → Nat} {Q : Nat → Nat → Prop} (T : Tb h n l b Q) (hl : ∀ s t, s < 4 * n → t < 4 * n → l s t = l' s t) : Tb h n l' b Q := by
  intro S t hS ht hb hQ
  rw [← D_con hl _ _ ht]
  exact T S t hS ht hb hQ
theorem sm_ge {P : Nat → Bool} {w : Nat → Nat} {N t : Nat} (ht : t < N) (hp : P t = true) : w t ≤ sm P w N := by
  have h3 : sm P w (t + 1) = sm P w t + w t := by rw [sm_s, if_pos hp]
  have h4 := sm_mono (P := P) (v := w) (show t + 1 ≤ N from ht)
  omega
theorem D_pos : ∀ (R s : Nat), (D n l b0 R s).1 < 1000 → 0 < (D n l b0 R s).2.1 := by
  intro R
  induction R using Nat.strongRecOn with
  | ind R ih =>
    intro s hs
    by_cases z : R = 0
    · subst z
      rw [D_0]
      exact Nat.zero_lt_one
    · have e1 : (D n l b0 R s).1 = mn (inR R) (Dv n l b0 R s) (4 * n) := by rw [D_s _ _ _ _ z, fd_1]
      rw [e1] at hs
      obtain ⟨t, h1, h2, h3⟩ := mn_ex hs
      have hn : nx n l b0 R s t = true := nx_iff.mpr ⟨h2, by rw [h3]; exact hs, by rw [h3, e1]⟩
      have hg : (D n l b0 (clr R (t / 4)) t).1 < 1000 := by
        rw [← h3, Dv_eq] at hs
        have hs : (if gv n l b0 R t = 1000 then 1000 else gv n l b0 R t + gpf l s t) < 1000 := hs
        split at hs
        · omega
        · show gv n l b0 R t < 1000
          omega
      have hp := ih (clr R (t / 4)) (clr_lt h2) t hg
      have := sm_ge (w := wv n l b0 R) h1 hn
      rw [D_2 z]
      have e : wv n l b0 R t = (D n l b0 (clr R (t / 4)) t).2.1 := rfl
      omega
theorem Tot_pos (h8 : n ≤ 8) : 0 < Tot n l := by
  by_cases z : n = 0
  · subst z
    show 0 < (if 2 ^ 0 - 1 = 0 then 1 else _)
    rw [if_pos rfl]
    omega
  · rw [tot_n (by omega)]
    have p8 := pow8 h8
    have hne : 2 ^ n - 1 ≠ 0 := fun w => z (all_0.mp w)
    have hG := Gm_b0 (n := n) (l := l) (S := 2 ^ n - 1) (by have := Nat.two_pow_pos n; omega) hne
    have hG2 : mn (inR (2 ^ n - 1)) (gv n l b0 (2 ^ n - 1)) (4 * n) < 1000 := by
      have : Gm n l b0 (2 ^ n - 1) < 1000 := by omega
      exact this
    obtain ⟨t, h1, h2, h3⟩ := mn_ex hG2
    have hf : fs n l b0 (2 ^ n - 1) t = true := fs_iff.mpr ⟨h2, by rw [h3]; exact hG2, h3⟩
    have hp : 0 < wv n l b0 (2 ^ n - 1) t := D_pos _ _ (by show gv n l b0 (2 ^ n - 1) t < 1000; rw [h3]; exact hG2)
    have := sm_ge (w := wv n l b0 (2 ^ n - 1)) h1 hf
    omega
end
theorem wln_le {u s : Nat → Nat} {n : Nat} (hn : n ≤ 8) : ∀ N, wln u s n N ≤ 32 * N
  | 0 => Nat.le_refl _
  | N + 1 => by
    have := wln_le (u := u) (s := s) hn N
    have e : wln u s n (N + 1) = wln u s n N + ((wr u s n N).2 - (wr u s n N).1) := rfl
    rw [e]
    rcases wr_ok (u := u) (s := s) hn N with ⟨a, b⟩ | ⟨a, b, d⟩ <;> omega
