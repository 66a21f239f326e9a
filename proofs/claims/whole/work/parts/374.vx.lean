/-! rows that are being read stay valid -/
def Vx (r : Nat → Nat) : Prop := Vr r ∧ mbs (r 3) ≤ 6 ∧ 1 ≤ r 1 ∧ r 1 ≤ 4 ∧ (∀ f, f < r 72 → r (73 + f) < r 4) ∧ (∀ q w, q < r 4 → w < 5 → r (5 + 6 * q + w) < 12) ∧ (∀ q, q < r 4 → r (5 + 6 * q + 5) ≤ 40) ∧
  (∀ b, b < r 53 → r (54 + 3 * b) < 12 ∧ r (54 + 3 * b + 1) ≤ 40 ∧ r (54 + 3 * b + 2) ≤ 40) ∧ (∀ f, f < r 72 → r (81 + f) = f) ∧ ∀ f, f < 8 → r (89 + f) = 0
theorem Vx.vd {r : Nat → Nat} (V : Vx r) : Vd r ∧ V6 r := by
  obtain ⟨⟨a1, a2, a3, a4, a5, a6, a7⟩, b, c1, c2, d, e, f, g, h, i⟩ := V
  refine ⟨⟨a2, a1, d, e, f, a5, g, a6, a7, a4, c2, fun _ => by omega, fun p hp => ?_, fun p hp => ?_⟩, b⟩
  · rw [h p hp]; exact hp
  · rw [i p (by omega)]; omega
theorem mbs_or {x v : Nat} (hv : v < 12) (hx : x.testBit v = false) : mbs (x ||| 2 ^ v) = mbs x + 1 := by
  unfold mbs
  have hb : (fun i => (x ||| 2 ^ v).testBit i) v = true := by simp [Nat.testBit_or, Nat.testBit_two_pow]
  rw [← sm_upd (P := fun i => (x ||| 2 ^ v).testBit i) hb hv]
  congr 1
  refine sm_congr (fun i _ => ?_) (fun _ _ _ => rfl)
  simp only [Nat.testBit_or, Nat.testBit_two_pow]
  by_cases e : v = i
  · subst e; rw [hx]; simp
  · simp [e]
theorem or_4096 {x v : Nat} (hx : x < 4096) (hv : v < 12) : x ||| 2 ^ v < 4096 := Nat.or_lt_two_pow (n := 12) hx (Nat.pow_lt_pow_right (by decide) hv)
theorem pv6_le (τ : Nat → Nat) (e : Nat) (s : Nat × Nat) {w : Nat} (hw : w < 5) : pv6 τ e s w < 12 := by
  match w, hw with
  | 0, _ => have := nm_le τ e 0 11 s; show (pl0 τ e s).1 < 12; unfold pl0; omega
  | 1, _ => show (pl1 τ e s).1 < 12; unfold pl1; have := nm_le τ e 0 11 (xw τ e 5 (pl0 τ e s).2); omega
  | 2, _ => show (pl2 τ e s).1 < 12; unfold pl2; have := nm_le τ e 0 11 (pl1 τ e s).2; omega
  | 3, _ => show (pl3 τ e s).1 < 12; unfold pl3; have := nm_le τ e 0 11 (xw τ e 6 (pl2 τ e s).2); omega
  | 4, _ => show (pl4 τ e s).1 < 12; unfold pl4; have := nm_le τ e 0 11 (pl3 τ e s).2; omega
theorem pl5_le (τ : Nat → Nat) (e : Nat) (s : Nat × Nat) : (pl5 τ e s).1 ≤ 40 := by
  unfold pl5
  split
  · exact nm_le _ _ _ _ _
  · show 1 ≤ 40; omega
theorem plr_ok {τ : Nat → Nat} {e : Nat} {r : Nat → Nat} {g : Nat} {s : Nat × Nat} (V : Vx r) (h : (pls τ e r g s).1 = 0) : Vx (plr τ e r s) := by
  obtain ⟨⟨a1, a2, a3, a4, a5, a6, a7⟩, b, c1, c2, d, e', f, g', h', i⟩ := V
  unfold pls at h
  by_cases z : r 4 = 8
  · rw [if_pos z] at h; simp at h
  rw [if_neg z] at h
  by_cases y : (pl5 τ e s).2.1 = 0 ∧ 8 < r 72 + pmo τ e s (r 0)
  · rw [if_pos y] at h; simp at h
  rw [if_neg y] at h
  have hm : r 72 + pmo τ e s (r 0) ≤ 8 := by omega
  have lo : ∀ k, k < 5 + 6 * r 4 → k ≠ 4 → plr τ e r s k = r k := by
    intro k g1 g2
    unfold plr
    rw [if_neg (by omega), if_neg g2, if_neg (by omega), if_neg (by omega), if_neg (by omega)]
  have mid : ∀ k, 53 ≤ k → k < 72 → plr τ e r s k = r k := by
    intro k g1 g2
    unfold plr
    rw [if_neg (by omega), if_neg (by omega), if_neg (by omega), if_neg (by omega), if_neg (by omega)]
  have p4 : plr τ e r s 4 = r 4 + 1 := by unfold plr; rw [if_neg (by omega), if_pos rfl]
  have p72 : plr τ e r s 72 = r 72 + pmo τ e s (r 0) := by unfold plr; rw [if_neg (by omega), if_neg (by omega), if_pos rfl]
  have pp : ∀ w, w < 6 → plr τ e r s (5 + 6 * r 4 + w) = pv6 τ e s w := by
    intro w hw
    unfold plr
    rw [if_pos (by omega), show 5 + 6 * r 4 + w - (5 + 6 * r 4) = w by omega]
  have pf1 : ∀ k, k < r 72 → plr τ e r s (73 + k) = r (73 + k) := by
    intro k hk
    unfold plr
    rw [if_neg (by omega), if_neg (by omega), if_neg (by omega), if_neg (by omega), if_neg (by omega)]
  have pf2 : ∀ k, r 72 ≤ k → k < r 72 + pmo τ e s (r 0) → plr τ e r s (73 + k) = r 4 := by
    intro k h1 h2
    unfold plr
    rw [if_neg (by omega), if_neg (by omega), if_neg (by omega), if_pos (by omega)]
  have pp1 : ∀ k, k < r 72 → plr τ e r s (81 + k) = r (81 + k) := by
    intro k hk
    unfold plr
    rw [if_neg (by omega), if_neg (by omega), if_neg (by omega), if_neg (by omega), if_neg (by omega)]
  have pp2 : ∀ k, r 72 ≤ k → k < r 72 + pmo τ e s (r 0) → plr τ e r s (81 + k) = k := by
    intro k h1 h2
    unfold plr
    rw [if_neg (by omega), if_neg (by omega), if_neg (by omega), if_neg (by omega), if_pos (by omega)]
    omega
  have pt1 : ∀ k, k < 8 → plr τ e r s (89 + k) = r (89 + k) := by
    intro k hk
    unfold plr
    rw [if_neg (by omega), if_neg (by omega), if_neg (by omega), if_neg (by omega), if_neg (by omega)]
  refine ⟨⟨?_, ?_, ?_, ?_, ?_, ?_, ?_⟩, ?_, ?_, ?_, ?_, ?_, ?_, ?_, ?_, ?_⟩
  · rw [p4]; omega
  · rw [p72]; exact hm
  · rw [lo 0 (by omega) (by omega)]; exact a3
  · rw [lo 0 (by omega) (by omega)]; exact a4
  · rw [mid 53 (by omega) (by omega)]; exact a5
  · rw [lo 2 (by omega) (by omega)]; exact a6
  · rw [lo 3 (by omega) (by omega)]; exact a7
  · rw [lo 3 (by omega) (by omega)]; exact b
  · rw [lo 1 (by omega) (by omega)]; exact c1
  · rw [lo 1 (by omega) (by omega)]; exact c2
  · intro k hk
    rw [p72] at hk
    rw [p4]
    by_cases w : k < r 72
    · rw [pf1 k w]; have := d k w; omega
    · rw [pf2 k (by omega) hk]; omega
  · intro q w hq hw
    rw [p4] at hq
    by_cases x : q < r 4
    · rw [lo _ (by omega) (by omega)]; exact e' q w x hw
    · have : q = r 4 := by omega
      subst this
      rw [pp w (by omega)]; exact pv6_le τ e s hw
  · intro q hq
    rw [p4] at hq
    by_cases x : q < r 4
    · rw [lo _ (by omega) (by omega)]; exact f q x
    · have : q = r 4 := by omega
      subst this
      rw [pp 5 (by omega)]; exact pl5_le τ e s
  · intro k hk
    rw [mid 53 (by omega) (by omega)] at hk
    rw [mid _ (by omega) (by omega), mid _ (by omega) (by omega), mid _ (by omega) (by omega)]
    exact g' k hk
  · intro k hk
    rw [p72] at hk
    by_cases w : k < r 72
    · rw [pp1 k w]; exact h' k w
    · exact pp2 k (by omega) hk
  · intro k hk
    rw [pt1 k hk]; exact i k hk
theorem nlr_ok {τ : Nat → Nat} {e : Nat} {r : Nat → Nat} {w p : Nat} (V : Vx r) (hw : w = 2 ∨ w = 3 ∧ mbs (r 3) ≠ 6) (h : (nls τ e r w p).1 = 0) : Vx (nlr τ e r w p) := by
  obtain ⟨⟨a1, a2, a3, a4, a5, a6, a7⟩, b, c1, c2, d, e', f, g', h', i⟩ := V
  have hle := nm_le τ e 0 11 (0, p)
  have hbit : (r w).testBit (nm τ e 0 11 (0, p)).1 = false := by
    unfold nls at h
    by_cases y : (nm τ e 0 11 (0, p)).2.1 = 0 ∧ (r w).testBit (nm τ e 0 11 (0, p)).1 = true
    · rw [if_pos y] at h; simp at h
    · rw [if_neg y] at h
      cases q : (r w).testBit (nm τ e 0 11 (0, p)).1
      · rfl
      · exact absurd ⟨h, q⟩ y
  have o : ∀ k, k ≠ w → nlr τ e r w p k = r k := fun k hk => by unfold nlr; rw [if_neg hk]
  have ow : nlr τ e r w p w = r w ||| 2 ^ (nm τ e 0 11 (0, p)).1 := by unfold nlr; rw [if_pos rfl]
  refine ⟨⟨?_, ?_, ?_, ?_, ?_, ?_, ?_⟩, ?_, ?_, ?_, ?_, ?_, ?_, ?_, ?_, ?_⟩
  · rw [o 4 (by omega)]; exact a1
  · rw [o 72 (by omega)]; exact a2
  · rw [o 0 (by omega)]; exact a3
  · rw [o 0 (by omega)]; exact a4
  · rw [o 53 (by omega)]; exact a5
  · rcases hw with rfl | ⟨rfl, _⟩
    · rw [ow]; exact or_4096 a6 (by omega)
    · rw [o 2 (by omega)]; exact a6
  · rcases hw with rfl | ⟨rfl, _⟩
    · rw [o 3 (by omega)]; exact a7
    · rw [ow]; exact or_4096 a7 (by omega)
  · rcases hw with rfl | ⟨rfl, h6⟩
    · rw [o 3 (by omega)]; exact b
    · rw [ow, mbs_or (by omega) hbit]; omega
  · rw [o 1 (by omega)]; exact c1
  · rw [o 1 (by omega)]; exact c2
  · intro k hk
    rw [o 72 (by omega)] at hk
    rw [o _ (by omega), o 4 (by omega)]; exact d k hk
  · intro q x hq hx
    rw [o 4 (by omega)] at hq
    rw [o _ (by omega)]; exact e' q x hq hx
  · intro q hq
    rw [o 4 (by omega)] at hq
    rw [o _ (by omega)]; exact f q hq
  · intro k hk
    rw [o 53 (by omega)] at hk
    rw [o _ (by omega), o _ (by omega), o _ (by omega)]; exact g' k hk
  · intro k hk
    rw [o 72 (by omega)] at hk
    rw [o _ (by omega)]; exact h' k hk
  · intro k hk
    rw [o _ (by omega)]; exact i k hk
theorem blr_ok {τ : Nat → Nat} {e : Nat} {r : Nat → Nat} {g p : Nat} (V : Vx r) (h : (bls τ e r g p).1 = 0) : Vx (blr τ e r p) := by
  obtain ⟨⟨a1, a2, a3, a4, a5, a6, a7⟩, b, c1, c2, d, e', f, g', h', i⟩ := V
  unfold bls at h
  by_cases z : r 53 = 6
  · rw [if_pos z] at h; simp at h
  have l0 : (bl0 τ e p).1 ≤ 11 := nm_le _ _ _ _ _
  have l1 : (bl1 τ e p).1 ≤ 40 := nm_le _ _ _ _ _
  have l2 : (bl2 τ e p).1 ≤ 40 := nm_le _ _ _ _ _
  have o : ∀ k, k < 53 ∨ 72 ≤ k ∨ 54 ≤ k ∧ k < 54 + 3 * r 53 → blr τ e r p k = r k := by
    intro k hk
    unfold blr
    rw [if_neg (by omega), if_neg (by omega), if_neg (by omega), if_neg (by omega)]
  have o53 : blr τ e r p 53 = r 53 + 1 := by unfold blr; rw [if_pos rfl]
  have n0 : blr τ e r p (54 + 3 * r 53) = (bl0 τ e p).1 := by unfold blr; rw [if_neg (by omega), if_pos rfl]
  have n1 : blr τ e r p (54 + 3 * r 53 + 1) = (bl1 τ e p).1 := by unfold blr; rw [if_neg (by omega), if_neg (by omega), if_pos rfl]
  have n2 : blr τ e r p (54 + 3 * r 53 + 2) = (bl2 τ e p).1 := by unfold blr; rw [if_neg (by omega), if_neg (by omega), if_neg (by omega), if_pos rfl]
  refine ⟨⟨?_, ?_, ?_, ?_, ?_, ?_, ?_⟩, ?_, ?_, ?_, ?_, ?_, ?_, ?_, ?_, ?_⟩
  · rw [o 4 (by omega)]; exact a1
  · rw [o 72 (by omega)]; exact a2
  · rw [o 0 (by omega)]; exact a3
  · rw [o 0 (by omega)]; exact a4
  · rw [o53]; omega
  · rw [o 2 (by omega)]; exact a6
  · rw [o 3 (by omega)]; exact a7
  · rw [o 3 (by omega)]; exact b
  · rw [o 1 (by omega)]; exact c1
  · rw [o 1 (by omega)]; exact c2
  · intro k hk
    rw [o 72 (by omega)] at hk
    rw [o _ (by omega), o 4 (by omega)]; exact d k hk
  · intro q x hq hx
    rw [o 4 (by omega)] at hq
    rw [o _ (by omega)]; exact e' q x hq hx
  · intro q hq
    rw [o 4 (by omega)] at hq
    rw [o _ (by omega)]; exact f q hq
  · intro k hk
    rw [o53] at hk
    by_cases w : k < r 53
    · rw [o _ (by omega), o _ (by omega), o _ (by omega)]; exact g' k w
    · have : k = r 53 := by omega
      subst this
      rw [n0, n1, n2]; omega
  · intro k hk
    rw [o 72 (by omega)] at hk
    rw [o _ (by omega)]; exact h' k hk
  · intro k hk
    rw [o _ (by omega)]; exact i k hk
theorem lnr_ok {τ : Nat → Nat} {e : Nat} {r : Nat → Nat} {k p : Nat} (V : Vx r) (h : (lns τ e r k p).1 = 0) : Vx (lnr τ e r p) := by
  unfold lns at h
  unfold lnr
  by_cases z : wd τ e (sk τ e p) = sk τ e p ∨ k = 20
  · rw [if_pos z] at h; simp at h
  rw [if_neg z] at h
  by_cases c1 : isw τ 1 (sk τ e p) (wd τ e (sk τ e p)) = true
  · rw [if_pos c1] at h ⊢
    exact plr_ok V h
  · rw [if_neg c1] at h ⊢
    by_cases c2 : isw τ 2 (sk τ e p) (wd τ e (sk τ e p)) = true
    · rw [if_pos c2] at h ⊢
      exact nlr_ok V (Or.inl rfl) h
    · rw [if_neg c2] at h ⊢
      by_cases c3 : isw τ 3 (sk τ e p) (wd τ e (sk τ e p)) = true
      · rw [if_pos c3] at h ⊢
        unfold pns at h
        by_cases y : mbs (r 3) = 6
        · rw [if_pos y] at h; simp at h
        · rw [if_neg y] at h
          exact nlr_ok V (Or.inr ⟨rfl, y⟩) h
      · rw [if_neg c3] at h ⊢
        by_cases c4 : isw τ 4 (sk τ e p) (wd τ e (sk τ e p)) = true
        · rw [if_pos c4] at h
          exact blr_ok V h
        · rw [if_neg c4] at h; simp at h
