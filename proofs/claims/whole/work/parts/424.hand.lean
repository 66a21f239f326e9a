/-! a layout changed by hand -/
def CH : List Nat := [40, 41, 44, 46, 47, 48, 49, 50, 51, 52, 53, 54, 55, 56, 57, 58, 59, 60, 61, 62, 63, 64, 65, 66, 67, 68, 69, 70, 71, 72, 73, 74, 75, 76, 77, 78, 79]
def MH : List Nat := [108, 109, 110, 114, 115, 116, 117, 118, 119, 120, 121, 122, 123, 124, 125, 126, 127, 128, 129, 130, 131, 132, 133, 134, 135]
theorem ch_o {o c : Nat} (ho : o = 4 ∨ o = 22) (hc : c = 5 ∨ c = 23 ∨ c = 102) : ∀ a, a ∈ [c, c + 1, c + 2, c + 3, c + 5, o + 7 + 1, o + 7 + 2, o + 7 + 3, o + 11, o + 12, o + 17] → a ∉ CH := by
  rcases ho with rfl | rfl <;> rcases hc with rfl | rfl | rfl <;> decide
theorem mh_o {o c : Nat} (ho : o = 4 ∨ o = 22) (hc : c = 5 ∨ c = 23 ∨ c = 102) : ∀ a, a ∈ [c, c + 1, c + 2, c + 3, c + 5, o + 7 + 1, o + 7 + 2, o + 7 + 3, o + 11, o + 12, o + 17] → a ∉ MH := by
  rcases ho with rfl | rfl <;> rcases hc with rfl | rfl | rfl <;> decide
/-- the class remembers a layout and takes another -/
def Hk (h h1 : HP) (u u' : Nat → Nat) (z nx : Nat) : Prop := Same CH h h1 ∧ h1.I 44 0 = ii (min z 7 + 1) ∧ h1.I 44 1 = ii ((nx + 1) % 8) ∧ (∀ i, i < 8 → i ≠ nx → h1.I (46 + 2 * i) = h.I (46 + 2 * i) ∧ h1.I (46 + 2 * i + 1) = h.I (46 + 2 * i + 1)) ∧ Rw h1 (46 + 2 * nx) (u 72) (sp u) ∧ Rw h1 40 (u 72) (sp u') ∧ Drw h1 u' (sp u') (u 72)
/-- the reference does -/
def Hm (h1 h2 : HP) (u u' : Nat → Nat) (z : Nat) : Prop := Same MH h1 h2 ∧ (∀ k, k = 5 ∨ k = 7 ∨ k = 10 → h2.I 108 k = h1.I 108 k) ∧ h2.I 108 3 = ii (min z 7 + 1) ∧ Rmb h1 h2 u z ∧ Mw h2 u' ∧ h2.I 108 0 = ii 0
theorem ring_1 {z nx i : Nat} (hz : z ≤ 8) (hx : nx < 8) (hi : i < min z 7) : ((nx + 1) % 8 + 8 - (min z 7 + 1) + i) % 8 = (nx + 8 - z + (if z = 8 then i + 1 else i)) % 8 ∧ (nx + 8 - z + (if z = 8 then i + 1 else i)) % 8 ≠ nx := by
  split <;> omega
theorem ring_2 {z nx : Nat} (hz : z ≤ 8) (hx : nx < 8) : ((nx + 1) % 8 + 8 - (min z 7 + 1) + min z 7) % 8 = nx := by omega
theorem In.hand {h h1 h1' h2 : HP} {u u' : Nat → Nat} {o c z nx : Nat} {w : Nat → Nat → Nat} (J : In h u o c) (q : Lik u u') (hz : z ≤ 8) (hx : nx < 8)
    (hw : ∀ i, i < z → (∀ k, k < 16 → h.I 110 (16 * i + k) = ii (w i k)) ∧ (∀ p, p < u 72 → w i p < u 72 ∧ w i (8 + p) < 4) ∧ Rw h (46 + 2 * ((nx + 8 - z + i) % 8)) (u 72) (fun p => 4 * w i p + w i (8 + p)))
    (A : Hk h h1 u u' z nx) (S : Same [136] h1 h1') (B : Hm h1' h2 u u' z) : In h2 u' o c := by
  obtain ⟨⟨L, ho, hc, r12, V, h6, M, O, R, D⟩, ⟨τ, en, t1, t2, t3, t4, t5⟩, -, o', c', d, ⟨r1, r2, r3, r4, r5, r6, r7, r8⟩, K⟩ := J
  obtain ⟨A1, A2, A3, A4, A5, A6, A7⟩ := A
  obtain ⟨B1, B2, B3, B4, B5, B6⟩ := B
  have V' := V.lik q
  have e72 := q.e (k := 72) (by omega)
  have hR : h2.R = h.R := by rw [B1.R, S.R, A1.R]
  refine ⟨⟨(((L.of A1).of S).of B1), ho, hc, by rw [hR]; exact r12, V', h6.lik q, B5, ?_, ?_, ?_⟩, ⟨τ, en, ?_, ?_, t3, ?_, ?_⟩, ⟨min z 7 + 1, (nx + 1) % 8, fun i k => if i = min z 7 then u (81 + k) else w (if z = 8 then i + 1 else i) k, by omega, by omega, ?_, ?_, B3, ?_⟩, o', c', d, ⟨r1, ?_, ?_, r4, r5, r6, r7, r8⟩, ?_⟩
  · refine ((((O.of A1 (ch_o ho hc)).of S ?_).of B1 (mh_o ho hc)).lik V q)
    rcases ho with rfl | rfl <;> rcases hc with rfl | rfl | rfl <;> decide
  · rw [e72]; exact (A6.of S (by decide) (by decide)).of B1 (by decide) (by decide)
  · rw [e72]; exact (A7.of S (by decide)).of B1 (by decide)
  · rw [B1.I (by decide), S.I (by decide), A1.I (by decide)]; exact t1
  · rw [B2 7 (by simp), S.I (by decide), A1.I (by decide)]; exact t2
  · rw [B1.I (by decide), S.I (by decide), A1.I (by decide), B1.I (a := 112) (by decide), S.I (a := 112) (by decide), A1.I (a := 112) (by decide)]; exact t4
  · rw [B1.I (a := 2) (by decide), S.I (a := 2) (by decide), A1.I (a := 2) (by decide), B2 10 (by simp), S.I (by decide), A1.I (by decide)]; exact t5
  · rw [B1.I (by decide), S.I (by decide)]; exact A2
  · rw [B1.I (by decide), S.I (by decide)]; exact A3
  · intro i hi
    by_cases g : i = min z 7
    · rw [g, ring_2 hz hx]
      simp only [if_true]
      refine ⟨B4.1, fun p hp => ?_, ?_⟩
      · rw [e72] at hp ⊢
        have := sp_lt V hp
        rw [show 81 + (8 + p) = 89 + p by omega]
        exact this.2
      · have hm : ∀ m, m < 8 → 46 + 2 * m ∉ [136] ∧ 46 + 2 * m + 1 ∉ [136] ∧ 46 + 2 * m ∉ MH ∧ 46 + 2 * m + 1 ∉ MH := by decide
        obtain ⟨m1, m2, m3, m4⟩ := hm nx hx
        have hr := (A5.of S m1 m2).of B1 m3 m4
        rw [e72]
        refine ⟨hr.1, fun p hp => ?_⟩
        rw [hr.2 p hp]
        show ii (4 * u (81 + p) + u (89 + p)) = ii (4 * u (81 + p) + u (81 + (8 + p)))
        rw [show 81 + (8 + p) = 89 + p by omega]
    · have hi : i < min z 7 := by omega
      obtain ⟨g1, g2⟩ := ring_1 hz hx hi
      have hb := B4.2 i
      simp only [if_neg g]
      rw [g1]
      generalize hy : (if z = 8 then i + 1 else i) = y at *
      have hyz : y < z := by rw [← hy]; split <;> omega
      obtain ⟨w1, w2, w3⟩ := hw y hyz
      refine ⟨fun k hk => ?_, fun p hp => ?_, ?_⟩
      · rw [hb k hi hk, S.I (by decide), A1.I (by decide)]; exact w1 k hk
      · rw [e72] at hp ⊢; exact w2 p hp
      · have hm : ∀ m, m < 8 → 46 + 2 * m ∉ [136] ∧ 46 + 2 * m + 1 ∉ [136] ∧ 46 + 2 * m ∉ MH ∧ 46 + 2 * m + 1 ∉ MH := by decide
        have hlt : (nx + 8 - z + y) % 8 < 8 := Nat.mod_lt _ (by omega)
        generalize (nx + 8 - z + y) % 8 = m at *
        obtain ⟨m1, m2, m3, m4⟩ := hm m hlt
        obtain ⟨f1, f2⟩ := A4 m hlt g2
        rw [e72]
        have hr : Rw h1 (46 + 2 * m) (u 72) (fun p => 4 * w y p + w y (8 + p)) := by
          unfold Rw
          rw [f1, f2]
          exact w3
        exact (hr.of S m1 m2).of B1 m3 m4
  · rw [hR]; exact r2
  · rw [hR]; exact r3
  · rcases K with ⟨k1, k2⟩ | ⟨v, a, b, k1, k2, k3, k4, k5, k6, k7, k8⟩
    · exact Or.inl ⟨by rw [hR]; exact k1, by rw [B2 5 (by simp), S.I (by decide), A1.I (by decide)]; exact k2⟩
    · have ha : a = 4 ∨ a = 22 := by omega
      have hb : b = 5 ∨ b = 23 ∨ b = 102 := by omega
      refine Or.inr ⟨v, a, b, by rw [hR]; exact k1, k2, by rw [B2 5 (by simp), S.I (by decide), A1.I (by decide)]; exact k3, k4, k5, ?_, ?_, ((k8.of A1 (by decide) (by decide)).of S (by decide) (by decide)).of B1 (by decide) (by decide)⟩
      · rw [B1.I (by decide), S.I (by decide), A1.I (by decide)]; exact k6
      · refine ((k7.of A1 (ch_o ha hb)).of S ?_).of B1 (mh_o ha hb)
        rcases ha with rfl | rfl <;> rcases hb with rfl | rfl | rfl <;> decide
