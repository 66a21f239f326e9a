/-! the best one of a number, place by place -/
def pk (P : Nat → Bool) (w : Nat → Nat) (k : Nat) : Nat → Nat
  | 0 => 0
  | N + 1 => if k < sm P w N then pk P w k N else N
theorem pk_ok {P : Nat → Bool} {w : Nat → Nat} {k : Nat} : ∀ {N : Nat}, k < sm P w N → pk P w k N < N ∧ P (pk P w k N) = true ∧ sm P w (pk P w k N) ≤ k ∧ k - sm P w (pk P w k N) < w (pk P w k N) := by
  intro N
  induction N with
  | zero => intro h; exact absurd h (by simp [sm])
  | succ N ih =>
    intro h
    unfold pk
    by_cases c : k < sm P w N
    · rw [if_pos c]
      obtain ⟨a, b⟩ := ih c
      exact ⟨by omega, b⟩
    · rw [if_neg c]
      simp only [sm] at h
      by_cases d : P N = true
      · rw [if_pos d] at h
        exact ⟨by omega, d, by omega, by omega⟩
      · rw [if_neg d] at h
        omega
/-- only one can be it -/
theorem pk_one {P : Nat → Bool} {w : Nat → Nat} {k N t : Nat} (ht : t < N) (hp : P t = true) (h1 : sm P w t ≤ k) (h2 : k - sm P w t < w t) : pk P w k N = t := by
  have h3 : sm P w (t + 1) = sm P w t + w t := by rw [sm_s, if_pos hp]
  have h4 := sm_mono (P := P) (v := w) (show t + 1 ≤ N from ht)
  obtain ⟨a, b, c, d⟩ := pk_ok (P := P) (w := w) (k := k) (N := N) (by omega)
  generalize pk P w k N = r at *
  have h5 : sm P w (r + 1) = sm P w r + w r := by rw [sm_s, if_pos b]
  rcases Nat.lt_trichotomy r t with g | g | g
  · have := sm_mono (P := P) (v := w) (show r + 1 ≤ t from g)
    omega
  · exact g
  · have := sm_mono (P := P) (v := w) (show t + 1 ≤ r from g)
    omega
/-- who may stand in a place -/
def cnd (n : Nat) (l : Nat → Nat → Nat) (p S s t : Nat) : Bool := if p = 0 then fs n l b0 S t else nx n l b0 S s t
/-- what is left ahead of a place, the stance ahead, what is left of the number -/
def kS (n : Nat) (l : Nat → Nat → Nat) (k0 : Nat) : Nat → Nat × Nat × Nat
  | 0 => (2 ^ n - 1, 0, k0)
  | p + 1 => (clr (kS n l k0 p).1 (pk (cnd n l p (kS n l k0 p).1 (kS n l k0 p).2.1) (wv n l b0 (kS n l k0 p).1) (kS n l k0 p).2.2 (4 * n) / 4), pk (cnd n l p (kS n l k0 p).1 (kS n l k0 p).2.1) (wv n l b0 (kS n l k0 p).1) (kS n l k0 p).2.2 (4 * n),
    (kS n l k0 p).2.2 - sm (cnd n l p (kS n l k0 p).1 (kS n l k0 p).2.1) (wv n l b0 (kS n l k0 p).1) (pk (cnd n l p (kS n l k0 p).1 (kS n l k0 p).2.1) (wv n l b0 (kS n l k0 p).1) (kS n l k0 p).2.2 (4 * n)))
/-- the stance of a place in the k-th best one -/
def sq (n : Nat) (l : Nat → Nat → Nat) (k0 p : Nat) : Nat := (kS n l k0 (p + 1)).2.1
theorem cnd_in {n : Nat} {l : Nat → Nat → Nat} {p S s t : Nat} (h : cnd n l p S s t = true) : inR S t = true := by
  unfold cnd at h
  split at h
  · exact (fs_iff.mp h).1
  · exact (nx_iff.mp h).1
theorem cnF_all {n : Nat} (h8 : n ≤ 8) : cnF (2 ^ n - 1) = n := by
  revert h8
  revert n
  decide
theorem cnF_0 {S n : Nat} (hS : S < 2 ^ n) (h8 : n ≤ 8) (h : cnF S = 0) : S = 0 := by
  apply Nat.eq_of_testBit_eq
  intro j
  rw [Nat.zero_testBit]
  cases e : S.testBit j
  · rfl
  · have := cnF_clr e (by have := bit_lt hS e; omega)
    omega
/-- gaps ahead of a place -/
def gon (n : Nat) (l : Nat → Nat → Nat) (k0 : Nat) : Nat → Nat
  | 0 => 0
  | p + 1 => gon n l k0 p + (if p = 0 then 0 else gpf l (kS n l k0 p).2.1 (kS n l k0 (p + 1)).2.1)
theorem kS_inv {n : Nat} {l : Nat → Nat → Nat} {k0 : Nat} (h8 : n ≤ 8) (hk : k0 < sm (fs n l b0 (2 ^ n - 1)) (wv n l b0 (2 ^ n - 1)) (4 * n)) : ∀ p, p ≤ n → (kS n l k0 p).1 < 2 ^ n ∧ cnF (kS n l k0 p).1 = n - p ∧ (p < n → (kS n l k0 p).2.2 < sm (cnd n l p (kS n l k0 p).1 (kS n l k0 p).2.1) (wv n l b0 (kS n l k0 p).1) (4 * n)) ∧
    (0 < p → (kS n l k0 p).2.1 < 4 * n) ∧ (gon n l k0 p + (if p = 0 then Gm n l b0 (2 ^ n - 1) else (D n l b0 (kS n l k0 p).1 (kS n l k0 p).2.1).1) = Gm n l b0 (2 ^ n - 1)) := by
  have p8 := pow8 h8
  have p1 := two_le (n := n)
  intro p
  induction p with
  | zero =>
    intro _
    refine ⟨by show 2 ^ n - 1 < _; omega, cnF_all h8, fun _ => hk, fun q => absurd q (by omega), ?_⟩
    rw [if_pos rfl]
    exact Nat.zero_add _
  | succ p ih =>
    intro hp
    obtain ⟨a1, a2, a3, a4, a5⟩ := ih (by omega)
    obtain ⟨b1, b2, b3, b4⟩ := pk_ok (a3 (by omega))
    have hkS : kS n l k0 (p + 1) = (clr (kS n l k0 p).1 (pk (cnd n l p (kS n l k0 p).1 (kS n l k0 p).2.1) (wv n l b0 (kS n l k0 p).1) (kS n l k0 p).2.2 (4 * n) / 4), pk (cnd n l p (kS n l k0 p).1 (kS n l k0 p).2.1) (wv n l b0 (kS n l k0 p).1) (kS n l k0 p).2.2 (4 * n), (kS n l k0 p).2.2 - sm (cnd n l p (kS n l k0 p).1 (kS n l k0 p).2.1) (wv n l b0 (kS n l k0 p).1) (pk (cnd n l p (kS n l k0 p).1 (kS n l k0 p).2.1) (wv n l b0 (kS n l k0 p).1) (kS n l k0 p).2.2 (4 * n))) := rfl
    have hgon : gon n l k0 (p + 1) = gon n l k0 p + (if p = 0 then 0 else gpf l (kS n l k0 p).2.1 (kS n l k0 (p + 1)).2.1) := rfl
    rw [hgon, hkS]
    simp only
    have hS0 : p = 0 → (kS n l k0 p).1 = 2 ^ n - 1 := by intro z; subst z; rfl
    generalize (kS n l k0 p) = q at *
    generalize pk (cnd n l p q.1 q.2.1) (wv n l b0 q.1) q.2.2 (4 * n) = t at *
    have hin := cnd_in b2
    have hlt := clr_lt (show q.1.testBit (t / 4) = true from hin)
    have hcn := cnF_clr (show q.1.testBit (t / 4) = true from hin) (by omega)
    refine ⟨by omega, by omega, ?_, fun _ => b1, ?_⟩
    · intro hn
      have hne : clr q.1 (t / 4) ≠ 0 := by
        intro z
        rw [z] at hcn
        have : cnF 0 = 0 := by decide
        omega
      have e : cnd n l (p + 1) (clr q.1 (t / 4)) t = nx n l b0 (clr q.1 (t / 4)) t := by
        funext x; unfold cnd; rw [if_neg (by omega)]
      rw [e, ← D_2 hne]
      exact b4
    · rw [if_neg (by omega)]
      unfold cnd at b2
      by_cases z : p = 0
      · rw [if_pos z] at b2 a5 ⊢
        have := (fs_iff.mp b2).2.2
        rw [hS0 z] at this ⊢
        unfold gv at this
        omega
      · rw [if_neg z] at b2 a5 ⊢
        obtain ⟨c1, c2, c3⟩ := nx_iff.mp b2
        rw [Dv_eq] at c2 c3
        by_cases w : gv n l b0 q.1 t = 1000
        · rw [if_pos w] at c2; omega
        · rw [if_neg w] at c3
          unfold gv at c3
          omega
