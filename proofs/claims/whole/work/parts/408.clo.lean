/-! tied nets: closures -/
section
variable (a b : Nat → Nat) (n : Nat)
def enb (f : Nat) : Nat := 2 ^ a f ||| 2 ^ b f
def pas (X : Nat) : Nat → Nat
  | 0 => X
  | f + 1 => if enb a b f &&& pas X f = 0 then pas X f else pas X f ||| enb a b f
def itp (X : Nat) : Nat → Nat
  | 0 => X
  | k + 1 => pas a b (itp X k) n
def Tn (v : Nat) : Nat := itp a b n (2 ^ v) n
def Clo (X : Nat) : Prop := ∀ f, f < n → X.testBit (a f) = X.testBit (b f)
def odd (N : Nat) : Nat := match N with
  | 0 => 0
  | f + 1 => (odd f ^^^ 2 ^ a f) ^^^ 2 ^ b f
def tms (v N : Nat) : Nat := match N with
  | 0 => 0
  | f + 1 => tms v f + ((if a f = v then 1 else 0) + (if b f = v then 1 else 0))
end
section
variable {a b : Nat → Nat} {n : Nat}
theorem pas_s (X f : Nat) : pas a b X (f + 1) = if enb a b f &&& pas a b X f = 0 then pas a b X f else pas a b X f ||| enb a b f := rfl
theorem itp_s (X k : Nat) : itp a b n X (k + 1) = pas a b (itp a b n X k) n := rfl
theorem enb_bit (f i : Nat) : (enb a b f).testBit i = (decide (a f = i) || decide (b f = i)) := by
  unfold enb
  rw [Nat.testBit_or, Nat.testBit_two_pow, Nat.testBit_two_pow]
theorem enb_0 {f X : Nat} : enb a b f &&& X = 0 ↔ X.testBit (a f) = false ∧ X.testBit (b f) = false := by
  constructor
  · intro h
    have h1 : ∀ i, (enb a b f &&& X).testBit i = false := fun i => by rw [h]; exact Nat.zero_testBit i
    constructor
    · have := h1 (a f)
      rw [Nat.testBit_and, enb_bit] at this
      simpa using this
    · have := h1 (b f)
      rw [Nat.testBit_and, enb_bit] at this
      simpa using this
  · intro ⟨h1, h2⟩
    apply Nat.eq_of_testBit_eq
    intro i
    rw [Nat.testBit_and, enb_bit, Nat.zero_testBit]
    by_cases e1 : a f = i
    · rw [← e1, h1, Bool.and_false]
    · by_cases e2 : b f = i
      · rw [← e2, h2, Bool.and_false]
      · simp [e1, e2]
theorem pas_ge {X i : Nat} (h : X.testBit i = true) : ∀ f, (pas a b X f).testBit i = true
  | 0 => h
  | f + 1 => by
    have ih := pas_ge h f
    rw [pas_s]
    split
    · exact ih
    · rw [Nat.testBit_or, ih, Bool.true_or]
theorem pas_mo {X i f : Nat} (h : (pas a b X f).testBit i = true) : ∀ d, (pas a b X (f + d)).testBit i = true
  | 0 => h
  | d + 1 => by
    have ih := pas_mo h d
    rw [← Nat.add_assoc, pas_s]
    split
    · exact ih
    · rw [Nat.testBit_or, ih, Bool.true_or]
theorem pas_min {C X : Nat} (hC : Clo a b n C) (hX : ∀ i, X.testBit i = true → C.testBit i = true) : ∀ f, f ≤ n → ∀ i, (pas a b X f).testBit i = true → C.testBit i = true
  | 0, _ => hX
  | f + 1, hf => by
    have ih := pas_min hC hX f (by omega)
    intro i
    rw [pas_s]
    by_cases g : enb a b f &&& pas a b X f = 0
    · rw [if_pos g]; exact ih i
    · rw [if_neg g, Nat.testBit_or, Bool.or_eq_true, enb_bit]
      intro h
      rcases h with h | h
      · exact ih i h
      · have hc := hC f (by omega)
        have h1 : C.testBit (a f) = true := by
          cases ya : (pas a b X f).testBit (a f)
          · cases yb : (pas a b X f).testBit (b f)
            · exact absurd (enb_0.mpr ⟨ya, yb⟩) g
            · rw [hc]; exact ih _ yb
          · exact ih _ ya
        rw [Bool.or_eq_true, decide_eq_true_iff, decide_eq_true_iff] at h
        rcases h with h | h
        · rw [← h]; exact h1
        · rw [← h, ← hc]; exact h1
theorem clo_fix {X : Nat} (hC : Clo a b n X) : pas a b X n = X := by
  apply Nat.eq_of_testBit_eq
  intro i
  cases y : X.testBit i
  · cases z : (pas a b X n).testBit i
    · rfl
    · have := pas_min hC (fun _ h => h) n (Nat.le_refl _) i z
      rw [y] at this
      cases this
  · exact pas_ge y n
theorem sm_lt {P Q : Nat → Bool} : ∀ {N t : Nat}, (∀ t, t < N → P t = true → Q t = true) → t < N → P t = false → Q t = true → sm P (fun _ => 1) N + 1 ≤ sm Q (fun _ => 1) N
  | 0, t, _, h, _, _ => absurd h (by omega)
  | N + 1, t, hs, ht, hp, hq => by
    rw [sm_s, sm_s]
    by_cases e : t = N
    · subst e
      have := sm_le (P := P) (Q := Q) (v := fun _ => 1) (u := fun _ => 1) (N := t) (fun k hk hp => ⟨hs k (by omega) hp, Nat.le_refl _⟩)
      rw [hp, hq]
      simp only [Bool.false_eq_true, if_false, if_true]
      omega
    · have ih := sm_lt (N := N) (t := t) (fun k hk => hs k (by omega)) (by omega) hp hq
      cases y : P N
      · simp only [Bool.false_eq_true, if_false]
        omega
      · rw [hs N (by omega) y]
        simp only [if_true]
        omega
def tds (a b : Nat → Nat) (n X : Nat) : Nat := sm (fun f => X.testBit (a f) && X.testBit (b f)) (fun _ => 1) n
theorem tds_up {X : Nat} (h : ¬ Clo a b n X) : tds a b n X + 1 ≤ tds a b n (pas a b X n) := by
  have hex : ∃ f, f < n ∧ X.testBit (a f) ≠ X.testBit (b f) := by
    by_cases g : ∃ f, f < n ∧ X.testBit (a f) ≠ X.testBit (b f)
    · exact g
    · exact absurd (fun f hf => by
        by_cases e : X.testBit (a f) = X.testBit (b f)
        · exact e
        · exact absurd ⟨f, hf, e⟩ g) h
  obtain ⟨f, hf, hne⟩ := hex
  have hone : enb a b f &&& pas a b X f ≠ 0 := by
    intro w
    obtain ⟨w1, w2⟩ := enb_0.mp w
    cases ya : X.testBit (a f)
    · cases yb : X.testBit (b f)
      · rw [ya, yb] at hne; exact hne rfl
      · rw [pas_ge yb f] at w2; cases w2
    · rw [pas_ge ya f] at w1; cases w1
  have hb : ∀ i, (a f = i ∨ b f = i) → (pas a b X n).testBit i = true := by
    intro i hi
    have h1 : (pas a b X (f + 1)).testBit i = true := by
      rw [pas_s, if_neg hone, Nat.testBit_or, enb_bit]
      rcases hi with hi | hi <;> simp [hi]
    have := pas_mo h1 (n - (f + 1))
    rw [show f + 1 + (n - (f + 1)) = n by omega] at this
    exact this
  refine sm_lt (t := f) ?_ hf ?_ ?_
  · intro t ht hp
    rw [Bool.and_eq_true] at hp ⊢
    exact ⟨pas_ge hp.1 n, pas_ge hp.2 n⟩
  · cases ya : X.testBit (a f)
    · rfl
    · cases yb : X.testBit (b f)
      · rfl
      · rw [ya, yb] at hne; exact absurd rfl hne
  · rw [hb _ (Or.inl rfl), hb _ (Or.inr rfl)]; rfl
theorem itp_ok (X : Nat) : ∀ k, Clo a b n (itp a b n X k) ∨ k ≤ tds a b n (itp a b n X k)
  | 0 => Or.inr (Nat.zero_le _)
  | k + 1 => by
    rw [itp_s]
    by_cases g : Clo a b n (itp a b n X k)
    · left; rw [clo_fix g]; exact g
    · right
      have := tds_up g
      rcases itp_ok X k with h | h
      · exact absurd h g
      · omega
theorem sm_full {P : Nat → Bool} : ∀ {N : Nat}, N ≤ sm P (fun _ => 1) N → ∀ t, t < N → P t = true
  | 0, _, t, h => absurd h (by omega)
  | N + 1, h, t, ht => by
    rw [sm_s] at h
    have h1 := sm1_le P N
    cases y : P N
    · rw [y] at h
      simp only [Bool.false_eq_true, if_false] at h
      omega
    · rw [y] at h
      simp only [if_true] at h
      by_cases e : t = N
      · subst e; exact y
      · exact sm_full (N := N) (by omega) t (by omega)
theorem itp_clo (X : Nat) : Clo a b n (itp a b n X n) := by
  rcases itp_ok (a := a) (b := b) (n := n) X n with h | h
  · exact h
  · intro f hf
    have := sm_full h f hf
    rw [Bool.and_eq_true] at this
    rw [this.1, this.2]
theorem itp_stab {X k : Nat} (h : Clo a b n (itp a b n X k)) : ∀ d, itp a b n X (k + d) = itp a b n X k
  | 0 => rfl
  | d + 1 => by
    rw [← Nat.add_assoc, itp_s, itp_stab h d, clo_fix h]
theorem fix_clo {X : Nat} (h : pas a b X n = X) : Clo a b n X := by
  by_cases g : Clo a b n X
  · exact g
  · have := tds_up g
    rw [h] at this
    omega
theorem itp_ge {X i : Nat} (h : X.testBit i = true) : ∀ k, (itp a b n X k).testBit i = true
  | 0 => h
  | k + 1 => by rw [itp_s]; exact pas_ge (itp_ge h k) n
theorem itp_min {C X : Nat} (hC : Clo a b n C) (hX : ∀ i, X.testBit i = true → C.testBit i = true) : ∀ k i, (itp a b n X k).testBit i = true → C.testBit i = true
  | 0 => hX
  | k + 1 => by rw [itp_s]; exact pas_min hC (itp_min hC hX k) n (Nat.le_refl _)
theorem Tn_in (v : Nat) : (Tn a b n v).testBit v = true := itp_ge (by rw [Nat.testBit_two_pow]; exact decide_eq_true rfl) n
theorem Tn_clo (v : Nat) : Clo a b n (Tn a b n v) := itp_clo _
theorem Tn_min {C v : Nat} (hC : Clo a b n C) (hv : C.testBit v = true) {i : Nat} (hi : (Tn a b n v).testBit i = true) : C.testBit i = true :=
  itp_min hC (fun j hj => by rw [Nat.testBit_two_pow] at hj; rw [← of_decide_eq_true hj]; exact hv) n i hi
theorem pas_lt {X : Nat} (ha : ∀ f, f < n → a f < 12) (hb : ∀ f, f < n → b f < 12) (hX : X < 4096) : ∀ f, f ≤ n → pas a b X f < 4096
  | 0, _ => hX
  | f + 1, hf => by
    have ih := pas_lt ha hb hX f (by omega)
    rw [pas_s]
    split
    · exact ih
    · have h1 := or_4096 ih (ha f (by omega))
      have h2 := or_4096 h1 (hb f (by omega))
      have : pas a b X f ||| enb a b f = pas a b X f ||| 2 ^ a f ||| 2 ^ b f := by unfold enb; rw [Nat.or_assoc]
      rw [this]; exact h2
theorem itp_lt {X : Nat} (ha : ∀ f, f < n → a f < 12) (hb : ∀ f, f < n → b f < 12) (hX : X < 4096) : ∀ k, itp a b n X k < 4096
  | 0 => hX
  | k + 1 => by rw [itp_s]; exact pas_lt ha hb (itp_lt ha hb hX k) n (Nat.le_refl _)
theorem two_4096 {v : Nat} (hv : v < 12) : 2 ^ v < 4096 := Nat.lt_of_lt_of_le (Nat.pow_lt_pow_right (by decide) hv) (by decide : 2 ^ 12 ≤ 4096)
theorem Tn_lt (ha : ∀ f, f < n → a f < 12) (hb : ∀ f, f < n → b f < 12) {v : Nat} (hv : v < 12) : Tn a b n v < 4096 := itp_lt ha hb (two_4096 hv) n
/-- what is outside of a closed set is closed -/
theorem clo_out (ha : ∀ f, f < n → a f < 12) (hb : ∀ f, f < n → b f < 12) {D : Nat} (hD : Clo a b n D) : Clo a b n (mk (fun v => !D.testBit v) 12) := by
  intro f hf
  rw [mk_bit, mk_bit, hD f hf, decide_eq_true (ha f hf), decide_eq_true (hb f hf)]
theorem Tn_dis (ha : ∀ f, f < n → a f < 12) (hb : ∀ f, f < n → b f < 12) {D v : Nat} (hD : Clo a b n D) (hv : v < 12) (hn : D.testBit v = false) {i : Nat} (hi : (Tn a b n v).testBit i = true) : D.testBit i = false := by
  have := Tn_min (clo_out ha hb hD) (by rw [mk_bit, hn, decide_eq_true hv]; rfl) hi
  rw [mk_bit, Bool.and_eq_true] at this
  simpa using this.2
theorem Tn_eq (ha : ∀ f, f < n → a f < 12) (hb : ∀ f, f < n → b f < 12) {v w : Nat} (hv : v < 12) (hw : w < 12) (h : (Tn a b n v).testBit w = true) : Tn a b n w = Tn a b n v := by
  have hvw : (Tn a b n w).testBit v = true := by
    cases y : (Tn a b n w).testBit v
    · have := Tn_dis ha hb (Tn_clo w) hv y h
      rw [Tn_in] at this
      cases this
    · rfl
  apply Nat.eq_of_testBit_eq
  intro i
  cases y : (Tn a b n v).testBit i
  · cases z : (Tn a b n w).testBit i
    · rfl
    · have := Tn_min (Tn_clo v) h z
      rw [y] at this
      cases this
  · exact Tn_min (Tn_clo w) hvw y
theorem clo_or {X Y : Nat} (hX : Clo a b n X) (hY : Clo a b n Y) : Clo a b n (X ||| Y) := by
  intro f hf
  rw [Nat.testBit_or, Nat.testBit_or, hX f hf, hY f hf]
theorem clo_0 : Clo a b n 0 := by
  intro f hf
  rw [Nat.zero_testBit, Nat.zero_testBit]
/-! the sum over what is tied together -/
def vl (O X : Nat) : Nat := max 1 (mbs (O &&& X) / 2)
def lea (a b : Nat → Nat) (n v : Nat) : Bool := alb (fun w => !(Tn a b n v).testBit w) v
def SS (a b : Nat → Nat) (n O D : Nat) : Nat := sm (fun v => D.testBit v && lea a b n v) (fun v => vl O (Tn a b n v)) 12
theorem sm_one {P : Nat → Bool} {w : Nat → Nat} : ∀ {N m : Nat}, m < N → P m = true → (∀ t, t < N → t ≠ m → P t = false) → sm P w N = w m
  | 0, m, h, _, _ => absurd h (by omega)
  | N + 1, m, hm, hp, hz => by
    rw [sm_s]
    by_cases e : m = N
    · subst e
      rw [sm_zero (fun t ht => hz t (by omega) (by omega)), hp]
      simp
    · rw [sm_one (N := N) (m := m) (by omega) hp (fun t ht => hz t (by omega)), hz N (by omega) (by omega)]
      simp
theorem SS_one (ha : ∀ f, f < n → a f < 12) (hb : ∀ f, f < n → b f < 12) {O v : Nat} (hv : v < 12) : sm (fun t => (Tn a b n v).testBit t && lea a b n t) (fun t => vl O (Tn a b n t)) 12 = vl O (Tn a b n v) := by
  obtain ⟨m, -, m2, m3, m4⟩ := low_ex (P := fun t => (Tn a b n v).testBit t) (r := v) (Tn_in v) v 0 (by omega)
  have m3 : (Tn a b n v).testBit m = true := m3
  have em := Tn_eq ha hb hv (by omega) m3
  rw [← em]
  refine sm_one (m := m) (by omega) ?_ ?_
  · show ((Tn a b n m).testBit m && lea a b n m) = true
    rw [Tn_in, Bool.true_and]
    refine alb_iff.mpr (fun w hw => ?_)
    have : (Tn a b n v).testBit w = false := m4 w (by omega) hw
    rw [em, this]; rfl
  · intro t ht hne
    show ((Tn a b n m).testBit t && lea a b n t) = false
    cases y : (Tn a b n m).testBit t
    · rfl
    · have et := Tn_eq ha hb (by omega) ht y
      rw [Bool.true_and]
      by_cases g : t < m
      · have : (Tn a b n v).testBit t = false := m4 t (by omega) g
        rw [em, this] at y
        cases y
      · refine alb_f (k := m) ?_ (by omega)
        rw [et, em, m3]; rfl
theorem SS_add (ha : ∀ f, f < n → a f < 12) (hb : ∀ f, f < n → b f < 12) {O D v : Nat} (hD : Clo a b n D) (hv : v < 12) (hn : D.testBit v = false) : SS a b n O (D ||| Tn a b n v) = SS a b n O D + vl O (Tn a b n v) := by
  unfold SS
  rw [← SS_one ha hb (O := O) hv, sm_split _ (fun t => D.testBit t)]
  congr 1
  · refine sm_congr (fun t ht => ?_) (fun _ _ _ => rfl)
    rw [Nat.testBit_or]
    cases D.testBit t <;> simp
  · refine sm_congr (fun t ht => ?_) (fun _ _ _ => rfl)
    rw [Nat.testBit_or]
    cases y : (Tn a b n v).testBit t
    · cases D.testBit t <;> simp
    · rw [Tn_dis ha hb hD hv hn y]; simp
theorem SS_0 (O : Nat) : SS a b n O 0 = 0 := sm_zero (fun t ht => by rw [Nat.zero_testBit]; rfl)
theorem SS_le (O D : Nat) : SS a b n O D ≤ 12 * 12 := by
  have h1 : ∀ v, vl O (Tn a b n v) ≤ 12 := by
    intro v
    have : mbs (O &&& Tn a b n v) ≤ 12 := sm1_le _ 12
    unfold vl; omega
  have h2 := sm_le (P := fun v => D.testBit v && lea a b n v) (Q := fun v => D.testBit v && lea a b n v) (v := fun v => vl O (Tn a b n v)) (u := fun _ => 12) (N := 12) (fun t _ hp => ⟨hp, h1 t⟩)
  have h3 := sm_const (fun v => D.testBit v && lea a b n v) 12 12
  have h4 := sm1_le (fun v => D.testBit v && lea a b n v) 12
  unfold SS
  omega
theorem tms_s (v f : Nat) : tms a b v (f + 1) = tms a b v f + ((if a f = v then 1 else 0) + (if b f = v then 1 else 0)) := rfl
theorem odd_s (f : Nat) : odd a b (f + 1) = (odd a b f ^^^ 2 ^ a f) ^^^ 2 ^ b f := rfl
theorem odd_bit (v : Nat) : ∀ N, (odd a b N).testBit v = decide (tms a b v N % 2 = 1)
  | 0 => by show (0 : Nat).testBit v = _; rw [Nat.zero_testBit]; rfl
  | N + 1 => by
    rw [odd_s, tms_s, Nat.testBit_xor, Nat.testBit_xor, odd_bit v N, Nat.testBit_two_pow, Nat.testBit_two_pow]
    by_cases e1 : a N = v
    · by_cases e2 : b N = v
      · by_cases e3 : tms a b v N % 2 = 1
        · have : (tms a b v N + (1 + 1)) % 2 = 1 := by omega
          simp [e1, e2, e3, this]
        · have : ¬ (tms a b v N + (1 + 1)) % 2 = 1 := by omega
          simp [e1, e2, e3, this]
      · by_cases e3 : tms a b v N % 2 = 1
        · have : ¬ (tms a b v N + (1 + 0)) % 2 = 1 := by omega
          simp [e1, e2, e3, this]
        · have : (tms a b v N + (1 + 0)) % 2 = 1 := by omega
          simp [e1, e2, e3, this]
    · by_cases e2 : b N = v
      · by_cases e3 : tms a b v N % 2 = 1
        · have : ¬ (tms a b v N + (0 + 1)) % 2 = 1 := by omega
          simp [e1, e2, e3, this]
        · have : (tms a b v N + (0 + 1)) % 2 = 1 := by omega
          simp [e1, e2, e3, this]
      · by_cases e3 : tms a b v N % 2 = 1 <;> simp [e1, e2, e3]
theorem tms_le (v : Nat) : ∀ N, tms a b v N ≤ 2 * N
  | 0 => Nat.le_refl _
  | N + 1 => by
    have := tms_le v N
    rw [tms_s]
    split <;> split <;> omega
theorem tms_in {f : Nat} : ∀ {N : Nat}, f < N → tms a b (a f) N ≠ 0 ∧ tms a b (b f) N ≠ 0
  | 0, h => absurd h (by omega)
  | N + 1, h => by
    rw [tms_s, tms_s]
    by_cases e : f = N
    · subst e
      simp
    · obtain ⟨h1, h2⟩ := tms_in (N := N) (f := f) (by omega)
      exact ⟨by omega, by omega⟩
theorem tms_ex {v : Nat} : ∀ {N : Nat}, tms a b v N ≠ 0 → ∃ f, f < N ∧ (a f = v ∨ b f = v)
  | 0, h => absurd rfl h
  | N + 1, h => by
    by_cases e1 : a N = v
    · exact ⟨N, by omega, Or.inl e1⟩
    · by_cases e2 : b N = v
      · exact ⟨N, by omega, Or.inr e2⟩
      · rw [tms_s, if_neg e1, if_neg e2] at h
        obtain ⟨f, f1, f2⟩ := tms_ex (N := N) (v := v) (by omega)
        exact ⟨f, by omega, f2⟩
/-- the nets that fingers have -/
def Em (a b : Nat → Nat) (n : Nat) : Nat := mk (fun v => decide (tms a b v n ≠ 0)) 12
theorem Em_bit (v : Nat) : (Em a b n).testBit v = (decide (v < 12) && decide (tms a b v n ≠ 0)) := mk_bit _ 12 v
theorem Em_clo (ha : ∀ f, f < n → a f < 12) (hb : ∀ f, f < n → b f < 12) : Clo a b n (Em a b n) := by
  intro f hf
  obtain ⟨h1, h2⟩ := tms_in (a := a) (b := b) hf
  rw [Em_bit, Em_bit, decide_eq_true (ha f hf), decide_eq_true (hb f hf), decide_eq_true h1, decide_eq_true h2]
theorem Em_end (ha : ∀ f, f < n → a f < 12) (hb : ∀ f, f < n → b f < 12) {D : Nat} (hD : Clo a b n D) (hE : ∀ i, D.testBit i = true → (Em a b n).testBit i = true) (hall : ∀ f, f < n → D.testBit (a f) = true) : D = Em a b n := by
  apply Nat.eq_of_testBit_eq
  intro i
  cases y : (Em a b n).testBit i
  · cases z : D.testBit i
    · rfl
    · rw [hE i z] at y; cases y
  · rw [Em_bit, Bool.and_eq_true, decide_eq_true_iff, decide_eq_true_iff] at y
    obtain ⟨f, f1, f2⟩ := tms_ex y.2
    rcases f2 with f2 | f2
    · rw [← f2]; exact hall f f1
    · rw [← f2, ← hD f f1]; exact hall f f1
/-- the bound -/
def Bnd (a b : Nat → Nat) (n : Nat) : Nat := SS a b n (odd a b n) (Em a b n) - 1
theorem SS_pos (ha : ∀ f, f < n → a f < 12) (hb : ∀ f, f < n → b f < 12) (hn : 0 < n) (O : Nat) : 0 < SS a b n O (Em a b n) := by
  have hin : (Em a b n).testBit (a 0) = true := by
    rw [Em_bit, decide_eq_true (ha 0 hn), decide_eq_true (tms_in (a := a) (b := b) hn).1]; rfl
  have h1 : vl O (Tn a b n (a 0)) ≤ SS a b n O (Em a b n) := by
    rw [← SS_one ha hb (O := O) (ha 0 hn)]
    refine sm_le (fun t ht hp => ⟨?_, Nat.le_refl _⟩)
    rw [Bool.and_eq_true] at hp ⊢
    exact ⟨Tn_min (Em_clo ha hb) hin hp.1, hp.2⟩
  have h2 : 1 ≤ vl O (Tn a b n (a 0)) := by unfold vl; omega
  omega
theorem odd_part (O : Nat) (hO : ∀ v, O.testBit v = decide (tms a b v n % 2 = 1)) (X : Nat) : mbs (O &&& X) = sm (fun k => X.testBit k && decide (tms a b k n % 2 = 1)) (fun _ => 1) 12 := by
  unfold mbs
  refine sm_congr (fun t ht => ?_) (fun _ _ _ => rfl)
  rw [Nat.testBit_and, hO t, Bool.and_comm]
end
