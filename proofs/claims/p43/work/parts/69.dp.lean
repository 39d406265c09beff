/-! over all rows, by sets: pure -/
/-- the least of f p over the p below n with P p, T without -/
def mns (P : Nat → Bool) (f : Nat → Nat) (T : Nat) : Nat → Nat
  | 0 => T
  | p + 1 => if P p = true then Nat.min (mns P f T p) (f p) else mns P f T p
theorem mns_congr {P Q : Nat → Bool} {f g : Nat → Nat} {T : Nat} : ∀ {n : Nat}, (∀ p, p < n → P p = Q p) → (∀ p, p < n → P p = true → f p = g p) → mns P f T n = mns Q g T n
  | 0, _, _ => rfl
  | n + 1, h1, h2 => by
    show (if P n = true then _ else _) = (if Q n = true then _ else _)
    rw [mns_congr (fun p hp => h1 p (by omega)) (fun p hp => h2 p (by omega)), ← h1 n (by omega)]
    by_cases c : P n = true
    · rw [if_pos c, if_pos c, h2 n (by omega) c]
    · rw [if_neg c, if_neg c]
theorem mns_le {P : Nat → Bool} {f : Nat → Nat} {T : Nat} : ∀ {n : Nat}, mns P f T n ≤ T
  | 0 => Nat.le_refl _
  | n + 1 => by
    have h := mns_le (P := P) (f := f) (T := T) (n := n)
    show (if P n = true then _ else _) ≤ T
    by_cases c : P n = true
    · rw [if_pos c]; exact Nat.le_trans (Nat.min_le_left _ _) h
    · rw [if_neg c]; exact h
theorem mns_lb {P : Nat → Bool} {f : Nat → Nat} {T p : Nat} : ∀ {n : Nat}, p < n → P p = true → mns P f T n ≤ f p
  | 0, h, _ => by omega
  | n + 1, h, hp => by
    show (if P n = true then _ else _) ≤ f p
    by_cases e : p = n
    · subst e
      rw [if_pos hp]
      exact Nat.min_le_right _ _
    · have h1 := mns_lb (P := P) (f := f) (T := T) (p := p) (n := n) (by omega) hp
      by_cases c : P n = true
      · rw [if_pos c]; exact Nat.le_trans (Nat.min_le_left _ _) h1
      · rw [if_neg c]; exact h1
theorem mns_at {P : Nat → Bool} {f : Nat → Nat} {T : Nat} : ∀ {n : Nat}, mns P f T n = T ∨ ∃ p, p < n ∧ P p = true ∧ mns P f T n = f p
  | 0 => Or.inl rfl
  | n + 1 => by
    have h := mns_at (P := P) (f := f) (T := T) (n := n)
    show (if P n = true then Nat.min (mns P f T n) (f n) else mns P f T n) = T ∨ ∃ p, p < n + 1 ∧ P p = true ∧ (if P n = true then Nat.min (mns P f T n) (f n) else mns P f T n) = f p
    by_cases c : P n = true
    · rw [if_pos c]
      rcases Nat.le_total (mns P f T n) (f n) with q | q
      · rw [show Nat.min (mns P f T n) (f n) = mns P f T n from Nat.min_eq_left q]
        rcases h with h | ⟨p, a, b, e⟩
        · exact Or.inl h
        · exact Or.inr ⟨p, by omega, b, e⟩
      · rw [show Nat.min (mns P f T n) (f n) = f n from Nat.min_eq_right q]
        exact Or.inr ⟨n, by omega, c, rfl⟩
    · rw [if_neg c]
      rcases h with h | ⟨p, a, b, e⟩
      · exact Or.inl h
      · exact Or.inr ⟨p, by omega, b, e⟩
/-- the least from S on, k steps, over steps that al lets through -/
def rst (n m T : Nat) (al : Nat → Nat → Bool) (c : Nat → Nat → Nat) : Nat → Nat → Nat
  | 0, _ => 0
  | k + 1, S => mns (fun p => !S.testBit p && al S p) (fun p => jn m (c S p) (rst n m T al c k (S ||| 2 ^ p))) T n
theorem jn_le {m a b x y : Nat} (ha : a ≤ x) (hb : b ≤ y) : jn m a b ≤ x + y := by
  unfold jn
  split
  · exact Nat.max_le.mpr ⟨by omega, by omega⟩
  · omega
theorem jn_T {m a T : Nat} (ha : a ≤ T) : T ≤ jn m a T := by
  unfold jn
  split
  · exact Nat.le_max_right _ _
  · omega
theorem mns_TU {P : Nat → Bool} {f g : Nat → Nat} {T U B : Nat} (h : ∀ p, P p = true → (f p = g p ∧ f p ≤ B) ∨ (T ≤ f p ∧ U ≤ g p)) (hT : B < T) (hU : B < U) : ∀ n, (mns P f T n = mns P g U n ∧ mns P f T n ≤ B) ∨ (mns P f T n = T ∧ mns P g U n = U)
  | 0 => Or.inr ⟨rfl, rfl⟩
  | n + 1 => by
    have ih := mns_TU h hT hU n
    have e1 : mns P f T (n + 1) = if P n = true then Nat.min (mns P f T n) (f n) else mns P f T n := rfl
    have e2 : mns P g U (n + 1) = if P n = true then Nat.min (mns P g U n) (g n) else mns P g U n := rfl
    rw [e1, e2]
    by_cases q : P n = true
    · rw [if_pos q, if_pos q]
      rcases h n q with ⟨f1, f2⟩ | ⟨f1, f2⟩
      · rcases ih with ⟨g1, g2⟩ | ⟨g1, g2⟩
        · rw [← g1, ← f1]
          exact Or.inl ⟨rfl, Nat.le_trans (Nat.min_le_left _ _) g2⟩
        · rw [g1, g2, ← f1]
          refine Or.inl ⟨?_, Nat.le_trans (Nat.min_le_right _ _) f2⟩
          rw [show Nat.min T (f n) = f n from Nat.min_eq_right (by omega), show Nat.min U (f n) = f n from Nat.min_eq_right (by omega)]
      · rcases ih with ⟨g1, g2⟩ | ⟨g1, g2⟩
        · rw [← g1]
          refine Or.inl ⟨?_, Nat.le_trans (Nat.min_le_left _ _) g2⟩
          rw [show Nat.min (mns P f T n) (f n) = mns P f T n from Nat.min_eq_left (by omega), show Nat.min (mns P f T n) (g n) = mns P f T n from Nat.min_eq_left (by omega)]
        · rw [g1, g2]
          exact Or.inr ⟨Nat.min_eq_left f1, Nat.min_eq_left f2⟩
    · rw [if_neg q, if_neg q]
      exact ih
/-- with another top the same, but for the top -/
theorem rst_T {n m T U : Nat} {al : Nat → Nat → Bool} {c : Nat → Nat → Nat} (hc : ∀ S p, c S p ≤ 729) (hT : 7000 < T) (hU : 7000 < U) : ∀ {k S : Nat}, k ≤ 9 → (rst n m T al c k S = rst n m U al c k S ∧ rst n m T al c k S ≤ 729 * k) ∨ (rst n m T al c k S = T ∧ rst n m U al c k S = U)
  | 0, S, _ => Or.inl ⟨rfl, Nat.zero_le _⟩
  | k + 1, S, hk => by
    refine mns_TU (B := 729 * (k + 1)) (fun p _ => ?_) (by omega) (by omega) n
    have hcp := hc S p
    rcases rst_T (n := n) (m := m) (al := al) hc hT hU (k := k) (S := S ||| 2 ^ p) (by omega) with ⟨e1, e2⟩ | ⟨e1, e2⟩
    · refine Or.inl ⟨by rw [e1], ?_⟩
      have := jn_le (m := m) hcp e2
      omega
    · refine Or.inr ⟨?_, ?_⟩
      · rw [e1]; exact jn_T (by omega)
      · rw [e2]; exact jn_T (by omega)
/-- how many rows go on from S, k steps, over steps that ok lets through -/
def crw (n : Nat) (ok : Nat → Nat → Bool) : Nat → Nat → Nat
  | 0, _ => 1
  | k + 1, S => sm n (fun p => if (!S.testBit p && ok S p) = true then crw n ok k (S ||| 2 ^ p) else 0)
theorem crw_le {n : Nat} {ok : Nat → Nat → Bool} (hn : n < 10) : ∀ {k S : Nat}, crw n ok k S ≤ 9 ^ k
  | 0, S => Nat.le_refl _
  | k + 1, S => by
    have h := sm_le (f := fun p => if (!S.testBit p && ok S p) = true then crw n ok k (S ||| 2 ^ p) else 0) (b := 9 ^ k) (n := n) (fun p _ => by
      show (if (!S.testBit p && ok S p) = true then _ else 0) ≤ 9 ^ k
      split
      · exact crw_le hn
      · exact Nat.zero_le _)
    have h2 : n * 9 ^ k ≤ 9 * 9 ^ k := Nat.mul_le_mul_right _ (by omega)
    have h3 : 9 ^ (k + 1) = 9 ^ k * 9 := Nat.pow_succ 9 k
    show sm n _ ≤ 9 ^ (k + 1)
    omega
theorem crw_b {n : Nat} {ok : Nat → Nat → Bool} (hn : n < 10) {k S : Nat} (hk : k ≤ 9) : crw n ok k S < 400000000 := by
  have h1 := crw_le (ok := ok) hn (k := k) (S := S)
  have h2 : 9 ^ k ≤ 9 ^ 9 := Nat.pow_le_pow_right (by decide) hk
  have h3 : 9 ^ 9 = 387420489 := by decide
  omega
/-- the row of k-th least numbers: pure facts of sets -/
theorem set_up {S p n : Nat} (hS : S < 2 ^ n) (hp : p < n) (hb : S.testBit p = false) : S < S ||| 2 ^ p ∧ S ||| 2 ^ p < 2 ^ n ∧ cnt (S ||| 2 ^ p) n = cnt S n + 1 := by
  have h1 : S ||| 2 ^ p < 2 ^ n := Nat.or_lt_two_pow hS (Nat.pow_lt_pow_right (by decide) hp)
  have h2 := cnt_or hb (n := n)
  rw [if_pos hp] at h2
  refine ⟨?_, h1, h2⟩
  have h3 : S ≤ S ||| 2 ^ p := Nat.left_le_or
  have h4 : S ≠ S ||| 2 ^ p := by
    intro e
    have : (S ||| 2 ^ p).testBit p = true := by rw [Nat.testBit_or, pow_bit]; simp
    rw [← e, hb] at this
    cases this
  omega
theorem cnt_ltf {S n : Nat} (hS : S < 2 ^ n - 1) : cnt S n < n := by
  have h1 := cnt_le (S := S) (n := n)
  have h2 : cnt S n ≠ n := by
    intro e
    have := (full_cnt (S := S) (N := n) (by omega)).mp e
    omega
  omega
theorem cnt_fl {n : Nat} : cnt (2 ^ n - 1) n = n := cnt_all (fun p hp => by rw [Nat.testBit_two_pow_sub_one]; simp [hp])
theorem no_bit {S n : Nat} (h : cnt S n < n) : ∃ p, p < n ∧ S.testBit p = false := by
  refine Classical.byContradiction (fun q => ?_)
  have : cnt S n = n := cnt_all (fun p hp => bT (fun e => q ⟨p, hp, e⟩))
  omega
