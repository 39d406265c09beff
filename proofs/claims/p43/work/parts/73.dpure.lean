/-! the first row with the least: pure -/
abbrev Gr (m : Nat) : Prop := m = 0 ∨ m = 1 ∨ m = 5
theorem jn_g {m a b : Nat} (h : Gr m) : jn m a b = Nat.max a b := if_pos h
theorem jn_s {m a b : Nat} (h : ¬ Gr m) : jn m a b = a + b := if_neg h
theorem okc_g {m L : Nat} {c : Nat → Nat → Nat} {R : Nat → Nat} {S p : Nat} (h : Gr m) : okc m L c R S p = true ↔ c S p ≤ L := by
  unfold okc
  rw [if_pos h]
  exact decide_eq_true_iff
theorem okc_s {m L : Nat} {c : Nat → Nat → Nat} {R : Nat → Nat} {S p : Nat} (h : ¬ Gr m) : okc m L c R S p = true ↔ c S p + R (S ||| 2 ^ p) = R S := by
  unfold okc
  rw [if_neg h]
  exact decide_eq_true_iff
/-- what holds of the least from each set on -/
def RPr (n m : Nat) (c : Nat → Nat → Nat) (R : Nat → Nat) : Prop := (∀ S p, S < 2 ^ n → p < n → S.testBit p = false → R S ≤ jn m (c S p) (R (S ||| 2 ^ p))) ∧ (∀ S, S < 2 ^ n - 1 → ∃ p, p < n ∧ S.testBit p = false ∧ R S = jn m (c S p) (R (S ||| 2 ^ p)))
def CPr (n : Nat) (ok : Nat → Nat → Bool) (C : Nat → Nat) : Prop := C (2 ^ n - 1) = 1 ∧ ∀ S, S < 2 ^ n - 1 → C S = sm n (fun p => if (!S.testBit p && ok S p) = true then C (S ||| 2 ^ p) else 0)
theorem sm_pos {f : Nat → Nat} : ∀ {n : Nat}, 0 < sm n f ↔ ∃ p, p < n ∧ 0 < f p
  | 0 => ⟨fun h => absurd h (Nat.lt_irrefl 0), fun ⟨p, h, _⟩ => by omega⟩
  | n + 1 => by
    have ih := sm_pos (f := f) (n := n)
    show 0 < sm n f + f n ↔ _
    constructor
    · intro h
      by_cases q : 0 < sm n f
      · obtain ⟨p, a, b⟩ := ih.mp q
        exact ⟨p, by omega, b⟩
      · exact ⟨n, by omega, by omega⟩
    · rintro ⟨p, a, b⟩
      by_cases e : p = n
      · subst e; omega
      · have := ih.mpr ⟨p, by omega, b⟩
        omega
theorem C_pos {n m L : Nat} {c : Nat → Nat → Nat} {R C : Nat → Nat} (hR : RPr n m c R) (hRf : R (2 ^ n - 1) = 0) (hC : CPr n (okc m L c R) C) : ∀ {k S : Nat}, S < 2 ^ n → n - cnt S n = k → ((Gr m → (0 < C S ↔ R S ≤ L)) ∧ (¬ Gr m → 0 < C S))
  | k, S, hS, hk => by
    by_cases e : S = 2 ^ n - 1
    · subst e
      rw [hC.1, hRf]
      exact ⟨fun _ => ⟨fun _ => Nat.zero_le _, fun _ => by omega⟩, fun _ => by omega⟩
    have hlt : S < 2 ^ n - 1 := by omega
    rw [hC.2 S hlt, sm_pos]
    have hcl := cnt_ltf hlt
    cases k with
    | zero => omega
    | succ k =>
      have ih : ∀ p, p < n → S.testBit p = false → _ := fun p hp hb => C_pos hR hRf hC (k := k) (S := S ||| 2 ^ p) (set_up hS hp hb).2.1 (by have := (set_up hS hp hb).2.2; omega)
      refine ⟨fun hg => ⟨?_, ?_⟩, fun hs => ?_⟩
      · rintro ⟨p, hp, h⟩
        by_cases q : (!S.testBit p && okc m L c R S p) = true
        · rw [if_pos q] at h
          simp only [Bool.and_eq_true, Bool.not_eq_true'] at q
          have h1 := ((ih p hp q.1).1 hg).mp h
          have h2 := (okc_g hg).mp q.2
          have h3 := hR.1 S p hS hp q.1
          rw [jn_g hg] at h3
          exact Nat.le_trans h3 (Nat.max_le.mpr ⟨h2, h1⟩)
        · rw [if_neg q] at h
          omega
      · intro h
        obtain ⟨p, hp, hb, e2⟩ := hR.2 S hlt
        rw [jn_g hg] at e2
        have m1 : c S p ≤ Nat.max (c S p) (R (S ||| 2 ^ p)) := Nat.le_max_left _ _
        have m2 : R (S ||| 2 ^ p) ≤ Nat.max (c S p) (R (S ||| 2 ^ p)) := Nat.le_max_right _ _
        have h1 : okc m L c R S p = true := (okc_g hg).mpr (by omega)
        refine ⟨p, hp, ?_⟩
        rw [if_pos (by simp [hb, h1])]
        exact ((ih p hp hb).1 hg).mpr (by omega)
      · obtain ⟨p, hp, hb, e2⟩ := hR.2 S hlt
        rw [jn_s hs] at e2
        have h1 : okc m L c R S p = true := (okc_s hs).mpr e2.symm
        refine ⟨p, hp, ?_⟩
        rw [if_pos (by simp [hb, h1])]
        exact (ih p hp hb).2 hs
termination_by k _ _ _ => k
/-- so far the least is kept -/
def KPI (m L : Nat) (R : Nat → Nat) (S had : Nat) : Prop := (Gr m → had ≤ L ∧ R S ≤ L ∧ L ≤ Nat.max had (R S)) ∧ (¬ Gr m → had + R S = L)
theorem ldr_b {n : Nat} {ok : Nat → Nat → Bool} {C : Nat → Nat} {S p : Nat} (hp : p < n) : (ldr n ok C S).testBit p = true ↔ S.testBit p = false ∧ 0 < C (S ||| 2 ^ p) ∧ ok S p = true := by
  unfold ldr
  rw [mkm_bit]
  simp only [hp, decide_true, Bool.true_and, Bool.and_eq_true, Bool.not_eq_true', decide_eq_true_eq]
theorem ld_iff {n m L S p had : Nat} {c : Nat → Nat → Nat} {R C : Nat → Nat} (hR : RPr n m c R) (hRf : R (2 ^ n - 1) = 0) (hC : CPr n (okc m L c R) C) (hS : S < 2 ^ n) (hp : p < n) (hI : KPI m L R S had) : (ldr n (okc m L c R) C S).testBit p = true ↔ S.testBit p = false ∧ jn m had (jn m (c S p) (R (S ||| 2 ^ p))) = L := by
  rw [ldr_b hp]
  by_cases hb : S.testBit p = false
  · have hup := set_up hS hp hb
    have hpos := C_pos hR hRf hC hup.2.1 rfl
    by_cases hg : Gr m
    · obtain ⟨i1, i2, i3⟩ := hI.1 hg
      rw [(hpos.1 hg), okc_g hg, jn_g hg, jn_g hg]
      have h3 := hR.1 S p hS hp hb
      rw [jn_g hg] at h3
      have m1 : c S p ≤ Nat.max (c S p) (R (S ||| 2 ^ p)) := Nat.le_max_left _ _
      have m2 : R (S ||| 2 ^ p) ≤ Nat.max (c S p) (R (S ||| 2 ^ p)) := Nat.le_max_right _ _
      have m3 : had ≤ Nat.max had (Nat.max (c S p) (R (S ||| 2 ^ p))) := Nat.le_max_left _ _
      have m4 : Nat.max (c S p) (R (S ||| 2 ^ p)) ≤ Nat.max had (Nat.max (c S p) (R (S ||| 2 ^ p))) := Nat.le_max_right _ _
      constructor
      · rintro ⟨-, h1, h2⟩
        refine ⟨hb, Nat.le_antisymm (Nat.max_le.mpr ⟨i1, Nat.max_le.mpr ⟨h2, h1⟩⟩) ?_⟩
        exact Nat.le_trans i3 (Nat.max_le.mpr ⟨m3, Nat.le_trans h3 m4⟩)
      · rintro ⟨-, h1⟩
        exact ⟨hb, by omega, by omega⟩
    · have i1 := hI.2 hg
      rw [okc_s hg, jn_s hg, jn_s hg]
      have h4 := hpos.2 hg
      constructor
      · rintro ⟨-, -, h2⟩
        exact ⟨hb, by omega⟩
      · rintro ⟨-, h1⟩
        exact ⟨hb, h4, by omega⟩
  · exact ⟨fun h => absurd h.1 hb, fun h => absurd h.1 hb⟩
theorem kp_ex {n m L S had : Nat} {c : Nat → Nat → Nat} {R : Nat → Nat} (hR : RPr n m c R) (hS : S < 2 ^ n - 1) (hI : KPI m L R S had) : ∃ p, p < n ∧ S.testBit p = false ∧ jn m had (jn m (c S p) (R (S ||| 2 ^ p))) = L := by
  obtain ⟨p, hp, hb, e⟩ := hR.2 S hS
  refine ⟨p, hp, hb, ?_⟩
  rw [← e]
  by_cases hg : Gr m
  · obtain ⟨i1, i2, i3⟩ := hI.1 hg
    rw [jn_g hg]
    exact Nat.le_antisymm (Nat.max_le.mpr ⟨i1, i2⟩) i3
  · rw [jn_s hg]
    exact hI.2 hg
theorem kp_on {m L S p had : Nat} {c : Nat → Nat → Nat} {R : Nat → Nat} (h : jn m had (jn m (c S p) (R (S ||| 2 ^ p))) = L) : KPI m L R (S ||| 2 ^ p) (jn m had (c S p)) := by
  refine ⟨fun hg => ?_, fun hg => ?_⟩
  · rw [jn_g hg, jn_g hg] at h
    rw [jn_g hg]
    have m1 : c S p ≤ Nat.max (c S p) (R (S ||| 2 ^ p)) := Nat.le_max_left _ _
    have m2 : R (S ||| 2 ^ p) ≤ Nat.max (c S p) (R (S ||| 2 ^ p)) := Nat.le_max_right _ _
    have m3 : had ≤ Nat.max had (Nat.max (c S p) (R (S ||| 2 ^ p))) := Nat.le_max_left _ _
    have m4 : Nat.max (c S p) (R (S ||| 2 ^ p)) ≤ Nat.max had (Nat.max (c S p) (R (S ||| 2 ^ p))) := Nat.le_max_right _ _
    have n1 : had ≤ Nat.max had (c S p) := Nat.le_max_left _ _
    have n2 : c S p ≤ Nat.max had (c S p) := Nat.le_max_right _ _
    have n3 : Nat.max had (c S p) ≤ Nat.max (Nat.max had (c S p)) (R (S ||| 2 ^ p)) := Nat.le_max_left _ _
    have n4 : R (S ||| 2 ^ p) ≤ Nat.max (Nat.max had (c S p)) (R (S ||| 2 ^ p)) := Nat.le_max_right _ _
    refine ⟨Nat.max_le.mpr ⟨by omega, by omega⟩, by omega, ?_⟩
    rw [← h]
    exact Nat.max_le.mpr ⟨by omega, Nat.max_le.mpr ⟨by omega, by omega⟩⟩
  · rw [jn_s hg, jn_s hg] at h
    rw [jn_s hg]
    omega
/-- the lowest of a set -/
noncomputable def lwb (S : Nat) : Nat := @dite Nat (∃ p, p < 9 ∧ S.testBit p = true ∧ ∀ q, q < p → S.testBit q = false) (Classical.propDecidable _) (fun h => Classical.choose h) (fun _ => 0)
theorem lwb_in {S : Nat} (hS : S < 512) (h0 : S ≠ 0) : lwb S < 9 ∧ S.testBit (lwb S) = true ∧ ∀ q, q < lwb S → S.testBit q = false := by
  have h := has_low hS h0
  unfold lwb
  rw [dif_pos h]
  exact Classical.choose_spec h
noncomputable def bmk (ld : Nat → Nat) : Nat → Nat
  | 0 => 0
  | i + 1 => bmk ld i ||| 2 ^ lwb (ld (bmk ld i))
/-- the row that takes the first of those who may come next -/
noncomputable def brw (ld : Nat → Nat) (i : Nat) : Nat := lwb (ld (bmk ld i))
theorem amk_brw {ld : Nat → Nat} : ∀ i, amk (brw ld) i = bmk ld i
  | 0 => rfl
  | i + 1 => by
    show amk (brw ld) i ||| 2 ^ brw ld i = bmk ld i ||| 2 ^ lwb (ld (bmk ld i))
    rw [amk_brw i]
    rfl
/-- the row keeps the least at each step -/
def KRW (n m L : Nat) (c : Nat → Nat → Nat) (R : Nat → Nat) (o : Nat → Nat) (hd : Nat → Nat) : Prop := hd 0 = 0 ∧ ∀ i, i < n → o i < n ∧ (amk o i).testBit (o i) = false ∧ jn m (hd i) (jn m (c (amk o i) (o i)) (R (amk o i ||| 2 ^ o i))) = L ∧ (∀ q, q < o i → ¬ ((amk o i).testBit q = false ∧ jn m (hd i) (jn m (c (amk o i) q) (R (amk o i ||| 2 ^ q))) = L)) ∧ hd (i + 1) = jn m (hd i) (c (amk o i) (o i))
noncomputable def hdf (m : Nat) (c : Nat → Nat → Nat) (o : Nat → Nat) : Nat → Nat
  | 0 => 0
  | i + 1 => jn m (hdf m c o i) (c (amk o i) (o i))
theorem brw_ok {n m : Nat} {c : Nat → Nat → Nat} {R C : Nat → Nat} (hn : n < 10) (hR : RPr n m c R) (hRf : R (2 ^ n - 1) = 0) (hC : CPr n (okc m (R 0) c R) C) : BRW n (ldr n (okc m (R 0) c R) C) (brw (ldr n (okc m (R 0) c R) C)) ∧ KRW n m (R 0) c R (brw (ldr n (okc m (R 0) c R) C)) (hdf m c (brw (ldr n (okc m (R 0) c R) C))) := by
  generalize hld : ldr n (okc m (R 0) c R) C = ld
  have hp2 := Nat.two_pow_pos n
  have key : ∀ i, i ≤ n → amk (brw ld) i < 2 ^ n ∧ cnt (amk (brw ld) i) n = i ∧ KPI m (R 0) R (amk (brw ld) i) (hdf m c (brw ld) i) ∧ ∀ j, j < i → (brw ld j < n ∧ (amk (brw ld) j).testBit (brw ld j) = false ∧ (ld (amk (brw ld) j)).testBit (brw ld j) = true ∧ ∀ q, q < brw ld j → (ld (amk (brw ld) j)).testBit q = false) ∧ jn m (hdf m c (brw ld) j) (jn m (c (amk (brw ld) j) (brw ld j)) (R (amk (brw ld) j ||| 2 ^ brw ld j))) = R 0 ∧ (∀ q, q < brw ld j → ¬ ((amk (brw ld) j).testBit q = false ∧ jn m (hdf m c (brw ld) j) (jn m (c (amk (brw ld) j) q) (R (amk (brw ld) j ||| 2 ^ q))) = R 0)) := by
    intro i
    induction i with
    | zero =>
      intro _
      refine ⟨hp2, cnt_0 n, ⟨fun _ => ⟨Nat.zero_le _, Nat.le_refl _, Nat.le_max_right _ _⟩, fun _ => Nat.zero_add _⟩, fun j hj => by omega⟩
    | succ i ih =>
      intro hi
      obtain ⟨h1, h2, h3, h4⟩ := ih (by omega)
      have hlt : amk (brw ld) i < 2 ^ n - 1 := by
        refine Decidable.byContradiction (fun q => ?_)
        have : amk (brw ld) i = 2 ^ n - 1 := by omega
        rw [this, cnt_fl] at h2
        omega
      have ldi : ∀ p, p < n → ((ld (amk (brw ld) i)).testBit p = true ↔ (amk (brw ld) i).testBit p = false ∧ jn m (hdf m c (brw ld) i) (jn m (c (amk (brw ld) i) p) (R (amk (brw ld) i ||| 2 ^ p))) = R 0) := fun p hp => by
        rw [← hld]
        exact ld_iff hR hRf hC (by rw [hld]; exact h1) hp (by rw [hld]; exact h3)
      obtain ⟨p0, hp0, hb0, e0⟩ := kp_ex hR hlt h3
      have hld9 : ld (amk (brw ld) i) < 512 := by rw [← hld]; exact ldr_lt hn
      have hne : ld (amk (brw ld) i) ≠ 0 := fun e => by
        have := (ldi p0 hp0).mpr ⟨hb0, e0⟩
        rw [e, Nat.zero_testBit] at this
        cases this
      obtain ⟨l1, l2, l3⟩ := lwb_in hld9 hne
      have eb : brw ld i = lwb (ld (amk (brw ld) i)) := by rw [amk_brw]; rfl
      rw [← eb] at l1 l2 l3
      have ln : brw ld i < n := by
        refine Decidable.byContradiction (fun q => ?_)
        have : ld (amk (brw ld) i) < 2 ^ n := by rw [← hld]; exact mkm_lt
        rw [lt_pow_bit this (by omega)] at l2
        cases l2
      obtain ⟨k1, k2⟩ := (ldi _ ln).mp l2
      have hup := set_up h1 ln k1
      refine ⟨hup.2.1, by rw [show amk (brw ld) (i + 1) = amk (brw ld) i ||| 2 ^ brw ld i from rfl, hup.2.2, h2], kp_on k2, fun j hj => ?_⟩
      by_cases e : j = i
      · subst e
        refine ⟨⟨ln, k1, l2, l3⟩, k2, fun q hq hh => ?_⟩
        have := (ldi q (by omega)).mpr hh
        rw [l3 q hq] at this
        cases this
      · exact h4 j (by omega)
  have kn := (key n (Nat.le_refl _)).2.2.2
  exact ⟨fun i hi => (kn i hi).1, rfl, fun i hi => ⟨(kn i hi).1.1, (kn i hi).1.2.1, (kn i hi).2.1, (kn i hi).2.2, rfl⟩⟩
/-- rst and crw are such -/
theorem rst_pr {n m T : Nat} {c : Nat → Nat → Nat} (hn : n < 10) (hc : ∀ S p, c S p ≤ 729) (hT : 7000 < T) {R : Nat → Nat} (hR : ∀ S, R S = rst n m T (fun _ _ => true) c (n - cnt S n) S) : RPr n m c R ∧ R (2 ^ n - 1) = 0 ∧ ∀ S, S < 2 ^ n → R S ≤ 6561 := by
  have e1 : ∀ S, S < 2 ^ n - 1 → R S = mns (fun p => !S.testBit p && true) (fun p => jn m (c S p) (R (S ||| 2 ^ p))) T n := by
    intro S hS
    have hk1 := cnt_ltf hS
    obtain ⟨kk, hkk⟩ : ∃ kk, n - cnt S n = kk + 1 := ⟨n - cnt S n - 1, by omega⟩
    rw [hR S, hkk]
    refine mns_congr (fun _ _ => rfl) (fun p hp hq => ?_)
    have hb : S.testBit p = false := by
      simp only [Bool.and_eq_true, Bool.not_eq_true'] at hq
      exact hq.1
    have := (set_up (n := n) (by omega) hp hb).2.2
    rw [hR (S ||| 2 ^ p), show n - cnt (S ||| 2 ^ p) n = kk by omega]
  have e0 : R (2 ^ n - 1) = 0 := by rw [hR, cnt_fl, Nat.sub_self]; rfl
  have fin : ∀ k S, S < 2 ^ n → n - cnt S n = k → R S ≤ 729 * k := by
    intro k
    induction k with
    | zero =>
      intro S hS hk
      have h1 := cnt_le (S := S) (n := n)
      have : S = 2 ^ n - 1 := (full_cnt hS).mp (by omega)
      rw [this, e0]
      exact Nat.zero_le _
    | succ k ih =>
      intro S hS hk
      have hS2 : S < 2 ^ n - 1 := by
        refine Decidable.byContradiction (fun q => ?_)
        have : S = 2 ^ n - 1 := by omega
        rw [this, cnt_fl] at hk
        omega
      obtain ⟨p, hp, hb⟩ := no_bit (S := S) (n := n) (by omega)
      have hup := set_up hS hp hb
      have h1 := ih (S ||| 2 ^ p) hup.2.1 (by omega)
      have h2 := mns_lb (P := fun p => !S.testBit p && true) (f := fun p => jn m (c S p) (R (S ||| 2 ^ p))) (T := T) (n := n) hp (by simp [hb])
      rw [e1 S hS2]
      have h3 := jn_le (m := m) (hc S p) h1
      have h2 : mns _ _ T n ≤ jn m (c S p) (R (S ||| 2 ^ p)) := h2
      omega
  have fin2 : ∀ S, S < 2 ^ n → R S ≤ 6561 := fun S hS => by
    have := fin _ S hS rfl
    omega
  refine ⟨⟨fun S p hS hp hb => ?_, fun S hS => ?_⟩, e0, fin2⟩
  · have hS2 : S < 2 ^ n - 1 := by
      refine Decidable.byContradiction (fun q => ?_)
      have : S = 2 ^ n - 1 := by omega
      rw [this, Nat.testBit_two_pow_sub_one] at hb
      simp [hp] at hb
    rw [e1 S hS2]
    exact mns_lb (f := fun p => jn m (c S p) (R (S ||| 2 ^ p))) hp (by simp [hb])
  · have h1 := fin2 S (by omega)
    rcases mns_at (P := fun p => !S.testBit p && true) (f := fun p => jn m (c S p) (R (S ||| 2 ^ p))) (T := T) (n := n) with h | ⟨p, hp, hq, h⟩
    · rw [← e1 S hS] at h
      omega
    · rw [← e1 S hS] at h
      refine ⟨p, hp, ?_, h⟩
      simp only [Bool.and_eq_true, Bool.not_eq_true'] at hq
      exact hq.1
theorem crw_pr {n : Nat} {ok : Nat → Nat → Bool} {C : Nat → Nat} (hC : ∀ S, C S = crw n ok (n - cnt S n) S) : CPr n ok C := by
  refine ⟨by rw [hC, cnt_fl, Nat.sub_self]; rfl, fun S hS => ?_⟩
  have hk1 := cnt_ltf hS
  obtain ⟨kk, hkk⟩ : ∃ kk, n - cnt S n = kk + 1 := ⟨n - cnt S n - 1, by omega⟩
  rw [hC S, hkk]
  refine sm_congr (fun p hp => ?_)
  by_cases hq : (!S.testBit p && ok S p) = true
  · have hb : S.testBit p = false := by
      simp only [Bool.and_eq_true, Bool.not_eq_true'] at hq
      exact hq.1
    have := (set_up (n := n) (by omega) hp hb).2.2
    rw [if_pos hq, if_pos hq, hC (S ||| 2 ^ p), show n - cnt (S ||| 2 ^ p) n = kk by omega]
  · rw [if_neg hq, if_neg hq]
