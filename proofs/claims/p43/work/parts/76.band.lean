/-! rows by how far ends lie apart: pure -/
def upP (P : Nat → Nat) (i p : Nat) : Nat → Nat := fun j => if j = i then p else P j
theorem upP_i {P : Nat → Nat} {i p : Nat} : upP P i p i = p := if_pos rfl
theorem upP_n {P : Nat → Nat} {i p j : Nat} (h : j ≠ i) : upP P i p j = P j := if_neg h
theorem amk_eq {P Q : Nat → Nat} : ∀ {i : Nat}, (∀ j, j < i → P j = Q j) → amk P i = amk Q i
  | 0, _ => rfl
  | i + 1, h => by
    show amk P i ||| 2 ^ P i = amk Q i ||| 2 ^ Q i
    rw [amk_eq (fun j hj => h j (by omega)), h i (by omega)]
theorem amk_up {P : Nat → Nat} {i p : Nat} : amk (upP P i p) (i + 1) = amk P i ||| 2 ^ p := by
  show amk (upP P i p) i ||| 2 ^ upP P i p i = _
  rw [upP_i, amk_eq (fun j hj => upP_n (by omega))]
/-- p may stand at place i behind P, L at most apart -/
def canb (w : Nat → Nat → Nat) (L : Nat) (P : Nat → Nat) (i p : Nat) : Bool := decide (∀ k, k < i → k + L < i → w (P k) p = 0)
/-- how many rows go on from the first i places -/
def bct (n : Nat) (w : Nat → Nat → Nat) (L : Nat) : Nat → Nat → (Nat → Nat) → Nat
  | 0, _, _ => 1
  | k + 1, i, P => sm n (fun p => if (!(amk P i).testBit p && canb w L P i p) = true then bct n w L k (i + 1) (upP P i p) else 0)
theorem bct_le {n : Nat} {w : Nat → Nat → Nat} {L : Nat} (hn : n < 10) : ∀ {k i : Nat} {P : Nat → Nat}, bct n w L k i P ≤ 9 ^ k
  | 0, _, _ => Nat.le_refl _
  | k + 1, i, P => by
    have h := sm_le (f := fun p => if (!(amk P i).testBit p && canb w L P i p) = true then bct n w L k (i + 1) (upP P i p) else 0) (b := 9 ^ k) (n := n) (fun p _ => by
      show (if (!(amk P i).testBit p && canb w L P i p) = true then _ else 0) ≤ 9 ^ k
      split
      · exact bct_le hn
      · exact Nat.zero_le _)
    have h2 : n * 9 ^ k ≤ 9 * 9 ^ k := Nat.mul_le_mul_right _ (by omega)
    have h3 : 9 ^ (k + 1) = 9 ^ k * 9 := Nat.pow_succ 9 k
    show sm n _ ≤ 9 ^ (k + 1)
    omega
theorem bct_b {n : Nat} {w : Nat → Nat → Nat} {L : Nat} (hn : n < 10) {k i : Nat} {P : Nat → Nat} (hk : k ≤ 9) : bct n w L k i P < 400000000 := by
  have h1 := bct_le (w := w) (L := L) hn (k := k) (i := i) (P := P)
  have h2 : 9 ^ k ≤ 9 ^ 9 := Nat.pow_le_pow_right (by decide) hk
  have h3 : 9 ^ 9 = 387420489 := by decide
  omega
/-- those for whom the point at place k still waits -/
def mis (w : Nat → Nat → Nat) (P : Nat → Nat) (i k : Nat) : Nat := dif (nr w (P k)) (amk P i)
theorem mis_lt {w : Nat → Nat → Nat} {P : Nat → Nat} {i k : Nat} : mis w P i k < 512 := dif_lt nr_lt
theorem mis_b {n : Nat} {w : Nat → Nat → Nat} (hw : WF n w) (hn : n < 10) {P : Nat → Nat} {i k p : Nat} : (mis w P i k).testBit p = true ↔ 0 < w (P k) p ∧ (amk P i).testBit p = false := by
  unfold mis
  rw [dif_b nr_lt, nr_b hw hn]
theorem mis_up {w : Nat → Nat → Nat} {P : Nat → Nat} {i k p : Nat} (hk : k < i) : mis w (upP P i p) (i + 1) k = dif (mis w P i k) (2 ^ p) := by
  unfold mis
  rw [amk_up, upP_n (by omega)]
  refine bit_ext (n := 9) (dif_lt nr_lt) (dif_lt (dif_lt nr_lt)) (fun b _ => ?_)
  rw [dif_bit nr_lt, dif_bit (dif_lt nr_lt), dif_bit nr_lt, Nat.testBit_or]
  cases (nr w (P k)).testBit b <;> cases (amk P i).testBit b <;> cases (2 ^ p).testBit b <;> rfl
/-- the same rows go on -/
theorem bct_ag {n : Nat} {w : Nat → Nat → Nat} {L : Nat} (hw : WF n w) (hn : n < 10) : ∀ {k i : Nat} {P Q : Nat → Nat}, k + i = n → amk P i = amk Q i → (∀ j, j < i → j + L + 1 < n → mis w P i j = mis w Q i j) → bct n w L k i P = bct n w L k i Q
  | 0, _, _, _, _, _, _ => rfl
  | k + 1, i, P, Q, hk, ha, hm => by
    show sm n _ = sm n _
    refine sm_congr (fun p hp => ?_)
    rw [← ha]
    cases hb : (amk P i).testBit p
    · have hcan : canb w L P i p = canb w L Q i p := by
        unfold canb
        refine decide_eq_decide.mpr (forall_congr' (fun j => ?_))
        refine ⟨fun h h1 h2 => ?_, fun h h1 h2 => ?_⟩
        · have e := hm j h1 (by omega)
          refine Decidable.byContradiction (fun q => ?_)
          have q2 := (mis_b hw hn (P := Q) (i := i) (k := j) (p := p)).mpr ⟨by omega, by rw [← ha]; exact hb⟩
          rw [← e] at q2
          have := ((mis_b hw hn).mp q2).1
          have := h h1 h2
          omega
        · have e := hm j h1 (by omega)
          refine Decidable.byContradiction (fun q => ?_)
          have q2 := (mis_b hw hn (P := P) (i := i) (k := j) (p := p)).mpr ⟨by omega, hb⟩
          rw [e] at q2
          have := ((mis_b hw hn).mp q2).1
          have := h h1 h2
          omega
      rw [← hcan]
      by_cases c : (!false && canb w L P i p) = true
      · rw [if_pos c, if_pos c]
        refine bct_ag hw hn (by omega) (by rw [amk_up, amk_up, ha]) (fun j hj hL => ?_)
        by_cases e : j = i
        · subst e
          unfold mis
          rw [amk_up, amk_up, ha, upP_i, upP_i]
        · rw [mis_up (by omega), mis_up (by omega), hm j (by omega) hL]
      · rw [if_neg c, if_neg c]
    · rw [if_neg (by simp), if_neg (by simp)]
/-- all who wait at the first k places -/
def dal (w : Nat → Nat → Nat) (P : Nat → Nat) (i : Nat) : Nat → Nat
  | 0 => 0
  | k + 1 => dal w P i k ||| mis w P i k
theorem dal_lt {w : Nat → Nat → Nat} {P : Nat → Nat} {i : Nat} : ∀ {k : Nat}, dal w P i k < 512
  | 0 => by show 0 < 512; omega
  | k + 1 => or9 dal_lt mis_lt
theorem dal_b {w : Nat → Nat → Nat} {P : Nat → Nat} {i p : Nat} : ∀ {k : Nat}, (dal w P i k).testBit p = true ↔ ∃ j, j < k ∧ (mis w P i j).testBit p = true
  | 0 => by
    show (0 : Nat).testBit p = true ↔ _
    rw [Nat.zero_testBit]
    exact ⟨fun h => (by cases h), fun ⟨j, h, _⟩ => by omega⟩
  | k + 1 => by
    show (dal w P i k ||| mis w P i k).testBit p = true ↔ _
    rw [or_b, dal_b]
    constructor
    · rintro (⟨j, a, b⟩ | b)
      · exact ⟨j, by omega, b⟩
      · exact ⟨k, by omega, b⟩
    · rintro ⟨j, a, b⟩
      by_cases e : j = k
      · subst e; exact Or.inr b
      · exact Or.inl ⟨j, by omega, b⟩
theorem dal_up {w : Nat → Nat → Nat} {P : Nat → Nat} {i p : Nat} : ∀ {k : Nat}, k ≤ i → dal w (upP P i p) (i + 1) k = dif (dal w P i k) (2 ^ p)
  | 0, _ => by
    show 0 = dif 0 (2 ^ p)
    unfold dif
    exact (Nat.zero_and _).symm
  | k + 1, h => by
    show dal w (upP P i p) (i + 1) k ||| mis w (upP P i p) (i + 1) k = dif (dal w P i k ||| mis w P i k) (2 ^ p)
    rw [dal_up (by omega), mis_up (by omega)]
    refine bit_ext (n := 9) (or9 (dif_lt dal_lt) (dif_lt mis_lt)) (dif_lt (or9 dal_lt mis_lt)) (fun b _ => ?_)
    rw [Nat.testBit_or, dif_bit dal_lt, dif_bit mis_lt, dif_bit (or9 dal_lt mis_lt), Nat.testBit_or]
    cases (dal w P i k).testBit b <;> cases (mis w P i k).testBit b <;> cases (2 ^ p).testBit b <;> rfl
theorem cnt_dif {S p : Nat} (hS : S < 512) (hp : p < 9) : cnt S 9 ≤ cnt (dif S (2 ^ p)) 9 + (if S.testBit p = true then 1 else 0) := by
  by_cases c : S.testBit p = true
  · rw [if_pos c]
    obtain ⟨o1, o2, -⟩ := dif_or hS hp c
    have := cnt_or o2 (n := 9)
    rw [o1, if_pos hp] at this
    omega
  · rw [if_neg c]
    refine cnt_mn (fun k hk => (dif_b hS).mpr ⟨hk, ?_⟩)
    rw [pow_bit]
    refine decide_eq_false (fun e => ?_)
    subst e
    exact c hk
/-- where rows go on, those who wait find room -/
theorem bct_room {n : Nat} {w : Nat → Nat → Nat} {L : Nat} (hw : WF n w) (hn : n < 10) : ∀ {k i : Nat} {P : Nat → Nat}, k + i = n → amk P i < 2 ^ n → cnt (amk P i) n = i → 0 < bct n w L k i P → ∀ j, j < i → cnt (dal w P i (j + 1)) 9 ≤ j + L + 1 - i
  | 0, i, P, hk, ha, hc, _, j, hj => by
    have hf : amk P i = 2 ^ n - 1 := (full_cnt ha).mp (by omega)
    have : dal w P i (j + 1) = 0 := by
      refine bit_ext (n := 9) dal_lt (by decide) (fun b _ => ?_)
      rw [Nat.zero_testBit]
      refine bF (fun q => ?_)
      obtain ⟨q1, -, q2⟩ := dal_b.mp q
      obtain ⟨q3, q4⟩ := (mis_b hw hn).mp q2
      rw [hf, Nat.testBit_two_pow_sub_one] at q4
      have := (hw.b q3).2
      simp [this] at q4
    rw [this, cnt_0]
    exact Nat.zero_le _
  | k + 1, i, P, hk, ha, hc, hpos, j, hj => by
    have hpos : 0 < sm n (fun p => if (!(amk P i).testBit p && canb w L P i p) = true then bct n w L k (i + 1) (upP P i p) else 0) := hpos
    obtain ⟨p, hp, h⟩ := sm_pos.mp hpos
    by_cases c : (!(amk P i).testBit p && canb w L P i p) = true
    · rw [if_pos c] at h
      simp only [Bool.and_eq_true, Bool.not_eq_true'] at c
      have hup := set_up ha hp c.1
      have ih := bct_room hw hn (k := k) (i := i + 1) (P := upP P i p) (by omega) (by rw [amk_up]; exact hup.2.1) (by rw [amk_up, hup.2.2, hc]) h j (by omega)
      rw [dal_up (by omega)] at ih
      have h2 := cnt_dif (S := dal w P i (j + 1)) (p := p) dal_lt (by omega)
      by_cases q : (dal w P i (j + 1)).testBit p = true
      · rw [if_pos q] at h2
        obtain ⟨r, hr, hr2⟩ := dal_b.mp q
        have h3 := ((mis_b hw hn).mp hr2).1
        have h4 := of_decide_eq_true c.2 r (by omega)
        have : ¬ r + L < i := fun e => by have := h4 e; omega
        omega
      · rw [if_neg q] at h2
        omega
    · rw [if_neg c] at h
      omega
