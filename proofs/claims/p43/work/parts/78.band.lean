/-! the number tells who waits -/
theorem wln_le {n i L : Nat} (hn : n < 10) : wln n i L ≤ 4 := by
  unfold wln
  have h1 : Nat.min i (n - 1 - L) ≤ i := Nat.min_le_left _ _
  have h2 : Nat.min i (n - 1 - L) ≤ n - 1 - L := Nat.min_le_right _ _
  omega
theorem wmk_bit {w : Nat → Nat → Nat} {P : Nat → Nat} {i lo b : Nat} : ∀ {c : Nat}, (wmk w P i lo c).testBit b = true ↔ ∃ e, e < c ∧ mis w P i (lo + e) ≠ 0 ∧ 4 * ((lo + e) % 4) ≤ b ∧ (P (lo + e) + 1).testBit (b - 4 * ((lo + e) % 4)) = true
  | 0 => by
    show (0 : Nat).testBit b = true ↔ _
    rw [Nat.zero_testBit]
    exact ⟨fun h => (by cases h), fun ⟨e, h, _⟩ => by omega⟩
  | c + 1 => by
    show (wmk w P i lo c ||| (if mis w P i (lo + c) = 0 then 0 else (P (lo + c) + 1) * 2 ^ (4 * ((lo + c) % 4)))).testBit b = true ↔ _
    rw [or_b, wmk_bit]
    constructor
    · rintro (⟨e, a1, a2⟩ | h)
      · exact ⟨e, by omega, a2⟩
      · by_cases q : mis w P i (lo + c) = 0
        · rw [if_pos q, Nat.zero_testBit] at h
          cases h
        · rw [if_neg q, ← Nat.shiftLeft_eq, Nat.testBit_shiftLeft, Bool.and_eq_true, decide_eq_true_eq] at h
          exact ⟨c, by omega, q, h.1, h.2⟩
    · rintro ⟨e, a1, a2, a3, a4⟩
      by_cases q : e = c
      · subst q
        refine Or.inr ?_
        rw [if_neg a2, ← Nat.shiftLeft_eq, Nat.testBit_shiftLeft, Bool.and_eq_true, decide_eq_true_eq]
        exact ⟨a3, a4⟩
      · exact Or.inl ⟨e, by omega, a2, a3, a4⟩
theorem wmk_nib {w : Nat → Nat → Nat} {P : Nat → Nat} {i lo c e b : Nat} (hc : c ≤ 4) (he : e < c) (hP : ∀ j, j < c → P (lo + j) < 9) (hb : b < 4) : (wmk w P i lo c).testBit (4 * ((lo + e) % 4) + b) = true ↔ mis w P i (lo + e) ≠ 0 ∧ (P (lo + e) + 1).testBit b = true := by
  rw [wmk_bit]
  constructor
  · rintro ⟨f, f1, f2, f3, f4⟩
    have hlt : 4 * ((lo + e) % 4) + b - 4 * ((lo + f) % 4) < 4 := by
      refine Decidable.byContradiction (fun q => ?_)
      have h1 : P (lo + f) + 1 < 2 ^ 4 := by have := hP f f1; show P (lo + f) + 1 < 16; omega
      rw [lt_pow_bit h1 (by omega)] at f4
      cases f4
    have : e = f := by omega
    subst this
    rw [show 4 * ((lo + e) % 4) + b - 4 * ((lo + e) % 4) = b by omega] at f4
    exact ⟨f2, f4⟩
  · rintro ⟨h1, h2⟩
    exact ⟨e, he, h1, by omega, by rw [show 4 * ((lo + e) % 4) + b - 4 * ((lo + e) % 4) = b by omega]; exact h2⟩
theorem or_add {a b k : Nat} (h : b < 2 ^ k) : a * 2 ^ k ||| b = a * 2 ^ k + b := by
  rw [Nat.mul_comm, Nat.two_pow_add_eq_or_of_lt h]
theorem wky_add {w : Nat → Nat → Nat} {P : Nat → Nat} {i L c : Nat} (ha : amk P i < 512) (hm : wmk w P i (i - 1 - L) c < 65536) : wky w P i L c = L * 33554432 + amk P i * 65536 + wmk w P i (i - 1 - L) c := by
  unfold wky
  have e1 : L * 512 ||| amk P i = L * 512 + amk P i := or_add (k := 9) ha
  have e2 : (L * 512 + amk P i) * 65536 ||| wmk w P i (i - 1 - L) c = (L * 512 + amk P i) * 65536 + wmk w P i (i - 1 - L) c := or_add (k := 16) hm
  rw [e1, e2]
  omega
/-- the first i places are i unlike points -/
def PFX (n i : Nat) (P : Nat → Nat) : Prop := (∀ j, j < i → P j < n) ∧ amk P i < 2 ^ n ∧ cnt (amk P i) n = i
/-- none waits in vain so far -/
def PRE (w : Nat → Nat → Nat) (P : Nat → Nat) (i L : Nat) : Prop := ∀ k, k + L + 1 < i → mis w P i k = 0
theorem wky_ag {n : Nat} {w : Nat → Nat → Nat} (hn : n < 10) {P Q : Nat → Nat} {i j L M : Nat} (hP : PFX n i P) (hQ : PFX n j Q) (pP : PRE w P i L) (pQ : PRE w Q j M) (hi : i < n) (hj : j < n) (e : wky w P i L (wln n i L) = wky w Q j M (wln n j M)) : L = M ∧ i = j ∧ amk P i = amk Q i ∧ ∀ k, k < i → k + L + 1 < n → mis w P i k = mis w Q i k := by
  have h3 := pow9 (k := n) (by omega)
  have wi : ∀ c, c < wln n i L → P (i - 1 - L + c) < 9 := fun c hc => by
    have := wln_in hc
    have := hP.1 (i - 1 - L + c) (by omega)
    omega
  have wj : ∀ c, c < wln n j M → Q (j - 1 - M + c) < 9 := fun c hc => by
    have := wln_in hc
    have := hQ.1 (j - 1 - M + c) (by omega)
    omega
  have m1 := wmk_lt (w := w) (P := P) (i := i) wi
  have m2 := wmk_lt (w := w) (P := Q) (i := j) wj
  have a1 := hP.2.1
  have a2 := hQ.2.1
  rw [wky_add (by omega) m1, wky_add (by omega) m2] at e
  have eL : L = M := by omega
  subst eL
  have eA : amk P i = amk Q j := by omega
  have eM : wmk w P i (i - 1 - L) (wln n i L) = wmk w Q j (j - 1 - L) (wln n j L) := by omega
  have eI : i = j := by
    have := hP.2.2
    rw [eA, hQ.2.2] at this
    exact this.symm
  subst eI
  refine ⟨rfl, rfl, eA, fun k hk hkn => ?_⟩
  by_cases hw : k + L + 1 < i
  · rw [pP k hw, pQ k hw]
  · have hc : k - (i - 1 - L) < wln n i L := by
      refine Decidable.byContradiction (fun q => ?_)
      have := wln_out (n := n) (i := i) (L := L)
      unfold wln at q this
      rcases Nat.le_total i (n - 1 - L) with r | r
      · rw [show Nat.min i (n - 1 - L) = i from Nat.min_eq_left r] at q
        omega
      · rw [show Nat.min i (n - 1 - L) = n - 1 - L from Nat.min_eq_right r] at q
        omega
    generalize hc' : k - (i - 1 - L) = c at hc
    have ek : k = i - 1 - L + c := by omega
    rw [ek]
    have n1 := fun b (hb : b < 4) => wmk_nib (w := w) (P := P) (i := i) (wln_le hn) hc wi hb
    have n2 := fun b (hb : b < 4) => wmk_nib (w := w) (P := Q) (i := i) (wln_le hn) hc wj hb
    have iff : ∀ b, b < 4 → ((mis w P i (i - 1 - L + c) ≠ 0 ∧ (P (i - 1 - L + c) + 1).testBit b = true) ↔ (mis w Q i (i - 1 - L + c) ≠ 0 ∧ (Q (i - 1 - L + c) + 1).testBit b = true)) := fun b hb => by
      rw [← n1 b hb, ← n2 b hb, eM]
    have some_bit : ∀ x, x < 9 → ∃ b, b < 4 ∧ (x + 1).testBit b = true := by decide
    have sameP : mis w P i (i - 1 - L + c) ≠ 0 → mis w Q i (i - 1 - L + c) ≠ 0 → P (i - 1 - L + c) = Q (i - 1 - L + c) := by
      intro p1 p2
      have h16 : ∀ x, x < 9 → x + 1 < 2 ^ 4 := fun x hx => by show x + 1 < 16; omega
      have : P (i - 1 - L + c) + 1 = Q (i - 1 - L + c) + 1 := bit_ext (h16 _ (wi c hc)) (h16 _ (wj c hc)) (fun b hb => by
        have := iff b hb
        cases x : (P (i - 1 - L + c) + 1).testBit b
        · cases y : (Q (i - 1 - L + c) + 1).testBit b
          · rfl
          · have := (this.mpr ⟨p2, y⟩).2
            rw [x] at this
            cases this
        · exact ((this.mp ⟨p1, x⟩).2).symm)
      omega
    by_cases p1 : mis w P i (i - 1 - L + c) = 0
    · by_cases p2 : mis w Q i (i - 1 - L + c) = 0
      · rw [p1, p2]
      · obtain ⟨b, hb, hbb⟩ := some_bit _ (wj c hc)
        exact absurd p1 ((iff b hb).mpr ⟨p2, hbb⟩).1
    · have p2 : mis w Q i (i - 1 - L + c) ≠ 0 := by
        obtain ⟨b, hb, hbb⟩ := some_bit _ (wi c hc)
        exact ((iff b hb).mp ⟨p1, hbb⟩).1
      have e3 := sameP p1 p2
      unfold mis
      rw [e3, eA]
/-- the window's are among all who wait -/
theorem wdu_dal {w : Nat → Nat → Nat} {P : Nat → Nat} {i lo : Nat} : ∀ {c b : Nat}, (wdu w P i lo c).testBit b = true → (dal w P i (lo + c)).testBit b = true
  | 0, b, h => by
    have h : (0 : Nat).testBit b = true := h
    rw [Nat.zero_testBit] at h
    cases h
  | c + 1, b, h => by
    have h : (wdu w P i lo c ||| mis w P i (lo + c)).testBit b = true := h
    show (dal w P i (lo + c) ||| mis w P i (lo + c)).testBit b = true
    rcases or_b.mp h with h | h
    · exact or_b.mpr (Or.inl (wdu_dal h))
    · exact or_b.mpr (Or.inr h)
theorem wno_0 {n : Nat} {w : Nat → Nat → Nat} {L : Nat} (hw : WF n w) (hn : n < 10) {i : Nat} {P : Nat → Nat} (hi : i < n) (hP : PFX n i P) (h : WNo n w P i L) : bct n w L (n - i) i P = 0 := by
  obtain ⟨c, hc, -, h2⟩ := h
  have hin := wln_in hc
  refine Decidable.byContradiction (fun q => ?_)
  have h3 := bct_room (L := L) hw hn (k := n - i) (i := i) (P := P) (by omega) hP.2.1 hP.2.2 (by omega) (i - 1 - L + c) (by omega)
  have h4 : cnt (wdu w P i (i - 1 - L) (c + 1)) 9 ≤ cnt (dal w P i (i - 1 - L + (c + 1))) 9 := cnt_mn (fun b hb => wdu_dal hb)
  rw [show i - 1 - L + (c + 1) = i - 1 - L + c + 1 by omega] at h4
  omega
theorem pre_on {n : Nat} {w : Nat → Nat → Nat} {L : Nat} {i : Nat} {P : Nat → Nat} (hi : i < n) (hp : PRE w P i L) (h : ¬ WNo n w P i L) : ∀ k, k < i → k + L < i → mis w P i k = 0 := by
  intro k hk hkL
  by_cases e : k + L + 1 < i
  · exact hp k e
  · refine Decidable.byContradiction (fun q => h ⟨0, ?_, ?_, ?_⟩)
    · unfold wln
      rcases Nat.le_total i (n - 1 - L) with r | r
      · rw [show Nat.min i (n - 1 - L) = i from Nat.min_eq_left r]; omega
      · rw [show Nat.min i (n - 1 - L) = n - 1 - L from Nat.min_eq_right r]; omega
    · rw [show i - 1 - L + 0 = k by omega]; exact q
    · rw [show i - 1 - L + 0 + L + 1 - i = 0 by omega]
      show 0 < cnt (0 ||| mis w P i (i - 1 - L + 0)) 9
      rw [Nat.zero_or, show i - 1 - L + 0 = k by omega]
      refine Nat.pos_of_ne_zero (fun q2 => q (cnt9_0 _ mis_lt q2))
