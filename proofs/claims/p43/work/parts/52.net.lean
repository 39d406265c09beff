/-! a net of the class -/
def nr (w : Nat → Nat → Nat) (a : Nat) : Nat := mkm 9 (fun b => decide (0 < w a b))
theorem nr_lt {w : Nat → Nat → Nat} {a : Nat} : nr w a < 512 := mkm_lt (n := 9)
theorem nr_bit {w : Nat → Nat → Nat} {a b : Nat} (hb : b < 9) : (nr w a).testBit b = decide (0 < w a b) := by
  unfold nr
  rw [mkm_bit]
  simp [hb]
def setw (w : Nat → Nat → Nat) (a b v : Nat) : Nat → Nat → Nat := fun p q => if (p = a ∧ q = b) ∨ (p = b ∧ q = a) then v else w p q
theorem setw_a {w : Nat → Nat → Nat} {a b v : Nat} : setw w a b v a b = v := if_pos (Or.inl ⟨rfl, rfl⟩)
theorem setw_b {w : Nat → Nat → Nat} {a b v : Nat} : setw w a b v b a = v := if_pos (Or.inr ⟨rfl, rfl⟩)
theorem setw_n {w : Nat → Nat → Nat} {a b v p q : Nat} (h1 : ¬ (p = a ∧ q = b)) (h2 : ¬ (p = b ∧ q = a)) : setw w a b v p q = w p q := if_neg (fun h => h.elim h1 h2)
theorem nr_set1 {w : Nat → Nat → Nat} {a b v : Nat} (hab : a ≠ b) (hb : b < 9) (hv : 0 < v) : nr (setw w a b v) a = nr w a ||| 2 ^ b := by
  refine bit_ext (n := 9) nr_lt (or9 nr_lt (pw9 hb)) (fun k hk => ?_)
  rw [nr_bit hk, Nat.testBit_or, nr_bit hk, pow_bit]
  by_cases e : b = k
  · subst e
    rw [setw_a]
    simp [hv]
  · rw [setw_n (fun h => e h.2.symm) (fun h => hab h.1)]
    simp [e]
theorem nr_set0 {w : Nat → Nat → Nat} {a b : Nat} (hab : a ≠ b) : nr (setw w a b 0) a = dif (nr w a) (2 ^ b) := by
  refine bit_ext (n := 9) nr_lt (dif_lt nr_lt) (fun k hk => ?_)
  rw [nr_bit hk, dif_bit nr_lt, nr_bit hk, pow_bit]
  by_cases e : b = k
  · subst e
    rw [setw_a]
    simp
  · rw [setw_n (fun h => e h.2.symm) (fun h => hab h.1)]
    simp [e]
theorem setw_sw {w : Nat → Nat → Nat} {a b v : Nat} : setw w a b v = setw w b a v := by
  funext p q
  unfold setw
  by_cases h : (p = a ∧ q = b) ∨ (p = b ∧ q = a)
  · rw [if_pos h, if_pos h.symm]
  · rw [if_neg h, if_neg (fun g => h g.symm)]
theorem nr_set {w : Nat → Nat → Nat} {a b v c : Nat} (h1 : c ≠ a) (h2 : c ≠ b) : nr (setw w a b v) c = nr w c := by
  unfold nr
  refine mkm_congr (fun k hk => ?_)
  rw [setw_n (fun h => h1 h.1) (fun h => h2 h.1)]
/-- the net at x: n points, l lines, weights w -/
def CN (x n l : Nat) (w : Nat → Nat → Nat) (t : St) : Prop := t x 0 = nI n ∧ t x 1 = nI l ∧ (∀ a, a < 9 → t (x + 1) a = nI (nr w a)) ∧ ∀ a b, a < 9 → b < 9 → t (x + 3) (a * 9 + b) = nI (w a b)
theorem CN.fr {x n l : Nat} {w : Nat → Nat → Nat} {t u : St} (h : CN x n l w t) (e0 : u x = t x) (e1 : u (x + 1) = t (x + 1)) (e3 : u (x + 3) = t (x + 3)) : CN x n l w u := by
  unfold CN
  rw [e0, e1, e3]
  exact h
theorem e_weightOf {x n l : Nat} {w : Nat → Nat → Nat} {t : St} (h : CN x n l w t) (g : netAt x = true) {a b : Nat} (ha : a < 9) (hb : b < 9) {Q : Int32 → St → Prop} (k : Q (nI (w a b)) t) : Ok (FX5_weightOf x (nI a) (nI b) t) Q := by
  unfold FX5_weightOf
  rw [li_9, nI_mul, nI_add]
  refine Ok.ckT g (Ok.ckT (inb_n (by omega) (by omega)) (Ok.rdE (x := nI (w a b)) ?_ (Ok.ret k)))
  rw [nI_cl (by omega)]
  exact h.2.2.2 a b ha hb
theorem e_has {x n l : Nat} {w : Nat → Nat → Nat} {t : St} (h : CN x n l w t) (hn : n < 10) (g : netAt x = true) {a : Nat} (ha : a < 2147483648) {Q : Int32 → St → Prop} (k1 : a < n → Q 1 t) (k0 : n ≤ a → Q 0 t) : Ok (FX5_has x (nI a) t) Q := by
  unfold FX5_has
  refine Ok.ckT g (Ok.ifF (by rw [li_0, nI_ltP (by omega) (by omega)]; omega) (Ok.rdE h.1 ?_))
  by_cases c : n ≤ a
  · exact Ok.ifT (by rw [nI_leP (by omega) (by omega)]; exact c) (Ok.ret (k0 c))
  · exact Ok.ifF (by rw [nI_leP (by omega) (by omega)]; exact c) (Ok.ret (k1 (by omega)))
theorem e_allBits {x n l : Nat} {w : Nat → Nat → Nat} {t : St} (h : CN x n l w t) (hn : n < 10) (g : netAt x = true) {Q : Int32 → St → Prop} (k : Q (nI (2 ^ n - 1)) t) : Ok (FX5_allBits x t) Q := by
  unfold FX5_allBits
  refine Ok.ckT g (Ok.rdE h.1 ?_)
  have h2 : 0 < 2 ^ n := Nat.two_pow_pos n
  rw [shl_1 (by omega), li_1, nI_sub (by omega)]
  exact Ok.ret k
set_option maxHeartbeats 1000000 in
theorem e_setWeight {x n l : Nat} {w : Nat → Nat → Nat} {t : St} (h : CN x n l w t) (g : netAt x = true) {a b v : Nat} (ha : a < 9) (hb : b < 9) (hab : a ≠ b) (hv : v < 10) (hw : w a b < 10) (hl : 0 < w a b → 0 < l) (hl2 : l < 1000) : Ok (FX5_setWeight x (nI a) (nI b) (nI v) t) (fun _ u => CN x n (l - (if 0 < w a b then 1 else 0) + (if 0 < v then 1 else 0)) (setw w a b v) u ∧ ∀ c, c ≠ x → c ≠ x + 1 → c ≠ x + 3 → u c = t c) := by
  have i1 : a * 9 + b < 81 := by omega
  have i2 : b * 9 + a < 81 := by omega
  have i3 : a * 9 + b ≠ b * 9 + a := by omega
  unfold FX5_setWeight
  refine Ok.ckT g (Ok.bd _ (e_weightOf h g ha hb (Q := fun r u => r = nI (w a b) ∧ t = u) ⟨rfl, rfl⟩) ?_)
  rintro _ _ ⟨rfl, rfl⟩
  refine Ok.bd (fun _ s => s x 0 = t x 0 ∧ s x 1 = nI (l - (if 0 < w a b then 1 else 0)) ∧ ∀ c, c ≠ x → s c = t c) ?_ ?_
  · by_cases c : 0 < w a b
    · refine Ok.ifF (by rw [li_0, nI_leP (by omega) (by omega)]; omega) (Ok.rdE h.2.1 ?_)
      rw [li_1, nI_sub (hl c), if_pos c]
      exact OkwrE (Ok.ret ⟨by rw [wrn (by decide)], wrs, fun c hc => wr_off c hc⟩)
    · rw [if_neg c]
      exact Ok.ifT (by rw [li_0, nI_leP (by omega) (by omega)]; omega) (Ok.ret ⟨rfl, h.2.1, fun _ _ => rfl⟩)
  · rintro _ s ⟨s0, s1, sf⟩
    rw [li_9, nI_mul, nI_mul, nI_add, nI_add]
    refine Ok.ckT (inb_n i1 (by omega)) (OkwrE (Ok.ckT (inb_n i2 (by omega)) (OkwrE ?_)))
    rw [nI_cl (by omega), nI_cl (by omega)]
    have w3 : ∀ (y : St), (∀ i, y (x + 3) i = wr (wr s (x + 3) (a * 9 + b) (nI v)) (x + 3) (b * 9 + a) (nI v) (x + 3) i) → ∀ p q, p < 9 → q < 9 → y (x + 3) (p * 9 + q) = nI (setw w a b v p q) := by
      intro y hy p q hp hq
      rw [hy]
      by_cases e1 : p = b ∧ q = a
      · obtain ⟨rfl, rfl⟩ := e1
        rw [wrs, setw_b]
      · rw [wrn (by omega)]
        by_cases e2 : p = a ∧ q = b
        · obtain ⟨rfl, rfl⟩ := e2
          rw [wrs, setw_a]
        · rw [wrn (by omega), setw_n e2 e1, sf (x + 3) (by omega)]
          exact h.2.2.2 p q hp hq
    by_cases c : 0 < v
    · rw [if_pos c]
      refine Ok.ifF (by rw [li_0, nI_leP (by omega) (by omega)]; omega) (Ok.rdE (x := nI (l - (if 0 < w a b then 1 else 0))) ?_ ?_)
      · rw [wrf (by omega), wrf (by omega)]
        exact s1
      rw [nI_1]
      refine OkwrE (Ok.ckT (inb_n ha (by omega)) (Ok.rdE (x := nI (nr w a)) ?_ ?_))
      · rw [nI_cl (by omega), wrf (by omega), wrf (by omega), wrf (by omega), sf (x + 1) (by omega)]
        exact h.2.2.1 a ha
      rw [shl_1 (by omega), nI_or, shl_1 (by omega), ← nr_set1 hab hb c]
      refine Ok.ckT (inb_n ha (by omega)) (OkwrE (Ok.ckT (inb_n hb (by omega)) (Ok.rdE (x := nI (nr w b)) ?_ ?_)))
      · rw [nI_cl (by omega), nI_cl (by omega), wrn (fun e => hab e.symm), wrf (by omega), wrf (by omega), wrf (by omega), sf (x + 1) (by omega)]
        exact h.2.2.1 b hb
      rw [nI_or, ← nr_set1 (fun e => hab e.symm) ha c, setw_sw (a := b)]
      refine Ok.ckT (inb_n hb (by omega)) (OkwrE (Ok.ret ⟨⟨?_, ?_, fun p hp => ?_, ?_⟩, fun c h1 h2 h3 => ?_⟩))
      · rw [wrf (by omega), wrf (by omega), wrn (by decide), wrf (by omega), wrf (by omega), s0]
        exact h.1
      · rw [wrf (by omega), wrf (by omega), wrs]
      · rw [nI_cl (by omega), nI_cl (by omega)]
        by_cases e1 : p = b
        · subst e1
          rw [wrs]
        · rw [wrn e1]
          by_cases e2 : p = a
          · subst e2
            rw [wrs]
          · rw [wrn e2, wrf (by omega), wrf (by omega), wrf (by omega), sf (x + 1) (by omega), nr_set e2 e1]
            exact h.2.2.1 p hp
      · refine w3 _ (fun i => ?_)
        rw [wrf (by omega), wrf (by omega), wrf (by omega)]
      · rw [wr_off c h2, wr_off c h2, wr_off c h1, wr_off c h3, wr_off c h3]
        exact sf c h1
    · rw [if_neg c]
      have v0 : v = 0 := by omega
      subst v0
      refine Ok.ifT (by rw [li_0, nI_leP (by omega) (by omega)]; omega) (Ok.ckT (inb_n ha (by omega)) (Ok.rdE (x := nI (nr w a)) ?_ ?_))
      · rw [nI_cl (by omega), wrf (by omega), wrf (by omega), sf (x + 1) (by omega)]
        exact h.2.2.1 a ha
      rw [shl_1 (by omega), nI_dif nr_lt (pw9 hb), shl_1 (by omega), ← nr_set0 hab]
      refine Ok.ckT (inb_n ha (by omega)) (OkwrE (Ok.ckT (inb_n hb (by omega)) (Ok.rdE (x := nI (nr w b)) ?_ ?_)))
      · rw [nI_cl (by omega), nI_cl (by omega), wrn (fun e => hab e.symm), wrf (by omega), wrf (by omega), sf (x + 1) (by omega)]
        exact h.2.2.1 b hb
      rw [nI_dif nr_lt (pw9 ha), ← nr_set0 (fun e => hab e.symm), setw_sw (a := b)]
      refine Ok.ckT (inb_n hb (by omega)) (OkwrE (Ok.ret ⟨⟨?_, ?_, fun p hp => ?_, ?_⟩, fun c h1 h2 h3 => ?_⟩))
      · rw [wrf (by omega), wrf (by omega), wrf (by omega), wrf (by omega), s0]
        exact h.1
      · rw [wrf (by omega), wrf (by omega), wrf (by omega), wrf (by omega), s1, Nat.add_zero]
      · rw [nI_cl (by omega), nI_cl (by omega)]
        by_cases e1 : p = b
        · subst e1
          rw [wrs]
        · rw [wrn e1]
          by_cases e2 : p = a
          · subst e2
            rw [wrs]
          · rw [wrn e2, wrf (by omega), wrf (by omega), sf (x + 1) (by omega), nr_set e2 e1]
            exact h.2.2.1 p hp
      · refine w3 _ (fun i => ?_)
        rw [wrf (by omega), wrf (by omega)]
      · rw [wr_off c h2, wr_off c h2, wr_off c h3, wr_off c h3]
        exact sf c h1
theorem ilen_n3 {x : Nat} (g : netAt x = true) : ilen (x + 1) = 9 ∧ ilen (x + 2) = 9 ∧ ilen (x + 3) = 81 := by
  have hx : x < 163 := by have := net_pl g; omega
  exact (by decide +kernel : ∀ x, x < 163 → netAt x = true → ilen (x + 1) = 9 ∧ ilen (x + 2) = 9 ∧ ilen (x + 3) = 81) x hx g
theorem e_fill {t : St} {a m : Nat} {v : Int32} (hl : ilen a = m) (h0 : 0 < m) (hm : m < 5000) : Ok (FJ7_fill_53178 a v t) (fun _ u => (∀ b, b ≠ a → u b = t b) ∧ (∀ i, i < m → u a i = v) ∧ ∀ i, m ≤ i → u a i = t a i) := by
  unfold FJ7_fill_53178
  rw [hl]
  refine Ok.ckT (inb_n (k := 0) h0 (by omega)) (Ok.bd (fun _ u => (∀ b, b ≠ a → u b = t b) ∧ (∀ i, i < m → u a i = v) ∧ ∀ i, m ≤ i → u a i = t a i) ?_ (fun _ u h => Ok.ret h))
  refine Ok.count m (fun j c s => c = nI j ∧ (∀ b, b ≠ a → s b = t b) ∧ (∀ i, i < j → s a i = v) ∧ ∀ i, j ≤ i → s a i = t a i) ?_ ?_ (Nat.zero_le _) ⟨rfl, fun _ _ => rfl, fun i hi => by omega, fun _ _ => rfl⟩
  · rintro j c s hj ⟨rfl, h1, h2, h3⟩
    unfold SJ7_fill_53178_5
    refine Ok.ifF (by rw [show Int32.ofNat m = nI m from rfl, nI_leP (by omega) (by omega)]; omega) (Ok.ckT (by rw [hl]; exact inb_n hj (by omega)) (OkwrE (Ok.ret ⟨nI_1 j, fun b hb => ?_, fun i hi => ?_, fun i hi => ?_⟩)))
    · rw [wr_off b hb]
      exact h1 b hb
    · rw [nI_cl (by omega)]
      by_cases e : i = j
      · subst e
        rw [wrs]
      · rw [wrn e]
        exact h2 i (by omega)
    · rw [nI_cl (by omega), wrn (by omega)]
      exact h3 i (by omega)
  · rintro c s ⟨rfl, h1, h2, h3⟩
    unfold SJ7_fill_53178_5
    exact Ok.ifT (by rw [show Int32.ofNat m = nI m from rfl, nI_leP (by omega) (by omega)]; omega) (Ok.ret ⟨h1, h2, h3⟩)
theorem nr_0 {a : Nat} : nr (fun _ _ => 0) a = 0 := by
  refine bit_ext (n := 9) nr_lt (by decide) (fun k hk => ?_)
  rw [nr_bit hk, Nat.zero_testBit]
  rfl
theorem e_begin {x n : Nat} {t : St} (g : netAt x = true) : Ok (FX5_begin x (nI n) t) (fun _ u => CN x n 0 (fun _ _ => 0) u ∧ (∀ i, i < 9 → u (x + 2) i = nI i) ∧ ∀ c, c ≠ x → c ≠ x + 1 → c ≠ x + 2 → c ≠ x + 3 → u c = t c) := by
  obtain ⟨l1, l2, l3⟩ := ilen_n3 g
  unfold FX5_begin
  refine Ok.ckT g (OkwrE (OkwrE (Ok.bd _ (e_fill l1 (by omega) (by omega)) ?_)))
  rintro _ u1 ⟨a1, b1, -⟩
  refine Ok.bd _ (e_fill l3 (by omega) (by omega)) ?_
  rintro _ u2 ⟨a2, b2, -⟩
  refine Ok.bd (fun _ u => (∀ b, b ≠ x + 2 → u b = u2 b) ∧ ∀ i, i < 9 → u (x + 2) i = nI i) ?_ ?_
  · refine Ok.count 9 (fun j c s => c = nI j ∧ (∀ b, b ≠ x + 2 → s b = u2 b) ∧ ∀ i, i < j → s (x + 2) i = nI i) ?_ ?_ (Nat.zero_le _) ⟨rfl, fun _ _ => rfl, fun i hi => by omega⟩
    · rintro j c s hj ⟨rfl, h1, h2⟩
      unfold SX5_begin_28
      refine Ok.ifF (by rw [li_9, nI_leP (by omega) (by omega)]; omega) (Ok.ckT (inb_n hj (by omega)) (OkwrE (Ok.ret ⟨nI_1 j, fun b hb => ?_, fun i hi => ?_⟩)))
      · rw [wr_off b hb]
        exact h1 b hb
      · rw [nI_cl (by omega)]
        by_cases e : i = j
        · subst e
          rw [wrs]
        · rw [wrn e]
          exact h2 i (by omega)
    · rintro c s ⟨rfl, h1, h2⟩
      unfold SX5_begin_28
      exact Ok.ifT (by rw [li_9, nI_leP (by omega) (by omega)]; omega) (Ok.ret ⟨h1, h2⟩)
  · rintro _ u ⟨h1, h2⟩
    refine Ok.ret ⟨⟨?_, ?_, fun a ha => ?_, fun a b ha hb => ?_⟩, h2, fun c c0 c1 c2 c3 => ?_⟩
    · rw [h1 x (by omega), a2 x (by omega), a1 x (by omega), wrn (by decide), wrs]
    · rw [h1 x (by omega), a2 x (by omega), a1 x (by omega), wrs]
      rfl
    · rw [h1 _ (by omega), a2 _ (by omega), b1 a ha, nr_0]
      rfl
    · rw [h1 _ (by omega), b2 _ (by omega)]
      rfl
    · rw [h1 c c2, a2 c c3, a1 c c1, wr_off c c0, wr_off c c0]
