/-! new lines, one by one; the least among those with the least (wip/sim/g99f.py) -/
noncomputable def fen (w : Nat → Nat → Nat) (A p a : Nat) : Nat := if (nbm w A p).testBit a = true then dif (dif (nbm w A p) (2 ^ (a + 1) - 1)) (nbm w A a) else 0
theorem fen_lt {w : Nat → Nat → Nat} {A p a : Nat} : fen w A p a < 512 := by
  unfold fen
  split
  · exact dif_lt (dif_lt nbm_lt)
  · omega
theorem fen_b {w : Nat → Nat → Nat} {A p a b : Nat} (ha : a < 9) (hb : b < 9) : (fen w A p a).testBit b = true ↔ (nbm w A p).testBit a = true ∧ a < b ∧ (nbm w A p).testBit b = true ∧ (nbm w A a).testBit b = false := by
  unfold fen
  by_cases c : (nbm w A p).testBit a = true
  · rw [if_pos c, dif_b (dif_lt nbm_lt), dif_b nbm_lt, Nat.testBit_two_pow_sub_one]
    constructor
    · rintro ⟨⟨h1, h2⟩, h3⟩
      have := of_decide_eq_false h2
      exact ⟨c, by omega, h1, h3⟩
    · rintro ⟨-, h2, h1, h3⟩
      exact ⟨⟨h1, decide_eq_false (by omega)⟩, h3⟩
  · rw [if_neg c, Nat.zero_testBit]
    exact ⟨fun h => (by cases h), fun h => absurd h.1 c⟩
theorem cnt_hit {E j : Nat} : ∀ {m : Nat}, j < cnt E m → ∃ b, b < m ∧ E.testBit b = true ∧ cnt E b = j
  | 0, h => absurd h (Nat.not_lt_zero j)
  | m + 1, h => by
    rw [cnt_succ] at h
    by_cases q : j < cnt E m
    · obtain ⟨b, b1, b2, b3⟩ := cnt_hit q
      exact ⟨b, by omega, b2, b3⟩
    · by_cases c : E.testBit m = true
      · rw [if_pos c] at h
        exact ⟨m, Nat.lt_succ_self m, c, by omega⟩
      · rw [if_neg c] at h
        omega
theorem cnt_ml {E a : Nat} : ∀ {b : Nat}, a ≤ b → cnt E a ≤ cnt E b
  | 0, h => by
    have : a = 0 := by omega
    subst this
    exact Nat.le_refl _
  | b + 1, h => by
    by_cases e : a = b + 1
    · rw [e]; exact Nat.le_refl _
    · rw [cnt_succ]
      have := cnt_ml (E := E) (a := a) (b := b) (by omega)
      omega
theorem cnt_bl {E a b : Nat} (h : a < b) (hb : E.testBit a = true) : cnt E a + 1 ≤ cnt E b := by
  have := cnt_ml (E := E) (a := a + 1) (b := b) h
  rw [cnt_succ, if_pos hb] at this
  exact this
/-- the j-th of a set -/
def bat (E j : Nat) : Nat := fsf (fun b => E.testBit b && decide (cnt E b = j)) 9
theorem bat_eq {E j b : Nat} (hb : b < 9) (h : E.testBit b = true) (e : cnt E b = j) : bat E j = b := by
  refine fsf_eq (Nat.le_refl 9) hb (by rw [h, decide_eq_true e]; rfl) (fun i hi => ?_)
  cases q : E.testBit i
  · rfl
  · have := cnt_bl hi q
    rw [decide_eq_false (by omega)]
    rfl
theorem q_bitAt {E j : Nat} {t : St} (hE : E < 512) (hj : j < cnt E 9) : FX8_bitAt (nI E) (nI j) t = some (nI (bat E j), t) := by
  obtain ⟨b, b1, b2, b3⟩ := cnt_hit hj
  have hj9 : cnt E 9 ≤ 9 := cnt_le
  rw [bat_eq b1 b2 b3]
  refine Ok.eq ?_
  unfold FX8_bitAt
  refine Ok.bd (fun r u => t = u ∧ r = .inl (nI b)) ?_ ?_
  · refine Ok.count 9 (fun i c s => t = s ∧ c = (nI (cnt E i), nI i) ∧ i ≤ b) ?_ ?_ (Nat.zero_le _) ⟨rfl, rfl, Nat.zero_le _⟩
    · rintro i c s hi ⟨rfl, rfl, hI⟩
      unfold SX8_bitAt_4
      dsimp only
      have ci : cnt E i ≤ i := cnt_le
      refine Ok.ifF (by rw [li_9, nI_leP (by omega) (by omega)]; omega) (Ok.cv (bitn (by omega) (by omega)) (Ok.ite (fun c => Ok.ret ⟨rfl, ?_, ?_⟩) (fun c => Ok.cv (nI_eqP (by omega) (by omega)) (Ok.ite (fun c2 => Ok.ret ⟨rfl, ?_⟩) (fun c2 => Ok.ret ⟨rfl, ?_, ?_⟩)))))
      · rw [nI_1, cnt_succ, if_neg (by rw [c]; decide)]
        rfl
      · rcases Nat.lt_or_ge i b with q | q
        · exact q
        · have : i = b := by omega
          rw [this, b2] at c
          cases c
      · rw [show i = b by
          rcases Nat.lt_or_ge i b with q | q
          · have := cnt_bl q (bT c)
            omega
          · omega]
      · rw [nI_1, nI_1, cnt_succ, if_pos (bT c)]
      · rcases Nat.lt_or_ge i b with q | q
        · exact q
        · have : i = b := by omega
          rw [this] at c2
          exact absurd b3 c2
    · rintro c s ⟨rfl, rfl, hI⟩
      omega
  · rintro _ _ ⟨rfl, rfl⟩
    exact Ok.ret ⟨rfl, rfl⟩
abbrev FR := Int32 ⊕ Nat
noncomputable def flA (w : Nat → Nat → Nat) (A p kk c : Nat) : Nat → FR
  | 0 => .inr c
  | a + 1 => Sum.elim .inl (fun c => if c ≤ kk ∧ kk < c + cnt (fen w A p a) 9 then .inl (nI (10 * a + bat (fen w A p a) (kk - c))) else .inr (c + cnt (fen w A p a) 9)) (flA w A p kk c a)
noncomputable def flI (n : Nat) (w : Nat → Nat → Nat) (o : Nat → Nat) (kk : Nat) : Nat → FR
  | 0 => .inr 0
  | i + 1 => Sum.elim .inl (fun c => flA w (amk o i) (o i) kk c n) (flI n w o kk i)
theorem flA_l {w : Nat → Nat → Nat} {A p kk c a : Nat} {r : Int32} (h : flA w A p kk c a = .inl r) : ∀ {b : Nat}, a ≤ b → flA w A p kk c b = .inl r
  | 0, hb => by
    have : a = 0 := by omega
    subst this
    exact h
  | b + 1, hb => by
    by_cases e : a = b + 1
    · rw [← e]; exact h
    · rw [flA, flA_l h (b := b) (by omega)]
      rfl
theorem flI_l {n : Nat} {w : Nat → Nat → Nat} {o : Nat → Nat} {kk a : Nat} {r : Int32} (h : flI n w o kk a = .inl r) : ∀ {b : Nat}, a ≤ b → flI n w o kk b = .inl r
  | 0, hb => by
    have : a = 0 := by omega
    subst this
    exact h
  | b + 1, hb => by
    by_cases e : a = b + 1
    · rw [← e]; exact h
    · rw [flI, flI_l h (b := b) (by omega)]
      rfl
theorem flA_s {w : Nat → Nat → Nat} {A p kk c0 c a : Nat} (h : flA w A p kk c0 a = .inr c) : flA w A p kk c0 (a + 1) = if c ≤ kk ∧ kk < c + cnt (fen w A p a) 9 then .inl (nI (10 * a + bat (fen w A p a) (kk - c))) else .inr (c + cnt (fen w A p a) 9) := by
  rw [flA, h]
  rfl
theorem flI_s {n : Nat} {w : Nat → Nat → Nat} {o : Nat → Nat} {kk i c : Nat} (h : flI n w o kk i = .inr c) : flI n w o kk (i + 1) = flA w (amk o i) (o i) kk c n := by
  rw [flI, h]
  rfl
/-- k, as a number: NONE is beyond all -/
def KK (k : Int32) (kk : Nat) : Prop := kk < 2147483648 ∧ ((k = -1 ∧ kk = 1000000) ∨ k = nI kk)
theorem KK.lt {k : Int32} {kk c : Nat} (h : KK k kk) (hc : c < 100000) : (k < nI c) = (k = -1 ∨ kk < c) := by
  obtain ⟨h1, ⟨rfl, rfl⟩ | rfl⟩ := h
  · refine propext ⟨fun _ => Or.inl rfl, fun _ => ?_⟩
    rw [Int32.lt_iff_toInt_lt, nI_toInt (by omega), show (-1 : Int32).toInt = -1 by decide]
    omega
  · rw [nI_ltP h1 (by omega)]
    exact propext ⟨fun q => Or.inr q, fun q => q.resolve_left (n1n h1)⟩
theorem KK.le {k : Int32} {kk c : Nat} (h : KK k kk) (hc : c < 100000) : (nI c ≤ k) = (k ≠ -1 ∧ c ≤ kk) := by
  obtain ⟨h1, ⟨rfl, rfl⟩ | rfl⟩ := h
  · refine propext ⟨fun q => ?_, fun q => absurd rfl q.1⟩
    rw [Int32.le_iff_toInt_le, nI_toInt (by omega), show (-1 : Int32).toInt = -1 by decide] at q
    omega
  · rw [nI_leP (by omega) h1]
    exact propext ⟨fun q => ⟨n1n h1, q⟩, fun q => q.2⟩
theorem KK.eq {k : Int32} {kk c : Nat} (h : KK k kk) (hc : c < 100000) : (nI c = k) = (c = kk) := by
  obtain ⟨h1, ⟨rfl, rfl⟩ | rfl⟩ := h
  · exact propext ⟨fun q => absurd q (n1n (by omega)), fun q => by omega⟩
  · exact nI_eqP (by omega) (by omega)
theorem KK.sub {k : Int32} {kk c : Nat} (h : KK k kk) (h1 : k ≠ -1) (hc : c ≤ kk) : k - nI c = nI (kk - c) := by
  obtain ⟨h2, ⟨rfl, rfl⟩ | rfl⟩ := h
  · exact absurd rfl h1
  · exact nI_sub hc
/-! the class -/
theorem c_flA {x n l A p kk c0 : Nat} {w : Nat → Nat → Nat} {k w4 w5 : Int32} {t : St} (h : CN x n l w t) (g : netAt x = true) (hw : WF n w) (hn : n < 10) (hA : A < 512) (hK : KK k kk) (hc0 : c0 ≤ 1000) : wh (SX8_newLine_37 x k (nI A) w4 w5 (nI (nbm w A p))) (nI c0, (0 : Int32)) t = some (Sum.map id nI (flA w A p kk c0 n), t) := by
  refine Ok.eq (Ok.mono (R := fun r u => t = u ∧ r = Sum.map id nI (flA w A p kk c0 n)) ?_ (fun r u h => h))
  refine Ok.count n (fun a c s => t = s ∧ ∃ d, flA w A p kk c0 a = .inr d ∧ c = (nI d, nI a) ∧ d ≤ c0 + 9 * a) ?_ ?_ (Nat.zero_le _) ⟨rfl, c0, rfl, rfl, Nat.le_refl _⟩
  · rintro a c s ha ⟨rfl, d, hd, rfl, d9⟩
    unfold SX8_newLine_37
    dsimp only
    have fl := fen_lt (w := w) (A := A) (p := p) (a := a)
    have f9 : cnt (fen w A p a) 9 ≤ 9 := cnt_le
    refine Ok.rdE h.1 (Ok.ifF (by rw [nI_leP (by omega) (by omega)]; omega) ?_)
    refine Ok.bq (a := nI (fen w A p a)) (t := t) (Ok.eq ?_) ?_
    · unfold fen
      refine Ok.cv (bitn (by have := nbm_lt (w := w) (S := A) (p := p); omega) (by omega)) (Ok.ite (fun c => Ok.ret ⟨rfl, ?_⟩) (fun c => ?_))
      · rw [if_neg (by rw [c]; decide)]; rfl
      · rw [if_pos (bT c)]
        unfold FX6_aboveOf
        rw [abv_all _ nbm_lt a (by omega)]
        refine Ok.bq rfl (Ok.bq (q_neighbours h g hw hn hA (by omega)) (Ok.ret ⟨rfl, ?_⟩))
        rw [nI_dif (dif_lt nbm_lt) nbm_lt]
    · refine Ok.bq (q_bitCount fl) ?_
      rw [nI_add]
      have fs := flA_s hd
      refine Ok.cv (hK.lt (by omega)) (Ok.ite (fun c1 => Ok.ret ⟨rfl, d + cnt (fen w A p a) 9, ?_, by rw [nI_1], by omega⟩) (fun c1 => Ok.cv (hK.le (by omega)) (Ok.ite (fun c2 => Ok.ret ⟨rfl, d + cnt (fen w A p a) 9, ?_, by rw [nI_1], by omega⟩) (fun c2 => ?_))))
      · rw [fs]
        refine if_neg (fun q => ?_)
        rcases c1 with e | e
        · obtain ⟨-, ⟨-, e2⟩ | e2⟩ := hK
          · omega
          · rw [e2] at e; exact n1n (by omega) e
        · omega
      · rw [fs]
        exact if_neg (fun q => by omega)
      · have k1 : k ≠ -1 := fun q => c1 (Or.inl q)
        have k2 : d ≤ kk := Nat.le_of_not_lt (fun q => c1 (Or.inr q))
        have k3 : kk < d + cnt (fen w A p a) 9 := Nat.lt_of_not_le (fun q => c2 ⟨k1, q⟩)
        rw [if_pos ⟨k2, k3⟩] at fs
        rw [hK.sub k1 k2]
        refine Ok.bq (q_bitAt fl (by omega)) (Ok.ret ⟨rfl, ?_⟩)
        rw [flA_l fs (b := n) (by omega), li_10, nI_mul, nI_add]
        rfl
  · rintro c s ⟨rfl, d, hd, rfl, d9⟩
    unfold SX8_newLine_37
    dsimp only
    refine Ok.rdE h.1 (Ok.ifT (by rw [nI_leP (by omega) (by omega)]; omega) (Ok.ret ⟨rfl, ?_⟩))
    rw [hd]
    rfl
theorem flA_bd {w : Nat → Nat → Nat} {A p kk c d : Nat} : ∀ {a : Nat}, flA w A p kk c a = .inr d → d ≤ c + 9 * a
  | 0, h => by
    have : c = d := Sum.inr.inj h
    omega
  | a + 1, h => by
    rw [flA] at h
    cases e : flA w A p kk c a with
    | inl r => rw [e] at h; cases h
    | inr c1 =>
      rw [e] at h
      have h : (if c1 ≤ kk ∧ kk < c1 + cnt (fen w A p a) 9 then (.inl (nI (10 * a + bat (fen w A p a) (kk - c1))) : FR) else .inr (c1 + cnt (fen w A p a) 9)) = .inr d := h
      have ih := flA_bd e
      have f9 : cnt (fen w A p a) 9 ≤ 9 := cnt_le
      by_cases q : c1 ≤ kk ∧ kk < c1 + cnt (fen w A p a) 9
      · rw [if_pos q] at h; cases h
      · rw [if_neg q] at h
        have := Sum.inr.inj h
        omega
def flF (k : Int32) (r : FR) : Int32 := Sum.elim id (fun c => if k = -1 then nI c else -1) r
theorem q_newLine {x n l kk : Nat} {w : Nat → Nat → Nat} {o : Nat → Nat} {k : Int32} {t : St} (h : CN x n l w t) (g : netAt x = true) (hw : WF n w) (hn : n < 10) (ho : CO x n o t) (h9 : ∀ i, o i < 9) (hK : KK k kk) : FX8_newLine x k t = some (flF k (flI n w o kk n), t) := by
  refine Ok.eq ?_
  unfold FX8_newLine
  refine Ok.ckT g (Ok.bd (fun r u => t = u ∧ r = Sum.map id nI (flI n w o kk n)) ?_ ?_)
  · refine Ok.count n (fun i c s => t = s ∧ ∃ d, flI n w o kk i = .inr d ∧ c = (nI (amk o i), nI d, nI i) ∧ d ≤ 81 * i) ?_ ?_ (Nat.zero_le _) ⟨rfl, 0, rfl, rfl, Nat.le_refl _⟩
    · rintro i c s hi ⟨rfl, d, hd, rfl, d9⟩
      unfold SX8_newLine_7
      dsimp only
      have hA : amk o i < 512 := amk_lt (fun j _ => h9 j)
      have o9 := h9 i
      have fs := flI_s hd
      refine Ok.rdE h.1 (Ok.ifF (by rw [nI_leP (by omega) (by omega)]; omega) (Ok.ckT (inb_n (by omega) (by omega)) ?_))
      rw [nI_cl (by omega)]
      refine Ok.rdE (ho i hi) (Ok.bq (q_neighbours h g hw hn hA o9) (Ok.bq (c_flA h g hw hn hA hK (by omega)) ?_))
      cases e : flA w (amk o i) (o i) kk d n with
      | inl r =>
        rw [e] at fs
        refine Ok.ret ⟨rfl, ?_⟩
        rw [flI_l fs (b := n) (by omega)]
        rfl
      | inr c1 =>
        rw [e] at fs
        have b := flA_bd e
        refine Ok.ret ⟨rfl, c1, fs, ?_, by omega⟩
        show (nI (amk o i) ||| shl 1 (nI (o i)), nI c1, nI i + 1) = _
        rw [li_1, shl_1b (by omega), nI_or, ← li_1, nI_1]
        rfl
    · rintro c s ⟨rfl, d, hd, rfl, d9⟩
      unfold SX8_newLine_7
      dsimp only
      refine Ok.rdE h.1 (Ok.ifT (by rw [nI_leP (by omega) (by omega)]; omega) (Ok.ret ⟨rfl, ?_⟩))
      rw [hd]
      rfl
  · rintro _ _ ⟨rfl, rfl⟩
    cases flI n w o kk n with
    | inl r => exact Ok.ret ⟨rfl, rfl⟩
    | inr c =>
      show Ok (if k = -1 then some (nI c, t) else some (-1, t)) (fun r u => t = u ∧ r = if k = -1 then nI c else -1)
      exact Ok.ite (fun q => Ok.ret ⟨rfl, by rw [if_pos q]⟩) (fun q => Ok.ret ⟨rfl, by rw [if_neg q]⟩)
/-! the reference -/
theorem m_flB {s n A p kk a c0 : Nat} {w : Nat → Nat → Nat} {k w4 : Int32} {t : St} (h : RN s n w t) (hs : s < 3) (hw : WF n w) (hn : n < 10) (hA : A < 512) (hK : KK k kk) (ha : a < n) (hc0 : c0 ≤ 2000) : wh (SX12_filled_75 (nI s) k w4 (nI A) (nI (nbm w A p)) (nI a)) (nI c0, nI (a + 1)) t = some (Sum.map id nI (if c0 ≤ kk ∧ kk < c0 + cnt (fen w A p a) 9 then (.inl (nI (10 * a + bat (fen w A p a) (kk - c0))) : FR) else .inr (c0 + cnt (fen w A p a) 9)), t) := by
  have fl := fen_lt (w := w) (A := A) (p := p) (a := a)
  have z0 : ∀ b, b ≤ a → (fen w A p a).testBit b = false := fun b hb => bF (fun q => by
    have := (fen_b (by omega) (by omega)).mp q
    omega)
  have z1 : ∀ m, m ≤ a + 1 → cnt (fen w A p a) m = 0 := fun m => by
    induction m with
    | zero => intro _; rfl
    | succ m ih =>
      intro hm
      rw [cnt_succ, ih (by omega), if_neg (by rw [z0 m (by omega)]; decide)]
  have zn : cnt (fen w A p a) 9 = cnt (fen w A p a) n := by
    have : ∀ m, n ≤ m → m ≤ 9 → cnt (fen w A p a) m = cnt (fen w A p a) n := fun m => by
      induction m with
      | zero =>
        intro h1 _
        rw [show n = 0 by omega]
      | succ m ih =>
        intro h1 h2
        by_cases e : n = m + 1
        · rw [e]
        · rw [cnt_succ, ih (by omega) (by omega), if_neg (fun q => ?_)]
          · rfl
          · obtain ⟨-, -, q2, -⟩ := (fen_b (by omega) (by omega)).mp q
            have q3 := ((nbm_bit (by omega)).mp q2).1
            exact absurd (q3 (fun r => r < n) (fun r hr => (hw.b hr).2) (fun r r' _ _ hr => (hw.b hr).2)) (by omega)
    exact this 9 (by omega) (Nat.le_refl 9)
  refine Ok.eq ?_
  refine Ok.count (n - (a + 1)) (fun j c s' => t = s' ∧ c = (nI (c0 + cnt (fen w A p a) (a + 1 + j)), nI (a + 1 + j)) ∧ ∀ b, b < a + 1 + j → (fen w A p a).testBit b = true → c0 + cnt (fen w A p a) b ≠ kk) ?_ ?_ (Nat.zero_le _) ⟨rfl, by rw [z1 (a + 1 + 0) (by omega)]; rfl, fun b hb q => by rw [z0 b (by omega)] at q; cases q⟩
  · rintro j c s' hj ⟨rfl, rfl, hI⟩
    unfold SX12_filled_75
    dsimp only
    have cb : cnt (fen w A p a) (a + 1 + j) ≤ a + 1 + j := cnt_le
    have nb := nbm_lt (w := w) (S := A) (p := p)
    have na := nbm_lt (w := w) (S := A) (p := a)
    have fb := fen_b (w := w) (A := A) (p := p) (a := a) (b := a + 1 + j) (by omega) (by omega)
    have skip : (fen w A p a).testBit (a + 1 + j) = false → (nI (c0 + cnt (fen w A p a) (a + 1 + j)), nI (a + 1 + j) + 1) = (nI (c0 + cnt (fen w A p a) (a + 1 + (j + 1))), nI (a + 1 + (j + 1))) ∧ ∀ b, b < a + 1 + (j + 1) → (fen w A p a).testBit b = true → c0 + cnt (fen w A p a) b ≠ kk := fun q => by
      refine ⟨?_, fun b hb hq => ?_⟩
      · rw [nI_1, show a + 1 + (j + 1) = a + 1 + j + 1 by omega, cnt_succ, if_neg (by rw [q]; decide)]
        rfl
      · by_cases e : b = a + 1 + j
        · rw [e, q] at hq; cases hq
        · exact hI b (by omega) hq
    refine Ok.bq (q_points h hs) (Ok.ifF (by rw [nI_leP (by omega) (by omega)]; omega) (Ok.bq (q_has (by omega) (by omega)) (Ok.cv b01 (Ok.ite (fun c => Ok.ret ⟨rfl, skip (bF (fun q => ?_))⟩) (fun c => Ok.bq (q_has (by omega) (by omega)) (Ok.cv b01 (Ok.ite (fun c2 => Ok.ret ⟨rfl, skip (bF (fun q => ?_))⟩) (fun c2 => Ok.bq (q_neighboursM h hs hw hn hA (by omega)) (Ok.bq (q_has (by omega) (by omega)) (Ok.cv b01 (Ok.ite (fun c3 => ?_) (fun c3 => Ok.ret ⟨rfl, skip (bF (fun q => ?_))⟩))))))))))))
    · rw [(fb.mp q).1] at c; cases c
    · rw [(fb.mp q).2.2.1] at c2; cases c2
    · have hb : (fen w A p a).testBit (a + 1 + j) = true := fb.mpr ⟨bT c, by omega, bT c2, c3⟩
      have ct := cnt_bl (E := fen w A p a) (a := a + 1 + j) (b := 9) (by omega) hb
      refine Ok.cv (hK.eq (by omega)) (Ok.ite (fun c4 => Ok.ret ⟨rfl, ?_⟩) (fun c4 => Ok.ret ⟨rfl, ?_, fun b hb' hq => ?_⟩))
      · rw [if_pos (c := c0 ≤ kk ∧ kk < c0 + cnt (fen w A p a) 9) (by omega), bat_eq (b := a + 1 + j) (by omega) hb (by omega), li_10, nI_mul, nI_add]
        rfl
      · rw [nI_1, nI_1, show a + 1 + (j + 1) = a + 1 + j + 1 by omega, cnt_succ, if_pos hb]
        rfl
      · by_cases e : b = a + 1 + j
        · rw [e]; exact c4
        · exact hI b (by omega) hq
    · rw [(fb.mp q).2.2.2] at c3; exact c3 rfl
  · rintro c s' ⟨rfl, rfl, hI⟩
    unfold SX12_filled_75
    dsimp only
    rw [show a + 1 + (n - (a + 1)) = n by omega] at hI ⊢
    refine Ok.bq (q_points h hs) (Ok.ifT (by rw [nI_leP (by omega) (by omega)]; omega) (Ok.ret ⟨rfl, ?_⟩))
    rw [if_neg (c := c0 ≤ kk ∧ kk < c0 + cnt (fen w A p a) 9) (fun q => ?_), zn]
    · rfl
    · obtain ⟨b, b1, b2, b3⟩ := cnt_hit (E := fen w A p a) (j := kk - c0) (m := n) (by omega)
      exact hI b b1 b2 (by omega)
theorem m_flA {s n A p kk c0 : Nat} {w : Nat → Nat → Nat} {k w4 : Int32} {t : St} (h : RN s n w t) (hs : s < 3) (hw : WF n w) (hn : n < 10) (hA : A < 512) (hK : KK k kk) (hc0 : c0 ≤ 1000) : wh (SX12_filled_59 (nI s) k w4 (nI A) (nI (nbm w A p))) (nI c0, (0 : Int32)) t = some (Sum.map id nI (flA w A p kk c0 n), t) := by
  refine Ok.eq ?_
  refine Ok.count n (fun a c s' => t = s' ∧ ∃ d, flA w A p kk c0 a = .inr d ∧ c = (nI d, nI a)) ?_ ?_ (Nat.zero_le _) ⟨rfl, c0, rfl, rfl⟩
  · rintro a c s' ha ⟨rfl, d, hd, rfl⟩
    unfold SX12_filled_59
    dsimp only
    have db := flA_bd hd
    have fs := flA_s hd
    refine Ok.bq (q_points h hs) (Ok.ifF (by rw [nI_leP (by omega) (by omega)]; omega) ?_)
    rw [nI_1]
    refine Ok.bq (m_flB h hs hw hn hA hK ha (by omega)) ?_
    by_cases q : d ≤ kk ∧ kk < d + cnt (fen w A p a) 9
    · rw [if_pos q] at fs ⊢
      refine Ok.ret ⟨rfl, ?_⟩
      rw [flA_l fs (b := n) (by omega)]
      rfl
    · rw [if_neg q] at fs ⊢
      exact Ok.ret ⟨rfl, _, fs, rfl⟩
  · rintro c s' ⟨rfl, d, hd, rfl⟩
    unfold SX12_filled_59
    dsimp only
    refine Ok.bq (q_points h hs) (Ok.ifT (by rw [nI_leP (by omega) (by omega)]; omega) (Ok.ret ⟨rfl, ?_⟩))
    rw [hd]
    rfl
theorem q_filledM2 {s n kk : Nat} {w : Nat → Nat → Nat} {o : Nat → Nat} {k : Int32} {t : St} (h : RN s n w t) (hs : s < 3) (hw : WF n w) (hn : n < 10) (ho : RO s n o t) (h9 : ∀ i, o i < 9) (hK : KK k kk) : wh (SX12_filled_21 (nI s) k) ((0 : Int32), (0 : Int32)) t = some (Sum.map id nI (flI n w o kk n), t) := by
  refine Ok.eq ?_
  refine Ok.count n (fun i c s' => t = s' ∧ ∃ d, flI n w o kk i = .inr d ∧ c = (nI d, nI i) ∧ d ≤ 81 * i) ?_ ?_ (Nat.zero_le _) ⟨rfl, 0, rfl, rfl, Nat.le_refl _⟩
  · rintro i c s' hi ⟨rfl, d, hd, rfl, d9⟩
    unfold SX12_filled_21
    dsimp only
    have hA : amk o i < 512 := amk_lt (fun j _ => h9 j)
    have fs := flI_s hd
    refine Ok.bq (q_points h hs) (Ok.ifF (by rw [nI_leP (by omega) (by omega)]; omega) (Ok.bq (q_aheadOfM hs hn ho (fun i _ => h9 i) (by omega)) (Ok.bq (q_at ho hs hn hi) (Ok.bq (q_neighboursM h hs hw hn hA (h9 i)) (Ok.bq (m_flA h hs hw hn hA hK (by omega)) ?_)))))
    cases e : flA w (amk o i) (o i) kk d n with
    | inl r =>
      rw [e] at fs
      refine Ok.ret ⟨rfl, ?_⟩
      rw [flI_l fs (b := n) (by omega)]
      rfl
    | inr c1 =>
      rw [e] at fs
      have b := flA_bd e
      exact Ok.ret ⟨rfl, c1, fs, by rw [← nI_1], by omega⟩
  · rintro c s' ⟨rfl, d, hd, rfl, d9⟩
    unfold SX12_filled_21
    dsimp only
    refine Ok.bq (q_points h hs) (Ok.ifT (by rw [nI_leP (by omega) (by omega)]; omega) (Ok.ret ⟨rfl, ?_⟩))
    rw [hd]
    rfl
theorem z3_filled {σ : St} (hI : INV3 σ) (a b : Int32) : BOTH (FX11_filled a b σ) (fun u => FX12_filled a b u) := by
  rcases r3 (a := a) with ⟨s, hs, rfl⟩ | ha
  · obtain ⟨v, h⟩ := hI.sl hs
    have hn : v.1 < 10 := h.1.1.1
    have hw := h.1.1.2.1
    have h0 := h.2.1.1.1
    have hr := h.2.2.1
    have gx := n_sl hs
    by_cases h1 : 1 ≤ v.1
    · by_cases hb : (-1 : Int32) ≤ b
      · have hK : ∃ kk, KK b kk := by
          by_cases b1 : b = -1
          · exact ⟨1000000, by omega, Or.inl ⟨b1, rfl⟩⟩
          · have c : ¬ b < 0 := fun q => by
              rw [Int32.lt_iff_toInt_lt, show (0 : Int32).toInt = 0 by decide] at q
              rw [Int32.le_iff_toInt_le, show (-1 : Int32).toInt = -1 by decide] at hb
              exact b1 (Int32.toInt_inj.mp (by rw [show (-1 : Int32).toInt = -1 by decide]; omega))
            obtain ⟨j, hj, rfl⟩ := nI_of c
            exact ⟨j, hj, Or.inr rfl⟩
        obtain ⟨kk, hK⟩ := hK
        refine BOTH.no (v := flF b (flI v.1 v.2.2.1 v.2.2.2 kk v.1)) hI ?_ ?_
        · unfold FX11_filled
          exact Ok.eq (netI hs hn h0 (fun q => absurd h1 (by omega)) (fun _ g => Ok.ifT hb (Ok.bq (q_newLine h.2.1.1 gx hw hn h.2.1.2 h.1.o9 hK) (Ok.ret ⟨rfl, rfl⟩))))
        · refine Ok.eq ?_
          unfold FX12_filled
          refine Ok.bq (g_isN1 hs hn hr h1) (Ok.ifF (by decide) (Ok.ifT hb (Ok.bq (q_filledM2 hr hs hw hn h.2.2.2 h.1.o9 hK) ?_)))
          cases flI v.1 v.2.2.1 v.2.2.2 kk v.1 with
          | inl r => exact Ok.ret ⟨rfl, rfl⟩
          | inr c =>
            show Ok (if b = -1 then some (nI c, σ) else some (-1, σ)) (fun r u => σ = u ∧ r = if b = -1 then nI c else -1)
            exact Ok.ite (fun q => Ok.ret ⟨rfl, by rw [if_pos q]⟩) (fun q => Ok.ret ⟨rfl, by rw [if_neg q]⟩)
      · refine BOTH.no (v := -2) hI ?_ ?_
        · unfold FX11_filled
          exact Ok.eq (netI hs hn h0 (fun _ => ⟨rfl, rfl⟩) (fun h1 g => Ok.ifF hb (Ok.ret ⟨rfl, rfl⟩)))
        · refine Ok.eq ?_
          unfold FX12_filled
          exact Ok.bq (g_isN1 hs hn hr h1) (Ok.ifF (by decide) (Ok.ifF hb (Ok.ret ⟨rfl, rfl⟩)))
    · refine BOTH.no (v := -2) hI ?_ ?_
      · unfold FX11_filled
        exact Ok.eq (netI hs hn h0 (fun _ => ⟨rfl, rfl⟩) (fun h g => absurd h h1))
      · refine Ok.eq ?_
        unfold FX12_filled
        exact Ok.bq (g_isN0 hs hn hr (by omega)) (Ok.ifT rfl (Ok.ret ⟨rfl, rfl⟩))
  · refine BOTH.no (v := -2) hI ?_ ?_
    · unfold FX11_filled
      exact net0 ha
    · refine Ok.eq ?_
      unfold FX12_filled
      exact Ok.bq (g_isNet0 ha) (Ok.ifT rfl (Ok.ret ⟨rfl, rfl⟩))
