/-! to whom one comes through those ahead -/
def Rch (w : Nat → Nat → Nat) (S p q : Nat) : Prop := ∀ T : Nat → Prop, (∀ r, 0 < w p r → T r) → (∀ r r', T r → S.testBit r = true → 0 < w r r' → T r') → T q
theorem Rch.one {w : Nat → Nat → Nat} {S p q : Nat} (h : 0 < w p q) : Rch w S p q := fun _ a _ => a q h
theorem Rch.on {w : Nat → Nat → Nat} {S p r q : Nat} (h : Rch w S p r) (hr : S.testBit r = true) (h2 : 0 < w r q) : Rch w S p q := fun T a b => b r q (h T a b) hr h2
theorem Rch.tr {w : Nat → Nat → Nat} {S p r q : Nat} (h : Rch w S p r) (hr : S.testBit r = true) (h2 : Rch w S r q) : Rch w S p q := h2 (fun q => Rch w S p q) (fun _ h3 => h.on hr h3) (fun _ _ h3 h4 h5 => h3.on h4 h5)
theorem Rch.up {w : Nat → Nat → Nat} {S U p q : Nat} (h : Rch w S p q) (hs : ∀ k, S.testBit k = true → U.testBit k = true) : Rch w U p q := h (fun q => Rch w U p q) (fun _ h3 => Rch.one h3) (fun _ _ h3 h4 h5 => h3.on (hs _ h4) h5)
/-- one more point is ahead -/
theorem Rch.add {w : Nat → Nat → Nat} {S v p q : Nat} : Rch w (S ||| 2 ^ v) p q ↔ Rch w S p q ∨ (Rch w S p v ∧ Rch w S v q) := by
  have hv : (S ||| 2 ^ v).testBit v = true := by rw [Nat.testBit_or, pow_bit]; simp
  have hs : ∀ k, S.testBit k = true → (S ||| 2 ^ v).testBit k = true := fun k h => by rw [Nat.testBit_or, h]; rfl
  constructor
  · intro h
    refine h (fun q => Rch w S p q ∨ (Rch w S p v ∧ Rch w S v q)) (fun r h1 => Or.inl (Rch.one h1)) (fun r r' h1 h2 h3 => ?_)
    rw [Nat.testBit_or, pow_bit] at h2
    by_cases e : v = r
    · subst e
      rcases h1 with h1 | ⟨h1, -⟩
      · exact Or.inr ⟨h1, Rch.one h3⟩
      · exact Or.inr ⟨h1, Rch.one h3⟩
    · have h2 : S.testBit r = true := by simpa [e] using h2
      rcases h1 with h1 | ⟨h1, h4⟩
      · exact Or.inl (h1.on h2 h3)
      · exact Or.inr ⟨h1, h4.on h2 h3⟩
  · rintro (h | ⟨h1, h2⟩)
    · exact h.up hs
    · exact (h1.up hs).tr hv (h2.up hs)
noncomputable def rcm (w : Nat → Nat → Nat) (S p : Nat) : Nat := mkm 9 (fun q => @decide (Rch w S p q) (Classical.propDecidable _))
theorem rcm_lt {w : Nat → Nat → Nat} {S p : Nat} : rcm w S p < 512 := mkm_lt (n := 9)
theorem rcm_bit {w : Nat → Nat → Nat} {S p q : Nat} (hq : q < 9) : (rcm w S p).testBit q = true ↔ Rch w S p q := by
  unfold rcm
  rw [mkm_bit]
  simp only [hq, decide_true, Bool.true_and]
  exact @decide_eq_true_iff _ (Classical.propDecidable _)
theorem WF.b {n : Nat} {w : Nat → Nat → Nat} (h : WF n w) {a b : Nat} (hp : 0 < w a b) : a < n ∧ b < n := by
  constructor
  · refine Decidable.byContradiction (fun q => ?_)
    have := h.2.2.2 a b (by omega)
    omega
  · refine Decidable.byContradiction (fun q => ?_)
    have := h.r (a := a) (b := b) (by omega)
    omega
theorem nr_b {n : Nat} {w : Nat → Nat → Nat} (h : WF n w) (hn : n < 10) {a b : Nat} : (nr w a).testBit b = true ↔ 0 < w a b := by
  by_cases hb : b < 9
  · rw [nr_bit hb]; exact decide_eq_true_iff
  · constructor
    · intro q
      rw [lt_pow_bit (n := 9) nr_lt (by omega)] at q
      cases q
    · intro q
      have := h.b q
      omega
/-- a closed set that is reached is what is reached -/
theorem rcm_of {n : Nat} {w : Nat → Nat → Nat} (hw : WF n w) (hn : n < 10) {S p M : Nat} (hM : M < 512) (h0 : ∀ q, M.testBit q = true → Rch w S p q) (h1 : ∀ q, 0 < w p q → M.testBit q = true) (h2 : ∀ r q, M.testBit r = true → S.testBit r = true → 0 < w r q → M.testBit q = true) : rcm w S p = M := by
  refine bit_ext (n := 9) rcm_lt hM (fun q hq => ?_)
  cases e : M.testBit q
  · cases e2 : (rcm w S p).testBit q
    · rfl
    · have := (rcm_bit hq).mp e2 (fun q => M.testBit q = true) h1 h2
      rw [e] at this
      cases this
  · exact (rcm_bit hq).mpr (h0 q e)
/-- the neighbours of p as S is taken out -/
noncomputable def nbm (w : Nat → Nat → Nat) (S p : Nat) : Nat := dif (dif (rcm w S p) S) (2 ^ p)
theorem nbm_lt {w : Nat → Nat → Nat} {S p : Nat} : nbm w S p < 512 := dif_lt (dif_lt rcm_lt)
theorem nbm_bit {w : Nat → Nat → Nat} {S p q : Nat} (hq : q < 9) : (nbm w S p).testBit q = true ↔ Rch w S p q ∧ S.testBit q = false ∧ p ≠ q := by
  unfold nbm
  rw [dif_bit (dif_lt rcm_lt), dif_bit rcm_lt, pow_bit]
  simp only [Bool.and_eq_true, rcm_bit hq, Bool.not_eq_true', decide_eq_false_iff_not]
  exact ⟨fun h => ⟨h.1.1, h.1.2, h.2⟩, fun h => ⟨⟨h.1, h.2.1⟩, h.2.2⟩⟩
/-- the union of f i over the i of W -/
def orw (W : Nat) (f : Nat → Nat) : Nat → Nat
  | 0 => 0
  | i + 1 => orw W f i ||| (if W.testBit i = true then f i else 0)
theorem orw_bit {W : Nat} {f : Nat → Nat} {k : Nat} : ∀ {n : Nat}, (orw W f n).testBit k = true ↔ ∃ i, i < n ∧ W.testBit i = true ∧ (f i).testBit k = true
  | 0 => by
    unfold orw
    rw [Nat.zero_testBit]
    exact ⟨fun h => (by cases h), fun ⟨i, h, _⟩ => by omega⟩
  | n + 1 => by
    show (orw W f n ||| (if W.testBit n = true then f n else 0)).testBit k = true ↔ _
    rw [Nat.testBit_or, Bool.or_eq_true, orw_bit]
    constructor
    · rintro (⟨i, h1, h2⟩ | h)
      · exact ⟨i, by omega, h2⟩
      · by_cases c : W.testBit n = true
        · rw [if_pos c] at h
          exact ⟨n, by omega, c, h⟩
        · rw [if_neg c, Nat.zero_testBit] at h
          cases h
    · rintro ⟨i, h1, h2, h3⟩
      by_cases e : i = n
      · subst e
        rw [if_pos h2]
        exact Or.inr h3
      · exact Or.inl ⟨i, by omega, h2, h3⟩
theorem orw_lt {W : Nat} {f : Nat → Nat} (hf : ∀ i, f i < 512) : ∀ {n : Nat}, orw W f n < 512
  | 0 => by show 0 < 512; omega
  | n + 1 => by
    refine or9 (orw_lt hf) ?_
    by_cases c : W.testBit n = true
    · rw [if_pos c]; exact hf n
    · rw [if_neg c]; omega
theorem cnt_mn {S T : Nat} (h : ∀ k, S.testBit k = true → T.testBit k = true) : ∀ {n : Nat}, cnt S n ≤ cnt T n
  | 0 => Nat.le_refl 0
  | n + 1 => by
    rw [cnt_succ, cnt_succ]
    have h1 := cnt_mn h (n := n)
    by_cases c : S.testBit n = true
    · rw [if_pos c, if_pos (h n c)]; omega
    · rw [if_neg c]; omega
theorem cnt_more {S W n : Nat} (hW : W ≠ 0) (hWn : W < 2 ^ n) (hd : ∀ k, W.testBit k = true → S.testBit k = false) : cnt S n + 1 ≤ cnt (S ||| W) n := by
  have : ∃ k, W.testBit k = true := by
    refine Classical.byContradiction (fun q => hW ?_)
    apply Nat.eq_of_testBit_eq
    intro k
    rw [Nat.zero_testBit]
    cases e : W.testBit k
    · rfl
    · exact absurd ⟨k, e⟩ q
  obtain ⟨k, hk⟩ := this
  have hkn : k < n := by
    refine Decidable.byContradiction (fun q => ?_)
    rw [lt_pow_bit hWn (by omega)] at hk
    cases hk
  have h1 := cnt_or (hd k hk) (n := n)
  rw [if_pos hkn] at h1
  have h2 : cnt (S ||| 2 ^ k) n ≤ cnt (S ||| W) n := by
    refine cnt_mn (fun j hj => ?_)
    rw [Nat.testBit_or, pow_bit] at hj
    rw [Nat.testBit_or]
    by_cases e : k = j
    · subst e; rw [hk]; simp
    · have : S.testBit j = true := by simpa [e] using hj
      rw [this]; rfl
  omega
theorem and_bit {a b k : Nat} : (a &&& b).testBit k = true ↔ a.testBit k = true ∧ b.testBit k = true := by rw [Nat.testBit_and, Bool.and_eq_true]
theorem dif_b {a b k : Nat} (ha : a < 512) : (dif a b).testBit k = true ↔ a.testBit k = true ∧ b.testBit k = false := by rw [dif_bit ha, Bool.and_eq_true, Bool.not_eq_true']
theorem or_b {a b k : Nat} : (a ||| b).testBit k = true ↔ a.testBit k = true ∨ b.testBit k = true := by rw [Nat.testBit_or, Bool.or_eq_true]
theorem bF {b : Bool} (h : ¬ b = true) : b = false := by cases b; rfl; exact absurd rfl h
theorem bT {b : Bool} (h : ¬ b = false) : b = true := by cases b; exact absurd rfl h; rfl
theorem nI_q0 {a : Nat} (ha : a < 4294967296) : (nI a = 0) = (a = 0) := nI_eqP (b := 0) ha (by omega)
theorem q_neighbours {x n l : Nat} {w : Nat → Nat → Nat} {t : St} (h : CN x n l w t) (g : netAt x = true) (hw : WF n w) (hn : n < 10) {S p : Nat} (hS : S < 512) (hp : p < 9) : FX6_neighbours x (nI S) (nI p) t = some (nI (nbm w S p), t) := by
  refine Ok.eq ?_
  unfold FX6_neighbours
  refine Ok.ckT g (Ok.ckT (inb_n hp (by omega)) ?_)
  rw [nI_cl (by omega)]
  refine Ok.rdE (h.2.2.1 p hp) (Ok.bq (a := nI (rcm w S p)) (t := t) (Ok.eq ?_) (Ok.ret ⟨rfl, ?_⟩))
  · refine Ok.count n (fun j c s => t = s ∧ ∃ M G, M < 512 ∧ G < 512 ∧ c = (nI M, nI G, nI j) ∧ (∀ q, M.testBit q = true → Rch w S p q) ∧ (∀ q, 0 < w p q → M.testBit q = true) ∧ (∀ r q, G.testBit r = true → 0 < w r q → M.testBit q = true) ∧ j ≤ cnt G n) ?_ ?_ (Nat.zero_le _) ⟨rfl, nr w p, 0, nr_lt, by omega, rfl, fun q hq => Rch.one ((nr_b hw hn).mp hq), fun q hq => (nr_b hw hn).mpr hq, fun r q hr => (by rw [Nat.zero_testBit] at hr; cases hr), Nat.zero_le _⟩
    · rintro j c s hj ⟨rfl, M, G, hM, hG, rfl, h0, h1, h2, hc⟩
      unfold SX6_neighbours_13
      dsimp only
      have hMS : M &&& S < 512 := and9 hM
      have hW : dif (M &&& S) G < 512 := dif_lt hMS
      refine Ok.rdE h.1 (Ok.ifF (by rw [nI_leP (by omega) (by omega)]; omega) ?_)
      rw [nI_and, nI_dif hMS hG]
      refine Ok.cv (nI_q0 (by omega)) (Ok.ite (fun c0 => Ok.ret ⟨rfl, ?_⟩) (fun c0 => ?_))
      · rw [rcm_of hw hn hM h0 h1 (fun r q hr hs hq => ?_)]
        refine h2 r q ?_ hq
        have := (dif_b (b := G) (k := r) hMS)
        rw [c0, Nat.zero_testBit] at this
        cases e : G.testBit r
        · exact absurd (this.mpr ⟨and_bit.mpr ⟨hr, hs⟩, e⟩) (by decide)
        · rfl
      · have hMn : M < 2 ^ n ∨ True := Or.inr trivial
        refine Ok.bq (a := nI (M ||| orw (dif (M &&& S) G) (nr w) n)) (t := t) (wq0 n (fun i => (nI (M ||| orw (dif (M &&& S) G) (nr w) i), nI i)) (by show (nI M, nI 0) = (nI (M ||| 0), nI 0); rw [Nat.or_zero]) (fun i hi => ?_) ?_) (Ok.ret ?_)
        · unfold SX6_neighbours_50
          dsimp only
          refine Ok.rdE h.1 (Ok.ifF (by rw [nI_leP (by omega) (by omega)]; omega) ?_)
          refine Ok.bq (a := nI (M ||| orw (dif (M &&& S) G) (nr w) (i + 1))) (t := t) (Ok.eq (Ok.cv (bitn (by omega) (by omega)) (Ok.ite (fun c1 => Ok.ret ⟨rfl, ?_⟩) (fun c1 => Ok.ckT (inb_n (by omega) (by omega)) ?_)))) (Ok.ret ⟨rfl, by rw [nI_1]⟩)
          · show _ = nI (M ||| (orw (dif (M &&& S) G) (nr w) i ||| _))
            rw [if_neg (by rw [c1]; decide), Nat.or_zero]
          · rw [nI_cl (by omega)]
            refine Ok.rdE (h.2.2.1 i (by omega)) (Ok.ret ⟨rfl, ?_⟩)
            show _ = nI (M ||| (orw (dif (M &&& S) G) (nr w) i ||| _))
            rw [if_pos (bT c1), nI_or, Nat.or_assoc]
        · unfold SX6_neighbours_50
          dsimp only
          exact Ok.rdE h.1 (Ok.ifT (by rw [nI_leP (by omega) (by omega)]; omega) (Ok.ret ⟨rfl, rfl⟩))
        · refine ⟨rfl, M ||| orw (dif (M &&& S) G) (nr w) n, G ||| dif (M &&& S) G, or9 hM (orw_lt (fun _ => nr_lt)), or9 hG hW, by rw [nI_or, nI_1], fun q hq => ?_, fun q hq => or_b.mpr (Or.inl (h1 q hq)), fun r q hr hq => ?_, ?_⟩
          · rcases or_b.mp hq with a | a
            · exact h0 q a
            · obtain ⟨i, -, hi2, hi3⟩ := orw_bit.mp a
              have h3 := and_bit.mp ((dif_b hMS).mp hi2).1
              exact (h0 i h3.1).on h3.2 ((nr_b hw hn).mp hi3)
          · rcases or_b.mp hr with a | a
            · exact or_b.mpr (Or.inl (h2 r q a hq))
            · exact or_b.mpr (Or.inr (orw_bit.mpr ⟨r, (hw.b hq).1, a, (nr_b hw hn).mpr hq⟩))
          · have hWn : dif (M &&& S) G < 2 ^ n := by
              have : dif (M &&& S) G = mkm n (fun i => (dif (M &&& S) G).testBit i) := by
                refine bit_ext (n := 9) hW (Nat.lt_of_lt_of_le mkm_lt (pow9 (by omega))) (fun k hk => ?_)
                rw [mkm_bit]
                by_cases e : k < n
                · simp [e]
                · simp only [e, decide_false, Bool.false_and]
                  refine bF (fun q => e ?_)
                  have h3 := (and_bit.mp ((dif_b hMS).mp q).1).1
                  have h4 := h0 k h3 (fun k => k < n) (fun r hr => (hw.b hr).2) (fun r r' _ _ hr => (hw.b hr).2)
                  exact h4
              rw [this]
              exact mkm_lt
            have := cnt_more (S := G) c0 hWn (fun k hk => ((dif_b hMS).mp hk).2)
            omega
    · rintro c s ⟨rfl, M, G, hM, hG, rfl, h0, h1, h2, hc⟩
      unfold SX6_neighbours_13
      dsimp only
      refine Ok.rdE h.1 (Ok.ifT (by rw [nI_leP (by omega) (by omega)]; omega) (Ok.ret ⟨rfl, ?_⟩))
      have hall : ∀ r, r < n → G.testBit r = true := cnt_full (by have := cnt_le (S := G) (n := n); omega)
      rw [rcm_of hw hn hM h0 h1 (fun r q hr hs hq => h2 r q (hall r (hw.b hq).1) hq)]
  · rw [nI_dif rcm_lt hS, shl_1 (by omega), nI_dif (dif_lt rcm_lt) (pw9 hp)]
    rfl
theorem q_neighboursM {s n : Nat} {w : Nat → Nat → Nat} {t : St} (h : RN s n w t) (hs : s < 3) (hw : WF n w) (hn : n < 10) {S p : Nat} (hS : S < 512) (hp : p < 9) : FX12_neighbours (nI s) (nI S) (nI p) t = some (nI (nbm w S p), t) := by
  refine Ok.eq ?_
  unfold FX12_neighbours
  refine Ok.bq (q_nearOf h hs hn hw hp) (Ok.bq (a := nI (rcm w S p)) (t := t) (Ok.eq ?_) (Ok.ret ⟨rfl, ?_⟩))
  · refine Ok.loop (fun k c s' => t = s' ∧ ∃ M H, M < 512 ∧ H < 512 ∧ c = (nI M, nI H) ∧ (∀ q, M.testBit q = true → Rch w S p q) ∧ (∀ q, 0 < w p q → M.testBit q = true) ∧ (∀ r q, H.testBit r = true → S.testBit r = true → 0 < w r q → M.testBit q = true) ∧ (∀ q, H.testBit q = true → M.testBit q = true) ∧ k = 2 * (9 - cnt M 9) + (if H = M then 0 else 1)) ?_ _ _ _ ⟨rfl, nr w p, 0, nr_lt, by omega, rfl, fun q hq => Rch.one ((nr_b hw hn).mp hq), fun q hq => (nr_b hw hn).mpr hq, fun r q hr => (by rw [Nat.zero_testBit] at hr; cases hr), fun q hq => (by rw [Nat.zero_testBit] at hq; cases hq), rfl⟩
    rintro k c s' ⟨rfl, M, H, hM, hH, rfl, h0, h1, h2, h3, rfl⟩
    unfold SX12_neighbours_11
    dsimp only
    refine Ok.cv (nI_eqP (by omega) (by omega)) (Ok.ite (fun e => Ok.ret ⟨rfl, ?_⟩) (fun e => ?_))
    · subst e
      rw [rcm_of hw hn hM h0 h1 h2]
    · refine Ok.bq (a := nI (M ||| orw (M &&& S) (nr w) n)) (t := t) (wq0 n (fun i => (nI (M ||| orw (M &&& S) (nr w) i), nI i)) (by show (nI M, nI 0) = (nI (M ||| 0), nI 0); rw [Nat.or_zero]) (fun i hi => ?_) ?_) (Ok.ret ?_)
      · unfold SX12_neighbours_25
        dsimp only
        have hMS : M &&& S < 512 := and9 hM
        refine Ok.bq (q_points h hs) (Ok.ifF (by rw [nI_leP (by omega) (by omega)]; omega) ?_)
        rw [nI_and]
        refine Ok.bq (q_has (by omega) (by omega)) ?_
        refine Ok.bq (a := nI (if (M &&& S).testBit i = true then nr w i else 0)) (t := t) (Ok.eq (Ok.cv b01 (Ok.ite (fun c1 => Ok.ret ⟨rfl, ?_⟩) (fun c1 => Ok.bq (q_nearOf h hs hn hw (by omega)) (Ok.ret ⟨rfl, ?_⟩))))) (Ok.ret ⟨rfl, ?_⟩)
        · rw [if_neg (by rw [c1]; decide)]
          rfl
        · rw [if_pos (bT c1)]
        · rw [nI_or, nI_1, Nat.or_assoc]
          rfl
      · unfold SX12_neighbours_25
        dsimp only
        exact Ok.bq (q_points h hs) (Ok.ifT (by rw [nI_leP (by omega) (by omega)]; omega) (Ok.ret ⟨rfl, rfl⟩))
      · have hO : orw (M &&& S) (nr w) n < 512 := orw_lt (fun _ => nr_lt)
        have hsub : cnt M 9 ≤ cnt (M ||| orw (M &&& S) (nr w) n) 9 := cnt_mn (fun k hk => or_b.mpr (Or.inl hk))
        have hc9 : cnt (M ||| orw (M &&& S) (nr w) n) 9 ≤ 9 := cnt_le
        refine ⟨2 * (9 - cnt (M ||| orw (M &&& S) (nr w) n) 9) + (if M = M ||| orw (M &&& S) (nr w) n then 0 else 1), ?_, rfl, M ||| orw (M &&& S) (nr w) n, M, or9 hM hO, hM, rfl, fun q hq => ?_, fun q hq => or_b.mpr (Or.inl (h1 q hq)), fun r q hr hs hq => or_b.mpr (Or.inr (orw_bit.mpr ⟨r, (hw.b hq).1, and_bit.mpr ⟨hr, hs⟩, (nr_b hw hn).mpr hq⟩)), fun q hq => or_b.mpr (Or.inl hq), rfl⟩
        · rw [if_neg e]
          by_cases e2 : M = M ||| orw (M &&& S) (nr w) n
          · rw [if_pos e2, ← e2]
            omega
          · rw [if_neg e2]
            have : cnt M 9 + 1 ≤ cnt (M ||| orw (M &&& S) (nr w) n) 9 := by
              have hd : dif (orw (M &&& S) (nr w) n) M ≠ 0 := by
                intro q
                refine e2 (bit_ext (n := 9) hM (or9 hM hO) (fun k hk => ?_))
                rw [Nat.testBit_or]
                cases a : M.testBit k
                · have := dif_bit (b := M) (k := k) hO
                  rw [q, Nat.zero_testBit, a] at this
                  simpa using this
                · rfl
              have h5 := cnt_more (S := M) (n := 9) hd (dif_lt hO) (fun k hk => ((dif_b hO).mp hk).2)
              have h6 : cnt (M ||| dif (orw (M &&& S) (nr w) n) M) 9 ≤ cnt (M ||| orw (M &&& S) (nr w) n) 9 := cnt_mn (fun k hk => by
                rcases or_b.mp hk with a | a
                · exact or_b.mpr (Or.inl a)
                · exact or_b.mpr (Or.inr ((dif_b hO).mp a).1))
              omega
            omega
        · rcases or_b.mp hq with a | a
          · exact h0 q a
          · obtain ⟨i, -, hi2, hi3⟩ := orw_bit.mp a
            have h4 := and_bit.mp hi2
            exact (h0 i h4.1).on h4.2 ((nr_b hw hn).mp hi3)
  · rw [nI_dif rcm_lt hS, shl_1 (by omega), nI_dif (dif_lt rcm_lt) (pw9 hp)]
    rfl
