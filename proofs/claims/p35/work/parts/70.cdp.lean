section
/-! the class's steps, over all sets -/
theorem xr_all : ∀ A, A < 512 → ∀ p, p < 9 → A.testBit p = true → (A ^^^ 2 ^ p).testBit p = false ∧ (A ^^^ 2 ^ p) ||| 2 ^ p = A ∧ A ^^^ 2 ^ p < A := by decide +kernel
theorem or_xr {S p : Nat} (hS : S < 512) (hp : p < 9) (hb : S.testBit p = false) : (S ||| 2 ^ p) ^^^ 2 ^ p = S := by
  refine bit_ext (n := 9) (xor9 (or9 hS (pw9 hp)) (pw9 hp)) hS (fun k hk => ?_)
  rw [Nat.testBit_xor, Nat.testBit_or, pow_bit]
  by_cases e : p = k
  · subst e
    rw [hb]
    simp
  · simp [e]
theorem or_p {S p : Nat} : (S ||| 2 ^ p).testBit p = true := by rw [Nat.testBit_or, pow_bit]; simp
/-- the steps of measure m lie in the array ta -/
def STP (ta n : Nat) (f : Nat → Nat → Nat) (t : St) : Prop := ∀ S p, S < 2 ^ n → p < n → S.testBit p = false → t ta (S * 9 + p) = nI (f S p)
theorem prc_p {n : Nat} {w : Nat → Nat → Nat} {m A p q : Nat} (h : ¬ (m = 5 ∨ m = 6)) : prc n w m A p = prc n w m A q := by
  unfold prc
  rw [if_neg (by omega), if_neg (by omega), if_neg (by omega), if_neg (by omega)]
theorem e_steps0 {x n l ta : Nat} {w : Nat → Nat → Nat} {t : St} (h : CN x n l w t) (g : netAt x = true) (hw : WF n w) (hn : n < 10) {m : Nat} (hm : m < 7) (h56 : ¬ (m = 5 ∨ m = 6)) (hl : ilen ta = 4608) (hta : ta ≠ x ∧ ta ≠ x + 1 ∧ ta ≠ x + 3) : Ok (wh (SX9_fillSteps_18 x (nI m) ta) (0 : Int32) t) (fun _ u => (∀ c, c ≠ ta → u c = t c) ∧ STP ta n (cst n w m) u) := by
  have h2 := Nat.two_pow_pos n
  have h3 := pow9 (k := n) (by omega)
  refine Ok.count (2 ^ n) (fun A c s => c = nI A ∧ (∀ c, c ≠ ta → s c = t c) ∧ ∀ S p, S < 2 ^ n → p < n → S.testBit p = false → S ||| 2 ^ p < A → s ta (S * 9 + p) = nI (cst n w m S p)) ?_ ?_ (Nat.zero_le _) ⟨rfl, fun _ _ => rfl, fun S p _ _ _ hh => by omega⟩
  · rintro A c s hA ⟨rfl, hf, hI⟩
    have hs : CN x n l w s := h.fr (hf _ (by omega)) (hf _ (by omega)) (hf _ (by omega))
    unfold SX9_fillSteps_18
    refine Ok.bd (fun r u => s = u ∧ r = nI (2 ^ n - 1)) (e_allBits hs hn g ⟨rfl, rfl⟩) ?_
    rintro _ _ ⟨rfl, rfl⟩
    refine Ok.ifF (by rw [nI_ltP (by omega) (by omega)]; omega) (Ok.bq (q_of hs g hw hn (p := 0) hm (by omega) (fun q => absurd q h56)) ?_)
    refine Ok.bd (fun _ u => (∀ c, c ≠ ta → u c = t c) ∧ ∀ S p, S < 2 ^ n → p < n → S.testBit p = false → S ||| 2 ^ p < A + 1 → u ta (S * 9 + p) = nI (cst n w m S p)) ?_ ?_
    · refine Ok.count n (fun j c u => c = nI j ∧ (∀ c, c ≠ ta → u c = t c) ∧ ∀ S p, S < 2 ^ n → p < n → S.testBit p = false → (S ||| 2 ^ p < A ∨ (S ||| 2 ^ p = A ∧ p < j)) → u ta (S * 9 + p) = nI (cst n w m S p)) ?_ ?_ (Nat.zero_le _) ⟨rfl, hf, fun S p a1 a2 a3 a4 => hI S p a1 a2 a3 (by omega)⟩
      · rintro j c u hj ⟨rfl, uf, uI⟩
        have hu : CN x n l w u := h.fr (uf _ (by omega)) (uf _ (by omega)) (uf _ (by omega))
        unfold SX9_fillSteps_40
        refine Ok.rdE hu.1 (Ok.ifF (by rw [nI_leP (by omega) (by omega)]; omega) ?_)
        refine Ok.bd (fun _ v => (∀ c, c ≠ ta → v c = t c) ∧ ∀ S p, S < 2 ^ n → p < n → S.testBit p = false → (S ||| 2 ^ p < A ∨ (S ||| 2 ^ p = A ∧ p < j + 1)) → v ta (S * 9 + p) = nI (cst n w m S p)) ?_ ?_
        · refine Ok.cv (bitn (by omega) (by omega)) (Ok.ite (fun c0 => Ok.ret ⟨uf, fun S p a1 a2 a3 a4 => ?_⟩) (fun c0 => ?_))
          · refine uI S p a1 a2 a3 ?_
            rcases a4 with a4 | ⟨a4, a5⟩
            · exact Or.inl a4
            · by_cases e : p = j
              · subst e
                rw [← a4, or_p] at c0
                cases c0
              · exact Or.inr ⟨a4, by omega⟩
          · have c1 := bT c0
            obtain ⟨x1, x2, x3⟩ := xr_all A (by omega) j (by omega) c1
            rw [shl_1 (by omega), nI_xor, li_9, nI_mul, nI_add, hl]
            refine Ok.ckT (inb_n (by omega) (by omega)) (OkwrE (Ok.ret ⟨fun c hc => by rw [wr_off c hc]; exact uf c hc, fun S p a1 a2 a3 a4 => ?_⟩))
            rw [nI_cl (by omega)]
            by_cases e : S = A ^^^ 2 ^ j ∧ p = j
            · obtain ⟨rfl, rfl⟩ := e
              rw [wrs]
              unfold cst ast
              rw [if_neg h56, x2, prc_p h56]
            · rw [wrn (by omega)]
              refine uI S p a1 a2 a3 ?_
              rcases a4 with a4 | ⟨a4, a5⟩
              · exact Or.inl a4
              · refine Or.inr ⟨a4, ?_⟩
                by_cases e2 : p = j
                · subst e2
                  refine absurd ⟨?_, rfl⟩ e
                  rw [← a4, or_xr (by omega) (by omega) a3]
                · omega
        · rintro _ v ⟨vf, vI⟩
          exact Ok.ret ⟨nI_1 j, vf, vI⟩
      · rintro c u ⟨rfl, uf, uI⟩
        have hu : CN x n l w u := h.fr (uf _ (by omega)) (uf _ (by omega)) (uf _ (by omega))
        unfold SX9_fillSteps_40
        exact Ok.rdE hu.1 (Ok.ifT (by rw [nI_leP (by omega) (by omega)]; omega) (Ok.ret ⟨uf, fun S p a1 a2 a3 a4 => uI S p a1 a2 a3 (by omega)⟩))
    · rintro _ u ⟨uf, uI⟩
      exact Ok.ret ⟨nI_1 A, uf, uI⟩
  · rintro c s ⟨rfl, hf, hI⟩
    have hs : CN x n l w s := h.fr (hf _ (by omega)) (hf _ (by omega)) (hf _ (by omega))
    unfold SX9_fillSteps_18
    refine Ok.bd (fun r u => s = u ∧ r = nI (2 ^ n - 1)) (e_allBits hs hn g ⟨rfl, rfl⟩) ?_
    rintro _ _ ⟨rfl, rfl⟩
    exact Ok.ifT (by rw [nI_ltP (by omega) (by omega)]; omega) (Ok.ret ⟨hf, fun S p a1 a2 a3 => hI S p a1 a2 a3 (set_up a1 a2 a3).2.1⟩)
/-! what is around, set by set -/
theorem nbm_0 {n : Nat} {w : Nat → Nat → Nat} (hw : WF n w) (hn : n < 10) {p : Nat} : nbm w 0 p = nr w p := by
  refine bit_ext (n := 9) nbm_lt nr_lt (fun q hq => ?_)
  cases e : (nr w p).testBit q
  · refine bF (fun a => ?_)
    have h1 := ((nbm_bit hq).mp a).1 (fun q => 0 < w p q) (fun r hr => hr) (fun r r' _ hr => (by rw [Nat.zero_testBit] at hr; cases hr))
    rw [(nr_b hw hn).mpr h1] at e
    cases e
  · have h1 := (nr_b hw hn).mp e
    refine (nbm_bit hq).mpr ⟨Rch.one h1, Nat.zero_testBit _, fun a => ?_⟩
    subst a
    rw [hw.2.2.1 p] at h1
    omega
theorem nbm_add {w : Nat → Nat → Nat} {S v p : Nat} (hv : v < 9) (hp : p < 9) (hvp : p ≠ v) (hvS : S.testBit v = false) : nbm w (S ||| 2 ^ v) p = if (nbm w S p).testBit v = true then dif (nbm w S p ||| nbm w S v) (2 ^ p ||| 2 ^ v) else nbm w S p := by
  refine bit_ext (n := 9) nbm_lt (by split; exact dif_lt (or9 nbm_lt nbm_lt); exact nbm_lt) (fun q hq => ?_)
  have hb : (S ||| 2 ^ v).testBit q = (S.testBit q || decide (v = q)) := by rw [Nat.testBit_or, pow_bit]
  have iff : (nbm w (S ||| 2 ^ v) p).testBit q = true ↔ (if (nbm w S p).testBit v = true then dif (nbm w S p ||| nbm w S v) (2 ^ p ||| 2 ^ v) else nbm w S p).testBit q = true := by
    rw [nbm_bit hq, Rch.add, hb]
    by_cases c : (nbm w S p).testBit v = true
    · rw [if_pos c, dif_b (or9 nbm_lt nbm_lt), or_b, nbm_bit hq, nbm_bit hq, Nat.testBit_or, pow_bit, pow_bit]
      have hc := (nbm_bit hv).mp c
      simp only [Bool.or_eq_false_iff, decide_eq_false_iff_not]
      constructor
      · rintro ⟨h1, ⟨h2, h3⟩, h4⟩
        rcases h1 with h1 | ⟨-, h1⟩
        · exact ⟨Or.inl ⟨h1, h2, h4⟩, h4, h3⟩
        · exact ⟨Or.inr ⟨h1, h2, h3⟩, h4, h3⟩
      · rintro ⟨h1, h2, h3⟩
        rcases h1 with ⟨h1, h4, -⟩ | ⟨h1, h4, -⟩
        · exact ⟨Or.inl h1, ⟨h4, h3⟩, h2⟩
        · exact ⟨Or.inr ⟨hc.1, h1⟩, ⟨h4, h3⟩, h2⟩
    · rw [if_neg c, nbm_bit hq]
      simp only [Bool.or_eq_false_iff, decide_eq_false_iff_not]
      have hn : ¬ Rch w S p v := fun r => c ((nbm_bit hv).mpr ⟨r, hvS, hvp⟩)
      constructor
      · rintro ⟨h1, ⟨h2, h3⟩, h4⟩
        rcases h1 with h1 | ⟨h1, -⟩
        · exact ⟨h1, h2, h4⟩
        · exact absurd h1 hn
      · rintro ⟨h1, h2, h4⟩
        refine ⟨Or.inl h1, ⟨h2, fun e => ?_⟩, h4⟩
        subst e
        exact hn h1
  cases e : (nbm w (S ||| 2 ^ v) p).testBit q
  · exact (bF (fun a => by rw [iff.mpr a] at e; cases e)).symm
  · exact (iff.mp e).symm
theorem low_set : ∀ S, S < 512 → ∀ p, p < 9 → S.testBit p = true → (∀ q, q < p → S.testBit q = false) → S &&& (S - 1) = dif S (2 ^ p) := by decide +kernel
theorem q_lowest {S p : Nat} (hS : S < 512) (hp : p < 9) (hb : S.testBit p = true) (hl : ∀ q, q < p → S.testBit q = false) {t : St} : FX9_lowest (nI S) t = some (nI p, t) := by
  refine Ok.eq ?_
  unfold FX9_lowest
  refine Ok.bq (a := Sum.inl (nI p)) (t := t) (wq p (fun j => nI j) (fun j hj => ?_) ?_) (Ok.el (Ok.ret ⟨rfl, rfl⟩))
  · unfold SX9_lowest_2
    exact Ok.ifF (by rw [li_9, nI_leP (by omega) (by omega)]; omega) (Ok.ifT (by rw [bitn (by omega) (by omega)]; exact hl j hj) (Ok.ret ⟨rfl, by rw [nI_1]⟩))
  · unfold SX9_lowest_2
    exact Ok.ifF (by rw [li_9, nI_leP (by omega) (by omega)]; omega) (Ok.ifF (by rw [bitn (by omega) (by omega), hb]; decide) (Ok.ret ⟨rfl, rfl⟩))
theorem has_low {S : Nat} (hS : S < 512) (h0 : S ≠ 0) : ∃ p, p < 9 ∧ S.testBit p = true ∧ ∀ q, q < p → S.testBit q = false := by
  have key : ∀ k, k ≤ 9 → (∃ p, p < k ∧ S.testBit p = true ∧ ∀ q, q < p → S.testBit q = false) ∨ ∀ q, q < k → S.testBit q = false := by
    intro k
    induction k with
    | zero => intro _; exact Or.inr (fun q hq => by omega)
    | succ k ih =>
      intro hk
      rcases ih (by omega) with ⟨p, a, b, c⟩ | h
      · exact Or.inl ⟨p, by omega, b, c⟩
      · cases e : S.testBit k
        · refine Or.inr (fun q hq => ?_)
          by_cases e2 : q = k
          · rw [e2]; exact e
          · exact h q (by omega)
        · exact Or.inl ⟨k, by omega, e, h⟩
  rcases key 9 (Nat.le_refl _) with h | h
  · exact h
  · exact absurd (bit_ext (n := 9) hS (by decide) (fun k hk => by rw [h k hk, Nat.zero_testBit])) h0
theorem dif_or {S v : Nat} (hS : S < 512) (hv : v < 9) (hb : S.testBit v = true) : dif S (2 ^ v) ||| 2 ^ v = S ∧ (dif S (2 ^ v)).testBit v = false ∧ dif S (2 ^ v) < S := by
  have h1 : dif S (2 ^ v) ||| 2 ^ v = S := by
    refine bit_ext (n := 9) (or9 (dif_lt hS) (pw9 hv)) hS (fun k hk => ?_)
    rw [Nat.testBit_or, dif_bit hS, pow_bit]
    by_cases e : v = k
    · subst e; rw [hb]; simp
    · simp [e]
  have h2 : (dif S (2 ^ v)).testBit v = false := by rw [dif_bit hS, pow_bit]; simp
  refine ⟨h1, h2, ?_⟩
  have h3 : dif S (2 ^ v) ≤ S := by unfold dif; exact Nat.and_le_left
  have h4 : dif S (2 ^ v) ≠ S := fun e => by rw [e, hb] at h2; cases h2
  omega
theorem e_around {x n l : Nat} {w : Nat → Nat → Nat} {t : St} (h : CN x n l w t) (g : netAt x = true) (hw : WF n w) (hn : n < 10) (h87 : 87 ≠ x ∧ 87 ≠ x + 1 ∧ 87 ≠ x + 3) : Ok (FX9_fillAround x t) (fun _ u => (∀ c, c ≠ 87 → u c = t c) ∧ STP 87 n (nbm w) u) := by
  have h2 := Nat.two_pow_pos n
  have h3 := pow9 (k := n) (by omega)
  unfold FX9_fillAround
  refine Ok.ckT g (Ok.bd (fun _ u => (∀ c, c ≠ 87 → u c = t c) ∧ ∀ p, p < n → u 87 p = nI (nbm w 0 p)) ?_ ?_)
  · refine Ok.count n (fun j c u => c = nI j ∧ (∀ c, c ≠ 87 → u c = t c) ∧ ∀ p, p < j → u 87 p = nI (nbm w 0 p)) ?_ ?_ (Nat.zero_le _) ⟨rfl, fun _ _ => rfl, fun p hp => by omega⟩
    · rintro j c u hj ⟨rfl, uf, uI⟩
      have hu : CN x n l w u := h.fr (uf _ (by omega)) (uf _ (by omega)) (uf _ (by omega))
      unfold SX9_fillAround_2
      refine Ok.rdE hu.1 (Ok.ifF (by rw [nI_leP (by omega) (by omega)]; omega) (Ok.ckT (inb_n (by omega) (by omega)) ?_))
      rw [nI_cl (by omega)]
      refine Ok.rdE (hu.2.2.1 j (by omega)) (Ok.ckT (inb_n (by omega) (by omega)) (OkwrE (Ok.ret ⟨nI_1 j, fun c hc => by rw [wr_off c hc]; exact uf c hc, fun p hp => ?_⟩)))
      by_cases e : p = j
      · subst e; rw [wrs, nbm_0 hw hn]
      · rw [wrn e]; exact uI p (by omega)
    · rintro c u ⟨rfl, uf, uI⟩
      have hu : CN x n l w u := h.fr (uf _ (by omega)) (uf _ (by omega)) (uf _ (by omega))
      unfold SX9_fillAround_2
      exact Ok.rdE hu.1 (Ok.ifT (by rw [nI_leP (by omega) (by omega)]; omega) (Ok.ret ⟨uf, uI⟩))
  · rintro _ t1 ⟨f1, I1⟩
    refine Ok.bd (fun _ u => (∀ c, c ≠ 87 → u c = t c) ∧ STP 87 n (nbm w) u) ?_ (fun _ u hu => Ok.ret hu)
    refine Ok.count (2 ^ n) (fun A c u => c = nI A ∧ 1 ≤ A ∧ (∀ c, c ≠ 87 → u c = t c) ∧ ∀ S p, S < A → S < 2 ^ n → p < n → S.testBit p = false → u 87 (S * 9 + p) = nI (nbm w S p)) ?_ ?_ (j := 1) (by omega) ⟨rfl, Nat.le_refl _, f1, fun S p a1 _ a3 _ => ?_⟩
    · rintro A c u hA ⟨rfl, hA1, uf, uI⟩
      have hu : CN x n l w u := h.fr (uf _ (by omega)) (uf _ (by omega)) (uf _ (by omega))
      obtain ⟨v, hv, hvb, hvl⟩ := has_low (S := A) (by omega) (by omega)
      obtain ⟨o1, o2, o3⟩ := dif_or (S := A) (v := v) (by omega) hv hvb
      have hvn : v < n := by
        refine Decidable.byContradiction (fun q => ?_)
        rw [lt_pow_bit hA (by omega)] at hvb
        cases hvb
      unfold SX9_fillAround_30
      refine Ok.bd (fun r s => u = s ∧ r = nI (2 ^ n - 1)) (e_allBits hu hn g ⟨rfl, rfl⟩) ?_
      rintro _ _ ⟨rfl, rfl⟩
      refine Ok.ifF (by rw [nI_ltP (by omega) (by omega)]; omega) (Ok.bq (q_lowest (by omega) hv hvb hvl) ?_)
      rw [(low_all A (by omega) (by omega)).1, low_set A (by omega) v hv hvb hvl, li_9, nI_mul]
      refine Ok.bd (fun _ s => (∀ c, c ≠ 87 → s c = t c) ∧ ∀ S p, S < A + 1 → S < 2 ^ n → p < n → S.testBit p = false → s 87 (S * 9 + p) = nI (nbm w S p)) ?_ (fun _ s hs => Ok.ret ⟨nI_1 A, by omega, hs⟩)
      refine Ok.count n (fun j c s => c = nI j ∧ (∀ c, c ≠ 87 → s c = t c) ∧ ∀ S p, (S < A ∨ (S = A ∧ p < j)) → S < 2 ^ n → p < n → S.testBit p = false → s 87 (S * 9 + p) = nI (nbm w S p)) ?_ ?_ (Nat.zero_le _) ⟨rfl, uf, fun S p a1 => uI S p (by omega)⟩
      · rintro j c s hj ⟨rfl, sf, sI⟩
        have hs : CN x n l w s := h.fr (sf _ (by omega)) (sf _ (by omega)) (sf _ (by omega))
        unfold SX9_fillAround_56
        refine Ok.rdE hs.1 (Ok.ifF (by rw [nI_leP (by omega) (by omega)]; omega) ?_)
        refine Ok.bd (fun _ y => (∀ c, c ≠ 87 → y c = t c) ∧ ∀ S p, (S < A ∨ (S = A ∧ p < j + 1)) → S < 2 ^ n → p < n → S.testBit p = false → y 87 (S * 9 + p) = nI (nbm w S p)) ?_ (fun _ y hy => Ok.ret ⟨nI_1 j, hy⟩)
        refine Ok.cv (bitn (by omega) (by omega)) (Ok.ite (fun c0 => ?_) (fun c0 => Ok.ret ⟨sf, fun S p a1 a2 a3 a4 => ?_⟩))
        · have hd9 : dif A (2 ^ v) < 512 := dif_lt (by omega)
          have hjv : j ≠ v := fun e => by subst e; rw [hvb] at c0; cases c0
          have hjd : (dif A (2 ^ v)).testBit j = false := by rw [dif_bit (by omega), c0]; rfl
          rw [nI_add]
          refine Ok.ckT (inb_n (by omega) (by omega)) ?_
          rw [nI_cl (by omega)]
          have e1 := sI (dif A (2 ^ v)) j (Or.inl o3) (by omega) (by omega) hjd
          have e2 := sI (dif A (2 ^ v)) v (Or.inl o3) (by omega) hvn o2
          have hnj := nbm_lt (w := w) (S := dif A (2 ^ v)) (p := j)
          have hnv := nbm_lt (w := w) (S := dif A (2 ^ v)) (p := v)
          refine Ok.rdE e1 (Ok.bq (a := nI (nbm w A j)) (t := s) (Ok.eq ?_) ?_)
          · have hadd := nbm_add (w := w) (S := dif A (2 ^ v)) (v := v) (p := j) hv (by omega) hjv o2
            rw [o1] at hadd
            refine Ok.cv (bitn (by omega) (by omega)) (Ok.ite (fun c1 => Ok.ret ⟨rfl, ?_⟩) (fun c1 => ?_))
            · rw [hadd, if_neg (by rw [c1]; decide)]
            · rw [nI_add]
              refine Ok.ckT (inb_n (by omega) (by omega)) ?_
              rw [nI_cl (by omega)]
              refine Ok.rdE e2 (Ok.ret ⟨rfl, ?_⟩)
              rw [shl_1 (by omega), shl_1 (by omega), nI_or, nI_or, nI_dif (or9 hnj hnv) (or9 (pw9 (by omega)) (pw9 hv)), hadd, if_pos (bT c1)]
          · rw [li_9, nI_mul, nI_add]
            refine Ok.ckT (inb_n (by omega) (by omega)) (OkwrE (Ok.ret ⟨fun c hc => by rw [wr_off c hc]; exact sf c hc, fun S p a1 a2 a3 a4 => ?_⟩))
            rw [nI_cl (by omega)]
            by_cases e : S = A ∧ p = j
            · obtain ⟨rfl, rfl⟩ := e
              rw [wrs]
            · rw [wrn (by omega)]
              exact sI S p (by omega) a2 a3 a4
        · refine sI S p ?_ a2 a3 a4
          rcases a1 with a1 | ⟨rfl, a1⟩
          · exact Or.inl a1
          · refine Or.inr ⟨rfl, ?_⟩
            by_cases e : p = j
            · subst e; exact absurd a4 c0
            · omega
      · rintro c s ⟨rfl, sf, sI⟩
        have hs : CN x n l w s := h.fr (sf _ (by omega)) (sf _ (by omega)) (sf _ (by omega))
        unfold SX9_fillAround_56
        exact Ok.rdE hs.1 (Ok.ifT (by rw [nI_leP (by omega) (by omega)]; omega) (Ok.ret ⟨sf, fun S p a1 a2 a3 => sI S p (by omega) a2 a3⟩))
    · rintro c u ⟨rfl, hA1, uf, uI⟩
      have hu : CN x n l w u := h.fr (uf _ (by omega)) (uf _ (by omega)) (uf _ (by omega))
      unfold SX9_fillAround_30
      refine Ok.bd (fun r s => u = s ∧ r = nI (2 ^ n - 1)) (e_allBits hu hn g ⟨rfl, rfl⟩) ?_
      rintro _ _ ⟨rfl, rfl⟩
      exact Ok.ifT (by rw [nI_ltP (by omega) (by omega)]; omega) (Ok.ret ⟨uf, fun S p a1 a2 a3 => uI S p a1 a1 a2 a3⟩)
    · have : S = 0 := by omega
      subst this
      rw [Nat.zero_mul, Nat.zero_add]
      exact I1 p a3
end
section
/-! the class's search over all sets -/
theorem q_newLines9 {x n l : Nat} {w : Nat → Nat → Nat} {t : St} (h : CN x n l w t) (g : netAt x = true) (hn : n < 10) (hA : STP 87 n (nbm w) t) {S p : Nat} (hS : S < 2 ^ n) (hp : p < n) (hb : S.testBit p = false) : FX9_newLines x (nI S) (nI (nbm w S p)) t = some (nI (fil n w S p), t) := by
  have h3 := pow9 (k := n) (by omega)
  refine Ok.eq ?_
  unfold FX9_newLines
  generalize hF : (fun a => if (nbm w S p).testBit a = true then cnt (dif (dif (nbm w S p) (nbm w S a)) (2 ^ (a + 1) - 1)) 9 else 0) = F
  have eF : fil n w S p = sm n F := by unfold fil; rw [hF]
  rw [eF]
  refine Ok.ckT g (Ok.bq (a := nI (sm n F)) (t := t) (wq n (fun j => (nI (sm j F), nI j)) (fun j hj => ?_) ?_) (Ok.ret ⟨rfl, rfl⟩))
  · unfold SX9_newLines_6
    dsimp only
    have hFj : F j = if (nbm w S p).testBit j = true then cnt (dif (dif (nbm w S p) (nbm w S j)) (2 ^ (j + 1) - 1)) 9 else 0 := by rw [← hF]
    have hnb := nbm_lt (w := w) (S := S) (p := p)
    refine Ok.rdE h.1 (Ok.ifF (by rw [nI_leP (by omega) (by omega)]; omega) ?_)
    refine Ok.bq (a := nI (sm (j + 1) F)) (t := t) (Ok.eq ?_) (Ok.ret ⟨rfl, by rw [nI_1]⟩)
    show Ok _ (fun r u => t = u ∧ r = nI (sm j F + F j))
    refine Ok.cv (bitn (by omega) (by omega)) (Ok.ite (fun c => Ok.ret ⟨rfl, ?_⟩) (fun c => ?_))
    · rw [hFj, if_neg (by rw [c]; decide), Nat.add_zero]
    · have c := bT c
      have hj2 : S.testBit j = false := ((nbm_bit (by omega)).mp c).2.1
      unfold FX6_aboveOf
      refine Ok.bq rfl ?_
      rw [li_9, nI_mul, nI_add, abv_all _ hnb _ (by omega)]
      refine Ok.ckT (inb_n (by omega) (by omega)) ?_
      rw [nI_cl (by omega)]
      refine Ok.rdE (hA S j hS hj hj2) ?_
      rw [nI_dif (dif_lt hnb) nbm_lt]
      refine Ok.bq (q_bitCount (dif_lt (dif_lt hnb))) (Ok.ret ⟨rfl, ?_⟩)
      rw [hFj, if_pos c, nI_add, dif_sw hnb]
  · unfold SX9_newLines_6
    dsimp only
    exact Ok.rdE h.1 (Ok.ifT (by rw [nI_leP (by omega) (by omega)]; omega) (Ok.ret ⟨rfl, rfl⟩))
theorem e_takings {x n l ta : Nat} {w : Nat → Nat → Nat} {t : St} (h : CN x n l w t) (g : netAt x = true) (hw : WF n w) (hn : n < 10) {m : Nat} (h56 : m = 5 ∨ m = 6) (hl : ilen ta = 4608) (hta : ta ≠ x ∧ ta ≠ x + 1 ∧ ta ≠ x + 3 ∧ ta ≠ 87) (h87 : 87 ≠ x ∧ 87 ≠ x + 1 ∧ 87 ≠ x + 3) : Ok (FX9_fillTakings x (nI m) ta t) (fun _ u => (∀ c, c ≠ ta → c ≠ 87 → u c = t c) ∧ STP ta n (cst n w m) u) := by
  have h2 := Nat.two_pow_pos n
  have h3 := pow9 (k := n) (by omega)
  unfold FX9_fillTakings
  refine Ok.ckT g (Ok.bd _ (e_around h g hw hn h87) ?_)
  rintro _ t1 ⟨f1, A1⟩
  have h1 : CN x n l w t1 := h.fr (f1 _ (by omega)) (f1 _ (by omega)) (f1 _ (by omega))
  refine Ok.bd (fun _ u => (∀ c, c ≠ ta → u c = t1 c) ∧ STP ta n (cst n w m) u) ?_ (fun _ u hu => Ok.ret ⟨fun c c1 c2 => (hu.1 c c1).trans (f1 c c2), hu.2⟩)
  refine Ok.count (2 ^ n) (fun A c u => c = nI A ∧ (∀ c, c ≠ ta → u c = t1 c) ∧ ∀ S p, S < A → S < 2 ^ n → p < n → S.testBit p = false → u ta (S * 9 + p) = nI (cst n w m S p)) ?_ ?_ (Nat.zero_le _) ⟨rfl, fun _ _ => rfl, fun S p hh => by omega⟩
  · rintro A c u hA ⟨rfl, uf, uI⟩
    have hu : CN x n l w u := h1.fr (uf _ (by omega)) (uf _ (by omega)) (uf _ (by omega))
    unfold SX9_fillTakings_8
    refine Ok.bd (fun r s => u = s ∧ r = nI (2 ^ n - 1)) (e_allBits hu hn g ⟨rfl, rfl⟩) ?_
    rintro _ _ ⟨rfl, rfl⟩
    refine Ok.ifF (by rw [nI_ltP (by omega) (by omega)]; omega) ?_
    refine Ok.bd (fun _ s => (∀ c, c ≠ ta → s c = t1 c) ∧ ∀ S p, S < A + 1 → S < 2 ^ n → p < n → S.testBit p = false → s ta (S * 9 + p) = nI (cst n w m S p)) ?_ (fun _ s hs => Ok.ret ⟨nI_1 A, hs⟩)
    refine Ok.count n (fun j c s => c = nI j ∧ (∀ c, c ≠ ta → s c = t1 c) ∧ ∀ S p, (S < A ∨ (S = A ∧ p < j)) → S < 2 ^ n → p < n → S.testBit p = false → s ta (S * 9 + p) = nI (cst n w m S p)) ?_ ?_ (Nat.zero_le _) ⟨rfl, uf, fun S p a1 => uI S p (by omega)⟩
    · rintro j c s hj ⟨rfl, sf, sI⟩
      have hs : CN x n l w s := h1.fr (sf _ (by omega)) (sf _ (by omega)) (sf _ (by omega))
      have sA : STP 87 n (nbm w) s := fun S p a1 a2 a3 => by rw [sf 87 (by omega)]; exact A1 S p a1 a2 a3
      unfold SX9_fillTakings_20
      refine Ok.rdE hs.1 (Ok.ifF (by rw [nI_leP (by omega) (by omega)]; omega) ?_)
      refine Ok.bd (fun _ y => (∀ c, c ≠ ta → y c = t1 c) ∧ ∀ S p, (S < A ∨ (S = A ∧ p < j + 1)) → S < 2 ^ n → p < n → S.testBit p = false → y ta (S * 9 + p) = nI (cst n w m S p)) ?_ (fun _ y hy => Ok.ret ⟨nI_1 j, hy⟩)
      rw [li_9, nI_mul, nI_add]
      refine Ok.cv (bitn (by omega) (by omega)) (Ok.ite (fun c0 => Ok.ckT (inb_n (by omega) (by omega)) ?_) (fun c0 => Ok.ret ⟨sf, fun S p a1 a2 a3 a4 => ?_⟩))
      · rw [nI_cl (by omega)]
        refine Ok.rdE (sA A j hA hj c0) (Ok.bq (a := nI (cst n w m A j)) (t := s) (Ok.eq ?_) ?_)
        · have hm7 : m < 7 := by omega
          rw [li_5]
          refine Ok.cv (nI_lit hm7 (by omega)) (Ok.ite (fun c5 => Ok.bq (q_bitCount nbm_lt) (Ok.ret ⟨rfl, ?_⟩)) (fun c5 => Ok.bq (q_newLines9 hs g hn sA hA hj c0) (Ok.ret ⟨rfl, ?_⟩)))
          · unfold cst prc ast
            rw [if_pos c5, if_pos (Or.inl c5)]
          · unfold cst prc ast
            rw [if_neg c5, if_pos (by omega), if_pos (by omega)]
        · rw [hl]
          refine Ok.ckT (inb_n (by omega) (by omega)) (OkwrE (Ok.ret ⟨fun c hc => by rw [wr_off c hc]; exact sf c hc, fun S p a1 a2 a3 a4 => ?_⟩))
          by_cases e : S = A ∧ p = j
          · obtain ⟨rfl, rfl⟩ := e
            rw [wrs]
          · rw [wrn (by omega)]
            exact sI S p (by omega) a2 a3 a4
      · refine sI S p ?_ a2 a3 a4
        rcases a1 with a1 | ⟨rfl, a1⟩
        · exact Or.inl a1
        · refine Or.inr ⟨rfl, ?_⟩
          by_cases e : p = j
          · subst e; exact absurd a4 c0
          · omega
    · rintro c s ⟨rfl, sf, sI⟩
      have hs : CN x n l w s := h1.fr (sf _ (by omega)) (sf _ (by omega)) (sf _ (by omega))
      unfold SX9_fillTakings_20
      exact Ok.rdE hs.1 (Ok.ifT (by rw [nI_leP (by omega) (by omega)]; omega) (Ok.ret ⟨sf, fun S p a1 a2 a3 => sI S p (by omega) a2 a3⟩))
  · rintro c u ⟨rfl, uf, uI⟩
    have hu : CN x n l w u := h1.fr (uf _ (by omega)) (uf _ (by omega)) (uf _ (by omega))
    unfold SX9_fillTakings_8
    refine Ok.bd (fun r s => u = s ∧ r = nI (2 ^ n - 1)) (e_allBits hu hn g ⟨rfl, rfl⟩) ?_
    rintro _ _ ⟨rfl, rfl⟩
    exact Ok.ifT (by rw [nI_ltP (by omega) (by omega)]; omega) (Ok.ret ⟨uf, fun S p a1 a2 a3 => uI S p a1 a1 a2 a3⟩)
theorem e_fillSteps {x n l ta : Nat} {w : Nat → Nat → Nat} {t : St} (h : CN x n l w t) (g : netAt x = true) (hw : WF n w) (hn : n < 10) {m : Nat} (hm : m < 7) (hl : ilen ta = 4608) (hta : ta ≠ x ∧ ta ≠ x + 1 ∧ ta ≠ x + 3 ∧ ta ≠ 87) (h87 : 87 ≠ x ∧ 87 ≠ x + 1 ∧ 87 ≠ x + 3) : Ok (FX9_fillSteps x (nI m) ta t) (fun _ u => (∀ c, c ≠ ta → c ≠ 87 → u c = t c) ∧ STP ta n (cst n w m) u) := by
  unfold FX9_fillSteps
  refine Ok.ckT g (Ok.bq (q_taken hm) ?_)
  by_cases c : m = 5 ∨ m = 6
  · rw [if_pos c]
    exact Ok.ifF (by decide) (Ok.bd _ (e_takings h g hw hn c hl hta h87) (fun _ u hu => Ok.ret hu))
  · rw [if_neg c]
    exact Ok.ifT rfl (Ok.bd _ (e_steps0 h g hw hn hm c hl ⟨hta.1, hta.2.1, hta.2.2.1⟩) (fun _ u hu => Ok.ret ⟨fun c c1 _ => hu.1 c c1, hu.2⟩))
theorem jn_comm {m a b : Nat} : jn m a b = jn m b a := by
  unfold jn
  split
  · exact Nat.max_comm a b
  · exact Nat.add_comm a b
/-- the least from each set on lies in the array ta -/
def RSA (ta n : Nat) (f : Nat → Nat) (t : St) : Prop := ∀ S, S < 2 ^ n → t ta S = nI (f S)
theorem nI_m1 {a : Nat} (h : 1 ≤ a) : nI a + (-1) = nI (a - 1) := by
  have e : nI a + (-1) = nI a - nI 1 := by
    show nI a + (-1) = nI a - 1
    rw [Int32.sub_eq_add_neg]
  rw [e, nI_sub h]
theorem m1_lt : ((-1 : Int32) < 0) := by decide
theorem rst_bd {n m T : Nat} {al : Nat → Nat → Bool} {c : Nat → Nat → Nat} (hc : ∀ S p, c S p ≤ 729) (hT : 7000 < T) {k S : Nat} (hk : k ≤ 9) : rst n m T al c k S ≤ T := by
  rcases rst_T (n := n) (m := m) (al := al) hc hT hT (k := k) (S := S) hk with ⟨-, h⟩ | ⟨h, -⟩ <;> omega
theorem e_fillRest {x n l ta : Nat} {w : Nat → Nat → Nat} {t : St} (h : CN x n l w t) (g : netAt x = true) (hn : n < 10) {m L : Nat} (hm : m < 7) (h2m : m ≠ 2) {c gd : Nat → Nat → Nat} (hc : ∀ S p, c S p ≤ 729) (hgd : ∀ S p, gd S p ≤ 729) (hL : L < 2000000) (hl : ilen ta = 4608) (h85 : STP 85 n c t) (hta : STP ta n gd t) (h88 : ta ≠ 88 ∧ 88 ≠ x ∧ 88 ≠ x + 1 ∧ 88 ≠ x + 3) : Ok (FX9_fillRest x (nI m) ta (nI L) t) (fun _ u => (∀ c, c ≠ 88 → u c = t c) ∧ RSA 88 n (fun S => rst n m 1048576 (fun S p => decide (gd S p ≤ L)) c (n - cnt S n) S) u) := by
  have h2 := Nat.two_pow_pos n
  have h3 := pow9 (k := n) (by omega)
  generalize hR : (fun S => rst n m 1048576 (fun S p => decide (gd S p ≤ L)) c (n - cnt S n) S) = R
  have hRb : ∀ S, R S ≤ 1048576 := fun S => by rw [← hR]; exact rst_bd hc (by omega) (by omega)
  unfold FX9_fillRest
  refine Ok.ckT g (Ok.bd (fun r s => t = s ∧ r = nI (2 ^ n - 1)) (e_allBits h hn g ⟨rfl, rfl⟩) ?_)
  rintro _ _ ⟨rfl, rfl⟩
  refine Ok.ckT (inb_n (by omega) (by omega)) (OkwrE ?_)
  rw [nI_cl (by omega)]
  refine Ok.bd (fun _ u => (∀ c, c ≠ 88 → u c = t c) ∧ RSA 88 n R u) ?_ (fun _ u hu => Ok.ret hu)
  refine Ok.loop (fun k cc u => ∃ A, k = A ∧ A ≤ 2 ^ n - 1 ∧ cc = nI A - 1 ∧ (∀ c, c ≠ 88 → u c = t c) ∧ ∀ S, A ≤ S → S < 2 ^ n → u 88 S = nI (R S)) ?_ (2 ^ n - 1) _ _ ⟨2 ^ n - 1, rfl, Nat.le_refl _, rfl, fun c hc => wr_off c hc, fun S a1 a2 => ?_⟩
  · rintro k cc u ⟨A, rfl, hA, rfl, uf, uI⟩
    have hu : CN x n l w u := h.fr (uf _ (by omega)) (uf _ (by omega)) (uf _ (by omega))
    unfold SX9_fillRest_20
    by_cases e0 : k = 0
    · subst e0
      refine Ok.ifT (by decide) (Ok.ret ⟨uf, fun S a => uI S (Nat.zero_le _) a⟩)
    · rw [li_1, nI_sub (by omega)]
      refine Ok.ifF (by rw [li_0, nI_ltP (by omega) (by omega)]; omega) ?_
      have hk1 : cnt (k - 1) n < n := cnt_ltf (by omega)
      obtain ⟨kk, hkk⟩ : ∃ kk, n - cnt (k - 1) n = kk + 1 := ⟨n - cnt (k - 1) n - 1, by omega⟩
      have eR : R (k - 1) = mns (fun p => !(k - 1).testBit p && decide (gd (k - 1) p ≤ L)) (fun p => jn m (c (k - 1) p) (R ((k - 1) ||| 2 ^ p))) 1048576 n := by
        rw [← hR]
        dsimp only
        rw [hkk]
        refine mns_congr (fun _ _ => rfl) (fun p hp hq => ?_)
        have hb : (k - 1).testBit p = false := by
          simp only [Bool.and_eq_true, Bool.not_eq_true'] at hq
          exact hq.1
        have := (set_up (S := k - 1) (n := n) (by omega) hp hb).2.2
        rw [show n - cnt (k - 1 ||| 2 ^ p) n = kk by omega]
      refine Ok.bq (a := nI (R (k - 1))) (t := u) ?_ ?_
      · rw [eR]
        refine wq n (fun j => (nI (mns (fun p => !(k - 1).testBit p && decide (gd (k - 1) p ≤ L)) (fun p => jn m (c (k - 1) p) (R ((k - 1) ||| 2 ^ p))) 1048576 j), nI j)) (fun j hj => ?_) ?_
        · unfold SX9_fillRest_32
          dsimp only
          refine Ok.rdE hu.1 (Ok.ifF (by rw [nI_leP (by omega) (by omega)]; omega) ?_)
          refine Ok.bq (a := nI (mns (fun p => !(k - 1).testBit p && decide (gd (k - 1) p ≤ L)) (fun p => jn m (c (k - 1) p) (R ((k - 1) ||| 2 ^ p))) 1048576 (j + 1))) (t := u) (Ok.eq ?_) (Ok.ret ⟨rfl, by rw [nI_1]⟩)
          show Ok _ (fun r s => u = s ∧ r = nI (if (!(k - 1).testBit j && decide (gd (k - 1) j ≤ L)) = true then Nat.min (mns _ _ 1048576 j) (jn m (c (k - 1) j) (R ((k - 1) ||| 2 ^ j))) else mns _ _ 1048576 j))
          have hmb := mns_le (P := fun p => !(k - 1).testBit p && decide (gd (k - 1) p ≤ L)) (f := fun p => jn m (c (k - 1) p) (R ((k - 1) ||| 2 ^ p))) (T := 1048576) (n := j)
          refine Ok.cv (bitn (by omega) (by omega)) (Ok.ite (fun c0 => ?_) (fun c0 => Ok.ret ⟨rfl, ?_⟩))
          · rw [li_9, nI_mul, nI_add, hl]
            have hg1 := hgd (k - 1) j
            have hc1 := hc (k - 1) j
            have hup := set_up (S := k - 1) (n := n) (by omega) hj c0
            have hRj := hRb ((k - 1) ||| 2 ^ j)
            refine Ok.ckT (inb_n (by omega) (by omega)) ?_
            rw [nI_cl (by omega)]
            refine Ok.rdE (x := nI (gd (k - 1) j)) (by rw [uf ta h88.1]; exact hta _ _ (by omega) hj c0) ?_
            refine Ok.cv (nI_ltP (by omega) (by omega)) (Ok.ite (fun c1 => Ok.ret ⟨rfl, ?_⟩) (fun c1 => ?_))
            · rw [if_neg (by simp; omega)]
            · rw [shl_1 (by omega), nI_or]
              refine Ok.ckT (inb_n (by omega) (by omega)) ?_
              rw [nI_cl (by omega)]
              refine Ok.rdE (uI _ (by omega) hup.2.1) (Ok.ckT (inb_n (by omega) (by omega)) ?_)
              refine Ok.rdE (x := nI (c (k - 1) j)) (by rw [uf 85 (by decide)]; exact h85 _ _ (by omega) hj c0) ?_
              have hjl := jn_le (m := m) hc1 hRj
              refine Ok.bq (q_joined hm h2m (by omega) (by omega)) (Ok.ret ⟨rfl, ?_⟩)
              rw [jn_comm, mnI_n (by omega) (by omega), if_pos (by simp [c0]; omega)]
          · rw [if_neg (by simp [bT c0])]
        · unfold SX9_fillRest_32
          dsimp only
          exact Ok.rdE hu.1 (Ok.ifT (by rw [nI_leP (by omega) (by omega)]; omega) (Ok.ret ⟨rfl, rfl⟩))
      · refine Ok.ckT (inb_n (by omega) (by omega)) (OkwrE (Ok.ret ⟨k - 1, by omega, k - 1, rfl, by omega, ?_, fun c hc => by rw [wr_off c hc]; exact uf c hc, fun S a1 a2 => ?_⟩))
        · rw [Int32.sub_eq_add_neg]
        · rw [nI_cl (by omega)]
          by_cases e : S = k - 1
          · subst e; rw [wrs]
          · rw [wrn e]; exact uI S (by omega) a2
  · have : S = 2 ^ n - 1 := by omega
    subst this
    rw [wrs, ← hR]
    dsimp only
    rw [cnt_fl, Nat.sub_self]
    rfl
end
section
/-! the class counts rows, finds the first -/
/-- a step that keeps the limit, or the least -/
def okc (m L : Nat) (c : Nat → Nat → Nat) (R : Nat → Nat) (S p : Nat) : Bool := if m = 0 ∨ m = 1 ∨ m = 5 then decide (c S p ≤ L) else decide (c S p + R (S ||| 2 ^ p) = R S)
theorem q_fits {n m L S p : Nat} {c : Nat → Nat → Nat} {R : Nat → Nat} {t : St} (hn : n < 10) (hm : m < 7) (hL : L < 2147483648) (hc : ∀ S p, c S p ≤ 729) (h85 : STP 85 n c t) (h88 : ¬ (m = 0 ∨ m = 1 ∨ m = 5) → RSA 88 n R t) (hR : ∀ S, R S ≤ 1048576) (hS : S < 2 ^ n) (hp : p < n) (hb : S.testBit p = false) : FX9_fits (nI m) (nI S) (nI p) (nI L) t = some (if okc m L c R S p = true then 1 else 0, t) := by
  have h3 := pow9 (k := n) (by omega)
  have hup := set_up hS hp hb
  have hcp := hc S p
  have r1 := hR S
  have r2 := hR (S ||| 2 ^ p)
  refine Ok.eq ?_
  unfold FX9_fits okc
  rw [li_9, nI_mul, nI_add]
  refine Ok.ckT (inb_n (by omega) (by omega)) ?_
  rw [nI_cl (by omega)]
  refine Ok.rdE (h85 S p hS hp hb) ?_
  have lim : (m = 0 ∨ m = 1 ∨ m = 5) → Ok (if nI L < nI (c S p) then (some ((0 : Int32), t)) else (some ((1 : Int32), t))) (fun r u => t = u ∧ r = if (if m = 0 ∨ m = 1 ∨ m = 5 then decide (c S p ≤ L) else decide (c S p + R (S ||| 2 ^ p) = R S)) = true then 1 else 0) := by
    intro q
    rw [if_pos q]
    refine Ok.cv (nI_ltP (by omega) (by omega)) (Ok.ite (fun c1 => Ok.ret ⟨rfl, ?_⟩) (fun c1 => Ok.ret ⟨rfl, ?_⟩))
    · rw [if_neg (by simp; omega)]
    · rw [if_pos (by simp; omega)]
  refine Ok.cv (nI_eqP (b := 0) (by omega) (by omega)) (Ok.ite (fun c0 => lim (Or.inl c0)) (fun c0 => Ok.cv (nI_eqP (b := 1) (by omega) (by omega)) (Ok.ite (fun c1 => lim (Or.inr (Or.inl c1))) (fun c1 => Ok.cv (nI_eqP (b := 5) (by omega) (by omega)) (Ok.ite (fun c5 => lim (Or.inr (Or.inr c5))) (fun c5 => ?_))))))
  have q : ¬ (m = 0 ∨ m = 1 ∨ m = 5) := by omega
  have h88 := h88 q
  rw [if_neg q, shl_1 (by omega), nI_or]
  refine Ok.ckT (inb_n (by omega) (by omega)) ?_
  rw [nI_cl (by omega)]
  refine Ok.rdE (h88 _ hup.2.1) (Ok.ckT (inb_n (by omega) (by omega)) ?_)
  rw [nI_cl (by omega)]
  refine Ok.rdE (h88 S hS) ?_
  rw [nI_add]
  refine Ok.cv (nI_eqP (by omega) (by omega)) (Ok.ite (fun c1 => Ok.ret ⟨rfl, ?_⟩) (fun c1 => Ok.ret ⟨rfl, ?_⟩))
  · rw [if_pos (by simp [c1])]
  · rw [if_neg (by simp [c1])]
theorem e_countRows {x n l : Nat} {w : Nat → Nat → Nat} {t : St} (h : CN x n l w t) (g : netAt x = true) (hn : n < 10) {m L : Nat} {c : Nat → Nat → Nat} {R : Nat → Nat} (hm : m < 7) (hL : L < 2147483648) (hc : ∀ S p, c S p ≤ 729) (h85 : STP 85 n c t) (h88 : ¬ (m = 0 ∨ m = 1 ∨ m = 5) → RSA 88 n R t) (hR : ∀ S, R S ≤ 1048576) (h89 : 89 ≠ x ∧ 89 ≠ x + 1 ∧ 89 ≠ x + 3) : Ok (FX9_countRows x (nI m) (nI L) t) (fun _ u => (∀ c, c ≠ 89 → u c = t c) ∧ RSA 89 n (fun S => crw n (okc m L c R) (n - cnt S n) S) u) := by
  have h2 := Nat.two_pow_pos n
  have h3 := pow9 (k := n) (by omega)
  generalize hC : (fun S => crw n (okc m L c R) (n - cnt S n) S) = C
  have hCb : ∀ S, C S < 400000000 := fun S => by rw [← hC]; exact crw_b hn (by omega)
  unfold FX9_countRows
  refine Ok.ckT g (Ok.bd (fun r s => t = s ∧ r = nI (2 ^ n - 1)) (e_allBits h hn g ⟨rfl, rfl⟩) ?_)
  rintro _ _ ⟨rfl, rfl⟩
  refine Ok.ckT (inb_n (by omega) (by omega)) (OkwrE ?_)
  rw [nI_cl (by omega)]
  refine Ok.bd (fun _ u => (∀ c, c ≠ 89 → u c = t c) ∧ RSA 89 n C u) ?_ (fun _ u hu => Ok.ret hu)
  refine Ok.loop (fun k cc u => ∃ A, k = A ∧ A ≤ 2 ^ n - 1 ∧ cc = nI A - 1 ∧ (∀ c, c ≠ 89 → u c = t c) ∧ ∀ S, A ≤ S → S < 2 ^ n → u 89 S = nI (C S)) ?_ (2 ^ n - 1) _ _ ⟨2 ^ n - 1, rfl, Nat.le_refl _, rfl, fun c hc => wr_off c hc, fun S a1 a2 => ?_⟩
  · rintro k cc u ⟨A, rfl, hA, rfl, uf, uI⟩
    have hu : CN x n l w u := h.fr (uf _ (by omega)) (uf _ (by omega)) (uf _ (by omega))
    have u85 : STP 85 n c u := fun S p a1 a2 a3 => by rw [uf 85 (by decide)]; exact h85 S p a1 a2 a3
    have u88 : ¬ (m = 0 ∨ m = 1 ∨ m = 5) → RSA 88 n R u := fun q S a => by rw [uf 88 (by decide)]; exact h88 q S a
    unfold SX9_countRows_20
    by_cases e0 : k = 0
    · subst e0
      exact Ok.ifT (by decide) (Ok.ret ⟨uf, fun S a => uI S (Nat.zero_le _) a⟩)
    · rw [li_1, nI_sub (by omega)]
      refine Ok.ifF (by rw [li_0, nI_ltP (by omega) (by omega)]; omega) ?_
      have hk1 : cnt (k - 1) n < n := cnt_ltf (by omega)
      obtain ⟨kk, hkk⟩ : ∃ kk, n - cnt (k - 1) n = kk + 1 := ⟨n - cnt (k - 1) n - 1, by omega⟩
      have eC : C (k - 1) = sm n (fun p => if (!(k - 1).testBit p && okc m L c R (k - 1) p) = true then C ((k - 1) ||| 2 ^ p) else 0) := by
        rw [← hC]
        dsimp only
        rw [hkk]
        refine sm_congr (fun p hp => ?_)
        by_cases hq : (!(k - 1).testBit p && okc m L c R (k - 1) p) = true
        · have hb : (k - 1).testBit p = false := by
            simp only [Bool.and_eq_true, Bool.not_eq_true'] at hq
            exact hq.1
          have := (set_up (S := k - 1) (n := n) (by omega) hp hb).2.2
          rw [if_pos hq, if_pos hq, show n - cnt (k - 1 ||| 2 ^ p) n = kk by omega]
        · rw [if_neg hq, if_neg hq]
      have hsb : ∀ j, sm j (fun p => if (!(k - 1).testBit p && okc m L c R (k - 1) p) = true then C ((k - 1) ||| 2 ^ p) else 0) ≤ j * 400000000 := fun j => sm_le (fun i _ => by
        have := hCb ((k - 1) ||| 2 ^ i)
        split <;> omega)
      refine Ok.bq (a := nI (C (k - 1))) (t := u) ?_ ?_
      · rw [eC]
        refine wq n (fun j => (nI (sm j (fun p => if (!(k - 1).testBit p && okc m L c R (k - 1) p) = true then C ((k - 1) ||| 2 ^ p) else 0)), nI j)) (fun j hj => ?_) ?_
        · unfold SX9_countRows_31
          dsimp only
          refine Ok.rdE hu.1 (Ok.ifF (by rw [nI_leP (by omega) (by omega)]; omega) ?_)
          refine Ok.bq (a := nI (sm (j + 1) (fun p => if (!(k - 1).testBit p && okc m L c R (k - 1) p) = true then C ((k - 1) ||| 2 ^ p) else 0))) (t := u) (Ok.eq ?_) (Ok.ret ⟨rfl, by rw [nI_1]⟩)
          show Ok _ (fun r s => u = s ∧ r = nI (sm j _ + (if (!(k - 1).testBit j && okc m L c R (k - 1) j) = true then C ((k - 1) ||| 2 ^ j) else 0)))
          refine Ok.cv (bitn (by omega) (by omega)) (Ok.ite (fun c0 => ?_) (fun c0 => Ok.ret ⟨rfl, ?_⟩))
          · have hup := set_up (S := k - 1) (n := n) (by omega) hj c0
            refine Ok.bq (q_fits hn hm hL hc u85 u88 hR (by omega) hj c0) ?_
            by_cases q : okc m L c R (k - 1) j = true
            · rw [if_pos q, if_pos (c := (!(k - 1).testBit j && okc m L c R (k - 1) j) = true) (by simp [c0, q]), shl_1 (by omega), nI_or]
              refine Ok.ifF (by decide) (Ok.ckT (inb_n (by omega) (by omega)) ?_)
              rw [nI_cl (by omega)]
              exact Ok.rdE (uI _ (by omega) hup.2.1) (Ok.ret ⟨rfl, nI_add _ _⟩)
            · rw [if_neg q, if_neg (c := (!(k - 1).testBit j && okc m L c R (k - 1) j) = true) (by simp [q]), Nat.add_zero]
              exact Ok.ifT rfl (Ok.ret ⟨rfl, rfl⟩)
          · rw [if_neg (by simp [bT c0]), Nat.add_zero]
        · unfold SX9_countRows_31
          dsimp only
          exact Ok.rdE hu.1 (Ok.ifT (by rw [nI_leP (by omega) (by omega)]; omega) (Ok.ret ⟨rfl, rfl⟩))
      · refine Ok.ckT (inb_n (by omega) (by omega)) (OkwrE (Ok.ret ⟨k - 1, by omega, k - 1, rfl, by omega, ?_, fun c hc => by rw [wr_off c hc]; exact uf c hc, fun S a1 a2 => ?_⟩))
        · rw [Int32.sub_eq_add_neg]
        · rw [nI_cl (by omega)]
          by_cases e : S = k - 1
          · subst e; rw [wrs]
          · rw [wrn e]; exact uI S (by omega) a2
  · have : S = 2 ^ n - 1 := by omega
    subst this
    rw [wrs, ← hC]
    dsimp only
    rw [cnt_fl, Nat.sub_self]
    rfl
/-- those who may come next -/
def ldr (n : Nat) (ok : Nat → Nat → Bool) (C : Nat → Nat) (S : Nat) : Nat := mkm n (fun p => !S.testBit p && (decide (0 < C (S ||| 2 ^ p)) && ok S p))
theorem ldr_lt {n : Nat} {ok : Nat → Nat → Bool} {C : Nat → Nat} {S : Nat} (hn : n < 10) : ldr n ok C S < 512 := Nat.lt_of_lt_of_le mkm_lt (pow9 (by omega))
theorem q_leaders {x n l : Nat} {w : Nat → Nat → Nat} {t : St} (h : CN x n l w t) (g : netAt x = true) (hn : n < 10) {m L S : Nat} {c : Nat → Nat → Nat} {R C : Nat → Nat} (hm : m < 7) (hL : L < 2147483648) (hc : ∀ S p, c S p ≤ 729) (h85 : STP 85 n c t) (h88 : ¬ (m = 0 ∨ m = 1 ∨ m = 5) → RSA 88 n R t) (hR : ∀ S, R S ≤ 1048576) (h89 : RSA 89 n C t) (hC : ∀ S, C S < 400000000) (hS : S < 2 ^ n) : FX9_leadersFrom x (nI m) (nI S) (nI L) t = some (nI (ldr n (okc m L c R) C S), t) := by
  have h3 := pow9 (k := n) (by omega)
  refine Ok.eq ?_
  unfold FX9_leadersFrom ldr
  generalize hP : (fun p => !S.testBit p && (decide (0 < C (S ||| 2 ^ p)) && okc m L c R S p)) = P
  refine Ok.ckT g (Ok.bq (a := nI (mkm n P)) (t := t) (wq n (fun j => (nI (mkm j P), nI j)) (fun j hj => ?_) ?_) (Ok.ret ⟨rfl, rfl⟩))
  · unfold SX9_leadersFrom_6
    dsimp only
    have hPj : P j = (!S.testBit j && (decide (0 < C (S ||| 2 ^ j)) && okc m L c R S j)) := by rw [← hP]
    refine Ok.rdE h.1 (Ok.ifF (by rw [nI_leP (by omega) (by omega)]; omega) ?_)
    refine Ok.bq (a := nI (mkm (j + 1) P)) (t := t) (Ok.eq ?_) (Ok.ret ⟨rfl, by rw [nI_1]⟩)
    show Ok _ (fun r u => t = u ∧ r = nI (mkm j P ||| (if P j = true then 2 ^ j else 0)))
    refine Ok.cv (bitn (by omega) (by omega)) (Ok.ite (fun c0 => ?_) (fun c0 => Ok.ret ⟨rfl, ?_⟩))
    · have hup := set_up hS hj c0
      have hCj := hC (S ||| 2 ^ j)
      rw [shl_1 (by omega), nI_or]
      refine Ok.ckT (inb_n (by omega) (by omega)) ?_
      rw [nI_cl (by omega)]
      refine Ok.rdE (h89 _ hup.2.1) (Ok.cv (nI_leP (b := 0) (by omega) (by omega)) (Ok.ite (fun c1 => Ok.ret ⟨rfl, ?_⟩) (fun c1 => ?_)))
      · rw [hPj, if_neg (by simp [show C (S ||| 2 ^ j) = 0 by omega]), Nat.or_zero]
      · refine Ok.bq (q_fits hn hm hL hc h85 h88 hR hS hj c0) ?_
        by_cases q : okc m L c R S j = true
        · rw [if_pos q]
          refine Ok.ifF (by decide) (Ok.ret ⟨rfl, ?_⟩)
          rw [hPj, if_pos (by simp [c0, q]; omega), nI_or]
        · rw [if_neg q]
          refine Ok.ifT rfl (Ok.ret ⟨rfl, ?_⟩)
          rw [hPj, if_neg (by simp [q]), Nat.or_zero]
    · rw [hPj, if_neg (by simp [bT c0]), Nat.or_zero]
  · unfold SX9_leadersFrom_6
    dsimp only
    exact Ok.rdE h.1 (Ok.ifT (by rw [nI_leP (by omega) (by omega)]; omega) (Ok.ret ⟨rfl, rfl⟩))
/-- o is the row that takes the first of those who may come next -/
def BRW (n : Nat) (ld : Nat → Nat) (o : Nat → Nat) : Prop := ∀ i, i < n → o i < n ∧ (amk o i).testBit (o i) = false ∧ (ld (amk o i)).testBit (o i) = true ∧ ∀ q, q < o i → (ld (amk o i)).testBit q = false
theorem BRW.lt {n : Nat} {ld : Nat → Nat} {o : Nat → Nat} (h : BRW n ld o) : ∀ {i : Nat}, i ≤ n → amk o i < 2 ^ n
  | 0, _ => Nat.two_pow_pos n
  | i + 1, hi => Nat.or_lt_two_pow (h.lt (by omega)) (Nat.pow_lt_pow_right (by decide) (h i (by omega)).1)
theorem e_find {x z n l : Nat} {w : Nat → Nat → Nat} {t : St} (h : CN x n l w t) (g : netAt x = true) (gz : findAt z = true) (hw : WF n w) (hn : n < 10) {m : Nat} (hm : m < 7) (h2m : m ≠ 2) (hx : x + 3 < z ∨ z + 1 < x) (hx8 : x + 3 < 84 ∨ 90 ≤ x) {R C : Nat → Nat} {o : Nat → Nat} (hR : ∀ S, R S = rst n m 1048576 (fun S p => decide (cst n w m S p ≤ 1048576)) (cst n w m) (n - cnt S n) S) (hC : ∀ S, C S = crw n (okc m (R 0) (cst n w m) R) (n - cnt S n) S) (ho : BRW n (ldr n (okc m (R 0) (cst n w m) R) C) o) : Ok (FX9_find x (nI m) z t) (fun _ u => (∀ c, c ≠ 85 → c ≠ 87 → c ≠ 88 → c ≠ 89 → c ≠ z → c ≠ z + 1 → u c = t c) ∧ u z 0 = t z 0 ∧ u z 1 = nI (R 0) ∧ u z 2 = nI (C 0) ∧ u z 3 = nI (ldr n (okc m (R 0) (cst n w m) R) C 0) ∧ ∀ i, i < n → u (z + 1) i = nI (o i)) := by
  have h3 := pow9 (k := n) (by omega)
  have hp2 := Nat.two_pow_pos n
  have hz := find_q gz
  have hcb : ∀ S p, cst n w m S p ≤ 729 := fun S p => cst_le hw hn
  have hRb : ∀ S, R S ≤ 1048576 := fun S => by rw [hR]; exact rst_bd hcb (by omega) (by omega)
  have hCb : ∀ S, C S < 400000000 := fun S => by rw [hC]; exact crw_b hn (by omega)
  have hR0 := hRb 0
  unfold FX9_find
  refine Ok.ckT g (Ok.ckT gz (Ok.bd _ (e_fillSteps (ta := 85) h g hw hn hm (by decide +kernel) (by omega) (by omega)) ?_))
  rintro _ t1 ⟨f1, s1⟩
  have h1 : CN x n l w t1 := h.fr (f1 _ (by omega) (by omega)) (f1 _ (by omega) (by omega)) (f1 _ (by omega) (by omega))
  refine Ok.bd _ (e_fillRest (ta := 85) (L := 1048576) h1 g hn hm h2m hcb hcb (by omega) (by decide +kernel) s1 s1 (by omega)) ?_
  rintro _ t2 ⟨f2, r2⟩
  have r2 : RSA 88 n R t2 := fun S hS => by rw [r2 S hS, hR]
  have h2 : CN x n l w t2 := h1.fr (f2 _ (by omega)) (f2 _ (by omega)) (f2 _ (by omega))
  refine Ok.ckT (by decide) (Ok.rdE (x := nI (R 0)) (r2 0 hp2) (OkwrE ?_))
  refine Ok.ckT (by decide) (Ok.rdE (x := nI (R 0)) (by rw [wrf (by omega)]; exact r2 0 hp2) ?_)
  have a3 : ∀ c, c ≠ z → wr t2 z 1 (nI (R 0)) c = t2 c := fun c hc => wr_off c hc
  have z3 : wr t2 z 1 (nI (R 0)) z 1 = nI (R 0) := wrs
  have y3 : wr t2 z 1 (nI (R 0)) z 0 = t2 z 0 := wrn (by decide)
  generalize wr t2 z 1 (nI (R 0)) = t3 at a3 z3 y3 ⊢
  have h3' : CN x n l w t3 := h2.fr (a3 _ (by omega)) (a3 _ (by omega)) (a3 _ (by omega))
  have s3 : STP 85 n (cst n w m) t3 := fun S p q1 q2 q3 => by rw [a3 85 (by omega), f2 85 (by decide)]; exact s1 S p q1 q2 q3
  have r3 : RSA 88 n R t3 := fun S q => by rw [a3 88 (by omega)]; exact r2 S q
  refine Ok.bd _ (e_countRows (L := R 0) h3' g hn hm (by omega) hcb s3 (fun _ => r3) hRb (by omega)) ?_
  rintro _ t4 ⟨f4, c4⟩
  have c4 : RSA 89 n C t4 := fun S hS => by rw [c4 S hS, hC]
  refine Ok.ckT (by decide) (Ok.rdE (x := nI (C 0)) (c4 0 hp2) (OkwrE ?_))
  refine Ok.ckT (by decide) (Ok.rdE (x := nI (R 0)) (by rw [wrf (by omega), f4 88 (by decide)]; exact r3 0 hp2) ?_)
  have a5 : ∀ c, c ≠ z → wr t4 z 2 (nI (C 0)) c = t4 c := fun c hc => wr_off c hc
  have z5 : wr t4 z 2 (nI (C 0)) z 2 = nI (C 0) := wrs
  have y5 : ∀ j, j ≠ 2 → wr t4 z 2 (nI (C 0)) z j = t4 z j := fun j hj => wrn hj
  generalize wr t4 z 2 (nI (C 0)) = t5 at a5 z5 y5 ⊢
  have h5 : CN x n l w t5 := h3'.fr (by rw [a5 _ (by omega), f4 _ (by omega)]) (by rw [a5 _ (by omega), f4 _ (by omega)]) (by rw [a5 _ (by omega), f4 _ (by omega)])
  have s5 : STP 85 n (cst n w m) t5 := fun S p q1 q2 q3 => by rw [a5 85 (by omega), f4 85 (by decide)]; exact s3 S p q1 q2 q3
  have r5 : RSA 88 n R t5 := fun S q => by rw [a5 88 (by omega), f4 88 (by decide)]; exact r3 S q
  have c5 : RSA 89 n C t5 := fun S q => by rw [a5 89 (by omega)]; exact c4 S q
  refine Ok.bq (q_leaders (S := 0) h5 g hn hm (L := R 0) (by omega) hcb s5 (fun _ => r5) hRb c5 hCb hp2) (OkwrE ?_)
  have a6 : ∀ c, c ≠ z → wr t5 z 3 (nI (ldr n (okc m (R 0) (cst n w m) R) C 0)) c = t5 c := fun c hc => wr_off c hc
  have z6 : wr t5 z 3 (nI (ldr n (okc m (R 0) (cst n w m) R) C 0)) z 3 = nI (ldr n (okc m (R 0) (cst n w m) R) C 0) := wrs
  have y6 : ∀ j, j ≠ 3 → wr t5 z 3 (nI (ldr n (okc m (R 0) (cst n w m) R) C 0)) z j = t5 z j := fun j hj => wrn hj
  generalize wr t5 z 3 (nI (ldr n (okc m (R 0) (cst n w m) R) C 0)) = t6 at a6 z6 y6 ⊢
  refine Ok.bd (fun _ u => (∀ c, c ≠ z + 1 → u c = t6 c) ∧ ∀ i, i < n → u (z + 1) i = nI (o i)) ?_ ?_
  · refine Ok.count n (fun j c u => c = (nI (amk o j), nI j) ∧ (∀ c, c ≠ z + 1 → u c = t6 c) ∧ ∀ i, i < j → u (z + 1) i = nI (o i)) ?_ ?_ (Nat.zero_le _) ⟨rfl, fun _ _ => rfl, fun i hi => by omega⟩
    · rintro j c u hj ⟨rfl, uf, uI⟩
      have e6 : ∀ c, c ≠ z → c ≠ z + 1 → u c = t5 c := fun c q1 q2 => by rw [uf c q2, a6 c q1]
      have hu : CN x n l w u := h5.fr (e6 _ (by omega) (by omega)) (e6 _ (by omega) (by omega)) (e6 _ (by omega) (by omega))
      have su : STP 85 n (cst n w m) u := fun S p q1 q2 q3 => by rw [e6 85 (by omega) (by omega)]; exact s5 S p q1 q2 q3
      have ru : RSA 88 n R u := fun S q => by rw [e6 88 (by omega) (by omega)]; exact r5 S q
      have cu : RSA 89 n C u := fun S q => by rw [e6 89 (by omega) (by omega)]; exact c5 S q
      obtain ⟨o1, o2, o3, o4⟩ := ho j hj
      unfold SX9_find_77
      dsimp only
      refine Ok.rdE hu.1 (Ok.ifF (by rw [nI_leP (by omega) (by omega)]; omega) (Ok.ckT (by decide) (Ok.rdE (x := nI (R 0)) (ru 0 hp2) ?_)))
      refine Ok.bq (q_leaders hu g hn hm (L := R 0) (by omega) hcb su (fun _ => ru) hRb cu hCb (ho.lt (by omega))) (Ok.bq (q_lowest (ldr_lt hn) (by omega) o3 o4) (Ok.ckT (inb_n (by omega) (by omega)) (OkwrE (Ok.ret ⟨?_, fun c hc => by rw [wr_off c hc]; exact uf c hc, fun i hi => ?_⟩))))
      · rw [shl_1 (by omega), nI_or, nI_1]
        rfl
      · rw [nI_cl (by omega)]
        by_cases e : i = j
        · subst e; rw [wrs]
        · rw [wrn e]; exact uI i (by omega)
    · rintro c u ⟨rfl, uf, uI⟩
      have hu : u x 0 = nI n := by rw [uf x (by omega), a6 x (by omega)]; exact h5.1
      unfold SX9_find_77
      exact Ok.rdE hu (Ok.ifT (by rw [nI_leP (by omega) (by omega)]; omega) (Ok.ret ⟨uf, uI⟩))
  · rintro _ u ⟨uf, uI⟩
    refine Ok.ret ⟨fun c c1 c2 c3 c4 c5 c6 => ?_, ?_, ?_, ?_, ?_, uI⟩
    · rw [uf c c6, a6 c c5, a5 c c5, f4 c c4, a3 c c5, f2 c c3, f1 c c1 c2]
    · rw [uf z (by omega), y6 0 (by decide), y5 0 (by decide), f4 z (by omega), y3, f2 z (by omega), f1 z (by omega) (by omega)]
    · rw [uf z (by omega), y6 1 (by decide), y5 1 (by decide), f4 z (by omega)]; exact z3
    · rw [uf z (by omega), y6 2 (by decide)]; exact z5
    · rw [uf z (by omega)]; exact z6
end
section
/-! the first row with the least: pure -/
abbrev Gr (m : Nat) : Prop := m = 0 ∨ m = 1 ∨ m = 5
theorem jn_g {m a b : Nat} (h : Gr m) : jn m a b = Nat.max a b := if_pos h
theorem jn_s {m a b : Nat} (h : ¬ Gr m) : jn m a b = a + b := if_neg h
theorem okc_g {m L : Nat} {c : Nat → Nat → Nat} {R : Nat → Nat} {S p : Nat} (h : Gr m) : okc m L c R S p = true ↔ c S p ≤ L := by
  unfold okc
  rw [if_pos h]
  exact decide_eq_true_iff
theorem okc_s {m L : Nat} {c : Nat → Nat → Nat} {R : Nat → Nat} {S p : Nat} (h : ¬ Gr m) : okc m L c R S p = true ↔ c S p + R (S ||| 2 ^ p) = R S := by
  unfold okc
  rw [if_neg h]
  exact decide_eq_true_iff
/-- what holds of the least from each set on -/
def RPr (n m : Nat) (c : Nat → Nat → Nat) (R : Nat → Nat) : Prop := (∀ S p, S < 2 ^ n → p < n → S.testBit p = false → R S ≤ jn m (c S p) (R (S ||| 2 ^ p))) ∧ (∀ S, S < 2 ^ n - 1 → ∃ p, p < n ∧ S.testBit p = false ∧ R S = jn m (c S p) (R (S ||| 2 ^ p)))
def CPr (n : Nat) (ok : Nat → Nat → Bool) (C : Nat → Nat) : Prop := C (2 ^ n - 1) = 1 ∧ ∀ S, S < 2 ^ n - 1 → C S = sm n (fun p => if (!S.testBit p && ok S p) = true then C (S ||| 2 ^ p) else 0)
theorem sm_pos {f : Nat → Nat} : ∀ {n : Nat}, 0 < sm n f ↔ ∃ p, p < n ∧ 0 < f p
  | 0 => ⟨fun h => absurd h (Nat.lt_irrefl 0), fun ⟨p, h, _⟩ => by omega⟩
  | n + 1 => by
    have ih := sm_pos (f := f) (n := n)
    show 0 < sm n f + f n ↔ _
    constructor
    · intro h
      by_cases q : 0 < sm n f
      · obtain ⟨p, a, b⟩ := ih.mp q
        exact ⟨p, by omega, b⟩
      · exact ⟨n, by omega, by omega⟩
    · rintro ⟨p, a, b⟩
      by_cases e : p = n
      · subst e; omega
      · have := ih.mpr ⟨p, by omega, b⟩
        omega
theorem C_pos {n m L : Nat} {c : Nat → Nat → Nat} {R C : Nat → Nat} (hR : RPr n m c R) (hRf : R (2 ^ n - 1) = 0) (hC : CPr n (okc m L c R) C) : ∀ {k S : Nat}, S < 2 ^ n → n - cnt S n = k → ((Gr m → (0 < C S ↔ R S ≤ L)) ∧ (¬ Gr m → 0 < C S))
  | k, S, hS, hk => by
    by_cases e : S = 2 ^ n - 1
    · subst e
      rw [hC.1, hRf]
      exact ⟨fun _ => ⟨fun _ => Nat.zero_le _, fun _ => by omega⟩, fun _ => by omega⟩
    have hlt : S < 2 ^ n - 1 := by omega
    rw [hC.2 S hlt, sm_pos]
    have hcl := cnt_ltf hlt
    cases k with
    | zero => omega
    | succ k =>
      have ih : ∀ p, p < n → S.testBit p = false → _ := fun p hp hb => C_pos hR hRf hC (k := k) (S := S ||| 2 ^ p) (set_up hS hp hb).2.1 (by have := (set_up hS hp hb).2.2; omega)
      refine ⟨fun hg => ⟨?_, ?_⟩, fun hs => ?_⟩
      · rintro ⟨p, hp, h⟩
        by_cases q : (!S.testBit p && okc m L c R S p) = true
        · rw [if_pos q] at h
          simp only [Bool.and_eq_true, Bool.not_eq_true'] at q
          have h1 := ((ih p hp q.1).1 hg).mp h
          have h2 := (okc_g hg).mp q.2
          have h3 := hR.1 S p hS hp q.1
          rw [jn_g hg] at h3
          exact Nat.le_trans h3 (Nat.max_le.mpr ⟨h2, h1⟩)
        · rw [if_neg q] at h
          omega
      · intro h
        obtain ⟨p, hp, hb, e2⟩ := hR.2 S hlt
        rw [jn_g hg] at e2
        have m1 : c S p ≤ Nat.max (c S p) (R (S ||| 2 ^ p)) := Nat.le_max_left _ _
        have m2 : R (S ||| 2 ^ p) ≤ Nat.max (c S p) (R (S ||| 2 ^ p)) := Nat.le_max_right _ _
        have h1 : okc m L c R S p = true := (okc_g hg).mpr (by omega)
        refine ⟨p, hp, ?_⟩
        rw [if_pos (by simp [hb, h1])]
        exact ((ih p hp hb).1 hg).mpr (by omega)
      · obtain ⟨p, hp, hb, e2⟩ := hR.2 S hlt
        rw [jn_s hs] at e2
        have h1 : okc m L c R S p = true := (okc_s hs).mpr e2.symm
        refine ⟨p, hp, ?_⟩
        rw [if_pos (by simp [hb, h1])]
        exact (ih p hp hb).2 hs
termination_by k _ _ _ => k
/-- so far the least is kept -/
def KPI (m L : Nat) (R : Nat → Nat) (S had : Nat) : Prop := (Gr m → had ≤ L ∧ R S ≤ L ∧ L ≤ Nat.max had (R S)) ∧ (¬ Gr m → had + R S = L)
theorem ldr_b {n : Nat} {ok : Nat → Nat → Bool} {C : Nat → Nat} {S p : Nat} (hp : p < n) : (ldr n ok C S).testBit p = true ↔ S.testBit p = false ∧ 0 < C (S ||| 2 ^ p) ∧ ok S p = true := by
  unfold ldr
  rw [mkm_bit]
  simp only [hp, decide_true, Bool.true_and, Bool.and_eq_true, Bool.not_eq_true', decide_eq_true_eq]
theorem ld_iff {n m L S p had : Nat} {c : Nat → Nat → Nat} {R C : Nat → Nat} (hR : RPr n m c R) (hRf : R (2 ^ n - 1) = 0) (hC : CPr n (okc m L c R) C) (hS : S < 2 ^ n) (hp : p < n) (hI : KPI m L R S had) : (ldr n (okc m L c R) C S).testBit p = true ↔ S.testBit p = false ∧ jn m had (jn m (c S p) (R (S ||| 2 ^ p))) = L := by
  rw [ldr_b hp]
  by_cases hb : S.testBit p = false
  · have hup := set_up hS hp hb
    have hpos := C_pos hR hRf hC hup.2.1 rfl
    by_cases hg : Gr m
    · obtain ⟨i1, i2, i3⟩ := hI.1 hg
      rw [(hpos.1 hg), okc_g hg, jn_g hg, jn_g hg]
      have h3 := hR.1 S p hS hp hb
      rw [jn_g hg] at h3
      have m1 : c S p ≤ Nat.max (c S p) (R (S ||| 2 ^ p)) := Nat.le_max_left _ _
      have m2 : R (S ||| 2 ^ p) ≤ Nat.max (c S p) (R (S ||| 2 ^ p)) := Nat.le_max_right _ _
      have m3 : had ≤ Nat.max had (Nat.max (c S p) (R (S ||| 2 ^ p))) := Nat.le_max_left _ _
      have m4 : Nat.max (c S p) (R (S ||| 2 ^ p)) ≤ Nat.max had (Nat.max (c S p) (R (S ||| 2 ^ p))) := Nat.le_max_right _ _
      constructor
      · rintro ⟨-, h1, h2⟩
        refine ⟨hb, Nat.le_antisymm (Nat.max_le.mpr ⟨i1, Nat.max_le.mpr ⟨h2, h1⟩⟩) ?_⟩
        exact Nat.le_trans i3 (Nat.max_le.mpr ⟨m3, Nat.le_trans h3 m4⟩)
      · rintro ⟨-, h1⟩
        exact ⟨hb, by omega, by omega⟩
    · have i1 := hI.2 hg
      rw [okc_s hg, jn_s hg, jn_s hg]
      have h4 := hpos.2 hg
      constructor
      · rintro ⟨-, -, h2⟩
        exact ⟨hb, by omega⟩
      · rintro ⟨-, h1⟩
        exact ⟨hb, h4, by omega⟩
  · exact ⟨fun h => absurd h.1 hb, fun h => absurd h.1 hb⟩
theorem kp_ex {n m L S had : Nat} {c : Nat → Nat → Nat} {R : Nat → Nat} (hR : RPr n m c R) (hS : S < 2 ^ n - 1) (hI : KPI m L R S had) : ∃ p, p < n ∧ S.testBit p = false ∧ jn m had (jn m (c S p) (R (S ||| 2 ^ p))) = L := by
  obtain ⟨p, hp, hb, e⟩ := hR.2 S hS
  refine ⟨p, hp, hb, ?_⟩
  rw [← e]
  by_cases hg : Gr m
  · obtain ⟨i1, i2, i3⟩ := hI.1 hg
    rw [jn_g hg]
    exact Nat.le_antisymm (Nat.max_le.mpr ⟨i1, i2⟩) i3
  · rw [jn_s hg]
    exact hI.2 hg
theorem kp_on {m L S p had : Nat} {c : Nat → Nat → Nat} {R : Nat → Nat} (h : jn m had (jn m (c S p) (R (S ||| 2 ^ p))) = L) : KPI m L R (S ||| 2 ^ p) (jn m had (c S p)) := by
  refine ⟨fun hg => ?_, fun hg => ?_⟩
  · rw [jn_g hg, jn_g hg] at h
    rw [jn_g hg]
    have m1 : c S p ≤ Nat.max (c S p) (R (S ||| 2 ^ p)) := Nat.le_max_left _ _
    have m2 : R (S ||| 2 ^ p) ≤ Nat.max (c S p) (R (S ||| 2 ^ p)) := Nat.le_max_right _ _
    have m3 : had ≤ Nat.max had (Nat.max (c S p) (R (S ||| 2 ^ p))) := Nat.le_max_left _ _
    have m4 : Nat.max (c S p) (R (S ||| 2 ^ p)) ≤ Nat.max had (Nat.max (c S p) (R (S ||| 2 ^ p))) := Nat.le_max_right _ _
    have n1 : had ≤ Nat.max had (c S p) := Nat.le_max_left _ _
    have n2 : c S p ≤ Nat.max had (c S p) := Nat.le_max_right _ _
    have n3 : Nat.max had (c S p) ≤ Nat.max (Nat.max had (c S p)) (R (S ||| 2 ^ p)) := Nat.le_max_left _ _
    have n4 : R (S ||| 2 ^ p) ≤ Nat.max (Nat.max had (c S p)) (R (S ||| 2 ^ p)) := Nat.le_max_right _ _
    refine ⟨Nat.max_le.mpr ⟨by omega, by omega⟩, by omega, ?_⟩
    rw [← h]
    exact Nat.max_le.mpr ⟨by omega, Nat.max_le.mpr ⟨by omega, by omega⟩⟩
  · rw [jn_s hg, jn_s hg] at h
    rw [jn_s hg]
    omega
/-- the lowest of a set -/
noncomputable def lwb (S : Nat) : Nat := @dite Nat (∃ p, p < 9 ∧ S.testBit p = true ∧ ∀ q, q < p → S.testBit q = false) (Classical.propDecidable _) (fun h => Classical.choose h) (fun _ => 0)
theorem lwb_in {S : Nat} (hS : S < 512) (h0 : S ≠ 0) : lwb S < 9 ∧ S.testBit (lwb S) = true ∧ ∀ q, q < lwb S → S.testBit q = false := by
  have h := has_low hS h0
  unfold lwb
  rw [dif_pos h]
  exact Classical.choose_spec h
noncomputable def bmk (ld : Nat → Nat) : Nat → Nat
  | 0 => 0
  | i + 1 => bmk ld i ||| 2 ^ lwb (ld (bmk ld i))
/-- the row that takes the first of those who may come next -/
noncomputable def brw (ld : Nat → Nat) (i : Nat) : Nat := lwb (ld (bmk ld i))
theorem amk_brw {ld : Nat → Nat} : ∀ i, amk (brw ld) i = bmk ld i
  | 0 => rfl
  | i + 1 => by
    show amk (brw ld) i ||| 2 ^ brw ld i = bmk ld i ||| 2 ^ lwb (ld (bmk ld i))
    rw [amk_brw i]
    rfl
/-- the row keeps the least at each step -/
def KRW (n m L : Nat) (c : Nat → Nat → Nat) (R : Nat → Nat) (o : Nat → Nat) (hd : Nat → Nat) : Prop := hd 0 = 0 ∧ ∀ i, i < n → o i < n ∧ (amk o i).testBit (o i) = false ∧ jn m (hd i) (jn m (c (amk o i) (o i)) (R (amk o i ||| 2 ^ o i))) = L ∧ (∀ q, q < o i → ¬ ((amk o i).testBit q = false ∧ jn m (hd i) (jn m (c (amk o i) q) (R (amk o i ||| 2 ^ q))) = L)) ∧ hd (i + 1) = jn m (hd i) (c (amk o i) (o i))
noncomputable def hdf (m : Nat) (c : Nat → Nat → Nat) (o : Nat → Nat) : Nat → Nat
  | 0 => 0
  | i + 1 => jn m (hdf m c o i) (c (amk o i) (o i))
theorem brw_ok {n m : Nat} {c : Nat → Nat → Nat} {R C : Nat → Nat} (hn : n < 10) (hR : RPr n m c R) (hRf : R (2 ^ n - 1) = 0) (hC : CPr n (okc m (R 0) c R) C) : BRW n (ldr n (okc m (R 0) c R) C) (brw (ldr n (okc m (R 0) c R) C)) ∧ KRW n m (R 0) c R (brw (ldr n (okc m (R 0) c R) C)) (hdf m c (brw (ldr n (okc m (R 0) c R) C))) := by
  generalize hld : ldr n (okc m (R 0) c R) C = ld
  have hp2 := Nat.two_pow_pos n
  have key : ∀ i, i ≤ n → amk (brw ld) i < 2 ^ n ∧ cnt (amk (brw ld) i) n = i ∧ KPI m (R 0) R (amk (brw ld) i) (hdf m c (brw ld) i) ∧ ∀ j, j < i → (brw ld j < n ∧ (amk (brw ld) j).testBit (brw ld j) = false ∧ (ld (amk (brw ld) j)).testBit (brw ld j) = true ∧ ∀ q, q < brw ld j → (ld (amk (brw ld) j)).testBit q = false) ∧ jn m (hdf m c (brw ld) j) (jn m (c (amk (brw ld) j) (brw ld j)) (R (amk (brw ld) j ||| 2 ^ brw ld j))) = R 0 ∧ (∀ q, q < brw ld j → ¬ ((amk (brw ld) j).testBit q = false ∧ jn m (hdf m c (brw ld) j) (jn m (c (amk (brw ld) j) q) (R (amk (brw ld) j ||| 2 ^ q))) = R 0)) := by
    intro i
    induction i with
    | zero =>
      intro _
      refine ⟨hp2, cnt_0 n, ⟨fun _ => ⟨Nat.zero_le _, Nat.le_refl _, Nat.le_max_right _ _⟩, fun _ => Nat.zero_add _⟩, fun j hj => by omega⟩
    | succ i ih =>
      intro hi
      obtain ⟨h1, h2, h3, h4⟩ := ih (by omega)
      have hlt : amk (brw ld) i < 2 ^ n - 1 := by
        refine Decidable.byContradiction (fun q => ?_)
        have : amk (brw ld) i = 2 ^ n - 1 := by omega
        rw [this, cnt_fl] at h2
        omega
      have ldi : ∀ p, p < n → ((ld (amk (brw ld) i)).testBit p = true ↔ (amk (brw ld) i).testBit p = false ∧ jn m (hdf m c (brw ld) i) (jn m (c (amk (brw ld) i) p) (R (amk (brw ld) i ||| 2 ^ p))) = R 0) := fun p hp => by
        rw [← hld]
        exact ld_iff hR hRf hC (by rw [hld]; exact h1) hp (by rw [hld]; exact h3)
      obtain ⟨p0, hp0, hb0, e0⟩ := kp_ex hR hlt h3
      have hld9 : ld (amk (brw ld) i) < 512 := by rw [← hld]; exact ldr_lt hn
      have hne : ld (amk (brw ld) i) ≠ 0 := fun e => by
        have := (ldi p0 hp0).mpr ⟨hb0, e0⟩
        rw [e, Nat.zero_testBit] at this
        cases this
      obtain ⟨l1, l2, l3⟩ := lwb_in hld9 hne
      have eb : brw ld i = lwb (ld (amk (brw ld) i)) := by rw [amk_brw]; rfl
      rw [← eb] at l1 l2 l3
      have ln : brw ld i < n := by
        refine Decidable.byContradiction (fun q => ?_)
        have : ld (amk (brw ld) i) < 2 ^ n := by rw [← hld]; exact mkm_lt
        rw [lt_pow_bit this (by omega)] at l2
        cases l2
      obtain ⟨k1, k2⟩ := (ldi _ ln).mp l2
      have hup := set_up h1 ln k1
      refine ⟨hup.2.1, by rw [show amk (brw ld) (i + 1) = amk (brw ld) i ||| 2 ^ brw ld i from rfl, hup.2.2, h2], kp_on k2, fun j hj => ?_⟩
      by_cases e : j = i
      · subst e
        refine ⟨⟨ln, k1, l2, l3⟩, k2, fun q hq hh => ?_⟩
        have := (ldi q (by omega)).mpr hh
        rw [l3 q hq] at this
        cases this
      · exact h4 j (by omega)
  have kn := (key n (Nat.le_refl _)).2.2.2
  exact ⟨fun i hi => (kn i hi).1, rfl, fun i hi => ⟨(kn i hi).1.1, (kn i hi).1.2.1, (kn i hi).2.1, (kn i hi).2.2, rfl⟩⟩
/-- rst and crw are such -/
theorem rst_pr {n m T : Nat} {c : Nat → Nat → Nat} (hn : n < 10) (hc : ∀ S p, c S p ≤ 729) (hT : 7000 < T) {R : Nat → Nat} (hR : ∀ S, R S = rst n m T (fun _ _ => true) c (n - cnt S n) S) : RPr n m c R ∧ R (2 ^ n - 1) = 0 ∧ ∀ S, S < 2 ^ n → R S ≤ 6561 := by
  have e1 : ∀ S, S < 2 ^ n - 1 → R S = mns (fun p => !S.testBit p && true) (fun p => jn m (c S p) (R (S ||| 2 ^ p))) T n := by
    intro S hS
    have hk1 := cnt_ltf hS
    obtain ⟨kk, hkk⟩ : ∃ kk, n - cnt S n = kk + 1 := ⟨n - cnt S n - 1, by omega⟩
    rw [hR S, hkk]
    refine mns_congr (fun _ _ => rfl) (fun p hp hq => ?_)
    have hb : S.testBit p = false := by
      simp only [Bool.and_eq_true, Bool.not_eq_true'] at hq
      exact hq.1
    have := (set_up (n := n) (by omega) hp hb).2.2
    rw [hR (S ||| 2 ^ p), show n - cnt (S ||| 2 ^ p) n = kk by omega]
  have e0 : R (2 ^ n - 1) = 0 := by rw [hR, cnt_fl, Nat.sub_self]; rfl
  have fin : ∀ k S, S < 2 ^ n → n - cnt S n = k → R S ≤ 729 * k := by
    intro k
    induction k with
    | zero =>
      intro S hS hk
      have h1 := cnt_le (S := S) (n := n)
      have : S = 2 ^ n - 1 := (full_cnt hS).mp (by omega)
      rw [this, e0]
      exact Nat.zero_le _
    | succ k ih =>
      intro S hS hk
      have hS2 : S < 2 ^ n - 1 := by
        refine Decidable.byContradiction (fun q => ?_)
        have : S = 2 ^ n - 1 := by omega
        rw [this, cnt_fl] at hk
        omega
      obtain ⟨p, hp, hb⟩ := no_bit (S := S) (n := n) (by omega)
      have hup := set_up hS hp hb
      have h1 := ih (S ||| 2 ^ p) hup.2.1 (by omega)
      have h2 := mns_lb (P := fun p => !S.testBit p && true) (f := fun p => jn m (c S p) (R (S ||| 2 ^ p))) (T := T) (n := n) hp (by simp [hb])
      rw [e1 S hS2]
      have h3 := jn_le (m := m) (hc S p) h1
      have h2 : mns _ _ T n ≤ jn m (c S p) (R (S ||| 2 ^ p)) := h2
      omega
  have fin2 : ∀ S, S < 2 ^ n → R S ≤ 6561 := fun S hS => by
    have := fin _ S hS rfl
    omega
  refine ⟨⟨fun S p hS hp hb => ?_, fun S hS => ?_⟩, e0, fin2⟩
  · have hS2 : S < 2 ^ n - 1 := by
      refine Decidable.byContradiction (fun q => ?_)
      have : S = 2 ^ n - 1 := by omega
      rw [this, Nat.testBit_two_pow_sub_one] at hb
      simp [hp] at hb
    rw [e1 S hS2]
    exact mns_lb (f := fun p => jn m (c S p) (R (S ||| 2 ^ p))) hp (by simp [hb])
  · have h1 := fin2 S (by omega)
    rcases mns_at (P := fun p => !S.testBit p && true) (f := fun p => jn m (c S p) (R (S ||| 2 ^ p))) (T := T) (n := n) with h | ⟨p, hp, hq, h⟩
    · rw [← e1 S hS] at h
      omega
    · rw [← e1 S hS] at h
      refine ⟨p, hp, ?_, h⟩
      simp only [Bool.and_eq_true, Bool.not_eq_true'] at hq
      exact hq.1
theorem crw_pr {n : Nat} {ok : Nat → Nat → Bool} {C : Nat → Nat} (hC : ∀ S, C S = crw n ok (n - cnt S n) S) : CPr n ok C := by
  refine ⟨by rw [hC, cnt_fl, Nat.sub_self]; rfl, fun S hS => ?_⟩
  have hk1 := cnt_ltf hS
  obtain ⟨kk, hkk⟩ : ∃ kk, n - cnt S n = kk + 1 := ⟨n - cnt S n - 1, by omega⟩
  rw [hC S, hkk]
  refine sm_congr (fun p hp => ?_)
  by_cases hq : (!S.testBit p && ok S p) = true
  · have hb : S.testBit p = false := by
      simp only [Bool.and_eq_true, Bool.not_eq_true'] at hq
      exact hq.1
    have := (set_up (n := n) (by omega) hp hb).2.2
    rw [if_pos hq, if_pos hq, hC (S ||| 2 ^ p), show n - cnt (S ||| 2 ^ p) n = kk by omega]
  · rw [if_neg hq, if_neg hq]
end
section
/-! the reference's search over all sets -/
/-- costs of steps in the reference's array; 1000000 where al forbids -/
def CSA (n : Nat) (al : Nat → Nat → Bool) (c : Nat → Nat → Nat) (t : St) : Prop := ∀ S p, S < 2 ^ n → p < n → S.testBit p = false → t 157 (9 * S + p) = nI (if al S p = true then c S p else 1000000)
theorem m_laysCosts {s n : Nat} {w : Nat → Nat → Nat} {t : St} (h : RN s n w t) (hs : s < 3) (hw : WF n w) (hn : n < 10) {m : Nat} (hm : m < 7) : Ok (FX12_laysCosts (nI s) (nI m) t) (fun _ u => (∀ c, c ≠ 149 → c ≠ 157 → u c = t c) ∧ u 149 17 = nI (2 ^ n - 1) ∧ (∀ j, j ≠ 17 → u 149 j = t 149 j) ∧ CSA n (fun _ _ => true) (cst n w m) u ∧ ∀ S p, S < 2 ^ n → p < n → S.testBit p = true → u 157 (9 * S + p) = nI 1000000) := by
  have h2 := Nat.two_pow_pos n
  have h3 := pow9 (k := n) (by omega)
  unfold FX12_laysCosts
  refine Ok.bq (q_points h hs) ?_
  rw [shl_1 (by omega), nI_s1 (by omega)]
  refine OkwrE ?_
  have a1 : ∀ c, c ≠ 149 → wr t 149 17 (nI (2 ^ n - 1)) c = t c := fun c hc => wr_off c hc
  have b1 : wr t 149 17 (nI (2 ^ n - 1)) 149 17 = nI (2 ^ n - 1) := wrs
  have d1 : ∀ j, j ≠ 17 → wr t 149 17 (nI (2 ^ n - 1)) 149 j = t 149 j := fun j hj => wrn hj
  generalize wr t 149 17 (nI (2 ^ n - 1)) = t1 at a1 b1 d1 ⊢
  refine Ok.bd (fun _ u => (∀ c, c ≠ 157 → u c = t1 c) ∧ ∀ S p, S < 2 ^ n → p < n → u 157 (9 * S + p) = nI (if S.testBit p = true then 1000000 else cst n w m S p)) ?_ ?_
  · refine Ok.count (2 ^ n) (fun A c u => c = nI A ∧ (∀ c, c ≠ 157 → u c = t1 c) ∧ ∀ S p, S < A → p < n → u 157 (9 * S + p) = nI (if S.testBit p = true then 1000000 else cst n w m S p)) ?_ ?_ (Nat.zero_le _) ⟨rfl, fun _ _ => rfl, fun S p hh => by omega⟩
    · rintro A c u hA ⟨rfl, uf, uI⟩
      unfold SX12_laysCosts_15
      refine Ok.rdE (x := nI (2 ^ n - 1)) (by rw [uf 149 (by decide)]; exact b1) (Ok.ifF (by rw [nI_ltP (by omega) (by omega)]; omega) ?_)
      refine Ok.bd (fun _ y => (∀ c, c ≠ 157 → y c = t1 c) ∧ ∀ S p, S < A + 1 → p < n → y 157 (9 * S + p) = nI (if S.testBit p = true then 1000000 else cst n w m S p)) ?_ (fun _ y hy => Ok.ret ⟨nI_1 A, hy⟩)
      refine Ok.count n (fun j c y => c = nI j ∧ (∀ c, c ≠ 157 → y c = t1 c) ∧ ∀ S p, (S < A ∨ (S = A ∧ p < j)) → p < n → y 157 (9 * S + p) = nI (if S.testBit p = true then 1000000 else cst n w m S p)) ?_ ?_ (Nat.zero_le _) ⟨rfl, uf, fun S p a => uI S p (by omega)⟩
      · rintro j c y hj ⟨rfl, yf, yI⟩
        have hy : RN s n w y := h.fr (by rw [yf 150 (by decide), a1 150 (by decide)])
        unfold SX12_laysCosts_26
        refine Ok.bq (q_points hy hs) (Ok.ifF (by rw [nI_leP (by omega) (by omega)]; omega) (Ok.bq (q_has (by omega) (by omega)) ?_))
        refine Ok.bq (a := nI (if A.testBit j = true then 1000000 else cst n w m A j)) (t := y) (Ok.eq (Ok.cv b01 (Ok.ite (fun c0 => Ok.bq (q_cost hy hs hw hn hm (by omega) (by omega)) (Ok.ret ⟨rfl, ?_⟩)) (fun c0 => Ok.ret ⟨rfl, ?_⟩)))) ?_
        · rw [if_neg (by rw [c0]; decide)]
        · rw [if_pos (bT c0)]; rfl
        rw [idx9]
        refine Ok.ckT (inb_n (by omega) (by omega)) (OkwrE (Ok.ret ⟨nI_1 j, fun c hc => by rw [wr_off c hc]; exact yf c hc, fun S p a1 a2 => ?_⟩))
        rw [nI_cl (by omega)]
        by_cases e : S = A ∧ p = j
        · obtain ⟨rfl, rfl⟩ := e
          rw [wrs]
        · rw [wrn (by omega)]
          exact yI S p (by omega) a2
      · rintro c y ⟨rfl, yf, yI⟩
        have hy : RN s n w y := h.fr (by rw [yf 150 (by decide), a1 150 (by decide)])
        unfold SX12_laysCosts_26
        exact Ok.bq (q_points hy hs) (Ok.ifT (by rw [nI_leP (by omega) (by omega)]; omega) (Ok.ret ⟨yf, fun S p a b => yI S p (by omega) b⟩))
    · rintro c u ⟨rfl, uf, uI⟩
      unfold SX12_laysCosts_15
      exact Ok.rdE (x := nI (2 ^ n - 1)) (by rw [uf 149 (by decide)]; exact b1) (Ok.ifT (by rw [nI_ltP (by omega) (by omega)]; omega) (Ok.ret ⟨uf, uI⟩))
  · rintro _ u ⟨uf, uI⟩
    refine Ok.ret ⟨fun c c1 c2 => by rw [uf c c2, a1 c c1], by rw [uf 149 (by decide)]; exact b1, fun j hj => by rw [uf 149 (by decide)]; exact d1 j hj, fun S p a1 a2 a3 => ?_, fun S p a1 a2 a3 => ?_⟩
    · rw [uI S p a1 a2, if_neg (by rw [a3]; decide), if_pos rfl]
    · rw [uI S p a1 a2, if_pos a3]
theorem m_laysRest {s n : Nat} {w : Nat → Nat → Nat} {t : St} (h : RN s n w t) (hs : s < 3) (hn : n < 10) {m : Nat} (hm : m < 7) {al : Nat → Nat → Bool} {c : Nat → Nat → Nat} (hc : ∀ S p, c S p ≤ 729) (e17 : t 149 17 = nI (2 ^ n - 1)) (hA : CSA n al c t) (hB : ∀ S p, S < 2 ^ n → p < n → S.testBit p = true → ∃ v, t 157 (9 * S + p) = v) : Ok (FX12_laysRest (nI s) (nI m) t) (fun _ u => (∀ c, c ≠ 155 → u c = t c) ∧ RSA 155 n (fun S => rst n m 1000000 al c (n - cnt S n) S) u) := by
  have h2 := Nat.two_pow_pos n
  have h3 := pow9 (k := n) (by omega)
  generalize hR : (fun S => rst n m 1000000 al c (n - cnt S n) S) = R
  have hRb : ∀ S, R S ≤ 1000000 := fun S => by rw [← hR]; exact rst_bd hc (by omega) (by omega)
  unfold FX12_laysRest
  refine Ok.rdE e17 (Ok.bd (fun _ u => (∀ c, c ≠ 155 → u c = t c) ∧ RSA 155 n R u) ?_ (fun _ u hu => Ok.ret hu))
  refine Ok.loop (fun k cc u => ∃ A, k = A ∧ A ≤ 2 ^ n ∧ cc = nI A - 1 ∧ (∀ c, c ≠ 155 → u c = t c) ∧ ∀ S, A ≤ S → S < 2 ^ n → u 155 S = nI (R S)) ?_ (2 ^ n) _ _ ⟨2 ^ n, rfl, Nat.le_refl _, by rw [nI_s1 (by omega)], fun _ _ => rfl, fun S a1 a2 => by omega⟩
  rintro k cc u ⟨A, rfl, hAk, rfl, uf, uI⟩
  unfold SX12_laysRest_5
  by_cases e0 : k = 0
  · subst e0
    exact Ok.ifT (by decide) (Ok.ret ⟨uf, fun S a => uI S (Nat.zero_le _) a⟩)
  · rw [nI_s1 (by omega)]
    refine Ok.ifF (by rw [li_0, nI_ltP (by omega) (by omega)]; omega) (Ok.rdE (x := nI (2 ^ n - 1)) (by rw [uf 149 (by decide)]; exact e17) ?_)
    refine Ok.bq (a := nI (if k - 1 = 2 ^ n - 1 then 0 else 1000000)) (t := u) (Ok.eq (Ok.cv (nI_eqP (by omega) (by omega)) (Ok.ite (fun c0 => Ok.ret ⟨rfl, by rw [if_pos c0]; rfl⟩) (fun c0 => Ok.ret ⟨rfl, by rw [if_neg c0]; rfl⟩)))) ?_
    refine Ok.ckT (inb_n (by omega) (by omega)) (OkwrE ?_)
    rw [nI_cl (by omega)]
    generalize hF : (fun p => jn m (c (k - 1) p) (R ((k - 1) ||| 2 ^ p))) = F
    refine Ok.bd (fun _ y => (∀ c, c ≠ 155 → y c = t c) ∧ (∀ S, k ≤ S → S < 2 ^ n → y 155 S = nI (R S)) ∧ y 155 (k - 1) = nI (mns (fun p => !(k - 1).testBit p && al (k - 1) p) F (if k - 1 = 2 ^ n - 1 then 0 else 1000000) n)) ?_ ?_
    · refine Ok.count n (fun j cc y => cc = nI j ∧ (∀ c, c ≠ 155 → y c = t c) ∧ (∀ S, k ≤ S → S < 2 ^ n → y 155 S = nI (R S)) ∧ y 155 (k - 1) = nI (mns (fun p => !(k - 1).testBit p && al (k - 1) p) F (if k - 1 = 2 ^ n - 1 then 0 else 1000000) j)) ?_ ?_ (Nat.zero_le _) ⟨rfl, fun c hc => by rw [wr_off c hc]; exact uf c hc, fun S a1 a2 => by rw [wrn (by omega)]; exact uI S a1 a2, wrs⟩
      · rintro j cc y hj ⟨rfl, yf, yI, yk⟩
        have hy : RN s n w y := h.fr (by rw [yf 150 (by decide)])
        unfold SX12_laysRest_33
        have hmb := mns_le (P := fun p => !(k - 1).testBit p && al (k - 1) p) (f := F) (T := if k - 1 = 2 ^ n - 1 then 0 else 1000000) (n := j)
        have hmb2 : (if k - 1 = 2 ^ n - 1 then 0 else 1000000) ≤ 1000000 := by split <;> omega
        refine Ok.bq (q_points hy hs) (Ok.ifF (by rw [nI_leP (by omega) (by omega)]; omega) ?_)
        rw [idx9]
        refine Ok.ckT (inb_n (by omega) (by omega)) (Ok.rd (fun v19 hv19 => Ok.bq (q_has (by omega) (by omega)) ?_))
        rw [nI_cl (by omega), yf 157 (by decide)] at hv19
        refine Ok.bd (fun _ z => (∀ c, c ≠ 155 → z c = t c) ∧ (∀ S, k ≤ S → S < 2 ^ n → z 155 S = nI (R S)) ∧ z 155 (k - 1) = nI (mns (fun p => !(k - 1).testBit p && al (k - 1) p) F (if k - 1 = 2 ^ n - 1 then 0 else 1000000) (j + 1))) ?_ (fun _ z hz => Ok.ret ⟨nI_1 j, hz⟩)
        have em : mns (fun p => !(k - 1).testBit p && al (k - 1) p) F (if k - 1 = 2 ^ n - 1 then 0 else 1000000) (j + 1) = if (!(k - 1).testBit j && al (k - 1) j) = true then Nat.min (mns (fun p => !(k - 1).testBit p && al (k - 1) p) F (if k - 1 = 2 ^ n - 1 then 0 else 1000000) j) (F j) else mns (fun p => !(k - 1).testBit p && al (k - 1) p) F (if k - 1 = 2 ^ n - 1 then 0 else 1000000) j := rfl
        rw [em]
        refine Ok.cv b01 (Ok.ite (fun c0 => ?_) (fun c0 => Ok.ret ⟨yf, yI, ?_⟩))
        · have hup := set_up (S := k - 1) (n := n) (by omega) hj c0
          rw [hA (k - 1) j (by omega) hj c0] at hv19
          have hcj := hc (k - 1) j
          have hRj := hRb ((k - 1) ||| 2 ^ j)
          subst hv19
          by_cases q : al (k - 1) j = true
          · rw [if_pos q, if_pos (c := (!(k - 1).testBit j && al (k - 1) j) = true) (by simp [c0, q])]
            refine Ok.ifF (by rw [li_1000000, nI_leP (by omega) (by omega)]; omega) (Ok.ckT (inb_n (by omega) (by omega)) ?_)
            rw [nI_cl (by omega)]
            refine Ok.rdE yk ?_
            rw [shl_1 (by omega), nI_or]
            refine Ok.ckT (inb_n (by omega) (by omega)) ?_
            rw [nI_cl (by omega)]
            refine Ok.rdE (yI _ (by omega) hup.2.1) (Ok.bq (q_both hm (by omega) (by omega)) (Ok.ckT (inb_n (by omega) (by omega)) (OkwrE (Ok.ret ⟨fun c hc => by rw [wr_off c hc]; exact yf c hc, fun S a1 a2 => by rw [wrn (by omega)]; exact yI S a1 a2, ?_⟩))))
            have hjl := jn_le (m := m) hcj hRj
            rw [wrs, mnI_n (by omega) (by omega), ← hF]
          · rw [if_neg q, if_neg (c := (!(k - 1).testBit j && al (k - 1) j) = true) (by simp [q])]
            exact Ok.ifT (by decide) (Ok.ret ⟨yf, yI, yk⟩)
        · rw [if_neg (by simp [bT c0])]
          exact yk
      · rintro cc y ⟨rfl, yf, yI, yk⟩
        have hy : RN s n w y := h.fr (by rw [yf 150 (by decide)])
        unfold SX12_laysRest_33
        exact Ok.bq (q_points hy hs) (Ok.ifT (by rw [nI_leP (by omega) (by omega)]; omega) (Ok.ret ⟨yf, yI, yk⟩))
    · rintro _ y ⟨yf, yI, yk⟩
      refine Ok.ret ⟨k - 1, by omega, k - 1, rfl, by omega, by rw [Int32.sub_eq_add_neg], yf, fun S a1 a2 => ?_⟩
      by_cases e : S = k - 1
      · subst e
        rw [yk]
        congr 1
        by_cases ef : k - 1 = 2 ^ n - 1
        · rw [if_pos ef, ← hR]
          dsimp only
          rw [ef, cnt_fl, Nat.sub_self]
          have : mns (fun p => !(2 ^ n - 1).testBit p && al (2 ^ n - 1) p) F 0 n ≤ 0 := mns_le
          show _ = 0
          omega
        · rw [if_neg ef, ← hR]
          dsimp only
          have hk1 : cnt (k - 1) n < n := cnt_ltf (by omega)
          obtain ⟨kk, hkk⟩ : ∃ kk, n - cnt (k - 1) n = kk + 1 := ⟨n - cnt (k - 1) n - 1, by omega⟩
          rw [hkk]
          refine mns_congr (fun _ _ => rfl) (fun p hp hq => ?_)
          have hb : (k - 1).testBit p = false := by
            simp only [Bool.and_eq_true, Bool.not_eq_true'] at hq
            exact hq.1
          have := (set_up (S := k - 1) (n := n) (by omega) hp hb).2.2
          rw [← hF, ← hR]
          dsimp only
          rw [show n - cnt (k - 1 ||| 2 ^ p) n = kk by omega]
      · exact yI S (by omega) a2
theorem m_rowsWithin {s n : Nat} {w : Nat → Nat → Nat} {t : St} (h : RN s n w t) (hs : s < 3) (hn : n < 10) {m L : Nat} (hg : Gr m) {c : Nat → Nat → Nat} {R : Nat → Nat} (hc : ∀ S p, c S p ≤ 729) (hL : L < 2147483648) (e17 : t 149 17 = nI (2 ^ n - 1)) (hA : CSA n (fun _ _ => true) c t) : Ok (FX12_rowsWithin (nI s) (nI L) t) (fun r u => (∀ c, c ≠ 156 → u c = t c) ∧ r = nI (crw n (okc m L c R) n 0)) := by
  have h2 := Nat.two_pow_pos n
  have h3 := pow9 (k := n) (by omega)
  generalize hC : (fun S => crw n (okc m L c R) (n - cnt S n) S) = C
  have hCb : ∀ S, C S < 400000000 := fun S => by rw [← hC]; exact crw_b hn (by omega)
  unfold FX12_rowsWithin
  refine Ok.rdE e17 (Ok.bd (fun _ u => (∀ c, c ≠ 156 → u c = t c) ∧ RSA 156 n C u) ?_ ?_)
  · refine Ok.loop (fun k cc u => ∃ A, k = A ∧ A ≤ 2 ^ n ∧ cc = nI A - 1 ∧ (∀ c, c ≠ 156 → u c = t c) ∧ ∀ S, A ≤ S → S < 2 ^ n → u 156 S = nI (C S)) ?_ (2 ^ n) _ _ ⟨2 ^ n, rfl, Nat.le_refl _, by rw [nI_s1 (by omega)], fun _ _ => rfl, fun S a1 a2 => by omega⟩
    rintro k cc u ⟨A, rfl, hAk, rfl, uf, uI⟩
    unfold SX12_rowsWithin_5
    by_cases e0 : k = 0
    · subst e0
      exact Ok.ifT (by decide) (Ok.ret ⟨uf, fun S a => uI S (Nat.zero_le _) a⟩)
    · rw [nI_s1 (by omega)]
      refine Ok.ifF (by rw [li_0, nI_ltP (by omega) (by omega)]; omega) (Ok.rdE (x := nI (2 ^ n - 1)) (by rw [uf 149 (by decide)]; exact e17) ?_)
      refine Ok.bq (a := nI (if k - 1 = 2 ^ n - 1 then 1 else 0)) (t := u) (Ok.eq (Ok.cv (nI_eqP (by omega) (by omega)) (Ok.ite (fun c0 => Ok.ret ⟨rfl, by rw [if_pos c0]; rfl⟩) (fun c0 => Ok.ret ⟨rfl, by rw [if_neg c0]; rfl⟩)))) ?_
      refine Ok.ckT (inb_n (by omega) (by omega)) (OkwrE ?_)
      rw [nI_cl (by omega)]
      generalize hF : (fun p => if (!(k - 1).testBit p && okc m L c R (k - 1) p) = true then C ((k - 1) ||| 2 ^ p) else 0) = F
      have hsb : ∀ j, sm j F ≤ j * 400000000 := fun j => sm_le (fun i _ => by
        rw [← hF]
        dsimp only
        have := hCb ((k - 1) ||| 2 ^ i)
        split <;> omega)
      refine Ok.bd (fun _ y => (∀ c, c ≠ 156 → y c = t c) ∧ (∀ S, k ≤ S → S < 2 ^ n → y 156 S = nI (C S)) ∧ y 156 (k - 1) = nI ((if k - 1 = 2 ^ n - 1 then 1 else 0) + sm n F)) ?_ ?_
      · refine Ok.count n (fun j cc y => cc = nI j ∧ (∀ c, c ≠ 156 → y c = t c) ∧ (∀ S, k ≤ S → S < 2 ^ n → y 156 S = nI (C S)) ∧ y 156 (k - 1) = nI ((if k - 1 = 2 ^ n - 1 then 1 else 0) + sm j F)) ?_ ?_ (Nat.zero_le _) ⟨rfl, fun c hc => by rw [wr_off c hc]; exact uf c hc, fun S a1 a2 => by rw [wrn (by omega)]; exact uI S a1 a2, wrs⟩
        · rintro j cc y hj ⟨rfl, yf, yI, yk⟩
          have hy : RN s n w y := h.fr (by rw [yf 150 (by decide)])
          unfold SX12_rowsWithin_31
          have hFj : F j = if (!(k - 1).testBit j && okc m L c R (k - 1) j) = true then C ((k - 1) ||| 2 ^ j) else 0 := by rw [← hF]
          refine Ok.bq (q_points hy hs) (Ok.ifF (by rw [nI_leP (by omega) (by omega)]; omega) (Ok.ckT (inb_n (by omega) (by omega)) ?_))
          rw [nI_cl (by omega)]
          refine Ok.rdE yk (Ok.bq (q_has (by omega) (by omega)) (Ok.bq (a := nI (F j)) (t := y) (Ok.eq ?_) ?_))
          · refine Ok.cv b01 (Ok.ite (fun c0 => ?_) (fun c0 => Ok.ret ⟨rfl, ?_⟩))
            · have hup := set_up (S := k - 1) (n := n) (by omega) hj c0
              have hcj := hc (k - 1) j
              rw [idx9]
              refine Ok.ckT (inb_n (by omega) (by omega)) ?_
              rw [nI_cl (by omega)]
              refine Ok.rdE (x := nI (c (k - 1) j)) (by rw [yf 157 (by decide), hA _ _ (by omega) hj c0, if_pos rfl]) ?_
              refine Ok.cv (nI_ltP (by omega) (by omega)) (Ok.ite (fun c1 => Ok.ret ⟨rfl, ?_⟩) (fun c1 => ?_))
              · have : ¬ okc m L c R (k - 1) j = true := fun q => by
                  have := (okc_g hg).mp q
                  omega
                rw [hFj, if_neg (by simp [this])]
                rfl
              · have : okc m L c R (k - 1) j = true := (okc_g hg).mpr (by omega)
                rw [shl_1 (by omega), nI_or]
                refine Ok.ckT (inb_n (by omega) (by omega)) ?_
                rw [nI_cl (by omega)]
                refine Ok.rdE (yI _ (by omega) hup.2.1) (Ok.ret ⟨rfl, ?_⟩)
                rw [hFj, if_pos (by simp [c0, this])]
            · rw [hFj, if_neg (by simp [bT c0])]
              rfl
          · rw [nI_add]
            refine Ok.ckT (inb_n (by omega) (by omega)) (OkwrE (Ok.ret ⟨nI_1 j, fun c hc => by rw [wr_off c hc]; exact yf c hc, fun S a1 a2 => by rw [wrn (by omega)]; exact yI S a1 a2, ?_⟩))
            rw [wrs, Nat.add_assoc]
            rfl
        · rintro cc y ⟨rfl, yf, yI, yk⟩
          have hy : RN s n w y := h.fr (by rw [yf 150 (by decide)])
          unfold SX12_rowsWithin_31
          exact Ok.bq (q_points hy hs) (Ok.ifT (by rw [nI_leP (by omega) (by omega)]; omega) (Ok.ret ⟨yf, yI, yk⟩))
      · rintro _ y ⟨yf, yI, yk⟩
        refine Ok.ret ⟨k - 1, by omega, k - 1, rfl, by omega, by rw [Int32.sub_eq_add_neg], yf, fun S a1 a2 => ?_⟩
        by_cases e : S = k - 1
        · subst e
          have hpr := crw_pr (C := C) (n := n) (ok := okc m L c R) (fun S => by rw [← hC])
          rw [yk]
          congr 1
          by_cases ef : k - 1 = 2 ^ n - 1
          · rw [if_pos ef, ef, hpr.1]
            have : sm n F = 0 := sm_zero (fun p hp => by
              rw [← hF]
              dsimp only
              refine if_neg ?_
              rw [ef, Nat.testBit_two_pow_sub_one]
              simp [hp])
            omega
          · rw [if_neg ef, Nat.zero_add, hpr.2 _ (by omega), hF]
        · exact yI S (by omega) a2
  · rintro _ u ⟨uf, uI⟩
    refine Ok.ckT (by decide) (Ok.rdE (x := nI (C 0)) (uI 0 h2) (Ok.ret ⟨uf, ?_⟩))
    rw [← hC]
    dsimp only
    rw [cnt_0, Nat.sub_zero]
end
section
/-! the reference's search, on -/
theorem m_rowsOfLeast {s n : Nat} {w : Nat → Nat → Nat} {t : St} (h : RN s n w t) (hs : s < 3) (hn : n < 10) {m L : Nat} (hg : ¬ Gr m) {c : Nat → Nat → Nat} {R : Nat → Nat} (hc : ∀ S p, c S p ≤ 729) (hR : ∀ S, R S ≤ 1000000) (h155 : RSA 155 n R t) (e17 : t 149 17 = nI (2 ^ n - 1)) (hA : CSA n (fun _ _ => true) c t) : Ok (FX12_rowsOfLeast (nI s) t) (fun r u => (∀ c, c ≠ 156 → u c = t c) ∧ r = nI (crw n (okc m L c R) n 0)) := by
  have h2 := Nat.two_pow_pos n
  have h3 := pow9 (k := n) (by omega)
  generalize hC : (fun S => crw n (okc m L c R) (n - cnt S n) S) = C
  have hCb : ∀ S, C S < 400000000 := fun S => by rw [← hC]; exact crw_b hn (by omega)
  unfold FX12_rowsOfLeast
  refine Ok.rdE e17 (Ok.bd (fun _ u => (∀ c, c ≠ 156 → u c = t c) ∧ RSA 156 n C u) ?_ ?_)
  · refine Ok.loop (fun k cc u => ∃ A, k = A ∧ A ≤ 2 ^ n ∧ cc = nI A - 1 ∧ (∀ c, c ≠ 156 → u c = t c) ∧ ∀ S, A ≤ S → S < 2 ^ n → u 156 S = nI (C S)) ?_ (2 ^ n) _ _ ⟨2 ^ n, rfl, Nat.le_refl _, by rw [nI_s1 (by omega)], fun _ _ => rfl, fun S a1 a2 => by omega⟩
    rintro k cc u ⟨A, rfl, hAk, rfl, uf, uI⟩
    unfold SX12_rowsOfLeast_5
    by_cases e0 : k = 0
    · subst e0
      exact Ok.ifT (by decide) (Ok.ret ⟨uf, fun S a => uI S (Nat.zero_le _) a⟩)
    · rw [nI_s1 (by omega)]
      refine Ok.ifF (by rw [li_0, nI_ltP (by omega) (by omega)]; omega) (Ok.rdE (x := nI (2 ^ n - 1)) (by rw [uf 149 (by decide)]; exact e17) ?_)
      refine Ok.bq (a := nI (if k - 1 = 2 ^ n - 1 then 1 else 0)) (t := u) (Ok.eq (Ok.cv (nI_eqP (by omega) (by omega)) (Ok.ite (fun c0 => Ok.ret ⟨rfl, by rw [if_pos c0]; rfl⟩) (fun c0 => Ok.ret ⟨rfl, by rw [if_neg c0]; rfl⟩)))) ?_
      refine Ok.ckT (inb_n (by omega) (by omega)) (OkwrE ?_)
      rw [nI_cl (by omega)]
      generalize hF : (fun p => if (!(k - 1).testBit p && okc m L c R (k - 1) p) = true then C ((k - 1) ||| 2 ^ p) else 0) = F
      have hsb : ∀ j, sm j F ≤ j * 400000000 := fun j => sm_le (fun i _ => by
        rw [← hF]
        dsimp only
        have := hCb ((k - 1) ||| 2 ^ i)
        split <;> omega)
      refine Ok.bd (fun _ y => (∀ c, c ≠ 156 → y c = t c) ∧ (∀ S, k ≤ S → S < 2 ^ n → y 156 S = nI (C S)) ∧ y 156 (k - 1) = nI ((if k - 1 = 2 ^ n - 1 then 1 else 0) + sm n F)) ?_ ?_
      · refine Ok.count n (fun j cc y => cc = nI j ∧ (∀ c, c ≠ 156 → y c = t c) ∧ (∀ S, k ≤ S → S < 2 ^ n → y 156 S = nI (C S)) ∧ y 156 (k - 1) = nI ((if k - 1 = 2 ^ n - 1 then 1 else 0) + sm j F)) ?_ ?_ (Nat.zero_le _) ⟨rfl, fun c hc => by rw [wr_off c hc]; exact uf c hc, fun S a1 a2 => by rw [wrn (by omega)]; exact uI S a1 a2, wrs⟩
        · rintro j cc y hj ⟨rfl, yf, yI, yk⟩
          have hy : RN s n w y := h.fr (by rw [yf 150 (by decide)])
          unfold SX12_rowsOfLeast_30
          have hFj : F j = if (!(k - 1).testBit j && okc m L c R (k - 1) j) = true then C ((k - 1) ||| 2 ^ j) else 0 := by rw [← hF]
          refine Ok.bq (q_points hy hs) (Ok.ifF (by rw [nI_leP (by omega) (by omega)]; omega) (Ok.ckT (inb_n (by omega) (by omega)) ?_))
          rw [nI_cl (by omega)]
          refine Ok.rdE yk (Ok.bq (q_has (by omega) (by omega)) (Ok.bq (a := nI (F j)) (t := y) (Ok.eq ?_) ?_))
          · refine Ok.cv b01 (Ok.ite (fun c0 => ?_) (fun c0 => Ok.ret ⟨rfl, ?_⟩))
            · have hup := set_up (S := k - 1) (n := n) (by omega) hj c0
              have hcj := hc (k - 1) j
              rw [idx9]
              refine Ok.ckT (inb_n (by omega) (by omega)) ?_
              rw [nI_cl (by omega)]
              refine Ok.rdE (x := nI (c (k - 1) j)) (by rw [yf 157 (by decide), hA _ _ (by omega) hj c0, if_pos rfl]) ?_
              have r1 := hR (k - 1)
              have r2 := hR ((k - 1) ||| 2 ^ j)
              rw [shl_1 (by omega), nI_or]
              refine Ok.ckT (inb_n (by omega) (by omega)) ?_
              rw [nI_cl (by omega)]
              refine Ok.rdE (x := nI (R ((k - 1) ||| 2 ^ j))) (by rw [yf 155 (by decide)]; exact h155 _ hup.2.1) (Ok.ckT (inb_n (by omega) (by omega)) ?_)
              refine Ok.rdE (x := nI (R (k - 1))) (by rw [yf 155 (by decide)]; exact h155 _ (by omega)) ?_
              rw [nI_add]
              refine Ok.cv (nI_eqP (by omega) (by omega)) (Ok.ite (fun c1 => ?_) (fun c1 => Ok.ret ⟨rfl, ?_⟩))
              · have : okc m L c R (k - 1) j = true := (okc_s hg).mpr c1
                refine Ok.ckT (inb_n (by omega) (by omega)) (Ok.rdE (yI _ (by omega) hup.2.1) (Ok.ret ⟨rfl, ?_⟩))
                rw [hFj, if_pos (by simp [c0, this])]
              · have : ¬ okc m L c R (k - 1) j = true := fun q => c1 ((okc_s hg).mp q)
                rw [hFj, if_neg (by simp [this])]
                rfl
            · rw [hFj, if_neg (by simp [bT c0])]
              rfl
          · rw [nI_add]
            refine Ok.ckT (inb_n (by omega) (by omega)) (OkwrE (Ok.ret ⟨nI_1 j, fun c hc => by rw [wr_off c hc]; exact yf c hc, fun S a1 a2 => by rw [wrn (by omega)]; exact yI S a1 a2, ?_⟩))
            rw [wrs, Nat.add_assoc]
            rfl
        · rintro cc y ⟨rfl, yf, yI, yk⟩
          have hy : RN s n w y := h.fr (by rw [yf 150 (by decide)])
          unfold SX12_rowsOfLeast_30
          exact Ok.bq (q_points hy hs) (Ok.ifT (by rw [nI_leP (by omega) (by omega)]; omega) (Ok.ret ⟨yf, yI, yk⟩))
      · rintro _ y ⟨yf, yI, yk⟩
        refine Ok.ret ⟨k - 1, by omega, k - 1, rfl, by omega, by rw [Int32.sub_eq_add_neg], yf, fun S a1 a2 => ?_⟩
        by_cases e : S = k - 1
        · subst e
          have hpr := crw_pr (C := C) (n := n) (ok := okc m L c R) (fun S => by rw [← hC])
          rw [yk]
          congr 1
          by_cases ef : k - 1 = 2 ^ n - 1
          · rw [if_pos ef, ef, hpr.1]
            have : sm n F = 0 := sm_zero (fun p hp => by
              rw [← hF]
              dsimp only
              refine if_neg ?_
              rw [ef, Nat.testBit_two_pow_sub_one]
              simp [hp])
            omega
          · rw [if_neg ef, Nat.zero_add, hpr.2 _ (by omega), hF]
        · exact yI S (by omega) a2
  · rintro _ u ⟨uf, uI⟩
    refine Ok.ckT (by decide) (Ok.rdE (x := nI (C 0)) (uI 0 h2) (Ok.ret ⟨uf, ?_⟩))
    rw [← hC]
    dsimp only
    rw [cnt_0, Nat.sub_zero]
theorem q_keeps {n m S p had : Nat} {c : Nat → Nat → Nat} {R : Nat → Nat} {t : St} (hn : n < 10) (hm : m < 7) (hc : ∀ S p, c S p ≤ 729) (hR : ∀ S, R S ≤ 1000000) (hA : CSA n (fun _ _ => true) c t) (h155 : RSA 155 n R t) (hh : had ≤ 1000000) (hS : S < 2 ^ n) (hp : p < n) {Q : Int32 → St → Prop} (q1 : S.testBit p = false → jn m had (jn m (c S p) (R (S ||| 2 ^ p))) = R 0 → Q 1 t) (q0 : ¬ (S.testBit p = false ∧ jn m had (jn m (c S p) (R (S ||| 2 ^ p))) = R 0) → Q 0 t) : Ok (FX12_keepsLeast (nI m) (nI S) (nI p) (nI had) t) Q := by
  have h3 := pow9 (k := n) (by omega)
  unfold FX12_keepsLeast
  refine Ok.bq (q_has (by omega) (by omega)) (Ok.cv b01 (Ok.ite (fun c0 => ?_) (fun c0 => Ok.ret (q0 (fun q => c0 q.1)))))
  have hup := set_up hS hp c0
  have hcj := hc S p
  have r1 := hR 0
  have r2 := hR (S ||| 2 ^ p)
  rw [idx9]
  refine Ok.ckT (inb_n (by omega) (by omega)) ?_
  rw [nI_cl (by omega)]
  refine Ok.rdE (x := nI (c S p)) (by rw [hA _ _ hS hp c0, if_pos rfl]) ?_
  rw [shl_1 (by omega), nI_or]
  refine Ok.ckT (inb_n (by omega) (by omega)) ?_
  rw [nI_cl (by omega)]
  have j1 := jn_le (m := m) hcj r2
  have j2 := jn_le (m := m) hh j1
  refine Ok.rdE (h155 _ hup.2.1) (Ok.bq (q_both hm (by omega) (by omega)) (Ok.bq (q_both hm (by omega) (by omega)) (Ok.ckT (by decide) (Ok.rdE (x := nI (R 0)) (h155 0 (by omega)) ?_))))
  refine Ok.cv (nI_eqP (by omega) (by omega)) (Ok.ite (fun c1 => Ok.ret (q1 c0 c1)) (fun c1 => Ok.ret (q0 (fun q => c1 q.2))))
theorem m_bestLoop {s n : Nat} {w : Nat → Nat → Nat} {t : St} (h : RN s n w t) (hs : s < 3) (hn : n < 10) {m : Nat} (hm : m < 7) {c : Nat → Nat → Nat} {R : Nat → Nat} {o hd : Nat → Nat} (hc : ∀ S p, c S p ≤ 729) (hR : ∀ S, R S ≤ 1000000) (hA : CSA n (fun _ _ => true) c t) (h155 : RSA 155 n R t) (ho : KRW n m (R 0) c R o hd) (hlt : ∀ i, i ≤ n → amk o i < 2 ^ n) (hhd : ∀ i, i ≤ n → hd i ≤ 1000000) : Ok (wh (SX12_laysBest_59 (nI s) (nI m)) ((0 : Int32), (0 : Int32), (0 : Int32)) t) (fun _ u => (∀ c, c ≠ 159 → u c = t c) ∧ ∀ i, i < n → u 159 i = nI (o i)) := by
  have h3 := pow9 (k := n) (by omega)
  refine Ok.count n (fun j cc u => cc = (nI (amk o j), nI (hd j), nI j) ∧ (∀ c, c ≠ 159 → u c = t c) ∧ ∀ i, i < j → u 159 i = nI (o i)) ?_ ?_ (Nat.zero_le _) ⟨by rw [ho.1]; rfl, fun _ _ => rfl, fun i hi => by omega⟩
  · rintro j cc u hj ⟨rfl, uf, uI⟩
    have hu : RN s n w u := h.fr (by rw [uf 150 (by decide)])
    have uA : CSA n (fun _ _ => true) c u := fun S p a1 a2 a3 => by rw [uf 157 (by decide)]; exact hA S p a1 a2 a3
    have uR : RSA 155 n R u := fun S a => by rw [uf 155 (by decide)]; exact h155 S a
    obtain ⟨o1, o2, o3, o4, o5⟩ := ho.2 j hj
    have hS := hlt j (by omega)
    have hH := hhd j (by omega)
    unfold SX12_laysBest_59
    dsimp only
    refine Ok.bq (q_points hu hs) (Ok.ifF (by rw [nI_leP (by omega) (by omega)]; omega) ?_)
    refine Ok.bq (a := nI (o j)) (t := u) (wq (o j) (fun q => nI q) (fun q hq => ?_) ?_) ?_
    · unfold SX12_laysBest_72
      refine Ok.bd (fun r y => u = y ∧ r = 0) (q_keeps hn hm hc hR uA uR hH hS (by omega) (fun a b => absurd ⟨a, b⟩ (o4 q hq)) (fun _ => ⟨rfl, rfl⟩)) ?_
      rintro _ _ ⟨rfl, rfl⟩
      exact Ok.ifT rfl (Ok.ret ⟨rfl, by rw [nI_1]⟩)
    · unfold SX12_laysBest_72
      refine Ok.bd (fun r y => u = y ∧ r = 1) (q_keeps hn hm hc hR uA uR hH hS o1 (fun _ _ => ⟨rfl, rfl⟩) (fun a => absurd ⟨o2, o3⟩ a)) ?_
      rintro _ _ ⟨rfl, rfl⟩
      exact Ok.ifF (by decide) (Ok.ret ⟨rfl, rfl⟩)
    · have hcj := hc (amk o j) (o j)
      rw [idx9]
      refine Ok.ckT (inb_n (by omega) (by omega)) ?_
      rw [nI_cl (by omega)]
      refine Ok.rdE (x := nI (c (amk o j) (o j))) (by rw [uA _ _ hS o1 o2, if_pos rfl]) (Ok.bq (q_both hm (by omega) (by omega)) (Ok.ckT (inb_n (by omega) (by omega)) (OkwrE (Ok.ret ⟨?_, fun c hc => by rw [wr_off c hc]; exact uf c hc, fun i hi => ?_⟩))))
      · rw [shl_1 (by omega), nI_or, nI_1, o5]
        rfl
      · rw [nI_cl (by omega)]
        by_cases e : i = j
        · subst e; rw [wrs]
        · rw [wrn e]; exact uI i (by omega)
  · rintro cc u ⟨rfl, uf, uI⟩
    have hu : RN s n w u := h.fr (by rw [uf 150 (by decide)])
    unfold SX12_laysBest_59
    dsimp only
    exact Ok.bq (q_points hu hs) (Ok.ifT (by rw [nI_leP (by omega) (by omega)]; omega) (Ok.ret ⟨uf, uI⟩))
end
section
/-! rows by how far ends lie apart: pure -/
def upP (P : Nat → Nat) (i p : Nat) : Nat → Nat := fun j => if j = i then p else P j
theorem upP_i {P : Nat → Nat} {i p : Nat} : upP P i p i = p := if_pos rfl
theorem upP_n {P : Nat → Nat} {i p j : Nat} (h : j ≠ i) : upP P i p j = P j := if_neg h
theorem amk_eq {P Q : Nat → Nat} : ∀ {i : Nat}, (∀ j, j < i → P j = Q j) → amk P i = amk Q i
  | 0, _ => rfl
  | i + 1, h => by
    show amk P i ||| 2 ^ P i = amk Q i ||| 2 ^ Q i
    rw [amk_eq (fun j hj => h j (by omega)), h i (by omega)]
theorem amk_up {P : Nat → Nat} {i p : Nat} : amk (upP P i p) (i + 1) = amk P i ||| 2 ^ p := by
  show amk (upP P i p) i ||| 2 ^ upP P i p i = _
  rw [upP_i, amk_eq (fun j hj => upP_n (by omega))]
/-- p may stand at place i behind P, L at most apart -/
def canb (w : Nat → Nat → Nat) (L : Nat) (P : Nat → Nat) (i p : Nat) : Bool := decide (∀ k, k < i → k + L < i → w (P k) p = 0)
/-- how many rows go on from the first i places -/
def bct (n : Nat) (w : Nat → Nat → Nat) (L : Nat) : Nat → Nat → (Nat → Nat) → Nat
  | 0, _, _ => 1
  | k + 1, i, P => sm n (fun p => if (!(amk P i).testBit p && canb w L P i p) = true then bct n w L k (i + 1) (upP P i p) else 0)
theorem bct_le {n : Nat} {w : Nat → Nat → Nat} {L : Nat} (hn : n < 10) : ∀ {k i : Nat} {P : Nat → Nat}, bct n w L k i P ≤ 9 ^ k
  | 0, _, _ => Nat.le_refl _
  | k + 1, i, P => by
    have h := sm_le (f := fun p => if (!(amk P i).testBit p && canb w L P i p) = true then bct n w L k (i + 1) (upP P i p) else 0) (b := 9 ^ k) (n := n) (fun p _ => by
      show (if (!(amk P i).testBit p && canb w L P i p) = true then _ else 0) ≤ 9 ^ k
      split
      · exact bct_le hn
      · exact Nat.zero_le _)
    have h2 : n * 9 ^ k ≤ 9 * 9 ^ k := Nat.mul_le_mul_right _ (by omega)
    have h3 : 9 ^ (k + 1) = 9 ^ k * 9 := Nat.pow_succ 9 k
    show sm n _ ≤ 9 ^ (k + 1)
    omega
theorem bct_b {n : Nat} {w : Nat → Nat → Nat} {L : Nat} (hn : n < 10) {k i : Nat} {P : Nat → Nat} (hk : k ≤ 9) : bct n w L k i P < 400000000 := by
  have h1 := bct_le (w := w) (L := L) hn (k := k) (i := i) (P := P)
  have h2 : 9 ^ k ≤ 9 ^ 9 := Nat.pow_le_pow_right (by decide) hk
  have h3 : 9 ^ 9 = 387420489 := by decide
  omega
/-- those for whom the point at place k still waits -/
def mis (w : Nat → Nat → Nat) (P : Nat → Nat) (i k : Nat) : Nat := dif (nr w (P k)) (amk P i)
theorem mis_lt {w : Nat → Nat → Nat} {P : Nat → Nat} {i k : Nat} : mis w P i k < 512 := dif_lt nr_lt
theorem mis_b {n : Nat} {w : Nat → Nat → Nat} (hw : WF n w) (hn : n < 10) {P : Nat → Nat} {i k p : Nat} : (mis w P i k).testBit p = true ↔ 0 < w (P k) p ∧ (amk P i).testBit p = false := by
  unfold mis
  rw [dif_b nr_lt, nr_b hw hn]
theorem mis_up {w : Nat → Nat → Nat} {P : Nat → Nat} {i k p : Nat} (hk : k < i) : mis w (upP P i p) (i + 1) k = dif (mis w P i k) (2 ^ p) := by
  unfold mis
  rw [amk_up, upP_n (by omega)]
  refine bit_ext (n := 9) (dif_lt nr_lt) (dif_lt (dif_lt nr_lt)) (fun b _ => ?_)
  rw [dif_bit nr_lt, dif_bit (dif_lt nr_lt), dif_bit nr_lt, Nat.testBit_or]
  cases (nr w (P k)).testBit b <;> cases (amk P i).testBit b <;> cases (2 ^ p).testBit b <;> rfl
/-- the same rows go on -/
theorem bct_ag {n : Nat} {w : Nat → Nat → Nat} {L : Nat} (hw : WF n w) (hn : n < 10) : ∀ {k i : Nat} {P Q : Nat → Nat}, k + i = n → amk P i = amk Q i → (∀ j, j < i → j + L + 1 < n → mis w P i j = mis w Q i j) → bct n w L k i P = bct n w L k i Q
  | 0, _, _, _, _, _, _ => rfl
  | k + 1, i, P, Q, hk, ha, hm => by
    show sm n _ = sm n _
    refine sm_congr (fun p hp => ?_)
    rw [← ha]
    cases hb : (amk P i).testBit p
    · have hcan : canb w L P i p = canb w L Q i p := by
        unfold canb
        refine decide_eq_decide.mpr (forall_congr' (fun j => ?_))
        refine ⟨fun h h1 h2 => ?_, fun h h1 h2 => ?_⟩
        · have e := hm j h1 (by omega)
          refine Decidable.byContradiction (fun q => ?_)
          have q2 := (mis_b hw hn (P := Q) (i := i) (k := j) (p := p)).mpr ⟨by omega, by rw [← ha]; exact hb⟩
          rw [← e] at q2
          have := ((mis_b hw hn).mp q2).1
          have := h h1 h2
          omega
        · have e := hm j h1 (by omega)
          refine Decidable.byContradiction (fun q => ?_)
          have q2 := (mis_b hw hn (P := P) (i := i) (k := j) (p := p)).mpr ⟨by omega, hb⟩
          rw [e] at q2
          have := ((mis_b hw hn).mp q2).1
          have := h h1 h2
          omega
      rw [← hcan]
      by_cases c : (!false && canb w L P i p) = true
      · rw [if_pos c, if_pos c]
        refine bct_ag hw hn (by omega) (by rw [amk_up, amk_up, ha]) (fun j hj hL => ?_)
        by_cases e : j = i
        · subst e
          unfold mis
          rw [amk_up, amk_up, ha, upP_i, upP_i]
        · rw [mis_up (by omega), mis_up (by omega), hm j (by omega) hL]
      · rw [if_neg c, if_neg c]
    · rw [if_neg (by simp), if_neg (by simp)]
/-- all who wait at the first k places -/
def dal (w : Nat → Nat → Nat) (P : Nat → Nat) (i : Nat) : Nat → Nat
  | 0 => 0
  | k + 1 => dal w P i k ||| mis w P i k
theorem dal_lt {w : Nat → Nat → Nat} {P : Nat → Nat} {i : Nat} : ∀ {k : Nat}, dal w P i k < 512
  | 0 => by show 0 < 512; omega
  | k + 1 => or9 dal_lt mis_lt
theorem dal_b {w : Nat → Nat → Nat} {P : Nat → Nat} {i p : Nat} : ∀ {k : Nat}, (dal w P i k).testBit p = true ↔ ∃ j, j < k ∧ (mis w P i j).testBit p = true
  | 0 => by
    show (0 : Nat).testBit p = true ↔ _
    rw [Nat.zero_testBit]
    exact ⟨fun h => (by cases h), fun ⟨j, h, _⟩ => by omega⟩
  | k + 1 => by
    show (dal w P i k ||| mis w P i k).testBit p = true ↔ _
    rw [or_b, dal_b]
    constructor
    · rintro (⟨j, a, b⟩ | b)
      · exact ⟨j, by omega, b⟩
      · exact ⟨k, by omega, b⟩
    · rintro ⟨j, a, b⟩
      by_cases e : j = k
      · subst e; exact Or.inr b
      · exact Or.inl ⟨j, by omega, b⟩
theorem dal_up {w : Nat → Nat → Nat} {P : Nat → Nat} {i p : Nat} : ∀ {k : Nat}, k ≤ i → dal w (upP P i p) (i + 1) k = dif (dal w P i k) (2 ^ p)
  | 0, _ => by
    show 0 = dif 0 (2 ^ p)
    unfold dif
    exact (Nat.zero_and _).symm
  | k + 1, h => by
    show dal w (upP P i p) (i + 1) k ||| mis w (upP P i p) (i + 1) k = dif (dal w P i k ||| mis w P i k) (2 ^ p)
    rw [dal_up (by omega), mis_up (by omega)]
    refine bit_ext (n := 9) (or9 (dif_lt dal_lt) (dif_lt mis_lt)) (dif_lt (or9 dal_lt mis_lt)) (fun b _ => ?_)
    rw [Nat.testBit_or, dif_bit dal_lt, dif_bit mis_lt, dif_bit (or9 dal_lt mis_lt), Nat.testBit_or]
    cases (dal w P i k).testBit b <;> cases (mis w P i k).testBit b <;> cases (2 ^ p).testBit b <;> rfl
theorem cnt_dif {S p : Nat} (hS : S < 512) (hp : p < 9) : cnt S 9 ≤ cnt (dif S (2 ^ p)) 9 + (if S.testBit p = true then 1 else 0) := by
  by_cases c : S.testBit p = true
  · rw [if_pos c]
    obtain ⟨o1, o2, -⟩ := dif_or hS hp c
    have := cnt_or o2 (n := 9)
    rw [o1, if_pos hp] at this
    omega
  · rw [if_neg c, Nat.add_zero]
    refine cnt_mn (fun k hk => (dif_b hS).mpr ⟨hk, ?_⟩)
    rw [pow_bit]
    refine decide_eq_false (fun e => ?_)
    subst e
    exact c hk
/-- where rows go on, those who wait find room -/
theorem bct_room {n : Nat} {w : Nat → Nat → Nat} {L : Nat} (hw : WF n w) (hn : n < 10) : ∀ {k i : Nat} {P : Nat → Nat}, k + i = n → amk P i < 2 ^ n → cnt (amk P i) n = i → 0 < bct n w L k i P → ∀ j, j < i → cnt (dal w P i (j + 1)) 9 ≤ j + L + 1 - i
  | 0, i, P, hk, ha, hc, _, j, hj => by
    have hf : amk P i = 2 ^ n - 1 := (full_cnt ha).mp (by omega)
    have : dal w P i (j + 1) = 0 := by
      refine bit_ext (n := 9) dal_lt (by decide) (fun b _ => ?_)
      rw [Nat.zero_testBit]
      refine bF (fun q => ?_)
      obtain ⟨q1, -, q2⟩ := dal_b.mp q
      obtain ⟨q3, q4⟩ := (mis_b hw hn).mp q2
      rw [hf, Nat.testBit_two_pow_sub_one] at q4
      have := (hw.b q3).2
      simp [this] at q4
    rw [this, cnt_0]
    exact Nat.zero_le _
  | k + 1, i, P, hk, ha, hc, hpos, j, hj => by
    have hpos : 0 < sm n (fun p => if (!(amk P i).testBit p && canb w L P i p) = true then bct n w L k (i + 1) (upP P i p) else 0) := hpos
    obtain ⟨p, hp, h⟩ := sm_pos.mp hpos
    by_cases c : (!(amk P i).testBit p && canb w L P i p) = true
    · rw [if_pos c] at h
      simp only [Bool.and_eq_true, Bool.not_eq_true'] at c
      have hup := set_up ha hp c.1
      have ih := bct_room hw hn (k := k) (i := i + 1) (P := upP P i p) (by omega) (by rw [amk_up]; exact hup.2.1) (by rw [amk_up, hup.2.2, hc]) h j (by omega)
      rw [dal_up (by omega)] at ih
      have h2 := cnt_dif (S := dal w P i (j + 1)) (p := p) dal_lt (by omega)
      by_cases q : (dal w P i (j + 1)).testBit p = true
      · rw [if_pos q] at h2
        obtain ⟨r, hr, hr2⟩ := dal_b.mp q
        have h3 := ((mis_b hw hn).mp hr2).1
        have h4 := of_decide_eq_true c.2 r (by omega)
        have : ¬ r + L < i := fun e => by have := h4 e; omega
        omega
      · rw [if_neg q] at h2
        omega
    · rw [if_neg c] at h
      omega
end
section
/-! who still waits, as a number -/
theorem wlo_all : ∀ i, i < 11 → ∀ L, L < 11 → mxI 0 ((nI i - 1) - nI L) = nI (i - 1 - L) := by decide +kernel
def whb (i n L k : Nat) : Bool := decide (mnI (nI i - 1) ((nI n - 2) - nI L) < nI k) == !(decide (k + 1 ≤ i) && decide (k + L + 2 ≤ n))
theorem whb_all : ∀ i, i < 11 → ∀ n, n < 10 → ∀ L, L < 11 → ∀ k, k < 11 → whb i n L k = true := by decide +kernel
theorem whi_all (i : Nat) (hi : i < 11) (n : Nat) (hn : n < 10) (L : Nat) (hL : L < 11) (k : Nat) (hk : k < 11) : (mnI (nI i - 1) ((nI n - 2) - nI L) < nI k ↔ ¬ (k + 1 ≤ i ∧ k + L + 2 ≤ n)) := by
  have h := eq_of_beq (whb_all i hi n hn L hL k hk)
  constructor
  · intro q
    rw [decide_eq_true q] at h
    rintro ⟨a, b⟩
    rw [decide_eq_true a, decide_eq_true b] at h
    cases h
  · intro q
    refine Decidable.byContradiction (fun r => q ?_)
    rw [decide_eq_false r] at h
    have h2 : (decide (k + 1 ≤ i) && decide (k + L + 2 ≤ n)) = true := by
      cases e : (decide (k + 1 ≤ i) && decide (k + L + 2 ≤ n))
      · rw [e] at h; cases h
      · rfl
    rw [Bool.and_eq_true, decide_eq_true_iff, decide_eq_true_iff] at h2
    exact h2
theorem and3_all : ∀ k, k < 11 → (4 : Int32) * (nI k &&& 3) = nI (4 * (k % 4)) := by decide +kernel
def wdu (w : Nat → Nat → Nat) (P : Nat → Nat) (i lo : Nat) : Nat → Nat
  | 0 => 0
  | c + 1 => wdu w P i lo c ||| mis w P i (lo + c)
def wmk (w : Nat → Nat → Nat) (P : Nat → Nat) (i lo : Nat) : Nat → Nat
  | 0 => 0
  | c + 1 => wmk w P i lo c ||| (if mis w P i (lo + c) = 0 then 0 else (P (lo + c) + 1) * 2 ^ (4 * ((lo + c) % 4)))
theorem wdu_lt {w : Nat → Nat → Nat} {P : Nat → Nat} {i lo : Nat} : ∀ {c : Nat}, wdu w P i lo c < 512
  | 0 => by show 0 < 512; omega
  | c + 1 => or9 wdu_lt mis_lt
theorem nib_lt {a r : Nat} (ha : a < 16) (hr : r < 4) : a * 2 ^ (4 * r) < 65536 := by
  rcases (show r = 0 ∨ r = 1 ∨ r = 2 ∨ r = 3 by omega) with rfl | rfl | rfl | rfl
  · show a * 1 < 65536; omega
  · show a * 16 < 65536; omega
  · show a * 256 < 65536; omega
  · show a * 4096 < 65536; omega
theorem wmk_lt {w : Nat → Nat → Nat} {P : Nat → Nat} {i lo : Nat} : ∀ {c : Nat}, (∀ j, j < c → P (lo + j) < 9) → wmk w P i lo c < 65536
  | 0, _ => by show 0 < 65536; omega
  | c + 1, h => by
    refine Nat.or_lt_two_pow (n := 16) (wmk_lt (fun j hj => h j (by omega))) ?_
    split
    · omega
    · exact nib_lt (by have := h c (by omega); omega) (by omega)
/-- the number of all on which the rest of the row depends -/
def wky (w : Nat → Nat → Nat) (P : Nat → Nat) (i L c : Nat) : Nat := (L * 512 ||| amk P i) * 65536 ||| wmk w P i (i - 1 - L) c
/-- how many places the window has -/
def wln (n i L : Nat) : Nat := Nat.min i (n - 1 - L) - (i - 1 - L)
theorem wln_in {n i L c : Nat} : c < wln n i L → (i - 1 - L) + c + 1 ≤ i ∧ (i - 1 - L) + c + L + 2 ≤ n := by
  unfold wln
  intro h
  have h1 : Nat.min i (n - 1 - L) ≤ i := Nat.min_le_left _ _
  have h2 : Nat.min i (n - 1 - L) ≤ n - 1 - L := Nat.min_le_right _ _
  omega
theorem wln_out {n i L : Nat} : ¬ ((i - 1 - L) + wln n i L + 1 ≤ i ∧ (i - 1 - L) + wln n i L + L + 2 ≤ n) := by
  unfold wln
  rintro ⟨a, b⟩
  rcases Nat.le_total i (n - 1 - L) with q | q
  · rw [show Nat.min i (n - 1 - L) = i from Nat.min_eq_left q] at a b
    omega
  · rw [show Nat.min i (n - 1 - L) = n - 1 - L from Nat.min_eq_right q] at a b
    omega
/-- some who wait cannot be had soon enough -/
def WNo (n : Nat) (w : Nat → Nat → Nat) (P : Nat → Nat) (i L : Nat) : Prop := ∃ c, c < wln n i L ∧ mis w P i (i - 1 - L + c) ≠ 0 ∧ (i - 1 - L + c) + L + 1 - i < cnt (wdu w P i (i - 1 - L) (c + 1)) 9
theorem q_waiting {n l i L : Nat} {w : Nat → Nat → Nat} {P : Nat → Nat} {t : St} (h : CN 91 n l w t) (hn : n < 10) (hi : i < n) (hL : L < 10) (hP : ∀ j, j < i → t 95 j = nI (P j)) (h9 : ∀ j, j < i → P j < 9) {Q : Int32 → St → Prop} (q1 : ¬ WNo n w P i L → Q (nI (wky w P i L (wln n i L))) t) (q0 : WNo n w P i L → Q (-1) t) : Ok (FX0_waiting (nI i) (nI (amk P i)) (nI L) t) Q := by
  have ha := amk_lt (o := P) (i := i) h9
  unfold FX0_waiting
  refine Ok.rdE h.1 ?_
  rw [wlo_all i (by omega) L (by omega)]
  generalize hlo : i - 1 - L = lo
  have hwi : ∀ c, c < wln n i L → lo + c + 1 ≤ i ∧ lo + c + L + 2 ≤ n := fun c hc => by rw [← hlo]; exact wln_in hc
  have hwo : ¬ (lo + wln n i L + 1 ≤ i ∧ lo + wln n i L + L + 2 ≤ n) := by rw [← hlo]; exact wln_out
  have hwl : lo + wln n i L ≤ i := by
    rw [← hlo]
    unfold wln
    have h1 : Nat.min i (n - 1 - L) ≤ i := Nat.min_le_left _ _
    omega
  refine Ok.bd (fun x u => t = u ∧ Sum.elim (fun v => v = -1 ∧ WNo n w P i L) (fun v => v = nI (wmk w P i lo (wln n i L)) ∧ ¬ WNo n w P i L) x) ?_ ?_
  · refine Ok.count (wln n i L) (fun c d s => d = (nI (wmk w P i lo c), nI (wdu w P i lo c), nI (lo + c)) ∧ t = s ∧ ∀ e, e < c → mis w P i (lo + e) ≠ 0 → cnt (wdu w P i lo (e + 1)) 9 ≤ (lo + e) + L + 1 - i) ?_ ?_ (Nat.zero_le _) ⟨rfl, rfl, fun e he => by omega⟩
    · rintro c d s hc ⟨rfl, rfl, hI⟩
      obtain ⟨w1, w2⟩ := hwi c hc
      unfold SX0_waiting_44
      dsimp only
      have hP9 := h9 (lo + c) (by omega)
      refine Ok.ifF (by rw [whi_all i (by omega) n (by omega) L (by omega) (lo + c) (by omega)]; exact fun q => q ⟨w1, w2⟩) (Ok.ckT (inb_n (by omega) (by omega)) ?_)
      rw [nI_cl (by omega)]
      refine Ok.rdE (hP (lo + c) (by omega)) (Ok.ckT (inb_n (by omega) (by omega)) ?_)
      rw [nI_cl (by omega)]
      refine Ok.rdE (h.2.2.1 _ hP9) ?_
      rw [nI_dif nr_lt ha, show dif (nr w (P (lo + c))) (amk P i) = mis w P i (lo + c) from rfl]
      have hml := mis_lt (w := w) (P := P) (i := i) (k := lo + c)
      have hdl := wdu_lt (w := w) (P := P) (i := i) (lo := lo) (c := c)
      refine Ok.cv (nI_q0 (by omega)) (Ok.ite (fun c0 => Ok.ret ⟨?_, rfl, fun e he hm => ?_⟩) (fun c0 => ?_))
      · rw [nI_1]
        show _ = (nI (wmk w P i lo c ||| _), nI (wdu w P i lo c ||| _), _)
        rw [if_pos c0, c0, Nat.or_zero, Nat.or_zero]
        rfl
      · by_cases e2 : e = c
        · subst e2; exact absurd c0 hm
        · exact hI e (by omega) hm
      · rw [nI_or]
        have hcn := cnt_le (S := wdu w P i lo c ||| mis w P i (lo + c)) (n := 9)
        have hge : i ≤ lo + c + L + 1 := by omega
        refine Ok.bq (q_bitCount (or9 hdl hml)) ?_
        rw [nI_add, nI_1, nI_sub hge]
        refine Ok.cv (nI_leP (by omega) (by omega)) (Ok.ite (fun c1 => Ok.ckT (inb_n (by omega) (by omega)) ?_) (fun c1 => Ok.ret ⟨rfl, rfl, c, hc, ?_, ?_⟩))
        · refine Ok.rdE (hP (lo + c) (by omega)) (Ok.ret ⟨?_, rfl, fun e he hm => ?_⟩)
          · rw [nI_1, nI_1, and3_all _ (by omega), shl_n (by omega) (by have := nib_lt (a := P (lo + c) + 1) (r := (lo + c) % 4) (by omega) (by omega); omega), nI_or]
            show _ = (nI (wmk w P i lo c ||| _), nI (wdu w P i lo c ||| _), _)
            rw [if_neg c0]
            rfl
          · by_cases e2 : e = c
            · subst e2; exact c1
            · exact hI e (by omega) hm
        · rw [hlo]; exact c0
        · rw [hlo]
          show _ < cnt (wdu w P i lo c ||| mis w P i (lo + c)) 9
          omega
    · rintro d s ⟨rfl, rfl, hI⟩
      unfold SX0_waiting_44
      dsimp only
      refine Ok.ifT (by rw [whi_all i (by omega) n (by omega) L (by omega) (lo + wln n i L) (by omega)]; exact hwo) (Ok.ret ⟨rfl, rfl, ?_⟩)
      rintro ⟨e, he, h1, h2⟩
      rw [hlo] at h1 h2
      have := hI e he h1
      omega
  · rintro (x | x) _ ⟨rfl, hx⟩
    · obtain ⟨rfl, hx⟩ := hx
      exact Ok.el (Ok.ret (q0 hx))
    · obtain ⟨rfl, hx⟩ := hx
      refine Ok.er (Ok.ret ?_)
      have e1 : shl (nI L) 9 = nI (L * 512) := by
        have := shl_n (a := L) (k := 9) (by omega) (by show L * 512 < 4294967296; omega)
        exact this
      have hk : L * 512 ||| amk P i < 8192 := Nat.or_lt_two_pow (n := 13) (by show L * 512 < 8192; omega) (by show amk P i < 8192; omega)
      have e2 : shl (nI (L * 512 ||| amk P i)) 16 = nI ((L * 512 ||| amk P i) * 65536) := by
        have := shl_n (a := L * 512 ||| amk P i) (k := 16) (by omega) (by show (L * 512 ||| amk P i) * 65536 < 4294967296; omega)
        exact this
      rw [e1, nI_or, e2, nI_or]
      have := q1 hx
      unfold wky at this
      rw [hlo] at this
      exact this
end
section
/-! the number tells who waits -/
theorem wln_le {n i L : Nat} (hn : n < 10) : wln n i L ≤ 4 := by
  unfold wln
  have h1 : Nat.min i (n - 1 - L) ≤ i := Nat.min_le_left _ _
  have h2 : Nat.min i (n - 1 - L) ≤ n - 1 - L := Nat.min_le_right _ _
  omega
theorem wmk_bit {w : Nat → Nat → Nat} {P : Nat → Nat} {i lo b : Nat} : ∀ {c : Nat}, (wmk w P i lo c).testBit b = true ↔ ∃ e, e < c ∧ mis w P i (lo + e) ≠ 0 ∧ 4 * ((lo + e) % 4) ≤ b ∧ (P (lo + e) + 1).testBit (b - 4 * ((lo + e) % 4)) = true
  | 0 => by
    show (0 : Nat).testBit b = true ↔ _
    rw [Nat.zero_testBit]
    exact ⟨fun h => (by cases h), fun ⟨e, h, _⟩ => by omega⟩
  | c + 1 => by
    show (wmk w P i lo c ||| (if mis w P i (lo + c) = 0 then 0 else (P (lo + c) + 1) * 2 ^ (4 * ((lo + c) % 4)))).testBit b = true ↔ _
    rw [or_b, wmk_bit]
    constructor
    · rintro (⟨e, a1, a2⟩ | h)
      · exact ⟨e, by omega, a2⟩
      · by_cases q : mis w P i (lo + c) = 0
        · rw [if_pos q, Nat.zero_testBit] at h
          cases h
        · rw [if_neg q, ← Nat.shiftLeft_eq, Nat.testBit_shiftLeft, Bool.and_eq_true, decide_eq_true_eq] at h
          exact ⟨c, by omega, q, h.1, h.2⟩
    · rintro ⟨e, a1, a2, a3, a4⟩
      by_cases q : e = c
      · subst q
        refine Or.inr ?_
        rw [if_neg a2, ← Nat.shiftLeft_eq, Nat.testBit_shiftLeft, Bool.and_eq_true, decide_eq_true_eq]
        exact ⟨a3, a4⟩
      · exact Or.inl ⟨e, by omega, a2, a3, a4⟩
theorem wmk_nib {w : Nat → Nat → Nat} {P : Nat → Nat} {i lo c e b : Nat} (hc : c ≤ 4) (he : e < c) (hP : ∀ j, j < c → P (lo + j) < 9) (hb : b < 4) : (wmk w P i lo c).testBit (4 * ((lo + e) % 4) + b) = true ↔ mis w P i (lo + e) ≠ 0 ∧ (P (lo + e) + 1).testBit b = true := by
  rw [wmk_bit]
  constructor
  · rintro ⟨f, f1, f2, f3, f4⟩
    have hlt : 4 * ((lo + e) % 4) + b - 4 * ((lo + f) % 4) < 4 := by
      refine Decidable.byContradiction (fun q => ?_)
      have h1 : P (lo + f) + 1 < 2 ^ 4 := by have := hP f f1; show P (lo + f) + 1 < 16; omega
      rw [lt_pow_bit h1 (by omega)] at f4
      cases f4
    have : e = f := by omega
    subst this
    rw [show 4 * ((lo + e) % 4) + b - 4 * ((lo + e) % 4) = b by omega] at f4
    exact ⟨f2, f4⟩
  · rintro ⟨h1, h2⟩
    exact ⟨e, he, h1, by omega, by rw [show 4 * ((lo + e) % 4) + b - 4 * ((lo + e) % 4) = b by omega]; exact h2⟩
theorem or_add {a b k : Nat} (h : b < 2 ^ k) : a * 2 ^ k ||| b = a * 2 ^ k + b := by
  rw [Nat.mul_comm, Nat.two_pow_add_eq_or_of_lt h]
theorem wky_add {w : Nat → Nat → Nat} {P : Nat → Nat} {i L c : Nat} (ha : amk P i < 512) (hm : wmk w P i (i - 1 - L) c < 65536) : wky w P i L c = L * 33554432 + amk P i * 65536 + wmk w P i (i - 1 - L) c := by
  unfold wky
  have e1 : L * 512 ||| amk P i = L * 512 + amk P i := or_add (k := 9) ha
  have e2 : (L * 512 + amk P i) * 65536 ||| wmk w P i (i - 1 - L) c = (L * 512 + amk P i) * 65536 + wmk w P i (i - 1 - L) c := or_add (k := 16) hm
  rw [e1, e2]
  omega
/-- the first i places are i unlike points -/
def PFX (n i : Nat) (P : Nat → Nat) : Prop := (∀ j, j < i → P j < n) ∧ amk P i < 2 ^ n ∧ cnt (amk P i) n = i
/-- none waits in vain so far -/
def PRE (w : Nat → Nat → Nat) (P : Nat → Nat) (i L : Nat) : Prop := ∀ k, k + L + 1 < i → mis w P i k = 0
theorem wky_ag {n : Nat} {w : Nat → Nat → Nat} (hn : n < 10) {P Q : Nat → Nat} {i j L M : Nat} (hP : PFX n i P) (hQ : PFX n j Q) (pP : PRE w P i L) (pQ : PRE w Q j M) (hi : i < n) (hj : j < n) (e : wky w P i L (wln n i L) = wky w Q j M (wln n j M)) : L = M ∧ i = j ∧ amk P i = amk Q i ∧ ∀ k, k < i → k + L + 1 < n → mis w P i k = mis w Q i k := by
  have h3 := pow9 (k := n) (by omega)
  have wi : ∀ c, c < wln n i L → P (i - 1 - L + c) < 9 := fun c hc => by
    have := wln_in hc
    have := hP.1 (i - 1 - L + c) (by omega)
    omega
  have wj : ∀ c, c < wln n j M → Q (j - 1 - M + c) < 9 := fun c hc => by
    have := wln_in hc
    have := hQ.1 (j - 1 - M + c) (by omega)
    omega
  have m1 := wmk_lt (w := w) (P := P) (i := i) wi
  have m2 := wmk_lt (w := w) (P := Q) (i := j) wj
  have a1 := hP.2.1
  have a2 := hQ.2.1
  rw [wky_add (by omega) m1, wky_add (by omega) m2] at e
  have eL : L = M := by omega
  subst eL
  have eA : amk P i = amk Q j := by omega
  have eM : wmk w P i (i - 1 - L) (wln n i L) = wmk w Q j (j - 1 - L) (wln n j L) := by omega
  have eI : i = j := by
    have := hP.2.2
    rw [eA, hQ.2.2] at this
    exact this.symm
  subst eI
  refine ⟨rfl, rfl, eA, fun k hk hkn => ?_⟩
  by_cases hw : k + L + 1 < i
  · rw [pP k hw, pQ k hw]
  · have hc : k - (i - 1 - L) < wln n i L := by
      refine Decidable.byContradiction (fun q => ?_)
      have := wln_out (n := n) (i := i) (L := L)
      unfold wln at q this
      rcases Nat.le_total i (n - 1 - L) with r | r
      · rw [show Nat.min i (n - 1 - L) = i from Nat.min_eq_left r] at q
        omega
      · rw [show Nat.min i (n - 1 - L) = n - 1 - L from Nat.min_eq_right r] at q
        omega
    generalize hc' : k - (i - 1 - L) = c at hc
    have ek : k = i - 1 - L + c := by omega
    rw [ek]
    have n1 := fun b (hb : b < 4) => wmk_nib (w := w) (P := P) (i := i) (wln_le hn) hc wi hb
    have n2 := fun b (hb : b < 4) => wmk_nib (w := w) (P := Q) (i := i) (wln_le hn) hc wj hb
    have iff : ∀ b, b < 4 → ((mis w P i (i - 1 - L + c) ≠ 0 ∧ (P (i - 1 - L + c) + 1).testBit b = true) ↔ (mis w Q i (i - 1 - L + c) ≠ 0 ∧ (Q (i - 1 - L + c) + 1).testBit b = true)) := fun b hb => by
      rw [← n1 b hb, ← n2 b hb, eM]
    have some_bit : ∀ x, x < 9 → ∃ b, b < 4 ∧ (x + 1).testBit b = true := by decide
    have sameP : mis w P i (i - 1 - L + c) ≠ 0 → mis w Q i (i - 1 - L + c) ≠ 0 → P (i - 1 - L + c) = Q (i - 1 - L + c) := by
      intro p1 p2
      have h16 : ∀ x, x < 9 → x + 1 < 2 ^ 4 := fun x hx => by show x + 1 < 16; omega
      have : P (i - 1 - L + c) + 1 = Q (i - 1 - L + c) + 1 := bit_ext (h16 _ (wi c hc)) (h16 _ (wj c hc)) (fun b hb => by
        have := iff b hb
        cases x : (P (i - 1 - L + c) + 1).testBit b
        · cases y : (Q (i - 1 - L + c) + 1).testBit b
          · rfl
          · have := (this.mpr ⟨p2, y⟩).2
            rw [x] at this
            cases this
        · exact ((this.mp ⟨p1, x⟩).2).symm)
      omega
    by_cases p1 : mis w P i (i - 1 - L + c) = 0
    · by_cases p2 : mis w Q i (i - 1 - L + c) = 0
      · rw [p1, p2]
      · obtain ⟨b, hb, hbb⟩ := some_bit _ (wj c hc)
        exact absurd p1 ((iff b hb).mpr ⟨p2, hbb⟩).1
    · have p2 : mis w Q i (i - 1 - L + c) ≠ 0 := by
        obtain ⟨b, hb, hbb⟩ := some_bit _ (wi c hc)
        exact ((iff b hb).mp ⟨p1, hbb⟩).1
      have e3 := sameP p1 p2
      unfold mis
      rw [e3, eA]
/-- the window's are among all who wait -/
theorem wdu_dal {w : Nat → Nat → Nat} {P : Nat → Nat} {i lo : Nat} : ∀ {c b : Nat}, (wdu w P i lo c).testBit b = true → (dal w P i (lo + c)).testBit b = true
  | 0, b, h => by
    have h : (0 : Nat).testBit b = true := h
    rw [Nat.zero_testBit] at h
    cases h
  | c + 1, b, h => by
    have h : (wdu w P i lo c ||| mis w P i (lo + c)).testBit b = true := h
    show (dal w P i (lo + c) ||| mis w P i (lo + c)).testBit b = true
    rcases or_b.mp h with h | h
    · exact or_b.mpr (Or.inl (wdu_dal h))
    · exact or_b.mpr (Or.inr h)
theorem wno_0 {n : Nat} {w : Nat → Nat → Nat} {L : Nat} (hw : WF n w) (hn : n < 10) {i : Nat} {P : Nat → Nat} (hi : i < n) (hP : PFX n i P) (h : WNo n w P i L) : bct n w L (n - i) i P = 0 := by
  obtain ⟨c, hc, -, h2⟩ := h
  have hin := wln_in hc
  refine Decidable.byContradiction (fun q => ?_)
  have h3 := bct_room (L := L) hw hn (k := n - i) (i := i) (P := P) (by omega) hP.2.1 hP.2.2 (by omega) (i - 1 - L + c) (by omega)
  have h4 : cnt (wdu w P i (i - 1 - L) (c + 1)) 9 ≤ cnt (dal w P i (i - 1 - L + (c + 1))) 9 := cnt_mn (fun b hb => wdu_dal hb)
  rw [show i - 1 - L + (c + 1) = i - 1 - L + c + 1 by omega] at h4
  omega
theorem pre_on {n : Nat} {w : Nat → Nat → Nat} {L : Nat} {i : Nat} {P : Nat → Nat} (hi : i < n) (hp : PRE w P i L) (h : ¬ WNo n w P i L) : ∀ k, k < i → k + L < i → mis w P i k = 0 := by
  intro k hk hkL
  by_cases e : k + L + 1 < i
  · exact hp k e
  · refine Decidable.byContradiction (fun q => h ⟨0, ?_, ?_, ?_⟩)
    · unfold wln
      rcases Nat.le_total i (n - 1 - L) with r | r
      · rw [show Nat.min i (n - 1 - L) = i from Nat.min_eq_left r]; omega
      · rw [show Nat.min i (n - 1 - L) = n - 1 - L from Nat.min_eq_right r]; omega
    · rw [show i - 1 - L + 0 = k by omega]; exact q
    · rw [show i - 1 - L + 0 + L + 1 - i = 0 by omega]
      show 0 < cnt (0 ||| mis w P i (i - 1 - L + 0)) 9
      rw [Nat.zero_or, show i - 1 - L + 0 = k by omega]
      refine Nat.pos_of_ne_zero (fun q2 => q (cnt9_0 _ mis_lt q2))
end
section
/-! the class counts rows by how far ends lie apart -/
theorem Pc.loop {C R : Type} {f : C → St → Option ((C ⊕ R) × St)} {Q : R → St → Prop} (I : C → St → Prop) (step : ∀ c s, I c s → Pc (f c s) (fun x t => Sum.elim (fun d => I d t) (fun r => Q r t) x)) {c : C} {s : St} (h : I c s) : Pc (wh f c s) Q := by
  intro r u e
  obtain ⟨k, hk⟩ := wh_itr e
  clear e
  induction k generalizing c s with
  | zero => exact absurd hk (itr_zero _ _ _ _)
  | succ k ih =>
    obtain ⟨x, t, h1, h2⟩ := itr_succ hk
    have h3 := step c s h x t h1
    rcases x with d | q
    · exact ih h3 h2
    · obtain ⟨rfl, rfl⟩ := some_pair h2
      exact h3
theorem Pc.bq {α β : Type} {m : Option (α × St)} {a : α} {t : St} {f : α → St → Option (β × St)} {Q : β → St → Prop} (e : m = some (a, t)) (k : Pc (f a t) Q) : Pc (bnd m f) Q := by
  rw [e]
  exact k
theorem Pc.cv {α : Type} {c d : Prop} [Decidable c] [Decidable d] {x y : Option (α × St)} {Q : α → St → Prop} (e : c = d) (h : Pc (if d then x else y) Q) : Pc (if c then x else y) Q := by
  by_cases q : d
  · rw [if_pos q] at h
    rw [if_pos (by rw [e]; exact q)]
    exact h
  · rw [if_neg q] at h
    rw [if_neg (by rw [e]; exact q)]
    exact h
theorem Pc.el {α β γ : Type} {x : β → Option (α × St)} {f : γ → Option (α × St)} {v : β} {Q : α → St → Prop} (h : Pc (x v) Q) : Pc (Sum.elim x f (.inl v)) Q := h
theorem Pc.er {α β γ : Type} {x : β → Option (α × St)} {f : γ → Option (α × St)} {v : γ} {Q : α → St → Prop} (h : Pc (f v) Q) : Pc (Sum.elim x f (.inr v)) Q := h
/-- what is remembered is right -/
def MI (n : Nat) (w : Nat → Nat → Nat) (t : St) : Prop := ∀ cell i P L, cell < 4096 → i < n → PFX n i P → PRE w P i L → L < 10 → ¬ WNo n w P i L → t 96 cell = nI (wky w P i L (wln n i L)) → t 97 cell = nI (bct n w L (n - i) i P)
theorem MI.fr {n : Nat} {w : Nat → Nat → Nat} {t u : St} (h : MI n w t) (e1 : u 96 = t 96) (e2 : u 97 = t 97) : MI n w u := by
  unfold MI
  rw [e1, e2]
  exact h
theorem PFX.on {n i p : Nat} {P : Nat → Nat} (h : PFX n i P) (hp : p < n) (hb : (amk P i).testBit p = false) : PFX n (i + 1) (upP P i p) := by
  have hup := set_up h.2.1 hp hb
  refine ⟨fun j hj => ?_, by rw [amk_up]; exact hup.2.1, by rw [amk_up, hup.2.2, h.2.2]⟩
  by_cases e : j = i
  · subst e; rw [upP_i]; exact hp
  · rw [upP_n e]; exact h.1 j (by omega)
theorem wky_lt {n i L : Nat} {w : Nat → Nat → Nat} {P : Nat → Nat} (hn : n < 10) (hL : L < 10) (hP : PFX n i P) : wky w P i L (wln n i L) < 536870912 := by
  have h3 := pow9 (k := n) (by omega)
  have wi : ∀ c, c < wln n i L → P (i - 1 - L + c) < 9 := fun c hc => by
    have := wln_in hc
    have := hP.1 (i - 1 - L + c) (by omega)
    omega
  have m1 := wmk_lt (w := w) (P := P) (i := i) wi
  have a1 := hP.2.1
  rw [wky_add (by omega) m1]
  omega
theorem r_rowsFrom {n l : Nat} {w : Nat → Nat → Nat} (hw : WF n w) (hn : n < 10) : ∀ (f i L : Nat) (P : Nat → Nat) (t : St), i ≤ n → PFX n i P → PRE w P i L → L < 10 → CN 91 n l w t → MI n w t → (∀ j, j < i → t 95 j = nI (P j)) → n < f + i → Pc (FX0_rowsFrom f (nI i) (nI (amk P i)) (nI L) t) (fun r u => r = nI (bct n w L (n - i) i P) ∧ MI n w u ∧ (∀ c, c ≠ 95 → c ≠ 96 → c ≠ 97 → u c = t c) ∧ ∀ j, j < i → u 95 j = t 95 j) := by
  intro f
  induction f with
  | zero => intro i L P t hi _ _ _ _ _ _ hf; omega
  | succ f ih =>
    intro i L P t hi hP hpre hL h hM hpl hf
    have h3 := pow9 (k := n) (by omega)
    have a1 := hP.2.1
    show Pc (FX0_rowsFrom_b (FX0_rowsFrom f) (nI i) (nI (amk P i)) (nI L) t) _
    unfold FX0_rowsFrom_b
    refine Pc.rdE h.1 ?_
    by_cases hin : i < n
    · refine Pc.ifT (by rw [nI_ltP (by omega) (by omega)]; exact hin) ?_
      refine Pc.bd (fun r u => t = u ∧ ((r = nI (wky w P i L (wln n i L)) ∧ ¬ WNo n w P i L) ∨ (r = -1 ∧ WNo n w P i L))) (q_waiting h hn hin hL hpl (fun j hj => by have := hP.1 j hj; omega) (fun a => ⟨rfl, Or.inl ⟨rfl, a⟩⟩) (fun a => ⟨rfl, Or.inr ⟨rfl, a⟩⟩)).pc ?_
      rintro r _ ⟨rfl, ⟨rfl, hno⟩ | ⟨rfl, hno⟩⟩
      · have hk := wky_lt (w := w) hn hL hP
        refine Pc.ifF (by rw [li_m1, nI_eqP (by omega) (by omega)]; omega) (Pc.ck (fun g0 => ?_))
        revert g0
        generalize (ushr (nI (wky w P i L (wln n i L)) * (-1640531535 : Int32)) (20 : Int32)) = cl
        intro g0
        refine Pc.rdE rfl (Pc.ite (fun c0 => Pc.ck (fun _ => Pc.rdE (x := nI (bct n w L (n - i) i P)) ?_ (Pc.ret ⟨rfl, hM, fun _ _ _ _ => rfl, fun _ _ => rfl⟩))) (fun c0 => ?_))
        · exact hM _ i P L (inb_lt g0) hin hP hpre hL hno c0
        · obtain ⟨kk, hkk⟩ : ∃ kk, n - i = kk + 1 := ⟨n - i - 1, by omega⟩
          have hmis := pre_on hin hpre hno
          have hcan : ∀ p, (amk P i).testBit p = false → canb w L P i p = true := fun p hp => decide_eq_true (fun k hk hkL => by
            refine Decidable.byContradiction (fun q => ?_)
            have := (mis_b hw hn (P := P) (i := i) (k := k) (p := p)).mpr ⟨by omega, hp⟩
            rw [hmis k hk hkL, Nat.zero_testBit] at this
            cases this)
          generalize hG : (fun p => if (!(amk P i).testBit p && canb w L P i p) = true then bct n w L kk (i + 1) (upP P i p) else 0) = G
          have eB : bct n w L (n - i) i P = sm n G := by rw [hkk, ← hG]; rfl
          have hGb : ∀ j, sm j G ≤ j * 400000000 := fun j => sm_le (fun p _ => by
            rw [← hG]
            dsimp only
            have := bct_b (w := w) (L := L) hn (k := kk) (i := i + 1) (P := upP P i p) (by omega)
            split <;> omega)
          refine Pc.bd (fun r u => r = nI (sm n G) ∧ MI n w u ∧ (∀ c, c ≠ 95 → c ≠ 96 → c ≠ 97 → u c = t c) ∧ ∀ j, j < i → u 95 j = t 95 j) ?_ ?_
          · refine Pc.loop (fun d s => ∃ j, j ≤ n ∧ d = (nI (sm j G), nI j) ∧ MI n w s ∧ (∀ c, c ≠ 95 → c ≠ 96 → c ≠ 97 → s c = t c) ∧ ∀ q, q < i → s 95 q = t 95 q) ?_ ⟨0, Nat.zero_le _, rfl, hM, fun _ _ _ _ => rfl, fun _ _ => rfl⟩
            rintro d s ⟨j, hj, rfl, sM, sf, sp⟩
            have hs : CN 91 n l w s := h.fr (sf _ (by decide) (by decide) (by decide)) (sf _ (by decide) (by decide) (by decide)) (sf _ (by decide) (by decide) (by decide))
            unfold SX0_rowsFrom_66
            dsimp only
            refine Pc.rdE hs.1 (Pc.cv (nI_leP (by omega) (by omega)) (Pc.ite (fun c1 => Pc.ret ?_) (fun c1 => ?_)))
            · have : j = n := by omega
              subst this
              exact ⟨rfl, sM, sf, sp⟩
            · have hGj : G j = if (!(amk P i).testBit j && canb w L P i j) = true then bct n w L kk (i + 1) (upP P i j) else 0 := by rw [← hG]
              refine Pc.bd (fun r u => r = nI (sm (j + 1) G) ∧ MI n w u ∧ (∀ c, c ≠ 95 → c ≠ 96 → c ≠ 97 → u c = t c) ∧ ∀ q, q < i → u 95 q = t 95 q) ?_ (fun r u hu => Pc.ret ⟨j + 1, by omega, by rw [hu.1, nI_1], hu.2⟩)
              refine Pc.cv (bitn (by omega) (by omega)) (Pc.ite (fun c2 => Pc.ck (fun _ => PcwrE ?_)) (fun c2 => Pc.ret ⟨?_, sM, sf, sp⟩))
              · rw [nI_cl (by omega), nI_1, shl_1 (by omega), nI_or, ← amk_up]
                have hP2 := hP.on (p := j) (by omega) c2
                have hpre2 : PRE w (upP P i j) (i + 1) L := fun k hk => by
                  rw [mis_up (by omega), hmis k (by omega) (by omega)]
                  unfold dif
                  exact Nat.zero_and _
                have hs2 : CN 91 n l w (wr s 95 i (nI j)) := hs.fr (wr_off _ (by decide)) (wr_off _ (by decide)) (wr_off _ (by decide))
                refine Pc.bd _ (ih (i + 1) L (upP P i j) (wr s 95 i (nI j)) (by omega) hP2 hpre2 hL hs2 (sM.fr (wr_off _ (by decide)) (wr_off _ (by decide))) (fun q hq => ?_) (by omega)) ?_
                · by_cases e : q = i
                  · subst e; rw [wrs, upP_i]
                  · rw [wrn e, upP_n e, sp q (by omega)]; exact hpl q (by omega)
                · rintro r u ⟨rfl, uM, uf, up⟩
                  refine Pc.ret ⟨?_, uM, fun c c3 c4 c5 => by rw [uf c c3 c4 c5, wr_off c c3]; exact sf c c3 c4 c5, fun q hq => ?_⟩
                  · rw [nI_add]
                    show nI (sm j G + _) = nI (sm j G + G j)
                    rw [hGj, if_pos (by simp [c2, hcan j c2]), show n - (i + 1) = kk by omega]
                  · rw [up q (by omega), wrn (by omega)]; exact sp q hq
              · show nI (sm j G) = nI (sm j G + G j)
                rw [hGj, if_neg (by simp [bT c2]), Nat.add_zero]
          · rintro r u ⟨rfl, uM, uf, up⟩
            refine Pc.ck (fun _ => PcwrE (Pc.ck (fun _ => PcwrE (Pc.ret ⟨by rw [eB], ?_, fun c c3 c4 c5 => by rw [wr_off c c5, wr_off c c4]; exact uf c c3 c4 c5, fun q hq => by rw [wrf (by decide), wrf (by decide)]; exact up q hq⟩))))
            intro cell i' P' L' hc' hi' hP' hpre' hL' hno' e
            by_cases ec : cell = cl.toNatClampNeg
            · subst ec
              rw [wrf (by decide), wrs] at e
              rw [wrs]
              have hk' := wky_lt (w := w) hn hL' hP'
              have e2 := nI_inj e (by omega) (by omega)
              obtain ⟨rfl, rfl, g3, g4⟩ := wky_ag hn hP hP' hpre hpre' hin hi' e2
              rw [← eB]
              congr 1
              exact bct_ag hw hn (by omega) g3 g4
            · rw [wrf (by decide), wrn ec] at e
              rw [wrn ec, wrf (by decide)]
              exact uM cell i' P' L' hc' hi' hP' hpre' hL' hno' e
      · refine Pc.ifT rfl (Pc.ret ⟨?_, hM, fun _ _ _ _ => rfl, fun _ _ => rfl⟩)
        rw [wno_0 hw hn hin hP hno]
        rfl
    · refine Pc.ifF (by rw [nI_ltP (by omega) (by omega)]; exact hin) (Pc.ret ⟨?_, hM, fun _ _ _ _ => rfl, fun _ _ => rfl⟩)
      rw [show n - i = 0 by omega]
      rfl
end
section
/-! the class: who may come next, the least limit -/
/-- those who may stand at place i behind P -/
def bld (n : Nat) (w : Nat → Nat → Nat) (L i : Nat) (P : Nat → Nat) : Nat := mkm n (fun p => !(amk P i).testBit p && decide (0 < bct n w L (n - (i + 1)) (i + 1) (upP P i p)))
theorem r_leaders {n l : Nat} {w : Nat → Nat → Nat} (hw : WF n w) (hn : n < 10) {i L : Nat} {P : Nat → Nat} {t : St} (hi : i < n) (hP : PFX n i P) (hmis : ∀ k, k < i → k + L < i → mis w P i k = 0) (hL : L < 10) (h : CN 91 n l w t) (hM : MI n w t) (hpl : ∀ j, j < i → t 95 j = nI (P j)) : Pc (FX0_leadersFrom (nI i) (nI (amk P i)) (nI L) t) (fun r u => r = nI (bld n w L i P) ∧ MI n w u ∧ (∀ c, c ≠ 95 → c ≠ 96 → c ≠ 97 → u c = t c) ∧ ∀ j, j < i → u 95 j = t 95 j) := by
  have h3 := pow9 (k := n) (by omega)
  have a1 := hP.2.1
  unfold FX0_leadersFrom bld
  generalize hB : (fun p => !(amk P i).testBit p && decide (0 < bct n w L (n - (i + 1)) (i + 1) (upP P i p))) = B
  refine Pc.bd (fun r u => r = nI (mkm n B) ∧ MI n w u ∧ (∀ c, c ≠ 95 → c ≠ 96 → c ≠ 97 → u c = t c) ∧ ∀ j, j < i → u 95 j = t 95 j) ?_ (fun r u hu => Pc.ret hu)
  refine Pc.loop (fun d s => ∃ j, j ≤ n ∧ d = (nI (mkm j B), nI j) ∧ MI n w s ∧ (∀ c, c ≠ 95 → c ≠ 96 → c ≠ 97 → s c = t c) ∧ ∀ q, q < i → s 95 q = t 95 q) ?_ ⟨0, Nat.zero_le _, rfl, hM, fun _ _ _ _ => rfl, fun _ _ => rfl⟩
  rintro d s ⟨j, hj, rfl, sM, sf, sp⟩
  have hs : CN 91 n l w s := h.fr (sf _ (by decide) (by decide) (by decide)) (sf _ (by decide) (by decide) (by decide)) (sf _ (by decide) (by decide) (by decide))
  unfold SX0_leadersFrom_6
  dsimp only
  refine Pc.rdE hs.1 (Pc.cv (nI_leP (by omega) (by omega)) (Pc.ite (fun c1 => Pc.ret ?_) (fun c1 => ?_)))
  · have : j = n := by omega
    subst this
    exact ⟨rfl, sM, sf, sp⟩
  · have hBj : B j = (!(amk P i).testBit j && decide (0 < bct n w L (n - (i + 1)) (i + 1) (upP P i j))) := by rw [← hB]
    refine Pc.bd (fun r u => r = nI (mkm (j + 1) B) ∧ MI n w u ∧ (∀ c, c ≠ 95 → c ≠ 96 → c ≠ 97 → u c = t c) ∧ ∀ q, q < i → u 95 q = t 95 q) ?_ (fun r u hu => Pc.ret ⟨j + 1, by omega, by rw [hu.1, nI_1], hu.2⟩)
    have em : mkm (j + 1) B = mkm j B ||| (if B j = true then 2 ^ j else 0) := rfl
    rw [em]
    refine Pc.cv (bitn (by omega) (by omega)) (Pc.ite (fun c2 => Pc.ck (fun _ => PcwrE ?_)) (fun c2 => Pc.ret ⟨?_, sM, sf, sp⟩))
    · rw [nI_cl (by omega), nI_1, shl_1 (by omega), nI_or, ← amk_up]
      have hP2 := hP.on (p := j) (by omega) c2
      have hpre2 : PRE w (upP P i j) (i + 1) L := fun k hk => by
        rw [mis_up (by omega), hmis k (by omega) (by omega)]
        unfold dif
        exact Nat.zero_and _
      have hs2 : CN 91 n l w (wr s 95 i (nI j)) := hs.fr (wr_off _ (by decide)) (wr_off _ (by decide)) (wr_off _ (by decide))
      refine Pc.bd _ (r_rowsFrom hw hn 11 (i + 1) L (upP P i j) (wr s 95 i (nI j)) (by omega) hP2 hpre2 hL hs2 (sM.fr (wr_off _ (by decide)) (wr_off _ (by decide))) (fun q hq => ?_) (by omega)) ?_
      · by_cases e : q = i
        · subst e; rw [wrs, upP_i]
        · rw [wrn e, upP_n e, sp q (by omega)]; exact hpl q (by omega)
      · rintro r u ⟨rfl, uM, uf, up⟩
        have hb := bct_b (w := w) (L := L) hn (k := n - (i + 1)) (i := i + 1) (P := upP P i j) (by omega)
        have fr : (∀ c, c ≠ 95 → c ≠ 96 → c ≠ 97 → u c = t c) ∧ ∀ q, q < i → u 95 q = t 95 q := ⟨fun c c3 c4 c5 => by rw [uf c c3 c4 c5, wr_off c c3]; exact sf c c3 c4 c5, fun q hq => by rw [up q (by omega), wrn (by omega)]; exact sp q hq⟩
        refine Pc.cv (nI_leP (b := 0) (by omega) (by omega)) (Pc.ite (fun c3 => Pc.ret ⟨?_, uM, fr⟩) (fun c3 => Pc.ret ⟨?_, uM, fr⟩))
        · rw [hBj, if_neg (by simp; omega), Nat.or_zero]
        · rw [hBj, if_pos (by simp [c2]; omega), nI_or]
    · rw [hBj, if_neg (by simp [bT c2]), Nat.or_zero]
theorem pfx_0 {n : Nat} {P : Nat → Nat} : PFX n 0 P := ⟨fun j hj => by omega, Nat.two_pow_pos n, cnt_0 n⟩
theorem pre_0 {w : Nat → Nat → Nat} {P : Nat → Nat} {L : Nat} : PRE w P 0 L := fun k hk => by omega
/-- v is the least limit below e that some row keeps, or e -/
def LLM (n : Nat) (w : Nat → Nat → Nat) (e v : Nat) : Prop := v ≤ e ∧ (∀ L, L < v → bct n w L n 0 (fun _ => 0) = 0) ∧ (v < e → 0 < bct n w v n 0 (fun _ => 0))
theorem r_leastLimit {n l : Nat} {w : Nat → Nat → Nat} (hw : WF n w) (hn : n < 10) (h1 : 1 ≤ n) {t : St} (h : CN 91 n l w t) (hM : MI n w t) : Pc (FX0_leastLimit t) (fun r u => (∃ v, r = nI v ∧ LLM n w (n - 1) v) ∧ MI n w u ∧ ∀ c, c ≠ 95 → c ≠ 96 → c ≠ 97 → u c = t c) := by
  unfold FX0_leastLimit
  refine Pc.bd (fun x u => MI n w u ∧ (∀ c, c ≠ 95 → c ≠ 96 → c ≠ 97 → u c = t c) ∧ Sum.elim (fun r => ∃ v, r = nI v ∧ LLM n w (n - 1) v) (fun _ => ∀ L, L < n - 1 → bct n w L n 0 (fun _ => 0) = 0) x) ?_ ?_
  · refine Pc.loop (fun d s => ∃ j, j ≤ n - 1 ∧ d = nI j ∧ MI n w s ∧ (∀ c, c ≠ 95 → c ≠ 96 → c ≠ 97 → s c = t c) ∧ ∀ L, L < j → bct n w L n 0 (fun _ => 0) = 0) ?_ ⟨0, Nat.zero_le _, rfl, hM, fun _ _ _ _ => rfl, fun L hL => by omega⟩
    rintro d s ⟨j, hj, rfl, sM, sf, sI⟩
    have hs : CN 91 n l w s := h.fr (sf _ (by decide) (by decide) (by decide)) (sf _ (by decide) (by decide) (by decide)) (sf _ (by decide) (by decide) (by decide))
    unfold SX0_leastLimit_2
    refine Pc.rdE hs.1 ?_
    rw [nI_s1 h1]
    refine Pc.cv (nI_leP (by omega) (by omega)) (Pc.ite (fun c1 => Pc.ret ⟨sM, sf, fun L hL => sI L (by omega)⟩) (fun c1 => ?_))
    refine Pc.bd _ (r_rowsFrom hw hn 11 0 j (fun _ => 0) s (Nat.zero_le _) pfx_0 pre_0 (by omega) hs sM (fun q hq => by omega) (by omega)) ?_
    rintro r u ⟨rfl, uM, uf, -⟩
    have hb := bct_b (w := w) (L := j) hn (k := n - 0) (i := 0) (P := fun _ => 0) (by omega)
    have fr : ∀ c, c ≠ 95 → c ≠ 96 → c ≠ 97 → u c = t c := fun c c3 c4 c5 => (uf c c3 c4 c5).trans (sf c c3 c4 c5)
    refine Pc.cv (nI_leP (b := 0) (by omega) (by omega)) (Pc.ite (fun c2 => Pc.ret ⟨j + 1, by omega, nI_1 j, uM, fr, fun L hL => ?_⟩) (fun c2 => Pc.ret ⟨uM, fr, j, rfl, by omega, sI, fun _ => ?_⟩))
    · by_cases e : L = j
      · subst e
        rw [Nat.sub_zero] at c2
        omega
      · exact sI L (by omega)
    · rw [Nat.sub_zero] at c2
      omega
  · rintro (x | x) u ⟨uM, uf, hx⟩
    · exact Pc.el (Pc.ret ⟨hx, uM, uf⟩)
    · refine Pc.er (Pc.rdE (x := nI n) (by rw [uf 91 (by decide) (by decide) (by decide)]; exact h.1) ?_)
      rw [nI_s1 h1]
      exact Pc.ret ⟨⟨n - 1, rfl, Nat.le_refl _, hx, fun q => by omega⟩, uM, uf⟩
end
