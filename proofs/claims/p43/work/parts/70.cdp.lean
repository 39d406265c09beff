/-! the class's steps, over all sets -/
theorem xr_all : ∀ A, A < 512 → ∀ p, p < 9 → A.testBit p = true → (A ^^^ 2 ^ p).testBit p = false ∧ (A ^^^ 2 ^ p) ||| 2 ^ p = A ∧ A ^^^ 2 ^ p < A := by decide +kernel
theorem or_xr {S p : Nat} (hS : S < 512) (hp : p < 9) (hb : S.testBit p = false) : (S ||| 2 ^ p) ^^^ 2 ^ p = S := by
  refine bit_ext (n := 9) (xor9 (or9 hS (pw9 hp)) (pw9 hp)) hS (fun k hk => ?_)
  rw [Nat.testBit_xor, Nat.testBit_or, pow_bit]
  by_cases e : p = k
  · subst e
    rw [hb]
    simp
  · simp [e]
theorem or_p {S p : Nat} : (S ||| 2 ^ p).testBit p = true := by rw [Nat.testBit_or, pow_bit]; simp
/-- the steps of measure m lie in the array ta -/
def STP (ta n : Nat) (f : Nat → Nat → Nat) (t : St) : Prop := ∀ S p, S < 2 ^ n → p < n → S.testBit p = false → t ta (S * 9 + p) = nI (f S p)
theorem prc_p {n : Nat} {w : Nat → Nat → Nat} {m A p q : Nat} (h : ¬ (m = 5 ∨ m = 6)) : prc n w m A p = prc n w m A q := by
  unfold prc
  rw [if_neg (by omega), if_neg (by omega), if_neg (by omega), if_neg (by omega)]
theorem e_steps0 {x n l ta : Nat} {w : Nat → Nat → Nat} {t : St} (h : CN x n l w t) (g : netAt x = true) (hw : WF n w) (hn : n < 10) {m : Nat} (hm : m < 7) (h56 : ¬ (m = 5 ∨ m = 6)) (hl : ilen ta = 4608) (hta : ta ≠ x ∧ ta ≠ x + 1 ∧ ta ≠ x + 3) : Ok (wh (SX9_fillSteps_18 x (nI m) ta) (0 : Int32) t) (fun _ u => (∀ c, c ≠ ta → u c = t c) ∧ STP ta n (cst n w m) u) := by
  have h2 := Nat.two_pow_pos n
  have h3 := pow9 (k := n) (by omega)
  refine Ok.count (2 ^ n) (fun A c s => c = nI A ∧ (∀ c, c ≠ ta → s c = t c) ∧ ∀ S p, S < 2 ^ n → p < n → S.testBit p = false → S ||| 2 ^ p < A → s ta (S * 9 + p) = nI (cst n w m S p)) ?_ ?_ (Nat.zero_le _) ⟨rfl, fun _ _ => rfl, fun S p _ _ _ hh => by omega⟩
  · rintro A c s hA ⟨rfl, hf, hI⟩
    have hs : CN x n l w s := h.fr (hf _ (by omega)) (hf _ (by omega)) (hf _ (by omega))
    unfold SX9_fillSteps_18
    refine Ok.bd (fun r u => s = u ∧ r = nI (2 ^ n - 1)) (e_allBits hs hn g ⟨rfl, rfl⟩) ?_
    rintro _ _ ⟨rfl, rfl⟩
    refine Ok.ifF (by rw [nI_ltP (by omega) (by omega)]; omega) (Ok.bq (q_of hs g hw hn (p := 0) hm (by omega) (fun q => absurd q h56)) ?_)
    refine Ok.bd (fun _ u => (∀ c, c ≠ ta → u c = t c) ∧ ∀ S p, S < 2 ^ n → p < n → S.testBit p = false → S ||| 2 ^ p < A + 1 → u ta (S * 9 + p) = nI (cst n w m S p)) ?_ ?_
    · refine Ok.count n (fun j c u => c = nI j ∧ (∀ c, c ≠ ta → u c = t c) ∧ ∀ S p, S < 2 ^ n → p < n → S.testBit p = false → (S ||| 2 ^ p < A ∨ (S ||| 2 ^ p = A ∧ p < j)) → u ta (S * 9 + p) = nI (cst n w m S p)) ?_ ?_ (Nat.zero_le _) ⟨rfl, hf, fun S p a1 a2 a3 a4 => hI S p a1 a2 a3 (by omega)⟩
      · rintro j c u hj ⟨rfl, uf, uI⟩
        have hu : CN x n l w u := h.fr (uf _ (by omega)) (uf _ (by omega)) (uf _ (by omega))
        unfold SX9_fillSteps_40
        refine Ok.rdE hu.1 (Ok.ifF (by rw [nI_leP (by omega) (by omega)]; omega) ?_)
        refine Ok.bd (fun _ v => (∀ c, c ≠ ta → v c = t c) ∧ ∀ S p, S < 2 ^ n → p < n → S.testBit p = false → (S ||| 2 ^ p < A ∨ (S ||| 2 ^ p = A ∧ p < j + 1)) → v ta (S * 9 + p) = nI (cst n w m S p)) ?_ ?_
        · refine Ok.cv (bitn (by omega) (by omega)) (Ok.ite (fun c0 => Ok.ret ⟨uf, fun S p a1 a2 a3 a4 => ?_⟩) (fun c0 => ?_))
          · refine uI S p a1 a2 a3 ?_
            rcases a4 with a4 | ⟨a4, a5⟩
            · exact Or.inl a4
            · by_cases e : p = j
              · subst e
                rw [← a4, or_p] at c0
                cases c0
              · exact Or.inr ⟨a4, by omega⟩
          · have c1 := bT c0
            obtain ⟨x1, x2, x3⟩ := xr_all A (by omega) j (by omega) c1
            rw [shl_1 (by omega), nI_xor, li_9, nI_mul, nI_add, hl]
            refine Ok.ckT (inb_n (by omega) (by omega)) (OkwrE (Ok.ret ⟨fun c hc => by rw [wr_off c hc]; exact uf c hc, fun S p a1 a2 a3 a4 => ?_⟩))
            rw [nI_cl (by omega)]
            by_cases e : S = A ^^^ 2 ^ j ∧ p = j
            · obtain ⟨rfl, rfl⟩ := e
              rw [wrs]
              unfold cst ast
              rw [if_neg h56, x2, prc_p h56]
            · rw [wrn (by omega)]
              refine uI S p a1 a2 a3 ?_
              rcases a4 with a4 | ⟨a4, a5⟩
              · exact Or.inl a4
              · refine Or.inr ⟨a4, ?_⟩
                by_cases e2 : p = j
                · subst e2
                  refine absurd ⟨?_, rfl⟩ e
                  rw [← a4, or_xr (by omega) (by omega) a3]
                · omega
        · rintro _ v ⟨vf, vI⟩
          exact Ok.ret ⟨nI_1 j, vf, vI⟩
      · rintro c u ⟨rfl, uf, uI⟩
        have hu : CN x n l w u := h.fr (uf _ (by omega)) (uf _ (by omega)) (uf _ (by omega))
        unfold SX9_fillSteps_40
        exact Ok.rdE hu.1 (Ok.ifT (by rw [nI_leP (by omega) (by omega)]; omega) (Ok.ret ⟨uf, fun S p a1 a2 a3 a4 => uI S p a1 a2 a3 (by omega)⟩))
    · rintro _ u ⟨uf, uI⟩
      exact Ok.ret ⟨nI_1 A, uf, uI⟩
  · rintro c s ⟨rfl, hf, hI⟩
    have hs : CN x n l w s := h.fr (hf _ (by omega)) (hf _ (by omega)) (hf _ (by omega))
    unfold SX9_fillSteps_18
    refine Ok.bd (fun r u => s = u ∧ r = nI (2 ^ n - 1)) (e_allBits hs hn g ⟨rfl, rfl⟩) ?_
    rintro _ _ ⟨rfl, rfl⟩
    exact Ok.ifT (by rw [nI_ltP (by omega) (by omega)]; omega) (Ok.ret ⟨hf, fun S p a1 a2 a3 => hI S p a1 a2 a3 (set_up a1 a2 a3).2.1⟩)
/-! what is around, set by set -/
theorem nbm_0 {n : Nat} {w : Nat → Nat → Nat} (hw : WF n w) (hn : n < 10) {p : Nat} : nbm w 0 p = nr w p := by
  refine bit_ext (n := 9) nbm_lt nr_lt (fun q hq => ?_)
  cases e : (nr w p).testBit q
  · refine bF (fun a => ?_)
    have h1 := ((nbm_bit hq).mp a).1 (fun q => 0 < w p q) (fun r hr => hr) (fun r r' _ hr => (by rw [Nat.zero_testBit] at hr; cases hr))
    rw [(nr_b hw hn).mpr h1] at e
    cases e
  · have h1 := (nr_b hw hn).mp e
    refine (nbm_bit hq).mpr ⟨Rch.one h1, Nat.zero_testBit _, fun a => ?_⟩
    subst a
    rw [hw.2.2.1 p] at h1
    omega
theorem nbm_add {w : Nat → Nat → Nat} {S v p : Nat} (hv : v < 9) (hp : p < 9) (hvp : p ≠ v) (hvS : S.testBit v = false) : nbm w (S ||| 2 ^ v) p = if (nbm w S p).testBit v = true then dif (nbm w S p ||| nbm w S v) (2 ^ p ||| 2 ^ v) else nbm w S p := by
  refine bit_ext (n := 9) nbm_lt (by split; exact dif_lt (or9 nbm_lt nbm_lt); exact nbm_lt) (fun q hq => ?_)
  have hb : (S ||| 2 ^ v).testBit q = (S.testBit q || decide (v = q)) := by rw [Nat.testBit_or, pow_bit]
  have iff : (nbm w (S ||| 2 ^ v) p).testBit q = true ↔ (if (nbm w S p).testBit v = true then dif (nbm w S p ||| nbm w S v) (2 ^ p ||| 2 ^ v) else nbm w S p).testBit q = true := by
    rw [nbm_bit hq, Rch.add, hb]
    by_cases c : (nbm w S p).testBit v = true
    · rw [if_pos c, dif_b (or9 nbm_lt nbm_lt), or_b, nbm_bit hq, nbm_bit hq, Nat.testBit_or, pow_bit, pow_bit]
      have hc := (nbm_bit hv).mp c
      simp only [Bool.or_eq_false_iff, decide_eq_false_iff_not]
      constructor
      · rintro ⟨h1, ⟨h2, h3⟩, h4⟩
        rcases h1 with h1 | ⟨-, h1⟩
        · exact ⟨Or.inl ⟨h1, h2, h4⟩, h4, h3⟩
        · exact ⟨Or.inr ⟨h1, h2, h3⟩, h4, h3⟩
      · rintro ⟨h1, h2, h3⟩
        rcases h1 with ⟨h1, h4, -⟩ | ⟨h1, h4, -⟩
        · exact ⟨Or.inl h1, ⟨h4, h3⟩, h2⟩
        · exact ⟨Or.inr ⟨hc.1, h1⟩, ⟨h4, h3⟩, h2⟩
    · rw [if_neg c, nbm_bit hq]
      simp only [Bool.or_eq_false_iff, decide_eq_false_iff_not]
      have hn : ¬ Rch w S p v := fun r => c ((nbm_bit hv).mpr ⟨r, hvS, hvp⟩)
      constructor
      · rintro ⟨h1, ⟨h2, h3⟩, h4⟩
        rcases h1 with h1 | ⟨h1, -⟩
        · exact ⟨h1, h2, h4⟩
        · exact absurd h1 hn
      · rintro ⟨h1, h2, h4⟩
        refine ⟨Or.inl h1, ⟨h2, fun e => ?_⟩, h4⟩
        subst e
        exact hn h1
  cases e : (nbm w (S ||| 2 ^ v) p).testBit q
  · exact (bF (fun a => by rw [iff.mpr a] at e; cases e)).symm
  · exact (iff.mp e).symm
theorem low_set : ∀ S, S < 512 → ∀ p, p < 9 → S.testBit p = true → (∀ q, q < p → S.testBit q = false) → S &&& (S - 1) = dif S (2 ^ p) := by decide +kernel
theorem q_lowest {S p : Nat} (hS : S < 512) (hp : p < 9) (hb : S.testBit p = true) (hl : ∀ q, q < p → S.testBit q = false) {t : St} : FX9_lowest (nI S) t = some (nI p, t) := by
  refine Ok.eq ?_
  unfold FX9_lowest
  refine Ok.bq (a := Sum.inl (nI p)) (t := t) (wq p (fun j => nI j) (fun j hj => ?_) ?_) (Ok.el (Ok.ret ⟨rfl, rfl⟩))
  · unfold SX9_lowest_2
    exact Ok.ifF (by rw [li_9, nI_leP (by omega) (by omega)]; omega) (Ok.ifT (by rw [bitn (by omega) (by omega)]; exact hl j hj) (Ok.ret ⟨rfl, by rw [nI_1]⟩))
  · unfold SX9_lowest_2
    exact Ok.ifF (by rw [li_9, nI_leP (by omega) (by omega)]; omega) (Ok.ifF (by rw [bitn (by omega) (by omega), hb]; decide) (Ok.ret ⟨rfl, rfl⟩))
theorem has_low {S : Nat} (hS : S < 512) (h0 : S ≠ 0) : ∃ p, p < 9 ∧ S.testBit p = true ∧ ∀ q, q < p → S.testBit q = false := by
  have key : ∀ k, k ≤ 9 → (∃ p, p < k ∧ S.testBit p = true ∧ ∀ q, q < p → S.testBit q = false) ∨ ∀ q, q < k → S.testBit q = false := by
    intro k
    induction k with
    | zero => intro _; exact Or.inr (fun q hq => by omega)
    | succ k ih =>
      intro hk
      rcases ih (by omega) with ⟨p, a, b, c⟩ | h
      · exact Or.inl ⟨p, by omega, b, c⟩
      · cases e : S.testBit k
        · refine Or.inr (fun q hq => ?_)
          by_cases e2 : q = k
          · rw [e2]; exact e
          · exact h q (by omega)
        · exact Or.inl ⟨k, by omega, e, h⟩
  rcases key 9 (Nat.le_refl _) with h | h
  · exact h
  · exact absurd (bit_ext (n := 9) hS (by decide) (fun k hk => by rw [h k hk, Nat.zero_testBit])) h0
theorem dif_or {S v : Nat} (hS : S < 512) (hv : v < 9) (hb : S.testBit v = true) : dif S (2 ^ v) ||| 2 ^ v = S ∧ (dif S (2 ^ v)).testBit v = false ∧ dif S (2 ^ v) < S := by
  have h1 : dif S (2 ^ v) ||| 2 ^ v = S := by
    refine bit_ext (n := 9) (or9 (dif_lt hS) (pw9 hv)) hS (fun k hk => ?_)
    rw [Nat.testBit_or, dif_bit hS, pow_bit]
    by_cases e : v = k
    · subst e; rw [hb]; simp
    · simp [e]
  have h2 : (dif S (2 ^ v)).testBit v = false := by rw [dif_bit hS, pow_bit]; simp
  refine ⟨h1, h2, ?_⟩
  have h3 : dif S (2 ^ v) ≤ S := by unfold dif; exact Nat.and_le_left
  have h4 : dif S (2 ^ v) ≠ S := fun e => by rw [e, hb] at h2; cases h2
  omega
theorem e_around {x n l : Nat} {w : Nat → Nat → Nat} {t : St} (h : CN x n l w t) (g : netAt x = true) (hw : WF n w) (hn : n < 10) (h87 : 87 ≠ x ∧ 87 ≠ x + 1 ∧ 87 ≠ x + 3) : Ok (FX9_fillAround x t) (fun _ u => (∀ c, c ≠ 87 → u c = t c) ∧ STP 87 n (nbm w) u) := by
  have h2 := Nat.two_pow_pos n
  have h3 := pow9 (k := n) (by omega)
  unfold FX9_fillAround
  refine Ok.ckT g (Ok.bd (fun _ u => (∀ c, c ≠ 87 → u c = t c) ∧ ∀ p, p < n → u 87 p = nI (nbm w 0 p)) ?_ ?_)
  · refine Ok.count n (fun j c u => c = nI j ∧ (∀ c, c ≠ 87 → u c = t c) ∧ ∀ p, p < j → u 87 p = nI (nbm w 0 p)) ?_ ?_ (Nat.zero_le _) ⟨rfl, fun _ _ => rfl, fun p hp => by omega⟩
    · rintro j c u hj ⟨rfl, uf, uI⟩
      have hu : CN x n l w u := h.fr (uf _ (by omega)) (uf _ (by omega)) (uf _ (by omega))
      unfold SX9_fillAround_2
      refine Ok.rdE hu.1 (Ok.ifF (by rw [nI_leP (by omega) (by omega)]; omega) (Ok.ckT (inb_n (by omega) (by omega)) ?_))
      rw [nI_cl (by omega)]
      refine Ok.rdE (hu.2.2.1 j (by omega)) (Ok.ckT (inb_n (by omega) (by omega)) (OkwrE (Ok.ret ⟨nI_1 j, fun c hc => by rw [wr_off c hc]; exact uf c hc, fun p hp => ?_⟩)))
      by_cases e : p = j
      · subst e; rw [wrs, nbm_0 hw hn]
      · rw [wrn e]; exact uI p (by omega)
    · rintro c u ⟨rfl, uf, uI⟩
      have hu : CN x n l w u := h.fr (uf _ (by omega)) (uf _ (by omega)) (uf _ (by omega))
      unfold SX9_fillAround_2
      exact Ok.rdE hu.1 (Ok.ifT (by rw [nI_leP (by omega) (by omega)]; omega) (Ok.ret ⟨uf, uI⟩))
  · rintro _ t1 ⟨f1, I1⟩
    refine Ok.bd (fun _ u => (∀ c, c ≠ 87 → u c = t c) ∧ STP 87 n (nbm w) u) ?_ (fun _ u hu => Ok.ret hu)
    refine Ok.count (2 ^ n) (fun A c u => c = nI A ∧ 1 ≤ A ∧ (∀ c, c ≠ 87 → u c = t c) ∧ ∀ S p, S < A → S < 2 ^ n → p < n → S.testBit p = false → u 87 (S * 9 + p) = nI (nbm w S p)) ?_ ?_ (j := 1) (by omega) ⟨rfl, Nat.le_refl _, f1, fun S p a1 _ a3 _ => ?_⟩
    · rintro A c u hA ⟨rfl, hA1, uf, uI⟩
      have hu : CN x n l w u := h.fr (uf _ (by omega)) (uf _ (by omega)) (uf _ (by omega))
      obtain ⟨v, hv, hvb, hvl⟩ := has_low (S := A) (by omega) (by omega)
      obtain ⟨o1, o2, o3⟩ := dif_or (S := A) (v := v) (by omega) hv hvb
      have hvn : v < n := by
        refine Decidable.byContradiction (fun q => ?_)
        rw [lt_pow_bit hA (by omega)] at hvb
        cases hvb
      unfold SX9_fillAround_30
      refine Ok.bd (fun r s => u = s ∧ r = nI (2 ^ n - 1)) (e_allBits hu hn g ⟨rfl, rfl⟩) ?_
      rintro _ _ ⟨rfl, rfl⟩
      refine Ok.ifF (by rw [nI_ltP (by omega) (by omega)]; omega) (Ok.bq (q_lowest (by omega) hv hvb hvl) ?_)
      rw [(low_all A (by omega) (by omega)).1, low_set A (by omega) v hv hvb hvl, li_9, nI_mul]
      refine Ok.bd (fun _ s => (∀ c, c ≠ 87 → s c = t c) ∧ ∀ S p, S < A + 1 → S < 2 ^ n → p < n → S.testBit p = false → s 87 (S * 9 + p) = nI (nbm w S p)) ?_ (fun _ s hs => Ok.ret ⟨nI_1 A, by omega, hs⟩)
      refine Ok.count n (fun j c s => c = nI j ∧ (∀ c, c ≠ 87 → s c = t c) ∧ ∀ S p, (S < A ∨ (S = A ∧ p < j)) → S < 2 ^ n → p < n → S.testBit p = false → s 87 (S * 9 + p) = nI (nbm w S p)) ?_ ?_ (Nat.zero_le _) ⟨rfl, uf, fun S p a1 => uI S p (by omega)⟩
      · rintro j c s hj ⟨rfl, sf, sI⟩
        have hs : CN x n l w s := h.fr (sf _ (by omega)) (sf _ (by omega)) (sf _ (by omega))
        unfold SX9_fillAround_56
        refine Ok.rdE hs.1 (Ok.ifF (by rw [nI_leP (by omega) (by omega)]; omega) ?_)
        refine Ok.bd (fun _ y => (∀ c, c ≠ 87 → y c = t c) ∧ ∀ S p, (S < A ∨ (S = A ∧ p < j + 1)) → S < 2 ^ n → p < n → S.testBit p = false → y 87 (S * 9 + p) = nI (nbm w S p)) ?_ (fun _ y hy => Ok.ret ⟨nI_1 j, hy⟩)
        refine Ok.cv (bitn (by omega) (by omega)) (Ok.ite (fun c0 => ?_) (fun c0 => Ok.ret ⟨sf, fun S p a1 a2 a3 a4 => ?_⟩))
        · have hd9 : dif A (2 ^ v) < 512 := dif_lt (by omega)
          have hjv : j ≠ v := fun e => by subst e; rw [hvb] at c0; cases c0
          have hjd : (dif A (2 ^ v)).testBit j = false := by rw [dif_bit (by omega), c0]; rfl
          rw [nI_add]
          refine Ok.ckT (inb_n (by omega) (by omega)) ?_
          rw [nI_cl (by omega)]
          have e1 := sI (dif A (2 ^ v)) j (Or.inl o3) (by omega) (by omega) hjd
          have e2 := sI (dif A (2 ^ v)) v (Or.inl o3) (by omega) hvn o2
          have hnj := nbm_lt (w := w) (S := dif A (2 ^ v)) (p := j)
          have hnv := nbm_lt (w := w) (S := dif A (2 ^ v)) (p := v)
          refine Ok.rdE e1 (Ok.bq (a := nI (nbm w A j)) (t := s) (Ok.eq ?_) ?_)
          · have hadd := nbm_add (w := w) (S := dif A (2 ^ v)) (v := v) (p := j) hv (by omega) hjv o2
            rw [o1] at hadd
            refine Ok.cv (bitn (by omega) (by omega)) (Ok.ite (fun c1 => Ok.ret ⟨rfl, ?_⟩) (fun c1 => ?_))
            · rw [hadd, if_neg (by rw [c1]; decide)]
            · rw [nI_add]
              refine Ok.ckT (inb_n (by omega) (by omega)) ?_
              rw [nI_cl (by omega)]
              refine Ok.rdE e2 (Ok.ret ⟨rfl, ?_⟩)
              rw [shl_1 (by omega), shl_1 (by omega), nI_or, nI_or, nI_dif (or9 hnj hnv) (or9 (pw9 (by omega)) (pw9 hv)), hadd, if_pos (bT c1)]
          · rw [li_9, nI_mul, nI_add]
            refine Ok.ckT (inb_n (by omega) (by omega)) (OkwrE (Ok.ret ⟨fun c hc => by rw [wr_off c hc]; exact sf c hc, fun S p a1 a2 a3 a4 => ?_⟩))
            rw [nI_cl (by omega)]
            by_cases e : S = A ∧ p = j
            · obtain ⟨rfl, rfl⟩ := e
              rw [wrs]
            · rw [wrn (by omega)]
              exact sI S p (by omega) a2 a3 a4
        · refine sI S p ?_ a2 a3 a4
          rcases a1 with a1 | ⟨rfl, a1⟩
          · exact Or.inl a1
          · refine Or.inr ⟨rfl, ?_⟩
            by_cases e : p = j
            · subst e; exact absurd a4 c0
            · omega
      · rintro c s ⟨rfl, sf, sI⟩
        have hs : CN x n l w s := h.fr (sf _ (by omega)) (sf _ (by omega)) (sf _ (by omega))
        unfold SX9_fillAround_56
        exact Ok.rdE hs.1 (Ok.ifT (by rw [nI_leP (by omega) (by omega)]; omega) (Ok.ret ⟨sf, fun S p a1 a2 a3 => sI S p (by omega) a2 a3⟩))
    · rintro c u ⟨rfl, hA1, uf, uI⟩
      have hu : CN x n l w u := h.fr (uf _ (by omega)) (uf _ (by omega)) (uf _ (by omega))
      unfold SX9_fillAround_30
      refine Ok.bd (fun r s => u = s ∧ r = nI (2 ^ n - 1)) (e_allBits hu hn g ⟨rfl, rfl⟩) ?_
      rintro _ _ ⟨rfl, rfl⟩
      exact Ok.ifT (by rw [nI_ltP (by omega) (by omega)]; omega) (Ok.ret ⟨uf, fun S p a1 a2 a3 => uI S p a1 a1 a2 a3⟩)
    · have : S = 0 := by omega
      subst this
      rw [Nat.zero_mul, Nat.zero_add]
      exact I1 p a3
