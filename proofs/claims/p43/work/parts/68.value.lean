/-! what a row has -/
/-- how far ends lie apart, at place i and those ahead of it -/
def bin (w : Nat → Nat → Nat) (o : Nat → Nat) (i a : Nat) : Nat → Nat
  | 0 => a
  | j + 1 => if 0 < w (o i) (o j) then Nat.max (bin w o i a j) (i - j) else bin w o i a j
def bwd (w : Nat → Nat → Nat) (o : Nat → Nat) : Nat → Nat
  | 0 => 0
  | i + 1 => bin w o i (bwd w o i) i
/-- r is the most that is true of a two -/
def IsMx (n : Nat) (P : Nat → Nat → Prop) (r : Nat) : Prop := (∀ i j, i < j → j < n → P i j → j - i ≤ r) ∧ (r = 0 ∨ ∃ i j, i < j ∧ j < n ∧ P i j ∧ r = j - i)
theorem IsMx.uq {n : Nat} {P : Nat → Nat → Prop} {r q : Nat} (h : IsMx n P r) (g : IsMx n P q) : r = q := by
  have h1 : r ≤ q := by
    rcases h.2 with e | ⟨i, j, a, b, c, e⟩
    · omega
    · have := g.1 i j a b c; omega
  have h2 : q ≤ r := by
    rcases g.2 with e | ⟨i, j, a, b, c, e⟩
    · omega
    · have := h.1 i j a b c; omega
  omega
theorem bin_in {w : Nat → Nat → Nat} {o : Nat → Nat} {i a : Nat} : ∀ k, k ≤ i → a ≤ bin w o i a k ∧ (∀ j, j < k → 0 < w (o i) (o j) → i - j ≤ bin w o i a k) ∧ (bin w o i a k = a ∨ ∃ j, j < k ∧ 0 < w (o i) (o j) ∧ bin w o i a k = i - j)
  | 0, _ => ⟨Nat.le_refl _, fun j hj => by omega, Or.inl rfl⟩
  | k + 1, hk => by
    obtain ⟨h1, h2, h3⟩ := bin_in (w := w) (o := o) (i := i) (a := a) k (by omega)
    by_cases c : 0 < w (o i) (o k)
    · have e : bin w o i a (k + 1) = Nat.max (bin w o i a k) (i - k) := if_pos c
      have m1 : bin w o i a k ≤ Nat.max (bin w o i a k) (i - k) := Nat.le_max_left _ _
      have m2 : i - k ≤ Nat.max (bin w o i a k) (i - k) := Nat.le_max_right _ _
      rw [e]
      refine ⟨by omega, fun j hj hp => ?_, ?_⟩
      · by_cases q : j = k
        · rw [q]; exact m2
        · have := h2 j (by omega) hp; omega
      · rcases Nat.le_total (bin w o i a k) (i - k) with q | q
        · rw [show Nat.max (bin w o i a k) (i - k) = i - k from Nat.max_eq_right q]
          exact Or.inr ⟨k, by omega, c, rfl⟩
        · rw [show Nat.max (bin w o i a k) (i - k) = bin w o i a k from Nat.max_eq_left q]
          rcases h3 with h3 | ⟨j, a1, a2, a3⟩
          · exact Or.inl h3
          · exact Or.inr ⟨j, by omega, a2, a3⟩
    · have e : bin w o i a (k + 1) = bin w o i a k := if_neg c
      rw [e]
      refine ⟨h1, fun j hj hp => ?_, ?_⟩
      · by_cases q : j = k
        · rw [q] at hp; exact absurd hp c
        · exact h2 j (by omega) hp
      · rcases h3 with h3 | ⟨j, a1, a2, a3⟩
        · exact Or.inl h3
        · exact Or.inr ⟨j, by omega, a2, a3⟩
theorem bwd_in {w : Nat → Nat → Nat} {o : Nat → Nat} : ∀ n, IsMx n (fun i j => 0 < w (o j) (o i)) (bwd w o n)
  | 0 => ⟨fun i j _ h => by omega, Or.inl rfl⟩
  | n + 1 => by
    obtain ⟨g1, g2⟩ := bwd_in (w := w) (o := o) n
    obtain ⟨h1, h2, h3⟩ := bin_in (w := w) (o := o) (i := n) (a := bwd w o n) n (Nat.le_refl _)
    refine ⟨fun i j a b c => ?_, ?_⟩
    · show j - i ≤ bin w o n (bwd w o n) n
      by_cases e : j = n
      · subst e
        exact h2 i a c
      · have := g1 i j a (by omega) c
        omega
    · show bin w o n (bwd w o n) n = 0 ∨ ∃ i j, i < j ∧ j < n + 1 ∧ 0 < w (o j) (o i) ∧ bin w o n (bwd w o n) n = j - i
      rcases h3 with h3 | ⟨j, a1, a2, a3⟩
      · rw [h3]
        rcases g2 with g2 | ⟨i, j, a, b, c, e⟩
        · exact Or.inl g2
        · exact Or.inr ⟨i, j, a, by omega, c, e⟩
      · exact Or.inr ⟨j, n, a1, by omega, a2, a3⟩
theorem bwd_le {w : Nat → Nat → Nat} {o : Nat → Nat} {n : Nat} : bwd w o n ≤ n := by
  rcases (bwd_in (w := w) (o := o) n).2 with h | ⟨i, j, a, b, -, e⟩ <;> omega
/-- what a row has of measure m -/
noncomputable def val (n : Nat) (w : Nat → Nat → Nat) (m : Nat) (o : Nat → Nat) : Nat := if m = 2 then bwd w o n else vfd n w m o n
theorem val_le {n : Nat} {w : Nat → Nat → Nat} {m : Nat} {o : Nat → Nat} (hw : WF n w) (hn : n < 10) : val n w m o ≤ 6561 := by
  unfold val
  split
  · have := bwd_le (w := w) (o := o) (n := n); omega
  · have := vfd_le (m := m) (o := o) hw hn n; omega
/-! the class -/
def CO (x n : Nat) (o : Nat → Nat) (t : St) : Prop := ∀ i, i < n → t (x + 2) i = nI (o i)
theorem q_widestBand {x n l : Nat} {w : Nat → Nat → Nat} {o : Nat → Nat} {t : St} (h : CN x n l w t) (g : netAt x = true) (hw : WF n w) (hn : n < 10) (ho : CO x n o t) (h9 : ∀ i, i < n → o i < 9) : FX8_widestBand x t = some (nI (bwd w o n), t) := by
  refine Ok.eq ?_
  unfold FX8_widestBand
  refine Ok.ckT g (Ok.bd (fun r u => t = u ∧ ∃ q, r = nI q ∧ IsMx n (fun i j => 0 < w (o j) (o i)) q) ?_ ?_)
  · refine Ok.count n (fun k c s => t = s ∧ ∃ q, q ≤ n ∧ c = (nI q, nI k) ∧ (∀ i j, i < j → j < n → i < k → 0 < w (o j) (o i) → j - i ≤ q) ∧ (q = 0 ∨ ∃ i j, i < j ∧ j < n ∧ 0 < w (o j) (o i) ∧ q = j - i)) ?_ ?_ (Nat.zero_le _) ⟨rfl, 0, Nat.zero_le _, rfl, fun i j _ _ h => by omega, Or.inl rfl⟩
    · rintro k c s hk ⟨rfl, q, hq, rfl, h1, h2⟩
      unfold SX8_widestBand_4
      dsimp only
      refine Ok.rdE h.1 (Ok.ifF (by rw [nI_leP (by omega) (by omega)]; omega) ?_)
      rw [nI_1]
      refine Ok.bd (fun r u => t = u ∧ ∃ q, q ≤ n ∧ r = nI q ∧ (∀ i j, i < j → j < n → i < k + 1 → 0 < w (o j) (o i) → j - i ≤ q) ∧ (q = 0 ∨ ∃ i j, i < j ∧ j < n ∧ 0 < w (o j) (o i) ∧ q = j - i)) ?_ ?_
      · refine Ok.count n (fun b c s => t = s ∧ ∃ q, q ≤ n ∧ c = (nI q, nI b) ∧ k + 1 ≤ b ∧ (∀ i j, i < j → j < n → (i < k ∨ (i = k ∧ j < b)) → 0 < w (o j) (o i) → j - i ≤ q) ∧ (q = 0 ∨ ∃ i j, i < j ∧ j < n ∧ 0 < w (o j) (o i) ∧ q = j - i)) ?_ ?_ (j := k + 1) (by omega) ⟨rfl, q, hq, rfl, Nat.le_refl _, fun i j a b c => h1 i j a b (by omega), h2⟩
        · rintro b c s hb ⟨rfl, q, hq, rfl, hkb, h1, h2⟩
          unfold SX8_widestBand_16
          dsimp only
          refine Ok.rdE h.1 (Ok.ifF (by rw [nI_leP (by omega) (by omega)]; omega) (Ok.ckT (inb_n (by omega) (by omega)) ?_))
          rw [nI_cl (by omega)]
          refine Ok.rdE (ho k hk) (Ok.ckT (inb_n (by omega) (by omega)) ?_)
          rw [nI_cl (by omega)]
          refine Ok.rdE (ho b hb) (Ok.bq (q_weightOf h g (h9 k hk) (h9 b hb)) ?_)
          have hw9 := hw.1 (o k) (o b)
          have hsy := hw.2.1 (o k) (o b)
          refine Ok.bd (fun r u => t = u ∧ ∃ q', q' ≤ n ∧ r = nI q' ∧ q ≤ q' ∧ (0 < w (o b) (o k) → b - k ≤ q') ∧ (q' = q ∨ (0 < w (o b) (o k) ∧ q' = b - k))) ?_ ?_
          · rw [li_0]
            refine Ok.cv (nI_leP (by omega) (by omega)) (Ok.ite (fun c => Ok.ret ⟨rfl, q, hq, rfl, Nat.le_refl _, fun a => by omega, Or.inl rfl⟩) (fun c => ?_))
            rw [nI_sub (by omega), mxI_n (by omega) (by omega)]
            refine Ok.ret ⟨rfl, Nat.max q (b - k), Nat.max_le.mpr ⟨hq, by omega⟩, rfl, Nat.le_max_left _ _, fun _ => Nat.le_max_right _ _, ?_⟩
            rcases Nat.le_total q (b - k) with e | e
            · exact Or.inr ⟨by omega, Nat.max_eq_right e⟩
            · exact Or.inl (Nat.max_eq_left e)
          · rintro _ _ ⟨rfl, q', hq', rfl, a1, a2, a3⟩
            refine Ok.ret ⟨rfl, q', hq', by rw [nI_1], by omega, fun i j b1 b2 b3 b4 => ?_, ?_⟩
            · by_cases e : i = k ∧ j = b
              · obtain ⟨rfl, rfl⟩ := e
                exact a2 b4
              · have := h1 i j b1 b2 (by omega) b4
                omega
            · rcases a3 with rfl | ⟨a3, rfl⟩
              · exact h2
              · exact Or.inr ⟨k, b, by omega, hb, a3, rfl⟩
        · rintro c s ⟨rfl, q, hq, rfl, hkb, h1, h2⟩
          unfold SX8_widestBand_16
          dsimp only
          exact Ok.rdE h.1 (Ok.ifT (by rw [nI_leP (by omega) (by omega)]; omega) (Ok.ret ⟨rfl, q, hq, rfl, fun i j a b c => h1 i j a b (by omega), h2⟩))
      · rintro _ _ ⟨rfl, q', hq', rfl, a1, a2⟩
        exact Ok.ret ⟨rfl, q', hq', rfl, a1, a2⟩
    · rintro c s ⟨rfl, q, hq, rfl, h1, h2⟩
      unfold SX8_widestBand_4
      dsimp only
      exact Ok.rdE h.1 (Ok.ifT (by rw [nI_leP (by omega) (by omega)]; omega) (Ok.ret ⟨rfl, q, rfl, fun i j a b => h1 i j a b (by omega), h2⟩))
  · rintro _ _ ⟨rfl, q, rfl, hq⟩
    exact Ok.ret ⟨rfl, by rw [hq.uq (bwd_in n)]⟩
theorem q_measured {x n l : Nat} {w : Nat → Nat → Nat} {o : Nat → Nat} {t : St} (h : CN x n l w t) (g : netAt x = true) (hw : WF n w) (hn : n < 10) (ho : CO x n o t) (h9 : ∀ i, i < n → o i < 9) {m : Nat} (hm : m < 7) : FX8_measured x (nI m) t = some (nI (val n w m o), t) := by
  refine Ok.eq ?_
  unfold FX8_measured val
  rw [li_2]
  refine Ok.ckT g (Ok.cv (nI_lit hm (by omega)) (Ok.ite (fun c => ?_) (fun c => ?_)))
  · rw [if_pos c]
    exact Ok.bq (q_widestBand h g hw hn ho h9) (Ok.ret ⟨rfl, rfl⟩)
  · rw [if_neg c]
    refine Ok.bq (a := nI (vfd n w m o n)) (t := t) (wq n (fun j => (nI (vfd n w m o j), nI (amk o j), nI j)) (fun j hj => ?_) ?_) (Ok.ret ⟨rfl, rfl⟩)
    · unfold SX8_measured_17
      dsimp only
      have ha := amk_lt (o := o) (i := j) (fun i hi => h9 i (by omega))
      have hv := vfd_le (m := m) (o := o) hw hn j
      have hc := cst_le (m := m) (S := amk o j) (p := o j) hw hn
      refine Ok.rdE h.1 (Ok.ifF (by rw [nI_leP (by omega) (by omega)]; omega) (Ok.ckT (inb_n (by omega) (by omega)) ?_))
      rw [nI_cl (by omega)]
      refine Ok.rdE (ho j hj) (Ok.bq (q_ast hm (h9 j hj)) (Ok.bq (q_of h g hw hn (p := o j) hm (ast_lt ha (h9 j hj)) (fun _ => ⟨rfl, h9 j hj⟩)) (Ok.bq (q_joined hm c (by omega) (Nat.lt_of_le_of_lt hc (by omega))) (Ok.ret ⟨rfl, ?_⟩))))
      rw [shl_1 (by have := h9 j hj; omega), nI_or, nI_1]
      rfl
    · unfold SX8_measured_17
      dsimp only
      exact Ok.rdE h.1 (Ok.ifT (by rw [nI_leP (by omega) (by omega)]; omega) (Ok.ret ⟨rfl, rfl⟩))
/-! the reference -/
def MO (n : Nat) (o : Nat → Nat) (t : St) : Prop := ∀ i, i < n → t 154 i = nI (o i)
theorem q_bandOf {s n : Nat} {w : Nat → Nat → Nat} {o : Nat → Nat} {t : St} (h : RN s n w t) (hs : s < 3) (hw : WF n w) (hn : n < 10) (ho : MO n o t) (h9 : ∀ i, i < n → o i < 9) : FX12_bandOf (nI s) t = some (nI (bwd w o n), t) := by
  refine Ok.eq ?_
  unfold FX12_bandOf
  refine Ok.bq (a := nI (bwd w o n)) (t := t) (wq n (fun j => (nI (bwd w o j), nI j)) (fun i hi => ?_) ?_) (Ok.ret ⟨rfl, rfl⟩)
  · unfold SX12_bandOf_4
    dsimp only
    refine Ok.bq (q_points h hs) (Ok.ifF (by rw [nI_leP (by omega) (by omega)]; omega) ?_)
    refine Ok.bq (a := nI (bin w o i (bwd w o i) i)) (t := t) (wq i (fun j => (nI (bin w o i (bwd w o i) j), nI j)) (fun j hj => ?_) ?_) (Ok.ret ⟨rfl, by rw [nI_1]; rfl⟩)
    · unfold SX12_bandOf_16
      dsimp only
      have hb1 := bwd_le (w := w) (o := o) (n := i)
      have hb2 : bin w o i (bwd w o i) j ≤ 9 := by
        rcases (bin_in (w := w) (o := o) (i := i) (a := bwd w o i) j (by omega)).2.2 with e | ⟨q, -, -, e⟩ <;> omega
      refine Ok.ifF (by rw [nI_leP (by omega) (by omega)]; omega) (Ok.ckT (inb_n (by omega) (by omega)) ?_)
      rw [nI_cl (by omega)]
      refine Ok.rdE (ho i hi) (Ok.ckT (inb_n (by omega) (by omega)) ?_)
      rw [nI_cl (by omega)]
      refine Ok.rdE (ho j (by omega)) (Ok.bq (q_weight h hs (h9 i hi) (h9 j (by omega))) ?_)
      have hw9 := hw.1 (o i) (o j)
      refine Ok.bq (a := nI (bin w o i (bwd w o i) (j + 1))) (t := t) (Ok.eq ?_) (Ok.ret ⟨rfl, by rw [nI_1]⟩)
      rw [li_0]
      refine Ok.cv (nI_leP (by omega) (by omega)) (Ok.ite (fun c => Ok.ret ⟨rfl, ?_⟩) (fun c => ?_))
      · show _ = nI (if 0 < w (o i) (o j) then _ else _)
        rw [if_neg (by omega)]
      · rw [nI_sub (by omega), mxI_n (by omega) (by omega)]
        refine Ok.ret ⟨rfl, ?_⟩
        show _ = nI (if 0 < w (o i) (o j) then _ else _)
        rw [if_pos (by omega)]
    · unfold SX12_bandOf_16
      dsimp only
      exact Ok.ifT (by rw [nI_leP (by omega) (by omega)]; omega) (Ok.ret ⟨rfl, rfl⟩)
  · unfold SX12_bandOf_4
    dsimp only
    exact Ok.bq (q_points h hs) (Ok.ifT (by rw [nI_leP (by omega) (by omega)]; omega) (Ok.ret ⟨rfl, rfl⟩))
theorem q_valueOf {s n : Nat} {w : Nat → Nat → Nat} {o : Nat → Nat} {t : St} (h : RN s n w t) (hs : s < 3) (hw : WF n w) (hn : n < 10) (ho : MO n o t) (h9 : ∀ i, i < n → o i < 9) {m : Nat} (hm : m < 7) : FX12_valueOf (nI s) (nI m) t = some (nI (val n w m o), t) := by
  refine Ok.eq ?_
  unfold FX12_valueOf val
  rw [li_2]
  refine Ok.cv (nI_lit hm (by omega)) (Ok.ite (fun c => ?_) (fun c => ?_))
  · rw [if_pos c]
    exact Ok.bq (q_bandOf h hs hw hn ho h9) (Ok.ret ⟨rfl, rfl⟩)
  · rw [if_neg c]
    refine Ok.bq (a := nI (vfd n w m o n)) (t := t) (wq n (fun j => (nI (vfd n w m o j), nI (amk o j), nI j)) (fun j hj => ?_) ?_) (Ok.ret ⟨rfl, rfl⟩)
    · unfold SX12_valueOf_19
      dsimp only
      have ha := amk_lt (o := o) (i := j) (fun i hi => h9 i (by omega))
      have hv := vfd_le (m := m) (o := o) hw hn j
      have hc := cst_le (m := m) (S := amk o j) (p := o j) hw hn
      refine Ok.bq (q_points h hs) (Ok.ifF (by rw [nI_leP (by omega) (by omega)]; omega) (Ok.ckT (inb_n (by omega) (by omega)) ?_))
      rw [nI_cl (by omega)]
      refine Ok.rdE (ho j hj) (Ok.bq (q_cost h hs hw hn hm ha (h9 j hj)) (Ok.bq (q_both hm (by omega) (by omega)) (Ok.ckT (inb_n (by omega) (by omega)) ?_)))
      refine Ok.rdE (ho j hj) (Ok.ret ⟨rfl, ?_⟩)
      rw [shl_1 (by have := h9 j hj; omega), nI_or, nI_1]
      rfl
    · unfold SX12_valueOf_19
      dsimp only
      exact Ok.bq (q_points h hs) (Ok.ifT (by rw [nI_leP (by omega) (by omega)]; omega) (Ok.ret ⟨rfl, rfl⟩))
/-! ahead, at, place -/
theorem q_aheadOf {x n l : Nat} {w : Nat → Nat → Nat} {o : Nat → Nat} {t : St} (h : CN x n l w t) (g : netAt x = true) (hn : n < 10) (ho : CO x n o t) (h9 : ∀ i, i < n → o i < 9) {k : Nat} (hk : k ≤ n) : FX5_aheadOf x (nI k) t = some (nI (amk o k), t) := by
  refine Ok.eq ?_
  unfold FX5_aheadOf
  refine Ok.ckT g (Ok.bq (a := nI (amk o k)) (t := t) (wq k (fun j => (nI (amk o j), nI j)) (fun j hj => ?_) ?_) (Ok.ret ⟨rfl, rfl⟩))
  · unfold SX5_aheadOf_4
    dsimp only
    refine Ok.ifF (by rw [nI_leP (by omega) (by omega)]; omega) (Ok.ckT (inb_n (by omega) (by omega)) ?_)
    rw [nI_cl (by omega)]
    refine Ok.rdE (ho j (by omega)) (Ok.ret ⟨rfl, ?_⟩)
    rw [shl_1 (by have := h9 j (by omega); omega), nI_or, nI_1]
    rfl
  · unfold SX5_aheadOf_4
    dsimp only
    exact Ok.ifT (by rw [nI_leP (by omega) (by omega)]; omega) (Ok.ret ⟨rfl, rfl⟩)
theorem q_at {s n : Nat} {o : Nat → Nat} {t : St} (ho : RO s n o t) (hs : s < 3) (hn : n < 10) {i : Nat} (hi : i < n) : FX12_at (nI s) (nI i) t = some (nI (o i), t) := by
  refine Ok.eq ?_
  unfold FX12_at
  rw [li_91, li_82, nI_mul, nI_add, nI_add]
  refine Ok.ckT (inb_n (by omega) (by omega)) ?_
  rw [nI_cl (by omega)]
  refine Ok.rdE (x := nI (o i)) ?_ (Ok.ret ⟨rfl, rfl⟩)
  rw [ho i (by omega), if_pos hi]
theorem q_aheadOfM {s n : Nat} {o : Nat → Nat} {t : St} (hs : s < 3) (hn : n < 10) (ho : RO s n o t) (h9 : ∀ i, i < n → o i < 9) {k : Nat} (hk : k ≤ n) : FX12_aheadOf (nI s) (nI k) t = some (nI (amk o k), t) := by
  refine Ok.eq ?_
  unfold FX12_aheadOf
  refine Ok.bq (a := nI (amk o k)) (t := t) (wq k (fun j => (nI (amk o j), nI j)) (fun j hj => ?_) ?_) (Ok.ret ⟨rfl, rfl⟩)
  · unfold SX12_aheadOf_5
    dsimp only
    refine Ok.ifF (by rw [nI_leP (by omega) (by omega)]; omega) (Ok.bq (q_at ho hs hn (by omega)) (Ok.ret ⟨rfl, ?_⟩))
    rw [shl_1 (by have := h9 j (by omega); omega), nI_or, nI_1]
    rfl
  · unfold SX12_aheadOf_5
    dsimp only
    exact Ok.ifT (by rw [nI_leP (by omega) (by omega)]; omega) (Ok.ret ⟨rfl, rfl⟩)
/-- the price of the step at place i -/
noncomputable def pri (n : Nat) (w : Nat → Nat → Nat) (m : Nat) (o : Nat → Nat) (i : Nat) : Nat := prc n w m (amk o i) (o i)
theorem q_atPlace {x n l : Nat} {w : Nat → Nat → Nat} {o : Nat → Nat} {t : St} (h : CN x n l w t) (g : netAt x = true) (hw : WF n w) (hn : n < 10) (ho : CO x n o t) (h9 : ∀ i, i < n → o i < 9) {m i : Nat} (hm : m < 7) (hi : i < n) : FX6_atPlace x (nI m) (nI i) t = some (nI (pri n w m o i), t) := by
  refine Ok.eq ?_
  unfold FX6_atPlace
  refine Ok.ckT g (Ok.bq (q_aheadOf h g hn ho h9 (by omega)) (Ok.ckT (inb_n (by omega) (by omega)) ?_))
  rw [nI_cl (by omega)]
  exact Ok.rdE (ho i hi) (Ok.bq (q_of h g hw hn (p := o i) hm (amk_lt (fun j hj => h9 j (by omega))) (fun _ => ⟨rfl, h9 i hi⟩)) (Ok.ret ⟨rfl, rfl⟩))
theorem q_priceOf {s n : Nat} {w : Nat → Nat → Nat} {o : Nat → Nat} {t : St} (h : RN s n w t) (hs : s < 3) (hw : WF n w) (hn : n < 10) (ho : RO s n o t) (h9 : ∀ i, i < n → o i < 9) {m i : Nat} (hm : m < 7) (hi : i < n) (h1 : (m = 5 ∨ m = 6) ∨ 1 ≤ i) : FX12_priceOf (nI s) (nI m) (nI i) t = some (nI (pri n w m o i), t) := by
  refine Ok.eq ?_
  unfold FX12_priceOf
  refine Ok.bq (q_takenM hm) ?_
  by_cases c : m = 5 ∨ m = 6
  · rw [if_pos c]
    refine Ok.ifF (by decide) (Ok.bq (q_aheadOfM hs hn ho h9 (by omega)) (Ok.bq (q_at ho hs hn hi) (Ok.bq (q_cost h hs hw hn hm (amk_lt (fun j hj => h9 j (by omega))) (h9 i hi)) (Ok.ret ⟨rfl, ?_⟩))))
    unfold pri cst ast
    rw [if_pos c]
  · rw [if_neg c, li_1, nI_sub (by omega)]
    refine Ok.ifT rfl (Ok.bq (q_aheadOfM hs hn ho h9 (k := i - 1) (by omega)) (Ok.bq (q_at ho hs hn (i := i - 1) (by omega)) (Ok.bq (q_cost h hs hw hn hm (amk_lt (fun j hj => h9 j (by omega))) (h9 (i - 1) (by omega))) (Ok.ret ⟨rfl, ?_⟩))))
    have e : amk o i = amk o (i - 1) ||| 2 ^ o (i - 1) := by
      have : i = (i - 1) + 1 := by omega
      rw [this]
      rfl
    unfold pri cst ast prc
    rw [if_neg c, if_neg (by omega), if_neg (by omega), if_neg (by omega), if_neg (by omega), e]
