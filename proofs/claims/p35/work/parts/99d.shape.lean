section
/-! what a net has: weights, lines at a point -/
def mxf (f : Nat → Nat) : Nat → Nat
  | 0 => 0
  | k + 1 => Nat.max (mxf f k) (f k)
theorem mxf_le {f : Nat → Nat} {b : Nat} (h : ∀ i, f i ≤ b) : ∀ {n : Nat}, mxf f n ≤ b
  | 0 => Nat.zero_le _
  | n + 1 => Nat.max_le.mpr ⟨mxf_le h, h n⟩
theorem wat_le {n p : Nat} {w : Nat → Nat → Nat} (hw : WF n w) (hn : n < 10) : sm n (w p) ≤ 81 := by
  have := sm_le (f := w p) (b := 9) (n := n) (fun i _ => by have := hw.1 p i; omega)
  omega
theorem wst_le {n k : Nat} {w : Nat → Nat → Nat} (hw : WF n w) (hn : n < 10) (hk : k ≤ n) : sm k (fun p => sm n (w p)) ≤ 729 := by
  have := sm_le (f := fun p => sm n (w p)) (b := 81) (n := k) (fun i _ => wat_le hw hn)
  omega
theorem q_weightAt {x n l p : Nat} {w : Nat → Nat → Nat} {t : St} (h : CN x n l w t) (g : netAt x = true) (hn : n < 10) (hp : p < 9) : FX10_weightAt x (nI p) t = some (nI (sm n (w p)), t) := by
  refine Ok.eq ?_
  unfold FX10_weightAt
  refine Ok.ckT g (Ok.bq (a := nI (sm n (w p))) (t := t) (wq0 n (fun j => (nI (sm j (w p)), nI j)) rfl (fun j hj => ?_) ?_) (Ok.ret ⟨rfl, rfl⟩))
  · unfold SX10_weightAt_4
    dsimp only
    refine Ok.rdE h.1 (Ok.ifF (by rw [nI_leP (by omega) (by omega)]; omega) (Ok.bq (q_weightOf h g hp (by omega)) (Ok.ret ⟨rfl, ?_⟩)))
    rw [nI_add, nI_1]
    rfl
  · unfold SX10_weightAt_4
    dsimp only
    exact Ok.rdE h.1 (Ok.ifT (by rw [nI_leP (by omega) (by omega)]; omega) (Ok.ret ⟨rfl, rfl⟩))
theorem q_weightOfM {s n p : Nat} {w : Nat → Nat → Nat} {t : St} (h : RN s n w t) (hs : s < 3) (hn : n < 10) (hp : p < 9) : FX12_weightOf (nI s) (nI p) t = some (nI (sm n (w p)), t) := by
  refine Ok.eq ?_
  unfold FX12_weightOf
  refine Ok.bq (a := nI (sm n (w p))) (t := t) (wq0 n (fun j => (nI (sm j (w p)), nI j)) rfl (fun j hj => ?_) ?_) (Ok.ret ⟨rfl, rfl⟩)
  · unfold SX12_weightOf_5
    dsimp only
    refine Ok.bq (q_points h hs) (Ok.ifF (by rw [nI_leP (by omega) (by omega)]; omega) (Ok.bq (q_weight h hs hp (by omega)) (Ok.ret ⟨rfl, ?_⟩)))
    rw [nI_add, nI_1]
    rfl
  · unfold SX12_weightOf_5
    dsimp only
    exact Ok.bq (q_points h hs) (Ok.ifT (by rw [nI_leP (by omega) (by omega)]; omega) (Ok.ret ⟨rfl, rfl⟩))
theorem q_wholeWeight {x n l : Nat} {w : Nat → Nat → Nat} {t : St} (h : CN x n l w t) (g : netAt x = true) (hw : WF n w) (hn : n < 10) : FX10_wholeWeight x t = some (nI (sm n (fun p => sm n (w p)) / 2), t) := by
  refine Ok.eq ?_
  unfold FX10_wholeWeight
  have := wst_le hw hn (Nat.le_refl n)
  refine Ok.ckT g (Ok.bq (a := nI (sm n (fun p => sm n (w p)))) (t := t) (wq0 n (fun j => (nI (sm j (fun p => sm n (w p))), nI j)) rfl (fun j hj => ?_) ?_) (Ok.ret ⟨rfl, by rw [li_2, nI_divN (by omega) (by omega) (by omega)]⟩))
  · unfold SX10_wholeWeight_4
    dsimp only
    refine Ok.rdE h.1 (Ok.ifF (by rw [nI_leP (by omega) (by omega)]; omega) (Ok.bq (q_weightAt h g hn (by omega)) (Ok.ret ⟨rfl, ?_⟩)))
    rw [nI_add, nI_1]
    rfl
  · unfold SX10_wholeWeight_4
    dsimp only
    exact Ok.rdE h.1 (Ok.ifT (by rw [nI_leP (by omega) (by omega)]; omega) (Ok.ret ⟨rfl, rfl⟩))
theorem q_allM {s n : Nat} {w : Nat → Nat → Nat} {b : Int32} {t : St} (h : RN s n w t) (hs : s < 3) (hn : n < 10) : wh (SX12_look_28 (nI s) b) ((0 : Int32), (0 : Int32)) t = some (nI (sm n (fun p => sm n (w p))), t) := by
  refine wq0 n (fun j => (nI (sm j (fun p => sm n (w p))), nI j)) rfl (fun j hj => ?_) ?_
  · unfold SX12_look_28
    dsimp only
    refine Ok.bq (q_points h hs) (Ok.ifF (by rw [nI_leP (by omega) (by omega)]; omega) (Ok.bq (q_weightOfM h hs hn (by omega)) (Ok.ret ⟨rfl, ?_⟩)))
    rw [nI_add, nI_1]
    rfl
  · unfold SX12_look_28
    dsimp only
    exact Ok.bq (q_points h hs) (Ok.ifT (by rw [nI_leP (by omega) (by omega)]; omega) (Ok.ret ⟨rfl, rfl⟩))
theorem q_mostWeight {x n l : Nat} {w : Nat → Nat → Nat} {t : St} (h : CN x n l w t) (g : netAt x = true) (hw : WF n w) (hn : n < 10) : FX10_mostWeightAtPoint x t = some (nI (mxf (fun p => sm n (w p)) n), t) := by
  refine Ok.eq ?_
  unfold FX10_mostWeightAtPoint
  refine Ok.ckT g (Ok.bq (a := nI (mxf (fun p => sm n (w p)) n)) (t := t) (wq0 n (fun j => (nI (mxf (fun p => sm n (w p)) j), nI j)) rfl (fun j hj => ?_) ?_) (Ok.ret ⟨rfl, rfl⟩))
  · unfold SX10_mostWeightAtPoint_4
    dsimp only
    have a := mxf_le (f := fun p => sm n (w p)) (b := 81) (fun i => wat_le hw hn) (n := j)
    have b := wat_le (p := j) hw hn
    refine Ok.rdE h.1 (Ok.ifF (by rw [nI_leP (by omega) (by omega)]; omega) (Ok.bq (q_weightAt h g hn (by omega)) (Ok.ret ⟨rfl, ?_⟩)))
    rw [mxI_n (by omega) (by omega), nI_1]
    rfl
  · unfold SX10_mostWeightAtPoint_4
    dsimp only
    exact Ok.rdE h.1 (Ok.ifT (by rw [nI_leP (by omega) (by omega)]; omega) (Ok.ret ⟨rfl, rfl⟩))
theorem q_mostWeightM {s n : Nat} {w : Nat → Nat → Nat} {b : Int32} {t : St} (h : RN s n w t) (hs : s < 3) (hw : WF n w) (hn : n < 10) : wh (SX12_bound_66 (nI s) b) ((0 : Int32), (0 : Int32)) t = some (nI (mxf (fun p => sm n (w p)) n), t) := by
  refine wq0 n (fun j => (nI (mxf (fun p => sm n (w p)) j), nI j)) rfl (fun j hj => ?_) ?_
  · unfold SX12_bound_66
    dsimp only
    have a := mxf_le (f := fun p => sm n (w p)) (b := 81) (fun i => wat_le hw hn) (n := j)
    have b := wat_le (p := j) hw hn
    refine Ok.bq (q_points h hs) (Ok.ifF (by rw [nI_leP (by omega) (by omega)]; omega) (Ok.bq (q_weightOfM h hs hn (by omega)) (Ok.ret ⟨rfl, ?_⟩)))
    rw [mxI_n (by omega) (by omega), nI_1]
    rfl
  · unfold SX12_bound_66
    dsimp only
    exact Ok.bq (q_points h hs) (Ok.ifT (by rw [nI_leP (by omega) (by omega)]; omega) (Ok.ret ⟨rfl, rfl⟩))
theorem q_mostLines {x n l : Nat} {w : Nat → Nat → Nat} {t : St} (h : CN x n l w t) (g : netAt x = true) (hn : n < 10) : FX10_mostLinesAtPoint x t = some (nI (mxf (fun p => cnt (nr w p) 9) n), t) := by
  refine Ok.eq ?_
  unfold FX10_mostLinesAtPoint
  refine Ok.ckT g (Ok.bq (a := nI (mxf (fun p => cnt (nr w p) 9) n)) (t := t) (wq0 n (fun j => (nI (mxf (fun p => cnt (nr w p) 9) j), nI j)) rfl (fun j hj => ?_) ?_) (Ok.ret ⟨rfl, rfl⟩))
  · unfold SX10_mostLinesAtPoint_4
    dsimp only
    have a := mxf_le (f := fun p => cnt (nr w p) 9) (b := 9) (fun i => cnt_le) (n := j)
    have b : cnt (nr w j) 9 ≤ 9 := cnt_le
    have e : FX5_lineCount x (nI j) t = some (nI (cnt (nr w j) 9), t) := by
      refine Ok.eq ?_
      unfold FX5_lineCount
      refine Ok.ckT g (Ok.ckT (inb_n (by omega) (by omega)) ?_)
      rw [nI_cl (by omega)]
      exact Ok.rdE (h.2.2.1 j (by omega)) (Ok.bq (q_bitCount nr_lt) (Ok.ret ⟨rfl, rfl⟩))
    refine Ok.rdE h.1 (Ok.ifF (by rw [nI_leP (by omega) (by omega)]; omega) (Ok.bq e (Ok.ret ⟨rfl, ?_⟩)))
    rw [mxI_n (by omega) (by omega), nI_1]
    rfl
  · unfold SX10_mostLinesAtPoint_4
    dsimp only
    exact Ok.rdE h.1 (Ok.ifT (by rw [nI_leP (by omega) (by omega)]; omega) (Ok.ret ⟨rfl, rfl⟩))
theorem q_degree {s n : Nat} {w : Nat → Nat → Nat} {t : St} (h : RN s n w t) (hs : s < 3) (hw : WF n w) (hn : n < 10) : FX12_degree (nI s) t = some (nI (mxf (fun p => cnt (nr w p) 9) n), t) := by
  refine Ok.eq ?_
  unfold FX12_degree
  refine Ok.bq (a := nI (mxf (fun p => cnt (nr w p) 9) n)) (t := t) (wq0 n (fun j => (nI (mxf (fun p => cnt (nr w p) 9) j), nI j)) rfl (fun j hj => ?_) ?_) (Ok.ret ⟨rfl, rfl⟩)
  · unfold SX12_degree_4
    dsimp only
    have a := mxf_le (f := fun p => cnt (nr w p) 9) (b := 9) (fun i => cnt_le) (n := j)
    have b : cnt (nr w j) 9 ≤ 9 := cnt_le
    refine Ok.bq (q_points h hs) (Ok.ifF (by rw [nI_leP (by omega) (by omega)]; omega) (Ok.bq (q_nearOf h hs hn hw (by omega)) (Ok.bq (q_ones nr_lt) (Ok.ret ⟨rfl, ?_⟩))))
    rw [mxI_n (by omega) (by omega), nI_1]
    rfl
  · unfold SX12_degree_4
    dsimp only
    exact Ok.bq (q_points h hs) (Ok.ifT (by rw [nI_leP (by omega) (by omega)]; omega) (Ok.ret ⟨rfl, rfl⟩))
/-! the core: pure -/
def dgm (w : Nat → Nat → Nat) (S p : Nat) : Nat := cnt (nr w p &&& S) 9
theorem dgm_le {n S p : Nat} {w : Nat → Nat → Nat} (hw : WF n w) (hp : p < 9) : dgm w S p ≤ 8 := by
  have h : (nr w p &&& S).testBit p = false := by
    rw [Nat.testBit_and, nr_bit hp, hw.2.2.1]
    rfl
  have := cnt_lt hp h
  unfold dgm
  omega
theorem dgm_mn {w : Nat → Nat → Nat} {S T p : Nat} (h : ∀ k, S.testBit k = true → T.testBit k = true) : dgm w S p ≤ dgm w T p := cnt_mn (fun k hk => and_bit.mpr ⟨(and_bit.mp hk).1, h k (and_bit.mp hk).2⟩)
/-- the fewest lines in S -/
def mnd (n : Nat) (w : Nat → Nat → Nat) (S : Nat) : Nat := mns (fun p => S.testBit p) (dgm w S) 9 n
theorem mns_ge {P : Nat → Bool} {f : Nat → Nat} {T v : Nat} (hT : v ≤ T) : ∀ {n : Nat}, (∀ p, p < n → P p = true → v ≤ f p) → v ≤ mns P f T n
  | 0, _ => hT
  | n + 1, h => by
    show v ≤ if P n = true then Nat.min (mns P f T n) (f n) else mns P f T n
    have ih := mns_ge (P := P) (f := f) hT (n := n) (fun p hp => h p (by omega))
    by_cases c : P n = true
    · rw [if_pos c]; exact Nat.le_min.mpr ⟨ih, h n (by omega) c⟩
    · rw [if_neg c]; exact ih
def crf (n : Nat) (w : Nat → Nat → Nat) : Nat → Nat
  | 0 => 0
  | k + 1 => Nat.max (crf n w k) (mnd n w (k + 1))
theorem crf_ge {n S : Nat} {w : Nat → Nat → Nat} (h1 : 1 ≤ S) : ∀ {k : Nat}, S ≤ k → mnd n w S ≤ crf n w k
  | 0, h => by omega
  | k + 1, h => by
    by_cases e : S = k + 1
    · rw [e]; exact Nat.le_max_right _ _
    · exact Nat.le_trans (crf_ge h1 (k := k) (by omega)) (Nat.le_max_left _ _)
theorem crf_le {n v : Nat} {w : Nat → Nat → Nat} : ∀ {k : Nat}, (∀ S, 1 ≤ S → S ≤ k → mnd n w S ≤ v) → crf n w k ≤ v
  | 0, _ => Nat.zero_le _
  | k + 1, h => Nat.max_le.mpr ⟨crf_le (fun S h1 h2 => h S h1 (by omega)), h (k + 1) (by omega) (Nat.le_refl _)⟩
theorem gch_min {c : Nat → Nat} {S : Nat} : ∀ {n b : Nat}, gch c S n = some b → ∀ p, p < n → S.testBit p = false → c b ≤ c p
  | 0, b, h, p, hp, _ => by omega
  | n + 1, b, h, p, hp, hb => by
    have ih : ∀ {b}, gch c S n = some b → ∀ p, p < n → S.testBit p = false → c b ≤ c p := fun h => gch_min h
    rw [gch] at h
    by_cases e : S.testBit n = true
    · rw [if_pos e] at h
      have : p ≠ n := fun q => by rw [q, e] at hb; cases hb
      exact ih h p (by omega) hb
    · rw [if_neg e] at h
      cases g : gch c S n with
      | none =>
        rw [g] at h
        have h : some n = some b := h
        obtain rfl := Option.some.inj h
        by_cases q : p = n
        · rw [q]; exact Nat.le_refl _
        · obtain ⟨d, hd⟩ := gch_ex (c := c) (S := S) (n := n) ⟨p, by omega, hb⟩
          rw [g] at hd
          cases hd
      | some d =>
        rw [g] at h
        have h : (if c n < c d then some n else some d) = some b := h
        have hd := ih g
        by_cases q : c n < c d
        · rw [if_pos q] at h
          obtain rfl := Option.some.inj h
          by_cases q2 : p = n
          · rw [q2]; exact Nat.le_refl _
          · have := hd p (by omega) hb
            omega
        · rw [if_neg q] at h
          obtain rfl := Option.some.inj h
          by_cases q2 : p = n
          · rw [q2]; omega
          · exact hd p (by omega) hb
def cmp9 (L : Nat) : Nat := dif 511 L
theorem cmp9_b {L p : Nat} (hp : p < 9) : (cmp9 L).testBit p = !L.testBit p := by
  unfold cmp9
  rw [dif_bit (by omega), bit_511, decide_eq_true hp, Bool.true_and]
/-- the point with the fewest lines of those that are left -/
def fwp (n : Nat) (w : Nat → Nat → Nat) (L : Nat) : Nat := (gch (dgm w L) (cmp9 L) n).getD 0
def cls (n : Nat) (w : Nat → Nat → Nat) : Nat → Nat × Nat
  | 0 => (2 ^ n - 1, 0)
  | k + 1 => (dif (cls n w k).1 (2 ^ fwp n w (cls n w k).1), Nat.max (cls n w k).2 (dgm w (cls n w k).1 (fwp n w (cls n w k).1)))
theorem fwp_in {n L : Nat} {w : Nat → Nat → Nat} (hn : n < 10) (hL : L < 2 ^ n) (h0 : L ≠ 0) : gch (dgm w L) (cmp9 L) n = some (fwp n w L) ∧ fwp n w L < n ∧ L.testBit (fwp n w L) = true ∧ ∀ p, p < n → L.testBit p = true → dgm w L (fwp n w L) ≤ dgm w L p := by
  have hx : ∃ p, p < n ∧ (cmp9 L).testBit p = false := by
    refine Classical.byContradiction (fun q => h0 (bit_ext hL (Nat.two_pow_pos n) (fun k hk => ?_)))
    rw [Nat.zero_testBit]
    cases e : L.testBit k
    · rfl
    · exact absurd ⟨k, hk, by rw [cmp9_b (by omega), e]; rfl⟩ q
  obtain ⟨b, hb⟩ := gch_ex (c := dgm w L) hx
  have e : fwp n w L = b := by unfold fwp; rw [hb]; rfl
  obtain ⟨b1, b2⟩ := gch_in hb
  rw [e]
  refine ⟨hb, b1, ?_, fun p hp hp2 => gch_min hb p hp ?_⟩
  · rw [cmp9_b (by omega)] at b2
    cases q : L.testBit b
    · rw [q] at b2; cases b2
    · rfl
  · rw [cmp9_b (by omega), hp2]; rfl
theorem cnt_out {n L p : Nat} (hL : L < 2 ^ n) (hn : n < 10) (hp : p < n) (h : L.testBit p = true) : cnt (dif L (2 ^ p)) n + 1 = cnt L n ∧ dif L (2 ^ p) < 2 ^ n := by
  have h9 : L < 512 := Nat.lt_of_lt_of_le hL (pow9 (by omega))
  have e : dif L (2 ^ p) ||| 2 ^ p = L := by
    refine bit_ext (n := 9) (or9 (dif_lt h9) (pw9 (by omega))) h9 (fun k hk => ?_)
    rw [Nat.testBit_or, dif_bit h9, pow_bit]
    by_cases q : p = k
    · subst q; rw [h]; simp
    · simp [q]
  have f : (dif L (2 ^ p)).testBit p = false := by
    rw [dif_bit h9, pow_bit]
    simp
  have c := cnt_or (n := n) f
  rw [e, if_pos hp] at c
  exact ⟨c.symm, Nat.lt_of_le_of_lt (by unfold dif; exact Nat.and_le_left) hL⟩
theorem cls_in {n : Nat} {w : Nat → Nat → Nat} (hn : n < 10) : ∀ {k : Nat}, k ≤ n → (cls n w k).1 < 2 ^ n ∧ cnt (cls n w k).1 n = n - k
  | 0, _ => ⟨by show 2 ^ n - 1 < 2 ^ n; have := Nat.two_pow_pos n; omega, by show cnt (2 ^ n - 1) n = n - 0; rw [cnt_fl]; rfl⟩
  | k + 1, hk => by
    obtain ⟨a, b⟩ := cls_in (w := w) hn (k := k) (by omega)
    have h0 : (cls n w k).1 ≠ 0 := fun q => by rw [q, cnt_0] at b; omega
    obtain ⟨-, f1, f2, -⟩ := fwp_in (w := w) hn a h0
    have c := cnt_out a hn f1 f2
    refine ⟨c.2, ?_⟩
    show cnt (dif (cls n w k).1 (2 ^ fwp n w (cls n w k).1)) n = n - (k + 1)
    omega
theorem cls_ne {n k : Nat} {w : Nat → Nat → Nat} (hn : n < 10) (hk : k < n) : (cls n w k).1 ≠ 0 := fun q => by
  have := (cls_in (w := w) hn (k := k) (by omega)).2
  rw [q, cnt_0] at this
  omega
theorem core_eq {n : Nat} {w : Nat → Nat → Nat} (hw : WF n w) (hn : n < 10) : (cls n w n).2 = crf n w (2 ^ n - 1) := by
  have up : ∀ k, k ≤ n → (cls n w k).2 ≤ crf n w (2 ^ n - 1) := fun k => by
    induction k with
    | zero => intro _; exact Nat.zero_le _
    | succ k ih =>
      intro hk
      obtain ⟨a, b⟩ := cls_in (w := w) hn (k := k) (by omega)
      have h0 := cls_ne (w := w) hn (k := k) (by omega)
      obtain ⟨-, f1, f2, f3⟩ := fwp_in (w := w) hn a h0
      refine Nat.max_le.mpr ⟨ih (by omega), ?_⟩
      refine Nat.le_trans ?_ (crf_ge (n := n) (w := w) (S := (cls n w k).1) (by omega) (k := 2 ^ n - 1) (by omega))
      exact mns_ge (by have := dgm_le (S := (cls n w k).1) (p := fwp n w (cls n w k).1) hw (by omega); omega) (fun p hp hb => f3 p hp hb)
  refine Nat.le_antisymm (up n (Nat.le_refl _)) (crf_le (fun S h1 h2 => ?_))
  have dn : ∀ k, k ≤ n → (∀ t, S.testBit t = true → (cls n w k).1.testBit t = true) ∨ mnd n w S ≤ (cls n w k).2 := fun k => by
    induction k with
    | zero =>
      intro _
      refine Or.inl (fun t ht => ?_)
      show (2 ^ n - 1).testBit t = true
      rw [Nat.testBit_two_pow_sub_one]
      by_cases q : t < n
      · exact decide_eq_true q
      · rw [lt_pow_bit (n := n) (by have := Nat.two_pow_pos n; omega) (by omega)] at ht
        cases ht
    | succ k ih =>
      intro hk
      rcases ih (by omega) with h | h
      · obtain ⟨a, b⟩ := cls_in (w := w) hn (k := k) (by omega)
        have h0 := cls_ne (w := w) hn (k := k) (by omega)
        obtain ⟨-, f1, f2, f3⟩ := fwp_in (w := w) hn a h0
        have h9 : (cls n w k).1 < 512 := Nat.lt_of_lt_of_le a (pow9 (by omega))
        by_cases q : S.testBit (fwp n w (cls n w k).1) = true
        · refine Or.inr (Nat.le_trans ?_ (Nat.le_max_right _ _))
          exact Nat.le_trans (mns_lb (P := fun p => S.testBit p) f1 q) (dgm_mn h)
        · refine Or.inl (fun t ht => ?_)
          show (dif (cls n w k).1 (2 ^ fwp n w (cls n w k).1)).testBit t = true
          rw [dif_b h9, pow_bit]
          refine ⟨h t ht, decide_eq_false (fun e => q ?_)⟩
          rw [e]; exact ht
      · exact Or.inr (Nat.le_trans h (Nat.le_max_left _ _))
  rcases dn n (Nat.le_refl _) with h | h
  · have z := (cls_in (w := w) hn (k := n) (Nat.le_refl _))
    have e0 : S = 0 := by
      refine bit_ext (n := n) (by omega) (Nat.two_pow_pos n) (fun k hk => ?_)
      rw [Nat.zero_testBit]
      cases q : S.testBit k
      · rfl
      · have h1 := h k q
        have h3 : 1 ≤ cnt (cls n w n).1 n := by
          have := cnt_mn (S := 2 ^ k) (T := (cls n w n).1) (n := n) (fun j hj => by
            rw [pow_bit] at hj
            rw [← of_decide_eq_true hj]
            exact h1)
          have := cnt_1 hk
          omega
        omega
    omega
  · exact h
theorem q_fewest {x n l L : Nat} {w : Nat → Nat → Nat} {t : St} (h : CN x n l w t) (g : netAt x = true) (hw : WF n w) (hn : n < 10) (hL : L < 512) : FX10_fewestLines x (nI L) (nI L) t = some (oI (gch (dgm w L) (cmp9 L) n), t) := by
  refine Ok.eq ?_
  unfold FX10_fewestLines
  refine Ok.ckT g (Ok.bq (a := oI (gch (dgm w L) (cmp9 L) n)) (t := t) (wq0 n (fun j => (oI (gch (dgm w L) (cmp9 L) j), Option.elim (gch (dgm w L) (cmp9 L) j) (nI 9) (fun b => nI (dgm w L b)), nI j)) rfl (fun j hj => ?_) ?_) (Ok.ret ⟨rfl, rfl⟩))
  · unfold SX10_fewestLines_9
    dsimp only
    have dj := dgm_le (S := L) (p := j) hw (by omega)
    refine Ok.rdE h.1 (Ok.ifF (by rw [nI_leP (by omega) (by omega)]; omega) (Ok.ckT (inb_n (by omega) (by omega)) ?_))
    rw [nI_cl (by omega)]
    refine Ok.rdE (h.2.2.1 j (by omega)) ?_
    rw [nI_and]
    refine Ok.bq (q_bitCount (and9 nr_lt)) ?_
    show Ok (bnd (if shr (nI L) (nI j) &&& 1 = 0 then _ else if _ ≤ nI (dgm w L j) then _ else some ((nI j, nI (dgm w L j)), t)) _) _
    refine Ok.bq (a := (oI (gch (dgm w L) (cmp9 L) (j + 1)), Option.elim (gch (dgm w L) (cmp9 L) (j + 1)) (nI 9) (fun b => nI (dgm w L b)))) (t := t) (Ok.eq ?_) (Ok.ret ⟨rfl, by rw [nI_1]⟩)
    rw [gch, cmp9_b (by omega)]
    refine Ok.cv (bitn (by omega) (by omega)) (Ok.ite (fun c => Ok.ret ⟨rfl, ?_⟩) (fun c => ?_))
    · rw [c]; rfl
    · rw [bT c, if_neg (c := (!true) = true) (by decide)]
      cases e : gch (dgm w L) (cmp9 L) j with
      | none =>
        refine Ok.ifF ?_ (Ok.ret ⟨rfl, rfl⟩)
        show ¬ nI 9 ≤ _
        rw [nI_leP (by omega) (by omega)]
        omega
      | some b =>
        have db := dgm_le (S := L) (p := b) hw (by have := (gch_in e).1; omega)
        show Ok (if nI (dgm w L b) ≤ nI (dgm w L j) then _ else _) (fun r u => t = u ∧ r = (oI (if dgm w L j < dgm w L b then some j else some b), Option.elim (if dgm w L j < dgm w L b then some j else some b) (nI 9) (fun b => nI (dgm w L b))))
        refine Ok.cv (nI_leP (by omega) (by omega)) (Ok.ite (fun c => Ok.ret ⟨rfl, ?_⟩) (fun c => Ok.ret ⟨rfl, ?_⟩))
        · rw [if_neg (by omega)]
        · rw [if_pos (by omega)]; rfl
  · unfold SX10_fewestLines_9
    dsimp only
    exact Ok.rdE h.1 (Ok.ifT (by rw [nI_leP (by omega) (by omega)]; omega) (Ok.ret ⟨rfl, rfl⟩))
theorem cls_2 {n : Nat} {w : Nat → Nat → Nat} (hw : WF n w) (hn : n < 10) : ∀ {k : Nat}, k ≤ n → (cls n w k).2 ≤ 8
  | 0, _ => Nat.zero_le _
  | k + 1, hk => by
    obtain ⟨a, b⟩ := cls_in (w := w) hn (k := k) (by omega)
    obtain ⟨-, f1, f2, f3⟩ := fwp_in (w := w) hn a (cls_ne hn (by omega))
    exact Nat.max_le.mpr ⟨cls_2 hw hn (by omega), dgm_le hw (by omega)⟩
theorem q_core {x n l : Nat} {w : Nat → Nat → Nat} {t : St} (h : CN x n l w t) (g : netAt x = true) (hw : WF n w) (hn : n < 10) : FX10_core x t = some (nI (crf n w (2 ^ n - 1)), t) := by
  refine Ok.eq ?_
  unfold FX10_core
  rw [← core_eq hw hn]
  refine Ok.ckT g (Ok.bd (fun r u => t = u ∧ r = nI (2 ^ n - 1)) (e_allBits h hn g ⟨rfl, rfl⟩) ?_)
  rintro _ _ ⟨rfl, rfl⟩
  refine Ok.bq (a := (Sum.inr (nI (cls n w n).2) : Int32 ⊕ Int32)) (t := t) (wq0 n (fun k => (nI (cls n w k).1, nI (cls n w k).2, nI k)) rfl (fun k hk => ?_) ?_) (Ok.ret ⟨rfl, rfl⟩)
  · unfold SX10_core_9
    dsimp only
    obtain ⟨a, b⟩ := cls_in (w := w) hn (k := k) (by omega)
    obtain ⟨f0, f1, f2, f3⟩ := fwp_in (w := w) hn a (cls_ne hn hk)
    have h9 : (cls n w k).1 < 512 := Nat.lt_of_lt_of_le a (pow9 (by omega))
    have c2 := cls_2 hw hn (k := k) (by omega)
    have d8 := dgm_le (S := (cls n w k).1) (p := fwp n w (cls n w k).1) hw (by omega)
    refine Ok.rdE h.1 (Ok.ifF (by rw [nI_leP (by omega) (by omega)]; omega) (Ok.bq (q_fewest h g hw hn h9) ?_))
    rw [f0]
    refine Ok.ifF (n1n (by omega)) (Ok.ckT (inb_n (by omega) (by omega)) ?_)
    show Ok (rdb t (x + 1) (nI (fwp n w (cls n w k).1)).toNatClampNeg _) _
    rw [nI_cl (by omega)]
    refine Ok.rdE (h.2.2.1 _ (by omega)) ?_
    rw [nI_and]
    refine Ok.bq (q_bitCount (and9 nr_lt)) (Ok.ret ⟨rfl, ?_⟩)
    show _ = Sum.inl (nI (dif (cls n w k).1 (2 ^ fwp n w (cls n w k).1)), nI (Nat.max (cls n w k).2 (dgm w (cls n w k).1 (fwp n w (cls n w k).1))), nI (k + 1))
    rw [← mxI_n (by omega) (by omega), ← nI_dif h9 (pw9 (by omega)), ← nI_1]
    show Sum.inl (nI (cls n w k).1 &&& (shl 1 (nI (fwp n w (cls n w k).1)) ^^^ -1), _, _) = _
    rw [li_1, shl_1b (by omega)]
    rfl
  · unfold SX10_core_9
    dsimp only
    exact Ok.rdE h.1 (Ok.ifT (by rw [nI_leP (by omega) (by omega)]; omega) (Ok.ret ⟨rfl, rfl⟩))
theorem mnd_le {n S : Nat} {w : Nat → Nat → Nat} : mnd n w S ≤ 9 := mns_le
theorem crf_9 {n k : Nat} {w : Nat → Nat → Nat} : crf n w k ≤ 9 := crf_le (fun _ _ _ => mnd_le)
theorem q_coreM {s n : Nat} {w : Nat → Nat → Nat} {t : St} (h : RN s n w t) (hs : s < 3) (hw : WF n w) (hn : n < 10) : FX12_core (nI s) t = some (nI (crf n w (2 ^ n - 1)), t) := by
  have p9 := pow9 (k := n) (by omega)
  have p0 := Nat.two_pow_pos n
  refine Ok.eq ?_
  unfold FX12_core
  refine Ok.bq (a := nI (crf n w (2 ^ n - 1))) (t := t) (wq0 (2 ^ n - 1) (fun j => (nI (crf n w j), nI (j + 1))) rfl (fun j hj => ?_) ?_) (Ok.ret ⟨rfl, rfl⟩)
  · unfold SX12_core_4
    dsimp only
    refine Ok.bq (q_points h hs) ?_
    rw [li_1, shl_1b (by omega)]
    refine Ok.ifF (by rw [nI_leP (by omega) (by omega)]; omega) ?_
    have md := mnd_le (n := n) (S := j + 1) (w := w)
    have cr := crf_9 (n := n) (k := j) (w := w)
    refine Ok.bq (a := nI (mnd n w (j + 1))) (t := t) (wq0 n (fun i => (nI (mns (fun p => (j + 1).testBit p) (dgm w (j + 1)) 9 i), nI i)) rfl (fun i hi => ?_) ?_) (Ok.ret ⟨rfl, ?_⟩)
    · unfold SX12_core_22
      dsimp only
      have m9 : mns (fun p => (j + 1).testBit p) (dgm w (j + 1)) 9 i ≤ 9 := mns_le
      have d8 := dgm_le (S := j + 1) (p := i) hw (by omega)
      refine Ok.bq (q_points h hs) (Ok.ifF (by rw [nI_leP (by omega) (by omega)]; omega) (Ok.bq (q_has (by omega) (by omega)) ?_))
      refine Ok.bq (a := nI (mns (fun p => (j + 1).testBit p) (dgm w (j + 1)) 9 (i + 1))) (t := t) (Ok.eq ?_) (Ok.ret ⟨rfl, by rw [nI_1]⟩)
      show Ok _ (fun r u => t = u ∧ r = nI (if (j + 1).testBit i = true then Nat.min (mns (fun p => (j + 1).testBit p) (dgm w (j + 1)) 9 i) (dgm w (j + 1) i) else mns (fun p => (j + 1).testBit p) (dgm w (j + 1)) 9 i))
      refine Ok.cv b01 (Ok.ite (fun c => Ok.ret ⟨rfl, by rw [if_neg (by rw [c]; decide)]⟩) (fun c => Ok.bq (q_nearOf h hs hn hw (by omega)) ?_))
      rw [nI_and]
      refine Ok.bq (q_ones (and9 nr_lt)) (Ok.ret ⟨rfl, ?_⟩)
      rw [if_pos (bT c)]
      exact mnI_n (b := dgm w (j + 1) i) (by omega) (by omega)
    · unfold SX12_core_22
      dsimp only
      exact Ok.bq (q_points h hs) (Ok.ifT (by rw [nI_leP (by omega) (by omega)]; omega) (Ok.ret ⟨rfl, rfl⟩))
    · rw [mxI_n (by omega) (by omega), ← li_1, nI_1]
      rfl
  · unfold SX12_core_4
    dsimp only
    refine Ok.bq (q_points h hs) ?_
    rw [li_1, shl_1b (by omega)]
    exact Ok.ifT (by rw [nI_leP (by omega) (by omega)]; omega) (Ok.ret ⟨rfl, rfl⟩)
end
section
/-! ways, parts, the diameter, balls; look, bound (wip/sim/g99e.py) -/
theorem gsq_stn {n a : Nat} {w : Nat → Nat → Nat} (hw : WF n w) (ha : a < n) : gsq n w (2 ^ a) n = gsq n w (2 ^ a) (n - 1) := by
  refine Classical.byContradiction (fun q => ?_)
  have h : ∀ i, i < n → gsq n w (2 ^ a) (i + 1) ≠ gsq n w (2 ^ a) i := fun i hi e => q (by
    have s1 := gsq_st e (j := n - i)
    have s2 := gsq_st e (j := n - 1 - i)
    rw [show i + (n - i) = n by omega] at s1
    rw [show i + (n - 1 - i) = n - 1 by omega] at s2
    rw [s1, s2])
  have c := gsq_cnt hw (pw_n ha) (cnt_1 ha) h
  have c2 : cnt (gsq n w (2 ^ a) n) n ≤ n := cnt_le
  omega
/-- all that can be reached -/
def rch (n : Nat) (w : Nat → Nat → Nat) (a : Nat) : Nat := gsq n w (2 ^ a) (n - 1)
theorem rch_self {n a : Nat} {w : Nat → Nat → Nat} : (rch n w a).testBit a = true := gsq_up (j := 0) (by show (2 ^ a).testBit a = true; rw [pow_bit]; exact decide_eq_true rfl) (Nat.zero_le _)
theorem rch_cl {n a : Nat} {w : Nat → Nat → Nat} (hw : WF n w) (ha : a < n) : grw n w (rch n w a) = rch n w a := by
  have h := gsq_stn hw ha
  obtain ⟨m, rfl⟩ : ∃ m, n = m + 1 := ⟨n - 1, by omega⟩
  exact h
theorem grw_mn {n S T : Nat} {w : Nat → Nat → Nat} (h : ∀ k, S.testBit k = true → T.testBit k = true) : ∀ k, (grw n w S).testBit k = true → (grw n w T).testBit k = true := fun k hk => by
  rcases grw_b.mp hk with q | ⟨i, i1, i2, i3⟩
  · exact grw_b.mpr (Or.inl (h k q))
  · exact grw_b.mpr (Or.inr ⟨i, i1, h i i2, i3⟩)
theorem gsq_sub {n S T : Nat} {w : Nat → Nat → Nat} (hT : grw n w T = T) (h : ∀ k, S.testBit k = true → T.testBit k = true) : ∀ {j : Nat} (k : Nat), (gsq n w S j).testBit k = true → T.testBit k = true
  | 0, k, hk => h k hk
  | j + 1, k, hk => by
    rw [← hT]
    exact grw_mn (fun k hk => gsq_sub hT h k hk) k hk
theorem rch_tr {n a b : Nat} {w : Nat → Nat → Nat} (hw : WF n w) (ha : a < n) (h : (rch n w a).testBit b = true) : ∀ k, (rch n w b).testBit k = true → (rch n w a).testBit k = true := gsq_sub (rch_cl hw ha) (fun k hk => by
  rw [pow_bit] at hk
  rw [← of_decide_eq_true hk]
  exact h)
theorem dst_9 {n a b : Nat} {w : Nat → Nat → Nat} (hn : n < 10) (ha : a < n) : dst n w a b = 9 ↔ (rch n w a).testBit b = false := by
  rcases dst_in (a := a) (b := b) (w := w) hn with ⟨h, g⟩ | ⟨h, g, -⟩
  · exact ⟨fun _ => g (n - 1) (by omega), fun _ => h⟩
  · have : (rch n w a).testBit b = true := gsq_up g (by omega)
    exact ⟨fun q => by omega, fun q => by rw [this] at q; cases q⟩
/-! a way there is a way back -/
def Ew (n : Nat) (w : Nat → Nat → Nat) (k a b : Nat) : Prop := (gsq n w (2 ^ a) k).testBit b = true
theorem Ew_0 {n a b : Nat} {w : Nat → Nat → Nat} : Ew n w 0 a b ↔ a = b := by
  show (2 ^ a).testBit b = true ↔ a = b
  rw [pow_bit, decide_eq_true_eq]
theorem Ew_r {n k a b : Nat} {w : Nat → Nat → Nat} (hw : WF n w) (hn : n < 10) : Ew n w (k + 1) a b ↔ Ew n w k a b ∨ ∃ i, Ew n w k a i ∧ 0 < w i b := by
  show (grw n w (gsq n w (2 ^ a) k)).testBit b = true ↔ _
  rw [grw_b]
  constructor
  · rintro (h | ⟨i, i1, i2, i3⟩)
    · exact Or.inl h
    · exact Or.inr ⟨i, i2, (nr_b hw hn).mp i3⟩
  · rintro (h | ⟨i, i2, i3⟩)
    · exact Or.inl h
    · exact Or.inr ⟨i, (hw.b i3).1, i2, (nr_b hw hn).mpr i3⟩
theorem Ew_l {n : Nat} {w : Nat → Nat → Nat} (hw : WF n w) (hn : n < 10) : ∀ {k a b : Nat}, Ew n w (k + 1) a b ↔ Ew n w k a b ∨ ∃ i, 0 < w a i ∧ Ew n w k i b
  | 0, a, b => by
    rw [Ew_r hw hn]
    constructor
    · rintro (h | ⟨i, i1, i2⟩)
      · exact Or.inl h
      · rw [Ew_0] at i1
        subst i1
        exact Or.inr ⟨b, i2, Ew_0.mpr rfl⟩
    · rintro (h | ⟨i, i1, i2⟩)
      · exact Or.inl h
      · rw [Ew_0] at i2
        subst i2
        exact Or.inr ⟨a, Ew_0.mpr rfl, i1⟩
  | k + 1, a, b => by
    constructor
    · intro h
      rcases (Ew_r hw hn).mp h with h | ⟨i, i1, i2⟩
      · exact Or.inl h
      · rcases (Ew_l hw hn).mp i1 with j1 | ⟨j, j1, j2⟩
        · exact Or.inl ((Ew_r hw hn).mpr (Or.inr ⟨i, j1, i2⟩))
        · exact Or.inr ⟨j, j1, (Ew_r hw hn).mpr (Or.inr ⟨i, j2, i2⟩)⟩
    · rintro (h | ⟨i, i1, i2⟩)
      · exact (Ew_r hw hn).mpr (Or.inl h)
      · rcases (Ew_r hw hn).mp i2 with j1 | ⟨j, j1, j2⟩
        · exact (Ew_r hw hn).mpr (Or.inl ((Ew_l hw hn).mpr (Or.inr ⟨i, i1, j1⟩)))
        · exact (Ew_r hw hn).mpr (Or.inr ⟨j, (Ew_l hw hn).mpr (Or.inr ⟨i, i1, j1⟩), j2⟩)
theorem Ew_s {n : Nat} {w : Nat → Nat → Nat} (hw : WF n w) (hn : n < 10) : ∀ {k a b : Nat}, Ew n w k a b → Ew n w k b a
  | 0, a, b, h => Ew_0.mpr (Ew_0.mp h).symm
  | k + 1, a, b, h => by
    rcases (Ew_r hw hn).mp h with h | ⟨i, i1, i2⟩
    · exact (Ew_r hw hn).mpr (Or.inl (Ew_s hw hn h))
    · exact (Ew_l hw hn).mpr (Or.inr ⟨i, by rw [hw.2.1]; exact i2, Ew_s hw hn i1⟩)
theorem dst_sy {n a b : Nat} {w : Nat → Nat → Nat} (hw : WF n w) (hn : n < 10) : dst n w a b = dst n w b a := by
  have e : ∀ k, (gsq n w (2 ^ a) k).testBit b = (gsq n w (2 ^ b) k).testBit a := fun k => by
    have h1 : Ew n w k a b → Ew n w k b a := Ew_s hw hn
    have h2 : Ew n w k b a → Ew n w k a b := Ew_s hw hn
    unfold Ew at h1 h2
    cases p : (gsq n w (2 ^ a) k).testBit b
    · cases q : (gsq n w (2 ^ b) k).testBit a
      · rfl
      · rw [h2 q] at p; cases p
    · rw [h1 p]
  unfold dst
  have : (fun k => (gsq n w (2 ^ a) k).testBit b) = (fun k => (gsq n w (2 ^ b) k).testBit a) := funext e
  rw [this]
theorem dst_0 {n a : Nat} {w : Nat → Nat → Nat} (hn : n < 10) (ha : a < n) : dst n w a a = 0 := fsf_eq (by omega) (by omega) (by show (2 ^ a).testBit a = true; rw [pow_bit]; exact decide_eq_true rfl) (fun j hj => by omega)
/-! parts -/
def al (P : Nat → Bool) : Nat → Bool
  | 0 => true
  | k + 1 => al P k && P k
theorem al_iff {P : Nat → Bool} : ∀ {n : Nat}, al P n = true ↔ ∀ k, k < n → P k = true
  | 0 => ⟨fun _ k hk => by omega, fun _ => rfl⟩
  | n + 1 => by
    show (al P n && P n) = true ↔ _
    rw [Bool.and_eq_true, al_iff]
    constructor
    · rintro ⟨a, b⟩ k hk
      by_cases e : k = n
      · rw [e]; exact b
      · exact a k (by omega)
    · intro h
      exact ⟨fun k hk => h k (by omega), h n (Nat.lt_succ_self n)⟩
def pfl (n : Nat) (w : Nat → Nat → Nat) (p j : Nat) : Bool := al (fun q => decide (dst n w q p = 9)) j
def prf (n : Nat) (w : Nat → Nat → Nat) (k : Nat) : Nat := sm k (fun p => if pfl n w p p = true then 1 else 0)
def pcs (n : Nat) (w : Nat → Nat → Nat) : Nat → Nat × Nat
  | 0 => (0, 0)
  | p + 1 => if (pcs n w p).2.testBit p = true then pcs n w p else ((pcs n w p).1 + 1, (pcs n w p).2 ||| rch n w p)
theorem pcs_in {n : Nat} {w : Nat → Nat → Nat} (hw : WF n w) (hn : n < 10) : ∀ {k : Nat}, k ≤ n → (pcs n w k).1 = prf n w k ∧ (pcs n w k).2 < 512 ∧ ∀ t, (pcs n w k).2.testBit t = true ↔ ∃ q, q < k ∧ (rch n w q).testBit t = true
  | 0, _ => ⟨rfl, by show 0 < 512; omega, fun t => ⟨fun h => (by rw [show (pcs n w 0).2 = 0 from rfl, Nat.zero_testBit] at h; cases h), fun ⟨q, hq, _⟩ => by omega⟩⟩
  | p + 1, hk => by
    obtain ⟨a, b, c⟩ := pcs_in hw hn (k := p) (by omega)
    have ep : prf n w (p + 1) = prf n w p + (if pfl n w p p = true then 1 else 0) := rfl
    have fp : pfl n w p p = true ↔ ¬ (pcs n w p).2.testBit p = true := by
      unfold pfl
      rw [al_iff, c]
      constructor
      · rintro h ⟨q, hq, hb⟩
        have := (dst_9 hn (by omega)).mp (of_decide_eq_true (h q hq))
        rw [hb] at this
        cases this
      · intro h q hq
        refine decide_eq_true ((dst_9 hn (by omega)).mpr ?_)
        cases e : (rch n w q).testBit p
        · rfl
        · exact absurd ⟨q, hq, e⟩ h
    by_cases e : (pcs n w p).2.testBit p = true
    · have e1 : pcs n w (p + 1) = pcs n w p := if_pos e
      rw [e1, ep, if_neg (fun q => fp.mp q e)]
      refine ⟨a, b, fun t => ?_⟩
      rw [c]
      constructor
      · rintro ⟨q, hq, h⟩
        exact ⟨q, by omega, h⟩
      · rintro ⟨q, hq, h⟩
        by_cases q2 : q = p
        · subst q2
          obtain ⟨q3, hq3, h3⟩ := (c q).mp e
          exact ⟨q3, hq3, rch_tr hw (by omega) h3 t h⟩
        · exact ⟨q, by omega, h⟩
    · have e1 : pcs n w (p + 1) = ((pcs n w p).1 + 1, (pcs n w p).2 ||| rch n w p) := if_neg e
      rw [e1, ep, if_pos (fp.mpr e)]
      refine ⟨by rw [a], or9 b (gsq_9 hw hn (pw_n (by omega))), fun t => ?_⟩
      show ((pcs n w p).2 ||| rch n w p).testBit t = true ↔ _
      rw [or_b, c]
      constructor
      · rintro (⟨q, hq, h⟩ | h)
        · exact ⟨q, by omega, h⟩
        · exact ⟨p, by omega, h⟩
      · rintro ⟨q, hq, h⟩
        by_cases q2 : q = p
        · subst q2; exact Or.inr h
        · exact Or.inl ⟨q, by omega, h⟩
theorem q_partOf {x n l p : Nat} {w : Nat → Nat → Nat} {t : St} (h : CN x n l w t) (g : netAt x = true) (hw : WF n w) (hn : n < 10) (hp : p < n) : FX10_partOf x (nI p) t = some (nI (rch n w p), t) := by
  refine Ok.eq ?_
  unfold FX10_partOf
  refine Ok.ckT g (Ok.bq (a := nI (rch n w p)) (t := t) (wq0 (n - 1) (fun j => (nI (gsq n w (2 ^ p) j), nI (j + 1))) (by rw [li_1, shl_1b (by omega)]; rfl) (fun j hj => ?_) ?_) (Ok.ret ⟨rfl, rfl⟩))
  · unfold SX10_partOf_6
    dsimp only
    refine Ok.rdE h.1 (Ok.ifF (by rw [nI_leP (by omega) (by omega)]; omega) (Ok.bq (q_grown h g hn (gsq_9 hw hn (pw_n hp))) (Ok.ret ⟨rfl, ?_⟩)))
    rw [nI_1]
    rfl
  · unfold SX10_partOf_6
    dsimp only
    exact Ok.rdE h.1 (Ok.ifT (by rw [nI_leP (by omega) (by omega)]; omega) (Ok.ret ⟨rfl, rfl⟩))
theorem q_partCount {x n l : Nat} {w : Nat → Nat → Nat} {t : St} (h : CN x n l w t) (g : netAt x = true) (hw : WF n w) (hn : n < 10) : FX10_partCount x t = some (nI (prf n w n), t) := by
  refine Ok.eq ?_
  unfold FX10_partCount
  rw [← (pcs_in hw hn (Nat.le_refl n)).1]
  refine Ok.ckT g (Ok.bq (a := nI (pcs n w n).1) (t := t) (wq0 n (fun j => (nI (pcs n w j).1, nI (pcs n w j).2, nI j)) rfl (fun j hj => ?_) ?_) (Ok.ret ⟨rfl, rfl⟩))
  · unfold SX10_partCount_6
    dsimp only
    have b := (pcs_in hw hn (k := j) (by omega)).2.1
    refine Ok.rdE h.1 (Ok.ifF (by rw [nI_leP (by omega) (by omega)]; omega) ?_)
    refine Ok.bq (a := (nI (pcs n w (j + 1)).1, nI (pcs n w (j + 1)).2)) (t := t) (Ok.eq ?_) (Ok.ret ⟨rfl, by rw [nI_1]⟩)
    rw [pcs]
    refine Ok.cv (bitn (by omega) (by omega)) (Ok.ite (fun c => Ok.bq (q_partOf h g hw hn hj) (Ok.ret ⟨rfl, ?_⟩)) (fun c => Ok.ret ⟨rfl, ?_⟩))
    · rw [if_neg (c := (pcs n w j).2.testBit j = true) (by rw [c]; decide), nI_1, nI_or]
    · rw [if_pos (bT c)]
  · unfold SX10_partCount_6
    dsimp only
    exact Ok.rdE h.1 (Ok.ifT (by rw [nI_leP (by omega) (by omega)]; omega) (Ok.ret ⟨rfl, rfl⟩))
theorem dI_m1 {d : Nat} (hd : d ≤ 9) : (dI d = -1) = (d = 9) := by
  have : dI 9 = -1 := rfl
  rw [← this]
  exact dI_eq hd (Nat.le_refl 9)
theorem q_parts {s n : Nat} {w : Nat → Nat → Nat} {t : St} (h : RN s n w t) (hs : s < 3) (hw : WF n w) (hn : n < 10) : FX12_parts (nI s) t = some (nI (prf n w n), t) := by
  refine Ok.eq ?_
  unfold FX12_parts
  refine Ok.bq (a := nI (prf n w n)) (t := t) (wq0 n (fun j => (nI (prf n w j), nI j)) rfl (fun j hj => ?_) ?_) (Ok.ret ⟨rfl, rfl⟩)
  · unfold SX12_parts_4
    dsimp only
    refine Ok.bq (q_points h hs) (Ok.ifF (by rw [nI_leP (by omega) (by omega)]; omega) ?_)
    refine Ok.bq (a := nI (pfl n w j j).toNat) (t := t) (wq0 j (fun i => (nI (pfl n w j i).toNat, nI i)) rfl (fun i hi => ?_) ?_) ?_
    · unfold SX12_parts_19
      dsimp only
      refine Ok.ifF (by rw [nI_leP (by omega) (by omega)]; omega) ?_
      refine Ok.bq (a := nI (pfl n w j (i + 1)).toNat) (t := t) (Ok.eq ?_) (Ok.ret ⟨rfl, by rw [nI_1]⟩)
      show Ok _ (fun r u => t = u ∧ r = nI (pfl n w j i && decide (dst n w i j = 9)).toNat)
      refine Ok.cv b01 (Ok.ite (fun c => Ok.ret ⟨rfl, by rw [c]; rfl⟩) (fun c => Ok.bq (q_farOf h hs hw hn (by omega) hj) (Ok.cv (dI_m1 (dst_le hn)) (Ok.ite (fun c2 => Ok.ret ⟨rfl, ?_⟩) (fun c2 => Ok.ret ⟨rfl, ?_⟩)))))
      · rw [bT c, decide_eq_true c2]; rfl
      · rw [bT c, decide_eq_false c2]; rfl
    · unfold SX12_parts_19
      dsimp only
      exact Ok.ifT (by rw [nI_leP (by omega) (by omega)]; omega) (Ok.ret ⟨rfl, rfl⟩)
    · refine Ok.bq (a := nI (if pfl n w j j = true then 1 else 0)) (t := t) (Ok.eq (Ok.cv b01 (Ok.ite (fun c => Ok.ret ⟨rfl, ?_⟩) (fun c => Ok.ret ⟨rfl, ?_⟩)))) (Ok.ret ⟨rfl, ?_⟩)
      · rw [c]; rfl
      · rw [bT c]; rfl
      · rw [nI_add, nI_1]
        rfl
  · unfold SX12_parts_4
    dsimp only
    exact Ok.bq (q_points h hs) (Ok.ifT (by rw [nI_leP (by omega) (by omega)]; omega) (Ok.ret ⟨rfl, rfl⟩))
/-! the diameter -/
def DMS (n : Nat) (w : Nat → Nat → Nat) (r : Int32) : Prop := (∃ a b, a < n ∧ b < n ∧ dst n w a b = 9 ∧ r = -1) ∨ ((∀ a b, a < n → b < n → dst n w a b ≠ 9) ∧ ∃ M, r = nI M ∧ (∀ a b, a < n → b < n → dst n w a b ≤ M) ∧ (M = 0 ∨ ∃ a b, a < n ∧ b < n ∧ dst n w a b = M))
theorem DMS.uq {n : Nat} {w : Nat → Nat → Nat} {r q : Int32} (h : DMS n w r) (g : DMS n w q) : r = q := by
  rcases h with ⟨a, b, a1, b1, e, rfl⟩ | ⟨h1, M, rfl, h2, h3⟩
  · rcases g with ⟨-, -, -, -, -, rfl⟩ | ⟨g1, -⟩
    · rfl
    · exact absurd e (g1 a b a1 b1)
  · rcases g with ⟨a, b, a1, b1, e, rfl⟩ | ⟨g1, N, rfl, g2, g3⟩
    · exact absurd e (h1 a b a1 b1)
    · have l1 : M ≤ N := by
        rcases h3 with rfl | ⟨a, b, a1, b1, e⟩
        · exact Nat.zero_le _
        · rw [← e]; exact g2 a b a1 b1
      have l2 : N ≤ M := by
        rcases g3 with rfl | ⟨a, b, a1, b1, e⟩
        · exact Nat.zero_le _
        · rw [← e]; exact h2 a b a1 b1
      rw [show M = N by omega]
theorem dst_8 {n a b : Nat} {w : Nat → Nat → Nat} (hn : n < 10) (h : dst n w a b ≠ 9) : dst n w a b < 9 := by
  have := dst_le (a := a) (b := b) (w := w) hn
  omega
theorem mx_at {M d : Nat} : Nat.max M d = M ∨ Nat.max M d = d := by
  rcases Nat.le_total M d with c | c
  · exact Or.inr (Nat.max_eq_right c)
  · exact Or.inl (Nat.max_eq_left c)
theorem q_diameter {x n l : Nat} {w : Nat → Nat → Nat} {t : St} (h : CN x n l w t) (g : netAt x = true) (hw : WF n w) (hn : n < 10) : Ok (FX10_diameter x t) (fun r u => t = u ∧ DMS n w r) := by
  unfold FX10_diameter
  refine Ok.ckT g (Ok.bd (fun r u => t = u ∧ Sum.elim (fun v => DMS n w v) (fun v => DMS n w v) r) ?_ ?_)
  · refine Ok.count n (fun j c s => t = s ∧ ∃ M, c = (nI M, nI j) ∧ M ≤ 9 ∧ (∀ a b, a < j → b < a → dst n w a b ≠ 9 ∧ dst n w a b ≤ M) ∧ (M = 0 ∨ ∃ a b, a < n ∧ b < n ∧ dst n w a b = M)) ?_ ?_ (Nat.zero_le _) ⟨rfl, 0, rfl, by omega, fun a b ha => by omega, Or.inl rfl⟩
    · rintro j c s hj ⟨rfl, M, rfl, M9, hI, hJ⟩
      unfold SX10_diameter_4
      dsimp only
      refine Ok.rdE h.1 (Ok.ifF (by rw [nI_leP (by omega) (by omega)]; omega) ?_)
      refine Ok.bd (fun r u => t = u ∧ Sum.elim (fun v => DMS n w v) (fun v => ∃ N, v = nI N ∧ N ≤ 9 ∧ M ≤ N ∧ (∀ b, b < j → dst n w j b ≠ 9 ∧ dst n w j b ≤ N) ∧ (N = 0 ∨ ∃ a b, a < n ∧ b < n ∧ dst n w a b = N)) r) ?_ ?_
      · refine Ok.count j (fun i c s => t = s ∧ ∃ N, c = (nI N, nI i) ∧ N ≤ 9 ∧ M ≤ N ∧ (∀ b, b < i → dst n w j b ≠ 9 ∧ dst n w j b ≤ N) ∧ (N = 0 ∨ ∃ a b, a < n ∧ b < n ∧ dst n w a b = N)) ?_ ?_ (Nat.zero_le _) ⟨rfl, M, rfl, M9, Nat.le_refl _, fun b hb => by omega, hJ⟩
        · rintro i c s hi ⟨rfl, N, rfl, N9, hMN, hI2, hJ2⟩
          unfold SX10_diameter_14
          dsimp only
          have d9 := dst_le (a := j) (b := i) (w := w) hn
          refine Ok.ifF (by rw [nI_leP (by omega) (by omega)]; omega) (Ok.bq (q_distance h g hw hn hj (by omega)) (Ok.cv (dI_m1 d9) (Ok.ite (fun c => Ok.ret ⟨rfl, Or.inl ⟨j, i, hj, by omega, c, rfl⟩⟩) (fun c => Ok.ret ⟨rfl, Nat.max N (dst n w j i), ?_, Nat.max_le.mpr ⟨N9, d9⟩, Nat.le_trans hMN (Nat.le_max_left _ _), fun b hb => ?_, ?_⟩))))
          · have : dI (dst n w j i) = nI (dst n w j i) := by unfold dI; rw [if_neg c]
            rw [this, mxI_n (by omega) (by omega), nI_1]
          · by_cases e : b = i
            · rw [e]; exact ⟨c, Nat.le_max_right _ _⟩
            · exact ⟨(hI2 b (by omega)).1, Nat.le_trans (hI2 b (by omega)).2 (Nat.le_max_left _ _)⟩
          · rcases mx_at (M := N) (d := dst n w j i) with q | q
            · rw [q]; exact hJ2
            · exact Or.inr ⟨j, i, hj, by omega, q.symm⟩
        · rintro c s ⟨rfl, N, rfl, N9, hMN, hI2, hJ2⟩
          unfold SX10_diameter_14
          dsimp only
          exact Ok.ifT (by rw [nI_leP (by omega) (by omega)]; omega) (Ok.ret ⟨rfl, N, rfl, N9, hMN, hI2, hJ2⟩)
      · rintro (v | v) _ ⟨rfl, hv⟩
        · exact Ok.ret ⟨rfl, hv⟩
        · obtain ⟨N, rfl, N9, hMN, hI2, hJ2⟩ := hv
          refine Ok.ret ⟨rfl, N, by rw [nI_1], N9, fun a b ha hb => ?_, hJ2⟩
          by_cases e : a = j
          · rw [e] at hb ⊢; exact hI2 b hb
          · exact ⟨(hI a b (by omega) hb).1, Nat.le_trans (hI a b (by omega) hb).2 hMN⟩
    · rintro c s ⟨rfl, M, rfl, M9, hI, hJ⟩
      unfold SX10_diameter_4
      dsimp only
      have all : ∀ a b, a < n → b < n → dst n w a b ≠ 9 ∧ dst n w a b ≤ M := fun a b ha hb => by
        rcases (show b < a ∨ a = b ∨ a < b by omega) with c | c | c
        · exact hI a b ha c
        · rw [c, dst_0 hn hb]; exact ⟨by omega, Nat.zero_le _⟩
        · rw [dst_sy hw hn]; exact hI b a hb c
      exact Ok.rdE h.1 (Ok.ifT (by rw [nI_leP (by omega) (by omega)]; omega) (Ok.ret ⟨rfl, Or.inr ⟨fun a b ha hb => (all a b ha hb).1, M, rfl, fun a b ha hb => (all a b ha hb).2, hJ⟩⟩))
  · rintro (v | v) _ ⟨rfl, hv⟩
    · exact Ok.ret ⟨rfl, hv⟩
    · exact Ok.ret ⟨rfl, hv⟩
theorem q_diameterM {s n : Nat} {w : Nat → Nat → Nat} {t : St} (h : RN s n w t) (hs : s < 3) (hw : WF n w) (hn : n < 10) : Ok (FX12_diameter (nI s) t) (fun r u => t = u ∧ DMS n w r) := by
  unfold FX12_diameter
  refine Ok.bd (fun r u => t = u ∧ Sum.elim (fun v => DMS n w v) (fun v => DMS n w v) r) ?_ ?_
  · refine Ok.count n (fun j c s' => t = s' ∧ ∃ M, c = (nI M, nI j) ∧ M ≤ 9 ∧ (∀ a b, a < j → b < n → dst n w a b ≠ 9 ∧ dst n w a b ≤ M) ∧ (M = 0 ∨ ∃ a b, a < n ∧ b < n ∧ dst n w a b = M)) ?_ ?_ (Nat.zero_le _) ⟨rfl, 0, rfl, by omega, fun a b ha => by omega, Or.inl rfl⟩
    · rintro j c s' hj ⟨rfl, M, rfl, M9, hI, hJ⟩
      unfold SX12_diameter_4
      dsimp only
      refine Ok.bq (q_points h hs) (Ok.ifF (by rw [nI_leP (by omega) (by omega)]; omega) ?_)
      refine Ok.bd (fun r u => t = u ∧ Sum.elim (fun v => DMS n w v) (fun v => ∃ N, v = nI N ∧ N ≤ 9 ∧ M ≤ N ∧ (∀ b, b < n → dst n w j b ≠ 9 ∧ dst n w j b ≤ N) ∧ (N = 0 ∨ ∃ a b, a < n ∧ b < n ∧ dst n w a b = N)) r) ?_ ?_
      · refine Ok.count n (fun i c s' => t = s' ∧ ∃ N, c = (nI N, nI i) ∧ N ≤ 9 ∧ M ≤ N ∧ (∀ b, b < i → dst n w j b ≠ 9 ∧ dst n w j b ≤ N) ∧ (N = 0 ∨ ∃ a b, a < n ∧ b < n ∧ dst n w a b = N)) ?_ ?_ (Nat.zero_le _) ⟨rfl, M, rfl, M9, Nat.le_refl _, fun b hb => by omega, hJ⟩
        · rintro i c s' hi ⟨rfl, N, rfl, N9, hMN, hI2, hJ2⟩
          unfold SX12_diameter_16
          dsimp only
          have d9 := dst_le (a := j) (b := i) (w := w) hn
          refine Ok.bq (q_points h hs) (Ok.ifF (by rw [nI_leP (by omega) (by omega)]; omega) (Ok.bq (q_farOf h hs hw hn hj hi) (Ok.cv (dI_m1 d9) (Ok.ite (fun c => Ok.ret ⟨rfl, Or.inl ⟨j, i, hj, hi, c, rfl⟩⟩) (fun c => Ok.ret ⟨rfl, Nat.max N (dst n w j i), ?_, Nat.max_le.mpr ⟨N9, d9⟩, Nat.le_trans hMN (Nat.le_max_left _ _), fun b hb => ?_, ?_⟩)))))
          · have : dI (dst n w j i) = nI (dst n w j i) := by unfold dI; rw [if_neg c]
            rw [this, mxI_n (by omega) (by omega), nI_1]
          · by_cases e : b = i
            · rw [e]; exact ⟨c, Nat.le_max_right _ _⟩
            · exact ⟨(hI2 b (by omega)).1, Nat.le_trans (hI2 b (by omega)).2 (Nat.le_max_left _ _)⟩
          · rcases mx_at (M := N) (d := dst n w j i) with q | q
            · rw [q]; exact hJ2
            · exact Or.inr ⟨j, i, hj, hi, q.symm⟩
        · rintro c s' ⟨rfl, N, rfl, N9, hMN, hI2, hJ2⟩
          unfold SX12_diameter_16
          dsimp only
          exact Ok.bq (q_points h hs) (Ok.ifT (by rw [nI_leP (by omega) (by omega)]; omega) (Ok.ret ⟨rfl, N, rfl, N9, hMN, hI2, hJ2⟩))
      · rintro (v | v) _ ⟨rfl, hv⟩
        · exact Ok.ret ⟨rfl, hv⟩
        · obtain ⟨N, rfl, N9, hMN, hI2, hJ2⟩ := hv
          refine Ok.ret ⟨rfl, N, by rw [nI_1], N9, fun a b ha hb => ?_, hJ2⟩
          by_cases e : a = j
          · rw [e]; exact hI2 b hb
          · exact ⟨(hI a b (by omega) hb).1, Nat.le_trans (hI a b (by omega) hb).2 hMN⟩
    · rintro c s' ⟨rfl, M, rfl, M9, hI, hJ⟩
      unfold SX12_diameter_4
      dsimp only
      exact Ok.bq (q_points h hs) (Ok.ifT (by rw [nI_leP (by omega) (by omega)]; omega) (Ok.ret ⟨rfl, Or.inr ⟨fun a b ha hb => (hI a b ha hb).1, M, rfl, fun a b ha hb => (hI a b ha hb).2, hJ⟩⟩))
  · rintro (v | v) _ ⟨rfl, hv⟩
    · exact Ok.ret ⟨rfl, hv⟩
    · exact Ok.ret ⟨rfl, hv⟩
/-! balls -/
def blo (n : Nat) (w : Nat → Nat → Nat) (p r : Nat) : Nat := cnt (gsq n w (2 ^ p) r) 9 - 1
def blc (n : Nat) (w : Nat → Nat → Nat) (p r : Nat) : Nat := (blo n w p r + 2 * r - 1) / (2 * r)
def bli (n : Nat) (w : Nat → Nat → Nat) (p M : Nat) : Nat → Nat
  | 0 => M
  | k + 1 => Nat.max (bli n w p M k) (blc n w p (k + 1))
def bot (n : Nat) (w : Nat → Nat → Nat) : Nat → Nat
  | 0 => 0
  | p + 1 => bli n w p (bot n w p) (n - 1)
theorem blc_le {n p r : Nat} {w : Nat → Nat → Nat} (hr : 1 ≤ r) : blc n w p r ≤ 100 := by
  have h : cnt (gsq n w (2 ^ p) r) 9 ≤ 9 := cnt_le
  unfold blc blo
  refine Nat.div_le_of_le_mul ?_
  have : 2 * r * 100 = 200 * r := by omega
  omega
theorem bli_le {n p M : Nat} {w : Nat → Nat → Nat} (hM : M ≤ 100) : ∀ {k : Nat}, bli n w p M k ≤ 100
  | 0 => hM
  | k + 1 => Nat.max_le.mpr ⟨bli_le hM, blc_le (by omega)⟩
theorem bot_le {n : Nat} {w : Nat → Nat → Nat} : ∀ {k : Nat}, bot n w k ≤ 100
  | 0 => Nat.zero_le _
  | k + 1 => bli_le bot_le
theorem nz_n {r : Nat} (h1 : 1 ≤ r) (hr : r < 10) : nz ((2 : Int32) * nI r) = true := by
  rcases (show r = 1 ∨ r = 2 ∨ r = 3 ∨ r = 4 ∨ r = 5 ∨ r = 6 ∨ r = 7 ∨ r = 8 ∨ r = 9 by omega) with rfl | rfl | rfl | rfl | rfl | rfl | rfl | rfl | rfl <;> decide
theorem bl_div {a r : Nat} (ha : a < 100) (h1 : 1 ≤ r) (hr : r < 10) : (nI a + (2 : Int32) * nI r - 1) / ((2 : Int32) * nI r) = nI ((a + 2 * r - 1) / (2 * r)) := by
  rw [li_2, nI_mul, nI_add, nI_s1 (by omega), nI_divN (by omega) (by omega) (by omega)]
theorem gsq_1 {n p r : Nat} {w : Nat → Nat → Nat} (hp : p < 9) : 1 ≤ cnt (gsq n w (2 ^ p) r) 9 := by
  have h : (gsq n w (2 ^ p) r).testBit p = true := gsq_up (j := 0) (by show (2 ^ p).testBit p = true; rw [pow_bit]; exact decide_eq_true rfl) (Nat.zero_le _)
  have := cnt_mn (S := 2 ^ p) (T := gsq n w (2 ^ p) r) (n := 9) (fun j hj => by
    rw [pow_bit] at hj
    rw [← of_decide_eq_true hj]
    exact h)
  have := cnt_1 (a := p) (n := 9) hp
  omega
theorem q_ballBound {x n l : Nat} {w : Nat → Nat → Nat} {t : St} (h : CN x n l w t) (g : netAt x = true) (hw : WF n w) (hn : n < 10) : FX10_ballBound x t = some (nI (bot n w n), t) := by
  refine Ok.eq ?_
  unfold FX10_ballBound
  refine Ok.ckT g (Ok.bq (a := nI (bot n w n)) (t := t) (wq0 n (fun p => (nI (bot n w p), nI p)) rfl (fun p hp => ?_) ?_) (Ok.ret ⟨rfl, rfl⟩))
  · unfold SX10_ballBound_4
    dsimp only
    have bp := bot_le (n := n) (w := w) (k := p)
    refine Ok.rdE h.1 (Ok.ifF (by rw [nI_leP (by omega) (by omega)]; omega) ?_)
    refine Ok.bq (a := nI (bot n w (p + 1))) (t := t) (wq0 (n - 1) (fun k => (nI (bli n w p (bot n w p) k), nI (gsq n w (2 ^ p) k), nI (k + 1))) (by rw [li_1, shl_1b (by omega)]; rfl) (fun k hk => ?_) ?_) (Ok.ret ⟨rfl, by rw [nI_1]⟩)
    · unfold SX10_ballBound_19
      dsimp only
      have g9 := gsq_9 (k := k) hw hn (pw_n hp)
      have g9' := gsq_9 (k := k + 1) hw hn (pw_n hp)
      have c1 := gsq_1 (n := n) (w := w) (p := p) (r := k + 1) (by omega)
      have c9 : cnt (gsq n w (2 ^ p) (k + 1)) 9 ≤ 9 := cnt_le
      have bl := bli_le (n := n) (w := w) (p := p) bp (k := k)
      have bc := blc_le (n := n) (w := w) (p := p) (r := k + 1) (by omega)
      refine Ok.rdE h.1 (Ok.ifF (by rw [nI_leP (by omega) (by omega)]; omega) (Ok.bq (q_grown h g hn g9) ?_))
      refine Ok.bq (q_bitCount (S := gsq n w (2 ^ p) (k + 1)) g9') (Ok.ckT (nz_n (by omega) (by omega)) (Ok.ret ⟨rfl, ?_⟩))
      rw [nI_s1 c1, bl_div (by omega) (by omega) (by omega)]
      show Sum.inl (mxI (nI (bli n w p (bot n w p) k)) (nI (blc n w p (k + 1))), _, _) = _
      rw [mxI_n (by omega) (by omega), nI_1]
      rfl
    · unfold SX10_ballBound_19
      dsimp only
      exact Ok.rdE h.1 (Ok.ifT (by rw [nI_leP (by omega) (by omega)]; omega) (Ok.ret ⟨rfl, rfl⟩))
  · unfold SX10_ballBound_4
    dsimp only
    exact Ok.rdE h.1 (Ok.ifT (by rw [nI_leP (by omega) (by omega)]; omega) (Ok.ret ⟨rfl, rfl⟩))
def bin1 (n : Nat) (w : Nat → Nat → Nat) (p r q : Nat) : Nat := if q = p then 0 else if 1 ≤ dst n w p q ∧ dst n w p q ≤ r then 1 else 0
theorem blo_eq {n p r : Nat} {w : Nat → Nat → Nat} (hw : WF n w) (hn : n < 10) (hp : p < n) (hr : r < n) : sm n (bin1 n w p r) = blo n w p r := by
  have h1 : ∀ q, q < n → (if (gsq n w (2 ^ p) r).testBit q = true then 1 else 0) = bin1 n w p r q + (if q = p then 1 else 0) := fun q hq => by
    unfold bin1
    by_cases e : q = p
    · rw [if_pos e, if_pos e, e, if_pos (gsq_up (j := 0) (by show (2 ^ p).testBit p = true; rw [pow_bit]; exact decide_eq_true rfl) (Nat.zero_le _))]
    · rw [if_neg e, if_neg e]
      rcases dst_in (a := p) (b := q) (w := w) hn with ⟨a, b⟩ | ⟨a, b, c⟩
      · rw [if_neg (c := (gsq n w (2 ^ p) r).testBit q = true) (by rw [b r hr]; decide), if_neg (by omega)]
      · have d0 : 1 ≤ dst n w p q := by
          rcases Nat.eq_zero_or_pos (dst n w p q) with z | z
          · rw [z] at b
            have b : (2 ^ p).testBit q = true := b
            rw [pow_bit] at b
            exact absurd (of_decide_eq_true b).symm e
          · exact z
        by_cases le : dst n w p q ≤ r
        · rw [if_pos (gsq_up b le), if_pos ⟨d0, le⟩]
        · rw [if_neg (c := (gsq n w (2 ^ p) r).testBit q = true) (by rw [c r (by omega)]; decide), if_neg (by omega)]
  have h2 : cnt (gsq n w (2 ^ p) r) 9 = sm n (fun q => if (gsq n w (2 ^ p) r).testBit q = true then 1 else 0) := by
    have e : gsq n w (2 ^ p) r = mkm n (fun q => (gsq n w (2 ^ p) r).testBit q) := (mkm_self (gsq_n hw (pw_n hp))).symm
    conv => lhs; rw [e]
    exact cnt_mkm (by omega)
  have h3 : sm n (fun q => if q = p then 1 else 0) = 1 := by
    rw [sm_pt (f := fun q => if q = p then 1 else 0) (j := p) (fun i _ hne => if_neg hne), if_pos hp, if_pos rfl]
  unfold blo
  rw [h2, sm_congr h1, sm_add, h3]
  rfl
theorem q_in1r {d r : Nat} {t : St} (hd : d ≤ 9) (hr : r < 10) : FX12_in (dI d).toInt64 (1 : Int64) (nI r).toInt64 t = some (if d ≠ 9 ∧ 1 ≤ d ∧ d ≤ r then 1 else 0, t) := by
  refine Ok.eq (e_in (fun g1 g2 => ⟨rfl, ?_⟩) (fun g => ⟨rfl, ?_⟩))
  · rw [show (1 : Int64).toInt = 1 by decide] at g1
    rw [n64 (by omega)] at g2
    by_cases c : d = 9
    · unfold dI at g1
      rw [if_pos c, show ((-1 : Int32)).toInt64.toInt = -1 by decide] at g1
      omega
    · unfold dI at g1 g2
      rw [if_neg c, n64 (by omega)] at g1 g2
      rw [if_pos (by omega)]
  · rw [show (1 : Int64).toInt = 1 by decide, n64 (a := r) (by omega)] at g
    by_cases c : d = 9
    · rw [if_neg (by omega)]
    · unfold dI at g
      rw [if_neg c, n64 (by omega)] at g
      rw [if_neg (by omega)]
theorem q_balls {s n : Nat} {w : Nat → Nat → Nat} {t : St} (h : RN s n w t) (hs : s < 3) (hw : WF n w) (hn : n < 10) : FX12_balls (nI s) t = some (nI (bot n w n), t) := by
  refine Ok.eq ?_
  unfold FX12_balls
  refine Ok.bq (a := nI (bot n w n)) (t := t) (wq0 n (fun p => (nI (bot n w p), nI p)) rfl (fun p hp => ?_) ?_) (Ok.ret ⟨rfl, rfl⟩)
  · unfold SX12_balls_4
    dsimp only
    have bp := bot_le (n := n) (w := w) (k := p)
    refine Ok.bq (q_points h hs) (Ok.ifF (by rw [nI_leP (by omega) (by omega)]; omega) ?_)
    refine Ok.bq (a := nI (bot n w (p + 1))) (t := t) (wq0 (n - 1) (fun k => (nI (bli n w p (bot n w p) k), nI (k + 1))) rfl (fun k hk => ?_) ?_) (Ok.ret ⟨rfl, by rw [nI_1]⟩)
    · unfold SX12_balls_16
      dsimp only
      have bl := bli_le (n := n) (w := w) (p := p) bp (k := k)
      have bc := blc_le (n := n) (w := w) (p := p) (r := k + 1) (by omega)
      have c9 : cnt (gsq n w (2 ^ p) (k + 1)) 9 ≤ 9 := cnt_le
      refine Ok.bq (q_points h hs) (Ok.ifF (by rw [nI_leP (by omega) (by omega)]; omega) ?_)
      refine Ok.bq (a := nI (blo n w p (k + 1))) (t := t) ?_ (Ok.ckT (nz_n (by omega) (by omega)) (Ok.ret ⟨rfl, ?_⟩))
      · rw [← blo_eq hw hn hp (by omega)]
        refine wq0 n (fun q => (nI (sm q (bin1 n w p (k + 1))), nI q)) rfl (fun q hq => ?_) ?_
        · unfold SX12_balls_32
          dsimp only
          refine Ok.bq (q_points h hs) (Ok.ifF (by rw [nI_leP (by omega) (by omega)]; omega) ?_)
          refine Ok.bq (a := nI (bin1 n w p (k + 1) q)) (t := t) (Ok.eq ?_) (Ok.ret ⟨rfl, ?_⟩)
          · unfold bin1
            refine Ok.cv (nI_eqP (by omega) (by omega)) (Ok.ite (fun c => Ok.ret ⟨rfl, by rw [if_pos c]; rfl⟩) (fun c => ?_))
            rw [if_neg c]
            refine Ok.bq (q_farOf h hs hw hn hp hq) (Ok.bq (q_in1r (dst_le hn) (by omega)) ?_)
            by_cases c2 : 1 ≤ dst n w p q ∧ dst n w p q ≤ k + 1
            · rw [if_pos c2, if_pos (c := dst n w p q ≠ 9 ∧ 1 ≤ dst n w p q ∧ dst n w p q ≤ k + 1) (by omega)]
              exact Ok.ifF (by decide) (Ok.ret ⟨rfl, rfl⟩)
            · rw [if_neg c2, if_neg (c := dst n w p q ≠ 9 ∧ 1 ≤ dst n w p q ∧ dst n w p q ≤ k + 1) (by omega)]
              exact Ok.ifT rfl (Ok.ret ⟨rfl, rfl⟩)
          · rw [nI_add, nI_1]
            rfl
        · unfold SX12_balls_32
          dsimp only
          exact Ok.bq (q_points h hs) (Ok.ifT (by rw [nI_leP (by omega) (by omega)]; omega) (Ok.ret ⟨rfl, rfl⟩))
      · rw [bl_div (by unfold blo; omega) (by omega) (by omega)]
        show Sum.inl (mxI (nI (bli n w p (bot n w p) k)) (nI (blc n w p (k + 1))), _) = _
        rw [mxI_n (by omega) (by omega), nI_1]
        rfl
    · unfold SX12_balls_16
      dsimp only
      exact Ok.bq (q_points h hs) (Ok.ifT (by rw [nI_leP (by omega) (by omega)]; omega) (Ok.ret ⟨rfl, rfl⟩))
  · unfold SX12_balls_4
    dsimp only
    exact Ok.bq (q_points h hs) (Ok.ifT (by rw [nI_leP (by omega) (by omega)]; omega) (Ok.ret ⟨rfl, rfl⟩))
theorem z3_look {σ : St} (hI : INV3 σ) (a b : Int32) : BOTH (FX11_look a b σ) (fun u => FX12_look a b u) := by
  rcases r3 (a := a) with ⟨s, hs, rfl⟩ | ha
  · obtain ⟨v, h⟩ := hI.sl hs
    have hn : v.1 < 10 := h.1.1.1
    have hw := h.1.1.2.1
    have h0 := h.2.1.1.1
    have hr := h.2.2.1
    have hc := h.2.1.1
    have gx := n_sl hs
    by_cases h1 : 1 ≤ v.1
    · have wl := wst_le hw hn (Nat.le_refl v.1)
      have el : FX12_lines (nI s) σ = some (nI v.2.1, σ) := Ok.eq (m_lines hr hs hn hw ⟨rfl, by rw [← h.1.1.2.2, Nat.mul_div_cancel_left _ (by omega)]⟩)
      by_cases hb : IsR 7 b
      · obtain ⟨q, hq, rfl⟩ := hb
        have ei : FX12_in (nI q).toInt64 (0 : Int64) (6 : Int64) σ = some (1, σ) := q_in1 (n := 7) (by omega) (by omega) (by decide) ⟨q, hq, rfl⟩
        have mm : ∀ {Q : Int32 → St → Prop}, Ok (if nI q = 0 then (bnd (FX12_points (nI s) σ) (fun v22 t23 => (some (v22, t23)))) else (if nI q = 1 then (bnd (FX12_lines (nI s) σ) (fun v27 t28 => (some (v27, t28)))) else (if nI q = 2 then (some ((nI (sm v.1 (fun p => sm v.1 (v.2.2.1 p))) / (2 : Int32)), σ)) else (if nI q = 3 then (bnd (FX12_degree (nI s) σ) (fun v34 t35 => (some (v34, t35)))) else (if nI q = 4 then (bnd (FX12_parts (nI s) σ) (fun v39 t40 => (some (v39, t40)))) else (if nI q = 5 then (bnd (FX12_diameter (nI s) σ) (fun v44 t45 => (some (v44, t45)))) else (bnd (FX12_core (nI s) σ) (fun v48 t49 => (some (v48, t49)))))))))) Q → Ok (FX12_look (nI s) (nI q) σ) Q := fun k => by
          unfold FX12_look
          exact Ok.bq (g_isN1 hs hn hr h1) (Ok.ifF (by decide) (Ok.bq ei (Ok.ifF (by decide) (Ok.bq (q_allM hr hs hn) k))))
        rcases (show q = 0 ∨ q = 1 ∨ q = 2 ∨ q = 3 ∨ q = 4 ∨ q = 5 ∨ q = 6 by omega) with rfl | rfl | rfl | rfl | rfl | rfl | rfl
        · refine BOTH.no (v := nI v.1) hI ?_ ?_
          · unfold FX11_look
            exact Ok.eq (netI hs hn h0 (fun q => absurd h1 (by omega)) (fun _ g => Ok.ifT rfl (Ok.rdE hc.1 (Ok.ret ⟨rfl, rfl⟩))))
          · exact Ok.eq (mm (Ok.ifT rfl (Ok.bq (q_points hr hs) (Ok.ret ⟨rfl, rfl⟩))))
        · refine BOTH.no (v := nI v.2.1) hI ?_ ?_
          · unfold FX11_look
            exact Ok.eq (netI hs hn h0 (fun q => absurd h1 (by omega)) (fun _ g => Ok.ifF (by decide) (Ok.ifT rfl (Ok.rdE hc.2.1 (Ok.ret ⟨rfl, rfl⟩)))))
          · exact Ok.eq (mm (Ok.ifF (by decide) (Ok.ifT rfl (Ok.bq el (Ok.ret ⟨rfl, rfl⟩)))))
        · refine BOTH.no (v := nI (sm v.1 (fun p => sm v.1 (v.2.2.1 p)) / 2)) hI ?_ ?_
          · unfold FX11_look
            exact Ok.eq (netI hs hn h0 (fun q => absurd h1 (by omega)) (fun _ g => Ok.ifF (by decide) (Ok.ifF (by decide) (Ok.ifT rfl (Ok.bq (q_wholeWeight hc gx hw hn) (Ok.ret ⟨rfl, rfl⟩))))))
          · exact Ok.eq (mm (Ok.ifF (by decide) (Ok.ifF (by decide) (Ok.ifT rfl (Ok.ret ⟨rfl, by rw [li_2, nI_divN (by omega) (by omega) (by omega)]⟩)))))
        · refine BOTH.no (v := nI (mxf (fun p => cnt (nr v.2.2.1 p) 9) v.1)) hI ?_ ?_
          · unfold FX11_look
            exact Ok.eq (netI hs hn h0 (fun q => absurd h1 (by omega)) (fun _ g => Ok.ifF (by decide) (Ok.ifF (by decide) (Ok.ifF (by decide) (Ok.ifT rfl (Ok.bq (q_mostLines hc gx hn) (Ok.ret ⟨rfl, rfl⟩)))))))
          · exact Ok.eq (mm (Ok.ifF (by decide) (Ok.ifF (by decide) (Ok.ifF (by decide) (Ok.ifT rfl (Ok.bq (q_degree hr hs hw hn) (Ok.ret ⟨rfl, rfl⟩)))))))
        · refine BOTH.no (v := nI (prf v.1 v.2.2.1 v.1)) hI ?_ ?_
          · unfold FX11_look
            exact Ok.eq (netI hs hn h0 (fun q => absurd h1 (by omega)) (fun _ g => Ok.ifF (by decide) (Ok.ifF (by decide) (Ok.ifF (by decide) (Ok.ifF (by decide) (Ok.ifT rfl (Ok.bq (q_partCount hc gx hw hn) (Ok.ret ⟨rfl, rfl⟩))))))))
          · exact Ok.eq (mm (Ok.ifF (by decide) (Ok.ifF (by decide) (Ok.ifF (by decide) (Ok.ifF (by decide) (Ok.ifT rfl (Ok.bq (q_parts hr hs hw hn) (Ok.ret ⟨rfl, rfl⟩))))))))
        · obtain ⟨r, u, e1, rfl, d1⟩ := q_diameter hc gx hw hn
          obtain ⟨r2, u2, e2, rfl, d2⟩ := q_diameterM hr hs hw hn
          obtain rfl := d1.uq d2
          refine BOTH.no (v := r) hI ?_ ?_
          · unfold FX11_look
            exact Ok.eq (netI hs hn h0 (fun q => absurd h1 (by omega)) (fun _ g => Ok.ifF (by decide) (Ok.ifF (by decide) (Ok.ifF (by decide) (Ok.ifF (by decide) (Ok.ifF (by decide) (Ok.ifT rfl (Ok.bq e1 (Ok.ret ⟨rfl, rfl⟩)))))))))
          · exact Ok.eq (mm (Ok.ifF (by decide) (Ok.ifF (by decide) (Ok.ifF (by decide) (Ok.ifF (by decide) (Ok.ifF (by decide) (Ok.ifT rfl (Ok.bq e2 (Ok.ret ⟨rfl, rfl⟩)))))))))
        · refine BOTH.no (v := nI (crf v.1 v.2.2.1 (2 ^ v.1 - 1))) hI ?_ ?_
          · unfold FX11_look
            exact Ok.eq (netI hs hn h0 (fun q => absurd h1 (by omega)) (fun _ g => Ok.ifF (by decide) (Ok.ifF (by decide) (Ok.ifF (by decide) (Ok.ifF (by decide) (Ok.ifF (by decide) (Ok.ifF (by decide) (Ok.ifT rfl (Ok.bq (q_core hc gx hw hn) (Ok.ret ⟨rfl, rfl⟩))))))))))
          · exact Ok.eq (mm (Ok.ifF (by decide) (Ok.ifF (by decide) (Ok.ifF (by decide) (Ok.ifF (by decide) (Ok.ifF (by decide) (Ok.ifF (by decide) (Ok.bq (q_coreM hr hs hw hn) (Ok.ret ⟨rfl, rfl⟩)))))))))
      · refine BOTH.no (v := -2) hI ?_ ?_
        · unfold FX11_look
          exact Ok.eq (netI hs hn h0 (fun _ => ⟨rfl, rfl⟩) (fun _ g => Ok.ifF (fun q => hb ⟨0, by omega, q⟩) (Ok.ifF (fun q => hb ⟨1, by omega, q⟩) (Ok.ifF (fun q => hb ⟨2, by omega, q⟩) (Ok.ifF (fun q => hb ⟨3, by omega, q⟩) (Ok.ifF (fun q => hb ⟨4, by omega, q⟩) (Ok.ifF (fun q => hb ⟨5, by omega, q⟩) (Ok.ifF (fun q => hb ⟨6, by omega, q⟩) (Ok.ret ⟨rfl, rfl⟩)))))))))
        · refine Ok.eq ?_
          unfold FX12_look
          exact Ok.bq (g_isN1 hs hn hr h1) (Ok.ifF (by decide) (Ok.bq (q_in0 (n := 7) (by omega) (by omega) (by decide) hb) (Ok.ifT rfl (Ok.ret ⟨rfl, rfl⟩))))
    · refine BOTH.no (v := -2) hI ?_ ?_
      · unfold FX11_look
        exact Ok.eq (netI hs hn h0 (fun _ => ⟨rfl, rfl⟩) (fun h g => absurd h h1))
      · refine Ok.eq ?_
        unfold FX12_look
        exact Ok.bq (g_isN0 hs hn hr (by omega)) (Ok.ifT rfl (Ok.ret ⟨rfl, rfl⟩))
  · refine BOTH.no (v := -2) hI ?_ ?_
    · unfold FX11_look
      exact net0 ha
    · refine Ok.eq ?_
      unfold FX12_look
      exact Ok.bq (g_isNet0 ha) (Ok.ifT rfl (Ok.ret ⟨rfl, rfl⟩))
def lbv (n : Nat) (w : Nat → Nat → Nat) (q : Nat) : Nat := if q = 0 then (mxf (fun p => sm n (w p)) n + 1) / 2 else if q = 2 then (mxf (fun p => cnt (nr w p) 9) n + 1) / 2 else crf n w (2 ^ n - 1)
theorem q_lineBound {x n l q : Nat} {w : Nat → Nat → Nat} {t : St} (h : CN x n l w t) (g : netAt x = true) (hw : WF n w) (hn : n < 10) (hq : q < 7) : FX10_lineBound x (nI q) t = some (nI (lbv n w q), t) := by
  refine Ok.eq ?_
  unfold FX10_lineBound lbv
  have a := mxf_le (f := fun p => sm n (w p)) (b := 81) (fun i => wat_le hw hn) (n := n)
  have b := mxf_le (f := fun p => cnt (nr w p) 9) (b := 9) (fun i => cnt_le) (n := n)
  refine Ok.ckT g (Ok.cv (nI_lit (k := 0) hq (by omega)) (Ok.ite (fun c => ?_) (fun c => Ok.cv (nI_lit (k := 2) hq (by omega)) (Ok.ite (fun c2 => ?_) (fun c2 => ?_)))))
  · rw [if_pos c]
    refine Ok.bq (q_mostWeight h g hw hn) (Ok.ret ⟨rfl, ?_⟩)
    rw [nI_1, li_2, nI_divN (by omega) (by omega) (by omega)]
  · rw [if_neg c, if_pos c2]
    refine Ok.bq (q_mostLines h g hn) (Ok.ret ⟨rfl, ?_⟩)
    rw [nI_1, li_2, nI_divN (by omega) (by omega) (by omega)]
  · rw [if_neg c, if_neg c2]
    exact Ok.bq (q_core h g hw hn) (Ok.ret ⟨rfl, rfl⟩)
/-- what the reference says of lines -/
theorem q_lineBoundM {s n q : Nat} {w : Nat → Nat → Nat} {t : St} (h : RN s n w t) (hs : s < 3) (hw : WF n w) (hn : n < 10) (hq : q < 7) : Ok (bnd (wh (SX12_bound_66 (nI s) (nI q)) ((0 : Int32), (0 : Int32)) t) (fun e50 t51 => (if nI q = (0 : Int32) then (some (((e50 + (1 : Int32)) / (2 : Int32)), t51)) else (if nI q = (2 : Int32) then (bnd (FX12_degree (nI s) t51) (fun v60 t61 => (some (((v60 + (1 : Int32)) / (2 : Int32)), t61)))) else (bnd (FX12_core (nI s) t51) (fun v56 t57 => (some (v56, t57)))))))) (fun r u => t = u ∧ r = nI (lbv n w q)) := by
  have a := mxf_le (f := fun p => sm n (w p)) (b := 81) (fun i => wat_le hw hn) (n := n)
  have b := mxf_le (f := fun p => cnt (nr w p) 9) (b := 9) (fun i => cnt_le) (n := n)
  unfold lbv
  refine Ok.bq (q_mostWeightM h hs hw hn) (Ok.cv (nI_lit (k := 0) hq (by omega)) (Ok.ite (fun c => ?_) (fun c => Ok.cv (nI_lit (k := 2) hq (by omega)) (Ok.ite (fun c2 => ?_) (fun c2 => ?_)))))
  · rw [if_pos c]
    refine Ok.ret ⟨rfl, ?_⟩
    rw [nI_1, li_2, nI_divN (by omega) (by omega) (by omega)]
  · rw [if_neg c, if_pos c2]
    refine Ok.bq (q_degree h hs hw hn) (Ok.ret ⟨rfl, ?_⟩)
    rw [nI_1, li_2, nI_divN (by omega) (by omega) (by omega)]
  · rw [if_neg c, if_neg c2]
    exact Ok.bq (q_coreM h hs hw hn) (Ok.ret ⟨rfl, rfl⟩)
theorem q_bdC {s q : Nat} {c : Int32} {v : V4} {t : St} (hs : s < 3) (h : SL t s v) (h1 : 1 ≤ v.1) (hq : q < 7) : FX11_bound (nI s) (nI q) c t = some (if ¬ (q = 0 ∨ q = 1 ∨ q = 2 ∨ q = 5) then -2 else if c = 1 ∧ q = 2 then nI (bot v.1 v.2.2.1 v.1) else if c = 0 then nI (lbv v.1 v.2.2.1 q) else -2, t) := by
  have hn : v.1 < 10 := h.1.1.1
  have hw := h.1.1.2.1
  have gx := n_sl hs
  refine Ok.eq ?_
  unfold FX11_bound
  refine netI hs hn h.2.1.1.1 (fun q => absurd h1 (by omega)) (fun _ g => Ok.bq (g_bd hq) ?_)
  by_cases b : q = 0 ∨ q = 1 ∨ q = 2 ∨ q = 5
  · rw [if_pos b, if_neg (c := ¬ (q = 0 ∨ q = 1 ∨ q = 2 ∨ q = 5)) (fun k => k b)]
    refine Ok.ifF (by decide) (Ok.ite (fun c1 => ?_) (fun c1 => ?_))
    · refine Ok.cv (nI_lit (k := 2) hq (by omega)) (Ok.ite (fun c2 => ?_) (fun c2 => ?_))
      · rw [if_pos ⟨c1, c2⟩]
        exact Ok.bq (q_ballBound h.2.1.1 gx hw hn) (Ok.ret ⟨rfl, rfl⟩)
      · rw [if_neg (c := c = 1 ∧ q = 2) (fun k => c2 k.2)]
        refine Ok.ite (fun c0 => ?_) (fun c0 => ?_)
        · rw [if_pos c0]; exact Ok.bq (q_lineBound h.2.1.1 gx hw hn hq) (Ok.ret ⟨rfl, rfl⟩)
        · rw [if_neg c0]; exact Ok.ret ⟨rfl, rfl⟩
    · rw [if_neg (c := c = 1 ∧ q = 2) (fun k => c1 k.1)]
      refine Ok.ite (fun c0 => ?_) (fun c0 => ?_)
      · rw [if_pos c0]; exact Ok.bq (q_lineBound h.2.1.1 gx hw hn hq) (Ok.ret ⟨rfl, rfl⟩)
      · rw [if_neg c0]; exact Ok.ret ⟨rfl, rfl⟩
  · rw [if_neg b, if_pos (c := ¬ (q = 0 ∨ q = 1 ∨ q = 2 ∨ q = 5)) b]
    exact Ok.ifT rfl (Ok.ret ⟨rfl, rfl⟩)
theorem q_bdM {s q : Nat} {c : Int32} {v : V4} {t : St} (hs : s < 3) (h : SL t s v) (h1 : 1 ≤ v.1) (hq : q < 7) : FX12_bound (nI s) (nI q) c t = some (if ¬ (q = 0 ∨ q = 1 ∨ q = 2 ∨ q = 5) then -2 else if c = 1 ∧ q = 2 then nI (bot v.1 v.2.2.1 v.1) else if c = 0 then nI (lbv v.1 v.2.2.1 q) else -2, t) := by
  have hn : v.1 < 10 := h.1.1.1
  have hw := h.1.1.2.1
  have hr := h.2.2.1
  refine Ok.eq ?_
  unfold FX12_bound
  refine Ok.bq (g_isN1 hs hn hr h1) (Ok.ifF (by decide) (Ok.bq (g_msM hq) (Ok.ifF (by decide) (Ok.ite (fun c2 => ?_) (fun c2 => ?_)))))
  · have q2 : q = 2 := nI_inj (b := 2) c2 (by omega) (by omega)
    rw [if_neg (c := ¬ (q = 0 ∨ q = 1 ∨ q = 2 ∨ q = 5)) (fun k => k (by omega))]
    refine Ok.ifT c2 ?_
    by_cases hc : IsR 2 c
    · refine Ok.bq (q_in1 (n := 2) (by omega) (by omega) (by decide) hc) (Ok.ifF (by decide) (Ok.ite (fun c1 => ?_) (fun c1 => ?_)))
      · rw [if_pos ⟨c1, q2⟩]
        exact Ok.bq (q_balls hr hs hw hn) (Ok.ret ⟨rfl, rfl⟩)
      · rw [if_neg (c := c = 1 ∧ q = 2) (fun k => c1 k.1)]
        have c0 : c = 0 := by
          obtain ⟨k, hk, rfl⟩ := hc
          rcases (show k = 0 ∨ k = 1 by omega) with rfl | rfl
          · rfl
          · exact absurd rfl c1
        rw [if_pos c0]
        exact q_lineBoundM hr hs hw hn hq
    · rw [if_neg (c := c = 1 ∧ q = 2) (fun k => hc ⟨1, by omega, k.1⟩), if_neg (c := c = 0) (fun k => hc ⟨0, by omega, k⟩)]
      exact Ok.bq (q_in0 (n := 2) (by omega) (by omega) (by decide) hc) (Ok.ifT rfl (Ok.ret ⟨rfl, rfl⟩))
  · have q2 : q ≠ 2 := fun k => c2 (by rw [k]; rfl)
    refine Ok.bq (q_isGreatest hq) ?_
    by_cases gr : q = 0 ∨ q = 1 ∨ q = 5
    · rw [if_pos gr, if_neg (c := ¬ (q = 0 ∨ q = 1 ∨ q = 2 ∨ q = 5)) (fun k => k (by omega)), if_neg (c := c = 1 ∧ q = 2) (fun k => q2 k.2)]
      refine Ok.ifF (by decide) (Ok.ifF c2 ?_)
      by_cases hc : IsR 1 c
      · obtain ⟨k, hk, rfl⟩ := hc
        obtain rfl : k = 0 := by omega
        rw [if_pos (c := nI 0 = 0) rfl]
        exact Ok.bq (q_in1 (n := 1) (by omega) (by omega) (by decide) ⟨0, by omega, rfl⟩) (Ok.ifF (by decide) (Ok.ifF (by decide) (q_lineBoundM hr hs hw hn hq)))
      · rw [if_neg (c := c = 0) (fun k => hc ⟨0, by omega, k⟩)]
        exact Ok.bq (q_in0 (n := 1) (by omega) (by omega) (by decide) hc) (Ok.ifT rfl (Ok.ret ⟨rfl, rfl⟩))
    · rw [if_neg gr, if_pos (c := ¬ (q = 0 ∨ q = 1 ∨ q = 2 ∨ q = 5)) (by omega)]
      exact Ok.ifT rfl (Ok.ret ⟨rfl, rfl⟩)
theorem z3_bound {σ : St} (hI : INV3 σ) (a b c : Int32) : BOTH (FX11_bound a b c σ) (fun u => FX12_bound a b c u) := by
  rcases r3 (a := a) with ⟨s, hs, rfl⟩ | ha
  · obtain ⟨v, h⟩ := hI.sl hs
    have hn : v.1 < 10 := h.1.1.1
    have hw := h.1.1.2.1
    have h0 := h.2.1.1.1
    have hr := h.2.2.1
    have gx := n_sl hs
    by_cases h1 : 1 ≤ v.1
    · by_cases hb : IsR 7 b
      · obtain ⟨q, hq, rfl⟩ := hb
        exact BOTH.no hI (q_bdC hs h h1 hq) (q_bdM hs h h1 hq)
      · refine BOTH.no (v := -2) hI ?_ ?_
        · unfold FX11_bound
          exact Ok.eq (netI hs hn h0 (fun _ => ⟨rfl, rfl⟩) (fun h1 g => Ok.bq (g_bd0 hb) (Ok.ifT rfl (Ok.ret ⟨rfl, rfl⟩))))
        · refine Ok.eq ?_
          unfold FX12_bound
          exact Ok.bq (g_isN1 hs hn hr h1) (Ok.ifF (by decide) (Ok.bq (g_msM0 hb) (Ok.ifT rfl (Ok.ret ⟨rfl, rfl⟩))))
    · refine BOTH.no (v := -2) hI ?_ ?_
      · unfold FX11_bound
        exact Ok.eq (netI hs hn h0 (fun _ => ⟨rfl, rfl⟩) (fun h g => absurd h h1))
      · refine Ok.eq ?_
        unfold FX12_bound
        exact Ok.bq (g_isN0 hs hn hr (by omega)) (Ok.ifT rfl (Ok.ret ⟨rfl, rfl⟩))
  · refine BOTH.no (v := -2) hI ?_ ?_
    · unfold FX11_bound
      exact net0 ha
    · refine Ok.eq ?_
      unfold FX12_bound
      exact Ok.bq (g_isNet0 ha) (Ok.ifT rfl (Ok.ret ⟨rfl, rfl⟩))
end
section
/-! new lines, one by one; the least among those with the least (wip/sim/g99f.py) -/
noncomputable def fen (w : Nat → Nat → Nat) (A p a : Nat) : Nat := if (nbm w A p).testBit a = true then dif (dif (nbm w A p) (2 ^ (a + 1) - 1)) (nbm w A a) else 0
theorem fen_lt {w : Nat → Nat → Nat} {A p a : Nat} : fen w A p a < 512 := by
  unfold fen
  split
  · exact dif_lt (dif_lt nbm_lt)
  · omega
theorem fen_b {w : Nat → Nat → Nat} {A p a b : Nat} (ha : a < 9) (hb : b < 9) : (fen w A p a).testBit b = true ↔ (nbm w A p).testBit a = true ∧ a < b ∧ (nbm w A p).testBit b = true ∧ (nbm w A a).testBit b = false := by
  unfold fen
  by_cases c : (nbm w A p).testBit a = true
  · rw [if_pos c, dif_b (dif_lt nbm_lt), dif_b nbm_lt, Nat.testBit_two_pow_sub_one]
    constructor
    · rintro ⟨⟨h1, h2⟩, h3⟩
      have := of_decide_eq_false h2
      exact ⟨c, by omega, h1, h3⟩
    · rintro ⟨-, h2, h1, h3⟩
      exact ⟨⟨h1, decide_eq_false (by omega)⟩, h3⟩
  · rw [if_neg c, Nat.zero_testBit]
    exact ⟨fun h => (by cases h), fun h => absurd h.1 c⟩
theorem cnt_hit {E j : Nat} : ∀ {m : Nat}, j < cnt E m → ∃ b, b < m ∧ E.testBit b = true ∧ cnt E b = j
  | 0, h => absurd h (Nat.not_lt_zero j)
  | m + 1, h => by
    rw [cnt_succ] at h
    by_cases q : j < cnt E m
    · obtain ⟨b, b1, b2, b3⟩ := cnt_hit q
      exact ⟨b, by omega, b2, b3⟩
    · by_cases c : E.testBit m = true
      · rw [if_pos c] at h
        exact ⟨m, Nat.lt_succ_self m, c, by omega⟩
      · rw [if_neg c] at h
        omega
theorem cnt_ml {E a : Nat} : ∀ {b : Nat}, a ≤ b → cnt E a ≤ cnt E b
  | 0, h => by
    have : a = 0 := by omega
    subst this
    exact Nat.le_refl _
  | b + 1, h => by
    by_cases e : a = b + 1
    · rw [e]; exact Nat.le_refl _
    · rw [cnt_succ]
      have := cnt_ml (E := E) (a := a) (b := b) (by omega)
      omega
theorem cnt_bl {E a b : Nat} (h : a < b) (hb : E.testBit a = true) : cnt E a + 1 ≤ cnt E b := by
  have := cnt_ml (E := E) (a := a + 1) (b := b) h
  rw [cnt_succ, if_pos hb] at this
  exact this
/-- the j-th of a set -/
def bat (E j : Nat) : Nat := fsf (fun b => E.testBit b && decide (cnt E b = j)) 9
theorem bat_eq {E j b : Nat} (hb : b < 9) (h : E.testBit b = true) (e : cnt E b = j) : bat E j = b := by
  refine fsf_eq (Nat.le_refl 9) hb (by rw [h, decide_eq_true e]; rfl) (fun i hi => ?_)
  cases q : E.testBit i
  · rfl
  · have := cnt_bl hi q
    rw [decide_eq_false (by omega)]
    rfl
theorem q_bitAt {E j : Nat} {t : St} (hE : E < 512) (hj : j < cnt E 9) : FX8_bitAt (nI E) (nI j) t = some (nI (bat E j), t) := by
  obtain ⟨b, b1, b2, b3⟩ := cnt_hit hj
  have hj9 : cnt E 9 ≤ 9 := cnt_le
  rw [bat_eq b1 b2 b3]
  refine Ok.eq ?_
  unfold FX8_bitAt
  refine Ok.bd (fun r u => t = u ∧ r = .inl (nI b)) ?_ ?_
  · refine Ok.count 9 (fun i c s => t = s ∧ c = (nI (cnt E i), nI i) ∧ i ≤ b) ?_ ?_ (Nat.zero_le _) ⟨rfl, rfl, Nat.zero_le _⟩
    · rintro i c s hi ⟨rfl, rfl, hI⟩
      unfold SX8_bitAt_4
      dsimp only
      have ci : cnt E i ≤ i := cnt_le
      refine Ok.ifF (by rw [li_9, nI_leP (by omega) (by omega)]; omega) (Ok.cv (bitn (by omega) (by omega)) (Ok.ite (fun c => Ok.ret ⟨rfl, ?_, ?_⟩) (fun c => Ok.cv (nI_eqP (by omega) (by omega)) (Ok.ite (fun c2 => Ok.ret ⟨rfl, ?_⟩) (fun c2 => Ok.ret ⟨rfl, ?_, ?_⟩)))))
      · rw [nI_1, cnt_succ, if_neg (by rw [c]; decide)]
        rfl
      · rcases Nat.lt_or_ge i b with q | q
        · exact q
        · have : i = b := by omega
          rw [this, b2] at c
          cases c
      · rw [show i = b by
          rcases Nat.lt_or_ge i b with q | q
          · have := cnt_bl q (bT c)
            omega
          · omega]
      · rw [nI_1, nI_1, cnt_succ, if_pos (bT c)]
      · rcases Nat.lt_or_ge i b with q | q
        · exact q
        · have : i = b := by omega
          rw [this] at c2
          exact absurd b3 c2
    · rintro c s ⟨rfl, rfl, hI⟩
      omega
  · rintro _ _ ⟨rfl, rfl⟩
    exact Ok.ret ⟨rfl, rfl⟩
abbrev FR := Int32 ⊕ Nat
noncomputable def flA (w : Nat → Nat → Nat) (A p kk c : Nat) : Nat → FR
  | 0 => .inr c
  | a + 1 => Sum.elim .inl (fun c => if c ≤ kk ∧ kk < c + cnt (fen w A p a) 9 then .inl (nI (10 * a + bat (fen w A p a) (kk - c))) else .inr (c + cnt (fen w A p a) 9)) (flA w A p kk c a)
noncomputable def flI (n : Nat) (w : Nat → Nat → Nat) (o : Nat → Nat) (kk : Nat) : Nat → FR
  | 0 => .inr 0
  | i + 1 => Sum.elim .inl (fun c => flA w (amk o i) (o i) kk c n) (flI n w o kk i)
theorem flA_l {w : Nat → Nat → Nat} {A p kk c a : Nat} {r : Int32} (h : flA w A p kk c a = .inl r) : ∀ {b : Nat}, a ≤ b → flA w A p kk c b = .inl r
  | 0, hb => by
    have : a = 0 := by omega
    subst this
    exact h
  | b + 1, hb => by
    by_cases e : a = b + 1
    · rw [← e]; exact h
    · rw [flA, flA_l h (b := b) (by omega)]
      rfl
theorem flI_l {n : Nat} {w : Nat → Nat → Nat} {o : Nat → Nat} {kk a : Nat} {r : Int32} (h : flI n w o kk a = .inl r) : ∀ {b : Nat}, a ≤ b → flI n w o kk b = .inl r
  | 0, hb => by
    have : a = 0 := by omega
    subst this
    exact h
  | b + 1, hb => by
    by_cases e : a = b + 1
    · rw [← e]; exact h
    · rw [flI, flI_l h (b := b) (by omega)]
      rfl
theorem flA_s {w : Nat → Nat → Nat} {A p kk c0 c a : Nat} (h : flA w A p kk c0 a = .inr c) : flA w A p kk c0 (a + 1) = if c ≤ kk ∧ kk < c + cnt (fen w A p a) 9 then .inl (nI (10 * a + bat (fen w A p a) (kk - c))) else .inr (c + cnt (fen w A p a) 9) := by
  rw [flA, h]
  rfl
theorem flI_s {n : Nat} {w : Nat → Nat → Nat} {o : Nat → Nat} {kk i c : Nat} (h : flI n w o kk i = .inr c) : flI n w o kk (i + 1) = flA w (amk o i) (o i) kk c n := by
  rw [flI, h]
  rfl
/-- k, as a number: NONE is beyond all -/
def KK (k : Int32) (kk : Nat) : Prop := kk < 2147483648 ∧ ((k = -1 ∧ kk = 1000000) ∨ k = nI kk)
theorem KK.lt {k : Int32} {kk c : Nat} (h : KK k kk) (hc : c < 100000) : (k < nI c) = (k = -1 ∨ kk < c) := by
  obtain ⟨h1, ⟨rfl, rfl⟩ | rfl⟩ := h
  · refine propext ⟨fun _ => Or.inl rfl, fun _ => ?_⟩
    rw [Int32.lt_iff_toInt_lt, nI_toInt (by omega), show (-1 : Int32).toInt = -1 by decide]
    omega
  · rw [nI_ltP h1 (by omega)]
    exact propext ⟨fun q => Or.inr q, fun q => q.resolve_left (n1n h1)⟩
theorem KK.le {k : Int32} {kk c : Nat} (h : KK k kk) (hc : c < 100000) : (nI c ≤ k) = (k ≠ -1 ∧ c ≤ kk) := by
  obtain ⟨h1, ⟨rfl, rfl⟩ | rfl⟩ := h
  · refine propext ⟨fun q => ?_, fun q => absurd rfl q.1⟩
    rw [Int32.le_iff_toInt_le, nI_toInt (by omega), show (-1 : Int32).toInt = -1 by decide] at q
    omega
  · rw [nI_leP (by omega) h1]
    exact propext ⟨fun q => ⟨n1n h1, q⟩, fun q => q.2⟩
theorem KK.eq {k : Int32} {kk c : Nat} (h : KK k kk) (hc : c < 100000) : (nI c = k) = (c = kk) := by
  obtain ⟨h1, ⟨rfl, rfl⟩ | rfl⟩ := h
  · exact propext ⟨fun q => absurd q (n1n (by omega)), fun q => by omega⟩
  · exact nI_eqP (by omega) (by omega)
theorem KK.sub {k : Int32} {kk c : Nat} (h : KK k kk) (h1 : k ≠ -1) (hc : c ≤ kk) : k - nI c = nI (kk - c) := by
  obtain ⟨h2, ⟨rfl, rfl⟩ | rfl⟩ := h
  · exact absurd rfl h1
  · exact nI_sub hc
/-! the class -/
theorem c_flA {x n l A p kk c0 : Nat} {w : Nat → Nat → Nat} {k w4 w5 : Int32} {t : St} (h : CN x n l w t) (g : netAt x = true) (hw : WF n w) (hn : n < 10) (hA : A < 512) (hK : KK k kk) (hc0 : c0 ≤ 1000) : wh (SX8_newLine_37 x k (nI A) w4 w5 (nI (nbm w A p))) (nI c0, (0 : Int32)) t = some (Sum.map id nI (flA w A p kk c0 n), t) := by
  refine Ok.eq (Ok.mono (R := fun r u => t = u ∧ r = Sum.map id nI (flA w A p kk c0 n)) ?_ (fun r u h => h))
  refine Ok.count n (fun a c s => t = s ∧ ∃ d, flA w A p kk c0 a = .inr d ∧ c = (nI d, nI a) ∧ d ≤ c0 + 9 * a) ?_ ?_ (Nat.zero_le _) ⟨rfl, c0, rfl, rfl, Nat.le_refl _⟩
  · rintro a c s ha ⟨rfl, d, hd, rfl, d9⟩
    unfold SX8_newLine_37
    dsimp only
    have fl := fen_lt (w := w) (A := A) (p := p) (a := a)
    have f9 : cnt (fen w A p a) 9 ≤ 9 := cnt_le
    refine Ok.rdE h.1 (Ok.ifF (by rw [nI_leP (by omega) (by omega)]; omega) ?_)
    refine Ok.bq (a := nI (fen w A p a)) (t := t) (Ok.eq ?_) ?_
    · unfold fen
      refine Ok.cv (bitn (by have := nbm_lt (w := w) (S := A) (p := p); omega) (by omega)) (Ok.ite (fun c => Ok.ret ⟨rfl, ?_⟩) (fun c => ?_))
      · rw [if_neg (by rw [c]; decide)]; rfl
      · rw [if_pos (bT c)]
        unfold FX6_aboveOf
        rw [abv_all _ nbm_lt a (by omega)]
        refine Ok.bq rfl (Ok.bq (q_neighbours h g hw hn hA (by omega)) (Ok.ret ⟨rfl, ?_⟩))
        rw [nI_dif (dif_lt nbm_lt) nbm_lt]
    · refine Ok.bq (q_bitCount fl) ?_
      rw [nI_add]
      have fs := flA_s hd
      refine Ok.cv (hK.lt (by omega)) (Ok.ite (fun c1 => Ok.ret ⟨rfl, d + cnt (fen w A p a) 9, ?_, by rw [nI_1], by omega⟩) (fun c1 => Ok.cv (hK.le (by omega)) (Ok.ite (fun c2 => Ok.ret ⟨rfl, d + cnt (fen w A p a) 9, ?_, by rw [nI_1], by omega⟩) (fun c2 => ?_))))
      · rw [fs]
        refine if_neg (fun q => ?_)
        rcases c1 with e | e
        · obtain ⟨-, ⟨-, e2⟩ | e2⟩ := hK
          · omega
          · rw [e2] at e; exact n1n (by omega) e
        · omega
      · rw [fs]
        exact if_neg (fun q => by omega)
      · have k1 : k ≠ -1 := fun q => c1 (Or.inl q)
        have k2 : d ≤ kk := Nat.le_of_not_lt (fun q => c1 (Or.inr q))
        have k3 : kk < d + cnt (fen w A p a) 9 := Nat.lt_of_not_le (fun q => c2 ⟨k1, q⟩)
        rw [if_pos ⟨k2, k3⟩] at fs
        rw [hK.sub k1 k2]
        refine Ok.bq (q_bitAt fl (by omega)) (Ok.ret ⟨rfl, ?_⟩)
        rw [flA_l fs (b := n) (by omega), li_10, nI_mul, nI_add]
        rfl
  · rintro c s ⟨rfl, d, hd, rfl, d9⟩
    unfold SX8_newLine_37
    dsimp only
    refine Ok.rdE h.1 (Ok.ifT (by rw [nI_leP (by omega) (by omega)]; omega) (Ok.ret ⟨rfl, ?_⟩))
    rw [hd]
    rfl
theorem flA_bd {w : Nat → Nat → Nat} {A p kk c d : Nat} : ∀ {a : Nat}, flA w A p kk c a = .inr d → d ≤ c + 9 * a
  | 0, h => by
    have : c = d := Sum.inr.inj h
    omega
  | a + 1, h => by
    rw [flA] at h
    cases e : flA w A p kk c a with
    | inl r => rw [e] at h; cases h
    | inr c1 =>
      rw [e] at h
      have h : (if c1 ≤ kk ∧ kk < c1 + cnt (fen w A p a) 9 then (.inl (nI (10 * a + bat (fen w A p a) (kk - c1))) : FR) else .inr (c1 + cnt (fen w A p a) 9)) = .inr d := h
      have ih := flA_bd e
      have f9 : cnt (fen w A p a) 9 ≤ 9 := cnt_le
      by_cases q : c1 ≤ kk ∧ kk < c1 + cnt (fen w A p a) 9
      · rw [if_pos q] at h; cases h
      · rw [if_neg q] at h
        have := Sum.inr.inj h
        omega
def flF (k : Int32) (r : FR) : Int32 := Sum.elim id (fun c => if k = -1 then nI c else -1) r
theorem q_newLine {x n l kk : Nat} {w : Nat → Nat → Nat} {o : Nat → Nat} {k : Int32} {t : St} (h : CN x n l w t) (g : netAt x = true) (hw : WF n w) (hn : n < 10) (ho : CO x n o t) (h9 : ∀ i, o i < 9) (hK : KK k kk) : FX8_newLine x k t = some (flF k (flI n w o kk n), t) := by
  refine Ok.eq ?_
  unfold FX8_newLine
  refine Ok.ckT g (Ok.bd (fun r u => t = u ∧ r = Sum.map id nI (flI n w o kk n)) ?_ ?_)
  · refine Ok.count n (fun i c s => t = s ∧ ∃ d, flI n w o kk i = .inr d ∧ c = (nI (amk o i), nI d, nI i) ∧ d ≤ 81 * i) ?_ ?_ (Nat.zero_le _) ⟨rfl, 0, rfl, rfl, Nat.le_refl _⟩
    · rintro i c s hi ⟨rfl, d, hd, rfl, d9⟩
      unfold SX8_newLine_7
      dsimp only
      have hA : amk o i < 512 := amk_lt (fun j _ => h9 j)
      have o9 := h9 i
      have fs := flI_s hd
      refine Ok.rdE h.1 (Ok.ifF (by rw [nI_leP (by omega) (by omega)]; omega) (Ok.ckT (inb_n (by omega) (by omega)) ?_))
      rw [nI_cl (by omega)]
      refine Ok.rdE (ho i hi) (Ok.bq (q_neighbours h g hw hn hA o9) (Ok.bq (c_flA h g hw hn hA hK (by omega)) ?_))
      cases e : flA w (amk o i) (o i) kk d n with
      | inl r =>
        rw [e] at fs
        refine Ok.ret ⟨rfl, ?_⟩
        rw [flI_l fs (b := n) (by omega)]
        rfl
      | inr c1 =>
        rw [e] at fs
        have b := flA_bd e
        refine Ok.ret ⟨rfl, c1, fs, ?_, by omega⟩
        show (nI (amk o i) ||| shl 1 (nI (o i)), nI c1, nI i + 1) = _
        rw [li_1, shl_1b (by omega), nI_or, ← li_1, nI_1]
        rfl
    · rintro c s ⟨rfl, d, hd, rfl, d9⟩
      unfold SX8_newLine_7
      dsimp only
      refine Ok.rdE h.1 (Ok.ifT (by rw [nI_leP (by omega) (by omega)]; omega) (Ok.ret ⟨rfl, ?_⟩))
      rw [hd]
      rfl
  · rintro _ _ ⟨rfl, rfl⟩
    cases flI n w o kk n with
    | inl r => exact Ok.ret ⟨rfl, rfl⟩
    | inr c =>
      show Ok (if k = -1 then some (nI c, t) else some (-1, t)) (fun r u => t = u ∧ r = if k = -1 then nI c else -1)
      exact Ok.ite (fun q => Ok.ret ⟨rfl, by rw [if_pos q]⟩) (fun q => Ok.ret ⟨rfl, by rw [if_neg q]⟩)
/-! the reference -/
theorem m_flB {s n A p kk a c0 : Nat} {w : Nat → Nat → Nat} {k w4 : Int32} {t : St} (h : RN s n w t) (hs : s < 3) (hw : WF n w) (hn : n < 10) (hA : A < 512) (hK : KK k kk) (ha : a < n) (hc0 : c0 ≤ 2000) : wh (SX12_filled_75 (nI s) k w4 (nI A) (nI (nbm w A p)) (nI a)) (nI c0, nI (a + 1)) t = some (Sum.map id nI (if c0 ≤ kk ∧ kk < c0 + cnt (fen w A p a) 9 then (.inl (nI (10 * a + bat (fen w A p a) (kk - c0))) : FR) else .inr (c0 + cnt (fen w A p a) 9)), t) := by
  have fl := fen_lt (w := w) (A := A) (p := p) (a := a)
  have z0 : ∀ b, b ≤ a → (fen w A p a).testBit b = false := fun b hb => bF (fun q => by
    have := (fen_b (by omega) (by omega)).mp q
    omega)
  have z1 : ∀ m, m ≤ a + 1 → cnt (fen w A p a) m = 0 := fun m => by
    induction m with
    | zero => intro _; rfl
    | succ m ih =>
      intro hm
      rw [cnt_succ, ih (by omega), if_neg (by rw [z0 m (by omega)]; decide)]
  have zn : cnt (fen w A p a) 9 = cnt (fen w A p a) n := by
    have : ∀ m, n ≤ m → m ≤ 9 → cnt (fen w A p a) m = cnt (fen w A p a) n := fun m => by
      induction m with
      | zero =>
        intro h1 _
        rw [show n = 0 by omega]
      | succ m ih =>
        intro h1 h2
        by_cases e : n = m + 1
        · rw [e]
        · rw [cnt_succ, ih (by omega) (by omega), if_neg (fun q => ?_)]
          · rfl
          · obtain ⟨-, -, q2, -⟩ := (fen_b (by omega) (by omega)).mp q
            have q3 := ((nbm_bit (by omega)).mp q2).1
            exact absurd (q3 (fun r => r < n) (fun r hr => (hw.b hr).2) (fun r r' _ _ hr => (hw.b hr).2)) (by omega)
    exact this 9 (by omega) (Nat.le_refl 9)
  refine Ok.eq ?_
  refine Ok.count (n - (a + 1)) (fun j c s' => t = s' ∧ c = (nI (c0 + cnt (fen w A p a) (a + 1 + j)), nI (a + 1 + j)) ∧ ∀ b, b < a + 1 + j → (fen w A p a).testBit b = true → c0 + cnt (fen w A p a) b ≠ kk) ?_ ?_ (Nat.zero_le _) ⟨rfl, by rw [z1 (a + 1 + 0) (by omega)]; rfl, fun b hb q => by rw [z0 b (by omega)] at q; cases q⟩
  · rintro j c s' hj ⟨rfl, rfl, hI⟩
    unfold SX12_filled_75
    dsimp only
    have cb : cnt (fen w A p a) (a + 1 + j) ≤ a + 1 + j := cnt_le
    have nb := nbm_lt (w := w) (S := A) (p := p)
    have na := nbm_lt (w := w) (S := A) (p := a)
    have fb := fen_b (w := w) (A := A) (p := p) (a := a) (b := a + 1 + j) (by omega) (by omega)
    have skip : (fen w A p a).testBit (a + 1 + j) = false → (nI (c0 + cnt (fen w A p a) (a + 1 + j)), nI (a + 1 + j) + 1) = (nI (c0 + cnt (fen w A p a) (a + 1 + (j + 1))), nI (a + 1 + (j + 1))) ∧ ∀ b, b < a + 1 + (j + 1) → (fen w A p a).testBit b = true → c0 + cnt (fen w A p a) b ≠ kk := fun q => by
      refine ⟨?_, fun b hb hq => ?_⟩
      · rw [nI_1, show a + 1 + (j + 1) = a + 1 + j + 1 by omega, cnt_succ, if_neg (by rw [q]; decide)]
        rfl
      · by_cases e : b = a + 1 + j
        · rw [e, q] at hq; cases hq
        · exact hI b (by omega) hq
    refine Ok.bq (q_points h hs) (Ok.ifF (by rw [nI_leP (by omega) (by omega)]; omega) (Ok.bq (q_has (by omega) (by omega)) (Ok.cv b01 (Ok.ite (fun c => Ok.ret ⟨rfl, skip (bF (fun q => ?_))⟩) (fun c => Ok.bq (q_has (by omega) (by omega)) (Ok.cv b01 (Ok.ite (fun c2 => Ok.ret ⟨rfl, skip (bF (fun q => ?_))⟩) (fun c2 => Ok.bq (q_neighboursM h hs hw hn hA (by omega)) (Ok.bq (q_has (by omega) (by omega)) (Ok.cv b01 (Ok.ite (fun c3 => ?_) (fun c3 => Ok.ret ⟨rfl, skip (bF (fun q => ?_))⟩))))))))))))
    · rw [(fb.mp q).1] at c; cases c
    · rw [(fb.mp q).2.2.1] at c2; cases c2
    · have hb : (fen w A p a).testBit (a + 1 + j) = true := fb.mpr ⟨bT c, by omega, bT c2, c3⟩
      have ct := cnt_bl (E := fen w A p a) (a := a + 1 + j) (b := 9) (by omega) hb
      refine Ok.cv (hK.eq (by omega)) (Ok.ite (fun c4 => Ok.ret ⟨rfl, ?_⟩) (fun c4 => Ok.ret ⟨rfl, ?_, fun b hb' hq => ?_⟩))
      · rw [if_pos (c := c0 ≤ kk ∧ kk < c0 + cnt (fen w A p a) 9) (by omega), bat_eq (b := a + 1 + j) (by omega) hb (by omega), li_10, nI_mul, nI_add]
        rfl
      · rw [nI_1, nI_1, show a + 1 + (j + 1) = a + 1 + j + 1 by omega, cnt_succ, if_pos hb]
        rfl
      · by_cases e : b = a + 1 + j
        · rw [e]; exact c4
        · exact hI b (by omega) hq
    · rw [(fb.mp q).2.2.2] at c3; exact c3 rfl
  · rintro c s' ⟨rfl, rfl, hI⟩
    unfold SX12_filled_75
    dsimp only
    rw [show a + 1 + (n - (a + 1)) = n by omega] at hI ⊢
    refine Ok.bq (q_points h hs) (Ok.ifT (by rw [nI_leP (by omega) (by omega)]; omega) (Ok.ret ⟨rfl, ?_⟩))
    rw [if_neg (c := c0 ≤ kk ∧ kk < c0 + cnt (fen w A p a) 9) (fun q => ?_), zn]
    · rfl
    · obtain ⟨b, b1, b2, b3⟩ := cnt_hit (E := fen w A p a) (j := kk - c0) (m := n) (by omega)
      exact hI b b1 b2 (by omega)
theorem m_flA {s n A p kk c0 : Nat} {w : Nat → Nat → Nat} {k w4 : Int32} {t : St} (h : RN s n w t) (hs : s < 3) (hw : WF n w) (hn : n < 10) (hA : A < 512) (hK : KK k kk) (hc0 : c0 ≤ 1000) : wh (SX12_filled_59 (nI s) k w4 (nI A) (nI (nbm w A p))) (nI c0, (0 : Int32)) t = some (Sum.map id nI (flA w A p kk c0 n), t) := by
  refine Ok.eq ?_
  refine Ok.count n (fun a c s' => t = s' ∧ ∃ d, flA w A p kk c0 a = .inr d ∧ c = (nI d, nI a)) ?_ ?_ (Nat.zero_le _) ⟨rfl, c0, rfl, rfl⟩
  · rintro a c s' ha ⟨rfl, d, hd, rfl⟩
    unfold SX12_filled_59
    dsimp only
    have db := flA_bd hd
    have fs := flA_s hd
    refine Ok.bq (q_points h hs) (Ok.ifF (by rw [nI_leP (by omega) (by omega)]; omega) ?_)
    rw [nI_1]
    refine Ok.bq (m_flB h hs hw hn hA hK ha (by omega)) ?_
    by_cases q : d ≤ kk ∧ kk < d + cnt (fen w A p a) 9
    · rw [if_pos q] at fs ⊢
      refine Ok.ret ⟨rfl, ?_⟩
      rw [flA_l fs (b := n) (by omega)]
      rfl
    · rw [if_neg q] at fs ⊢
      exact Ok.ret ⟨rfl, _, fs, rfl⟩
  · rintro c s' ⟨rfl, d, hd, rfl⟩
    unfold SX12_filled_59
    dsimp only
    refine Ok.bq (q_points h hs) (Ok.ifT (by rw [nI_leP (by omega) (by omega)]; omega) (Ok.ret ⟨rfl, ?_⟩))
    rw [hd]
    rfl
theorem q_filledM2 {s n kk : Nat} {w : Nat → Nat → Nat} {o : Nat → Nat} {k : Int32} {t : St} (h : RN s n w t) (hs : s < 3) (hw : WF n w) (hn : n < 10) (ho : RO s n o t) (h9 : ∀ i, o i < 9) (hK : KK k kk) : wh (SX12_filled_21 (nI s) k) ((0 : Int32), (0 : Int32)) t = some (Sum.map id nI (flI n w o kk n), t) := by
  refine Ok.eq ?_
  refine Ok.count n (fun i c s' => t = s' ∧ ∃ d, flI n w o kk i = .inr d ∧ c = (nI d, nI i) ∧ d ≤ 81 * i) ?_ ?_ (Nat.zero_le _) ⟨rfl, 0, rfl, rfl, Nat.le_refl _⟩
  · rintro i c s' hi ⟨rfl, d, hd, rfl, d9⟩
    unfold SX12_filled_21
    dsimp only
    have hA : amk o i < 512 := amk_lt (fun j _ => h9 j)
    have fs := flI_s hd
    refine Ok.bq (q_points h hs) (Ok.ifF (by rw [nI_leP (by omega) (by omega)]; omega) (Ok.bq (q_aheadOfM hs hn ho (fun i _ => h9 i) (by omega)) (Ok.bq (q_at ho hs hn hi) (Ok.bq (q_neighboursM h hs hw hn hA (h9 i)) (Ok.bq (m_flA h hs hw hn hA hK (by omega)) ?_)))))
    cases e : flA w (amk o i) (o i) kk d n with
    | inl r =>
      rw [e] at fs
      refine Ok.ret ⟨rfl, ?_⟩
      rw [flI_l fs (b := n) (by omega)]
      rfl
    | inr c1 =>
      rw [e] at fs
      have b := flA_bd e
      exact Ok.ret ⟨rfl, c1, fs, by rw [← nI_1], by omega⟩
  · rintro c s' ⟨rfl, d, hd, rfl, d9⟩
    unfold SX12_filled_21
    dsimp only
    refine Ok.bq (q_points h hs) (Ok.ifT (by rw [nI_leP (by omega) (by omega)]; omega) (Ok.ret ⟨rfl, ?_⟩))
    rw [hd]
    rfl
theorem z3_filled {σ : St} (hI : INV3 σ) (a b : Int32) : BOTH (FX11_filled a b σ) (fun u => FX12_filled a b u) := by
  rcases r3 (a := a) with ⟨s, hs, rfl⟩ | ha
  · obtain ⟨v, h⟩ := hI.sl hs
    have hn : v.1 < 10 := h.1.1.1
    have hw := h.1.1.2.1
    have h0 := h.2.1.1.1
    have hr := h.2.2.1
    have gx := n_sl hs
    by_cases h1 : 1 ≤ v.1
    · by_cases hb : (-1 : Int32) ≤ b
      · have hK : ∃ kk, KK b kk := by
          by_cases b1 : b = -1
          · exact ⟨1000000, by omega, Or.inl ⟨b1, rfl⟩⟩
          · have c : ¬ b < 0 := fun q => by
              rw [Int32.lt_iff_toInt_lt, show (0 : Int32).toInt = 0 by decide] at q
              rw [Int32.le_iff_toInt_le, show (-1 : Int32).toInt = -1 by decide] at hb
              exact b1 (Int32.toInt_inj.mp (by rw [show (-1 : Int32).toInt = -1 by decide]; omega))
            obtain ⟨j, hj, rfl⟩ := nI_of c
            exact ⟨j, hj, Or.inr rfl⟩
        obtain ⟨kk, hK⟩ := hK
        refine BOTH.no (v := flF b (flI v.1 v.2.2.1 v.2.2.2 kk v.1)) hI ?_ ?_
        · unfold FX11_filled
          exact Ok.eq (netI hs hn h0 (fun q => absurd h1 (by omega)) (fun _ g => Ok.ifT hb (Ok.bq (q_newLine h.2.1.1 gx hw hn h.2.1.2 h.1.o9 hK) (Ok.ret ⟨rfl, rfl⟩))))
        · refine Ok.eq ?_
          unfold FX12_filled
          refine Ok.bq (g_isN1 hs hn hr h1) (Ok.ifF (by decide) (Ok.ifT hb (Ok.bq (q_filledM2 hr hs hw hn h.2.2.2 h.1.o9 hK) ?_)))
          cases flI v.1 v.2.2.1 v.2.2.2 kk v.1 with
          | inl r => exact Ok.ret ⟨rfl, rfl⟩
          | inr c =>
            show Ok (if b = -1 then some (nI c, σ) else some (-1, σ)) (fun r u => σ = u ∧ r = if b = -1 then nI c else -1)
            exact Ok.ite (fun q => Ok.ret ⟨rfl, by rw [if_pos q]⟩) (fun q => Ok.ret ⟨rfl, by rw [if_neg q]⟩)
      · refine BOTH.no (v := -2) hI ?_ ?_
        · unfold FX11_filled
          exact Ok.eq (netI hs hn h0 (fun _ => ⟨rfl, rfl⟩) (fun h1 g => Ok.ifF hb (Ok.ret ⟨rfl, rfl⟩)))
        · refine Ok.eq ?_
          unfold FX12_filled
          exact Ok.bq (g_isN1 hs hn hr h1) (Ok.ifF (by decide) (Ok.ifF hb (Ok.ret ⟨rfl, rfl⟩)))
    · refine BOTH.no (v := -2) hI ?_ ?_
      · unfold FX11_filled
        exact Ok.eq (netI hs hn h0 (fun _ => ⟨rfl, rfl⟩) (fun h g => absurd h h1))
      · refine Ok.eq ?_
        unfold FX12_filled
        exact Ok.bq (g_isN0 hs hn hr (by omega)) (Ok.ifT rfl (Ok.ret ⟨rfl, rfl⟩))
  · refine BOTH.no (v := -2) hI ?_ ?_
    · unfold FX11_filled
      exact net0 ha
    · refine Ok.eq ?_
      unfold FX12_filled
      exact Ok.bq (g_isNet0 ha) (Ok.ifT rfl (Ok.ret ⟨rfl, rfl⟩))
end
section
/-! the least of a second measure over those rows that have the least of a first (wip/sim/g99g.py) -/
theorem am_ok {n m1 m2 T L : Nat} {w : Nat → Nat → Nat} (hw : WF n w) (hn : n < 10) (hg : Gr m1) : ∀ {k S : Nat}, S < 2 ^ n → n - cnt S n = k → R1 n w m1 S ≤ L → rst n m2 T (fun S p => decide (cst n w m1 S p ≤ L)) (cst n w m2) k S ≤ 729 * k
  | 0, S, _, _, _ => Nat.zero_le _
  | k + 1, S, hS, hk, hL => by
    have hlt : S < 2 ^ n - 1 := by
      rcases Nat.lt_or_ge S (2 ^ n - 1) with q | q
      · exact q
      · have e : S = 2 ^ n - 1 := by omega
        rw [e, cnt_fl] at hk
        omega
    obtain ⟨p, hp, hb, e⟩ := (R1_pr (m := m1) hw hn).1.2 S hlt
    rw [jn_g hg] at e
    have h1 : cst n w m1 S p ≤ L := Nat.le_trans (Nat.le_trans (Nat.le_max_left _ _) (Nat.le_of_eq e.symm)) hL
    have h2 : R1 n w m1 (S ||| 2 ^ p) ≤ L := Nat.le_trans (Nat.le_trans (Nat.le_max_right _ _) (Nat.le_of_eq e.symm)) hL
    obtain ⟨-, u1, u2⟩ := set_up hS hp hb
    have ih := am_ok (m2 := m2) (T := T) hw hn hg (k := k) (S := S ||| 2 ^ p) u1 (by omega) h2
    have lb : rst n m2 T (fun S p => decide (cst n w m1 S p ≤ L)) (cst n w m2) (k + 1) S ≤ jn m2 (cst n w m2 S p) (rst n m2 T (fun S p => decide (cst n w m1 S p ≤ L)) (cst n w m2) k (S ||| 2 ^ p)) := by
      rw [rst]
      exact mns_lb (f := fun p => jn m2 (cst n w m2 S p) (rst n m2 T (fun S p => decide (cst n w m1 S p ≤ L)) (cst n w m2) k (S ||| 2 ^ p))) hp (by rw [hb, decide_eq_true h1]; rfl)
    have jl := jn_le (m := m2) (cst_le (m := m2) (S := S) (p := p) hw hn) ih
    omega
noncomputable def amv (n : Nat) (w : Nat → Nat → Nat) (m1 m2 T : Nat) : Nat := rst n m2 T (fun S p => decide (cst n w m1 S p ≤ R1 n w m1 0)) (cst n w m2) n 0
theorem amv_T {n m1 m2 : Nat} {w : Nat → Nat → Nat} (hw : WF n w) (hn : n < 10) (hg : Gr m1) : amv n w m1 m2 1048576 = amv n w m1 m2 1000000 := by
  rcases rst_T (n := n) (m := m2) (T := 1048576) (U := 1000000) (al := fun S p => decide (cst n w m1 S p ≤ R1 n w m1 0)) (c := cst n w m2) (fun S p => cst_le hw hn) (by omega) (by omega) (k := n) (S := 0) (by omega) with ⟨h, -⟩ | ⟨h, -⟩
  · exact h
  · have := am_ok (m2 := m2) (T := 1048576) hw hn hg (k := n) (S := 0) (Nat.two_pow_pos n) (by rw [cnt_0]; omega) (Nat.le_refl (R1 n w m1 0))
    omega
theorem il_85 : ilen 85 = 4608 := by decide +kernel
theorem il_86 : ilen 86 = 4608 := by decide +kernel
theorem e_leastWhere {s n l m1 m2 : Nat} {w : Nat → Nat → Nat} {t : St} (hs : s < 3) (h : CN (12 + 24 * s) n l w t) (hw : WF n w) (hn : n < 10) (h1 : m1 < 7) (h2 : m2 < 7) (hm2 : m2 ≠ 2) : Ok (FX9_leastWhere (12 + 24 * s) (nI m2) (nI m1) (nI (R1 n w m1 0)) t) (fun r _ => r = nI (amv n w m1 m2 1048576)) := by
  have g := n_sl hs
  have r0 := (R1_pr (m := m1) hw hn).2.2 0 (Nat.two_pow_pos n)
  unfold FX9_leastWhere
  refine Ok.ckT g (Ok.bd _ (e_fillSteps (ta := 86) h g hw hn h1 il_86 (by omega) (by omega)) ?_)
  rintro _ t1 ⟨f1, s1⟩
  have n1 : CN (12 + 24 * s) n l w t1 := h.fr (f1 _ (by omega) (by omega)) (f1 _ (by omega) (by omega)) (f1 _ (by omega) (by omega))
  refine Ok.bd _ (e_fillSteps (ta := 85) n1 g hw hn h2 il_85 (by omega) (by omega)) ?_
  rintro _ t2 ⟨f2, s2⟩
  have n2 : CN (12 + 24 * s) n l w t2 := n1.fr (f2 _ (by omega) (by omega)) (f2 _ (by omega) (by omega)) (f2 _ (by omega) (by omega))
  have s86 : STP 86 n (cst n w m1) t2 := fun S p hS hp hb => by rw [f2 86 (by decide) (by decide)]; exact s1 S p hS hp hb
  refine Ok.bd _ (e_fillRest (ta := 86) (L := R1 n w m1 0) n2 g hn h2 hm2 (fun S p => cst_le hw hn) (fun S p => cst_le hw hn) (by omega) il_86 s2 s86 (by omega)) ?_
  rintro _ t3 ⟨f3, s3⟩
  refine Ok.ckT (by decide) (Ok.rdE (x := nI (amv n w m1 m2 1048576)) ?_ (Ok.ret rfl))
  rw [cl0, s3 0 (Nat.two_pow_pos n)]
  show nI (rst n m2 _ _ _ (n - cnt 0 n) 0) = _
  rw [cnt_0]
  rfl
theorem m_amLoop {s n m1 m2 : Nat} {w : Nat → Nat → Nat} {t : St} {L : Nat} (h : RN s n w t) (hs : s < 3) (hw : WF n w) (hn : n < 10) (h2 : m2 < 7) (hL : L ≤ 6561) (e17 : t 149 17 = nI (2 ^ n - 1)) (hA : CSA n (fun _ _ => true) (cst n w m1) t) (hB : ∀ S p, S < 2 ^ n → p < n → S.testBit p = true → t 157 (9 * S + p) = nI 1000000) : Ok (wh (SX12_among_54 (nI s) (nI m2) (nI L)) (0 : Int32) t) (fun _ u => (∀ c, c ≠ 157 → u c = t c) ∧ CSA n (fun S p => decide (cst n w m1 S p ≤ L)) (cst n w m2) u) := by
  have p9 := pow9 (k := n) (by omega)
  have p0 := Nat.two_pow_pos n
  have old : ∀ S p, S < 2 ^ n → p < n → t 157 (9 * S + p) = nI (if S.testBit p = true then 1000000 else cst n w m1 S p) := fun S p hS hp => by
    by_cases c : S.testBit p = true
    · rw [if_pos c]; exact hB S p hS hp c
    · rw [if_neg c]
      have := hA S p hS hp (bF c)
      rw [if_pos rfl] at this
      exact this
  refine Ok.count (2 ^ n) (fun j c s' => c = nI j ∧ (∀ c, c ≠ 157 → s' c = t c) ∧ (∀ S p, S < j → p < n → S.testBit p = false → s' 157 (9 * S + p) = nI (if decide (cst n w m1 S p ≤ L) = true then cst n w m2 S p else 1000000)) ∧ ∀ S p, j ≤ S → S < 2 ^ n → p < n → s' 157 (9 * S + p) = t 157 (9 * S + p)) ?_ ?_ (Nat.zero_le _) ⟨rfl, fun _ _ => rfl, fun S p hS => by omega, fun _ _ _ _ _ => rfl⟩
  · rintro j c s' hj ⟨rfl, sf, s1, s2⟩
    unfold SX12_among_54
    refine Ok.rdE (x := nI (2 ^ n - 1)) (by rw [sf 149 (by decide)]; exact e17) (Ok.ifF (by rw [nI_ltP (by omega) (by omega)]; omega) (Ok.bd (fun _ u => (∀ c, c ≠ 157 → u c = t c) ∧ (∀ S p, S < j + 1 → p < n → S.testBit p = false → u 157 (9 * S + p) = nI (if decide (cst n w m1 S p ≤ L) = true then cst n w m2 S p else 1000000)) ∧ ∀ S p, j + 1 ≤ S → S < 2 ^ n → p < n → u 157 (9 * S + p) = t 157 (9 * S + p)) ?_ (fun _ u hu => Ok.ret ⟨nI_1 j, hu⟩)))
    refine Ok.count n (fun i c u => c = nI i ∧ (∀ c, c ≠ 157 → u c = t c) ∧ (∀ S p, (S < j ∨ (S = j ∧ p < i)) → p < n → S.testBit p = false → u 157 (9 * S + p) = nI (if decide (cst n w m1 S p ≤ L) = true then cst n w m2 S p else 1000000)) ∧ ∀ S p, (j < S ∨ (S = j ∧ i ≤ p)) → S < 2 ^ n → p < n → u 157 (9 * S + p) = t 157 (9 * S + p)) ?_ ?_ (Nat.zero_le _) ⟨rfl, sf, fun S p hS hp hb => s1 S p (by omega) hp hb, fun S p hS h2 hp => s2 S p (by omega) h2 hp⟩
    · rintro i c u hi ⟨rfl, uf, u1, u2⟩
      unfold SX12_among_66
      have c1 := cst_le (m := m1) (S := j) (p := i) hw hn
      have c2 := cst_le (m := m2) (S := j) (p := i) hw hn
      have hu := h.fr (uf 150 (by decide))
      refine Ok.bq (q_points hu hs) (Ok.ifF (by rw [nI_leP (by omega) (by omega)]; omega) ?_)
      rw [li_9, nI_mul, nI_add]
      refine Ok.ckT (inb_n (by omega) (by omega)) ?_
      rw [nI_cl (by omega)]
      refine Ok.rdE (x := nI (if j.testBit i = true then 1000000 else cst n w m1 j i)) (by rw [u2 j i (by omega) hj hi]; exact old j i hj hi) ?_
      have ov : (if j.testBit i = true then 1000000 else cst n w m1 j i) < 2147483648 := by split <;> omega
      refine Ok.bq (a := nI (if (if j.testBit i = true then 1000000 else cst n w m1 j i) ≤ L then cst n w m2 j i else 1000000)) (t := u) (Ok.eq (Ok.cv (nI_leP ov (by omega)) (Ok.ite (fun q => Ok.bq (q_cost hu hs hw hn h2 (by omega) (by omega)) (Ok.ret ⟨rfl, by rw [if_pos q]⟩)) (fun q => Ok.ret ⟨rfl, by rw [if_neg q]; rfl⟩)))) ?_
      refine Ok.ckT (inb_n (by omega) (by omega)) (OkwrE (Ok.ret ⟨nI_1 i, fun c hc => by rw [wr_off c hc]; exact uf c hc, fun S p hS hp hb => ?_, fun S p hS hS2 hp => by rw [wrn (by omega)]; exact u2 S p (by omega) hS2 hp⟩))
      by_cases e : S = j ∧ p = i
      · obtain ⟨rfl, rfl⟩ := e
        rw [wrs, hb]
        show nI (if cst n w m1 S p ≤ L then cst n w m2 S p else 1000000) = _
        by_cases q : cst n w m1 S p ≤ L
        · rw [if_pos q, if_pos (decide_eq_true q)]
        · rw [if_neg q, if_neg (fun k => q (of_decide_eq_true k))]
      · rw [wrn (by omega)]
        exact u1 S p (by omega) hp hb
    · rintro c u ⟨rfl, uf, u1, u2⟩
      unfold SX12_among_66
      exact Ok.bq (q_points (h.fr (uf 150 (by decide))) hs) (Ok.ifT (by rw [nI_leP (by omega) (by omega)]; omega) (Ok.ret ⟨uf, fun S p hS hp hb => u1 S p (by omega) hp hb, fun S p hS hS2 hp => u2 S p (by omega) hS2 hp⟩))
  · rintro c s' ⟨rfl, sf, s1, s2⟩
    unfold SX12_among_54
    exact Ok.rdE (x := nI (2 ^ n - 1)) (by rw [sf 149 (by decide)]; exact e17) (Ok.ifT (by rw [nI_ltP (by omega) (by omega)]; omega) (Ok.ret ⟨sf, fun S p hS hp hb => s1 S p hS hp hb⟩))
theorem a_among {s n m1 m2 : Nat} {w : Nat → Nat → Nat} {t : St} (h : RN s n w t) (hs : s < 3) (hw : WF n w) (hn : n < 10) (hp : 1 ≤ n) (h1 : m1 < 7) (h2 : m2 < 7) (hg : Gr m1) (hm2 : m2 ≠ 2) : Pc (FX12_among (nI s) (nI m1) (nI m2) t) (fun r _ => r = nI (amv n w m1 m2 1000000)) := by
  have r0 := (R1_pr (m := m1) hw hn).2.2 0 (Nat.two_pow_pos n)
  unfold FX12_among
  refine Pc.bq (g_isN1 hs hn h hp) (Pc.ifF (by decide) (Pc.bq (g_msM h1) (Pc.ifF (by decide) (Pc.bq (q_isGreatest h1) ?_))))
  rw [if_pos (c := m1 = 0 ∨ m1 = 1 ∨ m1 = 5) hg]
  refine Pc.ifF (by decide) (Pc.bq (g_msM h2) (Pc.ifF (by decide) (Pc.ifF (by rw [li_2, nI_lit h2 (by omega)]; exact hm2) (Pc.bd _ (m_laysLeast h hs hw hn h1).pc ?_))))
  rintro _ t1 ⟨n1, e17, cA, rA, bA⟩
  refine Pc.ck (fun _ => Pc.rdE (x := nI (R1 n w m1 0)) ?_ (Pc.bd _ (m_amLoop n1 hs hw hn h2 r0 e17 cA bA).pc ?_))
  · rw [cl0, rA 0 (Nat.two_pow_pos n), R12 hw hn (Nat.two_pow_pos n)]
  · rintro _ t2 ⟨f2, c2⟩
    refine Pc.bd _ (m_laysRest (n1.fr (f2 150 (by decide))) hs hn h2 (fun S p => cst_le hw hn) (by rw [f2 149 (by decide)]; exact e17) c2 (fun S p _ _ _ => ⟨_, rfl⟩)).pc ?_
    rintro _ t3 ⟨f3, r3⟩
    refine Pc.ck (fun _ => Pc.rdE (x := nI (amv n w m1 m2 1000000)) ?_ (Pc.ret rfl))
    rw [cl0, r3 0 (Nat.two_pow_pos n)]
    show nI (rst n m2 _ _ _ (n - cnt 0 n) 0) = _
    rw [cnt_0]
    rfl
theorem z3_among {σ : St} (hI : INV3 σ) (a b c : Int32) : BOTH (FX11_among a b c σ) (fun u => FX12_among a b c u) := by
  rcases r3 (a := a) with ⟨s, hs, rfl⟩ | ha
  · obtain ⟨v, h⟩ := hI.sl hs
    have hn : v.1 < 10 := h.1.1.1
    have hw := h.1.1.2.1
    have h0 := h.2.1.1.1
    have hr := h.2.2.1
    by_cases h1 : 1 ≤ v.1
    · by_cases hb : IsR 7 b
      · obtain ⟨q, hq, rfl⟩ := hb
        have hz := z_among hI.1 (nI s) (nI q) c
        by_cases hg : Gr q
        · have nq2 : q ≠ 2 := by unfold Gr at hg; omega
          have bd1 : ∀ u, FX11_isBounded (nI q) u = some (1, u) := fun u => by
            rw [g_bd hq, if_pos (by unfold Gr at hg; omega)]
          by_cases hc : IsR 7 c
          · obtain ⟨r, hr7, rfl⟩ := hc
            by_cases c2 : r = 2
            · subst c2
              refine srA hI hz (-2) ?_ (fun u => fo_FX12_among (P := P3) _ _ _ (fun c i h => by unfold P3 at h; omega)) (fun u hu => ?_)
              · unfold FX11_among
                refine Pc.bd _ (r_fof hI hs h h1 hq) ?_
                rintro _ u ⟨rfl, z, S⟩
                exact Pc.ck (fun _ => Pc.bq (bd1 u) (Pc.ifF (by decide) (Pc.ite (fun _ => Pc.ret ⟨rfl, S⟩) (fun _ => Pc.bq (g_pr hr7) (Pc.ifT rfl (Pc.ret ⟨rfl, S⟩))))))
              · unfold FX12_among
                refine Pc.bq (g_isN1 hs hn (hu.rn hr) h1) (Pc.ifF (by decide) (Pc.bq (g_msM hq) (Pc.ifF (by decide) (Pc.bq (q_isGreatest hq) ?_))))
                rw [if_pos (c := q = 0 ∨ q = 1 ∨ q = 5) hg]
                exact Pc.ifF (by decide) (Pc.bq (g_msM hr7) (Pc.ifF (by decide) (Pc.ifT rfl (Pc.ret rfl))))
            · refine srA hI hz (nI (amv v.1 v.2.2.1 q r 1048576)) ?_ (fun u => fo_FX12_among (P := P3) _ _ _ (fun c i h => by unfold P3 at h; omega)) (fun u hu => ?_)
              · unfold FX11_among
                refine Pc.bd _ (r_fof hI hs h h1 hq) ?_
                rintro _ u ⟨rfl, z, S⟩
                refine Pc.ck (fun _ => Pc.bq (bd1 u) (Pc.ifF (by decide) (Pc.ifF (by rw [li_2, nI_lit hq (by omega)]; exact nq2) (Pc.bq (g_pr hr7) ?_))))
                rw [if_neg c2]
                refine Pc.ifF (by decide) (Pc.ck (fun _ => Pc.ck (fun _ => ?_)))
                rw [el10 hs]
                have ez : u (22 + 24 * s + 2 * q) 1 = nI (R1 v.1 v.2.2.1 q 0) := by
                  rw [z.1]
                  unfold lsv
                  rw [if_neg nq2]
                have hu : CN (12 + 24 * s) v.1 v.2.1 v.2.2.1 u := h.2.1.1.fr (cel S.2 (fun i => by unfold PS; omega)) (cel S.2 (fun i => by unfold PS; omega)) (cel S.2 (fun i => by unfold PS; omega))
                refine Pc.rdE ez (Pc.bd _ (Pc.an (e_leastWhere hs hu hw hn hq hr7 c2).pc (fo_FX9_leastWhere (P := P3) _ _ _ _ (fun c i h => by unfold P3 at h; omega)).pc) ?_)
                rintro _ t2 ⟨rfl, f2⟩
                exact Pc.ret ⟨rfl, S.fr f2⟩
              · rw [amv_T hw hn hg]
                exact a_among (hu.rn hr) hs hw hn h1 hq hr7 hg c2
          · refine srA hI hz (-2) ?_ (fun u => fo_FX12_among (P := P3) _ _ _ (fun c i h => by unfold P3 at h; omega)) (fun u hu => ?_)
            · unfold FX11_among
              refine Pc.bd _ (r_fof hI hs h h1 hq) ?_
              rintro _ u ⟨rfl, z, S⟩
              exact Pc.ck (fun _ => Pc.bq (bd1 u) (Pc.ifF (by decide) (Pc.ite (fun _ => Pc.ret ⟨rfl, S⟩) (fun _ => Pc.bq (g_pr0 hc) (Pc.ifT rfl (Pc.ret ⟨rfl, S⟩))))))
            · unfold FX12_among
              refine Pc.bq (g_isN1 hs hn (hu.rn hr) h1) (Pc.ifF (by decide) (Pc.bq (g_msM hq) (Pc.ifF (by decide) (Pc.bq (q_isGreatest hq) ?_))))
              rw [if_pos (c := q = 0 ∨ q = 1 ∨ q = 5) hg]
              exact Pc.ifF (by decide) (Pc.bq (g_msM0 hc) (Pc.ifT rfl (Pc.ret rfl)))
        · refine srA hI hz (-2) ?_ (fun u => fo_FX12_among (P := P3) _ _ _ (fun c i h => by unfold P3 at h; omega)) (fun u hu => ?_)
          · unfold FX11_among
            refine Pc.bd _ (r_fof hI hs h h1 hq) ?_
            rintro _ u ⟨rfl, z, S⟩
            refine Pc.ck (fun _ => Pc.bq (g_bd hq) ?_)
            by_cases q2 : q = 2
            · rw [if_pos (c := q = 0 ∨ q = 1 ∨ q = 2 ∨ q = 5) (by omega)]
              exact Pc.ifF (by decide) (Pc.ifT (by rw [q2]; rfl) (Pc.ret ⟨rfl, S⟩))
            · rw [if_neg (c := q = 0 ∨ q = 1 ∨ q = 2 ∨ q = 5) (by unfold Gr at hg; omega)]
              exact Pc.ifT rfl (Pc.ret ⟨rfl, S⟩)
          · unfold FX12_among
            refine Pc.bq (g_isN1 hs hn (hu.rn hr) h1) (Pc.ifF (by decide) (Pc.bq (g_msM hq) (Pc.ifF (by decide) (Pc.bq (q_isGreatest hq) ?_))))
            rw [if_neg (c := q = 0 ∨ q = 1 ∨ q = 5) hg]
            exact Pc.ifT rfl (Pc.ret rfl)
      · refine BOTH.no (v := -2) hI ?_ ?_
        · unfold FX11_among
          exact Ok.eq (Ok.bq (g_findingOfM hs hn h0 hb) (Ok.ret ⟨rfl, rfl⟩))
        · refine Ok.eq ?_
          unfold FX12_among
          exact Ok.bq (g_isN1 hs hn hr h1) (Ok.ifF (by decide) (Ok.bq (g_msM0 hb) (Ok.ifT rfl (Ok.ret ⟨rfl, rfl⟩))))
    · refine BOTH.no (v := -2) hI ?_ ?_
      · unfold FX11_among
        exact Ok.eq (Ok.bq (g_findingOfN hs (by rw [h0, show v.1 = 0 by omega])) (Ok.ret ⟨rfl, rfl⟩))
      · refine Ok.eq ?_
        unfold FX12_among
        exact Ok.bq (g_isN0 hs hn hr (by omega)) (Ok.ifT rfl (Ok.ret ⟨rfl, rfl⟩))
  · refine BOTH.no (v := -2) hI ?_ ?_
    · unfold FX11_among
      exact Ok.eq (Ok.bq (g_findingOf0 ha) (Ok.ret ⟨rfl, rfl⟩))
    · refine Ok.eq ?_
      unfold FX12_among
      exact Ok.bq (g_isNet0 ha) (Ok.ifT rfl (Ok.ret ⟨rfl, rfl⟩))
end
