/-! what a net has: weights, lines at a point -/
def mxf (f : Nat → Nat) : Nat → Nat
  | 0 => 0
  | k + 1 => Nat.max (mxf f k) (f k)
theorem mxf_le {f : Nat → Nat} {b : Nat} (h : ∀ i, f i ≤ b) : ∀ {n : Nat}, mxf f n ≤ b
  | 0 => Nat.zero_le _
  | n + 1 => Nat.max_le.mpr ⟨mxf_le h, h n⟩
theorem wat_le {n p : Nat} {w : Nat → Nat → Nat} (hw : WF n w) (hn : n < 10) : sm n (w p) ≤ 81 := by
  have := sm_le (f := w p) (b := 9) (n := n) (fun i _ => by have := hw.1 p i; omega)
  omega
theorem wst_le {n k : Nat} {w : Nat → Nat → Nat} (hw : WF n w) (hn : n < 10) (hk : k ≤ n) : sm k (fun p => sm n (w p)) ≤ 729 := by
  have := sm_le (f := fun p => sm n (w p)) (b := 81) (n := k) (fun i _ => wat_le hw hn)
  omega
theorem q_weightAt {x n l p : Nat} {w : Nat → Nat → Nat} {t : St} (h : CN x n l w t) (g : netAt x = true) (hn : n < 10) (hp : p < 9) : FX10_weightAt x (nI p) t = some (nI (sm n (w p)), t) := by
  refine Ok.eq ?_
  unfold FX10_weightAt
  refine Ok.ckT g (Ok.bq (a := nI (sm n (w p))) (t := t) (wq0 n (fun j => (nI (sm j (w p)), nI j)) rfl (fun j hj => ?_) ?_) (Ok.ret ⟨rfl, rfl⟩))
  · unfold SX10_weightAt_4
    dsimp only
    refine Ok.rdE h.1 (Ok.ifF (by rw [nI_leP (by omega) (by omega)]; omega) (Ok.bq (q_weightOf h g hp (by omega)) (Ok.ret ⟨rfl, ?_⟩)))
    rw [nI_add, nI_1]
    rfl
  · unfold SX10_weightAt_4
    dsimp only
    exact Ok.rdE h.1 (Ok.ifT (by rw [nI_leP (by omega) (by omega)]; omega) (Ok.ret ⟨rfl, rfl⟩))
theorem q_weightOfM {s n p : Nat} {w : Nat → Nat → Nat} {t : St} (h : RN s n w t) (hs : s < 3) (hn : n < 10) (hp : p < 9) : FX12_weightOf (nI s) (nI p) t = some (nI (sm n (w p)), t) := by
  refine Ok.eq ?_
  unfold FX12_weightOf
  refine Ok.bq (a := nI (sm n (w p))) (t := t) (wq0 n (fun j => (nI (sm j (w p)), nI j)) rfl (fun j hj => ?_) ?_) (Ok.ret ⟨rfl, rfl⟩)
  · unfold SX12_weightOf_5
    dsimp only
    refine Ok.bq (q_points h hs) (Ok.ifF (by rw [nI_leP (by omega) (by omega)]; omega) (Ok.bq (q_weight h hs hp (by omega)) (Ok.ret ⟨rfl, ?_⟩)))
    rw [nI_add, nI_1]
    rfl
  · unfold SX12_weightOf_5
    dsimp only
    exact Ok.bq (q_points h hs) (Ok.ifT (by rw [nI_leP (by omega) (by omega)]; omega) (Ok.ret ⟨rfl, rfl⟩))
theorem q_wholeWeight {x n l : Nat} {w : Nat → Nat → Nat} {t : St} (h : CN x n l w t) (g : netAt x = true) (hw : WF n w) (hn : n < 10) : FX10_wholeWeight x t = some (nI (sm n (fun p => sm n (w p)) / 2), t) := by
  refine Ok.eq ?_
  unfold FX10_wholeWeight
  have := wst_le hw hn (Nat.le_refl n)
  refine Ok.ckT g (Ok.bq (a := nI (sm n (fun p => sm n (w p)))) (t := t) (wq0 n (fun j => (nI (sm j (fun p => sm n (w p))), nI j)) rfl (fun j hj => ?_) ?_) (Ok.ret ⟨rfl, by rw [li_2, nI_divN (by omega) (by omega) (by omega)]⟩))
  · unfold SX10_wholeWeight_4
    dsimp only
    refine Ok.rdE h.1 (Ok.ifF (by rw [nI_leP (by omega) (by omega)]; omega) (Ok.bq (q_weightAt h g hn (by omega)) (Ok.ret ⟨rfl, ?_⟩)))
    rw [nI_add, nI_1]
    rfl
  · unfold SX10_wholeWeight_4
    dsimp only
    exact Ok.rdE h.1 (Ok.ifT (by rw [nI_leP (by omega) (by omega)]; omega) (Ok.ret ⟨rfl, rfl⟩))
theorem q_allM {s n : Nat} {w : Nat → Nat → Nat} {b : Int32} {t : St} (h : RN s n w t) (hs : s < 3) (hn : n < 10) : wh (SX12_look_28 (nI s) b) ((0 : Int32), (0 : Int32)) t = some (nI (sm n (fun p => sm n (w p))), t) := by
  refine wq0 n (fun j => (nI (sm j (fun p => sm n (w p))), nI j)) rfl (fun j hj => ?_) ?_
  · unfold SX12_look_28
    dsimp only
    refine Ok.bq (q_points h hs) (Ok.ifF (by rw [nI_leP (by omega) (by omega)]; omega) (Ok.bq (q_weightOfM h hs hn (by omega)) (Ok.ret ⟨rfl, ?_⟩)))
    rw [nI_add, nI_1]
    rfl
  · unfold SX12_look_28
    dsimp only
    exact Ok.bq (q_points h hs) (Ok.ifT (by rw [nI_leP (by omega) (by omega)]; omega) (Ok.ret ⟨rfl, rfl⟩))
theorem q_mostWeight {x n l : Nat} {w : Nat → Nat → Nat} {t : St} (h : CN x n l w t) (g : netAt x = true) (hw : WF n w) (hn : n < 10) : FX10_mostWeightAtPoint x t = some (nI (mxf (fun p => sm n (w p)) n), t) := by
  refine Ok.eq ?_
  unfold FX10_mostWeightAtPoint
  refine Ok.ckT g (Ok.bq (a := nI (mxf (fun p => sm n (w p)) n)) (t := t) (wq0 n (fun j => (nI (mxf (fun p => sm n (w p)) j), nI j)) rfl (fun j hj => ?_) ?_) (Ok.ret ⟨rfl, rfl⟩))
  · unfold SX10_mostWeightAtPoint_4
    dsimp only
    have a := mxf_le (f := fun p => sm n (w p)) (b := 81) (fun i => wat_le hw hn) (n := j)
    have b := wat_le (p := j) hw hn
    refine Ok.rdE h.1 (Ok.ifF (by rw [nI_leP (by omega) (by omega)]; omega) (Ok.bq (q_weightAt h g hn (by omega)) (Ok.ret ⟨rfl, ?_⟩)))
    rw [mxI_n (by omega) (by omega), nI_1]
    rfl
  · unfold SX10_mostWeightAtPoint_4
    dsimp only
    exact Ok.rdE h.1 (Ok.ifT (by rw [nI_leP (by omega) (by omega)]; omega) (Ok.ret ⟨rfl, rfl⟩))
theorem q_mostWeightM {s n : Nat} {w : Nat → Nat → Nat} {b : Int32} {t : St} (h : RN s n w t) (hs : s < 3) (hw : WF n w) (hn : n < 10) : wh (SX12_bound_66 (nI s) b) ((0 : Int32), (0 : Int32)) t = some (nI (mxf (fun p => sm n (w p)) n), t) := by
  refine wq0 n (fun j => (nI (mxf (fun p => sm n (w p)) j), nI j)) rfl (fun j hj => ?_) ?_
  · unfold SX12_bound_66
    dsimp only
    have a := mxf_le (f := fun p => sm n (w p)) (b := 81) (fun i => wat_le hw hn) (n := j)
    have b := wat_le (p := j) hw hn
    refine Ok.bq (q_points h hs) (Ok.ifF (by rw [nI_leP (by omega) (by omega)]; omega) (Ok.bq (q_weightOfM h hs hn (by omega)) (Ok.ret ⟨rfl, ?_⟩)))
    rw [mxI_n (by omega) (by omega), nI_1]
    rfl
  · unfold SX12_bound_66
    dsimp only
    exact Ok.bq (q_points h hs) (Ok.ifT (by rw [nI_leP (by omega) (by omega)]; omega) (Ok.ret ⟨rfl, rfl⟩))
theorem q_mostLines {x n l : Nat} {w : Nat → Nat → Nat} {t : St} (h : CN x n l w t) (g : netAt x = true) (hn : n < 10) : FX10_mostLinesAtPoint x t = some (nI (mxf (fun p => cnt (nr w p) 9) n), t) := by
  refine Ok.eq ?_
  unfold FX10_mostLinesAtPoint
  refine Ok.ckT g (Ok.bq (a := nI (mxf (fun p => cnt (nr w p) 9) n)) (t := t) (wq0 n (fun j => (nI (mxf (fun p => cnt (nr w p) 9) j), nI j)) rfl (fun j hj => ?_) ?_) (Ok.ret ⟨rfl, rfl⟩))
  · unfold SX10_mostLinesAtPoint_4
    dsimp only
    have a := mxf_le (f := fun p => cnt (nr w p) 9) (b := 9) (fun i => cnt_le) (n := j)
    have b : cnt (nr w j) 9 ≤ 9 := cnt_le
    have e : FX5_lineCount x (nI j) t = some (nI (cnt (nr w j) 9), t) := by
      refine Ok.eq ?_
      unfold FX5_lineCount
      refine Ok.ckT g (Ok.ckT (inb_n (by omega) (by omega)) ?_)
      rw [nI_cl (by omega)]
      exact Ok.rdE (h.2.2.1 j (by omega)) (Ok.bq (q_bitCount nr_lt) (Ok.ret ⟨rfl, rfl⟩))
    refine Ok.rdE h.1 (Ok.ifF (by rw [nI_leP (by omega) (by omega)]; omega) (Ok.bq e (Ok.ret ⟨rfl, ?_⟩)))
    rw [mxI_n (by omega) (by omega), nI_1]
    rfl
  · unfold SX10_mostLinesAtPoint_4
    dsimp only
    exact Ok.rdE h.1 (Ok.ifT (by rw [nI_leP (by omega) (by omega)]; omega) (Ok.ret ⟨rfl, rfl⟩))
theorem q_degree {s n : Nat} {w : Nat → Nat → Nat} {t : St} (h : RN s n w t) (hs : s < 3) (hw : WF n w) (hn : n < 10) : FX12_degree (nI s) t = some (nI (mxf (fun p => cnt (nr w p) 9) n), t) := by
  refine Ok.eq ?_
  unfold FX12_degree
  refine Ok.bq (a := nI (mxf (fun p => cnt (nr w p) 9) n)) (t := t) (wq0 n (fun j => (nI (mxf (fun p => cnt (nr w p) 9) j), nI j)) rfl (fun j hj => ?_) ?_) (Ok.ret ⟨rfl, rfl⟩)
  · unfold SX12_degree_4
    dsimp only
    have a := mxf_le (f := fun p => cnt (nr w p) 9) (b := 9) (fun i => cnt_le) (n := j)
    have b : cnt (nr w j) 9 ≤ 9 := cnt_le
    refine Ok.bq (q_points h hs) (Ok.ifF (by rw [nI_leP (by omega) (by omega)]; omega) (Ok.bq (q_nearOf h hs hn hw (by omega)) (Ok.bq (q_ones nr_lt) (Ok.ret ⟨rfl, ?_⟩))))
    rw [mxI_n (by omega) (by omega), nI_1]
    rfl
  · unfold SX12_degree_4
    dsimp only
    exact Ok.bq (q_points h hs) (Ok.ifT (by rw [nI_leP (by omega) (by omega)]; omega) (Ok.ret ⟨rfl, rfl⟩))
/-! the core: pure -/
def dgm (w : Nat → Nat → Nat) (S p : Nat) : Nat := cnt (nr w p &&& S) 9
theorem dgm_le {n S p : Nat} {w : Nat → Nat → Nat} (hw : WF n w) (hp : p < 9) : dgm w S p ≤ 8 := by
  have h : (nr w p &&& S).testBit p = false := by
    rw [Nat.testBit_and, nr_bit hp, hw.2.2.1]
    rfl
  have := cnt_lt hp h
  unfold dgm
  omega
theorem dgm_mn {w : Nat → Nat → Nat} {S T p : Nat} (h : ∀ k, S.testBit k = true → T.testBit k = true) : dgm w S p ≤ dgm w T p := cnt_mn (fun k hk => and_bit.mpr ⟨(and_bit.mp hk).1, h k (and_bit.mp hk).2⟩)
/-- the fewest lines in S -/
def mnd (n : Nat) (w : Nat → Nat → Nat) (S : Nat) : Nat := mns (fun p => S.testBit p) (dgm w S) 9 n
theorem mns_ge {P : Nat → Bool} {f : Nat → Nat} {T v : Nat} (hT : v ≤ T) : ∀ {n : Nat}, (∀ p, p < n → P p = true → v ≤ f p) → v ≤ mns P f T n
  | 0, _ => hT
  | n + 1, h => by
    show v ≤ if P n = true then Nat.min (mns P f T n) (f n) else mns P f T n
    have ih := mns_ge (P := P) (f := f) hT (n := n) (fun p hp => h p (by omega))
    by_cases c : P n = true
    · rw [if_pos c]; exact Nat.le_min.mpr ⟨ih, h n (by omega) c⟩
    · rw [if_neg c]; exact ih
def crf (n : Nat) (w : Nat → Nat → Nat) : Nat → Nat
  | 0 => 0
  | k + 1 => Nat.max (crf n w k) (mnd n w (k + 1))
theorem crf_ge {n S : Nat} {w : Nat → Nat → Nat} (h1 : 1 ≤ S) : ∀ {k : Nat}, S ≤ k → mnd n w S ≤ crf n w k
  | 0, h => by omega
  | k + 1, h => by
    by_cases e : S = k + 1
    · rw [e]; exact Nat.le_max_right _ _
    · exact Nat.le_trans (crf_ge h1 (k := k) (by omega)) (Nat.le_max_left _ _)
theorem crf_le {n v : Nat} {w : Nat → Nat → Nat} : ∀ {k : Nat}, (∀ S, 1 ≤ S → S ≤ k → mnd n w S ≤ v) → crf n w k ≤ v
  | 0, _ => Nat.zero_le _
  | k + 1, h => Nat.max_le.mpr ⟨crf_le (fun S h1 h2 => h S h1 (by omega)), h (k + 1) (by omega) (Nat.le_refl _)⟩
theorem gch_min {c : Nat → Nat} {S : Nat} : ∀ {n b : Nat}, gch c S n = some b → ∀ p, p < n → S.testBit p = false → c b ≤ c p
  | 0, b, h, p, hp, _ => by omega
  | n + 1, b, h, p, hp, hb => by
    have ih : ∀ {b}, gch c S n = some b → ∀ p, p < n → S.testBit p = false → c b ≤ c p := fun h => gch_min h
    rw [gch] at h
    by_cases e : S.testBit n = true
    · rw [if_pos e] at h
      have : p ≠ n := fun q => by rw [q, e] at hb; cases hb
      exact ih h p (by omega) hb
    · rw [if_neg e] at h
      cases g : gch c S n with
      | none =>
        rw [g] at h
        have h : some n = some b := h
        obtain rfl := Option.some.inj h
        by_cases q : p = n
        · rw [q]; exact Nat.le_refl _
        · obtain ⟨d, hd⟩ := gch_ex (c := c) (S := S) (n := n) ⟨p, by omega, hb⟩
          rw [g] at hd
          cases hd
      | some d =>
        rw [g] at h
        have h : (if c n < c d then some n else some d) = some b := h
        have hd := ih g
        by_cases q : c n < c d
        · rw [if_pos q] at h
          obtain rfl := Option.some.inj h
          by_cases q2 : p = n
          · rw [q2]; exact Nat.le_refl _
          · have := hd p (by omega) hb
            omega
        · rw [if_neg q] at h
          obtain rfl := Option.some.inj h
          by_cases q2 : p = n
          · rw [q2]; omega
          · exact hd p (by omega) hb
def cmp9 (L : Nat) : Nat := dif 511 L
theorem cmp9_b {L p : Nat} (hp : p < 9) : (cmp9 L).testBit p = !L.testBit p := by
  unfold cmp9
  rw [dif_bit (by omega), bit_511, decide_eq_true hp, Bool.true_and]
/-- the point with the fewest lines of those that are left -/
def fwp (n : Nat) (w : Nat → Nat → Nat) (L : Nat) : Nat := (gch (dgm w L) (cmp9 L) n).getD 0
def cls (n : Nat) (w : Nat → Nat → Nat) : Nat → Nat × Nat
  | 0 => (2 ^ n - 1, 0)
  | k + 1 => (dif (cls n w k).1 (2 ^ fwp n w (cls n w k).1), Nat.max (cls n w k).2 (dgm w (cls n w k).1 (fwp n w (cls n w k).1)))
theorem fwp_in {n L : Nat} {w : Nat → Nat → Nat} (hn : n < 10) (hL : L < 2 ^ n) (h0 : L ≠ 0) : gch (dgm w L) (cmp9 L) n = some (fwp n w L) ∧ fwp n w L < n ∧ L.testBit (fwp n w L) = true ∧ ∀ p, p < n → L.testBit p = true → dgm w L (fwp n w L) ≤ dgm w L p := by
  have hx : ∃ p, p < n ∧ (cmp9 L).testBit p = false := by
    refine Classical.byContradiction (fun q => h0 (bit_ext hL (Nat.two_pow_pos n) (fun k hk => ?_)))
    rw [Nat.zero_testBit]
    cases e : L.testBit k
    · rfl
    · exact absurd ⟨k, hk, by rw [cmp9_b (by omega), e]; rfl⟩ q
  obtain ⟨b, hb⟩ := gch_ex (c := dgm w L) hx
  have e : fwp n w L = b := by unfold fwp; rw [hb]; rfl
  obtain ⟨b1, b2⟩ := gch_in hb
  rw [e]
  refine ⟨hb, b1, ?_, fun p hp hp2 => gch_min hb p hp ?_⟩
  · rw [cmp9_b (by omega)] at b2
    cases q : L.testBit b
    · rw [q] at b2; cases b2
    · rfl
  · rw [cmp9_b (by omega), hp2]; rfl
theorem cnt_out {n L p : Nat} (hL : L < 2 ^ n) (hn : n < 10) (hp : p < n) (h : L.testBit p = true) : cnt (dif L (2 ^ p)) n + 1 = cnt L n ∧ dif L (2 ^ p) < 2 ^ n := by
  have h9 : L < 512 := Nat.lt_of_lt_of_le hL (pow9 (by omega))
  have e : dif L (2 ^ p) ||| 2 ^ p = L := by
    refine bit_ext (n := 9) (or9 (dif_lt h9) (pw9 (by omega))) h9 (fun k hk => ?_)
    rw [Nat.testBit_or, dif_bit h9, pow_bit]
    by_cases q : p = k
    · subst q; rw [h]; simp
    · simp [q]
  have f : (dif L (2 ^ p)).testBit p = false := by
    rw [dif_bit h9, pow_bit]
    simp
  have c := cnt_or (n := n) f
  rw [e, if_pos hp] at c
  exact ⟨c.symm, Nat.lt_of_le_of_lt (by unfold dif; exact Nat.and_le_left) hL⟩
theorem cls_in {n : Nat} {w : Nat → Nat → Nat} (hn : n < 10) : ∀ {k : Nat}, k ≤ n → (cls n w k).1 < 2 ^ n ∧ cnt (cls n w k).1 n = n - k
  | 0, _ => ⟨by show 2 ^ n - 1 < 2 ^ n; have := Nat.two_pow_pos n; omega, by show cnt (2 ^ n - 1) n = n - 0; rw [cnt_fl]; rfl⟩
  | k + 1, hk => by
    obtain ⟨a, b⟩ := cls_in (w := w) hn (k := k) (by omega)
    have h0 : (cls n w k).1 ≠ 0 := fun q => by rw [q, cnt_0] at b; omega
    obtain ⟨-, f1, f2, -⟩ := fwp_in (w := w) hn a h0
    have c := cnt_out a hn f1 f2
    refine ⟨c.2, ?_⟩
    show cnt (dif (cls n w k).1 (2 ^ fwp n w (cls n w k).1)) n = n - (k + 1)
    omega
theorem cls_ne {n k : Nat} {w : Nat → Nat → Nat} (hn : n < 10) (hk : k < n) : (cls n w k).1 ≠ 0 := fun q => by
  have := (cls_in (w := w) hn (k := k) (by omega)).2
  rw [q, cnt_0] at this
  omega
theorem core_eq {n : Nat} {w : Nat → Nat → Nat} (hw : WF n w) (hn : n < 10) : (cls n w n).2 = crf n w (2 ^ n - 1) := by
  have up : ∀ k, k ≤ n → (cls n w k).2 ≤ crf n w (2 ^ n - 1) := fun k => by
    induction k with
    | zero => intro _; exact Nat.zero_le _
    | succ k ih =>
      intro hk
      obtain ⟨a, b⟩ := cls_in (w := w) hn (k := k) (by omega)
      have h0 := cls_ne (w := w) hn (k := k) (by omega)
      obtain ⟨-, f1, f2, f3⟩ := fwp_in (w := w) hn a h0
      refine Nat.max_le.mpr ⟨ih (by omega), ?_⟩
      refine Nat.le_trans ?_ (crf_ge (n := n) (w := w) (S := (cls n w k).1) (by omega) (k := 2 ^ n - 1) (by omega))
      exact mns_ge (by have := dgm_le (S := (cls n w k).1) (p := fwp n w (cls n w k).1) hw (by omega); omega) (fun p hp hb => f3 p hp hb)
  refine Nat.le_antisymm (up n (Nat.le_refl _)) (crf_le (fun S h1 h2 => ?_))
  have dn : ∀ k, k ≤ n → (∀ t, S.testBit t = true → (cls n w k).1.testBit t = true) ∨ mnd n w S ≤ (cls n w k).2 := fun k => by
    induction k with
    | zero =>
      intro _
      refine Or.inl (fun t ht => ?_)
      show (2 ^ n - 1).testBit t = true
      rw [Nat.testBit_two_pow_sub_one]
      by_cases q : t < n
      · exact decide_eq_true q
      · rw [lt_pow_bit (n := n) (by have := Nat.two_pow_pos n; omega) (by omega)] at ht
        cases ht
    | succ k ih =>
      intro hk
      rcases ih (by omega) with h | h
      · obtain ⟨a, b⟩ := cls_in (w := w) hn (k := k) (by omega)
        have h0 := cls_ne (w := w) hn (k := k) (by omega)
        obtain ⟨-, f1, f2, f3⟩ := fwp_in (w := w) hn a h0
        have h9 : (cls n w k).1 < 512 := Nat.lt_of_lt_of_le a (pow9 (by omega))
        by_cases q : S.testBit (fwp n w (cls n w k).1) = true
        · refine Or.inr (Nat.le_trans ?_ (Nat.le_max_right _ _))
          exact Nat.le_trans (mns_lb (P := fun p => S.testBit p) f1 q) (dgm_mn h)
        · refine Or.inl (fun t ht => ?_)
          show (dif (cls n w k).1 (2 ^ fwp n w (cls n w k).1)).testBit t = true
          rw [dif_b h9, pow_bit]
          refine ⟨h t ht, decide_eq_false (fun e => q ?_)⟩
          rw [e]; exact ht
      · exact Or.inr (Nat.le_trans h (Nat.le_max_left _ _))
  rcases dn n (Nat.le_refl _) with h | h
  · have z := (cls_in (w := w) hn (k := n) (Nat.le_refl _))
    have e0 : S = 0 := by
      refine bit_ext (n := n) (by omega) (Nat.two_pow_pos n) (fun k hk => ?_)
      rw [Nat.zero_testBit]
      cases q : S.testBit k
      · rfl
      · have h1 := h k q
        have h3 : 1 ≤ cnt (cls n w n).1 n := by
          have := cnt_mn (S := 2 ^ k) (T := (cls n w n).1) (n := n) (fun j hj => by
            rw [pow_bit] at hj
            rw [← of_decide_eq_true hj]
            exact h1)
          have := cnt_1 hk
          omega
        omega
    omega
  · exact h
theorem q_fewest {x n l L : Nat} {w : Nat → Nat → Nat} {t : St} (h : CN x n l w t) (g : netAt x = true) (hw : WF n w) (hn : n < 10) (hL : L < 512) : FX10_fewestLines x (nI L) (nI L) t = some (oI (gch (dgm w L) (cmp9 L) n), t) := by
  refine Ok.eq ?_
  unfold FX10_fewestLines
  refine Ok.ckT g (Ok.bq (a := oI (gch (dgm w L) (cmp9 L) n)) (t := t) (wq0 n (fun j => (oI (gch (dgm w L) (cmp9 L) j), Option.elim (gch (dgm w L) (cmp9 L) j) (nI 9) (fun b => nI (dgm w L b)), nI j)) rfl (fun j hj => ?_) ?_) (Ok.ret ⟨rfl, rfl⟩))
  · unfold SX10_fewestLines_9
    dsimp only
    have dj := dgm_le (S := L) (p := j) hw (by omega)
    refine Ok.rdE h.1 (Ok.ifF (by rw [nI_leP (by omega) (by omega)]; omega) (Ok.ckT (inb_n (by omega) (by omega)) ?_))
    rw [nI_cl (by omega)]
    refine Ok.rdE (h.2.2.1 j (by omega)) ?_
    rw [nI_and]
    refine Ok.bq (q_bitCount (and9 nr_lt)) ?_
    show Ok (bnd (if shr (nI L) (nI j) &&& 1 = 0 then _ else if _ ≤ nI (dgm w L j) then _ else some ((nI j, nI (dgm w L j)), t)) _) _
    refine Ok.bq (a := (oI (gch (dgm w L) (cmp9 L) (j + 1)), Option.elim (gch (dgm w L) (cmp9 L) (j + 1)) (nI 9) (fun b => nI (dgm w L b)))) (t := t) (Ok.eq ?_) (Ok.ret ⟨rfl, by rw [nI_1]⟩)
    rw [gch, cmp9_b (by omega)]
    refine Ok.cv (bitn (by omega) (by omega)) (Ok.ite (fun c => Ok.ret ⟨rfl, ?_⟩) (fun c => ?_))
    · rw [c]; rfl
    · rw [bT c, if_neg (c := (!true) = true) (by decide)]
      cases e : gch (dgm w L) (cmp9 L) j with
      | none =>
        refine Ok.ifF ?_ (Ok.ret ⟨rfl, rfl⟩)
        show ¬ nI 9 ≤ _
        rw [nI_leP (by omega) (by omega)]
        omega
      | some b =>
        have db := dgm_le (S := L) (p := b) hw (by have := (gch_in e).1; omega)
        show Ok (if nI (dgm w L b) ≤ nI (dgm w L j) then _ else _) (fun r u => t = u ∧ r = (oI (if dgm w L j < dgm w L b then some j else some b), Option.elim (if dgm w L j < dgm w L b then some j else some b) (nI 9) (fun b => nI (dgm w L b))))
        refine Ok.cv (nI_leP (by omega) (by omega)) (Ok.ite (fun c => Ok.ret ⟨rfl, ?_⟩) (fun c => Ok.ret ⟨rfl, ?_⟩))
        · rw [if_neg (by omega)]
        · rw [if_pos (by omega)]; rfl
  · unfold SX10_fewestLines_9
    dsimp only
    exact Ok.rdE h.1 (Ok.ifT (by rw [nI_leP (by omega) (by omega)]; omega) (Ok.ret ⟨rfl, rfl⟩))
theorem cls_2 {n : Nat} {w : Nat → Nat → Nat} (hw : WF n w) (hn : n < 10) : ∀ {k : Nat}, k ≤ n → (cls n w k).2 ≤ 8
  | 0, _ => Nat.zero_le _
  | k + 1, hk => by
    obtain ⟨a, b⟩ := cls_in (w := w) hn (k := k) (by omega)
    obtain ⟨-, f1, f2, f3⟩ := fwp_in (w := w) hn a (cls_ne hn (by omega))
    exact Nat.max_le.mpr ⟨cls_2 hw hn (by omega), dgm_le hw (by omega)⟩
theorem q_core {x n l : Nat} {w : Nat → Nat → Nat} {t : St} (h : CN x n l w t) (g : netAt x = true) (hw : WF n w) (hn : n < 10) : FX10_core x t = some (nI (crf n w (2 ^ n - 1)), t) := by
  refine Ok.eq ?_
  unfold FX10_core
  rw [← core_eq hw hn]
  refine Ok.ckT g (Ok.bd (fun r u => t = u ∧ r = nI (2 ^ n - 1)) (e_allBits h hn g ⟨rfl, rfl⟩) ?_)
  rintro _ _ ⟨rfl, rfl⟩
  refine Ok.bq (a := (Sum.inr (nI (cls n w n).2) : Int32 ⊕ Int32)) (t := t) (wq0 n (fun k => (nI (cls n w k).1, nI (cls n w k).2, nI k)) rfl (fun k hk => ?_) ?_) (Ok.ret ⟨rfl, rfl⟩)
  · unfold SX10_core_9
    dsimp only
    obtain ⟨a, b⟩ := cls_in (w := w) hn (k := k) (by omega)
    obtain ⟨f0, f1, f2, f3⟩ := fwp_in (w := w) hn a (cls_ne hn hk)
    have h9 : (cls n w k).1 < 512 := Nat.lt_of_lt_of_le a (pow9 (by omega))
    have c2 := cls_2 hw hn (k := k) (by omega)
    have d8 := dgm_le (S := (cls n w k).1) (p := fwp n w (cls n w k).1) hw (by omega)
    refine Ok.rdE h.1 (Ok.ifF (by rw [nI_leP (by omega) (by omega)]; omega) (Ok.bq (q_fewest h g hw hn h9) ?_))
    rw [f0]
    refine Ok.ifF (n1n (by omega)) (Ok.ckT (inb_n (by omega) (by omega)) ?_)
    show Ok (rdb t (x + 1) (nI (fwp n w (cls n w k).1)).toNatClampNeg _) _
    rw [nI_cl (by omega)]
    refine Ok.rdE (h.2.2.1 _ (by omega)) ?_
    rw [nI_and]
    refine Ok.bq (q_bitCount (and9 nr_lt)) (Ok.ret ⟨rfl, ?_⟩)
    show _ = Sum.inl (nI (dif (cls n w k).1 (2 ^ fwp n w (cls n w k).1)), nI (Nat.max (cls n w k).2 (dgm w (cls n w k).1 (fwp n w (cls n w k).1))), nI (k + 1))
    rw [← mxI_n (by omega) (by omega), ← nI_dif h9 (pw9 (by omega)), ← nI_1]
    show Sum.inl (nI (cls n w k).1 &&& (shl 1 (nI (fwp n w (cls n w k).1)) ^^^ -1), _, _) = _
    rw [li_1, shl_1b (by omega)]
    rfl
  · unfold SX10_core_9
    dsimp only
    exact Ok.rdE h.1 (Ok.ifT (by rw [nI_leP (by omega) (by omega)]; omega) (Ok.ret ⟨rfl, rfl⟩))
theorem mnd_le {n S : Nat} {w : Nat → Nat → Nat} : mnd n w S ≤ 9 := mns_le
theorem crf_9 {n k : Nat} {w : Nat → Nat → Nat} : crf n w k ≤ 9 := crf_le (fun _ _ _ => mnd_le)
theorem q_coreM {s n : Nat} {w : Nat → Nat → Nat} {t : St} (h : RN s n w t) (hs : s < 3) (hw : WF n w) (hn : n < 10) : FX12_core (nI s) t = some (nI (crf n w (2 ^ n - 1)), t) := by
  have p9 := pow9 (k := n) (by omega)
  have p0 := Nat.two_pow_pos n
  refine Ok.eq ?_
  unfold FX12_core
  refine Ok.bq (a := nI (crf n w (2 ^ n - 1))) (t := t) (wq0 (2 ^ n - 1) (fun j => (nI (crf n w j), nI (j + 1))) rfl (fun j hj => ?_) ?_) (Ok.ret ⟨rfl, rfl⟩)
  · unfold SX12_core_4
    dsimp only
    refine Ok.bq (q_points h hs) ?_
    rw [li_1, shl_1b (by omega)]
    refine Ok.ifF (by rw [nI_leP (by omega) (by omega)]; omega) ?_
    have md := mnd_le (n := n) (S := j + 1) (w := w)
    have cr := crf_9 (n := n) (k := j) (w := w)
    refine Ok.bq (a := nI (mnd n w (j + 1))) (t := t) (wq0 n (fun i => (nI (mns (fun p => (j + 1).testBit p) (dgm w (j + 1)) 9 i), nI i)) rfl (fun i hi => ?_) ?_) (Ok.ret ⟨rfl, ?_⟩)
    · unfold SX12_core_22
      dsimp only
      have m9 : mns (fun p => (j + 1).testBit p) (dgm w (j + 1)) 9 i ≤ 9 := mns_le
      have d8 := dgm_le (S := j + 1) (p := i) hw (by omega)
      refine Ok.bq (q_points h hs) (Ok.ifF (by rw [nI_leP (by omega) (by omega)]; omega) (Ok.bq (q_has (by omega) (by omega)) ?_))
      refine Ok.bq (a := nI (mns (fun p => (j + 1).testBit p) (dgm w (j + 1)) 9 (i + 1))) (t := t) (Ok.eq ?_) (Ok.ret ⟨rfl, by rw [nI_1]⟩)
      show Ok _ (fun r u => t = u ∧ r = nI (if (j + 1).testBit i = true then Nat.min (mns (fun p => (j + 1).testBit p) (dgm w (j + 1)) 9 i) (dgm w (j + 1) i) else mns (fun p => (j + 1).testBit p) (dgm w (j + 1)) 9 i))
      refine Ok.cv b01 (Ok.ite (fun c => Ok.ret ⟨rfl, by rw [if_neg (by rw [c]; decide)]⟩) (fun c => Ok.bq (q_nearOf h hs hn hw (by omega)) ?_))
      rw [nI_and]
      refine Ok.bq (q_ones (and9 nr_lt)) (Ok.ret ⟨rfl, ?_⟩)
      rw [if_pos (bT c)]
      exact mnI_n (b := dgm w (j + 1) i) (by omega) (by omega)
    · unfold SX12_core_22
      dsimp only
      exact Ok.bq (q_points h hs) (Ok.ifT (by rw [nI_leP (by omega) (by omega)]; omega) (Ok.ret ⟨rfl, rfl⟩))
    · rw [mxI_n (by omega) (by omega), ← li_1, nI_1]
      rfl
  · unfold SX12_core_4
    dsimp only
    refine Ok.bq (q_points h hs) ?_
    rw [li_1, shl_1b (by omega)]
    exact Ok.ifT (by rw [nI_leP (by omega) (by omega)]; omega) (Ok.ret ⟨rfl, rfl⟩)
