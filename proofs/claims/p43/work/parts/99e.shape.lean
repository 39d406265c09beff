/-! ways, parts, the diameter, balls; look, bound (wip/sim/g99e.py) -/
theorem gsq_stn {n a : Nat} {w : Nat → Nat → Nat} (hw : WF n w) (ha : a < n) : gsq n w (2 ^ a) n = gsq n w (2 ^ a) (n - 1) := by
  refine Classical.byContradiction (fun q => ?_)
  have h : ∀ i, i < n → gsq n w (2 ^ a) (i + 1) ≠ gsq n w (2 ^ a) i := fun i hi e => q (by
    have s1 := gsq_st e (j := n - i)
    have s2 := gsq_st e (j := n - 1 - i)
    rw [show i + (n - i) = n by omega] at s1
    rw [show i + (n - 1 - i) = n - 1 by omega] at s2
    rw [s1, s2])
  have c := gsq_cnt hw (pw_n ha) (cnt_1 ha) h
  have c2 : cnt (gsq n w (2 ^ a) n) n ≤ n := cnt_le
  omega
/-- all that can be reached -/
def rch (n : Nat) (w : Nat → Nat → Nat) (a : Nat) : Nat := gsq n w (2 ^ a) (n - 1)
theorem rch_self {n a : Nat} {w : Nat → Nat → Nat} : (rch n w a).testBit a = true := gsq_up (j := 0) (by show (2 ^ a).testBit a = true; rw [pow_bit]; exact decide_eq_true rfl) (Nat.zero_le _)
theorem rch_cl {n a : Nat} {w : Nat → Nat → Nat} (hw : WF n w) (ha : a < n) : grw n w (rch n w a) = rch n w a := by
  have h := gsq_stn hw ha
  obtain ⟨m, rfl⟩ : ∃ m, n = m + 1 := ⟨n - 1, by omega⟩
  exact h
theorem grw_mn {n S T : Nat} {w : Nat → Nat → Nat} (h : ∀ k, S.testBit k = true → T.testBit k = true) : ∀ k, (grw n w S).testBit k = true → (grw n w T).testBit k = true := fun k hk => by
  rcases grw_b.mp hk with q | ⟨i, i1, i2, i3⟩
  · exact grw_b.mpr (Or.inl (h k q))
  · exact grw_b.mpr (Or.inr ⟨i, i1, h i i2, i3⟩)
theorem gsq_sub {n S T : Nat} {w : Nat → Nat → Nat} (hT : grw n w T = T) (h : ∀ k, S.testBit k = true → T.testBit k = true) : ∀ {j : Nat} (k : Nat), (gsq n w S j).testBit k = true → T.testBit k = true
  | 0, k, hk => h k hk
  | j + 1, k, hk => by
    rw [← hT]
    exact grw_mn (fun k hk => gsq_sub hT h k hk) k hk
theorem rch_tr {n a b : Nat} {w : Nat → Nat → Nat} (hw : WF n w) (ha : a < n) (h : (rch n w a).testBit b = true) : ∀ k, (rch n w b).testBit k = true → (rch n w a).testBit k = true := gsq_sub (rch_cl hw ha) (fun k hk => by
  rw [pow_bit] at hk
  rw [← of_decide_eq_true hk]
  exact h)
theorem dst_9 {n a b : Nat} {w : Nat → Nat → Nat} (hn : n < 10) (ha : a < n) : dst n w a b = 9 ↔ (rch n w a).testBit b = false := by
  rcases dst_in (a := a) (b := b) (w := w) hn with ⟨h, g⟩ | ⟨h, g, -⟩
  · exact ⟨fun _ => g (n - 1) (by omega), fun _ => h⟩
  · have : (rch n w a).testBit b = true := gsq_up g (by omega)
    exact ⟨fun q => by omega, fun q => by rw [this] at q; cases q⟩
/-! a way there is a way back -/
def Ew (n : Nat) (w : Nat → Nat → Nat) (k a b : Nat) : Prop := (gsq n w (2 ^ a) k).testBit b = true
theorem Ew_0 {n a b : Nat} {w : Nat → Nat → Nat} : Ew n w 0 a b ↔ a = b := by
  show (2 ^ a).testBit b = true ↔ a = b
  rw [pow_bit, decide_eq_true_eq]
theorem Ew_r {n k a b : Nat} {w : Nat → Nat → Nat} (hw : WF n w) (hn : n < 10) : Ew n w (k + 1) a b ↔ Ew n w k a b ∨ ∃ i, Ew n w k a i ∧ 0 < w i b := by
  show (grw n w (gsq n w (2 ^ a) k)).testBit b = true ↔ _
  rw [grw_b]
  constructor
  · rintro (h | ⟨i, i1, i2, i3⟩)
    · exact Or.inl h
    · exact Or.inr ⟨i, i2, (nr_b hw hn).mp i3⟩
  · rintro (h | ⟨i, i2, i3⟩)
    · exact Or.inl h
    · exact Or.inr ⟨i, (hw.b i3).1, i2, (nr_b hw hn).mpr i3⟩
theorem Ew_l {n : Nat} {w : Nat → Nat → Nat} (hw : WF n w) (hn : n < 10) : ∀ {k a b : Nat}, Ew n w (k + 1) a b ↔ Ew n w k a b ∨ ∃ i, 0 < w a i ∧ Ew n w k i b
  | 0, a, b => by
    rw [Ew_r hw hn]
    constructor
    · rintro (h | ⟨i, i1, i2⟩)
      · exact Or.inl h
      · rw [Ew_0] at i1
        subst i1
        exact Or.inr ⟨b, i2, Ew_0.mpr rfl⟩
    · rintro (h | ⟨i, i1, i2⟩)
      · exact Or.inl h
      · rw [Ew_0] at i2
        subst i2
        exact Or.inr ⟨a, Ew_0.mpr rfl, i1⟩
  | k + 1, a, b => by
    constructor
    · intro h
      rcases (Ew_r hw hn).mp h with h | ⟨i, i1, i2⟩
      · exact Or.inl h
      · rcases (Ew_l hw hn).mp i1 with j1 | ⟨j, j1, j2⟩
        · exact Or.inl ((Ew_r hw hn).mpr (Or.inr ⟨i, j1, i2⟩))
        · exact Or.inr ⟨j, j1, (Ew_r hw hn).mpr (Or.inr ⟨i, j2, i2⟩)⟩
    · rintro (h | ⟨i, i1, i2⟩)
      · exact (Ew_r hw hn).mpr (Or.inl h)
      · rcases (Ew_r hw hn).mp i2 with j1 | ⟨j, j1, j2⟩
        · exact (Ew_r hw hn).mpr (Or.inl ((Ew_l hw hn).mpr (Or.inr ⟨i, i1, j1⟩)))
        · exact (Ew_r hw hn).mpr (Or.inr ⟨j, (Ew_l hw hn).mpr (Or.inr ⟨i, i1, j1⟩), j2⟩)
theorem Ew_s {n : Nat} {w : Nat → Nat → Nat} (hw : WF n w) (hn : n < 10) : ∀ {k a b : Nat}, Ew n w k a b → Ew n w k b a
  | 0, a, b, h => Ew_0.mpr (Ew_0.mp h).symm
  | k + 1, a, b, h => by
    rcases (Ew_r hw hn).mp h with h | ⟨i, i1, i2⟩
    · exact (Ew_r hw hn).mpr (Or.inl (Ew_s hw hn h))
    · exact (Ew_l hw hn).mpr (Or.inr ⟨i, by rw [hw.2.1]; exact i2, Ew_s hw hn i1⟩)
theorem dst_sy {n a b : Nat} {w : Nat → Nat → Nat} (hw : WF n w) (hn : n < 10) : dst n w a b = dst n w b a := by
  have e : ∀ k, (gsq n w (2 ^ a) k).testBit b = (gsq n w (2 ^ b) k).testBit a := fun k => by
    have h1 : Ew n w k a b → Ew n w k b a := Ew_s hw hn
    have h2 : Ew n w k b a → Ew n w k a b := Ew_s hw hn
    unfold Ew at h1 h2
    cases p : (gsq n w (2 ^ a) k).testBit b
    · cases q : (gsq n w (2 ^ b) k).testBit a
      · rfl
      · rw [h2 q] at p; cases p
    · rw [h1 p]
  unfold dst
  have : (fun k => (gsq n w (2 ^ a) k).testBit b) = (fun k => (gsq n w (2 ^ b) k).testBit a) := funext e
  rw [this]
theorem dst_0 {n a : Nat} {w : Nat → Nat → Nat} (hn : n < 10) (ha : a < n) : dst n w a a = 0 := fsf_eq (by omega) (by omega) (by show (2 ^ a).testBit a = true; rw [pow_bit]; exact decide_eq_true rfl) (fun j hj => by omega)
/-! parts -/
def al (P : Nat → Bool) : Nat → Bool
  | 0 => true
  | k + 1 => al P k && P k
theorem al_iff {P : Nat → Bool} : ∀ {n : Nat}, al P n = true ↔ ∀ k, k < n → P k = true
  | 0 => ⟨fun _ k hk => by omega, fun _ => rfl⟩
  | n + 1 => by
    show (al P n && P n) = true ↔ _
    rw [Bool.and_eq_true, al_iff]
    constructor
    · rintro ⟨a, b⟩ k hk
      by_cases e : k = n
      · rw [e]; exact b
      · exact a k (by omega)
    · intro h
      exact ⟨fun k hk => h k (by omega), h n (Nat.lt_succ_self n)⟩
def pfl (n : Nat) (w : Nat → Nat → Nat) (p j : Nat) : Bool := al (fun q => decide (dst n w q p = 9)) j
def prf (n : Nat) (w : Nat → Nat → Nat) (k : Nat) : Nat := sm k (fun p => if pfl n w p p = true then 1 else 0)
def pcs (n : Nat) (w : Nat → Nat → Nat) : Nat → Nat × Nat
  | 0 => (0, 0)
  | p + 1 => if (pcs n w p).2.testBit p = true then pcs n w p else ((pcs n w p).1 + 1, (pcs n w p).2 ||| rch n w p)
theorem pcs_in {n : Nat} {w : Nat → Nat → Nat} (hw : WF n w) (hn : n < 10) : ∀ {k : Nat}, k ≤ n → (pcs n w k).1 = prf n w k ∧ (pcs n w k).2 < 512 ∧ ∀ t, (pcs n w k).2.testBit t = true ↔ ∃ q, q < k ∧ (rch n w q).testBit t = true
  | 0, _ => ⟨rfl, by show 0 < 512; omega, fun t => ⟨fun h => (by rw [show (pcs n w 0).2 = 0 from rfl, Nat.zero_testBit] at h; cases h), fun ⟨q, hq, _⟩ => by omega⟩⟩
  | p + 1, hk => by
    obtain ⟨a, b, c⟩ := pcs_in hw hn (k := p) (by omega)
    have ep : prf n w (p + 1) = prf n w p + (if pfl n w p p = true then 1 else 0) := rfl
    have fp : pfl n w p p = true ↔ ¬ (pcs n w p).2.testBit p = true := by
      unfold pfl
      rw [al_iff, c]
      constructor
      · rintro h ⟨q, hq, hb⟩
        have := (dst_9 hn (by omega)).mp (of_decide_eq_true (h q hq))
        rw [hb] at this
        cases this
      · intro h q hq
        refine decide_eq_true ((dst_9 hn (by omega)).mpr ?_)
        cases e : (rch n w q).testBit p
        · rfl
        · exact absurd ⟨q, hq, e⟩ h
    by_cases e : (pcs n w p).2.testBit p = true
    · have e1 : pcs n w (p + 1) = pcs n w p := if_pos e
      rw [e1, ep, if_neg (fun q => fp.mp q e)]
      refine ⟨a, b, fun t => ?_⟩
      rw [c]
      constructor
      · rintro ⟨q, hq, h⟩
        exact ⟨q, by omega, h⟩
      · rintro ⟨q, hq, h⟩
        by_cases q2 : q = p
        · subst q2
          obtain ⟨q3, hq3, h3⟩ := (c q).mp e
          exact ⟨q3, hq3, rch_tr hw (by omega) h3 t h⟩
        · exact ⟨q, by omega, h⟩
    · have e1 : pcs n w (p + 1) = ((pcs n w p).1 + 1, (pcs n w p).2 ||| rch n w p) := if_neg e
      rw [e1, ep, if_pos (fp.mpr e)]
      refine ⟨by rw [a], or9 b (gsq_9 hw hn (pw_n (by omega))), fun t => ?_⟩
      show ((pcs n w p).2 ||| rch n w p).testBit t = true ↔ _
      rw [or_b, c]
      constructor
      · rintro (⟨q, hq, h⟩ | h)
        · exact ⟨q, by omega, h⟩
        · exact ⟨p, by omega, h⟩
      · rintro ⟨q, hq, h⟩
        by_cases q2 : q = p
        · subst q2; exact Or.inr h
        · exact Or.inl ⟨q, by omega, h⟩
theorem q_partOf {x n l p : Nat} {w : Nat → Nat → Nat} {t : St} (h : CN x n l w t) (g : netAt x = true) (hw : WF n w) (hn : n < 10) (hp : p < n) : FX10_partOf x (nI p) t = some (nI (rch n w p), t) := by
  refine Ok.eq ?_
  unfold FX10_partOf
  refine Ok.ckT g (Ok.bq (a := nI (rch n w p)) (t := t) (wq0 (n - 1) (fun j => (nI (gsq n w (2 ^ p) j), nI (j + 1))) (by rw [li_1, shl_1b (by omega)]; rfl) (fun j hj => ?_) ?_) (Ok.ret ⟨rfl, rfl⟩))
  · unfold SX10_partOf_6
    dsimp only
    refine Ok.rdE h.1 (Ok.ifF (by rw [nI_leP (by omega) (by omega)]; omega) (Ok.bq (q_grown h g hn (gsq_9 hw hn (pw_n hp))) (Ok.ret ⟨rfl, ?_⟩)))
    rw [nI_1]
    rfl
  · unfold SX10_partOf_6
    dsimp only
    exact Ok.rdE h.1 (Ok.ifT (by rw [nI_leP (by omega) (by omega)]; omega) (Ok.ret ⟨rfl, rfl⟩))
theorem q_partCount {x n l : Nat} {w : Nat → Nat → Nat} {t : St} (h : CN x n l w t) (g : netAt x = true) (hw : WF n w) (hn : n < 10) : FX10_partCount x t = some (nI (prf n w n), t) := by
  refine Ok.eq ?_
  unfold FX10_partCount
  rw [← (pcs_in hw hn (Nat.le_refl n)).1]
  refine Ok.ckT g (Ok.bq (a := nI (pcs n w n).1) (t := t) (wq0 n (fun j => (nI (pcs n w j).1, nI (pcs n w j).2, nI j)) rfl (fun j hj => ?_) ?_) (Ok.ret ⟨rfl, rfl⟩))
  · unfold SX10_partCount_6
    dsimp only
    have b := (pcs_in hw hn (k := j) (by omega)).2.1
    refine Ok.rdE h.1 (Ok.ifF (by rw [nI_leP (by omega) (by omega)]; omega) ?_)
    refine Ok.bq (a := (nI (pcs n w (j + 1)).1, nI (pcs n w (j + 1)).2)) (t := t) (Ok.eq ?_) (Ok.ret ⟨rfl, by rw [nI_1]⟩)
    rw [pcs]
    refine Ok.cv (bitn (by omega) (by omega)) (Ok.ite (fun c => Ok.bq (q_partOf h g hw hn hj) (Ok.ret ⟨rfl, ?_⟩)) (fun c => Ok.ret ⟨rfl, ?_⟩))
    · rw [if_neg (c := (pcs n w j).2.testBit j = true) (by rw [c]; decide), nI_1, nI_or]
    · rw [if_pos (bT c)]
  · unfold SX10_partCount_6
    dsimp only
    exact Ok.rdE h.1 (Ok.ifT (by rw [nI_leP (by omega) (by omega)]; omega) (Ok.ret ⟨rfl, rfl⟩))
theorem dI_m1 {d : Nat} (hd : d ≤ 9) : (dI d = -1) = (d = 9) := by
  have : dI 9 = -1 := rfl
  rw [← this]
  exact dI_eq hd (Nat.le_refl 9)
theorem q_parts {s n : Nat} {w : Nat → Nat → Nat} {t : St} (h : RN s n w t) (hs : s < 3) (hw : WF n w) (hn : n < 10) : FX12_parts (nI s) t = some (nI (prf n w n), t) := by
  refine Ok.eq ?_
  unfold FX12_parts
  refine Ok.bq (a := nI (prf n w n)) (t := t) (wq0 n (fun j => (nI (prf n w j), nI j)) rfl (fun j hj => ?_) ?_) (Ok.ret ⟨rfl, rfl⟩)
  · unfold SX12_parts_4
    dsimp only
    refine Ok.bq (q_points h hs) (Ok.ifF (by rw [nI_leP (by omega) (by omega)]; omega) ?_)
    refine Ok.bq (a := nI (pfl n w j j).toNat) (t := t) (wq0 j (fun i => (nI (pfl n w j i).toNat, nI i)) rfl (fun i hi => ?_) ?_) ?_
    · unfold SX12_parts_19
      dsimp only
      refine Ok.ifF (by rw [nI_leP (by omega) (by omega)]; omega) ?_
      refine Ok.bq (a := nI (pfl n w j (i + 1)).toNat) (t := t) (Ok.eq ?_) (Ok.ret ⟨rfl, by rw [nI_1]⟩)
      show Ok _ (fun r u => t = u ∧ r = nI (pfl n w j i && decide (dst n w i j = 9)).toNat)
      refine Ok.cv b01 (Ok.ite (fun c => Ok.ret ⟨rfl, by rw [c]; rfl⟩) (fun c => Ok.bq (q_farOf h hs hw hn (by omega) hj) (Ok.cv (dI_m1 (dst_le hn)) (Ok.ite (fun c2 => Ok.ret ⟨rfl, ?_⟩) (fun c2 => Ok.ret ⟨rfl, ?_⟩)))))
      · rw [bT c, decide_eq_true c2]; rfl
      · rw [bT c, decide_eq_false c2]; rfl
    · unfold SX12_parts_19
      dsimp only
      exact Ok.ifT (by rw [nI_leP (by omega) (by omega)]; omega) (Ok.ret ⟨rfl, rfl⟩)
    · refine Ok.bq (a := nI (if pfl n w j j = true then 1 else 0)) (t := t) (Ok.eq (Ok.cv b01 (Ok.ite (fun c => Ok.ret ⟨rfl, ?_⟩) (fun c => Ok.ret ⟨rfl, ?_⟩)))) (Ok.ret ⟨rfl, ?_⟩)
      · rw [c]; rfl
      · rw [bT c]; rfl
      · rw [nI_add, nI_1]
        rfl
  · unfold SX12_parts_4
    dsimp only
    exact Ok.bq (q_points h hs) (Ok.ifT (by rw [nI_leP (by omega) (by omega)]; omega) (Ok.ret ⟨rfl, rfl⟩))
/-! the diameter -/
def DMS (n : Nat) (w : Nat → Nat → Nat) (r : Int32) : Prop := (∃ a b, a < n ∧ b < n ∧ dst n w a b = 9 ∧ r = -1) ∨ ((∀ a b, a < n → b < n → dst n w a b ≠ 9) ∧ ∃ M, r = nI M ∧ (∀ a b, a < n → b < n → dst n w a b ≤ M) ∧ (M = 0 ∨ ∃ a b, a < n ∧ b < n ∧ dst n w a b = M))
theorem DMS.uq {n : Nat} {w : Nat → Nat → Nat} {r q : Int32} (h : DMS n w r) (g : DMS n w q) : r = q := by
  rcases h with ⟨a, b, a1, b1, e, rfl⟩ | ⟨h1, M, rfl, h2, h3⟩
  · rcases g with ⟨-, -, -, -, -, rfl⟩ | ⟨g1, -⟩
    · rfl
    · exact absurd e (g1 a b a1 b1)
  · rcases g with ⟨a, b, a1, b1, e, rfl⟩ | ⟨g1, N, rfl, g2, g3⟩
    · exact absurd e (h1 a b a1 b1)
    · have l1 : M ≤ N := by
        rcases h3 with rfl | ⟨a, b, a1, b1, e⟩
        · exact Nat.zero_le _
        · rw [← e]; exact g2 a b a1 b1
      have l2 : N ≤ M := by
        rcases g3 with rfl | ⟨a, b, a1, b1, e⟩
        · exact Nat.zero_le _
        · rw [← e]; exact h2 a b a1 b1
      rw [show M = N by omega]
theorem dst_8 {n a b : Nat} {w : Nat → Nat → Nat} (hn : n < 10) (h : dst n w a b ≠ 9) : dst n w a b < 9 := by
  have := dst_le (a := a) (b := b) (w := w) hn
  omega
theorem mx_at {M d : Nat} : Nat.max M d = M ∨ Nat.max M d = d := by
  rcases Nat.le_total M d with c | c
  · exact Or.inr (Nat.max_eq_right c)
  · exact Or.inl (Nat.max_eq_left c)
theorem q_diameter {x n l : Nat} {w : Nat → Nat → Nat} {t : St} (h : CN x n l w t) (g : netAt x = true) (hw : WF n w) (hn : n < 10) : Ok (FX10_diameter x t) (fun r u => t = u ∧ DMS n w r) := by
  unfold FX10_diameter
  refine Ok.ckT g (Ok.bd (fun r u => t = u ∧ Sum.elim (fun v => DMS n w v) (fun v => DMS n w v) r) ?_ ?_)
  · refine Ok.count n (fun j c s => t = s ∧ ∃ M, c = (nI M, nI j) ∧ M ≤ 9 ∧ (∀ a b, a < j → b < a → dst n w a b ≠ 9 ∧ dst n w a b ≤ M) ∧ (M = 0 ∨ ∃ a b, a < n ∧ b < n ∧ dst n w a b = M)) ?_ ?_ (Nat.zero_le _) ⟨rfl, 0, rfl, by omega, fun a b ha => by omega, Or.inl rfl⟩
    · rintro j c s hj ⟨rfl, M, rfl, M9, hI, hJ⟩
      unfold SX10_diameter_4
      dsimp only
      refine Ok.rdE h.1 (Ok.ifF (by rw [nI_leP (by omega) (by omega)]; omega) ?_)
      refine Ok.bd (fun r u => t = u ∧ Sum.elim (fun v => DMS n w v) (fun v => ∃ N, v = nI N ∧ N ≤ 9 ∧ M ≤ N ∧ (∀ b, b < j → dst n w j b ≠ 9 ∧ dst n w j b ≤ N) ∧ (N = 0 ∨ ∃ a b, a < n ∧ b < n ∧ dst n w a b = N)) r) ?_ ?_
      · refine Ok.count j (fun i c s => t = s ∧ ∃ N, c = (nI N, nI i) ∧ N ≤ 9 ∧ M ≤ N ∧ (∀ b, b < i → dst n w j b ≠ 9 ∧ dst n w j b ≤ N) ∧ (N = 0 ∨ ∃ a b, a < n ∧ b < n ∧ dst n w a b = N)) ?_ ?_ (Nat.zero_le _) ⟨rfl, M, rfl, M9, Nat.le_refl _, fun b hb => by omega, hJ⟩
        · rintro i c s hi ⟨rfl, N, rfl, N9, hMN, hI2, hJ2⟩
          unfold SX10_diameter_14
          dsimp only
          have d9 := dst_le (a := j) (b := i) (w := w) hn
          refine Ok.ifF (by rw [nI_leP (by omega) (by omega)]; omega) (Ok.bq (q_distance h g hw hn hj (by omega)) (Ok.cv (dI_m1 d9) (Ok.ite (fun c => Ok.ret ⟨rfl, Or.inl ⟨j, i, hj, by omega, c, rfl⟩⟩) (fun c => Ok.ret ⟨rfl, Nat.max N (dst n w j i), ?_, Nat.max_le.mpr ⟨N9, d9⟩, Nat.le_trans hMN (Nat.le_max_left _ _), fun b hb => ?_, ?_⟩))))
          · have : dI (dst n w j i) = nI (dst n w j i) := by unfold dI; rw [if_neg c]
            rw [this, mxI_n (by omega) (by omega), nI_1]
          · by_cases e : b = i
            · rw [e]; exact ⟨c, Nat.le_max_right _ _⟩
            · exact ⟨(hI2 b (by omega)).1, Nat.le_trans (hI2 b (by omega)).2 (Nat.le_max_left _ _)⟩
          · rcases mx_at (M := N) (d := dst n w j i) with q | q
            · rw [q]; exact hJ2
            · exact Or.inr ⟨j, i, hj, by omega, q.symm⟩
        · rintro c s ⟨rfl, N, rfl, N9, hMN, hI2, hJ2⟩
          unfold SX10_diameter_14
          dsimp only
          exact Ok.ifT (by rw [nI_leP (by omega) (by omega)]; omega) (Ok.ret ⟨rfl, N, rfl, N9, hMN, hI2, hJ2⟩)
      · rintro (v | v) _ ⟨rfl, hv⟩
        · exact Ok.ret ⟨rfl, hv⟩
        · obtain ⟨N, rfl, N9, hMN, hI2, hJ2⟩ := hv
          refine Ok.ret ⟨rfl, N, by rw [nI_1], N9, fun a b ha hb => ?_, hJ2⟩
          by_cases e : a = j
          · rw [e] at hb ⊢; exact hI2 b hb
          · exact ⟨(hI a b (by omega) hb).1, Nat.le_trans (hI a b (by omega) hb).2 hMN⟩
    · rintro c s ⟨rfl, M, rfl, M9, hI, hJ⟩
      unfold SX10_diameter_4
      dsimp only
      have all : ∀ a b, a < n → b < n → dst n w a b ≠ 9 ∧ dst n w a b ≤ M := fun a b ha hb => by
        rcases (show b < a ∨ a = b ∨ a < b by omega) with c | c | c
        · exact hI a b ha c
        · rw [c, dst_0 hn hb]; exact ⟨by omega, Nat.zero_le _⟩
        · rw [dst_sy hw hn]; exact hI b a hb c
      exact Ok.rdE h.1 (Ok.ifT (by rw [nI_leP (by omega) (by omega)]; omega) (Ok.ret ⟨rfl, Or.inr ⟨fun a b ha hb => (all a b ha hb).1, M, rfl, fun a b ha hb => (all a b ha hb).2, hJ⟩⟩))
  · rintro (v | v) _ ⟨rfl, hv⟩
    · exact Ok.ret ⟨rfl, hv⟩
    · exact Ok.ret ⟨rfl, hv⟩
theorem q_diameterM {s n : Nat} {w : Nat → Nat → Nat} {t : St} (h : RN s n w t) (hs : s < 3) (hw : WF n w) (hn : n < 10) : Ok (FX12_diameter (nI s) t) (fun r u => t = u ∧ DMS n w r) := by
  unfold FX12_diameter
  refine Ok.bd (fun r u => t = u ∧ Sum.elim (fun v => DMS n w v) (fun v => DMS n w v) r) ?_ ?_
  · refine Ok.count n (fun j c s' => t = s' ∧ ∃ M, c = (nI M, nI j) ∧ M ≤ 9 ∧ (∀ a b, a < j → b < n → dst n w a b ≠ 9 ∧ dst n w a b ≤ M) ∧ (M = 0 ∨ ∃ a b, a < n ∧ b < n ∧ dst n w a b = M)) ?_ ?_ (Nat.zero_le _) ⟨rfl, 0, rfl, by omega, fun a b ha => by omega, Or.inl rfl⟩
    · rintro j c s' hj ⟨rfl, M, rfl, M9, hI, hJ⟩
      unfold SX12_diameter_4
      dsimp only
      refine Ok.bq (q_points h hs) (Ok.ifF (by rw [nI_leP (by omega) (by omega)]; omega) ?_)
      refine Ok.bd (fun r u => t = u ∧ Sum.elim (fun v => DMS n w v) (fun v => ∃ N, v = nI N ∧ N ≤ 9 ∧ M ≤ N ∧ (∀ b, b < n → dst n w j b ≠ 9 ∧ dst n w j b ≤ N) ∧ (N = 0 ∨ ∃ a b, a < n ∧ b < n ∧ dst n w a b = N)) r) ?_ ?_
      · refine Ok.count n (fun i c s' => t = s' ∧ ∃ N, c = (nI N, nI i) ∧ N ≤ 9 ∧ M ≤ N ∧ (∀ b, b < i → dst n w j b ≠ 9 ∧ dst n w j b ≤ N) ∧ (N = 0 ∨ ∃ a b, a < n ∧ b < n ∧ dst n w a b = N)) ?_ ?_ (Nat.zero_le _) ⟨rfl, M, rfl, M9, Nat.le_refl _, fun b hb => by omega, hJ⟩
        · rintro i c s' hi ⟨rfl, N, rfl, N9, hMN, hI2, hJ2⟩
          unfold SX12_diameter_16
          dsimp only
          have d9 := dst_le (a := j) (b := i) (w := w) hn
          refine Ok.bq (q_points h hs) (Ok.ifF (by rw [nI_leP (by omega) (by omega)]; omega) (Ok.bq (q_farOf h hs hw hn hj hi) (Ok.cv (dI_m1 d9) (Ok.ite (fun c => Ok.ret ⟨rfl, Or.inl ⟨j, i, hj, hi, c, rfl⟩⟩) (fun c => Ok.ret ⟨rfl, Nat.max N (dst n w j i), ?_, Nat.max_le.mpr ⟨N9, d9⟩, Nat.le_trans hMN (Nat.le_max_left _ _), fun b hb => ?_, ?_⟩)))))
          · have : dI (dst n w j i) = nI (dst n w j i) := by unfold dI; rw [if_neg c]
            rw [this, mxI_n (by omega) (by omega), nI_1]
          · by_cases e : b = i
            · rw [e]; exact ⟨c, Nat.le_max_right _ _⟩
            · exact ⟨(hI2 b (by omega)).1, Nat.le_trans (hI2 b (by omega)).2 (Nat.le_max_left _ _)⟩
          · rcases mx_at (M := N) (d := dst n w j i) with q | q
            · rw [q]; exact hJ2
            · exact Or.inr ⟨j, i, hj, hi, q.symm⟩
        · rintro c s' ⟨rfl, N, rfl, N9, hMN, hI2, hJ2⟩
          unfold SX12_diameter_16
          dsimp only
          exact Ok.bq (q_points h hs) (Ok.ifT (by rw [nI_leP (by omega) (by omega)]; omega) (Ok.ret ⟨rfl, N, rfl, N9, hMN, hI2, hJ2⟩))
      · rintro (v | v) _ ⟨rfl, hv⟩
        · exact Ok.ret ⟨rfl, hv⟩
        · obtain ⟨N, rfl, N9, hMN, hI2, hJ2⟩ := hv
          refine Ok.ret ⟨rfl, N, by rw [nI_1], N9, fun a b ha hb => ?_, hJ2⟩
          by_cases e : a = j
          · rw [e]; exact hI2 b hb
          · exact ⟨(hI a b (by omega) hb).1, Nat.le_trans (hI a b (by omega) hb).2 hMN⟩
    · rintro c s' ⟨rfl, M, rfl, M9, hI, hJ⟩
      unfold SX12_diameter_4
      dsimp only
      exact Ok.bq (q_points h hs) (Ok.ifT (by rw [nI_leP (by omega) (by omega)]; omega) (Ok.ret ⟨rfl, Or.inr ⟨fun a b ha hb => (hI a b ha hb).1, M, rfl, fun a b ha hb => (hI a b ha hb).2, hJ⟩⟩))
  · rintro (v | v) _ ⟨rfl, hv⟩
    · exact Ok.ret ⟨rfl, hv⟩
    · exact Ok.ret ⟨rfl, hv⟩
/-! balls -/
def blo (n : Nat) (w : Nat → Nat → Nat) (p r : Nat) : Nat := cnt (gsq n w (2 ^ p) r) 9 - 1
def blc (n : Nat) (w : Nat → Nat → Nat) (p r : Nat) : Nat := (blo n w p r + 2 * r - 1) / (2 * r)
def bli (n : Nat) (w : Nat → Nat → Nat) (p M : Nat) : Nat → Nat
  | 0 => M
  | k + 1 => Nat.max (bli n w p M k) (blc n w p (k + 1))
def bot (n : Nat) (w : Nat → Nat → Nat) : Nat → Nat
  | 0 => 0
  | p + 1 => bli n w p (bot n w p) (n - 1)
theorem blc_le {n p r : Nat} {w : Nat → Nat → Nat} (hr : 1 ≤ r) : blc n w p r ≤ 100 := by
  have h : cnt (gsq n w (2 ^ p) r) 9 ≤ 9 := cnt_le
  unfold blc blo
  refine Nat.div_le_of_le_mul ?_
  have : 2 * r * 100 = 200 * r := by omega
  omega
theorem bli_le {n p M : Nat} {w : Nat → Nat → Nat} (hM : M ≤ 100) : ∀ {k : Nat}, bli n w p M k ≤ 100
  | 0 => hM
  | k + 1 => Nat.max_le.mpr ⟨bli_le hM, blc_le (by omega)⟩
theorem bot_le {n : Nat} {w : Nat → Nat → Nat} : ∀ {k : Nat}, bot n w k ≤ 100
  | 0 => Nat.zero_le _
  | k + 1 => bli_le bot_le
theorem nz_n {r : Nat} (h1 : 1 ≤ r) (hr : r < 10) : nz ((2 : Int32) * nI r) = true := by
  rcases (show r = 1 ∨ r = 2 ∨ r = 3 ∨ r = 4 ∨ r = 5 ∨ r = 6 ∨ r = 7 ∨ r = 8 ∨ r = 9 by omega) with rfl | rfl | rfl | rfl | rfl | rfl | rfl | rfl | rfl <;> decide
theorem bl_div {a r : Nat} (ha : a < 100) (h1 : 1 ≤ r) (hr : r < 10) : (nI a + (2 : Int32) * nI r - 1) / ((2 : Int32) * nI r) = nI ((a + 2 * r - 1) / (2 * r)) := by
  rw [li_2, nI_mul, nI_add, nI_s1 (by omega), nI_divN (by omega) (by omega) (by omega)]
theorem gsq_1 {n p r : Nat} {w : Nat → Nat → Nat} (hp : p < 9) : 1 ≤ cnt (gsq n w (2 ^ p) r) 9 := by
  have h : (gsq n w (2 ^ p) r).testBit p = true := gsq_up (j := 0) (by show (2 ^ p).testBit p = true; rw [pow_bit]; exact decide_eq_true rfl) (Nat.zero_le _)
  have := cnt_mn (S := 2 ^ p) (T := gsq n w (2 ^ p) r) (n := 9) (fun j hj => by
    rw [pow_bit] at hj
    rw [← of_decide_eq_true hj]
    exact h)
  have := cnt_1 (a := p) (n := 9) hp
  omega
theorem q_ballBound {x n l : Nat} {w : Nat → Nat → Nat} {t : St} (h : CN x n l w t) (g : netAt x = true) (hw : WF n w) (hn : n < 10) : FX10_ballBound x t = some (nI (bot n w n), t) := by
  refine Ok.eq ?_
  unfold FX10_ballBound
  refine Ok.ckT g (Ok.bq (a := nI (bot n w n)) (t := t) (wq0 n (fun p => (nI (bot n w p), nI p)) rfl (fun p hp => ?_) ?_) (Ok.ret ⟨rfl, rfl⟩))
  · unfold SX10_ballBound_4
    dsimp only
    have bp := bot_le (n := n) (w := w) (k := p)
    refine Ok.rdE h.1 (Ok.ifF (by rw [nI_leP (by omega) (by omega)]; omega) ?_)
    refine Ok.bq (a := nI (bot n w (p + 1))) (t := t) (wq0 (n - 1) (fun k => (nI (bli n w p (bot n w p) k), nI (gsq n w (2 ^ p) k), nI (k + 1))) (by rw [li_1, shl_1b (by omega)]; rfl) (fun k hk => ?_) ?_) (Ok.ret ⟨rfl, by rw [nI_1]⟩)
    · unfold SX10_ballBound_19
      dsimp only
      have g9 := gsq_9 (k := k) hw hn (pw_n hp)
      have g9' := gsq_9 (k := k + 1) hw hn (pw_n hp)
      have c1 := gsq_1 (n := n) (w := w) (p := p) (r := k + 1) (by omega)
      have c9 : cnt (gsq n w (2 ^ p) (k + 1)) 9 ≤ 9 := cnt_le
      have bl := bli_le (n := n) (w := w) (p := p) bp (k := k)
      have bc := blc_le (n := n) (w := w) (p := p) (r := k + 1) (by omega)
      refine Ok.rdE h.1 (Ok.ifF (by rw [nI_leP (by omega) (by omega)]; omega) (Ok.bq (q_grown h g hn g9) ?_))
      refine Ok.bq (q_bitCount (S := gsq n w (2 ^ p) (k + 1)) g9') (Ok.ckT (nz_n (by omega) (by omega)) (Ok.ret ⟨rfl, ?_⟩))
      rw [nI_s1 c1, bl_div (by omega) (by omega) (by omega)]
      show Sum.inl (mxI (nI (bli n w p (bot n w p) k)) (nI (blc n w p (k + 1))), _, _) = _
      rw [mxI_n (by omega) (by omega), nI_1]
      rfl
    · unfold SX10_ballBound_19
      dsimp only
      exact Ok.rdE h.1 (Ok.ifT (by rw [nI_leP (by omega) (by omega)]; omega) (Ok.ret ⟨rfl, rfl⟩))
  · unfold SX10_ballBound_4
    dsimp only
    exact Ok.rdE h.1 (Ok.ifT (by rw [nI_leP (by omega) (by omega)]; omega) (Ok.ret ⟨rfl, rfl⟩))
def bin1 (n : Nat) (w : Nat → Nat → Nat) (p r q : Nat) : Nat := if q = p then 0 else if 1 ≤ dst n w p q ∧ dst n w p q ≤ r then 1 else 0
theorem blo_eq {n p r : Nat} {w : Nat → Nat → Nat} (hw : WF n w) (hn : n < 10) (hp : p < n) (hr : r < n) : sm n (bin1 n w p r) = blo n w p r := by
  have h1 : ∀ q, q < n → (if (gsq n w (2 ^ p) r).testBit q = true then 1 else 0) = bin1 n w p r q + (if q = p then 1 else 0) := fun q hq => by
    unfold bin1
    by_cases e : q = p
    · rw [if_pos e, if_pos e, e, if_pos (gsq_up (j := 0) (by show (2 ^ p).testBit p = true; rw [pow_bit]; exact decide_eq_true rfl) (Nat.zero_le _))]
    · rw [if_neg e, if_neg e]
      rcases dst_in (a := p) (b := q) (w := w) hn with ⟨a, b⟩ | ⟨a, b, c⟩
      · rw [if_neg (c := (gsq n w (2 ^ p) r).testBit q = true) (by rw [b r hr]; decide), if_neg (by omega)]
      · have d0 : 1 ≤ dst n w p q := by
          rcases Nat.eq_zero_or_pos (dst n w p q) with z | z
          · rw [z] at b
            have b : (2 ^ p).testBit q = true := b
            rw [pow_bit] at b
            exact absurd (of_decide_eq_true b).symm e
          · exact z
        by_cases le : dst n w p q ≤ r
        · rw [if_pos (gsq_up b le), if_pos ⟨d0, le⟩]
        · rw [if_neg (c := (gsq n w (2 ^ p) r).testBit q = true) (by rw [c r (by omega)]; decide), if_neg (by omega)]
  have h2 : cnt (gsq n w (2 ^ p) r) 9 = sm n (fun q => if (gsq n w (2 ^ p) r).testBit q = true then 1 else 0) := by
    have e : gsq n w (2 ^ p) r = mkm n (fun q => (gsq n w (2 ^ p) r).testBit q) := (mkm_self (gsq_n hw (pw_n hp))).symm
    conv => lhs; rw [e]
    exact cnt_mkm (by omega)
  have h3 : sm n (fun q => if q = p then 1 else 0) = 1 := by
    rw [sm_pt (f := fun q => if q = p then 1 else 0) (j := p) (fun i _ hne => if_neg hne), if_pos hp, if_pos rfl]
  unfold blo
  rw [h2, sm_congr h1, sm_add, h3]
  rfl
theorem q_in1r {d r : Nat} {t : St} (hd : d ≤ 9) (hr : r < 10) : FX12_in (dI d).toInt64 (1 : Int64) (nI r).toInt64 t = some (if d ≠ 9 ∧ 1 ≤ d ∧ d ≤ r then 1 else 0, t) := by
  refine Ok.eq (e_in (fun g1 g2 => ⟨rfl, ?_⟩) (fun g => ⟨rfl, ?_⟩))
  · rw [show (1 : Int64).toInt = 1 by decide] at g1
    rw [n64 (by omega)] at g2
    by_cases c : d = 9
    · unfold dI at g1
      rw [if_pos c, show ((-1 : Int32)).toInt64.toInt = -1 by decide] at g1
      omega
    · unfold dI at g1 g2
      rw [if_neg c, n64 (by omega)] at g1 g2
      rw [if_pos (by omega)]
  · rw [show (1 : Int64).toInt = 1 by decide, n64 (a := r) (by omega)] at g
    by_cases c : d = 9
    · rw [if_neg (by omega)]
    · unfold dI at g
      rw [if_neg c, n64 (by omega)] at g
      rw [if_neg (by omega)]
theorem q_balls {s n : Nat} {w : Nat → Nat → Nat} {t : St} (h : RN s n w t) (hs : s < 3) (hw : WF n w) (hn : n < 10) : FX12_balls (nI s) t = some (nI (bot n w n), t) := by
  refine Ok.eq ?_
  unfold FX12_balls
  refine Ok.bq (a := nI (bot n w n)) (t := t) (wq0 n (fun p => (nI (bot n w p), nI p)) rfl (fun p hp => ?_) ?_) (Ok.ret ⟨rfl, rfl⟩)
  · unfold SX12_balls_4
    dsimp only
    have bp := bot_le (n := n) (w := w) (k := p)
    refine Ok.bq (q_points h hs) (Ok.ifF (by rw [nI_leP (by omega) (by omega)]; omega) ?_)
    refine Ok.bq (a := nI (bot n w (p + 1))) (t := t) (wq0 (n - 1) (fun k => (nI (bli n w p (bot n w p) k), nI (k + 1))) rfl (fun k hk => ?_) ?_) (Ok.ret ⟨rfl, by rw [nI_1]⟩)
    · unfold SX12_balls_16
      dsimp only
      have bl := bli_le (n := n) (w := w) (p := p) bp (k := k)
      have bc := blc_le (n := n) (w := w) (p := p) (r := k + 1) (by omega)
      have c9 : cnt (gsq n w (2 ^ p) (k + 1)) 9 ≤ 9 := cnt_le
      refine Ok.bq (q_points h hs) (Ok.ifF (by rw [nI_leP (by omega) (by omega)]; omega) ?_)
      refine Ok.bq (a := nI (blo n w p (k + 1))) (t := t) ?_ (Ok.ckT (nz_n (by omega) (by omega)) (Ok.ret ⟨rfl, ?_⟩))
      · rw [← blo_eq hw hn hp (by omega)]
        refine wq0 n (fun q => (nI (sm q (bin1 n w p (k + 1))), nI q)) rfl (fun q hq => ?_) ?_
        · unfold SX12_balls_32
          dsimp only
          refine Ok.bq (q_points h hs) (Ok.ifF (by rw [nI_leP (by omega) (by omega)]; omega) ?_)
          refine Ok.bq (a := nI (bin1 n w p (k + 1) q)) (t := t) (Ok.eq ?_) (Ok.ret ⟨rfl, ?_⟩)
          · unfold bin1
            refine Ok.cv (nI_eqP (by omega) (by omega)) (Ok.ite (fun c => Ok.ret ⟨rfl, by rw [if_pos c]; rfl⟩) (fun c => ?_))
            rw [if_neg c]
            refine Ok.bq (q_farOf h hs hw hn hp hq) (Ok.bq (q_in1r (dst_le hn) (by omega)) ?_)
            by_cases c2 : 1 ≤ dst n w p q ∧ dst n w p q ≤ k + 1
            · rw [if_pos c2, if_pos (c := dst n w p q ≠ 9 ∧ 1 ≤ dst n w p q ∧ dst n w p q ≤ k + 1) (by omega)]
              exact Ok.ifF (by decide) (Ok.ret ⟨rfl, rfl⟩)
            · rw [if_neg c2, if_neg (c := dst n w p q ≠ 9 ∧ 1 ≤ dst n w p q ∧ dst n w p q ≤ k + 1) (by omega)]
              exact Ok.ifT rfl (Ok.ret ⟨rfl, rfl⟩)
          · rw [nI_add, nI_1]
            rfl
        · unfold SX12_balls_32
          dsimp only
          exact Ok.bq (q_points h hs) (Ok.ifT (by rw [nI_leP (by omega) (by omega)]; omega) (Ok.ret ⟨rfl, rfl⟩))
      · rw [bl_div (by unfold blo; omega) (by omega) (by omega)]
        show Sum.inl (mxI (nI (bli n w p (bot n w p) k)) (nI (blc n w p (k + 1))), _) = _
        rw [mxI_n (by omega) (by omega), nI_1]
        rfl
    · unfold SX12_balls_16
      dsimp only
      exact Ok.bq (q_points h hs) (Ok.ifT (by rw [nI_leP (by omega) (by omega)]; omega) (Ok.ret ⟨rfl, rfl⟩))
  · unfold SX12_balls_4
    dsimp only
    exact Ok.bq (q_points h hs) (Ok.ifT (by rw [nI_leP (by omega) (by omega)]; omega) (Ok.ret ⟨rfl, rfl⟩))
theorem z3_look {σ : St} (hI : INV3 σ) (a b : Int32) : BOTH (FX11_look a b σ) (fun u => FX12_look a b u) := by
  rcases r3 (a := a) with ⟨s, hs, rfl⟩ | ha
  · obtain ⟨v, h⟩ := hI.sl hs
    have hn : v.1 < 10 := h.1.1.1
    have hw := h.1.1.2.1
    have h0 := h.2.1.1.1
    have hr := h.2.2.1
    have hc := h.2.1.1
    have gx := n_sl hs
    by_cases h1 : 1 ≤ v.1
    · have wl := wst_le hw hn (Nat.le_refl v.1)
      have el : FX12_lines (nI s) σ = some (nI v.2.1, σ) := Ok.eq (m_lines hr hs hn hw ⟨rfl, by rw [← h.1.1.2.2, Nat.mul_div_cancel_left _ (by omega)]⟩)
      by_cases hb : IsR 7 b
      · obtain ⟨q, hq, rfl⟩ := hb
        have ei : FX12_in (nI q).toInt64 (0 : Int64) (6 : Int64) σ = some (1, σ) := q_in1 (n := 7) (by omega) (by omega) (by decide) ⟨q, hq, rfl⟩
        have mm : ∀ {Q : Int32 → St → Prop}, Ok (if nI q = 0 then (bnd (FX12_points (nI s) σ) (fun v22 t23 => (some (v22, t23)))) else (if nI q = 1 then (bnd (FX12_lines (nI s) σ) (fun v27 t28 => (some (v27, t28)))) else (if nI q = 2 then (some ((nI (sm v.1 (fun p => sm v.1 (v.2.2.1 p))) / (2 : Int32)), σ)) else (if nI q = 3 then (bnd (FX12_degree (nI s) σ) (fun v34 t35 => (some (v34, t35)))) else (if nI q = 4 then (bnd (FX12_parts (nI s) σ) (fun v39 t40 => (some (v39, t40)))) else (if nI q = 5 then (bnd (FX12_diameter (nI s) σ) (fun v44 t45 => (some (v44, t45)))) else (bnd (FX12_core (nI s) σ) (fun v48 t49 => (some (v48, t49)))))))))) Q → Ok (FX12_look (nI s) (nI q) σ) Q := fun k => by
          unfold FX12_look
          exact Ok.bq (g_isN1 hs hn hr h1) (Ok.ifF (by decide) (Ok.bq ei (Ok.ifF (by decide) (Ok.bq (q_allM hr hs hn) k))))
        rcases (show q = 0 ∨ q = 1 ∨ q = 2 ∨ q = 3 ∨ q = 4 ∨ q = 5 ∨ q = 6 by omega) with rfl | rfl | rfl | rfl | rfl | rfl | rfl
        · refine BOTH.no (v := nI v.1) hI ?_ ?_
          · unfold FX11_look
            exact Ok.eq (netI hs hn h0 (fun q => absurd h1 (by omega)) (fun _ g => Ok.ifT rfl (Ok.rdE hc.1 (Ok.ret ⟨rfl, rfl⟩))))
          · exact Ok.eq (mm (Ok.ifT rfl (Ok.bq (q_points hr hs) (Ok.ret ⟨rfl, rfl⟩))))
        · refine BOTH.no (v := nI v.2.1) hI ?_ ?_
          · unfold FX11_look
            exact Ok.eq (netI hs hn h0 (fun q => absurd h1 (by omega)) (fun _ g => Ok.ifF (by decide) (Ok.ifT rfl (Ok.rdE hc.2.1 (Ok.ret ⟨rfl, rfl⟩)))))
          · exact Ok.eq (mm (Ok.ifF (by decide) (Ok.ifT rfl (Ok.bq el (Ok.ret ⟨rfl, rfl⟩)))))
        · refine BOTH.no (v := nI (sm v.1 (fun p => sm v.1 (v.2.2.1 p)) / 2)) hI ?_ ?_
          · unfold FX11_look
            exact Ok.eq (netI hs hn h0 (fun q => absurd h1 (by omega)) (fun _ g => Ok.ifF (by decide) (Ok.ifF (by decide) (Ok.ifT rfl (Ok.bq (q_wholeWeight hc gx hw hn) (Ok.ret ⟨rfl, rfl⟩))))))
          · exact Ok.eq (mm (Ok.ifF (by decide) (Ok.ifF (by decide) (Ok.ifT rfl (Ok.ret ⟨rfl, by rw [li_2, nI_divN (by omega) (by omega) (by omega)]⟩)))))
        · refine BOTH.no (v := nI (mxf (fun p => cnt (nr v.2.2.1 p) 9) v.1)) hI ?_ ?_
          · unfold FX11_look
            exact Ok.eq (netI hs hn h0 (fun q => absurd h1 (by omega)) (fun _ g => Ok.ifF (by decide) (Ok.ifF (by decide) (Ok.ifF (by decide) (Ok.ifT rfl (Ok.bq (q_mostLines hc gx hn) (Ok.ret ⟨rfl, rfl⟩)))))))
          · exact Ok.eq (mm (Ok.ifF (by decide) (Ok.ifF (by decide) (Ok.ifF (by decide) (Ok.ifT rfl (Ok.bq (q_degree hr hs hw hn) (Ok.ret ⟨rfl, rfl⟩)))))))
        · refine BOTH.no (v := nI (prf v.1 v.2.2.1 v.1)) hI ?_ ?_
          · unfold FX11_look
            exact Ok.eq (netI hs hn h0 (fun q => absurd h1 (by omega)) (fun _ g => Ok.ifF (by decide) (Ok.ifF (by decide) (Ok.ifF (by decide) (Ok.ifF (by decide) (Ok.ifT rfl (Ok.bq (q_partCount hc gx hw hn) (Ok.ret ⟨rfl, rfl⟩))))))))
          · exact Ok.eq (mm (Ok.ifF (by decide) (Ok.ifF (by decide) (Ok.ifF (by decide) (Ok.ifF (by decide) (Ok.ifT rfl (Ok.bq (q_parts hr hs hw hn) (Ok.ret ⟨rfl, rfl⟩))))))))
        · obtain ⟨r, u, e1, rfl, d1⟩ := q_diameter hc gx hw hn
          obtain ⟨r2, u2, e2, rfl, d2⟩ := q_diameterM hr hs hw hn
          obtain rfl := d1.uq d2
          refine BOTH.no (v := r) hI ?_ ?_
          · unfold FX11_look
            exact Ok.eq (netI hs hn h0 (fun q => absurd h1 (by omega)) (fun _ g => Ok.ifF (by decide) (Ok.ifF (by decide) (Ok.ifF (by decide) (Ok.ifF (by decide) (Ok.ifF (by decide) (Ok.ifT rfl (Ok.bq e1 (Ok.ret ⟨rfl, rfl⟩)))))))))
          · exact Ok.eq (mm (Ok.ifF (by decide) (Ok.ifF (by decide) (Ok.ifF (by decide) (Ok.ifF (by decide) (Ok.ifF (by decide) (Ok.ifT rfl (Ok.bq e2 (Ok.ret ⟨rfl, rfl⟩)))))))))
        · refine BOTH.no (v := nI (crf v.1 v.2.2.1 (2 ^ v.1 - 1))) hI ?_ ?_
          · unfold FX11_look
            exact Ok.eq (netI hs hn h0 (fun q => absurd h1 (by omega)) (fun _ g => Ok.ifF (by decide) (Ok.ifF (by decide) (Ok.ifF (by decide) (Ok.ifF (by decide) (Ok.ifF (by decide) (Ok.ifF (by decide) (Ok.ifT rfl (Ok.bq (q_core hc gx hw hn) (Ok.ret ⟨rfl, rfl⟩))))))))))
          · exact Ok.eq (mm (Ok.ifF (by decide) (Ok.ifF (by decide) (Ok.ifF (by decide) (Ok.ifF (by decide) (Ok.ifF (by decide) (Ok.ifF (by decide) (Ok.bq (q_coreM hr hs hw hn) (Ok.ret ⟨rfl, rfl⟩)))))))))
      · refine BOTH.no (v := -2) hI ?_ ?_
        · unfold FX11_look
          exact Ok.eq (netI hs hn h0 (fun _ => ⟨rfl, rfl⟩) (fun _ g => Ok.ifF (fun q => hb ⟨0, by omega, q⟩) (Ok.ifF (fun q => hb ⟨1, by omega, q⟩) (Ok.ifF (fun q => hb ⟨2, by omega, q⟩) (Ok.ifF (fun q => hb ⟨3, by omega, q⟩) (Ok.ifF (fun q => hb ⟨4, by omega, q⟩) (Ok.ifF (fun q => hb ⟨5, by omega, q⟩) (Ok.ifF (fun q => hb ⟨6, by omega, q⟩) (Ok.ret ⟨rfl, rfl⟩)))))))))
        · refine Ok.eq ?_
          unfold FX12_look
          exact Ok.bq (g_isN1 hs hn hr h1) (Ok.ifF (by decide) (Ok.bq (q_in0 (n := 7) (by omega) (by omega) (by decide) hb) (Ok.ifT rfl (Ok.ret ⟨rfl, rfl⟩))))
    · refine BOTH.no (v := -2) hI ?_ ?_
      · unfold FX11_look
        exact Ok.eq (netI hs hn h0 (fun _ => ⟨rfl, rfl⟩) (fun h g => absurd h h1))
      · refine Ok.eq ?_
        unfold FX12_look
        exact Ok.bq (g_isN0 hs hn hr (by omega)) (Ok.ifT rfl (Ok.ret ⟨rfl, rfl⟩))
  · refine BOTH.no (v := -2) hI ?_ ?_
    · unfold FX11_look
      exact net0 ha
    · refine Ok.eq ?_
      unfold FX12_look
      exact Ok.bq (g_isNet0 ha) (Ok.ifT rfl (Ok.ret ⟨rfl, rfl⟩))
def lbv (n : Nat) (w : Nat → Nat → Nat) (q : Nat) : Nat := if q = 0 then (mxf (fun p => sm n (w p)) n + 1) / 2 else if q = 2 then (mxf (fun p => cnt (nr w p) 9) n + 1) / 2 else crf n w (2 ^ n - 1)
theorem q_lineBound {x n l q : Nat} {w : Nat → Nat → Nat} {t : St} (h : CN x n l w t) (g : netAt x = true) (hw : WF n w) (hn : n < 10) (hq : q < 7) : FX10_lineBound x (nI q) t = some (nI (lbv n w q), t) := by
  refine Ok.eq ?_
  unfold FX10_lineBound lbv
  have a := mxf_le (f := fun p => sm n (w p)) (b := 81) (fun i => wat_le hw hn) (n := n)
  have b := mxf_le (f := fun p => cnt (nr w p) 9) (b := 9) (fun i => cnt_le) (n := n)
  refine Ok.ckT g (Ok.cv (nI_lit (k := 0) hq (by omega)) (Ok.ite (fun c => ?_) (fun c => Ok.cv (nI_lit (k := 2) hq (by omega)) (Ok.ite (fun c2 => ?_) (fun c2 => ?_)))))
  · rw [if_pos c]
    refine Ok.bq (q_mostWeight h g hw hn) (Ok.ret ⟨rfl, ?_⟩)
    rw [nI_1, li_2, nI_divN (by omega) (by omega) (by omega)]
  · rw [if_neg c, if_pos c2]
    refine Ok.bq (q_mostLines h g hn) (Ok.ret ⟨rfl, ?_⟩)
    rw [nI_1, li_2, nI_divN (by omega) (by omega) (by omega)]
  · rw [if_neg c, if_neg c2]
    exact Ok.bq (q_core h g hw hn) (Ok.ret ⟨rfl, rfl⟩)
/-- what the reference says of lines -/
theorem q_lineBoundM {s n q : Nat} {w : Nat → Nat → Nat} {t : St} (h : RN s n w t) (hs : s < 3) (hw : WF n w) (hn : n < 10) (hq : q < 7) : Ok (bnd (wh (SX12_bound_66 (nI s) (nI q)) ((0 : Int32), (0 : Int32)) t) (fun e50 t51 => (if nI q = (0 : Int32) then (some (((e50 + (1 : Int32)) / (2 : Int32)), t51)) else (if nI q = (2 : Int32) then (bnd (FX12_degree (nI s) t51) (fun v60 t61 => (some (((v60 + (1 : Int32)) / (2 : Int32)), t61)))) else (bnd (FX12_core (nI s) t51) (fun v56 t57 => (some (v56, t57)))))))) (fun r u => t = u ∧ r = nI (lbv n w q)) := by
  have a := mxf_le (f := fun p => sm n (w p)) (b := 81) (fun i => wat_le hw hn) (n := n)
  have b := mxf_le (f := fun p => cnt (nr w p) 9) (b := 9) (fun i => cnt_le) (n := n)
  unfold lbv
  refine Ok.bq (q_mostWeightM h hs hw hn) (Ok.cv (nI_lit (k := 0) hq (by omega)) (Ok.ite (fun c => ?_) (fun c => Ok.cv (nI_lit (k := 2) hq (by omega)) (Ok.ite (fun c2 => ?_) (fun c2 => ?_)))))
  · rw [if_pos c]
    refine Ok.ret ⟨rfl, ?_⟩
    rw [nI_1, li_2, nI_divN (by omega) (by omega) (by omega)]
  · rw [if_neg c, if_pos c2]
    refine Ok.bq (q_degree h hs hw hn) (Ok.ret ⟨rfl, ?_⟩)
    rw [nI_1, li_2, nI_divN (by omega) (by omega) (by omega)]
  · rw [if_neg c, if_neg c2]
    exact Ok.bq (q_coreM h hs hw hn) (Ok.ret ⟨rfl, rfl⟩)
theorem q_bdC {s q : Nat} {c : Int32} {v : V4} {t : St} (hs : s < 3) (h : SL t s v) (h1 : 1 ≤ v.1) (hq : q < 7) : FX11_bound (nI s) (nI q) c t = some (if ¬ (q = 0 ∨ q = 1 ∨ q = 2 ∨ q = 5) then -2 else if c = 1 ∧ q = 2 then nI (bot v.1 v.2.2.1 v.1) else if c = 0 then nI (lbv v.1 v.2.2.1 q) else -2, t) := by
  have hn : v.1 < 10 := h.1.1.1
  have hw := h.1.1.2.1
  have gx := n_sl hs
  refine Ok.eq ?_
  unfold FX11_bound
  refine netI hs hn h.2.1.1.1 (fun q => absurd h1 (by omega)) (fun _ g => Ok.bq (g_bd hq) ?_)
  by_cases b : q = 0 ∨ q = 1 ∨ q = 2 ∨ q = 5
  · rw [if_pos b, if_neg (c := ¬ (q = 0 ∨ q = 1 ∨ q = 2 ∨ q = 5)) (fun k => k b)]
    refine Ok.ifF (by decide) (Ok.ite (fun c1 => ?_) (fun c1 => ?_))
    · refine Ok.cv (nI_lit (k := 2) hq (by omega)) (Ok.ite (fun c2 => ?_) (fun c2 => ?_))
      · rw [if_pos ⟨c1, c2⟩]
        exact Ok.bq (q_ballBound h.2.1.1 gx hw hn) (Ok.ret ⟨rfl, rfl⟩)
      · rw [if_neg (c := c = 1 ∧ q = 2) (fun k => c2 k.2)]
        refine Ok.ite (fun c0 => ?_) (fun c0 => ?_)
        · rw [if_pos c0]; exact Ok.bq (q_lineBound h.2.1.1 gx hw hn hq) (Ok.ret ⟨rfl, rfl⟩)
        · rw [if_neg c0]; exact Ok.ret ⟨rfl, rfl⟩
    · rw [if_neg (c := c = 1 ∧ q = 2) (fun k => c1 k.1)]
      refine Ok.ite (fun c0 => ?_) (fun c0 => ?_)
      · rw [if_pos c0]; exact Ok.bq (q_lineBound h.2.1.1 gx hw hn hq) (Ok.ret ⟨rfl, rfl⟩)
      · rw [if_neg c0]; exact Ok.ret ⟨rfl, rfl⟩
  · rw [if_neg b, if_pos (c := ¬ (q = 0 ∨ q = 1 ∨ q = 2 ∨ q = 5)) b]
    exact Ok.ifT rfl (Ok.ret ⟨rfl, rfl⟩)
theorem q_bdM {s q : Nat} {c : Int32} {v : V4} {t : St} (hs : s < 3) (h : SL t s v) (h1 : 1 ≤ v.1) (hq : q < 7) : FX12_bound (nI s) (nI q) c t = some (if ¬ (q = 0 ∨ q = 1 ∨ q = 2 ∨ q = 5) then -2 else if c = 1 ∧ q = 2 then nI (bot v.1 v.2.2.1 v.1) else if c = 0 then nI (lbv v.1 v.2.2.1 q) else -2, t) := by
  have hn : v.1 < 10 := h.1.1.1
  have hw := h.1.1.2.1
  have hr := h.2.2.1
  refine Ok.eq ?_
  unfold FX12_bound
  refine Ok.bq (g_isN1 hs hn hr h1) (Ok.ifF (by decide) (Ok.bq (g_msM hq) (Ok.ifF (by decide) (Ok.ite (fun c2 => ?_) (fun c2 => ?_)))))
  · have q2 : q = 2 := nI_inj (b := 2) c2 (by omega) (by omega)
    rw [if_neg (c := ¬ (q = 0 ∨ q = 1 ∨ q = 2 ∨ q = 5)) (fun k => k (by omega))]
    refine Ok.ifT c2 ?_
    by_cases hc : IsR 2 c
    · refine Ok.bq (q_in1 (n := 2) (by omega) (by omega) (by decide) hc) (Ok.ifF (by decide) (Ok.ite (fun c1 => ?_) (fun c1 => ?_)))
      · rw [if_pos ⟨c1, q2⟩]
        exact Ok.bq (q_balls hr hs hw hn) (Ok.ret ⟨rfl, rfl⟩)
      · rw [if_neg (c := c = 1 ∧ q = 2) (fun k => c1 k.1)]
        have c0 : c = 0 := by
          obtain ⟨k, hk, rfl⟩ := hc
          rcases (show k = 0 ∨ k = 1 by omega) with rfl | rfl
          · rfl
          · exact absurd rfl c1
        rw [if_pos c0]
        exact q_lineBoundM hr hs hw hn hq
    · rw [if_neg (c := c = 1 ∧ q = 2) (fun k => hc ⟨1, by omega, k.1⟩), if_neg (c := c = 0) (fun k => hc ⟨0, by omega, k⟩)]
      exact Ok.bq (q_in0 (n := 2) (by omega) (by omega) (by decide) hc) (Ok.ifT rfl (Ok.ret ⟨rfl, rfl⟩))
  · have q2 : q ≠ 2 := fun k => c2 (by rw [k]; rfl)
    refine Ok.bq (q_isGreatest hq) ?_
    by_cases gr : q = 0 ∨ q = 1 ∨ q = 5
    · rw [if_pos gr, if_neg (c := ¬ (q = 0 ∨ q = 1 ∨ q = 2 ∨ q = 5)) (fun k => k (by omega)), if_neg (c := c = 1 ∧ q = 2) (fun k => q2 k.2)]
      refine Ok.ifF (by decide) (Ok.ifF c2 ?_)
      by_cases hc : IsR 1 c
      · obtain ⟨k, hk, rfl⟩ := hc
        obtain rfl : k = 0 := by omega
        rw [if_pos (c := nI 0 = 0) rfl]
        exact Ok.bq (q_in1 (n := 1) (by omega) (by omega) (by decide) ⟨0, by omega, rfl⟩) (Ok.ifF (by decide) (Ok.ifF (by decide) (q_lineBoundM hr hs hw hn hq)))
      · rw [if_neg (c := c = 0) (fun k => hc ⟨0, by omega, k⟩)]
        exact Ok.bq (q_in0 (n := 1) (by omega) (by omega) (by decide) hc) (Ok.ifT rfl (Ok.ret ⟨rfl, rfl⟩))
    · rw [if_neg gr, if_pos (c := ¬ (q = 0 ∨ q = 1 ∨ q = 2 ∨ q = 5)) (by omega)]
      exact Ok.ifT rfl (Ok.ret ⟨rfl, rfl⟩)
theorem z3_bound {σ : St} (hI : INV3 σ) (a b c : Int32) : BOTH (FX11_bound a b c σ) (fun u => FX12_bound a b c u) := by
  rcases r3 (a := a) with ⟨s, hs, rfl⟩ | ha
  · obtain ⟨v, h⟩ := hI.sl hs
    have hn : v.1 < 10 := h.1.1.1
    have hw := h.1.1.2.1
    have h0 := h.2.1.1.1
    have hr := h.2.2.1
    have gx := n_sl hs
    by_cases h1 : 1 ≤ v.1
    · by_cases hb : IsR 7 b
      · obtain ⟨q, hq, rfl⟩ := hb
        exact BOTH.no hI (q_bdC hs h h1 hq) (q_bdM hs h h1 hq)
      · refine BOTH.no (v := -2) hI ?_ ?_
        · unfold FX11_bound
          exact Ok.eq (netI hs hn h0 (fun _ => ⟨rfl, rfl⟩) (fun h1 g => Ok.bq (g_bd0 hb) (Ok.ifT rfl (Ok.ret ⟨rfl, rfl⟩))))
        · refine Ok.eq ?_
          unfold FX12_bound
          exact Ok.bq (g_isN1 hs hn hr h1) (Ok.ifF (by decide) (Ok.bq (g_msM0 hb) (Ok.ifT rfl (Ok.ret ⟨rfl, rfl⟩))))
    · refine BOTH.no (v := -2) hI ?_ ?_
      · unfold FX11_bound
        exact Ok.eq (netI hs hn h0 (fun _ => ⟨rfl, rfl⟩) (fun h g => absurd h h1))
      · refine Ok.eq ?_
        unfold FX12_bound
        exact Ok.bq (g_isN0 hs hn hr (by omega)) (Ok.ifT rfl (Ok.ret ⟨rfl, rfl⟩))
  · refine BOTH.no (v := -2) hI ?_ ?_
    · unfold FX11_bound
      exact net0 ha
    · refine Ok.eq ?_
      unfold FX12_bound
      exact Ok.bq (g_isNet0 ha) (Ok.ifT rfl (Ok.ret ⟨rfl, rfl⟩))
