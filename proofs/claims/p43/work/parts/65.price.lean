/-! prices: what both say of a set, a step -/
theorem Ok.eq {α : Type} {m : Option (α × St)} {a : α} {t : St} (h : Ok m (fun r u => t = u ∧ r = a)) : m = some (a, t) := by
  obtain ⟨v, s, e, rfl, rfl⟩ := h
  exact e
theorem Ok.bq {α β : Type} {m : Option (α × St)} {a : α} {t : St} {f : α → St → Option (β × St)} {Q : β → St → Prop} (e : m = some (a, t)) (k : Ok (f a t) Q) : Ok (bnd m f) Q := by
  rw [e]
  exact k
theorem wq {C R : Type} {f : C → St → Option ((C ⊕ R) × St)} {t : St} (n : Nat) (c : Nat → C) {r : R} (step : ∀ j, j < n → Ok (f (c j) t) (fun x u => t = u ∧ x = Sum.inl (c (j + 1)))) (last : Ok (f (c n) t) (fun x u => t = u ∧ x = Sum.inr r)) : wh f (c 0) t = some (r, t) := by
  refine Ok.eq (Ok.count n (fun j d s => d = c j ∧ t = s) ?_ ?_ (Nat.zero_le n) ⟨rfl, rfl⟩)
  · rintro j d s hj ⟨rfl, rfl⟩
    refine (step j hj).mono ?_
    rintro x u ⟨rfl, rfl⟩
    exact ⟨rfl, rfl⟩
  · rintro d s ⟨rfl, rfl⟩
    refine last.mono ?_
    rintro x u ⟨rfl, rfl⟩
    exact ⟨rfl, rfl⟩
theorem wq0 {C R : Type} {f : C → St → Option ((C ⊕ R) × St)} {t : St} (n : Nat) (c : Nat → C) {c0 : C} (h0 : c0 = c 0) {r : R} (step : ∀ j, j < n → Ok (f (c j) t) (fun x u => t = u ∧ x = Sum.inl (c (j + 1)))) (last : Ok (f (c n) t) (fun x u => t = u ∧ x = Sum.inr r)) : wh f c0 t = some (r, t) := by
  rw [h0]
  exact wq n c step last
theorem bz {x : Int32} {k : Nat} (hk : k < 32) : (shr x (nI k) &&& 1 = 0) = (x.toBitVec.getLsbD k = false) := by
  have h1 := bit_g (x := x) hk
  obtain ⟨j, hj, e⟩ := pk_andE (shr x (nI k)) (m := 1) 1 (by decide)
  have e : shr x (nI k) &&& 1 = nI j := e
  have hj : j < 2 := hj
  rcases (show j = 0 ∨ j = 1 by omega) with rfl | rfl
  · refine propext ⟨fun _ => ?_, fun _ => e⟩
    cases q : x.toBitVec.getLsbD k
    · rfl
    · have := h1.mpr q
      rw [e] at this
      exact absurd this (by decide)
  · refine propext ⟨fun q => ?_, fun q => ?_⟩
    · rw [e] at q
      exact absurd q (by decide)
    · have := h1.mp e
      rw [q] at this
      cases this
theorem bitN {S k : Nat} (hk : k < 32) : (nI S).toBitVec.getLsbD k = S.testBit k := by
  show (BitVec.ofNat 32 S).getLsbD k = S.testBit k
  rw [BitVec.getLsbD_ofNat]
  simp [hk]
theorem bitC {x : Int32} {k : Nat} (hk : k < 32) : (x ^^^ -1).toBitVec.getLsbD k = !x.toBitVec.getLsbD k := by
  show (x.toBitVec ^^^ 4294967295#32).getLsbD k = _
  rw [BitVec.getLsbD_xor]
  have h1 : (4294967295#32).getLsbD k = true := (by decide : ∀ i, i < 32 → (4294967295#32).getLsbD i = true) k hk
  rw [h1]
  simp
theorem q_bitCount {S : Nat} (hS : S < 512) {t : St} : FJ6_bitCount_0f7a4 (nI S) t = some (nI (cnt S 9), t) := by rw [bcx_e, bcx_all S hS]
theorem q_ones {S : Nat} (hS : S < 512) {t : St} : FX12_ones (nI S) t = some (nI (cnt S 9), t) := Ok.eq (e_ones hS ⟨rfl, rfl⟩)
theorem q_weightOf {x n l : Nat} {w : Nat → Nat → Nat} {t : St} (h : CN x n l w t) (g : netAt x = true) {a b : Nat} (ha : a < 9) (hb : b < 9) : FX5_weightOf x (nI a) (nI b) t = some (nI (w a b), t) := Ok.eq (e_weightOf h g ha hb ⟨rfl, rfl⟩)
theorem q_points {s n : Nat} {w : Nat → Nat → Nat} {t : St} (h : RN s n w t) (hs : s < 3) : FX12_points (nI s) t = some (nI n, t) := Ok.eq (m_points h hs ⟨rfl, rfl⟩)
theorem q_weight {s n : Nat} {w : Nat → Nat → Nat} {t : St} (h : RN s n w t) (hs : s < 3) {a b : Nat} (ha : a < 9) (hb : b < 9) : FX12_weight (nI s) (nI a) (nI b) t = some (nI (w a b), t) := Ok.eq (m_weight h hs ha hb ⟨rfl, rfl⟩)
theorem q_nearOf {s n : Nat} {w : Nat → Nat → Nat} {t : St} (h : RN s n w t) (hs : s < 3) (hn : n < 10) (hw : WF n w) {a : Nat} (ha : a < 9) : FX12_nearOf (nI s) (nI a) t = some (nI (nr w a), t) := Ok.eq (m_nearOf h hs hn hw ha ⟨rfl, rfl⟩)
theorem q_has {S j : Nat} (hS : S < 2147483648) (hj : j < 32) {t : St} : FX12_has (nI S) (nI j) t = some (nI (S.testBit j).toNat, t) := Ok.eq ((xX12_has hS hj).mono (fun _ _ h => h))
theorem b01 {b : Bool} : (nI b.toNat = 0) = (b = false) := by
  cases b
  · exact propext ⟨fun _ => rfl, fun _ => rfl⟩
  · exact propext ⟨fun h => absurd h (by decide), fun h => by cases h⟩
theorem nI_s1 {a : Nat} (h : 1 ≤ a) : nI a - 1 = nI (a - 1) := nI_sub h
/-! pure -/
def cutW (n : Nat) (w : Nat → Nat → Nat) (A : Nat) : Nat := sm n (fun a => if A.testBit a = true then sm n (fun b => if A.testBit b = true then 0 else w a b) else 0)
def gatS (n : Nat) (w : Nat → Nat → Nat) (A : Nat) : Nat := sm n (fun a => if A.testBit a = true ∧ dif (nr w a) A ≠ 0 then 1 else 0)
def frgS (n : Nat) (w : Nat → Nat → Nat) (A : Nat) : Nat := sm n (fun a => if A.testBit a = false ∧ nr w a &&& A ≠ 0 then 1 else 0)
theorem cnt_mkm {P : Nat → Bool} : ∀ {n m : Nat}, n ≤ m → cnt (mkm n P) m = sm n (fun a => if P a = true then 1 else 0) := by
  intro n m h
  induction m with
  | zero =>
    have : n = 0 := by omega
    subst this
    rfl
  | succ m ih =>
    rw [cnt_succ, mkm_bit]
    by_cases e : n ≤ m
    · rw [ih e]
      have : ¬ m < n := by omega
      simp [this]
    · have : n = m + 1 := by omega
      subst this
      have key : ∀ k, k ≤ m → cnt (mkm (m + 1) P) k = sm k (fun a => if P a = true then 1 else 0) := by
        intro k
        induction k with
        | zero => intro _; rfl
        | succ k ihk =>
          intro hk
          rw [cnt_succ, ihk (by omega), mkm_bit]
          have : k < m + 1 := by omega
          simp only [this, decide_true, Bool.true_and]
          rfl
      rw [key m (Nat.le_refl _)]
      simp only [Nat.lt_succ_self, decide_true, Bool.true_and]
      rfl
theorem cutW_le {n : Nat} {w : Nat → Nat → Nat} {A : Nat} (hw : WF n w) (hn : n < 10) : cutW n w A ≤ 729 := by
  have h1 : ∀ a, sm n (fun b => if A.testBit b = true then 0 else w a b) ≤ n * 9 := fun a => sm_le (fun b _ => by
    have := hw.1 a b
    split <;> omega)
  have h2 := sm_le (f := fun a => if A.testBit a = true then sm n (fun b => if A.testBit b = true then 0 else w a b) else 0) (b := 81) (n := n) (fun a _ => by
    have := h1 a
    show (if A.testBit a = true then _ else 0) ≤ 81
    split <;> omega)
  unfold cutW
  omega
theorem sm_le1 {f : Nat → Nat} {n : Nat} (h : ∀ i, f i ≤ 1) : sm n f ≤ n := by
  have := sm_le (f := f) (b := 1) (n := n) (fun i _ => h i)
  omega
theorem gatS_le {n : Nat} {w : Nat → Nat → Nat} {A : Nat} : gatS n w A ≤ n := sm_le1 (fun i => by split <;> omega)
theorem frgS_le {n : Nat} {w : Nat → Nat → Nat} {A : Nat} : frgS n w A ≤ n := sm_le1 (fun i => by split <;> omega)
/-! the class -/
theorem q_cutWeight {x n l : Nat} {w : Nat → Nat → Nat} {t : St} (h : CN x n l w t) (g : netAt x = true) (hw : WF n w) (hn : n < 10) {A : Nat} (hA : A < 512) : FX6_cutWeight x (nI A) t = some (nI (cutW n w A), t) := by
  refine Ok.eq ?_
  unfold FX6_cutWeight
  refine Ok.ckT g (Ok.bq (a := nI (cutW n w A)) (t := t) (wq n (fun j => (nI (sm j (fun a => if A.testBit a = true then sm n (fun b => if A.testBit b = true then 0 else w a b) else 0)), nI j)) (fun j hj => ?_) ?_) (Ok.ret ⟨rfl, rfl⟩))
  · unfold SX6_cutWeight_4
    dsimp only
    refine Ok.rdE h.1 (Ok.ifF (by rw [nI_leP (by omega) (by omega)]; omega) (Ok.ckT (inb_n (by omega) (by omega)) ?_))
    rw [nI_cl (by omega)]
    refine Ok.rdE (h.2.2.1 j (by omega)) ?_
    refine Ok.bq (a := nI (sm (j + 1) (fun a => if A.testBit a = true then sm n (fun b => if A.testBit b = true then 0 else w a b) else 0))) (t := t) (Ok.eq ?_) (Ok.ret ⟨rfl, by rw [nI_1]⟩)
    show Ok _ (fun r u => t = u ∧ r = nI (sm j (fun a => if A.testBit a = true then sm n (fun b => if A.testBit b = true then 0 else w a b) else 0) + (if A.testBit j = true then sm n (fun b => if A.testBit b = true then 0 else w j b) else 0)))
    refine Ok.cv (bitn (by omega) (by omega)) (Ok.ite (fun c => Ok.ret ⟨rfl, ?_⟩) (fun c => ?_))
    · rw [if_neg (by rw [c]; decide), Nat.add_zero]
    · have c : A.testBit j = true := by
        cases q : A.testBit j
        · exact absurd q c
        · rfl
      rw [if_pos c, nI_dif nr_lt hA]
      have hd : dif (nr w j) A < 512 := dif_lt nr_lt
      refine Ok.cv (nI_eqP (b := 0) (by omega) (by omega)) (Ok.ite (fun c0 => Ok.ret ⟨rfl, ?_⟩) (fun c0 => ?_))
      · rw [sm_zero (n := n), Nat.add_zero]
        intro b hb
        by_cases e : A.testBit b = true
        · rw [if_pos e]
        · rw [if_neg e]
          have h1 : (dif (nr w j) A).testBit b = false := by rw [c0, Nat.zero_testBit]
          rw [dif_bit nr_lt, nr_bit (by omega)] at h1
          have e : A.testBit b = false := by
            cases q : A.testBit b
            · rfl
            · exact absurd q e
          rw [e] at h1
          simp at h1
          omega
      · refine Ok.bq (a := nI (sm j (fun a => if A.testBit a = true then sm n (fun b => if A.testBit b = true then 0 else w a b) else 0) + sm n (fun b => if A.testBit b = true then 0 else w j b))) (t := t) (wq n (fun i => (nI (sm j (fun a => if A.testBit a = true then sm n (fun b => if A.testBit b = true then 0 else w a b) else 0) + sm i (fun b => if A.testBit b = true then 0 else w j b)), nI i)) (fun i hi => ?_) ?_) (Ok.ret ⟨rfl, rfl⟩)
        · unfold SX6_cutWeight_43
          dsimp only
          refine Ok.rdE h.1 (Ok.ifF (by rw [nI_leP (by omega) (by omega)]; omega) ?_)
          refine Ok.bq (a := nI (sm j (fun a => if A.testBit a = true then sm n (fun b => if A.testBit b = true then 0 else w a b) else 0) + sm (i + 1) (fun b => if A.testBit b = true then 0 else w j b))) (t := t) (Ok.eq ?_) (Ok.ret ⟨rfl, by rw [nI_1]⟩)
          show Ok _ (fun r u => t = u ∧ r = nI (sm j (fun a => if A.testBit a = true then sm n (fun b => if A.testBit b = true then 0 else w a b) else 0) + (sm i (fun b => if A.testBit b = true then 0 else w j b) + (if A.testBit i = true then 0 else w j i))))
          have hb : (dif (nr w j) A).testBit i = (decide (0 < w j i) && !A.testBit i) := by rw [dif_bit nr_lt, nr_bit (by omega)]
          refine Ok.cv (bitn (by omega) (by omega)) (Ok.ite (fun c1 => Ok.ret ⟨rfl, ?_⟩) (fun c1 => Ok.bq (q_weightOf h g (by omega) (by omega)) (Ok.ret ⟨rfl, ?_⟩)))
          · rw [hb] at c1
            congr 1
            by_cases e : A.testBit i = true
            · rw [if_pos e]; omega
            · rw [if_neg e]
              have e : A.testBit i = false := by
                cases q : A.testBit i
                · rfl
                · exact absurd q e
              rw [e] at c1
              simp at c1
              omega
          · rw [hb] at c1
            rw [nI_add]
            congr 1
            by_cases e : A.testBit i = true
            · rw [e] at c1
              simp at c1
            · rw [if_neg e]; omega
        · unfold SX6_cutWeight_43
          dsimp only
          exact Ok.rdE h.1 (Ok.ifT (by rw [nI_leP (by omega) (by omega)]; omega) (Ok.ret ⟨rfl, rfl⟩))
  · unfold SX6_cutWeight_4
    dsimp only
    exact Ok.rdE h.1 (Ok.ifT (by rw [nI_leP (by omega) (by omega)]; omega) (Ok.ret ⟨rfl, rfl⟩))
/-- those of some that have a line with one of others -/
theorem q_withLine {x n l : Nat} {w : Nat → Nat → Nat} {t : St} (h : CN x n l w t) (g : netAt x = true) (hn : n < 10) {a b : Int32} {P : Nat → Bool} {B : Nat → Nat} (hP : ∀ p, p < 9 → (shr a (nI p) &&& 1 = 0) = (P p = false)) (hB : ∀ p, p < 9 → nI (nr w p) &&& b = nI (B p) ∧ B p < 512) : FX6_withLineInto x a b t = some (nI (mkm n (fun p => P p && decide (B p ≠ 0))), t) := by
  refine Ok.eq ?_
  unfold FX6_withLineInto
  refine Ok.ckT g (Ok.bq (a := nI (mkm n (fun p => P p && decide (B p ≠ 0)))) (t := t) (wq n (fun j => (nI (mkm j (fun p => P p && decide (B p ≠ 0))), nI j)) (fun j hj => ?_) ?_) (Ok.ret ⟨rfl, rfl⟩))
  · unfold SX6_withLineInto_5
    dsimp only
    refine Ok.rdE h.1 (Ok.ifF (by rw [nI_leP (by omega) (by omega)]; omega) ?_)
    refine Ok.bq (a := nI (mkm (j + 1) (fun p => P p && decide (B p ≠ 0)))) (t := t) (Ok.eq ?_) (Ok.ret ⟨rfl, by rw [nI_1]⟩)
    show Ok _ (fun r u => t = u ∧ r = nI (mkm j (fun p => P p && decide (B p ≠ 0)) ||| (if (P j && decide (B j ≠ 0)) = true then 2 ^ j else 0)))
    refine Ok.cv (hP j (by omega)) (Ok.ite (fun c => Ok.ret ⟨rfl, ?_⟩) (fun c => ?_))
    · rw [c, if_neg (by simp), Nat.or_zero]
    · have c : P j = true := by
        cases q : P j
        · exact absurd q c
        · rfl
      refine Ok.ckT (inb_n (by omega) (by omega)) ?_
      rw [nI_cl (by omega)]
      refine Ok.rdE (h.2.2.1 j (by omega)) ?_
      rw [(hB j (by omega)).1]
      have hb := (hB j (by omega)).2
      refine Ok.cv (nI_eqP (b := 0) (by omega) (by omega)) (Ok.ite (fun c0 => Ok.ret ⟨rfl, ?_⟩) (fun c0 => Ok.ret ⟨rfl, ?_⟩))
      · rw [if_neg (by simp [c0]), Nat.or_zero]
      · rw [if_pos (by simp [c, c0]), shl_1 (by omega), nI_or]
  · unfold SX6_withLineInto_5
    dsimp only
    exact Ok.rdE h.1 (Ok.ifT (by rw [nI_leP (by omega) (by omega)]; omega) (Ok.ret ⟨rfl, rfl⟩))
theorem and_lt9 {a b : Nat} (ha : a < 512) : a &&& b < 512 := and9 ha
theorem q_gateSize {x n l : Nat} {w : Nat → Nat → Nat} {t : St} (h : CN x n l w t) (g : netAt x = true) (hn : n < 10) {A : Nat} (hA : A < 512) : FX6_gateSize x (nI A) t = some (nI (gatS n w A), t) := by
  refine Ok.eq ?_
  unfold FX6_gateSize
  refine Ok.ckT g (Ok.bq (q_withLine h g hn (P := fun p => A.testBit p) (B := fun p => dif (nr w p) A) (fun p hp => bitn (by omega) (by omega)) (fun p hp => ⟨nI_dif nr_lt hA, dif_lt nr_lt⟩)) ?_)
  refine Ok.bq (q_bitCount (Nat.lt_of_lt_of_le mkm_lt (pow9 (by omega)))) (Ok.ret ⟨rfl, ?_⟩)
  rw [cnt_mkm (by omega)]
  congr 1
  refine sm_congr (fun i _ => ?_)
  by_cases c : A.testBit i = true ∧ dif (nr w i) A ≠ 0
  · rw [if_pos c, if_pos (by simp [c.1, c.2])]
  · rw [if_neg c, if_neg (fun q => c ?_)]
    simp only [Bool.and_eq_true, decide_eq_true_eq] at q
    exact q
theorem q_fringeSize {x n l : Nat} {w : Nat → Nat → Nat} {t : St} (h : CN x n l w t) (g : netAt x = true) (hn : n < 10) {A : Nat} (hA : A < 512) : FX6_fringeSize x (nI A) t = some (nI (frgS n w A), t) := by
  refine Ok.eq ?_
  unfold FX6_fringeSize
  refine Ok.ckT g (Ok.bq (q_withLine h g hn (P := fun p => !A.testBit p) (B := fun p => nr w p &&& A) (fun p hp => ?_) (fun p hp => ⟨nI_and _ _, and9 nr_lt⟩)) ?_)
  · rw [bz (by omega), bitC (by omega), bitN (by omega)]
  refine Ok.bq (q_bitCount (Nat.lt_of_lt_of_le mkm_lt (pow9 (by omega)))) (Ok.ret ⟨rfl, ?_⟩)
  rw [cnt_mkm (by omega)]
  congr 1
  refine sm_congr (fun i _ => ?_)
  by_cases c : A.testBit i = false ∧ nr w i &&& A ≠ 0
  · rw [if_pos c, if_pos (by simp [c.1, c.2])]
  · rw [if_neg c, if_neg (fun q => c ?_)]
    simp only [Bool.and_eq_true, decide_eq_true_eq, Bool.not_eq_true'] at q
    exact q
/-! the reference -/
/-- what 0: the cut, 1: the gate, 2: the fringe -/
def spl (n : Nat) (w : Nat → Nat → Nat) (A k : Nat) : Nat := if k = 1 then gatS n w A else if k = 2 then frgS n w A else cutW n w A
theorem q_splitOf {s n : Nat} {w : Nat → Nat → Nat} {t : St} (h : RN s n w t) (hs : s < 3) (hw : WF n w) (hn : n < 10) {A k : Nat} (hA : A < 512) (hk : k < 3) : FX12_splitOf (nI s) (nI A) (nI k) t = some (nI (spl n w A k), t) := by
  refine Ok.eq ?_
  unfold FX12_splitOf
  have e : spl n w A k = sm n (fun a => if k = 1 then (if A.testBit a = true ∧ dif (nr w a) A ≠ 0 then 1 else 0) else if k = 2 then (if A.testBit a = false ∧ nr w a &&& A ≠ 0 then 1 else 0) else (if A.testBit a = true then sm n (fun b => if A.testBit b = true then 0 else w a b) else 0)) := by
    unfold spl gatS frgS cutW
    rcases (show k = 0 ∨ k = 1 ∨ k = 2 by omega) with rfl | rfl | rfl <;> rfl
  rw [e]
  generalize hF : (fun a => if k = 1 then (if A.testBit a = true ∧ dif (nr w a) A ≠ 0 then 1 else 0) else if k = 2 then (if A.testBit a = false ∧ nr w a &&& A ≠ 0 then 1 else 0) else (if A.testBit a = true then sm n (fun b => if A.testBit b = true then 0 else w a b) else 0)) = F
  refine Ok.bq (a := nI (sm n F)) (t := t) (wq n (fun j => (nI (sm j F), nI j)) (fun j hj => ?_) ?_) (Ok.ret ⟨rfl, rfl⟩)
  · unfold SX12_splitOf_6
    dsimp only
    refine Ok.bq (q_points h hs) (Ok.ifF (by rw [nI_leP (by omega) (by omega)]; omega) (Ok.bq (q_nearOf h hs hn hw (by omega)) (Ok.bq (q_has (by omega) (by omega)) ?_)))
    refine Ok.bq (a := if A.testBit j = true then nI A ^^^ -1 else nI A) (t := t) (Ok.eq ?_) ?_
    · refine Ok.cv b01 (Ok.ite (fun c => Ok.ret ⟨rfl, ?_⟩) (fun c => Ok.ret ⟨rfl, ?_⟩))
      · rw [if_neg (by rw [c]; decide)]
      · rw [if_pos (by cases q : A.testBit j; exact absurd q c; rfl)]
    refine Ok.bq (a := nI (sm (j + 1) F)) (t := t) (Ok.eq ?_) (Ok.ret ⟨rfl, by rw [nI_1]⟩)
    show Ok _ (fun r u => t = u ∧ r = nI (sm j F + F j))
    have hd : dif (nr w j) A < 512 := dif_lt nr_lt
    have ha : nr w j &&& A < 512 := and9 nr_lt
    have hFj : F j = if k = 1 then (if A.testBit j = true ∧ dif (nr w j) A ≠ 0 then 1 else 0) else if k = 2 then (if A.testBit j = false ∧ nr w j &&& A ≠ 0 then 1 else 0) else (if A.testBit j = true then sm n (fun b => if A.testBit b = true then 0 else w j b) else 0) := by rw [← hF]
    refine Ok.cv (nI_eqP (b := 1) (by omega) (by omega)) (Ok.ite (fun k1 => ?_) (fun k1 => Ok.cv (nI_eqP (b := 2) (by omega) (by omega)) (Ok.ite (fun k2 => ?_) (fun k2 => ?_))))
    · rw [if_pos k1] at hFj
      refine Ok.bq (q_has (by omega) (by omega)) ?_
      refine Ok.bq (a := nI (F j)) (t := t) (Ok.eq (Ok.cv b01 (Ok.ite (fun c => Ok.ret ⟨rfl, ?_⟩) (fun c => ?_)))) (Ok.ret ⟨rfl, by rw [nI_add]⟩)
      · rw [hFj, if_neg (by rw [c]; simp)]
        rfl
      · have c : A.testBit j = true := by cases q : A.testBit j; exact absurd q c; rfl
        rw [if_pos c, nI_dif nr_lt hA]
        refine Ok.cv (nI_eqP (b := 0) (by omega) (by omega)) (Ok.ite (fun c0 => Ok.ret ⟨rfl, ?_⟩) (fun c0 => Ok.ret ⟨rfl, ?_⟩))
        · rw [hFj, if_neg (fun q => q.2 c0)]
          rfl
        · rw [hFj, if_pos ⟨c, c0⟩]
          rfl
    · rw [if_neg k1, if_pos k2] at hFj
      refine Ok.bq (q_has (by omega) (by omega)) ?_
      refine Ok.bq (a := nI (F j)) (t := t) (Ok.eq (Ok.cv b01 (Ok.ite (fun c => ?_) (fun c => Ok.ret ⟨rfl, ?_⟩)))) (Ok.ret ⟨rfl, by rw [nI_add]⟩)
      · rw [if_neg (c := A.testBit j = true) (by rw [c]; decide), nI_and]
        refine Ok.cv (nI_eqP (b := 0) (by omega) (by omega)) (Ok.ite (fun c0 => Ok.ret ⟨rfl, ?_⟩) (fun c0 => Ok.ret ⟨rfl, ?_⟩))
        · rw [hFj, if_neg (fun q => q.2 c0)]
          rfl
        · rw [hFj, if_pos ⟨c, c0⟩]
          rfl
      · rw [hFj, if_neg (fun q => c q.1)]
        rfl
    · rw [if_neg k1, if_neg k2] at hFj
      refine Ok.bq (q_has (by omega) (by omega)) (Ok.cv b01 (Ok.ite (fun c => Ok.ret ⟨rfl, ?_⟩) (fun c => ?_)))
      · rw [hFj, if_neg (by rw [c]; decide), Nat.add_zero]
      · have c : A.testBit j = true := by cases q : A.testBit j; exact absurd q c; rfl
        rw [if_pos c] at hFj
        refine Ok.bq (a := nI (sm j F + sm n (fun b => if A.testBit b = true then 0 else w j b))) (t := t) (wq n (fun i => (nI (sm j F + sm i (fun b => if A.testBit b = true then 0 else w j b)), nI i)) (fun i hi => ?_) ?_) (Ok.ret ⟨rfl, by rw [hFj]⟩)
        · unfold SX12_splitOf_118
          dsimp only
          refine Ok.bq (q_points h hs) (Ok.ifF (by rw [nI_leP (by omega) (by omega)]; omega) (Ok.bq (q_has (by omega) (by omega)) ?_))
          refine Ok.bq (a := nI (if A.testBit i = true then 0 else w j i)) (t := t) (Ok.eq (Ok.cv b01 (Ok.ite (fun c1 => Ok.bq (q_weight h hs (by omega) (by omega)) (Ok.ret ⟨rfl, ?_⟩)) (fun c1 => Ok.ret ⟨rfl, ?_⟩)))) (Ok.ret ⟨rfl, ?_⟩)
          · rw [if_neg (by rw [c1]; decide)]
          · rw [if_pos (by cases q : A.testBit i; exact absurd q c1; rfl)]
            rfl
          · rw [nI_add, nI_1, Nat.add_assoc]
            rfl
        · unfold SX12_splitOf_118
          dsimp only
          exact Ok.bq (q_points h hs) (Ok.ifT (by rw [nI_leP (by omega) (by omega)]; omega) (Ok.ret ⟨rfl, rfl⟩))
  · unfold SX12_splitOf_6
    dsimp only
    exact Ok.bq (q_points h hs) (Ok.ifT (by rw [nI_leP (by omega) (by omega)]; omega) (Ok.ret ⟨rfl, rfl⟩))
