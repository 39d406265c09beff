/-! all that is near a set; how far points are -/
def grw (n : Nat) (w : Nat → Nat → Nat) (S : Nat) : Nat := S ||| orw S (nr w) n
theorem nr_l {n a : Nat} {w : Nat → Nat → Nat} (hw : WF n w) : nr w a < 2 ^ n := by
  refine Nat.lt_pow_two_of_testBit _ (fun i hi => ?_)
  by_cases c : i < 9
  · rw [nr_bit c, hw.r hi]
    exact decide_eq_false (by omega)
  · exact lt_pow_bit (n := 9) nr_lt (by omega)
theorem orw_n {n W : Nat} {f : Nat → Nat} (hf : ∀ i, f i < 2 ^ n) : ∀ {m : Nat}, orw W f m < 2 ^ n
  | 0 => Nat.two_pow_pos n
  | m + 1 => by
    refine Nat.or_lt_two_pow (orw_n hf) ?_
    by_cases c : W.testBit m = true
    · rw [if_pos c]; exact hf m
    · rw [if_neg c]; exact Nat.two_pow_pos n
theorem grw_n {n S : Nat} {w : Nat → Nat → Nat} (hw : WF n w) (hS : S < 2 ^ n) : grw n w S < 2 ^ n := Nat.or_lt_two_pow hS (orw_n (fun _ => nr_l hw))
theorem grw_b {n S k : Nat} {w : Nat → Nat → Nat} : (grw n w S).testBit k = true ↔ S.testBit k = true ∨ ∃ i, i < n ∧ S.testBit i = true ∧ (nr w i).testBit k = true := by
  unfold grw
  rw [or_b, orw_bit]
def gsq (n : Nat) (w : Nat → Nat → Nat) (S : Nat) : Nat → Nat
  | 0 => S
  | k + 1 => grw n w (gsq n w S k)
theorem gsq_n {n S : Nat} {w : Nat → Nat → Nat} (hw : WF n w) (hS : S < 2 ^ n) : ∀ {k : Nat}, gsq n w S k < 2 ^ n
  | 0 => hS
  | k + 1 => grw_n hw (gsq_n hw hS)
theorem gsq_up {n S j q : Nat} {w : Nat → Nat → Nat} (h : (gsq n w S j).testBit q = true) : ∀ {k : Nat}, j ≤ k → (gsq n w S k).testBit q = true
  | 0, hk => by
    have : j = 0 := by omega
    subst this
    exact h
  | k + 1, hk => by
    by_cases e : j = k + 1
    · subst e; exact h
    · exact grw_b.mpr (Or.inl (gsq_up h (by omega)))
theorem gsq_st {n S k : Nat} {w : Nat → Nat → Nat} (h : gsq n w S (k + 1) = gsq n w S k) : ∀ {j : Nat}, gsq n w S (k + j) = gsq n w S k
  | 0 => rfl
  | j + 1 => by
    show grw n w (gsq n w S (k + j)) = _
    rw [gsq_st h]
    exact h
theorem cnt_st {S T n : Nat} (h : ∀ k, S.testBit k = true → T.testBit k = true) (hS : S < 2 ^ n) (hT : T < 2 ^ n) (hne : T ≠ S) : cnt S n + 1 ≤ cnt T n := by
  have a := cnt_mn h (n := n)
  by_cases e : cnt S n = cnt T n
  · exact absurd (bit_ext hT hS (fun k hk => (cnt_eqb h e k hk).symm)) hne
  · omega
theorem gsq_cnt {n S : Nat} {w : Nat → Nat → Nat} (hw : WF n w) (hS : S < 2 ^ n) (h1 : 1 ≤ cnt S n) : ∀ {k : Nat}, (∀ i, i < k → gsq n w S (i + 1) ≠ gsq n w S i) → k + 1 ≤ cnt (gsq n w S k) n
  | 0, _ => by
    show 0 + 1 ≤ cnt S n
    omega
  | k + 1, h => by
    have ih := gsq_cnt hw hS h1 (k := k) (fun i hi => h i (by omega))
    have := cnt_st (S := gsq n w S k) (T := gsq n w S (k + 1)) (n := n) (fun q hq => grw_b.mpr (Or.inl hq)) (gsq_n hw hS) (gsq_n hw hS) (h k (by omega))
    omega
/-- the first k below n of which P is true; 9 without -/
def fsf (P : Nat → Bool) : Nat → Nat
  | 0 => 9
  | k + 1 => if fsf P k < 9 then fsf P k else if P k = true then k else 9
theorem fsf_in {P : Nat → Bool} : ∀ {n : Nat}, n ≤ 9 → (fsf P n = 9 ∧ ∀ j, j < n → P j = false) ∨ (fsf P n < n ∧ P (fsf P n) = true ∧ ∀ j, j < fsf P n → P j = false)
  | 0, _ => Or.inl ⟨rfl, fun j hj => by omega⟩
  | n + 1, hn => by
    rw [fsf]
    rcases fsf_in (P := P) (n := n) (by omega) with ⟨a, b⟩ | ⟨a, b, c⟩
    · rw [if_neg (by omega)]
      by_cases e : P n = true
      · rw [if_pos e]; exact Or.inr ⟨by omega, e, b⟩
      · rw [if_neg e]
        refine Or.inl ⟨rfl, fun j hj => ?_⟩
        by_cases q : j = n
        · rw [q]; exact bF e
        · exact b j (by omega)
    · rw [if_pos (by omega)]
      exact Or.inr ⟨by omega, b, c⟩
theorem fsf_eq {P : Nat → Bool} {n k : Nat} (hn : n ≤ 9) (hk : k < n) (h : P k = true) (h0 : ∀ j, j < k → P j = false) : fsf P n = k := by
  rcases fsf_in (P := P) hn with ⟨-, b⟩ | ⟨a, b, c⟩
  · rw [b k hk] at h; cases h
  · rcases (show fsf P n < k ∨ fsf P n = k ∨ k < fsf P n by omega) with q | q | q
    · rw [h0 _ q] at b; cases b
    · exact q
    · rw [c k q] at h; cases h
theorem fsf_no {P : Nat → Bool} {n : Nat} (hn : n ≤ 9) (h0 : ∀ j, j < n → P j = false) : fsf P n = 9 := by
  rcases fsf_in (P := P) hn with ⟨a, -⟩ | ⟨a, b, -⟩
  · exact a
  · rw [h0 _ a] at b; cases b
/-- how many lines it is from a to b; 9: there is no way -/
def dst (n : Nat) (w : Nat → Nat → Nat) (a b : Nat) : Nat := fsf (fun k => (gsq n w (2 ^ a) k).testBit b) n
theorem dst_in {n a b : Nat} {w : Nat → Nat → Nat} (hn : n < 10) : (dst n w a b = 9 ∧ ∀ j, j < n → (gsq n w (2 ^ a) j).testBit b = false) ∨ (dst n w a b < n ∧ (gsq n w (2 ^ a) (dst n w a b)).testBit b = true ∧ ∀ j, j < dst n w a b → (gsq n w (2 ^ a) j).testBit b = false) := fsf_in (P := fun k => (gsq n w (2 ^ a) k).testBit b) (by omega)
theorem dst_le {n a b : Nat} {w : Nat → Nat → Nat} (hn : n < 10) : dst n w a b ≤ 9 := by
  rcases dst_in (a := a) (b := b) (w := w) hn with ⟨h, -⟩ | ⟨h, -⟩ <;> omega
def dI (d : Nat) : Int32 := if d = 9 then -1 else nI d
theorem dI_eq {c d : Nat} (hc : c ≤ 9) (hd : d ≤ 9) : (dI c = dI d) = (c = d) := by
  refine propext ⟨fun h => ?_, fun h => by rw [h]⟩
  unfold dI at h
  by_cases e : c = 9
  · rw [if_pos e] at h
    by_cases f : d = 9
    · omega
    · rw [if_neg f] at h
      exact absurd h.symm (n1n (by omega))
  · rw [if_neg e] at h
    by_cases f : d = 9
    · rw [if_pos f] at h
      exact absurd h (n1n (by omega))
    · rw [if_neg f] at h
      exact nI_inj h (by omega) (by omega)
theorem q_grown {x n l S : Nat} {w : Nat → Nat → Nat} {t : St} (h : CN x n l w t) (g : netAt x = true) (hn : n < 10) (hS : S < 512) : FX10_grown x (nI S) t = some (nI (grw n w S), t) := by
  refine Ok.eq ?_
  unfold FX10_grown
  refine Ok.ckT g (Ok.bq (a := nI (grw n w S)) (t := t) (wq0 n (fun j => (nI (S ||| orw S (nr w) j), nI j)) (by show _ = (nI (S ||| 0), nI 0); rw [Nat.or_zero]; rfl) (fun j hj => ?_) ?_) (Ok.ret ⟨rfl, rfl⟩))
  · unfold SX10_grown_4
    dsimp only
    refine Ok.rdE h.1 (Ok.ifF (by rw [nI_leP (by omega) (by omega)]; omega) ?_)
    refine Ok.bq (a := nI (S ||| orw S (nr w) (j + 1))) (t := t) (Ok.eq ?_) (Ok.ret ⟨rfl, by rw [nI_1]⟩)
    show Ok _ (fun r u => t = u ∧ r = nI (S ||| (orw S (nr w) j ||| (if S.testBit j = true then nr w j else 0))))
    refine Ok.cv (bitn (by omega) (by omega)) (Ok.ite (fun c => Ok.ret ⟨rfl, ?_⟩) (fun c => Ok.ckT (inb_n (by omega) (by omega)) ?_))
    · rw [if_neg (by rw [c]; decide), Nat.or_zero]
    · rw [nI_cl (by omega)]
      refine Ok.rdE (h.2.2.1 j (by omega)) (Ok.ret ⟨rfl, ?_⟩)
      rw [if_pos (bT c), nI_or, Nat.or_assoc]
  · unfold SX10_grown_4
    dsimp only
    exact Ok.rdE h.1 (Ok.ifT (by rw [nI_leP (by omega) (by omega)]; omega) (Ok.ret ⟨rfl, rfl⟩))
theorem m_grown {s n S : Nat} {w : Nat → Nat → Nat} {t : St} {w3 w5 : Int32} (h : RN s n w t) (hs : s < 3) (hw : WF n w) (hn : n < 10) (hS : S < 512) : wh (SX12_farOf_24 (nI s) w3 (nI S) w5) (nI S, (0 : Int32)) t = some (nI (grw n w S), t) := by
  refine wq0 n (fun j => (nI (S ||| orw S (nr w) j), nI j)) (by show _ = (nI (S ||| 0), nI 0); rw [Nat.or_zero]; rfl) (fun j hj => ?_) ?_
  · unfold SX12_farOf_24
    dsimp only
    refine Ok.bq (q_points h hs) (Ok.ifF (by rw [nI_leP (by omega) (by omega)]; omega) (Ok.bq (q_has (by omega) (by omega)) ?_))
    refine Ok.bq (a := nI (if S.testBit j = true then nr w j else 0)) (t := t) (Ok.eq (Ok.cv b01 (Ok.ite (fun c => Ok.ret ⟨rfl, ?_⟩) (fun c => Ok.bq (q_nearOf h hs hn hw (by omega)) (Ok.ret ⟨rfl, ?_⟩))))) (Ok.ret ⟨rfl, ?_⟩)
    · rw [if_neg (by rw [c]; decide)]; rfl
    · rw [if_pos (bT c)]
    · rw [nI_or, nI_1, Nat.or_assoc]
      rfl
  · unfold SX12_farOf_24
    dsimp only
    exact Ok.bq (q_points h hs) (Ok.ifT (by rw [nI_leP (by omega) (by omega)]; omega) (Ok.ret ⟨rfl, rfl⟩))
theorem pw_n {a n : Nat} (h : a < n) : 2 ^ a < 2 ^ n := Nat.pow_lt_pow_right (by omega) h
theorem cnt_1 {a n : Nat} (h : a < n) : 1 ≤ cnt (2 ^ a) n := by
  have := cnt_st (S := 0) (T := 2 ^ a) (n := n) (fun k hk => by rw [Nat.zero_testBit] at hk; cases hk) (Nat.two_pow_pos n) (pw_n h) (by have := Nat.two_pow_pos a; omega)
  omega
theorem gsq_9 {n S k : Nat} {w : Nat → Nat → Nat} (hw : WF n w) (hn : n < 10) (hS : S < 2 ^ n) : gsq n w S k < 512 := Nat.lt_of_lt_of_le (gsq_n hw hS) (pow9 (by omega))
theorem q_distance {x n l a b : Nat} {w : Nat → Nat → Nat} {t : St} (h : CN x n l w t) (g : netAt x = true) (hw : WF n w) (hn : n < 10) (ha : a < n) (hb : b < n) : FX10_distance x (nI a) (nI b) t = some (dI (dst n w a b), t) := by
  refine Ok.eq ?_
  unfold FX10_distance
  have hS := pw_n ha
  refine Ok.ckT g (Ok.bd (fun r u => t = u ∧ Sum.elim (fun v => v = dI (dst n w a b)) (fun _ => dst n w a b = 9) r) ?_ ?_)
  · refine Ok.count n (fun j c s => t = s ∧ c = (nI (gsq n w (2 ^ a) j), nI j) ∧ ∀ i, i < j → (gsq n w (2 ^ a) i).testBit b = false) ?_ ?_ (Nat.zero_le _) ⟨rfl, by rw [li_1, li_0, shl_1b (by omega)]; rfl, fun i hi => by omega⟩
    · rintro j c s hj ⟨rfl, rfl, hI⟩
      unfold SX10_distance_7
      dsimp only
      have h9 := gsq_9 (k := j) hw hn hS
      refine Ok.rdE h.1 (Ok.ifF (by rw [nI_leP (by omega) (by omega)]; omega) (Ok.cv (bitn (by omega) (by omega)) (Ok.ite (fun c => Ok.bq (q_grown h g hn h9) (Ok.ret ⟨rfl, by rw [nI_1]; rfl, fun i hi => ?_⟩)) (fun c => Ok.ret ⟨rfl, ?_⟩))))
      · by_cases e : i = j
        · rw [e]; exact c
        · exact hI i (by omega)
      · show nI j = dI (dst n w a b)
        have : dst n w a b = j := fsf_eq (by omega) hj (bT c) hI
        rw [this]
        unfold dI
        rw [if_neg (by omega)]
    · rintro c s ⟨rfl, rfl, hI⟩
      unfold SX10_distance_7
      dsimp only
      exact Ok.rdE h.1 (Ok.ifT (by rw [nI_leP (by omega) (by omega)]; omega) (Ok.ret ⟨rfl, fsf_no (by omega) hI⟩))
  · rintro (r | r) _ ⟨rfl, e⟩
    · exact Ok.ret ⟨rfl, e⟩
    · have e : dst n w a b = 9 := e
      refine Ok.ret ⟨rfl, ?_⟩
      unfold dI
      rw [if_pos e]
theorem q_farOf {s n a b : Nat} {w : Nat → Nat → Nat} {t : St} (h : RN s n w t) (hs : s < 3) (hw : WF n w) (hn : n < 10) (ha : a < n) (hb : b < n) : FX12_farOf (nI s) (nI a) (nI b) t = some (dI (dst n w a b), t) := by
  refine Ok.eq ?_
  unfold FX12_farOf
  have hS := pw_n ha
  refine Ok.bd (fun r u => t = u ∧ Sum.elim (fun v => v = dI (dst n w a b)) (fun v => v = dI (dst n w a b)) r) ?_ ?_
  · refine Ok.count n (fun j c s' => t = s' ∧ c = (nI (gsq n w (2 ^ a) j), nI j) ∧ (∀ i, i < j → (gsq n w (2 ^ a) i).testBit b = false) ∧ ∀ i, i < j → gsq n w (2 ^ a) (i + 1) ≠ gsq n w (2 ^ a) i) ?_ ?_ (Nat.zero_le _) ⟨rfl, by rw [li_1, li_0, shl_1b (by omega)]; rfl, fun i hi => by omega, fun i hi => by omega⟩
    · rintro j c s' hj ⟨rfl, rfl, hI, hJ⟩
      unfold SX12_farOf_8
      dsimp only
      have h9 := gsq_9 (k := j) hw hn hS
      have h9' := gsq_9 (k := j + 1) hw hn hS
      refine Ok.bq (q_has (by omega) (by omega)) (Ok.cv b01 (Ok.ite (fun c => Ok.bq (m_grown h hs hw hn h9) ?_) (fun c => Ok.ret ⟨rfl, ?_⟩)))
      · have e1 : grw n w (gsq n w (2 ^ a) j) = gsq n w (2 ^ a) (j + 1) := rfl
        rw [e1]
        have hI1 : ∀ i, i < j + 1 → (gsq n w (2 ^ a) i).testBit b = false := fun i hi => by
          by_cases e : i = j
          · rw [e]; exact c
          · exact hI i (by omega)
        refine Ok.cv (nI_eqP (by omega) (by omega)) (Ok.ite (fun c2 => Ok.ret ⟨rfl, ?_⟩) (fun c2 => Ok.ret ⟨rfl, by rw [nI_1], hI1, fun i hi => ?_⟩))
        · show (-1 : Int32) = dI (dst n w a b)
          have : dst n w a b = 9 := fsf_no (by omega) (fun i hi => by
            show (gsq n w (2 ^ a) i).testBit b = false
            by_cases e : i ≤ j
            · exact hI1 i (by omega)
            · have q := gsq_st c2 (j := i - j)
              rw [show j + (i - j) = i by omega] at q
              rw [q]
              exact c)
          rw [this]
          rfl
        · by_cases e : i = j
          · rw [e]; exact c2
          · exact hJ i (by omega)
      · show nI j = dI (dst n w a b)
        have : dst n w a b = j := fsf_eq (by omega) hj (bT c) hI
        rw [this]
        unfold dI
        rw [if_neg (by omega)]
    · rintro c s' ⟨rfl, rfl, hI, hJ⟩
      have a1 := gsq_cnt hw hS (cnt_1 ha) hJ
      have a2 : cnt (gsq n w (2 ^ a) n) n ≤ n := cnt_le
      omega
  · rintro (r | r) _ ⟨rfl, e⟩
    · exact Ok.ret ⟨rfl, e⟩
    · exact Ok.ret ⟨rfl, e⟩
