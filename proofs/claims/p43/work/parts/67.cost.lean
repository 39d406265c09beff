/-! what a step costs, what a row has -/
theorem abv_all : ∀ A, A < 512 → ∀ p, p < 9 → nI A &&& (-(shl 2 (nI p))) = nI (dif A (2 ^ (p + 1) - 1)) := by decide +kernel
theorem pw_lt {p : Nat} (hp : p < 9) : 2 ^ (p + 1) - 1 < 512 := by
  have := pow9 (k := p + 1) (by omega)
  have := Nat.two_pow_pos (p + 1)
  omega
theorem dif_sw {a b c : Nat} (ha : a < 512) : dif (dif a b) c = dif (dif a c) b := by
  refine bit_ext (n := 9) (dif_lt (dif_lt ha)) (dif_lt (dif_lt ha)) (fun k _ => ?_)
  rw [dif_bit (dif_lt ha), dif_bit ha, dif_bit (dif_lt ha), dif_bit ha]
  cases a.testBit k <;> cases b.testBit k <;> cases c.testBit k <;> rfl
/-- the new lines as p is taken out behind S -/
noncomputable def fil (n : Nat) (w : Nat → Nat → Nat) (S p : Nat) : Nat := sm n (fun a => if (nbm w S p).testBit a = true then cnt (dif (dif (nbm w S p) (nbm w S a)) (2 ^ (a + 1) - 1)) 9 else 0)
theorem fil_le {n : Nat} {w : Nat → Nat → Nat} {S p : Nat} (hn : n < 10) : fil n w S p ≤ 81 := by
  have h := sm_le (f := fun a => if (nbm w S p).testBit a = true then cnt (dif (dif (nbm w S p) (nbm w S a)) (2 ^ (a + 1) - 1)) 9 else 0) (b := 9) (n := n) (fun i _ => by
    show (if (nbm w S p).testBit i = true then _ else 0) ≤ 9
    split
    · exact cnt_le
    · omega)
  unfold fil
  omega
theorem q_newLines {x n l : Nat} {w : Nat → Nat → Nat} {t : St} (h : CN x n l w t) (g : netAt x = true) (hw : WF n w) (hn : n < 10) {S p : Nat} (hS : S < 512) (hp : p < 9) : FX6_newLines x (nI S) (nI p) t = some (nI (fil n w S p), t) := by
  refine Ok.eq ?_
  unfold FX6_newLines
  refine Ok.ckT g (Ok.bq (q_neighbours h g hw hn hS hp) ?_)
  generalize hF : (fun a => if (nbm w S p).testBit a = true then cnt (dif (dif (nbm w S p) (nbm w S a)) (2 ^ (a + 1) - 1)) 9 else 0) = F
  have eF : fil n w S p = sm n F := by unfold fil; rw [hF]
  rw [eF]
  refine Ok.bq (a := nI (sm n F)) (t := t) (wq n (fun j => (nI (sm j F), nI j)) (fun j hj => ?_) ?_) (Ok.ret ⟨rfl, rfl⟩)
  · unfold SX6_newLines_13
    dsimp only
    have hFj : F j = if (nbm w S p).testBit j = true then cnt (dif (dif (nbm w S p) (nbm w S j)) (2 ^ (j + 1) - 1)) 9 else 0 := by rw [← hF]
    have hnb := nbm_lt (w := w) (S := S) (p := p)
    refine Ok.rdE h.1 (Ok.ifF (by rw [nI_leP (by omega) (by omega)]; omega) ?_)
    refine Ok.bq (a := nI (if (nbm w S p).testBit j = true then dif (nbm w S p) (2 ^ (j + 1) - 1) else 0)) (t := t) (Ok.eq (Ok.cv (bitn (by omega) (by omega)) (Ok.ite (fun c => Ok.ret ⟨rfl, ?_⟩) (fun c => ?_)))) ?_
    · rw [if_neg (by rw [c]; decide)]
      rfl
    · unfold FX6_aboveOf
      refine Ok.bq rfl (Ok.ret ⟨rfl, ?_⟩)
      rw [if_pos (bT c), abv_all _ hnb _ (by omega)]
    refine Ok.bq (a := nI (sm (j + 1) F)) (t := t) (Ok.eq ?_) (Ok.ret ⟨rfl, by rw [nI_1]⟩)
    show Ok _ (fun r u => t = u ∧ r = nI (sm j F + F j))
    have hg : (if (nbm w S p).testBit j = true then dif (nbm w S p) (2 ^ (j + 1) - 1) else 0) < 512 := by
      split
      · exact dif_lt hnb
      · omega
    refine Ok.cv (nI_q0 (by omega)) (Ok.ite (fun c0 => Ok.ret ⟨rfl, ?_⟩) (fun c0 => ?_))
    · have : F j = 0 := by
        rw [hFj]
        by_cases c : (nbm w S p).testBit j = true
        · rw [if_pos c] at c0 ⊢
          rw [dif_sw hnb, c0]
          have : dif 0 (nbm w S j) = 0 := by unfold dif; exact Nat.zero_and _
          rw [this, cnt_0]
        · rw [if_neg c]
      rw [this, Nat.add_zero]
    · have c : (nbm w S p).testBit j = true := by
        refine bT (fun q => c0 ?_)
        rw [if_neg (by rw [q]; decide)]
      rw [if_pos c] at hg ⊢
      rw [if_pos c] at hFj
      refine Ok.bq (q_neighbours h g hw hn hS (by omega)) ?_
      rw [nI_dif hg nbm_lt]
      refine Ok.bq (q_bitCount (dif_lt hg)) (Ok.ret ⟨rfl, ?_⟩)
      rw [hFj, nI_add, dif_sw hnb]
  · unfold SX6_newLines_13
    dsimp only
    exact Ok.rdE h.1 (Ok.ifT (by rw [nI_leP (by omega) (by omega)]; omega) (Ok.ret ⟨rfl, rfl⟩))
theorem q_fillOf {s n : Nat} {w : Nat → Nat → Nat} {t : St} (h : RN s n w t) (hs : s < 3) (hw : WF n w) (hn : n < 10) {S p : Nat} (hS : S < 512) (hp : p < 9) : FX12_fillOf (nI s) (nI S) (nI p) t = some (nI (fil n w S p), t) := by
  refine Ok.eq ?_
  unfold FX12_fillOf
  refine Ok.bq (q_neighboursM h hs hw hn hS hp) ?_
  generalize hF : (fun a => if (nbm w S p).testBit a = true then cnt (dif (dif (nbm w S p) (nbm w S a)) (2 ^ (a + 1) - 1)) 9 else 0) = F
  have eF : fil n w S p = sm n F := by unfold fil; rw [hF]
  rw [eF]
  refine Ok.bq (a := nI (sm n F)) (t := t) (wq n (fun j => (nI (sm j F), nI j)) (fun j hj => ?_) ?_) (Ok.ret ⟨rfl, rfl⟩)
  · unfold SX12_fillOf_15
    dsimp only
    have hFj : F j = if (nbm w S p).testBit j = true then cnt (dif (dif (nbm w S p) (nbm w S j)) (2 ^ (j + 1) - 1)) 9 else 0 := by rw [← hF]
    have hnb := nbm_lt (w := w) (S := S) (p := p)
    refine Ok.bq (q_points h hs) (Ok.ifF (by rw [nI_leP (by omega) (by omega)]; omega) (Ok.bq (q_has (by omega) (by omega)) ?_))
    refine Ok.bq (a := nI (F j)) (t := t) (Ok.eq (Ok.cv b01 (Ok.ite (fun c => Ok.ret ⟨rfl, ?_⟩) (fun c => ?_)))) (Ok.ret ⟨rfl, by rw [nI_add, nI_1]; rfl⟩)
    · rw [hFj, if_neg (by rw [c]; decide)]
      rfl
    · refine Ok.bq (q_neighboursM h hs hw hn hS (by omega)) ?_
      have h2 := Nat.two_pow_pos (j + 1)
      rw [nI_dif hnb nbm_lt, nI_1, shl_1 (by omega), nI_s1 (by omega), nI_dif (dif_lt hnb) (pw_lt (by omega))]
      refine Ok.bq (q_ones (dif_lt (dif_lt hnb))) (Ok.ret ⟨rfl, ?_⟩)
      rw [hFj, if_pos (bT c)]
  · unfold SX12_fillOf_15
    dsimp only
    exact Ok.bq (q_points h hs) (Ok.ifT (by rw [nI_leP (by omega) (by omega)]; omega) (Ok.ret ⟨rfl, rfl⟩))
def wk (m : Nat) : Nat := if m = 1 then 1 else if m = 4 then 2 else 0
theorem wk_lt {m : Nat} : wk m < 3 := by
  unfold wk
  split
  · omega
  · split <;> omega
/-- the price of measure m of a set (of a point behind it) -/
noncomputable def prc (n : Nat) (w : Nat → Nat → Nat) (m A p : Nat) : Nat := if m = 5 then cnt (nbm w A p) 9 else if m = 6 then fil n w A p else spl n w A (wk m)
/-- those ahead at the step -/
def ast (m S p : Nat) : Nat := if m = 5 ∨ m = 6 then S else S ||| 2 ^ p
/-- what it costs to put p behind S -/
noncomputable def cst (n : Nat) (w : Nat → Nat → Nat) (m S p : Nat) : Nat := prc n w m (ast m S p) p
def jn (m a b : Nat) : Nat := if m = 0 ∨ m = 1 ∨ m = 5 then Nat.max a b else a + b
theorem spl_le {n : Nat} {w : Nat → Nat → Nat} {A k : Nat} (hw : WF n w) (hn : n < 10) : spl n w A k ≤ 729 := by
  unfold spl
  split
  · have := gatS_le (n := n) (w := w) (A := A); omega
  · split
    · have := frgS_le (n := n) (w := w) (A := A); omega
    · exact cutW_le hw hn
theorem prc_le {n : Nat} {w : Nat → Nat → Nat} {m A p : Nat} (hw : WF n w) (hn : n < 10) : prc n w m A p ≤ 729 := by
  unfold prc
  split
  · have := cnt_le (S := nbm w A p) (n := 9); omega
  · split
    · have := fil_le (n := n) (w := w) (S := A) (p := p) hn; omega
    · exact spl_le hw hn
theorem spl_full {n : Nat} {w : Nat → Nat → Nat} {k : Nat} (hw : WF n w) (hn : n < 10) : spl n w (2 ^ n - 1) k = 0 := by
  have hb : ∀ a, a < n → (2 ^ n - 1).testBit a = true := fun a ha => by rw [Nat.testBit_two_pow_sub_one]; simp [ha]
  unfold spl
  split
  · refine sm_zero (fun a ha => ?_)
    refine if_neg (fun q => q.2 ?_)
    refine bit_ext (n := 9) (dif_lt nr_lt) (by decide) (fun k _ => ?_)
    rw [Nat.zero_testBit]
    refine bF (fun q2 => ?_)
    obtain ⟨q3, q4⟩ := (dif_b nr_lt).mp q2
    rw [hb k (hw.b ((nr_b hw hn).mp q3)).2] at q4
    cases q4
  · split
    · refine sm_zero (fun a ha => ?_)
      refine if_neg (fun q => ?_)
      rw [hb a ha] at q
      cases q.1
    · refine sm_zero (fun a ha => ?_)
      rw [if_pos (hb a ha)]
      refine sm_zero (fun b hb2 => ?_)
      rw [if_pos (hb b hb2)]
theorem nI_lit {m k : Nat} (hm : m < 7) (hk : k < 7) : (nI m = nI k) = (m = k) := nI_eqP (by omega) (by omega)
theorem q_of {x n l : Nat} {w : Nat → Nat → Nat} {t : St} (h : CN x n l w t) (g : netAt x = true) (hw : WF n w) (hn : n < 10) {m A p : Nat} (hm : m < 7) (hA : A < 512) {c : Int32} (hp : (m = 5 ∨ m = 6) → c = nI p ∧ p < 9) : FX6_of x (nI m) (nI A) c t = some (nI (prc n w m A p), t) := by
  refine Ok.eq ?_
  unfold FX6_of prc
  rw [li_1, li_4, li_5, li_6]
  refine Ok.ckT g (Ok.cv (nI_lit hm (by omega)) (Ok.ite (fun c1 => ?_) (fun c1 => Ok.cv (nI_lit hm (by omega)) (Ok.ite (fun c4 => ?_) (fun c4 => Ok.cv (nI_lit hm (by omega)) (Ok.ite (fun c5 => ?_) (fun c5 => Ok.cv (nI_lit hm (by omega)) (Ok.ite (fun c6 => ?_) (fun c6 => ?_)))))))))
  · refine Ok.bq (q_gateSize h g hn hA) (Ok.ret ⟨rfl, ?_⟩)
    rw [if_neg (by omega), if_neg (by omega)]
    unfold spl wk
    rw [if_pos c1, if_pos rfl]
  · refine Ok.bq (q_fringeSize h g hn hA) (Ok.ret ⟨rfl, ?_⟩)
    rw [if_neg (by omega), if_neg (by omega)]
    unfold spl wk
    rw [if_neg c1, if_pos c4, if_neg (by decide), if_pos rfl]
  · obtain ⟨rfl, hp2⟩ := hp (Or.inl c5)
    refine Ok.bq (q_neighbours h g hw hn hA hp2) (Ok.bq (q_bitCount nbm_lt) (Ok.ret ⟨rfl, ?_⟩))
    rw [if_pos c5]
  · obtain ⟨rfl, hp2⟩ := hp (Or.inr c6)
    refine Ok.bq (q_newLines h g hw hn hA hp2) (Ok.ret ⟨rfl, ?_⟩)
    rw [if_neg c5, if_pos c6]
  · refine Ok.bq (q_cutWeight h g hw hn hA) (Ok.ret ⟨rfl, ?_⟩)
    rw [if_neg c5, if_neg c6]
    unfold spl wk
    rw [if_neg c1, if_neg c4, if_neg (by decide), if_neg (by decide)]
theorem q_cost {s n : Nat} {w : Nat → Nat → Nat} {t : St} (h : RN s n w t) (hs : s < 3) (hw : WF n w) (hn : n < 10) {m S p : Nat} (hm : m < 7) (hS : S < 512) (hp : p < 9) : FX12_cost (nI s) (nI m) (nI S) (nI p) t = some (nI (cst n w m S p), t) := by
  refine Ok.eq ?_
  unfold FX12_cost cst prc ast
  rw [li_5, li_6]
  refine Ok.cv (nI_lit hm (by omega)) (Ok.ite (fun c5 => ?_) (fun c5 => Ok.cv (nI_lit hm (by omega)) (Ok.ite (fun c6 => ?_) (fun c6 => ?_))))
  · refine Ok.bq (q_neighboursM h hs hw hn hS hp) (Ok.bq (q_ones nbm_lt) (Ok.ret ⟨rfl, ?_⟩))
    rw [if_pos c5, if_pos (Or.inl c5)]
  · refine Ok.bq (q_fillOf h hs hw hn hS hp) (Ok.ret ⟨rfl, ?_⟩)
    rw [if_neg c5, if_pos c6, if_pos (Or.inr c6)]
  · have h2 := Nat.two_pow_pos n
    have h3 := pow9 (k := n) (by omega)
    have hA : S ||| 2 ^ p < 512 := or9 hS (pw9 hp)
    rw [if_neg c5, if_neg c6, if_neg (by omega)]
    refine Ok.bq (q_points h hs) ?_
    rw [shl_1 (by omega), nI_or, shl_1 (by omega), li_1, nI_sub (by omega)]
    refine Ok.cv (nI_eqP (by omega) (by omega)) (Ok.ite (fun c => Ok.ret ⟨rfl, ?_⟩) (fun c => ?_))
    · rw [c, spl_full hw hn]
      rfl
    · refine Ok.bq (a := nI (wk m)) (t := t) (Ok.eq ?_) ?_
      · rw [li_4]
        unfold wk
        refine Ok.cv (nI_lit hm (by omega)) (Ok.ite (fun c1 => Ok.ret ⟨rfl, ?_⟩) (fun c1 => Ok.cv (nI_lit hm (by omega)) (Ok.ite (fun c4 => Ok.ret ⟨rfl, ?_⟩) (fun c4 => Ok.ret ⟨rfl, ?_⟩))))
        · rw [if_pos c1]
        · rw [if_neg c1, if_pos c4]; rfl
        · rw [if_neg c1, if_neg c4]; rfl
      · exact Ok.bq (q_splitOf h hs hw hn hA wk_lt) (Ok.ret ⟨rfl, rfl⟩)
theorem mxI_n {a b : Nat} (ha : a < 2147483648) (hb : b < 2147483648) : mxI (nI a) (nI b) = nI (Nat.max a b) := by
  show (if nI a < nI b then nI b else nI a) = nI (Nat.max a b)
  by_cases c : a < b
  · rw [if_pos (by rw [nI_ltP ha hb]; exact c)]
    congr 1
    exact (Nat.max_eq_right (by omega)).symm
  · rw [if_neg (by rw [nI_ltP ha hb]; exact c)]
    congr 1
    exact (Nat.max_eq_left (by omega)).symm
theorem q_joined {m a b : Nat} {t : St} (hm : m < 7) (h2 : m ≠ 2) (ha : a < 2147483648) (hb : b < 2147483648) : FX6_joined (nI m) (nI a) (nI b) t = some (nI (jn m a b), t) := by
  refine Ok.eq ?_
  unfold FX6_joined jn
  refine Ok.bq (a := if m = 0 ∨ m = 1 ∨ m = 5 then 0 else 1) (t := t) (Ok.eq ?_) ?_
  · rw [li_3, li_4, li_6]
    refine Ok.cv (nI_lit hm (by omega)) (Ok.ite (fun c => Ok.ret ⟨rfl, ?_⟩) (fun c => Ok.cv (nI_lit hm (by omega)) (Ok.ite (fun c4 => Ok.ret ⟨rfl, ?_⟩) (fun c4 => Ok.cv (nI_lit hm (by omega)) (Ok.ite (fun c6 => Ok.ret ⟨rfl, ?_⟩) (fun c6 => Ok.ret ⟨rfl, ?_⟩))))))
    · rw [if_neg (by omega)]
    · rw [if_neg (by omega)]
    · rw [if_neg (by omega)]
    · rw [if_pos (by omega)]
  · by_cases c : m = 0 ∨ m = 1 ∨ m = 5
    · rw [if_pos c, if_pos c]
      exact Ok.ifT rfl (Ok.ret ⟨rfl, mxI_n ha hb⟩)
    · rw [if_neg c, if_neg c]
      exact Ok.ifF (by decide) (Ok.ret ⟨rfl, nI_add _ _⟩)
theorem q_isGreatest {m : Nat} {t : St} (hm : m < 7) : FX12_isGreatest (nI m) t = some (if m = 0 ∨ m = 1 ∨ m = 5 then 1 else 0, t) := by
  refine Ok.eq ?_
  unfold FX12_isGreatest
  rw [li_0, li_1, li_5]
  refine Ok.cv (nI_lit hm (by omega)) (Ok.ite (fun c => Ok.ret ⟨rfl, ?_⟩) (fun c => Ok.cv (nI_lit hm (by omega)) (Ok.ite (fun c4 => Ok.ret ⟨rfl, ?_⟩) (fun c4 => Ok.cv (nI_lit hm (by omega)) (Ok.ite (fun c6 => Ok.ret ⟨rfl, ?_⟩) (fun c6 => Ok.ret ⟨rfl, ?_⟩))))))
  · rw [if_pos (by omega)]
  · rw [if_pos (by omega)]
  · rw [if_pos (by omega)]
  · rw [if_neg (by omega)]
theorem q_both {m a b : Nat} {t : St} (hm : m < 7) (ha : a < 2147483648) (hb : b < 2147483648) : FX12_both (nI m) (nI a) (nI b) t = some (nI (jn m a b), t) := by
  refine Ok.eq ?_
  unfold FX12_both jn
  refine Ok.bq (q_isGreatest hm) ?_
  by_cases c : m = 0 ∨ m = 1 ∨ m = 5
  · rw [if_pos c, if_pos c]
    exact Ok.ifF (by decide) (Ok.ret ⟨rfl, mxI_n ha hb⟩)
  · rw [if_neg c, if_neg c]
    exact Ok.ifT rfl (Ok.ret ⟨rfl, nI_add _ _⟩)
theorem q_taken {m : Nat} {t : St} (hm : m < 7) : FX6_isTakenOut (nI m) t = some (if m = 5 ∨ m = 6 then 1 else 0, t) := by
  refine Ok.eq ?_
  unfold FX6_isTakenOut
  rw [li_5, li_6]
  refine Ok.cv (nI_lit hm (by omega)) (Ok.ite (fun c => Ok.ret ⟨rfl, ?_⟩) (fun c => Ok.cv (nI_lit hm (by omega)) (Ok.ite (fun c4 => Ok.ret ⟨rfl, ?_⟩) (fun c4 => Ok.ret ⟨rfl, ?_⟩))))
  · rw [if_pos (by omega)]
  · rw [if_pos (by omega)]
  · rw [if_neg (by omega)]
theorem q_takenM {m : Nat} {t : St} (hm : m < 7) : FX12_isTakenOut (nI m) t = some (if m = 5 ∨ m = 6 then 1 else 0, t) := by
  refine Ok.eq ?_
  unfold FX12_isTakenOut
  rw [li_5, li_6]
  refine Ok.cv (nI_lit hm (by omega)) (Ok.ite (fun c => Ok.ret ⟨rfl, ?_⟩) (fun c => Ok.cv (nI_lit hm (by omega)) (Ok.ite (fun c4 => Ok.ret ⟨rfl, ?_⟩) (fun c4 => Ok.ret ⟨rfl, ?_⟩))))
  · rw [if_pos (by omega)]
  · rw [if_pos (by omega)]
  · rw [if_neg (by omega)]
theorem q_ast {m S p : Nat} {t : St} (hm : m < 7) (hp : p < 9) : FX6_aheadAtStep (nI m) (nI S) (nI p) t = some (nI (ast m S p), t) := by
  refine Ok.eq ?_
  unfold FX6_aheadAtStep ast
  refine Ok.bq (q_taken hm) ?_
  by_cases c : m = 5 ∨ m = 6
  · rw [if_pos c, if_pos c]
    exact Ok.ifF (by decide) (Ok.ret ⟨rfl, rfl⟩)
  · rw [if_neg c, if_neg c, shl_1 (by omega), nI_or]
    exact Ok.ifT rfl (Ok.ret ⟨rfl, rfl⟩)
theorem ast_lt {m S p : Nat} (hS : S < 512) (hp : p < 9) : ast m S p < 512 := by
  unfold ast
  split
  · exact hS
  · exact or9 hS (pw9 hp)
theorem cst_le {n : Nat} {w : Nat → Nat → Nat} {m S p : Nat} (hw : WF n w) (hn : n < 10) : cst n w m S p ≤ 729 := prc_le hw hn
/-! a row -/
/-- the points ahead of place i -/
def amk (o : Nat → Nat) : Nat → Nat
  | 0 => 0
  | i + 1 => amk o i ||| 2 ^ o i
theorem amk_lt {o : Nat → Nat} : ∀ {i : Nat}, (∀ j, j < i → o j < 9) → amk o i < 512
  | 0, _ => by show 0 < 512; omega
  | i + 1, h => or9 (amk_lt (fun j hj => h j (by omega))) (pw9 (h i (by omega)))
/-- what a row has of measure m, place by place -/
noncomputable def vfd (n : Nat) (w : Nat → Nat → Nat) (m : Nat) (o : Nat → Nat) : Nat → Nat
  | 0 => 0
  | i + 1 => jn m (vfd n w m o i) (cst n w m (amk o i) (o i))
theorem vfd_le {n : Nat} {w : Nat → Nat → Nat} {m : Nat} {o : Nat → Nat} (hw : WF n w) (hn : n < 10) : ∀ i, vfd n w m o i ≤ 729 * i
  | 0 => Nat.zero_le _
  | i + 1 => by
    have h1 := vfd_le (m := m) (o := o) hw hn i
    have h2 := cst_le (m := m) (S := amk o i) (p := o i) hw hn
    show jn m (vfd n w m o i) (cst n w m (amk o i) (o i)) ≤ 729 * (i + 1)
    unfold jn
    split
    · rcases Nat.le_total (vfd n w m o i) (cst n w m (amk o i) (o i)) with q | q
      · rw [show Nat.max _ _ = _ from Nat.max_eq_right q]; omega
      · rw [show Nat.max _ _ = _ from Nat.max_eq_left q]; omega
    · omega
