/-! a line that is drawn together: pure; the class -/
theorem pfx_new {n : Nat} {o : Nat → Nat} (h : PFX n n o) : ∀ j, j < n → (amk o j).testBit (o j) = false := by
  have step : ∀ i, cnt (amk o (i + 1)) n ≤ cnt (amk o i) n + 1 := fun i => by
    show cnt (amk o i ||| 2 ^ o i) n ≤ _
    by_cases c : (amk o i).testBit (o i) = true
    · rw [cnt_dup c]; omega
    · rw [cnt_or (bF c)]; split <;> omega
  have up : ∀ k i, cnt (amk o (i + k)) n ≤ cnt (amk o i) n + k := fun k => by
    induction k with
    | zero => intro i; exact Nat.le_refl _
    | succ k ih =>
      intro i
      have a := ih i
      have b := step (i + k)
      have e : i + (k + 1) = i + k + 1 := by omega
      rw [e]
      omega
  intro j hj
  cases c : (amk o j).testBit (o j)
  · rfl
  · have a : cnt (amk o j) n ≤ 0 + j := by
      have := up j 0
      rw [Nat.zero_add] at this
      have z : cnt (amk o 0) n = 0 := cnt_0 n
      omega
    have b : amk o (j + 1) = amk o j := by
      show amk o j ||| 2 ^ o j = _
      exact cnt_dup c
    have d := up (n - (j + 1)) (j + 1)
    rw [b, show j + 1 + (n - (j + 1)) = n by omega, h.2.2] at d
    omega
theorem pfx_inj {n i j : Nat} {o : Nat → Nat} (h : PFX n n o) (hi : i < n) (hj : j < n) (e : o i = o j) : i = j := by
  rcases (show i < j ∨ i = j ∨ j < i by omega) with c | c | c
  · have := pfx_new h j hj
    rw [amk_bit.mpr ⟨i, c, e⟩] at this
    cases this
  · exact c
  · have := pfx_new h i hi
    rw [amk_bit.mpr ⟨j, c, e.symm⟩] at this
    cases this
theorem pfx_on {n q : Nat} {o : Nat → Nat} (h : PFX n n o) (hq : q < n) : ∃ i, i < n ∧ o i = q := amk_bit.mp (cnt_full h.2.2 q hq)
/-- the place of a point -/
def plc (n : Nat) (o : Nat → Nat) (p : Nat) : Nat := fsf (fun i => decide (o i = p)) n
theorem plc_in {n p : Nat} {o : Nat → Nat} (hn : n < 10) (h : PFX n n o) (hp : p < n) : plc n o p < n ∧ o (plc n o p) = p ∧ ∀ i, i < n → (o i = p ↔ i = plc n o p) := by
  obtain ⟨i, hi, e⟩ := pfx_on h hp
  have k : plc n o p = i := fsf_eq (by omega) hi (decide_eq_true e) (fun j hj => decide_eq_false (fun q => by
    have := pfx_inj h (i := j) (j := i) (by omega) hi (q.trans e.symm)
    omega))
  rw [k]
  exact ⟨hi, e, fun j hj => ⟨fun q => pfx_inj h hj hi (q.trans e.symm), fun q => by rw [q]; exact e⟩⟩
def dtw (w : Nat → Nat → Nat) (L H j : Nat) : Nat → Nat → Nat := fun p q => if p = L ∧ q < j ∧ q ≠ L ∧ q ≠ H then Nat.min 9 (w L q + w H q) else if q = L ∧ p < j ∧ p ≠ L ∧ p ≠ H then Nat.min 9 (w L p + w H p) else w p q
theorem dtw_1 {w : Nat → Nat → Nat} {L H j p q : Nat} (h : p = L ∧ q < j ∧ q ≠ L ∧ q ≠ H) : dtw w L H j p q = Nat.min 9 (w L q + w H q) := if_pos h
theorem dtw_2 {w : Nat → Nat → Nat} {L H j p q : Nat} (h1 : ¬ (p = L ∧ q < j ∧ q ≠ L ∧ q ≠ H)) (h : q = L ∧ p < j ∧ p ≠ L ∧ p ≠ H) : dtw w L H j p q = Nat.min 9 (w L p + w H p) := by
  unfold dtw
  rw [if_neg h1, if_pos h]
theorem dtw_3 {w : Nat → Nat → Nat} {L H j p q : Nat} (h1 : ¬ (p = L ∧ q < j ∧ q ≠ L ∧ q ≠ H)) (h : ¬ (q = L ∧ p < j ∧ p ≠ L ∧ p ≠ H)) : dtw w L H j p q = w p q := by
  unfold dtw
  rw [if_neg h1, if_neg h]
theorem dtw_0 {w : Nat → Nat → Nat} {L H : Nat} : dtw w L H 0 = w := by
  funext p q
  exact dtw_3 (by omega) (by omega)
theorem dtw_e {w : Nat → Nat → Nat} {L H j p q : Nat} (h : ¬ (p = L ∧ q = j)) (g : ¬ (p = j ∧ q = L)) : dtw w L H (j + 1) p q = dtw w L H j p q := by
  by_cases c1 : p = L ∧ q < j ∧ q ≠ L ∧ q ≠ H
  · rw [dtw_1 c1, dtw_1 (by omega)]
  · by_cases c2 : q = L ∧ p < j ∧ p ≠ L ∧ p ≠ H
    · rw [dtw_2 c1 c2, dtw_2 (by omega) (by omega)]
    · rw [dtw_3 c1 c2, dtw_3 (by omega) (by omega)]
theorem dtw_s {w : Nat → Nat → Nat} {L H j : Nat} (h1 : j ≠ L) (h2 : j ≠ H) : setw (dtw w L H j) L j (Nat.min 9 (w L j + w H j)) = dtw w L H (j + 1) := by
  funext p q
  by_cases c1 : p = L ∧ q = j
  · obtain ⟨rfl, rfl⟩ := c1
    rw [setw_a, dtw_1 (by omega)]
  · by_cases c2 : p = j ∧ q = L
    · obtain ⟨rfl, rfl⟩ := c2
      rw [setw_b, dtw_2 (by omega) (by omega)]
    · rw [setw_n c1 c2, dtw_e c1 c2]
theorem min9x {a : Nat} (h : a < 10) : Nat.min 9 a = a := Nat.min_eq_right (by omega)
theorem dtw_k {n : Nat} {w : Nat → Nat → Nat} {L H j : Nat} (hw : WF n w) (h : j = L ∨ j = H ∨ w H j = 0) : dtw w L H (j + 1) = dtw w L H j := by
  funext p q
  by_cases c1 : p = L ∧ q = j
  · obtain ⟨rfl, rfl⟩ := c1
    by_cases c3 : q = p ∨ q = H
    · rw [dtw_3 (by omega) (by omega), dtw_3 (by omega) (by omega)]
    · rw [dtw_1 (by omega), dtw_3 (by omega) (by omega), show w H q = 0 by omega, Nat.add_zero, min9x (hw.1 _ _)]
  · by_cases c2 : p = j ∧ q = L
    · obtain ⟨rfl, rfl⟩ := c2
      by_cases c3 : p = q ∨ p = H
      · rw [dtw_3 (by omega) (by omega), dtw_3 (by omega) (by omega)]
      · rw [dtw_2 (by omega) (by omega), dtw_3 (by omega) (by omega), show w H p = 0 by omega, Nat.add_zero, min9x (hw.1 _ _)]
        exact hw.2.1 _ _
    · exact dtw_e c1 c2
def upn (H p : Nat) : Nat := if H ≤ p then p + 1 else p
theorem upn_n (H p : Nat) : (H ≤ p ∧ upn H p = p + 1) ∨ (p < H ∧ upn H p = p) := by
  unfold upn
  by_cases c : H ≤ p
  · rw [if_pos c]; exact Or.inl ⟨c, rfl⟩
  · rw [if_neg c]; exact Or.inr ⟨by omega, rfl⟩
def tkw (w : Nat → Nat → Nat) (H e a b : Nat) : Nat → Nat → Nat := fun p q => if p < q ∧ q < e ∧ (p < a ∨ (p = a ∧ q < b)) then w (upn H p) (upn H q) else if q < p ∧ p < e ∧ (q < a ∨ (q = a ∧ p < b)) then w (upn H q) (upn H p) else w p q
theorem tkw_1 {w : Nat → Nat → Nat} {H e a b p q : Nat} (h : p < q ∧ q < e ∧ (p < a ∨ (p = a ∧ q < b))) : tkw w H e a b p q = w (upn H p) (upn H q) := if_pos h
theorem tkw_2 {w : Nat → Nat → Nat} {H e a b p q : Nat} (h : q < p ∧ p < e ∧ (q < a ∨ (q = a ∧ p < b))) : tkw w H e a b p q = w (upn H q) (upn H p) := by
  unfold tkw
  rw [if_neg (by omega), if_pos h]
theorem tkw_3 {w : Nat → Nat → Nat} {H e a b p q : Nat} (h1 : ¬ (p < q ∧ q < e ∧ (p < a ∨ (p = a ∧ q < b)))) (h2 : ¬ (q < p ∧ p < e ∧ (q < a ∨ (q = a ∧ p < b)))) : tkw w H e a b p q = w p q := by
  unfold tkw
  rw [if_neg h1, if_neg h2]
theorem tkw_c {w : Nat → Nat → Nat} {H e a b c d p q : Nat} (h1 : (p < q ∧ q < e ∧ (p < a ∨ (p = a ∧ q < b))) ↔ (p < q ∧ q < e ∧ (p < c ∨ (p = c ∧ q < d)))) (h2 : (q < p ∧ p < e ∧ (q < a ∨ (q = a ∧ p < b))) ↔ (q < p ∧ p < e ∧ (q < c ∨ (q = c ∧ p < d)))) : tkw w H e a b p q = tkw w H e c d p q := by
  by_cases c1 : p < q ∧ q < e ∧ (p < a ∨ (p = a ∧ q < b))
  · rw [tkw_1 c1, tkw_1 (h1.mp c1)]
  · by_cases c2 : q < p ∧ p < e ∧ (q < a ∨ (q = a ∧ p < b))
    · rw [tkw_2 c2, tkw_2 (h2.mp c2)]
    · rw [tkw_3 c1 c2, tkw_3 (fun q => c1 (h1.mpr q)) (fun q => c2 (h2.mpr q))]
theorem tkw_s {w : Nat → Nat → Nat} {H e a b : Nat} (h1 : a < b) (h2 : b < e) : setw (tkw w H e a b) a b (w (upn H a) (upn H b)) = tkw w H e a (b + 1) := by
  funext p q
  by_cases c1 : p = a ∧ q = b
  · obtain ⟨rfl, rfl⟩ := c1
    rw [setw_a, tkw_1 (by omega)]
  · by_cases c2 : p = b ∧ q = a
    · obtain ⟨rfl, rfl⟩ := c2
      rw [setw_b, tkw_2 (by omega)]
    · rw [setw_n c1 c2]
      exact tkw_c (by omega) (by omega)
theorem tkw_r {w : Nat → Nat → Nat} {H e a : Nat} : tkw w H e a e = tkw w H e (a + 1) (a + 1 + 1) := by
  funext p q
  exact tkw_c (by omega) (by omega)
theorem tkw_0 {w : Nat → Nat → Nat} {H e : Nat} : tkw w H e 0 (0 + 1) = w := by
  funext p q
  exact tkw_3 (by omega) (by omega)
def clr (w : Nat → Nat → Nat) (e a : Nat) : Nat → Nat → Nat := fun p q => if (p < a ∧ q = e) ∨ (q < a ∧ p = e) then 0 else w p q
theorem clr_0 {w : Nat → Nat → Nat} {e : Nat} : clr w e 0 = w := by
  funext p q
  exact if_neg (by omega)
theorem clr_s {w : Nat → Nat → Nat} {e a : Nat} (h : a < e) : setw (clr w e a) a e 0 = clr w e (a + 1) := by
  funext p q
  by_cases c1 : p = a ∧ q = e
  · obtain ⟨rfl, rfl⟩ := c1
    rw [setw_a]
    exact (if_pos (by omega)).symm
  · by_cases c2 : p = e ∧ q = a
    · obtain ⟨rfl, rfl⟩ := c2
      rw [setw_b]
      exact (if_pos (by omega)).symm
    · rw [setw_n c1 c2]
      unfold clr
      by_cases c3 : (p < a ∧ q = e) ∨ (q < a ∧ p = e)
      · rw [if_pos c3, if_pos (by omega)]
      · rw [if_neg c3, if_neg (by omega)]
/-- the weights when the line of L and H is drawn together -/
def mgw (n : Nat) (w : Nat → Nat → Nat) (L H : Nat) : Nat → Nat → Nat := fun a b => if a < n - 1 ∧ b < n - 1 ∧ a ≠ b then Nat.min 9 (w (upn H a) (upn H b) + (if b = L then w (upn H a) H else 0) + (if a = L then w H (upn H b) else 0)) else 0
theorem mgw_wf {n L H : Nat} {w : Nat → Nat → Nat} (hw : WF n w) : WF (n - 1) (mgw n w L H) := by
  refine ⟨fun a b => ?_, fun a b => ?_, fun a => if_neg (by omega), fun a b h => if_neg (by omega)⟩
  · unfold mgw
    split
    · have : Nat.min 9 (w (upn H a) (upn H b) + (if b = L then w (upn H a) H else 0) + (if a = L then w H (upn H b) else 0)) ≤ 9 := Nat.min_le_left _ _
      omega
    · omega
  · unfold mgw
    by_cases c : a < n - 1 ∧ b < n - 1 ∧ a ≠ b
    · rw [if_pos c, if_pos (c := b < n - 1 ∧ a < n - 1 ∧ b ≠ a) (by omega), hw.2.1 (upn H b) (upn H a), hw.2.1 (upn H b) H, hw.2.1 H (upn H a)]
      congr 1
      exact Nat.add_right_comm _ _ _
    · rw [if_neg c, if_neg (c := b < n - 1 ∧ a < n - 1 ∧ b ≠ a) (by omega)]
/-- what the class comes to -/
theorem mg_cls {n L H a b : Nat} {w : Nat → Nat → Nat} (hw : WF n w) (hL : L < H) (hH : H < n) (ha : a < n - 1) (hb : b < a) : clr (tkw (dtw w L H n) H (n - 1) (n - 1) (n - 1 + 1)) (n - 1) (n - 1) a b = mgw n w L H a b := by
  have e1 : clr (tkw (dtw w L H n) H (n - 1) (n - 1) (n - 1 + 1)) (n - 1) (n - 1) a b = tkw (dtw w L H n) H (n - 1) (n - 1) (n - 1 + 1) a b := if_neg (by omega)
  rw [e1, tkw_2 (by omega)]
  have ua := upn_n H a
  have ub := upn_n H b
  have e2 : mgw n w L H a b = Nat.min 9 (w (upn H a) (upn H b) + (if b = L then w (upn H a) H else 0) + (if a = L then w H (upn H b) else 0)) := if_pos (by omega)
  rw [e2]
  by_cases c1 : b = L
  · have hub : upn H b = L := by omega
    rw [if_pos c1, if_neg (c := a = L) (by omega), hub, dtw_1 (by omega), hw.2.1 L (upn H a), hw.2.1 H (upn H a), Nat.add_zero]
  · by_cases c2 : a = L
    · have hua : upn H a = L := by omega
      rw [if_neg c1, if_pos c2, hua, dtw_2 (by omega) (by omega), Nat.add_zero]
    · rw [if_neg c1, if_neg c2, dtw_3 (by omega) (by omega), Nat.add_zero, min9x (hw.1 _ _)]
      exact hw.2.1 _ _
theorem mg_gn {n l L H : Nat} {w : Nat → Nat → Nat} (hw : WF n w) (hL : L < H) (hH : H < n) (hn : n < 10) (G : GN n l (clr (tkw (dtw w L H n) H (n - 1) (n - 1) (n - 1 + 1)) (n - 1) (n - 1))) : clr (tkw (dtw w L H n) H (n - 1) (n - 1) (n - 1 + 1)) (n - 1) (n - 1) = mgw n w L H ∧ GN (n - 1) l (mgw n w L H) := by
  generalize hq : clr (tkw (dtw w L H n) H (n - 1) (n - 1) (n - 1 + 1)) (n - 1) (n - 1) = q at G
  obtain ⟨-, Gw, Gl⟩ := G
  have z : ∀ b, q (n - 1) b = 0 := fun b => by
    by_cases c : b < n - 1
    · rw [← hq]; exact if_pos (by omega)
    · by_cases c2 : b = n - 1
      · rw [c2]; exact Gw.2.2.1 _
      · exact Gw.r (by omega)
  have qw : WF (n - 1) q := ⟨Gw.1, Gw.2.1, Gw.2.2.1, fun a b h => by
    by_cases c : a = n - 1
    · rw [c]; exact z b
    · exact Gw.2.2.2 a b (by omega)⟩
  have e : q = mgw n w L H := qw.ext (mgw_wf hw) (fun a b ha hb => by rw [← hq]; exact mg_cls hw hL hH ha hb)
  refine ⟨e, by omega, mgw_wf hw, ?_⟩
  rw [← e, Gl]
  have hn1 : n = (n - 1) + 1 := by omega
  have e3 : dcn n q = dcn (n - 1) q + cnt (nr q (n - 1)) 9 := by
    conv => lhs; rw [hn1]
    rfl
  have e4 : nr q (n - 1) = 0 := bit_ext (n := 9) nr_lt (by decide) (fun k hk => by
    rw [nr_bit hk, Nat.zero_testBit, z k]
    rfl)
  rw [e3, e4, cnt_0]
  rfl
def dnn (H p : Nat) : Nat := if H ≤ p then p - 1 else p
/-- the row without H, greater numbers one less -/
def mgo (n : Nat) (o : Nat → Nat) (H : Nat) : Nat → Nat := fun k => dnn H (o (upn (plc n o H) k))
theorem dnn_lt {n H p : Nat} (hp : p < n) (h : p ≠ H) (hH : H < n) : dnn H p < n - 1 := by
  unfold dnn
  split <;> omega
theorem dnn_inj {H p q : Nat} (h1 : p ≠ H) (h2 : q ≠ H) (e : dnn H p = dnn H q) : p = q := by
  unfold dnn at e
  by_cases c1 : H ≤ p
  · rw [if_pos c1] at e
    by_cases c2 : H ≤ q
    · rw [if_pos c2] at e; omega
    · rw [if_neg c2] at e; omega
  · rw [if_neg c1] at e
    by_cases c2 : H ≤ q
    · rw [if_pos c2] at e; omega
    · rw [if_neg c2] at e; omega
theorem mgo_pfx {n H : Nat} {o : Nat → Nat} (hn : n < 10) (h : PFX n n o) (hH : H < n) : PFX (n - 1) (n - 1) (mgo n o H) := by
  obtain ⟨p1, p2, p3⟩ := plc_in hn h hH
  have ne : ∀ k, k < n - 1 → upn (plc n o H) k < n ∧ o (upn (plc n o H) k) ≠ H := fun k hk => by
    have a := upn_n (plc n o H) k
    have b : upn (plc n o H) k < n := by omega
    exact ⟨b, fun q => by have := (p3 _ b).mp q; omega⟩
  refine pfx_of (fun i hi => ⟨dnn_lt (h.1 _ (ne i hi).1) (ne i hi).2 hH, bF (fun q => ?_)⟩) (Nat.le_refl _)
  obtain ⟨k, hk, e⟩ := amk_bit.mp q
  have e2 := pfx_inj h (ne k (by omega)).1 (ne i hi).1 (dnn_inj (ne k (by omega)).2 (ne i hi).2 e)
  have a1 := upn_n (plc n o H) k
  have a2 := upn_n (plc n o H) i
  omega
/-! the class -/
theorem e_draw1 {x n l L H : Nat} {w : Nat → Nat → Nat} {t : St} (h : CN x n l w t) (g : netAt x = true) (G : GN n l w) (hL : L < H) (hH : H < n) : Ok (wh (SX5_drawTogether_16 x (nI L) (nI H)) (0 : Int32) t) (fun _ u => (∃ l', CN x n l' (dtw w L H n) u ∧ GN n l' (dtw w L H n)) ∧ ∀ c, c ≠ x → c ≠ x + 1 → c ≠ x + 3 → u c = t c) := by
  have hn : n < 10 := G.1
  have hw := G.2.1
  refine Ok.count n (fun j c s => c = nI j ∧ (∃ l', CN x n l' (dtw w L H j) s ∧ GN n l' (dtw w L H j)) ∧ ∀ c, c ≠ x → c ≠ x + 1 → c ≠ x + 3 → s c = t c) ?_ ?_ (Nat.zero_le _) ⟨rfl, ⟨l, by rw [dtw_0]; exact h, by rw [dtw_0]; exact G⟩, fun _ _ _ _ => rfl⟩
  · rintro j c s hj ⟨rfl, ⟨l', s1, s2⟩, sf⟩
    unfold SX5_drawTogether_16
    refine Ok.rdE s1.1 (Ok.ifF (by rw [nI_leP (by omega) (by omega)]; omega) (Ok.bd (fun _ u => (∃ l', CN x n l' (dtw w L H (j + 1)) u ∧ GN n l' (dtw w L H (j + 1))) ∧ ∀ c, c ≠ x → c ≠ x + 1 → c ≠ x + 3 → u c = t c) ?_ (fun _ u hu => Ok.ret ⟨nI_1 j, hu⟩)))
    have skip : (j = L ∨ j = H ∨ w H j = 0) → (∃ l', CN x n l' (dtw w L H (j + 1)) s ∧ GN n l' (dtw w L H (j + 1))) := fun q => ⟨l', by rw [dtw_k hw q]; exact s1, by rw [dtw_k hw q]; exact s2⟩
    refine Ok.cv (nI_eqP (by omega) (by omega)) (Ok.ite (fun c => Ok.ret ⟨skip (Or.inl c), sf⟩) (fun c => Ok.cv (nI_eqP (by omega) (by omega)) (Ok.ite (fun c2 => Ok.ret ⟨skip (Or.inr (Or.inl c2)), sf⟩) (fun c2 => ?_))))
    have e1 : dtw w L H j H j = w H j := dtw_3 (by omega) (by omega)
    have e2 : dtw w L H j L j = w L j := dtw_3 (by omega) (by omega)
    have a1 := hw.1 H j
    have a2 := hw.1 L j
    refine Ok.bq (q_weightOf s1 g (by omega) (by omega)) ?_
    rw [e1]
    refine Ok.cv (nI_leP (b := 0) (by omega) (by omega)) (Ok.ite (fun c3 => Ok.ret ⟨skip (Or.inr (Or.inr (by omega))), sf⟩) (fun c3 => Ok.bq (q_weightOf s1 g (by omega) (by omega)) (Ok.bq (q_weightOf s1 g (by omega) (by omega)) ?_)))
    rw [e1, e2, nI_add, li_9, mnI_n (by omega) (by omega)]
    have m9 : Nat.min 9 (w L j + w H j) ≤ 9 := Nat.min_le_left _ _
    have gs := gn_set (d := Nat.min 9 (w L j + w H j)) s2 (by omega) hj (fun q => c q.symm) (by omega)
    rw [dtw_s c c2] at gs
    have dl := dcn_le (n := n) (w := dtw w L H j) hn
    refine Ok.bd _ (e_setWeight s1 g (by omega) (by omega) (fun q => c q.symm) (by omega) (s2.2.1.1 _ _) gs.1 (by have := s2.2.2; omega)) ?_
    rintro _ u ⟨u1, u2⟩
    rw [dtw_s c c2] at u1
    exact Ok.ret ⟨⟨_, u1, gs.2⟩, fun c k0 k1 k3 => by rw [u2 c k0 k1 k3]; exact sf c k0 k1 k3⟩
  · rintro c s ⟨rfl, ⟨l', s1, s2⟩, sf⟩
    unfold SX5_drawTogether_16
    exact Ok.rdE s1.1 (Ok.ifT (by rw [nI_leP (by omega) (by omega)]; omega) (Ok.ret ⟨⟨l', s1, s2⟩, sf⟩))
theorem e_take1 {x n l H : Nat} {w : Nat → Nat → Nat} {t : St} (h : CN x n l w t) (g : netAt x = true) (G : GN n l w) (hH : H < n) : Ok (wh (SX5_takeOut_9 x (nI H) (nI (n - 1))) (0 : Int32) t) (fun _ u => (∃ l', CN x n l' (tkw w H (n - 1) (n - 1) (n - 1 + 1)) u ∧ GN n l' (tkw w H (n - 1) (n - 1) (n - 1 + 1))) ∧ ∀ c, c ≠ x → c ≠ x + 1 → c ≠ x + 3 → u c = t c) := by
  have hn : n < 10 := G.1
  have hw := G.2.1
  refine Ok.count (n - 1) (fun a c s => c = nI a ∧ (∃ l', CN x n l' (tkw w H (n - 1) a (a + 1)) s ∧ GN n l' (tkw w H (n - 1) a (a + 1))) ∧ ∀ c, c ≠ x → c ≠ x + 1 → c ≠ x + 3 → s c = t c) ?_ ?_ (Nat.zero_le _) ⟨rfl, ⟨l, by rw [tkw_0]; exact h, by rw [tkw_0]; exact G⟩, fun _ _ _ _ => rfl⟩
  · rintro a c s ha ⟨rfl, hs, sf⟩
    unfold SX5_takeOut_9
    rw [nI_1]
    refine Ok.ifF (by rw [nI_leP (by omega) (by omega)]; omega) (Ok.bd (fun _ u => (∃ l', CN x n l' (tkw w H (n - 1) a (n - 1)) u ∧ GN n l' (tkw w H (n - 1) a (n - 1))) ∧ ∀ c, c ≠ x → c ≠ x + 1 → c ≠ x + 3 → u c = t c) ?_ ?_)
    · refine Ok.count (n - 1 - (a + 1)) (fun k c s => c = nI (a + 1 + k) ∧ (∃ l', CN x n l' (tkw w H (n - 1) a (a + 1 + k)) s ∧ GN n l' (tkw w H (n - 1) a (a + 1 + k))) ∧ ∀ c, c ≠ x → c ≠ x + 1 → c ≠ x + 3 → s c = t c) ?_ ?_ (Nat.zero_le _) ⟨rfl, hs, sf⟩
      · rintro k c s hk ⟨rfl, ⟨l', s1, s2⟩, sf⟩
        unfold SX5_takeOut_19
        have ua := upn_n H a
        have ub := upn_n H (a + 1 + k)
        refine Ok.ifF (by rw [nI_leP (by omega) (by omega)]; omega) ?_
        refine Ok.bq (a := nI (upn H a)) (t := s) (Ok.eq (Ok.cv (nI_leP (by omega) (by omega)) (Ok.ite (fun c => Ok.ret ⟨rfl, ?_⟩) (fun c => Ok.ret ⟨rfl, ?_⟩)))) ?_
        · rw [nI_1]; congr 1; omega
        · congr 1; omega
        refine Ok.bq (a := nI (upn H (a + 1 + k))) (t := s) (Ok.eq (Ok.cv (nI_leP (by omega) (by omega)) (Ok.ite (fun c => Ok.ret ⟨rfl, ?_⟩) (fun c => Ok.ret ⟨rfl, ?_⟩)))) ?_
        · rw [nI_1]; congr 1; omega
        · congr 1; omega
        refine Ok.bq (q_weightOf s1 g (by omega) (by omega)) ?_
        have e1 : tkw w H (n - 1) a (a + 1 + k) (upn H a) (upn H (a + 1 + k)) = w (upn H a) (upn H (a + 1 + k)) := tkw_3 (by omega) (by omega)
        rw [e1]
        have gs := gn_set (d := w (upn H a) (upn H (a + 1 + k))) s2 (a := a) (b := a + 1 + k) (by omega) (by omega) (by omega) (hw.1 _ _)
        rw [tkw_s (by omega) (by omega)] at gs
        have dl := dcn_le (n := n) (w := tkw w H (n - 1) a (a + 1 + k)) hn
        refine Ok.bd _ (e_setWeight s1 g (by omega) (by omega) (by omega) (hw.1 _ _) (s2.2.1.1 _ _) gs.1 (by have := s2.2.2; omega)) ?_
        rintro _ u ⟨u1, u2⟩
        rw [tkw_s (by omega) (by omega)] at u1
        exact Ok.ret ⟨by rw [nI_1]; rfl, ⟨_, u1, gs.2⟩, fun c k0 k1 k3 => by rw [u2 c k0 k1 k3]; exact sf c k0 k1 k3⟩
      · rintro c s ⟨rfl, hs, sf⟩
        unfold SX5_takeOut_19
        rw [show a + 1 + (n - 1 - (a + 1)) = n - 1 by omega] at hs ⊢
        exact Ok.ifT (by rw [nI_leP (by omega) (by omega)]; omega) (Ok.ret ⟨hs, sf⟩)
    · rintro _ u ⟨u1, u2⟩
      rw [tkw_r] at u1
      exact Ok.ret ⟨rfl, u1, u2⟩
  · rintro c s ⟨rfl, hs, sf⟩
    unfold SX5_takeOut_9
    exact Ok.ifT (by rw [nI_leP (by omega) (by omega)]; omega) (Ok.ret ⟨hs, sf⟩)
theorem e_take2 {x n l : Nat} {w : Nat → Nat → Nat} {w1 : Int32} {t : St} (h : CN x n l w t) (g : netAt x = true) (G : GN n l w) (h1 : 1 ≤ n) : Ok (wh (SX5_takeOut_77 x w1 (nI (n - 1))) (0 : Int32) t) (fun _ u => (∃ l', CN x n l' (clr w (n - 1) (n - 1)) u ∧ GN n l' (clr w (n - 1) (n - 1))) ∧ ∀ c, c ≠ x → c ≠ x + 1 → c ≠ x + 3 → u c = t c) := by
  have hn : n < 10 := G.1
  refine Ok.count (n - 1) (fun a c s => c = nI a ∧ (∃ l', CN x n l' (clr w (n - 1) a) s ∧ GN n l' (clr w (n - 1) a)) ∧ ∀ c, c ≠ x → c ≠ x + 1 → c ≠ x + 3 → s c = t c) ?_ ?_ (Nat.zero_le _) ⟨rfl, ⟨l, by rw [clr_0]; exact h, by rw [clr_0]; exact G⟩, fun _ _ _ _ => rfl⟩
  · rintro a c s ha ⟨rfl, ⟨l', s1, s2⟩, sf⟩
    unfold SX5_takeOut_77
    have gs := gn_set (d := 0) s2 (a := a) (b := n - 1) (by omega) (by omega) (by omega) (by omega)
    rw [clr_s ha] at gs
    have dl := dcn_le (n := n) (w := clr w (n - 1) a) hn
    refine Ok.ifF (by rw [nI_leP (by omega) (by omega)]; omega) (Ok.bd _ (e_setWeight (v := 0) s1 g (by omega) (by omega) (by omega) (by omega) (s2.2.1.1 _ _) gs.1 (by have := s2.2.2; omega)) ?_)
    rintro _ u ⟨u1, u2⟩
    rw [clr_s ha] at u1
    exact Ok.ret ⟨nI_1 a, ⟨_, u1, gs.2⟩, fun c k0 k1 k3 => by rw [u2 c k0 k1 k3]; exact sf c k0 k1 k3⟩
  · rintro c s ⟨rfl, hs, sf⟩
    unfold SX5_takeOut_77
    exact Ok.ifT (by rw [nI_leP (by omega) (by omega)]; omega) (Ok.ret ⟨hs, sf⟩)
/-- how many are filled ahead of i -/
def flc (h i : Nat) : Nat := if i ≤ h then i else i - 1
theorem flc_n (h i : Nat) : (i ≤ h ∧ flc h i = i) ∨ (h < i ∧ flc h i = i - 1) := by
  unfold flc
  by_cases c : i ≤ h
  · rw [if_pos c]; exact Or.inl ⟨c, rfl⟩
  · rw [if_neg c]; exact Or.inr ⟨by omega, rfl⟩
theorem dnn_e {H p : Nat} {s : St} (hp : p < 1000) (hH : H < 1000) (h : p ≠ H) : (if nI H ≤ nI p then some (nI p - 1, s) else some (nI p, s)) = some (nI (dnn H p), s) := by
  unfold dnn
  by_cases c : H ≤ p
  · rw [if_pos (by rw [nI_leP (by omega) (by omega)]; exact c), if_pos c, nI_s1 (by omega)]
  · rw [if_neg (by rw [nI_leP (by omega) (by omega)]; exact c), if_neg c]
theorem e_takeRow {x n H : Nat} {o : Nat → Nat} {t : St} (g : netAt x = true) (hn : n < 10) (h0 : t x 0 = nI n) (ho : CO x n o t) (hP : PFX n n o) (hH : H < n) : Ok (FX5_takeFromRow x (nI H) t) (fun _ u => (∀ c, c ≠ x + 2 → u c = t c) ∧ CO x (n - 1) (mgo n o H) u) := by
  obtain ⟨p1, p2, p3⟩ := plc_in hn hP hH
  unfold FX5_takeFromRow
  refine Ok.ckT g (Ok.bd (fun _ u => (∀ c, c ≠ x + 2 → u c = t c) ∧ CO x (n - 1) (mgo n o H) u) ?_ (fun _ u hu => Ok.ret hu))
  refine Ok.count n (fun i c s => c = (nI (flc (plc n o H) i), nI i) ∧ (∀ c, c ≠ x + 2 → s c = t c) ∧ (∀ k, k < flc (plc n o H) i → s (x + 2) k = nI (mgo n o H k)) ∧ ∀ k, i ≤ k → k < n → s (x + 2) k = nI (o k)) ?_ ?_ (Nat.zero_le _) ⟨by unfold flc; rw [if_pos (Nat.zero_le _)]; rfl, fun _ _ => rfl, fun k hk => by have := flc_n (plc n o H) 0; omega, fun k _ hk => ho k hk⟩
  · rintro i c s hi ⟨rfl, sf, s1, s2⟩
    unfold SX5_takeFromRow_4
    dsimp only
    have hf := flc_n (plc n o H) i
    have hf1 := flc_n (plc n o H) (i + 1)
    have o9 := hP.1 i hi
    refine Ok.rdE (x := nI n) (by rw [sf x (by omega)]; exact h0) (Ok.ifF (by rw [nI_leP (by omega) (by omega)]; omega) (Ok.ckT (inb_n (by omega) (by omega)) ?_))
    rw [nI_cl (by omega)]
    refine Ok.rdE (s2 i (Nat.le_refl _) hi) (Ok.bd (fun r u => r = nI (flc (plc n o H) (i + 1)) ∧ (∀ c, c ≠ x + 2 → u c = t c) ∧ (∀ k, k < flc (plc n o H) (i + 1) → u (x + 2) k = nI (mgo n o H k)) ∧ ∀ k, i + 1 ≤ k → k < n → u (x + 2) k = nI (o k)) ?_ ?_)
    · refine Ok.cv (nI_eqP (by omega) (by omega)) (Ok.ite (fun c => Ok.ret ?_) (fun c => ?_))
      · have := (p3 i hi).mp c
        have e : flc (plc n o H) (i + 1) = flc (plc n o H) i := by omega
        rw [e]
        exact ⟨rfl, sf, s1, fun k k1 k2 => s2 k (by omega) k2⟩
      · have hne : i ≠ plc n o H := fun q => c ((p3 i hi).mpr q)
        have e : flc (plc n o H) (i + 1) = flc (plc n o H) i + 1 := by omega
        rw [dnn_e (by omega) (by omega) c, e]
        refine Ok.bq rfl (Ok.ckT (inb_n (by omega) (by omega)) ?_)
        rw [nI_cl (by omega)]
        refine OkwrE (Ok.ret ⟨nI_1 _, fun c hc => by rw [wr_off c hc]; exact sf c hc, fun k hk => ?_, fun k k1 k2 => by rw [wrn (by omega)]; exact s2 k (by omega) k2⟩)
        by_cases q : k = flc (plc n o H) i
        · rw [q, wrs]
          unfold mgo
          have := upn_n (plc n o H) (flc (plc n o H) i)
          rw [show upn (plc n o H) (flc (plc n o H) i) = i by omega]
        · rw [wrn q]
          exact s1 k (by omega)
    · rintro _ u ⟨rfl, u1, u2, u3⟩
      exact Ok.ret ⟨by rw [nI_1], u1, u2, u3⟩
  · rintro c s ⟨rfl, sf, s1, s2⟩
    unfold SX5_takeFromRow_4
    dsimp only
    have hf := flc_n (plc n o H) n
    exact Ok.rdE (x := nI n) (by rw [sf x (by omega)]; exact h0) (Ok.ifT (by rw [nI_leP (by omega) (by omega)]; omega) (Ok.ret ⟨sf, fun k hk => s1 k (by omega)⟩))
theorem e_drawTogether {x n l a b : Nat} {w : Nat → Nat → Nat} {o : Nat → Nat} {t : St} (h : CN x n l w t) (g : netAt x = true) (G : GN n l w) (ho : CO x n o t) (hP : PFX n n o) (ha : a < n) (hb : b < n) (hab : a ≠ b) : Ok (FX5_drawTogether x (nI a) (nI b) t) (fun _ u => (∃ l', CN x (n - 1) l' (mgw n w (Nat.min a b) (Nat.max a b)) u ∧ GN (n - 1) l' (mgw n w (Nat.min a b) (Nat.max a b))) ∧ CO x (n - 1) (trm (n - 1) (mgo n o (Nat.max a b))) u ∧ ∀ c, (c < x ∨ x + 3 < c) → u c = t c) := by
  have hn : n < 10 := G.1
  have hw := G.2.1
  have hLH : Nat.min a b < Nat.max a b := by
    rcases (show a < b ∨ b < a by omega) with c | c
    · rw [show Nat.min a b = a from Nat.min_eq_left (by omega), show Nat.max a b = b from Nat.max_eq_right (by omega)]; exact c
    · rw [show Nat.min a b = b from Nat.min_eq_right (by omega), show Nat.max a b = a from Nat.max_eq_left (by omega)]; exact c
  have hH : Nat.max a b < n := Nat.max_lt.mpr ⟨ha, hb⟩
  unfold FX5_drawTogether
  rw [mnI_n (by omega) (by omega), mxI_n (by omega) (by omega)]
  generalize Nat.min a b = L at hLH ⊢
  generalize Nat.max a b = H at hLH hH ⊢
  refine Ok.ckT g (Ok.bd _ (e_draw1 h g G hLH hH) ?_)
  rintro _ t1 ⟨⟨l1, c1, G1⟩, f1⟩
  refine Ok.bd (fun _ u => (∃ l', CN x (n - 1) l' (mgw n w L H) u ∧ GN (n - 1) l' (mgw n w L H)) ∧ CO x (n - 1) (trm (n - 1) (mgo n o H)) u ∧ ∀ c, (c < x ∨ x + 3 < c) → u c = t c) ?_ (fun _ u hu => Ok.ret hu)
  unfold FX5_takeOut
  refine Ok.ckT g (Ok.rdE c1.1 ?_)
  rw [nI_s1 (by omega)]
  refine Ok.bd _ (e_take1 c1 g G1 hH) ?_
  rintro _ t2 ⟨⟨l2, c2, G2⟩, f2⟩
  refine Ok.bd _ (e_take2 c2 g G2 (by omega)) ?_
  rintro _ t3 ⟨⟨l3, c3, G3⟩, f3⟩
  obtain ⟨em, Gm⟩ := mg_gn hw hLH hH hn G3
  rw [em] at c3
  have o3 : CO x n o t3 := fun i hi => by rw [f3 _ (by omega) (by omega) (by omega), f2 _ (by omega) (by omega) (by omega), f1 _ (by omega) (by omega) (by omega)]; exact ho i hi
  refine Ok.bd _ (e_takeRow g hn c3.1 o3 hP hH) ?_
  rintro _ t4 ⟨f4, o4⟩
  refine OkwrE (Ok.ret ⟨⟨l3, ⟨wrs, ?_, fun p hp => ?_, fun p q hp hq => ?_⟩, Gm⟩, fun i hi => ?_, fun c hc => ?_⟩)
  · rw [wrn (by decide), f4 x (by omega)]; exact c3.2.1
  · rw [wrf (by omega), f4 _ (by omega)]; exact c3.2.2.1 p hp
  · rw [wrf (by omega), f4 _ (by omega)]; exact c3.2.2.2 p q hp hq
  · rw [wrf (by omega), trm_in hi]; exact o4 i hi
  · rw [wr_off c (by omega), f4 c (by omega), f3 c (by omega) (by omega) (by omega), f2 c (by omega) (by omega) (by omega), f1 c (by omega) (by omega) (by omega)]
/-- the slot when a line is drawn together -/
def vmg (v : V4) (a b : Nat) : V4 := (v.1 - 1, dcn (v.1 - 1) (mgw v.1 v.2.2.1 (Nat.min a b) (Nat.max a b)) / 2, mgw v.1 v.2.2.1 (Nat.min a b) (Nat.max a b), trm (v.1 - 1) (mgo v.1 v.2.2.2 (Nat.max a b)))
