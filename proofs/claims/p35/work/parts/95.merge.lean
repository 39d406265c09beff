section
/-! a line that is drawn together: pure; the class -/
theorem pfx_new {n : Nat} {o : Nat → Nat} (h : PFX n n o) : ∀ j, j < n → (amk o j).testBit (o j) = false := by
  have step : ∀ i, cnt (amk o (i + 1)) n ≤ cnt (amk o i) n + 1 := fun i => by
    show cnt (amk o i ||| 2 ^ o i) n ≤ _
    by_cases c : (amk o i).testBit (o i) = true
    · rw [cnt_dup c]; omega
    · rw [cnt_or (bF c)]; split <;> omega
  have up : ∀ k i, cnt (amk o (i + k)) n ≤ cnt (amk o i) n + k := fun k => by
    induction k with
    | zero => intro i; exact Nat.le_refl _
    | succ k ih =>
      intro i
      have a := ih i
      have b := step (i + k)
      have e : i + (k + 1) = i + k + 1 := by omega
      rw [e]
      omega
  intro j hj
  cases c : (amk o j).testBit (o j)
  · rfl
  · have a : cnt (amk o j) n ≤ 0 + j := by
      have := up j 0
      rw [Nat.zero_add] at this
      have z : cnt (amk o 0) n = 0 := cnt_0 n
      omega
    have b : amk o (j + 1) = amk o j := by
      show amk o j ||| 2 ^ o j = _
      exact cnt_dup c
    have d := up (n - (j + 1)) (j + 1)
    rw [b, show j + 1 + (n - (j + 1)) = n by omega, h.2.2] at d
    omega
theorem pfx_inj {n i j : Nat} {o : Nat → Nat} (h : PFX n n o) (hi : i < n) (hj : j < n) (e : o i = o j) : i = j := by
  rcases (show i < j ∨ i = j ∨ j < i by omega) with c | c | c
  · have := pfx_new h j hj
    rw [amk_bit.mpr ⟨i, c, e⟩] at this
    cases this
  · exact c
  · have := pfx_new h i hi
    rw [amk_bit.mpr ⟨j, c, e.symm⟩] at this
    cases this
theorem pfx_on {n q : Nat} {o : Nat → Nat} (h : PFX n n o) (hq : q < n) : ∃ i, i < n ∧ o i = q := amk_bit.mp (cnt_full h.2.2 q hq)
/-- the place of a point -/
def plc (n : Nat) (o : Nat → Nat) (p : Nat) : Nat := fsf (fun i => decide (o i = p)) n
theorem plc_in {n p : Nat} {o : Nat → Nat} (hn : n < 10) (h : PFX n n o) (hp : p < n) : plc n o p < n ∧ o (plc n o p) = p ∧ ∀ i, i < n → (o i = p ↔ i = plc n o p) := by
  obtain ⟨i, hi, e⟩ := pfx_on h hp
  have k : plc n o p = i := fsf_eq (by omega) hi (decide_eq_true e) (fun j hj => decide_eq_false (fun q => by
    have := pfx_inj h (i := j) (j := i) (by omega) hi (q.trans e.symm)
    omega))
  rw [k]
  exact ⟨hi, e, fun j hj => ⟨fun q => pfx_inj h hj hi (q.trans e.symm), fun q => by rw [q]; exact e⟩⟩
def dtw (w : Nat → Nat → Nat) (L H j : Nat) : Nat → Nat → Nat := fun p q => if p = L ∧ q < j ∧ q ≠ L ∧ q ≠ H then Nat.min 9 (w L q + w H q) else if q = L ∧ p < j ∧ p ≠ L ∧ p ≠ H then Nat.min 9 (w L p + w H p) else w p q
theorem dtw_1 {w : Nat → Nat → Nat} {L H j p q : Nat} (h : p = L ∧ q < j ∧ q ≠ L ∧ q ≠ H) : dtw w L H j p q = Nat.min 9 (w L q + w H q) := if_pos h
theorem dtw_2 {w : Nat → Nat → Nat} {L H j p q : Nat} (h1 : ¬ (p = L ∧ q < j ∧ q ≠ L ∧ q ≠ H)) (h : q = L ∧ p < j ∧ p ≠ L ∧ p ≠ H) : dtw w L H j p q = Nat.min 9 (w L p + w H p) := by
  unfold dtw
  rw [if_neg h1, if_pos h]
theorem dtw_3 {w : Nat → Nat → Nat} {L H j p q : Nat} (h1 : ¬ (p = L ∧ q < j ∧ q ≠ L ∧ q ≠ H)) (h : ¬ (q = L ∧ p < j ∧ p ≠ L ∧ p ≠ H)) : dtw w L H j p q = w p q := by
  unfold dtw
  rw [if_neg h1, if_neg h]
theorem dtw_0 {w : Nat → Nat → Nat} {L H : Nat} : dtw w L H 0 = w := by
  funext p q
  exact dtw_3 (by omega) (by omega)
theorem dtw_e {w : Nat → Nat → Nat} {L H j p q : Nat} (h : ¬ (p = L ∧ q = j)) (g : ¬ (p = j ∧ q = L)) : dtw w L H (j + 1) p q = dtw w L H j p q := by
  by_cases c1 : p = L ∧ q < j ∧ q ≠ L ∧ q ≠ H
  · rw [dtw_1 c1, dtw_1 (by omega)]
  · by_cases c2 : q = L ∧ p < j ∧ p ≠ L ∧ p ≠ H
    · rw [dtw_2 c1 c2, dtw_2 (by omega) (by omega)]
    · rw [dtw_3 c1 c2, dtw_3 (by omega) (by omega)]
theorem dtw_s {w : Nat → Nat → Nat} {L H j : Nat} (h1 : j ≠ L) (h2 : j ≠ H) : setw (dtw w L H j) L j (Nat.min 9 (w L j + w H j)) = dtw w L H (j + 1) := by
  funext p q
  by_cases c1 : p = L ∧ q = j
  · obtain ⟨rfl, rfl⟩ := c1
    rw [setw_a, dtw_1 (by omega)]
  · by_cases c2 : p = j ∧ q = L
    · obtain ⟨rfl, rfl⟩ := c2
      rw [setw_b, dtw_2 (by omega) (by omega)]
    · rw [setw_n c1 c2, dtw_e c1 c2]
theorem min9x {a : Nat} (h : a < 10) : Nat.min 9 a = a := Nat.min_eq_right (by omega)
theorem dtw_k {n : Nat} {w : Nat → Nat → Nat} {L H j : Nat} (hw : WF n w) (h : j = L ∨ j = H ∨ w H j = 0) : dtw w L H (j + 1) = dtw w L H j := by
  funext p q
  by_cases c1 : p = L ∧ q = j
  · obtain ⟨rfl, rfl⟩ := c1
    by_cases c3 : q = p ∨ q = H
    · rw [dtw_3 (by omega) (by omega), dtw_3 (by omega) (by omega)]
    · rw [dtw_1 (by omega), dtw_3 (by omega) (by omega), show w H q = 0 by omega, Nat.add_zero, min9x (hw.1 _ _)]
  · by_cases c2 : p = j ∧ q = L
    · obtain ⟨rfl, rfl⟩ := c2
      by_cases c3 : p = q ∨ p = H
      · rw [dtw_3 (by omega) (by omega), dtw_3 (by omega) (by omega)]
      · rw [dtw_2 (by omega) (by omega), dtw_3 (by omega) (by omega), show w H p = 0 by omega, Nat.add_zero, min9x (hw.1 _ _)]
        exact hw.2.1 _ _
    · exact dtw_e c1 c2
def upn (H p : Nat) : Nat := if H ≤ p then p + 1 else p
theorem upn_n (H p : Nat) : (H ≤ p ∧ upn H p = p + 1) ∨ (p < H ∧ upn H p = p) := by
  unfold upn
  by_cases c : H ≤ p
  · rw [if_pos c]; exact Or.inl ⟨c, rfl⟩
  · rw [if_neg c]; exact Or.inr ⟨by omega, rfl⟩
def tkw (w : Nat → Nat → Nat) (H e a b : Nat) : Nat → Nat → Nat := fun p q => if p < q ∧ q < e ∧ (p < a ∨ (p = a ∧ q < b)) then w (upn H p) (upn H q) else if q < p ∧ p < e ∧ (q < a ∨ (q = a ∧ p < b)) then w (upn H q) (upn H p) else w p q
theorem tkw_1 {w : Nat → Nat → Nat} {H e a b p q : Nat} (h : p < q ∧ q < e ∧ (p < a ∨ (p = a ∧ q < b))) : tkw w H e a b p q = w (upn H p) (upn H q) := if_pos h
theorem tkw_2 {w : Nat → Nat → Nat} {H e a b p q : Nat} (h : q < p ∧ p < e ∧ (q < a ∨ (q = a ∧ p < b))) : tkw w H e a b p q = w (upn H q) (upn H p) := by
  unfold tkw
  rw [if_neg (by omega), if_pos h]
theorem tkw_3 {w : Nat → Nat → Nat} {H e a b p q : Nat} (h1 : ¬ (p < q ∧ q < e ∧ (p < a ∨ (p = a ∧ q < b)))) (h2 : ¬ (q < p ∧ p < e ∧ (q < a ∨ (q = a ∧ p < b)))) : tkw w H e a b p q = w p q := by
  unfold tkw
  rw [if_neg h1, if_neg h2]
theorem tkw_c {w : Nat → Nat → Nat} {H e a b c d p q : Nat} (h1 : (p < q ∧ q < e ∧ (p < a ∨ (p = a ∧ q < b))) ↔ (p < q ∧ q < e ∧ (p < c ∨ (p = c ∧ q < d)))) (h2 : (q < p ∧ p < e ∧ (q < a ∨ (q = a ∧ p < b))) ↔ (q < p ∧ p < e ∧ (q < c ∨ (q = c ∧ p < d)))) : tkw w H e a b p q = tkw w H e c d p q := by
  by_cases c1 : p < q ∧ q < e ∧ (p < a ∨ (p = a ∧ q < b))
  · rw [tkw_1 c1, tkw_1 (h1.mp c1)]
  · by_cases c2 : q < p ∧ p < e ∧ (q < a ∨ (q = a ∧ p < b))
    · rw [tkw_2 c2, tkw_2 (h2.mp c2)]
    · rw [tkw_3 c1 c2, tkw_3 (fun q => c1 (h1.mpr q)) (fun q => c2 (h2.mpr q))]
theorem tkw_s {w : Nat → Nat → Nat} {H e a b : Nat} (h1 : a < b) (h2 : b < e) : setw (tkw w H e a b) a b (w (upn H a) (upn H b)) = tkw w H e a (b + 1) := by
  funext p q
  by_cases c1 : p = a ∧ q = b
  · obtain ⟨rfl, rfl⟩ := c1
    rw [setw_a, tkw_1 (by omega)]
  · by_cases c2 : p = b ∧ q = a
    · obtain ⟨rfl, rfl⟩ := c2
      rw [setw_b, tkw_2 (by omega)]
    · rw [setw_n c1 c2]
      exact tkw_c (by omega) (by omega)
theorem tkw_r {w : Nat → Nat → Nat} {H e a : Nat} : tkw w H e a e = tkw w H e (a + 1) (a + 1 + 1) := by
  funext p q
  exact tkw_c (by omega) (by omega)
theorem tkw_0 {w : Nat → Nat → Nat} {H e : Nat} : tkw w H e 0 (0 + 1) = w := by
  funext p q
  exact tkw_3 (by omega) (by omega)
def clr (w : Nat → Nat → Nat) (e a : Nat) : Nat → Nat → Nat := fun p q => if (p < a ∧ q = e) ∨ (q < a ∧ p = e) then 0 else w p q
theorem clr_0 {w : Nat → Nat → Nat} {e : Nat} : clr w e 0 = w := by
  funext p q
  exact if_neg (by omega)
theorem clr_s {w : Nat → Nat → Nat} {e a : Nat} (h : a < e) : setw (clr w e a) a e 0 = clr w e (a + 1) := by
  funext p q
  by_cases c1 : p = a ∧ q = e
  · obtain ⟨rfl, rfl⟩ := c1
    rw [setw_a]
    exact (if_pos (by omega)).symm
  · by_cases c2 : p = e ∧ q = a
    · obtain ⟨rfl, rfl⟩ := c2
      rw [setw_b]
      exact (if_pos (by omega)).symm
    · rw [setw_n c1 c2]
      unfold clr
      by_cases c3 : (p < a ∧ q = e) ∨ (q < a ∧ p = e)
      · rw [if_pos c3, if_pos (by omega)]
      · rw [if_neg c3, if_neg (by omega)]
/-- the weights when the line of L and H is drawn together -/
def mgw (n : Nat) (w : Nat → Nat → Nat) (L H : Nat) : Nat → Nat → Nat := fun a b => if a < n - 1 ∧ b < n - 1 ∧ a ≠ b then Nat.min 9 (w (upn H a) (upn H b) + (if b = L then w (upn H a) H else 0) + (if a = L then w H (upn H b) else 0)) else 0
theorem mgw_wf {n L H : Nat} {w : Nat → Nat → Nat} (hw : WF n w) : WF (n - 1) (mgw n w L H) := by
  refine ⟨fun a b => ?_, fun a b => ?_, fun a => if_neg (by omega), fun a b h => if_neg (by omega)⟩
  · unfold mgw
    split
    · have : Nat.min 9 (w (upn H a) (upn H b) + (if b = L then w (upn H a) H else 0) + (if a = L then w H (upn H b) else 0)) ≤ 9 := Nat.min_le_left _ _
      omega
    · omega
  · unfold mgw
    by_cases c : a < n - 1 ∧ b < n - 1 ∧ a ≠ b
    · rw [if_pos c, if_pos (c := b < n - 1 ∧ a < n - 1 ∧ b ≠ a) (by omega), hw.2.1 (upn H b) (upn H a), hw.2.1 (upn H b) H, hw.2.1 H (upn H a)]
      congr 1
      exact Nat.add_right_comm _ _ _
    · rw [if_neg c, if_neg (c := b < n - 1 ∧ a < n - 1 ∧ b ≠ a) (by omega)]
/-- what the class comes to -/
theorem mg_cls {n L H a b : Nat} {w : Nat → Nat → Nat} (hw : WF n w) (hL : L < H) (hH : H < n) (ha : a < n - 1) (hb : b < a) : clr (tkw (dtw w L H n) H (n - 1) (n - 1) (n - 1 + 1)) (n - 1) (n - 1) a b = mgw n w L H a b := by
  have e1 : clr (tkw (dtw w L H n) H (n - 1) (n - 1) (n - 1 + 1)) (n - 1) (n - 1) a b = tkw (dtw w L H n) H (n - 1) (n - 1) (n - 1 + 1) a b := if_neg (by omega)
  rw [e1, tkw_2 (by omega)]
  have ua := upn_n H a
  have ub := upn_n H b
  have e2 : mgw n w L H a b = Nat.min 9 (w (upn H a) (upn H b) + (if b = L then w (upn H a) H else 0) + (if a = L then w H (upn H b) else 0)) := if_pos (by omega)
  rw [e2]
  by_cases c1 : b = L
  · have hub : upn H b = L := by omega
    rw [if_pos c1, if_neg (c := a = L) (by omega), hub, dtw_1 (by omega), hw.2.1 L (upn H a), hw.2.1 H (upn H a), Nat.add_zero]
  · by_cases c2 : a = L
    · have hua : upn H a = L := by omega
      rw [if_neg c1, if_pos c2, hua, dtw_2 (by omega) (by omega), Nat.add_zero]
    · rw [if_neg c1, if_neg c2, dtw_3 (by omega) (by omega), Nat.add_zero, min9x (hw.1 _ _)]
      exact hw.2.1 _ _
theorem mg_gn {n l L H : Nat} {w : Nat → Nat → Nat} (hw : WF n w) (hL : L < H) (hH : H < n) (hn : n < 10) (G : GN n l (clr (tkw (dtw w L H n) H (n - 1) (n - 1) (n - 1 + 1)) (n - 1) (n - 1))) : clr (tkw (dtw w L H n) H (n - 1) (n - 1) (n - 1 + 1)) (n - 1) (n - 1) = mgw n w L H ∧ GN (n - 1) l (mgw n w L H) := by
  generalize hq : clr (tkw (dtw w L H n) H (n - 1) (n - 1) (n - 1 + 1)) (n - 1) (n - 1) = q at G
  obtain ⟨-, Gw, Gl⟩ := G
  have z : ∀ b, q (n - 1) b = 0 := fun b => by
    by_cases c : b < n - 1
    · rw [← hq]; exact if_pos (by omega)
    · by_cases c2 : b = n - 1
      · rw [c2]; exact Gw.2.2.1 _
      · exact Gw.r (by omega)
  have qw : WF (n - 1) q := ⟨Gw.1, Gw.2.1, Gw.2.2.1, fun a b h => by
    by_cases c : a = n - 1
    · rw [c]; exact z b
    · exact Gw.2.2.2 a b (by omega)⟩
  have e : q = mgw n w L H := qw.ext (mgw_wf hw) (fun a b ha hb => by rw [← hq]; exact mg_cls hw hL hH ha hb)
  refine ⟨e, by omega, mgw_wf hw, ?_⟩
  rw [← e, Gl]
  have hn1 : n = (n - 1) + 1 := by omega
  have e3 : dcn n q = dcn (n - 1) q + cnt (nr q (n - 1)) 9 := by
    conv => lhs; rw [hn1]
    rfl
  have e4 : nr q (n - 1) = 0 := bit_ext (n := 9) nr_lt (by decide) (fun k hk => by
    rw [nr_bit hk, Nat.zero_testBit, z k]
    rfl)
  rw [e3, e4, cnt_0]
  rfl
def dnn (H p : Nat) : Nat := if H ≤ p then p - 1 else p
/-- the row without H, greater numbers one less -/
def mgo (n : Nat) (o : Nat → Nat) (H : Nat) : Nat → Nat := fun k => dnn H (o (upn (plc n o H) k))
theorem dnn_lt {n H p : Nat} (hp : p < n) (h : p ≠ H) (hH : H < n) : dnn H p < n - 1 := by
  unfold dnn
  split <;> omega
theorem dnn_inj {H p q : Nat} (h1 : p ≠ H) (h2 : q ≠ H) (e : dnn H p = dnn H q) : p = q := by
  unfold dnn at e
  by_cases c1 : H ≤ p
  · rw [if_pos c1] at e
    by_cases c2 : H ≤ q
    · rw [if_pos c2] at e; omega
    · rw [if_neg c2] at e; omega
  · rw [if_neg c1] at e
    by_cases c2 : H ≤ q
    · rw [if_pos c2] at e; omega
    · rw [if_neg c2] at e; omega
theorem mgo_pfx {n H : Nat} {o : Nat → Nat} (hn : n < 10) (h : PFX n n o) (hH : H < n) : PFX (n - 1) (n - 1) (mgo n o H) := by
  obtain ⟨p1, p2, p3⟩ := plc_in hn h hH
  have ne : ∀ k, k < n - 1 → upn (plc n o H) k < n ∧ o (upn (plc n o H) k) ≠ H := fun k hk => by
    have a := upn_n (plc n o H) k
    have b : upn (plc n o H) k < n := by omega
    exact ⟨b, fun q => by have := (p3 _ b).mp q; omega⟩
  refine pfx_of (fun i hi => ⟨dnn_lt (h.1 _ (ne i hi).1) (ne i hi).2 hH, bF (fun q => ?_)⟩) (Nat.le_refl _)
  obtain ⟨k, hk, e⟩ := amk_bit.mp q
  have e2 := pfx_inj h (ne k (by omega)).1 (ne i hi).1 (dnn_inj (ne k (by omega)).2 (ne i hi).2 e)
  have a1 := upn_n (plc n o H) k
  have a2 := upn_n (plc n o H) i
  omega
/-! the class -/
theorem e_draw1 {x n l L H : Nat} {w : Nat → Nat → Nat} {t : St} (h : CN x n l w t) (g : netAt x = true) (G : GN n l w) (hL : L < H) (hH : H < n) : Ok (wh (SX5_drawTogether_16 x (nI L) (nI H)) (0 : Int32) t) (fun _ u => (∃ l', CN x n l' (dtw w L H n) u ∧ GN n l' (dtw w L H n)) ∧ ∀ c, c ≠ x → c ≠ x + 1 → c ≠ x + 3 → u c = t c) := by
  have hn : n < 10 := G.1
  have hw := G.2.1
  refine Ok.count n (fun j c s => c = nI j ∧ (∃ l', CN x n l' (dtw w L H j) s ∧ GN n l' (dtw w L H j)) ∧ ∀ c, c ≠ x → c ≠ x + 1 → c ≠ x + 3 → s c = t c) ?_ ?_ (Nat.zero_le _) ⟨rfl, ⟨l, by rw [dtw_0]; exact h, by rw [dtw_0]; exact G⟩, fun _ _ _ _ => rfl⟩
  · rintro j c s hj ⟨rfl, ⟨l', s1, s2⟩, sf⟩
    unfold SX5_drawTogether_16
    refine Ok.rdE s1.1 (Ok.ifF (by rw [nI_leP (by omega) (by omega)]; omega) (Ok.bd (fun _ u => (∃ l', CN x n l' (dtw w L H (j + 1)) u ∧ GN n l' (dtw w L H (j + 1))) ∧ ∀ c, c ≠ x → c ≠ x + 1 → c ≠ x + 3 → u c = t c) ?_ (fun _ u hu => Ok.ret ⟨nI_1 j, hu⟩)))
    have skip : (j = L ∨ j = H ∨ w H j = 0) → (∃ l', CN x n l' (dtw w L H (j + 1)) s ∧ GN n l' (dtw w L H (j + 1))) := fun q => ⟨l', by rw [dtw_k hw q]; exact s1, by rw [dtw_k hw q]; exact s2⟩
    refine Ok.cv (nI_eqP (by omega) (by omega)) (Ok.ite (fun c => Ok.ret ⟨skip (Or.inl c), sf⟩) (fun c => Ok.cv (nI_eqP (by omega) (by omega)) (Ok.ite (fun c2 => Ok.ret ⟨skip (Or.inr (Or.inl c2)), sf⟩) (fun c2 => ?_))))
    have e1 : dtw w L H j H j = w H j := dtw_3 (by omega) (by omega)
    have e2 : dtw w L H j L j = w L j := dtw_3 (by omega) (by omega)
    have a1 := hw.1 H j
    have a2 := hw.1 L j
    refine Ok.bq (q_weightOf s1 g (by omega) (by omega)) ?_
    rw [e1]
    refine Ok.cv (nI_leP (b := 0) (by omega) (by omega)) (Ok.ite (fun c3 => Ok.ret ⟨skip (Or.inr (Or.inr (by omega))), sf⟩) (fun c3 => Ok.bq (q_weightOf s1 g (by omega) (by omega)) (Ok.bq (q_weightOf s1 g (by omega) (by omega)) ?_)))
    rw [e1, e2, nI_add, li_9, mnI_n (by omega) (by omega)]
    have m9 : Nat.min 9 (w L j + w H j) ≤ 9 := Nat.min_le_left _ _
    have gs := gn_set (d := Nat.min 9 (w L j + w H j)) s2 (by omega) hj (fun q => c q.symm) (by omega)
    rw [dtw_s c c2] at gs
    have dl := dcn_le (n := n) (w := dtw w L H j) hn
    refine Ok.bd _ (e_setWeight s1 g (by omega) (by omega) (fun q => c q.symm) (by omega) (s2.2.1.1 _ _) gs.1 (by have := s2.2.2; omega)) ?_
    rintro _ u ⟨u1, u2⟩
    rw [dtw_s c c2] at u1
    exact Ok.ret ⟨⟨_, u1, gs.2⟩, fun c k0 k1 k3 => by rw [u2 c k0 k1 k3]; exact sf c k0 k1 k3⟩
  · rintro c s ⟨rfl, ⟨l', s1, s2⟩, sf⟩
    unfold SX5_drawTogether_16
    exact Ok.rdE s1.1 (Ok.ifT (by rw [nI_leP (by omega) (by omega)]; omega) (Ok.ret ⟨⟨l', s1, s2⟩, sf⟩))
theorem e_take1 {x n l H : Nat} {w : Nat → Nat → Nat} {t : St} (h : CN x n l w t) (g : netAt x = true) (G : GN n l w) (hH : H < n) : Ok (wh (SX5_takeOut_9 x (nI H) (nI (n - 1))) (0 : Int32) t) (fun _ u => (∃ l', CN x n l' (tkw w H (n - 1) (n - 1) (n - 1 + 1)) u ∧ GN n l' (tkw w H (n - 1) (n - 1) (n - 1 + 1))) ∧ ∀ c, c ≠ x → c ≠ x + 1 → c ≠ x + 3 → u c = t c) := by
  have hn : n < 10 := G.1
  have hw := G.2.1
  refine Ok.count (n - 1) (fun a c s => c = nI a ∧ (∃ l', CN x n l' (tkw w H (n - 1) a (a + 1)) s ∧ GN n l' (tkw w H (n - 1) a (a + 1))) ∧ ∀ c, c ≠ x → c ≠ x + 1 → c ≠ x + 3 → s c = t c) ?_ ?_ (Nat.zero_le _) ⟨rfl, ⟨l, by rw [tkw_0]; exact h, by rw [tkw_0]; exact G⟩, fun _ _ _ _ => rfl⟩
  · rintro a c s ha ⟨rfl, hs, sf⟩
    unfold SX5_takeOut_9
    rw [nI_1]
    refine Ok.ifF (by rw [nI_leP (by omega) (by omega)]; omega) (Ok.bd (fun _ u => (∃ l', CN x n l' (tkw w H (n - 1) a (n - 1)) u ∧ GN n l' (tkw w H (n - 1) a (n - 1))) ∧ ∀ c, c ≠ x → c ≠ x + 1 → c ≠ x + 3 → u c = t c) ?_ ?_)
    · refine Ok.count (n - 1 - (a + 1)) (fun k c s => c = nI (a + 1 + k) ∧ (∃ l', CN x n l' (tkw w H (n - 1) a (a + 1 + k)) s ∧ GN n l' (tkw w H (n - 1) a (a + 1 + k))) ∧ ∀ c, c ≠ x → c ≠ x + 1 → c ≠ x + 3 → s c = t c) ?_ ?_ (Nat.zero_le _) ⟨rfl, hs, sf⟩
      · rintro k c s hk ⟨rfl, ⟨l', s1, s2⟩, sf⟩
        unfold SX5_takeOut_19
        have ua := upn_n H a
        have ub := upn_n H (a + 1 + k)
        refine Ok.ifF (by rw [nI_leP (by omega) (by omega)]; omega) ?_
        refine Ok.bq (a := nI (upn H a)) (t := s) (Ok.eq (Ok.cv (nI_leP (by omega) (by omega)) (Ok.ite (fun c => Ok.ret ⟨rfl, ?_⟩) (fun c => Ok.ret ⟨rfl, ?_⟩)))) ?_
        · rw [nI_1]; congr 1; omega
        · congr 1; omega
        refine Ok.bq (a := nI (upn H (a + 1 + k))) (t := s) (Ok.eq (Ok.cv (nI_leP (by omega) (by omega)) (Ok.ite (fun c => Ok.ret ⟨rfl, ?_⟩) (fun c => Ok.ret ⟨rfl, ?_⟩)))) ?_
        · rw [nI_1]; congr 1; omega
        · congr 1; omega
        refine Ok.bq (q_weightOf s1 g (by omega) (by omega)) ?_
        have e1 : tkw w H (n - 1) a (a + 1 + k) (upn H a) (upn H (a + 1 + k)) = w (upn H a) (upn H (a + 1 + k)) := tkw_3 (by omega) (by omega)
        rw [e1]
        have gs := gn_set (d := w (upn H a) (upn H (a + 1 + k))) s2 (a := a) (b := a + 1 + k) (by omega) (by omega) (by omega) (hw.1 _ _)
        rw [tkw_s (by omega) (by omega)] at gs
        have dl := dcn_le (n := n) (w := tkw w H (n - 1) a (a + 1 + k)) hn
        refine Ok.bd _ (e_setWeight s1 g (by omega) (by omega) (by omega) (hw.1 _ _) (s2.2.1.1 _ _) gs.1 (by have := s2.2.2; omega)) ?_
        rintro _ u ⟨u1, u2⟩
        rw [tkw_s (by omega) (by omega)] at u1
        exact Ok.ret ⟨by rw [nI_1]; rfl, ⟨_, u1, gs.2⟩, fun c k0 k1 k3 => by rw [u2 c k0 k1 k3]; exact sf c k0 k1 k3⟩
      · rintro c s ⟨rfl, hs, sf⟩
        unfold SX5_takeOut_19
        rw [show a + 1 + (n - 1 - (a + 1)) = n - 1 by omega] at hs ⊢
        exact Ok.ifT (by rw [nI_leP (by omega) (by omega)]; omega) (Ok.ret ⟨hs, sf⟩)
    · rintro _ u ⟨u1, u2⟩
      rw [tkw_r] at u1
      exact Ok.ret ⟨rfl, u1, u2⟩
  · rintro c s ⟨rfl, hs, sf⟩
    unfold SX5_takeOut_9
    exact Ok.ifT (by rw [nI_leP (by omega) (by omega)]; omega) (Ok.ret ⟨hs, sf⟩)
theorem e_take2 {x n l : Nat} {w : Nat → Nat → Nat} {w1 : Int32} {t : St} (h : CN x n l w t) (g : netAt x = true) (G : GN n l w) (h1 : 1 ≤ n) : Ok (wh (SX5_takeOut_77 x w1 (nI (n - 1))) (0 : Int32) t) (fun _ u => (∃ l', CN x n l' (clr w (n - 1) (n - 1)) u ∧ GN n l' (clr w (n - 1) (n - 1))) ∧ ∀ c, c ≠ x → c ≠ x + 1 → c ≠ x + 3 → u c = t c) := by
  have hn : n < 10 := G.1
  refine Ok.count (n - 1) (fun a c s => c = nI a ∧ (∃ l', CN x n l' (clr w (n - 1) a) s ∧ GN n l' (clr w (n - 1) a)) ∧ ∀ c, c ≠ x → c ≠ x + 1 → c ≠ x + 3 → s c = t c) ?_ ?_ (Nat.zero_le _) ⟨rfl, ⟨l, by rw [clr_0]; exact h, by rw [clr_0]; exact G⟩, fun _ _ _ _ => rfl⟩
  · rintro a c s ha ⟨rfl, ⟨l', s1, s2⟩, sf⟩
    unfold SX5_takeOut_77
    have gs := gn_set (d := 0) s2 (a := a) (b := n - 1) (by omega) (by omega) (by omega) (by omega)
    rw [clr_s ha] at gs
    have dl := dcn_le (n := n) (w := clr w (n - 1) a) hn
    refine Ok.ifF (by rw [nI_leP (by omega) (by omega)]; omega) (Ok.bd _ (e_setWeight (v := 0) s1 g (by omega) (by omega) (by omega) (by omega) (s2.2.1.1 _ _) gs.1 (by have := s2.2.2; omega)) ?_)
    rintro _ u ⟨u1, u2⟩
    rw [clr_s ha] at u1
    exact Ok.ret ⟨nI_1 a, ⟨_, u1, gs.2⟩, fun c k0 k1 k3 => by rw [u2 c k0 k1 k3]; exact sf c k0 k1 k3⟩
  · rintro c s ⟨rfl, hs, sf⟩
    unfold SX5_takeOut_77
    exact Ok.ifT (by rw [nI_leP (by omega) (by omega)]; omega) (Ok.ret ⟨hs, sf⟩)
/-- how many are filled ahead of i -/
def flc (h i : Nat) : Nat := if i ≤ h then i else i - 1
theorem flc_n (h i : Nat) : (i ≤ h ∧ flc h i = i) ∨ (h < i ∧ flc h i = i - 1) := by
  unfold flc
  by_cases c : i ≤ h
  · rw [if_pos c]; exact Or.inl ⟨c, rfl⟩
  · rw [if_neg c]; exact Or.inr ⟨by omega, rfl⟩
theorem dnn_e {H p : Nat} {s : St} (hp : p < 1000) (hH : H < 1000) (h : p ≠ H) : (if nI H ≤ nI p then some (nI p - 1, s) else some (nI p, s)) = some (nI (dnn H p), s) := by
  unfold dnn
  by_cases c : H ≤ p
  · rw [if_pos (by rw [nI_leP (by omega) (by omega)]; exact c), if_pos c, nI_s1 (by omega)]
  · rw [if_neg (by rw [nI_leP (by omega) (by omega)]; exact c), if_neg c]
theorem e_takeRow {x n H : Nat} {o : Nat → Nat} {t : St} (g : netAt x = true) (hn : n < 10) (h0 : t x 0 = nI n) (ho : CO x n o t) (hP : PFX n n o) (hH : H < n) : Ok (FX5_takeFromRow x (nI H) t) (fun _ u => (∀ c, c ≠ x + 2 → u c = t c) ∧ CO x (n - 1) (mgo n o H) u) := by
  obtain ⟨p1, p2, p3⟩ := plc_in hn hP hH
  unfold FX5_takeFromRow
  refine Ok.ckT g (Ok.bd (fun _ u => (∀ c, c ≠ x + 2 → u c = t c) ∧ CO x (n - 1) (mgo n o H) u) ?_ (fun _ u hu => Ok.ret hu))
  refine Ok.count n (fun i c s => c = (nI (flc (plc n o H) i), nI i) ∧ (∀ c, c ≠ x + 2 → s c = t c) ∧ (∀ k, k < flc (plc n o H) i → s (x + 2) k = nI (mgo n o H k)) ∧ ∀ k, i ≤ k → k < n → s (x + 2) k = nI (o k)) ?_ ?_ (Nat.zero_le _) ⟨by unfold flc; rw [if_pos (Nat.zero_le _)]; rfl, fun _ _ => rfl, fun k hk => by have := flc_n (plc n o H) 0; omega, fun k _ hk => ho k hk⟩
  · rintro i c s hi ⟨rfl, sf, s1, s2⟩
    unfold SX5_takeFromRow_4
    dsimp only
    have hf := flc_n (plc n o H) i
    have hf1 := flc_n (plc n o H) (i + 1)
    have o9 := hP.1 i hi
    refine Ok.rdE (x := nI n) (by rw [sf x (by omega)]; exact h0) (Ok.ifF (by rw [nI_leP (by omega) (by omega)]; omega) (Ok.ckT (inb_n (by omega) (by omega)) ?_))
    rw [nI_cl (by omega)]
    refine Ok.rdE (s2 i (Nat.le_refl _) hi) (Ok.bd (fun r u => r = nI (flc (plc n o H) (i + 1)) ∧ (∀ c, c ≠ x + 2 → u c = t c) ∧ (∀ k, k < flc (plc n o H) (i + 1) → u (x + 2) k = nI (mgo n o H k)) ∧ ∀ k, i + 1 ≤ k → k < n → u (x + 2) k = nI (o k)) ?_ ?_)
    · refine Ok.cv (nI_eqP (by omega) (by omega)) (Ok.ite (fun c => Ok.ret ?_) (fun c => ?_))
      · have := (p3 i hi).mp c
        have e : flc (plc n o H) (i + 1) = flc (plc n o H) i := by omega
        rw [e]
        exact ⟨rfl, sf, s1, fun k k1 k2 => s2 k (by omega) k2⟩
      · have hne : i ≠ plc n o H := fun q => c ((p3 i hi).mpr q)
        have e : flc (plc n o H) (i + 1) = flc (plc n o H) i + 1 := by omega
        rw [dnn_e (by omega) (by omega) c, e]
        refine Ok.bq rfl (Ok.ckT (inb_n (by omega) (by omega)) ?_)
        rw [nI_cl (by omega)]
        refine OkwrE (Ok.ret ⟨nI_1 _, fun c hc => by rw [wr_off c hc]; exact sf c hc, fun k hk => ?_, fun k k1 k2 => by rw [wrn (by omega)]; exact s2 k (by omega) k2⟩)
        by_cases q : k = flc (plc n o H) i
        · rw [q, wrs]
          unfold mgo
          have := upn_n (plc n o H) (flc (plc n o H) i)
          rw [show upn (plc n o H) (flc (plc n o H) i) = i by omega]
        · rw [wrn q]
          exact s1 k (by omega)
    · rintro _ u ⟨rfl, u1, u2, u3⟩
      exact Ok.ret ⟨by rw [nI_1], u1, u2, u3⟩
  · rintro c s ⟨rfl, sf, s1, s2⟩
    unfold SX5_takeFromRow_4
    dsimp only
    have hf := flc_n (plc n o H) n
    exact Ok.rdE (x := nI n) (by rw [sf x (by omega)]; exact h0) (Ok.ifT (by rw [nI_leP (by omega) (by omega)]; omega) (Ok.ret ⟨sf, fun k hk => s1 k (by omega)⟩))
theorem e_drawTogether {x n l a b : Nat} {w : Nat → Nat → Nat} {o : Nat → Nat} {t : St} (h : CN x n l w t) (g : netAt x = true) (G : GN n l w) (ho : CO x n o t) (hP : PFX n n o) (ha : a < n) (hb : b < n) (hab : a ≠ b) : Ok (FX5_drawTogether x (nI a) (nI b) t) (fun _ u => (∃ l', CN x (n - 1) l' (mgw n w (Nat.min a b) (Nat.max a b)) u ∧ GN (n - 1) l' (mgw n w (Nat.min a b) (Nat.max a b))) ∧ CO x (n - 1) (trm (n - 1) (mgo n o (Nat.max a b))) u ∧ ∀ c, (c < x ∨ x + 3 < c) → u c = t c) := by
  have hn : n < 10 := G.1
  have hw := G.2.1
  have hLH : Nat.min a b < Nat.max a b := by
    rcases (show a < b ∨ b < a by omega) with c | c
    · rw [show Nat.min a b = a from Nat.min_eq_left (by omega), show Nat.max a b = b from Nat.max_eq_right (by omega)]; exact c
    · rw [show Nat.min a b = b from Nat.min_eq_right (by omega), show Nat.max a b = a from Nat.max_eq_left (by omega)]; exact c
  have hH : Nat.max a b < n := Nat.max_lt.mpr ⟨ha, hb⟩
  unfold FX5_drawTogether
  rw [mnI_n (by omega) (by omega), mxI_n (by omega) (by omega)]
  generalize Nat.min a b = L at hLH ⊢
  generalize Nat.max a b = H at hLH hH ⊢
  refine Ok.ckT g (Ok.bd _ (e_draw1 h g G hLH hH) ?_)
  rintro _ t1 ⟨⟨l1, c1, G1⟩, f1⟩
  refine Ok.bd (fun _ u => (∃ l', CN x (n - 1) l' (mgw n w L H) u ∧ GN (n - 1) l' (mgw n w L H)) ∧ CO x (n - 1) (trm (n - 1) (mgo n o H)) u ∧ ∀ c, (c < x ∨ x + 3 < c) → u c = t c) ?_ (fun _ u hu => Ok.ret hu)
  unfold FX5_takeOut
  refine Ok.ckT g (Ok.rdE c1.1 ?_)
  rw [nI_s1 (by omega)]
  refine Ok.bd _ (e_take1 c1 g G1 hH) ?_
  rintro _ t2 ⟨⟨l2, c2, G2⟩, f2⟩
  refine Ok.bd _ (e_take2 c2 g G2 (by omega)) ?_
  rintro _ t3 ⟨⟨l3, c3, G3⟩, f3⟩
  obtain ⟨em, Gm⟩ := mg_gn hw hLH hH hn G3
  rw [em] at c3
  have o3 : CO x n o t3 := fun i hi => by rw [f3 _ (by omega) (by omega) (by omega), f2 _ (by omega) (by omega) (by omega), f1 _ (by omega) (by omega) (by omega)]; exact ho i hi
  refine Ok.bd _ (e_takeRow g hn c3.1 o3 hP hH) ?_
  rintro _ t4 ⟨f4, o4⟩
  refine OkwrE (Ok.ret ⟨⟨l3, ⟨wrs, ?_, fun p hp => ?_, fun p q hp hq => ?_⟩, Gm⟩, fun i hi => ?_, fun c hc => ?_⟩)
  · rw [wrn (by decide), f4 x (by omega)]; exact c3.2.1
  · rw [wrf (by omega), f4 _ (by omega)]; exact c3.2.2.1 p hp
  · rw [wrf (by omega), f4 _ (by omega)]; exact c3.2.2.2 p q hp hq
  · rw [wrf (by omega), trm_in hi]; exact o4 i hi
  · rw [wr_off c (by omega), f4 c (by omega), f3 c (by omega) (by omega) (by omega), f2 c (by omega) (by omega) (by omega), f1 c (by omega) (by omega) (by omega)]
/-- the slot when a line is drawn together -/
def vmg (v : V4) (a b : Nat) : V4 := (v.1 - 1, dcn (v.1 - 1) (mgw v.1 v.2.2.1 (Nat.min a b) (Nat.max a b)) / 2, mgw v.1 v.2.2.1 (Nat.min a b) (Nat.max a b), trm (v.1 - 1) (mgo v.1 v.2.2.2 (Nat.max a b)))
end
section
/-! a line that is drawn together: both -/
theorem dcn_8 {n : Nat} {w : Nat → Nat → Nat} (hw : WF n w) (hn : n < 9) : dcn n w ≤ 60 := by
  have h : dcn n w ≤ n * 7 := sm_le (f := fun p => cnt (nr w p) 9) (b := 7) (n := n) (fun p hp => by
    have h1 : (nr w p).testBit p = false := by
      rw [nr_bit (by omega), hw.2.2.1]
      exact decide_eq_false (by omega)
    have h2 : cnt (nr w p ||| 2 ^ p) 9 = cnt (nr w p) 9 + (if p < 9 then 1 else 0) := cnt_or h1
    have h3 : nr w p ||| 2 ^ p < 2 ^ 8 := Nat.or_lt_two_pow (Nat.lt_of_lt_of_le (nr_l hw) (Nat.pow_le_pow_right (by decide) (by omega))) (Nat.pow_lt_pow_right (by decide) (by omega))
    have h5 : cnt (nr w p ||| 2 ^ p) 9 = cnt (nr w p ||| 2 ^ p) 8 + (if (nr w p ||| 2 ^ p).testBit 8 = true then 1 else 0) := cnt_succ _ 8
    rw [lt_pow_bit h3 (Nat.le_refl 8), if_neg (by decide)] at h5
    rw [if_pos (by omega)] at h2
    have h6 : cnt (nr w p ||| 2 ^ p) 8 ≤ 8 := cnt_le
    show cnt (nr w p) 9 ≤ 7
    omega)
  omega
section
variable {K K' : Nat → Nat → V4} {m m' s : Nat} {t : St}
theorem c_merges {a b : Nat} (hG : GK K m) (hs : s < 3) (hC : CST K m t) (ha : a < (K m s).1) (hb : b < (K m s).1) (hab : a ≠ b) (h0 : (K m s).2.2.1 a b ≠ 0) : Ok (FX11_merges (nI s) (nI a) (nI b) t) (fun r u => r = nI ((K m s).1 - 1) ∧ GV (vmg (K m s) a b) ∧ CNX K m s (vmg (K m s) a b) u ∧ AF s t u) := by
  have hv := hG.2 m (Nat.le_refl _) s hs
  have hn : (K m s).1 < 10 := hv.1.1
  have hx := hC.1 s hs
  have g := n_sl hs
  have h9 := hv.1.2.1.1 a b
  unfold FX11_merges
  refine Ok.bq (g_netIn hs hn hx.1.1) ?_
  rw [if_neg (c := (K m s).1 = 0) (by omega)]
  refine Ok.ckT g (Ok.bq (q_hasTwo g hn hx.1.1 ha hb hab) (Ok.ifF (by decide) (Ok.bq (q_weightOf hx.1 g (by omega) (by omega)) (Ok.ifF (by rw [nI_q0 (by omega)]; exact h0) (Ok.bd _ (e_kept hG hs hC) ?_)))))
  rintro _ t1 ⟨k1, x1, f1⟩
  refine Ok.bd _ (e_drawTogether x1.1 g hv.1 x1.2 hv.2.2.1 ha hb hab) ?_
  rintro _ t2 ⟨⟨l', c2, G2⟩, o2, f2⟩
  have hH : Nat.max a b < (K m s).1 := Nat.max_lt.mpr ⟨ha, hb⟩
  have el : l' = dcn ((K m s).1 - 1) (mgw (K m s).1 (K m s).2.2.1 (Nat.min a b) (Nat.max a b)) / 2 := by
    have := G2.2.2
    omega
  rw [el] at c2 G2
  have d8 := dcn_8 (n := (K m s).1 - 1) (w := mgw (K m s).1 (K m s).2.2.1 (Nat.min a b) (Nat.max a b)) G2.2.1 (by omega)
  have hvm : GV (vmg (K m s) a b) := ⟨G2, by show dcn _ _ / 2 ≤ 30; omega, (trm_go (mgo_pfx hn hv.2.2.1 hH)).1, (trm_go (mgo_pfx hn hv.2.2.1 hH)).2⟩
  refine Ok.bd _ (c_note (v := vmg (K m s) a b) hG hs hvm hC (fun c c1 c3 => by rw [f2 c (by omega)]; exact f1 c c3) (k1.fr4 (fun c c1 c3 => f2 c (by omega))) ⟨c2, o2⟩) ?_
  rintro _ u ⟨u1, u2, u3⟩
  exact Ok.rdE (x := nI ((K m s).1 - 1)) (by rw [u2 _ (by omega)]; exact c2.1) (Ok.ret ⟨rfl, hvm, u1, u3⟩)
theorem c_merges0 {a b : Nat} (hG : GK K m) (hs : s < 3) (hC : CST K m t) (ha : a < (K m s).1) (hb : b < (K m s).1) (hab : a ≠ b) (h0 : (K m s).2.2.1 a b = 0) : FX11_merges (nI s) (nI a) (nI b) t = some (-6, t) := by
  have hv := hG.2 m (Nat.le_refl _) s hs
  have hn : (K m s).1 < 10 := hv.1.1
  have hx := hC.1 s hs
  have g := n_sl hs
  refine Ok.eq ?_
  unfold FX11_merges
  refine Ok.bq (g_netIn hs hn hx.1.1) ?_
  rw [if_neg (c := (K m s).1 = 0) (by omega)]
  exact Ok.ckT g (Ok.bq (q_hasTwo g hn hx.1.1 ha hb hab) (Ok.ifF (by decide) (Ok.bq (q_weightOf hx.1 g (by omega) (by omega)) (Ok.ifT (by rw [h0]; rfl) (Ok.ret ⟨rfl, rfl⟩)))))
end
/-! the reference's table -/
def ddn (L H p : Nat) : Nat := if p = H then L else dnn H p
theorem ddn_n (L H p : Nat) : (p = H ∧ ddn L H p = L) ∨ (p < H ∧ ddn L H p = p) ∨ (H < p ∧ ddn L H p = p - 1) := by
  unfold ddn dnn
  by_cases c : p = H
  · rw [if_pos c]; exact Or.inl ⟨c, rfl⟩
  · rw [if_neg c]
    by_cases c2 : H ≤ p
    · rw [if_pos c2]; exact Or.inr (Or.inr ⟨by omega, rfl⟩)
    · rw [if_neg c2]; exact Or.inr (Or.inl ⟨by omega, rfl⟩)
theorem sm_pre {n L H a : Nat} {X : Nat → Nat} (hL : L < H) (hH : H < n) (ha : a < n - 1) : sm n (fun p => if ddn L H p = a then X p else 0) = X (upn H a) + (if a = L then X H else 0) := by
  have ua := upn_n H a
  have e : sm n (fun p => if ddn L H p = a then X p else 0) = sm n (fun p => (if p = upn H a then X p else 0) + (if a = L then (if p = H then X p else 0) else 0)) := by
    refine sm_congr (fun p hp => ?_)
    have d := ddn_n L H p
    by_cases c : ddn L H p = a
    · rw [if_pos c]
      by_cases c2 : p = H
      · rw [if_neg (by omega), if_pos (by omega), if_pos c2, Nat.zero_add]
      · rw [if_pos (by omega)]
        by_cases c3 : a = L
        · rw [if_pos c3, if_neg c2]; rfl
        · rw [if_neg c3]; rfl
    · rw [if_neg c, if_neg (by omega)]
      by_cases c3 : a = L
      · rw [if_pos c3, if_neg (by omega)]
      · rw [if_neg c3]
  rw [e, sm_add, sm_pt (f := fun p => if p = upn H a then X p else 0) (j := upn H a) (fun i _ hne => if_neg hne)]
  rw [if_pos (c := upn H a < n) (by omega), if_pos rfl]
  congr 1
  by_cases c3 : a = L
  · rw [if_pos c3]
    have : sm n (fun p => if a = L then (if p = H then X p else 0) else 0) = sm n (fun p => if p = H then X p else 0) := sm_congr (fun p _ => if_pos c3)
    rw [this, sm_pt (f := fun p => if p = H then X p else 0) (j := H) (fun i _ hne => if_neg hne), if_pos hH, if_pos rfl]
  · rw [if_neg c3]
    exact sm_zero (fun p _ => if_neg c3)
def gpq (w : Nat → Nat → Nat) (L H a b p q : Nat) : Nat := if ddn L H p = a then (if ddn L H q = b then w p q else 0) else 0
/-- what is added so far, at the pair p, k -/
def tpk (n : Nat) (w : Nat → Nat → Nat) (L H p k a b : Nat) : Nat := sm p (fun i => sm n (fun j => gpq w L H a b i j)) + sm k (fun j => gpq w L H a b p j)
def jpk (n : Nat) (w : Nat → Nat → Nat) (L H p k a b : Nat) : Nat := if a = b then 0 else Nat.min 9 (tpk n w L H p k a b)
theorem jpk_9 {n L H p k a b : Nat} {w : Nat → Nat → Nat} : jpk n w L H p k a b ≤ 9 := by
  unfold jpk
  split
  · omega
  · exact Nat.min_le_left _ _
theorem jpk_0 {n L H a b : Nat} {w : Nat → Nat → Nat} : jpk n w L H 0 0 a b = 0 := by
  unfold jpk
  split
  · rfl
  · exact Nat.min_eq_right (Nat.zero_le _)
theorem jpk_r {n L H p : Nat} {w : Nat → Nat → Nat} : jpk n w L H p n = jpk n w L H (p + 1) 0 := by
  funext a b
  rfl
theorem jpk_s {n L H p k : Nat} {w : Nat → Nat → Nat} : jpk n w L H p (k + 1) (ddn L H p) (ddn L H k) = if ddn L H p = ddn L H k then 0 else Nat.min 9 (jpk n w L H p k (ddn L H p) (ddn L H k) + w p k) := by
  have e : tpk n w L H p (k + 1) (ddn L H p) (ddn L H k) = tpk n w L H p k (ddn L H p) (ddn L H k) + w p k := by
    have g : gpq w L H (ddn L H p) (ddn L H k) p k = w p k := by unfold gpq; rw [if_pos rfl, if_pos rfl]
    show _ + (sm k _ + gpq w L H (ddn L H p) (ddn L H k) p k) = _
    rw [g]
    exact (Nat.add_assoc _ _ _).symm
  unfold jpk
  by_cases c : ddn L H p = ddn L H k
  · rw [if_pos c, if_pos c]
  · rw [if_neg c, if_neg c, if_neg c, e]
    generalize tpk n w L H p k (ddn L H p) (ddn L H k) = X
    generalize w p k = y
    by_cases c1 : X ≤ 9
    · rw [show Nat.min 9 X = X from Nat.min_eq_right c1]
    · rw [show Nat.min 9 X = 9 from Nat.min_eq_left (by omega), show Nat.min 9 (X + y) = 9 from Nat.min_eq_left (by omega), show Nat.min 9 (9 + y) = 9 from Nat.min_eq_left (by omega)]
theorem jpk_n {n L H p k a b : Nat} {w : Nat → Nat → Nat} (h : ¬ (a = ddn L H p ∧ b = ddn L H k)) : jpk n w L H p (k + 1) a b = jpk n w L H p k a b := by
  have e : tpk n w L H p (k + 1) a b = tpk n w L H p k a b := by
    have g : gpq w L H a b p k = 0 := by
      unfold gpq
      by_cases c1 : ddn L H p = a
      · rw [if_pos c1]
        by_cases c2 : ddn L H k = b
        · exact absurd ⟨c1.symm, c2.symm⟩ h
        · rw [if_neg c2]
      · rw [if_neg c1]
    show _ + (sm k _ + gpq w L H a b p k) = _
    rw [g]
    rfl
  unfold jpk
  rw [e]
theorem jpk_f {n L H : Nat} {w : Nat → Nat → Nat} (hw : WF n w) (hL : L < H) (hH : H < n) : jpk n w L H n 0 = mgw n w L H := by
  funext a b
  unfold jpk mgw
  by_cases c : a = b
  · rw [if_pos c, if_neg (by omega)]
  · rw [if_neg c]
    by_cases c2 : a < n - 1 ∧ b < n - 1 ∧ a ≠ b
    · rw [if_pos c2]
      congr 1
      have e1 : tpk n w L H n 0 a b = sm n (fun i => if ddn L H i = a then w i (upn H b) + (if b = L then w i H else 0) else 0) := by
        show sm n _ + 0 = _
        rw [Nat.add_zero]
        refine sm_congr (fun i _ => ?_)
        by_cases c3 : ddn L H i = a
        · rw [if_pos c3, ← sm_pre (X := w i) hL hH c2.2.1]
          refine sm_congr (fun j _ => ?_)
          unfold gpq
          rw [if_pos c3]
        · rw [if_neg c3]
          refine sm_zero (fun j _ => ?_)
          unfold gpq
          rw [if_neg c3]
      rw [e1, sm_pre (X := fun i => w i (upn H b) + (if b = L then w i H else 0)) hL hH c2.1]
      by_cases c4 : a = L
      · rw [if_pos c4, if_pos c4, if_neg (c := b = L) (by omega), if_neg (c := b = L) (by omega)]
        rfl
      · rw [if_neg c4, if_neg c4]
    · rw [if_neg c2]
      have e1 : tpk n w L H n 0 a b = 0 := by
        show sm n _ + 0 = _
        rw [Nat.add_zero]
        refine sm_zero (fun i hi => sm_zero (fun j hj => ?_))
        unfold gpq
        have d1 := ddn_n L H i
        have d2 := ddn_n L H j
        by_cases c3 : ddn L H i = a
        · rw [if_pos c3, if_neg (by omega)]
        · rw [if_neg c3]
      rw [e1]
      exact Nat.min_eq_right (Nat.zero_le _)
theorem ddn_e {L H p : Nat} {s : St} (hp : p < 1000) (hH : H < 1000) : (if nI p = nI H then some (nI L, s) else (if nI p ≤ nI H then some (nI p, s) else some (nI p - 1, s))) = some (nI (ddn L H p), s) := by
  have d := ddn_n L H p
  by_cases c : p = H
  · rw [if_pos (by rw [c]), show ddn L H p = L by omega]
  · rw [if_neg (by rw [nI_eqP (by omega) (by omega)]; exact c)]
    by_cases c2 : p ≤ H
    · rw [if_pos (by rw [nI_leP (by omega) (by omega)]; exact c2), show ddn L H p = p by omega]
    · rw [if_neg (by rw [nI_leP (by omega) (by omega)]; exact c2), nI_s1 (by omega), show ddn L H p = p - 1 by omega]
def JT (j : Nat → Nat → Nat) (t : St) : Prop := ∀ a b, a < 9 → b < 9 → t 161 (9 * a + b) = nI (j a b)
theorem m_mg1 {t : St} {w1 w4 w5 w6 : Int32} : Ok (wh (SX12_merges_54 w1 w4 w5 w6) (0 : Int32) t) (fun _ u => (∀ c, c ≠ 161 → u c = t c) ∧ JT (fun _ _ => 0) u) := by
  refine (Ok.count 81 (fun j c s => c = nI j ∧ (∀ c, c ≠ 161 → s c = t c) ∧ ∀ k, k < j → s 161 k = nI 0) (Q := fun _ u => (∀ c, c ≠ 161 → u c = t c) ∧ ∀ k, k < 81 → u 161 k = nI 0) ?_ ?_ (Nat.zero_le _) ⟨rfl, fun _ _ => rfl, fun k hk => by omega⟩).mono (fun _ u h => ⟨h.1, fun a b ha hb => h.2 _ (by omega)⟩)
  · rintro j c s hj ⟨rfl, sf, s1⟩
    unfold SX12_merges_54
    refine Ok.ifF (by rw [li_81, nI_leP (by omega) (by omega)]; omega) (Ok.ckT (inb_n hj (by omega)) (OkwrE (Ok.ret ⟨nI_1 j, fun c hc => by rw [wr_off c hc]; exact sf c hc, fun k hk => ?_⟩)))
    rw [nI_cl (by omega)]
    by_cases e : k = j
    · subst e; rw [wrs]; rfl
    · rw [wrn e]; exact s1 k (by omega)
  · rintro c s ⟨rfl, sf, s1⟩
    unfold SX12_merges_54
    exact Ok.ifT (by rw [li_81, nI_leP (by omega) (by omega)]; omega) (Ok.ret ⟨sf, s1⟩)
theorem m_mg2 {s n L H p : Nat} {w : Nat → Nat → Nat} {t : St} (h : RN s n w t) (hs : s < 3) (hw : WF n w) (hn : n < 10) (hL : L < H) (hH : H < n) (hp : p < n) (hJ : JT (jpk n w L H p 0) t) : Ok (wh (SX12_merges_88 (nI s) (nI L) (nI H) (nI n) (nI p)) (0 : Int32) t) (fun _ u => (∀ c, c ≠ 161 → u c = t c) ∧ JT (jpk n w L H (p + 1) 0) u) := by
  refine Ok.count n (fun k c s' => c = nI k ∧ (∀ c, c ≠ 161 → s' c = t c) ∧ JT (jpk n w L H p k) s') ?_ ?_ (Nat.zero_le _) ⟨rfl, fun _ _ => rfl, hJ⟩
  · rintro k c s' hk ⟨rfl, sf, s1⟩
    unfold SX12_merges_88
    have dp := ddn_n L H p
    have dk := ddn_n L H k
    have p9 : ddn L H p < 9 := by omega
    have k9 : ddn L H k < 9 := by omega
    have wk9 := hw.1 p k
    have j9 := jpk_9 (n := n) (w := w) (L := L) (H := H) (p := p) (k := k) (a := ddn L H p) (b := ddn L H k)
    refine Ok.ifF (by rw [nI_leP (by omega) (by omega)]; omega) ?_
    refine Ok.bq (ddn_e (by omega) (by omega)) (Ok.bq (ddn_e (by omega) (by omega)) (Ok.bd (fun r u => s' = u ∧ r = nI (jpk n w L H p (k + 1) (ddn L H p) (ddn L H k))) ?_ ?_))
    · rw [jpk_s]
      refine Ok.cv (nI_eqP (by omega) (by omega)) (Ok.ite (fun c => Ok.ret ⟨rfl, by rw [if_pos c]; rfl⟩) (fun c => ?_))
      rw [if_neg c, li_9, nI_mul, nI_add]
      refine Ok.ckT (inb_n (by omega) (by omega)) ?_
      rw [nI_cl (by omega)]
      refine Ok.rdE (s1 _ _ p9 k9) (Ok.bq (q_weight (h.fr (sf 150 (by decide))) hs (by omega) (by omega)) (Ok.ret ⟨rfl, ?_⟩))
      rw [nI_add, mnI_n (by omega) (by omega)]
    · rintro _ _ ⟨rfl, rfl⟩
      rw [li_9, nI_mul, nI_add]
      refine Ok.ckT (inb_n (by omega) (by omega)) (OkwrE (Ok.ret ⟨nI_1 k, fun c hc => by rw [wr_off c hc]; exact sf c hc, fun a b ha hb => ?_⟩))
      rw [nI_cl (by omega)]
      by_cases e : a = ddn L H p ∧ b = ddn L H k
      · rw [e.1, e.2, wrs]
      · rw [wrn (by omega), jpk_n e]
        exact s1 a b ha hb
  · rintro c s' ⟨rfl, sf, s1⟩
    unfold SX12_merges_88
    rw [jpk_r] at s1
    exact Ok.ifT (by rw [nI_leP (by omega) (by omega)]; omega) (Ok.ret ⟨sf, s1⟩)
theorem m_mg3 {s n L H : Nat} {w : Nat → Nat → Nat} {t : St} (h : RN s n w t) (hs : s < 3) (hw : WF n w) (hn : n < 10) (hL : L < H) (hH : H < n) (hJ : JT (fun _ _ => 0) t) : Ok (wh (SX12_merges_78 (nI s) (nI L) (nI H) (nI n)) (0 : Int32) t) (fun _ u => (∀ c, c ≠ 161 → u c = t c) ∧ JT (mgw n w L H) u) := by
  refine Ok.count n (fun p c s' => c = nI p ∧ (∀ c, c ≠ 161 → s' c = t c) ∧ JT (jpk n w L H p 0) s') ?_ ?_ (Nat.zero_le _) ⟨rfl, fun _ _ => rfl, fun a b ha hb => by rw [jpk_0]; exact hJ a b ha hb⟩
  · rintro p c s' hp ⟨rfl, sf, s1⟩
    unfold SX12_merges_78
    refine Ok.ifF (by rw [nI_leP (by omega) (by omega)]; omega) (Ok.bd _ (m_mg2 (h.fr (sf 150 (by decide))) hs hw hn hL hH hp s1) ?_)
    rintro _ u ⟨u1, u2⟩
    exact Ok.ret ⟨nI_1 p, fun c hc => by rw [u1 c hc]; exact sf c hc, u2⟩
  · rintro c s' ⟨rfl, sf, s1⟩
    unfold SX12_merges_78
    rw [jpk_f hw hL hH] at s1
    exact Ok.ifT (by rw [nI_leP (by omega) (by omega)]; omega) (Ok.ret ⟨sf, s1⟩)
theorem m_mg4 {s n H : Nat} {o : Nat → Nat} {t : St} (hs : s < 3) (hn : n < 10) (ho : RO s n o t) (hP : PFX n n o) (hH : H < n) : Ok (wh (SX12_merges_223 (nI s) (nI H) (nI n)) ((0 : Int32), (0 : Int32)) t) (fun _ u => (∀ c, c ≠ 154 → u c = t c) ∧ MO (n - 1) (mgo n o H) u) := by
  obtain ⟨p1, p2, p3⟩ := plc_in hn hP hH
  refine Ok.count n (fun i c s' => c = (nI (flc (plc n o H) i), nI i) ∧ (∀ c, c ≠ 154 → s' c = t c) ∧ ∀ k, k < flc (plc n o H) i → s' 154 k = nI (mgo n o H k)) ?_ ?_ (Nat.zero_le _) ⟨by unfold flc; rw [if_pos (Nat.zero_le _)]; rfl, fun _ _ => rfl, fun k hk => by have := flc_n (plc n o H) 0; omega⟩
  · rintro i c s' hi ⟨rfl, sf, s1⟩
    unfold SX12_merges_223
    dsimp only
    have hf := flc_n (plc n o H) i
    have hf1 := flc_n (plc n o H) (i + 1)
    have o9 := hP.1 i hi
    have ho' : RO s n o s' := fun i hi => by rw [sf 150 (by decide)]; exact ho i hi
    refine Ok.ifF (by rw [nI_leP (by omega) (by omega)]; omega) (Ok.bq (q_at ho' hs hn hi) (Ok.bd (fun r u => r = nI (flc (plc n o H) (i + 1)) ∧ (∀ c, c ≠ 154 → u c = t c) ∧ ∀ k, k < flc (plc n o H) (i + 1) → u 154 k = nI (mgo n o H k)) ?_ ?_))
    · refine Ok.cv (nI_eqP (by omega) (by omega)) (Ok.ite (fun c => Ok.ret ?_) (fun c => ?_))
      · have := (p3 i hi).mp c
        have e : flc (plc n o H) (i + 1) = flc (plc n o H) i := by omega
        rw [e]
        exact ⟨rfl, sf, s1⟩
      · have hne : i ≠ plc n o H := fun q => c ((p3 i hi).mpr q)
        have e : flc (plc n o H) (i + 1) = flc (plc n o H) i + 1 := by omega
        have d := ddn_e (L := 0) (H := H) (p := o i) (s := s') (by omega) (by omega)
        rw [if_neg (by rw [nI_eqP (by omega) (by omega)]; exact c)] at d
        rw [d, e]
        refine Ok.bq rfl (Ok.ckT (inb_n (by omega) (by omega)) ?_)
        rw [nI_cl (by omega)]
        refine OkwrE (Ok.ret ⟨nI_1 _, fun c hc => by rw [wr_off c hc]; exact sf c hc, fun k hk => ?_⟩)
        by_cases q : k = flc (plc n o H) i
        · rw [q, wrs]
          unfold mgo ddn
          have := upn_n (plc n o H) (flc (plc n o H) i)
          rw [show upn (plc n o H) (flc (plc n o H) i) = i by omega, if_neg c]
        · rw [wrn q]
          exact s1 k (by omega)
    · rintro _ u ⟨rfl, u1, u2⟩
      exact Ok.ret ⟨by rw [nI_1], u1, u2⟩
  · rintro c s' ⟨rfl, sf, s1⟩
    unfold SX12_merges_223
    dsimp only
    have hf := flc_n (plc n o H) n
    exact Ok.ifT (by rw [nI_leP (by omega) (by omega)]; omega) (Ok.ret ⟨sf, fun k hk => s1 k (by omega)⟩)
section
variable {K K' : Nat → Nat → V4} {m m' s : Nat} {t : St}
theorem m_merges {a b : Nat} (hG : GK K m) (hs : s < 3) (hM : MST K m t) (ha : a < (K m s).1) (hb : b < (K m s).1) (hab : a ≠ b) (h0 : (K m s).2.2.1 a b ≠ 0) (hvm : GV (vmg (K m s) a b)) (hN : NXT K m s (vmg (K m s) a b) K' m') : Ok (FX12_merges (nI s) (nI a) (nI b) t) (fun r u => r = nI ((K m s).1 - 1) ∧ MST K' m' u) := by
  have hv := hG.2 m (Nat.le_refl _) s hs
  have hn : (K m s).1 < 10 := hv.1.1
  have hw := hv.1.2.1
  have hr := hM.2.1.rn hs
  have hro := hM.2.1.ro hs hv
  have h9 := hw.1 a b
  have hLH : Nat.min a b < Nat.max a b := by
    rcases (show a < b ∨ b < a by omega) with c | c
    · rw [show Nat.min a b = a from Nat.min_eq_left (by omega), show Nat.max a b = b from Nat.max_eq_right (by omega)]; exact c
    · rw [show Nat.min a b = b from Nat.min_eq_right (by omega), show Nat.max a b = a from Nat.max_eq_left (by omega)]; exact c
  have hH : Nat.max a b < (K m s).1 := Nat.max_lt.mpr ⟨ha, hb⟩
  have hne : vmg (K m s) a b ≠ K m s := fun q => by
    have : (K m s).1 - 1 = (K m s).1 := congrArg (fun v : V4 => v.1) q
    omega
  unfold FX12_merges
  refine Ok.bq (q_areTwo hs hn hr ha hb hab) (Ok.ifF (by decide) (Ok.bq (q_weight hr hs (by omega) (by omega)) (Ok.ifF (by rw [nI_q0 (by omega)]; exact h0) (Ok.bq (q_points hr hs) (Ok.bd _ m_remembers ?_)))))
  rintro _ t1 ⟨r1, r2⟩
  rw [mnI_n (by omega) (by omega), mxI_n (by omega) (by omega)]
  refine Ok.bd _ m_mg1 ?_
  rintro _ t2 ⟨f2, j2⟩
  refine Ok.bd _ (m_mg3 (hr.fr (by rw [f2 150 (by decide), r1 150 (by decide)])) hs hw hn hLH hH j2) ?_
  rintro _ t3 ⟨f3, j3⟩
  have e3 : t3 150 = t 150 := by rw [f3 150 (by decide), f2 150 (by decide), r1 150 (by decide)]
  refine Ok.bd _ (m_mg4 (o := (K m s).2.2.2) hs hn (fun i hi => by rw [e3]; exact hro i hi) hv.2.2.1 hH) ?_
  rintro _ t4 ⟨f4, o4⟩
  refine Ok.bd _ (xX12_empties hs) ?_
  rintro _ t5 e5
  have f5 : ∀ c, c ≠ 150 → t5 c = t4 c := fun c hc => by rw [e5, stp_off hc]
  have z5 : ∀ k, 91 * s ≤ k → k < 91 * s + 91 → t5 150 k = 0 := fun k k1 k2 => by rw [e5, stp_at, if_pos ⟨k1, k2⟩]
  have g5 : ∀ j, (j < 91 * s ∨ 91 * s + 91 ≤ j) → t5 150 j = t 150 j := fun j hj => by rw [e5, stp_at, if_neg (by omega), f4 150 (by decide), e3]
  clear e5
  rw [li_91, nI_mul]
  refine Ok.ckT (inb_n (by omega) (by omega)) (OkwrE ?_)
  rw [nI_cl (by omega), nI_s1 (by omega)]
  refine Ok.bd (fun _ u => (∀ c, c ≠ 150 → u c = t5 c) ∧ u 150 (91 * s) = nI ((K m s).1 - 1) ∧ (∀ k, k < 81 → u 150 (91 * s + 1 + k) = t5 161 k) ∧ ∀ j, (j < 91 * s ∨ 91 * s + 82 ≤ j) → u 150 j = t5 150 j) ?_ ?_
  · refine Ok.count 81 (fun j c u => c = nI j ∧ (∀ c, c ≠ 150 → u c = t5 c) ∧ u 150 (91 * s) = nI ((K m s).1 - 1) ∧ (∀ k, k < j → u 150 (91 * s + 1 + k) = t5 161 k) ∧ ∀ j, (j < 91 * s ∨ 91 * s + 82 ≤ j) → u 150 j = t5 150 j) ?_ ?_ (Nat.zero_le _) ⟨rfl, fun c hc => wr_off c hc, wrs, fun k hk => by omega, fun j hj => wrn (by omega)⟩
    · rintro j c u hj ⟨rfl, uf, u0, u1, u2⟩
      unfold SX12_merges_299
      refine Ok.ifF (by rw [li_81, nI_leP (by omega) (by omega)]; omega) (Ok.ckT (inb_n hj (by omega)) ?_)
      rw [nI_cl (by omega)]
      refine Ok.rdE (x := t5 161 j) (by rw [uf 161 (by decide)]) ?_
      rw [li_91, nI_mul, nI_1, nI_add]
      refine Ok.ckT (inb_n (by omega) (by omega)) ?_
      rw [nI_cl (by omega)]
      refine OkwrE (Ok.ret ⟨nI_1 j, fun c hc => by rw [wr_off c hc]; exact uf c hc, by rw [wrn (by omega)]; exact u0, fun k hk => ?_, fun i hi => by rw [wrn (by omega)]; exact u2 i hi⟩)
      by_cases e : k = j
      · subst e; rw [wrs]
      · rw [wrn (by omega)]; exact u1 k (by omega)
    · rintro c u ⟨rfl, uf, u0, u1, u2⟩
      unfold SX12_merges_299
      exact Ok.ifT (by rw [li_81, nI_leP (by omega) (by omega)]; omega) (Ok.ret ⟨uf, u0, u1, u2⟩)
  · rintro _ t6 ⟨f6, a6, b6, c6⟩
    refine Ok.bd (fun _ u => (∀ c, c ≠ 150 → u c = t5 c) ∧ (∀ i, i < (K m s).1 - 1 → u 150 (91 * s + 82 + i) = nI (mgo (K m s).1 (K m s).2.2.2 (Nat.max a b) i)) ∧ ∀ j, (j < 91 * s + 82 ∨ 91 * s + 82 + ((K m s).1 - 1) ≤ j) → u 150 j = t6 150 j) ?_ ?_
    · refine Ok.count ((K m s).1 - 1) (fun j c u => c = nI j ∧ (∀ c, c ≠ 150 → u c = t5 c) ∧ (∀ i, i < j → u 150 (91 * s + 82 + i) = nI (mgo (K m s).1 (K m s).2.2.2 (Nat.max a b) i)) ∧ ∀ j, (j < 91 * s + 82 ∨ 91 * s + 82 + ((K m s).1 - 1) ≤ j) → u 150 j = t6 150 j) ?_ ?_ (Nat.zero_le _) ⟨rfl, f6, fun i hi => by omega, fun _ _ => rfl⟩
      · rintro j c u hj ⟨rfl, uf, u1, u2⟩
        unfold SX12_merges_336
        rw [nI_s1 (by omega)]
        refine Ok.ifF (by rw [nI_leP (by omega) (by omega)]; omega) (Ok.ckT (inb_n (by omega) (by omega)) ?_)
        rw [nI_cl (by omega)]
        refine Ok.rdE (x := nI (mgo (K m s).1 (K m s).2.2.2 (Nat.max a b) j)) (by rw [uf 154 (by decide), f5 154 (by decide)]; exact o4 j hj) (Ok.bd _ (m_puts (Q := fun _ v => v = wr u 150 (91 * s + 82 + j) (nI (mgo (K m s).1 (K m s).2.2.2 (Nat.max a b) j))) hs (by omega) rfl) ?_)
        rintro _ _ rfl
        refine Ok.ret ⟨nI_1 j, fun c hc => by rw [wr_off c hc]; exact uf c hc, fun i hi => ?_, fun i hi => by rw [wrn (by omega)]; exact u2 i hi⟩
        by_cases e : i = j
        · subst e; rw [wrs]
        · rw [wrn (by omega)]; exact u1 i (by omega)
      · rintro c u ⟨rfl, uf, u1, u2⟩
        unfold SX12_merges_336
        rw [nI_s1 (by omega)]
        exact Ok.ifT (by rw [nI_leP (by omega) (by omega)]; omega) (Ok.ret ⟨uf, u1, u2⟩)
    · rintro _ t7 ⟨f7, a7, c7⟩
      have w1 : ∀ c, c ≠ 154 → c ≠ 161 → c ≠ 150 → t7 c = t1 c := fun c k1 k2 k3 => by rw [f7 c k3, f5 c k3, f4 c k1, f3 c k2, f2 c k2]
      have h150 : RA 150 0 (upA (K m) s (vmg (K m s) a b)) t7 := by
        refine hM.2.1.up hs ⟨?_, fun p q hp hq => ?_⟩ (fun i hi => ?_) hvm (fun j hj => ?_)
        · rw [c7 _ (by omega)]; exact a6
        · rw [c7 _ (by omega)]
          have := b6 (9 * p + q) (by omega)
          rw [show 91 * s + 1 + (9 * p + q) = 91 * s + 1 + 9 * p + q by omega] at this
          rw [this, f5 161 (by decide), f4 161 (by decide)]
          exact j3 p q hp hq
        · show _ = nI (if i < (K m s).1 - 1 then trm ((K m s).1 - 1) (mgo (K m s).1 (K m s).2.2.2 (Nat.max a b)) i else 0)
          by_cases c : i < (K m s).1 - 1
          · rw [if_pos c, trm_in c]; exact a7 i c
          · rw [if_neg c, c7 _ (by omega), c6 _ (by omega), z5 _ (by omega) (by omega)]
            rfl
        · rw [c7 _ (by omega), c6 _ (by omega)]; exact g5 j hj
      refine Ok.bd (fun r u => r = nI ((K m s).1 - 1) ∧ MST K' m' u) ?_ (fun _ _ hu => Ok.ret hu)
      refine (m_keeps (K := K) (m := m) (A := upA (K m) s (vmg (K m s) a b)) (a := nI ((K m s).1 - 1)) hG.1 (by rw [w1 149 (by decide) (by decide) (by decide), r1 149 (by decide)]; exact hM.1) (fun k hk' => ?_) (fun j hj => (hM.2.2 j hj).fr (fun k _ => by rw [w1 152 (by decide) (by decide) (by decide), r1 152 (by decide)]))).mono ?_
      · rw [w1 151 (by decide) (by decide) (by decide), Nat.zero_add, r2 k hk']
        have := hM.2.1 k hk'
        rw [Nat.zero_add] at this
        exact this
      · rintro r u ⟨rfl, u1, u2, u3, u4⟩
        rcases hN with ⟨q, -⟩ | ⟨-, rfl, rfl⟩
        · exact absurd q hne
        · refine ⟨rfl, u1, ?_, u2⟩
          rw [kpu_cur]
          exact h150.fr (fun k _ => by rw [u3 150 (by decide) (by decide)])
theorem m_merges0 {a b : Nat} (hG : GK K m) (hs : s < 3) (hM : MST K m t) (ha : a < (K m s).1) (hb : b < (K m s).1) (hab : a ≠ b) (h0 : (K m s).2.2.1 a b = 0) : FX12_merges (nI s) (nI a) (nI b) t = some (-6, t) := by
  have hv := hG.2 m (Nat.le_refl _) s hs
  have hn : (K m s).1 < 10 := hv.1.1
  have hr := hM.2.1.rn hs
  refine Ok.eq ?_
  unfold FX12_merges
  exact Ok.bq (q_areTwo hs hn hr ha hb hab) (Ok.ifF (by decide) (Ok.bq (q_weight hr hs (by omega) (by omega)) (Ok.ifT (by rw [h0]; rfl) (Ok.ret ⟨rfl, rfl⟩))))
end
end
section
/-! what is told: pure -/
def gt : List Nat → Nat → Nat
  | [], _ => 0
  | a :: _, 0 => a
  | _ :: l, i + 1 => gt l i
theorem gt_s {b : Nat} : ∀ (l : List Nat) (i : Nat), gt (l ++ [b]) i = if i < l.length then gt l i else if i = l.length then b else 0
  | [], 0 => rfl
  | [], i + 1 => by
    show (0 : Nat) = if i + 1 < 0 then 0 else if i + 1 = 0 then b else 0
    rw [if_neg (c := i + 1 < 0) (by omega), if_neg (c := i + 1 = 0) (by omega)]
  | a :: l, 0 => by
    show a = if 0 < l.length + 1 then a else if 0 = l.length + 1 then b else 0
    rw [if_pos (c := 0 < l.length + 1) (by omega)]
  | a :: l, i + 1 => by
    show gt (l ++ [b]) i = if i + 1 < l.length + 1 then gt l i else if i + 1 = l.length + 1 then b else 0
    rw [gt_s l i]
    by_cases c : i < l.length
    · rw [if_pos c, if_pos (c := i + 1 < l.length + 1) (by omega)]
    · rw [if_neg c, if_neg (c := i + 1 < l.length + 1) (by omega)]
      by_cases c2 : i = l.length
      · rw [if_pos c2, if_pos (c := i + 1 = l.length + 1) (by omega)]
      · rw [if_neg c2, if_neg (c := i + 1 = l.length + 1) (by omega)]
theorem len_s {l : List Nat} {b : Nat} : (l ++ [b]).length = l.length + 1 := List.length_append
def nd (v : Nat) : List Nat := if v < 10 then [48 + v] else if v < 100 then [48 + v / 10, 48 + v % 10] else [48 + v / 100, 48 + v / 10 % 10, 48 + v % 10]
theorem nd_1 {v : Nat} (h : v < 10) : nd v = [48 + v] := if_pos h
theorem nd_len {v : Nat} : (nd v).length ≤ 3 := by
  unfold nd
  split
  · exact (by decide : 1 ≤ 3)
  · split
    · exact (by decide : 2 ≤ 3)
    · exact Nat.le_refl 3
def lnx (C : List Nat) (sep a b w : Nat) : List Nat := if w = 1 then (((C ++ [sep]) ++ nd a) ++ [45]) ++ nd b else (((((C ++ [sep]) ++ nd a) ++ [45]) ++ nd b) ++ [61]) ++ nd w
theorem lnx_len {C : List Nat} {sep a b w : Nat} (ha : a < 10) (hb : b < 10) (hw : w < 10) : (lnx C sep a b w).length ≤ C.length + 6 := by
  unfold lnx
  rw [nd_1 ha, nd_1 hb, nd_1 hw]
  split
  · rw [len_s, len_s, len_s, len_s]; omega
  · rw [len_s, len_s, len_s, len_s, len_s, len_s]; omega
abbrev TS := List Nat × Bool
def tli (w : Nat → Nat → Nat) (a : Nat) (B : TS) : Nat → TS
  | 0 => B
  | k + 1 => if w a (a + 1 + k) = 0 then tli w a B k else (lnx (tli w a B k).1 (if (tli w a B k).2 = true then 44 else 58) a (a + 1 + k) (w a (a + 1 + k)), true)
def tlo (n : Nat) (w : Nat → Nat → Nat) (B : TS) : Nat → TS
  | 0 => B
  | i + 1 => tli w i (tlo n w B i) (n - (i + 1))
theorem tli_len {w : Nat → Nat → Nat} {a n : Nat} {B : TS} (hw : WF n w) (hn : n < 10) : ∀ {k : Nat}, a + k < n → (tli w a B k).1.length ≤ B.1.length + 6 * k
  | 0, _ => Nat.le_refl _
  | k + 1, h => by
    have ih := tli_len (a := a) (B := B) hw hn (k := k) (by omega)
    rw [tli]
    by_cases c : w a (a + 1 + k) = 0
    · rw [if_pos c]; omega
    · rw [if_neg c]
      have := lnx_len (C := (tli w a B k).1) (sep := if (tli w a B k).2 = true then 44 else 58) (a := a) (b := a + 1 + k) (w := w a (a + 1 + k)) (by omega) (by omega) (hw.1 _ _)
      show (lnx _ _ _ _ _).length ≤ _
      omega
theorem tlo_len {w : Nat → Nat → Nat} {n : Nat} {B : TS} (hw : WF n w) (hn : n < 10) : ∀ {i : Nat}, i ≤ n → (tlo n w B i).1.length ≤ B.1.length + 6 * tri i
  | 0, _ => Nat.le_refl _
  | i + 1, h => by
    have ih := tlo_len (B := B) hw hn (i := i) (by omega)
    have := tli_len (a := i) (B := tlo n w B i) hw hn (k := n - (i + 1)) (by omega)
    have e : tri (i + 1) = tri i + (8 - i) := rfl
    show (tli w i (tlo n w B i) (n - (i + 1))).1.length ≤ _
    omega
def dgs (Y : List Nat) (o : Nat → Nat) : Nat → List Nat
  | 0 => Y
  | j + 1 => dgs Y o j ++ nd (o j)
theorem dgs_len {Y : List Nat} {o : Nat → Nat} {n : Nat} (h : ∀ i, i < n → o i < 10) : ∀ {j : Nat}, j ≤ n → (dgs Y o j).length = Y.length + j
  | 0, _ => rfl
  | j + 1, hj => by
    have ih := dgs_len (Y := Y) h (j := j) (by omega)
    show (dgs Y o j ++ nd (o j)).length = _
    rw [nd_1 (h j (by omega)), len_s, ih]
    omega
def txn (n : Nat) (w : Nat → Nat → Nat) (o : Nat → Nat) : List Nat := dgs ((tlo n w ([110, 101, 116, 32] ++ nd n, false) n).1 ++ [59, 114, 111, 119, 32]) o n ++ [59]
noncomputable def ctx (n : Nat) (w : Nat → Nat → Nat) (o : Nat → Nat) : Nat → List Nat
  | 0 => []
  | k + 1 => (if k = 0 then ctx n w o k else ctx n w o k ++ [32]) ++ nd (pri n w 0 o (k + 1))
theorem ctx_len {n : Nat} {w : Nat → Nat → Nat} {o : Nat → Nat} : ∀ {k : Nat}, (ctx n w o k).length ≤ 4 * k
  | 0 => Nat.le_refl _
  | k + 1 => by
    have ih := ctx_len (n := n) (w := w) (o := o) (k := k)
    have := nd_len (v := pri n w 0 o (k + 1))
    show ((if k = 0 then ctx n w o k else ctx n w o k ++ [32]) ++ nd (pri n w 0 o (k + 1))).length ≤ _
    rw [List.length_append]
    by_cases c : k = 0
    · rw [if_pos c]; omega
    · rw [if_neg c, len_s]; omega
noncomputable def tlx (n : Nat) (w : Nat → Nat → Nat) (o : Nat → Nat) (q : Nat) : List Nat := if q = 0 then txn n w o else ctx n w o (n - 1)
/-! both hold what is told -/
def OC (l : List Nat) (t : St) : Prop := t 3 1 = nI l.length ∧ ∀ i, i < l.length → t 4 i &&& 255 = nI (gt l i)
def OMm (l : List Nat) (t : St) : Prop := t 149 25 = nI l.length ∧ ∀ i, i < l.length → t 162 i = nI (gt l i)
def TF (t u : St) : Prop := ∀ c, c ≠ 3 → c ≠ 4 → u c = t c
theorem TF.rf {t : St} : TF t t := fun _ _ _ => rfl
theorem TF.tr {t u v : St} (h : TF t u) (g : TF u v) : TF t v := fun c k1 k2 => (g c k1 k2).trans (h c k1 k2)
theorem TF.cn {t u : St} (h : TF t u) {x n l : Nat} {w : Nat → Nat → Nat} (g : CN x n l w t) (hx : 5 < x) : CN x n l w u := g.fr (h _ (by omega) (by omega)) (h _ (by omega) (by omega)) (h _ (by omega) (by omega))
theorem TF.co {t u : St} (h : TF t u) {x n : Nat} {o : Nat → Nat} (g : CO x n o t) (hx : 5 < x) : CO x n o u := fun i hi => by rw [h _ (by omega) (by omega)]; exact g i hi
def MF (t u : St) : Prop := (∀ c, c ≠ 149 → c ≠ 162 → u c = t c) ∧ ∀ i, i ≠ 25 → u 149 i = t 149 i
theorem MF.rf {t : St} : MF t t := ⟨fun _ _ _ => rfl, fun _ _ => rfl⟩
theorem MF.tr {t u v : St} (h : MF t u) (g : MF u v) : MF t v := ⟨fun c k1 k2 => (g.1 c k1 k2).trans (h.1 c k1 k2), fun i hi => (g.2 i hi).trans (h.2 i hi)⟩
theorem MF.rn {t u : St} (h : MF t u) {s n : Nat} {w : Nat → Nat → Nat} (g : RN s n w t) : RN s n w u := g.fr (h.1 150 (by decide) (by decide))
theorem MF.ro {t u : St} (h : MF t u) {s n : Nat} {o : Nat → Nat} (g : RO s n o t) : RO s n o u := fun i hi => by rw [h.1 150 (by decide) (by decide)]; exact g i hi
theorem by_all : ∀ b, b < 128 → nI b &&& 255 = nI b := by decide +kernel
/-! the class -/
theorem e_put {l : List Nat} {b : Nat} {t : St} (h : OC l t) (hl : l.length < 256) (hb : b < 128) : Ok (FX1_put_3 (nI b) t) (fun _ u => OC (l ++ [b]) u ∧ TF t u) := by
  unfold FX1_put_3 FX1_hasRoom_3
  refine Ok.bd (fun r u => t = u ∧ r = 1) (Ok.rdE h.1 (Ok.ifF ?_ (Ok.ret ⟨rfl, rfl⟩))) ?_
  · rw [nI_1]
    show ¬ nI 256 < nI (l.length + 1)
    rw [nI_ltP (by omega) (by omega)]
    omega
  rintro _ _ ⟨rfl, rfl⟩
  refine Ok.ifF (by decide) (Ok.rdE h.1 (Ok.ckT (inb_n hl (by omega)) ?_))
  rw [nI_cl (by omega)]
  refine OkwrE (Ok.rdE (x := nI l.length) (by rw [wrf (by decide)]; exact h.1) (OkwrE (Ok.ret ⟨⟨?_, fun i hi => ?_⟩, fun c k1 k2 => by rw [wr_off c k1, wr_off c k2]⟩)))
  · rw [wrs, nI_1, len_s]
  · rw [len_s] at hi
    rw [wrf (by decide), gt_s]
    by_cases c : i < l.length
    · rw [if_pos c, wrn (by omega)]; exact h.2 i c
    · have : i = l.length := by omega
      rw [if_neg c, if_pos this, this, wrs, b8]
      exact by_all b hb
theorem irN {a : Nat} (h : a < 2147483648) : irem (nI a) (10 : Int32) = nI (a % 10) := by
  rw [li_10]
  exact nI_remN (by omega) (by omega) (by omega)
theorem e_putNum {l : List Nat} {v : Nat} {t : St} (h : OC l t) (hl : l.length + 3 ≤ 256) (hv : v < 1000) : Ok (FX1_putNumber_3 (nI v) t) (fun _ u => OC (l ++ nd v) u ∧ TF t u) := by
  unfold FX1_putNumber_3
  rw [li_100, li_10, nI_divN (by omega) (by omega) (by omega), nI_divN (by omega) (by omega) (by omega), ← li_10, irN (by omega), irN (by omega), irN (by omega), li_48, nI_add, nI_add, nI_add, li_10]
  refine Ok.bd (fun _ u => OC (if v < 100 then l else l ++ [48 + v / 100]) u ∧ TF t u) ?_ ?_
  · refine Ok.cv (nI_ltP (by omega) (by omega)) (Ok.ite (fun c => Ok.ret ⟨by rw [if_pos c]; exact h, TF.rf⟩) (fun c => ?_))
    rw [if_neg c]
    refine Ok.bd _ (e_put (b := 48 + v / 100 % 10) h (by omega) (by omega)) ?_
    rintro _ u ⟨u1, u2⟩
    rw [show v / 100 % 10 = v / 100 by omega] at u1
    exact Ok.ret ⟨u1, u2⟩
  rintro _ t1 ⟨h1, f1⟩
  have l1 : (if v < 100 then l else l ++ [48 + v / 100]).length ≤ l.length + 1 := by
    split
    · omega
    · rw [len_s]; omega
  refine Ok.bd (fun _ u => OC (if v < 10 then l else (if v < 100 then l else l ++ [48 + v / 100]) ++ [48 + v / 10 % 10]) u ∧ TF t u) ?_ ?_
  · refine Ok.cv (nI_ltP (by omega) (by omega)) (Ok.ite (fun c => Ok.ret ⟨?_, f1⟩) (fun c => ?_))
    · rw [if_pos c]
      rw [if_pos (by omega)] at h1
      exact h1
    · rw [if_neg c]
      refine Ok.bd _ (e_put (b := 48 + v / 10 % 10) h1 (by omega) (by omega)) ?_
      rintro _ u ⟨u1, u2⟩
      exact Ok.ret ⟨u1, f1.tr u2⟩
  rintro _ t2 ⟨h2, f2⟩
  have l2 : (if v < 10 then l else (if v < 100 then l else l ++ [48 + v / 100]) ++ [48 + v / 10 % 10]).length ≤ l.length + 2 := by
    by_cases c : v < 10
    · rw [if_pos c]; omega
    · rw [if_neg c, len_s]; omega
  refine Ok.bd _ (e_put (b := 48 + v % 10) h2 (by omega) (by omega)) ?_
  rintro _ u ⟨u1, u2⟩
  refine Ok.ret ⟨?_, f2.tr u2⟩
  have e : l ++ nd v = (if v < 10 then l else (if v < 100 then l else l ++ [48 + v / 100]) ++ [48 + v / 10 % 10]) ++ [48 + v % 10] := by
    unfold nd
    by_cases c : v < 10
    · rw [if_pos c, if_pos c, show v % 10 = v by omega]
    · rw [if_neg c, if_neg c]
      by_cases c2 : v < 100
      · rw [if_pos c2, if_pos c2, show v / 10 % 10 = v / 10 by omega, List.append_assoc]
        rfl
      · rw [if_neg c2, if_neg c2, List.append_assoc, List.append_assoc]
        rfl
  rw [e]
  exact u1
theorem e_txt_s2 {l : List Nat} {t : St} (h : OC l t) (hl : l.length + 4 ≤ 256) : Ok (FX1_putText_3_s2 t) (fun _ u => OC (l ++ [110, 101, 116, 32]) u ∧ TF t u) := by
  unfold FX1_putText_3_s2
  refine Ok.bd (fun _ u => OC (l ++ [110, 101, 116, 32]) u ∧ TF t u) ?_ (fun _ _ hu => Ok.ret hu)
  refine Ok.count 4 (fun j c s => c = nI j ∧ OC (l ++ List.take j [110, 101, 116, 32]) s ∧ TF t s) ?_ ?_ (Nat.zero_le _) ⟨rfl, by rw [List.take_zero, List.append_nil]; exact h, TF.rf⟩
  · rintro j c s hj ⟨rfl, s1, s2⟩
    unfold SX1_putText_3_s2_2
    refine Ok.ifF (by rw [li_4, nI_leP (by omega) (by omega)]; omega) (Ok.ckT (inb_n hj (by omega)) ?_)
    rcases (show j = 0 ∨ j = 1 ∨ j = 2 ∨ j = 3 by omega) with rfl | rfl | rfl | rfl
    · rw [show chr [110, 101, 116, 32] (nI 0) = nI 110 from rfl]
      refine Ok.bd _ (e_put (b := 110) s1 (by rw [List.length_append]; show l.length + 0 < 256; omega) (by omega)) ?_
      rintro _ u ⟨u1, u2⟩
      rw [List.append_assoc] at u1
      exact Ok.ret ⟨nI_1 0, u1, s2.tr u2⟩
    · rw [show chr [110, 101, 116, 32] (nI 1) = nI 101 from rfl]
      refine Ok.bd _ (e_put (b := 101) s1 (by rw [List.length_append]; show l.length + 1 < 256; omega) (by omega)) ?_
      rintro _ u ⟨u1, u2⟩
      rw [List.append_assoc] at u1
      exact Ok.ret ⟨nI_1 1, u1, s2.tr u2⟩
    · rw [show chr [110, 101, 116, 32] (nI 2) = nI 116 from rfl]
      refine Ok.bd _ (e_put (b := 116) s1 (by rw [List.length_append]; show l.length + 2 < 256; omega) (by omega)) ?_
      rintro _ u ⟨u1, u2⟩
      rw [List.append_assoc] at u1
      exact Ok.ret ⟨nI_1 2, u1, s2.tr u2⟩
    · rw [show chr [110, 101, 116, 32] (nI 3) = nI 32 from rfl]
      refine Ok.bd _ (e_put (b := 32) s1 (by rw [List.length_append]; show l.length + 3 < 256; omega) (by omega)) ?_
      rintro _ u ⟨u1, u2⟩
      rw [List.append_assoc] at u1
      exact Ok.ret ⟨nI_1 3, u1, s2.tr u2⟩
  · rintro c s ⟨rfl, s1, s2⟩
    unfold SX1_putText_3_s2_2
    exact Ok.ifT (by rw [li_4, nI_leP (by omega) (by omega)]; omega) (Ok.ret ⟨s1, s2⟩)
theorem e_txt_s3 {l : List Nat} {t : St} (h : OC l t) (hl : l.length + 4 ≤ 256) : Ok (FX1_putText_3_s3 t) (fun _ u => OC (l ++ [114, 111, 119, 32]) u ∧ TF t u) := by
  unfold FX1_putText_3_s3
  refine Ok.bd (fun _ u => OC (l ++ [114, 111, 119, 32]) u ∧ TF t u) ?_ (fun _ _ hu => Ok.ret hu)
  refine Ok.count 4 (fun j c s => c = nI j ∧ OC (l ++ List.take j [114, 111, 119, 32]) s ∧ TF t s) ?_ ?_ (Nat.zero_le _) ⟨rfl, by rw [List.take_zero, List.append_nil]; exact h, TF.rf⟩
  · rintro j c s hj ⟨rfl, s1, s2⟩
    unfold SX1_putText_3_s3_2
    refine Ok.ifF (by rw [li_4, nI_leP (by omega) (by omega)]; omega) (Ok.ckT (inb_n hj (by omega)) ?_)
    rcases (show j = 0 ∨ j = 1 ∨ j = 2 ∨ j = 3 by omega) with rfl | rfl | rfl | rfl
    · rw [show chr [114, 111, 119, 32] (nI 0) = nI 114 from rfl]
      refine Ok.bd _ (e_put (b := 114) s1 (by rw [List.length_append]; show l.length + 0 < 256; omega) (by omega)) ?_
      rintro _ u ⟨u1, u2⟩
      rw [List.append_assoc] at u1
      exact Ok.ret ⟨nI_1 0, u1, s2.tr u2⟩
    · rw [show chr [114, 111, 119, 32] (nI 1) = nI 111 from rfl]
      refine Ok.bd _ (e_put (b := 111) s1 (by rw [List.length_append]; show l.length + 1 < 256; omega) (by omega)) ?_
      rintro _ u ⟨u1, u2⟩
      rw [List.append_assoc] at u1
      exact Ok.ret ⟨nI_1 1, u1, s2.tr u2⟩
    · rw [show chr [114, 111, 119, 32] (nI 2) = nI 119 from rfl]
      refine Ok.bd _ (e_put (b := 119) s1 (by rw [List.length_append]; show l.length + 2 < 256; omega) (by omega)) ?_
      rintro _ u ⟨u1, u2⟩
      rw [List.append_assoc] at u1
      exact Ok.ret ⟨nI_1 2, u1, s2.tr u2⟩
    · rw [show chr [114, 111, 119, 32] (nI 3) = nI 32 from rfl]
      refine Ok.bd _ (e_put (b := 32) s1 (by rw [List.length_append]; show l.length + 3 < 256; omega) (by omega)) ?_
      rintro _ u ⟨u1, u2⟩
      rw [List.append_assoc] at u1
      exact Ok.ret ⟨nI_1 3, u1, s2.tr u2⟩
  · rintro c s ⟨rfl, s1, s2⟩
    unfold SX1_putText_3_s3_2
    exact Ok.ifT (by rw [li_4, nI_leP (by omega) (by omega)]; omega) (Ok.ret ⟨s1, s2⟩)
theorem e_tellLine {l : List Nat} {a b v : Nat} {t : St} (h : OC l t) (ha : a < 10) (hb : b < 10) (hv : v < 10) (hl : l.length + 12 ≤ 256) : Ok (FX11_tellLine (nI a) (nI b) (nI v) t) (fun _ u => OC (if v = 1 then ((l ++ nd a) ++ [45]) ++ nd b else ((((l ++ nd a) ++ [45]) ++ nd b) ++ [61]) ++ nd v) u ∧ TF t u) := by
  have la : (l ++ nd a).length = l.length + 1 := by rw [nd_1 ha]; exact len_s
  unfold FX11_tellLine
  refine Ok.bd _ (e_putNum h (by omega) (by omega)) ?_
  rintro _ t1 ⟨h1, f1⟩
  refine Ok.bd _ (e_put (b := 45) h1 (by omega) (by omega)) ?_
  rintro _ t2 ⟨h2, f2⟩
  have l2 : ((l ++ nd a) ++ [45]).length = l.length + 2 := by rw [len_s, la]
  refine Ok.bd _ (e_putNum h2 (by omega) (by omega)) ?_
  rintro _ t3 ⟨h3, f3⟩
  have l3 : (((l ++ nd a) ++ [45]) ++ nd b).length = l.length + 3 := by
    rw [nd_1 hb, len_s, l2]
  have f13 := (f1.tr f2).tr f3
  refine Ok.cv (nI_eqP (b := 1) (by omega) (by omega)) (Ok.ite (fun c => Ok.ret ⟨by rw [if_pos c]; exact h3, f13⟩) (fun c => ?_))
  rw [if_neg c]
  refine Ok.bd _ (e_put (b := 61) h3 (by omega) (by omega)) ?_
  rintro _ t4 ⟨h4, f4⟩
  refine Ok.bd _ (e_putNum h4 (by rw [len_s, l3]; omega) (by omega)) ?_
  rintro _ t5 ⟨h5, f5⟩
  exact Ok.ret ⟨h5, (f13.tr f4).tr f5⟩
def sepI (b : Bool) : Nat := if b = true then 44 else 58
theorem e_tellIn {x n l a : Nat} {w : Nat → Nat → Nat} {B : TS} {t : St} (h : CN x n l w t) (g : netAt x = true) (hw : WF n w) (hn : n < 10) (ha : a < n) (hO : OC B.1 t) (hl : B.1.length + 6 * (n - (a + 1)) + 12 ≤ 256) : Ok (wh (SX11_tellNet_39 x (nI a)) (nI (sepI B.2), nI (a + 1)) t) (fun r u => r = nI (sepI (tli w a B (n - (a + 1))).2) ∧ OC (tli w a B (n - (a + 1))).1 u ∧ TF t u) := by
  have hx := (net_q g).1
  refine Ok.count (n - (a + 1)) (fun k c s => c = (nI (sepI (tli w a B k).2), nI (a + 1 + k)) ∧ OC (tli w a B k).1 s ∧ TF t s) ?_ ?_ (Nat.zero_le _) ⟨rfl, hO, TF.rf⟩
  · rintro k c s hk ⟨rfl, s1, s2⟩
    unfold SX11_tellNet_39
    dsimp only
    have hs := s2.cn h hx
    have w9 := hw.1 a (a + 1 + k)
    have tl := tli_len (a := a) (B := B) hw hn (k := k) (by omega)
    refine Ok.rdE hs.1 (Ok.ifF (by rw [nI_leP (by omega) (by omega)]; omega) (Ok.bq (q_weightOf hs g (by omega) (by omega)) (Ok.bd (fun r u => r = nI (sepI (tli w a B (k + 1)).2) ∧ OC (tli w a B (k + 1)).1 u ∧ TF t u) ?_ ?_)))
    · rw [tli]
      refine Ok.cv (nI_leP (b := 0) (by omega) (by omega)) (Ok.ite (fun c => Ok.ret ?_) (fun c => ?_))
      · rw [if_pos (by omega)]
        exact ⟨rfl, s1, s2⟩
      · rw [if_neg (c := w a (a + 1 + k) = 0) (by omega)]
        refine Ok.bd _ (e_put (b := sepI (tli w a B k).2) s1 (by omega) (by unfold sepI; split <;> omega)) ?_
        rintro _ t1 ⟨h1, f1⟩
        refine Ok.bd _ (e_tellLine h1 (a := a) (b := a + 1 + k) (v := w a (a + 1 + k)) (by omega) (by omega) w9 (by rw [len_s]; omega)) ?_
        rintro _ t2 ⟨h2, f2⟩
        refine Ok.ret ⟨rfl, ?_, (s2.tr f1).tr f2⟩
        exact h2
    · rintro _ u ⟨rfl, u1, u2⟩
      exact Ok.ret ⟨by rw [nI_1]; rfl, u1, u2⟩
  · rintro c s ⟨rfl, s1, s2⟩
    unfold SX11_tellNet_39
    dsimp only
    exact Ok.rdE (s2.cn h hx).1 (Ok.ifT (by rw [nI_leP (by omega) (by omega)]; omega) (Ok.ret ⟨rfl, s1, s2⟩))
theorem e_tellNet {x n l : Nat} {w : Nat → Nat → Nat} {t : St} (h : CN x n l w t) (g : netAt x = true) (hw : WF n w) (hn : n < 10) (hO : OC [] t) : Ok (FX11_tellNet x t) (fun _ u => OC ((tlo n w ([110, 101, 116, 32] ++ nd n, false) n).1 ++ [59]) u ∧ TF t u) := by
  have hx := (net_q g).1
  unfold FX11_tellNet
  refine Ok.ckT g (Ok.bd _ (e_txt_s2 hO (by decide)) ?_)
  rintro _ t1 ⟨h1, f1⟩
  rw [List.nil_append] at h1
  refine Ok.rdE (f1.cn h hx).1 (Ok.bd _ (e_putNum h1 (by decide) (by omega)) ?_)
  rintro _ t2 ⟨h2, f2⟩
  have l2 : ([110, 101, 116, 32] ++ nd n).length = 5 := by rw [nd_1 hn]; rfl
  refine Ok.bd (fun _ u => OC (tlo n w ([110, 101, 116, 32] ++ nd n, false) n).1 u ∧ TF t u) ?_ ?_
  · refine Ok.count n (fun i c s => c = (nI (sepI (tlo n w ([110, 101, 116, 32] ++ nd n, false) i).2), nI i) ∧ OC (tlo n w ([110, 101, 116, 32] ++ nd n, false) i).1 s ∧ TF t s) ?_ ?_ (Nat.zero_le _) ⟨rfl, h2, f1.tr f2⟩
    · rintro i c s hi ⟨rfl, s1, s2⟩
      unfold SX11_tellNet_26
      dsimp only
      have hs := s2.cn h hx
      have tl := tlo_len (B := ([110, 101, 116, 32] ++ nd n, false)) hw hn (i := i) (by omega)
      have tr : tri i + (8 - i) ≤ 36 := tri_le (by omega)
      refine Ok.rdE hs.1 (Ok.ifF (by rw [nI_leP (by omega) (by omega)]; omega) ?_)
      rw [nI_1]
      refine Ok.bd _ (e_tellIn (B := tlo n w ([110, 101, 116, 32] ++ nd n, false) i) hs g hw hn hi s1 (by dsimp only at tl; omega)) ?_
      rintro _ u ⟨rfl, u1, u2⟩
      exact Ok.ret ⟨rfl, u1, s2.tr u2⟩
    · rintro c s ⟨rfl, s1, s2⟩
      unfold SX11_tellNet_26
      dsimp only
      exact Ok.rdE (s2.cn h hx).1 (Ok.ifT (by rw [nI_leP (by omega) (by omega)]; omega) (Ok.ret ⟨s1, s2⟩))
  · rintro _ t3 ⟨h3, f3⟩
    have tl := tlo_len (B := ([110, 101, 116, 32] ++ nd n, false)) hw hn (i := n) (Nat.le_refl _)
    have tr : tri n ≤ 36 := tri_9 (by omega)
    refine Ok.bd _ (e_put (b := 59) h3 (by dsimp only at tl; omega) (by omega)) ?_
    rintro _ u ⟨u1, u2⟩
    exact Ok.ret ⟨u1, f3.tr u2⟩
theorem e_tellRow {x n l : Nat} {w : Nat → Nat → Nat} {o : Nat → Nat} {X : List Nat} {t : St} (h : CN x n l w t) (g : netAt x = true) (hn : n < 10) (ho : CO x n o t) (h9 : ∀ i, i < n → o i < 9) (hO : OC X t) (hX : X.length ≤ 230) : Ok (FX11_tellRow x t) (fun _ u => OC (dgs (X ++ [114, 111, 119, 32]) o n ++ [59]) u ∧ TF t u) := by
  have hx := (net_q g).1
  unfold FX11_tellRow
  refine Ok.ckT g (Ok.bd _ (e_txt_s3 hO (by omega)) ?_)
  rintro _ t1 ⟨h1, f1⟩
  have l1 : (X ++ [114, 111, 119, 32]).length = X.length + 4 := List.length_append
  have dl : ∀ j, j ≤ n → (dgs (X ++ [114, 111, 119, 32]) o j).length = X.length + 4 + j := fun j hj => by
    rw [dgs_len (n := n) (fun i hi => by have := h9 i hi; omega) hj, l1]
  refine Ok.bd (fun _ u => OC (dgs (X ++ [114, 111, 119, 32]) o n) u ∧ TF t u) ?_ ?_
  · refine Ok.count n (fun j c s => c = nI j ∧ OC (dgs (X ++ [114, 111, 119, 32]) o j) s ∧ TF t s) ?_ ?_ (Nat.zero_le _) ⟨rfl, h1, f1⟩
    · rintro j c s hj ⟨rfl, s1, s2⟩
      unfold SX11_tellRow_12
      have hs := s2.cn h hx
      have hdl := dl j (by omega)
      have oj := h9 j hj
      refine Ok.rdE hs.1 (Ok.ifF (by rw [nI_leP (by omega) (by omega)]; omega) (Ok.ckT (inb_n (by omega) (by omega)) ?_))
      rw [nI_cl (by omega)]
      refine Ok.rdE (s2.co ho hx j hj) (Ok.bd _ (e_putNum s1 (by omega) (by omega)) ?_)
      rintro _ u ⟨u1, u2⟩
      exact Ok.ret ⟨nI_1 j, u1, s2.tr u2⟩
    · rintro c s ⟨rfl, s1, s2⟩
      unfold SX11_tellRow_12
      exact Ok.rdE (s2.cn h hx).1 (Ok.ifT (by rw [nI_leP (by omega) (by omega)]; omega) (Ok.ret ⟨s1, s2⟩))
  · rintro _ t3 ⟨h3, f3⟩
    have := dl n (Nat.le_refl _)
    refine Ok.bd _ (e_put (b := 59) h3 (by omega) (by omega)) ?_
    rintro _ u ⟨u1, u2⟩
    exact Ok.ret ⟨u1, f3.tr u2⟩
theorem pri_le {n m i : Nat} {w : Nat → Nat → Nat} {o : Nat → Nat} (hw : WF n w) (hn : n < 10) : pri n w m o i ≤ 729 := prc_le hw hn
theorem e_tellCuts {x n l : Nat} {w : Nat → Nat → Nat} {o : Nat → Nat} {t : St} (h : CN x n l w t) (g : netAt x = true) (hw : WF n w) (hn : n < 10) (h1 : 1 ≤ n) (ho : CO x n o t) (h9 : ∀ i, i < n → o i < 9) (hO : OC [] t) : Ok (FX11_tellCuts x t) (fun _ u => OC (ctx n w o (n - 1)) u ∧ TF t u) := by
  have hx := (net_q g).1
  unfold FX11_tellCuts
  refine Ok.ckT g (Ok.bd (fun _ u => OC (ctx n w o (n - 1)) u ∧ TF t u) ?_ (fun _ _ hu => Ok.ret hu))
  refine Ok.count (n - 1) (fun k c s => c = nI (k + 1) ∧ OC (ctx n w o k) s ∧ TF t s) ?_ ?_ (Nat.zero_le _) ⟨rfl, hO, TF.rf⟩
  · rintro k c s hk ⟨rfl, s1, s2⟩
    unfold SX11_tellCuts_2
    have hs := s2.cn h hx
    have cl := ctx_len (n := n) (w := w) (o := o) (k := k)
    refine Ok.rdE hs.1 (Ok.ifF (by rw [nI_leP (by omega) (by omega)]; omega) (Ok.bd (fun _ u => OC (if k = 0 then ctx n w o k else ctx n w o k ++ [32]) u ∧ TF t u) ?_ ?_))
    · refine Ok.cv (nI_leP (b := 1) (by omega) (by omega)) (Ok.ite (fun c => Ok.ret ⟨by rw [if_pos (by omega)]; exact s1, s2⟩) (fun c => ?_))
      rw [if_neg (c := k = 0) (by omega)]
      refine Ok.bd _ (e_put (b := 32) s1 (by omega) (by omega)) ?_
      rintro _ u ⟨u1, u2⟩
      exact Ok.ret ⟨u1, s2.tr u2⟩
    · rintro _ t1 ⟨g1, f1⟩
      have pl := pri_le (m := 0) (i := k + 1) (o := o) hw hn
      have ll : (if k = 0 then ctx n w o k else ctx n w o k ++ [32]).length ≤ 4 * k + 1 := by
        split
        · omega
        · rw [len_s]; omega
      refine Ok.bq (q_atPlace (m := 0) (i := k + 1) (f1.cn h hx) g hw hn (f1.co ho hx) h9 (by omega) (by omega)) (Ok.bd _ (e_putNum g1 (by omega) (by omega)) ?_)
      rintro _ u ⟨u1, u2⟩
      exact Ok.ret ⟨nI_1 (k + 1), u1, f1.tr u2⟩
  · rintro c s ⟨rfl, s1, s2⟩
    unfold SX11_tellCuts_2
    exact Ok.rdE (s2.cn h hx).1 (Ok.ifT (by rw [nI_leP (by omega) (by omega)]; omega) (Ok.ret ⟨s1, s2⟩))
theorem c_tell {s n l q : Nat} {w : Nat → Nat → Nat} {o : Nat → Nat} {t : St} (hs : s < 3) (h : CN (12 + 24 * s) n l w t) (hw : WF n w) (hn : n < 10) (h1 : 1 ≤ n) (ho : CO (12 + 24 * s) n o t) (h9 : ∀ i, i < n → o i < 9) (hq : q < 2) : Ok (FX11_tell (nI s) (nI q) t) (fun r u => r = nI (tlx n w o q).length ∧ OC (tlx n w o q) u ∧ TF t u) := by
  have g := n_sl hs
  have hx := (net_q g).1
  unfold FX11_tell
  refine Ok.bq (g_netIn hs hn h.1) ?_
  rw [if_neg (c := n = 0) (by omega)]
  refine Ok.ckT g (Ok.ifF (by rw [li_0, nI_ltP (by omega) (by omega)]; omega) (Ok.ifT (by rw [li_1, nI_leP (by omega) (by omega)]; omega) (OkwrE ?_)))
  have f0 : TF t (wr t 3 1 0) := fun c k1 k2 => wr_off c k1
  have O0 : OC [] (wr t 3 1 0) := ⟨wrs, fun i hi => absurd hi (Nat.not_lt_zero i)⟩
  generalize wr t 3 1 0 = y at f0 O0 ⊢
  refine Ok.bd (fun _ u => OC (tlx n w o q) u ∧ TF t u) ?_ ?_
  · unfold tlx
    refine Ok.cv (nI_eqP (b := 0) (by omega) (by omega)) (Ok.ite (fun c => ?_) (fun c => ?_))
    · rw [if_pos c]
      refine Ok.bd _ (e_tellNet (f0.cn h hx) g hw hn O0) ?_
      rintro _ t1 ⟨h1, f1⟩
      have tl := tlo_len (B := ([110, 101, 116, 32] ++ nd n, false)) hw hn (i := n) (Nat.le_refl _)
      have tr : tri n ≤ 36 := tri_9 (by omega)
      have l2 : ([110, 101, 116, 32] ++ nd n).length = 5 := by rw [nd_1 hn]; rfl
      have f01 := f0.tr f1
      refine Ok.bd _ (e_tellRow (f01.cn h hx) g hn (f01.co ho hx) h9 h1 (by rw [len_s]; dsimp only at tl; omega)) ?_
      rintro _ u ⟨u1, u2⟩
      rw [List.append_assoc] at u1
      exact Ok.ret ⟨u1, f01.tr u2⟩
    · rw [if_neg c]
      refine Ok.bd _ (e_tellCuts (f0.cn h hx) g hw hn h1 (f0.co ho hx) h9 O0) ?_
      rintro _ u ⟨u1, u2⟩
      exact Ok.ret ⟨u1, f0.tr u2⟩
  · rintro _ u ⟨u1, u2⟩
    exact Ok.rdE u1.1 (Ok.ret ⟨rfl, u1, u2⟩)
end
section
/-! what is told: the reference -/
theorem OMm.s {l : List Nat} {b : Nat} {t : St} (h : OMm l t) : OMm (l ++ [b]) (wr (wr t 162 l.length (nI b)) 149 25 (nI (l.length + 1))) := by
  refine ⟨by rw [wrs, len_s], fun i hi => ?_⟩
  rw [len_s] at hi
  rw [wrf (by decide), gt_s]
  by_cases c : i < l.length
  · rw [if_pos c, wrn (by omega)]; exact h.2 i c
  · have : i = l.length := by omega
    rw [if_neg c, if_pos this, this, wrs]
theorem MF.w {t : St} {k : Nat} {v v2 : Int32} : MF t (wr (wr t 162 k v) 149 25 v2) := ⟨fun c k1 k2 => by rw [wr_off c k1, wr_off c k2], fun i hi => by rw [wrn hi, wrf (by decide)]⟩
theorem m_numb {rec : Int32 → St → Option (Unit × St)} {l pre : List Nat} {v : Nat} {t : St} (h : OMm l t) (hv : v < 1000) (hl : l.length + pre.length < 400) (h0 : v ≤ 9 → pre = []) (h1 : ¬ v ≤ 9 → Ok (rec (nI (v / 10)) t) (fun _ u => OMm (l ++ pre) u ∧ MF t u)) : Ok (FX12_saysNumber_b rec (nI v) t) (fun _ u => OMm (l ++ (pre ++ [48 + v % 10])) u ∧ MF t u) := by
  unfold FX12_saysNumber_b
  refine Ok.bd (fun _ u => OMm (l ++ pre) u ∧ MF t u) ?_ ?_
  · refine Ok.cv (nI_leP (b := 9) (by omega) (by omega)) (Ok.ite (fun c => Ok.ret ?_) (fun c => ?_))
    · rw [h0 c, List.append_nil]; exact ⟨h, MF.rf⟩
    · rw [li_10, nI_divN (by omega) (by omega) (by omega)]
      refine Ok.bd _ (h1 c) ?_
      rintro _ u hu
      exact Ok.ret hu
  · rintro _ t1 ⟨g1, f1⟩
    have e : (l ++ pre).length < 400 := by rw [List.length_append]; exact hl
    rw [irN (by omega), li_48, nI_add]
    refine Ok.rdE g1.1 (Ok.ckT (inb_n e (by omega)) ?_)
    rw [nI_cl (by omega)]
    refine OkwrE (Ok.rdE (x := nI (l ++ pre).length) (by rw [wrf (by decide)]; exact g1.1) ?_)
    rw [nI_1]
    refine OkwrE (Ok.ret ⟨?_, f1.tr MF.w⟩)
    rw [← List.append_assoc]
    exact g1.s
theorem m_num1 {d v : Nat} {l : List Nat} {t : St} (h : OMm l t) (hv : v < 10) (hl : l.length < 400) : Ok (FX12_saysNumber (d + 1) (nI v) t) (fun _ u => OMm (l ++ nd v) u ∧ MF t u) := by
  have := m_numb (rec := FX12_saysNumber d) (pre := []) (v := v) h (by omega) (by exact hl) (fun _ => rfl) (fun q => absurd (by omega) q)
  rw [show v % 10 = v by omega] at this
  rw [nd_1 hv]
  exact this
theorem m_num2 {d v : Nat} {l : List Nat} {t : St} (h : OMm l t) (hv : v < 100) (hl : l.length + 1 < 400) : Ok (FX12_saysNumber (d + 2) (nI v) t) (fun _ u => OMm (l ++ nd v) u ∧ MF t u) := by
  by_cases c : v < 10
  · exact m_num1 (d := d + 1) h c (by omega)
  · have e : nd v = nd (v / 10) ++ [48 + v % 10] := by
      rw [nd_1 (v := v / 10) (by omega)]
      unfold nd
      rw [if_neg c, if_pos hv]
      rfl
    rw [e]
    exact m_numb (rec := FX12_saysNumber (d + 1)) (pre := nd (v / 10)) h (by omega) (by rw [nd_1 (v := v / 10) (by omega)]; exact hl) (fun q => absurd q (by omega)) (fun _ => m_num1 h (by omega) (by omega))
theorem m_num {v : Nat} {l : List Nat} {t : St} (h : OMm l t) (hv : v < 1000) (hl : l.length + 3 ≤ 400) : Ok (FX12_saysNumber 4 (nI v) t) (fun _ u => OMm (l ++ nd v) u ∧ MF t u) := by
  by_cases c : v < 100
  · exact m_num2 (d := 2) h c (by omega)
  · have n2 : nd (v / 10) = [48 + v / 10 / 10, 48 + v / 10 % 10] := by
      unfold nd
      rw [if_neg (by omega), if_pos (by omega)]
    have e : nd v = nd (v / 10) ++ [48 + v % 10] := by
      rw [n2]
      unfold nd
      rw [if_neg (by omega), if_neg c, show v / 10 / 10 = v / 100 by omega]
      rfl
    rw [e]
    exact m_numb (rec := FX12_saysNumber 3) (pre := nd (v / 10)) h (by omega) (by rw [n2]; show l.length + 2 < 400; omega) (fun q => absurd q (by omega)) (fun _ => m_num2 (d := 1) h (by omega) (by omega))
theorem m_say_s6 {l : List Nat} {t : St} (h : OMm l t) (hl : l.length + 4 ≤ 400) : Ok (FX12_says_s6 t) (fun _ u => OMm (l ++ [110, 101, 116, 32]) u ∧ MF t u) := by
  unfold FX12_says_s6
  refine Ok.bd (fun _ u => OMm (l ++ [110, 101, 116, 32]) u ∧ MF t u) ?_ (fun _ _ hu => Ok.ret hu)
  refine Ok.count 4 (fun j c s => c = nI j ∧ OMm (l ++ List.take j [110, 101, 116, 32]) s ∧ MF t s) ?_ ?_ (Nat.zero_le _) ⟨rfl, by rw [List.take_zero, List.append_nil]; exact h, MF.rf⟩
  · rintro j c s hj ⟨rfl, s1, s2⟩
    unfold SX12_says_s6_2
    refine Ok.ifF (by rw [li_4, nI_leP (by omega) (by omega)]; omega) (Ok.rdE s1.1 (Ok.ckT (inb_n hj (by omega)) ?_))
    rcases (show j = 0 ∨ j = 1 ∨ j = 2 ∨ j = 3 by omega) with rfl | rfl | rfl | rfl
    · rw [show chr [110, 101, 116, 32] (nI 0) = nI 110 from rfl]
      have e : (l ++ List.take 0 [110, 101, 116, 32]).length < 400 := by rw [List.length_append]; show l.length + 0 < 400; omega
      refine Ok.ckT (inb_n e (by omega)) ?_
      rw [nI_cl (by omega)]
      refine OkwrE (Ok.rdE (x := nI (l ++ List.take 0 [110, 101, 116, 32]).length) (by rw [wrf (by decide)]; exact s1.1) ?_)
      rw [nI_1]
      refine OkwrE (Ok.ret ⟨nI_1 0, ?_, s2.tr MF.w⟩)
      have := s1.s (b := 110)
      rw [List.append_assoc l] at this
      exact this
    · rw [show chr [110, 101, 116, 32] (nI 1) = nI 101 from rfl]
      have e : (l ++ List.take 1 [110, 101, 116, 32]).length < 400 := by rw [List.length_append]; show l.length + 1 < 400; omega
      refine Ok.ckT (inb_n e (by omega)) ?_
      rw [nI_cl (by omega)]
      refine OkwrE (Ok.rdE (x := nI (l ++ List.take 1 [110, 101, 116, 32]).length) (by rw [wrf (by decide)]; exact s1.1) ?_)
      rw [nI_1]
      refine OkwrE (Ok.ret ⟨nI_1 1, ?_, s2.tr MF.w⟩)
      have := s1.s (b := 101)
      rw [List.append_assoc l] at this
      exact this
    · rw [show chr [110, 101, 116, 32] (nI 2) = nI 116 from rfl]
      have e : (l ++ List.take 2 [110, 101, 116, 32]).length < 400 := by rw [List.length_append]; show l.length + 2 < 400; omega
      refine Ok.ckT (inb_n e (by omega)) ?_
      rw [nI_cl (by omega)]
      refine OkwrE (Ok.rdE (x := nI (l ++ List.take 2 [110, 101, 116, 32]).length) (by rw [wrf (by decide)]; exact s1.1) ?_)
      rw [nI_1]
      refine OkwrE (Ok.ret ⟨nI_1 2, ?_, s2.tr MF.w⟩)
      have := s1.s (b := 116)
      rw [List.append_assoc l] at this
      exact this
    · rw [show chr [110, 101, 116, 32] (nI 3) = nI 32 from rfl]
      have e : (l ++ List.take 3 [110, 101, 116, 32]).length < 400 := by rw [List.length_append]; show l.length + 3 < 400; omega
      refine Ok.ckT (inb_n e (by omega)) ?_
      rw [nI_cl (by omega)]
      refine OkwrE (Ok.rdE (x := nI (l ++ List.take 3 [110, 101, 116, 32]).length) (by rw [wrf (by decide)]; exact s1.1) ?_)
      rw [nI_1]
      refine OkwrE (Ok.ret ⟨nI_1 3, ?_, s2.tr MF.w⟩)
      have := s1.s (b := 32)
      rw [List.append_assoc l] at this
      exact this
  · rintro c s ⟨rfl, s1, s2⟩
    unfold SX12_says_s6_2
    exact Ok.ifT (by rw [li_4, nI_leP (by omega) (by omega)]; omega) (Ok.ret ⟨s1, s2⟩)
theorem m_say_s7 {l : List Nat} {t : St} (h : OMm l t) (hl : l.length + 1 ≤ 400) : Ok (FX12_says_s7 t) (fun _ u => OMm (l ++ [44]) u ∧ MF t u) := by
  unfold FX12_says_s7
  refine Ok.bd (fun _ u => OMm (l ++ [44]) u ∧ MF t u) ?_ (fun _ _ hu => Ok.ret hu)
  refine Ok.count 1 (fun j c s => c = nI j ∧ OMm (l ++ List.take j [44]) s ∧ MF t s) ?_ ?_ (Nat.zero_le _) ⟨rfl, by rw [List.take_zero, List.append_nil]; exact h, MF.rf⟩
  · rintro j c s hj ⟨rfl, s1, s2⟩
    unfold SX12_says_s7_2
    refine Ok.ifF (by rw [li_1, nI_leP (by omega) (by omega)]; omega) (Ok.rdE s1.1 (Ok.ckT (inb_n hj (by omega)) ?_))
    obtain rfl : j = 0 := by omega
    · rw [show chr [44] (nI 0) = nI 44 from rfl]
      have e : (l ++ List.take 0 [44]).length < 400 := by rw [List.length_append]; show l.length + 0 < 400; omega
      refine Ok.ckT (inb_n e (by omega)) ?_
      rw [nI_cl (by omega)]
      refine OkwrE (Ok.rdE (x := nI (l ++ List.take 0 [44]).length) (by rw [wrf (by decide)]; exact s1.1) ?_)
      rw [nI_1]
      refine OkwrE (Ok.ret ⟨nI_1 0, ?_, s2.tr MF.w⟩)
      have := s1.s (b := 44)
      rw [List.append_assoc l] at this
      exact this
  · rintro c s ⟨rfl, s1, s2⟩
    unfold SX12_says_s7_2
    exact Ok.ifT (by rw [li_1, nI_leP (by omega) (by omega)]; omega) (Ok.ret ⟨s1, s2⟩)
theorem m_say_s8 {l : List Nat} {t : St} (h : OMm l t) (hl : l.length + 1 ≤ 400) : Ok (FX12_says_s8 t) (fun _ u => OMm (l ++ [58]) u ∧ MF t u) := by
  unfold FX12_says_s8
  refine Ok.bd (fun _ u => OMm (l ++ [58]) u ∧ MF t u) ?_ (fun _ _ hu => Ok.ret hu)
  refine Ok.count 1 (fun j c s => c = nI j ∧ OMm (l ++ List.take j [58]) s ∧ MF t s) ?_ ?_ (Nat.zero_le _) ⟨rfl, by rw [List.take_zero, List.append_nil]; exact h, MF.rf⟩
  · rintro j c s hj ⟨rfl, s1, s2⟩
    unfold SX12_says_s8_2
    refine Ok.ifF (by rw [li_1, nI_leP (by omega) (by omega)]; omega) (Ok.rdE s1.1 (Ok.ckT (inb_n hj (by omega)) ?_))
    obtain rfl : j = 0 := by omega
    · rw [show chr [58] (nI 0) = nI 58 from rfl]
      have e : (l ++ List.take 0 [58]).length < 400 := by rw [List.length_append]; show l.length + 0 < 400; omega
      refine Ok.ckT (inb_n e (by omega)) ?_
      rw [nI_cl (by omega)]
      refine OkwrE (Ok.rdE (x := nI (l ++ List.take 0 [58]).length) (by rw [wrf (by decide)]; exact s1.1) ?_)
      rw [nI_1]
      refine OkwrE (Ok.ret ⟨nI_1 0, ?_, s2.tr MF.w⟩)
      have := s1.s (b := 58)
      rw [List.append_assoc l] at this
      exact this
  · rintro c s ⟨rfl, s1, s2⟩
    unfold SX12_says_s8_2
    exact Ok.ifT (by rw [li_1, nI_leP (by omega) (by omega)]; omega) (Ok.ret ⟨s1, s2⟩)
theorem m_say_s9 {l : List Nat} {t : St} (h : OMm l t) (hl : l.length + 1 ≤ 400) : Ok (FX12_says_s9 t) (fun _ u => OMm (l ++ [45]) u ∧ MF t u) := by
  unfold FX12_says_s9
  refine Ok.bd (fun _ u => OMm (l ++ [45]) u ∧ MF t u) ?_ (fun _ _ hu => Ok.ret hu)
  refine Ok.count 1 (fun j c s => c = nI j ∧ OMm (l ++ List.take j [45]) s ∧ MF t s) ?_ ?_ (Nat.zero_le _) ⟨rfl, by rw [List.take_zero, List.append_nil]; exact h, MF.rf⟩
  · rintro j c s hj ⟨rfl, s1, s2⟩
    unfold SX12_says_s9_2
    refine Ok.ifF (by rw [li_1, nI_leP (by omega) (by omega)]; omega) (Ok.rdE s1.1 (Ok.ckT (inb_n hj (by omega)) ?_))
    obtain rfl : j = 0 := by omega
    · rw [show chr [45] (nI 0) = nI 45 from rfl]
      have e : (l ++ List.take 0 [45]).length < 400 := by rw [List.length_append]; show l.length + 0 < 400; omega
      refine Ok.ckT (inb_n e (by omega)) ?_
      rw [nI_cl (by omega)]
      refine OkwrE (Ok.rdE (x := nI (l ++ List.take 0 [45]).length) (by rw [wrf (by decide)]; exact s1.1) ?_)
      rw [nI_1]
      refine OkwrE (Ok.ret ⟨nI_1 0, ?_, s2.tr MF.w⟩)
      have := s1.s (b := 45)
      rw [List.append_assoc l] at this
      exact this
  · rintro c s ⟨rfl, s1, s2⟩
    unfold SX12_says_s9_2
    exact Ok.ifT (by rw [li_1, nI_leP (by omega) (by omega)]; omega) (Ok.ret ⟨s1, s2⟩)
theorem m_say_s10 {l : List Nat} {t : St} (h : OMm l t) (hl : l.length + 1 ≤ 400) : Ok (FX12_says_s10 t) (fun _ u => OMm (l ++ [61]) u ∧ MF t u) := by
  unfold FX12_says_s10
  refine Ok.bd (fun _ u => OMm (l ++ [61]) u ∧ MF t u) ?_ (fun _ _ hu => Ok.ret hu)
  refine Ok.count 1 (fun j c s => c = nI j ∧ OMm (l ++ List.take j [61]) s ∧ MF t s) ?_ ?_ (Nat.zero_le _) ⟨rfl, by rw [List.take_zero, List.append_nil]; exact h, MF.rf⟩
  · rintro j c s hj ⟨rfl, s1, s2⟩
    unfold SX12_says_s10_2
    refine Ok.ifF (by rw [li_1, nI_leP (by omega) (by omega)]; omega) (Ok.rdE s1.1 (Ok.ckT (inb_n hj (by omega)) ?_))
    obtain rfl : j = 0 := by omega
    · rw [show chr [61] (nI 0) = nI 61 from rfl]
      have e : (l ++ List.take 0 [61]).length < 400 := by rw [List.length_append]; show l.length + 0 < 400; omega
      refine Ok.ckT (inb_n e (by omega)) ?_
      rw [nI_cl (by omega)]
      refine OkwrE (Ok.rdE (x := nI (l ++ List.take 0 [61]).length) (by rw [wrf (by decide)]; exact s1.1) ?_)
      rw [nI_1]
      refine OkwrE (Ok.ret ⟨nI_1 0, ?_, s2.tr MF.w⟩)
      have := s1.s (b := 61)
      rw [List.append_assoc l] at this
      exact this
  · rintro c s ⟨rfl, s1, s2⟩
    unfold SX12_says_s10_2
    exact Ok.ifT (by rw [li_1, nI_leP (by omega) (by omega)]; omega) (Ok.ret ⟨s1, s2⟩)
theorem m_say_s11 {l : List Nat} {t : St} (h : OMm l t) (hl : l.length + 5 ≤ 400) : Ok (FX12_says_s11 t) (fun _ u => OMm (l ++ [59, 114, 111, 119, 32]) u ∧ MF t u) := by
  unfold FX12_says_s11
  refine Ok.bd (fun _ u => OMm (l ++ [59, 114, 111, 119, 32]) u ∧ MF t u) ?_ (fun _ _ hu => Ok.ret hu)
  refine Ok.count 5 (fun j c s => c = nI j ∧ OMm (l ++ List.take j [59, 114, 111, 119, 32]) s ∧ MF t s) ?_ ?_ (Nat.zero_le _) ⟨rfl, by rw [List.take_zero, List.append_nil]; exact h, MF.rf⟩
  · rintro j c s hj ⟨rfl, s1, s2⟩
    unfold SX12_says_s11_2
    refine Ok.ifF (by rw [li_5, nI_leP (by omega) (by omega)]; omega) (Ok.rdE s1.1 (Ok.ckT (inb_n hj (by omega)) ?_))
    rcases (show j = 0 ∨ j = 1 ∨ j = 2 ∨ j = 3 ∨ j = 4 by omega) with rfl | rfl | rfl | rfl | rfl
    · rw [show chr [59, 114, 111, 119, 32] (nI 0) = nI 59 from rfl]
      have e : (l ++ List.take 0 [59, 114, 111, 119, 32]).length < 400 := by rw [List.length_append]; show l.length + 0 < 400; omega
      refine Ok.ckT (inb_n e (by omega)) ?_
      rw [nI_cl (by omega)]
      refine OkwrE (Ok.rdE (x := nI (l ++ List.take 0 [59, 114, 111, 119, 32]).length) (by rw [wrf (by decide)]; exact s1.1) ?_)
      rw [nI_1]
      refine OkwrE (Ok.ret ⟨nI_1 0, ?_, s2.tr MF.w⟩)
      have := s1.s (b := 59)
      rw [List.append_assoc l] at this
      exact this
    · rw [show chr [59, 114, 111, 119, 32] (nI 1) = nI 114 from rfl]
      have e : (l ++ List.take 1 [59, 114, 111, 119, 32]).length < 400 := by rw [List.length_append]; show l.length + 1 < 400; omega
      refine Ok.ckT (inb_n e (by omega)) ?_
      rw [nI_cl (by omega)]
      refine OkwrE (Ok.rdE (x := nI (l ++ List.take 1 [59, 114, 111, 119, 32]).length) (by rw [wrf (by decide)]; exact s1.1) ?_)
      rw [nI_1]
      refine OkwrE (Ok.ret ⟨nI_1 1, ?_, s2.tr MF.w⟩)
      have := s1.s (b := 114)
      rw [List.append_assoc l] at this
      exact this
    · rw [show chr [59, 114, 111, 119, 32] (nI 2) = nI 111 from rfl]
      have e : (l ++ List.take 2 [59, 114, 111, 119, 32]).length < 400 := by rw [List.length_append]; show l.length + 2 < 400; omega
      refine Ok.ckT (inb_n e (by omega)) ?_
      rw [nI_cl (by omega)]
      refine OkwrE (Ok.rdE (x := nI (l ++ List.take 2 [59, 114, 111, 119, 32]).length) (by rw [wrf (by decide)]; exact s1.1) ?_)
      rw [nI_1]
      refine OkwrE (Ok.ret ⟨nI_1 2, ?_, s2.tr MF.w⟩)
      have := s1.s (b := 111)
      rw [List.append_assoc l] at this
      exact this
    · rw [show chr [59, 114, 111, 119, 32] (nI 3) = nI 119 from rfl]
      have e : (l ++ List.take 3 [59, 114, 111, 119, 32]).length < 400 := by rw [List.length_append]; show l.length + 3 < 400; omega
      refine Ok.ckT (inb_n e (by omega)) ?_
      rw [nI_cl (by omega)]
      refine OkwrE (Ok.rdE (x := nI (l ++ List.take 3 [59, 114, 111, 119, 32]).length) (by rw [wrf (by decide)]; exact s1.1) ?_)
      rw [nI_1]
      refine OkwrE (Ok.ret ⟨nI_1 3, ?_, s2.tr MF.w⟩)
      have := s1.s (b := 119)
      rw [List.append_assoc l] at this
      exact this
    · rw [show chr [59, 114, 111, 119, 32] (nI 4) = nI 32 from rfl]
      have e : (l ++ List.take 4 [59, 114, 111, 119, 32]).length < 400 := by rw [List.length_append]; show l.length + 4 < 400; omega
      refine Ok.ckT (inb_n e (by omega)) ?_
      rw [nI_cl (by omega)]
      refine OkwrE (Ok.rdE (x := nI (l ++ List.take 4 [59, 114, 111, 119, 32]).length) (by rw [wrf (by decide)]; exact s1.1) ?_)
      rw [nI_1]
      refine OkwrE (Ok.ret ⟨nI_1 4, ?_, s2.tr MF.w⟩)
      have := s1.s (b := 32)
      rw [List.append_assoc l] at this
      exact this
  · rintro c s ⟨rfl, s1, s2⟩
    unfold SX12_says_s11_2
    exact Ok.ifT (by rw [li_5, nI_leP (by omega) (by omega)]; omega) (Ok.ret ⟨s1, s2⟩)
theorem m_say_s12 {l : List Nat} {t : St} (h : OMm l t) (hl : l.length + 1 ≤ 400) : Ok (FX12_says_s12 t) (fun _ u => OMm (l ++ [59]) u ∧ MF t u) := by
  unfold FX12_says_s12
  refine Ok.bd (fun _ u => OMm (l ++ [59]) u ∧ MF t u) ?_ (fun _ _ hu => Ok.ret hu)
  refine Ok.count 1 (fun j c s => c = nI j ∧ OMm (l ++ List.take j [59]) s ∧ MF t s) ?_ ?_ (Nat.zero_le _) ⟨rfl, by rw [List.take_zero, List.append_nil]; exact h, MF.rf⟩
  · rintro j c s hj ⟨rfl, s1, s2⟩
    unfold SX12_says_s12_2
    refine Ok.ifF (by rw [li_1, nI_leP (by omega) (by omega)]; omega) (Ok.rdE s1.1 (Ok.ckT (inb_n hj (by omega)) ?_))
    obtain rfl : j = 0 := by omega
    · rw [show chr [59] (nI 0) = nI 59 from rfl]
      have e : (l ++ List.take 0 [59]).length < 400 := by rw [List.length_append]; show l.length + 0 < 400; omega
      refine Ok.ckT (inb_n e (by omega)) ?_
      rw [nI_cl (by omega)]
      refine OkwrE (Ok.rdE (x := nI (l ++ List.take 0 [59]).length) (by rw [wrf (by decide)]; exact s1.1) ?_)
      rw [nI_1]
      refine OkwrE (Ok.ret ⟨nI_1 0, ?_, s2.tr MF.w⟩)
      have := s1.s (b := 59)
      rw [List.append_assoc l] at this
      exact this
  · rintro c s ⟨rfl, s1, s2⟩
    unfold SX12_says_s12_2
    exact Ok.ifT (by rw [li_1, nI_leP (by omega) (by omega)]; omega) (Ok.ret ⟨s1, s2⟩)
theorem m_say_s13 {l : List Nat} {t : St} (h : OMm l t) : Ok (FX12_says_s13 t) (fun _ u => OMm l u ∧ MF t u) := by
  unfold FX12_says_s13
  refine Ok.bd (fun _ u => t = u) ?_ (fun _ u hu => Ok.ret (by rw [← hu]; exact ⟨h, MF.rf⟩))
  refine Ok.loop (fun _ c s => c = 0 ∧ t = s) ?_ 0 _ _ ⟨rfl, rfl⟩
  rintro k c s ⟨rfl, rfl⟩
  unfold SX12_says_s13_2
  exact Ok.ifT (by decide) (Ok.ret rfl)
theorem m_say_s14 {l : List Nat} {t : St} (h : OMm l t) (hl : l.length + 1 ≤ 400) : Ok (FX12_says_s14 t) (fun _ u => OMm (l ++ [32]) u ∧ MF t u) := by
  unfold FX12_says_s14
  refine Ok.bd (fun _ u => OMm (l ++ [32]) u ∧ MF t u) ?_ (fun _ _ hu => Ok.ret hu)
  refine Ok.count 1 (fun j c s => c = nI j ∧ OMm (l ++ List.take j [32]) s ∧ MF t s) ?_ ?_ (Nat.zero_le _) ⟨rfl, by rw [List.take_zero, List.append_nil]; exact h, MF.rf⟩
  · rintro j c s hj ⟨rfl, s1, s2⟩
    unfold SX12_says_s14_2
    refine Ok.ifF (by rw [li_1, nI_leP (by omega) (by omega)]; omega) (Ok.rdE s1.1 (Ok.ckT (inb_n hj (by omega)) ?_))
    obtain rfl : j = 0 := by omega
    · rw [show chr [32] (nI 0) = nI 32 from rfl]
      have e : (l ++ List.take 0 [32]).length < 400 := by rw [List.length_append]; show l.length + 0 < 400; omega
      refine Ok.ckT (inb_n e (by omega)) ?_
      rw [nI_cl (by omega)]
      refine OkwrE (Ok.rdE (x := nI (l ++ List.take 0 [32]).length) (by rw [wrf (by decide)]; exact s1.1) ?_)
      rw [nI_1]
      refine OkwrE (Ok.ret ⟨nI_1 0, ?_, s2.tr MF.w⟩)
      have := s1.s (b := 32)
      rw [List.append_assoc l] at this
      exact this
  · rintro c s ⟨rfl, s1, s2⟩
    unfold SX12_says_s14_2
    exact Ok.ifT (by rw [li_1, nI_leP (by omega) (by omega)]; omega) (Ok.ret ⟨s1, s2⟩)
theorem m_line {l : List Nat} {s n a b : Nat} {w : Nat → Nat → Nat} {t : St} {A : Option (Unit × St)} {sep : Nat} (h : RN s n w t) (hs : s < 3) (hw : WF n w) (ha : a < 9) (hb : b < 9) (hl : l.length + 12 ≤ 400) (hA : Ok A (fun _ u => OMm (l ++ [sep]) u ∧ MF t u)) : Ok (bnd A (fun _ t28 => bnd (FX12_saysNumber 4 (nI a) t28) (fun _ t31 => bnd (FX12_says_s9 t31) (fun _ t34 => bnd (FX12_saysNumber 4 (nI b) t34) (fun _ t37 => bnd (FX12_weight (nI s) (nI a) (nI b) t37) (fun v39 t40 => bnd (if v39 ≤ (1 : Int32) then some ((), t40) else bnd (FX12_says_s10 t40) (fun _ t48 => bnd (FX12_weight (nI s) (nI a) (nI b) t48) (fun v50 t51 => bnd (FX12_saysNumber 4 v50 t51) (fun _ t54 => some ((), t54))))) (fun _ t44 => some ((1 : Int32), t44)))))))) (fun r u => r = 1 ∧ (0 < w a b → OMm (lnx l sep a b (w a b)) u) ∧ MF t u) := by
  have w9 := hw.1 a b
  have l0 : (l ++ [sep]).length = l.length + 1 := len_s
  refine Ok.bd _ hA ?_
  rintro _ t1 ⟨h1, f1⟩
  refine Ok.bd _ (m_num (v := a) h1 (by omega) (by omega)) ?_
  rintro _ t2 ⟨h2, f2⟩
  have l1 : ((l ++ [sep]) ++ nd a).length = l.length + 2 := by rw [nd_1 (by omega), len_s, l0]
  refine Ok.bd _ (m_say_s9 h2 (by omega)) ?_
  rintro _ t3 ⟨h3, f3⟩
  have l2 : (((l ++ [sep]) ++ nd a) ++ [45]).length = l.length + 3 := by rw [len_s, l1]
  refine Ok.bd _ (m_num (v := b) h3 (by omega) (by omega)) ?_
  rintro _ t4 ⟨h4, f4⟩
  have l3 : ((((l ++ [sep]) ++ nd a) ++ [45]) ++ nd b).length = l.length + 4 := by rw [nd_1 (v := b) (by omega), len_s, l2]
  have f14 := ((f1.tr f2).tr f3).tr f4
  refine Ok.bq (q_weight (f14.rn h) hs ha hb) (Ok.bd (fun _ u => (0 < w a b → OMm (lnx l sep a b (w a b)) u) ∧ MF t u) ?_ (fun _ _ hu => Ok.ret ⟨rfl, hu⟩))
  unfold lnx
  refine Ok.cv (nI_leP (b := 1) (by omega) (by omega)) (Ok.ite (fun c => Ok.ret ⟨fun c2 => by rw [if_pos (by omega)]; exact h4, f14⟩) (fun c => ?_))
  refine Ok.bd _ (m_say_s10 h4 (by omega)) ?_
  rintro _ t5 ⟨h5, f5⟩
  have f15 := f14.tr f5
  refine Ok.bq (q_weight (f15.rn h) hs ha hb) (Ok.bd _ (m_num (v := w a b) h5 (by omega) (by rw [len_s, l3]; omega)) ?_)
  rintro _ t6 ⟨h6, f6⟩
  exact Ok.ret ⟨fun _ => by rw [if_neg (by omega)]; exact h6, f15.tr f6⟩
def flg (b : Bool) : Int32 := if b = true then 1 else 0
theorem m_netIn {s n a : Nat} {w : Nat → Nat → Nat} {B : TS} {t : St} (h : RN s n w t) (hs : s < 3) (hw : WF n w) (hn : n < 10) (ha : a < n) (hO : OMm B.1 t) (hl : B.1.length + 6 * (n - (a + 1)) + 12 ≤ 400) : Ok (wh (SX12_saysNet_34 (nI s) (nI a)) (flg B.2, nI (a + 1)) t) (fun r u => r = flg (tli w a B (n - (a + 1))).2 ∧ OMm (tli w a B (n - (a + 1))).1 u ∧ MF t u) := by
  refine Ok.count (n - (a + 1)) (fun k c s => c = (flg (tli w a B k).2, nI (a + 1 + k)) ∧ OMm (tli w a B k).1 s ∧ MF t s) ?_ ?_ (Nat.zero_le _) ⟨rfl, hO, MF.rf⟩
  · rintro k c s' hk ⟨rfl, s1, s2⟩
    unfold SX12_saysNet_34
    dsimp only
    have h1 := s2.rn h
    have w9 := hw.1 a (a + 1 + k)
    have tl := tli_len (a := a) (B := B) hw hn (k := k) (by omega)
    refine Ok.bq (q_points h1 hs) (Ok.ifF (by rw [nI_leP (by omega) (by omega)]; omega) (Ok.bq (q_weight h1 hs (by omega) (by omega)) (Ok.bd (fun r u => r = flg (tli w a B (k + 1)).2 ∧ OMm (tli w a B (k + 1)).1 u ∧ MF t u) ?_ ?_)))
    · rw [tli]
      refine Ok.cv (nI_q0 (by omega)) (Ok.ite (fun c => Ok.ret ?_) (fun c => ?_))
      · rw [if_pos c]
        exact ⟨rfl, s1, s2⟩
      · rw [if_neg c]
        cases e : (tli w a B k).2 with
        | false =>
          refine Ok.ifT rfl ((m_line (sep := 58) h1 hs hw (by omega) (by omega) (by omega) (m_say_s8 s1 (by omega))).mono ?_)
          rintro r u ⟨rfl, u1, u2⟩
          exact ⟨rfl, u1 (by omega), s2.tr u2⟩
        | true =>
          refine Ok.ifF (by decide) ((m_line (sep := 44) h1 hs hw (by omega) (by omega) (by omega) (m_say_s7 s1 (by omega))).mono ?_)
          rintro r u ⟨rfl, u1, u2⟩
          exact ⟨rfl, u1 (by omega), s2.tr u2⟩
    · rintro _ u ⟨rfl, u1, u2⟩
      exact Ok.ret ⟨by rw [nI_1]; rfl, u1, u2⟩
  · rintro c s' ⟨rfl, s1, s2⟩
    unfold SX12_saysNet_34
    dsimp only
    exact Ok.bq (q_points (s2.rn h) hs) (Ok.ifT (by rw [nI_leP (by omega) (by omega)]; omega) (Ok.ret ⟨rfl, s1, s2⟩))
theorem m_saysNet {s n : Nat} {w : Nat → Nat → Nat} {o : Nat → Nat} {t : St} (h : RN s n w t) (hs : s < 3) (hw : WF n w) (hn : n < 10) (ho : RO s n o t) (h9 : ∀ i, i < n → o i < 9) (hO : OMm [] t) : Ok (FX12_saysNet (nI s) t) (fun _ u => OMm (txn n w o) u ∧ MF t u) := by
  unfold FX12_saysNet
  refine Ok.bd _ (m_say_s6 hO (by decide)) ?_
  rintro _ t1 ⟨h1, f1⟩
  rw [List.nil_append] at h1
  refine Ok.bq (q_points (f1.rn h) hs) (Ok.bd _ (m_num h1 (by omega) (by decide)) ?_)
  rintro _ t2 ⟨h2, f2⟩
  have l2 : ([110, 101, 116, 32] ++ nd n).length = 5 := by rw [nd_1 hn]; rfl
  refine Ok.bd (fun _ u => OMm (tlo n w ([110, 101, 116, 32] ++ nd n, false) n).1 u ∧ MF t u) ?_ ?_
  · refine Ok.count n (fun i c s => c = (flg (tlo n w ([110, 101, 116, 32] ++ nd n, false) i).2, nI i) ∧ OMm (tlo n w ([110, 101, 116, 32] ++ nd n, false) i).1 s ∧ MF t s) ?_ ?_ (Nat.zero_le _) ⟨rfl, h2, f1.tr f2⟩
    · rintro i c s' hi ⟨rfl, s1, s2⟩
      unfold SX12_saysNet_20
      dsimp only
      have tl := tlo_len (B := ([110, 101, 116, 32] ++ nd n, false)) hw hn (i := i) (by omega)
      have tr : tri i + (8 - i) ≤ 36 := tri_le (by omega)
      refine Ok.bq (q_points (s2.rn h) hs) (Ok.ifF (by rw [nI_leP (by omega) (by omega)]; omega) ?_)
      rw [nI_1]
      refine Ok.bd _ (m_netIn (B := tlo n w ([110, 101, 116, 32] ++ nd n, false) i) (s2.rn h) hs hw hn hi s1 (by dsimp only at tl; omega)) ?_
      rintro _ u ⟨rfl, u1, u2⟩
      exact Ok.ret ⟨rfl, u1, s2.tr u2⟩
    · rintro c s' ⟨rfl, s1, s2⟩
      unfold SX12_saysNet_20
      dsimp only
      exact Ok.bq (q_points (s2.rn h) hs) (Ok.ifT (by rw [nI_leP (by omega) (by omega)]; omega) (Ok.ret ⟨s1, s2⟩))
  · rintro _ t3 ⟨h3, f3⟩
    have tl := tlo_len (B := ([110, 101, 116, 32] ++ nd n, false)) hw hn (i := n) (Nat.le_refl _)
    have tr : tri n ≤ 36 := tri_9 (by omega)
    unfold txn
    generalize (tlo n w ([110, 101, 116, 32] ++ nd n, false) n).1 = X at h3 tl ⊢
    refine Ok.bd _ (m_say_s11 h3 (by dsimp only at tl; omega)) ?_
    rintro _ t4 ⟨h4, f4⟩
    have l4 : (X ++ [59, 114, 111, 119, 32]).length = X.length + 5 := List.length_append
    have dl : ∀ j, j ≤ n → (dgs (X ++ [59, 114, 111, 119, 32]) o j).length = X.length + 5 + j := fun j hj => by
      rw [dgs_len (n := n) (fun i hi => by have := h9 i hi; omega) hj, l4]
    refine Ok.bd (fun _ u => OMm (dgs (X ++ [59, 114, 111, 119, 32]) o n) u ∧ MF t u) ?_ ?_
    · refine Ok.count n (fun j c s => c = nI j ∧ OMm (dgs (X ++ [59, 114, 111, 119, 32]) o j) s ∧ MF t s) ?_ ?_ (Nat.zero_le _) ⟨rfl, h4, f3.tr f4⟩
      · rintro j c s' hj ⟨rfl, s1, s2⟩
        unfold SX12_saysNet_147
        have hdl := dl j (by omega)
        have oj := h9 j hj
        refine Ok.bq (q_points (s2.rn h) hs) (Ok.ifF (by rw [nI_leP (by omega) (by omega)]; omega) (Ok.bq (q_at (s2.ro ho) hs hn hj) (Ok.bd _ (m_num s1 (by omega) (by dsimp only at tl; omega)) ?_)))
        rintro _ u ⟨u1, u2⟩
        exact Ok.ret ⟨nI_1 j, u1, s2.tr u2⟩
      · rintro c s' ⟨rfl, s1, s2⟩
        unfold SX12_saysNet_147
        exact Ok.bq (q_points (s2.rn h) hs) (Ok.ifT (by rw [nI_leP (by omega) (by omega)]; omega) (Ok.ret ⟨s1, s2⟩))
    · rintro _ t5 ⟨h5, f5⟩
      have := dl n (Nat.le_refl _)
      refine Ok.bd _ (m_say_s12 h5 (by dsimp only at tl; omega)) ?_
      rintro _ u ⟨u1, u2⟩
      exact Ok.ret ⟨u1, f5.tr u2⟩
theorem q_in01 {q : Nat} {t : St} (hq : q < 2) : FX12_in (nI q).toInt64 (0 : Int64) (1 : Int64) t = some (1, t) := by
  refine Ok.eq (e_in (fun _ _ => ⟨rfl, rfl⟩) (fun h => absurd ?_ h))
  rw [n64 (by omega), show (0 : Int64).toInt = 0 by decide, show (1 : Int64).toInt = 1 by decide]
  omega
theorem m_tell {s n q : Nat} {w : Nat → Nat → Nat} {o : Nat → Nat} {t : St} (hs : s < 3) (h : RN s n w t) (hw : WF n w) (hn : n < 10) (h1 : 1 ≤ n) (ho : RO s n o t) (h9 : ∀ i, i < n → o i < 9) (hq : q < 2) : Ok (FX12_tell (nI s) (nI q) t) (fun r u => r = nI (tlx n w o q).length ∧ OMm (tlx n w o q) u ∧ MF t u) := by
  unfold FX12_tell
  refine Ok.bq (g_isNet hs hn h) ?_
  rw [if_neg (c := n = 0) (by omega)]
  refine Ok.ifF (by decide) (Ok.bq (q_in01 hq) (Ok.ifF (by decide) (OkwrE ?_)))
  have f0 : MF t (wr t 149 25 0) := ⟨fun c k1 k2 => wr_off c k1, fun i hi => wrn hi⟩
  have O0 : OMm [] (wr t 149 25 0) := ⟨wrs, fun i hi => absurd hi (Nat.not_lt_zero i)⟩
  generalize wr t 149 25 0 = y at f0 O0 ⊢
  unfold tlx
  refine Ok.cv (nI_eqP (b := 0) (by omega) (by omega)) (Ok.ite (fun c => ?_) (fun c => ?_))
  · rw [if_pos c]
    refine Ok.bd _ (m_saysNet (f0.rn h) hs hw hn (f0.ro ho) h9 O0) ?_
    rintro _ u ⟨u1, u2⟩
    exact Ok.rdE u1.1 (Ok.ret ⟨rfl, u1, f0.tr u2⟩)
  · rw [if_neg c]
    refine Ok.bd (fun _ u => OMm (ctx n w o (n - 1)) u ∧ MF t u) ?_ (fun _ u hu => Ok.rdE hu.1.1 (Ok.ret ⟨rfl, hu⟩))
    refine Ok.count (n - 1) (fun k c s => c = nI (k + 1) ∧ OMm (ctx n w o k) s ∧ MF t s) ?_ ?_ (Nat.zero_le _) ⟨rfl, O0, f0⟩
    · rintro k c s' hk ⟨rfl, s1, s2⟩
      unfold SX12_tell_42
      have cl := ctx_len (n := n) (w := w) (o := o) (k := k)
      have pl := pri_le (m := 0) (i := k + 1) (o := o) hw hn
      refine Ok.bq (q_points (s2.rn h) hs) (Ok.ifF (by rw [nI_leP (by omega) (by omega)]; omega) (Ok.cv (nI_eqP (b := 1) (by omega) (by omega)) (Ok.ite (fun c => ?_) (fun c => ?_))))
      · refine Ok.bd _ (m_say_s13 s1) ?_
        rintro _ t1 ⟨g1, f1⟩
        have f2 := s2.tr f1
        refine Ok.bq (q_priceOf (m := 0) (i := k + 1) (f2.rn h) hs hw hn (f2.ro ho) h9 (by omega) (by omega) (Or.inr (by omega))) (Ok.bd _ (m_num g1 (by omega) (by omega)) ?_)
        rintro _ u ⟨u1, u2⟩
        refine Ok.ret ⟨nI_1 (k + 1), ?_, f2.tr u2⟩
        show OMm ((if k = 0 then ctx n w o k else ctx n w o k ++ [32]) ++ nd (pri n w 0 o (k + 1))) u
        rw [if_pos (by omega)]
        exact u1
      · refine Ok.bd _ (m_say_s14 s1 (by omega)) ?_
        rintro _ t1 ⟨g1, f1⟩
        have f2 := s2.tr f1
        refine Ok.bq (q_priceOf (m := 0) (i := k + 1) (f2.rn h) hs hw hn (f2.ro ho) h9 (by omega) (by omega) (Or.inr (by omega))) (Ok.bd _ (m_num g1 (by omega) (by rw [len_s]; omega)) ?_)
        rintro _ u ⟨u1, u2⟩
        refine Ok.ret ⟨nI_1 (k + 1), ?_, f2.tr u2⟩
        show OMm ((if k = 0 then ctx n w o k else ctx n w o k ++ [32]) ++ nd (pri n w 0 o (k + 1))) u
        rw [if_neg (c := k = 0) (by omega)]
        exact u1
    · rintro c s' ⟨rfl, s1, s2⟩
      unfold SX12_tell_42
      exact Ok.bq (q_points (s2.rn h) hs) (Ok.ifT (by rw [nI_leP (by omega) (by omega)]; omega) (Ok.ret ⟨s1, s2⟩))
theorem tlx_len {n q : Nat} {w : Nat → Nat → Nat} {o : Nat → Nat} (hw : WF n w) (hn : n < 10) (h9 : ∀ i, i < n → o i < 9) : (tlx n w o q).length ≤ 256 := by
  unfold tlx
  split
  · have tl := tlo_len (B := ([110, 101, 116, 32] ++ nd n, false)) hw hn (i := n) (Nat.le_refl _)
    have tr : tri n ≤ 36 := tri_9 (by omega)
    have l2 : ([110, 101, 116, 32] ++ nd n).length = 5 := by rw [nd_1 hn]; rfl
    unfold txn
    rw [len_s, dgs_len (n := n) (fun i hi => by have := h9 i hi; omega) (Nat.le_refl _), List.length_append]
    show _ + 5 + n + 1 ≤ 256
    dsimp only at tl
    omega
  · have cl := ctx_len (n := n) (w := w) (o := o) (k := n - 1)
    omega
end
