/-! what is told: pure -/
def gt : List Nat → Nat → Nat
  | [], _ => 0
  | a :: _, 0 => a
  | _ :: l, i + 1 => gt l i
theorem gt_s {b : Nat} : ∀ (l : List Nat) (i : Nat), gt (l ++ [b]) i = if i < l.length then gt l i else if i = l.length then b else 0
  | [], 0 => rfl
  | [], i + 1 => by
    show (0 : Nat) = if i + 1 < 0 then 0 else if i + 1 = 0 then b else 0
    rw [if_neg (c := i + 1 < 0) (by omega), if_neg (c := i + 1 = 0) (by omega)]
  | a :: l, 0 => by
    show a = if 0 < l.length + 1 then a else if 0 = l.length + 1 then b else 0
    rw [if_pos (c := 0 < l.length + 1) (by omega)]
  | a :: l, i + 1 => by
    show gt (l ++ [b]) i = if i + 1 < l.length + 1 then gt l i else if i + 1 = l.length + 1 then b else 0
    rw [gt_s l i]
    by_cases c : i < l.length
    · rw [if_pos c, if_pos (c := i + 1 < l.length + 1) (by omega)]
    · rw [if_neg c, if_neg (c := i + 1 < l.length + 1) (by omega)]
      by_cases c2 : i = l.length
      · rw [if_pos c2, if_pos (c := i + 1 = l.length + 1) (by omega)]
      · rw [if_neg c2, if_neg (c := i + 1 = l.length + 1) (by omega)]
theorem len_s {l : List Nat} {b : Nat} : (l ++ [b]).length = l.length + 1 := List.length_append
def nd (v : Nat) : List Nat := if v < 10 then [48 + v] else if v < 100 then [48 + v / 10, 48 + v % 10] else [48 + v / 100, 48 + v / 10 % 10, 48 + v % 10]
theorem nd_1 {v : Nat} (h : v < 10) : nd v = [48 + v] := if_pos h
theorem nd_len {v : Nat} : (nd v).length ≤ 3 := by
  unfold nd
  split
  · exact (by decide : 1 ≤ 3)
  · split
    · exact (by decide : 2 ≤ 3)
    · exact Nat.le_refl 3
def lnx (C : List Nat) (sep a b w : Nat) : List Nat := if w = 1 then (((C ++ [sep]) ++ nd a) ++ [45]) ++ nd b else (((((C ++ [sep]) ++ nd a) ++ [45]) ++ nd b) ++ [61]) ++ nd w
theorem lnx_len {C : List Nat} {sep a b w : Nat} (ha : a < 10) (hb : b < 10) (hw : w < 10) : (lnx C sep a b w).length ≤ C.length + 6 := by
  unfold lnx
  rw [nd_1 ha, nd_1 hb, nd_1 hw]
  split
  · rw [len_s, len_s, len_s, len_s]; omega
  · rw [len_s, len_s, len_s, len_s, len_s, len_s]; omega
abbrev TS := List Nat × Bool
def tli (w : Nat → Nat → Nat) (a : Nat) (B : TS) : Nat → TS
  | 0 => B
  | k + 1 => if w a (a + 1 + k) = 0 then tli w a B k else (lnx (tli w a B k).1 (if (tli w a B k).2 = true then 44 else 58) a (a + 1 + k) (w a (a + 1 + k)), true)
def tlo (n : Nat) (w : Nat → Nat → Nat) (B : TS) : Nat → TS
  | 0 => B
  | i + 1 => tli w i (tlo n w B i) (n - (i + 1))
theorem tli_len {w : Nat → Nat → Nat} {a n : Nat} {B : TS} (hw : WF n w) (hn : n < 10) : ∀ {k : Nat}, a + k < n → (tli w a B k).1.length ≤ B.1.length + 6 * k
  | 0, _ => Nat.le_refl _
  | k + 1, h => by
    have ih := tli_len (a := a) (B := B) hw hn (k := k) (by omega)
    rw [tli]
    by_cases c : w a (a + 1 + k) = 0
    · rw [if_pos c]; omega
    · rw [if_neg c]
      have := lnx_len (C := (tli w a B k).1) (sep := if (tli w a B k).2 = true then 44 else 58) (a := a) (b := a + 1 + k) (w := w a (a + 1 + k)) (by omega) (by omega) (hw.1 _ _)
      show (lnx _ _ _ _ _).length ≤ _
      omega
theorem tlo_len {w : Nat → Nat → Nat} {n : Nat} {B : TS} (hw : WF n w) (hn : n < 10) : ∀ {i : Nat}, i ≤ n → (tlo n w B i).1.length ≤ B.1.length + 6 * tri i
  | 0, _ => Nat.le_refl _
  | i + 1, h => by
    have ih := tlo_len (B := B) hw hn (i := i) (by omega)
    have := tli_len (a := i) (B := tlo n w B i) hw hn (k := n - (i + 1)) (by omega)
    have e : tri (i + 1) = tri i + (8 - i) := rfl
    show (tli w i (tlo n w B i) (n - (i + 1))).1.length ≤ _
    omega
def dgs (Y : List Nat) (o : Nat → Nat) : Nat → List Nat
  | 0 => Y
  | j + 1 => dgs Y o j ++ nd (o j)
theorem dgs_len {Y : List Nat} {o : Nat → Nat} {n : Nat} (h : ∀ i, i < n → o i < 10) : ∀ {j : Nat}, j ≤ n → (dgs Y o j).length = Y.length + j
  | 0, _ => rfl
  | j + 1, hj => by
    have ih := dgs_len (Y := Y) h (j := j) (by omega)
    show (dgs Y o j ++ nd (o j)).length = _
    rw [nd_1 (h j (by omega)), len_s, ih]
    omega
def txn (n : Nat) (w : Nat → Nat → Nat) (o : Nat → Nat) : List Nat := dgs ((tlo n w ([110, 101, 116, 32] ++ nd n, false) n).1 ++ [59, 114, 111, 119, 32]) o n ++ [59]
noncomputable def ctx (n : Nat) (w : Nat → Nat → Nat) (o : Nat → Nat) : Nat → List Nat
  | 0 => []
  | k + 1 => (if k = 0 then ctx n w o k else ctx n w o k ++ [32]) ++ nd (pri n w 0 o (k + 1))
theorem ctx_len {n : Nat} {w : Nat → Nat → Nat} {o : Nat → Nat} : ∀ {k : Nat}, (ctx n w o k).length ≤ 4 * k
  | 0 => Nat.le_refl _
  | k + 1 => by
    have ih := ctx_len (n := n) (w := w) (o := o) (k := k)
    have := nd_len (v := pri n w 0 o (k + 1))
    show ((if k = 0 then ctx n w o k else ctx n w o k ++ [32]) ++ nd (pri n w 0 o (k + 1))).length ≤ _
    rw [List.length_append]
    by_cases c : k = 0
    · rw [if_pos c]; omega
    · rw [if_neg c, len_s]; omega
noncomputable def tlx (n : Nat) (w : Nat → Nat → Nat) (o : Nat → Nat) (q : Nat) : List Nat := if q = 0 then txn n w o else ctx n w o (n - 1)
/-! both hold what is told -/
def OC (l : List Nat) (t : St) : Prop := t 3 1 = nI l.length ∧ ∀ i, i < l.length → t 4 i &&& 255 = nI (gt l i)
def OMm (l : List Nat) (t : St) : Prop := t 149 25 = nI l.length ∧ ∀ i, i < l.length → t 162 i = nI (gt l i)
def TF (t u : St) : Prop := ∀ c, c ≠ 3 → c ≠ 4 → u c = t c
theorem TF.rf {t : St} : TF t t := fun _ _ _ => rfl
theorem TF.tr {t u v : St} (h : TF t u) (g : TF u v) : TF t v := fun c k1 k2 => (g c k1 k2).trans (h c k1 k2)
theorem TF.cn {t u : St} (h : TF t u) {x n l : Nat} {w : Nat → Nat → Nat} (g : CN x n l w t) (hx : 5 < x) : CN x n l w u := g.fr (h _ (by omega) (by omega)) (h _ (by omega) (by omega)) (h _ (by omega) (by omega))
theorem TF.co {t u : St} (h : TF t u) {x n : Nat} {o : Nat → Nat} (g : CO x n o t) (hx : 5 < x) : CO x n o u := fun i hi => by rw [h _ (by omega) (by omega)]; exact g i hi
def MF (t u : St) : Prop := (∀ c, c ≠ 149 → c ≠ 162 → u c = t c) ∧ ∀ i, i ≠ 25 → u 149 i = t 149 i
theorem MF.rf {t : St} : MF t t := ⟨fun _ _ _ => rfl, fun _ _ => rfl⟩
theorem MF.tr {t u v : St} (h : MF t u) (g : MF u v) : MF t v := ⟨fun c k1 k2 => (g.1 c k1 k2).trans (h.1 c k1 k2), fun i hi => (g.2 i hi).trans (h.2 i hi)⟩
theorem MF.rn {t u : St} (h : MF t u) {s n : Nat} {w : Nat → Nat → Nat} (g : RN s n w t) : RN s n w u := g.fr (h.1 150 (by decide) (by decide))
theorem MF.ro {t u : St} (h : MF t u) {s n : Nat} {o : Nat → Nat} (g : RO s n o t) : RO s n o u := fun i hi => by rw [h.1 150 (by decide) (by decide)]; exact g i hi
theorem by_all : ∀ b, b < 128 → nI b &&& 255 = nI b := by decide +kernel
/-! the class -/
theorem e_put {l : List Nat} {b : Nat} {t : St} (h : OC l t) (hl : l.length < 256) (hb : b < 128) : Ok (FX1_put_3 (nI b) t) (fun _ u => OC (l ++ [b]) u ∧ TF t u) := by
  unfold FX1_put_3 FX1_hasRoom_3
  refine Ok.bd (fun r u => t = u ∧ r = 1) (Ok.rdE h.1 (Ok.ifF ?_ (Ok.ret ⟨rfl, rfl⟩))) ?_
  · rw [nI_1]
    show ¬ nI 256 < nI (l.length + 1)
    rw [nI_ltP (by omega) (by omega)]
    omega
  rintro _ _ ⟨rfl, rfl⟩
  refine Ok.ifF (by decide) (Ok.rdE h.1 (Ok.ckT (inb_n hl (by omega)) ?_))
  rw [nI_cl (by omega)]
  refine OkwrE (Ok.rdE (x := nI l.length) (by rw [wrf (by decide)]; exact h.1) (OkwrE (Ok.ret ⟨⟨?_, fun i hi => ?_⟩, fun c k1 k2 => by rw [wr_off c k1, wr_off c k2]⟩)))
  · rw [wrs, nI_1, len_s]
  · rw [len_s] at hi
    rw [wrf (by decide), gt_s]
    by_cases c : i < l.length
    · rw [if_pos c, wrn (by omega)]; exact h.2 i c
    · have : i = l.length := by omega
      rw [if_neg c, if_pos this, this, wrs, b8]
      exact by_all b hb
theorem irN {a : Nat} (h : a < 2147483648) : irem (nI a) (10 : Int32) = nI (a % 10) := by
  rw [li_10]
  exact nI_remN (by omega) (by omega) (by omega)
theorem e_putNum {l : List Nat} {v : Nat} {t : St} (h : OC l t) (hl : l.length + 3 ≤ 256) (hv : v < 1000) : Ok (FX1_putNumber_3 (nI v) t) (fun _ u => OC (l ++ nd v) u ∧ TF t u) := by
  unfold FX1_putNumber_3
  rw [li_100, li_10, nI_divN (by omega) (by omega) (by omega), nI_divN (by omega) (by omega) (by omega), ← li_10, irN (by omega), irN (by omega), irN (by omega), li_48, nI_add, nI_add, nI_add, li_10]
  refine Ok.bd (fun _ u => OC (if v < 100 then l else l ++ [48 + v / 100]) u ∧ TF t u) ?_ ?_
  · refine Ok.cv (nI_ltP (by omega) (by omega)) (Ok.ite (fun c => Ok.ret ⟨by rw [if_pos c]; exact h, TF.rf⟩) (fun c => ?_))
    rw [if_neg c]
    refine Ok.bd _ (e_put (b := 48 + v / 100 % 10) h (by omega) (by omega)) ?_
    rintro _ u ⟨u1, u2⟩
    rw [show v / 100 % 10 = v / 100 by omega] at u1
    exact Ok.ret ⟨u1, u2⟩
  rintro _ t1 ⟨h1, f1⟩
  have l1 : (if v < 100 then l else l ++ [48 + v / 100]).length ≤ l.length + 1 := by
    split
    · omega
    · rw [len_s]; omega
  refine Ok.bd (fun _ u => OC (if v < 10 then l else (if v < 100 then l else l ++ [48 + v / 100]) ++ [48 + v / 10 % 10]) u ∧ TF t u) ?_ ?_
  · refine Ok.cv (nI_ltP (by omega) (by omega)) (Ok.ite (fun c => Ok.ret ⟨?_, f1⟩) (fun c => ?_))
    · rw [if_pos c]
      rw [if_pos (by omega)] at h1
      exact h1
    · rw [if_neg c]
      refine Ok.bd _ (e_put (b := 48 + v / 10 % 10) h1 (by omega) (by omega)) ?_
      rintro _ u ⟨u1, u2⟩
      exact Ok.ret ⟨u1, f1.tr u2⟩
  rintro _ t2 ⟨h2, f2⟩
  have l2 : (if v < 10 then l else (if v < 100 then l else l ++ [48 + v / 100]) ++ [48 + v / 10 % 10]).length ≤ l.length + 2 := by
    by_cases c : v < 10
    · rw [if_pos c]; omega
    · rw [if_neg c, len_s]; omega
  refine Ok.bd _ (e_put (b := 48 + v % 10) h2 (by omega) (by omega)) ?_
  rintro _ u ⟨u1, u2⟩
  refine Ok.ret ⟨?_, f2.tr u2⟩
  have e : l ++ nd v = (if v < 10 then l else (if v < 100 then l else l ++ [48 + v / 100]) ++ [48 + v / 10 % 10]) ++ [48 + v % 10] := by
    unfold nd
    by_cases c : v < 10
    · rw [if_pos c, if_pos c, show v % 10 = v by omega]
    · rw [if_neg c, if_neg c]
      by_cases c2 : v < 100
      · rw [if_pos c2, if_pos c2, show v / 10 % 10 = v / 10 by omega, List.append_assoc]
        rfl
      · rw [if_neg c2, if_neg c2, List.append_assoc, List.append_assoc]
        rfl
  rw [e]
  exact u1
theorem e_txt_s2 {l : List Nat} {t : St} (h : OC l t) (hl : l.length + 4 ≤ 256) : Ok (FX1_putText_3_s2 t) (fun _ u => OC (l ++ [110, 101, 116, 32]) u ∧ TF t u) := by
  unfold FX1_putText_3_s2
  refine Ok.bd (fun _ u => OC (l ++ [110, 101, 116, 32]) u ∧ TF t u) ?_ (fun _ _ hu => Ok.ret hu)
  refine Ok.count 4 (fun j c s => c = nI j ∧ OC (l ++ List.take j [110, 101, 116, 32]) s ∧ TF t s) ?_ ?_ (Nat.zero_le _) ⟨rfl, by rw [List.take_zero, List.append_nil]; exact h, TF.rf⟩
  · rintro j c s hj ⟨rfl, s1, s2⟩
    unfold SX1_putText_3_s2_2
    refine Ok.ifF (by rw [li_4, nI_leP (by omega) (by omega)]; omega) (Ok.ckT (inb_n hj (by omega)) ?_)
    rcases (show j = 0 ∨ j = 1 ∨ j = 2 ∨ j = 3 by omega) with rfl | rfl | rfl | rfl
    · rw [show chr [110, 101, 116, 32] (nI 0) = nI 110 from rfl]
      refine Ok.bd _ (e_put (b := 110) s1 (by rw [List.length_append]; show l.length + 0 < 256; omega) (by omega)) ?_
      rintro _ u ⟨u1, u2⟩
      rw [List.append_assoc] at u1
      exact Ok.ret ⟨nI_1 0, u1, s2.tr u2⟩
    · rw [show chr [110, 101, 116, 32] (nI 1) = nI 101 from rfl]
      refine Ok.bd _ (e_put (b := 101) s1 (by rw [List.length_append]; show l.length + 1 < 256; omega) (by omega)) ?_
      rintro _ u ⟨u1, u2⟩
      rw [List.append_assoc] at u1
      exact Ok.ret ⟨nI_1 1, u1, s2.tr u2⟩
    · rw [show chr [110, 101, 116, 32] (nI 2) = nI 116 from rfl]
      refine Ok.bd _ (e_put (b := 116) s1 (by rw [List.length_append]; show l.length + 2 < 256; omega) (by omega)) ?_
      rintro _ u ⟨u1, u2⟩
      rw [List.append_assoc] at u1
      exact Ok.ret ⟨nI_1 2, u1, s2.tr u2⟩
    · rw [show chr [110, 101, 116, 32] (nI 3) = nI 32 from rfl]
      refine Ok.bd _ (e_put (b := 32) s1 (by rw [List.length_append]; show l.length + 3 < 256; omega) (by omega)) ?_
      rintro _ u ⟨u1, u2⟩
      rw [List.append_assoc] at u1
      exact Ok.ret ⟨nI_1 3, u1, s2.tr u2⟩
  · rintro c s ⟨rfl, s1, s2⟩
    unfold SX1_putText_3_s2_2
    exact Ok.ifT (by rw [li_4, nI_leP (by omega) (by omega)]; omega) (Ok.ret ⟨s1, s2⟩)
theorem e_txt_s3 {l : List Nat} {t : St} (h : OC l t) (hl : l.length + 4 ≤ 256) : Ok (FX1_putText_3_s3 t) (fun _ u => OC (l ++ [114, 111, 119, 32]) u ∧ TF t u) := by
  unfold FX1_putText_3_s3
  refine Ok.bd (fun _ u => OC (l ++ [114, 111, 119, 32]) u ∧ TF t u) ?_ (fun _ _ hu => Ok.ret hu)
  refine Ok.count 4 (fun j c s => c = nI j ∧ OC (l ++ List.take j [114, 111, 119, 32]) s ∧ TF t s) ?_ ?_ (Nat.zero_le _) ⟨rfl, by rw [List.take_zero, List.append_nil]; exact h, TF.rf⟩
  · rintro j c s hj ⟨rfl, s1, s2⟩
    unfold SX1_putText_3_s3_2
    refine Ok.ifF (by rw [li_4, nI_leP (by omega) (by omega)]; omega) (Ok.ckT (inb_n hj (by omega)) ?_)
    rcases (show j = 0 ∨ j = 1 ∨ j = 2 ∨ j = 3 by omega) with rfl | rfl | rfl | rfl
    · rw [show chr [114, 111, 119, 32] (nI 0) = nI 114 from rfl]
      refine Ok.bd _ (e_put (b := 114) s1 (by rw [List.length_append]; show l.length + 0 < 256; omega) (by omega)) ?_
      rintro _ u ⟨u1, u2⟩
      rw [List.append_assoc] at u1
      exact Ok.ret ⟨nI_1 0, u1, s2.tr u2⟩
    · rw [show chr [114, 111, 119, 32] (nI 1) = nI 111 from rfl]
      refine Ok.bd _ (e_put (b := 111) s1 (by rw [List.length_append]; show l.length + 1 < 256; omega) (by omega)) ?_
      rintro _ u ⟨u1, u2⟩
      rw [List.append_assoc] at u1
      exact Ok.ret ⟨nI_1 1, u1, s2.tr u2⟩
    · rw [show chr [114, 111, 119, 32] (nI 2) = nI 119 from rfl]
      refine Ok.bd _ (e_put (b := 119) s1 (by rw [List.length_append]; show l.length + 2 < 256; omega) (by omega)) ?_
      rintro _ u ⟨u1, u2⟩
      rw [List.append_assoc] at u1
      exact Ok.ret ⟨nI_1 2, u1, s2.tr u2⟩
    · rw [show chr [114, 111, 119, 32] (nI 3) = nI 32 from rfl]
      refine Ok.bd _ (e_put (b := 32) s1 (by rw [List.length_append]; show l.length + 3 < 256; omega) (by omega)) ?_
      rintro _ u ⟨u1, u2⟩
      rw [List.append_assoc] at u1
      exact Ok.ret ⟨nI_1 3, u1, s2.tr u2⟩
  · rintro c s ⟨rfl, s1, s2⟩
    unfold SX1_putText_3_s3_2
    exact Ok.ifT (by rw [li_4, nI_leP (by omega) (by omega)]; omega) (Ok.ret ⟨s1, s2⟩)
theorem e_tellLine {l : List Nat} {a b v : Nat} {t : St} (h : OC l t) (ha : a < 10) (hb : b < 10) (hv : v < 10) (hl : l.length + 12 ≤ 256) : Ok (FX11_tellLine (nI a) (nI b) (nI v) t) (fun _ u => OC (if v = 1 then ((l ++ nd a) ++ [45]) ++ nd b else ((((l ++ nd a) ++ [45]) ++ nd b) ++ [61]) ++ nd v) u ∧ TF t u) := by
  have la : (l ++ nd a).length = l.length + 1 := by rw [nd_1 ha]; exact len_s
  unfold FX11_tellLine
  refine Ok.bd _ (e_putNum h (by omega) (by omega)) ?_
  rintro _ t1 ⟨h1, f1⟩
  refine Ok.bd _ (e_put (b := 45) h1 (by omega) (by omega)) ?_
  rintro _ t2 ⟨h2, f2⟩
  have l2 : ((l ++ nd a) ++ [45]).length = l.length + 2 := by rw [len_s, la]
  refine Ok.bd _ (e_putNum h2 (by omega) (by omega)) ?_
  rintro _ t3 ⟨h3, f3⟩
  have l3 : (((l ++ nd a) ++ [45]) ++ nd b).length = l.length + 3 := by
    rw [nd_1 hb, len_s, l2]
  have f13 := (f1.tr f2).tr f3
  refine Ok.cv (nI_eqP (b := 1) (by omega) (by omega)) (Ok.ite (fun c => Ok.ret ⟨by rw [if_pos c]; exact h3, f13⟩) (fun c => ?_))
  rw [if_neg c]
  refine Ok.bd _ (e_put (b := 61) h3 (by omega) (by omega)) ?_
  rintro _ t4 ⟨h4, f4⟩
  refine Ok.bd _ (e_putNum h4 (by rw [len_s, l3]; omega) (by omega)) ?_
  rintro _ t5 ⟨h5, f5⟩
  exact Ok.ret ⟨h5, (f13.tr f4).tr f5⟩
def sepI (b : Bool) : Nat := if b = true then 44 else 58
theorem e_tellIn {x n l a : Nat} {w : Nat → Nat → Nat} {B : TS} {t : St} (h : CN x n l w t) (g : netAt x = true) (hw : WF n w) (hn : n < 10) (ha : a < n) (hO : OC B.1 t) (hl : B.1.length + 6 * (n - (a + 1)) + 12 ≤ 256) : Ok (wh (SX11_tellNet_39 x (nI a)) (nI (sepI B.2), nI (a + 1)) t) (fun r u => r = nI (sepI (tli w a B (n - (a + 1))).2) ∧ OC (tli w a B (n - (a + 1))).1 u ∧ TF t u) := by
  have hx := (net_q g).1
  refine Ok.count (n - (a + 1)) (fun k c s => c = (nI (sepI (tli w a B k).2), nI (a + 1 + k)) ∧ OC (tli w a B k).1 s ∧ TF t s) ?_ ?_ (Nat.zero_le _) ⟨rfl, hO, TF.rf⟩
  · rintro k c s hk ⟨rfl, s1, s2⟩
    unfold SX11_tellNet_39
    dsimp only
    have hs := s2.cn h hx
    have w9 := hw.1 a (a + 1 + k)
    have tl := tli_len (a := a) (B := B) hw hn (k := k) (by omega)
    refine Ok.rdE hs.1 (Ok.ifF (by rw [nI_leP (by omega) (by omega)]; omega) (Ok.bq (q_weightOf hs g (by omega) (by omega)) (Ok.bd (fun r u => r = nI (sepI (tli w a B (k + 1)).2) ∧ OC (tli w a B (k + 1)).1 u ∧ TF t u) ?_ ?_)))
    · rw [tli]
      refine Ok.cv (nI_leP (b := 0) (by omega) (by omega)) (Ok.ite (fun c => Ok.ret ?_) (fun c => ?_))
      · rw [if_pos (by omega)]
        exact ⟨rfl, s1, s2⟩
      · rw [if_neg (c := w a (a + 1 + k) = 0) (by omega)]
        refine Ok.bd _ (e_put (b := sepI (tli w a B k).2) s1 (by omega) (by unfold sepI; split <;> omega)) ?_
        rintro _ t1 ⟨h1, f1⟩
        refine Ok.bd _ (e_tellLine h1 (a := a) (b := a + 1 + k) (v := w a (a + 1 + k)) (by omega) (by omega) w9 (by rw [len_s]; omega)) ?_
        rintro _ t2 ⟨h2, f2⟩
        refine Ok.ret ⟨rfl, ?_, (s2.tr f1).tr f2⟩
        exact h2
    · rintro _ u ⟨rfl, u1, u2⟩
      exact Ok.ret ⟨by rw [nI_1]; rfl, u1, u2⟩
  · rintro c s ⟨rfl, s1, s2⟩
    unfold SX11_tellNet_39
    dsimp only
    exact Ok.rdE (s2.cn h hx).1 (Ok.ifT (by rw [nI_leP (by omega) (by omega)]; omega) (Ok.ret ⟨rfl, s1, s2⟩))
theorem e_tellNet {x n l : Nat} {w : Nat → Nat → Nat} {t : St} (h : CN x n l w t) (g : netAt x = true) (hw : WF n w) (hn : n < 10) (hO : OC [] t) : Ok (FX11_tellNet x t) (fun _ u => OC ((tlo n w ([110, 101, 116, 32] ++ nd n, false) n).1 ++ [59]) u ∧ TF t u) := by
  have hx := (net_q g).1
  unfold FX11_tellNet
  refine Ok.ckT g (Ok.bd _ (e_txt_s2 hO (by decide)) ?_)
  rintro _ t1 ⟨h1, f1⟩
  rw [List.nil_append] at h1
  refine Ok.rdE (f1.cn h hx).1 (Ok.bd _ (e_putNum h1 (by decide) (by omega)) ?_)
  rintro _ t2 ⟨h2, f2⟩
  have l2 : ([110, 101, 116, 32] ++ nd n).length = 5 := by rw [nd_1 hn]; rfl
  refine Ok.bd (fun _ u => OC (tlo n w ([110, 101, 116, 32] ++ nd n, false) n).1 u ∧ TF t u) ?_ ?_
  · refine Ok.count n (fun i c s => c = (nI (sepI (tlo n w ([110, 101, 116, 32] ++ nd n, false) i).2), nI i) ∧ OC (tlo n w ([110, 101, 116, 32] ++ nd n, false) i).1 s ∧ TF t s) ?_ ?_ (Nat.zero_le _) ⟨rfl, h2, f1.tr f2⟩
    · rintro i c s hi ⟨rfl, s1, s2⟩
      unfold SX11_tellNet_26
      dsimp only
      have hs := s2.cn h hx
      have tl := tlo_len (B := ([110, 101, 116, 32] ++ nd n, false)) hw hn (i := i) (by omega)
      have tr : tri i + (8 - i) ≤ 36 := tri_le (by omega)
      refine Ok.rdE hs.1 (Ok.ifF (by rw [nI_leP (by omega) (by omega)]; omega) ?_)
      rw [nI_1]
      refine Ok.bd _ (e_tellIn (B := tlo n w ([110, 101, 116, 32] ++ nd n, false) i) hs g hw hn hi s1 (by dsimp only at tl; omega)) ?_
      rintro _ u ⟨rfl, u1, u2⟩
      exact Ok.ret ⟨rfl, u1, s2.tr u2⟩
    · rintro c s ⟨rfl, s1, s2⟩
      unfold SX11_tellNet_26
      dsimp only
      exact Ok.rdE (s2.cn h hx).1 (Ok.ifT (by rw [nI_leP (by omega) (by omega)]; omega) (Ok.ret ⟨s1, s2⟩))
  · rintro _ t3 ⟨h3, f3⟩
    have tl := tlo_len (B := ([110, 101, 116, 32] ++ nd n, false)) hw hn (i := n) (Nat.le_refl _)
    have tr : tri n ≤ 36 := tri_9 (by omega)
    refine Ok.bd _ (e_put (b := 59) h3 (by dsimp only at tl; omega) (by omega)) ?_
    rintro _ u ⟨u1, u2⟩
    exact Ok.ret ⟨u1, f3.tr u2⟩
theorem e_tellRow {x n l : Nat} {w : Nat → Nat → Nat} {o : Nat → Nat} {X : List Nat} {t : St} (h : CN x n l w t) (g : netAt x = true) (hn : n < 10) (ho : CO x n o t) (h9 : ∀ i, i < n → o i < 9) (hO : OC X t) (hX : X.length ≤ 230) : Ok (FX11_tellRow x t) (fun _ u => OC (dgs (X ++ [114, 111, 119, 32]) o n ++ [59]) u ∧ TF t u) := by
  have hx := (net_q g).1
  unfold FX11_tellRow
  refine Ok.ckT g (Ok.bd _ (e_txt_s3 hO (by omega)) ?_)
  rintro _ t1 ⟨h1, f1⟩
  have l1 : (X ++ [114, 111, 119, 32]).length = X.length + 4 := List.length_append
  have dl : ∀ j, j ≤ n → (dgs (X ++ [114, 111, 119, 32]) o j).length = X.length + 4 + j := fun j hj => by
    rw [dgs_len (n := n) (fun i hi => by have := h9 i hi; omega) hj, l1]
  refine Ok.bd (fun _ u => OC (dgs (X ++ [114, 111, 119, 32]) o n) u ∧ TF t u) ?_ ?_
  · refine Ok.count n (fun j c s => c = nI j ∧ OC (dgs (X ++ [114, 111, 119, 32]) o j) s ∧ TF t s) ?_ ?_ (Nat.zero_le _) ⟨rfl, h1, f1⟩
    · rintro j c s hj ⟨rfl, s1, s2⟩
      unfold SX11_tellRow_12
      have hs := s2.cn h hx
      have hdl := dl j (by omega)
      have oj := h9 j hj
      refine Ok.rdE hs.1 (Ok.ifF (by rw [nI_leP (by omega) (by omega)]; omega) (Ok.ckT (inb_n (by omega) (by omega)) ?_))
      rw [nI_cl (by omega)]
      refine Ok.rdE (s2.co ho hx j hj) (Ok.bd _ (e_putNum s1 (by omega) (by omega)) ?_)
      rintro _ u ⟨u1, u2⟩
      exact Ok.ret ⟨nI_1 j, u1, s2.tr u2⟩
    · rintro c s ⟨rfl, s1, s2⟩
      unfold SX11_tellRow_12
      exact Ok.rdE (s2.cn h hx).1 (Ok.ifT (by rw [nI_leP (by omega) (by omega)]; omega) (Ok.ret ⟨s1, s2⟩))
  · rintro _ t3 ⟨h3, f3⟩
    have := dl n (Nat.le_refl _)
    refine Ok.bd _ (e_put (b := 59) h3 (by omega) (by omega)) ?_
    rintro _ u ⟨u1, u2⟩
    exact Ok.ret ⟨u1, f3.tr u2⟩
theorem pri_le {n m i : Nat} {w : Nat → Nat → Nat} {o : Nat → Nat} (hw : WF n w) (hn : n < 10) : pri n w m o i ≤ 729 := prc_le hw hn
theorem e_tellCuts {x n l : Nat} {w : Nat → Nat → Nat} {o : Nat → Nat} {t : St} (h : CN x n l w t) (g : netAt x = true) (hw : WF n w) (hn : n < 10) (h1 : 1 ≤ n) (ho : CO x n o t) (h9 : ∀ i, i < n → o i < 9) (hO : OC [] t) : Ok (FX11_tellCuts x t) (fun _ u => OC (ctx n w o (n - 1)) u ∧ TF t u) := by
  have hx := (net_q g).1
  unfold FX11_tellCuts
  refine Ok.ckT g (Ok.bd (fun _ u => OC (ctx n w o (n - 1)) u ∧ TF t u) ?_ (fun _ _ hu => Ok.ret hu))
  refine Ok.count (n - 1) (fun k c s => c = nI (k + 1) ∧ OC (ctx n w o k) s ∧ TF t s) ?_ ?_ (Nat.zero_le _) ⟨rfl, hO, TF.rf⟩
  · rintro k c s hk ⟨rfl, s1, s2⟩
    unfold SX11_tellCuts_2
    have hs := s2.cn h hx
    have cl := ctx_len (n := n) (w := w) (o := o) (k := k)
    refine Ok.rdE hs.1 (Ok.ifF (by rw [nI_leP (by omega) (by omega)]; omega) (Ok.bd (fun _ u => OC (if k = 0 then ctx n w o k else ctx n w o k ++ [32]) u ∧ TF t u) ?_ ?_))
    · refine Ok.cv (nI_leP (b := 1) (by omega) (by omega)) (Ok.ite (fun c => Ok.ret ⟨by rw [if_pos (by omega)]; exact s1, s2⟩) (fun c => ?_))
      rw [if_neg (c := k = 0) (by omega)]
      refine Ok.bd _ (e_put (b := 32) s1 (by omega) (by omega)) ?_
      rintro _ u ⟨u1, u2⟩
      exact Ok.ret ⟨u1, s2.tr u2⟩
    · rintro _ t1 ⟨g1, f1⟩
      have pl := pri_le (m := 0) (i := k + 1) (o := o) hw hn
      have ll : (if k = 0 then ctx n w o k else ctx n w o k ++ [32]).length ≤ 4 * k + 1 := by
        split
        · omega
        · rw [len_s]; omega
      refine Ok.bq (q_atPlace (m := 0) (i := k + 1) (f1.cn h hx) g hw hn (f1.co ho hx) h9 (by omega) (by omega)) (Ok.bd _ (e_putNum g1 (by omega) (by omega)) ?_)
      rintro _ u ⟨u1, u2⟩
      exact Ok.ret ⟨nI_1 (k + 1), u1, f1.tr u2⟩
  · rintro c s ⟨rfl, s1, s2⟩
    unfold SX11_tellCuts_2
    exact Ok.rdE (s2.cn h hx).1 (Ok.ifT (by rw [nI_leP (by omega) (by omega)]; omega) (Ok.ret ⟨s1, s2⟩))
theorem c_tell {s n l q : Nat} {w : Nat → Nat → Nat} {o : Nat → Nat} {t : St} (hs : s < 3) (h : CN (12 + 24 * s) n l w t) (hw : WF n w) (hn : n < 10) (h1 : 1 ≤ n) (ho : CO (12 + 24 * s) n o t) (h9 : ∀ i, i < n → o i < 9) (hq : q < 2) : Ok (FX11_tell (nI s) (nI q) t) (fun r u => r = nI (tlx n w o q).length ∧ OC (tlx n w o q) u ∧ TF t u) := by
  have g := n_sl hs
  have hx := (net_q g).1
  unfold FX11_tell
  refine Ok.bq (g_netIn hs hn h.1) ?_
  rw [if_neg (c := n = 0) (by omega)]
  refine Ok.ckT g (Ok.ifF (by rw [li_0, nI_ltP (by omega) (by omega)]; omega) (Ok.ifT (by rw [li_1, nI_leP (by omega) (by omega)]; omega) (OkwrE ?_)))
  have f0 : TF t (wr t 3 1 0) := fun c k1 k2 => wr_off c k1
  have O0 : OC [] (wr t 3 1 0) := ⟨wrs, fun i hi => absurd hi (Nat.not_lt_zero i)⟩
  generalize wr t 3 1 0 = y at f0 O0 ⊢
  refine Ok.bd (fun _ u => OC (tlx n w o q) u ∧ TF t u) ?_ ?_
  · unfold tlx
    refine Ok.cv (nI_eqP (b := 0) (by omega) (by omega)) (Ok.ite (fun c => ?_) (fun c => ?_))
    · rw [if_pos c]
      refine Ok.bd _ (e_tellNet (f0.cn h hx) g hw hn O0) ?_
      rintro _ t1 ⟨h1, f1⟩
      have tl := tlo_len (B := ([110, 101, 116, 32] ++ nd n, false)) hw hn (i := n) (Nat.le_refl _)
      have tr : tri n ≤ 36 := tri_9 (by omega)
      have l2 : ([110, 101, 116, 32] ++ nd n).length = 5 := by rw [nd_1 hn]; rfl
      have f01 := f0.tr f1
      refine Ok.bd _ (e_tellRow (f01.cn h hx) g hn (f01.co ho hx) h9 h1 (by rw [len_s]; dsimp only at tl; omega)) ?_
      rintro _ u ⟨u1, u2⟩
      rw [List.append_assoc] at u1
      exact Ok.ret ⟨u1, f01.tr u2⟩
    · rw [if_neg c]
      refine Ok.bd _ (e_tellCuts (f0.cn h hx) g hw hn h1 (f0.co ho hx) h9 O0) ?_
      rintro _ u ⟨u1, u2⟩
      exact Ok.ret ⟨u1, f0.tr u2⟩
  · rintro _ u ⟨u1, u2⟩
    exact Ok.rdE u1.1 (Ok.ret ⟨rfl, u1, u2⟩)
