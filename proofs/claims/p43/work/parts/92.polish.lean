/-! polish: pure -/
theorem cut_in {A : Nat} {f : Nat → Nat} (hf : ∀ b, f b < 10) : ∀ {k : Nat}, sm k (fun b => if A.testBit b = true then 0 else f b) + 9 * cnt A k ≤ 9 * k
  | 0 => Nat.le_refl _
  | k + 1 => by
    have ih := cut_in (A := A) hf (k := k)
    have := hf k
    show sm k (fun b => if A.testBit b = true then 0 else f b) + (if A.testBit k = true then 0 else f k) + 9 * cnt A (k + 1) ≤ 9 * (k + 1)
    rw [cnt_succ]
    by_cases e : A.testBit k = true
    · rw [if_pos e, if_pos e]; omega
    · rw [if_neg e, if_neg e]; omega
theorem cut_out {A M : Nat} {f : Nat → Nat} (hf : ∀ a, f a ≤ M) : ∀ {k : Nat}, sm k (fun a => if A.testBit a = true then f a else 0) ≤ M * cnt A k
  | 0 => Nat.zero_le _
  | k + 1 => by
    have ih := cut_out (A := A) hf (k := k)
    have := hf k
    show sm k (fun a => if A.testBit a = true then f a else 0) + (if A.testBit k = true then f k else 0) ≤ M * cnt A (k + 1)
    rw [cnt_succ, Nat.mul_add]
    by_cases e : A.testBit k = true
    · rw [if_pos e, if_pos e]; omega
    · rw [if_neg e, if_neg e]; omega
theorem cut_all : ∀ n, n < 10 → ∀ c, c < 10 → (9 * n - 9 * c) * c ≤ 180 := by decide
theorem cutW_180 {n A : Nat} {w : Nat → Nat → Nat} (hw : WF n w) (hn : n < 10) : cutW n w A ≤ 180 := by
  have h1 : cutW n w A ≤ (9 * n - 9 * cnt A n) * cnt A n := cut_out (fun a => by
    have := cut_in (A := A) (f := w a) (hw.1 a) (k := n)
    omega)
  have h2 : cnt A n ≤ n := cnt_le
  have h3 := cut_all n hn (cnt A n) (by omega)
  omega
theorem cst_324 {n m S p : Nat} {w : Nat → Nat → Nat} (hw : WF n w) (hn : n < 10) (hm : ¬ Gr m) : cst n w m S p ≤ 180 := by
  unfold cst prc
  rw [if_neg (fun e => hm (Or.inr (Or.inr e)))]
  by_cases e : m = 6
  · rw [if_pos e]
    have := fil_le (n := n) (w := w) (S := ast m S p) (p := p) hn
    omega
  · rw [if_neg e]
    unfold spl
    have a1 := gatS_le (n := n) (w := w) (A := ast m S p)
    have a2 := frgS_le (n := n) (w := w) (A := ast m S p)
    have a3 := cutW_180 (A := ast m S p) hw hn
    split
    · omega
    · split
      · omega
      · exact a3
theorem vfd_lim {n m : Nat} {w : Nat → Nat → Nat} {o : Nat → Nat} (hw : WF n w) (hn : n < 10) : ∀ i, i ≤ 9 → (Gr m → vfd n w m o i ≤ 729) ∧ (¬ Gr m → vfd n w m o i ≤ 180 * i)
  | 0, _ => ⟨fun _ => Nat.zero_le _, fun _ => Nat.zero_le _⟩
  | i + 1, hi => by
    have ih := vfd_lim (m := m) (o := o) hw hn i (by omega)
    have e : vfd n w m o (i + 1) = jn m (vfd n w m o i) (cst n w m (amk o i) (o i)) := rfl
    refine ⟨fun h => ?_, fun h => ?_⟩
    · rw [e, jn_g h]
      exact Nat.max_le.mpr ⟨ih.1 h, cst_le hw hn⟩
    · rw [e, jn_s h]
      have a := ih.2 h
      have b := cst_324 (S := amk o i) (p := o i) hw hn h
      omega
theorem val_lim {n m : Nat} {w : Nat → Nat → Nat} {o : Nat → Nat} (hw : WF n w) (hn : n < 10) : val n w m o ≤ 1620 := by
  unfold val
  by_cases e : m = 2
  · rw [if_pos e]
    have := bwd_le (w := w) (o := o) (n := n)
    omega
  · rw [if_neg e]
    have := vfd_lim (m := m) (o := o) hw hn n (by omega)
    by_cases g : Gr m
    · have := this.1 g; omega
    · have := this.2 g; omega
theorem swp_swp {o : Nat → Nat} {i j : Nat} : swp (swp o i j) i j = o := by
  funext k
  show (if k = j then (if i = j then o i else if i = i then o j else o i) else if k = i then (if j = j then o i else if j = i then o j else o j) else (if k = j then o i else if k = i then o j else o k)) = o k
  by_cases e1 : k = j
  · rw [if_pos e1, e1]
    by_cases e2 : i = j
    · rw [if_pos e2, e2]
    · rw [if_neg e2, if_pos rfl]
  · rw [if_neg e1]
    by_cases e2 : k = i
    · rw [if_pos e2, if_pos rfl, e2]
    · rw [if_neg e2, if_neg e1, if_neg e2]
abbrev BS := Nat × Int32 × Int32
def pin (f : Nat → Nat) (i : Nat) (B : BS) : Nat → BS
  | 0 => B
  | k + 1 => if (pin f i B k).1 ≤ f (i + 1 + k) then pin f i B k else (f (i + 1 + k), nI i, nI (i + 1 + k))
def pot (f : Nat → Nat → Nat) (n : Nat) (B : BS) : Nat → BS
  | 0 => B
  | i + 1 => pin (f i) i (pot f n B i) (n - (i + 1))
/-- nothing better yet, or a two that is -/
def PB (f : Nat → Nat → Nat) (n v : Nat) (B : BS) : Prop := (B.2.1 = -1 ∧ B.1 = v) ∨ ∃ i j, i < n ∧ j < n ∧ B.2.1 = nI i ∧ B.2.2 = nI j ∧ B.1 = f i j ∧ B.1 < v
theorem PB.le {f : Nat → Nat → Nat} {n v : Nat} {B : BS} (h : PB f n v B) : B.1 ≤ v := by
  rcases h with ⟨-, h⟩ | ⟨i, j, -, -, -, -, -, h⟩ <;> omega
theorem pin_pb {f : Nat → Nat → Nat} {n v i : Nat} {B : BS} (h : PB f n v B) : ∀ {k : Nat}, i + 1 + k ≤ n → PB f n v (pin (f i) i B k)
  | 0, _ => h
  | k + 1, hk => by
    have ih := pin_pb h (i := i) (k := k) (by omega)
    have := ih.le
    rw [pin]
    by_cases c : (pin (f i) i B k).1 ≤ f i (i + 1 + k)
    · rw [if_pos c]; exact ih
    · rw [if_neg c]
      exact Or.inr ⟨i, i + 1 + k, by omega, by omega, rfl, rfl, rfl, by show f i (i + 1 + k) < v; omega⟩
theorem pot_pb {f : Nat → Nat → Nat} {n v : Nat} {B : BS} (h : PB f n v B) : ∀ {i : Nat}, i ≤ n → PB f n v (pot f n B i)
  | 0, _ => h
  | i + 1, hi => pin_pb (pot_pb h (by omega)) (by omega)
noncomputable def pbt (n : Nat) (w : Nat → Nat → Nat) (m : Nat) (o : Nat → Nat) : BS := pot (fun i j => val n w m (swp o i j)) n (val n w m o, -1, -1) n
noncomputable def pnx (n : Nat) (w : Nat → Nat → Nat) (m : Nat) (o : Nat → Nat) : Nat → Nat := swp o (pbt n w m o).2.1.toNatClampNeg (pbt n w m o).2.2.toNatClampNeg
theorem pbt_pb {n m : Nat} {w : Nat → Nat → Nat} {o : Nat → Nat} : PB (fun i j => val n w m (swp o i j)) n (val n w m o) (pbt n w m o) := pot_pb (Or.inl ⟨rfl, rfl⟩) (Nat.le_refl _)
/-- k times points are changed over -/
def PLR (n : Nat) (w : Nat → Nat → Nat) (m : Nat) : Nat → (Nat → Nat) → (Nat → Nat) → Prop
  | 0, o, u => (pbt n w m o).2.1 = -1 ∧ u = o
  | k + 1, o, u => (pbt n w m o).2.1 ≠ -1 ∧ PLR n w m k (pnx n w m o) u
theorem PLR.uq {n m : Nat} {w : Nat → Nat → Nat} : ∀ {k j : Nat} {o u v : Nat → Nat}, PLR n w m k o u → PLR n w m j o v → k = j ∧ u = v
  | 0, 0, o, u, v, h, g => ⟨rfl, by rw [h.2, g.2]⟩
  | 0, j + 1, o, u, v, h, g => absurd h.1 g.1
  | k + 1, 0, o, u, v, h, g => absurd g.1 h.1
  | k + 1, j + 1, o, u, v, h, g => by
    obtain ⟨a, b⟩ := PLR.uq h.2 g.2
    exact ⟨by omega, b⟩
theorem pnx_in {n m : Nat} {w : Nat → Nat → Nat} {o : Nat → Nat} (hn : n < 10) (hg : GO n o) (h : (pbt n w m o).2.1 ≠ -1) : ∃ i j, i < n ∧ j < n ∧ (pbt n w m o).2.1 = nI i ∧ (pbt n w m o).2.2 = nI j ∧ pnx n w m o = swp o i j ∧ val n w m (pnx n w m o) < val n w m o ∧ (pbt n w m o).1 = val n w m (pnx n w m o) ∧ GO n (pnx n w m o) := by
  rcases pbt_pb (n := n) (m := m) (w := w) (o := o) with ⟨a, -⟩ | ⟨i, j, hi, hj, e1, e2, e3, e4⟩
  · exact absurd a h
  · have e : pnx n w m o = swp o i j := by
      unfold pnx
      rw [e1, e2, nI_cl (by omega), nI_cl (by omega)]
    refine ⟨i, j, hi, hj, e1, e2, e, ?_, ?_, ?_⟩
    · rw [e]
      have e3 : (pbt n w m o).1 = val n w m (swp o i j) := e3
      omega
    · rw [e]; exact e3
    · rw [e]; exact hg.swp hi hj
/-! the class -/
theorem e_scanIn {x n l q i : Nat} {w : Nat → Nat → Nat} {o : Nat → Nat} {B : BS} {t : St} (h : CN x n l w t) (g : netAt x = true) (hw : WF n w) (hn : n < 10) (hq : q < 7) (hg : GO n o) (ho : CO x n o t) (hi : i < n) (hB : B.1 ≤ 1620) : Ok (wh (SX8_changeBestTwo_29 x (nI q) (nI i)) (nI B.1, B.2.1, B.2.2, nI (i + 1)) t) (fun r u => r = (nI (pin (fun j => val n w q (swp o i j)) i B (n - (i + 1))).1, (pin (fun j => val n w q (swp o i j)) i B (n - (i + 1))).2.1, (pin (fun j => val n w q (swp o i j)) i B (n - (i + 1))).2.2) ∧ (pin (fun j => val n w q (swp o i j)) i B (n - (i + 1))).1 ≤ 1620 ∧ (∀ c, c ≠ x + 2 → u c = t c) ∧ CO x n o u) := by
  generalize hf : (fun j => val n w q (swp o i j)) = f
  have f9 : ∀ j, f j ≤ 1620 := fun j => by rw [← hf]; exact val_lim hw hn
  refine Ok.count (n - (i + 1)) (fun k c s => c = (nI (pin f i B k).1, (pin f i B k).2.1, (pin f i B k).2.2, nI (i + 1 + k)) ∧ (pin f i B k).1 ≤ 1620 ∧ (∀ c, c ≠ x + 2 → s c = t c) ∧ CO x n o s) ?_ ?_ (Nat.zero_le _) ⟨rfl, hB, fun _ _ => rfl, ho⟩
  · rintro k c s hk ⟨rfl, b1, sf, s1⟩
    unfold SX8_changeBestTwo_29
    dsimp only
    refine Ok.rdE (x := nI n) (by rw [sf x (by omega)]; exact h.1) (Ok.ifF (by rw [nI_leP (by omega) (by omega)]; omega) (Ok.bd _ (e_changeOver g hn s1 hi (j := i + 1 + k) (by omega)) ?_))
    rintro _ t1 ⟨f1, o1⟩
    have h1 : CN x n l w t1 := h.fr (by rw [f1 x (by omega)]; exact sf x (by omega)) (by rw [f1 _ (by omega)]; exact sf _ (by omega)) (by rw [f1 _ (by omega)]; exact sf _ (by omega))
    have g1 : GO n (swp o i (i + 1 + k)) := hg.swp hi (by omega)
    refine Ok.bq (q_measured h1 g hw hn o1 (fun a _ => g1.lt hn a) hq) (Ok.bd _ (e_changeOver g hn o1 hi (j := i + 1 + k) (by omega)) ?_)
    rintro _ t2 ⟨f2, o2⟩
    rw [swp_swp] at o2
    have ev : val n w q (swp o i (i + 1 + k)) = f (i + 1 + k) := by rw [← hf]
    rw [ev]
    have := f9 (i + 1 + k)
    have e1 : pin f i B (k + 1) = if (pin f i B k).1 ≤ f (i + 1 + k) then pin f i B k else (f (i + 1 + k), nI i, nI (i + 1 + k)) := rfl
    refine Ok.bq (a := (nI (pin f i B (k + 1)).1, (pin f i B (k + 1)).2.1, (pin f i B (k + 1)).2.2)) (t := t2) (Ok.eq (Ok.cv (nI_leP (by omega) (by omega)) (Ok.ite (fun c => Ok.ret ⟨rfl, ?_⟩) (fun c => Ok.ret ⟨rfl, ?_⟩)))) (Ok.ret ⟨?_, ?_, fun c hc => by rw [f2 c hc, f1 c hc]; exact sf c hc, o2⟩)
    · rw [e1, if_pos c]
    · rw [e1, if_neg c]
    · dsimp only
      rw [nI_1]
      rfl
    · rw [e1]
      split
      · exact b1
      · exact this
  · rintro c s ⟨rfl, b1, sf, s1⟩
    unfold SX8_changeBestTwo_29
    dsimp only
    exact Ok.rdE (x := nI n) (by rw [sf x (by omega)]; exact h.1) (Ok.ifT (by rw [nI_leP (by omega) (by omega)]; omega) (Ok.ret ⟨rfl, b1, sf, s1⟩))
theorem e_changeBest {x n l q : Nat} {w : Nat → Nat → Nat} {o : Nat → Nat} {t : St} (h : CN x n l w t) (g : netAt x = true) (hw : WF n w) (hn : n < 10) (hq : q < 7) (hg : GO n o) (ho : CO x n o t) : Ok (FX8_changeBestTwo x (nI q) t) (fun r u => (∀ c, c ≠ x + 2 → u c = t c) ∧ (((pbt n w q o).2.1 = -1 ∧ r = 0 ∧ CO x n o u) ∨ ((pbt n w q o).2.1 ≠ -1 ∧ r = 1 ∧ CO x n (pnx n w q o) u))) := by
  unfold FX8_changeBestTwo
  have f9 : ∀ i j, (fun i j => val n w q (swp o i j)) i j ≤ 1620 := fun i j => val_lim hw hn
  refine Ok.ckT g (Ok.bq (q_measured h g hw hn ho (fun a _ => hg.lt hn a) hq) ?_)
  refine Ok.bd (fun r u => r = ((pbt n w q o).2.1, (pbt n w q o).2.2) ∧ (∀ c, c ≠ x + 2 → u c = t c) ∧ CO x n o u) ?_ ?_
  · refine Ok.count n (fun i c s => c = (nI (pot (fun i j => val n w q (swp o i j)) n (val n w q o, -1, -1) i).1, (pot (fun i j => val n w q (swp o i j)) n (val n w q o, -1, -1) i).2.1, (pot (fun i j => val n w q (swp o i j)) n (val n w q o, -1, -1) i).2.2, nI i) ∧ (pot (fun i j => val n w q (swp o i j)) n (val n w q o, -1, -1) i).1 ≤ 1620 ∧ (∀ c, c ≠ x + 2 → s c = t c) ∧ CO x n o s) ?_ ?_ (Nat.zero_le _) ⟨rfl, val_lim hw hn, fun _ _ => rfl, ho⟩
    · rintro i c s hi ⟨rfl, b1, sf, s1⟩
      unfold SX8_changeBestTwo_14
      dsimp only
      have h1 : CN x n l w s := h.fr (sf x (by omega)) (sf _ (by omega)) (sf _ (by omega))
      refine Ok.rdE h1.1 (Ok.ifF (by rw [nI_leP (by omega) (by omega)]; omega) ?_)
      rw [nI_1]
      refine Ok.bd _ (e_scanIn (B := pot (fun i j => val n w q (swp o i j)) n (val n w q o, -1, -1) i) h1 g hw hn hq hg s1 hi b1) ?_
      rintro _ u ⟨rfl, u1, u2, u3⟩
      exact Ok.ret ⟨rfl, u1, fun c hc => by rw [u2 c hc]; exact sf c hc, u3⟩
    · rintro c s ⟨rfl, b1, sf, s1⟩
      unfold SX8_changeBestTwo_14
      dsimp only
      exact Ok.rdE (x := nI n) (by rw [sf x (by omega)]; exact h.1) (Ok.ifT (by rw [nI_leP (by omega) (by omega)]; omega) (Ok.ret ⟨rfl, sf, s1⟩))
  · rintro _ t1 ⟨rfl, f1, o1⟩
    refine Ok.ite (fun c => Ok.ret ⟨f1, Or.inl ⟨c, rfl, o1⟩⟩) (fun c => ?_)
    obtain ⟨i, j, hi, hj, e1, e2, e3, -, -, -⟩ := pnx_in hn hg c
    show Ok (bnd (FX5_changeOver x (pbt n w q o).2.1 (pbt n w q o).2.2 t1) _) _
    rw [e1, e2]
    refine Ok.bd _ (e_changeOver g hn o1 hi hj) ?_
    rintro _ u ⟨u1, u2⟩
    exact Ok.ret ⟨fun c hc => by rw [u1 c hc]; exact f1 c hc, Or.inr ⟨by rw [← e1]; exact c, rfl, by rw [e3]; exact u2⟩⟩
theorem e_polishRow {x n l q : Nat} {w : Nat → Nat → Nat} {o : Nat → Nat} {t : St} (h : CN x n l w t) (g : netAt x = true) (hw : WF n w) (hn : n < 10) (hq : q < 7) (hg : GO n o) (ho : CO x n o t) : Ok (FX8_polishRow x (nI q) t) (fun r u => ∃ k v, r = nI k ∧ PLR n w q k o v ∧ GO n v ∧ CO x n v u ∧ ∀ c, c ≠ x + 2 → u c = t c) := by
  unfold FX8_polishRow
  refine Ok.ckT g (Ok.bd (fun r u => ∃ k v, r = .inl (nI k) ∧ PLR n w q k o v ∧ GO n v ∧ CO x n v u ∧ ∀ c, c ≠ x + 2 → u c = t c) ?_ ?_)
  · refine Ok.count 4000 (fun k c s => c = nI k ∧ ∃ v, GO n v ∧ CO x n v s ∧ (∀ c, c ≠ x + 2 → s c = t c) ∧ val n w q v + k ≤ 1620 ∧ ∀ j u, PLR n w q j v u → PLR n w q (j + k) o u) ?_ ?_ (Nat.zero_le _) ⟨rfl, o, hg, ho, fun _ _ => rfl, by have := val_lim (m := q) (o := o) hw hn; omega, fun _ _ p => p⟩
    · rintro k c s hk ⟨rfl, v, v1, v2, sf, v3, v4⟩
      unfold SX8_polishRow_2
      have h1 : CN x n l w s := h.fr (sf x (by omega)) (sf _ (by omega)) (sf _ (by omega))
      refine Ok.ifF (by rw [li_4000, nI_leP (by omega) (by omega)]; omega) (Ok.bd _ (e_changeBest h1 g hw hn hq v1 v2) ?_)
      rintro r u ⟨uf, ⟨a, rfl, b⟩ | ⟨a, rfl, b⟩⟩
      · refine Ok.ifT rfl (Ok.ret ⟨k, v, rfl, ?_, v1, b, fun c hc => by rw [uf c hc]; exact sf c hc⟩)
        have := v4 0 v ⟨a, rfl⟩
        rw [Nat.zero_add] at this
        exact this
      · obtain ⟨i, j, hi, hj, e1, e2, e3, e4, e5, e6⟩ := pnx_in hn v1 a
        refine Ok.ifF (by decide) (Ok.ret ⟨nI_1 k, pnx n w q v, e6, b, fun c hc => by rw [uf c hc]; exact sf c hc, by omega, fun j u p => ?_⟩)
        have := v4 (j + 1) u ⟨a, p⟩
        rw [show j + 1 + k = j + (k + 1) by omega] at this
        exact this
    · rintro c s ⟨rfl, v, v1, v2, sf, v3, v4⟩
      omega
  · rintro _ u ⟨k, v, rfl, a1, a2, a3, a4⟩
    exact Ok.ret ⟨k, v, rfl, a1, a2, a3, a4⟩
/-! the reference -/
theorem m_scanIn {s n q i : Nat} {w : Nat → Nat → Nat} {o : Nat → Nat} {B : BS} {t : St} {w3 w4 : Int32} (h : RN s n w t) (hs : s < 3) (hw : WF n w) (hn : n < 10) (hq : q < 7) (hg : GO n o) (ho : MO n o t) (hi : i < n) (hB : B.1 ≤ 1620) : Ok (wh (SX12_polishes_52 (nI s) (nI q) w3 w4 (nI i)) (B.2.1, B.2.2, nI B.1, nI (i + 1)) t) (fun r u => r = ((pin (fun j => val n w q (swp o i j)) i B (n - (i + 1))).2.1, (pin (fun j => val n w q (swp o i j)) i B (n - (i + 1))).2.2, nI (pin (fun j => val n w q (swp o i j)) i B (n - (i + 1))).1) ∧ (pin (fun j => val n w q (swp o i j)) i B (n - (i + 1))).1 ≤ 1620 ∧ (∀ c, c ≠ 154 → u c = t c) ∧ MO n o u) := by
  generalize hf : (fun j => val n w q (swp o i j)) = f
  have f9 : ∀ j, f j ≤ 1620 := fun j => by rw [← hf]; exact val_lim hw hn
  refine Ok.count (n - (i + 1)) (fun k c s' => c = ((pin f i B k).2.1, (pin f i B k).2.2, nI (pin f i B k).1, nI (i + 1 + k)) ∧ (pin f i B k).1 ≤ 1620 ∧ (∀ c, c ≠ 154 → s' c = t c) ∧ MO n o s') ?_ ?_ (Nat.zero_le _) ⟨rfl, hB, fun _ _ => rfl, ho⟩
  · rintro k c s' hk ⟨rfl, b1, sf, s1⟩
    unfold SX12_polishes_52
    dsimp only
    refine Ok.bq (q_points (h.fr (sf 150 (by decide))) hs) (Ok.ifF (by rw [nI_leP (by omega) (by omega)]; omega) (Ok.bd _ (m_exch hn s1 hi (j := i + 1 + k) (by omega)) ?_))
    rintro _ t1 ⟨f1, o1⟩
    have h1 : RN s n w t1 := h.fr (by rw [f1 150 (by decide)]; exact sf 150 (by decide))
    have g1 : GO n (swp o i (i + 1 + k)) := hg.swp hi (by omega)
    refine Ok.bq (q_valueOf h1 hs hw hn o1 (fun a _ => g1.lt hn a) hq) (Ok.bd _ (m_exch hn o1 hi (j := i + 1 + k) (by omega)) ?_)
    rintro _ t2 ⟨f2, o2⟩
    rw [swp_swp] at o2
    have ev : val n w q (swp o i (i + 1 + k)) = f (i + 1 + k) := by rw [← hf]
    rw [ev]
    have := f9 (i + 1 + k)
    have e1 : pin f i B (k + 1) = if (pin f i B k).1 ≤ f (i + 1 + k) then pin f i B k else (f (i + 1 + k), nI i, nI (i + 1 + k)) := rfl
    refine Ok.bq (a := ((pin f i B (k + 1)).2.1, (pin f i B (k + 1)).2.2, nI (pin f i B (k + 1)).1)) (t := t2) (Ok.eq (Ok.cv (nI_leP (by omega) (by omega)) (Ok.ite (fun c => Ok.ret ⟨rfl, ?_⟩) (fun c => Ok.ret ⟨rfl, ?_⟩)))) (Ok.ret ⟨?_, ?_, fun c hc => by rw [f2 c hc, f1 c hc]; exact sf c hc, o2⟩)
    · rw [e1, if_pos c]
    · rw [e1, if_neg c]
    · dsimp only
      rw [nI_1]
      rfl
    · rw [e1]
      split
      · exact b1
      · exact this
  · rintro c s' ⟨rfl, b1, sf, s1⟩
    unfold SX12_polishes_52
    dsimp only
    exact Ok.bq (q_points (h.fr (sf 150 (by decide))) hs) (Ok.ifT (by rw [nI_leP (by omega) (by omega)]; omega) (Ok.ret ⟨rfl, b1, sf, s1⟩))
theorem m_scan {s n q : Nat} {w : Nat → Nat → Nat} {o : Nat → Nat} {t : St} {w3 w4 : Int32} (h : RN s n w t) (hs : s < 3) (hw : WF n w) (hn : n < 10) (hq : q < 7) (hg : GO n o) (ho : MO n o t) : Ok (wh (SX12_polishes_36 (nI s) (nI q) w3 w4) ((-1 : Int32), (-1 : Int32), nI (val n w q o), (0 : Int32)) t) (fun r u => r = ((pbt n w q o).2.1, (pbt n w q o).2.2, nI (pbt n w q o).1) ∧ (∀ c, c ≠ 154 → u c = t c) ∧ MO n o u) := by
  refine Ok.count n (fun i c s' => c = ((pot (fun i j => val n w q (swp o i j)) n (val n w q o, -1, -1) i).2.1, (pot (fun i j => val n w q (swp o i j)) n (val n w q o, -1, -1) i).2.2, nI (pot (fun i j => val n w q (swp o i j)) n (val n w q o, -1, -1) i).1, nI i) ∧ (pot (fun i j => val n w q (swp o i j)) n (val n w q o, -1, -1) i).1 ≤ 1620 ∧ (∀ c, c ≠ 154 → s' c = t c) ∧ MO n o s') ?_ ?_ (Nat.zero_le _) ⟨rfl, val_lim hw hn, fun _ _ => rfl, ho⟩
  · rintro i c s' hi ⟨rfl, b1, sf, s1⟩
    unfold SX12_polishes_36
    dsimp only
    have h1 : RN s n w s' := h.fr (sf 150 (by decide))
    refine Ok.bq (q_points h1 hs) (Ok.ifF (by rw [nI_leP (by omega) (by omega)]; omega) ?_)
    rw [nI_1]
    refine Ok.bd _ (m_scanIn (B := pot (fun i j => val n w q (swp o i j)) n (val n w q o, -1, -1) i) h1 hs hw hn hq hg s1 hi b1) ?_
    rintro _ u ⟨rfl, u1, u2, u3⟩
    exact Ok.ret ⟨rfl, u1, fun c hc => by rw [u2 c hc]; exact sf c hc, u3⟩
  · rintro c s' ⟨rfl, b1, sf, s1⟩
    unfold SX12_polishes_36
    dsimp only
    exact Ok.bq (q_points (h.fr (sf 150 (by decide))) hs) (Ok.ifT (by rw [nI_leP (by omega) (by omega)]; omega) (Ok.ret ⟨rfl, sf, s1⟩))
theorem m_polishes {s n q : Nat} {w : Nat → Nat → Nat} {o : Nat → Nat} {t : St} (h : RN s n w t) (hs : s < 3) (hw : WF n w) (hn : n < 10) (hq : q < 7) (hg : GO n o) (ho : RO s n o t) : Pc (FX12_polishes (nI s) (nI q) t) (fun r u => ∃ k v, r = nI k ∧ PLR n w q k o v ∧ GO n v ∧ MO n v u ∧ ∀ c, c ≠ 154 → u c = t c) := by
  unfold FX12_polishes
  refine Pc.bd _ (m_laysRow hs hn h ho).pc ?_
  rintro _ t1 ⟨f1, o1⟩
  refine Pc.bq (q_valueOf (h.fr (f1 150 (by decide))) hs hw hn o1 (fun a _ => hg.lt hn a) hq) ?_
  refine Pc.bd (fun r u => ∃ k v, r = nI k ∧ PLR n w q k o v ∧ GO n v ∧ MO n v u ∧ ∀ c, c ≠ 154 → u c = t c) ?_ (fun _ _ hu => Pc.ret hu)
  refine Pc.loop (fun c s' => ∃ k v, c.1 = nI k ∧ c.2.1 = nI (val n w q v) ∧ GO n v ∧ MO n v s' ∧ (∀ c, c ≠ 154 → s' c = t c) ∧ ((c.2.2 = 1 ∧ ∀ j u, PLR n w q j v u → PLR n w q (j + k) o u) ∨ (c.2.2 = 0 ∧ PLR n w q k o v))) ?_ ⟨0, o, rfl, rfl, hg, o1, f1, Or.inl ⟨rfl, fun _ _ p => p⟩⟩
  rintro ⟨c1, c2, c3⟩ s' ⟨k, v, e1, e2, v1, v2, sf, e3⟩
  dsimp only at e1 e2 e3
  subst e1
  subst e2
  unfold SX12_polishes_18
  dsimp only
  rcases e3 with ⟨rfl, v4⟩ | ⟨rfl, v4⟩
  · refine Pc.ifF (by decide) (Pc.bd _ (m_scan (h.fr (sf 150 (by decide))) hs hw hn hq v1 v2).pc ?_)
    rintro _ t2 ⟨rfl, f2, o2⟩
    dsimp only
    by_cases c : (pbt n w q v).2.1 = -1
    · refine Pc.bq (a := (0 : Int32)) (t := t2) (by rw [if_pos c]) (Pc.bq (a := (nI k, nI (val n w q v))) (t := t2) (if_pos rfl) (Pc.ret ⟨k, v, rfl, rfl, v1, o2, fun c hc => by rw [f2 c hc]; exact sf c hc, Or.inr ⟨rfl, ?_⟩⟩))
      have := v4 0 v ⟨c, rfl⟩
      rw [Nat.zero_add] at this
      exact this
    · obtain ⟨i, j, hi, hj, b1, b2, b3, b4, b5, b6⟩ := pnx_in hn v1 c
      refine Pc.bq (a := (1 : Int32)) (t := t2) (by rw [if_neg c]) (Pc.bd (fun r u => r = (nI (k + 1), nI (val n w q (pnx n w q v))) ∧ (∀ c, c ≠ 154 → u c = t2 c) ∧ MO n (pnx n w q v) u) ?_ ?_)
      · rw [b1, b2, b5]
        refine Pc.ifF (by decide) (Pc.bd _ (m_exch hn o2 hi hj).pc ?_)
        rintro _ u ⟨u1, u2⟩
        exact Pc.ret ⟨by rw [nI_1], u1, by rw [b3]; exact u2⟩
      · rintro _ u ⟨rfl, u1, u2⟩
        refine Pc.ret ⟨k + 1, pnx n w q v, rfl, rfl, b6, u2, fun c hc => by rw [u1 c hc, f2 c hc]; exact sf c hc, Or.inl ⟨rfl, fun j u p => ?_⟩⟩
        have := v4 (j + 1) u ⟨c, p⟩
        rw [show j + 1 + k = j + (k + 1) by omega] at this
        exact this
  · exact Pc.ifT rfl (Pc.ret ⟨k, v, rfl, v4, v1, v2, sf⟩)
section
variable {K K' : Nat → Nat → V4} {m m' s : Nat} {t : St}
theorem c_polish {q : Nat} (hG : GK K m) (hs : s < 3) (hC : CST K m t) (hq : q < 7) (h1 : 1 ≤ (K m s).1) : Ok (FX11_polish (nI s) (nI q) t) (fun r u => ∃ k v, r = nI k ∧ PLR (K m s).1 (K m s).2.2.1 q k (K m s).2.2.2 v ∧ GO (K m s).1 v ∧ CNX K m s (vwo (K m s) v) u ∧ AF s t u) := by
  have hv := hG.2 m (Nat.le_refl _) s hs
  have hn : (K m s).1 < 10 := hv.1.1
  have hx := hC.1 s hs
  have g := n_sl hs
  unfold FX11_polish
  refine Ok.bq (g_netIn hs hn hx.1.1) ?_
  rw [if_neg (c := (K m s).1 = 0) (by omega)]
  refine Ok.ckT g (Ok.bq (g_ms hq) (Ok.ifF (by decide) (Ok.bd _ (e_kept hG hs hC) ?_)))
  rintro _ t1 ⟨k1, x1, f1⟩
  refine Ok.bd _ (e_polishRow x1.1 g hv.1.2.1 hn hq hv.go x1.2) ?_
  rintro _ t2 ⟨k, v, rfl, a1, a2, a3, f2⟩
  refine Ok.bd _ (c_note (v := vwo (K m s) v) hG hs (hv.vwo a2) hC (fun c c1 c2 => by rw [f2 c (by omega)]; exact f1 c c2) (k1.fr4 (fun c c1 c2 => f2 c (by omega))) (x1.vwo f2 a3)) ?_
  rintro _ u ⟨u1, u2, u3⟩
  exact Ok.ret ⟨k, v, rfl, a1, a2, u1, u3⟩
theorem m_polish {q k : Nat} {v : Nat → Nat} (hG : GK K m) (hs : s < 3) (hM : MST K m t) (hq : q < 7) (h1 : 1 ≤ (K m s).1) (hP : PLR (K m s).1 (K m s).2.2.1 q k (K m s).2.2.2 v) (hN : NXT K m s (vwo (K m s) v) K' m') : Pc (FX12_polish (nI s) (nI q) t) (fun r u => r = nI k ∧ MST K' m' u) := by
  have hv := hG.2 m (Nat.le_refl _) s hs
  have hn : (K m s).1 < 10 := hv.1.1
  have hr := hM.2.1.rn hs
  unfold FX12_polish
  refine Pc.bq (g_isNet hs hn hr) ?_
  rw [if_neg (c := (K m s).1 = 0) (by omega)]
  refine Pc.ifF (by decide) (Pc.bq (g_msM hq) (Pc.ifF (by decide) (Pc.bd _ (m_polishes hr hs hv.1.2.1 hn hq hv.go (hM.2.1.ro hs hv)) ?_)))
  rintro _ t1 ⟨k', v', rfl, a1, a2, a3, f1⟩
  obtain ⟨rfl, rfl⟩ := a1.uq hP
  have M1 : MST K m t1 := hM.fr (by rw [f1 149 (by decide)]) (f1 150 (by decide)) (f1 152 (by decide))
  refine Pc.bd _ (m_takesRow hG hs M1 (hv.vwo a2) hN a3).pc ?_
  rintro _ u ⟨-, u1, -⟩
  exact Pc.ret ⟨rfl, u1⟩
end
