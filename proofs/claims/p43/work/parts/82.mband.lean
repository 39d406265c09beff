/-! the reference goes through rows by how far ends lie apart -/
theorem ilk_all : ∀ i, i < 11 → ∀ L, L < 11 → ∀ k, k < 11 → decide (nI i - nI L ≤ nI k) = decide (i ≤ k + L) := by decide +kernel
theorem ilk {i L k : Nat} (hi : i < 11) (hL : L < 11) (hk : k < 11) : (nI i - nI L ≤ nI k) = (i ≤ k + L) := by
  have := ilk_all i hi L hL k hk
  exact propext ⟨fun h => of_decide_eq_true (by rw [← this]; exact decide_eq_true h), fun h => of_decide_eq_true (by rw [this]; exact decide_eq_true h)⟩
theorem q_can {s n i L p : Nat} {w : Nat → Nat → Nat} {P : Nat → Nat} {t : St} {rec : Int32 → Int32 → Int32 → Int32 → Int32 → St → Option ((Int32) × St)} {w3 w5 : Int32} (h : RN s n w t) (hs : s < 3) (hi : i ≤ 9) (hL : L < 11) (hp : p < 9) (hP : ∀ j, j < i → t 154 j = nI (P j)) (h9 : ∀ j, j < i → P j < 9) (hw : WF n w) {b : Bool} : wh (SX12_goesBand_107 rec (nI s) (nI i) w3 (nI L) w5 (nI p)) (nI b.toNat, (0 : Int32)) t = some (nI (b && canb w L P i p).toNat, t) := by
  refine Ok.eq ?_
  refine Ok.count (i - L) (fun j c s' => t = s' ∧ ∃ b' : Bool, c = (nI b'.toNat, nI j) ∧ (b' = true ↔ b = true ∧ ∀ k, k < j → w (P k) p = 0)) ?_ ?_ (Nat.zero_le _) ⟨rfl, b, rfl, ⟨fun q => ⟨q, fun k hk => by omega⟩, fun q => q.1⟩⟩
  · rintro j c s' hj ⟨rfl, b', rfl, hb⟩
    unfold SX12_goesBand_107
    dsimp only
    refine Ok.ifF (by rw [ilk (by omega) hL (by omega)]; omega) (Ok.cv b01 (Ok.ite (fun c => Ok.ret ⟨rfl, ?_⟩) (fun c => Ok.ckT (inb_n (by omega) (by omega)) ?_)))
    · have : ¬ (b = true ∧ ∀ k, k < j → w (P k) p = 0) := fun q => by rw [hb.mpr q] at c; cases c
      have e : (b && canb w L P i p) = false := bF (fun q => this ?_)
      · rw [e, c]
      · simp only [Bool.and_eq_true] at q
        exact ⟨q.1, fun k hk => (of_decide_eq_true q.2) k (by omega) (by omega)⟩
    · rw [nI_cl (by omega)]
      refine Ok.rdE (hP j (by omega)) (Ok.bq (q_weight h hs (h9 j (by omega)) hp) ?_)
      have hw9 := hw.1 (P j) p
      refine Ok.bq (a := nI (decide (w (P j) p = 0)).toNat) (t := t) (Ok.eq (Ok.cv (nI_q0 (by omega)) (Ok.ite (fun c => Ok.ret ⟨rfl, by rw [decide_eq_true c]; rfl⟩) (fun c => Ok.ret ⟨rfl, by rw [decide_eq_false c]; rfl⟩)))) (Ok.ret ⟨rfl, decide (w (P j) p = 0), by rw [nI_1], ?_⟩)
      have hb2 := hb.mp (bT c)
      rw [decide_eq_true_eq]
      refine ⟨fun q => ⟨hb2.1, fun k hk => ?_⟩, fun q => q.2 j (Nat.lt_succ_self j)⟩
      by_cases e : k = j
      · subst e; exact q
      · exact hb2.2 k (by omega)
  · rintro c s' ⟨rfl, b', rfl, hb⟩
    unfold SX12_goesBand_107
    dsimp only
    refine Ok.ifT (by rw [ilk (by omega) hL (by omega)]; omega) (Ok.ret ⟨rfl, ?_⟩)
    have : b' = (b && canb w L P i p) := by
      cases e : (b && canb w L P i p)
      · refine bF (fun q => ?_)
        have := hb.mp q
        rw [this.1, Bool.true_and] at e
        rw [show canb w L P i p = true from decide_eq_true (fun k hk hkL => this.2 k (by omega))] at e
        cases e
      · simp only [Bool.and_eq_true] at e
        exact hb.mpr ⟨e.1, fun k hk => (of_decide_eq_true e.2) k (by omega) (by omega)⟩
    rw [this]
theorem isb_0 : isb (0 : Int32) = true := by decide +kernel
theorem isb_1 : isb (1 : Int32) = true := by decide +kernel
/-- the points that are first in those rows -/
def bfs (n : Nat) (w : Nat → Nat → Nat) (L i : Nat) (P : Nat → Nat) : Nat := if i = 0 then bld n w L 0 P else if 0 < bct n w L (n - i) i P then 2 ^ P 0 else 0
/-- what goesBand may change -/
def FB (t u : St) : Prop := (∀ c, c ≠ 149 → c ≠ 154 → c ≠ 158 → u c = t c) ∧ ∀ j, j ≠ 18 → j ≠ 19 → u 149 j = t 149 j
theorem FB.rf {t : St} : FB t t := ⟨fun _ _ _ _ => rfl, fun _ _ _ => rfl⟩
theorem FB.tr {t u v : St} (h : FB t u) (g : FB u v) : FB t v := ⟨fun c a b d => (g.1 c a b d).trans (h.1 c a b d), fun j a b => (g.2 j a b).trans (h.2 j a b)⟩
theorem FB.rn {s n : Nat} {w : Nat → Nat → Nat} {t u : St} (h : FB t u) (g : RN s n w t) : RN s n w u := g.fr (h.1 150 (by decide) (by decide) (by decide))
theorem FB.w {t : St} {i : Nat} {v : Int32} : FB t (wr t 154 i v) := ⟨fun c _ a _ => wr_off c a, fun j _ _ => by rw [wr_off 149 (by decide)]⟩
/-- the leaf: bandBest is laid at the first row -/
theorem q_leaf {n : Nat} {t : St} {rec : Int32 → Int32 → Int32 → Int32 → Int32 → St → Option ((Int32) × St)} {e : Int32} {o : Nat → Nat} (hn : n < 10) (ho : ∀ j, j < n → t 154 j = nI (o j)) : Ok (wh (SX12_goesBand_19 rec (nI n) e) (0 : Int32) t) (fun _ u => (∀ c, c ≠ 158 → u c = t c) ∧ ∀ j, j < n → u 158 j = nI (o j)) := by
  refine Ok.count n (fun j c s => c = nI j ∧ (∀ c, c ≠ 158 → s c = t c) ∧ ∀ i, i < j → s 158 i = nI (o i)) ?_ ?_ (Nat.zero_le _) ⟨rfl, fun _ _ => rfl, fun i hi => by omega⟩
  · rintro j c s hj ⟨rfl, sf, s1⟩
    unfold SX12_goesBand_19
    refine Ok.ifF (by rw [nI_leP (by omega) (by omega)]; omega) (Ok.ckT (inb_n (by omega) (by omega)) ?_)
    rw [nI_cl (by omega)]
    refine Ok.rdE (x := nI (o j)) (by rw [sf 154 (by decide)]; exact ho j hj) (Ok.ckT (inb_n (by omega) (by omega)) (OkwrE (Ok.ret ⟨nI_1 j, fun c hc => ?_, fun i hi => ?_⟩)))
    · rw [wr_off c hc]; exact sf c hc
    · by_cases e : i = j
      · subst e; rw [wrs]
      · rw [wrn e]; exact s1 i (by omega)
  · rintro c s ⟨rfl, sf, s1⟩
    unfold SX12_goesBand_19
    exact Ok.ifT (by rw [nI_leP (by omega) (by omega)]; omega) (Ok.ret ⟨sf, s1⟩)
theorem add_a {a b c : Int32} : a + b + c = a + (b + c) := Int32.add_assoc a b c
theorem r_goes0 {s n : Nat} {w : Nat → Nat → Nat} (hs : s < 3) (hw : WF n w) (hn : n < 10) (h1 : 1 ≤ n) : ∀ (f i L B F : Nat) (P : Nat → Nat) (t : St), i ≤ n → PFX n i P → L < 11 → RN s n w t → (∀ j, j < i → t 154 j = nI (P j)) → n < f + i → t 149 18 = nI B → t 149 19 = nI F → Pc (FX12_goesBand f (nI s) (nI i) (nI (amk P i)) (nI L) 0 t) (fun r u => r = 0 ∧ u 149 18 = nI (B + bct n w L (n - i) i P) ∧ u 149 19 = nI (F ||| bfs n w L i P) ∧ FB t u ∧ ∀ j, j < i → u 154 j = t 154 j) := by
  intro f
  induction f with
  | zero => intro i L B F P t hi _ _ _ _ hf; omega
  | succ f ih =>
    intro i L B F P t hi hP hL h hpl hf hB hF
    have h3 := pow9 (k := n) (by omega)
    have a1 := hP.2.1
    have h9 : ∀ j, j < i → P j < 9 := fun j hj => by have := hP.1 j hj; omega
    show Pc (FX12_goesBand_b (FX12_goesBand f) (nI s) (nI i) (nI (amk P i)) (nI L) 0 t) _
    unfold FX12_goesBand_b
    refine Pc.bq (q_points h hs) (Pc.cv (nI_eqP (by omega) (by omega)) (Pc.ite (fun c => ?_) (fun c => ?_)))
    · subst c
      refine Pc.rdE hB (Pc.bd (fun _ u => (∀ c, c ≠ 158 → u c = t c)) ?_ ?_)
      · refine Pc.ite (fun _ => Pc.bd _ (q_leaf hn hpl).pc ?_) (fun _ => Pc.ret (fun _ _ => rfl))
        rintro _ u ⟨hu, -⟩
        exact Pc.ret hu
      · rintro _ u hu
        refine Pc.rdE (x := nI B) (by rw [hu 149 (by decide)]; exact hB) (PcwrE (Pc.rdE (x := nI F) (by rw [wrn (by decide), hu 149 (by decide)]; exact hF) (Pc.ck (fun _ => Pc.rdE (x := nI (P 0)) ?_ (PcwrE (Pc.ck (fun _ => Pc.ret ⟨rfl, ?_, ?_, ?_, ?_⟩)))))))
        · rw [wrf (by decide), hu 154 (by decide)]
          exact hpl 0 (by omega)
        · rw [wrn (by decide), wrs, nI_1, Nat.sub_self]
          rfl
        · have := h9 0 (by omega)
          rw [wrs, shl_1 (by omega), nI_or]
          unfold bfs
          rw [if_neg (by omega), if_pos (by rw [Nat.sub_self]; exact Nat.one_pos)]
        · exact ⟨fun c k1 k2 k3 => by rw [wr_off c k1, wr_off c k1]; exact hu c k3, fun j k1 k2 => by rw [wrn k2, wrn k1, hu 149 (by decide)]⟩
        · intro j hj
          rw [wrf (by decide), wrf (by decide), hu 154 (by decide)]
    · have hin : i < n := by omega
      obtain ⟨kk, hkk⟩ : ∃ kk, n - i = kk + 1 := ⟨n - i - 1, by omega⟩
      generalize hG : (fun p => if (!(amk P i).testBit p && canb w L P i p) = true then bct n w L kk (i + 1) (upP P i p) else 0) = G
      have eB : bct n w L (n - i) i P = sm n G := by rw [hkk, ← hG]; rfl
      have hGj : ∀ j, G j = if (!(amk P i).testBit j && canb w L P i j) = true then bct n w L kk (i + 1) (upP P i j) else 0 := fun j => by rw [← hG]
      have hms : ∀ p, (amk P i).testBit p = false → 0 < bct n w L (n - i) i P → canb w L P i p = true := fun p hp hb => decide_eq_true (fun k hk hkL => by
        refine Decidable.byContradiction (fun q => ?_)
        have := (mis_b hw hn (P := P) (i := i) (k := k) (p := p)).mpr ⟨by omega, hp⟩
        rw [mis_0 hw hn hi hP hb k hk hkL, Nat.zero_testBit] at this
        cases this)
      refine Pc.bd (fun e u => Sum.elim (fun _ => False) (fun _ => True) e ∧ u 149 18 = nI (B + sm n G) ∧ u 149 19 = nI (F ||| (if i = 0 then mkm n (fun p => decide (0 < G p)) else if 0 < sm n G then 2 ^ P 0 else 0)) ∧ FB t u ∧ ∀ j, j < i → u 154 j = t 154 j) ?_ ?_
      · refine Pc.loop (fun d s' => ∃ j, j ≤ n ∧ d = nI j ∧ s' 149 18 = nI (B + sm j G) ∧ s' 149 19 = nI (F ||| (if i = 0 then mkm j (fun p => decide (0 < G p)) else if 0 < sm j G then 2 ^ P 0 else 0)) ∧ FB t s' ∧ ∀ q, q < i → s' 154 q = t 154 q) ?_ ⟨0, Nat.zero_le _, rfl, hB, ?_, FB.rf, fun _ _ => rfl⟩
        · rintro d s' ⟨j, hj, rfl, sB, sF, sf, sp⟩
          have hs' := sf.rn h
          unfold SX12_goesBand_78
          refine Pc.bq (q_points hs' hs) (Pc.cv (nI_leP (by omega) (by omega)) (Pc.ite (fun c1 => Pc.ret ?_) (fun c1 => ?_)))
          · have : j = n := by omega
            subst this
            exact ⟨trivial, sB, sF, sf, sp⟩
          · refine Pc.bq (q_has (by omega) (by omega)) ?_
            refine Pc.bq (a := nI (!(amk P i).testBit j).toNat) (t := s') (Ok.eq (Ok.cv b01 (Ok.ite (fun c => Ok.ret ⟨rfl, by rw [c]; rfl⟩) (fun c => Ok.ret ⟨rfl, by rw [bT c]; rfl⟩)))) ?_
            refine Pc.bq (q_can hs' hs (P := P) (by omega) hL (by omega) (fun q hq => by rw [sp q hq]; exact hpl q hq) h9 hw) (Pc.cv b01 (Pc.ite (fun c2 => Pc.ret ?_) (fun c2 => Pc.ck (fun _ => PcwrE ?_))))
            · have g0 : G j = 0 := by rw [hGj, if_neg (by rw [c2]; decide)]
              refine ⟨j + 1, by omega, nI_1 j, ?_, ?_, sf, sp⟩
              · show _ = nI (B + (sm j G + G j))
                rw [g0]; exact sB
              · show _ = nI (F ||| (if i = 0 then mkm j (fun p => decide (0 < G p)) ||| (if decide (0 < G j) = true then 2 ^ j else 0) else if 0 < sm j G + G j then 2 ^ P 0 else 0))
                rw [g0]
                simp only [Nat.lt_irrefl, decide_false, Bool.false_eq_true, if_false, Nat.or_zero, Nat.add_zero]
                exact sF
            · have c2 := bT c2
              have g1 : G j = bct n w L (n - (i + 1)) (i + 1) (upP P i j) := by rw [hGj, if_pos c2, show n - (i + 1) = kk by omega]
              simp only [Bool.and_eq_true, Bool.not_eq_true'] at c2
              rw [nI_cl (by omega), nI_1, shl_1 (by omega), nI_or, ← amk_up]
              have hP2 := hP.on (p := j) (by omega) c2.1
              refine Pc.bd _ (ih (i + 1) L (B + sm j G) (F ||| (if i = 0 then mkm j (fun p => decide (0 < G p)) else if 0 < sm j G then 2 ^ P 0 else 0)) (upP P i j) (wr s' 154 i (nI j)) (by omega) hP2 hL (hs'.fr (wr_off _ (by decide))) (fun q hq => ?_) (by omega) (by rw [wrf (by decide)]; exact sB) (by rw [wrf (by decide)]; exact sF)) ?_
              · by_cases e : q = i
                · subst e; rw [wrs, upP_i]
                · rw [wrn e, upP_n e, sp q (by omega)]; exact hpl q (by omega)
              · rintro r u ⟨rfl, uB, uF, uf, up⟩
                refine Pc.ifT rfl (Pc.ret ⟨j + 1, by omega, nI_1 j, ?_, ?_, (sf.tr FB.w).tr uf, fun q hq => by rw [up q (by omega), wrn (by omega)]; exact sp q hq⟩)
                · rw [uB, ← g1, Nat.add_assoc]
                  rfl
                · rw [uF, Nat.or_assoc]
                  congr 2
                  unfold bfs
                  rw [if_neg (c := i + 1 = 0) (by omega), ← g1]
                  show _ = if i = 0 then mkm j (fun p => decide (0 < G p)) ||| (if decide (0 < G j) = true then 2 ^ j else 0) else if 0 < sm j G + G j then 2 ^ P 0 else 0
                  by_cases e0 : i = 0
                  · subst e0
                    rw [if_pos rfl, if_pos rfl, upP_i]
                    simp only [decide_eq_true_eq]
                  · rw [if_neg e0, if_neg e0, upP_n (by omega)]
                    by_cases q1 : 0 < sm j G
                    · rw [if_pos q1, if_pos (c := 0 < sm j G + G j) (by omega)]
                      by_cases q2 : 0 < G j
                      · rw [if_pos q2, Nat.or_self]
                      · rw [if_neg q2, Nat.or_zero]
                    · rw [if_neg q1, Nat.zero_or]
                      by_cases q2 : 0 < G j
                      · rw [if_pos q2, if_pos (by omega)]
                      · rw [if_neg q2, if_neg (by omega)]
        · have e0 : (if i = 0 then mkm 0 (fun p => decide (0 < G p)) else if 0 < sm 0 G then 2 ^ P 0 else 0) = 0 := by
            by_cases q : i = 0
            · rw [if_pos q]; rfl
            · rw [if_neg q]; exact if_neg (Nat.lt_irrefl 0)
          rw [e0, Nat.or_zero]
          exact hF
      · rintro (e | e) u ⟨he, uB, uF, uf, up⟩
        · exact he.elim
        · refine Pc.er (Pc.ret ⟨rfl, by rw [eB]; exact uB, ?_, uf, up⟩)
          rw [uF]
          congr 2
          unfold bfs
          by_cases e0 : i = 0
          · subst e0
            rw [if_pos rfl, if_pos rfl]
            unfold bld
            refine mkm_congr (fun p hp => ?_)
            rw [hGj, show n - (0 + 1) = kk by omega]
            by_cases q : (!(amk P 0).testBit p && canb w L P 0 p) = true
            · rw [if_pos q]
              simp only [Bool.and_eq_true] at q
              rw [q.1, Bool.true_and]
            · rw [if_neg q]
              have : (!(amk P 0).testBit p) = false := bF (fun z => q (by rw [z, canb_T (Nat.zero_le _)]; rfl))
              rw [this]
              rfl
          · rw [if_neg e0, if_neg e0, eB]
theorem r_goes1 {s n : Nat} {w : Nat → Nat → Nat} (hs : s < 3) (hw : WF n w) (hn : n < 10) (h1 : 1 ≤ n) : ∀ (f i L : Nat) (P : Nat → Nat) (t : St), i ≤ n → PFX n i P → L < 11 → RN s n w t → (∀ j, j < i → t 154 j = nI (P j)) → n < f + i → t 149 18 = 0 → Pc (FX12_goesBand f (nI s) (nI i) (nI (amk P i)) (nI L) 1 t) (fun r u => FB t u ∧ (∀ j, j < i → u 154 j = t 154 j) ∧ ((bct n w L (n - i) i P = 0 ∧ r = 0 ∧ u 149 18 = 0) ∨ (0 < bct n w L (n - i) i P ∧ r = 1 ∧ u 149 18 = 1 ∧ ∃ o, FRX n w L i P o ∧ ∀ j, j < n → u 158 j = nI (o j)))) := by
  intro f
  induction f with
  | zero => intro i L P t hi _ _ _ _ hf; omega
  | succ f ih =>
    intro i L P t hi hP hL h hpl hf hB
    have h3 := pow9 (k := n) (by omega)
    have a1 := hP.2.1
    have h9 : ∀ j, j < i → P j < 9 := fun j hj => by have := hP.1 j hj; omega
    show Pc (FX12_goesBand_b (FX12_goesBand f) (nI s) (nI i) (nI (amk P i)) (nI L) 1 t) _
    unfold FX12_goesBand_b
    refine Pc.bq (q_points h hs) (Pc.cv (nI_eqP (by omega) (by omega)) (Pc.ite (fun c => ?_) (fun c => ?_)))
    · subst c
      refine Pc.rdE hB (Pc.bd (fun _ u => (∀ c, c ≠ 158 → u c = t c) ∧ ∀ j, j < i → u 158 j = nI (P j)) (Pc.ifT rfl (Pc.bd _ (q_leaf hn hpl).pc (fun _ u hu => Pc.ret hu))) ?_)
      rintro _ u ⟨hu, hu2⟩
      refine Pc.rdE (x := 0) (by rw [hu 149 (by decide)]; exact hB) (PcwrE (Pc.rdE rfl (Pc.ck (fun _ => Pc.rdE rfl (PcwrE (Pc.ck (fun _ => Pc.ret ⟨?_, ?_, Or.inr ⟨?_, rfl, ?_, P, ?_, ?_⟩⟩)))))))
      · exact ⟨fun c k1 k2 k3 => by rw [wr_off c k1, wr_off c k1]; exact hu c k3, fun j k1 k2 => by rw [wrn k2, wrn k1, hu 149 (by decide)]⟩
      · intro j hj
        rw [wrf (by decide), wrf (by decide), hu 154 (by decide)]
      · rw [Nat.sub_self]; exact Nat.one_pos
      · rw [wrn (by decide), wrs]
        rfl
      · exact ⟨fun _ _ => rfl, fun j k1 k2 => by omega⟩
      · intro j hj
        rw [wrf (by decide), wrf (by decide)]
        exact hu2 j hj
    · have hin : i < n := by omega
      obtain ⟨kk, hkk⟩ : ∃ kk, n - i = kk + 1 := ⟨n - i - 1, by omega⟩
      have hk2 : n - (i + 1) = kk := by omega
      generalize hG : (fun p => if (!(amk P i).testBit p && canb w L P i p) = true then bct n w L kk (i + 1) (upP P i p) else 0) = G
      have eB : bct n w L (n - i) i P = sm n G := by rw [hkk, ← hG]; rfl
      have hGj : ∀ j, G j = if (!(amk P i).testBit j && canb w L P i j) = true then bct n w L kk (i + 1) (upP P i j) else 0 := fun j => by rw [← hG]
      have hms : ∀ p, (amk P i).testBit p = false → 0 < bct n w L (n - i) i P → canb w L P i p = true := fun p hp hb => decide_eq_true (fun k hk hkL => by
        refine Decidable.byContradiction (fun q => ?_)
        have := (mis_b hw hn (P := P) (i := i) (k := k) (p := p)).mpr ⟨by omega, hp⟩
        rw [mis_0 hw hn hi hP hb k hk hkL, Nat.zero_testBit] at this
        cases this)
      refine Pc.bd (fun e u => FB t u ∧ (∀ j, j < i → u 154 j = t 154 j) ∧ Sum.elim (fun r => r = (1 : Int32) ∧ 0 < sm n G ∧ u 149 18 = 1 ∧ ∃ o, FRX n w L i P o ∧ ∀ j, j < n → u 158 j = nI (o j)) (fun _ => sm n G = 0 ∧ u 149 18 = 0) e) ?_ ?_
      · refine Pc.loop (fun d s' => ∃ j, j ≤ n ∧ d = nI j ∧ s' 149 18 = 0 ∧ FB t s' ∧ (∀ q, q < i → s' 154 q = t 154 q) ∧ ∀ q, q < j → G q = 0) ?_ ⟨0, Nat.zero_le _, rfl, hB, FB.rf, fun _ _ => rfl, fun q hq => by omega⟩
        rintro d s' ⟨j, hj, rfl, sB, sf, sp, sI⟩
        have hs' := sf.rn h
        unfold SX12_goesBand_78
        refine Pc.bq (q_points hs' hs) (Pc.cv (nI_leP (by omega) (by omega)) (Pc.ite (fun c1 => Pc.ret ?_) (fun c1 => ?_)))
        · exact ⟨sf, sp, sm_zero (fun q hq => sI q (by omega)), sB⟩
        · refine Pc.bq (q_has (by omega) (by omega)) ?_
          refine Pc.bq (a := nI (!(amk P i).testBit j).toNat) (t := s') (Ok.eq (Ok.cv b01 (Ok.ite (fun c => Ok.ret ⟨rfl, by rw [c]; rfl⟩) (fun c => Ok.ret ⟨rfl, by rw [bT c]; rfl⟩)))) ?_
          refine Pc.bq (q_can hs' hs (P := P) (by omega) hL (by omega) (fun q hq => by rw [sp q hq]; exact hpl q hq) h9 hw) (Pc.cv b01 (Pc.ite (fun c2 => Pc.ret ?_) (fun c2 => Pc.ck (fun _ => PcwrE ?_))))
          · have g0 : G j = 0 := by rw [hGj, if_neg (by rw [c2]; decide)]
            refine ⟨j + 1, by omega, nI_1 j, sB, sf, sp, fun q hq => ?_⟩
            by_cases e : q = j
            · rw [e]; exact g0
            · exact sI q (by omega)
          · have c2 := bT c2
            have g1 : G j = bct n w L (n - (i + 1)) (i + 1) (upP P i j) := by rw [hGj, if_pos c2, hk2]
            simp only [Bool.and_eq_true, Bool.not_eq_true'] at c2
            rw [nI_cl (by omega), nI_1, shl_1 (by omega), nI_or, ← amk_up]
            have hP2 := hP.on (p := j) (by omega) c2.1
            refine Pc.bd _ (ih (i + 1) L (upP P i j) (wr s' 154 i (nI j)) (by omega) hP2 hL (hs'.fr (wr_off _ (by decide))) (fun q hq => ?_) (by omega) (by rw [wrf (by decide)]; exact sB)) ?_
            · by_cases e : q = i
              · subst e; rw [wrs, upP_i]
              · rw [wrn e, upP_n e, sp q (by omega)]; exact hpl q (by omega)
            · rintro r u ⟨uf, up, ⟨u1, rfl, u3⟩ | ⟨u1, rfl, u3, o, u4, u5⟩⟩
              · refine Pc.ifT rfl (Pc.ret ⟨j + 1, by omega, nI_1 j, u3, (sf.tr FB.w).tr uf, fun q hq => by rw [up q (by omega), wrn (by omega)]; exact sp q hq, fun q hq => ?_⟩)
                by_cases e : q = j
                · rw [e, g1]; exact u1
                · exact sI q (by omega)
              · have hpos : 0 < sm n G := sm_pos.mpr ⟨j, by omega, by rw [g1]; exact u1⟩
                refine Pc.ifF (by decide) (Pc.ret ⟨(sf.tr FB.w).tr uf, fun q hq => by rw [up q (by omega), wrn (by omega)]; exact sp q hq, rfl, hpos, u3, o, ⟨fun k hk => ?_, fun k hk hkn => ?_⟩, u5⟩)
                · rw [u4.1 k (by omega), upP_n (by omega)]
                · by_cases e : k = i
                  · subst e
                    have eo : o k = j := by rw [u4.1 k (by omega), upP_i]
                    have ea : amk o k = amk P k := amk_eq (fun q hq => by rw [u4.1 q (by omega), upP_n (by omega)])
                    rw [eo, ea]
                    refine ⟨by omega, c2.1, ?_, fun q hq hh => ?_⟩
                    · rw [bct_eq (Q := upP P k j) hw hn (by omega) (fun q hq => u4.1 q hq)]
                      exact u1
                    · have := sI q hq
                      rw [hGj, if_pos (by rw [hh.1, hms q hh.1 (by rw [eB]; exact hpos)]; rfl)] at this
                      rw [hk2, bct_eq (Q := upP P k q) hw hn (by omega) (fun y hy => ?_), this] at hh
                      · exact absurd hh.2 (Nat.lt_irrefl 0)
                      · by_cases e2 : y = k
                        · subst e2; rw [upP_i, upP_i]
                        · rw [upP_n e2, upP_n e2, u4.1 y (by omega), upP_n e2]
                  · exact u4.2 k (by omega) hkn
      · rintro (e | e) u ⟨uf, up, he⟩
        · refine Pc.el (Pc.ret ⟨uf, up, Or.inr ?_⟩)
          rw [eB]
          exact ⟨he.2.1, he.1, he.2.2⟩
        · refine Pc.er (Pc.ret ⟨uf, up, Or.inl ?_⟩)
          rw [eB]
          exact ⟨he.1, rfl, he.2⟩
/-! rows within a limit, the least limit, the first row -/
theorem FB.w18 {t : St} : FB t (wr (wr t 149 18 0) 149 19 0) := ⟨fun c a _ _ => by rw [wr_off c a, wr_off c a], fun j a b => by rw [wrn b, wrn a]⟩
theorem r_rowsOfBand {s n L : Nat} {w : Nat → Nat → Nat} {t : St} (hs : s < 3) (hw : WF n w) (hn : n < 10) (h1 : 1 ≤ n) (hL : L < 11) (h : RN s n w t) : Pc (FX12_rowsOfBand (nI s) (nI L) 0 t) (fun r u => r = nI (bct n w L n 0 (fun _ => 0)) ∧ u 149 19 = nI (bld n w L 0 (fun _ => 0)) ∧ FB t u) := by
  unfold FX12_rowsOfBand
  refine PcwrE (PcwrE (Pc.bd _ (r_goes0 hs hw hn h1 11 0 L 0 0 (fun _ => 0) _ (Nat.zero_le _) pfx_0 hL (FB.w18.rn h) (fun j hj => by omega) (by omega) (by rw [wrn (by decide), wrs]; rfl) wrs) ?_))
  rintro _ u ⟨rfl, uB, uF, uf, -⟩
  refine Pc.rdE uB (Pc.ret ⟨by rw [Nat.zero_add, Nat.sub_zero], ?_, FB.w18.tr uf⟩)
  rw [uF, Nat.zero_or]
  rfl
theorem r_leastBand {s n v : Nat} {w : Nat → Nat → Nat} {o : Nat → Nat} {t : St} (hs : s < 3) (hw : WF n w) (hn : n < 10) (h1 : 1 ≤ n) (h : RN s n w t) (hv : LL n w v) (ho : FRX n w v 0 (fun _ => 0) o) : Pc (FX12_leastBand (nI s) t) (fun r u => r = nI v ∧ FB t u ∧ ∀ j, j < n → u 158 j = nI (o j)) := by
  unfold FX12_leastBand
  refine Pc.bd (fun r u => r = nI v ∧ FB t u ∧ ∀ j, j < n → u 158 j = nI (o j)) ?_ (fun r u hu => Pc.ret hu)
  refine Pc.loop (fun d s' => ∃ j, j ≤ v ∧ d = nI j ∧ FB t s') ?_ ⟨0, Nat.zero_le _, rfl, FB.rf⟩
  rintro d s' ⟨j, hj, rfl, sf⟩
  have v1 := hv.1
  unfold SX12_leastBand_2
  refine Pc.bd (fun r u => FB s' u ∧ ((bct n w j n 0 (fun _ => 0) = 0 ∧ r = 0) ∨ (0 < bct n w j n 0 (fun _ => 0) ∧ r = 1 ∧ ∃ o, FRX n w j 0 (fun _ => 0) o ∧ ∀ k, k < n → u 158 k = nI (o k)))) ?_ ?_
  · unfold FX12_rowsOfBand
    refine PcwrE (PcwrE (Pc.bd _ (r_goes1 hs hw hn h1 11 0 j (fun _ => 0) _ (Nat.zero_le _) pfx_0 (by omega) (FB.w18.rn (sf.rn h)) (fun j hj => by omega) (by omega) (by rw [wrn (by decide), wrs])) ?_))
    rintro _ u ⟨uf, -, ⟨u1, rfl, u3⟩ | ⟨u1, rfl, u3, u4⟩⟩
    · exact Pc.rdE u3 (Pc.ret ⟨FB.w18.tr uf, Or.inl ⟨u1, rfl⟩⟩)
    · exact Pc.rdE u3 (Pc.ret ⟨FB.w18.tr uf, Or.inr ⟨u1, rfl, u4⟩⟩)
  · rintro r u ⟨uf, ⟨u1, rfl⟩ | ⟨u1, rfl, o2, u4, u5⟩⟩
    · refine Pc.ifT rfl (Pc.ret ⟨j + 1, ?_, nI_1 j, sf.tr uf⟩)
      have : j ≠ v := fun q => by subst q; have := hv.2.2; omega
      omega
    · have e : j = v := by
        refine Decidable.byContradiction (fun q => ?_)
        have := hv.2.1 j (by omega)
        omega
      subst e
      refine Pc.ifF (by decide) (Pc.ret ⟨rfl, sf.tr uf, fun k hk => ?_⟩)
      rw [u5 k hk, FRX.uq hw hn u4 ho k hk]
