/-! the reference finds the same -/
theorem m_laysLeast {s n m : Nat} {w : Nat → Nat → Nat} {t : St} (h : RN s n w t) (hs : s < 3) (hw : WF n w) (hn : n < 10) (hm : m < 7) : Ok (FX12_laysLeast (nI s) (nI m) t) (fun _ u => RN s n w u ∧ u 149 17 = nI (2 ^ n - 1) ∧ CSA n (fun _ _ => true) (cst n w m) u ∧ RSA 155 n (R2 n w m) u ∧ (∀ S p, S < 2 ^ n → p < n → S.testBit p = true → u 157 (9 * S + p) = nI 1000000)) := by
  unfold FX12_laysLeast
  refine Ok.bd _ (m_laysCosts h hs hw hn hm) ?_
  rintro _ t1 ⟨f1, e17, g1, hA, hT⟩
  have h1 : RN s n w t1 := h.fr (f1 150 (by decide) (by decide))
  refine Ok.bd _ (m_laysRest h1 hs hn hm (fun S p => cst_le hw hn) e17 hA (fun S p _ _ _ => ⟨_, rfl⟩)) ?_
  rintro _ t2 ⟨f2, hR⟩
  refine Ok.ret ⟨h1.fr (f2 150 (by decide)), by rw [f2 149 (by decide)]; exact e17, fun S p a b c => by rw [f2 157 (by decide)]; exact hA S p a b c, hR, fun S p a b c => by rw [f2 157 (by decide)]; exact hT S p a b c⟩
theorem cl0 : (0 : Int32).toNatClampNeg = 0 := by decide
theorem a_least {s n m : Nat} {w : Nat → Nat → Nat} {t : St} (h : RN s n w t) (hs : s < 3) (hw : WF n w) (hn : n < 10) (h1 : 1 ≤ n) (hm : m < 7) : Pc (FX12_least (nI s) (nI m) t) (fun r _ => r = nI (lsv n w m)) := by
  unfold FX12_least lsv
  refine Pc.bq (g_isNet hs hn h) ?_
  rw [if_neg (c := n = 0) (by omega), li_2]
  refine Pc.ifF (by decide) (Pc.bq (g_msM hm) (Pc.ifF (by decide) (Pc.cv (nI_lit hm (by omega)) (Pc.ite (fun c => ?_) (fun c => ?_)))))
  · rw [if_pos c]
    refine Pc.bd _ (r_leastBand hs hw hn h1 h (lvb_ok h1) (frb_ok hw hn h1)) ?_
    rintro _ u ⟨rfl, -⟩
    exact Pc.ret rfl
  · rw [if_neg c]
    refine Pc.bd _ (m_laysLeast h hs hw hn hm).pc ?_
    rintro _ u ⟨-, -, -, hR, -⟩
    refine Pc.ck (fun _ => Pc.rdE (x := nI (R2 n w m 0)) ?_ (Pc.ret ?_))
    · rw [cl0]; exact hR 0 (Nat.two_pow_pos n)
    · rw [R12 hw hn (Nat.two_pow_pos n)]
theorem a_laysBest {s n m : Nat} {w : Nat → Nat → Nat} {t : St} (h : RN s n w t) (hs : s < 3) (hw : WF n w) (hn : n < 10) (h1 : 1 ≤ n) (hm : m < 7) : Pc (FX12_laysBest (nI s) (nI m) t) (fun _ u => ∀ i, i < n → u 159 i = nI (frw n w m i)) := by
  unfold FX12_laysBest frw
  rw [li_2]
  refine Pc.cv (nI_lit hm (by omega)) (Pc.ite (fun c => ?_) (fun c => ?_))
  · rw [if_pos c]
    refine Pc.bd _ (r_leastBand hs hw hn h1 h (lvb_ok h1) (frb_ok hw hn h1)) ?_
    rintro _ t1 ⟨-, f1, b1⟩
    have ht1 := f1.rn h
    refine Pc.bd (fun _ u => ∀ i, i < n → u 159 i = nI (frb n w i)) ?_ (fun _ u hu => Pc.ret hu)
    refine (Ok.count n (fun j c s' => c = nI j ∧ (∀ c, c ≠ 159 → s' c = t1 c) ∧ ∀ i, i < j → s' 159 i = nI (frb n w i)) ?_ ?_ (Nat.zero_le _) ⟨rfl, fun _ _ => rfl, fun i hi => by omega⟩).pc
    · rintro j c s' hj ⟨rfl, sf, s1⟩
      unfold SX12_laysBest_14
      refine Ok.bq (q_points (ht1.fr (sf 150 (by decide))) hs) (Ok.ifF (by rw [nI_leP (by omega) (by omega)]; omega) (Ok.ckT (inb_n (by omega) (by omega)) ?_))
      rw [nI_cl (by omega)]
      refine Ok.rdE (x := nI (frb n w j)) (by rw [sf 158 (by decide)]; exact b1 j hj) (Ok.ckT (inb_n (by omega) (by omega)) (OkwrE (Ok.ret ⟨nI_1 j, fun c hc => by rw [wr_off c hc]; exact sf c hc, fun i hi => ?_⟩)))
      by_cases e : i = j
      · subst e; rw [wrs]
      · rw [wrn e]; exact s1 i (by omega)
    · rintro c s' ⟨rfl, sf, s1⟩
      unfold SX12_laysBest_14
      exact Ok.bq (q_points (ht1.fr (sf 150 (by decide))) hs) (Ok.ifT (by rw [nI_leP (by omega) (by omega)]; omega) (Ok.ret s1))
  · rw [if_neg c]
    refine Pc.bd _ (m_laysLeast h hs hw hn hm).pc ?_
    rintro _ t1 ⟨N1, e17, hA, hR, -⟩
    refine Pc.bd _ (m_bestLoop N1 hs hn hm (fun S p => cst_le hw hn) (fun S => R2_le hw hn) hA hR (k2_ok hw hn) (fun i hi => (b1_ok hw hn).1.lt hi) (fun i hi => ?_)).pc ?_
    · have := hdf_le (m := m) (o := brw (L1 n w m)) hw hn i
      omega
    · rintro _ u ⟨-, hu⟩
      exact Pc.ret hu
theorem a_best {s n m i : Nat} {w : Nat → Nat → Nat} {t : St} (h : RN s n w t) (hs : s < 3) (hw : WF n w) (hn : n < 10) (hi : i < n) (hm : m < 7) : Pc (FX12_best (nI s) (nI m) (nI i) t) (fun r _ => r = nI (frw n w m i)) := by
  unfold FX12_best
  refine Pc.bq (g_isPt hs hn h hi) (Pc.ifF (by decide) (Pc.bq (g_msM hm) (Pc.ifF (by decide) (Pc.bd _ (a_laysBest h hs hw hn (by omega) hm) ?_))))
  rintro _ u hu
  refine Pc.ck (fun _ => Pc.rdE (x := nI (frw n w m i)) ?_ (Pc.ret rfl))
  rw [nI_cl (by omega)]
  exact hu i hi
theorem a_ways {s n m : Nat} {w : Nat → Nat → Nat} {t : St} (h : RN s n w t) (hs : s < 3) (hw : WF n w) (hn : n < 10) (h1 : 1 ≤ n) (hm : m < 7) : Pc (FX12_ways (nI s) (nI m) t) (fun r _ => r = nI (rwc n w m)) := by
  unfold FX12_ways rwc
  refine Pc.bq (g_isNet hs hn h) ?_
  rw [if_neg (c := n = 0) (by omega), li_2]
  refine Pc.ifF (by decide) (Pc.bq (g_msM hm) (Pc.ifF (by decide) (Pc.cv (nI_lit hm (by omega)) (Pc.ite (fun c => ?_) (fun c => ?_)))))
  · rw [if_pos c]
    refine Pc.bd _ (r_leastBand hs hw hn h1 h (lvb_ok h1) (frb_ok hw hn h1)) ?_
    rintro _ u ⟨rfl, f1, -⟩
    refine Pc.bd _ (r_rowsOfBand hs hw hn h1 (by have := (lvb_ok (n := n) (w := w) h1).1; omega) (f1.rn h)) ?_
    rintro _ u ⟨rfl, -⟩
    exact Pc.ret rfl
  · rw [if_neg c]
    refine Pc.bd _ (m_laysLeast h hs hw hn hm).pc ?_
    rintro _ t1 ⟨N1, e17, hA, hR, -⟩
    refine Pc.bq (q_isGreatest hm) ?_
    by_cases g : Gr m
    · rw [if_pos (show m = 0 ∨ m = 1 ∨ m = 5 from g)]
      refine Pc.ifF (by decide) (Pc.ck (fun _ => Pc.rdE (x := nI (R2 n w m 0)) (by rw [cl0]; exact hR 0 (Nat.two_pow_pos n)) ?_))
      have h2 := R2_le (m := m) (S := 0) hw hn
      refine Pc.bd _ (m_rowsWithin N1 hs hn g (R := R1 n w m) (fun S p => cst_le hw hn) (by omega) e17 hA).pc ?_
      rintro _ u ⟨-, rfl⟩
      refine Pc.ret ?_
      unfold C1
      rw [cnt_0, Nat.sub_zero, R12 hw hn (Nat.two_pow_pos n)]
    · rw [if_neg (show ¬ (m = 0 ∨ m = 1 ∨ m = 5) from g)]
      refine Pc.ifT rfl (Pc.bd _ (m_rowsOfLeast N1 hs hn (L := 0) g (fun S p => cst_le hw hn) (fun S => R2_le hw hn) hR e17 hA).pc ?_)
      rintro _ u ⟨-, rfl⟩
      refine Pc.ret ?_
      rw [C12 hw hn g]
theorem a_firsts {s n m : Nat} {w : Nat → Nat → Nat} {t : St} (h : RN s n w t) (hs : s < 3) (hw : WF n w) (hn : n < 10) (h1 : 1 ≤ n) (hm : m < 7) : Pc (FX12_firsts (nI s) (nI m) t) (fun r _ => r = nI (fpt n w m)) := by
  unfold FX12_firsts fpt
  refine Pc.bq (g_isNet hs hn h) ?_
  rw [if_neg (c := n = 0) (by omega), li_2]
  refine Pc.ifF (by decide) (Pc.bq (g_msM hm) (Pc.ifF (by decide) (Pc.cv (nI_lit hm (by omega)) (Pc.ite (fun c => ?_) (fun c => ?_)))))
  · rw [if_pos c]
    refine Pc.bd _ (r_leastBand hs hw hn h1 h (lvb_ok h1) (frb_ok hw hn h1)) ?_
    rintro _ u ⟨rfl, f1, -⟩
    refine Pc.bd _ (r_rowsOfBand hs hw hn h1 (by have := (lvb_ok (n := n) (w := w) h1).1; omega) (f1.rn h)) ?_
    rintro _ u ⟨-, e19, -⟩
    exact Pc.rdE e19 (Pc.ret rfl)
  · rw [if_neg c]
    refine Pc.bd _ (m_laysLeast h hs hw hn hm).pc ?_
    rintro _ t1 ⟨N1, e17, hA, hR, -⟩
    have hp2 := Nat.two_pow_pos n
    generalize hB : (fun p => @decide (jn m 0 (jn m (cst n w m 0 p) (R2 n w m (0 ||| 2 ^ p))) = R2 n w m 0) (Classical.propDecidable _)) = B
    have hBp : ∀ p, B p = true ↔ jn m 0 (jn m (cst n w m 0 p) (R2 n w m (0 ||| 2 ^ p))) = R2 n w m 0 := fun p => by
      rw [← hB]
      exact @decide_eq_true_iff _ (Classical.propDecidable _)
    refine Pc.bd (fun r u => r = nI (mkm n B)) ?_ ?_
    · refine (Ok.count n (fun j c s' => t1 = s' ∧ c = (nI (mkm j B), nI j)) ?_ ?_ (Nat.zero_le _) ⟨rfl, rfl⟩).pc
      · rintro j c s' hj ⟨rfl, rfl⟩
        unfold SX12_firsts_51
        dsimp only
        refine Ok.bq (q_points N1 hs) (Ok.ifF (by rw [nI_leP (by omega) (by omega)]; omega) ?_)
        refine Ok.bd (fun r u => t1 = u ∧ r = if B j = true then 1 else 0) (q_keeps (S := 0) (had := 0) hn hm (fun S p => cst_le hw hn) (fun S => R2_le hw hn) hA hR (by omega) hp2 hj (fun _ q => ⟨rfl, by rw [if_pos ((hBp j).mpr q)]⟩) (fun q => ⟨rfl, by rw [if_neg (fun z => q ⟨Nat.zero_testBit j, (hBp j).mp z⟩)]⟩)) ?_
        rintro _ _ ⟨rfl, rfl⟩
        refine Ok.bq (a := nI (if B j = true then 2 ^ j else 0)) (t := t1) (Ok.eq ?_) (Ok.ret ⟨rfl, by rw [nI_1, nI_or]; rfl⟩)
        by_cases c2 : B j = true
        · rw [if_pos c2, if_pos c2]
          exact Ok.ifF (by decide) (Ok.ret ⟨rfl, by rw [shl_1 (by omega)]⟩)
        · rw [if_neg c2, if_neg c2]
          exact Ok.ifT rfl (Ok.ret ⟨rfl, rfl⟩)
      · rintro c s' ⟨rfl, rfl⟩
        unfold SX12_firsts_51
        dsimp only
        exact Ok.bq (q_points N1 hs) (Ok.ifT (by rw [nI_leP (by omega) (by omega)]; omega) (Ok.ret rfl))
    · rintro _ u rfl
      refine Pc.ret ?_
      congr 1
      refine bit_ext (n := n) mkm_lt mkm_lt (fun k hk => ?_)
      have e0 : R1 n w m 0 = R2 n w m 0 := R12 hw hn hp2
      have e1 := R12 (m := m) hw hn (or_up (q := k) hp2 hk)
      have key := ld_iff (had := 0) (p := k) (S := 0) (R1_pr (m := m) hw hn).1 (R1_pr hw hn).2.1 (crw_pr (C := C1 n w m) (fun S => rfl)) hp2 hk ⟨fun _ => ⟨Nat.zero_le _, Nat.le_refl _, Nat.le_max_right _ _⟩, fun _ => Nat.zero_add _⟩
      have key2 : (L1 n w m 0).testBit k = true ↔ B k = true := by
        rw [hBp k, ← e0, ← e1]
        exact key.trans ⟨fun q => q.2, fun q => ⟨Nat.zero_testBit k, q⟩⟩
      rw [mkm_bit]
      simp only [hk, decide_true, Bool.true_and]
      cases q : B k
      · exact (bF (fun z => by rw [key2.mp z] at q; cases q)).symm
      · exact (key2.mpr q).symm
/-! within, of both -/
theorem c_within {s n l m v : Nat} {w : Nat → Nat → Nat} {t : St} (hs : s < 3) (hm : m < 7) (h : CN (12 + 24 * s) n l w t) (G : GN n l w) (h1 : 1 ≤ n) (hB : BI t) (hv : v < 2147483648) : Pc (FX11_within (nI s) (nI m) (nI v) t) (fun r u => (r = if m = 2 then nI (bct n w v n 0 (fun _ => 0)) else if Gr m then nI (crw n (okc m v (cst n w m) (R1 n w m)) n 0) else -2) ∧ BI u ∧ ∀ c, (c < 84 ∨ 98 ≤ c) → u c = t c) := by
  obtain ⟨hn, hw, hl⟩ := id G
  have gx := n_sl hs
  unfold FX11_within
  refine Pc.bq (g_netIn hs hn h.1) ?_
  rw [if_neg (c := n = 0) (by omega)]
  show Pc (chk (netAt (12 + 24 * s)) _) _
  refine Pc.ck (fun _ => Pc.bq (g_bd hm) ?_)
  by_cases c2 : m = 2
  · subst c2
    rw [if_pos (c := (2 : Nat) = 2) rfl]
    refine Pc.ifF (by decide) (Pc.ifT (by rw [li_0, nI_leP (by omega) (by omega)]; omega) (Pc.ifT rfl ?_))
    obtain ⟨n', l', w', G', h', hM⟩ := hB
    refine Pc.bd _ (r_rowsWithinB h gx (by omega) G h1 h' G' hM hv) ?_
    rintro _ u ⟨rfl, u1, u2, u3⟩
    exact Pc.ret ⟨rfl, ⟨n, l, w, G, u1, u2⟩, fun c hc => u3 c (by omega)⟩
  · rw [if_neg c2]
    by_cases g : Gr m
    · rw [if_pos (show m = 0 ∨ m = 1 ∨ m = 2 ∨ m = 5 by unfold Gr at g; omega), if_pos g]
      refine Pc.ifF (by decide) (Pc.ifT (by rw [li_0, nI_leP (by omega) (by omega)]; omega) ?_)
      rw [li_2]
      refine Pc.ifF (by rw [nI_lit hm (by omega)]; exact c2) (Pc.bd (fun r u => r = nI (crw n (okc m v (cst n w m) (R1 n w m)) n 0) ∧ ∀ c, c ≠ 85 → c ≠ 87 → c ≠ 89 → u c = t c) ?_ ?_)
      · unfold FX9_rowsWithin
        refine Pc.ck (fun _ => Pc.bd _ (e_fillSteps (ta := 85) h gx hw hn hm (by decide +kernel) (by omega) (by omega)).pc ?_)
        rintro _ t1 ⟨f1, S1⟩
        have N1 : CN (12 + 24 * s) n l w t1 := h.fr (f1 _ (by omega) (by omega)) (f1 _ (by omega) (by omega)) (f1 _ (by omega) (by omega))
        refine Pc.bd _ (e_countRows (R := fun _ => 0) N1 gx hn (L := v) hm hv (fun S p => cst_le hw hn) S1 (fun q => absurd g q) (fun S => by omega) (by omega)).pc ?_
        rintro _ t2 ⟨f2, S2⟩
        refine Pc.ck (fun _ => Pc.rdE (x := nI (crw n (okc m v (cst n w m) (R1 n w m)) n 0)) ?_ (Pc.ret ⟨rfl, fun c k1 k2 k3 => by rw [f2 c k3]; exact f1 c k1 k2⟩))
        rw [cl0, S2 0 (Nat.two_pow_pos n)]
        dsimp only
        rw [cnt_0, Nat.sub_zero]
        congr 1
        refine crw_congr (fun S p _ _ _ => ?_) (Nat.two_pow_pos n)
        unfold okc
        rw [if_pos (show m = 0 ∨ m = 1 ∨ m = 5 from g), if_pos (show m = 0 ∨ m = 1 ∨ m = 5 from g)]
      · rintro _ u ⟨rfl, uf⟩
        exact Pc.ret ⟨rfl, hB.fr (fun c a b => uf c (by omega) (by omega) (by omega)), fun c hc => uf c (by omega) (by omega) (by omega)⟩
    · rw [if_neg (show ¬ (m = 0 ∨ m = 1 ∨ m = 2 ∨ m = 5) by unfold Gr at g; omega), if_neg g]
      exact Pc.ifT rfl (Pc.ret ⟨rfl, hB, fun _ _ => rfl⟩)
theorem crw_cap {n m L M : Nat} {w : Nat → Nat → Nat} {R S : Nat → Nat} (hw : WF n w) (hn : n < 10) (g : Gr m) (h : L = M ∨ (729 ≤ L ∧ 729 ≤ M)) : crw n (okc m L (cst n w m) R) n 0 = crw n (okc m M (cst n w m) S) n 0 := by
  refine crw_congr (fun A p _ _ _ => ?_) (Nat.two_pow_pos n)
  have h9 := cst_le (m := m) (S := A) (p := p) hw hn
  unfold okc
  rw [if_pos (show m = 0 ∨ m = 1 ∨ m = 5 from g), if_pos (show m = 0 ∨ m = 1 ∨ m = 5 from g)]
  rcases h with rfl | ⟨a, b⟩
  · rfl
  · rw [decide_eq_true (show cst n w m A p ≤ L by omega), decide_eq_true (show cst n w m A p ≤ M by omega)]
theorem a_within {s n m v : Nat} {w : Nat → Nat → Nat} {t : St} (h : RN s n w t) (hs : s < 3) (hw : WF n w) (hn : n < 10) (h1 : 1 ≤ n) (hm : m < 7) (hv : v < 2147483648) : Pc (FX12_within (nI s) (nI m) (nI v) t) (fun r _ => r = if m = 2 then nI (bct n w v n 0 (fun _ => 0)) else if Gr m then nI (crw n (okc m v (cst n w m) (R1 n w m)) n 0) else -2) := by
  unfold FX12_within
  refine Pc.bq (g_isNet hs hn h) ?_
  rw [if_neg (c := n = 0) (by omega), li_2]
  refine Pc.ifF (by decide) (Pc.bq (g_msM hm) (Pc.ifF (by decide) (Pc.cv (nI_lit hm (by omega)) (Pc.ite (fun c => ?_) (fun c => ?_)))))
  · rw [if_pos c]
    refine Pc.ifT (by rw [li_0, nI_leP (by omega) (by omega)]; omega) (Pc.ifT (by rw [c]) ?_)
    rw [li_9, mnI_n hv (by omega)]
    have e1 : Nat.min v 9 ≤ 9 := Nat.min_le_right _ _
    refine Pc.bd _ (r_rowsOfBand hs hw hn h1 (by omega) h) ?_
    rintro _ u ⟨rfl, -⟩
    refine Pc.ret ?_
    by_cases e : v ≤ 9
    · rw [show Nat.min v 9 = v from Nat.min_eq_left e]
    · rw [show Nat.min v 9 = 9 from Nat.min_eq_right (by omega), bct_cap (L := 9) (M := v) (by omega) (by omega) (by omega)]
  · rw [if_neg c]
    refine Pc.bq (q_isGreatest hm) ?_
    by_cases g : Gr m
    · rw [if_pos (show m = 0 ∨ m = 1 ∨ m = 5 from g), if_pos g]
      refine Pc.ifF (by decide) (Pc.ifT (by rw [li_0, nI_leP (by omega) (by omega)]; omega) (Pc.ifF (by rw [nI_lit hm (by omega)]; exact c) ?_))
      rw [li_999999, mnI_n hv (by omega)]
      have e1 : Nat.min v 999999 ≤ 999999 := Nat.min_le_right _ _
      refine Pc.bd _ (m_laysCosts h hs hw hn hm).pc ?_
      rintro _ t1 ⟨f1, e17, -, hA, -⟩
      refine Pc.bd _ (m_rowsWithin (h.fr (f1 150 (by decide) (by decide))) hs hn g (R := R1 n w m) (fun S p => cst_le hw hn) (by omega) e17 hA).pc ?_
      rintro _ u ⟨-, rfl⟩
      refine Pc.ret ?_
      congr 1
      refine crw_cap hw hn g ?_
      by_cases e : v ≤ 999999
      · exact Or.inl (Nat.min_eq_left e)
      · exact Or.inr ⟨by rw [show Nat.min v 999999 = 999999 from Nat.min_eq_right (by omega)]; omega, by omega⟩
    · rw [if_neg (show ¬ (m = 0 ∨ m = 1 ∨ m = 5) from g), if_neg g]
      exact Pc.ifT rfl (Pc.ret rfl)
