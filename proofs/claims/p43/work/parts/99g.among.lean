/-! the least of a second measure over those rows that have the least of a first (wip/sim/g99g.py) -/
theorem am_ok {n m1 m2 T L : Nat} {w : Nat → Nat → Nat} (hw : WF n w) (hn : n < 10) (hg : Gr m1) : ∀ {k S : Nat}, S < 2 ^ n → n - cnt S n = k → R1 n w m1 S ≤ L → rst n m2 T (fun S p => decide (cst n w m1 S p ≤ L)) (cst n w m2) k S ≤ 729 * k
  | 0, S, _, _, _ => Nat.zero_le _
  | k + 1, S, hS, hk, hL => by
    have hlt : S < 2 ^ n - 1 := by
      rcases Nat.lt_or_ge S (2 ^ n - 1) with q | q
      · exact q
      · have e : S = 2 ^ n - 1 := by omega
        rw [e, cnt_fl] at hk
        omega
    obtain ⟨p, hp, hb, e⟩ := (R1_pr (m := m1) hw hn).1.2 S hlt
    rw [jn_g hg] at e
    have h1 : cst n w m1 S p ≤ L := Nat.le_trans (Nat.le_trans (Nat.le_max_left _ _) (Nat.le_of_eq e.symm)) hL
    have h2 : R1 n w m1 (S ||| 2 ^ p) ≤ L := Nat.le_trans (Nat.le_trans (Nat.le_max_right _ _) (Nat.le_of_eq e.symm)) hL
    obtain ⟨-, u1, u2⟩ := set_up hS hp hb
    have ih := am_ok (m2 := m2) (T := T) hw hn hg (k := k) (S := S ||| 2 ^ p) u1 (by omega) h2
    have lb : rst n m2 T (fun S p => decide (cst n w m1 S p ≤ L)) (cst n w m2) (k + 1) S ≤ jn m2 (cst n w m2 S p) (rst n m2 T (fun S p => decide (cst n w m1 S p ≤ L)) (cst n w m2) k (S ||| 2 ^ p)) := by
      rw [rst]
      exact mns_lb (f := fun p => jn m2 (cst n w m2 S p) (rst n m2 T (fun S p => decide (cst n w m1 S p ≤ L)) (cst n w m2) k (S ||| 2 ^ p))) hp (by rw [hb, decide_eq_true h1]; rfl)
    have jl := jn_le (m := m2) (cst_le (m := m2) (S := S) (p := p) hw hn) ih
    omega
noncomputable def amv (n : Nat) (w : Nat → Nat → Nat) (m1 m2 T : Nat) : Nat := rst n m2 T (fun S p => decide (cst n w m1 S p ≤ R1 n w m1 0)) (cst n w m2) n 0
theorem amv_T {n m1 m2 : Nat} {w : Nat → Nat → Nat} (hw : WF n w) (hn : n < 10) (hg : Gr m1) : amv n w m1 m2 1048576 = amv n w m1 m2 1000000 := by
  rcases rst_T (n := n) (m := m2) (T := 1048576) (U := 1000000) (al := fun S p => decide (cst n w m1 S p ≤ R1 n w m1 0)) (c := cst n w m2) (fun S p => cst_le hw hn) (by omega) (by omega) (k := n) (S := 0) (by omega) with ⟨h, -⟩ | ⟨h, -⟩
  · exact h
  · have := am_ok (m2 := m2) (T := 1048576) hw hn hg (k := n) (S := 0) (Nat.two_pow_pos n) (by rw [cnt_0]; omega) (Nat.le_refl (R1 n w m1 0))
    omega
theorem il_85 : ilen 85 = 4608 := by decide +kernel
theorem il_86 : ilen 86 = 4608 := by decide +kernel
theorem e_leastWhere {s n l m1 m2 : Nat} {w : Nat → Nat → Nat} {t : St} (hs : s < 3) (h : CN (12 + 24 * s) n l w t) (hw : WF n w) (hn : n < 10) (h1 : m1 < 7) (h2 : m2 < 7) (hm2 : m2 ≠ 2) : Ok (FX9_leastWhere (12 + 24 * s) (nI m2) (nI m1) (nI (R1 n w m1 0)) t) (fun r _ => r = nI (amv n w m1 m2 1048576)) := by
  have g := n_sl hs
  have r0 := (R1_pr (m := m1) hw hn).2.2 0 (Nat.two_pow_pos n)
  unfold FX9_leastWhere
  refine Ok.ckT g (Ok.bd _ (e_fillSteps (ta := 86) h g hw hn h1 il_86 (by omega) (by omega)) ?_)
  rintro _ t1 ⟨f1, s1⟩
  have n1 : CN (12 + 24 * s) n l w t1 := h.fr (f1 _ (by omega) (by omega)) (f1 _ (by omega) (by omega)) (f1 _ (by omega) (by omega))
  refine Ok.bd _ (e_fillSteps (ta := 85) n1 g hw hn h2 il_85 (by omega) (by omega)) ?_
  rintro _ t2 ⟨f2, s2⟩
  have n2 : CN (12 + 24 * s) n l w t2 := n1.fr (f2 _ (by omega) (by omega)) (f2 _ (by omega) (by omega)) (f2 _ (by omega) (by omega))
  have s86 : STP 86 n (cst n w m1) t2 := fun S p hS hp hb => by rw [f2 86 (by decide) (by decide)]; exact s1 S p hS hp hb
  refine Ok.bd _ (e_fillRest (ta := 86) (L := R1 n w m1 0) n2 g hn h2 hm2 (fun S p => cst_le hw hn) (fun S p => cst_le hw hn) (by omega) il_86 s2 s86 (by omega)) ?_
  rintro _ t3 ⟨f3, s3⟩
  refine Ok.ckT (by decide) (Ok.rdE (x := nI (amv n w m1 m2 1048576)) ?_ (Ok.ret rfl))
  rw [cl0, s3 0 (Nat.two_pow_pos n)]
  show nI (rst n m2 _ _ _ (n - cnt 0 n) 0) = _
  rw [cnt_0]
  rfl
theorem m_amLoop {s n m1 m2 : Nat} {w : Nat → Nat → Nat} {t : St} {L : Nat} (h : RN s n w t) (hs : s < 3) (hw : WF n w) (hn : n < 10) (h2 : m2 < 7) (hL : L ≤ 6561) (e17 : t 149 17 = nI (2 ^ n - 1)) (hA : CSA n (fun _ _ => true) (cst n w m1) t) (hB : ∀ S p, S < 2 ^ n → p < n → S.testBit p = true → t 157 (9 * S + p) = nI 1000000) : Ok (wh (SX12_among_54 (nI s) (nI m2) (nI L)) (0 : Int32) t) (fun _ u => (∀ c, c ≠ 157 → u c = t c) ∧ CSA n (fun S p => decide (cst n w m1 S p ≤ L)) (cst n w m2) u) := by
  have p9 := pow9 (k := n) (by omega)
  have p0 := Nat.two_pow_pos n
  have old : ∀ S p, S < 2 ^ n → p < n → t 157 (9 * S + p) = nI (if S.testBit p = true then 1000000 else cst n w m1 S p) := fun S p hS hp => by
    by_cases c : S.testBit p = true
    · rw [if_pos c]; exact hB S p hS hp c
    · rw [if_neg c]
      have := hA S p hS hp (bF c)
      rw [if_pos rfl] at this
      exact this
  refine Ok.count (2 ^ n) (fun j c s' => c = nI j ∧ (∀ c, c ≠ 157 → s' c = t c) ∧ (∀ S p, S < j → p < n → S.testBit p = false → s' 157 (9 * S + p) = nI (if decide (cst n w m1 S p ≤ L) = true then cst n w m2 S p else 1000000)) ∧ ∀ S p, j ≤ S → S < 2 ^ n → p < n → s' 157 (9 * S + p) = t 157 (9 * S + p)) ?_ ?_ (Nat.zero_le _) ⟨rfl, fun _ _ => rfl, fun S p hS => by omega, fun _ _ _ _ _ => rfl⟩
  · rintro j c s' hj ⟨rfl, sf, s1, s2⟩
    unfold SX12_among_54
    refine Ok.rdE (x := nI (2 ^ n - 1)) (by rw [sf 149 (by decide)]; exact e17) (Ok.ifF (by rw [nI_ltP (by omega) (by omega)]; omega) (Ok.bd (fun _ u => (∀ c, c ≠ 157 → u c = t c) ∧ (∀ S p, S < j + 1 → p < n → S.testBit p = false → u 157 (9 * S + p) = nI (if decide (cst n w m1 S p ≤ L) = true then cst n w m2 S p else 1000000)) ∧ ∀ S p, j + 1 ≤ S → S < 2 ^ n → p < n → u 157 (9 * S + p) = t 157 (9 * S + p)) ?_ (fun _ u hu => Ok.ret ⟨nI_1 j, hu⟩)))
    refine Ok.count n (fun i c u => c = nI i ∧ (∀ c, c ≠ 157 → u c = t c) ∧ (∀ S p, (S < j ∨ (S = j ∧ p < i)) → p < n → S.testBit p = false → u 157 (9 * S + p) = nI (if decide (cst n w m1 S p ≤ L) = true then cst n w m2 S p else 1000000)) ∧ ∀ S p, (j < S ∨ (S = j ∧ i ≤ p)) → S < 2 ^ n → p < n → u 157 (9 * S + p) = t 157 (9 * S + p)) ?_ ?_ (Nat.zero_le _) ⟨rfl, sf, fun S p hS hp hb => s1 S p (by omega) hp hb, fun S p hS h2 hp => s2 S p (by omega) h2 hp⟩
    · rintro i c u hi ⟨rfl, uf, u1, u2⟩
      unfold SX12_among_66
      have c1 := cst_le (m := m1) (S := j) (p := i) hw hn
      have c2 := cst_le (m := m2) (S := j) (p := i) hw hn
      have hu := h.fr (uf 150 (by decide))
      refine Ok.bq (q_points hu hs) (Ok.ifF (by rw [nI_leP (by omega) (by omega)]; omega) ?_)
      rw [li_9, nI_mul, nI_add]
      refine Ok.ckT (inb_n (by omega) (by omega)) ?_
      rw [nI_cl (by omega)]
      refine Ok.rdE (x := nI (if j.testBit i = true then 1000000 else cst n w m1 j i)) (by rw [u2 j i (by omega) hj hi]; exact old j i hj hi) ?_
      have ov : (if j.testBit i = true then 1000000 else cst n w m1 j i) < 2147483648 := by split <;> omega
      refine Ok.bq (a := nI (if (if j.testBit i = true then 1000000 else cst n w m1 j i) ≤ L then cst n w m2 j i else 1000000)) (t := u) (Ok.eq (Ok.cv (nI_leP ov (by omega)) (Ok.ite (fun q => Ok.bq (q_cost hu hs hw hn h2 (by omega) (by omega)) (Ok.ret ⟨rfl, by rw [if_pos q]⟩)) (fun q => Ok.ret ⟨rfl, by rw [if_neg q]; rfl⟩)))) ?_
      refine Ok.ckT (inb_n (by omega) (by omega)) (OkwrE (Ok.ret ⟨nI_1 i, fun c hc => by rw [wr_off c hc]; exact uf c hc, fun S p hS hp hb => ?_, fun S p hS hS2 hp => by rw [wrn (by omega)]; exact u2 S p (by omega) hS2 hp⟩))
      by_cases e : S = j ∧ p = i
      · obtain ⟨rfl, rfl⟩ := e
        rw [wrs, hb]
        show nI (if cst n w m1 S p ≤ L then cst n w m2 S p else 1000000) = _
        by_cases q : cst n w m1 S p ≤ L
        · rw [if_pos q, if_pos (decide_eq_true q)]
        · rw [if_neg q, if_neg (fun k => q (of_decide_eq_true k))]
      · rw [wrn (by omega)]
        exact u1 S p (by omega) hp hb
    · rintro c u ⟨rfl, uf, u1, u2⟩
      unfold SX12_among_66
      exact Ok.bq (q_points (h.fr (uf 150 (by decide))) hs) (Ok.ifT (by rw [nI_leP (by omega) (by omega)]; omega) (Ok.ret ⟨uf, fun S p hS hp hb => u1 S p (by omega) hp hb, fun S p hS hS2 hp => u2 S p (by omega) hS2 hp⟩))
  · rintro c s' ⟨rfl, sf, s1, s2⟩
    unfold SX12_among_54
    exact Ok.rdE (x := nI (2 ^ n - 1)) (by rw [sf 149 (by decide)]; exact e17) (Ok.ifT (by rw [nI_ltP (by omega) (by omega)]; omega) (Ok.ret ⟨sf, fun S p hS hp hb => s1 S p hS hp hb⟩))
theorem a_among {s n m1 m2 : Nat} {w : Nat → Nat → Nat} {t : St} (h : RN s n w t) (hs : s < 3) (hw : WF n w) (hn : n < 10) (hp : 1 ≤ n) (h1 : m1 < 7) (h2 : m2 < 7) (hg : Gr m1) (hm2 : m2 ≠ 2) : Pc (FX12_among (nI s) (nI m1) (nI m2) t) (fun r _ => r = nI (amv n w m1 m2 1000000)) := by
  have r0 := (R1_pr (m := m1) hw hn).2.2 0 (Nat.two_pow_pos n)
  unfold FX12_among
  refine Pc.bq (g_isN1 hs hn h hp) (Pc.ifF (by decide) (Pc.bq (g_msM h1) (Pc.ifF (by decide) (Pc.bq (q_isGreatest h1) ?_))))
  rw [if_pos (c := m1 = 0 ∨ m1 = 1 ∨ m1 = 5) hg]
  refine Pc.ifF (by decide) (Pc.bq (g_msM h2) (Pc.ifF (by decide) (Pc.ifF (by rw [li_2, nI_lit h2 (by omega)]; exact hm2) (Pc.bd _ (m_laysLeast h hs hw hn h1).pc ?_))))
  rintro _ t1 ⟨n1, e17, cA, rA, bA⟩
  refine Pc.ck (fun _ => Pc.rdE (x := nI (R1 n w m1 0)) ?_ (Pc.bd _ (m_amLoop n1 hs hw hn h2 r0 e17 cA bA).pc ?_))
  · rw [cl0, rA 0 (Nat.two_pow_pos n), R12 hw hn (Nat.two_pow_pos n)]
  · rintro _ t2 ⟨f2, c2⟩
    refine Pc.bd _ (m_laysRest (n1.fr (f2 150 (by decide))) hs hn h2 (fun S p => cst_le hw hn) (by rw [f2 149 (by decide)]; exact e17) c2 (fun S p _ _ _ => ⟨_, rfl⟩)).pc ?_
    rintro _ t3 ⟨f3, r3⟩
    refine Pc.ck (fun _ => Pc.rdE (x := nI (amv n w m1 m2 1000000)) ?_ (Pc.ret rfl))
    rw [cl0, r3 0 (Nat.two_pow_pos n)]
    show nI (rst n m2 _ _ _ (n - cnt 0 n) 0) = _
    rw [cnt_0]
    rfl
theorem z3_among {σ : St} (hI : INV3 σ) (a b c : Int32) : BOTH (FX11_among a b c σ) (fun u => FX12_among a b c u) := by
  rcases r3 (a := a) with ⟨s, hs, rfl⟩ | ha
  · obtain ⟨v, h⟩ := hI.sl hs
    have hn : v.1 < 10 := h.1.1.1
    have hw := h.1.1.2.1
    have h0 := h.2.1.1.1
    have hr := h.2.2.1
    by_cases h1 : 1 ≤ v.1
    · by_cases hb : IsR 7 b
      · obtain ⟨q, hq, rfl⟩ := hb
        have hz := z_among hI.1 (nI s) (nI q) c
        by_cases hg : Gr q
        · have nq2 : q ≠ 2 := by unfold Gr at hg; omega
          have bd1 : ∀ u, FX11_isBounded (nI q) u = some (1, u) := fun u => by
            rw [g_bd hq, if_pos (by unfold Gr at hg; omega)]
          by_cases hc : IsR 7 c
          · obtain ⟨r, hr7, rfl⟩ := hc
            by_cases c2 : r = 2
            · subst c2
              refine srA hI hz (-2) ?_ (fun u => fo_FX12_among (P := P3) _ _ _ (fun c i h => by unfold P3 at h; omega)) (fun u hu => ?_)
              · unfold FX11_among
                refine Pc.bd _ (r_fof hI hs h h1 hq) ?_
                rintro _ u ⟨rfl, z, S⟩
                exact Pc.ck (fun _ => Pc.bq (bd1 u) (Pc.ifF (by decide) (Pc.ite (fun _ => Pc.ret ⟨rfl, S⟩) (fun _ => Pc.bq (g_pr hr7) (Pc.ifT rfl (Pc.ret ⟨rfl, S⟩))))))
              · unfold FX12_among
                refine Pc.bq (g_isN1 hs hn (hu.rn hr) h1) (Pc.ifF (by decide) (Pc.bq (g_msM hq) (Pc.ifF (by decide) (Pc.bq (q_isGreatest hq) ?_))))
                rw [if_pos (c := q = 0 ∨ q = 1 ∨ q = 5) hg]
                exact Pc.ifF (by decide) (Pc.bq (g_msM hr7) (Pc.ifF (by decide) (Pc.ifT rfl (Pc.ret rfl))))
            · refine srA hI hz (nI (amv v.1 v.2.2.1 q r 1048576)) ?_ (fun u => fo_FX12_among (P := P3) _ _ _ (fun c i h => by unfold P3 at h; omega)) (fun u hu => ?_)
              · unfold FX11_among
                refine Pc.bd _ (r_fof hI hs h h1 hq) ?_
                rintro _ u ⟨rfl, z, S⟩
                refine Pc.ck (fun _ => Pc.bq (bd1 u) (Pc.ifF (by decide) (Pc.ifF (by rw [li_2, nI_lit hq (by omega)]; exact nq2) (Pc.bq (g_pr hr7) ?_))))
                rw [if_neg c2]
                refine Pc.ifF (by decide) (Pc.ck (fun _ => Pc.ck (fun _ => ?_)))
                rw [el10 hs]
                have ez : u (22 + 24 * s + 2 * q) 1 = nI (R1 v.1 v.2.2.1 q 0) := by
                  rw [z.1]
                  unfold lsv
                  rw [if_neg nq2]
                have hu : CN (12 + 24 * s) v.1 v.2.1 v.2.2.1 u := h.2.1.1.fr (cel S.2 (fun i => by unfold PS; omega)) (cel S.2 (fun i => by unfold PS; omega)) (cel S.2 (fun i => by unfold PS; omega))
                refine Pc.rdE ez (Pc.bd _ (Pc.an (e_leastWhere hs hu hw hn hq hr7 c2).pc (fo_FX9_leastWhere (P := P3) _ _ _ _ (fun c i h => by unfold P3 at h; omega)).pc) ?_)
                rintro _ t2 ⟨rfl, f2⟩
                exact Pc.ret ⟨rfl, S.fr f2⟩
              · rw [amv_T hw hn hg]
                exact a_among (hu.rn hr) hs hw hn h1 hq hr7 hg c2
          · refine srA hI hz (-2) ?_ (fun u => fo_FX12_among (P := P3) _ _ _ (fun c i h => by unfold P3 at h; omega)) (fun u hu => ?_)
            · unfold FX11_among
              refine Pc.bd _ (r_fof hI hs h h1 hq) ?_
              rintro _ u ⟨rfl, z, S⟩
              exact Pc.ck (fun _ => Pc.bq (bd1 u) (Pc.ifF (by decide) (Pc.ite (fun _ => Pc.ret ⟨rfl, S⟩) (fun _ => Pc.bq (g_pr0 hc) (Pc.ifT rfl (Pc.ret ⟨rfl, S⟩))))))
            · unfold FX12_among
              refine Pc.bq (g_isN1 hs hn (hu.rn hr) h1) (Pc.ifF (by decide) (Pc.bq (g_msM hq) (Pc.ifF (by decide) (Pc.bq (q_isGreatest hq) ?_))))
              rw [if_pos (c := q = 0 ∨ q = 1 ∨ q = 5) hg]
              exact Pc.ifF (by decide) (Pc.bq (g_msM0 hc) (Pc.ifT rfl (Pc.ret rfl)))
        · refine srA hI hz (-2) ?_ (fun u => fo_FX12_among (P := P3) _ _ _ (fun c i h => by unfold P3 at h; omega)) (fun u hu => ?_)
          · unfold FX11_among
            refine Pc.bd _ (r_fof hI hs h h1 hq) ?_
            rintro _ u ⟨rfl, z, S⟩
            refine Pc.ck (fun _ => Pc.bq (g_bd hq) ?_)
            by_cases q2 : q = 2
            · rw [if_pos (c := q = 0 ∨ q = 1 ∨ q = 2 ∨ q = 5) (by omega)]
              exact Pc.ifF (by decide) (Pc.ifT (by rw [q2]; rfl) (Pc.ret ⟨rfl, S⟩))
            · rw [if_neg (c := q = 0 ∨ q = 1 ∨ q = 2 ∨ q = 5) (by unfold Gr at hg; omega)]
              exact Pc.ifT rfl (Pc.ret ⟨rfl, S⟩)
          · unfold FX12_among
            refine Pc.bq (g_isN1 hs hn (hu.rn hr) h1) (Pc.ifF (by decide) (Pc.bq (g_msM hq) (Pc.ifF (by decide) (Pc.bq (q_isGreatest hq) ?_))))
            rw [if_neg (c := q = 0 ∨ q = 1 ∨ q = 5) hg]
            exact Pc.ifT rfl (Pc.ret rfl)
      · refine BOTH.no (v := -2) hI ?_ ?_
        · unfold FX11_among
          exact Ok.eq (Ok.bq (g_findingOfM hs hn h0 hb) (Ok.ret ⟨rfl, rfl⟩))
        · refine Ok.eq ?_
          unfold FX12_among
          exact Ok.bq (g_isN1 hs hn hr h1) (Ok.ifF (by decide) (Ok.bq (g_msM0 hb) (Ok.ifT rfl (Ok.ret ⟨rfl, rfl⟩))))
    · refine BOTH.no (v := -2) hI ?_ ?_
      · unfold FX11_among
        exact Ok.eq (Ok.bq (g_findingOfN hs (by rw [h0, show v.1 = 0 by omega])) (Ok.ret ⟨rfl, rfl⟩))
      · refine Ok.eq ?_
        unfold FX12_among
        exact Ok.bq (g_isN0 hs hn hr (by omega)) (Ok.ifT rfl (Ok.ret ⟨rfl, rfl⟩))
  · refine BOTH.no (v := -2) hI ?_ ?_
    · unfold FX11_among
      exact Ok.eq (Ok.bq (g_findingOf0 ha) (Ok.ret ⟨rfl, rfl⟩))
    · refine Ok.eq ?_
      unfold FX12_among
      exact Ok.bq (g_isNet0 ha) (Ok.ifT rfl (Ok.ret ⟨rfl, rfl⟩))
