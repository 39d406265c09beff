/-! the class reads a text, the end -/
/-- only what is read, and the draft, change -/
def KE (t u : St) : Prop := DR t u ∧ u 5 1 = t 5 1 ∧ u 5 2 = t 5 2
theorem KD.ke {t u : St} (h : KD t u) : KE t u := ⟨h.1, h.2.2.1, h.2.2.2⟩
theorem KR.ke {t u : St} (h : KR t u) : KE t u := h.kd.ke
theorem KE.tr {t u v : St} (h : KE t u) (g : KE u v) : KE t v := ⟨h.1.tr g.1, g.2.1.trans h.2.1, g.2.2.trans h.2.2⟩
theorem e_readRow {k : Nat} {bt : Nat → Nat} {t : St} {p N c : Nat} {w : Nat → Nat → Nat} (h : RC k bt p t) (hn : CN 6 N c w t) (hN : 1 ≤ N) (h9 : N < 10) (ho : ∀ i, i < 9 → t 8 i = nI i) : Ok (FX7_readRow t) (PFx t (prow k bt N p) (fun o u => CN 6 N c w u ∧ (∀ i, i < N → u 8 i = nI (o i)) ∧ KE t u)) := by
  have hc4 := tkc_lt (k := k) (bt := bt) (p := p)
  unfold FX7_readRow
  refine Ok.rdE h.2.2.2.1 ?_
  by_cases c0 : tkc k bt p = 0
  · exact Ok.ifT (by rw [c0]; rfl) (Ok.ret (PFx.r (if_pos c0) ⟨rfl, hn, fun i hi => ho i (by omega), KR.rf.ke⟩))
  have ep : prow k bt N p = _ := if_neg c0
  refine Ok.ifF (by rw [li_0, nI_eqP (by omega) (by omega)]; exact c0) (Ok.bd _ (e_word1 h (Q := fun r u => t = u ∧ ((r = 1 ∧ wrd k bt 114 111 119 p = true) ∨ (r = 0 ∧ wrd k bt 114 111 119 p = false))) (fun a => ⟨rfl, Or.inl ⟨rfl, a⟩⟩) (fun a => ⟨rfl, Or.inr ⟨rfl, a⟩⟩)) ?_)
  rintro r _ ⟨rfl, ⟨rfl, hs⟩ | ⟨rfl, hs⟩⟩
  · skip
    rw [if_pos hs] at ep
    refine Ok.ifF (by decide) (Ok.bd _ (e_nx h) ?_)
    rintro _ u1 ⟨R1, K1⟩
    have hc5 := tkc_lt (k := k) (bt := bt) (p := tke k bt p)
    refine Ok.rdE R1.2.2.2.1 ?_
    by_cases c2 : tkc k bt (tke k bt p) = 2
    · rw [if_pos c2] at ep
      refine Ok.ifT (by rw [c2]; rfl) (Ok.bd _ (e_readDigits R1 (K1.cn hn (by omega)) hN h9 c2) ?_)
      rintro r u2 ⟨hf, ⟨rfl, hd, h8⟩ | ⟨rfl, hd⟩⟩
      · rw [if_pos hd] at ep
        have R2 : RC k bt (tke k bt p) u2 := R1.kd (hf 1 (by decide)) (hf 2 (by decide)) (hf 5 (by decide))
        have n2 : CN 6 N c w u2 := (K1.cn hn (by omega)).fr (hf 6 (by decide)) (hf 7 (by decide)) (hf 9 (by decide))
        have K2 : KE t u2 := K1.ke.tr ⟨fun c hc => hf c (by omega), by rw [hf 5 (by decide)], by rw [hf 5 (by decide)]⟩
        refine Ok.ifF (by decide) (Ok.bd _ (e_nx R2) ?_)
        rintro _ u3 ⟨R3, K3⟩
        refine Ok.bd _ (e_takeSign (c := 59) R3 (by omega)) ?_
        intro r u4 hr4
        by_cases s59 : sgn k bt 59 (tke k bt (tke k bt p)) = true
        · obtain ⟨rfl, R4, K4⟩ := hr4.gr (if_pos s59)
          rw [if_pos s59] at ep
          have hc6 := tkc_lt (k := k) (bt := bt) (p := tke k bt (tke k bt (tke k bt p)))
          have K34 := K3.tr K4
          refine Ok.ifF (by decide) (Ok.rdE R4.2.2.2.1 ?_)
          by_cases e0 : tkc k bt (tke k bt (tke k bt (tke k bt p))) = 0
          · rw [if_pos e0] at ep
            refine Ok.ifT (by rw [e0]; rfl) (Ok.ret (PFx.r ep ⟨rfl, K34.cn n2 (by omega), fun i hi => ?_, K2.tr K34.ke⟩))
            rw [K34.1 8 (by decide)]
            exact h8 i hi
          · rw [if_neg e0] at ep
            refine Ok.ifF (by rw [li_0, nI_eqP (by omega) (by omega)]; exact e0) (Ok.bd _ (e_blame (f := 1) R4) ?_)
            rintro _ u5 ⟨rfl, a1, a2, a3⟩
            exact Ok.ifT rfl (Ok.ret (PFx.l ep ⟨rfl, a1, a2, (K2.1.tr K34.dr).tr a3⟩))
        · obtain ⟨rfl, a1, a2, a3⟩ := hr4.gl (if_neg s59)
          rw [if_neg s59] at ep
          exact Ok.ifT rfl (Ok.ret (PFx.l ep ⟨rfl, a1, a2, (K2.1.tr K3.dr).tr a3⟩))
      · rw [if_neg (by rw [hd]; decide)] at ep
        have R2 : RC k bt (tke k bt p) u2 := R1.kd (hf 1 (by decide)) (hf 2 (by decide)) (hf 5 (by decide))
        refine Ok.ifT rfl (Ok.bd _ (e_blame (f := 5) R2) ?_)
        rintro _ u3 ⟨rfl, a1, a2, a3⟩
        exact Ok.ckT rfl (Ok.ret (PFx.l ep ⟨rfl, a1, a2, (K1.dr.tr (fun c hc => hf c (by omega))).tr a3⟩))
    · rw [if_neg c2] at ep
      refine Ok.ifF (by rw [li_2, nI_eqP (by omega) (by omega)]; exact c2) (Ok.bd _ (e_blame (f := 1) R1) ?_)
      rintro _ u3 ⟨rfl, a1, a2, a3⟩
      exact Ok.ckT rfl (Ok.ret (PFx.l ep ⟨rfl, a1, a2, K1.dr.tr a3⟩))
  · rw [if_neg (by rw [hs]; decide)] at ep
    refine Ok.ifT rfl (Ok.bd _ (e_blame (f := 1) h) ?_)
    rintro _ u3 ⟨rfl, a1, a2, a3⟩
    exact Ok.ckT rfl (Ok.ret (PFx.l ep ⟨rfl, a1, a2, a3⟩))
theorem e_readHead {k : Nat} {bt : Nat → Nat} {t : St} {p : Nat} (h : RC k bt p t) : Ok (FX7_readHead t) (PFx t (if wrd k bt 110 101 116 p = true then sbn (num k bt 1 9 (tke k bt p)) (fun N => .inr (N, tke k bt (tke k bt p))) else .inl (1, tkb k bt p)) (fun v u => RC k bt v.2 u ∧ CN 6 v.1 0 (fun _ _ => 0) u ∧ (∀ i, i < 9 → u 8 i = nI i) ∧ 1 ≤ v.1 ∧ v.1 < 10 ∧ KE t u)) := by
  unfold FX7_readHead
  refine Ok.bd _ (e_word0 h (Q := fun r u => t = u ∧ ((r = 1 ∧ wrd k bt 110 101 116 p = true) ∨ (r = 0 ∧ wrd k bt 110 101 116 p = false))) (fun a => ⟨rfl, Or.inl ⟨rfl, a⟩⟩) (fun a => ⟨rfl, Or.inr ⟨rfl, a⟩⟩)) ?_
  rintro r _ ⟨rfl, ⟨rfl, hs⟩ | ⟨rfl, hs⟩⟩
  · skip
    rw [if_pos hs]
    refine Ok.ifF (by decide) (Ok.bd _ (e_nx h) ?_)
    rintro _ u1 ⟨R1, K1⟩
    refine Ok.bd _ (e_num (lo := 1) (hi := 9) R1 (by omega) (by omega)) ?_
    intro r u2 hr2
    cases e : num k bt 1 9 (tke k bt p) with
    | inl f =>
      obtain ⟨rfl, a1, a2, a3⟩ := hr2.gl e
      exact Ok.ifT rfl (Ok.ret (PFx.l rfl ⟨rfl, a1, a2, K1.dr.tr a3⟩))
    | inr N =>
      obtain ⟨rfl, e7, R2, K2⟩ := hr2.gr e
      have hv := num_in e
      refine Ok.ifF (by decide) (Ok.rdE e7 (Ok.bd _ (e_begin n6) ?_))
      rintro _ u3 ⟨n3, h8, hf⟩
      have e5 := hf 5 (by decide) (by decide) (by decide) (by decide)
      have R3 : RC k bt (tke k bt p) u3 := R2.kd (hf 1 (by decide) (by decide) (by decide) (by decide)) (hf 2 (by decide) (by decide) (by decide) (by decide)) e5
      refine Ok.bd _ (e_nx R3) ?_
      rintro _ u4 ⟨R4, K4⟩
      refine Ok.ret (PFx.r rfl ⟨rfl, R4, K4.cn n3 (by omega), fun i hi => ?_, hv.1, by show N < 10; omega, ((K1.tr K2).ke.tr ⟨fun c hc => hf c (by omega) (by omega) (by omega) (by omega), by rw [e5], by rw [e5]⟩).tr K4.ke⟩)
      rw [K4.1 8 (by decide)]
      exact h8 i hi
  · rw [if_neg (c := wrd k bt 110 101 116 p = true) (by rw [hs]; decide)]
    refine Ok.ifT rfl (Ok.bd _ (e_blame (f := 1) h) ?_)
    rintro _ u3 ⟨rfl, a1, a2, a3⟩
    exact Ok.ckT rfl (Ok.ret (PFx.l rfl ⟨rfl, a1, a2, a3⟩))
/-- the class reads the tape -/
theorem e_readAll {k : Nat} {bt : Nat → Nat} {t : St} (h : CT k bt t) : Ok (FX7_readAll t) (PFx t (ptext k bt) (fun v u => u 5 1 = 0 ∧ u 5 2 = -1 ∧ CN 6 v.1 v.2.1 v.2.2.1 u ∧ (∀ i, i < v.1 → u 8 i = nI (v.2.2.2 i)) ∧ DR t u)) := by
  unfold FX7_readAll
  refine OkwrE (OkwrE (OkwrE ?_))
  have hC : CT k bt (wr (wr (wr t 5 1 0) 5 2 (-1)) 5 6 0) := h.fr (by rw [wr_off 1 (by decide), wr_off 1 (by decide), wr_off 1 (by decide)]) (by rw [wr_off 2 (by decide), wr_off 2 (by decide), wr_off 2 (by decide)])
  have e6 : wr (wr (wr t 5 1 0) 5 2 (-1)) 5 6 0 5 6 = nI 0 := wrs
  have e1 : wr (wr (wr t 5 1 0) 5 2 (-1)) 5 6 0 5 1 = 0 := by rw [wrn (by decide), wrn (by decide), wrs]
  have e2 : wr (wr (wr t 5 1 0) 5 2 (-1)) 5 6 0 5 2 = -1 := by rw [wrn (by decide), wrs]
  have hD : DR t (wr (wr (wr t 5 1 0) 5 2 (-1)) 5 6 0) := fun c hc => by rw [wr_off c (by omega), wr_off c (by omega), wr_off c (by omega)]
  generalize wr (wr (wr t 5 1 0) 5 2 (-1)) 5 6 0 = y at hC e6 e1 e2 hD ⊢
  refine Ok.bd _ (e_step hC (Nat.zero_le _) e6) ?_
  rintro _ u1 ⟨R1, K1⟩
  refine Ok.bd _ (e_readHead R1) ?_
  intro r u2 hr2
  by_cases hs : wrd k bt 110 101 116 0 = true
  · have ep : ptext k bt = sbn (num k bt 1 9 (tke k bt 0)) _ := if_pos hs
    cases e : num k bt 1 9 (tke k bt 0) with
    | inl f =>
      obtain ⟨rfl, a1, a2, a3⟩ := hr2.gl ((if_pos hs).trans (sbn_l e))
      exact Ok.ifT rfl (Ok.ret (PFx.l (ep.trans (sbn_l e)) ⟨rfl, a1, a2, (hD.tr K1.dr).tr a3⟩))
    | inr N =>
      obtain ⟨rfl, R2, n2, o2, hN, h9, K2⟩ := hr2.gr ((if_pos hs).trans (sbn_r e))
      rw [sbn_r e] at ep
      have kk := K1.ke.tr K2
      refine Ok.ifF (by decide) (Ok.bd _ (e_readLines R2 n2 hN h9) ?_)
      intro r u3 hr3
      cases e3 : plns k bt N (tke k bt (tke k bt 0)) with
      | inl f =>
        obtain ⟨rfl, a1, a2, a3⟩ := hr3.gl e3
        exact Ok.ifT rfl (Ok.ret (PFx.l (ep.trans (sbn_l e3)) ⟨rfl, a1, a2, (hD.tr kk.1).tr a3⟩))
      | inr v =>
        obtain ⟨rfl, R3, n3, K3⟩ := hr3.gr e3
        rw [sbn_r e3] at ep
        have kk3 := kk.tr K3.ke
        refine Ok.ifF (by decide) (Ok.bd _ (e_readRow R3 n3 hN h9 (fun i hi => by rw [K3.2.1]; exact o2 i hi)) ?_)
        intro r u4 hr4
        cases e4 : prow k bt N v.1 with
        | inl f =>
          obtain ⟨rfl, a1, a2, a3⟩ := hr4.gl e4
          exact Ok.ifT rfl (Ok.ret (PFx.l (ep.trans (sbn_l e4)) ⟨rfl, a1, a2, (hD.tr kk3.1).tr a3⟩))
        | inr o =>
          obtain ⟨rfl, n4, o4, K4⟩ := hr4.gr e4
          have kk4 := kk3.tr K4
          exact Ok.ifF (by decide) (Ok.ret (PFx.r (ep.trans (sbn_r e4)) ⟨rfl, by rw [kk4.2.1]; exact e1, by rw [kk4.2.2]; exact e2, n4, o4, hD.tr kk4.1⟩))
  · have ep : ptext k bt = .inl (1, tkb k bt 0) := if_neg hs
    obtain ⟨rfl, a1, a2, a3⟩ := hr2.gl (if_neg hs)
    exact Ok.ifT rfl (Ok.ret (PFx.l ep ⟨rfl, a1, a2, (hD.tr K1.dr).tr a3⟩))
