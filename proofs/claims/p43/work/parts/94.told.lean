/-! told, as an act -/
theorem amk_dm {bt : Nat → Nat} {b : Nat} : ∀ {N : Nat}, amk (fun i => bt (b + i) - 48) N = dm bt b N
  | 0 => rfl
  | N + 1 => by
    show amk (fun i => bt (b + i) - 48) N ||| 2 ^ (bt (b + N) - 48) = dm bt b N ||| 2 ^ (bt (b + N) - 48)
    rw [amk_dm]
theorem prow_pfx {k N p : Nat} {bt o : Nat → Nat} (h : prow k bt N p = .inr o) : PFX N N o := by
  unfold prow at h
  by_cases c0 : tkc k bt p = 0
  · rw [if_pos c0] at h
    have h := Sum.inr.inj h
    subst h
    exact pfx_id
  · rw [if_neg c0] at h
    by_cases c1 : wrd k bt 114 111 119 p = true
    · rw [if_pos c1] at h
      by_cases c2 : tkc k bt (tke k bt p) = 2
      · rw [if_pos c2] at h
        by_cases c3 : digs k bt N (tke k bt p) = true
        · rw [if_pos c3] at h
          by_cases c4 : sgn k bt 59 (tke k bt (tke k bt p)) = true
          · rw [if_pos c4] at h
            by_cases c5 : tkc k bt (tke k bt (tke k bt (tke k bt p))) = 0
            · rw [if_pos c5] at h
              have h := Sum.inr.inj h
              subst h
              have c3 := of_decide_eq_true c3
              have e := amk_dm (bt := bt) (b := tkb k bt (tke k bt p)) (N := N)
              rw [c3.2.2] at e
              have := Nat.two_pow_pos N
              exact ⟨c3.2.1, by rw [e]; omega, by rw [e]; exact cnt_fl⟩
            · rw [if_neg c5] at h; cases h
          · rw [if_neg c4] at h; cases h
        · rw [if_neg c3] at h; cases h
      · rw [if_neg c2] at h; cases h
    · rw [if_neg c1] at h; cases h
def vtl (v : V4) : V4 := (v.1, v.2.1, v.2.2.1, trm v.1 v.2.2.2)
theorem ptext_gv {k : Nat} {bt : Nat → Nat} {v : V4} (h : ptext k bt = .inr v) : GV (vtl v) := by
  have a := ptext_in h
  have b : PFX v.1 v.1 v.2.2.2 := by
    unfold ptext at h
    by_cases hw : wrd k bt 110 101 116 0 = true
    · rw [if_pos hw] at h
      cases e : num k bt 1 9 (tke k bt 0) with
      | inl f => rw [sbn_l e] at h; cases h
      | inr N =>
        rw [sbn_r e] at h
        cases e2 : plns k bt N (tke k bt (tke k bt 0)) with
        | inl f => rw [sbn_l e2] at h; cases h
        | inr r =>
          rw [sbn_r e2] at h
          cases e3 : prow k bt N r.1 with
          | inl f => rw [sbn_l e3] at h; cases h
          | inr o =>
            rw [sbn_r e3] at h
            have h := Sum.inr.inj h
            subst h
            exact prow_pfx e3
    · rw [if_neg hw] at h
      cases h
  exact ⟨⟨a.2.1, a.2.2.1, a.2.2.2.1⟩, a.2.2.2.2, (trm_go b).1, (trm_go b).2⟩
section
variable {K K' : Nat → Nat → V4} {m m' s : Nat} {t : St}
theorem c_toldA {k : Nat} {bt : Nat → Nat} (hG : GK K m) (hs : s < 3) (hC : CST K m t) (h : CT k bt t) : Pc (FX11_told (nI s) t) (fun r u => Sum.elim (fun _ => CST K m u) (fun v => CNX K m s (vtl v) u) (ptext k bt) ∧ ∀ c, 9 < c → (c < 12 + 24 * s ∨ 12 + 24 * s + 3 < c) → (c < 98 ∨ 144 < c) → u c = t c) := by
  unfold FX11_told
  refine Pc.bq (g_slot hs) (Pc.ifF (by decide) (Pc.bd _ (e_readAll h).pc ?_))
  intro r t1 hr
  refine PcwrE ?_
  cases e : ptext k bt with
  | inl f =>
    obtain ⟨rfl, -, -, a3⟩ := hr.gl e
    have f1 : ∀ c, 9 < c → wr t1 1 1 0 c = t c := fun c hc => by rw [wr_off c (by omega)]; exact a3 c (Or.inr hc)
    exact Pc.ifT rfl (Pc.ret ⟨hC.fr hG.1 (fun r hr c c1 c2 => f1 c (by omega)) (fun c c1 c2 => f1 c (by omega)), fun c c1 _ _ => f1 c c1⟩)
  | inr v =>
    obtain ⟨rfl, -, -, n1, o1, d1⟩ := hr.gr e
    have hv := ptext_gv e
    have f1 : ∀ c, 9 < c → wr t1 1 1 0 c = t c := fun c hc => by rw [wr_off c (by omega)]; exact d1 c (Or.inr hc)
    have n6' : CN 6 v.1 v.2.1 v.2.2.1 (wr t1 1 1 0) := n1.fr (wr_off _ (by decide)) (wr_off _ (by decide)) (wr_off _ (by decide))
    have o6 : CO 6 v.1 (trm v.1 v.2.2.2) (wr t1 1 1 0) := fun i hi => by
      rw [wrf (by decide), trm_in hi]
      exact o1 i hi
    have hC1 : CST K m (wr t1 1 1 0) := hC.fr hG.1 (fun r hr c c1 c2 => f1 c (by omega)) (fun c c1 c2 => f1 c (by omega))
    generalize wr t1 1 1 0 = t2 at f1 n6' o6 hC1 ⊢
    refine Pc.ifF (by decide) (Pc.ck (fun _ => Pc.ck (fun _ => ?_)))
    rw [el10 hs]
    refine Pc.bd _ (e_kept hG hs hC1).pc ?_
    rintro _ t3 ⟨k3, x3, f3⟩
    refine Pc.bd _ (e_copyFrom (t := t3) (n_sl hs) n6 (by omega)).pc ?_
    rintro _ t4 ⟨f4, a0, a1, a2, a4, a3⟩
    have s6 : CS 6 (vtl v) t3 := ⟨n6'.fr (f3 _ (by omega)) (f3 _ (by omega)) (f3 _ (by omega)), fun i hi => by rw [f3 _ (by omega)]; exact o6 i hi⟩
    have x4 : CS (12 + 24 * s) (vtl v) t4 := s6.cp hv.1.1 a0 a1 a2 a4 a3
    refine Pc.bd _ (c_note (v := vtl v) hG hs hv hC1 (fun c c1 c2 => by rw [f4 c (by omega)]; exact f3 c c2) (k3.fr4 (fun c c1 c2 => f4 c (by omega))) x4).pc ?_
    rintro _ u ⟨u1, u2, u3⟩
    exact Pc.rdE rfl (Pc.ret ⟨u1, fun c c0 c1 c2 => by rw [u3 c c1 c2]; exact f1 c c0⟩)
theorem m_toldA {k : Nat} {bt : Nat → Nat} (hG : GK K m) (hs : s < 3) (hM : MST K m t) (h : MT k bt t) : Pc (FX12_told (nI s) t) (fun r u => Sum.elim (fun _ => MST K m u) (fun v => ∀ K' m', NXT K m s (vtl v) K' m' → MST K' m' u) (ptext k bt)) := by
  unfold FX12_told
  refine Pc.bq (g_slotM hs) (Pc.ifF (by decide) (PcwrE (PcwrE (PcwrE (PcwrE ?_)))))
  have gf : ∀ c, c ≠ 149 → wr (wr (wr (wr t 149 6 0) 149 7 (-1)) 149 12 0) 149 8 0 c = t c := fun c hc => by rw [wr_off c hc, wr_off c hc, wr_off c hc, wr_off c hc]
  have g3 : wr (wr (wr (wr t 149 6 0) 149 7 (-1)) 149 12 0) 149 8 0 149 3 = t 149 3 := by rw [wrn (by decide), wrn (by decide), wrn (by decide), wrn (by decide)]
  have g12 : wr (wr (wr (wr t 149 6 0) 149 7 (-1)) 149 12 0) 149 8 0 149 12 = 0 := by rw [wrn (by decide), wrs]
  have g8 : wr (wr (wr (wr t 149 6 0) 149 7 (-1)) 149 12 0) 149 8 0 149 8 = nI 0 := wrs
  have gM : MT k bt (wr (wr (wr (wr t 149 6 0) 149 7 (-1)) 149 12 0) 149 8 0) := by
    refine ⟨h.1, ?_, fun i hi => ?_⟩
    · rw [wrn (by decide), wrn (by decide), wrn (by decide), wrn (by decide)]; exact h.2.1
    · rw [gf 153 (by decide)]; exact h.2.2 i hi
  generalize wr (wr (wr (wr t 149 6 0) 149 7 (-1)) 149 12 0) 149 8 0 = y at gf g3 g12 g8 gM ⊢
  have My : MST K m y := hM.fr g3 (gf 150 (by decide)) (gf 152 (by decide))
  refine Pc.bd _ m_remembers.pc ?_
  rintro _ y1 ⟨r1, r2⟩
  have M1 : MT k bt y1 := ⟨gM.1, by rw [r1 149 (by decide)]; exact gM.2.1, fun i hi => by rw [r1 153 (by decide)]; exact gM.2.2 i hi⟩
  refine Pc.bd _ (m_next M1 (Nat.zero_le _) (by rw [r1 149 (by decide)]; exact g8)).pc ?_
  rintro _ y2 ⟨R2, K2⟩
  have b2 : y2 149 12 = 0 := by rw [K2.2 12 (by omega), r1 149 (by decide)]; exact g12
  refine Pc.bd _ (m_readsNetX R2 b2 hs).pc ?_
  rintro _ y3 ⟨F3, h3⟩
  refine PcwrE ?_
  have q3 : wr y3 149 5 0 149 3 = y 149 3 := by rw [wrn (by decide), F3.2 3 (by omega), K2.2 3 (by omega), r1 149 (by decide)]
  have qf : ∀ c, c ≠ 149 → c ≠ 150 → c ≠ 151 → wr y3 149 5 0 c = y c := fun c c1 c2 c3 => by rw [wr_off c c1, F3.1 c c1 c2, K2.1 c c1, r1 c c3]
  have q151 : ∀ i, i < 273 → wr y3 149 5 0 151 i = y 150 i := fun i hi => by rw [wrf (by decide), F3.1 151 (by decide) (by decide), K2.1 151 (by decide)]; exact r2 i hi
  have q150 : ∀ i, wr y3 149 5 0 150 i = y3 150 i := fun i => wrf (by decide)
  have q12 : wr y3 149 5 0 149 12 = y3 149 12 := wrn (by decide)
  have y23 : ∀ i, y2 150 i = y 150 i := fun i => by rw [K2.1 150 (by decide), r1 150 (by decide)]
  generalize wr y3 149 5 0 = z at q3 qf q151 q150 q12 ⊢
  cases e : ptext k bt with
  | inl f =>
    rw [e] at h3
    refine Pc.rdE (x := 1) (by rw [q12]; exact h3.1) (Pc.ifF (by decide) (Pc.bd (fun _ u => (∀ c, c ≠ 150 → u c = z c) ∧ ∀ i, i < 273 → u 150 i = y 150 i) (Ok.pc ?_) ?_))
    · refine Ok.count 273 (fun j c u => c = nI j ∧ (∀ c, c ≠ 150 → u c = z c) ∧ ∀ i, i < j → u 150 i = y 150 i) ?_ ?_ (Nat.zero_le _) ⟨rfl, fun _ _ => rfl, fun i hi => by omega⟩
      · rintro j c u hj ⟨rfl, uf, u1⟩
        unfold SX12_told_57
        refine Ok.ifF (by rw [li_273, nI_leP (by omega) (by omega)]; omega) (Ok.ckT (inb_n hj (by omega)) ?_)
        rw [nI_cl (by omega)]
        refine Ok.rdE (x := y 150 j) (by rw [uf 151 (by decide)]; exact q151 j hj) (Ok.ckT (inb_n hj (by omega)) (OkwrE (Ok.ret ⟨nI_1 j, fun c hc => by rw [wr_off c hc]; exact uf c hc, fun i hi => ?_⟩)))
        by_cases e : i = j
        · subst e; rw [wrs]
        · rw [wrn e]; exact u1 i (by omega)
      · rintro c u ⟨rfl, uf, u1⟩
        unfold SX12_told_57
        exact Ok.ifT (by rw [li_273, nI_leP (by omega) (by omega)]; omega) (Ok.ret ⟨uf, u1⟩)
    · rintro _ u ⟨uf, u1⟩
      refine Pc.ret ⟨?_, My.2.1.fr (fun i hi => by rw [Nat.zero_add, u1 i hi]), fun j hj => (My.2.2 j hj).fr (fun i _ => by rw [uf 152 (by decide), qf 152 (by decide) (by decide) (by decide)])⟩
      rw [uf 149 (by decide), q3]
      exact My.1
  | inr v =>
    rw [e] at h3
    obtain ⟨b3, N3, ⟨O3, U3⟩, -⟩ := h3
    have hv := ptext_gv e
    obtain ⟨v1, v9, vw, vc, -⟩ := ptext_in e
    refine Pc.rdE (x := 0) (by rw [q12]; exact b3) (Pc.ifT rfl (Pc.bd (fun r u => z = u ∧ r = nI v.2.1) (m_lines (n := v.1) (w := v.2.2.1) (N3.fr (funext q150)) hs v9 vw ⟨rfl, by rw [← vc, Nat.mul_div_cancel_left _ (by omega)]⟩).pc ?_))
    rintro _ _ ⟨rfl, rfl⟩
    have h150 : RA 150 0 (upA (K m) s (vtl v)) z := My.2.1.up hs (N3.fr (funext q150)) (fun i hi => ?_) hv (fun j hj => ?_)
    · have hd : ∀ K' m', NXT K m s (vtl v) K' m' → Pc (FX12_done (nI v.2.1) z) (fun r u => MST K' m' u) := fun K' m' hN => by
        refine (m_done (a := nI v.2.1) hG hs hv hN (by rw [q3]; exact My.1) (fun i hi => ?_) h150 (fun j hj => (My.2.2 j hj).fr (fun i _ => by rw [qf 152 (by decide) (by decide) (by decide)]))).pc.mono (fun r u h => h.2.1)
        rw [Nat.zero_add, q151 i hi]
        have := My.2.1 i hi
        rw [Nat.zero_add] at this
        exact this
      refine Pc.bd (fun _ u => ∀ K' m', NXT K m s (vtl v) K' m' → MST K' m' u) (fun r u hru K' m' hN => hd K' m' hN r u hru) ?_
      rintro _ u hu
      exact Pc.ret hu
    · rw [q150, O3 i hi]
      by_cases c : i < v.1
      · rw [if_pos c]
        show _ = nI (if i < v.1 then trm v.1 v.2.2.2 i else 0)
        rw [if_pos c, trm_in c]
      · rw [if_neg c]
        show _ = nI (if i < v.1 then trm v.1 v.2.2.2 i else 0)
        rw [if_neg c]
    · rw [q150, U3 j hj]
      exact y23 j
end
