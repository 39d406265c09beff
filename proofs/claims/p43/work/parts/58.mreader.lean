/-! the reference reads a text, on -/
/-- the slots change at the weights of slot s alone -/
def SO (s : Nat) (t u : St) : Prop := ∀ k, (k < 91 * s + 1 ∨ 91 * s + 82 ≤ k) → u 150 k = t 150 k
theorem SO.rf {s : Nat} {t : St} : SO s t t := fun _ _ => rfl
theorem SO.tr {s : Nat} {t u v : St} (h : SO s t u) (g : SO s u v) : SO s t v := fun k hk => (g k hk).trans (h k hk)
theorem SO.eq {s : Nat} {t u : St} (e : u 150 = t 150) : SO s t u := fun k _ => by rw [e]
theorem RM.md {k : Nat} {bt : Nat → Nat} {p : Nat} {t u : St} (h : RM k bt p t) (e1 : u 149 = t 149) (e2 : u 153 = t 153) : RM k bt p u := by
  unfold RM MT
  rw [e1, e2]
  exact h
theorem m_faultsX {k : Nat} {bt : Nat → Nat} {t : St} {p f : Nat} (h : RM k bt p t) (hb : t 149 12 = 0) : Ok (FX12_faults (nI f) t) (fun _ u => BD (f, tkb k bt p) u ∧ FM t u ∧ u 150 = t 150) := by
  unfold FX12_faults
  refine Ok.rdE hb (Ok.ifT rfl (OkwrE (OkwrE (Ok.rdE (x := nI (tkb k bt p)) ?_ (OkwrE (Ok.ret ⟨⟨?_, ?_, wrs⟩, ⟨fun c h1 _ => ?_, fun i hi => ?_⟩, ?_⟩))))))
  · rw [wrn (by decide), wrn (by decide)]; exact h.2.2.1
  · rw [wrn (by decide), wrn (by decide), wrs]
  · rw [wrn (by decide), wrs]
  · rw [wr_off c h1, wr_off c h1, wr_off c h1]
  · rw [wrn (by omega), wrn (by omega), wrn (by omega)]
  · rw [wr_off 150 (by decide), wr_off 150 (by decide), wr_off 150 (by decide)]
theorem m_must0X {k : Nat} {bt : Nat → Nat} {t : St} {p : Nat} (h : RM k bt p t) (hb : t 149 12 = 0) : Ok (FX12_must 0 t) (fun _ u => BD (1, tkb k bt p) u ∧ FM t u ∧ u 150 = t 150) := by
  unfold FX12_must
  refine Ok.bd (fun _ u => BD (1, tkb k bt p) u ∧ FM t u ∧ u 150 = t 150) (Ok.ifT rfl (Ok.bd _ (m_faultsX (f := 1) h hb) (fun _ u hu => Ok.ret hu))) ?_
  rintro _ u ⟨h1, h2⟩
  exact Ok.bd (fun _ v => u = v) (b_passes h1.1 rfl) (by rintro _ _ rfl; exact Ok.ret ⟨h1, h2⟩)
theorem m_hereX {k : Nat} {bt : Nat → Nat} {t : St} {p lo hi : Nat} (h : RM k bt p t) (hb : t 149 12 = 0) (hlo : lo < 1001) (hhi : hi < 1001) : Ok (FX12_here (nI lo) (nI hi) t) (fun r u => Sum.elim (fun f => r = nI lo ∧ BD f u ∧ FM t u ∧ u 150 = t 150) (fun v => r = nI v ∧ t = u) (num k bt lo hi p)) := by
  have hc4 := tkc_lt (k := k) (bt := bt) (p := p)
  unfold FX12_here
  refine Ok.rdE hb (Ok.ifT rfl (Ok.rdE h.2.2.2.1 ?_))
  by_cases c2 : tkc k bt p = 2
  · have hv := vl_le (bt := bt) (b := tkb k bt p) (tke k bt p - tkb k bt p)
    have e11 := h.2.2.2.2.2
    rw [if_pos c2] at e11
    by_cases c : lo ≤ vl bt (tkb k bt p) (tke k bt p - tkb k bt p) ∧ vl bt (tkb k bt p) (tke k bt p - tkb k bt p) ≤ hi
    · have en : num k bt lo hi p = .inr (vl bt (tkb k bt p) (tke k bt p - tkb k bt p)) := by unfold num; rw [if_pos c2, if_pos c]
      rw [en]
      refine Ok.bd (fun _ u => t = u) (Ok.ifT (by rw [c2]; rfl) (Ok.rdE e11 (Ok.bd (fun r u => t = u ∧ r = 1) (e_in (fun _ _ => ⟨rfl, rfl⟩) (fun a => absurd ?_ a)) ?_))) ?_
      · rw [n64 (by omega), n64 (by omega), n64 (by omega)]
        omega
      · rintro _ _ ⟨rfl, rfl⟩
        exact Ok.ifF (by decide) (Ok.ret rfl)
      · rintro _ _ rfl
        exact Ok.rdE hb (Ok.ifT rfl (Ok.rdE e11 (Ok.ret ⟨rfl, rfl⟩)))
    · have en : num k bt lo hi p = .inl (2, tkb k bt p) := by unfold num; rw [if_pos c2, if_neg c]
      rw [en]
      refine Ok.bd (fun _ u => BD (2, tkb k bt p) u ∧ FM t u ∧ u 150 = t 150) (Ok.ifT (by rw [c2]; rfl) (Ok.rdE e11 (Ok.bd (fun r u => t = u ∧ r = 0) (e_in (fun a b => absurd ?_ c) (fun _ => ⟨rfl, rfl⟩)) ?_))) ?_
      · rw [n64 (by omega), n64 (by omega)] at a b
        omega
      · rintro _ _ ⟨rfl, rfl⟩
        exact Ok.ifT rfl (Ok.bd _ (m_faultsX (f := 2) h hb) (fun _ u hu => Ok.ret hu))
      · rintro _ u ⟨h1, h2⟩
        exact Ok.rdE h1.1 (Ok.ifF (by decide) (Ok.ret ⟨rfl, h1, h2⟩))
  · have en : num k bt lo hi p = .inl (1, tkb k bt p) := by unfold num; rw [if_neg c2]
    rw [en]
    refine Ok.bd (fun _ u => BD (1, tkb k bt p) u ∧ FM t u ∧ u 150 = t 150) (Ok.ifF (by rw [li_2, nI_eqP (by omega) (by omega)]; exact c2) (Ok.bd _ (m_faultsX (f := 1) h hb) (fun _ u hu => Ok.ret hu))) ?_
    rintro _ u ⟨h1, h2⟩
    exact Ok.rdE h1.1 (Ok.ifF (by decide) (Ok.ret ⟨rfl, h1, h2⟩))
theorem m_readsLine {k : Nat} {bt : Nat → Nat} {t : St} {p s N c : Nat} {w : Nat → Nat → Nat} (h : RM k bt p t) (hb : t 149 12 = 0) (hN : RN s N w t) (hs : s < 3) (hw : WF N w) (h1 : 1 ≤ N) (h9 : N < 10) (hc : 2 * c = dcn N w) (hc30 : c ≤ 30) : Ok (FX12_readsLine (nI s) t) (fun _ u => FM t u ∧ SO s t u ∧ Sum.elim (fun f => BD f u ∧ u 150 = t 150) (fun v => RM k bt v.1 u ∧ u 149 12 = 0 ∧ RN s N v.2 u) (pline k bt N w c p)) := by
  unfold FX12_readsLine
  refine Ok.bd (fun r u => t = u ∧ r = nI N) (m_points hN hs ⟨rfl, rfl⟩) ?_
  rintro _ _ ⟨rfl, rfl⟩
  rw [li_1, nI_sub h1]
  refine Ok.bd _ (m_hereX (lo := 0) h hb (by omega) (by omega)) ?_
  intro r t2 hr
  cases e : num k bt 0 (N - 1) p with
  | inl f =>
    rw [e] at hr
    obtain ⟨rfl, B, F, e150⟩ := hr
    have hN2 : RN s N w t2 := hN.fr e150
    have fin : FM t t2 ∧ SO s t t2 ∧ Sum.elim (fun f => BD f t2 ∧ t2 150 = t 150) (fun v => RM k bt v.1 t2 ∧ t2 149 12 = 0 ∧ RN s N v.2 t2) (pline k bt N w c p) := ⟨F, SO.eq e150, by rw [show pline k bt N w c p = .inl f from sbn_l e]; exact ⟨B, e150⟩⟩
    refine Ok.rdE B.1 (Ok.bd (fun _ u => t2 = u) (Ok.ifF (by decide) (Ok.ret rfl)) ?_)
    rintro _ _ rfl
    refine Ok.bd (fun _ u => t2 = u) (b_passes B.1 rfl) ?_
    rintro _ _ rfl
    refine Ok.bd (fun _ u => t2 = u) (b_sign B.1 rfl) ?_
    rintro _ _ rfl
    refine Ok.bd (fun _ u => t2 = u) (b_must B.1 rfl) ?_
    rintro _ _ rfl
    refine Ok.bd (fun _ u => t2 = u) (m_points hN2 hs rfl) ?_
    rintro _ _ rfl
    refine Ok.bd (fun _ u => t2 = u) (b_here B.1 rfl) ?_
    rintro _ _ rfl
    refine Ok.rdE B.1 (Ok.bd (fun _ u => t2 = u) (Ok.ifF (by decide) (Ok.ret rfl)) ?_)
    rintro _ _ rfl
    refine Ok.rdE B.1 (Ok.bd (fun _ u => t2 = u) (Ok.ifF (by decide) (Ok.ret rfl)) ?_)
    rintro _ _ rfl
    refine Ok.bd (fun _ u => t2 = u) (b_passes B.1 rfl) ?_
    rintro _ _ rfl
    refine Ok.bd (fun r u => t2 = u ∧ r = 0) (b_sign B.1 ⟨rfl, rfl⟩) ?_
    rintro _ _ ⟨rfl, rfl⟩
    refine Ok.bd (fun _ u => t2 = u) (Ok.ifT rfl (Ok.ret rfl)) ?_
    rintro _ _ rfl
    exact Ok.rdE B.1 (Ok.ifF (by decide) (Ok.ret fin))
  | inr a =>
    rw [e] at hr
    obtain ⟨rfl, rfl⟩ := hr
    have hv := num_in e
    have ep := sbn_r (f := fun a => if c < 30 then (if sgn k bt 45 (tke k bt p) = true then sbn (num k bt 0 (N - 1) (tke k bt (tke k bt p))) (fun b => if a = b then .inl (2, tkb k bt (tke k bt (tke k bt p))) else if w a b = 0 then pwt k bt w a b (tke k bt (tke k bt (tke k bt p))) else .inl (3, tkb k bt (tke k bt (tke k bt p)))) else .inl (1, tkb k bt (tke k bt p))) else .inl (4, tkb k bt p)) e
    have ep : pline k bt N w c p = _ := ep
    by_cases c30 : c < 30
    · rw [if_pos c30] at ep
      refine Ok.rdE hb (Ok.bd (fun _ u => t = u) (Ok.ifT rfl (Ok.bd (fun r u => t = u ∧ r = nI c) (m_lines hN hs h9 hw ⟨rfl, by rw [← hc, Nat.mul_div_cancel_left _ (by omega)]⟩) ?_)) ?_)
      · rintro _ _ ⟨rfl, rfl⟩
        exact Ok.ifF (by rw [li_30, nI_eqP (by omega) (by omega)]; omega) (Ok.ret rfl)
      rintro _ _ rfl
      refine Ok.bd _ (m_passes h hb) ?_
      rintro _ t3 ⟨R3, K3⟩
      have b3 : t3 149 12 = 0 := by rw [K3.2 12 (by omega)]; exact hb
      refine Ok.bd (fun r u => t3 = u ∧ ((r = 1 ∧ sgn k bt 45 (tke k bt p) = true) ∨ (r = 0 ∧ sgn k bt 45 (tke k bt p) = false))) (m_sign (c := 45) R3 b3 (by omega) (fun a => ⟨rfl, Or.inl ⟨rfl, a⟩⟩) (fun a => ⟨rfl, Or.inr ⟨rfl, a⟩⟩)) ?_
      rintro r _ ⟨rfl, ⟨rfl, s45⟩ | ⟨rfl, s45⟩⟩
      · rw [if_pos s45] at ep
        refine Ok.bd _ (m_must1 R3 b3) ?_
        rintro _ t4 ⟨R4, K4⟩
        have K24 := K3.tr K4
        have b4 : t4 149 12 = 0 := by rw [K24.2 12 (by omega)]; exact hb
        have hN4 : RN s N w t4 := hN.fr (K24.1 150 (by decide))
        refine Ok.bd (fun r u => t4 = u ∧ r = nI N) (m_points hN4 hs ⟨rfl, rfl⟩) ?_
        rintro _ _ ⟨rfl, rfl⟩
        rw [nI_sub h1]
        refine Ok.bd _ (m_hereX (lo := 0) R4 b4 (by omega) (by omega)) ?_
        intro r t5 hr5
        cases e2 : num k bt 0 (N - 1) (tke k bt (tke k bt p)) with
        | inl f =>
          rw [e2] at hr5
          obtain ⟨rfl, B, F0, e4⟩ := hr5
          have e150 : t5 150 = t 150 := e4.trans (K24.1 150 (by decide))
          have F := K24.fm.tr F0
          have hN2 : RN s N w t5 := hN.fr e150
          have fin : FM t t5 ∧ SO s t t5 ∧ Sum.elim (fun f => BD f t5 ∧ t5 150 = t 150) (fun v => RM k bt v.1 t5 ∧ t5 149 12 = 0 ∧ RN s N v.2 t5) (pline k bt N w c p) := ⟨F, SO.eq e150, by rw [ep, sbn_l e2]; exact ⟨B, e150⟩⟩
          refine Ok.rdE B.1 (Ok.bd (fun _ u => t5 = u) (Ok.ifF (by decide) (Ok.ret rfl)) ?_)
          rintro _ _ rfl
          refine Ok.rdE B.1 (Ok.bd (fun _ u => t5 = u) (Ok.ifF (by decide) (Ok.ret rfl)) ?_)
          rintro _ _ rfl
          refine Ok.bd (fun _ u => t5 = u) (b_passes B.1 rfl) ?_
          rintro _ _ rfl
          refine Ok.bd (fun r u => t5 = u ∧ r = 0) (b_sign B.1 ⟨rfl, rfl⟩) ?_
          rintro _ _ ⟨rfl, rfl⟩
          refine Ok.bd (fun _ u => t5 = u) (Ok.ifT rfl (Ok.ret rfl)) ?_
          rintro _ _ rfl
          exact Ok.rdE B.1 (Ok.ifF (by decide) (Ok.ret fin))
        | inr b =>
          rw [e2] at hr5
          obtain ⟨rfl, rfl⟩ := hr5
          rw [sbn_r e2] at ep
          have hv2 := num_in e2
          by_cases eab : a = b
          · rw [if_pos eab] at ep
            refine Ok.rdE b4 (Ok.bd (fun _ u => BD (2, tkb k bt (tke k bt (tke k bt p))) u ∧ FM t4 u ∧ u 150 = t4 150) (Ok.ifT rfl (Ok.ifT (by rw [eab]) (Ok.bd _ (m_faultsX (f := 2) R4 b4) (fun _ u hu => Ok.ret hu)))) ?_)
            rintro _ t6 ⟨B, F0, e0⟩
            have e150 : t6 150 = t 150 := e0.trans (K24.1 150 (by decide))
            have F := K24.fm.tr F0
            have hN2 : RN s N w t6 := hN.fr e150
            have fin : FM t t6 ∧ SO s t t6 ∧ Sum.elim (fun f => BD f t6 ∧ t6 150 = t 150) (fun v => RM k bt v.1 t6 ∧ t6 149 12 = 0 ∧ RN s N v.2 t6) (pline k bt N w c p) := ⟨F, SO.eq e150, by rw [ep]; exact ⟨B, e150⟩⟩
            refine Ok.rdE B.1 (Ok.bd (fun _ u => t6 = u) (Ok.ifF (by decide) (Ok.ret rfl)) ?_)
            rintro _ _ rfl
            refine Ok.bd (fun _ u => t6 = u) (b_passes B.1 rfl) ?_
            rintro _ _ rfl
            refine Ok.bd (fun r u => t6 = u ∧ r = 0) (b_sign B.1 ⟨rfl, rfl⟩) ?_
            rintro _ _ ⟨rfl, rfl⟩
            refine Ok.bd (fun _ u => t6 = u) (Ok.ifT rfl (Ok.ret rfl)) ?_
            rintro _ _ rfl
            exact Ok.rdE B.1 (Ok.ifF (by decide) (Ok.ret fin))
          · rw [if_neg eab] at ep
            refine Ok.rdE b4 (Ok.bd (fun _ u => t4 = u) (Ok.ifT rfl (Ok.ifF (by rw [nI_eqP (by omega) (by omega)]; exact eab) (Ok.ret rfl))) ?_)
            rintro _ _ rfl
            by_cases w0 : w a b = 0
            · rw [if_pos w0] at ep
              refine Ok.rdE b4 (Ok.bd (fun _ u => t4 = u) (Ok.ifT rfl (Ok.bd (fun r u => t4 = u ∧ r = nI (w a b)) (m_weight hN4 hs (by omega) (by omega) ⟨rfl, rfl⟩) ?_)) ?_)
              · rintro _ _ ⟨rfl, rfl⟩
                exact Ok.ifT (by rw [w0]; decide) (Ok.ret rfl)
              rintro _ _ rfl
              refine Ok.bd _ (m_passes R4 b4) ?_
              rintro _ t7 ⟨R7, K7⟩
              have K27 := K24.tr K7
              have b7 : t7 149 12 = 0 := by rw [K27.2 12 (by omega)]; exact hb
              have hN7 : RN s N w t7 := hN.fr (K27.1 150 (by decide))
              refine Ok.bd (fun r u => t7 = u ∧ ((r = 1 ∧ sgn k bt 61 (tke k bt (tke k bt (tke k bt p))) = true) ∨ (r = 0 ∧ sgn k bt 61 (tke k bt (tke k bt (tke k bt p))) = false))) (m_sign (c := 61) R7 b7 (by omega) (fun a => ⟨rfl, Or.inl ⟨rfl, a⟩⟩) (fun a => ⟨rfl, Or.inr ⟨rfl, a⟩⟩)) ?_
              rintro r _ ⟨rfl, ⟨rfl, s61⟩ | ⟨rfl, s61⟩⟩
              · have ew : pline k bt N w c p = sbn (num k bt 1 9 (tke k bt (tke k bt (tke k bt (tke k bt p))))) _ := ep.trans (if_pos s61)
                cases e3 : num k bt 1 9 (tke k bt (tke k bt (tke k bt (tke k bt p)))) with
                | inl f =>
                  refine Ok.bd (fun r u => BD f u ∧ FM t7 u ∧ u 150 = t7 150) (Ok.ifF (by decide) (Ok.bd _ (m_nx R7) ?_)) ?_
                  · rintro _ t8 ⟨R8, K8⟩
                    have b8 : t8 149 12 = 0 := by rw [K8.2 12 (by omega)]; exact b7
                    refine Ok.bd _ (m_hereX (lo := 1) (hi := 9) R8 b8 (by omega) (by omega)) ?_
                    intro r t9 hr9
                    rw [e3] at hr9
                    obtain ⟨rfl, B, F0, e0⟩ := hr9
                    refine Ok.bd (fun _ u => t9 = u) (b_passes B.1 rfl) ?_
                    rintro _ _ rfl
                    exact Ok.ret ⟨B, K8.fm.tr F0, e0.trans (K8.1 150 (by decide))⟩
                  · rintro _ t9 ⟨B, F0, e0⟩
                    have e150 : t9 150 = t 150 := e0.trans (K27.1 150 (by decide))
                    exact Ok.rdE B.1 (Ok.ifF (by decide) (Ok.ret ⟨K27.fm.tr F0, SO.eq e150, by rw [ew, sbn_l e3]; exact ⟨B, e150⟩⟩))
                | inr x =>
                  rw [sbn_r e3] at ew
                  have hx := num_in e3
                  refine Ok.bd (fun r u => r = nI x ∧ RM k bt (tke k bt (tke k bt (tke k bt (tke k bt (tke k bt p))))) u ∧ KM t7 u) (Ok.ifF (by decide) (Ok.bd _ (m_nx R7) ?_)) ?_
                  · rintro _ t8 ⟨R8, K8⟩
                    have b8 : t8 149 12 = 0 := by rw [K8.2 12 (by omega)]; exact b7
                    refine Ok.bd _ (m_hereX (lo := 1) (hi := 9) R8 b8 (by omega) (by omega)) ?_
                    intro r t9 hr9
                    rw [e3] at hr9
                    obtain ⟨rfl, rfl⟩ := hr9
                    refine Ok.bd _ (m_passes R8 b8) ?_
                    rintro _ t10 ⟨R10, K10⟩
                    exact Ok.ret ⟨rfl, R10, K8.tr K10⟩
                  · rintro _ t10 ⟨rfl, R10, K10⟩
                    have KK := K27.tr K10
                    have b10 : t10 149 12 = 0 := by rw [KK.2 12 (by omega)]; exact hb
                    refine Ok.rdE b10 (Ok.ifT rfl (Ok.bd _ (m_weighs (v := x) (hN.fr (KK.1 150 (by decide))) hs (a := a) (b := b) (by omega) (by omega) eab) ?_))
                    rintro _ u ⟨hNu, hf, hso⟩
                    have e9 := hf 149 (by decide)
                    refine Ok.ret ⟨KK.fm.tr ⟨fun c _ h2 => hf c h2, fun i _ => by rw [e9]⟩, fun i hi => (hso i hi).trans (by rw [KK.1 150 (by decide)]), ?_⟩
                    rw [ew]
                    exact ⟨R10.md e9 (hf 153 (by decide)), by rw [e9]; exact b10, hNu⟩
              · have ew : pline k bt N w c p = .inr (tke k bt (tke k bt (tke k bt p)), setw w a b 1) := ep.trans (if_neg (by rw [s61]; decide))
                refine Ok.bd (fun r u => t7 = u ∧ r = nI 1) (Ok.ifT rfl (Ok.ret ⟨rfl, rfl⟩)) ?_
                rintro _ _ ⟨rfl, rfl⟩
                refine Ok.rdE b7 (Ok.ifT rfl (Ok.bd _ (m_weighs (v := 1) hN7 hs (a := a) (b := b) (by omega) (by omega) eab) ?_))
                rintro _ u ⟨hNu, hf, hso⟩
                have e9 := hf 149 (by decide)
                refine Ok.ret ⟨K27.fm.tr ⟨fun c _ h2 => hf c h2, fun i _ => by rw [e9]⟩, fun i hi => (hso i hi).trans (by rw [K27.1 150 (by decide)]), ?_⟩
                rw [ew]
                exact ⟨R7.md e9 (hf 153 (by decide)), by rw [e9]; exact b7, hNu⟩
            · rw [if_neg w0] at ep
              have hw9 := hw.1 a b
              refine Ok.rdE b4 (Ok.bd (fun _ u => BD (3, tkb k bt (tke k bt (tke k bt p))) u ∧ FM t4 u ∧ u 150 = t4 150) (Ok.ifT rfl (Ok.bd (fun r u => t4 = u ∧ r = nI (w a b)) (m_weight hN4 hs (by omega) (by omega) ⟨rfl, rfl⟩) ?_)) ?_)
              · rintro _ _ ⟨rfl, rfl⟩
                exact Ok.ifF (by rw [li_0, nI_leP (by omega) (by omega)]; omega) (Ok.bd _ (m_faultsX (f := 3) R4 b4) (fun _ u hu => Ok.ret hu))
              rintro _ t6 ⟨B, F0, e0⟩
              have e150 : t6 150 = t 150 := e0.trans (K24.1 150 (by decide))
              have F := K24.fm.tr F0
              have hN2 : RN s N w t6 := hN.fr e150
              have fin : FM t t6 ∧ SO s t t6 ∧ Sum.elim (fun f => BD f t6 ∧ t6 150 = t 150) (fun v => RM k bt v.1 t6 ∧ t6 149 12 = 0 ∧ RN s N v.2 t6) (pline k bt N w c p) := ⟨F, SO.eq e150, by rw [ep]; exact ⟨B, e150⟩⟩
              refine Ok.bd (fun _ u => t6 = u) (b_passes B.1 rfl) ?_
              rintro _ _ rfl
              refine Ok.bd (fun r u => t6 = u ∧ r = 0) (b_sign B.1 ⟨rfl, rfl⟩) ?_
              rintro _ _ ⟨rfl, rfl⟩
              refine Ok.bd (fun _ u => t6 = u) (Ok.ifT rfl (Ok.ret rfl)) ?_
              rintro _ _ rfl
              exact Ok.rdE B.1 (Ok.ifF (by decide) (Ok.ret fin))
      · rw [if_neg (by rw [s45]; decide)] at ep
        refine Ok.bd _ (m_must0X R3 b3) ?_
        rintro _ t4 ⟨B, F0, e0⟩
        have e150 : t4 150 = t 150 := e0.trans (K3.1 150 (by decide))
        have F := K3.fm.tr F0
        have hN2 : RN s N w t4 := hN.fr e150
        have fin : FM t t4 ∧ SO s t t4 ∧ Sum.elim (fun f => BD f t4 ∧ t4 150 = t 150) (fun v => RM k bt v.1 t4 ∧ t4 149 12 = 0 ∧ RN s N v.2 t4) (pline k bt N w c p) := ⟨F, SO.eq e150, by rw [ep]; exact ⟨B, e150⟩⟩
        refine Ok.bd (fun _ u => t4 = u) (m_points hN2 hs rfl) ?_
        rintro _ _ rfl
        refine Ok.bd (fun _ u => t4 = u) (b_here B.1 rfl) ?_
        rintro _ _ rfl
        refine Ok.rdE B.1 (Ok.bd (fun _ u => t4 = u) (Ok.ifF (by decide) (Ok.ret rfl)) ?_)
        rintro _ _ rfl
        refine Ok.rdE B.1 (Ok.bd (fun _ u => t4 = u) (Ok.ifF (by decide) (Ok.ret rfl)) ?_)
        rintro _ _ rfl
        refine Ok.bd (fun _ u => t4 = u) (b_passes B.1 rfl) ?_
        rintro _ _ rfl
        refine Ok.bd (fun r u => t4 = u ∧ r = 0) (b_sign B.1 ⟨rfl, rfl⟩) ?_
        rintro _ _ ⟨rfl, rfl⟩
        refine Ok.bd (fun _ u => t4 = u) (Ok.ifT rfl (Ok.ret rfl)) ?_
        rintro _ _ rfl
        exact Ok.rdE B.1 (Ok.ifF (by decide) (Ok.ret fin))
    · rw [if_neg c30] at ep
      refine Ok.rdE hb (Ok.bd (fun _ u => BD (4, tkb k bt p) u ∧ FM t u ∧ u 150 = t 150) (Ok.ifT rfl (Ok.bd (fun r u => t = u ∧ r = nI c) (m_lines hN hs h9 hw ⟨rfl, by rw [← hc, Nat.mul_div_cancel_left _ (by omega)]⟩) ?_)) ?_)
      · rintro _ _ ⟨rfl, rfl⟩
        exact Ok.ifT (by rw [li_30, nI_eqP (by omega) (by omega)]; omega) (Ok.bd _ (m_faultsX (f := 4) h hb) (fun _ u hu => Ok.ret hu))
      rintro _ t3 ⟨B, F, e150⟩
      have hN2 : RN s N w t3 := hN.fr e150
      have fin : FM t t3 ∧ SO s t t3 ∧ Sum.elim (fun f => BD f t3 ∧ t3 150 = t 150) (fun v => RM k bt v.1 t3 ∧ t3 149 12 = 0 ∧ RN s N v.2 t3) (pline k bt N w c p) := ⟨F, SO.eq e150, by rw [ep]; exact ⟨B, e150⟩⟩
      refine Ok.bd (fun _ u => t3 = u) (b_passes B.1 rfl) ?_
      rintro _ _ rfl
      refine Ok.bd (fun _ u => t3 = u) (b_sign B.1 rfl) ?_
      rintro _ _ rfl
      refine Ok.bd (fun _ u => t3 = u) (b_must B.1 rfl) ?_
      rintro _ _ rfl
      refine Ok.bd (fun _ u => t3 = u) (m_points hN2 hs rfl) ?_
      rintro _ _ rfl
      refine Ok.bd (fun _ u => t3 = u) (b_here B.1 rfl) ?_
      rintro _ _ rfl
      refine Ok.rdE B.1 (Ok.bd (fun _ u => t3 = u) (Ok.ifF (by decide) (Ok.ret rfl)) ?_)
      rintro _ _ rfl
      refine Ok.rdE B.1 (Ok.bd (fun _ u => t3 = u) (Ok.ifF (by decide) (Ok.ret rfl)) ?_)
      rintro _ _ rfl
      refine Ok.bd (fun _ u => t3 = u) (b_passes B.1 rfl) ?_
      rintro _ _ rfl
      refine Ok.bd (fun r u => t3 = u ∧ r = 0) (b_sign B.1 ⟨rfl, rfl⟩) ?_
      rintro _ _ ⟨rfl, rfl⟩
      refine Ok.bd (fun _ u => t3 = u) (Ok.ifT rfl (Ok.ret rfl)) ?_
      rintro _ _ rfl
      exact Ok.rdE B.1 (Ok.ifF (by decide) (Ok.ret fin))
