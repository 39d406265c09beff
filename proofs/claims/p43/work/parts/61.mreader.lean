/-! the reference reads a net; told -/
theorem m_emp {α : Type} {s N : Nat} {t : St} (hs : s < 3) (hN : N < 10) {K : Unit → St → Option (α × St)} {Q : α → St → Prop} (hK : ∀ u, (∀ c, c ≠ 150 → u c = t c) → RN s N (fun _ _ => 0) u → RO s N (fun i => i) u → (∀ j, (j < 91 * s ∨ 91 * s + 91 ≤ j) → u 150 j = t 150 j) → Ok (K () u) Q) : Ok (bnd (FX12_empties (nI s) t) (fun _ t14 => (chk (inb ((91 : Int32) * nI s) 273) (wrb t14 150 (((91 : Int32) * nI s).toNatClampNeg) (nI N) (fun t17 => (bnd (wh (SX12_readsNet_39 (nI s) (nI N)) (0 : Int32) t17) K)))))) Q := by
  refine Ok.bd _ (xX12_empties hs) ?_
  rintro _ _ rfl
  rw [li_91, nI_mul]
  refine Ok.ckT (inb_n (by omega) (by omega)) (OkwrE ?_)
  rw [nI_cl (by omega)]
  refine Ok.bd (fun _ u => (∀ c, c ≠ 150 → u c = t c) ∧ RN s N (fun _ _ => 0) u ∧ RO s N (fun i => i) u ∧ ∀ j, (j < 91 * s ∨ 91 * s + 91 ≤ j) → u 150 j = t 150 j) ?_ ?_
  · refine Ok.count N (fun j c u => c = nI j ∧ (∀ c, c ≠ 150 → u c = t c) ∧ RN s N (fun _ _ => 0) u ∧ (∀ i, i < 9 → u 150 (91 * s + 82 + i) = nI (if i < j then i else 0)) ∧ ∀ j, (j < 91 * s ∨ 91 * s + 91 ≤ j) → u 150 j = t 150 j) ?_ ?_ (Nat.zero_le _) ⟨rfl, fun c hc => ?_, ⟨wrs, fun a b ha hb => ?_⟩, fun i hi => ?_, fun j hj => ?_⟩
    · rintro j c u hj ⟨rfl, g1, g2, g3, g4⟩
      unfold SX12_readsNet_39
      refine Ok.ifF (by rw [nI_leP (by omega) (by omega)]; omega) (Ok.bd (fun _ v => wr u 150 (91 * s + 82 + j) (nI j) = v) (m_puts hs (by omega) rfl) ?_)
      rintro _ _ rfl
      refine Ok.ret ⟨nI_1 j, fun c hc => by rw [wr_off c hc]; exact g1 c hc, ⟨by rw [wrn (by omega)]; exact g2.1, fun a b ha hb => by rw [wrn (by omega)]; exact g2.2 a b ha hb⟩, fun i hi => ?_, fun i hi => by rw [wrn (by omega)]; exact g4 i hi⟩
      by_cases e : i = j
      · subst e
        rw [wrs, if_pos (by omega)]
      · rw [wrn (by omega), g3 i hi]
        by_cases e2 : i < j
        · rw [if_pos e2, if_pos (by omega)]
        · rw [if_neg e2, if_neg (by omega)]
    · rintro c u ⟨rfl, g1, g2, g3, g4⟩
      unfold SX12_readsNet_39
      exact Ok.ifT (by rw [nI_leP (by omega) (by omega)]; omega) (Ok.ret ⟨g1, g2, g3, g4⟩)
    · rw [wr_off c hc, stp_off hc]
    · rw [wrn (by omega), stp_at, if_pos (by omega)]
      rfl
    · rw [wrn (by omega), stp_at, if_pos (by omega), if_neg (by omega)]
      rfl
    · rw [wrn (by omega), stp_at, if_neg (by omega)]
  · rintro _ u ⟨g1, g2, g3, g4⟩
    exact hK u g1 g2 g3 g4
theorem prow_eq {k : Nat} {bt : Nat → Nat} {N p : Nat} : prow k bt N p = if tkc k bt p = 0 then .inr (fun i => i) else if wrd k bt 114 111 119 p = true then sbn (prw k bt N (tke k bt p)) (fun v => if tkc k bt v = 0 then .inr (fun i => bt (tkb k bt (tke k bt p) + i) - 48) else .inl (1, tkb k bt v)) else .inl (1, tkb k bt p) := by
  unfold prow prw
  by_cases c0 : tkc k bt p = 0
  · rw [if_pos c0, if_pos c0]
  · rw [if_neg c0, if_neg c0]
    by_cases c1 : wrd k bt 114 111 119 p = true
    · rw [if_pos c1, if_pos c1]
      by_cases c2 : tkc k bt (tke k bt p) = 2
      · rw [if_pos c2, if_pos c2]
        by_cases c3 : digs k bt N (tke k bt p) = true
        · rw [if_pos c3, if_pos c3]
          by_cases c4 : sgn k bt 59 (tke k bt (tke k bt p)) = true
          · rw [if_pos c4, if_pos c4]
            rfl
          · rw [if_neg c4, if_neg c4]
            rfl
        · rw [if_neg c3, if_neg c3]
          rfl
      · rw [if_neg c2, if_neg c2]
        rfl
    · rw [if_neg c1, if_neg c1]
/-- what follows the weights when a fault is told -/
theorem m_readsNet {k : Nat} {bt : Nat → Nat} {t : St} {s : Nat} (h : RM k bt 0 t) (hb : t 149 12 = 0) (hs : s < 3) : Ok (FX12_readsNet (nI s) t) (fun _ u => FM t u ∧ Sum.elim (fun f => BD f u) (fun v => u 149 12 = 0 ∧ RN s v.1 v.2.2.1 u ∧ RO s v.1 v.2.2.2 u ∧ ∀ j, (j < 91 * s ∨ 91 * s + 91 ≤ j) → u 150 j = t 150 j) (ptext k bt)) := by
  unfold FX12_readsNet
  -- a fault: what is left does nothing
  have tail : ∀ (f : Nat × Nat) (u : St), BD f u → FM t u → ptext k bt = .inl f → Ok (bnd (FX12_isSign (59 : Int32) u) (fun v35 t36 => (bnd (FX12_must v35 t36) (fun v38 t39 => (bnd (FX12_isWord_s5  t39) (fun v41 t42 => (bnd (if v41 = (0 : Int32) then (some ((), t42)) else (bnd (FX12_readsRow (nI s) t42) (fun v61 t62 => (some ((), t62))))) (fun v45 t46 => (rdb t46 149 (12) (fun v49 => (if v49 = (0 : Int32) then (rdb t46 149 (10) (fun v53 => (if v53 = (0 : Int32) then (some ((), t46)) else (bnd (FX12_faults (1 : Int32) t46) (fun v57 t58 => (some ((), t58))))))) else (some ((), t46))))))))))))) (fun _ u => FM t u ∧ Sum.elim (fun f => BD f u) (fun v => u 149 12 = 0 ∧ RN s v.1 v.2.2.1 u ∧ RO s v.1 v.2.2.2 u ∧ ∀ j, (j < 91 * s ∨ 91 * s + 91 ≤ j) → u 150 j = t 150 j) (ptext k bt)) := by
    intro f u B F ep
    refine Ok.bd (fun _ v => u = v) (b_sign B.1 rfl) ?_
    rintro _ _ rfl
    refine Ok.bd (fun _ v => u = v) (b_must B.1 rfl) ?_
    rintro _ _ rfl
    refine Ok.bd (fun r v => u = v ∧ r = 0) (b_word5 B.1 ⟨rfl, rfl⟩) ?_
    rintro _ _ ⟨rfl, rfl⟩
    refine Ok.bd (fun _ v => u = v) (Ok.ifT rfl (Ok.ret rfl)) ?_
    rintro _ _ rfl
    refine Ok.rdE B.1 (Ok.ifF (by decide) (Ok.ret ⟨F, ?_⟩))
    rw [ep]
    exact B
  -- a fault ahead of the lines
  have tail2 : ∀ (f : Nat × Nat) (u : St), BD f u → FM t u → ptext k bt = .inl f → Ok (bnd (FX12_passes u) (fun v10 t11 => (bnd (FX12_empties (nI s) t11) (fun v13 t14 => (chk (inb ((91 : Int32) * (nI s)) 273) (wrb t14 150 (((91 : Int32) * (nI s)).toNatClampNeg) (nI 1) (fun t17 => (bnd (wh (SX12_readsNet_39 (nI s) (nI 1)) (0 : Int32) t17) (fun e23 t24 => (bnd (FX12_isSign (58 : Int32) t24) (fun v27 t28 => (bnd (if v27 = (0 : Int32) then (some ((), t28)) else (bnd (FX12_next  t28) (fun v64 t65 => (bnd (FX12_readsLine (nI s) t65) (fun v67 t68 => (bnd (wh (SX12_readsNet_75 (nI s)) () t68) (fun e80 t81 => (some ((), t81))))))))) (fun v31 t32 => (bnd (FX12_isSign (59 : Int32) t32) (fun v35 t36 => (bnd (FX12_must v35 t36) (fun v38 t39 => (bnd (FX12_isWord_s5  t39) (fun v41 t42 => (bnd (if v41 = (0 : Int32) then (some ((), t42)) else (bnd (FX12_readsRow (nI s) t42) (fun v61 t62 => (some ((), t62))))) (fun v45 t46 => (rdb t46 149 (12) (fun v49 => (if v49 = (0 : Int32) then (rdb t46 149 (10) (fun v53 => (if v53 = (0 : Int32) then (some ((), t46)) else (bnd (FX12_faults (1 : Int32) t46) (fun v57 t58 => (some ((), t58))))))) else (some ((), t46)))))))))))))))))))))))))) (fun _ u => FM t u ∧ Sum.elim (fun f => BD f u) (fun v => u 149 12 = 0 ∧ RN s v.1 v.2.2.1 u ∧ RO s v.1 v.2.2.2 u ∧ ∀ j, (j < 91 * s ∨ 91 * s + 91 ≤ j) → u 150 j = t 150 j) (ptext k bt)) := by
    intro f u B F ep
    refine Ok.bd (fun _ v => u = v) (b_passes B.1 rfl) ?_
    rintro _ _ rfl
    refine m_emp hs (by omega) (fun v g1 g2 g3 g4 => ?_)
    have B2 : BD f v := by unfold BD; rw [g1 149 (by decide)]; exact B
    have F2 : FM t v := F.tr ⟨fun c _ h2 => g1 c h2, fun i _ => by rw [g1 149 (by decide)]⟩
    refine Ok.bd (fun r x => v = x ∧ r = 0) (b_sign B2.1 ⟨rfl, rfl⟩) ?_
    rintro _ _ ⟨rfl, rfl⟩
    refine Ok.bd (fun _ x => v = x) (Ok.ifT rfl (Ok.ret rfl)) ?_
    rintro _ _ rfl
    exact tail f v B2 F2 ep
  refine Ok.bd (fun r u => t = u ∧ ((r = 1 ∧ wrd k bt 110 101 116 0 = true) ∨ (r = 0 ∧ wrd k bt 110 101 116 0 = false))) (m_word4 h hb (fun a => ⟨rfl, Or.inl ⟨rfl, a⟩⟩) (fun a => ⟨rfl, Or.inr ⟨rfl, a⟩⟩)) ?_
  rintro r _ ⟨rfl, ⟨rfl, hw⟩ | ⟨rfl, hw⟩⟩
  · have ep : ptext k bt = _ := if_pos hw
    refine Ok.bd _ (m_must1 h hb) ?_
    rintro _ t1 ⟨R1, K1⟩
    have b1 : t1 149 12 = 0 := by rw [K1.2 12 (by omega)]; exact hb
    refine Ok.bd _ (m_hereX (lo := 1) (hi := 9) R1 b1 (by omega) (by omega)) ?_
    intro r t2 hr
    cases e : num k bt 1 9 (tke k bt 0) with
    | inl f =>
      rw [e] at hr
      obtain ⟨rfl, B, F, -⟩ := hr
      exact tail2 f t2 B (K1.fm.tr F) (ep.trans (sbn_l e))
    | inr N =>
      rw [e] at hr
      obtain ⟨rfl, rfl⟩ := hr
      have hv := num_in e
      rw [sbn_r e] at ep
      refine Ok.bd _ (m_passes R1 b1) ?_
      rintro _ t2 ⟨R2, K2⟩
      have K12 := K1.tr K2
      refine m_emp hs (N := N) (by omega) (fun t3 g1 g2 g3 g4 => ?_)
      have R3 : RM k bt (tke k bt (tke k bt 0)) t3 := R2.md (g1 149 (by decide)) (g1 153 (by decide))
      have b3 : t3 149 12 = 0 := by rw [g1 149 (by decide), K12.2 12 (by omega)]; exact hb
      have F3 : FM t t3 := K12.fm.tr ⟨fun c _ h2 => g1 c h2, fun i _ => by rw [g1 149 (by decide)]⟩
      have o3 : ∀ j, (j < 91 * s ∨ 91 * s + 91 ≤ j) → t3 150 j = t 150 j := fun j hj => by rw [g4 j hj, K12.1 150 (by decide)]
      generalize tke k bt (tke k bt 0) = q at R3 ep
      have z : dcn N (fun _ _ => 0) = 0 := by
        unfold dcn
        refine sm_zero (fun i _ => ?_)
        rw [nr_0, cnt_0]
      generalize eX : (if sgn k bt 58 q = true then plines k bt N 31 (fun _ _ => 0) 0 q else .inr (q, 0, fun _ _ => 0) : (Nat × Nat) ⊕ (Nat × Nat × (Nat → Nat → Nat))) = X
      have epl : plns k bt N q = sbn X (fun r => if sgn k bt 59 r.1 = true then .inr (tke k bt r.1, r.2.1, r.2.2) else .inl (1, tkb k bt r.1)) := by unfold plns; rw [eX]
      refine Ok.bd (fun r u => t3 = u ∧ ((r = 1 ∧ sgn k bt 58 q = true) ∨ (r = 0 ∧ sgn k bt 58 q = false))) (m_sign (c := 58) R3 b3 (by omega) (fun a => ⟨rfl, Or.inl ⟨rfl, a⟩⟩) (fun a => ⟨rfl, Or.inr ⟨rfl, a⟩⟩)) ?_
      rintro r _ ⟨rfl, hr⟩
      refine Ok.bd (fun _ u => FM t3 u ∧ SO s t3 u ∧ Sum.elim (fun f => BD f u) (fun v => RM k bt v.1 u ∧ u 149 12 = 0 ∧ RN s N v.2.2 u) X) ?_ ?_
      · rcases hr with ⟨rfl, s58⟩ | ⟨rfl, s58⟩
        · rw [if_pos s58] at eX
          have eX : X = sbn (pline k bt N (fun _ _ => 0) 0 (tke k bt q)) (fun r => if sgn k bt 44 r.1 = true then plines k bt N 30 r.2 1 r.1 else .inr (r.1, 1, r.2)) := eX.symm
          refine Ok.ifF (by decide) (Ok.bd _ (m_nx R3) ?_)
          rintro _ t4 ⟨R4, K4⟩
          have b4 : t4 149 12 = 0 := by rw [K4.2 12 (by omega)]; exact b3
          refine Ok.bd _ (m_readsLine R4 b4 (g2.fr (K4.1 150 (by decide))) hs WF.z hv.1 (by omega) (c := 0) (by rw [z]) (by omega)) ?_
          rintro _ t5 ⟨F5, S5, h5⟩
          have F35 := K4.fm.tr F5
          have S35 : SO s t3 t5 := fun j hj => (S5 j hj).trans (by rw [K4.1 150 (by decide)])
          refine Ok.bd (fun _ u => FM t3 u ∧ SO s t3 u ∧ Sum.elim (fun f => BD f u) (fun v => RM k bt v.1 u ∧ u 149 12 = 0 ∧ RN s N v.2.2 u) X) ?_ (fun _ u hu => Ok.ret hu)
          refine Ok.loop (fun m _ u => FM t3 u ∧ SO s t3 u ∧ ((∃ f, X = .inl f ∧ BD f u ∧ m = 0) ∨ ∃ c p w, m = 40 - c ∧ c ≤ 30 ∧ WF N w ∧ 2 * c = dcn N w ∧ RM k bt p u ∧ u 149 12 = 0 ∧ RN s N w u ∧ X = (if sgn k bt 44 p = true then plines k bt N (31 - c) w c p else .inr (p, c, w)))) ?_ (match pline k bt N (fun _ _ => 0) 0 (tke k bt q) with | .inl _ => 0 | .inr _ => 39) _ _ ⟨F35, S35, ?_⟩
          · rintro m ⟨⟩ u ⟨Fu, Su, ⟨f, hX, B, rfl⟩ | ⟨c, p, w, rfl, hc, hwf, hdc, Ru, bu, hNu, hX⟩⟩
            · unfold SX12_readsNet_75
              refine Ok.bd (fun r v => u = v ∧ r = 0) (b_sign B.1 ⟨rfl, rfl⟩) ?_
              rintro _ _ ⟨rfl, rfl⟩
              refine Ok.ifT rfl (Ok.ret ⟨Fu, Su, ?_⟩)
              rw [hX]
              exact B
            · unfold SX12_readsNet_75
              refine Ok.bd (fun r v => u = v ∧ ((r = 1 ∧ sgn k bt 44 p = true) ∨ (r = 0 ∧ sgn k bt 44 p = false))) (m_sign (c := 44) Ru bu (by omega) (fun a => ⟨rfl, Or.inl ⟨rfl, a⟩⟩) (fun a => ⟨rfl, Or.inr ⟨rfl, a⟩⟩)) ?_
              rintro r _ ⟨rfl, ⟨rfl, s44⟩ | ⟨rfl, s44⟩⟩
              · rw [if_pos s44, show 31 - c = (30 - c) + 1 by omega] at hX
                have hX : X = sbn (pline k bt N w c (tke k bt p)) (fun r => if sgn k bt 44 r.1 = true then plines k bt N (30 - c) r.2 (c + 1) r.1 else .inr (r.1, c + 1, r.2)) := hX
                refine Ok.ifF (by decide) (Ok.bd _ (m_nx Ru) ?_)
                rintro _ u2 ⟨R2', K2'⟩
                have b2' : u2 149 12 = 0 := by rw [K2'.2 12 (by omega)]; exact bu
                refine Ok.bd _ (m_readsLine R2' b2' (hNu.fr (K2'.1 150 (by decide))) hs hwf hv.1 (by omega) hdc hc) ?_
                rintro _ u3 ⟨F3', S3', h3'⟩
                have FF := (Fu.tr K2'.fm).tr F3'
                have SS : SO s t3 u3 := fun j hj => (S3' j hj).trans ((by rw [K2'.1 150 (by decide)] : u2 150 j = u 150 j).trans (Su j hj))
                cases e6 : pline k bt N w c (tke k bt p) with
                | inl f =>
                  rw [e6] at h3'
                  exact Ok.ret ⟨0, by omega, FF, SS, Or.inl ⟨f, hX.trans (sbn_l e6), h3'.1, rfl⟩⟩
                | inr v =>
                  rw [e6] at h3'
                  obtain ⟨hc30, a, b, x, ha, hb', hab, hx1, hx9, h0, ev⟩ := pline_in e6
                  refine Ok.ret ⟨40 - (c + 1), by omega, FF, SS, Or.inr ⟨c + 1, v.1, v.2, rfl, by omega, ?_, ?_, h3'.1, h3'.2.1, h3'.2.2, ?_⟩⟩
                  · rw [ev]
                    exact hwf.set (by omega) (by omega) hab (by omega)
                  · rw [ev, dcn_add (by omega) (by omega) (by omega) hab h0 (by rw [hwf.2.1]; exact h0) (by omega)]
                    omega
                  · rw [hX, sbn_r e6, show 31 - (c + 1) = 30 - c by omega]
              · rw [if_neg (by rw [s44]; decide)] at hX
                refine Ok.ifT rfl (Ok.ret ⟨Fu, Su, ?_⟩)
                rw [hX]
                exact ⟨Ru, bu, hNu⟩
          · cases e6 : pline k bt N (fun _ _ => 0) 0 (tke k bt q) with
            | inl f =>
              rw [e6] at h5
              exact Or.inl ⟨f, eX.trans (sbn_l e6), h5.1, rfl⟩
            | inr v =>
              rw [e6] at h5
              obtain ⟨hc30, a, b, x, ha, hb', hab, hx1, hx9, h0, ev⟩ := pline_in e6
              refine Or.inr ⟨1, v.1, v.2, rfl, by omega, ?_, ?_, h5.1, h5.2.1, h5.2.2, ?_⟩
              · rw [ev]
                exact WF.z.set (by omega) (by omega) hab (by omega)
              · rw [ev, dcn_add (by omega) (by omega) (by omega) hab rfl rfl (by omega), z]
              · rw [eX, sbn_r e6]
        · rw [if_neg (by rw [s58]; decide)] at eX
          refine Ok.ifT rfl (Ok.ret ⟨FM.rf, SO.rf, ?_⟩)
          rw [← eX]
          exact ⟨R3, b3, g2⟩
      · rintro _ t4 ⟨F4, S4, h4⟩
        cases e4 : X with
        | inl f =>
          rw [e4] at h4
          exact tail f t4 h4 (F3.tr F4) (ep.trans (sbn_l (epl.trans (sbn_l e4))))
        | inr v =>
          rw [e4] at h4 epl
          obtain ⟨R4, b4, N4⟩ := h4
          have epl : plns k bt N q = if sgn k bt 59 v.1 = true then .inr (tke k bt v.1, v.2.1, v.2.2) else .inl (1, tkb k bt v.1) := epl
          have o4 : ∀ j, (j < 91 * s ∨ 91 * s + 91 ≤ j) → t4 150 j = t 150 j := fun j hj => (S4 j (by omega)).trans (o3 j hj)
          have r4 : RO s N (fun i => i) t4 := fun i hi => (S4 _ (by omega)).trans (g3 i hi)
          refine Ok.bd (fun r u => t4 = u ∧ ((r = 1 ∧ sgn k bt 59 v.1 = true) ∨ (r = 0 ∧ sgn k bt 59 v.1 = false))) (m_sign (c := 59) R4 b4 (by omega) (fun a => ⟨rfl, Or.inl ⟨rfl, a⟩⟩) (fun a => ⟨rfl, Or.inr ⟨rfl, a⟩⟩)) ?_
          rintro r _ ⟨rfl, ⟨rfl, s59⟩ | ⟨rfl, s59⟩⟩
          · rw [if_pos s59] at epl
            rw [sbn_r epl] at ep
            refine Ok.bd _ (m_must1 R4 b4) ?_
            rintro _ t5 ⟨R5, K5⟩
            have b5 : t5 149 12 = 0 := by rw [K5.2 12 (by omega)]; exact b4
            have F5 := (F3.tr F4).tr K5.fm
            have N5 : RN s N v.2.2 t5 := N4.fr (K5.1 150 (by decide))
            have hc4 := tkc_lt (k := k) (bt := bt) (p := tke k bt v.1)
            refine Ok.bd (fun r u => t5 = u ∧ ((r = 1 ∧ wrd k bt 114 111 119 (tke k bt v.1) = true) ∨ (r = 0 ∧ wrd k bt 114 111 119 (tke k bt v.1) = false))) (m_word5 R5 b5 (fun a => ⟨rfl, Or.inl ⟨rfl, a⟩⟩) (fun a => ⟨rfl, Or.inr ⟨rfl, a⟩⟩)) ?_
            rintro r _ ⟨rfl, ⟨rfl, hr⟩ | ⟨rfl, hr⟩⟩
            · have c0 : ¬ tkc k bt (tke k bt v.1) = 0 := fun q => by
                have := (of_decide_eq_true hr).1
                omega
              have er : prow k bt N (tke k bt v.1) = _ := prow_eq.trans ((if_neg c0).trans (if_pos hr))
              refine Ok.bd (fun _ u => FM t5 u ∧ (∀ j, (j < 91 * s + 82 ∨ 91 * s + 82 + N ≤ j) → u 150 j = t5 150 j) ∧ Sum.elim (fun f => BD f u) (fun w => RM k bt w u ∧ u 149 12 = 0 ∧ ∀ i, i < N → u 150 (91 * s + 82 + i) = nI (bt (tkb k bt (tke k bt (tke k bt v.1)) + i) - 48)) (prw k bt N (tke k bt (tke k bt v.1)))) (Ok.ifF (by decide) (Ok.bd _ (m_readsRow R5 b5 N5 hs hv.1 (by omega)) (fun _ u hu => Ok.ret hu))) ?_
              rintro _ t6 ⟨F6, S6, h6⟩
              cases e6 : prw k bt N (tke k bt (tke k bt v.1)) with
              | inl f =>
                rw [e6] at h6
                rw [sbn_l e6] at er
                refine Ok.rdE h6.1 (Ok.ifF (by decide) (Ok.ret ⟨F5.tr F6, ?_⟩))
                rw [ep, sbn_l er]
                exact h6
              | inr p' =>
                rw [e6] at h6
                rw [sbn_r e6] at er
                obtain ⟨R6, b6, o6⟩ := h6
                have hc6 := tkc_lt (k := k) (bt := bt) (p := p')
                refine Ok.rdE b6 (Ok.ifT rfl (Ok.rdE R6.2.2.2.1 ?_))
                by_cases ce : tkc k bt p' = 0
                · rw [if_pos ce] at er
                  refine Ok.ifT (by rw [ce]; rfl) (Ok.ret ⟨F5.tr F6, ?_⟩)
                  rw [ep, sbn_r er]
                  refine ⟨b6, ⟨?_, fun a b ha hb => ?_⟩, fun i hi => ?_, fun j hj => ?_⟩
                  · rw [S6 _ (by omega)]; exact N5.1
                  · rw [S6 _ (by omega)]; exact N5.2 a b ha hb
                  · by_cases ci : i < N
                    · rw [if_pos ci]; exact o6 i ci
                    · rw [if_neg ci, S6 _ (by omega), K5.1 150 (by decide), r4 i hi, if_neg ci]
                  · rw [S6 _ (by omega), K5.1 150 (by decide)]; exact o4 j hj
                · rw [if_neg ce] at er
                  refine Ok.ifF (by rw [li_0, nI_eqP (by omega) (by omega)]; exact ce) (Ok.bd _ (m_faultsX (f := 1) R6 b6) ?_)
                  rintro _ t7 ⟨B, F7, -⟩
                  refine Ok.ret ⟨(F5.tr F6).tr F7, ?_⟩
                  rw [ep, sbn_l er]
                  exact B
            · refine Ok.bd (fun _ u => t5 = u) (Ok.ifT rfl (Ok.ret rfl)) ?_
              rintro _ _ rfl
              refine Ok.rdE b5 (Ok.ifT rfl (Ok.rdE R5.2.2.2.1 ?_))
              by_cases c0 : tkc k bt (tke k bt v.1) = 0
              · have er : prow k bt N (tke k bt v.1) = .inr (fun i => i) := prow_eq.trans (if_pos c0)
                refine Ok.ifT (by rw [c0]; rfl) (Ok.ret ⟨F5, ?_⟩)
                rw [ep, sbn_r er]
                refine ⟨b5, N5, fun i hi => ?_, fun j hj => ?_⟩
                · rw [K5.1 150 (by decide)]; exact r4 i hi
                · rw [K5.1 150 (by decide)]; exact o4 j hj
              · have er : prow k bt N (tke k bt v.1) = .inl (1, tkb k bt (tke k bt v.1)) := prow_eq.trans ((if_neg c0).trans (if_neg (by rw [hr]; decide)))
                refine Ok.ifF (by rw [li_0, nI_eqP (by omega) (by omega)]; exact c0) (Ok.bd _ (m_faultsX (f := 1) R5 b5) ?_)
                rintro _ t7 ⟨B, F7, -⟩
                refine Ok.ret ⟨F5.tr F7, ?_⟩
                rw [ep, sbn_l er]
                exact B
          · rw [if_neg (by rw [s59]; decide)] at epl
            rw [sbn_l epl] at ep
            refine Ok.bd _ (m_must0X R4 b4) ?_
            rintro _ t5 ⟨B, F5, -⟩
            refine Ok.bd (fun r v => t5 = v ∧ r = 0) (b_word5 B.1 ⟨rfl, rfl⟩) ?_
            rintro _ _ ⟨rfl, rfl⟩
            refine Ok.bd (fun _ v => t5 = v) (Ok.ifT rfl (Ok.ret rfl)) ?_
            rintro _ _ rfl
            refine Ok.rdE B.1 (Ok.ifF (by decide) (Ok.ret ⟨(F3.tr F4).tr F5, ?_⟩))
            rw [ep]
            exact B
  · have ep : ptext k bt = .inl (1, tkb k bt 0) := if_neg (by rw [hw]; decide)
    refine Ok.bd _ (m_must0X h hb) ?_
    rintro _ t1 ⟨B, F, -⟩
    refine Ok.bd (fun r u => t1 = u ∧ r = nI 1) (b_here B.1 ⟨rfl, rfl⟩) ?_
    rintro _ _ ⟨rfl, rfl⟩
    exact tail2 _ t1 B F ep
