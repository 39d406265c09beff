/-! the class reads a text, on -/
theorem tk3 {k : Nat} {bt : Nat → Nat} {p : Nat} (c : ¬ tkc k bt p = 0) : tkb k bt p < k := by
  refine Decidable.byContradiction (fun q => c ?_)
  unfold tkc
  rw [if_neg q]
theorem e_word0 {k : Nat} {bt : Nat → Nat} {t : St} {p : Nat} (h : RC k bt p t) {Q : Int32 → St → Prop} (q1 : wrd k bt 110 101 116 p = true → Q 1 t) (q0 : wrd k bt 110 101 116 p = false → Q 0 t) : Ok (FX7_isWord_s0 t) Q := by
  have hle := h.le
  have hc4 := tkc_lt (k := k) (bt := bt) (p := p)
  unfold FX7_isWord_s0
  refine Ok.rdE h.2.2.2.1 ?_
  by_cases c1 : tkc k bt p = 1
  · refine Ok.ifT (by rw [c1]; rfl) (Ok.rdE h.2.2.2.2 (Ok.rdE h.2.2.1 ?_))
    rw [nI_sub (by omega), li_3]
    refine Ok.cv (nI_eqP (by omega) (by omega)) ?_
    by_cases c3 : tke k bt p - tkb k bt p = 3
    · refine Ok.ifT c3 (Ok.bd (fun r u => t = u ∧ Sum.elim (fun v => v = 0 ∧ wrd k bt 110 101 116 p = false) (fun _ => wrd k bt 110 101 116 p = true) r) ?_ ?_)
      · refine Ok.count 3 (fun j c s => c = nI j ∧ t = s ∧ (0 < j → bt (tkb k bt p) = 110) ∧ (1 < j → bt (tkb k bt p + 1) = 101) ∧ (2 < j → bt (tkb k bt p + 2) = 116)) ?_ ?_ (Nat.zero_le _) ⟨rfl, rfl, fun q => by omega, fun q => by omega, fun q => by omega⟩
        · rintro j c s hj ⟨rfl, rfl, h0, h1, h2⟩
          unfold SX7_isWord_s0_28
          refine Ok.ifF (by rw [li_3, nI_leP (by omega) (by omega)]; omega) (Ok.rdE h.2.2.1 ?_)
          rw [nI_add]
          refine Ok.bd _ (e_at h.1 (by omega) (Q := fun r u => t = u ∧ r = nI (bt (tkb k bt p + j)) ∧ bt (tkb k bt p + j) < 256) (fun _ a => ⟨rfl, rfl, a⟩) (fun a => by omega)) ?_
          rintro _ _ ⟨rfl, rfl, hb3⟩
          refine Ok.ckT (inb_n hj (by omega)) ?_
          rcases (show j = 0 ∨ j = 1 ∨ j = 2 by omega) with rfl | rfl | rfl
          · rw [show chr [110, 101, 116] (nI 0) = nI 110 from rfl]
            exact Ok.cv (nI_eqP (by omega) (by omega)) (Ok.ite (fun q => Ok.ret ⟨rfl, rfl, fun _ => q, fun q => by omega, fun q => by omega⟩) (fun q => Ok.ret ⟨rfl, rfl, decide_eq_false (fun a => q a.2.2.1)⟩))
          · rw [show chr [110, 101, 116] (nI 1) = nI 101 from rfl]
            exact Ok.cv (nI_eqP (by omega) (by omega)) (Ok.ite (fun q => Ok.ret ⟨rfl, rfl, fun _ => h0 (by omega), fun _ => q, fun q => by omega⟩) (fun q => Ok.ret ⟨rfl, rfl, decide_eq_false (fun a => q a.2.2.2.1)⟩))
          · rw [show chr [110, 101, 116] (nI 2) = nI 116 from rfl]
            exact Ok.cv (nI_eqP (by omega) (by omega)) (Ok.ite (fun q => Ok.ret ⟨rfl, rfl, fun _ => h0 (by omega), fun _ => h1 (by omega), fun _ => q⟩) (fun q => Ok.ret ⟨rfl, rfl, decide_eq_false (fun a => q a.2.2.2.2)⟩))
        · rintro c s ⟨rfl, rfl, h0, h1, h2⟩
          unfold SX7_isWord_s0_28
          exact Ok.ifT (by rw [li_3, nI_leP (by omega) (by omega)]; omega) (Ok.ret ⟨rfl, decide_eq_true ⟨c1, by omega, h0 (by omega), h1 (by omega), h2 (by omega)⟩⟩)
      · rintro (r | r) _ ⟨rfl, hr⟩
        · obtain ⟨rfl, hr⟩ := hr
          exact Ok.el (Ok.ret (q0 hr))
        · exact Ok.er (Ok.ret (q1 hr))
    · exact Ok.ifF c3 (Ok.ret (q0 (decide_eq_false (fun a => c3 (by omega)))))
  · exact Ok.ifF (by rw [li_1, nI_eqP (by omega) (by omega)]; exact c1) (Ok.ret (q0 (decide_eq_false (fun a => c1 a.1))))
theorem e_word1 {k : Nat} {bt : Nat → Nat} {t : St} {p : Nat} (h : RC k bt p t) {Q : Int32 → St → Prop} (q1 : wrd k bt 114 111 119 p = true → Q 1 t) (q0 : wrd k bt 114 111 119 p = false → Q 0 t) : Ok (FX7_isWord_s1 t) Q := by
  have hle := h.le
  have hc4 := tkc_lt (k := k) (bt := bt) (p := p)
  unfold FX7_isWord_s1
  refine Ok.rdE h.2.2.2.1 ?_
  by_cases c1 : tkc k bt p = 1
  · refine Ok.ifT (by rw [c1]; rfl) (Ok.rdE h.2.2.2.2 (Ok.rdE h.2.2.1 ?_))
    rw [nI_sub (by omega), li_3]
    refine Ok.cv (nI_eqP (by omega) (by omega)) ?_
    by_cases c3 : tke k bt p - tkb k bt p = 3
    · refine Ok.ifT c3 (Ok.bd (fun r u => t = u ∧ Sum.elim (fun v => v = 0 ∧ wrd k bt 114 111 119 p = false) (fun _ => wrd k bt 114 111 119 p = true) r) ?_ ?_)
      · refine Ok.count 3 (fun j c s => c = nI j ∧ t = s ∧ (0 < j → bt (tkb k bt p) = 114) ∧ (1 < j → bt (tkb k bt p + 1) = 111) ∧ (2 < j → bt (tkb k bt p + 2) = 119)) ?_ ?_ (Nat.zero_le _) ⟨rfl, rfl, fun q => by omega, fun q => by omega, fun q => by omega⟩
        · rintro j c s hj ⟨rfl, rfl, h0, h1, h2⟩
          unfold SX7_isWord_s1_28
          refine Ok.ifF (by rw [li_3, nI_leP (by omega) (by omega)]; omega) (Ok.rdE h.2.2.1 ?_)
          rw [nI_add]
          refine Ok.bd _ (e_at h.1 (by omega) (Q := fun r u => t = u ∧ r = nI (bt (tkb k bt p + j)) ∧ bt (tkb k bt p + j) < 256) (fun _ a => ⟨rfl, rfl, a⟩) (fun a => by omega)) ?_
          rintro _ _ ⟨rfl, rfl, hb3⟩
          refine Ok.ckT (inb_n hj (by omega)) ?_
          rcases (show j = 0 ∨ j = 1 ∨ j = 2 by omega) with rfl | rfl | rfl
          · rw [show chr [114, 111, 119] (nI 0) = nI 114 from rfl]
            exact Ok.cv (nI_eqP (by omega) (by omega)) (Ok.ite (fun q => Ok.ret ⟨rfl, rfl, fun _ => q, fun q => by omega, fun q => by omega⟩) (fun q => Ok.ret ⟨rfl, rfl, decide_eq_false (fun a => q a.2.2.1)⟩))
          · rw [show chr [114, 111, 119] (nI 1) = nI 111 from rfl]
            exact Ok.cv (nI_eqP (by omega) (by omega)) (Ok.ite (fun q => Ok.ret ⟨rfl, rfl, fun _ => h0 (by omega), fun _ => q, fun q => by omega⟩) (fun q => Ok.ret ⟨rfl, rfl, decide_eq_false (fun a => q a.2.2.2.1)⟩))
          · rw [show chr [114, 111, 119] (nI 2) = nI 119 from rfl]
            exact Ok.cv (nI_eqP (by omega) (by omega)) (Ok.ite (fun q => Ok.ret ⟨rfl, rfl, fun _ => h0 (by omega), fun _ => h1 (by omega), fun _ => q⟩) (fun q => Ok.ret ⟨rfl, rfl, decide_eq_false (fun a => q a.2.2.2.2)⟩))
        · rintro c s ⟨rfl, rfl, h0, h1, h2⟩
          unfold SX7_isWord_s1_28
          exact Ok.ifT (by rw [li_3, nI_leP (by omega) (by omega)]; omega) (Ok.ret ⟨rfl, decide_eq_true ⟨c1, by omega, h0 (by omega), h1 (by omega), h2 (by omega)⟩⟩)
      · rintro (r | r) _ ⟨rfl, hr⟩
        · obtain ⟨rfl, hr⟩ := hr
          exact Ok.el (Ok.ret (q0 hr))
        · exact Ok.er (Ok.ret (q1 hr))
    · exact Ok.ifF c3 (Ok.ret (q0 (decide_eq_false (fun a => c3 (by omega)))))
  · exact Ok.ifF (by rw [li_1, nI_eqP (by omega) (by omega)]; exact c1) (Ok.ret (q0 (decide_eq_false (fun a => c1 a.1))))
theorem e_takeSign {k : Nat} {bt : Nat → Nat} {t : St} {p c : Nat} (h : RC k bt p t) (hc : c < 256) : Ok (FX7_takeSign (nI c) t) (PFx t (if sgn k bt c p = true then .inr (tke k bt p) else .inl (1, tkb k bt p)) (fun v u => RC k bt v u ∧ KR t u)) := by
  unfold FX7_takeSign
  refine Ok.bd _ (e_sign h hc (Q := fun r u => t = u ∧ ((r = 1 ∧ sgn k bt c p = true) ∨ (r = 0 ∧ sgn k bt c p = false))) (fun a => ⟨rfl, Or.inl ⟨rfl, a⟩⟩) (fun a => ⟨rfl, Or.inr ⟨rfl, a⟩⟩)) ?_
  rintro r _ ⟨rfl, ⟨rfl, hs⟩ | ⟨rfl, hs⟩⟩
  · refine Ok.ifF (by decide) (Ok.bd _ (e_nx h) ?_)
    rintro _ u ⟨h1, h2⟩
    exact Ok.ret (PFx.r (if_pos hs) ⟨rfl, h1, h2⟩)
  · refine Ok.ifT rfl (Ok.bd _ (e_blame (f := 1) h) ?_)
    rintro _ u ⟨rfl, h1, h2, h3⟩
    exact Ok.ckT rfl (Ok.ret (PFx.l (if_neg (by rw [hs]; decide)) ⟨rfl, h1, h2, h3⟩))
/-- only what is read, and the draft's net, change -/
def KD (t u : St) : Prop := DR t u ∧ u 8 = t 8 ∧ u 5 1 = t 5 1 ∧ u 5 2 = t 5 2
theorem KR.kd {t u : St} (h : KR t u) : KD t u := ⟨h.dr, h.1 8 (by decide), h.2.1, h.2.2⟩
theorem KD.tr {t u v : St} (h : KD t u) (g : KD u v) : KD t v := ⟨h.1.tr g.1, g.2.1.trans h.2.1, g.2.2.1.trans h.2.2.1, g.2.2.2.trans h.2.2.2⟩
theorem RC.kd {k : Nat} {bt : Nat → Nat} {p : Nat} {t u : St} (h : RC k bt p t) (e1 : u 1 = t 1) (e2 : u 2 = t 2) (e5 : u 5 = t 5) : RC k bt p u := by
  refine ⟨h.1.fr e1 e2, h.2.1, ?_, ?_, ?_⟩
  · rw [e5]; exact h.2.2.1
  · rw [e5]; exact h.2.2.2.1
  · rw [e5]; exact h.2.2.2.2
theorem n6 : netAt 6 = true := by decide +kernel
theorem e_draw {k : Nat} {bt : Nat → Nat} {t : St} {p N c a b v : Nat} {w : Nat → Nat → Nat} (h : RC k bt p t) (hn : CN 6 N c w t) (ha : a < 9) (hb : b < 9) (hab : a ≠ b) (h0 : w a b = 0) (hv : v < 10) (hv0 : 0 < v) (hc : c < 31) : Ok (FX5_setWeight 6 (nI a) (nI b) (nI v) t) (fun _ u => RC k bt p u ∧ CN 6 N (c + 1) (setw w a b v) u ∧ KD t u) := by
  refine (e_setWeight hn n6 ha hb hab hv (by omega) (fun q => by omega) (by omega)).mono ?_
  rintro _ u ⟨h1, h2⟩
  rw [if_neg (by omega), if_pos hv0, Nat.sub_zero] at h1
  have e5 := h2 5 (by decide) (by decide) (by decide)
  exact ⟨h.kd (h2 1 (by decide) (by decide) (by decide)) (h2 2 (by decide) (by decide) (by decide)) e5, h1, fun c hc => h2 c (by omega) (by omega) (by omega), h2 8 (by decide) (by decide) (by decide), by rw [e5], by rw [e5]⟩
theorem e_readWeight {k : Nat} {bt : Nat → Nat} {t : St} {p N c a b : Nat} {w : Nat → Nat → Nat} (h : RC k bt p t) (hn : CN 6 N c w t) (ha : a < 9) (hb : b < 9) (hab : a ≠ b) (h0 : w a b = 0) (hc : c < 31) : Ok (FX7_readWeight (nI a) (nI b) t) (PFx t (pwt k bt w a b p) (fun v u => RC k bt v.1 u ∧ CN 6 N (c + 1) v.2 u ∧ KD t u)) := by
  unfold FX7_readWeight
  refine Ok.bd _ (e_sign (c := 61) h (by omega) (Q := fun r u => t = u ∧ ((r = 1 ∧ sgn k bt 61 p = true) ∨ (r = 0 ∧ sgn k bt 61 p = false))) (fun a => ⟨rfl, Or.inl ⟨rfl, a⟩⟩) (fun a => ⟨rfl, Or.inr ⟨rfl, a⟩⟩)) ?_
  rintro r _ ⟨rfl, ⟨rfl, hs⟩ | ⟨rfl, hs⟩⟩
  · skip
    have ep : pwt k bt w a b p = sbn (num k bt 1 9 (tke k bt p)) (fun v => .inr (tke k bt (tke k bt p), setw w a b v)) := if_pos hs
    refine Ok.ifF (by decide) (Ok.bd _ (e_nx h) ?_)
    rintro _ u ⟨h1, k1⟩
    refine Ok.bd _ (e_num (lo := 1) (hi := 9) h1 (by omega) (by omega)) ?_
    intro r u2 hr
    cases e : num k bt 1 9 (tke k bt p) with
    | inl f =>
      obtain ⟨rfl, a1, a2, a3⟩ := hr.gl e
      exact Ok.ifT rfl (Ok.ret (PFx.l (ep.trans (sbn_l e)) ⟨rfl, a1, a2, k1.dr.tr a3⟩))
    | inr v =>
      obtain ⟨rfl, e7, h2, k2⟩ := hr.gr e
      have hv := num_in e
      refine Ok.ifF (by decide) (Ok.rdE e7 (Ok.bd _ (e_nx h2) ?_))
      rintro _ u3 ⟨h3, k3⟩
      have kk := (k1.tr k2).tr k3
      refine Ok.bd _ (e_draw (v := v) h3 (kk.cn hn (by omega)) ha hb hab h0 (by omega) (by omega) hc) ?_
      rintro _ u4 ⟨h4, n4, k4⟩
      exact Ok.ret (PFx.r (ep.trans (sbn_r e)) ⟨rfl, h4, n4, kk.kd.tr k4⟩)
  · have ep : pwt k bt w a b p = .inr (p, setw w a b 1) := if_neg (by rw [hs]; decide)
    refine Ok.ifT rfl (Ok.bd _ (e_draw (v := 1) h hn ha hb hab h0 (by omega) (by omega) hc) ?_)
    rintro _ u4 ⟨h4, n4, k4⟩
    exact Ok.ret (PFx.r ep ⟨rfl, h4, n4, k4⟩)
theorem e_readLine {k : Nat} {bt : Nat → Nat} {t : St} {p N c : Nat} {w : Nat → Nat → Nat} (h : RC k bt p t) (hn : CN 6 N c w t) (hN : 1 ≤ N) (h9 : N < 10) (hc : c < 31) (hw : ∀ a b, a < 9 → b < 9 → w a b < 10) : Ok (FX7_readLine t) (PFx t (pline k bt N w c p) (fun v u => RC k bt v.1 u ∧ CN 6 N (c + 1) v.2 u ∧ KD t u)) := by
  unfold FX7_readLine
  refine Ok.bd _ (e_point h hn hN h9) ?_
  intro r u hr
  cases e : num k bt 0 (N - 1) p with
  | inl f =>
    obtain ⟨rfl, a1, a2, a3⟩ := hr.gl e
    exact Ok.ifT rfl (Ok.ret (PFx.l (sbn_l e) ⟨rfl, a1, a2, a3⟩))
  | inr a =>
    obtain ⟨rfl, e7, h2, k2⟩ := hr.gr e
    have hv := num_in e
    have n2 := k2.cn hn (by omega)
    have e1 := sbn_r (f := fun a => if c < 30 then (if sgn k bt 45 (tke k bt p) = true then sbn (num k bt 0 (N - 1) (tke k bt (tke k bt p))) (fun b => if a = b then .inl (2, tkb k bt (tke k bt (tke k bt p))) else if w a b = 0 then pwt k bt w a b (tke k bt (tke k bt (tke k bt p))) else .inl (3, tkb k bt (tke k bt (tke k bt p)))) else .inl (1, tkb k bt (tke k bt p))) else .inl (4, tkb k bt p)) e
    have e1 : pline k bt N w c p = _ := e1
    refine Ok.ifF (by decide) (Ok.rdE n2.2.1 ?_)
    rw [li_30]
    refine Ok.cv (nI_ltP (by omega) (by omega)) ?_
    by_cases c30 : c < 30
    · rw [if_pos c30] at e1
      refine Ok.ifT c30 (Ok.rdE e7 (Ok.bd _ (e_nx h2) ?_))
      rintro _ u3 ⟨h3, k3⟩
      refine Ok.bd _ (e_takeSign (c := 45) h3 (by omega)) ?_
      intro r u4 hr4
      by_cases s45 : sgn k bt 45 (tke k bt p) = true
      · rw [if_pos s45] at e1
        obtain ⟨rfl, h4, k4⟩ := hr4.gr (if_pos s45)
        have kk := (k2.tr k3).tr k4
        have n4 := kk.cn hn (by omega)
        refine Ok.ifF (by decide) (Ok.bd _ (e_point h4 n4 hN h9) ?_)
        intro r u5 hr5
        cases e2 : num k bt 0 (N - 1) (tke k bt (tke k bt p)) with
        | inl f =>
          obtain ⟨rfl, a1, a2, a3⟩ := hr5.gl e2
          exact Ok.ifT rfl (Ok.ret (PFx.l (e1.trans (sbn_l e2)) ⟨rfl, a1, a2, kk.dr.tr a3⟩))
        | inr b =>
          obtain ⟨rfl, e75, h5, k5⟩ := hr5.gr e2
          have hv2 := num_in e2
          have kk5 := kk.tr k5
          have n5 := kk5.cn hn (by omega)
          rw [sbn_r e2] at e1
          refine Ok.ifF (by decide) (Ok.rdE e75 ?_)
          refine Ok.cv (nI_eqP (by omega) (by omega)) ?_
          by_cases eab : a = b
          · rw [if_pos eab] at e1
            refine Ok.ifT eab (Ok.bd _ (e_blame (f := 2) h5) ?_)
            rintro _ u6 ⟨rfl, a1, a2, a3⟩
            exact Ok.ckT rfl (Ok.ret (PFx.l e1 ⟨rfl, a1, a2, kk5.dr.tr a3⟩))
          · rw [if_neg eab] at e1
            refine Ok.ifF eab (Ok.bd _ (e_weightOf n5 n6 (a := a) (b := b) (by omega) (by omega) (Q := fun r u => r = nI (w a b) ∧ u5 = u) ⟨rfl, rfl⟩) ?_)
            rintro _ _ ⟨rfl, rfl⟩
            have hw2 := hw a b (by omega) (by omega)
            rw [li_0]
            refine Ok.cv (nI_leP (by omega) (by omega)) ?_
            by_cases w0 : w a b = 0
            · rw [if_pos w0] at e1
              refine Ok.ifT (by omega) (Ok.bd _ (e_nx h5) ?_)
              rintro _ u6 ⟨h6, k6⟩
              have kk6 := kk5.tr k6
              refine Ok.bd _ (e_readWeight h6 (kk6.cn hn (by omega)) (a := a) (b := b) (by omega) (by omega) eab w0 hc) ?_
              intro r u7 hr7
              cases e3 : pwt k bt w a b (tke k bt (tke k bt (tke k bt p))) with
              | inl f =>
                obtain ⟨rfl, a1, a2, a3⟩ := hr7.gl e3
                exact Ok.ckT rfl (Ok.ret (PFx.l (e1.trans e3) ⟨rfl, a1, a2, kk6.dr.tr a3⟩))
              | inr v =>
                obtain ⟨rfl, h7, n7, k7⟩ := hr7.gr e3
                exact Ok.ckT rfl (Ok.ret (PFx.r (e1.trans e3) ⟨rfl, h7, n7, kk6.kd.tr k7⟩))
            · rw [if_neg w0] at e1
              refine Ok.ifF (by omega) (Ok.bd _ (e_blame (f := 3) h5) ?_)
              rintro _ u6 ⟨rfl, a1, a2, a3⟩
              exact Ok.ckT rfl (Ok.ret (PFx.l e1 ⟨rfl, a1, a2, kk5.dr.tr a3⟩))
      · rw [if_neg s45] at e1
        obtain ⟨rfl, a1, a2, a3⟩ := hr4.gl (if_neg s45)
        exact Ok.ifT rfl (Ok.ret (PFx.l e1 ⟨rfl, a1, a2, (k2.tr k3).dr.tr a3⟩))
    · rw [if_neg c30] at e1
      refine Ok.ifF c30 (Ok.bd _ (e_blame (f := 4) h2) ?_)
      rintro _ u3 ⟨rfl, a1, a2, a3⟩
      exact Ok.ckT rfl (Ok.ret (PFx.l e1 ⟨rfl, a1, a2, k2.dr.tr a3⟩))
theorem pline_in {k : Nat} {bt : Nat → Nat} {N c p : Nat} {w : Nat → Nat → Nat} {v : Nat × (Nat → Nat → Nat)} (h : pline k bt N w c p = .inr v) : c < 30 ∧ ∃ a b x, a ≤ N - 1 ∧ b ≤ N - 1 ∧ a ≠ b ∧ 1 ≤ x ∧ x ≤ 9 ∧ w a b = 0 ∧ v.2 = setw w a b x := by
  unfold pline at h
  cases e : num k bt 0 (N - 1) p with
  | inl f => rw [sbn_l e] at h; cases h
  | inr a =>
    rw [sbn_r e] at h
    by_cases c30 : c < 30
    · rw [if_pos c30] at h
      by_cases s45 : sgn k bt 45 (tke k bt p) = true
      · rw [if_pos s45] at h
        cases e2 : num k bt 0 (N - 1) (tke k bt (tke k bt p)) with
        | inl f => rw [sbn_l e2] at h; cases h
        | inr b =>
          rw [sbn_r e2] at h
          by_cases eab : a = b
          · rw [if_pos eab] at h; cases h
          · rw [if_neg eab] at h
            by_cases w0 : w a b = 0
            · rw [if_pos w0] at h
              unfold pwt at h
              by_cases s61 : sgn k bt 61 (tke k bt (tke k bt (tke k bt p))) = true
              · rw [if_pos s61] at h
                cases e3 : num k bt 1 9 (tke k bt (tke k bt (tke k bt (tke k bt p)))) with
                | inl f => rw [sbn_l e3] at h; cases h
                | inr x =>
                  rw [sbn_r e3] at h
                  have h := Sum.inr.inj h
                  subst h
                  exact ⟨c30, a, b, x, (num_in e).2.1, (num_in e2).2.1, eab, (num_in e3).1, (num_in e3).2.1, w0, rfl⟩
              · rw [if_neg s61] at h
                have h := Sum.inr.inj h
                subst h
                exact ⟨c30, a, b, 1, (num_in e).2.1, (num_in e2).2.1, eab, by omega, by omega, w0, rfl⟩
            · rw [if_neg w0] at h; cases h
      · rw [if_neg s45] at h; cases h
    · rw [if_neg c30] at h; cases h
theorem setw_lt {w : Nat → Nat → Nat} {a b x : Nat} (hw : ∀ p q, p < 9 → q < 9 → w p q < 10) (hx : x ≤ 9) : ∀ p q, p < 9 → q < 9 → setw w a b x p q < 10 := by
  intro p q hp hq
  unfold setw
  by_cases h : (p = a ∧ q = b) ∨ (p = b ∧ q = a)
  · rw [if_pos h]; omega
  · rw [if_neg h]; exact hw p q hp hq
theorem e_readLines {k : Nat} {bt : Nat → Nat} {t : St} {p N : Nat} (h : RC k bt p t) (hn : CN 6 N 0 (fun _ _ => 0) t) (hN : 1 ≤ N) (h9 : N < 10) : Ok (FX7_readLines t) (PFx t (plns k bt N p) (fun v u => RC k bt v.1 u ∧ CN 6 N v.2.1 v.2.2 u ∧ KD t u)) := by
  unfold FX7_readLines
  refine Ok.bd _ (e_sign (c := 58) h (by omega) (Q := fun r u => t = u ∧ ((r = 1 ∧ sgn k bt 58 p = true) ∨ (r = 0 ∧ sgn k bt 58 p = false))) (fun a => ⟨rfl, Or.inl ⟨rfl, a⟩⟩) (fun a => ⟨rfl, Or.inr ⟨rfl, a⟩⟩)) ?_
  intro r t1 h1
  obtain ⟨rfl, hr⟩ := h1
  generalize eX : (if sgn k bt 58 p = true then plines k bt N 31 (fun _ _ => 0) 0 p else .inr (p, 0, fun _ _ => 0) : (Nat × Nat) ⊕ (Nat × Nat × (Nat → Nat → Nat))) = X
  have ep : plns k bt N p = sbn X (fun r => if sgn k bt 59 r.1 = true then .inr (tke k bt r.1, r.2.1, r.2.2) else .inl (1, tkb k bt r.1)) := by unfold plns; rw [eX]
  refine Ok.bd (fun x u => Sum.elim (fun v => ∃ f, X = .inl f ∧ v = 0 ∧ u 5 1 = nI f.1 ∧ u 5 2 = nI f.2 ∧ DR t u) (fun _ => ∃ v, X = .inr v ∧ RC k bt v.1 u ∧ CN 6 N v.2.1 v.2.2 u ∧ KD t u) x) ?_ ?_
  · refine Ok.loop (fun m c s => ∃ j q w, m = 40 - j ∧ j ≤ 30 ∧ c.2 = nI j ∧ RC k bt q s ∧ CN 6 N j w s ∧ KD t s ∧ (∀ a b, a < 9 → b < 9 → w a b < 10) ∧ ((c.1 = 0 ∧ X = .inr (q, j, w)) ∨ (c.1 = 1 ∧ X = plines k bt N (31 - j) w j q))) ?_ 40 _ _ ⟨0, p, fun _ _ => 0, rfl, by omega, rfl, h, hn, KR.rf.kd, fun _ _ _ _ => by show 0 < 10; omega, ?_⟩
    · rintro m ⟨c1, c2⟩ s ⟨j, q, w, rfl, hj, rfl, hR, hC, hK, hw, hX⟩
      unfold SX7_readLines_9
      dsimp only at hX ⊢
      rcases hX with ⟨rfl, hX⟩ | ⟨rfl, hX⟩
      · exact Ok.ifT rfl (Ok.ret ⟨_, hX, hR, hC, hK⟩)
      · refine Ok.ifF (by decide) (Ok.ifF (by rw [li_30, nI_ltP (by omega) (by omega)]; omega) (Ok.bd _ (e_nx hR) ?_))
        rintro _ s1 ⟨R1, K1⟩
        have hX : X = sbn (pline k bt N w j (tke k bt q)) (fun r => if sgn k bt 44 r.1 = true then plines k bt N (30 - j) r.2 (j + 1) r.1 else .inr (r.1, j + 1, r.2)) := by
          rw [hX, show 31 - j = (30 - j) + 1 by omega]
          rfl
        refine Ok.bd _ (e_readLine R1 (K1.cn hC (by omega)) hN h9 (by omega) hw) ?_
        intro r s2 hr2
        cases e : pline k bt N w j (tke k bt q) with
        | inl f =>
          obtain ⟨rfl, a1, a2, a3⟩ := hr2.gl e
          exact Ok.ifT rfl (Ok.ret ⟨f, hX.trans (sbn_l e), rfl, a1, a2, (hK.1.tr K1.dr).tr a3⟩)
        | inr v =>
          obtain ⟨rfl, R2, C2, K2⟩ := hr2.gr e
          rw [sbn_r e] at hX
          obtain ⟨hj30, a, b, x, -, -, -, -, hx9, -, ev⟩ := pline_in e
          have hw2 : ∀ p q, p < 9 → q < 9 → v.2 p q < 10 := by rw [ev]; exact setw_lt hw hx9
          refine Ok.ifF (by decide) (Ok.bd _ (e_sign (c := 44) R2 (by omega) (Q := fun r u => s2 = u ∧ ((r = 1 ∧ sgn k bt 44 v.1 = true) ∨ (r = 0 ∧ sgn k bt 44 v.1 = false))) (fun a => ⟨rfl, Or.inl ⟨rfl, a⟩⟩) (fun a => ⟨rfl, Or.inr ⟨rfl, a⟩⟩)) ?_)
          rintro r _ ⟨rfl, ⟨rfl, hs⟩ | ⟨rfl, hs⟩⟩
          · rw [if_pos hs] at hX
            exact Ok.ret ⟨40 - (j + 1), by omega, j + 1, v.1, v.2, rfl, by omega, nI_1 j, R2, C2, (hK.tr K1.kd).tr K2, hw2, Or.inr ⟨rfl, by rw [hX, show 31 - (j + 1) = 30 - j by omega]⟩⟩
          · rw [if_neg (by rw [hs]; decide)] at hX
            exact Ok.ret ⟨40 - (j + 1), by omega, j + 1, v.1, v.2, rfl, by omega, nI_1 j, R2, C2, (hK.tr K1.kd).tr K2, hw2, Or.inl ⟨rfl, hX⟩⟩
    · rcases hr with ⟨rfl, hs⟩ | ⟨rfl, hs⟩
      · exact Or.inr ⟨rfl, by rw [← eX, if_pos hs]⟩
      · exact Or.inl ⟨rfl, by rw [← eX, if_neg (by rw [hs]; decide)]⟩
  · rintro (x | x) u hx
    · obtain ⟨f, e, rfl, a1, a2, a3⟩ := hx
      exact Ok.el (Ok.ret (PFx.l (ep.trans (sbn_l e)) ⟨rfl, a1, a2, a3⟩))
    · obtain ⟨v, e, hR, hC, hK⟩ := hx
      rw [sbn_r e] at ep
      refine Ok.er (Ok.bd _ (e_takeSign (c := 59) hR (by omega)) ?_)
      intro r u2 hr2
      by_cases s59 : sgn k bt 59 v.1 = true
      · obtain ⟨rfl, R2, K2⟩ := hr2.gr (if_pos s59)
        rw [if_pos s59] at ep
        exact Ok.ckT rfl (Ok.ret (PFx.r ep ⟨rfl, R2, K2.cn hC (by omega), hK.tr K2.kd⟩))
      · obtain ⟨rfl, a1, a2, a3⟩ := hr2.gl (if_neg s59)
        rw [if_neg s59] at ep
        exact Ok.ckT rfl (Ok.ret (PFx.l ep ⟨rfl, a1, a2, hK.1.tr a3⟩))
theorem dm_lt {bt : Nat → Nat} {b N : Nat} (hN : N ≤ 9) : ∀ {m : Nat}, (∀ i, i < m → bt (b + i) - 48 < N) → dm bt b m < 2 ^ N
  | 0, _ => Nat.two_pow_pos N
  | m + 1, h => Nat.or_lt_two_pow (dm_lt hN (fun i hi => h i (by omega))) (Nat.pow_lt_pow_right (by decide) (h m (by omega)))
theorem e_readDigits {k : Nat} {bt : Nat → Nat} {t : St} {p N c0 : Nat} {w : Nat → Nat → Nat} (h : RC k bt p t) (hn : CN 6 N c0 w t) (hN : 1 ≤ N) (h9 : N < 10) (c2 : tkc k bt p = 2) : Ok (FX7_readDigits t) (fun r u => (∀ c, c ≠ 8 → u c = t c) ∧ ((r = 1 ∧ digs k bt N p = true ∧ ∀ i, i < N → u 8 i = nI (bt (tkb k bt p + i) - 48)) ∨ (r = 0 ∧ digs k bt N p = false))) := by
  have hle := h.le
  obtain ⟨hb, hd⟩ := tk2 h.1.1 h.2.1 c2
  unfold FX7_readDigits
  refine Ok.rdE h.2.2.2.2 (Ok.rdE h.2.2.1 (Ok.rdE hn.1 ?_))
  rw [nI_sub hle.2.2.1]
  refine Ok.cv (nI_eqP (by omega) (by omega)) ?_
  by_cases c3 : tke k bt p - tkb k bt p = N
  · refine Ok.ifT c3 (Ok.bd (fun x u => (∀ c, c ≠ 8 → u c = t c) ∧ Sum.elim (fun v => v = 0 ∧ digs k bt N p = false) (fun v => v = nI (dm bt (tkb k bt p) N) ∧ (∀ i, i < N → bt (tkb k bt p + i) - 48 < N) ∧ ∀ i, i < N → u 8 i = nI (bt (tkb k bt p + i) - 48)) x) ?_ ?_)
    · refine Ok.count N (fun j c s => c = (nI (dm bt (tkb k bt p) j), nI j) ∧ (∀ c, c ≠ 8 → s c = t c) ∧ (∀ i, i < j → bt (tkb k bt p + i) - 48 < N) ∧ ∀ i, i < j → s 8 i = nI (bt (tkb k bt p + i) - 48)) ?_ ?_ (Nat.zero_le _) ⟨rfl, fun _ _ => rfl, fun i hi => by omega, fun i hi => by omega⟩
      · rintro j c s hj ⟨rfl, hf, h1, h2⟩
        unfold SX7_readDigits_25
        dsimp only
        have hR : RC k bt p s := h.kd (hf 1 (by decide)) (hf 2 (by decide)) (hf 5 (by decide))
        have hC : CN 6 N c0 w s := hn.fr (hf 6 (by decide)) (hf 7 (by decide)) (hf 9 (by decide))
        refine Ok.rdE hC.1 (Ok.ifF (by rw [nI_leP (by omega) (by omega)]; omega) (Ok.rdE hR.2.2.1 ?_))
        rw [nI_add]
        refine Ok.bd _ (e_at hR.1 (by omega) (Q := fun r u => s = u ∧ r = nI (bt (tkb k bt p + j)) ∧ bt (tkb k bt p + j) < 256) (fun _ a => ⟨rfl, rfl, a⟩) (fun a => by omega)) ?_
        rintro _ _ ⟨rfl, rfl, hb3⟩
        have hd2 := hd (tkb k bt p + j) (by omega) (by omega)
        rw [li_48, nI_sub (by omega)]
        refine Ok.bd _ (e_has hC h9 n6 (a := bt (tkb k bt p + j) - 48) (by omega) (Q := fun r u => s = u ∧ ((r = 1 ∧ bt (tkb k bt p + j) - 48 < N) ∨ (r = 0 ∧ N ≤ bt (tkb k bt p + j) - 48))) (fun a => ⟨rfl, Or.inl ⟨rfl, a⟩⟩) (fun a => ⟨rfl, Or.inr ⟨rfl, a⟩⟩)) ?_
        rintro r _ ⟨rfl, ⟨rfl, hp⟩ | ⟨rfl, hp⟩⟩
        · rw [shl_1 (by omega), nI_or]
          refine Ok.ifF (by decide) (Ok.ckT (inb_n (by omega) (by omega)) (OkwrE (Ok.ret ⟨?_, fun c hc => ?_, fun i hi => ?_, fun i hi => ?_⟩)))
          · rw [nI_1]; rfl
          · rw [wr_off c hc]; exact hf c hc
          · by_cases e : i = j
            · rw [e]; exact hp
            · exact h1 i (by omega)
          · rw [nI_cl (by omega)]
            by_cases e : i = j
            · subst e; rw [wrs]
            · rw [wrn e]; exact h2 i (by omega)
        · refine Ok.ifT rfl (Ok.ret ⟨hf, rfl, decide_eq_false (fun a => ?_)⟩)
          have := a.2.1 j hj
          omega
      · rintro c s ⟨rfl, hf, h1, h2⟩
        unfold SX7_readDigits_25
        exact Ok.rdE (x := nI N) (by rw [hf 6 (by decide)]; exact hn.1) (Ok.ifT (by rw [nI_leP (by omega) (by omega)]; omega) (Ok.ret ⟨hf, rfl, h1, h2⟩))
    · rintro (x | x) u ⟨hf, hx⟩
      · obtain ⟨rfl, hx⟩ := hx
        exact Ok.el (Ok.ret ⟨hf, Or.inr ⟨rfl, hx⟩⟩)
      · obtain ⟨rfl, h1, h2⟩ := hx
        have hC : CN 6 N c0 w u := hn.fr (hf 6 (by decide)) (hf 7 (by decide)) (hf 9 (by decide))
        refine Ok.er (Ok.bd _ (e_allBits hC h9 n6 (Q := fun r v => u = v ∧ r = nI (2 ^ N - 1)) ⟨rfl, rfl⟩) ?_)
        rintro _ _ ⟨rfl, rfl⟩
        have g1 := dm_lt (by omega) h1
        have g2 := pow9 (k := N) (by omega)
        refine Ok.cv (nI_eqP (by omega) (by omega)) ?_
        exact Ok.ite (fun q => Ok.ret ⟨hf, Or.inl ⟨rfl, decide_eq_true ⟨by omega, h1, q⟩, h2⟩⟩) (fun q => Ok.ret ⟨hf, Or.inr ⟨rfl, decide_eq_false (fun a => q a.2.2)⟩⟩)
  · exact Ok.ifF c3 (Ok.ret ⟨fun _ _ => rfl, Or.inr ⟨rfl, decide_eq_false (fun a => c3 (by omega))⟩⟩)
