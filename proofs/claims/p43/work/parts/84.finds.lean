/-! what is known of a net over all rows -/
noncomputable def R1 (n : Nat) (w : Nat → Nat → Nat) (m S : Nat) : Nat := rst n m 1048576 (fun S p => decide (cst n w m S p ≤ 1048576)) (cst n w m) (n - cnt S n) S
noncomputable def R2 (n : Nat) (w : Nat → Nat → Nat) (m S : Nat) : Nat := rst n m 1000000 (fun _ _ => true) (cst n w m) (n - cnt S n) S
theorem R1_eq {n m S : Nat} {w : Nat → Nat → Nat} (hw : WF n w) (hn : n < 10) : R1 n w m S = rst n m 1048576 (fun _ _ => true) (cst n w m) (n - cnt S n) S := by
  unfold R1
  have : (fun S p => decide (cst n w m S p ≤ 1048576)) = fun _ _ => true := by
    funext S p
    have := cst_le (m := m) (S := S) (p := p) hw hn
    exact decide_eq_true (by omega)
  rw [this]
theorem R1_pr {n m : Nat} {w : Nat → Nat → Nat} (hw : WF n w) (hn : n < 10) : RPr n m (cst n w m) (R1 n w m) ∧ R1 n w m (2 ^ n - 1) = 0 ∧ ∀ S, S < 2 ^ n → R1 n w m S ≤ 6561 := rst_pr hn (fun S p => cst_le hw hn) (by omega) (fun S => R1_eq hw hn)
theorem R12 {n m S : Nat} {w : Nat → Nat → Nat} (hw : WF n w) (hn : n < 10) (hS : S < 2 ^ n) : R1 n w m S = R2 n w m S := by
  have h6 := (R1_pr (m := m) hw hn).2.2 S hS
  rw [R1_eq hw hn] at h6 ⊢
  unfold R2
  rcases rst_T (n := n) (m := m) (T := 1048576) (U := 1000000) (al := fun _ _ => true) (c := cst n w m) (fun S p => cst_le hw hn) (by omega) (by omega) (k := n - cnt S n) (S := S) (by omega) with h | h
  · exact h.1
  · omega
theorem R2_le {n m S : Nat} {w : Nat → Nat → Nat} (hw : WF n w) (hn : n < 10) : R2 n w m S ≤ 1000000 := rst_bd (fun S p => cst_le hw hn) (by omega) (by omega)
noncomputable def C1 (n : Nat) (w : Nat → Nat → Nat) (m S : Nat) : Nat := crw n (okc m (R1 n w m 0) (cst n w m) (R1 n w m)) (n - cnt S n) S
noncomputable def L1 (n : Nat) (w : Nat → Nat → Nat) (m : Nat) : Nat → Nat := ldr n (okc m (R1 n w m 0) (cst n w m) (R1 n w m)) (C1 n w m)
theorem b1_ok {n m : Nat} {w : Nat → Nat → Nat} (hw : WF n w) (hn : n < 10) : BRW n (L1 n w m) (brw (L1 n w m)) ∧ KRW n m (R1 n w m 0) (cst n w m) (R1 n w m) (brw (L1 n w m)) (hdf m (cst n w m) (brw (L1 n w m))) := brw_ok hn (R1_pr hw hn).1 (R1_pr hw hn).2.1 (crw_pr (fun S => rfl))
theorem or_up {n S q : Nat} (hS : S < 2 ^ n) (hq : q < n) : S ||| 2 ^ q < 2 ^ n := Nat.or_lt_two_pow hS (Nat.pow_lt_pow_right (by omega) hq)
theorem k2_ok {n m : Nat} {w : Nat → Nat → Nat} (hw : WF n w) (hn : n < 10) : KRW n m (R2 n w m 0) (cst n w m) (R2 n w m) (brw (L1 n w m)) (hdf m (cst n w m) (brw (L1 n w m))) := by
  obtain ⟨hB, h0, hI⟩ := b1_ok (m := m) hw hn
  have e0 : R1 n w m 0 = R2 n w m 0 := R12 hw hn (Nat.two_pow_pos n)
  refine ⟨h0, fun i hi => ?_⟩
  obtain ⟨a1, a2, a3, a4, a5⟩ := hI i hi
  have hlt := hB.lt (i := i) (by omega)
  refine ⟨a1, a2, ?_, fun q hq hh => a4 q hq ⟨hh.1, ?_⟩, a5⟩
  · rw [← e0, ← R12 hw hn (or_up hlt a1)]; exact a3
  · rw [e0, R12 hw hn (or_up hlt (by omega))]; exact hh.2
theorem crw_congr {n : Nat} {ok ok' : Nat → Nat → Bool} (h : ∀ S p, S < 2 ^ n → p < n → S.testBit p = false → ok S p = ok' S p) : ∀ {k S : Nat}, S < 2 ^ n → crw n ok k S = crw n ok' k S
  | 0, _, _ => rfl
  | k + 1, S, hS => by
    show sm n _ = sm n _
    refine sm_congr (fun p hp => ?_)
    by_cases c : S.testBit p = true
    · rw [if_neg (by rw [c]; simp), if_neg (by rw [c]; simp)]
    · have c := bF c
      rw [h S p hS hp c, crw_congr h (k := k) (or_up hS hp)]
theorem C12 {n m L : Nat} {w : Nat → Nat → Nat} (hw : WF n w) (hn : n < 10) (hg : ¬ Gr m) : crw n (okc m L (cst n w m) (R2 n w m)) n 0 = C1 n w m 0 := by
  unfold C1
  rw [cnt_0, Nat.sub_zero]
  refine crw_congr (fun S p hS hp hb => ?_) (Nat.two_pow_pos n)
  have e1 := R12 (m := m) hw hn hS
  have e2 := R12 (m := m) hw hn (or_up hS hp)
  unfold okc
  rw [if_neg hg, if_neg hg, e1, e2]
theorem hdf_le {n m : Nat} {w : Nat → Nat → Nat} {o : Nat → Nat} (hw : WF n w) (hn : n < 10) : ∀ i, hdf m (cst n w m) o i ≤ 729 * i
  | 0 => Nat.le_refl _
  | i + 1 => by
    have h1 := hdf_le (m := m) (o := o) hw hn i
    have h2 := jn_le (m := m) h1 (cst_le (m := m) (S := amk o i) (p := o i) hw hn)
    show jn m (hdf m (cst n w m) o i) (cst n w m (amk o i) (o i)) ≤ 729 * (i + 1)
    omega
/-! by how far ends lie apart -/
noncomputable def lvb (n : Nat) (w : Nat → Nat → Nat) : Nat := @dite Nat (∃ v, LL n w v) (Classical.propDecidable _) (fun h => Classical.choose h) (fun _ => 0)
theorem lvb_ok {n : Nat} {w : Nat → Nat → Nat} (h : 1 ≤ n) : LL n w (lvb n w) := by
  unfold lvb
  have e : ∃ v, LL n w v := LL.ex h
  rw [dif_pos e]
  exact Classical.choose_spec e
noncomputable def frb (n : Nat) (w : Nat → Nat → Nat) : Nat → Nat := @dite (Nat → Nat) (∃ o, FRX n w (lvb n w) 0 (fun _ => 0) o) (Classical.propDecidable _) (fun h => Classical.choose h) (fun _ => fun _ => 0)
theorem frb_ok {n : Nat} {w : Nat → Nat → Nat} (hw : WF n w) (hn : n < 10) (h : 1 ≤ n) : FRX n w (lvb n w) 0 (fun _ => 0) (frb n w) := by
  unfold frb
  have e : ∃ o, FRX n w (lvb n w) 0 (fun _ => 0) o := FRX.ex hw hn (lvb_ok h).2.2
  rw [dif_pos e]
  exact Classical.choose_spec e
noncomputable def lsv (n : Nat) (w : Nat → Nat → Nat) (m : Nat) : Nat := if m = 2 then lvb n w else R1 n w m 0
noncomputable def rwc (n : Nat) (w : Nat → Nat → Nat) (m : Nat) : Nat := if m = 2 then bct n w (lvb n w) n 0 (fun _ => 0) else C1 n w m 0
noncomputable def fpt (n : Nat) (w : Nat → Nat → Nat) (m : Nat) : Nat := if m = 2 then bld n w (lvb n w) 0 (fun _ => 0) else L1 n w m 0
noncomputable def frw (n : Nat) (w : Nat → Nat → Nat) (m : Nat) : Nat → Nat := if m = 2 then frb n w else brw (L1 n w m)
theorem pfx_of {n : Nat} {o : Nat → Nat} (h : ∀ i, i < n → o i < n ∧ (amk o i).testBit (o i) = false) : ∀ {i : Nat}, i ≤ n → PFX n i o
  | 0, _ => pfx_0
  | i + 1, hi => by
    obtain ⟨a1, a2⟩ := h i (by omega)
    have h1 := (pfx_of h (i := i) (by omega)).on a1 a2
    have : upP o i (o i) = o := funext (fun j => by
      by_cases q : j = i
      · subst q; exact upP_i
      · exact upP_n q)
    rw [this] at h1
    exact h1
theorem frw_pfx {n m : Nat} {w : Nat → Nat → Nat} (hw : WF n w) (hn : n < 10) (h1 : 1 ≤ n) : PFX n n (frw n w m) := by
  unfold frw
  by_cases c : m = 2
  · rw [if_pos c]
    exact (frb_ok hw hn h1).pfx (Nat.le_refl _)
  · rw [if_neg c]
    refine pfx_of (fun i hi => ?_) (Nat.le_refl _)
    have := (b1_ok (m := m) hw hn).1 i hi
    exact ⟨this.1, this.2.1⟩
/-- what is found at z is right -/
def FDZ (z n : Nat) (w : Nat → Nat → Nat) (m : Nat) (t : St) : Prop := t z 1 = nI (lsv n w m) ∧ t z 2 = nI (rwc n w m) ∧ t z 3 = nI (fpt n w m) ∧ ∀ i, i < n → t (z + 1) i = nI (frw n w m i)
theorem FDZ.fr {z n m : Nat} {w : Nat → Nat → Nat} {t u : St} (h : FDZ z n w m t) (e1 : ∀ i, i ≠ 0 → u z i = t z i) (e2 : u (z + 1) = t (z + 1)) : FDZ z n w m u := by
  obtain ⟨a, b, c, d⟩ := h
  refine ⟨by rw [e1 1 (by decide)]; exact a, by rw [e1 2 (by decide)]; exact b, by rw [e1 3 (by decide)]; exact c, fun i hi => by rw [e2]; exact d i hi⟩
/-- what is kept of a slot's net -/
def FI (F : Nat) (t : St) : Prop := ∃ n l w, GN n l w ∧ CN (F + 2) n l w t ∧ ∀ m, m < 7 → t (F + 6 + 2 * m) 0 ≠ 0 → (1 ≤ n ∧ FDZ (F + 6 + 2 * m) n w m t)
def BI (t : St) : Prop := ∃ n l w, GN n l w ∧ CN 91 n l w t ∧ MI n w t
theorem FI.fr {F : Nat} {t u : St} (h : FI F t) (e : ∀ c, F + 2 ≤ c → c < F + 20 → u c = t c) : FI F u := by
  obtain ⟨n, l, w, h1, h2, h3⟩ := h
  refine ⟨n, l, w, h1, h2.fr (e _ (by omega) (by omega)) (e _ (by omega) (by omega)) (e _ (by omega) (by omega)), fun m hm h0 => ?_⟩
  rw [e _ (by omega) (by omega)] at h0
  exact ⟨(h3 m hm h0).1, (h3 m hm h0).2.fr (fun i _ => by rw [e _ (by omega) (by omega)]) (e _ (by omega) (by omega))⟩
theorem BI.fr {t u : St} (h : BI t) (e : ∀ c, 91 ≤ c → c < 98 → u c = t c) : BI u := by
  obtain ⟨n, l, w, h1, h2, h3⟩ := h
  exact ⟨n, l, w, h1, h2.fr (e _ (by omega) (by omega)) (e _ (by omega) (by omega)) (e _ (by omega) (by omega)), h3.fr (e _ (by omega) (by omega)) (e _ (by omega) (by omega))⟩
theorem el11 {s : Nat} (hs : s < 3) : el 11 (nI s) = 16 + 24 * s := by
  rcases (show s = 0 ∨ s = 1 ∨ s = 2 by omega) with rfl | rfl | rfl <;> decide +kernel
theorem fs_sl {s : Nat} (hs : s < 3) : findsAt (16 + 24 * s) = true := by
  rcases (show s = 0 ∨ s = 1 ∨ s = 2 by omega) with rfl | rfl | rfl <;> decide +kernel
theorem el_fm {x m : Nat} (hx : findsAt x = true) (hm : m < 7) : el (x + 1) (nI m) = x + 6 + 2 * m := by
  unfold el
  rw [findsAt_1 hx, nI_cl (by omega)]
  rcases (show m = 0 ∨ m = 1 ∨ m = 2 ∨ m = 3 ∨ m = 4 ∨ m = 5 ∨ m = 6 by omega) with rfl | rfl | rfl | rfl | rfl | rfl | rfl <;> rfl
theorem e_turnTo3 {F y n l : Nat} {w : Nat → Nat → Nat} {t : St} (gF : findsAt F = true) (h : CN y n l w t) (gy : netAt y = true) (hd : F + 20 ≤ y ∨ y + 3 < F + 2) (G : GN n l w) (hF : FI F t) : Ok (FX3_turnTo F y t) (fun _ u => CN (F + 2) n l w u ∧ (∀ m, m < 7 → u (F + 6 + 2 * m) 0 ≠ 0 → (1 ≤ n ∧ FDZ (F + 6 + 2 * m) n w m u)) ∧ ∀ c, (c < F + 2 ∨ F + 20 ≤ c) → u c = t c) := by
  obtain ⟨n', l', w', G', h', hk⟩ := hF
  have gN := (finds_pl gF).1
  unfold FX3_turnTo
  refine Ok.ckT gF (Ok.ckT gy (Ok.ckT gN (Ok.bd (fun r u => t = u ∧ ((r = 1 ∧ n' = n ∧ w' = w) ∨ r = 0)) (e_sameLines h' h gN gy G' G (fun a b => ⟨rfl, Or.inl ⟨rfl, a, b⟩⟩) (fun _ => ⟨rfl, Or.inr rfl⟩)) ?_)))
  rintro r _ ⟨rfl, ⟨rfl, rfl, rfl⟩ | rfl⟩
  · refine Ok.ifF (by decide) (Ok.ret ⟨?_, hk, fun _ _ => rfl⟩)
    have : l' = l := by have := G.2.2; have := G'.2.2; omega
    subst this
    exact h'
  · refine Ok.ifT rfl (Ok.ckT gN (Ok.bd _ (e_copyFrom gN gy (by omega)) ?_))
    rintro _ t1 ⟨f1, a0, a1, a2, -, a3⟩
    have h1 : CN (F + 2) n l w t1 := h.cp a0 a1 a2 a3
    refine Ok.bd (fun _ u => (∀ c, (c < F + 6 ∨ F + 20 ≤ c) → u c = t1 c) ∧ ∀ m, m < 7 → u (F + 6 + 2 * m) 0 = 0) ?_ ?_
    · refine Ok.count 7 (fun j c s => c = nI j ∧ (∀ c, (c < F + 6 ∨ F + 20 ≤ c) → s c = t1 c) ∧ ∀ m, m < j → s (F + 6 + 2 * m) 0 = 0) ?_ ?_ (Nat.zero_le _) ⟨rfl, fun _ _ => rfl, fun m hm => by omega⟩
      · rintro j c s hj ⟨rfl, sf, s0⟩
        unfold SX3_turnTo_22
        rw [el_fm gF hj]
        refine Ok.ifF (by rw [li_7, nI_leP (by omega) (by omega)]; omega) (Ok.ckT (inb_n hj (by omega)) (Ok.ckT ((finds_pl gF).2 j hj) (OkwrE (Ok.ret ⟨nI_1 j, fun c hc => by rw [wr_off c (by omega)]; exact sf c hc, fun m hm => ?_⟩))))
        by_cases e : m = j
        · subst e; rw [wrs]
        · rw [wrf (by omega)]; exact s0 m (by omega)
      · rintro c s ⟨rfl, sf, s0⟩
        unfold SX3_turnTo_22
        exact Ok.ifT (by rw [li_7, nI_leP (by omega) (by omega)]; omega) (Ok.ret ⟨sf, s0⟩)
    · rintro _ u ⟨uf, u0⟩
      exact Ok.ret ⟨h1.fr (uf _ (by omega)) (uf _ (by omega)) (uf _ (by omega)), fun m hm q => absurd (u0 m hm) q, fun c hc => by rw [uf c (by omega)]; exact f1 c (by omega)⟩
/-- what findingOf may change -/
def FF (s : Nat) (t u : St) : Prop := ∀ c, (c < 16 + 24 * s ∨ 36 + 24 * s ≤ c) → (c < 84 ∨ 98 ≤ c) → u c = t c
theorem r_findingOf {s m n l : Nat} {w : Nat → Nat → Nat} {t : St} (hs : s < 3) (hm : m < 7) (h : CN (12 + 24 * s) n l w t) (G : GN n l w) (h1 : 1 ≤ n) (hF : FI (16 + 24 * s) t) (hB : BI t) : Pc (FX11_findingOf (nI s) (nI m) t) (fun r u => r = some (22 + 24 * s + 2 * m) ∧ FDZ (22 + 24 * s + 2 * m) n w m u ∧ FI (16 + 24 * s) u ∧ BI u ∧ FF s t u) := by
  obtain ⟨hn, hw, hl⟩ := id G
  have gx := n_sl hs
  have gF := fs_sl hs
  unfold FX11_findingOf
  refine Pc.bq (g_netIn hs hn h.1) ?_
  rw [if_neg (c := n = 0) (by omega)]
  show Pc (chk (netAt (12 + 24 * s)) _) _
  rw [el11 hs, el_fm gF hm, show 16 + 24 * s + 6 + 2 * m = 22 + 24 * s + 2 * m by omega]
  refine Pc.ck (fun _ => Pc.bq (g_ms hm) (Pc.ifF (by decide) (Pc.ck (fun _ => Pc.ck (fun _ => Pc.bd _ (e_turnTo3 gF h gx (by omega) G hF).pc ?_)))))
  rintro _ t1 ⟨c1, k1, f1⟩
  have hx1 : CN (12 + 24 * s) n l w t1 := h.fr (f1 _ (by omega)) (f1 _ (by omega)) (f1 _ (by omega))
  have hB1 : BI t1 := hB.fr (fun c _ _ => f1 c (by omega))
  refine Pc.ck (fun _ => Pc.ck (fun _ => Pc.ck (fun _ => Pc.ck (fun gz => Pc.rdE rfl ?_))))
  have key : ∀ u, BI u → CN (16 + 24 * s + 2) n l w u → (∀ c, (c < 16 + 24 * s ∨ 36 + 24 * s ≤ c) → (c < 84 ∨ 98 ≤ c) → u c = t1 c) → (∀ c, 16 + 24 * s + 2 ≤ c → c < 36 + 24 * s → c ≠ 22 + 24 * s + 2 * m → c ≠ 22 + 24 * s + 2 * m + 1 → u c = t1 c) → FDZ (22 + 24 * s + 2 * m) n w m u → FDZ (22 + 24 * s + 2 * m) n w m u ∧ FI (16 + 24 * s) u ∧ BI u ∧ FF s t u := by
    intro u uB uc uf ug ud
    refine ⟨ud, ⟨n, l, w, G, uc, fun m' hm' h0 => ⟨h1, ?_⟩⟩, uB, fun c hc hc2 => by rw [uf c hc hc2]; exact f1 c (by omega)⟩
    by_cases e : m' = m
    · subst e
      rw [show 16 + 24 * s + 6 + 2 * m' = 22 + 24 * s + 2 * m' by omega]
      exact ud
    · have e1 : u (16 + 24 * s + 6 + 2 * m') = t1 (16 + 24 * s + 6 + 2 * m') := ug _ (by omega) (by omega) (by omega) (by omega)
      have e2 : u (16 + 24 * s + 6 + 2 * m' + 1) = t1 (16 + 24 * s + 6 + 2 * m' + 1) := ug _ (by omega) (by omega) (by omega) (by omega)
      rw [e1] at h0
      exact (k1 m' hm' h0).2.fr (fun i _ => by rw [e1]) e2
  refine Pc.bd (fun _ u => FDZ (22 + 24 * s + 2 * m) n w m u ∧ FI (16 + 24 * s) u ∧ BI u ∧ FF s t u) ?_ (fun _ u hu => Pc.ret ⟨rfl, hu⟩)
  refine Pc.ite (fun c => Pc.bd (fun _ u => FDZ (22 + 24 * s + 2 * m) n w m u ∧ BI u ∧ (∀ c, c ≠ 22 + 24 * s + 2 * m → c ≠ 22 + 24 * s + 2 * m + 1 → (c < 84 ∨ 98 ≤ c) → u c = t1 c)) ?_ ?_) (fun c => Pc.ret ?_)
  · rw [li_2]
    refine Pc.cv (nI_lit hm (by omega)) (Pc.ite (fun c2 => ?_) (fun c2 => ?_))
    · subst c2
      obtain ⟨n', l', w', G', h', hM⟩ := id hB1
      refine Pc.bd _ (r_findB hx1 gx (by omega) gz (by omega) G h1 h' G' hM (lvb_ok h1) (frb_ok hw hn h1)) ?_
      rintro _ u ⟨u1, u2, u3, u4, u5, u6, u7, u8⟩
      refine Pc.ret ⟨⟨u5, u6, u7, u8⟩, ⟨n, l, w, G, u1, u2⟩, fun c a b d => u3 c (by omega) a b⟩
    · refine Pc.bd _ (e_find hx1 gx gz hw hn hm c2 (by omega) (by omega) (R := R1 n w m) (C := C1 n w m) (fun S => rfl) (fun S => rfl) (b1_ok hw hn).1).pc ?_
      rintro _ u ⟨u1, u2, u3, u4, u5, u6⟩
      refine Pc.ret ⟨⟨?_, ?_, ?_, ?_⟩, hB1.fr (fun c a b => u1 c (by omega) (by omega) (by omega) (by omega) (by omega) (by omega)), fun c a b d => u1 c (by omega) (by omega) (by omega) (by omega) a b⟩
      · unfold lsv; rw [if_neg c2]; exact u3
      · unfold rwc; rw [if_neg c2]; exact u4
      · unfold fpt; rw [if_neg c2]; exact u5
      · unfold frw; rw [if_neg c2]; exact u6
  · rintro _ u ⟨u1, u2, u3⟩
    refine PcwrE (Pc.ret (key _ ?_ ?_ ?_ ?_ ?_))
    · exact u2.fr (fun c a b => wr_off c (by omega))
    · exact c1.fr (by rw [wr_off _ (by omega), u3 _ (by omega) (by omega) (by omega)]) (by rw [wr_off _ (by omega), u3 _ (by omega) (by omega) (by omega)]) (by rw [wr_off _ (by omega), u3 _ (by omega) (by omega) (by omega)])
    · intro c a b
      rw [wr_off c (by omega)]; exact u3 c (by omega) (by omega) b
    · intro c a b d e
      rw [wr_off c d]; exact u3 c d e (by omega)
    · exact u1.fr (fun i hi => wrn hi) (wr_off _ (by omega))
  · exact key t1 hB1 c1 (fun _ _ _ => rfl) (fun _ _ _ _ _ => rfl) (by have := (k1 m hm (by rw [show 16 + 24 * s + 6 + 2 * m = 22 + 24 * s + 2 * m by omega]; exact c)).2; rw [show 16 + 24 * s + 6 + 2 * m = 22 + 24 * s + 2 * m by omega] at this; exact this)
theorem g_findingOf0 {a b : Int32} {t : St} (h : ¬ IsR 3 a) : FX11_findingOf a b t = some (none, t) := by
  refine Ok.eq ?_
  unfold FX11_findingOf
  exact Ok.bq (g_netIn0 h) (Ok.ret ⟨rfl, rfl⟩)
theorem g_findingOfN {s : Nat} {b : Int32} {t : St} (hs : s < 3) (h : t (12 + 24 * s) 0 = nI 0) : FX11_findingOf (nI s) b t = some (none, t) := by
  refine Ok.eq ?_
  unfold FX11_findingOf
  exact Ok.bq (g_netIn hs (by omega) h) (Ok.ret ⟨rfl, rfl⟩)
theorem g_findingOfM {s n : Nat} {b : Int32} {t : St} (hs : s < 3) (hn : n < 10) (h : t (12 + 24 * s) 0 = nI n) (hb : ¬ IsR 7 b) : FX11_findingOf (nI s) b t = some (none, t) := by
  by_cases e : n = 0
  · subst e
    exact g_findingOfN hs h
  refine Ok.eq ?_
  unfold FX11_findingOf
  refine Ok.bq (g_netIn hs hn h) ?_
  rw [if_neg e]
  exact Ok.ckT (n_sl hs) (Ok.bq (g_ms0 hb) (Ok.ifT rfl (Ok.ret ⟨rfl, rfl⟩)))
