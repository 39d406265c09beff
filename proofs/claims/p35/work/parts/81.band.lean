section
/-! nets alike; the class finds by how far ends lie apart -/
def GN (n l : Nat) (w : Nat → Nat → Nat) : Prop := n < 10 ∧ WF n w ∧ 2 * l = dcn n w
theorem WF.ext {n : Nat} {w v : Nat → Nat → Nat} (hw : WF n w) (hv : WF n v) (h : ∀ a b, a < n → b < a → w a b = v a b) : w = v := by
  funext a b
  by_cases ha : a < n
  · by_cases hb : b < n
    · rcases Nat.lt_trichotomy a b with q | q | q
      · rw [hw.2.1 a b, hv.2.1 a b]; exact h b a hb q
      · subst q; rw [hw.2.2.1, hv.2.2.1]
      · exact h a b ha q
    · rw [hw.r (by omega), hv.r (by omega)]
  · rw [hw.2.2.2 a b (by omega), hv.2.2.2 a b (by omega)]
theorem e_sameLines {x y n l n' l' : Nat} {w w' : Nat → Nat → Nat} {t : St} (h : CN x n l w t) (h' : CN y n' l' w' t) (gx : netAt x = true) (gy : netAt y = true) (G : GN n l w) (G' : GN n' l' w') {Q : Int32 → St → Prop} (q1 : n = n' → w = w' → Q 1 t) (q0 : ¬ (n = n' ∧ w = w') → Q 0 t) : Ok (FX5_sameLines x y t) Q := by
  obtain ⟨hn, hw, hl⟩ := G
  obtain ⟨hn', hw', hl'⟩ := G'
  have d1 := dcn_le (w := w) hn
  have d2 := dcn_le (w := w') hn'
  unfold FX5_sameLines
  refine Ok.ckT gx (Ok.ckT gy (Ok.rdE h.1 (Ok.rdE h'.1 (Ok.cv (nI_eqP (by omega) (by omega)) (Ok.ite (fun c1 => ?_) (fun c1 => Ok.ret (q0 (fun q => c1 q.1))))))))
  subst c1
  refine Ok.rdE h.2.1 (Ok.rdE h'.2.1 (Ok.cv (nI_eqP (by omega) (by omega)) (Ok.ite (fun c2 => ?_) (fun c2 => Ok.ret (q0 (fun q => c2 ?_))))))
  · refine Ok.bd (fun e u => t = u ∧ Sum.elim (fun r => r = (0 : Int32) ∧ w ≠ w') (fun _ => w = w') e) ?_ ?_
    · refine Ok.count n (fun j c s => t = s ∧ c = nI j ∧ ∀ a b, a < j → b < a → w a b = w' a b) ?_ ?_ (Nat.zero_le _) ⟨rfl, rfl, fun a b ha => by omega⟩
      · rintro j c s hj ⟨rfl, rfl, hI⟩
        unfold SX5_sameLines_26
        refine Ok.rdE h.1 (Ok.ifF (by rw [nI_leP (by omega) (by omega)]; omega) ?_)
        refine Ok.bd (fun e u => t = u ∧ Sum.elim (fun r => r = (0 : Int32) ∧ w ≠ w') (fun _ => ∀ b, b < j → w j b = w' j b) e) ?_ ?_
        · refine Ok.count j (fun i c s => t = s ∧ c = nI i ∧ ∀ b, b < i → w j b = w' j b) ?_ ?_ (Nat.zero_le _) ⟨rfl, rfl, fun b hb => by omega⟩
          · rintro i c s hi ⟨rfl, rfl, hJ⟩
            unfold SX5_sameLines_36
            have a1 := hw.1 j i
            have a2 := hw'.1 j i
            refine Ok.ifF (by rw [nI_leP (by omega) (by omega)]; omega) (Ok.bq (q_weightOf h gx (by omega) (by omega)) (Ok.bq (q_weightOf h' gy (by omega) (by omega)) (Ok.cv (nI_eqP (by omega) (by omega)) (Ok.ite (fun c3 => Ok.ret ⟨rfl, nI_1 i, fun b hb => ?_⟩) (fun c3 => Ok.ret ⟨rfl, rfl, fun q => c3 (by rw [q])⟩)))))
            by_cases e : b = i
            · rw [e]; exact c3
            · exact hJ b (by omega)
          · rintro c s ⟨rfl, rfl, hJ⟩
            unfold SX5_sameLines_36
            exact Ok.ifT (by rw [nI_leP (by omega) (by omega)]; omega) (Ok.ret ⟨rfl, hJ⟩)
        · rintro (e | e) _ ⟨rfl, he⟩
          · exact Ok.ret ⟨rfl, he⟩
          · refine Ok.ret ⟨rfl, nI_1 j, fun a b ha hb => ?_⟩
            by_cases q : a = j
            · subst q; exact he b hb
            · exact hI a b (by omega) hb
      · rintro c s ⟨rfl, rfl, hI⟩
        unfold SX5_sameLines_26
        exact Ok.rdE h.1 (Ok.ifT (by rw [nI_leP (by omega) (by omega)]; omega) (Ok.ret ⟨rfl, hw.ext hw' hI⟩))
    · rintro (e | e) _ ⟨rfl, he⟩
      · refine Ok.ret ?_
        rw [he.1]
        exact q0 (fun q => he.2 q.2)
      · exact Ok.ret (q1 rfl he)
  · have := q.2
    subst this
    omega
theorem CN.cp {x y n l : Nat} {w : Nat → Nat → Nat} {t u : St} (h : CN y n l w t) (e0 : u x 0 = t y 0) (e1 : u x 1 = t y 1) (e2 : ∀ i, i < 9 → u (x + 1) i = t (y + 1) i) (e3 : ∀ i, i < 81 → u (x + 3) i = t (y + 3) i) : CN x n l w u := by
  refine ⟨e0.trans h.1, e1.trans h.2.1, fun a ha => (e2 a ha).trans (h.2.2.1 a ha), fun a b ha hb => (e3 _ (by omega)).trans (h.2.2.2 a b ha hb)⟩
theorem n_91 : netAt 91 = true := by decide +kernel
theorem il_96 : ilen 96 = 4096 := by decide +kernel
theorem r_turnTo {x n l n' l' : Nat} {w w' : Nat → Nat → Nat} {t : St} (h : CN x n l w t) (gx : netAt x = true) (hx : x + 3 < 91 ∨ 94 < x) (G : GN n l w) (h' : CN 91 n' l' w' t) (G' : GN n' l' w') (hM : MI n' w' t) : Ok (FX0_turnTo x t) (fun _ u => CN 91 n l w u ∧ MI n w u ∧ ∀ c, (c < 91 ∨ 97 < c) → u c = t c) := by
  unfold FX0_turnTo
  refine Ok.ckT gx (Ok.bd (fun r u => t = u ∧ ((r = 1 ∧ n = n' ∧ w = w') ∨ r = 0)) (e_sameLines h' h n_91 gx G' G (fun a b => ⟨rfl, Or.inl ⟨rfl, a.symm, b.symm⟩⟩) (fun _ => ⟨rfl, Or.inr rfl⟩)) ?_)
  rintro r _ ⟨rfl, ⟨rfl, rfl, rfl⟩ | rfl⟩
  · refine Ok.ifF (by decide) (Ok.ret ⟨?_, hM, fun _ _ => rfl⟩)
    have : l = l' := by have := G.2.2; have := G'.2.2; omega
    subst this
    exact h'
  · refine Ok.ifT rfl (Ok.bd _ (e_copyFrom n_91 gx (by omega)) ?_)
    rintro _ t1 ⟨f1, a0, a1, a2, -, a3⟩
    have h1 : CN 91 n l w t1 := h.cp a0 a1 a2 a3
    refine Ok.bd _ (e_fill il_96 (by omega) (by omega)) ?_
    rintro _ t2 ⟨f2, b2, -⟩
    refine Ok.ret ⟨h1.fr (f2 _ (by decide)) (f2 _ (by decide)) (f2 _ (by decide)), ?_, fun c hc => by rw [f2 c (by omega)]; exact f1 c (by omega)⟩
    intro cell i P L hc hi hP hpre hL hno e
    rw [b2 cell hc, li_m1] at e
    have hk := wky_lt (w := w) G.1 hL hP
    have := nI_inj e (by omega) (by omega)
    omega
/-! the limit: from n - 1 on every row is kept -/
theorem canb_T {w : Nat → Nat → Nat} {L i p : Nat} {P : Nat → Nat} (h : i ≤ L) : canb w L P i p = true := decide_eq_true (fun k hk hkL => by omega)
theorem bct_cap {n : Nat} {w : Nat → Nat → Nat} {L M : Nat} (hL : n - 1 ≤ L) (hM : n - 1 ≤ M) : ∀ {k i : Nat} {P : Nat → Nat}, k + i = n → bct n w L k i P = bct n w M k i P
  | 0, _, _, _ => rfl
  | k + 1, i, P, hk => by
    show sm n _ = sm n _
    refine sm_congr (fun p _ => ?_)
    rw [canb_T (by omega), canb_T (by omega), bct_cap hL hM (k := k) (i := i + 1) (by omega)]
theorem bct_pos {n : Nat} {w : Nat → Nat → Nat} {L : Nat} (hL : n - 1 ≤ L) : ∀ {k i : Nat} {P : Nat → Nat}, k + i = n → PFX n i P → 0 < bct n w L k i P
  | 0, _, _, _, _ => Nat.one_pos
  | k + 1, i, P, hk, hP => by
    obtain ⟨p, hp, hb⟩ := no_bit (S := amk P i) (n := n) (by rw [hP.2.2]; omega)
    refine sm_pos.mpr ⟨p, hp, ?_⟩
    rw [if_pos (by rw [hb, canb_T (by omega)]; rfl)]
    exact bct_pos hL (by omega) (hP.on hp hb)
theorem bct_eq {n : Nat} {w : Nat → Nat → Nat} {L k i : Nat} {P Q : Nat → Nat} (hw : WF n w) (hn : n < 10) (hk : k + i = n) (h : ∀ j, j < i → P j = Q j) : bct n w L k i P = bct n w L k i Q := by
  have e := amk_eq h
  exact bct_ag hw hn hk e (fun j hj _ => by unfold mis; rw [e, h j hj])
/-- v is the least limit that some row keeps -/
def LL (n : Nat) (w : Nat → Nat → Nat) (v : Nat) : Prop := v ≤ n - 1 ∧ (∀ L, L < v → bct n w L n 0 (fun _ => 0) = 0) ∧ 0 < bct n w v n 0 (fun _ => 0)
theorem LL.uq {n : Nat} {w : Nat → Nat → Nat} {v u : Nat} (h : LL n w v) (g : LL n w u) : v = u := by
  rcases Nat.lt_trichotomy v u with q | q | q
  · have := g.2.1 v q; have := h.2.2; omega
  · exact q
  · have := h.2.1 u q; have := g.2.2; omega
theorem LLM.ll {n : Nat} {w : Nat → Nat → Nat} {v : Nat} (h : LLM n w (n - 1) v) : LL n w v := by
  refine ⟨h.1, h.2.1, ?_⟩
  by_cases e : v < n - 1
  · exact h.2.2 e
  · exact bct_pos (by omega) (by omega) pfx_0
theorem LL.ex {n : Nat} {w : Nat → Nat → Nat} (h : 1 ≤ n) : ∃ v, LL n w v := by
  have key : ∀ k, k ≤ n - 1 → (∀ L, L < k → bct n w L n 0 (fun _ => 0) = 0) ∨ ∃ v, LL n w v := by
    intro k
    induction k with
    | zero => intro _; exact Or.inl (fun L hL => by omega)
    | succ k ih =>
      intro hk
      rcases ih (by omega) with a | a
      · by_cases e : bct n w k n 0 (fun _ => 0) = 0
        · refine Or.inl (fun L hL => ?_)
          by_cases q : L = k
          · rw [q]; exact e
          · exact a L (by omega)
        · exact Or.inr ⟨k, by omega, a, by omega⟩
      · exact Or.inr a
  rcases key (n - 1) (Nat.le_refl _) with a | a
  · exact ⟨n - 1, Nat.le_refl _, a, bct_pos (Nat.le_refl _) (by omega) pfx_0⟩
  · exact a
/-- o goes on from the first i points of P as the first row that keeps L -/
def FRX (n : Nat) (w : Nat → Nat → Nat) (L i : Nat) (P o : Nat → Nat) : Prop := (∀ j, j < i → o j = P j) ∧ ∀ j, i ≤ j → j < n → o j < n ∧ (amk o j).testBit (o j) = false ∧ 0 < bct n w L (n - (j + 1)) (j + 1) o ∧ ∀ q, q < o j → ¬ ((amk o j).testBit q = false ∧ 0 < bct n w L (n - (j + 1)) (j + 1) (upP o j q))
theorem FRX.uq {n : Nat} {w : Nat → Nat → Nat} {L : Nat} {P o u : Nat → Nat} (hw : WF n w) (hn : n < 10) (h : FRX n w L 0 P o) (g : FRX n w L 0 P u) : ∀ j, j < n → o j = u j := by
  intro j
  induction j using Nat.strongRecOn with
  | ind j ih =>
    intro hj
    have hlt : ∀ k, k < j → o k = u k := fun k hk => ih k hk (by omega)
    have ea := amk_eq hlt
    obtain ⟨a1, a2, a3, a4⟩ := h.2 j (Nat.zero_le _) hj
    obtain ⟨b1, b2, b3, b4⟩ := g.2 j (Nat.zero_le _) hj
    have key : ∀ (o u : Nat → Nat), (∀ k, k < j → o k = u k) → 0 < bct n w L (n - (j + 1)) (j + 1) u → 0 < bct n w L (n - (j + 1)) (j + 1) (upP o j (u j)) := by
      intro o u hou hp
      rw [bct_eq (Q := u) hw hn (by omega) (fun k hk => ?_)]
      · exact hp
      · by_cases e : k = j
        · subst e; rw [upP_i]
        · rw [upP_n e]; exact hou k (by omega)
    rcases Nat.lt_trichotomy (o j) (u j) with q | q | q
    · exact absurd ⟨by rw [← ea]; exact a2, key u o (fun k hk => (hlt k hk).symm) a3⟩ (b4 (o j) q)
    · exact q
    · exact absurd ⟨by rw [ea]; exact b2, key o u hlt b3⟩ (a4 (u j) q)
theorem bld_b {n : Nat} {w : Nat → Nat → Nat} {L i p : Nat} {P : Nat → Nat} (hp : p < n) : (bld n w L i P).testBit p = true ↔ (amk P i).testBit p = false ∧ 0 < bct n w L (n - (i + 1)) (i + 1) (upP P i p) := by
  unfold bld
  rw [mkm_bit]
  simp only [hp, decide_true, Bool.true_and, Bool.and_eq_true, Bool.not_eq_true', decide_eq_true_eq]
theorem bld_lt {n : Nat} {w : Nat → Nat → Nat} {L i : Nat} {P : Nat → Nat} (hn : n < 10) : bld n w L i P < 512 := Nat.lt_of_lt_of_le mkm_lt (pow9 (by omega))
/-- where some row goes on, none that must have come waits -/
theorem mis_0 {n : Nat} {w : Nat → Nat → Nat} {L i : Nat} {P : Nat → Nat} (hw : WF n w) (hn : n < 10) (hi : i ≤ n) (hP : PFX n i P) (hp : 0 < bct n w L (n - i) i P) : ∀ k, k < i → k + L < i → mis w P i k = 0 := by
  intro k hk hkL
  have h1 := bct_room hw hn (by omega) hP.2.1 hP.2.2 hp k hk
  have h2 : cnt (dal w P i (k + 1)) 9 = 0 := by omega
  have h3 := cnt9_0 _ dal_lt h2
  apply Nat.eq_of_testBit_eq
  intro b
  rw [Nat.zero_testBit]
  cases e : (mis w P i k).testBit b
  · rfl
  · have := dal_b.mpr ⟨k, Nat.lt_succ_self k, e⟩
    rw [h3, Nat.zero_testBit] at this
    cases this
theorem FRX.ex {n : Nat} {w : Nat → Nat → Nat} {L : Nat} (hw : WF n w) (hn : n < 10) (h : 0 < bct n w L n 0 (fun _ => 0)) : ∃ o, FRX n w L 0 (fun _ => 0) o := by
  have key : ∀ i, i ≤ n → ∃ P : Nat → Nat, PFX n i P ∧ 0 < bct n w L (n - i) i P ∧ ∀ j, j < i → P j < n ∧ (amk P j).testBit (P j) = false ∧ 0 < bct n w L (n - (j + 1)) (j + 1) P ∧ ∀ q, q < P j → ¬ ((amk P j).testBit q = false ∧ 0 < bct n w L (n - (j + 1)) (j + 1) (upP P j q)) := by
    intro i
    induction i with
    | zero => intro _; exact ⟨fun _ => 0, pfx_0, by rw [Nat.sub_zero]; exact h, fun j hj => by omega⟩
    | succ i ih =>
      intro hi
      obtain ⟨P, hP, hb, hI⟩ := ih (by omega)
      have hmis := mis_0 hw hn (by omega) hP hb
      have hex : bld n w L i P ≠ 0 := by
        intro q
        rw [show n - i = (n - (i + 1)) + 1 by omega] at hb
        obtain ⟨p, hp, hpp⟩ := sm_pos.mp hb
        by_cases c : (!(amk P i).testBit p && canb w L P i p) = true
        · rw [if_pos c] at hpp
          simp only [Bool.and_eq_true, Bool.not_eq_true'] at c
          have := (bld_b (w := w) (L := L) (P := P) (i := i) hp).mpr ⟨c.1, hpp⟩
          rw [q, Nat.zero_testBit] at this
          cases this
        · rw [if_neg c] at hpp
          omega
      obtain ⟨p, hp9, hpb, hpl⟩ := has_low (bld_lt hn) hex
      have hpn : p < n := by
        refine Decidable.byContradiction (fun q => ?_)
        rw [lt_pow_bit (a := bld n w L i P) (n := n) (k := p) mkm_lt (by omega)] at hpb
        cases hpb
      obtain ⟨b1, b2⟩ := (bld_b hpn).mp hpb
      refine ⟨upP P i p, hP.on hpn b1, b2, fun j hj => ?_⟩
      by_cases e : j = i
      · subst e
        have ea : amk (upP P j p) j = amk P j := amk_eq (fun k hk => upP_n (by omega))
        rw [upP_i, ea]
        refine ⟨hpn, b1, b2, fun q hq hh => ?_⟩
        have := (bld_b (n := n) (w := w) (L := L) (P := P) (i := j) (p := q) (by omega)).mpr ⟨hh.1, ?_⟩
        · rw [hpl q hq] at this
          cases this
        · rw [bct_eq (Q := upP (upP P j p) j q) hw hn (by omega) (fun k hk => ?_)]
          · exact hh.2
          · by_cases e2 : k = j
            · subst e2; rw [upP_i, upP_i]
            · rw [upP_n e2, upP_n e2, upP_n e2]
      · obtain ⟨a1, a2, a3, a4⟩ := hI j (by omega)
        have ea : amk (upP P i p) j = amk P j := amk_eq (fun k hk => upP_n (by omega))
        rw [upP_n e, ea]
        refine ⟨a1, a2, ?_, fun q hq hh => a4 q hq ⟨hh.1, ?_⟩⟩
        · rw [bct_eq (Q := P) hw hn (by omega) (fun k hk => upP_n (by omega))]
          exact a3
        · rw [bct_eq (Q := upP (upP P i p) j q) hw hn (by omega) (fun k hk => ?_)]
          · exact hh.2
          · by_cases e2 : k = j
            · subst e2; rw [upP_i, upP_i]
            · rw [upP_n e2, upP_n e2, upP_n (by omega)]
  obtain ⟨P, -, -, hI⟩ := key n (Nat.le_refl _)
  exact ⟨P, fun j hj => by omega, fun j _ hj => hI j hj⟩
theorem FRX.pfx {n : Nat} {w : Nat → Nat → Nat} {L : Nat} {P o : Nat → Nat} (h : FRX n w L 0 P o) : ∀ {i : Nat}, i ≤ n → PFX n i o
  | 0, _ => pfx_0
  | i + 1, hi => by
    obtain ⟨a1, a2, -, -⟩ := h.2 i (Nat.zero_le _) (by omega)
    have h1 := (h.pfx (i := i) (by omega)).on a1 a2
    have e : ∀ j, upP o i (o i) j = o j := fun j => by
      by_cases q : j = i
      · subst q; exact upP_i
      · exact upP_n q
    have : upP o i (o i) = o := funext e
    rw [this] at h1
    exact h1
theorem FRX.low {n : Nat} {w : Nat → Nat → Nat} {L : Nat} {P o : Nat → Nat} (hw : WF n w) (hn : n < 10) (h : FRX n w L 0 P o) {i : Nat} (hi : i < n) : (bld n w L i o).testBit (o i) = true ∧ ∀ q, q < o i → (bld n w L i o).testBit q = false := by
  obtain ⟨a1, a2, a3, a4⟩ := h.2 i (Nat.zero_le _) hi
  refine ⟨(bld_b a1).mpr ⟨a2, ?_⟩, fun q hq => bF (fun c => a4 q hq ((bld_b (by omega)).mp c))⟩
  rw [bct_eq (Q := o) hw hn (by omega) (fun k hk => ?_)]
  · exact a3
  · by_cases q : k = i
    · subst q; exact upP_i
    · exact upP_n q
theorem r_findB {x z n l n' l' v : Nat} {w w' : Nat → Nat → Nat} {o : Nat → Nat} {t : St} (h : CN x n l w t) (gx : netAt x = true) (hx : x + 3 < 91 ∨ 94 < x) (gz : findAt z = true) (hz : z + 1 < 91 ∨ 97 < z) (G : GN n l w) (h1 : 1 ≤ n) (h' : CN 91 n' l' w' t) (G' : GN n' l' w') (hM : MI n' w' t) (hv : LL n w v) (ho : FRX n w v 0 (fun _ => 0) o) : Pc (FX0_find x z t) (fun _ u => CN 91 n l w u ∧ MI n w u ∧ (∀ c, (c < 91 ∨ 97 < c) → c ≠ z → c ≠ z + 1 → u c = t c) ∧ u z 0 = t z 0 ∧ u z 1 = nI v ∧ u z 2 = nI (bct n w v n 0 (fun _ => 0)) ∧ u z 3 = nI (bld n w v 0 (fun _ => 0)) ∧ ∀ i, i < n → u (z + 1) i = nI (o i)) := by
  obtain ⟨hn, hw, hl⟩ := id G
  have v9 : v < 10 := by have := hv.1; omega
  unfold FX0_find
  refine Pc.ck (fun _ => Pc.ck (fun _ => Pc.bd _ (r_turnTo h gx hx G h' G' hM).pc ?_))
  rintro _ t1 ⟨c1, m1, f1⟩
  refine Pc.bd _ (r_leastLimit hw hn h1 c1 m1) ?_
  rintro _ t2 ⟨⟨v2, rfl, g2⟩, m2, f2⟩
  have := hv.uq g2.ll
  subst this
  have fz : ∀ {a i : Nat} {b : Int32} {s : St}, (a < 91 ∨ 97 < a) → MI n w s → CN 91 n l w s → CN 91 n l w (wr s a i b) ∧ MI n w (wr s a i b) := fun ha hm hc => ⟨hc.fr (wr_off _ (by omega)) (wr_off _ (by omega)) (wr_off _ (by omega)), hm.fr (wr_off _ (by omega)) (wr_off _ (by omega))⟩
  have c2 : CN 91 n l w t2 := c1.fr (f2 _ (by decide) (by decide) (by decide)) (f2 _ (by decide) (by decide) (by decide)) (f2 _ (by decide) (by decide) (by decide))
  refine PcwrE ?_
  obtain ⟨c3, m3⟩ := fz (a := z) (i := 1) (b := nI v) (by omega) m2 c2
  refine Pc.bd _ (r_rowsFrom hw hn 11 0 v (fun _ => 0) _ (Nat.zero_le _) pfx_0 pre_0 v9 c3 m3 (fun q hq => by omega) (by omega)) ?_
  rintro _ t4 ⟨rfl, m4, f4, -⟩
  have c4 : CN 91 n l w t4 := c3.fr (f4 _ (by decide) (by decide) (by decide)) (f4 _ (by decide) (by decide) (by decide)) (f4 _ (by decide) (by decide) (by decide))
  refine PcwrE ?_
  obtain ⟨c5, m5⟩ := fz (a := z) (i := 2) (b := nI (bct n w v (n - 0) 0 (fun _ => 0))) (by omega) m4 c4
  refine Pc.bd _ (r_leaders hw hn (i := 0) (P := fun _ => 0) (by omega) pfx_0 (fun k hk => by omega) v9 c5 m5 (fun q hq => by omega)) ?_
  rintro _ t6 ⟨rfl, m6, f6, -⟩
  have c6 : CN 91 n l w t6 := c5.fr (f6 _ (by decide) (by decide) (by decide)) (f6 _ (by decide) (by decide) (by decide)) (f6 _ (by decide) (by decide) (by decide))
  refine PcwrE ?_
  obtain ⟨c7, m7⟩ := fz (a := z) (i := 3) (b := nI (bld n w v 0 (fun _ => 0))) (by omega) m6 c6
  generalize e7 : wr t6 z 3 (nI (bld n w v 0 (fun _ => 0))) = t7 at c7 m7 ⊢
  refine Pc.bd (fun _ u => CN 91 n l w u ∧ MI n w u ∧ (∀ c, c ≠ 95 → c ≠ 96 → c ≠ 97 → c ≠ z + 1 → u c = t7 c) ∧ ∀ i, i < n → u (z + 1) i = nI (o i)) ?_ ?_
  · refine Pc.loop (fun d s => ∃ j, j ≤ n ∧ d = (nI (amk o j), nI j) ∧ CN 91 n l w s ∧ MI n w s ∧ (∀ c, c ≠ 95 → c ≠ 96 → c ≠ 97 → c ≠ z + 1 → s c = t7 c) ∧ (∀ i, i < j → s (z + 1) i = nI (o i)) ∧ ∀ i, i < j → s 95 i = nI (o i)) ?_ ⟨0, Nat.zero_le _, rfl, c7, m7, fun _ _ _ _ _ => rfl, fun i hi => by omega, fun i hi => by omega⟩
    rintro d s ⟨j, hj, rfl, sC, sM, sf, sz, s95⟩
    unfold SX0_find_43
    dsimp only
    refine Pc.rdE sC.1 (Pc.cv (nI_leP (by omega) (by omega)) (Pc.ite (fun c => Pc.ret ?_) (fun c => ?_)))
    · have : j = n := by omega
      subst this
      exact ⟨sC, sM, sf, sz⟩
    · have hjn : j < n := by omega
      obtain ⟨a1, a2, a3, -⟩ := ho.2 j (Nat.zero_le _) hjn
      have hPj := ho.pfx (i := j) (by omega)
      have hb0 : 0 < bct n w v (n - j) j o := by
        by_cases e0 : j = 0
        · subst e0
          rw [bct_eq (Q := fun _ => 0) hw hn (by omega) (fun k hk => by omega)]
          exact hv.2.2
        · obtain ⟨-, -, b3, -⟩ := ho.2 (j - 1) (Nat.zero_le _) (by omega)
          rw [show j - 1 + 1 = j by omega] at b3
          exact b3
      refine Pc.bd _ (r_leaders hw hn hjn hPj (mis_0 hw hn (by omega) hPj hb0) v9 sC sM s95) ?_
      rintro _ u ⟨rfl, uM, uf, up⟩
      obtain ⟨l1, l2⟩ := ho.low hw hn hjn
      refine Pc.bq (q_lowest (bld_lt hn) (by omega) l1 l2) (Pc.ck (fun _ => PcwrE (Pc.ck (fun _ => PcwrE (Pc.ret ⟨j + 1, by omega, ?_, ?_, ?_, ?_, ?_, ?_⟩)))))
      · rw [shl_1 (by omega), nI_or, nI_1]
        rfl
      · exact sC.fr (by rw [wr_off _ (by omega), wr_off _ (by omega), uf _ (by decide) (by decide) (by decide)]) (by rw [wr_off _ (by omega), wr_off _ (by omega), uf _ (by decide) (by decide) (by decide)]) (by rw [wr_off _ (by omega), wr_off _ (by omega), uf _ (by decide) (by decide) (by decide)])
      · exact uM.fr (by rw [wr_off _ (by omega), wr_off _ (by omega)]) (by rw [wr_off _ (by omega), wr_off _ (by omega)])
      · intro c k1 k2 k3 k4
        rw [wr_off c k4, wr_off c k1, uf c k1 k2 k3]
        exact sf c k1 k2 k3 k4
      · intro i hi
        rw [nI_cl (by omega)]
        by_cases e : i = j
        · subst e; rw [wrs]
        · rw [wrn e, wrf (by omega), uf _ (by omega) (by omega) (by omega)]
          exact sz i (by omega)
      · intro i hi
        rw [nI_cl (by omega), wrf (by omega)]
        by_cases e : i = j
        · subst e; rw [wrs]
        · rw [wrn e, up i (by omega)]
          exact s95 i (by omega)
  · rintro _ u ⟨uC, uM, uf, uz⟩
    have ez : u z = t7 z := uf z (by omega) (by omega) (by omega) (by omega)
    have e72 : t7 z 2 = t6 z 2 := by rw [← e7, wrn (by decide)]
    have e62 : t6 z = wr t4 z 2 (nI (bct n w v (n - 0) 0 (fun _ => 0))) z := f6 z (by omega) (by omega) (by omega)
    have e42 : t4 z = wr t2 z 1 (nI v) z := f4 z (by omega) (by omega) (by omega)
    have e22 : t2 z = t1 z := f2 z (by omega) (by omega) (by omega)
    refine Pc.ret ⟨uC, uM, fun c k1 k2 k3 => ?_, ?_, ?_, ?_, ?_, uz⟩
    · rw [uf c (by omega) (by omega) (by omega) k3, ← e7, wr_off c k2, f6 c (by omega) (by omega) (by omega), wr_off c k2, f4 c (by omega) (by omega) (by omega), wr_off c k2, f2 c (by omega) (by omega) (by omega)]
      exact f1 c k1
    · rw [ez, ← e7, wrn (by decide), e62, wrn (by decide), e42, wrn (by decide), e22, f1 z (by omega)]
    · rw [ez, ← e7, wrn (by decide), e62, wrn (by decide), e42, wrs]
    · rw [ez, ← e7, wrn (by decide), e62, wrs, Nat.sub_zero]
    · rw [ez, ← e7, wrs]
theorem r_rowsWithinB {x n l n' l' v : Nat} {w w' : Nat → Nat → Nat} {t : St} (h : CN x n l w t) (gx : netAt x = true) (hx : x + 3 < 91 ∨ 94 < x) (G : GN n l w) (h1 : 1 ≤ n) (h' : CN 91 n' l' w' t) (G' : GN n' l' w') (hM : MI n' w' t) (hv : v < 2147483648) : Pc (FX0_rowsWithin x (nI v) t) (fun r u => r = nI (bct n w v n 0 (fun _ => 0)) ∧ CN 91 n l w u ∧ MI n w u ∧ ∀ c, (c < 91 ∨ 97 < c) → u c = t c) := by
  obtain ⟨hn, hw, hl⟩ := id G
  unfold FX0_rowsWithin
  refine Pc.ck (fun _ => Pc.bd _ (r_turnTo h gx hx G h' G' hM).pc ?_)
  rintro _ t1 ⟨c1, m1, f1⟩
  refine Pc.rdE c1.1 ?_
  rw [nI_s1 h1, mnI_n hv (by omega)]
  have e1 : Nat.min v (n - 1) ≤ n - 1 := Nat.min_le_right _ _
  refine Pc.bd _ (r_rowsFrom hw hn 11 0 (Nat.min v (n - 1)) (fun _ => 0) _ (Nat.zero_le _) pfx_0 pre_0 (by omega) c1 m1 (fun q hq => by omega) (by omega)) ?_
  rintro _ t4 ⟨rfl, m4, f4, -⟩
  refine Pc.ret ⟨?_, c1.fr (f4 _ (by decide) (by decide) (by decide)) (f4 _ (by decide) (by decide) (by decide)) (f4 _ (by decide) (by decide) (by decide)), m4, fun c hc => by rw [f4 c (by omega) (by omega) (by omega)]; exact f1 c hc⟩
  rw [Nat.sub_zero]
  by_cases e : v ≤ n - 1
  · rw [show Nat.min v (n - 1) = v from Nat.min_eq_left e]
  · rw [show Nat.min v (n - 1) = n - 1 from Nat.min_eq_right (by omega)]
    rw [bct_cap (L := n - 1) (M := v) (Nat.le_refl _) (by omega) (by omega)]
end
section
/-! the reference goes through rows by how far ends lie apart -/
theorem ilk_all : ∀ i, i < 11 → ∀ L, L < 11 → ∀ k, k < 11 → decide (nI i - nI L ≤ nI k) = decide (i ≤ k + L) := by decide +kernel
theorem ilk {i L k : Nat} (hi : i < 11) (hL : L < 11) (hk : k < 11) : (nI i - nI L ≤ nI k) = (i ≤ k + L) := by
  have := ilk_all i hi L hL k hk
  exact propext ⟨fun h => of_decide_eq_true (by rw [← this]; exact decide_eq_true h), fun h => of_decide_eq_true (by rw [this]; exact decide_eq_true h)⟩
theorem q_can {s n i L p : Nat} {w : Nat → Nat → Nat} {P : Nat → Nat} {t : St} {rec : Int32 → Int32 → Int32 → Int32 → Int32 → St → Option ((Int32) × St)} {w3 w5 : Int32} (h : RN s n w t) (hs : s < 3) (hi : i ≤ 9) (hL : L < 11) (hp : p < 9) (hP : ∀ j, j < i → t 154 j = nI (P j)) (h9 : ∀ j, j < i → P j < 9) (hw : WF n w) {b : Bool} : wh (SX12_goesBand_107 rec (nI s) (nI i) w3 (nI L) w5 (nI p)) (nI b.toNat, (0 : Int32)) t = some (nI (b && canb w L P i p).toNat, t) := by
  refine Ok.eq ?_
  refine Ok.count (i - L) (fun j c s' => t = s' ∧ ∃ b' : Bool, c = (nI b'.toNat, nI j) ∧ (b' = true ↔ b = true ∧ ∀ k, k < j → w (P k) p = 0)) ?_ ?_ (Nat.zero_le _) ⟨rfl, b, rfl, ⟨fun q => ⟨q, fun k hk => by omega⟩, fun q => q.1⟩⟩
  · rintro j c s' hj ⟨rfl, b', rfl, hb⟩
    unfold SX12_goesBand_107
    dsimp only
    refine Ok.ifF (by rw [ilk (by omega) hL (by omega)]; omega) (Ok.cv b01 (Ok.ite (fun c => Ok.ret ⟨rfl, ?_⟩) (fun c => Ok.ckT (inb_n (by omega) (by omega)) ?_)))
    · have : ¬ (b = true ∧ ∀ k, k < j → w (P k) p = 0) := fun q => by rw [hb.mpr q] at c; cases c
      have e : (b && canb w L P i p) = false := bF (fun q => this ?_)
      · rw [e, c]
      · simp only [Bool.and_eq_true] at q
        exact ⟨q.1, fun k hk => (of_decide_eq_true q.2) k (by omega) (by omega)⟩
    · rw [nI_cl (by omega)]
      refine Ok.rdE (hP j (by omega)) (Ok.bq (q_weight h hs (h9 j (by omega)) hp) ?_)
      have hw9 := hw.1 (P j) p
      refine Ok.bq (a := nI (decide (w (P j) p = 0)).toNat) (t := t) (Ok.eq (Ok.cv (nI_q0 (by omega)) (Ok.ite (fun c => Ok.ret ⟨rfl, by rw [decide_eq_true c]; rfl⟩) (fun c => Ok.ret ⟨rfl, by rw [decide_eq_false c]; rfl⟩)))) (Ok.ret ⟨rfl, decide (w (P j) p = 0), by rw [nI_1], ?_⟩)
      have hb2 := hb.mp (bT c)
      rw [decide_eq_true_eq]
      refine ⟨fun q => ⟨hb2.1, fun k hk => ?_⟩, fun q => q.2 j (Nat.lt_succ_self j)⟩
      by_cases e : k = j
      · subst e; exact q
      · exact hb2.2 k (by omega)
  · rintro c s' ⟨rfl, b', rfl, hb⟩
    unfold SX12_goesBand_107
    dsimp only
    refine Ok.ifT (by rw [ilk (by omega) hL (by omega)]; omega) (Ok.ret ⟨rfl, ?_⟩)
    have : b' = (b && canb w L P i p) := by
      cases e : (b && canb w L P i p)
      · refine bF (fun q => ?_)
        have := hb.mp q
        rw [this.1, Bool.true_and] at e
        rw [show canb w L P i p = true from decide_eq_true (fun k hk hkL => this.2 k (by omega))] at e
        cases e
      · simp only [Bool.and_eq_true] at e
        exact hb.mpr ⟨e.1, fun k hk => (of_decide_eq_true e.2) k (by omega) (by omega)⟩
    rw [this]
theorem isb_0 : isb (0 : Int32) = true := by decide +kernel
theorem isb_1 : isb (1 : Int32) = true := by decide +kernel
/-- the points that are first in those rows -/
def bfs (n : Nat) (w : Nat → Nat → Nat) (L i : Nat) (P : Nat → Nat) : Nat := if i = 0 then bld n w L 0 P else if 0 < bct n w L (n - i) i P then 2 ^ P 0 else 0
/-- what goesBand may change -/
def FB (t u : St) : Prop := (∀ c, c ≠ 149 → c ≠ 154 → c ≠ 158 → u c = t c) ∧ ∀ j, j ≠ 18 → j ≠ 19 → u 149 j = t 149 j
theorem FB.rf {t : St} : FB t t := ⟨fun _ _ _ _ => rfl, fun _ _ _ => rfl⟩
theorem FB.tr {t u v : St} (h : FB t u) (g : FB u v) : FB t v := ⟨fun c a b d => (g.1 c a b d).trans (h.1 c a b d), fun j a b => (g.2 j a b).trans (h.2 j a b)⟩
theorem FB.rn {s n : Nat} {w : Nat → Nat → Nat} {t u : St} (h : FB t u) (g : RN s n w t) : RN s n w u := g.fr (h.1 150 (by decide) (by decide) (by decide))
theorem FB.w {t : St} {i : Nat} {v : Int32} : FB t (wr t 154 i v) := ⟨fun c _ a _ => wr_off c a, fun j _ _ => by rw [wr_off 149 (by decide)]⟩
/-- the leaf: bandBest is laid at the first row -/
theorem q_leaf {n : Nat} {t : St} {rec : Int32 → Int32 → Int32 → Int32 → Int32 → St → Option ((Int32) × St)} {e : Int32} {o : Nat → Nat} (hn : n < 10) (ho : ∀ j, j < n → t 154 j = nI (o j)) : Ok (wh (SX12_goesBand_19 rec (nI n) e) (0 : Int32) t) (fun _ u => (∀ c, c ≠ 158 → u c = t c) ∧ ∀ j, j < n → u 158 j = nI (o j)) := by
  refine Ok.count n (fun j c s => c = nI j ∧ (∀ c, c ≠ 158 → s c = t c) ∧ ∀ i, i < j → s 158 i = nI (o i)) ?_ ?_ (Nat.zero_le _) ⟨rfl, fun _ _ => rfl, fun i hi => by omega⟩
  · rintro j c s hj ⟨rfl, sf, s1⟩
    unfold SX12_goesBand_19
    refine Ok.ifF (by rw [nI_leP (by omega) (by omega)]; omega) (Ok.ckT (inb_n (by omega) (by omega)) ?_)
    rw [nI_cl (by omega)]
    refine Ok.rdE (x := nI (o j)) (by rw [sf 154 (by decide)]; exact ho j hj) (Ok.ckT (inb_n (by omega) (by omega)) (OkwrE (Ok.ret ⟨nI_1 j, fun c hc => ?_, fun i hi => ?_⟩)))
    · rw [wr_off c hc]; exact sf c hc
    · by_cases e : i = j
      · subst e; rw [wrs]
      · rw [wrn e]; exact s1 i (by omega)
  · rintro c s ⟨rfl, sf, s1⟩
    unfold SX12_goesBand_19
    exact Ok.ifT (by rw [nI_leP (by omega) (by omega)]; omega) (Ok.ret ⟨sf, s1⟩)
theorem add_a {a b c : Int32} : a + b + c = a + (b + c) := Int32.add_assoc a b c
theorem r_goes0 {s n : Nat} {w : Nat → Nat → Nat} (hs : s < 3) (hw : WF n w) (hn : n < 10) (h1 : 1 ≤ n) : ∀ (f i L B F : Nat) (P : Nat → Nat) (t : St), i ≤ n → PFX n i P → L < 11 → RN s n w t → (∀ j, j < i → t 154 j = nI (P j)) → n < f + i → t 149 18 = nI B → t 149 19 = nI F → Pc (FX12_goesBand f (nI s) (nI i) (nI (amk P i)) (nI L) 0 t) (fun r u => r = 0 ∧ u 149 18 = nI (B + bct n w L (n - i) i P) ∧ u 149 19 = nI (F ||| bfs n w L i P) ∧ FB t u ∧ ∀ j, j < i → u 154 j = t 154 j) := by
  intro f
  induction f with
  | zero => intro i L B F P t hi _ _ _ _ hf; omega
  | succ f ih =>
    intro i L B F P t hi hP hL h hpl hf hB hF
    have h3 := pow9 (k := n) (by omega)
    have a1 := hP.2.1
    have h9 : ∀ j, j < i → P j < 9 := fun j hj => by have := hP.1 j hj; omega
    show Pc (FX12_goesBand_b (FX12_goesBand f) (nI s) (nI i) (nI (amk P i)) (nI L) 0 t) _
    unfold FX12_goesBand_b
    refine Pc.bq (q_points h hs) (Pc.cv (nI_eqP (by omega) (by omega)) (Pc.ite (fun c => ?_) (fun c => ?_)))
    · subst c
      refine Pc.rdE hB (Pc.bd (fun _ u => (∀ c, c ≠ 158 → u c = t c)) ?_ ?_)
      · refine Pc.ite (fun _ => Pc.bd _ (q_leaf hn hpl).pc ?_) (fun _ => Pc.ret (fun _ _ => rfl))
        rintro _ u ⟨hu, -⟩
        exact Pc.ret hu
      · rintro _ u hu
        refine Pc.rdE (x := nI B) (by rw [hu 149 (by decide)]; exact hB) (PcwrE (Pc.rdE (x := nI F) (by rw [wrn (by decide), hu 149 (by decide)]; exact hF) (Pc.ck (fun _ => Pc.rdE (x := nI (P 0)) ?_ (PcwrE (Pc.ck (fun _ => Pc.ret ⟨rfl, ?_, ?_, ?_, ?_⟩)))))))
        · rw [wrf (by decide), hu 154 (by decide)]
          exact hpl 0 (by omega)
        · rw [wrn (by decide), wrs, nI_1, Nat.sub_self]
          rfl
        · have := h9 0 (by omega)
          rw [wrs, shl_1 (by omega), nI_or]
          unfold bfs
          rw [if_neg (by omega), if_pos (by rw [Nat.sub_self]; exact Nat.one_pos)]
        · exact ⟨fun c k1 k2 k3 => by rw [wr_off c k1, wr_off c k1]; exact hu c k3, fun j k1 k2 => by rw [wrn k2, wrn k1, hu 149 (by decide)]⟩
        · intro j hj
          rw [wrf (by decide), wrf (by decide), hu 154 (by decide)]
    · have hin : i < n := by omega
      obtain ⟨kk, hkk⟩ : ∃ kk, n - i = kk + 1 := ⟨n - i - 1, by omega⟩
      generalize hG : (fun p => if (!(amk P i).testBit p && canb w L P i p) = true then bct n w L kk (i + 1) (upP P i p) else 0) = G
      have eB : bct n w L (n - i) i P = sm n G := by rw [hkk, ← hG]; rfl
      have hGj : ∀ j, G j = if (!(amk P i).testBit j && canb w L P i j) = true then bct n w L kk (i + 1) (upP P i j) else 0 := fun j => by rw [← hG]
      have hms : ∀ p, (amk P i).testBit p = false → 0 < bct n w L (n - i) i P → canb w L P i p = true := fun p hp hb => decide_eq_true (fun k hk hkL => by
        refine Decidable.byContradiction (fun q => ?_)
        have := (mis_b hw hn (P := P) (i := i) (k := k) (p := p)).mpr ⟨by omega, hp⟩
        rw [mis_0 hw hn hi hP hb k hk hkL, Nat.zero_testBit] at this
        cases this)
      refine Pc.bd (fun e u => Sum.elim (fun _ => False) (fun _ => True) e ∧ u 149 18 = nI (B + sm n G) ∧ u 149 19 = nI (F ||| (if i = 0 then mkm n (fun p => decide (0 < G p)) else if 0 < sm n G then 2 ^ P 0 else 0)) ∧ FB t u ∧ ∀ j, j < i → u 154 j = t 154 j) ?_ ?_
      · refine Pc.loop (fun d s' => ∃ j, j ≤ n ∧ d = nI j ∧ s' 149 18 = nI (B + sm j G) ∧ s' 149 19 = nI (F ||| (if i = 0 then mkm j (fun p => decide (0 < G p)) else if 0 < sm j G then 2 ^ P 0 else 0)) ∧ FB t s' ∧ ∀ q, q < i → s' 154 q = t 154 q) ?_ ⟨0, Nat.zero_le _, rfl, hB, ?_, FB.rf, fun _ _ => rfl⟩
        · rintro d s' ⟨j, hj, rfl, sB, sF, sf, sp⟩
          have hs' := sf.rn h
          unfold SX12_goesBand_78
          refine Pc.bq (q_points hs' hs) (Pc.cv (nI_leP (by omega) (by omega)) (Pc.ite (fun c1 => Pc.ret ?_) (fun c1 => ?_)))
          · have : j = n := by omega
            subst this
            exact ⟨trivial, sB, sF, sf, sp⟩
          · refine Pc.bq (q_has (by omega) (by omega)) ?_
            refine Pc.bq (a := nI (!(amk P i).testBit j).toNat) (t := s') (Ok.eq (Ok.cv b01 (Ok.ite (fun c => Ok.ret ⟨rfl, by rw [c]; rfl⟩) (fun c => Ok.ret ⟨rfl, by rw [bT c]; rfl⟩)))) ?_
            refine Pc.bq (q_can hs' hs (P := P) (by omega) hL (by omega) (fun q hq => by rw [sp q hq]; exact hpl q hq) h9 hw) (Pc.cv b01 (Pc.ite (fun c2 => Pc.ret ?_) (fun c2 => Pc.ck (fun _ => PcwrE ?_))))
            · have g0 : G j = 0 := by rw [hGj, if_neg (by rw [c2]; decide)]
              refine ⟨j + 1, by omega, nI_1 j, ?_, ?_, sf, sp⟩
              · show _ = nI (B + (sm j G + G j))
                rw [g0]; exact sB
              · show _ = nI (F ||| (if i = 0 then mkm j (fun p => decide (0 < G p)) ||| (if decide (0 < G j) = true then 2 ^ j else 0) else if 0 < sm j G + G j then 2 ^ P 0 else 0))
                rw [g0]
                simp only [Nat.lt_irrefl, decide_false, Bool.false_eq_true, if_false, Nat.or_zero, Nat.add_zero]
                exact sF
            · have c2 := bT c2
              have g1 : G j = bct n w L (n - (i + 1)) (i + 1) (upP P i j) := by rw [hGj, if_pos c2, show n - (i + 1) = kk by omega]
              simp only [Bool.and_eq_true, Bool.not_eq_true'] at c2
              rw [nI_cl (by omega), nI_1, shl_1 (by omega), nI_or, ← amk_up]
              have hP2 := hP.on (p := j) (by omega) c2.1
              refine Pc.bd _ (ih (i + 1) L (B + sm j G) (F ||| (if i = 0 then mkm j (fun p => decide (0 < G p)) else if 0 < sm j G then 2 ^ P 0 else 0)) (upP P i j) (wr s' 154 i (nI j)) (by omega) hP2 hL (hs'.fr (wr_off _ (by decide))) (fun q hq => ?_) (by omega) (by rw [wrf (by decide)]; exact sB) (by rw [wrf (by decide)]; exact sF)) ?_
              · by_cases e : q = i
                · subst e; rw [wrs, upP_i]
                · rw [wrn e, upP_n e, sp q (by omega)]; exact hpl q (by omega)
              · rintro r u ⟨rfl, uB, uF, uf, up⟩
                refine Pc.ifT rfl (Pc.ret ⟨j + 1, by omega, nI_1 j, ?_, ?_, (sf.tr FB.w).tr uf, fun q hq => by rw [up q (by omega), wrn (by omega)]; exact sp q hq⟩)
                · rw [uB, ← g1, Nat.add_assoc]
                  rfl
                · rw [uF, Nat.or_assoc]
                  congr 2
                  unfold bfs
                  rw [if_neg (c := i + 1 = 0) (by omega), ← g1]
                  show _ = if i = 0 then mkm j (fun p => decide (0 < G p)) ||| (if decide (0 < G j) = true then 2 ^ j else 0) else if 0 < sm j G + G j then 2 ^ P 0 else 0
                  by_cases e0 : i = 0
                  · subst e0
                    rw [if_pos rfl, if_pos rfl, upP_i]
                    simp only [decide_eq_true_eq]
                  · rw [if_neg e0, if_neg e0, upP_n (by omega)]
                    by_cases q1 : 0 < sm j G
                    · rw [if_pos q1, if_pos (c := 0 < sm j G + G j) (by omega)]
                      by_cases q2 : 0 < G j
                      · rw [if_pos q2, Nat.or_self]
                      · rw [if_neg q2, Nat.or_zero]
                    · rw [if_neg q1, Nat.zero_or]
                      by_cases q2 : 0 < G j
                      · rw [if_pos q2, if_pos (by omega)]
                      · rw [if_neg q2, if_neg (by omega)]
        · have e0 : (if i = 0 then mkm 0 (fun p => decide (0 < G p)) else if 0 < sm 0 G then 2 ^ P 0 else 0) = 0 := by
            by_cases q : i = 0
            · rw [if_pos q]; rfl
            · rw [if_neg q]; exact if_neg (Nat.lt_irrefl 0)
          rw [e0, Nat.or_zero]
          exact hF
      · rintro (e | e) u ⟨he, uB, uF, uf, up⟩
        · exact he.elim
        · refine Pc.er (Pc.ret ⟨rfl, by rw [eB]; exact uB, ?_, uf, up⟩)
          rw [uF]
          congr 2
          unfold bfs
          by_cases e0 : i = 0
          · subst e0
            rw [if_pos rfl, if_pos rfl]
            unfold bld
            refine mkm_congr (fun p hp => ?_)
            rw [hGj, show n - (0 + 1) = kk by omega]
            by_cases q : (!(amk P 0).testBit p && canb w L P 0 p) = true
            · rw [if_pos q]
              simp only [Bool.and_eq_true] at q
              rw [q.1, Bool.true_and]
            · rw [if_neg q]
              have : (!(amk P 0).testBit p) = false := bF (fun z => q (by rw [z, canb_T (Nat.zero_le _)]; rfl))
              rw [this]
              rfl
          · rw [if_neg e0, if_neg e0, eB]
theorem r_goes1 {s n : Nat} {w : Nat → Nat → Nat} (hs : s < 3) (hw : WF n w) (hn : n < 10) (h1 : 1 ≤ n) : ∀ (f i L : Nat) (P : Nat → Nat) (t : St), i ≤ n → PFX n i P → L < 11 → RN s n w t → (∀ j, j < i → t 154 j = nI (P j)) → n < f + i → t 149 18 = 0 → Pc (FX12_goesBand f (nI s) (nI i) (nI (amk P i)) (nI L) 1 t) (fun r u => FB t u ∧ (∀ j, j < i → u 154 j = t 154 j) ∧ ((bct n w L (n - i) i P = 0 ∧ r = 0 ∧ u 149 18 = 0) ∨ (0 < bct n w L (n - i) i P ∧ r = 1 ∧ u 149 18 = 1 ∧ ∃ o, FRX n w L i P o ∧ ∀ j, j < n → u 158 j = nI (o j)))) := by
  intro f
  induction f with
  | zero => intro i L P t hi _ _ _ _ hf; omega
  | succ f ih =>
    intro i L P t hi hP hL h hpl hf hB
    have h3 := pow9 (k := n) (by omega)
    have a1 := hP.2.1
    have h9 : ∀ j, j < i → P j < 9 := fun j hj => by have := hP.1 j hj; omega
    show Pc (FX12_goesBand_b (FX12_goesBand f) (nI s) (nI i) (nI (amk P i)) (nI L) 1 t) _
    unfold FX12_goesBand_b
    refine Pc.bq (q_points h hs) (Pc.cv (nI_eqP (by omega) (by omega)) (Pc.ite (fun c => ?_) (fun c => ?_)))
    · subst c
      refine Pc.rdE hB (Pc.bd (fun _ u => (∀ c, c ≠ 158 → u c = t c) ∧ ∀ j, j < i → u 158 j = nI (P j)) (Pc.ifT rfl (Pc.bd _ (q_leaf hn hpl).pc (fun _ u hu => Pc.ret hu))) ?_)
      rintro _ u ⟨hu, hu2⟩
      refine Pc.rdE (x := 0) (by rw [hu 149 (by decide)]; exact hB) (PcwrE (Pc.rdE rfl (Pc.ck (fun _ => Pc.rdE rfl (PcwrE (Pc.ck (fun _ => Pc.ret ⟨?_, ?_, Or.inr ⟨?_, rfl, ?_, P, ?_, ?_⟩⟩)))))))
      · exact ⟨fun c k1 k2 k3 => by rw [wr_off c k1, wr_off c k1]; exact hu c k3, fun j k1 k2 => by rw [wrn k2, wrn k1, hu 149 (by decide)]⟩
      · intro j hj
        rw [wrf (by decide), wrf (by decide), hu 154 (by decide)]
      · rw [Nat.sub_self]; exact Nat.one_pos
      · rw [wrn (by decide), wrs]
        rfl
      · exact ⟨fun _ _ => rfl, fun j k1 k2 => by omega⟩
      · intro j hj
        rw [wrf (by decide), wrf (by decide)]
        exact hu2 j hj
    · have hin : i < n := by omega
      obtain ⟨kk, hkk⟩ : ∃ kk, n - i = kk + 1 := ⟨n - i - 1, by omega⟩
      have hk2 : n - (i + 1) = kk := by omega
      generalize hG : (fun p => if (!(amk P i).testBit p && canb w L P i p) = true then bct n w L kk (i + 1) (upP P i p) else 0) = G
      have eB : bct n w L (n - i) i P = sm n G := by rw [hkk, ← hG]; rfl
      have hGj : ∀ j, G j = if (!(amk P i).testBit j && canb w L P i j) = true then bct n w L kk (i + 1) (upP P i j) else 0 := fun j => by rw [← hG]
      have hms : ∀ p, (amk P i).testBit p = false → 0 < bct n w L (n - i) i P → canb w L P i p = true := fun p hp hb => decide_eq_true (fun k hk hkL => by
        refine Decidable.byContradiction (fun q => ?_)
        have := (mis_b hw hn (P := P) (i := i) (k := k) (p := p)).mpr ⟨by omega, hp⟩
        rw [mis_0 hw hn hi hP hb k hk hkL, Nat.zero_testBit] at this
        cases this)
      refine Pc.bd (fun e u => FB t u ∧ (∀ j, j < i → u 154 j = t 154 j) ∧ Sum.elim (fun r => r = (1 : Int32) ∧ 0 < sm n G ∧ u 149 18 = 1 ∧ ∃ o, FRX n w L i P o ∧ ∀ j, j < n → u 158 j = nI (o j)) (fun _ => sm n G = 0 ∧ u 149 18 = 0) e) ?_ ?_
      · refine Pc.loop (fun d s' => ∃ j, j ≤ n ∧ d = nI j ∧ s' 149 18 = 0 ∧ FB t s' ∧ (∀ q, q < i → s' 154 q = t 154 q) ∧ ∀ q, q < j → G q = 0) ?_ ⟨0, Nat.zero_le _, rfl, hB, FB.rf, fun _ _ => rfl, fun q hq => by omega⟩
        rintro d s' ⟨j, hj, rfl, sB, sf, sp, sI⟩
        have hs' := sf.rn h
        unfold SX12_goesBand_78
        refine Pc.bq (q_points hs' hs) (Pc.cv (nI_leP (by omega) (by omega)) (Pc.ite (fun c1 => Pc.ret ?_) (fun c1 => ?_)))
        · exact ⟨sf, sp, sm_zero (fun q hq => sI q (by omega)), sB⟩
        · refine Pc.bq (q_has (by omega) (by omega)) ?_
          refine Pc.bq (a := nI (!(amk P i).testBit j).toNat) (t := s') (Ok.eq (Ok.cv b01 (Ok.ite (fun c => Ok.ret ⟨rfl, by rw [c]; rfl⟩) (fun c => Ok.ret ⟨rfl, by rw [bT c]; rfl⟩)))) ?_
          refine Pc.bq (q_can hs' hs (P := P) (by omega) hL (by omega) (fun q hq => by rw [sp q hq]; exact hpl q hq) h9 hw) (Pc.cv b01 (Pc.ite (fun c2 => Pc.ret ?_) (fun c2 => Pc.ck (fun _ => PcwrE ?_))))
          · have g0 : G j = 0 := by rw [hGj, if_neg (by rw [c2]; decide)]
            refine ⟨j + 1, by omega, nI_1 j, sB, sf, sp, fun q hq => ?_⟩
            by_cases e : q = j
            · rw [e]; exact g0
            · exact sI q (by omega)
          · have c2 := bT c2
            have g1 : G j = bct n w L (n - (i + 1)) (i + 1) (upP P i j) := by rw [hGj, if_pos c2, hk2]
            simp only [Bool.and_eq_true, Bool.not_eq_true'] at c2
            rw [nI_cl (by omega), nI_1, shl_1 (by omega), nI_or, ← amk_up]
            have hP2 := hP.on (p := j) (by omega) c2.1
            refine Pc.bd _ (ih (i + 1) L (upP P i j) (wr s' 154 i (nI j)) (by omega) hP2 hL (hs'.fr (wr_off _ (by decide))) (fun q hq => ?_) (by omega) (by rw [wrf (by decide)]; exact sB)) ?_
            · by_cases e : q = i
              · subst e; rw [wrs, upP_i]
              · rw [wrn e, upP_n e, sp q (by omega)]; exact hpl q (by omega)
            · rintro r u ⟨uf, up, ⟨u1, rfl, u3⟩ | ⟨u1, rfl, u3, o, u4, u5⟩⟩
              · refine Pc.ifT rfl (Pc.ret ⟨j + 1, by omega, nI_1 j, u3, (sf.tr FB.w).tr uf, fun q hq => by rw [up q (by omega), wrn (by omega)]; exact sp q hq, fun q hq => ?_⟩)
                by_cases e : q = j
                · rw [e, g1]; exact u1
                · exact sI q (by omega)
              · have hpos : 0 < sm n G := sm_pos.mpr ⟨j, by omega, by rw [g1]; exact u1⟩
                refine Pc.ifF (by decide) (Pc.ret ⟨(sf.tr FB.w).tr uf, fun q hq => by rw [up q (by omega), wrn (by omega)]; exact sp q hq, rfl, hpos, u3, o, ⟨fun k hk => ?_, fun k hk hkn => ?_⟩, u5⟩)
                · rw [u4.1 k (by omega), upP_n (by omega)]
                · by_cases e : k = i
                  · subst e
                    have eo : o k = j := by rw [u4.1 k (by omega), upP_i]
                    have ea : amk o k = amk P k := amk_eq (fun q hq => by rw [u4.1 q (by omega), upP_n (by omega)])
                    rw [eo, ea]
                    refine ⟨by omega, c2.1, ?_, fun q hq hh => ?_⟩
                    · rw [bct_eq (Q := upP P k j) hw hn (by omega) (fun q hq => u4.1 q hq)]
                      exact u1
                    · have := sI q hq
                      rw [hGj, if_pos (by rw [hh.1, hms q hh.1 (by rw [eB]; exact hpos)]; rfl)] at this
                      rw [hk2, bct_eq (Q := upP P k q) hw hn (by omega) (fun y hy => ?_), this] at hh
                      · exact absurd hh.2 (Nat.lt_irrefl 0)
                      · by_cases e2 : y = k
                        · subst e2; rw [upP_i, upP_i]
                        · rw [upP_n e2, upP_n e2, u4.1 y (by omega), upP_n e2]
                  · exact u4.2 k (by omega) hkn
      · rintro (e | e) u ⟨uf, up, he⟩
        · refine Pc.el (Pc.ret ⟨uf, up, Or.inr ?_⟩)
          rw [eB]
          exact ⟨he.2.1, he.1, he.2.2⟩
        · refine Pc.er (Pc.ret ⟨uf, up, Or.inl ?_⟩)
          rw [eB]
          exact ⟨he.1, rfl, he.2⟩
/-! rows within a limit, the least limit, the first row -/
theorem FB.w18 {t : St} : FB t (wr (wr t 149 18 0) 149 19 0) := ⟨fun c a _ _ => by rw [wr_off c a, wr_off c a], fun j a b => by rw [wrn b, wrn a]⟩
theorem r_rowsOfBand {s n L : Nat} {w : Nat → Nat → Nat} {t : St} (hs : s < 3) (hw : WF n w) (hn : n < 10) (h1 : 1 ≤ n) (hL : L < 11) (h : RN s n w t) : Pc (FX12_rowsOfBand (nI s) (nI L) 0 t) (fun r u => r = nI (bct n w L n 0 (fun _ => 0)) ∧ u 149 19 = nI (bld n w L 0 (fun _ => 0)) ∧ FB t u) := by
  unfold FX12_rowsOfBand
  refine PcwrE (PcwrE (Pc.bd _ (r_goes0 hs hw hn h1 11 0 L 0 0 (fun _ => 0) _ (Nat.zero_le _) pfx_0 hL (FB.w18.rn h) (fun j hj => by omega) (by omega) (by rw [wrn (by decide), wrs]; rfl) wrs) ?_))
  rintro _ u ⟨rfl, uB, uF, uf, -⟩
  refine Pc.rdE uB (Pc.ret ⟨by rw [Nat.zero_add, Nat.sub_zero], ?_, FB.w18.tr uf⟩)
  rw [uF, Nat.zero_or]
  rfl
theorem r_leastBand {s n v : Nat} {w : Nat → Nat → Nat} {o : Nat → Nat} {t : St} (hs : s < 3) (hw : WF n w) (hn : n < 10) (h1 : 1 ≤ n) (h : RN s n w t) (hv : LL n w v) (ho : FRX n w v 0 (fun _ => 0) o) : Pc (FX12_leastBand (nI s) t) (fun r u => r = nI v ∧ FB t u ∧ ∀ j, j < n → u 158 j = nI (o j)) := by
  unfold FX12_leastBand
  refine Pc.bd (fun r u => r = nI v ∧ FB t u ∧ ∀ j, j < n → u 158 j = nI (o j)) ?_ (fun r u hu => Pc.ret hu)
  refine Pc.loop (fun d s' => ∃ j, j ≤ v ∧ d = nI j ∧ FB t s') ?_ ⟨0, Nat.zero_le _, rfl, FB.rf⟩
  rintro d s' ⟨j, hj, rfl, sf⟩
  have v1 := hv.1
  unfold SX12_leastBand_2
  refine Pc.bd (fun r u => FB s' u ∧ ((bct n w j n 0 (fun _ => 0) = 0 ∧ r = 0) ∨ (0 < bct n w j n 0 (fun _ => 0) ∧ r = 1 ∧ ∃ o, FRX n w j 0 (fun _ => 0) o ∧ ∀ k, k < n → u 158 k = nI (o k)))) ?_ ?_
  · unfold FX12_rowsOfBand
    refine PcwrE (PcwrE (Pc.bd _ (r_goes1 hs hw hn h1 11 0 j (fun _ => 0) _ (Nat.zero_le _) pfx_0 (by omega) (FB.w18.rn (sf.rn h)) (fun j hj => by omega) (by omega) (by rw [wrn (by decide), wrs])) ?_))
    rintro _ u ⟨uf, -, ⟨u1, rfl, u3⟩ | ⟨u1, rfl, u3, u4⟩⟩
    · exact Pc.rdE u3 (Pc.ret ⟨FB.w18.tr uf, Or.inl ⟨u1, rfl⟩⟩)
    · exact Pc.rdE u3 (Pc.ret ⟨FB.w18.tr uf, Or.inr ⟨u1, rfl, u4⟩⟩)
  · rintro r u ⟨uf, ⟨u1, rfl⟩ | ⟨u1, rfl, o2, u4, u5⟩⟩
    · refine Pc.ifT rfl (Pc.ret ⟨j + 1, ?_, nI_1 j, sf.tr uf⟩)
      have : j ≠ v := fun q => by subst q; have := hv.2.2; omega
      omega
    · have e : j = v := by
        refine Decidable.byContradiction (fun q => ?_)
        have := hv.2.1 j (by omega)
        omega
      subst e
      refine Pc.ifF (by decide) (Pc.ret ⟨rfl, sf.tr uf, fun k hk => ?_⟩)
      rw [u5 k hk, FRX.uq hw hn u4 ho k hk]
end
section
/-! who may be asked -/
theorem r3 {a : Int32} : (∃ s, s < 3 ∧ a = nI s) ∨ ¬ IsR 3 a := Classical.em _
theorem g_netIn0 {a : Int32} {t : St} (h : ¬ IsR 3 a) : FX11_netIn a t = some (none, t) := by
  refine Ok.eq ?_
  unfold FX11_netIn
  refine Ok.bd (fun r u => t = u ∧ r = 0) (e_isSlot (fun s hs e => absurd ⟨s, hs, e⟩ h) (fun _ => ⟨rfl, rfl⟩)) ?_
  rintro _ _ ⟨rfl, rfl⟩
  exact Ok.ifT rfl (Ok.ret ⟨rfl, rfl⟩)
theorem g_slot {s : Nat} {t : St} (hs : s < 3) : FX11_isSlot (nI s) t = some (1, t) := Ok.eq (e_isSlot (fun _ _ _ => ⟨rfl, rfl⟩) (fun q => absurd ⟨s, hs, rfl⟩ q))
theorem g_slotM {s : Nat} {t : St} (hs : s < 3) : FX12_isSlot (nI s) t = some (1, t) := Ok.eq (m_isSlot (fun _ _ _ => ⟨rfl, rfl⟩) (fun q => absurd ⟨s, hs, rfl⟩ q))
theorem g_slot0 {a : Int32} {t : St} (h : ¬ IsR 3 a) : FX11_isSlot a t = some (0, t) := Ok.eq (e_isSlot (fun s hs e => absurd ⟨s, hs, e⟩ h) (fun _ => ⟨rfl, rfl⟩))
theorem g_slotM0 {a : Int32} {t : St} (h : ¬ IsR 3 a) : FX12_isSlot a t = some (0, t) := Ok.eq (m_isSlot (fun s hs e => absurd ⟨s, hs, e⟩ h) (fun _ => ⟨rfl, rfl⟩))
theorem g_netIn {s n : Nat} {t : St} (hs : s < 3) (hn : n < 10) (h : t (12 + 24 * s) 0 = nI n) : FX11_netIn (nI s) t = some (if n = 0 then none else some (12 + 24 * s), t) := by
  refine Ok.eq ?_
  unfold FX11_netIn
  have g := n_sl hs
  rw [el10 hs]
  refine Ok.bq (g_slot hs) (Ok.ifF (by decide) (Ok.ckT (inb_n hs (by omega)) (Ok.ckT g (Ok.rdE h (Ok.cv (nI_leP (b := 0) (by omega) (by omega)) (Ok.ite (fun c => Ok.ret ⟨rfl, ?_⟩) (fun c => Ok.ckT (inb_n hs (by omega)) (Ok.ckT g (Ok.ret ⟨rfl, ?_⟩)))))))))
  · rw [if_pos (by omega)]
  · rw [if_neg (by omega)]
theorem g_isNet0 {a : Int32} {t : St} (h : ¬ IsR 3 a) : FX12_isNet a t = some (0, t) := by
  refine Ok.eq ?_
  unfold FX12_isNet
  exact Ok.bq (g_slotM0 h) (Ok.ifT rfl (Ok.ret ⟨rfl, rfl⟩))
theorem g_isNet {s n : Nat} {w : Nat → Nat → Nat} {t : St} (hs : s < 3) (hn : n < 10) (h : RN s n w t) : FX12_isNet (nI s) t = some (if n = 0 then 0 else 1, t) := by
  refine Ok.eq ?_
  unfold FX12_isNet
  refine Ok.bq (g_slotM hs) (Ok.ifF (by decide) (Ok.bq (q_points h hs) (Ok.cv (nI_leP (b := 0) (by omega) (by omega)) (Ok.ite (fun c => Ok.ret ⟨rfl, ?_⟩) (fun c => Ok.ret ⟨rfl, ?_⟩)))))
  · rw [if_pos (by omega)]
  · rw [if_neg (by omega)]
theorem g_ms {m : Nat} {t : St} (hm : m < 7) : FX11_isMeasure (nI m) t = some (1, t) := by
  unfold FX11_isMeasure
  rw [if_neg (by rw [li_0, nI_ltP (by omega) (by omega)]; omega), if_neg (by rw [li_7, nI_leP (by omega) (by omega)]; omega)]
theorem g_ms0 {b : Int32} {t : St} (h : ¬ IsR 7 b) : FX11_isMeasure b t = some (0, t) := by
  unfold FX11_isMeasure
  by_cases c : b < 0
  · rw [if_pos c]
  · rw [if_neg c]
    obtain ⟨j, hj, rfl⟩ := nI_of c
    have : ¬ j < 7 := fun q => h ⟨j, q, rfl⟩
    rw [if_pos (by rw [li_7, nI_leP (by omega) (by omega)]; omega)]
theorem e_inN {t : St} {a : Int32} {n : Nat} (h1 : 1 ≤ n) (hn : n < 1000) {Q : Int32 → St → Prop} (q1 : ∀ j, j < n → a = nI j → Q 1 t) (q0 : ¬ IsR n a → Q 0 t) {b c : Int64} (hb : b.toInt = 0) (hc : c.toInt = (n : Int) - 1) : Ok (FX12_in a.toInt64 b c t) Q := by
  refine e_in (fun g1 g2 => ?_) (fun g => q0 (fun ⟨k, hk, e⟩ => g ?_))
  · obtain ⟨j, hj, e⟩ := in_R (m := n) ⟨g1, g2⟩ (by omega) (by omega)
    exact q1 j hj e
  · subst e
    rw [hb, hc, Int32.toInt_toInt64, nI_toInt (by omega)]
    omega
theorem g_msM {m : Nat} {t : St} (hm : m < 7) : FX12_isMeasure (nI m) t = some (1, t) := by
  refine Ok.eq ?_
  unfold FX12_isMeasure
  refine Ok.bd (fun r u => t = u ∧ r = 1) (e_inN (n := 7) (by omega) (by omega) (fun _ _ _ => ⟨rfl, rfl⟩) (fun q => absurd ⟨m, hm, rfl⟩ q) (by decide) (by decide)) ?_
  rintro _ _ ⟨rfl, rfl⟩
  exact Ok.ckT rfl (Ok.ret ⟨rfl, rfl⟩)
theorem g_msM0 {b : Int32} {t : St} (h : ¬ IsR 7 b) : FX12_isMeasure b t = some (0, t) := by
  refine Ok.eq ?_
  unfold FX12_isMeasure
  refine Ok.bd (fun r u => t = u ∧ r = 0) (e_inN (n := 7) (by omega) (by omega) (fun j hj e => absurd ⟨j, hj, e⟩ h) (fun q => ⟨rfl, rfl⟩) (by decide) (by decide)) ?_
  rintro _ _ ⟨rfl, rfl⟩
  exact Ok.ckT rfl (Ok.ret ⟨rfl, rfl⟩)
theorem g_has {x n a : Nat} {t : St} (g : netAt x = true) (hn : n < 10) (h : t x 0 = nI n) (ha : a < n) : FX5_has x (nI a) t = some (1, t) := by
  refine Ok.eq ?_
  unfold FX5_has
  exact Ok.ckT g (Ok.ifF (by rw [li_0, nI_ltP (by omega) (by omega)]; omega) (Ok.rdE h (Ok.ifF (by rw [nI_leP (by omega) (by omega)]; omega) (Ok.ret ⟨rfl, rfl⟩))))
theorem g_has0 {x n : Nat} {b : Int32} {t : St} (g : netAt x = true) (hn : n < 10) (h : t x 0 = nI n) (hb : ¬ IsR n b) : FX5_has x b t = some (0, t) := by
  refine Ok.eq ?_
  unfold FX5_has
  refine Ok.ckT g (Ok.ite (fun _ => Ok.ret ⟨rfl, rfl⟩) (fun c => ?_))
  obtain ⟨j, hj, rfl⟩ := nI_of c
  have : ¬ j < n := fun q => hb ⟨j, q, rfl⟩
  exact Ok.rdE h (Ok.ifT (by rw [nI_leP (by omega) (by omega)]; omega) (Ok.ret ⟨rfl, rfl⟩))
theorem in0 : (0 : Int64).toInt = 0 := by decide
theorem inn {n : Nat} (h1 : 1 ≤ n) (hn : n < 10) : (nI n - 1).toInt64.toInt = (n : Int) - 1 := by
  rw [nI_s1 h1, Int32.toInt_toInt64, nI_toInt (by omega)]
  omega
theorem g_isPt {s n a : Nat} {w : Nat → Nat → Nat} {t : St} (hs : s < 3) (hn : n < 10) (h : RN s n w t) (ha : a < n) : FX12_isPoint (nI s) (nI a) t = some (1, t) := by
  refine Ok.eq ?_
  unfold FX12_isPoint
  refine Ok.bq (g_isNet hs hn h) ?_
  rw [if_neg (c := n = 0) (by omega)]
  refine Ok.ifF (by decide) (Ok.bq (q_points h hs) (Ok.bd (fun r u => t = u ∧ r = 1) (e_inN (n := n) (by omega) (by omega) (fun _ _ _ => ⟨rfl, rfl⟩) (fun q => absurd ⟨a, ha, rfl⟩ q) in0 (inn (by omega) hn)) ?_))
  rintro _ _ ⟨rfl, rfl⟩
  exact Ok.ifF (by decide) (Ok.ret ⟨rfl, rfl⟩)
theorem g_isPt0 {s n : Nat} {b : Int32} {w : Nat → Nat → Nat} {t : St} (hs : s < 3) (hn : n < 10) (h : RN s n w t) (hb : ¬ IsR n b) : FX12_isPoint (nI s) b t = some (0, t) := by
  refine Ok.eq ?_
  unfold FX12_isPoint
  refine Ok.bq (g_isNet hs hn h) ?_
  by_cases e : n = 0
  · rw [if_pos e]
    exact Ok.ifT rfl (Ok.ret ⟨rfl, rfl⟩)
  · rw [if_neg e]
    refine Ok.ifF (by decide) (Ok.bq (q_points h hs) (Ok.bd (fun r u => t = u ∧ r = 0) (e_inN (n := n) (by omega) (by omega) (fun j hj e => absurd ⟨j, hj, e⟩ hb) (fun q => ⟨rfl, rfl⟩) in0 (inn (by omega) hn)) ?_))
    rintro _ _ ⟨rfl, rfl⟩
    exact Ok.ifT rfl (Ok.ret ⟨rfl, rfl⟩)
theorem g_isPtN {a b : Int32} {t : St} (h : ¬ IsR 3 a) : FX12_isPoint a b t = some (0, t) := by
  refine Ok.eq ?_
  unfold FX12_isPoint
  exact Ok.bq (g_isNet0 h) (Ok.ifT rfl (Ok.ret ⟨rfl, rfl⟩))
theorem g_pr {m : Nat} {t : St} (hm : m < 7) : FX11_isPriced (nI m) t = some (if m = 2 then 0 else 1, t) := by
  refine Ok.eq ?_
  unfold FX11_isPriced
  refine Ok.bq (g_ms hm) (Ok.ifF (by decide) ?_)
  rw [li_2]
  refine Ok.cv (nI_lit hm (by omega)) (Ok.ite (fun c => Ok.ret ⟨rfl, ?_⟩) (fun c => Ok.ret ⟨rfl, ?_⟩))
  · rw [if_pos c]
  · rw [if_neg c]
theorem g_pr0 {b : Int32} {t : St} (h : ¬ IsR 7 b) : FX11_isPriced b t = some (0, t) := by
  refine Ok.eq ?_
  unfold FX11_isPriced
  exact Ok.bq (g_ms0 h) (Ok.ifT rfl (Ok.ret ⟨rfl, rfl⟩))
theorem g_bd {m : Nat} {t : St} (hm : m < 7) : FX11_isBounded (nI m) t = some (if m = 0 ∨ m = 1 ∨ m = 2 ∨ m = 5 then 1 else 0, t) := by
  rcases (show m = 0 ∨ m = 1 ∨ m = 2 ∨ m = 3 ∨ m = 4 ∨ m = 5 ∨ m = 6 by omega) with rfl | rfl | rfl | rfl | rfl | rfl | rfl <;> rfl
theorem g_bd0 {b : Int32} {t : St} (h : ¬ IsR 7 b) : FX11_isBounded b t = some (0, t) := by
  unfold FX11_isBounded
  rw [if_neg (c := b = 0) (fun q => h ⟨0, by omega, q⟩), if_neg (c := b = 1) (fun q => h ⟨1, by omega, q⟩), if_neg (c := b = 2) (fun q => h ⟨2, by omega, q⟩), if_neg (c := b = 5) (fun q => h ⟨5, by omega, q⟩)]
end
section
/-! what is known of a net over all rows -/
noncomputable def R1 (n : Nat) (w : Nat → Nat → Nat) (m S : Nat) : Nat := rst n m 1048576 (fun S p => decide (cst n w m S p ≤ 1048576)) (cst n w m) (n - cnt S n) S
noncomputable def R2 (n : Nat) (w : Nat → Nat → Nat) (m S : Nat) : Nat := rst n m 1000000 (fun _ _ => true) (cst n w m) (n - cnt S n) S
theorem R1_eq {n m S : Nat} {w : Nat → Nat → Nat} (hw : WF n w) (hn : n < 10) : R1 n w m S = rst n m 1048576 (fun _ _ => true) (cst n w m) (n - cnt S n) S := by
  unfold R1
  have : (fun S p => decide (cst n w m S p ≤ 1048576)) = fun _ _ => true := by
    funext S p
    have := cst_le (m := m) (S := S) (p := p) hw hn
    exact decide_eq_true (by omega)
  rw [this]
theorem R1_pr {n m : Nat} {w : Nat → Nat → Nat} (hw : WF n w) (hn : n < 10) : RPr n m (cst n w m) (R1 n w m) ∧ R1 n w m (2 ^ n - 1) = 0 ∧ ∀ S, S < 2 ^ n → R1 n w m S ≤ 6561 := rst_pr hn (fun S p => cst_le hw hn) (by omega) (fun S => R1_eq hw hn)
theorem R12 {n m S : Nat} {w : Nat → Nat → Nat} (hw : WF n w) (hn : n < 10) (hS : S < 2 ^ n) : R1 n w m S = R2 n w m S := by
  have h6 := (R1_pr (m := m) hw hn).2.2 S hS
  rw [R1_eq hw hn] at h6 ⊢
  unfold R2
  rcases rst_T (n := n) (m := m) (T := 1048576) (U := 1000000) (al := fun _ _ => true) (c := cst n w m) (fun S p => cst_le hw hn) (by omega) (by omega) (k := n - cnt S n) (S := S) (by omega) with h | h
  · exact h.1
  · omega
theorem R2_le {n m S : Nat} {w : Nat → Nat → Nat} (hw : WF n w) (hn : n < 10) : R2 n w m S ≤ 1000000 := rst_bd (fun S p => cst_le hw hn) (by omega) (by omega)
noncomputable def C1 (n : Nat) (w : Nat → Nat → Nat) (m S : Nat) : Nat := crw n (okc m (R1 n w m 0) (cst n w m) (R1 n w m)) (n - cnt S n) S
noncomputable def L1 (n : Nat) (w : Nat → Nat → Nat) (m : Nat) : Nat → Nat := ldr n (okc m (R1 n w m 0) (cst n w m) (R1 n w m)) (C1 n w m)
theorem b1_ok {n m : Nat} {w : Nat → Nat → Nat} (hw : WF n w) (hn : n < 10) : BRW n (L1 n w m) (brw (L1 n w m)) ∧ KRW n m (R1 n w m 0) (cst n w m) (R1 n w m) (brw (L1 n w m)) (hdf m (cst n w m) (brw (L1 n w m))) := brw_ok hn (R1_pr hw hn).1 (R1_pr hw hn).2.1 (crw_pr (fun S => rfl))
theorem or_up {n S q : Nat} (hS : S < 2 ^ n) (hq : q < n) : S ||| 2 ^ q < 2 ^ n := Nat.or_lt_two_pow hS (Nat.pow_lt_pow_right (by omega) hq)
theorem k2_ok {n m : Nat} {w : Nat → Nat → Nat} (hw : WF n w) (hn : n < 10) : KRW n m (R2 n w m 0) (cst n w m) (R2 n w m) (brw (L1 n w m)) (hdf m (cst n w m) (brw (L1 n w m))) := by
  obtain ⟨hB, h0, hI⟩ := b1_ok (m := m) hw hn
  have e0 : R1 n w m 0 = R2 n w m 0 := R12 hw hn (Nat.two_pow_pos n)
  refine ⟨h0, fun i hi => ?_⟩
  obtain ⟨a1, a2, a3, a4, a5⟩ := hI i hi
  have hlt := hB.lt (i := i) (by omega)
  refine ⟨a1, a2, ?_, fun q hq hh => a4 q hq ⟨hh.1, ?_⟩, a5⟩
  · rw [← e0, ← R12 hw hn (or_up hlt a1)]; exact a3
  · rw [e0, R12 hw hn (or_up hlt (by omega))]; exact hh.2
theorem crw_congr {n : Nat} {ok ok' : Nat → Nat → Bool} (h : ∀ S p, S < 2 ^ n → p < n → S.testBit p = false → ok S p = ok' S p) : ∀ {k S : Nat}, S < 2 ^ n → crw n ok k S = crw n ok' k S
  | 0, _, _ => rfl
  | k + 1, S, hS => by
    show sm n _ = sm n _
    refine sm_congr (fun p hp => ?_)
    by_cases c : S.testBit p = true
    · rw [if_neg (by rw [c]; simp), if_neg (by rw [c]; simp)]
    · have c := bF c
      rw [h S p hS hp c, crw_congr h (k := k) (or_up hS hp)]
theorem C12 {n m L : Nat} {w : Nat → Nat → Nat} (hw : WF n w) (hn : n < 10) (hg : ¬ Gr m) : crw n (okc m L (cst n w m) (R2 n w m)) n 0 = C1 n w m 0 := by
  unfold C1
  rw [cnt_0, Nat.sub_zero]
  refine crw_congr (fun S p hS hp hb => ?_) (Nat.two_pow_pos n)
  have e1 := R12 (m := m) hw hn hS
  have e2 := R12 (m := m) hw hn (or_up hS hp)
  unfold okc
  rw [if_neg hg, if_neg hg, e1, e2]
theorem hdf_le {n m : Nat} {w : Nat → Nat → Nat} {o : Nat → Nat} (hw : WF n w) (hn : n < 10) : ∀ i, hdf m (cst n w m) o i ≤ 729 * i
  | 0 => Nat.le_refl _
  | i + 1 => by
    have h1 := hdf_le (m := m) (o := o) hw hn i
    have h2 := jn_le (m := m) h1 (cst_le (m := m) (S := amk o i) (p := o i) hw hn)
    show jn m (hdf m (cst n w m) o i) (cst n w m (amk o i) (o i)) ≤ 729 * (i + 1)
    omega
/-! by how far ends lie apart -/
noncomputable def lvb (n : Nat) (w : Nat → Nat → Nat) : Nat := @dite Nat (∃ v, LL n w v) (Classical.propDecidable _) (fun h => Classical.choose h) (fun _ => 0)
theorem lvb_ok {n : Nat} {w : Nat → Nat → Nat} (h : 1 ≤ n) : LL n w (lvb n w) := by
  unfold lvb
  have e : ∃ v, LL n w v := LL.ex h
  rw [dif_pos e]
  exact Classical.choose_spec e
noncomputable def frb (n : Nat) (w : Nat → Nat → Nat) : Nat → Nat := @dite (Nat → Nat) (∃ o, FRX n w (lvb n w) 0 (fun _ => 0) o) (Classical.propDecidable _) (fun h => Classical.choose h) (fun _ => fun _ => 0)
theorem frb_ok {n : Nat} {w : Nat → Nat → Nat} (hw : WF n w) (hn : n < 10) (h : 1 ≤ n) : FRX n w (lvb n w) 0 (fun _ => 0) (frb n w) := by
  unfold frb
  have e : ∃ o, FRX n w (lvb n w) 0 (fun _ => 0) o := FRX.ex hw hn (lvb_ok h).2.2
  rw [dif_pos e]
  exact Classical.choose_spec e
noncomputable def lsv (n : Nat) (w : Nat → Nat → Nat) (m : Nat) : Nat := if m = 2 then lvb n w else R1 n w m 0
noncomputable def rwc (n : Nat) (w : Nat → Nat → Nat) (m : Nat) : Nat := if m = 2 then bct n w (lvb n w) n 0 (fun _ => 0) else C1 n w m 0
noncomputable def fpt (n : Nat) (w : Nat → Nat → Nat) (m : Nat) : Nat := if m = 2 then bld n w (lvb n w) 0 (fun _ => 0) else L1 n w m 0
noncomputable def frw (n : Nat) (w : Nat → Nat → Nat) (m : Nat) : Nat → Nat := if m = 2 then frb n w else brw (L1 n w m)
theorem pfx_of {n : Nat} {o : Nat → Nat} (h : ∀ i, i < n → o i < n ∧ (amk o i).testBit (o i) = false) : ∀ {i : Nat}, i ≤ n → PFX n i o
  | 0, _ => pfx_0
  | i + 1, hi => by
    obtain ⟨a1, a2⟩ := h i (by omega)
    have h1 := (pfx_of h (i := i) (by omega)).on a1 a2
    have : upP o i (o i) = o := funext (fun j => by
      by_cases q : j = i
      · subst q; exact upP_i
      · exact upP_n q)
    rw [this] at h1
    exact h1
theorem frw_pfx {n m : Nat} {w : Nat → Nat → Nat} (hw : WF n w) (hn : n < 10) (h1 : 1 ≤ n) : PFX n n (frw n w m) := by
  unfold frw
  by_cases c : m = 2
  · rw [if_pos c]
    exact (frb_ok hw hn h1).pfx (Nat.le_refl _)
  · rw [if_neg c]
    refine pfx_of (fun i hi => ?_) (Nat.le_refl _)
    have := (b1_ok (m := m) hw hn).1 i hi
    exact ⟨this.1, this.2.1⟩
/-- what is found at z is right -/
def FDZ (z n : Nat) (w : Nat → Nat → Nat) (m : Nat) (t : St) : Prop := t z 1 = nI (lsv n w m) ∧ t z 2 = nI (rwc n w m) ∧ t z 3 = nI (fpt n w m) ∧ ∀ i, i < n → t (z + 1) i = nI (frw n w m i)
theorem FDZ.fr {z n m : Nat} {w : Nat → Nat → Nat} {t u : St} (h : FDZ z n w m t) (e1 : ∀ i, i ≠ 0 → u z i = t z i) (e2 : u (z + 1) = t (z + 1)) : FDZ z n w m u := by
  obtain ⟨a, b, c, d⟩ := h
  refine ⟨by rw [e1 1 (by decide)]; exact a, by rw [e1 2 (by decide)]; exact b, by rw [e1 3 (by decide)]; exact c, fun i hi => by rw [e2]; exact d i hi⟩
/-- what is kept of a slot's net -/
def FI (F : Nat) (t : St) : Prop := ∃ n l w, GN n l w ∧ CN (F + 2) n l w t ∧ ∀ m, m < 7 → t (F + 6 + 2 * m) 0 ≠ 0 → (1 ≤ n ∧ FDZ (F + 6 + 2 * m) n w m t)
def BI (t : St) : Prop := ∃ n l w, GN n l w ∧ CN 91 n l w t ∧ MI n w t
theorem FI.fr {F : Nat} {t u : St} (h : FI F t) (e : ∀ c, F + 2 ≤ c → c < F + 20 → u c = t c) : FI F u := by
  obtain ⟨n, l, w, h1, h2, h3⟩ := h
  refine ⟨n, l, w, h1, h2.fr (e _ (by omega) (by omega)) (e _ (by omega) (by omega)) (e _ (by omega) (by omega)), fun m hm h0 => ?_⟩
  rw [e _ (by omega) (by omega)] at h0
  exact ⟨(h3 m hm h0).1, (h3 m hm h0).2.fr (fun i _ => by rw [e _ (by omega) (by omega)]) (e _ (by omega) (by omega))⟩
theorem BI.fr {t u : St} (h : BI t) (e : ∀ c, 91 ≤ c → c < 98 → u c = t c) : BI u := by
  obtain ⟨n, l, w, h1, h2, h3⟩ := h
  exact ⟨n, l, w, h1, h2.fr (e _ (by omega) (by omega)) (e _ (by omega) (by omega)) (e _ (by omega) (by omega)), h3.fr (e _ (by omega) (by omega)) (e _ (by omega) (by omega))⟩
theorem el11 {s : Nat} (hs : s < 3) : el 11 (nI s) = 16 + 24 * s := by
  rcases (show s = 0 ∨ s = 1 ∨ s = 2 by omega) with rfl | rfl | rfl <;> decide +kernel
theorem fs_sl {s : Nat} (hs : s < 3) : findsAt (16 + 24 * s) = true := by
  rcases (show s = 0 ∨ s = 1 ∨ s = 2 by omega) with rfl | rfl | rfl <;> decide +kernel
theorem el_fm {x m : Nat} (hx : findsAt x = true) (hm : m < 7) : el (x + 1) (nI m) = x + 6 + 2 * m := by
  unfold el
  rw [findsAt_1 hx, nI_cl (by omega)]
  rcases (show m = 0 ∨ m = 1 ∨ m = 2 ∨ m = 3 ∨ m = 4 ∨ m = 5 ∨ m = 6 by omega) with rfl | rfl | rfl | rfl | rfl | rfl | rfl <;> rfl
theorem e_turnTo3 {F y n l : Nat} {w : Nat → Nat → Nat} {t : St} (gF : findsAt F = true) (h : CN y n l w t) (gy : netAt y = true) (hd : F + 20 ≤ y ∨ y + 3 < F + 2) (G : GN n l w) (hF : FI F t) : Ok (FX3_turnTo F y t) (fun _ u => CN (F + 2) n l w u ∧ (∀ m, m < 7 → u (F + 6 + 2 * m) 0 ≠ 0 → (1 ≤ n ∧ FDZ (F + 6 + 2 * m) n w m u)) ∧ ∀ c, (c < F + 2 ∨ F + 20 ≤ c) → u c = t c) := by
  obtain ⟨n', l', w', G', h', hk⟩ := hF
  have gN := (finds_pl gF).1
  unfold FX3_turnTo
  refine Ok.ckT gF (Ok.ckT gy (Ok.ckT gN (Ok.bd (fun r u => t = u ∧ ((r = 1 ∧ n' = n ∧ w' = w) ∨ r = 0)) (e_sameLines h' h gN gy G' G (fun a b => ⟨rfl, Or.inl ⟨rfl, a, b⟩⟩) (fun _ => ⟨rfl, Or.inr rfl⟩)) ?_)))
  rintro r _ ⟨rfl, ⟨rfl, rfl, rfl⟩ | rfl⟩
  · refine Ok.ifF (by decide) (Ok.ret ⟨?_, hk, fun _ _ => rfl⟩)
    have : l' = l := by have := G.2.2; have := G'.2.2; omega
    subst this
    exact h'
  · refine Ok.ifT rfl (Ok.ckT gN (Ok.bd _ (e_copyFrom gN gy (by omega)) ?_))
    rintro _ t1 ⟨f1, a0, a1, a2, -, a3⟩
    have h1 : CN (F + 2) n l w t1 := h.cp a0 a1 a2 a3
    refine Ok.bd (fun _ u => (∀ c, (c < F + 6 ∨ F + 20 ≤ c) → u c = t1 c) ∧ ∀ m, m < 7 → u (F + 6 + 2 * m) 0 = 0) ?_ ?_
    · refine Ok.count 7 (fun j c s => c = nI j ∧ (∀ c, (c < F + 6 ∨ F + 20 ≤ c) → s c = t1 c) ∧ ∀ m, m < j → s (F + 6 + 2 * m) 0 = 0) ?_ ?_ (Nat.zero_le _) ⟨rfl, fun _ _ => rfl, fun m hm => by omega⟩
      · rintro j c s hj ⟨rfl, sf, s0⟩
        unfold SX3_turnTo_22
        rw [el_fm gF hj]
        refine Ok.ifF (by rw [li_7, nI_leP (by omega) (by omega)]; omega) (Ok.ckT (inb_n hj (by omega)) (Ok.ckT ((finds_pl gF).2 j hj) (OkwrE (Ok.ret ⟨nI_1 j, fun c hc => by rw [wr_off c (by omega)]; exact sf c hc, fun m hm => ?_⟩))))
        by_cases e : m = j
        · subst e; rw [wrs]
        · rw [wrf (by omega)]; exact s0 m (by omega)
      · rintro c s ⟨rfl, sf, s0⟩
        unfold SX3_turnTo_22
        exact Ok.ifT (by rw [li_7, nI_leP (by omega) (by omega)]; omega) (Ok.ret ⟨sf, s0⟩)
    · rintro _ u ⟨uf, u0⟩
      exact Ok.ret ⟨h1.fr (uf _ (by omega)) (uf _ (by omega)) (uf _ (by omega)), fun m hm q => absurd (u0 m hm) q, fun c hc => by rw [uf c (by omega)]; exact f1 c (by omega)⟩
/-- what findingOf may change -/
def FF (s : Nat) (t u : St) : Prop := ∀ c, (c < 16 + 24 * s ∨ 36 + 24 * s ≤ c) → (c < 84 ∨ 98 ≤ c) → u c = t c
theorem r_findingOf {s m n l : Nat} {w : Nat → Nat → Nat} {t : St} (hs : s < 3) (hm : m < 7) (h : CN (12 + 24 * s) n l w t) (G : GN n l w) (h1 : 1 ≤ n) (hF : FI (16 + 24 * s) t) (hB : BI t) : Pc (FX11_findingOf (nI s) (nI m) t) (fun r u => r = some (22 + 24 * s + 2 * m) ∧ FDZ (22 + 24 * s + 2 * m) n w m u ∧ FI (16 + 24 * s) u ∧ BI u ∧ FF s t u) := by
  obtain ⟨hn, hw, hl⟩ := id G
  have gx := n_sl hs
  have gF := fs_sl hs
  unfold FX11_findingOf
  refine Pc.bq (g_netIn hs hn h.1) ?_
  rw [if_neg (c := n = 0) (by omega)]
  show Pc (chk (netAt (12 + 24 * s)) _) _
  rw [el11 hs, el_fm gF hm, show 16 + 24 * s + 6 + 2 * m = 22 + 24 * s + 2 * m by omega]
  refine Pc.ck (fun _ => Pc.bq (g_ms hm) (Pc.ifF (by decide) (Pc.ck (fun _ => Pc.ck (fun _ => Pc.bd _ (e_turnTo3 gF h gx (by omega) G hF).pc ?_)))))
  rintro _ t1 ⟨c1, k1, f1⟩
  have hx1 : CN (12 + 24 * s) n l w t1 := h.fr (f1 _ (by omega)) (f1 _ (by omega)) (f1 _ (by omega))
  have hB1 : BI t1 := hB.fr (fun c _ _ => f1 c (by omega))
  refine Pc.ck (fun _ => Pc.ck (fun _ => Pc.ck (fun _ => Pc.ck (fun gz => Pc.rdE rfl ?_))))
  have key : ∀ u, BI u → CN (16 + 24 * s + 2) n l w u → (∀ c, (c < 16 + 24 * s ∨ 36 + 24 * s ≤ c) → (c < 84 ∨ 98 ≤ c) → u c = t1 c) → (∀ c, 16 + 24 * s + 2 ≤ c → c < 36 + 24 * s → c ≠ 22 + 24 * s + 2 * m → c ≠ 22 + 24 * s + 2 * m + 1 → u c = t1 c) → FDZ (22 + 24 * s + 2 * m) n w m u → FDZ (22 + 24 * s + 2 * m) n w m u ∧ FI (16 + 24 * s) u ∧ BI u ∧ FF s t u := by
    intro u uB uc uf ug ud
    refine ⟨ud, ⟨n, l, w, G, uc, fun m' hm' h0 => ⟨h1, ?_⟩⟩, uB, fun c hc hc2 => by rw [uf c hc hc2]; exact f1 c (by omega)⟩
    by_cases e : m' = m
    · subst e
      rw [show 16 + 24 * s + 6 + 2 * m' = 22 + 24 * s + 2 * m' by omega]
      exact ud
    · have e1 : u (16 + 24 * s + 6 + 2 * m') = t1 (16 + 24 * s + 6 + 2 * m') := ug _ (by omega) (by omega) (by omega) (by omega)
      have e2 : u (16 + 24 * s + 6 + 2 * m' + 1) = t1 (16 + 24 * s + 6 + 2 * m' + 1) := ug _ (by omega) (by omega) (by omega) (by omega)
      rw [e1] at h0
      exact (k1 m' hm' h0).2.fr (fun i _ => by rw [e1]) e2
  refine Pc.bd (fun _ u => FDZ (22 + 24 * s + 2 * m) n w m u ∧ FI (16 + 24 * s) u ∧ BI u ∧ FF s t u) ?_ (fun _ u hu => Pc.ret ⟨rfl, hu⟩)
  refine Pc.ite (fun c => Pc.bd (fun _ u => FDZ (22 + 24 * s + 2 * m) n w m u ∧ BI u ∧ (∀ c, c ≠ 22 + 24 * s + 2 * m → c ≠ 22 + 24 * s + 2 * m + 1 → (c < 84 ∨ 98 ≤ c) → u c = t1 c)) ?_ ?_) (fun c => Pc.ret ?_)
  · rw [li_2]
    refine Pc.cv (nI_lit hm (by omega)) (Pc.ite (fun c2 => ?_) (fun c2 => ?_))
    · subst c2
      obtain ⟨n', l', w', G', h', hM⟩ := id hB1
      refine Pc.bd _ (r_findB hx1 gx (by omega) gz (by omega) G h1 h' G' hM (lvb_ok h1) (frb_ok hw hn h1)) ?_
      rintro _ u ⟨u1, u2, u3, u4, u5, u6, u7, u8⟩
      refine Pc.ret ⟨⟨u5, u6, u7, u8⟩, ⟨n, l, w, G, u1, u2⟩, fun c a b d => u3 c (by omega) a b⟩
    · refine Pc.bd _ (e_find hx1 gx gz hw hn hm c2 (by omega) (by omega) (R := R1 n w m) (C := C1 n w m) (fun S => rfl) (fun S => rfl) (b1_ok hw hn).1).pc ?_
      rintro _ u ⟨u1, u2, u3, u4, u5, u6⟩
      refine Pc.ret ⟨⟨?_, ?_, ?_, ?_⟩, hB1.fr (fun c a b => u1 c (by omega) (by omega) (by omega) (by omega) (by omega) (by omega)), fun c a b d => u1 c (by omega) (by omega) (by omega) (by omega) a b⟩
      · unfold lsv; rw [if_neg c2]; exact u3
      · unfold rwc; rw [if_neg c2]; exact u4
      · unfold fpt; rw [if_neg c2]; exact u5
      · unfold frw; rw [if_neg c2]; exact u6
  · rintro _ u ⟨u1, u2, u3⟩
    refine PcwrE (Pc.ret (key _ ?_ ?_ ?_ ?_ ?_))
    · exact u2.fr (fun c a b => wr_off c (by omega))
    · exact c1.fr (by rw [wr_off _ (by omega), u3 _ (by omega) (by omega) (by omega)]) (by rw [wr_off _ (by omega), u3 _ (by omega) (by omega) (by omega)]) (by rw [wr_off _ (by omega), u3 _ (by omega) (by omega) (by omega)])
    · intro c a b
      rw [wr_off c (by omega)]; exact u3 c (by omega) (by omega) b
    · intro c a b d e
      rw [wr_off c d]; exact u3 c d e (by omega)
    · exact u1.fr (fun i hi => wrn hi) (wr_off _ (by omega))
  · exact key t1 hB1 c1 (fun _ _ _ => rfl) (fun _ _ _ _ _ => rfl) (by have := (k1 m hm (by rw [show 16 + 24 * s + 6 + 2 * m = 22 + 24 * s + 2 * m by omega]; exact c)).2; rw [show 16 + 24 * s + 6 + 2 * m = 22 + 24 * s + 2 * m by omega] at this; exact this)
theorem g_findingOf0 {a b : Int32} {t : St} (h : ¬ IsR 3 a) : FX11_findingOf a b t = some (none, t) := by
  refine Ok.eq ?_
  unfold FX11_findingOf
  exact Ok.bq (g_netIn0 h) (Ok.ret ⟨rfl, rfl⟩)
theorem g_findingOfN {s : Nat} {b : Int32} {t : St} (hs : s < 3) (h : t (12 + 24 * s) 0 = nI 0) : FX11_findingOf (nI s) b t = some (none, t) := by
  refine Ok.eq ?_
  unfold FX11_findingOf
  exact Ok.bq (g_netIn hs (by omega) h) (Ok.ret ⟨rfl, rfl⟩)
theorem g_findingOfM {s n : Nat} {b : Int32} {t : St} (hs : s < 3) (hn : n < 10) (h : t (12 + 24 * s) 0 = nI n) (hb : ¬ IsR 7 b) : FX11_findingOf (nI s) b t = some (none, t) := by
  by_cases e : n = 0
  · subst e
    exact g_findingOfN hs h
  refine Ok.eq ?_
  unfold FX11_findingOf
  refine Ok.bq (g_netIn hs hn h) ?_
  rw [if_neg e]
  exact Ok.ckT (n_sl hs) (Ok.bq (g_ms0 hb) (Ok.ifT rfl (Ok.ret ⟨rfl, rfl⟩)))
end
section
/-! the reference finds the same -/
theorem m_laysLeast {s n m : Nat} {w : Nat → Nat → Nat} {t : St} (h : RN s n w t) (hs : s < 3) (hw : WF n w) (hn : n < 10) (hm : m < 7) : Ok (FX12_laysLeast (nI s) (nI m) t) (fun _ u => RN s n w u ∧ u 149 17 = nI (2 ^ n - 1) ∧ CSA n (fun _ _ => true) (cst n w m) u ∧ RSA 155 n (R2 n w m) u ∧ (∀ S p, S < 2 ^ n → p < n → S.testBit p = true → u 157 (9 * S + p) = nI 1000000)) := by
  unfold FX12_laysLeast
  refine Ok.bd _ (m_laysCosts h hs hw hn hm) ?_
  rintro _ t1 ⟨f1, e17, g1, hA, hT⟩
  have h1 : RN s n w t1 := h.fr (f1 150 (by decide) (by decide))
  refine Ok.bd _ (m_laysRest h1 hs hn hm (fun S p => cst_le hw hn) e17 hA (fun S p _ _ _ => ⟨_, rfl⟩)) ?_
  rintro _ t2 ⟨f2, hR⟩
  refine Ok.ret ⟨h1.fr (f2 150 (by decide)), by rw [f2 149 (by decide)]; exact e17, fun S p a b c => by rw [f2 157 (by decide)]; exact hA S p a b c, hR, fun S p a b c => by rw [f2 157 (by decide)]; exact hT S p a b c⟩
theorem cl0 : (0 : Int32).toNatClampNeg = 0 := by decide
theorem a_least {s n m : Nat} {w : Nat → Nat → Nat} {t : St} (h : RN s n w t) (hs : s < 3) (hw : WF n w) (hn : n < 10) (h1 : 1 ≤ n) (hm : m < 7) : Pc (FX12_least (nI s) (nI m) t) (fun r _ => r = nI (lsv n w m)) := by
  unfold FX12_least lsv
  refine Pc.bq (g_isNet hs hn h) ?_
  rw [if_neg (c := n = 0) (by omega), li_2]
  refine Pc.ifF (by decide) (Pc.bq (g_msM hm) (Pc.ifF (by decide) (Pc.cv (nI_lit hm (by omega)) (Pc.ite (fun c => ?_) (fun c => ?_)))))
  · rw [if_pos c]
    refine Pc.bd _ (r_leastBand hs hw hn h1 h (lvb_ok h1) (frb_ok hw hn h1)) ?_
    rintro _ u ⟨rfl, -⟩
    exact Pc.ret rfl
  · rw [if_neg c]
    refine Pc.bd _ (m_laysLeast h hs hw hn hm).pc ?_
    rintro _ u ⟨-, -, -, hR, -⟩
    refine Pc.ck (fun _ => Pc.rdE (x := nI (R2 n w m 0)) ?_ (Pc.ret ?_))
    · rw [cl0]; exact hR 0 (Nat.two_pow_pos n)
    · rw [R12 hw hn (Nat.two_pow_pos n)]
theorem a_laysBest {s n m : Nat} {w : Nat → Nat → Nat} {t : St} (h : RN s n w t) (hs : s < 3) (hw : WF n w) (hn : n < 10) (h1 : 1 ≤ n) (hm : m < 7) : Pc (FX12_laysBest (nI s) (nI m) t) (fun _ u => ∀ i, i < n → u 159 i = nI (frw n w m i)) := by
  unfold FX12_laysBest frw
  rw [li_2]
  refine Pc.cv (nI_lit hm (by omega)) (Pc.ite (fun c => ?_) (fun c => ?_))
  · rw [if_pos c]
    refine Pc.bd _ (r_leastBand hs hw hn h1 h (lvb_ok h1) (frb_ok hw hn h1)) ?_
    rintro _ t1 ⟨-, f1, b1⟩
    have ht1 := f1.rn h
    refine Pc.bd (fun _ u => ∀ i, i < n → u 159 i = nI (frb n w i)) ?_ (fun _ u hu => Pc.ret hu)
    refine (Ok.count n (fun j c s' => c = nI j ∧ (∀ c, c ≠ 159 → s' c = t1 c) ∧ ∀ i, i < j → s' 159 i = nI (frb n w i)) ?_ ?_ (Nat.zero_le _) ⟨rfl, fun _ _ => rfl, fun i hi => by omega⟩).pc
    · rintro j c s' hj ⟨rfl, sf, s1⟩
      unfold SX12_laysBest_14
      refine Ok.bq (q_points (ht1.fr (sf 150 (by decide))) hs) (Ok.ifF (by rw [nI_leP (by omega) (by omega)]; omega) (Ok.ckT (inb_n (by omega) (by omega)) ?_))
      rw [nI_cl (by omega)]
      refine Ok.rdE (x := nI (frb n w j)) (by rw [sf 158 (by decide)]; exact b1 j hj) (Ok.ckT (inb_n (by omega) (by omega)) (OkwrE (Ok.ret ⟨nI_1 j, fun c hc => by rw [wr_off c hc]; exact sf c hc, fun i hi => ?_⟩)))
      by_cases e : i = j
      · subst e; rw [wrs]
      · rw [wrn e]; exact s1 i (by omega)
    · rintro c s' ⟨rfl, sf, s1⟩
      unfold SX12_laysBest_14
      exact Ok.bq (q_points (ht1.fr (sf 150 (by decide))) hs) (Ok.ifT (by rw [nI_leP (by omega) (by omega)]; omega) (Ok.ret s1))
  · rw [if_neg c]
    refine Pc.bd _ (m_laysLeast h hs hw hn hm).pc ?_
    rintro _ t1 ⟨N1, e17, hA, hR, -⟩
    refine Pc.bd _ (m_bestLoop N1 hs hn hm (fun S p => cst_le hw hn) (fun S => R2_le hw hn) hA hR (k2_ok hw hn) (fun i hi => (b1_ok hw hn).1.lt hi) (fun i hi => ?_)).pc ?_
    · have := hdf_le (m := m) (o := brw (L1 n w m)) hw hn i
      omega
    · rintro _ u ⟨-, hu⟩
      exact Pc.ret hu
theorem a_best {s n m i : Nat} {w : Nat → Nat → Nat} {t : St} (h : RN s n w t) (hs : s < 3) (hw : WF n w) (hn : n < 10) (hi : i < n) (hm : m < 7) : Pc (FX12_best (nI s) (nI m) (nI i) t) (fun r _ => r = nI (frw n w m i)) := by
  unfold FX12_best
  refine Pc.bq (g_isPt hs hn h hi) (Pc.ifF (by decide) (Pc.bq (g_msM hm) (Pc.ifF (by decide) (Pc.bd _ (a_laysBest h hs hw hn (by omega) hm) ?_))))
  rintro _ u hu
  refine Pc.ck (fun _ => Pc.rdE (x := nI (frw n w m i)) ?_ (Pc.ret rfl))
  rw [nI_cl (by omega)]
  exact hu i hi
theorem a_ways {s n m : Nat} {w : Nat → Nat → Nat} {t : St} (h : RN s n w t) (hs : s < 3) (hw : WF n w) (hn : n < 10) (h1 : 1 ≤ n) (hm : m < 7) : Pc (FX12_ways (nI s) (nI m) t) (fun r _ => r = nI (rwc n w m)) := by
  unfold FX12_ways rwc
  refine Pc.bq (g_isNet hs hn h) ?_
  rw [if_neg (c := n = 0) (by omega), li_2]
  refine Pc.ifF (by decide) (Pc.bq (g_msM hm) (Pc.ifF (by decide) (Pc.cv (nI_lit hm (by omega)) (Pc.ite (fun c => ?_) (fun c => ?_)))))
  · rw [if_pos c]
    refine Pc.bd _ (r_leastBand hs hw hn h1 h (lvb_ok h1) (frb_ok hw hn h1)) ?_
    rintro _ u ⟨rfl, f1, -⟩
    refine Pc.bd _ (r_rowsOfBand hs hw hn h1 (by have := (lvb_ok (n := n) (w := w) h1).1; omega) (f1.rn h)) ?_
    rintro _ u ⟨rfl, -⟩
    exact Pc.ret rfl
  · rw [if_neg c]
    refine Pc.bd _ (m_laysLeast h hs hw hn hm).pc ?_
    rintro _ t1 ⟨N1, e17, hA, hR, -⟩
    refine Pc.bq (q_isGreatest hm) ?_
    by_cases g : Gr m
    · rw [if_pos (show m = 0 ∨ m = 1 ∨ m = 5 from g)]
      refine Pc.ifF (by decide) (Pc.ck (fun _ => Pc.rdE (x := nI (R2 n w m 0)) (by rw [cl0]; exact hR 0 (Nat.two_pow_pos n)) ?_))
      have h2 := R2_le (m := m) (S := 0) hw hn
      refine Pc.bd _ (m_rowsWithin N1 hs hn g (R := R1 n w m) (fun S p => cst_le hw hn) (by omega) e17 hA).pc ?_
      rintro _ u ⟨-, rfl⟩
      refine Pc.ret ?_
      unfold C1
      rw [cnt_0, Nat.sub_zero, R12 hw hn (Nat.two_pow_pos n)]
    · rw [if_neg (show ¬ (m = 0 ∨ m = 1 ∨ m = 5) from g)]
      refine Pc.ifT rfl (Pc.bd _ (m_rowsOfLeast N1 hs hn (L := 0) g (fun S p => cst_le hw hn) (fun S => R2_le hw hn) hR e17 hA).pc ?_)
      rintro _ u ⟨-, rfl⟩
      refine Pc.ret ?_
      rw [C12 hw hn g]
theorem a_firsts {s n m : Nat} {w : Nat → Nat → Nat} {t : St} (h : RN s n w t) (hs : s < 3) (hw : WF n w) (hn : n < 10) (h1 : 1 ≤ n) (hm : m < 7) : Pc (FX12_firsts (nI s) (nI m) t) (fun r _ => r = nI (fpt n w m)) := by
  unfold FX12_firsts fpt
  refine Pc.bq (g_isNet hs hn h) ?_
  rw [if_neg (c := n = 0) (by omega), li_2]
  refine Pc.ifF (by decide) (Pc.bq (g_msM hm) (Pc.ifF (by decide) (Pc.cv (nI_lit hm (by omega)) (Pc.ite (fun c => ?_) (fun c => ?_)))))
  · rw [if_pos c]
    refine Pc.bd _ (r_leastBand hs hw hn h1 h (lvb_ok h1) (frb_ok hw hn h1)) ?_
    rintro _ u ⟨rfl, f1, -⟩
    refine Pc.bd _ (r_rowsOfBand hs hw hn h1 (by have := (lvb_ok (n := n) (w := w) h1).1; omega) (f1.rn h)) ?_
    rintro _ u ⟨-, e19, -⟩
    exact Pc.rdE e19 (Pc.ret rfl)
  · rw [if_neg c]
    refine Pc.bd _ (m_laysLeast h hs hw hn hm).pc ?_
    rintro _ t1 ⟨N1, e17, hA, hR, -⟩
    have hp2 := Nat.two_pow_pos n
    generalize hB : (fun p => @decide (jn m 0 (jn m (cst n w m 0 p) (R2 n w m (0 ||| 2 ^ p))) = R2 n w m 0) (Classical.propDecidable _)) = B
    have hBp : ∀ p, B p = true ↔ jn m 0 (jn m (cst n w m 0 p) (R2 n w m (0 ||| 2 ^ p))) = R2 n w m 0 := fun p => by
      rw [← hB]
      exact @decide_eq_true_iff _ (Classical.propDecidable _)
    refine Pc.bd (fun r u => r = nI (mkm n B)) ?_ ?_
    · refine (Ok.count n (fun j c s' => t1 = s' ∧ c = (nI (mkm j B), nI j)) ?_ ?_ (Nat.zero_le _) ⟨rfl, rfl⟩).pc
      · rintro j c s' hj ⟨rfl, rfl⟩
        unfold SX12_firsts_51
        dsimp only
        refine Ok.bq (q_points N1 hs) (Ok.ifF (by rw [nI_leP (by omega) (by omega)]; omega) ?_)
        refine Ok.bd (fun r u => t1 = u ∧ r = if B j = true then 1 else 0) (q_keeps (S := 0) (had := 0) hn hm (fun S p => cst_le hw hn) (fun S => R2_le hw hn) hA hR (by omega) hp2 hj (fun _ q => ⟨rfl, by rw [if_pos ((hBp j).mpr q)]⟩) (fun q => ⟨rfl, by rw [if_neg (fun z => q ⟨Nat.zero_testBit j, (hBp j).mp z⟩)]⟩)) ?_
        rintro _ _ ⟨rfl, rfl⟩
        refine Ok.bq (a := nI (if B j = true then 2 ^ j else 0)) (t := t1) (Ok.eq ?_) (Ok.ret ⟨rfl, by rw [nI_1, nI_or]; rfl⟩)
        by_cases c2 : B j = true
        · rw [if_pos c2, if_pos c2]
          exact Ok.ifF (by decide) (Ok.ret ⟨rfl, by rw [shl_1 (by omega)]⟩)
        · rw [if_neg c2, if_neg c2]
          exact Ok.ifT rfl (Ok.ret ⟨rfl, rfl⟩)
      · rintro c s' ⟨rfl, rfl⟩
        unfold SX12_firsts_51
        dsimp only
        exact Ok.bq (q_points N1 hs) (Ok.ifT (by rw [nI_leP (by omega) (by omega)]; omega) (Ok.ret rfl))
    · rintro _ u rfl
      refine Pc.ret ?_
      congr 1
      refine bit_ext (n := n) mkm_lt mkm_lt (fun k hk => ?_)
      have e0 : R1 n w m 0 = R2 n w m 0 := R12 hw hn hp2
      have e1 := R12 (m := m) hw hn (or_up (q := k) hp2 hk)
      have key := ld_iff (had := 0) (p := k) (S := 0) (R1_pr (m := m) hw hn).1 (R1_pr hw hn).2.1 (crw_pr (C := C1 n w m) (fun S => rfl)) hp2 hk ⟨fun _ => ⟨Nat.zero_le _, Nat.le_refl _, Nat.le_max_right _ _⟩, fun _ => Nat.zero_add _⟩
      have key2 : (L1 n w m 0).testBit k = true ↔ B k = true := by
        rw [hBp k, ← e0, ← e1]
        exact key.trans ⟨fun q => q.2, fun q => ⟨Nat.zero_testBit k, q⟩⟩
      rw [mkm_bit]
      simp only [hk, decide_true, Bool.true_and]
      cases q : B k
      · exact (bF (fun z => by rw [key2.mp z] at q; cases q)).symm
      · exact (key2.mpr q).symm
/-! within, of both -/
theorem c_within {s n l m v : Nat} {w : Nat → Nat → Nat} {t : St} (hs : s < 3) (hm : m < 7) (h : CN (12 + 24 * s) n l w t) (G : GN n l w) (h1 : 1 ≤ n) (hB : BI t) (hv : v < 2147483648) : Pc (FX11_within (nI s) (nI m) (nI v) t) (fun r u => (r = if m = 2 then nI (bct n w v n 0 (fun _ => 0)) else if Gr m then nI (crw n (okc m v (cst n w m) (R1 n w m)) n 0) else -2) ∧ BI u ∧ ∀ c, (c < 84 ∨ 98 ≤ c) → u c = t c) := by
  obtain ⟨hn, hw, hl⟩ := id G
  have gx := n_sl hs
  unfold FX11_within
  refine Pc.bq (g_netIn hs hn h.1) ?_
  rw [if_neg (c := n = 0) (by omega)]
  show Pc (chk (netAt (12 + 24 * s)) _) _
  refine Pc.ck (fun _ => Pc.bq (g_bd hm) ?_)
  by_cases c2 : m = 2
  · subst c2
    rw [if_pos (c := (2 : Nat) = 2) rfl]
    refine Pc.ifF (by decide) (Pc.ifT (by rw [li_0, nI_leP (by omega) (by omega)]; omega) (Pc.ifT rfl ?_))
    obtain ⟨n', l', w', G', h', hM⟩ := hB
    refine Pc.bd _ (r_rowsWithinB h gx (by omega) G h1 h' G' hM hv) ?_
    rintro _ u ⟨rfl, u1, u2, u3⟩
    exact Pc.ret ⟨rfl, ⟨n, l, w, G, u1, u2⟩, fun c hc => u3 c (by omega)⟩
  · rw [if_neg c2]
    by_cases g : Gr m
    · rw [if_pos (show m = 0 ∨ m = 1 ∨ m = 2 ∨ m = 5 by unfold Gr at g; omega), if_pos g]
      refine Pc.ifF (by decide) (Pc.ifT (by rw [li_0, nI_leP (by omega) (by omega)]; omega) ?_)
      rw [li_2]
      refine Pc.ifF (by rw [nI_lit hm (by omega)]; exact c2) (Pc.bd (fun r u => r = nI (crw n (okc m v (cst n w m) (R1 n w m)) n 0) ∧ ∀ c, c ≠ 85 → c ≠ 87 → c ≠ 89 → u c = t c) ?_ ?_)
      · unfold FX9_rowsWithin
        refine Pc.ck (fun _ => Pc.bd _ (e_fillSteps (ta := 85) h gx hw hn hm (by decide +kernel) (by omega) (by omega)).pc ?_)
        rintro _ t1 ⟨f1, S1⟩
        have N1 : CN (12 + 24 * s) n l w t1 := h.fr (f1 _ (by omega) (by omega)) (f1 _ (by omega) (by omega)) (f1 _ (by omega) (by omega))
        refine Pc.bd _ (e_countRows (R := fun _ => 0) N1 gx hn (L := v) hm hv (fun S p => cst_le hw hn) S1 (fun q => absurd g q) (fun S => by omega) (by omega)).pc ?_
        rintro _ t2 ⟨f2, S2⟩
        refine Pc.ck (fun _ => Pc.rdE (x := nI (crw n (okc m v (cst n w m) (R1 n w m)) n 0)) ?_ (Pc.ret ⟨rfl, fun c k1 k2 k3 => by rw [f2 c k3]; exact f1 c k1 k2⟩))
        rw [cl0, S2 0 (Nat.two_pow_pos n)]
        dsimp only
        rw [cnt_0, Nat.sub_zero]
        congr 1
        refine crw_congr (fun S p _ _ _ => ?_) (Nat.two_pow_pos n)
        unfold okc
        rw [if_pos (show m = 0 ∨ m = 1 ∨ m = 5 from g), if_pos (show m = 0 ∨ m = 1 ∨ m = 5 from g)]
      · rintro _ u ⟨rfl, uf⟩
        exact Pc.ret ⟨rfl, hB.fr (fun c a b => uf c (by omega) (by omega) (by omega)), fun c hc => uf c (by omega) (by omega) (by omega)⟩
    · rw [if_neg (show ¬ (m = 0 ∨ m = 1 ∨ m = 2 ∨ m = 5) by unfold Gr at g; omega), if_neg g]
      exact Pc.ifT rfl (Pc.ret ⟨rfl, hB, fun _ _ => rfl⟩)
theorem crw_cap {n m L M : Nat} {w : Nat → Nat → Nat} {R S : Nat → Nat} (hw : WF n w) (hn : n < 10) (g : Gr m) (h : L = M ∨ (729 ≤ L ∧ 729 ≤ M)) : crw n (okc m L (cst n w m) R) n 0 = crw n (okc m M (cst n w m) S) n 0 := by
  refine crw_congr (fun A p _ _ _ => ?_) (Nat.two_pow_pos n)
  have h9 := cst_le (m := m) (S := A) (p := p) hw hn
  unfold okc
  rw [if_pos (show m = 0 ∨ m = 1 ∨ m = 5 from g), if_pos (show m = 0 ∨ m = 1 ∨ m = 5 from g)]
  rcases h with rfl | ⟨a, b⟩
  · rfl
  · rw [decide_eq_true (show cst n w m A p ≤ L by omega), decide_eq_true (show cst n w m A p ≤ M by omega)]
theorem a_within {s n m v : Nat} {w : Nat → Nat → Nat} {t : St} (h : RN s n w t) (hs : s < 3) (hw : WF n w) (hn : n < 10) (h1 : 1 ≤ n) (hm : m < 7) (hv : v < 2147483648) : Pc (FX12_within (nI s) (nI m) (nI v) t) (fun r _ => r = if m = 2 then nI (bct n w v n 0 (fun _ => 0)) else if Gr m then nI (crw n (okc m v (cst n w m) (R1 n w m)) n 0) else -2) := by
  unfold FX12_within
  refine Pc.bq (g_isNet hs hn h) ?_
  rw [if_neg (c := n = 0) (by omega), li_2]
  refine Pc.ifF (by decide) (Pc.bq (g_msM hm) (Pc.ifF (by decide) (Pc.cv (nI_lit hm (by omega)) (Pc.ite (fun c => ?_) (fun c => ?_)))))
  · rw [if_pos c]
    refine Pc.ifT (by rw [li_0, nI_leP (by omega) (by omega)]; omega) (Pc.ifT (by rw [c]) ?_)
    rw [li_9, mnI_n hv (by omega)]
    have e1 : Nat.min v 9 ≤ 9 := Nat.min_le_right _ _
    refine Pc.bd _ (r_rowsOfBand hs hw hn h1 (by omega) h) ?_
    rintro _ u ⟨rfl, -⟩
    refine Pc.ret ?_
    by_cases e : v ≤ 9
    · rw [show Nat.min v 9 = v from Nat.min_eq_left e]
    · rw [show Nat.min v 9 = 9 from Nat.min_eq_right (by omega), bct_cap (L := 9) (M := v) (by omega) (by omega) (by omega)]
  · rw [if_neg c]
    refine Pc.bq (q_isGreatest hm) ?_
    by_cases g : Gr m
    · rw [if_pos (show m = 0 ∨ m = 1 ∨ m = 5 from g), if_pos g]
      refine Pc.ifF (by decide) (Pc.ifT (by rw [li_0, nI_leP (by omega) (by omega)]; omega) (Pc.ifF (by rw [nI_lit hm (by omega)]; exact c) ?_))
      rw [li_999999, mnI_n hv (by omega)]
      have e1 : Nat.min v 999999 ≤ 999999 := Nat.min_le_right _ _
      refine Pc.bd _ (m_laysCosts h hs hw hn hm).pc ?_
      rintro _ t1 ⟨f1, e17, -, hA, -⟩
      refine Pc.bd _ (m_rowsWithin (h.fr (f1 150 (by decide) (by decide))) hs hn g (R := R1 n w m) (fun S p => cst_le hw hn) (by omega) e17 hA).pc ?_
      rintro _ u ⟨-, rfl⟩
      refine Pc.ret ?_
      congr 1
      refine crw_cap hw hn g ?_
      by_cases e : v ≤ 999999
      · exact Or.inl (Nat.min_eq_left e)
      · exact Or.inr ⟨by rw [show Nat.min v 999999 = 999999 from Nat.min_eq_right (by omega)]; omega, by omega⟩
    · rw [if_neg (show ¬ (m = 0 ∨ m = 1 ∨ m = 5) from g), if_neg g]
      exact Pc.ifT rfl (Pc.ret rfl)
end
section
/-! slots, and slots as they were -/
abbrev V4 := Nat × Nat × (Nat → Nat → Nat) × (Nat → Nat)
def GV (v : V4) : Prop := GN v.1 v.2.1 v.2.2.1 ∧ v.2.1 ≤ 30 ∧ PFX v.1 v.1 v.2.2.2 ∧ ∀ i, v.1 ≤ i → v.2.2.2 i = 0
def CS (x : Nat) (v : V4) (t : St) : Prop := CN x v.1 v.2.1 v.2.2.1 t ∧ CO x v.1 v.2.2.2 t
theorem CS.fr {x : Nat} {v : V4} {t u : St} (h : CS x v t) (e0 : u x = t x) (e1 : u (x + 1) = t (x + 1)) (e2 : u (x + 2) = t (x + 2)) (e3 : u (x + 3) = t (x + 3)) : CS x v u := ⟨h.1.fr e0 e1 e3, fun i hi => by rw [e2]; exact h.2 i hi⟩
theorem CS.fr4 {x : Nat} {v : V4} {t u : St} (h : CS x v t) (e : ∀ c, x ≤ c → c ≤ x + 3 → u c = t c) : CS x v u := h.fr (e _ (by omega) (by omega)) (e _ (by omega) (by omega)) (e _ (by omega) (by omega)) (e _ (by omega) (by omega))
theorem CS.cp {x y : Nat} {v : V4} {t u : St} (h : CS y v t) (hn : v.1 < 10) (e0 : u x 0 = t y 0) (e1 : u x 1 = t y 1) (e2 : ∀ i, i < 9 → u (x + 1) i = t (y + 1) i) (e4 : ∀ i, i < 9 → u (x + 2) i = t (y + 2) i) (e3 : ∀ i, i < 81 → u (x + 3) i = t (y + 3) i) : CS x v u := ⟨h.1.cp e0 e1 e2 e3, fun i hi => (e4 i (by omega)).trans (h.2 i hi)⟩
/-- the 91 numbers of a slot -/
def enc (v : V4) (k : Nat) : Nat := if k = 0 then v.1 else if k < 82 then v.2.2.1 ((k - 1) / 9) ((k - 1) % 9) else v.2.2.2 (k - 82)
theorem GV.o9 {v : V4} (h : GV v) (i : Nat) : v.2.2.2 i < 9 := by
  by_cases c : i < v.1
  · have := h.2.2.1.1 i c
    have := h.1.1
    omega
  · rw [h.2.2.2 i (by omega)]; omega
theorem GV.on {v : V4} (h : GV v) {i : Nat} (hi : i < v.1) : v.2.2.2 i < v.1 := h.2.2.1.1 i hi
theorem enc_lt {v : V4} (h : GV v) (k : Nat) : enc v k < 10 := by
  unfold enc
  have a1 := h.1.1
  have a2 := h.1.2.1.1 ((k - 1) / 9) ((k - 1) % 9)
  have a3 := h.o9 (k - 82)
  split
  · exact a1
  · split
    · exact a2
    · omega
theorem enc_inj {v u : V4} (h : GV v) (g : GV u) (e : ∀ k, k < 91 → enc v k = enc u k) : v = u := by
  obtain ⟨n, l, w, o⟩ := v
  obtain ⟨n', l', w', o'⟩ := u
  have e0 : n = n' := e 0 (by omega)
  subst e0
  obtain ⟨⟨hn, hw, hl⟩, -, -, ho⟩ := h
  obtain ⟨⟨-, hw', hl'⟩, -, -, ho'⟩ := g
  dsimp only at hn hw hl ho hw' hl' ho'
  have ew : w = w' := by
    refine hw.ext hw' (fun a b ha hb => ?_)
    have := e (1 + 9 * a + b) (by omega)
    unfold enc at this
    rw [if_neg (by omega), if_pos (by omega), if_neg (by omega), if_pos (by omega)] at this
    rw [show (1 + 9 * a + b - 1) / 9 = a by omega, show (1 + 9 * a + b - 1) % 9 = b by omega] at this
    exact this
  subst ew
  have el : l = l' := by omega
  subst el
  have eo : o = o' := by
    funext i
    by_cases c : i < 9
    · have := e (82 + i) (by omega)
      unfold enc at this
      rw [if_neg (by omega), if_neg (by omega), if_neg (by omega), if_neg (by omega), show 82 + i - 82 = i by omega] at this
      exact this
    · rw [ho i (by omega), ho' i (by omega)]
  rw [eo]
def RA (b e : Nat) (A : Nat → V4) (t : St) : Prop := ∀ k, k < 273 → t b (e + k) = nI (enc (A (k / 91)) (k % 91))
theorem RA.fr {b e : Nat} {A : Nat → V4} {t u : St} (h : RA b e A t) (g : ∀ k, k < 273 → u b (e + k) = t b (e + k)) : RA b e A u := fun k hk => by rw [g k hk]; exact h k hk
theorem RA.rn {A : Nat → V4} {t : St} (h : RA 150 0 A t) {s : Nat} (hs : s < 3) : RN s (A s).1 (A s).2.2.1 t := by
  refine ⟨?_, fun a b ha hb => ?_⟩
  · have := h (91 * s) (by omega)
    rw [show 91 * s / 91 = s by omega, show 91 * s % 91 = 0 by omega, Nat.zero_add] at this
    exact this
  · have := h (91 * s + 1 + 9 * a + b) (by omega)
    rw [show (91 * s + 1 + 9 * a + b) / 91 = s by omega, show (91 * s + 1 + 9 * a + b) % 91 = 1 + 9 * a + b by omega, Nat.zero_add] at this
    rw [this]
    unfold enc
    rw [if_neg (by omega), if_pos (by omega), show (1 + 9 * a + b - 1) / 9 = a by omega, show (1 + 9 * a + b - 1) % 9 = b by omega]
theorem RA.ro {A : Nat → V4} {t : St} (h : RA 150 0 A t) {s : Nat} (hs : s < 3) (g : GV (A s)) : RO s (A s).1 (A s).2.2.2 t := by
  intro i hi
  have := h (91 * s + 82 + i) (by omega)
  rw [show (91 * s + 82 + i) / 91 = s by omega, show (91 * s + 82 + i) % 91 = 82 + i by omega, Nat.zero_add] at this
  rw [this]
  unfold enc
  rw [if_neg (by omega), if_neg (by omega), show 82 + i - 82 = i by omega]
  by_cases c : i < (A s).1
  · rw [if_pos c]
  · rw [if_neg c, g.2.2.2 i (by omega)]
def upA (A : Nat → V4) (s : Nat) (v : V4) : Nat → V4 := fun r => if r = s then v else A r
theorem upA_s {A : Nat → V4} {s : Nat} {v : V4} : upA A s v s = v := if_pos rfl
theorem upA_n {A : Nat → V4} {s r : Nat} {v : V4} (h : r ≠ s) : upA A s v r = A r := if_neg h
theorem upA_self {A : Nat → V4} {s : Nat} : upA A s (A s) = A := funext (fun r => by
  by_cases e : r = s
  · subst e; exact upA_s
  · exact upA_n e)
theorem RA.up {A : Nat → V4} {t u : St} (h : RA 150 0 A t) {s : Nat} (hs : s < 3) {v : V4} (hn : RN s v.1 v.2.2.1 u) (ho : RO s v.1 v.2.2.2 u) (hv : GV v) (f : ∀ j, (j < 91 * s ∨ 91 * s + 91 ≤ j) → u 150 j = t 150 j) : RA 150 0 (upA A s v) u := by
  intro k hk
  rw [Nat.zero_add]
  by_cases e : k / 91 = s
  · rw [e, upA_s]
    unfold enc
    by_cases c0 : k % 91 = 0
    · rw [if_pos c0, ← hn.1]
      congr 1
      omega
    · rw [if_neg c0]
      by_cases c1 : k % 91 < 82
      · rw [if_pos c1, ← hn.2 ((k % 91 - 1) / 9) ((k % 91 - 1) % 9) (by omega) (by omega)]
        congr 1
        omega
      · rw [if_neg c1]
        have := ho (k % 91 - 82) (by omega)
        rw [show 91 * s + 82 + (k % 91 - 82) = k by omega] at this
        rw [this]
        by_cases c : k % 91 - 82 < v.1
        · rw [if_pos c]
        · rw [if_neg c, hv.2.2.2 _ (by omega)]
  · rw [upA_n e, f k (by omega)]
    have := h k hk
    rw [Nat.zero_add] at this
    exact this
/-- one more act behind m -/
def kpu (K : Nat → Nat → V4) (m : Nat) (A : Nat → V4) : Nat → Nat → V4 := fun j => if m = 10 then (if j < 10 then K (j + 1) else A) else (if j ≤ m then K j else A)
def mpu (m : Nat) : Nat := if m = 10 then 10 else m + 1
def NXT (K : Nat → Nat → V4) (m s : Nat) (v : V4) (K' : Nat → Nat → V4) (m' : Nat) : Prop := (v = K m s ∧ K' = K ∧ m' = m) ∨ (v ≠ K m s ∧ K' = kpu K m (upA (K m) s v) ∧ m' = mpu m)
theorem kpu_cur {K : Nat → Nat → V4} {m : Nat} {A : Nat → V4} : kpu K m A (mpu m) = A := by
  unfold kpu mpu
  by_cases c : m = 10
  · rw [if_pos c, if_pos c, if_neg (by omega)]
  · rw [if_neg c, if_neg c, if_neg (by omega)]
theorem NXT.cur {K K' : Nat → Nat → V4} {m m' s : Nat} {v : V4} (h : NXT K m s v K' m') : K' m' = upA (K m) s v := by
  rcases h with ⟨rfl, rfl, rfl⟩ | ⟨-, rfl, rfl⟩
  · exact upA_self.symm
  · exact kpu_cur
def GK (K : Nat → Nat → V4) (m : Nat) : Prop := m ≤ 10 ∧ ∀ j, j ≤ m → ∀ s, s < 3 → GV (K j s)
theorem GK.nx {K K' : Nat → Nat → V4} {m m' s : Nat} {v : V4} (h : GK K m) (hv : GV v) (g : NXT K m s v K' m') : GK K' m' := by
  rcases g with ⟨rfl, rfl, rfl⟩ | ⟨-, rfl, rfl⟩
  · exact h
  · have hm := h.1
    have hA : ∀ r, r < 3 → GV (upA (K m) s v r) := fun r hr => by
      by_cases e : r = s
      · rw [e, upA_s]; exact hv
      · rw [upA_n e]; exact h.2 m (Nat.le_refl _) r hr
    refine ⟨by unfold mpu; split <;> omega, fun j hj r hr => ?_⟩
    unfold kpu
    unfold mpu at hj
    by_cases c : m = 10
    · rw [if_pos c] at hj ⊢
      by_cases c2 : j < 10
      · rw [if_pos c2]; exact h.2 (j + 1) (by omega) r hr
      · rw [if_neg c2]; exact hA r hr
    · rw [if_neg c] at hj ⊢
      by_cases c2 : j ≤ m
      · rw [if_pos c2]; exact h.2 j c2 r hr
      · rw [if_neg c2]; exact hA r hr
/-! the class -/
def HCs (K : Nat → Nat → V4) (m : Nat) (t : St) : Prop := t 98 0 = nI m ∧ ∃ nx, nx < 10 ∧ t 98 1 = nI nx ∧ ∀ j, j < m → ∃ s, s < 3 ∧ t 99 ((nx + 10 - m + j) % 10) = nI s ∧ CS (101 + 4 * ((nx + 10 - m + j) % 10)) (K j s) t ∧ ∀ r, r < 3 → r ≠ s → K (j + 1) r = K j r
def CST (K : Nat → Nat → V4) (m : Nat) (t : St) : Prop := (∀ s, s < 3 → CS (12 + 24 * s) (K m s) t) ∧ HCs K m t
theorem HCs.fr {K : Nat → Nat → V4} {m : Nat} {t u : St} (h : HCs K m t) (hm : m ≤ 10) (e : ∀ c, 98 ≤ c → c ≤ 140 → u c = t c) : HCs K m u := by
  obtain ⟨h0, nx, h1, h2, h3⟩ := h
  refine ⟨by rw [e 98 (by omega) (by omega)]; exact h0, nx, h1, by rw [e 98 (by omega) (by omega)]; exact h2, fun j hj => ?_⟩
  obtain ⟨s, a1, a2, a3, a4⟩ := h3 j hj
  exact ⟨s, a1, by rw [e 99 (by omega) (by omega)]; exact a2, a3.fr4 (fun c c1 c2 => e c (by omega) (by omega)), a4⟩
theorem CST.fr {K : Nat → Nat → V4} {m : Nat} {t u : St} (h : CST K m t) (hm : m ≤ 10) (e1 : ∀ s, s < 3 → ∀ c, 12 + 24 * s ≤ c → c ≤ 12 + 24 * s + 3 → u c = t c) (e : ∀ c, 98 ≤ c → c ≤ 140 → u c = t c) : CST K m u := ⟨fun s hs => (h.1 s hs).fr4 (e1 s hs), h.2.fr hm e⟩
def dfo (n : Nat) (o o' : Nat → Nat) : Nat := sm n (fun i => if o i = o' i then 0 else 1)
theorem dfo_le {n : Nat} {o o' : Nat → Nat} : dfo n o o' ≤ n := sm_le1 (fun i => by split <;> omega)
theorem dfo_sy {n : Nat} {o o' : Nat → Nat} : dfo n o o' = dfo n o' o := sm_congr (fun i _ => by
  by_cases c : o i = o' i
  · rw [if_pos c, if_pos c.symm]
  · rw [if_neg c, if_neg (fun q => c q.symm)])
theorem dfo_0 {o o' : Nat → Nat} : ∀ {n : Nat}, dfo n o o' = 0 ↔ ∀ i, i < n → o i = o' i
  | 0 => ⟨fun _ i hi => by omega, fun _ => rfl⟩
  | n + 1 => by
    have ih := dfo_0 (o := o) (o' := o') (n := n)
    have e : dfo (n + 1) o o' = dfo n o o' + (if o n = o' n then 0 else 1) := rfl
    rw [e]
    by_cases c : o n = o' n
    · rw [if_pos c, Nat.add_zero, ih]
      refine ⟨fun h i hi => ?_, fun h i hi => h i (by omega)⟩
      by_cases q : i = n
      · rw [q]; exact c
      · exact h i (by omega)
    · rw [if_neg c]
      exact ⟨fun h => by omega, fun h => absurd (h n (Nat.lt_succ_self n)) c⟩
theorem q_placesUnlike {x y n : Nat} {o o' : Nat → Nat} {t : St} (gx : netAt x = true) (gy : netAt y = true) (hn : n < 10) (h0 : t x 0 = nI n) (hx : CO x n o t) (hy : CO y n o' t) (h9 : ∀ i, i < n → o i < 9) (h9' : ∀ i, i < n → o' i < 9) : FX5_placesUnlike x y t = some (nI (dfo n o o'), t) := by
  refine Ok.eq ?_
  unfold FX5_placesUnlike
  refine Ok.ckT gx (Ok.ckT gy (Ok.bq (a := nI (dfo n o o')) (t := t) (wq n (fun j => (nI (dfo j o o'), nI j)) (fun j hj => ?_) ?_) (Ok.ret ⟨rfl, rfl⟩)))
  · unfold SX5_placesUnlike_4
    dsimp only
    refine Ok.rdE h0 (Ok.ifF (by rw [nI_leP (by omega) (by omega)]; omega) (Ok.ckT (inb_n (by omega) (by omega)) ?_))
    rw [nI_cl (by omega)]
    refine Ok.rdE (hx j hj) (Ok.ckT (inb_n (by omega) (by omega)) (Ok.rdE (hy j hj) ?_))
    have a1 := h9 j hj
    have a2 := h9' j hj
    refine Ok.bq (a := nI (dfo (j + 1) o o')) (t := t) (Ok.eq ?_) (Ok.ret ⟨rfl, by rw [nI_1]⟩)
    show Ok _ (fun r u => t = u ∧ r = nI (dfo j o o' + (if o j = o' j then 0 else 1)))
    refine Ok.cv (nI_eqP (by omega) (by omega)) (Ok.ite (fun c => Ok.ret ⟨rfl, ?_⟩) (fun c => Ok.ret ⟨rfl, ?_⟩))
    · rw [if_pos c, Nat.add_zero]
    · rw [if_neg c, nI_1]
  · unfold SX5_placesUnlike_4
    dsimp only
    exact Ok.rdE h0 (Ok.ifT (by rw [nI_leP (by omega) (by omega)]; omega) (Ok.ret ⟨rfl, rfl⟩))
theorem e_sameAs {x y : Nat} {v u : V4} {t : St} (gx : netAt x = true) (gy : netAt y = true) (h : CS x v t) (h' : CS y u t) (G : GV v) (G' : GV u) {Q : Int32 → St → Prop} (q1 : v = u → Q 1 t) (q0 : v ≠ u → Q 0 t) : Ok (FX5_sameAs x y t) Q := by
  unfold FX5_sameAs
  refine Ok.ckT gx (Ok.ckT gy (Ok.bd (fun r z => t = z ∧ ((r = 1 ∧ v.1 = u.1 ∧ v.2.2.1 = u.2.2.1) ∨ (r = 0 ∧ ¬ (v.1 = u.1 ∧ v.2.2.1 = u.2.2.1)))) (e_sameLines h.1 h'.1 gx gy G.1 G'.1 (fun a b => ⟨rfl, Or.inl ⟨rfl, a, b⟩⟩) (fun a => ⟨rfl, Or.inr ⟨rfl, a⟩⟩)) ?_))
  obtain ⟨n, l, w, o⟩ := v
  obtain ⟨n', l', w', o'⟩ := u
  rintro r _ ⟨rfl, ⟨rfl, e1, e2⟩ | ⟨rfl, e⟩⟩
  · dsimp only at e1 e2
    subst e1
    subst e2
    have hn : n < 10 := G.1.1
    have l1 : 2 * l = dcn n w := G.1.2.2
    have l2 : 2 * l' = dcn n w := G'.1.2.2
    have : l = l' := by omega
    subst this
    refine Ok.ifF (by decide) (Ok.bq (q_placesUnlike (o := o) (o' := o') gx gy hn h.1.1 h.2 h'.2 (fun i _ => G.o9 i) (fun i _ => G'.o9 i)) ?_)
    have hd := dfo_le (n := n) (o := o) (o' := o')
    refine Ok.cv (nI_q0 (by omega)) (Ok.ite (fun c => Ok.ret (q1 ?_)) (fun c => Ok.ret (q0 (fun q => c ?_))))
    · have : o = o' := funext (fun i => by
        by_cases q : i < n
        · exact dfo_0.mp c i q
        · have a : o i = 0 := G.2.2.2 i (by show n ≤ i; omega)
          have b : o' i = 0 := G'.2.2.2 i (by show n ≤ i; omega)
          rw [a, b])
      rw [this]
    · have : o = o' := congrArg (fun z : V4 => z.2.2.2) q
      rw [this]
      exact dfo_0.mpr (fun _ _ => rfl)
  · exact Ok.ifT rfl (Ok.ret (q0 (fun q => e (by rw [q]; exact ⟨rfl, rfl⟩))))
theorem el100 {k : Nat} (hk : k < 10) : el 100 (nI k) = 101 + 4 * k := by
  rcases (show k = 0 ∨ k = 1 ∨ k = 2 ∨ k = 3 ∨ k = 4 ∨ k = 5 ∨ k = 6 ∨ k = 7 ∨ k = 8 ∨ k = 9 by omega) with rfl | rfl | rfl | rfl | rfl | rfl | rfl | rfl | rfl | rfl <;> decide +kernel
theorem n_hs {k : Nat} (hk : k < 10) : netAt (101 + 4 * k) = true := by
  rcases (show k = 0 ∨ k = 1 ∨ k = 2 ∨ k = 3 ∨ k = 4 ∨ k = 5 ∨ k = 6 ∨ k = 7 ∨ k = 8 ∨ k = 9 by omega) with rfl | rfl | rfl | rfl | rfl | rfl | rfl | rfl | rfl | rfl <;> decide +kernel
theorem e_remember {K : Nat → Nat → V4} {m s : Nat} {v : V4} {t : St} (hG : GK K m) (hs : s < 3) (h141 : CS 141 (K m s) t) (hH : HCs K m t) : Ok (FX4_remember (nI s) 141 t) (fun _ u => HCs (kpu K m (upA (K m) s v)) (mpu m) u ∧ ∀ c, (c < 98 ∨ 140 < c) → u c = t c) := by
  obtain ⟨h0, nx, hx, h1, h2⟩ := hH
  have hm := hG.1
  unfold FX4_remember
  refine Ok.ckT n_141 (Ok.rdE h1 (Ok.ckT (inb_n hx (by omega)) (OkwrE ?_)))
  rw [nI_cl (by omega)]
  have w1 : ∀ c, c ≠ 99 → wr t 99 nx (nI s) c = t c := fun c hc => wr_off c hc
  refine Ok.rdE (x := nI nx) (by rw [w1 98 (by decide)]; exact h1) ?_
  rw [el100 hx]
  refine Ok.ckT (inb_n hx (by omega)) (Ok.ckT (n_hs hx) (Ok.bd _ (e_copyFrom (n_hs hx) n_141 (by omega)) ?_))
  rintro _ t1 ⟨f1, a0, a1, a2, a4, a3⟩
  have ht1 : CS (101 + 4 * nx) (K m s) t1 := (h141.fr4 (u := wr t 99 nx (nI s)) (fun c c1 c2 => w1 c (by omega))).cp (hG.2 m (Nat.le_refl _) s hs).1.1 a0 a1 a2 a4 a3
  have e98 : t1 98 = t 98 := by rw [f1 98 (by omega), w1 98 (by decide)]
  refine Ok.rdE (x := nI nx) (by rw [e98]; exact h1) (OkwrE (Ok.rdE (x := nI m) (by rw [wrn (by decide), e98]; exact h0) (OkwrE (Ok.ret ?_))))
  have ei : irem (nI nx + 1) (10 : Int32) = nI ((nx + 1) % 10) := by
    rw [nI_1, li_10]
    exact nI_remN (by omega) (by omega) (by omega)
  have em : mnI (10 : Int32) (nI m + 1) = nI (mpu m) := by
    rw [nI_1, li_10, mnI_n (by omega) (by omega)]
    unfold mpu
    by_cases c : m = 10
    · rw [if_pos c, c]; rfl
    · rw [if_neg c, show Nat.min 10 (m + 1) = m + 1 from Nat.min_eq_right (by omega)]
  rw [ei, em]
  have wf : ∀ c, c ≠ 98 → wr (wr t1 98 1 (nI ((nx + 1) % 10))) 98 0 (nI (mpu m)) c = t1 c := fun c hc => by rw [wr_off c hc, wr_off c hc]
  have keep : ∀ k, k < 10 → k ≠ nx → ∀ v', CS (101 + 4 * k) v' t → CS (101 + 4 * k) v' (wr (wr t1 98 1 (nI ((nx + 1) % 10))) 98 0 (nI (mpu m))) := fun k hk hkn v' g => g.fr4 (fun c c1 c2 => by rw [wf c (by omega), f1 c (by omega), w1 c (by omega)])
  have k99 : ∀ k, k < 10 → k ≠ nx → wr (wr t1 98 1 (nI ((nx + 1) % 10))) 98 0 (nI (mpu m)) 99 k = t 99 k := fun k hk hkn => by rw [wf 99 (by decide), f1 99 (by omega), wrn hkn]
  have n99 : wr (wr t1 98 1 (nI ((nx + 1) % 10))) 98 0 (nI (mpu m)) 99 nx = nI s := by rw [wf 99 (by decide), f1 99 (by omega), wrs]
  have nC : CS (101 + 4 * nx) (K m s) (wr (wr t1 98 1 (nI ((nx + 1) % 10))) 98 0 (nI (mpu m))) := ht1.fr4 (fun c c1 c2 => wf c (by omega))
  have y0 : wr (wr t1 98 1 (nI ((nx + 1) % 10))) 98 0 (nI (mpu m)) 98 0 = nI (mpu m) := wrs
  have y1 : wr (wr t1 98 1 (nI ((nx + 1) % 10))) 98 0 (nI (mpu m)) 98 1 = nI ((nx + 1) % 10) := by rw [wrn (by decide), wrs]
  generalize wr (wr t1 98 1 (nI ((nx + 1) % 10))) 98 0 (nI (mpu m)) = y at wf keep k99 n99 nC y0 y1 ⊢
  refine ⟨⟨y0, (nx + 1) % 10, by omega, y1, fun j hj => ?_⟩, fun c hc => by rw [wf c (by omega), f1 c (by omega), w1 c (by omega)]⟩
  unfold mpu at hj ⊢
  by_cases c : m = 10
  · rw [if_pos c] at hj ⊢
    subst c
    by_cases c9 : j = 9
    · subst c9
      rw [show ((nx + 1) % 10 + 10 - 10 + 9) % 10 = nx by omega]
      refine ⟨s, hs, n99, ?_, fun r hr hrs => ?_⟩
      · unfold kpu; rw [if_pos rfl, if_pos (by omega)]; exact nC
      · unfold kpu; rw [if_pos rfl, if_neg (by omega), if_pos rfl, if_pos (by omega)]
        exact upA_n hrs
    · obtain ⟨s', b1, b2, b3, b4⟩ := h2 (j + 1) (by omega)
      rw [show ((nx + 1) % 10 + 10 - 10 + j) % 10 = (nx + 10 - 10 + (j + 1)) % 10 by omega]
      have hk : (nx + 10 - 10 + (j + 1)) % 10 ≠ nx := by omega
      refine ⟨s', b1, by rw [k99 _ (by omega) hk]; exact b2, ?_, fun r hr hrs => ?_⟩
      · unfold kpu; rw [if_pos rfl, if_pos (by omega)]; exact keep _ (by omega) hk _ b3
      · unfold kpu; rw [if_pos rfl, if_pos (by omega), if_pos rfl, if_pos (by omega)]
        exact b4 r hr hrs
  · rw [if_neg c] at hj ⊢
    by_cases c9 : j = m
    · subst c9
      rw [show ((nx + 1) % 10 + 10 - (j + 1) + j) % 10 = nx by omega]
      refine ⟨s, hs, n99, ?_, fun r hr hrs => ?_⟩
      · unfold kpu; rw [if_neg c, if_pos (Nat.le_refl _)]; exact nC
      · unfold kpu; rw [if_neg c, if_neg (by omega), if_neg c, if_pos (Nat.le_refl _)]
        exact upA_n hrs
    · obtain ⟨s', b1, b2, b3, b4⟩ := h2 j (by omega)
      rw [show ((nx + 1) % 10 + 10 - (m + 1) + j) % 10 = (nx + 10 - m + j) % 10 by omega]
      have hk : (nx + 10 - m + j) % 10 ≠ nx := by omega
      refine ⟨s', b1, by rw [k99 _ (by omega) hk]; exact b2, ?_, fun r hr hrs => ?_⟩
      · unfold kpu; rw [if_neg c, if_pos (by omega)]; exact keep _ (by omega) hk _ b3
      · unfold kpu; rw [if_neg c, if_pos (by omega), if_neg c, if_pos (by omega)]
        exact b4 r hr hrs
theorem e_noteAct {K : Nat → Nat → V4} {m s : Nat} {v : V4} {t : St} (hG : GK K m) (hs : s < 3) (hv : GV v) (h141 : CS 141 (K m s) t) (hx : CS (12 + 24 * s) v t) (ho : ∀ r, r < 3 → r ≠ s → CS (12 + 24 * r) (K m r) t) (hH : HCs K m t) : Ok (FX11_noteAct (nI s) t) (fun _ u => (∃ K' m', NXT K m s v K' m' ∧ CST K' m' u) ∧ ∀ c, (c < 98 ∨ 140 < c) → u c = t c) := by
  have gs := n_sl hs
  have hc : ∀ r, r < 3 → CS (12 + 24 * r) (upA (K m) s v r) t := fun r hr => by
    by_cases e : r = s
    · subst e; rw [upA_s]; exact hx
    · rw [upA_n e]; exact ho r hr e
  unfold FX11_noteAct
  rw [el10 hs]
  refine Ok.ckT (inb_n hs (by omega)) (Ok.ckT gs (Ok.bd (fun r u => t = u ∧ ((r = 1 ∧ K m s = v) ∨ (r = 0 ∧ K m s ≠ v))) (e_sameAs n_141 gs h141 hx (hG.2 m (Nat.le_refl _) s hs) hv (fun a => ⟨rfl, Or.inl ⟨rfl, a⟩⟩) (fun a => ⟨rfl, Or.inr ⟨rfl, a⟩⟩)) ?_))
  rintro _ _ ⟨rfl, ⟨rfl, e⟩ | ⟨rfl, e⟩⟩
  · refine Ok.ifF (by decide) (Ok.ret ⟨⟨K, m, Or.inl ⟨e.symm, rfl, rfl⟩, fun r hr => ?_, hH⟩, fun _ _ => rfl⟩)
    have := hc r hr
    rw [← e, upA_self] at this
    exact this
  · refine Ok.ifT rfl (Ok.bd _ (e_remember (v := v) hG hs h141 hH) ?_)
    rintro _ u ⟨u1, u2⟩
    refine Ok.ret ⟨⟨_, _, Or.inr ⟨fun q => e q.symm, rfl, rfl⟩, fun r hr => ?_, u1⟩, u2⟩
    rw [kpu_cur]
    exact (hc r hr).fr4 (fun c c1 c2 => u2 c (by omega))
end
section
/-! the reference's acts; undo -/
def MST (K : Nat → Nat → V4) (m : Nat) (t : St) : Prop := t 149 3 = nI m ∧ RA 150 0 (K m) t ∧ ∀ j, j < m → RA 152 (273 * j) (K j) t
theorem MST.fr {K : Nat → Nat → V4} {m : Nat} {t u : St} (h : MST K m t) (e3 : u 149 3 = t 149 3) (e0 : u 150 = t 150) (e2 : u 152 = t 152) : MST K m u := by
  unfold MST RA
  rw [e3, e0, e2]
  exact h
theorem m_remembers {t : St} : Ok (FX12_remembers t) (fun _ u => (∀ c, c ≠ 151 → u c = t c) ∧ ∀ k, k < 273 → u 151 k = t 150 k) := by
  unfold FX12_remembers
  refine Ok.bd (fun _ u => (∀ c, c ≠ 151 → u c = t c) ∧ ∀ k, k < 273 → u 151 k = t 150 k) ?_ (fun _ u hu => Ok.ret hu)
  refine Ok.count 273 (fun j c s => c = nI j ∧ (∀ c, c ≠ 151 → s c = t c) ∧ ∀ k, k < j → s 151 k = t 150 k) ?_ ?_ (Nat.zero_le _) ⟨rfl, fun _ _ => rfl, fun k hk => by omega⟩
  · rintro j c s hj ⟨rfl, sf, s1⟩
    unfold SX12_remembers_2
    refine Ok.ifF (by rw [li_273, nI_leP (by omega) (by omega)]; omega) (Ok.ckT (inb_n hj (by omega)) ?_)
    rw [nI_cl (by omega)]
    refine Ok.rdE (x := t 150 j) (by rw [sf 150 (by decide)]) (Ok.ckT (inb_n hj (by omega)) (OkwrE (Ok.ret ⟨nI_1 j, fun c hc => by rw [wr_off c hc]; exact sf c hc, fun k hk => ?_⟩)))
    by_cases e : k = j
    · subst e; rw [wrs]
    · rw [wrn e]; exact s1 k (by omega)
  · rintro c s ⟨rfl, sf, s1⟩
    unfold SX12_remembers_2
    exact Ok.ifT (by rw [li_273, nI_leP (by omega) (by omega)]; omega) (Ok.ret ⟨sf, s1⟩)
theorem m_keeps {K : Nat → Nat → V4} {m : Nat} {A : Nat → V4} {t : St} {a : Int32} (hm : m ≤ 10) (e3 : t 149 3 = nI m) (h151 : RA 151 0 (K m) t) (hk : ∀ j, j < m → RA 152 (273 * j) (K j) t) : Ok (FX12_keeps a t) (fun r u => r = a ∧ u 149 3 = nI (mpu m) ∧ (∀ j, j < mpu m → RA 152 (273 * j) (kpu K m A j) u) ∧ (∀ c, c ≠ 149 → c ≠ 152 → u c = t c) ∧ ∀ i, i ≠ 3 → u 149 i = t 149 i) := by
  have m1 : mpu m ≤ 10 ∧ 1 ≤ mpu m := by unfold mpu; split <;> omega
  unfold FX12_keeps
  refine Ok.rdE e3 (Ok.bd (fun _ u => u 149 3 = nI (mpu m - 1) ∧ (∀ j, j < mpu m - 1 → RA 152 (273 * j) (kpu K m A j) u) ∧ (∀ c, c ≠ 149 → c ≠ 152 → u c = t c) ∧ ∀ i, i ≠ 3 → u 149 i = t 149 i) ?_ ?_)
  · rw [li_10]
    refine Ok.cv (nI_eqP (by omega) (by omega)) (Ok.ite (fun c => ?_) (fun c => Ok.ret ⟨?_, fun j hj => ?_, fun _ _ _ => rfl, fun _ _ => rfl⟩))
    · subst c
      refine Ok.bd (fun _ u => (∀ c, c ≠ 152 → u c = t c) ∧ ∀ k, k < 2457 → u 152 k = t 152 (k + 273)) ?_ ?_
      · refine Ok.count 2457 (fun j c s => c = nI j ∧ (∀ c, c ≠ 152 → s c = t c) ∧ (∀ k, k < j → s 152 k = t 152 (k + 273)) ∧ ∀ k, j ≤ k → s 152 k = t 152 k) ?_ ?_ (Nat.zero_le _) ⟨rfl, fun _ _ => rfl, fun k hk => by omega, fun _ _ => rfl⟩
        · rintro j c s hj ⟨rfl, sf, s1, s2⟩
          unfold SX12_keeps_11
          rw [li_273, nI_add]
          refine Ok.ifF (by rw [li_2457, nI_leP (by omega) (by omega)]; omega) (Ok.ckT (inb_n (by omega) (by omega)) ?_)
          rw [nI_cl (by omega), nI_cl (by omega)]
          refine Ok.rdE (x := t 152 (j + 273)) (s2 _ (by omega)) (Ok.ckT (inb_n (by omega) (by omega)) (OkwrE (Ok.ret ⟨nI_1 j, fun c hc => by rw [wr_off c hc]; exact sf c hc, fun k hk => ?_, fun k hk => ?_⟩)))
          · by_cases e : k = j
            · subst e; rw [wrs]
            · rw [wrn e]; exact s1 k (by omega)
          · rw [wrn (by omega)]; exact s2 k (by omega)
        · rintro c s ⟨rfl, sf, s1, s2⟩
          unfold SX12_keeps_11
          exact Ok.ifT (by rw [li_2457, nI_leP (by omega) (by omega)]; omega) (Ok.ret ⟨sf, s1⟩)
      · rintro _ u ⟨uf, u1⟩
        refine Ok.rdE (x := nI 10) (by rw [uf 149 (by decide)]; exact e3) (OkwrE (Ok.ret ⟨?_, fun j hj => ?_, fun c k1 k2 => by rw [wr_off c k1]; exact uf c k2, fun i hi => by rw [wrn hi, uf 149 (by decide)]⟩))
        · rw [wrs, li_1, nI_sub (by omega)]
          rfl
        · have hj : j < 9 := hj
          intro k hk'
          rw [wrf (by decide), u1 _ (by omega)]
          unfold kpu
          rw [if_pos rfl, if_pos (by omega)]
          have := hk (j + 1) (by omega) k hk'
          rw [show 273 * (j + 1) + k = 273 * j + k + 273 by omega] at this
          exact this
    · have : mpu m = m + 1 := if_neg c
      rw [this, Nat.add_sub_cancel]
      exact e3
    · have : mpu m = m + 1 := if_neg c
      rw [this] at hj
      unfold kpu
      rw [if_neg c, if_pos (by omega)]
      exact hk j (by omega)
  · rintro _ t1 ⟨g3, gk, gf, g149⟩
    generalize hq : mpu m - 1 = q at g3 gk
    have hq9 : q < 10 := by omega
    refine Ok.bd (fun _ u => (∀ c, c ≠ 152 → u c = t1 c) ∧ (∀ k, k < 273 → u 152 (273 * q + k) = t1 151 k) ∧ ∀ k, k < 273 * q → u 152 k = t1 152 k) ?_ ?_
    · refine Ok.count 273 (fun j c s => c = nI j ∧ (∀ c, c ≠ 152 → s c = t1 c) ∧ (∀ k, k < j → s 152 (273 * q + k) = t1 151 k) ∧ ∀ k, k < 273 * q → s 152 k = t1 152 k) ?_ ?_ (Nat.zero_le _) ⟨rfl, fun _ _ => rfl, fun k hk => by omega, fun _ _ => rfl⟩
      · rintro j c s hj ⟨rfl, sf, s1, s2⟩
        unfold SX12_keeps_52
        refine Ok.ifF (by rw [li_273, nI_leP (by omega) (by omega)]; omega) (Ok.rdE (x := nI q) (by rw [sf 149 (by decide)]; exact g3) (Ok.ckT (inb_n hj (by omega)) ?_))
        rw [nI_cl (by omega), li_273, nI_mul, nI_add]
        refine Ok.rdE (x := t1 151 j) (by rw [sf 151 (by decide)]) (Ok.ckT (inb_n (by omega) (by omega)) ?_)
        rw [nI_cl (by omega)]
        refine OkwrE (Ok.ret ⟨nI_1 j, fun c hc => by rw [wr_off c hc]; exact sf c hc, fun k hk => ?_, fun k hk => ?_⟩)
        · by_cases e : k = j
          · subst e; rw [wrs]
          · rw [wrn (by omega)]; exact s1 k (by omega)
        · rw [wrn (by omega)]; exact s2 k hk
      · rintro c s ⟨rfl, sf, s1, s2⟩
        unfold SX12_keeps_52
        exact Ok.ifT (by rw [li_273, nI_leP (by omega) (by omega)]; omega) (Ok.ret ⟨sf, s1, s2⟩)
    · rintro _ u ⟨uf, u1, u2⟩
      refine Ok.rdE (x := nI q) (by rw [uf 149 (by decide)]; exact g3) (OkwrE (Ok.ret ⟨rfl, ?_, fun j hj => ?_, fun c k1 k2 => by rw [wr_off c k1, uf c k2]; exact gf c k1 k2, fun i hi => by rw [wrn hi, uf 149 (by decide)]; exact g149 i hi⟩))
      · rw [wrs, nI_1]
        congr 1
        omega
      · intro k hk'
        rw [wrf (by decide)]
        by_cases e : j = q
        · subst e
          rw [u1 k hk', gf 151 (by decide) (by decide)]
          have h5 := h151 k hk'
          rw [Nat.zero_add] at h5
          rw [h5]
          unfold kpu
          unfold mpu at hq
          by_cases c : m = 10
          · rw [if_pos c] at hq ⊢
            rw [if_pos (by omega), show j + 1 = m by omega]
          · rw [if_neg c] at hq ⊢
            rw [if_pos (by omega), show j = m by omega]
        · rw [u2 _ (by omega)]
          exact gk j (by omega) k hk'
theorem m_done {K K' : Nat → Nat → V4} {m m' s : Nat} {v : V4} {t : St} {a : Int32} (hG : GK K m) (hs : s < 3) (hv : GV v) (hN : NXT K m s v K' m') (e3 : t 149 3 = nI m) (h151 : RA 151 0 (K m) t) (h150 : RA 150 0 (upA (K m) s v) t) (hk : ∀ j, j < m → RA 152 (273 * j) (K j) t) : Ok (FX12_done a t) (fun r u => r = a ∧ MST K' m' u ∧ (∀ c, c ≠ 149 → c ≠ 152 → u c = t c) ∧ ∀ i, i ≠ 3 → u 149 i = t 149 i) := by
  have hm := hG.1
  have hgs := hG.2 m (Nat.le_refl _) s hs
  unfold FX12_done
  refine Ok.bd (fun e u => Sum.elim (fun r => r = a ∧ MST K' m' u ∧ (∀ c, c ≠ 149 → c ≠ 152 → u c = t c) ∧ ∀ i, i ≠ 3 → u 149 i = t 149 i) (fun _ => t = u ∧ v = K m s) e) ?_ ?_
  · refine Ok.count 273 (fun j c s' => c = nI j ∧ t = s' ∧ ∀ k, k < j → t 151 k = t 150 k) ?_ ?_ (Nat.zero_le _) ⟨rfl, rfl, fun k hk => by omega⟩
    · rintro j c s' hj ⟨rfl, rfl, hI⟩
      unfold SX12_done_2
      refine Ok.ifF (by rw [li_273, nI_leP (by omega) (by omega)]; omega) (Ok.ckT (inb_n hj (by omega)) ?_)
      rw [nI_cl (by omega)]
      refine Ok.rdE rfl (Ok.ckT (inb_n hj (by omega)) (Ok.rdE rfl (Ok.ite (fun c => Ok.ret ⟨nI_1 j, rfl, fun k hk => ?_⟩) (fun c => Ok.bd _ (m_keeps (A := upA (K m) s v) hm e3 h151 hk) ?_))))
      · by_cases e : k = j
        · rw [e]; exact c
        · exact hI k (by omega)
      · rintro _ u ⟨rfl, u1, u2, u3, u4⟩
        refine Ok.ret ⟨rfl, ?_, u3, u4⟩
        have hne : v ≠ K m s := fun q => c (by
          have a1 := h151 j hj
          have a2 := h150 j hj
          rw [q, upA_self] at a2
          rw [Nat.zero_add] at a1 a2
          rw [a1, a2])
        rcases hN with ⟨q, -⟩ | ⟨-, rfl, rfl⟩
        · exact absurd q hne
        · refine ⟨u1, ?_, u2⟩
          rw [kpu_cur]
          exact h150.fr (fun k _ => by rw [u3 150 (by decide) (by decide)])
    · rintro c s' ⟨rfl, rfl, hI⟩
      unfold SX12_done_2
      refine Ok.ifT (by rw [li_273, nI_leP (by omega) (by omega)]; omega) (Ok.ret ⟨rfl, (enc_inj hgs hv (fun k hk => ?_)).symm⟩)
      have a1 := h151 (91 * s + k) (by omega)
      have a2 := h150 (91 * s + k) (by omega)
      rw [show (91 * s + k) / 91 = s by omega, show (91 * s + k) % 91 = k by omega, Nat.zero_add] at a1 a2
      rw [upA_s] at a2
      have a3 := hI (91 * s + k) (by omega)
      rw [a1, a2] at a3
      have b1 := enc_lt hgs k
      have b2 := enc_lt hv k
      exact nI_inj a3 (by omega) (by omega)
  · rintro (e | e) u he
    · exact Ok.ret he
    · obtain ⟨rfl, q⟩ := he
      refine Ok.ret ⟨rfl, ?_, fun _ _ _ => rfl, fun _ _ => rfl⟩
      rcases hN with ⟨-, rfl, rfl⟩ | ⟨q2, -⟩
      · rw [q, upA_self] at h150
        exact ⟨e3, h150, hk⟩
      · exact absurd q q2
/-- the row becomes the one that is laid -/
theorem m_takesRow {K K' : Nat → Nat → V4} {m m' s : Nat} {o' : Nat → Nat} {t : St} (hG : GK K m) (hs : s < 3) (hM : MST K m t) (hv : GV ((K m s).1, (K m s).2.1, (K m s).2.2.1, o')) (hN : NXT K m s ((K m s).1, (K m s).2.1, (K m s).2.2.1, o') K' m') (hO : MO (K m s).1 o' t) : Ok (FX12_takesRow (nI s) t) (fun r u => r = nI (dfo (K m s).1 (K m s).2.2.2 o') ∧ MST K' m' u ∧ (∀ c, c ≠ 149 → c ≠ 150 → c ≠ 151 → c ≠ 152 → u c = t c) ∧ ∀ i, i ≠ 3 → u 149 i = t 149 i) := by
  have hgs := hG.2 m (Nat.le_refl _) s hs
  obtain ⟨e3, h150, hk⟩ := hM
  have hN0 := h150.rn hs
  have hR0 := h150.ro hs hgs
  generalize hA : K m s = A at hgs hN0 hR0 hv hN hO ⊢
  obtain ⟨n, l, w, o⟩ := A
  have hn : n < 10 := hgs.1.1
  dsimp only at hN0 hR0 hv hN hO ⊢
  unfold FX12_takesRow
  refine Ok.bq (a := nI (dfo n o o')) (t := t) (wq n (fun j => (nI (dfo j o o'), nI j)) (fun j hj => ?_) ?_) ?_
  · unfold SX12_takesRow_4
    dsimp only
    have b1 := hgs.o9 j
    have b2 := hv.o9 j
    dsimp only at b1 b2
    refine Ok.bq (q_points hN0 hs) (Ok.ifF (by rw [nI_leP (by omega) (by omega)]; omega) (Ok.bq (q_at hR0 hs hn hj) (Ok.ckT (inb_n (by omega) (by omega)) ?_)))
    rw [nI_cl (by omega)]
    refine Ok.rdE (hO j hj) (Ok.bq (a := nI (if o j = o' j then 0 else 1)) (t := t) (Ok.eq (Ok.cv (nI_eqP (by omega) (by omega)) (Ok.ite (fun c => Ok.ret ⟨rfl, by rw [if_pos c]; rfl⟩) (fun c => Ok.ret ⟨rfl, by rw [if_neg c]; rfl⟩)))) (Ok.ret ⟨rfl, ?_⟩))
    rw [nI_add, nI_1]
    rfl
  · unfold SX12_takesRow_4
    dsimp only
    exact Ok.bq (q_points hN0 hs) (Ok.ifT (by rw [nI_leP (by omega) (by omega)]; omega) (Ok.ret ⟨rfl, rfl⟩))
  refine Ok.bd _ m_remembers ?_
  rintro _ t1 ⟨f1, w1⟩
  refine Ok.bd (fun _ u => (∀ c, c ≠ 150 → u c = t1 c) ∧ (∀ i, i < n → u 150 (91 * s + 82 + i) = nI (o' i)) ∧ ∀ k, (k < 91 * s + 82 ∨ 91 * s + 82 + n ≤ k) → u 150 k = t1 150 k) ?_ ?_
  · refine Ok.count n (fun j c s' => c = nI j ∧ (∀ c, c ≠ 150 → s' c = t1 c) ∧ (∀ i, i < j → s' 150 (91 * s + 82 + i) = nI (o' i)) ∧ ∀ k, (k < 91 * s + 82 ∨ 91 * s + 82 + n ≤ k) → s' 150 k = t1 150 k) ?_ ?_ (Nat.zero_le _) ⟨rfl, fun _ _ => rfl, fun i hi => by omega, fun _ _ => rfl⟩
    · rintro j c s' hj ⟨rfl, sf, s1, s2⟩
      unfold SX12_takesRow_48
      have hp : s' 150 (91 * s) = nI n := by rw [s2 _ (by omega), f1 150 (by decide)]; exact hN0.1
      refine Ok.bq (a := nI n) (t := s') (Ok.eq ?_) (Ok.ifF (by rw [nI_leP (by omega) (by omega)]; omega) (Ok.ckT (inb_n (by omega) (by omega)) ?_))
      · unfold FX12_points
        rw [li_91, nI_mul]
        refine Ok.ckT (inb_n (by omega) (by omega)) ?_
        rw [nI_cl (by omega)]
        exact Ok.rdE hp (Ok.ret ⟨rfl, rfl⟩)
      · rw [nI_cl (by omega)]
        refine Ok.rdE (x := nI (o' j)) (by rw [sf 154 (by decide), f1 154 (by decide)]; exact hO j hj) (Ok.bd _ (m_puts (Q := fun _ u => u = wr s' 150 (91 * s + 82 + j) (nI (o' j))) hs (by omega) rfl) ?_)
        rintro _ _ rfl
        refine Ok.ret ⟨nI_1 j, fun c hc => by rw [wr_off c hc]; exact sf c hc, fun i hi => ?_, fun k hk => by rw [wrn (by omega)]; exact s2 k hk⟩
        by_cases e : i = j
        · subst e; rw [wrs]
        · rw [wrn (by omega)]; exact s1 i (by omega)
    · rintro c s' ⟨rfl, sf, s1, s2⟩
      unfold SX12_takesRow_48
      have hp : s' 150 (91 * s) = nI n := by rw [s2 _ (by omega), f1 150 (by decide)]; exact hN0.1
      refine Ok.bq (a := nI n) (t := s') (Ok.eq ?_) (Ok.ifT (by rw [nI_leP (by omega) (by omega)]; omega) (Ok.ret ⟨sf, s1, s2⟩))
      unfold FX12_points
      rw [li_91, nI_mul]
      refine Ok.ckT (inb_n (by omega) (by omega)) ?_
      rw [nI_cl (by omega)]
      exact Ok.rdE hp (Ok.ret ⟨rfl, rfl⟩)
  · rintro _ t2 ⟨f2, p1, p2⟩
    have hup : RA 150 0 (upA (K m) s (n, l, w, o')) t2 := by
      refine h150.up hs (v := (n, l, w, o')) ⟨?_, fun a b ha hb => ?_⟩ (fun i hi => ?_) hv (fun j hj => ?_)
      · rw [p2 _ (by omega), f1 150 (by decide)]; exact hN0.1
      · rw [p2 _ (by omega), f1 150 (by decide)]; exact hN0.2 a b ha hb
      · by_cases c : i < n
        · rw [if_pos c]; exact p1 i c
        · rw [if_neg c, p2 _ (by omega), f1 150 (by decide)]
          have := hR0 i hi
          rw [if_neg c] at this
          exact this
      · rw [p2 _ (by omega), f1 150 (by decide)]
    refine Ok.bd _ (m_done (a := nI (dfo n o o')) hG hs hv hN (by rw [f2 149 (by decide), f1 149 (by decide)]; exact e3) (fun k hk' => ?_) hup (fun j hj => (hk j hj).fr (fun k _ => by rw [f2 152 (by decide), f1 152 (by decide)]))) ?_
    · rw [f2 151 (by decide), Nat.zero_add, w1 k hk']
      have := h150 k hk'
      rw [Nat.zero_add] at this
      exact this
    · rintro _ u ⟨rfl, u1, u2, u3⟩
      exact Ok.ret ⟨rfl, u1, fun c k1 k2 k3 k4 => by rw [u2 c k1 k4, f2 c k2]; exact f1 c k3, fun i hi => by rw [u3 i hi, f2 149 (by decide), f1 149 (by decide)]⟩
/-! undo -/
theorem e_undo0 {t : St} (h : t 98 0 = 0) : FX11_undo t = some (-1, t) := by
  refine Ok.eq ?_
  unfold FX11_undo
  exact Ok.rdE h (Ok.ifT rfl (Ok.ret ⟨rfl, rfl⟩))
theorem m_undo0 {t : St} (h : t 149 3 = 0) : FX12_undo t = some (-1, t) := by
  refine Ok.eq ?_
  unfold FX12_undo
  exact Ok.rdE h (Ok.ifT rfl (Ok.ret ⟨rfl, rfl⟩))
theorem e_undo {K : Nat → Nat → V4} {m : Nat} {t : St} (hG : GK K (m + 1)) (h : CST K (m + 1) t) : Ok (FX11_undo t) (fun r u => r = nI m ∧ CST K m u ∧ ∀ c, (∀ s, s < 3 → c < 12 + 24 * s ∨ 12 + 24 * s + 3 < c) → c ≠ 98 → u c = t c) := by
  obtain ⟨hc, h0, nx, hx, h1, h2⟩ := h
  have hm := hG.1
  unfold FX11_undo
  refine Ok.rdE h0 (Ok.ifF (by rw [li_0, nI_eqP (by omega) (by omega)]; omega) (Ok.bd (fun _ u => CST K m u ∧ ∀ c, (∀ s, s < 3 → c < 12 + 24 * s ∨ 12 + 24 * s + 3 < c) → c ≠ 98 → u c = t c) ?_ ?_))
  · obtain ⟨s, hs, b2, b3, b4⟩ := h2 m (by omega)
    unfold FX4_takeBack
    have ei : irem ((nI nx + (10 : Int32)) - (1 : Int32)) (10 : Int32) = nI ((nx + 9) % 10) := by
      rw [li_10, nI_add, li_1, nI_sub (by omega)]
      exact (nI_remN (by omega) (by omega) (by omega)).trans (by congr 1)
    refine Ok.rdE h1 (OkwrE ?_)
    rw [ei]
    refine Ok.rdE (x := nI (m + 1)) (by rw [wrn (by decide)]; exact h0) (OkwrE ?_)
    rw [li_1, nI_sub (by omega), Nat.add_sub_cancel]
    have y0 : wr (wr t 98 1 (nI ((nx + 9) % 10))) 98 0 (nI m) 98 0 = nI m := wrs
    have y1 : wr (wr t 98 1 (nI ((nx + 9) % 10))) 98 0 (nI m) 98 1 = nI ((nx + 9) % 10) := by rw [wrn (by decide), wrs]
    have yf : ∀ c, c ≠ 98 → wr (wr t 98 1 (nI ((nx + 9) % 10))) 98 0 (nI m) c = t c := fun c hc => by rw [wr_off c hc, wr_off c hc]
    generalize wr (wr t 98 1 (nI ((nx + 9) % 10))) 98 0 (nI m) = y at y0 y1 yf ⊢
    have ex : (nx + 10 - (m + 1) + m) % 10 = (nx + 9) % 10 := by omega
    rw [ex] at b2 b3
    have hk : (nx + 9) % 10 < 10 := by omega
    refine Ok.rdE y1 (Ok.ckT (inb_n hk (by omega)) ?_)
    rw [nI_cl (by omega)]
    refine Ok.rdE (x := nI s) (by rw [yf 99 (by decide)]; exact b2) ?_
    rw [el10 hs]
    refine Ok.ckT (inb_n hs (by omega)) (Ok.ckT (n_sl hs) (Ok.rdE y1 ?_))
    rw [el100 hk]
    refine Ok.ckT (inb_n hk (by omega)) (Ok.ckT (n_hs hk) (Ok.bd _ (e_copyFrom (n_sl hs) (n_hs hk) (by omega)) ?_))
    rintro _ u ⟨f1, a0, a1, a2, a4, a3⟩
    have hsl : CS (12 + 24 * s) (K m s) u := (b3.fr4 (u := y) (fun c c1 c2 => yf c (by omega))).cp (hG.2 m (by omega) s hs).1.1 a0 a1 a2 a4 a3
    refine Ok.ret ⟨⟨fun r hr => ?_, by rw [f1 98 (by omega)]; exact y0, (nx + 9) % 10, hk, by rw [f1 98 (by omega)]; exact y1, fun j hj => ?_⟩, fun c hc1 hc2 => ?_⟩
    · by_cases e : r = s
      · subst e; exact hsl
      · rw [← b4 r hr e]
        exact (hc r hr).fr4 (fun c c1 c2 => by rw [f1 c (by omega), yf c (by omega)])
    · obtain ⟨s', d1, d2, d3, d4⟩ := h2 j (by omega)
      rw [show (nx + 10 - (m + 1) + j) % 10 = ((nx + 9) % 10 + 10 - m + j) % 10 by omega] at d2 d3
      exact ⟨s', d1, by rw [f1 99 (by omega), yf 99 (by decide)]; exact d2, d3.fr4 (fun c c1 c2 => by rw [f1 c (by omega), yf c (by omega)]), d4⟩
    · rw [f1 c (hc1 s hs), yf c hc2]
  · rintro _ u ⟨u1, u2⟩
    exact Ok.rdE u1.2.1 (Ok.ret ⟨rfl, u1, u2⟩)
theorem m_undo {K : Nat → Nat → V4} {m : Nat} {t : St} (hm : m < 10) (h : MST K (m + 1) t) : Ok (FX12_undo t) (fun r u => r = nI m ∧ MST K m u) := by
  obtain ⟨h3, h0, hk⟩ := h
  unfold FX12_undo
  refine Ok.rdE h3 (Ok.ifF (by rw [li_0, nI_eqP (by omega) (by omega)]; omega) (Ok.rdE h3 (OkwrE ?_)))
  rw [li_1, nI_sub (by omega), Nat.add_sub_cancel]
  have y3 : wr t 149 3 (nI m) 149 3 = nI m := wrs
  have yf : ∀ c, c ≠ 149 → wr t 149 3 (nI m) c = t c := fun c hc => wr_off c hc
  generalize wr t 149 3 (nI m) = y at y3 yf ⊢
  refine Ok.bd (fun _ u => (∀ c, c ≠ 150 → u c = y c) ∧ ∀ k, k < 273 → u 150 k = y 152 (273 * m + k)) ?_ ?_
  · refine Ok.count 273 (fun j c s => c = nI j ∧ (∀ c, c ≠ 150 → s c = y c) ∧ ∀ k, k < j → s 150 k = y 152 (273 * m + k)) ?_ ?_ (Nat.zero_le _) ⟨rfl, fun _ _ => rfl, fun k hk => by omega⟩
    · rintro j c s hj ⟨rfl, sf, s1⟩
      unfold SX12_undo_21
      refine Ok.ifF (by rw [li_273, nI_leP (by omega) (by omega)]; omega) (Ok.rdE (x := nI m) (by rw [sf 149 (by decide)]; exact y3) ?_)
      rw [li_273, nI_mul, nI_add]
      refine Ok.ckT (inb_n (by omega) (by omega)) ?_
      rw [nI_cl (by omega), nI_cl (by omega)]
      refine Ok.rdE (x := y 152 (273 * m + j)) (by rw [sf 152 (by decide)]) (Ok.ckT (inb_n hj (by omega)) (OkwrE (Ok.ret ⟨nI_1 j, fun c hc => by rw [wr_off c hc]; exact sf c hc, fun k hk => ?_⟩)))
      by_cases e : k = j
      · subst e; rw [wrs]
      · rw [wrn e]; exact s1 k (by omega)
    · rintro c s ⟨rfl, sf, s1⟩
      unfold SX12_undo_21
      exact Ok.ifT (by rw [li_273, nI_leP (by omega) (by omega)]; omega) (Ok.ret ⟨sf, s1⟩)
  · rintro _ u ⟨uf, u1⟩
    refine Ok.rdE (x := nI m) (by rw [uf 149 (by decide)]; exact y3) (Ok.ret ⟨rfl, by rw [uf 149 (by decide)]; exact y3, fun k hk' => ?_, fun j hj => (hk j (by omega)).fr (fun k _ => by rw [uf 152 (by decide), yf 152 (by decide)])⟩)
    rw [Nat.zero_add, u1 k hk', yf 152 (by decide)]
    exact hk m (by omega) k hk'
end
