/-! nets alike; the class finds by how far ends lie apart -/
def GN (n l : Nat) (w : Nat → Nat → Nat) : Prop := n < 10 ∧ WF n w ∧ 2 * l = dcn n w
theorem WF.ext {n : Nat} {w v : Nat → Nat → Nat} (hw : WF n w) (hv : WF n v) (h : ∀ a b, a < n → b < a → w a b = v a b) : w = v := by
  funext a b
  by_cases ha : a < n
  · by_cases hb : b < n
    · rcases Nat.lt_trichotomy a b with q | q | q
      · rw [hw.2.1 a b, hv.2.1 a b]; exact h b a hb q
      · subst q; rw [hw.2.2.1, hv.2.2.1]
      · exact h a b ha q
    · rw [hw.r (by omega), hv.r (by omega)]
  · rw [hw.2.2.2 a b (by omega), hv.2.2.2 a b (by omega)]
theorem e_sameLines {x y n l n' l' : Nat} {w w' : Nat → Nat → Nat} {t : St} (h : CN x n l w t) (h' : CN y n' l' w' t) (gx : netAt x = true) (gy : netAt y = true) (G : GN n l w) (G' : GN n' l' w') {Q : Int32 → St → Prop} (q1 : n = n' → w = w' → Q 1 t) (q0 : ¬ (n = n' ∧ w = w') → Q 0 t) : Ok (FX5_sameLines x y t) Q := by
  obtain ⟨hn, hw, hl⟩ := G
  obtain ⟨hn', hw', hl'⟩ := G'
  have d1 := dcn_le (w := w) hn
  have d2 := dcn_le (w := w') hn'
  unfold FX5_sameLines
  refine Ok.ckT gx (Ok.ckT gy (Ok.rdE h.1 (Ok.rdE h'.1 (Ok.cv (nI_eqP (by omega) (by omega)) (Ok.ite (fun c1 => ?_) (fun c1 => Ok.ret (q0 (fun q => c1 q.1))))))))
  subst c1
  refine Ok.rdE h.2.1 (Ok.rdE h'.2.1 (Ok.cv (nI_eqP (by omega) (by omega)) (Ok.ite (fun c2 => ?_) (fun c2 => Ok.ret (q0 (fun q => c2 ?_))))))
  · refine Ok.bd (fun e u => t = u ∧ Sum.elim (fun r => r = (0 : Int32) ∧ w ≠ w') (fun _ => w = w') e) ?_ ?_
    · refine Ok.count n (fun j c s => t = s ∧ c = nI j ∧ ∀ a b, a < j → b < a → w a b = w' a b) ?_ ?_ (Nat.zero_le _) ⟨rfl, rfl, fun a b ha => by omega⟩
      · rintro j c s hj ⟨rfl, rfl, hI⟩
        unfold SX5_sameLines_26
        refine Ok.rdE h.1 (Ok.ifF (by rw [nI_leP (by omega) (by omega)]; omega) ?_)
        refine Ok.bd (fun e u => t = u ∧ Sum.elim (fun r => r = (0 : Int32) ∧ w ≠ w') (fun _ => ∀ b, b < j → w j b = w' j b) e) ?_ ?_
        · refine Ok.count j (fun i c s => t = s ∧ c = nI i ∧ ∀ b, b < i → w j b = w' j b) ?_ ?_ (Nat.zero_le _) ⟨rfl, rfl, fun b hb => by omega⟩
          · rintro i c s hi ⟨rfl, rfl, hJ⟩
            unfold SX5_sameLines_36
            have a1 := hw.1 j i
            have a2 := hw'.1 j i
            refine Ok.ifF (by rw [nI_leP (by omega) (by omega)]; omega) (Ok.bq (q_weightOf h gx (by omega) (by omega)) (Ok.bq (q_weightOf h' gy (by omega) (by omega)) (Ok.cv (nI_eqP (by omega) (by omega)) (Ok.ite (fun c3 => Ok.ret ⟨rfl, nI_1 i, fun b hb => ?_⟩) (fun c3 => Ok.ret ⟨rfl, rfl, fun q => c3 (by rw [q])⟩)))))
            by_cases e : b = i
            · rw [e]; exact c3
            · exact hJ b (by omega)
          · rintro c s ⟨rfl, rfl, hJ⟩
            unfold SX5_sameLines_36
            exact Ok.ifT (by rw [nI_leP (by omega) (by omega)]; omega) (Ok.ret ⟨rfl, hJ⟩)
        · rintro (e | e) _ ⟨rfl, he⟩
          · exact Ok.ret ⟨rfl, he⟩
          · refine Ok.ret ⟨rfl, nI_1 j, fun a b ha hb => ?_⟩
            by_cases q : a = j
            · subst q; exact he b hb
            · exact hI a b (by omega) hb
      · rintro c s ⟨rfl, rfl, hI⟩
        unfold SX5_sameLines_26
        exact Ok.rdE h.1 (Ok.ifT (by rw [nI_leP (by omega) (by omega)]; omega) (Ok.ret ⟨rfl, hw.ext hw' hI⟩))
    · rintro (e | e) _ ⟨rfl, he⟩
      · refine Ok.ret ?_
        rw [he.1]
        exact q0 (fun q => he.2 q.2)
      · exact Ok.ret (q1 rfl he)
  · have := q.2
    subst this
    omega
theorem CN.cp {x y n l : Nat} {w : Nat → Nat → Nat} {t u : St} (h : CN y n l w t) (e0 : u x 0 = t y 0) (e1 : u x 1 = t y 1) (e2 : ∀ i, i < 9 → u (x + 1) i = t (y + 1) i) (e3 : ∀ i, i < 81 → u (x + 3) i = t (y + 3) i) : CN x n l w u := by
  refine ⟨e0.trans h.1, e1.trans h.2.1, fun a ha => (e2 a ha).trans (h.2.2.1 a ha), fun a b ha hb => (e3 _ (by omega)).trans (h.2.2.2 a b ha hb)⟩
theorem n_91 : netAt 91 = true := by decide +kernel
theorem il_96 : ilen 96 = 4096 := by decide +kernel
theorem r_turnTo {x n l n' l' : Nat} {w w' : Nat → Nat → Nat} {t : St} (h : CN x n l w t) (gx : netAt x = true) (hx : x + 3 < 91 ∨ 94 < x) (G : GN n l w) (h' : CN 91 n' l' w' t) (G' : GN n' l' w') (hM : MI n' w' t) : Ok (FX0_turnTo x t) (fun _ u => CN 91 n l w u ∧ MI n w u ∧ ∀ c, (c < 91 ∨ 97 < c) → u c = t c) := by
  unfold FX0_turnTo
  refine Ok.ckT gx (Ok.bd (fun r u => t = u ∧ ((r = 1 ∧ n = n' ∧ w = w') ∨ r = 0)) (e_sameLines h' h n_91 gx G' G (fun a b => ⟨rfl, Or.inl ⟨rfl, a.symm, b.symm⟩⟩) (fun _ => ⟨rfl, Or.inr rfl⟩)) ?_)
  rintro r _ ⟨rfl, ⟨rfl, rfl, rfl⟩ | rfl⟩
  · refine Ok.ifF (by decide) (Ok.ret ⟨?_, hM, fun _ _ => rfl⟩)
    have : l = l' := by have := G.2.2; have := G'.2.2; omega
    subst this
    exact h'
  · refine Ok.ifT rfl (Ok.bd _ (e_copyFrom n_91 gx (by omega)) ?_)
    rintro _ t1 ⟨f1, a0, a1, a2, -, a3⟩
    have h1 : CN 91 n l w t1 := h.cp a0 a1 a2 a3
    refine Ok.bd _ (e_fill il_96 (by omega) (by omega)) ?_
    rintro _ t2 ⟨f2, b2, -⟩
    refine Ok.ret ⟨h1.fr (f2 _ (by decide)) (f2 _ (by decide)) (f2 _ (by decide)), ?_, fun c hc => by rw [f2 c (by omega)]; exact f1 c (by omega)⟩
    intro cell i P L hc hi hP hpre hL hno e
    rw [b2 cell hc, li_m1] at e
    have hk := wky_lt (w := w) G.1 hL hP
    have := nI_inj e (by omega) (by omega)
    omega
/-! the limit: from n - 1 on every row is kept -/
theorem canb_T {w : Nat → Nat → Nat} {L i p : Nat} {P : Nat → Nat} (h : i ≤ L) : canb w L P i p = true := decide_eq_true (fun k hk hkL => by omega)
theorem bct_cap {n : Nat} {w : Nat → Nat → Nat} {L M : Nat} (hL : n - 1 ≤ L) (hM : n - 1 ≤ M) : ∀ {k i : Nat} {P : Nat → Nat}, k + i = n → bct n w L k i P = bct n w M k i P
  | 0, _, _, _ => rfl
  | k + 1, i, P, hk => by
    show sm n _ = sm n _
    refine sm_congr (fun p _ => ?_)
    rw [canb_T (by omega), canb_T (by omega), bct_cap hL hM (k := k) (i := i + 1) (by omega)]
theorem bct_pos {n : Nat} {w : Nat → Nat → Nat} {L : Nat} (hL : n - 1 ≤ L) : ∀ {k i : Nat} {P : Nat → Nat}, k + i = n → PFX n i P → 0 < bct n w L k i P
  | 0, _, _, _, _ => Nat.one_pos
  | k + 1, i, P, hk, hP => by
    obtain ⟨p, hp, hb⟩ := no_bit (S := amk P i) (n := n) (by rw [hP.2.2]; omega)
    refine sm_pos.mpr ⟨p, hp, ?_⟩
    rw [if_pos (by rw [hb, canb_T (by omega)]; rfl)]
    exact bct_pos hL (by omega) (hP.on hp hb)
theorem bct_eq {n : Nat} {w : Nat → Nat → Nat} {L k i : Nat} {P Q : Nat → Nat} (hw : WF n w) (hn : n < 10) (hk : k + i = n) (h : ∀ j, j < i → P j = Q j) : bct n w L k i P = bct n w L k i Q := by
  have e := amk_eq h
  exact bct_ag hw hn hk e (fun j hj _ => by unfold mis; rw [e, h j hj])
/-- v is the least limit that some row keeps -/
def LL (n : Nat) (w : Nat → Nat → Nat) (v : Nat) : Prop := v ≤ n - 1 ∧ (∀ L, L < v → bct n w L n 0 (fun _ => 0) = 0) ∧ 0 < bct n w v n 0 (fun _ => 0)
theorem LL.uq {n : Nat} {w : Nat → Nat → Nat} {v u : Nat} (h : LL n w v) (g : LL n w u) : v = u := by
  rcases Nat.lt_trichotomy v u with q | q | q
  · have := g.2.1 v q; have := h.2.2; omega
  · exact q
  · have := h.2.1 u q; have := g.2.2; omega
theorem LLM.ll {n : Nat} {w : Nat → Nat → Nat} {v : Nat} (h : LLM n w (n - 1) v) : LL n w v := by
  refine ⟨h.1, h.2.1, ?_⟩
  by_cases e : v < n - 1
  · exact h.2.2 e
  · exact bct_pos (by omega) (by omega) pfx_0
theorem LL.ex {n : Nat} {w : Nat → Nat → Nat} (h : 1 ≤ n) : ∃ v, LL n w v := by
  have key : ∀ k, k ≤ n - 1 → (∀ L, L < k → bct n w L n 0 (fun _ => 0) = 0) ∨ ∃ v, LL n w v := by
    intro k
    induction k with
    | zero => intro _; exact Or.inl (fun L hL => by omega)
    | succ k ih =>
      intro hk
      rcases ih (by omega) with a | a
      · by_cases e : bct n w k n 0 (fun _ => 0) = 0
        · refine Or.inl (fun L hL => ?_)
          by_cases q : L = k
          · rw [q]; exact e
          · exact a L (by omega)
        · exact Or.inr ⟨k, by omega, a, by omega⟩
      · exact Or.inr a
  rcases key (n - 1) (Nat.le_refl _) with a | a
  · exact ⟨n - 1, Nat.le_refl _, a, bct_pos (Nat.le_refl _) (by omega) pfx_0⟩
  · exact a
/-- o goes on from the first i points of P as the first row that keeps L -/
def FRX (n : Nat) (w : Nat → Nat → Nat) (L i : Nat) (P o : Nat → Nat) : Prop := (∀ j, j < i → o j = P j) ∧ ∀ j, i ≤ j → j < n → o j < n ∧ (amk o j).testBit (o j) = false ∧ 0 < bct n w L (n - (j + 1)) (j + 1) o ∧ ∀ q, q < o j → ¬ ((amk o j).testBit q = false ∧ 0 < bct n w L (n - (j + 1)) (j + 1) (upP o j q))
theorem FRX.uq {n : Nat} {w : Nat → Nat → Nat} {L : Nat} {P o u : Nat → Nat} (hw : WF n w) (hn : n < 10) (h : FRX n w L 0 P o) (g : FRX n w L 0 P u) : ∀ j, j < n → o j = u j := by
  intro j
  induction j using Nat.strongRecOn with
  | ind j ih =>
    intro hj
    have hlt : ∀ k, k < j → o k = u k := fun k hk => ih k hk (by omega)
    have ea := amk_eq hlt
    obtain ⟨a1, a2, a3, a4⟩ := h.2 j (Nat.zero_le _) hj
    obtain ⟨b1, b2, b3, b4⟩ := g.2 j (Nat.zero_le _) hj
    have key : ∀ (o u : Nat → Nat), (∀ k, k < j → o k = u k) → 0 < bct n w L (n - (j + 1)) (j + 1) u → 0 < bct n w L (n - (j + 1)) (j + 1) (upP o j (u j)) := by
      intro o u hou hp
      rw [bct_eq (Q := u) hw hn (by omega) (fun k hk => ?_)]
      · exact hp
      · by_cases e : k = j
        · subst e; rw [upP_i]
        · rw [upP_n e]; exact hou k (by omega)
    rcases Nat.lt_trichotomy (o j) (u j) with q | q | q
    · exact absurd ⟨by rw [← ea]; exact a2, key u o (fun k hk => (hlt k hk).symm) a3⟩ (b4 (o j) q)
    · exact q
    · exact absurd ⟨by rw [ea]; exact b2, key o u hlt b3⟩ (a4 (u j) q)
theorem bld_b {n : Nat} {w : Nat → Nat → Nat} {L i p : Nat} {P : Nat → Nat} (hp : p < n) : (bld n w L i P).testBit p = true ↔ (amk P i).testBit p = false ∧ 0 < bct n w L (n - (i + 1)) (i + 1) (upP P i p) := by
  unfold bld
  rw [mkm_bit]
  simp only [hp, decide_true, Bool.true_and, Bool.and_eq_true, Bool.not_eq_true', decide_eq_true_eq]
theorem bld_lt {n : Nat} {w : Nat → Nat → Nat} {L i : Nat} {P : Nat → Nat} (hn : n < 10) : bld n w L i P < 512 := Nat.lt_of_lt_of_le mkm_lt (pow9 (by omega))
/-- where some row goes on, none that must have come waits -/
theorem mis_0 {n : Nat} {w : Nat → Nat → Nat} {L i : Nat} {P : Nat → Nat} (hw : WF n w) (hn : n < 10) (hi : i ≤ n) (hP : PFX n i P) (hp : 0 < bct n w L (n - i) i P) : ∀ k, k < i → k + L < i → mis w P i k = 0 := by
  intro k hk hkL
  have h1 := bct_room hw hn (by omega) hP.2.1 hP.2.2 hp k hk
  have h2 : cnt (dal w P i (k + 1)) 9 = 0 := by omega
  have h3 := cnt9_0 _ dal_lt h2
  apply Nat.eq_of_testBit_eq
  intro b
  rw [Nat.zero_testBit]
  cases e : (mis w P i k).testBit b
  · rfl
  · have := dal_b.mpr ⟨k, Nat.lt_succ_self k, e⟩
    rw [h3, Nat.zero_testBit] at this
    cases this
theorem FRX.ex {n : Nat} {w : Nat → Nat → Nat} {L : Nat} (hw : WF n w) (hn : n < 10) (h : 0 < bct n w L n 0 (fun _ => 0)) : ∃ o, FRX n w L 0 (fun _ => 0) o := by
  have key : ∀ i, i ≤ n → ∃ P : Nat → Nat, PFX n i P ∧ 0 < bct n w L (n - i) i P ∧ ∀ j, j < i → P j < n ∧ (amk P j).testBit (P j) = false ∧ 0 < bct n w L (n - (j + 1)) (j + 1) P ∧ ∀ q, q < P j → ¬ ((amk P j).testBit q = false ∧ 0 < bct n w L (n - (j + 1)) (j + 1) (upP P j q)) := by
    intro i
    induction i with
    | zero => intro _; exact ⟨fun _ => 0, pfx_0, by rw [Nat.sub_zero]; exact h, fun j hj => by omega⟩
    | succ i ih =>
      intro hi
      obtain ⟨P, hP, hb, hI⟩ := ih (by omega)
      have hmis := mis_0 hw hn (by omega) hP hb
      have hex : bld n w L i P ≠ 0 := by
        intro q
        rw [show n - i = (n - (i + 1)) + 1 by omega] at hb
        obtain ⟨p, hp, hpp⟩ := sm_pos.mp hb
        by_cases c : (!(amk P i).testBit p && canb w L P i p) = true
        · rw [if_pos c] at hpp
          simp only [Bool.and_eq_true, Bool.not_eq_true'] at c
          have := (bld_b (w := w) (L := L) (P := P) (i := i) hp).mpr ⟨c.1, hpp⟩
          rw [q, Nat.zero_testBit] at this
          cases this
        · rw [if_neg c] at hpp
          omega
      obtain ⟨p, hp9, hpb, hpl⟩ := has_low (bld_lt hn) hex
      have hpn : p < n := by
        refine Decidable.byContradiction (fun q => ?_)
        rw [lt_pow_bit (a := bld n w L i P) (n := n) (k := p) mkm_lt (by omega)] at hpb
        cases hpb
      obtain ⟨b1, b2⟩ := (bld_b hpn).mp hpb
      refine ⟨upP P i p, hP.on hpn b1, b2, fun j hj => ?_⟩
      by_cases e : j = i
      · subst e
        have ea : amk (upP P j p) j = amk P j := amk_eq (fun k hk => upP_n (by omega))
        rw [upP_i, ea]
        refine ⟨hpn, b1, b2, fun q hq hh => ?_⟩
        have := (bld_b (n := n) (w := w) (L := L) (P := P) (i := j) (p := q) (by omega)).mpr ⟨hh.1, ?_⟩
        · rw [hpl q hq] at this
          cases this
        · rw [bct_eq (Q := upP (upP P j p) j q) hw hn (by omega) (fun k hk => ?_)]
          · exact hh.2
          · by_cases e2 : k = j
            · subst e2; rw [upP_i, upP_i]
            · rw [upP_n e2, upP_n e2, upP_n e2]
      · obtain ⟨a1, a2, a3, a4⟩ := hI j (by omega)
        have ea : amk (upP P i p) j = amk P j := amk_eq (fun k hk => upP_n (by omega))
        rw [upP_n e, ea]
        refine ⟨a1, a2, ?_, fun q hq hh => a4 q hq ⟨hh.1, ?_⟩⟩
        · rw [bct_eq (Q := P) hw hn (by omega) (fun k hk => upP_n (by omega))]
          exact a3
        · rw [bct_eq (Q := upP (upP P i p) j q) hw hn (by omega) (fun k hk => ?_)]
          · exact hh.2
          · by_cases e2 : k = j
            · subst e2; rw [upP_i, upP_i]
            · rw [upP_n e2, upP_n e2, upP_n (by omega)]
  obtain ⟨P, -, -, hI⟩ := key n (Nat.le_refl _)
  exact ⟨P, fun j hj => by omega, fun j _ hj => hI j hj⟩
theorem FRX.pfx {n : Nat} {w : Nat → Nat → Nat} {L : Nat} {P o : Nat → Nat} (h : FRX n w L 0 P o) : ∀ {i : Nat}, i ≤ n → PFX n i o
  | 0, _ => pfx_0
  | i + 1, hi => by
    obtain ⟨a1, a2, -, -⟩ := h.2 i (Nat.zero_le _) (by omega)
    have h1 := (h.pfx (i := i) (by omega)).on a1 a2
    have e : ∀ j, upP o i (o i) j = o j := fun j => by
      by_cases q : j = i
      · subst q; exact upP_i
      · exact upP_n q
    have : upP o i (o i) = o := funext e
    rw [this] at h1
    exact h1
theorem FRX.low {n : Nat} {w : Nat → Nat → Nat} {L : Nat} {P o : Nat → Nat} (hw : WF n w) (hn : n < 10) (h : FRX n w L 0 P o) {i : Nat} (hi : i < n) : (bld n w L i o).testBit (o i) = true ∧ ∀ q, q < o i → (bld n w L i o).testBit q = false := by
  obtain ⟨a1, a2, a3, a4⟩ := h.2 i (Nat.zero_le _) hi
  refine ⟨(bld_b a1).mpr ⟨a2, ?_⟩, fun q hq => bF (fun c => a4 q hq ((bld_b (by omega)).mp c))⟩
  rw [bct_eq (Q := o) hw hn (by omega) (fun k hk => ?_)]
  · exact a3
  · by_cases q : k = i
    · subst q; exact upP_i
    · exact upP_n q
theorem r_findB {x z n l n' l' v : Nat} {w w' : Nat → Nat → Nat} {o : Nat → Nat} {t : St} (h : CN x n l w t) (gx : netAt x = true) (hx : x + 3 < 91 ∨ 94 < x) (gz : findAt z = true) (hz : z + 1 < 91 ∨ 97 < z) (G : GN n l w) (h1 : 1 ≤ n) (h' : CN 91 n' l' w' t) (G' : GN n' l' w') (hM : MI n' w' t) (hv : LL n w v) (ho : FRX n w v 0 (fun _ => 0) o) : Pc (FX0_find x z t) (fun _ u => CN 91 n l w u ∧ MI n w u ∧ (∀ c, (c < 91 ∨ 97 < c) → c ≠ z → c ≠ z + 1 → u c = t c) ∧ u z 0 = t z 0 ∧ u z 1 = nI v ∧ u z 2 = nI (bct n w v n 0 (fun _ => 0)) ∧ u z 3 = nI (bld n w v 0 (fun _ => 0)) ∧ ∀ i, i < n → u (z + 1) i = nI (o i)) := by
  obtain ⟨hn, hw, hl⟩ := id G
  have v9 : v < 10 := by have := hv.1; omega
  unfold FX0_find
  refine Pc.ck (fun _ => Pc.ck (fun _ => Pc.bd _ (r_turnTo h gx hx G h' G' hM).pc ?_))
  rintro _ t1 ⟨c1, m1, f1⟩
  refine Pc.bd _ (r_leastLimit hw hn h1 c1 m1) ?_
  rintro _ t2 ⟨⟨v2, rfl, g2⟩, m2, f2⟩
  have := hv.uq g2.ll
  subst this
  have fz : ∀ {a i : Nat} {b : Int32} {s : St}, (a < 91 ∨ 97 < a) → MI n w s → CN 91 n l w s → CN 91 n l w (wr s a i b) ∧ MI n w (wr s a i b) := fun ha hm hc => ⟨hc.fr (wr_off _ (by omega)) (wr_off _ (by omega)) (wr_off _ (by omega)), hm.fr (wr_off _ (by omega)) (wr_off _ (by omega))⟩
  have c2 : CN 91 n l w t2 := c1.fr (f2 _ (by decide) (by decide) (by decide)) (f2 _ (by decide) (by decide) (by decide)) (f2 _ (by decide) (by decide) (by decide))
  refine PcwrE ?_
  obtain ⟨c3, m3⟩ := fz (a := z) (i := 1) (b := nI v) (by omega) m2 c2
  refine Pc.bd _ (r_rowsFrom hw hn 11 0 v (fun _ => 0) _ (Nat.zero_le _) pfx_0 pre_0 v9 c3 m3 (fun q hq => by omega) (by omega)) ?_
  rintro _ t4 ⟨rfl, m4, f4, -⟩
  have c4 : CN 91 n l w t4 := c3.fr (f4 _ (by decide) (by decide) (by decide)) (f4 _ (by decide) (by decide) (by decide)) (f4 _ (by decide) (by decide) (by decide))
  refine PcwrE ?_
  obtain ⟨c5, m5⟩ := fz (a := z) (i := 2) (b := nI (bct n w v (n - 0) 0 (fun _ => 0))) (by omega) m4 c4
  refine Pc.bd _ (r_leaders hw hn (i := 0) (P := fun _ => 0) (by omega) pfx_0 (fun k hk => by omega) v9 c5 m5 (fun q hq => by omega)) ?_
  rintro _ t6 ⟨rfl, m6, f6, -⟩
  have c6 : CN 91 n l w t6 := c5.fr (f6 _ (by decide) (by decide) (by decide)) (f6 _ (by decide) (by decide) (by decide)) (f6 _ (by decide) (by decide) (by decide))
  refine PcwrE ?_
  obtain ⟨c7, m7⟩ := fz (a := z) (i := 3) (b := nI (bld n w v 0 (fun _ => 0))) (by omega) m6 c6
  generalize e7 : wr t6 z 3 (nI (bld n w v 0 (fun _ => 0))) = t7 at c7 m7 ⊢
  refine Pc.bd (fun _ u => CN 91 n l w u ∧ MI n w u ∧ (∀ c, c ≠ 95 → c ≠ 96 → c ≠ 97 → c ≠ z + 1 → u c = t7 c) ∧ ∀ i, i < n → u (z + 1) i = nI (o i)) ?_ ?_
  · refine Pc.loop (fun d s => ∃ j, j ≤ n ∧ d = (nI (amk o j), nI j) ∧ CN 91 n l w s ∧ MI n w s ∧ (∀ c, c ≠ 95 → c ≠ 96 → c ≠ 97 → c ≠ z + 1 → s c = t7 c) ∧ (∀ i, i < j → s (z + 1) i = nI (o i)) ∧ ∀ i, i < j → s 95 i = nI (o i)) ?_ ⟨0, Nat.zero_le _, rfl, c7, m7, fun _ _ _ _ _ => rfl, fun i hi => by omega, fun i hi => by omega⟩
    rintro d s ⟨j, hj, rfl, sC, sM, sf, sz, s95⟩
    unfold SX0_find_43
    dsimp only
    refine Pc.rdE sC.1 (Pc.cv (nI_leP (by omega) (by omega)) (Pc.ite (fun c => Pc.ret ?_) (fun c => ?_)))
    · have : j = n := by omega
      subst this
      exact ⟨sC, sM, sf, sz⟩
    · have hjn : j < n := by omega
      obtain ⟨a1, a2, a3, -⟩ := ho.2 j (Nat.zero_le _) hjn
      have hPj := ho.pfx (i := j) (by omega)
      have hb0 : 0 < bct n w v (n - j) j o := by
        by_cases e0 : j = 0
        · subst e0
          rw [bct_eq (Q := fun _ => 0) hw hn (by omega) (fun k hk => by omega)]
          exact hv.2.2
        · obtain ⟨-, -, b3, -⟩ := ho.2 (j - 1) (Nat.zero_le _) (by omega)
          rw [show j - 1 + 1 = j by omega] at b3
          exact b3
      refine Pc.bd _ (r_leaders hw hn hjn hPj (mis_0 hw hn (by omega) hPj hb0) v9 sC sM s95) ?_
      rintro _ u ⟨rfl, uM, uf, up⟩
      obtain ⟨l1, l2⟩ := ho.low hw hn hjn
      refine Pc.bq (q_lowest (bld_lt hn) (by omega) l1 l2) (Pc.ck (fun _ => PcwrE (Pc.ck (fun _ => PcwrE (Pc.ret ⟨j + 1, by omega, ?_, ?_, ?_, ?_, ?_, ?_⟩)))))
      · rw [shl_1 (by omega), nI_or, nI_1]
        rfl
      · exact sC.fr (by rw [wr_off _ (by omega), wr_off _ (by omega), uf _ (by decide) (by decide) (by decide)]) (by rw [wr_off _ (by omega), wr_off _ (by omega), uf _ (by decide) (by decide) (by decide)]) (by rw [wr_off _ (by omega), wr_off _ (by omega), uf _ (by decide) (by decide) (by decide)])
      · exact uM.fr (by rw [wr_off _ (by omega), wr_off _ (by omega)]) (by rw [wr_off _ (by omega), wr_off _ (by omega)])
      · intro c k1 k2 k3 k4
        rw [wr_off c k4, wr_off c k1, uf c k1 k2 k3]
        exact sf c k1 k2 k3 k4
      · intro i hi
        rw [nI_cl (by omega)]
        by_cases e : i = j
        · subst e; rw [wrs]
        · rw [wrn e, wrf (by omega), uf _ (by omega) (by omega) (by omega)]
          exact sz i (by omega)
      · intro i hi
        rw [nI_cl (by omega), wrf (by omega)]
        by_cases e : i = j
        · subst e; rw [wrs]
        · rw [wrn e, up i (by omega)]
          exact s95 i (by omega)
  · rintro _ u ⟨uC, uM, uf, uz⟩
    have ez : u z = t7 z := uf z (by omega) (by omega) (by omega) (by omega)
    have e72 : t7 z 2 = t6 z 2 := by rw [← e7, wrn (by decide)]
    have e62 : t6 z = wr t4 z 2 (nI (bct n w v (n - 0) 0 (fun _ => 0))) z := f6 z (by omega) (by omega) (by omega)
    have e42 : t4 z = wr t2 z 1 (nI v) z := f4 z (by omega) (by omega) (by omega)
    have e22 : t2 z = t1 z := f2 z (by omega) (by omega) (by omega)
    refine Pc.ret ⟨uC, uM, fun c k1 k2 k3 => ?_, ?_, ?_, ?_, ?_, uz⟩
    · rw [uf c (by omega) (by omega) (by omega) k3, ← e7, wr_off c k2, f6 c (by omega) (by omega) (by omega), wr_off c k2, f4 c (by omega) (by omega) (by omega), wr_off c k2, f2 c (by omega) (by omega) (by omega)]
      exact f1 c k1
    · rw [ez, ← e7, wrn (by decide), e62, wrn (by decide), e42, wrn (by decide), e22, f1 z (by omega)]
    · rw [ez, ← e7, wrn (by decide), e62, wrn (by decide), e42, wrs]
    · rw [ez, ← e7, wrn (by decide), e62, wrs, Nat.sub_zero]
    · rw [ez, ← e7, wrs]
theorem r_rowsWithinB {x n l n' l' v : Nat} {w w' : Nat → Nat → Nat} {t : St} (h : CN x n l w t) (gx : netAt x = true) (hx : x + 3 < 91 ∨ 94 < x) (G : GN n l w) (h1 : 1 ≤ n) (h' : CN 91 n' l' w' t) (G' : GN n' l' w') (hM : MI n' w' t) (hv : v < 2147483648) : Pc (FX0_rowsWithin x (nI v) t) (fun r u => r = nI (bct n w v n 0 (fun _ => 0)) ∧ CN 91 n l w u ∧ MI n w u ∧ ∀ c, (c < 91 ∨ 97 < c) → u c = t c) := by
  obtain ⟨hn, hw, hl⟩ := id G
  unfold FX0_rowsWithin
  refine Pc.ck (fun _ => Pc.bd _ (r_turnTo h gx hx G h' G' hM).pc ?_)
  rintro _ t1 ⟨c1, m1, f1⟩
  refine Pc.rdE c1.1 ?_
  rw [nI_s1 h1, mnI_n hv (by omega)]
  have e1 : Nat.min v (n - 1) ≤ n - 1 := Nat.min_le_right _ _
  refine Pc.bd _ (r_rowsFrom hw hn 11 0 (Nat.min v (n - 1)) (fun _ => 0) _ (Nat.zero_le _) pfx_0 pre_0 (by omega) c1 m1 (fun q hq => by omega) (by omega)) ?_
  rintro _ t4 ⟨rfl, m4, f4, -⟩
  refine Pc.ret ⟨?_, c1.fr (f4 _ (by decide) (by decide) (by decide)) (f4 _ (by decide) (by decide) (by decide)) (f4 _ (by decide) (by decide) (by decide)), m4, fun c hc => by rw [f4 c (by omega) (by omega) (by omega)]; exact f1 c hc⟩
  rw [Nat.sub_zero]
  by_cases e : v ≤ n - 1
  · rw [show Nat.min v (n - 1) = v from Nat.min_eq_left e]
  · rw [show Nat.min v (n - 1) = n - 1 from Nat.min_eq_right (by omega)]
    rw [bct_cap (L := n - 1) (M := v) (Nat.le_refl _) (by omega) (by omega)]
