/-! the reference's tape, tokens -/
theorem e_in {t : St} {a b c : Int64} {Q : Int32 → St → Prop} (q1 : b.toInt ≤ a.toInt → a.toInt ≤ c.toInt → Q 1 t) (q0 : ¬ (b.toInt ≤ a.toInt ∧ a.toInt ≤ c.toInt) → Q 0 t) : Ok (FX12_in a b c t) Q := by
  refine (xX12_in (t := t)).mono ?_
  rintro r _ ⟨rfl, ⟨rfl, h1, h2⟩ | ⟨rfl, h⟩⟩
  · exact q1 h1 h2
  · exact q0 h
theorem n64 {a : Nat} (h : a < 2147483648) : (nI a).toInt64.toInt = (a : Int) := by rw [Int32.toInt_toInt64, nI_toInt h]
theorem kd1 {b : Nat} : kd b = 1 ↔ 97 ≤ b ∧ b ≤ 122 := by
  unfold kd
  by_cases h : 97 ≤ b ∧ b ≤ 122
  · rw [if_pos h]; exact ⟨fun _ => h, fun _ => rfl⟩
  · rw [if_neg h]
    refine ⟨fun q => ?_, fun q => absurd q h⟩
    by_cases g : 48 ≤ b ∧ b ≤ 57
    · rw [if_pos g] at q; cases q
    · rw [if_neg g] at q; cases q
theorem kd2 {b : Nat} : kd b = 2 ↔ 48 ≤ b ∧ b ≤ 57 := by
  unfold kd
  by_cases h : 97 ≤ b ∧ b ≤ 122
  · rw [if_pos h]; exact ⟨fun q => (by cases q), fun q => by omega⟩
  · rw [if_neg h]
    by_cases g : 48 ≤ b ∧ b ≤ 57
    · rw [if_pos g]; exact ⟨fun _ => g, fun _ => rfl⟩
    · rw [if_neg g]; exact ⟨fun q => (by cases q), fun q => absurd q g⟩
/-- the reference's reader stands at the token from p on -/
def RM (k : Nat) (bt : Nat → Nat) (p : Nat) (t : St) : Prop := MT k bt t ∧ p ≤ k ∧ t 149 9 = nI (tkb k bt p) ∧ t 149 10 = nI (tkc k bt p) ∧ t 149 8 = nI (tke k bt p) ∧ t 149 11 = nI (if tkc k bt p = 2 then vl bt (tkb k bt p) (tke k bt p - tkb k bt p) else 0)
/-- only what is read changes -/
def KM (t u : St) : Prop := (∀ c, c ≠ 149 → u c = t c) ∧ ∀ i, i < 8 ∨ 11 < i → u 149 i = t 149 i
theorem KM.rf {t : St} : KM t t := ⟨fun _ _ => rfl, fun _ _ => rfl⟩
theorem KM.tr {t u v : St} (h : KM t u) (g : KM u v) : KM t v := ⟨fun c hc => (g.1 c hc).trans (h.1 c hc), fun i hi => (g.2 i hi).trans (h.2 i hi)⟩
theorem KM.mt {t u : St} (h : KM t u) {k : Nat} {bt : Nat → Nat} (g : MT k bt t) : MT k bt u := by
  unfold MT
  rw [h.2 5 (by omega), h.1 153 (by decide)]
  exact g
theorem KM.w {t : St} {i : Nat} {v : Int32} (hi : 8 ≤ i ∧ i ≤ 11) : KM t (wr t 149 i v) := ⟨fun c hc => wr_off c hc, fun j hj => wrn (by omega)⟩
theorem e_isAt {k : Nat} {bt : Nat → Nat} {t : St} (h : MT k bt t) {i lo hi : Nat} (e8 : t 149 8 = nI i) (hi2 : i ≤ k) (hlo : lo < 256) (hhi : hi < 256) {Q : Int32 → St → Prop} (q1 : i < k → lo ≤ bt i → bt i ≤ hi → Q 1 t) (q0 : ¬ (i < k ∧ lo ≤ bt i ∧ bt i ≤ hi) → Q 0 t) : Ok (FX12_isAt (nI lo) (nI hi) t) Q := by
  obtain ⟨hk, e5, hb⟩ := h
  unfold FX12_isAt
  refine Ok.rdE e8 (Ok.rdE e5 ?_)
  by_cases c : k ≤ i
  · exact Ok.ifT (by rw [nI_leP (by omega) (by omega)]; exact c) (Ok.ret (q0 (by omega)))
  · refine Ok.ifF (by rw [nI_leP (by omega) (by omega)]; exact c) (Ok.rdE e8 (Ok.ckT (inb_n (by omega) (by omega)) ?_))
    rw [nI_cl (by omega)]
    obtain ⟨hb1, hb2⟩ := hb i (by omega)
    refine Ok.rdE hb2 (Ok.bd (fun r u => t = u ∧ ((r = 1 ∧ lo ≤ bt i ∧ bt i ≤ hi) ∨ (r = 0 ∧ ¬ (lo ≤ bt i ∧ bt i ≤ hi)))) (e_in (fun a b => ?_) (fun a => ?_)) ?_)
    · rw [n64 (by omega), n64 (by omega)] at a b
      exact ⟨rfl, Or.inl ⟨rfl, by omega, by omega⟩⟩
    · rw [n64 (by omega), n64 (by omega), n64 (by omega)] at a
      exact ⟨rfl, Or.inr ⟨rfl, by omega⟩⟩
    rintro r _ ⟨rfl, ⟨rfl, a, b⟩ | ⟨rfl, a⟩⟩
    · exact Ok.ifF (by decide) (Ok.ret (q1 (by omega) a b))
    · exact Ok.ifT rfl (Ok.ret (q0 (fun q => a q.2)))
theorem m_next {k : Nat} {bt : Nat → Nat} {t : St} (h : MT k bt t) {p : Nat} (hp : p ≤ k) (e8 : t 149 8 = nI p) : Ok (FX12_next t) (fun _ u => RM k bt p u ∧ KM t u) := by
  have hk := h.1
  unfold FX12_next
  refine Ok.bd (fun _ s => s 149 8 = nI (tkb k bt p) ∧ KM t s) ?_ ?_
  · refine Ok.loop (fun m _ s => ∃ j, m = k - j ∧ p ≤ j ∧ j ≤ k ∧ (∀ i, p ≤ i → i < j → bl (bt i) = true) ∧ s 149 8 = nI j ∧ KM t s) ?_ (k - p) _ _ ⟨p, rfl, Nat.le_refl _, hp, fun i a b => by omega, e8, KM.rf⟩
    rintro m ⟨⟩ s ⟨j, rfl, h1, h2, h3, g8, hK⟩
    have hC := hK.mt h
    unfold SX12_next_0
    have go : bl (bt j) = true → j < k → Ok (rdb s 149 8 (fun v5 => (wrb s 149 8 (v5 + (1 : Int32)) (fun t7 => (some ((Sum.inl () : Unit ⊕ Unit), t7)))))) (fun x t_1 => Sum.elim (fun d => ∃ j_1, j_1 < k - j ∧ ∃ j, j_1 = k - j ∧ p ≤ j ∧ j ≤ k ∧ (∀ i, p ≤ i → i < j → bl (bt i) = true) ∧ t_1 149 8 = nI j ∧ KM t t_1) (fun r => t_1 149 8 = nI (tkb k bt p) ∧ KM t t_1) x) := by
      intro hb2 hj
      refine Ok.rdE g8 (OkwrE (Ok.ret ⟨k - (j + 1), by omega, j + 1, rfl, by omega, by omega, fun i a b => ?_, ?_, ?_⟩))
      · by_cases e : i = j
        · rw [e]; exact hb2
        · exact h3 i a (by omega)
      · rw [wrs, nI_1]
      · exact hK.tr (KM.w (by omega))
    refine Ok.bd (fun r u => s = u ∧ ((r = 1 ∧ j < k ∧ bt j = 32) ∨ (r = 0 ∧ ¬ (j < k ∧ bt j = 32)))) (e_isAt hC g8 h2 (lo := 32) (hi := 32) (by omega) (by omega) (fun a b c => ⟨rfl, Or.inl ⟨rfl, a, by omega⟩⟩) (fun a => ⟨rfl, Or.inr ⟨rfl, fun q => a ⟨q.1, by omega, by omega⟩⟩⟩)) ?_
    rintro r _ ⟨rfl, ⟨rfl, a, b⟩ | ⟨rfl, a⟩⟩
    · exact Ok.ifF (by decide) (go (by simp [bl, b]) a)
    · skip
      refine Ok.ifT rfl (Ok.bd (fun r u => s = u ∧ ((r = 1 ∧ j < k ∧ bt j = 10) ∨ (r = 0 ∧ ¬ (j < k ∧ bt j = 10)))) (e_isAt hC g8 h2 (lo := 10) (hi := 10) (by omega) (by omega) (fun a b c => ⟨rfl, Or.inl ⟨rfl, a, by omega⟩⟩) (fun a => ⟨rfl, Or.inr ⟨rfl, fun q => a ⟨q.1, by omega, by omega⟩⟩⟩)) ?_)
      rintro r _ ⟨rfl, ⟨rfl, a2, b2⟩ | ⟨rfl, a2⟩⟩
      · exact Ok.ifF (by decide) (go (by simp [bl, b2]) a2)
      · refine Ok.ifT rfl (Ok.ret ⟨?_, hK⟩)
        rw [g8]
        congr 1
        refine AV.uq (P := fun j => bl (bt j)) ⟨h1, h2, h3, fun q => ?_⟩ (tkb_AV hk hp)
        have n1 : ¬ bt j = 32 := fun e => a ⟨q, e⟩
        have n2 : ¬ bt j = 10 := fun e => a2 ⟨q, e⟩
        simp [bl, n1, n2]
  · rintro _ s ⟨g8, hK⟩
    have hC := hK.mt h
    have hle := tkb_le (bt := bt) hk hp
    refine Ok.rdE g8 (OkwrE (OkwrE ?_))
    have K3 : KM t (wr (wr s 149 9 (nI (tkb k bt p))) 149 11 0) := (hK.tr (KM.w (by omega))).tr (KM.w (by omega))
    have f8 : wr (wr s 149 9 (nI (tkb k bt p))) 149 11 0 149 8 = nI (tkb k bt p) := by rw [wrn (by decide), wrn (by decide)]; exact g8
    have f9 : wr (wr s 149 9 (nI (tkb k bt p))) 149 11 0 149 9 = nI (tkb k bt p) := by rw [wrn (by decide), wrs]
    have f11 : wr (wr s 149 9 (nI (tkb k bt p))) 149 11 0 149 11 = nI 0 := wrs
    generalize wr (wr s 149 9 (nI (tkb k bt p))) 149 11 0 = y at K3 f8 f9 f11 ⊢
    have hC3 := K3.mt h
    refine Ok.rdE f8 (Ok.rdE hC3.2.1 ?_)
    refine Ok.cv (nI_eqP (by omega) (by omega)) ?_
    by_cases ce : tkb k bt p = k
    · have c0 : tkc k bt p = 0 := by unfold tkc; rw [if_neg (by omega)]
      have he : tke k bt p = tkb k bt p := by unfold tke; rw [if_neg (by omega)]
      refine Ok.ifT ce (OkwrE (Ok.ret ⟨⟨(K3.tr (KM.w (by omega))).mt h, hp, ?_, ?_, ?_, ?_⟩, K3.tr (KM.w (by omega))⟩))
      · rw [wrn (by decide)]; exact f9
      · rw [wrs, c0]; rfl
      · rw [wrn (by decide), he]; exact f8
      · rw [wrn (by decide), if_neg (by omega)]; exact f11
    have hb : tkb k bt p < k := by omega
    have ec : tkc k bt p = kd (bt (tkb k bt p)) := by unfold tkc; rw [if_pos hb]
    refine Ok.ifF ce (Ok.bd (fun r u => y = u ∧ ((r = 1 ∧ tkc k bt p = 1) ∨ (r = 0 ∧ ¬ tkc k bt p = 1))) (e_isAt hC3 f8 hle.2 (lo := 97) (hi := 122) (by omega) (by omega) (fun a b c => ⟨rfl, Or.inl ⟨rfl, by rw [ec, kd1]; exact ⟨b, c⟩⟩⟩) (fun a => ⟨rfl, Or.inr ⟨rfl, fun q => a ⟨hb, by rw [ec, kd1] at q; exact q⟩⟩⟩)) ?_)
    rintro r _ ⟨rfl, ⟨rfl, c1⟩ | ⟨rfl, c1⟩⟩
    · skip
      refine Ok.ifF (by decide) (OkwrE (Ok.bd (fun _ u => RM k bt p u ∧ KM t u) ?_ (fun _ u hu => Ok.ret hu)))
      refine Ok.loop (fun m _ s => ∃ j, m = k - j ∧ tkb k bt p ≤ j ∧ j ≤ k ∧ (∀ i, tkb k bt p ≤ i → i < j → (kd (bt i) == kd (bt (tkb k bt p))) = true) ∧ s 149 8 = nI j ∧ s 149 9 = nI (tkb k bt p) ∧ s 149 10 = nI 1 ∧ s 149 11 = nI 0 ∧ KM t s) ?_ (k - tkb k bt p) _ _ ⟨_, rfl, Nat.le_refl _, by omega, fun i a b => by omega, by rw [wrn (by decide)]; exact f8, by rw [wrn (by decide)]; exact f9, wrs, by rw [wrn (by decide)]; exact f11, K3.tr (KM.w (by omega))⟩
      rintro m ⟨⟩ s ⟨j, rfl, h1, h2, h3, g8, g9, g10, g11, gK⟩
      unfold SX12_next_83
      refine Ok.bd (fun r u => s = u ∧ ((r = 1 ∧ j < k ∧ kd (bt j) = 1) ∨ (r = 0 ∧ ¬ (j < k ∧ kd (bt j) = 1)))) (e_isAt (gK.mt h) g8 h2 (lo := 97) (hi := 122) (by omega) (by omega) (fun a b c => ⟨rfl, Or.inl ⟨rfl, a, kd1.mpr ⟨b, c⟩⟩⟩) (fun a => ⟨rfl, Or.inr ⟨rfl, fun q => a ⟨q.1, kd1.mp q.2⟩⟩⟩)) ?_
      rintro r _ ⟨rfl, ⟨rfl, a, b⟩ | ⟨rfl, a⟩⟩
      · refine Ok.ifF (by decide) (Ok.rdE g8 (OkwrE (Ok.ret ⟨k - (j + 1), by omega, j + 1, rfl, by omega, by omega, fun i q1 q2 => ?_, ?_, ?_, ?_, ?_, gK.tr (KM.w (by omega))⟩)))
        · by_cases e : i = j
          · rw [e, b, ← ec, c1]; rfl
          · exact h3 i q1 (by omega)
        · rw [wrs, nI_1]
        · rw [wrn (by decide)]; exact g9
        · rw [wrn (by decide)]; exact g10
        · rw [wrn (by decide)]; exact g11
      · have hj : tkb k bt p + 1 ≤ j := by
          refine Decidable.byContradiction (fun q => a ?_)
          have : j = tkb k bt p := by omega
          rw [this, ← ec]
          exact ⟨hb, c1⟩
        refine Ok.ifT rfl (Ok.ret ⟨⟨gK.mt h, hp, g9, by rw [c1]; exact g10, ?_, by rw [if_neg (by omega)]; exact g11⟩, gK⟩)
        rw [g8]
        congr 1
        refine AV.uq (P := fun j => kd (bt j) == kd (bt (tkb k bt p))) ⟨hj, h2, fun i q1 q2 => h3 i (by omega) q2, fun q => ?_⟩ (tke_AV hk hp hb (by omega))
        refine beq_eq_false_iff_ne.mpr (fun e => a ⟨q, ?_⟩)
        rw [e, ← ec]
        exact c1
    · skip
      refine Ok.ifT rfl (Ok.bd (fun r u => y = u ∧ ((r = 1 ∧ tkc k bt p = 2) ∨ (r = 0 ∧ ¬ tkc k bt p = 2))) (e_isAt hC3 f8 hle.2 (lo := 48) (hi := 57) (by omega) (by omega) (fun a b c => ⟨rfl, Or.inl ⟨rfl, by rw [ec, kd2]; exact ⟨b, c⟩⟩⟩) (fun a => ⟨rfl, Or.inr ⟨rfl, fun q => a ⟨hb, by rw [ec, kd2] at q; exact q⟩⟩⟩)) ?_)
      rintro r _ ⟨rfl, ⟨rfl, c2⟩ | ⟨rfl, c2⟩⟩
      · skip
        refine Ok.ifF (by decide) (OkwrE (Ok.bd (fun _ u => RM k bt p u ∧ KM t u) ?_ (fun _ u hu => Ok.ret hu)))
        refine Ok.loop (fun m _ s => ∃ j, m = k - j ∧ tkb k bt p ≤ j ∧ j ≤ k ∧ (∀ i, tkb k bt p ≤ i → i < j → (kd (bt i) == kd (bt (tkb k bt p))) = true) ∧ s 149 8 = nI j ∧ s 149 9 = nI (tkb k bt p) ∧ s 149 10 = nI 2 ∧ s 149 11 = nI (vl bt (tkb k bt p) (j - tkb k bt p)) ∧ KM t s) ?_ (k - tkb k bt p) _ _ ⟨_, rfl, Nat.le_refl _, by omega, fun i a b => by omega, by rw [wrn (by decide)]; exact f8, by rw [wrn (by decide)]; exact f9, wrs, by rw [wrn (by decide), Nat.sub_self]; exact f11, K3.tr (KM.w (by omega))⟩
        rintro m ⟨⟩ s ⟨j, rfl, h1, h2, h3, g8, g9, g10, g11, gK⟩
        unfold SX12_next_123
        refine Ok.bd (fun r u => s = u ∧ ((r = 1 ∧ j < k ∧ kd (bt j) = 2) ∨ (r = 0 ∧ ¬ (j < k ∧ kd (bt j) = 2)))) (e_isAt (gK.mt h) g8 h2 (lo := 48) (hi := 57) (by omega) (by omega) (fun a b c => ⟨rfl, Or.inl ⟨rfl, a, kd2.mpr ⟨b, c⟩⟩⟩) (fun a => ⟨rfl, Or.inr ⟨rfl, fun q => a ⟨q.1, kd2.mp q.2⟩⟩⟩)) ?_
        rintro r _ ⟨rfl, ⟨rfl, a, b⟩ | ⟨rfl, a⟩⟩
        · have hd := kd2.mp b
          have hv := vl_le (bt := bt) (b := tkb k bt p) (j - tkb k bt p)
          refine Ok.ifF (by decide) (Ok.rdE g11 (Ok.rdE g8 (Ok.ckT (inb_n (by omega) (by omega)) ?_)))
          rw [nI_cl (by omega)]
          refine Ok.rdE ((gK.mt h).2.2 j a).2 ?_
          rw [li_10, li_48, li_1000, nI_mul, nI_add, nI_sub (by omega), mnI_n (by omega) (by omega)]
          refine OkwrE (Ok.rdE (x := nI j) (by rw [wrn (by decide)]; exact g8) (OkwrE (Ok.ret ⟨k - (j + 1), by omega, j + 1, rfl, by omega, by omega, fun i q1 q2 => ?_, ?_, ?_, ?_, ?_, (gK.tr (KM.w (by omega))).tr (KM.w (by omega))⟩)))
          · by_cases e : i = j
            · rw [e, b, ← ec, c2]; rfl
            · exact h3 i q1 (by omega)
          · rw [wrs, nI_1]
          · rw [wrn (by decide), wrn (by decide)]; exact g9
          · rw [wrn (by decide), wrn (by decide)]; exact g10
          · rw [wrn (by decide), wrs, show j + 1 - tkb k bt p = (j - tkb k bt p) + 1 by omega]
            congr 1
            show _ = Nat.min 1000 (10 * vl bt (tkb k bt p) (j - tkb k bt p) + bt (tkb k bt p + (j - tkb k bt p)) - 48)
            rw [show tkb k bt p + (j - tkb k bt p) = j by omega]
        · have hj : tkb k bt p + 1 ≤ j := by
            refine Decidable.byContradiction (fun q => a ?_)
            have : j = tkb k bt p := by omega
            rw [this, ← ec]
            exact ⟨hb, c2⟩
          have ee : j = tke k bt p := by
            refine AV.uq (P := fun j => kd (bt j) == kd (bt (tkb k bt p))) ⟨hj, h2, fun i q1 q2 => h3 i (by omega) q2, fun q => ?_⟩ (tke_AV hk hp hb (by omega))
            refine beq_eq_false_iff_ne.mpr (fun e => a ⟨q, ?_⟩)
            rw [e, ← ec]
            exact c2
          refine Ok.ifT rfl (Ok.ret ⟨⟨gK.mt h, hp, g9, by rw [c2]; exact g10, by rw [← ee]; exact g8, by rw [if_pos c2, ← ee]; exact g11⟩, gK⟩)
      · have c3 : tkc k bt p = 3 := by
          have := kd_r (bt (tkb k bt p))
          omega
        refine Ok.ifT rfl (OkwrE (Ok.rdE (x := nI (tkb k bt p)) (by rw [wrn (by decide)]; exact f8) (OkwrE (Ok.ret ⟨⟨((K3.tr (KM.w (by omega))).tr (KM.w (by omega))).mt h, hp, ?_, ?_, ?_, ?_⟩, (K3.tr (KM.w (by omega))).tr (KM.w (by omega))⟩))))
        · rw [wrn (by decide), wrn (by decide)]; exact f9
        · rw [wrn (by decide), wrs, c3]; rfl
        · rw [wrs, nI_1]
          congr 1
          unfold tke
          rw [if_pos hb, if_pos (by omega)]
        · rw [wrn (by decide), wrn (by decide), if_neg (by omega)]; exact f11
theorem RM.le {k : Nat} {bt : Nat → Nat} {p : Nat} {t : St} (h : RM k bt p t) : tkb k bt p ≤ k ∧ tke k bt p ≤ k ∧ tkb k bt p ≤ tke k bt p ∧ k < 401 := by
  have h1 := tkb_le (bt := bt) h.1.1 h.2.1
  have h2 := tke_le (bt := bt) h.1.1 h.2.1
  have h3 := h.1.1
  omega
theorem m_nx {k : Nat} {bt : Nat → Nat} {t : St} {p : Nat} (h : RM k bt p t) : Ok (FX12_next t) (fun _ u => RM k bt (tke k bt p) u ∧ KM t u) := m_next h.1 h.le.2.1 h.2.2.2.2.1
/-- a fault is told -/
def BD (f : Nat × Nat) (t : St) : Prop := t 149 12 = 1 ∧ t 149 6 = nI f.1 ∧ t 149 7 = nI f.2
/-- the reader's fields and the slots change -/
def FM (t u : St) : Prop := (∀ c, c ≠ 149 → c ≠ 150 → u c = t c) ∧ ∀ i, i < 6 ∨ 12 < i → u 149 i = t 149 i
theorem FM.rf {t : St} : FM t t := ⟨fun _ _ _ => rfl, fun _ _ => rfl⟩
theorem FM.tr {t u v : St} (h : FM t u) (g : FM u v) : FM t v := ⟨fun c h1 h2 => (g.1 c h1 h2).trans (h.1 c h1 h2), fun i hi => (g.2 i hi).trans (h.2 i hi)⟩
theorem KM.fm {t u : St} (h : KM t u) : FM t u := ⟨fun c h1 _ => h.1 c h1, fun i hi => h.2 i (by omega)⟩
theorem m_faults {k : Nat} {bt : Nat → Nat} {t : St} {p f : Nat} (h : RM k bt p t) (hb : t 149 12 = 0) : Ok (FX12_faults (nI f) t) (fun _ u => BD (f, tkb k bt p) u ∧ FM t u) := by
  unfold FX12_faults
  refine Ok.rdE hb (Ok.ifT rfl (OkwrE (OkwrE (Ok.rdE (x := nI (tkb k bt p)) ?_ (OkwrE (Ok.ret ⟨⟨?_, ?_, wrs⟩, fun c h1 _ => ?_, fun i hi => ?_⟩))))))
  · rw [wrn (by decide), wrn (by decide)]; exact h.2.2.1
  · rw [wrn (by decide), wrn (by decide), wrs]
  · rw [wrn (by decide), wrs]
  · rw [wr_off c h1, wr_off c h1, wr_off c h1]
  · rw [wrn (by omega), wrn (by omega), wrn (by omega)]
theorem b_faults {t : St} (hb : t 149 12 = 1) {a : Int32} {Q : Unit → St → Prop} (q : Q () t) : Ok (FX12_faults a t) Q := by
  unfold FX12_faults
  exact Ok.rdE hb (Ok.ifF (by decide) (Ok.ret q))
theorem b_passes {t : St} (hb : t 149 12 = 1) {Q : Unit → St → Prop} (q : Q () t) : Ok (FX12_passes t) Q := by
  unfold FX12_passes
  exact Ok.rdE hb (Ok.ifF (by decide) (Ok.ret q))
theorem m_passes {k : Nat} {bt : Nat → Nat} {t : St} {p : Nat} (h : RM k bt p t) (hb : t 149 12 = 0) : Ok (FX12_passes t) (fun _ u => RM k bt (tke k bt p) u ∧ KM t u) := by
  unfold FX12_passes
  exact Ok.rdE hb (Ok.ifT rfl (Ok.bd _ (m_nx h) (fun _ u hu => Ok.ret hu)))
theorem b_must {t : St} (hb : t 149 12 = 1) {a : Int32} {Q : Unit → St → Prop} (q : Q () t) : Ok (FX12_must a t) Q := by
  unfold FX12_must
  refine Ok.bd (fun _ u => t = u) (Ok.ite (fun _ => Ok.bd (fun _ u => t = u) (b_faults hb rfl) (fun _ u e => Ok.ret e)) (fun _ => Ok.ret rfl)) ?_
  rintro _ _ rfl
  exact Ok.bd (fun _ u => t = u) (b_passes hb rfl) (by rintro _ _ rfl; exact Ok.ret q)
/-- must(true) -/
theorem m_must1 {k : Nat} {bt : Nat → Nat} {t : St} {p : Nat} (h : RM k bt p t) (hb : t 149 12 = 0) : Ok (FX12_must 1 t) (fun _ u => RM k bt (tke k bt p) u ∧ KM t u) := by
  unfold FX12_must
  refine Ok.bd (fun _ u => t = u) (Ok.ifF (by decide) (Ok.ret rfl)) ?_
  rintro _ _ rfl
  exact Ok.bd _ (m_passes h hb) (fun _ u hu => Ok.ret hu)
/-- must(false) -/
theorem m_must0 {k : Nat} {bt : Nat → Nat} {t : St} {p : Nat} (h : RM k bt p t) (hb : t 149 12 = 0) : Ok (FX12_must 0 t) (fun _ u => BD (1, tkb k bt p) u ∧ FM t u) := by
  unfold FX12_must
  refine Ok.bd (fun _ u => BD (1, tkb k bt p) u ∧ FM t u) (Ok.ifT rfl (Ok.bd _ (m_faults (f := 1) h hb) (fun _ u hu => Ok.ret hu))) ?_
  rintro _ u ⟨h1, h2⟩
  exact Ok.bd (fun _ v => v = u) (b_passes h1.1 rfl) (by rintro _ _ rfl; exact Ok.ret ⟨h1, h2⟩)
theorem b_sign {t : St} (hb : t 149 12 = 1) {a : Int32} {Q : Int32 → St → Prop} (q : Q 0 t) : Ok (FX12_isSign a t) Q := by
  unfold FX12_isSign
  exact Ok.rdE hb (Ok.ifF (by decide) (Ok.ret q))
theorem m_sign {k : Nat} {bt : Nat → Nat} {t : St} {p c : Nat} (h : RM k bt p t) (hb : t 149 12 = 0) (hc : c < 256) {Q : Int32 → St → Prop} (q1 : sgn k bt c p = true → Q 1 t) (q0 : sgn k bt c p = false → Q 0 t) : Ok (FX12_isSign (nI c) t) Q := by
  have hle := h.le
  have hc4 := tkc_lt (k := k) (bt := bt) (p := p)
  unfold FX12_isSign
  refine Ok.rdE hb (Ok.ifT rfl (Ok.rdE h.2.2.2.1 ?_))
  by_cases c3 : tkc k bt p = 3
  · have hb : tkb k bt p < k := tk3 (by omega)
    refine Ok.ifT (by rw [c3]; rfl) (Ok.rdE h.2.2.1 (Ok.ckT (inb_n (by omega) (by omega)) ?_))
    rw [nI_cl (by omega)]
    have hb3 := h.1.2.2 _ hb
    refine Ok.rdE hb3.2 ?_
    refine Ok.cv (nI_eqP (by omega) (by omega)) ?_
    exact Ok.ite (fun q => Ok.ret (q1 (decide_eq_true ⟨c3, q⟩))) (fun q => Ok.ret (q0 (decide_eq_false (fun a => q a.2))))
  · exact Ok.ifF (by rw [li_3, nI_eqP (by omega) (by omega)]; exact c3) (Ok.ret (q0 (decide_eq_false (fun a => c3 a.1))))
theorem b_here {t : St} (hb : t 149 12 = 1) {a b : Int32} {Q : Int32 → St → Prop} (q : Q a t) : Ok (FX12_here a b t) Q := by
  unfold FX12_here
  exact Ok.rdE hb (Ok.ifF (by decide) (Ok.ret q))
theorem m_here {k : Nat} {bt : Nat → Nat} {t : St} {p lo hi : Nat} (h : RM k bt p t) (hb : t 149 12 = 0) (hlo : lo < 1001) (hhi : hi < 1001) : Ok (FX12_here (nI lo) (nI hi) t) (fun r u => Sum.elim (fun f => r = nI lo ∧ BD f u ∧ FM t u) (fun v => r = nI v ∧ t = u) (num k bt lo hi p)) := by
  have hc4 := tkc_lt (k := k) (bt := bt) (p := p)
  unfold FX12_here
  refine Ok.rdE hb (Ok.ifT rfl (Ok.rdE h.2.2.2.1 ?_))
  by_cases c2 : tkc k bt p = 2
  · have hv := vl_le (bt := bt) (b := tkb k bt p) (tke k bt p - tkb k bt p)
    have e11 := h.2.2.2.2.2
    rw [if_pos c2] at e11
    by_cases c : lo ≤ vl bt (tkb k bt p) (tke k bt p - tkb k bt p) ∧ vl bt (tkb k bt p) (tke k bt p - tkb k bt p) ≤ hi
    · have en : num k bt lo hi p = .inr (vl bt (tkb k bt p) (tke k bt p - tkb k bt p)) := by unfold num; rw [if_pos c2, if_pos c]
      rw [en]
      refine Ok.bd (fun _ u => t = u) (Ok.ifT (by rw [c2]; rfl) (Ok.rdE e11 (Ok.bd (fun r u => t = u ∧ r = 1) (e_in (fun _ _ => ⟨rfl, rfl⟩) (fun a => absurd ?_ a)) ?_))) ?_
      · rw [n64 (by omega), n64 (by omega), n64 (by omega)]
        omega
      · rintro _ _ ⟨rfl, rfl⟩
        exact Ok.ifF (by decide) (Ok.ret rfl)
      · rintro _ _ rfl
        exact Ok.rdE hb (Ok.ifT rfl (Ok.rdE e11 (Ok.ret ⟨rfl, rfl⟩)))
    · have en : num k bt lo hi p = .inl (2, tkb k bt p) := by unfold num; rw [if_pos c2, if_neg c]
      rw [en]
      refine Ok.bd (fun _ u => BD (2, tkb k bt p) u ∧ FM t u) (Ok.ifT (by rw [c2]; rfl) (Ok.rdE e11 (Ok.bd (fun r u => t = u ∧ r = 0) (e_in (fun a b => absurd ?_ c) (fun _ => ⟨rfl, rfl⟩)) ?_))) ?_
      · rw [n64 (by omega), n64 (by omega)] at a b
        omega
      · rintro _ _ ⟨rfl, rfl⟩
        exact Ok.ifT rfl (Ok.bd _ (m_faults (f := 2) h hb) (fun _ u hu => Ok.ret hu))
      · rintro _ u ⟨h1, h2⟩
        exact Ok.rdE h1.1 (Ok.ifF (by decide) (Ok.ret ⟨rfl, h1, h2⟩))
  · have en : num k bt lo hi p = .inl (1, tkb k bt p) := by unfold num; rw [if_neg c2]
    rw [en]
    refine Ok.bd (fun _ u => BD (1, tkb k bt p) u ∧ FM t u) (Ok.ifF (by rw [li_2, nI_eqP (by omega) (by omega)]; exact c2) (Ok.bd _ (m_faults (f := 1) h hb) (fun _ u hu => Ok.ret hu))) ?_
    rintro _ u ⟨h1, h2⟩
    exact Ok.rdE h1.1 (Ok.ifF (by decide) (Ok.ret ⟨rfl, h1, h2⟩))
