/-! told of both -/
def Pc {α : Type} (m : Option (α × St)) (Q : α → St → Prop) : Prop := ∀ v u, m = some (v, u) → Q v u
theorem Pc.ret {α : Type} {v : α} {t : St} {Q : α → St → Prop} (h : Q v t) : Pc (some (v, t)) Q := by
  intro w u e
  obtain ⟨rfl, rfl⟩ := some_pair e
  exact h
theorem Pc.bd {α β : Type} {m : Option (α × St)} {f : α → St → Option (β × St)} {Q : β → St → Prop} (R : α → St → Prop) (h : Pc m R) (k : ∀ v s, R v s → Pc (f v s) Q) : Pc (bnd m f) Q := by
  intro w u e
  obtain ⟨v, s, e1, e2⟩ := bnd_some e
  exact k v s (h v s e1) w u e2
theorem Pc.ck {α : Type} {b : Bool} {m : Option (α × St)} {Q : α → St → Prop} (k : b = true → Pc m Q) : Pc (chk b m) Q := by
  intro w u e
  obtain ⟨e1, e2⟩ := chk_some e
  exact k e1 w u e2
theorem Pc.ite {α : Type} {c : Prop} [Decidable c] {x y : Option (α × St)} {Q : α → St → Prop} (a : c → Pc x Q) (b : ¬ c → Pc y Q) : Pc (if c then x else y) Q := by
  by_cases h : c
  · rw [if_pos h]; exact a h
  · rw [if_neg h]; exact b h
theorem Pc.ifT {α : Type} {c : Prop} [Decidable c] {x y : Option (α × St)} {Q : α → St → Prop} (h : c) (k : Pc x Q) : Pc (if c then x else y) Q := by rw [if_pos h]; exact k
theorem Pc.ifF {α : Type} {c : Prop} [Decidable c] {x y : Option (α × St)} {Q : α → St → Prop} (h : ¬ c) (k : Pc y Q) : Pc (if c then x else y) Q := by rw [if_neg h]; exact k
theorem Pc.rdE {α : Type} {σ : St} {a i : Nat} {x : Int32} {f : Int32 → Option (α × St)} {Q : α → St → Prop} (e : σ a i = x) (k : Pc (f x) Q) : Pc (rdb σ a i f) Q := by
  show Pc (f (σ a i)) Q
  rw [e]
  exact k
theorem PcwrE {α : Type} {σ : St} {a i : Nat} {v : Int32} {f : St → Option (α × St)} {Q : α → St → Prop} (k : Pc (f (wr σ a i v)) Q) : Pc (wrb σ a i v f) Q := k
theorem Ok.pc {α : Type} {m : Option (α × St)} {Q : α → St → Prop} (h : Ok m Q) : Pc m Q := fun _ _ e => h.out e
theorem Pc.mono {α : Type} {m : Option (α × St)} {Q R : α → St → Prop} (h : Pc m R) (k : ∀ v s, R v s → Q v s) : Pc m Q := fun v s e => k v s (h v s e)
theorem Ok.ap {α : Type} {m : Option (α × St)} {Q R : α → St → Prop} (h : Ok m Q) (k : Pc m R) : Ok m (fun v s => Q v s ∧ R v s) := by
  obtain ⟨v, s, e, q⟩ := h
  exact ⟨v, s, e, q, k v s e⟩
theorem Fo.pc {P : Nat → Nat → Prop} {α : Type} {t : St} {m : Option (α × St)} (h : Fo P t m) : Pc m (fun _ u => ∀ c i, P c i → u c i = t c i) := h
theorem cpyi {σ : St} {a b n i : Nat} (h : i < n) : cpy σ a b n b i = σ a i := by
  unfold cpy
  rw [if_pos rfl, pk_cpy_in (Nat.zero_le _) (by omega), Nat.sub_zero, Nat.zero_add]
theorem e_copyFrom {x y : Nat} {t : St} (gx : netAt x = true) (gy : netAt y = true) (hd : x + 3 < y ∨ y + 3 < x) : Ok (FX5_copyFrom x y t) (fun _ u => (∀ c, (c < x ∨ x + 3 < c) → u c = t c) ∧ u x 0 = t y 0 ∧ u x 1 = t y 1 ∧ (∀ i, i < 9 → u (x + 1) i = t (y + 1) i) ∧ (∀ i, i < 9 → u (x + 2) i = t (y + 2) i) ∧ ∀ i, i < 81 → u (x + 3) i = t (y + 3) i) := by
  unfold FX5_copyFrom
  refine Ok.ckT gx (Ok.ckT gy (Ok.rdE rfl (OkwrE (Ok.rdE rfl (OkwrE (Ok.cp ?_))))))
  rintro t9 e9
  refine Ok.cp ?_
  rintro t11 e11
  refine Ok.cp ?_
  rintro t13 e13
  refine Ok.ret ⟨fun c hc => ?_, ?_, ?_, fun i hi => ?_, fun i hi => ?_, fun i hi => ?_⟩
  · rw [e13, cpy_off (by omega), e11, cpy_off (by omega), e9, cpy_off (by omega), wr_off c (by omega), wr_off c (by omega)]
  · rw [e13, cpy_off (by omega), e11, cpy_off (by omega), e9, cpy_off (by omega), wrn (by decide), wrs]
  · rw [e13, cpy_off (by omega), e11, cpy_off (by omega), e9, cpy_off (by omega), wrs, wrf (by omega)]
  · rw [e13, cpy_off (by omega), e11, cpy_off (by omega), e9, cpyi hi, wrf (by omega), wrf (by omega)]
  · rw [e13, cpy_off (by omega), e11, cpyi hi, e9, cpy_off (by omega), wrf (by omega), wrf (by omega)]
  · rw [e13, cpyi hi, e11, cpy_off (by omega), e9, cpy_off (by omega), wrf (by omega), wrf (by omega)]
theorem el10 {s : Nat} (hs : s < 3) : el 10 (nI s) = 12 + 24 * s := by
  rcases (show s = 0 ∨ s = 1 ∨ s = 2 by omega) with rfl | rfl | rfl <;> decide +kernel
theorem n_sl {s : Nat} (hs : s < 3) : netAt (12 + 24 * s) = true := by
  rcases (show s = 0 ∨ s = 1 ∨ s = 2 by omega) with rfl | rfl | rfl <;> decide +kernel
theorem n_141 : netAt 141 = true := by decide +kernel
theorem n_145 : netAt 145 = true := by decide +kernel
theorem el100_q {v : Int32} (h : inb v 10 = true) : 101 ≤ el 100 v ∧ el 100 v + 3 ≤ 140 := by
  obtain ⟨k, hk, rfl⟩ := IsR.of h
  rcases (show k = 0 ∨ k = 1 ∨ k = 2 ∨ k = 3 ∨ k = 4 ∨ k = 5 ∨ k = 6 ∨ k = 7 ∨ k = 8 ∨ k = 9 by omega) with rfl | rfl | rfl | rfl | rfl | rfl | rfl | rfl | rfl | rfl <;> decide +kernel
theorem fr_remember {P : Nat → Nat → Prop} {t : St} {a : Int32} {x : Nat} (hP : ∀ c i, P c i → c < 98 ∨ 140 < c) : Fo P t (FX4_remember a x t) := by
  unfold FX4_remember
  refine Fo.ck (fun _ => Fo.rd (fun _ => Fo.ck (fun _ => Fo.wr (fun c i h => by have := hP c i h; omega) (fun _ => Fo.rd (fun v6 => Fo.ck (fun g6 => Fo.ck (fun _ => Fo.bd (fo_FX5_copyFrom _ _ (fun c i h => ?_)) (fun _ _ => Fo.rd (fun _ => Fo.wr (fun c i h => by have := hP c i h; omega) (fun _ => Fo.rd (fun _ => Fo.wr (fun c i h => by have := hP c i h; omega) (fun _ => Fo.ret))))))))))))
  have h1 := hP c i h
  have h2 := el100_q g6
  omega
theorem fr_noteAct {P : Nat → Nat → Prop} {t : St} {a : Int32} (hP : ∀ c i, P c i → c < 98 ∨ 140 < c) : Fo P t (FX11_noteAct a t) := by
  unfold FX11_noteAct
  exact Fo.ck (fun _ => Fo.ck (fun _ => Fo.bd (fo_FX5_sameAs _ _) (fun _ _ => Fo.ite (Fo.bd (fr_remember hP) (fun _ _ => Fo.ret)) Fo.ret)))
theorem e_isSlot {t : St} {a : Int32} {Q : Int32 → St → Prop} (q1 : ∀ s, s < 3 → a = nI s → Q 1 t) (q0 : ¬ IsR 3 a → Q 0 t) : Ok (FX11_isSlot a t) Q := by
  unfold FX11_isSlot
  refine Ok.ite (fun c => Ok.ret (q0 ?_)) (fun c => ?_)
  · rintro ⟨k, hk, rfl⟩
    rw [li_0, nI_ltP (by omega) (by omega)] at c
    omega
  obtain ⟨j, hj, rfl⟩ := nI_of c
  refine Ok.ite (fun c2 => Ok.ret (q0 ?_)) (fun c2 => Ok.ret (q1 j ?_ rfl))
  · rintro ⟨k, hk, e⟩
    have := nI_inj e (by omega) (by omega)
    rw [li_3, nI_leP (by omega) (by omega)] at c2
    omega
  · rw [li_3, nI_leP (by omega) (by omega)] at c2
    omega
theorem m_isSlot {t : St} {a : Int32} {Q : Int32 → St → Prop} (q1 : ∀ s, s < 3 → a = nI s → Q 1 t) (q0 : ¬ IsR 3 a → Q 0 t) : Ok (FX12_isSlot a t) Q := by
  unfold FX12_isSlot
  refine Ok.bd (fun r u => t = u ∧ ((r = 1 ∧ IsR 3 a) ∨ (r = 0 ∧ ¬ IsR 3 a))) (e_in (fun h1 h2 => ⟨rfl, Or.inl ⟨rfl, in_R ⟨h1, h2⟩ (by decide) (by decide)⟩⟩) (fun h => ⟨rfl, Or.inr ⟨rfl, fun q => h ?_⟩⟩)) ?_
  · obtain ⟨k, hk, rfl⟩ := q
    rw [Int32.toInt_toInt64, nI_toInt (by omega)]
    have e0 : (0 : Int64).toInt = 0 := by decide
    have e2 : (2 : Int64).toInt = 2 := by decide
    rw [e0, e2]
    omega
  · rintro r _ ⟨rfl, ⟨rfl, s, hs, e⟩ | ⟨rfl, h⟩⟩
    · exact Ok.ckT rfl (Ok.ret (q1 s hs e))
    · exact Ok.ckT rfl (Ok.ret (q0 h))
theorem c_told0 {t : St} {a : Int32} (h : ¬ IsR 3 a) : Pc (FX11_told a t) (fun r u => r = -2 ∧ t = u) := by
  unfold FX11_told
  refine Pc.bd (fun r u => t = u ∧ r = 0) (e_isSlot (fun s hs e => absurd ⟨s, hs, e⟩ h) (fun _ => ⟨rfl, rfl⟩)).pc ?_
  rintro _ _ ⟨rfl, rfl⟩
  exact Pc.ifT rfl (Pc.ret ⟨rfl, rfl⟩)
theorem m_told0 {t : St} {a : Int32} (h : ¬ IsR 3 a) : Pc (FX12_told a t) (fun r u => r = -2 ∧ t = u) := by
  unfold FX12_told
  refine Pc.bd (fun r u => t = u ∧ r = 0) (m_isSlot (fun s hs e => absurd ⟨s, hs, e⟩ h) (fun _ => ⟨rfl, rfl⟩)).pc ?_
  rintro _ _ ⟨rfl, rfl⟩
  exact Pc.ifT rfl (Pc.ret ⟨rfl, rfl⟩)
/-- what told answers, and the fault -/
def TA (x : (Nat × Nat) ⊕ (Nat × Nat × (Nat → Nat → Nat) × (Nat → Nat))) (r f p : Int32) : Prop := Sum.elim (fun e => r = -4 ∧ f = nI e.1 ∧ p = nI e.2) (fun v => r = nI v.2.1 ∧ f = 0 ∧ p = -1) x
theorem TA.uq {x : (Nat × Nat) ⊕ (Nat × Nat × (Nat → Nat → Nat) × (Nat → Nat))} {r f p r2 f2 p2 : Int32} (h : TA x r f p) (g : TA x r2 f2 p2) : r = r2 ∧ f = f2 ∧ p = p2 := by
  cases x with
  | inl e => exact ⟨h.1.trans g.1.symm, h.2.1.trans g.2.1.symm, h.2.2.trans g.2.2.symm⟩
  | inr v => exact ⟨h.1.trans g.1.symm, h.2.1.trans g.2.1.symm, h.2.2.trans g.2.2.symm⟩
theorem c_told {k : Nat} {bt : Nat → Nat} {t : St} {s : Nat} (h : CT k bt t) (hs : s < 3) : Pc (FX11_told (nI s) t) (fun r u => TA (ptext k bt) r (u 5 1) (u 5 2) ∧ u 1 1 = 0) := by
  unfold FX11_told
  refine Pc.bd (fun r u => t = u ∧ r = 1) (e_isSlot (fun _ _ _ => ⟨rfl, rfl⟩) (fun q => absurd ⟨s, hs, rfl⟩ q)).pc ?_
  rintro _ _ ⟨rfl, rfl⟩
  refine Pc.ifF (by decide) (Pc.bd _ (e_readAll h).pc ?_)
  intro r t1 hr
  refine PcwrE ?_
  cases e : ptext k bt with
  | inl f =>
    obtain ⟨rfl, a1, a2, a3⟩ := hr.gl e
    refine Pc.ifT rfl (Pc.ret ⟨⟨rfl, ?_, ?_⟩, wrs⟩)
    · rw [wrf (by decide)]; exact a1
    · rw [wrf (by decide)]; exact a2
  | inr v =>
    obtain ⟨rfl, a1, a2, n1, o1, d1⟩ := hr.gr e
    refine Pc.ifF (by decide) (Pc.ck (fun _ => Pc.ck (fun _ => ?_)))
    rw [el10 hs]
    refine Pc.bd _ (e_copyFrom (t := wr t1 1 1 0) n_141 (n_sl hs) (by omega)).pc ?_
    rintro _ t2 ⟨f2, -⟩
    refine Pc.bd _ (e_copyFrom (t := t2) (n_sl hs) n6 (by omega)).pc ?_
    rintro _ t3 ⟨f3, -, l3, -⟩
    refine Pc.bd _ (fr_noteAct (P := fun c _ => c < 98 ∨ 140 < c) (fun _ _ h => h)).pc ?_
    rintro _ t4 f4
    have e5 : ∀ i, t4 5 i = t1 5 i := fun i => by rw [f4 5 i (by omega), f3 5 (by omega), f2 5 (by omega), wrf (by decide)]
    refine Pc.rdE (x := nI v.2.1) ?_ (Pc.ret ⟨⟨rfl, by rw [e5]; exact a1, by rw [e5]; exact a2⟩, ?_⟩)
    · rw [f4 _ 1 (by omega), l3, f2 6 (by omega), wrf (by decide)]
      exact n1.2.1
    · rw [f4 1 1 (by omega), f3 1 (by omega), f2 1 (by omega), wrs]
theorem ptext_in {k : Nat} {bt : Nat → Nat} {v : Nat × Nat × (Nat → Nat → Nat) × (Nat → Nat)} (h : ptext k bt = .inr v) : 1 ≤ v.1 ∧ v.1 < 10 ∧ WF v.1 v.2.2.1 ∧ 2 * v.2.1 = dcn v.1 v.2.2.1 ∧ v.2.1 ≤ 30 := by
  unfold ptext at h
  by_cases hw : wrd k bt 110 101 116 0 = true
  · rw [if_pos hw] at h
    cases e : num k bt 1 9 (tke k bt 0) with
    | inl f => rw [sbn_l e] at h; cases h
    | inr N =>
      rw [sbn_r e] at h
      have hv := num_in e
      cases e2 : plns k bt N (tke k bt (tke k bt 0)) with
      | inl f => rw [sbn_l e2] at h; cases h
      | inr r =>
        rw [sbn_r e2] at h
        cases e3 : prow k bt N r.1 with
        | inl f => rw [sbn_l e3] at h; cases h
        | inr o =>
          rw [sbn_r e3] at h
          have h := Sum.inr.inj h
          subst h
          exact ⟨hv.1, by show N < 10; omega, plns_in hv.1 (by omega) e2⟩
  · rw [if_neg hw] at h
    cases h
theorem m_readsNetX {k : Nat} {bt : Nat → Nat} {t : St} {s : Nat} (h : RM k bt 0 t) (hb : t 149 12 = 0) (hs : s < 3) : Ok (FX12_readsNet (nI s) t) (fun _ u => FM t u ∧ Sum.elim (fun f => BD f u) (fun v => u 149 12 = 0 ∧ RN s v.1 v.2.2.1 u ∧ (RO s v.1 v.2.2.2 u ∧ ∀ j, (j < 91 * s ∨ 91 * s + 91 ≤ j) → u 150 j = t 150 j) ∧ u 149 6 = t 149 6 ∧ u 149 7 = t 149 7) (ptext k bt)) := by
  obtain ⟨v, u, e, h1, h2⟩ := m_readsNet h hb hs
  refine ⟨v, u, e, h1, ?_⟩
  cases ep : ptext k bt with
  | inl f => rw [ep] at h2; exact h2
  | inr w =>
    rw [ep] at h2
    obtain ⟨a1, a2, a3, a4⟩ := h2
    exact ⟨a1, a2, ⟨a3, a4⟩, (gd_FX12_readsNet _ v u e a1).2⟩
theorem m_told {k : Nat} {bt : Nat → Nat} {t : St} {s m : Nat} (h : MT k bt t) (hs : s < 3) (e3 : t 149 3 = nI m) (hm : m < 11) : Pc (FX12_told (nI s) t) (fun r u => TA (ptext k bt) r (u 149 6) (u 149 7)) := by
  unfold FX12_told
  refine Pc.bd (fun r u => t = u ∧ r = 1) (m_isSlot (fun _ _ _ => ⟨rfl, rfl⟩) (fun q => absurd ⟨s, hs, rfl⟩ q)).pc ?_
  rintro _ _ ⟨rfl, rfl⟩
  refine Pc.ifF (by decide) (PcwrE (PcwrE (PcwrE (PcwrE ?_))))
  have g3 : wr (wr (wr (wr t 149 6 0) 149 7 (-1)) 149 12 0) 149 8 0 149 3 = nI m := by rw [wrn (by decide), wrn (by decide), wrn (by decide), wrn (by decide)]; exact e3
  have g6 : wr (wr (wr (wr t 149 6 0) 149 7 (-1)) 149 12 0) 149 8 0 149 6 = 0 := by rw [wrn (by decide), wrn (by decide), wrn (by decide), wrs]
  have g7 : wr (wr (wr (wr t 149 6 0) 149 7 (-1)) 149 12 0) 149 8 0 149 7 = -1 := by rw [wrn (by decide), wrn (by decide), wrs]
  have g12 : wr (wr (wr (wr t 149 6 0) 149 7 (-1)) 149 12 0) 149 8 0 149 12 = 0 := by rw [wrn (by decide), wrs]
  have g8 : wr (wr (wr (wr t 149 6 0) 149 7 (-1)) 149 12 0) 149 8 0 149 8 = nI 0 := wrs
  have gM : MT k bt (wr (wr (wr (wr t 149 6 0) 149 7 (-1)) 149 12 0) 149 8 0) := by
    refine ⟨h.1, ?_, fun i hi => ?_⟩
    · rw [wrn (by decide), wrn (by decide), wrn (by decide), wrn (by decide)]; exact h.2.1
    · rw [wrf (by decide), wrf (by decide), wrf (by decide), wrf (by decide)]; exact h.2.2 i hi
  generalize wr (wr (wr (wr t 149 6 0) 149 7 (-1)) 149 12 0) 149 8 0 = y at g3 g6 g7 g12 g8 gM ⊢
  refine Pc.bd _ (fo_FX12_remembers (P := fun c _ => c ≠ 151) (fun _ _ h => h)).pc ?_
  rintro _ y1 f1
  have M1 : MT k bt y1 := ⟨gM.1, by rw [f1 149 5 (by decide)]; exact gM.2.1, fun i hi => by rw [f1 153 i (by decide)]; exact gM.2.2 i hi⟩
  refine Pc.bd _ (m_next M1 (Nat.zero_le _) (by rw [f1 149 8 (by decide)]; exact g8)).pc ?_
  rintro _ y2 ⟨R2, K2⟩
  have b2 : y2 149 12 = 0 := by rw [K2.2 12 (by omega), f1 149 12 (by decide)]; exact g12
  refine Pc.bd _ (m_readsNetX R2 b2 hs).pc ?_
  rintro _ y3 ⟨F3, h3⟩
  refine PcwrE ?_
  cases e : ptext k bt with
  | inl f =>
    rw [e] at h3
    refine Pc.rdE (x := 1) (by rw [wrn (by decide)]; exact h3.1) (Pc.ifF (by decide) (Pc.bd (fun _ u => ∀ i, u 149 i = wr y3 149 5 0 149 i) ?_ ?_))
    · refine (Fo.wh (P := fun c _ => c ≠ 150) (fun c s => ?_)).pc.mono (fun _ u hu i => hu 149 i (by decide))
      unfold SX12_told_57
      exact Fo.ite Fo.ret (Fo.ck (fun _ => Fo.rd (fun _ => Fo.ck (fun _ => Fo.wr (fun c i h q => absurd q h) (fun _ => Fo.ret)))))
    · rintro _ u hu
      refine Pc.ret ⟨rfl, ?_, ?_⟩
      · rw [hu, wrn (by decide)]; exact h3.2.1
      · rw [hu, wrn (by decide)]; exact h3.2.2
  | inr v =>
    rw [e] at h3
    obtain ⟨b3, N3, -, g67⟩ := h3
    obtain ⟨v1, v9, vw, vc, -⟩ := ptext_in e
    refine Pc.rdE (x := 0) (by rw [wrn (by decide)]; exact b3) (Pc.ifT rfl (Pc.bd (fun r u => wr y3 149 5 0 = u ∧ r = nI v.2.1) (m_lines (N3.fr (wr_off 150 (by decide))) hs v9 vw ⟨rfl, by rw [← vc, Nat.mul_div_cancel_left _ (by omega)]⟩).pc ?_))
    rintro _ _ ⟨rfl, rfl⟩
    have e3' : wr y3 149 5 0 149 3 = nI m := by rw [wrn (by decide), F3.2 3 (by omega), K2.2 3 (by omega), f1 149 3 (by decide)]; exact g3
    refine Pc.bd (fun r u => r = nI v.2.1 ∧ ∀ c i, (c = 149 ∧ i ≠ 3) → u c i = wr y3 149 5 0 c i) (fun r u hru => ⟨((xX12_done hm e3').out hru).1, (fo_FX12_done (P := fun c i => c = 149 ∧ i ≠ 3) (nI v.2.1) (fun c i h => by omega)) r u hru⟩) ?_
    rintro _ u ⟨rfl, hu⟩
    refine Pc.ret ⟨rfl, ?_, ?_⟩
    · rw [hu 149 6 (by decide), wrn (by decide), g67.1, K2.2 6 (by omega), f1 149 6 (by decide)]; exact g6
    · rw [hu 149 7 (by decide), wrn (by decide), g67.2, K2.2 7 (by omega), f1 149 7 (by decide)]; exact g7
