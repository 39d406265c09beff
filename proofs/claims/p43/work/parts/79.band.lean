/-! the class counts rows by how far ends lie apart -/
theorem Pc.loop {C R : Type} {f : C → St → Option ((C ⊕ R) × St)} {Q : R → St → Prop} (I : C → St → Prop) (step : ∀ c s, I c s → Pc (f c s) (fun x t => Sum.elim (fun d => I d t) (fun r => Q r t) x)) {c : C} {s : St} (h : I c s) : Pc (wh f c s) Q := by
  intro r u e
  obtain ⟨k, hk⟩ := wh_itr e
  clear e
  induction k generalizing c s with
  | zero => exact absurd hk (itr_zero _ _ _ _)
  | succ k ih =>
    obtain ⟨x, t, h1, h2⟩ := itr_succ hk
    have h3 := step c s h x t h1
    rcases x with d | q
    · exact ih h3 h2
    · obtain ⟨rfl, rfl⟩ := some_pair h2
      exact h3
theorem Pc.bq {α β : Type} {m : Option (α × St)} {a : α} {t : St} {f : α → St → Option (β × St)} {Q : β → St → Prop} (e : m = some (a, t)) (k : Pc (f a t) Q) : Pc (bnd m f) Q := by
  rw [e]
  exact k
theorem Pc.cv {α : Type} {c d : Prop} [Decidable c] [Decidable d] {x y : Option (α × St)} {Q : α → St → Prop} (e : c = d) (h : Pc (if d then x else y) Q) : Pc (if c then x else y) Q := by
  by_cases q : d
  · rw [if_pos q] at h
    rw [if_pos (by rw [e]; exact q)]
    exact h
  · rw [if_neg q] at h
    rw [if_neg (by rw [e]; exact q)]
    exact h
theorem Pc.el {α β γ : Type} {x : β → Option (α × St)} {f : γ → Option (α × St)} {v : β} {Q : α → St → Prop} (h : Pc (x v) Q) : Pc (Sum.elim x f (.inl v)) Q := h
theorem Pc.er {α β γ : Type} {x : β → Option (α × St)} {f : γ → Option (α × St)} {v : γ} {Q : α → St → Prop} (h : Pc (f v) Q) : Pc (Sum.elim x f (.inr v)) Q := h
/-- what is remembered is right -/
def MI (n : Nat) (w : Nat → Nat → Nat) (t : St) : Prop := ∀ cell i P L, cell < 4096 → i < n → PFX n i P → PRE w P i L → L < 10 → ¬ WNo n w P i L → t 96 cell = nI (wky w P i L (wln n i L)) → t 97 cell = nI (bct n w L (n - i) i P)
theorem MI.fr {n : Nat} {w : Nat → Nat → Nat} {t u : St} (h : MI n w t) (e1 : u 96 = t 96) (e2 : u 97 = t 97) : MI n w u := by
  unfold MI
  rw [e1, e2]
  exact h
theorem PFX.on {n i p : Nat} {P : Nat → Nat} (h : PFX n i P) (hp : p < n) (hb : (amk P i).testBit p = false) : PFX n (i + 1) (upP P i p) := by
  have hup := set_up h.2.1 hp hb
  refine ⟨fun j hj => ?_, by rw [amk_up]; exact hup.2.1, by rw [amk_up, hup.2.2, h.2.2]⟩
  by_cases e : j = i
  · subst e; rw [upP_i]; exact hp
  · rw [upP_n e]; exact h.1 j (by omega)
theorem wky_lt {n i L : Nat} {w : Nat → Nat → Nat} {P : Nat → Nat} (hn : n < 10) (hL : L < 10) (hP : PFX n i P) : wky w P i L (wln n i L) < 536870912 := by
  have h3 := pow9 (k := n) (by omega)
  have wi : ∀ c, c < wln n i L → P (i - 1 - L + c) < 9 := fun c hc => by
    have := wln_in hc
    have := hP.1 (i - 1 - L + c) (by omega)
    omega
  have m1 := wmk_lt (w := w) (P := P) (i := i) wi
  have a1 := hP.2.1
  rw [wky_add (by omega) m1]
  omega
theorem r_rowsFrom {n l : Nat} {w : Nat → Nat → Nat} (hw : WF n w) (hn : n < 10) : ∀ (f i L : Nat) (P : Nat → Nat) (t : St), i ≤ n → PFX n i P → PRE w P i L → L < 10 → CN 91 n l w t → MI n w t → (∀ j, j < i → t 95 j = nI (P j)) → n < f + i → Pc (FX0_rowsFrom f (nI i) (nI (amk P i)) (nI L) t) (fun r u => r = nI (bct n w L (n - i) i P) ∧ MI n w u ∧ (∀ c, c ≠ 95 → c ≠ 96 → c ≠ 97 → u c = t c) ∧ ∀ j, j < i → u 95 j = t 95 j) := by
  intro f
  induction f with
  | zero => intro i L P t hi _ _ _ _ _ _ hf; omega
  | succ f ih =>
    intro i L P t hi hP hpre hL h hM hpl hf
    have h3 := pow9 (k := n) (by omega)
    have a1 := hP.2.1
    show Pc (FX0_rowsFrom_b (FX0_rowsFrom f) (nI i) (nI (amk P i)) (nI L) t) _
    unfold FX0_rowsFrom_b
    refine Pc.rdE h.1 ?_
    by_cases hin : i < n
    · refine Pc.ifT (by rw [nI_ltP (by omega) (by omega)]; exact hin) ?_
      refine Pc.bd (fun r u => t = u ∧ ((r = nI (wky w P i L (wln n i L)) ∧ ¬ WNo n w P i L) ∨ (r = -1 ∧ WNo n w P i L))) (q_waiting h hn hin hL hpl (fun j hj => by have := hP.1 j hj; omega) (fun a => ⟨rfl, Or.inl ⟨rfl, a⟩⟩) (fun a => ⟨rfl, Or.inr ⟨rfl, a⟩⟩)).pc ?_
      rintro r _ ⟨rfl, ⟨rfl, hno⟩ | ⟨rfl, hno⟩⟩
      · have hk := wky_lt (w := w) hn hL hP
        refine Pc.ifF (by rw [li_m1, nI_eqP (by omega) (by omega)]; omega) (Pc.ck (fun g0 => ?_))
        revert g0
        generalize (ushr (nI (wky w P i L (wln n i L)) * (-1640531535 : Int32)) (20 : Int32)) = cl
        intro g0
        refine Pc.rdE rfl (Pc.ite (fun c0 => Pc.ck (fun _ => Pc.rdE (x := nI (bct n w L (n - i) i P)) ?_ (Pc.ret ⟨rfl, hM, fun _ _ _ _ => rfl, fun _ _ => rfl⟩))) (fun c0 => ?_))
        · exact hM _ i P L (inb_lt g0) hin hP hpre hL hno c0
        · obtain ⟨kk, hkk⟩ : ∃ kk, n - i = kk + 1 := ⟨n - i - 1, by omega⟩
          have hmis := pre_on hin hpre hno
          have hcan : ∀ p, (amk P i).testBit p = false → canb w L P i p = true := fun p hp => decide_eq_true (fun k hk hkL => by
            refine Decidable.byContradiction (fun q => ?_)
            have := (mis_b hw hn (P := P) (i := i) (k := k) (p := p)).mpr ⟨by omega, hp⟩
            rw [hmis k hk hkL, Nat.zero_testBit] at this
            cases this)
          generalize hG : (fun p => if (!(amk P i).testBit p && canb w L P i p) = true then bct n w L kk (i + 1) (upP P i p) else 0) = G
          have eB : bct n w L (n - i) i P = sm n G := by rw [hkk, ← hG]; rfl
          have hGb : ∀ j, sm j G ≤ j * 400000000 := fun j => sm_le (fun p _ => by
            rw [← hG]
            dsimp only
            have := bct_b (w := w) (L := L) hn (k := kk) (i := i + 1) (P := upP P i p) (by omega)
            split <;> omega)
          refine Pc.bd (fun r u => r = nI (sm n G) ∧ MI n w u ∧ (∀ c, c ≠ 95 → c ≠ 96 → c ≠ 97 → u c = t c) ∧ ∀ j, j < i → u 95 j = t 95 j) ?_ ?_
          · refine Pc.loop (fun d s => ∃ j, j ≤ n ∧ d = (nI (sm j G), nI j) ∧ MI n w s ∧ (∀ c, c ≠ 95 → c ≠ 96 → c ≠ 97 → s c = t c) ∧ ∀ q, q < i → s 95 q = t 95 q) ?_ ⟨0, Nat.zero_le _, rfl, hM, fun _ _ _ _ => rfl, fun _ _ => rfl⟩
            rintro d s ⟨j, hj, rfl, sM, sf, sp⟩
            have hs : CN 91 n l w s := h.fr (sf _ (by decide) (by decide) (by decide)) (sf _ (by decide) (by decide) (by decide)) (sf _ (by decide) (by decide) (by decide))
            unfold SX0_rowsFrom_66
            dsimp only
            refine Pc.rdE hs.1 (Pc.cv (nI_leP (by omega) (by omega)) (Pc.ite (fun c1 => Pc.ret ?_) (fun c1 => ?_)))
            · have : j = n := by omega
              subst this
              exact ⟨rfl, sM, sf, sp⟩
            · have hGj : G j = if (!(amk P i).testBit j && canb w L P i j) = true then bct n w L kk (i + 1) (upP P i j) else 0 := by rw [← hG]
              refine Pc.bd (fun r u => r = nI (sm (j + 1) G) ∧ MI n w u ∧ (∀ c, c ≠ 95 → c ≠ 96 → c ≠ 97 → u c = t c) ∧ ∀ q, q < i → u 95 q = t 95 q) ?_ (fun r u hu => Pc.ret ⟨j + 1, by omega, by rw [hu.1, nI_1], hu.2⟩)
              refine Pc.cv (bitn (by omega) (by omega)) (Pc.ite (fun c2 => Pc.ck (fun _ => PcwrE ?_)) (fun c2 => Pc.ret ⟨?_, sM, sf, sp⟩))
              · rw [nI_cl (by omega), nI_1, shl_1 (by omega), nI_or, ← amk_up]
                have hP2 := hP.on (p := j) (by omega) c2
                have hpre2 : PRE w (upP P i j) (i + 1) L := fun k hk => by
                  rw [mis_up (by omega), hmis k (by omega) (by omega)]
                  unfold dif
                  exact Nat.zero_and _
                have hs2 : CN 91 n l w (wr s 95 i (nI j)) := hs.fr (wr_off _ (by decide)) (wr_off _ (by decide)) (wr_off _ (by decide))
                refine Pc.bd _ (ih (i + 1) L (upP P i j) (wr s 95 i (nI j)) (by omega) hP2 hpre2 hL hs2 (sM.fr (wr_off _ (by decide)) (wr_off _ (by decide))) (fun q hq => ?_) (by omega)) ?_
                · by_cases e : q = i
                  · subst e; rw [wrs, upP_i]
                  · rw [wrn e, upP_n e, sp q (by omega)]; exact hpl q (by omega)
                · rintro r u ⟨rfl, uM, uf, up⟩
                  refine Pc.ret ⟨?_, uM, fun c c3 c4 c5 => by rw [uf c c3 c4 c5, wr_off c c3]; exact sf c c3 c4 c5, fun q hq => ?_⟩
                  · rw [nI_add]
                    show nI (sm j G + _) = nI (sm j G + G j)
                    rw [hGj, if_pos (by simp [c2, hcan j c2]), show n - (i + 1) = kk by omega]
                  · rw [up q (by omega), wrn (by omega)]; exact sp q hq
              · show nI (sm j G) = nI (sm j G + G j)
                rw [hGj, if_neg (by simp [bT c2]), Nat.add_zero]
          · rintro r u ⟨rfl, uM, uf, up⟩
            refine Pc.ck (fun _ => PcwrE (Pc.ck (fun _ => PcwrE (Pc.ret ⟨by rw [eB], ?_, fun c c3 c4 c5 => by rw [wr_off c c5, wr_off c c4]; exact uf c c3 c4 c5, fun q hq => by rw [wrf (by decide), wrf (by decide)]; exact up q hq⟩))))
            intro cell i' P' L' hc' hi' hP' hpre' hL' hno' e
            by_cases ec : cell = cl.toNatClampNeg
            · subst ec
              rw [wrf (by decide), wrs] at e
              rw [wrs]
              have hk' := wky_lt (w := w) hn hL' hP'
              have e2 := nI_inj e (by omega) (by omega)
              obtain ⟨rfl, rfl, g3, g4⟩ := wky_ag hn hP hP' hpre hpre' hin hi' e2
              rw [← eB]
              congr 1
              exact bct_ag hw hn (by omega) g3 g4
            · rw [wrf (by decide), wrn ec] at e
              rw [wrn ec, wrf (by decide)]
              exact uM cell i' P' L' hc' hi' hP' hpre' hL' hno' e
      · refine Pc.ifT rfl (Pc.ret ⟨?_, hM, fun _ _ _ _ => rfl, fun _ _ => rfl⟩)
        rw [wno_0 hw hn hin hP hno]
        rfl
    · refine Pc.ifF (by rw [nI_ltP (by omega) (by omega)]; exact hin) (Pc.ret ⟨?_, hM, fun _ _ _ _ => rfl, fun _ _ => rfl⟩)
      rw [show n - i = 0 by omega]
      rfl
