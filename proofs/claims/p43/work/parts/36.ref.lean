/-! the reference reads (wip/ext/g36.py) -/
theorem xX12_in {t : St} {a b c : Int64} : Ok (FX12_in a b c t) (fun r u => t = u ∧ ((r = 1 ∧ b.toInt ≤ a.toInt ∧ a.toInt ≤ c.toInt) ∨ (r = 0 ∧ ¬ (b.toInt ≤ a.toInt ∧ a.toInt ≤ c.toInt)))) := by
  unfold FX12_in
  refine Ok.ite (fun c1 => Ok.ret ⟨rfl, Or.inr ⟨rfl, ?_⟩⟩) (fun c1 => Ok.ite (fun c2 => Ok.ret ⟨rfl, Or.inr ⟨rfl, ?_⟩⟩) (fun c2 => Ok.ret ⟨rfl, Or.inl ⟨rfl, ?_⟩⟩))
  · rw [lgN, Int64.lt_iff_toInt_lt] at c1
    omega
  · rw [lgP, Int64.lt_iff_toInt_lt] at c2
    omega
  · rw [lgN, Int64.lt_iff_toInt_lt] at c1
    rw [lgP, Int64.lt_iff_toInt_lt] at c2
    omega
/-- what stands at the spot lies between -/
def AT (t : St) (a b : Int32) : Prop := ∃ i n, t 149 8 = nI i ∧ t 149 5 = nI n ∧ i < n ∧ n < 401 ∧ a.toInt ≤ (t 153 i).toInt ∧ (t 153 i).toInt ≤ b.toInt
theorem xX12_isAt {t : St} (hT : TY t) {a b : Int32} : Ok (FX12_isAt a b t) (fun r u => t = u ∧ ((r = 1 ∧ AT t a b) ∨ (r = 0 ∧ ¬ AT t a b))) := by
  unfold FX12_isAt
  obtain ⟨i, hi, ei⟩ := hT.rd ty_m8 (by omega)
  obtain ⟨n, hn, en⟩ := hT.rd ty_m5 (by omega)
  refine Ok.rd (fun v1 h1 => Ok.rd (fun v3 h3 => ?_))
  rw [ei] at h1
  rw [en] at h3
  subst h1 h3
  refine Ok.ite (fun c => Ok.ret ⟨rfl, Or.inr ⟨rfl, ?_⟩⟩) (fun c => ?_)
  · rw [nI_leP (by omega) (by omega)] at c
    rintro ⟨i', n', e1, e2, h1, h2, -⟩
    have := nI_inj (ei.symm.trans e1) (by omega) (by omega)
    have := nI_inj (en.symm.trans e2) (by omega) (by omega)
    omega
  rw [nI_leP (by omega) (by omega)] at c
  refine Ok.rd (fun v7 h7 => ?_)
  rw [ei] at h7
  subst h7
  refine Ok.ck (inb_n (by omega) (by omega)) (fun g => Ok.rd (fun v10 h10 => ?_))
  rw [nI_cl (by omega)] at h10
  subst h10
  refine Ok.bd _ xX12_in ?_
  simp only [Int32.toInt_toInt64]
  rintro v _ ⟨rfl, hv⟩
  refine Ok.ite (fun c2 => Ok.ret ⟨rfl, Or.inr ⟨rfl, ?_⟩⟩) (fun c2 => ?_)
  · rintro ⟨i', n', e1, e2, h1, h2, h3⟩
    have := nI_inj (ei.symm.trans e1) (by omega) (by omega)
    subst this
    exact (hv.resolve_left (fun h => absurd (h.1.symm.trans c2) (by decide))).2 h3
  · have h := (hv.resolve_right (fun h => c2 h.1)).2
    exact Ok.ret ⟨rfl, Or.inl ⟨rfl, i, n, ei, en, by omega, hn, h⟩⟩
def RD (t : St) : Prop := ∃ b i n, t 149 9 = nI b ∧ t 149 8 = nI i ∧ t 149 5 = nI n ∧ b ≤ i ∧ i ≤ n ∧ n < 401 ∧ (t 149 10 = 3 → b < i) ∧ (t 149 10 = 2 → ∀ k, b ≤ k → k < i → ∃ d, d < 10 ∧ t 153 k = nI (48 + d))
theorem RD.same {t u : St} (h : RD t) (h5 : u 149 5 = t 149 5) (h8 : u 149 8 = t 149 8) (h9 : u 149 9 = t 149 9) (h10 : u 149 10 = t 149 10) (hp : u 153 = t 153) : RD u := by
  unfold RD
  rw [h5, h8, h9, h10, hp]
  exact h
theorem wm {t u : St} {i j : Nat} {v : Int32} (e : u = wr t 149 i v) (h : j ≠ i) : u 149 j = t 149 j := by
  rw [e, wr_at, pk_un h]
theorem ws {t u : St} {i : Nat} {v : Int32} (e : u = wr t 149 i v) : u 149 i = v := by
  rw [e, wr_at, pk_us]
theorem wo {t u : St} {a b i : Nat} {v : Int32} (e : u = wr t a i v) (h : b ≠ a) : u b = t b := by
  rw [e, wr_off b h]
/-- a step of the reader -/
def RS (σ u w : St) : Prop := GM σ w ∧ RD w ∧ w 150 = u 150 ∧ (u 149 8).toInt ≤ (w 149 8).toInt ∧ (¬ u 149 12 = 0 → ¬ w 149 12 = 0)
theorem RS.tr {σ t u w : St} (h : RS σ t u) (h2 : RS σ u w) : RS σ t w := ⟨h2.1, h2.2.1, h2.2.2.1.trans h.2.2.1, Int.le_trans h.2.2.2.1 h2.2.2.2.1, fun q => h2.2.2.2.2 (h.2.2.2.2 q)⟩
theorem RS.rf {σ t : St} (hG : GM σ t) (hR : RD t) : RS σ t t := ⟨hG, hR, rfl, Int.le_refl _, id⟩
theorem nX12_faults {σ t : St} (hG : GM σ t) (hR : RD t) {a : Int32} : Ok (FX12_faults a t) (fun _ u => RS σ t u ∧ ¬ u 149 12 = 0) := by
  unfold FX12_faults
  refine Ok.rd (fun v1 h1 => ?_)
  refine Ok.ite (fun c => ?_) (fun c => Ok.ret ⟨RS.rf hG hR, by rw [← h1]; exact c⟩)
  refine Ok.wr (fun t5 e5 => Ok.wr (fun t7 e7 => Ok.rd (fun v9 h9 => Ok.wr (fun t11 e11 => ?_))))
  have g1 := hG.wrT e5 (by omega) ty_m12 ⟨1, by omega, rfl⟩
  have g2 := g1.wrU e7 (by omega) (by decide +kernel)
  have g3 := g2.wrU e11 (by omega) (by decide +kernel)
  have k : ∀ j, j ≠ 12 → j ≠ 6 → j ≠ 7 → t11 149 j = t 149 j := fun j a b c => by rw [wm e11 c, wm e7 b, wm e5 a]
  have hb : ¬ t11 149 12 = 0 := by
    rw [wm e11 (by decide), wm e7 (by decide), ws e5]
    decide
  refine Ok.ret ⟨⟨g3, hR.same (k 5 (by decide) (by decide) (by decide)) (k 8 (by decide) (by decide) (by decide)) (k 9 (by decide) (by decide) (by decide)) (k 10 (by decide) (by decide) (by decide)) (by rw [wo e11 (by decide), wo e7 (by decide), wo e5 (by decide)]), by rw [wo e11 (by decide), wo e7 (by decide), wo e5 (by decide)], by rw [k 8 (by decide) (by decide) (by decide)]; exact Int.le_refl _, fun _ => hb⟩, hb⟩
/-- spots passed -/
def NX (σ u : St) (lo : Nat) (k : Nat) (w : St) : Prop := GM σ w ∧ w 150 = u 150 ∧ w 149 12 = u 149 12 ∧ ∃ i n, w 149 8 = nI i ∧ w 149 5 = nI n ∧ lo ≤ i ∧ i ≤ n ∧ n < 401 ∧ k = n - i
theorem NX.step {σ u w x : St} {lo k : Nat} {a b : Int32} (h : NX σ u lo k w) (hA : AT w a b) (e : x = wr w 149 8 (w 149 8 + 1)) : ∃ j, j < k ∧ NX σ u lo j x ∧ x 149 8 = w 149 8 + 1 := by
  obtain ⟨hG, h0, h1, i, n, ei, en, hlo, hin, hn, rfl⟩ := h
  obtain ⟨i', n', e1, e2, h3, h4, -⟩ := hA
  have := nI_inj (ei.symm.trans e1) (by omega) (by omega)
  subst this
  have := nI_inj (en.symm.trans e2) (by omega) (by omega)
  subst this
  have ex : x 149 8 = nI (i + 1) := by rw [ws e, ei, nI_1]
  exact ⟨n - (i + 1), by omega, ⟨hG.wrT e (by omega) ty_m8 ⟨i + 1, by omega, by rw [ei, nI_1]⟩, by rw [wo e (by decide)]; exact h0, by rw [wm e (by decide)]; exact h1, i + 1, n, ex, by rw [wm e (by decide)]; exact en, by omega, by omega, hn, rfl⟩, ws e⟩
theorem nX12_next {σ t : St} (hG : GM σ t) {i0 n0 : Nat} (ei0 : t 149 8 = nI i0) (en0 : t 149 5 = nI n0) (hin0 : i0 ≤ n0) (hn0 : n0 < 401) : Ok (FX12_next t) (fun _ u => (RS σ t u ∧ u 149 12 = t 149 12) ∧ (u 149 10 = 0 ∨ (t 149 8).toInt < (u 149 8).toInt)) := by
  unfold FX12_next
  refine Ok.bd (fun _ w => ∃ k, NX σ t i0 k w) ?_ ?_
  · refine Ok.loop (fun k c w => NX σ t i0 k w) ?_ (n0 - i0) _ _ ⟨hG, rfl, rfl, i0, n0, ei0, en0, by omega, by omega, hn0, rfl⟩
    intro k c w hI
    unfold SX12_next_0
    refine Ok.bd _ (xX12_isAt hI.1.tt) ?_
    rintro v _ ⟨rfl, hv⟩
    refine Ok.ite (fun c1 => ?_) (fun c1 => ?_)
    · refine Ok.bd _ (xX12_isAt hI.1.tt) ?_
      rintro v9 _ ⟨rfl, hv9⟩
      refine Ok.ite (fun c2 => Ok.ret ⟨k, hI⟩) (fun c2 => ?_)
      refine Ok.rd (fun v13 h13 => Ok.wr (fun x ex => ?_))
      subst h13
      obtain ⟨j, hj, h, -⟩ := hI.step (hv9.resolve_right (fun h => c2 h.1)).2 ex
      exact Ok.ret ⟨j, hj, h⟩
    · refine Ok.rd (fun v13 h13 => Ok.wr (fun x ex => ?_))
      subst h13
      obtain ⟨j, hj, h, -⟩ := hI.step (hv.resolve_right (fun h => c1 h.1)).2 ex
      exact Ok.ret ⟨j, hj, h⟩
  rintro _ t18 ⟨k, hg, h150, h12, b, n, eb, en, hlo, hbn, hn, rfl⟩
  refine Ok.rd (fun v21 h21 => ?_)
  rw [eb] at h21
  subst h21
  refine Ok.wr (fun t23 e23 => Ok.wr (fun t25 e25 => ?_))
  have g23 := hg.wrT e23 (by omega) ty_m9 ⟨b, by omega, rfl⟩
  have g25 := g23.wrU e25 (by omega) (by decide +kernel)
  have b25 : t25 149 8 = nI b := by rw [wm e25 (by decide), wm e23 (by decide)]; exact eb
  have n25 : t25 149 5 = nI n := by rw [wm e25 (by decide), wm e23 (by decide)]; exact en
  have s25 : t25 149 9 = nI b := by rw [wm e25 (by decide)]; exact ws e23
  have q25 : t25 150 = t 150 := by rw [wo e25 (by decide), wo e23 (by decide)]; exact h150
  have d25 : t25 149 12 = t 149 12 := by rw [wm e25 (by decide), wm e23 (by decide)]; exact h12
  have lt8 : ∀ {x : Int32} {i : Nat}, x = nI i → i < 401 → i0 ≤ i → (t 149 8).toInt ≤ x.toInt := fun ex hi hl => by
    rw [ex, ei0, nI_toInt (by omega), nI_toInt (by omega)]; omega
  have lt9 : ∀ {x : Int32} {i : Nat}, x = nI i → i < 401 → i0 < i → (t 149 8).toInt < x.toInt := fun ex hi hl => by
    rw [ex, ei0, nI_toInt (by omega), nI_toInt (by omega)]; omega
  refine Ok.rd (fun v27 h27 => Ok.rd (fun v29 h29 => ?_))
  rw [b25] at h27
  rw [n25] at h29
  subst h27 h29
  refine Ok.ite (fun c => ?_) (fun c => ?_)
  · refine Ok.wr (fun x ex => ?_)
    have gx := g25.wrU ex (by omega) (by decide +kernel)
    have z : x 149 10 = 0 := ws ex
    refine Ok.ret ⟨⟨⟨gx, ⟨b, b, n, by rw [wm ex (by decide)]; exact s25, by rw [wm ex (by decide)]; exact b25, by rw [wm ex (by decide)]; exact n25, by omega, by omega, hn, fun q => absurd (z.symm.trans q) (by decide), fun q => absurd (z.symm.trans q) (by decide)⟩, by rw [wo ex (by decide)]; exact q25, by rw [wm ex (by decide)]; exact lt8 b25 (by omega) hlo, ?_⟩, by rw [wm ex (by decide)]; exact d25⟩, Or.inl z⟩
    rw [wm ex (by decide), d25]
    exact id
  have hbn' : b < n := by
    rcases Nat.lt_or_ge b n with q | q
    · exact q
    · exact absurd (by rw [show b = n by omega]) c
  refine Ok.bd _ (xX12_isAt g25.tt) ?_
  rintro v _ ⟨rfl, hv⟩
  refine Ok.ite (fun c1 => ?_) (fun c1 => ?_)
  · refine Ok.bd _ (xX12_isAt g25.tt) ?_
    rintro v36 _ ⟨rfl, hv36⟩
    refine Ok.ite (fun c2 => ?_) (fun c2 => ?_)
    · refine Ok.wr (fun x ex => Ok.rd (fun v42 h42 => ?_))
      rw [wm ex (by decide), b25] at h42
      subst h42
      refine Ok.wr (fun y ey => ?_)
      have gx := g25.wrU ex (by omega) (by decide +kernel)
      have gy := gx.wrT ey (by omega) ty_m8 ⟨b + 1, by omega, nI_1 b⟩
      have y8 : y 149 8 = nI (b + 1) := by rw [ws ey, nI_1]
      have y10 : y 149 10 = 3 := by rw [wm ey (by decide)]; exact ws ex
      refine Ok.ret ⟨⟨⟨gy, ⟨b, b + 1, n, by rw [wm ey (by decide), wm ex (by decide)]; exact s25, y8, by rw [wm ey (by decide), wm ex (by decide)]; exact n25, by omega, by omega, hn, fun _ => by omega, fun q => absurd (y10.symm.trans q) (by decide)⟩, by rw [wo ey (by decide), wo ex (by decide)]; exact q25, lt8 y8 (by omega) (by omega), ?_⟩, by rw [wm ey (by decide), wm ex (by decide)]; exact d25⟩, Or.inr (lt9 y8 (by omega) (by omega))⟩
      rw [wm ey (by decide), wm ex (by decide), d25]
      exact id
    · refine Ok.wr (fun x ex => ?_)
      have gx := g25.wrU ex (by omega) (by decide +kernel)
      have hA : AT t25 48 57 := (hv36.resolve_right (fun h => c2 h.1)).2
      refine Ok.bd (fun _ w => ∃ k, NX σ t i0 k w ∧ w 149 9 = nI b ∧ w 149 10 = 2 ∧ (∀ i, w 149 8 = nI i → i < 401 → b < i ∧ ∀ k, b ≤ k → k < i → ∃ d, d < 10 ∧ w 153 k = nI (48 + d))) ?_ ?_
      · refine Ok.loop (fun k c w => NX σ t i0 k w ∧ w 149 9 = nI b ∧ w 149 10 = 2 ∧ (∀ i, w 149 8 = nI i → i < 401 → b ≤ i ∧ (b < i ∨ AT w 48 57) ∧ ∀ k, b ≤ k → k < i → ∃ d, d < 10 ∧ w 153 k = nI (48 + d))) ?_ (n - b) _ _ ⟨⟨gx, by rw [wo ex (by decide)]; exact q25, by rw [wm ex (by decide)]; exact d25, b, n, by rw [wm ex (by decide)]; exact b25, by rw [wm ex (by decide)]; exact n25, hlo, by omega, hn, rfl⟩, by rw [wm ex (by decide)]; exact s25, ws ex, fun i ei hi => ?_⟩
        · intro k c w hI
          obtain ⟨hN, w9, w10, hd⟩ := hI
          unfold SX12_next_123
          refine Ok.bd _ (xX12_isAt hN.1.tt) ?_
          rintro v _ ⟨rfl, hv⟩
          obtain ⟨i, n', wi, wn, hl', hin', hn', -⟩ := id hN.2.2.2
          refine Ok.ite (fun c1 => Ok.ret ⟨k, hN, w9, w10, fun i' ei' hi' => ?_⟩) (fun c1 => ?_)
          · have hA := (hv.resolve_left (fun h => absurd (h.1.symm.trans c1) (by decide))).2
            obtain ⟨h1, h2, h3⟩ := hd i' ei' hi'
            exact ⟨h2.resolve_right hA, h3⟩
          · have hA := (hv.resolve_right (fun h => c1 h.1)).2
            refine Ok.rd (fun v53 h53 => Ok.rd (fun v55 h55 => ?_))
            rw [wi] at h55
            subst h55
            have hA2 := hA
            obtain ⟨i2, n2, e1, e2, h3, h4, h5, h6⟩ := hA2
            have := nI_inj (wi.symm.trans e1) (by omega) (by omega)
            subst this
            refine Ok.ck (inb_n (by omega) (by omega)) (fun _ => Ok.rd (fun v58 h58 => ?_))
            refine Ok.wr (fun y ey => Ok.rd (fun v62 h62 => Ok.wr (fun z ez => ?_)))
            have gy := hN.1.wrU ey (by omega) (by decide +kernel)
            have hNy : NX σ t i0 k y := ⟨gy, by rw [wo ey (by decide)]; exact hN.2.1, by rw [wm ey (by decide)]; exact hN.2.2.1, by rw [wm ey (by decide), wm ey (by decide)]; exact hN.2.2.2⟩
            have hAy : AT y 48 57 := by
              unfold AT
              rw [wm ey (by decide), wm ey (by decide), wo ey (by decide)]
              exact hA
            subst h62
            obtain ⟨j, hj, hz, z8⟩ := hNy.step hAy ez
            refine Ok.ret ⟨j, hj, hz, by rw [wm ez (by decide), wm ey (by decide)]; exact w9, by rw [wm ez (by decide), wm ey (by decide)]; exact w10, fun i' ei' hi' => ?_⟩
            rw [z8, wm ey (by decide), wi, nI_1] at ei'
            have := nI_inj ei' (by omega) (by omega)
            subst this
            obtain ⟨q1, -, q3⟩ := hd i wi (by omega)
            refine ⟨by omega, Or.inl (by omega), fun k' a1 a2 => ?_⟩
            rw [wo ez (by decide), wo ey (by decide)]
            by_cases e : k' = i
            · subst e
              obtain ⟨m, hm, em⟩ := hN.1.tt.rd (ty_a153 (i := k') (by omega)) (by omega)
              rw [em, nI_toInt (by omega)] at h5 h6
              have a48 : (48 : Int32).toInt = 48 := by decide
              have a57 : (57 : Int32).toInt = 57 := by decide
              exact ⟨m - 48, by omega, by rw [em]; congr 1; omega⟩
            · exact q3 k' a1 (by omega)
        · rw [wm ex (by decide), b25] at ei
          have := nI_inj ei (by omega) (by omega)
          subst this
          refine ⟨by omega, Or.inr ?_, fun k a1 a2 => absurd a1 (by omega)⟩
          unfold AT
          rw [wm ex (by decide), wm ex (by decide), wo ex (by decide)]
          exact hA
      · rintro _ w ⟨k, ⟨hw, w150, w12, i, n', wi, wn, hl', hin', hn', -⟩, w9, w10, hd⟩
        obtain ⟨h1, h2⟩ := hd i wi (by omega)
        refine Ok.ret ⟨⟨⟨hw, ⟨b, i, n', w9, wi, wn, by omega, hin', hn', fun _ => h1, fun _ => h2⟩, w150, lt8 wi (by omega) hl', ?_⟩, w12⟩, Or.inr (lt9 wi (by omega) (by omega))⟩
        rw [w12]
        exact id
  · refine Ok.wr (fun x ex => ?_)
    have gx := g25.wrU ex (by omega) (by decide +kernel)
    have hA : AT t25 97 122 := (hv.resolve_right (fun h => c1 h.1)).2
    refine Ok.bd (fun _ w => ∃ k, NX σ t i0 k w ∧ w 149 9 = nI b ∧ w 149 10 = 1 ∧ (∀ i, w 149 8 = nI i → i < 401 → b < i)) ?_ ?_
    · refine Ok.loop (fun k c w => NX σ t i0 k w ∧ w 149 9 = nI b ∧ w 149 10 = 1 ∧ (∀ i, w 149 8 = nI i → i < 401 → b ≤ i ∧ (b < i ∨ AT w 97 122))) ?_ (n - b) _ _ ⟨⟨gx, by rw [wo ex (by decide)]; exact q25, by rw [wm ex (by decide)]; exact d25, b, n, by rw [wm ex (by decide)]; exact b25, by rw [wm ex (by decide)]; exact n25, hlo, by omega, hn, rfl⟩, by rw [wm ex (by decide)]; exact s25, ws ex, fun i ei hi => ?_⟩
      · intro k c w hI
        obtain ⟨hN, w9, w10, hd⟩ := hI
        unfold SX12_next_83
        refine Ok.bd _ (xX12_isAt hN.1.tt) ?_
        rintro v _ ⟨rfl, hv⟩
        obtain ⟨i, n', wi, wn, hl', hin', hn', -⟩ := id hN.2.2.2
        refine Ok.ite (fun c1 => Ok.ret ⟨k, hN, w9, w10, fun i' ei' hi' => ?_⟩) (fun c1 => ?_)
        · have hA := (hv.resolve_left (fun h => absurd (h.1.symm.trans c1) (by decide))).2
          exact (hd i' ei' hi').2.resolve_right hA
        · have hA := (hv.resolve_right (fun h => c1 h.1)).2
          refine Ok.rd (fun v62 h62 => Ok.wr (fun z ez => ?_))
          subst h62
          obtain ⟨j, hj, hz, z8⟩ := hN.step hA ez
          refine Ok.ret ⟨j, hj, hz, by rw [wm ez (by decide)]; exact w9, by rw [wm ez (by decide)]; exact w10, fun i' ei' hi' => ?_⟩
          rw [z8, wi, nI_1] at ei'
          have := nI_inj ei' (by omega) (by omega)
          subst this
          obtain ⟨q1, -⟩ := hd i wi (by omega)
          exact ⟨by omega, Or.inl (by omega)⟩
      · rw [wm ex (by decide), b25] at ei
        have := nI_inj ei (by omega) (by omega)
        subst this
        refine ⟨by omega, Or.inr ?_⟩
        unfold AT
        rw [wm ex (by decide), wm ex (by decide), wo ex (by decide)]
        exact hA
    · rintro _ w ⟨k, ⟨hw, w150, w12, i, n', wi, wn, hl', hin', hn', -⟩, w9, w10, hd⟩
      have h1 := hd i wi (by omega)
      refine Ok.ret ⟨⟨⟨hw, ⟨b, i, n', w9, wi, wn, by omega, hin', hn', fun _ => h1, fun q => absurd (w10.symm.trans q) (by decide)⟩, w150, lt8 wi (by omega) hl', ?_⟩, w12⟩, Or.inr (lt9 wi (by omega) (by omega))⟩
      rw [w12]
      exact id
theorem nX12_nextR {σ t : St} (hG : GM σ t) (hR : RD t) : Ok (FX12_next t) (fun _ u => (RS σ t u ∧ u 149 12 = t 149 12) ∧ (u 149 10 = 0 ∨ (t 149 8).toInt < (u 149 8).toInt)) := by
  obtain ⟨b, i, n, -, ei, en, -, hin, hn, -⟩ := hR
  exact nX12_next hG ei en hin hn
theorem nX12_passes {σ t : St} (hG : GM σ t) (hR : RD t) : Ok (FX12_passes t) (fun _ u => RS σ t u) := by
  unfold FX12_passes
  refine Ok.rd (fun v1 h1 => Ok.ite (fun _ => ?_) (fun _ => Ok.ret (RS.rf hG hR)))
  refine Ok.bd _ (nX12_nextR hG hR) ?_
  rintro _ u ⟨⟨h, -⟩, -⟩
  exact Ok.ret h
theorem nX12_must {σ t : St} (hG : GM σ t) (hR : RD t) {a : Int32} : Ok (FX12_must a t) (fun _ u => RS σ t u) := by
  unfold FX12_must
  refine Ok.bd (fun _ u => RS σ t u) ?_ ?_
  · refine Ok.ite (fun _ => ?_) (fun _ => Ok.ret (RS.rf hG hR))
    refine Ok.bd _ (nX12_faults hG hR) ?_
    rintro _ u ⟨h, -⟩
    exact Ok.ret h
  · rintro _ u h
    refine Ok.bd _ (nX12_passes h.1 h.2.1) ?_
    rintro _ w h2
    exact Ok.ret (h.tr h2)
theorem nX12_here {σ t : St} (hG : GM σ t) (hR : RD t) {a b : Int32} : Ok (FX12_here a b t) (fun r u => RS σ t u ∧ (a.toInt ≤ b.toInt → a.toInt ≤ r.toInt ∧ r.toInt ≤ b.toInt) ∧ (t 149 10 = 0 → ¬ u 149 12 = 0)) := by
  unfold FX12_here
  refine Ok.rd (fun v1 h1 => Ok.ite (fun c => ?_) (fun c => Ok.ret ⟨RS.rf hG hR, fun h => ⟨Int.le_refl _, h⟩, fun _ => by rw [← h1]; exact c⟩))
  refine Ok.rd (fun v4 h4 => ?_)
  refine Ok.bd (fun _ u => RS σ t u ∧ (¬ u 149 12 = 0 ∨ (t 149 10 = 2 ∧ t = u ∧ a.toInt ≤ (t 149 11).toInt ∧ (t 149 11).toInt ≤ b.toInt))) ?_ ?_
  · refine Ok.ite (fun c2 => ?_) (fun c2 => ?_)
    · refine Ok.rd (fun v18 h18 => ?_)
      subst h18
      refine Ok.bd _ xX12_in ?_
      simp only [Int32.toInt_toInt64]
      rintro v _ ⟨rfl, hv⟩
      refine Ok.ite (fun c3 => ?_) (fun c3 => ?_)
      · refine Ok.bd _ (nX12_faults hG hR) ?_
        rintro _ u ⟨h, hb⟩
        exact Ok.ret ⟨h, Or.inl hb⟩
      · exact Ok.ret ⟨RS.rf hG hR, Or.inr ⟨h4.symm.trans c2, rfl, (hv.resolve_right (fun h => c3 h.1)).2⟩⟩
    · refine Ok.bd _ (nX12_faults hG hR) ?_
      rintro _ u ⟨h, hb⟩
      exact Ok.ret ⟨h, Or.inl hb⟩
  · rintro _ u ⟨h, hd⟩
    refine Ok.rd (fun v11 h11 => Ok.ite (fun c2 => ?_) (fun c2 => ?_))
    · obtain ⟨q1, rfl, q3⟩ := hd.resolve_left (fun q => q (by rw [← h11]; exact c2))
      refine Ok.rd (fun v14 h14 => ?_)
      subst h14
      exact Ok.ret ⟨h, fun _ => q3, fun q => absurd (q1.symm.trans q) (by decide)⟩
    · exact Ok.ret ⟨h, fun q => ⟨Int.le_refl _, q⟩, fun _ => by rw [← h11]; exact c2⟩
theorem nX12_isSign {t : St} (hR : RD t) {a : Int32} : Ok (FX12_isSign a t) (fun r u => t = u ∧ (r = 0 ∨ t 149 12 = 0)) := by
  unfold FX12_isSign
  obtain ⟨b, i, n, eb, ei, en, hbi, hin, hn, h3, -⟩ := hR
  refine Ok.rd (fun v1 h1 => Ok.ite (fun c => ?_) (fun _ => Ok.ret ⟨rfl, Or.inl rfl⟩))
  refine Ok.rd (fun v5 h5 => Ok.ite (fun c5 => ?_) (fun _ => Ok.ret ⟨rfl, Or.inl rfl⟩))
  have := h3 (h5.symm.trans c5)
  refine Ok.rd (fun v9 h9 => ?_)
  rw [eb] at h9
  subst h9
  refine Ok.ck (inb_n (by omega) (by omega)) (fun _ => Ok.rd (fun v12 _ => ?_))
  exact Ok.ite (fun _ => Ok.ret ⟨rfl, Or.inr (h1.symm.trans c)⟩) (fun _ => Ok.ret ⟨rfl, Or.inl rfl⟩)
