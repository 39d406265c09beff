/-! the reference reads a net (wip/ext/g37.py) -/
theorem nX12_isWord_s4 {t : St} (hR : RD t) : Ok (FX12_isWord_s4 t) (fun r u => t = u) := by
  unfold FX12_isWord_s4
  obtain ⟨b, i, n, eb, ei, en, hbi, hin, hn, -⟩ := hR
  refine Ok.rd (fun v1 h1 => ?_)
  refine Ok.bd (fun v u => t = u ∧ isb v = true ∧ (v = 0 ∨ b + 3 < 401)) ?_ ?_
  · refine Ok.ite (fun c => ?_) (fun _ => Ok.ret ⟨rfl, rfl, Or.inl rfl⟩)
    refine Ok.rd (fun v27 h27 => Ok.ite (fun c27 => ?_) (fun _ => Ok.ret ⟨rfl, rfl, Or.inl rfl⟩))
    refine Ok.rd (fun v30 h30 => Ok.rd (fun v32 h32 => ?_))
    rw [ei] at h30
    rw [eb] at h32
    subst h30 h32
    refine Ok.ite (fun c3 => Ok.ret ⟨rfl, rfl, Or.inr ?_⟩) (fun _ => Ok.ret ⟨rfl, rfl, Or.inl rfl⟩)
    rw [nI_sub hbi, li_3] at c3
    have := nI_inj c3 (by omega) (by omega)
    omega
  · rintro v4 _ ⟨rfl, hb4, h4⟩
    refine Ok.bd (fun v u => t = u ∧ isb v = true) ?_ (fun v u h => Ok.ck h.2 (fun _ => Ok.ret h.1))
    refine Ok.loop (fun k c u => t = u ∧ isb c.1 = true ∧ (c.1 = 0 ∨ b + 3 < 401) ∧ ∃ j, c.2 = nI j ∧ j ≤ 3 ∧ k = 3 - j) ?_ 3 _ _ ⟨rfl, hb4, h4, 0, rfl, by omega, rfl⟩
    clear hb4 h4
    intro k c u hI
    obtain ⟨rfl, hb, h4, j, ej, hj, rfl⟩ := hI
    obtain ⟨c0, c1⟩ := c
    dsimp only at ej hb h4
    subst ej
    unfold SX12_isWord_s4_39
    dsimp only
    refine Ok.ite (fun _ => Ok.ret ⟨rfl, hb⟩) (fun c1 => ?_)
    rw [li_3, nI_leP (by omega) (by omega)] at c1
    refine Ok.ite (fun _ => Ok.ret ⟨rfl, hb⟩) (fun c2 => ?_)
    have h5 := h4.resolve_left c2
    refine Ok.rd (fun v10 h10 => ?_)
    rw [eb] at h10
    subst h10
    rw [nI_add]
    refine Ok.ck (inb_n (by omega) (by omega)) (fun _ => Ok.rd (fun v13 _ => ?_))
    refine Ok.ck (inb_n (by omega) (by omega)) (fun _ => ?_)
    refine Ok.bd (fun v u => t = u ∧ isb v = true) (Ok.ite (fun _ => Ok.ret ⟨rfl, rfl⟩) (fun _ => Ok.ret ⟨rfl, rfl⟩)) ?_
    rintro v17 _ ⟨rfl, h17⟩
    exact Ok.ret ⟨3 - (j + 1), by omega, rfl, h17, Or.inr h5, j + 1, nI_1 j, by omega, rfl⟩
theorem nX12_isWord_s5 {t : St} (hR : RD t) : Ok (FX12_isWord_s5 t) (fun r u => t = u) := by
  unfold FX12_isWord_s5
  obtain ⟨b, i, n, eb, ei, en, hbi, hin, hn, -⟩ := hR
  refine Ok.rd (fun v1 h1 => ?_)
  refine Ok.bd (fun v u => t = u ∧ isb v = true ∧ (v = 0 ∨ b + 3 < 401)) ?_ ?_
  · refine Ok.ite (fun c => ?_) (fun _ => Ok.ret ⟨rfl, rfl, Or.inl rfl⟩)
    refine Ok.rd (fun v27 h27 => Ok.ite (fun c27 => ?_) (fun _ => Ok.ret ⟨rfl, rfl, Or.inl rfl⟩))
    refine Ok.rd (fun v30 h30 => Ok.rd (fun v32 h32 => ?_))
    rw [ei] at h30
    rw [eb] at h32
    subst h30 h32
    refine Ok.ite (fun c3 => Ok.ret ⟨rfl, rfl, Or.inr ?_⟩) (fun _ => Ok.ret ⟨rfl, rfl, Or.inl rfl⟩)
    rw [nI_sub hbi, li_3] at c3
    have := nI_inj c3 (by omega) (by omega)
    omega
  · rintro v4 _ ⟨rfl, hb4, h4⟩
    refine Ok.bd (fun v u => t = u ∧ isb v = true) ?_ (fun v u h => Ok.ck h.2 (fun _ => Ok.ret h.1))
    refine Ok.loop (fun k c u => t = u ∧ isb c.1 = true ∧ (c.1 = 0 ∨ b + 3 < 401) ∧ ∃ j, c.2 = nI j ∧ j ≤ 3 ∧ k = 3 - j) ?_ 3 _ _ ⟨rfl, hb4, h4, 0, rfl, by omega, rfl⟩
    clear hb4 h4
    intro k c u hI
    obtain ⟨rfl, hb, h4, j, ej, hj, rfl⟩ := hI
    obtain ⟨c0, c1⟩ := c
    dsimp only at ej hb h4
    subst ej
    unfold SX12_isWord_s5_39
    dsimp only
    refine Ok.ite (fun _ => Ok.ret ⟨rfl, hb⟩) (fun c1 => ?_)
    rw [li_3, nI_leP (by omega) (by omega)] at c1
    refine Ok.ite (fun _ => Ok.ret ⟨rfl, hb⟩) (fun c2 => ?_)
    have h5 := h4.resolve_left c2
    refine Ok.rd (fun v10 h10 => ?_)
    rw [eb] at h10
    subst h10
    rw [nI_add]
    refine Ok.ck (inb_n (by omega) (by omega)) (fun _ => Ok.rd (fun v13 _ => ?_))
    refine Ok.ck (inb_n (by omega) (by omega)) (fun _ => ?_)
    refine Ok.bd (fun v u => t = u ∧ isb v = true) (Ok.ite (fun _ => Ok.ret ⟨rfl, rfl⟩) (fun _ => Ok.ret ⟨rfl, rfl⟩)) ?_
    rintro v17 _ ⟨rfl, h17⟩
    exact Ok.ret ⟨3 - (j + 1), by omega, rfl, h17, Or.inr h5, j + 1, nI_1 j, by omega, rfl⟩
theorem here_R {v : Int32} {n : Nat} (h1 : 1 ≤ n) (hn : n < 10) (h : (0 : Int32).toInt ≤ (nI n - 1).toInt → (0 : Int32).toInt ≤ v.toInt ∧ v.toInt ≤ (nI n - 1).toInt) : IsR 9 v := by
  have e : nI n - 1 = nI (n - 1) := by rw [li_1, nI_sub (by omega)]
  have e0 : (0 : Int32).toInt = 0 := by decide
  rw [e, e0, nI_toInt (by omega)] at h
  obtain ⟨a, b⟩ := h (by omega)
  have h0 : ¬ v < 0 := fun q => by
    rw [Int32.lt_iff_toInt_lt, e0] at q
    omega
  obtain ⟨j, hj, rfl⟩ := nI_of h0
  rw [nI_toInt hj] at b
  exact ⟨j, by omega, rfl⟩
theorem here_W {v : Int32} (h : (1 : Int32).toInt ≤ (9 : Int32).toInt → (1 : Int32).toInt ≤ v.toInt ∧ v.toInt ≤ (9 : Int32).toInt) : ∃ j, 1 ≤ j ∧ j < 10 ∧ v = nI j := by
  have e1 : (1 : Int32).toInt = 1 := by decide
  have e9 : (9 : Int32).toInt = 9 := by decide
  have e0 : (0 : Int32).toInt = 0 := by decide
  rw [e1, e9] at h
  obtain ⟨a, b⟩ := h (by omega)
  have h0 : ¬ v < 0 := fun q => by
    rw [Int32.lt_iff_toInt_lt, e0] at q
    omega
  obtain ⟨j, hj, rfl⟩ := nI_of h0
  rw [nI_toInt hj] at a b
  exact ⟨j, by omega, by omega, rfl⟩
def LPs (σ : St) (s n : Nat) (t u : St) : Prop := GM σ u ∧ RD u ∧ u 150 (91 * s) = nI n ∧ (t 149 8).toInt ≤ (u 149 8).toInt ∧ (¬ t 149 12 = 0 → ¬ u 149 12 = 0) ∧ (t 149 10 = 0 → ¬ u 149 12 = 0)
theorem nX12_readsLine {σ t : St} (hG : GM σ t) (hR : RD t) {s n : Nat} (hs : s < 3) (en : t 150 (91 * s) = nI n) (h1 : 1 ≤ n) (hn : n < 10) : Ok (FX12_readsLine (nI s) t) (fun _ u => LPs σ s n t u) := by
  unfold FX12_readsLine
  refine Ok.bd _ (xX12_points hG.tt hs) ?_
  rintro _ _ ⟨rfl, rfl⟩
  rw [en]
  refine Ok.bd _ (nX12_here hG hR) ?_
  rintro v4 t5 ⟨r1, hv4, hz⟩
  obtain ⟨p, hp, rfl⟩ := here_R h1 hn hv4
  refine Ok.rd (fun v7 h7 => ?_)
  refine Ok.bd (fun _ u => RS σ t5 u) ?_ ?_
  · refine Ok.ite (fun _ => ?_) (fun _ => Ok.ret (RS.rf r1.1 r1.2.1))
    refine Ok.bd _ (rX12_lines r1.1.tt ⟨s, hs, rfl⟩) ?_
    rintro v82 _ ⟨rfl, -⟩
    refine Ok.ite (fun _ => ?_) (fun _ => Ok.ret (RS.rf r1.1 r1.2.1))
    refine Ok.bd _ (nX12_faults r1.1 r1.2.1) ?_
    rintro _ u ⟨h, -⟩
    exact Ok.ret h
  rintro _ t11 r2
  refine Ok.bd _ (nX12_passes r2.1 r2.2.1) ?_
  rintro _ t15 r3
  refine Ok.bd _ (nX12_isSign r3.2.1) ?_
  rintro v17 _ ⟨rfl, -⟩
  refine Ok.bd _ (nX12_must r3.1 r3.2.1) ?_
  rintro _ t21 r4
  have ra := ((r1.tr r2).tr r3).tr r4
  have rb := (r2.tr r3).tr r4
  refine Ok.bd _ (xX12_points r4.1.tt hs) ?_
  rintro _ _ ⟨rfl, rfl⟩
  rw [ra.2.2.1, en]
  refine Ok.bd _ (nX12_here r4.1 r4.2.1) ?_
  rintro v26 t27 ⟨r5, hv26, -⟩
  obtain ⟨q, hq, rfl⟩ := here_R h1 hn hv26
  refine Ok.rd (fun v29 h29 => ?_)
  refine Ok.bd (fun _ u => RS σ t27 u) ?_ ?_
  · refine Ok.ite (fun _ => ?_) (fun _ => Ok.ret (RS.rf r5.1 r5.2.1))
    refine Ok.ite (fun _ => ?_) (fun _ => Ok.ret (RS.rf r5.1 r5.2.1))
    refine Ok.bd _ (nX12_faults r5.1 r5.2.1) ?_
    rintro _ u ⟨h, -⟩
    exact Ok.ret h
  rintro _ t33 r6
  refine Ok.rd (fun v36 h36 => ?_)
  refine Ok.bd (fun _ u => RS σ t33 u) ?_ ?_
  · refine Ok.ite (fun _ => ?_) (fun _ => Ok.ret (RS.rf r6.1 r6.2.1))
    refine Ok.bd _ (rX12_weight r6.1.tt ⟨s, hs, rfl⟩ ⟨p, hp, rfl⟩ ⟨q, hq, rfl⟩) ?_
    rintro v71 _ ⟨rfl, -⟩
    refine Ok.ite (fun _ => Ok.ret (RS.rf r6.1 r6.2.1)) (fun _ => ?_)
    refine Ok.bd _ (nX12_faults r6.1 r6.2.1) ?_
    rintro _ u ⟨h, -⟩
    exact Ok.ret h
  rintro _ t40 r7
  refine Ok.bd _ (nX12_passes r7.1 r7.2.1) ?_
  rintro _ t44 r8
  refine Ok.bd _ (nX12_isSign r8.2.1) ?_
  rintro v46 _ ⟨rfl, -⟩
  refine Ok.bd (fun v u => RS σ t44 u ∧ IsR 10 v) ?_ ?_
  · refine Ok.ite (fun _ => Ok.ret ⟨RS.rf r8.1 r8.2.1, 1, by omega, rfl⟩) (fun _ => ?_)
    refine Ok.bd _ (nX12_nextR r8.1 r8.2.1) ?_
    rintro _ t63 ⟨⟨r9, -⟩, -⟩
    refine Ok.bd _ (nX12_here r9.1 r9.2.1) ?_
    rintro v65 t66 ⟨r10, hv65, -⟩
    obtain ⟨j, -, hj, rfl⟩ := here_W hv65
    refine Ok.bd _ (nX12_passes r10.1 r10.2.1) ?_
    rintro _ t69 r11
    exact Ok.ret ⟨(r9.tr r10).tr r11, j, hj, rfl⟩
  rintro v50 t51 ⟨r12, hv50⟩
  have rc := (((r5.tr r6).tr r7).tr r8).tr r12
  have rt := ra.tr rc
  have e51 : t51 150 (91 * s) = nI n := by rw [rt.2.2.1]; exact en
  have hzz : t 149 10 = 0 → ¬ t51 149 12 = 0 := fun h => (rb.tr rc).2.2.2.2 (hz h)
  refine Ok.rd (fun v54 h54 => Ok.ite (fun c => ?_) (fun _ => Ok.ret ⟨rt.1, rt.2.1, e51, rt.2.2.2.1, rt.2.2.2.2, hzz⟩))
  refine Ok.bd _ (xX12_weighs hs hp hq) ?_
  rintro _ u eu
  have k : ∀ b, b ≠ 150 → u b = t51 b := fun b hb => by rw [eu, wr_off b hb, wr_off b hb]
  refine Ok.ret ⟨by rw [eu]; exact (rt.1.wt hs hp hq hv50).wt hs hq hp hv50, rt.2.1.same (by rw [k 149 (by decide)]) (by rw [k 149 (by decide)]) (by rw [k 149 (by decide)]) (by rw [k 149 (by decide)]) (k 153 (by decide)), ?_, by rw [k 149 (by decide)]; exact rt.2.2.2.1, by rw [k 149 (by decide)]; exact rt.2.2.2.2, by rw [k 149 (by decide)]; exact hzz⟩
  rw [eu, wr_at, pk_un (by omega), wr_at, pk_un (by omega)]
  exact e51
theorem sub48 (p : Nat) : nI (48 + p) - 48 = nI p := by
  show nI (48 + p) - nI 48 = nI p
  rw [nI_sub (by omega)]
  congr 1
  omega
theorem nX12_readsRow {σ t : St} (hG : GM σ t) (hR : RD t) {s n : Nat} (hs : s < 3) (en : t 150 (91 * s) = nI n) (h1 : 1 ≤ n) (hn : n < 10) : Ok (FX12_readsRow (nI s) t) (fun _ u => GM σ u ∧ RD u) := by
  unfold FX12_readsRow
  refine Ok.bd _ (nX12_nextR hG hR) ?_
  rintro _ t2 ⟨⟨r1, -⟩, -⟩
  have en2 : t2 150 (91 * s) = nI n := by rw [r1.2.2.1]; exact en
  have hR2 := r1.2.1
  have hG2 := r1.1
  clear r1 hG hR en
  obtain ⟨b, i, m, eb, ei, em, hbi, him, hm, h3, h2⟩ := id hR2
  refine Ok.rd (fun v4 h4 => Ok.rd (fun v6 h6 => ?_))
  rw [ei] at h4
  rw [eb] at h6
  subst h4 h6
  refine Ok.bd _ (xX12_points hG2.tt hs) ?_
  rintro _ _ ⟨rfl, rfl⟩
  rw [en2]
  refine Ok.bd (fun v u => t2 = u ∧ (v = 0 ∨ i - b = n)) ?_ ?_
  · refine Ok.ite (fun c => Ok.ret ⟨rfl, Or.inr ?_⟩) (fun _ => Ok.ret ⟨rfl, Or.inl rfl⟩)
    rw [nI_sub hbi] at c
    exact nI_inj c (by omega) (by omega)
  rintro v12 _ ⟨rfl, h12⟩
  refine Ok.rd (fun v16 h16 => ?_)
  rw [eb] at h16
  subst h16
  refine Ok.bd (fun e u => t2 = u ∧ (t2 149 10 = 2 → e = 0 ∨ (i - b = n ∧ PM n (fun k => t2 153 (b + k) - 48) ∧ ∀ k, k < n → ∃ p, p < n ∧ t2 153 (b + k) = nI (48 + p)))) ?_ ?_
  · refine Ok.loop (fun k c u => t2 = u ∧ ∃ j, c.2.2 = nI j ∧ b ≤ j ∧ j ≤ i ∧ k = i - j ∧ (t2 149 10 = 2 → c.2.1 = 0 ∨ (i - b = n ∧ ∃ S, c.1 = nI S ∧ S < 512 ∧ cnt S n = j - b ∧ (∀ p, S.testBit p = true → ∃ k, k < j - b ∧ t2 153 (b + k) = nI (48 + p)) ∧ ∀ k, k < j - b → ∃ p, p < n ∧ t2 153 (b + k) = nI (48 + p)))) ?_ (i - b) _ _ ⟨rfl, b, rfl, by omega, hbi, rfl, fun _ => h12.imp id (fun h => ⟨h, 0, rfl, by omega, by rw [cnt_0]; omega, fun p hp => by simp at hp, fun k hk => absurd hk (by omega)⟩)⟩
    intro k c u hI
    obtain ⟨rfl, j, ej, hbj, hji, rfl, hd⟩ := hI
    obtain ⟨c0, c1, c2⟩ := c
    dsimp only at ej hd
    subst ej
    unfold SX12_readsRow_35
    dsimp only
    refine Ok.rd (fun v18 h18 => ?_)
    rw [ei] at h18
    subst h18
    refine Ok.ite (fun c3 => Ok.ret ⟨rfl, fun q => (hd q).imp id (fun h => ?_)⟩) (fun c3 => ?_)
    · rw [nI_leP (by omega) (by omega)] at c3
      obtain ⟨g1, S, -, g3, g4, g5, g6⟩ := h
      refine ⟨g1, fun p hp => ?_, fun k hk => g6 k (by omega)⟩
      obtain ⟨k, hk, e⟩ := g5 p (cnt_full (by omega) p hp)
      refine ⟨k, by omega, ?_⟩
      show t2 153 (b + k) - 48 = nI p
      rw [e, sub48]
    rw [nI_leP (by omega) (by omega)] at c3
    refine Ok.rd (fun v21 h21 => Ok.ite (fun c4 => ?_) (fun c4 => Ok.ret ⟨rfl, fun q => absurd (h21.trans q) c4⟩))
    have tok := h21.symm.trans c4
    obtain ⟨d, hdd, ed⟩ := h2 tok j hbj (by omega)
    refine Ok.ck (inb_n (by omega) (by omega)) (fun _ => Ok.rd (fun v25 h25 => ?_))
    rw [nI_cl (by omega), ed] at h25
    subst h25
    rw [sub48]
    refine Ok.bd (fun v u => t2 = u ∧ (v = 0 ∨ (¬ c1 = 0 ∧ d < n ∧ ∀ S, c0 = nI S → S < 512 → S.testBit d = false))) ?_ ?_
    · refine Ok.ite (fun _ => Ok.ret ⟨rfl, Or.inl rfl⟩) (fun c5 => ?_)
      refine Ok.bd _ (xX12_points hG2.tt hs) ?_
      rintro _ _ ⟨rfl, rfl⟩
      rw [en2]
      refine Ok.ite (fun _ => Ok.ret ⟨rfl, Or.inl rfl⟩) (fun c6 => ?_)
      rw [nI_leP (by omega) (by omega)] at c6
      unfold FX12_has
      refine Ok.bd (fun v u => t2 = u ∧ (v = 0 → ¬ shr c0 (nI d) &&& 1 = 1)) (Ok.ite (fun c => Ok.ret ⟨rfl, fun h => absurd h (by decide)⟩) (fun c => Ok.ret ⟨rfl, fun _ => c⟩)) ?_
      rintro v36 _ ⟨rfl, h36⟩
      refine Ok.ite (fun c7 => Ok.ret ⟨rfl, Or.inr ⟨c5, by omega, fun S eS hS => ?_⟩⟩) (fun _ => Ok.ret ⟨rfl, Or.inl rfl⟩)
      have := h36 c7
      rw [eS, bit_n (by omega) (by omega)] at this
      cases hb : S.testBit d
      · rfl
      · rw [hb] at this
        exact absurd rfl this
    · rintro v28 _ ⟨rfl, h28⟩
      refine Ok.ret ⟨i - (j + 1), by omega, rfl, j + 1, nI_1 j, by omega, by omega, rfl, fun q => ?_⟩
      rcases h28 with h | ⟨g0, gd, gS⟩
      · exact Or.inl h
      refine Or.inr ?_
      obtain ⟨g1, S, eS, g3, g4, g5, g6⟩ := (hd q).resolve_left g0
      have hb := gS S eS g3
      refine ⟨g1, S ||| 2 ^ d, ?_, or9 g3 (pw9 (by omega)), ?_, fun p hp => ?_, fun k hk => ?_⟩
      · show c0 ||| shl 1 (nI d) = _
        rw [eS, shl_1 (by omega), nI_or]
      · rw [cnt_or hb, if_pos gd, g4]
        omega
      · rw [Nat.testBit_or, Nat.testBit_two_pow] at hp
        by_cases e : d = p
        · exact ⟨j - b, by omega, by rw [show b + (j - b) = j by omega, ed, e]⟩
        · have hp' : S.testBit p = true := by simpa [e] using hp
          obtain ⟨k, hk, h⟩ := g5 p hp'
          exact ⟨k, by omega, h⟩
      · by_cases e : k = j - b
        · exact ⟨d, gd, by rw [e, show b + (j - b) = j by omega, ed]⟩
        · exact g6 k (by omega)
  rintro e40 _ ⟨rfl, h40⟩
  refine Ok.rd (fun v44 h44 => ?_)
  refine Ok.bd (fun _ u => RS σ t2 u ∧ (¬ u 149 12 = 0 ∨ (t2 = u ∧ i - b = n ∧ PM n (fun k => t2 153 (b + k) - 48) ∧ ∀ k, k < n → ∃ p, p < n ∧ t2 153 (b + k) = nI (48 + p)))) ?_ ?_
  · refine Ok.ite (fun c => ?_) (fun _ => ?_)
    · refine Ok.ite (fun _ => ?_) (fun c2 => ?_)
      · refine Ok.bd _ (nX12_faults hG2 hR2) ?_
        rintro _ u ⟨h, hb⟩
        exact Ok.ret ⟨h, Or.inl hb⟩
      · exact Ok.ret ⟨RS.rf hG2 hR2, Or.inr ⟨rfl, (h40 (h44.symm.trans c)).resolve_left c2⟩⟩
    · refine Ok.bd _ (nX12_faults hG2 hR2) ?_
      rintro _ u ⟨h, hb⟩
      exact Ok.ret ⟨h, Or.inl hb⟩
  rintro _ u ⟨ru, hu⟩
  refine Ok.bd (fun _ w => GM σ w ∧ RD w) ?_ ?_
  · by_cases hb : u 149 12 = 0
    rotate_left
    · refine Ok.loop (fun k c w => u = w) ?_ 0 _ _ rfl
      intro k c w hI
      subst hI
      unfold SX12_readsRow_134
      refine Ok.bd _ (xX12_points ru.1.tt hs) ?_
      rintro _ _ ⟨rfl, rfl⟩
      refine Ok.ite (fun _ => Ok.ret ⟨ru.1, ru.2.1⟩) (fun _ => ?_)
      refine Ok.rd (fun v55 h55 => Ok.ite (fun c => absurd (h55.symm.trans c) hb) (fun _ => Ok.ret ⟨ru.1, ru.2.1⟩))
    · obtain ⟨rfl, hib, hP, hf⟩ := hu.resolve_left (fun q => q hb)
      have hfR : ∀ k, k < n → IsR 9 (t2 153 (b + k) - 48) := fun k hk => by
        obtain ⟨p, hp, e⟩ := hf k hk
        rw [e, sub48]
        exact ⟨p, by omega, rfl⟩
      have hfin : GM σ (stp t2 150 (rwst (t2 150) s n (fun k => t2 153 (b + k) - 48))) := hG2.row hs en2 hn hfR hP
      have hfR2 : RD (stp t2 150 (rwst (t2 150) s n (fun k => t2 153 (b + k) - 48))) := hR2.same (by rw [stp_off (by decide)]) (by rw [stp_off (by decide)]) (by rw [stp_off (by decide)]) (by rw [stp_off (by decide)]) (by rw [stp_off (by decide)])
      refine Ok.loop (fun k c w => ∃ j, c = nI j ∧ j ≤ n ∧ k = n - j ∧ w = stp t2 150 (rwst (t2 150) s j (fun k => t2 153 (b + k) - 48))) ?_ n _ _ ⟨0, rfl, by omega, rfl, ?_⟩
      · intro k c w hI
        obtain ⟨j, rfl, hj, rfl, rfl⟩ := hI
        have hTu : TY (stp t2 150 (rwst (t2 150) s j (fun k => t2 153 (b + k) - 48))) := by
          refine hG2.1.stp (fun i hi => ?_)
          unfold rwst
          by_cases q : 91 * s + 82 ≤ i ∧ i < 91 * s + 82 + j
          · rw [if_pos q, ty_st (by omega)]
            have e : i % 91 = i - 91 * s := by
              obtain ⟨d, rfl⟩ : ∃ d, i = 91 * s + d := ⟨i - 91 * s, by omega⟩
              rw [Nat.mul_add_mod, Nat.add_sub_cancel_left, Nat.mod_eq_of_lt (by omega)]
            rw [e, if_pos (by omega)]
            exact hfR _ (by omega)
          · rw [if_neg q]
            exact hG2.tt 150 i hi
        have ep : stp t2 150 (rwst (t2 150) s j (fun k => t2 153 (b + k) - 48)) 150 (91 * s) = nI n := by
          rw [stp_at]
          unfold rwst
          rw [if_neg (by omega)]
          exact en2
        unfold SX12_readsRow_134
        refine Ok.bd _ (xX12_points hTu hs) ?_
        rintro _ _ ⟨rfl, rfl⟩
        rw [ep]
        refine Ok.ite (fun c1 => Ok.ret ?_) (fun c1 => ?_)
        · rw [nI_leP (by omega) (by omega)] at c1
          rw [show j = n by omega]
          exact ⟨hfin, hfR2⟩
        · rw [nI_leP (by omega) (by omega)] at c1
          refine Ok.rd (fun v55 h55 => Ok.ite (fun _ => ?_) (fun c2 => ?_))
          · refine Ok.rd (fun v58 h58 => ?_)
            rw [stp_off (by decide), eb] at h58
            subst h58
            rw [nI_add]
            refine Ok.ck (inb_n (by omega) (by omega)) (fun g => Ok.rd (fun v hv => ?_))
            rw [nI_cl (by omega), stp_off (by decide)] at hv
            refine Ok.bd _ (xX12_puts hs (i := j) (by omega)) ?_
            rintro _ _ rfl
            refine Ok.ret ⟨n - (j + 1), by omega, j + 1, nI_1 j, by omega, rfl, ?_⟩
            rw [wr_stp]
            congr 1
            funext q
            unfold rwst
            by_cases e : q = 91 * s + 82 + j
            · subst e
              rw [pk_us, if_pos (by omega), Nat.add_sub_cancel_left, hv]
            · rw [pk_un e]
              by_cases q1 : 91 * s + 82 ≤ q ∧ q < 91 * s + 82 + j
              · rw [if_pos q1, if_pos (by omega)]
              · rw [if_neg q1, if_neg (by omega)]
          · exact absurd (h55.trans (by rw [stp_off (by decide)]; exact hb)) c2
      · rw [show rwst (t2 150) s 0 (fun k => t2 153 (b + k) - 48) = t2 150 by
          funext q
          unfold rwst
          rw [if_neg (by omega)], stp_self]
  rintro _ w ⟨hw, hRw⟩
  refine Ok.bd _ (nX12_passes hw hRw) ?_
  rintro _ x r3
  refine Ok.bd _ (nX12_isSign r3.2.1) ?_
  rintro v73 _ ⟨rfl, -⟩
  refine Ok.bd _ (nX12_must r3.1 r3.2.1) ?_
  rintro _ y r4
  exact Ok.ret ⟨r4.1, r4.2.1⟩
theorem stp_stp {t : St} {a : Nat} {f g : Nat → Int32} : stp (stp t a f) a g = stp t a g := by
  funext b
  unfold stp
  by_cases e : b = a
  · rw [if_pos e, if_pos e]
  · rw [if_neg e, if_neg e, if_neg e]
/-- a fresh net of n points -/
def fr (g : Nat → Int32) (s n : Nat) : Nat → Int32 := rwst (upd (fun k => if 91 * s ≤ k ∧ k < 91 * s + 91 then 0 else g k) (91 * s) (nI n)) s n (fun i => nI i)
theorem fr_0 {g : Nat → Int32} {s n : Nat} : fr g s n (91 * s) = nI n := by
  unfold fr rwst
  rw [if_neg (by omega), pk_us]
theorem GM.frs {σ t : St} (h : GM σ t) {s n : Nat} (hs : s < 3) (hn : n < 10) : GM σ (stp t 150 (fr (t 150) s n)) := by
  refine h.st (fun i hi => ?_) (fun s' hs' m em hm p hp => ?_)
  · unfold fr rwst
    by_cases q : 91 * s + 82 ≤ i ∧ i < 91 * s + 82 + n
    · rw [if_pos q]
      have e : i % 91 = i - 91 * s := by
        obtain ⟨d, rfl⟩ : ∃ d, i = 91 * s + d := ⟨i - 91 * s, by omega⟩
        rw [Nat.mul_add_mod, Nat.add_sub_cancel_left, Nat.mod_eq_of_lt (by omega)]
      rw [e, if_pos (by omega)]
      exact ⟨_, by omega, rfl⟩
    · rw [if_neg q]
      by_cases q1 : i = 91 * s
      · subst q1
        rw [pk_us, if_neg (by omega)]
        exact ⟨n, hn, rfl⟩
      · rw [pk_un q1]
        by_cases q2 : 91 * s ≤ i ∧ i < 91 * s + 91
        · rw [if_pos q2]
          refine ⟨0, ?_, rfl⟩
          split <;> omega
        · rw [if_neg q2]
          exact h.ts hi
  · by_cases e : s' = s
    · subst e
      rw [fr_0] at em
      have := nI_inj em (by omega) (by omega)
      subst this
      refine ⟨p, hp, ?_⟩
      unfold fr rwst
      rw [if_pos (by omega), Nat.add_sub_cancel_left]
    · have k : ∀ j, j < 91 → fr (t 150) s n (91 * s' + j) = t 150 (91 * s' + j) := fun j hj => by
        unfold fr rwst
        rw [if_neg (by omega), pk_un (by omega), if_neg (by omega)]
      have k0 := k 0 (by omega)
      rw [Nat.add_zero] at k0
      rw [k0] at em
      obtain ⟨i, hi, ei⟩ := h.pe s' hs' m em hm p hp
      exact ⟨i, hi, by rw [Nat.add_assoc, k (82 + i) (by omega), ← Nat.add_assoc]; exact ei⟩
theorem nX12_readsNet {σ t : St} (hG : GM σ t) (hR : RD t) {s : Nat} (hs : s < 3) : Ok (FX12_readsNet (nI s) t) (fun _ u => GM σ u ∧ RD u) := by
  unfold FX12_readsNet
  refine Ok.bd _ (nX12_isWord_s4 hR) ?_
  rintro v1 _ rfl
  refine Ok.bd _ (nX12_must hG hR) ?_
  rintro _ t5 r1
  refine Ok.bd _ (nX12_here r1.1 r1.2.1) ?_
  rintro v7 t8 ⟨r2, hv7, -⟩
  obtain ⟨n, h1, hn, rfl⟩ := here_W hv7
  refine Ok.bd _ (nX12_passes r2.1 r2.2.1) ?_
  rintro _ t11 r3
  have h3 := r3.1
  have hR3 := r3.2.1
  clear r1 r2 r3 hv7 hG hR
  refine Ok.bd _ (xX12_empties hs) ?_
  rintro _ _ rfl
  have e91 : (91 : Int32) * nI s = nI (91 * s) := by rw [li_91, nI_mul]
  rw [e91]
  refine Ok.ck (inb_n (by omega) (by omega)) (fun _ => Ok.wr (fun t17 e17 => ?_))
  rw [nI_cl (by omega), wr_stp] at e17
  have hgf := h3.frs hs hn
  have hRf : RD (stp t11 150 (fr (t11 150) s n)) := hR3.same (by rw [stp_off (by decide)]) (by rw [stp_off (by decide)]) (by rw [stp_off (by decide)]) (by rw [stp_off (by decide)]) (by rw [stp_off (by decide)])
  refine Ok.bd (fun _ u => u = stp t11 150 (fr (t11 150) s n)) ?_ ?_
  · refine Ok.loop (fun k c u => ∃ j, c = nI j ∧ j ≤ n ∧ k = n - j ∧ u = stp t11 150 (rwst (upd (fun k => if 91 * s ≤ k ∧ k < 91 * s + 91 then 0 else t11 150 k) (91 * s) (nI n)) s j (fun i => nI i))) ?_ n _ _ ⟨0, rfl, by omega, rfl, ?_⟩
    · intro k c u hI
      obtain ⟨j, rfl, hj, rfl, rfl⟩ := hI
      unfold SX12_readsNet_39
      refine Ok.ite (fun c1 => Ok.ret ?_) (fun c1 => ?_)
      · rw [nI_leP (by omega) (by omega)] at c1
        rw [show j = n by omega]
        rfl
      · rw [nI_leP (by omega) (by omega)] at c1
        refine Ok.bd _ (xX12_puts hs (i := j) (by omega)) ?_
        rintro _ _ rfl
        refine Ok.ret ⟨n - (j + 1), by omega, j + 1, nI_1 j, by omega, rfl, ?_⟩
        rw [wr_stp]
        congr 1
        funext q
        unfold rwst
        by_cases e : q = 91 * s + 82 + j
        · subst e
          rw [pk_us, if_pos (by omega), Nat.add_sub_cancel_left]
        · rw [pk_un e]
          by_cases q1 : 91 * s + 82 ≤ q ∧ q < 91 * s + 82 + j
          · rw [if_pos q1, if_pos (by omega)]
          · rw [if_neg q1, if_neg (by omega)]
    · rw [e17]
      congr 1
      funext q
      unfold rwst
      rw [if_neg (by omega)]
  rintro _ _ rfl
  have e0 : stp t11 150 (fr (t11 150) s n) 150 (91 * s) = nI n := by rw [stp_at, fr_0]
  generalize stp t11 150 (fr (t11 150) s n) = t24 at hgf hRf e0
  clear e17 h3 hR3
  refine Ok.bd _ (nX12_isSign hRf) ?_
  rintro v27 _ ⟨rfl, -⟩
  refine Ok.bd (fun _ u => GM σ u ∧ RD u ∧ u 150 (91 * s) = nI n) ?_ ?_
  · refine Ok.ite (fun _ => Ok.ret ⟨hgf, hRf, e0⟩) (fun _ => ?_)
    refine Ok.bd _ (nX12_nextR hgf hRf) ?_
    rintro _ t65 ⟨⟨r4, -⟩, -⟩
    refine Ok.bd _ (nX12_readsLine r4.1 r4.2.1 hs (by rw [r4.2.2.1]; exact e0) h1 hn) ?_
    rintro _ t68 r5
    refine Ok.bd (fun _ u => GM σ u ∧ RD u ∧ u 150 (91 * s) = nI n) ?_ (fun _ _ h => Ok.ret h)
    refine Ok.loop (fun k c u => (GM σ u ∧ RD u ∧ u 150 (91 * s) = nI n) ∧ k = if u 149 12 = 0 then 402 - (u 149 8).toInt.toNat else 0) ?_ _ _ _ ⟨⟨r5.1, r5.2.1, r5.2.2.1⟩, rfl⟩
    clear r4 r5
    intro k c u hI
    obtain ⟨⟨gu, ru, eu⟩, rfl⟩ := hI
    unfold SX12_readsNet_75
    refine Ok.bd _ (nX12_isSign ru) ?_
    rintro v70 _ ⟨rfl, h70⟩
    refine Ok.ite (fun _ => Ok.ret ⟨gu, ru, eu⟩) (fun c1 => ?_)
    have hb := h70.resolve_left c1
    refine Ok.bd _ (nX12_nextR gu ru) ?_
    rintro _ x ⟨⟨r6, -⟩, hx⟩
    refine Ok.bd _ (nX12_readsLine r6.1 r6.2.1 hs (by rw [r6.2.2.1]; exact eu) h1 hn) ?_
    rintro _ y r7
    refine Ok.ret ⟨_, ?_, ⟨r7.1, r7.2.1, r7.2.2.1⟩, rfl⟩
    obtain ⟨j, hj, ej⟩ := gu.tt.rd ty_m8 (by omega)
    obtain ⟨j', hj', ej'⟩ := r7.1.tt.rd ty_m8 (by omega)
    have g1 := r7.2.2.2.1
    have g2 := r7.2.2.2.2.2
    rw [if_pos hb, ej, nI_toInt (by omega)]
    rw [ej, nI_toInt (by omega)] at hx
    by_cases q : y 149 12 = 0
    · rw [if_pos q, ej', nI_toInt (by omega)]
      rw [ej', nI_toInt (by omega)] at g1
      have := hx.resolve_left (fun h => g2 h q)
      omega
    · rw [if_neg q]
      omega
  rintro _ t32 ⟨g32, r32, e32⟩
  refine Ok.bd _ (nX12_isSign r32) ?_
  rintro v35 _ ⟨rfl, -⟩
  refine Ok.bd _ (nX12_must g32 r32) ?_
  rintro _ t39 r8
  refine Ok.bd _ (nX12_isWord_s5 r8.2.1) ?_
  rintro v41 _ rfl
  refine Ok.bd (fun _ u => GM σ u ∧ RD u) ?_ ?_
  · refine Ok.ite (fun _ => Ok.ret ⟨r8.1, r8.2.1⟩) (fun _ => ?_)
    refine Ok.bd _ (nX12_readsRow r8.1 r8.2.1 hs (by rw [r8.2.2.1]; exact e32) h1 hn) ?_
    rintro _ u h
    exact Ok.ret h
  rintro _ t46 ⟨g46, r46⟩
  refine Ok.rd (fun v49 _ => Ok.ite (fun _ => ?_) (fun _ => Ok.ret ⟨g46, r46⟩))
  refine Ok.rd (fun v53 _ => Ok.ite (fun _ => Ok.ret ⟨g46, r46⟩) (fun _ => ?_))
  refine Ok.bd _ (nX12_faults g46 r46) ?_
  rintro _ u ⟨h, -⟩
  exact Ok.ret ⟨h.1, h.2.1⟩
theorem GM.tap {σ t u : St} {v : Int32} (h : GM σ t) (e : u = wr t 149 5 v) (hv : IsR 401 v) : GM (wr σ 149 5 v) u := by
  refine ⟨by rw [e]; exact h.1.wr (Or.inr (by rw [ty_m5]; exact hv)), fun b hb => ?_, ?_, ?_⟩
  · rw [e, wr_off b (by omega), wr_off b (by omega)]
    exact h.2.1 b hb
  · rw [e, wr_at, pk_us, wr_at, pk_us]
  · unfold PI
    rw [wo e (by decide), wo e (by decide), wo e (by decide)]
    exact h.2.2.2
theorem nX12_told {σ t : St} (hG : GM σ t) {a : Int32} : Ok (FX12_told a t) (fun r u => (¬ IsR 3 a ∧ t = u) ∨ (IsR 3 a ∧ GM (wr σ 149 5 0) u)) := by
  unfold FX12_told FX12_isSlot
  refine Ok.bd (fun v u => t = u ∧ ((v = 0 ∧ ¬ IsR 3 a) ∨ (v = 1 ∧ IsR 3 a))) ?_ ?_
  · refine Ok.bd _ xX12_in ?_
    rintro v _ ⟨rfl, ⟨rfl, h⟩ | ⟨rfl, h⟩⟩
    · exact Ok.ck rfl (fun _ => Ok.ret ⟨rfl, Or.inr ⟨rfl, in_R h (by decide) (by decide)⟩⟩)
    · refine Ok.ck rfl (fun _ => Ok.ret ⟨rfl, Or.inl ⟨rfl, fun q => h ?_⟩⟩)
      obtain ⟨k, hk, rfl⟩ := q
      rw [Int32.toInt_toInt64, nI_toInt (by omega)]
      have e0 : (0 : Int64).toInt = 0 := by decide
      have e2 : (2 : Int64).toInt = 2 := by decide
      rw [e0, e2]
      omega
  rintro v _ ⟨rfl, hv⟩
  refine Ok.ite (fun c => Ok.ret (Or.inl ⟨(hv.resolve_right (fun h => absurd (h.1.symm.trans c) (by decide))).2, rfl⟩)) (fun c => ?_)
  have ha := (hv.resolve_left (fun h => c h.1)).2
  obtain ⟨s, hs, rfl⟩ := id ha
  refine Ok.wr (fun t5 e5 => Ok.wr (fun t7 e7 => Ok.wr (fun t9 e9 => Ok.wr (fun t11 e11 => ?_))))
  have g5 := hG.wrU e5 (by omega) (by decide +kernel)
  have g7 := g5.wrU e7 (by omega) (by decide +kernel)
  have g9 := g7.wrT e9 (by omega) ty_m12 ⟨0, by omega, rfl⟩
  have g11 := g9.wrT e11 (by omega) ty_m8 ⟨0, by omega, rfl⟩
  have z8 : t11 149 8 = nI 0 := ws e11
  refine Ok.bd _ xX12_remembers ?_
  rintro _ _ rfl
  have g14 := g11.rem
  generalize hd : stp t11 151 (fun k => if k < 273 then t11 150 k else t11 151 k) = t14 at g14
  have z14 : t14 149 8 = nI 0 := by rw [← hd, stp_off (by decide)]; exact z8
  obtain ⟨n, hn, en⟩ := g14.tt.rd ty_m5 (by omega)
  refine Ok.bd _ (nX12_next g14 z14 en (by omega) hn) ?_
  rintro _ t17 ⟨⟨r17, -⟩, -⟩
  refine Ok.bd _ (nX12_readsNet r17.1 r17.2.1 hs) ?_
  rintro _ t20 ⟨g20, -⟩
  refine Ok.wr (fun t22 e22 => ?_)
  have g22 := g20.tap e22 ⟨0, by omega, rfl⟩
  refine Ok.rd (fun v24 _ => Ok.ite (fun _ => ?_) (fun _ => ?_))
  · refine Ok.bd _ (rX12_lines g22.tt ⟨s, hs, rfl⟩) ?_
    rintro v27 _ ⟨rfl, -⟩
    refine Ok.bd _ (nX12_done g22) ?_
    rintro r u ⟨hu, -⟩
    exact Ok.ret (Or.inr ⟨ha, hu⟩)
  · refine Ok.bd (fun _ u => u = stp t22 150 (fun k => if k < 273 then t22 151 k else t22 150 k)) ?_ ?_
    · refine Ok.loop (fun k c u => ∃ j, c = nI j ∧ j ≤ 273 ∧ k = 273 - j ∧ u = stp t22 150 (fun k => if k < j then t22 151 k else t22 150 k)) ?_ 273 _ _ ⟨0, rfl, by omega, rfl, by rw [mix_0, stp_self]⟩
      intro k c u hI
      obtain ⟨j, rfl, hj, rfl, rfl⟩ := hI
      unfold SX12_told_57
      refine Ok.ite (fun c1 => Ok.ret ?_) (fun c1 => ?_)
      · rw [li_273, nI_leP (by omega) (by omega)] at c1
        rw [show j = 273 by omega]
        rfl
      · rw [li_273, nI_leP (by omega) (by omega)] at c1
        refine Ok.ck (inb_n (by omega) (by omega)) (fun _ => Ok.rd (fun v hv => ?_))
        rw [nI_cl (by omega), stp_off (by decide)] at hv
        subst hv
        refine Ok.ck (inb_n (by omega) (by omega)) (fun _ => Ok.wr (fun w ew => ?_))
        rw [nI_cl (by omega), wr_stp, mix_1] at ew
        exact Ok.ret ⟨273 - (j + 1), by omega, j + 1, nI_1 j, by omega, rfl, ew⟩
    · rintro _ _ rfl
      refine Ok.ret (Or.inr ⟨ha, g22.st (fun i hi => ?_) (g22.2.2.2.2.1.eq (fun k hk => if_pos hk))⟩)
      rw [if_pos hi]
      have := g22.tt 151 i (by rw [ty_was, if_pos hi]; split <;> omega)
      rw [ty_was, if_pos hi] at this
      exact this
