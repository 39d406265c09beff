/-! the reference: least, best, ways, within, firsts, among, takes (wip/ext/g41.py) -/
theorem nX12_laysLeast {σ t : St} {s n : Nat} {m : Int32} (hG : GM σ t) (en : t 150 (91 * s) = nI n) (hs : s < 3) (hn : n < 10) : Ok (FX12_laysLeast (nI s) m t) (fun _ u => (GM σ u ∧ u 150 = t 150) ∧ u 149 17 = nI (2 ^ n - 1) ∧ RR n m u) := by
  unfold FX12_laysLeast
  refine Ok.bd _ (nX12_laysCosts hG en hs hn) ?_
  rintro _ t2 ⟨g2, z2, y2, h2⟩
  refine Ok.bd _ (nX12_laysRest g2 (by rw [z2]; exact en) hs hn y2) ?_
  rintro _ t5 ⟨⟨g5, z5, y5, -⟩, h5⟩
  exact Ok.ret ⟨⟨g5, z5.trans z2⟩, by rw [y5]; exact y2, h5 h2⟩
theorem xX12_keepsLeast {t : St} {m h : Int32} {S p : Nat} (hS : S < 512) (hp : p < 9) : Ok (FX12_keepsLeast m (nI S) (nI p) h t) (fun r u => t = u ∧ ((r = 1 ∧ S.testBit p = false ∧ bo m h (bo m (t 157 (9 * S + p)) (t 155 (S ||| 2 ^ p))) = t 155 0) ∨ (r = 0 ∧ ¬ (S.testBit p = false ∧ bo m h (bo m (t 157 (9 * S + p)) (t 155 (S ||| 2 ^ p))) = t 155 0)))) := by
  unfold FX12_keepsLeast
  refine Ok.bd _ (xX12_has (by omega) (by omega)) ?_
  rintro _ _ ⟨rfl, rfl⟩
  cases hb : S.testBit p
  · refine Ok.ite (fun _ => ?_) (fun c => absurd rfl c)
    rw [idx9]
    refine Ok.ck (inb_n (by omega) (by omega)) (fun _ => Ok.rd (fun v7 h7 => ?_))
    rw [nI_cl (by omega)] at h7
    have eo : nI S ||| shl 1 (nI p) = nI (S ||| 2 ^ p) := by rw [shl_1 (by omega), nI_or]
    rw [eo]
    have := or9 hS (pw9 hp)
    refine Ok.ck (inb_n (by omega) (by omega)) (fun _ => Ok.rd (fun v10 h10 => ?_))
    rw [nI_cl (by omega)] at h10
    refine Ok.bd _ xX12_both ?_
    rintro _ _ ⟨rfl, rfl⟩
    refine Ok.bd _ xX12_both ?_
    rintro _ _ ⟨rfl, rfl⟩
    refine Ok.ck (by decide) (fun _ => Ok.rd (fun v19 h19 => ?_))
    have e0 : (0 : Int32).toNatClampNeg = 0 := by decide
    rw [e0] at h19
    subst h7 h10 h19
    exact Ok.ite (fun c => Ok.ret ⟨rfl, Or.inl ⟨rfl, rfl, c⟩⟩) (fun c => Ok.ret ⟨rfl, Or.inr ⟨rfl, fun h => c h.2⟩⟩)
  · exact Ok.ite (fun c => absurd c (by decide)) (fun _ => Ok.ret ⟨rfl, Or.inr ⟨rfl, fun h => absurd h.1 (by decide)⟩⟩)
theorem bo_0 {m : Int32} {r : Nat} (hr : r < 1000000) : bo m 0 (nI r) = nI r := by
  unfold bo
  by_cases h : m = 0 ∨ m = 1 ∨ m = 5
  · rw [if_pos h]
    show (if (0 : Int32) < nI r then nI r else 0) = nI r
    by_cases q : (0 : Int32) < nI r
    · rw [if_pos q]
    · rw [if_neg q]
      rw [li_0, nI_ltP (by omega) (by omega)] at q
      rw [show r = 0 by omega]
      rfl
  · rw [if_neg h]
    exact Int32.zero_add _
theorem nX12_laysBest {σ t : St} {s n : Nat} {m : Int32} (hG : GM σ t) (en : t 150 (91 * s) = nI n) (hs : s < 3) (hn : n < 10) : Ok (FX12_laysBest (nI s) m t) (fun _ u => GM σ u ∧ u 150 = t 150 ∧ PM n (u 159)) := by
  unfold FX12_laysBest
  have hN := pow9 (k := n) (by omega)
  have hN0 := Nat.two_pow_pos n
  refine Ok.ite (fun _ => ?_) (fun _ => ?_)
  · refine Ok.bd _ (nX12_leastBand hG en hs hn) ?_
    rintro _ t2 ⟨g2, z2, hP, -⟩
    refine Ok.bd (fun _ u => GM σ u ∧ u 150 = t 150 ∧ PM n (u 159)) ?_ (fun _ _ h => Ok.ret h)
    refine Ok.loop (fun k c u => (GM σ u ∧ u 150 = t 150 ∧ u 158 = t2 158) ∧ ∃ j, c = nI j ∧ j ≤ n ∧ k = n - j ∧ ∀ q, q < j → u 159 q = t2 158 q) ?_ n _ _ ⟨⟨g2, z2, rfl⟩, 0, rfl, by omega, rfl, fun q hq => absurd hq (by omega)⟩
    intro k c u hI
    obtain ⟨⟨gu, u0, u8⟩, j, rfl, hj, rfl, hq⟩ := hI
    unfold SX12_laysBest_14
    refine Ok.bd _ (xX12_points gu.tt hs) ?_
    rintro _ _ ⟨rfl, rfl⟩
    rw [u0, en]
    refine Ok.ite (fun c1 => Ok.ret ⟨gu, u0, fun p hp => ?_⟩) (fun c1 => ?_)
    · rw [nI_leP (by omega) (by omega)] at c1
      obtain ⟨k, hk, e⟩ := hP p hp
      exact ⟨k, hk, by rw [hq k (by omega)]; exact e⟩
    · rw [nI_leP (by omega) (by omega)] at c1
      refine Ok.ck (inb_n (by omega) (by omega)) (fun _ => Ok.rd (fun v hv => ?_))
      rw [nI_cl (by omega)] at hv
      refine Ok.ck (inb_n (by omega) (by omega)) (fun _ => Ok.wr (fun w ew => ?_))
      rw [nI_cl (by omega)] at ew
      refine Ok.ret ⟨n - (j + 1), by omega, ⟨gu.wrT ew (by omega) (ty_a159 (by omega)) ?_, by rw [wo ew (by decide)]; exact u0, by rw [wo ew (by decide)]; exact u8⟩, j + 1, nI_1 j, by omega, rfl, fun q hq' => ?_⟩
      · rw [hv]
        exact gu.tt.rd (ty_a158 (by omega)) (by omega)
      · rw [ew, wr_at]
        by_cases e : q = j
        · rw [e, pk_us, hv, u8]
        · rw [pk_un e]
          exact hq q (by omega)
  · refine Ok.bd _ (nX12_laysLeast hG en hs hn) ?_
    rintro _ t3 ⟨⟨g3, z3⟩, -, hR⟩
    refine Ok.bd (fun _ u => GM σ u ∧ u 150 = t 150 ∧ PM n (u 159)) ?_ (fun _ _ h => Ok.ret h)
    refine Ok.loop (fun k c u => (GM σ u ∧ u 150 = t 150 ∧ u 155 = t3 155 ∧ u 157 = t3 157) ∧ ∃ S h i, c = (nI S, h, nI i) ∧ S < 2 ^ n ∧ cnt S n = i ∧ i ≤ n ∧ k = n - i ∧ bo m h (t3 155 S) = t3 155 0 ∧ ∀ p, S.testBit p = true → ∃ k, k < i ∧ u 159 k = nI p) ?_ n _ _ ⟨⟨g3, z3, rfl, rfl⟩, 0, 0, 0, rfl, by omega, cnt_0 n, by omega, rfl, ?_, fun p hp => by simp at hp⟩
    rotate_left
    · obtain ⟨⟨r, hr, er⟩, -⟩ := hR 0 (by omega)
      rw [er]
      exact bo_0 (by omega)
    clear g3 z3 hG
    intro k c u hI
    obtain ⟨⟨gu, u0, u5, u7⟩, S, h, i, rfl, hS, hc, hi, rfl, hb, hrow⟩ := hI
    unfold SX12_laysBest_59
    dsimp only
    refine Ok.bd _ (xX12_points gu.tt hs) ?_
    rintro _ _ ⟨rfl, rfl⟩
    rw [u0, en]
    refine Ok.ite (fun c1 => Ok.ret ⟨gu, u0, ?_⟩) (fun c1 => ?_)
    · rw [nI_leP (by omega) (by omega)] at c1
      exact inv_row hc (by omega) hrow
    rw [nI_leP (by omega) (by omega)] at c1
    have hnf : S ≠ 2 ^ n - 1 := fun e => by
      have := cnt_all (S := S) (n := n) (fun q hq => by rw [e, Nat.testBit_two_pow_sub_one]; simp; exact hq)
      omega
    obtain ⟨p0, hp0, hpb, ep⟩ := (hR S hS).2 hnf
    refine Ok.bd (fun v w => u = w ∧ ∃ q, q < n ∧ v = nI q ∧ S.testBit q = false ∧ bo m h (bo m (t3 157 (9 * S + q)) (t3 155 (S ||| 2 ^ q))) = t3 155 0) ?_ ?_
    · refine Ok.loop (fun k c w => u = w ∧ ∃ j, c = nI j ∧ j ≤ p0 ∧ k = p0 - j) ?_ p0 _ _ ⟨rfl, 0, rfl, by omega, rfl⟩
      intro k c w hI
      obtain ⟨rfl, j, rfl, hj, rfl⟩ := hI
      unfold SX12_laysBest_72
      refine Ok.bd _ (xX12_keepsLeast (by omega) (by omega)) ?_
      rw [u5, u7]
      rintro v9 _ ⟨rfl, hv⟩
      refine Ok.ite (fun c2 => ?_) (fun c2 => ?_)
      · have hx := (hv.resolve_left (fun q => absurd (q.1.symm.trans c2) (by decide))).2
        have : j ≠ p0 := fun e => by
          subst e
          exact hx ⟨hpb, by rw [← ep]; exact hb⟩
        exact Ok.ret ⟨p0 - (j + 1), by omega, rfl, j + 1, nI_1 j, by omega, rfl⟩
      · obtain ⟨-, h1, h2⟩ := hv.resolve_right (fun q => c2 q.1)
        exact Ok.ret ⟨rfl, j, by omega, rfl, h1, h2⟩
    rintro _ _ ⟨rfl, q, hq, rfl, hqb, eq⟩
    rw [idx9]
    refine Ok.ck (inb_n (by omega) (by omega)) (fun _ => Ok.rd (fun v18 h18 => ?_))
    rw [nI_cl (by omega), u7] at h18
    refine Ok.bd _ xX12_both ?_
    rintro _ _ ⟨rfl, rfl⟩
    refine Ok.ck (inb_n (by omega) (by omega)) (fun _ => Ok.wr (fun w ew => ?_))
    rw [nI_cl (by omega)] at ew
    refine Ok.ret ⟨n - (i + 1), by omega, ⟨gu.wrT ew (by omega) (ty_a159 (by omega)) ⟨q, by omega, rfl⟩, by rw [wo ew (by decide)]; exact u0, by rw [wo ew (by decide)]; exact u5, by rw [wo ew (by decide)]; exact u7⟩, S ||| 2 ^ q, bo m h v18, i + 1, ?_, or_ltn hS hq, ?_, by omega, rfl, ?_, fun p hp => ?_⟩
    · rw [shl_1 (by omega), nI_or, nI_1]
    · rw [cnt_or hqb, if_pos hq, hc]
    · rw [bo_assoc, h18]
      exact eq
    · rw [Nat.testBit_or, Nat.testBit_two_pow] at hp
      rw [ew, wr_at]
      by_cases e : q = p
      · exact ⟨i, by omega, by rw [pk_us, e]⟩
      · have hp' : S.testBit p = true := by simpa [e] using hp
        obtain ⟨k, hk, h⟩ := hrow p hp'
        exact ⟨k, by omega, by rw [pk_un (by omega)]; exact h⟩
theorem netx {t : St} (hT : TY t) {a : Int32} (h : IsR 3 a ∧ PtIn t a 0) : ∃ s n, s < 3 ∧ a = nI s ∧ t 150 (91 * s) = nI n ∧ n < 10 := by
  obtain ⟨⟨s, hs, rfl⟩, n, en, hn, -⟩ := h
  rw [nI_cl (by omega)] at en
  exact ⟨s, n, hs, rfl, en, hn⟩
theorem nX12_best {σ t : St} (hG : GM σ t) {a b c : Int32} : Ok (FX12_best a b c t) (fun r u => GM σ u ∧ True) := by
  unfold FX12_best
  refine Ok.bd _ (rX12_isPoint hG.tt) ?_
  rintro v _ ⟨rfl, -, hv⟩
  refine Ok.ite (fun _ => Ok.ret ⟨hG, True.intro⟩) (fun c1 => ?_)
  obtain ⟨s, n, k, hs, rfl, en, hn, hk, rfl⟩ := ptx hG.tt (hv.resolve_left c1)
  refine Ok.bd _ (rX12_isMeasure hG.tt) ?_
  rintro v _ ⟨rfl, -, -⟩
  refine Ok.ite (fun _ => Ok.ret ⟨hG, True.intro⟩) (fun _ => ?_)
  refine Ok.bd _ (nX12_laysBest hG en hs hn) ?_
  rintro _ u ⟨gu, -, -⟩
  exact Ok.ck (inb_n (by omega) (by omega)) (fun _ => Ok.rd (fun v _ => Ok.ret ⟨gu, True.intro⟩))
theorem nX12_takes {σ t : St} (hG : GM σ t) {a b : Int32} : Ok (FX12_takes a b t) (fun r u => GM σ u ∧ True) := by
  unfold FX12_takes
  refine Ok.bd _ (rX12_isNet hG.tt) ?_
  rintro v _ ⟨rfl, -, hv⟩
  refine Ok.ite (fun _ => Ok.ret ⟨hG, True.intro⟩) (fun c1 => ?_)
  obtain ⟨s, n, hs, rfl, en, hn⟩ := netx hG.tt (hv.resolve_left c1)
  refine Ok.bd _ (rX12_isMeasure hG.tt) ?_
  rintro v _ ⟨rfl, -, -⟩
  refine Ok.ite (fun _ => Ok.ret ⟨hG, True.intro⟩) (fun _ => ?_)
  refine Ok.bd _ (nX12_laysBest hG en hs hn) ?_
  rintro _ t2 ⟨g2, z2, hP⟩
  refine Ok.bd (fun _ u => GM σ u ∧ u 150 = t 150 ∧ PM n (u 154)) ?_ ?_
  · refine Ok.loop (fun k c u => (GM σ u ∧ u 150 = t 150 ∧ u 159 = t2 159) ∧ ∃ j, c = nI j ∧ j ≤ n ∧ k = n - j ∧ ∀ q, q < j → u 154 q = t2 159 q) ?_ n _ _ ⟨⟨g2, z2, rfl⟩, 0, rfl, by omega, rfl, fun q hq => absurd hq (by omega)⟩
    intro k c u hI
    obtain ⟨⟨gu, u0, u8⟩, j, rfl, hj, rfl, hq⟩ := hI
    unfold SX12_takes_26
    refine Ok.bd _ (xX12_points gu.tt hs) ?_
    rintro _ _ ⟨rfl, rfl⟩
    rw [u0, en]
    refine Ok.ite (fun c1 => Ok.ret ⟨gu, u0, fun p hp => ?_⟩) (fun c1 => ?_)
    · rw [nI_leP (by omega) (by omega)] at c1
      obtain ⟨k, hk, e⟩ := hP p hp
      exact ⟨k, hk, by rw [hq k (by omega)]; exact e⟩
    · rw [nI_leP (by omega) (by omega)] at c1
      refine Ok.ck (inb_n (by omega) (by omega)) (fun _ => Ok.rd (fun v hv => ?_))
      rw [nI_cl (by omega)] at hv
      refine Ok.ck (inb_n (by omega) (by omega)) (fun _ => Ok.wr (fun w ew => ?_))
      rw [nI_cl (by omega)] at ew
      refine Ok.ret ⟨n - (j + 1), by omega, ⟨gu.wrT ew (by omega) (ty_a154 (by omega)) ?_, by rw [wo ew (by decide)]; exact u0, by rw [wo ew (by decide)]; exact u8⟩, j + 1, nI_1 j, by omega, rfl, fun q hq' => ?_⟩
      · rw [hv]
        exact gu.tt.rd (ty_a159 (by omega)) (by omega)
      · rw [ew, wr_at]
        by_cases e : q = j
        · rw [e, pk_us, hv, u8]
        · rw [pk_un e]
          exact hq q (by omega)
  · rintro _ u ⟨gu, u0, hPu⟩
    refine Ok.bd _ (nX12_takesRow gu hs (by rw [u0]; exact en) hn hPu) ?_
    rintro _ w ⟨gw, -⟩
    exact Ok.ret ⟨gw, True.intro⟩
theorem nX12_rowsWithin {σ t : St} {s n : Nat} {b : Int32} (hG : GM σ t) (en : t 150 (91 * s) = nI n) (hs : s < 3) (hn : n < 10) (e17 : t 149 17 = nI (2 ^ n - 1)) : Ok (FX12_rowsWithin (nI s) b t) (fun _ u => GM σ u) := by
  unfold FX12_rowsWithin
  have hN := pow9 (k := n) (by omega)
  have hN0 := Nat.two_pow_pos n
  refine Ok.rd (fun v1 h1 => ?_)
  rw [e17] at h1
  subst h1
  refine Ok.bd (fun _ u => GM σ u) ?_ (fun _ u gu => Ok.ck (by decide) (fun _ => Ok.rd (fun v _ => Ok.ret gu)))
  refine Ok.loop (fun k c u => (GM σ u ∧ u 150 = t 150 ∧ u 149 = t 149) ∧ k ≤ 2 ^ n ∧ c = nI k - 1) ?_ (2 ^ n) _ _ ⟨⟨hG, rfl, rfl⟩, by omega, by rw [li_1, nI_sub (by omega)]⟩
  clear hG
  intro k c u hI
  obtain ⟨⟨gu, u0, u9⟩, hk, rfl⟩ := hI
  unfold SX12_rowsWithin_5
  refine Ok.ite (fun c1 => Ok.ret gu) (fun c1 => ?_)
  obtain ⟨S, rfl⟩ : ∃ S, k = S + 1 := by
    rcases Nat.eq_zero_or_pos k with q | q
    · subst q
      exact absurd (by decide) c1
    · exact ⟨k - 1, by omega⟩
  have ec : nI (S + 1) - 1 = nI S := by rw [li_1, nI_sub (by omega)]; rfl
  rw [ec]
  refine Ok.rd (fun v4 h4 => ?_)
  refine Ok.bd (fun v x => u = x) (Ok.ite (fun _ => Ok.ret rfl) (fun _ => Ok.ret rfl)) ?_
  rintro v7 _ rfl
  refine Ok.ck (inb_n (by omega) (by omega)) (fun _ => Ok.wr (fun y ey => ?_))
  have gy := gu.wrU ey (by omega) ty_u156
  refine Ok.bd (fun _ w => GM σ w ∧ w 150 = t 150 ∧ w 149 = t 149) ?_ ?_
  rotate_left
  · rintro _ w hF
    refine Ok.ret ⟨S, by omega, hF, by omega, ?_⟩
    show nI S + -1 = nI S - 1
    rw [Int32.sub_eq_add_neg]
  refine Ok.loop (fun k c w => (GM σ w ∧ w 150 = t 150 ∧ w 149 = t 149) ∧ ∃ j, c = nI j ∧ j ≤ n ∧ k = n - j) ?_ n _ _ ⟨⟨gy, by rw [wo ey (by decide)]; exact u0, by rw [wo ey (by decide)]; exact u9⟩, 0, rfl, by omega, rfl⟩
  clear gy ey y
  intro k c w hI
  obtain ⟨⟨gw, w0, w9⟩, j, rfl, hj, rfl⟩ := hI
  unfold SX12_rowsWithin_31
  refine Ok.bd _ (xX12_points gw.tt hs) ?_
  rintro _ _ ⟨rfl, rfl⟩
  rw [w0, en]
  refine Ok.ite (fun c2 => Ok.ret ⟨gw, w0, w9⟩) (fun c2 => ?_)
  rw [nI_leP (by omega) (by omega)] at c2
  have hlt := or9 (a := S) (b := 2 ^ j) (by omega) (pw9 (by omega))
  have eo : nI S ||| shl 1 (nI j) = nI (S ||| 2 ^ j) := by rw [shl_1 (by omega), nI_or]
  rw [idx9, eo]
  refine Ok.ck (inb_n (by omega) (by omega)) (fun _ => Ok.rd (fun v19 h19 => ?_))
  refine Ok.bd _ (rX12_has gw.tt) ?_
  rintro v21 _ ⟨rfl, -, -⟩
  refine Ok.bd (fun v x => w = x) ?_ ?_
  · refine Ok.ite (fun _ => ?_) (fun _ => Ok.ret rfl)
    refine Ok.ck (inb_n (by omega) (by omega)) (fun _ => Ok.rd (fun v33 _ => ?_))
    refine Ok.ite (fun _ => Ok.ret rfl) (fun _ => ?_)
    exact Ok.ck (inb_n (by omega) (by omega)) (fun _ => Ok.rd (fun v37 _ => Ok.ret rfl))
  · rintro v25 _ rfl
    refine Ok.ck (inb_n (by omega) (by omega)) (fun _ => Ok.wr (fun x ex => ?_))
    exact Ok.ret ⟨n - (j + 1), by omega, ⟨gw.wrU ex (by omega) ty_u156, by rw [wo ex (by decide)]; exact w0, by rw [wo ex (by decide)]; exact w9⟩, j + 1, nI_1 j, by omega, rfl⟩
theorem nX12_rowsOfLeast {σ t : St} {s n : Nat} (hG : GM σ t) (en : t 150 (91 * s) = nI n) (hs : s < 3) (hn : n < 10) (e17 : t 149 17 = nI (2 ^ n - 1)) : Ok (FX12_rowsOfLeast (nI s) t) (fun _ u => GM σ u) := by
  unfold FX12_rowsOfLeast
  have hN := pow9 (k := n) (by omega)
  have hN0 := Nat.two_pow_pos n
  refine Ok.rd (fun v1 h1 => ?_)
  rw [e17] at h1
  subst h1
  refine Ok.bd (fun _ u => GM σ u) ?_ (fun _ u gu => Ok.ck (by decide) (fun _ => Ok.rd (fun v _ => Ok.ret gu)))
  refine Ok.loop (fun k c u => (GM σ u ∧ u 150 = t 150 ∧ u 149 = t 149) ∧ k ≤ 2 ^ n ∧ c = nI k - 1) ?_ (2 ^ n) _ _ ⟨⟨hG, rfl, rfl⟩, by omega, by rw [li_1, nI_sub (by omega)]⟩
  clear hG
  intro k c u hI
  obtain ⟨⟨gu, u0, u9⟩, hk, rfl⟩ := hI
  unfold SX12_rowsOfLeast_5
  refine Ok.ite (fun c1 => Ok.ret gu) (fun c1 => ?_)
  obtain ⟨S, rfl⟩ : ∃ S, k = S + 1 := by
    rcases Nat.eq_zero_or_pos k with q | q
    · subst q
      exact absurd (by decide) c1
    · exact ⟨k - 1, by omega⟩
  have ec : nI (S + 1) - 1 = nI S := by rw [li_1, nI_sub (by omega)]; rfl
  rw [ec]
  refine Ok.rd (fun v4 h4 => ?_)
  refine Ok.bd (fun v x => u = x) (Ok.ite (fun _ => Ok.ret rfl) (fun _ => Ok.ret rfl)) ?_
  rintro v7 _ rfl
  refine Ok.ck (inb_n (by omega) (by omega)) (fun _ => Ok.wr (fun y ey => ?_))
  have gy := gu.wrU ey (by omega) ty_u156
  refine Ok.bd (fun _ w => GM σ w ∧ w 150 = t 150 ∧ w 149 = t 149) ?_ ?_
  rotate_left
  · rintro _ w hF
    refine Ok.ret ⟨S, by omega, hF, by omega, ?_⟩
    show nI S + -1 = nI S - 1
    rw [Int32.sub_eq_add_neg]
  refine Ok.loop (fun k c w => (GM σ w ∧ w 150 = t 150 ∧ w 149 = t 149) ∧ ∃ j, c = nI j ∧ j ≤ n ∧ k = n - j) ?_ n _ _ ⟨⟨gy, by rw [wo ey (by decide)]; exact u0, by rw [wo ey (by decide)]; exact u9⟩, 0, rfl, by omega, rfl⟩
  clear gy ey y
  intro k c w hI
  obtain ⟨⟨gw, w0, w9⟩, j, rfl, hj, rfl⟩ := hI
  unfold SX12_rowsOfLeast_30
  refine Ok.bd _ (xX12_points gw.tt hs) ?_
  rintro _ _ ⟨rfl, rfl⟩
  rw [w0, en]
  refine Ok.ite (fun c2 => Ok.ret ⟨gw, w0, w9⟩) (fun c2 => ?_)
  rw [nI_leP (by omega) (by omega)] at c2
  have hlt := or9 (a := S) (b := 2 ^ j) (by omega) (pw9 (by omega))
  have eo : nI S ||| shl 1 (nI j) = nI (S ||| 2 ^ j) := by rw [shl_1 (by omega), nI_or]
  rw [idx9, eo]
  refine Ok.ck (inb_n (by omega) (by omega)) (fun _ => Ok.rd (fun v19 h19 => ?_))
  refine Ok.bd _ (rX12_has gw.tt) ?_
  rintro v21 _ ⟨rfl, -, -⟩
  refine Ok.bd (fun v x => w = x) ?_ ?_
  · refine Ok.ite (fun _ => ?_) (fun _ => Ok.ret rfl)
    refine Ok.ck (inb_n (by omega) (by omega)) (fun _ => Ok.rd (fun v33 _ => ?_))
    refine Ok.ck (inb_n (by omega) (by omega)) (fun _ => Ok.rd (fun v36 _ => ?_))
    refine Ok.ck (inb_n (by omega) (by omega)) (fun _ => Ok.rd (fun v39 _ => ?_))
    refine Ok.ite (fun _ => ?_) (fun _ => Ok.ret rfl)
    exact Ok.ck (inb_n (by omega) (by omega)) (fun _ => Ok.rd (fun v37 _ => Ok.ret rfl))
  · rintro v25 _ rfl
    refine Ok.ck (inb_n (by omega) (by omega)) (fun _ => Ok.wr (fun x ex => ?_))
    exact Ok.ret ⟨n - (j + 1), by omega, ⟨gw.wrU ex (by omega) ty_u156, by rw [wo ex (by decide)]; exact w0, by rw [wo ex (by decide)]; exact w9⟩, j + 1, nI_1 j, by omega, rfl⟩
theorem nX12_least {σ t : St} (hG : GM σ t) {a b : Int32} : Ok (FX12_least a b t) (fun r u => GM σ u ∧ True) := by
  unfold FX12_least
  refine Ok.bd _ (rX12_isNet hG.tt) ?_
  rintro v _ ⟨rfl, -, hv⟩
  refine Ok.ite (fun _ => Ok.ret ⟨hG, True.intro⟩) (fun c1 => ?_)
  obtain ⟨s, n, hs, rfl, en, hn⟩ := netx hG.tt (hv.resolve_left c1)
  refine Ok.bd _ (rX12_isMeasure hG.tt) ?_
  rintro v _ ⟨rfl, -, -⟩
  refine Ok.ite (fun _ => Ok.ret ⟨hG, True.intro⟩) (fun _ => ?_)
  refine Ok.ite (fun _ => ?_) (fun _ => ?_)
  · refine Ok.bd _ (nX12_leastBand hG en hs hn) ?_
    rintro _ u ⟨gu, -⟩
    exact Ok.ret ⟨gu, True.intro⟩
  · refine Ok.bd _ (nX12_laysLeast hG en hs hn) ?_
    rintro _ u ⟨⟨gu, -⟩, -⟩
    exact Ok.ck (by decide) (fun _ => Ok.rd (fun v _ => Ok.ret ⟨gu, True.intro⟩))
theorem nX12_ways {σ t : St} (hG : GM σ t) {a b : Int32} : Ok (FX12_ways a b t) (fun r u => GM σ u ∧ True) := by
  unfold FX12_ways
  refine Ok.bd _ (rX12_isNet hG.tt) ?_
  rintro v _ ⟨rfl, -, hv⟩
  refine Ok.ite (fun _ => Ok.ret ⟨hG, True.intro⟩) (fun c1 => ?_)
  obtain ⟨s, n, hs, rfl, en, hn⟩ := netx hG.tt (hv.resolve_left c1)
  refine Ok.bd _ (rX12_isMeasure hG.tt) ?_
  rintro v _ ⟨rfl, -, -⟩
  refine Ok.ite (fun _ => Ok.ret ⟨hG, True.intro⟩) (fun _ => ?_)
  refine Ok.ite (fun _ => ?_) (fun _ => ?_)
  · refine Ok.bd _ (nX12_leastBand hG en hs hn) ?_
    rintro _ u ⟨gu, u0, -, v, hv, rfl⟩
    refine Ok.bd _ (nX12_rowsOfBand gu (by rw [u0]; exact en) hs hn (by omega) rfl) ?_
    rintro _ w ⟨gw, -⟩
    exact Ok.ret ⟨gw, True.intro⟩
  · refine Ok.bd _ (nX12_laysLeast hG en hs hn) ?_
    rintro _ u ⟨⟨gu, u0⟩, u7, -⟩
    refine Ok.bd _ (rX12_isGreatest gu.tt) ?_
    rintro v14 _ ⟨rfl, -⟩
    refine Ok.ite (fun _ => ?_) (fun _ => ?_)
    · refine Ok.bd _ (nX12_rowsOfLeast gu (by rw [u0]; exact en) hs hn u7) ?_
      rintro _ w gw
      exact Ok.ret ⟨gw, True.intro⟩
    · refine Ok.ck (by decide) (fun _ => Ok.rd (fun v _ => ?_))
      refine Ok.bd _ (nX12_rowsWithin gu (by rw [u0]; exact en) hs hn u7) ?_
      rintro _ w gw
      exact Ok.ret ⟨gw, True.intro⟩
theorem nX12_firsts {σ t : St} (hG : GM σ t) {a b : Int32} : Ok (FX12_firsts a b t) (fun r u => GM σ u ∧ True) := by
  unfold FX12_firsts
  refine Ok.bd _ (rX12_isNet hG.tt) ?_
  rintro v _ ⟨rfl, -, hv⟩
  refine Ok.ite (fun _ => Ok.ret ⟨hG, True.intro⟩) (fun c1 => ?_)
  obtain ⟨s, n, hs, rfl, en, hn⟩ := netx hG.tt (hv.resolve_left c1)
  refine Ok.bd _ (rX12_isMeasure hG.tt) ?_
  rintro v _ ⟨rfl, -, -⟩
  refine Ok.ite (fun _ => Ok.ret ⟨hG, True.intro⟩) (fun _ => ?_)
  refine Ok.ite (fun _ => ?_) (fun _ => ?_)
  · refine Ok.bd _ (nX12_leastBand hG en hs hn) ?_
    rintro _ u ⟨gu, u0, -, v, hv, rfl⟩
    refine Ok.bd _ (nX12_rowsOfBand gu (by rw [u0]; exact en) hs hn (by omega) rfl) ?_
    rintro _ w ⟨gw, -⟩
    exact Ok.rd (fun v _ => Ok.ret ⟨gw, True.intro⟩)
  · refine Ok.bd _ (nX12_laysLeast hG en hs hn) ?_
    rintro _ u ⟨⟨gu, u0⟩, -⟩
    refine Ok.bd (fun _ w => u = w) ?_ (fun _ w h => by subst h; exact Ok.ret ⟨gu, True.intro⟩)
    refine Ok.loop (fun k c w => u = w ∧ ∃ j, c.2 = nI j ∧ j ≤ 9 ∧ k = 9 - j) ?_ 9 _ _ ⟨rfl, 0, rfl, by omega, rfl⟩
    intro k c w hI
    obtain ⟨rfl, j, ej, hj, rfl⟩ := hI
    obtain ⟨c0, c9⟩ := c
    dsimp only at ej
    subst ej
    unfold SX12_firsts_51
    dsimp only
    refine Ok.bd _ (rX12_points gu.tt ⟨s, hs, rfl⟩) ?_
    rintro _ _ ⟨rfl, n2, hn2, rfl⟩
    refine Ok.ite (fun _ => Ok.ret rfl) (fun c2 => ?_)
    rw [nI_leP (by omega) (by omega)] at c2
    refine Ok.bd _ (rX12_keepsLeast gu.tt ⟨0, by omega, rfl⟩ ⟨j, by omega, rfl⟩) ?_
    rintro v18 _ ⟨rfl, -⟩
    refine Ok.bd (fun v w => u = w) (Ok.ite (fun _ => Ok.ret rfl) (fun _ => Ok.ret rfl)) ?_
    rintro v22 _ rfl
    exact Ok.ret ⟨9 - (j + 1), by omega, rfl, j + 1, nI_1 j, by omega, rfl⟩
theorem mn_9 {c : Int32} (h : (0 : Int32) ≤ c) : ∃ k, k < 100 ∧ mnI c 9 = nI k := by
  have h0 : ¬ c < 0 := fun q => by
    rw [Int32.lt_iff_toInt_lt] at q
    rw [Int32.le_iff_toInt_le] at h
    omega
  obtain ⟨j, hj, rfl⟩ := nI_of h0
  show ∃ k, k < 100 ∧ (if (9 : Int32) < nI j then 9 else nI j) = nI k
  by_cases q : (9 : Int32) < nI j
  · exact ⟨9, by omega, if_pos q⟩
  · rw [if_neg q]
    rw [li_9, nI_ltP (by omega) (by omega)] at q
    exact ⟨j, by omega, rfl⟩
theorem nX12_within {σ t : St} (hG : GM σ t) {a b c : Int32} : Ok (FX12_within a b c t) (fun r u => GM σ u ∧ True) := by
  unfold FX12_within
  refine Ok.bd _ (rX12_isNet hG.tt) ?_
  rintro v _ ⟨rfl, -, hv⟩
  refine Ok.ite (fun _ => Ok.ret ⟨hG, True.intro⟩) (fun c1 => ?_)
  obtain ⟨s, n, hs, rfl, en, hn⟩ := netx hG.tt (hv.resolve_left c1)
  refine Ok.bd _ (rX12_isMeasure hG.tt) ?_
  rintro v _ ⟨rfl, -, -⟩
  refine Ok.ite (fun _ => Ok.ret ⟨hG, True.intro⟩) (fun _ => ?_)
  have fin : (0 : Int32) ≤ c → Ok (if b = (2 : Int32) then (bnd (FX12_rowsOfBand (nI s) (mnI c (9 : Int32)) (0 : Int32) t) (fun v21 t22 => (some (v21, t22)))) else (bnd (FX12_laysCosts (nI s) b t) (fun v14 t15 => (bnd (FX12_rowsWithin (nI s) (mnI c (999999 : Int32)) t15) (fun v17 t18 => (some (v17, t18))))))) (fun r u => GM σ u ∧ True) := fun hc => by
    refine Ok.ite (fun _ => ?_) (fun _ => ?_)
    · obtain ⟨k, hk, ek⟩ := mn_9 hc
      rw [ek]
      refine Ok.bd _ (nX12_rowsOfBand hG en hs hn hk rfl) ?_
      rintro _ w ⟨gw, -⟩
      exact Ok.ret ⟨gw, True.intro⟩
    · refine Ok.bd _ (nX12_laysCosts hG en hs hn) ?_
      rintro _ u ⟨gu, u0, u7, -⟩
      refine Ok.bd _ (nX12_rowsWithin gu (by rw [u0]; exact en) hs hn u7) ?_
      rintro _ w gw
      exact Ok.ret ⟨gw, True.intro⟩
  refine Ok.ite (fun _ => Ok.ite (fun hc => fin hc) (fun _ => Ok.ret ⟨hG, True.intro⟩)) (fun _ => ?_)
  refine Ok.bd _ (rX12_isGreatest hG.tt) ?_
  rintro v26 _ ⟨rfl, -⟩
  refine Ok.ite (fun _ => Ok.ret ⟨hG, True.intro⟩) (fun _ => ?_)
  exact Ok.ite (fun hc => fin hc) (fun _ => Ok.ret ⟨hG, True.intro⟩)
theorem nX12_among {σ t : St} (hG : GM σ t) {a b c : Int32} : Ok (FX12_among a b c t) (fun r u => GM σ u ∧ True) := by
  unfold FX12_among
  refine Ok.bd _ (rX12_isNet hG.tt) ?_
  rintro v _ ⟨rfl, -, hv⟩
  refine Ok.ite (fun _ => Ok.ret ⟨hG, True.intro⟩) (fun c1 => ?_)
  obtain ⟨s, n, hs, rfl, en, hn⟩ := netx hG.tt (hv.resolve_left c1)
  refine Ok.bd _ (rX12_isMeasure hG.tt) ?_
  rintro v _ ⟨rfl, -, -⟩
  refine Ok.ite (fun _ => Ok.ret ⟨hG, True.intro⟩) (fun _ => ?_)
  refine Ok.bd _ (rX12_isGreatest hG.tt) ?_
  rintro v11 _ ⟨rfl, -⟩
  refine Ok.ite (fun _ => Ok.ret ⟨hG, True.intro⟩) (fun _ => ?_)
  refine Ok.bd _ (rX12_isMeasure hG.tt) ?_
  rintro v16 _ ⟨rfl, -, -⟩
  refine Ok.ite (fun _ => Ok.ret ⟨hG, True.intro⟩) (fun _ => Ok.ite (fun _ => Ok.ret ⟨hG, True.intro⟩) (fun _ => ?_))
  refine Ok.bd _ (nX12_laysLeast hG en hs hn) ?_
  rintro _ u ⟨⟨gu, u0⟩, u7, -⟩
  have hN := pow9 (k := n) (by omega)
  have hN0 := Nat.two_pow_pos n
  refine Ok.ck (by decide) (fun _ => Ok.rd (fun v26 _ => ?_))
  refine Ok.bd (fun _ w => GM σ w ∧ w 150 = t 150 ∧ w 149 17 = nI (2 ^ n - 1)) ?_ ?_
  rotate_left
  · rintro _ w ⟨gw, w0, w7⟩
    refine Ok.bd _ (nX12_laysRest gw (by rw [w0]; exact en) hs hn w7) ?_
    rintro _ x ⟨⟨gx, -⟩, -⟩
    exact Ok.ck (by decide) (fun _ => Ok.rd (fun v _ => Ok.ret ⟨gx, True.intro⟩))
  refine Ok.loop (fun k c u => (GM σ u ∧ u 150 = t 150 ∧ u 149 17 = nI (2 ^ n - 1)) ∧ ∃ S, c = nI S ∧ S ≤ 2 ^ n ∧ k = 2 ^ n - S) ?_ (2 ^ n) _ _ ⟨⟨gu, u0, u7⟩, 0, rfl, by omega, rfl⟩
  clear gu u0 u7 hG
  intro k c u hI
  obtain ⟨⟨gu, u0, u7⟩, S, rfl, hS, rfl⟩ := hI
  unfold SX12_among_54
  refine Ok.rd (fun v6 h6 => ?_)
  rw [u7] at h6
  subst h6
  refine Ok.ite (fun c1 => Ok.ret ⟨gu, u0, u7⟩) (fun c1 => ?_)
  rw [nI_ltP (by omega) (by omega)] at c1
  refine Ok.bd (fun _ w => (GM σ w ∧ w 150 = t 150 ∧ w 149 17 = nI (2 ^ n - 1))) ?_ (fun _ w h => Ok.ret ⟨2 ^ n - (S + 1), by omega, h, S + 1, nI_1 S, by omega, rfl⟩)
  refine Ok.loop (fun k c w => (GM σ w ∧ w 150 = t 150 ∧ w 149 17 = nI (2 ^ n - 1)) ∧ ∃ j, c = nI j ∧ j ≤ n ∧ k = n - j) ?_ n _ _ ⟨⟨gu, u0, u7⟩, 0, rfl, by omega, rfl⟩
  clear gu u0 u7
  intro k c w hI
  obtain ⟨⟨gw, w0, w7⟩, j, rfl, hj, rfl⟩ := hI
  unfold SX12_among_66
  refine Ok.bd _ (xX12_points gw.tt hs) ?_
  rintro _ _ ⟨rfl, rfl⟩
  rw [w0, en]
  refine Ok.ite (fun c2 => Ok.ret ⟨gw, w0, w7⟩) (fun c2 => ?_)
  rw [nI_leP (by omega) (by omega)] at c2
  rw [idx9]
  refine Ok.ck (inb_n (by omega) (by omega)) (fun _ => Ok.rd (fun v36 _ => ?_))
  refine Ok.bd (fun v x => w = x) ?_ ?_
  · refine Ok.ite (fun _ => ?_) (fun _ => Ok.ret rfl)
    refine Ok.bd _ (rX12_cost gw.tt ⟨s, hs, rfl⟩ ⟨j, by omega, rfl⟩) ?_
    rintro v _ ⟨rfl, -⟩
    exact Ok.ret rfl
  rintro v39 _ rfl
  refine Ok.ck (inb_n (by omega) (by omega)) (fun _ => Ok.wr (fun x ex => ?_))
  exact Ok.ret ⟨n - (j + 1), by omega, ⟨gw.wrU ex (by omega) ty_u157, by rw [wo ex (by decide)]; exact w0, by rw [wo ex (by decide)]; exact w7⟩, j + 1, nI_1 j, by omega, rfl⟩
