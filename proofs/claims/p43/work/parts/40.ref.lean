/-! the reference: what is left to pay, set by set (wip/ext/g40.py) -/
def bo (m a b : Int32) : Int32 := if m = 0 ∨ m = 1 ∨ m = 5 then mxI a b else a + b
theorem xX12_isGreatest {t : St} {m : Int32} : Ok (FX12_isGreatest m t) (fun r u => t = u ∧ ((r = 1 ∧ (m = 0 ∨ m = 1 ∨ m = 5)) ∨ (r = 0 ∧ ¬ (m = 0 ∨ m = 1 ∨ m = 5)))) := by
  unfold FX12_isGreatest
  by_cases h0 : m = 0
  · subst h0
    exact Ok.ret ⟨rfl, Or.inl ⟨rfl, Or.inl rfl⟩⟩
  by_cases h1 : m = 1
  · subst h1
    exact Ok.ret ⟨rfl, Or.inl ⟨rfl, Or.inr (Or.inl rfl)⟩⟩
  by_cases h5 : m = 5
  · subst h5
    exact Ok.ret ⟨rfl, Or.inl ⟨rfl, Or.inr (Or.inr rfl)⟩⟩
  have hn : ¬ (m = 0 ∨ m = 1 ∨ m = 5) := by
    rintro (h | h | h)
    · exact h0 h
    · exact h1 h
    · exact h5 h
  rw [if_neg h0, if_neg h1, if_neg h5]
  exact Ok.ret ⟨rfl, Or.inr ⟨rfl, hn⟩⟩
theorem xX12_both {t : St} {m a b : Int32} : Ok (FX12_both m a b t) (fun r u => t = u ∧ r = bo m a b) := by
  unfold FX12_both
  refine Ok.bd _ xX12_isGreatest ?_
  rintro v _ ⟨rfl, ⟨rfl, h⟩ | ⟨rfl, h⟩⟩
  · refine Ok.ite (fun c => absurd c (by decide)) (fun _ => Ok.ret ⟨rfl, ?_⟩)
    unfold bo
    rw [if_pos h]
  · refine Ok.ite (fun _ => Ok.ret ⟨rfl, ?_⟩) (fun c => absurd rfl c)
    unfold bo
    rw [if_neg h]
theorem mx_int (a b : Int32) : (mxI a b).toInt = max a.toInt b.toInt := by
  show (if a < b then b else a).toInt = _
  by_cases h : a < b
  · rw [if_pos h]
    rw [Int32.lt_iff_toInt_lt] at h
    omega
  · rw [if_neg h]
    rw [Int32.lt_iff_toInt_lt] at h
    omega
theorem bo_assoc (m a b c : Int32) : bo m (bo m a b) c = bo m a (bo m b c) := by
  unfold bo
  by_cases h : m = 0 ∨ m = 1 ∨ m = 5
  · simp only [if_pos h]
    apply Int32.toInt_inj.mp
    rw [mx_int, mx_int, mx_int, mx_int]
    omega
  · simp only [if_neg h]
    exact Int32.add_assoc a b c
theorem bo_n {m : Int32} {a b : Nat} (ha : a < 1000000) (hb : b < 1000000) : ∃ r, r ≤ a + b ∧ bo m (nI a) (nI b) = nI r := by
  unfold bo
  by_cases h : m = 0 ∨ m = 1 ∨ m = 5
  · rw [if_pos h]
    show ∃ r, r ≤ a + b ∧ (if nI a < nI b then nI b else nI a) = nI r
    by_cases q : nI a < nI b
    · exact ⟨b, by omega, if_pos q⟩
    · exact ⟨a, by omega, if_neg q⟩
  · rw [if_neg h]
    exact ⟨a + b, by omega, nI_add a b⟩
theorem or_gt {S p : Nat} (h : S.testBit p = false) : S < S ||| 2 ^ p := by
  have h1 : S ≤ S ||| 2 ^ p := Nat.left_le_or
  have h2 : S ≠ S ||| 2 ^ p := fun e => by
    have := congrArg (fun x => x.testBit p) e
    simp only [Nat.testBit_or, Nat.testBit_two_pow, h] at this
    simp at this
  omega
theorem or_ltn {S p n : Nat} (hS : S < 2 ^ n) (hp : p < n) : S ||| 2 ^ p < 2 ^ n := Nat.or_lt_two_pow hS (Nat.pow_lt_pow_right (by omega) hp)
theorem all_full {S n : Nat} (hS : S < 2 ^ n) (h : ∀ q, q < n → S.testBit q = true) : S = 2 ^ n - 1 := by
  apply Nat.eq_of_testBit_eq
  intro i
  rw [Nat.testBit_two_pow_sub_one]
  by_cases q : i < n
  · rw [h i q]
    simp [q]
  · rw [Nat.testBit_lt_two_pow (Nat.lt_of_lt_of_le hS (Nat.pow_le_pow_right (by omega) (show n ≤ i by omega)))]
    simp [q]
theorem cnt_lt {S p n : Nat} (hp : p < n) (h : S.testBit p = false) : cnt S n < n := by
  rcases Nat.lt_or_ge (cnt S n) n with q | q
  · exact q
  · have := cnt_full (S := S) (n := n) (by have := cnt_le (S := S) (n := n); omega) p hp
    rw [h] at this
    exact absurd this (by decide)
def HC (n : Nat) (t : St) : Prop := ∀ S p, S < 2 ^ n → p < n → S.testBit p = false → ∃ c, c < 10000 ∧ t 157 (9 * S + p) = nI c
theorem idx9 (S p : Nat) : (9 : Int32) * nI S + nI p = nI (9 * S + p) := by rw [li_9, nI_mul, nI_add]
theorem nX12_laysCosts {σ t : St} {s n : Nat} {m : Int32} (hG : GM σ t) (en : t 150 (91 * s) = nI n) (hs : s < 3) (hn : n < 10) : Ok (FX12_laysCosts (nI s) m t) (fun _ u => GM σ u ∧ u 150 = t 150 ∧ u 149 17 = nI (2 ^ n - 1) ∧ HC n u) := by
  unfold FX12_laysCosts
  have hN := pow9 (k := n) (by omega)
  have hN0 := Nat.two_pow_pos n
  refine Ok.bd _ (xX12_points hG.tt hs) ?_
  rintro _ _ ⟨rfl, rfl⟩
  rw [en]
  have ef : shl 1 (nI n) - 1 = nI (2 ^ n - 1) := by rw [shl_1 (by omega), li_1, nI_sub (by omega)]
  rw [ef]
  refine Ok.wr (fun t4 e4 => ?_)
  have g4 := hG.wrT e4 (by omega) ty_m17 ⟨2 ^ n - 1, by omega, rfl⟩
  have z4 : t4 150 = t 150 := wo e4 (by decide)
  have y4 : t4 149 17 = nI (2 ^ n - 1) := ws e4
  refine Ok.bd (fun _ u => GM σ u ∧ u 150 = t 150 ∧ u 149 17 = nI (2 ^ n - 1) ∧ HC n u) ?_ (fun _ _ h => Ok.ret h)
  refine Ok.loop (fun k c u => (GM σ u ∧ u 150 = t 150 ∧ u 149 17 = nI (2 ^ n - 1)) ∧ ∃ S, c = nI S ∧ S ≤ 2 ^ n ∧ k = 2 ^ n - S ∧ ∀ S' p, S' < S → p < n → S'.testBit p = false → ∃ c, c < 10000 ∧ u 157 (9 * S' + p) = nI c) ?_ (2 ^ n) _ _ ⟨⟨g4, z4, y4⟩, 0, rfl, by omega, rfl, fun _ _ h => absurd h (by omega)⟩
  clear g4 z4 y4 e4 t4 hG
  intro k c u hI
  obtain ⟨⟨gu, u0, u7⟩, S, rfl, hS, rfl, hH⟩ := hI
  unfold SX12_laysCosts_15
  refine Ok.rd (fun v6 h6 => ?_)
  rw [u7] at h6
  subst h6
  refine Ok.ite (fun c1 => Ok.ret ⟨gu, u0, u7, ?_⟩) (fun c1 => ?_)
  · rw [nI_ltP (by omega) (by omega)] at c1
    intro S' p h1 h2 h3
    exact hH S' p (by omega) h2 h3
  rw [nI_ltP (by omega) (by omega)] at c1
  refine Ok.bd (fun _ w => (GM σ w ∧ w 150 = t 150 ∧ w 149 17 = nI (2 ^ n - 1)) ∧ ∀ S' p, S' < S + 1 → p < n → S'.testBit p = false → ∃ c, c < 10000 ∧ w 157 (9 * S' + p) = nI c) ?_ (fun _ w h => Ok.ret ⟨2 ^ n - (S + 1), by omega, h.1, S + 1, nI_1 S, by omega, rfl, h.2⟩)
  refine Ok.loop (fun k c w => (GM σ w ∧ w 150 = t 150 ∧ w 149 17 = nI (2 ^ n - 1)) ∧ ∃ j, c = nI j ∧ j ≤ n ∧ k = n - j ∧ ∀ S' p, (S' < S ∨ (S' = S ∧ p < j)) → p < n → S'.testBit p = false → ∃ c, c < 10000 ∧ w 157 (9 * S' + p) = nI c) ?_ n _ _ ⟨⟨gu, u0, u7⟩, 0, rfl, by omega, rfl, fun S' p h => hH S' p (by omega)⟩
  clear gu u0 u7 hH
  intro k c w hI
  obtain ⟨⟨gw, w0, w7⟩, j, rfl, hj, rfl, hH⟩ := hI
  unfold SX12_laysCosts_26
  refine Ok.bd _ (xX12_points gw.tt hs) ?_
  rintro _ _ ⟨rfl, rfl⟩
  rw [w0, en]
  refine Ok.ite (fun c2 => Ok.ret ⟨⟨gw, w0, w7⟩, fun S' p h1 h2 h3 => ?_⟩) (fun c2 => ?_)
  · rw [nI_leP (by omega) (by omega)] at c2
    exact hH S' p (by omega) h2 h3
  rw [nI_leP (by omega) (by omega)] at c2
  refine Ok.bd _ (xX12_has (by omega) (by omega)) ?_
  rintro _ _ ⟨rfl, rfl⟩
  refine Ok.bd (fun v x => w = x ∧ (S.testBit j = false → IsR 10000 v)) ?_ ?_
  · cases hb : S.testBit j
    · refine Ok.ite (fun _ => ?_) (fun c => absurd rfl c)
      refine Ok.bd _ (bX12_cost gw.tt ⟨s, hs, rfl⟩ ⟨j, by omega, rfl⟩) ?_
      rintro v _ ⟨rfl, h⟩
      exact Ok.ret ⟨rfl, fun _ => h⟩
    · exact Ok.ite (fun c => absurd c (by decide)) (fun _ => Ok.ret ⟨rfl, fun h => absurd h (by decide)⟩)
  rintro v17 _ ⟨rfl, h17⟩
  rw [idx9]
  refine Ok.ck (inb_n (by omega) (by omega)) (fun _ => Ok.wr (fun x ex => ?_))
  rw [nI_cl (by omega)] at ex
  refine Ok.ret ⟨n - (j + 1), by omega, ⟨gw.wrU ex (by omega) ty_u157, by rw [wo ex (by decide)]; exact w0, by rw [wo ex (by decide)]; exact w7⟩, j + 1, nI_1 j, by omega, rfl, fun S' p h1 h2 h3 => ?_⟩
  rw [ex, wr_at]
  by_cases e : 9 * S' + p = 9 * S + j
  · have e1 : S' = S := by omega
    have e2 : p = j := by omega
    subst e1 e2
    rw [pk_us]
    obtain ⟨c, hc, e⟩ := h17 h3
    exact ⟨c, hc, e⟩
  · rw [pk_un e]
    exact hH S' p (by omega) h2 h3
/-- what is left from a set on -/
def RB (n : Nat) (u : St) (S : Nat) : Prop := ∃ r, r ≤ 10000 * (n - cnt S n) ∧ u 155 S = nI r
def RT (n : Nat) (m : Int32) (u : St) (S : Nat) : Prop := ∃ p, p < n ∧ S.testBit p = false ∧ u 155 S = bo m (u 157 (9 * S + p)) (u 155 (S ||| 2 ^ p))
def RR (n : Nat) (m : Int32) (u : St) : Prop := ∀ S, S < 2 ^ n → RB n u S ∧ (S ≠ 2 ^ n - 1 → RT n m u S)
theorem nX12_laysRest {σ t : St} {s n : Nat} {m : Int32} (hG : GM σ t) (en : t 150 (91 * s) = nI n) (hs : s < 3) (hn : n < 10) (e17 : t 149 17 = nI (2 ^ n - 1)) : Ok (FX12_laysRest (nI s) m t) (fun _ u => (GM σ u ∧ u 150 = t 150 ∧ u 149 = t 149 ∧ u 157 = t 157) ∧ (HC n t → RR n m u)) := by
  unfold FX12_laysRest
  have hN := pow9 (k := n) (by omega)
  have hN0 := Nat.two_pow_pos n
  refine Ok.rd (fun v1 h1 => ?_)
  rw [e17] at h1
  subst h1
  refine Ok.bd (fun _ u => (GM σ u ∧ u 150 = t 150 ∧ u 149 = t 149 ∧ u 157 = t 157) ∧ (HC n t → RR n m u)) ?_ (fun _ _ h => Ok.ret h)
  refine Ok.loop (fun k c u => (GM σ u ∧ u 150 = t 150 ∧ u 149 = t 149 ∧ u 157 = t 157) ∧ k ≤ 2 ^ n ∧ c = nI k - 1 ∧ (HC n t → ∀ S, k ≤ S → S < 2 ^ n → RB n u S ∧ (S ≠ 2 ^ n - 1 → RT n m u S))) ?_ (2 ^ n) _ _ ⟨⟨hG, rfl, rfl, rfl⟩, by omega, by rw [li_1, nI_sub (by omega)], fun _ S h1 h2 => absurd h1 (by omega)⟩
  clear hG
  intro k c u hI
  obtain ⟨⟨gu, u0, u9, u7⟩, hk, rfl, hH⟩ := hI
  unfold SX12_laysRest_5
  refine Ok.ite (fun c1 => Ok.ret ⟨⟨gu, u0, u9, u7⟩, fun hc S hS => hH hc S ?_ hS⟩) (fun c1 => ?_)
  · rcases Nat.eq_zero_or_pos k with q | q
    · omega
    · rw [li_1, nI_sub (by omega), li_0, nI_ltP (by omega) (by omega)] at c1
      omega
  obtain ⟨S, rfl⟩ : ∃ S, k = S + 1 := by
    rcases Nat.eq_zero_or_pos k with q | q
    · subst q
      exact absurd (by decide) c1
    · exact ⟨k - 1, by omega⟩
  have ec : nI (S + 1) - 1 = nI S := by rw [li_1, nI_sub (by omega)]; rfl
  rw [ec]
  refine Ok.rd (fun v4 h4 => ?_)
  rw [u9, e17] at h4
  subst h4
  refine Ok.bd (fun v x => u = x ∧ ((S = 2 ^ n - 1 ∧ v = 0) ∨ (S ≠ 2 ^ n - 1 ∧ v = 1000000))) ?_ ?_
  · refine Ok.ite (fun c => Ok.ret ⟨rfl, Or.inl ⟨nI_inj c (by omega) (by omega), rfl⟩⟩) (fun c => Ok.ret ⟨rfl, Or.inr ⟨fun e => c (by rw [e]), rfl⟩⟩)
  rintro v7 _ ⟨rfl, h7⟩
  refine Ok.ck (inb_n (by omega) (by omega)) (fun _ => Ok.wr (fun y ey => ?_))
  rw [nI_cl (by omega)] at ey
  have gy := gu.wrU ey (by omega) ty_u155
  have y5 : ∀ X, X ≠ S → y 155 X = u 155 X := fun X hX => by rw [ey, wr_at, pk_un hX]
  have yS : y 155 S = v7 := by rw [ey, wr_at, pk_us]
  refine Ok.bd (fun _ w => (GM σ w ∧ w 150 = t 150 ∧ w 149 = t 149 ∧ w 157 = t 157) ∧ (∀ X, X ≠ S → w 155 X = u 155 X) ∧ (HC n t → RB n w S ∧ (S ≠ 2 ^ n - 1 → RT n m w S))) ?_ ?_
  rotate_left
  · rintro _ w ⟨hF, w5, hw⟩
    refine Ok.ret ⟨S, by omega, hF, by omega, ?_, fun hc X h1 h2 => ?_⟩
    · show nI S + -1 = nI S - 1
      rw [Int32.sub_eq_add_neg]
    · by_cases e : X = S
      · subst e
        exact hw hc
      · obtain ⟨⟨r, hr, er⟩, h4⟩ := hH hc X (by omega) h2
        refine ⟨⟨r, hr, by rw [w5 X e]; exact er⟩, fun q => ?_⟩
        obtain ⟨p, hp, hb, e5⟩ := h4 q
        refine ⟨p, hp, hb, ?_⟩
        have := or_gt hb
        rw [w5 X e, w5 _ (by omega), hF.2.2.2, e5, u7]
  refine Ok.loop (fun k c w => (GM σ w ∧ w 150 = t 150 ∧ w 149 = t 149 ∧ w 157 = t 157) ∧ (∀ X, X ≠ S → w 155 X = u 155 X) ∧ ∃ j, c = nI j ∧ j ≤ n ∧ k = n - j ∧ (HC n t → ((w 155 S = v7 ∧ ∀ q, q < j → S.testBit q = true) ∨ (RB n w S ∧ RT n m w S)))) ?_ n _ _ ⟨⟨gy, by rw [wo ey (by decide)]; exact u0, by rw [wo ey (by decide)]; exact u9, by rw [wo ey (by decide)]; exact u7⟩, y5, 0, rfl, by omega, rfl, fun _ => Or.inl ⟨yS, fun q hq => absurd hq (by omega)⟩⟩
  clear gy y5 yS ey y
  intro k c w hI
  obtain ⟨⟨gw, w0, w9, w7⟩, w5, j, rfl, hj, rfl, hD⟩ := hI
  unfold SX12_laysRest_33
  refine Ok.bd _ (xX12_points gw.tt hs) ?_
  rintro _ _ ⟨rfl, rfl⟩
  rw [w0, en]
  refine Ok.ite (fun c2 => Ok.ret ⟨⟨gw, w0, w9, w7⟩, w5, fun hc => ?_⟩) (fun c2 => ?_)
  · rw [nI_leP (by omega) (by omega)] at c2
    rcases hD hc with ⟨h1, h2⟩ | ⟨h1, h2⟩
    · have ef := all_full (S := S) (n := n) (by omega) (fun q hq => h2 q (by omega))
      have e0 := (h7.resolve_right (fun h => h.1 ef)).2
      exact ⟨⟨0, by omega, by rw [h1, e0]; rfl⟩, fun h => absurd ef h⟩
    · exact ⟨h1, fun _ => h2⟩
  rw [nI_leP (by omega) (by omega)] at c2
  rw [idx9]
  refine Ok.ck (inb_n (by omega) (by omega)) (fun _ => Ok.rd (fun v19 h19 => ?_))
  rw [nI_cl (by omega), w7] at h19
  refine Ok.bd _ (xX12_has (by omega) (by omega)) ?_
  rintro _ _ ⟨rfl, rfl⟩
  refine Ok.bd (fun _ x => (GM σ x ∧ x 150 = t 150 ∧ x 149 = t 149 ∧ x 157 = t 157) ∧ (∀ X, X ≠ S → x 155 X = u 155 X) ∧ (HC n t → ((x 155 S = v7 ∧ ∀ q, q < j + 1 → S.testBit q = true) ∨ (RB n x S ∧ RT n m x S)))) ?_ (fun _ x h => Ok.ret ⟨n - (j + 1), by omega, h.1, h.2.1, j + 1, nI_1 j, by omega, rfl, h.2.2⟩)
  cases hb : S.testBit j
  rotate_left
  · refine Ok.ite (fun c => absurd c (by decide)) (fun _ => Ok.ret ⟨⟨gw, w0, w9, w7⟩, w5, fun hc => ?_⟩)
    refine (hD hc).imp (fun h => ⟨h.1, fun q hq => ?_⟩) id
    by_cases e : q = j
    · rw [e]; exact hb
    · exact h.2 q (by omega)
  refine Ok.ite (fun _ => ?_) (fun c => absurd rfl c)
  refine Ok.ite (fun c3 => Ok.ret ⟨⟨gw, w0, w9, w7⟩, w5, fun hc => ?_⟩) (fun c3 => ?_)
  · obtain ⟨c, hcl, ec⟩ := hc S j (by omega) (by omega) hb
    rw [h19, ec, show (1000000 : Int32) = nI 1000000 from rfl, nI_leP (by omega) (by omega)] at c3
    omega
  refine Ok.ck (inb_n (by omega) (by omega)) (fun _ => Ok.rd (fun v31 h31 => ?_))
  rw [nI_cl (by omega)] at h31
  have eo : nI S ||| shl 1 (nI j) = nI (S ||| 2 ^ j) := by rw [shl_1 (by omega), nI_or]
  have hgt := or_gt hb
  have hlt := or_ltn (S := S) (p := j) (n := n) (by omega) (by omega)
  rw [eo]
  refine Ok.ck (inb_n (by omega) (by omega)) (fun _ => Ok.rd (fun v34 h34 => ?_))
  rw [nI_cl (by omega)] at h34
  refine Ok.bd _ xX12_both ?_
  rintro v36 _ ⟨rfl, h36⟩
  refine Ok.ck (inb_n (by omega) (by omega)) (fun _ => Ok.wr (fun x ex => ?_))
  rw [nI_cl (by omega)] at ex
  have x5 : ∀ X, X ≠ S → x 155 X = u 155 X := fun X hX => by rw [ex, wr_at, pk_un hX]; exact w5 X hX
  have xS : x 155 S = mnI v31 v36 := by rw [ex, wr_at, pk_us]
  have x7 : x 157 = t 157 := by rw [wo ex (by decide)]; exact w7
  refine Ok.ret ⟨⟨gw.wrU ex (by omega) ty_u155, by rw [wo ex (by decide)]; exact w0, by rw [wo ex (by decide)]; exact w9, x7⟩, x5, fun hc => Or.inr ?_⟩
  obtain ⟨c, hcl, ec⟩ := hc S j (by omega) (by omega) hb
  obtain ⟨⟨r', hr', er'⟩, -⟩ := hH hc (S ||| 2 ^ j) (by omega) hlt
  have e34 : v34 = nI r' := by rw [h34, w5 _ (by omega)]; exact er'
  have hcl2 := cnt_lt (S := S) (p := j) (n := n) (by omega) hb
  have hco : cnt (S ||| 2 ^ j) n = cnt S n + 1 := by rw [cnt_or hb, if_pos (by omega)]
  rw [hco] at hr'
  obtain ⟨r2, hr2, er2⟩ := bo_n (m := m) (a := c) (b := r') (by omega) (by omega)
  have e36 : v36 = nI r2 := by rw [h36, h19, ec, e34, er2]
  have new : x 155 S = v36 → RB n x S ∧ RT n m x S := fun e => by
    refine ⟨⟨r2, by omega, e.trans e36⟩, j, by omega, hb, ?_⟩
    rw [e, h36, x7, x5 _ (by omega), h19, h34, w5 _ (by omega)]
  rcases hD hc with ⟨h1, h2⟩ | ⟨⟨r, hr, er⟩, p, hp, hpb, ep⟩
  · have ev : v7 = 1000000 := by
      refine (h7.resolve_left (fun h => ?_)).2
      have : S.testBit j = true := by
        rw [h.1, Nat.testBit_two_pow_sub_one]
        simp
        omega
      rw [hb] at this
      exact absurd this (by decide)
    refine new ?_
    rw [xS]
    show (if v36 < v31 then v36 else v31) = v36
    rw [if_pos]
    rw [h31, h1, ev, e36, show (1000000 : Int32) = nI 1000000 from rfl, nI_ltP (by omega) (by omega)]
    omega
  · by_cases q : v36 < v31
    · refine new ?_
      rw [xS]
      exact if_pos q
    · have exx : x 155 S = w 155 S := by
        rw [xS, ← h31]
        exact if_neg q
      have := or_gt hpb
      refine ⟨⟨r, hr, exx.trans er⟩, p, hp, hpb, ?_⟩
      rw [exx, ep, x7, w7, x5 _ (by omega), w5 _ (by omega)]
