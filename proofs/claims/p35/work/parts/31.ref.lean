/-! safety of the reference: what only looks, on (printed by wip/ext/g31.py) -/
/-- the rows have every point -/
def PEs (g : Nat → Int32) : Prop := ∀ s, s < 3 → ∀ n, g (91 * s) = nI n → n < 10 → ∀ p, p < n → ∃ i, i < n ∧ g (91 * s + 82 + i) = nI p
theorem nI_inj {a b : Nat} (h : nI a = nI b) (ha : a < 4294967296) (hb : b < 4294967296) : a = b := by rwa [nI_eqP ha hb] at h
theorem rX12_placeOf {t : St} (hT : TY t) {a b : Int32} (h_a : IsR 3 a) (h_b : IsR 9 b) (h_px : PEs (t 150) ∧ PtIn t a b) : Ok (FX12_placeOf a b t) (fun r u => t = u ∧ True) := by
  obtain ⟨s, hs, rfl⟩ := h_a
  obtain ⟨p, hp, rfl⟩ := h_b
  obtain ⟨hpe, n, en, hn, hpn⟩ := h_px
  rw [nI_cl (by omega)] at en hpn
  obtain ⟨i, hi, ei⟩ := hpe s hs n en hn p hpn
  unfold FX12_placeOf
  refine Ok.bd (fun _ u => t = u) ?_ (fun x u h => by subst h; exact Ok.ret ⟨rfl, True.intro⟩)
  refine Ok.loop (fun k c s => t = s ∧ ∃ j, c = nI j ∧ j ≤ i ∧ k = i - j) ?_ i _ _ ⟨rfl, 0, rfl, by omega, rfl⟩
  intro k c u hI
  obtain ⟨rfl, j, rfl, hj, rfl⟩ := hI
  unfold SX12_placeOf_2
  refine Ok.bd _ (xX12_at hT hs (i := j) (by omega)) ?_
  rintro _ _ ⟨rfl, rfl⟩
  refine Ok.ite (fun _ => Ok.ret rfl) (fun c1 => ?_)
  have : j ≠ i := fun e => c1 (by rw [e]; exact ei)
  exact Ok.ret ⟨i - (j + 1), by omega, rfl, j + 1, nI_1 j, by omega, rfl⟩
theorem rX12_longest {t : St} (hT : TY t) {a : Int32} (hpe : PEs (t 150)) : Ok (FX12_longest a t) (fun r u => t = u ∧ True) := by
  unfold FX12_longest
  refine Ok.bd _ (rX12_isNet hT) ?_
  rintro v _ ⟨rfl, -, hv⟩
  refine Ok.ite (fun _ => Ok.ret ⟨rfl, True.intro⟩) (fun c => ?_)
  obtain ⟨⟨s, hs, rfl⟩, -⟩ := hv.resolve_left c
  obtain ⟨n, hn, en⟩ := hT.rd (ty_p hs) (by omega)
  have pt : ∀ j, j < n → PtIn t (nI s) (nI j) := fun j hj => ⟨n, by rw [nI_cl (by omega)]; exact en, hn, by rw [nI_cl (by omega)]; exact hj⟩
  refine Ok.bd (fun _ u => t = u) ?_ (fun x u h => by subst h; exact Ok.ret ⟨rfl, True.intro⟩)
  refine Ok.loop (fun k c s => t = s ∧ ∃ j, c.2.2 = nI j ∧ j ≤ 9 ∧ k = 9 - j) ?_ 9 _ _ ⟨rfl, 0, rfl, by omega, rfl⟩
  intro k c u hI
  obtain ⟨rfl, j, ej, hj, rfl⟩ := hI
  obtain ⟨c0, c1, c2⟩ := c
  dsimp only at ej
  subst ej
  unfold SX12_longest_18
  dsimp only
  refine Ok.bd _ (xX12_points hT hs) ?_
  rintro _ _ ⟨rfl, rfl⟩
  rw [en]
  refine Ok.ite (fun _ => Ok.ret rfl) (fun c1 => ?_)
  rw [nI_leP (by omega) (by omega)] at c1
  refine Ok.bd (fun _ u => t = u) ?_ (fun x u h => by subst h; exact Ok.ret ⟨9 - (j + 1), by omega, rfl, j + 1, nI_1 j, by omega, rfl⟩)
  rw [nI_1]
  refine Ok.loop (fun k c s => t = s ∧ ∃ j, c.2.2 = nI j ∧ j ≤ 9 ∧ k = 9 - j) ?_ (9 - (j + 1)) _ _ ⟨rfl, j + 1, rfl, by omega, rfl⟩
  intro k c u hI
  obtain ⟨rfl, i, ei, hi, rfl⟩ := hI
  obtain ⟨d0, d1, d2⟩ := c
  dsimp only at ei
  subst ei
  unfold SX12_longest_34
  dsimp only
  refine Ok.bd _ (xX12_points hT hs) ?_
  rintro _ _ ⟨rfl, rfl⟩
  rw [en]
  refine Ok.ite (fun _ => Ok.ret rfl) (fun c3 => ?_)
  rw [nI_leP (by omega) (by omega)] at c3
  refine Ok.bd _ (rX12_placeOf hT ⟨s, hs, rfl⟩ ⟨j, by omega, rfl⟩ ⟨hpe, pt j (by omega)⟩) ?_
  rintro v13 _ ⟨rfl, -⟩
  refine Ok.bd _ (rX12_placeOf hT ⟨s, hs, rfl⟩ ⟨i, by omega, rfl⟩ ⟨hpe, pt i (by omega)⟩) ?_
  rintro v16 _ ⟨rfl, -⟩
  refine Ok.bd _ (rX12_weight hT ⟨s, hs, rfl⟩ ⟨j, by omega, rfl⟩ ⟨i, by omega, rfl⟩) ?_
  rintro v19 _ ⟨rfl, -⟩
  refine Ok.bd (fun _ u => t = u) ?_ (fun x u h => by subst h; exact Ok.ret ⟨9 - (i + 1), by omega, rfl, i + 1, nI_1 i, by omega, rfl⟩)
  exact Ok.ite (fun _ => Ok.ret rfl) (fun _ => Ok.ite (fun _ => Ok.ret rfl) (fun _ => Ok.ret rfl))
theorem rX12_priceOf {t : St} (hT : TY t) {a b c : Int32} (h_a : IsR 3 a) (h_c : IsR 9 c) (h_px : (b = 5 ∨ b = 6) ∨ ¬ c = nI 0) : Ok (FX12_priceOf a b c t) (fun r u => t = u ∧ True) := by
  unfold FX12_priceOf
  obtain ⟨k, hk, rfl⟩ := h_c
  refine Ok.bd _ (rX12_isTakenOut hT) ?_
  rintro v _ ⟨rfl, -, hv⟩
  refine Ok.ite (fun c => ?_) (fun c => ?_)
  · have h1 : 1 ≤ k := by
      rcases h_px with (q | q) | q
      · exact absurd q (hv c).1
      · exact absurd q (hv c).2
      · rw [nI_eqP (by omega) (by omega)] at q
        omega
    rw [show (nI k - 1 : Int32) = nI (k - 1) from nI_sub (a := k) (b := 1) h1]
    refine Ok.bd _ (rX12_aheadOf hT h_a ⟨k - 1, by omega, rfl⟩) ?_
    rintro v5 _ ⟨rfl, -⟩
    refine Ok.bd _ (rX12_at hT h_a ⟨k - 1, by omega, rfl⟩) ?_
    rintro v8 _ ⟨rfl, h8⟩
    refine Ok.bd _ (rX12_cost hT h_a h8) ?_
    rintro v11 _ ⟨rfl, -⟩
    exact Ok.ret ⟨rfl, True.intro⟩
  · refine Ok.bd _ (rX12_aheadOf hT h_a ⟨k, by omega, rfl⟩) ?_
    rintro v5 _ ⟨rfl, -⟩
    refine Ok.bd _ (rX12_at hT h_a ⟨k, by omega, rfl⟩) ?_
    rintro v8 _ ⟨rfl, h8⟩
    refine Ok.bd _ (rX12_cost hT h_a h8) ?_
    rintro v11 _ ⟨rfl, -⟩
    exact Ok.ret ⟨rfl, True.intro⟩
theorem tko {t : St} {b : Int32} {Q : Int32 → St → Prop} (h1 : (b = 5 ∨ b = 6) → Q 1 t) (h2 : ¬ (b = 5 ∨ b = 6) → Q 0 t) : Ok (FX12_isTakenOut b t) Q := by
  unfold FX12_isTakenOut
  refine Ok.ite (fun c => Ok.ret (h1 (Or.inl c))) (fun c => Ok.ite (fun c2 => Ok.ret (h1 (Or.inr c2))) (fun c2 => Ok.ret (h2 (fun q => q.elim c c2))))
theorem ptsI {n : Nat} (hn : n < 10) : (nI n - 1).toInt64.toInt = (n : Int) - 1 := by
  rw [Int32.toInt_toInt64, show (nI n - 1 : Int32) = nI n - nI 1 from rfl, pk_sub_toInt (by omega) (by omega)]
  rfl
theorem rX12_price {t : St} (hT : TY t) {a b c : Int32} : Ok (FX12_price a b c t) (fun r u => t = u ∧ True) := by
  unfold FX12_price
  refine Ok.bd _ (rX12_isNet hT) ?_
  rintro v _ ⟨rfl, -, hv⟩
  refine Ok.ite (fun _ => Ok.ret ⟨rfl, True.intro⟩) (fun c1 => ?_)
  obtain ⟨h_a, -⟩ := hv.resolve_left c1
  refine Ok.bd _ (rX12_isMeasure hT) ?_
  rintro v _ ⟨rfl, -, -⟩
  refine Ok.ite (fun _ => Ok.ret ⟨rfl, True.intro⟩) (fun _ => ?_)
  refine Ok.ite (fun _ => Ok.ret ⟨rfl, True.intro⟩) (fun _ => ?_)
  have fin : ∀ (lo : Int64) (n : Nat), 0 ≤ lo.toInt → n < 10 → ((b = 5 ∨ b = 6) ∨ 1 ≤ lo.toInt) → Ok (bnd (FX12_in c.toInt64 lo (nI n - 1).toInt64 t) (fun v t' => if v = 0 then some ((-2 : Int32), t') else bnd (FX12_priceOf a b c t') (fun v t' => some (v, t')))) (fun r u => t = u ∧ True) := by
    intro lo n hlo hn hor
    refine Ok.bd _ (rX12_in hT) ?_
    rintro w _ ⟨rfl, -, hw⟩
    refine Ok.ite (fun _ => Ok.ret ⟨rfl, True.intro⟩) (fun c2 => ?_)
    have hw := hw.resolve_left c2
    have h9 : IsR 9 c := in_R hw hlo (by rw [ptsI hn]; omega)
    refine Ok.bd _ (rX12_priceOf hT h_a h9 (hor.imp id (fun q e => ?_))) ?_
    · have := hw.1
      rw [e, Int32.toInt_toInt64, nI_toInt (by omega)] at this
      omega
    · rintro r _ ⟨rfl, -⟩
      exact Ok.ret ⟨rfl, True.intro⟩
  refine Ok.bd (fun v u => t = u ∧ ((v = 1 ∧ (b = 5 ∨ b = 6)) ∨ v = 0)) (tko (fun h => ⟨rfl, Or.inl ⟨rfl, h⟩⟩) (fun _ => ⟨rfl, Or.inr rfl⟩)) ?_
  rintro v13 _ ⟨rfl, h13⟩
  refine Ok.ite (fun _ => ?_) (fun c3 => ?_)
  · refine Ok.bd _ (rX12_points hT h_a) ?_
    rintro _ _ ⟨rfl, n, hn, rfl⟩
    exact fin 1 n (by decide) hn (Or.inr (by decide))
  · refine Ok.bd _ (rX12_points hT h_a) ?_
    rintro _ _ ⟨rfl, n, hn, rfl⟩
    refine fin 0 n (by decide) hn (Or.inl ?_)
    rcases h13 with h | h
    · exact h.2
    · exact absurd h c3
theorem rSX12_worst_57 {t : St} (hT : TY t) {w1 w2 : Int32} (h_a : IsR 3 w1) {k0 : Nat} (hk0 : k0 < 2) (hlo : (w2 = 5 ∨ w2 = 6) ∨ 1 ≤ k0) : Ok (wh (SX12_worst_57 w1 w2) (nI k0, nI k0 + 1) t) (fun r u => t = u) := by
  rw [nI_1]
  refine Ok.loop (fun k c u => t = u ∧ ∃ m j, c = (nI m, nI j) ∧ m < 9 ∧ ((w2 = 5 ∨ w2 = 6) ∨ 1 ≤ m) ∧ ((w2 = 5 ∨ w2 = 6) ∨ 1 ≤ j) ∧ j ≤ 10 ∧ k = 10 - j) ?_ (10 - (k0 + 1)) _ _ ⟨rfl, k0, k0 + 1, rfl, by omega, hlo, by omega, by omega, rfl⟩
  intro k c u hI
  obtain ⟨rfl, m, j, rfl, hm, hm1, hj1, hj, rfl⟩ := hI
  unfold SX12_worst_57
  dsimp only
  refine Ok.bd _ (rX12_points hT h_a) ?_
  rintro _ _ ⟨rfl, q, hq, rfl⟩
  refine Ok.ite (fun _ => Ok.ret rfl) (fun c1 => ?_)
  rw [nI_leP (by omega) (by omega)] at c1
  refine Ok.bd _ (rX12_priceOf hT h_a ⟨j, by omega, rfl⟩ (hj1.imp id (fun h e => by rw [nI_eqP (by omega) (by omega)] at e; omega))) ?_
  rintro v29 _ ⟨rfl, -⟩
  refine Ok.bd _ (rX12_priceOf hT h_a ⟨m, by omega, rfl⟩ (hm1.imp id (fun h e => by rw [nI_eqP (by omega) (by omega)] at e; omega))) ?_
  rintro v32 _ ⟨rfl, -⟩
  refine Ok.bd (fun v u => t = u ∧ ∃ m, v = nI m ∧ m < 9 ∧ ((w2 = 5 ∨ w2 = 6) ∨ 1 ≤ m)) ?_ ?_
  · exact Ok.ite (fun _ => Ok.ret ⟨rfl, m, rfl, hm, hm1⟩) (fun _ => Ok.ret ⟨rfl, j, rfl, by omega, hj1⟩)
  · rintro _ _ ⟨rfl, m', rfl, hm', hm1'⟩
    exact Ok.ret ⟨10 - (j + 1), by omega, rfl, m', j + 1, by rw [nI_1], hm', hm1', by omega, by omega, rfl⟩
theorem rX12_worst {t : St} (hT : TY t) {a b : Int32} : Ok (FX12_worst a b t) (fun r u => t = u ∧ True) := by
  unfold FX12_worst
  refine Ok.bd _ (rX12_isNet hT) ?_
  rintro v _ ⟨rfl, -, hv⟩
  refine Ok.ite (fun _ => Ok.ret ⟨rfl, True.intro⟩) (fun c1 => ?_)
  obtain ⟨h_a, -⟩ := hv.resolve_left c1
  refine Ok.bd _ (rX12_isMeasure hT) ?_
  rintro v _ ⟨rfl, -, -⟩
  refine Ok.ite (fun _ => Ok.ret ⟨rfl, True.intro⟩) (fun _ => ?_)
  refine Ok.ite (fun _ => Ok.ret ⟨rfl, True.intro⟩) (fun _ => ?_)
  refine Ok.bd _ (rX12_points hT h_a) ?_
  rintro v13 _ ⟨rfl, -⟩
  have lp : Ok (bnd (FX12_isTakenOut b t) (fun v u => bnd (if v = (0 : Int32) then some ((1 : Int32), u) else some ((0 : Int32), u)) (fun v u => bnd (wh (SX12_worst_57 a b) (v, v + (1 : Int32)) u) (fun e u => some (e, u))))) (fun r u => t = u ∧ True) := by
    refine Ok.bd (fun v u => t = u ∧ ((v = 1 ∧ (b = 5 ∨ b = 6)) ∨ v = 0)) (tko (fun h => ⟨rfl, Or.inl ⟨rfl, h⟩⟩) (fun _ => ⟨rfl, Or.inr rfl⟩)) ?_
    rintro v _ ⟨rfl, hv⟩
    refine Ok.bd (fun w u => t = u ∧ ∃ k, w = nI k ∧ k < 2 ∧ ((b = 5 ∨ b = 6) ∨ 1 ≤ k)) ?_ ?_
    · refine Ok.ite (fun _ => Ok.ret ⟨rfl, 1, rfl, by omega, Or.inr (by omega)⟩) (fun c => Ok.ret ⟨rfl, 0, rfl, by omega, Or.inl ?_⟩)
      rcases hv with h | h
      · exact h.2
      · exact absurd h c
    · rintro _ _ ⟨rfl, k, rfl, hk, hor⟩
      refine Ok.bd _ (rSX12_worst_57 hT h_a hk hor) ?_
      intro e u h
      exact Ok.ret ⟨h, True.intro⟩
  refine Ok.ite (fun _ => ?_) (fun _ => lp)
  refine Ok.bd _ (rX12_isTakenOut hT) ?_
  rintro v _ ⟨rfl, -, -⟩
  exact Ok.ite (fun _ => Ok.ret ⟨rfl, True.intro⟩) (fun _ => lp)
set_option maxHeartbeats 4000000 in
set_option maxRecDepth 100000 in
theorem rX12_place {t : St} (hT : TY t) {a : Int32} {b : Int32} (h_pe : PEs (t 150)) : Ok (FX12_place a b t) (fun r u => t = u ∧ (True)) := by
  unfold FX12_place
  refine Ok.bd _ (rX12_isPoint hT) ?_
  rintro v1 _ ⟨rfl, hbv1, hxv1⟩
  refine Ok.ite (fun c_2 => ?_) (fun c_2 => ?_)
  · skip
    exact Ok.ret ⟨rfl, True.intro⟩
  · obtain ⟨⟨kav1, hkav1, rfl⟩, ⟨kbv1, hkbv1, rfl⟩, hptv1⟩ := hxv1.resolve_left c_2
    refine Ok.bd _ (rX12_placeOf hT (by first | with_reducible assumption | (simp (disch := omega) only [li_0, li_1, li_2, li_3, li_4, li_5, li_6, li_7, li_8, li_9, li_10, li_20, li_30, li_82, li_91, li_273, li_380, li_400, li_512, li_1000, li_2457, li_4000, nI_add, nI_1, nI_mul, nI_sub, shl_1, shl_1b, nI_or, nI_xor, nI_and]; with_reducible exact ⟨_, (by first | omega | exact or9 (by omega) (by omega) | exact xor9 (by omega) (by omega)), rfl⟩) | with_reducible exact ⟨_, (by first | omega | exact or9 (by omega) (by omega) | exact xor9 (by omega) (by omega)), rfl⟩ | exact IsR.mn (by first | with_reducible assumption | exact ⟨_, by omega, rfl⟩) (by first | with_reducible assumption | exact ⟨_, by omega, rfl⟩) | exact IsR.mx (by first | with_reducible assumption | exact ⟨_, by omega, rfl⟩) (by first | with_reducible assumption | exact ⟨_, by omega, rfl⟩) | with_reducible exact mn9 (by omega) | (simp (disch := omega) only [li_0, li_1, li_2, li_3, li_4, li_5, li_6, li_7, li_8, li_9, li_10, li_20, li_30, li_82, li_91, li_273, li_380, li_400, li_512, li_1000, li_2457, li_4000, nI_add, nI_1, nI_mul, nI_sub, shl_1, shl_1b]; with_reducible exact mn9b (by omega))) (by first | with_reducible assumption | (simp (disch := omega) only [li_0, li_1, li_2, li_3, li_4, li_5, li_6, li_7, li_8, li_9, li_10, li_20, li_30, li_82, li_91, li_273, li_380, li_400, li_512, li_1000, li_2457, li_4000, nI_add, nI_1, nI_mul, nI_sub, shl_1, shl_1b, nI_or, nI_xor, nI_and]; with_reducible exact ⟨_, (by first | omega | exact or9 (by omega) (by omega) | exact xor9 (by omega) (by omega)), rfl⟩) | with_reducible exact ⟨_, (by first | omega | exact or9 (by omega) (by omega) | exact xor9 (by omega) (by omega)), rfl⟩ | exact IsR.mn (by first | with_reducible assumption | exact ⟨_, by omega, rfl⟩) (by first | with_reducible assumption | exact ⟨_, by omega, rfl⟩) | exact IsR.mx (by first | with_reducible assumption | exact ⟨_, by omega, rfl⟩) (by first | with_reducible assumption | exact ⟨_, by omega, rfl⟩) | with_reducible exact mn9 (by omega) | (simp (disch := omega) only [li_0, li_1, li_2, li_3, li_4, li_5, li_6, li_7, li_8, li_9, li_10, li_20, li_30, li_82, li_91, li_273, li_380, li_400, li_512, li_1000, li_2457, li_4000, nI_add, nI_1, nI_mul, nI_sub, shl_1, shl_1b]; with_reducible exact mn9b (by omega))) (by exact ⟨h_pe, by assumption⟩)) ?_
    rintro v6 _ ⟨rfl, hxv6⟩
    exact Ok.ret ⟨rfl, True.intro⟩
set_option maxHeartbeats 4000000 in
set_option maxRecDepth 100000 in
theorem rX12_near {t : St} (hT : TY t) {a : Int32} {b : Int32} : Ok (FX12_near a b t) (fun r u => t = u ∧ (True)) := by
  unfold FX12_near
  refine Ok.bd _ (rX12_isPoint hT) ?_
  rintro v1 _ ⟨rfl, hbv1, hxv1⟩
  refine Ok.ite (fun c_2 => ?_) (fun c_2 => ?_)
  · skip
    exact Ok.ret ⟨rfl, True.intro⟩
  · obtain ⟨⟨kav1, hkav1, rfl⟩, ⟨kbv1, hkbv1, rfl⟩, hptv1⟩ := hxv1.resolve_left c_2
    refine Ok.bd _ (rX12_nearOf hT (by first | with_reducible assumption | (simp (disch := omega) only [li_0, li_1, li_2, li_3, li_4, li_5, li_6, li_7, li_8, li_9, li_10, li_20, li_30, li_82, li_91, li_273, li_380, li_400, li_512, li_1000, li_2457, li_4000, nI_add, nI_1, nI_mul, nI_sub, shl_1, shl_1b, nI_or, nI_xor, nI_and]; with_reducible exact ⟨_, (by first | omega | exact or9 (by omega) (by omega) | exact xor9 (by omega) (by omega)), rfl⟩) | with_reducible exact ⟨_, (by first | omega | exact or9 (by omega) (by omega) | exact xor9 (by omega) (by omega)), rfl⟩ | exact IsR.mn (by first | with_reducible assumption | exact ⟨_, by omega, rfl⟩) (by first | with_reducible assumption | exact ⟨_, by omega, rfl⟩) | exact IsR.mx (by first | with_reducible assumption | exact ⟨_, by omega, rfl⟩) (by first | with_reducible assumption | exact ⟨_, by omega, rfl⟩) | with_reducible exact mn9 (by omega) | (simp (disch := omega) only [li_0, li_1, li_2, li_3, li_4, li_5, li_6, li_7, li_8, li_9, li_10, li_20, li_30, li_82, li_91, li_273, li_380, li_400, li_512, li_1000, li_2457, li_4000, nI_add, nI_1, nI_mul, nI_sub, shl_1, shl_1b]; with_reducible exact mn9b (by omega))) (by first | with_reducible assumption | (simp (disch := omega) only [li_0, li_1, li_2, li_3, li_4, li_5, li_6, li_7, li_8, li_9, li_10, li_20, li_30, li_82, li_91, li_273, li_380, li_400, li_512, li_1000, li_2457, li_4000, nI_add, nI_1, nI_mul, nI_sub, shl_1, shl_1b, nI_or, nI_xor, nI_and]; with_reducible exact ⟨_, (by first | omega | exact or9 (by omega) (by omega) | exact xor9 (by omega) (by omega)), rfl⟩) | with_reducible exact ⟨_, (by first | omega | exact or9 (by omega) (by omega) | exact xor9 (by omega) (by omega)), rfl⟩ | exact IsR.mn (by first | with_reducible assumption | exact ⟨_, by omega, rfl⟩) (by first | with_reducible assumption | exact ⟨_, by omega, rfl⟩) | exact IsR.mx (by first | with_reducible assumption | exact ⟨_, by omega, rfl⟩) (by first | with_reducible assumption | exact ⟨_, by omega, rfl⟩) | with_reducible exact mn9 (by omega) | (simp (disch := omega) only [li_0, li_1, li_2, li_3, li_4, li_5, li_6, li_7, li_8, li_9, li_10, li_20, li_30, li_82, li_91, li_273, li_380, li_400, li_512, li_1000, li_2457, li_4000, nI_add, nI_1, nI_mul, nI_sub, shl_1, shl_1b]; with_reducible exact mn9b (by omega)))) ?_
    rintro v6 _ ⟨rfl, hxv6⟩
    exact Ok.ret ⟨rfl, True.intro⟩
set_option maxHeartbeats 4000000 in
set_option maxRecDepth 100000 in
theorem rX12_line {t : St} (hT : TY t) {a : Int32} {b : Int32} {c : Int32} : Ok (FX12_line a b c t) (fun r u => t = u ∧ (True)) := by
  unfold FX12_line
  refine Ok.bd _ (rX12_isPoint hT) ?_
  rintro v1 _ ⟨rfl, hbv1, hxv1⟩
  refine Ok.ite (fun c_2 => ?_) (fun c_2 => ?_)
  · skip
    exact Ok.ret ⟨rfl, True.intro⟩
  · obtain ⟨⟨kav1, hkav1, rfl⟩, ⟨kbv1, hkbv1, rfl⟩, hptv1⟩ := hxv1.resolve_left c_2
    refine Ok.bd _ (rX12_isPoint hT) ?_
    rintro v6 _ ⟨rfl, hbv6, hxv6⟩
    refine Ok.ite (fun c_4 => ?_) (fun c_4 => ?_)
    · skip
      exact Ok.ret ⟨rfl, True.intro⟩
    · obtain ⟨-, ⟨kbv6, hkbv6, rfl⟩, hptv6⟩ := hxv6.resolve_left c_4
      refine Ok.bd _ (rX12_weight hT (by first | with_reducible assumption | (simp (disch := omega) only [li_0, li_1, li_2, li_3, li_4, li_5, li_6, li_7, li_8, li_9, li_10, li_20, li_30, li_82, li_91, li_273, li_380, li_400, li_512, li_1000, li_2457, li_4000, nI_add, nI_1, nI_mul, nI_sub, shl_1, shl_1b, nI_or, nI_xor, nI_and]; with_reducible exact ⟨_, (by first | omega | exact or9 (by omega) (by omega) | exact xor9 (by omega) (by omega)), rfl⟩) | with_reducible exact ⟨_, (by first | omega | exact or9 (by omega) (by omega) | exact xor9 (by omega) (by omega)), rfl⟩ | exact IsR.mn (by first | with_reducible assumption | exact ⟨_, by omega, rfl⟩) (by first | with_reducible assumption | exact ⟨_, by omega, rfl⟩) | exact IsR.mx (by first | with_reducible assumption | exact ⟨_, by omega, rfl⟩) (by first | with_reducible assumption | exact ⟨_, by omega, rfl⟩) | with_reducible exact mn9 (by omega) | (simp (disch := omega) only [li_0, li_1, li_2, li_3, li_4, li_5, li_6, li_7, li_8, li_9, li_10, li_20, li_30, li_82, li_91, li_273, li_380, li_400, li_512, li_1000, li_2457, li_4000, nI_add, nI_1, nI_mul, nI_sub, shl_1, shl_1b]; with_reducible exact mn9b (by omega))) (by first | with_reducible assumption | (simp (disch := omega) only [li_0, li_1, li_2, li_3, li_4, li_5, li_6, li_7, li_8, li_9, li_10, li_20, li_30, li_82, li_91, li_273, li_380, li_400, li_512, li_1000, li_2457, li_4000, nI_add, nI_1, nI_mul, nI_sub, shl_1, shl_1b, nI_or, nI_xor, nI_and]; with_reducible exact ⟨_, (by first | omega | exact or9 (by omega) (by omega) | exact xor9 (by omega) (by omega)), rfl⟩) | with_reducible exact ⟨_, (by first | omega | exact or9 (by omega) (by omega) | exact xor9 (by omega) (by omega)), rfl⟩ | exact IsR.mn (by first | with_reducible assumption | exact ⟨_, by omega, rfl⟩) (by first | with_reducible assumption | exact ⟨_, by omega, rfl⟩) | exact IsR.mx (by first | with_reducible assumption | exact ⟨_, by omega, rfl⟩) (by first | with_reducible assumption | exact ⟨_, by omega, rfl⟩) | with_reducible exact mn9 (by omega) | (simp (disch := omega) only [li_0, li_1, li_2, li_3, li_4, li_5, li_6, li_7, li_8, li_9, li_10, li_20, li_30, li_82, li_91, li_273, li_380, li_400, li_512, li_1000, li_2457, li_4000, nI_add, nI_1, nI_mul, nI_sub, shl_1, shl_1b]; with_reducible exact mn9b (by omega))) (by first | with_reducible assumption | (simp (disch := omega) only [li_0, li_1, li_2, li_3, li_4, li_5, li_6, li_7, li_8, li_9, li_10, li_20, li_30, li_82, li_91, li_273, li_380, li_400, li_512, li_1000, li_2457, li_4000, nI_add, nI_1, nI_mul, nI_sub, shl_1, shl_1b, nI_or, nI_xor, nI_and]; with_reducible exact ⟨_, (by first | omega | exact or9 (by omega) (by omega) | exact xor9 (by omega) (by omega)), rfl⟩) | with_reducible exact ⟨_, (by first | omega | exact or9 (by omega) (by omega) | exact xor9 (by omega) (by omega)), rfl⟩ | exact IsR.mn (by first | with_reducible assumption | exact ⟨_, by omega, rfl⟩) (by first | with_reducible assumption | exact ⟨_, by omega, rfl⟩) | exact IsR.mx (by first | with_reducible assumption | exact ⟨_, by omega, rfl⟩) (by first | with_reducible assumption | exact ⟨_, by omega, rfl⟩) | with_reducible exact mn9 (by omega) | (simp (disch := omega) only [li_0, li_1, li_2, li_3, li_4, li_5, li_6, li_7, li_8, li_9, li_10, li_20, li_30, li_82, li_91, li_273, li_380, li_400, li_512, li_1000, li_2457, li_4000, nI_add, nI_1, nI_mul, nI_sub, shl_1, shl_1b]; with_reducible exact mn9b (by omega)))) ?_
      rintro _ _ ⟨rfl, kv11, hv11, rfl⟩
      exact Ok.ret ⟨rfl, True.intro⟩
set_option maxHeartbeats 4000000 in
set_option maxRecDepth 100000 in
theorem rX12_far {t : St} (hT : TY t) {a : Int32} {b : Int32} {c : Int32} : Ok (FX12_far a b c t) (fun r u => t = u ∧ (True)) := by
  unfold FX12_far
  refine Ok.bd _ (rX12_isPoint hT) ?_
  rintro v1 _ ⟨rfl, hbv1, hxv1⟩
  refine Ok.ite (fun c_2 => ?_) (fun c_2 => ?_)
  · skip
    exact Ok.ret ⟨rfl, True.intro⟩
  · obtain ⟨⟨kav1, hkav1, rfl⟩, ⟨kbv1, hkbv1, rfl⟩, hptv1⟩ := hxv1.resolve_left c_2
    refine Ok.bd _ (rX12_isPoint hT) ?_
    rintro v6 _ ⟨rfl, hbv6, hxv6⟩
    refine Ok.ite (fun c_4 => ?_) (fun c_4 => ?_)
    · skip
      exact Ok.ret ⟨rfl, True.intro⟩
    · obtain ⟨-, ⟨kbv6, hkbv6, rfl⟩, hptv6⟩ := hxv6.resolve_left c_4
      refine Ok.bd _ (rX12_farOf hT (by first | with_reducible assumption | (simp (disch := omega) only [li_0, li_1, li_2, li_3, li_4, li_5, li_6, li_7, li_8, li_9, li_10, li_20, li_30, li_82, li_91, li_273, li_380, li_400, li_512, li_1000, li_2457, li_4000, nI_add, nI_1, nI_mul, nI_sub, shl_1, shl_1b, nI_or, nI_xor, nI_and]; with_reducible exact ⟨_, (by first | omega | exact or9 (by omega) (by omega) | exact xor9 (by omega) (by omega)), rfl⟩) | with_reducible exact ⟨_, (by first | omega | exact or9 (by omega) (by omega) | exact xor9 (by omega) (by omega)), rfl⟩ | exact IsR.mn (by first | with_reducible assumption | exact ⟨_, by omega, rfl⟩) (by first | with_reducible assumption | exact ⟨_, by omega, rfl⟩) | exact IsR.mx (by first | with_reducible assumption | exact ⟨_, by omega, rfl⟩) (by first | with_reducible assumption | exact ⟨_, by omega, rfl⟩) | with_reducible exact mn9 (by omega) | (simp (disch := omega) only [li_0, li_1, li_2, li_3, li_4, li_5, li_6, li_7, li_8, li_9, li_10, li_20, li_30, li_82, li_91, li_273, li_380, li_400, li_512, li_1000, li_2457, li_4000, nI_add, nI_1, nI_mul, nI_sub, shl_1, shl_1b]; with_reducible exact mn9b (by omega)))) ?_
      rintro v11 _ ⟨rfl, hxv11⟩
      exact Ok.ret ⟨rfl, True.intro⟩
set_option maxHeartbeats 4000000 in
set_option maxRecDepth 100000 in
theorem rX12_row {t : St} (hT : TY t) {a : Int32} {b : Int32} : Ok (FX12_row a b t) (fun r u => t = u ∧ (True)) := by
  unfold FX12_row
  refine Ok.bd _ (rX12_isPoint hT) ?_
  rintro v1 _ ⟨rfl, hbv1, hxv1⟩
  refine Ok.ite (fun c_2 => ?_) (fun c_2 => ?_)
  · skip
    exact Ok.ret ⟨rfl, True.intro⟩
  · obtain ⟨⟨kav1, hkav1, rfl⟩, ⟨kbv1, hkbv1, rfl⟩, hptv1⟩ := hxv1.resolve_left c_2
    refine Ok.bd _ (rX12_at hT (by first | with_reducible assumption | (simp (disch := omega) only [li_0, li_1, li_2, li_3, li_4, li_5, li_6, li_7, li_8, li_9, li_10, li_20, li_30, li_82, li_91, li_273, li_380, li_400, li_512, li_1000, li_2457, li_4000, nI_add, nI_1, nI_mul, nI_sub, shl_1, shl_1b, nI_or, nI_xor, nI_and]; with_reducible exact ⟨_, (by first | omega | exact or9 (by omega) (by omega) | exact xor9 (by omega) (by omega)), rfl⟩) | with_reducible exact ⟨_, (by first | omega | exact or9 (by omega) (by omega) | exact xor9 (by omega) (by omega)), rfl⟩ | exact IsR.mn (by first | with_reducible assumption | exact ⟨_, by omega, rfl⟩) (by first | with_reducible assumption | exact ⟨_, by omega, rfl⟩) | exact IsR.mx (by first | with_reducible assumption | exact ⟨_, by omega, rfl⟩) (by first | with_reducible assumption | exact ⟨_, by omega, rfl⟩) | with_reducible exact mn9 (by omega) | (simp (disch := omega) only [li_0, li_1, li_2, li_3, li_4, li_5, li_6, li_7, li_8, li_9, li_10, li_20, li_30, li_82, li_91, li_273, li_380, li_400, li_512, li_1000, li_2457, li_4000, nI_add, nI_1, nI_mul, nI_sub, shl_1, shl_1b]; with_reducible exact mn9b (by omega))) (by first | with_reducible assumption | (simp (disch := omega) only [li_0, li_1, li_2, li_3, li_4, li_5, li_6, li_7, li_8, li_9, li_10, li_20, li_30, li_82, li_91, li_273, li_380, li_400, li_512, li_1000, li_2457, li_4000, nI_add, nI_1, nI_mul, nI_sub, shl_1, shl_1b, nI_or, nI_xor, nI_and]; with_reducible exact ⟨_, (by first | omega | exact or9 (by omega) (by omega) | exact xor9 (by omega) (by omega)), rfl⟩) | with_reducible exact ⟨_, (by first | omega | exact or9 (by omega) (by omega) | exact xor9 (by omega) (by omega)), rfl⟩ | exact IsR.mn (by first | with_reducible assumption | exact ⟨_, by omega, rfl⟩) (by first | with_reducible assumption | exact ⟨_, by omega, rfl⟩) | exact IsR.mx (by first | with_reducible assumption | exact ⟨_, by omega, rfl⟩) (by first | with_reducible assumption | exact ⟨_, by omega, rfl⟩) | with_reducible exact mn9 (by omega) | (simp (disch := omega) only [li_0, li_1, li_2, li_3, li_4, li_5, li_6, li_7, li_8, li_9, li_10, li_20, li_30, li_82, li_91, li_273, li_380, li_400, li_512, li_1000, li_2457, li_4000, nI_add, nI_1, nI_mul, nI_sub, shl_1, shl_1b]; with_reducible exact mn9b (by omega)))) ?_
    rintro _ _ ⟨rfl, kv6, hv6, rfl⟩
    exact Ok.ret ⟨rfl, True.intro⟩
set_option maxHeartbeats 4000000 in
set_option maxRecDepth 100000 in
theorem rX12_areTwo {t : St} (hT : TY t) {a : Int32} {b : Int32} {c : Int32} : Ok (FX12_areTwo a b c t) (fun r u => t = u ∧ (isb r = true ∧ (True))) := by
  unfold FX12_areTwo
  refine Ok.bd _ (rX12_isPoint hT) ?_
  rintro v1 _ ⟨rfl, hbv1, hxv1⟩
  refine Ok.ite (fun c_2 => ?_) (fun c_2 => ?_)
  · skip
    exact Ok.ret ⟨rfl, ⟨(by first | rfl | assumption | decide), (by first | exact True.intro | exact Or.inl rfl | exact Or.inr (by first | assumption | exact ⟨_, by omega, rfl⟩ | exact ⟨⟨_, by omega, rfl⟩, ⟨_, by omega, rfl⟩⟩))⟩⟩
  · obtain ⟨⟨kav1, hkav1, rfl⟩, ⟨kbv1, hkbv1, rfl⟩, hptv1⟩ := hxv1.resolve_left c_2
    refine Ok.bd _ (rX12_isPoint hT) ?_
    rintro v6 _ ⟨rfl, hbv6, hxv6⟩
    refine Ok.ite (fun c_4 => ?_) (fun c_4 => ?_)
    · skip
      exact Ok.ret ⟨rfl, ⟨(by first | rfl | assumption | decide), (by first | exact True.intro | exact Or.inl rfl | exact Or.inr (by first | assumption | exact ⟨_, by omega, rfl⟩ | exact ⟨⟨_, by omega, rfl⟩, ⟨_, by omega, rfl⟩⟩))⟩⟩
    · obtain ⟨-, ⟨kbv6, hkbv6, rfl⟩, hptv6⟩ := hxv6.resolve_left c_4
      refine Ok.ite (fun c_5 => ?_) (fun c_5 => ?_)
      · try simp (disch := omega) only [li_0, li_1, li_2, li_3, li_4, li_5, li_6, li_7, li_8, li_9, li_10, li_20, li_30, li_82, li_91, li_273, li_380, li_400, li_512, li_1000, li_2457, li_4000, nI_add, nI_1, nI_mul, nI_sub, shl_1, shl_1b, nI_leP, nI_ltP, nI_eqP, Nat.not_le, Nat.not_lt] at c_5
        exact Ok.ret ⟨rfl, ⟨(by first | rfl | assumption | decide), (by first | exact True.intro | exact Or.inl rfl | exact Or.inr (by first | assumption | exact ⟨_, by omega, rfl⟩ | exact ⟨⟨_, by omega, rfl⟩, ⟨_, by omega, rfl⟩⟩))⟩⟩
      · try simp (disch := omega) only [li_0, li_1, li_2, li_3, li_4, li_5, li_6, li_7, li_8, li_9, li_10, li_20, li_30, li_82, li_91, li_273, li_380, li_400, li_512, li_1000, li_2457, li_4000, nI_add, nI_1, nI_mul, nI_sub, shl_1, shl_1b, nI_leP, nI_ltP, nI_eqP, Nat.not_le, Nat.not_lt] at c_5
        exact Ok.ret ⟨rfl, ⟨(by first | rfl | assumption | decide), (by first | exact True.intro | exact Or.inl rfl | exact Or.inr (by first | assumption | exact ⟨_, by omega, rfl⟩ | exact ⟨⟨_, by omega, rfl⟩, ⟨_, by omega, rfl⟩⟩))⟩⟩
set_option maxHeartbeats 4000000 in
set_option maxRecDepth 100000 in
theorem rSX12_look_28 {t : St} (hT : TY t) {w1 : Int32} (h_w1 : IsR 3 w1) {w2 : Int32} {a0 : Int32} {a1 : Int32} (h_a1 : IsR 5001 a1) : Ok (wh (SX12_look_28 w1 w2) (a0, a1) t) (fun r u => t = u ∧ (True)) := by
  obtain ⟨j0, hj0, rfl⟩ := h_a1
  refine Ok.loop (fun k c s => t = s ∧ (∃ j, c.2 = nI j ∧ j ≤ 5000 ∧ 0 ≤ j ∧ k = 5000 - j)) ?_ (5000 - j0) _ _ ⟨rfl, ⟨j0, rfl, by omega, by omega, rfl⟩⟩
  obtain ⟨k_w1, h_w1, rfl⟩ := h_w1
  clear hj0
  intro k c s hI
  obtain ⟨rfl, ⟨j, ej, hj, hlo, rfl⟩⟩ := hI
  obtain ⟨c0, c1⟩ := c
  dsimp only at ej
  subst ej
  unfold SX12_look_28
  dsimp only
  refine Ok.bd _ (rX12_points hT (by first | with_reducible assumption | (simp (disch := omega) only [li_0, li_1, li_2, li_3, li_4, li_5, li_6, li_7, li_8, li_9, li_10, li_20, li_30, li_82, li_91, li_273, li_380, li_400, li_512, li_1000, li_2457, li_4000, nI_add, nI_1, nI_mul, nI_sub, shl_1, shl_1b, nI_or, nI_xor, nI_and]; with_reducible exact ⟨_, (by first | omega | exact or9 (by omega) (by omega) | exact xor9 (by omega) (by omega)), rfl⟩) | with_reducible exact ⟨_, (by first | omega | exact or9 (by omega) (by omega) | exact xor9 (by omega) (by omega)), rfl⟩ | exact IsR.mn (by first | with_reducible assumption | exact ⟨_, by omega, rfl⟩) (by first | with_reducible assumption | exact ⟨_, by omega, rfl⟩) | exact IsR.mx (by first | with_reducible assumption | exact ⟨_, by omega, rfl⟩) (by first | with_reducible assumption | exact ⟨_, by omega, rfl⟩) | with_reducible exact mn9 (by omega) | (simp (disch := omega) only [li_0, li_1, li_2, li_3, li_4, li_5, li_6, li_7, li_8, li_9, li_10, li_20, li_30, li_82, li_91, li_273, li_380, li_400, li_512, li_1000, li_2457, li_4000, nI_add, nI_1, nI_mul, nI_sub, shl_1, shl_1b]; with_reducible exact mn9b (by omega)))) ?_
  rintro _ _ ⟨rfl, kv10, hv10, rfl⟩
  refine Ok.ite (fun c_2 => ?_) (fun c_2 => ?_)
  · try simp (disch := omega) only [li_0, li_1, li_2, li_3, li_4, li_5, li_6, li_7, li_8, li_9, li_10, li_20, li_30, li_82, li_91, li_273, li_380, li_400, li_512, li_1000, li_2457, li_4000, nI_add, nI_1, nI_mul, nI_sub, shl_1, shl_1b, nI_leP, nI_ltP, nI_eqP, Nat.not_le, Nat.not_lt] at c_2
    exact Ok.ret ⟨rfl, True.intro⟩
  · try simp (disch := omega) only [li_0, li_1, li_2, li_3, li_4, li_5, li_6, li_7, li_8, li_9, li_10, li_20, li_30, li_82, li_91, li_273, li_380, li_400, li_512, li_1000, li_2457, li_4000, nI_add, nI_1, nI_mul, nI_sub, shl_1, shl_1b, nI_leP, nI_ltP, nI_eqP, Nat.not_le, Nat.not_lt] at c_2
    refine Ok.bd _ (rX12_weightOf hT (by first | with_reducible assumption | (simp (disch := omega) only [li_0, li_1, li_2, li_3, li_4, li_5, li_6, li_7, li_8, li_9, li_10, li_20, li_30, li_82, li_91, li_273, li_380, li_400, li_512, li_1000, li_2457, li_4000, nI_add, nI_1, nI_mul, nI_sub, shl_1, shl_1b, nI_or, nI_xor, nI_and]; with_reducible exact ⟨_, (by first | omega | exact or9 (by omega) (by omega) | exact xor9 (by omega) (by omega)), rfl⟩) | with_reducible exact ⟨_, (by first | omega | exact or9 (by omega) (by omega) | exact xor9 (by omega) (by omega)), rfl⟩ | exact IsR.mn (by first | with_reducible assumption | exact ⟨_, by omega, rfl⟩) (by first | with_reducible assumption | exact ⟨_, by omega, rfl⟩) | exact IsR.mx (by first | with_reducible assumption | exact ⟨_, by omega, rfl⟩) (by first | with_reducible assumption | exact ⟨_, by omega, rfl⟩) | with_reducible exact mn9 (by omega) | (simp (disch := omega) only [li_0, li_1, li_2, li_3, li_4, li_5, li_6, li_7, li_8, li_9, li_10, li_20, li_30, li_82, li_91, li_273, li_380, li_400, li_512, li_1000, li_2457, li_4000, nI_add, nI_1, nI_mul, nI_sub, shl_1, shl_1b]; with_reducible exact mn9b (by omega))) (by first | with_reducible assumption | (simp (disch := omega) only [li_0, li_1, li_2, li_3, li_4, li_5, li_6, li_7, li_8, li_9, li_10, li_20, li_30, li_82, li_91, li_273, li_380, li_400, li_512, li_1000, li_2457, li_4000, nI_add, nI_1, nI_mul, nI_sub, shl_1, shl_1b, nI_or, nI_xor, nI_and]; with_reducible exact ⟨_, (by first | omega | exact or9 (by omega) (by omega) | exact xor9 (by omega) (by omega)), rfl⟩) | with_reducible exact ⟨_, (by first | omega | exact or9 (by omega) (by omega) | exact xor9 (by omega) (by omega)), rfl⟩ | exact IsR.mn (by first | with_reducible assumption | exact ⟨_, by omega, rfl⟩) (by first | with_reducible assumption | exact ⟨_, by omega, rfl⟩) | exact IsR.mx (by first | with_reducible assumption | exact ⟨_, by omega, rfl⟩) (by first | with_reducible assumption | exact ⟨_, by omega, rfl⟩) | with_reducible exact mn9 (by omega) | (simp (disch := omega) only [li_0, li_1, li_2, li_3, li_4, li_5, li_6, li_7, li_8, li_9, li_10, li_20, li_30, li_82, li_91, li_273, li_380, li_400, li_512, li_1000, li_2457, li_4000, nI_add, nI_1, nI_mul, nI_sub, shl_1, shl_1b]; with_reducible exact mn9b (by omega)))) ?_
    rintro v14 _ ⟨rfl, hxv14⟩
    exact Ok.ret ⟨5000 - (j + 1), by omega, rfl, ⟨j + 1, nI_1 j, by omega, by omega, rfl⟩⟩
set_option maxHeartbeats 4000000 in
set_option maxRecDepth 100000 in
theorem rX12_look {t : St} (hT : TY t) {a : Int32} {b : Int32} : Ok (FX12_look a b t) (fun r u => t = u ∧ (True)) := by
  unfold FX12_look
  refine Ok.bd _ (rX12_isNet hT) ?_
  rintro v1 _ ⟨rfl, hbv1, hxv1⟩
  refine Ok.ite (fun c_2 => ?_) (fun c_2 => ?_)
  · skip
    exact Ok.ret ⟨rfl, True.intro⟩
  · obtain ⟨⟨kav1, hkav1, rfl⟩, hptv1⟩ := hxv1.resolve_left c_2
    refine Ok.bd _ (rX12_in hT) ?_
    rintro v6 _ ⟨rfl, hbv6, hxv6⟩
    refine Ok.ite (fun c_4 => ?_) (fun c_4 => ?_)
    · skip
      exact Ok.ret ⟨rfl, True.intro⟩
    · obtain hinv6 := hxv6.resolve_left c_4
      refine Ok.bd _ (rSX12_look_28 hT (by first | with_reducible assumption | (simp (disch := omega) only [li_0, li_1, li_2, li_3, li_4, li_5, li_6, li_7, li_8, li_9, li_10, li_20, li_30, li_82, li_91, li_273, li_380, li_400, li_512, li_1000, li_2457, li_4000, nI_add, nI_1, nI_mul, nI_sub, shl_1, shl_1b, nI_or, nI_xor, nI_and]; with_reducible exact ⟨_, (by first | omega | exact or9 (by omega) (by omega) | exact xor9 (by omega) (by omega)), rfl⟩) | with_reducible exact ⟨_, (by first | omega | exact or9 (by omega) (by omega) | exact xor9 (by omega) (by omega)), rfl⟩ | exact IsR.mn (by first | with_reducible assumption | exact ⟨_, by omega, rfl⟩) (by first | with_reducible assumption | exact ⟨_, by omega, rfl⟩) | exact IsR.mx (by first | with_reducible assumption | exact ⟨_, by omega, rfl⟩) (by first | with_reducible assumption | exact ⟨_, by omega, rfl⟩) | with_reducible exact mn9 (by omega) | (simp (disch := omega) only [li_0, li_1, li_2, li_3, li_4, li_5, li_6, li_7, li_8, li_9, li_10, li_20, li_30, li_82, li_91, li_273, li_380, li_400, li_512, li_1000, li_2457, li_4000, nI_add, nI_1, nI_mul, nI_sub, shl_1, shl_1b]; with_reducible exact mn9b (by omega))) (by show IsR 5001 _; first | with_reducible assumption | (simp (disch := omega) only [li_0, li_1, li_2, li_3, li_4, li_5, li_6, li_7, li_8, li_9, li_10, li_20, li_30, li_82, li_91, li_273, li_380, li_400, li_512, li_1000, li_2457, li_4000, nI_add, nI_1, nI_mul, nI_sub, shl_1, shl_1b, nI_or, nI_xor, nI_and]; with_reducible exact ⟨_, (by first | omega | exact or9 (by omega) (by omega) | exact xor9 (by omega) (by omega)), rfl⟩) | with_reducible exact ⟨_, (by first | omega | exact or9 (by omega) (by omega) | exact xor9 (by omega) (by omega)), rfl⟩ | exact IsR.mn (by first | with_reducible assumption | exact ⟨_, by omega, rfl⟩) (by first | with_reducible assumption | exact ⟨_, by omega, rfl⟩) | exact IsR.mx (by first | with_reducible assumption | exact ⟨_, by omega, rfl⟩) (by first | with_reducible assumption | exact ⟨_, by omega, rfl⟩) | with_reducible exact mn9 (by omega) | (simp (disch := omega) only [li_0, li_1, li_2, li_3, li_4, li_5, li_6, li_7, li_8, li_9, li_10, li_20, li_30, li_82, li_91, li_273, li_380, li_400, li_512, li_1000, li_2457, li_4000, nI_add, nI_1, nI_mul, nI_sub, shl_1, shl_1b]; with_reducible exact mn9b (by omega)))) ?_
      rintro e17 _ ⟨rfl, hxe17⟩
      refine Ok.ite (fun c_6 => ?_) (fun c_6 => ?_)
      · try simp (disch := omega) only [li_0, li_1, li_2, li_3, li_4, li_5, li_6, li_7, li_8, li_9, li_10, li_20, li_30, li_82, li_91, li_273, li_380, li_400, li_512, li_1000, li_2457, li_4000, nI_add, nI_1, nI_mul, nI_sub, shl_1, shl_1b, nI_leP, nI_ltP, nI_eqP, Nat.not_le, Nat.not_lt] at c_6
        refine Ok.bd _ (rX12_points hT (by first | with_reducible assumption | (simp (disch := omega) only [li_0, li_1, li_2, li_3, li_4, li_5, li_6, li_7, li_8, li_9, li_10, li_20, li_30, li_82, li_91, li_273, li_380, li_400, li_512, li_1000, li_2457, li_4000, nI_add, nI_1, nI_mul, nI_sub, shl_1, shl_1b, nI_or, nI_xor, nI_and]; with_reducible exact ⟨_, (by first | omega | exact or9 (by omega) (by omega) | exact xor9 (by omega) (by omega)), rfl⟩) | with_reducible exact ⟨_, (by first | omega | exact or9 (by omega) (by omega) | exact xor9 (by omega) (by omega)), rfl⟩ | exact IsR.mn (by first | with_reducible assumption | exact ⟨_, by omega, rfl⟩) (by first | with_reducible assumption | exact ⟨_, by omega, rfl⟩) | exact IsR.mx (by first | with_reducible assumption | exact ⟨_, by omega, rfl⟩) (by first | with_reducible assumption | exact ⟨_, by omega, rfl⟩) | with_reducible exact mn9 (by omega) | (simp (disch := omega) only [li_0, li_1, li_2, li_3, li_4, li_5, li_6, li_7, li_8, li_9, li_10, li_20, li_30, li_82, li_91, li_273, li_380, li_400, li_512, li_1000, li_2457, li_4000, nI_add, nI_1, nI_mul, nI_sub, shl_1, shl_1b]; with_reducible exact mn9b (by omega)))) ?_
        rintro _ _ ⟨rfl, kv22, hv22, rfl⟩
        exact Ok.ret ⟨rfl, True.intro⟩
      · try simp (disch := omega) only [li_0, li_1, li_2, li_3, li_4, li_5, li_6, li_7, li_8, li_9, li_10, li_20, li_30, li_82, li_91, li_273, li_380, li_400, li_512, li_1000, li_2457, li_4000, nI_add, nI_1, nI_mul, nI_sub, shl_1, shl_1b, nI_leP, nI_ltP, nI_eqP, Nat.not_le, Nat.not_lt] at c_6
        refine Ok.ite (fun c_8 => ?_) (fun c_8 => ?_)
        · try simp (disch := omega) only [li_0, li_1, li_2, li_3, li_4, li_5, li_6, li_7, li_8, li_9, li_10, li_20, li_30, li_82, li_91, li_273, li_380, li_400, li_512, li_1000, li_2457, li_4000, nI_add, nI_1, nI_mul, nI_sub, shl_1, shl_1b, nI_leP, nI_ltP, nI_eqP, Nat.not_le, Nat.not_lt] at c_8
          refine Ok.bd _ (rX12_lines hT (by first | with_reducible assumption | (simp (disch := omega) only [li_0, li_1, li_2, li_3, li_4, li_5, li_6, li_7, li_8, li_9, li_10, li_20, li_30, li_82, li_91, li_273, li_380, li_400, li_512, li_1000, li_2457, li_4000, nI_add, nI_1, nI_mul, nI_sub, shl_1, shl_1b, nI_or, nI_xor, nI_and]; with_reducible exact ⟨_, (by first | omega | exact or9 (by omega) (by omega) | exact xor9 (by omega) (by omega)), rfl⟩) | with_reducible exact ⟨_, (by first | omega | exact or9 (by omega) (by omega) | exact xor9 (by omega) (by omega)), rfl⟩ | exact IsR.mn (by first | with_reducible assumption | exact ⟨_, by omega, rfl⟩) (by first | with_reducible assumption | exact ⟨_, by omega, rfl⟩) | exact IsR.mx (by first | with_reducible assumption | exact ⟨_, by omega, rfl⟩) (by first | with_reducible assumption | exact ⟨_, by omega, rfl⟩) | with_reducible exact mn9 (by omega) | (simp (disch := omega) only [li_0, li_1, li_2, li_3, li_4, li_5, li_6, li_7, li_8, li_9, li_10, li_20, li_30, li_82, li_91, li_273, li_380, li_400, li_512, li_1000, li_2457, li_4000, nI_add, nI_1, nI_mul, nI_sub, shl_1, shl_1b]; with_reducible exact mn9b (by omega)))) ?_
          rintro v27 _ ⟨rfl, hxv27⟩
          exact Ok.ret ⟨rfl, True.intro⟩
        · try simp (disch := omega) only [li_0, li_1, li_2, li_3, li_4, li_5, li_6, li_7, li_8, li_9, li_10, li_20, li_30, li_82, li_91, li_273, li_380, li_400, li_512, li_1000, li_2457, li_4000, nI_add, nI_1, nI_mul, nI_sub, shl_1, shl_1b, nI_leP, nI_ltP, nI_eqP, Nat.not_le, Nat.not_lt] at c_8
          refine Ok.ite (fun c_10 => ?_) (fun c_10 => ?_)
          · try simp (disch := omega) only [li_0, li_1, li_2, li_3, li_4, li_5, li_6, li_7, li_8, li_9, li_10, li_20, li_30, li_82, li_91, li_273, li_380, li_400, li_512, li_1000, li_2457, li_4000, nI_add, nI_1, nI_mul, nI_sub, shl_1, shl_1b, nI_leP, nI_ltP, nI_eqP, Nat.not_le, Nat.not_lt] at c_10
            exact Ok.ret ⟨rfl, True.intro⟩
          · try simp (disch := omega) only [li_0, li_1, li_2, li_3, li_4, li_5, li_6, li_7, li_8, li_9, li_10, li_20, li_30, li_82, li_91, li_273, li_380, li_400, li_512, li_1000, li_2457, li_4000, nI_add, nI_1, nI_mul, nI_sub, shl_1, shl_1b, nI_leP, nI_ltP, nI_eqP, Nat.not_le, Nat.not_lt] at c_10
            refine Ok.ite (fun c_11 => ?_) (fun c_11 => ?_)
            · try simp (disch := omega) only [li_0, li_1, li_2, li_3, li_4, li_5, li_6, li_7, li_8, li_9, li_10, li_20, li_30, li_82, li_91, li_273, li_380, li_400, li_512, li_1000, li_2457, li_4000, nI_add, nI_1, nI_mul, nI_sub, shl_1, shl_1b, nI_leP, nI_ltP, nI_eqP, Nat.not_le, Nat.not_lt] at c_11
              refine Ok.bd _ (rX12_degree hT (by first | with_reducible assumption | (simp (disch := omega) only [li_0, li_1, li_2, li_3, li_4, li_5, li_6, li_7, li_8, li_9, li_10, li_20, li_30, li_82, li_91, li_273, li_380, li_400, li_512, li_1000, li_2457, li_4000, nI_add, nI_1, nI_mul, nI_sub, shl_1, shl_1b, nI_or, nI_xor, nI_and]; with_reducible exact ⟨_, (by first | omega | exact or9 (by omega) (by omega) | exact xor9 (by omega) (by omega)), rfl⟩) | with_reducible exact ⟨_, (by first | omega | exact or9 (by omega) (by omega) | exact xor9 (by omega) (by omega)), rfl⟩ | exact IsR.mn (by first | with_reducible assumption | exact ⟨_, by omega, rfl⟩) (by first | with_reducible assumption | exact ⟨_, by omega, rfl⟩) | exact IsR.mx (by first | with_reducible assumption | exact ⟨_, by omega, rfl⟩) (by first | with_reducible assumption | exact ⟨_, by omega, rfl⟩) | with_reducible exact mn9 (by omega) | (simp (disch := omega) only [li_0, li_1, li_2, li_3, li_4, li_5, li_6, li_7, li_8, li_9, li_10, li_20, li_30, li_82, li_91, li_273, li_380, li_400, li_512, li_1000, li_2457, li_4000, nI_add, nI_1, nI_mul, nI_sub, shl_1, shl_1b]; with_reducible exact mn9b (by omega)))) ?_
              rintro v34 _ ⟨rfl, hxv34⟩
              exact Ok.ret ⟨rfl, True.intro⟩
            · try simp (disch := omega) only [li_0, li_1, li_2, li_3, li_4, li_5, li_6, li_7, li_8, li_9, li_10, li_20, li_30, li_82, li_91, li_273, li_380, li_400, li_512, li_1000, li_2457, li_4000, nI_add, nI_1, nI_mul, nI_sub, shl_1, shl_1b, nI_leP, nI_ltP, nI_eqP, Nat.not_le, Nat.not_lt] at c_11
              refine Ok.ite (fun c_13 => ?_) (fun c_13 => ?_)
              · try simp (disch := omega) only [li_0, li_1, li_2, li_3, li_4, li_5, li_6, li_7, li_8, li_9, li_10, li_20, li_30, li_82, li_91, li_273, li_380, li_400, li_512, li_1000, li_2457, li_4000, nI_add, nI_1, nI_mul, nI_sub, shl_1, shl_1b, nI_leP, nI_ltP, nI_eqP, Nat.not_le, Nat.not_lt] at c_13
                refine Ok.bd _ (rX12_parts hT (by first | with_reducible assumption | (simp (disch := omega) only [li_0, li_1, li_2, li_3, li_4, li_5, li_6, li_7, li_8, li_9, li_10, li_20, li_30, li_82, li_91, li_273, li_380, li_400, li_512, li_1000, li_2457, li_4000, nI_add, nI_1, nI_mul, nI_sub, shl_1, shl_1b, nI_or, nI_xor, nI_and]; with_reducible exact ⟨_, (by first | omega | exact or9 (by omega) (by omega) | exact xor9 (by omega) (by omega)), rfl⟩) | with_reducible exact ⟨_, (by first | omega | exact or9 (by omega) (by omega) | exact xor9 (by omega) (by omega)), rfl⟩ | exact IsR.mn (by first | with_reducible assumption | exact ⟨_, by omega, rfl⟩) (by first | with_reducible assumption | exact ⟨_, by omega, rfl⟩) | exact IsR.mx (by first | with_reducible assumption | exact ⟨_, by omega, rfl⟩) (by first | with_reducible assumption | exact ⟨_, by omega, rfl⟩) | with_reducible exact mn9 (by omega) | (simp (disch := omega) only [li_0, li_1, li_2, li_3, li_4, li_5, li_6, li_7, li_8, li_9, li_10, li_20, li_30, li_82, li_91, li_273, li_380, li_400, li_512, li_1000, li_2457, li_4000, nI_add, nI_1, nI_mul, nI_sub, shl_1, shl_1b]; with_reducible exact mn9b (by omega)))) ?_
                rintro v39 _ ⟨rfl, hxv39⟩
                exact Ok.ret ⟨rfl, True.intro⟩
              · try simp (disch := omega) only [li_0, li_1, li_2, li_3, li_4, li_5, li_6, li_7, li_8, li_9, li_10, li_20, li_30, li_82, li_91, li_273, li_380, li_400, li_512, li_1000, li_2457, li_4000, nI_add, nI_1, nI_mul, nI_sub, shl_1, shl_1b, nI_leP, nI_ltP, nI_eqP, Nat.not_le, Nat.not_lt] at c_13
                refine Ok.ite (fun c_15 => ?_) (fun c_15 => ?_)
                · try simp (disch := omega) only [li_0, li_1, li_2, li_3, li_4, li_5, li_6, li_7, li_8, li_9, li_10, li_20, li_30, li_82, li_91, li_273, li_380, li_400, li_512, li_1000, li_2457, li_4000, nI_add, nI_1, nI_mul, nI_sub, shl_1, shl_1b, nI_leP, nI_ltP, nI_eqP, Nat.not_le, Nat.not_lt] at c_15
                  refine Ok.bd _ (rX12_diameter hT (by first | with_reducible assumption | (simp (disch := omega) only [li_0, li_1, li_2, li_3, li_4, li_5, li_6, li_7, li_8, li_9, li_10, li_20, li_30, li_82, li_91, li_273, li_380, li_400, li_512, li_1000, li_2457, li_4000, nI_add, nI_1, nI_mul, nI_sub, shl_1, shl_1b, nI_or, nI_xor, nI_and]; with_reducible exact ⟨_, (by first | omega | exact or9 (by omega) (by omega) | exact xor9 (by omega) (by omega)), rfl⟩) | with_reducible exact ⟨_, (by first | omega | exact or9 (by omega) (by omega) | exact xor9 (by omega) (by omega)), rfl⟩ | exact IsR.mn (by first | with_reducible assumption | exact ⟨_, by omega, rfl⟩) (by first | with_reducible assumption | exact ⟨_, by omega, rfl⟩) | exact IsR.mx (by first | with_reducible assumption | exact ⟨_, by omega, rfl⟩) (by first | with_reducible assumption | exact ⟨_, by omega, rfl⟩) | with_reducible exact mn9 (by omega) | (simp (disch := omega) only [li_0, li_1, li_2, li_3, li_4, li_5, li_6, li_7, li_8, li_9, li_10, li_20, li_30, li_82, li_91, li_273, li_380, li_400, li_512, li_1000, li_2457, li_4000, nI_add, nI_1, nI_mul, nI_sub, shl_1, shl_1b]; with_reducible exact mn9b (by omega)))) ?_
                  rintro v44 _ ⟨rfl, hxv44⟩
                  exact Ok.ret ⟨rfl, True.intro⟩
                · try simp (disch := omega) only [li_0, li_1, li_2, li_3, li_4, li_5, li_6, li_7, li_8, li_9, li_10, li_20, li_30, li_82, li_91, li_273, li_380, li_400, li_512, li_1000, li_2457, li_4000, nI_add, nI_1, nI_mul, nI_sub, shl_1, shl_1b, nI_leP, nI_ltP, nI_eqP, Nat.not_le, Nat.not_lt] at c_15
                  refine Ok.bd _ (rX12_core hT (by first | with_reducible assumption | (simp (disch := omega) only [li_0, li_1, li_2, li_3, li_4, li_5, li_6, li_7, li_8, li_9, li_10, li_20, li_30, li_82, li_91, li_273, li_380, li_400, li_512, li_1000, li_2457, li_4000, nI_add, nI_1, nI_mul, nI_sub, shl_1, shl_1b, nI_or, nI_xor, nI_and]; with_reducible exact ⟨_, (by first | omega | exact or9 (by omega) (by omega) | exact xor9 (by omega) (by omega)), rfl⟩) | with_reducible exact ⟨_, (by first | omega | exact or9 (by omega) (by omega) | exact xor9 (by omega) (by omega)), rfl⟩ | exact IsR.mn (by first | with_reducible assumption | exact ⟨_, by omega, rfl⟩) (by first | with_reducible assumption | exact ⟨_, by omega, rfl⟩) | exact IsR.mx (by first | with_reducible assumption | exact ⟨_, by omega, rfl⟩) (by first | with_reducible assumption | exact ⟨_, by omega, rfl⟩) | with_reducible exact mn9 (by omega) | (simp (disch := omega) only [li_0, li_1, li_2, li_3, li_4, li_5, li_6, li_7, li_8, li_9, li_10, li_20, li_30, li_82, li_91, li_273, li_380, li_400, li_512, li_1000, li_2457, li_4000, nI_add, nI_1, nI_mul, nI_sub, shl_1, shl_1b]; with_reducible exact mn9b (by omega)))) ?_
                  rintro v48 _ ⟨rfl, hxv48⟩
                  exact Ok.ret ⟨rfl, True.intro⟩
set_option maxHeartbeats 4000000 in
set_option maxRecDepth 100000 in
theorem rX12_fault {t : St} (hT : TY t) {a : Int32} : Ok (FX12_fault a t) (fun r u => t = u ∧ (True)) := by
  unfold FX12_fault
  refine Ok.ite (fun c_1 => ?_) (fun c_1 => ?_)
  · try simp (disch := omega) only [li_0, li_1, li_2, li_3, li_4, li_5, li_6, li_7, li_8, li_9, li_10, li_20, li_30, li_82, li_91, li_273, li_380, li_400, li_512, li_1000, li_2457, li_4000, nI_add, nI_1, nI_mul, nI_sub, shl_1, shl_1b, nI_leP, nI_ltP, nI_eqP, Nat.not_le, Nat.not_lt] at c_1
    refine Ok.rd (fun v7 hv7 => ?_)
    exact Ok.ret ⟨rfl, True.intro⟩
  · try simp (disch := omega) only [li_0, li_1, li_2, li_3, li_4, li_5, li_6, li_7, li_8, li_9, li_10, li_20, li_30, li_82, li_91, li_273, li_380, li_400, li_512, li_1000, li_2457, li_4000, nI_add, nI_1, nI_mul, nI_sub, shl_1, shl_1b, nI_leP, nI_ltP, nI_eqP, Nat.not_le, Nat.not_lt] at c_1
    refine Ok.ite (fun c_2 => ?_) (fun c_2 => ?_)
    · try simp (disch := omega) only [li_0, li_1, li_2, li_3, li_4, li_5, li_6, li_7, li_8, li_9, li_10, li_20, li_30, li_82, li_91, li_273, li_380, li_400, li_512, li_1000, li_2457, li_4000, nI_add, nI_1, nI_mul, nI_sub, shl_1, shl_1b, nI_leP, nI_ltP, nI_eqP, Nat.not_le, Nat.not_lt] at c_2
      refine Ok.rd (fun v4 hv4 => ?_)
      exact Ok.ret ⟨rfl, True.intro⟩
    · try simp (disch := omega) only [li_0, li_1, li_2, li_3, li_4, li_5, li_6, li_7, li_8, li_9, li_10, li_20, li_30, li_82, li_91, li_273, li_380, li_400, li_512, li_1000, li_2457, li_4000, nI_add, nI_1, nI_mul, nI_sub, shl_1, shl_1b, nI_leP, nI_ltP, nI_eqP, Nat.not_le, Nat.not_lt] at c_2
      exact Ok.ret ⟨rfl, True.intro⟩
set_option maxHeartbeats 4000000 in
set_option maxRecDepth 100000 in
theorem rX12_split {t : St} (hT : TY t) {a : Int32} {b : Int32} {c : Int32} : Ok (FX12_split a b c t) (fun r u => t = u ∧ (True)) := by
  unfold FX12_split
  refine Ok.bd _ (rX12_isNet hT) ?_
  rintro v1 _ ⟨rfl, hbv1, hxv1⟩
  refine Ok.ite (fun c_2 => ?_) (fun c_2 => ?_)
  · skip
    exact Ok.ret ⟨rfl, True.intro⟩
  · obtain ⟨⟨kav1, hkav1, rfl⟩, hptv1⟩ := hxv1.resolve_left c_2
    refine Ok.bd _ (rX12_points hT (by first | with_reducible assumption | (simp (disch := omega) only [li_0, li_1, li_2, li_3, li_4, li_5, li_6, li_7, li_8, li_9, li_10, li_20, li_30, li_82, li_91, li_273, li_380, li_400, li_512, li_1000, li_2457, li_4000, nI_add, nI_1, nI_mul, nI_sub, shl_1, shl_1b, nI_or, nI_xor, nI_and]; with_reducible exact ⟨_, (by first | omega | exact or9 (by omega) (by omega) | exact xor9 (by omega) (by omega)), rfl⟩) | with_reducible exact ⟨_, (by first | omega | exact or9 (by omega) (by omega) | exact xor9 (by omega) (by omega)), rfl⟩ | exact IsR.mn (by first | with_reducible assumption | exact ⟨_, by omega, rfl⟩) (by first | with_reducible assumption | exact ⟨_, by omega, rfl⟩) | exact IsR.mx (by first | with_reducible assumption | exact ⟨_, by omega, rfl⟩) (by first | with_reducible assumption | exact ⟨_, by omega, rfl⟩) | with_reducible exact mn9 (by omega) | (simp (disch := omega) only [li_0, li_1, li_2, li_3, li_4, li_5, li_6, li_7, li_8, li_9, li_10, li_20, li_30, li_82, li_91, li_273, li_380, li_400, li_512, li_1000, li_2457, li_4000, nI_add, nI_1, nI_mul, nI_sub, shl_1, shl_1b]; with_reducible exact mn9b (by omega)))) ?_
    rintro _ _ ⟨rfl, kv6, hv6, rfl⟩
    refine Ok.bd _ (rX12_in hT) ?_
    rintro v9 _ ⟨rfl, hbv9, hxv9⟩
    refine Ok.ite (fun c_5 => ?_) (fun c_5 => ?_)
    · skip
      exact Ok.ret ⟨rfl, True.intro⟩
    · obtain hinv9 := hxv9.resolve_left c_5
      refine Ok.bd _ (rX12_in hT) ?_
      rintro v14 _ ⟨rfl, hbv14, hxv14⟩
      refine Ok.ite (fun c_7 => ?_) (fun c_7 => ?_)
      · skip
        exact Ok.ret ⟨rfl, True.intro⟩
      · obtain hinv14 := hxv14.resolve_left c_7
        refine Ok.bd _ (rX12_splitOf hT (by first | with_reducible assumption | (simp (disch := omega) only [li_0, li_1, li_2, li_3, li_4, li_5, li_6, li_7, li_8, li_9, li_10, li_20, li_30, li_82, li_91, li_273, li_380, li_400, li_512, li_1000, li_2457, li_4000, nI_add, nI_1, nI_mul, nI_sub, shl_1, shl_1b, nI_or, nI_xor, nI_and]; with_reducible exact ⟨_, (by first | omega | exact or9 (by omega) (by omega) | exact xor9 (by omega) (by omega)), rfl⟩) | with_reducible exact ⟨_, (by first | omega | exact or9 (by omega) (by omega) | exact xor9 (by omega) (by omega)), rfl⟩ | exact IsR.mn (by first | with_reducible assumption | exact ⟨_, by omega, rfl⟩) (by first | with_reducible assumption | exact ⟨_, by omega, rfl⟩) | exact IsR.mx (by first | with_reducible assumption | exact ⟨_, by omega, rfl⟩) (by first | with_reducible assumption | exact ⟨_, by omega, rfl⟩) | with_reducible exact mn9 (by omega) | (simp (disch := omega) only [li_0, li_1, li_2, li_3, li_4, li_5, li_6, li_7, li_8, li_9, li_10, li_20, li_30, li_82, li_91, li_273, li_380, li_400, li_512, li_1000, li_2457, li_4000, nI_add, nI_1, nI_mul, nI_sub, shl_1, shl_1b]; with_reducible exact mn9b (by omega)))) ?_
        rintro v19 _ ⟨rfl, hxv19⟩
        exact Ok.ret ⟨rfl, True.intro⟩
set_option maxHeartbeats 4000000 in
set_option maxRecDepth 100000 in
theorem rSX12_bag_67 {t : St} (hT : TY t) {w1 : Int32} (h_w1 : IsR 3 w1) {w5 : Int32} {a0 : Int32} {a1 : Int32} (h_a1 : IsR 5001 a1) : Ok (wh (SX12_bag_67 w1 w5) (a0, a1) t) (fun r u => t = u ∧ (True)) := by
  obtain ⟨j0, hj0, rfl⟩ := h_a1
  refine Ok.loop (fun k c s => t = s ∧ (∃ j, c.2 = nI j ∧ j ≤ 5000 ∧ 0 ≤ j ∧ k = 5000 - j)) ?_ (5000 - j0) _ _ ⟨rfl, ⟨j0, rfl, by omega, by omega, rfl⟩⟩
  obtain ⟨k_w1, h_w1, rfl⟩ := h_w1
  clear hj0
  intro k c s hI
  obtain ⟨rfl, ⟨j, ej, hj, hlo, rfl⟩⟩ := hI
  obtain ⟨c0, c1⟩ := c
  dsimp only at ej
  subst ej
  unfold SX12_bag_67
  dsimp only
  refine Ok.bd _ (rX12_points hT (by first | with_reducible assumption | (simp (disch := omega) only [li_0, li_1, li_2, li_3, li_4, li_5, li_6, li_7, li_8, li_9, li_10, li_20, li_30, li_82, li_91, li_273, li_380, li_400, li_512, li_1000, li_2457, li_4000, nI_add, nI_1, nI_mul, nI_sub, shl_1, shl_1b, nI_or, nI_xor, nI_and]; with_reducible exact ⟨_, (by first | omega | exact or9 (by omega) (by omega) | exact xor9 (by omega) (by omega)), rfl⟩) | with_reducible exact ⟨_, (by first | omega | exact or9 (by omega) (by omega) | exact xor9 (by omega) (by omega)), rfl⟩ | exact IsR.mn (by first | with_reducible assumption | exact ⟨_, by omega, rfl⟩) (by first | with_reducible assumption | exact ⟨_, by omega, rfl⟩) | exact IsR.mx (by first | with_reducible assumption | exact ⟨_, by omega, rfl⟩) (by first | with_reducible assumption | exact ⟨_, by omega, rfl⟩) | with_reducible exact mn9 (by omega) | (simp (disch := omega) only [li_0, li_1, li_2, li_3, li_4, li_5, li_6, li_7, li_8, li_9, li_10, li_20, li_30, li_82, li_91, li_273, li_380, li_400, li_512, li_1000, li_2457, li_4000, nI_add, nI_1, nI_mul, nI_sub, shl_1, shl_1b]; with_reducible exact mn9b (by omega)))) ?_
  rintro _ _ ⟨rfl, kv17, hv17, rfl⟩
  refine Ok.ite (fun c_2 => ?_) (fun c_2 => ?_)
  · try simp (disch := omega) only [li_0, li_1, li_2, li_3, li_4, li_5, li_6, li_7, li_8, li_9, li_10, li_20, li_30, li_82, li_91, li_273, li_380, li_400, li_512, li_1000, li_2457, li_4000, nI_add, nI_1, nI_mul, nI_sub, shl_1, shl_1b, nI_leP, nI_ltP, nI_eqP, Nat.not_le, Nat.not_lt] at c_2
    exact Ok.ret ⟨rfl, True.intro⟩
  · try simp (disch := omega) only [li_0, li_1, li_2, li_3, li_4, li_5, li_6, li_7, li_8, li_9, li_10, li_20, li_30, li_82, li_91, li_273, li_380, li_400, li_512, li_1000, li_2457, li_4000, nI_add, nI_1, nI_mul, nI_sub, shl_1, shl_1b, nI_leP, nI_ltP, nI_eqP, Nat.not_le, Nat.not_lt] at c_2
    refine Ok.bd _ (rX12_has hT) ?_
    rintro v21 _ ⟨rfl, hbv21, hxv21⟩
    refine Ok.bd (fun (v25 : Int32) t26 => t = t26 ∧ (True)) ?_ ?_
    · refine Ok.ite (fun c_4 => ?_) (fun c_4 => ?_)
      · try simp (disch := omega) only [li_0, li_1, li_2, li_3, li_4, li_5, li_6, li_7, li_8, li_9, li_10, li_20, li_30, li_82, li_91, li_273, li_380, li_400, li_512, li_1000, li_2457, li_4000, nI_add, nI_1, nI_mul, nI_sub, shl_1, shl_1b, nI_leP, nI_ltP, nI_eqP, Nat.not_le, Nat.not_lt] at c_4
        exact Ok.ret ⟨rfl, True.intro⟩
      · try simp (disch := omega) only [li_0, li_1, li_2, li_3, li_4, li_5, li_6, li_7, li_8, li_9, li_10, li_20, li_30, li_82, li_91, li_273, li_380, li_400, li_512, li_1000, li_2457, li_4000, nI_add, nI_1, nI_mul, nI_sub, shl_1, shl_1b, nI_leP, nI_ltP, nI_eqP, Nat.not_le, Nat.not_lt] at c_4
        refine Ok.bd _ (rX12_nearOf hT (by first | with_reducible assumption | (simp (disch := omega) only [li_0, li_1, li_2, li_3, li_4, li_5, li_6, li_7, li_8, li_9, li_10, li_20, li_30, li_82, li_91, li_273, li_380, li_400, li_512, li_1000, li_2457, li_4000, nI_add, nI_1, nI_mul, nI_sub, shl_1, shl_1b, nI_or, nI_xor, nI_and]; with_reducible exact ⟨_, (by first | omega | exact or9 (by omega) (by omega) | exact xor9 (by omega) (by omega)), rfl⟩) | with_reducible exact ⟨_, (by first | omega | exact or9 (by omega) (by omega) | exact xor9 (by omega) (by omega)), rfl⟩ | exact IsR.mn (by first | with_reducible assumption | exact ⟨_, by omega, rfl⟩) (by first | with_reducible assumption | exact ⟨_, by omega, rfl⟩) | exact IsR.mx (by first | with_reducible assumption | exact ⟨_, by omega, rfl⟩) (by first | with_reducible assumption | exact ⟨_, by omega, rfl⟩) | with_reducible exact mn9 (by omega) | (simp (disch := omega) only [li_0, li_1, li_2, li_3, li_4, li_5, li_6, li_7, li_8, li_9, li_10, li_20, li_30, li_82, li_91, li_273, li_380, li_400, li_512, li_1000, li_2457, li_4000, nI_add, nI_1, nI_mul, nI_sub, shl_1, shl_1b]; with_reducible exact mn9b (by omega))) (by first | with_reducible assumption | (simp (disch := omega) only [li_0, li_1, li_2, li_3, li_4, li_5, li_6, li_7, li_8, li_9, li_10, li_20, li_30, li_82, li_91, li_273, li_380, li_400, li_512, li_1000, li_2457, li_4000, nI_add, nI_1, nI_mul, nI_sub, shl_1, shl_1b, nI_or, nI_xor, nI_and]; with_reducible exact ⟨_, (by first | omega | exact or9 (by omega) (by omega) | exact xor9 (by omega) (by omega)), rfl⟩) | with_reducible exact ⟨_, (by first | omega | exact or9 (by omega) (by omega) | exact xor9 (by omega) (by omega)), rfl⟩ | exact IsR.mn (by first | with_reducible assumption | exact ⟨_, by omega, rfl⟩) (by first | with_reducible assumption | exact ⟨_, by omega, rfl⟩) | exact IsR.mx (by first | with_reducible assumption | exact ⟨_, by omega, rfl⟩) (by first | with_reducible assumption | exact ⟨_, by omega, rfl⟩) | with_reducible exact mn9 (by omega) | (simp (disch := omega) only [li_0, li_1, li_2, li_3, li_4, li_5, li_6, li_7, li_8, li_9, li_10, li_20, li_30, li_82, li_91, li_273, li_380, li_400, li_512, li_1000, li_2457, li_4000, nI_add, nI_1, nI_mul, nI_sub, shl_1, shl_1b]; with_reducible exact mn9b (by omega)))) ?_
        rintro v29 _ ⟨rfl, hxv29⟩
        refine Ok.ite (fun c_6 => ?_) (fun c_6 => ?_)
        · try simp (disch := omega) only [li_0, li_1, li_2, li_3, li_4, li_5, li_6, li_7, li_8, li_9, li_10, li_20, li_30, li_82, li_91, li_273, li_380, li_400, li_512, li_1000, li_2457, li_4000, nI_add, nI_1, nI_mul, nI_sub, shl_1, shl_1b, nI_leP, nI_ltP, nI_eqP, Nat.not_le, Nat.not_lt] at c_6
          exact Ok.ret ⟨rfl, True.intro⟩
        · try simp (disch := omega) only [li_0, li_1, li_2, li_3, li_4, li_5, li_6, li_7, li_8, li_9, li_10, li_20, li_30, li_82, li_91, li_273, li_380, li_400, li_512, li_1000, li_2457, li_4000, nI_add, nI_1, nI_mul, nI_sub, shl_1, shl_1b, nI_leP, nI_ltP, nI_eqP, Nat.not_le, Nat.not_lt] at c_6
          exact Ok.ret ⟨rfl, True.intro⟩
    · intro v25 t26 hx
      obtain ⟨rfl, hxv25⟩ := hx
      exact Ok.ret ⟨5000 - (j + 1), by omega, rfl, ⟨j + 1, nI_1 j, by omega, by omega, rfl⟩⟩
set_option maxHeartbeats 4000000 in
set_option maxRecDepth 100000 in
theorem rX12_bag {t : St} (hT : TY t) {a : Int32} {b : Int32} {c : Int32} : Ok (FX12_bag a b c t) (fun r u => t = u ∧ (True)) := by
  unfold FX12_bag
  refine Ok.bd _ (rX12_isPoint hT) ?_
  rintro v1 _ ⟨rfl, hbv1, hxv1⟩
  refine Ok.ite (fun c_2 => ?_) (fun c_2 => ?_)
  · skip
    exact Ok.ret ⟨rfl, True.intro⟩
  · obtain ⟨⟨kav1, hkav1, rfl⟩, ⟨kbv1, hkbv1, rfl⟩, hptv1⟩ := hxv1.resolve_left c_2
    refine Ok.bd _ (rX12_in hT) ?_
    rintro v6 _ ⟨rfl, hbv6, hxv6⟩
    refine Ok.ite (fun c_4 => ?_) (fun c_4 => ?_)
    · skip
      exact Ok.ret ⟨rfl, True.intro⟩
    · obtain hinv6 := hxv6.resolve_left c_4
      refine Ok.bd _ (rX12_at hT (by first | with_reducible assumption | (simp (disch := omega) only [li_0, li_1, li_2, li_3, li_4, li_5, li_6, li_7, li_8, li_9, li_10, li_20, li_30, li_82, li_91, li_273, li_380, li_400, li_512, li_1000, li_2457, li_4000, nI_add, nI_1, nI_mul, nI_sub, shl_1, shl_1b, nI_or, nI_xor, nI_and]; with_reducible exact ⟨_, (by first | omega | exact or9 (by omega) (by omega) | exact xor9 (by omega) (by omega)), rfl⟩) | with_reducible exact ⟨_, (by first | omega | exact or9 (by omega) (by omega) | exact xor9 (by omega) (by omega)), rfl⟩ | exact IsR.mn (by first | with_reducible assumption | exact ⟨_, by omega, rfl⟩) (by first | with_reducible assumption | exact ⟨_, by omega, rfl⟩) | exact IsR.mx (by first | with_reducible assumption | exact ⟨_, by omega, rfl⟩) (by first | with_reducible assumption | exact ⟨_, by omega, rfl⟩) | with_reducible exact mn9 (by omega) | (simp (disch := omega) only [li_0, li_1, li_2, li_3, li_4, li_5, li_6, li_7, li_8, li_9, li_10, li_20, li_30, li_82, li_91, li_273, li_380, li_400, li_512, li_1000, li_2457, li_4000, nI_add, nI_1, nI_mul, nI_sub, shl_1, shl_1b]; with_reducible exact mn9b (by omega))) (by first | with_reducible assumption | (simp (disch := omega) only [li_0, li_1, li_2, li_3, li_4, li_5, li_6, li_7, li_8, li_9, li_10, li_20, li_30, li_82, li_91, li_273, li_380, li_400, li_512, li_1000, li_2457, li_4000, nI_add, nI_1, nI_mul, nI_sub, shl_1, shl_1b, nI_or, nI_xor, nI_and]; with_reducible exact ⟨_, (by first | omega | exact or9 (by omega) (by omega) | exact xor9 (by omega) (by omega)), rfl⟩) | with_reducible exact ⟨_, (by first | omega | exact or9 (by omega) (by omega) | exact xor9 (by omega) (by omega)), rfl⟩ | exact IsR.mn (by first | with_reducible assumption | exact ⟨_, by omega, rfl⟩) (by first | with_reducible assumption | exact ⟨_, by omega, rfl⟩) | exact IsR.mx (by first | with_reducible assumption | exact ⟨_, by omega, rfl⟩) (by first | with_reducible assumption | exact ⟨_, by omega, rfl⟩) | with_reducible exact mn9 (by omega) | (simp (disch := omega) only [li_0, li_1, li_2, li_3, li_4, li_5, li_6, li_7, li_8, li_9, li_10, li_20, li_30, li_82, li_91, li_273, li_380, li_400, li_512, li_1000, li_2457, li_4000, nI_add, nI_1, nI_mul, nI_sub, shl_1, shl_1b]; with_reducible exact mn9b (by omega)))) ?_
      rintro _ _ ⟨rfl, kv10, hv10, rfl⟩
      refine Ok.bd _ (rX12_aheadOf hT (by first | with_reducible assumption | (simp (disch := omega) only [li_0, li_1, li_2, li_3, li_4, li_5, li_6, li_7, li_8, li_9, li_10, li_20, li_30, li_82, li_91, li_273, li_380, li_400, li_512, li_1000, li_2457, li_4000, nI_add, nI_1, nI_mul, nI_sub, shl_1, shl_1b, nI_or, nI_xor, nI_and]; with_reducible exact ⟨_, (by first | omega | exact or9 (by omega) (by omega) | exact xor9 (by omega) (by omega)), rfl⟩) | with_reducible exact ⟨_, (by first | omega | exact or9 (by omega) (by omega) | exact xor9 (by omega) (by omega)), rfl⟩ | exact IsR.mn (by first | with_reducible assumption | exact ⟨_, by omega, rfl⟩) (by first | with_reducible assumption | exact ⟨_, by omega, rfl⟩) | exact IsR.mx (by first | with_reducible assumption | exact ⟨_, by omega, rfl⟩) (by first | with_reducible assumption | exact ⟨_, by omega, rfl⟩) | with_reducible exact mn9 (by omega) | (simp (disch := omega) only [li_0, li_1, li_2, li_3, li_4, li_5, li_6, li_7, li_8, li_9, li_10, li_20, li_30, li_82, li_91, li_273, li_380, li_400, li_512, li_1000, li_2457, li_4000, nI_add, nI_1, nI_mul, nI_sub, shl_1, shl_1b]; with_reducible exact mn9b (by omega))) (by first | with_reducible assumption | (simp (disch := omega) only [li_0, li_1, li_2, li_3, li_4, li_5, li_6, li_7, li_8, li_9, li_10, li_20, li_30, li_82, li_91, li_273, li_380, li_400, li_512, li_1000, li_2457, li_4000, nI_add, nI_1, nI_mul, nI_sub, shl_1, shl_1b, nI_or, nI_xor, nI_and]; with_reducible exact ⟨_, (by first | omega | exact or9 (by omega) (by omega) | exact xor9 (by omega) (by omega)), rfl⟩) | with_reducible exact ⟨_, (by first | omega | exact or9 (by omega) (by omega) | exact xor9 (by omega) (by omega)), rfl⟩ | exact IsR.mn (by first | with_reducible assumption | exact ⟨_, by omega, rfl⟩) (by first | with_reducible assumption | exact ⟨_, by omega, rfl⟩) | exact IsR.mx (by first | with_reducible assumption | exact ⟨_, by omega, rfl⟩) (by first | with_reducible assumption | exact ⟨_, by omega, rfl⟩) | with_reducible exact mn9 (by omega) | (simp (disch := omega) only [li_0, li_1, li_2, li_3, li_4, li_5, li_6, li_7, li_8, li_9, li_10, li_20, li_30, li_82, li_91, li_273, li_380, li_400, li_512, li_1000, li_2457, li_4000, nI_add, nI_1, nI_mul, nI_sub, shl_1, shl_1b]; with_reducible exact mn9b (by omega)))) ?_
      rintro v13 _ ⟨rfl, hxv13⟩
      refine Ok.ite (fun c_7 => ?_) (fun c_7 => ?_)
      · try simp (disch := omega) only [li_0, li_1, li_2, li_3, li_4, li_5, li_6, li_7, li_8, li_9, li_10, li_20, li_30, li_82, li_91, li_273, li_380, li_400, li_512, li_1000, li_2457, li_4000, nI_add, nI_1, nI_mul, nI_sub, shl_1, shl_1b, nI_leP, nI_ltP, nI_eqP, Nat.not_le, Nat.not_lt] at c_7
        refine Ok.bd _ (rX12_neighbours hT (by first | with_reducible assumption | (simp (disch := omega) only [li_0, li_1, li_2, li_3, li_4, li_5, li_6, li_7, li_8, li_9, li_10, li_20, li_30, li_82, li_91, li_273, li_380, li_400, li_512, li_1000, li_2457, li_4000, nI_add, nI_1, nI_mul, nI_sub, shl_1, shl_1b, nI_or, nI_xor, nI_and]; with_reducible exact ⟨_, (by first | omega | exact or9 (by omega) (by omega) | exact xor9 (by omega) (by omega)), rfl⟩) | with_reducible exact ⟨_, (by first | omega | exact or9 (by omega) (by omega) | exact xor9 (by omega) (by omega)), rfl⟩ | exact IsR.mn (by first | with_reducible assumption | exact ⟨_, by omega, rfl⟩) (by first | with_reducible assumption | exact ⟨_, by omega, rfl⟩) | exact IsR.mx (by first | with_reducible assumption | exact ⟨_, by omega, rfl⟩) (by first | with_reducible assumption | exact ⟨_, by omega, rfl⟩) | with_reducible exact mn9 (by omega) | (simp (disch := omega) only [li_0, li_1, li_2, li_3, li_4, li_5, li_6, li_7, li_8, li_9, li_10, li_20, li_30, li_82, li_91, li_273, li_380, li_400, li_512, li_1000, li_2457, li_4000, nI_add, nI_1, nI_mul, nI_sub, shl_1, shl_1b]; with_reducible exact mn9b (by omega))) (by first | with_reducible assumption | (simp (disch := omega) only [li_0, li_1, li_2, li_3, li_4, li_5, li_6, li_7, li_8, li_9, li_10, li_20, li_30, li_82, li_91, li_273, li_380, li_400, li_512, li_1000, li_2457, li_4000, nI_add, nI_1, nI_mul, nI_sub, shl_1, shl_1b, nI_or, nI_xor, nI_and]; with_reducible exact ⟨_, (by first | omega | exact or9 (by omega) (by omega) | exact xor9 (by omega) (by omega)), rfl⟩) | with_reducible exact ⟨_, (by first | omega | exact or9 (by omega) (by omega) | exact xor9 (by omega) (by omega)), rfl⟩ | exact IsR.mn (by first | with_reducible assumption | exact ⟨_, by omega, rfl⟩) (by first | with_reducible assumption | exact ⟨_, by omega, rfl⟩) | exact IsR.mx (by first | with_reducible assumption | exact ⟨_, by omega, rfl⟩) (by first | with_reducible assumption | exact ⟨_, by omega, rfl⟩) | with_reducible exact mn9 (by omega) | (simp (disch := omega) only [li_0, li_1, li_2, li_3, li_4, li_5, li_6, li_7, li_8, li_9, li_10, li_20, li_30, li_82, li_91, li_273, li_380, li_400, li_512, li_1000, li_2457, li_4000, nI_add, nI_1, nI_mul, nI_sub, shl_1, shl_1b]; with_reducible exact mn9b (by omega)))) ?_
        rintro v38 _ ⟨rfl, hxv38⟩
        exact Ok.ret ⟨rfl, True.intro⟩
      · try simp (disch := omega) only [li_0, li_1, li_2, li_3, li_4, li_5, li_6, li_7, li_8, li_9, li_10, li_20, li_30, li_82, li_91, li_273, li_380, li_400, li_512, li_1000, li_2457, li_4000, nI_add, nI_1, nI_mul, nI_sub, shl_1, shl_1b, nI_leP, nI_ltP, nI_eqP, Nat.not_le, Nat.not_lt] at c_7
        refine Ok.bd _ (rSX12_bag_67 hT (by first | with_reducible assumption | (simp (disch := omega) only [li_0, li_1, li_2, li_3, li_4, li_5, li_6, li_7, li_8, li_9, li_10, li_20, li_30, li_82, li_91, li_273, li_380, li_400, li_512, li_1000, li_2457, li_4000, nI_add, nI_1, nI_mul, nI_sub, shl_1, shl_1b, nI_or, nI_xor, nI_and]; with_reducible exact ⟨_, (by first | omega | exact or9 (by omega) (by omega) | exact xor9 (by omega) (by omega)), rfl⟩) | with_reducible exact ⟨_, (by first | omega | exact or9 (by omega) (by omega) | exact xor9 (by omega) (by omega)), rfl⟩ | exact IsR.mn (by first | with_reducible assumption | exact ⟨_, by omega, rfl⟩) (by first | with_reducible assumption | exact ⟨_, by omega, rfl⟩) | exact IsR.mx (by first | with_reducible assumption | exact ⟨_, by omega, rfl⟩) (by first | with_reducible assumption | exact ⟨_, by omega, rfl⟩) | with_reducible exact mn9 (by omega) | (simp (disch := omega) only [li_0, li_1, li_2, li_3, li_4, li_5, li_6, li_7, li_8, li_9, li_10, li_20, li_30, li_82, li_91, li_273, li_380, li_400, li_512, li_1000, li_2457, li_4000, nI_add, nI_1, nI_mul, nI_sub, shl_1, shl_1b]; with_reducible exact mn9b (by omega))) (by show IsR 5001 _; first | with_reducible assumption | (simp (disch := omega) only [li_0, li_1, li_2, li_3, li_4, li_5, li_6, li_7, li_8, li_9, li_10, li_20, li_30, li_82, li_91, li_273, li_380, li_400, li_512, li_1000, li_2457, li_4000, nI_add, nI_1, nI_mul, nI_sub, shl_1, shl_1b, nI_or, nI_xor, nI_and]; with_reducible exact ⟨_, (by first | omega | exact or9 (by omega) (by omega) | exact xor9 (by omega) (by omega)), rfl⟩) | with_reducible exact ⟨_, (by first | omega | exact or9 (by omega) (by omega) | exact xor9 (by omega) (by omega)), rfl⟩ | exact IsR.mn (by first | with_reducible assumption | exact ⟨_, by omega, rfl⟩) (by first | with_reducible assumption | exact ⟨_, by omega, rfl⟩) | exact IsR.mx (by first | with_reducible assumption | exact ⟨_, by omega, rfl⟩) (by first | with_reducible assumption | exact ⟨_, by omega, rfl⟩) | with_reducible exact mn9 (by omega) | (simp (disch := omega) only [li_0, li_1, li_2, li_3, li_4, li_5, li_6, li_7, li_8, li_9, li_10, li_20, li_30, li_82, li_91, li_273, li_380, li_400, li_512, li_1000, li_2457, li_4000, nI_add, nI_1, nI_mul, nI_sub, shl_1, shl_1b]; with_reducible exact mn9b (by omega)))) ?_
        rintro e33 _ ⟨rfl, hxe33⟩
        exact Ok.ret ⟨rfl, True.intro⟩
set_option maxHeartbeats 4000000 in
set_option maxRecDepth 100000 in
theorem rSX12_filled_75 {t : St} (hT : TY t) {w1 : Int32} (h_w1 : IsR 3 w1) {w2 : Int32} {w4 : Int32} (h_w4 : IsR 9 w4) {w5 : Int32} {w6 : Int32} {w7 : Int32} (h_w7 : IsR 9 w7) {a0 : Int32} {a1 : Int32} (h_a1 : IsR 5001 a1) : Ok (wh (SX12_filled_75 w1 w2 w4 w5 w6 w7) (a0, a1) t) (fun r u => t = u ∧ (Sum.elim (fun v => True) (fun e => True) r)) := by
  obtain ⟨j0, hj0, rfl⟩ := h_a1
  refine Ok.loop (fun k c s => t = s ∧ (∃ j, c.2 = nI j ∧ j ≤ 5000 ∧ 0 ≤ j ∧ k = 5000 - j)) ?_ (5000 - j0) _ _ ⟨rfl, ⟨j0, rfl, by omega, by omega, rfl⟩⟩
  obtain ⟨k_w1, h_w1, rfl⟩ := h_w1
  obtain ⟨k_w4, h_w4, rfl⟩ := h_w4
  obtain ⟨k_w7, h_w7, rfl⟩ := h_w7
  clear hj0
  intro k c s hI
  obtain ⟨rfl, ⟨j, ej, hj, hlo, rfl⟩⟩ := hI
  obtain ⟨c0, c1⟩ := c
  dsimp only at ej
  subst ej
  unfold SX12_filled_75
  dsimp only
  refine Ok.bd _ (rX12_points hT (by first | with_reducible assumption | (simp (disch := omega) only [li_0, li_1, li_2, li_3, li_4, li_5, li_6, li_7, li_8, li_9, li_10, li_20, li_30, li_82, li_91, li_273, li_380, li_400, li_512, li_1000, li_2457, li_4000, nI_add, nI_1, nI_mul, nI_sub, shl_1, shl_1b, nI_or, nI_xor, nI_and]; with_reducible exact ⟨_, (by first | omega | exact or9 (by omega) (by omega) | exact xor9 (by omega) (by omega)), rfl⟩) | with_reducible exact ⟨_, (by first | omega | exact or9 (by omega) (by omega) | exact xor9 (by omega) (by omega)), rfl⟩ | exact IsR.mn (by first | with_reducible assumption | exact ⟨_, by omega, rfl⟩) (by first | with_reducible assumption | exact ⟨_, by omega, rfl⟩) | exact IsR.mx (by first | with_reducible assumption | exact ⟨_, by omega, rfl⟩) (by first | with_reducible assumption | exact ⟨_, by omega, rfl⟩) | with_reducible exact mn9 (by omega) | (simp (disch := omega) only [li_0, li_1, li_2, li_3, li_4, li_5, li_6, li_7, li_8, li_9, li_10, li_20, li_30, li_82, li_91, li_273, li_380, li_400, li_512, li_1000, li_2457, li_4000, nI_add, nI_1, nI_mul, nI_sub, shl_1, shl_1b]; with_reducible exact mn9b (by omega)))) ?_
  rintro _ _ ⟨rfl, kv24, hv24, rfl⟩
  refine Ok.ite (fun c_2 => ?_) (fun c_2 => ?_)
  · try simp (disch := omega) only [li_0, li_1, li_2, li_3, li_4, li_5, li_6, li_7, li_8, li_9, li_10, li_20, li_30, li_82, li_91, li_273, li_380, li_400, li_512, li_1000, li_2457, li_4000, nI_add, nI_1, nI_mul, nI_sub, shl_1, shl_1b, nI_leP, nI_ltP, nI_eqP, Nat.not_le, Nat.not_lt] at c_2
    exact Ok.ret ⟨rfl, True.intro⟩
  · try simp (disch := omega) only [li_0, li_1, li_2, li_3, li_4, li_5, li_6, li_7, li_8, li_9, li_10, li_20, li_30, li_82, li_91, li_273, li_380, li_400, li_512, li_1000, li_2457, li_4000, nI_add, nI_1, nI_mul, nI_sub, shl_1, shl_1b, nI_leP, nI_ltP, nI_eqP, Nat.not_le, Nat.not_lt] at c_2
    refine Ok.bd _ (rX12_has hT) ?_
    rintro v28 _ ⟨rfl, hbv28, hxv28⟩
    refine Ok.ite (fun c_4 => ?_) (fun c_4 => ?_)
    · try simp (disch := omega) only [li_0, li_1, li_2, li_3, li_4, li_5, li_6, li_7, li_8, li_9, li_10, li_20, li_30, li_82, li_91, li_273, li_380, li_400, li_512, li_1000, li_2457, li_4000, nI_add, nI_1, nI_mul, nI_sub, shl_1, shl_1b, nI_leP, nI_ltP, nI_eqP, Nat.not_le, Nat.not_lt] at c_4
      exact Ok.ret ⟨5000 - (j + 1), by omega, rfl, ⟨j + 1, nI_1 j, by omega, by omega, rfl⟩⟩
    · try simp (disch := omega) only [li_0, li_1, li_2, li_3, li_4, li_5, li_6, li_7, li_8, li_9, li_10, li_20, li_30, li_82, li_91, li_273, li_380, li_400, li_512, li_1000, li_2457, li_4000, nI_add, nI_1, nI_mul, nI_sub, shl_1, shl_1b, nI_leP, nI_ltP, nI_eqP, Nat.not_le, Nat.not_lt] at c_4
      refine Ok.bd _ (rX12_has hT) ?_
      rintro v32 _ ⟨rfl, hbv32, hxv32⟩
      refine Ok.ite (fun c_6 => ?_) (fun c_6 => ?_)
      · try simp (disch := omega) only [li_0, li_1, li_2, li_3, li_4, li_5, li_6, li_7, li_8, li_9, li_10, li_20, li_30, li_82, li_91, li_273, li_380, li_400, li_512, li_1000, li_2457, li_4000, nI_add, nI_1, nI_mul, nI_sub, shl_1, shl_1b, nI_leP, nI_ltP, nI_eqP, Nat.not_le, Nat.not_lt] at c_6
        exact Ok.ret ⟨5000 - (j + 1), by omega, rfl, ⟨j + 1, nI_1 j, by omega, by omega, rfl⟩⟩
      · try simp (disch := omega) only [li_0, li_1, li_2, li_3, li_4, li_5, li_6, li_7, li_8, li_9, li_10, li_20, li_30, li_82, li_91, li_273, li_380, li_400, li_512, li_1000, li_2457, li_4000, nI_add, nI_1, nI_mul, nI_sub, shl_1, shl_1b, nI_leP, nI_ltP, nI_eqP, Nat.not_le, Nat.not_lt] at c_6
        refine Ok.bd _ (rX12_neighbours hT (by first | with_reducible assumption | (simp (disch := omega) only [li_0, li_1, li_2, li_3, li_4, li_5, li_6, li_7, li_8, li_9, li_10, li_20, li_30, li_82, li_91, li_273, li_380, li_400, li_512, li_1000, li_2457, li_4000, nI_add, nI_1, nI_mul, nI_sub, shl_1, shl_1b, nI_or, nI_xor, nI_and]; with_reducible exact ⟨_, (by first | omega | exact or9 (by omega) (by omega) | exact xor9 (by omega) (by omega)), rfl⟩) | with_reducible exact ⟨_, (by first | omega | exact or9 (by omega) (by omega) | exact xor9 (by omega) (by omega)), rfl⟩ | exact IsR.mn (by first | with_reducible assumption | exact ⟨_, by omega, rfl⟩) (by first | with_reducible assumption | exact ⟨_, by omega, rfl⟩) | exact IsR.mx (by first | with_reducible assumption | exact ⟨_, by omega, rfl⟩) (by first | with_reducible assumption | exact ⟨_, by omega, rfl⟩) | with_reducible exact mn9 (by omega) | (simp (disch := omega) only [li_0, li_1, li_2, li_3, li_4, li_5, li_6, li_7, li_8, li_9, li_10, li_20, li_30, li_82, li_91, li_273, li_380, li_400, li_512, li_1000, li_2457, li_4000, nI_add, nI_1, nI_mul, nI_sub, shl_1, shl_1b]; with_reducible exact mn9b (by omega))) (by first | with_reducible assumption | (simp (disch := omega) only [li_0, li_1, li_2, li_3, li_4, li_5, li_6, li_7, li_8, li_9, li_10, li_20, li_30, li_82, li_91, li_273, li_380, li_400, li_512, li_1000, li_2457, li_4000, nI_add, nI_1, nI_mul, nI_sub, shl_1, shl_1b, nI_or, nI_xor, nI_and]; with_reducible exact ⟨_, (by first | omega | exact or9 (by omega) (by omega) | exact xor9 (by omega) (by omega)), rfl⟩) | with_reducible exact ⟨_, (by first | omega | exact or9 (by omega) (by omega) | exact xor9 (by omega) (by omega)), rfl⟩ | exact IsR.mn (by first | with_reducible assumption | exact ⟨_, by omega, rfl⟩) (by first | with_reducible assumption | exact ⟨_, by omega, rfl⟩) | exact IsR.mx (by first | with_reducible assumption | exact ⟨_, by omega, rfl⟩) (by first | with_reducible assumption | exact ⟨_, by omega, rfl⟩) | with_reducible exact mn9 (by omega) | (simp (disch := omega) only [li_0, li_1, li_2, li_3, li_4, li_5, li_6, li_7, li_8, li_9, li_10, li_20, li_30, li_82, li_91, li_273, li_380, li_400, li_512, li_1000, li_2457, li_4000, nI_add, nI_1, nI_mul, nI_sub, shl_1, shl_1b]; with_reducible exact mn9b (by omega)))) ?_
        rintro v36 _ ⟨rfl, hxv36⟩
        refine Ok.bd _ (rX12_has hT) ?_
        rintro v39 _ ⟨rfl, hbv39, hxv39⟩
        refine Ok.ite (fun c_9 => ?_) (fun c_9 => ?_)
        · try simp (disch := omega) only [li_0, li_1, li_2, li_3, li_4, li_5, li_6, li_7, li_8, li_9, li_10, li_20, li_30, li_82, li_91, li_273, li_380, li_400, li_512, li_1000, li_2457, li_4000, nI_add, nI_1, nI_mul, nI_sub, shl_1, shl_1b, nI_leP, nI_ltP, nI_eqP, Nat.not_le, Nat.not_lt] at c_9
          refine Ok.ite (fun c_10 => ?_) (fun c_10 => ?_)
          · try simp (disch := omega) only [li_0, li_1, li_2, li_3, li_4, li_5, li_6, li_7, li_8, li_9, li_10, li_20, li_30, li_82, li_91, li_273, li_380, li_400, li_512, li_1000, li_2457, li_4000, nI_add, nI_1, nI_mul, nI_sub, shl_1, shl_1b, nI_leP, nI_ltP, nI_eqP, Nat.not_le, Nat.not_lt] at c_10
            exact Ok.ret ⟨rfl, True.intro⟩
          · try simp (disch := omega) only [li_0, li_1, li_2, li_3, li_4, li_5, li_6, li_7, li_8, li_9, li_10, li_20, li_30, li_82, li_91, li_273, li_380, li_400, li_512, li_1000, li_2457, li_4000, nI_add, nI_1, nI_mul, nI_sub, shl_1, shl_1b, nI_leP, nI_ltP, nI_eqP, Nat.not_le, Nat.not_lt] at c_10
            exact Ok.ret ⟨5000 - (j + 1), by omega, rfl, ⟨j + 1, nI_1 j, by omega, by omega, rfl⟩⟩
        · try simp (disch := omega) only [li_0, li_1, li_2, li_3, li_4, li_5, li_6, li_7, li_8, li_9, li_10, li_20, li_30, li_82, li_91, li_273, li_380, li_400, li_512, li_1000, li_2457, li_4000, nI_add, nI_1, nI_mul, nI_sub, shl_1, shl_1b, nI_leP, nI_ltP, nI_eqP, Nat.not_le, Nat.not_lt] at c_9
          exact Ok.ret ⟨5000 - (j + 1), by omega, rfl, ⟨j + 1, nI_1 j, by omega, by omega, rfl⟩⟩
set_option maxHeartbeats 4000000 in
set_option maxRecDepth 100000 in
theorem rSX12_filled_59 {t : St} (hT : TY t) {w1 : Int32} (h_w1 : IsR 3 w1) {w2 : Int32} {w4 : Int32} (h_w4 : IsR 9 w4) {w5 : Int32} {w6 : Int32} {a0 : Int32} {a1 : Int32} (h_a1 : IsR 5001 a1) : Ok (wh (SX12_filled_59 w1 w2 w4 w5 w6) (a0, a1) t) (fun r u => t = u ∧ (Sum.elim (fun v => True) (fun e => True) r)) := by
  obtain ⟨j0, hj0, rfl⟩ := h_a1
  refine Ok.loop (fun k c s => t = s ∧ (∃ j, c.2 = nI j ∧ j ≤ 5000 ∧ 0 ≤ j ∧ k = 5000 - j)) ?_ (5000 - j0) _ _ ⟨rfl, ⟨j0, rfl, by omega, by omega, rfl⟩⟩
  obtain ⟨k_w1, h_w1, rfl⟩ := h_w1
  obtain ⟨k_w4, h_w4, rfl⟩ := h_w4
  clear hj0
  intro k c s hI
  obtain ⟨rfl, ⟨j, ej, hj, hlo, rfl⟩⟩ := hI
  obtain ⟨c0, c1⟩ := c
  dsimp only at ej
  subst ej
  unfold SX12_filled_59
  dsimp only
  refine Ok.bd _ (rX12_points hT (by first | with_reducible assumption | (simp (disch := omega) only [li_0, li_1, li_2, li_3, li_4, li_5, li_6, li_7, li_8, li_9, li_10, li_20, li_30, li_82, li_91, li_273, li_380, li_400, li_512, li_1000, li_2457, li_4000, nI_add, nI_1, nI_mul, nI_sub, shl_1, shl_1b, nI_or, nI_xor, nI_and]; with_reducible exact ⟨_, (by first | omega | exact or9 (by omega) (by omega) | exact xor9 (by omega) (by omega)), rfl⟩) | with_reducible exact ⟨_, (by first | omega | exact or9 (by omega) (by omega) | exact xor9 (by omega) (by omega)), rfl⟩ | exact IsR.mn (by first | with_reducible assumption | exact ⟨_, by omega, rfl⟩) (by first | with_reducible assumption | exact ⟨_, by omega, rfl⟩) | exact IsR.mx (by first | with_reducible assumption | exact ⟨_, by omega, rfl⟩) (by first | with_reducible assumption | exact ⟨_, by omega, rfl⟩) | with_reducible exact mn9 (by omega) | (simp (disch := omega) only [li_0, li_1, li_2, li_3, li_4, li_5, li_6, li_7, li_8, li_9, li_10, li_20, li_30, li_82, li_91, li_273, li_380, li_400, li_512, li_1000, li_2457, li_4000, nI_add, nI_1, nI_mul, nI_sub, shl_1, shl_1b]; with_reducible exact mn9b (by omega)))) ?_
  rintro _ _ ⟨rfl, kv20, hv20, rfl⟩
  refine Ok.ite (fun c_2 => ?_) (fun c_2 => ?_)
  · try simp (disch := omega) only [li_0, li_1, li_2, li_3, li_4, li_5, li_6, li_7, li_8, li_9, li_10, li_20, li_30, li_82, li_91, li_273, li_380, li_400, li_512, li_1000, li_2457, li_4000, nI_add, nI_1, nI_mul, nI_sub, shl_1, shl_1b, nI_leP, nI_ltP, nI_eqP, Nat.not_le, Nat.not_lt] at c_2
    exact Ok.ret ⟨rfl, True.intro⟩
  · try simp (disch := omega) only [li_0, li_1, li_2, li_3, li_4, li_5, li_6, li_7, li_8, li_9, li_10, li_20, li_30, li_82, li_91, li_273, li_380, li_400, li_512, li_1000, li_2457, li_4000, nI_add, nI_1, nI_mul, nI_sub, shl_1, shl_1b, nI_leP, nI_ltP, nI_eqP, Nat.not_le, Nat.not_lt] at c_2
    refine Ok.bd _ (rSX12_filled_75 hT (by first | with_reducible assumption | (simp (disch := omega) only [li_0, li_1, li_2, li_3, li_4, li_5, li_6, li_7, li_8, li_9, li_10, li_20, li_30, li_82, li_91, li_273, li_380, li_400, li_512, li_1000, li_2457, li_4000, nI_add, nI_1, nI_mul, nI_sub, shl_1, shl_1b, nI_or, nI_xor, nI_and]; with_reducible exact ⟨_, (by first | omega | exact or9 (by omega) (by omega) | exact xor9 (by omega) (by omega)), rfl⟩) | with_reducible exact ⟨_, (by first | omega | exact or9 (by omega) (by omega) | exact xor9 (by omega) (by omega)), rfl⟩ | exact IsR.mn (by first | with_reducible assumption | exact ⟨_, by omega, rfl⟩) (by first | with_reducible assumption | exact ⟨_, by omega, rfl⟩) | exact IsR.mx (by first | with_reducible assumption | exact ⟨_, by omega, rfl⟩) (by first | with_reducible assumption | exact ⟨_, by omega, rfl⟩) | with_reducible exact mn9 (by omega) | (simp (disch := omega) only [li_0, li_1, li_2, li_3, li_4, li_5, li_6, li_7, li_8, li_9, li_10, li_20, li_30, li_82, li_91, li_273, li_380, li_400, li_512, li_1000, li_2457, li_4000, nI_add, nI_1, nI_mul, nI_sub, shl_1, shl_1b]; with_reducible exact mn9b (by omega))) (by first | with_reducible assumption | (simp (disch := omega) only [li_0, li_1, li_2, li_3, li_4, li_5, li_6, li_7, li_8, li_9, li_10, li_20, li_30, li_82, li_91, li_273, li_380, li_400, li_512, li_1000, li_2457, li_4000, nI_add, nI_1, nI_mul, nI_sub, shl_1, shl_1b, nI_or, nI_xor, nI_and]; with_reducible exact ⟨_, (by first | omega | exact or9 (by omega) (by omega) | exact xor9 (by omega) (by omega)), rfl⟩) | with_reducible exact ⟨_, (by first | omega | exact or9 (by omega) (by omega) | exact xor9 (by omega) (by omega)), rfl⟩ | exact IsR.mn (by first | with_reducible assumption | exact ⟨_, by omega, rfl⟩) (by first | with_reducible assumption | exact ⟨_, by omega, rfl⟩) | exact IsR.mx (by first | with_reducible assumption | exact ⟨_, by omega, rfl⟩) (by first | with_reducible assumption | exact ⟨_, by omega, rfl⟩) | with_reducible exact mn9 (by omega) | (simp (disch := omega) only [li_0, li_1, li_2, li_3, li_4, li_5, li_6, li_7, li_8, li_9, li_10, li_20, li_30, li_82, li_91, li_273, li_380, li_400, li_512, li_1000, li_2457, li_4000, nI_add, nI_1, nI_mul, nI_sub, shl_1, shl_1b]; with_reducible exact mn9b (by omega))) (by first | with_reducible assumption | (simp (disch := omega) only [li_0, li_1, li_2, li_3, li_4, li_5, li_6, li_7, li_8, li_9, li_10, li_20, li_30, li_82, li_91, li_273, li_380, li_400, li_512, li_1000, li_2457, li_4000, nI_add, nI_1, nI_mul, nI_sub, shl_1, shl_1b, nI_or, nI_xor, nI_and]; with_reducible exact ⟨_, (by first | omega | exact or9 (by omega) (by omega) | exact xor9 (by omega) (by omega)), rfl⟩) | with_reducible exact ⟨_, (by first | omega | exact or9 (by omega) (by omega) | exact xor9 (by omega) (by omega)), rfl⟩ | exact IsR.mn (by first | with_reducible assumption | exact ⟨_, by omega, rfl⟩) (by first | with_reducible assumption | exact ⟨_, by omega, rfl⟩) | exact IsR.mx (by first | with_reducible assumption | exact ⟨_, by omega, rfl⟩) (by first | with_reducible assumption | exact ⟨_, by omega, rfl⟩) | with_reducible exact mn9 (by omega) | (simp (disch := omega) only [li_0, li_1, li_2, li_3, li_4, li_5, li_6, li_7, li_8, li_9, li_10, li_20, li_30, li_82, li_91, li_273, li_380, li_400, li_512, li_1000, li_2457, li_4000, nI_add, nI_1, nI_mul, nI_sub, shl_1, shl_1b]; with_reducible exact mn9b (by omega))) (by show IsR 5001 _; first | with_reducible assumption | (simp (disch := omega) only [li_0, li_1, li_2, li_3, li_4, li_5, li_6, li_7, li_8, li_9, li_10, li_20, li_30, li_82, li_91, li_273, li_380, li_400, li_512, li_1000, li_2457, li_4000, nI_add, nI_1, nI_mul, nI_sub, shl_1, shl_1b, nI_or, nI_xor, nI_and]; with_reducible exact ⟨_, (by first | omega | exact or9 (by omega) (by omega) | exact xor9 (by omega) (by omega)), rfl⟩) | with_reducible exact ⟨_, (by first | omega | exact or9 (by omega) (by omega) | exact xor9 (by omega) (by omega)), rfl⟩ | exact IsR.mn (by first | with_reducible assumption | exact ⟨_, by omega, rfl⟩) (by first | with_reducible assumption | exact ⟨_, by omega, rfl⟩) | exact IsR.mx (by first | with_reducible assumption | exact ⟨_, by omega, rfl⟩) (by first | with_reducible assumption | exact ⟨_, by omega, rfl⟩) | with_reducible exact mn9 (by omega) | (simp (disch := omega) only [li_0, li_1, li_2, li_3, li_4, li_5, li_6, li_7, li_8, li_9, li_10, li_20, li_30, li_82, li_91, li_273, li_380, li_400, li_512, li_1000, li_2457, li_4000, nI_add, nI_1, nI_mul, nI_sub, shl_1, shl_1b]; with_reducible exact mn9b (by omega)))) ?_
    rintro (e45 | e45) _ ⟨rfl, hxe45⟩
    · refine Ok.el ?_
      exact Ok.ret ⟨rfl, True.intro⟩
    · refine Ok.er ?_
      exact Ok.ret ⟨5000 - (j + 1), by omega, rfl, ⟨j + 1, nI_1 j, by omega, by omega, rfl⟩⟩
set_option maxHeartbeats 4000000 in
set_option maxRecDepth 100000 in
theorem rSX12_filled_21 {t : St} (hT : TY t) {w1 : Int32} (h_w1 : IsR 3 w1) {w2 : Int32} {a0 : Int32} {a1 : Int32} (h_a1 : IsR 5001 a1) : Ok (wh (SX12_filled_21 w1 w2) (a0, a1) t) (fun r u => t = u ∧ (Sum.elim (fun v => True) (fun e => True) r)) := by
  obtain ⟨j0, hj0, rfl⟩ := h_a1
  refine Ok.loop (fun k c s => t = s ∧ (∃ j, c.2 = nI j ∧ j ≤ 5000 ∧ 0 ≤ j ∧ k = 5000 - j)) ?_ (5000 - j0) _ _ ⟨rfl, ⟨j0, rfl, by omega, by omega, rfl⟩⟩
  obtain ⟨k_w1, h_w1, rfl⟩ := h_w1
  clear hj0
  intro k c s hI
  obtain ⟨rfl, ⟨j, ej, hj, hlo, rfl⟩⟩ := hI
  obtain ⟨c0, c1⟩ := c
  dsimp only at ej
  subst ej
  unfold SX12_filled_21
  dsimp only
  refine Ok.bd _ (rX12_points hT (by first | with_reducible assumption | (simp (disch := omega) only [li_0, li_1, li_2, li_3, li_4, li_5, li_6, li_7, li_8, li_9, li_10, li_20, li_30, li_82, li_91, li_273, li_380, li_400, li_512, li_1000, li_2457, li_4000, nI_add, nI_1, nI_mul, nI_sub, shl_1, shl_1b, nI_or, nI_xor, nI_and]; with_reducible exact ⟨_, (by first | omega | exact or9 (by omega) (by omega) | exact xor9 (by omega) (by omega)), rfl⟩) | with_reducible exact ⟨_, (by first | omega | exact or9 (by omega) (by omega) | exact xor9 (by omega) (by omega)), rfl⟩ | exact IsR.mn (by first | with_reducible assumption | exact ⟨_, by omega, rfl⟩) (by first | with_reducible assumption | exact ⟨_, by omega, rfl⟩) | exact IsR.mx (by first | with_reducible assumption | exact ⟨_, by omega, rfl⟩) (by first | with_reducible assumption | exact ⟨_, by omega, rfl⟩) | with_reducible exact mn9 (by omega) | (simp (disch := omega) only [li_0, li_1, li_2, li_3, li_4, li_5, li_6, li_7, li_8, li_9, li_10, li_20, li_30, li_82, li_91, li_273, li_380, li_400, li_512, li_1000, li_2457, li_4000, nI_add, nI_1, nI_mul, nI_sub, shl_1, shl_1b]; with_reducible exact mn9b (by omega)))) ?_
  rintro _ _ ⟨rfl, kv7, hv7, rfl⟩
  refine Ok.ite (fun c_2 => ?_) (fun c_2 => ?_)
  · try simp (disch := omega) only [li_0, li_1, li_2, li_3, li_4, li_5, li_6, li_7, li_8, li_9, li_10, li_20, li_30, li_82, li_91, li_273, li_380, li_400, li_512, li_1000, li_2457, li_4000, nI_add, nI_1, nI_mul, nI_sub, shl_1, shl_1b, nI_leP, nI_ltP, nI_eqP, Nat.not_le, Nat.not_lt] at c_2
    exact Ok.ret ⟨rfl, True.intro⟩
  · try simp (disch := omega) only [li_0, li_1, li_2, li_3, li_4, li_5, li_6, li_7, li_8, li_9, li_10, li_20, li_30, li_82, li_91, li_273, li_380, li_400, li_512, li_1000, li_2457, li_4000, nI_add, nI_1, nI_mul, nI_sub, shl_1, shl_1b, nI_leP, nI_ltP, nI_eqP, Nat.not_le, Nat.not_lt] at c_2
    refine Ok.bd _ (rX12_aheadOf hT (by first | with_reducible assumption | (simp (disch := omega) only [li_0, li_1, li_2, li_3, li_4, li_5, li_6, li_7, li_8, li_9, li_10, li_20, li_30, li_82, li_91, li_273, li_380, li_400, li_512, li_1000, li_2457, li_4000, nI_add, nI_1, nI_mul, nI_sub, shl_1, shl_1b, nI_or, nI_xor, nI_and]; with_reducible exact ⟨_, (by first | omega | exact or9 (by omega) (by omega) | exact xor9 (by omega) (by omega)), rfl⟩) | with_reducible exact ⟨_, (by first | omega | exact or9 (by omega) (by omega) | exact xor9 (by omega) (by omega)), rfl⟩ | exact IsR.mn (by first | with_reducible assumption | exact ⟨_, by omega, rfl⟩) (by first | with_reducible assumption | exact ⟨_, by omega, rfl⟩) | exact IsR.mx (by first | with_reducible assumption | exact ⟨_, by omega, rfl⟩) (by first | with_reducible assumption | exact ⟨_, by omega, rfl⟩) | with_reducible exact mn9 (by omega) | (simp (disch := omega) only [li_0, li_1, li_2, li_3, li_4, li_5, li_6, li_7, li_8, li_9, li_10, li_20, li_30, li_82, li_91, li_273, li_380, li_400, li_512, li_1000, li_2457, li_4000, nI_add, nI_1, nI_mul, nI_sub, shl_1, shl_1b]; with_reducible exact mn9b (by omega))) (by first | with_reducible assumption | (simp (disch := omega) only [li_0, li_1, li_2, li_3, li_4, li_5, li_6, li_7, li_8, li_9, li_10, li_20, li_30, li_82, li_91, li_273, li_380, li_400, li_512, li_1000, li_2457, li_4000, nI_add, nI_1, nI_mul, nI_sub, shl_1, shl_1b, nI_or, nI_xor, nI_and]; with_reducible exact ⟨_, (by first | omega | exact or9 (by omega) (by omega) | exact xor9 (by omega) (by omega)), rfl⟩) | with_reducible exact ⟨_, (by first | omega | exact or9 (by omega) (by omega) | exact xor9 (by omega) (by omega)), rfl⟩ | exact IsR.mn (by first | with_reducible assumption | exact ⟨_, by omega, rfl⟩) (by first | with_reducible assumption | exact ⟨_, by omega, rfl⟩) | exact IsR.mx (by first | with_reducible assumption | exact ⟨_, by omega, rfl⟩) (by first | with_reducible assumption | exact ⟨_, by omega, rfl⟩) | with_reducible exact mn9 (by omega) | (simp (disch := omega) only [li_0, li_1, li_2, li_3, li_4, li_5, li_6, li_7, li_8, li_9, li_10, li_20, li_30, li_82, li_91, li_273, li_380, li_400, li_512, li_1000, li_2457, li_4000, nI_add, nI_1, nI_mul, nI_sub, shl_1, shl_1b]; with_reducible exact mn9b (by omega)))) ?_
    rintro v11 _ ⟨rfl, hxv11⟩
    refine Ok.bd _ (rX12_at hT (by first | with_reducible assumption | (simp (disch := omega) only [li_0, li_1, li_2, li_3, li_4, li_5, li_6, li_7, li_8, li_9, li_10, li_20, li_30, li_82, li_91, li_273, li_380, li_400, li_512, li_1000, li_2457, li_4000, nI_add, nI_1, nI_mul, nI_sub, shl_1, shl_1b, nI_or, nI_xor, nI_and]; with_reducible exact ⟨_, (by first | omega | exact or9 (by omega) (by omega) | exact xor9 (by omega) (by omega)), rfl⟩) | with_reducible exact ⟨_, (by first | omega | exact or9 (by omega) (by omega) | exact xor9 (by omega) (by omega)), rfl⟩ | exact IsR.mn (by first | with_reducible assumption | exact ⟨_, by omega, rfl⟩) (by first | with_reducible assumption | exact ⟨_, by omega, rfl⟩) | exact IsR.mx (by first | with_reducible assumption | exact ⟨_, by omega, rfl⟩) (by first | with_reducible assumption | exact ⟨_, by omega, rfl⟩) | with_reducible exact mn9 (by omega) | (simp (disch := omega) only [li_0, li_1, li_2, li_3, li_4, li_5, li_6, li_7, li_8, li_9, li_10, li_20, li_30, li_82, li_91, li_273, li_380, li_400, li_512, li_1000, li_2457, li_4000, nI_add, nI_1, nI_mul, nI_sub, shl_1, shl_1b]; with_reducible exact mn9b (by omega))) (by first | with_reducible assumption | (simp (disch := omega) only [li_0, li_1, li_2, li_3, li_4, li_5, li_6, li_7, li_8, li_9, li_10, li_20, li_30, li_82, li_91, li_273, li_380, li_400, li_512, li_1000, li_2457, li_4000, nI_add, nI_1, nI_mul, nI_sub, shl_1, shl_1b, nI_or, nI_xor, nI_and]; with_reducible exact ⟨_, (by first | omega | exact or9 (by omega) (by omega) | exact xor9 (by omega) (by omega)), rfl⟩) | with_reducible exact ⟨_, (by first | omega | exact or9 (by omega) (by omega) | exact xor9 (by omega) (by omega)), rfl⟩ | exact IsR.mn (by first | with_reducible assumption | exact ⟨_, by omega, rfl⟩) (by first | with_reducible assumption | exact ⟨_, by omega, rfl⟩) | exact IsR.mx (by first | with_reducible assumption | exact ⟨_, by omega, rfl⟩) (by first | with_reducible assumption | exact ⟨_, by omega, rfl⟩) | with_reducible exact mn9 (by omega) | (simp (disch := omega) only [li_0, li_1, li_2, li_3, li_4, li_5, li_6, li_7, li_8, li_9, li_10, li_20, li_30, li_82, li_91, li_273, li_380, li_400, li_512, li_1000, li_2457, li_4000, nI_add, nI_1, nI_mul, nI_sub, shl_1, shl_1b]; with_reducible exact mn9b (by omega)))) ?_
    rintro _ _ ⟨rfl, kv14, hv14, rfl⟩
    refine Ok.bd _ (rX12_neighbours hT (by first | with_reducible assumption | (simp (disch := omega) only [li_0, li_1, li_2, li_3, li_4, li_5, li_6, li_7, li_8, li_9, li_10, li_20, li_30, li_82, li_91, li_273, li_380, li_400, li_512, li_1000, li_2457, li_4000, nI_add, nI_1, nI_mul, nI_sub, shl_1, shl_1b, nI_or, nI_xor, nI_and]; with_reducible exact ⟨_, (by first | omega | exact or9 (by omega) (by omega) | exact xor9 (by omega) (by omega)), rfl⟩) | with_reducible exact ⟨_, (by first | omega | exact or9 (by omega) (by omega) | exact xor9 (by omega) (by omega)), rfl⟩ | exact IsR.mn (by first | with_reducible assumption | exact ⟨_, by omega, rfl⟩) (by first | with_reducible assumption | exact ⟨_, by omega, rfl⟩) | exact IsR.mx (by first | with_reducible assumption | exact ⟨_, by omega, rfl⟩) (by first | with_reducible assumption | exact ⟨_, by omega, rfl⟩) | with_reducible exact mn9 (by omega) | (simp (disch := omega) only [li_0, li_1, li_2, li_3, li_4, li_5, li_6, li_7, li_8, li_9, li_10, li_20, li_30, li_82, li_91, li_273, li_380, li_400, li_512, li_1000, li_2457, li_4000, nI_add, nI_1, nI_mul, nI_sub, shl_1, shl_1b]; with_reducible exact mn9b (by omega))) (by first | with_reducible assumption | (simp (disch := omega) only [li_0, li_1, li_2, li_3, li_4, li_5, li_6, li_7, li_8, li_9, li_10, li_20, li_30, li_82, li_91, li_273, li_380, li_400, li_512, li_1000, li_2457, li_4000, nI_add, nI_1, nI_mul, nI_sub, shl_1, shl_1b, nI_or, nI_xor, nI_and]; with_reducible exact ⟨_, (by first | omega | exact or9 (by omega) (by omega) | exact xor9 (by omega) (by omega)), rfl⟩) | with_reducible exact ⟨_, (by first | omega | exact or9 (by omega) (by omega) | exact xor9 (by omega) (by omega)), rfl⟩ | exact IsR.mn (by first | with_reducible assumption | exact ⟨_, by omega, rfl⟩) (by first | with_reducible assumption | exact ⟨_, by omega, rfl⟩) | exact IsR.mx (by first | with_reducible assumption | exact ⟨_, by omega, rfl⟩) (by first | with_reducible assumption | exact ⟨_, by omega, rfl⟩) | with_reducible exact mn9 (by omega) | (simp (disch := omega) only [li_0, li_1, li_2, li_3, li_4, li_5, li_6, li_7, li_8, li_9, li_10, li_20, li_30, li_82, li_91, li_273, li_380, li_400, li_512, li_1000, li_2457, li_4000, nI_add, nI_1, nI_mul, nI_sub, shl_1, shl_1b]; with_reducible exact mn9b (by omega)))) ?_
    rintro v17 _ ⟨rfl, hxv17⟩
    refine Ok.bd _ (rSX12_filled_59 hT (by first | with_reducible assumption | (simp (disch := omega) only [li_0, li_1, li_2, li_3, li_4, li_5, li_6, li_7, li_8, li_9, li_10, li_20, li_30, li_82, li_91, li_273, li_380, li_400, li_512, li_1000, li_2457, li_4000, nI_add, nI_1, nI_mul, nI_sub, shl_1, shl_1b, nI_or, nI_xor, nI_and]; with_reducible exact ⟨_, (by first | omega | exact or9 (by omega) (by omega) | exact xor9 (by omega) (by omega)), rfl⟩) | with_reducible exact ⟨_, (by first | omega | exact or9 (by omega) (by omega) | exact xor9 (by omega) (by omega)), rfl⟩ | exact IsR.mn (by first | with_reducible assumption | exact ⟨_, by omega, rfl⟩) (by first | with_reducible assumption | exact ⟨_, by omega, rfl⟩) | exact IsR.mx (by first | with_reducible assumption | exact ⟨_, by omega, rfl⟩) (by first | with_reducible assumption | exact ⟨_, by omega, rfl⟩) | with_reducible exact mn9 (by omega) | (simp (disch := omega) only [li_0, li_1, li_2, li_3, li_4, li_5, li_6, li_7, li_8, li_9, li_10, li_20, li_30, li_82, li_91, li_273, li_380, li_400, li_512, li_1000, li_2457, li_4000, nI_add, nI_1, nI_mul, nI_sub, shl_1, shl_1b]; with_reducible exact mn9b (by omega))) (by first | with_reducible assumption | (simp (disch := omega) only [li_0, li_1, li_2, li_3, li_4, li_5, li_6, li_7, li_8, li_9, li_10, li_20, li_30, li_82, li_91, li_273, li_380, li_400, li_512, li_1000, li_2457, li_4000, nI_add, nI_1, nI_mul, nI_sub, shl_1, shl_1b, nI_or, nI_xor, nI_and]; with_reducible exact ⟨_, (by first | omega | exact or9 (by omega) (by omega) | exact xor9 (by omega) (by omega)), rfl⟩) | with_reducible exact ⟨_, (by first | omega | exact or9 (by omega) (by omega) | exact xor9 (by omega) (by omega)), rfl⟩ | exact IsR.mn (by first | with_reducible assumption | exact ⟨_, by omega, rfl⟩) (by first | with_reducible assumption | exact ⟨_, by omega, rfl⟩) | exact IsR.mx (by first | with_reducible assumption | exact ⟨_, by omega, rfl⟩) (by first | with_reducible assumption | exact ⟨_, by omega, rfl⟩) | with_reducible exact mn9 (by omega) | (simp (disch := omega) only [li_0, li_1, li_2, li_3, li_4, li_5, li_6, li_7, li_8, li_9, li_10, li_20, li_30, li_82, li_91, li_273, li_380, li_400, li_512, li_1000, li_2457, li_4000, nI_add, nI_1, nI_mul, nI_sub, shl_1, shl_1b]; with_reducible exact mn9b (by omega))) (by show IsR 5001 _; first | with_reducible assumption | (simp (disch := omega) only [li_0, li_1, li_2, li_3, li_4, li_5, li_6, li_7, li_8, li_9, li_10, li_20, li_30, li_82, li_91, li_273, li_380, li_400, li_512, li_1000, li_2457, li_4000, nI_add, nI_1, nI_mul, nI_sub, shl_1, shl_1b, nI_or, nI_xor, nI_and]; with_reducible exact ⟨_, (by first | omega | exact or9 (by omega) (by omega) | exact xor9 (by omega) (by omega)), rfl⟩) | with_reducible exact ⟨_, (by first | omega | exact or9 (by omega) (by omega) | exact xor9 (by omega) (by omega)), rfl⟩ | exact IsR.mn (by first | with_reducible assumption | exact ⟨_, by omega, rfl⟩) (by first | with_reducible assumption | exact ⟨_, by omega, rfl⟩) | exact IsR.mx (by first | with_reducible assumption | exact ⟨_, by omega, rfl⟩) (by first | with_reducible assumption | exact ⟨_, by omega, rfl⟩) | with_reducible exact mn9 (by omega) | (simp (disch := omega) only [li_0, li_1, li_2, li_3, li_4, li_5, li_6, li_7, li_8, li_9, li_10, li_20, li_30, li_82, li_91, li_273, li_380, li_400, li_512, li_1000, li_2457, li_4000, nI_add, nI_1, nI_mul, nI_sub, shl_1, shl_1b]; with_reducible exact mn9b (by omega)))) ?_
    rintro (e50 | e50) _ ⟨rfl, hxe50⟩
    · refine Ok.el ?_
      exact Ok.ret ⟨rfl, True.intro⟩
    · refine Ok.er ?_
      exact Ok.ret ⟨5000 - (j + 1), by omega, rfl, ⟨j + 1, nI_1 j, by omega, by omega, rfl⟩⟩
set_option maxHeartbeats 4000000 in
set_option maxRecDepth 100000 in
theorem rX12_filled {t : St} (hT : TY t) {a : Int32} {b : Int32} : Ok (FX12_filled a b t) (fun r u => t = u ∧ (True)) := by
  unfold FX12_filled
  refine Ok.bd _ (rX12_isNet hT) ?_
  rintro v1 _ ⟨rfl, hbv1, hxv1⟩
  refine Ok.ite (fun c_2 => ?_) (fun c_2 => ?_)
  · skip
    exact Ok.ret ⟨rfl, True.intro⟩
  · obtain ⟨⟨kav1, hkav1, rfl⟩, hptv1⟩ := hxv1.resolve_left c_2
    refine Ok.ite (fun c_3 => ?_) (fun c_3 => ?_)
    · try simp (disch := omega) only [li_0, li_1, li_2, li_3, li_4, li_5, li_6, li_7, li_8, li_9, li_10, li_20, li_30, li_82, li_91, li_273, li_380, li_400, li_512, li_1000, li_2457, li_4000, nI_add, nI_1, nI_mul, nI_sub, shl_1, shl_1b, nI_leP, nI_ltP, nI_eqP, Nat.not_le, Nat.not_lt] at c_3
      refine Ok.bd _ (rSX12_filled_21 hT (by first | with_reducible assumption | (simp (disch := omega) only [li_0, li_1, li_2, li_3, li_4, li_5, li_6, li_7, li_8, li_9, li_10, li_20, li_30, li_82, li_91, li_273, li_380, li_400, li_512, li_1000, li_2457, li_4000, nI_add, nI_1, nI_mul, nI_sub, shl_1, shl_1b, nI_or, nI_xor, nI_and]; with_reducible exact ⟨_, (by first | omega | exact or9 (by omega) (by omega) | exact xor9 (by omega) (by omega)), rfl⟩) | with_reducible exact ⟨_, (by first | omega | exact or9 (by omega) (by omega) | exact xor9 (by omega) (by omega)), rfl⟩ | exact IsR.mn (by first | with_reducible assumption | exact ⟨_, by omega, rfl⟩) (by first | with_reducible assumption | exact ⟨_, by omega, rfl⟩) | exact IsR.mx (by first | with_reducible assumption | exact ⟨_, by omega, rfl⟩) (by first | with_reducible assumption | exact ⟨_, by omega, rfl⟩) | with_reducible exact mn9 (by omega) | (simp (disch := omega) only [li_0, li_1, li_2, li_3, li_4, li_5, li_6, li_7, li_8, li_9, li_10, li_20, li_30, li_82, li_91, li_273, li_380, li_400, li_512, li_1000, li_2457, li_4000, nI_add, nI_1, nI_mul, nI_sub, shl_1, shl_1b]; with_reducible exact mn9b (by omega))) (by show IsR 5001 _; first | with_reducible assumption | (simp (disch := omega) only [li_0, li_1, li_2, li_3, li_4, li_5, li_6, li_7, li_8, li_9, li_10, li_20, li_30, li_82, li_91, li_273, li_380, li_400, li_512, li_1000, li_2457, li_4000, nI_add, nI_1, nI_mul, nI_sub, shl_1, shl_1b, nI_or, nI_xor, nI_and]; with_reducible exact ⟨_, (by first | omega | exact or9 (by omega) (by omega) | exact xor9 (by omega) (by omega)), rfl⟩) | with_reducible exact ⟨_, (by first | omega | exact or9 (by omega) (by omega) | exact xor9 (by omega) (by omega)), rfl⟩ | exact IsR.mn (by first | with_reducible assumption | exact ⟨_, by omega, rfl⟩) (by first | with_reducible assumption | exact ⟨_, by omega, rfl⟩) | exact IsR.mx (by first | with_reducible assumption | exact ⟨_, by omega, rfl⟩) (by first | with_reducible assumption | exact ⟨_, by omega, rfl⟩) | with_reducible exact mn9 (by omega) | (simp (disch := omega) only [li_0, li_1, li_2, li_3, li_4, li_5, li_6, li_7, li_8, li_9, li_10, li_20, li_30, li_82, li_91, li_273, li_380, li_400, li_512, li_1000, li_2457, li_4000, nI_add, nI_1, nI_mul, nI_sub, shl_1, shl_1b]; with_reducible exact mn9b (by omega)))) ?_
      rintro (e55 | e55) _ ⟨rfl, hxe55⟩
      · refine Ok.el ?_
        exact Ok.ret ⟨rfl, True.intro⟩
      · refine Ok.er ?_
        refine Ok.ite (fun c_5 => ?_) (fun c_5 => ?_)
        · try simp (disch := omega) only [li_0, li_1, li_2, li_3, li_4, li_5, li_6, li_7, li_8, li_9, li_10, li_20, li_30, li_82, li_91, li_273, li_380, li_400, li_512, li_1000, li_2457, li_4000, nI_add, nI_1, nI_mul, nI_sub, shl_1, shl_1b, nI_leP, nI_ltP, nI_eqP, Nat.not_le, Nat.not_lt] at c_5
          exact Ok.ret ⟨rfl, True.intro⟩
        · try simp (disch := omega) only [li_0, li_1, li_2, li_3, li_4, li_5, li_6, li_7, li_8, li_9, li_10, li_20, li_30, li_82, li_91, li_273, li_380, li_400, li_512, li_1000, li_2457, li_4000, nI_add, nI_1, nI_mul, nI_sub, shl_1, shl_1b, nI_leP, nI_ltP, nI_eqP, Nat.not_le, Nat.not_lt] at c_5
          exact Ok.ret ⟨rfl, True.intro⟩
    · try simp (disch := omega) only [li_0, li_1, li_2, li_3, li_4, li_5, li_6, li_7, li_8, li_9, li_10, li_20, li_30, li_82, li_91, li_273, li_380, li_400, li_512, li_1000, li_2457, li_4000, nI_add, nI_1, nI_mul, nI_sub, shl_1, shl_1b, nI_leP, nI_ltP, nI_eqP, Nat.not_le, Nat.not_lt] at c_3
      exact Ok.ret ⟨rfl, True.intro⟩
set_option maxHeartbeats 4000000 in
set_option maxRecDepth 100000 in
theorem rSX12_count_4 {t : St} (hT : TY t) {w1 : Int32} {a0 : Int32} {a1 : Int32} (h_a1 : IsR 5001 a1) : Ok (wh (SX12_count_4 w1) (a0, a1) t) (fun r u => t = u ∧ (True)) := by
  obtain ⟨j0, hj0, rfl⟩ := h_a1
  refine Ok.loop (fun k c s => t = s ∧ (∃ j, c.2 = nI j ∧ j ≤ 5000 ∧ 0 ≤ j ∧ k = 5000 - j)) ?_ (5000 - j0) _ _ ⟨rfl, ⟨j0, rfl, by omega, by omega, rfl⟩⟩
  clear hj0
  intro k c s hI
  obtain ⟨rfl, ⟨j, ej, hj, hlo, rfl⟩⟩ := hI
  obtain ⟨c0, c1⟩ := c
  dsimp only at ej
  subst ej
  unfold SX12_count_4
  dsimp only
  refine Ok.ite (fun c_1 => ?_) (fun c_1 => ?_)
  · try simp (disch := omega) only [li_0, li_1, li_2, li_3, li_4, li_5, li_6, li_7, li_8, li_9, li_10, li_20, li_30, li_82, li_91, li_273, li_380, li_400, li_512, li_1000, li_2457, li_4000, nI_add, nI_1, nI_mul, nI_sub, shl_1, shl_1b, nI_leP, nI_ltP, nI_eqP, Nat.not_le, Nat.not_lt] at c_1
    exact Ok.ret ⟨rfl, True.intro⟩
  · try simp (disch := omega) only [li_0, li_1, li_2, li_3, li_4, li_5, li_6, li_7, li_8, li_9, li_10, li_20, li_30, li_82, li_91, li_273, li_380, li_400, li_512, li_1000, li_2457, li_4000, nI_add, nI_1, nI_mul, nI_sub, shl_1, shl_1b, nI_leP, nI_ltP, nI_eqP, Nat.not_le, Nat.not_lt] at c_1
    refine Ok.bd _ (rX12_isNet hT) ?_
    rintro v2 _ ⟨rfl, hbv2, hxv2⟩
    refine Ok.bd (fun (v6 : Int32) t7 => t = t7 ∧ (True)) ?_ ?_
    · refine Ok.ite (fun c_3 => ?_) (fun c_3 => ?_)
      · skip
        exact Ok.ret ⟨rfl, True.intro⟩
      · obtain hq2 := hxv2.resolve_left c_3
        exact Ok.ret ⟨rfl, True.intro⟩
    · intro v6 t7 hx
      obtain ⟨rfl, hxv6⟩ := hx
      exact Ok.ret ⟨5000 - (j + 1), by omega, rfl, ⟨j + 1, nI_1 j, by omega, by omega, rfl⟩⟩
set_option maxHeartbeats 4000000 in
set_option maxRecDepth 100000 in
theorem rX12_count {t : St} (hT : TY t) {a : Int32} : Ok (FX12_count a t) (fun r u => t = u ∧ (True)) := by
  unfold FX12_count
  refine Ok.bd _ (rSX12_count_4 hT (by show IsR 5001 _; first | with_reducible assumption | (simp (disch := omega) only [li_0, li_1, li_2, li_3, li_4, li_5, li_6, li_7, li_8, li_9, li_10, li_20, li_30, li_82, li_91, li_273, li_380, li_400, li_512, li_1000, li_2457, li_4000, nI_add, nI_1, nI_mul, nI_sub, shl_1, shl_1b, nI_or, nI_xor, nI_and]; with_reducible exact ⟨_, (by first | omega | exact or9 (by omega) (by omega) | exact xor9 (by omega) (by omega)), rfl⟩) | with_reducible exact ⟨_, (by first | omega | exact or9 (by omega) (by omega) | exact xor9 (by omega) (by omega)), rfl⟩ | exact IsR.mn (by first | with_reducible assumption | exact ⟨_, by omega, rfl⟩) (by first | with_reducible assumption | exact ⟨_, by omega, rfl⟩) | exact IsR.mx (by first | with_reducible assumption | exact ⟨_, by omega, rfl⟩) (by first | with_reducible assumption | exact ⟨_, by omega, rfl⟩) | with_reducible exact mn9 (by omega) | (simp (disch := omega) only [li_0, li_1, li_2, li_3, li_4, li_5, li_6, li_7, li_8, li_9, li_10, li_20, li_30, li_82, li_91, li_273, li_380, li_400, li_512, li_1000, li_2457, li_4000, nI_add, nI_1, nI_mul, nI_sub, shl_1, shl_1b]; with_reducible exact mn9b (by omega)))) ?_
  rintro e10 _ ⟨rfl, hxe10⟩
  refine Ok.ite (fun c_2 => ?_) (fun c_2 => ?_)
  · try simp (disch := omega) only [li_0, li_1, li_2, li_3, li_4, li_5, li_6, li_7, li_8, li_9, li_10, li_20, li_30, li_82, li_91, li_273, li_380, li_400, li_512, li_1000, li_2457, li_4000, nI_add, nI_1, nI_mul, nI_sub, shl_1, shl_1b, nI_leP, nI_ltP, nI_eqP, Nat.not_le, Nat.not_lt] at c_2
    exact Ok.ret ⟨rfl, True.intro⟩
  · try simp (disch := omega) only [li_0, li_1, li_2, li_3, li_4, li_5, li_6, li_7, li_8, li_9, li_10, li_20, li_30, li_82, li_91, li_273, li_380, li_400, li_512, li_1000, li_2457, li_4000, nI_add, nI_1, nI_mul, nI_sub, shl_1, shl_1b, nI_leP, nI_ltP, nI_eqP, Nat.not_le, Nat.not_lt] at c_2
    refine Ok.ite (fun c_3 => ?_) (fun c_3 => ?_)
    · try simp (disch := omega) only [li_0, li_1, li_2, li_3, li_4, li_5, li_6, li_7, li_8, li_9, li_10, li_20, li_30, li_82, li_91, li_273, li_380, li_400, li_512, li_1000, li_2457, li_4000, nI_add, nI_1, nI_mul, nI_sub, shl_1, shl_1b, nI_leP, nI_ltP, nI_eqP, Nat.not_le, Nat.not_lt] at c_3
      refine Ok.rdT hT ty_m3 (by omega) (fun k_4 hk_4 ek_4 => ?_)
      exact Ok.ret ⟨rfl, True.intro⟩
    · try simp (disch := omega) only [li_0, li_1, li_2, li_3, li_4, li_5, li_6, li_7, li_8, li_9, li_10, li_20, li_30, li_82, li_91, li_273, li_380, li_400, li_512, li_1000, li_2457, li_4000, nI_add, nI_1, nI_mul, nI_sub, shl_1, shl_1b, nI_leP, nI_ltP, nI_eqP, Nat.not_le, Nat.not_lt] at c_3
      refine Ok.ite (fun c_5 => ?_) (fun c_5 => ?_)
      · try simp (disch := omega) only [li_0, li_1, li_2, li_3, li_4, li_5, li_6, li_7, li_8, li_9, li_10, li_20, li_30, li_82, li_91, li_273, li_380, li_400, li_512, li_1000, li_2457, li_4000, nI_add, nI_1, nI_mul, nI_sub, shl_1, shl_1b, nI_leP, nI_ltP, nI_eqP, Nat.not_le, Nat.not_lt] at c_5
        refine Ok.rdT hT ty_m5 (by omega) (fun k_6 hk_6 ek_6 => ?_)
        exact Ok.ret ⟨rfl, True.intro⟩
      · try simp (disch := omega) only [li_0, li_1, li_2, li_3, li_4, li_5, li_6, li_7, li_8, li_9, li_10, li_20, li_30, li_82, li_91, li_273, li_380, li_400, li_512, li_1000, li_2457, li_4000, nI_add, nI_1, nI_mul, nI_sub, shl_1, shl_1b, nI_leP, nI_ltP, nI_eqP, Nat.not_le, Nat.not_lt] at c_5
        refine Ok.ite (fun c_7 => ?_) (fun c_7 => ?_)
        · try simp (disch := omega) only [li_0, li_1, li_2, li_3, li_4, li_5, li_6, li_7, li_8, li_9, li_10, li_20, li_30, li_82, li_91, li_273, li_380, li_400, li_512, li_1000, li_2457, li_4000, nI_add, nI_1, nI_mul, nI_sub, shl_1, shl_1b, nI_leP, nI_ltP, nI_eqP, Nat.not_le, Nat.not_lt] at c_7
          refine Ok.rdT hT ty_m25 (by omega) (fun k_8 hk_8 ek_8 => ?_)
          exact Ok.ret ⟨rfl, True.intro⟩
        · try simp (disch := omega) only [li_0, li_1, li_2, li_3, li_4, li_5, li_6, li_7, li_8, li_9, li_10, li_20, li_30, li_82, li_91, li_273, li_380, li_400, li_512, li_1000, li_2457, li_4000, nI_add, nI_1, nI_mul, nI_sub, shl_1, shl_1b, nI_leP, nI_ltP, nI_eqP, Nat.not_le, Nat.not_lt] at c_7
          exact Ok.ret ⟨rfl, True.intro⟩
set_option maxHeartbeats 4000000 in
set_option maxRecDepth 100000 in
theorem rSX12_balls_32 {t : St} (hT : TY t) {w1 : Int32} (h_w1 : IsR 3 w1) {w2 : Int32} {w3 : Int32} (h_w3 : IsR 9 w3) {w4 : Int32} (h_w4 : IsR 9 w4) {a0 : Int32} {a1 : Int32} (h_a1 : IsR 5001 a1) : Ok (wh (SX12_balls_32 w1 w2 w3 w4) (a0, a1) t) (fun r u => t = u ∧ (True)) := by
  obtain ⟨j0, hj0, rfl⟩ := h_a1
  refine Ok.loop (fun k c s => t = s ∧ (∃ j, c.2 = nI j ∧ j ≤ 5000 ∧ 0 ≤ j ∧ k = 5000 - j)) ?_ (5000 - j0) _ _ ⟨rfl, ⟨j0, rfl, by omega, by omega, rfl⟩⟩
  obtain ⟨k_w1, h_w1, rfl⟩ := h_w1
  obtain ⟨k_w3, h_w3, rfl⟩ := h_w3
  obtain ⟨k_w4, h_w4, rfl⟩ := h_w4
  clear hj0
  intro k c s hI
  obtain ⟨rfl, ⟨j, ej, hj, hlo, rfl⟩⟩ := hI
  obtain ⟨c0, c1⟩ := c
  dsimp only at ej
  subst ej
  unfold SX12_balls_32
  dsimp only
  refine Ok.bd _ (rX12_points hT (by first | with_reducible assumption | (simp (disch := omega) only [li_0, li_1, li_2, li_3, li_4, li_5, li_6, li_7, li_8, li_9, li_10, li_20, li_30, li_82, li_91, li_273, li_380, li_400, li_512, li_1000, li_2457, li_4000, nI_add, nI_1, nI_mul, nI_sub, shl_1, shl_1b, nI_or, nI_xor, nI_and]; with_reducible exact ⟨_, (by first | omega | exact or9 (by omega) (by omega) | exact xor9 (by omega) (by omega)), rfl⟩) | with_reducible exact ⟨_, (by first | omega | exact or9 (by omega) (by omega) | exact xor9 (by omega) (by omega)), rfl⟩ | exact IsR.mn (by first | with_reducible assumption | exact ⟨_, by omega, rfl⟩) (by first | with_reducible assumption | exact ⟨_, by omega, rfl⟩) | exact IsR.mx (by first | with_reducible assumption | exact ⟨_, by omega, rfl⟩) (by first | with_reducible assumption | exact ⟨_, by omega, rfl⟩) | with_reducible exact mn9 (by omega) | (simp (disch := omega) only [li_0, li_1, li_2, li_3, li_4, li_5, li_6, li_7, li_8, li_9, li_10, li_20, li_30, li_82, li_91, li_273, li_380, li_400, li_512, li_1000, li_2457, li_4000, nI_add, nI_1, nI_mul, nI_sub, shl_1, shl_1b]; with_reducible exact mn9b (by omega)))) ?_
  rintro _ _ ⟨rfl, kv9, hv9, rfl⟩
  refine Ok.ite (fun c_2 => ?_) (fun c_2 => ?_)
  · try simp (disch := omega) only [li_0, li_1, li_2, li_3, li_4, li_5, li_6, li_7, li_8, li_9, li_10, li_20, li_30, li_82, li_91, li_273, li_380, li_400, li_512, li_1000, li_2457, li_4000, nI_add, nI_1, nI_mul, nI_sub, shl_1, shl_1b, nI_leP, nI_ltP, nI_eqP, Nat.not_le, Nat.not_lt] at c_2
    exact Ok.ret ⟨rfl, True.intro⟩
  · try simp (disch := omega) only [li_0, li_1, li_2, li_3, li_4, li_5, li_6, li_7, li_8, li_9, li_10, li_20, li_30, li_82, li_91, li_273, li_380, li_400, li_512, li_1000, li_2457, li_4000, nI_add, nI_1, nI_mul, nI_sub, shl_1, shl_1b, nI_leP, nI_ltP, nI_eqP, Nat.not_le, Nat.not_lt] at c_2
    refine Ok.bd (fun (v14 : Int32) t15 => t = t15 ∧ (True)) ?_ ?_
    · refine Ok.ite (fun c_3 => ?_) (fun c_3 => ?_)
      · try simp (disch := omega) only [li_0, li_1, li_2, li_3, li_4, li_5, li_6, li_7, li_8, li_9, li_10, li_20, li_30, li_82, li_91, li_273, li_380, li_400, li_512, li_1000, li_2457, li_4000, nI_add, nI_1, nI_mul, nI_sub, shl_1, shl_1b, nI_leP, nI_ltP, nI_eqP, Nat.not_le, Nat.not_lt] at c_3
        exact Ok.ret ⟨rfl, True.intro⟩
      · try simp (disch := omega) only [li_0, li_1, li_2, li_3, li_4, li_5, li_6, li_7, li_8, li_9, li_10, li_20, li_30, li_82, li_91, li_273, li_380, li_400, li_512, li_1000, li_2457, li_4000, nI_add, nI_1, nI_mul, nI_sub, shl_1, shl_1b, nI_leP, nI_ltP, nI_eqP, Nat.not_le, Nat.not_lt] at c_3
        refine Ok.bd _ (rX12_farOf hT (by first | with_reducible assumption | (simp (disch := omega) only [li_0, li_1, li_2, li_3, li_4, li_5, li_6, li_7, li_8, li_9, li_10, li_20, li_30, li_82, li_91, li_273, li_380, li_400, li_512, li_1000, li_2457, li_4000, nI_add, nI_1, nI_mul, nI_sub, shl_1, shl_1b, nI_or, nI_xor, nI_and]; with_reducible exact ⟨_, (by first | omega | exact or9 (by omega) (by omega) | exact xor9 (by omega) (by omega)), rfl⟩) | with_reducible exact ⟨_, (by first | omega | exact or9 (by omega) (by omega) | exact xor9 (by omega) (by omega)), rfl⟩ | exact IsR.mn (by first | with_reducible assumption | exact ⟨_, by omega, rfl⟩) (by first | with_reducible assumption | exact ⟨_, by omega, rfl⟩) | exact IsR.mx (by first | with_reducible assumption | exact ⟨_, by omega, rfl⟩) (by first | with_reducible assumption | exact ⟨_, by omega, rfl⟩) | with_reducible exact mn9 (by omega) | (simp (disch := omega) only [li_0, li_1, li_2, li_3, li_4, li_5, li_6, li_7, li_8, li_9, li_10, li_20, li_30, li_82, li_91, li_273, li_380, li_400, li_512, li_1000, li_2457, li_4000, nI_add, nI_1, nI_mul, nI_sub, shl_1, shl_1b]; with_reducible exact mn9b (by omega)))) ?_
        rintro v18 _ ⟨rfl, hxv18⟩
        refine Ok.bd _ (rX12_in hT) ?_
        rintro v21 _ ⟨rfl, hbv21, hxv21⟩
        refine Ok.ite (fun c_6 => ?_) (fun c_6 => ?_)
        · skip
          exact Ok.ret ⟨rfl, True.intro⟩
        · obtain hinv21 := hxv21.resolve_left c_6
          exact Ok.ret ⟨rfl, True.intro⟩
    · intro v14 t15 hx
      obtain ⟨rfl, hxv14⟩ := hx
      exact Ok.ret ⟨5000 - (j + 1), by omega, rfl, ⟨j + 1, nI_1 j, by omega, by omega, rfl⟩⟩
set_option maxHeartbeats 4000000 in
set_option maxRecDepth 100000 in
theorem rSX12_balls_16 {t : St} (hT : TY t) {w1 : Int32} (h_w1 : IsR 3 w1) {w3 : Int32} (h_w3 : IsR 9 w3) {a0 : Int32} {a1 : Int32} (h_a1 : ∃ k, k < 5001 ∧ 1 ≤ k ∧ a1 = nI k) : Ok (wh (SX12_balls_16 w1 w3) (a0, a1) t) (fun r u => t = u ∧ (True)) := by
  obtain ⟨j0, hj0, hl0, rfl⟩ := h_a1
  refine Ok.loop (fun k c s => t = s ∧ (∃ j, c.2 = nI j ∧ j ≤ 5000 ∧ 1 ≤ j ∧ k = 5000 - j)) ?_ (5000 - j0) _ _ ⟨rfl, ⟨j0, rfl, by omega, by omega, rfl⟩⟩
  obtain ⟨k_w1, h_w1, rfl⟩ := h_w1
  obtain ⟨k_w3, h_w3, rfl⟩ := h_w3
  clear hj0
  intro k c s hI
  obtain ⟨rfl, ⟨j, ej, hj, hlo, rfl⟩⟩ := hI
  obtain ⟨c0, c1⟩ := c
  dsimp only at ej
  subst ej
  unfold SX12_balls_16
  dsimp only
  refine Ok.bd _ (rX12_points hT (by first | with_reducible assumption | (simp (disch := omega) only [li_0, li_1, li_2, li_3, li_4, li_5, li_6, li_7, li_8, li_9, li_10, li_20, li_30, li_82, li_91, li_273, li_380, li_400, li_512, li_1000, li_2457, li_4000, nI_add, nI_1, nI_mul, nI_sub, shl_1, shl_1b, nI_or, nI_xor, nI_and]; with_reducible exact ⟨_, (by first | omega | exact or9 (by omega) (by omega) | exact xor9 (by omega) (by omega)), rfl⟩) | with_reducible exact ⟨_, (by first | omega | exact or9 (by omega) (by omega) | exact xor9 (by omega) (by omega)), rfl⟩ | exact IsR.mn (by first | with_reducible assumption | exact ⟨_, by omega, rfl⟩) (by first | with_reducible assumption | exact ⟨_, by omega, rfl⟩) | exact IsR.mx (by first | with_reducible assumption | exact ⟨_, by omega, rfl⟩) (by first | with_reducible assumption | exact ⟨_, by omega, rfl⟩) | with_reducible exact mn9 (by omega) | (simp (disch := omega) only [li_0, li_1, li_2, li_3, li_4, li_5, li_6, li_7, li_8, li_9, li_10, li_20, li_30, li_82, li_91, li_273, li_380, li_400, li_512, li_1000, li_2457, li_4000, nI_add, nI_1, nI_mul, nI_sub, shl_1, shl_1b]; with_reducible exact mn9b (by omega)))) ?_
  rintro _ _ ⟨rfl, kv5, hv5, rfl⟩
  refine Ok.ite (fun c_2 => ?_) (fun c_2 => ?_)
  · try simp (disch := omega) only [li_0, li_1, li_2, li_3, li_4, li_5, li_6, li_7, li_8, li_9, li_10, li_20, li_30, li_82, li_91, li_273, li_380, li_400, li_512, li_1000, li_2457, li_4000, nI_add, nI_1, nI_mul, nI_sub, shl_1, shl_1b, nI_leP, nI_ltP, nI_eqP, Nat.not_le, Nat.not_lt] at c_2
    exact Ok.ret ⟨rfl, True.intro⟩
  · try simp (disch := omega) only [li_0, li_1, li_2, li_3, li_4, li_5, li_6, li_7, li_8, li_9, li_10, li_20, li_30, li_82, li_91, li_273, li_380, li_400, li_512, li_1000, li_2457, li_4000, nI_add, nI_1, nI_mul, nI_sub, shl_1, shl_1b, nI_leP, nI_ltP, nI_eqP, Nat.not_le, Nat.not_lt] at c_2
    refine Ok.bd _ (rSX12_balls_32 hT (by first | with_reducible assumption | (simp (disch := omega) only [li_0, li_1, li_2, li_3, li_4, li_5, li_6, li_7, li_8, li_9, li_10, li_20, li_30, li_82, li_91, li_273, li_380, li_400, li_512, li_1000, li_2457, li_4000, nI_add, nI_1, nI_mul, nI_sub, shl_1, shl_1b, nI_or, nI_xor, nI_and]; with_reducible exact ⟨_, (by first | omega | exact or9 (by omega) (by omega) | exact xor9 (by omega) (by omega)), rfl⟩) | with_reducible exact ⟨_, (by first | omega | exact or9 (by omega) (by omega) | exact xor9 (by omega) (by omega)), rfl⟩ | exact IsR.mn (by first | with_reducible assumption | exact ⟨_, by omega, rfl⟩) (by first | with_reducible assumption | exact ⟨_, by omega, rfl⟩) | exact IsR.mx (by first | with_reducible assumption | exact ⟨_, by omega, rfl⟩) (by first | with_reducible assumption | exact ⟨_, by omega, rfl⟩) | with_reducible exact mn9 (by omega) | (simp (disch := omega) only [li_0, li_1, li_2, li_3, li_4, li_5, li_6, li_7, li_8, li_9, li_10, li_20, li_30, li_82, li_91, li_273, li_380, li_400, li_512, li_1000, li_2457, li_4000, nI_add, nI_1, nI_mul, nI_sub, shl_1, shl_1b]; with_reducible exact mn9b (by omega))) (by first | with_reducible assumption | (simp (disch := omega) only [li_0, li_1, li_2, li_3, li_4, li_5, li_6, li_7, li_8, li_9, li_10, li_20, li_30, li_82, li_91, li_273, li_380, li_400, li_512, li_1000, li_2457, li_4000, nI_add, nI_1, nI_mul, nI_sub, shl_1, shl_1b, nI_or, nI_xor, nI_and]; with_reducible exact ⟨_, (by first | omega | exact or9 (by omega) (by omega) | exact xor9 (by omega) (by omega)), rfl⟩) | with_reducible exact ⟨_, (by first | omega | exact or9 (by omega) (by omega) | exact xor9 (by omega) (by omega)), rfl⟩ | exact IsR.mn (by first | with_reducible assumption | exact ⟨_, by omega, rfl⟩) (by first | with_reducible assumption | exact ⟨_, by omega, rfl⟩) | exact IsR.mx (by first | with_reducible assumption | exact ⟨_, by omega, rfl⟩) (by first | with_reducible assumption | exact ⟨_, by omega, rfl⟩) | with_reducible exact mn9 (by omega) | (simp (disch := omega) only [li_0, li_1, li_2, li_3, li_4, li_5, li_6, li_7, li_8, li_9, li_10, li_20, li_30, li_82, li_91, li_273, li_380, li_400, li_512, li_1000, li_2457, li_4000, nI_add, nI_1, nI_mul, nI_sub, shl_1, shl_1b]; with_reducible exact mn9b (by omega))) (by first | with_reducible assumption | (simp (disch := omega) only [li_0, li_1, li_2, li_3, li_4, li_5, li_6, li_7, li_8, li_9, li_10, li_20, li_30, li_82, li_91, li_273, li_380, li_400, li_512, li_1000, li_2457, li_4000, nI_add, nI_1, nI_mul, nI_sub, shl_1, shl_1b, nI_or, nI_xor, nI_and]; with_reducible exact ⟨_, (by first | omega | exact or9 (by omega) (by omega) | exact xor9 (by omega) (by omega)), rfl⟩) | with_reducible exact ⟨_, (by first | omega | exact or9 (by omega) (by omega) | exact xor9 (by omega) (by omega)), rfl⟩ | exact IsR.mn (by first | with_reducible assumption | exact ⟨_, by omega, rfl⟩) (by first | with_reducible assumption | exact ⟨_, by omega, rfl⟩) | exact IsR.mx (by first | with_reducible assumption | exact ⟨_, by omega, rfl⟩) (by first | with_reducible assumption | exact ⟨_, by omega, rfl⟩) | with_reducible exact mn9 (by omega) | (simp (disch := omega) only [li_0, li_1, li_2, li_3, li_4, li_5, li_6, li_7, li_8, li_9, li_10, li_20, li_30, li_82, li_91, li_273, li_380, li_400, li_512, li_1000, li_2457, li_4000, nI_add, nI_1, nI_mul, nI_sub, shl_1, shl_1b]; with_reducible exact mn9b (by omega))) (by show IsR 5001 _; first | with_reducible assumption | (simp (disch := omega) only [li_0, li_1, li_2, li_3, li_4, li_5, li_6, li_7, li_8, li_9, li_10, li_20, li_30, li_82, li_91, li_273, li_380, li_400, li_512, li_1000, li_2457, li_4000, nI_add, nI_1, nI_mul, nI_sub, shl_1, shl_1b, nI_or, nI_xor, nI_and]; with_reducible exact ⟨_, (by first | omega | exact or9 (by omega) (by omega) | exact xor9 (by omega) (by omega)), rfl⟩) | with_reducible exact ⟨_, (by first | omega | exact or9 (by omega) (by omega) | exact xor9 (by omega) (by omega)), rfl⟩ | exact IsR.mn (by first | with_reducible assumption | exact ⟨_, by omega, rfl⟩) (by first | with_reducible assumption | exact ⟨_, by omega, rfl⟩) | exact IsR.mx (by first | with_reducible assumption | exact ⟨_, by omega, rfl⟩) (by first | with_reducible assumption | exact ⟨_, by omega, rfl⟩) | with_reducible exact mn9 (by omega) | (simp (disch := omega) only [li_0, li_1, li_2, li_3, li_4, li_5, li_6, li_7, li_8, li_9, li_10, li_20, li_30, li_82, li_91, li_273, li_380, li_400, li_512, li_1000, li_2457, li_4000, nI_add, nI_1, nI_mul, nI_sub, shl_1, shl_1b]; with_reducible exact mn9b (by omega)))) ?_
    rintro e25 _ ⟨rfl, hxe25⟩
    refine Ok.ck (by exact nz_2 (by omega) (by omega)) (fun g_4 => ?_)
    exact Ok.ret ⟨5000 - (j + 1), by omega, rfl, ⟨j + 1, nI_1 j, by omega, by omega, rfl⟩⟩
set_option maxHeartbeats 4000000 in
set_option maxRecDepth 100000 in
theorem rSX12_balls_4 {t : St} (hT : TY t) {w1 : Int32} (h_w1 : IsR 3 w1) {a0 : Int32} {a1 : Int32} (h_a1 : IsR 5001 a1) : Ok (wh (SX12_balls_4 w1) (a0, a1) t) (fun r u => t = u ∧ (True)) := by
  obtain ⟨j0, hj0, rfl⟩ := h_a1
  refine Ok.loop (fun k c s => t = s ∧ (∃ j, c.2 = nI j ∧ j ≤ 5000 ∧ 0 ≤ j ∧ k = 5000 - j)) ?_ (5000 - j0) _ _ ⟨rfl, ⟨j0, rfl, by omega, by omega, rfl⟩⟩
  obtain ⟨k_w1, h_w1, rfl⟩ := h_w1
  clear hj0
  intro k c s hI
  obtain ⟨rfl, ⟨j, ej, hj, hlo, rfl⟩⟩ := hI
  obtain ⟨c0, c1⟩ := c
  dsimp only at ej
  subst ej
  unfold SX12_balls_4
  dsimp only
  refine Ok.bd _ (rX12_points hT (by first | with_reducible assumption | (simp (disch := omega) only [li_0, li_1, li_2, li_3, li_4, li_5, li_6, li_7, li_8, li_9, li_10, li_20, li_30, li_82, li_91, li_273, li_380, li_400, li_512, li_1000, li_2457, li_4000, nI_add, nI_1, nI_mul, nI_sub, shl_1, shl_1b, nI_or, nI_xor, nI_and]; with_reducible exact ⟨_, (by first | omega | exact or9 (by omega) (by omega) | exact xor9 (by omega) (by omega)), rfl⟩) | with_reducible exact ⟨_, (by first | omega | exact or9 (by omega) (by omega) | exact xor9 (by omega) (by omega)), rfl⟩ | exact IsR.mn (by first | with_reducible assumption | exact ⟨_, by omega, rfl⟩) (by first | with_reducible assumption | exact ⟨_, by omega, rfl⟩) | exact IsR.mx (by first | with_reducible assumption | exact ⟨_, by omega, rfl⟩) (by first | with_reducible assumption | exact ⟨_, by omega, rfl⟩) | with_reducible exact mn9 (by omega) | (simp (disch := omega) only [li_0, li_1, li_2, li_3, li_4, li_5, li_6, li_7, li_8, li_9, li_10, li_20, li_30, li_82, li_91, li_273, li_380, li_400, li_512, li_1000, li_2457, li_4000, nI_add, nI_1, nI_mul, nI_sub, shl_1, shl_1b]; with_reducible exact mn9b (by omega)))) ?_
  rintro _ _ ⟨rfl, kv1, hv1, rfl⟩
  refine Ok.ite (fun c_2 => ?_) (fun c_2 => ?_)
  · try simp (disch := omega) only [li_0, li_1, li_2, li_3, li_4, li_5, li_6, li_7, li_8, li_9, li_10, li_20, li_30, li_82, li_91, li_273, li_380, li_400, li_512, li_1000, li_2457, li_4000, nI_add, nI_1, nI_mul, nI_sub, shl_1, shl_1b, nI_leP, nI_ltP, nI_eqP, Nat.not_le, Nat.not_lt] at c_2
    exact Ok.ret ⟨rfl, True.intro⟩
  · try simp (disch := omega) only [li_0, li_1, li_2, li_3, li_4, li_5, li_6, li_7, li_8, li_9, li_10, li_20, li_30, li_82, li_91, li_273, li_380, li_400, li_512, li_1000, li_2457, li_4000, nI_add, nI_1, nI_mul, nI_sub, shl_1, shl_1b, nI_leP, nI_ltP, nI_eqP, Nat.not_le, Nat.not_lt] at c_2
    refine Ok.bd _ (rSX12_balls_16 hT (by first | with_reducible assumption | (simp (disch := omega) only [li_0, li_1, li_2, li_3, li_4, li_5, li_6, li_7, li_8, li_9, li_10, li_20, li_30, li_82, li_91, li_273, li_380, li_400, li_512, li_1000, li_2457, li_4000, nI_add, nI_1, nI_mul, nI_sub, shl_1, shl_1b, nI_or, nI_xor, nI_and]; with_reducible exact ⟨_, (by first | omega | exact or9 (by omega) (by omega) | exact xor9 (by omega) (by omega)), rfl⟩) | with_reducible exact ⟨_, (by first | omega | exact or9 (by omega) (by omega) | exact xor9 (by omega) (by omega)), rfl⟩ | exact IsR.mn (by first | with_reducible assumption | exact ⟨_, by omega, rfl⟩) (by first | with_reducible assumption | exact ⟨_, by omega, rfl⟩) | exact IsR.mx (by first | with_reducible assumption | exact ⟨_, by omega, rfl⟩) (by first | with_reducible assumption | exact ⟨_, by omega, rfl⟩) | with_reducible exact mn9 (by omega) | (simp (disch := omega) only [li_0, li_1, li_2, li_3, li_4, li_5, li_6, li_7, li_8, li_9, li_10, li_20, li_30, li_82, li_91, li_273, li_380, li_400, li_512, li_1000, li_2457, li_4000, nI_add, nI_1, nI_mul, nI_sub, shl_1, shl_1b]; with_reducible exact mn9b (by omega))) (by first | with_reducible assumption | (simp (disch := omega) only [li_0, li_1, li_2, li_3, li_4, li_5, li_6, li_7, li_8, li_9, li_10, li_20, li_30, li_82, li_91, li_273, li_380, li_400, li_512, li_1000, li_2457, li_4000, nI_add, nI_1, nI_mul, nI_sub, shl_1, shl_1b, nI_or, nI_xor, nI_and]; with_reducible exact ⟨_, (by first | omega | exact or9 (by omega) (by omega) | exact xor9 (by omega) (by omega)), rfl⟩) | with_reducible exact ⟨_, (by first | omega | exact or9 (by omega) (by omega) | exact xor9 (by omega) (by omega)), rfl⟩ | exact IsR.mn (by first | with_reducible assumption | exact ⟨_, by omega, rfl⟩) (by first | with_reducible assumption | exact ⟨_, by omega, rfl⟩) | exact IsR.mx (by first | with_reducible assumption | exact ⟨_, by omega, rfl⟩) (by first | with_reducible assumption | exact ⟨_, by omega, rfl⟩) | with_reducible exact mn9 (by omega) | (simp (disch := omega) only [li_0, li_1, li_2, li_3, li_4, li_5, li_6, li_7, li_8, li_9, li_10, li_20, li_30, li_82, li_91, li_273, li_380, li_400, li_512, li_1000, li_2457, li_4000, nI_add, nI_1, nI_mul, nI_sub, shl_1, shl_1b]; with_reducible exact mn9b (by omega))) (by first | exact ⟨_, by omega, by omega, rfl⟩ | (simp (disch := omega) only [li_0, li_1, li_2, li_3, li_4, li_5, li_6, li_7, li_8, li_9, li_10, li_20, li_30, li_82, li_91, li_273, li_380, li_400, li_512, li_1000, li_2457, li_4000, nI_add, nI_1, nI_mul, nI_sub, shl_1, shl_1b]; exact ⟨_, by omega, by omega, rfl⟩))) ?_
    rintro e30 _ ⟨rfl, hxe30⟩
    exact Ok.ret ⟨5000 - (j + 1), by omega, rfl, ⟨j + 1, nI_1 j, by omega, by omega, rfl⟩⟩
set_option maxHeartbeats 4000000 in
set_option maxRecDepth 100000 in
theorem rX12_balls {t : St} (hT : TY t) {a : Int32} (h_a : IsR 3 a) : Ok (FX12_balls a t) (fun r u => t = u ∧ (True)) := by
  obtain ⟨k_a, h_a, rfl⟩ := h_a
  unfold FX12_balls
  refine Ok.bd _ (rSX12_balls_4 hT (by first | with_reducible assumption | (simp (disch := omega) only [li_0, li_1, li_2, li_3, li_4, li_5, li_6, li_7, li_8, li_9, li_10, li_20, li_30, li_82, li_91, li_273, li_380, li_400, li_512, li_1000, li_2457, li_4000, nI_add, nI_1, nI_mul, nI_sub, shl_1, shl_1b, nI_or, nI_xor, nI_and]; with_reducible exact ⟨_, (by first | omega | exact or9 (by omega) (by omega) | exact xor9 (by omega) (by omega)), rfl⟩) | with_reducible exact ⟨_, (by first | omega | exact or9 (by omega) (by omega) | exact xor9 (by omega) (by omega)), rfl⟩ | exact IsR.mn (by first | with_reducible assumption | exact ⟨_, by omega, rfl⟩) (by first | with_reducible assumption | exact ⟨_, by omega, rfl⟩) | exact IsR.mx (by first | with_reducible assumption | exact ⟨_, by omega, rfl⟩) (by first | with_reducible assumption | exact ⟨_, by omega, rfl⟩) | with_reducible exact mn9 (by omega) | (simp (disch := omega) only [li_0, li_1, li_2, li_3, li_4, li_5, li_6, li_7, li_8, li_9, li_10, li_20, li_30, li_82, li_91, li_273, li_380, li_400, li_512, li_1000, li_2457, li_4000, nI_add, nI_1, nI_mul, nI_sub, shl_1, shl_1b]; with_reducible exact mn9b (by omega))) (by show IsR 5001 _; first | with_reducible assumption | (simp (disch := omega) only [li_0, li_1, li_2, li_3, li_4, li_5, li_6, li_7, li_8, li_9, li_10, li_20, li_30, li_82, li_91, li_273, li_380, li_400, li_512, li_1000, li_2457, li_4000, nI_add, nI_1, nI_mul, nI_sub, shl_1, shl_1b, nI_or, nI_xor, nI_and]; with_reducible exact ⟨_, (by first | omega | exact or9 (by omega) (by omega) | exact xor9 (by omega) (by omega)), rfl⟩) | with_reducible exact ⟨_, (by first | omega | exact or9 (by omega) (by omega) | exact xor9 (by omega) (by omega)), rfl⟩ | exact IsR.mn (by first | with_reducible assumption | exact ⟨_, by omega, rfl⟩) (by first | with_reducible assumption | exact ⟨_, by omega, rfl⟩) | exact IsR.mx (by first | with_reducible assumption | exact ⟨_, by omega, rfl⟩) (by first | with_reducible assumption | exact ⟨_, by omega, rfl⟩) | with_reducible exact mn9 (by omega) | (simp (disch := omega) only [li_0, li_1, li_2, li_3, li_4, li_5, li_6, li_7, li_8, li_9, li_10, li_20, li_30, li_82, li_91, li_273, li_380, li_400, li_512, li_1000, li_2457, li_4000, nI_add, nI_1, nI_mul, nI_sub, shl_1, shl_1b]; with_reducible exact mn9b (by omega)))) ?_
  rintro e34 _ ⟨rfl, hxe34⟩
  exact Ok.ret ⟨rfl, True.intro⟩
set_option maxHeartbeats 4000000 in
set_option maxRecDepth 100000 in
theorem rSX12_bound_66 {t : St} (hT : TY t) {w1 : Int32} (h_w1 : IsR 3 w1) {w2 : Int32} {a0 : Int32} {a1 : Int32} (h_a1 : IsR 5001 a1) : Ok (wh (SX12_bound_66 w1 w2) (a0, a1) t) (fun r u => t = u ∧ (True)) := by
  obtain ⟨j0, hj0, rfl⟩ := h_a1
  refine Ok.loop (fun k c s => t = s ∧ (∃ j, c.2 = nI j ∧ j ≤ 5000 ∧ 0 ≤ j ∧ k = 5000 - j)) ?_ (5000 - j0) _ _ ⟨rfl, ⟨j0, rfl, by omega, by omega, rfl⟩⟩
  obtain ⟨k_w1, h_w1, rfl⟩ := h_w1
  clear hj0
  intro k c s hI
  obtain ⟨rfl, ⟨j, ej, hj, hlo, rfl⟩⟩ := hI
  obtain ⟨c0, c1⟩ := c
  dsimp only at ej
  subst ej
  unfold SX12_bound_66
  dsimp only
  refine Ok.bd _ (rX12_points hT (by first | with_reducible assumption | (simp (disch := omega) only [li_0, li_1, li_2, li_3, li_4, li_5, li_6, li_7, li_8, li_9, li_10, li_20, li_30, li_82, li_91, li_273, li_380, li_400, li_512, li_1000, li_2457, li_4000, nI_add, nI_1, nI_mul, nI_sub, shl_1, shl_1b, nI_or, nI_xor, nI_and]; with_reducible exact ⟨_, (by first | omega | exact or9 (by omega) (by omega) | exact xor9 (by omega) (by omega)), rfl⟩) | with_reducible exact ⟨_, (by first | omega | exact or9 (by omega) (by omega) | exact xor9 (by omega) (by omega)), rfl⟩ | exact IsR.mn (by first | with_reducible assumption | exact ⟨_, by omega, rfl⟩) (by first | with_reducible assumption | exact ⟨_, by omega, rfl⟩) | exact IsR.mx (by first | with_reducible assumption | exact ⟨_, by omega, rfl⟩) (by first | with_reducible assumption | exact ⟨_, by omega, rfl⟩) | with_reducible exact mn9 (by omega) | (simp (disch := omega) only [li_0, li_1, li_2, li_3, li_4, li_5, li_6, li_7, li_8, li_9, li_10, li_20, li_30, li_82, li_91, li_273, li_380, li_400, li_512, li_1000, li_2457, li_4000, nI_add, nI_1, nI_mul, nI_sub, shl_1, shl_1b]; with_reducible exact mn9b (by omega)))) ?_
  rintro _ _ ⟨rfl, kv18, hv18, rfl⟩
  refine Ok.ite (fun c_2 => ?_) (fun c_2 => ?_)
  · try simp (disch := omega) only [li_0, li_1, li_2, li_3, li_4, li_5, li_6, li_7, li_8, li_9, li_10, li_20, li_30, li_82, li_91, li_273, li_380, li_400, li_512, li_1000, li_2457, li_4000, nI_add, nI_1, nI_mul, nI_sub, shl_1, shl_1b, nI_leP, nI_ltP, nI_eqP, Nat.not_le, Nat.not_lt] at c_2
    exact Ok.ret ⟨rfl, True.intro⟩
  · try simp (disch := omega) only [li_0, li_1, li_2, li_3, li_4, li_5, li_6, li_7, li_8, li_9, li_10, li_20, li_30, li_82, li_91, li_273, li_380, li_400, li_512, li_1000, li_2457, li_4000, nI_add, nI_1, nI_mul, nI_sub, shl_1, shl_1b, nI_leP, nI_ltP, nI_eqP, Nat.not_le, Nat.not_lt] at c_2
    refine Ok.bd _ (rX12_weightOf hT (by first | with_reducible assumption | (simp (disch := omega) only [li_0, li_1, li_2, li_3, li_4, li_5, li_6, li_7, li_8, li_9, li_10, li_20, li_30, li_82, li_91, li_273, li_380, li_400, li_512, li_1000, li_2457, li_4000, nI_add, nI_1, nI_mul, nI_sub, shl_1, shl_1b, nI_or, nI_xor, nI_and]; with_reducible exact ⟨_, (by first | omega | exact or9 (by omega) (by omega) | exact xor9 (by omega) (by omega)), rfl⟩) | with_reducible exact ⟨_, (by first | omega | exact or9 (by omega) (by omega) | exact xor9 (by omega) (by omega)), rfl⟩ | exact IsR.mn (by first | with_reducible assumption | exact ⟨_, by omega, rfl⟩) (by first | with_reducible assumption | exact ⟨_, by omega, rfl⟩) | exact IsR.mx (by first | with_reducible assumption | exact ⟨_, by omega, rfl⟩) (by first | with_reducible assumption | exact ⟨_, by omega, rfl⟩) | with_reducible exact mn9 (by omega) | (simp (disch := omega) only [li_0, li_1, li_2, li_3, li_4, li_5, li_6, li_7, li_8, li_9, li_10, li_20, li_30, li_82, li_91, li_273, li_380, li_400, li_512, li_1000, li_2457, li_4000, nI_add, nI_1, nI_mul, nI_sub, shl_1, shl_1b]; with_reducible exact mn9b (by omega))) (by first | with_reducible assumption | (simp (disch := omega) only [li_0, li_1, li_2, li_3, li_4, li_5, li_6, li_7, li_8, li_9, li_10, li_20, li_30, li_82, li_91, li_273, li_380, li_400, li_512, li_1000, li_2457, li_4000, nI_add, nI_1, nI_mul, nI_sub, shl_1, shl_1b, nI_or, nI_xor, nI_and]; with_reducible exact ⟨_, (by first | omega | exact or9 (by omega) (by omega) | exact xor9 (by omega) (by omega)), rfl⟩) | with_reducible exact ⟨_, (by first | omega | exact or9 (by omega) (by omega) | exact xor9 (by omega) (by omega)), rfl⟩ | exact IsR.mn (by first | with_reducible assumption | exact ⟨_, by omega, rfl⟩) (by first | with_reducible assumption | exact ⟨_, by omega, rfl⟩) | exact IsR.mx (by first | with_reducible assumption | exact ⟨_, by omega, rfl⟩) (by first | with_reducible assumption | exact ⟨_, by omega, rfl⟩) | with_reducible exact mn9 (by omega) | (simp (disch := omega) only [li_0, li_1, li_2, li_3, li_4, li_5, li_6, li_7, li_8, li_9, li_10, li_20, li_30, li_82, li_91, li_273, li_380, li_400, li_512, li_1000, li_2457, li_4000, nI_add, nI_1, nI_mul, nI_sub, shl_1, shl_1b]; with_reducible exact mn9b (by omega)))) ?_
    rintro v22 _ ⟨rfl, hxv22⟩
    exact Ok.ret ⟨5000 - (j + 1), by omega, rfl, ⟨j + 1, nI_1 j, by omega, by omega, rfl⟩⟩
set_option maxHeartbeats 4000000 in
set_option maxRecDepth 100000 in
theorem rX12_bound {t : St} (hT : TY t) {a : Int32} {b : Int32} {c : Int32} : Ok (FX12_bound a b c t) (fun r u => t = u ∧ (True)) := by
  unfold FX12_bound
  refine Ok.bd _ (rX12_isNet hT) ?_
  rintro v1 _ ⟨rfl, hbv1, hxv1⟩
  refine Ok.ite (fun c_2 => ?_) (fun c_2 => ?_)
  · skip
    exact Ok.ret ⟨rfl, True.intro⟩
  · obtain ⟨⟨kav1, hkav1, rfl⟩, hptv1⟩ := hxv1.resolve_left c_2
    refine Ok.bd _ (rX12_isMeasure hT) ?_
    rintro v6 _ ⟨rfl, hbv6, hxv6⟩
    refine Ok.ite (fun c_4 => ?_) (fun c_4 => ?_)
    · skip
      exact Ok.ret ⟨rfl, True.intro⟩
    · obtain hmv6 := hxv6.resolve_left c_4
      refine Ok.ite (fun c_5 => ?_) (fun c_5 => ?_)
      · try simp (disch := omega) only [li_0, li_1, li_2, li_3, li_4, li_5, li_6, li_7, li_8, li_9, li_10, li_20, li_30, li_82, li_91, li_273, li_380, li_400, li_512, li_1000, li_2457, li_4000, nI_add, nI_1, nI_mul, nI_sub, shl_1, shl_1b, nI_leP, nI_ltP, nI_eqP, Nat.not_le, Nat.not_lt] at c_5
        refine Ok.ite (fun c_6 => ?_) (fun c_6 => ?_)
        · try simp (disch := omega) only [li_0, li_1, li_2, li_3, li_4, li_5, li_6, li_7, li_8, li_9, li_10, li_20, li_30, li_82, li_91, li_273, li_380, li_400, li_512, li_1000, li_2457, li_4000, nI_add, nI_1, nI_mul, nI_sub, shl_1, shl_1b, nI_leP, nI_ltP, nI_eqP, Nat.not_le, Nat.not_lt] at c_6
          refine Ok.bd _ (rX12_in hT) ?_
          rintro v45 _ ⟨rfl, hbv45, hxv45⟩
          refine Ok.ite (fun c_8 => ?_) (fun c_8 => ?_)
          · skip
            exact Ok.ret ⟨rfl, True.intro⟩
          · obtain hinv45 := hxv45.resolve_left c_8
            refine Ok.ite (fun c_9 => ?_) (fun c_9 => ?_)
            · try simp (disch := omega) only [li_0, li_1, li_2, li_3, li_4, li_5, li_6, li_7, li_8, li_9, li_10, li_20, li_30, li_82, li_91, li_273, li_380, li_400, li_512, li_1000, li_2457, li_4000, nI_add, nI_1, nI_mul, nI_sub, shl_1, shl_1b, nI_leP, nI_ltP, nI_eqP, Nat.not_le, Nat.not_lt] at c_9
              refine Ok.bd _ (rX12_balls hT (by first | with_reducible assumption | (simp (disch := omega) only [li_0, li_1, li_2, li_3, li_4, li_5, li_6, li_7, li_8, li_9, li_10, li_20, li_30, li_82, li_91, li_273, li_380, li_400, li_512, li_1000, li_2457, li_4000, nI_add, nI_1, nI_mul, nI_sub, shl_1, shl_1b, nI_or, nI_xor, nI_and]; with_reducible exact ⟨_, (by first | omega | exact or9 (by omega) (by omega) | exact xor9 (by omega) (by omega)), rfl⟩) | with_reducible exact ⟨_, (by first | omega | exact or9 (by omega) (by omega) | exact xor9 (by omega) (by omega)), rfl⟩ | exact IsR.mn (by first | with_reducible assumption | exact ⟨_, by omega, rfl⟩) (by first | with_reducible assumption | exact ⟨_, by omega, rfl⟩) | exact IsR.mx (by first | with_reducible assumption | exact ⟨_, by omega, rfl⟩) (by first | with_reducible assumption | exact ⟨_, by omega, rfl⟩) | with_reducible exact mn9 (by omega) | (simp (disch := omega) only [li_0, li_1, li_2, li_3, li_4, li_5, li_6, li_7, li_8, li_9, li_10, li_20, li_30, li_82, li_91, li_273, li_380, li_400, li_512, li_1000, li_2457, li_4000, nI_add, nI_1, nI_mul, nI_sub, shl_1, shl_1b]; with_reducible exact mn9b (by omega)))) ?_
              rintro v65 _ ⟨rfl, hxv65⟩
              exact Ok.ret ⟨rfl, True.intro⟩
            · try simp (disch := omega) only [li_0, li_1, li_2, li_3, li_4, li_5, li_6, li_7, li_8, li_9, li_10, li_20, li_30, li_82, li_91, li_273, li_380, li_400, li_512, li_1000, li_2457, li_4000, nI_add, nI_1, nI_mul, nI_sub, shl_1, shl_1b, nI_leP, nI_ltP, nI_eqP, Nat.not_le, Nat.not_lt] at c_9
              refine Ok.bd _ (rSX12_bound_66 hT (by first | with_reducible assumption | (simp (disch := omega) only [li_0, li_1, li_2, li_3, li_4, li_5, li_6, li_7, li_8, li_9, li_10, li_20, li_30, li_82, li_91, li_273, li_380, li_400, li_512, li_1000, li_2457, li_4000, nI_add, nI_1, nI_mul, nI_sub, shl_1, shl_1b, nI_or, nI_xor, nI_and]; with_reducible exact ⟨_, (by first | omega | exact or9 (by omega) (by omega) | exact xor9 (by omega) (by omega)), rfl⟩) | with_reducible exact ⟨_, (by first | omega | exact or9 (by omega) (by omega) | exact xor9 (by omega) (by omega)), rfl⟩ | exact IsR.mn (by first | with_reducible assumption | exact ⟨_, by omega, rfl⟩) (by first | with_reducible assumption | exact ⟨_, by omega, rfl⟩) | exact IsR.mx (by first | with_reducible assumption | exact ⟨_, by omega, rfl⟩) (by first | with_reducible assumption | exact ⟨_, by omega, rfl⟩) | with_reducible exact mn9 (by omega) | (simp (disch := omega) only [li_0, li_1, li_2, li_3, li_4, li_5, li_6, li_7, li_8, li_9, li_10, li_20, li_30, li_82, li_91, li_273, li_380, li_400, li_512, li_1000, li_2457, li_4000, nI_add, nI_1, nI_mul, nI_sub, shl_1, shl_1b]; with_reducible exact mn9b (by omega))) (by show IsR 5001 _; first | with_reducible assumption | (simp (disch := omega) only [li_0, li_1, li_2, li_3, li_4, li_5, li_6, li_7, li_8, li_9, li_10, li_20, li_30, li_82, li_91, li_273, li_380, li_400, li_512, li_1000, li_2457, li_4000, nI_add, nI_1, nI_mul, nI_sub, shl_1, shl_1b, nI_or, nI_xor, nI_and]; with_reducible exact ⟨_, (by first | omega | exact or9 (by omega) (by omega) | exact xor9 (by omega) (by omega)), rfl⟩) | with_reducible exact ⟨_, (by first | omega | exact or9 (by omega) (by omega) | exact xor9 (by omega) (by omega)), rfl⟩ | exact IsR.mn (by first | with_reducible assumption | exact ⟨_, by omega, rfl⟩) (by first | with_reducible assumption | exact ⟨_, by omega, rfl⟩) | exact IsR.mx (by first | with_reducible assumption | exact ⟨_, by omega, rfl⟩) (by first | with_reducible assumption | exact ⟨_, by omega, rfl⟩) | with_reducible exact mn9 (by omega) | (simp (disch := omega) only [li_0, li_1, li_2, li_3, li_4, li_5, li_6, li_7, li_8, li_9, li_10, li_20, li_30, li_82, li_91, li_273, li_380, li_400, li_512, li_1000, li_2457, li_4000, nI_add, nI_1, nI_mul, nI_sub, shl_1, shl_1b]; with_reducible exact mn9b (by omega)))) ?_
              rintro e50 _ ⟨rfl, hxe50⟩
              refine Ok.ite (fun c_12 => ?_) (fun c_12 => ?_)
              · try simp (disch := omega) only [li_0, li_1, li_2, li_3, li_4, li_5, li_6, li_7, li_8, li_9, li_10, li_20, li_30, li_82, li_91, li_273, li_380, li_400, li_512, li_1000, li_2457, li_4000, nI_add, nI_1, nI_mul, nI_sub, shl_1, shl_1b, nI_leP, nI_ltP, nI_eqP, Nat.not_le, Nat.not_lt] at c_12
                exact Ok.ret ⟨rfl, True.intro⟩
              · try simp (disch := omega) only [li_0, li_1, li_2, li_3, li_4, li_5, li_6, li_7, li_8, li_9, li_10, li_20, li_30, li_82, li_91, li_273, li_380, li_400, li_512, li_1000, li_2457, li_4000, nI_add, nI_1, nI_mul, nI_sub, shl_1, shl_1b, nI_leP, nI_ltP, nI_eqP, Nat.not_le, Nat.not_lt] at c_12
                refine Ok.ite (fun c_13 => ?_) (fun c_13 => ?_)
                · try simp (disch := omega) only [li_0, li_1, li_2, li_3, li_4, li_5, li_6, li_7, li_8, li_9, li_10, li_20, li_30, li_82, li_91, li_273, li_380, li_400, li_512, li_1000, li_2457, li_4000, nI_add, nI_1, nI_mul, nI_sub, shl_1, shl_1b, nI_leP, nI_ltP, nI_eqP, Nat.not_le, Nat.not_lt] at c_13
                  refine Ok.bd _ (rX12_degree hT (by first | with_reducible assumption | (simp (disch := omega) only [li_0, li_1, li_2, li_3, li_4, li_5, li_6, li_7, li_8, li_9, li_10, li_20, li_30, li_82, li_91, li_273, li_380, li_400, li_512, li_1000, li_2457, li_4000, nI_add, nI_1, nI_mul, nI_sub, shl_1, shl_1b, nI_or, nI_xor, nI_and]; with_reducible exact ⟨_, (by first | omega | exact or9 (by omega) (by omega) | exact xor9 (by omega) (by omega)), rfl⟩) | with_reducible exact ⟨_, (by first | omega | exact or9 (by omega) (by omega) | exact xor9 (by omega) (by omega)), rfl⟩ | exact IsR.mn (by first | with_reducible assumption | exact ⟨_, by omega, rfl⟩) (by first | with_reducible assumption | exact ⟨_, by omega, rfl⟩) | exact IsR.mx (by first | with_reducible assumption | exact ⟨_, by omega, rfl⟩) (by first | with_reducible assumption | exact ⟨_, by omega, rfl⟩) | with_reducible exact mn9 (by omega) | (simp (disch := omega) only [li_0, li_1, li_2, li_3, li_4, li_5, li_6, li_7, li_8, li_9, li_10, li_20, li_30, li_82, li_91, li_273, li_380, li_400, li_512, li_1000, li_2457, li_4000, nI_add, nI_1, nI_mul, nI_sub, shl_1, shl_1b]; with_reducible exact mn9b (by omega)))) ?_
                  rintro v60 _ ⟨rfl, hxv60⟩
                  exact Ok.ret ⟨rfl, True.intro⟩
                · try simp (disch := omega) only [li_0, li_1, li_2, li_3, li_4, li_5, li_6, li_7, li_8, li_9, li_10, li_20, li_30, li_82, li_91, li_273, li_380, li_400, li_512, li_1000, li_2457, li_4000, nI_add, nI_1, nI_mul, nI_sub, shl_1, shl_1b, nI_leP, nI_ltP, nI_eqP, Nat.not_le, Nat.not_lt] at c_13
                  refine Ok.bd _ (rX12_core hT (by first | with_reducible assumption | (simp (disch := omega) only [li_0, li_1, li_2, li_3, li_4, li_5, li_6, li_7, li_8, li_9, li_10, li_20, li_30, li_82, li_91, li_273, li_380, li_400, li_512, li_1000, li_2457, li_4000, nI_add, nI_1, nI_mul, nI_sub, shl_1, shl_1b, nI_or, nI_xor, nI_and]; with_reducible exact ⟨_, (by first | omega | exact or9 (by omega) (by omega) | exact xor9 (by omega) (by omega)), rfl⟩) | with_reducible exact ⟨_, (by first | omega | exact or9 (by omega) (by omega) | exact xor9 (by omega) (by omega)), rfl⟩ | exact IsR.mn (by first | with_reducible assumption | exact ⟨_, by omega, rfl⟩) (by first | with_reducible assumption | exact ⟨_, by omega, rfl⟩) | exact IsR.mx (by first | with_reducible assumption | exact ⟨_, by omega, rfl⟩) (by first | with_reducible assumption | exact ⟨_, by omega, rfl⟩) | with_reducible exact mn9 (by omega) | (simp (disch := omega) only [li_0, li_1, li_2, li_3, li_4, li_5, li_6, li_7, li_8, li_9, li_10, li_20, li_30, li_82, li_91, li_273, li_380, li_400, li_512, li_1000, li_2457, li_4000, nI_add, nI_1, nI_mul, nI_sub, shl_1, shl_1b]; with_reducible exact mn9b (by omega)))) ?_
                  rintro v56 _ ⟨rfl, hxv56⟩
                  exact Ok.ret ⟨rfl, True.intro⟩
        · try simp (disch := omega) only [li_0, li_1, li_2, li_3, li_4, li_5, li_6, li_7, li_8, li_9, li_10, li_20, li_30, li_82, li_91, li_273, li_380, li_400, li_512, li_1000, li_2457, li_4000, nI_add, nI_1, nI_mul, nI_sub, shl_1, shl_1b, nI_leP, nI_ltP, nI_eqP, Nat.not_le, Nat.not_lt] at c_6
          refine Ok.bd _ (rX12_in hT) ?_
          rintro v13 _ ⟨rfl, hbv13, hxv13⟩
          refine Ok.ite (fun c_17 => ?_) (fun c_17 => ?_)
          · skip
            exact Ok.ret ⟨rfl, True.intro⟩
          · obtain hinv13 := hxv13.resolve_left c_17
            refine Ok.ite (fun c_18 => ?_) (fun c_18 => ?_)
            · try simp (disch := omega) only [li_0, li_1, li_2, li_3, li_4, li_5, li_6, li_7, li_8, li_9, li_10, li_20, li_30, li_82, li_91, li_273, li_380, li_400, li_512, li_1000, li_2457, li_4000, nI_add, nI_1, nI_mul, nI_sub, shl_1, shl_1b, nI_leP, nI_ltP, nI_eqP, Nat.not_le, Nat.not_lt] at c_18
              refine Ok.bd _ (rX12_balls hT (by first | with_reducible assumption | (simp (disch := omega) only [li_0, li_1, li_2, li_3, li_4, li_5, li_6, li_7, li_8, li_9, li_10, li_20, li_30, li_82, li_91, li_273, li_380, li_400, li_512, li_1000, li_2457, li_4000, nI_add, nI_1, nI_mul, nI_sub, shl_1, shl_1b, nI_or, nI_xor, nI_and]; with_reducible exact ⟨_, (by first | omega | exact or9 (by omega) (by omega) | exact xor9 (by omega) (by omega)), rfl⟩) | with_reducible exact ⟨_, (by first | omega | exact or9 (by omega) (by omega) | exact xor9 (by omega) (by omega)), rfl⟩ | exact IsR.mn (by first | with_reducible assumption | exact ⟨_, by omega, rfl⟩) (by first | with_reducible assumption | exact ⟨_, by omega, rfl⟩) | exact IsR.mx (by first | with_reducible assumption | exact ⟨_, by omega, rfl⟩) (by first | with_reducible assumption | exact ⟨_, by omega, rfl⟩) | with_reducible exact mn9 (by omega) | (simp (disch := omega) only [li_0, li_1, li_2, li_3, li_4, li_5, li_6, li_7, li_8, li_9, li_10, li_20, li_30, li_82, li_91, li_273, li_380, li_400, li_512, li_1000, li_2457, li_4000, nI_add, nI_1, nI_mul, nI_sub, shl_1, shl_1b]; with_reducible exact mn9b (by omega)))) ?_
              rintro v40 _ ⟨rfl, hxv40⟩
              exact Ok.ret ⟨rfl, True.intro⟩
            · try simp (disch := omega) only [li_0, li_1, li_2, li_3, li_4, li_5, li_6, li_7, li_8, li_9, li_10, li_20, li_30, li_82, li_91, li_273, li_380, li_400, li_512, li_1000, li_2457, li_4000, nI_add, nI_1, nI_mul, nI_sub, shl_1, shl_1b, nI_leP, nI_ltP, nI_eqP, Nat.not_le, Nat.not_lt] at c_18
              refine Ok.bd _ (rSX12_bound_66 hT (by first | with_reducible assumption | (simp (disch := omega) only [li_0, li_1, li_2, li_3, li_4, li_5, li_6, li_7, li_8, li_9, li_10, li_20, li_30, li_82, li_91, li_273, li_380, li_400, li_512, li_1000, li_2457, li_4000, nI_add, nI_1, nI_mul, nI_sub, shl_1, shl_1b, nI_or, nI_xor, nI_and]; with_reducible exact ⟨_, (by first | omega | exact or9 (by omega) (by omega) | exact xor9 (by omega) (by omega)), rfl⟩) | with_reducible exact ⟨_, (by first | omega | exact or9 (by omega) (by omega) | exact xor9 (by omega) (by omega)), rfl⟩ | exact IsR.mn (by first | with_reducible assumption | exact ⟨_, by omega, rfl⟩) (by first | with_reducible assumption | exact ⟨_, by omega, rfl⟩) | exact IsR.mx (by first | with_reducible assumption | exact ⟨_, by omega, rfl⟩) (by first | with_reducible assumption | exact ⟨_, by omega, rfl⟩) | with_reducible exact mn9 (by omega) | (simp (disch := omega) only [li_0, li_1, li_2, li_3, li_4, li_5, li_6, li_7, li_8, li_9, li_10, li_20, li_30, li_82, li_91, li_273, li_380, li_400, li_512, li_1000, li_2457, li_4000, nI_add, nI_1, nI_mul, nI_sub, shl_1, shl_1b]; with_reducible exact mn9b (by omega))) (by show IsR 5001 _; first | with_reducible assumption | (simp (disch := omega) only [li_0, li_1, li_2, li_3, li_4, li_5, li_6, li_7, li_8, li_9, li_10, li_20, li_30, li_82, li_91, li_273, li_380, li_400, li_512, li_1000, li_2457, li_4000, nI_add, nI_1, nI_mul, nI_sub, shl_1, shl_1b, nI_or, nI_xor, nI_and]; with_reducible exact ⟨_, (by first | omega | exact or9 (by omega) (by omega) | exact xor9 (by omega) (by omega)), rfl⟩) | with_reducible exact ⟨_, (by first | omega | exact or9 (by omega) (by omega) | exact xor9 (by omega) (by omega)), rfl⟩ | exact IsR.mn (by first | with_reducible assumption | exact ⟨_, by omega, rfl⟩) (by first | with_reducible assumption | exact ⟨_, by omega, rfl⟩) | exact IsR.mx (by first | with_reducible assumption | exact ⟨_, by omega, rfl⟩) (by first | with_reducible assumption | exact ⟨_, by omega, rfl⟩) | with_reducible exact mn9 (by omega) | (simp (disch := omega) only [li_0, li_1, li_2, li_3, li_4, li_5, li_6, li_7, li_8, li_9, li_10, li_20, li_30, li_82, li_91, li_273, li_380, li_400, li_512, li_1000, li_2457, li_4000, nI_add, nI_1, nI_mul, nI_sub, shl_1, shl_1b]; with_reducible exact mn9b (by omega)))) ?_
              rintro e25 _ ⟨rfl, hxe25⟩
              refine Ok.ite (fun c_21 => ?_) (fun c_21 => ?_)
              · try simp (disch := omega) only [li_0, li_1, li_2, li_3, li_4, li_5, li_6, li_7, li_8, li_9, li_10, li_20, li_30, li_82, li_91, li_273, li_380, li_400, li_512, li_1000, li_2457, li_4000, nI_add, nI_1, nI_mul, nI_sub, shl_1, shl_1b, nI_leP, nI_ltP, nI_eqP, Nat.not_le, Nat.not_lt] at c_21
                exact Ok.ret ⟨rfl, True.intro⟩
              · try simp (disch := omega) only [li_0, li_1, li_2, li_3, li_4, li_5, li_6, li_7, li_8, li_9, li_10, li_20, li_30, li_82, li_91, li_273, li_380, li_400, li_512, li_1000, li_2457, li_4000, nI_add, nI_1, nI_mul, nI_sub, shl_1, shl_1b, nI_leP, nI_ltP, nI_eqP, Nat.not_le, Nat.not_lt] at c_21
                refine Ok.ite (fun c_22 => ?_) (fun c_22 => ?_)
                · try simp (disch := omega) only [li_0, li_1, li_2, li_3, li_4, li_5, li_6, li_7, li_8, li_9, li_10, li_20, li_30, li_82, li_91, li_273, li_380, li_400, li_512, li_1000, li_2457, li_4000, nI_add, nI_1, nI_mul, nI_sub, shl_1, shl_1b, nI_leP, nI_ltP, nI_eqP, Nat.not_le, Nat.not_lt] at c_22
                  refine Ok.bd _ (rX12_degree hT (by first | with_reducible assumption | (simp (disch := omega) only [li_0, li_1, li_2, li_3, li_4, li_5, li_6, li_7, li_8, li_9, li_10, li_20, li_30, li_82, li_91, li_273, li_380, li_400, li_512, li_1000, li_2457, li_4000, nI_add, nI_1, nI_mul, nI_sub, shl_1, shl_1b, nI_or, nI_xor, nI_and]; with_reducible exact ⟨_, (by first | omega | exact or9 (by omega) (by omega) | exact xor9 (by omega) (by omega)), rfl⟩) | with_reducible exact ⟨_, (by first | omega | exact or9 (by omega) (by omega) | exact xor9 (by omega) (by omega)), rfl⟩ | exact IsR.mn (by first | with_reducible assumption | exact ⟨_, by omega, rfl⟩) (by first | with_reducible assumption | exact ⟨_, by omega, rfl⟩) | exact IsR.mx (by first | with_reducible assumption | exact ⟨_, by omega, rfl⟩) (by first | with_reducible assumption | exact ⟨_, by omega, rfl⟩) | with_reducible exact mn9 (by omega) | (simp (disch := omega) only [li_0, li_1, li_2, li_3, li_4, li_5, li_6, li_7, li_8, li_9, li_10, li_20, li_30, li_82, li_91, li_273, li_380, li_400, li_512, li_1000, li_2457, li_4000, nI_add, nI_1, nI_mul, nI_sub, shl_1, shl_1b]; with_reducible exact mn9b (by omega)))) ?_
                  rintro v35 _ ⟨rfl, hxv35⟩
                  exact Ok.ret ⟨rfl, True.intro⟩
                · try simp (disch := omega) only [li_0, li_1, li_2, li_3, li_4, li_5, li_6, li_7, li_8, li_9, li_10, li_20, li_30, li_82, li_91, li_273, li_380, li_400, li_512, li_1000, li_2457, li_4000, nI_add, nI_1, nI_mul, nI_sub, shl_1, shl_1b, nI_leP, nI_ltP, nI_eqP, Nat.not_le, Nat.not_lt] at c_22
                  refine Ok.bd _ (rX12_core hT (by first | with_reducible assumption | (simp (disch := omega) only [li_0, li_1, li_2, li_3, li_4, li_5, li_6, li_7, li_8, li_9, li_10, li_20, li_30, li_82, li_91, li_273, li_380, li_400, li_512, li_1000, li_2457, li_4000, nI_add, nI_1, nI_mul, nI_sub, shl_1, shl_1b, nI_or, nI_xor, nI_and]; with_reducible exact ⟨_, (by first | omega | exact or9 (by omega) (by omega) | exact xor9 (by omega) (by omega)), rfl⟩) | with_reducible exact ⟨_, (by first | omega | exact or9 (by omega) (by omega) | exact xor9 (by omega) (by omega)), rfl⟩ | exact IsR.mn (by first | with_reducible assumption | exact ⟨_, by omega, rfl⟩) (by first | with_reducible assumption | exact ⟨_, by omega, rfl⟩) | exact IsR.mx (by first | with_reducible assumption | exact ⟨_, by omega, rfl⟩) (by first | with_reducible assumption | exact ⟨_, by omega, rfl⟩) | with_reducible exact mn9 (by omega) | (simp (disch := omega) only [li_0, li_1, li_2, li_3, li_4, li_5, li_6, li_7, li_8, li_9, li_10, li_20, li_30, li_82, li_91, li_273, li_380, li_400, li_512, li_1000, li_2457, li_4000, nI_add, nI_1, nI_mul, nI_sub, shl_1, shl_1b]; with_reducible exact mn9b (by omega)))) ?_
                  rintro v31 _ ⟨rfl, hxv31⟩
                  exact Ok.ret ⟨rfl, True.intro⟩
      · try simp (disch := omega) only [li_0, li_1, li_2, li_3, li_4, li_5, li_6, li_7, li_8, li_9, li_10, li_20, li_30, li_82, li_91, li_273, li_380, li_400, li_512, li_1000, li_2457, li_4000, nI_add, nI_1, nI_mul, nI_sub, shl_1, shl_1b, nI_leP, nI_ltP, nI_eqP, Nat.not_le, Nat.not_lt] at c_5
        refine Ok.bd _ (rX12_isGreatest hT) ?_
        rintro v70 _ ⟨rfl, hbv70, hxv70⟩
        refine Ok.ite (fun c_26 => ?_) (fun c_26 => ?_)
        · try simp (disch := omega) only [li_0, li_1, li_2, li_3, li_4, li_5, li_6, li_7, li_8, li_9, li_10, li_20, li_30, li_82, li_91, li_273, li_380, li_400, li_512, li_1000, li_2457, li_4000, nI_add, nI_1, nI_mul, nI_sub, shl_1, shl_1b, nI_leP, nI_ltP, nI_eqP, Nat.not_le, Nat.not_lt] at c_26
          exact Ok.ret ⟨rfl, True.intro⟩
        · try simp (disch := omega) only [li_0, li_1, li_2, li_3, li_4, li_5, li_6, li_7, li_8, li_9, li_10, li_20, li_30, li_82, li_91, li_273, li_380, li_400, li_512, li_1000, li_2457, li_4000, nI_add, nI_1, nI_mul, nI_sub, shl_1, shl_1b, nI_leP, nI_ltP, nI_eqP, Nat.not_le, Nat.not_lt] at c_26
          refine Ok.ite (fun c_27 => ?_) (fun c_27 => ?_)
          · try simp (disch := omega) only [li_0, li_1, li_2, li_3, li_4, li_5, li_6, li_7, li_8, li_9, li_10, li_20, li_30, li_82, li_91, li_273, li_380, li_400, li_512, li_1000, li_2457, li_4000, nI_add, nI_1, nI_mul, nI_sub, shl_1, shl_1b, nI_leP, nI_ltP, nI_eqP, Nat.not_le, Nat.not_lt] at c_27
            refine Ok.bd _ (rX12_in hT) ?_
            rintro v101 _ ⟨rfl, hbv101, hxv101⟩
            refine Ok.ite (fun c_29 => ?_) (fun c_29 => ?_)
            · skip
              exact Ok.ret ⟨rfl, True.intro⟩
            · obtain hinv101 := hxv101.resolve_left c_29
              refine Ok.ite (fun c_30 => ?_) (fun c_30 => ?_)
              · try simp (disch := omega) only [li_0, li_1, li_2, li_3, li_4, li_5, li_6, li_7, li_8, li_9, li_10, li_20, li_30, li_82, li_91, li_273, li_380, li_400, li_512, li_1000, li_2457, li_4000, nI_add, nI_1, nI_mul, nI_sub, shl_1, shl_1b, nI_leP, nI_ltP, nI_eqP, Nat.not_le, Nat.not_lt] at c_30
                refine Ok.bd _ (rX12_balls hT (by first | with_reducible assumption | (simp (disch := omega) only [li_0, li_1, li_2, li_3, li_4, li_5, li_6, li_7, li_8, li_9, li_10, li_20, li_30, li_82, li_91, li_273, li_380, li_400, li_512, li_1000, li_2457, li_4000, nI_add, nI_1, nI_mul, nI_sub, shl_1, shl_1b, nI_or, nI_xor, nI_and]; with_reducible exact ⟨_, (by first | omega | exact or9 (by omega) (by omega) | exact xor9 (by omega) (by omega)), rfl⟩) | with_reducible exact ⟨_, (by first | omega | exact or9 (by omega) (by omega) | exact xor9 (by omega) (by omega)), rfl⟩ | exact IsR.mn (by first | with_reducible assumption | exact ⟨_, by omega, rfl⟩) (by first | with_reducible assumption | exact ⟨_, by omega, rfl⟩) | exact IsR.mx (by first | with_reducible assumption | exact ⟨_, by omega, rfl⟩) (by first | with_reducible assumption | exact ⟨_, by omega, rfl⟩) | with_reducible exact mn9 (by omega) | (simp (disch := omega) only [li_0, li_1, li_2, li_3, li_4, li_5, li_6, li_7, li_8, li_9, li_10, li_20, li_30, li_82, li_91, li_273, li_380, li_400, li_512, li_1000, li_2457, li_4000, nI_add, nI_1, nI_mul, nI_sub, shl_1, shl_1b]; with_reducible exact mn9b (by omega)))) ?_
                rintro v121 _ ⟨rfl, hxv121⟩
                exact Ok.ret ⟨rfl, True.intro⟩
              · try simp (disch := omega) only [li_0, li_1, li_2, li_3, li_4, li_5, li_6, li_7, li_8, li_9, li_10, li_20, li_30, li_82, li_91, li_273, li_380, li_400, li_512, li_1000, li_2457, li_4000, nI_add, nI_1, nI_mul, nI_sub, shl_1, shl_1b, nI_leP, nI_ltP, nI_eqP, Nat.not_le, Nat.not_lt] at c_30
                refine Ok.bd _ (rSX12_bound_66 hT (by first | with_reducible assumption | (simp (disch := omega) only [li_0, li_1, li_2, li_3, li_4, li_5, li_6, li_7, li_8, li_9, li_10, li_20, li_30, li_82, li_91, li_273, li_380, li_400, li_512, li_1000, li_2457, li_4000, nI_add, nI_1, nI_mul, nI_sub, shl_1, shl_1b, nI_or, nI_xor, nI_and]; with_reducible exact ⟨_, (by first | omega | exact or9 (by omega) (by omega) | exact xor9 (by omega) (by omega)), rfl⟩) | with_reducible exact ⟨_, (by first | omega | exact or9 (by omega) (by omega) | exact xor9 (by omega) (by omega)), rfl⟩ | exact IsR.mn (by first | with_reducible assumption | exact ⟨_, by omega, rfl⟩) (by first | with_reducible assumption | exact ⟨_, by omega, rfl⟩) | exact IsR.mx (by first | with_reducible assumption | exact ⟨_, by omega, rfl⟩) (by first | with_reducible assumption | exact ⟨_, by omega, rfl⟩) | with_reducible exact mn9 (by omega) | (simp (disch := omega) only [li_0, li_1, li_2, li_3, li_4, li_5, li_6, li_7, li_8, li_9, li_10, li_20, li_30, li_82, li_91, li_273, li_380, li_400, li_512, li_1000, li_2457, li_4000, nI_add, nI_1, nI_mul, nI_sub, shl_1, shl_1b]; with_reducible exact mn9b (by omega))) (by show IsR 5001 _; first | with_reducible assumption | (simp (disch := omega) only [li_0, li_1, li_2, li_3, li_4, li_5, li_6, li_7, li_8, li_9, li_10, li_20, li_30, li_82, li_91, li_273, li_380, li_400, li_512, li_1000, li_2457, li_4000, nI_add, nI_1, nI_mul, nI_sub, shl_1, shl_1b, nI_or, nI_xor, nI_and]; with_reducible exact ⟨_, (by first | omega | exact or9 (by omega) (by omega) | exact xor9 (by omega) (by omega)), rfl⟩) | with_reducible exact ⟨_, (by first | omega | exact or9 (by omega) (by omega) | exact xor9 (by omega) (by omega)), rfl⟩ | exact IsR.mn (by first | with_reducible assumption | exact ⟨_, by omega, rfl⟩) (by first | with_reducible assumption | exact ⟨_, by omega, rfl⟩) | exact IsR.mx (by first | with_reducible assumption | exact ⟨_, by omega, rfl⟩) (by first | with_reducible assumption | exact ⟨_, by omega, rfl⟩) | with_reducible exact mn9 (by omega) | (simp (disch := omega) only [li_0, li_1, li_2, li_3, li_4, li_5, li_6, li_7, li_8, li_9, li_10, li_20, li_30, li_82, li_91, li_273, li_380, li_400, li_512, li_1000, li_2457, li_4000, nI_add, nI_1, nI_mul, nI_sub, shl_1, shl_1b]; with_reducible exact mn9b (by omega)))) ?_
                rintro e106 _ ⟨rfl, hxe106⟩
                refine Ok.ite (fun c_33 => ?_) (fun c_33 => ?_)
                · try simp (disch := omega) only [li_0, li_1, li_2, li_3, li_4, li_5, li_6, li_7, li_8, li_9, li_10, li_20, li_30, li_82, li_91, li_273, li_380, li_400, li_512, li_1000, li_2457, li_4000, nI_add, nI_1, nI_mul, nI_sub, shl_1, shl_1b, nI_leP, nI_ltP, nI_eqP, Nat.not_le, Nat.not_lt] at c_33
                  exact Ok.ret ⟨rfl, True.intro⟩
                · try simp (disch := omega) only [li_0, li_1, li_2, li_3, li_4, li_5, li_6, li_7, li_8, li_9, li_10, li_20, li_30, li_82, li_91, li_273, li_380, li_400, li_512, li_1000, li_2457, li_4000, nI_add, nI_1, nI_mul, nI_sub, shl_1, shl_1b, nI_leP, nI_ltP, nI_eqP, Nat.not_le, Nat.not_lt] at c_33
                  refine Ok.ite (fun c_34 => ?_) (fun c_34 => ?_)
                  · try simp (disch := omega) only [li_0, li_1, li_2, li_3, li_4, li_5, li_6, li_7, li_8, li_9, li_10, li_20, li_30, li_82, li_91, li_273, li_380, li_400, li_512, li_1000, li_2457, li_4000, nI_add, nI_1, nI_mul, nI_sub, shl_1, shl_1b, nI_leP, nI_ltP, nI_eqP, Nat.not_le, Nat.not_lt] at c_34
                    refine Ok.bd _ (rX12_degree hT (by first | with_reducible assumption | (simp (disch := omega) only [li_0, li_1, li_2, li_3, li_4, li_5, li_6, li_7, li_8, li_9, li_10, li_20, li_30, li_82, li_91, li_273, li_380, li_400, li_512, li_1000, li_2457, li_4000, nI_add, nI_1, nI_mul, nI_sub, shl_1, shl_1b, nI_or, nI_xor, nI_and]; with_reducible exact ⟨_, (by first | omega | exact or9 (by omega) (by omega) | exact xor9 (by omega) (by omega)), rfl⟩) | with_reducible exact ⟨_, (by first | omega | exact or9 (by omega) (by omega) | exact xor9 (by omega) (by omega)), rfl⟩ | exact IsR.mn (by first | with_reducible assumption | exact ⟨_, by omega, rfl⟩) (by first | with_reducible assumption | exact ⟨_, by omega, rfl⟩) | exact IsR.mx (by first | with_reducible assumption | exact ⟨_, by omega, rfl⟩) (by first | with_reducible assumption | exact ⟨_, by omega, rfl⟩) | with_reducible exact mn9 (by omega) | (simp (disch := omega) only [li_0, li_1, li_2, li_3, li_4, li_5, li_6, li_7, li_8, li_9, li_10, li_20, li_30, li_82, li_91, li_273, li_380, li_400, li_512, li_1000, li_2457, li_4000, nI_add, nI_1, nI_mul, nI_sub, shl_1, shl_1b]; with_reducible exact mn9b (by omega)))) ?_
                    rintro v116 _ ⟨rfl, hxv116⟩
                    exact Ok.ret ⟨rfl, True.intro⟩
                  · try simp (disch := omega) only [li_0, li_1, li_2, li_3, li_4, li_5, li_6, li_7, li_8, li_9, li_10, li_20, li_30, li_82, li_91, li_273, li_380, li_400, li_512, li_1000, li_2457, li_4000, nI_add, nI_1, nI_mul, nI_sub, shl_1, shl_1b, nI_leP, nI_ltP, nI_eqP, Nat.not_le, Nat.not_lt] at c_34
                    refine Ok.bd _ (rX12_core hT (by first | with_reducible assumption | (simp (disch := omega) only [li_0, li_1, li_2, li_3, li_4, li_5, li_6, li_7, li_8, li_9, li_10, li_20, li_30, li_82, li_91, li_273, li_380, li_400, li_512, li_1000, li_2457, li_4000, nI_add, nI_1, nI_mul, nI_sub, shl_1, shl_1b, nI_or, nI_xor, nI_and]; with_reducible exact ⟨_, (by first | omega | exact or9 (by omega) (by omega) | exact xor9 (by omega) (by omega)), rfl⟩) | with_reducible exact ⟨_, (by first | omega | exact or9 (by omega) (by omega) | exact xor9 (by omega) (by omega)), rfl⟩ | exact IsR.mn (by first | with_reducible assumption | exact ⟨_, by omega, rfl⟩) (by first | with_reducible assumption | exact ⟨_, by omega, rfl⟩) | exact IsR.mx (by first | with_reducible assumption | exact ⟨_, by omega, rfl⟩) (by first | with_reducible assumption | exact ⟨_, by omega, rfl⟩) | with_reducible exact mn9 (by omega) | (simp (disch := omega) only [li_0, li_1, li_2, li_3, li_4, li_5, li_6, li_7, li_8, li_9, li_10, li_20, li_30, li_82, li_91, li_273, li_380, li_400, li_512, li_1000, li_2457, li_4000, nI_add, nI_1, nI_mul, nI_sub, shl_1, shl_1b]; with_reducible exact mn9b (by omega)))) ?_
                    rintro v112 _ ⟨rfl, hxv112⟩
                    exact Ok.ret ⟨rfl, True.intro⟩
          · try simp (disch := omega) only [li_0, li_1, li_2, li_3, li_4, li_5, li_6, li_7, li_8, li_9, li_10, li_20, li_30, li_82, li_91, li_273, li_380, li_400, li_512, li_1000, li_2457, li_4000, nI_add, nI_1, nI_mul, nI_sub, shl_1, shl_1b, nI_leP, nI_ltP, nI_eqP, Nat.not_le, Nat.not_lt] at c_27
            refine Ok.bd _ (rX12_in hT) ?_
            rintro v76 _ ⟨rfl, hbv76, hxv76⟩
            refine Ok.ite (fun c_38 => ?_) (fun c_38 => ?_)
            · skip
              exact Ok.ret ⟨rfl, True.intro⟩
            · obtain hinv76 := hxv76.resolve_left c_38
              refine Ok.ite (fun c_39 => ?_) (fun c_39 => ?_)
              · try simp (disch := omega) only [li_0, li_1, li_2, li_3, li_4, li_5, li_6, li_7, li_8, li_9, li_10, li_20, li_30, li_82, li_91, li_273, li_380, li_400, li_512, li_1000, li_2457, li_4000, nI_add, nI_1, nI_mul, nI_sub, shl_1, shl_1b, nI_leP, nI_ltP, nI_eqP, Nat.not_le, Nat.not_lt] at c_39
                refine Ok.bd _ (rX12_balls hT (by first | with_reducible assumption | (simp (disch := omega) only [li_0, li_1, li_2, li_3, li_4, li_5, li_6, li_7, li_8, li_9, li_10, li_20, li_30, li_82, li_91, li_273, li_380, li_400, li_512, li_1000, li_2457, li_4000, nI_add, nI_1, nI_mul, nI_sub, shl_1, shl_1b, nI_or, nI_xor, nI_and]; with_reducible exact ⟨_, (by first | omega | exact or9 (by omega) (by omega) | exact xor9 (by omega) (by omega)), rfl⟩) | with_reducible exact ⟨_, (by first | omega | exact or9 (by omega) (by omega) | exact xor9 (by omega) (by omega)), rfl⟩ | exact IsR.mn (by first | with_reducible assumption | exact ⟨_, by omega, rfl⟩) (by first | with_reducible assumption | exact ⟨_, by omega, rfl⟩) | exact IsR.mx (by first | with_reducible assumption | exact ⟨_, by omega, rfl⟩) (by first | with_reducible assumption | exact ⟨_, by omega, rfl⟩) | with_reducible exact mn9 (by omega) | (simp (disch := omega) only [li_0, li_1, li_2, li_3, li_4, li_5, li_6, li_7, li_8, li_9, li_10, li_20, li_30, li_82, li_91, li_273, li_380, li_400, li_512, li_1000, li_2457, li_4000, nI_add, nI_1, nI_mul, nI_sub, shl_1, shl_1b]; with_reducible exact mn9b (by omega)))) ?_
                rintro v96 _ ⟨rfl, hxv96⟩
                exact Ok.ret ⟨rfl, True.intro⟩
              · try simp (disch := omega) only [li_0, li_1, li_2, li_3, li_4, li_5, li_6, li_7, li_8, li_9, li_10, li_20, li_30, li_82, li_91, li_273, li_380, li_400, li_512, li_1000, li_2457, li_4000, nI_add, nI_1, nI_mul, nI_sub, shl_1, shl_1b, nI_leP, nI_ltP, nI_eqP, Nat.not_le, Nat.not_lt] at c_39
                refine Ok.bd _ (rSX12_bound_66 hT (by first | with_reducible assumption | (simp (disch := omega) only [li_0, li_1, li_2, li_3, li_4, li_5, li_6, li_7, li_8, li_9, li_10, li_20, li_30, li_82, li_91, li_273, li_380, li_400, li_512, li_1000, li_2457, li_4000, nI_add, nI_1, nI_mul, nI_sub, shl_1, shl_1b, nI_or, nI_xor, nI_and]; with_reducible exact ⟨_, (by first | omega | exact or9 (by omega) (by omega) | exact xor9 (by omega) (by omega)), rfl⟩) | with_reducible exact ⟨_, (by first | omega | exact or9 (by omega) (by omega) | exact xor9 (by omega) (by omega)), rfl⟩ | exact IsR.mn (by first | with_reducible assumption | exact ⟨_, by omega, rfl⟩) (by first | with_reducible assumption | exact ⟨_, by omega, rfl⟩) | exact IsR.mx (by first | with_reducible assumption | exact ⟨_, by omega, rfl⟩) (by first | with_reducible assumption | exact ⟨_, by omega, rfl⟩) | with_reducible exact mn9 (by omega) | (simp (disch := omega) only [li_0, li_1, li_2, li_3, li_4, li_5, li_6, li_7, li_8, li_9, li_10, li_20, li_30, li_82, li_91, li_273, li_380, li_400, li_512, li_1000, li_2457, li_4000, nI_add, nI_1, nI_mul, nI_sub, shl_1, shl_1b]; with_reducible exact mn9b (by omega))) (by show IsR 5001 _; first | with_reducible assumption | (simp (disch := omega) only [li_0, li_1, li_2, li_3, li_4, li_5, li_6, li_7, li_8, li_9, li_10, li_20, li_30, li_82, li_91, li_273, li_380, li_400, li_512, li_1000, li_2457, li_4000, nI_add, nI_1, nI_mul, nI_sub, shl_1, shl_1b, nI_or, nI_xor, nI_and]; with_reducible exact ⟨_, (by first | omega | exact or9 (by omega) (by omega) | exact xor9 (by omega) (by omega)), rfl⟩) | with_reducible exact ⟨_, (by first | omega | exact or9 (by omega) (by omega) | exact xor9 (by omega) (by omega)), rfl⟩ | exact IsR.mn (by first | with_reducible assumption | exact ⟨_, by omega, rfl⟩) (by first | with_reducible assumption | exact ⟨_, by omega, rfl⟩) | exact IsR.mx (by first | with_reducible assumption | exact ⟨_, by omega, rfl⟩) (by first | with_reducible assumption | exact ⟨_, by omega, rfl⟩) | with_reducible exact mn9 (by omega) | (simp (disch := omega) only [li_0, li_1, li_2, li_3, li_4, li_5, li_6, li_7, li_8, li_9, li_10, li_20, li_30, li_82, li_91, li_273, li_380, li_400, li_512, li_1000, li_2457, li_4000, nI_add, nI_1, nI_mul, nI_sub, shl_1, shl_1b]; with_reducible exact mn9b (by omega)))) ?_
                rintro e81 _ ⟨rfl, hxe81⟩
                refine Ok.ite (fun c_42 => ?_) (fun c_42 => ?_)
                · try simp (disch := omega) only [li_0, li_1, li_2, li_3, li_4, li_5, li_6, li_7, li_8, li_9, li_10, li_20, li_30, li_82, li_91, li_273, li_380, li_400, li_512, li_1000, li_2457, li_4000, nI_add, nI_1, nI_mul, nI_sub, shl_1, shl_1b, nI_leP, nI_ltP, nI_eqP, Nat.not_le, Nat.not_lt] at c_42
                  exact Ok.ret ⟨rfl, True.intro⟩
                · try simp (disch := omega) only [li_0, li_1, li_2, li_3, li_4, li_5, li_6, li_7, li_8, li_9, li_10, li_20, li_30, li_82, li_91, li_273, li_380, li_400, li_512, li_1000, li_2457, li_4000, nI_add, nI_1, nI_mul, nI_sub, shl_1, shl_1b, nI_leP, nI_ltP, nI_eqP, Nat.not_le, Nat.not_lt] at c_42
                  refine Ok.ite (fun c_43 => ?_) (fun c_43 => ?_)
                  · try simp (disch := omega) only [li_0, li_1, li_2, li_3, li_4, li_5, li_6, li_7, li_8, li_9, li_10, li_20, li_30, li_82, li_91, li_273, li_380, li_400, li_512, li_1000, li_2457, li_4000, nI_add, nI_1, nI_mul, nI_sub, shl_1, shl_1b, nI_leP, nI_ltP, nI_eqP, Nat.not_le, Nat.not_lt] at c_43
                    refine Ok.bd _ (rX12_degree hT (by first | with_reducible assumption | (simp (disch := omega) only [li_0, li_1, li_2, li_3, li_4, li_5, li_6, li_7, li_8, li_9, li_10, li_20, li_30, li_82, li_91, li_273, li_380, li_400, li_512, li_1000, li_2457, li_4000, nI_add, nI_1, nI_mul, nI_sub, shl_1, shl_1b, nI_or, nI_xor, nI_and]; with_reducible exact ⟨_, (by first | omega | exact or9 (by omega) (by omega) | exact xor9 (by omega) (by omega)), rfl⟩) | with_reducible exact ⟨_, (by first | omega | exact or9 (by omega) (by omega) | exact xor9 (by omega) (by omega)), rfl⟩ | exact IsR.mn (by first | with_reducible assumption | exact ⟨_, by omega, rfl⟩) (by first | with_reducible assumption | exact ⟨_, by omega, rfl⟩) | exact IsR.mx (by first | with_reducible assumption | exact ⟨_, by omega, rfl⟩) (by first | with_reducible assumption | exact ⟨_, by omega, rfl⟩) | with_reducible exact mn9 (by omega) | (simp (disch := omega) only [li_0, li_1, li_2, li_3, li_4, li_5, li_6, li_7, li_8, li_9, li_10, li_20, li_30, li_82, li_91, li_273, li_380, li_400, li_512, li_1000, li_2457, li_4000, nI_add, nI_1, nI_mul, nI_sub, shl_1, shl_1b]; with_reducible exact mn9b (by omega)))) ?_
                    rintro v91 _ ⟨rfl, hxv91⟩
                    exact Ok.ret ⟨rfl, True.intro⟩
                  · try simp (disch := omega) only [li_0, li_1, li_2, li_3, li_4, li_5, li_6, li_7, li_8, li_9, li_10, li_20, li_30, li_82, li_91, li_273, li_380, li_400, li_512, li_1000, li_2457, li_4000, nI_add, nI_1, nI_mul, nI_sub, shl_1, shl_1b, nI_leP, nI_ltP, nI_eqP, Nat.not_le, Nat.not_lt] at c_43
                    refine Ok.bd _ (rX12_core hT (by first | with_reducible assumption | (simp (disch := omega) only [li_0, li_1, li_2, li_3, li_4, li_5, li_6, li_7, li_8, li_9, li_10, li_20, li_30, li_82, li_91, li_273, li_380, li_400, li_512, li_1000, li_2457, li_4000, nI_add, nI_1, nI_mul, nI_sub, shl_1, shl_1b, nI_or, nI_xor, nI_and]; with_reducible exact ⟨_, (by first | omega | exact or9 (by omega) (by omega) | exact xor9 (by omega) (by omega)), rfl⟩) | with_reducible exact ⟨_, (by first | omega | exact or9 (by omega) (by omega) | exact xor9 (by omega) (by omega)), rfl⟩ | exact IsR.mn (by first | with_reducible assumption | exact ⟨_, by omega, rfl⟩) (by first | with_reducible assumption | exact ⟨_, by omega, rfl⟩) | exact IsR.mx (by first | with_reducible assumption | exact ⟨_, by omega, rfl⟩) (by first | with_reducible assumption | exact ⟨_, by omega, rfl⟩) | with_reducible exact mn9 (by omega) | (simp (disch := omega) only [li_0, li_1, li_2, li_3, li_4, li_5, li_6, li_7, li_8, li_9, li_10, li_20, li_30, li_82, li_91, li_273, li_380, li_400, li_512, li_1000, li_2457, li_4000, nI_add, nI_1, nI_mul, nI_sub, shl_1, shl_1b]; with_reducible exact mn9b (by omega)))) ?_
                    rintro v87 _ ⟨rfl, hxv87⟩
                    exact Ok.ret ⟨rfl, True.intro⟩
set_option maxHeartbeats 4000000 in
set_option maxRecDepth 100000 in
theorem rSX12_halve_15 {t : St} (hT : TY t) {w1 : Int32} (h_w1 : IsR 3 w1) {a0 : Int32} {a1 : Int32} (h_a1 : IsR 5001 a1) : Ok (wh (SX12_halve_15 w1) (a0, a1) t) (fun r u => t = u ∧ (True)) := by
  obtain ⟨j0, hj0, rfl⟩ := h_a1
  refine Ok.loop (fun k c s => t = s ∧ (∃ j, c.2 = nI j ∧ j ≤ 5000 ∧ 0 ≤ j ∧ k = 5000 - j)) ?_ (5000 - j0) _ _ ⟨rfl, ⟨j0, rfl, by omega, by omega, rfl⟩⟩
  obtain ⟨k_w1, h_w1, rfl⟩ := h_w1
  clear hj0
  intro k c s hI
  obtain ⟨rfl, ⟨j, ej, hj, hlo, rfl⟩⟩ := hI
  obtain ⟨c0, c1⟩ := c
  dsimp only at ej
  subst ej
  unfold SX12_halve_15
  dsimp only
  refine Ok.bd _ (rX12_points hT (by first | with_reducible assumption | (simp (disch := omega) only [li_0, li_1, li_2, li_3, li_4, li_5, li_6, li_7, li_8, li_9, li_10, li_20, li_30, li_82, li_91, li_273, li_380, li_400, li_512, li_1000, li_2457, li_4000, nI_add, nI_1, nI_mul, nI_sub, shl_1, shl_1b, nI_or, nI_xor, nI_and]; with_reducible exact ⟨_, (by first | omega | exact or9 (by omega) (by omega) | exact xor9 (by omega) (by omega)), rfl⟩) | with_reducible exact ⟨_, (by first | omega | exact or9 (by omega) (by omega) | exact xor9 (by omega) (by omega)), rfl⟩ | exact IsR.mn (by first | with_reducible assumption | exact ⟨_, by omega, rfl⟩) (by first | with_reducible assumption | exact ⟨_, by omega, rfl⟩) | exact IsR.mx (by first | with_reducible assumption | exact ⟨_, by omega, rfl⟩) (by first | with_reducible assumption | exact ⟨_, by omega, rfl⟩) | with_reducible exact mn9 (by omega) | (simp (disch := omega) only [li_0, li_1, li_2, li_3, li_4, li_5, li_6, li_7, li_8, li_9, li_10, li_20, li_30, li_82, li_91, li_273, li_380, li_400, li_512, li_1000, li_2457, li_4000, nI_add, nI_1, nI_mul, nI_sub, shl_1, shl_1b]; with_reducible exact mn9b (by omega)))) ?_
  rintro _ _ ⟨rfl, kv5, hv5, rfl⟩
  refine Ok.ite (fun c_2 => ?_) (fun c_2 => ?_)
  · try simp (disch := omega) only [li_0, li_1, li_2, li_3, li_4, li_5, li_6, li_7, li_8, li_9, li_10, li_20, li_30, li_82, li_91, li_273, li_380, li_400, li_512, li_1000, li_2457, li_4000, nI_add, nI_1, nI_mul, nI_sub, shl_1, shl_1b, nI_leP, nI_ltP, nI_eqP, Nat.not_le, Nat.not_lt] at c_2
    exact Ok.ret ⟨rfl, True.intro⟩
  · try simp (disch := omega) only [li_0, li_1, li_2, li_3, li_4, li_5, li_6, li_7, li_8, li_9, li_10, li_20, li_30, li_82, li_91, li_273, li_380, li_400, li_512, li_1000, li_2457, li_4000, nI_add, nI_1, nI_mul, nI_sub, shl_1, shl_1b, nI_leP, nI_ltP, nI_eqP, Nat.not_le, Nat.not_lt] at c_2
    have hj512 := shl_le (by omega) c_2 (by omega)
    refine Ok.bd _ (rX12_ones hT) ?_
    rintro v9 _ ⟨rfl, hxv9⟩
    refine Ok.bd _ (rX12_points hT (by first | with_reducible assumption | (simp (disch := omega) only [li_0, li_1, li_2, li_3, li_4, li_5, li_6, li_7, li_8, li_9, li_10, li_20, li_30, li_82, li_91, li_273, li_380, li_400, li_512, li_1000, li_2457, li_4000, nI_add, nI_1, nI_mul, nI_sub, shl_1, shl_1b, nI_or, nI_xor, nI_and]; with_reducible exact ⟨_, (by first | omega | exact or9 (by omega) (by omega) | exact xor9 (by omega) (by omega)), rfl⟩) | with_reducible exact ⟨_, (by first | omega | exact or9 (by omega) (by omega) | exact xor9 (by omega) (by omega)), rfl⟩ | exact IsR.mn (by first | with_reducible assumption | exact ⟨_, by omega, rfl⟩) (by first | with_reducible assumption | exact ⟨_, by omega, rfl⟩) | exact IsR.mx (by first | with_reducible assumption | exact ⟨_, by omega, rfl⟩) (by first | with_reducible assumption | exact ⟨_, by omega, rfl⟩) | with_reducible exact mn9 (by omega) | (simp (disch := omega) only [li_0, li_1, li_2, li_3, li_4, li_5, li_6, li_7, li_8, li_9, li_10, li_20, li_30, li_82, li_91, li_273, li_380, li_400, li_512, li_1000, li_2457, li_4000, nI_add, nI_1, nI_mul, nI_sub, shl_1, shl_1b]; with_reducible exact mn9b (by omega)))) ?_
    rintro _ _ ⟨rfl, kv12, hv12, rfl⟩
    refine Ok.bd (fun (v16 : Int32) t17 => t = t17 ∧ (True)) ?_ ?_
    · refine Ok.ite (fun c_5 => ?_) (fun c_5 => ?_)
      · try simp (disch := omega) only [li_0, li_1, li_2, li_3, li_4, li_5, li_6, li_7, li_8, li_9, li_10, li_20, li_30, li_82, li_91, li_273, li_380, li_400, li_512, li_1000, li_2457, li_4000, nI_add, nI_1, nI_mul, nI_sub, shl_1, shl_1b, nI_leP, nI_ltP, nI_eqP, Nat.not_le, Nat.not_lt] at c_5
        refine Ok.ite (fun c_6 => ?_) (fun c_6 => ?_)
        · try simp (disch := omega) only [li_0, li_1, li_2, li_3, li_4, li_5, li_6, li_7, li_8, li_9, li_10, li_20, li_30, li_82, li_91, li_273, li_380, li_400, li_512, li_1000, li_2457, li_4000, nI_add, nI_1, nI_mul, nI_sub, shl_1, shl_1b, nI_leP, nI_ltP, nI_eqP, Nat.not_le, Nat.not_lt] at c_6
          exact Ok.ret ⟨rfl, True.intro⟩
        · try simp (disch := omega) only [li_0, li_1, li_2, li_3, li_4, li_5, li_6, li_7, li_8, li_9, li_10, li_20, li_30, li_82, li_91, li_273, li_380, li_400, li_512, li_1000, li_2457, li_4000, nI_add, nI_1, nI_mul, nI_sub, shl_1, shl_1b, nI_leP, nI_ltP, nI_eqP, Nat.not_le, Nat.not_lt] at c_6
          refine Ok.bd _ (rX12_splitOf hT (by first | with_reducible assumption | (simp (disch := omega) only [li_0, li_1, li_2, li_3, li_4, li_5, li_6, li_7, li_8, li_9, li_10, li_20, li_30, li_82, li_91, li_273, li_380, li_400, li_512, li_1000, li_2457, li_4000, nI_add, nI_1, nI_mul, nI_sub, shl_1, shl_1b, nI_or, nI_xor, nI_and]; with_reducible exact ⟨_, (by first | omega | exact or9 (by omega) (by omega) | exact xor9 (by omega) (by omega)), rfl⟩) | with_reducible exact ⟨_, (by first | omega | exact or9 (by omega) (by omega) | exact xor9 (by omega) (by omega)), rfl⟩ | exact IsR.mn (by first | with_reducible assumption | exact ⟨_, by omega, rfl⟩) (by first | with_reducible assumption | exact ⟨_, by omega, rfl⟩) | exact IsR.mx (by first | with_reducible assumption | exact ⟨_, by omega, rfl⟩) (by first | with_reducible assumption | exact ⟨_, by omega, rfl⟩) | with_reducible exact mn9 (by omega) | (simp (disch := omega) only [li_0, li_1, li_2, li_3, li_4, li_5, li_6, li_7, li_8, li_9, li_10, li_20, li_30, li_82, li_91, li_273, li_380, li_400, li_512, li_1000, li_2457, li_4000, nI_add, nI_1, nI_mul, nI_sub, shl_1, shl_1b]; with_reducible exact mn9b (by omega)))) ?_
          rintro v21 _ ⟨rfl, hxv21⟩
          refine Ok.bd _ (rX12_splitOf hT (by first | with_reducible assumption | (simp (disch := omega) only [li_0, li_1, li_2, li_3, li_4, li_5, li_6, li_7, li_8, li_9, li_10, li_20, li_30, li_82, li_91, li_273, li_380, li_400, li_512, li_1000, li_2457, li_4000, nI_add, nI_1, nI_mul, nI_sub, shl_1, shl_1b, nI_or, nI_xor, nI_and]; with_reducible exact ⟨_, (by first | omega | exact or9 (by omega) (by omega) | exact xor9 (by omega) (by omega)), rfl⟩) | with_reducible exact ⟨_, (by first | omega | exact or9 (by omega) (by omega) | exact xor9 (by omega) (by omega)), rfl⟩ | exact IsR.mn (by first | with_reducible assumption | exact ⟨_, by omega, rfl⟩) (by first | with_reducible assumption | exact ⟨_, by omega, rfl⟩) | exact IsR.mx (by first | with_reducible assumption | exact ⟨_, by omega, rfl⟩) (by first | with_reducible assumption | exact ⟨_, by omega, rfl⟩) | with_reducible exact mn9 (by omega) | (simp (disch := omega) only [li_0, li_1, li_2, li_3, li_4, li_5, li_6, li_7, li_8, li_9, li_10, li_20, li_30, li_82, li_91, li_273, li_380, li_400, li_512, li_1000, li_2457, li_4000, nI_add, nI_1, nI_mul, nI_sub, shl_1, shl_1b]; with_reducible exact mn9b (by omega)))) ?_
          rintro v24 _ ⟨rfl, hxv24⟩
          refine Ok.ite (fun c_9 => ?_) (fun c_9 => ?_)
          · try simp (disch := omega) only [li_0, li_1, li_2, li_3, li_4, li_5, li_6, li_7, li_8, li_9, li_10, li_20, li_30, li_82, li_91, li_273, li_380, li_400, li_512, li_1000, li_2457, li_4000, nI_add, nI_1, nI_mul, nI_sub, shl_1, shl_1b, nI_leP, nI_ltP, nI_eqP, Nat.not_le, Nat.not_lt] at c_9
            exact Ok.ret ⟨rfl, True.intro⟩
          · try simp (disch := omega) only [li_0, li_1, li_2, li_3, li_4, li_5, li_6, li_7, li_8, li_9, li_10, li_20, li_30, li_82, li_91, li_273, li_380, li_400, li_512, li_1000, li_2457, li_4000, nI_add, nI_1, nI_mul, nI_sub, shl_1, shl_1b, nI_leP, nI_ltP, nI_eqP, Nat.not_le, Nat.not_lt] at c_9
            exact Ok.ret ⟨rfl, True.intro⟩
      · try simp (disch := omega) only [li_0, li_1, li_2, li_3, li_4, li_5, li_6, li_7, li_8, li_9, li_10, li_20, li_30, li_82, li_91, li_273, li_380, li_400, li_512, li_1000, li_2457, li_4000, nI_add, nI_1, nI_mul, nI_sub, shl_1, shl_1b, nI_leP, nI_ltP, nI_eqP, Nat.not_le, Nat.not_lt] at c_5
        exact Ok.ret ⟨rfl, True.intro⟩
    · intro v16 t17 hx
      obtain ⟨rfl, hxv16⟩ := hx
      exact Ok.ret ⟨5000 - (j + 1), by omega, rfl, ⟨j + 1, nI_1 j, by omega, by omega, rfl⟩⟩
set_option maxHeartbeats 4000000 in
set_option maxRecDepth 100000 in
theorem rX12_halve {t : St} (hT : TY t) {a : Int32} : Ok (FX12_halve a t) (fun r u => t = u ∧ (True)) := by
  unfold FX12_halve
  refine Ok.bd _ (rX12_isNet hT) ?_
  rintro v1 _ ⟨rfl, hbv1, hxv1⟩
  refine Ok.ite (fun c_2 => ?_) (fun c_2 => ?_)
  · skip
    exact Ok.ret ⟨rfl, True.intro⟩
  · obtain ⟨⟨kav1, hkav1, rfl⟩, hptv1⟩ := hxv1.resolve_left c_2
    refine Ok.bd _ (rSX12_halve_15 hT (by first | with_reducible assumption | (simp (disch := omega) only [li_0, li_1, li_2, li_3, li_4, li_5, li_6, li_7, li_8, li_9, li_10, li_20, li_30, li_82, li_91, li_273, li_380, li_400, li_512, li_1000, li_2457, li_4000, nI_add, nI_1, nI_mul, nI_sub, shl_1, shl_1b, nI_or, nI_xor, nI_and]; with_reducible exact ⟨_, (by first | omega | exact or9 (by omega) (by omega) | exact xor9 (by omega) (by omega)), rfl⟩) | with_reducible exact ⟨_, (by first | omega | exact or9 (by omega) (by omega) | exact xor9 (by omega) (by omega)), rfl⟩ | exact IsR.mn (by first | with_reducible assumption | exact ⟨_, by omega, rfl⟩) (by first | with_reducible assumption | exact ⟨_, by omega, rfl⟩) | exact IsR.mx (by first | with_reducible assumption | exact ⟨_, by omega, rfl⟩) (by first | with_reducible assumption | exact ⟨_, by omega, rfl⟩) | with_reducible exact mn9 (by omega) | (simp (disch := omega) only [li_0, li_1, li_2, li_3, li_4, li_5, li_6, li_7, li_8, li_9, li_10, li_20, li_30, li_82, li_91, li_273, li_380, li_400, li_512, li_1000, li_2457, li_4000, nI_add, nI_1, nI_mul, nI_sub, shl_1, shl_1b]; with_reducible exact mn9b (by omega))) (by show IsR 5001 _; first | with_reducible assumption | (simp (disch := omega) only [li_0, li_1, li_2, li_3, li_4, li_5, li_6, li_7, li_8, li_9, li_10, li_20, li_30, li_82, li_91, li_273, li_380, li_400, li_512, li_1000, li_2457, li_4000, nI_add, nI_1, nI_mul, nI_sub, shl_1, shl_1b, nI_or, nI_xor, nI_and]; with_reducible exact ⟨_, (by first | omega | exact or9 (by omega) (by omega) | exact xor9 (by omega) (by omega)), rfl⟩) | with_reducible exact ⟨_, (by first | omega | exact or9 (by omega) (by omega) | exact xor9 (by omega) (by omega)), rfl⟩ | exact IsR.mn (by first | with_reducible assumption | exact ⟨_, by omega, rfl⟩) (by first | with_reducible assumption | exact ⟨_, by omega, rfl⟩) | exact IsR.mx (by first | with_reducible assumption | exact ⟨_, by omega, rfl⟩) (by first | with_reducible assumption | exact ⟨_, by omega, rfl⟩) | with_reducible exact mn9 (by omega) | (simp (disch := omega) only [li_0, li_1, li_2, li_3, li_4, li_5, li_6, li_7, li_8, li_9, li_10, li_20, li_30, li_82, li_91, li_273, li_380, li_400, li_512, li_1000, li_2457, li_4000, nI_add, nI_1, nI_mul, nI_sub, shl_1, shl_1b]; with_reducible exact mn9b (by omega)))) ?_
    rintro e28 _ ⟨rfl, hxe28⟩
    exact Ok.ret ⟨rfl, True.intro⟩
set_option maxHeartbeats 4000000 in
set_option maxRecDepth 100000 in
theorem rX12_keepsLeast {t : St} (hT : TY t) {a : Int32} {b : Int32} (h_b : IsR 512 b) {c : Int32} (h_c : IsR 9 c) {d : Int32} : Ok (FX12_keepsLeast a b c d t) (fun r u => t = u ∧ (isb r = true ∧ (True))) := by
  obtain ⟨k_b, h_b, rfl⟩ := h_b
  obtain ⟨k_c, h_c, rfl⟩ := h_c
  unfold FX12_keepsLeast
  have hp_ := pw9 (k := k_c) (by omega)
  have hx_ := xor9 (a := k_b) (b := 2 ^ k_c) (by omega) hp_
  have ho_ := or9 (a := k_b) (b := 2 ^ k_c) (by omega) hp_
  refine Ok.bd _ (rX12_has hT) ?_
  rintro v1 _ ⟨rfl, hbv1, hxv1⟩
  refine Ok.ite (fun c_2 => ?_) (fun c_2 => ?_)
  · try simp (disch := omega) only [li_0, li_1, li_2, li_3, li_4, li_5, li_6, li_7, li_8, li_9, li_10, li_20, li_30, li_82, li_91, li_273, li_380, li_400, li_512, li_1000, li_2457, li_4000, nI_add, nI_1, nI_mul, nI_sub, shl_1, shl_1b, nI_leP, nI_ltP, nI_eqP, Nat.not_le, Nat.not_lt] at c_2
    refine Ok.ck (by first | (simp (disch := omega) only [li_0, li_1, li_2, li_3, li_4, li_5, li_6, li_7, li_8, li_9, li_10, li_20, li_30, li_82, li_91, li_273, li_380, li_400, li_512, li_1000, li_2457, li_4000, nI_add, nI_1, nI_mul, nI_sub, shl_1, shl_1b, nI_or, nI_xor, nI_and]; with_reducible exact inb_n (by first | omega | exact or9 (by omega) (by omega) | exact xor9 (by omega) (by omega)) (by omega)) | with_reducible exact inb_n (by omega) (by omega) | exact IsR.ib (by with_reducible assumption) (by decide) | decide) (fun g_3 => ?_)
    refine Ok.rd (fun v7 hv7 => ?_)
    refine Ok.ck (by first | (simp (disch := omega) only [li_0, li_1, li_2, li_3, li_4, li_5, li_6, li_7, li_8, li_9, li_10, li_20, li_30, li_82, li_91, li_273, li_380, li_400, li_512, li_1000, li_2457, li_4000, nI_add, nI_1, nI_mul, nI_sub, shl_1, shl_1b, nI_or, nI_xor, nI_and]; with_reducible exact inb_n (by first | omega | exact or9 (by omega) (by omega) | exact xor9 (by omega) (by omega)) (by omega)) | with_reducible exact inb_n (by omega) (by omega) | exact IsR.ib (by with_reducible assumption) (by decide) | decide) (fun g_4 => ?_)
    refine Ok.rd (fun v10 hv10 => ?_)
    refine Ok.bd _ (rX12_both hT) ?_
    rintro v12 _ ⟨rfl, hxv12⟩
    refine Ok.bd _ (rX12_both hT) ?_
    rintro v15 _ ⟨rfl, hxv15⟩
    refine Ok.ck (by first | (simp (disch := omega) only [li_0, li_1, li_2, li_3, li_4, li_5, li_6, li_7, li_8, li_9, li_10, li_20, li_30, li_82, li_91, li_273, li_380, li_400, li_512, li_1000, li_2457, li_4000, nI_add, nI_1, nI_mul, nI_sub, shl_1, shl_1b, nI_or, nI_xor, nI_and]; with_reducible exact inb_n (by first | omega | exact or9 (by omega) (by omega) | exact xor9 (by omega) (by omega)) (by omega)) | with_reducible exact inb_n (by omega) (by omega) | exact IsR.ib (by with_reducible assumption) (by decide) | decide) (fun g_7 => ?_)
    refine Ok.rd (fun v19 hv19 => ?_)
    refine Ok.ite (fun c_8 => ?_) (fun c_8 => ?_)
    · try simp (disch := omega) only [li_0, li_1, li_2, li_3, li_4, li_5, li_6, li_7, li_8, li_9, li_10, li_20, li_30, li_82, li_91, li_273, li_380, li_400, li_512, li_1000, li_2457, li_4000, nI_add, nI_1, nI_mul, nI_sub, shl_1, shl_1b, nI_leP, nI_ltP, nI_eqP, Nat.not_le, Nat.not_lt] at c_8
      exact Ok.ret ⟨rfl, ⟨(by first | rfl | assumption | decide), (by first | exact True.intro | exact Or.inl rfl | exact Or.inr (by first | assumption | exact ⟨_, by omega, rfl⟩ | exact ⟨⟨_, by omega, rfl⟩, ⟨_, by omega, rfl⟩⟩))⟩⟩
    · try simp (disch := omega) only [li_0, li_1, li_2, li_3, li_4, li_5, li_6, li_7, li_8, li_9, li_10, li_20, li_30, li_82, li_91, li_273, li_380, li_400, li_512, li_1000, li_2457, li_4000, nI_add, nI_1, nI_mul, nI_sub, shl_1, shl_1b, nI_leP, nI_ltP, nI_eqP, Nat.not_le, Nat.not_lt] at c_8
      exact Ok.ret ⟨rfl, ⟨(by first | rfl | assumption | decide), (by first | exact True.intro | exact Or.inl rfl | exact Or.inr (by first | assumption | exact ⟨_, by omega, rfl⟩ | exact ⟨⟨_, by omega, rfl⟩, ⟨_, by omega, rfl⟩⟩))⟩⟩
  · try simp (disch := omega) only [li_0, li_1, li_2, li_3, li_4, li_5, li_6, li_7, li_8, li_9, li_10, li_20, li_30, li_82, li_91, li_273, li_380, li_400, li_512, li_1000, li_2457, li_4000, nI_add, nI_1, nI_mul, nI_sub, shl_1, shl_1b, nI_leP, nI_ltP, nI_eqP, Nat.not_le, Nat.not_lt] at c_2
    exact Ok.ret ⟨rfl, ⟨(by first | rfl | assumption | decide), (by first | exact True.intro | exact Or.inl rfl | exact Or.inr (by first | assumption | exact ⟨_, by omega, rfl⟩ | exact ⟨⟨_, by omega, rfl⟩, ⟨_, by omega, rfl⟩⟩))⟩⟩
set_option maxHeartbeats 4000000 in
set_option maxRecDepth 100000 in
theorem rSX12_fewestOf_4 {t : St} (hT : TY t) {w1 : Int32} {a0 : Int32} (h_a0 : (a0 = -1 ∨ IsR 9 a0)) {a1 : Int32} (h_a1 : IsR 5001 a1) : Ok (wh (SX12_fewestOf_4 w1) (a0, a1) t) (fun r u => t = u ∧ ((r = -1 ∨ IsR 9 r))) := by
  obtain ⟨j0, hj0, rfl⟩ := h_a1
  refine Ok.loop (fun k c s => t = s ∧ (∃ j, c.2 = nI j ∧ j ≤ 5000 ∧ 0 ≤ j ∧ k = 5000 - j) ∧ (c.1 = -1 ∨ IsR 9 c.1)) ?_ (5000 - j0) _ _ ⟨rfl, ⟨j0, rfl, by omega, by omega, rfl⟩, h_a0⟩
  clear hj0
  intro k c s hI
  obtain ⟨rfl, ⟨j, ej, hj, hlo, rfl⟩, hc0⟩ := hI
  obtain ⟨c0, c1⟩ := c
  dsimp only at ej hc0
  subst ej
  unfold SX12_fewestOf_4
  dsimp only
  refine Ok.ite (fun c_1 => ?_) (fun c_1 => ?_)
  · try simp (disch := omega) only [li_0, li_1, li_2, li_3, li_4, li_5, li_6, li_7, li_8, li_9, li_10, li_20, li_30, li_82, li_91, li_273, li_380, li_400, li_512, li_1000, li_2457, li_4000, nI_add, nI_1, nI_mul, nI_sub, shl_1, shl_1b, nI_leP, nI_ltP, nI_eqP, Nat.not_le, Nat.not_lt] at c_1
    exact Ok.ret ⟨rfl, (by show (_ = -1 ∨ IsR 9 _); first | exact Or.inl rfl | assumption | exact Or.inr (by first | with_reducible assumption | (simp (disch := omega) only [li_0, li_1, li_2, li_3, li_4, li_5, li_6, li_7, li_8, li_9, li_10, li_20, li_30, li_82, li_91, li_273, li_380, li_400, li_512, li_1000, li_2457, li_4000, nI_add, nI_1, nI_mul, nI_sub, shl_1, shl_1b, nI_or, nI_xor, nI_and]; with_reducible exact ⟨_, (by first | omega | exact or9 (by omega) (by omega) | exact xor9 (by omega) (by omega)), rfl⟩) | with_reducible exact ⟨_, (by first | omega | exact or9 (by omega) (by omega) | exact xor9 (by omega) (by omega)), rfl⟩ | exact IsR.mn (by first | with_reducible assumption | exact ⟨_, by omega, rfl⟩) (by first | with_reducible assumption | exact ⟨_, by omega, rfl⟩) | exact IsR.mx (by first | with_reducible assumption | exact ⟨_, by omega, rfl⟩) (by first | with_reducible assumption | exact ⟨_, by omega, rfl⟩) | with_reducible exact mn9 (by omega) | (simp (disch := omega) only [li_0, li_1, li_2, li_3, li_4, li_5, li_6, li_7, li_8, li_9, li_10, li_20, li_30, li_82, li_91, li_273, li_380, li_400, li_512, li_1000, li_2457, li_4000, nI_add, nI_1, nI_mul, nI_sub, shl_1, shl_1b]; with_reducible exact mn9b (by omega))))⟩
  · try simp (disch := omega) only [li_0, li_1, li_2, li_3, li_4, li_5, li_6, li_7, li_8, li_9, li_10, li_20, li_30, li_82, li_91, li_273, li_380, li_400, li_512, li_1000, li_2457, li_4000, nI_add, nI_1, nI_mul, nI_sub, shl_1, shl_1b, nI_leP, nI_ltP, nI_eqP, Nat.not_le, Nat.not_lt] at c_1
    refine Ok.bd _ (rX12_has hT) ?_
    rintro v2 _ ⟨rfl, hbv2, hxv2⟩
    refine Ok.bd (fun (v6 : Int32) t7 => t = t7 ∧ ((v6 = -1 ∨ IsR 9 v6))) ?_ ?_
    · refine Ok.ite (fun c_3 => ?_) (fun c_3 => ?_)
      · try simp (disch := omega) only [li_0, li_1, li_2, li_3, li_4, li_5, li_6, li_7, li_8, li_9, li_10, li_20, li_30, li_82, li_91, li_273, li_380, li_400, li_512, li_1000, li_2457, li_4000, nI_add, nI_1, nI_mul, nI_sub, shl_1, shl_1b, nI_leP, nI_ltP, nI_eqP, Nat.not_le, Nat.not_lt] at c_3
        exact Ok.ret ⟨rfl, (by first | exact Or.inl rfl | assumption | exact Or.inr (by first | with_reducible assumption | (simp (disch := omega) only [li_0, li_1, li_2, li_3, li_4, li_5, li_6, li_7, li_8, li_9, li_10, li_20, li_30, li_82, li_91, li_273, li_380, li_400, li_512, li_1000, li_2457, li_4000, nI_add, nI_1, nI_mul, nI_sub, shl_1, shl_1b, nI_or, nI_xor, nI_and]; with_reducible exact ⟨_, (by first | omega | exact or9 (by omega) (by omega) | exact xor9 (by omega) (by omega)), rfl⟩) | with_reducible exact ⟨_, (by first | omega | exact or9 (by omega) (by omega) | exact xor9 (by omega) (by omega)), rfl⟩ | exact IsR.mn (by first | with_reducible assumption | exact ⟨_, by omega, rfl⟩) (by first | with_reducible assumption | exact ⟨_, by omega, rfl⟩) | exact IsR.mx (by first | with_reducible assumption | exact ⟨_, by omega, rfl⟩) (by first | with_reducible assumption | exact ⟨_, by omega, rfl⟩) | with_reducible exact mn9 (by omega) | (simp (disch := omega) only [li_0, li_1, li_2, li_3, li_4, li_5, li_6, li_7, li_8, li_9, li_10, li_20, li_30, li_82, li_91, li_273, li_380, li_400, li_512, li_1000, li_2457, li_4000, nI_add, nI_1, nI_mul, nI_sub, shl_1, shl_1b]; with_reducible exact mn9b (by omega))))⟩
      · try simp (disch := omega) only [li_0, li_1, li_2, li_3, li_4, li_5, li_6, li_7, li_8, li_9, li_10, li_20, li_30, li_82, li_91, li_273, li_380, li_400, li_512, li_1000, li_2457, li_4000, nI_add, nI_1, nI_mul, nI_sub, shl_1, shl_1b, nI_leP, nI_ltP, nI_eqP, Nat.not_le, Nat.not_lt] at c_3
        refine Ok.ite (fun c_4 => ?_) (fun c_4 => ?_)
        · try simp (disch := omega) only [li_0, li_1, li_2, li_3, li_4, li_5, li_6, li_7, li_8, li_9, li_10, li_20, li_30, li_82, li_91, li_273, li_380, li_400, li_512, li_1000, li_2457, li_4000, nI_add, nI_1, nI_mul, nI_sub, shl_1, shl_1b, nI_leP, nI_ltP, nI_eqP, Nat.not_le, Nat.not_lt] at c_4
          exact Ok.ret ⟨rfl, (by first | exact Or.inl rfl | assumption | exact Or.inr (by first | with_reducible assumption | (simp (disch := omega) only [li_0, li_1, li_2, li_3, li_4, li_5, li_6, li_7, li_8, li_9, li_10, li_20, li_30, li_82, li_91, li_273, li_380, li_400, li_512, li_1000, li_2457, li_4000, nI_add, nI_1, nI_mul, nI_sub, shl_1, shl_1b, nI_or, nI_xor, nI_and]; with_reducible exact ⟨_, (by first | omega | exact or9 (by omega) (by omega) | exact xor9 (by omega) (by omega)), rfl⟩) | with_reducible exact ⟨_, (by first | omega | exact or9 (by omega) (by omega) | exact xor9 (by omega) (by omega)), rfl⟩ | exact IsR.mn (by first | with_reducible assumption | exact ⟨_, by omega, rfl⟩) (by first | with_reducible assumption | exact ⟨_, by omega, rfl⟩) | exact IsR.mx (by first | with_reducible assumption | exact ⟨_, by omega, rfl⟩) (by first | with_reducible assumption | exact ⟨_, by omega, rfl⟩) | with_reducible exact mn9 (by omega) | (simp (disch := omega) only [li_0, li_1, li_2, li_3, li_4, li_5, li_6, li_7, li_8, li_9, li_10, li_20, li_30, li_82, li_91, li_273, li_380, li_400, li_512, li_1000, li_2457, li_4000, nI_add, nI_1, nI_mul, nI_sub, shl_1, shl_1b]; with_reducible exact mn9b (by omega))))⟩
        · try simp (disch := omega) only [li_0, li_1, li_2, li_3, li_4, li_5, li_6, li_7, li_8, li_9, li_10, li_20, li_30, li_82, li_91, li_273, li_380, li_400, li_512, li_1000, li_2457, li_4000, nI_add, nI_1, nI_mul, nI_sub, shl_1, shl_1b, nI_leP, nI_ltP, nI_eqP, Nat.not_le, Nat.not_lt] at c_4
          obtain ⟨kc0, hkc0, rfl⟩ := hc0.resolve_left c_4
          refine Ok.ck (by first | (simp (disch := omega) only [li_0, li_1, li_2, li_3, li_4, li_5, li_6, li_7, li_8, li_9, li_10, li_20, li_30, li_82, li_91, li_273, li_380, li_400, li_512, li_1000, li_2457, li_4000, nI_add, nI_1, nI_mul, nI_sub, shl_1, shl_1b, nI_or, nI_xor, nI_and]; with_reducible exact inb_n (by first | omega | exact or9 (by omega) (by omega) | exact xor9 (by omega) (by omega)) (by omega)) | with_reducible exact inb_n (by omega) (by omega) | exact IsR.ib (by with_reducible assumption) (by decide) | decide) (fun g_5 => ?_)
          refine Ok.rd (fun v12 hv12 => ?_)
          refine Ok.bd _ (rX12_ones hT) ?_
          rintro v14 _ ⟨rfl, hxv14⟩
          refine Ok.ck (by first | (simp (disch := omega) only [li_0, li_1, li_2, li_3, li_4, li_5, li_6, li_7, li_8, li_9, li_10, li_20, li_30, li_82, li_91, li_273, li_380, li_400, li_512, li_1000, li_2457, li_4000, nI_add, nI_1, nI_mul, nI_sub, shl_1, shl_1b, nI_or, nI_xor, nI_and]; with_reducible exact inb_n (by first | omega | exact or9 (by omega) (by omega) | exact xor9 (by omega) (by omega)) (by omega)) | with_reducible exact inb_n (by omega) (by omega) | exact IsR.ib (by with_reducible assumption) (by decide) | decide) (fun g_7 => ?_)
          refine Ok.rd (fun v18 hv18 => ?_)
          refine Ok.bd _ (rX12_ones hT) ?_
          rintro v20 _ ⟨rfl, hxv20⟩
          refine Ok.ite (fun c_9 => ?_) (fun c_9 => ?_)
          · try simp (disch := omega) only [li_0, li_1, li_2, li_3, li_4, li_5, li_6, li_7, li_8, li_9, li_10, li_20, li_30, li_82, li_91, li_273, li_380, li_400, li_512, li_1000, li_2457, li_4000, nI_add, nI_1, nI_mul, nI_sub, shl_1, shl_1b, nI_leP, nI_ltP, nI_eqP, Nat.not_le, Nat.not_lt] at c_9
            exact Ok.ret ⟨rfl, (by first | exact Or.inl rfl | assumption | exact Or.inr (by first | with_reducible assumption | (simp (disch := omega) only [li_0, li_1, li_2, li_3, li_4, li_5, li_6, li_7, li_8, li_9, li_10, li_20, li_30, li_82, li_91, li_273, li_380, li_400, li_512, li_1000, li_2457, li_4000, nI_add, nI_1, nI_mul, nI_sub, shl_1, shl_1b, nI_or, nI_xor, nI_and]; with_reducible exact ⟨_, (by first | omega | exact or9 (by omega) (by omega) | exact xor9 (by omega) (by omega)), rfl⟩) | with_reducible exact ⟨_, (by first | omega | exact or9 (by omega) (by omega) | exact xor9 (by omega) (by omega)), rfl⟩ | exact IsR.mn (by first | with_reducible assumption | exact ⟨_, by omega, rfl⟩) (by first | with_reducible assumption | exact ⟨_, by omega, rfl⟩) | exact IsR.mx (by first | with_reducible assumption | exact ⟨_, by omega, rfl⟩) (by first | with_reducible assumption | exact ⟨_, by omega, rfl⟩) | with_reducible exact mn9 (by omega) | (simp (disch := omega) only [li_0, li_1, li_2, li_3, li_4, li_5, li_6, li_7, li_8, li_9, li_10, li_20, li_30, li_82, li_91, li_273, li_380, li_400, li_512, li_1000, li_2457, li_4000, nI_add, nI_1, nI_mul, nI_sub, shl_1, shl_1b]; with_reducible exact mn9b (by omega))))⟩
          · try simp (disch := omega) only [li_0, li_1, li_2, li_3, li_4, li_5, li_6, li_7, li_8, li_9, li_10, li_20, li_30, li_82, li_91, li_273, li_380, li_400, li_512, li_1000, li_2457, li_4000, nI_add, nI_1, nI_mul, nI_sub, shl_1, shl_1b, nI_leP, nI_ltP, nI_eqP, Nat.not_le, Nat.not_lt] at c_9
            exact Ok.ret ⟨rfl, (by first | exact Or.inl rfl | assumption | exact Or.inr (by first | with_reducible assumption | (simp (disch := omega) only [li_0, li_1, li_2, li_3, li_4, li_5, li_6, li_7, li_8, li_9, li_10, li_20, li_30, li_82, li_91, li_273, li_380, li_400, li_512, li_1000, li_2457, li_4000, nI_add, nI_1, nI_mul, nI_sub, shl_1, shl_1b, nI_or, nI_xor, nI_and]; with_reducible exact ⟨_, (by first | omega | exact or9 (by omega) (by omega) | exact xor9 (by omega) (by omega)), rfl⟩) | with_reducible exact ⟨_, (by first | omega | exact or9 (by omega) (by omega) | exact xor9 (by omega) (by omega)), rfl⟩ | exact IsR.mn (by first | with_reducible assumption | exact ⟨_, by omega, rfl⟩) (by first | with_reducible assumption | exact ⟨_, by omega, rfl⟩) | exact IsR.mx (by first | with_reducible assumption | exact ⟨_, by omega, rfl⟩) (by first | with_reducible assumption | exact ⟨_, by omega, rfl⟩) | with_reducible exact mn9 (by omega) | (simp (disch := omega) only [li_0, li_1, li_2, li_3, li_4, li_5, li_6, li_7, li_8, li_9, li_10, li_20, li_30, li_82, li_91, li_273, li_380, li_400, li_512, li_1000, li_2457, li_4000, nI_add, nI_1, nI_mul, nI_sub, shl_1, shl_1b]; with_reducible exact mn9b (by omega))))⟩
    · intro v6 t7 hx
      obtain ⟨rfl, hx⟩ := hx
      have hv6 := hx
      exact Ok.ret ⟨5000 - (j + 1), by omega, rfl, ⟨j + 1, nI_1 j, by omega, by omega, rfl⟩, (by show (_ = -1 ∨ IsR 9 _); first | exact Or.inl rfl | assumption | exact Or.inr (by first | with_reducible assumption | (simp (disch := omega) only [li_0, li_1, li_2, li_3, li_4, li_5, li_6, li_7, li_8, li_9, li_10, li_20, li_30, li_82, li_91, li_273, li_380, li_400, li_512, li_1000, li_2457, li_4000, nI_add, nI_1, nI_mul, nI_sub, shl_1, shl_1b, nI_or, nI_xor, nI_and]; with_reducible exact ⟨_, (by first | omega | exact or9 (by omega) (by omega) | exact xor9 (by omega) (by omega)), rfl⟩) | with_reducible exact ⟨_, (by first | omega | exact or9 (by omega) (by omega) | exact xor9 (by omega) (by omega)), rfl⟩ | exact IsR.mn (by first | with_reducible assumption | exact ⟨_, by omega, rfl⟩) (by first | with_reducible assumption | exact ⟨_, by omega, rfl⟩) | exact IsR.mx (by first | with_reducible assumption | exact ⟨_, by omega, rfl⟩) (by first | with_reducible assumption | exact ⟨_, by omega, rfl⟩) | with_reducible exact mn9 (by omega) | (simp (disch := omega) only [li_0, li_1, li_2, li_3, li_4, li_5, li_6, li_7, li_8, li_9, li_10, li_20, li_30, li_82, li_91, li_273, li_380, li_400, li_512, li_1000, li_2457, li_4000, nI_add, nI_1, nI_mul, nI_sub, shl_1, shl_1b]; with_reducible exact mn9b (by omega))))⟩
set_option maxHeartbeats 4000000 in
set_option maxRecDepth 100000 in
theorem rX12_fewestOf {t : St} (hT : TY t) {a : Int32} : Ok (FX12_fewestOf a t) (fun r u => t = u ∧ ((r = -1 ∨ IsR 9 r))) := by
  unfold FX12_fewestOf
  refine Ok.bd _ (rSX12_fewestOf_4 hT (by first | assumption | exact Or.inl rfl | exact Or.inr (by first | with_reducible assumption | (simp (disch := omega) only [li_0, li_1, li_2, li_3, li_4, li_5, li_6, li_7, li_8, li_9, li_10, li_20, li_30, li_82, li_91, li_273, li_380, li_400, li_512, li_1000, li_2457, li_4000, nI_add, nI_1, nI_mul, nI_sub, shl_1, shl_1b, nI_or, nI_xor, nI_and]; with_reducible exact ⟨_, (by first | omega | exact or9 (by omega) (by omega) | exact xor9 (by omega) (by omega)), rfl⟩) | with_reducible exact ⟨_, (by first | omega | exact or9 (by omega) (by omega) | exact xor9 (by omega) (by omega)), rfl⟩ | exact IsR.mn (by first | with_reducible assumption | exact ⟨_, by omega, rfl⟩) (by first | with_reducible assumption | exact ⟨_, by omega, rfl⟩) | exact IsR.mx (by first | with_reducible assumption | exact ⟨_, by omega, rfl⟩) (by first | with_reducible assumption | exact ⟨_, by omega, rfl⟩) | with_reducible exact mn9 (by omega) | (simp (disch := omega) only [li_0, li_1, li_2, li_3, li_4, li_5, li_6, li_7, li_8, li_9, li_10, li_20, li_30, li_82, li_91, li_273, li_380, li_400, li_512, li_1000, li_2457, li_4000, nI_add, nI_1, nI_mul, nI_sub, shl_1, shl_1b]; with_reducible exact mn9b (by omega)))) (by show IsR 5001 _; first | with_reducible assumption | (simp (disch := omega) only [li_0, li_1, li_2, li_3, li_4, li_5, li_6, li_7, li_8, li_9, li_10, li_20, li_30, li_82, li_91, li_273, li_380, li_400, li_512, li_1000, li_2457, li_4000, nI_add, nI_1, nI_mul, nI_sub, shl_1, shl_1b, nI_or, nI_xor, nI_and]; with_reducible exact ⟨_, (by first | omega | exact or9 (by omega) (by omega) | exact xor9 (by omega) (by omega)), rfl⟩) | with_reducible exact ⟨_, (by first | omega | exact or9 (by omega) (by omega) | exact xor9 (by omega) (by omega)), rfl⟩ | exact IsR.mn (by first | with_reducible assumption | exact ⟨_, by omega, rfl⟩) (by first | with_reducible assumption | exact ⟨_, by omega, rfl⟩) | exact IsR.mx (by first | with_reducible assumption | exact ⟨_, by omega, rfl⟩) (by first | with_reducible assumption | exact ⟨_, by omega, rfl⟩) | with_reducible exact mn9 (by omega) | (simp (disch := omega) only [li_0, li_1, li_2, li_3, li_4, li_5, li_6, li_7, li_8, li_9, li_10, li_20, li_30, li_82, li_91, li_273, li_380, li_400, li_512, li_1000, li_2457, li_4000, nI_add, nI_1, nI_mul, nI_sub, shl_1, shl_1b]; with_reducible exact mn9b (by omega)))) ?_
  rintro e24 _ ⟨rfl, hxe24⟩
  exact Ok.ret ⟨rfl, (by first | exact Or.inl rfl | assumption | exact Or.inr (by first | with_reducible assumption | (simp (disch := omega) only [li_0, li_1, li_2, li_3, li_4, li_5, li_6, li_7, li_8, li_9, li_10, li_20, li_30, li_82, li_91, li_273, li_380, li_400, li_512, li_1000, li_2457, li_4000, nI_add, nI_1, nI_mul, nI_sub, shl_1, shl_1b, nI_or, nI_xor, nI_and]; with_reducible exact ⟨_, (by first | omega | exact or9 (by omega) (by omega) | exact xor9 (by omega) (by omega)), rfl⟩) | with_reducible exact ⟨_, (by first | omega | exact or9 (by omega) (by omega) | exact xor9 (by omega) (by omega)), rfl⟩ | exact IsR.mn (by first | with_reducible assumption | exact ⟨_, by omega, rfl⟩) (by first | with_reducible assumption | exact ⟨_, by omega, rfl⟩) | exact IsR.mx (by first | with_reducible assumption | exact ⟨_, by omega, rfl⟩) (by first | with_reducible assumption | exact ⟨_, by omega, rfl⟩) | with_reducible exact mn9 (by omega) | (simp (disch := omega) only [li_0, li_1, li_2, li_3, li_4, li_5, li_6, li_7, li_8, li_9, li_10, li_20, li_30, li_82, li_91, li_273, li_380, li_400, li_512, li_1000, li_2457, li_4000, nI_add, nI_1, nI_mul, nI_sub, shl_1, shl_1b]; with_reducible exact mn9b (by omega))))⟩
