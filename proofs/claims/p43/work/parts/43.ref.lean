/-! what looks at the state alone answers alike wherever the state is alike; layers (wip/ext/g43.py) -/
def Rl {α : Type} (m m' : Option (α × St)) : Prop := ∀ r s, m = some (r, s) → ∃ s', m' = some (r, s') ∧ s' 150 = s 150
theorem Rl.ret {α : Type} {v : α} {s s' : St} (h : s' 150 = s 150) : Rl (some (v, s)) (some (v, s')) := fun r t e => by
  cases e
  exact ⟨s', rfl, h⟩
theorem Rl.bd {α β : Type} {m m' : Option (α × St)} {f f' : α → St → Option (β × St)} (h : Rl m m') (k : ∀ v s s', s' 150 = s 150 → Rl (f v s) (f' v s')) : Rl (bnd m f) (bnd m' f') := fun r t e => by
  obtain ⟨v, s, h1, h2⟩ := bnd_some e
  obtain ⟨s', h3, h4⟩ := h v s h1
  obtain ⟨t', h5, h6⟩ := k v s s' h4 r t h2
  exact ⟨t', by rw [h3]; exact h5, h6⟩
theorem Rl.ite {α : Type} {c : Prop} [Decidable c] {x y x' y' : Option (α × St)} (a : Rl x x') (b : Rl y y') : Rl (if c then x else y) (if c then x' else y') := by
  by_cases h : c
  · rw [if_pos h, if_pos h]; exact a
  · rw [if_neg h, if_neg h]; exact b
theorem Rl.ck {α : Type} {c : Bool} {m m' : Option (α × St)} (h : Rl m m') : Rl (chk c m) (chk c m') := fun r t e => by
  obtain ⟨h1, h2⟩ := chk_some e
  obtain ⟨t', h3, h4⟩ := h r t h2
  exact ⟨t', by rw [h1]; exact h3, h4⟩
theorem Rl.rd {α : Type} {s s' : St} {i : Nat} {f f' : Int32 → Option (α × St)} (e : s' 150 = s 150) (h : ∀ v, Rl (f v) (f' v)) : Rl (rdb s 150 i f) (rdb s' 150 i f') := by
  show Rl (f (s 150 i)) (f' (s' 150 i))
  rw [e]
  exact h _
theorem Rl.lp {C R : Type} {f : C → St → Option ((C ⊕ R) × St)} (h : ∀ c s s', s' 150 = s 150 → Rl (f c s) (f c s')) : ∀ c s s', s' 150 = s 150 → Rl (wh f c s) (wh f c s') := by
  intro c s s' e r t hw
  obtain ⟨k, hk⟩ := wh_itr hw
  induction k generalizing c s s' with
  | zero => exact absurd hk (itr_zero _ _ _ _)
  | succ k ih =>
    obtain ⟨x, u, h1, h2⟩ := itr_succ hk
    obtain ⟨u', h3, h4⟩ := h c s s' e x u h1
    rcases x with d | q
    · obtain ⟨t', h5, h6⟩ := ih d u u' h4 (wh_of h2) h2
      exact ⟨t', wh_step h3 h5, h6⟩
    · cases h2
      exact ⟨u', wh_last h3, h4⟩
theorem lX12_points {a : Int32} {s s' : St} (e : s' 150 = s 150) : Rl (FX12_points a s) (FX12_points a s') := by
  unfold FX12_points
  exact Rl.ck (Rl.rd e (fun v => Rl.ret e))
theorem lX12_weight {a b c : Int32} {s s' : St} (e : s' 150 = s 150) : Rl (FX12_weight a b c s) (FX12_weight a b c s') := by
  unfold FX12_weight
  exact Rl.ck (Rl.rd e (fun v => Rl.ret e))
theorem lX12_has {a b : Int32} {s s' : St} (e : s' 150 = s 150) : Rl (FX12_has a b s) (FX12_has a b s') := by
  unfold FX12_has
  exact Rl.ite (Rl.ret e) (Rl.ret e)
theorem lX12_nearOf {a b : Int32} {s s' : St} (e : s' 150 = s 150) : Rl (FX12_nearOf a b s) (FX12_nearOf a b s') := by
  unfold FX12_nearOf
  refine Rl.bd (Rl.lp (fun c s s' e => ?_) _ _ _ e) (fun v s s' e => Rl.ret e)
  unfold SX12_nearOf_5
  refine Rl.bd (lX12_points e) (fun v s s' e => Rl.ite (Rl.ret e) ?_)
  refine Rl.bd (lX12_weight e) (fun v s s' e => ?_)
  exact Rl.bd (Rl.ite (Rl.ret e) (Rl.ret e)) (fun v s s' e => Rl.ret e)
theorem lX12_farOf {a b c : Int32} {s s' : St} (e : s' 150 = s 150) : Rl (FX12_farOf a b c s) (FX12_farOf a b c s') := by
  unfold FX12_farOf
  refine Rl.bd (Rl.lp (fun c s s' e => ?_) _ _ _ e) (fun v s s' e => ?_)
  · unfold SX12_farOf_8
    refine Rl.bd (lX12_has e) (fun v s s' e => Rl.ite ?_ (Rl.ret e))
    refine Rl.bd (Rl.lp (fun c s s' e => ?_) _ _ _ e) (fun v s s' e => Rl.ite (Rl.ret e) (Rl.ret e))
    unfold SX12_farOf_24
    refine Rl.bd (lX12_points e) (fun v s s' e => Rl.ite (Rl.ret e) ?_)
    refine Rl.bd (lX12_has e) (fun v s s' e => ?_)
    refine Rl.bd (Rl.ite (Rl.ret e) (Rl.bd (lX12_nearOf e) (fun v s s' e => Rl.ret e))) (fun v s s' e => Rl.ret e)
  · rcases v with v | v
    · exact Rl.ret e
    · exact Rl.ret e
theorem cnt_sub {S T : Nat} (h : ∀ b, S.testBit b = true → T.testBit b = true) : ∀ {n : Nat}, cnt S n ≤ cnt T n
  | 0 => Nat.le_refl _
  | n + 1 => by
    rw [cnt, cnt]
    have h1 := cnt_sub h (n := n)
    cases hb : S.testBit n
    · simp
      omega
    · rw [h n hb]
      omega
theorem cnt_eqb {S T : Nat} (h : ∀ b, S.testBit b = true → T.testBit b = true) : ∀ {n : Nat}, cnt S n = cnt T n → ∀ b, b < n → S.testBit b = T.testBit b
  | 0, _, b, hb => absurd hb (by omega)
  | n + 1, e, b, hb => by
    rw [cnt, cnt] at e
    have h1 := cnt_sub h (n := n)
    cases hs : S.testBit n
    · cases ht : T.testBit n
      · rw [hs, ht] at e
        by_cases q : b = n
        · rw [q, hs, ht]
        · exact cnt_eqb h (n := n) (by omega) b (by omega)
      · rw [hs, ht] at e
        simp at e
        omega
    · have ht := h n hs
      rw [hs, ht] at e
      by_cases q : b = n
      · rw [q, hs, ht]
      · exact cnt_eqb h (n := n) (by omega) b (by omega)
theorem cnt_mono {S T : Nat} (h : ∀ b, S.testBit b = true → T.testBit b = true) (hS : S < 512) (hT : T < 512) (hne : T ≠ S) : cnt S 9 < cnt T 9 := by
  have h1 := cnt_sub h (n := 9)
  rcases Nat.lt_or_ge (cnt S 9) (cnt T 9) with q | q
  · exact q
  · refine absurd (Nat.eq_of_testBit_eq (fun b => ?_)).symm hne
    by_cases hb : b < 9
    · exact cnt_eqb h (by omega) b hb
    · have hp : (512 : Nat) ≤ 2 ^ b := Nat.pow_le_pow_right (n := 2) (by omega) (show 9 ≤ b by omega)
      rw [Nat.testBit_lt_two_pow (by omega), Nat.testBit_lt_two_pow (by omega)]
/-- how far two points are apart: none, or less than nine -/
theorem bX12_farOf {t : St} (hT : TY t) {a : Int32} {p q : Nat} (h_a : IsR 3 a) (hp : p < 9) (hq : q < 9) : Ok (FX12_farOf a (nI p) (nI q) t) (fun r u => t = u ∧ (r = -1 ∨ IsR 9 r)) := by
  unfold FX12_farOf
  refine Ok.bd (fun x u => t = u ∧ Sum.elim (fun r => r = -1 ∨ IsR 9 r) (fun r => r = -1 ∨ IsR 9 r) x) ?_ ?_
  rotate_left
  · rintro (x | x) u h
    · exact Ok.ret h
    · exact Ok.ret h
  refine Ok.loop (fun k c u => t = u ∧ ∃ S i, c = (nI S, nI i) ∧ S < 512 ∧ i < cnt S 9 ∧ k = 9 - i) ?_ 9 _ _ ⟨rfl, 2 ^ p, 0, ?_, pw9 hp, ?_, rfl⟩
  · intro k c u hI
    obtain ⟨rfl, S, i, rfl, hS, hi, rfl⟩ := hI
    have hc9 := cnt_le (S := S) (n := 9)
    unfold SX12_farOf_8
    dsimp only
    refine Ok.bd _ (rX12_has hT) ?_
    rintro v1 _ ⟨rfl, -, -⟩
    refine Ok.ite (fun _ => ?_) (fun _ => Ok.ret ⟨rfl, Or.inr ⟨i, by omega, rfl⟩⟩)
    refine Ok.bd (fun v u => t = u ∧ ∃ T, v = nI T ∧ T < 512 ∧ ∀ b, S.testBit b = true → T.testBit b = true) ?_ ?_
    · refine Ok.loop (fun k c u => t = u ∧ ∃ T j, c = (nI T, nI j) ∧ T < 512 ∧ (∀ b, S.testBit b = true → T.testBit b = true) ∧ j ≤ 9 ∧ k = 9 - j) ?_ 9 _ _ ⟨rfl, S, 0, rfl, hS, fun _ h => h, by omega, rfl⟩
      intro k c u hI
      obtain ⟨rfl, T, j, rfl, hT9, hsub, hj, rfl⟩ := hI
      unfold SX12_farOf_24
      dsimp only
      refine Ok.bd _ (rX12_points hT h_a) ?_
      rintro _ _ ⟨rfl, n, hn, rfl⟩
      refine Ok.ite (fun _ => Ok.ret ⟨rfl, T, rfl, hT9, hsub⟩) (fun c1 => ?_)
      rw [nI_leP (by omega) (by omega)] at c1
      refine Ok.bd _ (rX12_has hT) ?_
      rintro v9 _ ⟨rfl, -, -⟩
      refine Ok.bd (fun v u => t = u ∧ IsR 512 v) ?_ ?_
      · refine Ok.ite (fun _ => Ok.ret ⟨rfl, 0, by omega, rfl⟩) (fun _ => ?_)
        refine Ok.bd _ (bX12_nearOf hT h_a ⟨j, by omega, rfl⟩) ?_
        rintro v _ ⟨rfl, h⟩
        exact Ok.ret ⟨rfl, h⟩
      rintro _ _ ⟨rfl, x, hx, rfl⟩
      exact Ok.ret ⟨9 - (j + 1), by omega, rfl, T ||| x, j + 1, by rw [nI_or, nI_1], or9 hT9 hx, fun b hb => by rw [Nat.testBit_or, hsub b hb, Bool.true_or], by omega, rfl⟩
    rintro _ _ ⟨rfl, T, rfl, hT9, hsub⟩
    refine Ok.ite (fun _ => Ok.ret ⟨rfl, Or.inl rfl⟩) (fun c2 => ?_)
    have hlt : cnt S 9 < cnt T 9 := cnt_mono hsub hS hT9 (fun e => c2 (by rw [e]))
    have hc9' := cnt_le (S := T) (n := 9)
    exact Ok.ret ⟨9 - (i + 1), by omega, rfl, T, i + 1, by rw [nI_1], hT9, by omega, rfl⟩
  · rw [shl_1 (by omega)]
    rfl
  · have := cnt_or (S := 0) (q := p) (n := 9) (by simp)
    rw [Nat.zero_or, cnt_0, if_pos hp] at this
    omega
def lvl (l : Nat) : Int32 := if l = 9 then -1 else nI l
theorem lvl_inj {a b : Nat} (ha : a ≤ 9) (hb : b ≤ 9) (h : lvl a = lvl b) : a = b := by
  unfold lvl at h
  by_cases q : a = 9
  · by_cases q2 : b = 9
    · omega
    · rw [if_pos q, if_neg q2] at h
      have := nI_inj (a := 4294967295) (b := b) h (by omega) (by omega)
      omega
  · by_cases q2 : b = 9
    · rw [if_neg q, if_pos q2] at h
      have := nI_inj (a := a) (b := 4294967295) h (by omega) (by omega)
      omega
    · rw [if_neg q, if_neg q2] at h
      exact nI_inj h (by omega) (by omega)
theorem nX12_layers {σ t : St} (hG : GM σ t) {a b : Int32} : Ok (FX12_layers a b t) (fun r u => GM σ u ∧ True) := by
  unfold FX12_layers
  refine Ok.bd _ (rX12_isPoint hG.tt) ?_
  rintro v _ ⟨rfl, -, hv⟩
  refine Ok.ite (fun _ => Ok.ret ⟨hG, True.intro⟩) (fun c1 => ?_)
  obtain ⟨s, n, x, hs, rfl, en, hn, hx, rfl⟩ := ptx hG.tt (hv.resolve_left c1)
  clear hv c1
  have hD : ∀ p : Nat, ∃ l : Nat, p < 9 → l ≤ 9 ∧ FX12_farOf (nI s) (nI x) (nI p) t = some (lvl l, t) := fun p => by
    by_cases hp : p < 9
    · obtain ⟨v, u, h1, rfl, h2⟩ := bX12_farOf hG.tt (p := x) (q := p) ⟨s, hs, rfl⟩ (by omega) hp
      rcases h2 with h | ⟨k, hk, h⟩
      · exact ⟨9, fun _ => ⟨by omega, by rw [h1, h]; rfl⟩⟩
      · refine ⟨k, fun _ => ⟨by omega, ?_⟩⟩
        rw [h1, h]
        unfold lvl
        rw [if_neg (by omega)]
    · exact ⟨0, fun h => absurd h hp⟩
  obtain ⟨L, hL⟩ := Classical.axiomOfChoice hD
  have far : ∀ {u : St} {p : Nat}, OX t u → p < 9 → Ok (FX12_farOf (nI s) (nI x) (nI p) u) (fun r w => u = w ∧ r = lvl (L p)) := fun {u p} hu hp => by
    obtain ⟨v, w, h1, rfl, -⟩ := rX12_farOf hu.1 (a := nI s) (b := nI x) (c := nI p) ⟨s, hs, rfl⟩
    obtain ⟨w', h2, -⟩ := lX12_farOf (a := nI s) (b := nI x) (c := nI p) (hu.2 150 (by decide)) _ _ (hL p hp).2
    rw [h1] at h2
    obtain ⟨e1, e2⟩ := some_pair h2
    exact ⟨v, u, h1, rfl, e1⟩
  refine Ok.bd (fun _ u => OD t n u) ?_ ?_
  rotate_left
  · rintro _ u hu
    refine Ok.bd _ (nX12_takesRow (hu.gm hG) hs (hu.pts en) hn hu.2.2) ?_
    rintro _ w ⟨hw, -⟩
    exact Ok.ret ⟨hw, True.intro⟩
  refine Ok.loop (fun k c u => OX t u ∧ ∃ S m l, c = (nI m, nI l) ∧ l ≤ 10 ∧ k = 10 - l ∧ S < 512 ∧ cnt S n = m ∧ (∀ p, p < n → (S.testBit p = true ↔ L p < l)) ∧ ∀ p, S.testBit p = true → ∃ k, k < m ∧ u 154 k = nI p) ?_ 10 _ _ ⟨⟨hG.tt, fun _ _ => rfl⟩, 0, 0, 0, rfl, by omega, rfl, by omega, cnt_0 n, fun p hp => by simp, fun p hp => by simp at hp⟩
  intro k c u hI
  obtain ⟨hu, S, m, l, rfl, hl, rfl, hS, hc, hb, hrow⟩ := hI
  unfold SX12_layers_17
  dsimp only
  refine Ok.ite (fun c1 => Ok.ret ⟨hu.1, hu.2, fun p hp => ?_⟩) (fun c1 => ?_)
  · rw [li_9, nI_ltP (by omega) (by omega)] at c1
    obtain ⟨k, hk, e⟩ := hrow p ((hb p hp).mpr (by have := (hL p (by omega)).1; omega))
    have := cnt_le (S := S) (n := n)
    exact ⟨k, by omega, e⟩
  rw [li_9, nI_ltP (by omega) (by omega)] at c1
  refine Ok.bd (fun v w => OX t w ∧ ∃ S m, v = nI m ∧ S < 512 ∧ cnt S n = m ∧ (∀ p, p < n → (S.testBit p = true ↔ L p < l + 1)) ∧ ∀ p, S.testBit p = true → ∃ k, k < m ∧ w 154 k = nI p) ?_ ?_
  rotate_left
  · rintro _ w ⟨hw, S, m, rfl, h1, h2, h3, h4⟩
    exact Ok.ret ⟨10 - (l + 1), by omega, hw, S, m, l + 1, by rw [nI_1], by omega, rfl, h1, h2, h3, h4⟩
  refine Ok.loop (fun k c w => OX t w ∧ ∃ S m j, c = (nI m, nI j) ∧ j ≤ n ∧ k = n - j ∧ S < 512 ∧ cnt S n = m ∧ (∀ p, p < n → (S.testBit p = true ↔ (L p < l ∨ (L p = l ∧ p < j)))) ∧ ∀ p, S.testBit p = true → ∃ k, k < m ∧ w 154 k = nI p) ?_ n _ _ ⟨hu, S, m, 0, rfl, by omega, rfl, hS, hc, fun p hp => (hb p hp).trans (by omega), hrow⟩
  clear hu hS hc hb hrow
  intro k c w hI
  obtain ⟨hw, S, m, j, rfl, hj, rfl, hS, hc, hb, hrow⟩ := hI
  have ew : w 150 (91 * s) = nI n := by rw [hw.2 150 (by decide)]; exact en
  unfold SX12_layers_27
  dsimp only
  refine Ok.bd _ (xX12_points hw.1 hs) ?_
  rintro _ _ ⟨rfl, rfl⟩
  rw [ew]
  refine Ok.ite (fun c2 => Ok.ret ⟨hw, S, m, rfl, hS, hc, fun p hp => ?_, hrow⟩) (fun c2 => ?_)
  · rw [nI_leP (by omega) (by omega)] at c2
    rw [hb p hp]
    omega
  rw [nI_leP (by omega) (by omega)] at c2
  refine Ok.bd _ (far hw (p := j) (by omega)) ?_
  rintro _ _ ⟨rfl, rfl⟩
  refine Ok.bd (fun v y => w = y ∧ v = lvl l) ?_ ?_
  · unfold lvl
    refine Ok.ite (fun c3 => Ok.ret ⟨rfl, ?_⟩) (fun c3 => Ok.ret ⟨rfl, ?_⟩)
    · rw [li_9] at c3
      rw [if_pos (nI_inj (b := 9) c3 (by omega) (by omega))]
    · rw [if_neg (fun e => c3 (by rw [e]; rfl))]
  rintro _ _ ⟨rfl, rfl⟩
  refine Ok.bd (fun v y => OX t y ∧ ∃ S m, v = nI m ∧ S < 512 ∧ cnt S n = m ∧ (∀ p, p < n → (S.testBit p = true ↔ (L p < l ∨ (L p = l ∧ p < j + 1)))) ∧ ∀ p, S.testBit p = true → ∃ k, k < m ∧ y 154 k = nI p) ?_ ?_
  rotate_left
  · rintro _ y ⟨hy, S, m, rfl, h1, h2, h3, h4⟩
    exact Ok.ret ⟨n - (j + 1), by omega, hy, S, m, j + 1, by rw [nI_1], by omega, rfl, h1, h2, h3, h4⟩
  have hLj := (hL j (by omega)).1
  refine Ok.ite (fun c3 => ?_) (fun c3 => Ok.ret ⟨hw, S, m, rfl, hS, hc, fun p hp => ?_, hrow⟩)
  · have el := lvl_inj hLj (by omega) c3
    have hbj : S.testBit j = false := by
      cases h : S.testBit j
      · rfl
      · have := (hb j (by omega)).mp h
        omega
    have hlt := cnt_lt (S := S) (p := j) (n := n) (by omega) hbj
    refine Ok.ck (inb_n (by omega) (by omega)) (fun _ => Ok.wr (fun y ey => ?_))
    rw [nI_cl (by omega)] at ey
    refine Ok.ret ⟨⟨?_, fun b hb' => ?_⟩, S ||| 2 ^ j, m + 1, nI_1 m, or9 hS (pw9 (by omega)), ?_, fun p hp => ?_, fun p hp => ?_⟩
    · rw [ey]
      exact hw.1.wr (Or.inr (by rw [ty_a154 (by omega)]; exact ⟨j, by omega, rfl⟩))
    · rw [wo ey hb']
      exact hw.2 b hb'
    · rw [cnt_or hbj, if_pos (by omega), hc]
    · rw [Nat.testBit_or, Nat.testBit_two_pow]
      by_cases e : j = p
      · subst e
        simp
        omega
      · simp only [e, decide_false, Bool.or_false]
        rw [hb p hp]
        omega
    · rw [Nat.testBit_or, Nat.testBit_two_pow] at hp
      rw [ey, wr_at]
      by_cases e : j = p
      · exact ⟨m, by omega, by rw [pk_us, e]⟩
      · have hp' : S.testBit p = true := by simpa [e] using hp
        obtain ⟨k, hk, h⟩ := hrow p hp'
        exact ⟨k, by omega, by rw [pk_un (by omega)]; exact h⟩
  · rw [hb p hp]
    have : L j ≠ l := fun e => c3 (by rw [e])
    by_cases e : p = j
    · subst e
      omega
    · omega
