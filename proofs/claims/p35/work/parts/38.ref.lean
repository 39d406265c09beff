section
/-! the reference: bounds of what it counts; it tells (wip/ext/g38.py) -/
theorem IsR.or9 {x y : Int32} (h : IsR 512 x) (h2 : IsR 512 y) : IsR 512 (x ||| y) := by
  obtain ⟨a, ha, rfl⟩ := h
  obtain ⟨b, hb, rfl⟩ := h2
  exact ⟨a ||| b, Nat.or_lt_two_pow (n := 9) ha hb, nI_or a b⟩
theorem IsR.and9 {x y : Int32} (h : IsR 512 x) : IsR 512 (x &&& y) := by
  obtain ⟨a, ha, rfl⟩ := h
  have e : y = nI y.toBitVec.toNat := by
    apply Int32.toBitVec_inj.mp
    apply BitVec.eq_of_toNat_eq
    show _ = y.toBitVec.toNat % 2 ^ 32
    rw [Nat.mod_eq_of_lt y.toBitVec.isLt]
  rw [e, nI_and]
  exact ⟨_, Nat.lt_of_le_of_lt Nat.and_le_left ha, rfl⟩
theorem bX12_nearOf {t : St} (hT : TY t) {a b : Int32} (h_a : IsR 3 a) (h_b : IsR 9 b) : Ok (FX12_nearOf a b t) (fun r u => t = u ∧ IsR 512 r) := by
  unfold FX12_nearOf
  refine Ok.bd (fun r u => t = u ∧ IsR 512 r) ?_ (fun _ _ h => Ok.ret h)
  refine Ok.loop (fun k c s => t = s ∧ IsR 512 c.1 ∧ ∃ j, c.2 = nI j ∧ j ≤ 9 ∧ k = 9 - j) ?_ 9 _ _ ⟨rfl, ⟨0, by omega, rfl⟩, 0, rfl, by omega, rfl⟩
  intro k c s hI
  obtain ⟨rfl, h1, j, ej, hj, rfl⟩ := hI
  obtain ⟨c0, c1⟩ := c
  dsimp only at ej h1
  subst ej
  unfold SX12_nearOf_5
  dsimp only
  refine Ok.bd _ (rX12_points hT h_a) ?_
  rintro _ _ ⟨rfl, n, hn, rfl⟩
  refine Ok.ite (fun _ => Ok.ret ⟨rfl, h1⟩) (fun c1 => ?_)
  rw [nI_leP (by omega) (by omega)] at c1
  refine Ok.bd _ (rX12_weight hT h_a h_b ⟨j, by omega, rfl⟩) ?_
  rintro v5 _ ⟨rfl, -⟩
  refine Ok.bd (fun v u => t = u ∧ IsR 512 v) ?_ ?_
  · exact Ok.ite (fun _ => Ok.ret ⟨rfl, 0, by omega, rfl⟩) (fun _ => Ok.ret ⟨rfl, 2 ^ j, pw9 (by omega), shl_1 (by omega)⟩)
  · rintro v9 _ ⟨rfl, h9⟩
    exact Ok.ret ⟨9 - (j + 1), by omega, rfl, h1.or9 h9, j + 1, nI_1 j, by omega, rfl⟩
theorem bX12_ones {t : St} {a : Int32} (h : IsR 512 a) : Ok (FX12_ones a t) (fun r u => t = u ∧ IsR 512 r) := by
  unfold FX12_ones
  obtain ⟨m, hm, rfl⟩ := h
  refine Ok.bd (fun r u => t = u ∧ IsR 512 r) ?_ (fun _ _ h => Ok.ret h)
  refine Ok.loop (fun k c s => t = s ∧ k = c.2.toBitVec.toNat ∧ ∃ i, c.1 = nI i ∧ i + k ≤ m) ?_ _ _ _ ⟨rfl, rfl, 0, rfl, ?_⟩
  · intro k c s hI
    obtain ⟨rfl, rfl, i, ei, hi⟩ := hI
    obtain ⟨c0, c1⟩ := c
    dsimp only at ei hi
    subst ei
    unfold SX12_ones_4
    dsimp only
    refine Ok.ite (fun _ => Ok.ret ⟨rfl, i, by omega, rfl⟩) (fun c2 => ?_)
    have := nd_dec c2
    exact Ok.ret ⟨_, this, rfl, rfl, i + 1, nI_1 i, Nat.le_trans (by have h3 : i + 1 + (c1 &&& (c1 - 1)).toBitVec.toNat ≤ i + c1.toBitVec.toNat := (by omega); exact h3) hi⟩
  · show 0 + m % 4294967296 ≤ m
    omega
theorem bX12_neighbours {t : St} (hT : TY t) {a b c : Int32} (h_a : IsR 3 a) (h_c : IsR 9 c) : Ok (FX12_neighbours a b c t) (fun r u => t = u ∧ IsR 512 r) := by
  unfold FX12_neighbours
  refine Ok.bd _ (bX12_nearOf hT h_a h_c) ?_
  rintro v1 _ ⟨rfl, h1⟩
  refine Ok.bd (fun r u => t = u ∧ IsR 512 r) ?_ (fun x u h => Ok.ret ⟨h.1, h.2.and9.and9⟩)
  refine Ok.loop (fun k c s => t = s ∧ IsR 512 c.1 ∧ c.1 ||| c.2 = c.1 ∧ k = (if c.2 = c.1 then 0 else 1 + (4294967296 - c.2.toBitVec.toNat))) ?_ _ _ _ ⟨rfl, h1, ?_, rfl⟩
  · intro k x s hI
    obtain ⟨rfl, h5, hx, rfl⟩ := hI
    unfold SX12_neighbours_11
    refine Ok.ite (fun _ => Ok.ret ⟨rfl, h5⟩) (fun c0 => ?_)
    rw [if_neg c0]
    refine Ok.bd (fun e u => t = u ∧ IsR 512 e ∧ e ||| x.1 = e) ?_ ?_
    · refine Ok.loop (fun k c s => t = s ∧ IsR 512 c.1 ∧ c.1 ||| x.1 = c.1 ∧ ∃ j, c.2 = nI j ∧ j ≤ 9 ∧ k = 9 - j) ?_ 9 _ _ ⟨rfl, h5, Int32.or_self, 0, rfl, by omega, rfl⟩
      intro k c s hI
      obtain ⟨rfl, h6, ho, j, ej, hj, rfl⟩ := hI
      obtain ⟨c0', c1'⟩ := c
      dsimp only at ej ho h6
      subst ej
      unfold SX12_neighbours_25
      dsimp only
      refine Ok.bd _ (rX12_points hT h_a) ?_
      rintro _ _ ⟨rfl, n, hn, rfl⟩
      refine Ok.ite (fun _ => Ok.ret ⟨rfl, h6, ho⟩) (fun c1 => ?_)
      rw [nI_leP (by omega) (by omega)] at c1
      refine Ok.bd _ (rX12_has hT) ?_
      rintro v9 _ ⟨rfl, -, -⟩
      refine Ok.bd (fun v u => t = u ∧ IsR 512 v) ?_ ?_
      · refine Ok.ite (fun _ => Ok.ret ⟨rfl, 0, by omega, rfl⟩) (fun _ => ?_)
        refine Ok.bd _ (bX12_nearOf hT h_a ⟨j, by omega, rfl⟩) ?_
        rintro v17 _ ⟨rfl, h17⟩
        exact Ok.ret ⟨rfl, h17⟩
      · rintro v13 _ ⟨rfl, h13⟩
        exact Ok.ret ⟨9 - (j + 1), by omega, rfl, h6.or9 h13, or_keep ho, j + 1, nI_1 j, by omega, rfl⟩
    · rintro e _ ⟨rfl, h7, ho⟩
      refine Ok.ret ⟨_, ?_, rfl, h7, ho, rfl⟩
      show (if x.1 = e then 0 else 1 + (4294967296 - x.1.toBitVec.toNat)) < 1 + (4294967296 - x.2.toBitVec.toNat)
      have hlt := gr_dec hx (fun q => c0 q.symm)
      split <;> omega
  · show v1 ||| 0 = v1
    exact Int32.or_zero
theorem bX12_fillOf {t : St} (hT : TY t) {a b c : Int32} (h_a : IsR 3 a) (h_c : IsR 9 c) : Ok (FX12_fillOf a b c t) (fun r u => t = u ∧ IsR 10000 r) := by
  unfold FX12_fillOf
  refine Ok.bd _ (bX12_neighbours hT h_a h_c) ?_
  rintro v1 _ ⟨rfl, h1⟩
  refine Ok.bd (fun r u => t = u ∧ IsR 10000 r) ?_ (fun _ _ h => Ok.ret h)
  refine Ok.loop (fun k c s => t = s ∧ ∃ w j, c = (nI w, nI j) ∧ w ≤ 511 * j ∧ j ≤ 9 ∧ k = 9 - j) ?_ 9 _ _ ⟨rfl, 0, 0, rfl, by omega, by omega, rfl⟩
  intro k c s hI
  obtain ⟨rfl, w, j, rfl, hw, hj, rfl⟩ := hI
  unfold SX12_fillOf_15
  dsimp only
  refine Ok.bd _ (rX12_points hT h_a) ?_
  rintro _ _ ⟨rfl, n, hn, rfl⟩
  refine Ok.ite (fun _ => Ok.ret ⟨rfl, w, by omega, rfl⟩) (fun c1 => ?_)
  rw [nI_leP (by omega) (by omega)] at c1
  refine Ok.bd _ (rX12_has hT) ?_
  rintro v8 _ ⟨rfl, -, -⟩
  refine Ok.bd (fun v u => t = u ∧ IsR 512 v) ?_ ?_
  · refine Ok.ite (fun _ => Ok.ret ⟨rfl, 0, by omega, rfl⟩) (fun _ => ?_)
    refine Ok.bd _ (bX12_neighbours hT h_a ⟨j, by omega, rfl⟩) ?_
    rintro v16 _ ⟨rfl, -⟩
    refine Ok.bd _ (bX12_ones h1.and9.and9) ?_
    rintro v19 _ ⟨rfl, h19⟩
    exact Ok.ret ⟨rfl, h19⟩
  · rintro _ _ ⟨rfl, q, hq, rfl⟩
    exact Ok.ret ⟨9 - (j + 1), by omega, rfl, w + q, j + 1, by rw [nI_add, nI_1], by omega, by omega, rfl⟩
theorem bX12_splitOf {t : St} (hT : TY t) {a b c : Int32} (h_a : IsR 3 a) : Ok (FX12_splitOf a b c t) (fun r u => t = u ∧ IsR 10000 r) := by
  unfold FX12_splitOf
  refine Ok.bd (fun r u => t = u ∧ IsR 10000 r) ?_ (fun _ _ h => Ok.ret h)
  refine Ok.loop (fun k c s => t = s ∧ ∃ w j, c = (nI w, nI j) ∧ w ≤ 81 * j ∧ j ≤ 9 ∧ k = 9 - j) ?_ 9 _ _ ⟨rfl, 0, 0, rfl, by omega, by omega, rfl⟩
  intro k c s hI
  obtain ⟨rfl, w, j, rfl, hw, hj, rfl⟩ := hI
  unfold SX12_splitOf_6
  dsimp only
  refine Ok.bd _ (rX12_points hT h_a) ?_
  rintro _ _ ⟨rfl, n, hn, rfl⟩
  refine Ok.ite (fun _ => Ok.ret ⟨rfl, w, by omega, rfl⟩) (fun c1 => ?_)
  rw [nI_leP (by omega) (by omega)] at c1
  refine Ok.bd _ (rX12_nearOf hT h_a ⟨j, by omega, rfl⟩) ?_
  rintro v5 _ ⟨rfl, -⟩
  refine Ok.bd _ (rX12_has hT) ?_
  rintro v8 _ ⟨rfl, -, -⟩
  refine Ok.bd (fun v u => t = u) (Ok.ite (fun _ => Ok.ret rfl) (fun _ => Ok.ret rfl)) ?_
  rintro v12 _ rfl
  refine Ok.bd (fun v u => t = u ∧ ∃ w', v = nI w' ∧ w' ≤ 81 * (j + 1)) ?_ ?_
  · refine Ok.ite (fun _ => ?_) (fun _ => Ok.ite (fun _ => ?_) (fun _ => ?_))
    · refine Ok.bd _ (rX12_has hT) ?_
      rintro v54 _ ⟨rfl, -, -⟩
      refine Ok.bd (fun v u => t = u ∧ IsR 2 v) (Ok.ite (fun _ => Ok.ret ⟨rfl, 0, by omega, rfl⟩) (fun _ => Ok.ite (fun _ => Ok.ret ⟨rfl, 0, by omega, rfl⟩) (fun _ => Ok.ret ⟨rfl, 1, by omega, rfl⟩))) ?_
      rintro _ _ ⟨rfl, q, hq, rfl⟩
      exact Ok.ret ⟨rfl, w + q, nI_add w q, by omega⟩
    · refine Ok.bd _ (rX12_has hT) ?_
      rintro v54 _ ⟨rfl, -, -⟩
      refine Ok.bd (fun v u => t = u ∧ IsR 2 v) (Ok.ite (fun _ => Ok.ite (fun _ => Ok.ret ⟨rfl, 0, by omega, rfl⟩) (fun _ => Ok.ret ⟨rfl, 1, by omega, rfl⟩)) (fun _ => Ok.ret ⟨rfl, 0, by omega, rfl⟩)) ?_
      rintro _ _ ⟨rfl, q, hq, rfl⟩
      exact Ok.ret ⟨rfl, w + q, nI_add w q, by omega⟩
    · refine Ok.bd _ (rX12_has hT) ?_
      rintro v22 _ ⟨rfl, -, -⟩
      refine Ok.ite (fun _ => Ok.ret ⟨rfl, w, rfl, by omega⟩) (fun _ => ?_)
      refine Ok.bd (fun v u => t = u ∧ ∃ w', v = nI w' ∧ w' ≤ 81 * (j + 1)) ?_ (fun _ _ h => Ok.ret h)
      refine Ok.loop (fun k c s => t = s ∧ ∃ w' i, c = (nI w', nI i) ∧ w' ≤ 81 * j + 9 * i ∧ i ≤ 9 ∧ k = 9 - i) ?_ 9 _ _ ⟨rfl, w, 0, rfl, by omega, by omega, rfl⟩
      intro k c s hI
      obtain ⟨rfl, w', i, rfl, hw', hi, rfl⟩ := hI
      unfold SX12_splitOf_118
      dsimp only
      refine Ok.bd _ (rX12_points hT h_a) ?_
      rintro _ _ ⟨rfl, n2, hn2, rfl⟩
      refine Ok.ite (fun _ => Ok.ret ⟨rfl, w', rfl, by omega⟩) (fun c2 => ?_)
      rw [nI_leP (by omega) (by omega)] at c2
      refine Ok.bd _ (rX12_has hT) ?_
      rintro v30 _ ⟨rfl, -, -⟩
      refine Ok.bd (fun v u => t = u ∧ IsR 10 v) ?_ ?_
      · refine Ok.ite (fun _ => ?_) (fun _ => Ok.ret ⟨rfl, 0, by omega, rfl⟩)
        refine Ok.bd _ (rX12_weight hT h_a ⟨j, by omega, rfl⟩ ⟨i, by omega, rfl⟩) ?_
        rintro v38 _ ⟨rfl, h38⟩
        exact Ok.ret ⟨rfl, h38⟩
      · rintro _ _ ⟨rfl, q, hq, rfl⟩
        exact Ok.ret ⟨9 - (i + 1), by omega, rfl, w' + q, i + 1, by rw [nI_add, nI_1], by omega, by omega, rfl⟩
  · rintro _ _ ⟨rfl, w2, rfl, h2⟩
    exact Ok.ret ⟨9 - (j + 1), by omega, rfl, w2, j + 1, by rw [nI_1], h2, by omega, rfl⟩
theorem bX12_cost {t : St} (hT : TY t) {a b c d : Int32} (h_a : IsR 3 a) (h_d : IsR 9 d) : Ok (FX12_cost a b c d t) (fun r u => t = u ∧ IsR 10000 r) := by
  unfold FX12_cost
  refine Ok.ite (fun _ => ?_) (fun _ => Ok.ite (fun _ => ?_) (fun _ => ?_))
  · refine Ok.bd _ (bX12_neighbours hT h_a h_d) ?_
    rintro v22 _ ⟨rfl, h22⟩
    refine Ok.bd _ (bX12_ones h22) ?_
    rintro v25 _ ⟨rfl, h25⟩
    exact Ok.ret ⟨rfl, h25.up (by omega)⟩
  · refine Ok.bd _ (bX12_fillOf hT h_a h_d) ?_
    rintro v _ ⟨rfl, h⟩
    exact Ok.ret ⟨rfl, h⟩
  · refine Ok.bd _ (rX12_points hT h_a) ?_
    rintro v3 _ ⟨rfl, -⟩
    refine Ok.ite (fun _ => Ok.ret ⟨rfl, 0, by omega, rfl⟩) (fun _ => ?_)
    refine Ok.bd (fun v u => t = u) (Ok.ite (fun _ => Ok.ret rfl) (fun _ => Ok.ite (fun _ => Ok.ret rfl) (fun _ => Ok.ret rfl))) ?_
    rintro v8 _ rfl
    refine Ok.bd _ (bX12_splitOf hT h_a) ?_
    rintro v _ ⟨rfl, h⟩
    exact Ok.ret ⟨rfl, h⟩
theorem bX12_priceOf {t : St} (hT : TY t) {a : Int32} {i : Nat} (h_a : IsR 3 a) (h1 : 1 ≤ i) (hi : i < 10) : Ok (FX12_priceOf a 0 (nI i) t) (fun r u => t = u ∧ IsR 10000 r) := by
  unfold FX12_priceOf
  refine Ok.bd (fun v u => t = u ∧ v = 0) (tko (fun h => absurd h (by decide)) (fun _ => ⟨rfl, rfl⟩)) ?_
  rintro _ _ ⟨rfl, rfl⟩
  refine Ok.ite (fun _ => ?_) (fun c => absurd rfl c)
  have e : nI i - 1 = nI (i - 1) := by rw [li_1, nI_sub (by omega)]
  rw [e]
  refine Ok.bd _ (rX12_aheadOf hT h_a ⟨i - 1, by omega, rfl⟩) ?_
  rintro v5 _ ⟨rfl, -⟩
  refine Ok.bd _ (rX12_at hT h_a ⟨i - 1, by omega, rfl⟩) ?_
  rintro v8 _ ⟨rfl, h8⟩
  refine Ok.bd _ (bX12_cost hT h_a h8) ?_
  rintro v11 _ ⟨rfl, h11⟩
  exact Ok.ret ⟨rfl, h11⟩
/-- so much is told at most -/
def OB (m : Nat) (u : St) : Prop := ∃ k, u 149 25 = nI k ∧ k ≤ m
theorem OB.up {m n : Nat} {u : St} (h : OB m u) (hn : m ≤ n) : OB n u := by
  obtain ⟨k, e, hk⟩ := h
  exact ⟨k, e, by omega⟩
theorem say1 {σ t w x : St} {m : Nat} {v : Int32} {k : Nat} (hG : GM σ t) (ek : t 149 25 = nI k) (hk : k ≤ m) (hm : m < 400) (ew : w = wr t 162 (nI k).toNatClampNeg v) (ex : x = wr w 149 25 (w 149 25 + 1)) : GM σ x ∧ OB (m + 1) x := by
  have gw := hG.wrU ew (by omega) ty_u162
  have e : w 149 25 + 1 = nI (k + 1) := by rw [wo ew (by decide), ek, nI_1]
  rw [e] at ex
  exact ⟨gw.wrT ex (by omega) ty_m25 ⟨k + 1, by omega, rfl⟩, k + 1, ws ex, by omega⟩
theorem nX12_says_s6 {σ t : St} {m : Nat} (hG : GM σ t) (hO : OB m t) (hm : m + 4 ≤ 400) : Ok (FX12_says_s6 t) (fun _ u => GM σ u ∧ OB (m + 4) u) := by
  unfold FX12_says_s6
  refine Ok.bd (fun _ u => GM σ u ∧ OB (m + 4) u) ?_ (fun _ _ h => Ok.ret h)
  refine Ok.loop (fun k c u => GM σ u ∧ ∃ j, c = nI j ∧ j ≤ 4 ∧ k = 4 - j ∧ OB (m + j) u) ?_ 4 _ _ ⟨hG, 0, rfl, by omega, rfl, hO⟩
  clear hG hO
  intro k c u hI
  obtain ⟨hG, j, rfl, hj, rfl, hO⟩ := hI
  unfold SX12_says_s6_2
  refine Ok.ite (fun _ => Ok.ret ⟨hG, hO.up (by omega)⟩) (fun c1 => ?_)
  rw [(show (4 : Int32) = nI 4 from rfl), nI_leP (by omega) (by omega)] at c1
  obtain ⟨k, ek, hk⟩ := hO
  refine Ok.rd (fun v2 h2 => ?_)
  rw [ek] at h2
  subst h2
  refine Ok.ck (inb_n (by omega) (by omega)) (fun _ => Ok.ck (inb_n (by omega) (by omega)) (fun _ => ?_))
  refine Ok.wr (fun w ew => Ok.rd (fun v8 h8 => Ok.wr (fun x ex => ?_)))
  subst h8
  obtain ⟨gx, ox⟩ := say1 hG ek hk (by omega) ew ex
  exact Ok.ret ⟨4 - (j + 1), by omega, gx, j + 1, nI_1 j, by omega, rfl, ox⟩
theorem nX12_says_s7 {σ t : St} {m : Nat} (hG : GM σ t) (hO : OB m t) (hm : m + 1 ≤ 400) : Ok (FX12_says_s7 t) (fun _ u => GM σ u ∧ OB (m + 1) u) := by
  unfold FX12_says_s7
  refine Ok.bd (fun _ u => GM σ u ∧ OB (m + 1) u) ?_ (fun _ _ h => Ok.ret h)
  refine Ok.loop (fun k c u => GM σ u ∧ ∃ j, c = nI j ∧ j ≤ 1 ∧ k = 1 - j ∧ OB (m + j) u) ?_ 1 _ _ ⟨hG, 0, rfl, by omega, rfl, hO⟩
  clear hG hO
  intro k c u hI
  obtain ⟨hG, j, rfl, hj, rfl, hO⟩ := hI
  unfold SX12_says_s7_2
  refine Ok.ite (fun _ => Ok.ret ⟨hG, hO.up (by omega)⟩) (fun c1 => ?_)
  rw [(show (1 : Int32) = nI 1 from rfl), nI_leP (by omega) (by omega)] at c1
  obtain ⟨k, ek, hk⟩ := hO
  refine Ok.rd (fun v2 h2 => ?_)
  rw [ek] at h2
  subst h2
  refine Ok.ck (inb_n (by omega) (by omega)) (fun _ => Ok.ck (inb_n (by omega) (by omega)) (fun _ => ?_))
  refine Ok.wr (fun w ew => Ok.rd (fun v8 h8 => Ok.wr (fun x ex => ?_)))
  subst h8
  obtain ⟨gx, ox⟩ := say1 hG ek hk (by omega) ew ex
  exact Ok.ret ⟨1 - (j + 1), by omega, gx, j + 1, nI_1 j, by omega, rfl, ox⟩
theorem nX12_says_s8 {σ t : St} {m : Nat} (hG : GM σ t) (hO : OB m t) (hm : m + 1 ≤ 400) : Ok (FX12_says_s8 t) (fun _ u => GM σ u ∧ OB (m + 1) u) := by
  unfold FX12_says_s8
  refine Ok.bd (fun _ u => GM σ u ∧ OB (m + 1) u) ?_ (fun _ _ h => Ok.ret h)
  refine Ok.loop (fun k c u => GM σ u ∧ ∃ j, c = nI j ∧ j ≤ 1 ∧ k = 1 - j ∧ OB (m + j) u) ?_ 1 _ _ ⟨hG, 0, rfl, by omega, rfl, hO⟩
  clear hG hO
  intro k c u hI
  obtain ⟨hG, j, rfl, hj, rfl, hO⟩ := hI
  unfold SX12_says_s8_2
  refine Ok.ite (fun _ => Ok.ret ⟨hG, hO.up (by omega)⟩) (fun c1 => ?_)
  rw [(show (1 : Int32) = nI 1 from rfl), nI_leP (by omega) (by omega)] at c1
  obtain ⟨k, ek, hk⟩ := hO
  refine Ok.rd (fun v2 h2 => ?_)
  rw [ek] at h2
  subst h2
  refine Ok.ck (inb_n (by omega) (by omega)) (fun _ => Ok.ck (inb_n (by omega) (by omega)) (fun _ => ?_))
  refine Ok.wr (fun w ew => Ok.rd (fun v8 h8 => Ok.wr (fun x ex => ?_)))
  subst h8
  obtain ⟨gx, ox⟩ := say1 hG ek hk (by omega) ew ex
  exact Ok.ret ⟨1 - (j + 1), by omega, gx, j + 1, nI_1 j, by omega, rfl, ox⟩
theorem nX12_says_s9 {σ t : St} {m : Nat} (hG : GM σ t) (hO : OB m t) (hm : m + 1 ≤ 400) : Ok (FX12_says_s9 t) (fun _ u => GM σ u ∧ OB (m + 1) u) := by
  unfold FX12_says_s9
  refine Ok.bd (fun _ u => GM σ u ∧ OB (m + 1) u) ?_ (fun _ _ h => Ok.ret h)
  refine Ok.loop (fun k c u => GM σ u ∧ ∃ j, c = nI j ∧ j ≤ 1 ∧ k = 1 - j ∧ OB (m + j) u) ?_ 1 _ _ ⟨hG, 0, rfl, by omega, rfl, hO⟩
  clear hG hO
  intro k c u hI
  obtain ⟨hG, j, rfl, hj, rfl, hO⟩ := hI
  unfold SX12_says_s9_2
  refine Ok.ite (fun _ => Ok.ret ⟨hG, hO.up (by omega)⟩) (fun c1 => ?_)
  rw [(show (1 : Int32) = nI 1 from rfl), nI_leP (by omega) (by omega)] at c1
  obtain ⟨k, ek, hk⟩ := hO
  refine Ok.rd (fun v2 h2 => ?_)
  rw [ek] at h2
  subst h2
  refine Ok.ck (inb_n (by omega) (by omega)) (fun _ => Ok.ck (inb_n (by omega) (by omega)) (fun _ => ?_))
  refine Ok.wr (fun w ew => Ok.rd (fun v8 h8 => Ok.wr (fun x ex => ?_)))
  subst h8
  obtain ⟨gx, ox⟩ := say1 hG ek hk (by omega) ew ex
  exact Ok.ret ⟨1 - (j + 1), by omega, gx, j + 1, nI_1 j, by omega, rfl, ox⟩
theorem nX12_says_s10 {σ t : St} {m : Nat} (hG : GM σ t) (hO : OB m t) (hm : m + 1 ≤ 400) : Ok (FX12_says_s10 t) (fun _ u => GM σ u ∧ OB (m + 1) u) := by
  unfold FX12_says_s10
  refine Ok.bd (fun _ u => GM σ u ∧ OB (m + 1) u) ?_ (fun _ _ h => Ok.ret h)
  refine Ok.loop (fun k c u => GM σ u ∧ ∃ j, c = nI j ∧ j ≤ 1 ∧ k = 1 - j ∧ OB (m + j) u) ?_ 1 _ _ ⟨hG, 0, rfl, by omega, rfl, hO⟩
  clear hG hO
  intro k c u hI
  obtain ⟨hG, j, rfl, hj, rfl, hO⟩ := hI
  unfold SX12_says_s10_2
  refine Ok.ite (fun _ => Ok.ret ⟨hG, hO.up (by omega)⟩) (fun c1 => ?_)
  rw [(show (1 : Int32) = nI 1 from rfl), nI_leP (by omega) (by omega)] at c1
  obtain ⟨k, ek, hk⟩ := hO
  refine Ok.rd (fun v2 h2 => ?_)
  rw [ek] at h2
  subst h2
  refine Ok.ck (inb_n (by omega) (by omega)) (fun _ => Ok.ck (inb_n (by omega) (by omega)) (fun _ => ?_))
  refine Ok.wr (fun w ew => Ok.rd (fun v8 h8 => Ok.wr (fun x ex => ?_)))
  subst h8
  obtain ⟨gx, ox⟩ := say1 hG ek hk (by omega) ew ex
  exact Ok.ret ⟨1 - (j + 1), by omega, gx, j + 1, nI_1 j, by omega, rfl, ox⟩
theorem nX12_says_s11 {σ t : St} {m : Nat} (hG : GM σ t) (hO : OB m t) (hm : m + 5 ≤ 400) : Ok (FX12_says_s11 t) (fun _ u => GM σ u ∧ OB (m + 5) u) := by
  unfold FX12_says_s11
  refine Ok.bd (fun _ u => GM σ u ∧ OB (m + 5) u) ?_ (fun _ _ h => Ok.ret h)
  refine Ok.loop (fun k c u => GM σ u ∧ ∃ j, c = nI j ∧ j ≤ 5 ∧ k = 5 - j ∧ OB (m + j) u) ?_ 5 _ _ ⟨hG, 0, rfl, by omega, rfl, hO⟩
  clear hG hO
  intro k c u hI
  obtain ⟨hG, j, rfl, hj, rfl, hO⟩ := hI
  unfold SX12_says_s11_2
  refine Ok.ite (fun _ => Ok.ret ⟨hG, hO.up (by omega)⟩) (fun c1 => ?_)
  rw [(show (5 : Int32) = nI 5 from rfl), nI_leP (by omega) (by omega)] at c1
  obtain ⟨k, ek, hk⟩ := hO
  refine Ok.rd (fun v2 h2 => ?_)
  rw [ek] at h2
  subst h2
  refine Ok.ck (inb_n (by omega) (by omega)) (fun _ => Ok.ck (inb_n (by omega) (by omega)) (fun _ => ?_))
  refine Ok.wr (fun w ew => Ok.rd (fun v8 h8 => Ok.wr (fun x ex => ?_)))
  subst h8
  obtain ⟨gx, ox⟩ := say1 hG ek hk (by omega) ew ex
  exact Ok.ret ⟨5 - (j + 1), by omega, gx, j + 1, nI_1 j, by omega, rfl, ox⟩
theorem nX12_says_s12 {σ t : St} {m : Nat} (hG : GM σ t) (hO : OB m t) (hm : m + 1 ≤ 400) : Ok (FX12_says_s12 t) (fun _ u => GM σ u ∧ OB (m + 1) u) := by
  unfold FX12_says_s12
  refine Ok.bd (fun _ u => GM σ u ∧ OB (m + 1) u) ?_ (fun _ _ h => Ok.ret h)
  refine Ok.loop (fun k c u => GM σ u ∧ ∃ j, c = nI j ∧ j ≤ 1 ∧ k = 1 - j ∧ OB (m + j) u) ?_ 1 _ _ ⟨hG, 0, rfl, by omega, rfl, hO⟩
  clear hG hO
  intro k c u hI
  obtain ⟨hG, j, rfl, hj, rfl, hO⟩ := hI
  unfold SX12_says_s12_2
  refine Ok.ite (fun _ => Ok.ret ⟨hG, hO.up (by omega)⟩) (fun c1 => ?_)
  rw [(show (1 : Int32) = nI 1 from rfl), nI_leP (by omega) (by omega)] at c1
  obtain ⟨k, ek, hk⟩ := hO
  refine Ok.rd (fun v2 h2 => ?_)
  rw [ek] at h2
  subst h2
  refine Ok.ck (inb_n (by omega) (by omega)) (fun _ => Ok.ck (inb_n (by omega) (by omega)) (fun _ => ?_))
  refine Ok.wr (fun w ew => Ok.rd (fun v8 h8 => Ok.wr (fun x ex => ?_)))
  subst h8
  obtain ⟨gx, ox⟩ := say1 hG ek hk (by omega) ew ex
  exact Ok.ret ⟨1 - (j + 1), by omega, gx, j + 1, nI_1 j, by omega, rfl, ox⟩
theorem nX12_says_s13 {σ t : St} {m : Nat} (hG : GM σ t) (hO : OB m t) (hm : m + 0 ≤ 400) : Ok (FX12_says_s13 t) (fun _ u => GM σ u ∧ OB (m + 0) u) := by
  unfold FX12_says_s13
  refine Ok.bd (fun _ u => GM σ u ∧ OB (m + 0) u) ?_ (fun _ _ h => Ok.ret h)
  refine Ok.loop (fun k c u => GM σ u ∧ ∃ j, c = nI j ∧ j ≤ 0 ∧ k = 0 - j ∧ OB (m + j) u) ?_ 0 _ _ ⟨hG, 0, rfl, by omega, rfl, hO⟩
  clear hG hO
  intro k c u hI
  obtain ⟨hG, j, rfl, hj, rfl, hO⟩ := hI
  unfold SX12_says_s13_2
  refine Ok.ite (fun _ => Ok.ret ⟨hG, hO.up (by omega)⟩) (fun c1 => ?_)
  rw [(show (0 : Int32) = nI 0 from rfl), nI_leP (by omega) (by omega)] at c1
  obtain ⟨k, ek, hk⟩ := hO
  refine Ok.rd (fun v2 h2 => ?_)
  rw [ek] at h2
  subst h2
  refine Ok.ck (inb_n (by omega) (by omega)) (fun _ => Ok.ck (inb_n (by omega) (by omega)) (fun _ => ?_))
  refine Ok.wr (fun w ew => Ok.rd (fun v8 h8 => Ok.wr (fun x ex => ?_)))
  subst h8
  obtain ⟨gx, ox⟩ := say1 hG ek hk (by omega) ew ex
  exact Ok.ret ⟨0 - (j + 1), by omega, gx, j + 1, nI_1 j, by omega, rfl, ox⟩
theorem nX12_says_s14 {σ t : St} {m : Nat} (hG : GM σ t) (hO : OB m t) (hm : m + 1 ≤ 400) : Ok (FX12_says_s14 t) (fun _ u => GM σ u ∧ OB (m + 1) u) := by
  unfold FX12_says_s14
  refine Ok.bd (fun _ u => GM σ u ∧ OB (m + 1) u) ?_ (fun _ _ h => Ok.ret h)
  refine Ok.loop (fun k c u => GM σ u ∧ ∃ j, c = nI j ∧ j ≤ 1 ∧ k = 1 - j ∧ OB (m + j) u) ?_ 1 _ _ ⟨hG, 0, rfl, by omega, rfl, hO⟩
  clear hG hO
  intro k c u hI
  obtain ⟨hG, j, rfl, hj, rfl, hO⟩ := hI
  unfold SX12_says_s14_2
  refine Ok.ite (fun _ => Ok.ret ⟨hG, hO.up (by omega)⟩) (fun c1 => ?_)
  rw [(show (1 : Int32) = nI 1 from rfl), nI_leP (by omega) (by omega)] at c1
  obtain ⟨k, ek, hk⟩ := hO
  refine Ok.rd (fun v2 h2 => ?_)
  rw [ek] at h2
  subst h2
  refine Ok.ck (inb_n (by omega) (by omega)) (fun _ => Ok.ck (inb_n (by omega) (by omega)) (fun _ => ?_))
  refine Ok.wr (fun w ew => Ok.rd (fun v8 h8 => Ok.wr (fun x ex => ?_)))
  subst h8
  obtain ⟨gx, ox⟩ := say1 hG ek hk (by omega) ew ex
  exact Ok.ret ⟨1 - (j + 1), by omega, gx, j + 1, nI_1 j, by omega, rfl, ox⟩
theorem nX12_saysNumber {σ : St} : ∀ (d : Nat) {t : St} {m v : Nat}, GM σ t → OB m t → m + (d + 1) ≤ 400 → v < 10 ^ (d + 1) → v < 10000 → Ok (FX12_saysNumber (d + 1) (nI v) t) (fun _ u => GM σ u ∧ OB (m + (d + 1)) u) := by
  intro d
  induction d with
  | zero =>
    intro t m v hG hO hm hv hv2
    unfold FX12_saysNumber FX12_saysNumber_b
    refine Ok.bd (fun _ u => t = u) (Ok.ite (fun _ => Ok.ret rfl) (fun c => ?_)) ?_
    · rw [li_9, nI_leP (by omega) (by omega)] at c
      omega
    · rintro _ _ rfl
      obtain ⟨k, ek, hk⟩ := hO
      refine Ok.rd (fun v2 h2 => ?_)
      rw [ek] at h2
      subst h2
      refine Ok.ck (inb_n (by omega) (by omega)) (fun _ => ?_)
      refine Ok.wr (fun w ew => Ok.rd (fun v8 h8 => Ok.wr (fun x ex => ?_)))
      subst h8
      exact Ok.ret (say1 hG ek hk (by omega) ew ex)
  | succ d ih =>
    intro t m v hG hO hm hv hv2
    unfold FX12_saysNumber FX12_saysNumber_b
    refine Ok.bd (fun _ u => GM σ u ∧ OB (m + (d + 1)) u) (Ok.ite (fun _ => Ok.ret ⟨hG, hO.up (by omega)⟩) (fun c => ?_)) ?_
    · rw [li_10, nI_divN (by omega) (by omega) (by omega)]
      refine Ok.bd _ (ih hG hO (by omega) (Nat.div_lt_of_lt_mul (by rw [Nat.pow_succ, Nat.mul_comm] at hv; exact hv)) (by omega)) ?_
      rintro _ u h
      exact Ok.ret h
    · rintro _ u ⟨gu, ou⟩
      obtain ⟨k, ek, hk⟩ := ou
      refine Ok.rd (fun v2 h2 => ?_)
      rw [ek] at h2
      subst h2
      refine Ok.ck (inb_n (by omega) (by omega)) (fun _ => ?_)
      refine Ok.wr (fun w ew => Ok.rd (fun v8 h8 => Ok.wr (fun x ex => ?_)))
      subst h8
      exact Ok.ret (say1 (m := m + (d + 1)) gu ek hk (by omega) ew ex)
theorem sn4 {σ t : St} {m v : Nat} (hG : GM σ t) (hO : OB m t) (hm : m + 4 ≤ 400) (hv : v < 10000) : Ok (FX12_saysNumber 4 (nI v) t) (fun _ u => GM σ u ∧ OB (m + 4) u) := nX12_saysNumber 3 hG hO hm (by omega) hv
/-- a number of one digit -/
theorem sn1 {σ t : St} {m v : Nat} (hG : GM σ t) (hO : OB m t) (hm : m + 1 ≤ 400) (hv : v < 10) : Ok (FX12_saysNumber 4 (nI v) t) (fun _ u => GM σ u ∧ OB (m + 1) u) := by
  unfold FX12_saysNumber FX12_saysNumber_b
  refine Ok.bd (fun _ u => t = u) (Ok.ite (fun _ => Ok.ret rfl) (fun c => ?_)) ?_
  · rw [li_9, nI_leP (by omega) (by omega)] at c
    omega
  · rintro _ _ rfl
    obtain ⟨k, ek, hk⟩ := hO
    refine Ok.rd (fun v2 h2 => ?_)
    rw [ek] at h2
    subst h2
    refine Ok.ck (inb_n (by omega) (by omega)) (fun _ => ?_)
    refine Ok.wr (fun w ew => Ok.rd (fun v8 h8 => Ok.wr (fun x ex => ?_)))
    subst h8
    exact Ok.ret (say1 hG ek hk (by omega) ew ex)
def tri : Nat → Nat
  | 0 => 0
  | p + 1 => tri p + (8 - p)
theorem tri_le {p : Nat} (h : p < 9) : tri p + (8 - p) ≤ 36 := by
  rcases (show p = 0 ∨ p = 1 ∨ p = 2 ∨ p = 3 ∨ p = 4 ∨ p = 5 ∨ p = 6 ∨ p = 7 ∨ p = 8 by omega) with rfl | rfl | rfl | rfl | rfl | rfl | rfl | rfl | rfl <;> decide
theorem tri_9 {p : Nat} (h : p ≤ 9) : tri p ≤ 36 := by
  rcases (show p = 0 ∨ p = 1 ∨ p = 2 ∨ p = 3 ∨ p = 4 ∨ p = 5 ∨ p = 6 ∨ p = 7 ∨ p = 8 ∨ p = 9 by omega) with rfl | rfl | rfl | rfl | rfl | rfl | rfl | rfl | rfl | rfl <;> decide
/-- a line is told -/
theorem sayL {σ : St} {m s p q : Nat} {A : Option (Unit × St)} (hs : s < 3) (hp : p < 9) (hq : q < 9) (hm : m + 6 ≤ 400) (hA : Ok A (fun _ u => GM σ u ∧ OB (m + 1) u)) : Ok (bnd A (fun _ t28 => bnd (FX12_saysNumber 4 (nI p) t28) (fun _ t31 => bnd (FX12_says_s9 t31) (fun _ t34 => bnd (FX12_saysNumber 4 (nI q) t34) (fun _ t37 => bnd (FX12_weight (nI s) (nI p) (nI q) t37) (fun v39 t40 => bnd (if v39 ≤ (1 : Int32) then some ((), t40) else bnd (FX12_says_s10 t40) (fun _ t48 => bnd (FX12_weight (nI s) (nI p) (nI q) t48) (fun v50 t51 => bnd (FX12_saysNumber 4 v50 t51) (fun _ t54 => some ((), t54))))) (fun _ t44 => some ((1 : Int32), t44)))))))) (fun _ u => GM σ u ∧ OB (m + 6) u) := by
  refine Ok.bd _ hA ?_
  rintro _ t28 ⟨g1, o1⟩
  refine Ok.bd _ (sn1 g1 o1 (by omega) (by omega)) ?_
  rintro _ t31 ⟨g2, o2⟩
  refine Ok.bd _ (nX12_says_s9 g2 o2 (by omega)) ?_
  rintro _ t34 ⟨g3, o3⟩
  refine Ok.bd _ (sn1 g3 o3 (by omega) (by omega)) ?_
  rintro _ t37 ⟨g4, o4⟩
  refine Ok.bd _ (rX12_weight g4.tt ⟨s, hs, rfl⟩ ⟨p, hp, rfl⟩ ⟨q, hq, rfl⟩) ?_
  rintro v39 _ ⟨rfl, -⟩
  refine Ok.bd (fun _ u => GM σ u ∧ OB (m + 6) u) ?_ (fun _ _ h => Ok.ret h)
  refine Ok.ite (fun _ => Ok.ret ⟨g4, o4.up (by omega)⟩) (fun _ => ?_)
  refine Ok.bd _ (nX12_says_s10 g4 o4 (by omega)) ?_
  rintro _ t48 ⟨g5, o5⟩
  refine Ok.bd _ (rX12_weight g5.tt ⟨s, hs, rfl⟩ ⟨p, hp, rfl⟩ ⟨q, hq, rfl⟩) ?_
  rintro _ _ ⟨rfl, w, hw, rfl⟩
  refine Ok.bd _ (sn1 g5 o5 (by omega) hw) ?_
  rintro _ t54 ⟨g6, o6⟩
  exact Ok.ret ⟨g6, o6.up (by omega)⟩
theorem nX12_saysNet {σ t : St} (hG : GM σ t) (hO : OB 0 t) {s : Nat} (hs : s < 3) : Ok (FX12_saysNet (nI s) t) (fun _ u => GM σ u) := by
  unfold FX12_saysNet
  refine Ok.bd _ (nX12_says_s6 hG hO (by omega)) ?_
  rintro _ t2 ⟨g2, o2⟩
  refine Ok.bd _ (rX12_points g2.tt ⟨s, hs, rfl⟩) ?_
  rintro _ _ ⟨rfl, n, hn, rfl⟩
  refine Ok.bd _ (sn1 g2 o2 (by omega) hn) ?_
  rintro _ t8 ⟨g8, o8⟩
  refine Ok.bd (fun _ u => GM σ u ∧ OB 221 u) ?_ ?_
  · refine Ok.loop (fun k c u => GM σ u ∧ ∃ p, c.2 = nI p ∧ p ≤ 9 ∧ k = 9 - p ∧ OB (5 + 6 * tri p) u) ?_ 9 _ _ ⟨g8, 0, rfl, by omega, rfl, o8.up (by omega)⟩
    clear g8 o8
    intro k c u hI
    obtain ⟨gu, p, ep, hp, rfl, ou⟩ := hI
    obtain ⟨c0, c1⟩ := c
    dsimp only at ep
    subst ep
    unfold SX12_saysNet_20
    dsimp only
    refine Ok.bd _ (rX12_points gu.tt ⟨s, hs, rfl⟩) ?_
    rintro _ _ ⟨rfl, n, hn, rfl⟩
    have t9 := tri_9 hp
    refine Ok.ite (fun _ => Ok.ret ⟨gu, ou.up (by omega)⟩) (fun c1 => ?_)
    rw [nI_leP (by omega) (by omega)] at c1
    have tl := tri_le (p := p) (by omega)
    refine Ok.bd (fun _ u => GM σ u ∧ OB (5 + 6 * tri (p + 1)) u) ?_ (fun _ w h => Ok.ret ⟨9 - (p + 1), by omega, h.1, p + 1, nI_1 p, by omega, rfl, h.2⟩)
    refine Ok.loop (fun k c w => GM σ w ∧ ∃ q, c.2 = nI q ∧ p + 1 ≤ q ∧ q ≤ 9 ∧ k = 9 - q ∧ OB (5 + 6 * (tri p + (q - (p + 1)))) w) ?_ (9 - (p + 1)) _ _ ⟨gu, p + 1, nI_1 p, by omega, by omega, rfl, by rw [Nat.sub_self]; exact ou⟩
    clear gu ou
    intro k c w hI
    obtain ⟨gw, q, eq, hpq, hq, rfl, ow⟩ := hI
    obtain ⟨d0, d1⟩ := c
    dsimp only at eq
    subst eq
    unfold SX12_saysNet_34
    dsimp only
    refine Ok.bd _ (rX12_points gw.tt ⟨s, hs, rfl⟩) ?_
    rintro _ _ ⟨rfl, n, hn, rfl⟩
    refine Ok.ite (fun _ => Ok.ret ⟨gw, ow.up (by show _ ≤ 5 + 6 * (tri p + (8 - p)); omega)⟩) (fun c2 => ?_)
    rw [nI_leP (by omega) (by omega)] at c2
    refine Ok.bd _ (rX12_weight gw.tt ⟨s, hs, rfl⟩ ⟨p, by omega, rfl⟩ ⟨q, by omega, rfl⟩) ?_
    rintro v18 _ ⟨rfl, -⟩
    refine Ok.bd (fun _ u => GM σ u ∧ OB (5 + 6 * (tri p + (q - (p + 1))) + 6) u) ?_ (fun _ x h => Ok.ret ⟨9 - (q + 1), by omega, h.1, q + 1, nI_1 q, by omega, by omega, rfl, h.2.up (by omega)⟩)
    refine Ok.ite (fun _ => Ok.ret ⟨gw, ow.up (by omega)⟩) (fun _ => Ok.ite (fun _ => ?_) (fun _ => ?_))
    · exact sayL hs (by omega) (by omega) (by omega) (nX12_says_s8 gw ow (by omega))
    · exact sayL hs (by omega) (by omega) (by omega) (nX12_says_s7 gw ow (by omega))
  rintro _ t90 ⟨g90, o90⟩
  refine Ok.bd _ (nX12_says_s11 g90 o90 (by omega)) ?_
  rintro _ t94 ⟨g94, o94⟩
  refine Ok.bd (fun _ u => GM σ u ∧ OB 240 u) ?_ ?_
  · refine Ok.loop (fun k c u => GM σ u ∧ ∃ j, c = nI j ∧ j ≤ 9 ∧ k = 9 - j ∧ OB (230 + j) u) ?_ 9 _ _ ⟨g94, 0, rfl, by omega, rfl, o94.up (by omega)⟩
    clear g94 o94
    intro k c u hI
    obtain ⟨gu, j, rfl, hj, rfl, ou⟩ := hI
    unfold SX12_saysNet_147
    refine Ok.bd _ (rX12_points gu.tt ⟨s, hs, rfl⟩) ?_
    rintro _ _ ⟨rfl, n, hn, rfl⟩
    refine Ok.ite (fun _ => Ok.ret ⟨gu, ou.up (by omega)⟩) (fun c1 => ?_)
    rw [nI_leP (by omega) (by omega)] at c1
    refine Ok.bd _ (rX12_at gu.tt ⟨s, hs, rfl⟩ ⟨j, by omega, rfl⟩) ?_
    rintro _ _ ⟨rfl, v, hv, rfl⟩
    refine Ok.bd _ (sn1 gu ou (by omega) (by omega)) ?_
    rintro _ w ⟨gw, ow⟩
    exact Ok.ret ⟨9 - (j + 1), by omega, gw, j + 1, nI_1 j, by omega, rfl, ow.up (by omega)⟩
  rintro _ t107 ⟨g107, o107⟩
  refine Ok.bd _ (nX12_says_s12 g107 o107 (by omega)) ?_
  rintro _ u ⟨gu, -⟩
  exact Ok.ret gu
theorem nX12_tell {σ t : St} (hG : GM σ t) {a b : Int32} : Ok (FX12_tell a b t) (fun r u => GM σ u ∧ True) := by
  unfold FX12_tell
  refine Ok.bd _ (rX12_isNet hG.tt) ?_
  rintro v _ ⟨rfl, -, hv⟩
  refine Ok.ite (fun _ => Ok.ret ⟨hG, True.intro⟩) (fun c => ?_)
  obtain ⟨⟨s, hs, rfl⟩, -⟩ := hv.resolve_left c
  refine Ok.bd _ (rX12_in hG.tt) ?_
  rintro v6 _ ⟨rfl, -, -⟩
  refine Ok.ite (fun _ => Ok.ret ⟨hG, True.intro⟩) (fun _ => ?_)
  refine Ok.wr (fun t10 e10 => ?_)
  have g10 := hG.wrT e10 (by omega) ty_m25 ⟨0, by omega, rfl⟩
  have o10 : OB 0 t10 := ⟨0, ws e10, by omega⟩
  refine Ok.ite (fun _ => ?_) (fun _ => ?_)
  · refine Ok.bd _ (nX12_saysNet g10 o10 hs) ?_
    rintro _ u gu
    exact Ok.rd (fun v _ => Ok.ret ⟨gu, True.intro⟩)
  · refine Ok.bd (fun _ u => GM σ u) ?_ (fun _ u gu => Ok.rd (fun v _ => Ok.ret ⟨gu, True.intro⟩))
    refine Ok.loop (fun k c u => GM σ u ∧ ∃ j, c = nI j ∧ 1 ≤ j ∧ j ≤ 9 ∧ k = 9 - j ∧ OB (5 * j) u) ?_ 8 _ _ ⟨g10, 1, rfl, by omega, by omega, rfl, o10.up (by omega)⟩
    clear g10 o10 e10 hG
    intro k c u hI
    obtain ⟨gu, j, rfl, h1, hj, rfl, ou⟩ := hI
    unfold SX12_tell_42
    refine Ok.bd _ (rX12_points gu.tt ⟨s, hs, rfl⟩) ?_
    rintro _ _ ⟨rfl, n, hn, rfl⟩
    refine Ok.ite (fun _ => Ok.ret gu) (fun c1 => ?_)
    rw [nI_leP (by omega) (by omega)] at c1
    refine Ok.ite (fun _ => ?_) (fun _ => ?_)
    · refine Ok.bd _ (nX12_says_s13 gu ou (by omega)) ?_
      rintro _ w ⟨gw, ow⟩
      refine Ok.bd _ (bX12_priceOf gw.tt ⟨s, hs, rfl⟩ h1 (by omega)) ?_
      rintro _ _ ⟨rfl, v, hv, rfl⟩
      refine Ok.bd _ (sn4 gw ow (by omega) hv) ?_
      rintro _ x ⟨gx, ox⟩
      exact Ok.ret ⟨9 - (j + 1), by omega, gx, j + 1, nI_1 j, by omega, by omega, rfl, ox.up (by omega)⟩
    · refine Ok.bd _ (nX12_says_s14 gu ou (by omega)) ?_
      rintro _ w ⟨gw, ow⟩
      refine Ok.bd _ (bX12_priceOf gw.tt ⟨s, hs, rfl⟩ h1 (by omega)) ?_
      rintro _ _ ⟨rfl, v, hv, rfl⟩
      refine Ok.bd _ (sn4 gw ow (by omega) hv) ?_
      rintro _ x ⟨gx, ox⟩
      exact Ok.ret ⟨9 - (j + 1), by omega, gx, j + 1, nI_1 j, by omega, by omega, rfl, ox.up (by omega)⟩
theorem nX12_end {σ t : St} (hG : GM σ t) {a : Int32} : Ok (FX12_end a t) (fun r u => (r = -1 ∧ t = u ∧ ¬ (0 ≤ a.toInt ∧ a.toInt ≤ (t 149 5).toInt)) ∨ (r = a ∧ (0 ≤ a.toInt ∧ a.toInt ≤ (t 149 5).toInt) ∧ GM (wr σ 149 5 a) u)) := by
  unfold FX12_end
  refine Ok.rd (fun v1 h1 => ?_)
  subst h1
  refine Ok.bd _ xX12_in ?_
  simp only [Int32.toInt_toInt64, show (0 : Int64).toInt = 0 from by decide]
  rintro v _ ⟨rfl, hv⟩
  refine Ok.ite (fun c => Ok.ret (Or.inl ⟨rfl, rfl, (hv.resolve_left (fun h => absurd (h.1.symm.trans c) (by decide))).2⟩)) (fun c => ?_)
  have h := (hv.resolve_right (fun h => c h.1)).2
  refine Ok.wr (fun x ex => Ok.ret (Or.inr ⟨rfl, h, hG.tap ex ?_⟩))
  obtain ⟨n, hn, en⟩ := hG.tt.rd ty_m5 (by omega)
  rw [en, nI_toInt (by omega)] at h
  have h0 : ¬ a < 0 := fun q => by
    rw [Int32.lt_iff_toInt_lt, show (0 : Int32).toInt = 0 from by decide] at q
    omega
  obtain ⟨j, hj, rfl⟩ := nI_of h0
  rw [nI_toInt hj] at h
  exact ⟨j, by omega, rfl⟩
end
section
/-! the reference: rows of which no ends are farther apart (wip/ext/g39.py) -/
theorem sub_le {i m k : Nat} (hi : i < 1000) (hm : m < 1000) (hk : k < 1000) : (nI i - nI m ≤ nI k) ↔ i ≤ m + k := by
  rw [Int32.le_iff_toInt_le, Int32.toInt_sub, nI_toInt (by omega), nI_toInt (by omega), nI_toInt (by omega)]
  simp only [Int.bmod]
  omega
theorem inv_row {S n i : Nat} {f : Nat → Int32} (hc : cnt S n = i) (hin : i = n) (h : ∀ p, S.testBit p = true → ∃ k, k < i ∧ f k = nI p) : PM n f := fun p hp => by
  obtain ⟨k, hk, e⟩ := h p (cnt_full (hc.trans hin) p hp)
  exact ⟨k, by omega, e⟩
/-- what a search for rows leaves -/
def BQ (σ t : St) (n i m : Nat) (e r : Int32) (u : St) : Prop := GM σ u ∧ u 150 = t 150 ∧ (∀ k, k < i → u 154 k = t 154 k) ∧ isb r = true ∧ (e = 1 → t 149 18 = 0 → ((r = 1 ∧ ¬ u 149 18 = 0 ∧ PM n (u 158)) ∨ (r = 0 ∧ u 149 18 = 0 ∧ m < n)))
theorem nX12_goesBand {σ : St} {s n m : Nat} {e : Int32} (hs : s < 3) (hn : n < 10) (hm : m < 100) (he : isb e = true) : ∀ (d : Nat) {t : St} {i S : Nat}, GM σ t → t 150 (91 * s) = nI n → i ≤ n → n - i < d → S < 512 → cnt S n = i → (∀ p, S.testBit p = true → ∃ k, k < i ∧ t 154 k = nI p) → Ok (FX12_goesBand d (nI s) (nI i) (nI S) (nI m) e t) (fun r u => BQ σ t n i m e r u) := by
  intro d
  induction d with
  | zero => intro t i S hG en hi hd; omega
  | succ d ih =>
    intro t i S hG en hi hd hS hc hrow
    unfold FX12_goesBand FX12_goesBand_b
    refine Ok.bd _ (xX12_points hG.tt hs) ?_
    rintro _ _ ⟨rfl, rfl⟩
    rw [en]
    refine Ok.ite (fun c => ?_) (fun c => ?_)
    · have hin := nI_inj c (by omega) (by omega)
      have hP := inv_row hc hin hrow
      refine Ok.rd (fun v49 h49 => ?_)
      refine Ok.bd (fun _ u => GM σ u ∧ u 150 = t 150 ∧ u 154 = t 154 ∧ u 149 = t 149 ∧ (t 149 18 = 0 → PM n (u 158))) ?_ ?_
      · refine Ok.ite (fun c0 => ?_) (fun c0 => Ok.ret ⟨hG, rfl, rfl, rfl, fun q => absurd (h49.trans q) c0⟩)
        refine Ok.bd (fun _ u => GM σ u ∧ u 150 = t 150 ∧ u 154 = t 154 ∧ u 149 = t 149 ∧ (t 149 18 = 0 → PM n (u 158))) ?_ (fun _ _ h => Ok.ret h)
        refine Ok.loop (fun k c u => (GM σ u ∧ u 150 = t 150 ∧ u 154 = t 154 ∧ u 149 = t 149) ∧ ∃ j, c = nI j ∧ j ≤ n ∧ k = n - j ∧ ∀ q, q < j → u 158 q = t 154 q) ?_ n _ _ ⟨⟨hG, rfl, rfl, rfl⟩, 0, rfl, by omega, rfl, fun q hq => absurd hq (by omega)⟩
        intro k c u hI
        obtain ⟨⟨gu, u0, u4, u9⟩, j, rfl, hj, rfl, hq⟩ := hI
        unfold SX12_goesBand_19
        refine Ok.ite (fun c1 => Ok.ret ⟨gu, u0, u4, u9, fun _ p hp => ?_⟩) (fun c1 => ?_)
        · rw [nI_leP (by omega) (by omega)] at c1
          obtain ⟨k, hk, e⟩ := hP p hp
          exact ⟨k, hk, by rw [hq k (by omega)]; exact e⟩
        · rw [nI_leP (by omega) (by omega)] at c1
          refine Ok.ck (inb_n (by omega) (by omega)) (fun _ => Ok.rd (fun v hv => ?_))
          rw [nI_cl (by omega), u4] at hv
          refine Ok.ck (inb_n (by omega) (by omega)) (fun _ => Ok.wr (fun w ew => ?_))
          rw [nI_cl (by omega)] at ew
          refine Ok.ret ⟨n - (j + 1), by omega, ⟨gu.wrT ew (by omega) (ty_a158 (by omega)) ?_, by rw [wo ew (by decide)]; exact u0, by rw [wo ew (by decide)]; exact u4, by rw [wo ew (by decide)]; exact u9⟩, j + 1, nI_1 j, by omega, rfl, fun q hq' => ?_⟩
          · rw [hv]
            exact hG.tt.rd (ty_a154 (by omega)) (by omega)
          · rw [ew, wr_at]
            by_cases e : q = j
            · rw [e, pk_us, hv]
            · rw [pk_un e]
              exact hq q (by omega)
      · rintro _ u ⟨gu, u0, u4, u9, hPu⟩
        refine Ok.rd (fun v56 h56 => Ok.wr (fun x ex => Ok.rd (fun v60 h60 => ?_)))
        refine Ok.ck (by decide) (fun _ => Ok.rd (fun v63 h63 => Ok.wr (fun y ey => ?_)))
        have gx := gu.wrU ex (by omega) (by decide +kernel)
        have gy := gx.wrU ey (by omega) (by decide +kernel)
        refine Ok.ck he (fun _ => Ok.ret ⟨gy, by rw [wo ey (by decide), wo ex (by decide)]; exact u0, fun k _ => by rw [wo ey (by decide), wo ex (by decide), u4], he, fun e1 z => Or.inl ⟨e1, ?_, ?_⟩⟩)
        · rw [wm ey (by decide), ws ex, h56, u9, z]
          decide
        · rw [wo ey (by decide), wo ex (by decide)]
          exact hPu z
    · have hlt : i < n := by
        rcases Nat.lt_or_ge i n with q | q
        · exact q
        · exact absurd (by rw [show i = n by omega]) c
      refine Ok.bd (fun x u => Sum.elim (fun r => BQ σ t n i m e r u) (fun _ => BQ σ t n i m e 0 u) x) ?_ ?_
      rotate_left
      · rintro (x | x) u h
        · exact Ok.ret h
        · exact Ok.ret h
      refine Ok.loop (fun k c u => (GM σ u ∧ u 150 = t 150 ∧ ∀ k, k < i → u 154 k = t 154 k) ∧ ∃ p, c = nI p ∧ p ≤ n ∧ k = n - p ∧ (e = 1 → t 149 18 = 0 → u 149 18 = 0 ∧ (m < n ∨ ∀ q, q < p → S.testBit q = true))) ?_ n _ _ ⟨⟨hG, rfl, fun _ _ => rfl⟩, 0, rfl, by omega, rfl, fun _ z => ⟨z, Or.inr (fun q hq => absurd hq (by omega))⟩⟩
      intro k c u hI
      obtain ⟨⟨gu, u0, u4⟩, p, rfl, hp, rfl, hz⟩ := hI
      have eu : u 150 (91 * s) = nI n := by rw [u0]; exact en
      unfold SX12_goesBand_78
      refine Ok.bd _ (xX12_points gu.tt hs) ?_
      rintro _ _ ⟨rfl, rfl⟩
      rw [eu]
      refine Ok.ite (fun c1 => Ok.ret ⟨gu, u0, u4, rfl, fun e1 z => Or.inr ?_⟩) (fun c1 => ?_)
      · rw [nI_leP (by omega) (by omega)] at c1
        obtain ⟨z1, z2⟩ := hz e1 z
        refine ⟨rfl, z1, z2.resolve_right (fun h => ?_)⟩
        have := cnt_all (S := S) (n := n) (fun q hq => h q (by omega))
        omega
      rw [nI_leP (by omega) (by omega)] at c1
      refine Ok.bd _ (xX12_has (by omega) (by omega)) ?_
      rintro _ _ ⟨rfl, rfl⟩
      refine Ok.bd (fun v w => u = w ∧ ((v = 1 ∧ S.testBit p = false) ∨ (v = 0 ∧ S.testBit p = true))) ?_ ?_
      · cases hb : S.testBit p
        · exact Ok.ite (fun _ => Ok.ret ⟨rfl, Or.inl ⟨rfl, rfl⟩⟩) (fun c => absurd rfl c)
        · exact Ok.ite (fun c => absurd c (by decide)) (fun _ => Ok.ret ⟨rfl, Or.inr ⟨rfl, rfl⟩⟩)
      rintro v13 _ ⟨rfl, h13⟩
      refine Ok.bd (fun v w => u = w ∧ (v = 0 ∨ S.testBit p = false) ∧ (i ≤ m → v = v13)) ?_ ?_
      · refine Ok.loop (fun k c w => u = w ∧ (c.1 = 0 ∨ S.testBit p = false) ∧ (i ≤ m → c.1 = v13) ∧ ∃ j, c.2 = nI j ∧ j ≤ 9 ∧ k = 9 - j) ?_ 9 _ _ ⟨rfl, ?_, fun _ => rfl, 0, rfl, by omega, rfl⟩
        · intro k c w hI
          obtain ⟨rfl, g1, g2, j, ej, hj, rfl⟩ := hI
          obtain ⟨c0, c9⟩ := c
          dsimp only at ej g1 g2
          subst ej
          unfold SX12_goesBand_107
          dsimp only
          refine Ok.ite (fun _ => Ok.ret ⟨rfl, g1, g2⟩) (fun c2 => Ok.ite (fun _ => Ok.ret ⟨rfl, g1, g2⟩) (fun c3 => ?_))
          rw [sub_le (by omega) (by omega) (by omega)] at c2
          refine Ok.ck (inb_n (by omega) (by omega)) (fun _ => Ok.rdT gu.tt (ty_a154 (by rw [nI_cl (by omega)]; omega)) (by omega) (fun q hq eq => ?_))
          refine Ok.bd _ (rX12_weight gu.tt ⟨s, hs, rfl⟩ ⟨q, hq, rfl⟩ ⟨p, by omega, rfl⟩) ?_
          rintro v22 _ ⟨rfl, -⟩
          refine Ok.bd (fun v w => u = w) (Ok.ite (fun _ => Ok.ret rfl) (fun _ => Ok.ret rfl)) ?_
          rintro v26 _ rfl
          exact Ok.ret ⟨9 - (j + 1), by omega, rfl, Or.inr (g1.resolve_left c3), fun q => absurd q (by omega), j + 1, nI_1 j, by omega, rfl⟩
        · exact h13.elim (fun h => Or.inr h.2) (fun h => Or.inl h.1)
      rintro e30 _ ⟨rfl, g1, g2⟩
      refine Ok.ite (fun c2 => ?_) (fun c2 => ?_)
      · refine Ok.ret ⟨n - (p + 1), by omega, ⟨gu, u0, u4⟩, p + 1, nI_1 p, by omega, rfl, fun e1 z => ?_⟩
        obtain ⟨z1, z2⟩ := hz e1 z
        refine ⟨z1, ?_⟩
        by_cases q : m < n
        · exact Or.inl q
        · refine Or.inr (fun r hr => ?_)
          by_cases er : r = p
          · subst er
            refine (h13.resolve_left (fun h => ?_)).2
            exact absurd ((g2 (by omega)).symm.trans c2) (by rw [h.1]; decide)
          · exact (z2.resolve_left q) r (by omega)
      · have hb := g1.resolve_left c2
        refine Ok.ck (inb_n (by omega) (by omega)) (fun _ => Ok.wr (fun w ew => ?_))
        rw [nI_cl (by omega)] at ew
        have gw := gu.wrT ew (by omega) (ty_a154 (by omega)) ⟨p, by omega, rfl⟩
        have w0 : w 150 = t 150 := by rw [wo ew (by decide)]; exact u0
        have w4 : ∀ k, k < i → w 154 k = t 154 k := fun k hk => by
          rw [ew, wr_at, pk_un (by omega)]
          exact u4 k hk
        have w9 : w 149 = u 149 := wo ew (by decide)
        have e1 : nI i + 1 = nI (i + 1) := nI_1 i
        have e2 : nI S ||| shl 1 (nI p) = nI (S ||| 2 ^ p) := by rw [shl_1 (by omega), nI_or]
        rw [e1, e2]
        refine Ok.bd _ (ih (i := i + 1) (S := S ||| 2 ^ p) gw (by rw [w0]; exact en) (by omega) (by omega) (or9 hS (pw9 (by omega))) (by rw [cnt_or hb, if_pos (by omega), hc]) (fun q hq => ?_)) ?_
        · rw [Nat.testBit_or, Nat.testBit_two_pow] at hq
          by_cases e : p = q
          · exact ⟨i, by omega, by rw [ew, wr_at, pk_us, e]⟩
          · have hq' : S.testBit q = true := by simpa [e] using hq
            obtain ⟨k, hk, h⟩ := hrow q hq'
            exact ⟨k, by omega, by rw [w4 k hk]; exact h⟩
        · rintro v38 x ⟨gx, x0, x4, hb38, hx⟩
          have x0' : x 150 = t 150 := x0.trans w0
          have x4' : ∀ k, k < i → x 154 k = t 154 k := fun k hk => (x4 k (by omega)).trans (w4 k hk)
          refine Ok.ite (fun c3 => ?_) (fun c3 => ?_)
          · refine Ok.ret ⟨n - (p + 1), by omega, ⟨gx, x0', x4'⟩, p + 1, nI_1 p, by omega, rfl, fun q z => ?_⟩
            obtain ⟨z1, z2⟩ := hz q z
            obtain ⟨-, y2, y3⟩ := (hx q (by rw [w9]; exact z1)).resolve_left (fun h => absurd (h.1.symm.trans c3) (by decide))
            exact ⟨y2, Or.inl y3⟩
          · refine Ok.ret ⟨gx, x0', x4', rfl, fun q z => ?_⟩
            obtain ⟨z1, z2⟩ := hz q z
            exact Or.inl ⟨rfl, ((hx q (by rw [w9]; exact z1)).resolve_right (fun h => c3 h.1)).2⟩
theorem nX12_rowsOfBand {σ t : St} {s n m : Nat} {e : Int32} (hG : GM σ t) (en : t 150 (91 * s) = nI n) (hs : s < 3) (hn : n < 10) (hm : m < 100) (he : isb e = true) : Ok (FX12_rowsOfBand (nI s) (nI m) e t) (fun r u => GM σ u ∧ u 150 = t 150 ∧ (e = 1 → (r = 0 ∧ m < n) ∨ (¬ r = 0 ∧ PM n (u 158)))) := by
  unfold FX12_rowsOfBand
  refine Ok.wr (fun t1 e1 => Ok.wr (fun t3 e3 => ?_))
  have g1 := hG.wrU e1 (by omega) (by decide +kernel)
  have g3 := g1.wrU e3 (by omega) (by decide +kernel)
  have h0 : t3 150 = t 150 := by rw [wo e3 (by decide), wo e1 (by decide)]
  have z : t3 149 18 = 0 := by rw [wm e3 (by decide)]; exact ws e1
  refine Ok.bd _ (nX12_goesBand hs hn hm he 11 (i := 0) (S := 0) g3 (by rw [h0]; exact en) (by omega) (by omega) (by omega) (cnt_0 n) (fun p hp => by simp at hp)) ?_
  rintro v5 u ⟨gu, u0, -, -, hx⟩
  refine Ok.rd (fun v8 h8 => Ok.ret ⟨gu, u0.trans h0, fun q => ?_⟩)
  subst h8
  rcases hx q z with ⟨-, a, b⟩ | ⟨-, a, b⟩
  · exact Or.inr ⟨a, b⟩
  · exact Or.inl ⟨a, b⟩
theorem nX12_leastBand {σ t : St} {s n : Nat} (hG : GM σ t) (en : t 150 (91 * s) = nI n) (hs : s < 3) (hn : n < 10) : Ok (FX12_leastBand (nI s) t) (fun r u => GM σ u ∧ u 150 = t 150 ∧ PM n (u 158) ∧ ∃ v, v ≤ n ∧ r = nI v) := by
  unfold FX12_leastBand
  refine Ok.bd (fun r u => GM σ u ∧ u 150 = t 150 ∧ PM n (u 158) ∧ ∃ v, v ≤ n ∧ r = nI v) ?_ (fun _ _ h => Ok.ret h)
  refine Ok.loop (fun k c u => GM σ u ∧ u 150 = t 150 ∧ ∃ v, c = nI v ∧ v ≤ n ∧ k = n - v) ?_ n _ _ ⟨hG, rfl, 0, rfl, by omega, rfl⟩
  intro k c u hI
  obtain ⟨gu, u0, v, rfl, hv, rfl⟩ := hI
  unfold SX12_leastBand_2
  refine Ok.bd _ (nX12_rowsOfBand (m := v) (e := 1) gu (by rw [u0]; exact en) hs hn (by omega) rfl) ?_
  rintro v1 w ⟨gw, w0, hx⟩
  have w0' := w0.trans u0
  refine Ok.ite (fun c1 => ?_) (fun c1 => ?_)
  · have := (hx rfl).resolve_right (fun h => h.1 c1)
    exact Ok.ret ⟨n - (v + 1), by omega, gw, w0', v + 1, nI_1 v, by omega, rfl⟩
  · exact Ok.ret ⟨gw, w0', ((hx rfl).resolve_left (fun h => c1 h.1)).2, v, hv, rfl⟩
end
section
/-! the reference: what is left to pay, set by set (wip/ext/g40.py) -/
def bo (m a b : Int32) : Int32 := if m = 0 ∨ m = 1 ∨ m = 5 then mxI a b else a + b
theorem xX12_isGreatest {t : St} {m : Int32} : Ok (FX12_isGreatest m t) (fun r u => t = u ∧ ((r = 1 ∧ (m = 0 ∨ m = 1 ∨ m = 5)) ∨ (r = 0 ∧ ¬ (m = 0 ∨ m = 1 ∨ m = 5)))) := by
  unfold FX12_isGreatest
  by_cases h0 : m = 0
  · subst h0
    exact Ok.ret ⟨rfl, Or.inl ⟨rfl, Or.inl rfl⟩⟩
  by_cases h1 : m = 1
  · subst h1
    exact Ok.ret ⟨rfl, Or.inl ⟨rfl, Or.inr (Or.inl rfl)⟩⟩
  by_cases h5 : m = 5
  · subst h5
    exact Ok.ret ⟨rfl, Or.inl ⟨rfl, Or.inr (Or.inr rfl)⟩⟩
  have hn : ¬ (m = 0 ∨ m = 1 ∨ m = 5) := by
    rintro (h | h | h)
    · exact h0 h
    · exact h1 h
    · exact h5 h
  rw [if_neg h0, if_neg h1, if_neg h5]
  exact Ok.ret ⟨rfl, Or.inr ⟨rfl, hn⟩⟩
theorem xX12_both {t : St} {m a b : Int32} : Ok (FX12_both m a b t) (fun r u => t = u ∧ r = bo m a b) := by
  unfold FX12_both
  refine Ok.bd _ xX12_isGreatest ?_
  rintro v _ ⟨rfl, ⟨rfl, h⟩ | ⟨rfl, h⟩⟩
  · refine Ok.ite (fun c => absurd c (by decide)) (fun _ => Ok.ret ⟨rfl, ?_⟩)
    unfold bo
    rw [if_pos h]
  · refine Ok.ite (fun _ => Ok.ret ⟨rfl, ?_⟩) (fun c => absurd rfl c)
    unfold bo
    rw [if_neg h]
theorem mx_int (a b : Int32) : (mxI a b).toInt = max a.toInt b.toInt := by
  show (if a < b then b else a).toInt = _
  by_cases h : a < b
  · rw [if_pos h]
    rw [Int32.lt_iff_toInt_lt] at h
    omega
  · rw [if_neg h]
    rw [Int32.lt_iff_toInt_lt] at h
    omega
theorem bo_assoc (m a b c : Int32) : bo m (bo m a b) c = bo m a (bo m b c) := by
  unfold bo
  by_cases h : m = 0 ∨ m = 1 ∨ m = 5
  · simp only [if_pos h]
    apply Int32.toInt_inj.mp
    rw [mx_int, mx_int, mx_int, mx_int]
    omega
  · simp only [if_neg h]
    exact Int32.add_assoc a b c
theorem bo_n {m : Int32} {a b : Nat} (ha : a < 1000000) (hb : b < 1000000) : ∃ r, r ≤ a + b ∧ bo m (nI a) (nI b) = nI r := by
  unfold bo
  by_cases h : m = 0 ∨ m = 1 ∨ m = 5
  · rw [if_pos h]
    show ∃ r, r ≤ a + b ∧ (if nI a < nI b then nI b else nI a) = nI r
    by_cases q : nI a < nI b
    · exact ⟨b, by omega, if_pos q⟩
    · exact ⟨a, by omega, if_neg q⟩
  · rw [if_neg h]
    exact ⟨a + b, by omega, nI_add a b⟩
theorem or_gt {S p : Nat} (h : S.testBit p = false) : S < S ||| 2 ^ p := by
  have h1 : S ≤ S ||| 2 ^ p := Nat.left_le_or
  have h2 : S ≠ S ||| 2 ^ p := fun e => by
    have := congrArg (fun x => x.testBit p) e
    simp only [Nat.testBit_or, Nat.testBit_two_pow, h] at this
    simp at this
  omega
theorem or_ltn {S p n : Nat} (hS : S < 2 ^ n) (hp : p < n) : S ||| 2 ^ p < 2 ^ n := Nat.or_lt_two_pow hS (Nat.pow_lt_pow_right (by omega) hp)
theorem all_full {S n : Nat} (hS : S < 2 ^ n) (h : ∀ q, q < n → S.testBit q = true) : S = 2 ^ n - 1 := by
  apply Nat.eq_of_testBit_eq
  intro i
  rw [Nat.testBit_two_pow_sub_one]
  by_cases q : i < n
  · rw [h i q]
    simp [q]
  · rw [Nat.testBit_lt_two_pow (Nat.lt_of_lt_of_le hS (Nat.pow_le_pow_right (by omega) (show n ≤ i by omega)))]
    simp [q]
theorem cnt_lt {S p n : Nat} (hp : p < n) (h : S.testBit p = false) : cnt S n < n := by
  rcases Nat.lt_or_ge (cnt S n) n with q | q
  · exact q
  · have := cnt_full (S := S) (n := n) (by have := cnt_le (S := S) (n := n); omega) p hp
    rw [h] at this
    exact absurd this (by decide)
def HC (n : Nat) (t : St) : Prop := ∀ S p, S < 2 ^ n → p < n → S.testBit p = false → ∃ c, c < 10000 ∧ t 157 (9 * S + p) = nI c
theorem idx9 (S p : Nat) : (9 : Int32) * nI S + nI p = nI (9 * S + p) := by rw [li_9, nI_mul, nI_add]
theorem nX12_laysCosts {σ t : St} {s n : Nat} {m : Int32} (hG : GM σ t) (en : t 150 (91 * s) = nI n) (hs : s < 3) (hn : n < 10) : Ok (FX12_laysCosts (nI s) m t) (fun _ u => GM σ u ∧ u 150 = t 150 ∧ u 149 17 = nI (2 ^ n - 1) ∧ HC n u) := by
  unfold FX12_laysCosts
  have hN := pow9 (k := n) (by omega)
  have hN0 := Nat.two_pow_pos n
  refine Ok.bd _ (xX12_points hG.tt hs) ?_
  rintro _ _ ⟨rfl, rfl⟩
  rw [en]
  have ef : shl 1 (nI n) - 1 = nI (2 ^ n - 1) := by rw [shl_1 (by omega), li_1, nI_sub (by omega)]
  rw [ef]
  refine Ok.wr (fun t4 e4 => ?_)
  have g4 := hG.wrT e4 (by omega) ty_m17 ⟨2 ^ n - 1, by omega, rfl⟩
  have z4 : t4 150 = t 150 := wo e4 (by decide)
  have y4 : t4 149 17 = nI (2 ^ n - 1) := ws e4
  refine Ok.bd (fun _ u => GM σ u ∧ u 150 = t 150 ∧ u 149 17 = nI (2 ^ n - 1) ∧ HC n u) ?_ (fun _ _ h => Ok.ret h)
  refine Ok.loop (fun k c u => (GM σ u ∧ u 150 = t 150 ∧ u 149 17 = nI (2 ^ n - 1)) ∧ ∃ S, c = nI S ∧ S ≤ 2 ^ n ∧ k = 2 ^ n - S ∧ ∀ S' p, S' < S → p < n → S'.testBit p = false → ∃ c, c < 10000 ∧ u 157 (9 * S' + p) = nI c) ?_ (2 ^ n) _ _ ⟨⟨g4, z4, y4⟩, 0, rfl, by omega, rfl, fun _ _ h => absurd h (by omega)⟩
  clear g4 z4 y4 e4 t4 hG
  intro k c u hI
  obtain ⟨⟨gu, u0, u7⟩, S, rfl, hS, rfl, hH⟩ := hI
  unfold SX12_laysCosts_15
  refine Ok.rd (fun v6 h6 => ?_)
  rw [u7] at h6
  subst h6
  refine Ok.ite (fun c1 => Ok.ret ⟨gu, u0, u7, ?_⟩) (fun c1 => ?_)
  · rw [nI_ltP (by omega) (by omega)] at c1
    intro S' p h1 h2 h3
    exact hH S' p (by omega) h2 h3
  rw [nI_ltP (by omega) (by omega)] at c1
  refine Ok.bd (fun _ w => (GM σ w ∧ w 150 = t 150 ∧ w 149 17 = nI (2 ^ n - 1)) ∧ ∀ S' p, S' < S + 1 → p < n → S'.testBit p = false → ∃ c, c < 10000 ∧ w 157 (9 * S' + p) = nI c) ?_ (fun _ w h => Ok.ret ⟨2 ^ n - (S + 1), by omega, h.1, S + 1, nI_1 S, by omega, rfl, h.2⟩)
  refine Ok.loop (fun k c w => (GM σ w ∧ w 150 = t 150 ∧ w 149 17 = nI (2 ^ n - 1)) ∧ ∃ j, c = nI j ∧ j ≤ n ∧ k = n - j ∧ ∀ S' p, (S' < S ∨ (S' = S ∧ p < j)) → p < n → S'.testBit p = false → ∃ c, c < 10000 ∧ w 157 (9 * S' + p) = nI c) ?_ n _ _ ⟨⟨gu, u0, u7⟩, 0, rfl, by omega, rfl, fun S' p h => hH S' p (by omega)⟩
  clear gu u0 u7 hH
  intro k c w hI
  obtain ⟨⟨gw, w0, w7⟩, j, rfl, hj, rfl, hH⟩ := hI
  unfold SX12_laysCosts_26
  refine Ok.bd _ (xX12_points gw.tt hs) ?_
  rintro _ _ ⟨rfl, rfl⟩
  rw [w0, en]
  refine Ok.ite (fun c2 => Ok.ret ⟨⟨gw, w0, w7⟩, fun S' p h1 h2 h3 => ?_⟩) (fun c2 => ?_)
  · rw [nI_leP (by omega) (by omega)] at c2
    exact hH S' p (by omega) h2 h3
  rw [nI_leP (by omega) (by omega)] at c2
  refine Ok.bd _ (xX12_has (by omega) (by omega)) ?_
  rintro _ _ ⟨rfl, rfl⟩
  refine Ok.bd (fun v x => w = x ∧ (S.testBit j = false → IsR 10000 v)) ?_ ?_
  · cases hb : S.testBit j
    · refine Ok.ite (fun _ => ?_) (fun c => absurd rfl c)
      refine Ok.bd _ (bX12_cost gw.tt ⟨s, hs, rfl⟩ ⟨j, by omega, rfl⟩) ?_
      rintro v _ ⟨rfl, h⟩
      exact Ok.ret ⟨rfl, fun _ => h⟩
    · exact Ok.ite (fun c => absurd c (by decide)) (fun _ => Ok.ret ⟨rfl, fun h => absurd h (by decide)⟩)
  rintro v17 _ ⟨rfl, h17⟩
  rw [idx9]
  refine Ok.ck (inb_n (by omega) (by omega)) (fun _ => Ok.wr (fun x ex => ?_))
  rw [nI_cl (by omega)] at ex
  refine Ok.ret ⟨n - (j + 1), by omega, ⟨gw.wrU ex (by omega) ty_u157, by rw [wo ex (by decide)]; exact w0, by rw [wo ex (by decide)]; exact w7⟩, j + 1, nI_1 j, by omega, rfl, fun S' p h1 h2 h3 => ?_⟩
  rw [ex, wr_at]
  by_cases e : 9 * S' + p = 9 * S + j
  · have e1 : S' = S := by omega
    have e2 : p = j := by omega
    subst e1 e2
    rw [pk_us]
    obtain ⟨c, hc, e⟩ := h17 h3
    exact ⟨c, hc, e⟩
  · rw [pk_un e]
    exact hH S' p (by omega) h2 h3
/-- what is left from a set on -/
def RB (n : Nat) (u : St) (S : Nat) : Prop := ∃ r, r ≤ 10000 * (n - cnt S n) ∧ u 155 S = nI r
def RT (n : Nat) (m : Int32) (u : St) (S : Nat) : Prop := ∃ p, p < n ∧ S.testBit p = false ∧ u 155 S = bo m (u 157 (9 * S + p)) (u 155 (S ||| 2 ^ p))
def RR (n : Nat) (m : Int32) (u : St) : Prop := ∀ S, S < 2 ^ n → RB n u S ∧ (S ≠ 2 ^ n - 1 → RT n m u S)
theorem nX12_laysRest {σ t : St} {s n : Nat} {m : Int32} (hG : GM σ t) (en : t 150 (91 * s) = nI n) (hs : s < 3) (hn : n < 10) (e17 : t 149 17 = nI (2 ^ n - 1)) : Ok (FX12_laysRest (nI s) m t) (fun _ u => (GM σ u ∧ u 150 = t 150 ∧ u 149 = t 149 ∧ u 157 = t 157) ∧ (HC n t → RR n m u)) := by
  unfold FX12_laysRest
  have hN := pow9 (k := n) (by omega)
  have hN0 := Nat.two_pow_pos n
  refine Ok.rd (fun v1 h1 => ?_)
  rw [e17] at h1
  subst h1
  refine Ok.bd (fun _ u => (GM σ u ∧ u 150 = t 150 ∧ u 149 = t 149 ∧ u 157 = t 157) ∧ (HC n t → RR n m u)) ?_ (fun _ _ h => Ok.ret h)
  refine Ok.loop (fun k c u => (GM σ u ∧ u 150 = t 150 ∧ u 149 = t 149 ∧ u 157 = t 157) ∧ k ≤ 2 ^ n ∧ c = nI k - 1 ∧ (HC n t → ∀ S, k ≤ S → S < 2 ^ n → RB n u S ∧ (S ≠ 2 ^ n - 1 → RT n m u S))) ?_ (2 ^ n) _ _ ⟨⟨hG, rfl, rfl, rfl⟩, by omega, by rw [li_1, nI_sub (by omega)], fun _ S h1 h2 => absurd h1 (by omega)⟩
  clear hG
  intro k c u hI
  obtain ⟨⟨gu, u0, u9, u7⟩, hk, rfl, hH⟩ := hI
  unfold SX12_laysRest_5
  refine Ok.ite (fun c1 => Ok.ret ⟨⟨gu, u0, u9, u7⟩, fun hc S hS => hH hc S ?_ hS⟩) (fun c1 => ?_)
  · rcases Nat.eq_zero_or_pos k with q | q
    · omega
    · rw [li_1, nI_sub (by omega), li_0, nI_ltP (by omega) (by omega)] at c1
      omega
  obtain ⟨S, rfl⟩ : ∃ S, k = S + 1 := by
    rcases Nat.eq_zero_or_pos k with q | q
    · subst q
      exact absurd (by decide) c1
    · exact ⟨k - 1, by omega⟩
  have ec : nI (S + 1) - 1 = nI S := by rw [li_1, nI_sub (by omega)]; rfl
  rw [ec]
  refine Ok.rd (fun v4 h4 => ?_)
  rw [u9, e17] at h4
  subst h4
  refine Ok.bd (fun v x => u = x ∧ ((S = 2 ^ n - 1 ∧ v = 0) ∨ (S ≠ 2 ^ n - 1 ∧ v = 1000000))) ?_ ?_
  · refine Ok.ite (fun c => Ok.ret ⟨rfl, Or.inl ⟨nI_inj c (by omega) (by omega), rfl⟩⟩) (fun c => Ok.ret ⟨rfl, Or.inr ⟨fun e => c (by rw [e]), rfl⟩⟩)
  rintro v7 _ ⟨rfl, h7⟩
  refine Ok.ck (inb_n (by omega) (by omega)) (fun _ => Ok.wr (fun y ey => ?_))
  rw [nI_cl (by omega)] at ey
  have gy := gu.wrU ey (by omega) ty_u155
  have y5 : ∀ X, X ≠ S → y 155 X = u 155 X := fun X hX => by rw [ey, wr_at, pk_un hX]
  have yS : y 155 S = v7 := by rw [ey, wr_at, pk_us]
  refine Ok.bd (fun _ w => (GM σ w ∧ w 150 = t 150 ∧ w 149 = t 149 ∧ w 157 = t 157) ∧ (∀ X, X ≠ S → w 155 X = u 155 X) ∧ (HC n t → RB n w S ∧ (S ≠ 2 ^ n - 1 → RT n m w S))) ?_ ?_
  rotate_left
  · rintro _ w ⟨hF, w5, hw⟩
    refine Ok.ret ⟨S, by omega, hF, by omega, ?_, fun hc X h1 h2 => ?_⟩
    · show nI S + -1 = nI S - 1
      rw [Int32.sub_eq_add_neg]
    · by_cases e : X = S
      · subst e
        exact hw hc
      · obtain ⟨⟨r, hr, er⟩, h4⟩ := hH hc X (by omega) h2
        refine ⟨⟨r, hr, by rw [w5 X e]; exact er⟩, fun q => ?_⟩
        obtain ⟨p, hp, hb, e5⟩ := h4 q
        refine ⟨p, hp, hb, ?_⟩
        have := or_gt hb
        rw [w5 X e, w5 _ (by omega), hF.2.2.2, e5, u7]
  refine Ok.loop (fun k c w => (GM σ w ∧ w 150 = t 150 ∧ w 149 = t 149 ∧ w 157 = t 157) ∧ (∀ X, X ≠ S → w 155 X = u 155 X) ∧ ∃ j, c = nI j ∧ j ≤ n ∧ k = n - j ∧ (HC n t → ((w 155 S = v7 ∧ ∀ q, q < j → S.testBit q = true) ∨ (RB n w S ∧ RT n m w S)))) ?_ n _ _ ⟨⟨gy, by rw [wo ey (by decide)]; exact u0, by rw [wo ey (by decide)]; exact u9, by rw [wo ey (by decide)]; exact u7⟩, y5, 0, rfl, by omega, rfl, fun _ => Or.inl ⟨yS, fun q hq => absurd hq (by omega)⟩⟩
  clear gy y5 yS ey y
  intro k c w hI
  obtain ⟨⟨gw, w0, w9, w7⟩, w5, j, rfl, hj, rfl, hD⟩ := hI
  unfold SX12_laysRest_33
  refine Ok.bd _ (xX12_points gw.tt hs) ?_
  rintro _ _ ⟨rfl, rfl⟩
  rw [w0, en]
  refine Ok.ite (fun c2 => Ok.ret ⟨⟨gw, w0, w9, w7⟩, w5, fun hc => ?_⟩) (fun c2 => ?_)
  · rw [nI_leP (by omega) (by omega)] at c2
    rcases hD hc with ⟨h1, h2⟩ | ⟨h1, h2⟩
    · have ef := all_full (S := S) (n := n) (by omega) (fun q hq => h2 q (by omega))
      have e0 := (h7.resolve_right (fun h => h.1 ef)).2
      exact ⟨⟨0, by omega, by rw [h1, e0]; rfl⟩, fun h => absurd ef h⟩
    · exact ⟨h1, fun _ => h2⟩
  rw [nI_leP (by omega) (by omega)] at c2
  rw [idx9]
  refine Ok.ck (inb_n (by omega) (by omega)) (fun _ => Ok.rd (fun v19 h19 => ?_))
  rw [nI_cl (by omega), w7] at h19
  refine Ok.bd _ (xX12_has (by omega) (by omega)) ?_
  rintro _ _ ⟨rfl, rfl⟩
  refine Ok.bd (fun _ x => (GM σ x ∧ x 150 = t 150 ∧ x 149 = t 149 ∧ x 157 = t 157) ∧ (∀ X, X ≠ S → x 155 X = u 155 X) ∧ (HC n t → ((x 155 S = v7 ∧ ∀ q, q < j + 1 → S.testBit q = true) ∨ (RB n x S ∧ RT n m x S)))) ?_ (fun _ x h => Ok.ret ⟨n - (j + 1), by omega, h.1, h.2.1, j + 1, nI_1 j, by omega, rfl, h.2.2⟩)
  cases hb : S.testBit j
  rotate_left
  · refine Ok.ite (fun c => absurd c (by decide)) (fun _ => Ok.ret ⟨⟨gw, w0, w9, w7⟩, w5, fun hc => ?_⟩)
    refine (hD hc).imp (fun h => ⟨h.1, fun q hq => ?_⟩) id
    by_cases e : q = j
    · rw [e]; exact hb
    · exact h.2 q (by omega)
  refine Ok.ite (fun _ => ?_) (fun c => absurd rfl c)
  refine Ok.ite (fun c3 => Ok.ret ⟨⟨gw, w0, w9, w7⟩, w5, fun hc => ?_⟩) (fun c3 => ?_)
  · obtain ⟨c, hcl, ec⟩ := hc S j (by omega) (by omega) hb
    rw [h19, ec, show (1000000 : Int32) = nI 1000000 from rfl, nI_leP (by omega) (by omega)] at c3
    omega
  refine Ok.ck (inb_n (by omega) (by omega)) (fun _ => Ok.rd (fun v31 h31 => ?_))
  rw [nI_cl (by omega)] at h31
  have eo : nI S ||| shl 1 (nI j) = nI (S ||| 2 ^ j) := by rw [shl_1 (by omega), nI_or]
  have hgt := or_gt hb
  have hlt := or_ltn (S := S) (p := j) (n := n) (by omega) (by omega)
  rw [eo]
  refine Ok.ck (inb_n (by omega) (by omega)) (fun _ => Ok.rd (fun v34 h34 => ?_))
  rw [nI_cl (by omega)] at h34
  refine Ok.bd _ xX12_both ?_
  rintro v36 _ ⟨rfl, h36⟩
  refine Ok.ck (inb_n (by omega) (by omega)) (fun _ => Ok.wr (fun x ex => ?_))
  rw [nI_cl (by omega)] at ex
  have x5 : ∀ X, X ≠ S → x 155 X = u 155 X := fun X hX => by rw [ex, wr_at, pk_un hX]; exact w5 X hX
  have xS : x 155 S = mnI v31 v36 := by rw [ex, wr_at, pk_us]
  have x7 : x 157 = t 157 := by rw [wo ex (by decide)]; exact w7
  refine Ok.ret ⟨⟨gw.wrU ex (by omega) ty_u155, by rw [wo ex (by decide)]; exact w0, by rw [wo ex (by decide)]; exact w9, x7⟩, x5, fun hc => Or.inr ?_⟩
  obtain ⟨c, hcl, ec⟩ := hc S j (by omega) (by omega) hb
  obtain ⟨⟨r', hr', er'⟩, -⟩ := hH hc (S ||| 2 ^ j) (by omega) hlt
  have e34 : v34 = nI r' := by rw [h34, w5 _ (by omega)]; exact er'
  have hcl2 := cnt_lt (S := S) (p := j) (n := n) (by omega) hb
  have hco : cnt (S ||| 2 ^ j) n = cnt S n + 1 := by rw [cnt_or hb, if_pos (by omega)]
  rw [hco] at hr'
  obtain ⟨r2, hr2, er2⟩ := bo_n (m := m) (a := c) (b := r') (by omega) (by omega)
  have e36 : v36 = nI r2 := by rw [h36, h19, ec, e34, er2]
  have new : x 155 S = v36 → RB n x S ∧ RT n m x S := fun e => by
    refine ⟨⟨r2, by omega, e.trans e36⟩, j, by omega, hb, ?_⟩
    rw [e, h36, x7, x5 _ (by omega), h19, h34, w5 _ (by omega)]
  rcases hD hc with ⟨h1, h2⟩ | ⟨⟨r, hr, er⟩, p, hp, hpb, ep⟩
  · have ev : v7 = 1000000 := by
      refine (h7.resolve_left (fun h => ?_)).2
      have : S.testBit j = true := by
        rw [h.1, Nat.testBit_two_pow_sub_one]
        simp
        omega
      rw [hb] at this
      exact absurd this (by decide)
    refine new ?_
    rw [xS]
    show (if v36 < v31 then v36 else v31) = v36
    rw [if_pos]
    rw [h31, h1, ev, e36, show (1000000 : Int32) = nI 1000000 from rfl, nI_ltP (by omega) (by omega)]
    omega
  · by_cases q : v36 < v31
    · refine new ?_
      rw [xS]
      exact if_pos q
    · have exx : x 155 S = w 155 S := by
        rw [xS, ← h31]
        exact if_neg q
      have := or_gt hpb
      refine ⟨⟨r, hr, exx.trans er⟩, p, hp, hpb, ?_⟩
      rw [exx, ep, x7, w7, x5 _ (by omega), w5 _ (by omega)]
end
section
/-! the reference: least, best, ways, within, firsts, among, takes (wip/ext/g41.py) -/
theorem nX12_laysLeast {σ t : St} {s n : Nat} {m : Int32} (hG : GM σ t) (en : t 150 (91 * s) = nI n) (hs : s < 3) (hn : n < 10) : Ok (FX12_laysLeast (nI s) m t) (fun _ u => (GM σ u ∧ u 150 = t 150) ∧ u 149 17 = nI (2 ^ n - 1) ∧ RR n m u) := by
  unfold FX12_laysLeast
  refine Ok.bd _ (nX12_laysCosts hG en hs hn) ?_
  rintro _ t2 ⟨g2, z2, y2, h2⟩
  refine Ok.bd _ (nX12_laysRest g2 (by rw [z2]; exact en) hs hn y2) ?_
  rintro _ t5 ⟨⟨g5, z5, y5, -⟩, h5⟩
  exact Ok.ret ⟨⟨g5, z5.trans z2⟩, by rw [y5]; exact y2, h5 h2⟩
theorem xX12_keepsLeast {t : St} {m h : Int32} {S p : Nat} (hS : S < 512) (hp : p < 9) : Ok (FX12_keepsLeast m (nI S) (nI p) h t) (fun r u => t = u ∧ ((r = 1 ∧ S.testBit p = false ∧ bo m h (bo m (t 157 (9 * S + p)) (t 155 (S ||| 2 ^ p))) = t 155 0) ∨ (r = 0 ∧ ¬ (S.testBit p = false ∧ bo m h (bo m (t 157 (9 * S + p)) (t 155 (S ||| 2 ^ p))) = t 155 0)))) := by
  unfold FX12_keepsLeast
  refine Ok.bd _ (xX12_has (by omega) (by omega)) ?_
  rintro _ _ ⟨rfl, rfl⟩
  cases hb : S.testBit p
  · refine Ok.ite (fun _ => ?_) (fun c => absurd rfl c)
    rw [idx9]
    refine Ok.ck (inb_n (by omega) (by omega)) (fun _ => Ok.rd (fun v7 h7 => ?_))
    rw [nI_cl (by omega)] at h7
    have eo : nI S ||| shl 1 (nI p) = nI (S ||| 2 ^ p) := by rw [shl_1 (by omega), nI_or]
    rw [eo]
    have := or9 hS (pw9 hp)
    refine Ok.ck (inb_n (by omega) (by omega)) (fun _ => Ok.rd (fun v10 h10 => ?_))
    rw [nI_cl (by omega)] at h10
    refine Ok.bd _ xX12_both ?_
    rintro _ _ ⟨rfl, rfl⟩
    refine Ok.bd _ xX12_both ?_
    rintro _ _ ⟨rfl, rfl⟩
    refine Ok.ck (by decide) (fun _ => Ok.rd (fun v19 h19 => ?_))
    have e0 : (0 : Int32).toNatClampNeg = 0 := by decide
    rw [e0] at h19
    subst h7 h10 h19
    exact Ok.ite (fun c => Ok.ret ⟨rfl, Or.inl ⟨rfl, rfl, c⟩⟩) (fun c => Ok.ret ⟨rfl, Or.inr ⟨rfl, fun h => c h.2⟩⟩)
  · exact Ok.ite (fun c => absurd c (by decide)) (fun _ => Ok.ret ⟨rfl, Or.inr ⟨rfl, fun h => absurd h.1 (by decide)⟩⟩)
theorem bo_0 {m : Int32} {r : Nat} (hr : r < 1000000) : bo m 0 (nI r) = nI r := by
  unfold bo
  by_cases h : m = 0 ∨ m = 1 ∨ m = 5
  · rw [if_pos h]
    show (if (0 : Int32) < nI r then nI r else 0) = nI r
    by_cases q : (0 : Int32) < nI r
    · rw [if_pos q]
    · rw [if_neg q]
      rw [li_0, nI_ltP (by omega) (by omega)] at q
      rw [show r = 0 by omega]
      rfl
  · rw [if_neg h]
    exact Int32.zero_add _
theorem nX12_laysBest {σ t : St} {s n : Nat} {m : Int32} (hG : GM σ t) (en : t 150 (91 * s) = nI n) (hs : s < 3) (hn : n < 10) : Ok (FX12_laysBest (nI s) m t) (fun _ u => GM σ u ∧ u 150 = t 150 ∧ PM n (u 159)) := by
  unfold FX12_laysBest
  have hN := pow9 (k := n) (by omega)
  have hN0 := Nat.two_pow_pos n
  refine Ok.ite (fun _ => ?_) (fun _ => ?_)
  · refine Ok.bd _ (nX12_leastBand hG en hs hn) ?_
    rintro _ t2 ⟨g2, z2, hP, -⟩
    refine Ok.bd (fun _ u => GM σ u ∧ u 150 = t 150 ∧ PM n (u 159)) ?_ (fun _ _ h => Ok.ret h)
    refine Ok.loop (fun k c u => (GM σ u ∧ u 150 = t 150 ∧ u 158 = t2 158) ∧ ∃ j, c = nI j ∧ j ≤ n ∧ k = n - j ∧ ∀ q, q < j → u 159 q = t2 158 q) ?_ n _ _ ⟨⟨g2, z2, rfl⟩, 0, rfl, by omega, rfl, fun q hq => absurd hq (by omega)⟩
    intro k c u hI
    obtain ⟨⟨gu, u0, u8⟩, j, rfl, hj, rfl, hq⟩ := hI
    unfold SX12_laysBest_14
    refine Ok.bd _ (xX12_points gu.tt hs) ?_
    rintro _ _ ⟨rfl, rfl⟩
    rw [u0, en]
    refine Ok.ite (fun c1 => Ok.ret ⟨gu, u0, fun p hp => ?_⟩) (fun c1 => ?_)
    · rw [nI_leP (by omega) (by omega)] at c1
      obtain ⟨k, hk, e⟩ := hP p hp
      exact ⟨k, hk, by rw [hq k (by omega)]; exact e⟩
    · rw [nI_leP (by omega) (by omega)] at c1
      refine Ok.ck (inb_n (by omega) (by omega)) (fun _ => Ok.rd (fun v hv => ?_))
      rw [nI_cl (by omega)] at hv
      refine Ok.ck (inb_n (by omega) (by omega)) (fun _ => Ok.wr (fun w ew => ?_))
      rw [nI_cl (by omega)] at ew
      refine Ok.ret ⟨n - (j + 1), by omega, ⟨gu.wrT ew (by omega) (ty_a159 (by omega)) ?_, by rw [wo ew (by decide)]; exact u0, by rw [wo ew (by decide)]; exact u8⟩, j + 1, nI_1 j, by omega, rfl, fun q hq' => ?_⟩
      · rw [hv]
        exact gu.tt.rd (ty_a158 (by omega)) (by omega)
      · rw [ew, wr_at]
        by_cases e : q = j
        · rw [e, pk_us, hv, u8]
        · rw [pk_un e]
          exact hq q (by omega)
  · refine Ok.bd _ (nX12_laysLeast hG en hs hn) ?_
    rintro _ t3 ⟨⟨g3, z3⟩, -, hR⟩
    refine Ok.bd (fun _ u => GM σ u ∧ u 150 = t 150 ∧ PM n (u 159)) ?_ (fun _ _ h => Ok.ret h)
    refine Ok.loop (fun k c u => (GM σ u ∧ u 150 = t 150 ∧ u 155 = t3 155 ∧ u 157 = t3 157) ∧ ∃ S h i, c = (nI S, h, nI i) ∧ S < 2 ^ n ∧ cnt S n = i ∧ i ≤ n ∧ k = n - i ∧ bo m h (t3 155 S) = t3 155 0 ∧ ∀ p, S.testBit p = true → ∃ k, k < i ∧ u 159 k = nI p) ?_ n _ _ ⟨⟨g3, z3, rfl, rfl⟩, 0, 0, 0, rfl, by omega, cnt_0 n, by omega, rfl, ?_, fun p hp => by simp at hp⟩
    rotate_left
    · obtain ⟨⟨r, hr, er⟩, -⟩ := hR 0 (by omega)
      rw [er]
      exact bo_0 (by omega)
    clear g3 z3 hG
    intro k c u hI
    obtain ⟨⟨gu, u0, u5, u7⟩, S, h, i, rfl, hS, hc, hi, rfl, hb, hrow⟩ := hI
    unfold SX12_laysBest_59
    dsimp only
    refine Ok.bd _ (xX12_points gu.tt hs) ?_
    rintro _ _ ⟨rfl, rfl⟩
    rw [u0, en]
    refine Ok.ite (fun c1 => Ok.ret ⟨gu, u0, ?_⟩) (fun c1 => ?_)
    · rw [nI_leP (by omega) (by omega)] at c1
      exact inv_row hc (by omega) hrow
    rw [nI_leP (by omega) (by omega)] at c1
    have hnf : S ≠ 2 ^ n - 1 := fun e => by
      have := cnt_all (S := S) (n := n) (fun q hq => by rw [e, Nat.testBit_two_pow_sub_one]; simp; exact hq)
      omega
    obtain ⟨p0, hp0, hpb, ep⟩ := (hR S hS).2 hnf
    refine Ok.bd (fun v w => u = w ∧ ∃ q, q < n ∧ v = nI q ∧ S.testBit q = false ∧ bo m h (bo m (t3 157 (9 * S + q)) (t3 155 (S ||| 2 ^ q))) = t3 155 0) ?_ ?_
    · refine Ok.loop (fun k c w => u = w ∧ ∃ j, c = nI j ∧ j ≤ p0 ∧ k = p0 - j) ?_ p0 _ _ ⟨rfl, 0, rfl, by omega, rfl⟩
      intro k c w hI
      obtain ⟨rfl, j, rfl, hj, rfl⟩ := hI
      unfold SX12_laysBest_72
      refine Ok.bd _ (xX12_keepsLeast (by omega) (by omega)) ?_
      rw [u5, u7]
      rintro v9 _ ⟨rfl, hv⟩
      refine Ok.ite (fun c2 => ?_) (fun c2 => ?_)
      · have hx := (hv.resolve_left (fun q => absurd (q.1.symm.trans c2) (by decide))).2
        have : j ≠ p0 := fun e => by
          subst e
          exact hx ⟨hpb, by rw [← ep]; exact hb⟩
        exact Ok.ret ⟨p0 - (j + 1), by omega, rfl, j + 1, nI_1 j, by omega, rfl⟩
      · obtain ⟨-, h1, h2⟩ := hv.resolve_right (fun q => c2 q.1)
        exact Ok.ret ⟨rfl, j, by omega, rfl, h1, h2⟩
    rintro _ _ ⟨rfl, q, hq, rfl, hqb, eq⟩
    rw [idx9]
    refine Ok.ck (inb_n (by omega) (by omega)) (fun _ => Ok.rd (fun v18 h18 => ?_))
    rw [nI_cl (by omega), u7] at h18
    refine Ok.bd _ xX12_both ?_
    rintro _ _ ⟨rfl, rfl⟩
    refine Ok.ck (inb_n (by omega) (by omega)) (fun _ => Ok.wr (fun w ew => ?_))
    rw [nI_cl (by omega)] at ew
    refine Ok.ret ⟨n - (i + 1), by omega, ⟨gu.wrT ew (by omega) (ty_a159 (by omega)) ⟨q, by omega, rfl⟩, by rw [wo ew (by decide)]; exact u0, by rw [wo ew (by decide)]; exact u5, by rw [wo ew (by decide)]; exact u7⟩, S ||| 2 ^ q, bo m h v18, i + 1, ?_, or_ltn hS hq, ?_, by omega, rfl, ?_, fun p hp => ?_⟩
    · rw [shl_1 (by omega), nI_or, nI_1]
    · rw [cnt_or hqb, if_pos hq, hc]
    · rw [bo_assoc, h18]
      exact eq
    · rw [Nat.testBit_or, Nat.testBit_two_pow] at hp
      rw [ew, wr_at]
      by_cases e : q = p
      · exact ⟨i, by omega, by rw [pk_us, e]⟩
      · have hp' : S.testBit p = true := by simpa [e] using hp
        obtain ⟨k, hk, h⟩ := hrow p hp'
        exact ⟨k, by omega, by rw [pk_un (by omega)]; exact h⟩
theorem netx {t : St} (hT : TY t) {a : Int32} (h : IsR 3 a ∧ PtIn t a 0) : ∃ s n, s < 3 ∧ a = nI s ∧ t 150 (91 * s) = nI n ∧ n < 10 := by
  obtain ⟨⟨s, hs, rfl⟩, n, en, hn, -⟩ := h
  rw [nI_cl (by omega)] at en
  exact ⟨s, n, hs, rfl, en, hn⟩
theorem nX12_best {σ t : St} (hG : GM σ t) {a b c : Int32} : Ok (FX12_best a b c t) (fun r u => GM σ u ∧ True) := by
  unfold FX12_best
  refine Ok.bd _ (rX12_isPoint hG.tt) ?_
  rintro v _ ⟨rfl, -, hv⟩
  refine Ok.ite (fun _ => Ok.ret ⟨hG, True.intro⟩) (fun c1 => ?_)
  obtain ⟨s, n, k, hs, rfl, en, hn, hk, rfl⟩ := ptx hG.tt (hv.resolve_left c1)
  refine Ok.bd _ (rX12_isMeasure hG.tt) ?_
  rintro v _ ⟨rfl, -, -⟩
  refine Ok.ite (fun _ => Ok.ret ⟨hG, True.intro⟩) (fun _ => ?_)
  refine Ok.bd _ (nX12_laysBest hG en hs hn) ?_
  rintro _ u ⟨gu, -, -⟩
  exact Ok.ck (inb_n (by omega) (by omega)) (fun _ => Ok.rd (fun v _ => Ok.ret ⟨gu, True.intro⟩))
theorem nX12_takes {σ t : St} (hG : GM σ t) {a b : Int32} : Ok (FX12_takes a b t) (fun r u => GM σ u ∧ True) := by
  unfold FX12_takes
  refine Ok.bd _ (rX12_isNet hG.tt) ?_
  rintro v _ ⟨rfl, -, hv⟩
  refine Ok.ite (fun _ => Ok.ret ⟨hG, True.intro⟩) (fun c1 => ?_)
  obtain ⟨s, n, hs, rfl, en, hn⟩ := netx hG.tt (hv.resolve_left c1)
  refine Ok.bd _ (rX12_isMeasure hG.tt) ?_
  rintro v _ ⟨rfl, -, -⟩
  refine Ok.ite (fun _ => Ok.ret ⟨hG, True.intro⟩) (fun _ => ?_)
  refine Ok.bd _ (nX12_laysBest hG en hs hn) ?_
  rintro _ t2 ⟨g2, z2, hP⟩
  refine Ok.bd (fun _ u => GM σ u ∧ u 150 = t 150 ∧ PM n (u 154)) ?_ ?_
  · refine Ok.loop (fun k c u => (GM σ u ∧ u 150 = t 150 ∧ u 159 = t2 159) ∧ ∃ j, c = nI j ∧ j ≤ n ∧ k = n - j ∧ ∀ q, q < j → u 154 q = t2 159 q) ?_ n _ _ ⟨⟨g2, z2, rfl⟩, 0, rfl, by omega, rfl, fun q hq => absurd hq (by omega)⟩
    intro k c u hI
    obtain ⟨⟨gu, u0, u8⟩, j, rfl, hj, rfl, hq⟩ := hI
    unfold SX12_takes_26
    refine Ok.bd _ (xX12_points gu.tt hs) ?_
    rintro _ _ ⟨rfl, rfl⟩
    rw [u0, en]
    refine Ok.ite (fun c1 => Ok.ret ⟨gu, u0, fun p hp => ?_⟩) (fun c1 => ?_)
    · rw [nI_leP (by omega) (by omega)] at c1
      obtain ⟨k, hk, e⟩ := hP p hp
      exact ⟨k, hk, by rw [hq k (by omega)]; exact e⟩
    · rw [nI_leP (by omega) (by omega)] at c1
      refine Ok.ck (inb_n (by omega) (by omega)) (fun _ => Ok.rd (fun v hv => ?_))
      rw [nI_cl (by omega)] at hv
      refine Ok.ck (inb_n (by omega) (by omega)) (fun _ => Ok.wr (fun w ew => ?_))
      rw [nI_cl (by omega)] at ew
      refine Ok.ret ⟨n - (j + 1), by omega, ⟨gu.wrT ew (by omega) (ty_a154 (by omega)) ?_, by rw [wo ew (by decide)]; exact u0, by rw [wo ew (by decide)]; exact u8⟩, j + 1, nI_1 j, by omega, rfl, fun q hq' => ?_⟩
      · rw [hv]
        exact gu.tt.rd (ty_a159 (by omega)) (by omega)
      · rw [ew, wr_at]
        by_cases e : q = j
        · rw [e, pk_us, hv, u8]
        · rw [pk_un e]
          exact hq q (by omega)
  · rintro _ u ⟨gu, u0, hPu⟩
    refine Ok.bd _ (nX12_takesRow gu hs (by rw [u0]; exact en) hn hPu) ?_
    rintro _ w ⟨gw, -⟩
    exact Ok.ret ⟨gw, True.intro⟩
theorem nX12_rowsWithin {σ t : St} {s n : Nat} {b : Int32} (hG : GM σ t) (en : t 150 (91 * s) = nI n) (hs : s < 3) (hn : n < 10) (e17 : t 149 17 = nI (2 ^ n - 1)) : Ok (FX12_rowsWithin (nI s) b t) (fun _ u => GM σ u) := by
  unfold FX12_rowsWithin
  have hN := pow9 (k := n) (by omega)
  have hN0 := Nat.two_pow_pos n
  refine Ok.rd (fun v1 h1 => ?_)
  rw [e17] at h1
  subst h1
  refine Ok.bd (fun _ u => GM σ u) ?_ (fun _ u gu => Ok.ck (by decide) (fun _ => Ok.rd (fun v _ => Ok.ret gu)))
  refine Ok.loop (fun k c u => (GM σ u ∧ u 150 = t 150 ∧ u 149 = t 149) ∧ k ≤ 2 ^ n ∧ c = nI k - 1) ?_ (2 ^ n) _ _ ⟨⟨hG, rfl, rfl⟩, by omega, by rw [li_1, nI_sub (by omega)]⟩
  clear hG
  intro k c u hI
  obtain ⟨⟨gu, u0, u9⟩, hk, rfl⟩ := hI
  unfold SX12_rowsWithin_5
  refine Ok.ite (fun c1 => Ok.ret gu) (fun c1 => ?_)
  obtain ⟨S, rfl⟩ : ∃ S, k = S + 1 := by
    rcases Nat.eq_zero_or_pos k with q | q
    · subst q
      exact absurd (by decide) c1
    · exact ⟨k - 1, by omega⟩
  have ec : nI (S + 1) - 1 = nI S := by rw [li_1, nI_sub (by omega)]; rfl
  rw [ec]
  refine Ok.rd (fun v4 h4 => ?_)
  refine Ok.bd (fun v x => u = x) (Ok.ite (fun _ => Ok.ret rfl) (fun _ => Ok.ret rfl)) ?_
  rintro v7 _ rfl
  refine Ok.ck (inb_n (by omega) (by omega)) (fun _ => Ok.wr (fun y ey => ?_))
  have gy := gu.wrU ey (by omega) ty_u156
  refine Ok.bd (fun _ w => GM σ w ∧ w 150 = t 150 ∧ w 149 = t 149) ?_ ?_
  rotate_left
  · rintro _ w hF
    refine Ok.ret ⟨S, by omega, hF, by omega, ?_⟩
    show nI S + -1 = nI S - 1
    rw [Int32.sub_eq_add_neg]
  refine Ok.loop (fun k c w => (GM σ w ∧ w 150 = t 150 ∧ w 149 = t 149) ∧ ∃ j, c = nI j ∧ j ≤ n ∧ k = n - j) ?_ n _ _ ⟨⟨gy, by rw [wo ey (by decide)]; exact u0, by rw [wo ey (by decide)]; exact u9⟩, 0, rfl, by omega, rfl⟩
  clear gy ey y
  intro k c w hI
  obtain ⟨⟨gw, w0, w9⟩, j, rfl, hj, rfl⟩ := hI
  unfold SX12_rowsWithin_31
  refine Ok.bd _ (xX12_points gw.tt hs) ?_
  rintro _ _ ⟨rfl, rfl⟩
  rw [w0, en]
  refine Ok.ite (fun c2 => Ok.ret ⟨gw, w0, w9⟩) (fun c2 => ?_)
  rw [nI_leP (by omega) (by omega)] at c2
  have hlt := or9 (a := S) (b := 2 ^ j) (by omega) (pw9 (by omega))
  have eo : nI S ||| shl 1 (nI j) = nI (S ||| 2 ^ j) := by rw [shl_1 (by omega), nI_or]
  rw [idx9, eo]
  refine Ok.ck (inb_n (by omega) (by omega)) (fun _ => Ok.rd (fun v19 h19 => ?_))
  refine Ok.bd _ (rX12_has gw.tt) ?_
  rintro v21 _ ⟨rfl, -, -⟩
  refine Ok.bd (fun v x => w = x) ?_ ?_
  · refine Ok.ite (fun _ => ?_) (fun _ => Ok.ret rfl)
    refine Ok.ck (inb_n (by omega) (by omega)) (fun _ => Ok.rd (fun v33 _ => ?_))
    refine Ok.ite (fun _ => Ok.ret rfl) (fun _ => ?_)
    exact Ok.ck (inb_n (by omega) (by omega)) (fun _ => Ok.rd (fun v37 _ => Ok.ret rfl))
  · rintro v25 _ rfl
    refine Ok.ck (inb_n (by omega) (by omega)) (fun _ => Ok.wr (fun x ex => ?_))
    exact Ok.ret ⟨n - (j + 1), by omega, ⟨gw.wrU ex (by omega) ty_u156, by rw [wo ex (by decide)]; exact w0, by rw [wo ex (by decide)]; exact w9⟩, j + 1, nI_1 j, by omega, rfl⟩
theorem nX12_rowsOfLeast {σ t : St} {s n : Nat} (hG : GM σ t) (en : t 150 (91 * s) = nI n) (hs : s < 3) (hn : n < 10) (e17 : t 149 17 = nI (2 ^ n - 1)) : Ok (FX12_rowsOfLeast (nI s) t) (fun _ u => GM σ u) := by
  unfold FX12_rowsOfLeast
  have hN := pow9 (k := n) (by omega)
  have hN0 := Nat.two_pow_pos n
  refine Ok.rd (fun v1 h1 => ?_)
  rw [e17] at h1
  subst h1
  refine Ok.bd (fun _ u => GM σ u) ?_ (fun _ u gu => Ok.ck (by decide) (fun _ => Ok.rd (fun v _ => Ok.ret gu)))
  refine Ok.loop (fun k c u => (GM σ u ∧ u 150 = t 150 ∧ u 149 = t 149) ∧ k ≤ 2 ^ n ∧ c = nI k - 1) ?_ (2 ^ n) _ _ ⟨⟨hG, rfl, rfl⟩, by omega, by rw [li_1, nI_sub (by omega)]⟩
  clear hG
  intro k c u hI
  obtain ⟨⟨gu, u0, u9⟩, hk, rfl⟩ := hI
  unfold SX12_rowsOfLeast_5
  refine Ok.ite (fun c1 => Ok.ret gu) (fun c1 => ?_)
  obtain ⟨S, rfl⟩ : ∃ S, k = S + 1 := by
    rcases Nat.eq_zero_or_pos k with q | q
    · subst q
      exact absurd (by decide) c1
    · exact ⟨k - 1, by omega⟩
  have ec : nI (S + 1) - 1 = nI S := by rw [li_1, nI_sub (by omega)]; rfl
  rw [ec]
  refine Ok.rd (fun v4 h4 => ?_)
  refine Ok.bd (fun v x => u = x) (Ok.ite (fun _ => Ok.ret rfl) (fun _ => Ok.ret rfl)) ?_
  rintro v7 _ rfl
  refine Ok.ck (inb_n (by omega) (by omega)) (fun _ => Ok.wr (fun y ey => ?_))
  have gy := gu.wrU ey (by omega) ty_u156
  refine Ok.bd (fun _ w => GM σ w ∧ w 150 = t 150 ∧ w 149 = t 149) ?_ ?_
  rotate_left
  · rintro _ w hF
    refine Ok.ret ⟨S, by omega, hF, by omega, ?_⟩
    show nI S + -1 = nI S - 1
    rw [Int32.sub_eq_add_neg]
  refine Ok.loop (fun k c w => (GM σ w ∧ w 150 = t 150 ∧ w 149 = t 149) ∧ ∃ j, c = nI j ∧ j ≤ n ∧ k = n - j) ?_ n _ _ ⟨⟨gy, by rw [wo ey (by decide)]; exact u0, by rw [wo ey (by decide)]; exact u9⟩, 0, rfl, by omega, rfl⟩
  clear gy ey y
  intro k c w hI
  obtain ⟨⟨gw, w0, w9⟩, j, rfl, hj, rfl⟩ := hI
  unfold SX12_rowsOfLeast_30
  refine Ok.bd _ (xX12_points gw.tt hs) ?_
  rintro _ _ ⟨rfl, rfl⟩
  rw [w0, en]
  refine Ok.ite (fun c2 => Ok.ret ⟨gw, w0, w9⟩) (fun c2 => ?_)
  rw [nI_leP (by omega) (by omega)] at c2
  have hlt := or9 (a := S) (b := 2 ^ j) (by omega) (pw9 (by omega))
  have eo : nI S ||| shl 1 (nI j) = nI (S ||| 2 ^ j) := by rw [shl_1 (by omega), nI_or]
  rw [idx9, eo]
  refine Ok.ck (inb_n (by omega) (by omega)) (fun _ => Ok.rd (fun v19 h19 => ?_))
  refine Ok.bd _ (rX12_has gw.tt) ?_
  rintro v21 _ ⟨rfl, -, -⟩
  refine Ok.bd (fun v x => w = x) ?_ ?_
  · refine Ok.ite (fun _ => ?_) (fun _ => Ok.ret rfl)
    refine Ok.ck (inb_n (by omega) (by omega)) (fun _ => Ok.rd (fun v33 _ => ?_))
    refine Ok.ck (inb_n (by omega) (by omega)) (fun _ => Ok.rd (fun v36 _ => ?_))
    refine Ok.ck (inb_n (by omega) (by omega)) (fun _ => Ok.rd (fun v39 _ => ?_))
    refine Ok.ite (fun _ => ?_) (fun _ => Ok.ret rfl)
    exact Ok.ck (inb_n (by omega) (by omega)) (fun _ => Ok.rd (fun v37 _ => Ok.ret rfl))
  · rintro v25 _ rfl
    refine Ok.ck (inb_n (by omega) (by omega)) (fun _ => Ok.wr (fun x ex => ?_))
    exact Ok.ret ⟨n - (j + 1), by omega, ⟨gw.wrU ex (by omega) ty_u156, by rw [wo ex (by decide)]; exact w0, by rw [wo ex (by decide)]; exact w9⟩, j + 1, nI_1 j, by omega, rfl⟩
theorem nX12_least {σ t : St} (hG : GM σ t) {a b : Int32} : Ok (FX12_least a b t) (fun r u => GM σ u ∧ True) := by
  unfold FX12_least
  refine Ok.bd _ (rX12_isNet hG.tt) ?_
  rintro v _ ⟨rfl, -, hv⟩
  refine Ok.ite (fun _ => Ok.ret ⟨hG, True.intro⟩) (fun c1 => ?_)
  obtain ⟨s, n, hs, rfl, en, hn⟩ := netx hG.tt (hv.resolve_left c1)
  refine Ok.bd _ (rX12_isMeasure hG.tt) ?_
  rintro v _ ⟨rfl, -, -⟩
  refine Ok.ite (fun _ => Ok.ret ⟨hG, True.intro⟩) (fun _ => ?_)
  refine Ok.ite (fun _ => ?_) (fun _ => ?_)
  · refine Ok.bd _ (nX12_leastBand hG en hs hn) ?_
    rintro _ u ⟨gu, -⟩
    exact Ok.ret ⟨gu, True.intro⟩
  · refine Ok.bd _ (nX12_laysLeast hG en hs hn) ?_
    rintro _ u ⟨⟨gu, -⟩, -⟩
    exact Ok.ck (by decide) (fun _ => Ok.rd (fun v _ => Ok.ret ⟨gu, True.intro⟩))
theorem nX12_ways {σ t : St} (hG : GM σ t) {a b : Int32} : Ok (FX12_ways a b t) (fun r u => GM σ u ∧ True) := by
  unfold FX12_ways
  refine Ok.bd _ (rX12_isNet hG.tt) ?_
  rintro v _ ⟨rfl, -, hv⟩
  refine Ok.ite (fun _ => Ok.ret ⟨hG, True.intro⟩) (fun c1 => ?_)
  obtain ⟨s, n, hs, rfl, en, hn⟩ := netx hG.tt (hv.resolve_left c1)
  refine Ok.bd _ (rX12_isMeasure hG.tt) ?_
  rintro v _ ⟨rfl, -, -⟩
  refine Ok.ite (fun _ => Ok.ret ⟨hG, True.intro⟩) (fun _ => ?_)
  refine Ok.ite (fun _ => ?_) (fun _ => ?_)
  · refine Ok.bd _ (nX12_leastBand hG en hs hn) ?_
    rintro _ u ⟨gu, u0, -, v, hv, rfl⟩
    refine Ok.bd _ (nX12_rowsOfBand gu (by rw [u0]; exact en) hs hn (by omega) rfl) ?_
    rintro _ w ⟨gw, -⟩
    exact Ok.ret ⟨gw, True.intro⟩
  · refine Ok.bd _ (nX12_laysLeast hG en hs hn) ?_
    rintro _ u ⟨⟨gu, u0⟩, u7, -⟩
    refine Ok.bd _ (rX12_isGreatest gu.tt) ?_
    rintro v14 _ ⟨rfl, -⟩
    refine Ok.ite (fun _ => ?_) (fun _ => ?_)
    · refine Ok.bd _ (nX12_rowsOfLeast gu (by rw [u0]; exact en) hs hn u7) ?_
      rintro _ w gw
      exact Ok.ret ⟨gw, True.intro⟩
    · refine Ok.ck (by decide) (fun _ => Ok.rd (fun v _ => ?_))
      refine Ok.bd _ (nX12_rowsWithin gu (by rw [u0]; exact en) hs hn u7) ?_
      rintro _ w gw
      exact Ok.ret ⟨gw, True.intro⟩
theorem nX12_firsts {σ t : St} (hG : GM σ t) {a b : Int32} : Ok (FX12_firsts a b t) (fun r u => GM σ u ∧ True) := by
  unfold FX12_firsts
  refine Ok.bd _ (rX12_isNet hG.tt) ?_
  rintro v _ ⟨rfl, -, hv⟩
  refine Ok.ite (fun _ => Ok.ret ⟨hG, True.intro⟩) (fun c1 => ?_)
  obtain ⟨s, n, hs, rfl, en, hn⟩ := netx hG.tt (hv.resolve_left c1)
  refine Ok.bd _ (rX12_isMeasure hG.tt) ?_
  rintro v _ ⟨rfl, -, -⟩
  refine Ok.ite (fun _ => Ok.ret ⟨hG, True.intro⟩) (fun _ => ?_)
  refine Ok.ite (fun _ => ?_) (fun _ => ?_)
  · refine Ok.bd _ (nX12_leastBand hG en hs hn) ?_
    rintro _ u ⟨gu, u0, -, v, hv, rfl⟩
    refine Ok.bd _ (nX12_rowsOfBand gu (by rw [u0]; exact en) hs hn (by omega) rfl) ?_
    rintro _ w ⟨gw, -⟩
    exact Ok.rd (fun v _ => Ok.ret ⟨gw, True.intro⟩)
  · refine Ok.bd _ (nX12_laysLeast hG en hs hn) ?_
    rintro _ u ⟨⟨gu, u0⟩, -⟩
    refine Ok.bd (fun _ w => u = w) ?_ (fun _ w h => by subst h; exact Ok.ret ⟨gu, True.intro⟩)
    refine Ok.loop (fun k c w => u = w ∧ ∃ j, c.2 = nI j ∧ j ≤ 9 ∧ k = 9 - j) ?_ 9 _ _ ⟨rfl, 0, rfl, by omega, rfl⟩
    intro k c w hI
    obtain ⟨rfl, j, ej, hj, rfl⟩ := hI
    obtain ⟨c0, c9⟩ := c
    dsimp only at ej
    subst ej
    unfold SX12_firsts_51
    dsimp only
    refine Ok.bd _ (rX12_points gu.tt ⟨s, hs, rfl⟩) ?_
    rintro _ _ ⟨rfl, n2, hn2, rfl⟩
    refine Ok.ite (fun _ => Ok.ret rfl) (fun c2 => ?_)
    rw [nI_leP (by omega) (by omega)] at c2
    refine Ok.bd _ (rX12_keepsLeast gu.tt ⟨0, by omega, rfl⟩ ⟨j, by omega, rfl⟩) ?_
    rintro v18 _ ⟨rfl, -⟩
    refine Ok.bd (fun v w => u = w) (Ok.ite (fun _ => Ok.ret rfl) (fun _ => Ok.ret rfl)) ?_
    rintro v22 _ rfl
    exact Ok.ret ⟨9 - (j + 1), by omega, rfl, j + 1, nI_1 j, by omega, rfl⟩
theorem mn_9 {c : Int32} (h : (0 : Int32) ≤ c) : ∃ k, k < 100 ∧ mnI c 9 = nI k := by
  have h0 : ¬ c < 0 := fun q => by
    rw [Int32.lt_iff_toInt_lt] at q
    rw [Int32.le_iff_toInt_le] at h
    omega
  obtain ⟨j, hj, rfl⟩ := nI_of h0
  show ∃ k, k < 100 ∧ (if (9 : Int32) < nI j then 9 else nI j) = nI k
  by_cases q : (9 : Int32) < nI j
  · exact ⟨9, by omega, if_pos q⟩
  · rw [if_neg q]
    rw [li_9, nI_ltP (by omega) (by omega)] at q
    exact ⟨j, by omega, rfl⟩
theorem nX12_within {σ t : St} (hG : GM σ t) {a b c : Int32} : Ok (FX12_within a b c t) (fun r u => GM σ u ∧ True) := by
  unfold FX12_within
  refine Ok.bd _ (rX12_isNet hG.tt) ?_
  rintro v _ ⟨rfl, -, hv⟩
  refine Ok.ite (fun _ => Ok.ret ⟨hG, True.intro⟩) (fun c1 => ?_)
  obtain ⟨s, n, hs, rfl, en, hn⟩ := netx hG.tt (hv.resolve_left c1)
  refine Ok.bd _ (rX12_isMeasure hG.tt) ?_
  rintro v _ ⟨rfl, -, -⟩
  refine Ok.ite (fun _ => Ok.ret ⟨hG, True.intro⟩) (fun _ => ?_)
  have fin : (0 : Int32) ≤ c → Ok (if b = (2 : Int32) then (bnd (FX12_rowsOfBand (nI s) (mnI c (9 : Int32)) (0 : Int32) t) (fun v21 t22 => (some (v21, t22)))) else (bnd (FX12_laysCosts (nI s) b t) (fun v14 t15 => (bnd (FX12_rowsWithin (nI s) (mnI c (999999 : Int32)) t15) (fun v17 t18 => (some (v17, t18))))))) (fun r u => GM σ u ∧ True) := fun hc => by
    refine Ok.ite (fun _ => ?_) (fun _ => ?_)
    · obtain ⟨k, hk, ek⟩ := mn_9 hc
      rw [ek]
      refine Ok.bd _ (nX12_rowsOfBand hG en hs hn hk rfl) ?_
      rintro _ w ⟨gw, -⟩
      exact Ok.ret ⟨gw, True.intro⟩
    · refine Ok.bd _ (nX12_laysCosts hG en hs hn) ?_
      rintro _ u ⟨gu, u0, u7, -⟩
      refine Ok.bd _ (nX12_rowsWithin gu (by rw [u0]; exact en) hs hn u7) ?_
      rintro _ w gw
      exact Ok.ret ⟨gw, True.intro⟩
  refine Ok.ite (fun _ => Ok.ite (fun hc => fin hc) (fun _ => Ok.ret ⟨hG, True.intro⟩)) (fun _ => ?_)
  refine Ok.bd _ (rX12_isGreatest hG.tt) ?_
  rintro v26 _ ⟨rfl, -⟩
  refine Ok.ite (fun _ => Ok.ret ⟨hG, True.intro⟩) (fun _ => ?_)
  exact Ok.ite (fun hc => fin hc) (fun _ => Ok.ret ⟨hG, True.intro⟩)
theorem nX12_among {σ t : St} (hG : GM σ t) {a b c : Int32} : Ok (FX12_among a b c t) (fun r u => GM σ u ∧ True) := by
  unfold FX12_among
  refine Ok.bd _ (rX12_isNet hG.tt) ?_
  rintro v _ ⟨rfl, -, hv⟩
  refine Ok.ite (fun _ => Ok.ret ⟨hG, True.intro⟩) (fun c1 => ?_)
  obtain ⟨s, n, hs, rfl, en, hn⟩ := netx hG.tt (hv.resolve_left c1)
  refine Ok.bd _ (rX12_isMeasure hG.tt) ?_
  rintro v _ ⟨rfl, -, -⟩
  refine Ok.ite (fun _ => Ok.ret ⟨hG, True.intro⟩) (fun _ => ?_)
  refine Ok.bd _ (rX12_isGreatest hG.tt) ?_
  rintro v11 _ ⟨rfl, -⟩
  refine Ok.ite (fun _ => Ok.ret ⟨hG, True.intro⟩) (fun _ => ?_)
  refine Ok.bd _ (rX12_isMeasure hG.tt) ?_
  rintro v16 _ ⟨rfl, -, -⟩
  refine Ok.ite (fun _ => Ok.ret ⟨hG, True.intro⟩) (fun _ => Ok.ite (fun _ => Ok.ret ⟨hG, True.intro⟩) (fun _ => ?_))
  refine Ok.bd _ (nX12_laysLeast hG en hs hn) ?_
  rintro _ u ⟨⟨gu, u0⟩, u7, -⟩
  have hN := pow9 (k := n) (by omega)
  have hN0 := Nat.two_pow_pos n
  refine Ok.ck (by decide) (fun _ => Ok.rd (fun v26 _ => ?_))
  refine Ok.bd (fun _ w => GM σ w ∧ w 150 = t 150 ∧ w 149 17 = nI (2 ^ n - 1)) ?_ ?_
  rotate_left
  · rintro _ w ⟨gw, w0, w7⟩
    refine Ok.bd _ (nX12_laysRest gw (by rw [w0]; exact en) hs hn w7) ?_
    rintro _ x ⟨⟨gx, -⟩, -⟩
    exact Ok.ck (by decide) (fun _ => Ok.rd (fun v _ => Ok.ret ⟨gx, True.intro⟩))
  refine Ok.loop (fun k c u => (GM σ u ∧ u 150 = t 150 ∧ u 149 17 = nI (2 ^ n - 1)) ∧ ∃ S, c = nI S ∧ S ≤ 2 ^ n ∧ k = 2 ^ n - S) ?_ (2 ^ n) _ _ ⟨⟨gu, u0, u7⟩, 0, rfl, by omega, rfl⟩
  clear gu u0 u7 hG
  intro k c u hI
  obtain ⟨⟨gu, u0, u7⟩, S, rfl, hS, rfl⟩ := hI
  unfold SX12_among_54
  refine Ok.rd (fun v6 h6 => ?_)
  rw [u7] at h6
  subst h6
  refine Ok.ite (fun c1 => Ok.ret ⟨gu, u0, u7⟩) (fun c1 => ?_)
  rw [nI_ltP (by omega) (by omega)] at c1
  refine Ok.bd (fun _ w => (GM σ w ∧ w 150 = t 150 ∧ w 149 17 = nI (2 ^ n - 1))) ?_ (fun _ w h => Ok.ret ⟨2 ^ n - (S + 1), by omega, h, S + 1, nI_1 S, by omega, rfl⟩)
  refine Ok.loop (fun k c w => (GM σ w ∧ w 150 = t 150 ∧ w 149 17 = nI (2 ^ n - 1)) ∧ ∃ j, c = nI j ∧ j ≤ n ∧ k = n - j) ?_ n _ _ ⟨⟨gu, u0, u7⟩, 0, rfl, by omega, rfl⟩
  clear gu u0 u7
  intro k c w hI
  obtain ⟨⟨gw, w0, w7⟩, j, rfl, hj, rfl⟩ := hI
  unfold SX12_among_66
  refine Ok.bd _ (xX12_points gw.tt hs) ?_
  rintro _ _ ⟨rfl, rfl⟩
  rw [w0, en]
  refine Ok.ite (fun c2 => Ok.ret ⟨gw, w0, w7⟩) (fun c2 => ?_)
  rw [nI_leP (by omega) (by omega)] at c2
  rw [idx9]
  refine Ok.ck (inb_n (by omega) (by omega)) (fun _ => Ok.rd (fun v36 _ => ?_))
  refine Ok.bd (fun v x => w = x) ?_ ?_
  · refine Ok.ite (fun _ => ?_) (fun _ => Ok.ret rfl)
    refine Ok.bd _ (rX12_cost gw.tt ⟨s, hs, rfl⟩ ⟨j, by omega, rfl⟩) ?_
    rintro v _ ⟨rfl, -⟩
    exact Ok.ret rfl
  rintro v39 _ rfl
  refine Ok.ck (inb_n (by omega) (by omega)) (fun _ => Ok.wr (fun x ex => ?_))
  exact Ok.ret ⟨n - (j + 1), by omega, ⟨gw.wrU ex (by omega) ty_u157, by rw [wo ex (by decide)]; exact w0, by rw [wo ex (by decide)]; exact w7⟩, j + 1, nI_1 j, by omega, rfl⟩
end
section
/-! the reference: two points drawn together (wip/ext/g42.py) -/
def mgT (g : Nat → Int32) (s n j : Nat) (tab : Nat → Int32) : Nat → Int32 := fun k => if 91 * s + 1 ≤ k ∧ k < 91 * s + 1 + j then tab (k - (91 * s + 1)) else upd (fun k => if 91 * s ≤ k ∧ k < 91 * s + 91 then 0 else g k) (91 * s) (nI n) k
theorem mgT_0 {g tab ord : Nat → Int32} {s n j i : Nat} : rwst (mgT g s n j tab) s i ord (91 * s) = nI n := by
  unfold rwst mgT
  rw [if_neg (by omega), if_neg (by omega), pk_us]
theorem mgT_off {g tab ord : Nat → Int32} {s s' n i k : Nat} (hi : i ≤ 9) (hs : s' ≠ s) (hk : k < 91) : rwst (mgT g s n 81 tab) s i ord (91 * s' + k) = g (91 * s' + k) := by
  unfold rwst mgT
  rw [if_neg (by omega), if_neg (by omega), pk_un (by omega), if_neg (by omega)]
theorem GM.mg {σ t : St} (h : GM σ t) {s n : Nat} {tab ord : Nat → Int32} (hs : s < 3) (hn : n < 10) (ht : ∀ k, k < 81 → IsR 10 (tab k)) (ho : ∀ k, k < n → IsR 9 (ord k)) (hP : PM n ord) : GM σ (stp t 150 (rwst (mgT (t 150) s n 81 tab) s n ord)) := by
  refine h.st (fun i hi => ?_) (fun s' hs' m em hm p hp => ?_)
  · by_cases q : 91 * s ≤ i ∧ i < 91 * s + 91
    · obtain ⟨d, rfl⟩ : ∃ d, i = 91 * s + d := ⟨i - 91 * s, by omega⟩
      have e : (91 * s + d) % 91 = d := by rw [Nat.mul_add_mod, Nat.mod_eq_of_lt (by omega)]
      rw [e]
      unfold rwst
      by_cases q1 : 91 * s + 82 ≤ 91 * s + d ∧ 91 * s + d < 91 * s + 82 + n
      · rw [if_pos q1, if_pos (by omega)]
        exact ho _ (by omega)
      · rw [if_neg q1]
        unfold mgT
        by_cases q2 : 91 * s + 1 ≤ 91 * s + d ∧ 91 * s + d < 91 * s + 1 + 81
        · rw [if_pos q2, if_neg (by omega)]
          exact ht _ (by omega)
        · rw [if_neg q2]
          by_cases q3 : d = 0
          · subst q3
            show IsR _ (upd _ (91 * s) (nI n) (91 * s))
            rw [pk_us]
            exact ⟨n, by split <;> omega, rfl⟩
          · rw [pk_un (by omega)]
            refine ⟨0, ?_, if_pos (by omega)⟩
            split <;> omega
    · have e : rwst (mgT (t 150) s n 81 tab) s n ord i = t 150 i := by
        unfold rwst mgT
        rw [if_neg (by omega), if_neg (by omega), pk_un (by omega), if_neg q]
      rw [e]
      exact h.ts hi
  · by_cases e : s' = s
    · subst e
      rw [mgT_0] at em
      have := nI_inj em (by omega) (by omega)
      subst this
      obtain ⟨i, hi, ei⟩ := hP p hp
      refine ⟨i, hi, ?_⟩
      unfold rwst
      rw [if_pos (by omega), Nat.add_sub_cancel_left]
      exact ei
    · have k0 := mgT_off (g := t 150) (tab := tab) (ord := ord) (n := n) (i := n) (k := 0) (by omega) e (by omega)
      rw [Nat.add_zero] at k0
      rw [k0] at em
      obtain ⟨i, hi, ei⟩ := h.pe s' hs' m em hm p hp
      exact ⟨i, hi, by rw [Nat.add_assoc, mgT_off (by omega) e (by omega), ← Nat.add_assoc]; exact ei⟩
/-- a point's new number -/
theorem ren {t : St} {w : Int32} {lo hi n x : Nat} (hlo : lo < hi) (hhi : hi < n) (hn : n < 10) (hx : x < n) : Ok (if nI x = nI hi then (some (nI lo, t)) else (if nI x ≤ nI hi then (some (nI x, t)) else (some ((nI x - (1 : Int32)), t)))) (fun v u => t = u ∧ ∃ k, k < 8 ∧ v = nI k) := by
  refine Ok.ite (fun c => Ok.ret ⟨rfl, lo, by omega, rfl⟩) (fun c => Ok.ite (fun c2 => Ok.ret ⟨rfl, x, ?_, rfl⟩) (fun c2 => Ok.ret ⟨rfl, x - 1, ?_, ?_⟩))
  · rw [nI_leP (by omega) (by omega)] at c2
    have : x ≠ hi := fun e => c (by rw [e])
    omega
  · omega
  · rw [nI_leP (by omega) (by omega)] at c2
    rw [li_1, nI_sub (by omega)]
theorem mn_10 {a b : Nat} (ha : a < 10) (hb : b < 10) : IsR 10 (mnI 9 (nI a + nI b)) := by
  rw [nI_add]
  show IsR 10 (if nI (a + b) < 9 then nI (a + b) else 9)
  by_cases q : nI (a + b) < 9
  · rw [if_pos q]
    rw [li_9, nI_ltP (by omega) (by omega)] at q
    exact ⟨a + b, by omega, rfl⟩
  · rw [if_neg q]
    exact ⟨9, by omega, rfl⟩
theorem mnmx {p q : Nat} (hp : p < 9) (hq : q < 9) (hne : ¬ nI p = nI q) : ∃ lo hi, lo < hi ∧ (hi = p ∨ hi = q) ∧ mnI (nI p) (nI q) = nI lo ∧ mxI (nI p) (nI q) = nI hi := by
  have hne' : p ≠ q := fun e => hne (by rw [e])
  show ∃ lo hi, lo < hi ∧ (hi = p ∨ hi = q) ∧ (if nI q < nI p then nI q else nI p) = nI lo ∧ (if nI p < nI q then nI q else nI p) = nI hi
  by_cases h : p < q
  · exact ⟨p, q, h, Or.inr rfl, if_neg (by rw [nI_ltP (by omega) (by omega)]; omega), if_pos (by rw [nI_ltP (by omega) (by omega)]; exact h)⟩
  · exact ⟨q, p, by omega, Or.inl rfl, if_pos (by rw [nI_ltP (by omega) (by omega)]; omega), if_neg (by rw [nI_ltP (by omega) (by omega)]; exact h)⟩
theorem nX12_merges {σ t : St} (hG : GM σ t) {a b c : Int32} : Ok (FX12_merges a b c t) (fun r u => GM σ u ∧ True) := by
  unfold FX12_merges FX12_areTwo
  refine Ok.bd (fun v u => t = u ∧ (v = 0 ∨ ((IsR 3 a ∧ IsR 9 b ∧ PtIn t a b) ∧ (IsR 3 a ∧ IsR 9 c ∧ PtIn t a c) ∧ ¬ b = c))) ?_ ?_
  · refine Ok.bd _ (rX12_isPoint hG.tt) ?_
    rintro v _ ⟨rfl, -, hv⟩
    refine Ok.ite (fun _ => Ok.ret ⟨rfl, Or.inl rfl⟩) (fun c1 => ?_)
    refine Ok.bd _ (rX12_isPoint hG.tt) ?_
    rintro w _ ⟨rfl, -, hw⟩
    refine Ok.ite (fun _ => Ok.ret ⟨rfl, Or.inl rfl⟩) (fun c2 => ?_)
    exact Ok.ite (fun _ => Ok.ret ⟨rfl, Or.inl rfl⟩) (fun c3 => Ok.ret ⟨rfl, Or.inr ⟨hv.resolve_left c1, hw.resolve_left c2, c3⟩⟩)
  rintro v _ ⟨rfl, hv⟩
  refine Ok.ite (fun _ => Ok.ret ⟨hG, True.intro⟩) (fun c1 => ?_)
  obtain ⟨h1, h2, hne⟩ := hv.resolve_left c1
  clear hv c1
  obtain ⟨s, n, p, hs, rfl, en, hn, hp, rfl⟩ := ptx hG.tt h1
  obtain ⟨q, hq, rfl⟩ := two_pt (c := 0) hG.tt rfl hs en hn h2.2.2 h2.2.1
  clear h1 h2
  refine Ok.bd _ (rX12_weight hG.tt ⟨s, hs, rfl⟩ ⟨p, by omega, rfl⟩ ⟨q, by omega, rfl⟩) ?_
  rintro v5 _ ⟨rfl, -⟩
  refine Ok.ite (fun _ => Ok.ret ⟨hG, True.intro⟩) (fun _ => ?_)
  refine Ok.bd _ (xX12_points hG.tt hs) ?_
  rintro _ _ ⟨rfl, rfl⟩
  rw [en]
  obtain ⟨lo, hi, hlo, hhi', e1, e2⟩ := mnmx (p := p) (q := q) (by omega) (by omega) hne
  have hhi : hi < n := by omega
  rw [e1, e2]
  refine Ok.bd _ xX12_remembers ?_
  rintro _ _ rfl
  have g13 := hG.rem
  have z13 : stp t 151 (fun k => if k < 273 then t 150 k else t 151 k) 150 = t 150 := stp_off (by decide)
  generalize stp t 151 (fun k => if k < 273 then t 150 k else t 151 k) = t13 at g13 z13
  refine Ok.bd (fun _ u => GM σ u ∧ u 150 = t 150) ?_ ?_
  · refine Ok.loop (fun k c u => (GM σ u ∧ u 150 = t 150) ∧ ∃ j, c = nI j ∧ j ≤ 81 ∧ k = 81 - j) ?_ 81 _ _ ⟨⟨g13, z13⟩, 0, rfl, by omega, rfl⟩
    intro k c u hI
    obtain ⟨⟨gu, u0⟩, j, rfl, hj, rfl⟩ := hI
    unfold SX12_merges_54
    refine Ok.ite (fun _ => Ok.ret ⟨gu, u0⟩) (fun c2 => ?_)
    rw [show (81 : Int32) = nI 81 from rfl, nI_leP (by omega) (by omega)] at c2
    refine Ok.ck (inb_n (by omega) (by omega)) (fun _ => Ok.wr (fun w ew => ?_))
    rw [nI_cl (by omega)] at ew
    exact Ok.ret ⟨81 - (j + 1), by omega, ⟨gu.wrT ew (by omega) (ty_a161 (by omega)) ⟨0, by omega, rfl⟩, by rw [wo ew (by decide)]; exact u0⟩, j + 1, nI_1 j, by omega, rfl⟩
  clear g13 z13 t13
  rintro _ t20 ⟨g20, z20⟩
  refine Ok.bd (fun _ u => GM σ u ∧ u 150 = t 150) ?_ ?_
  · refine Ok.loop (fun k c u => (GM σ u ∧ u 150 = t 150) ∧ ∃ j, c = nI j ∧ j ≤ n ∧ k = n - j) ?_ n _ _ ⟨⟨g20, z20⟩, 0, rfl, by omega, rfl⟩
    clear g20 z20
    intro k c u hI
    obtain ⟨⟨gu, u0⟩, j, rfl, hj, rfl⟩ := hI
    unfold SX12_merges_78
    refine Ok.ite (fun _ => Ok.ret ⟨gu, u0⟩) (fun c2 => ?_)
    rw [nI_leP (by omega) (by omega)] at c2
    refine Ok.bd (fun _ u => GM σ u ∧ u 150 = t 150) ?_ (fun _ w h => Ok.ret ⟨n - (j + 1), by omega, h, j + 1, nI_1 j, by omega, rfl⟩)
    refine Ok.loop (fun k c u => (GM σ u ∧ u 150 = t 150) ∧ ∃ j, c = nI j ∧ j ≤ n ∧ k = n - j) ?_ n _ _ ⟨⟨gu, u0⟩, 0, rfl, by omega, rfl⟩
    clear gu u0
    intro k c u hI
    obtain ⟨⟨gu, u0⟩, i, rfl, hi', rfl⟩ := hI
    unfold SX12_merges_88
    refine Ok.ite (fun _ => Ok.ret ⟨gu, u0⟩) (fun c3 => ?_)
    rw [nI_leP (by omega) (by omega)] at c3
    refine Ok.bd _ (ren (w := 0) hlo hhi hn (by omega)) ?_
    rintro _ _ ⟨rfl, x, hx, rfl⟩
    refine Ok.bd _ (ren (w := 0) hlo hhi hn (by omega)) ?_
    rintro _ _ ⟨rfl, y, hy, rfl⟩
    rw [idx9]
    refine Ok.bd (fun v w => u = w ∧ IsR 10 v) ?_ ?_
    · refine Ok.ite (fun _ => Ok.ret ⟨rfl, 0, by omega, rfl⟩) (fun _ => ?_)
      refine Ok.ck (inb_n (by omega) (by omega)) (fun _ => Ok.rdT gu.tt (ty_a161 (by rw [nI_cl (by omega)]; omega)) (by omega) (fun m hm em => ?_))
      refine Ok.bd _ (rX12_weight gu.tt ⟨s, hs, rfl⟩ ⟨j, by omega, rfl⟩ ⟨i, by omega, rfl⟩) ?_
      rintro _ _ ⟨rfl, m2, hm2, rfl⟩
      exact Ok.ret ⟨rfl, mn_10 hm hm2⟩
    rintro v36 _ ⟨rfl, h36⟩
    refine Ok.ck (inb_n (by omega) (by omega)) (fun _ => Ok.wr (fun w ew => ?_))
    rw [nI_cl (by omega)] at ew
    exact Ok.ret ⟨n - (i + 1), by omega, ⟨gu.wrT ew (by omega) (ty_a161 (by omega)) h36, by rw [wo ew (by decide)]; exact u0⟩, i + 1, nI_1 i, by omega, rfl⟩
  clear g20 z20
  rintro _ t56 ⟨g56, z56⟩
  refine Ok.bd (fun _ u => GM σ u ∧ u 150 = t 150 ∧ PM (n - 1) (u 154)) ?_ ?_
  · refine Ok.loop (fun k c u => (GM σ u ∧ u 150 = t 150) ∧ ∃ m i, c = (nI m, nI i) ∧ m ≤ i ∧ i ≤ n ∧ k = n - i ∧ (m < i ∨ ∀ k, k < i → ¬ t 150 (91 * s + 82 + k) = nI hi) ∧ ∀ k r, k < i → r < n → t 150 (91 * s + 82 + k) = nI r → r ≠ hi → ∃ k', k' < m ∧ u 154 k' = nI (if r ≤ hi then r else r - 1)) ?_ n _ _ ⟨⟨g56, z56⟩, 0, 0, rfl, by omega, by omega, rfl, Or.inr (fun k hk => absurd hk (by omega)), fun k r hk => absurd hk (by omega)⟩
    clear g56 z56
    intro k c u hI
    obtain ⟨⟨gu, u0⟩, m, i, rfl, hmi, hi', rfl, hA, hB⟩ := hI
    unfold SX12_merges_223
    dsimp only
    refine Ok.ite (fun c2 => Ok.ret ⟨gu, u0, fun p' hp' => ?_⟩) (fun c2 => ?_)
    · rw [nI_leP (by omega) (by omega)] at c2
      obtain ⟨i0, hi0, ei0⟩ := hG.pe s hs n en hn hi hhi
      have hm := hA.resolve_right (fun h => h i0 (by omega) ei0)
      by_cases q1 : p' < hi
      · obtain ⟨k, hk, ek⟩ := hG.pe s hs n en hn p' (by omega)
        obtain ⟨k', hk', ek'⟩ := hB k p' (by omega) (by omega) ek (by omega)
        rw [if_pos (by omega)] at ek'
        exact ⟨k', by omega, ek'⟩
      · obtain ⟨k, hk, ek⟩ := hG.pe s hs n en hn (p' + 1) (by omega)
        obtain ⟨k', hk', ek'⟩ := hB k (p' + 1) (by omega) (by omega) ek (by omega)
        rw [if_neg (by omega)] at ek'
        exact ⟨k', by omega, ek'⟩
    rw [nI_leP (by omega) (by omega)] at c2
    refine Ok.bd _ (xX12_at gu.tt hs (i := i) (by omega)) ?_
    rintro _ _ ⟨rfl, rfl⟩
    rw [u0]
    obtain ⟨r, hr, er⟩ := hG.tt.rd (ty_o (s := s) (i := i) hs (by omega)) (by omega)
    rw [er]
    refine Ok.bd (fun v w => (GM σ w ∧ w 150 = t 150) ∧ ∃ m', v = nI m' ∧ m' ≤ i + 1 ∧ m ≤ m' ∧ ((m' = m ∧ r = hi ∧ w = u) ∨ (m' = m + 1 ∧ r ≠ hi ∧ w 154 m = nI (if r ≤ hi then r else r - 1) ∧ ∀ k, k < m → w 154 k = u 154 k))) ?_ ?_
    · refine Ok.ite (fun c3 => Ok.ret ⟨⟨gu, u0⟩, m, rfl, by omega, by omega, Or.inl ⟨rfl, nI_inj c3 (by omega) (by omega), rfl⟩⟩) (fun c3 => ?_)
      have hrh : r ≠ hi := fun e => c3 (by rw [e])
      refine Ok.bd (fun v w => u = w ∧ v = nI (if r ≤ hi then r else r - 1)) ?_ ?_
      · refine Ok.ite (fun c4 => Ok.ret ⟨rfl, ?_⟩) (fun c4 => Ok.ret ⟨rfl, ?_⟩)
        · rw [nI_leP (by omega) (by omega)] at c4
          rw [if_pos c4]
        · rw [nI_leP (by omega) (by omega)] at c4
          rw [if_neg c4, li_1, nI_sub (by omega)]
      rintro _ _ ⟨rfl, rfl⟩
      refine Ok.ck (inb_n (by omega) (by omega)) (fun _ => Ok.wr (fun w ew => ?_))
      rw [nI_cl (by omega)] at ew
      refine Ok.ret ⟨⟨gu.wrT ew (by omega) (ty_a154 (by omega)) ⟨_, by split <;> omega, rfl⟩, by rw [wo ew (by decide)]; exact u0⟩, m + 1, nI_1 m, by omega, by omega, Or.inr ⟨rfl, hrh, by rw [ew, wr_at, pk_us], fun k hk => by rw [ew, wr_at, pk_un (by omega)]⟩⟩
    · rintro _ w ⟨hF, m', rfl, h1, h2, h3⟩
      refine Ok.ret ⟨n - (i + 1), by omega, hF, m', i + 1, by rw [nI_1], h1, by omega, rfl, ?_, fun k r' hk hr' ek hne' => ?_⟩
      · rcases h3 with ⟨h4, h5, -⟩ | ⟨h4, h5, -⟩
        · exact Or.inl (by omega)
        · rcases hA with h | h
          · exact Or.inl (by omega)
          · refine Or.inr (fun k hk => ?_)
            by_cases e : k = i
            · rw [e, er]
              exact fun q => h5 (nI_inj q (by omega) (by omega))
            · exact h k (by omega)
      · by_cases e : k = i
        · subst e
          have := nI_inj (er.symm.trans ek) (by omega) (by omega)
          subst this
          rcases h3 with ⟨-, h5, -⟩ | ⟨h4, -, h6, -⟩
          · exact absurd h5 hne'
          · exact ⟨m, by omega, h6⟩
        · obtain ⟨k', hk', ek'⟩ := hB k r' (by omega) hr' ek hne'
          rcases h3 with ⟨-, -, h5⟩ | ⟨h4, -, -, h6⟩
          · exact ⟨k', by omega, by rw [h5]; exact ek'⟩
          · exact ⟨k', by omega, by rw [h6 k' hk']; exact ek'⟩
  clear g56 z56
  rintro _ t77 ⟨g77, z77, hP⟩
  refine Ok.bd _ (xX12_empties hs) ?_
  rintro _ _ rfl
  have e91 : (91 : Int32) * nI s = nI (91 * s) := by rw [li_91, nI_mul]
  have en1 : nI n - 1 = nI (n - 1) := by rw [li_1, nI_sub (by omega)]
  rw [e91, en1]
  refine Ok.ck (inb_n (by omega) (by omega)) (fun _ => Ok.wr (fun t84 e84 => ?_))
  rw [nI_cl (by omega), wr_stp] at e84
  refine Ok.bd (fun _ u => u = stp t77 150 (mgT (t77 150) s (n - 1) 81 (t77 161))) ?_ ?_
  · refine Ok.loop (fun k c u => ∃ j, c = nI j ∧ j ≤ 81 ∧ k = 81 - j ∧ u = stp t77 150 (mgT (t77 150) s (n - 1) j (t77 161))) ?_ 81 _ _ ⟨0, rfl, by omega, rfl, ?_⟩
    · intro k c u hI
      obtain ⟨j, rfl, hj, rfl, rfl⟩ := hI
      unfold SX12_merges_299
      refine Ok.ite (fun c2 => Ok.ret ?_) (fun c2 => ?_)
      · rw [show (81 : Int32) = nI 81 from rfl, nI_leP (by omega) (by omega)] at c2
        rw [show j = 81 by omega]
        rfl
      rw [show (81 : Int32) = nI 81 from rfl, nI_leP (by omega) (by omega)] at c2
      refine Ok.ck (inb_n (by omega) (by omega)) (fun _ => Ok.rd (fun v hv => ?_))
      rw [nI_cl (by omega), stp_off (by decide)] at hv
      have ei : (91 : Int32) * nI s + 1 + nI j = nI (91 * s + 1 + j) := by rw [e91, nI_1, nI_add]
      rw [ei]
      refine Ok.ck (inb_n (by omega) (by omega)) (fun _ => Ok.wr (fun w ew => ?_))
      rw [nI_cl (by omega), wr_stp] at ew
      refine Ok.ret ⟨81 - (j + 1), by omega, j + 1, nI_1 j, by omega, rfl, ?_⟩
      rw [ew]
      congr 1
      funext q'
      unfold mgT
      by_cases e : q' = 91 * s + 1 + j
      · subst e
        rw [pk_us, if_pos (by omega), Nat.add_sub_cancel_left]
        exact hv
      · rw [pk_un e]
        by_cases q1 : 91 * s + 1 ≤ q' ∧ q' < 91 * s + 1 + j
        · rw [if_pos q1, if_pos (by omega)]
        · rw [if_neg q1, if_neg (by omega)]
    · rw [e84]
      congr 1
      funext q'
      unfold mgT
      rw [if_neg (by omega)]
  rintro _ _ rfl
  refine Ok.bd (fun _ u => u = stp t77 150 (rwst (mgT (t77 150) s (n - 1) 81 (t77 161)) s (n - 1) (t77 154))) ?_ ?_
  · refine Ok.loop (fun k c u => ∃ j, c = nI j ∧ j ≤ n - 1 ∧ k = n - 1 - j ∧ u = stp t77 150 (rwst (mgT (t77 150) s (n - 1) 81 (t77 161)) s j (t77 154))) ?_ (n - 1) _ _ ⟨0, rfl, by omega, rfl, ?_⟩
    · intro k c u hI
      obtain ⟨j, rfl, hj, rfl, rfl⟩ := hI
      unfold SX12_merges_336
      rw [en1]
      refine Ok.ite (fun c2 => Ok.ret ?_) (fun c2 => ?_)
      · rw [nI_leP (by omega) (by omega)] at c2
        rw [show j = n - 1 by omega]
        rfl
      rw [nI_leP (by omega) (by omega)] at c2
      refine Ok.ck (inb_n (by omega) (by omega)) (fun _ => Ok.rd (fun v hv => ?_))
      rw [nI_cl (by omega), stp_off (by decide)] at hv
      refine Ok.bd _ (xX12_puts hs (i := j) (by omega)) ?_
      rintro _ _ rfl
      refine Ok.ret ⟨n - 1 - (j + 1), by omega, j + 1, nI_1 j, by omega, rfl, ?_⟩
      rw [wr_stp]
      congr 1
      funext q'
      unfold rwst
      by_cases e : q' = 91 * s + 82 + j
      · subst e
        rw [pk_us, if_pos (by omega), Nat.add_sub_cancel_left]
        exact hv
      · rw [pk_un e]
        by_cases q1 : 91 * s + 82 ≤ q' ∧ q' < 91 * s + 82 + j
        · rw [if_pos q1, if_pos (by omega)]
        · rw [if_neg q1, if_neg (by omega)]
    · congr 1
      funext q'
      unfold rwst
      rw [if_neg (by omega)]
  rintro _ _ rfl
  have gf := g77.mg (s := s) (n := n - 1) (tab := t77 161) (ord := t77 154) hs (by omega) (fun k hk => g77.tt.rd (ty_a161 hk) (by omega)) (fun k hk => g77.tt.rd (ty_a154 (by omega)) (by omega)) hP
  refine Ok.bd _ (nX12_keeps gf) ?_
  rintro r u ⟨hu, -⟩
  exact Ok.ret ⟨hu, True.intro⟩
end
section
/-! what looks at the state alone answers alike wherever the state is alike; layers (wip/ext/g43.py) -/
def Rl {α : Type} (m m' : Option (α × St)) : Prop := ∀ r s, m = some (r, s) → ∃ s', m' = some (r, s') ∧ s' 150 = s 150
theorem Rl.ret {α : Type} {v : α} {s s' : St} (h : s' 150 = s 150) : Rl (some (v, s)) (some (v, s')) := fun r t e => by
  cases e
  exact ⟨s', rfl, h⟩
theorem Rl.bd {α β : Type} {m m' : Option (α × St)} {f f' : α → St → Option (β × St)} (h : Rl m m') (k : ∀ v s s', s' 150 = s 150 → Rl (f v s) (f' v s')) : Rl (bnd m f) (bnd m' f') := fun r t e => by
  obtain ⟨v, s, h1, h2⟩ := bnd_some e
  obtain ⟨s', h3, h4⟩ := h v s h1
  obtain ⟨t', h5, h6⟩ := k v s s' h4 r t h2
  exact ⟨t', by rw [h3]; exact h5, h6⟩
theorem Rl.ite {α : Type} {c : Prop} [Decidable c] {x y x' y' : Option (α × St)} (a : Rl x x') (b : Rl y y') : Rl (if c then x else y) (if c then x' else y') := by
  by_cases h : c
  · rw [if_pos h, if_pos h]; exact a
  · rw [if_neg h, if_neg h]; exact b
theorem Rl.ck {α : Type} {c : Bool} {m m' : Option (α × St)} (h : Rl m m') : Rl (chk c m) (chk c m') := fun r t e => by
  obtain ⟨h1, h2⟩ := chk_some e
  obtain ⟨t', h3, h4⟩ := h r t h2
  exact ⟨t', by rw [h1]; exact h3, h4⟩
theorem Rl.rd {α : Type} {s s' : St} {i : Nat} {f f' : Int32 → Option (α × St)} (e : s' 150 = s 150) (h : ∀ v, Rl (f v) (f' v)) : Rl (rdb s 150 i f) (rdb s' 150 i f') := by
  show Rl (f (s 150 i)) (f' (s' 150 i))
  rw [e]
  exact h _
theorem Rl.lp {C R : Type} {f : C → St → Option ((C ⊕ R) × St)} (h : ∀ c s s', s' 150 = s 150 → Rl (f c s) (f c s')) : ∀ c s s', s' 150 = s 150 → Rl (wh f c s) (wh f c s') := by
  intro c s s' e r t hw
  obtain ⟨k, hk⟩ := wh_itr hw
  induction k generalizing c s s' with
  | zero => exact absurd hk (itr_zero _ _ _ _)
  | succ k ih =>
    obtain ⟨x, u, h1, h2⟩ := itr_succ hk
    obtain ⟨u', h3, h4⟩ := h c s s' e x u h1
    rcases x with d | q
    · obtain ⟨t', h5, h6⟩ := ih d u u' h4 (wh_of h2) h2
      exact ⟨t', wh_step h3 h5, h6⟩
    · cases h2
      exact ⟨u', wh_last h3, h4⟩
theorem lX12_points {a : Int32} {s s' : St} (e : s' 150 = s 150) : Rl (FX12_points a s) (FX12_points a s') := by
  unfold FX12_points
  exact Rl.ck (Rl.rd e (fun v => Rl.ret e))
theorem lX12_weight {a b c : Int32} {s s' : St} (e : s' 150 = s 150) : Rl (FX12_weight a b c s) (FX12_weight a b c s') := by
  unfold FX12_weight
  exact Rl.ck (Rl.rd e (fun v => Rl.ret e))
theorem lX12_has {a b : Int32} {s s' : St} (e : s' 150 = s 150) : Rl (FX12_has a b s) (FX12_has a b s') := by
  unfold FX12_has
  exact Rl.ite (Rl.ret e) (Rl.ret e)
theorem lX12_nearOf {a b : Int32} {s s' : St} (e : s' 150 = s 150) : Rl (FX12_nearOf a b s) (FX12_nearOf a b s') := by
  unfold FX12_nearOf
  refine Rl.bd (Rl.lp (fun c s s' e => ?_) _ _ _ e) (fun v s s' e => Rl.ret e)
  unfold SX12_nearOf_5
  refine Rl.bd (lX12_points e) (fun v s s' e => Rl.ite (Rl.ret e) ?_)
  refine Rl.bd (lX12_weight e) (fun v s s' e => ?_)
  exact Rl.bd (Rl.ite (Rl.ret e) (Rl.ret e)) (fun v s s' e => Rl.ret e)
theorem lX12_farOf {a b c : Int32} {s s' : St} (e : s' 150 = s 150) : Rl (FX12_farOf a b c s) (FX12_farOf a b c s') := by
  unfold FX12_farOf
  refine Rl.bd (Rl.lp (fun c s s' e => ?_) _ _ _ e) (fun v s s' e => ?_)
  · unfold SX12_farOf_8
    refine Rl.bd (lX12_has e) (fun v s s' e => Rl.ite ?_ (Rl.ret e))
    refine Rl.bd (Rl.lp (fun c s s' e => ?_) _ _ _ e) (fun v s s' e => Rl.ite (Rl.ret e) (Rl.ret e))
    unfold SX12_farOf_24
    refine Rl.bd (lX12_points e) (fun v s s' e => Rl.ite (Rl.ret e) ?_)
    refine Rl.bd (lX12_has e) (fun v s s' e => ?_)
    refine Rl.bd (Rl.ite (Rl.ret e) (Rl.bd (lX12_nearOf e) (fun v s s' e => Rl.ret e))) (fun v s s' e => Rl.ret e)
  · rcases v with v | v
    · exact Rl.ret e
    · exact Rl.ret e
theorem cnt_sub {S T : Nat} (h : ∀ b, S.testBit b = true → T.testBit b = true) : ∀ {n : Nat}, cnt S n ≤ cnt T n
  | 0 => Nat.le_refl _
  | n + 1 => by
    rw [cnt, cnt]
    have h1 := cnt_sub h (n := n)
    cases hb : S.testBit n
    · simp
      omega
    · rw [h n hb]
      omega
theorem cnt_eqb {S T : Nat} (h : ∀ b, S.testBit b = true → T.testBit b = true) : ∀ {n : Nat}, cnt S n = cnt T n → ∀ b, b < n → S.testBit b = T.testBit b
  | 0, _, b, hb => absurd hb (by omega)
  | n + 1, e, b, hb => by
    rw [cnt, cnt] at e
    have h1 := cnt_sub h (n := n)
    cases hs : S.testBit n
    · cases ht : T.testBit n
      · rw [hs, ht] at e
        by_cases q : b = n
        · rw [q, hs, ht]
        · exact cnt_eqb h (n := n) (by omega) b (by omega)
      · rw [hs, ht] at e
        simp at e
        omega
    · have ht := h n hs
      rw [hs, ht] at e
      by_cases q : b = n
      · rw [q, hs, ht]
      · exact cnt_eqb h (n := n) (by omega) b (by omega)
theorem cnt_mono {S T : Nat} (h : ∀ b, S.testBit b = true → T.testBit b = true) (hS : S < 512) (hT : T < 512) (hne : T ≠ S) : cnt S 9 < cnt T 9 := by
  have h1 := cnt_sub h (n := 9)
  rcases Nat.lt_or_ge (cnt S 9) (cnt T 9) with q | q
  · exact q
  · refine absurd (Nat.eq_of_testBit_eq (fun b => ?_)).symm hne
    by_cases hb : b < 9
    · exact cnt_eqb h (by omega) b hb
    · have hp : (512 : Nat) ≤ 2 ^ b := Nat.pow_le_pow_right (n := 2) (by omega) (show 9 ≤ b by omega)
      rw [Nat.testBit_lt_two_pow (by omega), Nat.testBit_lt_two_pow (by omega)]
/-- how far two points are apart: none, or less than nine -/
theorem bX12_farOf {t : St} (hT : TY t) {a : Int32} {p q : Nat} (h_a : IsR 3 a) (hp : p < 9) (hq : q < 9) : Ok (FX12_farOf a (nI p) (nI q) t) (fun r u => t = u ∧ (r = -1 ∨ IsR 9 r)) := by
  unfold FX12_farOf
  refine Ok.bd (fun x u => t = u ∧ Sum.elim (fun r => r = -1 ∨ IsR 9 r) (fun r => r = -1 ∨ IsR 9 r) x) ?_ ?_
  rotate_left
  · rintro (x | x) u h
    · exact Ok.ret h
    · exact Ok.ret h
  refine Ok.loop (fun k c u => t = u ∧ ∃ S i, c = (nI S, nI i) ∧ S < 512 ∧ i < cnt S 9 ∧ k = 9 - i) ?_ 9 _ _ ⟨rfl, 2 ^ p, 0, ?_, pw9 hp, ?_, rfl⟩
  · intro k c u hI
    obtain ⟨rfl, S, i, rfl, hS, hi, rfl⟩ := hI
    have hc9 := cnt_le (S := S) (n := 9)
    unfold SX12_farOf_8
    dsimp only
    refine Ok.bd _ (rX12_has hT) ?_
    rintro v1 _ ⟨rfl, -, -⟩
    refine Ok.ite (fun _ => ?_) (fun _ => Ok.ret ⟨rfl, Or.inr ⟨i, by omega, rfl⟩⟩)
    refine Ok.bd (fun v u => t = u ∧ ∃ T, v = nI T ∧ T < 512 ∧ ∀ b, S.testBit b = true → T.testBit b = true) ?_ ?_
    · refine Ok.loop (fun k c u => t = u ∧ ∃ T j, c = (nI T, nI j) ∧ T < 512 ∧ (∀ b, S.testBit b = true → T.testBit b = true) ∧ j ≤ 9 ∧ k = 9 - j) ?_ 9 _ _ ⟨rfl, S, 0, rfl, hS, fun _ h => h, by omega, rfl⟩
      intro k c u hI
      obtain ⟨rfl, T, j, rfl, hT9, hsub, hj, rfl⟩ := hI
      unfold SX12_farOf_24
      dsimp only
      refine Ok.bd _ (rX12_points hT h_a) ?_
      rintro _ _ ⟨rfl, n, hn, rfl⟩
      refine Ok.ite (fun _ => Ok.ret ⟨rfl, T, rfl, hT9, hsub⟩) (fun c1 => ?_)
      rw [nI_leP (by omega) (by omega)] at c1
      refine Ok.bd _ (rX12_has hT) ?_
      rintro v9 _ ⟨rfl, -, -⟩
      refine Ok.bd (fun v u => t = u ∧ IsR 512 v) ?_ ?_
      · refine Ok.ite (fun _ => Ok.ret ⟨rfl, 0, by omega, rfl⟩) (fun _ => ?_)
        refine Ok.bd _ (bX12_nearOf hT h_a ⟨j, by omega, rfl⟩) ?_
        rintro v _ ⟨rfl, h⟩
        exact Ok.ret ⟨rfl, h⟩
      rintro _ _ ⟨rfl, x, hx, rfl⟩
      exact Ok.ret ⟨9 - (j + 1), by omega, rfl, T ||| x, j + 1, by rw [nI_or, nI_1], or9 hT9 hx, fun b hb => by rw [Nat.testBit_or, hsub b hb, Bool.true_or], by omega, rfl⟩
    rintro _ _ ⟨rfl, T, rfl, hT9, hsub⟩
    refine Ok.ite (fun _ => Ok.ret ⟨rfl, Or.inl rfl⟩) (fun c2 => ?_)
    have hlt : cnt S 9 < cnt T 9 := cnt_mono hsub hS hT9 (fun e => c2 (by rw [e]))
    have hc9' := cnt_le (S := T) (n := 9)
    exact Ok.ret ⟨9 - (i + 1), by omega, rfl, T, i + 1, by rw [nI_1], hT9, by omega, rfl⟩
  · rw [shl_1 (by omega)]
    rfl
  · have := cnt_or (S := 0) (q := p) (n := 9) (by simp)
    rw [Nat.zero_or, cnt_0, if_pos hp] at this
    omega
def lvl (l : Nat) : Int32 := if l = 9 then -1 else nI l
theorem lvl_inj {a b : Nat} (ha : a ≤ 9) (hb : b ≤ 9) (h : lvl a = lvl b) : a = b := by
  unfold lvl at h
  by_cases q : a = 9
  · by_cases q2 : b = 9
    · omega
    · rw [if_pos q, if_neg q2] at h
      have := nI_inj (a := 4294967295) (b := b) h (by omega) (by omega)
      omega
  · by_cases q2 : b = 9
    · rw [if_neg q, if_pos q2] at h
      have := nI_inj (a := a) (b := 4294967295) h (by omega) (by omega)
      omega
    · rw [if_neg q, if_neg q2] at h
      exact nI_inj h (by omega) (by omega)
theorem nX12_layers {σ t : St} (hG : GM σ t) {a b : Int32} : Ok (FX12_layers a b t) (fun r u => GM σ u ∧ True) := by
  unfold FX12_layers
  refine Ok.bd _ (rX12_isPoint hG.tt) ?_
  rintro v _ ⟨rfl, -, hv⟩
  refine Ok.ite (fun _ => Ok.ret ⟨hG, True.intro⟩) (fun c1 => ?_)
  obtain ⟨s, n, x, hs, rfl, en, hn, hx, rfl⟩ := ptx hG.tt (hv.resolve_left c1)
  clear hv c1
  have hD : ∀ p : Nat, ∃ l : Nat, p < 9 → l ≤ 9 ∧ FX12_farOf (nI s) (nI x) (nI p) t = some (lvl l, t) := fun p => by
    by_cases hp : p < 9
    · obtain ⟨v, u, h1, rfl, h2⟩ := bX12_farOf hG.tt (p := x) (q := p) ⟨s, hs, rfl⟩ (by omega) hp
      rcases h2 with h | ⟨k, hk, h⟩
      · exact ⟨9, fun _ => ⟨by omega, by rw [h1, h]; rfl⟩⟩
      · refine ⟨k, fun _ => ⟨by omega, ?_⟩⟩
        rw [h1, h]
        unfold lvl
        rw [if_neg (by omega)]
    · exact ⟨0, fun h => absurd h hp⟩
  obtain ⟨L, hL⟩ := Classical.axiomOfChoice hD
  have far : ∀ {u : St} {p : Nat}, OX t u → p < 9 → Ok (FX12_farOf (nI s) (nI x) (nI p) u) (fun r w => u = w ∧ r = lvl (L p)) := fun {u p} hu hp => by
    obtain ⟨v, w, h1, rfl, -⟩ := rX12_farOf hu.1 (a := nI s) (b := nI x) (c := nI p) ⟨s, hs, rfl⟩
    obtain ⟨w', h2, -⟩ := lX12_farOf (a := nI s) (b := nI x) (c := nI p) (hu.2 150 (by decide)) _ _ (hL p hp).2
    rw [h1] at h2
    obtain ⟨e1, e2⟩ := some_pair h2
    exact ⟨v, u, h1, rfl, e1⟩
  refine Ok.bd (fun _ u => OD t n u) ?_ ?_
  rotate_left
  · rintro _ u hu
    refine Ok.bd _ (nX12_takesRow (hu.gm hG) hs (hu.pts en) hn hu.2.2) ?_
    rintro _ w ⟨hw, -⟩
    exact Ok.ret ⟨hw, True.intro⟩
  refine Ok.loop (fun k c u => OX t u ∧ ∃ S m l, c = (nI m, nI l) ∧ l ≤ 10 ∧ k = 10 - l ∧ S < 512 ∧ cnt S n = m ∧ (∀ p, p < n → (S.testBit p = true ↔ L p < l)) ∧ ∀ p, S.testBit p = true → ∃ k, k < m ∧ u 154 k = nI p) ?_ 10 _ _ ⟨⟨hG.tt, fun _ _ => rfl⟩, 0, 0, 0, rfl, by omega, rfl, by omega, cnt_0 n, fun p hp => by simp, fun p hp => by simp at hp⟩
  intro k c u hI
  obtain ⟨hu, S, m, l, rfl, hl, rfl, hS, hc, hb, hrow⟩ := hI
  unfold SX12_layers_17
  dsimp only
  refine Ok.ite (fun c1 => Ok.ret ⟨hu.1, hu.2, fun p hp => ?_⟩) (fun c1 => ?_)
  · rw [li_9, nI_ltP (by omega) (by omega)] at c1
    obtain ⟨k, hk, e⟩ := hrow p ((hb p hp).mpr (by have := (hL p (by omega)).1; omega))
    have := cnt_le (S := S) (n := n)
    exact ⟨k, by omega, e⟩
  rw [li_9, nI_ltP (by omega) (by omega)] at c1
  refine Ok.bd (fun v w => OX t w ∧ ∃ S m, v = nI m ∧ S < 512 ∧ cnt S n = m ∧ (∀ p, p < n → (S.testBit p = true ↔ L p < l + 1)) ∧ ∀ p, S.testBit p = true → ∃ k, k < m ∧ w 154 k = nI p) ?_ ?_
  rotate_left
  · rintro _ w ⟨hw, S, m, rfl, h1, h2, h3, h4⟩
    exact Ok.ret ⟨10 - (l + 1), by omega, hw, S, m, l + 1, by rw [nI_1], by omega, rfl, h1, h2, h3, h4⟩
  refine Ok.loop (fun k c w => OX t w ∧ ∃ S m j, c = (nI m, nI j) ∧ j ≤ n ∧ k = n - j ∧ S < 512 ∧ cnt S n = m ∧ (∀ p, p < n → (S.testBit p = true ↔ (L p < l ∨ (L p = l ∧ p < j)))) ∧ ∀ p, S.testBit p = true → ∃ k, k < m ∧ w 154 k = nI p) ?_ n _ _ ⟨hu, S, m, 0, rfl, by omega, rfl, hS, hc, fun p hp => (hb p hp).trans (by omega), hrow⟩
  clear hu hS hc hb hrow
  intro k c w hI
  obtain ⟨hw, S, m, j, rfl, hj, rfl, hS, hc, hb, hrow⟩ := hI
  have ew : w 150 (91 * s) = nI n := by rw [hw.2 150 (by decide)]; exact en
  unfold SX12_layers_27
  dsimp only
  refine Ok.bd _ (xX12_points hw.1 hs) ?_
  rintro _ _ ⟨rfl, rfl⟩
  rw [ew]
  refine Ok.ite (fun c2 => Ok.ret ⟨hw, S, m, rfl, hS, hc, fun p hp => ?_, hrow⟩) (fun c2 => ?_)
  · rw [nI_leP (by omega) (by omega)] at c2
    rw [hb p hp]
    omega
  rw [nI_leP (by omega) (by omega)] at c2
  refine Ok.bd _ (far hw (p := j) (by omega)) ?_
  rintro _ _ ⟨rfl, rfl⟩
  refine Ok.bd (fun v y => w = y ∧ v = lvl l) ?_ ?_
  · unfold lvl
    refine Ok.ite (fun c3 => Ok.ret ⟨rfl, ?_⟩) (fun c3 => Ok.ret ⟨rfl, ?_⟩)
    · rw [li_9] at c3
      rw [if_pos (nI_inj (b := 9) c3 (by omega) (by omega))]
    · rw [if_neg (fun e => c3 (by rw [e]; rfl))]
  rintro _ _ ⟨rfl, rfl⟩
  refine Ok.bd (fun v y => OX t y ∧ ∃ S m, v = nI m ∧ S < 512 ∧ cnt S n = m ∧ (∀ p, p < n → (S.testBit p = true ↔ (L p < l ∨ (L p = l ∧ p < j + 1)))) ∧ ∀ p, S.testBit p = true → ∃ k, k < m ∧ y 154 k = nI p) ?_ ?_
  rotate_left
  · rintro _ y ⟨hy, S, m, rfl, h1, h2, h3, h4⟩
    exact Ok.ret ⟨n - (j + 1), by omega, hy, S, m, j + 1, by rw [nI_1], by omega, rfl, h1, h2, h3, h4⟩
  have hLj := (hL j (by omega)).1
  refine Ok.ite (fun c3 => ?_) (fun c3 => Ok.ret ⟨hw, S, m, rfl, hS, hc, fun p hp => ?_, hrow⟩)
  · have el := lvl_inj hLj (by omega) c3
    have hbj : S.testBit j = false := by
      cases h : S.testBit j
      · rfl
      · have := (hb j (by omega)).mp h
        omega
    have hlt := cnt_lt (S := S) (p := j) (n := n) (by omega) hbj
    refine Ok.ck (inb_n (by omega) (by omega)) (fun _ => Ok.wr (fun y ey => ?_))
    rw [nI_cl (by omega)] at ey
    refine Ok.ret ⟨⟨?_, fun b hb' => ?_⟩, S ||| 2 ^ j, m + 1, nI_1 m, or9 hS (pw9 (by omega)), ?_, fun p hp => ?_, fun p hp => ?_⟩
    · rw [ey]
      exact hw.1.wr (Or.inr (by rw [ty_a154 (by omega)]; exact ⟨j, by omega, rfl⟩))
    · rw [wo ey hb']
      exact hw.2 b hb'
    · rw [cnt_or hbj, if_pos (by omega), hc]
    · rw [Nat.testBit_or, Nat.testBit_two_pow]
      by_cases e : j = p
      · subst e
        simp
        omega
      · simp only [e, decide_false, Bool.or_false]
        rw [hb p hp]
        omega
    · rw [Nat.testBit_or, Nat.testBit_two_pow] at hp
      rw [ey, wr_at]
      by_cases e : j = p
      · exact ⟨m, by omega, by rw [pk_us, e]⟩
      · have hp' : S.testBit p = true := by simpa [e] using hp
        obtain ⟨k, hk, h⟩ := hrow p hp'
        exact ⟨k, by omega, by rw [pk_un (by omega)]; exact h⟩
  · rw [hb p hp]
    have : L j ≠ l := fun e => c3 (by rw [e])
    by_cases e : p = j
    · subst e
      omega
    · omega
end
section
/-! the reference is fed (wip/ext/g44.py) -/
theorem and255 (x : Int32) : IsR 256 (x &&& 255) := by
  have e : x = nI x.toBitVec.toNat := by
    apply Int32.toBitVec_inj.mp
    apply BitVec.eq_of_toNat_eq
    show _ = x.toBitVec.toNat % 2 ^ 32
    rw [Nat.mod_eq_of_lt x.toBitVec.isLt]
  rw [e, show (255 : Int32) = nI 255 from rfl, nI_and]
  exact ⟨_, Nat.lt_of_le_of_lt Nat.and_le_right (by omega), rfl⟩
theorem nX12_feed {t : St} (hT : TY t) (hP : PI t) {k : Nat} (ek : t 149 5 = nI k) (hk : k < 401) {a b c d e : Int32} : Ok (FX12_feed a b c d e t) (fun r u => (380 < k ∧ r = -1 ∧ t = u) ∨ (k ≤ 380 ∧ r = nI (k + 20) ∧ TY u ∧ (∀ b, b < 149 → u b = t b) ∧ PI u ∧ u 149 5 = nI (k + 20))) := by
  unfold FX12_feed
  refine Ok.rd (fun v1 h1 => ?_)
  rw [ek] at h1
  subst h1
  refine Ok.ite (fun c1 => ?_) (fun c1 => Ok.ret (Or.inl ⟨?_, rfl, rfl⟩))
  rotate_left
  · rw [li_380, nI_leP (by omega) (by omega)] at c1
    omega
  rw [li_380, nI_leP (by omega) (by omega)] at c1
  generalize upd (upd (upd (upd (upd (fun _ => 0) (0 : Int32).toNatClampNeg a) (1 : Int32).toNatClampNeg b) (2 : Int32).toNatClampNeg c) (3 : Int32).toNatClampNeg d) (4 : Int32).toNatClampNeg e = ff
  refine Ok.bd (fun _ u => TY u ∧ ∀ b, b ≠ 153 → u b = t b) ?_ ?_
  · refine Ok.loop (fun n c u => (TY u ∧ ∀ b, b ≠ 153 → u b = t b) ∧ ∃ j, c = nI j ∧ j ≤ 20 ∧ n = 20 - j) ?_ 20 _ _ ⟨⟨hT, fun _ _ => rfl⟩, 0, rfl, by omega, rfl⟩
    intro n c u hI
    obtain ⟨⟨hu, ho⟩, j, rfl, hj, rfl⟩ := hI
    unfold SX12_feed_42
    refine Ok.ite (fun _ => Ok.ret ⟨hu, ho⟩) (fun c2 => ?_)
    rw [li_20, nI_leP (by omega) (by omega)] at c2
    refine Ok.rd (fun v5 h5 => ?_)
    rw [ho 149 (by decide), ek] at h5
    subst h5
    have e4 : nI j / 4 = nI (j / 4) := by rw [li_4, nI_divN (by omega) (by omega) (by omega)]
    rw [e4, nI_add]
    refine Ok.ck (inb_n (by omega) (by omega)) (fun _ => Ok.ck (inb_n (by omega) (by omega)) (fun _ => Ok.wr (fun w ew => ?_)))
    rw [nI_cl (n := k + j) (by omega)] at ew
    refine Ok.ret ⟨20 - (j + 1), by omega, ⟨?_, fun b hb => by rw [wo ew hb]; exact ho b hb⟩, j + 1, nI_1 j, by omega, rfl⟩
    rw [ew]
    exact hu.wr (Or.inr (by rw [ty_a153 (by omega)]; exact and255 _))
  rintro _ u ⟨hu, ho⟩
  refine Ok.rd (fun v15 h15 => Ok.wr (fun w ew => Ok.rd (fun v19 h19 => Ok.ret (Or.inr ?_))))
  rw [ho 149 (by decide), ek] at h15
  subst h15
  have e20 : nI k + 20 = nI (k + 20) := by rw [li_20, nI_add]
  rw [e20] at ew
  have w5 : w 149 5 = nI (k + 20) := ws ew
  refine ⟨c1, h19.trans w5, ?_, fun b hb => by rw [wo ew (by omega)]; exact ho b (by omega), ?_, w5⟩
  · rw [ew]
    exact hu.wr (Or.inr (by rw [ty_m5]; exact ⟨k + 20, by omega, rfl⟩))
  · unfold PI
    rw [wo ew (by decide), wo ew (by decide), wo ew (by decide), ho 150 (by decide), ho 151 (by decide), ho 152 (by decide)]
    exact hP
end
section
/-! the class is fed, ended, told (wip/ext/g45.py) -/
theorem xX1_hasRoom {t : St} {k j : Nat} (ek : t 1 1 = nI k) (hk : k < 401) (hj : j < 100) : Ok (FX1_hasRoom_1 (nI j) t) (fun r u => t = u ∧ ((r = 0 ∧ 400 < k + j) ∨ (r = 1 ∧ k + j ≤ 400))) := by
  unfold FX1_hasRoom_1
  refine Ok.rd (fun v1 h1 => ?_)
  rw [ek] at h1
  subst h1
  have e4 : Int32.ofNat 400 = nI 400 := rfl
  rw [nI_add, e4]
  refine Ok.ite (fun c => Ok.ret ⟨rfl, Or.inl ⟨rfl, ?_⟩⟩) (fun c => Ok.ret ⟨rfl, Or.inr ⟨rfl, ?_⟩⟩)
  · rw [nI_ltP (by omega) (by omega)] at c
    exact c
  · rw [nI_ltP (by omega) (by omega)] at c
    omega
/-- only the tape has changed, and so much is taped -/
def TP (t : St) (k : Nat) (u : St) : Prop := TY u ∧ (∀ b, b ≠ 1 → b ≠ 2 → u b = t b) ∧ u 1 1 = nI k
theorem xX1_put {t u : St} {k : Nat} (h : TP t k u) (hk : k < 400) {a : Int32} : Ok (FX1_put_1 a u) (fun _ w => TP t (k + 1) w) := by
  unfold FX1_put_1
  obtain ⟨hT, ho, e1⟩ := h
  refine Ok.bd _ (xX1_hasRoom (j := 1) e1 (by omega) (by omega)) ?_
  rintro v _ ⟨rfl, hv⟩
  refine Ok.ite (fun c => ?_) (fun _ => ?_)
  · rcases hv with ⟨-, h⟩ | ⟨h, -⟩
    · omega
    · exact absurd (h.symm.trans c) (by decide)
  refine Ok.rd (fun v6 h6 => ?_)
  rw [e1] at h6
  subst h6
  refine Ok.ck (inb_n (by omega) (by omega)) (fun _ => Ok.wr (fun w ew => Ok.rd (fun v11 h11 => Ok.wr (fun x ex => ?_))))
  rw [wo ew (by decide), e1] at h11
  subst h11
  rw [nI_1] at ex
  refine Ok.ret ⟨?_, fun b h1 h2 => by rw [wo ex h1, wo ew h2]; exact ho b h1 h2, by rw [ex, wr_at, pk_us]⟩
  rw [ex]
  refine TY.wr ?_ (Or.inr (by rw [ty_11]; exact ⟨k + 1, by omega, rfl⟩))
  rw [ew]
  exact hT.wr (Or.inl rfl)
theorem xX1_putFour {t u : St} {k : Nat} (h : TP t k u) (hk : k + 4 ≤ 400) {a : Int32} : Ok (FX1_putFour_1 a u) (fun _ w => TP t (k + 4) w) := by
  unfold FX1_putFour_1
  refine Ok.bd _ (xX1_put h (by omega)) ?_
  rintro _ w1 h1
  refine Ok.bd _ (xX1_put h1 (by omega)) ?_
  rintro _ w2 h2
  refine Ok.bd _ (xX1_put h2 (by omega)) ?_
  rintro _ w3 h3
  refine Ok.bd _ (xX1_put h3 (by omega)) ?_
  rintro _ w4 h4
  exact Ok.ret h4
theorem gX11_feed {t : St} (hT : TY t) {k : Nat} (ek : t 1 1 = nI k) (hk : k < 401) {a b c d e : Int32} : Ok (FX11_feed a b c d e t) (fun r u => (380 < k ∧ r = -1 ∧ t = u) ∨ (k ≤ 380 ∧ r = nI (k + 20) ∧ TP t (k + 20) u)) := by
  unfold FX11_feed
  refine Ok.bd _ (xX1_hasRoom (j := 20) ek hk (by omega)) ?_
  rintro v _ ⟨rfl, hv⟩
  refine Ok.ite (fun c => Ok.ret (Or.inl ⟨?_, rfl, rfl⟩)) (fun c => ?_)
  · rcases hv with ⟨-, h⟩ | ⟨h, -⟩
    · omega
    · exact absurd (h.symm.trans c) (by decide)
  have h20 := (hv.resolve_left (fun h => c h.1)).2
  have h0 : TP t k t := ⟨hT, fun _ _ _ => rfl, ek⟩
  refine Ok.bd _ (xX1_putFour h0 (by omega)) ?_
  rintro _ w1 h1
  refine Ok.bd _ (xX1_putFour h1 (by omega)) ?_
  rintro _ w2 h2
  refine Ok.bd _ (xX1_putFour h2 (by omega)) ?_
  rintro _ w3 h3
  refine Ok.bd _ (xX1_putFour h3 (by omega)) ?_
  rintro _ w4 h4
  refine Ok.bd _ (xX1_putFour h4 (by omega)) ?_
  rintro _ w5 h5
  exact Ok.rd (fun v20 h20 => Ok.ret (Or.inr ⟨by omega, h20.trans h5.2.2, h5⟩))
theorem gX11_end {t : St} (hT : TY t) {k : Nat} (ek : t 1 1 = nI k) (hk : k < 401) {a : Int32} : Ok (FX11_end a t) (fun r u => (r = -1 ∧ t = u ∧ ¬ (0 ≤ a.toInt ∧ a.toInt ≤ k)) ∨ (r = a ∧ ∃ j, j ≤ k ∧ a = nI j ∧ TP t j u)) := by
  unfold FX11_end
  have z : (0 : Int32).toInt = 0 := by decide
  refine Ok.ite (fun c => Ok.ret (Or.inl ⟨rfl, rfl, ?_⟩)) (fun c => ?_)
  · rw [Int32.lt_iff_toInt_lt, z] at c
    omega
  obtain ⟨j, hj, rfl⟩ := nI_of c
  refine Ok.rd (fun v3 h3 => ?_)
  rw [ek] at h3
  subst h3
  refine Ok.ite (fun c2 => ?_) (fun c2 => Ok.ret (Or.inl ⟨rfl, rfl, ?_⟩))
  · rw [nI_leP hj (by omega)] at c2
    refine Ok.wr (fun w ew => Ok.ret (Or.inr ⟨rfl, j, c2, rfl, ?_, fun b h1 _ => by rw [wo ew h1], by rw [ew, wr_at, pk_us]⟩))
    rw [ew]
    exact hT.wr (Or.inr (by rw [ty_11]; exact ⟨j, by omega, rfl⟩))
  · rw [nI_leP hj (by omega)] at c2
    rw [nI_toInt hj]
    omega
theorem GC.tap {σ t u : St} {v : Int32} (h : GC σ t) (e : u = wr t 1 1 v) (hv : IsR 401 v) : GC (wr σ 1 1 v) u := by
  refine ⟨by rw [e]; exact h.1.wr (Or.inr (by rw [ty_11]; exact hv)), fun b hb => ?_⟩
  by_cases q : b = 1
  · subst q
    rw [e, wr_at, wr_at, h.2 1 (by omega)]
  · rw [e, wr_off b q, wr_off b q]
    exact h.2 b hb
theorem gX11_told {σ t : St} (hG : GC σ t) {a : Int32} : Ok (FX11_told a t) (fun r u => (¬ IsR 3 a ∧ t = u) ∨ (IsR 3 a ∧ GC (wr σ 1 1 0) u)) := by
  unfold FX11_told
  refine Ok.bd (fun v u => t = u ∧ ((v = 0 ∧ ¬ IsR 3 a) ∨ (v = 1 ∧ IsR 3 a))) ?_ ?_
  · unfold FX11_isSlot
    refine Ok.ite (fun c => Ok.ret ⟨rfl, Or.inl ⟨rfl, ?_⟩⟩) (fun c => ?_)
    · rintro ⟨k, hk, rfl⟩
      rw [li_0, nI_ltP (by omega) (by omega)] at c
      omega
    obtain ⟨j, hj, rfl⟩ := nI_of c
    refine Ok.ite (fun c2 => Ok.ret ⟨rfl, Or.inl ⟨rfl, ?_⟩⟩) (fun c2 => Ok.ret ⟨rfl, Or.inr ⟨rfl, j, ?_, rfl⟩⟩)
    · rintro ⟨k, hk, e⟩
      have := nI_inj e (by omega) (by omega)
      rw [li_3, nI_leP (by omega) (by omega)] at c2
      omega
    · rw [li_3, nI_leP (by omega) (by omega)] at c2
      omega
  rintro v _ ⟨rfl, hv⟩
  refine Ok.ite (fun c => Ok.ret (Or.inl ⟨(hv.resolve_right (fun h => absurd (h.1.symm.trans c) (by decide))).2, rfl⟩)) (fun c => ?_)
  have ha := (hv.resolve_left (fun h => c h.1)).2
  refine Ok.bd _ (gX7_readAll hG) ?_
  rintro v5 t6 ⟨g6, -, -⟩
  refine Ok.wr (fun t8 e8 => ?_)
  have g8 := g6.tap e8 ⟨0, by omega, rfl⟩
  refine Ok.ite (fun _ => Ok.ret (Or.inr ⟨ha, g8⟩)) (fun _ => ?_)
  have hel := el_10 ha
  refine Ok.ck (ha.ib (by decide)) (fun _ => Ok.ck hel (fun _ => ?_))
  refine Ok.bd _ (gX5_copyFrom g8 (by decide +kernel) hel) ?_
  rintro _ t14 ⟨g14, -⟩
  refine Ok.bd _ (gX5_copyFrom g14 hel (by decide +kernel)) ?_
  rintro _ t17 ⟨g17, -⟩
  refine Ok.bd _ (gX11_noteAct g17 ha) ?_
  rintro _ t20 ⟨g20, -⟩
  exact Ok.rd (fun v _ => Ok.ret (Or.inr ⟨ha, g20⟩))
end
