/-! the reference: bounds of what it counts; it tells (wip/ext/g38.py) -/
theorem IsR.or9 {x y : Int32} (h : IsR 512 x) (h2 : IsR 512 y) : IsR 512 (x ||| y) := by
  obtain ⟨a, ha, rfl⟩ := h
  obtain ⟨b, hb, rfl⟩ := h2
  exact ⟨a ||| b, Nat.or_lt_two_pow (n := 9) ha hb, nI_or a b⟩
theorem IsR.and9 {x y : Int32} (h : IsR 512 x) : IsR 512 (x &&& y) := by
  obtain ⟨a, ha, rfl⟩ := h
  have e : y = nI y.toBitVec.toNat := by
    apply Int32.toBitVec_inj.mp
    apply BitVec.eq_of_toNat_eq
    show _ = y.toBitVec.toNat % 2 ^ 32
    rw [Nat.mod_eq_of_lt y.toBitVec.isLt]
  rw [e, nI_and]
  exact ⟨_, Nat.lt_of_le_of_lt Nat.and_le_left ha, rfl⟩
theorem bX12_nearOf {t : St} (hT : TY t) {a b : Int32} (h_a : IsR 3 a) (h_b : IsR 9 b) : Ok (FX12_nearOf a b t) (fun r u => t = u ∧ IsR 512 r) := by
  unfold FX12_nearOf
  refine Ok.bd (fun r u => t = u ∧ IsR 512 r) ?_ (fun _ _ h => Ok.ret h)
  refine Ok.loop (fun k c s => t = s ∧ IsR 512 c.1 ∧ ∃ j, c.2 = nI j ∧ j ≤ 9 ∧ k = 9 - j) ?_ 9 _ _ ⟨rfl, ⟨0, by omega, rfl⟩, 0, rfl, by omega, rfl⟩
  intro k c s hI
  obtain ⟨rfl, h1, j, ej, hj, rfl⟩ := hI
  obtain ⟨c0, c1⟩ := c
  dsimp only at ej h1
  subst ej
  unfold SX12_nearOf_5
  dsimp only
  refine Ok.bd _ (rX12_points hT h_a) ?_
  rintro _ _ ⟨rfl, n, hn, rfl⟩
  refine Ok.ite (fun _ => Ok.ret ⟨rfl, h1⟩) (fun c1 => ?_)
  rw [nI_leP (by omega) (by omega)] at c1
  refine Ok.bd _ (rX12_weight hT h_a h_b ⟨j, by omega, rfl⟩) ?_
  rintro v5 _ ⟨rfl, -⟩
  refine Ok.bd (fun v u => t = u ∧ IsR 512 v) ?_ ?_
  · exact Ok.ite (fun _ => Ok.ret ⟨rfl, 0, by omega, rfl⟩) (fun _ => Ok.ret ⟨rfl, 2 ^ j, pw9 (by omega), shl_1 (by omega)⟩)
  · rintro v9 _ ⟨rfl, h9⟩
    exact Ok.ret ⟨9 - (j + 1), by omega, rfl, h1.or9 h9, j + 1, nI_1 j, by omega, rfl⟩
theorem bX12_ones {t : St} {a : Int32} (h : IsR 512 a) : Ok (FX12_ones a t) (fun r u => t = u ∧ IsR 512 r) := by
  unfold FX12_ones
  obtain ⟨m, hm, rfl⟩ := h
  refine Ok.bd (fun r u => t = u ∧ IsR 512 r) ?_ (fun _ _ h => Ok.ret h)
  refine Ok.loop (fun k c s => t = s ∧ k = c.2.toBitVec.toNat ∧ ∃ i, c.1 = nI i ∧ i + k ≤ m) ?_ _ _ _ ⟨rfl, rfl, 0, rfl, ?_⟩
  · intro k c s hI
    obtain ⟨rfl, rfl, i, ei, hi⟩ := hI
    obtain ⟨c0, c1⟩ := c
    dsimp only at ei hi
    subst ei
    unfold SX12_ones_4
    dsimp only
    refine Ok.ite (fun _ => Ok.ret ⟨rfl, i, by omega, rfl⟩) (fun c2 => ?_)
    have := nd_dec c2
    exact Ok.ret ⟨_, this, rfl, rfl, i + 1, nI_1 i, Nat.le_trans (by have h3 : i + 1 + (c1 &&& (c1 - 1)).toBitVec.toNat ≤ i + c1.toBitVec.toNat := (by omega); exact h3) hi⟩
  · show 0 + m % 4294967296 ≤ m
    omega
theorem bX12_neighbours {t : St} (hT : TY t) {a b c : Int32} (h_a : IsR 3 a) (h_c : IsR 9 c) : Ok (FX12_neighbours a b c t) (fun r u => t = u ∧ IsR 512 r) := by
  unfold FX12_neighbours
  refine Ok.bd _ (bX12_nearOf hT h_a h_c) ?_
  rintro v1 _ ⟨rfl, h1⟩
  refine Ok.bd (fun r u => t = u ∧ IsR 512 r) ?_ (fun x u h => Ok.ret ⟨h.1, h.2.and9.and9⟩)
  refine Ok.loop (fun k c s => t = s ∧ IsR 512 c.1 ∧ c.1 ||| c.2 = c.1 ∧ k = (if c.2 = c.1 then 0 else 1 + (4294967296 - c.2.toBitVec.toNat))) ?_ _ _ _ ⟨rfl, h1, ?_, rfl⟩
  · intro k x s hI
    obtain ⟨rfl, h5, hx, rfl⟩ := hI
    unfold SX12_neighbours_11
    refine Ok.ite (fun _ => Ok.ret ⟨rfl, h5⟩) (fun c0 => ?_)
    rw [if_neg c0]
    refine Ok.bd (fun e u => t = u ∧ IsR 512 e ∧ e ||| x.1 = e) ?_ ?_
    · refine Ok.loop (fun k c s => t = s ∧ IsR 512 c.1 ∧ c.1 ||| x.1 = c.1 ∧ ∃ j, c.2 = nI j ∧ j ≤ 9 ∧ k = 9 - j) ?_ 9 _ _ ⟨rfl, h5, Int32.or_self, 0, rfl, by omega, rfl⟩
      intro k c s hI
      obtain ⟨rfl, h6, ho, j, ej, hj, rfl⟩ := hI
      obtain ⟨c0', c1'⟩ := c
      dsimp only at ej ho h6
      subst ej
      unfold SX12_neighbours_25
      dsimp only
      refine Ok.bd _ (rX12_points hT h_a) ?_
      rintro _ _ ⟨rfl, n, hn, rfl⟩
      refine Ok.ite (fun _ => Ok.ret ⟨rfl, h6, ho⟩) (fun c1 => ?_)
      rw [nI_leP (by omega) (by omega)] at c1
      refine Ok.bd _ (rX12_has hT) ?_
      rintro v9 _ ⟨rfl, -, -⟩
      refine Ok.bd (fun v u => t = u ∧ IsR 512 v) ?_ ?_
      · refine Ok.ite (fun _ => Ok.ret ⟨rfl, 0, by omega, rfl⟩) (fun _ => ?_)
        refine Ok.bd _ (bX12_nearOf hT h_a ⟨j, by omega, rfl⟩) ?_
        rintro v17 _ ⟨rfl, h17⟩
        exact Ok.ret ⟨rfl, h17⟩
      · rintro v13 _ ⟨rfl, h13⟩
        exact Ok.ret ⟨9 - (j + 1), by omega, rfl, h6.or9 h13, or_keep ho, j + 1, nI_1 j, by omega, rfl⟩
    · rintro e _ ⟨rfl, h7, ho⟩
      refine Ok.ret ⟨_, ?_, rfl, h7, ho, rfl⟩
      show (if x.1 = e then 0 else 1 + (4294967296 - x.1.toBitVec.toNat)) < 1 + (4294967296 - x.2.toBitVec.toNat)
      have hlt := gr_dec hx (fun q => c0 q.symm)
      split <;> omega
  · show v1 ||| 0 = v1
    exact Int32.or_zero
theorem bX12_fillOf {t : St} (hT : TY t) {a b c : Int32} (h_a : IsR 3 a) (h_c : IsR 9 c) : Ok (FX12_fillOf a b c t) (fun r u => t = u ∧ IsR 10000 r) := by
  unfold FX12_fillOf
  refine Ok.bd _ (bX12_neighbours hT h_a h_c) ?_
  rintro v1 _ ⟨rfl, h1⟩
  refine Ok.bd (fun r u => t = u ∧ IsR 10000 r) ?_ (fun _ _ h => Ok.ret h)
  refine Ok.loop (fun k c s => t = s ∧ ∃ w j, c = (nI w, nI j) ∧ w ≤ 511 * j ∧ j ≤ 9 ∧ k = 9 - j) ?_ 9 _ _ ⟨rfl, 0, 0, rfl, by omega, by omega, rfl⟩
  intro k c s hI
  obtain ⟨rfl, w, j, rfl, hw, hj, rfl⟩ := hI
  unfold SX12_fillOf_15
  dsimp only
  refine Ok.bd _ (rX12_points hT h_a) ?_
  rintro _ _ ⟨rfl, n, hn, rfl⟩
  refine Ok.ite (fun _ => Ok.ret ⟨rfl, w, by omega, rfl⟩) (fun c1 => ?_)
  rw [nI_leP (by omega) (by omega)] at c1
  refine Ok.bd _ (rX12_has hT) ?_
  rintro v8 _ ⟨rfl, -, -⟩
  refine Ok.bd (fun v u => t = u ∧ IsR 512 v) ?_ ?_
  · refine Ok.ite (fun _ => Ok.ret ⟨rfl, 0, by omega, rfl⟩) (fun _ => ?_)
    refine Ok.bd _ (bX12_neighbours hT h_a ⟨j, by omega, rfl⟩) ?_
    rintro v16 _ ⟨rfl, -⟩
    refine Ok.bd _ (bX12_ones h1.and9.and9) ?_
    rintro v19 _ ⟨rfl, h19⟩
    exact Ok.ret ⟨rfl, h19⟩
  · rintro _ _ ⟨rfl, q, hq, rfl⟩
    exact Ok.ret ⟨9 - (j + 1), by omega, rfl, w + q, j + 1, by rw [nI_add, nI_1], by omega, by omega, rfl⟩
theorem bX12_splitOf {t : St} (hT : TY t) {a b c : Int32} (h_a : IsR 3 a) : Ok (FX12_splitOf a b c t) (fun r u => t = u ∧ IsR 10000 r) := by
  unfold FX12_splitOf
  refine Ok.bd (fun r u => t = u ∧ IsR 10000 r) ?_ (fun _ _ h => Ok.ret h)
  refine Ok.loop (fun k c s => t = s ∧ ∃ w j, c = (nI w, nI j) ∧ w ≤ 81 * j ∧ j ≤ 9 ∧ k = 9 - j) ?_ 9 _ _ ⟨rfl, 0, 0, rfl, by omega, by omega, rfl⟩
  intro k c s hI
  obtain ⟨rfl, w, j, rfl, hw, hj, rfl⟩ := hI
  unfold SX12_splitOf_6
  dsimp only
  refine Ok.bd _ (rX12_points hT h_a) ?_
  rintro _ _ ⟨rfl, n, hn, rfl⟩
  refine Ok.ite (fun _ => Ok.ret ⟨rfl, w, by omega, rfl⟩) (fun c1 => ?_)
  rw [nI_leP (by omega) (by omega)] at c1
  refine Ok.bd _ (rX12_nearOf hT h_a ⟨j, by omega, rfl⟩) ?_
  rintro v5 _ ⟨rfl, -⟩
  refine Ok.bd _ (rX12_has hT) ?_
  rintro v8 _ ⟨rfl, -, -⟩
  refine Ok.bd (fun v u => t = u) (Ok.ite (fun _ => Ok.ret rfl) (fun _ => Ok.ret rfl)) ?_
  rintro v12 _ rfl
  refine Ok.bd (fun v u => t = u ∧ ∃ w', v = nI w' ∧ w' ≤ 81 * (j + 1)) ?_ ?_
  · refine Ok.ite (fun _ => ?_) (fun _ => Ok.ite (fun _ => ?_) (fun _ => ?_))
    · refine Ok.bd _ (rX12_has hT) ?_
      rintro v54 _ ⟨rfl, -, -⟩
      refine Ok.bd (fun v u => t = u ∧ IsR 2 v) (Ok.ite (fun _ => Ok.ret ⟨rfl, 0, by omega, rfl⟩) (fun _ => Ok.ite (fun _ => Ok.ret ⟨rfl, 0, by omega, rfl⟩) (fun _ => Ok.ret ⟨rfl, 1, by omega, rfl⟩))) ?_
      rintro _ _ ⟨rfl, q, hq, rfl⟩
      exact Ok.ret ⟨rfl, w + q, nI_add w q, by omega⟩
    · refine Ok.bd _ (rX12_has hT) ?_
      rintro v54 _ ⟨rfl, -, -⟩
      refine Ok.bd (fun v u => t = u ∧ IsR 2 v) (Ok.ite (fun _ => Ok.ite (fun _ => Ok.ret ⟨rfl, 0, by omega, rfl⟩) (fun _ => Ok.ret ⟨rfl, 1, by omega, rfl⟩)) (fun _ => Ok.ret ⟨rfl, 0, by omega, rfl⟩)) ?_
      rintro _ _ ⟨rfl, q, hq, rfl⟩
      exact Ok.ret ⟨rfl, w + q, nI_add w q, by omega⟩
    · refine Ok.bd _ (rX12_has hT) ?_
      rintro v22 _ ⟨rfl, -, -⟩
      refine Ok.ite (fun _ => Ok.ret ⟨rfl, w, rfl, by omega⟩) (fun _ => ?_)
      refine Ok.bd (fun v u => t = u ∧ ∃ w', v = nI w' ∧ w' ≤ 81 * (j + 1)) ?_ (fun _ _ h => Ok.ret h)
      refine Ok.loop (fun k c s => t = s ∧ ∃ w' i, c = (nI w', nI i) ∧ w' ≤ 81 * j + 9 * i ∧ i ≤ 9 ∧ k = 9 - i) ?_ 9 _ _ ⟨rfl, w, 0, rfl, by omega, by omega, rfl⟩
      intro k c s hI
      obtain ⟨rfl, w', i, rfl, hw', hi, rfl⟩ := hI
      unfold SX12_splitOf_118
      dsimp only
      refine Ok.bd _ (rX12_points hT h_a) ?_
      rintro _ _ ⟨rfl, n2, hn2, rfl⟩
      refine Ok.ite (fun _ => Ok.ret ⟨rfl, w', rfl, by omega⟩) (fun c2 => ?_)
      rw [nI_leP (by omega) (by omega)] at c2
      refine Ok.bd _ (rX12_has hT) ?_
      rintro v30 _ ⟨rfl, -, -⟩
      refine Ok.bd (fun v u => t = u ∧ IsR 10 v) ?_ ?_
      · refine Ok.ite (fun _ => ?_) (fun _ => Ok.ret ⟨rfl, 0, by omega, rfl⟩)
        refine Ok.bd _ (rX12_weight hT h_a ⟨j, by omega, rfl⟩ ⟨i, by omega, rfl⟩) ?_
        rintro v38 _ ⟨rfl, h38⟩
        exact Ok.ret ⟨rfl, h38⟩
      · rintro _ _ ⟨rfl, q, hq, rfl⟩
        exact Ok.ret ⟨9 - (i + 1), by omega, rfl, w' + q, i + 1, by rw [nI_add, nI_1], by omega, by omega, rfl⟩
  · rintro _ _ ⟨rfl, w2, rfl, h2⟩
    exact Ok.ret ⟨9 - (j + 1), by omega, rfl, w2, j + 1, by rw [nI_1], h2, by omega, rfl⟩
theorem bX12_cost {t : St} (hT : TY t) {a b c d : Int32} (h_a : IsR 3 a) (h_d : IsR 9 d) : Ok (FX12_cost a b c d t) (fun r u => t = u ∧ IsR 10000 r) := by
  unfold FX12_cost
  refine Ok.ite (fun _ => ?_) (fun _ => Ok.ite (fun _ => ?_) (fun _ => ?_))
  · refine Ok.bd _ (bX12_neighbours hT h_a h_d) ?_
    rintro v22 _ ⟨rfl, h22⟩
    refine Ok.bd _ (bX12_ones h22) ?_
    rintro v25 _ ⟨rfl, h25⟩
    exact Ok.ret ⟨rfl, h25.up (by omega)⟩
  · refine Ok.bd _ (bX12_fillOf hT h_a h_d) ?_
    rintro v _ ⟨rfl, h⟩
    exact Ok.ret ⟨rfl, h⟩
  · refine Ok.bd _ (rX12_points hT h_a) ?_
    rintro v3 _ ⟨rfl, -⟩
    refine Ok.ite (fun _ => Ok.ret ⟨rfl, 0, by omega, rfl⟩) (fun _ => ?_)
    refine Ok.bd (fun v u => t = u) (Ok.ite (fun _ => Ok.ret rfl) (fun _ => Ok.ite (fun _ => Ok.ret rfl) (fun _ => Ok.ret rfl))) ?_
    rintro v8 _ rfl
    refine Ok.bd _ (bX12_splitOf hT h_a) ?_
    rintro v _ ⟨rfl, h⟩
    exact Ok.ret ⟨rfl, h⟩
theorem bX12_priceOf {t : St} (hT : TY t) {a : Int32} {i : Nat} (h_a : IsR 3 a) (h1 : 1 ≤ i) (hi : i < 10) : Ok (FX12_priceOf a 0 (nI i) t) (fun r u => t = u ∧ IsR 10000 r) := by
  unfold FX12_priceOf
  refine Ok.bd (fun v u => t = u ∧ v = 0) (tko (fun h => absurd h (by decide)) (fun _ => ⟨rfl, rfl⟩)) ?_
  rintro _ _ ⟨rfl, rfl⟩
  refine Ok.ite (fun _ => ?_) (fun c => absurd rfl c)
  have e : nI i - 1 = nI (i - 1) := by rw [li_1, nI_sub (by omega)]
  rw [e]
  refine Ok.bd _ (rX12_aheadOf hT h_a ⟨i - 1, by omega, rfl⟩) ?_
  rintro v5 _ ⟨rfl, -⟩
  refine Ok.bd _ (rX12_at hT h_a ⟨i - 1, by omega, rfl⟩) ?_
  rintro v8 _ ⟨rfl, h8⟩
  refine Ok.bd _ (bX12_cost hT h_a h8) ?_
  rintro v11 _ ⟨rfl, h11⟩
  exact Ok.ret ⟨rfl, h11⟩
/-- so much is told at most -/
def OB (m : Nat) (u : St) : Prop := ∃ k, u 149 25 = nI k ∧ k ≤ m
theorem OB.up {m n : Nat} {u : St} (h : OB m u) (hn : m ≤ n) : OB n u := by
  obtain ⟨k, e, hk⟩ := h
  exact ⟨k, e, by omega⟩
theorem say1 {σ t w x : St} {m : Nat} {v : Int32} {k : Nat} (hG : GM σ t) (ek : t 149 25 = nI k) (hk : k ≤ m) (hm : m < 400) (ew : w = wr t 162 (nI k).toNatClampNeg v) (ex : x = wr w 149 25 (w 149 25 + 1)) : GM σ x ∧ OB (m + 1) x := by
  have gw := hG.wrU ew (by omega) ty_u162
  have e : w 149 25 + 1 = nI (k + 1) := by rw [wo ew (by decide), ek, nI_1]
  rw [e] at ex
  exact ⟨gw.wrT ex (by omega) ty_m25 ⟨k + 1, by omega, rfl⟩, k + 1, ws ex, by omega⟩
theorem nX12_says_s6 {σ t : St} {m : Nat} (hG : GM σ t) (hO : OB m t) (hm : m + 4 ≤ 400) : Ok (FX12_says_s6 t) (fun _ u => GM σ u ∧ OB (m + 4) u) := by
  unfold FX12_says_s6
  refine Ok.bd (fun _ u => GM σ u ∧ OB (m + 4) u) ?_ (fun _ _ h => Ok.ret h)
  refine Ok.loop (fun k c u => GM σ u ∧ ∃ j, c = nI j ∧ j ≤ 4 ∧ k = 4 - j ∧ OB (m + j) u) ?_ 4 _ _ ⟨hG, 0, rfl, by omega, rfl, hO⟩
  clear hG hO
  intro k c u hI
  obtain ⟨hG, j, rfl, hj, rfl, hO⟩ := hI
  unfold SX12_says_s6_2
  refine Ok.ite (fun _ => Ok.ret ⟨hG, hO.up (by omega)⟩) (fun c1 => ?_)
  rw [(show (4 : Int32) = nI 4 from rfl), nI_leP (by omega) (by omega)] at c1
  obtain ⟨k, ek, hk⟩ := hO
  refine Ok.rd (fun v2 h2 => ?_)
  rw [ek] at h2
  subst h2
  refine Ok.ck (inb_n (by omega) (by omega)) (fun _ => Ok.ck (inb_n (by omega) (by omega)) (fun _ => ?_))
  refine Ok.wr (fun w ew => Ok.rd (fun v8 h8 => Ok.wr (fun x ex => ?_)))
  subst h8
  obtain ⟨gx, ox⟩ := say1 hG ek hk (by omega) ew ex
  exact Ok.ret ⟨4 - (j + 1), by omega, gx, j + 1, nI_1 j, by omega, rfl, ox⟩
theorem nX12_says_s7 {σ t : St} {m : Nat} (hG : GM σ t) (hO : OB m t) (hm : m + 1 ≤ 400) : Ok (FX12_says_s7 t) (fun _ u => GM σ u ∧ OB (m + 1) u) := by
  unfold FX12_says_s7
  refine Ok.bd (fun _ u => GM σ u ∧ OB (m + 1) u) ?_ (fun _ _ h => Ok.ret h)
  refine Ok.loop (fun k c u => GM σ u ∧ ∃ j, c = nI j ∧ j ≤ 1 ∧ k = 1 - j ∧ OB (m + j) u) ?_ 1 _ _ ⟨hG, 0, rfl, by omega, rfl, hO⟩
  clear hG hO
  intro k c u hI
  obtain ⟨hG, j, rfl, hj, rfl, hO⟩ := hI
  unfold SX12_says_s7_2
  refine Ok.ite (fun _ => Ok.ret ⟨hG, hO.up (by omega)⟩) (fun c1 => ?_)
  rw [(show (1 : Int32) = nI 1 from rfl), nI_leP (by omega) (by omega)] at c1
  obtain ⟨k, ek, hk⟩ := hO
  refine Ok.rd (fun v2 h2 => ?_)
  rw [ek] at h2
  subst h2
  refine Ok.ck (inb_n (by omega) (by omega)) (fun _ => Ok.ck (inb_n (by omega) (by omega)) (fun _ => ?_))
  refine Ok.wr (fun w ew => Ok.rd (fun v8 h8 => Ok.wr (fun x ex => ?_)))
  subst h8
  obtain ⟨gx, ox⟩ := say1 hG ek hk (by omega) ew ex
  exact Ok.ret ⟨1 - (j + 1), by omega, gx, j + 1, nI_1 j, by omega, rfl, ox⟩
theorem nX12_says_s8 {σ t : St} {m : Nat} (hG : GM σ t) (hO : OB m t) (hm : m + 1 ≤ 400) : Ok (FX12_says_s8 t) (fun _ u => GM σ u ∧ OB (m + 1) u) := by
  unfold FX12_says_s8
  refine Ok.bd (fun _ u => GM σ u ∧ OB (m + 1) u) ?_ (fun _ _ h => Ok.ret h)
  refine Ok.loop (fun k c u => GM σ u ∧ ∃ j, c = nI j ∧ j ≤ 1 ∧ k = 1 - j ∧ OB (m + j) u) ?_ 1 _ _ ⟨hG, 0, rfl, by omega, rfl, hO⟩
  clear hG hO
  intro k c u hI
  obtain ⟨hG, j, rfl, hj, rfl, hO⟩ := hI
  unfold SX12_says_s8_2
  refine Ok.ite (fun _ => Ok.ret ⟨hG, hO.up (by omega)⟩) (fun c1 => ?_)
  rw [(show (1 : Int32) = nI 1 from rfl), nI_leP (by omega) (by omega)] at c1
  obtain ⟨k, ek, hk⟩ := hO
  refine Ok.rd (fun v2 h2 => ?_)
  rw [ek] at h2
  subst h2
  refine Ok.ck (inb_n (by omega) (by omega)) (fun _ => Ok.ck (inb_n (by omega) (by omega)) (fun _ => ?_))
  refine Ok.wr (fun w ew => Ok.rd (fun v8 h8 => Ok.wr (fun x ex => ?_)))
  subst h8
  obtain ⟨gx, ox⟩ := say1 hG ek hk (by omega) ew ex
  exact Ok.ret ⟨1 - (j + 1), by omega, gx, j + 1, nI_1 j, by omega, rfl, ox⟩
theorem nX12_says_s9 {σ t : St} {m : Nat} (hG : GM σ t) (hO : OB m t) (hm : m + 1 ≤ 400) : Ok (FX12_says_s9 t) (fun _ u => GM σ u ∧ OB (m + 1) u) := by
  unfold FX12_says_s9
  refine Ok.bd (fun _ u => GM σ u ∧ OB (m + 1) u) ?_ (fun _ _ h => Ok.ret h)
  refine Ok.loop (fun k c u => GM σ u ∧ ∃ j, c = nI j ∧ j ≤ 1 ∧ k = 1 - j ∧ OB (m + j) u) ?_ 1 _ _ ⟨hG, 0, rfl, by omega, rfl, hO⟩
  clear hG hO
  intro k c u hI
  obtain ⟨hG, j, rfl, hj, rfl, hO⟩ := hI
  unfold SX12_says_s9_2
  refine Ok.ite (fun _ => Ok.ret ⟨hG, hO.up (by omega)⟩) (fun c1 => ?_)
  rw [(show (1 : Int32) = nI 1 from rfl), nI_leP (by omega) (by omega)] at c1
  obtain ⟨k, ek, hk⟩ := hO
  refine Ok.rd (fun v2 h2 => ?_)
  rw [ek] at h2
  subst h2
  refine Ok.ck (inb_n (by omega) (by omega)) (fun _ => Ok.ck (inb_n (by omega) (by omega)) (fun _ => ?_))
  refine Ok.wr (fun w ew => Ok.rd (fun v8 h8 => Ok.wr (fun x ex => ?_)))
  subst h8
  obtain ⟨gx, ox⟩ := say1 hG ek hk (by omega) ew ex
  exact Ok.ret ⟨1 - (j + 1), by omega, gx, j + 1, nI_1 j, by omega, rfl, ox⟩
theorem nX12_says_s10 {σ t : St} {m : Nat} (hG : GM σ t) (hO : OB m t) (hm : m + 1 ≤ 400) : Ok (FX12_says_s10 t) (fun _ u => GM σ u ∧ OB (m + 1) u) := by
  unfold FX12_says_s10
  refine Ok.bd (fun _ u => GM σ u ∧ OB (m + 1) u) ?_ (fun _ _ h => Ok.ret h)
  refine Ok.loop (fun k c u => GM σ u ∧ ∃ j, c = nI j ∧ j ≤ 1 ∧ k = 1 - j ∧ OB (m + j) u) ?_ 1 _ _ ⟨hG, 0, rfl, by omega, rfl, hO⟩
  clear hG hO
  intro k c u hI
  obtain ⟨hG, j, rfl, hj, rfl, hO⟩ := hI
  unfold SX12_says_s10_2
  refine Ok.ite (fun _ => Ok.ret ⟨hG, hO.up (by omega)⟩) (fun c1 => ?_)
  rw [(show (1 : Int32) = nI 1 from rfl), nI_leP (by omega) (by omega)] at c1
  obtain ⟨k, ek, hk⟩ := hO
  refine Ok.rd (fun v2 h2 => ?_)
  rw [ek] at h2
  subst h2
  refine Ok.ck (inb_n (by omega) (by omega)) (fun _ => Ok.ck (inb_n (by omega) (by omega)) (fun _ => ?_))
  refine Ok.wr (fun w ew => Ok.rd (fun v8 h8 => Ok.wr (fun x ex => ?_)))
  subst h8
  obtain ⟨gx, ox⟩ := say1 hG ek hk (by omega) ew ex
  exact Ok.ret ⟨1 - (j + 1), by omega, gx, j + 1, nI_1 j, by omega, rfl, ox⟩
theorem nX12_says_s11 {σ t : St} {m : Nat} (hG : GM σ t) (hO : OB m t) (hm : m + 5 ≤ 400) : Ok (FX12_says_s11 t) (fun _ u => GM σ u ∧ OB (m + 5) u) := by
  unfold FX12_says_s11
  refine Ok.bd (fun _ u => GM σ u ∧ OB (m + 5) u) ?_ (fun _ _ h => Ok.ret h)
  refine Ok.loop (fun k c u => GM σ u ∧ ∃ j, c = nI j ∧ j ≤ 5 ∧ k = 5 - j ∧ OB (m + j) u) ?_ 5 _ _ ⟨hG, 0, rfl, by omega, rfl, hO⟩
  clear hG hO
  intro k c u hI
  obtain ⟨hG, j, rfl, hj, rfl, hO⟩ := hI
  unfold SX12_says_s11_2
  refine Ok.ite (fun _ => Ok.ret ⟨hG, hO.up (by omega)⟩) (fun c1 => ?_)
  rw [(show (5 : Int32) = nI 5 from rfl), nI_leP (by omega) (by omega)] at c1
  obtain ⟨k, ek, hk⟩ := hO
  refine Ok.rd (fun v2 h2 => ?_)
  rw [ek] at h2
  subst h2
  refine Ok.ck (inb_n (by omega) (by omega)) (fun _ => Ok.ck (inb_n (by omega) (by omega)) (fun _ => ?_))
  refine Ok.wr (fun w ew => Ok.rd (fun v8 h8 => Ok.wr (fun x ex => ?_)))
  subst h8
  obtain ⟨gx, ox⟩ := say1 hG ek hk (by omega) ew ex
  exact Ok.ret ⟨5 - (j + 1), by omega, gx, j + 1, nI_1 j, by omega, rfl, ox⟩
theorem nX12_says_s12 {σ t : St} {m : Nat} (hG : GM σ t) (hO : OB m t) (hm : m + 1 ≤ 400) : Ok (FX12_says_s12 t) (fun _ u => GM σ u ∧ OB (m + 1) u) := by
  unfold FX12_says_s12
  refine Ok.bd (fun _ u => GM σ u ∧ OB (m + 1) u) ?_ (fun _ _ h => Ok.ret h)
  refine Ok.loop (fun k c u => GM σ u ∧ ∃ j, c = nI j ∧ j ≤ 1 ∧ k = 1 - j ∧ OB (m + j) u) ?_ 1 _ _ ⟨hG, 0, rfl, by omega, rfl, hO⟩
  clear hG hO
  intro k c u hI
  obtain ⟨hG, j, rfl, hj, rfl, hO⟩ := hI
  unfold SX12_says_s12_2
  refine Ok.ite (fun _ => Ok.ret ⟨hG, hO.up (by omega)⟩) (fun c1 => ?_)
  rw [(show (1 : Int32) = nI 1 from rfl), nI_leP (by omega) (by omega)] at c1
  obtain ⟨k, ek, hk⟩ := hO
  refine Ok.rd (fun v2 h2 => ?_)
  rw [ek] at h2
  subst h2
  refine Ok.ck (inb_n (by omega) (by omega)) (fun _ => Ok.ck (inb_n (by omega) (by omega)) (fun _ => ?_))
  refine Ok.wr (fun w ew => Ok.rd (fun v8 h8 => Ok.wr (fun x ex => ?_)))
  subst h8
  obtain ⟨gx, ox⟩ := say1 hG ek hk (by omega) ew ex
  exact Ok.ret ⟨1 - (j + 1), by omega, gx, j + 1, nI_1 j, by omega, rfl, ox⟩
theorem nX12_says_s13 {σ t : St} {m : Nat} (hG : GM σ t) (hO : OB m t) (hm : m + 0 ≤ 400) : Ok (FX12_says_s13 t) (fun _ u => GM σ u ∧ OB (m + 0) u) := by
  unfold FX12_says_s13
  refine Ok.bd (fun _ u => GM σ u ∧ OB (m + 0) u) ?_ (fun _ _ h => Ok.ret h)
  refine Ok.loop (fun k c u => GM σ u ∧ ∃ j, c = nI j ∧ j ≤ 0 ∧ k = 0 - j ∧ OB (m + j) u) ?_ 0 _ _ ⟨hG, 0, rfl, by omega, rfl, hO⟩
  clear hG hO
  intro k c u hI
  obtain ⟨hG, j, rfl, hj, rfl, hO⟩ := hI
  unfold SX12_says_s13_2
  refine Ok.ite (fun _ => Ok.ret ⟨hG, hO.up (by omega)⟩) (fun c1 => ?_)
  rw [(show (0 : Int32) = nI 0 from rfl), nI_leP (by omega) (by omega)] at c1
  obtain ⟨k, ek, hk⟩ := hO
  refine Ok.rd (fun v2 h2 => ?_)
  rw [ek] at h2
  subst h2
  refine Ok.ck (inb_n (by omega) (by omega)) (fun _ => Ok.ck (inb_n (by omega) (by omega)) (fun _ => ?_))
  refine Ok.wr (fun w ew => Ok.rd (fun v8 h8 => Ok.wr (fun x ex => ?_)))
  subst h8
  obtain ⟨gx, ox⟩ := say1 hG ek hk (by omega) ew ex
  exact Ok.ret ⟨0 - (j + 1), by omega, gx, j + 1, nI_1 j, by omega, rfl, ox⟩
theorem nX12_says_s14 {σ t : St} {m : Nat} (hG : GM σ t) (hO : OB m t) (hm : m + 1 ≤ 400) : Ok (FX12_says_s14 t) (fun _ u => GM σ u ∧ OB (m + 1) u) := by
  unfold FX12_says_s14
  refine Ok.bd (fun _ u => GM σ u ∧ OB (m + 1) u) ?_ (fun _ _ h => Ok.ret h)
  refine Ok.loop (fun k c u => GM σ u ∧ ∃ j, c = nI j ∧ j ≤ 1 ∧ k = 1 - j ∧ OB (m + j) u) ?_ 1 _ _ ⟨hG, 0, rfl, by omega, rfl, hO⟩
  clear hG hO
  intro k c u hI
  obtain ⟨hG, j, rfl, hj, rfl, hO⟩ := hI
  unfold SX12_says_s14_2
  refine Ok.ite (fun _ => Ok.ret ⟨hG, hO.up (by omega)⟩) (fun c1 => ?_)
  rw [(show (1 : Int32) = nI 1 from rfl), nI_leP (by omega) (by omega)] at c1
  obtain ⟨k, ek, hk⟩ := hO
  refine Ok.rd (fun v2 h2 => ?_)
  rw [ek] at h2
  subst h2
  refine Ok.ck (inb_n (by omega) (by omega)) (fun _ => Ok.ck (inb_n (by omega) (by omega)) (fun _ => ?_))
  refine Ok.wr (fun w ew => Ok.rd (fun v8 h8 => Ok.wr (fun x ex => ?_)))
  subst h8
  obtain ⟨gx, ox⟩ := say1 hG ek hk (by omega) ew ex
  exact Ok.ret ⟨1 - (j + 1), by omega, gx, j + 1, nI_1 j, by omega, rfl, ox⟩
theorem nX12_saysNumber {σ : St} : ∀ (d : Nat) {t : St} {m v : Nat}, GM σ t → OB m t → m + (d + 1) ≤ 400 → v < 10 ^ (d + 1) → v < 10000 → Ok (FX12_saysNumber (d + 1) (nI v) t) (fun _ u => GM σ u ∧ OB (m + (d + 1)) u) := by
  intro d
  induction d with
  | zero =>
    intro t m v hG hO hm hv hv2
    unfold FX12_saysNumber FX12_saysNumber_b
    refine Ok.bd (fun _ u => t = u) (Ok.ite (fun _ => Ok.ret rfl) (fun c => ?_)) ?_
    · rw [li_9, nI_leP (by omega) (by omega)] at c
      omega
    · rintro _ _ rfl
      obtain ⟨k, ek, hk⟩ := hO
      refine Ok.rd (fun v2 h2 => ?_)
      rw [ek] at h2
      subst h2
      refine Ok.ck (inb_n (by omega) (by omega)) (fun _ => ?_)
      refine Ok.wr (fun w ew => Ok.rd (fun v8 h8 => Ok.wr (fun x ex => ?_)))
      subst h8
      exact Ok.ret (say1 hG ek hk (by omega) ew ex)
  | succ d ih =>
    intro t m v hG hO hm hv hv2
    unfold FX12_saysNumber FX12_saysNumber_b
    refine Ok.bd (fun _ u => GM σ u ∧ OB (m + (d + 1)) u) (Ok.ite (fun _ => Ok.ret ⟨hG, hO.up (by omega)⟩) (fun c => ?_)) ?_
    · rw [li_10, nI_divN (by omega) (by omega) (by omega)]
      refine Ok.bd _ (ih hG hO (by omega) (Nat.div_lt_of_lt_mul (by rw [Nat.pow_succ, Nat.mul_comm] at hv; exact hv)) (by omega)) ?_
      rintro _ u h
      exact Ok.ret h
    · rintro _ u ⟨gu, ou⟩
      obtain ⟨k, ek, hk⟩ := ou
      refine Ok.rd (fun v2 h2 => ?_)
      rw [ek] at h2
      subst h2
      refine Ok.ck (inb_n (by omega) (by omega)) (fun _ => ?_)
      refine Ok.wr (fun w ew => Ok.rd (fun v8 h8 => Ok.wr (fun x ex => ?_)))
      subst h8
      exact Ok.ret (say1 (m := m + (d + 1)) gu ek hk (by omega) ew ex)
theorem sn4 {σ t : St} {m v : Nat} (hG : GM σ t) (hO : OB m t) (hm : m + 4 ≤ 400) (hv : v < 10000) : Ok (FX12_saysNumber 4 (nI v) t) (fun _ u => GM σ u ∧ OB (m + 4) u) := nX12_saysNumber 3 hG hO hm (by omega) hv
/-- a number of one digit -/
theorem sn1 {σ t : St} {m v : Nat} (hG : GM σ t) (hO : OB m t) (hm : m + 1 ≤ 400) (hv : v < 10) : Ok (FX12_saysNumber 4 (nI v) t) (fun _ u => GM σ u ∧ OB (m + 1) u) := by
  unfold FX12_saysNumber FX12_saysNumber_b
  refine Ok.bd (fun _ u => t = u) (Ok.ite (fun _ => Ok.ret rfl) (fun c => ?_)) ?_
  · rw [li_9, nI_leP (by omega) (by omega)] at c
    omega
  · rintro _ _ rfl
    obtain ⟨k, ek, hk⟩ := hO
    refine Ok.rd (fun v2 h2 => ?_)
    rw [ek] at h2
    subst h2
    refine Ok.ck (inb_n (by omega) (by omega)) (fun _ => ?_)
    refine Ok.wr (fun w ew => Ok.rd (fun v8 h8 => Ok.wr (fun x ex => ?_)))
    subst h8
    exact Ok.ret (say1 hG ek hk (by omega) ew ex)
def tri : Nat → Nat
  | 0 => 0
  | p + 1 => tri p + (8 - p)
theorem tri_le {p : Nat} (h : p < 9) : tri p + (8 - p) ≤ 36 := by
  rcases (show p = 0 ∨ p = 1 ∨ p = 2 ∨ p = 3 ∨ p = 4 ∨ p = 5 ∨ p = 6 ∨ p = 7 ∨ p = 8 by omega) with rfl | rfl | rfl | rfl | rfl | rfl | rfl | rfl | rfl <;> decide
theorem tri_9 {p : Nat} (h : p ≤ 9) : tri p ≤ 36 := by
  rcases (show p = 0 ∨ p = 1 ∨ p = 2 ∨ p = 3 ∨ p = 4 ∨ p = 5 ∨ p = 6 ∨ p = 7 ∨ p = 8 ∨ p = 9 by omega) with rfl | rfl | rfl | rfl | rfl | rfl | rfl | rfl | rfl | rfl <;> decide
/-- a line is told -/
theorem sayL {σ : St} {m s p q : Nat} {A : Option (Unit × St)} (hs : s < 3) (hp : p < 9) (hq : q < 9) (hm : m + 6 ≤ 400) (hA : Ok A (fun _ u => GM σ u ∧ OB (m + 1) u)) : Ok (bnd A (fun _ t28 => bnd (FX12_saysNumber 4 (nI p) t28) (fun _ t31 => bnd (FX12_says_s9 t31) (fun _ t34 => bnd (FX12_saysNumber 4 (nI q) t34) (fun _ t37 => bnd (FX12_weight (nI s) (nI p) (nI q) t37) (fun v39 t40 => bnd (if v39 ≤ (1 : Int32) then some ((), t40) else bnd (FX12_says_s10 t40) (fun _ t48 => bnd (FX12_weight (nI s) (nI p) (nI q) t48) (fun v50 t51 => bnd (FX12_saysNumber 4 v50 t51) (fun _ t54 => some ((), t54))))) (fun _ t44 => some ((1 : Int32), t44)))))))) (fun _ u => GM σ u ∧ OB (m + 6) u) := by
  refine Ok.bd _ hA ?_
  rintro _ t28 ⟨g1, o1⟩
  refine Ok.bd _ (sn1 g1 o1 (by omega) (by omega)) ?_
  rintro _ t31 ⟨g2, o2⟩
  refine Ok.bd _ (nX12_says_s9 g2 o2 (by omega)) ?_
  rintro _ t34 ⟨g3, o3⟩
  refine Ok.bd _ (sn1 g3 o3 (by omega) (by omega)) ?_
  rintro _ t37 ⟨g4, o4⟩
  refine Ok.bd _ (rX12_weight g4.tt ⟨s, hs, rfl⟩ ⟨p, hp, rfl⟩ ⟨q, hq, rfl⟩) ?_
  rintro v39 _ ⟨rfl, -⟩
  refine Ok.bd (fun _ u => GM σ u ∧ OB (m + 6) u) ?_ (fun _ _ h => Ok.ret h)
  refine Ok.ite (fun _ => Ok.ret ⟨g4, o4.up (by omega)⟩) (fun _ => ?_)
  refine Ok.bd _ (nX12_says_s10 g4 o4 (by omega)) ?_
  rintro _ t48 ⟨g5, o5⟩
  refine Ok.bd _ (rX12_weight g5.tt ⟨s, hs, rfl⟩ ⟨p, hp, rfl⟩ ⟨q, hq, rfl⟩) ?_
  rintro _ _ ⟨rfl, w, hw, rfl⟩
  refine Ok.bd _ (sn1 g5 o5 (by omega) hw) ?_
  rintro _ t54 ⟨g6, o6⟩
  exact Ok.ret ⟨g6, o6.up (by omega)⟩
theorem nX12_saysNet {σ t : St} (hG : GM σ t) (hO : OB 0 t) {s : Nat} (hs : s < 3) : Ok (FX12_saysNet (nI s) t) (fun _ u => GM σ u) := by
  unfold FX12_saysNet
  refine Ok.bd _ (nX12_says_s6 hG hO (by omega)) ?_
  rintro _ t2 ⟨g2, o2⟩
  refine Ok.bd _ (rX12_points g2.tt ⟨s, hs, rfl⟩) ?_
  rintro _ _ ⟨rfl, n, hn, rfl⟩
  refine Ok.bd _ (sn1 g2 o2 (by omega) hn) ?_
  rintro _ t8 ⟨g8, o8⟩
  refine Ok.bd (fun _ u => GM σ u ∧ OB 221 u) ?_ ?_
  · refine Ok.loop (fun k c u => GM σ u ∧ ∃ p, c.2 = nI p ∧ p ≤ 9 ∧ k = 9 - p ∧ OB (5 + 6 * tri p) u) ?_ 9 _ _ ⟨g8, 0, rfl, by omega, rfl, o8.up (by omega)⟩
    clear g8 o8
    intro k c u hI
    obtain ⟨gu, p, ep, hp, rfl, ou⟩ := hI
    obtain ⟨c0, c1⟩ := c
    dsimp only at ep
    subst ep
    unfold SX12_saysNet_20
    dsimp only
    refine Ok.bd _ (rX12_points gu.tt ⟨s, hs, rfl⟩) ?_
    rintro _ _ ⟨rfl, n, hn, rfl⟩
    have t9 := tri_9 hp
    refine Ok.ite (fun _ => Ok.ret ⟨gu, ou.up (by omega)⟩) (fun c1 => ?_)
    rw [nI_leP (by omega) (by omega)] at c1
    have tl := tri_le (p := p) (by omega)
    refine Ok.bd (fun _ u => GM σ u ∧ OB (5 + 6 * tri (p + 1)) u) ?_ (fun _ w h => Ok.ret ⟨9 - (p + 1), by omega, h.1, p + 1, nI_1 p, by omega, rfl, h.2⟩)
    refine Ok.loop (fun k c w => GM σ w ∧ ∃ q, c.2 = nI q ∧ p + 1 ≤ q ∧ q ≤ 9 ∧ k = 9 - q ∧ OB (5 + 6 * (tri p + (q - (p + 1)))) w) ?_ (9 - (p + 1)) _ _ ⟨gu, p + 1, nI_1 p, by omega, by omega, rfl, by rw [Nat.sub_self]; exact ou⟩
    clear gu ou
    intro k c w hI
    obtain ⟨gw, q, eq, hpq, hq, rfl, ow⟩ := hI
    obtain ⟨d0, d1⟩ := c
    dsimp only at eq
    subst eq
    unfold SX12_saysNet_34
    dsimp only
    refine Ok.bd _ (rX12_points gw.tt ⟨s, hs, rfl⟩) ?_
    rintro _ _ ⟨rfl, n, hn, rfl⟩
    refine Ok.ite (fun _ => Ok.ret ⟨gw, ow.up (by show _ ≤ 5 + 6 * (tri p + (8 - p)); omega)⟩) (fun c2 => ?_)
    rw [nI_leP (by omega) (by omega)] at c2
    refine Ok.bd _ (rX12_weight gw.tt ⟨s, hs, rfl⟩ ⟨p, by omega, rfl⟩ ⟨q, by omega, rfl⟩) ?_
    rintro v18 _ ⟨rfl, -⟩
    refine Ok.bd (fun _ u => GM σ u ∧ OB (5 + 6 * (tri p + (q - (p + 1))) + 6) u) ?_ (fun _ x h => Ok.ret ⟨9 - (q + 1), by omega, h.1, q + 1, nI_1 q, by omega, by omega, rfl, h.2.up (by omega)⟩)
    refine Ok.ite (fun _ => Ok.ret ⟨gw, ow.up (by omega)⟩) (fun _ => Ok.ite (fun _ => ?_) (fun _ => ?_))
    · exact sayL hs (by omega) (by omega) (by omega) (nX12_says_s8 gw ow (by omega))
    · exact sayL hs (by omega) (by omega) (by omega) (nX12_says_s7 gw ow (by omega))
  rintro _ t90 ⟨g90, o90⟩
  refine Ok.bd _ (nX12_says_s11 g90 o90 (by omega)) ?_
  rintro _ t94 ⟨g94, o94⟩
  refine Ok.bd (fun _ u => GM σ u ∧ OB 240 u) ?_ ?_
  · refine Ok.loop (fun k c u => GM σ u ∧ ∃ j, c = nI j ∧ j ≤ 9 ∧ k = 9 - j ∧ OB (230 + j) u) ?_ 9 _ _ ⟨g94, 0, rfl, by omega, rfl, o94.up (by omega)⟩
    clear g94 o94
    intro k c u hI
    obtain ⟨gu, j, rfl, hj, rfl, ou⟩ := hI
    unfold SX12_saysNet_147
    refine Ok.bd _ (rX12_points gu.tt ⟨s, hs, rfl⟩) ?_
    rintro _ _ ⟨rfl, n, hn, rfl⟩
    refine Ok.ite (fun _ => Ok.ret ⟨gu, ou.up (by omega)⟩) (fun c1 => ?_)
    rw [nI_leP (by omega) (by omega)] at c1
    refine Ok.bd _ (rX12_at gu.tt ⟨s, hs, rfl⟩ ⟨j, by omega, rfl⟩) ?_
    rintro _ _ ⟨rfl, v, hv, rfl⟩
    refine Ok.bd _ (sn1 gu ou (by omega) (by omega)) ?_
    rintro _ w ⟨gw, ow⟩
    exact Ok.ret ⟨9 - (j + 1), by omega, gw, j + 1, nI_1 j, by omega, rfl, ow.up (by omega)⟩
  rintro _ t107 ⟨g107, o107⟩
  refine Ok.bd _ (nX12_says_s12 g107 o107 (by omega)) ?_
  rintro _ u ⟨gu, -⟩
  exact Ok.ret gu
theorem nX12_tell {σ t : St} (hG : GM σ t) {a b : Int32} : Ok (FX12_tell a b t) (fun r u => GM σ u ∧ True) := by
  unfold FX12_tell
  refine Ok.bd _ (rX12_isNet hG.tt) ?_
  rintro v _ ⟨rfl, -, hv⟩
  refine Ok.ite (fun _ => Ok.ret ⟨hG, True.intro⟩) (fun c => ?_)
  obtain ⟨⟨s, hs, rfl⟩, -⟩ := hv.resolve_left c
  refine Ok.bd _ (rX12_in hG.tt) ?_
  rintro v6 _ ⟨rfl, -, -⟩
  refine Ok.ite (fun _ => Ok.ret ⟨hG, True.intro⟩) (fun _ => ?_)
  refine Ok.wr (fun t10 e10 => ?_)
  have g10 := hG.wrT e10 (by omega) ty_m25 ⟨0, by omega, rfl⟩
  have o10 : OB 0 t10 := ⟨0, ws e10, by omega⟩
  refine Ok.ite (fun _ => ?_) (fun _ => ?_)
  · refine Ok.bd _ (nX12_saysNet g10 o10 hs) ?_
    rintro _ u gu
    exact Ok.rd (fun v _ => Ok.ret ⟨gu, True.intro⟩)
  · refine Ok.bd (fun _ u => GM σ u) ?_ (fun _ u gu => Ok.rd (fun v _ => Ok.ret ⟨gu, True.intro⟩))
    refine Ok.loop (fun k c u => GM σ u ∧ ∃ j, c = nI j ∧ 1 ≤ j ∧ j ≤ 9 ∧ k = 9 - j ∧ OB (5 * j) u) ?_ 8 _ _ ⟨g10, 1, rfl, by omega, by omega, rfl, o10.up (by omega)⟩
    clear g10 o10 e10 hG
    intro k c u hI
    obtain ⟨gu, j, rfl, h1, hj, rfl, ou⟩ := hI
    unfold SX12_tell_42
    refine Ok.bd _ (rX12_points gu.tt ⟨s, hs, rfl⟩) ?_
    rintro _ _ ⟨rfl, n, hn, rfl⟩
    refine Ok.ite (fun _ => Ok.ret gu) (fun c1 => ?_)
    rw [nI_leP (by omega) (by omega)] at c1
    refine Ok.ite (fun _ => ?_) (fun _ => ?_)
    · refine Ok.bd _ (nX12_says_s13 gu ou (by omega)) ?_
      rintro _ w ⟨gw, ow⟩
      refine Ok.bd _ (bX12_priceOf gw.tt ⟨s, hs, rfl⟩ h1 (by omega)) ?_
      rintro _ _ ⟨rfl, v, hv, rfl⟩
      refine Ok.bd _ (sn4 gw ow (by omega) hv) ?_
      rintro _ x ⟨gx, ox⟩
      exact Ok.ret ⟨9 - (j + 1), by omega, gx, j + 1, nI_1 j, by omega, by omega, rfl, ox.up (by omega)⟩
    · refine Ok.bd _ (nX12_says_s14 gu ou (by omega)) ?_
      rintro _ w ⟨gw, ow⟩
      refine Ok.bd _ (bX12_priceOf gw.tt ⟨s, hs, rfl⟩ h1 (by omega)) ?_
      rintro _ _ ⟨rfl, v, hv, rfl⟩
      refine Ok.bd _ (sn4 gw ow (by omega) hv) ?_
      rintro _ x ⟨gx, ox⟩
      exact Ok.ret ⟨9 - (j + 1), by omega, gx, j + 1, nI_1 j, by omega, by omega, rfl, ox.up (by omega)⟩
theorem nX12_end {σ t : St} (hG : GM σ t) {a : Int32} : Ok (FX12_end a t) (fun r u => (r = -1 ∧ t = u ∧ ¬ (0 ≤ a.toInt ∧ a.toInt ≤ (t 149 5).toInt)) ∨ (r = a ∧ (0 ≤ a.toInt ∧ a.toInt ≤ (t 149 5).toInt) ∧ GM (wr σ 149 5 a) u)) := by
  unfold FX12_end
  refine Ok.rd (fun v1 h1 => ?_)
  subst h1
  refine Ok.bd _ xX12_in ?_
  simp only [Int32.toInt_toInt64, show (0 : Int64).toInt = 0 from by decide]
  rintro v _ ⟨rfl, hv⟩
  refine Ok.ite (fun c => Ok.ret (Or.inl ⟨rfl, rfl, (hv.resolve_left (fun h => absurd (h.1.symm.trans c) (by decide))).2⟩)) (fun c => ?_)
  have h := (hv.resolve_right (fun h => c h.1)).2
  refine Ok.wr (fun x ex => Ok.ret (Or.inr ⟨rfl, h, hG.tap ex ?_⟩))
  obtain ⟨n, hn, en⟩ := hG.tt.rd ty_m5 (by omega)
  rw [en, nI_toInt (by omega)] at h
  have h0 : ¬ a < 0 := fun q => by
    rw [Int32.lt_iff_toInt_lt, show (0 : Int32).toInt = 0 from by decide] at q
    omega
  obtain ⟨j, hj, rfl⟩ := nI_of h0
  rw [nI_toInt hj] at h
  exact ⟨j, by omega, rfl⟩
