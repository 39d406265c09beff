/-! prices are small; greedy rows (wip/ext/g27.py) -/
theorem and63 (x : Int32) : IsR 64 (x &&& 63) := by
  obtain ⟨j, hj, e⟩ := pk_andE x (m := 63) 6 (by decide)
  exact ⟨j, hj, e⟩
theorem bJ6_bitCount {t : St} {a : Int32} : Ok (FJ6_bitCount_0f7a4 a t) (fun r u => t = u ∧ IsR 64 r) := by
  unfold FJ6_bitCount_0f7a4
  exact Ok.ret ⟨rfl, and63 _⟩
theorem bX6_gateSize {t : St} (hT : TY t) {x : Nat} (g_x : netAt x = true) {a : Int32} : Ok (FX6_gateSize x a t) (fun r u => t = u ∧ IsR 64 r) := by
  unfold FX6_gateSize
  refine Ok.ck g_x (fun _ => ?_)
  refine Ok.bd _ (rX6_withLineInto hT g_x) ?_
  rintro v _ ⟨rfl, -⟩
  refine Ok.bd _ bJ6_bitCount ?_
  rintro v _ ⟨rfl, h⟩
  exact Ok.ret ⟨rfl, h⟩
theorem bX6_fringeSize {t : St} (hT : TY t) {x : Nat} (g_x : netAt x = true) {a : Int32} : Ok (FX6_fringeSize x a t) (fun r u => t = u ∧ IsR 64 r) := by
  unfold FX6_fringeSize
  refine Ok.ck g_x (fun _ => ?_)
  refine Ok.bd _ (rX6_withLineInto hT g_x) ?_
  rintro v _ ⟨rfl, -⟩
  refine Ok.bd _ bJ6_bitCount ?_
  rintro v _ ⟨rfl, h⟩
  exact Ok.ret ⟨rfl, h⟩
theorem bX6_cutWeight {t : St} (hT : TY t) {x : Nat} (g_x : netAt x = true) {a : Int32} : Ok (FX6_cutWeight x a t) (fun r u => t = u ∧ IsR 1000 r) := by
  unfold FX6_cutWeight
  refine Ok.ck g_x (fun _ => ?_)
  refine Ok.bd (fun r u => t = u ∧ IsR 1000 r) ?_ (fun _ _ h => Ok.ret h)
  refine Ok.loop (fun k c s => t = s ∧ ∃ w j, c = (nI w, nI j) ∧ w ≤ 81 * j ∧ j ≤ 9 ∧ k = 9 - j) ?_ 9 _ _ ⟨rfl, 0, 0, rfl, by omega, by omega, rfl⟩
  intro k c s hI
  obtain ⟨rfl, w, j, rfl, hw, hj, rfl⟩ := hI
  unfold SX6_cutWeight_4
  dsimp only
  refine Ok.rdT hT (ty_n0 g_x) (by omega) (fun n hn en => ?_)
  refine Ok.ite (fun _ => Ok.ret ⟨rfl, w, by omega, rfl⟩) (fun c1 => ?_)
  rw [nI_leP (by omega) (by omega)] at c1
  refine Ok.ck (inb_n (by omega) (by omega)) (fun g1 => ?_)
  refine Ok.rd (fun v5 h5 => ?_)
  refine Ok.bd (fun v u => t = u ∧ ∃ w', v = nI w' ∧ w' ≤ 81 * (j + 1)) ?_ ?_
  · refine Ok.ite (fun _ => Ok.ret ⟨rfl, w, rfl, by omega⟩) (fun _ => ?_)
    refine Ok.ite (fun _ => Ok.ret ⟨rfl, w, rfl, by omega⟩) (fun _ => ?_)
    refine Ok.bd (fun v u => t = u ∧ ∃ w', v = nI w' ∧ w' ≤ 81 * (j + 1)) ?_ (fun _ _ h => Ok.ret h)
    refine Ok.loop (fun k c s => t = s ∧ ∃ w' i, c = (nI w', nI i) ∧ w' ≤ 81 * j + 9 * i ∧ i ≤ 9 ∧ k = 9 - i) ?_ 9 _ _ ⟨rfl, w, 0, rfl, by omega, by omega, rfl⟩
    intro k c s hI
    obtain ⟨rfl, w', i, rfl, hw', hi, rfl⟩ := hI
    unfold SX6_cutWeight_43
    dsimp only
    refine Ok.rdT hT (ty_n0 g_x) (by omega) (fun n2 hn2 en2 => ?_)
    refine Ok.ite (fun _ => Ok.ret ⟨rfl, w', rfl, by omega⟩) (fun c2 => ?_)
    rw [nI_leP (by omega) (by omega)] at c2
    refine Ok.bd (fun v u => t = u ∧ ∃ w2, v = nI w2 ∧ w2 ≤ 81 * j + 9 * (i + 1)) ?_ ?_
    · refine Ok.ite (fun _ => Ok.ret ⟨rfl, w', rfl, by omega⟩) (fun _ => ?_)
      refine Ok.bd _ (rX5_weightOf hT g_x ⟨j, by omega, rfl⟩ ⟨i, by omega, rfl⟩) ?_
      rintro _ _ ⟨rfl, q, hq, rfl⟩
      exact Ok.ret ⟨rfl, w' + q, nI_add w' q, by omega⟩
    · rintro _ _ ⟨rfl, w2, rfl, h2⟩
      exact Ok.ret ⟨9 - (i + 1), by omega, rfl, w2, i + 1, by rw [nI_1], h2, by omega, rfl⟩
  · rintro _ _ ⟨rfl, w2, rfl, h2⟩
    exact Ok.ret ⟨9 - (j + 1), by omega, rfl, w2, j + 1, by rw [nI_1], h2, by omega, rfl⟩
theorem bX6_newLines {t : St} (hT : TY t) {x : Nat} (g_x : netAt x = true) {a b : Int32} (h_b : IsR 9 b) : Ok (FX6_newLines x a b t) (fun r u => t = u ∧ IsR 1000 r) := by
  unfold FX6_newLines
  refine Ok.ck g_x (fun _ => ?_)
  refine Ok.bd _ (rX6_neighbours hT g_x h_b) ?_
  rintro v _ ⟨rfl, -⟩
  refine Ok.bd (fun r u => t = u ∧ IsR 1000 r) ?_ (fun _ _ h => Ok.ret h)
  refine Ok.loop (fun k c s => t = s ∧ ∃ w j, c = (nI w, nI j) ∧ w ≤ 64 * j ∧ j ≤ 9 ∧ k = 9 - j) ?_ 9 _ _ ⟨rfl, 0, 0, rfl, by omega, by omega, rfl⟩
  intro k c s hI
  obtain ⟨rfl, w, j, rfl, hw, hj, rfl⟩ := hI
  unfold SX6_newLines_13
  dsimp only
  refine Ok.rdT hT (ty_n0 g_x) (by omega) (fun n hn en => ?_)
  refine Ok.ite (fun _ => Ok.ret ⟨rfl, w, by omega, rfl⟩) (fun c1 => ?_)
  rw [nI_leP (by omega) (by omega)] at c1
  refine Ok.bd (fun v u => t = u) ?_ ?_
  · refine Ok.ite (fun _ => Ok.ret rfl) (fun _ => ?_)
    refine Ok.bd _ (rX6_aboveOf hT) ?_
    rintro v _ ⟨rfl, -⟩
    exact Ok.ret rfl
  · rintro v8 _ rfl
    refine Ok.bd (fun v u => t = u ∧ ∃ w2, v = nI w2 ∧ w2 ≤ 64 * (j + 1)) ?_ ?_
    · refine Ok.ite (fun _ => Ok.ret ⟨rfl, w, rfl, by omega⟩) (fun _ => ?_)
      refine Ok.bd _ (rX6_neighbours hT g_x ⟨j, by omega, rfl⟩) ?_
      rintro v _ ⟨rfl, -⟩
      refine Ok.bd _ bJ6_bitCount ?_
      rintro _ _ ⟨rfl, q, hq, rfl⟩
      exact Ok.ret ⟨rfl, w + q, nI_add w q, by omega⟩
    · rintro _ _ ⟨rfl, w2, rfl, h2⟩
      exact Ok.ret ⟨9 - (j + 1), by omega, rfl, w2, j + 1, by rw [nI_1], h2, by omega, rfl⟩
theorem bX6_of {t : St} (hT : TY t) {x : Nat} (g_x : netAt x = true) {a b c : Int32} (h_c : IsR 9 c) : Ok (FX6_of x a b c t) (fun r u => t = u ∧ IsR 1000 r) := by
  unfold FX6_of
  refine Ok.ck g_x (fun _ => ?_)
  refine Ok.ite (fun _ => ?_) (fun _ => Ok.ite (fun _ => ?_) (fun _ => Ok.ite (fun _ => ?_) (fun _ => Ok.ite (fun _ => ?_) (fun _ => ?_))))
  · refine Ok.bd _ (bX6_gateSize hT g_x) ?_
    rintro v _ ⟨rfl, h⟩
    exact Ok.ret ⟨rfl, h.up (by omega)⟩
  · refine Ok.bd _ (bX6_fringeSize hT g_x) ?_
    rintro v _ ⟨rfl, h⟩
    exact Ok.ret ⟨rfl, h.up (by omega)⟩
  · refine Ok.bd _ (rX6_neighbours hT g_x h_c) ?_
    rintro v _ ⟨rfl, -⟩
    refine Ok.bd _ bJ6_bitCount ?_
    rintro v _ ⟨rfl, h⟩
    exact Ok.ret ⟨rfl, h.up (by omega)⟩
  · refine Ok.bd _ (bX6_newLines hT g_x h_c) ?_
    rintro v _ ⟨rfl, h⟩
    exact Ok.ret ⟨rfl, h⟩
  · refine Ok.bd _ (bX6_cutWeight hT g_x) ?_
    rintro v _ ⟨rfl, h⟩
    exact Ok.ret ⟨rfl, h⟩
/-- how many bits below n -/
def cnt (S : Nat) : Nat → Nat
  | 0 => 0
  | n + 1 => cnt S n + (S.testBit n).toNat
theorem cnt_all {S : Nat} : ∀ {n : Nat}, (∀ p, p < n → S.testBit p = true) → cnt S n = n
  | 0, _ => rfl
  | n + 1, h => by
    rw [cnt, cnt_all (fun p hp => h p (by omega)), h n (by omega)]
    rfl
theorem cnt_or {S q : Nat} (hs : S.testBit q = false) : ∀ {n : Nat}, cnt (S ||| 2 ^ q) n = cnt S n + (if q < n then 1 else 0)
  | 0 => rfl
  | n + 1 => by
    rw [cnt, cnt, cnt_or hs, Nat.testBit_or, Nat.testBit_two_pow]
    by_cases h1 : q = n
    · subst h1
      rw [hs, if_neg (by omega), if_pos (by omega)]
      simp
    · by_cases h2 : q < n
      · rw [if_pos h2, if_pos (by omega)]
        simp [h1]
        omega
      · rw [if_neg h2, if_neg (by omega)]
        simp [h1]
theorem bit_off {S j : Nat} (hS : S < 512) (hj : j < 9) : (shr (nI S) (nI j) &&& 1 = 0) = (S.testBit j = false) := by
  rw [bit_n (by omega) (by omega), li_0, nI_eqP (by cases S.testBit j <;> decide) (by decide)]
  cases S.testBit j <;> simp
theorem gX8_makeGreedy {σ t : St} (hG : GC σ t) {x : Nat} (g_x : netAt x = true) {a : Int32} : Ok (FX8_makeGreedy x a t) (fun r u => GC σ u ∧ True) := by
  have hp := net_pl g_x
  unfold FX8_makeGreedy
  refine Ok.ck g_x (fun _ => ?_)
  obtain ⟨n, hn, en⟩ := hG.tt.rd (ty_n0 g_x) (by omega)
  refine Ok.bd (fun r u => GC σ u ∧ True) ?_ (fun _ _ h => Ok.ret h)
  refine Ok.loop (fun k c s => (GC σ s ∧ s x 0 = nI n) ∧ ∃ S i, c = (nI S, nI i) ∧ S < 512 ∧ cnt S n = i ∧ i ≤ n ∧ k = 9 - i) ?_ 9 _ _ ⟨⟨hG, en⟩, 0, 0, rfl, by omega, ?_, by omega, rfl⟩
  · clear hG en
    intro k c s hI
    obtain ⟨⟨hG, en⟩, S, i, rfl, hS, hc, hi, rfl⟩ := hI
    unfold SX8_makeGreedy_4
    dsimp only
    refine Ok.rd (fun v1 h1 => ?_)
    rw [en] at h1
    subst h1
    refine Ok.ite (fun _ => Ok.ret ⟨hG, True.intro⟩) (fun c1 => ?_)
    rw [nI_leP (by omega) (by omega)] at c1
    refine Ok.bd (fun v u => s = u ∧ ∃ q, q < n ∧ v = nI q ∧ S.testBit q = false) ?_ ?_
    · refine Ok.loop (fun k c u => s = u ∧ ∃ j, c.2.2 = nI j ∧ j ≤ n ∧ k = 9 - j ∧ ((c.1 = -1 ∧ c.2.1 = 1048576 ∧ ∀ p, p < j → S.testBit p = true) ∨ ∃ q, q < n ∧ c.1 = nI q ∧ S.testBit q = false)) ?_ 9 _ _ ⟨rfl, 0, rfl, by omega, rfl, Or.inl ⟨rfl, rfl, fun p hp => absurd hp (by omega)⟩⟩
      intro k c u hI
      obtain ⟨rfl, j, ej, hj, rfl, hd⟩ := hI
      obtain ⟨c0, c1', c2⟩ := c
      dsimp only at ej hd
      subst ej
      unfold SX8_makeGreedy_22
      dsimp only
      refine Ok.rd (fun v4 h4 => ?_)
      rw [en] at h4
      subst h4
      refine Ok.ite (fun c3 => ?_) (fun c3 => ?_)
      · rw [nI_leP (by omega) (by omega)] at c3
        refine Ok.ret ⟨rfl, ?_⟩
        rcases hd with ⟨-, -, hall⟩ | h
        · have := cnt_all (S := S) (n := n) (fun p hp => hall p (by omega))
          omega
        · exact h
      · rw [nI_leP (by omega) (by omega)] at c3
        refine Ok.bd (fun v u => s = u ∧ ((v.1 = -1 ∧ v.2 = 1048576 ∧ ∀ p, p < j + 1 → S.testBit p = true) ∨ ∃ q, q < n ∧ v.1 = nI q ∧ S.testBit q = false)) ?_ ?_
        · refine Ok.ite (fun c4 => ?_) (fun c4 => ?_)
          · rw [bit_off hS (by omega)] at c4
            refine Ok.bd _ (rX6_aheadAtStep hG.tt) ?_
            rintro v12 _ ⟨rfl, -⟩
            refine Ok.bd _ (bX6_of hG.tt g_x ⟨j, by omega, rfl⟩) ?_
            rintro _ _ ⟨rfl, m, hm, rfl⟩
            refine Ok.ite (fun c5 => ?_) (fun c5 => Ok.ret ⟨rfl, Or.inr ⟨j, by omega, rfl, c4⟩⟩)
            rcases hd with ⟨h1, h2, hall⟩ | h
            · rw [h2, li_1048576, nI_leP (by omega) (by omega)] at c5
              omega
            · exact Ok.ret ⟨rfl, Or.inr h⟩
          · rw [bit_off hS (by omega), Bool.not_eq_false] at c4
            refine Ok.ret ⟨rfl, ?_⟩
            rcases hd with ⟨h1, h2, hall⟩ | h
            · refine Or.inl ⟨h1, h2, fun p hp => ?_⟩
              by_cases e : p = j
              · rw [e]; exact c4
              · exact hall p (by omega)
            · exact Or.inr h
        · rintro v _ ⟨rfl, hv⟩
          exact Ok.ret ⟨9 - (j + 1), by omega, rfl, j + 1, nI_1 j, by omega, rfl, hv⟩
    · rintro _ _ ⟨rfl, q, hq, rfl, hb⟩
      refine Ok.ck (inb_n (by omega) (by omega)) (fun g2 => ?_)
      refine Ok.wr (fun w ew => ?_)
      refine Ok.ret ⟨9 - (i + 1), by omega, ⟨hG.wrT ew (by omega) (ty_od g_x (inb_lt g2)) ⟨q, by omega, rfl⟩, ?_⟩, S ||| 2 ^ q, i + 1, ?_, or9 hS (pw9 (by omega)), ?_, by omega, rfl⟩
      · rw [ew, wr_x2]
        exact en
      · rw [shl_1 (by omega), nI_or, nI_1]
      · rw [cnt_or hb, if_pos hq, hc]
  · clear hG
    have : ∀ m, cnt 0 m = 0 := by
      intro m
      induction m with
      | zero => rfl
      | succ m ih => rw [cnt, ih]; simp
    exact this n
