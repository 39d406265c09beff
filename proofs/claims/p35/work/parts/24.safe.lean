section
/-! safety of the class: searches (printed by wip/ext/g24.py) -/
theorem il_arr {a : Nat} (h : arrX a) : ilen a = 4608 := by rcases h with rfl | rfl <;> rfl
theorem m1_1 (x : Int32) : x + (-1) + 1 = x := by
  rw [Int32.add_assoc]
  have : (-1 : Int32) + 1 = 0 := by decide
  rw [this, Int32.add_zero]
theorem s1_1 (x : Int32) : x - 1 + 1 = x := by
  rw [Int32.sub_eq_add_neg]
  exact m1_1 x
/-- what a loop that counts down holds -/
theorem dn_of {c : Int32} {k : Nat} (h : c + 1 = nI k) (hk : k < 1000) : (c < 0 ∧ k = 0) ∨ ∃ j, k = j + 1 ∧ c = nI j := by
  have e : c = nI k - 1 := by rw [← h, Int32.add_sub_cancel]
  rcases Nat.eq_zero_or_pos k with h0 | h0
  · subst h0
    left
    rw [e]
    exact ⟨by decide, rfl⟩
  · right
    refine ⟨k - 1, by omega, ?_⟩
    rw [e]
    exact nI_sub (a := k) (b := 1) h0
set_option maxHeartbeats 4000000 in
set_option maxRecDepth 100000 in
theorem rSX9_newLines_6 {t : St} (hT : TY t) {x1 : Nat} (g_x1 : netAt x1 = true) {w2 : Int32} (h_w2 : IsR 512 w2) {w3 : Int32} {a0 : Int32} {a1 : Int32} (h_a1 : IsR 5001 a1) : Ok (wh (SX9_newLines_6 x1 w2 w3) (a0, a1) t) (fun r u => t = u ∧ (True)) := by
  obtain ⟨j0, hj0, rfl⟩ := h_a1
  refine Ok.loop (fun k c s => t = s ∧ (∃ j, c.2 = nI j ∧ j ≤ 5000 ∧ 0 ≤ j ∧ k = 5000 - j)) ?_ (5000 - j0) _ _ ⟨rfl, ⟨j0, rfl, by omega, by omega, rfl⟩⟩
  obtain ⟨k_w2, h_w2, rfl⟩ := h_w2
  clear hj0
  intro k c s hI
  obtain ⟨rfl, ⟨j, ej, hj, hlo, rfl⟩⟩ := hI
  obtain ⟨c0, c1⟩ := c
  dsimp only at ej
  subst ej
  unfold SX9_newLines_6
  dsimp only
  refine Ok.rdT hT (ty_n0 g_x1) (by omega) (fun k_1 hk_1 ek_1 => ?_)
  refine Ok.ite (fun c_2 => ?_) (fun c_2 => ?_)
  · try simp (disch := omega) only [li_0, li_1, li_2, li_3, li_4, li_5, li_6, li_7, li_8, li_9, li_10, li_20, li_30, li_82, li_91, li_273, li_380, li_400, li_512, li_1000, li_2457, li_4000, nI_add, nI_1, nI_mul, nI_sub, shl_1, shl_1b, nI_leP, nI_ltP, nI_eqP, Nat.not_le, Nat.not_lt] at c_2
    exact Ok.ret ⟨rfl, True.intro⟩
  · try simp (disch := omega) only [li_0, li_1, li_2, li_3, li_4, li_5, li_6, li_7, li_8, li_9, li_10, li_20, li_30, li_82, li_91, li_273, li_380, li_400, li_512, li_1000, li_2457, li_4000, nI_add, nI_1, nI_mul, nI_sub, shl_1, shl_1b, nI_leP, nI_ltP, nI_eqP, Nat.not_le, Nat.not_lt] at c_2
    refine Ok.bd (fun (v5 : Int32) t6 => t = t6 ∧ (True)) ?_ ?_
    · refine Ok.ite (fun c_3 => ?_) (fun c_3 => ?_)
      · try simp (disch := omega) only [li_0, li_1, li_2, li_3, li_4, li_5, li_6, li_7, li_8, li_9, li_10, li_20, li_30, li_82, li_91, li_273, li_380, li_400, li_512, li_1000, li_2457, li_4000, nI_add, nI_1, nI_mul, nI_sub, shl_1, shl_1b, nI_leP, nI_ltP, nI_eqP, Nat.not_le, Nat.not_lt] at c_3
        exact Ok.ret ⟨rfl, True.intro⟩
      · try simp (disch := omega) only [li_0, li_1, li_2, li_3, li_4, li_5, li_6, li_7, li_8, li_9, li_10, li_20, li_30, li_82, li_91, li_273, li_380, li_400, li_512, li_1000, li_2457, li_4000, nI_add, nI_1, nI_mul, nI_sub, shl_1, shl_1b, nI_leP, nI_ltP, nI_eqP, Nat.not_le, Nat.not_lt] at c_3
        refine Ok.bd _ (rX6_aboveOf hT) ?_
        rintro v9 _ ⟨rfl, hxv9⟩
        refine Ok.ck (by first | (simp (disch := omega) only [li_0, li_1, li_2, li_3, li_4, li_5, li_6, li_7, li_8, li_9, li_10, li_20, li_30, li_82, li_91, li_273, li_380, li_400, li_512, li_1000, li_2457, li_4000, nI_add, nI_1, nI_mul, nI_sub, shl_1, shl_1b, nI_or, nI_xor, nI_and]; with_reducible exact inb_n (by first | omega | exact or9 (by omega) (by omega) | exact xor9 (by omega) (by omega)) (by omega)) | with_reducible exact inb_n (by omega) (by omega) | exact IsR.ib (by with_reducible assumption) (by decide) | decide) (fun g_5 => ?_)
        refine Ok.rd (fun v13 hv13 => ?_)
        refine Ok.bd _ (rJ6_bitCount_0f7a4 hT) ?_
        rintro v15 _ ⟨rfl, hxv15⟩
        exact Ok.ret ⟨rfl, True.intro⟩
    · intro v5 t6 hx
      obtain ⟨rfl, hxv5⟩ := hx
      exact Ok.ret ⟨5000 - (j + 1), by omega, rfl, ⟨j + 1, nI_1 j, by omega, by omega, rfl⟩⟩
set_option maxHeartbeats 4000000 in
set_option maxRecDepth 100000 in
theorem rX9_newLines {t : St} (hT : TY t) {x : Nat} (g_x : netAt x = true) {a : Int32} (h_a : IsR 512 a) {b : Int32} : Ok (FX9_newLines x a b t) (fun r u => t = u ∧ (True)) := by
  obtain ⟨k_a, h_a, rfl⟩ := h_a
  unfold FX9_newLines
  refine Ok.ck (by first | assumption | decide +kernel) (fun g_1 => ?_)
  refine Ok.bd _ (rSX9_newLines_6 hT (by first | assumption | decide +kernel) (by first | with_reducible assumption | (simp (disch := omega) only [li_0, li_1, li_2, li_3, li_4, li_5, li_6, li_7, li_8, li_9, li_10, li_20, li_30, li_82, li_91, li_273, li_380, li_400, li_512, li_1000, li_2457, li_4000, nI_add, nI_1, nI_mul, nI_sub, shl_1, shl_1b, nI_or, nI_xor, nI_and]; with_reducible exact ⟨_, (by first | omega | exact or9 (by omega) (by omega) | exact xor9 (by omega) (by omega)), rfl⟩) | with_reducible exact ⟨_, (by first | omega | exact or9 (by omega) (by omega) | exact xor9 (by omega) (by omega)), rfl⟩ | exact IsR.mn (by first | with_reducible assumption | exact ⟨_, by omega, rfl⟩) (by first | with_reducible assumption | exact ⟨_, by omega, rfl⟩) | exact IsR.mx (by first | with_reducible assumption | exact ⟨_, by omega, rfl⟩) (by first | with_reducible assumption | exact ⟨_, by omega, rfl⟩) | with_reducible exact mn9 (by omega) | (simp (disch := omega) only [li_0, li_1, li_2, li_3, li_4, li_5, li_6, li_7, li_8, li_9, li_10, li_20, li_30, li_82, li_91, li_273, li_380, li_400, li_512, li_1000, li_2457, li_4000, nI_add, nI_1, nI_mul, nI_sub, shl_1, shl_1b]; with_reducible exact mn9b (by omega))) (by show IsR 5001 _; first | with_reducible assumption | (simp (disch := omega) only [li_0, li_1, li_2, li_3, li_4, li_5, li_6, li_7, li_8, li_9, li_10, li_20, li_30, li_82, li_91, li_273, li_380, li_400, li_512, li_1000, li_2457, li_4000, nI_add, nI_1, nI_mul, nI_sub, shl_1, shl_1b, nI_or, nI_xor, nI_and]; with_reducible exact ⟨_, (by first | omega | exact or9 (by omega) (by omega) | exact xor9 (by omega) (by omega)), rfl⟩) | with_reducible exact ⟨_, (by first | omega | exact or9 (by omega) (by omega) | exact xor9 (by omega) (by omega)), rfl⟩ | exact IsR.mn (by first | with_reducible assumption | exact ⟨_, by omega, rfl⟩) (by first | with_reducible assumption | exact ⟨_, by omega, rfl⟩) | exact IsR.mx (by first | with_reducible assumption | exact ⟨_, by omega, rfl⟩) (by first | with_reducible assumption | exact ⟨_, by omega, rfl⟩) | with_reducible exact mn9 (by omega) | (simp (disch := omega) only [li_0, li_1, li_2, li_3, li_4, li_5, li_6, li_7, li_8, li_9, li_10, li_20, li_30, li_82, li_91, li_273, li_380, li_400, li_512, li_1000, li_2457, li_4000, nI_add, nI_1, nI_mul, nI_sub, shl_1, shl_1b]; with_reducible exact mn9b (by omega)))) ?_
  rintro e18 _ ⟨rfl, hxe18⟩
  exact Ok.ret ⟨rfl, True.intro⟩
set_option maxHeartbeats 4000000 in
set_option maxRecDepth 100000 in
theorem rX9_fits {t : St} (hT : TY t) {a : Int32} {b : Int32} (h_b : IsR 512 b) {c : Int32} (h_c : IsR 9 c) {d : Int32} : Ok (FX9_fits a b c d t) (fun r u => t = u ∧ (isb r = true ∧ (True))) := by
  obtain ⟨k_b, h_b, rfl⟩ := h_b
  obtain ⟨k_c, h_c, rfl⟩ := h_c
  unfold FX9_fits
  have hp_ := pw9 (k := k_c) (by omega)
  have hx_ := xor9 (a := k_b) (b := 2 ^ k_c) (by omega) hp_
  have ho_ := or9 (a := k_b) (b := 2 ^ k_c) (by omega) hp_
  refine Ok.ck (by first | (simp (disch := omega) only [li_0, li_1, li_2, li_3, li_4, li_5, li_6, li_7, li_8, li_9, li_10, li_20, li_30, li_82, li_91, li_273, li_380, li_400, li_512, li_1000, li_2457, li_4000, nI_add, nI_1, nI_mul, nI_sub, shl_1, shl_1b, nI_or, nI_xor, nI_and]; with_reducible exact inb_n (by first | omega | exact or9 (by omega) (by omega) | exact xor9 (by omega) (by omega)) (by omega)) | with_reducible exact inb_n (by omega) (by omega) | exact IsR.ib (by with_reducible assumption) (by decide) | decide) (fun g_1 => ?_)
  refine Ok.rd (fun v2 hv2 => ?_)
  refine Ok.ite (fun c_2 => ?_) (fun c_2 => ?_)
  · try simp (disch := omega) only [li_0, li_1, li_2, li_3, li_4, li_5, li_6, li_7, li_8, li_9, li_10, li_20, li_30, li_82, li_91, li_273, li_380, li_400, li_512, li_1000, li_2457, li_4000, nI_add, nI_1, nI_mul, nI_sub, shl_1, shl_1b, nI_leP, nI_ltP, nI_eqP, Nat.not_le, Nat.not_lt] at c_2
    refine Ok.ite (fun c_3 => ?_) (fun c_3 => ?_)
    · try simp (disch := omega) only [li_0, li_1, li_2, li_3, li_4, li_5, li_6, li_7, li_8, li_9, li_10, li_20, li_30, li_82, li_91, li_273, li_380, li_400, li_512, li_1000, li_2457, li_4000, nI_add, nI_1, nI_mul, nI_sub, shl_1, shl_1b, nI_leP, nI_ltP, nI_eqP, Nat.not_le, Nat.not_lt] at c_3
      exact Ok.ret ⟨rfl, ⟨(by first | rfl | assumption | decide), (by first | exact True.intro | exact Or.inl rfl | exact Or.inr (by first | assumption | exact ⟨_, by omega, rfl⟩ | exact ⟨⟨_, by omega, rfl⟩, ⟨_, by omega, rfl⟩⟩))⟩⟩
    · try simp (disch := omega) only [li_0, li_1, li_2, li_3, li_4, li_5, li_6, li_7, li_8, li_9, li_10, li_20, li_30, li_82, li_91, li_273, li_380, li_400, li_512, li_1000, li_2457, li_4000, nI_add, nI_1, nI_mul, nI_sub, shl_1, shl_1b, nI_leP, nI_ltP, nI_eqP, Nat.not_le, Nat.not_lt] at c_3
      exact Ok.ret ⟨rfl, ⟨(by first | rfl | assumption | decide), (by first | exact True.intro | exact Or.inl rfl | exact Or.inr (by first | assumption | exact ⟨_, by omega, rfl⟩ | exact ⟨⟨_, by omega, rfl⟩, ⟨_, by omega, rfl⟩⟩))⟩⟩
  · try simp (disch := omega) only [li_0, li_1, li_2, li_3, li_4, li_5, li_6, li_7, li_8, li_9, li_10, li_20, li_30, li_82, li_91, li_273, li_380, li_400, li_512, li_1000, li_2457, li_4000, nI_add, nI_1, nI_mul, nI_sub, shl_1, shl_1b, nI_leP, nI_ltP, nI_eqP, Nat.not_le, Nat.not_lt] at c_2
    refine Ok.ite (fun c_4 => ?_) (fun c_4 => ?_)
    · try simp (disch := omega) only [li_0, li_1, li_2, li_3, li_4, li_5, li_6, li_7, li_8, li_9, li_10, li_20, li_30, li_82, li_91, li_273, li_380, li_400, li_512, li_1000, li_2457, li_4000, nI_add, nI_1, nI_mul, nI_sub, shl_1, shl_1b, nI_leP, nI_ltP, nI_eqP, Nat.not_le, Nat.not_lt] at c_4
      refine Ok.ite (fun c_5 => ?_) (fun c_5 => ?_)
      · try simp (disch := omega) only [li_0, li_1, li_2, li_3, li_4, li_5, li_6, li_7, li_8, li_9, li_10, li_20, li_30, li_82, li_91, li_273, li_380, li_400, li_512, li_1000, li_2457, li_4000, nI_add, nI_1, nI_mul, nI_sub, shl_1, shl_1b, nI_leP, nI_ltP, nI_eqP, Nat.not_le, Nat.not_lt] at c_5
        exact Ok.ret ⟨rfl, ⟨(by first | rfl | assumption | decide), (by first | exact True.intro | exact Or.inl rfl | exact Or.inr (by first | assumption | exact ⟨_, by omega, rfl⟩ | exact ⟨⟨_, by omega, rfl⟩, ⟨_, by omega, rfl⟩⟩))⟩⟩
      · try simp (disch := omega) only [li_0, li_1, li_2, li_3, li_4, li_5, li_6, li_7, li_8, li_9, li_10, li_20, li_30, li_82, li_91, li_273, li_380, li_400, li_512, li_1000, li_2457, li_4000, nI_add, nI_1, nI_mul, nI_sub, shl_1, shl_1b, nI_leP, nI_ltP, nI_eqP, Nat.not_le, Nat.not_lt] at c_5
        exact Ok.ret ⟨rfl, ⟨(by first | rfl | assumption | decide), (by first | exact True.intro | exact Or.inl rfl | exact Or.inr (by first | assumption | exact ⟨_, by omega, rfl⟩ | exact ⟨⟨_, by omega, rfl⟩, ⟨_, by omega, rfl⟩⟩))⟩⟩
    · try simp (disch := omega) only [li_0, li_1, li_2, li_3, li_4, li_5, li_6, li_7, li_8, li_9, li_10, li_20, li_30, li_82, li_91, li_273, li_380, li_400, li_512, li_1000, li_2457, li_4000, nI_add, nI_1, nI_mul, nI_sub, shl_1, shl_1b, nI_leP, nI_ltP, nI_eqP, Nat.not_le, Nat.not_lt] at c_4
      refine Ok.ite (fun c_6 => ?_) (fun c_6 => ?_)
      · try simp (disch := omega) only [li_0, li_1, li_2, li_3, li_4, li_5, li_6, li_7, li_8, li_9, li_10, li_20, li_30, li_82, li_91, li_273, li_380, li_400, li_512, li_1000, li_2457, li_4000, nI_add, nI_1, nI_mul, nI_sub, shl_1, shl_1b, nI_leP, nI_ltP, nI_eqP, Nat.not_le, Nat.not_lt] at c_6
        refine Ok.ite (fun c_7 => ?_) (fun c_7 => ?_)
        · try simp (disch := omega) only [li_0, li_1, li_2, li_3, li_4, li_5, li_6, li_7, li_8, li_9, li_10, li_20, li_30, li_82, li_91, li_273, li_380, li_400, li_512, li_1000, li_2457, li_4000, nI_add, nI_1, nI_mul, nI_sub, shl_1, shl_1b, nI_leP, nI_ltP, nI_eqP, Nat.not_le, Nat.not_lt] at c_7
          exact Ok.ret ⟨rfl, ⟨(by first | rfl | assumption | decide), (by first | exact True.intro | exact Or.inl rfl | exact Or.inr (by first | assumption | exact ⟨_, by omega, rfl⟩ | exact ⟨⟨_, by omega, rfl⟩, ⟨_, by omega, rfl⟩⟩))⟩⟩
        · try simp (disch := omega) only [li_0, li_1, li_2, li_3, li_4, li_5, li_6, li_7, li_8, li_9, li_10, li_20, li_30, li_82, li_91, li_273, li_380, li_400, li_512, li_1000, li_2457, li_4000, nI_add, nI_1, nI_mul, nI_sub, shl_1, shl_1b, nI_leP, nI_ltP, nI_eqP, Nat.not_le, Nat.not_lt] at c_7
          exact Ok.ret ⟨rfl, ⟨(by first | rfl | assumption | decide), (by first | exact True.intro | exact Or.inl rfl | exact Or.inr (by first | assumption | exact ⟨_, by omega, rfl⟩ | exact ⟨⟨_, by omega, rfl⟩, ⟨_, by omega, rfl⟩⟩))⟩⟩
      · try simp (disch := omega) only [li_0, li_1, li_2, li_3, li_4, li_5, li_6, li_7, li_8, li_9, li_10, li_20, li_30, li_82, li_91, li_273, li_380, li_400, li_512, li_1000, li_2457, li_4000, nI_add, nI_1, nI_mul, nI_sub, shl_1, shl_1b, nI_leP, nI_ltP, nI_eqP, Nat.not_le, Nat.not_lt] at c_6
        refine Ok.ck (by first | (simp (disch := omega) only [li_0, li_1, li_2, li_3, li_4, li_5, li_6, li_7, li_8, li_9, li_10, li_20, li_30, li_82, li_91, li_273, li_380, li_400, li_512, li_1000, li_2457, li_4000, nI_add, nI_1, nI_mul, nI_sub, shl_1, shl_1b, nI_or, nI_xor, nI_and]; with_reducible exact inb_n (by first | omega | exact or9 (by omega) (by omega) | exact xor9 (by omega) (by omega)) (by omega)) | with_reducible exact inb_n (by omega) (by omega) | exact IsR.ib (by with_reducible assumption) (by decide) | decide) (fun g_8 => ?_)
        refine Ok.rd (fun v14 hv14 => ?_)
        refine Ok.ck (by first | (simp (disch := omega) only [li_0, li_1, li_2, li_3, li_4, li_5, li_6, li_7, li_8, li_9, li_10, li_20, li_30, li_82, li_91, li_273, li_380, li_400, li_512, li_1000, li_2457, li_4000, nI_add, nI_1, nI_mul, nI_sub, shl_1, shl_1b, nI_or, nI_xor, nI_and]; with_reducible exact inb_n (by first | omega | exact or9 (by omega) (by omega) | exact xor9 (by omega) (by omega)) (by omega)) | with_reducible exact inb_n (by omega) (by omega) | exact IsR.ib (by with_reducible assumption) (by decide) | decide) (fun g_9 => ?_)
        refine Ok.rd (fun v17 hv17 => ?_)
        refine Ok.ite (fun c_10 => ?_) (fun c_10 => ?_)
        · try simp (disch := omega) only [li_0, li_1, li_2, li_3, li_4, li_5, li_6, li_7, li_8, li_9, li_10, li_20, li_30, li_82, li_91, li_273, li_380, li_400, li_512, li_1000, li_2457, li_4000, nI_add, nI_1, nI_mul, nI_sub, shl_1, shl_1b, nI_leP, nI_ltP, nI_eqP, Nat.not_le, Nat.not_lt] at c_10
          exact Ok.ret ⟨rfl, ⟨(by first | rfl | assumption | decide), (by first | exact True.intro | exact Or.inl rfl | exact Or.inr (by first | assumption | exact ⟨_, by omega, rfl⟩ | exact ⟨⟨_, by omega, rfl⟩, ⟨_, by omega, rfl⟩⟩))⟩⟩
        · try simp (disch := omega) only [li_0, li_1, li_2, li_3, li_4, li_5, li_6, li_7, li_8, li_9, li_10, li_20, li_30, li_82, li_91, li_273, li_380, li_400, li_512, li_1000, li_2457, li_4000, nI_add, nI_1, nI_mul, nI_sub, shl_1, shl_1b, nI_leP, nI_ltP, nI_eqP, Nat.not_le, Nat.not_lt] at c_10
          exact Ok.ret ⟨rfl, ⟨(by first | rfl | assumption | decide), (by first | exact True.intro | exact Or.inl rfl | exact Or.inr (by first | assumption | exact ⟨_, by omega, rfl⟩ | exact ⟨⟨_, by omega, rfl⟩, ⟨_, by omega, rfl⟩⟩))⟩⟩
set_option maxHeartbeats 4000000 in
set_option maxRecDepth 100000 in
theorem rSX9_leadersFrom_6 {t : St} (hT : TY t) {x1 : Nat} (g_x1 : netAt x1 = true) {w2 : Int32} {w3 : Int32} (h_w3 : IsR 512 w3) {w4 : Int32} {a0 : Int32} {a1 : Int32} (h_a1 : IsR 5001 a1) : Ok (wh (SX9_leadersFrom_6 x1 w2 w3 w4) (a0, a1) t) (fun r u => t = u ∧ (True)) := by
  obtain ⟨j0, hj0, rfl⟩ := h_a1
  refine Ok.loop (fun k c s => t = s ∧ (∃ j, c.2 = nI j ∧ j ≤ 5000 ∧ 0 ≤ j ∧ k = 5000 - j)) ?_ (5000 - j0) _ _ ⟨rfl, ⟨j0, rfl, by omega, by omega, rfl⟩⟩
  obtain ⟨k_w3, h_w3, rfl⟩ := h_w3
  clear hj0
  intro k c s hI
  obtain ⟨rfl, ⟨j, ej, hj, hlo, rfl⟩⟩ := hI
  obtain ⟨c0, c1⟩ := c
  dsimp only at ej
  subst ej
  unfold SX9_leadersFrom_6
  dsimp only
  refine Ok.rdT hT (ty_n0 g_x1) (by omega) (fun k_1 hk_1 ek_1 => ?_)
  refine Ok.ite (fun c_2 => ?_) (fun c_2 => ?_)
  · try simp (disch := omega) only [li_0, li_1, li_2, li_3, li_4, li_5, li_6, li_7, li_8, li_9, li_10, li_20, li_30, li_82, li_91, li_273, li_380, li_400, li_512, li_1000, li_2457, li_4000, nI_add, nI_1, nI_mul, nI_sub, shl_1, shl_1b, nI_leP, nI_ltP, nI_eqP, Nat.not_le, Nat.not_lt] at c_2
    exact Ok.ret ⟨rfl, True.intro⟩
  · try simp (disch := omega) only [li_0, li_1, li_2, li_3, li_4, li_5, li_6, li_7, li_8, li_9, li_10, li_20, li_30, li_82, li_91, li_273, li_380, li_400, li_512, li_1000, li_2457, li_4000, nI_add, nI_1, nI_mul, nI_sub, shl_1, shl_1b, nI_leP, nI_ltP, nI_eqP, Nat.not_le, Nat.not_lt] at c_2
    have hp_ := pw9 (k := j) (by omega)
    have hx_ := xor9 (a := k_w3) (b := 2 ^ j) (by omega) hp_
    have ho_ := or9 (a := k_w3) (b := 2 ^ j) (by omega) hp_
    refine Ok.bd (fun (v5 : Int32) t6 => t = t6 ∧ (True)) ?_ ?_
    · refine Ok.ite (fun c_3 => ?_) (fun c_3 => ?_)
      · try simp (disch := omega) only [li_0, li_1, li_2, li_3, li_4, li_5, li_6, li_7, li_8, li_9, li_10, li_20, li_30, li_82, li_91, li_273, li_380, li_400, li_512, li_1000, li_2457, li_4000, nI_add, nI_1, nI_mul, nI_sub, shl_1, shl_1b, nI_leP, nI_ltP, nI_eqP, Nat.not_le, Nat.not_lt] at c_3
        refine Ok.ck (by first | (simp (disch := omega) only [li_0, li_1, li_2, li_3, li_4, li_5, li_6, li_7, li_8, li_9, li_10, li_20, li_30, li_82, li_91, li_273, li_380, li_400, li_512, li_1000, li_2457, li_4000, nI_add, nI_1, nI_mul, nI_sub, shl_1, shl_1b, nI_or, nI_xor, nI_and]; with_reducible exact inb_n (by first | omega | exact or9 (by omega) (by omega) | exact xor9 (by omega) (by omega)) (by omega)) | with_reducible exact inb_n (by omega) (by omega) | exact IsR.ib (by with_reducible assumption) (by decide) | decide) (fun g_4 => ?_)
        refine Ok.rd (fun v10 hv10 => ?_)
        refine Ok.ite (fun c_5 => ?_) (fun c_5 => ?_)
        · try simp (disch := omega) only [li_0, li_1, li_2, li_3, li_4, li_5, li_6, li_7, li_8, li_9, li_10, li_20, li_30, li_82, li_91, li_273, li_380, li_400, li_512, li_1000, li_2457, li_4000, nI_add, nI_1, nI_mul, nI_sub, shl_1, shl_1b, nI_leP, nI_ltP, nI_eqP, Nat.not_le, Nat.not_lt] at c_5
          exact Ok.ret ⟨rfl, True.intro⟩
        · try simp (disch := omega) only [li_0, li_1, li_2, li_3, li_4, li_5, li_6, li_7, li_8, li_9, li_10, li_20, li_30, li_82, li_91, li_273, li_380, li_400, li_512, li_1000, li_2457, li_4000, nI_add, nI_1, nI_mul, nI_sub, shl_1, shl_1b, nI_leP, nI_ltP, nI_eqP, Nat.not_le, Nat.not_lt] at c_5
          refine Ok.bd _ (rX9_fits hT (by first | with_reducible assumption | (simp (disch := omega) only [li_0, li_1, li_2, li_3, li_4, li_5, li_6, li_7, li_8, li_9, li_10, li_20, li_30, li_82, li_91, li_273, li_380, li_400, li_512, li_1000, li_2457, li_4000, nI_add, nI_1, nI_mul, nI_sub, shl_1, shl_1b, nI_or, nI_xor, nI_and]; with_reducible exact ⟨_, (by first | omega | exact or9 (by omega) (by omega) | exact xor9 (by omega) (by omega)), rfl⟩) | with_reducible exact ⟨_, (by first | omega | exact or9 (by omega) (by omega) | exact xor9 (by omega) (by omega)), rfl⟩ | exact IsR.mn (by first | with_reducible assumption | exact ⟨_, by omega, rfl⟩) (by first | with_reducible assumption | exact ⟨_, by omega, rfl⟩) | exact IsR.mx (by first | with_reducible assumption | exact ⟨_, by omega, rfl⟩) (by first | with_reducible assumption | exact ⟨_, by omega, rfl⟩) | with_reducible exact mn9 (by omega) | (simp (disch := omega) only [li_0, li_1, li_2, li_3, li_4, li_5, li_6, li_7, li_8, li_9, li_10, li_20, li_30, li_82, li_91, li_273, li_380, li_400, li_512, li_1000, li_2457, li_4000, nI_add, nI_1, nI_mul, nI_sub, shl_1, shl_1b]; with_reducible exact mn9b (by omega))) (by first | with_reducible assumption | (simp (disch := omega) only [li_0, li_1, li_2, li_3, li_4, li_5, li_6, li_7, li_8, li_9, li_10, li_20, li_30, li_82, li_91, li_273, li_380, li_400, li_512, li_1000, li_2457, li_4000, nI_add, nI_1, nI_mul, nI_sub, shl_1, shl_1b, nI_or, nI_xor, nI_and]; with_reducible exact ⟨_, (by first | omega | exact or9 (by omega) (by omega) | exact xor9 (by omega) (by omega)), rfl⟩) | with_reducible exact ⟨_, (by first | omega | exact or9 (by omega) (by omega) | exact xor9 (by omega) (by omega)), rfl⟩ | exact IsR.mn (by first | with_reducible assumption | exact ⟨_, by omega, rfl⟩) (by first | with_reducible assumption | exact ⟨_, by omega, rfl⟩) | exact IsR.mx (by first | with_reducible assumption | exact ⟨_, by omega, rfl⟩) (by first | with_reducible assumption | exact ⟨_, by omega, rfl⟩) | with_reducible exact mn9 (by omega) | (simp (disch := omega) only [li_0, li_1, li_2, li_3, li_4, li_5, li_6, li_7, li_8, li_9, li_10, li_20, li_30, li_82, li_91, li_273, li_380, li_400, li_512, li_1000, li_2457, li_4000, nI_add, nI_1, nI_mul, nI_sub, shl_1, shl_1b]; with_reducible exact mn9b (by omega)))) ?_
          rintro v13 _ ⟨rfl, hbv13, hxv13⟩
          refine Ok.ite (fun c_7 => ?_) (fun c_7 => ?_)
          · try simp (disch := omega) only [li_0, li_1, li_2, li_3, li_4, li_5, li_6, li_7, li_8, li_9, li_10, li_20, li_30, li_82, li_91, li_273, li_380, li_400, li_512, li_1000, li_2457, li_4000, nI_add, nI_1, nI_mul, nI_sub, shl_1, shl_1b, nI_leP, nI_ltP, nI_eqP, Nat.not_le, Nat.not_lt] at c_7
            exact Ok.ret ⟨rfl, True.intro⟩
          · try simp (disch := omega) only [li_0, li_1, li_2, li_3, li_4, li_5, li_6, li_7, li_8, li_9, li_10, li_20, li_30, li_82, li_91, li_273, li_380, li_400, li_512, li_1000, li_2457, li_4000, nI_add, nI_1, nI_mul, nI_sub, shl_1, shl_1b, nI_leP, nI_ltP, nI_eqP, Nat.not_le, Nat.not_lt] at c_7
            exact Ok.ret ⟨rfl, True.intro⟩
      · try simp (disch := omega) only [li_0, li_1, li_2, li_3, li_4, li_5, li_6, li_7, li_8, li_9, li_10, li_20, li_30, li_82, li_91, li_273, li_380, li_400, li_512, li_1000, li_2457, li_4000, nI_add, nI_1, nI_mul, nI_sub, shl_1, shl_1b, nI_leP, nI_ltP, nI_eqP, Nat.not_le, Nat.not_lt] at c_3
        exact Ok.ret ⟨rfl, True.intro⟩
    · intro v5 t6 hx
      obtain ⟨rfl, hxv5⟩ := hx
      exact Ok.ret ⟨5000 - (j + 1), by omega, rfl, ⟨j + 1, nI_1 j, by omega, by omega, rfl⟩⟩
set_option maxHeartbeats 4000000 in
set_option maxRecDepth 100000 in
theorem rX9_leadersFrom {t : St} (hT : TY t) {x : Nat} (g_x : netAt x = true) {a : Int32} {b : Int32} (h_b : IsR 512 b) {c : Int32} : Ok (FX9_leadersFrom x a b c t) (fun r u => t = u ∧ (True)) := by
  obtain ⟨k_b, h_b, rfl⟩ := h_b
  unfold FX9_leadersFrom
  refine Ok.ck (by first | assumption | decide +kernel) (fun g_1 => ?_)
  refine Ok.bd _ (rSX9_leadersFrom_6 hT (by first | assumption | decide +kernel) (by first | with_reducible assumption | (simp (disch := omega) only [li_0, li_1, li_2, li_3, li_4, li_5, li_6, li_7, li_8, li_9, li_10, li_20, li_30, li_82, li_91, li_273, li_380, li_400, li_512, li_1000, li_2457, li_4000, nI_add, nI_1, nI_mul, nI_sub, shl_1, shl_1b, nI_or, nI_xor, nI_and]; with_reducible exact ⟨_, (by first | omega | exact or9 (by omega) (by omega) | exact xor9 (by omega) (by omega)), rfl⟩) | with_reducible exact ⟨_, (by first | omega | exact or9 (by omega) (by omega) | exact xor9 (by omega) (by omega)), rfl⟩ | exact IsR.mn (by first | with_reducible assumption | exact ⟨_, by omega, rfl⟩) (by first | with_reducible assumption | exact ⟨_, by omega, rfl⟩) | exact IsR.mx (by first | with_reducible assumption | exact ⟨_, by omega, rfl⟩) (by first | with_reducible assumption | exact ⟨_, by omega, rfl⟩) | with_reducible exact mn9 (by omega) | (simp (disch := omega) only [li_0, li_1, li_2, li_3, li_4, li_5, li_6, li_7, li_8, li_9, li_10, li_20, li_30, li_82, li_91, li_273, li_380, li_400, li_512, li_1000, li_2457, li_4000, nI_add, nI_1, nI_mul, nI_sub, shl_1, shl_1b]; with_reducible exact mn9b (by omega))) (by show IsR 5001 _; first | with_reducible assumption | (simp (disch := omega) only [li_0, li_1, li_2, li_3, li_4, li_5, li_6, li_7, li_8, li_9, li_10, li_20, li_30, li_82, li_91, li_273, li_380, li_400, li_512, li_1000, li_2457, li_4000, nI_add, nI_1, nI_mul, nI_sub, shl_1, shl_1b, nI_or, nI_xor, nI_and]; with_reducible exact ⟨_, (by first | omega | exact or9 (by omega) (by omega) | exact xor9 (by omega) (by omega)), rfl⟩) | with_reducible exact ⟨_, (by first | omega | exact or9 (by omega) (by omega) | exact xor9 (by omega) (by omega)), rfl⟩ | exact IsR.mn (by first | with_reducible assumption | exact ⟨_, by omega, rfl⟩) (by first | with_reducible assumption | exact ⟨_, by omega, rfl⟩) | exact IsR.mx (by first | with_reducible assumption | exact ⟨_, by omega, rfl⟩) (by first | with_reducible assumption | exact ⟨_, by omega, rfl⟩) | with_reducible exact mn9 (by omega) | (simp (disch := omega) only [li_0, li_1, li_2, li_3, li_4, li_5, li_6, li_7, li_8, li_9, li_10, li_20, li_30, li_82, li_91, li_273, li_380, li_400, li_512, li_1000, li_2457, li_4000, nI_add, nI_1, nI_mul, nI_sub, shl_1, shl_1b]; with_reducible exact mn9b (by omega)))) ?_
  rintro e17 _ ⟨rfl, hxe17⟩
  exact Ok.ret ⟨rfl, True.intro⟩
set_option maxHeartbeats 4000000 in
set_option maxRecDepth 100000 in
theorem gSX9_fillAround_2 {σ t : St} (hG : GC σ t) {x1 : Nat} (g_x1 : netAt x1 = true) {a0 : Int32} (h_a0 : IsR 5001 a0) : Ok (wh (SX9_fillAround_2 x1) a0 t) (fun r u => GC σ u ∧ (True)) := by
  obtain ⟨j0, hj0, rfl⟩ := h_a0
  refine Ok.loop (fun k c s => GC σ s ∧ (∃ j, c = nI j ∧ j ≤ 5000 ∧ 0 ≤ j ∧ k = 5000 - j)) ?_ (5000 - j0) _ _ ⟨hG, ⟨j0, rfl, by omega, by omega, rfl⟩⟩
  clear hG hj0
  intro k c s hI
  obtain ⟨hG, ⟨j, ej, hj, hlo, rfl⟩⟩ := hI
  subst ej
  unfold SX9_fillAround_2
  refine Ok.rdT hG.tt (ty_n0 g_x1) (by omega) (fun k_1 hk_1 ek_1 => ?_)
  refine Ok.ite (fun c_2 => ?_) (fun c_2 => ?_)
  · try simp (disch := omega) only [li_0, li_1, li_2, li_3, li_4, li_5, li_6, li_7, li_8, li_9, li_10, li_20, li_30, li_82, li_91, li_273, li_380, li_400, li_512, li_1000, li_2457, li_4000, nI_add, nI_1, nI_mul, nI_sub, shl_1, shl_1b, nI_leP, nI_ltP, nI_eqP, Nat.not_le, Nat.not_lt] at c_2
    exact Ok.ret ⟨hG, True.intro⟩
  · try simp (disch := omega) only [li_0, li_1, li_2, li_3, li_4, li_5, li_6, li_7, li_8, li_9, li_10, li_20, li_30, li_82, li_91, li_273, li_380, li_400, li_512, li_1000, li_2457, li_4000, nI_add, nI_1, nI_mul, nI_sub, shl_1, shl_1b, nI_leP, nI_ltP, nI_eqP, Nat.not_le, Nat.not_lt] at c_2
    refine Ok.ck (by first | (simp (disch := omega) only [li_0, li_1, li_2, li_3, li_4, li_5, li_6, li_7, li_8, li_9, li_10, li_20, li_30, li_82, li_91, li_273, li_380, li_400, li_512, li_1000, li_2457, li_4000, nI_add, nI_1, nI_mul, nI_sub, shl_1, shl_1b, nI_or, nI_xor, nI_and]; with_reducible exact inb_n (by first | omega | exact or9 (by omega) (by omega) | exact xor9 (by omega) (by omega)) (by omega)) | with_reducible exact inb_n (by omega) (by omega) | exact IsR.ib (by with_reducible assumption) (by decide) | decide) (fun g_3 => ?_)
    refine Ok.rd (fun v5 hv5 => ?_)
    refine Ok.ck (by first | (simp (disch := omega) only [li_0, li_1, li_2, li_3, li_4, li_5, li_6, li_7, li_8, li_9, li_10, li_20, li_30, li_82, li_91, li_273, li_380, li_400, li_512, li_1000, li_2457, li_4000, nI_add, nI_1, nI_mul, nI_sub, shl_1, shl_1b, nI_or, nI_xor, nI_and]; with_reducible exact inb_n (by first | omega | exact or9 (by omega) (by omega) | exact xor9 (by omega) (by omega)) (by omega)) | with_reducible exact inb_n (by omega) (by omega) | exact IsR.ib (by with_reducible assumption) (by decide) | decide) (fun g_4 => ?_)
    refine Ok.wr (fun t8 w_5 => ?_)
    have hG_6 := hG.wrU w_5 (by omega) ty_u87
    exact Ok.ret ⟨5000 - (j + 1), by omega, hG_6, ⟨j + 1, nI_1 j, by omega, by omega, rfl⟩⟩
set_option maxHeartbeats 4000000 in
set_option maxRecDepth 100000 in
theorem gSX9_fillAround_56 {σ t : St} (hG : GC σ t) {x1 : Nat} (g_x1 : netAt x1 = true) {w2 : Int32} (h_w2 : IsR 512 w2) {w3 : Int32} (h_w3 : IsR 9 w3) {w4 : Int32} (h_w4 : ∃ b, b < 512 ∧ w4 = nI (b * 9)) {a0 : Int32} (h_a0 : IsR 5001 a0) : Ok (wh (SX9_fillAround_56 x1 w2 w3 w4) a0 t) (fun r u => GC σ u ∧ (True)) := by
  obtain ⟨j0, hj0, rfl⟩ := h_a0
  refine Ok.loop (fun k c s => GC σ s ∧ (∃ j, c = nI j ∧ j ≤ 5000 ∧ 0 ≤ j ∧ k = 5000 - j)) ?_ (5000 - j0) _ _ ⟨hG, ⟨j0, rfl, by omega, by omega, rfl⟩⟩
  obtain ⟨k_w2, h_w2, rfl⟩ := h_w2
  obtain ⟨k_w3, h_w3, rfl⟩ := h_w3
  clear hG hj0
  intro k c s hI
  obtain ⟨hG, ⟨j, ej, hj, hlo, rfl⟩⟩ := hI
  subst ej
  unfold SX9_fillAround_56
  obtain ⟨b4, hb4, rfl⟩ := h_w4
  refine Ok.rdT hG.tt (ty_n0 g_x1) (by omega) (fun k_1 hk_1 ek_1 => ?_)
  refine Ok.ite (fun c_2 => ?_) (fun c_2 => ?_)
  · try simp (disch := omega) only [li_0, li_1, li_2, li_3, li_4, li_5, li_6, li_7, li_8, li_9, li_10, li_20, li_30, li_82, li_91, li_273, li_380, li_400, li_512, li_1000, li_2457, li_4000, nI_add, nI_1, nI_mul, nI_sub, shl_1, shl_1b, nI_leP, nI_ltP, nI_eqP, Nat.not_le, Nat.not_lt] at c_2
    exact Ok.ret ⟨hG, True.intro⟩
  · try simp (disch := omega) only [li_0, li_1, li_2, li_3, li_4, li_5, li_6, li_7, li_8, li_9, li_10, li_20, li_30, li_82, li_91, li_273, li_380, li_400, li_512, li_1000, li_2457, li_4000, nI_add, nI_1, nI_mul, nI_sub, shl_1, shl_1b, nI_leP, nI_ltP, nI_eqP, Nat.not_le, Nat.not_lt] at c_2
    refine Ok.bd (fun (v25 : Unit) t26 => GC σ t26 ∧ (True)) ?_ ?_
    · refine Ok.ite (fun c_3 => ?_) (fun c_3 => ?_)
      · try simp (disch := omega) only [li_0, li_1, li_2, li_3, li_4, li_5, li_6, li_7, li_8, li_9, li_10, li_20, li_30, li_82, li_91, li_273, li_380, li_400, li_512, li_1000, li_2457, li_4000, nI_add, nI_1, nI_mul, nI_sub, shl_1, shl_1b, nI_leP, nI_ltP, nI_eqP, Nat.not_le, Nat.not_lt] at c_3
        refine Ok.ck (by first | (simp (disch := omega) only [li_0, li_1, li_2, li_3, li_4, li_5, li_6, li_7, li_8, li_9, li_10, li_20, li_30, li_82, li_91, li_273, li_380, li_400, li_512, li_1000, li_2457, li_4000, nI_add, nI_1, nI_mul, nI_sub, shl_1, shl_1b, nI_or, nI_xor, nI_and]; with_reducible exact inb_n (by first | omega | exact or9 (by omega) (by omega) | exact xor9 (by omega) (by omega)) (by omega)) | with_reducible exact inb_n (by omega) (by omega) | exact IsR.ib (by with_reducible assumption) (by decide) | decide) (fun g_4 => ?_)
        refine Ok.rd (fun v30 hv30 => ?_)
        refine Ok.bd (fun (v33 : Int32) t34 => GC σ t34 ∧ (True)) ?_ ?_
        · refine Ok.ite (fun c_5 => ?_) (fun c_5 => ?_)
          · try simp (disch := omega) only [li_0, li_1, li_2, li_3, li_4, li_5, li_6, li_7, li_8, li_9, li_10, li_20, li_30, li_82, li_91, li_273, li_380, li_400, li_512, li_1000, li_2457, li_4000, nI_add, nI_1, nI_mul, nI_sub, shl_1, shl_1b, nI_leP, nI_ltP, nI_eqP, Nat.not_le, Nat.not_lt] at c_5
            exact Ok.ret ⟨hG, True.intro⟩
          · try simp (disch := omega) only [li_0, li_1, li_2, li_3, li_4, li_5, li_6, li_7, li_8, li_9, li_10, li_20, li_30, li_82, li_91, li_273, li_380, li_400, li_512, li_1000, li_2457, li_4000, nI_add, nI_1, nI_mul, nI_sub, shl_1, shl_1b, nI_leP, nI_ltP, nI_eqP, Nat.not_le, Nat.not_lt] at c_5
            refine Ok.ck (by first | (simp (disch := omega) only [li_0, li_1, li_2, li_3, li_4, li_5, li_6, li_7, li_8, li_9, li_10, li_20, li_30, li_82, li_91, li_273, li_380, li_400, li_512, li_1000, li_2457, li_4000, nI_add, nI_1, nI_mul, nI_sub, shl_1, shl_1b, nI_or, nI_xor, nI_and]; with_reducible exact inb_n (by first | omega | exact or9 (by omega) (by omega) | exact xor9 (by omega) (by omega)) (by omega)) | with_reducible exact inb_n (by omega) (by omega) | exact IsR.ib (by with_reducible assumption) (by decide) | decide) (fun g_6 => ?_)
            refine Ok.rd (fun v41 hv41 => ?_)
            exact Ok.ret ⟨hG, True.intro⟩
        · intro v33 t34 hx
          obtain ⟨hG_7, hxv33⟩ := hx
          refine Ok.ck (by first | (simp (disch := omega) only [li_0, li_1, li_2, li_3, li_4, li_5, li_6, li_7, li_8, li_9, li_10, li_20, li_30, li_82, li_91, li_273, li_380, li_400, li_512, li_1000, li_2457, li_4000, nI_add, nI_1, nI_mul, nI_sub, shl_1, shl_1b, nI_or, nI_xor, nI_and]; with_reducible exact inb_n (by first | omega | exact or9 (by omega) (by omega) | exact xor9 (by omega) (by omega)) (by omega)) | with_reducible exact inb_n (by omega) (by omega) | exact IsR.ib (by with_reducible assumption) (by decide) | decide) (fun g_8 => ?_)
          refine Ok.wr (fun t38 w_9 => ?_)
          have hG_10 := hG_7.wrU w_9 (by omega) ty_u87
          exact Ok.ret ⟨hG_10, True.intro⟩
      · try simp (disch := omega) only [li_0, li_1, li_2, li_3, li_4, li_5, li_6, li_7, li_8, li_9, li_10, li_20, li_30, li_82, li_91, li_273, li_380, li_400, li_512, li_1000, li_2457, li_4000, nI_add, nI_1, nI_mul, nI_sub, shl_1, shl_1b, nI_leP, nI_ltP, nI_eqP, Nat.not_le, Nat.not_lt] at c_3
        exact Ok.ret ⟨hG, True.intro⟩
    · intro v25 t26 hx
      obtain ⟨hG_11, hxv25⟩ := hx
      exact Ok.ret ⟨5000 - (j + 1), by omega, hG_11, ⟨j + 1, nI_1 j, by omega, by omega, rfl⟩⟩
set_option maxHeartbeats 4000000 in
set_option maxRecDepth 100000 in
theorem gSX9_fillAround_30 {σ t : St} (hG : GC σ t) {x1 : Nat} (g_x1 : netAt x1 = true) {a0 : Int32} (h_a0 : ∃ k, k < 5001 ∧ 1 ≤ k ∧ a0 = nI k) : Ok (wh (SX9_fillAround_30 x1) a0 t) (fun r u => GC σ u ∧ (True)) := by
  obtain ⟨j0, hj0, hl0, rfl⟩ := h_a0
  refine Ok.loop (fun k c s => GC σ s ∧ (∃ j, c = nI j ∧ j ≤ 5000 ∧ 1 ≤ j ∧ k = 5000 - j)) ?_ (5000 - j0) _ _ ⟨hG, ⟨j0, rfl, by omega, by omega, rfl⟩⟩
  clear hG hj0
  intro k c s hI
  obtain ⟨hG, ⟨j, ej, hj, hlo, rfl⟩⟩ := hI
  subst ej
  unfold SX9_fillAround_30
  refine Ok.bd _ (rX5_allBits hG.tt (by first | assumption | decide +kernel)) ?_
  rintro _ _ ⟨rfl, kv14, hv14, rfl⟩
  refine Ok.ite (fun c_2 => ?_) (fun c_2 => ?_)
  · try simp (disch := omega) only [li_0, li_1, li_2, li_3, li_4, li_5, li_6, li_7, li_8, li_9, li_10, li_20, li_30, li_82, li_91, li_273, li_380, li_400, li_512, li_1000, li_2457, li_4000, nI_add, nI_1, nI_mul, nI_sub, shl_1, shl_1b, nI_leP, nI_ltP, nI_eqP, Nat.not_le, Nat.not_lt] at c_2
    exact Ok.ret ⟨hG, True.intro⟩
  · try simp (disch := omega) only [li_0, li_1, li_2, li_3, li_4, li_5, li_6, li_7, li_8, li_9, li_10, li_20, li_30, li_82, li_91, li_273, li_380, li_400, li_512, li_1000, li_2457, li_4000, nI_add, nI_1, nI_mul, nI_sub, shl_1, shl_1b, nI_leP, nI_ltP, nI_eqP, Nat.not_le, Nat.not_lt] at c_2
    refine Ok.bd _ (rX9_lowest hG.tt) ?_
    rintro _ _ ⟨rfl, kv18, hv18, rfl⟩
    refine Ok.bd _ (gSX9_fillAround_56 hG (by first | assumption | decide +kernel) (by first | with_reducible assumption | (simp (disch := omega) only [li_0, li_1, li_2, li_3, li_4, li_5, li_6, li_7, li_8, li_9, li_10, li_20, li_30, li_82, li_91, li_273, li_380, li_400, li_512, li_1000, li_2457, li_4000, nI_add, nI_1, nI_mul, nI_sub, shl_1, shl_1b, nI_or, nI_xor, nI_and]; with_reducible exact ⟨_, (by first | omega | exact or9 (by omega) (by omega) | exact xor9 (by omega) (by omega)), rfl⟩) | with_reducible exact ⟨_, (by first | omega | exact or9 (by omega) (by omega) | exact xor9 (by omega) (by omega)), rfl⟩ | exact IsR.mn (by first | with_reducible assumption | exact ⟨_, by omega, rfl⟩) (by first | with_reducible assumption | exact ⟨_, by omega, rfl⟩) | exact IsR.mx (by first | with_reducible assumption | exact ⟨_, by omega, rfl⟩) (by first | with_reducible assumption | exact ⟨_, by omega, rfl⟩) | with_reducible exact mn9 (by omega) | (simp (disch := omega) only [li_0, li_1, li_2, li_3, li_4, li_5, li_6, li_7, li_8, li_9, li_10, li_20, li_30, li_82, li_91, li_273, li_380, li_400, li_512, li_1000, li_2457, li_4000, nI_add, nI_1, nI_mul, nI_sub, shl_1, shl_1b]; with_reducible exact mn9b (by omega))) (by first | with_reducible assumption | (simp (disch := omega) only [li_0, li_1, li_2, li_3, li_4, li_5, li_6, li_7, li_8, li_9, li_10, li_20, li_30, li_82, li_91, li_273, li_380, li_400, li_512, li_1000, li_2457, li_4000, nI_add, nI_1, nI_mul, nI_sub, shl_1, shl_1b, nI_or, nI_xor, nI_and]; with_reducible exact ⟨_, (by first | omega | exact or9 (by omega) (by omega) | exact xor9 (by omega) (by omega)), rfl⟩) | with_reducible exact ⟨_, (by first | omega | exact or9 (by omega) (by omega) | exact xor9 (by omega) (by omega)), rfl⟩ | exact IsR.mn (by first | with_reducible assumption | exact ⟨_, by omega, rfl⟩) (by first | with_reducible assumption | exact ⟨_, by omega, rfl⟩) | exact IsR.mx (by first | with_reducible assumption | exact ⟨_, by omega, rfl⟩) (by first | with_reducible assumption | exact ⟨_, by omega, rfl⟩) | with_reducible exact mn9 (by omega) | (simp (disch := omega) only [li_0, li_1, li_2, li_3, li_4, li_5, li_6, li_7, li_8, li_9, li_10, li_20, li_30, li_82, li_91, li_273, li_380, li_400, li_512, li_1000, li_2457, li_4000, nI_add, nI_1, nI_mul, nI_sub, shl_1, shl_1b]; with_reducible exact mn9b (by omega))) (by exact ⟨j &&& (j - 1), and9 (by omega), by simp (disch := omega) only [li_0, li_1, li_2, li_3, li_4, li_5, li_6, li_7, li_8, li_9, li_10, li_20, li_30, li_82, li_91, li_273, li_380, li_400, li_512, li_1000, li_2457, li_4000, nI_add, nI_1, nI_mul, nI_sub, shl_1, shl_1b, nI_and]⟩) (by show IsR 5001 _; first | with_reducible assumption | (simp (disch := omega) only [li_0, li_1, li_2, li_3, li_4, li_5, li_6, li_7, li_8, li_9, li_10, li_20, li_30, li_82, li_91, li_273, li_380, li_400, li_512, li_1000, li_2457, li_4000, nI_add, nI_1, nI_mul, nI_sub, shl_1, shl_1b, nI_or, nI_xor, nI_and]; with_reducible exact ⟨_, (by first | omega | exact or9 (by omega) (by omega) | exact xor9 (by omega) (by omega)), rfl⟩) | with_reducible exact ⟨_, (by first | omega | exact or9 (by omega) (by omega) | exact xor9 (by omega) (by omega)), rfl⟩ | exact IsR.mn (by first | with_reducible assumption | exact ⟨_, by omega, rfl⟩) (by first | with_reducible assumption | exact ⟨_, by omega, rfl⟩) | exact IsR.mx (by first | with_reducible assumption | exact ⟨_, by omega, rfl⟩) (by first | with_reducible assumption | exact ⟨_, by omega, rfl⟩) | with_reducible exact mn9 (by omega) | (simp (disch := omega) only [li_0, li_1, li_2, li_3, li_4, li_5, li_6, li_7, li_8, li_9, li_10, li_20, li_30, li_82, li_91, li_273, li_380, li_400, li_512, li_1000, li_2457, li_4000, nI_add, nI_1, nI_mul, nI_sub, shl_1, shl_1b]; with_reducible exact mn9b (by omega)))) ?_
    rintro e43 t44 ⟨hG_4, hxe43⟩
    exact Ok.ret ⟨5000 - (j + 1), by omega, hG_4, ⟨j + 1, nI_1 j, by omega, by omega, rfl⟩⟩
set_option maxHeartbeats 4000000 in
set_option maxRecDepth 100000 in
theorem gX9_fillAround {σ t : St} (hG : GC σ t) {x : Nat} (g_x : netAt x = true) : Ok (FX9_fillAround x t) (fun r u => GC σ u ∧ (True)) := by
  unfold FX9_fillAround
  refine Ok.ck (by first | assumption | decide +kernel) (fun g_1 => ?_)
  refine Ok.bd _ (gSX9_fillAround_2 hG (by first | assumption | decide +kernel) (by show IsR 5001 _; first | with_reducible assumption | (simp (disch := omega) only [li_0, li_1, li_2, li_3, li_4, li_5, li_6, li_7, li_8, li_9, li_10, li_20, li_30, li_82, li_91, li_273, li_380, li_400, li_512, li_1000, li_2457, li_4000, nI_add, nI_1, nI_mul, nI_sub, shl_1, shl_1b, nI_or, nI_xor, nI_and]; with_reducible exact ⟨_, (by first | omega | exact or9 (by omega) (by omega) | exact xor9 (by omega) (by omega)), rfl⟩) | with_reducible exact ⟨_, (by first | omega | exact or9 (by omega) (by omega) | exact xor9 (by omega) (by omega)), rfl⟩ | exact IsR.mn (by first | with_reducible assumption | exact ⟨_, by omega, rfl⟩) (by first | with_reducible assumption | exact ⟨_, by omega, rfl⟩) | exact IsR.mx (by first | with_reducible assumption | exact ⟨_, by omega, rfl⟩) (by first | with_reducible assumption | exact ⟨_, by omega, rfl⟩) | with_reducible exact mn9 (by omega) | (simp (disch := omega) only [li_0, li_1, li_2, li_3, li_4, li_5, li_6, li_7, li_8, li_9, li_10, li_20, li_30, li_82, li_91, li_273, li_380, li_400, li_512, li_1000, li_2457, li_4000, nI_add, nI_1, nI_mul, nI_sub, shl_1, shl_1b]; with_reducible exact mn9b (by omega)))) ?_
  rintro e10 t11 ⟨hG_2, hxe10⟩
  refine Ok.bd _ (gSX9_fillAround_30 hG_2 (by first | assumption | decide +kernel) (by first | exact ⟨_, by omega, by omega, rfl⟩ | (simp (disch := omega) only [li_0, li_1, li_2, li_3, li_4, li_5, li_6, li_7, li_8, li_9, li_10, li_20, li_30, li_82, li_91, li_273, li_380, li_400, li_512, li_1000, li_2457, li_4000, nI_add, nI_1, nI_mul, nI_sub, shl_1, shl_1b]; exact ⟨_, by omega, by omega, rfl⟩))) ?_
  rintro e47 t48 ⟨hG_3, hxe47⟩
  exact Ok.ret ⟨hG_3, True.intro⟩
set_option maxHeartbeats 4000000 in
set_option maxRecDepth 100000 in
theorem gSX9_fillTakings_20 {σ t : St} (hG : GC σ t) {x1 : Nat} (g_x1 : netAt x1 = true) {w2 : Int32} {x3 : Nat} (g_x3 : arrX x3) {w4 : Int32} (h_w4 : IsR 512 w4) {a0 : Int32} (h_a0 : IsR 5001 a0) : Ok (wh (SX9_fillTakings_20 x1 w2 x3 w4) a0 t) (fun r u => GC σ u ∧ (True)) := by
  obtain ⟨j0, hj0, rfl⟩ := h_a0
  refine Ok.loop (fun k c s => GC σ s ∧ (∃ j, c = nI j ∧ j ≤ 5000 ∧ 0 ≤ j ∧ k = 5000 - j)) ?_ (5000 - j0) _ _ ⟨hG, ⟨j0, rfl, by omega, by omega, rfl⟩⟩
  obtain ⟨k_w4, h_w4, rfl⟩ := h_w4
  clear hG hj0
  intro k c s hI
  obtain ⟨hG, ⟨j, ej, hj, hlo, rfl⟩⟩ := hI
  subst ej
  unfold SX9_fillTakings_20
  have hil := il_arr g_x3
  refine Ok.rdT hG.tt (ty_n0 g_x1) (by omega) (fun k_1 hk_1 ek_1 => ?_)
  refine Ok.ite (fun c_2 => ?_) (fun c_2 => ?_)
  · try simp (disch := omega) only [li_0, li_1, li_2, li_3, li_4, li_5, li_6, li_7, li_8, li_9, li_10, li_20, li_30, li_82, li_91, li_273, li_380, li_400, li_512, li_1000, li_2457, li_4000, nI_add, nI_1, nI_mul, nI_sub, shl_1, shl_1b, nI_leP, nI_ltP, nI_eqP, Nat.not_le, Nat.not_lt] at c_2
    exact Ok.ret ⟨hG, True.intro⟩
  · try simp (disch := omega) only [li_0, li_1, li_2, li_3, li_4, li_5, li_6, li_7, li_8, li_9, li_10, li_20, li_30, li_82, li_91, li_273, li_380, li_400, li_512, li_1000, li_2457, li_4000, nI_add, nI_1, nI_mul, nI_sub, shl_1, shl_1b, nI_leP, nI_ltP, nI_eqP, Nat.not_le, Nat.not_lt] at c_2
    refine Ok.bd (fun (v12 : Unit) t13 => GC σ t13 ∧ (True)) ?_ ?_
    · refine Ok.ite (fun c_3 => ?_) (fun c_3 => ?_)
      · try simp (disch := omega) only [li_0, li_1, li_2, li_3, li_4, li_5, li_6, li_7, li_8, li_9, li_10, li_20, li_30, li_82, li_91, li_273, li_380, li_400, li_512, li_1000, li_2457, li_4000, nI_add, nI_1, nI_mul, nI_sub, shl_1, shl_1b, nI_leP, nI_ltP, nI_eqP, Nat.not_le, Nat.not_lt] at c_3
        refine Ok.ck (by first | (simp (disch := omega) only [li_0, li_1, li_2, li_3, li_4, li_5, li_6, li_7, li_8, li_9, li_10, li_20, li_30, li_82, li_91, li_273, li_380, li_400, li_512, li_1000, li_2457, li_4000, nI_add, nI_1, nI_mul, nI_sub, shl_1, shl_1b, nI_or, nI_xor, nI_and]; with_reducible exact inb_n (by first | omega | exact or9 (by omega) (by omega) | exact xor9 (by omega) (by omega)) (by omega)) | with_reducible exact inb_n (by omega) (by omega) | exact IsR.ib (by with_reducible assumption) (by decide) | decide) (fun g_4 => ?_)
        refine Ok.rd (fun v17 hv17 => ?_)
        refine Ok.bd (fun (v20 : Int32) t21 => GC σ t21 ∧ (True)) ?_ ?_
        · refine Ok.ite (fun c_5 => ?_) (fun c_5 => ?_)
          · try simp (disch := omega) only [li_0, li_1, li_2, li_3, li_4, li_5, li_6, li_7, li_8, li_9, li_10, li_20, li_30, li_82, li_91, li_273, li_380, li_400, li_512, li_1000, li_2457, li_4000, nI_add, nI_1, nI_mul, nI_sub, shl_1, shl_1b, nI_leP, nI_ltP, nI_eqP, Nat.not_le, Nat.not_lt] at c_5
            refine Ok.bd _ (rJ6_bitCount_0f7a4 hG.tt) ?_
            rintro v30 _ ⟨rfl, hxv30⟩
            exact Ok.ret ⟨hG, True.intro⟩
          · try simp (disch := omega) only [li_0, li_1, li_2, li_3, li_4, li_5, li_6, li_7, li_8, li_9, li_10, li_20, li_30, li_82, li_91, li_273, li_380, li_400, li_512, li_1000, li_2457, li_4000, nI_add, nI_1, nI_mul, nI_sub, shl_1, shl_1b, nI_leP, nI_ltP, nI_eqP, Nat.not_le, Nat.not_lt] at c_5
            refine Ok.bd _ (rX9_newLines hG.tt (by first | assumption | decide +kernel) (by first | with_reducible assumption | (simp (disch := omega) only [li_0, li_1, li_2, li_3, li_4, li_5, li_6, li_7, li_8, li_9, li_10, li_20, li_30, li_82, li_91, li_273, li_380, li_400, li_512, li_1000, li_2457, li_4000, nI_add, nI_1, nI_mul, nI_sub, shl_1, shl_1b, nI_or, nI_xor, nI_and]; with_reducible exact ⟨_, (by first | omega | exact or9 (by omega) (by omega) | exact xor9 (by omega) (by omega)), rfl⟩) | with_reducible exact ⟨_, (by first | omega | exact or9 (by omega) (by omega) | exact xor9 (by omega) (by omega)), rfl⟩ | exact IsR.mn (by first | with_reducible assumption | exact ⟨_, by omega, rfl⟩) (by first | with_reducible assumption | exact ⟨_, by omega, rfl⟩) | exact IsR.mx (by first | with_reducible assumption | exact ⟨_, by omega, rfl⟩) (by first | with_reducible assumption | exact ⟨_, by omega, rfl⟩) | with_reducible exact mn9 (by omega) | (simp (disch := omega) only [li_0, li_1, li_2, li_3, li_4, li_5, li_6, li_7, li_8, li_9, li_10, li_20, li_30, li_82, li_91, li_273, li_380, li_400, li_512, li_1000, li_2457, li_4000, nI_add, nI_1, nI_mul, nI_sub, shl_1, shl_1b]; with_reducible exact mn9b (by omega)))) ?_
            rintro v27 _ ⟨rfl, hxv27⟩
            exact Ok.ret ⟨hG, True.intro⟩
        · intro v20 t21 hx
          obtain ⟨hG_8, hxv20⟩ := hx
          refine Ok.ck (by first | (simp (disch := omega) only [li_0, li_1, li_2, li_3, li_4, li_5, li_6, li_7, li_8, li_9, li_10, li_20, li_30, li_82, li_91, li_273, li_380, li_400, li_512, li_1000, li_2457, li_4000, nI_add, nI_1, nI_mul, nI_sub, shl_1, shl_1b, nI_or, nI_xor, nI_and]; with_reducible exact inb_n (by first | omega | exact or9 (by omega) (by omega) | exact xor9 (by omega) (by omega)) (by omega)) | with_reducible exact inb_n (by omega) (by omega) | exact IsR.ib (by with_reducible assumption) (by decide) | decide) (fun g_9 => ?_)
          refine Ok.wr (fun t25 w_10 => ?_)
          have hG_11 := hG_8.wrU w_10 (by rcases (by assumption : arrX _) with rfl | rfl <;> omega) (ty_arr (by assumption))
          exact Ok.ret ⟨hG_11, True.intro⟩
      · try simp (disch := omega) only [li_0, li_1, li_2, li_3, li_4, li_5, li_6, li_7, li_8, li_9, li_10, li_20, li_30, li_82, li_91, li_273, li_380, li_400, li_512, li_1000, li_2457, li_4000, nI_add, nI_1, nI_mul, nI_sub, shl_1, shl_1b, nI_leP, nI_ltP, nI_eqP, Nat.not_le, Nat.not_lt] at c_3
        exact Ok.ret ⟨hG, True.intro⟩
    · intro v12 t13 hx
      obtain ⟨hG_12, hxv12⟩ := hx
      exact Ok.ret ⟨5000 - (j + 1), by omega, hG_12, ⟨j + 1, nI_1 j, by omega, by omega, rfl⟩⟩
set_option maxHeartbeats 4000000 in
set_option maxRecDepth 100000 in
theorem gSX9_fillTakings_8 {σ t : St} (hG : GC σ t) {x1 : Nat} (g_x1 : netAt x1 = true) {w2 : Int32} {x3 : Nat} (g_x3 : arrX x3) {a0 : Int32} (h_a0 : IsR 5001 a0) : Ok (wh (SX9_fillTakings_8 x1 w2 x3) a0 t) (fun r u => GC σ u ∧ (True)) := by
  obtain ⟨j0, hj0, rfl⟩ := h_a0
  refine Ok.loop (fun k c s => GC σ s ∧ (∃ j, c = nI j ∧ j ≤ 5000 ∧ 0 ≤ j ∧ k = 5000 - j)) ?_ (5000 - j0) _ _ ⟨hG, ⟨j0, rfl, by omega, by omega, rfl⟩⟩
  clear hG hj0
  intro k c s hI
  obtain ⟨hG, ⟨j, ej, hj, hlo, rfl⟩⟩ := hI
  subst ej
  unfold SX9_fillTakings_8
  refine Ok.bd _ (rX5_allBits hG.tt (by first | assumption | decide +kernel)) ?_
  rintro _ _ ⟨rfl, kv4, hv4, rfl⟩
  refine Ok.ite (fun c_2 => ?_) (fun c_2 => ?_)
  · try simp (disch := omega) only [li_0, li_1, li_2, li_3, li_4, li_5, li_6, li_7, li_8, li_9, li_10, li_20, li_30, li_82, li_91, li_273, li_380, li_400, li_512, li_1000, li_2457, li_4000, nI_add, nI_1, nI_mul, nI_sub, shl_1, shl_1b, nI_leP, nI_ltP, nI_eqP, Nat.not_le, Nat.not_lt] at c_2
    exact Ok.ret ⟨hG, True.intro⟩
  · try simp (disch := omega) only [li_0, li_1, li_2, li_3, li_4, li_5, li_6, li_7, li_8, li_9, li_10, li_20, li_30, li_82, li_91, li_273, li_380, li_400, li_512, li_1000, li_2457, li_4000, nI_add, nI_1, nI_mul, nI_sub, shl_1, shl_1b, nI_leP, nI_ltP, nI_eqP, Nat.not_le, Nat.not_lt] at c_2
    refine Ok.bd _ (gSX9_fillTakings_20 hG (by first | assumption | decide +kernel) (by first | assumption | exact Or.inl rfl | exact Or.inr rfl) (by first | with_reducible assumption | (simp (disch := omega) only [li_0, li_1, li_2, li_3, li_4, li_5, li_6, li_7, li_8, li_9, li_10, li_20, li_30, li_82, li_91, li_273, li_380, li_400, li_512, li_1000, li_2457, li_4000, nI_add, nI_1, nI_mul, nI_sub, shl_1, shl_1b, nI_or, nI_xor, nI_and]; with_reducible exact ⟨_, (by first | omega | exact or9 (by omega) (by omega) | exact xor9 (by omega) (by omega)), rfl⟩) | with_reducible exact ⟨_, (by first | omega | exact or9 (by omega) (by omega) | exact xor9 (by omega) (by omega)), rfl⟩ | exact IsR.mn (by first | with_reducible assumption | exact ⟨_, by omega, rfl⟩) (by first | with_reducible assumption | exact ⟨_, by omega, rfl⟩) | exact IsR.mx (by first | with_reducible assumption | exact ⟨_, by omega, rfl⟩) (by first | with_reducible assumption | exact ⟨_, by omega, rfl⟩) | with_reducible exact mn9 (by omega) | (simp (disch := omega) only [li_0, li_1, li_2, li_3, li_4, li_5, li_6, li_7, li_8, li_9, li_10, li_20, li_30, li_82, li_91, li_273, li_380, li_400, li_512, li_1000, li_2457, li_4000, nI_add, nI_1, nI_mul, nI_sub, shl_1, shl_1b]; with_reducible exact mn9b (by omega))) (by show IsR 5001 _; first | with_reducible assumption | (simp (disch := omega) only [li_0, li_1, li_2, li_3, li_4, li_5, li_6, li_7, li_8, li_9, li_10, li_20, li_30, li_82, li_91, li_273, li_380, li_400, li_512, li_1000, li_2457, li_4000, nI_add, nI_1, nI_mul, nI_sub, shl_1, shl_1b, nI_or, nI_xor, nI_and]; with_reducible exact ⟨_, (by first | omega | exact or9 (by omega) (by omega) | exact xor9 (by omega) (by omega)), rfl⟩) | with_reducible exact ⟨_, (by first | omega | exact or9 (by omega) (by omega) | exact xor9 (by omega) (by omega)), rfl⟩ | exact IsR.mn (by first | with_reducible assumption | exact ⟨_, by omega, rfl⟩) (by first | with_reducible assumption | exact ⟨_, by omega, rfl⟩) | exact IsR.mx (by first | with_reducible assumption | exact ⟨_, by omega, rfl⟩) (by first | with_reducible assumption | exact ⟨_, by omega, rfl⟩) | with_reducible exact mn9 (by omega) | (simp (disch := omega) only [li_0, li_1, li_2, li_3, li_4, li_5, li_6, li_7, li_8, li_9, li_10, li_20, li_30, li_82, li_91, li_273, li_380, li_400, li_512, li_1000, li_2457, li_4000, nI_add, nI_1, nI_mul, nI_sub, shl_1, shl_1b]; with_reducible exact mn9b (by omega)))) ?_
    rintro e33 t34 ⟨hG_3, hxe33⟩
    exact Ok.ret ⟨5000 - (j + 1), by omega, hG_3, ⟨j + 1, nI_1 j, by omega, by omega, rfl⟩⟩
set_option maxHeartbeats 4000000 in
set_option maxRecDepth 100000 in
theorem gX9_fillTakings {σ t : St} (hG : GC σ t) {x : Nat} (g_x : netAt x = true) {a : Int32} {ta : Nat} (g_ta : arrX ta) : Ok (FX9_fillTakings x a ta t) (fun r u => GC σ u ∧ (True)) := by
  unfold FX9_fillTakings
  refine Ok.ck (by first | assumption | decide +kernel) (fun g_1 => ?_)
  refine Ok.bd _ (gX9_fillAround hG (by first | assumption | decide +kernel)) ?_
  rintro _ t2 ⟨hG_2, hxv1⟩
  refine Ok.bd _ (gSX9_fillTakings_8 hG_2 (by first | assumption | decide +kernel) (by first | assumption | exact Or.inl rfl | exact Or.inr rfl) (by show IsR 5001 _; first | with_reducible assumption | (simp (disch := omega) only [li_0, li_1, li_2, li_3, li_4, li_5, li_6, li_7, li_8, li_9, li_10, li_20, li_30, li_82, li_91, li_273, li_380, li_400, li_512, li_1000, li_2457, li_4000, nI_add, nI_1, nI_mul, nI_sub, shl_1, shl_1b, nI_or, nI_xor, nI_and]; with_reducible exact ⟨_, (by first | omega | exact or9 (by omega) (by omega) | exact xor9 (by omega) (by omega)), rfl⟩) | with_reducible exact ⟨_, (by first | omega | exact or9 (by omega) (by omega) | exact xor9 (by omega) (by omega)), rfl⟩ | exact IsR.mn (by first | with_reducible assumption | exact ⟨_, by omega, rfl⟩) (by first | with_reducible assumption | exact ⟨_, by omega, rfl⟩) | exact IsR.mx (by first | with_reducible assumption | exact ⟨_, by omega, rfl⟩) (by first | with_reducible assumption | exact ⟨_, by omega, rfl⟩) | with_reducible exact mn9 (by omega) | (simp (disch := omega) only [li_0, li_1, li_2, li_3, li_4, li_5, li_6, li_7, li_8, li_9, li_10, li_20, li_30, li_82, li_91, li_273, li_380, li_400, li_512, li_1000, li_2457, li_4000, nI_add, nI_1, nI_mul, nI_sub, shl_1, shl_1b]; with_reducible exact mn9b (by omega)))) ?_
  rintro e37 t38 ⟨hG_3, hxe37⟩
  exact Ok.ret ⟨hG_3, True.intro⟩
set_option maxHeartbeats 4000000 in
set_option maxRecDepth 100000 in
theorem gSX9_fillSteps_40 {σ t : St} (hG : GC σ t) {x1 : Nat} (g_x1 : netAt x1 = true) {w2 : Int32} {x3 : Nat} (g_x3 : arrX x3) {w4 : Int32} (h_w4 : IsR 512 w4) {w5 : Int32} {a0 : Int32} (h_a0 : IsR 5001 a0) : Ok (wh (SX9_fillSteps_40 x1 w2 x3 w4 w5) a0 t) (fun r u => GC σ u ∧ (True)) := by
  obtain ⟨j0, hj0, rfl⟩ := h_a0
  refine Ok.loop (fun k c s => GC σ s ∧ (∃ j, c = nI j ∧ j ≤ 5000 ∧ 0 ≤ j ∧ k = 5000 - j)) ?_ (5000 - j0) _ _ ⟨hG, ⟨j0, rfl, by omega, by omega, rfl⟩⟩
  obtain ⟨k_w4, h_w4, rfl⟩ := h_w4
  clear hG hj0
  intro k c s hI
  obtain ⟨hG, ⟨j, ej, hj, hlo, rfl⟩⟩ := hI
  subst ej
  unfold SX9_fillSteps_40
  have hil := il_arr g_x3
  refine Ok.rdT hG.tt (ty_n0 g_x1) (by omega) (fun k_1 hk_1 ek_1 => ?_)
  refine Ok.ite (fun c_2 => ?_) (fun c_2 => ?_)
  · try simp (disch := omega) only [li_0, li_1, li_2, li_3, li_4, li_5, li_6, li_7, li_8, li_9, li_10, li_20, li_30, li_82, li_91, li_273, li_380, li_400, li_512, li_1000, li_2457, li_4000, nI_add, nI_1, nI_mul, nI_sub, shl_1, shl_1b, nI_leP, nI_ltP, nI_eqP, Nat.not_le, Nat.not_lt] at c_2
    exact Ok.ret ⟨hG, True.intro⟩
  · try simp (disch := omega) only [li_0, li_1, li_2, li_3, li_4, li_5, li_6, li_7, li_8, li_9, li_10, li_20, li_30, li_82, li_91, li_273, li_380, li_400, li_512, li_1000, li_2457, li_4000, nI_add, nI_1, nI_mul, nI_sub, shl_1, shl_1b, nI_leP, nI_ltP, nI_eqP, Nat.not_le, Nat.not_lt] at c_2
    have hp_ := pw9 (k := j) (by omega)
    have hx_ := xor9 (a := k_w4) (b := 2 ^ j) (by omega) hp_
    have ho_ := or9 (a := k_w4) (b := 2 ^ j) (by omega) hp_
    refine Ok.bd (fun (v16 : Unit) t17 => GC σ t17 ∧ (True)) ?_ ?_
    · refine Ok.ite (fun c_3 => ?_) (fun c_3 => ?_)
      · try simp (disch := omega) only [li_0, li_1, li_2, li_3, li_4, li_5, li_6, li_7, li_8, li_9, li_10, li_20, li_30, li_82, li_91, li_273, li_380, li_400, li_512, li_1000, li_2457, li_4000, nI_add, nI_1, nI_mul, nI_sub, shl_1, shl_1b, nI_leP, nI_ltP, nI_eqP, Nat.not_le, Nat.not_lt] at c_3
        exact Ok.ret ⟨hG, True.intro⟩
      · try simp (disch := omega) only [li_0, li_1, li_2, li_3, li_4, li_5, li_6, li_7, li_8, li_9, li_10, li_20, li_30, li_82, li_91, li_273, li_380, li_400, li_512, li_1000, li_2457, li_4000, nI_add, nI_1, nI_mul, nI_sub, shl_1, shl_1b, nI_leP, nI_ltP, nI_eqP, Nat.not_le, Nat.not_lt] at c_3
        refine Ok.ck (by first | (simp (disch := omega) only [li_0, li_1, li_2, li_3, li_4, li_5, li_6, li_7, li_8, li_9, li_10, li_20, li_30, li_82, li_91, li_273, li_380, li_400, li_512, li_1000, li_2457, li_4000, nI_add, nI_1, nI_mul, nI_sub, shl_1, shl_1b, nI_or, nI_xor, nI_and]; with_reducible exact inb_n (by first | omega | exact or9 (by omega) (by omega) | exact xor9 (by omega) (by omega)) (by omega)) | with_reducible exact inb_n (by omega) (by omega) | exact IsR.ib (by with_reducible assumption) (by decide) | decide) (fun g_4 => ?_)
        refine Ok.wr (fun t21 w_5 => ?_)
        have hG_6 := hG.wrU w_5 (by rcases (by assumption : arrX _) with rfl | rfl <;> omega) (ty_arr (by assumption))
        exact Ok.ret ⟨hG_6, True.intro⟩
    · intro v16 t17 hx
      obtain ⟨hG_7, hxv16⟩ := hx
      exact Ok.ret ⟨5000 - (j + 1), by omega, hG_7, ⟨j + 1, nI_1 j, by omega, by omega, rfl⟩⟩
set_option maxHeartbeats 4000000 in
set_option maxRecDepth 100000 in
theorem gSX9_fillSteps_18 {σ t : St} (hG : GC σ t) {x1 : Nat} (g_x1 : netAt x1 = true) {w2 : Int32} (h_w2 : ¬ w2 = 5 ∧ ¬ w2 = 6) {x3 : Nat} (g_x3 : arrX x3) {a0 : Int32} (h_a0 : IsR 5001 a0) : Ok (wh (SX9_fillSteps_18 x1 w2 x3) a0 t) (fun r u => GC σ u ∧ (True)) := by
  obtain ⟨j0, hj0, rfl⟩ := h_a0
  refine Ok.loop (fun k c s => GC σ s ∧ (∃ j, c = nI j ∧ j ≤ 5000 ∧ 0 ≤ j ∧ k = 5000 - j)) ?_ (5000 - j0) _ _ ⟨hG, ⟨j0, rfl, by omega, by omega, rfl⟩⟩
  clear hG hj0
  intro k c s hI
  obtain ⟨hG, ⟨j, ej, hj, hlo, rfl⟩⟩ := hI
  subst ej
  unfold SX9_fillSteps_18
  obtain ⟨hn5, hn6⟩ := h_w2
  refine Ok.bd _ (rX5_allBits hG.tt (by first | assumption | decide +kernel)) ?_
  rintro _ _ ⟨rfl, kv5, hv5, rfl⟩
  refine Ok.ite (fun c_2 => ?_) (fun c_2 => ?_)
  · try simp (disch := omega) only [li_0, li_1, li_2, li_3, li_4, li_5, li_6, li_7, li_8, li_9, li_10, li_20, li_30, li_82, li_91, li_273, li_380, li_400, li_512, li_1000, li_2457, li_4000, nI_add, nI_1, nI_mul, nI_sub, shl_1, shl_1b, nI_leP, nI_ltP, nI_eqP, Nat.not_le, Nat.not_lt] at c_2
    exact Ok.ret ⟨hG, True.intro⟩
  · try simp (disch := omega) only [li_0, li_1, li_2, li_3, li_4, li_5, li_6, li_7, li_8, li_9, li_10, li_20, li_30, li_82, li_91, li_273, li_380, li_400, li_512, li_1000, li_2457, li_4000, nI_add, nI_1, nI_mul, nI_sub, shl_1, shl_1b, nI_leP, nI_ltP, nI_eqP, Nat.not_le, Nat.not_lt] at c_2
    refine Ok.bd _ (rX6_of hG.tt (by first | assumption | decide +kernel) (by first | assumption | exact Or.inl ⟨by assumption, by assumption⟩ | exact Or.inr (by first | with_reducible assumption | exact ⟨_, by omega, rfl⟩))) ?_
    rintro v9 _ ⟨rfl, hxv9⟩
    refine Ok.bd _ (gSX9_fillSteps_40 hG (by first | assumption | decide +kernel) (by first | assumption | exact Or.inl rfl | exact Or.inr rfl) (by first | with_reducible assumption | (simp (disch := omega) only [li_0, li_1, li_2, li_3, li_4, li_5, li_6, li_7, li_8, li_9, li_10, li_20, li_30, li_82, li_91, li_273, li_380, li_400, li_512, li_1000, li_2457, li_4000, nI_add, nI_1, nI_mul, nI_sub, shl_1, shl_1b, nI_or, nI_xor, nI_and]; with_reducible exact ⟨_, (by first | omega | exact or9 (by omega) (by omega) | exact xor9 (by omega) (by omega)), rfl⟩) | with_reducible exact ⟨_, (by first | omega | exact or9 (by omega) (by omega) | exact xor9 (by omega) (by omega)), rfl⟩ | exact IsR.mn (by first | with_reducible assumption | exact ⟨_, by omega, rfl⟩) (by first | with_reducible assumption | exact ⟨_, by omega, rfl⟩) | exact IsR.mx (by first | with_reducible assumption | exact ⟨_, by omega, rfl⟩) (by first | with_reducible assumption | exact ⟨_, by omega, rfl⟩) | with_reducible exact mn9 (by omega) | (simp (disch := omega) only [li_0, li_1, li_2, li_3, li_4, li_5, li_6, li_7, li_8, li_9, li_10, li_20, li_30, li_82, li_91, li_273, li_380, li_400, li_512, li_1000, li_2457, li_4000, nI_add, nI_1, nI_mul, nI_sub, shl_1, shl_1b]; with_reducible exact mn9b (by omega))) (by show IsR 5001 _; first | with_reducible assumption | (simp (disch := omega) only [li_0, li_1, li_2, li_3, li_4, li_5, li_6, li_7, li_8, li_9, li_10, li_20, li_30, li_82, li_91, li_273, li_380, li_400, li_512, li_1000, li_2457, li_4000, nI_add, nI_1, nI_mul, nI_sub, shl_1, shl_1b, nI_or, nI_xor, nI_and]; with_reducible exact ⟨_, (by first | omega | exact or9 (by omega) (by omega) | exact xor9 (by omega) (by omega)), rfl⟩) | with_reducible exact ⟨_, (by first | omega | exact or9 (by omega) (by omega) | exact xor9 (by omega) (by omega)), rfl⟩ | exact IsR.mn (by first | with_reducible assumption | exact ⟨_, by omega, rfl⟩) (by first | with_reducible assumption | exact ⟨_, by omega, rfl⟩) | exact IsR.mx (by first | with_reducible assumption | exact ⟨_, by omega, rfl⟩) (by first | with_reducible assumption | exact ⟨_, by omega, rfl⟩) | with_reducible exact mn9 (by omega) | (simp (disch := omega) only [li_0, li_1, li_2, li_3, li_4, li_5, li_6, li_7, li_8, li_9, li_10, li_20, li_30, li_82, li_91, li_273, li_380, li_400, li_512, li_1000, li_2457, li_4000, nI_add, nI_1, nI_mul, nI_sub, shl_1, shl_1b]; with_reducible exact mn9b (by omega)))) ?_
    rintro e23 t24 ⟨hG_4, hxe23⟩
    exact Ok.ret ⟨5000 - (j + 1), by omega, hG_4, ⟨j + 1, nI_1 j, by omega, by omega, rfl⟩⟩
set_option maxHeartbeats 4000000 in
set_option maxRecDepth 100000 in
theorem gX9_fillSteps {σ t : St} (hG : GC σ t) {x : Nat} (g_x : netAt x = true) {a : Int32} {ta : Nat} (g_ta : arrX ta) : Ok (FX9_fillSteps x a ta t) (fun r u => GC σ u ∧ (True)) := by
  unfold FX9_fillSteps
  refine Ok.ck (by first | assumption | decide +kernel) (fun g_1 => ?_)
  refine Ok.bd _ (rX6_isTakenOut hG.tt) ?_
  rintro v1 _ ⟨rfl, hbv1, hxv1⟩
  refine Ok.ite (fun c_3 => ?_) (fun c_3 => ?_)
  · obtain ⟨hn5, hn6⟩ := hxv1 c_3
    refine Ok.bd _ (gSX9_fillSteps_18 hG (by first | assumption | decide +kernel) (by exact ⟨hn5, hn6⟩) (by first | assumption | exact Or.inl rfl | exact Or.inr rfl) (by show IsR 5001 _; first | with_reducible assumption | (simp (disch := omega) only [li_0, li_1, li_2, li_3, li_4, li_5, li_6, li_7, li_8, li_9, li_10, li_20, li_30, li_82, li_91, li_273, li_380, li_400, li_512, li_1000, li_2457, li_4000, nI_add, nI_1, nI_mul, nI_sub, shl_1, shl_1b, nI_or, nI_xor, nI_and]; with_reducible exact ⟨_, (by first | omega | exact or9 (by omega) (by omega) | exact xor9 (by omega) (by omega)), rfl⟩) | with_reducible exact ⟨_, (by first | omega | exact or9 (by omega) (by omega) | exact xor9 (by omega) (by omega)), rfl⟩ | exact IsR.mn (by first | with_reducible assumption | exact ⟨_, by omega, rfl⟩) (by first | with_reducible assumption | exact ⟨_, by omega, rfl⟩) | exact IsR.mx (by first | with_reducible assumption | exact ⟨_, by omega, rfl⟩) (by first | with_reducible assumption | exact ⟨_, by omega, rfl⟩) | with_reducible exact mn9 (by omega) | (simp (disch := omega) only [li_0, li_1, li_2, li_3, li_4, li_5, li_6, li_7, li_8, li_9, li_10, li_20, li_30, li_82, li_91, li_273, li_380, li_400, li_512, li_1000, li_2457, li_4000, nI_add, nI_1, nI_mul, nI_sub, shl_1, shl_1b]; with_reducible exact mn9b (by omega)))) ?_
    rintro e27 t28 ⟨hG_4, hxe27⟩
    exact Ok.ret ⟨hG_4, True.intro⟩
  · skip
    refine Ok.bd _ (gX9_fillTakings hG (by first | assumption | decide +kernel) (by first | assumption | exact Or.inl rfl | exact Or.inr rfl)) ?_
    rintro _ t33 ⟨hG_5, hxv32⟩
    exact Ok.ret ⟨hG_5, True.intro⟩
set_option maxHeartbeats 4000000 in
set_option maxRecDepth 100000 in
theorem gSX9_fillRest_32 {σ t : St} (hG : GC σ t) {x1 : Nat} (g_x1 : netAt x1 = true) {w2 : Int32} {x3 : Nat} (g_x3 : arrX x3) {w4 : Int32} {w6 : Int32} (h_w6 : IsR 512 w6) {a0 : Int32} {a1 : Int32} (h_a1 : IsR 5001 a1) : Ok (wh (SX9_fillRest_32 x1 w2 x3 w4 w6) (a0, a1) t) (fun r u => GC σ u ∧ (True)) := by
  obtain ⟨j0, hj0, rfl⟩ := h_a1
  refine Ok.loop (fun k c s => GC σ s ∧ (∃ j, c.2 = nI j ∧ j ≤ 5000 ∧ 0 ≤ j ∧ k = 5000 - j)) ?_ (5000 - j0) _ _ ⟨hG, ⟨j0, rfl, by omega, by omega, rfl⟩⟩
  obtain ⟨k_w6, h_w6, rfl⟩ := h_w6
  clear hG hj0
  intro k c s hI
  obtain ⟨hG, ⟨j, ej, hj, hlo, rfl⟩⟩ := hI
  obtain ⟨c0, c1⟩ := c
  dsimp only at ej
  subst ej
  unfold SX9_fillRest_32
  dsimp only
  have hil := il_arr g_x3
  refine Ok.rdT hG.tt (ty_n0 g_x1) (by omega) (fun k_1 hk_1 ek_1 => ?_)
  refine Ok.ite (fun c_2 => ?_) (fun c_2 => ?_)
  · try simp (disch := omega) only [li_0, li_1, li_2, li_3, li_4, li_5, li_6, li_7, li_8, li_9, li_10, li_20, li_30, li_82, li_91, li_273, li_380, li_400, li_512, li_1000, li_2457, li_4000, nI_add, nI_1, nI_mul, nI_sub, shl_1, shl_1b, nI_leP, nI_ltP, nI_eqP, Nat.not_le, Nat.not_lt] at c_2
    exact Ok.ret ⟨hG, True.intro⟩
  · try simp (disch := omega) only [li_0, li_1, li_2, li_3, li_4, li_5, li_6, li_7, li_8, li_9, li_10, li_20, li_30, li_82, li_91, li_273, li_380, li_400, li_512, li_1000, li_2457, li_4000, nI_add, nI_1, nI_mul, nI_sub, shl_1, shl_1b, nI_leP, nI_ltP, nI_eqP, Nat.not_le, Nat.not_lt] at c_2
    have hp_ := pw9 (k := j) (by omega)
    have hx_ := xor9 (a := k_w6) (b := 2 ^ j) (by omega) hp_
    have ho_ := or9 (a := k_w6) (b := 2 ^ j) (by omega) hp_
    refine Ok.bd (fun (v12 : Int32) t13 => GC σ t13 ∧ (True)) ?_ ?_
    · refine Ok.ite (fun c_3 => ?_) (fun c_3 => ?_)
      · try simp (disch := omega) only [li_0, li_1, li_2, li_3, li_4, li_5, li_6, li_7, li_8, li_9, li_10, li_20, li_30, li_82, li_91, li_273, li_380, li_400, li_512, li_1000, li_2457, li_4000, nI_add, nI_1, nI_mul, nI_sub, shl_1, shl_1b, nI_leP, nI_ltP, nI_eqP, Nat.not_le, Nat.not_lt] at c_3
        refine Ok.ck (by first | (simp (disch := omega) only [li_0, li_1, li_2, li_3, li_4, li_5, li_6, li_7, li_8, li_9, li_10, li_20, li_30, li_82, li_91, li_273, li_380, li_400, li_512, li_1000, li_2457, li_4000, nI_add, nI_1, nI_mul, nI_sub, shl_1, shl_1b, nI_or, nI_xor, nI_and]; with_reducible exact inb_n (by first | omega | exact or9 (by omega) (by omega) | exact xor9 (by omega) (by omega)) (by omega)) | with_reducible exact inb_n (by omega) (by omega) | exact IsR.ib (by with_reducible assumption) (by decide) | decide) (fun g_4 => ?_)
        refine Ok.rd (fun v17 hv17 => ?_)
        refine Ok.ite (fun c_5 => ?_) (fun c_5 => ?_)
        · try simp (disch := omega) only [li_0, li_1, li_2, li_3, li_4, li_5, li_6, li_7, li_8, li_9, li_10, li_20, li_30, li_82, li_91, li_273, li_380, li_400, li_512, li_1000, li_2457, li_4000, nI_add, nI_1, nI_mul, nI_sub, shl_1, shl_1b, nI_leP, nI_ltP, nI_eqP, Nat.not_le, Nat.not_lt] at c_5
          exact Ok.ret ⟨hG, True.intro⟩
        · try simp (disch := omega) only [li_0, li_1, li_2, li_3, li_4, li_5, li_6, li_7, li_8, li_9, li_10, li_20, li_30, li_82, li_91, li_273, li_380, li_400, li_512, li_1000, li_2457, li_4000, nI_add, nI_1, nI_mul, nI_sub, shl_1, shl_1b, nI_leP, nI_ltP, nI_eqP, Nat.not_le, Nat.not_lt] at c_5
          refine Ok.ck (by first | (simp (disch := omega) only [li_0, li_1, li_2, li_3, li_4, li_5, li_6, li_7, li_8, li_9, li_10, li_20, li_30, li_82, li_91, li_273, li_380, li_400, li_512, li_1000, li_2457, li_4000, nI_add, nI_1, nI_mul, nI_sub, shl_1, shl_1b, nI_or, nI_xor, nI_and]; with_reducible exact inb_n (by first | omega | exact or9 (by omega) (by omega) | exact xor9 (by omega) (by omega)) (by omega)) | with_reducible exact inb_n (by omega) (by omega) | exact IsR.ib (by with_reducible assumption) (by decide) | decide) (fun g_6 => ?_)
          refine Ok.rd (fun v21 hv21 => ?_)
          refine Ok.ck (by first | (simp (disch := omega) only [li_0, li_1, li_2, li_3, li_4, li_5, li_6, li_7, li_8, li_9, li_10, li_20, li_30, li_82, li_91, li_273, li_380, li_400, li_512, li_1000, li_2457, li_4000, nI_add, nI_1, nI_mul, nI_sub, shl_1, shl_1b, nI_or, nI_xor, nI_and]; with_reducible exact inb_n (by first | omega | exact or9 (by omega) (by omega) | exact xor9 (by omega) (by omega)) (by omega)) | with_reducible exact inb_n (by omega) (by omega) | exact IsR.ib (by with_reducible assumption) (by decide) | decide) (fun g_7 => ?_)
          refine Ok.rd (fun v24 hv24 => ?_)
          refine Ok.bd _ (rX6_joined hG.tt) ?_
          rintro v26 _ ⟨rfl, hxv26⟩
          exact Ok.ret ⟨hG, True.intro⟩
      · try simp (disch := omega) only [li_0, li_1, li_2, li_3, li_4, li_5, li_6, li_7, li_8, li_9, li_10, li_20, li_30, li_82, li_91, li_273, li_380, li_400, li_512, li_1000, li_2457, li_4000, nI_add, nI_1, nI_mul, nI_sub, shl_1, shl_1b, nI_leP, nI_ltP, nI_eqP, Nat.not_le, Nat.not_lt] at c_3
        exact Ok.ret ⟨hG, True.intro⟩
    · intro v12 t13 hx
      obtain ⟨hG_9, hxv12⟩ := hx
      exact Ok.ret ⟨5000 - (j + 1), by omega, hG_9, ⟨j + 1, nI_1 j, by omega, by omega, rfl⟩⟩
theorem gSX9_fillRest_20 {σ t : St} (hG : GC σ t) {x1 : Nat} (g_x1 : netAt x1 = true) {w2 : Int32} {x3 : Nat} (g_x3 : arrX x3) {w4 : Int32} {a0 : Int32} (h_a0 : ∃ k, k < 512 ∧ a0 + 1 = nI k) : Ok (wh (SX9_fillRest_20 x1 w2 x3 w4) a0 t) (fun r u => GC σ u ∧ True) := by
  obtain ⟨k0, hk0, e0⟩ := h_a0
  refine Ok.loop (fun k c s => GC σ s ∧ k < 512 ∧ c + 1 = nI k) ?_ k0 _ _ ⟨hG, hk0, e0⟩
  clear hG
  intro k c s hI
  obtain ⟨hG, hk, e⟩ := hI
  unfold SX9_fillRest_20
  refine Ok.ite (fun c1 => Ok.ret ⟨hG, True.intro⟩) (fun c1 => ?_)
  obtain ⟨i, rfl, rfl⟩ := (dn_of e (by omega)).resolve_left (fun q => c1 q.1)
  refine Ok.bd _ (gSX9_fillRest_32 hG g_x1 g_x3 ⟨i, by omega, rfl⟩ ⟨0, by omega, rfl⟩) ?_
  rintro v u ⟨hG2, -⟩
  refine Ok.ck (inb_n (by omega) (by omega)) (fun g => ?_)
  refine Ok.wr (fun w ew => ?_)
  exact Ok.ret ⟨i, by omega, hG2.wrU ew (by omega) ty_u88, by omega, m1_1 _⟩
set_option maxHeartbeats 4000000 in
set_option maxRecDepth 100000 in
theorem gX9_fillRest {σ t : St} (hG : GC σ t) {x : Nat} (g_x : netAt x = true) {a : Int32} {ta : Nat} (g_ta : arrX ta) {b : Int32} : Ok (FX9_fillRest x a ta b t) (fun r u => GC σ u ∧ (True)) := by
  unfold FX9_fillRest
  refine Ok.ck (by first | assumption | decide +kernel) (fun g_1 => ?_)
  refine Ok.bd _ (rX5_allBits hG.tt (by first | assumption | decide +kernel)) ?_
  rintro _ _ ⟨rfl, kv1, hv1, rfl⟩
  refine Ok.ck (by first | (simp (disch := omega) only [li_0, li_1, li_2, li_3, li_4, li_5, li_6, li_7, li_8, li_9, li_10, li_20, li_30, li_82, li_91, li_273, li_380, li_400, li_512, li_1000, li_2457, li_4000, nI_add, nI_1, nI_mul, nI_sub, shl_1, shl_1b, nI_or, nI_xor, nI_and]; with_reducible exact inb_n (by first | omega | exact or9 (by omega) (by omega) | exact xor9 (by omega) (by omega)) (by omega)) | with_reducible exact inb_n (by omega) (by omega) | exact IsR.ib (by with_reducible assumption) (by decide) | decide) (fun g_3 => ?_)
  refine Ok.wr (fun t5 w_4 => ?_)
  have hG_5 := hG.wrU w_4 (by omega) ty_u88
  refine Ok.bd _ (gSX9_fillRest_20 hG_5 (by first | assumption | decide +kernel) (by first | assumption | exact Or.inl rfl | exact Or.inr rfl) (by first | exact ⟨_, by assumption, s1_1 _⟩)) ?_
  rintro e36 t37 ⟨hG_6, hxe36⟩
  exact Ok.ret ⟨hG_6, True.intro⟩
set_option maxHeartbeats 4000000 in
set_option maxRecDepth 100000 in
theorem gSX9_countRows_31 {σ t : St} (hG : GC σ t) {x1 : Nat} (g_x1 : netAt x1 = true) {w2 : Int32} {w3 : Int32} {w5 : Int32} (h_w5 : IsR 512 w5) {a0 : Int32} {a1 : Int32} (h_a1 : IsR 5001 a1) : Ok (wh (SX9_countRows_31 x1 w2 w3 w5) (a0, a1) t) (fun r u => GC σ u ∧ (True)) := by
  obtain ⟨j0, hj0, rfl⟩ := h_a1
  refine Ok.loop (fun k c s => GC σ s ∧ (∃ j, c.2 = nI j ∧ j ≤ 5000 ∧ 0 ≤ j ∧ k = 5000 - j)) ?_ (5000 - j0) _ _ ⟨hG, ⟨j0, rfl, by omega, by omega, rfl⟩⟩
  obtain ⟨k_w5, h_w5, rfl⟩ := h_w5
  clear hG hj0
  intro k c s hI
  obtain ⟨hG, ⟨j, ej, hj, hlo, rfl⟩⟩ := hI
  obtain ⟨c0, c1⟩ := c
  dsimp only at ej
  subst ej
  unfold SX9_countRows_31
  dsimp only
  refine Ok.rdT hG.tt (ty_n0 g_x1) (by omega) (fun k_1 hk_1 ek_1 => ?_)
  refine Ok.ite (fun c_2 => ?_) (fun c_2 => ?_)
  · try simp (disch := omega) only [li_0, li_1, li_2, li_3, li_4, li_5, li_6, li_7, li_8, li_9, li_10, li_20, li_30, li_82, li_91, li_273, li_380, li_400, li_512, li_1000, li_2457, li_4000, nI_add, nI_1, nI_mul, nI_sub, shl_1, shl_1b, nI_leP, nI_ltP, nI_eqP, Nat.not_le, Nat.not_lt] at c_2
    exact Ok.ret ⟨hG, True.intro⟩
  · try simp (disch := omega) only [li_0, li_1, li_2, li_3, li_4, li_5, li_6, li_7, li_8, li_9, li_10, li_20, li_30, li_82, li_91, li_273, li_380, li_400, li_512, li_1000, li_2457, li_4000, nI_add, nI_1, nI_mul, nI_sub, shl_1, shl_1b, nI_leP, nI_ltP, nI_eqP, Nat.not_le, Nat.not_lt] at c_2
    have hp_ := pw9 (k := j) (by omega)
    have hx_ := xor9 (a := k_w5) (b := 2 ^ j) (by omega) hp_
    have ho_ := or9 (a := k_w5) (b := 2 ^ j) (by omega) hp_
    refine Ok.bd (fun (v12 : Int32) t13 => GC σ t13 ∧ (True)) ?_ ?_
    · refine Ok.ite (fun c_3 => ?_) (fun c_3 => ?_)
      · try simp (disch := omega) only [li_0, li_1, li_2, li_3, li_4, li_5, li_6, li_7, li_8, li_9, li_10, li_20, li_30, li_82, li_91, li_273, li_380, li_400, li_512, li_1000, li_2457, li_4000, nI_add, nI_1, nI_mul, nI_sub, shl_1, shl_1b, nI_leP, nI_ltP, nI_eqP, Nat.not_le, Nat.not_lt] at c_3
        refine Ok.bd _ (rX9_fits hG.tt (by first | with_reducible assumption | (simp (disch := omega) only [li_0, li_1, li_2, li_3, li_4, li_5, li_6, li_7, li_8, li_9, li_10, li_20, li_30, li_82, li_91, li_273, li_380, li_400, li_512, li_1000, li_2457, li_4000, nI_add, nI_1, nI_mul, nI_sub, shl_1, shl_1b, nI_or, nI_xor, nI_and]; with_reducible exact ⟨_, (by first | omega | exact or9 (by omega) (by omega) | exact xor9 (by omega) (by omega)), rfl⟩) | with_reducible exact ⟨_, (by first | omega | exact or9 (by omega) (by omega) | exact xor9 (by omega) (by omega)), rfl⟩ | exact IsR.mn (by first | with_reducible assumption | exact ⟨_, by omega, rfl⟩) (by first | with_reducible assumption | exact ⟨_, by omega, rfl⟩) | exact IsR.mx (by first | with_reducible assumption | exact ⟨_, by omega, rfl⟩) (by first | with_reducible assumption | exact ⟨_, by omega, rfl⟩) | with_reducible exact mn9 (by omega) | (simp (disch := omega) only [li_0, li_1, li_2, li_3, li_4, li_5, li_6, li_7, li_8, li_9, li_10, li_20, li_30, li_82, li_91, li_273, li_380, li_400, li_512, li_1000, li_2457, li_4000, nI_add, nI_1, nI_mul, nI_sub, shl_1, shl_1b]; with_reducible exact mn9b (by omega))) (by first | with_reducible assumption | (simp (disch := omega) only [li_0, li_1, li_2, li_3, li_4, li_5, li_6, li_7, li_8, li_9, li_10, li_20, li_30, li_82, li_91, li_273, li_380, li_400, li_512, li_1000, li_2457, li_4000, nI_add, nI_1, nI_mul, nI_sub, shl_1, shl_1b, nI_or, nI_xor, nI_and]; with_reducible exact ⟨_, (by first | omega | exact or9 (by omega) (by omega) | exact xor9 (by omega) (by omega)), rfl⟩) | with_reducible exact ⟨_, (by first | omega | exact or9 (by omega) (by omega) | exact xor9 (by omega) (by omega)), rfl⟩ | exact IsR.mn (by first | with_reducible assumption | exact ⟨_, by omega, rfl⟩) (by first | with_reducible assumption | exact ⟨_, by omega, rfl⟩) | exact IsR.mx (by first | with_reducible assumption | exact ⟨_, by omega, rfl⟩) (by first | with_reducible assumption | exact ⟨_, by omega, rfl⟩) | with_reducible exact mn9 (by omega) | (simp (disch := omega) only [li_0, li_1, li_2, li_3, li_4, li_5, li_6, li_7, li_8, li_9, li_10, li_20, li_30, li_82, li_91, li_273, li_380, li_400, li_512, li_1000, li_2457, li_4000, nI_add, nI_1, nI_mul, nI_sub, shl_1, shl_1b]; with_reducible exact mn9b (by omega)))) ?_
        rintro v16 _ ⟨rfl, hbv16, hxv16⟩
        refine Ok.ite (fun c_5 => ?_) (fun c_5 => ?_)
        · try simp (disch := omega) only [li_0, li_1, li_2, li_3, li_4, li_5, li_6, li_7, li_8, li_9, li_10, li_20, li_30, li_82, li_91, li_273, li_380, li_400, li_512, li_1000, li_2457, li_4000, nI_add, nI_1, nI_mul, nI_sub, shl_1, shl_1b, nI_leP, nI_ltP, nI_eqP, Nat.not_le, Nat.not_lt] at c_5
          exact Ok.ret ⟨hG, True.intro⟩
        · try simp (disch := omega) only [li_0, li_1, li_2, li_3, li_4, li_5, li_6, li_7, li_8, li_9, li_10, li_20, li_30, li_82, li_91, li_273, li_380, li_400, li_512, li_1000, li_2457, li_4000, nI_add, nI_1, nI_mul, nI_sub, shl_1, shl_1b, nI_leP, nI_ltP, nI_eqP, Nat.not_le, Nat.not_lt] at c_5
          refine Ok.ck (by first | (simp (disch := omega) only [li_0, li_1, li_2, li_3, li_4, li_5, li_6, li_7, li_8, li_9, li_10, li_20, li_30, li_82, li_91, li_273, li_380, li_400, li_512, li_1000, li_2457, li_4000, nI_add, nI_1, nI_mul, nI_sub, shl_1, shl_1b, nI_or, nI_xor, nI_and]; with_reducible exact inb_n (by first | omega | exact or9 (by omega) (by omega) | exact xor9 (by omega) (by omega)) (by omega)) | with_reducible exact inb_n (by omega) (by omega) | exact IsR.ib (by with_reducible assumption) (by decide) | decide) (fun g_6 => ?_)
          refine Ok.rd (fun v21 hv21 => ?_)
          exact Ok.ret ⟨hG, True.intro⟩
      · try simp (disch := omega) only [li_0, li_1, li_2, li_3, li_4, li_5, li_6, li_7, li_8, li_9, li_10, li_20, li_30, li_82, li_91, li_273, li_380, li_400, li_512, li_1000, li_2457, li_4000, nI_add, nI_1, nI_mul, nI_sub, shl_1, shl_1b, nI_leP, nI_ltP, nI_eqP, Nat.not_le, Nat.not_lt] at c_3
        exact Ok.ret ⟨hG, True.intro⟩
    · intro v12 t13 hx
      obtain ⟨hG_7, hxv12⟩ := hx
      exact Ok.ret ⟨5000 - (j + 1), by omega, hG_7, ⟨j + 1, nI_1 j, by omega, by omega, rfl⟩⟩
theorem gSX9_countRows_20 {σ t : St} (hG : GC σ t) {x1 : Nat} (g_x1 : netAt x1 = true) {w2 : Int32} {w3 : Int32} {a0 : Int32} (h_a0 : ∃ k, k < 512 ∧ a0 + 1 = nI k) : Ok (wh (SX9_countRows_20 x1 w2 w3) a0 t) (fun r u => GC σ u ∧ True) := by
  obtain ⟨k0, hk0, e0⟩ := h_a0
  refine Ok.loop (fun k c s => GC σ s ∧ k < 512 ∧ c + 1 = nI k) ?_ k0 _ _ ⟨hG, hk0, e0⟩
  clear hG
  intro k c s hI
  obtain ⟨hG, hk, e⟩ := hI
  unfold SX9_countRows_20
  refine Ok.ite (fun c1 => Ok.ret ⟨hG, True.intro⟩) (fun c1 => ?_)
  obtain ⟨i, rfl, rfl⟩ := (dn_of e (by omega)).resolve_left (fun q => c1 q.1)
  refine Ok.bd _ (gSX9_countRows_31 hG g_x1 ⟨i, by omega, rfl⟩ ⟨0, by omega, rfl⟩) ?_
  rintro v u ⟨hG2, -⟩
  refine Ok.ck (inb_n (by omega) (by omega)) (fun g => ?_)
  refine Ok.wr (fun w ew => ?_)
  exact Ok.ret ⟨i, by omega, hG2.wrU ew (by omega) ty_u89, by omega, m1_1 _⟩
set_option maxHeartbeats 4000000 in
set_option maxRecDepth 100000 in
theorem gX9_countRows {σ t : St} (hG : GC σ t) {x : Nat} (g_x : netAt x = true) {a : Int32} {b : Int32} : Ok (FX9_countRows x a b t) (fun r u => GC σ u ∧ (True)) := by
  unfold FX9_countRows
  refine Ok.ck (by first | assumption | decide +kernel) (fun g_1 => ?_)
  refine Ok.bd _ (rX5_allBits hG.tt (by first | assumption | decide +kernel)) ?_
  rintro _ _ ⟨rfl, kv1, hv1, rfl⟩
  refine Ok.ck (by first | (simp (disch := omega) only [li_0, li_1, li_2, li_3, li_4, li_5, li_6, li_7, li_8, li_9, li_10, li_20, li_30, li_82, li_91, li_273, li_380, li_400, li_512, li_1000, li_2457, li_4000, nI_add, nI_1, nI_mul, nI_sub, shl_1, shl_1b, nI_or, nI_xor, nI_and]; with_reducible exact inb_n (by first | omega | exact or9 (by omega) (by omega) | exact xor9 (by omega) (by omega)) (by omega)) | with_reducible exact inb_n (by omega) (by omega) | exact IsR.ib (by with_reducible assumption) (by decide) | decide) (fun g_3 => ?_)
  refine Ok.wr (fun t5 w_4 => ?_)
  have hG_5 := hG.wrU w_4 (by omega) ty_u89
  refine Ok.bd _ (gSX9_countRows_20 hG_5 (by first | assumption | decide +kernel) (by first | exact ⟨_, by assumption, s1_1 _⟩)) ?_
  rintro e30 t31 ⟨hG_6, hxe30⟩
  exact Ok.ret ⟨hG_6, True.intro⟩
set_option maxHeartbeats 4000000 in
set_option maxRecDepth 100000 in
theorem gSX9_find_77 {σ t : St} (hG : GC σ t) {x1 : Nat} (g_x1 : netAt x1 = true) {w2 : Int32} {x3 : Nat} (g_x3 : findAt x3 = true) {a0 : Int32} (h_a0 : IsR 512 a0) {a1 : Int32} (h_a1 : IsR 5001 a1) : Ok (wh (SX9_find_77 x1 w2 x3) (a0, a1) t) (fun r u => GC σ u ∧ (True)) := by
  obtain ⟨j0, hj0, rfl⟩ := h_a1
  refine Ok.loop (fun k c s => GC σ s ∧ (∃ j, c.2 = nI j ∧ j ≤ 5000 ∧ 0 ≤ j ∧ k = 5000 - j) ∧ IsR 512 c.1) ?_ (5000 - j0) _ _ ⟨hG, ⟨j0, rfl, by omega, by omega, rfl⟩, h_a0⟩
  clear hG hj0
  intro k c s hI
  obtain ⟨hG, ⟨j, ej, hj, hlo, rfl⟩, hc0⟩ := hI
  obtain ⟨c0, c1⟩ := c
  dsimp only at ej hc0
  subst ej
  obtain ⟨kc0, hkc0, rfl⟩ := hc0
  unfold SX9_find_77
  dsimp only
  refine Ok.rdT hG.tt (ty_n0 g_x1) (by omega) (fun k_1 hk_1 ek_1 => ?_)
  refine Ok.ite (fun c_2 => ?_) (fun c_2 => ?_)
  · try simp (disch := omega) only [li_0, li_1, li_2, li_3, li_4, li_5, li_6, li_7, li_8, li_9, li_10, li_20, li_30, li_82, li_91, li_273, li_380, li_400, li_512, li_1000, li_2457, li_4000, nI_add, nI_1, nI_mul, nI_sub, shl_1, shl_1b, nI_leP, nI_ltP, nI_eqP, Nat.not_le, Nat.not_lt] at c_2
    exact Ok.ret ⟨hG, True.intro⟩
  · try simp (disch := omega) only [li_0, li_1, li_2, li_3, li_4, li_5, li_6, li_7, li_8, li_9, li_10, li_20, li_30, li_82, li_91, li_273, li_380, li_400, li_512, li_1000, li_2457, li_4000, nI_add, nI_1, nI_mul, nI_sub, shl_1, shl_1b, nI_leP, nI_ltP, nI_eqP, Nat.not_le, Nat.not_lt] at c_2
    refine Ok.ck (by first | (simp (disch := omega) only [li_0, li_1, li_2, li_3, li_4, li_5, li_6, li_7, li_8, li_9, li_10, li_20, li_30, li_82, li_91, li_273, li_380, li_400, li_512, li_1000, li_2457, li_4000, nI_add, nI_1, nI_mul, nI_sub, shl_1, shl_1b, nI_or, nI_xor, nI_and]; with_reducible exact inb_n (by first | omega | exact or9 (by omega) (by omega) | exact xor9 (by omega) (by omega)) (by omega)) | with_reducible exact inb_n (by omega) (by omega) | exact IsR.ib (by with_reducible assumption) (by decide) | decide) (fun g_3 => ?_)
    refine Ok.rd (fun v35 hv35 => ?_)
    refine Ok.bd _ (rX9_leadersFrom hG.tt (by first | assumption | decide +kernel) (by first | with_reducible assumption | (simp (disch := omega) only [li_0, li_1, li_2, li_3, li_4, li_5, li_6, li_7, li_8, li_9, li_10, li_20, li_30, li_82, li_91, li_273, li_380, li_400, li_512, li_1000, li_2457, li_4000, nI_add, nI_1, nI_mul, nI_sub, shl_1, shl_1b, nI_or, nI_xor, nI_and]; with_reducible exact ⟨_, (by first | omega | exact or9 (by omega) (by omega) | exact xor9 (by omega) (by omega)), rfl⟩) | with_reducible exact ⟨_, (by first | omega | exact or9 (by omega) (by omega) | exact xor9 (by omega) (by omega)), rfl⟩ | exact IsR.mn (by first | with_reducible assumption | exact ⟨_, by omega, rfl⟩) (by first | with_reducible assumption | exact ⟨_, by omega, rfl⟩) | exact IsR.mx (by first | with_reducible assumption | exact ⟨_, by omega, rfl⟩) (by first | with_reducible assumption | exact ⟨_, by omega, rfl⟩) | with_reducible exact mn9 (by omega) | (simp (disch := omega) only [li_0, li_1, li_2, li_3, li_4, li_5, li_6, li_7, li_8, li_9, li_10, li_20, li_30, li_82, li_91, li_273, li_380, li_400, li_512, li_1000, li_2457, li_4000, nI_add, nI_1, nI_mul, nI_sub, shl_1, shl_1b]; with_reducible exact mn9b (by omega)))) ?_
    rintro v37 _ ⟨rfl, hxv37⟩
    refine Ok.bd _ (rX9_lowest hG.tt) ?_
    rintro _ _ ⟨rfl, kv40, hv40, rfl⟩
    have hp_ := pw9 (k := kv40) (by omega)
    refine Ok.ck (by first | (simp (disch := omega) only [li_0, li_1, li_2, li_3, li_4, li_5, li_6, li_7, li_8, li_9, li_10, li_20, li_30, li_82, li_91, li_273, li_380, li_400, li_512, li_1000, li_2457, li_4000, nI_add, nI_1, nI_mul, nI_sub, shl_1, shl_1b, nI_or, nI_xor, nI_and]; with_reducible exact inb_n (by first | omega | exact or9 (by omega) (by omega) | exact xor9 (by omega) (by omega)) (by omega)) | with_reducible exact inb_n (by omega) (by omega) | exact IsR.ib (by with_reducible assumption) (by decide) | decide) (fun g_6 => ?_)
    refine Ok.wr (fun t44 w_7 => ?_)
    have hG_8 := hG.wrT w_7 (by have := find_pl g_x3; omega) (ty_fr g_x3 (inb_lt g_6)) (by first | with_reducible assumption | (simp (disch := omega) only [li_0, li_1, li_2, li_3, li_4, li_5, li_6, li_7, li_8, li_9, li_10, li_20, li_30, li_82, li_91, li_273, li_380, li_400, li_512, li_1000, li_2457, li_4000, nI_add, nI_1, nI_mul, nI_sub, shl_1, shl_1b, nI_or, nI_xor, nI_and]; with_reducible exact ⟨_, (by first | omega | exact or9 (by omega) (by omega) | exact xor9 (by omega) (by omega)), rfl⟩) | with_reducible exact ⟨_, (by first | omega | exact or9 (by omega) (by omega) | exact xor9 (by omega) (by omega)), rfl⟩ | exact IsR.mn (by first | with_reducible assumption | exact ⟨_, by omega, rfl⟩) (by first | with_reducible assumption | exact ⟨_, by omega, rfl⟩) | exact IsR.mx (by first | with_reducible assumption | exact ⟨_, by omega, rfl⟩) (by first | with_reducible assumption | exact ⟨_, by omega, rfl⟩) | with_reducible exact mn9 (by omega) | (simp (disch := omega) only [li_0, li_1, li_2, li_3, li_4, li_5, li_6, li_7, li_8, li_9, li_10, li_20, li_30, li_82, li_91, li_273, li_380, li_400, li_512, li_1000, li_2457, li_4000, nI_add, nI_1, nI_mul, nI_sub, shl_1, shl_1b]; with_reducible exact mn9b (by omega)))
    exact Ok.ret ⟨5000 - (j + 1), by omega, hG_8, ⟨j + 1, nI_1 j, by omega, by omega, rfl⟩, (by show IsR 512 _; first | with_reducible assumption | (simp (disch := omega) only [li_0, li_1, li_2, li_3, li_4, li_5, li_6, li_7, li_8, li_9, li_10, li_20, li_30, li_82, li_91, li_273, li_380, li_400, li_512, li_1000, li_2457, li_4000, nI_add, nI_1, nI_mul, nI_sub, shl_1, shl_1b, nI_or, nI_xor, nI_and]; with_reducible exact ⟨_, (by first | omega | exact or9 (by omega) (by omega) | exact xor9 (by omega) (by omega)), rfl⟩) | with_reducible exact ⟨_, (by first | omega | exact or9 (by omega) (by omega) | exact xor9 (by omega) (by omega)), rfl⟩ | exact IsR.mn (by first | with_reducible assumption | exact ⟨_, by omega, rfl⟩) (by first | with_reducible assumption | exact ⟨_, by omega, rfl⟩) | exact IsR.mx (by first | with_reducible assumption | exact ⟨_, by omega, rfl⟩) (by first | with_reducible assumption | exact ⟨_, by omega, rfl⟩) | with_reducible exact mn9 (by omega) | (simp (disch := omega) only [li_0, li_1, li_2, li_3, li_4, li_5, li_6, li_7, li_8, li_9, li_10, li_20, li_30, li_82, li_91, li_273, li_380, li_400, li_512, li_1000, li_2457, li_4000, nI_add, nI_1, nI_mul, nI_sub, shl_1, shl_1b]; with_reducible exact mn9b (by omega)))⟩
set_option maxHeartbeats 4000000 in
set_option maxRecDepth 100000 in
theorem gX9_find {σ t : St} (hG : GC σ t) {x : Nat} (g_x : netAt x = true) {a : Int32} {z : Nat} (g_z : findAt z = true) : Ok (FX9_find x a z t) (fun r u => GC σ u ∧ (True)) := by
  unfold FX9_find
  refine Ok.ck (by first | assumption | decide +kernel) (fun g_1 => ?_)
  refine Ok.ck (by first | assumption | decide +kernel) (fun g_2 => ?_)
  refine Ok.bd _ (gX9_fillSteps hG (by first | assumption | decide +kernel) (by first | assumption | exact Or.inl rfl | exact Or.inr rfl)) ?_
  rintro _ t2 ⟨hG_3, hxv1⟩
  refine Ok.bd _ (gX9_fillRest hG_3 (by first | assumption | decide +kernel) (by first | assumption | exact Or.inl rfl | exact Or.inr rfl)) ?_
  rintro _ t5 ⟨hG_4, hxv4⟩
  refine Ok.ck (by first | (simp (disch := omega) only [li_0, li_1, li_2, li_3, li_4, li_5, li_6, li_7, li_8, li_9, li_10, li_20, li_30, li_82, li_91, li_273, li_380, li_400, li_512, li_1000, li_2457, li_4000, nI_add, nI_1, nI_mul, nI_sub, shl_1, shl_1b, nI_or, nI_xor, nI_and]; with_reducible exact inb_n (by first | omega | exact or9 (by omega) (by omega) | exact xor9 (by omega) (by omega)) (by omega)) | with_reducible exact inb_n (by omega) (by omega) | exact IsR.ib (by with_reducible assumption) (by decide) | decide) (fun g_5 => ?_)
  refine Ok.rd (fun v8 hv8 => ?_)
  refine Ok.wr (fun t10 w_6 => ?_)
  have hG_7 := hG_4.wrU w_6 (by have := find_pl g_2; omega) (ty_f0 g_2)
  refine Ok.ck (by first | (simp (disch := omega) only [li_0, li_1, li_2, li_3, li_4, li_5, li_6, li_7, li_8, li_9, li_10, li_20, li_30, li_82, li_91, li_273, li_380, li_400, li_512, li_1000, li_2457, li_4000, nI_add, nI_1, nI_mul, nI_sub, shl_1, shl_1b, nI_or, nI_xor, nI_and]; with_reducible exact inb_n (by first | omega | exact or9 (by omega) (by omega) | exact xor9 (by omega) (by omega)) (by omega)) | with_reducible exact inb_n (by omega) (by omega) | exact IsR.ib (by with_reducible assumption) (by decide) | decide) (fun g_8 => ?_)
  refine Ok.rd (fun v13 hv13 => ?_)
  refine Ok.bd _ (gX9_countRows hG_7 (by first | assumption | decide +kernel)) ?_
  rintro _ t16 ⟨hG_9, hxv15⟩
  refine Ok.ck (by first | (simp (disch := omega) only [li_0, li_1, li_2, li_3, li_4, li_5, li_6, li_7, li_8, li_9, li_10, li_20, li_30, li_82, li_91, li_273, li_380, li_400, li_512, li_1000, li_2457, li_4000, nI_add, nI_1, nI_mul, nI_sub, shl_1, shl_1b, nI_or, nI_xor, nI_and]; with_reducible exact inb_n (by first | omega | exact or9 (by omega) (by omega) | exact xor9 (by omega) (by omega)) (by omega)) | with_reducible exact inb_n (by omega) (by omega) | exact IsR.ib (by with_reducible assumption) (by decide) | decide) (fun g_10 => ?_)
  refine Ok.rd (fun v19 hv19 => ?_)
  refine Ok.wr (fun t21 w_11 => ?_)
  have hG_12 := hG_9.wrU w_11 (by have := find_pl g_2; omega) (ty_f0 g_2)
  refine Ok.ck (by first | (simp (disch := omega) only [li_0, li_1, li_2, li_3, li_4, li_5, li_6, li_7, li_8, li_9, li_10, li_20, li_30, li_82, li_91, li_273, li_380, li_400, li_512, li_1000, li_2457, li_4000, nI_add, nI_1, nI_mul, nI_sub, shl_1, shl_1b, nI_or, nI_xor, nI_and]; with_reducible exact inb_n (by first | omega | exact or9 (by omega) (by omega) | exact xor9 (by omega) (by omega)) (by omega)) | with_reducible exact inb_n (by omega) (by omega) | exact IsR.ib (by with_reducible assumption) (by decide) | decide) (fun g_13 => ?_)
  refine Ok.rd (fun v24 hv24 => ?_)
  refine Ok.bd _ (rX9_leadersFrom hG_12.tt (by first | assumption | decide +kernel) (by first | with_reducible assumption | (simp (disch := omega) only [li_0, li_1, li_2, li_3, li_4, li_5, li_6, li_7, li_8, li_9, li_10, li_20, li_30, li_82, li_91, li_273, li_380, li_400, li_512, li_1000, li_2457, li_4000, nI_add, nI_1, nI_mul, nI_sub, shl_1, shl_1b, nI_or, nI_xor, nI_and]; with_reducible exact ⟨_, (by first | omega | exact or9 (by omega) (by omega) | exact xor9 (by omega) (by omega)), rfl⟩) | with_reducible exact ⟨_, (by first | omega | exact or9 (by omega) (by omega) | exact xor9 (by omega) (by omega)), rfl⟩ | exact IsR.mn (by first | with_reducible assumption | exact ⟨_, by omega, rfl⟩) (by first | with_reducible assumption | exact ⟨_, by omega, rfl⟩) | exact IsR.mx (by first | with_reducible assumption | exact ⟨_, by omega, rfl⟩) (by first | with_reducible assumption | exact ⟨_, by omega, rfl⟩) | with_reducible exact mn9 (by omega) | (simp (disch := omega) only [li_0, li_1, li_2, li_3, li_4, li_5, li_6, li_7, li_8, li_9, li_10, li_20, li_30, li_82, li_91, li_273, li_380, li_400, li_512, li_1000, li_2457, li_4000, nI_add, nI_1, nI_mul, nI_sub, shl_1, shl_1b]; with_reducible exact mn9b (by omega)))) ?_
  rintro v26 _ ⟨rfl, hxv26⟩
  refine Ok.wr (fun t29 w_15 => ?_)
  have hG_16 := hG_12.wrU w_15 (by have := find_pl g_2; omega) (ty_f0 g_2)
  refine Ok.bd _ (gSX9_find_77 hG_16 (by first | assumption | decide +kernel) (by first | assumption | decide +kernel) (by first | with_reducible assumption | (simp (disch := omega) only [li_0, li_1, li_2, li_3, li_4, li_5, li_6, li_7, li_8, li_9, li_10, li_20, li_30, li_82, li_91, li_273, li_380, li_400, li_512, li_1000, li_2457, li_4000, nI_add, nI_1, nI_mul, nI_sub, shl_1, shl_1b, nI_or, nI_xor, nI_and]; with_reducible exact ⟨_, (by first | omega | exact or9 (by omega) (by omega) | exact xor9 (by omega) (by omega)), rfl⟩) | with_reducible exact ⟨_, (by first | omega | exact or9 (by omega) (by omega) | exact xor9 (by omega) (by omega)), rfl⟩ | exact IsR.mn (by first | with_reducible assumption | exact ⟨_, by omega, rfl⟩) (by first | with_reducible assumption | exact ⟨_, by omega, rfl⟩) | exact IsR.mx (by first | with_reducible assumption | exact ⟨_, by omega, rfl⟩) (by first | with_reducible assumption | exact ⟨_, by omega, rfl⟩) | with_reducible exact mn9 (by omega) | (simp (disch := omega) only [li_0, li_1, li_2, li_3, li_4, li_5, li_6, li_7, li_8, li_9, li_10, li_20, li_30, li_82, li_91, li_273, li_380, li_400, li_512, li_1000, li_2457, li_4000, nI_add, nI_1, nI_mul, nI_sub, shl_1, shl_1b]; with_reducible exact mn9b (by omega))) (by show IsR 5001 _; first | with_reducible assumption | (simp (disch := omega) only [li_0, li_1, li_2, li_3, li_4, li_5, li_6, li_7, li_8, li_9, li_10, li_20, li_30, li_82, li_91, li_273, li_380, li_400, li_512, li_1000, li_2457, li_4000, nI_add, nI_1, nI_mul, nI_sub, shl_1, shl_1b, nI_or, nI_xor, nI_and]; with_reducible exact ⟨_, (by first | omega | exact or9 (by omega) (by omega) | exact xor9 (by omega) (by omega)), rfl⟩) | with_reducible exact ⟨_, (by first | omega | exact or9 (by omega) (by omega) | exact xor9 (by omega) (by omega)), rfl⟩ | exact IsR.mn (by first | with_reducible assumption | exact ⟨_, by omega, rfl⟩) (by first | with_reducible assumption | exact ⟨_, by omega, rfl⟩) | exact IsR.mx (by first | with_reducible assumption | exact ⟨_, by omega, rfl⟩) (by first | with_reducible assumption | exact ⟨_, by omega, rfl⟩) | with_reducible exact mn9 (by omega) | (simp (disch := omega) only [li_0, li_1, li_2, li_3, li_4, li_5, li_6, li_7, li_8, li_9, li_10, li_20, li_30, li_82, li_91, li_273, li_380, li_400, li_512, li_1000, li_2457, li_4000, nI_add, nI_1, nI_mul, nI_sub, shl_1, shl_1b]; with_reducible exact mn9b (by omega)))) ?_
  rintro e46 t47 ⟨hG_17, hxe46⟩
  exact Ok.ret ⟨hG_17, True.intro⟩
set_option maxHeartbeats 4000000 in
set_option maxRecDepth 100000 in
theorem gX9_rowsWithin {σ t : St} (hG : GC σ t) {x : Nat} (g_x : netAt x = true) {a : Int32} {b : Int32} : Ok (FX9_rowsWithin x a b t) (fun r u => GC σ u ∧ (True)) := by
  unfold FX9_rowsWithin
  refine Ok.ck (by first | assumption | decide +kernel) (fun g_1 => ?_)
  refine Ok.bd _ (gX9_fillSteps hG (by first | assumption | decide +kernel) (by first | assumption | exact Or.inl rfl | exact Or.inr rfl)) ?_
  rintro _ t2 ⟨hG_2, hxv1⟩
  refine Ok.bd _ (gX9_countRows hG_2 (by first | assumption | decide +kernel)) ?_
  rintro _ t5 ⟨hG_3, hxv4⟩
  refine Ok.ck (by first | (simp (disch := omega) only [li_0, li_1, li_2, li_3, li_4, li_5, li_6, li_7, li_8, li_9, li_10, li_20, li_30, li_82, li_91, li_273, li_380, li_400, li_512, li_1000, li_2457, li_4000, nI_add, nI_1, nI_mul, nI_sub, shl_1, shl_1b, nI_or, nI_xor, nI_and]; with_reducible exact inb_n (by first | omega | exact or9 (by omega) (by omega) | exact xor9 (by omega) (by omega)) (by omega)) | with_reducible exact inb_n (by omega) (by omega) | exact IsR.ib (by with_reducible assumption) (by decide) | decide) (fun g_4 => ?_)
  refine Ok.rd (fun v8 hv8 => ?_)
  exact Ok.ret ⟨hG_3, True.intro⟩
set_option maxHeartbeats 4000000 in
set_option maxRecDepth 100000 in
theorem gX9_leastWhere {σ t : St} (hG : GC σ t) {x : Nat} (g_x : netAt x = true) {a : Int32} {b : Int32} {c : Int32} : Ok (FX9_leastWhere x a b c t) (fun r u => GC σ u ∧ (True)) := by
  unfold FX9_leastWhere
  refine Ok.ck (by first | assumption | decide +kernel) (fun g_1 => ?_)
  refine Ok.bd _ (gX9_fillSteps hG (by first | assumption | decide +kernel) (by first | assumption | exact Or.inl rfl | exact Or.inr rfl)) ?_
  rintro _ t2 ⟨hG_2, hxv1⟩
  refine Ok.bd _ (gX9_fillSteps hG_2 (by first | assumption | decide +kernel) (by first | assumption | exact Or.inl rfl | exact Or.inr rfl)) ?_
  rintro _ t5 ⟨hG_3, hxv4⟩
  refine Ok.bd _ (gX9_fillRest hG_3 (by first | assumption | decide +kernel) (by first | assumption | exact Or.inl rfl | exact Or.inr rfl)) ?_
  rintro _ t8 ⟨hG_4, hxv7⟩
  refine Ok.ck (by first | (simp (disch := omega) only [li_0, li_1, li_2, li_3, li_4, li_5, li_6, li_7, li_8, li_9, li_10, li_20, li_30, li_82, li_91, li_273, li_380, li_400, li_512, li_1000, li_2457, li_4000, nI_add, nI_1, nI_mul, nI_sub, shl_1, shl_1b, nI_or, nI_xor, nI_and]; with_reducible exact inb_n (by first | omega | exact or9 (by omega) (by omega) | exact xor9 (by omega) (by omega)) (by omega)) | with_reducible exact inb_n (by omega) (by omega) | exact IsR.ib (by with_reducible assumption) (by decide) | decide) (fun g_5 => ?_)
  refine Ok.rd (fun v11 hv11 => ?_)
  exact Ok.ret ⟨hG_4, True.intro⟩
end
section
/-! safety of the class: bands, acts (printed by wip/ext/g25.py) -/
theorem w7_le {a q : Int32} {k : Nat} (h : a = nI k) (hk : k < 10) : (mnI (a - 1) q).toInt ≤ 8 := by
  have e : (a - 1).toInt = (k : Int) - 1 := by
    rw [h]
    exact pk_sub_toInt (a := k) (b := 1) (by omega) (by omega)
  show (if q < a - 1 then q else a - 1).toInt ≤ 8
  split
  · rename_i c
    rw [Int32.lt_iff_toInt_lt] at c
    omega
  · omega
theorem mx0 (z : Int32) : ∃ j, j < 2147483648 ∧ mxI 0 z = nI j := by
  refine Exists.imp (fun j h => ⟨by omega, h.2⟩) (nI_of (x := mxI 0 z) ?_)
  show ¬ (if (0 : Int32) < z then z else 0) < 0
  split
  · rename_i c
    rw [Int32.lt_iff_toInt_lt] at c ⊢
    omega
  · decide
theorem rX0_waiting {t : St} (hT : TY t) {a : Int32} (h_a : IsR 10 a) {b c : Int32} : Ok (FX0_waiting a b c t) (fun r u => t = u ∧ True) := by
  obtain ⟨ka, hka, ea⟩ := h_a
  unfold FX0_waiting
  refine Ok.rd (fun v1 hv1 => ?_)
  have hw := w7_le (q := v1 - 2 - c) ea hka
  generalize mnI (a - 1) (v1 - 2 - c) = w7 at hw ⊢
  generalize shl c 9 ||| b = w4
  obtain ⟨j0, hj0, e0⟩ := mx0 (a - 1 - c)
  rw [e0]
  refine Ok.bd (fun _ u => t = u) ?_ ?_
  · refine Ok.loop (fun k x s => t = s ∧ ∃ j, x.2.2 = nI j ∧ j < 2147483648 ∧ k = 10 - j) ?_ (10 - j0) _ _ ⟨rfl, j0, rfl, hj0, rfl⟩
    intro k x s hI
    obtain ⟨rfl, j, ej, hj, rfl⟩ := hI
    obtain ⟨x0, x1, x2⟩ := x
    dsimp only at ej
    subst ej
    unfold SX0_waiting_44
    dsimp only
    refine Ok.ite (fun c1 => Ok.ret rfl) (fun c1 => ?_)
    rw [Int32.lt_iff_toInt_lt, nI_toInt (by omega)] at c1
    refine Ok.ck (inb_n (by omega) (by omega)) (fun g1 => ?_)
    refine Ok.rdT hT (ty_a95 (inb_lt g1)) (by omega) (fun q hq eq => ?_)
    refine Ok.ck (inb_n (by omega) (by omega)) (fun g2 => ?_)
    refine Ok.rd (fun v8 hv8 => ?_)
    refine Ok.ite (fun c2 => ?_) (fun c2 => ?_)
    · exact Ok.ret ⟨10 - (j + 1), by omega, rfl, j + 1, nI_1 j, by omega, rfl⟩
    · refine Ok.bd _ (rJ6_bitCount_0f7a4 hT) ?_
      rintro v11 _ ⟨rfl, -⟩
      refine Ok.ite (fun c3 => ?_) (fun c3 => Ok.ret rfl)
      refine Ok.ck (inb_n (by omega) (by omega)) (fun g3 => ?_)
      refine Ok.rd (fun v16 hv16 => ?_)
      exact Ok.ret ⟨10 - (j + 1), by omega, rfl, j + 1, nI_1 j, by omega, rfl⟩
  · rintro (e | e) _ rfl
    · exact Ok.ret ⟨rfl, True.intro⟩
    · exact Ok.ret ⟨rfl, True.intro⟩
theorem ush20 (x : Int32) : inb (ushr x 20) 4096 = true := by
  have h := pk_ushr x 20 20 (by decide)
  have hx := x.toBitVec.isLt
  have e : ushr x 20 = nI (x.toBitVec.toNat / 2 ^ 20) := by
    apply Int32.toBitVec_inj.mp
    apply BitVec.eq_of_toNat_eq
    rw [pk_tn (by omega)]
    exact h
  rw [e]
  exact inb_n (by omega) (by omega)
theorem gX0_rowsFrom {σ : St} : ∀ (nn : Nat) {t : St} (_ : GC σ t) {a b c : Int32} (_ : ∃ k, k < 10 ∧ a = nI k ∧ 10 ≤ nn + k ∧ 1 ≤ nn), Ok (FX0_rowsFrom nn a b c t) (fun r u => GC σ u ∧ True) := by
  intro nn
  induction nn with
  | zero =>
    intro t hG a b c h
    obtain ⟨k, h1, h2, h3, h4⟩ := h
    omega
  | succ n ih =>
    intro t hG a b c h
    obtain ⟨k, h1, rfl, h3, h4⟩ := h
    show Ok (FX0_rowsFrom_b (FX0_rowsFrom n) (nI k) b c t) _
    unfold FX0_rowsFrom_b
    refine Ok.rdT hG.tt (ty_n0 (x := 91) (by decide +kernel)) (by omega) (fun p hp ep => ?_)
    refine Ok.ite (fun c1 => ?_) (fun c1 => Ok.ret ⟨hG, True.intro⟩)
    rw [nI_ltP (by omega) (by omega)] at c1
    refine Ok.bd _ (rX0_waiting hG.tt ⟨k, by omega, rfl⟩) ?_
    rintro v4 _ ⟨rfl, -⟩
    refine Ok.ite (fun c2 => Ok.ret ⟨hG, True.intro⟩) (fun c2 => ?_)
    refine Ok.ck (ush20 _) (fun g1 => ?_)
    refine Ok.rd (fun v9 hv9 => ?_)
    refine Ok.ite (fun c3 => ?_) (fun c3 => ?_)
    · refine Ok.ck g1 (fun _ => ?_)
      exact Ok.rd (fun v38 hv38 => Ok.ret ⟨hG, True.intro⟩)
    · refine Ok.bd (fun _ u => GC σ u) ?_ ?_
      · refine Ok.loop (fun m x s => GC σ s ∧ ∃ j, x.2 = nI j ∧ j ≤ 9 ∧ m = 9 - j) ?_ 9 _ _ ⟨hG, 0, rfl, by omega, rfl⟩
        clear hG ep
        intro m x s hI
        obtain ⟨hG, j, ej, hj, rfl⟩ := hI
        obtain ⟨x0, x1⟩ := x
        dsimp only at ej
        subst ej
        unfold SX0_rowsFrom_66
        dsimp only
        refine Ok.rdT hG.tt (ty_n0 (x := 91) (by decide +kernel)) (by omega) (fun p2 hp2 ep2 => ?_)
        refine Ok.ite (fun c4 => Ok.ret hG) (fun c4 => ?_)
        rw [nI_leP (by omega) (by omega)] at c4
        refine Ok.bd (fun _ u => GC σ u) ?_ ?_
        · refine Ok.ite (fun c5 => ?_) (fun c5 => Ok.ret hG)
          refine Ok.ck (inb_n (by omega) (by omega)) (fun g2 => ?_)
          refine Ok.wr (fun w ew => ?_)
          have hG2 := hG.wrT ew (by omega) (ty_a95 (inb_lt g2)) ⟨j, by omega, rfl⟩
          refine Ok.bd _ (ih hG2 ⟨k + 1, by omega, nI_1 k, by omega, by omega⟩) ?_
          rintro v23 u ⟨hG3, -⟩
          exact Ok.ret hG3
        · intro v16 u hG4
          exact Ok.ret ⟨9 - (j + 1), by omega, hG4, j + 1, nI_1 j, by omega, rfl⟩
      · intro e26 u hG5
        refine Ok.ck g1 (fun _ => ?_)
        refine Ok.wr (fun w ew => ?_)
        have hG6 := hG5.wrU ew (by omega) ty_u96
        refine Ok.ck g1 (fun _ => ?_)
        refine Ok.wr (fun w2 ew2 => ?_)
        exact Ok.ret ⟨hG6.wrU ew2 (by omega) ty_u97, True.intro⟩
theorem lim_of {n j : Nat} (c : ¬ nI n - 1 ≤ nI j) (hn : n < 10) (hj : j < 100000) : j < 9 := by
  rw [Int32.le_iff_toInt_le, nI_toInt (by omega), show (nI n - 1 : Int32) = nI n - nI 1 from rfl, pk_sub_toInt (by omega) (by omega)] at c
  omega
theorem ir10 {k : Nat} (h : k < 1000) : IsR 10 (irem (nI k) 10) := by
  show IsR 10 (nI k - nI k / nI 10 * nI 10)
  rw [nI_remN (by omega) (by omega) (by omega)]
  exact ⟨k % 10, by omega, rfl⟩
theorem mn10 {k : Nat} (h : k < 1000) : IsR 11 (mnI 10 (nI k)) := by
  show IsR 11 (if nI k < 10 then nI k else 10)
  split
  · rename_i c
    rw [li_10, nI_ltP (by omega) (by omega)] at c
    exact ⟨k, by omega, rfl⟩
  · exact ⟨10, by omega, rfl⟩
theorem gX0_turnTo {σ t : St} (hG : GC σ t) {x : Nat} (g_x : netAt x = true) : Ok (FX0_turnTo x t) (fun r u => GC σ u ∧ True) := by
  unfold FX0_turnTo
  refine Ok.ck g_x (fun _ => ?_)
  refine Ok.bd _ (rX5_sameLines hG.tt (by decide +kernel) g_x) ?_
  rintro v _ ⟨rfl, -⟩
  refine Ok.ite (fun c => ?_) (fun c => Ok.ret ⟨hG, True.intro⟩)
  refine Ok.bd _ (gX5_copyFrom hG (by decide +kernel) g_x) ?_
  rintro _ t7 ⟨h7, -⟩
  refine Ok.bd _ (gJ7_fill_53178 h7 (by omega) (by decide +kernel) (by decide +kernel) (fun i hi => Or.inl ty_u96)) ?_
  rintro _ t10 ⟨h10, -⟩
  exact Ok.ret ⟨h10, True.intro⟩
set_option maxHeartbeats 4000000 in
set_option maxRecDepth 100000 in
theorem gSX0_leadersFrom_6 {σ t : St} (hG : GC σ t) {w1 : Int32} (h_w1 : IsR 9 w1) {w2 : Int32} {w3 : Int32} {a0 : Int32} {a1 : Int32} (h_a1 : IsR 5001 a1) : Ok (wh (SX0_leadersFrom_6 w1 w2 w3) (a0, a1) t) (fun r u => GC σ u ∧ (True)) := by
  obtain ⟨j0, hj0, rfl⟩ := h_a1
  refine Ok.loop (fun k c s => GC σ s ∧ (∃ j, c.2 = nI j ∧ j ≤ 5000 ∧ 0 ≤ j ∧ k = 5000 - j)) ?_ (5000 - j0) _ _ ⟨hG, ⟨j0, rfl, by omega, by omega, rfl⟩⟩
  obtain ⟨k_w1, h_w1, rfl⟩ := h_w1
  clear hG hj0
  intro k c s hI
  obtain ⟨hG, ⟨j, ej, hj, hlo, rfl⟩⟩ := hI
  obtain ⟨c0, c1⟩ := c
  dsimp only at ej
  subst ej
  unfold SX0_leadersFrom_6
  dsimp only
  refine Ok.rdT hG.tt (ty_n0 (x := 91) (by decide +kernel)) (by omega) (fun k_1 hk_1 ek_1 => ?_)
  refine Ok.ite (fun c_2 => ?_) (fun c_2 => ?_)
  · try simp (disch := omega) only [li_0, li_1, li_2, li_3, li_4, li_5, li_6, li_7, li_8, li_9, li_10, li_20, li_30, li_82, li_91, li_273, li_380, li_400, li_512, li_1000, li_2457, li_4000, nI_add, nI_1, nI_mul, nI_sub, shl_1, shl_1b, nI_leP, nI_ltP, nI_eqP, Nat.not_le, Nat.not_lt] at c_2
    exact Ok.ret ⟨hG, True.intro⟩
  · try simp (disch := omega) only [li_0, li_1, li_2, li_3, li_4, li_5, li_6, li_7, li_8, li_9, li_10, li_20, li_30, li_82, li_91, li_273, li_380, li_400, li_512, li_1000, li_2457, li_4000, nI_add, nI_1, nI_mul, nI_sub, shl_1, shl_1b, nI_leP, nI_ltP, nI_eqP, Nat.not_le, Nat.not_lt] at c_2
    refine Ok.bd (fun (v5 : Int32) t6 => GC σ t6 ∧ (True)) ?_ ?_
    · refine Ok.ite (fun c_3 => ?_) (fun c_3 => ?_)
      · try simp (disch := omega) only [li_0, li_1, li_2, li_3, li_4, li_5, li_6, li_7, li_8, li_9, li_10, li_20, li_30, li_82, li_91, li_273, li_380, li_400, li_512, li_1000, li_2457, li_4000, nI_add, nI_1, nI_mul, nI_sub, shl_1, shl_1b, nI_leP, nI_ltP, nI_eqP, Nat.not_le, Nat.not_lt] at c_3
        refine Ok.ck (by first | (simp (disch := omega) only [li_0, li_1, li_2, li_3, li_4, li_5, li_6, li_7, li_8, li_9, li_10, li_20, li_30, li_82, li_91, li_273, li_380, li_400, li_512, li_1000, li_2457, li_4000, nI_add, nI_1, nI_mul, nI_sub, shl_1, shl_1b, nI_or, nI_xor, nI_and]; with_reducible exact inb_n (by first | omega | exact or9 (by omega) (by omega) | exact xor9 (by omega) (by omega)) (by omega)) | with_reducible exact inb_n (by omega) (by omega) | exact IsR.ib (by with_reducible assumption) (by decide) | decide) (fun g_4 => ?_)
        refine Ok.wr (fun t10 w_5 => ?_)
        have hG_6 := hG.wrT w_5 (by omega) (ty_a95 (inb_lt g_4)) (by first | with_reducible assumption | (simp (disch := omega) only [li_0, li_1, li_2, li_3, li_4, li_5, li_6, li_7, li_8, li_9, li_10, li_20, li_30, li_82, li_91, li_273, li_380, li_400, li_512, li_1000, li_2457, li_4000, nI_add, nI_1, nI_mul, nI_sub, shl_1, shl_1b, nI_or, nI_xor, nI_and]; with_reducible exact ⟨_, (by first | omega | exact or9 (by omega) (by omega) | exact xor9 (by omega) (by omega)), rfl⟩) | with_reducible exact ⟨_, (by first | omega | exact or9 (by omega) (by omega) | exact xor9 (by omega) (by omega)), rfl⟩ | exact IsR.mn (by first | with_reducible assumption | exact ⟨_, by omega, rfl⟩) (by first | with_reducible assumption | exact ⟨_, by omega, rfl⟩) | exact IsR.mx (by first | with_reducible assumption | exact ⟨_, by omega, rfl⟩) (by first | with_reducible assumption | exact ⟨_, by omega, rfl⟩) | with_reducible exact mn9 (by omega) | (simp (disch := omega) only [li_0, li_1, li_2, li_3, li_4, li_5, li_6, li_7, li_8, li_9, li_10, li_20, li_30, li_82, li_91, li_273, li_380, li_400, li_512, li_1000, li_2457, li_4000, nI_add, nI_1, nI_mul, nI_sub, shl_1, shl_1b]; with_reducible exact mn9b (by omega)))
        refine Ok.bd _ (gX0_rowsFrom 11 hG_6 (by first | exact ⟨0, by omega, rfl, by omega, by omega⟩ | exact ⟨_, by omega, rfl, by omega, by omega⟩ | exact ⟨_, by omega, nI_1 _, by omega, by omega⟩)) ?_
        rintro v12 t13 ⟨hG_7, hxv12⟩
        refine Ok.ite (fun c_8 => ?_) (fun c_8 => ?_)
        · try simp (disch := omega) only [li_0, li_1, li_2, li_3, li_4, li_5, li_6, li_7, li_8, li_9, li_10, li_20, li_30, li_82, li_91, li_273, li_380, li_400, li_512, li_1000, li_2457, li_4000, nI_add, nI_1, nI_mul, nI_sub, shl_1, shl_1b, nI_leP, nI_ltP, nI_eqP, Nat.not_le, Nat.not_lt] at c_8
          exact Ok.ret ⟨hG_7, True.intro⟩
        · try simp (disch := omega) only [li_0, li_1, li_2, li_3, li_4, li_5, li_6, li_7, li_8, li_9, li_10, li_20, li_30, li_82, li_91, li_273, li_380, li_400, li_512, li_1000, li_2457, li_4000, nI_add, nI_1, nI_mul, nI_sub, shl_1, shl_1b, nI_leP, nI_ltP, nI_eqP, Nat.not_le, Nat.not_lt] at c_8
          exact Ok.ret ⟨hG_7, True.intro⟩
      · try simp (disch := omega) only [li_0, li_1, li_2, li_3, li_4, li_5, li_6, li_7, li_8, li_9, li_10, li_20, li_30, li_82, li_91, li_273, li_380, li_400, li_512, li_1000, li_2457, li_4000, nI_add, nI_1, nI_mul, nI_sub, shl_1, shl_1b, nI_leP, nI_ltP, nI_eqP, Nat.not_le, Nat.not_lt] at c_3
        exact Ok.ret ⟨hG, True.intro⟩
    · intro v5 t6 hx
      obtain ⟨hG_9, hxv5⟩ := hx
      exact Ok.ret ⟨5000 - (j + 1), by omega, hG_9, ⟨j + 1, nI_1 j, by omega, by omega, rfl⟩⟩
set_option maxHeartbeats 4000000 in
set_option maxRecDepth 100000 in
theorem gX0_leadersFrom {σ t : St} (hG : GC σ t) {a : Int32} (h_a : IsR 9 a) {b : Int32} {c : Int32} : Ok (FX0_leadersFrom a b c t) (fun r u => GC σ u ∧ (True)) := by
  obtain ⟨k_a, h_a, rfl⟩ := h_a
  unfold FX0_leadersFrom
  refine Ok.bd _ (gSX0_leadersFrom_6 hG (by first | with_reducible assumption | (simp (disch := omega) only [li_0, li_1, li_2, li_3, li_4, li_5, li_6, li_7, li_8, li_9, li_10, li_20, li_30, li_82, li_91, li_273, li_380, li_400, li_512, li_1000, li_2457, li_4000, nI_add, nI_1, nI_mul, nI_sub, shl_1, shl_1b, nI_or, nI_xor, nI_and]; with_reducible exact ⟨_, (by first | omega | exact or9 (by omega) (by omega) | exact xor9 (by omega) (by omega)), rfl⟩) | with_reducible exact ⟨_, (by first | omega | exact or9 (by omega) (by omega) | exact xor9 (by omega) (by omega)), rfl⟩ | exact IsR.mn (by first | with_reducible assumption | exact ⟨_, by omega, rfl⟩) (by first | with_reducible assumption | exact ⟨_, by omega, rfl⟩) | exact IsR.mx (by first | with_reducible assumption | exact ⟨_, by omega, rfl⟩) (by first | with_reducible assumption | exact ⟨_, by omega, rfl⟩) | with_reducible exact mn9 (by omega) | (simp (disch := omega) only [li_0, li_1, li_2, li_3, li_4, li_5, li_6, li_7, li_8, li_9, li_10, li_20, li_30, li_82, li_91, li_273, li_380, li_400, li_512, li_1000, li_2457, li_4000, nI_add, nI_1, nI_mul, nI_sub, shl_1, shl_1b]; with_reducible exact mn9b (by omega))) (by show IsR 5001 _; first | with_reducible assumption | (simp (disch := omega) only [li_0, li_1, li_2, li_3, li_4, li_5, li_6, li_7, li_8, li_9, li_10, li_20, li_30, li_82, li_91, li_273, li_380, li_400, li_512, li_1000, li_2457, li_4000, nI_add, nI_1, nI_mul, nI_sub, shl_1, shl_1b, nI_or, nI_xor, nI_and]; with_reducible exact ⟨_, (by first | omega | exact or9 (by omega) (by omega) | exact xor9 (by omega) (by omega)), rfl⟩) | with_reducible exact ⟨_, (by first | omega | exact or9 (by omega) (by omega) | exact xor9 (by omega) (by omega)), rfl⟩ | exact IsR.mn (by first | with_reducible assumption | exact ⟨_, by omega, rfl⟩) (by first | with_reducible assumption | exact ⟨_, by omega, rfl⟩) | exact IsR.mx (by first | with_reducible assumption | exact ⟨_, by omega, rfl⟩) (by first | with_reducible assumption | exact ⟨_, by omega, rfl⟩) | with_reducible exact mn9 (by omega) | (simp (disch := omega) only [li_0, li_1, li_2, li_3, li_4, li_5, li_6, li_7, li_8, li_9, li_10, li_20, li_30, li_82, li_91, li_273, li_380, li_400, li_512, li_1000, li_2457, li_4000, nI_add, nI_1, nI_mul, nI_sub, shl_1, shl_1b]; with_reducible exact mn9b (by omega)))) ?_
  rintro e16 t17 ⟨hG_1, hxe16⟩
  exact Ok.ret ⟨hG_1, True.intro⟩
set_option maxHeartbeats 4000000 in
set_option maxRecDepth 100000 in
theorem gSX0_leastLimit_2 {σ t : St} (hG : GC σ t) {a0 : Int32} (h_a0 : IsR 5001 a0) : Ok (wh (SX0_leastLimit_2) a0 t) (fun r u => GC σ u ∧ (Sum.elim (fun v => True) (fun e => True) r)) := by
  obtain ⟨j0, hj0, rfl⟩ := h_a0
  refine Ok.loop (fun k c s => GC σ s ∧ (∃ j, c = nI j ∧ j ≤ 5000 ∧ 0 ≤ j ∧ k = 5000 - j)) ?_ (5000 - j0) _ _ ⟨hG, ⟨j0, rfl, by omega, by omega, rfl⟩⟩
  clear hG hj0
  intro k c s hI
  obtain ⟨hG, ⟨j, ej, hj, hlo, rfl⟩⟩ := hI
  subst ej
  unfold SX0_leastLimit_2
  refine Ok.rdT hG.tt (ty_n0 (x := 91) (by decide +kernel)) (by omega) (fun k_1 hk_1 ek_1 => ?_)
  refine Ok.ite (fun c_2 => ?_) (fun c_2 => ?_)
  · try simp (disch := omega) only [li_0, li_1, li_2, li_3, li_4, li_5, li_6, li_7, li_8, li_9, li_10, li_20, li_30, li_82, li_91, li_273, li_380, li_400, li_512, li_1000, li_2457, li_4000, nI_add, nI_1, nI_mul, nI_sub, shl_1, shl_1b, nI_leP, nI_ltP, nI_eqP, Nat.not_le, Nat.not_lt] at c_2
    exact Ok.ret ⟨hG, True.intro⟩
  · try simp (disch := omega) only [li_0, li_1, li_2, li_3, li_4, li_5, li_6, li_7, li_8, li_9, li_10, li_20, li_30, li_82, li_91, li_273, li_380, li_400, li_512, li_1000, li_2457, li_4000, nI_add, nI_1, nI_mul, nI_sub, shl_1, shl_1b, nI_leP, nI_ltP, nI_eqP, Nat.not_le, Nat.not_lt] at c_2
    have hj9_ := lim_of c_2 (by omega) (by omega)
    refine Ok.bd _ (gX0_rowsFrom 11 hG (by first | exact ⟨0, by omega, rfl, by omega, by omega⟩ | exact ⟨_, by omega, rfl, by omega, by omega⟩ | exact ⟨_, by omega, nI_1 _, by omega, by omega⟩)) ?_
    rintro v4 t5 ⟨hG_3, hxv4⟩
    refine Ok.ite (fun c_4 => ?_) (fun c_4 => ?_)
    · try simp (disch := omega) only [li_0, li_1, li_2, li_3, li_4, li_5, li_6, li_7, li_8, li_9, li_10, li_20, li_30, li_82, li_91, li_273, li_380, li_400, li_512, li_1000, li_2457, li_4000, nI_add, nI_1, nI_mul, nI_sub, shl_1, shl_1b, nI_leP, nI_ltP, nI_eqP, Nat.not_le, Nat.not_lt] at c_4
      exact Ok.ret ⟨5000 - (j + 1), by omega, hG_3, ⟨j + 1, nI_1 j, by omega, by omega, rfl⟩⟩
    · try simp (disch := omega) only [li_0, li_1, li_2, li_3, li_4, li_5, li_6, li_7, li_8, li_9, li_10, li_20, li_30, li_82, li_91, li_273, li_380, li_400, li_512, li_1000, li_2457, li_4000, nI_add, nI_1, nI_mul, nI_sub, shl_1, shl_1b, nI_leP, nI_ltP, nI_eqP, Nat.not_le, Nat.not_lt] at c_4
      exact Ok.ret ⟨hG_3, True.intro⟩
set_option maxHeartbeats 4000000 in
set_option maxRecDepth 100000 in
theorem gX0_leastLimit {σ t : St} (hG : GC σ t) : Ok (FX0_leastLimit t) (fun r u => GC σ u ∧ (True)) := by
  unfold FX0_leastLimit
  refine Ok.bd _ (gSX0_leastLimit_2 hG (by show IsR 5001 _; first | with_reducible assumption | (simp (disch := omega) only [li_0, li_1, li_2, li_3, li_4, li_5, li_6, li_7, li_8, li_9, li_10, li_20, li_30, li_82, li_91, li_273, li_380, li_400, li_512, li_1000, li_2457, li_4000, nI_add, nI_1, nI_mul, nI_sub, shl_1, shl_1b, nI_or, nI_xor, nI_and]; with_reducible exact ⟨_, (by first | omega | exact or9 (by omega) (by omega) | exact xor9 (by omega) (by omega)), rfl⟩) | with_reducible exact ⟨_, (by first | omega | exact or9 (by omega) (by omega) | exact xor9 (by omega) (by omega)), rfl⟩ | exact IsR.mn (by first | with_reducible assumption | exact ⟨_, by omega, rfl⟩) (by first | with_reducible assumption | exact ⟨_, by omega, rfl⟩) | exact IsR.mx (by first | with_reducible assumption | exact ⟨_, by omega, rfl⟩) (by first | with_reducible assumption | exact ⟨_, by omega, rfl⟩) | with_reducible exact mn9 (by omega) | (simp (disch := omega) only [li_0, li_1, li_2, li_3, li_4, li_5, li_6, li_7, li_8, li_9, li_10, li_20, li_30, li_82, li_91, li_273, li_380, li_400, li_512, li_1000, li_2457, li_4000, nI_add, nI_1, nI_mul, nI_sub, shl_1, shl_1b]; with_reducible exact mn9b (by omega)))) ?_
  rintro (e9 | e9) t10 ⟨hG_1, hxe9⟩
  · refine Ok.el ?_
    exact Ok.ret ⟨hG_1, True.intro⟩
  · refine Ok.er ?_
    refine Ok.rdT hG_1.tt (ty_n0 (x := 91) (by decide +kernel)) (by omega) (fun k_2 hk_2 ek_2 => ?_)
    exact Ok.ret ⟨hG_1, True.intro⟩
set_option maxHeartbeats 4000000 in
set_option maxRecDepth 100000 in
theorem gSX0_find_43 {σ t : St} (hG : GC σ t) {x2 : Nat} (g_x2 : findAt x2 = true) {w3 : Int32} {a0 : Int32} {a1 : Int32} (h_a1 : IsR 5001 a1) : Ok (wh (SX0_find_43 x2 w3) (a0, a1) t) (fun r u => GC σ u ∧ (True)) := by
  obtain ⟨j0, hj0, rfl⟩ := h_a1
  refine Ok.loop (fun k c s => GC σ s ∧ (∃ j, c.2 = nI j ∧ j ≤ 5000 ∧ 0 ≤ j ∧ k = 5000 - j)) ?_ (5000 - j0) _ _ ⟨hG, ⟨j0, rfl, by omega, by omega, rfl⟩⟩
  clear hG hj0
  intro k c s hI
  obtain ⟨hG, ⟨j, ej, hj, hlo, rfl⟩⟩ := hI
  obtain ⟨c0, c1⟩ := c
  dsimp only at ej
  subst ej
  unfold SX0_find_43
  dsimp only
  refine Ok.rdT hG.tt (ty_n0 (x := 91) (by decide +kernel)) (by omega) (fun k_1 hk_1 ek_1 => ?_)
  refine Ok.ite (fun c_2 => ?_) (fun c_2 => ?_)
  · try simp (disch := omega) only [li_0, li_1, li_2, li_3, li_4, li_5, li_6, li_7, li_8, li_9, li_10, li_20, li_30, li_82, li_91, li_273, li_380, li_400, li_512, li_1000, li_2457, li_4000, nI_add, nI_1, nI_mul, nI_sub, shl_1, shl_1b, nI_leP, nI_ltP, nI_eqP, Nat.not_le, Nat.not_lt] at c_2
    exact Ok.ret ⟨hG, True.intro⟩
  · try simp (disch := omega) only [li_0, li_1, li_2, li_3, li_4, li_5, li_6, li_7, li_8, li_9, li_10, li_20, li_30, li_82, li_91, li_273, li_380, li_400, li_512, li_1000, li_2457, li_4000, nI_add, nI_1, nI_mul, nI_sub, shl_1, shl_1b, nI_leP, nI_ltP, nI_eqP, Nat.not_le, Nat.not_lt] at c_2
    refine Ok.bd _ (gX0_leadersFrom hG (by first | with_reducible assumption | (simp (disch := omega) only [li_0, li_1, li_2, li_3, li_4, li_5, li_6, li_7, li_8, li_9, li_10, li_20, li_30, li_82, li_91, li_273, li_380, li_400, li_512, li_1000, li_2457, li_4000, nI_add, nI_1, nI_mul, nI_sub, shl_1, shl_1b, nI_or, nI_xor, nI_and]; with_reducible exact ⟨_, (by first | omega | exact or9 (by omega) (by omega) | exact xor9 (by omega) (by omega)), rfl⟩) | with_reducible exact ⟨_, (by first | omega | exact or9 (by omega) (by omega) | exact xor9 (by omega) (by omega)), rfl⟩ | exact IsR.mn (by first | with_reducible assumption | exact ⟨_, by omega, rfl⟩) (by first | with_reducible assumption | exact ⟨_, by omega, rfl⟩) | exact IsR.mx (by first | with_reducible assumption | exact ⟨_, by omega, rfl⟩) (by first | with_reducible assumption | exact ⟨_, by omega, rfl⟩) | with_reducible exact mn9 (by omega) | (simp (disch := omega) only [li_0, li_1, li_2, li_3, li_4, li_5, li_6, li_7, li_8, li_9, li_10, li_20, li_30, li_82, li_91, li_273, li_380, li_400, li_512, li_1000, li_2457, li_4000, nI_add, nI_1, nI_mul, nI_sub, shl_1, shl_1b]; with_reducible exact mn9b (by omega)))) ?_
    rintro v22 t23 ⟨hG_3, hxv22⟩
    refine Ok.bd _ (rX9_lowest hG_3.tt) ?_
    rintro _ _ ⟨rfl, kv25, hv25, rfl⟩
    refine Ok.ck (by first | (simp (disch := omega) only [li_0, li_1, li_2, li_3, li_4, li_5, li_6, li_7, li_8, li_9, li_10, li_20, li_30, li_82, li_91, li_273, li_380, li_400, li_512, li_1000, li_2457, li_4000, nI_add, nI_1, nI_mul, nI_sub, shl_1, shl_1b, nI_or, nI_xor, nI_and]; with_reducible exact inb_n (by first | omega | exact or9 (by omega) (by omega) | exact xor9 (by omega) (by omega)) (by omega)) | with_reducible exact inb_n (by omega) (by omega) | exact IsR.ib (by with_reducible assumption) (by decide) | decide) (fun g_5 => ?_)
    refine Ok.wr (fun t29 w_6 => ?_)
    have hG_7 := hG_3.wrT w_6 (by omega) (ty_a95 (inb_lt g_5)) (by first | with_reducible assumption | (simp (disch := omega) only [li_0, li_1, li_2, li_3, li_4, li_5, li_6, li_7, li_8, li_9, li_10, li_20, li_30, li_82, li_91, li_273, li_380, li_400, li_512, li_1000, li_2457, li_4000, nI_add, nI_1, nI_mul, nI_sub, shl_1, shl_1b, nI_or, nI_xor, nI_and]; with_reducible exact ⟨_, (by first | omega | exact or9 (by omega) (by omega) | exact xor9 (by omega) (by omega)), rfl⟩) | with_reducible exact ⟨_, (by first | omega | exact or9 (by omega) (by omega) | exact xor9 (by omega) (by omega)), rfl⟩ | exact IsR.mn (by first | with_reducible assumption | exact ⟨_, by omega, rfl⟩) (by first | with_reducible assumption | exact ⟨_, by omega, rfl⟩) | exact IsR.mx (by first | with_reducible assumption | exact ⟨_, by omega, rfl⟩) (by first | with_reducible assumption | exact ⟨_, by omega, rfl⟩) | with_reducible exact mn9 (by omega) | (simp (disch := omega) only [li_0, li_1, li_2, li_3, li_4, li_5, li_6, li_7, li_8, li_9, li_10, li_20, li_30, li_82, li_91, li_273, li_380, li_400, li_512, li_1000, li_2457, li_4000, nI_add, nI_1, nI_mul, nI_sub, shl_1, shl_1b]; with_reducible exact mn9b (by omega)))
    refine Ok.ck (by first | (simp (disch := omega) only [li_0, li_1, li_2, li_3, li_4, li_5, li_6, li_7, li_8, li_9, li_10, li_20, li_30, li_82, li_91, li_273, li_380, li_400, li_512, li_1000, li_2457, li_4000, nI_add, nI_1, nI_mul, nI_sub, shl_1, shl_1b, nI_or, nI_xor, nI_and]; with_reducible exact inb_n (by first | omega | exact or9 (by omega) (by omega) | exact xor9 (by omega) (by omega)) (by omega)) | with_reducible exact inb_n (by omega) (by omega) | exact IsR.ib (by with_reducible assumption) (by decide) | decide) (fun g_8 => ?_)
    refine Ok.wr (fun t32 w_9 => ?_)
    have hG_10 := hG_7.wrT w_9 (by have := find_pl g_x2; omega) (ty_fr g_x2 (inb_lt g_8)) (by first | with_reducible assumption | (simp (disch := omega) only [li_0, li_1, li_2, li_3, li_4, li_5, li_6, li_7, li_8, li_9, li_10, li_20, li_30, li_82, li_91, li_273, li_380, li_400, li_512, li_1000, li_2457, li_4000, nI_add, nI_1, nI_mul, nI_sub, shl_1, shl_1b, nI_or, nI_xor, nI_and]; with_reducible exact ⟨_, (by first | omega | exact or9 (by omega) (by omega) | exact xor9 (by omega) (by omega)), rfl⟩) | with_reducible exact ⟨_, (by first | omega | exact or9 (by omega) (by omega) | exact xor9 (by omega) (by omega)), rfl⟩ | exact IsR.mn (by first | with_reducible assumption | exact ⟨_, by omega, rfl⟩) (by first | with_reducible assumption | exact ⟨_, by omega, rfl⟩) | exact IsR.mx (by first | with_reducible assumption | exact ⟨_, by omega, rfl⟩) (by first | with_reducible assumption | exact ⟨_, by omega, rfl⟩) | with_reducible exact mn9 (by omega) | (simp (disch := omega) only [li_0, li_1, li_2, li_3, li_4, li_5, li_6, li_7, li_8, li_9, li_10, li_20, li_30, li_82, li_91, li_273, li_380, li_400, li_512, li_1000, li_2457, li_4000, nI_add, nI_1, nI_mul, nI_sub, shl_1, shl_1b]; with_reducible exact mn9b (by omega)))
    exact Ok.ret ⟨5000 - (j + 1), by omega, hG_10, ⟨j + 1, nI_1 j, by omega, by omega, rfl⟩⟩
set_option maxHeartbeats 4000000 in
set_option maxRecDepth 100000 in
theorem gX0_find {σ t : St} (hG : GC σ t) {x : Nat} (g_x : netAt x = true) {z : Nat} (g_z : findAt z = true) : Ok (FX0_find x z t) (fun r u => GC σ u ∧ (True)) := by
  unfold FX0_find
  refine Ok.ck (by first | assumption | decide +kernel) (fun g_1 => ?_)
  refine Ok.ck (by first | assumption | decide +kernel) (fun g_2 => ?_)
  refine Ok.bd _ (gX0_turnTo hG (by first | assumption | decide +kernel)) ?_
  rintro _ t2 ⟨hG_3, hxv1⟩
  refine Ok.bd _ (gX0_leastLimit hG_3) ?_
  rintro v4 t5 ⟨hG_4, hxv4⟩
  refine Ok.wr (fun t7 w_5 => ?_)
  have hG_6 := hG_4.wrU w_5 (by have := find_pl g_2; omega) (ty_f0 g_2)
  refine Ok.bd _ (gX0_rowsFrom 11 hG_6 (by first | exact ⟨0, by omega, rfl, by omega, by omega⟩ | exact ⟨_, by omega, rfl, by omega, by omega⟩ | exact ⟨_, by omega, nI_1 _, by omega, by omega⟩)) ?_
  rintro v9 t10 ⟨hG_7, hxv9⟩
  refine Ok.wr (fun t12 w_8 => ?_)
  have hG_9 := hG_7.wrU w_8 (by have := find_pl g_2; omega) (ty_f0 g_2)
  refine Ok.bd _ (gX0_leadersFrom hG_9 (by first | with_reducible assumption | (simp (disch := omega) only [li_0, li_1, li_2, li_3, li_4, li_5, li_6, li_7, li_8, li_9, li_10, li_20, li_30, li_82, li_91, li_273, li_380, li_400, li_512, li_1000, li_2457, li_4000, nI_add, nI_1, nI_mul, nI_sub, shl_1, shl_1b, nI_or, nI_xor, nI_and]; with_reducible exact ⟨_, (by first | omega | exact or9 (by omega) (by omega) | exact xor9 (by omega) (by omega)), rfl⟩) | with_reducible exact ⟨_, (by first | omega | exact or9 (by omega) (by omega) | exact xor9 (by omega) (by omega)), rfl⟩ | exact IsR.mn (by first | with_reducible assumption | exact ⟨_, by omega, rfl⟩) (by first | with_reducible assumption | exact ⟨_, by omega, rfl⟩) | exact IsR.mx (by first | with_reducible assumption | exact ⟨_, by omega, rfl⟩) (by first | with_reducible assumption | exact ⟨_, by omega, rfl⟩) | with_reducible exact mn9 (by omega) | (simp (disch := omega) only [li_0, li_1, li_2, li_3, li_4, li_5, li_6, li_7, li_8, li_9, li_10, li_20, li_30, li_82, li_91, li_273, li_380, li_400, li_512, li_1000, li_2457, li_4000, nI_add, nI_1, nI_mul, nI_sub, shl_1, shl_1b]; with_reducible exact mn9b (by omega)))) ?_
  rintro v14 t15 ⟨hG_10, hxv14⟩
  refine Ok.wr (fun t17 w_11 => ?_)
  have hG_12 := hG_10.wrU w_11 (by have := find_pl g_2; omega) (ty_f0 g_2)
  refine Ok.bd _ (gSX0_find_43 hG_12 (by first | assumption | decide +kernel) (by show IsR 5001 _; first | with_reducible assumption | (simp (disch := omega) only [li_0, li_1, li_2, li_3, li_4, li_5, li_6, li_7, li_8, li_9, li_10, li_20, li_30, li_82, li_91, li_273, li_380, li_400, li_512, li_1000, li_2457, li_4000, nI_add, nI_1, nI_mul, nI_sub, shl_1, shl_1b, nI_or, nI_xor, nI_and]; with_reducible exact ⟨_, (by first | omega | exact or9 (by omega) (by omega) | exact xor9 (by omega) (by omega)), rfl⟩) | with_reducible exact ⟨_, (by first | omega | exact or9 (by omega) (by omega) | exact xor9 (by omega) (by omega)), rfl⟩ | exact IsR.mn (by first | with_reducible assumption | exact ⟨_, by omega, rfl⟩) (by first | with_reducible assumption | exact ⟨_, by omega, rfl⟩) | exact IsR.mx (by first | with_reducible assumption | exact ⟨_, by omega, rfl⟩) (by first | with_reducible assumption | exact ⟨_, by omega, rfl⟩) | with_reducible exact mn9 (by omega) | (simp (disch := omega) only [li_0, li_1, li_2, li_3, li_4, li_5, li_6, li_7, li_8, li_9, li_10, li_20, li_30, li_82, li_91, li_273, li_380, li_400, li_512, li_1000, li_2457, li_4000, nI_add, nI_1, nI_mul, nI_sub, shl_1, shl_1b]; with_reducible exact mn9b (by omega)))) ?_
  rintro e34 t35 ⟨hG_13, hxe34⟩
  exact Ok.ret ⟨hG_13, True.intro⟩
set_option maxHeartbeats 4000000 in
set_option maxRecDepth 100000 in
theorem gX0_rowsWithin {σ t : St} (hG : GC σ t) {x : Nat} (g_x : netAt x = true) {a : Int32} : Ok (FX0_rowsWithin x a t) (fun r u => GC σ u ∧ (True)) := by
  unfold FX0_rowsWithin
  refine Ok.ck (by first | assumption | decide +kernel) (fun g_1 => ?_)
  refine Ok.bd _ (gX0_turnTo hG (by first | assumption | decide +kernel)) ?_
  rintro _ t2 ⟨hG_2, hxv1⟩
  refine Ok.rdT hG_2.tt (ty_n0 (x := 91) (by decide +kernel)) (by omega) (fun k_3 hk_3 ek_3 => ?_)
  refine Ok.bd _ (gX0_rowsFrom 11 hG_2 (by first | exact ⟨0, by omega, rfl, by omega, by omega⟩ | exact ⟨_, by omega, rfl, by omega, by omega⟩ | exact ⟨_, by omega, nI_1 _, by omega, by omega⟩)) ?_
  rintro v6 t7 ⟨hG_4, hxv6⟩
  exact Ok.ret ⟨hG_4, True.intro⟩
set_option maxHeartbeats 4000000 in
set_option maxRecDepth 100000 in
theorem gSX3_turnTo_22 {σ t : St} (hG : GC σ t) {x0 : Nat} (g_x0 : findsAt x0 = true) {a0 : Int32} (h_a0 : IsR 5001 a0) : Ok (wh (SX3_turnTo_22 x0) a0 t) (fun r u => GC σ u ∧ (True)) := by
  obtain ⟨j0, hj0, rfl⟩ := h_a0
  refine Ok.loop (fun k c s => GC σ s ∧ (∃ j, c = nI j ∧ j ≤ 5000 ∧ 0 ≤ j ∧ k = 5000 - j)) ?_ (5000 - j0) _ _ ⟨hG, ⟨j0, rfl, by omega, by omega, rfl⟩⟩
  clear hG hj0
  intro k c s hI
  obtain ⟨hG, ⟨j, ej, hj, hlo, rfl⟩⟩ := hI
  subst ej
  unfold SX3_turnTo_22
  refine Ok.ite (fun c_1 => ?_) (fun c_1 => ?_)
  · try simp (disch := omega) only [li_0, li_1, li_2, li_3, li_4, li_5, li_6, li_7, li_8, li_9, li_10, li_20, li_30, li_82, li_91, li_273, li_380, li_400, li_512, li_1000, li_2457, li_4000, nI_add, nI_1, nI_mul, nI_sub, shl_1, shl_1b, nI_leP, nI_ltP, nI_eqP, Nat.not_le, Nat.not_lt] at c_1
    exact Ok.ret ⟨hG, True.intro⟩
  · try simp (disch := omega) only [li_0, li_1, li_2, li_3, li_4, li_5, li_6, li_7, li_8, li_9, li_10, li_20, li_30, li_82, li_91, li_273, li_380, li_400, li_512, li_1000, li_2457, li_4000, nI_add, nI_1, nI_mul, nI_sub, shl_1, shl_1b, nI_leP, nI_ltP, nI_eqP, Nat.not_le, Nat.not_lt] at c_1
    refine Ok.ck (by first | (simp (disch := omega) only [li_0, li_1, li_2, li_3, li_4, li_5, li_6, li_7, li_8, li_9, li_10, li_20, li_30, li_82, li_91, li_273, li_380, li_400, li_512, li_1000, li_2457, li_4000, nI_add, nI_1, nI_mul, nI_sub, shl_1, shl_1b, nI_or, nI_xor, nI_and]; with_reducible exact inb_n (by first | omega | exact or9 (by omega) (by omega) | exact xor9 (by omega) (by omega)) (by omega)) | with_reducible exact inb_n (by omega) (by omega) | exact IsR.ib (by with_reducible assumption) (by decide) | decide) (fun g_2 => ?_)
    refine Ok.ck (by exact el_fs (by assumption) (by first | with_reducible assumption | (simp (disch := omega) only [li_0, li_1, li_2, li_3, li_4, li_5, li_6, li_7, li_8, li_9, li_10, li_20, li_30, li_82, li_91, li_273, li_380, li_400, li_512, li_1000, li_2457, li_4000, nI_add, nI_1, nI_mul, nI_sub, shl_1, shl_1b, nI_or, nI_xor, nI_and]; with_reducible exact ⟨_, (by first | omega | exact or9 (by omega) (by omega) | exact xor9 (by omega) (by omega)), rfl⟩) | with_reducible exact ⟨_, (by first | omega | exact or9 (by omega) (by omega) | exact xor9 (by omega) (by omega)), rfl⟩ | exact IsR.mn (by first | with_reducible assumption | exact ⟨_, by omega, rfl⟩) (by first | with_reducible assumption | exact ⟨_, by omega, rfl⟩) | exact IsR.mx (by first | with_reducible assumption | exact ⟨_, by omega, rfl⟩) (by first | with_reducible assumption | exact ⟨_, by omega, rfl⟩) | with_reducible exact mn9 (by omega) | (simp (disch := omega) only [li_0, li_1, li_2, li_3, li_4, li_5, li_6, li_7, li_8, li_9, li_10, li_20, li_30, li_82, li_91, li_273, li_380, li_400, li_512, li_1000, li_2457, li_4000, nI_add, nI_1, nI_mul, nI_sub, shl_1, shl_1b]; with_reducible exact mn9b (by omega)))) (fun g_3 => ?_)
    refine Ok.wr (fun t13 w_4 => ?_)
    have hG_5 := hG.wrU w_4 (by have := find_pl g_3; omega) (ty_f0 g_3)
    exact Ok.ret ⟨5000 - (j + 1), by omega, hG_5, ⟨j + 1, nI_1 j, by omega, by omega, rfl⟩⟩
set_option maxHeartbeats 4000000 in
set_option maxRecDepth 100000 in
theorem gX3_turnTo {σ t : St} (hG : GC σ t) {x : Nat} (g_x : findsAt x = true) {y : Nat} (g_y : netAt y = true) : Ok (FX3_turnTo x y t) (fun r u => GC σ u ∧ (True)) := by
  unfold FX3_turnTo
  refine Ok.ck (by first | assumption | decide +kernel) (fun g_1 => ?_)
  refine Ok.ck (by first | assumption | decide +kernel) (fun g_2 => ?_)
  refine Ok.ck (by first | assumption | exact (finds_pl (by assumption)).1) (fun g_3 => ?_)
  refine Ok.bd _ (rX5_sameLines hG.tt (by first | assumption | decide +kernel) (by first | assumption | decide +kernel)) ?_
  rintro v2 _ ⟨rfl, hbv2, hxv2⟩
  refine Ok.ite (fun c_5 => ?_) (fun c_5 => ?_)
  · try simp (disch := omega) only [li_0, li_1, li_2, li_3, li_4, li_5, li_6, li_7, li_8, li_9, li_10, li_20, li_30, li_82, li_91, li_273, li_380, li_400, li_512, li_1000, li_2457, li_4000, nI_add, nI_1, nI_mul, nI_sub, shl_1, shl_1b, nI_leP, nI_ltP, nI_eqP, Nat.not_le, Nat.not_lt] at c_5
    refine Ok.ck (by first | assumption | exact (finds_pl (by assumption)).1) (fun g_6 => ?_)
    refine Ok.bd _ (gX5_copyFrom hG (by first | assumption | decide +kernel) (by first | assumption | decide +kernel)) ?_
    rintro _ t8 ⟨hG_7, hxv7⟩
    refine Ok.bd _ (gSX3_turnTo_22 hG_7 (by first | assumption | decide +kernel) (by show IsR 5001 _; first | with_reducible assumption | (simp (disch := omega) only [li_0, li_1, li_2, li_3, li_4, li_5, li_6, li_7, li_8, li_9, li_10, li_20, li_30, li_82, li_91, li_273, li_380, li_400, li_512, li_1000, li_2457, li_4000, nI_add, nI_1, nI_mul, nI_sub, shl_1, shl_1b, nI_or, nI_xor, nI_and]; with_reducible exact ⟨_, (by first | omega | exact or9 (by omega) (by omega) | exact xor9 (by omega) (by omega)), rfl⟩) | with_reducible exact ⟨_, (by first | omega | exact or9 (by omega) (by omega) | exact xor9 (by omega) (by omega)), rfl⟩ | exact IsR.mn (by first | with_reducible assumption | exact ⟨_, by omega, rfl⟩) (by first | with_reducible assumption | exact ⟨_, by omega, rfl⟩) | exact IsR.mx (by first | with_reducible assumption | exact ⟨_, by omega, rfl⟩) (by first | with_reducible assumption | exact ⟨_, by omega, rfl⟩) | with_reducible exact mn9 (by omega) | (simp (disch := omega) only [li_0, li_1, li_2, li_3, li_4, li_5, li_6, li_7, li_8, li_9, li_10, li_20, li_30, li_82, li_91, li_273, li_380, li_400, li_512, li_1000, li_2457, li_4000, nI_add, nI_1, nI_mul, nI_sub, shl_1, shl_1b]; with_reducible exact mn9b (by omega)))) ?_
    rintro e15 t16 ⟨hG_8, hxe15⟩
    exact Ok.ret ⟨hG_8, True.intro⟩
  · try simp (disch := omega) only [li_0, li_1, li_2, li_3, li_4, li_5, li_6, li_7, li_8, li_9, li_10, li_20, li_30, li_82, li_91, li_273, li_380, li_400, li_512, li_1000, li_2457, li_4000, nI_add, nI_1, nI_mul, nI_sub, shl_1, shl_1b, nI_leP, nI_ltP, nI_eqP, Nat.not_le, Nat.not_lt] at c_5
    exact Ok.ret ⟨hG, True.intro⟩
set_option maxHeartbeats 4000000 in
set_option maxRecDepth 100000 in
theorem gX4_remember {σ t : St} (hG : GC σ t) {a : Int32} (h_a : IsR 3 a) {x : Nat} (g_x : netAt x = true) : Ok (FX4_remember a x t) (fun r u => GC σ u ∧ (True)) := by
  obtain ⟨k_a, h_a, rfl⟩ := h_a
  unfold FX4_remember
  refine Ok.ck (by first | assumption | decide +kernel) (fun g_1 => ?_)
  refine Ok.rdT hG.tt ty_981 (by omega) (fun k_2 hk_2 ek_2 => ?_)
  refine Ok.ck (by first | (simp (disch := omega) only [li_0, li_1, li_2, li_3, li_4, li_5, li_6, li_7, li_8, li_9, li_10, li_20, li_30, li_82, li_91, li_273, li_380, li_400, li_512, li_1000, li_2457, li_4000, nI_add, nI_1, nI_mul, nI_sub, shl_1, shl_1b, nI_or, nI_xor, nI_and]; with_reducible exact inb_n (by first | omega | exact or9 (by omega) (by omega) | exact xor9 (by omega) (by omega)) (by omega)) | with_reducible exact inb_n (by omega) (by omega) | exact IsR.ib (by with_reducible assumption) (by decide) | decide) (fun g_3 => ?_)
  refine Ok.wr (fun t4 w_4 => ?_)
  have hG_5 := hG.wrT w_4 (by omega) (ty_a99 (inb_lt g_3)) (by first | with_reducible assumption | (simp (disch := omega) only [li_0, li_1, li_2, li_3, li_4, li_5, li_6, li_7, li_8, li_9, li_10, li_20, li_30, li_82, li_91, li_273, li_380, li_400, li_512, li_1000, li_2457, li_4000, nI_add, nI_1, nI_mul, nI_sub, shl_1, shl_1b, nI_or, nI_xor, nI_and]; with_reducible exact ⟨_, (by first | omega | exact or9 (by omega) (by omega) | exact xor9 (by omega) (by omega)), rfl⟩) | with_reducible exact ⟨_, (by first | omega | exact or9 (by omega) (by omega) | exact xor9 (by omega) (by omega)), rfl⟩ | exact IsR.mn (by first | with_reducible assumption | exact ⟨_, by omega, rfl⟩) (by first | with_reducible assumption | exact ⟨_, by omega, rfl⟩) | exact IsR.mx (by first | with_reducible assumption | exact ⟨_, by omega, rfl⟩) (by first | with_reducible assumption | exact ⟨_, by omega, rfl⟩) | with_reducible exact mn9 (by omega) | (simp (disch := omega) only [li_0, li_1, li_2, li_3, li_4, li_5, li_6, li_7, li_8, li_9, li_10, li_20, li_30, li_82, li_91, li_273, li_380, li_400, li_512, li_1000, li_2457, li_4000, nI_add, nI_1, nI_mul, nI_sub, shl_1, shl_1b]; with_reducible exact mn9b (by omega)))
  refine Ok.rdT hG_5.tt ty_981 (by omega) (fun k_6 hk_6 ek_6 => ?_)
  refine Ok.ck (by first | (simp (disch := omega) only [li_0, li_1, li_2, li_3, li_4, li_5, li_6, li_7, li_8, li_9, li_10, li_20, li_30, li_82, li_91, li_273, li_380, li_400, li_512, li_1000, li_2457, li_4000, nI_add, nI_1, nI_mul, nI_sub, shl_1, shl_1b, nI_or, nI_xor, nI_and]; with_reducible exact inb_n (by first | omega | exact or9 (by omega) (by omega) | exact xor9 (by omega) (by omega)) (by omega)) | with_reducible exact inb_n (by omega) (by omega) | exact IsR.ib (by with_reducible assumption) (by decide) | decide) (fun g_7 => ?_)
  refine Ok.ck (by exact el_100 (by first | with_reducible assumption | (simp (disch := omega) only [li_0, li_1, li_2, li_3, li_4, li_5, li_6, li_7, li_8, li_9, li_10, li_20, li_30, li_82, li_91, li_273, li_380, li_400, li_512, li_1000, li_2457, li_4000, nI_add, nI_1, nI_mul, nI_sub, shl_1, shl_1b, nI_or, nI_xor, nI_and]; with_reducible exact ⟨_, (by first | omega | exact or9 (by omega) (by omega) | exact xor9 (by omega) (by omega)), rfl⟩) | with_reducible exact ⟨_, (by first | omega | exact or9 (by omega) (by omega) | exact xor9 (by omega) (by omega)), rfl⟩ | exact IsR.mn (by first | with_reducible assumption | exact ⟨_, by omega, rfl⟩) (by first | with_reducible assumption | exact ⟨_, by omega, rfl⟩) | exact IsR.mx (by first | with_reducible assumption | exact ⟨_, by omega, rfl⟩) (by first | with_reducible assumption | exact ⟨_, by omega, rfl⟩) | with_reducible exact mn9 (by omega) | (simp (disch := omega) only [li_0, li_1, li_2, li_3, li_4, li_5, li_6, li_7, li_8, li_9, li_10, li_20, li_30, li_82, li_91, li_273, li_380, li_400, li_512, li_1000, li_2457, li_4000, nI_add, nI_1, nI_mul, nI_sub, shl_1, shl_1b]; with_reducible exact mn9b (by omega)))) (fun g_8 => ?_)
  refine Ok.bd _ (gX5_copyFrom hG_5 (by first | assumption | decide +kernel) (by first | assumption | decide +kernel)) ?_
  rintro _ t11 ⟨hG_9, hxv10⟩
  refine Ok.rdT hG_9.tt ty_981 (by omega) (fun k_10 hk_10 ek_10 => ?_)
  refine Ok.wr (fun t15 w_11 => ?_)
  have hG_12 := hG_9.wrT w_11 (by omega) ty_981 (by simp (disch := omega) only [li_0, li_1, li_2, li_3, li_4, li_5, li_6, li_7, li_8, li_9, li_10, li_20, li_30, li_82, li_91, li_273, li_380, li_400, li_512, li_1000, li_2457, li_4000, nI_add, nI_1, nI_mul, nI_sub, shl_1, shl_1b]; exact ir10 (by omega))
  refine Ok.rdT hG_12.tt ty_980 (by omega) (fun k_13 hk_13 ek_13 => ?_)
  refine Ok.wr (fun t19 w_14 => ?_)
  have hG_15 := hG_12.wrT w_14 (by omega) ty_980 (by simp (disch := omega) only [li_0, li_1, li_2, li_3, li_4, li_5, li_6, li_7, li_8, li_9, li_10, li_20, li_30, li_82, li_91, li_273, li_380, li_400, li_512, li_1000, li_2457, li_4000, nI_add, nI_1, nI_mul, nI_sub, shl_1, shl_1b]; exact mn10 (by omega))
  exact Ok.ret ⟨hG_15, True.intro⟩
theorem gX4_takeBack {σ t : St} (hG : GC σ t) (h_ne : ¬ t 98 0 = nI 0) : Ok (FX4_takeBack t) (fun r u => GC σ u ∧ True) := by
  unfold FX4_takeBack
  refine Ok.rdT hG.tt ty_981 (by omega) (fun k hk ek => ?_)
  refine Ok.wr (fun t3 e3 => ?_)
  have e0 : nI k + 10 - 1 = nI (k + 10 - 1) := by
    rw [li_10, li_1, nI_add, nI_sub (by omega)]
  have h3 := hG.wrT e3 (by omega) ty_981 (by rw [e0]; exact ir10 (by omega))
  have e98 : t3 98 0 = t 98 0 := by subst e3; exact wr_x10
  refine Ok.rdT h3.tt ty_980 (by omega) (fun h hh eh => ?_)
  have h1 : 1 ≤ h := by
    rcases Nat.eq_zero_or_pos h with q | q
    · subst q
      rw [e98] at eh
      exact absurd eh h_ne
    · exact q
  refine Ok.wr (fun t7 e7 => ?_)
  have h7 := h3.wrT e7 (by omega) ty_980 ⟨h - 1, by omega, nI_sub (a := h) (b := 1) h1⟩
  refine Ok.rdT h7.tt ty_981 (by omega) (fun n hn en => ?_)
  refine Ok.ck (inb_n (by omega) (by omega)) (fun g1 => ?_)
  refine Ok.rdT h7.tt (ty_a99 (inb_lt g1)) (by omega) (fun s hs es => ?_)
  refine Ok.ck (inb_n (by omega) (by omega)) (fun g2 => ?_)
  refine Ok.ck (el_10 ⟨s, by omega, rfl⟩) (fun g3 => ?_)
  refine Ok.rdT h7.tt ty_981 (by omega) (fun n2 hn2 en2 => ?_)
  refine Ok.ck (inb_n (by omega) (by omega)) (fun g4 => ?_)
  refine Ok.ck (el_100 ⟨n2, by omega, rfl⟩) (fun g5 => ?_)
  refine Ok.bd _ (gX5_copyFrom h7 g3 g5) ?_
  rintro _ u ⟨hu, -⟩
  exact Ok.ret ⟨hu, True.intro⟩
end
