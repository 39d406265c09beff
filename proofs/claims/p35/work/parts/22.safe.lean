/-! safety of the class: nets (printed by wip/ext/g22.py) -/
theorem Ok.on {α : Type} {x : Option (α × St)} {f : Nat → Option (α × St)} {Q : α → St → Prop} (h : Ok x Q) : Ok (Option.elim none x f) Q := h
theorem Ok.os {α : Type} {x : Option (α × St)} {f : Nat → Option (α × St)} {v : Nat} {Q : α → St → Prop} (h : Ok (f v) Q) : Ok (Option.elim (some v) x f) Q := h
theorem Ok.el {α β γ : Type} {x : β → Option (α × St)} {f : γ → Option (α × St)} {v : β} {Q : α → St → Prop} (h : Ok (x v) Q) : Ok (Sum.elim x f (.inl v)) Q := h
theorem Ok.er {α β γ : Type} {x : β → Option (α × St)} {f : γ → Option (α × St)} {v : γ} {Q : α → St → Prop} (h : Ok (f v) Q) : Ok (Sum.elim x f (.inr v)) Q := h
theorem ty_11 : ty 1 1 = 401 := by decide +kernel
theorem ty_31 : ty 3 1 = 257 := by decide +kernel
theorem ty_980 : ty 98 0 = 11 := by decide +kernel
theorem ty_981 : ty 98 1 = 10 := by decide +kernel
theorem ty_a95 {i : Nat} (h : i < 9) : ty 95 i = 9 := by
  show (if i < 9 then 9 else 0) = 9
  rw [if_pos h]
theorem ty_a99 {i : Nat} (h : i < 10) : ty 99 i = 3 := by
  show (if i < 10 then 3 else 0) = 3
  rw [if_pos h]
abbrev arrX (a : Nat) : Prop := a = 85 ∨ a = 86
theorem ty_arr {a i : Nat} (h : arrX a) : ty a i = 0 := by rcases h with rfl | rfl <;> rfl
theorem has_of {a : Int32} {k : Nat} (h1 : ¬ a < nI 0) (h2 : ¬ nI k ≤ a) (hk : k < 10) : IsR 9 a := by
  obtain ⟨j, hj, rfl⟩ := nI_of (x := a) h1
  rw [nI_leP (by omega) (by omega)] at h2
  exact ⟨j, by omega, rfl⟩
theorem mn9 {k : Nat} (h : k < 1000) : IsR 10 (mnI 9 (nI k)) := by
  show IsR 10 (if nI k < 9 then nI k else 9)
  split
  · rename_i c
    rw [li_9, nI_ltP (by omega) (by omega)] at c
    exact ⟨k, by omega, rfl⟩
  · exact ⟨9, by omega, rfl⟩
theorem mn9b {k : Nat} (h : k < 1000) : IsR 10 (mnI (nI 9) (nI k)) := mn9 h
theorem nz_of {x : Int32} (h : ¬ x = 0) : nz x = true := by unfold nz; simp [h]
theorem ty_u4 {i : Nat} : ty 4 i = 0 := rfl
theorem ty_u7 {i : Nat} : ty 7 i = 0 := rfl
theorem ty_u85 {i : Nat} : ty 85 i = 0 := rfl
theorem ty_u86 {i : Nat} : ty 86 i = 0 := rfl
theorem ty_u87 {i : Nat} : ty 87 i = 0 := rfl
theorem ty_u88 {i : Nat} : ty 88 i = 0 := rfl
theorem ty_u89 {i : Nat} : ty 89 i = 0 := rfl
theorem ty_u92 {i : Nat} : ty 92 i = 0 := rfl
theorem ty_u96 {i : Nat} : ty 96 i = 0 := rfl
theorem ty_u97 {i : Nat} : ty 97 i = 0 := rfl
set_option maxHeartbeats 4000000 in
set_option maxRecDepth 100000 in
theorem rJ6_bitCount_0f7a4 {t : St} (hT : TY t) {a : Int32} : Ok (FJ6_bitCount_0f7a4 a t) (fun r u => t = u ∧ (True)) := by
  unfold FJ6_bitCount_0f7a4
  exact Ok.ret ⟨rfl, True.intro⟩
set_option maxHeartbeats 4000000 in
set_option maxRecDepth 100000 in
theorem rX5_has {t : St} (hT : TY t) {x : Nat} (g_x : netAt x = true) {a : Int32} : Ok (FX5_has x a t) (fun r u => t = u ∧ (isb r = true ∧ (r = 0 ∨ IsR 9 a))) := by
  unfold FX5_has
  refine Ok.ck (by first | assumption | decide +kernel) (fun g_1 => ?_)
  refine Ok.ite (fun c_2 => ?_) (fun c_2 => ?_)
  · try simp (disch := omega) only [li_0, li_1, li_2, li_3, li_4, li_5, li_6, li_7, li_8, li_9, li_10, li_20, li_30, li_82, li_91, li_273, li_380, li_400, li_512, li_1000, li_2457, li_4000, nI_add, nI_1, nI_mul, nI_sub, shl_1, shl_1b, nI_leP, nI_ltP, nI_eqP, Nat.not_le, Nat.not_lt] at c_2
    exact Ok.ret ⟨rfl, ⟨(by first | rfl | assumption | decide), (by first | exact Or.inl rfl | exact Or.inr (has_of (by assumption) (by assumption) (by omega)))⟩⟩
  · try simp (disch := omega) only [li_0, li_1, li_2, li_3, li_4, li_5, li_6, li_7, li_8, li_9, li_10, li_20, li_30, li_82, li_91, li_273, li_380, li_400, li_512, li_1000, li_2457, li_4000, nI_add, nI_1, nI_mul, nI_sub, shl_1, shl_1b, nI_leP, nI_ltP, nI_eqP, Nat.not_le, Nat.not_lt] at c_2
    refine Ok.rdT hT (ty_n0 g_1) (by omega) (fun k_3 hk_3 ek_3 => ?_)
    refine Ok.ite (fun c_4 => ?_) (fun c_4 => ?_)
    · try simp (disch := omega) only [li_0, li_1, li_2, li_3, li_4, li_5, li_6, li_7, li_8, li_9, li_10, li_20, li_30, li_82, li_91, li_273, li_380, li_400, li_512, li_1000, li_2457, li_4000, nI_add, nI_1, nI_mul, nI_sub, shl_1, shl_1b, nI_leP, nI_ltP, nI_eqP, Nat.not_le, Nat.not_lt] at c_4
      exact Ok.ret ⟨rfl, ⟨(by first | rfl | assumption | decide), (by first | exact Or.inl rfl | exact Or.inr (has_of (by assumption) (by assumption) (by omega)))⟩⟩
    · try simp (disch := omega) only [li_0, li_1, li_2, li_3, li_4, li_5, li_6, li_7, li_8, li_9, li_10, li_20, li_30, li_82, li_91, li_273, li_380, li_400, li_512, li_1000, li_2457, li_4000, nI_add, nI_1, nI_mul, nI_sub, shl_1, shl_1b, nI_leP, nI_ltP, nI_eqP, Nat.not_le, Nat.not_lt] at c_4
      exact Ok.ret ⟨rfl, ⟨(by first | rfl | assumption | decide), (by first | exact Or.inl rfl | exact Or.inr (has_of (by assumption) (by assumption) (by omega)))⟩⟩
set_option maxHeartbeats 4000000 in
set_option maxRecDepth 100000 in
theorem rX5_hasTwo {t : St} (hT : TY t) {x : Nat} (g_x : netAt x = true) {a : Int32} {b : Int32} : Ok (FX5_hasTwo x a b t) (fun r u => t = u ∧ (isb r = true ∧ (r = 0 ∨ (IsR 9 a ∧ IsR 9 b)))) := by
  unfold FX5_hasTwo
  refine Ok.ck (by first | assumption | decide +kernel) (fun g_1 => ?_)
  refine Ok.bd _ (rX5_has hT (by first | assumption | decide +kernel)) ?_
  rintro v1 _ ⟨rfl, hbv1, hxv1⟩
  refine Ok.ite (fun c_3 => ?_) (fun c_3 => ?_)
  · skip
    exact Ok.ret ⟨rfl, ⟨(by first | rfl | assumption | decide), (by first | exact True.intro | exact Or.inl rfl | exact Or.inr (by first | assumption | exact ⟨_, by omega, rfl⟩ | exact ⟨⟨_, by omega, rfl⟩, ⟨_, by omega, rfl⟩⟩))⟩⟩
  · obtain ⟨khv1, hkhv1, rfl⟩ := hxv1.resolve_left c_3
    refine Ok.bd _ (rX5_has hT (by first | assumption | decide +kernel)) ?_
    rintro v6 _ ⟨rfl, hbv6, hxv6⟩
    refine Ok.ite (fun c_5 => ?_) (fun c_5 => ?_)
    · skip
      exact Ok.ret ⟨rfl, ⟨(by first | rfl | assumption | decide), (by first | exact True.intro | exact Or.inl rfl | exact Or.inr (by first | assumption | exact ⟨_, by omega, rfl⟩ | exact ⟨⟨_, by omega, rfl⟩, ⟨_, by omega, rfl⟩⟩))⟩⟩
    · obtain ⟨khv6, hkhv6, rfl⟩ := hxv6.resolve_left c_5
      refine Ok.ite (fun c_6 => ?_) (fun c_6 => ?_)
      · try simp (disch := omega) only [li_0, li_1, li_2, li_3, li_4, li_5, li_6, li_7, li_8, li_9, li_10, li_20, li_30, li_82, li_91, li_273, li_380, li_400, li_512, li_1000, li_2457, li_4000, nI_add, nI_1, nI_mul, nI_sub, shl_1, shl_1b, nI_leP, nI_ltP, nI_eqP, Nat.not_le, Nat.not_lt] at c_6
        exact Ok.ret ⟨rfl, ⟨(by first | rfl | assumption | decide), (by first | exact True.intro | exact Or.inl rfl | exact Or.inr (by first | assumption | exact ⟨_, by omega, rfl⟩ | exact ⟨⟨_, by omega, rfl⟩, ⟨_, by omega, rfl⟩⟩))⟩⟩
      · try simp (disch := omega) only [li_0, li_1, li_2, li_3, li_4, li_5, li_6, li_7, li_8, li_9, li_10, li_20, li_30, li_82, li_91, li_273, li_380, li_400, li_512, li_1000, li_2457, li_4000, nI_add, nI_1, nI_mul, nI_sub, shl_1, shl_1b, nI_leP, nI_ltP, nI_eqP, Nat.not_le, Nat.not_lt] at c_6
        exact Ok.ret ⟨rfl, ⟨(by first | rfl | assumption | decide), (by first | exact True.intro | exact Or.inl rfl | exact Or.inr (by first | assumption | exact ⟨_, by omega, rfl⟩ | exact ⟨⟨_, by omega, rfl⟩, ⟨_, by omega, rfl⟩⟩))⟩⟩
theorem rX5_allBits {t : St} (hT : TY t) {x : Nat} (g_x : netAt x = true) : Ok (FX5_allBits x t) (fun r u => t = u ∧ (IsR 512 r)) := by
  unfold FX5_allBits
  refine Ok.ck g_x (fun g => ?_)
  refine Ok.rdT hT (ty_n0 g_x) (by omega) (fun k hk e => ?_)
  refine Ok.ret ⟨rfl, 2 ^ k - 1, ?_, ?_⟩
  · have := pow9 (k := k) (by omega)
    omega
  · have h1 : 1 ≤ 2 ^ k := Nat.one_le_two_pow
    rw [shl_1 (by omega)]
    exact nI_sub h1
set_option maxHeartbeats 4000000 in
set_option maxRecDepth 100000 in
theorem rX5_lineCount {t : St} (hT : TY t) {x : Nat} (g_x : netAt x = true) {a : Int32} (h_a : IsR 9 a) : Ok (FX5_lineCount x a t) (fun r u => t = u ∧ (True)) := by
  obtain ⟨k_a, h_a, rfl⟩ := h_a
  unfold FX5_lineCount
  refine Ok.ck (by first | assumption | decide +kernel) (fun g_1 => ?_)
  refine Ok.ck (by first | (simp (disch := omega) only [li_0, li_1, li_2, li_3, li_4, li_5, li_6, li_7, li_8, li_9, li_10, li_20, li_30, li_82, li_91, li_273, li_380, li_400, li_512, li_1000, li_2457, li_4000, nI_add, nI_1, nI_mul, nI_sub, shl_1, shl_1b, nI_or, nI_xor, nI_and]; with_reducible exact inb_n (by first | omega | exact or9 (by omega) (by omega) | exact xor9 (by omega) (by omega)) (by omega)) | with_reducible exact inb_n (by omega) (by omega) | exact IsR.ib (by with_reducible assumption) (by decide) | decide) (fun g_2 => ?_)
  refine Ok.rd (fun v2 hv2 => ?_)
  refine Ok.bd _ (rJ6_bitCount_0f7a4 hT) ?_
  rintro v4 _ ⟨rfl, hxv4⟩
  exact Ok.ret ⟨rfl, True.intro⟩
set_option maxHeartbeats 4000000 in
set_option maxRecDepth 100000 in
theorem rX5_weightOf {t : St} (hT : TY t) {x : Nat} (g_x : netAt x = true) {a : Int32} (h_a : IsR 9 a) {b : Int32} (h_b : IsR 9 b) : Ok (FX5_weightOf x a b t) (fun r u => t = u ∧ (IsR 10 r)) := by
  obtain ⟨k_a, h_a, rfl⟩ := h_a
  obtain ⟨k_b, h_b, rfl⟩ := h_b
  unfold FX5_weightOf
  refine Ok.ck (by first | assumption | decide +kernel) (fun g_1 => ?_)
  refine Ok.ck (by first | (simp (disch := omega) only [li_0, li_1, li_2, li_3, li_4, li_5, li_6, li_7, li_8, li_9, li_10, li_20, li_30, li_82, li_91, li_273, li_380, li_400, li_512, li_1000, li_2457, li_4000, nI_add, nI_1, nI_mul, nI_sub, shl_1, shl_1b, nI_or, nI_xor, nI_and]; with_reducible exact inb_n (by first | omega | exact or9 (by omega) (by omega) | exact xor9 (by omega) (by omega)) (by omega)) | with_reducible exact inb_n (by omega) (by omega) | exact IsR.ib (by with_reducible assumption) (by decide) | decide) (fun g_2 => ?_)
  refine Ok.rdT hT (ty_wt g_1 (inb_lt g_2)) (by omega) (fun k_3 hk_3 ek_3 => ?_)
  exact Ok.ret ⟨rfl, (by show IsR 10 _; first | with_reducible assumption | (simp (disch := omega) only [li_0, li_1, li_2, li_3, li_4, li_5, li_6, li_7, li_8, li_9, li_10, li_20, li_30, li_82, li_91, li_273, li_380, li_400, li_512, li_1000, li_2457, li_4000, nI_add, nI_1, nI_mul, nI_sub, shl_1, shl_1b, nI_or, nI_xor, nI_and]; with_reducible exact ⟨_, (by first | omega | exact or9 (by omega) (by omega) | exact xor9 (by omega) (by omega)), rfl⟩) | with_reducible exact ⟨_, (by first | omega | exact or9 (by omega) (by omega) | exact xor9 (by omega) (by omega)), rfl⟩ | exact IsR.mn (by first | with_reducible assumption | exact ⟨_, by omega, rfl⟩) (by first | with_reducible assumption | exact ⟨_, by omega, rfl⟩) | exact IsR.mx (by first | with_reducible assumption | exact ⟨_, by omega, rfl⟩) (by first | with_reducible assumption | exact ⟨_, by omega, rfl⟩) | with_reducible exact mn9 (by omega) | (simp (disch := omega) only [li_0, li_1, li_2, li_3, li_4, li_5, li_6, li_7, li_8, li_9, li_10, li_20, li_30, li_82, li_91, li_273, li_380, li_400, li_512, li_1000, li_2457, li_4000, nI_add, nI_1, nI_mul, nI_sub, shl_1, shl_1b]; with_reducible exact mn9b (by omega)))⟩
set_option maxHeartbeats 4000000 in
set_option maxRecDepth 100000 in
theorem rSX5_placeOf_2 {t : St} (hT : TY t) {x0 : Nat} (g_x0 : netAt x0 = true) {w1 : Int32} {a0 : Int32} (h_a0 : IsR 5001 a0) : Ok (wh (SX5_placeOf_2 x0 w1) a0 t) (fun r u => t = u ∧ (Sum.elim (fun v => True) (fun e => True) r)) := by
  obtain ⟨j0, hj0, rfl⟩ := h_a0
  refine Ok.loop (fun k c s => t = s ∧ (∃ j, c = nI j ∧ j ≤ 5000 ∧ 0 ≤ j ∧ k = 5000 - j)) ?_ (5000 - j0) _ _ ⟨rfl, ⟨j0, rfl, by omega, by omega, rfl⟩⟩
  clear hj0
  intro k c s hI
  obtain ⟨rfl, ⟨j, ej, hj, hlo, rfl⟩⟩ := hI
  subst ej
  unfold SX5_placeOf_2
  refine Ok.rdT hT (ty_n0 g_x0) (by omega) (fun k_1 hk_1 ek_1 => ?_)
  refine Ok.ite (fun c_2 => ?_) (fun c_2 => ?_)
  · try simp (disch := omega) only [li_0, li_1, li_2, li_3, li_4, li_5, li_6, li_7, li_8, li_9, li_10, li_20, li_30, li_82, li_91, li_273, li_380, li_400, li_512, li_1000, li_2457, li_4000, nI_add, nI_1, nI_mul, nI_sub, shl_1, shl_1b, nI_leP, nI_ltP, nI_eqP, Nat.not_le, Nat.not_lt] at c_2
    exact Ok.ret ⟨rfl, True.intro⟩
  · try simp (disch := omega) only [li_0, li_1, li_2, li_3, li_4, li_5, li_6, li_7, li_8, li_9, li_10, li_20, li_30, li_82, li_91, li_273, li_380, li_400, li_512, li_1000, li_2457, li_4000, nI_add, nI_1, nI_mul, nI_sub, shl_1, shl_1b, nI_leP, nI_ltP, nI_eqP, Nat.not_le, Nat.not_lt] at c_2
    refine Ok.ck (by first | (simp (disch := omega) only [li_0, li_1, li_2, li_3, li_4, li_5, li_6, li_7, li_8, li_9, li_10, li_20, li_30, li_82, li_91, li_273, li_380, li_400, li_512, li_1000, li_2457, li_4000, nI_add, nI_1, nI_mul, nI_sub, shl_1, shl_1b, nI_or, nI_xor, nI_and]; with_reducible exact inb_n (by first | omega | exact or9 (by omega) (by omega) | exact xor9 (by omega) (by omega)) (by omega)) | with_reducible exact inb_n (by omega) (by omega) | exact IsR.ib (by with_reducible assumption) (by decide) | decide) (fun g_3 => ?_)
    refine Ok.rdT hT (ty_od g_x0 (inb_lt g_3)) (by omega) (fun k_4 hk_4 ek_4 => ?_)
    refine Ok.ite (fun c_5 => ?_) (fun c_5 => ?_)
    · try simp (disch := omega) only [li_0, li_1, li_2, li_3, li_4, li_5, li_6, li_7, li_8, li_9, li_10, li_20, li_30, li_82, li_91, li_273, li_380, li_400, li_512, li_1000, li_2457, li_4000, nI_add, nI_1, nI_mul, nI_sub, shl_1, shl_1b, nI_leP, nI_ltP, nI_eqP, Nat.not_le, Nat.not_lt] at c_5
      exact Ok.ret ⟨rfl, True.intro⟩
    · try simp (disch := omega) only [li_0, li_1, li_2, li_3, li_4, li_5, li_6, li_7, li_8, li_9, li_10, li_20, li_30, li_82, li_91, li_273, li_380, li_400, li_512, li_1000, li_2457, li_4000, nI_add, nI_1, nI_mul, nI_sub, shl_1, shl_1b, nI_leP, nI_ltP, nI_eqP, Nat.not_le, Nat.not_lt] at c_5
      exact Ok.ret ⟨5000 - (j + 1), by omega, rfl, ⟨j + 1, nI_1 j, by omega, by omega, rfl⟩⟩
set_option maxHeartbeats 4000000 in
set_option maxRecDepth 100000 in
theorem rX5_placeOf {t : St} (hT : TY t) {x : Nat} (g_x : netAt x = true) {a : Int32} : Ok (FX5_placeOf x a t) (fun r u => t = u ∧ (True)) := by
  unfold FX5_placeOf
  refine Ok.ck (by first | assumption | decide +kernel) (fun g_1 => ?_)
  refine Ok.bd _ (rSX5_placeOf_2 hT (by first | assumption | decide +kernel) (by show IsR 5001 _; first | with_reducible assumption | (simp (disch := omega) only [li_0, li_1, li_2, li_3, li_4, li_5, li_6, li_7, li_8, li_9, li_10, li_20, li_30, li_82, li_91, li_273, li_380, li_400, li_512, li_1000, li_2457, li_4000, nI_add, nI_1, nI_mul, nI_sub, shl_1, shl_1b, nI_or, nI_xor, nI_and]; with_reducible exact ⟨_, (by first | omega | exact or9 (by omega) (by omega) | exact xor9 (by omega) (by omega)), rfl⟩) | with_reducible exact ⟨_, (by first | omega | exact or9 (by omega) (by omega) | exact xor9 (by omega) (by omega)), rfl⟩ | exact IsR.mn (by first | with_reducible assumption | exact ⟨_, by omega, rfl⟩) (by first | with_reducible assumption | exact ⟨_, by omega, rfl⟩) | exact IsR.mx (by first | with_reducible assumption | exact ⟨_, by omega, rfl⟩) (by first | with_reducible assumption | exact ⟨_, by omega, rfl⟩) | with_reducible exact mn9 (by omega) | (simp (disch := omega) only [li_0, li_1, li_2, li_3, li_4, li_5, li_6, li_7, li_8, li_9, li_10, li_20, li_30, li_82, li_91, li_273, li_380, li_400, li_512, li_1000, li_2457, li_4000, nI_add, nI_1, nI_mul, nI_sub, shl_1, shl_1b]; with_reducible exact mn9b (by omega)))) ?_
  rintro (e9 | e9) _ ⟨rfl, hxe9⟩
  · refine Ok.el ?_
    exact Ok.ret ⟨rfl, True.intro⟩
  · refine Ok.er ?_
    exact Ok.ret ⟨rfl, True.intro⟩
set_option maxHeartbeats 4000000 in
set_option maxRecDepth 100000 in
theorem rSX5_aheadOf_4 {t : St} (hT : TY t) {x0 : Nat} (g_x0 : netAt x0 = true) {w1 : Int32} (h_w1 : IsR 10 w1) {a0 : Int32} {a1 : Int32} (h_a1 : IsR 5001 a1) : Ok (wh (SX5_aheadOf_4 x0 w1) (a0, a1) t) (fun r u => t = u ∧ (True)) := by
  obtain ⟨j0, hj0, rfl⟩ := h_a1
  refine Ok.loop (fun k c s => t = s ∧ (∃ j, c.2 = nI j ∧ j ≤ 5000 ∧ 0 ≤ j ∧ k = 5000 - j)) ?_ (5000 - j0) _ _ ⟨rfl, ⟨j0, rfl, by omega, by omega, rfl⟩⟩
  obtain ⟨k_w1, h_w1, rfl⟩ := h_w1
  clear hj0
  intro k c s hI
  obtain ⟨rfl, ⟨j, ej, hj, hlo, rfl⟩⟩ := hI
  obtain ⟨c0, c1⟩ := c
  dsimp only at ej
  subst ej
  unfold SX5_aheadOf_4
  dsimp only
  refine Ok.ite (fun c_1 => ?_) (fun c_1 => ?_)
  · try simp (disch := omega) only [li_0, li_1, li_2, li_3, li_4, li_5, li_6, li_7, li_8, li_9, li_10, li_20, li_30, li_82, li_91, li_273, li_380, li_400, li_512, li_1000, li_2457, li_4000, nI_add, nI_1, nI_mul, nI_sub, shl_1, shl_1b, nI_leP, nI_ltP, nI_eqP, Nat.not_le, Nat.not_lt] at c_1
    exact Ok.ret ⟨rfl, True.intro⟩
  · try simp (disch := omega) only [li_0, li_1, li_2, li_3, li_4, li_5, li_6, li_7, li_8, li_9, li_10, li_20, li_30, li_82, li_91, li_273, li_380, li_400, li_512, li_1000, li_2457, li_4000, nI_add, nI_1, nI_mul, nI_sub, shl_1, shl_1b, nI_leP, nI_ltP, nI_eqP, Nat.not_le, Nat.not_lt] at c_1
    refine Ok.ck (by first | (simp (disch := omega) only [li_0, li_1, li_2, li_3, li_4, li_5, li_6, li_7, li_8, li_9, li_10, li_20, li_30, li_82, li_91, li_273, li_380, li_400, li_512, li_1000, li_2457, li_4000, nI_add, nI_1, nI_mul, nI_sub, shl_1, shl_1b, nI_or, nI_xor, nI_and]; with_reducible exact inb_n (by first | omega | exact or9 (by omega) (by omega) | exact xor9 (by omega) (by omega)) (by omega)) | with_reducible exact inb_n (by omega) (by omega) | exact IsR.ib (by with_reducible assumption) (by decide) | decide) (fun g_2 => ?_)
    refine Ok.rdT hT (ty_od g_x0 (inb_lt g_2)) (by omega) (fun k_3 hk_3 ek_3 => ?_)
    exact Ok.ret ⟨5000 - (j + 1), by omega, rfl, ⟨j + 1, nI_1 j, by omega, by omega, rfl⟩⟩
set_option maxHeartbeats 4000000 in
set_option maxRecDepth 100000 in
theorem rX5_aheadOf {t : St} (hT : TY t) {x : Nat} (g_x : netAt x = true) {a : Int32} (h_a : IsR 10 a) : Ok (FX5_aheadOf x a t) (fun r u => t = u ∧ (True)) := by
  obtain ⟨k_a, h_a, rfl⟩ := h_a
  unfold FX5_aheadOf
  refine Ok.ck (by first | assumption | decide +kernel) (fun g_1 => ?_)
  refine Ok.bd _ (rSX5_aheadOf_4 hT (by first | assumption | decide +kernel) (by first | with_reducible assumption | (simp (disch := omega) only [li_0, li_1, li_2, li_3, li_4, li_5, li_6, li_7, li_8, li_9, li_10, li_20, li_30, li_82, li_91, li_273, li_380, li_400, li_512, li_1000, li_2457, li_4000, nI_add, nI_1, nI_mul, nI_sub, shl_1, shl_1b, nI_or, nI_xor, nI_and]; with_reducible exact ⟨_, (by first | omega | exact or9 (by omega) (by omega) | exact xor9 (by omega) (by omega)), rfl⟩) | with_reducible exact ⟨_, (by first | omega | exact or9 (by omega) (by omega) | exact xor9 (by omega) (by omega)), rfl⟩ | exact IsR.mn (by first | with_reducible assumption | exact ⟨_, by omega, rfl⟩) (by first | with_reducible assumption | exact ⟨_, by omega, rfl⟩) | exact IsR.mx (by first | with_reducible assumption | exact ⟨_, by omega, rfl⟩) (by first | with_reducible assumption | exact ⟨_, by omega, rfl⟩) | with_reducible exact mn9 (by omega) | (simp (disch := omega) only [li_0, li_1, li_2, li_3, li_4, li_5, li_6, li_7, li_8, li_9, li_10, li_20, li_30, li_82, li_91, li_273, li_380, li_400, li_512, li_1000, li_2457, li_4000, nI_add, nI_1, nI_mul, nI_sub, shl_1, shl_1b]; with_reducible exact mn9b (by omega))) (by show IsR 5001 _; first | with_reducible assumption | (simp (disch := omega) only [li_0, li_1, li_2, li_3, li_4, li_5, li_6, li_7, li_8, li_9, li_10, li_20, li_30, li_82, li_91, li_273, li_380, li_400, li_512, li_1000, li_2457, li_4000, nI_add, nI_1, nI_mul, nI_sub, shl_1, shl_1b, nI_or, nI_xor, nI_and]; with_reducible exact ⟨_, (by first | omega | exact or9 (by omega) (by omega) | exact xor9 (by omega) (by omega)), rfl⟩) | with_reducible exact ⟨_, (by first | omega | exact or9 (by omega) (by omega) | exact xor9 (by omega) (by omega)), rfl⟩ | exact IsR.mn (by first | with_reducible assumption | exact ⟨_, by omega, rfl⟩) (by first | with_reducible assumption | exact ⟨_, by omega, rfl⟩) | exact IsR.mx (by first | with_reducible assumption | exact ⟨_, by omega, rfl⟩) (by first | with_reducible assumption | exact ⟨_, by omega, rfl⟩) | with_reducible exact mn9 (by omega) | (simp (disch := omega) only [li_0, li_1, li_2, li_3, li_4, li_5, li_6, li_7, li_8, li_9, li_10, li_20, li_30, li_82, li_91, li_273, li_380, li_400, li_512, li_1000, li_2457, li_4000, nI_add, nI_1, nI_mul, nI_sub, shl_1, shl_1b]; with_reducible exact mn9b (by omega)))) ?_
  rintro e5 _ ⟨rfl, hxe5⟩
  exact Ok.ret ⟨rfl, True.intro⟩
set_option maxHeartbeats 4000000 in
set_option maxRecDepth 100000 in
theorem rSX5_placesUnlike_4 {t : St} (hT : TY t) {x0 : Nat} (g_x0 : netAt x0 = true) {x1 : Nat} (g_x1 : netAt x1 = true) {a0 : Int32} {a1 : Int32} (h_a1 : IsR 5001 a1) : Ok (wh (SX5_placesUnlike_4 x0 x1) (a0, a1) t) (fun r u => t = u ∧ (True)) := by
  obtain ⟨j0, hj0, rfl⟩ := h_a1
  refine Ok.loop (fun k c s => t = s ∧ (∃ j, c.2 = nI j ∧ j ≤ 5000 ∧ 0 ≤ j ∧ k = 5000 - j)) ?_ (5000 - j0) _ _ ⟨rfl, ⟨j0, rfl, by omega, by omega, rfl⟩⟩
  clear hj0
  intro k c s hI
  obtain ⟨rfl, ⟨j, ej, hj, hlo, rfl⟩⟩ := hI
  obtain ⟨c0, c1⟩ := c
  dsimp only at ej
  subst ej
  unfold SX5_placesUnlike_4
  dsimp only
  refine Ok.rdT hT (ty_n0 g_x0) (by omega) (fun k_1 hk_1 ek_1 => ?_)
  refine Ok.ite (fun c_2 => ?_) (fun c_2 => ?_)
  · try simp (disch := omega) only [li_0, li_1, li_2, li_3, li_4, li_5, li_6, li_7, li_8, li_9, li_10, li_20, li_30, li_82, li_91, li_273, li_380, li_400, li_512, li_1000, li_2457, li_4000, nI_add, nI_1, nI_mul, nI_sub, shl_1, shl_1b, nI_leP, nI_ltP, nI_eqP, Nat.not_le, Nat.not_lt] at c_2
    exact Ok.ret ⟨rfl, True.intro⟩
  · try simp (disch := omega) only [li_0, li_1, li_2, li_3, li_4, li_5, li_6, li_7, li_8, li_9, li_10, li_20, li_30, li_82, li_91, li_273, li_380, li_400, li_512, li_1000, li_2457, li_4000, nI_add, nI_1, nI_mul, nI_sub, shl_1, shl_1b, nI_leP, nI_ltP, nI_eqP, Nat.not_le, Nat.not_lt] at c_2
    refine Ok.ck (by first | (simp (disch := omega) only [li_0, li_1, li_2, li_3, li_4, li_5, li_6, li_7, li_8, li_9, li_10, li_20, li_30, li_82, li_91, li_273, li_380, li_400, li_512, li_1000, li_2457, li_4000, nI_add, nI_1, nI_mul, nI_sub, shl_1, shl_1b, nI_or, nI_xor, nI_and]; with_reducible exact inb_n (by first | omega | exact or9 (by omega) (by omega) | exact xor9 (by omega) (by omega)) (by omega)) | with_reducible exact inb_n (by omega) (by omega) | exact IsR.ib (by with_reducible assumption) (by decide) | decide) (fun g_3 => ?_)
    refine Ok.rdT hT (ty_od g_x0 (inb_lt g_3)) (by omega) (fun k_4 hk_4 ek_4 => ?_)
    refine Ok.ck (by first | (simp (disch := omega) only [li_0, li_1, li_2, li_3, li_4, li_5, li_6, li_7, li_8, li_9, li_10, li_20, li_30, li_82, li_91, li_273, li_380, li_400, li_512, li_1000, li_2457, li_4000, nI_add, nI_1, nI_mul, nI_sub, shl_1, shl_1b, nI_or, nI_xor, nI_and]; with_reducible exact inb_n (by first | omega | exact or9 (by omega) (by omega) | exact xor9 (by omega) (by omega)) (by omega)) | with_reducible exact inb_n (by omega) (by omega) | exact IsR.ib (by with_reducible assumption) (by decide) | decide) (fun g_5 => ?_)
    refine Ok.rdT hT (ty_od g_x1 (inb_lt g_5)) (by omega) (fun k_6 hk_6 ek_6 => ?_)
    refine Ok.bd (fun (v11 : Int32) t12 => t = t12 ∧ (True)) ?_ ?_
    · refine Ok.ite (fun c_7 => ?_) (fun c_7 => ?_)
      · try simp (disch := omega) only [li_0, li_1, li_2, li_3, li_4, li_5, li_6, li_7, li_8, li_9, li_10, li_20, li_30, li_82, li_91, li_273, li_380, li_400, li_512, li_1000, li_2457, li_4000, nI_add, nI_1, nI_mul, nI_sub, shl_1, shl_1b, nI_leP, nI_ltP, nI_eqP, Nat.not_le, Nat.not_lt] at c_7
        exact Ok.ret ⟨rfl, True.intro⟩
      · try simp (disch := omega) only [li_0, li_1, li_2, li_3, li_4, li_5, li_6, li_7, li_8, li_9, li_10, li_20, li_30, li_82, li_91, li_273, li_380, li_400, li_512, li_1000, li_2457, li_4000, nI_add, nI_1, nI_mul, nI_sub, shl_1, shl_1b, nI_leP, nI_ltP, nI_eqP, Nat.not_le, Nat.not_lt] at c_7
        exact Ok.ret ⟨rfl, True.intro⟩
    · intro v11 t12 hx
      obtain ⟨rfl, hxv11⟩ := hx
      exact Ok.ret ⟨5000 - (j + 1), by omega, rfl, ⟨j + 1, nI_1 j, by omega, by omega, rfl⟩⟩
set_option maxHeartbeats 4000000 in
set_option maxRecDepth 100000 in
theorem rX5_placesUnlike {t : St} (hT : TY t) {x : Nat} (g_x : netAt x = true) {y : Nat} (g_y : netAt y = true) : Ok (FX5_placesUnlike x y t) (fun r u => t = u ∧ (True)) := by
  unfold FX5_placesUnlike
  refine Ok.ck (by first | assumption | decide +kernel) (fun g_1 => ?_)
  refine Ok.ck (by first | assumption | decide +kernel) (fun g_2 => ?_)
  refine Ok.bd _ (rSX5_placesUnlike_4 hT (by first | assumption | decide +kernel) (by first | assumption | decide +kernel) (by show IsR 5001 _; first | with_reducible assumption | (simp (disch := omega) only [li_0, li_1, li_2, li_3, li_4, li_5, li_6, li_7, li_8, li_9, li_10, li_20, li_30, li_82, li_91, li_273, li_380, li_400, li_512, li_1000, li_2457, li_4000, nI_add, nI_1, nI_mul, nI_sub, shl_1, shl_1b, nI_or, nI_xor, nI_and]; with_reducible exact ⟨_, (by first | omega | exact or9 (by omega) (by omega) | exact xor9 (by omega) (by omega)), rfl⟩) | with_reducible exact ⟨_, (by first | omega | exact or9 (by omega) (by omega) | exact xor9 (by omega) (by omega)), rfl⟩ | exact IsR.mn (by first | with_reducible assumption | exact ⟨_, by omega, rfl⟩) (by first | with_reducible assumption | exact ⟨_, by omega, rfl⟩) | exact IsR.mx (by first | with_reducible assumption | exact ⟨_, by omega, rfl⟩) (by first | with_reducible assumption | exact ⟨_, by omega, rfl⟩) | with_reducible exact mn9 (by omega) | (simp (disch := omega) only [li_0, li_1, li_2, li_3, li_4, li_5, li_6, li_7, li_8, li_9, li_10, li_20, li_30, li_82, li_91, li_273, li_380, li_400, li_512, li_1000, li_2457, li_4000, nI_add, nI_1, nI_mul, nI_sub, shl_1, shl_1b]; with_reducible exact mn9b (by omega)))) ?_
  rintro e15 _ ⟨rfl, hxe15⟩
  exact Ok.ret ⟨rfl, True.intro⟩
set_option maxHeartbeats 4000000 in
set_option maxRecDepth 100000 in
theorem rSX5_sameLines_36 {t : St} (hT : TY t) {x0 : Nat} (g_x0 : netAt x0 = true) {x1 : Nat} (g_x1 : netAt x1 = true) {w2 : Int32} (h_w2 : IsR 9 w2) {a0 : Int32} (h_a0 : IsR 5001 a0) : Ok (wh (SX5_sameLines_36 x0 x1 w2) a0 t) (fun r u => t = u ∧ (Sum.elim (fun v => isb v = true ∧ (True)) (fun e => True) r)) := by
  obtain ⟨j0, hj0, rfl⟩ := h_a0
  refine Ok.loop (fun k c s => t = s ∧ (∃ j, c = nI j ∧ j ≤ 5000 ∧ 0 ≤ j ∧ k = 5000 - j)) ?_ (5000 - j0) _ _ ⟨rfl, ⟨j0, rfl, by omega, by omega, rfl⟩⟩
  obtain ⟨k_w2, h_w2, rfl⟩ := h_w2
  clear hj0
  intro k c s hI
  obtain ⟨rfl, ⟨j, ej, hj, hlo, rfl⟩⟩ := hI
  subst ej
  unfold SX5_sameLines_36
  refine Ok.ite (fun c_1 => ?_) (fun c_1 => ?_)
  · try simp (disch := omega) only [li_0, li_1, li_2, li_3, li_4, li_5, li_6, li_7, li_8, li_9, li_10, li_20, li_30, li_82, li_91, li_273, li_380, li_400, li_512, li_1000, li_2457, li_4000, nI_add, nI_1, nI_mul, nI_sub, shl_1, shl_1b, nI_leP, nI_ltP, nI_eqP, Nat.not_le, Nat.not_lt] at c_1
    exact Ok.ret ⟨rfl, True.intro⟩
  · try simp (disch := omega) only [li_0, li_1, li_2, li_3, li_4, li_5, li_6, li_7, li_8, li_9, li_10, li_20, li_30, li_82, li_91, li_273, li_380, li_400, li_512, li_1000, li_2457, li_4000, nI_add, nI_1, nI_mul, nI_sub, shl_1, shl_1b, nI_leP, nI_ltP, nI_eqP, Nat.not_le, Nat.not_lt] at c_1
    refine Ok.bd _ (rX5_weightOf hT (by first | assumption | decide +kernel) (by first | with_reducible assumption | (simp (disch := omega) only [li_0, li_1, li_2, li_3, li_4, li_5, li_6, li_7, li_8, li_9, li_10, li_20, li_30, li_82, li_91, li_273, li_380, li_400, li_512, li_1000, li_2457, li_4000, nI_add, nI_1, nI_mul, nI_sub, shl_1, shl_1b, nI_or, nI_xor, nI_and]; with_reducible exact ⟨_, (by first | omega | exact or9 (by omega) (by omega) | exact xor9 (by omega) (by omega)), rfl⟩) | with_reducible exact ⟨_, (by first | omega | exact or9 (by omega) (by omega) | exact xor9 (by omega) (by omega)), rfl⟩ | exact IsR.mn (by first | with_reducible assumption | exact ⟨_, by omega, rfl⟩) (by first | with_reducible assumption | exact ⟨_, by omega, rfl⟩) | exact IsR.mx (by first | with_reducible assumption | exact ⟨_, by omega, rfl⟩) (by first | with_reducible assumption | exact ⟨_, by omega, rfl⟩) | with_reducible exact mn9 (by omega) | (simp (disch := omega) only [li_0, li_1, li_2, li_3, li_4, li_5, li_6, li_7, li_8, li_9, li_10, li_20, li_30, li_82, li_91, li_273, li_380, li_400, li_512, li_1000, li_2457, li_4000, nI_add, nI_1, nI_mul, nI_sub, shl_1, shl_1b]; with_reducible exact mn9b (by omega))) (by first | with_reducible assumption | (simp (disch := omega) only [li_0, li_1, li_2, li_3, li_4, li_5, li_6, li_7, li_8, li_9, li_10, li_20, li_30, li_82, li_91, li_273, li_380, li_400, li_512, li_1000, li_2457, li_4000, nI_add, nI_1, nI_mul, nI_sub, shl_1, shl_1b, nI_or, nI_xor, nI_and]; with_reducible exact ⟨_, (by first | omega | exact or9 (by omega) (by omega) | exact xor9 (by omega) (by omega)), rfl⟩) | with_reducible exact ⟨_, (by first | omega | exact or9 (by omega) (by omega) | exact xor9 (by omega) (by omega)), rfl⟩ | exact IsR.mn (by first | with_reducible assumption | exact ⟨_, by omega, rfl⟩) (by first | with_reducible assumption | exact ⟨_, by omega, rfl⟩) | exact IsR.mx (by first | with_reducible assumption | exact ⟨_, by omega, rfl⟩) (by first | with_reducible assumption | exact ⟨_, by omega, rfl⟩) | with_reducible exact mn9 (by omega) | (simp (disch := omega) only [li_0, li_1, li_2, li_3, li_4, li_5, li_6, li_7, li_8, li_9, li_10, li_20, li_30, li_82, li_91, li_273, li_380, li_400, li_512, li_1000, li_2457, li_4000, nI_add, nI_1, nI_mul, nI_sub, shl_1, shl_1b]; with_reducible exact mn9b (by omega)))) ?_
    rintro _ _ ⟨rfl, kv16, hv16, rfl⟩
    refine Ok.bd _ (rX5_weightOf hT (by first | assumption | decide +kernel) (by first | with_reducible assumption | (simp (disch := omega) only [li_0, li_1, li_2, li_3, li_4, li_5, li_6, li_7, li_8, li_9, li_10, li_20, li_30, li_82, li_91, li_273, li_380, li_400, li_512, li_1000, li_2457, li_4000, nI_add, nI_1, nI_mul, nI_sub, shl_1, shl_1b, nI_or, nI_xor, nI_and]; with_reducible exact ⟨_, (by first | omega | exact or9 (by omega) (by omega) | exact xor9 (by omega) (by omega)), rfl⟩) | with_reducible exact ⟨_, (by first | omega | exact or9 (by omega) (by omega) | exact xor9 (by omega) (by omega)), rfl⟩ | exact IsR.mn (by first | with_reducible assumption | exact ⟨_, by omega, rfl⟩) (by first | with_reducible assumption | exact ⟨_, by omega, rfl⟩) | exact IsR.mx (by first | with_reducible assumption | exact ⟨_, by omega, rfl⟩) (by first | with_reducible assumption | exact ⟨_, by omega, rfl⟩) | with_reducible exact mn9 (by omega) | (simp (disch := omega) only [li_0, li_1, li_2, li_3, li_4, li_5, li_6, li_7, li_8, li_9, li_10, li_20, li_30, li_82, li_91, li_273, li_380, li_400, li_512, li_1000, li_2457, li_4000, nI_add, nI_1, nI_mul, nI_sub, shl_1, shl_1b]; with_reducible exact mn9b (by omega))) (by first | with_reducible assumption | (simp (disch := omega) only [li_0, li_1, li_2, li_3, li_4, li_5, li_6, li_7, li_8, li_9, li_10, li_20, li_30, li_82, li_91, li_273, li_380, li_400, li_512, li_1000, li_2457, li_4000, nI_add, nI_1, nI_mul, nI_sub, shl_1, shl_1b, nI_or, nI_xor, nI_and]; with_reducible exact ⟨_, (by first | omega | exact or9 (by omega) (by omega) | exact xor9 (by omega) (by omega)), rfl⟩) | with_reducible exact ⟨_, (by first | omega | exact or9 (by omega) (by omega) | exact xor9 (by omega) (by omega)), rfl⟩ | exact IsR.mn (by first | with_reducible assumption | exact ⟨_, by omega, rfl⟩) (by first | with_reducible assumption | exact ⟨_, by omega, rfl⟩) | exact IsR.mx (by first | with_reducible assumption | exact ⟨_, by omega, rfl⟩) (by first | with_reducible assumption | exact ⟨_, by omega, rfl⟩) | with_reducible exact mn9 (by omega) | (simp (disch := omega) only [li_0, li_1, li_2, li_3, li_4, li_5, li_6, li_7, li_8, li_9, li_10, li_20, li_30, li_82, li_91, li_273, li_380, li_400, li_512, li_1000, li_2457, li_4000, nI_add, nI_1, nI_mul, nI_sub, shl_1, shl_1b]; with_reducible exact mn9b (by omega)))) ?_
    rintro _ _ ⟨rfl, kv19, hv19, rfl⟩
    refine Ok.ite (fun c_4 => ?_) (fun c_4 => ?_)
    · try simp (disch := omega) only [li_0, li_1, li_2, li_3, li_4, li_5, li_6, li_7, li_8, li_9, li_10, li_20, li_30, li_82, li_91, li_273, li_380, li_400, li_512, li_1000, li_2457, li_4000, nI_add, nI_1, nI_mul, nI_sub, shl_1, shl_1b, nI_leP, nI_ltP, nI_eqP, Nat.not_le, Nat.not_lt] at c_4
      exact Ok.ret ⟨5000 - (j + 1), by omega, rfl, ⟨j + 1, nI_1 j, by omega, by omega, rfl⟩⟩
    · try simp (disch := omega) only [li_0, li_1, li_2, li_3, li_4, li_5, li_6, li_7, li_8, li_9, li_10, li_20, li_30, li_82, li_91, li_273, li_380, li_400, li_512, li_1000, li_2457, li_4000, nI_add, nI_1, nI_mul, nI_sub, shl_1, shl_1b, nI_leP, nI_ltP, nI_eqP, Nat.not_le, Nat.not_lt] at c_4
      exact Ok.ret ⟨rfl, ⟨(by first | rfl | assumption | decide), (by first | exact True.intro | exact Or.inl rfl | exact Or.inr (by first | assumption | exact ⟨_, by omega, rfl⟩ | exact ⟨⟨_, by omega, rfl⟩, ⟨_, by omega, rfl⟩⟩))⟩⟩
set_option maxHeartbeats 4000000 in
set_option maxRecDepth 100000 in
theorem rSX5_sameLines_26 {t : St} (hT : TY t) {x0 : Nat} (g_x0 : netAt x0 = true) {x1 : Nat} (g_x1 : netAt x1 = true) {a0 : Int32} (h_a0 : IsR 5001 a0) : Ok (wh (SX5_sameLines_26 x0 x1) a0 t) (fun r u => t = u ∧ (Sum.elim (fun v => isb v = true ∧ (True)) (fun e => True) r)) := by
  obtain ⟨j0, hj0, rfl⟩ := h_a0
  refine Ok.loop (fun k c s => t = s ∧ (∃ j, c = nI j ∧ j ≤ 5000 ∧ 0 ≤ j ∧ k = 5000 - j)) ?_ (5000 - j0) _ _ ⟨rfl, ⟨j0, rfl, by omega, by omega, rfl⟩⟩
  clear hj0
  intro k c s hI
  obtain ⟨rfl, ⟨j, ej, hj, hlo, rfl⟩⟩ := hI
  subst ej
  unfold SX5_sameLines_26
  refine Ok.rdT hT (ty_n0 g_x0) (by omega) (fun k_1 hk_1 ek_1 => ?_)
  refine Ok.ite (fun c_2 => ?_) (fun c_2 => ?_)
  · try simp (disch := omega) only [li_0, li_1, li_2, li_3, li_4, li_5, li_6, li_7, li_8, li_9, li_10, li_20, li_30, li_82, li_91, li_273, li_380, li_400, li_512, li_1000, li_2457, li_4000, nI_add, nI_1, nI_mul, nI_sub, shl_1, shl_1b, nI_leP, nI_ltP, nI_eqP, Nat.not_le, Nat.not_lt] at c_2
    exact Ok.ret ⟨rfl, True.intro⟩
  · try simp (disch := omega) only [li_0, li_1, li_2, li_3, li_4, li_5, li_6, li_7, li_8, li_9, li_10, li_20, li_30, li_82, li_91, li_273, li_380, li_400, li_512, li_1000, li_2457, li_4000, nI_add, nI_1, nI_mul, nI_sub, shl_1, shl_1b, nI_leP, nI_ltP, nI_eqP, Nat.not_le, Nat.not_lt] at c_2
    refine Ok.bd _ (rSX5_sameLines_36 hT (by first | assumption | decide +kernel) (by first | assumption | decide +kernel) (by first | with_reducible assumption | (simp (disch := omega) only [li_0, li_1, li_2, li_3, li_4, li_5, li_6, li_7, li_8, li_9, li_10, li_20, li_30, li_82, li_91, li_273, li_380, li_400, li_512, li_1000, li_2457, li_4000, nI_add, nI_1, nI_mul, nI_sub, shl_1, shl_1b, nI_or, nI_xor, nI_and]; with_reducible exact ⟨_, (by first | omega | exact or9 (by omega) (by omega) | exact xor9 (by omega) (by omega)), rfl⟩) | with_reducible exact ⟨_, (by first | omega | exact or9 (by omega) (by omega) | exact xor9 (by omega) (by omega)), rfl⟩ | exact IsR.mn (by first | with_reducible assumption | exact ⟨_, by omega, rfl⟩) (by first | with_reducible assumption | exact ⟨_, by omega, rfl⟩) | exact IsR.mx (by first | with_reducible assumption | exact ⟨_, by omega, rfl⟩) (by first | with_reducible assumption | exact ⟨_, by omega, rfl⟩) | with_reducible exact mn9 (by omega) | (simp (disch := omega) only [li_0, li_1, li_2, li_3, li_4, li_5, li_6, li_7, li_8, li_9, li_10, li_20, li_30, li_82, li_91, li_273, li_380, li_400, li_512, li_1000, li_2457, li_4000, nI_add, nI_1, nI_mul, nI_sub, shl_1, shl_1b]; with_reducible exact mn9b (by omega))) (by show IsR 5001 _; first | with_reducible assumption | (simp (disch := omega) only [li_0, li_1, li_2, li_3, li_4, li_5, li_6, li_7, li_8, li_9, li_10, li_20, li_30, li_82, li_91, li_273, li_380, li_400, li_512, li_1000, li_2457, li_4000, nI_add, nI_1, nI_mul, nI_sub, shl_1, shl_1b, nI_or, nI_xor, nI_and]; with_reducible exact ⟨_, (by first | omega | exact or9 (by omega) (by omega) | exact xor9 (by omega) (by omega)), rfl⟩) | with_reducible exact ⟨_, (by first | omega | exact or9 (by omega) (by omega) | exact xor9 (by omega) (by omega)), rfl⟩ | exact IsR.mn (by first | with_reducible assumption | exact ⟨_, by omega, rfl⟩) (by first | with_reducible assumption | exact ⟨_, by omega, rfl⟩) | exact IsR.mx (by first | with_reducible assumption | exact ⟨_, by omega, rfl⟩) (by first | with_reducible assumption | exact ⟨_, by omega, rfl⟩) | with_reducible exact mn9 (by omega) | (simp (disch := omega) only [li_0, li_1, li_2, li_3, li_4, li_5, li_6, li_7, li_8, li_9, li_10, li_20, li_30, li_82, li_91, li_273, li_380, li_400, li_512, li_1000, li_2457, li_4000, nI_add, nI_1, nI_mul, nI_sub, shl_1, shl_1b]; with_reducible exact mn9b (by omega)))) ?_
    rintro (e24 | e24) _ ⟨rfl, hxe24⟩
    · refine Ok.el ?_
      obtain ⟨hbe24, hxe24⟩ := hxe24
      exact Ok.ret ⟨rfl, ⟨(by first | rfl | assumption | decide), (by first | exact True.intro | exact Or.inl rfl | exact Or.inr (by first | assumption | exact ⟨_, by omega, rfl⟩ | exact ⟨⟨_, by omega, rfl⟩, ⟨_, by omega, rfl⟩⟩))⟩⟩
    · refine Ok.er ?_
      exact Ok.ret ⟨5000 - (j + 1), by omega, rfl, ⟨j + 1, nI_1 j, by omega, by omega, rfl⟩⟩
set_option maxHeartbeats 4000000 in
set_option maxRecDepth 100000 in
theorem rX5_sameLines {t : St} (hT : TY t) {x : Nat} (g_x : netAt x = true) {y : Nat} (g_y : netAt y = true) : Ok (FX5_sameLines x y t) (fun r u => t = u ∧ (isb r = true ∧ (True))) := by
  unfold FX5_sameLines
  refine Ok.ck (by first | assumption | decide +kernel) (fun g_1 => ?_)
  refine Ok.ck (by first | assumption | decide +kernel) (fun g_2 => ?_)
  refine Ok.rdT hT (ty_n0 g_1) (by omega) (fun k_3 hk_3 ek_3 => ?_)
  refine Ok.rdT hT (ty_n0 g_2) (by omega) (fun k_4 hk_4 ek_4 => ?_)
  refine Ok.ite (fun c_5 => ?_) (fun c_5 => ?_)
  · try simp (disch := omega) only [li_0, li_1, li_2, li_3, li_4, li_5, li_6, li_7, li_8, li_9, li_10, li_20, li_30, li_82, li_91, li_273, li_380, li_400, li_512, li_1000, li_2457, li_4000, nI_add, nI_1, nI_mul, nI_sub, shl_1, shl_1b, nI_leP, nI_ltP, nI_eqP, Nat.not_le, Nat.not_lt] at c_5
    refine Ok.rd (fun v7 hv7 => ?_)
    refine Ok.rd (fun v9 hv9 => ?_)
    refine Ok.ite (fun c_6 => ?_) (fun c_6 => ?_)
    · try simp (disch := omega) only [li_0, li_1, li_2, li_3, li_4, li_5, li_6, li_7, li_8, li_9, li_10, li_20, li_30, li_82, li_91, li_273, li_380, li_400, li_512, li_1000, li_2457, li_4000, nI_add, nI_1, nI_mul, nI_sub, shl_1, shl_1b, nI_leP, nI_ltP, nI_eqP, Nat.not_le, Nat.not_lt] at c_6
      refine Ok.bd _ (rSX5_sameLines_26 hT (by first | assumption | decide +kernel) (by first | assumption | decide +kernel) (by show IsR 5001 _; first | with_reducible assumption | (simp (disch := omega) only [li_0, li_1, li_2, li_3, li_4, li_5, li_6, li_7, li_8, li_9, li_10, li_20, li_30, li_82, li_91, li_273, li_380, li_400, li_512, li_1000, li_2457, li_4000, nI_add, nI_1, nI_mul, nI_sub, shl_1, shl_1b, nI_or, nI_xor, nI_and]; with_reducible exact ⟨_, (by first | omega | exact or9 (by omega) (by omega) | exact xor9 (by omega) (by omega)), rfl⟩) | with_reducible exact ⟨_, (by first | omega | exact or9 (by omega) (by omega) | exact xor9 (by omega) (by omega)), rfl⟩ | exact IsR.mn (by first | with_reducible assumption | exact ⟨_, by omega, rfl⟩) (by first | with_reducible assumption | exact ⟨_, by omega, rfl⟩) | exact IsR.mx (by first | with_reducible assumption | exact ⟨_, by omega, rfl⟩) (by first | with_reducible assumption | exact ⟨_, by omega, rfl⟩) | with_reducible exact mn9 (by omega) | (simp (disch := omega) only [li_0, li_1, li_2, li_3, li_4, li_5, li_6, li_7, li_8, li_9, li_10, li_20, li_30, li_82, li_91, li_273, li_380, li_400, li_512, li_1000, li_2457, li_4000, nI_add, nI_1, nI_mul, nI_sub, shl_1, shl_1b]; with_reducible exact mn9b (by omega)))) ?_
      rintro (e29 | e29) _ ⟨rfl, hxe29⟩
      · refine Ok.el ?_
        obtain ⟨hbe29, hxe29⟩ := hxe29
        exact Ok.ret ⟨rfl, ⟨(by first | rfl | assumption | decide), (by first | exact True.intro | exact Or.inl rfl | exact Or.inr (by first | assumption | exact ⟨_, by omega, rfl⟩ | exact ⟨⟨_, by omega, rfl⟩, ⟨_, by omega, rfl⟩⟩))⟩⟩
      · refine Ok.er ?_
        exact Ok.ret ⟨rfl, ⟨(by first | rfl | assumption | decide), (by first | exact True.intro | exact Or.inl rfl | exact Or.inr (by first | assumption | exact ⟨_, by omega, rfl⟩ | exact ⟨⟨_, by omega, rfl⟩, ⟨_, by omega, rfl⟩⟩))⟩⟩
    · try simp (disch := omega) only [li_0, li_1, li_2, li_3, li_4, li_5, li_6, li_7, li_8, li_9, li_10, li_20, li_30, li_82, li_91, li_273, li_380, li_400, li_512, li_1000, li_2457, li_4000, nI_add, nI_1, nI_mul, nI_sub, shl_1, shl_1b, nI_leP, nI_ltP, nI_eqP, Nat.not_le, Nat.not_lt] at c_6
      exact Ok.ret ⟨rfl, ⟨(by first | rfl | assumption | decide), (by first | exact True.intro | exact Or.inl rfl | exact Or.inr (by first | assumption | exact ⟨_, by omega, rfl⟩ | exact ⟨⟨_, by omega, rfl⟩, ⟨_, by omega, rfl⟩⟩))⟩⟩
  · try simp (disch := omega) only [li_0, li_1, li_2, li_3, li_4, li_5, li_6, li_7, li_8, li_9, li_10, li_20, li_30, li_82, li_91, li_273, li_380, li_400, li_512, li_1000, li_2457, li_4000, nI_add, nI_1, nI_mul, nI_sub, shl_1, shl_1b, nI_leP, nI_ltP, nI_eqP, Nat.not_le, Nat.not_lt] at c_5
    exact Ok.ret ⟨rfl, ⟨(by first | rfl | assumption | decide), (by first | exact True.intro | exact Or.inl rfl | exact Or.inr (by first | assumption | exact ⟨_, by omega, rfl⟩ | exact ⟨⟨_, by omega, rfl⟩, ⟨_, by omega, rfl⟩⟩))⟩⟩
set_option maxHeartbeats 4000000 in
set_option maxRecDepth 100000 in
theorem rX5_sameAs {t : St} (hT : TY t) {x : Nat} (g_x : netAt x = true) {y : Nat} (g_y : netAt y = true) : Ok (FX5_sameAs x y t) (fun r u => t = u ∧ (isb r = true ∧ (True))) := by
  unfold FX5_sameAs
  refine Ok.ck (by first | assumption | decide +kernel) (fun g_1 => ?_)
  refine Ok.ck (by first | assumption | decide +kernel) (fun g_2 => ?_)
  refine Ok.bd _ (rX5_sameLines hT (by first | assumption | decide +kernel) (by first | assumption | decide +kernel)) ?_
  rintro v1 _ ⟨rfl, hbv1, hxv1⟩
  refine Ok.ite (fun c_4 => ?_) (fun c_4 => ?_)
  · try simp (disch := omega) only [li_0, li_1, li_2, li_3, li_4, li_5, li_6, li_7, li_8, li_9, li_10, li_20, li_30, li_82, li_91, li_273, li_380, li_400, li_512, li_1000, li_2457, li_4000, nI_add, nI_1, nI_mul, nI_sub, shl_1, shl_1b, nI_leP, nI_ltP, nI_eqP, Nat.not_le, Nat.not_lt] at c_4
    exact Ok.ret ⟨rfl, ⟨(by first | rfl | assumption | decide), (by first | exact True.intro | exact Or.inl rfl | exact Or.inr (by first | assumption | exact ⟨_, by omega, rfl⟩ | exact ⟨⟨_, by omega, rfl⟩, ⟨_, by omega, rfl⟩⟩))⟩⟩
  · try simp (disch := omega) only [li_0, li_1, li_2, li_3, li_4, li_5, li_6, li_7, li_8, li_9, li_10, li_20, li_30, li_82, li_91, li_273, li_380, li_400, li_512, li_1000, li_2457, li_4000, nI_add, nI_1, nI_mul, nI_sub, shl_1, shl_1b, nI_leP, nI_ltP, nI_eqP, Nat.not_le, Nat.not_lt] at c_4
    refine Ok.bd _ (rX5_placesUnlike hT (by first | assumption | decide +kernel) (by first | assumption | decide +kernel)) ?_
    rintro v6 _ ⟨rfl, hxv6⟩
    refine Ok.ite (fun c_6 => ?_) (fun c_6 => ?_)
    · try simp (disch := omega) only [li_0, li_1, li_2, li_3, li_4, li_5, li_6, li_7, li_8, li_9, li_10, li_20, li_30, li_82, li_91, li_273, li_380, li_400, li_512, li_1000, li_2457, li_4000, nI_add, nI_1, nI_mul, nI_sub, shl_1, shl_1b, nI_leP, nI_ltP, nI_eqP, Nat.not_le, Nat.not_lt] at c_6
      exact Ok.ret ⟨rfl, ⟨(by first | rfl | assumption | decide), (by first | exact True.intro | exact Or.inl rfl | exact Or.inr (by first | assumption | exact ⟨_, by omega, rfl⟩ | exact ⟨⟨_, by omega, rfl⟩, ⟨_, by omega, rfl⟩⟩))⟩⟩
    · try simp (disch := omega) only [li_0, li_1, li_2, li_3, li_4, li_5, li_6, li_7, li_8, li_9, li_10, li_20, li_30, li_82, li_91, li_273, li_380, li_400, li_512, li_1000, li_2457, li_4000, nI_add, nI_1, nI_mul, nI_sub, shl_1, shl_1b, nI_leP, nI_ltP, nI_eqP, Nat.not_le, Nat.not_lt] at c_6
      exact Ok.ret ⟨rfl, ⟨(by first | rfl | assumption | decide), (by first | exact True.intro | exact Or.inl rfl | exact Or.inr (by first | assumption | exact ⟨_, by omega, rfl⟩ | exact ⟨⟨_, by omega, rfl⟩, ⟨_, by omega, rfl⟩⟩))⟩⟩
set_option maxHeartbeats 4000000 in
set_option maxRecDepth 100000 in
theorem rX6_isTakenOut {t : St} (hT : TY t) {a : Int32} : Ok (FX6_isTakenOut a t) (fun r u => t = u ∧ (isb r = true ∧ (r = 0 → (¬ a = 5 ∧ ¬ a = 6)))) := by
  unfold FX6_isTakenOut
  refine Ok.ite (fun c_1 => ?_) (fun c_1 => ?_)
  · try simp (disch := omega) only [li_0, li_1, li_2, li_3, li_4, li_5, li_6, li_7, li_8, li_9, li_10, li_20, li_30, li_82, li_91, li_273, li_380, li_400, li_512, li_1000, li_2457, li_4000, nI_add, nI_1, nI_mul, nI_sub, shl_1, shl_1b, nI_leP, nI_ltP, nI_eqP, Nat.not_le, Nat.not_lt] at c_1
    exact Ok.ret ⟨rfl, ⟨(by first | rfl | assumption | decide), (by first | (intro q; exact absurd q (by decide)) | (intro _; exact ⟨by assumption, by assumption⟩))⟩⟩
  · try simp (disch := omega) only [li_0, li_1, li_2, li_3, li_4, li_5, li_6, li_7, li_8, li_9, li_10, li_20, li_30, li_82, li_91, li_273, li_380, li_400, li_512, li_1000, li_2457, li_4000, nI_add, nI_1, nI_mul, nI_sub, shl_1, shl_1b, nI_leP, nI_ltP, nI_eqP, Nat.not_le, Nat.not_lt] at c_1
    refine Ok.ite (fun c_2 => ?_) (fun c_2 => ?_)
    · try simp (disch := omega) only [li_0, li_1, li_2, li_3, li_4, li_5, li_6, li_7, li_8, li_9, li_10, li_20, li_30, li_82, li_91, li_273, li_380, li_400, li_512, li_1000, li_2457, li_4000, nI_add, nI_1, nI_mul, nI_sub, shl_1, shl_1b, nI_leP, nI_ltP, nI_eqP, Nat.not_le, Nat.not_lt] at c_2
      exact Ok.ret ⟨rfl, ⟨(by first | rfl | assumption | decide), (by first | (intro q; exact absurd q (by decide)) | (intro _; exact ⟨by assumption, by assumption⟩))⟩⟩
    · try simp (disch := omega) only [li_0, li_1, li_2, li_3, li_4, li_5, li_6, li_7, li_8, li_9, li_10, li_20, li_30, li_82, li_91, li_273, li_380, li_400, li_512, li_1000, li_2457, li_4000, nI_add, nI_1, nI_mul, nI_sub, shl_1, shl_1b, nI_leP, nI_ltP, nI_eqP, Nat.not_le, Nat.not_lt] at c_2
      exact Ok.ret ⟨rfl, ⟨(by first | rfl | assumption | decide), (by first | (intro q; exact absurd q (by decide)) | (intro _; exact ⟨by assumption, by assumption⟩))⟩⟩
set_option maxHeartbeats 4000000 in
set_option maxRecDepth 100000 in
theorem rX6_firstStep {t : St} (hT : TY t) {a : Int32} : Ok (FX6_firstStep a t) (fun r u => t = u ∧ (IsR 2 r)) := by
  unfold FX6_firstStep
  refine Ok.bd _ (rX6_isTakenOut hT) ?_
  rintro v1 _ ⟨rfl, hbv1, hxv1⟩
  refine Ok.ite (fun c_2 => ?_) (fun c_2 => ?_)
  · obtain ⟨hn5, hn6⟩ := hxv1 c_2
    exact Ok.ret ⟨rfl, (by show IsR 2 _; first | with_reducible assumption | (simp (disch := omega) only [li_0, li_1, li_2, li_3, li_4, li_5, li_6, li_7, li_8, li_9, li_10, li_20, li_30, li_82, li_91, li_273, li_380, li_400, li_512, li_1000, li_2457, li_4000, nI_add, nI_1, nI_mul, nI_sub, shl_1, shl_1b, nI_or, nI_xor, nI_and]; with_reducible exact ⟨_, (by first | omega | exact or9 (by omega) (by omega) | exact xor9 (by omega) (by omega)), rfl⟩) | with_reducible exact ⟨_, (by first | omega | exact or9 (by omega) (by omega) | exact xor9 (by omega) (by omega)), rfl⟩ | exact IsR.mn (by first | with_reducible assumption | exact ⟨_, by omega, rfl⟩) (by first | with_reducible assumption | exact ⟨_, by omega, rfl⟩) | exact IsR.mx (by first | with_reducible assumption | exact ⟨_, by omega, rfl⟩) (by first | with_reducible assumption | exact ⟨_, by omega, rfl⟩) | with_reducible exact mn9 (by omega) | (simp (disch := omega) only [li_0, li_1, li_2, li_3, li_4, li_5, li_6, li_7, li_8, li_9, li_10, li_20, li_30, li_82, li_91, li_273, li_380, li_400, li_512, li_1000, li_2457, li_4000, nI_add, nI_1, nI_mul, nI_sub, shl_1, shl_1b]; with_reducible exact mn9b (by omega)))⟩
  · skip
    exact Ok.ret ⟨rfl, (by show IsR 2 _; first | with_reducible assumption | (simp (disch := omega) only [li_0, li_1, li_2, li_3, li_4, li_5, li_6, li_7, li_8, li_9, li_10, li_20, li_30, li_82, li_91, li_273, li_380, li_400, li_512, li_1000, li_2457, li_4000, nI_add, nI_1, nI_mul, nI_sub, shl_1, shl_1b, nI_or, nI_xor, nI_and]; with_reducible exact ⟨_, (by first | omega | exact or9 (by omega) (by omega) | exact xor9 (by omega) (by omega)), rfl⟩) | with_reducible exact ⟨_, (by first | omega | exact or9 (by omega) (by omega) | exact xor9 (by omega) (by omega)), rfl⟩ | exact IsR.mn (by first | with_reducible assumption | exact ⟨_, by omega, rfl⟩) (by first | with_reducible assumption | exact ⟨_, by omega, rfl⟩) | exact IsR.mx (by first | with_reducible assumption | exact ⟨_, by omega, rfl⟩) (by first | with_reducible assumption | exact ⟨_, by omega, rfl⟩) | with_reducible exact mn9 (by omega) | (simp (disch := omega) only [li_0, li_1, li_2, li_3, li_4, li_5, li_6, li_7, li_8, li_9, li_10, li_20, li_30, li_82, li_91, li_273, li_380, li_400, li_512, li_1000, li_2457, li_4000, nI_add, nI_1, nI_mul, nI_sub, shl_1, shl_1b]; with_reducible exact mn9b (by omega)))⟩
set_option maxHeartbeats 4000000 in
set_option maxRecDepth 100000 in
theorem rX6_joined {t : St} (hT : TY t) {a : Int32} {b : Int32} {c : Int32} : Ok (FX6_joined a b c t) (fun r u => t = u ∧ (True)) := by
  unfold FX6_joined
  refine Ok.bd (fun (v2 : Int32) t3 => t = t3 ∧ (True)) ?_ ?_
  · refine Ok.ite (fun c_1 => ?_) (fun c_1 => ?_)
    · try simp (disch := omega) only [li_0, li_1, li_2, li_3, li_4, li_5, li_6, li_7, li_8, li_9, li_10, li_20, li_30, li_82, li_91, li_273, li_380, li_400, li_512, li_1000, li_2457, li_4000, nI_add, nI_1, nI_mul, nI_sub, shl_1, shl_1b, nI_leP, nI_ltP, nI_eqP, Nat.not_le, Nat.not_lt] at c_1
      exact Ok.ret ⟨rfl, True.intro⟩
    · try simp (disch := omega) only [li_0, li_1, li_2, li_3, li_4, li_5, li_6, li_7, li_8, li_9, li_10, li_20, li_30, li_82, li_91, li_273, li_380, li_400, li_512, li_1000, li_2457, li_4000, nI_add, nI_1, nI_mul, nI_sub, shl_1, shl_1b, nI_leP, nI_ltP, nI_eqP, Nat.not_le, Nat.not_lt] at c_1
      refine Ok.ite (fun c_2 => ?_) (fun c_2 => ?_)
      · try simp (disch := omega) only [li_0, li_1, li_2, li_3, li_4, li_5, li_6, li_7, li_8, li_9, li_10, li_20, li_30, li_82, li_91, li_273, li_380, li_400, li_512, li_1000, li_2457, li_4000, nI_add, nI_1, nI_mul, nI_sub, shl_1, shl_1b, nI_leP, nI_ltP, nI_eqP, Nat.not_le, Nat.not_lt] at c_2
        exact Ok.ret ⟨rfl, True.intro⟩
      · try simp (disch := omega) only [li_0, li_1, li_2, li_3, li_4, li_5, li_6, li_7, li_8, li_9, li_10, li_20, li_30, li_82, li_91, li_273, li_380, li_400, li_512, li_1000, li_2457, li_4000, nI_add, nI_1, nI_mul, nI_sub, shl_1, shl_1b, nI_leP, nI_ltP, nI_eqP, Nat.not_le, Nat.not_lt] at c_2
        refine Ok.ite (fun c_3 => ?_) (fun c_3 => ?_)
        · try simp (disch := omega) only [li_0, li_1, li_2, li_3, li_4, li_5, li_6, li_7, li_8, li_9, li_10, li_20, li_30, li_82, li_91, li_273, li_380, li_400, li_512, li_1000, li_2457, li_4000, nI_add, nI_1, nI_mul, nI_sub, shl_1, shl_1b, nI_leP, nI_ltP, nI_eqP, Nat.not_le, Nat.not_lt] at c_3
          exact Ok.ret ⟨rfl, True.intro⟩
        · try simp (disch := omega) only [li_0, li_1, li_2, li_3, li_4, li_5, li_6, li_7, li_8, li_9, li_10, li_20, li_30, li_82, li_91, li_273, li_380, li_400, li_512, li_1000, li_2457, li_4000, nI_add, nI_1, nI_mul, nI_sub, shl_1, shl_1b, nI_leP, nI_ltP, nI_eqP, Nat.not_le, Nat.not_lt] at c_3
          exact Ok.ret ⟨rfl, True.intro⟩
  · intro v2 t3 hx
    obtain ⟨rfl, hxv2⟩ := hx
    refine Ok.ite (fun c_4 => ?_) (fun c_4 => ?_)
    · try simp (disch := omega) only [li_0, li_1, li_2, li_3, li_4, li_5, li_6, li_7, li_8, li_9, li_10, li_20, li_30, li_82, li_91, li_273, li_380, li_400, li_512, li_1000, li_2457, li_4000, nI_add, nI_1, nI_mul, nI_sub, shl_1, shl_1b, nI_leP, nI_ltP, nI_eqP, Nat.not_le, Nat.not_lt] at c_4
      exact Ok.ret ⟨rfl, True.intro⟩
    · try simp (disch := omega) only [li_0, li_1, li_2, li_3, li_4, li_5, li_6, li_7, li_8, li_9, li_10, li_20, li_30, li_82, li_91, li_273, li_380, li_400, li_512, li_1000, li_2457, li_4000, nI_add, nI_1, nI_mul, nI_sub, shl_1, shl_1b, nI_leP, nI_ltP, nI_eqP, Nat.not_le, Nat.not_lt] at c_4
      exact Ok.ret ⟨rfl, True.intro⟩
set_option maxHeartbeats 4000000 in
set_option maxRecDepth 100000 in
theorem rX6_aheadAtStep {t : St} (hT : TY t) {a : Int32} {b : Int32} {c : Int32} : Ok (FX6_aheadAtStep a b c t) (fun r u => t = u ∧ (True)) := by
  unfold FX6_aheadAtStep
  refine Ok.bd _ (rX6_isTakenOut hT) ?_
  rintro v1 _ ⟨rfl, hbv1, hxv1⟩
  refine Ok.ite (fun c_2 => ?_) (fun c_2 => ?_)
  · obtain ⟨hn5, hn6⟩ := hxv1 c_2
    exact Ok.ret ⟨rfl, True.intro⟩
  · skip
    exact Ok.ret ⟨rfl, True.intro⟩
set_option maxHeartbeats 4000000 in
set_option maxRecDepth 100000 in
theorem rX6_aboveOf {t : St} (hT : TY t) {a : Int32} {b : Int32} : Ok (FX6_aboveOf a b t) (fun r u => t = u ∧ (True)) := by
  unfold FX6_aboveOf
  exact Ok.ret ⟨rfl, True.intro⟩
set_option maxHeartbeats 4000000 in
set_option maxRecDepth 100000 in
theorem rSX6_withLineInto_5 {t : St} (hT : TY t) {x0 : Nat} (g_x0 : netAt x0 = true) {w1 : Int32} {w2 : Int32} {a0 : Int32} {a1 : Int32} (h_a1 : IsR 5001 a1) : Ok (wh (SX6_withLineInto_5 x0 w1 w2) (a0, a1) t) (fun r u => t = u ∧ (True)) := by
  obtain ⟨j0, hj0, rfl⟩ := h_a1
  refine Ok.loop (fun k c s => t = s ∧ (∃ j, c.2 = nI j ∧ j ≤ 5000 ∧ 0 ≤ j ∧ k = 5000 - j)) ?_ (5000 - j0) _ _ ⟨rfl, ⟨j0, rfl, by omega, by omega, rfl⟩⟩
  clear hj0
  intro k c s hI
  obtain ⟨rfl, ⟨j, ej, hj, hlo, rfl⟩⟩ := hI
  obtain ⟨c0, c1⟩ := c
  dsimp only at ej
  subst ej
  unfold SX6_withLineInto_5
  dsimp only
  refine Ok.rdT hT (ty_n0 g_x0) (by omega) (fun k_1 hk_1 ek_1 => ?_)
  refine Ok.ite (fun c_2 => ?_) (fun c_2 => ?_)
  · try simp (disch := omega) only [li_0, li_1, li_2, li_3, li_4, li_5, li_6, li_7, li_8, li_9, li_10, li_20, li_30, li_82, li_91, li_273, li_380, li_400, li_512, li_1000, li_2457, li_4000, nI_add, nI_1, nI_mul, nI_sub, shl_1, shl_1b, nI_leP, nI_ltP, nI_eqP, Nat.not_le, Nat.not_lt] at c_2
    exact Ok.ret ⟨rfl, True.intro⟩
  · try simp (disch := omega) only [li_0, li_1, li_2, li_3, li_4, li_5, li_6, li_7, li_8, li_9, li_10, li_20, li_30, li_82, li_91, li_273, li_380, li_400, li_512, li_1000, li_2457, li_4000, nI_add, nI_1, nI_mul, nI_sub, shl_1, shl_1b, nI_leP, nI_ltP, nI_eqP, Nat.not_le, Nat.not_lt] at c_2
    refine Ok.bd (fun (v5 : Int32) t6 => t = t6 ∧ (True)) ?_ ?_
    · refine Ok.ite (fun c_3 => ?_) (fun c_3 => ?_)
      · try simp (disch := omega) only [li_0, li_1, li_2, li_3, li_4, li_5, li_6, li_7, li_8, li_9, li_10, li_20, li_30, li_82, li_91, li_273, li_380, li_400, li_512, li_1000, li_2457, li_4000, nI_add, nI_1, nI_mul, nI_sub, shl_1, shl_1b, nI_leP, nI_ltP, nI_eqP, Nat.not_le, Nat.not_lt] at c_3
        exact Ok.ret ⟨rfl, True.intro⟩
      · try simp (disch := omega) only [li_0, li_1, li_2, li_3, li_4, li_5, li_6, li_7, li_8, li_9, li_10, li_20, li_30, li_82, li_91, li_273, li_380, li_400, li_512, li_1000, li_2457, li_4000, nI_add, nI_1, nI_mul, nI_sub, shl_1, shl_1b, nI_leP, nI_ltP, nI_eqP, Nat.not_le, Nat.not_lt] at c_3
        refine Ok.ck (by first | (simp (disch := omega) only [li_0, li_1, li_2, li_3, li_4, li_5, li_6, li_7, li_8, li_9, li_10, li_20, li_30, li_82, li_91, li_273, li_380, li_400, li_512, li_1000, li_2457, li_4000, nI_add, nI_1, nI_mul, nI_sub, shl_1, shl_1b, nI_or, nI_xor, nI_and]; with_reducible exact inb_n (by first | omega | exact or9 (by omega) (by omega) | exact xor9 (by omega) (by omega)) (by omega)) | with_reducible exact inb_n (by omega) (by omega) | exact IsR.ib (by with_reducible assumption) (by decide) | decide) (fun g_4 => ?_)
        refine Ok.rd (fun v10 hv10 => ?_)
        refine Ok.ite (fun c_5 => ?_) (fun c_5 => ?_)
        · try simp (disch := omega) only [li_0, li_1, li_2, li_3, li_4, li_5, li_6, li_7, li_8, li_9, li_10, li_20, li_30, li_82, li_91, li_273, li_380, li_400, li_512, li_1000, li_2457, li_4000, nI_add, nI_1, nI_mul, nI_sub, shl_1, shl_1b, nI_leP, nI_ltP, nI_eqP, Nat.not_le, Nat.not_lt] at c_5
          exact Ok.ret ⟨rfl, True.intro⟩
        · try simp (disch := omega) only [li_0, li_1, li_2, li_3, li_4, li_5, li_6, li_7, li_8, li_9, li_10, li_20, li_30, li_82, li_91, li_273, li_380, li_400, li_512, li_1000, li_2457, li_4000, nI_add, nI_1, nI_mul, nI_sub, shl_1, shl_1b, nI_leP, nI_ltP, nI_eqP, Nat.not_le, Nat.not_lt] at c_5
          exact Ok.ret ⟨rfl, True.intro⟩
    · intro v5 t6 hx
      obtain ⟨rfl, hxv5⟩ := hx
      exact Ok.ret ⟨5000 - (j + 1), by omega, rfl, ⟨j + 1, nI_1 j, by omega, by omega, rfl⟩⟩
set_option maxHeartbeats 4000000 in
set_option maxRecDepth 100000 in
theorem rX6_withLineInto {t : St} (hT : TY t) {x : Nat} (g_x : netAt x = true) {a : Int32} {b : Int32} : Ok (FX6_withLineInto x a b t) (fun r u => t = u ∧ (True)) := by
  unfold FX6_withLineInto
  refine Ok.ck (by first | assumption | decide +kernel) (fun g_1 => ?_)
  refine Ok.bd _ (rSX6_withLineInto_5 hT (by first | assumption | decide +kernel) (by show IsR 5001 _; first | with_reducible assumption | (simp (disch := omega) only [li_0, li_1, li_2, li_3, li_4, li_5, li_6, li_7, li_8, li_9, li_10, li_20, li_30, li_82, li_91, li_273, li_380, li_400, li_512, li_1000, li_2457, li_4000, nI_add, nI_1, nI_mul, nI_sub, shl_1, shl_1b, nI_or, nI_xor, nI_and]; with_reducible exact ⟨_, (by first | omega | exact or9 (by omega) (by omega) | exact xor9 (by omega) (by omega)), rfl⟩) | with_reducible exact ⟨_, (by first | omega | exact or9 (by omega) (by omega) | exact xor9 (by omega) (by omega)), rfl⟩ | exact IsR.mn (by first | with_reducible assumption | exact ⟨_, by omega, rfl⟩) (by first | with_reducible assumption | exact ⟨_, by omega, rfl⟩) | exact IsR.mx (by first | with_reducible assumption | exact ⟨_, by omega, rfl⟩) (by first | with_reducible assumption | exact ⟨_, by omega, rfl⟩) | with_reducible exact mn9 (by omega) | (simp (disch := omega) only [li_0, li_1, li_2, li_3, li_4, li_5, li_6, li_7, li_8, li_9, li_10, li_20, li_30, li_82, li_91, li_273, li_380, li_400, li_512, li_1000, li_2457, li_4000, nI_add, nI_1, nI_mul, nI_sub, shl_1, shl_1b]; with_reducible exact mn9b (by omega)))) ?_
  rintro e13 _ ⟨rfl, hxe13⟩
  exact Ok.ret ⟨rfl, True.intro⟩
set_option maxHeartbeats 4000000 in
set_option maxRecDepth 100000 in
theorem rX6_gateSize {t : St} (hT : TY t) {x : Nat} (g_x : netAt x = true) {a : Int32} : Ok (FX6_gateSize x a t) (fun r u => t = u ∧ (True)) := by
  unfold FX6_gateSize
  refine Ok.ck (by first | assumption | decide +kernel) (fun g_1 => ?_)
  refine Ok.bd _ (rX6_withLineInto hT (by first | assumption | decide +kernel)) ?_
  rintro v1 _ ⟨rfl, hxv1⟩
  refine Ok.bd _ (rJ6_bitCount_0f7a4 hT) ?_
  rintro v4 _ ⟨rfl, hxv4⟩
  exact Ok.ret ⟨rfl, True.intro⟩
set_option maxHeartbeats 4000000 in
set_option maxRecDepth 100000 in
theorem rX6_fringeSize {t : St} (hT : TY t) {x : Nat} (g_x : netAt x = true) {a : Int32} : Ok (FX6_fringeSize x a t) (fun r u => t = u ∧ (True)) := by
  unfold FX6_fringeSize
  refine Ok.ck (by first | assumption | decide +kernel) (fun g_1 => ?_)
  refine Ok.bd _ (rX6_withLineInto hT (by first | assumption | decide +kernel)) ?_
  rintro v1 _ ⟨rfl, hxv1⟩
  refine Ok.bd _ (rJ6_bitCount_0f7a4 hT) ?_
  rintro v4 _ ⟨rfl, hxv4⟩
  exact Ok.ret ⟨rfl, True.intro⟩
set_option maxHeartbeats 4000000 in
set_option maxRecDepth 100000 in
theorem rSX6_cutWeight_43 {t : St} (hT : TY t) {x0 : Nat} (g_x0 : netAt x0 = true) {w1 : Int32} {w3 : Int32} (h_w3 : IsR 9 w3) {w4 : Int32} {a0 : Int32} {a1 : Int32} (h_a1 : IsR 5001 a1) : Ok (wh (SX6_cutWeight_43 x0 w1 w3 w4) (a0, a1) t) (fun r u => t = u ∧ (True)) := by
  obtain ⟨j0, hj0, rfl⟩ := h_a1
  refine Ok.loop (fun k c s => t = s ∧ (∃ j, c.2 = nI j ∧ j ≤ 5000 ∧ 0 ≤ j ∧ k = 5000 - j)) ?_ (5000 - j0) _ _ ⟨rfl, ⟨j0, rfl, by omega, by omega, rfl⟩⟩
  obtain ⟨k_w3, h_w3, rfl⟩ := h_w3
  clear hj0
  intro k c s hI
  obtain ⟨rfl, ⟨j, ej, hj, hlo, rfl⟩⟩ := hI
  obtain ⟨c0, c1⟩ := c
  dsimp only at ej
  subst ej
  unfold SX6_cutWeight_43
  dsimp only
  refine Ok.rdT hT (ty_n0 g_x0) (by omega) (fun k_1 hk_1 ek_1 => ?_)
  refine Ok.ite (fun c_2 => ?_) (fun c_2 => ?_)
  · try simp (disch := omega) only [li_0, li_1, li_2, li_3, li_4, li_5, li_6, li_7, li_8, li_9, li_10, li_20, li_30, li_82, li_91, li_273, li_380, li_400, li_512, li_1000, li_2457, li_4000, nI_add, nI_1, nI_mul, nI_sub, shl_1, shl_1b, nI_leP, nI_ltP, nI_eqP, Nat.not_le, Nat.not_lt] at c_2
    exact Ok.ret ⟨rfl, True.intro⟩
  · try simp (disch := omega) only [li_0, li_1, li_2, li_3, li_4, li_5, li_6, li_7, li_8, li_9, li_10, li_20, li_30, li_82, li_91, li_273, li_380, li_400, li_512, li_1000, li_2457, li_4000, nI_add, nI_1, nI_mul, nI_sub, shl_1, shl_1b, nI_leP, nI_ltP, nI_eqP, Nat.not_le, Nat.not_lt] at c_2
    refine Ok.bd (fun (v17 : Int32) t18 => t = t18 ∧ (True)) ?_ ?_
    · refine Ok.ite (fun c_3 => ?_) (fun c_3 => ?_)
      · try simp (disch := omega) only [li_0, li_1, li_2, li_3, li_4, li_5, li_6, li_7, li_8, li_9, li_10, li_20, li_30, li_82, li_91, li_273, li_380, li_400, li_512, li_1000, li_2457, li_4000, nI_add, nI_1, nI_mul, nI_sub, shl_1, shl_1b, nI_leP, nI_ltP, nI_eqP, Nat.not_le, Nat.not_lt] at c_3
        exact Ok.ret ⟨rfl, True.intro⟩
      · try simp (disch := omega) only [li_0, li_1, li_2, li_3, li_4, li_5, li_6, li_7, li_8, li_9, li_10, li_20, li_30, li_82, li_91, li_273, li_380, li_400, li_512, li_1000, li_2457, li_4000, nI_add, nI_1, nI_mul, nI_sub, shl_1, shl_1b, nI_leP, nI_ltP, nI_eqP, Nat.not_le, Nat.not_lt] at c_3
        refine Ok.bd _ (rX5_weightOf hT (by first | assumption | decide +kernel) (by first | with_reducible assumption | (simp (disch := omega) only [li_0, li_1, li_2, li_3, li_4, li_5, li_6, li_7, li_8, li_9, li_10, li_20, li_30, li_82, li_91, li_273, li_380, li_400, li_512, li_1000, li_2457, li_4000, nI_add, nI_1, nI_mul, nI_sub, shl_1, shl_1b, nI_or, nI_xor, nI_and]; with_reducible exact ⟨_, (by first | omega | exact or9 (by omega) (by omega) | exact xor9 (by omega) (by omega)), rfl⟩) | with_reducible exact ⟨_, (by first | omega | exact or9 (by omega) (by omega) | exact xor9 (by omega) (by omega)), rfl⟩ | exact IsR.mn (by first | with_reducible assumption | exact ⟨_, by omega, rfl⟩) (by first | with_reducible assumption | exact ⟨_, by omega, rfl⟩) | exact IsR.mx (by first | with_reducible assumption | exact ⟨_, by omega, rfl⟩) (by first | with_reducible assumption | exact ⟨_, by omega, rfl⟩) | with_reducible exact mn9 (by omega) | (simp (disch := omega) only [li_0, li_1, li_2, li_3, li_4, li_5, li_6, li_7, li_8, li_9, li_10, li_20, li_30, li_82, li_91, li_273, li_380, li_400, li_512, li_1000, li_2457, li_4000, nI_add, nI_1, nI_mul, nI_sub, shl_1, shl_1b]; with_reducible exact mn9b (by omega))) (by first | with_reducible assumption | (simp (disch := omega) only [li_0, li_1, li_2, li_3, li_4, li_5, li_6, li_7, li_8, li_9, li_10, li_20, li_30, li_82, li_91, li_273, li_380, li_400, li_512, li_1000, li_2457, li_4000, nI_add, nI_1, nI_mul, nI_sub, shl_1, shl_1b, nI_or, nI_xor, nI_and]; with_reducible exact ⟨_, (by first | omega | exact or9 (by omega) (by omega) | exact xor9 (by omega) (by omega)), rfl⟩) | with_reducible exact ⟨_, (by first | omega | exact or9 (by omega) (by omega) | exact xor9 (by omega) (by omega)), rfl⟩ | exact IsR.mn (by first | with_reducible assumption | exact ⟨_, by omega, rfl⟩) (by first | with_reducible assumption | exact ⟨_, by omega, rfl⟩) | exact IsR.mx (by first | with_reducible assumption | exact ⟨_, by omega, rfl⟩) (by first | with_reducible assumption | exact ⟨_, by omega, rfl⟩) | with_reducible exact mn9 (by omega) | (simp (disch := omega) only [li_0, li_1, li_2, li_3, li_4, li_5, li_6, li_7, li_8, li_9, li_10, li_20, li_30, li_82, li_91, li_273, li_380, li_400, li_512, li_1000, li_2457, li_4000, nI_add, nI_1, nI_mul, nI_sub, shl_1, shl_1b]; with_reducible exact mn9b (by omega)))) ?_
        rintro _ _ ⟨rfl, kv21, hv21, rfl⟩
        exact Ok.ret ⟨rfl, True.intro⟩
    · intro v17 t18 hx
      obtain ⟨rfl, hxv17⟩ := hx
      exact Ok.ret ⟨5000 - (j + 1), by omega, rfl, ⟨j + 1, nI_1 j, by omega, by omega, rfl⟩⟩
set_option maxHeartbeats 4000000 in
set_option maxRecDepth 100000 in
theorem rSX6_cutWeight_4 {t : St} (hT : TY t) {x0 : Nat} (g_x0 : netAt x0 = true) {w1 : Int32} {a0 : Int32} {a1 : Int32} (h_a1 : IsR 5001 a1) : Ok (wh (SX6_cutWeight_4 x0 w1) (a0, a1) t) (fun r u => t = u ∧ (True)) := by
  obtain ⟨j0, hj0, rfl⟩ := h_a1
  refine Ok.loop (fun k c s => t = s ∧ (∃ j, c.2 = nI j ∧ j ≤ 5000 ∧ 0 ≤ j ∧ k = 5000 - j)) ?_ (5000 - j0) _ _ ⟨rfl, ⟨j0, rfl, by omega, by omega, rfl⟩⟩
  clear hj0
  intro k c s hI
  obtain ⟨rfl, ⟨j, ej, hj, hlo, rfl⟩⟩ := hI
  obtain ⟨c0, c1⟩ := c
  dsimp only at ej
  subst ej
  unfold SX6_cutWeight_4
  dsimp only
  refine Ok.rdT hT (ty_n0 g_x0) (by omega) (fun k_1 hk_1 ek_1 => ?_)
  refine Ok.ite (fun c_2 => ?_) (fun c_2 => ?_)
  · try simp (disch := omega) only [li_0, li_1, li_2, li_3, li_4, li_5, li_6, li_7, li_8, li_9, li_10, li_20, li_30, li_82, li_91, li_273, li_380, li_400, li_512, li_1000, li_2457, li_4000, nI_add, nI_1, nI_mul, nI_sub, shl_1, shl_1b, nI_leP, nI_ltP, nI_eqP, Nat.not_le, Nat.not_lt] at c_2
    exact Ok.ret ⟨rfl, True.intro⟩
  · try simp (disch := omega) only [li_0, li_1, li_2, li_3, li_4, li_5, li_6, li_7, li_8, li_9, li_10, li_20, li_30, li_82, li_91, li_273, li_380, li_400, li_512, li_1000, li_2457, li_4000, nI_add, nI_1, nI_mul, nI_sub, shl_1, shl_1b, nI_leP, nI_ltP, nI_eqP, Nat.not_le, Nat.not_lt] at c_2
    refine Ok.ck (by first | (simp (disch := omega) only [li_0, li_1, li_2, li_3, li_4, li_5, li_6, li_7, li_8, li_9, li_10, li_20, li_30, li_82, li_91, li_273, li_380, li_400, li_512, li_1000, li_2457, li_4000, nI_add, nI_1, nI_mul, nI_sub, shl_1, shl_1b, nI_or, nI_xor, nI_and]; with_reducible exact inb_n (by first | omega | exact or9 (by omega) (by omega) | exact xor9 (by omega) (by omega)) (by omega)) | with_reducible exact inb_n (by omega) (by omega) | exact IsR.ib (by with_reducible assumption) (by decide) | decide) (fun g_3 => ?_)
    refine Ok.rd (fun v5 hv5 => ?_)
    refine Ok.bd (fun (v8 : Int32) t9 => t = t9 ∧ (True)) ?_ ?_
    · refine Ok.ite (fun c_4 => ?_) (fun c_4 => ?_)
      · try simp (disch := omega) only [li_0, li_1, li_2, li_3, li_4, li_5, li_6, li_7, li_8, li_9, li_10, li_20, li_30, li_82, li_91, li_273, li_380, li_400, li_512, li_1000, li_2457, li_4000, nI_add, nI_1, nI_mul, nI_sub, shl_1, shl_1b, nI_leP, nI_ltP, nI_eqP, Nat.not_le, Nat.not_lt] at c_4
        exact Ok.ret ⟨rfl, True.intro⟩
      · try simp (disch := omega) only [li_0, li_1, li_2, li_3, li_4, li_5, li_6, li_7, li_8, li_9, li_10, li_20, li_30, li_82, li_91, li_273, li_380, li_400, li_512, li_1000, li_2457, li_4000, nI_add, nI_1, nI_mul, nI_sub, shl_1, shl_1b, nI_leP, nI_ltP, nI_eqP, Nat.not_le, Nat.not_lt] at c_4
        refine Ok.ite (fun c_5 => ?_) (fun c_5 => ?_)
        · try simp (disch := omega) only [li_0, li_1, li_2, li_3, li_4, li_5, li_6, li_7, li_8, li_9, li_10, li_20, li_30, li_82, li_91, li_273, li_380, li_400, li_512, li_1000, li_2457, li_4000, nI_add, nI_1, nI_mul, nI_sub, shl_1, shl_1b, nI_leP, nI_ltP, nI_eqP, Nat.not_le, Nat.not_lt] at c_5
          exact Ok.ret ⟨rfl, True.intro⟩
        · try simp (disch := omega) only [li_0, li_1, li_2, li_3, li_4, li_5, li_6, li_7, li_8, li_9, li_10, li_20, li_30, li_82, li_91, li_273, li_380, li_400, li_512, li_1000, li_2457, li_4000, nI_add, nI_1, nI_mul, nI_sub, shl_1, shl_1b, nI_leP, nI_ltP, nI_eqP, Nat.not_le, Nat.not_lt] at c_5
          refine Ok.bd _ (rSX6_cutWeight_43 hT (by first | assumption | decide +kernel) (by first | with_reducible assumption | (simp (disch := omega) only [li_0, li_1, li_2, li_3, li_4, li_5, li_6, li_7, li_8, li_9, li_10, li_20, li_30, li_82, li_91, li_273, li_380, li_400, li_512, li_1000, li_2457, li_4000, nI_add, nI_1, nI_mul, nI_sub, shl_1, shl_1b, nI_or, nI_xor, nI_and]; with_reducible exact ⟨_, (by first | omega | exact or9 (by omega) (by omega) | exact xor9 (by omega) (by omega)), rfl⟩) | with_reducible exact ⟨_, (by first | omega | exact or9 (by omega) (by omega) | exact xor9 (by omega) (by omega)), rfl⟩ | exact IsR.mn (by first | with_reducible assumption | exact ⟨_, by omega, rfl⟩) (by first | with_reducible assumption | exact ⟨_, by omega, rfl⟩) | exact IsR.mx (by first | with_reducible assumption | exact ⟨_, by omega, rfl⟩) (by first | with_reducible assumption | exact ⟨_, by omega, rfl⟩) | with_reducible exact mn9 (by omega) | (simp (disch := omega) only [li_0, li_1, li_2, li_3, li_4, li_5, li_6, li_7, li_8, li_9, li_10, li_20, li_30, li_82, li_91, li_273, li_380, li_400, li_512, li_1000, li_2457, li_4000, nI_add, nI_1, nI_mul, nI_sub, shl_1, shl_1b]; with_reducible exact mn9b (by omega))) (by show IsR 5001 _; first | with_reducible assumption | (simp (disch := omega) only [li_0, li_1, li_2, li_3, li_4, li_5, li_6, li_7, li_8, li_9, li_10, li_20, li_30, li_82, li_91, li_273, li_380, li_400, li_512, li_1000, li_2457, li_4000, nI_add, nI_1, nI_mul, nI_sub, shl_1, shl_1b, nI_or, nI_xor, nI_and]; with_reducible exact ⟨_, (by first | omega | exact or9 (by omega) (by omega) | exact xor9 (by omega) (by omega)), rfl⟩) | with_reducible exact ⟨_, (by first | omega | exact or9 (by omega) (by omega) | exact xor9 (by omega) (by omega)), rfl⟩ | exact IsR.mn (by first | with_reducible assumption | exact ⟨_, by omega, rfl⟩) (by first | with_reducible assumption | exact ⟨_, by omega, rfl⟩) | exact IsR.mx (by first | with_reducible assumption | exact ⟨_, by omega, rfl⟩) (by first | with_reducible assumption | exact ⟨_, by omega, rfl⟩) | with_reducible exact mn9 (by omega) | (simp (disch := omega) only [li_0, li_1, li_2, li_3, li_4, li_5, li_6, li_7, li_8, li_9, li_10, li_20, li_30, li_82, li_91, li_273, li_380, li_400, li_512, li_1000, li_2457, li_4000, nI_add, nI_1, nI_mul, nI_sub, shl_1, shl_1b]; with_reducible exact mn9b (by omega)))) ?_
          rintro e24 _ ⟨rfl, hxe24⟩
          exact Ok.ret ⟨rfl, True.intro⟩
    · intro v8 t9 hx
      obtain ⟨rfl, hxv8⟩ := hx
      exact Ok.ret ⟨5000 - (j + 1), by omega, rfl, ⟨j + 1, nI_1 j, by omega, by omega, rfl⟩⟩
set_option maxHeartbeats 4000000 in
set_option maxRecDepth 100000 in
theorem rX6_cutWeight {t : St} (hT : TY t) {x : Nat} (g_x : netAt x = true) {a : Int32} : Ok (FX6_cutWeight x a t) (fun r u => t = u ∧ (True)) := by
  unfold FX6_cutWeight
  refine Ok.ck (by first | assumption | decide +kernel) (fun g_1 => ?_)
  refine Ok.bd _ (rSX6_cutWeight_4 hT (by first | assumption | decide +kernel) (by show IsR 5001 _; first | with_reducible assumption | (simp (disch := omega) only [li_0, li_1, li_2, li_3, li_4, li_5, li_6, li_7, li_8, li_9, li_10, li_20, li_30, li_82, li_91, li_273, li_380, li_400, li_512, li_1000, li_2457, li_4000, nI_add, nI_1, nI_mul, nI_sub, shl_1, shl_1b, nI_or, nI_xor, nI_and]; with_reducible exact ⟨_, (by first | omega | exact or9 (by omega) (by omega) | exact xor9 (by omega) (by omega)), rfl⟩) | with_reducible exact ⟨_, (by first | omega | exact or9 (by omega) (by omega) | exact xor9 (by omega) (by omega)), rfl⟩ | exact IsR.mn (by first | with_reducible assumption | exact ⟨_, by omega, rfl⟩) (by first | with_reducible assumption | exact ⟨_, by omega, rfl⟩) | exact IsR.mx (by first | with_reducible assumption | exact ⟨_, by omega, rfl⟩) (by first | with_reducible assumption | exact ⟨_, by omega, rfl⟩) | with_reducible exact mn9 (by omega) | (simp (disch := omega) only [li_0, li_1, li_2, li_3, li_4, li_5, li_6, li_7, li_8, li_9, li_10, li_20, li_30, li_82, li_91, li_273, li_380, li_400, li_512, li_1000, li_2457, li_4000, nI_add, nI_1, nI_mul, nI_sub, shl_1, shl_1b]; with_reducible exact mn9b (by omega)))) ?_
  rintro e28 _ ⟨rfl, hxe28⟩
  exact Ok.ret ⟨rfl, True.intro⟩
set_option maxHeartbeats 4000000 in
set_option maxRecDepth 100000 in
theorem rSX6_neighbours_50 {t : St} (hT : TY t) {x0 : Nat} (g_x0 : netAt x0 = true) {w1 : Int32} {w2 : Int32} (h_w2 : IsR 9 w2) {w4 : Int32} {w5 : Int32} (h_w5 : IsR 9 w5) {w6 : Int32} {a0 : Int32} {a1 : Int32} (h_a1 : IsR 5001 a1) : Ok (wh (SX6_neighbours_50 x0 w1 w2 w4 w5 w6) (a0, a1) t) (fun r u => t = u ∧ (True)) := by
  obtain ⟨j0, hj0, rfl⟩ := h_a1
  refine Ok.loop (fun k c s => t = s ∧ (∃ j, c.2 = nI j ∧ j ≤ 5000 ∧ 0 ≤ j ∧ k = 5000 - j)) ?_ (5000 - j0) _ _ ⟨rfl, ⟨j0, rfl, by omega, by omega, rfl⟩⟩
  obtain ⟨k_w2, h_w2, rfl⟩ := h_w2
  obtain ⟨k_w5, h_w5, rfl⟩ := h_w5
  clear hj0
  intro k c s hI
  obtain ⟨rfl, ⟨j, ej, hj, hlo, rfl⟩⟩ := hI
  obtain ⟨c0, c1⟩ := c
  dsimp only at ej
  subst ej
  unfold SX6_neighbours_50
  dsimp only
  refine Ok.rdT hT (ty_n0 g_x0) (by omega) (fun k_1 hk_1 ek_1 => ?_)
  refine Ok.ite (fun c_2 => ?_) (fun c_2 => ?_)
  · try simp (disch := omega) only [li_0, li_1, li_2, li_3, li_4, li_5, li_6, li_7, li_8, li_9, li_10, li_20, li_30, li_82, li_91, li_273, li_380, li_400, li_512, li_1000, li_2457, li_4000, nI_add, nI_1, nI_mul, nI_sub, shl_1, shl_1b, nI_leP, nI_ltP, nI_eqP, Nat.not_le, Nat.not_lt] at c_2
    exact Ok.ret ⟨rfl, True.intro⟩
  · try simp (disch := omega) only [li_0, li_1, li_2, li_3, li_4, li_5, li_6, li_7, li_8, li_9, li_10, li_20, li_30, li_82, li_91, li_273, li_380, li_400, li_512, li_1000, li_2457, li_4000, nI_add, nI_1, nI_mul, nI_sub, shl_1, shl_1b, nI_leP, nI_ltP, nI_eqP, Nat.not_le, Nat.not_lt] at c_2
    refine Ok.bd (fun (v12 : Int32) t13 => t = t13 ∧ (True)) ?_ ?_
    · refine Ok.ite (fun c_3 => ?_) (fun c_3 => ?_)
      · try simp (disch := omega) only [li_0, li_1, li_2, li_3, li_4, li_5, li_6, li_7, li_8, li_9, li_10, li_20, li_30, li_82, li_91, li_273, li_380, li_400, li_512, li_1000, li_2457, li_4000, nI_add, nI_1, nI_mul, nI_sub, shl_1, shl_1b, nI_leP, nI_ltP, nI_eqP, Nat.not_le, Nat.not_lt] at c_3
        exact Ok.ret ⟨rfl, True.intro⟩
      · try simp (disch := omega) only [li_0, li_1, li_2, li_3, li_4, li_5, li_6, li_7, li_8, li_9, li_10, li_20, li_30, li_82, li_91, li_273, li_380, li_400, li_512, li_1000, li_2457, li_4000, nI_add, nI_1, nI_mul, nI_sub, shl_1, shl_1b, nI_leP, nI_ltP, nI_eqP, Nat.not_le, Nat.not_lt] at c_3
        refine Ok.ck (by first | (simp (disch := omega) only [li_0, li_1, li_2, li_3, li_4, li_5, li_6, li_7, li_8, li_9, li_10, li_20, li_30, li_82, li_91, li_273, li_380, li_400, li_512, li_1000, li_2457, li_4000, nI_add, nI_1, nI_mul, nI_sub, shl_1, shl_1b, nI_or, nI_xor, nI_and]; with_reducible exact inb_n (by first | omega | exact or9 (by omega) (by omega) | exact xor9 (by omega) (by omega)) (by omega)) | with_reducible exact inb_n (by omega) (by omega) | exact IsR.ib (by with_reducible assumption) (by decide) | decide) (fun g_4 => ?_)
        refine Ok.rd (fun v17 hv17 => ?_)
        exact Ok.ret ⟨rfl, True.intro⟩
    · intro v12 t13 hx
      obtain ⟨rfl, hxv12⟩ := hx
      exact Ok.ret ⟨5000 - (j + 1), by omega, rfl, ⟨j + 1, nI_1 j, by omega, by omega, rfl⟩⟩
set_option maxHeartbeats 4000000 in
set_option maxRecDepth 100000 in
theorem rSX6_neighbours_13 {t : St} (hT : TY t) {x0 : Nat} (g_x0 : netAt x0 = true) {w1 : Int32} {w2 : Int32} (h_w2 : IsR 9 w2) {a0 : Int32} {a1 : Int32} {a2 : Int32} (h_a2 : IsR 5001 a2) : Ok (wh (SX6_neighbours_13 x0 w1 w2) (a0, a1, a2) t) (fun r u => t = u ∧ (True)) := by
  obtain ⟨j0, hj0, rfl⟩ := h_a2
  refine Ok.loop (fun k c s => t = s ∧ (∃ j, c.2.2 = nI j ∧ j ≤ 5000 ∧ 0 ≤ j ∧ k = 5000 - j)) ?_ (5000 - j0) _ _ ⟨rfl, ⟨j0, rfl, by omega, by omega, rfl⟩⟩
  obtain ⟨k_w2, h_w2, rfl⟩ := h_w2
  clear hj0
  intro k c s hI
  obtain ⟨rfl, ⟨j, ej, hj, hlo, rfl⟩⟩ := hI
  obtain ⟨c0, c1, c2⟩ := c
  dsimp only at ej
  subst ej
  unfold SX6_neighbours_13
  dsimp only
  refine Ok.rdT hT (ty_n0 g_x0) (by omega) (fun k_1 hk_1 ek_1 => ?_)
  refine Ok.ite (fun c_2 => ?_) (fun c_2 => ?_)
  · try simp (disch := omega) only [li_0, li_1, li_2, li_3, li_4, li_5, li_6, li_7, li_8, li_9, li_10, li_20, li_30, li_82, li_91, li_273, li_380, li_400, li_512, li_1000, li_2457, li_4000, nI_add, nI_1, nI_mul, nI_sub, shl_1, shl_1b, nI_leP, nI_ltP, nI_eqP, Nat.not_le, Nat.not_lt] at c_2
    exact Ok.ret ⟨rfl, True.intro⟩
  · try simp (disch := omega) only [li_0, li_1, li_2, li_3, li_4, li_5, li_6, li_7, li_8, li_9, li_10, li_20, li_30, li_82, li_91, li_273, li_380, li_400, li_512, li_1000, li_2457, li_4000, nI_add, nI_1, nI_mul, nI_sub, shl_1, shl_1b, nI_leP, nI_ltP, nI_eqP, Nat.not_le, Nat.not_lt] at c_2
    refine Ok.ite (fun c_3 => ?_) (fun c_3 => ?_)
    · try simp (disch := omega) only [li_0, li_1, li_2, li_3, li_4, li_5, li_6, li_7, li_8, li_9, li_10, li_20, li_30, li_82, li_91, li_273, li_380, li_400, li_512, li_1000, li_2457, li_4000, nI_add, nI_1, nI_mul, nI_sub, shl_1, shl_1b, nI_leP, nI_ltP, nI_eqP, Nat.not_le, Nat.not_lt] at c_3
      exact Ok.ret ⟨rfl, True.intro⟩
    · try simp (disch := omega) only [li_0, li_1, li_2, li_3, li_4, li_5, li_6, li_7, li_8, li_9, li_10, li_20, li_30, li_82, li_91, li_273, li_380, li_400, li_512, li_1000, li_2457, li_4000, nI_add, nI_1, nI_mul, nI_sub, shl_1, shl_1b, nI_leP, nI_ltP, nI_eqP, Nat.not_le, Nat.not_lt] at c_3
      refine Ok.bd _ (rSX6_neighbours_50 hT (by first | assumption | decide +kernel) (by first | with_reducible assumption | (simp (disch := omega) only [li_0, li_1, li_2, li_3, li_4, li_5, li_6, li_7, li_8, li_9, li_10, li_20, li_30, li_82, li_91, li_273, li_380, li_400, li_512, li_1000, li_2457, li_4000, nI_add, nI_1, nI_mul, nI_sub, shl_1, shl_1b, nI_or, nI_xor, nI_and]; with_reducible exact ⟨_, (by first | omega | exact or9 (by omega) (by omega) | exact xor9 (by omega) (by omega)), rfl⟩) | with_reducible exact ⟨_, (by first | omega | exact or9 (by omega) (by omega) | exact xor9 (by omega) (by omega)), rfl⟩ | exact IsR.mn (by first | with_reducible assumption | exact ⟨_, by omega, rfl⟩) (by first | with_reducible assumption | exact ⟨_, by omega, rfl⟩) | exact IsR.mx (by first | with_reducible assumption | exact ⟨_, by omega, rfl⟩) (by first | with_reducible assumption | exact ⟨_, by omega, rfl⟩) | with_reducible exact mn9 (by omega) | (simp (disch := omega) only [li_0, li_1, li_2, li_3, li_4, li_5, li_6, li_7, li_8, li_9, li_10, li_20, li_30, li_82, li_91, li_273, li_380, li_400, li_512, li_1000, li_2457, li_4000, nI_add, nI_1, nI_mul, nI_sub, shl_1, shl_1b]; with_reducible exact mn9b (by omega))) (by first | with_reducible assumption | (simp (disch := omega) only [li_0, li_1, li_2, li_3, li_4, li_5, li_6, li_7, li_8, li_9, li_10, li_20, li_30, li_82, li_91, li_273, li_380, li_400, li_512, li_1000, li_2457, li_4000, nI_add, nI_1, nI_mul, nI_sub, shl_1, shl_1b, nI_or, nI_xor, nI_and]; with_reducible exact ⟨_, (by first | omega | exact or9 (by omega) (by omega) | exact xor9 (by omega) (by omega)), rfl⟩) | with_reducible exact ⟨_, (by first | omega | exact or9 (by omega) (by omega) | exact xor9 (by omega) (by omega)), rfl⟩ | exact IsR.mn (by first | with_reducible assumption | exact ⟨_, by omega, rfl⟩) (by first | with_reducible assumption | exact ⟨_, by omega, rfl⟩) | exact IsR.mx (by first | with_reducible assumption | exact ⟨_, by omega, rfl⟩) (by first | with_reducible assumption | exact ⟨_, by omega, rfl⟩) | with_reducible exact mn9 (by omega) | (simp (disch := omega) only [li_0, li_1, li_2, li_3, li_4, li_5, li_6, li_7, li_8, li_9, li_10, li_20, li_30, li_82, li_91, li_273, li_380, li_400, li_512, li_1000, li_2457, li_4000, nI_add, nI_1, nI_mul, nI_sub, shl_1, shl_1b]; with_reducible exact mn9b (by omega))) (by show IsR 5001 _; first | with_reducible assumption | (simp (disch := omega) only [li_0, li_1, li_2, li_3, li_4, li_5, li_6, li_7, li_8, li_9, li_10, li_20, li_30, li_82, li_91, li_273, li_380, li_400, li_512, li_1000, li_2457, li_4000, nI_add, nI_1, nI_mul, nI_sub, shl_1, shl_1b, nI_or, nI_xor, nI_and]; with_reducible exact ⟨_, (by first | omega | exact or9 (by omega) (by omega) | exact xor9 (by omega) (by omega)), rfl⟩) | with_reducible exact ⟨_, (by first | omega | exact or9 (by omega) (by omega) | exact xor9 (by omega) (by omega)), rfl⟩ | exact IsR.mn (by first | with_reducible assumption | exact ⟨_, by omega, rfl⟩) (by first | with_reducible assumption | exact ⟨_, by omega, rfl⟩) | exact IsR.mx (by first | with_reducible assumption | exact ⟨_, by omega, rfl⟩) (by first | with_reducible assumption | exact ⟨_, by omega, rfl⟩) | with_reducible exact mn9 (by omega) | (simp (disch := omega) only [li_0, li_1, li_2, li_3, li_4, li_5, li_6, li_7, li_8, li_9, li_10, li_20, li_30, li_82, li_91, li_273, li_380, li_400, li_512, li_1000, li_2457, li_4000, nI_add, nI_1, nI_mul, nI_sub, shl_1, shl_1b]; with_reducible exact mn9b (by omega)))) ?_
      rintro e19 _ ⟨rfl, hxe19⟩
      exact Ok.ret ⟨5000 - (j + 1), by omega, rfl, ⟨j + 1, nI_1 j, by omega, by omega, rfl⟩⟩
set_option maxHeartbeats 4000000 in
set_option maxRecDepth 100000 in
theorem rX6_neighbours {t : St} (hT : TY t) {x : Nat} (g_x : netAt x = true) {a : Int32} {b : Int32} (h_b : IsR 9 b) : Ok (FX6_neighbours x a b t) (fun r u => t = u ∧ (True)) := by
  obtain ⟨k_b, h_b, rfl⟩ := h_b
  unfold FX6_neighbours
  refine Ok.ck (by first | assumption | decide +kernel) (fun g_1 => ?_)
  refine Ok.ck (by first | (simp (disch := omega) only [li_0, li_1, li_2, li_3, li_4, li_5, li_6, li_7, li_8, li_9, li_10, li_20, li_30, li_82, li_91, li_273, li_380, li_400, li_512, li_1000, li_2457, li_4000, nI_add, nI_1, nI_mul, nI_sub, shl_1, shl_1b, nI_or, nI_xor, nI_and]; with_reducible exact inb_n (by first | omega | exact or9 (by omega) (by omega) | exact xor9 (by omega) (by omega)) (by omega)) | with_reducible exact inb_n (by omega) (by omega) | exact IsR.ib (by with_reducible assumption) (by decide) | decide) (fun g_2 => ?_)
  refine Ok.rd (fun v2 hv2 => ?_)
  refine Ok.bd _ (rSX6_neighbours_13 hT (by first | assumption | decide +kernel) (by first | with_reducible assumption | (simp (disch := omega) only [li_0, li_1, li_2, li_3, li_4, li_5, li_6, li_7, li_8, li_9, li_10, li_20, li_30, li_82, li_91, li_273, li_380, li_400, li_512, li_1000, li_2457, li_4000, nI_add, nI_1, nI_mul, nI_sub, shl_1, shl_1b, nI_or, nI_xor, nI_and]; with_reducible exact ⟨_, (by first | omega | exact or9 (by omega) (by omega) | exact xor9 (by omega) (by omega)), rfl⟩) | with_reducible exact ⟨_, (by first | omega | exact or9 (by omega) (by omega) | exact xor9 (by omega) (by omega)), rfl⟩ | exact IsR.mn (by first | with_reducible assumption | exact ⟨_, by omega, rfl⟩) (by first | with_reducible assumption | exact ⟨_, by omega, rfl⟩) | exact IsR.mx (by first | with_reducible assumption | exact ⟨_, by omega, rfl⟩) (by first | with_reducible assumption | exact ⟨_, by omega, rfl⟩) | with_reducible exact mn9 (by omega) | (simp (disch := omega) only [li_0, li_1, li_2, li_3, li_4, li_5, li_6, li_7, li_8, li_9, li_10, li_20, li_30, li_82, li_91, li_273, li_380, li_400, li_512, li_1000, li_2457, li_4000, nI_add, nI_1, nI_mul, nI_sub, shl_1, shl_1b]; with_reducible exact mn9b (by omega))) (by show IsR 5001 _; first | with_reducible assumption | (simp (disch := omega) only [li_0, li_1, li_2, li_3, li_4, li_5, li_6, li_7, li_8, li_9, li_10, li_20, li_30, li_82, li_91, li_273, li_380, li_400, li_512, li_1000, li_2457, li_4000, nI_add, nI_1, nI_mul, nI_sub, shl_1, shl_1b, nI_or, nI_xor, nI_and]; with_reducible exact ⟨_, (by first | omega | exact or9 (by omega) (by omega) | exact xor9 (by omega) (by omega)), rfl⟩) | with_reducible exact ⟨_, (by first | omega | exact or9 (by omega) (by omega) | exact xor9 (by omega) (by omega)), rfl⟩ | exact IsR.mn (by first | with_reducible assumption | exact ⟨_, by omega, rfl⟩) (by first | with_reducible assumption | exact ⟨_, by omega, rfl⟩) | exact IsR.mx (by first | with_reducible assumption | exact ⟨_, by omega, rfl⟩) (by first | with_reducible assumption | exact ⟨_, by omega, rfl⟩) | with_reducible exact mn9 (by omega) | (simp (disch := omega) only [li_0, li_1, li_2, li_3, li_4, li_5, li_6, li_7, li_8, li_9, li_10, li_20, li_30, li_82, li_91, li_273, li_380, li_400, li_512, li_1000, li_2457, li_4000, nI_add, nI_1, nI_mul, nI_sub, shl_1, shl_1b]; with_reducible exact mn9b (by omega)))) ?_
  rintro e23 _ ⟨rfl, hxe23⟩
  exact Ok.ret ⟨rfl, True.intro⟩
set_option maxHeartbeats 4000000 in
set_option maxRecDepth 100000 in
theorem rSX6_newLines_13 {t : St} (hT : TY t) {x0 : Nat} (g_x0 : netAt x0 = true) {w1 : Int32} {w3 : Int32} {a0 : Int32} {a1 : Int32} (h_a1 : IsR 5001 a1) : Ok (wh (SX6_newLines_13 x0 w1 w3) (a0, a1) t) (fun r u => t = u ∧ (True)) := by
  obtain ⟨j0, hj0, rfl⟩ := h_a1
  refine Ok.loop (fun k c s => t = s ∧ (∃ j, c.2 = nI j ∧ j ≤ 5000 ∧ 0 ≤ j ∧ k = 5000 - j)) ?_ (5000 - j0) _ _ ⟨rfl, ⟨j0, rfl, by omega, by omega, rfl⟩⟩
  clear hj0
  intro k c s hI
  obtain ⟨rfl, ⟨j, ej, hj, hlo, rfl⟩⟩ := hI
  obtain ⟨c0, c1⟩ := c
  dsimp only at ej
  subst ej
  unfold SX6_newLines_13
  dsimp only
  refine Ok.rdT hT (ty_n0 g_x0) (by omega) (fun k_1 hk_1 ek_1 => ?_)
  refine Ok.ite (fun c_2 => ?_) (fun c_2 => ?_)
  · try simp (disch := omega) only [li_0, li_1, li_2, li_3, li_4, li_5, li_6, li_7, li_8, li_9, li_10, li_20, li_30, li_82, li_91, li_273, li_380, li_400, li_512, li_1000, li_2457, li_4000, nI_add, nI_1, nI_mul, nI_sub, shl_1, shl_1b, nI_leP, nI_ltP, nI_eqP, Nat.not_le, Nat.not_lt] at c_2
    exact Ok.ret ⟨rfl, True.intro⟩
  · try simp (disch := omega) only [li_0, li_1, li_2, li_3, li_4, li_5, li_6, li_7, li_8, li_9, li_10, li_20, li_30, li_82, li_91, li_273, li_380, li_400, li_512, li_1000, li_2457, li_4000, nI_add, nI_1, nI_mul, nI_sub, shl_1, shl_1b, nI_leP, nI_ltP, nI_eqP, Nat.not_le, Nat.not_lt] at c_2
    refine Ok.bd (fun (v8 : Int32) t9 => t = t9 ∧ (True)) ?_ ?_
    · refine Ok.ite (fun c_3 => ?_) (fun c_3 => ?_)
      · try simp (disch := omega) only [li_0, li_1, li_2, li_3, li_4, li_5, li_6, li_7, li_8, li_9, li_10, li_20, li_30, li_82, li_91, li_273, li_380, li_400, li_512, li_1000, li_2457, li_4000, nI_add, nI_1, nI_mul, nI_sub, shl_1, shl_1b, nI_leP, nI_ltP, nI_eqP, Nat.not_le, Nat.not_lt] at c_3
        exact Ok.ret ⟨rfl, True.intro⟩
      · try simp (disch := omega) only [li_0, li_1, li_2, li_3, li_4, li_5, li_6, li_7, li_8, li_9, li_10, li_20, li_30, li_82, li_91, li_273, li_380, li_400, li_512, li_1000, li_2457, li_4000, nI_add, nI_1, nI_mul, nI_sub, shl_1, shl_1b, nI_leP, nI_ltP, nI_eqP, Nat.not_le, Nat.not_lt] at c_3
        refine Ok.bd _ (rX6_aboveOf hT) ?_
        rintro v23 _ ⟨rfl, hxv23⟩
        exact Ok.ret ⟨rfl, True.intro⟩
    · intro v8 t9 hx
      obtain ⟨rfl, hxv8⟩ := hx
      refine Ok.bd (fun (v13 : Int32) t14 => t = t14 ∧ (True)) ?_ ?_
      · refine Ok.ite (fun c_5 => ?_) (fun c_5 => ?_)
        · try simp (disch := omega) only [li_0, li_1, li_2, li_3, li_4, li_5, li_6, li_7, li_8, li_9, li_10, li_20, li_30, li_82, li_91, li_273, li_380, li_400, li_512, li_1000, li_2457, li_4000, nI_add, nI_1, nI_mul, nI_sub, shl_1, shl_1b, nI_leP, nI_ltP, nI_eqP, Nat.not_le, Nat.not_lt] at c_5
          exact Ok.ret ⟨rfl, True.intro⟩
        · try simp (disch := omega) only [li_0, li_1, li_2, li_3, li_4, li_5, li_6, li_7, li_8, li_9, li_10, li_20, li_30, li_82, li_91, li_273, li_380, li_400, li_512, li_1000, li_2457, li_4000, nI_add, nI_1, nI_mul, nI_sub, shl_1, shl_1b, nI_leP, nI_ltP, nI_eqP, Nat.not_le, Nat.not_lt] at c_5
          refine Ok.bd _ (rX6_neighbours hT (by first | assumption | decide +kernel) (by first | with_reducible assumption | (simp (disch := omega) only [li_0, li_1, li_2, li_3, li_4, li_5, li_6, li_7, li_8, li_9, li_10, li_20, li_30, li_82, li_91, li_273, li_380, li_400, li_512, li_1000, li_2457, li_4000, nI_add, nI_1, nI_mul, nI_sub, shl_1, shl_1b, nI_or, nI_xor, nI_and]; with_reducible exact ⟨_, (by first | omega | exact or9 (by omega) (by omega) | exact xor9 (by omega) (by omega)), rfl⟩) | with_reducible exact ⟨_, (by first | omega | exact or9 (by omega) (by omega) | exact xor9 (by omega) (by omega)), rfl⟩ | exact IsR.mn (by first | with_reducible assumption | exact ⟨_, by omega, rfl⟩) (by first | with_reducible assumption | exact ⟨_, by omega, rfl⟩) | exact IsR.mx (by first | with_reducible assumption | exact ⟨_, by omega, rfl⟩) (by first | with_reducible assumption | exact ⟨_, by omega, rfl⟩) | with_reducible exact mn9 (by omega) | (simp (disch := omega) only [li_0, li_1, li_2, li_3, li_4, li_5, li_6, li_7, li_8, li_9, li_10, li_20, li_30, li_82, li_91, li_273, li_380, li_400, li_512, li_1000, li_2457, li_4000, nI_add, nI_1, nI_mul, nI_sub, shl_1, shl_1b]; with_reducible exact mn9b (by omega)))) ?_
          rintro v17 _ ⟨rfl, hxv17⟩
          refine Ok.bd _ (rJ6_bitCount_0f7a4 hT) ?_
          rintro v20 _ ⟨rfl, hxv20⟩
          exact Ok.ret ⟨rfl, True.intro⟩
      · intro v13 t14 hx
        obtain ⟨rfl, hxv13⟩ := hx
        exact Ok.ret ⟨5000 - (j + 1), by omega, rfl, ⟨j + 1, nI_1 j, by omega, by omega, rfl⟩⟩
set_option maxHeartbeats 4000000 in
set_option maxRecDepth 100000 in
theorem rX6_newLines {t : St} (hT : TY t) {x : Nat} (g_x : netAt x = true) {a : Int32} {b : Int32} (h_b : IsR 9 b) : Ok (FX6_newLines x a b t) (fun r u => t = u ∧ (True)) := by
  obtain ⟨k_b, h_b, rfl⟩ := h_b
  unfold FX6_newLines
  refine Ok.ck (by first | assumption | decide +kernel) (fun g_1 => ?_)
  refine Ok.bd _ (rX6_neighbours hT (by first | assumption | decide +kernel) (by first | with_reducible assumption | (simp (disch := omega) only [li_0, li_1, li_2, li_3, li_4, li_5, li_6, li_7, li_8, li_9, li_10, li_20, li_30, li_82, li_91, li_273, li_380, li_400, li_512, li_1000, li_2457, li_4000, nI_add, nI_1, nI_mul, nI_sub, shl_1, shl_1b, nI_or, nI_xor, nI_and]; with_reducible exact ⟨_, (by first | omega | exact or9 (by omega) (by omega) | exact xor9 (by omega) (by omega)), rfl⟩) | with_reducible exact ⟨_, (by first | omega | exact or9 (by omega) (by omega) | exact xor9 (by omega) (by omega)), rfl⟩ | exact IsR.mn (by first | with_reducible assumption | exact ⟨_, by omega, rfl⟩) (by first | with_reducible assumption | exact ⟨_, by omega, rfl⟩) | exact IsR.mx (by first | with_reducible assumption | exact ⟨_, by omega, rfl⟩) (by first | with_reducible assumption | exact ⟨_, by omega, rfl⟩) | with_reducible exact mn9 (by omega) | (simp (disch := omega) only [li_0, li_1, li_2, li_3, li_4, li_5, li_6, li_7, li_8, li_9, li_10, li_20, li_30, li_82, li_91, li_273, li_380, li_400, li_512, li_1000, li_2457, li_4000, nI_add, nI_1, nI_mul, nI_sub, shl_1, shl_1b]; with_reducible exact mn9b (by omega)))) ?_
  rintro v1 _ ⟨rfl, hxv1⟩
  refine Ok.bd _ (rSX6_newLines_13 hT (by first | assumption | decide +kernel) (by show IsR 5001 _; first | with_reducible assumption | (simp (disch := omega) only [li_0, li_1, li_2, li_3, li_4, li_5, li_6, li_7, li_8, li_9, li_10, li_20, li_30, li_82, li_91, li_273, li_380, li_400, li_512, li_1000, li_2457, li_4000, nI_add, nI_1, nI_mul, nI_sub, shl_1, shl_1b, nI_or, nI_xor, nI_and]; with_reducible exact ⟨_, (by first | omega | exact or9 (by omega) (by omega) | exact xor9 (by omega) (by omega)), rfl⟩) | with_reducible exact ⟨_, (by first | omega | exact or9 (by omega) (by omega) | exact xor9 (by omega) (by omega)), rfl⟩ | exact IsR.mn (by first | with_reducible assumption | exact ⟨_, by omega, rfl⟩) (by first | with_reducible assumption | exact ⟨_, by omega, rfl⟩) | exact IsR.mx (by first | with_reducible assumption | exact ⟨_, by omega, rfl⟩) (by first | with_reducible assumption | exact ⟨_, by omega, rfl⟩) | with_reducible exact mn9 (by omega) | (simp (disch := omega) only [li_0, li_1, li_2, li_3, li_4, li_5, li_6, li_7, li_8, li_9, li_10, li_20, li_30, li_82, li_91, li_273, li_380, li_400, li_512, li_1000, li_2457, li_4000, nI_add, nI_1, nI_mul, nI_sub, shl_1, shl_1b]; with_reducible exact mn9b (by omega)))) ?_
  rintro e26 _ ⟨rfl, hxe26⟩
  exact Ok.ret ⟨rfl, True.intro⟩
set_option maxHeartbeats 4000000 in
set_option maxRecDepth 100000 in
theorem rSX10_weightAt_4 {t : St} (hT : TY t) {x0 : Nat} (g_x0 : netAt x0 = true) {w1 : Int32} (h_w1 : IsR 9 w1) {a0 : Int32} {a1 : Int32} (h_a1 : IsR 5001 a1) : Ok (wh (SX10_weightAt_4 x0 w1) (a0, a1) t) (fun r u => t = u ∧ (True)) := by
  obtain ⟨j0, hj0, rfl⟩ := h_a1
  refine Ok.loop (fun k c s => t = s ∧ (∃ j, c.2 = nI j ∧ j ≤ 5000 ∧ 0 ≤ j ∧ k = 5000 - j)) ?_ (5000 - j0) _ _ ⟨rfl, ⟨j0, rfl, by omega, by omega, rfl⟩⟩
  obtain ⟨k_w1, h_w1, rfl⟩ := h_w1
  clear hj0
  intro k c s hI
  obtain ⟨rfl, ⟨j, ej, hj, hlo, rfl⟩⟩ := hI
  obtain ⟨c0, c1⟩ := c
  dsimp only at ej
  subst ej
  unfold SX10_weightAt_4
  dsimp only
  refine Ok.rdT hT (ty_n0 g_x0) (by omega) (fun k_1 hk_1 ek_1 => ?_)
  refine Ok.ite (fun c_2 => ?_) (fun c_2 => ?_)
  · try simp (disch := omega) only [li_0, li_1, li_2, li_3, li_4, li_5, li_6, li_7, li_8, li_9, li_10, li_20, li_30, li_82, li_91, li_273, li_380, li_400, li_512, li_1000, li_2457, li_4000, nI_add, nI_1, nI_mul, nI_sub, shl_1, shl_1b, nI_leP, nI_ltP, nI_eqP, Nat.not_le, Nat.not_lt] at c_2
    exact Ok.ret ⟨rfl, True.intro⟩
  · try simp (disch := omega) only [li_0, li_1, li_2, li_3, li_4, li_5, li_6, li_7, li_8, li_9, li_10, li_20, li_30, li_82, li_91, li_273, li_380, li_400, li_512, li_1000, li_2457, li_4000, nI_add, nI_1, nI_mul, nI_sub, shl_1, shl_1b, nI_leP, nI_ltP, nI_eqP, Nat.not_le, Nat.not_lt] at c_2
    refine Ok.bd _ (rX5_weightOf hT (by first | assumption | decide +kernel) (by first | with_reducible assumption | (simp (disch := omega) only [li_0, li_1, li_2, li_3, li_4, li_5, li_6, li_7, li_8, li_9, li_10, li_20, li_30, li_82, li_91, li_273, li_380, li_400, li_512, li_1000, li_2457, li_4000, nI_add, nI_1, nI_mul, nI_sub, shl_1, shl_1b, nI_or, nI_xor, nI_and]; with_reducible exact ⟨_, (by first | omega | exact or9 (by omega) (by omega) | exact xor9 (by omega) (by omega)), rfl⟩) | with_reducible exact ⟨_, (by first | omega | exact or9 (by omega) (by omega) | exact xor9 (by omega) (by omega)), rfl⟩ | exact IsR.mn (by first | with_reducible assumption | exact ⟨_, by omega, rfl⟩) (by first | with_reducible assumption | exact ⟨_, by omega, rfl⟩) | exact IsR.mx (by first | with_reducible assumption | exact ⟨_, by omega, rfl⟩) (by first | with_reducible assumption | exact ⟨_, by omega, rfl⟩) | with_reducible exact mn9 (by omega) | (simp (disch := omega) only [li_0, li_1, li_2, li_3, li_4, li_5, li_6, li_7, li_8, li_9, li_10, li_20, li_30, li_82, li_91, li_273, li_380, li_400, li_512, li_1000, li_2457, li_4000, nI_add, nI_1, nI_mul, nI_sub, shl_1, shl_1b]; with_reducible exact mn9b (by omega))) (by first | with_reducible assumption | (simp (disch := omega) only [li_0, li_1, li_2, li_3, li_4, li_5, li_6, li_7, li_8, li_9, li_10, li_20, li_30, li_82, li_91, li_273, li_380, li_400, li_512, li_1000, li_2457, li_4000, nI_add, nI_1, nI_mul, nI_sub, shl_1, shl_1b, nI_or, nI_xor, nI_and]; with_reducible exact ⟨_, (by first | omega | exact or9 (by omega) (by omega) | exact xor9 (by omega) (by omega)), rfl⟩) | with_reducible exact ⟨_, (by first | omega | exact or9 (by omega) (by omega) | exact xor9 (by omega) (by omega)), rfl⟩ | exact IsR.mn (by first | with_reducible assumption | exact ⟨_, by omega, rfl⟩) (by first | with_reducible assumption | exact ⟨_, by omega, rfl⟩) | exact IsR.mx (by first | with_reducible assumption | exact ⟨_, by omega, rfl⟩) (by first | with_reducible assumption | exact ⟨_, by omega, rfl⟩) | with_reducible exact mn9 (by omega) | (simp (disch := omega) only [li_0, li_1, li_2, li_3, li_4, li_5, li_6, li_7, li_8, li_9, li_10, li_20, li_30, li_82, li_91, li_273, li_380, li_400, li_512, li_1000, li_2457, li_4000, nI_add, nI_1, nI_mul, nI_sub, shl_1, shl_1b]; with_reducible exact mn9b (by omega)))) ?_
    rintro _ _ ⟨rfl, kv4, hv4, rfl⟩
    exact Ok.ret ⟨5000 - (j + 1), by omega, rfl, ⟨j + 1, nI_1 j, by omega, by omega, rfl⟩⟩
set_option maxHeartbeats 4000000 in
set_option maxRecDepth 100000 in
theorem rX10_weightAt {t : St} (hT : TY t) {x : Nat} (g_x : netAt x = true) {a : Int32} (h_a : IsR 9 a) : Ok (FX10_weightAt x a t) (fun r u => t = u ∧ (True)) := by
  obtain ⟨k_a, h_a, rfl⟩ := h_a
  unfold FX10_weightAt
  refine Ok.ck (by first | assumption | decide +kernel) (fun g_1 => ?_)
  refine Ok.bd _ (rSX10_weightAt_4 hT (by first | assumption | decide +kernel) (by first | with_reducible assumption | (simp (disch := omega) only [li_0, li_1, li_2, li_3, li_4, li_5, li_6, li_7, li_8, li_9, li_10, li_20, li_30, li_82, li_91, li_273, li_380, li_400, li_512, li_1000, li_2457, li_4000, nI_add, nI_1, nI_mul, nI_sub, shl_1, shl_1b, nI_or, nI_xor, nI_and]; with_reducible exact ⟨_, (by first | omega | exact or9 (by omega) (by omega) | exact xor9 (by omega) (by omega)), rfl⟩) | with_reducible exact ⟨_, (by first | omega | exact or9 (by omega) (by omega) | exact xor9 (by omega) (by omega)), rfl⟩ | exact IsR.mn (by first | with_reducible assumption | exact ⟨_, by omega, rfl⟩) (by first | with_reducible assumption | exact ⟨_, by omega, rfl⟩) | exact IsR.mx (by first | with_reducible assumption | exact ⟨_, by omega, rfl⟩) (by first | with_reducible assumption | exact ⟨_, by omega, rfl⟩) | with_reducible exact mn9 (by omega) | (simp (disch := omega) only [li_0, li_1, li_2, li_3, li_4, li_5, li_6, li_7, li_8, li_9, li_10, li_20, li_30, li_82, li_91, li_273, li_380, li_400, li_512, li_1000, li_2457, li_4000, nI_add, nI_1, nI_mul, nI_sub, shl_1, shl_1b]; with_reducible exact mn9b (by omega))) (by show IsR 5001 _; first | with_reducible assumption | (simp (disch := omega) only [li_0, li_1, li_2, li_3, li_4, li_5, li_6, li_7, li_8, li_9, li_10, li_20, li_30, li_82, li_91, li_273, li_380, li_400, li_512, li_1000, li_2457, li_4000, nI_add, nI_1, nI_mul, nI_sub, shl_1, shl_1b, nI_or, nI_xor, nI_and]; with_reducible exact ⟨_, (by first | omega | exact or9 (by omega) (by omega) | exact xor9 (by omega) (by omega)), rfl⟩) | with_reducible exact ⟨_, (by first | omega | exact or9 (by omega) (by omega) | exact xor9 (by omega) (by omega)), rfl⟩ | exact IsR.mn (by first | with_reducible assumption | exact ⟨_, by omega, rfl⟩) (by first | with_reducible assumption | exact ⟨_, by omega, rfl⟩) | exact IsR.mx (by first | with_reducible assumption | exact ⟨_, by omega, rfl⟩) (by first | with_reducible assumption | exact ⟨_, by omega, rfl⟩) | with_reducible exact mn9 (by omega) | (simp (disch := omega) only [li_0, li_1, li_2, li_3, li_4, li_5, li_6, li_7, li_8, li_9, li_10, li_20, li_30, li_82, li_91, li_273, li_380, li_400, li_512, li_1000, li_2457, li_4000, nI_add, nI_1, nI_mul, nI_sub, shl_1, shl_1b]; with_reducible exact mn9b (by omega)))) ?_
  rintro e7 _ ⟨rfl, hxe7⟩
  exact Ok.ret ⟨rfl, True.intro⟩
set_option maxHeartbeats 4000000 in
set_option maxRecDepth 100000 in
theorem rSX10_wholeWeight_4 {t : St} (hT : TY t) {x0 : Nat} (g_x0 : netAt x0 = true) {a0 : Int32} {a1 : Int32} (h_a1 : IsR 5001 a1) : Ok (wh (SX10_wholeWeight_4 x0) (a0, a1) t) (fun r u => t = u ∧ (True)) := by
  obtain ⟨j0, hj0, rfl⟩ := h_a1
  refine Ok.loop (fun k c s => t = s ∧ (∃ j, c.2 = nI j ∧ j ≤ 5000 ∧ 0 ≤ j ∧ k = 5000 - j)) ?_ (5000 - j0) _ _ ⟨rfl, ⟨j0, rfl, by omega, by omega, rfl⟩⟩
  clear hj0
  intro k c s hI
  obtain ⟨rfl, ⟨j, ej, hj, hlo, rfl⟩⟩ := hI
  obtain ⟨c0, c1⟩ := c
  dsimp only at ej
  subst ej
  unfold SX10_wholeWeight_4
  dsimp only
  refine Ok.rdT hT (ty_n0 g_x0) (by omega) (fun k_1 hk_1 ek_1 => ?_)
  refine Ok.ite (fun c_2 => ?_) (fun c_2 => ?_)
  · try simp (disch := omega) only [li_0, li_1, li_2, li_3, li_4, li_5, li_6, li_7, li_8, li_9, li_10, li_20, li_30, li_82, li_91, li_273, li_380, li_400, li_512, li_1000, li_2457, li_4000, nI_add, nI_1, nI_mul, nI_sub, shl_1, shl_1b, nI_leP, nI_ltP, nI_eqP, Nat.not_le, Nat.not_lt] at c_2
    exact Ok.ret ⟨rfl, True.intro⟩
  · try simp (disch := omega) only [li_0, li_1, li_2, li_3, li_4, li_5, li_6, li_7, li_8, li_9, li_10, li_20, li_30, li_82, li_91, li_273, li_380, li_400, li_512, li_1000, li_2457, li_4000, nI_add, nI_1, nI_mul, nI_sub, shl_1, shl_1b, nI_leP, nI_ltP, nI_eqP, Nat.not_le, Nat.not_lt] at c_2
    refine Ok.bd _ (rX10_weightAt hT (by first | assumption | decide +kernel) (by first | with_reducible assumption | (simp (disch := omega) only [li_0, li_1, li_2, li_3, li_4, li_5, li_6, li_7, li_8, li_9, li_10, li_20, li_30, li_82, li_91, li_273, li_380, li_400, li_512, li_1000, li_2457, li_4000, nI_add, nI_1, nI_mul, nI_sub, shl_1, shl_1b, nI_or, nI_xor, nI_and]; with_reducible exact ⟨_, (by first | omega | exact or9 (by omega) (by omega) | exact xor9 (by omega) (by omega)), rfl⟩) | with_reducible exact ⟨_, (by first | omega | exact or9 (by omega) (by omega) | exact xor9 (by omega) (by omega)), rfl⟩ | exact IsR.mn (by first | with_reducible assumption | exact ⟨_, by omega, rfl⟩) (by first | with_reducible assumption | exact ⟨_, by omega, rfl⟩) | exact IsR.mx (by first | with_reducible assumption | exact ⟨_, by omega, rfl⟩) (by first | with_reducible assumption | exact ⟨_, by omega, rfl⟩) | with_reducible exact mn9 (by omega) | (simp (disch := omega) only [li_0, li_1, li_2, li_3, li_4, li_5, li_6, li_7, li_8, li_9, li_10, li_20, li_30, li_82, li_91, li_273, li_380, li_400, li_512, li_1000, li_2457, li_4000, nI_add, nI_1, nI_mul, nI_sub, shl_1, shl_1b]; with_reducible exact mn9b (by omega)))) ?_
    rintro v4 _ ⟨rfl, hxv4⟩
    exact Ok.ret ⟨5000 - (j + 1), by omega, rfl, ⟨j + 1, nI_1 j, by omega, by omega, rfl⟩⟩
set_option maxHeartbeats 4000000 in
set_option maxRecDepth 100000 in
theorem rX10_wholeWeight {t : St} (hT : TY t) {x : Nat} (g_x : netAt x = true) : Ok (FX10_wholeWeight x t) (fun r u => t = u ∧ (True)) := by
  unfold FX10_wholeWeight
  refine Ok.ck (by first | assumption | decide +kernel) (fun g_1 => ?_)
  refine Ok.bd _ (rSX10_wholeWeight_4 hT (by first | assumption | decide +kernel) (by show IsR 5001 _; first | with_reducible assumption | (simp (disch := omega) only [li_0, li_1, li_2, li_3, li_4, li_5, li_6, li_7, li_8, li_9, li_10, li_20, li_30, li_82, li_91, li_273, li_380, li_400, li_512, li_1000, li_2457, li_4000, nI_add, nI_1, nI_mul, nI_sub, shl_1, shl_1b, nI_or, nI_xor, nI_and]; with_reducible exact ⟨_, (by first | omega | exact or9 (by omega) (by omega) | exact xor9 (by omega) (by omega)), rfl⟩) | with_reducible exact ⟨_, (by first | omega | exact or9 (by omega) (by omega) | exact xor9 (by omega) (by omega)), rfl⟩ | exact IsR.mn (by first | with_reducible assumption | exact ⟨_, by omega, rfl⟩) (by first | with_reducible assumption | exact ⟨_, by omega, rfl⟩) | exact IsR.mx (by first | with_reducible assumption | exact ⟨_, by omega, rfl⟩) (by first | with_reducible assumption | exact ⟨_, by omega, rfl⟩) | with_reducible exact mn9 (by omega) | (simp (disch := omega) only [li_0, li_1, li_2, li_3, li_4, li_5, li_6, li_7, li_8, li_9, li_10, li_20, li_30, li_82, li_91, li_273, li_380, li_400, li_512, li_1000, li_2457, li_4000, nI_add, nI_1, nI_mul, nI_sub, shl_1, shl_1b]; with_reducible exact mn9b (by omega)))) ?_
  rintro e7 _ ⟨rfl, hxe7⟩
  exact Ok.ret ⟨rfl, True.intro⟩
set_option maxHeartbeats 4000000 in
set_option maxRecDepth 100000 in
theorem rSX10_mostLinesAtPoint_4 {t : St} (hT : TY t) {x0 : Nat} (g_x0 : netAt x0 = true) {a0 : Int32} {a1 : Int32} (h_a1 : IsR 5001 a1) : Ok (wh (SX10_mostLinesAtPoint_4 x0) (a0, a1) t) (fun r u => t = u ∧ (True)) := by
  obtain ⟨j0, hj0, rfl⟩ := h_a1
  refine Ok.loop (fun k c s => t = s ∧ (∃ j, c.2 = nI j ∧ j ≤ 5000 ∧ 0 ≤ j ∧ k = 5000 - j)) ?_ (5000 - j0) _ _ ⟨rfl, ⟨j0, rfl, by omega, by omega, rfl⟩⟩
  clear hj0
  intro k c s hI
  obtain ⟨rfl, ⟨j, ej, hj, hlo, rfl⟩⟩ := hI
  obtain ⟨c0, c1⟩ := c
  dsimp only at ej
  subst ej
  unfold SX10_mostLinesAtPoint_4
  dsimp only
  refine Ok.rdT hT (ty_n0 g_x0) (by omega) (fun k_1 hk_1 ek_1 => ?_)
  refine Ok.ite (fun c_2 => ?_) (fun c_2 => ?_)
  · try simp (disch := omega) only [li_0, li_1, li_2, li_3, li_4, li_5, li_6, li_7, li_8, li_9, li_10, li_20, li_30, li_82, li_91, li_273, li_380, li_400, li_512, li_1000, li_2457, li_4000, nI_add, nI_1, nI_mul, nI_sub, shl_1, shl_1b, nI_leP, nI_ltP, nI_eqP, Nat.not_le, Nat.not_lt] at c_2
    exact Ok.ret ⟨rfl, True.intro⟩
  · try simp (disch := omega) only [li_0, li_1, li_2, li_3, li_4, li_5, li_6, li_7, li_8, li_9, li_10, li_20, li_30, li_82, li_91, li_273, li_380, li_400, li_512, li_1000, li_2457, li_4000, nI_add, nI_1, nI_mul, nI_sub, shl_1, shl_1b, nI_leP, nI_ltP, nI_eqP, Nat.not_le, Nat.not_lt] at c_2
    refine Ok.bd _ (rX5_lineCount hT (by first | assumption | decide +kernel) (by first | with_reducible assumption | (simp (disch := omega) only [li_0, li_1, li_2, li_3, li_4, li_5, li_6, li_7, li_8, li_9, li_10, li_20, li_30, li_82, li_91, li_273, li_380, li_400, li_512, li_1000, li_2457, li_4000, nI_add, nI_1, nI_mul, nI_sub, shl_1, shl_1b, nI_or, nI_xor, nI_and]; with_reducible exact ⟨_, (by first | omega | exact or9 (by omega) (by omega) | exact xor9 (by omega) (by omega)), rfl⟩) | with_reducible exact ⟨_, (by first | omega | exact or9 (by omega) (by omega) | exact xor9 (by omega) (by omega)), rfl⟩ | exact IsR.mn (by first | with_reducible assumption | exact ⟨_, by omega, rfl⟩) (by first | with_reducible assumption | exact ⟨_, by omega, rfl⟩) | exact IsR.mx (by first | with_reducible assumption | exact ⟨_, by omega, rfl⟩) (by first | with_reducible assumption | exact ⟨_, by omega, rfl⟩) | with_reducible exact mn9 (by omega) | (simp (disch := omega) only [li_0, li_1, li_2, li_3, li_4, li_5, li_6, li_7, li_8, li_9, li_10, li_20, li_30, li_82, li_91, li_273, li_380, li_400, li_512, li_1000, li_2457, li_4000, nI_add, nI_1, nI_mul, nI_sub, shl_1, shl_1b]; with_reducible exact mn9b (by omega)))) ?_
    rintro v4 _ ⟨rfl, hxv4⟩
    exact Ok.ret ⟨5000 - (j + 1), by omega, rfl, ⟨j + 1, nI_1 j, by omega, by omega, rfl⟩⟩
set_option maxHeartbeats 4000000 in
set_option maxRecDepth 100000 in
theorem rX10_mostLinesAtPoint {t : St} (hT : TY t) {x : Nat} (g_x : netAt x = true) : Ok (FX10_mostLinesAtPoint x t) (fun r u => t = u ∧ (True)) := by
  unfold FX10_mostLinesAtPoint
  refine Ok.ck (by first | assumption | decide +kernel) (fun g_1 => ?_)
  refine Ok.bd _ (rSX10_mostLinesAtPoint_4 hT (by first | assumption | decide +kernel) (by show IsR 5001 _; first | with_reducible assumption | (simp (disch := omega) only [li_0, li_1, li_2, li_3, li_4, li_5, li_6, li_7, li_8, li_9, li_10, li_20, li_30, li_82, li_91, li_273, li_380, li_400, li_512, li_1000, li_2457, li_4000, nI_add, nI_1, nI_mul, nI_sub, shl_1, shl_1b, nI_or, nI_xor, nI_and]; with_reducible exact ⟨_, (by first | omega | exact or9 (by omega) (by omega) | exact xor9 (by omega) (by omega)), rfl⟩) | with_reducible exact ⟨_, (by first | omega | exact or9 (by omega) (by omega) | exact xor9 (by omega) (by omega)), rfl⟩ | exact IsR.mn (by first | with_reducible assumption | exact ⟨_, by omega, rfl⟩) (by first | with_reducible assumption | exact ⟨_, by omega, rfl⟩) | exact IsR.mx (by first | with_reducible assumption | exact ⟨_, by omega, rfl⟩) (by first | with_reducible assumption | exact ⟨_, by omega, rfl⟩) | with_reducible exact mn9 (by omega) | (simp (disch := omega) only [li_0, li_1, li_2, li_3, li_4, li_5, li_6, li_7, li_8, li_9, li_10, li_20, li_30, li_82, li_91, li_273, li_380, li_400, li_512, li_1000, li_2457, li_4000, nI_add, nI_1, nI_mul, nI_sub, shl_1, shl_1b]; with_reducible exact mn9b (by omega)))) ?_
  rintro e7 _ ⟨rfl, hxe7⟩
  exact Ok.ret ⟨rfl, True.intro⟩
set_option maxHeartbeats 4000000 in
set_option maxRecDepth 100000 in
theorem rSX10_grown_4 {t : St} (hT : TY t) {x0 : Nat} (g_x0 : netAt x0 = true) {w1 : Int32} {a0 : Int32} {a1 : Int32} (h_a1 : IsR 5001 a1) : Ok (wh (SX10_grown_4 x0 w1) (a0, a1) t) (fun r u => t = u ∧ (True)) := by
  obtain ⟨j0, hj0, rfl⟩ := h_a1
  refine Ok.loop (fun k c s => t = s ∧ (∃ j, c.2 = nI j ∧ j ≤ 5000 ∧ 0 ≤ j ∧ k = 5000 - j)) ?_ (5000 - j0) _ _ ⟨rfl, ⟨j0, rfl, by omega, by omega, rfl⟩⟩
  clear hj0
  intro k c s hI
  obtain ⟨rfl, ⟨j, ej, hj, hlo, rfl⟩⟩ := hI
  obtain ⟨c0, c1⟩ := c
  dsimp only at ej
  subst ej
  unfold SX10_grown_4
  dsimp only
  refine Ok.rdT hT (ty_n0 g_x0) (by omega) (fun k_1 hk_1 ek_1 => ?_)
  refine Ok.ite (fun c_2 => ?_) (fun c_2 => ?_)
  · try simp (disch := omega) only [li_0, li_1, li_2, li_3, li_4, li_5, li_6, li_7, li_8, li_9, li_10, li_20, li_30, li_82, li_91, li_273, li_380, li_400, li_512, li_1000, li_2457, li_4000, nI_add, nI_1, nI_mul, nI_sub, shl_1, shl_1b, nI_leP, nI_ltP, nI_eqP, Nat.not_le, Nat.not_lt] at c_2
    exact Ok.ret ⟨rfl, True.intro⟩
  · try simp (disch := omega) only [li_0, li_1, li_2, li_3, li_4, li_5, li_6, li_7, li_8, li_9, li_10, li_20, li_30, li_82, li_91, li_273, li_380, li_400, li_512, li_1000, li_2457, li_4000, nI_add, nI_1, nI_mul, nI_sub, shl_1, shl_1b, nI_leP, nI_ltP, nI_eqP, Nat.not_le, Nat.not_lt] at c_2
    refine Ok.bd (fun (v5 : Int32) t6 => t = t6 ∧ (True)) ?_ ?_
    · refine Ok.ite (fun c_3 => ?_) (fun c_3 => ?_)
      · try simp (disch := omega) only [li_0, li_1, li_2, li_3, li_4, li_5, li_6, li_7, li_8, li_9, li_10, li_20, li_30, li_82, li_91, li_273, li_380, li_400, li_512, li_1000, li_2457, li_4000, nI_add, nI_1, nI_mul, nI_sub, shl_1, shl_1b, nI_leP, nI_ltP, nI_eqP, Nat.not_le, Nat.not_lt] at c_3
        exact Ok.ret ⟨rfl, True.intro⟩
      · try simp (disch := omega) only [li_0, li_1, li_2, li_3, li_4, li_5, li_6, li_7, li_8, li_9, li_10, li_20, li_30, li_82, li_91, li_273, li_380, li_400, li_512, li_1000, li_2457, li_4000, nI_add, nI_1, nI_mul, nI_sub, shl_1, shl_1b, nI_leP, nI_ltP, nI_eqP, Nat.not_le, Nat.not_lt] at c_3
        refine Ok.ck (by first | (simp (disch := omega) only [li_0, li_1, li_2, li_3, li_4, li_5, li_6, li_7, li_8, li_9, li_10, li_20, li_30, li_82, li_91, li_273, li_380, li_400, li_512, li_1000, li_2457, li_4000, nI_add, nI_1, nI_mul, nI_sub, shl_1, shl_1b, nI_or, nI_xor, nI_and]; with_reducible exact inb_n (by first | omega | exact or9 (by omega) (by omega) | exact xor9 (by omega) (by omega)) (by omega)) | with_reducible exact inb_n (by omega) (by omega) | exact IsR.ib (by with_reducible assumption) (by decide) | decide) (fun g_4 => ?_)
        refine Ok.rd (fun v10 hv10 => ?_)
        exact Ok.ret ⟨rfl, True.intro⟩
    · intro v5 t6 hx
      obtain ⟨rfl, hxv5⟩ := hx
      exact Ok.ret ⟨5000 - (j + 1), by omega, rfl, ⟨j + 1, nI_1 j, by omega, by omega, rfl⟩⟩
set_option maxHeartbeats 4000000 in
set_option maxRecDepth 100000 in
theorem rX10_grown {t : St} (hT : TY t) {x : Nat} (g_x : netAt x = true) {a : Int32} : Ok (FX10_grown x a t) (fun r u => t = u ∧ (True)) := by
  unfold FX10_grown
  refine Ok.ck (by first | assumption | decide +kernel) (fun g_1 => ?_)
  refine Ok.bd _ (rSX10_grown_4 hT (by first | assumption | decide +kernel) (by show IsR 5001 _; first | with_reducible assumption | (simp (disch := omega) only [li_0, li_1, li_2, li_3, li_4, li_5, li_6, li_7, li_8, li_9, li_10, li_20, li_30, li_82, li_91, li_273, li_380, li_400, li_512, li_1000, li_2457, li_4000, nI_add, nI_1, nI_mul, nI_sub, shl_1, shl_1b, nI_or, nI_xor, nI_and]; with_reducible exact ⟨_, (by first | omega | exact or9 (by omega) (by omega) | exact xor9 (by omega) (by omega)), rfl⟩) | with_reducible exact ⟨_, (by first | omega | exact or9 (by omega) (by omega) | exact xor9 (by omega) (by omega)), rfl⟩ | exact IsR.mn (by first | with_reducible assumption | exact ⟨_, by omega, rfl⟩) (by first | with_reducible assumption | exact ⟨_, by omega, rfl⟩) | exact IsR.mx (by first | with_reducible assumption | exact ⟨_, by omega, rfl⟩) (by first | with_reducible assumption | exact ⟨_, by omega, rfl⟩) | with_reducible exact mn9 (by omega) | (simp (disch := omega) only [li_0, li_1, li_2, li_3, li_4, li_5, li_6, li_7, li_8, li_9, li_10, li_20, li_30, li_82, li_91, li_273, li_380, li_400, li_512, li_1000, li_2457, li_4000, nI_add, nI_1, nI_mul, nI_sub, shl_1, shl_1b]; with_reducible exact mn9b (by omega)))) ?_
  rintro e12 _ ⟨rfl, hxe12⟩
  exact Ok.ret ⟨rfl, True.intro⟩
set_option maxHeartbeats 4000000 in
set_option maxRecDepth 100000 in
theorem rSX10_distance_7 {t : St} (hT : TY t) {x0 : Nat} (g_x0 : netAt x0 = true) {w2 : Int32} {a0 : Int32} {a1 : Int32} (h_a1 : IsR 5001 a1) : Ok (wh (SX10_distance_7 x0 w2) (a0, a1) t) (fun r u => t = u ∧ (Sum.elim (fun v => True) (fun e => True) r)) := by
  obtain ⟨j0, hj0, rfl⟩ := h_a1
  refine Ok.loop (fun k c s => t = s ∧ (∃ j, c.2 = nI j ∧ j ≤ 5000 ∧ 0 ≤ j ∧ k = 5000 - j)) ?_ (5000 - j0) _ _ ⟨rfl, ⟨j0, rfl, by omega, by omega, rfl⟩⟩
  clear hj0
  intro k c s hI
  obtain ⟨rfl, ⟨j, ej, hj, hlo, rfl⟩⟩ := hI
  obtain ⟨c0, c1⟩ := c
  dsimp only at ej
  subst ej
  unfold SX10_distance_7
  dsimp only
  refine Ok.rdT hT (ty_n0 g_x0) (by omega) (fun k_1 hk_1 ek_1 => ?_)
  refine Ok.ite (fun c_2 => ?_) (fun c_2 => ?_)
  · try simp (disch := omega) only [li_0, li_1, li_2, li_3, li_4, li_5, li_6, li_7, li_8, li_9, li_10, li_20, li_30, li_82, li_91, li_273, li_380, li_400, li_512, li_1000, li_2457, li_4000, nI_add, nI_1, nI_mul, nI_sub, shl_1, shl_1b, nI_leP, nI_ltP, nI_eqP, Nat.not_le, Nat.not_lt] at c_2
    exact Ok.ret ⟨rfl, True.intro⟩
  · try simp (disch := omega) only [li_0, li_1, li_2, li_3, li_4, li_5, li_6, li_7, li_8, li_9, li_10, li_20, li_30, li_82, li_91, li_273, li_380, li_400, li_512, li_1000, li_2457, li_4000, nI_add, nI_1, nI_mul, nI_sub, shl_1, shl_1b, nI_leP, nI_ltP, nI_eqP, Nat.not_le, Nat.not_lt] at c_2
    refine Ok.ite (fun c_3 => ?_) (fun c_3 => ?_)
    · try simp (disch := omega) only [li_0, li_1, li_2, li_3, li_4, li_5, li_6, li_7, li_8, li_9, li_10, li_20, li_30, li_82, li_91, li_273, li_380, li_400, li_512, li_1000, li_2457, li_4000, nI_add, nI_1, nI_mul, nI_sub, shl_1, shl_1b, nI_leP, nI_ltP, nI_eqP, Nat.not_le, Nat.not_lt] at c_3
      refine Ok.bd _ (rX10_grown hT (by first | assumption | decide +kernel)) ?_
      rintro v5 _ ⟨rfl, hxv5⟩
      exact Ok.ret ⟨5000 - (j + 1), by omega, rfl, ⟨j + 1, nI_1 j, by omega, by omega, rfl⟩⟩
    · try simp (disch := omega) only [li_0, li_1, li_2, li_3, li_4, li_5, li_6, li_7, li_8, li_9, li_10, li_20, li_30, li_82, li_91, li_273, li_380, li_400, li_512, li_1000, li_2457, li_4000, nI_add, nI_1, nI_mul, nI_sub, shl_1, shl_1b, nI_leP, nI_ltP, nI_eqP, Nat.not_le, Nat.not_lt] at c_3
      exact Ok.ret ⟨rfl, True.intro⟩
set_option maxHeartbeats 4000000 in
set_option maxRecDepth 100000 in
theorem rX10_distance {t : St} (hT : TY t) {x : Nat} (g_x : netAt x = true) {a : Int32} {b : Int32} : Ok (FX10_distance x a b t) (fun r u => t = u ∧ (True)) := by
  unfold FX10_distance
  refine Ok.ck (by first | assumption | decide +kernel) (fun g_1 => ?_)
  refine Ok.bd _ (rSX10_distance_7 hT (by first | assumption | decide +kernel) (by show IsR 5001 _; first | with_reducible assumption | (simp (disch := omega) only [li_0, li_1, li_2, li_3, li_4, li_5, li_6, li_7, li_8, li_9, li_10, li_20, li_30, li_82, li_91, li_273, li_380, li_400, li_512, li_1000, li_2457, li_4000, nI_add, nI_1, nI_mul, nI_sub, shl_1, shl_1b, nI_or, nI_xor, nI_and]; with_reducible exact ⟨_, (by first | omega | exact or9 (by omega) (by omega) | exact xor9 (by omega) (by omega)), rfl⟩) | with_reducible exact ⟨_, (by first | omega | exact or9 (by omega) (by omega) | exact xor9 (by omega) (by omega)), rfl⟩ | exact IsR.mn (by first | with_reducible assumption | exact ⟨_, by omega, rfl⟩) (by first | with_reducible assumption | exact ⟨_, by omega, rfl⟩) | exact IsR.mx (by first | with_reducible assumption | exact ⟨_, by omega, rfl⟩) (by first | with_reducible assumption | exact ⟨_, by omega, rfl⟩) | with_reducible exact mn9 (by omega) | (simp (disch := omega) only [li_0, li_1, li_2, li_3, li_4, li_5, li_6, li_7, li_8, li_9, li_10, li_20, li_30, li_82, li_91, li_273, li_380, li_400, li_512, li_1000, li_2457, li_4000, nI_add, nI_1, nI_mul, nI_sub, shl_1, shl_1b]; with_reducible exact mn9b (by omega)))) ?_
  rintro (e9 | e9) _ ⟨rfl, hxe9⟩
  · refine Ok.el ?_
    exact Ok.ret ⟨rfl, True.intro⟩
  · refine Ok.er ?_
    exact Ok.ret ⟨rfl, True.intro⟩
set_option maxHeartbeats 4000000 in
set_option maxRecDepth 100000 in
theorem rSX10_partOf_6 {t : St} (hT : TY t) {x0 : Nat} (g_x0 : netAt x0 = true) {a0 : Int32} {a1 : Int32} (h_a1 : IsR 5001 a1) : Ok (wh (SX10_partOf_6 x0) (a0, a1) t) (fun r u => t = u ∧ (True)) := by
  obtain ⟨j0, hj0, rfl⟩ := h_a1
  refine Ok.loop (fun k c s => t = s ∧ (∃ j, c.2 = nI j ∧ j ≤ 5000 ∧ 0 ≤ j ∧ k = 5000 - j)) ?_ (5000 - j0) _ _ ⟨rfl, ⟨j0, rfl, by omega, by omega, rfl⟩⟩
  clear hj0
  intro k c s hI
  obtain ⟨rfl, ⟨j, ej, hj, hlo, rfl⟩⟩ := hI
  obtain ⟨c0, c1⟩ := c
  dsimp only at ej
  subst ej
  unfold SX10_partOf_6
  dsimp only
  refine Ok.rdT hT (ty_n0 g_x0) (by omega) (fun k_1 hk_1 ek_1 => ?_)
  refine Ok.ite (fun c_2 => ?_) (fun c_2 => ?_)
  · try simp (disch := omega) only [li_0, li_1, li_2, li_3, li_4, li_5, li_6, li_7, li_8, li_9, li_10, li_20, li_30, li_82, li_91, li_273, li_380, li_400, li_512, li_1000, li_2457, li_4000, nI_add, nI_1, nI_mul, nI_sub, shl_1, shl_1b, nI_leP, nI_ltP, nI_eqP, Nat.not_le, Nat.not_lt] at c_2
    exact Ok.ret ⟨rfl, True.intro⟩
  · try simp (disch := omega) only [li_0, li_1, li_2, li_3, li_4, li_5, li_6, li_7, li_8, li_9, li_10, li_20, li_30, li_82, li_91, li_273, li_380, li_400, li_512, li_1000, li_2457, li_4000, nI_add, nI_1, nI_mul, nI_sub, shl_1, shl_1b, nI_leP, nI_ltP, nI_eqP, Nat.not_le, Nat.not_lt] at c_2
    refine Ok.bd _ (rX10_grown hT (by first | assumption | decide +kernel)) ?_
    rintro v4 _ ⟨rfl, hxv4⟩
    exact Ok.ret ⟨5000 - (j + 1), by omega, rfl, ⟨j + 1, nI_1 j, by omega, by omega, rfl⟩⟩
set_option maxHeartbeats 4000000 in
set_option maxRecDepth 100000 in
theorem rX10_partOf {t : St} (hT : TY t) {x : Nat} (g_x : netAt x = true) {a : Int32} : Ok (FX10_partOf x a t) (fun r u => t = u ∧ (True)) := by
  unfold FX10_partOf
  refine Ok.ck (by first | assumption | decide +kernel) (fun g_1 => ?_)
  refine Ok.bd _ (rSX10_partOf_6 hT (by first | assumption | decide +kernel) (by show IsR 5001 _; first | with_reducible assumption | (simp (disch := omega) only [li_0, li_1, li_2, li_3, li_4, li_5, li_6, li_7, li_8, li_9, li_10, li_20, li_30, li_82, li_91, li_273, li_380, li_400, li_512, li_1000, li_2457, li_4000, nI_add, nI_1, nI_mul, nI_sub, shl_1, shl_1b, nI_or, nI_xor, nI_and]; with_reducible exact ⟨_, (by first | omega | exact or9 (by omega) (by omega) | exact xor9 (by omega) (by omega)), rfl⟩) | with_reducible exact ⟨_, (by first | omega | exact or9 (by omega) (by omega) | exact xor9 (by omega) (by omega)), rfl⟩ | exact IsR.mn (by first | with_reducible assumption | exact ⟨_, by omega, rfl⟩) (by first | with_reducible assumption | exact ⟨_, by omega, rfl⟩) | exact IsR.mx (by first | with_reducible assumption | exact ⟨_, by omega, rfl⟩) (by first | with_reducible assumption | exact ⟨_, by omega, rfl⟩) | with_reducible exact mn9 (by omega) | (simp (disch := omega) only [li_0, li_1, li_2, li_3, li_4, li_5, li_6, li_7, li_8, li_9, li_10, li_20, li_30, li_82, li_91, li_273, li_380, li_400, li_512, li_1000, li_2457, li_4000, nI_add, nI_1, nI_mul, nI_sub, shl_1, shl_1b]; with_reducible exact mn9b (by omega)))) ?_
  rintro e7 _ ⟨rfl, hxe7⟩
  exact Ok.ret ⟨rfl, True.intro⟩
set_option maxHeartbeats 4000000 in
set_option maxRecDepth 100000 in
theorem rSX10_partCount_6 {t : St} (hT : TY t) {x0 : Nat} (g_x0 : netAt x0 = true) {a0 : Int32} {a1 : Int32} {a2 : Int32} (h_a2 : IsR 5001 a2) : Ok (wh (SX10_partCount_6 x0) (a0, a1, a2) t) (fun r u => t = u ∧ (True)) := by
  obtain ⟨j0, hj0, rfl⟩ := h_a2
  refine Ok.loop (fun k c s => t = s ∧ (∃ j, c.2.2 = nI j ∧ j ≤ 5000 ∧ 0 ≤ j ∧ k = 5000 - j)) ?_ (5000 - j0) _ _ ⟨rfl, ⟨j0, rfl, by omega, by omega, rfl⟩⟩
  clear hj0
  intro k c s hI
  obtain ⟨rfl, ⟨j, ej, hj, hlo, rfl⟩⟩ := hI
  obtain ⟨c0, c1, c2⟩ := c
  dsimp only at ej
  subst ej
  unfold SX10_partCount_6
  dsimp only
  refine Ok.rdT hT (ty_n0 g_x0) (by omega) (fun k_1 hk_1 ek_1 => ?_)
  refine Ok.ite (fun c_2 => ?_) (fun c_2 => ?_)
  · try simp (disch := omega) only [li_0, li_1, li_2, li_3, li_4, li_5, li_6, li_7, li_8, li_9, li_10, li_20, li_30, li_82, li_91, li_273, li_380, li_400, li_512, li_1000, li_2457, li_4000, nI_add, nI_1, nI_mul, nI_sub, shl_1, shl_1b, nI_leP, nI_ltP, nI_eqP, Nat.not_le, Nat.not_lt] at c_2
    exact Ok.ret ⟨rfl, True.intro⟩
  · try simp (disch := omega) only [li_0, li_1, li_2, li_3, li_4, li_5, li_6, li_7, li_8, li_9, li_10, li_20, li_30, li_82, li_91, li_273, li_380, li_400, li_512, li_1000, li_2457, li_4000, nI_add, nI_1, nI_mul, nI_sub, shl_1, shl_1b, nI_leP, nI_ltP, nI_eqP, Nat.not_le, Nat.not_lt] at c_2
    refine Ok.bd (fun (v5 : Int32 × Int32) t6 => t = t6 ∧ (True)) ?_ ?_
    · refine Ok.ite (fun c_3 => ?_) (fun c_3 => ?_)
      · try simp (disch := omega) only [li_0, li_1, li_2, li_3, li_4, li_5, li_6, li_7, li_8, li_9, li_10, li_20, li_30, li_82, li_91, li_273, li_380, li_400, li_512, li_1000, li_2457, li_4000, nI_add, nI_1, nI_mul, nI_sub, shl_1, shl_1b, nI_leP, nI_ltP, nI_eqP, Nat.not_le, Nat.not_lt] at c_3
        refine Ok.bd _ (rX10_partOf hT (by first | assumption | decide +kernel)) ?_
        rintro v9 _ ⟨rfl, hxv9⟩
        exact Ok.ret ⟨rfl, True.intro⟩
      · try simp (disch := omega) only [li_0, li_1, li_2, li_3, li_4, li_5, li_6, li_7, li_8, li_9, li_10, li_20, li_30, li_82, li_91, li_273, li_380, li_400, li_512, li_1000, li_2457, li_4000, nI_add, nI_1, nI_mul, nI_sub, shl_1, shl_1b, nI_leP, nI_ltP, nI_eqP, Nat.not_le, Nat.not_lt] at c_3
        exact Ok.ret ⟨rfl, True.intro⟩
    · intro v5 t6 hx
      obtain ⟨rfl, hxv5⟩ := hx
      exact Ok.ret ⟨5000 - (j + 1), by omega, rfl, ⟨j + 1, nI_1 j, by omega, by omega, rfl⟩⟩
set_option maxHeartbeats 4000000 in
set_option maxRecDepth 100000 in
theorem rX10_partCount {t : St} (hT : TY t) {x : Nat} (g_x : netAt x = true) : Ok (FX10_partCount x t) (fun r u => t = u ∧ (True)) := by
  unfold FX10_partCount
  refine Ok.ck (by first | assumption | decide +kernel) (fun g_1 => ?_)
  refine Ok.bd _ (rSX10_partCount_6 hT (by first | assumption | decide +kernel) (by show IsR 5001 _; first | with_reducible assumption | (simp (disch := omega) only [li_0, li_1, li_2, li_3, li_4, li_5, li_6, li_7, li_8, li_9, li_10, li_20, li_30, li_82, li_91, li_273, li_380, li_400, li_512, li_1000, li_2457, li_4000, nI_add, nI_1, nI_mul, nI_sub, shl_1, shl_1b, nI_or, nI_xor, nI_and]; with_reducible exact ⟨_, (by first | omega | exact or9 (by omega) (by omega) | exact xor9 (by omega) (by omega)), rfl⟩) | with_reducible exact ⟨_, (by first | omega | exact or9 (by omega) (by omega) | exact xor9 (by omega) (by omega)), rfl⟩ | exact IsR.mn (by first | with_reducible assumption | exact ⟨_, by omega, rfl⟩) (by first | with_reducible assumption | exact ⟨_, by omega, rfl⟩) | exact IsR.mx (by first | with_reducible assumption | exact ⟨_, by omega, rfl⟩) (by first | with_reducible assumption | exact ⟨_, by omega, rfl⟩) | with_reducible exact mn9 (by omega) | (simp (disch := omega) only [li_0, li_1, li_2, li_3, li_4, li_5, li_6, li_7, li_8, li_9, li_10, li_20, li_30, li_82, li_91, li_273, li_380, li_400, li_512, li_1000, li_2457, li_4000, nI_add, nI_1, nI_mul, nI_sub, shl_1, shl_1b]; with_reducible exact mn9b (by omega)))) ?_
  rintro e12 _ ⟨rfl, hxe12⟩
  exact Ok.ret ⟨rfl, True.intro⟩
set_option maxHeartbeats 4000000 in
set_option maxRecDepth 100000 in
theorem rSX10_diameter_14 {t : St} (hT : TY t) {x0 : Nat} (g_x0 : netAt x0 = true) {w2 : Int32} (h_w2 : IsR 9 w2) {a0 : Int32} {a1 : Int32} (h_a1 : IsR 5001 a1) : Ok (wh (SX10_diameter_14 x0 w2) (a0, a1) t) (fun r u => t = u ∧ (Sum.elim (fun v => True) (fun e => True) r)) := by
  obtain ⟨j0, hj0, rfl⟩ := h_a1
  refine Ok.loop (fun k c s => t = s ∧ (∃ j, c.2 = nI j ∧ j ≤ 5000 ∧ 0 ≤ j ∧ k = 5000 - j)) ?_ (5000 - j0) _ _ ⟨rfl, ⟨j0, rfl, by omega, by omega, rfl⟩⟩
  obtain ⟨k_w2, h_w2, rfl⟩ := h_w2
  clear hj0
  intro k c s hI
  obtain ⟨rfl, ⟨j, ej, hj, hlo, rfl⟩⟩ := hI
  obtain ⟨c0, c1⟩ := c
  dsimp only at ej
  subst ej
  unfold SX10_diameter_14
  dsimp only
  refine Ok.ite (fun c_1 => ?_) (fun c_1 => ?_)
  · try simp (disch := omega) only [li_0, li_1, li_2, li_3, li_4, li_5, li_6, li_7, li_8, li_9, li_10, li_20, li_30, li_82, li_91, li_273, li_380, li_400, li_512, li_1000, li_2457, li_4000, nI_add, nI_1, nI_mul, nI_sub, shl_1, shl_1b, nI_leP, nI_ltP, nI_eqP, Nat.not_le, Nat.not_lt] at c_1
    exact Ok.ret ⟨rfl, True.intro⟩
  · try simp (disch := omega) only [li_0, li_1, li_2, li_3, li_4, li_5, li_6, li_7, li_8, li_9, li_10, li_20, li_30, li_82, li_91, li_273, li_380, li_400, li_512, li_1000, li_2457, li_4000, nI_add, nI_1, nI_mul, nI_sub, shl_1, shl_1b, nI_leP, nI_ltP, nI_eqP, Nat.not_le, Nat.not_lt] at c_1
    refine Ok.bd _ (rX10_distance hT (by first | assumption | decide +kernel)) ?_
    rintro v5 _ ⟨rfl, hxv5⟩
    refine Ok.ite (fun c_3 => ?_) (fun c_3 => ?_)
    · try simp (disch := omega) only [li_0, li_1, li_2, li_3, li_4, li_5, li_6, li_7, li_8, li_9, li_10, li_20, li_30, li_82, li_91, li_273, li_380, li_400, li_512, li_1000, li_2457, li_4000, nI_add, nI_1, nI_mul, nI_sub, shl_1, shl_1b, nI_leP, nI_ltP, nI_eqP, Nat.not_le, Nat.not_lt] at c_3
      exact Ok.ret ⟨rfl, True.intro⟩
    · try simp (disch := omega) only [li_0, li_1, li_2, li_3, li_4, li_5, li_6, li_7, li_8, li_9, li_10, li_20, li_30, li_82, li_91, li_273, li_380, li_400, li_512, li_1000, li_2457, li_4000, nI_add, nI_1, nI_mul, nI_sub, shl_1, shl_1b, nI_leP, nI_ltP, nI_eqP, Nat.not_le, Nat.not_lt] at c_3
      exact Ok.ret ⟨5000 - (j + 1), by omega, rfl, ⟨j + 1, nI_1 j, by omega, by omega, rfl⟩⟩
set_option maxHeartbeats 4000000 in
set_option maxRecDepth 100000 in
theorem rSX10_diameter_4 {t : St} (hT : TY t) {x0 : Nat} (g_x0 : netAt x0 = true) {a0 : Int32} {a1 : Int32} (h_a1 : IsR 5001 a1) : Ok (wh (SX10_diameter_4 x0) (a0, a1) t) (fun r u => t = u ∧ (Sum.elim (fun v => True) (fun e => True) r)) := by
  obtain ⟨j0, hj0, rfl⟩ := h_a1
  refine Ok.loop (fun k c s => t = s ∧ (∃ j, c.2 = nI j ∧ j ≤ 5000 ∧ 0 ≤ j ∧ k = 5000 - j)) ?_ (5000 - j0) _ _ ⟨rfl, ⟨j0, rfl, by omega, by omega, rfl⟩⟩
  clear hj0
  intro k c s hI
  obtain ⟨rfl, ⟨j, ej, hj, hlo, rfl⟩⟩ := hI
  obtain ⟨c0, c1⟩ := c
  dsimp only at ej
  subst ej
  unfold SX10_diameter_4
  dsimp only
  refine Ok.rdT hT (ty_n0 g_x0) (by omega) (fun k_1 hk_1 ek_1 => ?_)
  refine Ok.ite (fun c_2 => ?_) (fun c_2 => ?_)
  · try simp (disch := omega) only [li_0, li_1, li_2, li_3, li_4, li_5, li_6, li_7, li_8, li_9, li_10, li_20, li_30, li_82, li_91, li_273, li_380, li_400, li_512, li_1000, li_2457, li_4000, nI_add, nI_1, nI_mul, nI_sub, shl_1, shl_1b, nI_leP, nI_ltP, nI_eqP, Nat.not_le, Nat.not_lt] at c_2
    exact Ok.ret ⟨rfl, True.intro⟩
  · try simp (disch := omega) only [li_0, li_1, li_2, li_3, li_4, li_5, li_6, li_7, li_8, li_9, li_10, li_20, li_30, li_82, li_91, li_273, li_380, li_400, li_512, li_1000, li_2457, li_4000, nI_add, nI_1, nI_mul, nI_sub, shl_1, shl_1b, nI_leP, nI_ltP, nI_eqP, Nat.not_le, Nat.not_lt] at c_2
    refine Ok.bd _ (rSX10_diameter_14 hT (by first | assumption | decide +kernel) (by first | with_reducible assumption | (simp (disch := omega) only [li_0, li_1, li_2, li_3, li_4, li_5, li_6, li_7, li_8, li_9, li_10, li_20, li_30, li_82, li_91, li_273, li_380, li_400, li_512, li_1000, li_2457, li_4000, nI_add, nI_1, nI_mul, nI_sub, shl_1, shl_1b, nI_or, nI_xor, nI_and]; with_reducible exact ⟨_, (by first | omega | exact or9 (by omega) (by omega) | exact xor9 (by omega) (by omega)), rfl⟩) | with_reducible exact ⟨_, (by first | omega | exact or9 (by omega) (by omega) | exact xor9 (by omega) (by omega)), rfl⟩ | exact IsR.mn (by first | with_reducible assumption | exact ⟨_, by omega, rfl⟩) (by first | with_reducible assumption | exact ⟨_, by omega, rfl⟩) | exact IsR.mx (by first | with_reducible assumption | exact ⟨_, by omega, rfl⟩) (by first | with_reducible assumption | exact ⟨_, by omega, rfl⟩) | with_reducible exact mn9 (by omega) | (simp (disch := omega) only [li_0, li_1, li_2, li_3, li_4, li_5, li_6, li_7, li_8, li_9, li_10, li_20, li_30, li_82, li_91, li_273, li_380, li_400, li_512, li_1000, li_2457, li_4000, nI_add, nI_1, nI_mul, nI_sub, shl_1, shl_1b]; with_reducible exact mn9b (by omega))) (by show IsR 5001 _; first | with_reducible assumption | (simp (disch := omega) only [li_0, li_1, li_2, li_3, li_4, li_5, li_6, li_7, li_8, li_9, li_10, li_20, li_30, li_82, li_91, li_273, li_380, li_400, li_512, li_1000, li_2457, li_4000, nI_add, nI_1, nI_mul, nI_sub, shl_1, shl_1b, nI_or, nI_xor, nI_and]; with_reducible exact ⟨_, (by first | omega | exact or9 (by omega) (by omega) | exact xor9 (by omega) (by omega)), rfl⟩) | with_reducible exact ⟨_, (by first | omega | exact or9 (by omega) (by omega) | exact xor9 (by omega) (by omega)), rfl⟩ | exact IsR.mn (by first | with_reducible assumption | exact ⟨_, by omega, rfl⟩) (by first | with_reducible assumption | exact ⟨_, by omega, rfl⟩) | exact IsR.mx (by first | with_reducible assumption | exact ⟨_, by omega, rfl⟩) (by first | with_reducible assumption | exact ⟨_, by omega, rfl⟩) | with_reducible exact mn9 (by omega) | (simp (disch := omega) only [li_0, li_1, li_2, li_3, li_4, li_5, li_6, li_7, li_8, li_9, li_10, li_20, li_30, li_82, li_91, li_273, li_380, li_400, li_512, li_1000, li_2457, li_4000, nI_add, nI_1, nI_mul, nI_sub, shl_1, shl_1b]; with_reducible exact mn9b (by omega)))) ?_
    rintro (e10 | e10) _ ⟨rfl, hxe10⟩
    · refine Ok.el ?_
      exact Ok.ret ⟨rfl, True.intro⟩
    · refine Ok.er ?_
      exact Ok.ret ⟨5000 - (j + 1), by omega, rfl, ⟨j + 1, nI_1 j, by omega, by omega, rfl⟩⟩
set_option maxHeartbeats 4000000 in
set_option maxRecDepth 100000 in
theorem rX10_diameter {t : St} (hT : TY t) {x : Nat} (g_x : netAt x = true) : Ok (FX10_diameter x t) (fun r u => t = u ∧ (True)) := by
  unfold FX10_diameter
  refine Ok.ck (by first | assumption | decide +kernel) (fun g_1 => ?_)
  refine Ok.bd _ (rSX10_diameter_4 hT (by first | assumption | decide +kernel) (by show IsR 5001 _; first | with_reducible assumption | (simp (disch := omega) only [li_0, li_1, li_2, li_3, li_4, li_5, li_6, li_7, li_8, li_9, li_10, li_20, li_30, li_82, li_91, li_273, li_380, li_400, li_512, li_1000, li_2457, li_4000, nI_add, nI_1, nI_mul, nI_sub, shl_1, shl_1b, nI_or, nI_xor, nI_and]; with_reducible exact ⟨_, (by first | omega | exact or9 (by omega) (by omega) | exact xor9 (by omega) (by omega)), rfl⟩) | with_reducible exact ⟨_, (by first | omega | exact or9 (by omega) (by omega) | exact xor9 (by omega) (by omega)), rfl⟩ | exact IsR.mn (by first | with_reducible assumption | exact ⟨_, by omega, rfl⟩) (by first | with_reducible assumption | exact ⟨_, by omega, rfl⟩) | exact IsR.mx (by first | with_reducible assumption | exact ⟨_, by omega, rfl⟩) (by first | with_reducible assumption | exact ⟨_, by omega, rfl⟩) | with_reducible exact mn9 (by omega) | (simp (disch := omega) only [li_0, li_1, li_2, li_3, li_4, li_5, li_6, li_7, li_8, li_9, li_10, li_20, li_30, li_82, li_91, li_273, li_380, li_400, li_512, li_1000, li_2457, li_4000, nI_add, nI_1, nI_mul, nI_sub, shl_1, shl_1b]; with_reducible exact mn9b (by omega)))) ?_
  rintro (e15 | e15) _ ⟨rfl, hxe15⟩
  · refine Ok.el ?_
    exact Ok.ret ⟨rfl, True.intro⟩
  · refine Ok.er ?_
    exact Ok.ret ⟨rfl, True.intro⟩
set_option maxHeartbeats 4000000 in
set_option maxRecDepth 100000 in
theorem rSX10_mostWeightAtPoint_4 {t : St} (hT : TY t) {x0 : Nat} (g_x0 : netAt x0 = true) {a0 : Int32} {a1 : Int32} (h_a1 : IsR 5001 a1) : Ok (wh (SX10_mostWeightAtPoint_4 x0) (a0, a1) t) (fun r u => t = u ∧ (True)) := by
  obtain ⟨j0, hj0, rfl⟩ := h_a1
  refine Ok.loop (fun k c s => t = s ∧ (∃ j, c.2 = nI j ∧ j ≤ 5000 ∧ 0 ≤ j ∧ k = 5000 - j)) ?_ (5000 - j0) _ _ ⟨rfl, ⟨j0, rfl, by omega, by omega, rfl⟩⟩
  clear hj0
  intro k c s hI
  obtain ⟨rfl, ⟨j, ej, hj, hlo, rfl⟩⟩ := hI
  obtain ⟨c0, c1⟩ := c
  dsimp only at ej
  subst ej
  unfold SX10_mostWeightAtPoint_4
  dsimp only
  refine Ok.rdT hT (ty_n0 g_x0) (by omega) (fun k_1 hk_1 ek_1 => ?_)
  refine Ok.ite (fun c_2 => ?_) (fun c_2 => ?_)
  · try simp (disch := omega) only [li_0, li_1, li_2, li_3, li_4, li_5, li_6, li_7, li_8, li_9, li_10, li_20, li_30, li_82, li_91, li_273, li_380, li_400, li_512, li_1000, li_2457, li_4000, nI_add, nI_1, nI_mul, nI_sub, shl_1, shl_1b, nI_leP, nI_ltP, nI_eqP, Nat.not_le, Nat.not_lt] at c_2
    exact Ok.ret ⟨rfl, True.intro⟩
  · try simp (disch := omega) only [li_0, li_1, li_2, li_3, li_4, li_5, li_6, li_7, li_8, li_9, li_10, li_20, li_30, li_82, li_91, li_273, li_380, li_400, li_512, li_1000, li_2457, li_4000, nI_add, nI_1, nI_mul, nI_sub, shl_1, shl_1b, nI_leP, nI_ltP, nI_eqP, Nat.not_le, Nat.not_lt] at c_2
    refine Ok.bd _ (rX10_weightAt hT (by first | assumption | decide +kernel) (by first | with_reducible assumption | (simp (disch := omega) only [li_0, li_1, li_2, li_3, li_4, li_5, li_6, li_7, li_8, li_9, li_10, li_20, li_30, li_82, li_91, li_273, li_380, li_400, li_512, li_1000, li_2457, li_4000, nI_add, nI_1, nI_mul, nI_sub, shl_1, shl_1b, nI_or, nI_xor, nI_and]; with_reducible exact ⟨_, (by first | omega | exact or9 (by omega) (by omega) | exact xor9 (by omega) (by omega)), rfl⟩) | with_reducible exact ⟨_, (by first | omega | exact or9 (by omega) (by omega) | exact xor9 (by omega) (by omega)), rfl⟩ | exact IsR.mn (by first | with_reducible assumption | exact ⟨_, by omega, rfl⟩) (by first | with_reducible assumption | exact ⟨_, by omega, rfl⟩) | exact IsR.mx (by first | with_reducible assumption | exact ⟨_, by omega, rfl⟩) (by first | with_reducible assumption | exact ⟨_, by omega, rfl⟩) | with_reducible exact mn9 (by omega) | (simp (disch := omega) only [li_0, li_1, li_2, li_3, li_4, li_5, li_6, li_7, li_8, li_9, li_10, li_20, li_30, li_82, li_91, li_273, li_380, li_400, li_512, li_1000, li_2457, li_4000, nI_add, nI_1, nI_mul, nI_sub, shl_1, shl_1b]; with_reducible exact mn9b (by omega)))) ?_
    rintro v4 _ ⟨rfl, hxv4⟩
    exact Ok.ret ⟨5000 - (j + 1), by omega, rfl, ⟨j + 1, nI_1 j, by omega, by omega, rfl⟩⟩
set_option maxHeartbeats 4000000 in
set_option maxRecDepth 100000 in
theorem rX10_mostWeightAtPoint {t : St} (hT : TY t) {x : Nat} (g_x : netAt x = true) : Ok (FX10_mostWeightAtPoint x t) (fun r u => t = u ∧ (True)) := by
  unfold FX10_mostWeightAtPoint
  refine Ok.ck (by first | assumption | decide +kernel) (fun g_1 => ?_)
  refine Ok.bd _ (rSX10_mostWeightAtPoint_4 hT (by first | assumption | decide +kernel) (by show IsR 5001 _; first | with_reducible assumption | (simp (disch := omega) only [li_0, li_1, li_2, li_3, li_4, li_5, li_6, li_7, li_8, li_9, li_10, li_20, li_30, li_82, li_91, li_273, li_380, li_400, li_512, li_1000, li_2457, li_4000, nI_add, nI_1, nI_mul, nI_sub, shl_1, shl_1b, nI_or, nI_xor, nI_and]; with_reducible exact ⟨_, (by first | omega | exact or9 (by omega) (by omega) | exact xor9 (by omega) (by omega)), rfl⟩) | with_reducible exact ⟨_, (by first | omega | exact or9 (by omega) (by omega) | exact xor9 (by omega) (by omega)), rfl⟩ | exact IsR.mn (by first | with_reducible assumption | exact ⟨_, by omega, rfl⟩) (by first | with_reducible assumption | exact ⟨_, by omega, rfl⟩) | exact IsR.mx (by first | with_reducible assumption | exact ⟨_, by omega, rfl⟩) (by first | with_reducible assumption | exact ⟨_, by omega, rfl⟩) | with_reducible exact mn9 (by omega) | (simp (disch := omega) only [li_0, li_1, li_2, li_3, li_4, li_5, li_6, li_7, li_8, li_9, li_10, li_20, li_30, li_82, li_91, li_273, li_380, li_400, li_512, li_1000, li_2457, li_4000, nI_add, nI_1, nI_mul, nI_sub, shl_1, shl_1b]; with_reducible exact mn9b (by omega)))) ?_
  rintro e7 _ ⟨rfl, hxe7⟩
  exact Ok.ret ⟨rfl, True.intro⟩
set_option maxHeartbeats 4000000 in
set_option maxRecDepth 100000 in
theorem rSX8_bitAt_4 {t : St} (hT : TY t) {w0 : Int32} {w1 : Int32} {a0 : Int32} {a1 : Int32} (h_a1 : IsR 5001 a1) : Ok (wh (SX8_bitAt_4 w0 w1) (a0, a1) t) (fun r u => t = u ∧ (Sum.elim (fun v => True) (fun e => True) r)) := by
  obtain ⟨j0, hj0, rfl⟩ := h_a1
  refine Ok.loop (fun k c s => t = s ∧ (∃ j, c.2 = nI j ∧ j ≤ 5000 ∧ 0 ≤ j ∧ k = 5000 - j)) ?_ (5000 - j0) _ _ ⟨rfl, ⟨j0, rfl, by omega, by omega, rfl⟩⟩
  clear hj0
  intro k c s hI
  obtain ⟨rfl, ⟨j, ej, hj, hlo, rfl⟩⟩ := hI
  obtain ⟨c0, c1⟩ := c
  dsimp only at ej
  subst ej
  unfold SX8_bitAt_4
  dsimp only
  refine Ok.ite (fun c_1 => ?_) (fun c_1 => ?_)
  · try simp (disch := omega) only [li_0, li_1, li_2, li_3, li_4, li_5, li_6, li_7, li_8, li_9, li_10, li_20, li_30, li_82, li_91, li_273, li_380, li_400, li_512, li_1000, li_2457, li_4000, nI_add, nI_1, nI_mul, nI_sub, shl_1, shl_1b, nI_leP, nI_ltP, nI_eqP, Nat.not_le, Nat.not_lt] at c_1
    exact Ok.ret ⟨rfl, True.intro⟩
  · try simp (disch := omega) only [li_0, li_1, li_2, li_3, li_4, li_5, li_6, li_7, li_8, li_9, li_10, li_20, li_30, li_82, li_91, li_273, li_380, li_400, li_512, li_1000, li_2457, li_4000, nI_add, nI_1, nI_mul, nI_sub, shl_1, shl_1b, nI_leP, nI_ltP, nI_eqP, Nat.not_le, Nat.not_lt] at c_1
    refine Ok.ite (fun c_2 => ?_) (fun c_2 => ?_)
    · try simp (disch := omega) only [li_0, li_1, li_2, li_3, li_4, li_5, li_6, li_7, li_8, li_9, li_10, li_20, li_30, li_82, li_91, li_273, li_380, li_400, li_512, li_1000, li_2457, li_4000, nI_add, nI_1, nI_mul, nI_sub, shl_1, shl_1b, nI_leP, nI_ltP, nI_eqP, Nat.not_le, Nat.not_lt] at c_2
      exact Ok.ret ⟨5000 - (j + 1), by omega, rfl, ⟨j + 1, nI_1 j, by omega, by omega, rfl⟩⟩
    · try simp (disch := omega) only [li_0, li_1, li_2, li_3, li_4, li_5, li_6, li_7, li_8, li_9, li_10, li_20, li_30, li_82, li_91, li_273, li_380, li_400, li_512, li_1000, li_2457, li_4000, nI_add, nI_1, nI_mul, nI_sub, shl_1, shl_1b, nI_leP, nI_ltP, nI_eqP, Nat.not_le, Nat.not_lt] at c_2
      refine Ok.ite (fun c_3 => ?_) (fun c_3 => ?_)
      · try simp (disch := omega) only [li_0, li_1, li_2, li_3, li_4, li_5, li_6, li_7, li_8, li_9, li_10, li_20, li_30, li_82, li_91, li_273, li_380, li_400, li_512, li_1000, li_2457, li_4000, nI_add, nI_1, nI_mul, nI_sub, shl_1, shl_1b, nI_leP, nI_ltP, nI_eqP, Nat.not_le, Nat.not_lt] at c_3
        exact Ok.ret ⟨rfl, True.intro⟩
      · try simp (disch := omega) only [li_0, li_1, li_2, li_3, li_4, li_5, li_6, li_7, li_8, li_9, li_10, li_20, li_30, li_82, li_91, li_273, li_380, li_400, li_512, li_1000, li_2457, li_4000, nI_add, nI_1, nI_mul, nI_sub, shl_1, shl_1b, nI_leP, nI_ltP, nI_eqP, Nat.not_le, Nat.not_lt] at c_3
        exact Ok.ret ⟨5000 - (j + 1), by omega, rfl, ⟨j + 1, nI_1 j, by omega, by omega, rfl⟩⟩
set_option maxHeartbeats 4000000 in
set_option maxRecDepth 100000 in
theorem rX8_bitAt {t : St} (hT : TY t) {a : Int32} {b : Int32} : Ok (FX8_bitAt a b t) (fun r u => t = u ∧ (True)) := by
  unfold FX8_bitAt
  refine Ok.bd _ (rSX8_bitAt_4 hT (by show IsR 5001 _; first | with_reducible assumption | (simp (disch := omega) only [li_0, li_1, li_2, li_3, li_4, li_5, li_6, li_7, li_8, li_9, li_10, li_20, li_30, li_82, li_91, li_273, li_380, li_400, li_512, li_1000, li_2457, li_4000, nI_add, nI_1, nI_mul, nI_sub, shl_1, shl_1b, nI_or, nI_xor, nI_and]; with_reducible exact ⟨_, (by first | omega | exact or9 (by omega) (by omega) | exact xor9 (by omega) (by omega)), rfl⟩) | with_reducible exact ⟨_, (by first | omega | exact or9 (by omega) (by omega) | exact xor9 (by omega) (by omega)), rfl⟩ | exact IsR.mn (by first | with_reducible assumption | exact ⟨_, by omega, rfl⟩) (by first | with_reducible assumption | exact ⟨_, by omega, rfl⟩) | exact IsR.mx (by first | with_reducible assumption | exact ⟨_, by omega, rfl⟩) (by first | with_reducible assumption | exact ⟨_, by omega, rfl⟩) | with_reducible exact mn9 (by omega) | (simp (disch := omega) only [li_0, li_1, li_2, li_3, li_4, li_5, li_6, li_7, li_8, li_9, li_10, li_20, li_30, li_82, li_91, li_273, li_380, li_400, li_512, li_1000, li_2457, li_4000, nI_add, nI_1, nI_mul, nI_sub, shl_1, shl_1b]; with_reducible exact mn9b (by omega)))) ?_
  rintro (e5 | e5) _ ⟨rfl, hxe5⟩
  · refine Ok.el ?_
    exact Ok.ret ⟨rfl, True.intro⟩
  · refine Ok.er ?_
    exact Ok.ret ⟨rfl, True.intro⟩
set_option maxHeartbeats 4000000 in
set_option maxRecDepth 100000 in
theorem rSX8_widestBand_16 {t : St} (hT : TY t) {x0 : Nat} (g_x0 : netAt x0 = true) {w2 : Int32} (h_w2 : IsR 9 w2) {a0 : Int32} {a1 : Int32} (h_a1 : IsR 5001 a1) : Ok (wh (SX8_widestBand_16 x0 w2) (a0, a1) t) (fun r u => t = u ∧ (True)) := by
  obtain ⟨j0, hj0, rfl⟩ := h_a1
  refine Ok.loop (fun k c s => t = s ∧ (∃ j, c.2 = nI j ∧ j ≤ 5000 ∧ 0 ≤ j ∧ k = 5000 - j)) ?_ (5000 - j0) _ _ ⟨rfl, ⟨j0, rfl, by omega, by omega, rfl⟩⟩
  obtain ⟨k_w2, h_w2, rfl⟩ := h_w2
  clear hj0
  intro k c s hI
  obtain ⟨rfl, ⟨j, ej, hj, hlo, rfl⟩⟩ := hI
  obtain ⟨c0, c1⟩ := c
  dsimp only at ej
  subst ej
  unfold SX8_widestBand_16
  dsimp only
  refine Ok.rdT hT (ty_n0 g_x0) (by omega) (fun k_1 hk_1 ek_1 => ?_)
  refine Ok.ite (fun c_2 => ?_) (fun c_2 => ?_)
  · try simp (disch := omega) only [li_0, li_1, li_2, li_3, li_4, li_5, li_6, li_7, li_8, li_9, li_10, li_20, li_30, li_82, li_91, li_273, li_380, li_400, li_512, li_1000, li_2457, li_4000, nI_add, nI_1, nI_mul, nI_sub, shl_1, shl_1b, nI_leP, nI_ltP, nI_eqP, Nat.not_le, Nat.not_lt] at c_2
    exact Ok.ret ⟨rfl, True.intro⟩
  · try simp (disch := omega) only [li_0, li_1, li_2, li_3, li_4, li_5, li_6, li_7, li_8, li_9, li_10, li_20, li_30, li_82, li_91, li_273, li_380, li_400, li_512, li_1000, li_2457, li_4000, nI_add, nI_1, nI_mul, nI_sub, shl_1, shl_1b, nI_leP, nI_ltP, nI_eqP, Nat.not_le, Nat.not_lt] at c_2
    refine Ok.ck (by first | (simp (disch := omega) only [li_0, li_1, li_2, li_3, li_4, li_5, li_6, li_7, li_8, li_9, li_10, li_20, li_30, li_82, li_91, li_273, li_380, li_400, li_512, li_1000, li_2457, li_4000, nI_add, nI_1, nI_mul, nI_sub, shl_1, shl_1b, nI_or, nI_xor, nI_and]; with_reducible exact inb_n (by first | omega | exact or9 (by omega) (by omega) | exact xor9 (by omega) (by omega)) (by omega)) | with_reducible exact inb_n (by omega) (by omega) | exact IsR.ib (by with_reducible assumption) (by decide) | decide) (fun g_3 => ?_)
    refine Ok.rdT hT (ty_od g_x0 (inb_lt g_3)) (by omega) (fun k_4 hk_4 ek_4 => ?_)
    refine Ok.ck (by first | (simp (disch := omega) only [li_0, li_1, li_2, li_3, li_4, li_5, li_6, li_7, li_8, li_9, li_10, li_20, li_30, li_82, li_91, li_273, li_380, li_400, li_512, li_1000, li_2457, li_4000, nI_add, nI_1, nI_mul, nI_sub, shl_1, shl_1b, nI_or, nI_xor, nI_and]; with_reducible exact inb_n (by first | omega | exact or9 (by omega) (by omega) | exact xor9 (by omega) (by omega)) (by omega)) | with_reducible exact inb_n (by omega) (by omega) | exact IsR.ib (by with_reducible assumption) (by decide) | decide) (fun g_5 => ?_)
    refine Ok.rdT hT (ty_od g_x0 (inb_lt g_5)) (by omega) (fun k_6 hk_6 ek_6 => ?_)
    refine Ok.bd _ (rX5_weightOf hT (by first | assumption | decide +kernel) (by first | with_reducible assumption | (simp (disch := omega) only [li_0, li_1, li_2, li_3, li_4, li_5, li_6, li_7, li_8, li_9, li_10, li_20, li_30, li_82, li_91, li_273, li_380, li_400, li_512, li_1000, li_2457, li_4000, nI_add, nI_1, nI_mul, nI_sub, shl_1, shl_1b, nI_or, nI_xor, nI_and]; with_reducible exact ⟨_, (by first | omega | exact or9 (by omega) (by omega) | exact xor9 (by omega) (by omega)), rfl⟩) | with_reducible exact ⟨_, (by first | omega | exact or9 (by omega) (by omega) | exact xor9 (by omega) (by omega)), rfl⟩ | exact IsR.mn (by first | with_reducible assumption | exact ⟨_, by omega, rfl⟩) (by first | with_reducible assumption | exact ⟨_, by omega, rfl⟩) | exact IsR.mx (by first | with_reducible assumption | exact ⟨_, by omega, rfl⟩) (by first | with_reducible assumption | exact ⟨_, by omega, rfl⟩) | with_reducible exact mn9 (by omega) | (simp (disch := omega) only [li_0, li_1, li_2, li_3, li_4, li_5, li_6, li_7, li_8, li_9, li_10, li_20, li_30, li_82, li_91, li_273, li_380, li_400, li_512, li_1000, li_2457, li_4000, nI_add, nI_1, nI_mul, nI_sub, shl_1, shl_1b]; with_reducible exact mn9b (by omega))) (by first | with_reducible assumption | (simp (disch := omega) only [li_0, li_1, li_2, li_3, li_4, li_5, li_6, li_7, li_8, li_9, li_10, li_20, li_30, li_82, li_91, li_273, li_380, li_400, li_512, li_1000, li_2457, li_4000, nI_add, nI_1, nI_mul, nI_sub, shl_1, shl_1b, nI_or, nI_xor, nI_and]; with_reducible exact ⟨_, (by first | omega | exact or9 (by omega) (by omega) | exact xor9 (by omega) (by omega)), rfl⟩) | with_reducible exact ⟨_, (by first | omega | exact or9 (by omega) (by omega) | exact xor9 (by omega) (by omega)), rfl⟩ | exact IsR.mn (by first | with_reducible assumption | exact ⟨_, by omega, rfl⟩) (by first | with_reducible assumption | exact ⟨_, by omega, rfl⟩) | exact IsR.mx (by first | with_reducible assumption | exact ⟨_, by omega, rfl⟩) (by first | with_reducible assumption | exact ⟨_, by omega, rfl⟩) | with_reducible exact mn9 (by omega) | (simp (disch := omega) only [li_0, li_1, li_2, li_3, li_4, li_5, li_6, li_7, li_8, li_9, li_10, li_20, li_30, li_82, li_91, li_273, li_380, li_400, li_512, li_1000, li_2457, li_4000, nI_add, nI_1, nI_mul, nI_sub, shl_1, shl_1b]; with_reducible exact mn9b (by omega)))) ?_
    rintro _ _ ⟨rfl, kv13, hv13, rfl⟩
    refine Ok.bd (fun (v17 : Int32) t18 => t = t18 ∧ (True)) ?_ ?_
    · refine Ok.ite (fun c_8 => ?_) (fun c_8 => ?_)
      · try simp (disch := omega) only [li_0, li_1, li_2, li_3, li_4, li_5, li_6, li_7, li_8, li_9, li_10, li_20, li_30, li_82, li_91, li_273, li_380, li_400, li_512, li_1000, li_2457, li_4000, nI_add, nI_1, nI_mul, nI_sub, shl_1, shl_1b, nI_leP, nI_ltP, nI_eqP, Nat.not_le, Nat.not_lt] at c_8
        exact Ok.ret ⟨rfl, True.intro⟩
      · try simp (disch := omega) only [li_0, li_1, li_2, li_3, li_4, li_5, li_6, li_7, li_8, li_9, li_10, li_20, li_30, li_82, li_91, li_273, li_380, li_400, li_512, li_1000, li_2457, li_4000, nI_add, nI_1, nI_mul, nI_sub, shl_1, shl_1b, nI_leP, nI_ltP, nI_eqP, Nat.not_le, Nat.not_lt] at c_8
        exact Ok.ret ⟨rfl, True.intro⟩
    · intro v17 t18 hx
      obtain ⟨rfl, hxv17⟩ := hx
      exact Ok.ret ⟨5000 - (j + 1), by omega, rfl, ⟨j + 1, nI_1 j, by omega, by omega, rfl⟩⟩
set_option maxHeartbeats 4000000 in
set_option maxRecDepth 100000 in
theorem rSX8_widestBand_4 {t : St} (hT : TY t) {x0 : Nat} (g_x0 : netAt x0 = true) {a0 : Int32} {a1 : Int32} (h_a1 : IsR 5001 a1) : Ok (wh (SX8_widestBand_4 x0) (a0, a1) t) (fun r u => t = u ∧ (True)) := by
  obtain ⟨j0, hj0, rfl⟩ := h_a1
  refine Ok.loop (fun k c s => t = s ∧ (∃ j, c.2 = nI j ∧ j ≤ 5000 ∧ 0 ≤ j ∧ k = 5000 - j)) ?_ (5000 - j0) _ _ ⟨rfl, ⟨j0, rfl, by omega, by omega, rfl⟩⟩
  clear hj0
  intro k c s hI
  obtain ⟨rfl, ⟨j, ej, hj, hlo, rfl⟩⟩ := hI
  obtain ⟨c0, c1⟩ := c
  dsimp only at ej
  subst ej
  unfold SX8_widestBand_4
  dsimp only
  refine Ok.rdT hT (ty_n0 g_x0) (by omega) (fun k_1 hk_1 ek_1 => ?_)
  refine Ok.ite (fun c_2 => ?_) (fun c_2 => ?_)
  · try simp (disch := omega) only [li_0, li_1, li_2, li_3, li_4, li_5, li_6, li_7, li_8, li_9, li_10, li_20, li_30, li_82, li_91, li_273, li_380, li_400, li_512, li_1000, li_2457, li_4000, nI_add, nI_1, nI_mul, nI_sub, shl_1, shl_1b, nI_leP, nI_ltP, nI_eqP, Nat.not_le, Nat.not_lt] at c_2
    exact Ok.ret ⟨rfl, True.intro⟩
  · try simp (disch := omega) only [li_0, li_1, li_2, li_3, li_4, li_5, li_6, li_7, li_8, li_9, li_10, li_20, li_30, li_82, li_91, li_273, li_380, li_400, li_512, li_1000, li_2457, li_4000, nI_add, nI_1, nI_mul, nI_sub, shl_1, shl_1b, nI_leP, nI_ltP, nI_eqP, Nat.not_le, Nat.not_lt] at c_2
    refine Ok.bd _ (rSX8_widestBand_16 hT (by first | assumption | decide +kernel) (by first | with_reducible assumption | (simp (disch := omega) only [li_0, li_1, li_2, li_3, li_4, li_5, li_6, li_7, li_8, li_9, li_10, li_20, li_30, li_82, li_91, li_273, li_380, li_400, li_512, li_1000, li_2457, li_4000, nI_add, nI_1, nI_mul, nI_sub, shl_1, shl_1b, nI_or, nI_xor, nI_and]; with_reducible exact ⟨_, (by first | omega | exact or9 (by omega) (by omega) | exact xor9 (by omega) (by omega)), rfl⟩) | with_reducible exact ⟨_, (by first | omega | exact or9 (by omega) (by omega) | exact xor9 (by omega) (by omega)), rfl⟩ | exact IsR.mn (by first | with_reducible assumption | exact ⟨_, by omega, rfl⟩) (by first | with_reducible assumption | exact ⟨_, by omega, rfl⟩) | exact IsR.mx (by first | with_reducible assumption | exact ⟨_, by omega, rfl⟩) (by first | with_reducible assumption | exact ⟨_, by omega, rfl⟩) | with_reducible exact mn9 (by omega) | (simp (disch := omega) only [li_0, li_1, li_2, li_3, li_4, li_5, li_6, li_7, li_8, li_9, li_10, li_20, li_30, li_82, li_91, li_273, li_380, li_400, li_512, li_1000, li_2457, li_4000, nI_add, nI_1, nI_mul, nI_sub, shl_1, shl_1b]; with_reducible exact mn9b (by omega))) (by show IsR 5001 _; first | with_reducible assumption | (simp (disch := omega) only [li_0, li_1, li_2, li_3, li_4, li_5, li_6, li_7, li_8, li_9, li_10, li_20, li_30, li_82, li_91, li_273, li_380, li_400, li_512, li_1000, li_2457, li_4000, nI_add, nI_1, nI_mul, nI_sub, shl_1, shl_1b, nI_or, nI_xor, nI_and]; with_reducible exact ⟨_, (by first | omega | exact or9 (by omega) (by omega) | exact xor9 (by omega) (by omega)), rfl⟩) | with_reducible exact ⟨_, (by first | omega | exact or9 (by omega) (by omega) | exact xor9 (by omega) (by omega)), rfl⟩ | exact IsR.mn (by first | with_reducible assumption | exact ⟨_, by omega, rfl⟩) (by first | with_reducible assumption | exact ⟨_, by omega, rfl⟩) | exact IsR.mx (by first | with_reducible assumption | exact ⟨_, by omega, rfl⟩) (by first | with_reducible assumption | exact ⟨_, by omega, rfl⟩) | with_reducible exact mn9 (by omega) | (simp (disch := omega) only [li_0, li_1, li_2, li_3, li_4, li_5, li_6, li_7, li_8, li_9, li_10, li_20, li_30, li_82, li_91, li_273, li_380, li_400, li_512, li_1000, li_2457, li_4000, nI_add, nI_1, nI_mul, nI_sub, shl_1, shl_1b]; with_reducible exact mn9b (by omega)))) ?_
    rintro e21 _ ⟨rfl, hxe21⟩
    exact Ok.ret ⟨5000 - (j + 1), by omega, rfl, ⟨j + 1, nI_1 j, by omega, by omega, rfl⟩⟩
set_option maxHeartbeats 4000000 in
set_option maxRecDepth 100000 in
theorem rX8_widestBand {t : St} (hT : TY t) {x : Nat} (g_x : netAt x = true) : Ok (FX8_widestBand x t) (fun r u => t = u ∧ (True)) := by
  unfold FX8_widestBand
  refine Ok.ck (by first | assumption | decide +kernel) (fun g_1 => ?_)
  refine Ok.bd _ (rSX8_widestBand_4 hT (by first | assumption | decide +kernel) (by show IsR 5001 _; first | with_reducible assumption | (simp (disch := omega) only [li_0, li_1, li_2, li_3, li_4, li_5, li_6, li_7, li_8, li_9, li_10, li_20, li_30, li_82, li_91, li_273, li_380, li_400, li_512, li_1000, li_2457, li_4000, nI_add, nI_1, nI_mul, nI_sub, shl_1, shl_1b, nI_or, nI_xor, nI_and]; with_reducible exact ⟨_, (by first | omega | exact or9 (by omega) (by omega) | exact xor9 (by omega) (by omega)), rfl⟩) | with_reducible exact ⟨_, (by first | omega | exact or9 (by omega) (by omega) | exact xor9 (by omega) (by omega)), rfl⟩ | exact IsR.mn (by first | with_reducible assumption | exact ⟨_, by omega, rfl⟩) (by first | with_reducible assumption | exact ⟨_, by omega, rfl⟩) | exact IsR.mx (by first | with_reducible assumption | exact ⟨_, by omega, rfl⟩) (by first | with_reducible assumption | exact ⟨_, by omega, rfl⟩) | with_reducible exact mn9 (by omega) | (simp (disch := omega) only [li_0, li_1, li_2, li_3, li_4, li_5, li_6, li_7, li_8, li_9, li_10, li_20, li_30, li_82, li_91, li_273, li_380, li_400, li_512, li_1000, li_2457, li_4000, nI_add, nI_1, nI_mul, nI_sub, shl_1, shl_1b]; with_reducible exact mn9b (by omega)))) ?_
  rintro e25 _ ⟨rfl, hxe25⟩
  exact Ok.ret ⟨rfl, True.intro⟩
set_option maxHeartbeats 4000000 in
set_option maxRecDepth 100000 in
theorem rX6_of {t : St} (hT : TY t) {x : Nat} (g_x : netAt x = true) {a : Int32} {b : Int32} {c : Int32} (h_c : (¬ a = 5 ∧ ¬ a = 6) ∨ IsR 9 c) : Ok (FX6_of x a b c t) (fun r u => t = u ∧ (True)) := by
  unfold FX6_of
  refine Ok.ck (by first | assumption | decide +kernel) (fun g_1 => ?_)
  refine Ok.ite (fun c_2 => ?_) (fun c_2 => ?_)
  · try simp (disch := omega) only [li_0, li_1, li_2, li_3, li_4, li_5, li_6, li_7, li_8, li_9, li_10, li_20, li_30, li_82, li_91, li_273, li_380, li_400, li_512, li_1000, li_2457, li_4000, nI_add, nI_1, nI_mul, nI_sub, shl_1, shl_1b, nI_leP, nI_ltP, nI_eqP, Nat.not_le, Nat.not_lt] at c_2
    refine Ok.bd _ (rX6_gateSize hT (by first | assumption | decide +kernel)) ?_
    rintro v2 _ ⟨rfl, hxv2⟩
    exact Ok.ret ⟨rfl, True.intro⟩
  · try simp (disch := omega) only [li_0, li_1, li_2, li_3, li_4, li_5, li_6, li_7, li_8, li_9, li_10, li_20, li_30, li_82, li_91, li_273, li_380, li_400, li_512, li_1000, li_2457, li_4000, nI_add, nI_1, nI_mul, nI_sub, shl_1, shl_1b, nI_leP, nI_ltP, nI_eqP, Nat.not_le, Nat.not_lt] at c_2
    refine Ok.ite (fun c_4 => ?_) (fun c_4 => ?_)
    · try simp (disch := omega) only [li_0, li_1, li_2, li_3, li_4, li_5, li_6, li_7, li_8, li_9, li_10, li_20, li_30, li_82, li_91, li_273, li_380, li_400, li_512, li_1000, li_2457, li_4000, nI_add, nI_1, nI_mul, nI_sub, shl_1, shl_1b, nI_leP, nI_ltP, nI_eqP, Nat.not_le, Nat.not_lt] at c_4
      refine Ok.bd _ (rX6_fringeSize hT (by first | assumption | decide +kernel)) ?_
      rintro v7 _ ⟨rfl, hxv7⟩
      exact Ok.ret ⟨rfl, True.intro⟩
    · try simp (disch := omega) only [li_0, li_1, li_2, li_3, li_4, li_5, li_6, li_7, li_8, li_9, li_10, li_20, li_30, li_82, li_91, li_273, li_380, li_400, li_512, li_1000, li_2457, li_4000, nI_add, nI_1, nI_mul, nI_sub, shl_1, shl_1b, nI_leP, nI_ltP, nI_eqP, Nat.not_le, Nat.not_lt] at c_4
      refine Ok.ite (fun c_6 => ?_) (fun c_6 => ?_)
      · try simp (disch := omega) only [li_0, li_1, li_2, li_3, li_4, li_5, li_6, li_7, li_8, li_9, li_10, li_20, li_30, li_82, li_91, li_273, li_380, li_400, li_512, li_1000, li_2457, li_4000, nI_add, nI_1, nI_mul, nI_sub, shl_1, shl_1b, nI_leP, nI_ltP, nI_eqP, Nat.not_le, Nat.not_lt] at c_6
        obtain ⟨kc, hkc, rfl⟩ := h_c.resolve_left (fun q => q.1 c_6)
        refine Ok.bd _ (rX6_neighbours hT (by first | assumption | decide +kernel) (by first | with_reducible assumption | (simp (disch := omega) only [li_0, li_1, li_2, li_3, li_4, li_5, li_6, li_7, li_8, li_9, li_10, li_20, li_30, li_82, li_91, li_273, li_380, li_400, li_512, li_1000, li_2457, li_4000, nI_add, nI_1, nI_mul, nI_sub, shl_1, shl_1b, nI_or, nI_xor, nI_and]; with_reducible exact ⟨_, (by first | omega | exact or9 (by omega) (by omega) | exact xor9 (by omega) (by omega)), rfl⟩) | with_reducible exact ⟨_, (by first | omega | exact or9 (by omega) (by omega) | exact xor9 (by omega) (by omega)), rfl⟩ | exact IsR.mn (by first | with_reducible assumption | exact ⟨_, by omega, rfl⟩) (by first | with_reducible assumption | exact ⟨_, by omega, rfl⟩) | exact IsR.mx (by first | with_reducible assumption | exact ⟨_, by omega, rfl⟩) (by first | with_reducible assumption | exact ⟨_, by omega, rfl⟩) | with_reducible exact mn9 (by omega) | (simp (disch := omega) only [li_0, li_1, li_2, li_3, li_4, li_5, li_6, li_7, li_8, li_9, li_10, li_20, li_30, li_82, li_91, li_273, li_380, li_400, li_512, li_1000, li_2457, li_4000, nI_add, nI_1, nI_mul, nI_sub, shl_1, shl_1b]; with_reducible exact mn9b (by omega)))) ?_
        rintro v12 _ ⟨rfl, hxv12⟩
        refine Ok.bd _ (rJ6_bitCount_0f7a4 hT) ?_
        rintro v15 _ ⟨rfl, hxv15⟩
        exact Ok.ret ⟨rfl, True.intro⟩
      · try simp (disch := omega) only [li_0, li_1, li_2, li_3, li_4, li_5, li_6, li_7, li_8, li_9, li_10, li_20, li_30, li_82, li_91, li_273, li_380, li_400, li_512, li_1000, li_2457, li_4000, nI_add, nI_1, nI_mul, nI_sub, shl_1, shl_1b, nI_leP, nI_ltP, nI_eqP, Nat.not_le, Nat.not_lt] at c_6
        refine Ok.ite (fun c_9 => ?_) (fun c_9 => ?_)
        · try simp (disch := omega) only [li_0, li_1, li_2, li_3, li_4, li_5, li_6, li_7, li_8, li_9, li_10, li_20, li_30, li_82, li_91, li_273, li_380, li_400, li_512, li_1000, li_2457, li_4000, nI_add, nI_1, nI_mul, nI_sub, shl_1, shl_1b, nI_leP, nI_ltP, nI_eqP, Nat.not_le, Nat.not_lt] at c_9
          obtain ⟨kc, hkc, rfl⟩ := h_c.resolve_left (fun q => q.2 c_9)
          refine Ok.bd _ (rX6_newLines hT (by first | assumption | decide +kernel) (by first | with_reducible assumption | (simp (disch := omega) only [li_0, li_1, li_2, li_3, li_4, li_5, li_6, li_7, li_8, li_9, li_10, li_20, li_30, li_82, li_91, li_273, li_380, li_400, li_512, li_1000, li_2457, li_4000, nI_add, nI_1, nI_mul, nI_sub, shl_1, shl_1b, nI_or, nI_xor, nI_and]; with_reducible exact ⟨_, (by first | omega | exact or9 (by omega) (by omega) | exact xor9 (by omega) (by omega)), rfl⟩) | with_reducible exact ⟨_, (by first | omega | exact or9 (by omega) (by omega) | exact xor9 (by omega) (by omega)), rfl⟩ | exact IsR.mn (by first | with_reducible assumption | exact ⟨_, by omega, rfl⟩) (by first | with_reducible assumption | exact ⟨_, by omega, rfl⟩) | exact IsR.mx (by first | with_reducible assumption | exact ⟨_, by omega, rfl⟩) (by first | with_reducible assumption | exact ⟨_, by omega, rfl⟩) | with_reducible exact mn9 (by omega) | (simp (disch := omega) only [li_0, li_1, li_2, li_3, li_4, li_5, li_6, li_7, li_8, li_9, li_10, li_20, li_30, li_82, li_91, li_273, li_380, li_400, li_512, li_1000, li_2457, li_4000, nI_add, nI_1, nI_mul, nI_sub, shl_1, shl_1b]; with_reducible exact mn9b (by omega)))) ?_
          rintro v20 _ ⟨rfl, hxv20⟩
          exact Ok.ret ⟨rfl, True.intro⟩
        · try simp (disch := omega) only [li_0, li_1, li_2, li_3, li_4, li_5, li_6, li_7, li_8, li_9, li_10, li_20, li_30, li_82, li_91, li_273, li_380, li_400, li_512, li_1000, li_2457, li_4000, nI_add, nI_1, nI_mul, nI_sub, shl_1, shl_1b, nI_leP, nI_ltP, nI_eqP, Nat.not_le, Nat.not_lt] at c_9
          refine Ok.bd _ (rX6_cutWeight hT (by first | assumption | decide +kernel)) ?_
          rintro v24 _ ⟨rfl, hxv24⟩
          exact Ok.ret ⟨rfl, True.intro⟩
set_option maxHeartbeats 4000000 in
set_option maxRecDepth 100000 in
theorem rX6_atPlace {t : St} (hT : TY t) {x : Nat} (g_x : netAt x = true) {a : Int32} {b : Int32} (h_b : IsR 9 b) : Ok (FX6_atPlace x a b t) (fun r u => t = u ∧ (True)) := by
  obtain ⟨k_b, h_b, rfl⟩ := h_b
  unfold FX6_atPlace
  refine Ok.ck (by first | assumption | decide +kernel) (fun g_1 => ?_)
  refine Ok.bd _ (rX5_aheadOf hT (by first | assumption | decide +kernel) (by first | with_reducible assumption | (simp (disch := omega) only [li_0, li_1, li_2, li_3, li_4, li_5, li_6, li_7, li_8, li_9, li_10, li_20, li_30, li_82, li_91, li_273, li_380, li_400, li_512, li_1000, li_2457, li_4000, nI_add, nI_1, nI_mul, nI_sub, shl_1, shl_1b, nI_or, nI_xor, nI_and]; with_reducible exact ⟨_, (by first | omega | exact or9 (by omega) (by omega) | exact xor9 (by omega) (by omega)), rfl⟩) | with_reducible exact ⟨_, (by first | omega | exact or9 (by omega) (by omega) | exact xor9 (by omega) (by omega)), rfl⟩ | exact IsR.mn (by first | with_reducible assumption | exact ⟨_, by omega, rfl⟩) (by first | with_reducible assumption | exact ⟨_, by omega, rfl⟩) | exact IsR.mx (by first | with_reducible assumption | exact ⟨_, by omega, rfl⟩) (by first | with_reducible assumption | exact ⟨_, by omega, rfl⟩) | with_reducible exact mn9 (by omega) | (simp (disch := omega) only [li_0, li_1, li_2, li_3, li_4, li_5, li_6, li_7, li_8, li_9, li_10, li_20, li_30, li_82, li_91, li_273, li_380, li_400, li_512, li_1000, li_2457, li_4000, nI_add, nI_1, nI_mul, nI_sub, shl_1, shl_1b]; with_reducible exact mn9b (by omega)))) ?_
  rintro v1 _ ⟨rfl, hxv1⟩
  refine Ok.ck (by first | (simp (disch := omega) only [li_0, li_1, li_2, li_3, li_4, li_5, li_6, li_7, li_8, li_9, li_10, li_20, li_30, li_82, li_91, li_273, li_380, li_400, li_512, li_1000, li_2457, li_4000, nI_add, nI_1, nI_mul, nI_sub, shl_1, shl_1b, nI_or, nI_xor, nI_and]; with_reducible exact inb_n (by first | omega | exact or9 (by omega) (by omega) | exact xor9 (by omega) (by omega)) (by omega)) | with_reducible exact inb_n (by omega) (by omega) | exact IsR.ib (by with_reducible assumption) (by decide) | decide) (fun g_3 => ?_)
  refine Ok.rdT hT (ty_od g_1 (inb_lt g_3)) (by omega) (fun k_4 hk_4 ek_4 => ?_)
  refine Ok.bd _ (rX6_of hT (by first | assumption | decide +kernel) (by first | assumption | exact Or.inl ⟨by assumption, by assumption⟩ | exact Or.inr (by first | with_reducible assumption | exact ⟨_, by omega, rfl⟩))) ?_
  rintro v7 _ ⟨rfl, hxv7⟩
  exact Ok.ret ⟨rfl, True.intro⟩
set_option maxHeartbeats 4000000 in
set_option maxRecDepth 100000 in
theorem rSX8_measured_17 {t : St} (hT : TY t) {x0 : Nat} (g_x0 : netAt x0 = true) {w1 : Int32} {a0 : Int32} {a1 : Int32} {a2 : Int32} (h_a2 : IsR 5001 a2) : Ok (wh (SX8_measured_17 x0 w1) (a0, a1, a2) t) (fun r u => t = u ∧ (True)) := by
  obtain ⟨j0, hj0, rfl⟩ := h_a2
  refine Ok.loop (fun k c s => t = s ∧ (∃ j, c.2.2 = nI j ∧ j ≤ 5000 ∧ 0 ≤ j ∧ k = 5000 - j)) ?_ (5000 - j0) _ _ ⟨rfl, ⟨j0, rfl, by omega, by omega, rfl⟩⟩
  clear hj0
  intro k c s hI
  obtain ⟨rfl, ⟨j, ej, hj, hlo, rfl⟩⟩ := hI
  obtain ⟨c0, c1, c2⟩ := c
  dsimp only at ej
  subst ej
  unfold SX8_measured_17
  dsimp only
  refine Ok.rdT hT (ty_n0 g_x0) (by omega) (fun k_1 hk_1 ek_1 => ?_)
  refine Ok.ite (fun c_2 => ?_) (fun c_2 => ?_)
  · try simp (disch := omega) only [li_0, li_1, li_2, li_3, li_4, li_5, li_6, li_7, li_8, li_9, li_10, li_20, li_30, li_82, li_91, li_273, li_380, li_400, li_512, li_1000, li_2457, li_4000, nI_add, nI_1, nI_mul, nI_sub, shl_1, shl_1b, nI_leP, nI_ltP, nI_eqP, Nat.not_le, Nat.not_lt] at c_2
    exact Ok.ret ⟨rfl, True.intro⟩
  · try simp (disch := omega) only [li_0, li_1, li_2, li_3, li_4, li_5, li_6, li_7, li_8, li_9, li_10, li_20, li_30, li_82, li_91, li_273, li_380, li_400, li_512, li_1000, li_2457, li_4000, nI_add, nI_1, nI_mul, nI_sub, shl_1, shl_1b, nI_leP, nI_ltP, nI_eqP, Nat.not_le, Nat.not_lt] at c_2
    refine Ok.ck (by first | (simp (disch := omega) only [li_0, li_1, li_2, li_3, li_4, li_5, li_6, li_7, li_8, li_9, li_10, li_20, li_30, li_82, li_91, li_273, li_380, li_400, li_512, li_1000, li_2457, li_4000, nI_add, nI_1, nI_mul, nI_sub, shl_1, shl_1b, nI_or, nI_xor, nI_and]; with_reducible exact inb_n (by first | omega | exact or9 (by omega) (by omega) | exact xor9 (by omega) (by omega)) (by omega)) | with_reducible exact inb_n (by omega) (by omega) | exact IsR.ib (by with_reducible assumption) (by decide) | decide) (fun g_3 => ?_)
    refine Ok.rdT hT (ty_od g_x0 (inb_lt g_3)) (by omega) (fun k_4 hk_4 ek_4 => ?_)
    refine Ok.bd _ (rX6_aheadAtStep hT) ?_
    rintro v8 _ ⟨rfl, hxv8⟩
    refine Ok.bd _ (rX6_of hT (by first | assumption | decide +kernel) (by first | assumption | exact Or.inl ⟨by assumption, by assumption⟩ | exact Or.inr (by first | with_reducible assumption | exact ⟨_, by omega, rfl⟩))) ?_
    rintro v11 _ ⟨rfl, hxv11⟩
    refine Ok.bd _ (rX6_joined hT) ?_
    rintro v14 _ ⟨rfl, hxv14⟩
    exact Ok.ret ⟨5000 - (j + 1), by omega, rfl, ⟨j + 1, nI_1 j, by omega, by omega, rfl⟩⟩
set_option maxHeartbeats 4000000 in
set_option maxRecDepth 100000 in
theorem rX8_measured {t : St} (hT : TY t) {x : Nat} (g_x : netAt x = true) {a : Int32} : Ok (FX8_measured x a t) (fun r u => t = u ∧ (True)) := by
  unfold FX8_measured
  refine Ok.ck (by first | assumption | decide +kernel) (fun g_1 => ?_)
  refine Ok.ite (fun c_2 => ?_) (fun c_2 => ?_)
  · try simp (disch := omega) only [li_0, li_1, li_2, li_3, li_4, li_5, li_6, li_7, li_8, li_9, li_10, li_20, li_30, li_82, li_91, li_273, li_380, li_400, li_512, li_1000, li_2457, li_4000, nI_add, nI_1, nI_mul, nI_sub, shl_1, shl_1b, nI_leP, nI_ltP, nI_eqP, Nat.not_le, Nat.not_lt] at c_2
    refine Ok.bd _ (rX8_widestBand hT (by first | assumption | decide +kernel)) ?_
    rintro v22 _ ⟨rfl, hxv22⟩
    exact Ok.ret ⟨rfl, True.intro⟩
  · try simp (disch := omega) only [li_0, li_1, li_2, li_3, li_4, li_5, li_6, li_7, li_8, li_9, li_10, li_20, li_30, li_82, li_91, li_273, li_380, li_400, li_512, li_1000, li_2457, li_4000, nI_add, nI_1, nI_mul, nI_sub, shl_1, shl_1b, nI_leP, nI_ltP, nI_eqP, Nat.not_le, Nat.not_lt] at c_2
    refine Ok.bd _ (rSX8_measured_17 hT (by first | assumption | decide +kernel) (by show IsR 5001 _; first | with_reducible assumption | (simp (disch := omega) only [li_0, li_1, li_2, li_3, li_4, li_5, li_6, li_7, li_8, li_9, li_10, li_20, li_30, li_82, li_91, li_273, li_380, li_400, li_512, li_1000, li_2457, li_4000, nI_add, nI_1, nI_mul, nI_sub, shl_1, shl_1b, nI_or, nI_xor, nI_and]; with_reducible exact ⟨_, (by first | omega | exact or9 (by omega) (by omega) | exact xor9 (by omega) (by omega)), rfl⟩) | with_reducible exact ⟨_, (by first | omega | exact or9 (by omega) (by omega) | exact xor9 (by omega) (by omega)), rfl⟩ | exact IsR.mn (by first | with_reducible assumption | exact ⟨_, by omega, rfl⟩) (by first | with_reducible assumption | exact ⟨_, by omega, rfl⟩) | exact IsR.mx (by first | with_reducible assumption | exact ⟨_, by omega, rfl⟩) (by first | with_reducible assumption | exact ⟨_, by omega, rfl⟩) | with_reducible exact mn9 (by omega) | (simp (disch := omega) only [li_0, li_1, li_2, li_3, li_4, li_5, li_6, li_7, li_8, li_9, li_10, li_20, li_30, li_82, li_91, li_273, li_380, li_400, li_512, li_1000, li_2457, li_4000, nI_add, nI_1, nI_mul, nI_sub, shl_1, shl_1b]; with_reducible exact mn9b (by omega)))) ?_
    rintro e17 _ ⟨rfl, hxe17⟩
    exact Ok.ret ⟨rfl, True.intro⟩
set_option maxHeartbeats 4000000 in
set_option maxRecDepth 100000 in
theorem rSX10_fewestLines_9 {t : St} (hT : TY t) {x0 : Nat} (g_x0 : netAt x0 = true) {w1 : Int32} {w2 : Int32} {a0 : Int32} {a1 : Int32} {a2 : Int32} (h_a2 : IsR 5001 a2) (h_p : (a0 = -1 ∨ (IsR 9 a0 ∧ ¬ t x0 0 = nI 0))) : Ok (wh (SX10_fewestLines_9 x0 w1 w2) (a0, a1, a2) t) (fun r u => t = u ∧ ((r = -1 ∨ (IsR 9 r ∧ ¬ t x0 0 = nI 0)))) := by
  obtain ⟨j0, hj0, rfl⟩ := h_a2
  refine Ok.loop (fun k c s => t = s ∧ (∃ j, c.2.2 = nI j ∧ j ≤ 5000 ∧ 0 ≤ j ∧ k = 5000 - j) ∧ (c.1 = -1 ∨ (IsR 9 c.1 ∧ ¬ t x0 0 = nI 0))) ?_ (5000 - j0) _ _ ⟨rfl, ⟨j0, rfl, by omega, by omega, rfl⟩, (by assumption)⟩
  clear hj0
  intro k c s hI
  obtain ⟨rfl, ⟨j, ej, hj, hlo, rfl⟩, hiv⟩ := hI
  obtain ⟨c0, c1, c2⟩ := c
  dsimp only at ej hiv
  subst ej
  unfold SX10_fewestLines_9
  dsimp only
  refine Ok.rdT hT (ty_n0 g_x0) (by omega) (fun k_1 hk_1 ek_1 => ?_)
  have hz_ : ¬ k_1 ≤ j → ¬ t x0 0 = nI 0 := fun q e => by rw [ek_1, nI_eqP (by omega) (by omega)] at e; omega
  refine Ok.ite (fun c_2 => ?_) (fun c_2 => ?_)
  · try simp (disch := omega) only [li_0, li_1, li_2, li_3, li_4, li_5, li_6, li_7, li_8, li_9, li_10, li_20, li_30, li_82, li_91, li_273, li_380, li_400, li_512, li_1000, li_2457, li_4000, nI_add, nI_1, nI_mul, nI_sub, shl_1, shl_1b, nI_leP, nI_ltP, nI_eqP, Nat.not_le, Nat.not_lt] at c_2
    exact Ok.ret ⟨rfl, (by assumption)⟩
  · try simp (disch := omega) only [li_0, li_1, li_2, li_3, li_4, li_5, li_6, li_7, li_8, li_9, li_10, li_20, li_30, li_82, li_91, li_273, li_380, li_400, li_512, li_1000, li_2457, li_4000, nI_add, nI_1, nI_mul, nI_sub, shl_1, shl_1b, nI_leP, nI_ltP, nI_eqP, Nat.not_le, Nat.not_lt] at c_2
    have hz2_ := hz_ (by omega)
    refine Ok.ck (by first | (simp (disch := omega) only [li_0, li_1, li_2, li_3, li_4, li_5, li_6, li_7, li_8, li_9, li_10, li_20, li_30, li_82, li_91, li_273, li_380, li_400, li_512, li_1000, li_2457, li_4000, nI_add, nI_1, nI_mul, nI_sub, shl_1, shl_1b, nI_or, nI_xor, nI_and]; with_reducible exact inb_n (by first | omega | exact or9 (by omega) (by omega) | exact xor9 (by omega) (by omega)) (by omega)) | with_reducible exact inb_n (by omega) (by omega) | exact IsR.ib (by with_reducible assumption) (by decide) | decide) (fun g_3 => ?_)
    refine Ok.rd (fun v5 hv5 => ?_)
    refine Ok.bd _ (rJ6_bitCount_0f7a4 hT) ?_
    rintro v7 _ ⟨rfl, hxv7⟩
    refine Ok.bd (fun (v11 : Int32 × Int32) t12 => t = t12 ∧ ((v11.1 = -1 ∨ (IsR 9 v11.1 ∧ ¬ t x0 0 = nI 0)))) ?_ ?_
    · refine Ok.ite (fun c_5 => ?_) (fun c_5 => ?_)
      · try simp (disch := omega) only [li_0, li_1, li_2, li_3, li_4, li_5, li_6, li_7, li_8, li_9, li_10, li_20, li_30, li_82, li_91, li_273, li_380, li_400, li_512, li_1000, li_2457, li_4000, nI_add, nI_1, nI_mul, nI_sub, shl_1, shl_1b, nI_leP, nI_ltP, nI_eqP, Nat.not_le, Nat.not_lt] at c_5
        exact Ok.ret ⟨rfl, (by first | assumption | exact Or.inr ⟨⟨_, by omega, rfl⟩, by assumption⟩)⟩
      · try simp (disch := omega) only [li_0, li_1, li_2, li_3, li_4, li_5, li_6, li_7, li_8, li_9, li_10, li_20, li_30, li_82, li_91, li_273, li_380, li_400, li_512, li_1000, li_2457, li_4000, nI_add, nI_1, nI_mul, nI_sub, shl_1, shl_1b, nI_leP, nI_ltP, nI_eqP, Nat.not_le, Nat.not_lt] at c_5
        refine Ok.ite (fun c_6 => ?_) (fun c_6 => ?_)
        · try simp (disch := omega) only [li_0, li_1, li_2, li_3, li_4, li_5, li_6, li_7, li_8, li_9, li_10, li_20, li_30, li_82, li_91, li_273, li_380, li_400, li_512, li_1000, li_2457, li_4000, nI_add, nI_1, nI_mul, nI_sub, shl_1, shl_1b, nI_leP, nI_ltP, nI_eqP, Nat.not_le, Nat.not_lt] at c_6
          exact Ok.ret ⟨rfl, (by first | assumption | exact Or.inr ⟨⟨_, by omega, rfl⟩, by assumption⟩)⟩
        · try simp (disch := omega) only [li_0, li_1, li_2, li_3, li_4, li_5, li_6, li_7, li_8, li_9, li_10, li_20, li_30, li_82, li_91, li_273, li_380, li_400, li_512, li_1000, li_2457, li_4000, nI_add, nI_1, nI_mul, nI_sub, shl_1, shl_1b, nI_leP, nI_ltP, nI_eqP, Nat.not_le, Nat.not_lt] at c_6
          exact Ok.ret ⟨rfl, (by first | assumption | exact Or.inr ⟨⟨_, by omega, rfl⟩, by assumption⟩)⟩
    · intro v11 t12 hx
      obtain ⟨rfl, hxv11⟩ := hx
      exact Ok.ret ⟨5000 - (j + 1), by omega, rfl, ⟨j + 1, nI_1 j, by omega, by omega, rfl⟩, (by first | assumption)⟩
set_option maxHeartbeats 4000000 in
set_option maxRecDepth 100000 in
theorem rX10_fewestLines {t : St} (hT : TY t) {x : Nat} (g_x : netAt x = true) {a : Int32} {b : Int32} : Ok (FX10_fewestLines x a b t) (fun r u => t = u ∧ ((r = -1 ∨ (IsR 9 r ∧ ¬ t x 0 = nI 0)))) := by
  unfold FX10_fewestLines
  refine Ok.ck (by first | assumption | decide +kernel) (fun g_1 => ?_)
  refine Ok.bd _ (rSX10_fewestLines_9 hT (by first | assumption | decide +kernel) (by show IsR 5001 _; first | with_reducible assumption | (simp (disch := omega) only [li_0, li_1, li_2, li_3, li_4, li_5, li_6, li_7, li_8, li_9, li_10, li_20, li_30, li_82, li_91, li_273, li_380, li_400, li_512, li_1000, li_2457, li_4000, nI_add, nI_1, nI_mul, nI_sub, shl_1, shl_1b, nI_or, nI_xor, nI_and]; with_reducible exact ⟨_, (by first | omega | exact or9 (by omega) (by omega) | exact xor9 (by omega) (by omega)), rfl⟩) | with_reducible exact ⟨_, (by first | omega | exact or9 (by omega) (by omega) | exact xor9 (by omega) (by omega)), rfl⟩ | exact IsR.mn (by first | with_reducible assumption | exact ⟨_, by omega, rfl⟩) (by first | with_reducible assumption | exact ⟨_, by omega, rfl⟩) | exact IsR.mx (by first | with_reducible assumption | exact ⟨_, by omega, rfl⟩) (by first | with_reducible assumption | exact ⟨_, by omega, rfl⟩) | with_reducible exact mn9 (by omega) | (simp (disch := omega) only [li_0, li_1, li_2, li_3, li_4, li_5, li_6, li_7, li_8, li_9, li_10, li_20, li_30, li_82, li_91, li_273, li_380, li_400, li_512, li_1000, li_2457, li_4000, nI_add, nI_1, nI_mul, nI_sub, shl_1, shl_1b]; with_reducible exact mn9b (by omega))) (by first | exact Or.inl rfl | assumption)) ?_
  rintro e16 _ ⟨rfl, hxe16⟩
  exact Ok.ret ⟨rfl, (by assumption)⟩
set_option maxHeartbeats 4000000 in
set_option maxRecDepth 100000 in
theorem rSX10_core_9 {t : St} (hT : TY t) {x0 : Nat} (g_x0 : netAt x0 = true) {a0 : Int32} {a1 : Int32} {a2 : Int32} (h_a2 : IsR 5001 a2) : Ok (wh (SX10_core_9 x0) (a0, a1, a2) t) (fun r u => t = u ∧ (Sum.elim (fun v => True) (fun e => True) r)) := by
  obtain ⟨j0, hj0, rfl⟩ := h_a2
  refine Ok.loop (fun k c s => t = s ∧ (∃ j, c.2.2 = nI j ∧ j ≤ 5000 ∧ 0 ≤ j ∧ k = 5000 - j)) ?_ (5000 - j0) _ _ ⟨rfl, ⟨j0, rfl, by omega, by omega, rfl⟩⟩
  clear hj0
  intro k c s hI
  obtain ⟨rfl, ⟨j, ej, hj, hlo, rfl⟩⟩ := hI
  obtain ⟨c0, c1, c2⟩ := c
  dsimp only at ej
  subst ej
  unfold SX10_core_9
  dsimp only
  refine Ok.rdT hT (ty_n0 g_x0) (by omega) (fun k_1 hk_1 ek_1 => ?_)
  refine Ok.ite (fun c_2 => ?_) (fun c_2 => ?_)
  · try simp (disch := omega) only [li_0, li_1, li_2, li_3, li_4, li_5, li_6, li_7, li_8, li_9, li_10, li_20, li_30, li_82, li_91, li_273, li_380, li_400, li_512, li_1000, li_2457, li_4000, nI_add, nI_1, nI_mul, nI_sub, shl_1, shl_1b, nI_leP, nI_ltP, nI_eqP, Nat.not_le, Nat.not_lt] at c_2
    exact Ok.ret ⟨rfl, True.intro⟩
  · try simp (disch := omega) only [li_0, li_1, li_2, li_3, li_4, li_5, li_6, li_7, li_8, li_9, li_10, li_20, li_30, li_82, li_91, li_273, li_380, li_400, li_512, li_1000, li_2457, li_4000, nI_add, nI_1, nI_mul, nI_sub, shl_1, shl_1b, nI_leP, nI_ltP, nI_eqP, Nat.not_le, Nat.not_lt] at c_2
    refine Ok.bd _ (rX10_fewestLines hT (by first | assumption | decide +kernel)) ?_
    rintro v7 _ ⟨rfl, hxv7⟩
    refine Ok.ite (fun c_4 => ?_) (fun c_4 => ?_)
    · skip
      exact Ok.ret ⟨rfl, True.intro⟩
    · obtain ⟨⟨kfv7, hkfv7, rfl⟩, hnev7⟩ := hxv7.resolve_left c_4
      refine Ok.ck (by first | (simp (disch := omega) only [li_0, li_1, li_2, li_3, li_4, li_5, li_6, li_7, li_8, li_9, li_10, li_20, li_30, li_82, li_91, li_273, li_380, li_400, li_512, li_1000, li_2457, li_4000, nI_add, nI_1, nI_mul, nI_sub, shl_1, shl_1b, nI_or, nI_xor, nI_and]; with_reducible exact inb_n (by first | omega | exact or9 (by omega) (by omega) | exact xor9 (by omega) (by omega)) (by omega)) | with_reducible exact inb_n (by omega) (by omega) | exact IsR.ib (by with_reducible assumption) (by decide) | decide) (fun g_5 => ?_)
      refine Ok.rd (fun v12 hv12 => ?_)
      refine Ok.bd _ (rJ6_bitCount_0f7a4 hT) ?_
      rintro v14 _ ⟨rfl, hxv14⟩
      exact Ok.ret ⟨5000 - (j + 1), by omega, rfl, ⟨j + 1, nI_1 j, by omega, by omega, rfl⟩⟩
set_option maxHeartbeats 4000000 in
set_option maxRecDepth 100000 in
theorem rX10_core {t : St} (hT : TY t) {x : Nat} (g_x : netAt x = true) : Ok (FX10_core x t) (fun r u => t = u ∧ (True)) := by
  unfold FX10_core
  refine Ok.ck (by first | assumption | decide +kernel) (fun g_1 => ?_)
  refine Ok.bd _ (rX5_allBits hT (by first | assumption | decide +kernel)) ?_
  rintro _ _ ⟨rfl, kv1, hv1, rfl⟩
  refine Ok.bd _ (rSX10_core_9 hT (by first | assumption | decide +kernel) (by show IsR 5001 _; first | with_reducible assumption | (simp (disch := omega) only [li_0, li_1, li_2, li_3, li_4, li_5, li_6, li_7, li_8, li_9, li_10, li_20, li_30, li_82, li_91, li_273, li_380, li_400, li_512, li_1000, li_2457, li_4000, nI_add, nI_1, nI_mul, nI_sub, shl_1, shl_1b, nI_or, nI_xor, nI_and]; with_reducible exact ⟨_, (by first | omega | exact or9 (by omega) (by omega) | exact xor9 (by omega) (by omega)), rfl⟩) | with_reducible exact ⟨_, (by first | omega | exact or9 (by omega) (by omega) | exact xor9 (by omega) (by omega)), rfl⟩ | exact IsR.mn (by first | with_reducible assumption | exact ⟨_, by omega, rfl⟩) (by first | with_reducible assumption | exact ⟨_, by omega, rfl⟩) | exact IsR.mx (by first | with_reducible assumption | exact ⟨_, by omega, rfl⟩) (by first | with_reducible assumption | exact ⟨_, by omega, rfl⟩) | with_reducible exact mn9 (by omega) | (simp (disch := omega) only [li_0, li_1, li_2, li_3, li_4, li_5, li_6, li_7, li_8, li_9, li_10, li_20, li_30, li_82, li_91, li_273, li_380, li_400, li_512, li_1000, li_2457, li_4000, nI_add, nI_1, nI_mul, nI_sub, shl_1, shl_1b]; with_reducible exact mn9b (by omega)))) ?_
  rintro (e18 | e18) _ ⟨rfl, hxe18⟩
  · refine Ok.el ?_
    exact Ok.ret ⟨rfl, True.intro⟩
  · refine Ok.er ?_
    exact Ok.ret ⟨rfl, True.intro⟩
set_option maxHeartbeats 4000000 in
set_option maxRecDepth 100000 in
theorem rX10_lineBound {t : St} (hT : TY t) {x : Nat} (g_x : netAt x = true) {a : Int32} : Ok (FX10_lineBound x a t) (fun r u => t = u ∧ (True)) := by
  unfold FX10_lineBound
  refine Ok.ck (by first | assumption | decide +kernel) (fun g_1 => ?_)
  refine Ok.ite (fun c_2 => ?_) (fun c_2 => ?_)
  · try simp (disch := omega) only [li_0, li_1, li_2, li_3, li_4, li_5, li_6, li_7, li_8, li_9, li_10, li_20, li_30, li_82, li_91, li_273, li_380, li_400, li_512, li_1000, li_2457, li_4000, nI_add, nI_1, nI_mul, nI_sub, shl_1, shl_1b, nI_leP, nI_ltP, nI_eqP, Nat.not_le, Nat.not_lt] at c_2
    refine Ok.bd _ (rX10_mostWeightAtPoint hT (by first | assumption | decide +kernel)) ?_
    rintro v11 _ ⟨rfl, hxv11⟩
    exact Ok.ret ⟨rfl, True.intro⟩
  · try simp (disch := omega) only [li_0, li_1, li_2, li_3, li_4, li_5, li_6, li_7, li_8, li_9, li_10, li_20, li_30, li_82, li_91, li_273, li_380, li_400, li_512, li_1000, li_2457, li_4000, nI_add, nI_1, nI_mul, nI_sub, shl_1, shl_1b, nI_leP, nI_ltP, nI_eqP, Nat.not_le, Nat.not_lt] at c_2
    refine Ok.ite (fun c_4 => ?_) (fun c_4 => ?_)
    · try simp (disch := omega) only [li_0, li_1, li_2, li_3, li_4, li_5, li_6, li_7, li_8, li_9, li_10, li_20, li_30, li_82, li_91, li_273, li_380, li_400, li_512, li_1000, li_2457, li_4000, nI_add, nI_1, nI_mul, nI_sub, shl_1, shl_1b, nI_leP, nI_ltP, nI_eqP, Nat.not_le, Nat.not_lt] at c_4
      refine Ok.bd _ (rX10_mostLinesAtPoint hT (by first | assumption | decide +kernel)) ?_
      rintro v7 _ ⟨rfl, hxv7⟩
      exact Ok.ret ⟨rfl, True.intro⟩
    · try simp (disch := omega) only [li_0, li_1, li_2, li_3, li_4, li_5, li_6, li_7, li_8, li_9, li_10, li_20, li_30, li_82, li_91, li_273, li_380, li_400, li_512, li_1000, li_2457, li_4000, nI_add, nI_1, nI_mul, nI_sub, shl_1, shl_1b, nI_leP, nI_ltP, nI_eqP, Nat.not_le, Nat.not_lt] at c_4
      refine Ok.bd _ (rX10_core hT (by first | assumption | decide +kernel)) ?_
      rintro v3 _ ⟨rfl, hxv3⟩
      exact Ok.ret ⟨rfl, True.intro⟩
theorem nz_2 {j : Nat} (h : 1 ≤ j) (h2 : j < 1000) : nz (2 * nI j) = true := by
  apply nz_of
  rw [li_2, nI_mul, li_0, nI_eqP (by omega) (by omega)]
  omega
set_option maxHeartbeats 4000000 in
set_option maxRecDepth 100000 in
theorem rSX10_ballBound_19 {t : St} (hT : TY t) {x0 : Nat} (g_x0 : netAt x0 = true) {w2 : Int32} (h_w2 : IsR 9 w2) {a0 : Int32} {a1 : Int32} {a2 : Int32} (h_a2 : ∃ k, k < 5001 ∧ 1 ≤ k ∧ a2 = nI k) : Ok (wh (SX10_ballBound_19 x0 w2) (a0, a1, a2) t) (fun r u => t = u ∧ (True)) := by
  obtain ⟨j0, hj0, hl0, rfl⟩ := h_a2
  refine Ok.loop (fun k c s => t = s ∧ (∃ j, c.2.2 = nI j ∧ j ≤ 5000 ∧ 1 ≤ j ∧ k = 5000 - j)) ?_ (5000 - j0) _ _ ⟨rfl, ⟨j0, rfl, by omega, by omega, rfl⟩⟩
  obtain ⟨k_w2, h_w2, rfl⟩ := h_w2
  clear hj0
  intro k c s hI
  obtain ⟨rfl, ⟨j, ej, hj, hlo, rfl⟩⟩ := hI
  obtain ⟨c0, c1, c2⟩ := c
  dsimp only at ej
  subst ej
  unfold SX10_ballBound_19
  dsimp only
  refine Ok.rdT hT (ty_n0 g_x0) (by omega) (fun k_1 hk_1 ek_1 => ?_)
  refine Ok.ite (fun c_2 => ?_) (fun c_2 => ?_)
  · try simp (disch := omega) only [li_0, li_1, li_2, li_3, li_4, li_5, li_6, li_7, li_8, li_9, li_10, li_20, li_30, li_82, li_91, li_273, li_380, li_400, li_512, li_1000, li_2457, li_4000, nI_add, nI_1, nI_mul, nI_sub, shl_1, shl_1b, nI_leP, nI_ltP, nI_eqP, Nat.not_le, Nat.not_lt] at c_2
    exact Ok.ret ⟨rfl, True.intro⟩
  · try simp (disch := omega) only [li_0, li_1, li_2, li_3, li_4, li_5, li_6, li_7, li_8, li_9, li_10, li_20, li_30, li_82, li_91, li_273, li_380, li_400, li_512, li_1000, li_2457, li_4000, nI_add, nI_1, nI_mul, nI_sub, shl_1, shl_1b, nI_leP, nI_ltP, nI_eqP, Nat.not_le, Nat.not_lt] at c_2
    refine Ok.bd _ (rX10_grown hT (by first | assumption | decide +kernel)) ?_
    rintro v7 _ ⟨rfl, hxv7⟩
    refine Ok.bd _ (rJ6_bitCount_0f7a4 hT) ?_
    rintro v10 _ ⟨rfl, hxv10⟩
    refine Ok.ck (by exact nz_2 (by omega) (by omega)) (fun g_5 => ?_)
    exact Ok.ret ⟨5000 - (j + 1), by omega, rfl, ⟨j + 1, nI_1 j, by omega, by omega, rfl⟩⟩
set_option maxHeartbeats 4000000 in
set_option maxRecDepth 100000 in
theorem rSX10_ballBound_4 {t : St} (hT : TY t) {x0 : Nat} (g_x0 : netAt x0 = true) {a0 : Int32} {a1 : Int32} (h_a1 : IsR 5001 a1) : Ok (wh (SX10_ballBound_4 x0) (a0, a1) t) (fun r u => t = u ∧ (True)) := by
  obtain ⟨j0, hj0, rfl⟩ := h_a1
  refine Ok.loop (fun k c s => t = s ∧ (∃ j, c.2 = nI j ∧ j ≤ 5000 ∧ 0 ≤ j ∧ k = 5000 - j)) ?_ (5000 - j0) _ _ ⟨rfl, ⟨j0, rfl, by omega, by omega, rfl⟩⟩
  clear hj0
  intro k c s hI
  obtain ⟨rfl, ⟨j, ej, hj, hlo, rfl⟩⟩ := hI
  obtain ⟨c0, c1⟩ := c
  dsimp only at ej
  subst ej
  unfold SX10_ballBound_4
  dsimp only
  refine Ok.rdT hT (ty_n0 g_x0) (by omega) (fun k_1 hk_1 ek_1 => ?_)
  refine Ok.ite (fun c_2 => ?_) (fun c_2 => ?_)
  · try simp (disch := omega) only [li_0, li_1, li_2, li_3, li_4, li_5, li_6, li_7, li_8, li_9, li_10, li_20, li_30, li_82, li_91, li_273, li_380, li_400, li_512, li_1000, li_2457, li_4000, nI_add, nI_1, nI_mul, nI_sub, shl_1, shl_1b, nI_leP, nI_ltP, nI_eqP, Nat.not_le, Nat.not_lt] at c_2
    exact Ok.ret ⟨rfl, True.intro⟩
  · try simp (disch := omega) only [li_0, li_1, li_2, li_3, li_4, li_5, li_6, li_7, li_8, li_9, li_10, li_20, li_30, li_82, li_91, li_273, li_380, li_400, li_512, li_1000, li_2457, li_4000, nI_add, nI_1, nI_mul, nI_sub, shl_1, shl_1b, nI_leP, nI_ltP, nI_eqP, Nat.not_le, Nat.not_lt] at c_2
    refine Ok.bd _ (rSX10_ballBound_19 hT (by first | assumption | decide +kernel) (by first | with_reducible assumption | (simp (disch := omega) only [li_0, li_1, li_2, li_3, li_4, li_5, li_6, li_7, li_8, li_9, li_10, li_20, li_30, li_82, li_91, li_273, li_380, li_400, li_512, li_1000, li_2457, li_4000, nI_add, nI_1, nI_mul, nI_sub, shl_1, shl_1b, nI_or, nI_xor, nI_and]; with_reducible exact ⟨_, (by first | omega | exact or9 (by omega) (by omega) | exact xor9 (by omega) (by omega)), rfl⟩) | with_reducible exact ⟨_, (by first | omega | exact or9 (by omega) (by omega) | exact xor9 (by omega) (by omega)), rfl⟩ | exact IsR.mn (by first | with_reducible assumption | exact ⟨_, by omega, rfl⟩) (by first | with_reducible assumption | exact ⟨_, by omega, rfl⟩) | exact IsR.mx (by first | with_reducible assumption | exact ⟨_, by omega, rfl⟩) (by first | with_reducible assumption | exact ⟨_, by omega, rfl⟩) | with_reducible exact mn9 (by omega) | (simp (disch := omega) only [li_0, li_1, li_2, li_3, li_4, li_5, li_6, li_7, li_8, li_9, li_10, li_20, li_30, li_82, li_91, li_273, li_380, li_400, li_512, li_1000, li_2457, li_4000, nI_add, nI_1, nI_mul, nI_sub, shl_1, shl_1b]; with_reducible exact mn9b (by omega))) (by first | exact ⟨_, by omega, by omega, rfl⟩ | (simp (disch := omega) only [li_0, li_1, li_2, li_3, li_4, li_5, li_6, li_7, li_8, li_9, li_10, li_20, li_30, li_82, li_91, li_273, li_380, li_400, li_512, li_1000, li_2457, li_4000, nI_add, nI_1, nI_mul, nI_sub, shl_1, shl_1b]; exact ⟨_, by omega, by omega, rfl⟩))) ?_
    rintro e14 _ ⟨rfl, hxe14⟩
    exact Ok.ret ⟨5000 - (j + 1), by omega, rfl, ⟨j + 1, nI_1 j, by omega, by omega, rfl⟩⟩
set_option maxHeartbeats 4000000 in
set_option maxRecDepth 100000 in
theorem rX10_ballBound {t : St} (hT : TY t) {x : Nat} (g_x : netAt x = true) : Ok (FX10_ballBound x t) (fun r u => t = u ∧ (True)) := by
  unfold FX10_ballBound
  refine Ok.ck (by first | assumption | decide +kernel) (fun g_1 => ?_)
  refine Ok.bd _ (rSX10_ballBound_4 hT (by first | assumption | decide +kernel) (by show IsR 5001 _; first | with_reducible assumption | (simp (disch := omega) only [li_0, li_1, li_2, li_3, li_4, li_5, li_6, li_7, li_8, li_9, li_10, li_20, li_30, li_82, li_91, li_273, li_380, li_400, li_512, li_1000, li_2457, li_4000, nI_add, nI_1, nI_mul, nI_sub, shl_1, shl_1b, nI_or, nI_xor, nI_and]; with_reducible exact ⟨_, (by first | omega | exact or9 (by omega) (by omega) | exact xor9 (by omega) (by omega)), rfl⟩) | with_reducible exact ⟨_, (by first | omega | exact or9 (by omega) (by omega) | exact xor9 (by omega) (by omega)), rfl⟩ | exact IsR.mn (by first | with_reducible assumption | exact ⟨_, by omega, rfl⟩) (by first | with_reducible assumption | exact ⟨_, by omega, rfl⟩) | exact IsR.mx (by first | with_reducible assumption | exact ⟨_, by omega, rfl⟩) (by first | with_reducible assumption | exact ⟨_, by omega, rfl⟩) | with_reducible exact mn9 (by omega) | (simp (disch := omega) only [li_0, li_1, li_2, li_3, li_4, li_5, li_6, li_7, li_8, li_9, li_10, li_20, li_30, li_82, li_91, li_273, li_380, li_400, li_512, li_1000, li_2457, li_4000, nI_add, nI_1, nI_mul, nI_sub, shl_1, shl_1b]; with_reducible exact mn9b (by omega)))) ?_
  rintro e18 _ ⟨rfl, hxe18⟩
  exact Ok.ret ⟨rfl, True.intro⟩
set_option maxHeartbeats 4000000 in
set_option maxRecDepth 100000 in
theorem rSX10_thinnestHalf_7 {t : St} (hT : TY t) {x0 : Nat} (g_x0 : netAt x0 = true) {a0 : Int32} {a1 : Int32} {a2 : Int32} (h_a2 : IsR 5001 a2) : Ok (wh (SX10_thinnestHalf_7 x0) (a0, a1, a2) t) (fun r u => t = u ∧ (True)) := by
  obtain ⟨j0, hj0, rfl⟩ := h_a2
  refine Ok.loop (fun k c s => t = s ∧ (∃ j, c.2.2 = nI j ∧ j ≤ 5000 ∧ 0 ≤ j ∧ k = 5000 - j)) ?_ (5000 - j0) _ _ ⟨rfl, ⟨j0, rfl, by omega, by omega, rfl⟩⟩
  clear hj0
  intro k c s hI
  obtain ⟨rfl, ⟨j, ej, hj, hlo, rfl⟩⟩ := hI
  obtain ⟨c0, c1, c2⟩ := c
  dsimp only at ej
  subst ej
  unfold SX10_thinnestHalf_7
  dsimp only
  refine Ok.bd _ (rX5_allBits hT (by first | assumption | decide +kernel)) ?_
  rintro _ _ ⟨rfl, kv1, hv1, rfl⟩
  refine Ok.ite (fun c_2 => ?_) (fun c_2 => ?_)
  · try simp (disch := omega) only [li_0, li_1, li_2, li_3, li_4, li_5, li_6, li_7, li_8, li_9, li_10, li_20, li_30, li_82, li_91, li_273, li_380, li_400, li_512, li_1000, li_2457, li_4000, nI_add, nI_1, nI_mul, nI_sub, shl_1, shl_1b, nI_leP, nI_ltP, nI_eqP, Nat.not_le, Nat.not_lt] at c_2
    exact Ok.ret ⟨rfl, True.intro⟩
  · try simp (disch := omega) only [li_0, li_1, li_2, li_3, li_4, li_5, li_6, li_7, li_8, li_9, li_10, li_20, li_30, li_82, li_91, li_273, li_380, li_400, li_512, li_1000, li_2457, li_4000, nI_add, nI_1, nI_mul, nI_sub, shl_1, shl_1b, nI_leP, nI_ltP, nI_eqP, Nat.not_le, Nat.not_lt] at c_2
    refine Ok.bd _ (rJ6_bitCount_0f7a4 hT) ?_
    rintro v5 _ ⟨rfl, hxv5⟩
    refine Ok.rdT hT (ty_n0 g_x0) (by omega) (fun k_4 hk_4 ek_4 => ?_)
    refine Ok.bd (fun (v11 : Int32 × Int32) t12 => t = t12 ∧ (True)) ?_ ?_
    · refine Ok.ite (fun c_5 => ?_) (fun c_5 => ?_)
      · try simp (disch := omega) only [li_0, li_1, li_2, li_3, li_4, li_5, li_6, li_7, li_8, li_9, li_10, li_20, li_30, li_82, li_91, li_273, li_380, li_400, li_512, li_1000, li_2457, li_4000, nI_add, nI_1, nI_mul, nI_sub, shl_1, shl_1b, nI_leP, nI_ltP, nI_eqP, Nat.not_le, Nat.not_lt] at c_5
        refine Ok.bd _ (rX6_cutWeight hT (by first | assumption | decide +kernel)) ?_
        rintro v15 _ ⟨rfl, hxv15⟩
        refine Ok.ite (fun c_7 => ?_) (fun c_7 => ?_)
        · try simp (disch := omega) only [li_0, li_1, li_2, li_3, li_4, li_5, li_6, li_7, li_8, li_9, li_10, li_20, li_30, li_82, li_91, li_273, li_380, li_400, li_512, li_1000, li_2457, li_4000, nI_add, nI_1, nI_mul, nI_sub, shl_1, shl_1b, nI_leP, nI_ltP, nI_eqP, Nat.not_le, Nat.not_lt] at c_7
          exact Ok.ret ⟨rfl, True.intro⟩
        · try simp (disch := omega) only [li_0, li_1, li_2, li_3, li_4, li_5, li_6, li_7, li_8, li_9, li_10, li_20, li_30, li_82, li_91, li_273, li_380, li_400, li_512, li_1000, li_2457, li_4000, nI_add, nI_1, nI_mul, nI_sub, shl_1, shl_1b, nI_leP, nI_ltP, nI_eqP, Nat.not_le, Nat.not_lt] at c_7
          exact Ok.ret ⟨rfl, True.intro⟩
      · try simp (disch := omega) only [li_0, li_1, li_2, li_3, li_4, li_5, li_6, li_7, li_8, li_9, li_10, li_20, li_30, li_82, li_91, li_273, li_380, li_400, li_512, li_1000, li_2457, li_4000, nI_add, nI_1, nI_mul, nI_sub, shl_1, shl_1b, nI_leP, nI_ltP, nI_eqP, Nat.not_le, Nat.not_lt] at c_5
        exact Ok.ret ⟨rfl, True.intro⟩
    · intro v11 t12 hx
      obtain ⟨rfl, hxv11⟩ := hx
      exact Ok.ret ⟨5000 - (j + 1), by omega, rfl, ⟨j + 1, nI_1 j, by omega, by omega, rfl⟩⟩
set_option maxHeartbeats 4000000 in
set_option maxRecDepth 100000 in
theorem rX10_thinnestHalf {t : St} (hT : TY t) {x : Nat} (g_x : netAt x = true) : Ok (FX10_thinnestHalf x t) (fun r u => t = u ∧ (True)) := by
  unfold FX10_thinnestHalf
  refine Ok.ck (by first | assumption | decide +kernel) (fun g_1 => ?_)
  refine Ok.bd _ (rSX10_thinnestHalf_7 hT (by first | assumption | decide +kernel) (by show IsR 5001 _; first | with_reducible assumption | (simp (disch := omega) only [li_0, li_1, li_2, li_3, li_4, li_5, li_6, li_7, li_8, li_9, li_10, li_20, li_30, li_82, li_91, li_273, li_380, li_400, li_512, li_1000, li_2457, li_4000, nI_add, nI_1, nI_mul, nI_sub, shl_1, shl_1b, nI_or, nI_xor, nI_and]; with_reducible exact ⟨_, (by first | omega | exact or9 (by omega) (by omega) | exact xor9 (by omega) (by omega)), rfl⟩) | with_reducible exact ⟨_, (by first | omega | exact or9 (by omega) (by omega) | exact xor9 (by omega) (by omega)), rfl⟩ | exact IsR.mn (by first | with_reducible assumption | exact ⟨_, by omega, rfl⟩) (by first | with_reducible assumption | exact ⟨_, by omega, rfl⟩) | exact IsR.mx (by first | with_reducible assumption | exact ⟨_, by omega, rfl⟩) (by first | with_reducible assumption | exact ⟨_, by omega, rfl⟩) | with_reducible exact mn9 (by omega) | (simp (disch := omega) only [li_0, li_1, li_2, li_3, li_4, li_5, li_6, li_7, li_8, li_9, li_10, li_20, li_30, li_82, li_91, li_273, li_380, li_400, li_512, li_1000, li_2457, li_4000, nI_add, nI_1, nI_mul, nI_sub, shl_1, shl_1b]; with_reducible exact mn9b (by omega)))) ?_
  rintro e19 _ ⟨rfl, hxe19⟩
  exact Ok.ret ⟨rfl, True.intro⟩
set_option maxHeartbeats 4000000 in
set_option maxRecDepth 100000 in
theorem rSX8_worstStep_10 {t : St} (hT : TY t) {x0 : Nat} (g_x0 : netAt x0 = true) {w1 : Int32} {a0 : Int32} {a1 : Int32} {a2 : Int32} (h_a2 : IsR 5001 a2) : Ok (wh (SX8_worstStep_10 x0 w1) (a0, a1, a2) t) (fun r u => t = u ∧ (True)) := by
  obtain ⟨j0, hj0, rfl⟩ := h_a2
  refine Ok.loop (fun k c s => t = s ∧ (∃ j, c.2.2 = nI j ∧ j ≤ 5000 ∧ 0 ≤ j ∧ k = 5000 - j)) ?_ (5000 - j0) _ _ ⟨rfl, ⟨j0, rfl, by omega, by omega, rfl⟩⟩
  clear hj0
  intro k c s hI
  obtain ⟨rfl, ⟨j, ej, hj, hlo, rfl⟩⟩ := hI
  obtain ⟨c0, c1, c2⟩ := c
  dsimp only at ej
  subst ej
  unfold SX8_worstStep_10
  dsimp only
  refine Ok.rdT hT (ty_n0 g_x0) (by omega) (fun k_1 hk_1 ek_1 => ?_)
  refine Ok.ite (fun c_2 => ?_) (fun c_2 => ?_)
  · try simp (disch := omega) only [li_0, li_1, li_2, li_3, li_4, li_5, li_6, li_7, li_8, li_9, li_10, li_20, li_30, li_82, li_91, li_273, li_380, li_400, li_512, li_1000, li_2457, li_4000, nI_add, nI_1, nI_mul, nI_sub, shl_1, shl_1b, nI_leP, nI_ltP, nI_eqP, Nat.not_le, Nat.not_lt] at c_2
    exact Ok.ret ⟨rfl, True.intro⟩
  · try simp (disch := omega) only [li_0, li_1, li_2, li_3, li_4, li_5, li_6, li_7, li_8, li_9, li_10, li_20, li_30, li_82, li_91, li_273, li_380, li_400, li_512, li_1000, li_2457, li_4000, nI_add, nI_1, nI_mul, nI_sub, shl_1, shl_1b, nI_leP, nI_ltP, nI_eqP, Nat.not_le, Nat.not_lt] at c_2
    refine Ok.bd _ (rX6_atPlace hT (by first | assumption | decide +kernel) (by first | with_reducible assumption | (simp (disch := omega) only [li_0, li_1, li_2, li_3, li_4, li_5, li_6, li_7, li_8, li_9, li_10, li_20, li_30, li_82, li_91, li_273, li_380, li_400, li_512, li_1000, li_2457, li_4000, nI_add, nI_1, nI_mul, nI_sub, shl_1, shl_1b, nI_or, nI_xor, nI_and]; with_reducible exact ⟨_, (by first | omega | exact or9 (by omega) (by omega) | exact xor9 (by omega) (by omega)), rfl⟩) | with_reducible exact ⟨_, (by first | omega | exact or9 (by omega) (by omega) | exact xor9 (by omega) (by omega)), rfl⟩ | exact IsR.mn (by first | with_reducible assumption | exact ⟨_, by omega, rfl⟩) (by first | with_reducible assumption | exact ⟨_, by omega, rfl⟩) | exact IsR.mx (by first | with_reducible assumption | exact ⟨_, by omega, rfl⟩) (by first | with_reducible assumption | exact ⟨_, by omega, rfl⟩) | with_reducible exact mn9 (by omega) | (simp (disch := omega) only [li_0, li_1, li_2, li_3, li_4, li_5, li_6, li_7, li_8, li_9, li_10, li_20, li_30, li_82, li_91, li_273, li_380, li_400, li_512, li_1000, li_2457, li_4000, nI_add, nI_1, nI_mul, nI_sub, shl_1, shl_1b]; with_reducible exact mn9b (by omega)))) ?_
    rintro v7 _ ⟨rfl, hxv7⟩
    refine Ok.bd (fun (v11 : Int32 × Int32) t12 => t = t12 ∧ (True)) ?_ ?_
    · refine Ok.ite (fun c_4 => ?_) (fun c_4 => ?_)
      · try simp (disch := omega) only [li_0, li_1, li_2, li_3, li_4, li_5, li_6, li_7, li_8, li_9, li_10, li_20, li_30, li_82, li_91, li_273, li_380, li_400, li_512, li_1000, li_2457, li_4000, nI_add, nI_1, nI_mul, nI_sub, shl_1, shl_1b, nI_leP, nI_ltP, nI_eqP, Nat.not_le, Nat.not_lt] at c_4
        exact Ok.ret ⟨rfl, True.intro⟩
      · try simp (disch := omega) only [li_0, li_1, li_2, li_3, li_4, li_5, li_6, li_7, li_8, li_9, li_10, li_20, li_30, li_82, li_91, li_273, li_380, li_400, li_512, li_1000, li_2457, li_4000, nI_add, nI_1, nI_mul, nI_sub, shl_1, shl_1b, nI_leP, nI_ltP, nI_eqP, Nat.not_le, Nat.not_lt] at c_4
        exact Ok.ret ⟨rfl, True.intro⟩
    · intro v11 t12 hx
      obtain ⟨rfl, hxv11⟩ := hx
      exact Ok.ret ⟨5000 - (j + 1), by omega, rfl, ⟨j + 1, nI_1 j, by omega, by omega, rfl⟩⟩
set_option maxHeartbeats 4000000 in
set_option maxRecDepth 100000 in
theorem rX8_worstStep {t : St} (hT : TY t) {x : Nat} (g_x : netAt x = true) {a : Int32} : Ok (FX8_worstStep x a t) (fun r u => t = u ∧ (True)) := by
  unfold FX8_worstStep
  refine Ok.ck (by first | assumption | decide +kernel) (fun g_1 => ?_)
  refine Ok.bd _ (rX6_firstStep hT) ?_
  rintro _ _ ⟨rfl, kv1, hv1, rfl⟩
  refine Ok.bd _ (rSX8_worstStep_10 hT (by first | assumption | decide +kernel) (by show IsR 5001 _; first | with_reducible assumption | (simp (disch := omega) only [li_0, li_1, li_2, li_3, li_4, li_5, li_6, li_7, li_8, li_9, li_10, li_20, li_30, li_82, li_91, li_273, li_380, li_400, li_512, li_1000, li_2457, li_4000, nI_add, nI_1, nI_mul, nI_sub, shl_1, shl_1b, nI_or, nI_xor, nI_and]; with_reducible exact ⟨_, (by first | omega | exact or9 (by omega) (by omega) | exact xor9 (by omega) (by omega)), rfl⟩) | with_reducible exact ⟨_, (by first | omega | exact or9 (by omega) (by omega) | exact xor9 (by omega) (by omega)), rfl⟩ | exact IsR.mn (by first | with_reducible assumption | exact ⟨_, by omega, rfl⟩) (by first | with_reducible assumption | exact ⟨_, by omega, rfl⟩) | exact IsR.mx (by first | with_reducible assumption | exact ⟨_, by omega, rfl⟩) (by first | with_reducible assumption | exact ⟨_, by omega, rfl⟩) | with_reducible exact mn9 (by omega) | (simp (disch := omega) only [li_0, li_1, li_2, li_3, li_4, li_5, li_6, li_7, li_8, li_9, li_10, li_20, li_30, li_82, li_91, li_273, li_380, li_400, li_512, li_1000, li_2457, li_4000, nI_add, nI_1, nI_mul, nI_sub, shl_1, shl_1b]; with_reducible exact mn9b (by omega)))) ?_
  rintro e15 _ ⟨rfl, hxe15⟩
  exact Ok.ret ⟨rfl, True.intro⟩
set_option maxHeartbeats 4000000 in
set_option maxRecDepth 100000 in
theorem rSX8_longestLine_19 {t : St} (hT : TY t) {x0 : Nat} (g_x0 : netAt x0 = true) {w3 : Int32} (h_w3 : IsR 9 w3) {a0 : Int32} {a1 : Int32} {a2 : Int32} (h_a2 : IsR 5001 a2) : Ok (wh (SX8_longestLine_19 x0 w3) (a0, a1, a2) t) (fun r u => t = u ∧ (True)) := by
  obtain ⟨j0, hj0, rfl⟩ := h_a2
  refine Ok.loop (fun k c s => t = s ∧ (∃ j, c.2.2 = nI j ∧ j ≤ 5000 ∧ 0 ≤ j ∧ k = 5000 - j)) ?_ (5000 - j0) _ _ ⟨rfl, ⟨j0, rfl, by omega, by omega, rfl⟩⟩
  obtain ⟨k_w3, h_w3, rfl⟩ := h_w3
  clear hj0
  intro k c s hI
  obtain ⟨rfl, ⟨j, ej, hj, hlo, rfl⟩⟩ := hI
  obtain ⟨c0, c1, c2⟩ := c
  dsimp only at ej
  subst ej
  unfold SX8_longestLine_19
  dsimp only
  refine Ok.rdT hT (ty_n0 g_x0) (by omega) (fun k_1 hk_1 ek_1 => ?_)
  refine Ok.ite (fun c_2 => ?_) (fun c_2 => ?_)
  · try simp (disch := omega) only [li_0, li_1, li_2, li_3, li_4, li_5, li_6, li_7, li_8, li_9, li_10, li_20, li_30, li_82, li_91, li_273, li_380, li_400, li_512, li_1000, li_2457, li_4000, nI_add, nI_1, nI_mul, nI_sub, shl_1, shl_1b, nI_leP, nI_ltP, nI_eqP, Nat.not_le, Nat.not_lt] at c_2
    exact Ok.ret ⟨rfl, True.intro⟩
  · try simp (disch := omega) only [li_0, li_1, li_2, li_3, li_4, li_5, li_6, li_7, li_8, li_9, li_10, li_20, li_30, li_82, li_91, li_273, li_380, li_400, li_512, li_1000, li_2457, li_4000, nI_add, nI_1, nI_mul, nI_sub, shl_1, shl_1b, nI_leP, nI_ltP, nI_eqP, Nat.not_le, Nat.not_lt] at c_2
    refine Ok.bd _ (rX5_placeOf hT (by first | assumption | decide +kernel)) ?_
    rintro v7 _ ⟨rfl, hxv7⟩
    refine Ok.bd _ (rX5_placeOf hT (by first | assumption | decide +kernel)) ?_
    rintro v10 _ ⟨rfl, hxv10⟩
    refine Ok.bd _ (rX5_weightOf hT (by first | assumption | decide +kernel) (by first | with_reducible assumption | (simp (disch := omega) only [li_0, li_1, li_2, li_3, li_4, li_5, li_6, li_7, li_8, li_9, li_10, li_20, li_30, li_82, li_91, li_273, li_380, li_400, li_512, li_1000, li_2457, li_4000, nI_add, nI_1, nI_mul, nI_sub, shl_1, shl_1b, nI_or, nI_xor, nI_and]; with_reducible exact ⟨_, (by first | omega | exact or9 (by omega) (by omega) | exact xor9 (by omega) (by omega)), rfl⟩) | with_reducible exact ⟨_, (by first | omega | exact or9 (by omega) (by omega) | exact xor9 (by omega) (by omega)), rfl⟩ | exact IsR.mn (by first | with_reducible assumption | exact ⟨_, by omega, rfl⟩) (by first | with_reducible assumption | exact ⟨_, by omega, rfl⟩) | exact IsR.mx (by first | with_reducible assumption | exact ⟨_, by omega, rfl⟩) (by first | with_reducible assumption | exact ⟨_, by omega, rfl⟩) | with_reducible exact mn9 (by omega) | (simp (disch := omega) only [li_0, li_1, li_2, li_3, li_4, li_5, li_6, li_7, li_8, li_9, li_10, li_20, li_30, li_82, li_91, li_273, li_380, li_400, li_512, li_1000, li_2457, li_4000, nI_add, nI_1, nI_mul, nI_sub, shl_1, shl_1b]; with_reducible exact mn9b (by omega))) (by first | with_reducible assumption | (simp (disch := omega) only [li_0, li_1, li_2, li_3, li_4, li_5, li_6, li_7, li_8, li_9, li_10, li_20, li_30, li_82, li_91, li_273, li_380, li_400, li_512, li_1000, li_2457, li_4000, nI_add, nI_1, nI_mul, nI_sub, shl_1, shl_1b, nI_or, nI_xor, nI_and]; with_reducible exact ⟨_, (by first | omega | exact or9 (by omega) (by omega) | exact xor9 (by omega) (by omega)), rfl⟩) | with_reducible exact ⟨_, (by first | omega | exact or9 (by omega) (by omega) | exact xor9 (by omega) (by omega)), rfl⟩ | exact IsR.mn (by first | with_reducible assumption | exact ⟨_, by omega, rfl⟩) (by first | with_reducible assumption | exact ⟨_, by omega, rfl⟩) | exact IsR.mx (by first | with_reducible assumption | exact ⟨_, by omega, rfl⟩) (by first | with_reducible assumption | exact ⟨_, by omega, rfl⟩) | with_reducible exact mn9 (by omega) | (simp (disch := omega) only [li_0, li_1, li_2, li_3, li_4, li_5, li_6, li_7, li_8, li_9, li_10, li_20, li_30, li_82, li_91, li_273, li_380, li_400, li_512, li_1000, li_2457, li_4000, nI_add, nI_1, nI_mul, nI_sub, shl_1, shl_1b]; with_reducible exact mn9b (by omega)))) ?_
    rintro _ _ ⟨rfl, kv13, hv13, rfl⟩
    refine Ok.bd (fun (v17 : Int32 × Int32) t18 => t = t18 ∧ (True)) ?_ ?_
    · refine Ok.ite (fun c_6 => ?_) (fun c_6 => ?_)
      · try simp (disch := omega) only [li_0, li_1, li_2, li_3, li_4, li_5, li_6, li_7, li_8, li_9, li_10, li_20, li_30, li_82, li_91, li_273, li_380, li_400, li_512, li_1000, li_2457, li_4000, nI_add, nI_1, nI_mul, nI_sub, shl_1, shl_1b, nI_leP, nI_ltP, nI_eqP, Nat.not_le, Nat.not_lt] at c_6
        exact Ok.ret ⟨rfl, True.intro⟩
      · try simp (disch := omega) only [li_0, li_1, li_2, li_3, li_4, li_5, li_6, li_7, li_8, li_9, li_10, li_20, li_30, li_82, li_91, li_273, li_380, li_400, li_512, li_1000, li_2457, li_4000, nI_add, nI_1, nI_mul, nI_sub, shl_1, shl_1b, nI_leP, nI_ltP, nI_eqP, Nat.not_le, Nat.not_lt] at c_6
        refine Ok.ite (fun c_7 => ?_) (fun c_7 => ?_)
        · try simp (disch := omega) only [li_0, li_1, li_2, li_3, li_4, li_5, li_6, li_7, li_8, li_9, li_10, li_20, li_30, li_82, li_91, li_273, li_380, li_400, li_512, li_1000, li_2457, li_4000, nI_add, nI_1, nI_mul, nI_sub, shl_1, shl_1b, nI_leP, nI_ltP, nI_eqP, Nat.not_le, Nat.not_lt] at c_7
          exact Ok.ret ⟨rfl, True.intro⟩
        · try simp (disch := omega) only [li_0, li_1, li_2, li_3, li_4, li_5, li_6, li_7, li_8, li_9, li_10, li_20, li_30, li_82, li_91, li_273, li_380, li_400, li_512, li_1000, li_2457, li_4000, nI_add, nI_1, nI_mul, nI_sub, shl_1, shl_1b, nI_leP, nI_ltP, nI_eqP, Nat.not_le, Nat.not_lt] at c_7
          exact Ok.ret ⟨rfl, True.intro⟩
    · intro v17 t18 hx
      obtain ⟨rfl, hxv17⟩ := hx
      exact Ok.ret ⟨5000 - (j + 1), by omega, rfl, ⟨j + 1, nI_1 j, by omega, by omega, rfl⟩⟩
set_option maxHeartbeats 4000000 in
set_option maxRecDepth 100000 in
theorem rSX8_longestLine_6 {t : St} (hT : TY t) {x0 : Nat} (g_x0 : netAt x0 = true) {a0 : Int32} {a1 : Int32} {a2 : Int32} (h_a2 : IsR 5001 a2) : Ok (wh (SX8_longestLine_6 x0) (a0, a1, a2) t) (fun r u => t = u ∧ (True)) := by
  obtain ⟨j0, hj0, rfl⟩ := h_a2
  refine Ok.loop (fun k c s => t = s ∧ (∃ j, c.2.2 = nI j ∧ j ≤ 5000 ∧ 0 ≤ j ∧ k = 5000 - j)) ?_ (5000 - j0) _ _ ⟨rfl, ⟨j0, rfl, by omega, by omega, rfl⟩⟩
  clear hj0
  intro k c s hI
  obtain ⟨rfl, ⟨j, ej, hj, hlo, rfl⟩⟩ := hI
  obtain ⟨c0, c1, c2⟩ := c
  dsimp only at ej
  subst ej
  unfold SX8_longestLine_6
  dsimp only
  refine Ok.rdT hT (ty_n0 g_x0) (by omega) (fun k_1 hk_1 ek_1 => ?_)
  refine Ok.ite (fun c_2 => ?_) (fun c_2 => ?_)
  · try simp (disch := omega) only [li_0, li_1, li_2, li_3, li_4, li_5, li_6, li_7, li_8, li_9, li_10, li_20, li_30, li_82, li_91, li_273, li_380, li_400, li_512, li_1000, li_2457, li_4000, nI_add, nI_1, nI_mul, nI_sub, shl_1, shl_1b, nI_leP, nI_ltP, nI_eqP, Nat.not_le, Nat.not_lt] at c_2
    exact Ok.ret ⟨rfl, True.intro⟩
  · try simp (disch := omega) only [li_0, li_1, li_2, li_3, li_4, li_5, li_6, li_7, li_8, li_9, li_10, li_20, li_30, li_82, li_91, li_273, li_380, li_400, li_512, li_1000, li_2457, li_4000, nI_add, nI_1, nI_mul, nI_sub, shl_1, shl_1b, nI_leP, nI_ltP, nI_eqP, Nat.not_le, Nat.not_lt] at c_2
    refine Ok.bd _ (rSX8_longestLine_19 hT (by first | assumption | decide +kernel) (by first | with_reducible assumption | (simp (disch := omega) only [li_0, li_1, li_2, li_3, li_4, li_5, li_6, li_7, li_8, li_9, li_10, li_20, li_30, li_82, li_91, li_273, li_380, li_400, li_512, li_1000, li_2457, li_4000, nI_add, nI_1, nI_mul, nI_sub, shl_1, shl_1b, nI_or, nI_xor, nI_and]; with_reducible exact ⟨_, (by first | omega | exact or9 (by omega) (by omega) | exact xor9 (by omega) (by omega)), rfl⟩) | with_reducible exact ⟨_, (by first | omega | exact or9 (by omega) (by omega) | exact xor9 (by omega) (by omega)), rfl⟩ | exact IsR.mn (by first | with_reducible assumption | exact ⟨_, by omega, rfl⟩) (by first | with_reducible assumption | exact ⟨_, by omega, rfl⟩) | exact IsR.mx (by first | with_reducible assumption | exact ⟨_, by omega, rfl⟩) (by first | with_reducible assumption | exact ⟨_, by omega, rfl⟩) | with_reducible exact mn9 (by omega) | (simp (disch := omega) only [li_0, li_1, li_2, li_3, li_4, li_5, li_6, li_7, li_8, li_9, li_10, li_20, li_30, li_82, li_91, li_273, li_380, li_400, li_512, li_1000, li_2457, li_4000, nI_add, nI_1, nI_mul, nI_sub, shl_1, shl_1b]; with_reducible exact mn9b (by omega))) (by show IsR 5001 _; first | with_reducible assumption | (simp (disch := omega) only [li_0, li_1, li_2, li_3, li_4, li_5, li_6, li_7, li_8, li_9, li_10, li_20, li_30, li_82, li_91, li_273, li_380, li_400, li_512, li_1000, li_2457, li_4000, nI_add, nI_1, nI_mul, nI_sub, shl_1, shl_1b, nI_or, nI_xor, nI_and]; with_reducible exact ⟨_, (by first | omega | exact or9 (by omega) (by omega) | exact xor9 (by omega) (by omega)), rfl⟩) | with_reducible exact ⟨_, (by first | omega | exact or9 (by omega) (by omega) | exact xor9 (by omega) (by omega)), rfl⟩ | exact IsR.mn (by first | with_reducible assumption | exact ⟨_, by omega, rfl⟩) (by first | with_reducible assumption | exact ⟨_, by omega, rfl⟩) | exact IsR.mx (by first | with_reducible assumption | exact ⟨_, by omega, rfl⟩) (by first | with_reducible assumption | exact ⟨_, by omega, rfl⟩) | with_reducible exact mn9 (by omega) | (simp (disch := omega) only [li_0, li_1, li_2, li_3, li_4, li_5, li_6, li_7, li_8, li_9, li_10, li_20, li_30, li_82, li_91, li_273, li_380, li_400, li_512, li_1000, li_2457, li_4000, nI_add, nI_1, nI_mul, nI_sub, shl_1, shl_1b]; with_reducible exact mn9b (by omega)))) ?_
    rintro e22 _ ⟨rfl, hxe22⟩
    exact Ok.ret ⟨5000 - (j + 1), by omega, rfl, ⟨j + 1, nI_1 j, by omega, by omega, rfl⟩⟩
set_option maxHeartbeats 4000000 in
set_option maxRecDepth 100000 in
theorem rX8_longestLine {t : St} (hT : TY t) {x : Nat} (g_x : netAt x = true) : Ok (FX8_longestLine x t) (fun r u => t = u ∧ (True)) := by
  unfold FX8_longestLine
  refine Ok.ck (by first | assumption | decide +kernel) (fun g_1 => ?_)
  refine Ok.bd _ (rSX8_longestLine_6 hT (by first | assumption | decide +kernel) (by show IsR 5001 _; first | with_reducible assumption | (simp (disch := omega) only [li_0, li_1, li_2, li_3, li_4, li_5, li_6, li_7, li_8, li_9, li_10, li_20, li_30, li_82, li_91, li_273, li_380, li_400, li_512, li_1000, li_2457, li_4000, nI_add, nI_1, nI_mul, nI_sub, shl_1, shl_1b, nI_or, nI_xor, nI_and]; with_reducible exact ⟨_, (by first | omega | exact or9 (by omega) (by omega) | exact xor9 (by omega) (by omega)), rfl⟩) | with_reducible exact ⟨_, (by first | omega | exact or9 (by omega) (by omega) | exact xor9 (by omega) (by omega)), rfl⟩ | exact IsR.mn (by first | with_reducible assumption | exact ⟨_, by omega, rfl⟩) (by first | with_reducible assumption | exact ⟨_, by omega, rfl⟩) | exact IsR.mx (by first | with_reducible assumption | exact ⟨_, by omega, rfl⟩) (by first | with_reducible assumption | exact ⟨_, by omega, rfl⟩) | with_reducible exact mn9 (by omega) | (simp (disch := omega) only [li_0, li_1, li_2, li_3, li_4, li_5, li_6, li_7, li_8, li_9, li_10, li_20, li_30, li_82, li_91, li_273, li_380, li_400, li_512, li_1000, li_2457, li_4000, nI_add, nI_1, nI_mul, nI_sub, shl_1, shl_1b]; with_reducible exact mn9b (by omega)))) ?_
  rintro e26 _ ⟨rfl, hxe26⟩
  exact Ok.ret ⟨rfl, True.intro⟩
set_option maxHeartbeats 4000000 in
set_option maxRecDepth 100000 in
theorem rSX8_newLine_37 {t : St} (hT : TY t) {x0 : Nat} (g_x0 : netAt x0 = true) {w1 : Int32} {w2 : Int32} {w4 : Int32} (h_w4 : IsR 9 w4) {w5 : Int32} {w6 : Int32} {a0 : Int32} {a1 : Int32} (h_a1 : IsR 5001 a1) : Ok (wh (SX8_newLine_37 x0 w1 w2 w4 w5 w6) (a0, a1) t) (fun r u => t = u ∧ (Sum.elim (fun v => True) (fun e => True) r)) := by
  obtain ⟨j0, hj0, rfl⟩ := h_a1
  refine Ok.loop (fun k c s => t = s ∧ (∃ j, c.2 = nI j ∧ j ≤ 5000 ∧ 0 ≤ j ∧ k = 5000 - j)) ?_ (5000 - j0) _ _ ⟨rfl, ⟨j0, rfl, by omega, by omega, rfl⟩⟩
  obtain ⟨k_w4, h_w4, rfl⟩ := h_w4
  clear hj0
  intro k c s hI
  obtain ⟨rfl, ⟨j, ej, hj, hlo, rfl⟩⟩ := hI
  obtain ⟨c0, c1⟩ := c
  dsimp only at ej
  subst ej
  unfold SX8_newLine_37
  dsimp only
  refine Ok.rdT hT (ty_n0 g_x0) (by omega) (fun k_1 hk_1 ek_1 => ?_)
  refine Ok.ite (fun c_2 => ?_) (fun c_2 => ?_)
  · try simp (disch := omega) only [li_0, li_1, li_2, li_3, li_4, li_5, li_6, li_7, li_8, li_9, li_10, li_20, li_30, li_82, li_91, li_273, li_380, li_400, li_512, li_1000, li_2457, li_4000, nI_add, nI_1, nI_mul, nI_sub, shl_1, shl_1b, nI_leP, nI_ltP, nI_eqP, Nat.not_le, Nat.not_lt] at c_2
    exact Ok.ret ⟨rfl, True.intro⟩
  · try simp (disch := omega) only [li_0, li_1, li_2, li_3, li_4, li_5, li_6, li_7, li_8, li_9, li_10, li_20, li_30, li_82, li_91, li_273, li_380, li_400, li_512, li_1000, li_2457, li_4000, nI_add, nI_1, nI_mul, nI_sub, shl_1, shl_1b, nI_leP, nI_ltP, nI_eqP, Nat.not_le, Nat.not_lt] at c_2
    refine Ok.bd (fun (v14 : Int32) t15 => t = t15 ∧ (True)) ?_ ?_
    · refine Ok.ite (fun c_3 => ?_) (fun c_3 => ?_)
      · try simp (disch := omega) only [li_0, li_1, li_2, li_3, li_4, li_5, li_6, li_7, li_8, li_9, li_10, li_20, li_30, li_82, li_91, li_273, li_380, li_400, li_512, li_1000, li_2457, li_4000, nI_add, nI_1, nI_mul, nI_sub, shl_1, shl_1b, nI_leP, nI_ltP, nI_eqP, Nat.not_le, Nat.not_lt] at c_3
        exact Ok.ret ⟨rfl, True.intro⟩
      · try simp (disch := omega) only [li_0, li_1, li_2, li_3, li_4, li_5, li_6, li_7, li_8, li_9, li_10, li_20, li_30, li_82, li_91, li_273, li_380, li_400, li_512, li_1000, li_2457, li_4000, nI_add, nI_1, nI_mul, nI_sub, shl_1, shl_1b, nI_leP, nI_ltP, nI_eqP, Nat.not_le, Nat.not_lt] at c_3
        refine Ok.bd _ (rX6_aboveOf hT) ?_
        rintro v27 _ ⟨rfl, hxv27⟩
        refine Ok.bd _ (rX6_neighbours hT (by first | assumption | decide +kernel) (by first | with_reducible assumption | (simp (disch := omega) only [li_0, li_1, li_2, li_3, li_4, li_5, li_6, li_7, li_8, li_9, li_10, li_20, li_30, li_82, li_91, li_273, li_380, li_400, li_512, li_1000, li_2457, li_4000, nI_add, nI_1, nI_mul, nI_sub, shl_1, shl_1b, nI_or, nI_xor, nI_and]; with_reducible exact ⟨_, (by first | omega | exact or9 (by omega) (by omega) | exact xor9 (by omega) (by omega)), rfl⟩) | with_reducible exact ⟨_, (by first | omega | exact or9 (by omega) (by omega) | exact xor9 (by omega) (by omega)), rfl⟩ | exact IsR.mn (by first | with_reducible assumption | exact ⟨_, by omega, rfl⟩) (by first | with_reducible assumption | exact ⟨_, by omega, rfl⟩) | exact IsR.mx (by first | with_reducible assumption | exact ⟨_, by omega, rfl⟩) (by first | with_reducible assumption | exact ⟨_, by omega, rfl⟩) | with_reducible exact mn9 (by omega) | (simp (disch := omega) only [li_0, li_1, li_2, li_3, li_4, li_5, li_6, li_7, li_8, li_9, li_10, li_20, li_30, li_82, li_91, li_273, li_380, li_400, li_512, li_1000, li_2457, li_4000, nI_add, nI_1, nI_mul, nI_sub, shl_1, shl_1b]; with_reducible exact mn9b (by omega)))) ?_
        rintro v30 _ ⟨rfl, hxv30⟩
        exact Ok.ret ⟨rfl, True.intro⟩
    · intro v14 t15 hx
      obtain ⟨rfl, hxv14⟩ := hx
      refine Ok.bd _ (rJ6_bitCount_0f7a4 hT) ?_
      rintro v18 _ ⟨rfl, hxv18⟩
      refine Ok.ite (fun c_7 => ?_) (fun c_7 => ?_)
      · try simp (disch := omega) only [li_0, li_1, li_2, li_3, li_4, li_5, li_6, li_7, li_8, li_9, li_10, li_20, li_30, li_82, li_91, li_273, li_380, li_400, li_512, li_1000, li_2457, li_4000, nI_add, nI_1, nI_mul, nI_sub, shl_1, shl_1b, nI_leP, nI_ltP, nI_eqP, Nat.not_le, Nat.not_lt] at c_7
        exact Ok.ret ⟨5000 - (j + 1), by omega, rfl, ⟨j + 1, nI_1 j, by omega, by omega, rfl⟩⟩
      · try simp (disch := omega) only [li_0, li_1, li_2, li_3, li_4, li_5, li_6, li_7, li_8, li_9, li_10, li_20, li_30, li_82, li_91, li_273, li_380, li_400, li_512, li_1000, li_2457, li_4000, nI_add, nI_1, nI_mul, nI_sub, shl_1, shl_1b, nI_leP, nI_ltP, nI_eqP, Nat.not_le, Nat.not_lt] at c_7
        refine Ok.ite (fun c_8 => ?_) (fun c_8 => ?_)
        · try simp (disch := omega) only [li_0, li_1, li_2, li_3, li_4, li_5, li_6, li_7, li_8, li_9, li_10, li_20, li_30, li_82, li_91, li_273, li_380, li_400, li_512, li_1000, li_2457, li_4000, nI_add, nI_1, nI_mul, nI_sub, shl_1, shl_1b, nI_leP, nI_ltP, nI_eqP, Nat.not_le, Nat.not_lt] at c_8
          exact Ok.ret ⟨5000 - (j + 1), by omega, rfl, ⟨j + 1, nI_1 j, by omega, by omega, rfl⟩⟩
        · try simp (disch := omega) only [li_0, li_1, li_2, li_3, li_4, li_5, li_6, li_7, li_8, li_9, li_10, li_20, li_30, li_82, li_91, li_273, li_380, li_400, li_512, li_1000, li_2457, li_4000, nI_add, nI_1, nI_mul, nI_sub, shl_1, shl_1b, nI_leP, nI_ltP, nI_eqP, Nat.not_le, Nat.not_lt] at c_8
          refine Ok.bd _ (rX8_bitAt hT) ?_
          rintro v23 _ ⟨rfl, hxv23⟩
          exact Ok.ret ⟨rfl, True.intro⟩
set_option maxHeartbeats 4000000 in
set_option maxRecDepth 100000 in
theorem rSX8_newLine_7 {t : St} (hT : TY t) {x0 : Nat} (g_x0 : netAt x0 = true) {w1 : Int32} {a0 : Int32} {a1 : Int32} {a2 : Int32} (h_a2 : IsR 5001 a2) : Ok (wh (SX8_newLine_7 x0 w1) (a0, a1, a2) t) (fun r u => t = u ∧ (Sum.elim (fun v => True) (fun e => True) r)) := by
  obtain ⟨j0, hj0, rfl⟩ := h_a2
  refine Ok.loop (fun k c s => t = s ∧ (∃ j, c.2.2 = nI j ∧ j ≤ 5000 ∧ 0 ≤ j ∧ k = 5000 - j)) ?_ (5000 - j0) _ _ ⟨rfl, ⟨j0, rfl, by omega, by omega, rfl⟩⟩
  clear hj0
  intro k c s hI
  obtain ⟨rfl, ⟨j, ej, hj, hlo, rfl⟩⟩ := hI
  obtain ⟨c0, c1, c2⟩ := c
  dsimp only at ej
  subst ej
  unfold SX8_newLine_7
  dsimp only
  refine Ok.rdT hT (ty_n0 g_x0) (by omega) (fun k_1 hk_1 ek_1 => ?_)
  refine Ok.ite (fun c_2 => ?_) (fun c_2 => ?_)
  · try simp (disch := omega) only [li_0, li_1, li_2, li_3, li_4, li_5, li_6, li_7, li_8, li_9, li_10, li_20, li_30, li_82, li_91, li_273, li_380, li_400, li_512, li_1000, li_2457, li_4000, nI_add, nI_1, nI_mul, nI_sub, shl_1, shl_1b, nI_leP, nI_ltP, nI_eqP, Nat.not_le, Nat.not_lt] at c_2
    exact Ok.ret ⟨rfl, True.intro⟩
  · try simp (disch := omega) only [li_0, li_1, li_2, li_3, li_4, li_5, li_6, li_7, li_8, li_9, li_10, li_20, li_30, li_82, li_91, li_273, li_380, li_400, li_512, li_1000, li_2457, li_4000, nI_add, nI_1, nI_mul, nI_sub, shl_1, shl_1b, nI_leP, nI_ltP, nI_eqP, Nat.not_le, Nat.not_lt] at c_2
    refine Ok.ck (by first | (simp (disch := omega) only [li_0, li_1, li_2, li_3, li_4, li_5, li_6, li_7, li_8, li_9, li_10, li_20, li_30, li_82, li_91, li_273, li_380, li_400, li_512, li_1000, li_2457, li_4000, nI_add, nI_1, nI_mul, nI_sub, shl_1, shl_1b, nI_or, nI_xor, nI_and]; with_reducible exact inb_n (by first | omega | exact or9 (by omega) (by omega) | exact xor9 (by omega) (by omega)) (by omega)) | with_reducible exact inb_n (by omega) (by omega) | exact IsR.ib (by with_reducible assumption) (by decide) | decide) (fun g_3 => ?_)
    refine Ok.rdT hT (ty_od g_x0 (inb_lt g_3)) (by omega) (fun k_4 hk_4 ek_4 => ?_)
    refine Ok.bd _ (rX6_neighbours hT (by first | assumption | decide +kernel) (by first | with_reducible assumption | (simp (disch := omega) only [li_0, li_1, li_2, li_3, li_4, li_5, li_6, li_7, li_8, li_9, li_10, li_20, li_30, li_82, li_91, li_273, li_380, li_400, li_512, li_1000, li_2457, li_4000, nI_add, nI_1, nI_mul, nI_sub, shl_1, shl_1b, nI_or, nI_xor, nI_and]; with_reducible exact ⟨_, (by first | omega | exact or9 (by omega) (by omega) | exact xor9 (by omega) (by omega)), rfl⟩) | with_reducible exact ⟨_, (by first | omega | exact or9 (by omega) (by omega) | exact xor9 (by omega) (by omega)), rfl⟩ | exact IsR.mn (by first | with_reducible assumption | exact ⟨_, by omega, rfl⟩) (by first | with_reducible assumption | exact ⟨_, by omega, rfl⟩) | exact IsR.mx (by first | with_reducible assumption | exact ⟨_, by omega, rfl⟩) (by first | with_reducible assumption | exact ⟨_, by omega, rfl⟩) | with_reducible exact mn9 (by omega) | (simp (disch := omega) only [li_0, li_1, li_2, li_3, li_4, li_5, li_6, li_7, li_8, li_9, li_10, li_20, li_30, li_82, li_91, li_273, li_380, li_400, li_512, li_1000, li_2457, li_4000, nI_add, nI_1, nI_mul, nI_sub, shl_1, shl_1b]; with_reducible exact mn9b (by omega)))) ?_
    rintro v7 _ ⟨rfl, hxv7⟩
    refine Ok.bd _ (rSX8_newLine_37 hT (by first | assumption | decide +kernel) (by first | with_reducible assumption | (simp (disch := omega) only [li_0, li_1, li_2, li_3, li_4, li_5, li_6, li_7, li_8, li_9, li_10, li_20, li_30, li_82, li_91, li_273, li_380, li_400, li_512, li_1000, li_2457, li_4000, nI_add, nI_1, nI_mul, nI_sub, shl_1, shl_1b, nI_or, nI_xor, nI_and]; with_reducible exact ⟨_, (by first | omega | exact or9 (by omega) (by omega) | exact xor9 (by omega) (by omega)), rfl⟩) | with_reducible exact ⟨_, (by first | omega | exact or9 (by omega) (by omega) | exact xor9 (by omega) (by omega)), rfl⟩ | exact IsR.mn (by first | with_reducible assumption | exact ⟨_, by omega, rfl⟩) (by first | with_reducible assumption | exact ⟨_, by omega, rfl⟩) | exact IsR.mx (by first | with_reducible assumption | exact ⟨_, by omega, rfl⟩) (by first | with_reducible assumption | exact ⟨_, by omega, rfl⟩) | with_reducible exact mn9 (by omega) | (simp (disch := omega) only [li_0, li_1, li_2, li_3, li_4, li_5, li_6, li_7, li_8, li_9, li_10, li_20, li_30, li_82, li_91, li_273, li_380, li_400, li_512, li_1000, li_2457, li_4000, nI_add, nI_1, nI_mul, nI_sub, shl_1, shl_1b]; with_reducible exact mn9b (by omega))) (by show IsR 5001 _; first | with_reducible assumption | (simp (disch := omega) only [li_0, li_1, li_2, li_3, li_4, li_5, li_6, li_7, li_8, li_9, li_10, li_20, li_30, li_82, li_91, li_273, li_380, li_400, li_512, li_1000, li_2457, li_4000, nI_add, nI_1, nI_mul, nI_sub, shl_1, shl_1b, nI_or, nI_xor, nI_and]; with_reducible exact ⟨_, (by first | omega | exact or9 (by omega) (by omega) | exact xor9 (by omega) (by omega)), rfl⟩) | with_reducible exact ⟨_, (by first | omega | exact or9 (by omega) (by omega) | exact xor9 (by omega) (by omega)), rfl⟩ | exact IsR.mn (by first | with_reducible assumption | exact ⟨_, by omega, rfl⟩) (by first | with_reducible assumption | exact ⟨_, by omega, rfl⟩) | exact IsR.mx (by first | with_reducible assumption | exact ⟨_, by omega, rfl⟩) (by first | with_reducible assumption | exact ⟨_, by omega, rfl⟩) | with_reducible exact mn9 (by omega) | (simp (disch := omega) only [li_0, li_1, li_2, li_3, li_4, li_5, li_6, li_7, li_8, li_9, li_10, li_20, li_30, li_82, li_91, li_273, li_380, li_400, li_512, li_1000, li_2457, li_4000, nI_add, nI_1, nI_mul, nI_sub, shl_1, shl_1b]; with_reducible exact mn9b (by omega)))) ?_
    rintro (e33 | e33) _ ⟨rfl, hxe33⟩
    · refine Ok.el ?_
      exact Ok.ret ⟨rfl, True.intro⟩
    · refine Ok.er ?_
      exact Ok.ret ⟨5000 - (j + 1), by omega, rfl, ⟨j + 1, nI_1 j, by omega, by omega, rfl⟩⟩
set_option maxHeartbeats 4000000 in
set_option maxRecDepth 100000 in
theorem rX8_newLine {t : St} (hT : TY t) {x : Nat} (g_x : netAt x = true) {a : Int32} : Ok (FX8_newLine x a t) (fun r u => t = u ∧ (True)) := by
  unfold FX8_newLine
  refine Ok.ck (by first | assumption | decide +kernel) (fun g_1 => ?_)
  refine Ok.bd _ (rSX8_newLine_7 hT (by first | assumption | decide +kernel) (by show IsR 5001 _; first | with_reducible assumption | (simp (disch := omega) only [li_0, li_1, li_2, li_3, li_4, li_5, li_6, li_7, li_8, li_9, li_10, li_20, li_30, li_82, li_91, li_273, li_380, li_400, li_512, li_1000, li_2457, li_4000, nI_add, nI_1, nI_mul, nI_sub, shl_1, shl_1b, nI_or, nI_xor, nI_and]; with_reducible exact ⟨_, (by first | omega | exact or9 (by omega) (by omega) | exact xor9 (by omega) (by omega)), rfl⟩) | with_reducible exact ⟨_, (by first | omega | exact or9 (by omega) (by omega) | exact xor9 (by omega) (by omega)), rfl⟩ | exact IsR.mn (by first | with_reducible assumption | exact ⟨_, by omega, rfl⟩) (by first | with_reducible assumption | exact ⟨_, by omega, rfl⟩) | exact IsR.mx (by first | with_reducible assumption | exact ⟨_, by omega, rfl⟩) (by first | with_reducible assumption | exact ⟨_, by omega, rfl⟩) | with_reducible exact mn9 (by omega) | (simp (disch := omega) only [li_0, li_1, li_2, li_3, li_4, li_5, li_6, li_7, li_8, li_9, li_10, li_20, li_30, li_82, li_91, li_273, li_380, li_400, li_512, li_1000, li_2457, li_4000, nI_add, nI_1, nI_mul, nI_sub, shl_1, shl_1b]; with_reducible exact mn9b (by omega)))) ?_
  rintro (e38 | e38) _ ⟨rfl, hxe38⟩
  · refine Ok.el ?_
    exact Ok.ret ⟨rfl, True.intro⟩
  · refine Ok.er ?_
    refine Ok.ite (fun c_3 => ?_) (fun c_3 => ?_)
    · try simp (disch := omega) only [li_0, li_1, li_2, li_3, li_4, li_5, li_6, li_7, li_8, li_9, li_10, li_20, li_30, li_82, li_91, li_273, li_380, li_400, li_512, li_1000, li_2457, li_4000, nI_add, nI_1, nI_mul, nI_sub, shl_1, shl_1b, nI_leP, nI_ltP, nI_eqP, Nat.not_le, Nat.not_lt] at c_3
      exact Ok.ret ⟨rfl, True.intro⟩
    · try simp (disch := omega) only [li_0, li_1, li_2, li_3, li_4, li_5, li_6, li_7, li_8, li_9, li_10, li_20, li_30, li_82, li_91, li_273, li_380, li_400, li_512, li_1000, li_2457, li_4000, nI_add, nI_1, nI_mul, nI_sub, shl_1, shl_1b, nI_leP, nI_ltP, nI_eqP, Nat.not_le, Nat.not_lt] at c_3
      exact Ok.ret ⟨rfl, True.intro⟩
set_option maxHeartbeats 4000000 in
set_option maxRecDepth 100000 in
theorem rX8_bagGoing {t : St} (hT : TY t) {x : Nat} (g_x : netAt x = true) {a : Int32} (h_a : IsR 9 a) : Ok (FX8_bagGoing x a t) (fun r u => t = u ∧ (True)) := by
  obtain ⟨k_a, h_a, rfl⟩ := h_a
  unfold FX8_bagGoing
  refine Ok.ck (by first | assumption | decide +kernel) (fun g_1 => ?_)
  refine Ok.bd _ (rX5_aheadOf hT (by first | assumption | decide +kernel) (by first | with_reducible assumption | (simp (disch := omega) only [li_0, li_1, li_2, li_3, li_4, li_5, li_6, li_7, li_8, li_9, li_10, li_20, li_30, li_82, li_91, li_273, li_380, li_400, li_512, li_1000, li_2457, li_4000, nI_add, nI_1, nI_mul, nI_sub, shl_1, shl_1b, nI_or, nI_xor, nI_and]; with_reducible exact ⟨_, (by first | omega | exact or9 (by omega) (by omega) | exact xor9 (by omega) (by omega)), rfl⟩) | with_reducible exact ⟨_, (by first | omega | exact or9 (by omega) (by omega) | exact xor9 (by omega) (by omega)), rfl⟩ | exact IsR.mn (by first | with_reducible assumption | exact ⟨_, by omega, rfl⟩) (by first | with_reducible assumption | exact ⟨_, by omega, rfl⟩) | exact IsR.mx (by first | with_reducible assumption | exact ⟨_, by omega, rfl⟩) (by first | with_reducible assumption | exact ⟨_, by omega, rfl⟩) | with_reducible exact mn9 (by omega) | (simp (disch := omega) only [li_0, li_1, li_2, li_3, li_4, li_5, li_6, li_7, li_8, li_9, li_10, li_20, li_30, li_82, li_91, li_273, li_380, li_400, li_512, li_1000, li_2457, li_4000, nI_add, nI_1, nI_mul, nI_sub, shl_1, shl_1b]; with_reducible exact mn9b (by omega)))) ?_
  rintro v1 _ ⟨rfl, hxv1⟩
  refine Ok.ck (by first | (simp (disch := omega) only [li_0, li_1, li_2, li_3, li_4, li_5, li_6, li_7, li_8, li_9, li_10, li_20, li_30, li_82, li_91, li_273, li_380, li_400, li_512, li_1000, li_2457, li_4000, nI_add, nI_1, nI_mul, nI_sub, shl_1, shl_1b, nI_or, nI_xor, nI_and]; with_reducible exact inb_n (by first | omega | exact or9 (by omega) (by omega) | exact xor9 (by omega) (by omega)) (by omega)) | with_reducible exact inb_n (by omega) (by omega) | exact IsR.ib (by with_reducible assumption) (by decide) | decide) (fun g_3 => ?_)
  refine Ok.rdT hT (ty_od g_1 (inb_lt g_3)) (by omega) (fun k_4 hk_4 ek_4 => ?_)
  refine Ok.bd _ (rX6_withLineInto hT (by first | assumption | decide +kernel)) ?_
  rintro v7 _ ⟨rfl, hxv7⟩
  exact Ok.ret ⟨rfl, True.intro⟩
set_option maxHeartbeats 4000000 in
set_option maxRecDepth 100000 in
theorem rX8_bagTaken {t : St} (hT : TY t) {x : Nat} (g_x : netAt x = true) {a : Int32} (h_a : IsR 9 a) : Ok (FX8_bagTaken x a t) (fun r u => t = u ∧ (True)) := by
  obtain ⟨k_a, h_a, rfl⟩ := h_a
  unfold FX8_bagTaken
  refine Ok.ck (by first | assumption | decide +kernel) (fun g_1 => ?_)
  refine Ok.ck (by first | (simp (disch := omega) only [li_0, li_1, li_2, li_3, li_4, li_5, li_6, li_7, li_8, li_9, li_10, li_20, li_30, li_82, li_91, li_273, li_380, li_400, li_512, li_1000, li_2457, li_4000, nI_add, nI_1, nI_mul, nI_sub, shl_1, shl_1b, nI_or, nI_xor, nI_and]; with_reducible exact inb_n (by first | omega | exact or9 (by omega) (by omega) | exact xor9 (by omega) (by omega)) (by omega)) | with_reducible exact inb_n (by omega) (by omega) | exact IsR.ib (by with_reducible assumption) (by decide) | decide) (fun g_2 => ?_)
  refine Ok.rdT hT (ty_od g_1 (inb_lt g_2)) (by omega) (fun k_3 hk_3 ek_3 => ?_)
  refine Ok.bd _ (rX5_aheadOf hT (by first | assumption | decide +kernel) (by first | with_reducible assumption | (simp (disch := omega) only [li_0, li_1, li_2, li_3, li_4, li_5, li_6, li_7, li_8, li_9, li_10, li_20, li_30, li_82, li_91, li_273, li_380, li_400, li_512, li_1000, li_2457, li_4000, nI_add, nI_1, nI_mul, nI_sub, shl_1, shl_1b, nI_or, nI_xor, nI_and]; with_reducible exact ⟨_, (by first | omega | exact or9 (by omega) (by omega) | exact xor9 (by omega) (by omega)), rfl⟩) | with_reducible exact ⟨_, (by first | omega | exact or9 (by omega) (by omega) | exact xor9 (by omega) (by omega)), rfl⟩ | exact IsR.mn (by first | with_reducible assumption | exact ⟨_, by omega, rfl⟩) (by first | with_reducible assumption | exact ⟨_, by omega, rfl⟩) | exact IsR.mx (by first | with_reducible assumption | exact ⟨_, by omega, rfl⟩) (by first | with_reducible assumption | exact ⟨_, by omega, rfl⟩) | with_reducible exact mn9 (by omega) | (simp (disch := omega) only [li_0, li_1, li_2, li_3, li_4, li_5, li_6, li_7, li_8, li_9, li_10, li_20, li_30, li_82, li_91, li_273, li_380, li_400, li_512, li_1000, li_2457, li_4000, nI_add, nI_1, nI_mul, nI_sub, shl_1, shl_1b]; with_reducible exact mn9b (by omega)))) ?_
  rintro v4 _ ⟨rfl, hxv4⟩
  refine Ok.bd _ (rX6_neighbours hT (by first | assumption | decide +kernel) (by first | with_reducible assumption | (simp (disch := omega) only [li_0, li_1, li_2, li_3, li_4, li_5, li_6, li_7, li_8, li_9, li_10, li_20, li_30, li_82, li_91, li_273, li_380, li_400, li_512, li_1000, li_2457, li_4000, nI_add, nI_1, nI_mul, nI_sub, shl_1, shl_1b, nI_or, nI_xor, nI_and]; with_reducible exact ⟨_, (by first | omega | exact or9 (by omega) (by omega) | exact xor9 (by omega) (by omega)), rfl⟩) | with_reducible exact ⟨_, (by first | omega | exact or9 (by omega) (by omega) | exact xor9 (by omega) (by omega)), rfl⟩ | exact IsR.mn (by first | with_reducible assumption | exact ⟨_, by omega, rfl⟩) (by first | with_reducible assumption | exact ⟨_, by omega, rfl⟩) | exact IsR.mx (by first | with_reducible assumption | exact ⟨_, by omega, rfl⟩) (by first | with_reducible assumption | exact ⟨_, by omega, rfl⟩) | with_reducible exact mn9 (by omega) | (simp (disch := omega) only [li_0, li_1, li_2, li_3, li_4, li_5, li_6, li_7, li_8, li_9, li_10, li_20, li_30, li_82, li_91, li_273, li_380, li_400, li_512, li_1000, li_2457, li_4000, nI_add, nI_1, nI_mul, nI_sub, shl_1, shl_1b]; with_reducible exact mn9b (by omega)))) ?_
  rintro v7 _ ⟨rfl, hxv7⟩
  exact Ok.ret ⟨rfl, True.intro⟩
set_option maxHeartbeats 4000000 in
set_option maxRecDepth 100000 in
theorem rSX9_lowest_2 {t : St} (hT : TY t) {w0 : Int32} {a0 : Int32} (h_a0 : IsR 5001 a0) : Ok (wh (SX9_lowest_2 w0) a0 t) (fun r u => t = u ∧ (Sum.elim (fun v => IsR 9 v) (fun e => True) r)) := by
  obtain ⟨j0, hj0, rfl⟩ := h_a0
  refine Ok.loop (fun k c s => t = s ∧ (∃ j, c = nI j ∧ j ≤ 5000 ∧ 0 ≤ j ∧ k = 5000 - j)) ?_ (5000 - j0) _ _ ⟨rfl, ⟨j0, rfl, by omega, by omega, rfl⟩⟩
  clear hj0
  intro k c s hI
  obtain ⟨rfl, ⟨j, ej, hj, hlo, rfl⟩⟩ := hI
  subst ej
  unfold SX9_lowest_2
  refine Ok.ite (fun c_1 => ?_) (fun c_1 => ?_)
  · try simp (disch := omega) only [li_0, li_1, li_2, li_3, li_4, li_5, li_6, li_7, li_8, li_9, li_10, li_20, li_30, li_82, li_91, li_273, li_380, li_400, li_512, li_1000, li_2457, li_4000, nI_add, nI_1, nI_mul, nI_sub, shl_1, shl_1b, nI_leP, nI_ltP, nI_eqP, Nat.not_le, Nat.not_lt] at c_1
    exact Ok.ret ⟨rfl, True.intro⟩
  · try simp (disch := omega) only [li_0, li_1, li_2, li_3, li_4, li_5, li_6, li_7, li_8, li_9, li_10, li_20, li_30, li_82, li_91, li_273, li_380, li_400, li_512, li_1000, li_2457, li_4000, nI_add, nI_1, nI_mul, nI_sub, shl_1, shl_1b, nI_leP, nI_ltP, nI_eqP, Nat.not_le, Nat.not_lt] at c_1
    refine Ok.ite (fun c_2 => ?_) (fun c_2 => ?_)
    · try simp (disch := omega) only [li_0, li_1, li_2, li_3, li_4, li_5, li_6, li_7, li_8, li_9, li_10, li_20, li_30, li_82, li_91, li_273, li_380, li_400, li_512, li_1000, li_2457, li_4000, nI_add, nI_1, nI_mul, nI_sub, shl_1, shl_1b, nI_leP, nI_ltP, nI_eqP, Nat.not_le, Nat.not_lt] at c_2
      exact Ok.ret ⟨5000 - (j + 1), by omega, rfl, ⟨j + 1, nI_1 j, by omega, by omega, rfl⟩⟩
    · try simp (disch := omega) only [li_0, li_1, li_2, li_3, li_4, li_5, li_6, li_7, li_8, li_9, li_10, li_20, li_30, li_82, li_91, li_273, li_380, li_400, li_512, li_1000, li_2457, li_4000, nI_add, nI_1, nI_mul, nI_sub, shl_1, shl_1b, nI_leP, nI_ltP, nI_eqP, Nat.not_le, Nat.not_lt] at c_2
      exact Ok.ret ⟨rfl, (by show IsR 9 _; first | with_reducible assumption | (simp (disch := omega) only [li_0, li_1, li_2, li_3, li_4, li_5, li_6, li_7, li_8, li_9, li_10, li_20, li_30, li_82, li_91, li_273, li_380, li_400, li_512, li_1000, li_2457, li_4000, nI_add, nI_1, nI_mul, nI_sub, shl_1, shl_1b, nI_or, nI_xor, nI_and]; with_reducible exact ⟨_, (by first | omega | exact or9 (by omega) (by omega) | exact xor9 (by omega) (by omega)), rfl⟩) | with_reducible exact ⟨_, (by first | omega | exact or9 (by omega) (by omega) | exact xor9 (by omega) (by omega)), rfl⟩ | exact IsR.mn (by first | with_reducible assumption | exact ⟨_, by omega, rfl⟩) (by first | with_reducible assumption | exact ⟨_, by omega, rfl⟩) | exact IsR.mx (by first | with_reducible assumption | exact ⟨_, by omega, rfl⟩) (by first | with_reducible assumption | exact ⟨_, by omega, rfl⟩) | with_reducible exact mn9 (by omega) | (simp (disch := omega) only [li_0, li_1, li_2, li_3, li_4, li_5, li_6, li_7, li_8, li_9, li_10, li_20, li_30, li_82, li_91, li_273, li_380, li_400, li_512, li_1000, li_2457, li_4000, nI_add, nI_1, nI_mul, nI_sub, shl_1, shl_1b]; with_reducible exact mn9b (by omega)))⟩
set_option maxHeartbeats 4000000 in
set_option maxRecDepth 100000 in
theorem rX9_lowest {t : St} (hT : TY t) {a : Int32} : Ok (FX9_lowest a t) (fun r u => t = u ∧ (IsR 9 r)) := by
  unfold FX9_lowest
  refine Ok.bd _ (rSX9_lowest_2 hT (by show IsR 5001 _; first | with_reducible assumption | (simp (disch := omega) only [li_0, li_1, li_2, li_3, li_4, li_5, li_6, li_7, li_8, li_9, li_10, li_20, li_30, li_82, li_91, li_273, li_380, li_400, li_512, li_1000, li_2457, li_4000, nI_add, nI_1, nI_mul, nI_sub, shl_1, shl_1b, nI_or, nI_xor, nI_and]; with_reducible exact ⟨_, (by first | omega | exact or9 (by omega) (by omega) | exact xor9 (by omega) (by omega)), rfl⟩) | with_reducible exact ⟨_, (by first | omega | exact or9 (by omega) (by omega) | exact xor9 (by omega) (by omega)), rfl⟩ | exact IsR.mn (by first | with_reducible assumption | exact ⟨_, by omega, rfl⟩) (by first | with_reducible assumption | exact ⟨_, by omega, rfl⟩) | exact IsR.mx (by first | with_reducible assumption | exact ⟨_, by omega, rfl⟩) (by first | with_reducible assumption | exact ⟨_, by omega, rfl⟩) | with_reducible exact mn9 (by omega) | (simp (disch := omega) only [li_0, li_1, li_2, li_3, li_4, li_5, li_6, li_7, li_8, li_9, li_10, li_20, li_30, li_82, li_91, li_273, li_380, li_400, li_512, li_1000, li_2457, li_4000, nI_add, nI_1, nI_mul, nI_sub, shl_1, shl_1b]; with_reducible exact mn9b (by omega)))) ?_
  rintro (e4 | e4) _ ⟨rfl, hxe4⟩
  · refine Ok.el ?_
    obtain ⟨ke4, hke4, rfl⟩ := hxe4
    exact Ok.ret ⟨rfl, (by show IsR 9 _; first | with_reducible assumption | (simp (disch := omega) only [li_0, li_1, li_2, li_3, li_4, li_5, li_6, li_7, li_8, li_9, li_10, li_20, li_30, li_82, li_91, li_273, li_380, li_400, li_512, li_1000, li_2457, li_4000, nI_add, nI_1, nI_mul, nI_sub, shl_1, shl_1b, nI_or, nI_xor, nI_and]; with_reducible exact ⟨_, (by first | omega | exact or9 (by omega) (by omega) | exact xor9 (by omega) (by omega)), rfl⟩) | with_reducible exact ⟨_, (by first | omega | exact or9 (by omega) (by omega) | exact xor9 (by omega) (by omega)), rfl⟩ | exact IsR.mn (by first | with_reducible assumption | exact ⟨_, by omega, rfl⟩) (by first | with_reducible assumption | exact ⟨_, by omega, rfl⟩) | exact IsR.mx (by first | with_reducible assumption | exact ⟨_, by omega, rfl⟩) (by first | with_reducible assumption | exact ⟨_, by omega, rfl⟩) | with_reducible exact mn9 (by omega) | (simp (disch := omega) only [li_0, li_1, li_2, li_3, li_4, li_5, li_6, li_7, li_8, li_9, li_10, li_20, li_30, li_82, li_91, li_273, li_380, li_400, li_512, li_1000, li_2457, li_4000, nI_add, nI_1, nI_mul, nI_sub, shl_1, shl_1b]; with_reducible exact mn9b (by omega)))⟩
  · refine Ok.er ?_
    exact Ok.ret ⟨rfl, (by show IsR 9 _; first | with_reducible assumption | (simp (disch := omega) only [li_0, li_1, li_2, li_3, li_4, li_5, li_6, li_7, li_8, li_9, li_10, li_20, li_30, li_82, li_91, li_273, li_380, li_400, li_512, li_1000, li_2457, li_4000, nI_add, nI_1, nI_mul, nI_sub, shl_1, shl_1b, nI_or, nI_xor, nI_and]; with_reducible exact ⟨_, (by first | omega | exact or9 (by omega) (by omega) | exact xor9 (by omega) (by omega)), rfl⟩) | with_reducible exact ⟨_, (by first | omega | exact or9 (by omega) (by omega) | exact xor9 (by omega) (by omega)), rfl⟩ | exact IsR.mn (by first | with_reducible assumption | exact ⟨_, by omega, rfl⟩) (by first | with_reducible assumption | exact ⟨_, by omega, rfl⟩) | exact IsR.mx (by first | with_reducible assumption | exact ⟨_, by omega, rfl⟩) (by first | with_reducible assumption | exact ⟨_, by omega, rfl⟩) | with_reducible exact mn9 (by omega) | (simp (disch := omega) only [li_0, li_1, li_2, li_3, li_4, li_5, li_6, li_7, li_8, li_9, li_10, li_20, li_30, li_82, li_91, li_273, li_380, li_400, li_512, li_1000, li_2457, li_4000, nI_add, nI_1, nI_mul, nI_sub, shl_1, shl_1b]; with_reducible exact mn9b (by omega)))⟩
