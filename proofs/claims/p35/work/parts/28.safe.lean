/-! safety of the class: its calls (printed by wip/ext/g28.py) -/
theorem rng3 {a : Int32} {m : Nat} (h1 : ¬ a < 0) (h2 : ¬ nI m ≤ a) (hm : m < 1000) : IsR m a := by
  obtain ⟨j, hj, rfl⟩ := nI_of h1
  rw [nI_leP (by omega) (by omega)] at h2
  exact ⟨j, by omega, rfl⟩
theorem rX11_isSlot {t : St} (hT : TY t) {a : Int32} : Ok (FX11_isSlot a t) (fun r u => t = u ∧ (isb r = true ∧ (r = 0 ∨ IsR 3 a))) := by
  unfold FX11_isSlot
  refine Ok.ite (fun _ => Ok.ret ⟨rfl, rfl, Or.inl rfl⟩) (fun c1 => Ok.ite (fun _ => Ok.ret ⟨rfl, rfl, Or.inl rfl⟩) (fun c2 => Ok.ret ⟨rfl, rfl, Or.inr (rng3 c1 c2 (by omega))⟩))
theorem rX11_isMeasure {t : St} (hT : TY t) {a : Int32} : Ok (FX11_isMeasure a t) (fun r u => t = u ∧ (isb r = true ∧ (r = 0 ∨ IsR 7 a))) := by
  unfold FX11_isMeasure
  refine Ok.ite (fun _ => Ok.ret ⟨rfl, rfl, Or.inl rfl⟩) (fun c1 => Ok.ite (fun _ => Ok.ret ⟨rfl, rfl, Or.inl rfl⟩) (fun c2 => Ok.ret ⟨rfl, rfl, Or.inr (rng3 c1 c2 (by omega))⟩))
theorem el_lt {v : Int32} (h : IsR 3 v) : el 10 v < 100 := by
  obtain ⟨k, hk, rfl⟩ := h
  rcases (show k = 0 ∨ k = 1 ∨ k = 2 by omega) with rfl | rfl | rfl <;> decide +kernel
theorem rX11_netIn {t : St} (hT : TY t) {a : Int32} : Ok (FX11_netIn a t) (fun r u => t = u ∧ (∀ x, r = some x → (netAt x = true ∧ IsR 3 a ∧ ¬ t x 0 = nI 0 ∧ x < 100 ∧ x = el 10 a))) := by
  unfold FX11_netIn
  refine Ok.bd _ (rX11_isSlot hT) ?_
  rintro v _ ⟨rfl, -, hv⟩
  refine Ok.ite (fun _ => Ok.ret ⟨rfl, fun x q => by cases q⟩) (fun c => ?_)
  have h3 := hv.resolve_left c
  have hn := el_10 h3
  refine Ok.ck (h3.ib (by omega)) (fun _ => Ok.ck hn (fun _ => ?_))
  refine Ok.rdT hT (ty_n0 hn) (by omega) (fun k hk ek => ?_)
  refine Ok.ite (fun _ => Ok.ret ⟨rfl, fun x q => by cases q⟩) (fun c2 => ?_)
  rw [li_0, nI_leP (by omega) (by omega)] at c2
  refine Ok.ck (h3.ib (by omega)) (fun _ => Ok.ck hn (fun _ => ?_))
  refine Ok.ret ⟨rfl, fun x q => ?_⟩
  cases q
  refine ⟨hn, h3, ?_, el_lt h3, rfl⟩
  rw [ek, nI_eqP (by omega) (by omega)]
  omega
theorem ge19 {d : Int32} (h1 : ¬ d < nI 1) (h2 : d ≤ nI 9) : IsR 10 d := by
  rw [Int32.lt_iff_toInt_lt, nI_toInt (by omega)] at h1
  rw [Int32.le_iff_toInt_le, nI_toInt (by omega)] at h2
  exact rng_of (a := 1) (b := 9) (by have : (1 : Int32).toInt = 1 := by decide
                                     omega) (by have : (9 : Int32).toInt = 9 := by decide
                                                omega) (by decide) (by decide)
set_option maxHeartbeats 4000000 in
set_option maxRecDepth 100000 in
theorem rX11_isPriced {t : St} (hT : TY t) {a : Int32} : Ok (FX11_isPriced a t) (fun r u => t = u ∧ (isb r = true ∧ (True))) := by
  unfold FX11_isPriced
  refine Ok.bd _ (rX11_isMeasure hT) ?_
  rintro v1 _ ⟨rfl, hbv1, hxv1⟩
  refine Ok.ite (fun c_2 => ?_) (fun c_2 => ?_)
  · skip
    exact Ok.ret ⟨rfl, ⟨(by first | rfl | assumption | decide), (by first | exact True.intro | exact Or.inl rfl | exact Or.inr (by first | assumption | exact ⟨_, by omega, rfl⟩ | exact ⟨⟨_, by omega, rfl⟩, ⟨_, by omega, rfl⟩⟩))⟩⟩
  · obtain ⟨kmv1, hkmv1, rfl⟩ := hxv1.resolve_left c_2
    refine Ok.ite (fun c_3 => ?_) (fun c_3 => ?_)
    · try simp (disch := omega) only [li_0, li_1, li_2, li_3, li_4, li_5, li_6, li_7, li_8, li_9, li_10, li_20, li_30, li_82, li_91, li_273, li_380, li_400, li_512, li_1000, li_2457, li_4000, nI_add, nI_1, nI_mul, nI_sub, shl_1, shl_1b, nI_leP, nI_ltP, nI_eqP, Nat.not_le, Nat.not_lt] at c_3
      exact Ok.ret ⟨rfl, ⟨(by first | rfl | assumption | decide), (by first | exact True.intro | exact Or.inl rfl | exact Or.inr (by first | assumption | exact ⟨_, by omega, rfl⟩ | exact ⟨⟨_, by omega, rfl⟩, ⟨_, by omega, rfl⟩⟩))⟩⟩
    · try simp (disch := omega) only [li_0, li_1, li_2, li_3, li_4, li_5, li_6, li_7, li_8, li_9, li_10, li_20, li_30, li_82, li_91, li_273, li_380, li_400, li_512, li_1000, li_2457, li_4000, nI_add, nI_1, nI_mul, nI_sub, shl_1, shl_1b, nI_leP, nI_ltP, nI_eqP, Nat.not_le, Nat.not_lt] at c_3
      exact Ok.ret ⟨rfl, ⟨(by first | rfl | assumption | decide), (by first | exact True.intro | exact Or.inl rfl | exact Or.inr (by first | assumption | exact ⟨_, by omega, rfl⟩ | exact ⟨⟨_, by omega, rfl⟩, ⟨_, by omega, rfl⟩⟩))⟩⟩
set_option maxHeartbeats 4000000 in
set_option maxRecDepth 100000 in
theorem rX11_isBounded {t : St} (hT : TY t) {a : Int32} : Ok (FX11_isBounded a t) (fun r u => t = u ∧ (isb r = true ∧ (True))) := by
  unfold FX11_isBounded
  refine Ok.ite (fun c_1 => ?_) (fun c_1 => ?_)
  · try simp (disch := omega) only [li_0, li_1, li_2, li_3, li_4, li_5, li_6, li_7, li_8, li_9, li_10, li_20, li_30, li_82, li_91, li_273, li_380, li_400, li_512, li_1000, li_2457, li_4000, nI_add, nI_1, nI_mul, nI_sub, shl_1, shl_1b, nI_leP, nI_ltP, nI_eqP, Nat.not_le, Nat.not_lt] at c_1
    exact Ok.ret ⟨rfl, ⟨(by first | rfl | assumption | decide), (by first | exact True.intro | exact Or.inl rfl | exact Or.inr (by first | assumption | exact ⟨_, by omega, rfl⟩ | exact ⟨⟨_, by omega, rfl⟩, ⟨_, by omega, rfl⟩⟩))⟩⟩
  · try simp (disch := omega) only [li_0, li_1, li_2, li_3, li_4, li_5, li_6, li_7, li_8, li_9, li_10, li_20, li_30, li_82, li_91, li_273, li_380, li_400, li_512, li_1000, li_2457, li_4000, nI_add, nI_1, nI_mul, nI_sub, shl_1, shl_1b, nI_leP, nI_ltP, nI_eqP, Nat.not_le, Nat.not_lt] at c_1
    refine Ok.ite (fun c_2 => ?_) (fun c_2 => ?_)
    · try simp (disch := omega) only [li_0, li_1, li_2, li_3, li_4, li_5, li_6, li_7, li_8, li_9, li_10, li_20, li_30, li_82, li_91, li_273, li_380, li_400, li_512, li_1000, li_2457, li_4000, nI_add, nI_1, nI_mul, nI_sub, shl_1, shl_1b, nI_leP, nI_ltP, nI_eqP, Nat.not_le, Nat.not_lt] at c_2
      exact Ok.ret ⟨rfl, ⟨(by first | rfl | assumption | decide), (by first | exact True.intro | exact Or.inl rfl | exact Or.inr (by first | assumption | exact ⟨_, by omega, rfl⟩ | exact ⟨⟨_, by omega, rfl⟩, ⟨_, by omega, rfl⟩⟩))⟩⟩
    · try simp (disch := omega) only [li_0, li_1, li_2, li_3, li_4, li_5, li_6, li_7, li_8, li_9, li_10, li_20, li_30, li_82, li_91, li_273, li_380, li_400, li_512, li_1000, li_2457, li_4000, nI_add, nI_1, nI_mul, nI_sub, shl_1, shl_1b, nI_leP, nI_ltP, nI_eqP, Nat.not_le, Nat.not_lt] at c_2
      refine Ok.ite (fun c_3 => ?_) (fun c_3 => ?_)
      · try simp (disch := omega) only [li_0, li_1, li_2, li_3, li_4, li_5, li_6, li_7, li_8, li_9, li_10, li_20, li_30, li_82, li_91, li_273, li_380, li_400, li_512, li_1000, li_2457, li_4000, nI_add, nI_1, nI_mul, nI_sub, shl_1, shl_1b, nI_leP, nI_ltP, nI_eqP, Nat.not_le, Nat.not_lt] at c_3
        exact Ok.ret ⟨rfl, ⟨(by first | rfl | assumption | decide), (by first | exact True.intro | exact Or.inl rfl | exact Or.inr (by first | assumption | exact ⟨_, by omega, rfl⟩ | exact ⟨⟨_, by omega, rfl⟩, ⟨_, by omega, rfl⟩⟩))⟩⟩
      · try simp (disch := omega) only [li_0, li_1, li_2, li_3, li_4, li_5, li_6, li_7, li_8, li_9, li_10, li_20, li_30, li_82, li_91, li_273, li_380, li_400, li_512, li_1000, li_2457, li_4000, nI_add, nI_1, nI_mul, nI_sub, shl_1, shl_1b, nI_leP, nI_ltP, nI_eqP, Nat.not_le, Nat.not_lt] at c_3
        refine Ok.ite (fun c_4 => ?_) (fun c_4 => ?_)
        · try simp (disch := omega) only [li_0, li_1, li_2, li_3, li_4, li_5, li_6, li_7, li_8, li_9, li_10, li_20, li_30, li_82, li_91, li_273, li_380, li_400, li_512, li_1000, li_2457, li_4000, nI_add, nI_1, nI_mul, nI_sub, shl_1, shl_1b, nI_leP, nI_ltP, nI_eqP, Nat.not_le, Nat.not_lt] at c_4
          exact Ok.ret ⟨rfl, ⟨(by first | rfl | assumption | decide), (by first | exact True.intro | exact Or.inl rfl | exact Or.inr (by first | assumption | exact ⟨_, by omega, rfl⟩ | exact ⟨⟨_, by omega, rfl⟩, ⟨_, by omega, rfl⟩⟩))⟩⟩
        · try simp (disch := omega) only [li_0, li_1, li_2, li_3, li_4, li_5, li_6, li_7, li_8, li_9, li_10, li_20, li_30, li_82, li_91, li_273, li_380, li_400, li_512, li_1000, li_2457, li_4000, nI_add, nI_1, nI_mul, nI_sub, shl_1, shl_1b, nI_leP, nI_ltP, nI_eqP, Nat.not_le, Nat.not_lt] at c_4
          exact Ok.ret ⟨rfl, ⟨(by first | rfl | assumption | decide), (by first | exact True.intro | exact Or.inl rfl | exact Or.inr (by first | assumption | exact ⟨_, by omega, rfl⟩ | exact ⟨⟨_, by omega, rfl⟩, ⟨_, by omega, rfl⟩⟩))⟩⟩
set_option maxHeartbeats 4000000 in
set_option maxRecDepth 100000 in
theorem rSX11_filledSlots_4 {t : St} (hT : TY t) {a0 : Int32} {a1 : Int32} (h_a1 : IsR 5001 a1) : Ok (wh (SX11_filledSlots_4) (a0, a1) t) (fun r u => t = u ∧ (True)) := by
  obtain ⟨j0, hj0, rfl⟩ := h_a1
  refine Ok.loop (fun k c s => t = s ∧ (∃ j, c.2 = nI j ∧ j ≤ 5000 ∧ 0 ≤ j ∧ k = 5000 - j)) ?_ (5000 - j0) _ _ ⟨rfl, ⟨j0, rfl, by omega, by omega, rfl⟩⟩
  clear hj0
  intro k c s hI
  obtain ⟨rfl, ⟨j, ej, hj, hlo, rfl⟩⟩ := hI
  obtain ⟨c0, c1⟩ := c
  dsimp only at ej
  subst ej
  unfold SX11_filledSlots_4
  dsimp only
  refine Ok.ite (fun c_1 => ?_) (fun c_1 => ?_)
  · try simp (disch := omega) only [li_0, li_1, li_2, li_3, li_4, li_5, li_6, li_7, li_8, li_9, li_10, li_20, li_30, li_82, li_91, li_273, li_380, li_400, li_512, li_1000, li_2457, li_4000, nI_add, nI_1, nI_mul, nI_sub, shl_1, shl_1b, nI_leP, nI_ltP, nI_eqP, Nat.not_le, Nat.not_lt] at c_1
    exact Ok.ret ⟨rfl, True.intro⟩
  · try simp (disch := omega) only [li_0, li_1, li_2, li_3, li_4, li_5, li_6, li_7, li_8, li_9, li_10, li_20, li_30, li_82, li_91, li_273, li_380, li_400, li_512, li_1000, li_2457, li_4000, nI_add, nI_1, nI_mul, nI_sub, shl_1, shl_1b, nI_leP, nI_ltP, nI_eqP, Nat.not_le, Nat.not_lt] at c_1
    refine Ok.ck (by first | (simp (disch := omega) only [li_0, li_1, li_2, li_3, li_4, li_5, li_6, li_7, li_8, li_9, li_10, li_20, li_30, li_82, li_91, li_273, li_380, li_400, li_512, li_1000, li_2457, li_4000, nI_add, nI_1, nI_mul, nI_sub, shl_1, shl_1b, nI_or, nI_xor, nI_and]; with_reducible exact inb_n (by first | omega | exact or9 (by omega) (by omega) | exact xor9 (by omega) (by omega)) (by omega)) | with_reducible exact inb_n (by omega) (by omega) | exact IsR.ib (by with_reducible assumption) (by decide) | decide) (fun g_2 => ?_)
    refine Ok.ck (by first | assumption | exact el_10 (by first | with_reducible assumption | (simp (disch := omega) only [li_0, li_1, li_2, li_3, li_4, li_5, li_6, li_7, li_8, li_9, li_10, li_20, li_30, li_82, li_91, li_273, li_380, li_400, li_512, li_1000, li_2457, li_4000, nI_add, nI_1, nI_mul, nI_sub, shl_1, shl_1b, nI_or, nI_xor, nI_and]; with_reducible exact ⟨_, (by first | omega | exact or9 (by omega) (by omega) | exact xor9 (by omega) (by omega)), rfl⟩) | with_reducible exact ⟨_, (by first | omega | exact or9 (by omega) (by omega) | exact xor9 (by omega) (by omega)), rfl⟩ | exact IsR.mn (by first | with_reducible assumption | exact ⟨_, by omega, rfl⟩) (by first | with_reducible assumption | exact ⟨_, by omega, rfl⟩) | exact IsR.mx (by first | with_reducible assumption | exact ⟨_, by omega, rfl⟩) (by first | with_reducible assumption | exact ⟨_, by omega, rfl⟩) | with_reducible exact mn9 (by omega) | (simp (disch := omega) only [li_0, li_1, li_2, li_3, li_4, li_5, li_6, li_7, li_8, li_9, li_10, li_20, li_30, li_82, li_91, li_273, li_380, li_400, li_512, li_1000, li_2457, li_4000, nI_add, nI_1, nI_mul, nI_sub, shl_1, shl_1b]; with_reducible exact mn9b (by omega)))) (fun g_3 => ?_)
    refine Ok.rdT hT (ty_n0 g_3) (by omega) (fun k_4 hk_4 ek_4 => ?_)
    refine Ok.bd (fun (v7 : Int32) t8 => t = t8 ∧ (True)) ?_ ?_
    · refine Ok.ite (fun c_5 => ?_) (fun c_5 => ?_)
      · try simp (disch := omega) only [li_0, li_1, li_2, li_3, li_4, li_5, li_6, li_7, li_8, li_9, li_10, li_20, li_30, li_82, li_91, li_273, li_380, li_400, li_512, li_1000, li_2457, li_4000, nI_add, nI_1, nI_mul, nI_sub, shl_1, shl_1b, nI_leP, nI_ltP, nI_eqP, Nat.not_le, Nat.not_lt] at c_5
        exact Ok.ret ⟨rfl, True.intro⟩
      · try simp (disch := omega) only [li_0, li_1, li_2, li_3, li_4, li_5, li_6, li_7, li_8, li_9, li_10, li_20, li_30, li_82, li_91, li_273, li_380, li_400, li_512, li_1000, li_2457, li_4000, nI_add, nI_1, nI_mul, nI_sub, shl_1, shl_1b, nI_leP, nI_ltP, nI_eqP, Nat.not_le, Nat.not_lt] at c_5
        exact Ok.ret ⟨rfl, True.intro⟩
    · intro v7 t8 hx
      obtain ⟨rfl, hxv7⟩ := hx
      exact Ok.ret ⟨5000 - (j + 1), by omega, rfl, ⟨j + 1, nI_1 j, by omega, by omega, rfl⟩⟩
set_option maxHeartbeats 4000000 in
set_option maxRecDepth 100000 in
theorem rX11_filledSlots {t : St} (hT : TY t) : Ok (FX11_filledSlots t) (fun r u => t = u ∧ (True)) := by
  unfold FX11_filledSlots
  refine Ok.bd _ (rSX11_filledSlots_4 hT (by show IsR 5001 _; first | with_reducible assumption | (simp (disch := omega) only [li_0, li_1, li_2, li_3, li_4, li_5, li_6, li_7, li_8, li_9, li_10, li_20, li_30, li_82, li_91, li_273, li_380, li_400, li_512, li_1000, li_2457, li_4000, nI_add, nI_1, nI_mul, nI_sub, shl_1, shl_1b, nI_or, nI_xor, nI_and]; with_reducible exact ⟨_, (by first | omega | exact or9 (by omega) (by omega) | exact xor9 (by omega) (by omega)), rfl⟩) | with_reducible exact ⟨_, (by first | omega | exact or9 (by omega) (by omega) | exact xor9 (by omega) (by omega)), rfl⟩ | exact IsR.mn (by first | with_reducible assumption | exact ⟨_, by omega, rfl⟩) (by first | with_reducible assumption | exact ⟨_, by omega, rfl⟩) | exact IsR.mx (by first | with_reducible assumption | exact ⟨_, by omega, rfl⟩) (by first | with_reducible assumption | exact ⟨_, by omega, rfl⟩) | with_reducible exact mn9 (by omega) | (simp (disch := omega) only [li_0, li_1, li_2, li_3, li_4, li_5, li_6, li_7, li_8, li_9, li_10, li_20, li_30, li_82, li_91, li_273, li_380, li_400, li_512, li_1000, li_2457, li_4000, nI_add, nI_1, nI_mul, nI_sub, shl_1, shl_1b]; with_reducible exact mn9b (by omega)))) ?_
  rintro e11 _ ⟨rfl, hxe11⟩
  exact Ok.ret ⟨rfl, True.intro⟩
set_option maxHeartbeats 4000000 in
set_option maxRecDepth 100000 in
theorem rX11_count {t : St} (hT : TY t) {a : Int32} : Ok (FX11_count a t) (fun r u => t = u ∧ (True)) := by
  unfold FX11_count
  refine Ok.ite (fun c_1 => ?_) (fun c_1 => ?_)
  · try simp (disch := omega) only [li_0, li_1, li_2, li_3, li_4, li_5, li_6, li_7, li_8, li_9, li_10, li_20, li_30, li_82, li_91, li_273, li_380, li_400, li_512, li_1000, li_2457, li_4000, nI_add, nI_1, nI_mul, nI_sub, shl_1, shl_1b, nI_leP, nI_ltP, nI_eqP, Nat.not_le, Nat.not_lt] at c_1
    refine Ok.bd _ (rX11_filledSlots hT) ?_
    rintro v2 _ ⟨rfl, hxv2⟩
    exact Ok.ret ⟨rfl, True.intro⟩
  · try simp (disch := omega) only [li_0, li_1, li_2, li_3, li_4, li_5, li_6, li_7, li_8, li_9, li_10, li_20, li_30, li_82, li_91, li_273, li_380, li_400, li_512, li_1000, li_2457, li_4000, nI_add, nI_1, nI_mul, nI_sub, shl_1, shl_1b, nI_leP, nI_ltP, nI_eqP, Nat.not_le, Nat.not_lt] at c_1
    refine Ok.ite (fun c_3 => ?_) (fun c_3 => ?_)
    · try simp (disch := omega) only [li_0, li_1, li_2, li_3, li_4, li_5, li_6, li_7, li_8, li_9, li_10, li_20, li_30, li_82, li_91, li_273, li_380, li_400, li_512, li_1000, li_2457, li_4000, nI_add, nI_1, nI_mul, nI_sub, shl_1, shl_1b, nI_leP, nI_ltP, nI_eqP, Nat.not_le, Nat.not_lt] at c_3
      refine Ok.rdT hT ty_980 (by omega) (fun k_4 hk_4 ek_4 => ?_)
      exact Ok.ret ⟨rfl, True.intro⟩
    · try simp (disch := omega) only [li_0, li_1, li_2, li_3, li_4, li_5, li_6, li_7, li_8, li_9, li_10, li_20, li_30, li_82, li_91, li_273, li_380, li_400, li_512, li_1000, li_2457, li_4000, nI_add, nI_1, nI_mul, nI_sub, shl_1, shl_1b, nI_leP, nI_ltP, nI_eqP, Nat.not_le, Nat.not_lt] at c_3
      refine Ok.ite (fun c_5 => ?_) (fun c_5 => ?_)
      · try simp (disch := omega) only [li_0, li_1, li_2, li_3, li_4, li_5, li_6, li_7, li_8, li_9, li_10, li_20, li_30, li_82, li_91, li_273, li_380, li_400, li_512, li_1000, li_2457, li_4000, nI_add, nI_1, nI_mul, nI_sub, shl_1, shl_1b, nI_leP, nI_ltP, nI_eqP, Nat.not_le, Nat.not_lt] at c_5
        refine Ok.rdT hT ty_11 (by omega) (fun k_6 hk_6 ek_6 => ?_)
        exact Ok.ret ⟨rfl, True.intro⟩
      · try simp (disch := omega) only [li_0, li_1, li_2, li_3, li_4, li_5, li_6, li_7, li_8, li_9, li_10, li_20, li_30, li_82, li_91, li_273, li_380, li_400, li_512, li_1000, li_2457, li_4000, nI_add, nI_1, nI_mul, nI_sub, shl_1, shl_1b, nI_leP, nI_ltP, nI_eqP, Nat.not_le, Nat.not_lt] at c_5
        refine Ok.ite (fun c_7 => ?_) (fun c_7 => ?_)
        · try simp (disch := omega) only [li_0, li_1, li_2, li_3, li_4, li_5, li_6, li_7, li_8, li_9, li_10, li_20, li_30, li_82, li_91, li_273, li_380, li_400, li_512, li_1000, li_2457, li_4000, nI_add, nI_1, nI_mul, nI_sub, shl_1, shl_1b, nI_leP, nI_ltP, nI_eqP, Nat.not_le, Nat.not_lt] at c_7
          refine Ok.rdT hT ty_31 (by omega) (fun k_8 hk_8 ek_8 => ?_)
          exact Ok.ret ⟨rfl, True.intro⟩
        · try simp (disch := omega) only [li_0, li_1, li_2, li_3, li_4, li_5, li_6, li_7, li_8, li_9, li_10, li_20, li_30, li_82, li_91, li_273, li_380, li_400, li_512, li_1000, li_2457, li_4000, nI_add, nI_1, nI_mul, nI_sub, shl_1, shl_1b, nI_leP, nI_ltP, nI_eqP, Nat.not_le, Nat.not_lt] at c_7
          exact Ok.ret ⟨rfl, True.intro⟩
set_option maxHeartbeats 4000000 in
set_option maxRecDepth 100000 in
theorem rX11_fault {t : St} (hT : TY t) {a : Int32} : Ok (FX11_fault a t) (fun r u => t = u ∧ (True)) := by
  unfold FX11_fault
  refine Ok.ite (fun c_1 => ?_) (fun c_1 => ?_)
  · try simp (disch := omega) only [li_0, li_1, li_2, li_3, li_4, li_5, li_6, li_7, li_8, li_9, li_10, li_20, li_30, li_82, li_91, li_273, li_380, li_400, li_512, li_1000, li_2457, li_4000, nI_add, nI_1, nI_mul, nI_sub, shl_1, shl_1b, nI_leP, nI_ltP, nI_eqP, Nat.not_le, Nat.not_lt] at c_1
    refine Ok.rd (fun v7 hv7 => ?_)
    exact Ok.ret ⟨rfl, True.intro⟩
  · try simp (disch := omega) only [li_0, li_1, li_2, li_3, li_4, li_5, li_6, li_7, li_8, li_9, li_10, li_20, li_30, li_82, li_91, li_273, li_380, li_400, li_512, li_1000, li_2457, li_4000, nI_add, nI_1, nI_mul, nI_sub, shl_1, shl_1b, nI_leP, nI_ltP, nI_eqP, Nat.not_le, Nat.not_lt] at c_1
    refine Ok.ite (fun c_2 => ?_) (fun c_2 => ?_)
    · try simp (disch := omega) only [li_0, li_1, li_2, li_3, li_4, li_5, li_6, li_7, li_8, li_9, li_10, li_20, li_30, li_82, li_91, li_273, li_380, li_400, li_512, li_1000, li_2457, li_4000, nI_add, nI_1, nI_mul, nI_sub, shl_1, shl_1b, nI_leP, nI_ltP, nI_eqP, Nat.not_le, Nat.not_lt] at c_2
      refine Ok.rd (fun v4 hv4 => ?_)
      exact Ok.ret ⟨rfl, True.intro⟩
    · try simp (disch := omega) only [li_0, li_1, li_2, li_3, li_4, li_5, li_6, li_7, li_8, li_9, li_10, li_20, li_30, li_82, li_91, li_273, li_380, li_400, li_512, li_1000, li_2457, li_4000, nI_add, nI_1, nI_mul, nI_sub, shl_1, shl_1b, nI_leP, nI_ltP, nI_eqP, Nat.not_le, Nat.not_lt] at c_2
      exact Ok.ret ⟨rfl, True.intro⟩
set_option maxHeartbeats 4000000 in
set_option maxRecDepth 100000 in
theorem rX11_octet {t : St} (hT : TY t) {a : Int32} : Ok (FX11_octet a t) (fun r u => t = u ∧ (True)) := by
  unfold FX11_octet
  refine Ok.bd _ (rX1_at_3 hT) ?_
  rintro v1 _ ⟨rfl, hxv1⟩
  exact Ok.ret ⟨rfl, True.intro⟩
set_option maxHeartbeats 4000000 in
set_option maxRecDepth 100000 in
theorem rX11_look {t : St} (hT : TY t) {a : Int32} {b : Int32} : Ok (FX11_look a b t) (fun r u => t = u ∧ (True)) := by
  unfold FX11_look
  refine Ok.bd _ (rX11_netIn hT) ?_
  rintro v1 _ ⟨rfl, hxv1⟩
  rcases v1 with _ | x4
  · refine Ok.on ?_
    exact Ok.ret ⟨rfl, True.intro⟩
  · refine Ok.os ?_
    obtain ⟨hnx, ⟨ka, hka, rfl⟩, hpx, hlx, hex⟩ := hxv1 x4 rfl
    refine Ok.ck (by first | assumption | decide +kernel) (fun g_2 => ?_)
    refine Ok.ite (fun c_3 => ?_) (fun c_3 => ?_)
    · try simp (disch := omega) only [li_0, li_1, li_2, li_3, li_4, li_5, li_6, li_7, li_8, li_9, li_10, li_20, li_30, li_82, li_91, li_273, li_380, li_400, li_512, li_1000, li_2457, li_4000, nI_add, nI_1, nI_mul, nI_sub, shl_1, shl_1b, nI_leP, nI_ltP, nI_eqP, Nat.not_le, Nat.not_lt] at c_3
      refine Ok.rdT hT (ty_n0 g_2) (by omega) (fun k_4 hk_4 ek_4 => ?_)
      exact Ok.ret ⟨rfl, True.intro⟩
    · try simp (disch := omega) only [li_0, li_1, li_2, li_3, li_4, li_5, li_6, li_7, li_8, li_9, li_10, li_20, li_30, li_82, li_91, li_273, li_380, li_400, li_512, li_1000, li_2457, li_4000, nI_add, nI_1, nI_mul, nI_sub, shl_1, shl_1b, nI_leP, nI_ltP, nI_eqP, Nat.not_le, Nat.not_lt] at c_3
      refine Ok.ite (fun c_5 => ?_) (fun c_5 => ?_)
      · try simp (disch := omega) only [li_0, li_1, li_2, li_3, li_4, li_5, li_6, li_7, li_8, li_9, li_10, li_20, li_30, li_82, li_91, li_273, li_380, li_400, li_512, li_1000, li_2457, li_4000, nI_add, nI_1, nI_mul, nI_sub, shl_1, shl_1b, nI_leP, nI_ltP, nI_eqP, Nat.not_le, Nat.not_lt] at c_5
        refine Ok.rd (fun v12 hv12 => ?_)
        exact Ok.ret ⟨rfl, True.intro⟩
      · try simp (disch := omega) only [li_0, li_1, li_2, li_3, li_4, li_5, li_6, li_7, li_8, li_9, li_10, li_20, li_30, li_82, li_91, li_273, li_380, li_400, li_512, li_1000, li_2457, li_4000, nI_add, nI_1, nI_mul, nI_sub, shl_1, shl_1b, nI_leP, nI_ltP, nI_eqP, Nat.not_le, Nat.not_lt] at c_5
        refine Ok.ite (fun c_6 => ?_) (fun c_6 => ?_)
        · try simp (disch := omega) only [li_0, li_1, li_2, li_3, li_4, li_5, li_6, li_7, li_8, li_9, li_10, li_20, li_30, li_82, li_91, li_273, li_380, li_400, li_512, li_1000, li_2457, li_4000, nI_add, nI_1, nI_mul, nI_sub, shl_1, shl_1b, nI_leP, nI_ltP, nI_eqP, Nat.not_le, Nat.not_lt] at c_6
          refine Ok.bd _ (rX10_wholeWeight hT (by first | assumption | decide +kernel)) ?_
          rintro v16 _ ⟨rfl, hxv16⟩
          exact Ok.ret ⟨rfl, True.intro⟩
        · try simp (disch := omega) only [li_0, li_1, li_2, li_3, li_4, li_5, li_6, li_7, li_8, li_9, li_10, li_20, li_30, li_82, li_91, li_273, li_380, li_400, li_512, li_1000, li_2457, li_4000, nI_add, nI_1, nI_mul, nI_sub, shl_1, shl_1b, nI_leP, nI_ltP, nI_eqP, Nat.not_le, Nat.not_lt] at c_6
          refine Ok.ite (fun c_8 => ?_) (fun c_8 => ?_)
          · try simp (disch := omega) only [li_0, li_1, li_2, li_3, li_4, li_5, li_6, li_7, li_8, li_9, li_10, li_20, li_30, li_82, li_91, li_273, li_380, li_400, li_512, li_1000, li_2457, li_4000, nI_add, nI_1, nI_mul, nI_sub, shl_1, shl_1b, nI_leP, nI_ltP, nI_eqP, Nat.not_le, Nat.not_lt] at c_8
            refine Ok.bd _ (rX10_mostLinesAtPoint hT (by first | assumption | decide +kernel)) ?_
            rintro v21 _ ⟨rfl, hxv21⟩
            exact Ok.ret ⟨rfl, True.intro⟩
          · try simp (disch := omega) only [li_0, li_1, li_2, li_3, li_4, li_5, li_6, li_7, li_8, li_9, li_10, li_20, li_30, li_82, li_91, li_273, li_380, li_400, li_512, li_1000, li_2457, li_4000, nI_add, nI_1, nI_mul, nI_sub, shl_1, shl_1b, nI_leP, nI_ltP, nI_eqP, Nat.not_le, Nat.not_lt] at c_8
            refine Ok.ite (fun c_10 => ?_) (fun c_10 => ?_)
            · try simp (disch := omega) only [li_0, li_1, li_2, li_3, li_4, li_5, li_6, li_7, li_8, li_9, li_10, li_20, li_30, li_82, li_91, li_273, li_380, li_400, li_512, li_1000, li_2457, li_4000, nI_add, nI_1, nI_mul, nI_sub, shl_1, shl_1b, nI_leP, nI_ltP, nI_eqP, Nat.not_le, Nat.not_lt] at c_10
              refine Ok.bd _ (rX10_partCount hT (by first | assumption | decide +kernel)) ?_
              rintro v26 _ ⟨rfl, hxv26⟩
              exact Ok.ret ⟨rfl, True.intro⟩
            · try simp (disch := omega) only [li_0, li_1, li_2, li_3, li_4, li_5, li_6, li_7, li_8, li_9, li_10, li_20, li_30, li_82, li_91, li_273, li_380, li_400, li_512, li_1000, li_2457, li_4000, nI_add, nI_1, nI_mul, nI_sub, shl_1, shl_1b, nI_leP, nI_ltP, nI_eqP, Nat.not_le, Nat.not_lt] at c_10
              refine Ok.ite (fun c_12 => ?_) (fun c_12 => ?_)
              · try simp (disch := omega) only [li_0, li_1, li_2, li_3, li_4, li_5, li_6, li_7, li_8, li_9, li_10, li_20, li_30, li_82, li_91, li_273, li_380, li_400, li_512, li_1000, li_2457, li_4000, nI_add, nI_1, nI_mul, nI_sub, shl_1, shl_1b, nI_leP, nI_ltP, nI_eqP, Nat.not_le, Nat.not_lt] at c_12
                refine Ok.bd _ (rX10_diameter hT (by first | assumption | decide +kernel)) ?_
                rintro v31 _ ⟨rfl, hxv31⟩
                exact Ok.ret ⟨rfl, True.intro⟩
              · try simp (disch := omega) only [li_0, li_1, li_2, li_3, li_4, li_5, li_6, li_7, li_8, li_9, li_10, li_20, li_30, li_82, li_91, li_273, li_380, li_400, li_512, li_1000, li_2457, li_4000, nI_add, nI_1, nI_mul, nI_sub, shl_1, shl_1b, nI_leP, nI_ltP, nI_eqP, Nat.not_le, Nat.not_lt] at c_12
                refine Ok.ite (fun c_14 => ?_) (fun c_14 => ?_)
                · try simp (disch := omega) only [li_0, li_1, li_2, li_3, li_4, li_5, li_6, li_7, li_8, li_9, li_10, li_20, li_30, li_82, li_91, li_273, li_380, li_400, li_512, li_1000, li_2457, li_4000, nI_add, nI_1, nI_mul, nI_sub, shl_1, shl_1b, nI_leP, nI_ltP, nI_eqP, Nat.not_le, Nat.not_lt] at c_14
                  refine Ok.bd _ (rX10_core hT (by first | assumption | decide +kernel)) ?_
                  rintro v36 _ ⟨rfl, hxv36⟩
                  exact Ok.ret ⟨rfl, True.intro⟩
                · try simp (disch := omega) only [li_0, li_1, li_2, li_3, li_4, li_5, li_6, li_7, li_8, li_9, li_10, li_20, li_30, li_82, li_91, li_273, li_380, li_400, li_512, li_1000, li_2457, li_4000, nI_add, nI_1, nI_mul, nI_sub, shl_1, shl_1b, nI_leP, nI_ltP, nI_eqP, Nat.not_le, Nat.not_lt] at c_14
                  exact Ok.ret ⟨rfl, True.intro⟩
set_option maxHeartbeats 4000000 in
set_option maxRecDepth 100000 in
theorem rX11_near {t : St} (hT : TY t) {a : Int32} {b : Int32} : Ok (FX11_near a b t) (fun r u => t = u ∧ (True)) := by
  unfold FX11_near
  refine Ok.bd _ (rX11_netIn hT) ?_
  rintro v1 _ ⟨rfl, hxv1⟩
  rcases v1 with _ | x4
  · refine Ok.on ?_
    exact Ok.ret ⟨rfl, True.intro⟩
  · refine Ok.os ?_
    obtain ⟨hnx, ⟨ka, hka, rfl⟩, hpx, hlx, hex⟩ := hxv1 x4 rfl
    refine Ok.ck (by first | assumption | decide +kernel) (fun g_2 => ?_)
    refine Ok.bd _ (rX5_has hT (by first | assumption | decide +kernel)) ?_
    rintro v7 _ ⟨rfl, hbv7, hxv7⟩
    refine Ok.ite (fun c_4 => ?_) (fun c_4 => ?_)
    · skip
      exact Ok.ret ⟨rfl, True.intro⟩
    · obtain ⟨khv7, hkhv7, rfl⟩ := hxv7.resolve_left c_4
      refine Ok.ck (by first | (simp (disch := omega) only [li_0, li_1, li_2, li_3, li_4, li_5, li_6, li_7, li_8, li_9, li_10, li_20, li_30, li_82, li_91, li_273, li_380, li_400, li_512, li_1000, li_2457, li_4000, nI_add, nI_1, nI_mul, nI_sub, shl_1, shl_1b, nI_or, nI_xor, nI_and]; with_reducible exact inb_n (by first | omega | exact or9 (by omega) (by omega) | exact xor9 (by omega) (by omega)) (by omega)) | with_reducible exact inb_n (by omega) (by omega) | exact IsR.ib (by with_reducible assumption) (by decide) | decide) (fun g_5 => ?_)
      refine Ok.rd (fun v12 hv12 => ?_)
      exact Ok.ret ⟨rfl, True.intro⟩
set_option maxHeartbeats 4000000 in
set_option maxRecDepth 100000 in
theorem rX11_line {t : St} (hT : TY t) {a : Int32} {b : Int32} {c : Int32} : Ok (FX11_line a b c t) (fun r u => t = u ∧ (True)) := by
  unfold FX11_line
  refine Ok.bd _ (rX11_netIn hT) ?_
  rintro v1 _ ⟨rfl, hxv1⟩
  rcases v1 with _ | x4
  · refine Ok.on ?_
    exact Ok.ret ⟨rfl, True.intro⟩
  · refine Ok.os ?_
    obtain ⟨hnx, ⟨ka, hka, rfl⟩, hpx, hlx, hex⟩ := hxv1 x4 rfl
    refine Ok.ck (by first | assumption | decide +kernel) (fun g_2 => ?_)
    refine Ok.bd _ (rX5_has hT (by first | assumption | decide +kernel)) ?_
    rintro v7 _ ⟨rfl, hbv7, hxv7⟩
    refine Ok.ite (fun c_4 => ?_) (fun c_4 => ?_)
    · skip
      exact Ok.ret ⟨rfl, True.intro⟩
    · obtain ⟨khv7, hkhv7, rfl⟩ := hxv7.resolve_left c_4
      refine Ok.bd _ (rX5_has hT (by first | assumption | decide +kernel)) ?_
      rintro v12 _ ⟨rfl, hbv12, hxv12⟩
      refine Ok.ite (fun c_6 => ?_) (fun c_6 => ?_)
      · skip
        exact Ok.ret ⟨rfl, True.intro⟩
      · obtain ⟨khv12, hkhv12, rfl⟩ := hxv12.resolve_left c_6
        refine Ok.bd _ (rX5_weightOf hT (by first | assumption | decide +kernel) (by first | with_reducible assumption | (simp (disch := omega) only [li_0, li_1, li_2, li_3, li_4, li_5, li_6, li_7, li_8, li_9, li_10, li_20, li_30, li_82, li_91, li_273, li_380, li_400, li_512, li_1000, li_2457, li_4000, nI_add, nI_1, nI_mul, nI_sub, shl_1, shl_1b, nI_or, nI_xor, nI_and]; with_reducible exact ⟨_, (by first | omega | exact or9 (by omega) (by omega) | exact xor9 (by omega) (by omega)), rfl⟩) | with_reducible exact ⟨_, (by first | omega | exact or9 (by omega) (by omega) | exact xor9 (by omega) (by omega)), rfl⟩ | exact IsR.mn (by first | with_reducible assumption | exact ⟨_, by omega, rfl⟩) (by first | with_reducible assumption | exact ⟨_, by omega, rfl⟩) | exact IsR.mx (by first | with_reducible assumption | exact ⟨_, by omega, rfl⟩) (by first | with_reducible assumption | exact ⟨_, by omega, rfl⟩) | with_reducible exact mn9 (by omega) | (simp (disch := omega) only [li_0, li_1, li_2, li_3, li_4, li_5, li_6, li_7, li_8, li_9, li_10, li_20, li_30, li_82, li_91, li_273, li_380, li_400, li_512, li_1000, li_2457, li_4000, nI_add, nI_1, nI_mul, nI_sub, shl_1, shl_1b]; with_reducible exact mn9b (by omega))) (by first | with_reducible assumption | (simp (disch := omega) only [li_0, li_1, li_2, li_3, li_4, li_5, li_6, li_7, li_8, li_9, li_10, li_20, li_30, li_82, li_91, li_273, li_380, li_400, li_512, li_1000, li_2457, li_4000, nI_add, nI_1, nI_mul, nI_sub, shl_1, shl_1b, nI_or, nI_xor, nI_and]; with_reducible exact ⟨_, (by first | omega | exact or9 (by omega) (by omega) | exact xor9 (by omega) (by omega)), rfl⟩) | with_reducible exact ⟨_, (by first | omega | exact or9 (by omega) (by omega) | exact xor9 (by omega) (by omega)), rfl⟩ | exact IsR.mn (by first | with_reducible assumption | exact ⟨_, by omega, rfl⟩) (by first | with_reducible assumption | exact ⟨_, by omega, rfl⟩) | exact IsR.mx (by first | with_reducible assumption | exact ⟨_, by omega, rfl⟩) (by first | with_reducible assumption | exact ⟨_, by omega, rfl⟩) | with_reducible exact mn9 (by omega) | (simp (disch := omega) only [li_0, li_1, li_2, li_3, li_4, li_5, li_6, li_7, li_8, li_9, li_10, li_20, li_30, li_82, li_91, li_273, li_380, li_400, li_512, li_1000, li_2457, li_4000, nI_add, nI_1, nI_mul, nI_sub, shl_1, shl_1b]; with_reducible exact mn9b (by omega)))) ?_
        rintro _ _ ⟨rfl, kv16, hv16, rfl⟩
        exact Ok.ret ⟨rfl, True.intro⟩
set_option maxHeartbeats 4000000 in
set_option maxRecDepth 100000 in
theorem rX11_far {t : St} (hT : TY t) {a : Int32} {b : Int32} {c : Int32} : Ok (FX11_far a b c t) (fun r u => t = u ∧ (True)) := by
  unfold FX11_far
  refine Ok.bd _ (rX11_netIn hT) ?_
  rintro v1 _ ⟨rfl, hxv1⟩
  rcases v1 with _ | x4
  · refine Ok.on ?_
    exact Ok.ret ⟨rfl, True.intro⟩
  · refine Ok.os ?_
    obtain ⟨hnx, ⟨ka, hka, rfl⟩, hpx, hlx, hex⟩ := hxv1 x4 rfl
    refine Ok.ck (by first | assumption | decide +kernel) (fun g_2 => ?_)
    refine Ok.bd _ (rX5_has hT (by first | assumption | decide +kernel)) ?_
    rintro v7 _ ⟨rfl, hbv7, hxv7⟩
    refine Ok.ite (fun c_4 => ?_) (fun c_4 => ?_)
    · skip
      exact Ok.ret ⟨rfl, True.intro⟩
    · obtain ⟨khv7, hkhv7, rfl⟩ := hxv7.resolve_left c_4
      refine Ok.bd _ (rX5_has hT (by first | assumption | decide +kernel)) ?_
      rintro v12 _ ⟨rfl, hbv12, hxv12⟩
      refine Ok.ite (fun c_6 => ?_) (fun c_6 => ?_)
      · skip
        exact Ok.ret ⟨rfl, True.intro⟩
      · obtain ⟨khv12, hkhv12, rfl⟩ := hxv12.resolve_left c_6
        refine Ok.bd _ (rX10_distance hT (by first | assumption | decide +kernel)) ?_
        rintro v16 _ ⟨rfl, hxv16⟩
        exact Ok.ret ⟨rfl, True.intro⟩
set_option maxHeartbeats 4000000 in
set_option maxRecDepth 100000 in
theorem rX11_row {t : St} (hT : TY t) {a : Int32} {b : Int32} : Ok (FX11_row a b t) (fun r u => t = u ∧ (True)) := by
  unfold FX11_row
  refine Ok.bd _ (rX11_netIn hT) ?_
  rintro v1 _ ⟨rfl, hxv1⟩
  rcases v1 with _ | x4
  · refine Ok.on ?_
    exact Ok.ret ⟨rfl, True.intro⟩
  · refine Ok.os ?_
    obtain ⟨hnx, ⟨ka, hka, rfl⟩, hpx, hlx, hex⟩ := hxv1 x4 rfl
    refine Ok.ck (by first | assumption | decide +kernel) (fun g_2 => ?_)
    refine Ok.bd _ (rX5_has hT (by first | assumption | decide +kernel)) ?_
    rintro v7 _ ⟨rfl, hbv7, hxv7⟩
    refine Ok.ite (fun c_4 => ?_) (fun c_4 => ?_)
    · skip
      exact Ok.ret ⟨rfl, True.intro⟩
    · obtain ⟨khv7, hkhv7, rfl⟩ := hxv7.resolve_left c_4
      refine Ok.ck (by first | (simp (disch := omega) only [li_0, li_1, li_2, li_3, li_4, li_5, li_6, li_7, li_8, li_9, li_10, li_20, li_30, li_82, li_91, li_273, li_380, li_400, li_512, li_1000, li_2457, li_4000, nI_add, nI_1, nI_mul, nI_sub, shl_1, shl_1b, nI_or, nI_xor, nI_and]; with_reducible exact inb_n (by first | omega | exact or9 (by omega) (by omega) | exact xor9 (by omega) (by omega)) (by omega)) | with_reducible exact inb_n (by omega) (by omega) | exact IsR.ib (by with_reducible assumption) (by decide) | decide) (fun g_5 => ?_)
      refine Ok.rdT hT (ty_od g_2 (inb_lt g_5)) (by omega) (fun k_6 hk_6 ek_6 => ?_)
      exact Ok.ret ⟨rfl, True.intro⟩
set_option maxHeartbeats 4000000 in
set_option maxRecDepth 100000 in
theorem rX11_place {t : St} (hT : TY t) {a : Int32} {b : Int32} : Ok (FX11_place a b t) (fun r u => t = u ∧ (True)) := by
  unfold FX11_place
  refine Ok.bd _ (rX11_netIn hT) ?_
  rintro v1 _ ⟨rfl, hxv1⟩
  rcases v1 with _ | x4
  · refine Ok.on ?_
    exact Ok.ret ⟨rfl, True.intro⟩
  · refine Ok.os ?_
    obtain ⟨hnx, ⟨ka, hka, rfl⟩, hpx, hlx, hex⟩ := hxv1 x4 rfl
    refine Ok.ck (by first | assumption | decide +kernel) (fun g_2 => ?_)
    refine Ok.bd _ (rX5_has hT (by first | assumption | decide +kernel)) ?_
    rintro v7 _ ⟨rfl, hbv7, hxv7⟩
    refine Ok.ite (fun c_4 => ?_) (fun c_4 => ?_)
    · skip
      exact Ok.ret ⟨rfl, True.intro⟩
    · obtain ⟨khv7, hkhv7, rfl⟩ := hxv7.resolve_left c_4
      refine Ok.bd _ (rX5_placeOf hT (by first | assumption | decide +kernel)) ?_
      rintro v11 _ ⟨rfl, hxv11⟩
      exact Ok.ret ⟨rfl, True.intro⟩
set_option maxHeartbeats 4000000 in
set_option maxRecDepth 100000 in
theorem rX11_value {t : St} (hT : TY t) {a : Int32} {b : Int32} : Ok (FX11_value a b t) (fun r u => t = u ∧ (True)) := by
  unfold FX11_value
  refine Ok.bd _ (rX11_netIn hT) ?_
  rintro v1 _ ⟨rfl, hxv1⟩
  rcases v1 with _ | x4
  · refine Ok.on ?_
    exact Ok.ret ⟨rfl, True.intro⟩
  · refine Ok.os ?_
    obtain ⟨hnx, ⟨ka, hka, rfl⟩, hpx, hlx, hex⟩ := hxv1 x4 rfl
    refine Ok.ck (by first | assumption | decide +kernel) (fun g_2 => ?_)
    refine Ok.bd _ (rX11_isMeasure hT) ?_
    rintro v7 _ ⟨rfl, hbv7, hxv7⟩
    refine Ok.ite (fun c_4 => ?_) (fun c_4 => ?_)
    · skip
      exact Ok.ret ⟨rfl, True.intro⟩
    · obtain ⟨kmv7, hkmv7, rfl⟩ := hxv7.resolve_left c_4
      refine Ok.bd _ (rX8_measured hT (by first | assumption | decide +kernel)) ?_
      rintro v11 _ ⟨rfl, hxv11⟩
      exact Ok.ret ⟨rfl, True.intro⟩
set_option maxHeartbeats 4000000 in
set_option maxRecDepth 100000 in
theorem rX11_price {t : St} (hT : TY t) {a : Int32} {b : Int32} {c : Int32} : Ok (FX11_price a b c t) (fun r u => t = u ∧ (True)) := by
  unfold FX11_price
  refine Ok.bd _ (rX11_netIn hT) ?_
  rintro v1 _ ⟨rfl, hxv1⟩
  rcases v1 with _ | x4
  · refine Ok.on ?_
    exact Ok.ret ⟨rfl, True.intro⟩
  · refine Ok.os ?_
    obtain ⟨hnx, ⟨ka, hka, rfl⟩, hpx, hlx, hex⟩ := hxv1 x4 rfl
    refine Ok.ck (by first | assumption | decide +kernel) (fun g_2 => ?_)
    refine Ok.bd _ (rX11_isPriced hT) ?_
    rintro v7 _ ⟨rfl, hbv7, hxv7⟩
    refine Ok.ite (fun c_4 => ?_) (fun c_4 => ?_)
    · try simp (disch := omega) only [li_0, li_1, li_2, li_3, li_4, li_5, li_6, li_7, li_8, li_9, li_10, li_20, li_30, li_82, li_91, li_273, li_380, li_400, li_512, li_1000, li_2457, li_4000, nI_add, nI_1, nI_mul, nI_sub, shl_1, shl_1b, nI_leP, nI_ltP, nI_eqP, Nat.not_le, Nat.not_lt] at c_4
      exact Ok.ret ⟨rfl, True.intro⟩
    · try simp (disch := omega) only [li_0, li_1, li_2, li_3, li_4, li_5, li_6, li_7, li_8, li_9, li_10, li_20, li_30, li_82, li_91, li_273, li_380, li_400, li_512, li_1000, li_2457, li_4000, nI_add, nI_1, nI_mul, nI_sub, shl_1, shl_1b, nI_leP, nI_ltP, nI_eqP, Nat.not_le, Nat.not_lt] at c_4
      refine Ok.bd _ (rX5_has hT (by first | assumption | decide +kernel)) ?_
      rintro v11 _ ⟨rfl, hbv11, hxv11⟩
      refine Ok.ite (fun c_6 => ?_) (fun c_6 => ?_)
      · skip
        exact Ok.ret ⟨rfl, True.intro⟩
      · obtain ⟨khv11, hkhv11, rfl⟩ := hxv11.resolve_left c_6
        refine Ok.bd _ (rX6_firstStep hT) ?_
        rintro _ _ ⟨rfl, kv16, hv16, rfl⟩
        refine Ok.ite (fun c_8 => ?_) (fun c_8 => ?_)
        · try simp (disch := omega) only [li_0, li_1, li_2, li_3, li_4, li_5, li_6, li_7, li_8, li_9, li_10, li_20, li_30, li_82, li_91, li_273, li_380, li_400, li_512, li_1000, li_2457, li_4000, nI_add, nI_1, nI_mul, nI_sub, shl_1, shl_1b, nI_leP, nI_ltP, nI_eqP, Nat.not_le, Nat.not_lt] at c_8
          refine Ok.bd _ (rX6_atPlace hT (by first | assumption | decide +kernel) (by first | with_reducible assumption | (simp (disch := omega) only [li_0, li_1, li_2, li_3, li_4, li_5, li_6, li_7, li_8, li_9, li_10, li_20, li_30, li_82, li_91, li_273, li_380, li_400, li_512, li_1000, li_2457, li_4000, nI_add, nI_1, nI_mul, nI_sub, shl_1, shl_1b, nI_or, nI_xor, nI_and]; with_reducible exact ⟨_, (by first | omega | exact or9 (by omega) (by omega) | exact xor9 (by omega) (by omega)), rfl⟩) | with_reducible exact ⟨_, (by first | omega | exact or9 (by omega) (by omega) | exact xor9 (by omega) (by omega)), rfl⟩ | exact IsR.mn (by first | with_reducible assumption | exact ⟨_, by omega, rfl⟩) (by first | with_reducible assumption | exact ⟨_, by omega, rfl⟩) | exact IsR.mx (by first | with_reducible assumption | exact ⟨_, by omega, rfl⟩) (by first | with_reducible assumption | exact ⟨_, by omega, rfl⟩) | with_reducible exact mn9 (by omega) | (simp (disch := omega) only [li_0, li_1, li_2, li_3, li_4, li_5, li_6, li_7, li_8, li_9, li_10, li_20, li_30, li_82, li_91, li_273, li_380, li_400, li_512, li_1000, li_2457, li_4000, nI_add, nI_1, nI_mul, nI_sub, shl_1, shl_1b]; with_reducible exact mn9b (by omega)))) ?_
          rintro v20 _ ⟨rfl, hxv20⟩
          exact Ok.ret ⟨rfl, True.intro⟩
        · try simp (disch := omega) only [li_0, li_1, li_2, li_3, li_4, li_5, li_6, li_7, li_8, li_9, li_10, li_20, li_30, li_82, li_91, li_273, li_380, li_400, li_512, li_1000, li_2457, li_4000, nI_add, nI_1, nI_mul, nI_sub, shl_1, shl_1b, nI_leP, nI_ltP, nI_eqP, Nat.not_le, Nat.not_lt] at c_8
          exact Ok.ret ⟨rfl, True.intro⟩
set_option maxHeartbeats 4000000 in
set_option maxRecDepth 100000 in
theorem rX11_longest {t : St} (hT : TY t) {a : Int32} : Ok (FX11_longest a t) (fun r u => t = u ∧ (True)) := by
  unfold FX11_longest
  refine Ok.bd _ (rX11_netIn hT) ?_
  rintro v1 _ ⟨rfl, hxv1⟩
  rcases v1 with _ | x4
  · refine Ok.on ?_
    exact Ok.ret ⟨rfl, True.intro⟩
  · refine Ok.os ?_
    obtain ⟨hnx, ⟨ka, hka, rfl⟩, hpx, hlx, hex⟩ := hxv1 x4 rfl
    refine Ok.ck (by first | assumption | decide +kernel) (fun g_2 => ?_)
    refine Ok.bd _ (rX8_longestLine hT (by first | assumption | decide +kernel)) ?_
    rintro v7 _ ⟨rfl, hxv7⟩
    exact Ok.ret ⟨rfl, True.intro⟩
set_option maxHeartbeats 4000000 in
set_option maxRecDepth 100000 in
theorem rX11_bound {t : St} (hT : TY t) {a : Int32} {b : Int32} {c : Int32} : Ok (FX11_bound a b c t) (fun r u => t = u ∧ (True)) := by
  unfold FX11_bound
  refine Ok.bd _ (rX11_netIn hT) ?_
  rintro v1 _ ⟨rfl, hxv1⟩
  rcases v1 with _ | x4
  · refine Ok.on ?_
    exact Ok.ret ⟨rfl, True.intro⟩
  · refine Ok.os ?_
    obtain ⟨hnx, ⟨ka, hka, rfl⟩, hpx, hlx, hex⟩ := hxv1 x4 rfl
    refine Ok.ck (by first | assumption | decide +kernel) (fun g_2 => ?_)
    refine Ok.bd _ (rX11_isBounded hT) ?_
    rintro v7 _ ⟨rfl, hbv7, hxv7⟩
    refine Ok.ite (fun c_4 => ?_) (fun c_4 => ?_)
    · try simp (disch := omega) only [li_0, li_1, li_2, li_3, li_4, li_5, li_6, li_7, li_8, li_9, li_10, li_20, li_30, li_82, li_91, li_273, li_380, li_400, li_512, li_1000, li_2457, li_4000, nI_add, nI_1, nI_mul, nI_sub, shl_1, shl_1b, nI_leP, nI_ltP, nI_eqP, Nat.not_le, Nat.not_lt] at c_4
      exact Ok.ret ⟨rfl, True.intro⟩
    · try simp (disch := omega) only [li_0, li_1, li_2, li_3, li_4, li_5, li_6, li_7, li_8, li_9, li_10, li_20, li_30, li_82, li_91, li_273, li_380, li_400, li_512, li_1000, li_2457, li_4000, nI_add, nI_1, nI_mul, nI_sub, shl_1, shl_1b, nI_leP, nI_ltP, nI_eqP, Nat.not_le, Nat.not_lt] at c_4
      refine Ok.ite (fun c_5 => ?_) (fun c_5 => ?_)
      · try simp (disch := omega) only [li_0, li_1, li_2, li_3, li_4, li_5, li_6, li_7, li_8, li_9, li_10, li_20, li_30, li_82, li_91, li_273, li_380, li_400, li_512, li_1000, li_2457, li_4000, nI_add, nI_1, nI_mul, nI_sub, shl_1, shl_1b, nI_leP, nI_ltP, nI_eqP, Nat.not_le, Nat.not_lt] at c_5
        refine Ok.ite (fun c_6 => ?_) (fun c_6 => ?_)
        · try simp (disch := omega) only [li_0, li_1, li_2, li_3, li_4, li_5, li_6, li_7, li_8, li_9, li_10, li_20, li_30, li_82, li_91, li_273, li_380, li_400, li_512, li_1000, li_2457, li_4000, nI_add, nI_1, nI_mul, nI_sub, shl_1, shl_1b, nI_leP, nI_ltP, nI_eqP, Nat.not_le, Nat.not_lt] at c_6
          refine Ok.bd _ (rX10_ballBound hT (by first | assumption | decide +kernel)) ?_
          rintro v25 _ ⟨rfl, hxv25⟩
          exact Ok.ret ⟨rfl, True.intro⟩
        · try simp (disch := omega) only [li_0, li_1, li_2, li_3, li_4, li_5, li_6, li_7, li_8, li_9, li_10, li_20, li_30, li_82, li_91, li_273, li_380, li_400, li_512, li_1000, li_2457, li_4000, nI_add, nI_1, nI_mul, nI_sub, shl_1, shl_1b, nI_leP, nI_ltP, nI_eqP, Nat.not_le, Nat.not_lt] at c_6
          refine Ok.ite (fun c_8 => ?_) (fun c_8 => ?_)
          · try simp (disch := omega) only [li_0, li_1, li_2, li_3, li_4, li_5, li_6, li_7, li_8, li_9, li_10, li_20, li_30, li_82, li_91, li_273, li_380, li_400, li_512, li_1000, li_2457, li_4000, nI_add, nI_1, nI_mul, nI_sub, shl_1, shl_1b, nI_leP, nI_ltP, nI_eqP, Nat.not_le, Nat.not_lt] at c_8
            refine Ok.bd _ (rX10_lineBound hT (by first | assumption | decide +kernel)) ?_
            rintro v21 _ ⟨rfl, hxv21⟩
            exact Ok.ret ⟨rfl, True.intro⟩
          · try simp (disch := omega) only [li_0, li_1, li_2, li_3, li_4, li_5, li_6, li_7, li_8, li_9, li_10, li_20, li_30, li_82, li_91, li_273, li_380, li_400, li_512, li_1000, li_2457, li_4000, nI_add, nI_1, nI_mul, nI_sub, shl_1, shl_1b, nI_leP, nI_ltP, nI_eqP, Nat.not_le, Nat.not_lt] at c_8
            exact Ok.ret ⟨rfl, True.intro⟩
      · try simp (disch := omega) only [li_0, li_1, li_2, li_3, li_4, li_5, li_6, li_7, li_8, li_9, li_10, li_20, li_30, li_82, li_91, li_273, li_380, li_400, li_512, li_1000, li_2457, li_4000, nI_add, nI_1, nI_mul, nI_sub, shl_1, shl_1b, nI_leP, nI_ltP, nI_eqP, Nat.not_le, Nat.not_lt] at c_5
        refine Ok.ite (fun c_10 => ?_) (fun c_10 => ?_)
        · try simp (disch := omega) only [li_0, li_1, li_2, li_3, li_4, li_5, li_6, li_7, li_8, li_9, li_10, li_20, li_30, li_82, li_91, li_273, li_380, li_400, li_512, li_1000, li_2457, li_4000, nI_add, nI_1, nI_mul, nI_sub, shl_1, shl_1b, nI_leP, nI_ltP, nI_eqP, Nat.not_le, Nat.not_lt] at c_10
          refine Ok.bd _ (rX10_lineBound hT (by first | assumption | decide +kernel)) ?_
          rintro v14 _ ⟨rfl, hxv14⟩
          exact Ok.ret ⟨rfl, True.intro⟩
        · try simp (disch := omega) only [li_0, li_1, li_2, li_3, li_4, li_5, li_6, li_7, li_8, li_9, li_10, li_20, li_30, li_82, li_91, li_273, li_380, li_400, li_512, li_1000, li_2457, li_4000, nI_add, nI_1, nI_mul, nI_sub, shl_1, shl_1b, nI_leP, nI_ltP, nI_eqP, Nat.not_le, Nat.not_lt] at c_10
          exact Ok.ret ⟨rfl, True.intro⟩
set_option maxHeartbeats 4000000 in
set_option maxRecDepth 100000 in
theorem rX11_split {t : St} (hT : TY t) {a : Int32} {b : Int32} {c : Int32} : Ok (FX11_split a b c t) (fun r u => t = u ∧ (True)) := by
  unfold FX11_split
  refine Ok.bd _ (rX11_netIn hT) ?_
  rintro v1 _ ⟨rfl, hxv1⟩
  rcases v1 with _ | x4
  · refine Ok.on ?_
    exact Ok.ret ⟨rfl, True.intro⟩
  · refine Ok.os ?_
    obtain ⟨hnx, ⟨ka, hka, rfl⟩, hpx, hlx, hex⟩ := hxv1 x4 rfl
    refine Ok.ck (by first | assumption | decide +kernel) (fun g_2 => ?_)
    refine Ok.ite (fun c_3 => ?_) (fun c_3 => ?_)
    · try simp (disch := omega) only [li_0, li_1, li_2, li_3, li_4, li_5, li_6, li_7, li_8, li_9, li_10, li_20, li_30, li_82, li_91, li_273, li_380, li_400, li_512, li_1000, li_2457, li_4000, nI_add, nI_1, nI_mul, nI_sub, shl_1, shl_1b, nI_leP, nI_ltP, nI_eqP, Nat.not_le, Nat.not_lt] at c_3
      exact Ok.ret ⟨rfl, True.intro⟩
    · try simp (disch := omega) only [li_0, li_1, li_2, li_3, li_4, li_5, li_6, li_7, li_8, li_9, li_10, li_20, li_30, li_82, li_91, li_273, li_380, li_400, li_512, li_1000, li_2457, li_4000, nI_add, nI_1, nI_mul, nI_sub, shl_1, shl_1b, nI_leP, nI_ltP, nI_eqP, Nat.not_le, Nat.not_lt] at c_3
      refine Ok.bd _ (rX5_allBits hT (by first | assumption | decide +kernel)) ?_
      rintro _ _ ⟨rfl, kv9, hv9, rfl⟩
      refine Ok.ite (fun c_5 => ?_) (fun c_5 => ?_)
      · try simp (disch := omega) only [li_0, li_1, li_2, li_3, li_4, li_5, li_6, li_7, li_8, li_9, li_10, li_20, li_30, li_82, li_91, li_273, li_380, li_400, li_512, li_1000, li_2457, li_4000, nI_add, nI_1, nI_mul, nI_sub, shl_1, shl_1b, nI_leP, nI_ltP, nI_eqP, Nat.not_le, Nat.not_lt] at c_5
        refine Ok.ite (fun c_6 => ?_) (fun c_6 => ?_)
        · try simp (disch := omega) only [li_0, li_1, li_2, li_3, li_4, li_5, li_6, li_7, li_8, li_9, li_10, li_20, li_30, li_82, li_91, li_273, li_380, li_400, li_512, li_1000, li_2457, li_4000, nI_add, nI_1, nI_mul, nI_sub, shl_1, shl_1b, nI_leP, nI_ltP, nI_eqP, Nat.not_le, Nat.not_lt] at c_6
          refine Ok.bd _ (rX6_cutWeight hT (by first | assumption | decide +kernel)) ?_
          rintro v14 _ ⟨rfl, hxv14⟩
          exact Ok.ret ⟨rfl, True.intro⟩
        · try simp (disch := omega) only [li_0, li_1, li_2, li_3, li_4, li_5, li_6, li_7, li_8, li_9, li_10, li_20, li_30, li_82, li_91, li_273, li_380, li_400, li_512, li_1000, li_2457, li_4000, nI_add, nI_1, nI_mul, nI_sub, shl_1, shl_1b, nI_leP, nI_ltP, nI_eqP, Nat.not_le, Nat.not_lt] at c_6
          refine Ok.ite (fun c_8 => ?_) (fun c_8 => ?_)
          · try simp (disch := omega) only [li_0, li_1, li_2, li_3, li_4, li_5, li_6, li_7, li_8, li_9, li_10, li_20, li_30, li_82, li_91, li_273, li_380, li_400, li_512, li_1000, li_2457, li_4000, nI_add, nI_1, nI_mul, nI_sub, shl_1, shl_1b, nI_leP, nI_ltP, nI_eqP, Nat.not_le, Nat.not_lt] at c_8
            refine Ok.bd _ (rX6_gateSize hT (by first | assumption | decide +kernel)) ?_
            rintro v19 _ ⟨rfl, hxv19⟩
            exact Ok.ret ⟨rfl, True.intro⟩
          · try simp (disch := omega) only [li_0, li_1, li_2, li_3, li_4, li_5, li_6, li_7, li_8, li_9, li_10, li_20, li_30, li_82, li_91, li_273, li_380, li_400, li_512, li_1000, li_2457, li_4000, nI_add, nI_1, nI_mul, nI_sub, shl_1, shl_1b, nI_leP, nI_ltP, nI_eqP, Nat.not_le, Nat.not_lt] at c_8
            refine Ok.ite (fun c_10 => ?_) (fun c_10 => ?_)
            · try simp (disch := omega) only [li_0, li_1, li_2, li_3, li_4, li_5, li_6, li_7, li_8, li_9, li_10, li_20, li_30, li_82, li_91, li_273, li_380, li_400, li_512, li_1000, li_2457, li_4000, nI_add, nI_1, nI_mul, nI_sub, shl_1, shl_1b, nI_leP, nI_ltP, nI_eqP, Nat.not_le, Nat.not_lt] at c_10
              refine Ok.bd _ (rX6_fringeSize hT (by first | assumption | decide +kernel)) ?_
              rintro v24 _ ⟨rfl, hxv24⟩
              exact Ok.ret ⟨rfl, True.intro⟩
            · try simp (disch := omega) only [li_0, li_1, li_2, li_3, li_4, li_5, li_6, li_7, li_8, li_9, li_10, li_20, li_30, li_82, li_91, li_273, li_380, li_400, li_512, li_1000, li_2457, li_4000, nI_add, nI_1, nI_mul, nI_sub, shl_1, shl_1b, nI_leP, nI_ltP, nI_eqP, Nat.not_le, Nat.not_lt] at c_10
              exact Ok.ret ⟨rfl, True.intro⟩
      · try simp (disch := omega) only [li_0, li_1, li_2, li_3, li_4, li_5, li_6, li_7, li_8, li_9, li_10, li_20, li_30, li_82, li_91, li_273, li_380, li_400, li_512, li_1000, li_2457, li_4000, nI_add, nI_1, nI_mul, nI_sub, shl_1, shl_1b, nI_leP, nI_ltP, nI_eqP, Nat.not_le, Nat.not_lt] at c_5
        exact Ok.ret ⟨rfl, True.intro⟩
set_option maxHeartbeats 4000000 in
set_option maxRecDepth 100000 in
theorem rX11_halve {t : St} (hT : TY t) {a : Int32} : Ok (FX11_halve a t) (fun r u => t = u ∧ (True)) := by
  unfold FX11_halve
  refine Ok.bd _ (rX11_netIn hT) ?_
  rintro v1 _ ⟨rfl, hxv1⟩
  rcases v1 with _ | x4
  · refine Ok.on ?_
    exact Ok.ret ⟨rfl, True.intro⟩
  · refine Ok.os ?_
    obtain ⟨hnx, ⟨ka, hka, rfl⟩, hpx, hlx, hex⟩ := hxv1 x4 rfl
    refine Ok.ck (by first | assumption | decide +kernel) (fun g_2 => ?_)
    refine Ok.bd _ (rX10_thinnestHalf hT (by first | assumption | decide +kernel)) ?_
    rintro v7 _ ⟨rfl, hxv7⟩
    exact Ok.ret ⟨rfl, True.intro⟩
set_option maxHeartbeats 4000000 in
set_option maxRecDepth 100000 in
theorem rX11_bag {t : St} (hT : TY t) {a : Int32} {b : Int32} {c : Int32} : Ok (FX11_bag a b c t) (fun r u => t = u ∧ (True)) := by
  unfold FX11_bag
  refine Ok.bd _ (rX11_netIn hT) ?_
  rintro v1 _ ⟨rfl, hxv1⟩
  rcases v1 with _ | x4
  · refine Ok.on ?_
    exact Ok.ret ⟨rfl, True.intro⟩
  · refine Ok.os ?_
    obtain ⟨hnx, ⟨ka, hka, rfl⟩, hpx, hlx, hex⟩ := hxv1 x4 rfl
    refine Ok.ck (by first | assumption | decide +kernel) (fun g_2 => ?_)
    refine Ok.bd _ (rX5_has hT (by first | assumption | decide +kernel)) ?_
    rintro v7 _ ⟨rfl, hbv7, hxv7⟩
    refine Ok.ite (fun c_4 => ?_) (fun c_4 => ?_)
    · skip
      exact Ok.ret ⟨rfl, True.intro⟩
    · obtain ⟨khv7, hkhv7, rfl⟩ := hxv7.resolve_left c_4
      refine Ok.ite (fun c_5 => ?_) (fun c_5 => ?_)
      · try simp (disch := omega) only [li_0, li_1, li_2, li_3, li_4, li_5, li_6, li_7, li_8, li_9, li_10, li_20, li_30, li_82, li_91, li_273, li_380, li_400, li_512, li_1000, li_2457, li_4000, nI_add, nI_1, nI_mul, nI_sub, shl_1, shl_1b, nI_leP, nI_ltP, nI_eqP, Nat.not_le, Nat.not_lt] at c_5
        refine Ok.bd _ (rX8_bagGoing hT (by first | assumption | decide +kernel) (by first | with_reducible assumption | (simp (disch := omega) only [li_0, li_1, li_2, li_3, li_4, li_5, li_6, li_7, li_8, li_9, li_10, li_20, li_30, li_82, li_91, li_273, li_380, li_400, li_512, li_1000, li_2457, li_4000, nI_add, nI_1, nI_mul, nI_sub, shl_1, shl_1b, nI_or, nI_xor, nI_and]; with_reducible exact ⟨_, (by first | omega | exact or9 (by omega) (by omega) | exact xor9 (by omega) (by omega)), rfl⟩) | with_reducible exact ⟨_, (by first | omega | exact or9 (by omega) (by omega) | exact xor9 (by omega) (by omega)), rfl⟩ | exact IsR.mn (by first | with_reducible assumption | exact ⟨_, by omega, rfl⟩) (by first | with_reducible assumption | exact ⟨_, by omega, rfl⟩) | exact IsR.mx (by first | with_reducible assumption | exact ⟨_, by omega, rfl⟩) (by first | with_reducible assumption | exact ⟨_, by omega, rfl⟩) | with_reducible exact mn9 (by omega) | (simp (disch := omega) only [li_0, li_1, li_2, li_3, li_4, li_5, li_6, li_7, li_8, li_9, li_10, li_20, li_30, li_82, li_91, li_273, li_380, li_400, li_512, li_1000, li_2457, li_4000, nI_add, nI_1, nI_mul, nI_sub, shl_1, shl_1b]; with_reducible exact mn9b (by omega)))) ?_
        rintro v18 _ ⟨rfl, hxv18⟩
        exact Ok.ret ⟨rfl, True.intro⟩
      · try simp (disch := omega) only [li_0, li_1, li_2, li_3, li_4, li_5, li_6, li_7, li_8, li_9, li_10, li_20, li_30, li_82, li_91, li_273, li_380, li_400, li_512, li_1000, li_2457, li_4000, nI_add, nI_1, nI_mul, nI_sub, shl_1, shl_1b, nI_leP, nI_ltP, nI_eqP, Nat.not_le, Nat.not_lt] at c_5
        refine Ok.ite (fun c_7 => ?_) (fun c_7 => ?_)
        · try simp (disch := omega) only [li_0, li_1, li_2, li_3, li_4, li_5, li_6, li_7, li_8, li_9, li_10, li_20, li_30, li_82, li_91, li_273, li_380, li_400, li_512, li_1000, li_2457, li_4000, nI_add, nI_1, nI_mul, nI_sub, shl_1, shl_1b, nI_leP, nI_ltP, nI_eqP, Nat.not_le, Nat.not_lt] at c_7
          refine Ok.bd _ (rX8_bagTaken hT (by first | assumption | decide +kernel) (by first | with_reducible assumption | (simp (disch := omega) only [li_0, li_1, li_2, li_3, li_4, li_5, li_6, li_7, li_8, li_9, li_10, li_20, li_30, li_82, li_91, li_273, li_380, li_400, li_512, li_1000, li_2457, li_4000, nI_add, nI_1, nI_mul, nI_sub, shl_1, shl_1b, nI_or, nI_xor, nI_and]; with_reducible exact ⟨_, (by first | omega | exact or9 (by omega) (by omega) | exact xor9 (by omega) (by omega)), rfl⟩) | with_reducible exact ⟨_, (by first | omega | exact or9 (by omega) (by omega) | exact xor9 (by omega) (by omega)), rfl⟩ | exact IsR.mn (by first | with_reducible assumption | exact ⟨_, by omega, rfl⟩) (by first | with_reducible assumption | exact ⟨_, by omega, rfl⟩) | exact IsR.mx (by first | with_reducible assumption | exact ⟨_, by omega, rfl⟩) (by first | with_reducible assumption | exact ⟨_, by omega, rfl⟩) | with_reducible exact mn9 (by omega) | (simp (disch := omega) only [li_0, li_1, li_2, li_3, li_4, li_5, li_6, li_7, li_8, li_9, li_10, li_20, li_30, li_82, li_91, li_273, li_380, li_400, li_512, li_1000, li_2457, li_4000, nI_add, nI_1, nI_mul, nI_sub, shl_1, shl_1b]; with_reducible exact mn9b (by omega)))) ?_
          rintro v14 _ ⟨rfl, hxv14⟩
          exact Ok.ret ⟨rfl, True.intro⟩
        · try simp (disch := omega) only [li_0, li_1, li_2, li_3, li_4, li_5, li_6, li_7, li_8, li_9, li_10, li_20, li_30, li_82, li_91, li_273, li_380, li_400, li_512, li_1000, li_2457, li_4000, nI_add, nI_1, nI_mul, nI_sub, shl_1, shl_1b, nI_leP, nI_ltP, nI_eqP, Nat.not_le, Nat.not_lt] at c_7
          exact Ok.ret ⟨rfl, True.intro⟩
set_option maxHeartbeats 4000000 in
set_option maxRecDepth 100000 in
theorem rX11_filled {t : St} (hT : TY t) {a : Int32} {b : Int32} : Ok (FX11_filled a b t) (fun r u => t = u ∧ (True)) := by
  unfold FX11_filled
  refine Ok.bd _ (rX11_netIn hT) ?_
  rintro v1 _ ⟨rfl, hxv1⟩
  rcases v1 with _ | x4
  · refine Ok.on ?_
    exact Ok.ret ⟨rfl, True.intro⟩
  · refine Ok.os ?_
    obtain ⟨hnx, ⟨ka, hka, rfl⟩, hpx, hlx, hex⟩ := hxv1 x4 rfl
    refine Ok.ck (by first | assumption | decide +kernel) (fun g_2 => ?_)
    refine Ok.ite (fun c_3 => ?_) (fun c_3 => ?_)
    · try simp (disch := omega) only [li_0, li_1, li_2, li_3, li_4, li_5, li_6, li_7, li_8, li_9, li_10, li_20, li_30, li_82, li_91, li_273, li_380, li_400, li_512, li_1000, li_2457, li_4000, nI_add, nI_1, nI_mul, nI_sub, shl_1, shl_1b, nI_leP, nI_ltP, nI_eqP, Nat.not_le, Nat.not_lt] at c_3
      refine Ok.bd _ (rX8_newLine hT (by first | assumption | decide +kernel)) ?_
      rintro v8 _ ⟨rfl, hxv8⟩
      exact Ok.ret ⟨rfl, True.intro⟩
    · try simp (disch := omega) only [li_0, li_1, li_2, li_3, li_4, li_5, li_6, li_7, li_8, li_9, li_10, li_20, li_30, li_82, li_91, li_273, li_380, li_400, li_512, li_1000, li_2457, li_4000, nI_add, nI_1, nI_mul, nI_sub, shl_1, shl_1b, nI_leP, nI_ltP, nI_eqP, Nat.not_le, Nat.not_lt] at c_3
      exact Ok.ret ⟨rfl, True.intro⟩
set_option maxHeartbeats 4000000 in
set_option maxRecDepth 100000 in
theorem rX11_worst {t : St} (hT : TY t) {a : Int32} {b : Int32} : Ok (FX11_worst a b t) (fun r u => t = u ∧ (True)) := by
  unfold FX11_worst
  refine Ok.bd _ (rX11_netIn hT) ?_
  rintro v1 _ ⟨rfl, hxv1⟩
  rcases v1 with _ | x4
  · refine Ok.on ?_
    exact Ok.ret ⟨rfl, True.intro⟩
  · refine Ok.os ?_
    obtain ⟨hnx, ⟨ka, hka, rfl⟩, hpx, hlx, hex⟩ := hxv1 x4 rfl
    refine Ok.ck (by first | assumption | decide +kernel) (fun g_2 => ?_)
    refine Ok.bd _ (rX11_isPriced hT) ?_
    rintro v7 _ ⟨rfl, hbv7, hxv7⟩
    refine Ok.ite (fun c_4 => ?_) (fun c_4 => ?_)
    · try simp (disch := omega) only [li_0, li_1, li_2, li_3, li_4, li_5, li_6, li_7, li_8, li_9, li_10, li_20, li_30, li_82, li_91, li_273, li_380, li_400, li_512, li_1000, li_2457, li_4000, nI_add, nI_1, nI_mul, nI_sub, shl_1, shl_1b, nI_leP, nI_ltP, nI_eqP, Nat.not_le, Nat.not_lt] at c_4
      exact Ok.ret ⟨rfl, True.intro⟩
    · try simp (disch := omega) only [li_0, li_1, li_2, li_3, li_4, li_5, li_6, li_7, li_8, li_9, li_10, li_20, li_30, li_82, li_91, li_273, li_380, li_400, li_512, li_1000, li_2457, li_4000, nI_add, nI_1, nI_mul, nI_sub, shl_1, shl_1b, nI_leP, nI_ltP, nI_eqP, Nat.not_le, Nat.not_lt] at c_4
      refine Ok.bd _ (rX6_firstStep hT) ?_
      rintro _ _ ⟨rfl, kv11, hv11, rfl⟩
      refine Ok.bd _ (rX5_has hT (by first | assumption | decide +kernel)) ?_
      rintro v14 _ ⟨rfl, hbv14, hxv14⟩
      refine Ok.ite (fun c_7 => ?_) (fun c_7 => ?_)
      · skip
        exact Ok.ret ⟨rfl, True.intro⟩
      · obtain hIs := hxv14.resolve_left c_7
        refine Ok.bd _ (rX8_worstStep hT (by first | assumption | decide +kernel)) ?_
        rintro v19 _ ⟨rfl, hxv19⟩
        exact Ok.ret ⟨rfl, True.intro⟩
set_option maxHeartbeats 4000000 in
set_option maxRecDepth 100000 in
theorem gX11_noteAct {σ t : St} (hG : GC σ t) {a : Int32} (h_a : IsR 3 a) : Ok (FX11_noteAct a t) (fun r u => GC σ u ∧ (True)) := by
  obtain ⟨k_a, h_a, rfl⟩ := h_a
  unfold FX11_noteAct
  refine Ok.ck (by first | (simp (disch := omega) only [li_0, li_1, li_2, li_3, li_4, li_5, li_6, li_7, li_8, li_9, li_10, li_20, li_30, li_82, li_91, li_273, li_380, li_400, li_512, li_1000, li_2457, li_4000, nI_add, nI_1, nI_mul, nI_sub, shl_1, shl_1b, nI_or, nI_xor, nI_and]; with_reducible exact inb_n (by first | omega | exact or9 (by omega) (by omega) | exact xor9 (by omega) (by omega)) (by omega)) | with_reducible exact inb_n (by omega) (by omega) | exact IsR.ib (by with_reducible assumption) (by decide) | decide) (fun g_1 => ?_)
  refine Ok.ck (by first | assumption | exact el_10 (by first | with_reducible assumption | (simp (disch := omega) only [li_0, li_1, li_2, li_3, li_4, li_5, li_6, li_7, li_8, li_9, li_10, li_20, li_30, li_82, li_91, li_273, li_380, li_400, li_512, li_1000, li_2457, li_4000, nI_add, nI_1, nI_mul, nI_sub, shl_1, shl_1b, nI_or, nI_xor, nI_and]; with_reducible exact ⟨_, (by first | omega | exact or9 (by omega) (by omega) | exact xor9 (by omega) (by omega)), rfl⟩) | with_reducible exact ⟨_, (by first | omega | exact or9 (by omega) (by omega) | exact xor9 (by omega) (by omega)), rfl⟩ | exact IsR.mn (by first | with_reducible assumption | exact ⟨_, by omega, rfl⟩) (by first | with_reducible assumption | exact ⟨_, by omega, rfl⟩) | exact IsR.mx (by first | with_reducible assumption | exact ⟨_, by omega, rfl⟩) (by first | with_reducible assumption | exact ⟨_, by omega, rfl⟩) | with_reducible exact mn9 (by omega) | (simp (disch := omega) only [li_0, li_1, li_2, li_3, li_4, li_5, li_6, li_7, li_8, li_9, li_10, li_20, li_30, li_82, li_91, li_273, li_380, li_400, li_512, li_1000, li_2457, li_4000, nI_add, nI_1, nI_mul, nI_sub, shl_1, shl_1b]; with_reducible exact mn9b (by omega)))) (fun g_2 => ?_)
  refine Ok.bd _ (rX5_sameAs hG.tt (by first | assumption | decide +kernel) (by first | assumption | decide +kernel)) ?_
  rintro v3 _ ⟨rfl, hbv3, hxv3⟩
  refine Ok.ite (fun c_4 => ?_) (fun c_4 => ?_)
  · try simp (disch := omega) only [li_0, li_1, li_2, li_3, li_4, li_5, li_6, li_7, li_8, li_9, li_10, li_20, li_30, li_82, li_91, li_273, li_380, li_400, li_512, li_1000, li_2457, li_4000, nI_add, nI_1, nI_mul, nI_sub, shl_1, shl_1b, nI_leP, nI_ltP, nI_eqP, Nat.not_le, Nat.not_lt] at c_4
    refine Ok.bd _ (gX4_remember hG (by first | with_reducible assumption | (simp (disch := omega) only [li_0, li_1, li_2, li_3, li_4, li_5, li_6, li_7, li_8, li_9, li_10, li_20, li_30, li_82, li_91, li_273, li_380, li_400, li_512, li_1000, li_2457, li_4000, nI_add, nI_1, nI_mul, nI_sub, shl_1, shl_1b, nI_or, nI_xor, nI_and]; with_reducible exact ⟨_, (by first | omega | exact or9 (by omega) (by omega) | exact xor9 (by omega) (by omega)), rfl⟩) | with_reducible exact ⟨_, (by first | omega | exact or9 (by omega) (by omega) | exact xor9 (by omega) (by omega)), rfl⟩ | exact IsR.mn (by first | with_reducible assumption | exact ⟨_, by omega, rfl⟩) (by first | with_reducible assumption | exact ⟨_, by omega, rfl⟩) | exact IsR.mx (by first | with_reducible assumption | exact ⟨_, by omega, rfl⟩) (by first | with_reducible assumption | exact ⟨_, by omega, rfl⟩) | with_reducible exact mn9 (by omega) | (simp (disch := omega) only [li_0, li_1, li_2, li_3, li_4, li_5, li_6, li_7, li_8, li_9, li_10, li_20, li_30, li_82, li_91, li_273, li_380, li_400, li_512, li_1000, li_2457, li_4000, nI_add, nI_1, nI_mul, nI_sub, shl_1, shl_1b]; with_reducible exact mn9b (by omega))) (by first | assumption | decide +kernel)) ?_
    rintro _ t9 ⟨hG_5, hxv8⟩
    exact Ok.ret ⟨hG_5, True.intro⟩
  · try simp (disch := omega) only [li_0, li_1, li_2, li_3, li_4, li_5, li_6, li_7, li_8, li_9, li_10, li_20, li_30, li_82, li_91, li_273, li_380, li_400, li_512, li_1000, li_2457, li_4000, nI_add, nI_1, nI_mul, nI_sub, shl_1, shl_1b, nI_leP, nI_ltP, nI_eqP, Nat.not_le, Nat.not_lt] at c_4
    exact Ok.ret ⟨hG, True.intro⟩
set_option maxHeartbeats 4000000 in
set_option maxRecDepth 100000 in
theorem gX11_findingOf {σ t : St} (hG : GC σ t) {a : Int32} {b : Int32} : Ok (FX11_findingOf a b t) (fun r u => GC σ u ∧ (∀ x, r = some x → (findAt x = true ∧ IsR 3 a))) := by
  unfold FX11_findingOf
  refine Ok.bd _ (rX11_netIn hG.tt) ?_
  rintro v1 _ ⟨rfl, hxv1⟩
  rcases v1 with _ | x4
  · refine Ok.on ?_
    exact Ok.ret ⟨hG, (by first | (intro x hx; cases hx; done) | (intro x hx; cases hx; exact ⟨by assumption, ⟨_, by omega, rfl⟩⟩))⟩
  · refine Ok.os ?_
    obtain ⟨hnx, ⟨ka, hka, rfl⟩, hpx, hlx, hex⟩ := hxv1 x4 rfl
    refine Ok.ck (by first | assumption | decide +kernel) (fun g_2 => ?_)
    refine Ok.bd _ (rX11_isMeasure hG.tt) ?_
    rintro v7 _ ⟨rfl, hbv7, hxv7⟩
    refine Ok.ite (fun c_4 => ?_) (fun c_4 => ?_)
    · skip
      exact Ok.ret ⟨hG, (by first | (intro x hx; cases hx; done) | (intro x hx; cases hx; exact ⟨by assumption, ⟨_, by omega, rfl⟩⟩))⟩
    · obtain ⟨kmv7, hkmv7, rfl⟩ := hxv7.resolve_left c_4
      refine Ok.ck (by first | (simp (disch := omega) only [li_0, li_1, li_2, li_3, li_4, li_5, li_6, li_7, li_8, li_9, li_10, li_20, li_30, li_82, li_91, li_273, li_380, li_400, li_512, li_1000, li_2457, li_4000, nI_add, nI_1, nI_mul, nI_sub, shl_1, shl_1b, nI_or, nI_xor, nI_and]; with_reducible exact inb_n (by first | omega | exact or9 (by omega) (by omega) | exact xor9 (by omega) (by omega)) (by omega)) | with_reducible exact inb_n (by omega) (by omega) | exact IsR.ib (by with_reducible assumption) (by decide) | decide) (fun g_5 => ?_)
      refine Ok.ck (by exact el_11 (by first | with_reducible assumption | (simp (disch := omega) only [li_0, li_1, li_2, li_3, li_4, li_5, li_6, li_7, li_8, li_9, li_10, li_20, li_30, li_82, li_91, li_273, li_380, li_400, li_512, li_1000, li_2457, li_4000, nI_add, nI_1, nI_mul, nI_sub, shl_1, shl_1b, nI_or, nI_xor, nI_and]; with_reducible exact ⟨_, (by first | omega | exact or9 (by omega) (by omega) | exact xor9 (by omega) (by omega)), rfl⟩) | with_reducible exact ⟨_, (by first | omega | exact or9 (by omega) (by omega) | exact xor9 (by omega) (by omega)), rfl⟩ | exact IsR.mn (by first | with_reducible assumption | exact ⟨_, by omega, rfl⟩) (by first | with_reducible assumption | exact ⟨_, by omega, rfl⟩) | exact IsR.mx (by first | with_reducible assumption | exact ⟨_, by omega, rfl⟩) (by first | with_reducible assumption | exact ⟨_, by omega, rfl⟩) | with_reducible exact mn9 (by omega) | (simp (disch := omega) only [li_0, li_1, li_2, li_3, li_4, li_5, li_6, li_7, li_8, li_9, li_10, li_20, li_30, li_82, li_91, li_273, li_380, li_400, li_512, li_1000, li_2457, li_4000, nI_add, nI_1, nI_mul, nI_sub, shl_1, shl_1b]; with_reducible exact mn9b (by omega)))) (fun g_6 => ?_)
      refine Ok.bd _ (gX3_turnTo hG (by first | assumption | decide +kernel) (by first | assumption | decide +kernel)) ?_
      rintro _ t14 ⟨hG_7, hxv13⟩
      refine Ok.ck (by first | (simp (disch := omega) only [li_0, li_1, li_2, li_3, li_4, li_5, li_6, li_7, li_8, li_9, li_10, li_20, li_30, li_82, li_91, li_273, li_380, li_400, li_512, li_1000, li_2457, li_4000, nI_add, nI_1, nI_mul, nI_sub, shl_1, shl_1b, nI_or, nI_xor, nI_and]; with_reducible exact inb_n (by first | omega | exact or9 (by omega) (by omega) | exact xor9 (by omega) (by omega)) (by omega)) | with_reducible exact inb_n (by omega) (by omega) | exact IsR.ib (by with_reducible assumption) (by decide) | decide) (fun g_8 => ?_)
      refine Ok.ck (by exact el_11 (by first | with_reducible assumption | (simp (disch := omega) only [li_0, li_1, li_2, li_3, li_4, li_5, li_6, li_7, li_8, li_9, li_10, li_20, li_30, li_82, li_91, li_273, li_380, li_400, li_512, li_1000, li_2457, li_4000, nI_add, nI_1, nI_mul, nI_sub, shl_1, shl_1b, nI_or, nI_xor, nI_and]; with_reducible exact ⟨_, (by first | omega | exact or9 (by omega) (by omega) | exact xor9 (by omega) (by omega)), rfl⟩) | with_reducible exact ⟨_, (by first | omega | exact or9 (by omega) (by omega) | exact xor9 (by omega) (by omega)), rfl⟩ | exact IsR.mn (by first | with_reducible assumption | exact ⟨_, by omega, rfl⟩) (by first | with_reducible assumption | exact ⟨_, by omega, rfl⟩) | exact IsR.mx (by first | with_reducible assumption | exact ⟨_, by omega, rfl⟩) (by first | with_reducible assumption | exact ⟨_, by omega, rfl⟩) | with_reducible exact mn9 (by omega) | (simp (disch := omega) only [li_0, li_1, li_2, li_3, li_4, li_5, li_6, li_7, li_8, li_9, li_10, li_20, li_30, li_82, li_91, li_273, li_380, li_400, li_512, li_1000, li_2457, li_4000, nI_add, nI_1, nI_mul, nI_sub, shl_1, shl_1b]; with_reducible exact mn9b (by omega)))) (fun g_9 => ?_)
      refine Ok.ck (by first | (simp (disch := omega) only [li_0, li_1, li_2, li_3, li_4, li_5, li_6, li_7, li_8, li_9, li_10, li_20, li_30, li_82, li_91, li_273, li_380, li_400, li_512, li_1000, li_2457, li_4000, nI_add, nI_1, nI_mul, nI_sub, shl_1, shl_1b, nI_or, nI_xor, nI_and]; with_reducible exact inb_n (by first | omega | exact or9 (by omega) (by omega) | exact xor9 (by omega) (by omega)) (by omega)) | with_reducible exact inb_n (by omega) (by omega) | exact IsR.ib (by with_reducible assumption) (by decide) | decide) (fun g_10 => ?_)
      refine Ok.ck (by exact el_fs (by assumption) (by first | with_reducible assumption | (simp (disch := omega) only [li_0, li_1, li_2, li_3, li_4, li_5, li_6, li_7, li_8, li_9, li_10, li_20, li_30, li_82, li_91, li_273, li_380, li_400, li_512, li_1000, li_2457, li_4000, nI_add, nI_1, nI_mul, nI_sub, shl_1, shl_1b, nI_or, nI_xor, nI_and]; with_reducible exact ⟨_, (by first | omega | exact or9 (by omega) (by omega) | exact xor9 (by omega) (by omega)), rfl⟩) | with_reducible exact ⟨_, (by first | omega | exact or9 (by omega) (by omega) | exact xor9 (by omega) (by omega)), rfl⟩ | exact IsR.mn (by first | with_reducible assumption | exact ⟨_, by omega, rfl⟩) (by first | with_reducible assumption | exact ⟨_, by omega, rfl⟩) | exact IsR.mx (by first | with_reducible assumption | exact ⟨_, by omega, rfl⟩) (by first | with_reducible assumption | exact ⟨_, by omega, rfl⟩) | with_reducible exact mn9 (by omega) | (simp (disch := omega) only [li_0, li_1, li_2, li_3, li_4, li_5, li_6, li_7, li_8, li_9, li_10, li_20, li_30, li_82, li_91, li_273, li_380, li_400, li_512, li_1000, li_2457, li_4000, nI_add, nI_1, nI_mul, nI_sub, shl_1, shl_1b]; with_reducible exact mn9b (by omega)))) (fun g_11 => ?_)
      refine Ok.rd (fun v20 hv20 => ?_)
      refine Ok.bd (fun (v23 : Unit) t24 => GC σ t24 ∧ (True)) ?_ ?_
      · refine Ok.ite (fun c_12 => ?_) (fun c_12 => ?_)
        · try simp (disch := omega) only [li_0, li_1, li_2, li_3, li_4, li_5, li_6, li_7, li_8, li_9, li_10, li_20, li_30, li_82, li_91, li_273, li_380, li_400, li_512, li_1000, li_2457, li_4000, nI_add, nI_1, nI_mul, nI_sub, shl_1, shl_1b, nI_leP, nI_ltP, nI_eqP, Nat.not_le, Nat.not_lt] at c_12
          refine Ok.bd (fun (v29 : Unit) t30 => GC σ t30 ∧ (True)) ?_ ?_
          · refine Ok.ite (fun c_13 => ?_) (fun c_13 => ?_)
            · try simp (disch := omega) only [li_0, li_1, li_2, li_3, li_4, li_5, li_6, li_7, li_8, li_9, li_10, li_20, li_30, li_82, li_91, li_273, li_380, li_400, li_512, li_1000, li_2457, li_4000, nI_add, nI_1, nI_mul, nI_sub, shl_1, shl_1b, nI_leP, nI_ltP, nI_eqP, Nat.not_le, Nat.not_lt] at c_13
              refine Ok.bd _ (gX0_find hG_7 (by first | assumption | decide +kernel) (by first | assumption | decide +kernel)) ?_
              rintro _ t39 ⟨hG_14, hxv38⟩
              exact Ok.ret ⟨hG_14, True.intro⟩
            · try simp (disch := omega) only [li_0, li_1, li_2, li_3, li_4, li_5, li_6, li_7, li_8, li_9, li_10, li_20, li_30, li_82, li_91, li_273, li_380, li_400, li_512, li_1000, li_2457, li_4000, nI_add, nI_1, nI_mul, nI_sub, shl_1, shl_1b, nI_leP, nI_ltP, nI_eqP, Nat.not_le, Nat.not_lt] at c_13
              refine Ok.bd _ (gX9_find hG_7 (by first | assumption | decide +kernel) (by first | assumption | decide +kernel)) ?_
              rintro _ t36 ⟨hG_15, hxv35⟩
              exact Ok.ret ⟨hG_15, True.intro⟩
          · intro v29 t30 hx
            obtain ⟨hG_16, hxv29⟩ := hx
            refine Ok.wr (fun t33 w_17 => ?_)
            have hG_18 := hG_16.wrU w_17 (by have := find_pl g_11; omega) (ty_f0 g_11)
            exact Ok.ret ⟨hG_18, True.intro⟩
        · try simp (disch := omega) only [li_0, li_1, li_2, li_3, li_4, li_5, li_6, li_7, li_8, li_9, li_10, li_20, li_30, li_82, li_91, li_273, li_380, li_400, li_512, li_1000, li_2457, li_4000, nI_add, nI_1, nI_mul, nI_sub, shl_1, shl_1b, nI_leP, nI_ltP, nI_eqP, Nat.not_le, Nat.not_lt] at c_12
          exact Ok.ret ⟨hG_7, True.intro⟩
      · intro v23 t24 hx
        obtain ⟨hG_19, hxv23⟩ := hx
        exact Ok.ret ⟨hG_19, (by first | (intro x hx; cases hx; done) | (intro x hx; cases hx; exact ⟨by assumption, ⟨_, by omega, rfl⟩⟩))⟩
set_option maxHeartbeats 4000000 in
set_option maxRecDepth 100000 in
theorem gX11_least {σ t : St} (hG : GC σ t) {a : Int32} {b : Int32} : Ok (FX11_least a b t) (fun r u => GC σ u ∧ (True)) := by
  unfold FX11_least
  refine Ok.bd _ (gX11_findingOf hG) ?_
  rintro v1 t2 ⟨hG_1, hxv1⟩
  rcases v1 with _ | x4
  · refine Ok.on ?_
    exact Ok.ret ⟨hG_1, True.intro⟩
  · refine Ok.os ?_
    obtain ⟨hnx, ⟨ka, hka, rfl⟩⟩ := hxv1 x4 rfl
    refine Ok.ck (by first | assumption | decide +kernel) (fun g_2 => ?_)
    refine Ok.rd (fun v7 hv7 => ?_)
    exact Ok.ret ⟨hG_1, True.intro⟩
set_option maxHeartbeats 4000000 in
set_option maxRecDepth 100000 in
theorem gX11_best {σ t : St} (hG : GC σ t) {a : Int32} {b : Int32} {c : Int32} : Ok (FX11_best a b c t) (fun r u => GC σ u ∧ (True)) := by
  unfold FX11_best
  refine Ok.bd _ (gX11_findingOf hG) ?_
  rintro v1 t2 ⟨hG_1, hxv1⟩
  rcases v1 with _ | x4
  · refine Ok.on ?_
    exact Ok.ret ⟨hG_1, True.intro⟩
  · refine Ok.os ?_
    obtain ⟨hnx, ⟨ka, hka, rfl⟩⟩ := hxv1 x4 rfl
    refine Ok.ck (by first | assumption | decide +kernel) (fun g_2 => ?_)
    refine Ok.ck (by first | (simp (disch := omega) only [li_0, li_1, li_2, li_3, li_4, li_5, li_6, li_7, li_8, li_9, li_10, li_20, li_30, li_82, li_91, li_273, li_380, li_400, li_512, li_1000, li_2457, li_4000, nI_add, nI_1, nI_mul, nI_sub, shl_1, shl_1b, nI_or, nI_xor, nI_and]; with_reducible exact inb_n (by first | omega | exact or9 (by omega) (by omega) | exact xor9 (by omega) (by omega)) (by omega)) | with_reducible exact inb_n (by omega) (by omega) | exact IsR.ib (by with_reducible assumption) (by decide) | decide) (fun g_3 => ?_)
    refine Ok.ck (by first | assumption | exact el_10 (by first | with_reducible assumption | (simp (disch := omega) only [li_0, li_1, li_2, li_3, li_4, li_5, li_6, li_7, li_8, li_9, li_10, li_20, li_30, li_82, li_91, li_273, li_380, li_400, li_512, li_1000, li_2457, li_4000, nI_add, nI_1, nI_mul, nI_sub, shl_1, shl_1b, nI_or, nI_xor, nI_and]; with_reducible exact ⟨_, (by first | omega | exact or9 (by omega) (by omega) | exact xor9 (by omega) (by omega)), rfl⟩) | with_reducible exact ⟨_, (by first | omega | exact or9 (by omega) (by omega) | exact xor9 (by omega) (by omega)), rfl⟩ | exact IsR.mn (by first | with_reducible assumption | exact ⟨_, by omega, rfl⟩) (by first | with_reducible assumption | exact ⟨_, by omega, rfl⟩) | exact IsR.mx (by first | with_reducible assumption | exact ⟨_, by omega, rfl⟩) (by first | with_reducible assumption | exact ⟨_, by omega, rfl⟩) | with_reducible exact mn9 (by omega) | (simp (disch := omega) only [li_0, li_1, li_2, li_3, li_4, li_5, li_6, li_7, li_8, li_9, li_10, li_20, li_30, li_82, li_91, li_273, li_380, li_400, li_512, li_1000, li_2457, li_4000, nI_add, nI_1, nI_mul, nI_sub, shl_1, shl_1b]; with_reducible exact mn9b (by omega)))) (fun g_4 => ?_)
    refine Ok.bd _ (rX5_has hG_1.tt (by first | assumption | decide +kernel)) ?_
    rintro v9 _ ⟨rfl, hbv9, hxv9⟩
    refine Ok.ite (fun c_6 => ?_) (fun c_6 => ?_)
    · skip
      exact Ok.ret ⟨hG_1, True.intro⟩
    · obtain ⟨khv9, hkhv9, rfl⟩ := hxv9.resolve_left c_6
      refine Ok.ck (by first | (simp (disch := omega) only [li_0, li_1, li_2, li_3, li_4, li_5, li_6, li_7, li_8, li_9, li_10, li_20, li_30, li_82, li_91, li_273, li_380, li_400, li_512, li_1000, li_2457, li_4000, nI_add, nI_1, nI_mul, nI_sub, shl_1, shl_1b, nI_or, nI_xor, nI_and]; with_reducible exact inb_n (by first | omega | exact or9 (by omega) (by omega) | exact xor9 (by omega) (by omega)) (by omega)) | with_reducible exact inb_n (by omega) (by omega) | exact IsR.ib (by with_reducible assumption) (by decide) | decide) (fun g_7 => ?_)
      refine Ok.rdT hG_1.tt (ty_fr g_2 (inb_lt g_7)) (by omega) (fun k_8 hk_8 ek_8 => ?_)
      exact Ok.ret ⟨hG_1, True.intro⟩
set_option maxHeartbeats 4000000 in
set_option maxRecDepth 100000 in
theorem gX11_ways {σ t : St} (hG : GC σ t) {a : Int32} {b : Int32} : Ok (FX11_ways a b t) (fun r u => GC σ u ∧ (True)) := by
  unfold FX11_ways
  refine Ok.bd _ (gX11_findingOf hG) ?_
  rintro v1 t2 ⟨hG_1, hxv1⟩
  rcases v1 with _ | x4
  · refine Ok.on ?_
    exact Ok.ret ⟨hG_1, True.intro⟩
  · refine Ok.os ?_
    obtain ⟨hnx, ⟨ka, hka, rfl⟩⟩ := hxv1 x4 rfl
    refine Ok.ck (by first | assumption | decide +kernel) (fun g_2 => ?_)
    refine Ok.rd (fun v7 hv7 => ?_)
    exact Ok.ret ⟨hG_1, True.intro⟩
set_option maxHeartbeats 4000000 in
set_option maxRecDepth 100000 in
theorem gX11_within {σ t : St} (hG : GC σ t) {a : Int32} {b : Int32} {c : Int32} : Ok (FX11_within a b c t) (fun r u => GC σ u ∧ (True)) := by
  unfold FX11_within
  refine Ok.bd _ (rX11_netIn hG.tt) ?_
  rintro v1 _ ⟨rfl, hxv1⟩
  rcases v1 with _ | x4
  · refine Ok.on ?_
    exact Ok.ret ⟨hG, True.intro⟩
  · refine Ok.os ?_
    obtain ⟨hnx, ⟨ka, hka, rfl⟩, hpx, hlx, hex⟩ := hxv1 x4 rfl
    refine Ok.ck (by first | assumption | decide +kernel) (fun g_2 => ?_)
    refine Ok.bd _ (rX11_isBounded hG.tt) ?_
    rintro v7 _ ⟨rfl, hbv7, hxv7⟩
    refine Ok.ite (fun c_4 => ?_) (fun c_4 => ?_)
    · try simp (disch := omega) only [li_0, li_1, li_2, li_3, li_4, li_5, li_6, li_7, li_8, li_9, li_10, li_20, li_30, li_82, li_91, li_273, li_380, li_400, li_512, li_1000, li_2457, li_4000, nI_add, nI_1, nI_mul, nI_sub, shl_1, shl_1b, nI_leP, nI_ltP, nI_eqP, Nat.not_le, Nat.not_lt] at c_4
      exact Ok.ret ⟨hG, True.intro⟩
    · try simp (disch := omega) only [li_0, li_1, li_2, li_3, li_4, li_5, li_6, li_7, li_8, li_9, li_10, li_20, li_30, li_82, li_91, li_273, li_380, li_400, li_512, li_1000, li_2457, li_4000, nI_add, nI_1, nI_mul, nI_sub, shl_1, shl_1b, nI_leP, nI_ltP, nI_eqP, Nat.not_le, Nat.not_lt] at c_4
      refine Ok.ite (fun c_5 => ?_) (fun c_5 => ?_)
      · try simp (disch := omega) only [li_0, li_1, li_2, li_3, li_4, li_5, li_6, li_7, li_8, li_9, li_10, li_20, li_30, li_82, li_91, li_273, li_380, li_400, li_512, li_1000, li_2457, li_4000, nI_add, nI_1, nI_mul, nI_sub, shl_1, shl_1b, nI_leP, nI_ltP, nI_eqP, Nat.not_le, Nat.not_lt] at c_5
        refine Ok.ite (fun c_6 => ?_) (fun c_6 => ?_)
        · try simp (disch := omega) only [li_0, li_1, li_2, li_3, li_4, li_5, li_6, li_7, li_8, li_9, li_10, li_20, li_30, li_82, li_91, li_273, li_380, li_400, li_512, li_1000, li_2457, li_4000, nI_add, nI_1, nI_mul, nI_sub, shl_1, shl_1b, nI_leP, nI_ltP, nI_eqP, Nat.not_le, Nat.not_lt] at c_6
          refine Ok.bd _ (gX0_rowsWithin hG (by first | assumption | decide +kernel)) ?_
          rintro v18 t19 ⟨hG_7, hxv18⟩
          exact Ok.ret ⟨hG_7, True.intro⟩
        · try simp (disch := omega) only [li_0, li_1, li_2, li_3, li_4, li_5, li_6, li_7, li_8, li_9, li_10, li_20, li_30, li_82, li_91, li_273, li_380, li_400, li_512, li_1000, li_2457, li_4000, nI_add, nI_1, nI_mul, nI_sub, shl_1, shl_1b, nI_leP, nI_ltP, nI_eqP, Nat.not_le, Nat.not_lt] at c_6
          refine Ok.bd _ (gX9_rowsWithin hG (by first | assumption | decide +kernel)) ?_
          rintro v14 t15 ⟨hG_8, hxv14⟩
          exact Ok.ret ⟨hG_8, True.intro⟩
      · try simp (disch := omega) only [li_0, li_1, li_2, li_3, li_4, li_5, li_6, li_7, li_8, li_9, li_10, li_20, li_30, li_82, li_91, li_273, li_380, li_400, li_512, li_1000, li_2457, li_4000, nI_add, nI_1, nI_mul, nI_sub, shl_1, shl_1b, nI_leP, nI_ltP, nI_eqP, Nat.not_le, Nat.not_lt] at c_5
        exact Ok.ret ⟨hG, True.intro⟩
set_option maxHeartbeats 4000000 in
set_option maxRecDepth 100000 in
theorem gX11_firsts {σ t : St} (hG : GC σ t) {a : Int32} {b : Int32} : Ok (FX11_firsts a b t) (fun r u => GC σ u ∧ (True)) := by
  unfold FX11_firsts
  refine Ok.bd _ (gX11_findingOf hG) ?_
  rintro v1 t2 ⟨hG_1, hxv1⟩
  rcases v1 with _ | x4
  · refine Ok.on ?_
    exact Ok.ret ⟨hG_1, True.intro⟩
  · refine Ok.os ?_
    obtain ⟨hnx, ⟨ka, hka, rfl⟩⟩ := hxv1 x4 rfl
    refine Ok.ck (by first | assumption | decide +kernel) (fun g_2 => ?_)
    refine Ok.rd (fun v7 hv7 => ?_)
    exact Ok.ret ⟨hG_1, True.intro⟩
set_option maxHeartbeats 4000000 in
set_option maxRecDepth 100000 in
theorem gX11_minor {σ t : St} (hG : GC σ t) {a : Int32} : Ok (FX11_minor a t) (fun r u => GC σ u ∧ (True)) := by
  unfold FX11_minor
  refine Ok.bd _ (rX11_netIn hG.tt) ?_
  rintro v1 _ ⟨rfl, hxv1⟩
  rcases v1 with _ | x4
  · refine Ok.on ?_
    exact Ok.ret ⟨hG, True.intro⟩
  · refine Ok.os ?_
    obtain ⟨hnx, ⟨ka, hka, rfl⟩, hpx, hlx, hex⟩ := hxv1 x4 rfl
    refine Ok.ck (by first | assumption | decide +kernel) (fun g_2 => ?_)
    refine Ok.bd _ (gX5_copyFrom hG (by first | assumption | decide +kernel) (by first | assumption | decide +kernel)) ?_
    rintro _ t8 ⟨hG_3, hxv7⟩
    refine Ok.bd _ (gX10_shrinkAway hG_3 (by first | assumption | decide +kernel)) ?_
    rintro v10 t11 ⟨hG_4, hxv10⟩
    exact Ok.ret ⟨hG_4, True.intro⟩
set_option maxHeartbeats 4000000 in
set_option maxRecDepth 100000 in
theorem gX11_among {σ t : St} (hG : GC σ t) {a : Int32} {b : Int32} {c : Int32} : Ok (FX11_among a b c t) (fun r u => GC σ u ∧ (True)) := by
  unfold FX11_among
  refine Ok.bd _ (gX11_findingOf hG) ?_
  rintro v1 t2 ⟨hG_1, hxv1⟩
  rcases v1 with _ | x4
  · refine Ok.on ?_
    exact Ok.ret ⟨hG_1, True.intro⟩
  · refine Ok.os ?_
    obtain ⟨hnx, ⟨ka, hka, rfl⟩⟩ := hxv1 x4 rfl
    refine Ok.ck (by first | assumption | decide +kernel) (fun g_2 => ?_)
    refine Ok.bd _ (rX11_isBounded hG_1.tt) ?_
    rintro v7 _ ⟨rfl, hbv7, hxv7⟩
    refine Ok.ite (fun c_4 => ?_) (fun c_4 => ?_)
    · try simp (disch := omega) only [li_0, li_1, li_2, li_3, li_4, li_5, li_6, li_7, li_8, li_9, li_10, li_20, li_30, li_82, li_91, li_273, li_380, li_400, li_512, li_1000, li_2457, li_4000, nI_add, nI_1, nI_mul, nI_sub, shl_1, shl_1b, nI_leP, nI_ltP, nI_eqP, Nat.not_le, Nat.not_lt] at c_4
      exact Ok.ret ⟨hG_1, True.intro⟩
    · try simp (disch := omega) only [li_0, li_1, li_2, li_3, li_4, li_5, li_6, li_7, li_8, li_9, li_10, li_20, li_30, li_82, li_91, li_273, li_380, li_400, li_512, li_1000, li_2457, li_4000, nI_add, nI_1, nI_mul, nI_sub, shl_1, shl_1b, nI_leP, nI_ltP, nI_eqP, Nat.not_le, Nat.not_lt] at c_4
      refine Ok.ite (fun c_5 => ?_) (fun c_5 => ?_)
      · try simp (disch := omega) only [li_0, li_1, li_2, li_3, li_4, li_5, li_6, li_7, li_8, li_9, li_10, li_20, li_30, li_82, li_91, li_273, li_380, li_400, li_512, li_1000, li_2457, li_4000, nI_add, nI_1, nI_mul, nI_sub, shl_1, shl_1b, nI_leP, nI_ltP, nI_eqP, Nat.not_le, Nat.not_lt] at c_5
        exact Ok.ret ⟨hG_1, True.intro⟩
      · try simp (disch := omega) only [li_0, li_1, li_2, li_3, li_4, li_5, li_6, li_7, li_8, li_9, li_10, li_20, li_30, li_82, li_91, li_273, li_380, li_400, li_512, li_1000, li_2457, li_4000, nI_add, nI_1, nI_mul, nI_sub, shl_1, shl_1b, nI_leP, nI_ltP, nI_eqP, Nat.not_le, Nat.not_lt] at c_5
        refine Ok.bd _ (rX11_isPriced hG_1.tt) ?_
        rintro v14 _ ⟨rfl, hbv14, hxv14⟩
        refine Ok.ite (fun c_7 => ?_) (fun c_7 => ?_)
        · try simp (disch := omega) only [li_0, li_1, li_2, li_3, li_4, li_5, li_6, li_7, li_8, li_9, li_10, li_20, li_30, li_82, li_91, li_273, li_380, li_400, li_512, li_1000, li_2457, li_4000, nI_add, nI_1, nI_mul, nI_sub, shl_1, shl_1b, nI_leP, nI_ltP, nI_eqP, Nat.not_le, Nat.not_lt] at c_7
          exact Ok.ret ⟨hG_1, True.intro⟩
        · try simp (disch := omega) only [li_0, li_1, li_2, li_3, li_4, li_5, li_6, li_7, li_8, li_9, li_10, li_20, li_30, li_82, li_91, li_273, li_380, li_400, li_512, li_1000, li_2457, li_4000, nI_add, nI_1, nI_mul, nI_sub, shl_1, shl_1b, nI_leP, nI_ltP, nI_eqP, Nat.not_le, Nat.not_lt] at c_7
          refine Ok.ck (by first | (simp (disch := omega) only [li_0, li_1, li_2, li_3, li_4, li_5, li_6, li_7, li_8, li_9, li_10, li_20, li_30, li_82, li_91, li_273, li_380, li_400, li_512, li_1000, li_2457, li_4000, nI_add, nI_1, nI_mul, nI_sub, shl_1, shl_1b, nI_or, nI_xor, nI_and]; with_reducible exact inb_n (by first | omega | exact or9 (by omega) (by omega) | exact xor9 (by omega) (by omega)) (by omega)) | with_reducible exact inb_n (by omega) (by omega) | exact IsR.ib (by with_reducible assumption) (by decide) | decide) (fun g_8 => ?_)
          refine Ok.ck (by first | assumption | exact el_10 (by first | with_reducible assumption | (simp (disch := omega) only [li_0, li_1, li_2, li_3, li_4, li_5, li_6, li_7, li_8, li_9, li_10, li_20, li_30, li_82, li_91, li_273, li_380, li_400, li_512, li_1000, li_2457, li_4000, nI_add, nI_1, nI_mul, nI_sub, shl_1, shl_1b, nI_or, nI_xor, nI_and]; with_reducible exact ⟨_, (by first | omega | exact or9 (by omega) (by omega) | exact xor9 (by omega) (by omega)), rfl⟩) | with_reducible exact ⟨_, (by first | omega | exact or9 (by omega) (by omega) | exact xor9 (by omega) (by omega)), rfl⟩ | exact IsR.mn (by first | with_reducible assumption | exact ⟨_, by omega, rfl⟩) (by first | with_reducible assumption | exact ⟨_, by omega, rfl⟩) | exact IsR.mx (by first | with_reducible assumption | exact ⟨_, by omega, rfl⟩) (by first | with_reducible assumption | exact ⟨_, by omega, rfl⟩) | with_reducible exact mn9 (by omega) | (simp (disch := omega) only [li_0, li_1, li_2, li_3, li_4, li_5, li_6, li_7, li_8, li_9, li_10, li_20, li_30, li_82, li_91, li_273, li_380, li_400, li_512, li_1000, li_2457, li_4000, nI_add, nI_1, nI_mul, nI_sub, shl_1, shl_1b]; with_reducible exact mn9b (by omega)))) (fun g_9 => ?_)
          refine Ok.rd (fun v20 hv20 => ?_)
          refine Ok.bd _ (gX9_leastWhere hG_1 (by first | assumption | decide +kernel)) ?_
          rintro v22 t23 ⟨hG_10, hxv22⟩
          exact Ok.ret ⟨hG_10, True.intro⟩
set_option maxHeartbeats 4000000 in
set_option maxRecDepth 100000 in
theorem gX11_gain {σ t : St} (hG : GC σ t) {a : Int32} {b : Int32} {c : Int32} {d : Int32} : Ok (FX11_gain a b c d t) (fun r u => GC σ u ∧ (True)) := by
  unfold FX11_gain
  refine Ok.bd _ (rX11_netIn hG.tt) ?_
  rintro v1 _ ⟨rfl, hxv1⟩
  rcases v1 with _ | x4
  · refine Ok.on ?_
    exact Ok.ret ⟨hG, True.intro⟩
  · refine Ok.os ?_
    obtain ⟨hnx, ⟨ka, hka, rfl⟩, hpx, hlx, hex⟩ := hxv1 x4 rfl
    refine Ok.ck (by first | assumption | decide +kernel) (fun g_2 => ?_)
    refine Ok.bd _ (rX11_isMeasure hG.tt) ?_
    rintro v7 _ ⟨rfl, hbv7, hxv7⟩
    refine Ok.ite (fun c_4 => ?_) (fun c_4 => ?_)
    · skip
      exact Ok.ret ⟨hG, True.intro⟩
    · obtain ⟨kmv7, hkmv7, rfl⟩ := hxv7.resolve_left c_4
      refine Ok.bd _ (rX5_has hG.tt (by first | assumption | decide +kernel)) ?_
      rintro v12 _ ⟨rfl, hbv12, hxv12⟩
      refine Ok.ite (fun c_6 => ?_) (fun c_6 => ?_)
      · skip
        exact Ok.ret ⟨hG, True.intro⟩
      · obtain ⟨khv12, hkhv12, rfl⟩ := hxv12.resolve_left c_6
        refine Ok.bd _ (rX5_has hG.tt (by first | assumption | decide +kernel)) ?_
        rintro v17 _ ⟨rfl, hbv17, hxv17⟩
        refine Ok.ite (fun c_8 => ?_) (fun c_8 => ?_)
        · skip
          exact Ok.ret ⟨hG, True.intro⟩
        · obtain ⟨khv17, hkhv17, rfl⟩ := hxv17.resolve_left c_8
          refine Ok.bd _ (gX5_copyFrom hG (by first | assumption | decide +kernel) (by first | assumption | decide +kernel)) ?_
          rintro _ t22 ⟨hG_9, hxv21⟩
          refine Ok.bd _ (gX5_changeOver hG_9 (by first | assumption | decide +kernel) (by first | with_reducible assumption | (simp (disch := omega) only [li_0, li_1, li_2, li_3, li_4, li_5, li_6, li_7, li_8, li_9, li_10, li_20, li_30, li_82, li_91, li_273, li_380, li_400, li_512, li_1000, li_2457, li_4000, nI_add, nI_1, nI_mul, nI_sub, shl_1, shl_1b, nI_or, nI_xor, nI_and]; with_reducible exact ⟨_, (by first | omega | exact or9 (by omega) (by omega) | exact xor9 (by omega) (by omega)), rfl⟩) | with_reducible exact ⟨_, (by first | omega | exact or9 (by omega) (by omega) | exact xor9 (by omega) (by omega)), rfl⟩ | exact IsR.mn (by first | with_reducible assumption | exact ⟨_, by omega, rfl⟩) (by first | with_reducible assumption | exact ⟨_, by omega, rfl⟩) | exact IsR.mx (by first | with_reducible assumption | exact ⟨_, by omega, rfl⟩) (by first | with_reducible assumption | exact ⟨_, by omega, rfl⟩) | with_reducible exact mn9 (by omega) | (simp (disch := omega) only [li_0, li_1, li_2, li_3, li_4, li_5, li_6, li_7, li_8, li_9, li_10, li_20, li_30, li_82, li_91, li_273, li_380, li_400, li_512, li_1000, li_2457, li_4000, nI_add, nI_1, nI_mul, nI_sub, shl_1, shl_1b]; with_reducible exact mn9b (by omega))) (by first | with_reducible assumption | (simp (disch := omega) only [li_0, li_1, li_2, li_3, li_4, li_5, li_6, li_7, li_8, li_9, li_10, li_20, li_30, li_82, li_91, li_273, li_380, li_400, li_512, li_1000, li_2457, li_4000, nI_add, nI_1, nI_mul, nI_sub, shl_1, shl_1b, nI_or, nI_xor, nI_and]; with_reducible exact ⟨_, (by first | omega | exact or9 (by omega) (by omega) | exact xor9 (by omega) (by omega)), rfl⟩) | with_reducible exact ⟨_, (by first | omega | exact or9 (by omega) (by omega) | exact xor9 (by omega) (by omega)), rfl⟩ | exact IsR.mn (by first | with_reducible assumption | exact ⟨_, by omega, rfl⟩) (by first | with_reducible assumption | exact ⟨_, by omega, rfl⟩) | exact IsR.mx (by first | with_reducible assumption | exact ⟨_, by omega, rfl⟩) (by first | with_reducible assumption | exact ⟨_, by omega, rfl⟩) | with_reducible exact mn9 (by omega) | (simp (disch := omega) only [li_0, li_1, li_2, li_3, li_4, li_5, li_6, li_7, li_8, li_9, li_10, li_20, li_30, li_82, li_91, li_273, li_380, li_400, li_512, li_1000, li_2457, li_4000, nI_add, nI_1, nI_mul, nI_sub, shl_1, shl_1b]; with_reducible exact mn9b (by omega)))) ?_
          rintro _ t25 ⟨hG_10, hxv24⟩
          refine Ok.bd _ (rX8_measured hG_10.tt (by first | assumption | decide +kernel)) ?_
          rintro v27 _ ⟨rfl, hxv27⟩
          refine Ok.bd _ (rX8_measured hG_10.tt (by first | assumption | decide +kernel)) ?_
          rintro v30 _ ⟨rfl, hxv30⟩
          exact Ok.ret ⟨hG_10, True.intro⟩
set_option maxHeartbeats 4000000 in
set_option maxRecDepth 100000 in
theorem gX11_swaps {σ t : St} (hG : GC σ t) {a : Int32} {b : Int32} {c : Int32} : Ok (FX11_swaps a b c t) (fun r u => GC σ u ∧ (True)) := by
  unfold FX11_swaps
  refine Ok.bd _ (rX11_netIn hG.tt) ?_
  rintro v1 _ ⟨rfl, hxv1⟩
  rcases v1 with _ | x4
  · refine Ok.on ?_
    exact Ok.ret ⟨hG, True.intro⟩
  · refine Ok.os ?_
    obtain ⟨hnx, ⟨ka, hka, rfl⟩, hpx, hlx, hex⟩ := hxv1 x4 rfl
    refine Ok.ck (by first | assumption | decide +kernel) (fun g_2 => ?_)
    refine Ok.bd _ (rX5_has hG.tt (by first | assumption | decide +kernel)) ?_
    rintro v7 _ ⟨rfl, hbv7, hxv7⟩
    refine Ok.ite (fun c_4 => ?_) (fun c_4 => ?_)
    · skip
      exact Ok.ret ⟨hG, True.intro⟩
    · obtain ⟨khv7, hkhv7, rfl⟩ := hxv7.resolve_left c_4
      refine Ok.bd _ (rX5_has hG.tt (by first | assumption | decide +kernel)) ?_
      rintro v12 _ ⟨rfl, hbv12, hxv12⟩
      refine Ok.ite (fun c_6 => ?_) (fun c_6 => ?_)
      · skip
        exact Ok.ret ⟨hG, True.intro⟩
      · obtain ⟨khv12, hkhv12, rfl⟩ := hxv12.resolve_left c_6
        refine Ok.bd _ (gX5_copyFrom hG (by first | assumption | decide +kernel) (by first | assumption | decide +kernel)) ?_
        rintro _ t17 ⟨hG_7, hxv16⟩
        refine Ok.bd _ (gX5_changeOver hG_7 (by first | assumption | decide +kernel) (by first | with_reducible assumption | (simp (disch := omega) only [li_0, li_1, li_2, li_3, li_4, li_5, li_6, li_7, li_8, li_9, li_10, li_20, li_30, li_82, li_91, li_273, li_380, li_400, li_512, li_1000, li_2457, li_4000, nI_add, nI_1, nI_mul, nI_sub, shl_1, shl_1b, nI_or, nI_xor, nI_and]; with_reducible exact ⟨_, (by first | omega | exact or9 (by omega) (by omega) | exact xor9 (by omega) (by omega)), rfl⟩) | with_reducible exact ⟨_, (by first | omega | exact or9 (by omega) (by omega) | exact xor9 (by omega) (by omega)), rfl⟩ | exact IsR.mn (by first | with_reducible assumption | exact ⟨_, by omega, rfl⟩) (by first | with_reducible assumption | exact ⟨_, by omega, rfl⟩) | exact IsR.mx (by first | with_reducible assumption | exact ⟨_, by omega, rfl⟩) (by first | with_reducible assumption | exact ⟨_, by omega, rfl⟩) | with_reducible exact mn9 (by omega) | (simp (disch := omega) only [li_0, li_1, li_2, li_3, li_4, li_5, li_6, li_7, li_8, li_9, li_10, li_20, li_30, li_82, li_91, li_273, li_380, li_400, li_512, li_1000, li_2457, li_4000, nI_add, nI_1, nI_mul, nI_sub, shl_1, shl_1b]; with_reducible exact mn9b (by omega))) (by first | with_reducible assumption | (simp (disch := omega) only [li_0, li_1, li_2, li_3, li_4, li_5, li_6, li_7, li_8, li_9, li_10, li_20, li_30, li_82, li_91, li_273, li_380, li_400, li_512, li_1000, li_2457, li_4000, nI_add, nI_1, nI_mul, nI_sub, shl_1, shl_1b, nI_or, nI_xor, nI_and]; with_reducible exact ⟨_, (by first | omega | exact or9 (by omega) (by omega) | exact xor9 (by omega) (by omega)), rfl⟩) | with_reducible exact ⟨_, (by first | omega | exact or9 (by omega) (by omega) | exact xor9 (by omega) (by omega)), rfl⟩ | exact IsR.mn (by first | with_reducible assumption | exact ⟨_, by omega, rfl⟩) (by first | with_reducible assumption | exact ⟨_, by omega, rfl⟩) | exact IsR.mx (by first | with_reducible assumption | exact ⟨_, by omega, rfl⟩) (by first | with_reducible assumption | exact ⟨_, by omega, rfl⟩) | with_reducible exact mn9 (by omega) | (simp (disch := omega) only [li_0, li_1, li_2, li_3, li_4, li_5, li_6, li_7, li_8, li_9, li_10, li_20, li_30, li_82, li_91, li_273, li_380, li_400, li_512, li_1000, li_2457, li_4000, nI_add, nI_1, nI_mul, nI_sub, shl_1, shl_1b]; with_reducible exact mn9b (by omega)))) ?_
        rintro _ t20 ⟨hG_8, hxv19⟩
        refine Ok.bd _ (gX11_noteAct hG_8 (by first | with_reducible assumption | (simp (disch := omega) only [li_0, li_1, li_2, li_3, li_4, li_5, li_6, li_7, li_8, li_9, li_10, li_20, li_30, li_82, li_91, li_273, li_380, li_400, li_512, li_1000, li_2457, li_4000, nI_add, nI_1, nI_mul, nI_sub, shl_1, shl_1b, nI_or, nI_xor, nI_and]; with_reducible exact ⟨_, (by first | omega | exact or9 (by omega) (by omega) | exact xor9 (by omega) (by omega)), rfl⟩) | with_reducible exact ⟨_, (by first | omega | exact or9 (by omega) (by omega) | exact xor9 (by omega) (by omega)), rfl⟩ | exact IsR.mn (by first | with_reducible assumption | exact ⟨_, by omega, rfl⟩) (by first | with_reducible assumption | exact ⟨_, by omega, rfl⟩) | exact IsR.mx (by first | with_reducible assumption | exact ⟨_, by omega, rfl⟩) (by first | with_reducible assumption | exact ⟨_, by omega, rfl⟩) | with_reducible exact mn9 (by omega) | (simp (disch := omega) only [li_0, li_1, li_2, li_3, li_4, li_5, li_6, li_7, li_8, li_9, li_10, li_20, li_30, li_82, li_91, li_273, li_380, li_400, li_512, li_1000, li_2457, li_4000, nI_add, nI_1, nI_mul, nI_sub, shl_1, shl_1b]; with_reducible exact mn9b (by omega)))) ?_
        rintro _ t23 ⟨hG_9, hxv22⟩
        refine Ok.ck (by first | (simp (disch := omega) only [li_0, li_1, li_2, li_3, li_4, li_5, li_6, li_7, li_8, li_9, li_10, li_20, li_30, li_82, li_91, li_273, li_380, li_400, li_512, li_1000, li_2457, li_4000, nI_add, nI_1, nI_mul, nI_sub, shl_1, shl_1b, nI_or, nI_xor, nI_and]; with_reducible exact inb_n (by first | omega | exact or9 (by omega) (by omega) | exact xor9 (by omega) (by omega)) (by omega)) | with_reducible exact inb_n (by omega) (by omega) | exact IsR.ib (by with_reducible assumption) (by decide) | decide) (fun g_10 => ?_)
        refine Ok.rdT hG_9.tt (ty_od (x := 141) (by decide +kernel) (inb_lt g_10)) (by omega) (fun k_11 hk_11 ek_11 => ?_)
        exact Ok.ret ⟨hG_9, True.intro⟩
set_option maxHeartbeats 4000000 in
set_option maxRecDepth 100000 in
theorem gX11_moves {σ t : St} (hG : GC σ t) {a : Int32} {b : Int32} {c : Int32} : Ok (FX11_moves a b c t) (fun r u => GC σ u ∧ (True)) := by
  unfold FX11_moves
  refine Ok.bd _ (rX11_netIn hG.tt) ?_
  rintro v1 _ ⟨rfl, hxv1⟩
  rcases v1 with _ | x4
  · refine Ok.on ?_
    exact Ok.ret ⟨hG, True.intro⟩
  · refine Ok.os ?_
    obtain ⟨hnx, ⟨ka, hka, rfl⟩, hpx, hlx, hex⟩ := hxv1 x4 rfl
    refine Ok.ck (by first | assumption | decide +kernel) (fun g_2 => ?_)
    refine Ok.bd _ (rX5_has hG.tt (by first | assumption | decide +kernel)) ?_
    rintro v7 _ ⟨rfl, hbv7, hxv7⟩
    refine Ok.ite (fun c_4 => ?_) (fun c_4 => ?_)
    · skip
      exact Ok.ret ⟨hG, True.intro⟩
    · obtain ⟨khv7, hkhv7, rfl⟩ := hxv7.resolve_left c_4
      refine Ok.bd _ (rX5_has hG.tt (by first | assumption | decide +kernel)) ?_
      rintro v12 _ ⟨rfl, hbv12, hxv12⟩
      refine Ok.ite (fun c_6 => ?_) (fun c_6 => ?_)
      · skip
        exact Ok.ret ⟨hG, True.intro⟩
      · obtain ⟨khv12, hkhv12, rfl⟩ := hxv12.resolve_left c_6
        refine Ok.bd _ (gX5_copyFrom hG (by first | assumption | decide +kernel) (by first | assumption | decide +kernel)) ?_
        rintro _ t17 ⟨hG_7, hxv16⟩
        refine Ok.bd _ (gX5_shift hG_7 (by first | assumption | decide +kernel) (by first | with_reducible assumption | (simp (disch := omega) only [li_0, li_1, li_2, li_3, li_4, li_5, li_6, li_7, li_8, li_9, li_10, li_20, li_30, li_82, li_91, li_273, li_380, li_400, li_512, li_1000, li_2457, li_4000, nI_add, nI_1, nI_mul, nI_sub, shl_1, shl_1b, nI_or, nI_xor, nI_and]; with_reducible exact ⟨_, (by first | omega | exact or9 (by omega) (by omega) | exact xor9 (by omega) (by omega)), rfl⟩) | with_reducible exact ⟨_, (by first | omega | exact or9 (by omega) (by omega) | exact xor9 (by omega) (by omega)), rfl⟩ | exact IsR.mn (by first | with_reducible assumption | exact ⟨_, by omega, rfl⟩) (by first | with_reducible assumption | exact ⟨_, by omega, rfl⟩) | exact IsR.mx (by first | with_reducible assumption | exact ⟨_, by omega, rfl⟩) (by first | with_reducible assumption | exact ⟨_, by omega, rfl⟩) | with_reducible exact mn9 (by omega) | (simp (disch := omega) only [li_0, li_1, li_2, li_3, li_4, li_5, li_6, li_7, li_8, li_9, li_10, li_20, li_30, li_82, li_91, li_273, li_380, li_400, li_512, li_1000, li_2457, li_4000, nI_add, nI_1, nI_mul, nI_sub, shl_1, shl_1b]; with_reducible exact mn9b (by omega))) (by first | with_reducible assumption | (simp (disch := omega) only [li_0, li_1, li_2, li_3, li_4, li_5, li_6, li_7, li_8, li_9, li_10, li_20, li_30, li_82, li_91, li_273, li_380, li_400, li_512, li_1000, li_2457, li_4000, nI_add, nI_1, nI_mul, nI_sub, shl_1, shl_1b, nI_or, nI_xor, nI_and]; with_reducible exact ⟨_, (by first | omega | exact or9 (by omega) (by omega) | exact xor9 (by omega) (by omega)), rfl⟩) | with_reducible exact ⟨_, (by first | omega | exact or9 (by omega) (by omega) | exact xor9 (by omega) (by omega)), rfl⟩ | exact IsR.mn (by first | with_reducible assumption | exact ⟨_, by omega, rfl⟩) (by first | with_reducible assumption | exact ⟨_, by omega, rfl⟩) | exact IsR.mx (by first | with_reducible assumption | exact ⟨_, by omega, rfl⟩) (by first | with_reducible assumption | exact ⟨_, by omega, rfl⟩) | with_reducible exact mn9 (by omega) | (simp (disch := omega) only [li_0, li_1, li_2, li_3, li_4, li_5, li_6, li_7, li_8, li_9, li_10, li_20, li_30, li_82, li_91, li_273, li_380, li_400, li_512, li_1000, li_2457, li_4000, nI_add, nI_1, nI_mul, nI_sub, shl_1, shl_1b]; with_reducible exact mn9b (by omega)))) ?_
        rintro _ t20 ⟨hG_8, hxv19⟩
        refine Ok.bd _ (gX11_noteAct hG_8 (by first | with_reducible assumption | (simp (disch := omega) only [li_0, li_1, li_2, li_3, li_4, li_5, li_6, li_7, li_8, li_9, li_10, li_20, li_30, li_82, li_91, li_273, li_380, li_400, li_512, li_1000, li_2457, li_4000, nI_add, nI_1, nI_mul, nI_sub, shl_1, shl_1b, nI_or, nI_xor, nI_and]; with_reducible exact ⟨_, (by first | omega | exact or9 (by omega) (by omega) | exact xor9 (by omega) (by omega)), rfl⟩) | with_reducible exact ⟨_, (by first | omega | exact or9 (by omega) (by omega) | exact xor9 (by omega) (by omega)), rfl⟩ | exact IsR.mn (by first | with_reducible assumption | exact ⟨_, by omega, rfl⟩) (by first | with_reducible assumption | exact ⟨_, by omega, rfl⟩) | exact IsR.mx (by first | with_reducible assumption | exact ⟨_, by omega, rfl⟩) (by first | with_reducible assumption | exact ⟨_, by omega, rfl⟩) | with_reducible exact mn9 (by omega) | (simp (disch := omega) only [li_0, li_1, li_2, li_3, li_4, li_5, li_6, li_7, li_8, li_9, li_10, li_20, li_30, li_82, li_91, li_273, li_380, li_400, li_512, li_1000, li_2457, li_4000, nI_add, nI_1, nI_mul, nI_sub, shl_1, shl_1b]; with_reducible exact mn9b (by omega)))) ?_
        rintro _ t23 ⟨hG_9, hxv22⟩
        refine Ok.ck (by first | (simp (disch := omega) only [li_0, li_1, li_2, li_3, li_4, li_5, li_6, li_7, li_8, li_9, li_10, li_20, li_30, li_82, li_91, li_273, li_380, li_400, li_512, li_1000, li_2457, li_4000, nI_add, nI_1, nI_mul, nI_sub, shl_1, shl_1b, nI_or, nI_xor, nI_and]; with_reducible exact inb_n (by first | omega | exact or9 (by omega) (by omega) | exact xor9 (by omega) (by omega)) (by omega)) | with_reducible exact inb_n (by omega) (by omega) | exact IsR.ib (by with_reducible assumption) (by decide) | decide) (fun g_10 => ?_)
        refine Ok.rdT hG_9.tt (ty_od (x := 141) (by decide +kernel) (inb_lt g_10)) (by omega) (fun k_11 hk_11 ek_11 => ?_)
        exact Ok.ret ⟨hG_9, True.intro⟩
set_option maxHeartbeats 4000000 in
set_option maxRecDepth 100000 in
theorem gX11_reverse {σ t : St} (hG : GC σ t) {a : Int32} : Ok (FX11_reverse a t) (fun r u => GC σ u ∧ (True)) := by
  unfold FX11_reverse
  refine Ok.bd _ (rX11_netIn hG.tt) ?_
  rintro v1 _ ⟨rfl, hxv1⟩
  rcases v1 with _ | x4
  · refine Ok.on ?_
    exact Ok.ret ⟨hG, True.intro⟩
  · refine Ok.os ?_
    obtain ⟨hnx, ⟨ka, hka, rfl⟩, hpx, hlx, hex⟩ := hxv1 x4 rfl
    refine Ok.ck (by first | assumption | decide +kernel) (fun g_2 => ?_)
    refine Ok.bd _ (gX5_copyFrom hG (by first | assumption | decide +kernel) (by first | assumption | decide +kernel)) ?_
    rintro _ t8 ⟨hG_3, hxv7⟩
    refine Ok.bd _ (gX5_turnRound hG_3 (by first | assumption | decide +kernel)) ?_
    rintro _ t11 ⟨hG_4, hxv10⟩
    refine Ok.bd _ (gX11_noteAct hG_4 (by first | with_reducible assumption | (simp (disch := omega) only [li_0, li_1, li_2, li_3, li_4, li_5, li_6, li_7, li_8, li_9, li_10, li_20, li_30, li_82, li_91, li_273, li_380, li_400, li_512, li_1000, li_2457, li_4000, nI_add, nI_1, nI_mul, nI_sub, shl_1, shl_1b, nI_or, nI_xor, nI_and]; with_reducible exact ⟨_, (by first | omega | exact or9 (by omega) (by omega) | exact xor9 (by omega) (by omega)), rfl⟩) | with_reducible exact ⟨_, (by first | omega | exact or9 (by omega) (by omega) | exact xor9 (by omega) (by omega)), rfl⟩ | exact IsR.mn (by first | with_reducible assumption | exact ⟨_, by omega, rfl⟩) (by first | with_reducible assumption | exact ⟨_, by omega, rfl⟩) | exact IsR.mx (by first | with_reducible assumption | exact ⟨_, by omega, rfl⟩) (by first | with_reducible assumption | exact ⟨_, by omega, rfl⟩) | with_reducible exact mn9 (by omega) | (simp (disch := omega) only [li_0, li_1, li_2, li_3, li_4, li_5, li_6, li_7, li_8, li_9, li_10, li_20, li_30, li_82, li_91, li_273, li_380, li_400, li_512, li_1000, li_2457, li_4000, nI_add, nI_1, nI_mul, nI_sub, shl_1, shl_1b]; with_reducible exact mn9b (by omega)))) ?_
    rintro _ t14 ⟨hG_5, hxv13⟩
    refine Ok.ck (by first | (simp (disch := omega) only [li_0, li_1, li_2, li_3, li_4, li_5, li_6, li_7, li_8, li_9, li_10, li_20, li_30, li_82, li_91, li_273, li_380, li_400, li_512, li_1000, li_2457, li_4000, nI_add, nI_1, nI_mul, nI_sub, shl_1, shl_1b, nI_or, nI_xor, nI_and]; with_reducible exact inb_n (by first | omega | exact or9 (by omega) (by omega) | exact xor9 (by omega) (by omega)) (by omega)) | with_reducible exact inb_n (by omega) (by omega) | exact IsR.ib (by with_reducible assumption) (by decide) | decide) (fun g_6 => ?_)
    refine Ok.rdT hG_5.tt (ty_od g_2 (inb_lt g_6)) (by omega) (fun k_7 hk_7 ek_7 => ?_)
    exact Ok.ret ⟨hG_5, True.intro⟩
set_option maxHeartbeats 4000000 in
set_option maxRecDepth 100000 in
theorem gX11_takes {σ t : St} (hG : GC σ t) {a : Int32} {b : Int32} : Ok (FX11_takes a b t) (fun r u => GC σ u ∧ (True)) := by
  unfold FX11_takes
  refine Ok.bd _ (gX11_findingOf hG) ?_
  rintro v1 t2 ⟨hG_1, hxv1⟩
  rcases v1 with _ | x4
  · refine Ok.on ?_
    exact Ok.ret ⟨hG_1, True.intro⟩
  · refine Ok.os ?_
    obtain ⟨hnx, ⟨ka, hka, rfl⟩⟩ := hxv1 x4 rfl
    refine Ok.ck (by first | assumption | decide +kernel) (fun g_2 => ?_)
    refine Ok.ck (by first | (simp (disch := omega) only [li_0, li_1, li_2, li_3, li_4, li_5, li_6, li_7, li_8, li_9, li_10, li_20, li_30, li_82, li_91, li_273, li_380, li_400, li_512, li_1000, li_2457, li_4000, nI_add, nI_1, nI_mul, nI_sub, shl_1, shl_1b, nI_or, nI_xor, nI_and]; with_reducible exact inb_n (by first | omega | exact or9 (by omega) (by omega) | exact xor9 (by omega) (by omega)) (by omega)) | with_reducible exact inb_n (by omega) (by omega) | exact IsR.ib (by with_reducible assumption) (by decide) | decide) (fun g_3 => ?_)
    refine Ok.ck (by first | assumption | exact el_10 (by first | with_reducible assumption | (simp (disch := omega) only [li_0, li_1, li_2, li_3, li_4, li_5, li_6, li_7, li_8, li_9, li_10, li_20, li_30, li_82, li_91, li_273, li_380, li_400, li_512, li_1000, li_2457, li_4000, nI_add, nI_1, nI_mul, nI_sub, shl_1, shl_1b, nI_or, nI_xor, nI_and]; with_reducible exact ⟨_, (by first | omega | exact or9 (by omega) (by omega) | exact xor9 (by omega) (by omega)), rfl⟩) | with_reducible exact ⟨_, (by first | omega | exact or9 (by omega) (by omega) | exact xor9 (by omega) (by omega)), rfl⟩ | exact IsR.mn (by first | with_reducible assumption | exact ⟨_, by omega, rfl⟩) (by first | with_reducible assumption | exact ⟨_, by omega, rfl⟩) | exact IsR.mx (by first | with_reducible assumption | exact ⟨_, by omega, rfl⟩) (by first | with_reducible assumption | exact ⟨_, by omega, rfl⟩) | with_reducible exact mn9 (by omega) | (simp (disch := omega) only [li_0, li_1, li_2, li_3, li_4, li_5, li_6, li_7, li_8, li_9, li_10, li_20, li_30, li_82, li_91, li_273, li_380, li_400, li_512, li_1000, li_2457, li_4000, nI_add, nI_1, nI_mul, nI_sub, shl_1, shl_1b]; with_reducible exact mn9b (by omega)))) (fun g_4 => ?_)
    refine Ok.bd _ (gX5_copyFrom hG_1 (by first | assumption | decide +kernel) (by first | assumption | decide +kernel)) ?_
    rintro _ t10 ⟨hG_5, hxv9⟩
    refine Ok.cp (fun t12 w_6 => ?_)
    have hG_7 := hG_5.cp w_6 (by have := net_pl g_4; omega) (fun i hi => Or.inr (by rw [(ty_fr g_2 hi), (ty_od g_4 hi)]))
    refine Ok.bd _ (gX11_noteAct hG_7 (by first | with_reducible assumption | (simp (disch := omega) only [li_0, li_1, li_2, li_3, li_4, li_5, li_6, li_7, li_8, li_9, li_10, li_20, li_30, li_82, li_91, li_273, li_380, li_400, li_512, li_1000, li_2457, li_4000, nI_add, nI_1, nI_mul, nI_sub, shl_1, shl_1b, nI_or, nI_xor, nI_and]; with_reducible exact ⟨_, (by first | omega | exact or9 (by omega) (by omega) | exact xor9 (by omega) (by omega)), rfl⟩) | with_reducible exact ⟨_, (by first | omega | exact or9 (by omega) (by omega) | exact xor9 (by omega) (by omega)), rfl⟩ | exact IsR.mn (by first | with_reducible assumption | exact ⟨_, by omega, rfl⟩) (by first | with_reducible assumption | exact ⟨_, by omega, rfl⟩) | exact IsR.mx (by first | with_reducible assumption | exact ⟨_, by omega, rfl⟩) (by first | with_reducible assumption | exact ⟨_, by omega, rfl⟩) | with_reducible exact mn9 (by omega) | (simp (disch := omega) only [li_0, li_1, li_2, li_3, li_4, li_5, li_6, li_7, li_8, li_9, li_10, li_20, li_30, li_82, li_91, li_273, li_380, li_400, li_512, li_1000, li_2457, li_4000, nI_add, nI_1, nI_mul, nI_sub, shl_1, shl_1b]; with_reducible exact mn9b (by omega)))) ?_
    rintro _ t15 ⟨hG_8, hxv14⟩
    refine Ok.bd _ (rX5_placesUnlike hG_8.tt (by first | assumption | decide +kernel) (by first | assumption | decide +kernel)) ?_
    rintro v17 _ ⟨rfl, hxv17⟩
    exact Ok.ret ⟨hG_8, True.intro⟩
set_option maxHeartbeats 4000000 in
set_option maxRecDepth 100000 in
theorem gX11_polish {σ t : St} (hG : GC σ t) {a : Int32} {b : Int32} : Ok (FX11_polish a b t) (fun r u => GC σ u ∧ (True)) := by
  unfold FX11_polish
  refine Ok.bd _ (rX11_netIn hG.tt) ?_
  rintro v1 _ ⟨rfl, hxv1⟩
  rcases v1 with _ | x4
  · refine Ok.on ?_
    exact Ok.ret ⟨hG, True.intro⟩
  · refine Ok.os ?_
    obtain ⟨hnx, ⟨ka, hka, rfl⟩, hpx, hlx, hex⟩ := hxv1 x4 rfl
    refine Ok.ck (by first | assumption | decide +kernel) (fun g_2 => ?_)
    refine Ok.bd _ (rX11_isMeasure hG.tt) ?_
    rintro v7 _ ⟨rfl, hbv7, hxv7⟩
    refine Ok.ite (fun c_4 => ?_) (fun c_4 => ?_)
    · skip
      exact Ok.ret ⟨hG, True.intro⟩
    · obtain ⟨kmv7, hkmv7, rfl⟩ := hxv7.resolve_left c_4
      refine Ok.bd _ (gX5_copyFrom hG (by first | assumption | decide +kernel) (by first | assumption | decide +kernel)) ?_
      rintro _ t12 ⟨hG_5, hxv11⟩
      refine Ok.bd _ (gX8_polishRow hG_5 (by first | assumption | decide +kernel)) ?_
      rintro v14 t15 ⟨hG_6, hxv14⟩
      refine Ok.bd _ (gX11_noteAct hG_6 (by first | with_reducible assumption | (simp (disch := omega) only [li_0, li_1, li_2, li_3, li_4, li_5, li_6, li_7, li_8, li_9, li_10, li_20, li_30, li_82, li_91, li_273, li_380, li_400, li_512, li_1000, li_2457, li_4000, nI_add, nI_1, nI_mul, nI_sub, shl_1, shl_1b, nI_or, nI_xor, nI_and]; with_reducible exact ⟨_, (by first | omega | exact or9 (by omega) (by omega) | exact xor9 (by omega) (by omega)), rfl⟩) | with_reducible exact ⟨_, (by first | omega | exact or9 (by omega) (by omega) | exact xor9 (by omega) (by omega)), rfl⟩ | exact IsR.mn (by first | with_reducible assumption | exact ⟨_, by omega, rfl⟩) (by first | with_reducible assumption | exact ⟨_, by omega, rfl⟩) | exact IsR.mx (by first | with_reducible assumption | exact ⟨_, by omega, rfl⟩) (by first | with_reducible assumption | exact ⟨_, by omega, rfl⟩) | with_reducible exact mn9 (by omega) | (simp (disch := omega) only [li_0, li_1, li_2, li_3, li_4, li_5, li_6, li_7, li_8, li_9, li_10, li_20, li_30, li_82, li_91, li_273, li_380, li_400, li_512, li_1000, li_2457, li_4000, nI_add, nI_1, nI_mul, nI_sub, shl_1, shl_1b]; with_reducible exact mn9b (by omega)))) ?_
      rintro _ t18 ⟨hG_7, hxv17⟩
      exact Ok.ret ⟨hG_7, True.intro⟩
set_option maxHeartbeats 4000000 in
set_option maxRecDepth 100000 in
theorem gX11_polished {σ t : St} (hG : GC σ t) {a : Int32} {b : Int32} : Ok (FX11_polished a b t) (fun r u => GC σ u ∧ (True)) := by
  unfold FX11_polished
  refine Ok.bd _ (rX11_netIn hG.tt) ?_
  rintro v1 _ ⟨rfl, hxv1⟩
  rcases v1 with _ | x4
  · refine Ok.on ?_
    exact Ok.ret ⟨hG, True.intro⟩
  · refine Ok.os ?_
    obtain ⟨hnx, ⟨ka, hka, rfl⟩, hpx, hlx, hex⟩ := hxv1 x4 rfl
    refine Ok.ck (by first | assumption | decide +kernel) (fun g_2 => ?_)
    refine Ok.bd _ (rX11_isMeasure hG.tt) ?_
    rintro v7 _ ⟨rfl, hbv7, hxv7⟩
    refine Ok.ite (fun c_4 => ?_) (fun c_4 => ?_)
    · skip
      exact Ok.ret ⟨hG, True.intro⟩
    · obtain ⟨kmv7, hkmv7, rfl⟩ := hxv7.resolve_left c_4
      refine Ok.bd _ (gX5_copyFrom hG (by first | assumption | decide +kernel) (by first | assumption | decide +kernel)) ?_
      rintro _ t12 ⟨hG_5, hxv11⟩
      refine Ok.bd _ (gX8_polishRow hG_5 (by first | assumption | decide +kernel)) ?_
      rintro v14 t15 ⟨hG_6, hxv14⟩
      refine Ok.bd _ (rX8_measured hG_6.tt (by first | assumption | decide +kernel)) ?_
      rintro v17 _ ⟨rfl, hxv17⟩
      exact Ok.ret ⟨hG_6, True.intro⟩
set_option maxHeartbeats 4000000 in
set_option maxRecDepth 100000 in
theorem gX11_greedy {σ t : St} (hG : GC σ t) {a : Int32} {b : Int32} : Ok (FX11_greedy a b t) (fun r u => GC σ u ∧ (True)) := by
  unfold FX11_greedy
  refine Ok.bd _ (rX11_netIn hG.tt) ?_
  rintro v1 _ ⟨rfl, hxv1⟩
  rcases v1 with _ | x4
  · refine Ok.on ?_
    exact Ok.ret ⟨hG, True.intro⟩
  · refine Ok.os ?_
    obtain ⟨hnx, ⟨ka, hka, rfl⟩, hpx, hlx, hex⟩ := hxv1 x4 rfl
    refine Ok.ck (by first | assumption | decide +kernel) (fun g_2 => ?_)
    refine Ok.bd _ (rX11_isPriced hG.tt) ?_
    rintro v7 _ ⟨rfl, hbv7, hxv7⟩
    refine Ok.ite (fun c_4 => ?_) (fun c_4 => ?_)
    · try simp (disch := omega) only [li_0, li_1, li_2, li_3, li_4, li_5, li_6, li_7, li_8, li_9, li_10, li_20, li_30, li_82, li_91, li_273, li_380, li_400, li_512, li_1000, li_2457, li_4000, nI_add, nI_1, nI_mul, nI_sub, shl_1, shl_1b, nI_leP, nI_ltP, nI_eqP, Nat.not_le, Nat.not_lt] at c_4
      exact Ok.ret ⟨hG, True.intro⟩
    · try simp (disch := omega) only [li_0, li_1, li_2, li_3, li_4, li_5, li_6, li_7, li_8, li_9, li_10, li_20, li_30, li_82, li_91, li_273, li_380, li_400, li_512, li_1000, li_2457, li_4000, nI_add, nI_1, nI_mul, nI_sub, shl_1, shl_1b, nI_leP, nI_ltP, nI_eqP, Nat.not_le, Nat.not_lt] at c_4
      refine Ok.bd _ (gX5_copyFrom hG (by first | assumption | decide +kernel) (by first | assumption | decide +kernel)) ?_
      rintro _ t12 ⟨hG_5, hxv11⟩
      refine Ok.bd _ (gX8_makeGreedy hG_5 (by first | assumption | decide +kernel)) ?_
      rintro _ t15 ⟨hG_6, hxv14⟩
      refine Ok.bd _ (gX11_noteAct hG_6 (by first | with_reducible assumption | (simp (disch := omega) only [li_0, li_1, li_2, li_3, li_4, li_5, li_6, li_7, li_8, li_9, li_10, li_20, li_30, li_82, li_91, li_273, li_380, li_400, li_512, li_1000, li_2457, li_4000, nI_add, nI_1, nI_mul, nI_sub, shl_1, shl_1b, nI_or, nI_xor, nI_and]; with_reducible exact ⟨_, (by first | omega | exact or9 (by omega) (by omega) | exact xor9 (by omega) (by omega)), rfl⟩) | with_reducible exact ⟨_, (by first | omega | exact or9 (by omega) (by omega) | exact xor9 (by omega) (by omega)), rfl⟩ | exact IsR.mn (by first | with_reducible assumption | exact ⟨_, by omega, rfl⟩) (by first | with_reducible assumption | exact ⟨_, by omega, rfl⟩) | exact IsR.mx (by first | with_reducible assumption | exact ⟨_, by omega, rfl⟩) (by first | with_reducible assumption | exact ⟨_, by omega, rfl⟩) | with_reducible exact mn9 (by omega) | (simp (disch := omega) only [li_0, li_1, li_2, li_3, li_4, li_5, li_6, li_7, li_8, li_9, li_10, li_20, li_30, li_82, li_91, li_273, li_380, li_400, li_512, li_1000, li_2457, li_4000, nI_add, nI_1, nI_mul, nI_sub, shl_1, shl_1b]; with_reducible exact mn9b (by omega)))) ?_
      rintro _ t18 ⟨hG_7, hxv17⟩
      refine Ok.bd _ (rX8_measured hG_7.tt (by first | assumption | decide +kernel)) ?_
      rintro v20 _ ⟨rfl, hxv20⟩
      exact Ok.ret ⟨hG_7, True.intro⟩
set_option maxHeartbeats 4000000 in
set_option maxRecDepth 100000 in
theorem gX11_layers {σ t : St} (hG : GC σ t) {a : Int32} {b : Int32} : Ok (FX11_layers a b t) (fun r u => GC σ u ∧ (True)) := by
  unfold FX11_layers
  refine Ok.bd _ (rX11_netIn hG.tt) ?_
  rintro v1 _ ⟨rfl, hxv1⟩
  rcases v1 with _ | x4
  · refine Ok.on ?_
    exact Ok.ret ⟨hG, True.intro⟩
  · refine Ok.os ?_
    obtain ⟨hnx, ⟨ka, hka, rfl⟩, hpx, hlx, hex⟩ := hxv1 x4 rfl
    refine Ok.ck (by first | assumption | decide +kernel) (fun g_2 => ?_)
    refine Ok.bd _ (rX5_has hG.tt (by first | assumption | decide +kernel)) ?_
    rintro v7 _ ⟨rfl, hbv7, hxv7⟩
    refine Ok.ite (fun c_4 => ?_) (fun c_4 => ?_)
    · skip
      exact Ok.ret ⟨hG, True.intro⟩
    · obtain ⟨khv7, hkhv7, rfl⟩ := hxv7.resolve_left c_4
      refine Ok.bd _ (gX5_copyFrom hG (by first | assumption | decide +kernel) (by first | assumption | decide +kernel)) ?_
      rintro _ t12 ⟨hG_5, hxv11⟩
      refine Ok.bd _ (gX8_makeLayers hG_5 (by first | assumption | decide +kernel)) ?_
      rintro _ t15 ⟨hG_6, hxv14⟩
      refine Ok.bd _ (gX11_noteAct hG_6 (by first | with_reducible assumption | (simp (disch := omega) only [li_0, li_1, li_2, li_3, li_4, li_5, li_6, li_7, li_8, li_9, li_10, li_20, li_30, li_82, li_91, li_273, li_380, li_400, li_512, li_1000, li_2457, li_4000, nI_add, nI_1, nI_mul, nI_sub, shl_1, shl_1b, nI_or, nI_xor, nI_and]; with_reducible exact ⟨_, (by first | omega | exact or9 (by omega) (by omega) | exact xor9 (by omega) (by omega)), rfl⟩) | with_reducible exact ⟨_, (by first | omega | exact or9 (by omega) (by omega) | exact xor9 (by omega) (by omega)), rfl⟩ | exact IsR.mn (by first | with_reducible assumption | exact ⟨_, by omega, rfl⟩) (by first | with_reducible assumption | exact ⟨_, by omega, rfl⟩) | exact IsR.mx (by first | with_reducible assumption | exact ⟨_, by omega, rfl⟩) (by first | with_reducible assumption | exact ⟨_, by omega, rfl⟩) | with_reducible exact mn9 (by omega) | (simp (disch := omega) only [li_0, li_1, li_2, li_3, li_4, li_5, li_6, li_7, li_8, li_9, li_10, li_20, li_30, li_82, li_91, li_273, li_380, li_400, li_512, li_1000, li_2457, li_4000, nI_add, nI_1, nI_mul, nI_sub, shl_1, shl_1b]; with_reducible exact mn9b (by omega)))) ?_
      rintro _ t18 ⟨hG_7, hxv17⟩
      refine Ok.bd _ (rX5_placesUnlike hG_7.tt (by first | assumption | decide +kernel) (by first | assumption | decide +kernel)) ?_
      rintro v20 _ ⟨rfl, hxv20⟩
      exact Ok.ret ⟨hG_7, True.intro⟩
set_option maxHeartbeats 4000000 in
set_option maxRecDepth 100000 in
theorem gX11_adds {σ t : St} (hG : GC σ t) {a : Int32} {b : Int32} {c : Int32} {d : Int32} : Ok (FX11_adds a b c d t) (fun r u => GC σ u ∧ (True)) := by
  unfold FX11_adds
  refine Ok.bd _ (rX11_netIn hG.tt) ?_
  rintro v1 _ ⟨rfl, hxv1⟩
  rcases v1 with _ | x4
  · refine Ok.on ?_
    exact Ok.ret ⟨hG, True.intro⟩
  · refine Ok.os ?_
    obtain ⟨hnx, ⟨ka, hka, rfl⟩, hpx, hlx, hex⟩ := hxv1 x4 rfl
    refine Ok.ck (by first | assumption | decide +kernel) (fun g_2 => ?_)
    refine Ok.bd _ (rX5_hasTwo hG.tt (by first | assumption | decide +kernel)) ?_
    rintro v7 _ ⟨rfl, hbv7, hxv7⟩
    refine Ok.ite (fun c_4 => ?_) (fun c_4 => ?_)
    · skip
      exact Ok.ret ⟨hG, True.intro⟩
    · obtain ⟨⟨khv7, hkhv7, rfl⟩, ⟨kiv7, hkiv7, rfl⟩⟩ := hxv7.resolve_left c_4
      refine Ok.ite (fun c_5 => ?_) (fun c_5 => ?_)
      · try simp (disch := omega) only [li_0, li_1, li_2, li_3, li_4, li_5, li_6, li_7, li_8, li_9, li_10, li_20, li_30, li_82, li_91, li_273, li_380, li_400, li_512, li_1000, li_2457, li_4000, nI_add, nI_1, nI_mul, nI_sub, shl_1, shl_1b, nI_leP, nI_ltP, nI_eqP, Nat.not_le, Nat.not_lt] at c_5
        exact Ok.ret ⟨hG, True.intro⟩
      · try simp (disch := omega) only [li_0, li_1, li_2, li_3, li_4, li_5, li_6, li_7, li_8, li_9, li_10, li_20, li_30, li_82, li_91, li_273, li_380, li_400, li_512, li_1000, li_2457, li_4000, nI_add, nI_1, nI_mul, nI_sub, shl_1, shl_1b, nI_leP, nI_ltP, nI_eqP, Nat.not_le, Nat.not_lt] at c_5
        refine Ok.ite (fun c_6 => ?_) (fun c_6 => ?_)
        · try simp (disch := omega) only [li_0, li_1, li_2, li_3, li_4, li_5, li_6, li_7, li_8, li_9, li_10, li_20, li_30, li_82, li_91, li_273, li_380, li_400, li_512, li_1000, li_2457, li_4000, nI_add, nI_1, nI_mul, nI_sub, shl_1, shl_1b, nI_leP, nI_ltP, nI_eqP, Nat.not_le, Nat.not_lt] at c_6
          have hd10 := ge19 (by assumption) c_6
          refine Ok.bd _ (rX5_weightOf hG.tt (by first | assumption | decide +kernel) (by first | with_reducible assumption | (simp (disch := omega) only [li_0, li_1, li_2, li_3, li_4, li_5, li_6, li_7, li_8, li_9, li_10, li_20, li_30, li_82, li_91, li_273, li_380, li_400, li_512, li_1000, li_2457, li_4000, nI_add, nI_1, nI_mul, nI_sub, shl_1, shl_1b, nI_or, nI_xor, nI_and]; with_reducible exact ⟨_, (by first | omega | exact or9 (by omega) (by omega) | exact xor9 (by omega) (by omega)), rfl⟩) | with_reducible exact ⟨_, (by first | omega | exact or9 (by omega) (by omega) | exact xor9 (by omega) (by omega)), rfl⟩ | exact IsR.mn (by first | with_reducible assumption | exact ⟨_, by omega, rfl⟩) (by first | with_reducible assumption | exact ⟨_, by omega, rfl⟩) | exact IsR.mx (by first | with_reducible assumption | exact ⟨_, by omega, rfl⟩) (by first | with_reducible assumption | exact ⟨_, by omega, rfl⟩) | with_reducible exact mn9 (by omega) | (simp (disch := omega) only [li_0, li_1, li_2, li_3, li_4, li_5, li_6, li_7, li_8, li_9, li_10, li_20, li_30, li_82, li_91, li_273, li_380, li_400, li_512, li_1000, li_2457, li_4000, nI_add, nI_1, nI_mul, nI_sub, shl_1, shl_1b]; with_reducible exact mn9b (by omega))) (by first | with_reducible assumption | (simp (disch := omega) only [li_0, li_1, li_2, li_3, li_4, li_5, li_6, li_7, li_8, li_9, li_10, li_20, li_30, li_82, li_91, li_273, li_380, li_400, li_512, li_1000, li_2457, li_4000, nI_add, nI_1, nI_mul, nI_sub, shl_1, shl_1b, nI_or, nI_xor, nI_and]; with_reducible exact ⟨_, (by first | omega | exact or9 (by omega) (by omega) | exact xor9 (by omega) (by omega)), rfl⟩) | with_reducible exact ⟨_, (by first | omega | exact or9 (by omega) (by omega) | exact xor9 (by omega) (by omega)), rfl⟩ | exact IsR.mn (by first | with_reducible assumption | exact ⟨_, by omega, rfl⟩) (by first | with_reducible assumption | exact ⟨_, by omega, rfl⟩) | exact IsR.mx (by first | with_reducible assumption | exact ⟨_, by omega, rfl⟩) (by first | with_reducible assumption | exact ⟨_, by omega, rfl⟩) | with_reducible exact mn9 (by omega) | (simp (disch := omega) only [li_0, li_1, li_2, li_3, li_4, li_5, li_6, li_7, li_8, li_9, li_10, li_20, li_30, li_82, li_91, li_273, li_380, li_400, li_512, li_1000, li_2457, li_4000, nI_add, nI_1, nI_mul, nI_sub, shl_1, shl_1b]; with_reducible exact mn9b (by omega)))) ?_
          rintro _ _ ⟨rfl, kv15, hv15, rfl⟩
          refine Ok.ite (fun c_8 => ?_) (fun c_8 => ?_)
          · try simp (disch := omega) only [li_0, li_1, li_2, li_3, li_4, li_5, li_6, li_7, li_8, li_9, li_10, li_20, li_30, li_82, li_91, li_273, li_380, li_400, li_512, li_1000, li_2457, li_4000, nI_add, nI_1, nI_mul, nI_sub, shl_1, shl_1b, nI_leP, nI_ltP, nI_eqP, Nat.not_le, Nat.not_lt] at c_8
            refine Ok.rd (fun v29 hv29 => ?_)
            refine Ok.ite (fun c_9 => ?_) (fun c_9 => ?_)
            · try simp (disch := omega) only [li_0, li_1, li_2, li_3, li_4, li_5, li_6, li_7, li_8, li_9, li_10, li_20, li_30, li_82, li_91, li_273, li_380, li_400, li_512, li_1000, li_2457, li_4000, nI_add, nI_1, nI_mul, nI_sub, shl_1, shl_1b, nI_leP, nI_ltP, nI_eqP, Nat.not_le, Nat.not_lt] at c_9
              refine Ok.bd _ (gX5_copyFrom hG (by first | assumption | decide +kernel) (by first | assumption | decide +kernel)) ?_
              rintro _ t33 ⟨hG_10, hxv32⟩
              refine Ok.bd _ (gX5_setWeight hG_10 (by first | assumption | decide +kernel) (by first | with_reducible assumption | (simp (disch := omega) only [li_0, li_1, li_2, li_3, li_4, li_5, li_6, li_7, li_8, li_9, li_10, li_20, li_30, li_82, li_91, li_273, li_380, li_400, li_512, li_1000, li_2457, li_4000, nI_add, nI_1, nI_mul, nI_sub, shl_1, shl_1b, nI_or, nI_xor, nI_and]; with_reducible exact ⟨_, (by first | omega | exact or9 (by omega) (by omega) | exact xor9 (by omega) (by omega)), rfl⟩) | with_reducible exact ⟨_, (by first | omega | exact or9 (by omega) (by omega) | exact xor9 (by omega) (by omega)), rfl⟩ | exact IsR.mn (by first | with_reducible assumption | exact ⟨_, by omega, rfl⟩) (by first | with_reducible assumption | exact ⟨_, by omega, rfl⟩) | exact IsR.mx (by first | with_reducible assumption | exact ⟨_, by omega, rfl⟩) (by first | with_reducible assumption | exact ⟨_, by omega, rfl⟩) | with_reducible exact mn9 (by omega) | (simp (disch := omega) only [li_0, li_1, li_2, li_3, li_4, li_5, li_6, li_7, li_8, li_9, li_10, li_20, li_30, li_82, li_91, li_273, li_380, li_400, li_512, li_1000, li_2457, li_4000, nI_add, nI_1, nI_mul, nI_sub, shl_1, shl_1b]; with_reducible exact mn9b (by omega))) (by first | with_reducible assumption | (simp (disch := omega) only [li_0, li_1, li_2, li_3, li_4, li_5, li_6, li_7, li_8, li_9, li_10, li_20, li_30, li_82, li_91, li_273, li_380, li_400, li_512, li_1000, li_2457, li_4000, nI_add, nI_1, nI_mul, nI_sub, shl_1, shl_1b, nI_or, nI_xor, nI_and]; with_reducible exact ⟨_, (by first | omega | exact or9 (by omega) (by omega) | exact xor9 (by omega) (by omega)), rfl⟩) | with_reducible exact ⟨_, (by first | omega | exact or9 (by omega) (by omega) | exact xor9 (by omega) (by omega)), rfl⟩ | exact IsR.mn (by first | with_reducible assumption | exact ⟨_, by omega, rfl⟩) (by first | with_reducible assumption | exact ⟨_, by omega, rfl⟩) | exact IsR.mx (by first | with_reducible assumption | exact ⟨_, by omega, rfl⟩) (by first | with_reducible assumption | exact ⟨_, by omega, rfl⟩) | with_reducible exact mn9 (by omega) | (simp (disch := omega) only [li_0, li_1, li_2, li_3, li_4, li_5, li_6, li_7, li_8, li_9, li_10, li_20, li_30, li_82, li_91, li_273, li_380, li_400, li_512, li_1000, li_2457, li_4000, nI_add, nI_1, nI_mul, nI_sub, shl_1, shl_1b]; with_reducible exact mn9b (by omega))) (by first | with_reducible assumption | (simp (disch := omega) only [li_0, li_1, li_2, li_3, li_4, li_5, li_6, li_7, li_8, li_9, li_10, li_20, li_30, li_82, li_91, li_273, li_380, li_400, li_512, li_1000, li_2457, li_4000, nI_add, nI_1, nI_mul, nI_sub, shl_1, shl_1b, nI_or, nI_xor, nI_and]; with_reducible exact ⟨_, (by first | omega | exact or9 (by omega) (by omega) | exact xor9 (by omega) (by omega)), rfl⟩) | with_reducible exact ⟨_, (by first | omega | exact or9 (by omega) (by omega) | exact xor9 (by omega) (by omega)), rfl⟩ | exact IsR.mn (by first | with_reducible assumption | exact ⟨_, by omega, rfl⟩) (by first | with_reducible assumption | exact ⟨_, by omega, rfl⟩) | exact IsR.mx (by first | with_reducible assumption | exact ⟨_, by omega, rfl⟩) (by first | with_reducible assumption | exact ⟨_, by omega, rfl⟩) | with_reducible exact mn9 (by omega) | (simp (disch := omega) only [li_0, li_1, li_2, li_3, li_4, li_5, li_6, li_7, li_8, li_9, li_10, li_20, li_30, li_82, li_91, li_273, li_380, li_400, li_512, li_1000, li_2457, li_4000, nI_add, nI_1, nI_mul, nI_sub, shl_1, shl_1b]; with_reducible exact mn9b (by omega)))) ?_
              rintro _ t36 ⟨hG_11, hxv35⟩
              refine Ok.bd _ (gX11_noteAct hG_11 (by first | with_reducible assumption | (simp (disch := omega) only [li_0, li_1, li_2, li_3, li_4, li_5, li_6, li_7, li_8, li_9, li_10, li_20, li_30, li_82, li_91, li_273, li_380, li_400, li_512, li_1000, li_2457, li_4000, nI_add, nI_1, nI_mul, nI_sub, shl_1, shl_1b, nI_or, nI_xor, nI_and]; with_reducible exact ⟨_, (by first | omega | exact or9 (by omega) (by omega) | exact xor9 (by omega) (by omega)), rfl⟩) | with_reducible exact ⟨_, (by first | omega | exact or9 (by omega) (by omega) | exact xor9 (by omega) (by omega)), rfl⟩ | exact IsR.mn (by first | with_reducible assumption | exact ⟨_, by omega, rfl⟩) (by first | with_reducible assumption | exact ⟨_, by omega, rfl⟩) | exact IsR.mx (by first | with_reducible assumption | exact ⟨_, by omega, rfl⟩) (by first | with_reducible assumption | exact ⟨_, by omega, rfl⟩) | with_reducible exact mn9 (by omega) | (simp (disch := omega) only [li_0, li_1, li_2, li_3, li_4, li_5, li_6, li_7, li_8, li_9, li_10, li_20, li_30, li_82, li_91, li_273, li_380, li_400, li_512, li_1000, li_2457, li_4000, nI_add, nI_1, nI_mul, nI_sub, shl_1, shl_1b]; with_reducible exact mn9b (by omega)))) ?_
              rintro _ t39 ⟨hG_12, hxv38⟩
              exact Ok.ret ⟨hG_12, True.intro⟩
            · try simp (disch := omega) only [li_0, li_1, li_2, li_3, li_4, li_5, li_6, li_7, li_8, li_9, li_10, li_20, li_30, li_82, li_91, li_273, li_380, li_400, li_512, li_1000, li_2457, li_4000, nI_add, nI_1, nI_mul, nI_sub, shl_1, shl_1b, nI_leP, nI_ltP, nI_eqP, Nat.not_le, Nat.not_lt] at c_9
              exact Ok.ret ⟨hG, True.intro⟩
          · try simp (disch := omega) only [li_0, li_1, li_2, li_3, li_4, li_5, li_6, li_7, li_8, li_9, li_10, li_20, li_30, li_82, li_91, li_273, li_380, li_400, li_512, li_1000, li_2457, li_4000, nI_add, nI_1, nI_mul, nI_sub, shl_1, shl_1b, nI_leP, nI_ltP, nI_eqP, Nat.not_le, Nat.not_lt] at c_8
            refine Ok.bd _ (gX5_copyFrom hG (by first | assumption | decide +kernel) (by first | assumption | decide +kernel)) ?_
            rintro _ t20 ⟨hG_13, hxv19⟩
            refine Ok.bd _ (gX5_setWeight hG_13 (by first | assumption | decide +kernel) (by first | with_reducible assumption | (simp (disch := omega) only [li_0, li_1, li_2, li_3, li_4, li_5, li_6, li_7, li_8, li_9, li_10, li_20, li_30, li_82, li_91, li_273, li_380, li_400, li_512, li_1000, li_2457, li_4000, nI_add, nI_1, nI_mul, nI_sub, shl_1, shl_1b, nI_or, nI_xor, nI_and]; with_reducible exact ⟨_, (by first | omega | exact or9 (by omega) (by omega) | exact xor9 (by omega) (by omega)), rfl⟩) | with_reducible exact ⟨_, (by first | omega | exact or9 (by omega) (by omega) | exact xor9 (by omega) (by omega)), rfl⟩ | exact IsR.mn (by first | with_reducible assumption | exact ⟨_, by omega, rfl⟩) (by first | with_reducible assumption | exact ⟨_, by omega, rfl⟩) | exact IsR.mx (by first | with_reducible assumption | exact ⟨_, by omega, rfl⟩) (by first | with_reducible assumption | exact ⟨_, by omega, rfl⟩) | with_reducible exact mn9 (by omega) | (simp (disch := omega) only [li_0, li_1, li_2, li_3, li_4, li_5, li_6, li_7, li_8, li_9, li_10, li_20, li_30, li_82, li_91, li_273, li_380, li_400, li_512, li_1000, li_2457, li_4000, nI_add, nI_1, nI_mul, nI_sub, shl_1, shl_1b]; with_reducible exact mn9b (by omega))) (by first | with_reducible assumption | (simp (disch := omega) only [li_0, li_1, li_2, li_3, li_4, li_5, li_6, li_7, li_8, li_9, li_10, li_20, li_30, li_82, li_91, li_273, li_380, li_400, li_512, li_1000, li_2457, li_4000, nI_add, nI_1, nI_mul, nI_sub, shl_1, shl_1b, nI_or, nI_xor, nI_and]; with_reducible exact ⟨_, (by first | omega | exact or9 (by omega) (by omega) | exact xor9 (by omega) (by omega)), rfl⟩) | with_reducible exact ⟨_, (by first | omega | exact or9 (by omega) (by omega) | exact xor9 (by omega) (by omega)), rfl⟩ | exact IsR.mn (by first | with_reducible assumption | exact ⟨_, by omega, rfl⟩) (by first | with_reducible assumption | exact ⟨_, by omega, rfl⟩) | exact IsR.mx (by first | with_reducible assumption | exact ⟨_, by omega, rfl⟩) (by first | with_reducible assumption | exact ⟨_, by omega, rfl⟩) | with_reducible exact mn9 (by omega) | (simp (disch := omega) only [li_0, li_1, li_2, li_3, li_4, li_5, li_6, li_7, li_8, li_9, li_10, li_20, li_30, li_82, li_91, li_273, li_380, li_400, li_512, li_1000, li_2457, li_4000, nI_add, nI_1, nI_mul, nI_sub, shl_1, shl_1b]; with_reducible exact mn9b (by omega))) (by first | with_reducible assumption | (simp (disch := omega) only [li_0, li_1, li_2, li_3, li_4, li_5, li_6, li_7, li_8, li_9, li_10, li_20, li_30, li_82, li_91, li_273, li_380, li_400, li_512, li_1000, li_2457, li_4000, nI_add, nI_1, nI_mul, nI_sub, shl_1, shl_1b, nI_or, nI_xor, nI_and]; with_reducible exact ⟨_, (by first | omega | exact or9 (by omega) (by omega) | exact xor9 (by omega) (by omega)), rfl⟩) | with_reducible exact ⟨_, (by first | omega | exact or9 (by omega) (by omega) | exact xor9 (by omega) (by omega)), rfl⟩ | exact IsR.mn (by first | with_reducible assumption | exact ⟨_, by omega, rfl⟩) (by first | with_reducible assumption | exact ⟨_, by omega, rfl⟩) | exact IsR.mx (by first | with_reducible assumption | exact ⟨_, by omega, rfl⟩) (by first | with_reducible assumption | exact ⟨_, by omega, rfl⟩) | with_reducible exact mn9 (by omega) | (simp (disch := omega) only [li_0, li_1, li_2, li_3, li_4, li_5, li_6, li_7, li_8, li_9, li_10, li_20, li_30, li_82, li_91, li_273, li_380, li_400, li_512, li_1000, li_2457, li_4000, nI_add, nI_1, nI_mul, nI_sub, shl_1, shl_1b]; with_reducible exact mn9b (by omega)))) ?_
            rintro _ t23 ⟨hG_14, hxv22⟩
            refine Ok.bd _ (gX11_noteAct hG_14 (by first | with_reducible assumption | (simp (disch := omega) only [li_0, li_1, li_2, li_3, li_4, li_5, li_6, li_7, li_8, li_9, li_10, li_20, li_30, li_82, li_91, li_273, li_380, li_400, li_512, li_1000, li_2457, li_4000, nI_add, nI_1, nI_mul, nI_sub, shl_1, shl_1b, nI_or, nI_xor, nI_and]; with_reducible exact ⟨_, (by first | omega | exact or9 (by omega) (by omega) | exact xor9 (by omega) (by omega)), rfl⟩) | with_reducible exact ⟨_, (by first | omega | exact or9 (by omega) (by omega) | exact xor9 (by omega) (by omega)), rfl⟩ | exact IsR.mn (by first | with_reducible assumption | exact ⟨_, by omega, rfl⟩) (by first | with_reducible assumption | exact ⟨_, by omega, rfl⟩) | exact IsR.mx (by first | with_reducible assumption | exact ⟨_, by omega, rfl⟩) (by first | with_reducible assumption | exact ⟨_, by omega, rfl⟩) | with_reducible exact mn9 (by omega) | (simp (disch := omega) only [li_0, li_1, li_2, li_3, li_4, li_5, li_6, li_7, li_8, li_9, li_10, li_20, li_30, li_82, li_91, li_273, li_380, li_400, li_512, li_1000, li_2457, li_4000, nI_add, nI_1, nI_mul, nI_sub, shl_1, shl_1b]; with_reducible exact mn9b (by omega)))) ?_
            rintro _ t26 ⟨hG_15, hxv25⟩
            exact Ok.ret ⟨hG_15, True.intro⟩
        · try simp (disch := omega) only [li_0, li_1, li_2, li_3, li_4, li_5, li_6, li_7, li_8, li_9, li_10, li_20, li_30, li_82, li_91, li_273, li_380, li_400, li_512, li_1000, li_2457, li_4000, nI_add, nI_1, nI_mul, nI_sub, shl_1, shl_1b, nI_leP, nI_ltP, nI_eqP, Nat.not_le, Nat.not_lt] at c_6
          exact Ok.ret ⟨hG, True.intro⟩
set_option maxHeartbeats 4000000 in
set_option maxRecDepth 100000 in
theorem gX11_cuts {σ t : St} (hG : GC σ t) {a : Int32} {b : Int32} {c : Int32} : Ok (FX11_cuts a b c t) (fun r u => GC σ u ∧ (True)) := by
  unfold FX11_cuts
  refine Ok.bd _ (rX11_netIn hG.tt) ?_
  rintro v1 _ ⟨rfl, hxv1⟩
  rcases v1 with _ | x4
  · refine Ok.on ?_
    exact Ok.ret ⟨hG, True.intro⟩
  · refine Ok.os ?_
    obtain ⟨hnx, ⟨ka, hka, rfl⟩, hpx, hlx, hex⟩ := hxv1 x4 rfl
    refine Ok.ck (by first | assumption | decide +kernel) (fun g_2 => ?_)
    refine Ok.bd _ (rX5_hasTwo hG.tt (by first | assumption | decide +kernel)) ?_
    rintro v7 _ ⟨rfl, hbv7, hxv7⟩
    refine Ok.ite (fun c_4 => ?_) (fun c_4 => ?_)
    · skip
      exact Ok.ret ⟨hG, True.intro⟩
    · obtain ⟨⟨khv7, hkhv7, rfl⟩, ⟨kiv7, hkiv7, rfl⟩⟩ := hxv7.resolve_left c_4
      refine Ok.bd _ (rX5_weightOf hG.tt (by first | assumption | decide +kernel) (by first | with_reducible assumption | (simp (disch := omega) only [li_0, li_1, li_2, li_3, li_4, li_5, li_6, li_7, li_8, li_9, li_10, li_20, li_30, li_82, li_91, li_273, li_380, li_400, li_512, li_1000, li_2457, li_4000, nI_add, nI_1, nI_mul, nI_sub, shl_1, shl_1b, nI_or, nI_xor, nI_and]; with_reducible exact ⟨_, (by first | omega | exact or9 (by omega) (by omega) | exact xor9 (by omega) (by omega)), rfl⟩) | with_reducible exact ⟨_, (by first | omega | exact or9 (by omega) (by omega) | exact xor9 (by omega) (by omega)), rfl⟩ | exact IsR.mn (by first | with_reducible assumption | exact ⟨_, by omega, rfl⟩) (by first | with_reducible assumption | exact ⟨_, by omega, rfl⟩) | exact IsR.mx (by first | with_reducible assumption | exact ⟨_, by omega, rfl⟩) (by first | with_reducible assumption | exact ⟨_, by omega, rfl⟩) | with_reducible exact mn9 (by omega) | (simp (disch := omega) only [li_0, li_1, li_2, li_3, li_4, li_5, li_6, li_7, li_8, li_9, li_10, li_20, li_30, li_82, li_91, li_273, li_380, li_400, li_512, li_1000, li_2457, li_4000, nI_add, nI_1, nI_mul, nI_sub, shl_1, shl_1b]; with_reducible exact mn9b (by omega))) (by first | with_reducible assumption | (simp (disch := omega) only [li_0, li_1, li_2, li_3, li_4, li_5, li_6, li_7, li_8, li_9, li_10, li_20, li_30, li_82, li_91, li_273, li_380, li_400, li_512, li_1000, li_2457, li_4000, nI_add, nI_1, nI_mul, nI_sub, shl_1, shl_1b, nI_or, nI_xor, nI_and]; with_reducible exact ⟨_, (by first | omega | exact or9 (by omega) (by omega) | exact xor9 (by omega) (by omega)), rfl⟩) | with_reducible exact ⟨_, (by first | omega | exact or9 (by omega) (by omega) | exact xor9 (by omega) (by omega)), rfl⟩ | exact IsR.mn (by first | with_reducible assumption | exact ⟨_, by omega, rfl⟩) (by first | with_reducible assumption | exact ⟨_, by omega, rfl⟩) | exact IsR.mx (by first | with_reducible assumption | exact ⟨_, by omega, rfl⟩) (by first | with_reducible assumption | exact ⟨_, by omega, rfl⟩) | with_reducible exact mn9 (by omega) | (simp (disch := omega) only [li_0, li_1, li_2, li_3, li_4, li_5, li_6, li_7, li_8, li_9, li_10, li_20, li_30, li_82, li_91, li_273, li_380, li_400, li_512, li_1000, li_2457, li_4000, nI_add, nI_1, nI_mul, nI_sub, shl_1, shl_1b]; with_reducible exact mn9b (by omega)))) ?_
      rintro _ _ ⟨rfl, kv11, hv11, rfl⟩
      refine Ok.ite (fun c_6 => ?_) (fun c_6 => ?_)
      · try simp (disch := omega) only [li_0, li_1, li_2, li_3, li_4, li_5, li_6, li_7, li_8, li_9, li_10, li_20, li_30, li_82, li_91, li_273, li_380, li_400, li_512, li_1000, li_2457, li_4000, nI_add, nI_1, nI_mul, nI_sub, shl_1, shl_1b, nI_leP, nI_ltP, nI_eqP, Nat.not_le, Nat.not_lt] at c_6
        exact Ok.ret ⟨hG, True.intro⟩
      · try simp (disch := omega) only [li_0, li_1, li_2, li_3, li_4, li_5, li_6, li_7, li_8, li_9, li_10, li_20, li_30, li_82, li_91, li_273, li_380, li_400, li_512, li_1000, li_2457, li_4000, nI_add, nI_1, nI_mul, nI_sub, shl_1, shl_1b, nI_leP, nI_ltP, nI_eqP, Nat.not_le, Nat.not_lt] at c_6
        refine Ok.bd _ (gX5_copyFrom hG (by first | assumption | decide +kernel) (by first | assumption | decide +kernel)) ?_
        rintro _ t16 ⟨hG_7, hxv15⟩
        refine Ok.bd _ (gX5_setWeight hG_7 (by first | assumption | decide +kernel) (by first | with_reducible assumption | (simp (disch := omega) only [li_0, li_1, li_2, li_3, li_4, li_5, li_6, li_7, li_8, li_9, li_10, li_20, li_30, li_82, li_91, li_273, li_380, li_400, li_512, li_1000, li_2457, li_4000, nI_add, nI_1, nI_mul, nI_sub, shl_1, shl_1b, nI_or, nI_xor, nI_and]; with_reducible exact ⟨_, (by first | omega | exact or9 (by omega) (by omega) | exact xor9 (by omega) (by omega)), rfl⟩) | with_reducible exact ⟨_, (by first | omega | exact or9 (by omega) (by omega) | exact xor9 (by omega) (by omega)), rfl⟩ | exact IsR.mn (by first | with_reducible assumption | exact ⟨_, by omega, rfl⟩) (by first | with_reducible assumption | exact ⟨_, by omega, rfl⟩) | exact IsR.mx (by first | with_reducible assumption | exact ⟨_, by omega, rfl⟩) (by first | with_reducible assumption | exact ⟨_, by omega, rfl⟩) | with_reducible exact mn9 (by omega) | (simp (disch := omega) only [li_0, li_1, li_2, li_3, li_4, li_5, li_6, li_7, li_8, li_9, li_10, li_20, li_30, li_82, li_91, li_273, li_380, li_400, li_512, li_1000, li_2457, li_4000, nI_add, nI_1, nI_mul, nI_sub, shl_1, shl_1b]; with_reducible exact mn9b (by omega))) (by first | with_reducible assumption | (simp (disch := omega) only [li_0, li_1, li_2, li_3, li_4, li_5, li_6, li_7, li_8, li_9, li_10, li_20, li_30, li_82, li_91, li_273, li_380, li_400, li_512, li_1000, li_2457, li_4000, nI_add, nI_1, nI_mul, nI_sub, shl_1, shl_1b, nI_or, nI_xor, nI_and]; with_reducible exact ⟨_, (by first | omega | exact or9 (by omega) (by omega) | exact xor9 (by omega) (by omega)), rfl⟩) | with_reducible exact ⟨_, (by first | omega | exact or9 (by omega) (by omega) | exact xor9 (by omega) (by omega)), rfl⟩ | exact IsR.mn (by first | with_reducible assumption | exact ⟨_, by omega, rfl⟩) (by first | with_reducible assumption | exact ⟨_, by omega, rfl⟩) | exact IsR.mx (by first | with_reducible assumption | exact ⟨_, by omega, rfl⟩) (by first | with_reducible assumption | exact ⟨_, by omega, rfl⟩) | with_reducible exact mn9 (by omega) | (simp (disch := omega) only [li_0, li_1, li_2, li_3, li_4, li_5, li_6, li_7, li_8, li_9, li_10, li_20, li_30, li_82, li_91, li_273, li_380, li_400, li_512, li_1000, li_2457, li_4000, nI_add, nI_1, nI_mul, nI_sub, shl_1, shl_1b]; with_reducible exact mn9b (by omega))) (by first | with_reducible assumption | (simp (disch := omega) only [li_0, li_1, li_2, li_3, li_4, li_5, li_6, li_7, li_8, li_9, li_10, li_20, li_30, li_82, li_91, li_273, li_380, li_400, li_512, li_1000, li_2457, li_4000, nI_add, nI_1, nI_mul, nI_sub, shl_1, shl_1b, nI_or, nI_xor, nI_and]; with_reducible exact ⟨_, (by first | omega | exact or9 (by omega) (by omega) | exact xor9 (by omega) (by omega)), rfl⟩) | with_reducible exact ⟨_, (by first | omega | exact or9 (by omega) (by omega) | exact xor9 (by omega) (by omega)), rfl⟩ | exact IsR.mn (by first | with_reducible assumption | exact ⟨_, by omega, rfl⟩) (by first | with_reducible assumption | exact ⟨_, by omega, rfl⟩) | exact IsR.mx (by first | with_reducible assumption | exact ⟨_, by omega, rfl⟩) (by first | with_reducible assumption | exact ⟨_, by omega, rfl⟩) | with_reducible exact mn9 (by omega) | (simp (disch := omega) only [li_0, li_1, li_2, li_3, li_4, li_5, li_6, li_7, li_8, li_9, li_10, li_20, li_30, li_82, li_91, li_273, li_380, li_400, li_512, li_1000, li_2457, li_4000, nI_add, nI_1, nI_mul, nI_sub, shl_1, shl_1b]; with_reducible exact mn9b (by omega)))) ?_
        rintro _ t19 ⟨hG_8, hxv18⟩
        refine Ok.bd _ (gX11_noteAct hG_8 (by first | with_reducible assumption | (simp (disch := omega) only [li_0, li_1, li_2, li_3, li_4, li_5, li_6, li_7, li_8, li_9, li_10, li_20, li_30, li_82, li_91, li_273, li_380, li_400, li_512, li_1000, li_2457, li_4000, nI_add, nI_1, nI_mul, nI_sub, shl_1, shl_1b, nI_or, nI_xor, nI_and]; with_reducible exact ⟨_, (by first | omega | exact or9 (by omega) (by omega) | exact xor9 (by omega) (by omega)), rfl⟩) | with_reducible exact ⟨_, (by first | omega | exact or9 (by omega) (by omega) | exact xor9 (by omega) (by omega)), rfl⟩ | exact IsR.mn (by first | with_reducible assumption | exact ⟨_, by omega, rfl⟩) (by first | with_reducible assumption | exact ⟨_, by omega, rfl⟩) | exact IsR.mx (by first | with_reducible assumption | exact ⟨_, by omega, rfl⟩) (by first | with_reducible assumption | exact ⟨_, by omega, rfl⟩) | with_reducible exact mn9 (by omega) | (simp (disch := omega) only [li_0, li_1, li_2, li_3, li_4, li_5, li_6, li_7, li_8, li_9, li_10, li_20, li_30, li_82, li_91, li_273, li_380, li_400, li_512, li_1000, li_2457, li_4000, nI_add, nI_1, nI_mul, nI_sub, shl_1, shl_1b]; with_reducible exact mn9b (by omega)))) ?_
        rintro _ t22 ⟨hG_9, hxv21⟩
        exact Ok.ret ⟨hG_9, True.intro⟩
set_option maxHeartbeats 4000000 in
set_option maxRecDepth 100000 in
theorem gX11_merges {σ t : St} (hG : GC σ t) {a : Int32} {b : Int32} {c : Int32} : Ok (FX11_merges a b c t) (fun r u => GC σ u ∧ (True)) := by
  unfold FX11_merges
  refine Ok.bd _ (rX11_netIn hG.tt) ?_
  rintro v1 _ ⟨rfl, hxv1⟩
  rcases v1 with _ | x4
  · refine Ok.on ?_
    exact Ok.ret ⟨hG, True.intro⟩
  · refine Ok.os ?_
    obtain ⟨hnx, ⟨ka, hka, rfl⟩, hpx, hlx, hex⟩ := hxv1 x4 rfl
    refine Ok.ck (by first | assumption | decide +kernel) (fun g_2 => ?_)
    refine Ok.bd _ (rX5_hasTwo hG.tt (by first | assumption | decide +kernel)) ?_
    rintro v7 _ ⟨rfl, hbv7, hxv7⟩
    refine Ok.ite (fun c_4 => ?_) (fun c_4 => ?_)
    · skip
      exact Ok.ret ⟨hG, True.intro⟩
    · obtain ⟨⟨khv7, hkhv7, rfl⟩, ⟨kiv7, hkiv7, rfl⟩⟩ := hxv7.resolve_left c_4
      refine Ok.bd _ (rX5_weightOf hG.tt (by first | assumption | decide +kernel) (by first | with_reducible assumption | (simp (disch := omega) only [li_0, li_1, li_2, li_3, li_4, li_5, li_6, li_7, li_8, li_9, li_10, li_20, li_30, li_82, li_91, li_273, li_380, li_400, li_512, li_1000, li_2457, li_4000, nI_add, nI_1, nI_mul, nI_sub, shl_1, shl_1b, nI_or, nI_xor, nI_and]; with_reducible exact ⟨_, (by first | omega | exact or9 (by omega) (by omega) | exact xor9 (by omega) (by omega)), rfl⟩) | with_reducible exact ⟨_, (by first | omega | exact or9 (by omega) (by omega) | exact xor9 (by omega) (by omega)), rfl⟩ | exact IsR.mn (by first | with_reducible assumption | exact ⟨_, by omega, rfl⟩) (by first | with_reducible assumption | exact ⟨_, by omega, rfl⟩) | exact IsR.mx (by first | with_reducible assumption | exact ⟨_, by omega, rfl⟩) (by first | with_reducible assumption | exact ⟨_, by omega, rfl⟩) | with_reducible exact mn9 (by omega) | (simp (disch := omega) only [li_0, li_1, li_2, li_3, li_4, li_5, li_6, li_7, li_8, li_9, li_10, li_20, li_30, li_82, li_91, li_273, li_380, li_400, li_512, li_1000, li_2457, li_4000, nI_add, nI_1, nI_mul, nI_sub, shl_1, shl_1b]; with_reducible exact mn9b (by omega))) (by first | with_reducible assumption | (simp (disch := omega) only [li_0, li_1, li_2, li_3, li_4, li_5, li_6, li_7, li_8, li_9, li_10, li_20, li_30, li_82, li_91, li_273, li_380, li_400, li_512, li_1000, li_2457, li_4000, nI_add, nI_1, nI_mul, nI_sub, shl_1, shl_1b, nI_or, nI_xor, nI_and]; with_reducible exact ⟨_, (by first | omega | exact or9 (by omega) (by omega) | exact xor9 (by omega) (by omega)), rfl⟩) | with_reducible exact ⟨_, (by first | omega | exact or9 (by omega) (by omega) | exact xor9 (by omega) (by omega)), rfl⟩ | exact IsR.mn (by first | with_reducible assumption | exact ⟨_, by omega, rfl⟩) (by first | with_reducible assumption | exact ⟨_, by omega, rfl⟩) | exact IsR.mx (by first | with_reducible assumption | exact ⟨_, by omega, rfl⟩) (by first | with_reducible assumption | exact ⟨_, by omega, rfl⟩) | with_reducible exact mn9 (by omega) | (simp (disch := omega) only [li_0, li_1, li_2, li_3, li_4, li_5, li_6, li_7, li_8, li_9, li_10, li_20, li_30, li_82, li_91, li_273, li_380, li_400, li_512, li_1000, li_2457, li_4000, nI_add, nI_1, nI_mul, nI_sub, shl_1, shl_1b]; with_reducible exact mn9b (by omega)))) ?_
      rintro _ _ ⟨rfl, kv11, hv11, rfl⟩
      refine Ok.ite (fun c_6 => ?_) (fun c_6 => ?_)
      · try simp (disch := omega) only [li_0, li_1, li_2, li_3, li_4, li_5, li_6, li_7, li_8, li_9, li_10, li_20, li_30, li_82, li_91, li_273, li_380, li_400, li_512, li_1000, li_2457, li_4000, nI_add, nI_1, nI_mul, nI_sub, shl_1, shl_1b, nI_leP, nI_ltP, nI_eqP, Nat.not_le, Nat.not_lt] at c_6
        exact Ok.ret ⟨hG, True.intro⟩
      · try simp (disch := omega) only [li_0, li_1, li_2, li_3, li_4, li_5, li_6, li_7, li_8, li_9, li_10, li_20, li_30, li_82, li_91, li_273, li_380, li_400, li_512, li_1000, li_2457, li_4000, nI_add, nI_1, nI_mul, nI_sub, shl_1, shl_1b, nI_leP, nI_ltP, nI_eqP, Nat.not_le, Nat.not_lt] at c_6
        refine Ok.bd _ (gX5_copyFrom hG (by first | assumption | decide +kernel) (by first | assumption | decide +kernel)) ?_
        rintro _ t16 ⟨hG_7, hxv15⟩
        refine Ok.bd _ (gX5_drawTogether hG_7 (by first | assumption | decide +kernel) (by first | with_reducible assumption | (simp (disch := omega) only [li_0, li_1, li_2, li_3, li_4, li_5, li_6, li_7, li_8, li_9, li_10, li_20, li_30, li_82, li_91, li_273, li_380, li_400, li_512, li_1000, li_2457, li_4000, nI_add, nI_1, nI_mul, nI_sub, shl_1, shl_1b, nI_or, nI_xor, nI_and]; with_reducible exact ⟨_, (by first | omega | exact or9 (by omega) (by omega) | exact xor9 (by omega) (by omega)), rfl⟩) | with_reducible exact ⟨_, (by first | omega | exact or9 (by omega) (by omega) | exact xor9 (by omega) (by omega)), rfl⟩ | exact IsR.mn (by first | with_reducible assumption | exact ⟨_, by omega, rfl⟩) (by first | with_reducible assumption | exact ⟨_, by omega, rfl⟩) | exact IsR.mx (by first | with_reducible assumption | exact ⟨_, by omega, rfl⟩) (by first | with_reducible assumption | exact ⟨_, by omega, rfl⟩) | with_reducible exact mn9 (by omega) | (simp (disch := omega) only [li_0, li_1, li_2, li_3, li_4, li_5, li_6, li_7, li_8, li_9, li_10, li_20, li_30, li_82, li_91, li_273, li_380, li_400, li_512, li_1000, li_2457, li_4000, nI_add, nI_1, nI_mul, nI_sub, shl_1, shl_1b]; with_reducible exact mn9b (by omega))) (by first | with_reducible assumption | (simp (disch := omega) only [li_0, li_1, li_2, li_3, li_4, li_5, li_6, li_7, li_8, li_9, li_10, li_20, li_30, li_82, li_91, li_273, li_380, li_400, li_512, li_1000, li_2457, li_4000, nI_add, nI_1, nI_mul, nI_sub, shl_1, shl_1b, nI_or, nI_xor, nI_and]; with_reducible exact ⟨_, (by first | omega | exact or9 (by omega) (by omega) | exact xor9 (by omega) (by omega)), rfl⟩) | with_reducible exact ⟨_, (by first | omega | exact or9 (by omega) (by omega) | exact xor9 (by omega) (by omega)), rfl⟩ | exact IsR.mn (by first | with_reducible assumption | exact ⟨_, by omega, rfl⟩) (by first | with_reducible assumption | exact ⟨_, by omega, rfl⟩) | exact IsR.mx (by first | with_reducible assumption | exact ⟨_, by omega, rfl⟩) (by first | with_reducible assumption | exact ⟨_, by omega, rfl⟩) | with_reducible exact mn9 (by omega) | (simp (disch := omega) only [li_0, li_1, li_2, li_3, li_4, li_5, li_6, li_7, li_8, li_9, li_10, li_20, li_30, li_82, li_91, li_273, li_380, li_400, li_512, li_1000, li_2457, li_4000, nI_add, nI_1, nI_mul, nI_sub, shl_1, shl_1b]; with_reducible exact mn9b (by omega))) (by rw [hxv15 x4 (by omega)]; exact hpx)) ?_
        rintro _ t19 ⟨hG_8, hxv18⟩
        refine Ok.bd _ (gX11_noteAct hG_8 (by first | with_reducible assumption | (simp (disch := omega) only [li_0, li_1, li_2, li_3, li_4, li_5, li_6, li_7, li_8, li_9, li_10, li_20, li_30, li_82, li_91, li_273, li_380, li_400, li_512, li_1000, li_2457, li_4000, nI_add, nI_1, nI_mul, nI_sub, shl_1, shl_1b, nI_or, nI_xor, nI_and]; with_reducible exact ⟨_, (by first | omega | exact or9 (by omega) (by omega) | exact xor9 (by omega) (by omega)), rfl⟩) | with_reducible exact ⟨_, (by first | omega | exact or9 (by omega) (by omega) | exact xor9 (by omega) (by omega)), rfl⟩ | exact IsR.mn (by first | with_reducible assumption | exact ⟨_, by omega, rfl⟩) (by first | with_reducible assumption | exact ⟨_, by omega, rfl⟩) | exact IsR.mx (by first | with_reducible assumption | exact ⟨_, by omega, rfl⟩) (by first | with_reducible assumption | exact ⟨_, by omega, rfl⟩) | with_reducible exact mn9 (by omega) | (simp (disch := omega) only [li_0, li_1, li_2, li_3, li_4, li_5, li_6, li_7, li_8, li_9, li_10, li_20, li_30, li_82, li_91, li_273, li_380, li_400, li_512, li_1000, li_2457, li_4000, nI_add, nI_1, nI_mul, nI_sub, shl_1, shl_1b]; with_reducible exact mn9b (by omega)))) ?_
        rintro _ t22 ⟨hG_9, hxv21⟩
        refine Ok.rdT hG_9.tt (ty_n0 g_2) (by omega) (fun k_10 hk_10 ek_10 => ?_)
        exact Ok.ret ⟨hG_9, True.intro⟩
set_option maxHeartbeats 4000000 in
set_option maxRecDepth 100000 in
theorem gX11_drops {σ t : St} (hG : GC σ t) {a : Int32} : Ok (FX11_drops a t) (fun r u => GC σ u ∧ (True)) := by
  unfold FX11_drops
  refine Ok.bd _ (rX11_isSlot hG.tt) ?_
  rintro v1 _ ⟨rfl, hbv1, hxv1⟩
  refine Ok.ite (fun c_2 => ?_) (fun c_2 => ?_)
  · skip
    exact Ok.ret ⟨hG, True.intro⟩
  · obtain ⟨ksv1, hksv1, rfl⟩ := hxv1.resolve_left c_2
    refine Ok.ck (by first | (simp (disch := omega) only [li_0, li_1, li_2, li_3, li_4, li_5, li_6, li_7, li_8, li_9, li_10, li_20, li_30, li_82, li_91, li_273, li_380, li_400, li_512, li_1000, li_2457, li_4000, nI_add, nI_1, nI_mul, nI_sub, shl_1, shl_1b, nI_or, nI_xor, nI_and]; with_reducible exact inb_n (by first | omega | exact or9 (by omega) (by omega) | exact xor9 (by omega) (by omega)) (by omega)) | with_reducible exact inb_n (by omega) (by omega) | exact IsR.ib (by with_reducible assumption) (by decide) | decide) (fun g_3 => ?_)
    refine Ok.ck (by first | assumption | exact el_10 (by first | with_reducible assumption | (simp (disch := omega) only [li_0, li_1, li_2, li_3, li_4, li_5, li_6, li_7, li_8, li_9, li_10, li_20, li_30, li_82, li_91, li_273, li_380, li_400, li_512, li_1000, li_2457, li_4000, nI_add, nI_1, nI_mul, nI_sub, shl_1, shl_1b, nI_or, nI_xor, nI_and]; with_reducible exact ⟨_, (by first | omega | exact or9 (by omega) (by omega) | exact xor9 (by omega) (by omega)), rfl⟩) | with_reducible exact ⟨_, (by first | omega | exact or9 (by omega) (by omega) | exact xor9 (by omega) (by omega)), rfl⟩ | exact IsR.mn (by first | with_reducible assumption | exact ⟨_, by omega, rfl⟩) (by first | with_reducible assumption | exact ⟨_, by omega, rfl⟩) | exact IsR.mx (by first | with_reducible assumption | exact ⟨_, by omega, rfl⟩) (by first | with_reducible assumption | exact ⟨_, by omega, rfl⟩) | with_reducible exact mn9 (by omega) | (simp (disch := omega) only [li_0, li_1, li_2, li_3, li_4, li_5, li_6, li_7, li_8, li_9, li_10, li_20, li_30, li_82, li_91, li_273, li_380, li_400, li_512, li_1000, li_2457, li_4000, nI_add, nI_1, nI_mul, nI_sub, shl_1, shl_1b]; with_reducible exact mn9b (by omega)))) (fun g_4 => ?_)
    refine Ok.rdT hG.tt (ty_n0 g_4) (by omega) (fun k_5 hk_5 ek_5 => ?_)
    refine Ok.ite (fun c_6 => ?_) (fun c_6 => ?_)
    · try simp (disch := omega) only [li_0, li_1, li_2, li_3, li_4, li_5, li_6, li_7, li_8, li_9, li_10, li_20, li_30, li_82, li_91, li_273, li_380, li_400, li_512, li_1000, li_2457, li_4000, nI_add, nI_1, nI_mul, nI_sub, shl_1, shl_1b, nI_leP, nI_ltP, nI_eqP, Nat.not_le, Nat.not_lt] at c_6
      exact Ok.ret ⟨hG, True.intro⟩
    · try simp (disch := omega) only [li_0, li_1, li_2, li_3, li_4, li_5, li_6, li_7, li_8, li_9, li_10, li_20, li_30, li_82, li_91, li_273, li_380, li_400, li_512, li_1000, li_2457, li_4000, nI_add, nI_1, nI_mul, nI_sub, shl_1, shl_1b, nI_leP, nI_ltP, nI_eqP, Nat.not_le, Nat.not_lt] at c_6
      refine Ok.bd _ (gX5_copyFrom hG (by first | assumption | decide +kernel) (by first | assumption | decide +kernel)) ?_
      rintro _ t11 ⟨hG_7, hxv10⟩
      refine Ok.bd _ (gX5_begin hG_7 (by first | assumption | decide +kernel) (by first | with_reducible assumption | (simp (disch := omega) only [li_0, li_1, li_2, li_3, li_4, li_5, li_6, li_7, li_8, li_9, li_10, li_20, li_30, li_82, li_91, li_273, li_380, li_400, li_512, li_1000, li_2457, li_4000, nI_add, nI_1, nI_mul, nI_sub, shl_1, shl_1b, nI_or, nI_xor, nI_and]; with_reducible exact ⟨_, (by first | omega | exact or9 (by omega) (by omega) | exact xor9 (by omega) (by omega)), rfl⟩) | with_reducible exact ⟨_, (by first | omega | exact or9 (by omega) (by omega) | exact xor9 (by omega) (by omega)), rfl⟩ | exact IsR.mn (by first | with_reducible assumption | exact ⟨_, by omega, rfl⟩) (by first | with_reducible assumption | exact ⟨_, by omega, rfl⟩) | exact IsR.mx (by first | with_reducible assumption | exact ⟨_, by omega, rfl⟩) (by first | with_reducible assumption | exact ⟨_, by omega, rfl⟩) | with_reducible exact mn9 (by omega) | (simp (disch := omega) only [li_0, li_1, li_2, li_3, li_4, li_5, li_6, li_7, li_8, li_9, li_10, li_20, li_30, li_82, li_91, li_273, li_380, li_400, li_512, li_1000, li_2457, li_4000, nI_add, nI_1, nI_mul, nI_sub, shl_1, shl_1b]; with_reducible exact mn9b (by omega)))) ?_
      rintro _ t14 ⟨hG_8, hxv13⟩
      refine Ok.bd _ (gX11_noteAct hG_8 (by first | with_reducible assumption | (simp (disch := omega) only [li_0, li_1, li_2, li_3, li_4, li_5, li_6, li_7, li_8, li_9, li_10, li_20, li_30, li_82, li_91, li_273, li_380, li_400, li_512, li_1000, li_2457, li_4000, nI_add, nI_1, nI_mul, nI_sub, shl_1, shl_1b, nI_or, nI_xor, nI_and]; with_reducible exact ⟨_, (by first | omega | exact or9 (by omega) (by omega) | exact xor9 (by omega) (by omega)), rfl⟩) | with_reducible exact ⟨_, (by first | omega | exact or9 (by omega) (by omega) | exact xor9 (by omega) (by omega)), rfl⟩ | exact IsR.mn (by first | with_reducible assumption | exact ⟨_, by omega, rfl⟩) (by first | with_reducible assumption | exact ⟨_, by omega, rfl⟩) | exact IsR.mx (by first | with_reducible assumption | exact ⟨_, by omega, rfl⟩) (by first | with_reducible assumption | exact ⟨_, by omega, rfl⟩) | with_reducible exact mn9 (by omega) | (simp (disch := omega) only [li_0, li_1, li_2, li_3, li_4, li_5, li_6, li_7, li_8, li_9, li_10, li_20, li_30, li_82, li_91, li_273, li_380, li_400, li_512, li_1000, li_2457, li_4000, nI_add, nI_1, nI_mul, nI_sub, shl_1, shl_1b]; with_reducible exact mn9b (by omega)))) ?_
      rintro _ t17 ⟨hG_9, hxv16⟩
      exact Ok.ret ⟨hG_9, True.intro⟩
theorem gX11_undo {σ t : St} (hG : GC σ t) : Ok (FX11_undo t) (fun r u => GC σ u ∧ True) := by
  unfold FX11_undo
  refine Ok.rd (fun v hv => ?_)
  refine Ok.ite (fun _ => Ok.ret ⟨hG, True.intro⟩) (fun c => ?_)
  refine Ok.bd _ (gX4_takeBack hG (by rw [← hv]; exact c)) ?_
  rintro _ u ⟨hu, -⟩
  exact Ok.rd (fun _ _ => Ok.ret ⟨hu, True.intro⟩)
set_option maxHeartbeats 4000000 in
set_option maxRecDepth 100000 in
theorem gX1_putNumber_3 {σ t : St} (hG : GC σ t) {a : Int32} : Ok (FX1_putNumber_3 a t) (fun r u => GC σ u ∧ (True)) := by
  unfold FX1_putNumber_3
  refine Ok.bd (fun (v2 : Unit) t3 => GC σ t3 ∧ (True)) ?_ ?_
  · refine Ok.ite (fun c_1 => ?_) (fun c_1 => ?_)
    · try simp (disch := omega) only [li_0, li_1, li_2, li_3, li_4, li_5, li_6, li_7, li_8, li_9, li_10, li_20, li_30, li_82, li_91, li_273, li_380, li_400, li_512, li_1000, li_2457, li_4000, nI_add, nI_1, nI_mul, nI_sub, shl_1, shl_1b, nI_leP, nI_ltP, nI_eqP, Nat.not_le, Nat.not_lt] at c_1
      exact Ok.ret ⟨hG, True.intro⟩
    · try simp (disch := omega) only [li_0, li_1, li_2, li_3, li_4, li_5, li_6, li_7, li_8, li_9, li_10, li_20, li_30, li_82, li_91, li_273, li_380, li_400, li_512, li_1000, li_2457, li_4000, nI_add, nI_1, nI_mul, nI_sub, shl_1, shl_1b, nI_leP, nI_ltP, nI_eqP, Nat.not_le, Nat.not_lt] at c_1
      refine Ok.bd _ (gX1_put_3 hG) ?_
      rintro _ t19 ⟨hG_2, hxv18⟩
      exact Ok.ret ⟨hG_2, True.intro⟩
  · intro v2 t3 hx
    obtain ⟨hG_3, hxv2⟩ := hx
    refine Ok.bd (fun (v7 : Unit) t8 => GC σ t8 ∧ (True)) ?_ ?_
    · refine Ok.ite (fun c_4 => ?_) (fun c_4 => ?_)
      · try simp (disch := omega) only [li_0, li_1, li_2, li_3, li_4, li_5, li_6, li_7, li_8, li_9, li_10, li_20, li_30, li_82, li_91, li_273, li_380, li_400, li_512, li_1000, li_2457, li_4000, nI_add, nI_1, nI_mul, nI_sub, shl_1, shl_1b, nI_leP, nI_ltP, nI_eqP, Nat.not_le, Nat.not_lt] at c_4
        exact Ok.ret ⟨hG_3, True.intro⟩
      · try simp (disch := omega) only [li_0, li_1, li_2, li_3, li_4, li_5, li_6, li_7, li_8, li_9, li_10, li_20, li_30, li_82, li_91, li_273, li_380, li_400, li_512, li_1000, li_2457, li_4000, nI_add, nI_1, nI_mul, nI_sub, shl_1, shl_1b, nI_leP, nI_ltP, nI_eqP, Nat.not_le, Nat.not_lt] at c_4
        refine Ok.bd _ (gX1_put_3 hG_3) ?_
        rintro _ t16 ⟨hG_5, hxv15⟩
        exact Ok.ret ⟨hG_5, True.intro⟩
    · intro v7 t8 hx
      obtain ⟨hG_6, hxv7⟩ := hx
      refine Ok.bd _ (gX1_put_3 hG_6) ?_
      rintro _ t12 ⟨hG_7, hxv11⟩
      exact Ok.ret ⟨hG_7, True.intro⟩
set_option maxHeartbeats 4000000 in
set_option maxRecDepth 100000 in
theorem gSX1_putText_3_s2_2 {σ t : St} (hG : GC σ t) {a0 : Int32} (h_a0 : IsR 5001 a0) : Ok (wh (SX1_putText_3_s2_2) a0 t) (fun r u => GC σ u ∧ (True)) := by
  obtain ⟨j0, hj0, rfl⟩ := h_a0
  refine Ok.loop (fun k c s => GC σ s ∧ (∃ j, c = nI j ∧ j ≤ 5000 ∧ 0 ≤ j ∧ k = 5000 - j)) ?_ (5000 - j0) _ _ ⟨hG, ⟨j0, rfl, by omega, by omega, rfl⟩⟩
  clear hG hj0
  intro k c s hI
  obtain ⟨hG, ⟨j, ej, hj, hlo, rfl⟩⟩ := hI
  subst ej
  unfold SX1_putText_3_s2_2
  refine Ok.ite (fun c_1 => ?_) (fun c_1 => ?_)
  · try simp (disch := omega) only [li_0, li_1, li_2, li_3, li_4, li_5, li_6, li_7, li_8, li_9, li_10, li_20, li_30, li_82, li_91, li_273, li_380, li_400, li_512, li_1000, li_2457, li_4000, nI_add, nI_1, nI_mul, nI_sub, shl_1, shl_1b, nI_leP, nI_ltP, nI_eqP, Nat.not_le, Nat.not_lt] at c_1
    exact Ok.ret ⟨hG, True.intro⟩
  · try simp (disch := omega) only [li_0, li_1, li_2, li_3, li_4, li_5, li_6, li_7, li_8, li_9, li_10, li_20, li_30, li_82, li_91, li_273, li_380, li_400, li_512, li_1000, li_2457, li_4000, nI_add, nI_1, nI_mul, nI_sub, shl_1, shl_1b, nI_leP, nI_ltP, nI_eqP, Nat.not_le, Nat.not_lt] at c_1
    refine Ok.ck (by first | (simp (disch := omega) only [li_0, li_1, li_2, li_3, li_4, li_5, li_6, li_7, li_8, li_9, li_10, li_20, li_30, li_82, li_91, li_273, li_380, li_400, li_512, li_1000, li_2457, li_4000, nI_add, nI_1, nI_mul, nI_sub, shl_1, shl_1b, nI_or, nI_xor, nI_and]; with_reducible exact inb_n (by first | omega | exact or9 (by omega) (by omega) | exact xor9 (by omega) (by omega)) (by omega)) | with_reducible exact inb_n (by omega) (by omega) | exact IsR.ib (by with_reducible assumption) (by decide) | decide) (fun g_2 => ?_)
    refine Ok.bd _ (gX1_put_3 hG) ?_
    rintro _ t4 ⟨hG_3, hxv3⟩
    exact Ok.ret ⟨5000 - (j + 1), by omega, hG_3, ⟨j + 1, nI_1 j, by omega, by omega, rfl⟩⟩
set_option maxHeartbeats 4000000 in
set_option maxRecDepth 100000 in
theorem gX1_putText_3_s2 {σ t : St} (hG : GC σ t) : Ok (FX1_putText_3_s2 t) (fun r u => GC σ u ∧ (True)) := by
  unfold FX1_putText_3_s2
  refine Ok.bd _ (gSX1_putText_3_s2_2 hG (by show IsR 5001 _; first | with_reducible assumption | (simp (disch := omega) only [li_0, li_1, li_2, li_3, li_4, li_5, li_6, li_7, li_8, li_9, li_10, li_20, li_30, li_82, li_91, li_273, li_380, li_400, li_512, li_1000, li_2457, li_4000, nI_add, nI_1, nI_mul, nI_sub, shl_1, shl_1b, nI_or, nI_xor, nI_and]; with_reducible exact ⟨_, (by first | omega | exact or9 (by omega) (by omega) | exact xor9 (by omega) (by omega)), rfl⟩) | with_reducible exact ⟨_, (by first | omega | exact or9 (by omega) (by omega) | exact xor9 (by omega) (by omega)), rfl⟩ | exact IsR.mn (by first | with_reducible assumption | exact ⟨_, by omega, rfl⟩) (by first | with_reducible assumption | exact ⟨_, by omega, rfl⟩) | exact IsR.mx (by first | with_reducible assumption | exact ⟨_, by omega, rfl⟩) (by first | with_reducible assumption | exact ⟨_, by omega, rfl⟩) | with_reducible exact mn9 (by omega) | (simp (disch := omega) only [li_0, li_1, li_2, li_3, li_4, li_5, li_6, li_7, li_8, li_9, li_10, li_20, li_30, li_82, li_91, li_273, li_380, li_400, li_512, li_1000, li_2457, li_4000, nI_add, nI_1, nI_mul, nI_sub, shl_1, shl_1b]; with_reducible exact mn9b (by omega)))) ?_
  rintro e6 t7 ⟨hG_1, hxe6⟩
  exact Ok.ret ⟨hG_1, True.intro⟩
set_option maxHeartbeats 4000000 in
set_option maxRecDepth 100000 in
theorem gSX1_putText_3_s3_2 {σ t : St} (hG : GC σ t) {a0 : Int32} (h_a0 : IsR 5001 a0) : Ok (wh (SX1_putText_3_s3_2) a0 t) (fun r u => GC σ u ∧ (True)) := by
  obtain ⟨j0, hj0, rfl⟩ := h_a0
  refine Ok.loop (fun k c s => GC σ s ∧ (∃ j, c = nI j ∧ j ≤ 5000 ∧ 0 ≤ j ∧ k = 5000 - j)) ?_ (5000 - j0) _ _ ⟨hG, ⟨j0, rfl, by omega, by omega, rfl⟩⟩
  clear hG hj0
  intro k c s hI
  obtain ⟨hG, ⟨j, ej, hj, hlo, rfl⟩⟩ := hI
  subst ej
  unfold SX1_putText_3_s3_2
  refine Ok.ite (fun c_1 => ?_) (fun c_1 => ?_)
  · try simp (disch := omega) only [li_0, li_1, li_2, li_3, li_4, li_5, li_6, li_7, li_8, li_9, li_10, li_20, li_30, li_82, li_91, li_273, li_380, li_400, li_512, li_1000, li_2457, li_4000, nI_add, nI_1, nI_mul, nI_sub, shl_1, shl_1b, nI_leP, nI_ltP, nI_eqP, Nat.not_le, Nat.not_lt] at c_1
    exact Ok.ret ⟨hG, True.intro⟩
  · try simp (disch := omega) only [li_0, li_1, li_2, li_3, li_4, li_5, li_6, li_7, li_8, li_9, li_10, li_20, li_30, li_82, li_91, li_273, li_380, li_400, li_512, li_1000, li_2457, li_4000, nI_add, nI_1, nI_mul, nI_sub, shl_1, shl_1b, nI_leP, nI_ltP, nI_eqP, Nat.not_le, Nat.not_lt] at c_1
    refine Ok.ck (by first | (simp (disch := omega) only [li_0, li_1, li_2, li_3, li_4, li_5, li_6, li_7, li_8, li_9, li_10, li_20, li_30, li_82, li_91, li_273, li_380, li_400, li_512, li_1000, li_2457, li_4000, nI_add, nI_1, nI_mul, nI_sub, shl_1, shl_1b, nI_or, nI_xor, nI_and]; with_reducible exact inb_n (by first | omega | exact or9 (by omega) (by omega) | exact xor9 (by omega) (by omega)) (by omega)) | with_reducible exact inb_n (by omega) (by omega) | exact IsR.ib (by with_reducible assumption) (by decide) | decide) (fun g_2 => ?_)
    refine Ok.bd _ (gX1_put_3 hG) ?_
    rintro _ t4 ⟨hG_3, hxv3⟩
    exact Ok.ret ⟨5000 - (j + 1), by omega, hG_3, ⟨j + 1, nI_1 j, by omega, by omega, rfl⟩⟩
set_option maxHeartbeats 4000000 in
set_option maxRecDepth 100000 in
theorem gX1_putText_3_s3 {σ t : St} (hG : GC σ t) : Ok (FX1_putText_3_s3 t) (fun r u => GC σ u ∧ (True)) := by
  unfold FX1_putText_3_s3
  refine Ok.bd _ (gSX1_putText_3_s3_2 hG (by show IsR 5001 _; first | with_reducible assumption | (simp (disch := omega) only [li_0, li_1, li_2, li_3, li_4, li_5, li_6, li_7, li_8, li_9, li_10, li_20, li_30, li_82, li_91, li_273, li_380, li_400, li_512, li_1000, li_2457, li_4000, nI_add, nI_1, nI_mul, nI_sub, shl_1, shl_1b, nI_or, nI_xor, nI_and]; with_reducible exact ⟨_, (by first | omega | exact or9 (by omega) (by omega) | exact xor9 (by omega) (by omega)), rfl⟩) | with_reducible exact ⟨_, (by first | omega | exact or9 (by omega) (by omega) | exact xor9 (by omega) (by omega)), rfl⟩ | exact IsR.mn (by first | with_reducible assumption | exact ⟨_, by omega, rfl⟩) (by first | with_reducible assumption | exact ⟨_, by omega, rfl⟩) | exact IsR.mx (by first | with_reducible assumption | exact ⟨_, by omega, rfl⟩) (by first | with_reducible assumption | exact ⟨_, by omega, rfl⟩) | with_reducible exact mn9 (by omega) | (simp (disch := omega) only [li_0, li_1, li_2, li_3, li_4, li_5, li_6, li_7, li_8, li_9, li_10, li_20, li_30, li_82, li_91, li_273, li_380, li_400, li_512, li_1000, li_2457, li_4000, nI_add, nI_1, nI_mul, nI_sub, shl_1, shl_1b]; with_reducible exact mn9b (by omega)))) ?_
  rintro e6 t7 ⟨hG_1, hxe6⟩
  exact Ok.ret ⟨hG_1, True.intro⟩
set_option maxHeartbeats 4000000 in
set_option maxRecDepth 100000 in
theorem gX11_tellLine {σ t : St} (hG : GC σ t) {a : Int32} {b : Int32} {c : Int32} : Ok (FX11_tellLine a b c t) (fun r u => GC σ u ∧ (True)) := by
  unfold FX11_tellLine
  refine Ok.bd _ (gX1_putNumber_3 hG) ?_
  rintro _ t2 ⟨hG_1, hxv1⟩
  refine Ok.bd _ (gX1_put_3 hG_1) ?_
  rintro _ t5 ⟨hG_2, hxv4⟩
  refine Ok.bd _ (gX1_putNumber_3 hG_2) ?_
  rintro _ t8 ⟨hG_3, hxv7⟩
  refine Ok.ite (fun c_4 => ?_) (fun c_4 => ?_)
  · try simp (disch := omega) only [li_0, li_1, li_2, li_3, li_4, li_5, li_6, li_7, li_8, li_9, li_10, li_20, li_30, li_82, li_91, li_273, li_380, li_400, li_512, li_1000, li_2457, li_4000, nI_add, nI_1, nI_mul, nI_sub, shl_1, shl_1b, nI_leP, nI_ltP, nI_eqP, Nat.not_le, Nat.not_lt] at c_4
    exact Ok.ret ⟨hG_3, True.intro⟩
  · try simp (disch := omega) only [li_0, li_1, li_2, li_3, li_4, li_5, li_6, li_7, li_8, li_9, li_10, li_20, li_30, li_82, li_91, li_273, li_380, li_400, li_512, li_1000, li_2457, li_4000, nI_add, nI_1, nI_mul, nI_sub, shl_1, shl_1b, nI_leP, nI_ltP, nI_eqP, Nat.not_le, Nat.not_lt] at c_4
    refine Ok.bd _ (gX1_put_3 hG_3) ?_
    rintro _ t13 ⟨hG_5, hxv12⟩
    refine Ok.bd _ (gX1_putNumber_3 hG_5) ?_
    rintro _ t16 ⟨hG_6, hxv15⟩
    exact Ok.ret ⟨hG_6, True.intro⟩
set_option maxHeartbeats 4000000 in
set_option maxRecDepth 100000 in
theorem gSX11_tellNet_39 {σ t : St} (hG : GC σ t) {x1 : Nat} (g_x1 : netAt x1 = true) {w3 : Int32} (h_w3 : IsR 9 w3) {a0 : Int32} {a1 : Int32} (h_a1 : IsR 5001 a1) : Ok (wh (SX11_tellNet_39 x1 w3) (a0, a1) t) (fun r u => GC σ u ∧ (True)) := by
  obtain ⟨j0, hj0, rfl⟩ := h_a1
  refine Ok.loop (fun k c s => GC σ s ∧ (∃ j, c.2 = nI j ∧ j ≤ 5000 ∧ 0 ≤ j ∧ k = 5000 - j)) ?_ (5000 - j0) _ _ ⟨hG, ⟨j0, rfl, by omega, by omega, rfl⟩⟩
  obtain ⟨k_w3, h_w3, rfl⟩ := h_w3
  clear hG hj0
  intro k c s hI
  obtain ⟨hG, ⟨j, ej, hj, hlo, rfl⟩⟩ := hI
  obtain ⟨c0, c1⟩ := c
  dsimp only at ej
  subst ej
  unfold SX11_tellNet_39
  dsimp only
  refine Ok.rdT hG.tt (ty_n0 g_x1) (by omega) (fun k_1 hk_1 ek_1 => ?_)
  refine Ok.ite (fun c_2 => ?_) (fun c_2 => ?_)
  · try simp (disch := omega) only [li_0, li_1, li_2, li_3, li_4, li_5, li_6, li_7, li_8, li_9, li_10, li_20, li_30, li_82, li_91, li_273, li_380, li_400, li_512, li_1000, li_2457, li_4000, nI_add, nI_1, nI_mul, nI_sub, shl_1, shl_1b, nI_leP, nI_ltP, nI_eqP, Nat.not_le, Nat.not_lt] at c_2
    exact Ok.ret ⟨hG, True.intro⟩
  · try simp (disch := omega) only [li_0, li_1, li_2, li_3, li_4, li_5, li_6, li_7, li_8, li_9, li_10, li_20, li_30, li_82, li_91, li_273, li_380, li_400, li_512, li_1000, li_2457, li_4000, nI_add, nI_1, nI_mul, nI_sub, shl_1, shl_1b, nI_leP, nI_ltP, nI_eqP, Nat.not_le, Nat.not_lt] at c_2
    refine Ok.bd _ (rX5_weightOf hG.tt (by first | assumption | decide +kernel) (by first | with_reducible assumption | (simp (disch := omega) only [li_0, li_1, li_2, li_3, li_4, li_5, li_6, li_7, li_8, li_9, li_10, li_20, li_30, li_82, li_91, li_273, li_380, li_400, li_512, li_1000, li_2457, li_4000, nI_add, nI_1, nI_mul, nI_sub, shl_1, shl_1b, nI_or, nI_xor, nI_and]; with_reducible exact ⟨_, (by first | omega | exact or9 (by omega) (by omega) | exact xor9 (by omega) (by omega)), rfl⟩) | with_reducible exact ⟨_, (by first | omega | exact or9 (by omega) (by omega) | exact xor9 (by omega) (by omega)), rfl⟩ | exact IsR.mn (by first | with_reducible assumption | exact ⟨_, by omega, rfl⟩) (by first | with_reducible assumption | exact ⟨_, by omega, rfl⟩) | exact IsR.mx (by first | with_reducible assumption | exact ⟨_, by omega, rfl⟩) (by first | with_reducible assumption | exact ⟨_, by omega, rfl⟩) | with_reducible exact mn9 (by omega) | (simp (disch := omega) only [li_0, li_1, li_2, li_3, li_4, li_5, li_6, li_7, li_8, li_9, li_10, li_20, li_30, li_82, li_91, li_273, li_380, li_400, li_512, li_1000, li_2457, li_4000, nI_add, nI_1, nI_mul, nI_sub, shl_1, shl_1b]; with_reducible exact mn9b (by omega))) (by first | with_reducible assumption | (simp (disch := omega) only [li_0, li_1, li_2, li_3, li_4, li_5, li_6, li_7, li_8, li_9, li_10, li_20, li_30, li_82, li_91, li_273, li_380, li_400, li_512, li_1000, li_2457, li_4000, nI_add, nI_1, nI_mul, nI_sub, shl_1, shl_1b, nI_or, nI_xor, nI_and]; with_reducible exact ⟨_, (by first | omega | exact or9 (by omega) (by omega) | exact xor9 (by omega) (by omega)), rfl⟩) | with_reducible exact ⟨_, (by first | omega | exact or9 (by omega) (by omega) | exact xor9 (by omega) (by omega)), rfl⟩ | exact IsR.mn (by first | with_reducible assumption | exact ⟨_, by omega, rfl⟩) (by first | with_reducible assumption | exact ⟨_, by omega, rfl⟩) | exact IsR.mx (by first | with_reducible assumption | exact ⟨_, by omega, rfl⟩) (by first | with_reducible assumption | exact ⟨_, by omega, rfl⟩) | with_reducible exact mn9 (by omega) | (simp (disch := omega) only [li_0, li_1, li_2, li_3, li_4, li_5, li_6, li_7, li_8, li_9, li_10, li_20, li_30, li_82, li_91, li_273, li_380, li_400, li_512, li_1000, li_2457, li_4000, nI_add, nI_1, nI_mul, nI_sub, shl_1, shl_1b]; with_reducible exact mn9b (by omega)))) ?_
    rintro _ _ ⟨rfl, kv15, hv15, rfl⟩
    refine Ok.bd (fun (v19 : Int32) t20 => GC σ t20 ∧ (True)) ?_ ?_
    · refine Ok.ite (fun c_4 => ?_) (fun c_4 => ?_)
      · try simp (disch := omega) only [li_0, li_1, li_2, li_3, li_4, li_5, li_6, li_7, li_8, li_9, li_10, li_20, li_30, li_82, li_91, li_273, li_380, li_400, li_512, li_1000, li_2457, li_4000, nI_add, nI_1, nI_mul, nI_sub, shl_1, shl_1b, nI_leP, nI_ltP, nI_eqP, Nat.not_le, Nat.not_lt] at c_4
        exact Ok.ret ⟨hG, True.intro⟩
      · try simp (disch := omega) only [li_0, li_1, li_2, li_3, li_4, li_5, li_6, li_7, li_8, li_9, li_10, li_20, li_30, li_82, li_91, li_273, li_380, li_400, li_512, li_1000, li_2457, li_4000, nI_add, nI_1, nI_mul, nI_sub, shl_1, shl_1b, nI_leP, nI_ltP, nI_eqP, Nat.not_le, Nat.not_lt] at c_4
        refine Ok.bd _ (gX1_put_3 hG) ?_
        rintro _ t24 ⟨hG_5, hxv23⟩
        refine Ok.bd _ (gX11_tellLine hG_5) ?_
        rintro _ t27 ⟨hG_6, hxv26⟩
        exact Ok.ret ⟨hG_6, True.intro⟩
    · intro v19 t20 hx
      obtain ⟨hG_7, hxv19⟩ := hx
      exact Ok.ret ⟨5000 - (j + 1), by omega, hG_7, ⟨j + 1, nI_1 j, by omega, by omega, rfl⟩⟩
set_option maxHeartbeats 4000000 in
set_option maxRecDepth 100000 in
theorem gSX11_tellNet_26 {σ t : St} (hG : GC σ t) {x1 : Nat} (g_x1 : netAt x1 = true) {a0 : Int32} {a1 : Int32} (h_a1 : IsR 5001 a1) : Ok (wh (SX11_tellNet_26 x1) (a0, a1) t) (fun r u => GC σ u ∧ (True)) := by
  obtain ⟨j0, hj0, rfl⟩ := h_a1
  refine Ok.loop (fun k c s => GC σ s ∧ (∃ j, c.2 = nI j ∧ j ≤ 5000 ∧ 0 ≤ j ∧ k = 5000 - j)) ?_ (5000 - j0) _ _ ⟨hG, ⟨j0, rfl, by omega, by omega, rfl⟩⟩
  clear hG hj0
  intro k c s hI
  obtain ⟨hG, ⟨j, ej, hj, hlo, rfl⟩⟩ := hI
  obtain ⟨c0, c1⟩ := c
  dsimp only at ej
  subst ej
  unfold SX11_tellNet_26
  dsimp only
  refine Ok.rdT hG.tt (ty_n0 g_x1) (by omega) (fun k_1 hk_1 ek_1 => ?_)
  refine Ok.ite (fun c_2 => ?_) (fun c_2 => ?_)
  · try simp (disch := omega) only [li_0, li_1, li_2, li_3, li_4, li_5, li_6, li_7, li_8, li_9, li_10, li_20, li_30, li_82, li_91, li_273, li_380, li_400, li_512, li_1000, li_2457, li_4000, nI_add, nI_1, nI_mul, nI_sub, shl_1, shl_1b, nI_leP, nI_ltP, nI_eqP, Nat.not_le, Nat.not_lt] at c_2
    exact Ok.ret ⟨hG, True.intro⟩
  · try simp (disch := omega) only [li_0, li_1, li_2, li_3, li_4, li_5, li_6, li_7, li_8, li_9, li_10, li_20, li_30, li_82, li_91, li_273, li_380, li_400, li_512, li_1000, li_2457, li_4000, nI_add, nI_1, nI_mul, nI_sub, shl_1, shl_1b, nI_leP, nI_ltP, nI_eqP, Nat.not_le, Nat.not_lt] at c_2
    refine Ok.bd _ (gSX11_tellNet_39 hG (by first | assumption | decide +kernel) (by first | with_reducible assumption | (simp (disch := omega) only [li_0, li_1, li_2, li_3, li_4, li_5, li_6, li_7, li_8, li_9, li_10, li_20, li_30, li_82, li_91, li_273, li_380, li_400, li_512, li_1000, li_2457, li_4000, nI_add, nI_1, nI_mul, nI_sub, shl_1, shl_1b, nI_or, nI_xor, nI_and]; with_reducible exact ⟨_, (by first | omega | exact or9 (by omega) (by omega) | exact xor9 (by omega) (by omega)), rfl⟩) | with_reducible exact ⟨_, (by first | omega | exact or9 (by omega) (by omega) | exact xor9 (by omega) (by omega)), rfl⟩ | exact IsR.mn (by first | with_reducible assumption | exact ⟨_, by omega, rfl⟩) (by first | with_reducible assumption | exact ⟨_, by omega, rfl⟩) | exact IsR.mx (by first | with_reducible assumption | exact ⟨_, by omega, rfl⟩) (by first | with_reducible assumption | exact ⟨_, by omega, rfl⟩) | with_reducible exact mn9 (by omega) | (simp (disch := omega) only [li_0, li_1, li_2, li_3, li_4, li_5, li_6, li_7, li_8, li_9, li_10, li_20, li_30, li_82, li_91, li_273, li_380, li_400, li_512, li_1000, li_2457, li_4000, nI_add, nI_1, nI_mul, nI_sub, shl_1, shl_1b]; with_reducible exact mn9b (by omega))) (by show IsR 5001 _; first | with_reducible assumption | (simp (disch := omega) only [li_0, li_1, li_2, li_3, li_4, li_5, li_6, li_7, li_8, li_9, li_10, li_20, li_30, li_82, li_91, li_273, li_380, li_400, li_512, li_1000, li_2457, li_4000, nI_add, nI_1, nI_mul, nI_sub, shl_1, shl_1b, nI_or, nI_xor, nI_and]; with_reducible exact ⟨_, (by first | omega | exact or9 (by omega) (by omega) | exact xor9 (by omega) (by omega)), rfl⟩) | with_reducible exact ⟨_, (by first | omega | exact or9 (by omega) (by omega) | exact xor9 (by omega) (by omega)), rfl⟩ | exact IsR.mn (by first | with_reducible assumption | exact ⟨_, by omega, rfl⟩) (by first | with_reducible assumption | exact ⟨_, by omega, rfl⟩) | exact IsR.mx (by first | with_reducible assumption | exact ⟨_, by omega, rfl⟩) (by first | with_reducible assumption | exact ⟨_, by omega, rfl⟩) | with_reducible exact mn9 (by omega) | (simp (disch := omega) only [li_0, li_1, li_2, li_3, li_4, li_5, li_6, li_7, li_8, li_9, li_10, li_20, li_30, li_82, li_91, li_273, li_380, li_400, li_512, li_1000, li_2457, li_4000, nI_add, nI_1, nI_mul, nI_sub, shl_1, shl_1b]; with_reducible exact mn9b (by omega)))) ?_
    rintro e29 t30 ⟨hG_3, hxe29⟩
    exact Ok.ret ⟨5000 - (j + 1), by omega, hG_3, ⟨j + 1, nI_1 j, by omega, by omega, rfl⟩⟩
set_option maxHeartbeats 4000000 in
set_option maxRecDepth 100000 in
theorem gX11_tellNet {σ t : St} (hG : GC σ t) {x : Nat} (g_x : netAt x = true) : Ok (FX11_tellNet x t) (fun r u => GC σ u ∧ (True)) := by
  unfold FX11_tellNet
  refine Ok.ck (by first | assumption | decide +kernel) (fun g_1 => ?_)
  refine Ok.bd _ (gX1_putText_3_s2 hG) ?_
  rintro _ t2 ⟨hG_2, hxv1⟩
  refine Ok.rdT hG_2.tt (ty_n0 g_1) (by omega) (fun k_3 hk_3 ek_3 => ?_)
  refine Ok.bd _ (gX1_putNumber_3 hG_2) ?_
  rintro _ t7 ⟨hG_4, hxv6⟩
  refine Ok.bd _ (gSX11_tellNet_26 hG_4 (by first | assumption | decide +kernel) (by show IsR 5001 _; first | with_reducible assumption | (simp (disch := omega) only [li_0, li_1, li_2, li_3, li_4, li_5, li_6, li_7, li_8, li_9, li_10, li_20, li_30, li_82, li_91, li_273, li_380, li_400, li_512, li_1000, li_2457, li_4000, nI_add, nI_1, nI_mul, nI_sub, shl_1, shl_1b, nI_or, nI_xor, nI_and]; with_reducible exact ⟨_, (by first | omega | exact or9 (by omega) (by omega) | exact xor9 (by omega) (by omega)), rfl⟩) | with_reducible exact ⟨_, (by first | omega | exact or9 (by omega) (by omega) | exact xor9 (by omega) (by omega)), rfl⟩ | exact IsR.mn (by first | with_reducible assumption | exact ⟨_, by omega, rfl⟩) (by first | with_reducible assumption | exact ⟨_, by omega, rfl⟩) | exact IsR.mx (by first | with_reducible assumption | exact ⟨_, by omega, rfl⟩) (by first | with_reducible assumption | exact ⟨_, by omega, rfl⟩) | with_reducible exact mn9 (by omega) | (simp (disch := omega) only [li_0, li_1, li_2, li_3, li_4, li_5, li_6, li_7, li_8, li_9, li_10, li_20, li_30, li_82, li_91, li_273, li_380, li_400, li_512, li_1000, li_2457, li_4000, nI_add, nI_1, nI_mul, nI_sub, shl_1, shl_1b]; with_reducible exact mn9b (by omega)))) ?_
  rintro e33 t34 ⟨hG_5, hxe33⟩
  refine Ok.bd _ (gX1_put_3 hG_5) ?_
  rintro _ t38 ⟨hG_6, hxv37⟩
  exact Ok.ret ⟨hG_6, True.intro⟩
set_option maxHeartbeats 4000000 in
set_option maxRecDepth 100000 in
theorem gSX11_tellRow_12 {σ t : St} (hG : GC σ t) {x1 : Nat} (g_x1 : netAt x1 = true) {a0 : Int32} (h_a0 : IsR 5001 a0) : Ok (wh (SX11_tellRow_12 x1) a0 t) (fun r u => GC σ u ∧ (True)) := by
  obtain ⟨j0, hj0, rfl⟩ := h_a0
  refine Ok.loop (fun k c s => GC σ s ∧ (∃ j, c = nI j ∧ j ≤ 5000 ∧ 0 ≤ j ∧ k = 5000 - j)) ?_ (5000 - j0) _ _ ⟨hG, ⟨j0, rfl, by omega, by omega, rfl⟩⟩
  clear hG hj0
  intro k c s hI
  obtain ⟨hG, ⟨j, ej, hj, hlo, rfl⟩⟩ := hI
  subst ej
  unfold SX11_tellRow_12
  refine Ok.rdT hG.tt (ty_n0 g_x1) (by omega) (fun k_1 hk_1 ek_1 => ?_)
  refine Ok.ite (fun c_2 => ?_) (fun c_2 => ?_)
  · try simp (disch := omega) only [li_0, li_1, li_2, li_3, li_4, li_5, li_6, li_7, li_8, li_9, li_10, li_20, li_30, li_82, li_91, li_273, li_380, li_400, li_512, li_1000, li_2457, li_4000, nI_add, nI_1, nI_mul, nI_sub, shl_1, shl_1b, nI_leP, nI_ltP, nI_eqP, Nat.not_le, Nat.not_lt] at c_2
    exact Ok.ret ⟨hG, True.intro⟩
  · try simp (disch := omega) only [li_0, li_1, li_2, li_3, li_4, li_5, li_6, li_7, li_8, li_9, li_10, li_20, li_30, li_82, li_91, li_273, li_380, li_400, li_512, li_1000, li_2457, li_4000, nI_add, nI_1, nI_mul, nI_sub, shl_1, shl_1b, nI_leP, nI_ltP, nI_eqP, Nat.not_le, Nat.not_lt] at c_2
    refine Ok.ck (by first | (simp (disch := omega) only [li_0, li_1, li_2, li_3, li_4, li_5, li_6, li_7, li_8, li_9, li_10, li_20, li_30, li_82, li_91, li_273, li_380, li_400, li_512, li_1000, li_2457, li_4000, nI_add, nI_1, nI_mul, nI_sub, shl_1, shl_1b, nI_or, nI_xor, nI_and]; with_reducible exact inb_n (by first | omega | exact or9 (by omega) (by omega) | exact xor9 (by omega) (by omega)) (by omega)) | with_reducible exact inb_n (by omega) (by omega) | exact IsR.ib (by with_reducible assumption) (by decide) | decide) (fun g_3 => ?_)
    refine Ok.rdT hG.tt (ty_od g_x1 (inb_lt g_3)) (by omega) (fun k_4 hk_4 ek_4 => ?_)
    refine Ok.bd _ (gX1_putNumber_3 hG) ?_
    rintro _ t11 ⟨hG_5, hxv10⟩
    exact Ok.ret ⟨5000 - (j + 1), by omega, hG_5, ⟨j + 1, nI_1 j, by omega, by omega, rfl⟩⟩
set_option maxHeartbeats 4000000 in
set_option maxRecDepth 100000 in
theorem gX11_tellRow {σ t : St} (hG : GC σ t) {x : Nat} (g_x : netAt x = true) : Ok (FX11_tellRow x t) (fun r u => GC σ u ∧ (True)) := by
  unfold FX11_tellRow
  refine Ok.ck (by first | assumption | decide +kernel) (fun g_1 => ?_)
  refine Ok.bd _ (gX1_putText_3_s3 hG) ?_
  rintro _ t2 ⟨hG_2, hxv1⟩
  refine Ok.bd _ (gSX11_tellRow_12 hG_2 (by first | assumption | decide +kernel) (by show IsR 5001 _; first | with_reducible assumption | (simp (disch := omega) only [li_0, li_1, li_2, li_3, li_4, li_5, li_6, li_7, li_8, li_9, li_10, li_20, li_30, li_82, li_91, li_273, li_380, li_400, li_512, li_1000, li_2457, li_4000, nI_add, nI_1, nI_mul, nI_sub, shl_1, shl_1b, nI_or, nI_xor, nI_and]; with_reducible exact ⟨_, (by first | omega | exact or9 (by omega) (by omega) | exact xor9 (by omega) (by omega)), rfl⟩) | with_reducible exact ⟨_, (by first | omega | exact or9 (by omega) (by omega) | exact xor9 (by omega) (by omega)), rfl⟩ | exact IsR.mn (by first | with_reducible assumption | exact ⟨_, by omega, rfl⟩) (by first | with_reducible assumption | exact ⟨_, by omega, rfl⟩) | exact IsR.mx (by first | with_reducible assumption | exact ⟨_, by omega, rfl⟩) (by first | with_reducible assumption | exact ⟨_, by omega, rfl⟩) | with_reducible exact mn9 (by omega) | (simp (disch := omega) only [li_0, li_1, li_2, li_3, li_4, li_5, li_6, li_7, li_8, li_9, li_10, li_20, li_30, li_82, li_91, li_273, li_380, li_400, li_512, li_1000, li_2457, li_4000, nI_add, nI_1, nI_mul, nI_sub, shl_1, shl_1b]; with_reducible exact mn9b (by omega)))) ?_
  rintro e13 t14 ⟨hG_3, hxe13⟩
  refine Ok.bd _ (gX1_put_3 hG_3) ?_
  rintro _ t18 ⟨hG_4, hxv17⟩
  exact Ok.ret ⟨hG_4, True.intro⟩
set_option maxHeartbeats 4000000 in
set_option maxRecDepth 100000 in
theorem gSX11_tellCuts_2 {σ t : St} (hG : GC σ t) {x1 : Nat} (g_x1 : netAt x1 = true) {a0 : Int32} (h_a0 : IsR 5001 a0) : Ok (wh (SX11_tellCuts_2 x1) a0 t) (fun r u => GC σ u ∧ (True)) := by
  obtain ⟨j0, hj0, rfl⟩ := h_a0
  refine Ok.loop (fun k c s => GC σ s ∧ (∃ j, c = nI j ∧ j ≤ 5000 ∧ 0 ≤ j ∧ k = 5000 - j)) ?_ (5000 - j0) _ _ ⟨hG, ⟨j0, rfl, by omega, by omega, rfl⟩⟩
  clear hG hj0
  intro k c s hI
  obtain ⟨hG, ⟨j, ej, hj, hlo, rfl⟩⟩ := hI
  subst ej
  unfold SX11_tellCuts_2
  refine Ok.rdT hG.tt (ty_n0 g_x1) (by omega) (fun k_1 hk_1 ek_1 => ?_)
  refine Ok.ite (fun c_2 => ?_) (fun c_2 => ?_)
  · try simp (disch := omega) only [li_0, li_1, li_2, li_3, li_4, li_5, li_6, li_7, li_8, li_9, li_10, li_20, li_30, li_82, li_91, li_273, li_380, li_400, li_512, li_1000, li_2457, li_4000, nI_add, nI_1, nI_mul, nI_sub, shl_1, shl_1b, nI_leP, nI_ltP, nI_eqP, Nat.not_le, Nat.not_lt] at c_2
    exact Ok.ret ⟨hG, True.intro⟩
  · try simp (disch := omega) only [li_0, li_1, li_2, li_3, li_4, li_5, li_6, li_7, li_8, li_9, li_10, li_20, li_30, li_82, li_91, li_273, li_380, li_400, li_512, li_1000, li_2457, li_4000, nI_add, nI_1, nI_mul, nI_sub, shl_1, shl_1b, nI_leP, nI_ltP, nI_eqP, Nat.not_le, Nat.not_lt] at c_2
    refine Ok.bd (fun (v5 : Unit) t6 => GC σ t6 ∧ (True)) ?_ ?_
    · refine Ok.ite (fun c_3 => ?_) (fun c_3 => ?_)
      · try simp (disch := omega) only [li_0, li_1, li_2, li_3, li_4, li_5, li_6, li_7, li_8, li_9, li_10, li_20, li_30, li_82, li_91, li_273, li_380, li_400, li_512, li_1000, li_2457, li_4000, nI_add, nI_1, nI_mul, nI_sub, shl_1, shl_1b, nI_leP, nI_ltP, nI_eqP, Nat.not_le, Nat.not_lt] at c_3
        exact Ok.ret ⟨hG, True.intro⟩
      · try simp (disch := omega) only [li_0, li_1, li_2, li_3, li_4, li_5, li_6, li_7, li_8, li_9, li_10, li_20, li_30, li_82, li_91, li_273, li_380, li_400, li_512, li_1000, li_2457, li_4000, nI_add, nI_1, nI_mul, nI_sub, shl_1, shl_1b, nI_leP, nI_ltP, nI_eqP, Nat.not_le, Nat.not_lt] at c_3
        refine Ok.bd _ (gX1_put_3 hG) ?_
        rintro _ t16 ⟨hG_4, hxv15⟩
        exact Ok.ret ⟨hG_4, True.intro⟩
    · intro v5 t6 hx
      obtain ⟨hG_5, hxv5⟩ := hx
      refine Ok.bd _ (rX6_atPlace hG_5.tt (by first | assumption | decide +kernel) (by first | with_reducible assumption | (simp (disch := omega) only [li_0, li_1, li_2, li_3, li_4, li_5, li_6, li_7, li_8, li_9, li_10, li_20, li_30, li_82, li_91, li_273, li_380, li_400, li_512, li_1000, li_2457, li_4000, nI_add, nI_1, nI_mul, nI_sub, shl_1, shl_1b, nI_or, nI_xor, nI_and]; with_reducible exact ⟨_, (by first | omega | exact or9 (by omega) (by omega) | exact xor9 (by omega) (by omega)), rfl⟩) | with_reducible exact ⟨_, (by first | omega | exact or9 (by omega) (by omega) | exact xor9 (by omega) (by omega)), rfl⟩ | exact IsR.mn (by first | with_reducible assumption | exact ⟨_, by omega, rfl⟩) (by first | with_reducible assumption | exact ⟨_, by omega, rfl⟩) | exact IsR.mx (by first | with_reducible assumption | exact ⟨_, by omega, rfl⟩) (by first | with_reducible assumption | exact ⟨_, by omega, rfl⟩) | with_reducible exact mn9 (by omega) | (simp (disch := omega) only [li_0, li_1, li_2, li_3, li_4, li_5, li_6, li_7, li_8, li_9, li_10, li_20, li_30, li_82, li_91, li_273, li_380, li_400, li_512, li_1000, li_2457, li_4000, nI_add, nI_1, nI_mul, nI_sub, shl_1, shl_1b]; with_reducible exact mn9b (by omega)))) ?_
      rintro v9 _ ⟨rfl, hxv9⟩
      refine Ok.bd _ (gX1_putNumber_3 hG_5) ?_
      rintro _ t13 ⟨hG_7, hxv12⟩
      exact Ok.ret ⟨5000 - (j + 1), by omega, hG_7, ⟨j + 1, nI_1 j, by omega, by omega, rfl⟩⟩
set_option maxHeartbeats 4000000 in
set_option maxRecDepth 100000 in
theorem gX11_tellCuts {σ t : St} (hG : GC σ t) {x : Nat} (g_x : netAt x = true) : Ok (FX11_tellCuts x t) (fun r u => GC σ u ∧ (True)) := by
  unfold FX11_tellCuts
  refine Ok.ck (by first | assumption | decide +kernel) (fun g_1 => ?_)
  refine Ok.bd _ (gSX11_tellCuts_2 hG (by first | assumption | decide +kernel) (by show IsR 5001 _; first | with_reducible assumption | (simp (disch := omega) only [li_0, li_1, li_2, li_3, li_4, li_5, li_6, li_7, li_8, li_9, li_10, li_20, li_30, li_82, li_91, li_273, li_380, li_400, li_512, li_1000, li_2457, li_4000, nI_add, nI_1, nI_mul, nI_sub, shl_1, shl_1b, nI_or, nI_xor, nI_and]; with_reducible exact ⟨_, (by first | omega | exact or9 (by omega) (by omega) | exact xor9 (by omega) (by omega)), rfl⟩) | with_reducible exact ⟨_, (by first | omega | exact or9 (by omega) (by omega) | exact xor9 (by omega) (by omega)), rfl⟩ | exact IsR.mn (by first | with_reducible assumption | exact ⟨_, by omega, rfl⟩) (by first | with_reducible assumption | exact ⟨_, by omega, rfl⟩) | exact IsR.mx (by first | with_reducible assumption | exact ⟨_, by omega, rfl⟩) (by first | with_reducible assumption | exact ⟨_, by omega, rfl⟩) | with_reducible exact mn9 (by omega) | (simp (disch := omega) only [li_0, li_1, li_2, li_3, li_4, li_5, li_6, li_7, li_8, li_9, li_10, li_20, li_30, li_82, li_91, li_273, li_380, li_400, li_512, li_1000, li_2457, li_4000, nI_add, nI_1, nI_mul, nI_sub, shl_1, shl_1b]; with_reducible exact mn9b (by omega)))) ?_
  rintro e18 t19 ⟨hG_2, hxe18⟩
  exact Ok.ret ⟨hG_2, True.intro⟩
set_option maxHeartbeats 4000000 in
set_option maxRecDepth 100000 in
theorem gX11_tell {σ t : St} (hG : GC σ t) {a : Int32} {b : Int32} : Ok (FX11_tell a b t) (fun r u => GC σ u ∧ (True)) := by
  unfold FX11_tell
  refine Ok.bd _ (rX11_netIn hG.tt) ?_
  rintro v1 _ ⟨rfl, hxv1⟩
  rcases v1 with _ | x4
  · refine Ok.on ?_
    exact Ok.ret ⟨hG, True.intro⟩
  · refine Ok.os ?_
    obtain ⟨hnx, ⟨ka, hka, rfl⟩, hpx, hlx, hex⟩ := hxv1 x4 rfl
    refine Ok.ck (by first | assumption | decide +kernel) (fun g_2 => ?_)
    refine Ok.ite (fun c_3 => ?_) (fun c_3 => ?_)
    · try simp (disch := omega) only [li_0, li_1, li_2, li_3, li_4, li_5, li_6, li_7, li_8, li_9, li_10, li_20, li_30, li_82, li_91, li_273, li_380, li_400, li_512, li_1000, li_2457, li_4000, nI_add, nI_1, nI_mul, nI_sub, shl_1, shl_1b, nI_leP, nI_ltP, nI_eqP, Nat.not_le, Nat.not_lt] at c_3
      exact Ok.ret ⟨hG, True.intro⟩
    · try simp (disch := omega) only [li_0, li_1, li_2, li_3, li_4, li_5, li_6, li_7, li_8, li_9, li_10, li_20, li_30, li_82, li_91, li_273, li_380, li_400, li_512, li_1000, li_2457, li_4000, nI_add, nI_1, nI_mul, nI_sub, shl_1, shl_1b, nI_leP, nI_ltP, nI_eqP, Nat.not_le, Nat.not_lt] at c_3
      refine Ok.ite (fun c_4 => ?_) (fun c_4 => ?_)
      · try simp (disch := omega) only [li_0, li_1, li_2, li_3, li_4, li_5, li_6, li_7, li_8, li_9, li_10, li_20, li_30, li_82, li_91, li_273, li_380, li_400, li_512, li_1000, li_2457, li_4000, nI_add, nI_1, nI_mul, nI_sub, shl_1, shl_1b, nI_leP, nI_ltP, nI_eqP, Nat.not_le, Nat.not_lt] at c_4
        refine Ok.wr (fun t10 w_5 => ?_)
        have hG_6 := hG.wrT w_5 (by omega) ty_31 (by first | with_reducible assumption | (simp (disch := omega) only [li_0, li_1, li_2, li_3, li_4, li_5, li_6, li_7, li_8, li_9, li_10, li_20, li_30, li_82, li_91, li_273, li_380, li_400, li_512, li_1000, li_2457, li_4000, nI_add, nI_1, nI_mul, nI_sub, shl_1, shl_1b, nI_or, nI_xor, nI_and]; with_reducible exact ⟨_, (by first | omega | exact or9 (by omega) (by omega) | exact xor9 (by omega) (by omega)), rfl⟩) | with_reducible exact ⟨_, (by first | omega | exact or9 (by omega) (by omega) | exact xor9 (by omega) (by omega)), rfl⟩ | exact IsR.mn (by first | with_reducible assumption | exact ⟨_, by omega, rfl⟩) (by first | with_reducible assumption | exact ⟨_, by omega, rfl⟩) | exact IsR.mx (by first | with_reducible assumption | exact ⟨_, by omega, rfl⟩) (by first | with_reducible assumption | exact ⟨_, by omega, rfl⟩) | with_reducible exact mn9 (by omega) | (simp (disch := omega) only [li_0, li_1, li_2, li_3, li_4, li_5, li_6, li_7, li_8, li_9, li_10, li_20, li_30, li_82, li_91, li_273, li_380, li_400, li_512, li_1000, li_2457, li_4000, nI_add, nI_1, nI_mul, nI_sub, shl_1, shl_1b]; with_reducible exact mn9b (by omega)))
        refine Ok.bd (fun (v13 : Unit) t14 => GC σ t14 ∧ (True)) ?_ ?_
        · refine Ok.ite (fun c_7 => ?_) (fun c_7 => ?_)
          · try simp (disch := omega) only [li_0, li_1, li_2, li_3, li_4, li_5, li_6, li_7, li_8, li_9, li_10, li_20, li_30, li_82, li_91, li_273, li_380, li_400, li_512, li_1000, li_2457, li_4000, nI_add, nI_1, nI_mul, nI_sub, shl_1, shl_1b, nI_leP, nI_ltP, nI_eqP, Nat.not_le, Nat.not_lt] at c_7
            refine Ok.bd _ (gX11_tellNet hG_6 (by first | assumption | decide +kernel)) ?_
            rintro _ t24 ⟨hG_8, hxv23⟩
            refine Ok.bd _ (gX11_tellRow hG_8 (by first | assumption | decide +kernel)) ?_
            rintro _ t27 ⟨hG_9, hxv26⟩
            exact Ok.ret ⟨hG_9, True.intro⟩
          · try simp (disch := omega) only [li_0, li_1, li_2, li_3, li_4, li_5, li_6, li_7, li_8, li_9, li_10, li_20, li_30, li_82, li_91, li_273, li_380, li_400, li_512, li_1000, li_2457, li_4000, nI_add, nI_1, nI_mul, nI_sub, shl_1, shl_1b, nI_leP, nI_ltP, nI_eqP, Nat.not_le, Nat.not_lt] at c_7
            refine Ok.bd _ (gX11_tellCuts hG_6 (by first | assumption | decide +kernel)) ?_
            rintro _ t21 ⟨hG_10, hxv20⟩
            exact Ok.ret ⟨hG_10, True.intro⟩
        · intro v13 t14 hx
          obtain ⟨hG_11, hxv13⟩ := hx
          refine Ok.rdT hG_11.tt ty_31 (by omega) (fun k_12 hk_12 ek_12 => ?_)
          exact Ok.ret ⟨hG_11, True.intro⟩
      · try simp (disch := omega) only [li_0, li_1, li_2, li_3, li_4, li_5, li_6, li_7, li_8, li_9, li_10, li_20, li_30, li_82, li_91, li_273, li_380, li_400, li_512, li_1000, li_2457, li_4000, nI_add, nI_1, nI_mul, nI_sub, shl_1, shl_1b, nI_leP, nI_ltP, nI_eqP, Nat.not_le, Nat.not_lt] at c_4
        exact Ok.ret ⟨hG, True.intro⟩
