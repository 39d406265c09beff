section
/-! safety of the class: bytes, the reader (printed by wip/ext/g26.py) -/
theorem rX1_at_1 {t : St} (hT : TY t) {a : Int32} : Ok (FX1_at_1 a t) (fun r u => t = u ∧ True) := by
  unfold FX1_at_1
  refine Ok.ite (fun c => Ok.ret ⟨rfl, True.intro⟩) (fun c => ?_)
  refine Ok.rdT hT ty_11 (by omega) (fun k hk ek => ?_)
  refine Ok.ite (fun c2 => Ok.ret ⟨rfl, True.intro⟩) (fun c2 => ?_)
  obtain ⟨j, hj, rfl⟩ := nI_of c
  rw [nI_leP (by omega) (by omega)] at c2
  refine Ok.ck (inb_n (by omega) (by omega)) (fun g => ?_)
  exact Ok.rd (fun v hv => Ok.ret ⟨rfl, True.intro⟩)
theorem rX1_at_3 {t : St} (hT : TY t) {a : Int32} : Ok (FX1_at_3 a t) (fun r u => t = u ∧ True) := by
  unfold FX1_at_3
  refine Ok.ite (fun c => Ok.ret ⟨rfl, True.intro⟩) (fun c => ?_)
  refine Ok.rdT hT ty_31 (by omega) (fun k hk ek => ?_)
  refine Ok.ite (fun c2 => Ok.ret ⟨rfl, True.intro⟩) (fun c2 => ?_)
  obtain ⟨j, hj, rfl⟩ := nI_of c
  rw [nI_leP (by omega) (by omega)] at c2
  refine Ok.ck (inb_n (by omega) (by omega)) (fun g => ?_)
  exact Ok.rd (fun v hv => Ok.ret ⟨rfl, True.intro⟩)
theorem gX1_put_3 {σ t : St} (hG : GC σ t) {a : Int32} : Ok (FX1_put_3 a t) (fun r u => GC σ u ∧ True) := by
  unfold FX1_put_3 FX1_hasRoom_3
  obtain ⟨k, hk, ek⟩ := hG.tt.rd ty_31 (by omega)
  have e1 : (Int32.ofNat 256 < t 3 1 + 1) = (256 < k + 1) := by
    rw [ek, nI_1]
    exact nI_ltP (a := 256) (by omega) (by omega)
  refine Ok.bd (fun v u => t = u ∧ (v = 0 ∨ k < 256)) ?_ ?_
  · refine Ok.rd (fun v hv => ?_)
    subst hv
    refine Ok.ite (fun c => Ok.ret ⟨rfl, Or.inl rfl⟩) (fun c => Ok.ret ⟨rfl, Or.inr ?_⟩)
    rw [e1] at c
    omega
  · rintro v _ ⟨rfl, hv⟩
    refine Ok.ite (fun c => Ok.ret ⟨hG, True.intro⟩) (fun c => ?_)
    have hk2 := hv.resolve_left c
    refine Ok.rd (fun v6 h6 => ?_)
    rw [ek] at h6
    subst h6
    refine Ok.ck (inb_n hk2 (by omega)) (fun g => ?_)
    refine Ok.wr (fun t9 e9 => ?_)
    have h9 := hG.wrU e9 (by omega) ty_u4
    refine Ok.rd (fun v11 h11 => ?_)
    have : t9 3 1 = nI k := by
      subst e9
      rw [wr_off 3 (by omega)]
      exact ek
    rw [this] at h11
    subst h11
    refine Ok.wr (fun t13 e13 => ?_)
    exact Ok.ret ⟨h9.wrT e13 (by omega) ty_31 ⟨k + 1, by omega, nI_1 k⟩, True.intro⟩
theorem inc_i {x : Int32} {k : Nat} (h : x < nI k) (hk : k < 1000) : (x + 1).toInt = x.toInt + 1 := by
  rw [Int32.lt_iff_toInt_lt, nI_toInt (by omega)] at h
  have h1 := Int32.le_toInt x
  rw [Int32.toInt_add]
  have e : (1 : Int32).toInt = 1 := by decide
  rw [e]
  apply Int.bmod_eq_of_le <;> omega
theorem inc_v {x y : Int32} (h : ¬ y ≤ x) : (x + 1).toInt = x.toInt + 1 := by
  rw [Int32.le_iff_toInt_le] at h
  have h1 := Int32.le_toInt x
  have h2 := Int32.toInt_lt y
  rw [Int32.toInt_add]
  have e : (1 : Int32).toInt = 1 := by decide
  rw [e]
  apply Int.bmod_eq_of_le <;> omega
set_option maxHeartbeats 4000000 in
set_option maxRecDepth 100000 in
theorem rX7_isBlank {t : St} (hT : TY t) {a : Int32} : Ok (FX7_isBlank a t) (fun r u => t = u ∧ (isb r = true ∧ (True))) := by
  unfold FX7_isBlank
  refine Ok.ite (fun c_1 => ?_) (fun c_1 => ?_)
  · try simp (disch := omega) only [li_0, li_1, li_2, li_3, li_4, li_5, li_6, li_7, li_8, li_9, li_10, li_20, li_30, li_82, li_91, li_273, li_380, li_400, li_512, li_1000, li_2457, li_4000, nI_add, nI_1, nI_mul, nI_sub, shl_1, shl_1b, nI_leP, nI_ltP, nI_eqP, Nat.not_le, Nat.not_lt] at c_1
    exact Ok.ret ⟨rfl, ⟨(by first | rfl | assumption | decide), (by first | exact True.intro | exact Or.inl rfl | exact Or.inr (by first | assumption | exact ⟨_, by omega, rfl⟩ | exact ⟨⟨_, by omega, rfl⟩, ⟨_, by omega, rfl⟩⟩))⟩⟩
  · try simp (disch := omega) only [li_0, li_1, li_2, li_3, li_4, li_5, li_6, li_7, li_8, li_9, li_10, li_20, li_30, li_82, li_91, li_273, li_380, li_400, li_512, li_1000, li_2457, li_4000, nI_add, nI_1, nI_mul, nI_sub, shl_1, shl_1b, nI_leP, nI_ltP, nI_eqP, Nat.not_le, Nat.not_lt] at c_1
    refine Ok.ite (fun c_2 => ?_) (fun c_2 => ?_)
    · try simp (disch := omega) only [li_0, li_1, li_2, li_3, li_4, li_5, li_6, li_7, li_8, li_9, li_10, li_20, li_30, li_82, li_91, li_273, li_380, li_400, li_512, li_1000, li_2457, li_4000, nI_add, nI_1, nI_mul, nI_sub, shl_1, shl_1b, nI_leP, nI_ltP, nI_eqP, Nat.not_le, Nat.not_lt] at c_2
      exact Ok.ret ⟨rfl, ⟨(by first | rfl | assumption | decide), (by first | exact True.intro | exact Or.inl rfl | exact Or.inr (by first | assumption | exact ⟨_, by omega, rfl⟩ | exact ⟨⟨_, by omega, rfl⟩, ⟨_, by omega, rfl⟩⟩))⟩⟩
    · try simp (disch := omega) only [li_0, li_1, li_2, li_3, li_4, li_5, li_6, li_7, li_8, li_9, li_10, li_20, li_30, li_82, li_91, li_273, li_380, li_400, li_512, li_1000, li_2457, li_4000, nI_add, nI_1, nI_mul, nI_sub, shl_1, shl_1b, nI_leP, nI_ltP, nI_eqP, Nat.not_le, Nat.not_lt] at c_2
      exact Ok.ret ⟨rfl, ⟨(by first | rfl | assumption | decide), (by first | exact True.intro | exact Or.inl rfl | exact Or.inr (by first | assumption | exact ⟨_, by omega, rfl⟩ | exact ⟨⟨_, by omega, rfl⟩, ⟨_, by omega, rfl⟩⟩))⟩⟩
set_option maxHeartbeats 4000000 in
set_option maxRecDepth 100000 in
theorem rX7_kindOf {t : St} (hT : TY t) {a : Int32} : Ok (FX7_kindOf a t) (fun r u => t = u ∧ (True)) := by
  unfold FX7_kindOf
  refine Ok.ite (fun c_1 => ?_) (fun c_1 => ?_)
  · try simp (disch := omega) only [li_0, li_1, li_2, li_3, li_4, li_5, li_6, li_7, li_8, li_9, li_10, li_20, li_30, li_82, li_91, li_273, li_380, li_400, li_512, li_1000, li_2457, li_4000, nI_add, nI_1, nI_mul, nI_sub, shl_1, shl_1b, nI_leP, nI_ltP, nI_eqP, Nat.not_le, Nat.not_lt] at c_1
    exact Ok.ret ⟨rfl, True.intro⟩
  · try simp (disch := omega) only [li_0, li_1, li_2, li_3, li_4, li_5, li_6, li_7, li_8, li_9, li_10, li_20, li_30, li_82, li_91, li_273, li_380, li_400, li_512, li_1000, li_2457, li_4000, nI_add, nI_1, nI_mul, nI_sub, shl_1, shl_1b, nI_leP, nI_ltP, nI_eqP, Nat.not_le, Nat.not_lt] at c_1
    refine Ok.ite (fun c_2 => ?_) (fun c_2 => ?_)
    · try simp (disch := omega) only [li_0, li_1, li_2, li_3, li_4, li_5, li_6, li_7, li_8, li_9, li_10, li_20, li_30, li_82, li_91, li_273, li_380, li_400, li_512, li_1000, li_2457, li_4000, nI_add, nI_1, nI_mul, nI_sub, shl_1, shl_1b, nI_leP, nI_ltP, nI_eqP, Nat.not_le, Nat.not_lt] at c_2
      refine Ok.ite (fun c_3 => ?_) (fun c_3 => ?_)
      · try simp (disch := omega) only [li_0, li_1, li_2, li_3, li_4, li_5, li_6, li_7, li_8, li_9, li_10, li_20, li_30, li_82, li_91, li_273, li_380, li_400, li_512, li_1000, li_2457, li_4000, nI_add, nI_1, nI_mul, nI_sub, shl_1, shl_1b, nI_leP, nI_ltP, nI_eqP, Nat.not_le, Nat.not_lt] at c_3
        exact Ok.ret ⟨rfl, True.intro⟩
      · try simp (disch := omega) only [li_0, li_1, li_2, li_3, li_4, li_5, li_6, li_7, li_8, li_9, li_10, li_20, li_30, li_82, li_91, li_273, li_380, li_400, li_512, li_1000, li_2457, li_4000, nI_add, nI_1, nI_mul, nI_sub, shl_1, shl_1b, nI_leP, nI_ltP, nI_eqP, Nat.not_le, Nat.not_lt] at c_3
        refine Ok.ite (fun c_4 => ?_) (fun c_4 => ?_)
        · try simp (disch := omega) only [li_0, li_1, li_2, li_3, li_4, li_5, li_6, li_7, li_8, li_9, li_10, li_20, li_30, li_82, li_91, li_273, li_380, li_400, li_512, li_1000, li_2457, li_4000, nI_add, nI_1, nI_mul, nI_sub, shl_1, shl_1b, nI_leP, nI_ltP, nI_eqP, Nat.not_le, Nat.not_lt] at c_4
          exact Ok.ret ⟨rfl, True.intro⟩
        · try simp (disch := omega) only [li_0, li_1, li_2, li_3, li_4, li_5, li_6, li_7, li_8, li_9, li_10, li_20, li_30, li_82, li_91, li_273, li_380, li_400, li_512, li_1000, li_2457, li_4000, nI_add, nI_1, nI_mul, nI_sub, shl_1, shl_1b, nI_leP, nI_ltP, nI_eqP, Nat.not_le, Nat.not_lt] at c_4
          exact Ok.ret ⟨rfl, True.intro⟩
    · try simp (disch := omega) only [li_0, li_1, li_2, li_3, li_4, li_5, li_6, li_7, li_8, li_9, li_10, li_20, li_30, li_82, li_91, li_273, li_380, li_400, li_512, li_1000, li_2457, li_4000, nI_add, nI_1, nI_mul, nI_sub, shl_1, shl_1b, nI_leP, nI_ltP, nI_eqP, Nat.not_le, Nat.not_lt] at c_2
      refine Ok.ite (fun c_5 => ?_) (fun c_5 => ?_)
      · try simp (disch := omega) only [li_0, li_1, li_2, li_3, li_4, li_5, li_6, li_7, li_8, li_9, li_10, li_20, li_30, li_82, li_91, li_273, li_380, li_400, li_512, li_1000, li_2457, li_4000, nI_add, nI_1, nI_mul, nI_sub, shl_1, shl_1b, nI_leP, nI_ltP, nI_eqP, Nat.not_le, Nat.not_lt] at c_5
        refine Ok.ite (fun c_6 => ?_) (fun c_6 => ?_)
        · try simp (disch := omega) only [li_0, li_1, li_2, li_3, li_4, li_5, li_6, li_7, li_8, li_9, li_10, li_20, li_30, li_82, li_91, li_273, li_380, li_400, li_512, li_1000, li_2457, li_4000, nI_add, nI_1, nI_mul, nI_sub, shl_1, shl_1b, nI_leP, nI_ltP, nI_eqP, Nat.not_le, Nat.not_lt] at c_6
          exact Ok.ret ⟨rfl, True.intro⟩
        · try simp (disch := omega) only [li_0, li_1, li_2, li_3, li_4, li_5, li_6, li_7, li_8, li_9, li_10, li_20, li_30, li_82, li_91, li_273, li_380, li_400, li_512, li_1000, li_2457, li_4000, nI_add, nI_1, nI_mul, nI_sub, shl_1, shl_1b, nI_leP, nI_ltP, nI_eqP, Nat.not_le, Nat.not_lt] at c_6
          refine Ok.ite (fun c_7 => ?_) (fun c_7 => ?_)
          · try simp (disch := omega) only [li_0, li_1, li_2, li_3, li_4, li_5, li_6, li_7, li_8, li_9, li_10, li_20, li_30, li_82, li_91, li_273, li_380, li_400, li_512, li_1000, li_2457, li_4000, nI_add, nI_1, nI_mul, nI_sub, shl_1, shl_1b, nI_leP, nI_ltP, nI_eqP, Nat.not_le, Nat.not_lt] at c_7
            exact Ok.ret ⟨rfl, True.intro⟩
          · try simp (disch := omega) only [li_0, li_1, li_2, li_3, li_4, li_5, li_6, li_7, li_8, li_9, li_10, li_20, li_30, li_82, li_91, li_273, li_380, li_400, li_512, li_1000, li_2457, li_4000, nI_add, nI_1, nI_mul, nI_sub, shl_1, shl_1b, nI_leP, nI_ltP, nI_eqP, Nat.not_le, Nat.not_lt] at c_7
            exact Ok.ret ⟨rfl, True.intro⟩
      · try simp (disch := omega) only [li_0, li_1, li_2, li_3, li_4, li_5, li_6, li_7, li_8, li_9, li_10, li_20, li_30, li_82, li_91, li_273, li_380, li_400, li_512, li_1000, li_2457, li_4000, nI_add, nI_1, nI_mul, nI_sub, shl_1, shl_1b, nI_leP, nI_ltP, nI_eqP, Nat.not_le, Nat.not_lt] at c_5
        exact Ok.ret ⟨rfl, True.intro⟩
theorem gSX7_step_8 {σ t : St} (hG : GC σ t) : Ok (wh (SX7_step_8) () t) (fun r u => GC σ u ∧ (u 5 7 = t 5 7 ∧ u 6 0 = t 6 0)) := by
  refine Ok.loop (fun k c s => GC σ s ∧ (s 5 7 = t 5 7 ∧ s 6 0 = t 6 0) ∧ k = (1000 - (s 5 5).toInt).toNat) ?_ _ _ _ ⟨hG, ⟨rfl, rfl⟩, rfl⟩
  clear hG
  intro k c s hI
  obtain ⟨hG, hK, rfl⟩ := hI
  unfold SX7_step_8
  refine Ok.rd (fun v hv => ?_)
  refine Ok.rdT hG.tt ty_11 (by omega) (fun m hm em => ?_)
  refine Ok.ite (fun c1 => Ok.ret ⟨hG, hK⟩) (fun c1 => ?_)
  have hlt : v < nI m := Int32.not_le.mp c1
  have hi := inc_i hlt (by omega)
  rw [Int32.lt_iff_toInt_lt, nI_toInt (by omega)] at hlt
  have fin : ∀ w, w = wr s 5 5 (v + 1) → GC σ w ∧ (w 5 7 = t 5 7 ∧ w 6 0 = t 6 0) ∧ (1000 - (w 5 5).toInt).toNat < (1000 - (s 5 5).toInt).toNat := by
    intro w ew
    have hw := hG.wrU ew (by omega) (by decide +kernel)
    have e5 : w 5 5 = v + 1 := by rw [ew, wr_at]; exact pk_us
    have e57 : w 5 7 = s 5 7 := by rw [ew, wr_at]; exact pk_un (by decide)
    have e60 : w 6 0 = s 6 0 := by rw [ew, wr_off 6 (by decide)]
    refine ⟨hw, ⟨by rw [e57]; exact hK.1, by rw [e60]; exact hK.2⟩, ?_⟩
    rw [e5, hi, ← hv]
    omega
  refine Ok.rd (fun v10 h10 => ?_)
  refine Ok.bd _ (rX1_at_1 hG.tt) ?_
  rintro v12 _ ⟨rfl, -⟩
  refine Ok.bd _ (rX7_isBlank hG.tt) ?_
  rintro v15 _ ⟨rfl, -⟩
  refine Ok.ite (fun c2 => Ok.ret ⟨hG, hK⟩) (fun c2 => ?_)
  refine Ok.rd (fun v19 h19 => ?_)
  refine Ok.wr (fun w ew => ?_)
  have := fin w (by rw [ew, h19, hv])
  exact Ok.ret ⟨_, this.2.2, this.1, this.2.1, rfl⟩
theorem gSX7_step_110 {σ t : St} (hG : GC σ t) : Ok (wh (SX7_step_110) () t) (fun r u => GC σ u ∧ (u 5 7 = t 5 7 ∧ u 6 0 = t 6 0)) := by
  refine Ok.loop (fun k c s => GC σ s ∧ (s 5 7 = t 5 7 ∧ s 6 0 = t 6 0) ∧ k = (1000 - (s 5 6).toInt).toNat) ?_ _ _ _ ⟨hG, ⟨rfl, rfl⟩, rfl⟩
  clear hG
  intro k c s hI
  obtain ⟨hG, hK, rfl⟩ := hI
  unfold SX7_step_110
  refine Ok.rd (fun v hv => ?_)
  refine Ok.rdT hG.tt ty_11 (by omega) (fun m hm em => ?_)
  refine Ok.ite (fun c1 => Ok.ret ⟨hG, hK⟩) (fun c1 => ?_)
  have hlt : v < nI m := Int32.not_le.mp c1
  have hi := inc_i hlt (by omega)
  rw [Int32.lt_iff_toInt_lt, nI_toInt (by omega)] at hlt
  have fin : ∀ w, w = wr s 5 6 (v + 1) → GC σ w ∧ (w 5 7 = t 5 7 ∧ w 6 0 = t 6 0) ∧ (1000 - (w 5 6).toInt).toNat < (1000 - (s 5 6).toInt).toNat := by
    intro w ew
    have hw := hG.wrU ew (by omega) (by decide +kernel)
    have e5 : w 5 6 = v + 1 := by rw [ew, wr_at]; exact pk_us
    have e57 : w 5 7 = s 5 7 := by rw [ew, wr_at]; exact pk_un (by decide)
    have e60 : w 6 0 = s 6 0 := by rw [ew, wr_off 6 (by decide)]
    refine ⟨hw, ⟨by rw [e57]; exact hK.1, by rw [e60]; exact hK.2⟩, ?_⟩
    rw [e5, hi, ← hv]
    omega
  refine Ok.rd (fun v10 h10 => ?_)
  refine Ok.bd _ (rX1_at_1 hG.tt) ?_
  rintro v12 _ ⟨rfl, -⟩
  refine Ok.bd _ (rX7_kindOf hG.tt) ?_
  rintro v15 _ ⟨rfl, -⟩
  refine Ok.rd (fun v62 h62 => ?_)
  refine Ok.ite (fun c2 => ?_) (fun c2 => Ok.ret ⟨hG, hK⟩)
  refine Ok.rd (fun v19 h19 => ?_)
  refine Ok.wr (fun w ew => ?_)
  have := fin w (by rw [ew, h19, hv])
  exact Ok.ret ⟨_, this.2.2, this.1, this.2.1, rfl⟩
theorem wr57 {t : St} {i : Nat} {v : Int32} (h : i ≠ 7) : wr t 5 i v 5 7 = t 5 7 ∧ wr t 5 i v 6 0 = t 6 0 := by
  rw [wr_at, wr_off 6 (by decide)]
  exact ⟨pk_un (by omega), rfl⟩
theorem gX7_step {σ t : St} (hG : GC σ t) : Ok (FX7_step t) (fun r u => GC σ u ∧ (u 5 7 = t 5 7 ∧ u 6 0 = t 6 0)) := by
  unfold FX7_step
  refine Ok.rd (fun v1 h1 => ?_)
  refine Ok.wr (fun t3 e3 => ?_)
  have h3 := hG.wrU e3 (by omega) (by decide +kernel)
  have k3 : t3 5 7 = t 5 7 ∧ t3 6 0 = t 6 0 := by subst e3; exact wr57 (by decide)
  refine Ok.bd _ (gSX7_step_8 h3) ?_
  rintro _ t24 ⟨h24, k24⟩
  refine Ok.rd (fun v27 h27 => ?_)
  refine Ok.bd _ (rX1_at_1 h24.tt) ?_
  rintro v29 _ ⟨rfl, -⟩
  refine Ok.bd _ (rX7_kindOf h24.tt) ?_
  rintro v32 _ ⟨rfl, -⟩
  refine Ok.wr (fun t35 e35 => ?_)
  have h35 := h24.wrU e35 (by omega) (by decide +kernel)
  have k35 : t35 5 7 = t24 5 7 ∧ t35 6 0 = t24 6 0 := by subst e35; exact wr57 (by decide)
  refine Ok.rd (fun v37 h37 => ?_)
  refine Ok.bd (fun _ u => t35 = u) ?_ ?_
  · refine Ok.ite (fun _ => Ok.rd (fun _ _ => Ok.ret rfl)) (fun _ => Ok.rd (fun _ _ => Ok.ret rfl))
  · rintro v40 _ rfl
    refine Ok.wr (fun t44 e44 => ?_)
    have h44 := h35.wrU e44 (by omega) (by decide +kernel)
    have k44 : t44 5 7 = t35 5 7 ∧ t44 6 0 = t35 6 0 := by subst e44; exact wr57 (by decide)
    have kk : t44 5 7 = t 5 7 ∧ t44 6 0 = t 6 0 := ⟨by rw [k44.1, k35.1, k24.1, k3.1], by rw [k44.2, k35.2, k24.2, k3.2]⟩
    refine Ok.rd (fun v46 h46 => ?_)
    refine Ok.ite (fun _ => ?_) (fun _ => ?_)
    · refine Ok.bd _ (gSX7_step_110 h44) ?_
      rintro _ u ⟨hu, ku⟩
      exact Ok.ret ⟨hu, by rw [ku.1, kk.1], by rw [ku.2, kk.2]⟩
    · refine Ok.rd (fun v74 h74 => ?_)
      refine Ok.ite (fun _ => ?_) (fun _ => Ok.ret ⟨h44, kk⟩)
      refine Ok.bd _ (gSX7_step_110 h44) ?_
      rintro _ u ⟨hu, ku⟩
      exact Ok.ret ⟨hu, by rw [ku.1, kk.1], by rw [ku.2, kk.2]⟩
theorem gX7_blame {σ t : St} (hG : GC σ t) {a : Int32} : Ok (FX7_blame a t) (fun r u => GC σ u ∧ (isb r = true ∧ (r = 0))) := by
  unfold FX7_blame
  refine Ok.wr (fun t1 e1 => ?_)
  have h1 := hG.wrU e1 (by omega) (by decide +kernel)
  refine Ok.rd (fun v3 h3 => ?_)
  refine Ok.wr (fun t5 e5 => ?_)
  exact Ok.ret ⟨h1.wrU e5 (by omega) (by decide +kernel), rfl, rfl⟩
theorem gX7_isNumberFrom {σ t : St} (hG : GC σ t) {a b : Int32} : Ok (FX7_isNumberFrom a b t) (fun r u => GC σ u ∧ (isb r = true ∧ (r = 0 ∨ (a.toInt ≤ (u 5 7).toInt ∧ (u 5 7).toInt ≤ b.toInt ∧ u 6 0 = t 6 0)))) := by
  unfold FX7_isNumberFrom
  refine Ok.rd (fun v1 h1 => ?_)
  refine Ok.ite (fun _ => ?_) (fun _ => ?_)
  · refine Ok.wr (fun t4 e4 => ?_)
    have h4 := hG.wrU e4 (by omega) (by decide +kernel)
    have k4 : t4 6 0 = t 6 0 := by rw [e4, wr_off 6 (by decide)]
    refine Ok.rd (fun v6 h6 => ?_)
    refine Ok.bd (fun _ u => GC σ u ∧ u 6 0 = t 6 0) ?_ ?_
    · refine Ok.loop (fun k c s => GC σ s ∧ s 6 0 = t 6 0 ∧ k = ((s 5 6).toInt - c.toInt).toNat) ?_ _ _ _ ⟨h4, k4, rfl⟩
      intro k c s hI
      obtain ⟨hG, hK, rfl⟩ := hI
      unfold SX7_isNumberFrom_24
      refine Ok.rd (fun v8 h8 => ?_)
      refine Ok.ite (fun _ => Ok.ret ⟨hG, hK⟩) (fun c1 => ?_)
      have hi := inc_v c1
      rw [Int32.le_iff_toInt_le] at c1
      refine Ok.rd (fun v11 h11 => ?_)
      refine Ok.bd _ (rX1_at_1 hG.tt) ?_
      rintro v13 _ ⟨rfl, -⟩
      refine Ok.wr (fun w ew => ?_)
      have e56 : w 5 6 = s 5 6 := by rw [ew, wr_at]; exact pk_un (by decide)
      have e60 : w 6 0 = s 6 0 := by rw [ew, wr_off 6 (by decide)]
      refine Ok.ret ⟨((w 5 6).toInt - (c + 1).toInt).toNat, ?_, hG.wrU ew (by omega) (by decide +kernel), by rw [e60]; exact hK, rfl⟩
      rw [e56, hi, ← h8]
      omega
    · rintro _ t19 ⟨h19, k19⟩
      refine Ok.rd (fun v22 h22 => ?_)
      refine Ok.ite (fun c2 => ?_) (fun c2 => ?_)
      · refine Ok.bd _ (gX7_blame h19) ?_
        rintro v25 u ⟨hu, -, rfl⟩
        exact Ok.ite (fun _ => Ok.ret ⟨hu, rfl, Or.inl rfl⟩) (fun q => absurd rfl q)
      · refine Ok.rd (fun v31 h31 => ?_)
        refine Ok.ite (fun c3 => ?_) (fun c3 => ?_)
        · refine Ok.ret ⟨h19, rfl, Or.inr ⟨?_, ?_, k19⟩⟩
          · rw [← h22]
            rw [Int32.lt_iff_toInt_lt] at c2
            omega
          · rw [← h31]
            exact Int32.le_iff_toInt_le.mp c3
        · refine Ok.bd _ (gX7_blame h19) ?_
          rintro v35 u ⟨hu, -, rfl⟩
          exact Ok.ite (fun _ => Ok.ret ⟨hu, rfl, Or.inl rfl⟩) (fun q => absurd rfl q)
  · refine Ok.bd _ (gX7_blame hG) ?_
    rintro v41 u ⟨hu, hb, rfl⟩
    exact Ok.ck hb (fun _ => Ok.ret ⟨hu, hb, Or.inl rfl⟩)
theorem rng_of {x a b : Int32} {m : Nat} (h1 : a.toInt ≤ x.toInt) (h2 : x.toInt ≤ b.toInt) (ha : 0 ≤ a.toInt) (hb : b.toInt < m) : IsR m x := by
  have h0 : ¬ x < 0 := fun q => by
    rw [Int32.lt_iff_toInt_lt] at q
    have : (0 : Int32).toInt = 0 := by decide
    omega
  obtain ⟨j, hj, rfl⟩ := nI_of h0
  rw [nI_toInt hj] at h1 h2
  exact ⟨j, by omega, rfl⟩
theorem gX7_isPoint {σ t : St} (hG : GC σ t) : Ok (FX7_isPoint t) (fun r u => GC σ u ∧ (isb r = true ∧ (r = 0 ∨ IsR 9 (u 5 7)))) := by
  unfold FX7_isPoint
  refine Ok.rdT hG.tt (ty_n0 (x := 6) (by decide +kernel)) (by omega) (fun k hk ek => ?_)
  refine Ok.bd _ (gX7_isNumberFrom hG) ?_
  rintro v u ⟨hu, hb, hx⟩
  refine Ok.ck hb (fun _ => Ok.ret ⟨hu, hb, hx.imp id (fun q => rng_of q.1 q.2.1 (by decide) ?_)⟩)
  rw [show (nI k - 1 : Int32) = nI k - nI 1 from rfl, pk_sub_toInt (by omega) (by omega)]
  omega
set_option maxHeartbeats 4000000 in
set_option maxRecDepth 100000 in
theorem rX7_isSign {t : St} (hT : TY t) {a : Int32} : Ok (FX7_isSign a t) (fun r u => t = u ∧ (isb r = true ∧ (True))) := by
  unfold FX7_isSign
  refine Ok.rd (fun v1 hv1 => ?_)
  refine Ok.ite (fun c_1 => ?_) (fun c_1 => ?_)
  · try simp (disch := omega) only [li_0, li_1, li_2, li_3, li_4, li_5, li_6, li_7, li_8, li_9, li_10, li_20, li_30, li_82, li_91, li_273, li_380, li_400, li_512, li_1000, li_2457, li_4000, nI_add, nI_1, nI_mul, nI_sub, shl_1, shl_1b, nI_leP, nI_ltP, nI_eqP, Nat.not_le, Nat.not_lt] at c_1
    refine Ok.rd (fun v5 hv5 => ?_)
    refine Ok.bd _ (rX1_at_1 hT) ?_
    rintro v7 _ ⟨rfl, hxv7⟩
    refine Ok.ite (fun c_3 => ?_) (fun c_3 => ?_)
    · try simp (disch := omega) only [li_0, li_1, li_2, li_3, li_4, li_5, li_6, li_7, li_8, li_9, li_10, li_20, li_30, li_82, li_91, li_273, li_380, li_400, li_512, li_1000, li_2457, li_4000, nI_add, nI_1, nI_mul, nI_sub, shl_1, shl_1b, nI_leP, nI_ltP, nI_eqP, Nat.not_le, Nat.not_lt] at c_3
      exact Ok.ret ⟨rfl, ⟨(by first | rfl | assumption | decide), (by first | exact True.intro | exact Or.inl rfl | exact Or.inr (by first | assumption | exact ⟨_, by omega, rfl⟩ | exact ⟨⟨_, by omega, rfl⟩, ⟨_, by omega, rfl⟩⟩))⟩⟩
    · try simp (disch := omega) only [li_0, li_1, li_2, li_3, li_4, li_5, li_6, li_7, li_8, li_9, li_10, li_20, li_30, li_82, li_91, li_273, li_380, li_400, li_512, li_1000, li_2457, li_4000, nI_add, nI_1, nI_mul, nI_sub, shl_1, shl_1b, nI_leP, nI_ltP, nI_eqP, Nat.not_le, Nat.not_lt] at c_3
      exact Ok.ret ⟨rfl, ⟨(by first | rfl | assumption | decide), (by first | exact True.intro | exact Or.inl rfl | exact Or.inr (by first | assumption | exact ⟨_, by omega, rfl⟩ | exact ⟨⟨_, by omega, rfl⟩, ⟨_, by omega, rfl⟩⟩))⟩⟩
  · try simp (disch := omega) only [li_0, li_1, li_2, li_3, li_4, li_5, li_6, li_7, li_8, li_9, li_10, li_20, li_30, li_82, li_91, li_273, li_380, li_400, li_512, li_1000, li_2457, li_4000, nI_add, nI_1, nI_mul, nI_sub, shl_1, shl_1b, nI_leP, nI_ltP, nI_eqP, Nat.not_le, Nat.not_lt] at c_1
    exact Ok.ret ⟨rfl, ⟨(by first | rfl | assumption | decide), (by first | exact True.intro | exact Or.inl rfl | exact Or.inr (by first | assumption | exact ⟨_, by omega, rfl⟩ | exact ⟨⟨_, by omega, rfl⟩, ⟨_, by omega, rfl⟩⟩))⟩⟩
set_option maxHeartbeats 4000000 in
set_option maxRecDepth 100000 in
theorem gX7_takeSign {σ t : St} (hG : GC σ t) {a : Int32} : Ok (FX7_takeSign a t) (fun r u => GC σ u ∧ (isb r = true ∧ (True))) := by
  unfold FX7_takeSign
  refine Ok.bd _ (rX7_isSign hG.tt) ?_
  rintro v1 _ ⟨rfl, hbv1, hxv1⟩
  refine Ok.ite (fun c_2 => ?_) (fun c_2 => ?_)
  · try simp (disch := omega) only [li_0, li_1, li_2, li_3, li_4, li_5, li_6, li_7, li_8, li_9, li_10, li_20, li_30, li_82, li_91, li_273, li_380, li_400, li_512, li_1000, li_2457, li_4000, nI_add, nI_1, nI_mul, nI_sub, shl_1, shl_1b, nI_leP, nI_ltP, nI_eqP, Nat.not_le, Nat.not_lt] at c_2
    refine Ok.bd _ (gX7_blame hG) ?_
    rintro v9 t10 ⟨hG_3, hbv9, hxv9⟩
    refine Ok.ck (by first | rfl | assumption | decide) (fun g_4 => ?_)
    exact Ok.ret ⟨hG_3, ⟨(by first | rfl | assumption | decide), (by first | exact True.intro | exact Or.inl rfl | exact Or.inr (by first | assumption | exact ⟨_, by omega, rfl⟩ | exact ⟨⟨_, by omega, rfl⟩, ⟨_, by omega, rfl⟩⟩))⟩⟩
  · try simp (disch := omega) only [li_0, li_1, li_2, li_3, li_4, li_5, li_6, li_7, li_8, li_9, li_10, li_20, li_30, li_82, li_91, li_273, li_380, li_400, li_512, li_1000, li_2457, li_4000, nI_add, nI_1, nI_mul, nI_sub, shl_1, shl_1b, nI_leP, nI_ltP, nI_eqP, Nat.not_le, Nat.not_lt] at c_2
    refine Ok.bd _ (gX7_step hG) ?_
    rintro _ t6 ⟨hG_5, hxv5⟩
    exact Ok.ret ⟨hG_5, ⟨(by first | rfl | assumption | decide), (by first | exact True.intro | exact Or.inl rfl | exact Or.inr (by first | assumption | exact ⟨_, by omega, rfl⟩ | exact ⟨⟨_, by omega, rfl⟩, ⟨_, by omega, rfl⟩⟩))⟩⟩
set_option maxHeartbeats 4000000 in
set_option maxRecDepth 100000 in
theorem rSX7_isWord_s0_28 {t : St} (hT : TY t) {a0 : Int32} (h_a0 : IsR 5001 a0) : Ok (wh (SX7_isWord_s0_28) a0 t) (fun r u => t = u ∧ (Sum.elim (fun v => isb v = true ∧ (True)) (fun e => True) r)) := by
  obtain ⟨j0, hj0, rfl⟩ := h_a0
  refine Ok.loop (fun k c s => t = s ∧ (∃ j, c = nI j ∧ j ≤ 5000 ∧ 0 ≤ j ∧ k = 5000 - j)) ?_ (5000 - j0) _ _ ⟨rfl, ⟨j0, rfl, by omega, by omega, rfl⟩⟩
  clear hj0
  intro k c s hI
  obtain ⟨rfl, ⟨j, ej, hj, hlo, rfl⟩⟩ := hI
  subst ej
  unfold SX7_isWord_s0_28
  refine Ok.ite (fun c_1 => ?_) (fun c_1 => ?_)
  · try simp (disch := omega) only [li_0, li_1, li_2, li_3, li_4, li_5, li_6, li_7, li_8, li_9, li_10, li_20, li_30, li_82, li_91, li_273, li_380, li_400, li_512, li_1000, li_2457, li_4000, nI_add, nI_1, nI_mul, nI_sub, shl_1, shl_1b, nI_leP, nI_ltP, nI_eqP, Nat.not_le, Nat.not_lt] at c_1
    exact Ok.ret ⟨rfl, True.intro⟩
  · try simp (disch := omega) only [li_0, li_1, li_2, li_3, li_4, li_5, li_6, li_7, li_8, li_9, li_10, li_20, li_30, li_82, li_91, li_273, li_380, li_400, li_512, li_1000, li_2457, li_4000, nI_add, nI_1, nI_mul, nI_sub, shl_1, shl_1b, nI_leP, nI_ltP, nI_eqP, Nat.not_le, Nat.not_lt] at c_1
    refine Ok.rd (fun v11 hv11 => ?_)
    refine Ok.bd _ (rX1_at_1 hT) ?_
    rintro v13 _ ⟨rfl, hxv13⟩
    refine Ok.ck (by first | (simp (disch := omega) only [li_0, li_1, li_2, li_3, li_4, li_5, li_6, li_7, li_8, li_9, li_10, li_20, li_30, li_82, li_91, li_273, li_380, li_400, li_512, li_1000, li_2457, li_4000, nI_add, nI_1, nI_mul, nI_sub, shl_1, shl_1b, nI_or, nI_xor, nI_and]; with_reducible exact inb_n (by first | omega | exact or9 (by omega) (by omega) | exact xor9 (by omega) (by omega)) (by omega)) | with_reducible exact inb_n (by omega) (by omega) | exact IsR.ib (by with_reducible assumption) (by decide) | decide) (fun g_3 => ?_)
    refine Ok.ite (fun c_4 => ?_) (fun c_4 => ?_)
    · try simp (disch := omega) only [li_0, li_1, li_2, li_3, li_4, li_5, li_6, li_7, li_8, li_9, li_10, li_20, li_30, li_82, li_91, li_273, li_380, li_400, li_512, li_1000, li_2457, li_4000, nI_add, nI_1, nI_mul, nI_sub, shl_1, shl_1b, nI_leP, nI_ltP, nI_eqP, Nat.not_le, Nat.not_lt] at c_4
      exact Ok.ret ⟨5000 - (j + 1), by omega, rfl, ⟨j + 1, nI_1 j, by omega, by omega, rfl⟩⟩
    · try simp (disch := omega) only [li_0, li_1, li_2, li_3, li_4, li_5, li_6, li_7, li_8, li_9, li_10, li_20, li_30, li_82, li_91, li_273, li_380, li_400, li_512, li_1000, li_2457, li_4000, nI_add, nI_1, nI_mul, nI_sub, shl_1, shl_1b, nI_leP, nI_ltP, nI_eqP, Nat.not_le, Nat.not_lt] at c_4
      exact Ok.ret ⟨rfl, ⟨(by first | rfl | assumption | decide), (by first | exact True.intro | exact Or.inl rfl | exact Or.inr (by first | assumption | exact ⟨_, by omega, rfl⟩ | exact ⟨⟨_, by omega, rfl⟩, ⟨_, by omega, rfl⟩⟩))⟩⟩
set_option maxHeartbeats 4000000 in
set_option maxRecDepth 100000 in
theorem rX7_isWord_s0 {t : St} (hT : TY t) : Ok (FX7_isWord_s0 t) (fun r u => t = u ∧ (isb r = true ∧ (True))) := by
  unfold FX7_isWord_s0
  refine Ok.rd (fun v1 hv1 => ?_)
  refine Ok.ite (fun c_1 => ?_) (fun c_1 => ?_)
  · try simp (disch := omega) only [li_0, li_1, li_2, li_3, li_4, li_5, li_6, li_7, li_8, li_9, li_10, li_20, li_30, li_82, li_91, li_273, li_380, li_400, li_512, li_1000, li_2457, li_4000, nI_add, nI_1, nI_mul, nI_sub, shl_1, shl_1b, nI_leP, nI_ltP, nI_eqP, Nat.not_le, Nat.not_lt] at c_1
    refine Ok.rd (fun v5 hv5 => ?_)
    refine Ok.rd (fun v7 hv7 => ?_)
    refine Ok.ite (fun c_2 => ?_) (fun c_2 => ?_)
    · try simp (disch := omega) only [li_0, li_1, li_2, li_3, li_4, li_5, li_6, li_7, li_8, li_9, li_10, li_20, li_30, li_82, li_91, li_273, li_380, li_400, li_512, li_1000, li_2457, li_4000, nI_add, nI_1, nI_mul, nI_sub, shl_1, shl_1b, nI_leP, nI_ltP, nI_eqP, Nat.not_le, Nat.not_lt] at c_2
      refine Ok.bd _ (rSX7_isWord_s0_28 hT (by show IsR 5001 _; first | with_reducible assumption | (simp (disch := omega) only [li_0, li_1, li_2, li_3, li_4, li_5, li_6, li_7, li_8, li_9, li_10, li_20, li_30, li_82, li_91, li_273, li_380, li_400, li_512, li_1000, li_2457, li_4000, nI_add, nI_1, nI_mul, nI_sub, shl_1, shl_1b, nI_or, nI_xor, nI_and]; with_reducible exact ⟨_, (by first | omega | exact or9 (by omega) (by omega) | exact xor9 (by omega) (by omega)), rfl⟩) | with_reducible exact ⟨_, (by first | omega | exact or9 (by omega) (by omega) | exact xor9 (by omega) (by omega)), rfl⟩ | exact IsR.mn (by first | with_reducible assumption | exact ⟨_, by omega, rfl⟩) (by first | with_reducible assumption | exact ⟨_, by omega, rfl⟩) | exact IsR.mx (by first | with_reducible assumption | exact ⟨_, by omega, rfl⟩) (by first | with_reducible assumption | exact ⟨_, by omega, rfl⟩) | with_reducible exact mn9 (by omega) | (simp (disch := omega) only [li_0, li_1, li_2, li_3, li_4, li_5, li_6, li_7, li_8, li_9, li_10, li_20, li_30, li_82, li_91, li_273, li_380, li_400, li_512, li_1000, li_2457, li_4000, nI_add, nI_1, nI_mul, nI_sub, shl_1, shl_1b]; with_reducible exact mn9b (by omega)))) ?_
      rintro (e19 | e19) _ ⟨rfl, hxe19⟩
      · refine Ok.el ?_
        obtain ⟨hbe19, hxe19⟩ := hxe19
        exact Ok.ret ⟨rfl, ⟨(by first | rfl | assumption | decide), (by first | exact True.intro | exact Or.inl rfl | exact Or.inr (by first | assumption | exact ⟨_, by omega, rfl⟩ | exact ⟨⟨_, by omega, rfl⟩, ⟨_, by omega, rfl⟩⟩))⟩⟩
      · refine Ok.er ?_
        exact Ok.ret ⟨rfl, ⟨(by first | rfl | assumption | decide), (by first | exact True.intro | exact Or.inl rfl | exact Or.inr (by first | assumption | exact ⟨_, by omega, rfl⟩ | exact ⟨⟨_, by omega, rfl⟩, ⟨_, by omega, rfl⟩⟩))⟩⟩
    · try simp (disch := omega) only [li_0, li_1, li_2, li_3, li_4, li_5, li_6, li_7, li_8, li_9, li_10, li_20, li_30, li_82, li_91, li_273, li_380, li_400, li_512, li_1000, li_2457, li_4000, nI_add, nI_1, nI_mul, nI_sub, shl_1, shl_1b, nI_leP, nI_ltP, nI_eqP, Nat.not_le, Nat.not_lt] at c_2
      exact Ok.ret ⟨rfl, ⟨(by first | rfl | assumption | decide), (by first | exact True.intro | exact Or.inl rfl | exact Or.inr (by first | assumption | exact ⟨_, by omega, rfl⟩ | exact ⟨⟨_, by omega, rfl⟩, ⟨_, by omega, rfl⟩⟩))⟩⟩
  · try simp (disch := omega) only [li_0, li_1, li_2, li_3, li_4, li_5, li_6, li_7, li_8, li_9, li_10, li_20, li_30, li_82, li_91, li_273, li_380, li_400, li_512, li_1000, li_2457, li_4000, nI_add, nI_1, nI_mul, nI_sub, shl_1, shl_1b, nI_leP, nI_ltP, nI_eqP, Nat.not_le, Nat.not_lt] at c_1
    exact Ok.ret ⟨rfl, ⟨(by first | rfl | assumption | decide), (by first | exact True.intro | exact Or.inl rfl | exact Or.inr (by first | assumption | exact ⟨_, by omega, rfl⟩ | exact ⟨⟨_, by omega, rfl⟩, ⟨_, by omega, rfl⟩⟩))⟩⟩
set_option maxHeartbeats 4000000 in
set_option maxRecDepth 100000 in
theorem rSX7_isWord_s1_28 {t : St} (hT : TY t) {a0 : Int32} (h_a0 : IsR 5001 a0) : Ok (wh (SX7_isWord_s1_28) a0 t) (fun r u => t = u ∧ (Sum.elim (fun v => isb v = true ∧ (True)) (fun e => True) r)) := by
  obtain ⟨j0, hj0, rfl⟩ := h_a0
  refine Ok.loop (fun k c s => t = s ∧ (∃ j, c = nI j ∧ j ≤ 5000 ∧ 0 ≤ j ∧ k = 5000 - j)) ?_ (5000 - j0) _ _ ⟨rfl, ⟨j0, rfl, by omega, by omega, rfl⟩⟩
  clear hj0
  intro k c s hI
  obtain ⟨rfl, ⟨j, ej, hj, hlo, rfl⟩⟩ := hI
  subst ej
  unfold SX7_isWord_s1_28
  refine Ok.ite (fun c_1 => ?_) (fun c_1 => ?_)
  · try simp (disch := omega) only [li_0, li_1, li_2, li_3, li_4, li_5, li_6, li_7, li_8, li_9, li_10, li_20, li_30, li_82, li_91, li_273, li_380, li_400, li_512, li_1000, li_2457, li_4000, nI_add, nI_1, nI_mul, nI_sub, shl_1, shl_1b, nI_leP, nI_ltP, nI_eqP, Nat.not_le, Nat.not_lt] at c_1
    exact Ok.ret ⟨rfl, True.intro⟩
  · try simp (disch := omega) only [li_0, li_1, li_2, li_3, li_4, li_5, li_6, li_7, li_8, li_9, li_10, li_20, li_30, li_82, li_91, li_273, li_380, li_400, li_512, li_1000, li_2457, li_4000, nI_add, nI_1, nI_mul, nI_sub, shl_1, shl_1b, nI_leP, nI_ltP, nI_eqP, Nat.not_le, Nat.not_lt] at c_1
    refine Ok.rd (fun v11 hv11 => ?_)
    refine Ok.bd _ (rX1_at_1 hT) ?_
    rintro v13 _ ⟨rfl, hxv13⟩
    refine Ok.ck (by first | (simp (disch := omega) only [li_0, li_1, li_2, li_3, li_4, li_5, li_6, li_7, li_8, li_9, li_10, li_20, li_30, li_82, li_91, li_273, li_380, li_400, li_512, li_1000, li_2457, li_4000, nI_add, nI_1, nI_mul, nI_sub, shl_1, shl_1b, nI_or, nI_xor, nI_and]; with_reducible exact inb_n (by first | omega | exact or9 (by omega) (by omega) | exact xor9 (by omega) (by omega)) (by omega)) | with_reducible exact inb_n (by omega) (by omega) | exact IsR.ib (by with_reducible assumption) (by decide) | decide) (fun g_3 => ?_)
    refine Ok.ite (fun c_4 => ?_) (fun c_4 => ?_)
    · try simp (disch := omega) only [li_0, li_1, li_2, li_3, li_4, li_5, li_6, li_7, li_8, li_9, li_10, li_20, li_30, li_82, li_91, li_273, li_380, li_400, li_512, li_1000, li_2457, li_4000, nI_add, nI_1, nI_mul, nI_sub, shl_1, shl_1b, nI_leP, nI_ltP, nI_eqP, Nat.not_le, Nat.not_lt] at c_4
      exact Ok.ret ⟨5000 - (j + 1), by omega, rfl, ⟨j + 1, nI_1 j, by omega, by omega, rfl⟩⟩
    · try simp (disch := omega) only [li_0, li_1, li_2, li_3, li_4, li_5, li_6, li_7, li_8, li_9, li_10, li_20, li_30, li_82, li_91, li_273, li_380, li_400, li_512, li_1000, li_2457, li_4000, nI_add, nI_1, nI_mul, nI_sub, shl_1, shl_1b, nI_leP, nI_ltP, nI_eqP, Nat.not_le, Nat.not_lt] at c_4
      exact Ok.ret ⟨rfl, ⟨(by first | rfl | assumption | decide), (by first | exact True.intro | exact Or.inl rfl | exact Or.inr (by first | assumption | exact ⟨_, by omega, rfl⟩ | exact ⟨⟨_, by omega, rfl⟩, ⟨_, by omega, rfl⟩⟩))⟩⟩
set_option maxHeartbeats 4000000 in
set_option maxRecDepth 100000 in
theorem rX7_isWord_s1 {t : St} (hT : TY t) : Ok (FX7_isWord_s1 t) (fun r u => t = u ∧ (isb r = true ∧ (True))) := by
  unfold FX7_isWord_s1
  refine Ok.rd (fun v1 hv1 => ?_)
  refine Ok.ite (fun c_1 => ?_) (fun c_1 => ?_)
  · try simp (disch := omega) only [li_0, li_1, li_2, li_3, li_4, li_5, li_6, li_7, li_8, li_9, li_10, li_20, li_30, li_82, li_91, li_273, li_380, li_400, li_512, li_1000, li_2457, li_4000, nI_add, nI_1, nI_mul, nI_sub, shl_1, shl_1b, nI_leP, nI_ltP, nI_eqP, Nat.not_le, Nat.not_lt] at c_1
    refine Ok.rd (fun v5 hv5 => ?_)
    refine Ok.rd (fun v7 hv7 => ?_)
    refine Ok.ite (fun c_2 => ?_) (fun c_2 => ?_)
    · try simp (disch := omega) only [li_0, li_1, li_2, li_3, li_4, li_5, li_6, li_7, li_8, li_9, li_10, li_20, li_30, li_82, li_91, li_273, li_380, li_400, li_512, li_1000, li_2457, li_4000, nI_add, nI_1, nI_mul, nI_sub, shl_1, shl_1b, nI_leP, nI_ltP, nI_eqP, Nat.not_le, Nat.not_lt] at c_2
      refine Ok.bd _ (rSX7_isWord_s1_28 hT (by show IsR 5001 _; first | with_reducible assumption | (simp (disch := omega) only [li_0, li_1, li_2, li_3, li_4, li_5, li_6, li_7, li_8, li_9, li_10, li_20, li_30, li_82, li_91, li_273, li_380, li_400, li_512, li_1000, li_2457, li_4000, nI_add, nI_1, nI_mul, nI_sub, shl_1, shl_1b, nI_or, nI_xor, nI_and]; with_reducible exact ⟨_, (by first | omega | exact or9 (by omega) (by omega) | exact xor9 (by omega) (by omega)), rfl⟩) | with_reducible exact ⟨_, (by first | omega | exact or9 (by omega) (by omega) | exact xor9 (by omega) (by omega)), rfl⟩ | exact IsR.mn (by first | with_reducible assumption | exact ⟨_, by omega, rfl⟩) (by first | with_reducible assumption | exact ⟨_, by omega, rfl⟩) | exact IsR.mx (by first | with_reducible assumption | exact ⟨_, by omega, rfl⟩) (by first | with_reducible assumption | exact ⟨_, by omega, rfl⟩) | with_reducible exact mn9 (by omega) | (simp (disch := omega) only [li_0, li_1, li_2, li_3, li_4, li_5, li_6, li_7, li_8, li_9, li_10, li_20, li_30, li_82, li_91, li_273, li_380, li_400, li_512, li_1000, li_2457, li_4000, nI_add, nI_1, nI_mul, nI_sub, shl_1, shl_1b]; with_reducible exact mn9b (by omega)))) ?_
      rintro (e19 | e19) _ ⟨rfl, hxe19⟩
      · refine Ok.el ?_
        obtain ⟨hbe19, hxe19⟩ := hxe19
        exact Ok.ret ⟨rfl, ⟨(by first | rfl | assumption | decide), (by first | exact True.intro | exact Or.inl rfl | exact Or.inr (by first | assumption | exact ⟨_, by omega, rfl⟩ | exact ⟨⟨_, by omega, rfl⟩, ⟨_, by omega, rfl⟩⟩))⟩⟩
      · refine Ok.er ?_
        exact Ok.ret ⟨rfl, ⟨(by first | rfl | assumption | decide), (by first | exact True.intro | exact Or.inl rfl | exact Or.inr (by first | assumption | exact ⟨_, by omega, rfl⟩ | exact ⟨⟨_, by omega, rfl⟩, ⟨_, by omega, rfl⟩⟩))⟩⟩
    · try simp (disch := omega) only [li_0, li_1, li_2, li_3, li_4, li_5, li_6, li_7, li_8, li_9, li_10, li_20, li_30, li_82, li_91, li_273, li_380, li_400, li_512, li_1000, li_2457, li_4000, nI_add, nI_1, nI_mul, nI_sub, shl_1, shl_1b, nI_leP, nI_ltP, nI_eqP, Nat.not_le, Nat.not_lt] at c_2
      exact Ok.ret ⟨rfl, ⟨(by first | rfl | assumption | decide), (by first | exact True.intro | exact Or.inl rfl | exact Or.inr (by first | assumption | exact ⟨_, by omega, rfl⟩ | exact ⟨⟨_, by omega, rfl⟩, ⟨_, by omega, rfl⟩⟩))⟩⟩
  · try simp (disch := omega) only [li_0, li_1, li_2, li_3, li_4, li_5, li_6, li_7, li_8, li_9, li_10, li_20, li_30, li_82, li_91, li_273, li_380, li_400, li_512, li_1000, li_2457, li_4000, nI_add, nI_1, nI_mul, nI_sub, shl_1, shl_1b, nI_leP, nI_ltP, nI_eqP, Nat.not_le, Nat.not_lt] at c_1
    exact Ok.ret ⟨rfl, ⟨(by first | rfl | assumption | decide), (by first | exact True.intro | exact Or.inl rfl | exact Or.inr (by first | assumption | exact ⟨_, by omega, rfl⟩ | exact ⟨⟨_, by omega, rfl⟩, ⟨_, by omega, rfl⟩⟩))⟩⟩
set_option maxHeartbeats 4000000 in
set_option maxRecDepth 100000 in
theorem gX7_readHead {σ t : St} (hG : GC σ t) : Ok (FX7_readHead t) (fun r u => GC σ u ∧ (isb r = true ∧ (True))) := by
  unfold FX7_readHead
  refine Ok.bd _ (rX7_isWord_s0 hG.tt) ?_
  rintro v1 _ ⟨rfl, hbv1, hxv1⟩
  refine Ok.ite (fun c_2 => ?_) (fun c_2 => ?_)
  · try simp (disch := omega) only [li_0, li_1, li_2, li_3, li_4, li_5, li_6, li_7, li_8, li_9, li_10, li_20, li_30, li_82, li_91, li_273, li_380, li_400, li_512, li_1000, li_2457, li_4000, nI_add, nI_1, nI_mul, nI_sub, shl_1, shl_1b, nI_leP, nI_ltP, nI_eqP, Nat.not_le, Nat.not_lt] at c_2
    refine Ok.bd _ (gX7_blame hG) ?_
    rintro v22 t23 ⟨hG_3, hbv22, hxv22⟩
    refine Ok.ck (by first | rfl | assumption | decide) (fun g_4 => ?_)
    exact Ok.ret ⟨hG_3, ⟨(by first | rfl | assumption | decide), (by first | exact True.intro | exact Or.inl rfl | exact Or.inr (by first | assumption | exact ⟨_, by omega, rfl⟩ | exact ⟨⟨_, by omega, rfl⟩, ⟨_, by omega, rfl⟩⟩))⟩⟩
  · try simp (disch := omega) only [li_0, li_1, li_2, li_3, li_4, li_5, li_6, li_7, li_8, li_9, li_10, li_20, li_30, li_82, li_91, li_273, li_380, li_400, li_512, li_1000, li_2457, li_4000, nI_add, nI_1, nI_mul, nI_sub, shl_1, shl_1b, nI_leP, nI_ltP, nI_eqP, Nat.not_le, Nat.not_lt] at c_2
    refine Ok.bd _ (gX7_step hG) ?_
    rintro _ t6 ⟨hG_5, hxv5⟩
    refine Ok.bd _ (gX7_isNumberFrom hG_5) ?_
    rintro v8 t9 ⟨hG_6, hbv8, hxv8⟩
    refine Ok.ite (fun c_7 => ?_) (fun c_7 => ?_)
    · skip
      exact Ok.ret ⟨hG_6, ⟨(by first | rfl | assumption | decide), (by first | exact True.intro | exact Or.inl rfl | exact Or.inr (by first | assumption | exact ⟨_, by omega, rfl⟩ | exact ⟨⟨_, by omega, rfl⟩, ⟨_, by omega, rfl⟩⟩))⟩⟩
    · obtain hNv8 := hxv8.resolve_left c_7
      refine Ok.rd (fun v12 hv12 => ?_)
      have hr12 : IsR 10 v12 := by rw [hv12]; exact rng_of hNv8.1 hNv8.2.1 (by decide) (by decide)
      refine Ok.bd _ (gX5_begin hG_6 (by first | assumption | decide +kernel) (by first | with_reducible assumption | (simp (disch := omega) only [li_0, li_1, li_2, li_3, li_4, li_5, li_6, li_7, li_8, li_9, li_10, li_20, li_30, li_82, li_91, li_273, li_380, li_400, li_512, li_1000, li_2457, li_4000, nI_add, nI_1, nI_mul, nI_sub, shl_1, shl_1b, nI_or, nI_xor, nI_and]; with_reducible exact ⟨_, (by first | omega | exact or9 (by omega) (by omega) | exact xor9 (by omega) (by omega)), rfl⟩) | with_reducible exact ⟨_, (by first | omega | exact or9 (by omega) (by omega) | exact xor9 (by omega) (by omega)), rfl⟩ | exact IsR.mn (by first | with_reducible assumption | exact ⟨_, by omega, rfl⟩) (by first | with_reducible assumption | exact ⟨_, by omega, rfl⟩) | exact IsR.mx (by first | with_reducible assumption | exact ⟨_, by omega, rfl⟩) (by first | with_reducible assumption | exact ⟨_, by omega, rfl⟩) | with_reducible exact mn9 (by omega) | (simp (disch := omega) only [li_0, li_1, li_2, li_3, li_4, li_5, li_6, li_7, li_8, li_9, li_10, li_20, li_30, li_82, li_91, li_273, li_380, li_400, li_512, li_1000, li_2457, li_4000, nI_add, nI_1, nI_mul, nI_sub, shl_1, shl_1b]; with_reducible exact mn9b (by omega)))) ?_
      rintro _ t15 ⟨hG_8, hxv14⟩
      refine Ok.bd _ (gX7_step hG_8) ?_
      rintro _ t18 ⟨hG_9, hxv17⟩
      exact Ok.ret ⟨hG_9, ⟨(by first | rfl | assumption | decide), (by first | exact True.intro | exact Or.inl rfl | exact Or.inr (by first | assumption | exact ⟨_, by omega, rfl⟩ | exact ⟨⟨_, by omega, rfl⟩, ⟨_, by omega, rfl⟩⟩))⟩⟩
set_option maxHeartbeats 4000000 in
set_option maxRecDepth 100000 in
theorem gX7_readWeight {σ t : St} (hG : GC σ t) {a : Int32} (h_a : IsR 9 a) {b : Int32} (h_b : IsR 9 b) : Ok (FX7_readWeight a b t) (fun r u => GC σ u ∧ (isb r = true ∧ (True))) := by
  obtain ⟨k_a, h_a, rfl⟩ := h_a
  obtain ⟨k_b, h_b, rfl⟩ := h_b
  unfold FX7_readWeight
  refine Ok.bd _ (rX7_isSign hG.tt) ?_
  rintro v1 _ ⟨rfl, hbv1, hxv1⟩
  refine Ok.ite (fun c_2 => ?_) (fun c_2 => ?_)
  · try simp (disch := omega) only [li_0, li_1, li_2, li_3, li_4, li_5, li_6, li_7, li_8, li_9, li_10, li_20, li_30, li_82, li_91, li_273, li_380, li_400, li_512, li_1000, li_2457, li_4000, nI_add, nI_1, nI_mul, nI_sub, shl_1, shl_1b, nI_leP, nI_ltP, nI_eqP, Nat.not_le, Nat.not_lt] at c_2
    refine Ok.bd _ (gX5_setWeight hG (by first | assumption | decide +kernel) (by first | with_reducible assumption | (simp (disch := omega) only [li_0, li_1, li_2, li_3, li_4, li_5, li_6, li_7, li_8, li_9, li_10, li_20, li_30, li_82, li_91, li_273, li_380, li_400, li_512, li_1000, li_2457, li_4000, nI_add, nI_1, nI_mul, nI_sub, shl_1, shl_1b, nI_or, nI_xor, nI_and]; with_reducible exact ⟨_, (by first | omega | exact or9 (by omega) (by omega) | exact xor9 (by omega) (by omega)), rfl⟩) | with_reducible exact ⟨_, (by first | omega | exact or9 (by omega) (by omega) | exact xor9 (by omega) (by omega)), rfl⟩ | exact IsR.mn (by first | with_reducible assumption | exact ⟨_, by omega, rfl⟩) (by first | with_reducible assumption | exact ⟨_, by omega, rfl⟩) | exact IsR.mx (by first | with_reducible assumption | exact ⟨_, by omega, rfl⟩) (by first | with_reducible assumption | exact ⟨_, by omega, rfl⟩) | with_reducible exact mn9 (by omega) | (simp (disch := omega) only [li_0, li_1, li_2, li_3, li_4, li_5, li_6, li_7, li_8, li_9, li_10, li_20, li_30, li_82, li_91, li_273, li_380, li_400, li_512, li_1000, li_2457, li_4000, nI_add, nI_1, nI_mul, nI_sub, shl_1, shl_1b]; with_reducible exact mn9b (by omega))) (by first | with_reducible assumption | (simp (disch := omega) only [li_0, li_1, li_2, li_3, li_4, li_5, li_6, li_7, li_8, li_9, li_10, li_20, li_30, li_82, li_91, li_273, li_380, li_400, li_512, li_1000, li_2457, li_4000, nI_add, nI_1, nI_mul, nI_sub, shl_1, shl_1b, nI_or, nI_xor, nI_and]; with_reducible exact ⟨_, (by first | omega | exact or9 (by omega) (by omega) | exact xor9 (by omega) (by omega)), rfl⟩) | with_reducible exact ⟨_, (by first | omega | exact or9 (by omega) (by omega) | exact xor9 (by omega) (by omega)), rfl⟩ | exact IsR.mn (by first | with_reducible assumption | exact ⟨_, by omega, rfl⟩) (by first | with_reducible assumption | exact ⟨_, by omega, rfl⟩) | exact IsR.mx (by first | with_reducible assumption | exact ⟨_, by omega, rfl⟩) (by first | with_reducible assumption | exact ⟨_, by omega, rfl⟩) | with_reducible exact mn9 (by omega) | (simp (disch := omega) only [li_0, li_1, li_2, li_3, li_4, li_5, li_6, li_7, li_8, li_9, li_10, li_20, li_30, li_82, li_91, li_273, li_380, li_400, li_512, li_1000, li_2457, li_4000, nI_add, nI_1, nI_mul, nI_sub, shl_1, shl_1b]; with_reducible exact mn9b (by omega))) (by first | with_reducible assumption | (simp (disch := omega) only [li_0, li_1, li_2, li_3, li_4, li_5, li_6, li_7, li_8, li_9, li_10, li_20, li_30, li_82, li_91, li_273, li_380, li_400, li_512, li_1000, li_2457, li_4000, nI_add, nI_1, nI_mul, nI_sub, shl_1, shl_1b, nI_or, nI_xor, nI_and]; with_reducible exact ⟨_, (by first | omega | exact or9 (by omega) (by omega) | exact xor9 (by omega) (by omega)), rfl⟩) | with_reducible exact ⟨_, (by first | omega | exact or9 (by omega) (by omega) | exact xor9 (by omega) (by omega)), rfl⟩ | exact IsR.mn (by first | with_reducible assumption | exact ⟨_, by omega, rfl⟩) (by first | with_reducible assumption | exact ⟨_, by omega, rfl⟩) | exact IsR.mx (by first | with_reducible assumption | exact ⟨_, by omega, rfl⟩) (by first | with_reducible assumption | exact ⟨_, by omega, rfl⟩) | with_reducible exact mn9 (by omega) | (simp (disch := omega) only [li_0, li_1, li_2, li_3, li_4, li_5, li_6, li_7, li_8, li_9, li_10, li_20, li_30, li_82, li_91, li_273, li_380, li_400, li_512, li_1000, li_2457, li_4000, nI_add, nI_1, nI_mul, nI_sub, shl_1, shl_1b]; with_reducible exact mn9b (by omega)))) ?_
    rintro _ t6 ⟨hG_3, hxv5⟩
    exact Ok.ret ⟨hG_3, ⟨(by first | rfl | assumption | decide), (by first | exact True.intro | exact Or.inl rfl | exact Or.inr (by first | assumption | exact ⟨_, by omega, rfl⟩ | exact ⟨⟨_, by omega, rfl⟩, ⟨_, by omega, rfl⟩⟩))⟩⟩
  · try simp (disch := omega) only [li_0, li_1, li_2, li_3, li_4, li_5, li_6, li_7, li_8, li_9, li_10, li_20, li_30, li_82, li_91, li_273, li_380, li_400, li_512, li_1000, li_2457, li_4000, nI_add, nI_1, nI_mul, nI_sub, shl_1, shl_1b, nI_leP, nI_ltP, nI_eqP, Nat.not_le, Nat.not_lt] at c_2
    refine Ok.bd _ (gX7_step hG) ?_
    rintro _ t10 ⟨hG_4, hxv9⟩
    refine Ok.bd _ (gX7_isNumberFrom hG_4) ?_
    rintro v12 t13 ⟨hG_5, hbv12, hxv12⟩
    refine Ok.ite (fun c_6 => ?_) (fun c_6 => ?_)
    · skip
      exact Ok.ret ⟨hG_5, ⟨(by first | rfl | assumption | decide), (by first | exact True.intro | exact Or.inl rfl | exact Or.inr (by first | assumption | exact ⟨_, by omega, rfl⟩ | exact ⟨⟨_, by omega, rfl⟩, ⟨_, by omega, rfl⟩⟩))⟩⟩
    · obtain hNv12 := hxv12.resolve_left c_6
      refine Ok.rd (fun v16 hv16 => ?_)
      have hr16 : IsR 10 v16 := by rw [hv16]; exact rng_of hNv12.1 hNv12.2.1 (by decide) (by decide)
      refine Ok.bd _ (gX7_step hG_5) ?_
      rintro _ t19 ⟨hG_7, hxv18⟩
      refine Ok.bd _ (gX5_setWeight hG_7 (by first | assumption | decide +kernel) (by first | with_reducible assumption | (simp (disch := omega) only [li_0, li_1, li_2, li_3, li_4, li_5, li_6, li_7, li_8, li_9, li_10, li_20, li_30, li_82, li_91, li_273, li_380, li_400, li_512, li_1000, li_2457, li_4000, nI_add, nI_1, nI_mul, nI_sub, shl_1, shl_1b, nI_or, nI_xor, nI_and]; with_reducible exact ⟨_, (by first | omega | exact or9 (by omega) (by omega) | exact xor9 (by omega) (by omega)), rfl⟩) | with_reducible exact ⟨_, (by first | omega | exact or9 (by omega) (by omega) | exact xor9 (by omega) (by omega)), rfl⟩ | exact IsR.mn (by first | with_reducible assumption | exact ⟨_, by omega, rfl⟩) (by first | with_reducible assumption | exact ⟨_, by omega, rfl⟩) | exact IsR.mx (by first | with_reducible assumption | exact ⟨_, by omega, rfl⟩) (by first | with_reducible assumption | exact ⟨_, by omega, rfl⟩) | with_reducible exact mn9 (by omega) | (simp (disch := omega) only [li_0, li_1, li_2, li_3, li_4, li_5, li_6, li_7, li_8, li_9, li_10, li_20, li_30, li_82, li_91, li_273, li_380, li_400, li_512, li_1000, li_2457, li_4000, nI_add, nI_1, nI_mul, nI_sub, shl_1, shl_1b]; with_reducible exact mn9b (by omega))) (by first | with_reducible assumption | (simp (disch := omega) only [li_0, li_1, li_2, li_3, li_4, li_5, li_6, li_7, li_8, li_9, li_10, li_20, li_30, li_82, li_91, li_273, li_380, li_400, li_512, li_1000, li_2457, li_4000, nI_add, nI_1, nI_mul, nI_sub, shl_1, shl_1b, nI_or, nI_xor, nI_and]; with_reducible exact ⟨_, (by first | omega | exact or9 (by omega) (by omega) | exact xor9 (by omega) (by omega)), rfl⟩) | with_reducible exact ⟨_, (by first | omega | exact or9 (by omega) (by omega) | exact xor9 (by omega) (by omega)), rfl⟩ | exact IsR.mn (by first | with_reducible assumption | exact ⟨_, by omega, rfl⟩) (by first | with_reducible assumption | exact ⟨_, by omega, rfl⟩) | exact IsR.mx (by first | with_reducible assumption | exact ⟨_, by omega, rfl⟩) (by first | with_reducible assumption | exact ⟨_, by omega, rfl⟩) | with_reducible exact mn9 (by omega) | (simp (disch := omega) only [li_0, li_1, li_2, li_3, li_4, li_5, li_6, li_7, li_8, li_9, li_10, li_20, li_30, li_82, li_91, li_273, li_380, li_400, li_512, li_1000, li_2457, li_4000, nI_add, nI_1, nI_mul, nI_sub, shl_1, shl_1b]; with_reducible exact mn9b (by omega))) (by first | with_reducible assumption | (simp (disch := omega) only [li_0, li_1, li_2, li_3, li_4, li_5, li_6, li_7, li_8, li_9, li_10, li_20, li_30, li_82, li_91, li_273, li_380, li_400, li_512, li_1000, li_2457, li_4000, nI_add, nI_1, nI_mul, nI_sub, shl_1, shl_1b, nI_or, nI_xor, nI_and]; with_reducible exact ⟨_, (by first | omega | exact or9 (by omega) (by omega) | exact xor9 (by omega) (by omega)), rfl⟩) | with_reducible exact ⟨_, (by first | omega | exact or9 (by omega) (by omega) | exact xor9 (by omega) (by omega)), rfl⟩ | exact IsR.mn (by first | with_reducible assumption | exact ⟨_, by omega, rfl⟩) (by first | with_reducible assumption | exact ⟨_, by omega, rfl⟩) | exact IsR.mx (by first | with_reducible assumption | exact ⟨_, by omega, rfl⟩) (by first | with_reducible assumption | exact ⟨_, by omega, rfl⟩) | with_reducible exact mn9 (by omega) | (simp (disch := omega) only [li_0, li_1, li_2, li_3, li_4, li_5, li_6, li_7, li_8, li_9, li_10, li_20, li_30, li_82, li_91, li_273, li_380, li_400, li_512, li_1000, li_2457, li_4000, nI_add, nI_1, nI_mul, nI_sub, shl_1, shl_1b]; with_reducible exact mn9b (by omega)))) ?_
      rintro _ t22 ⟨hG_8, hxv21⟩
      exact Ok.ret ⟨hG_8, ⟨(by first | rfl | assumption | decide), (by first | exact True.intro | exact Or.inl rfl | exact Or.inr (by first | assumption | exact ⟨_, by omega, rfl⟩ | exact ⟨⟨_, by omega, rfl⟩, ⟨_, by omega, rfl⟩⟩))⟩⟩
set_option maxHeartbeats 4000000 in
set_option maxRecDepth 100000 in
theorem gX7_readLine {σ t : St} (hG : GC σ t) : Ok (FX7_readLine t) (fun r u => GC σ u ∧ (isb r = true ∧ (True))) := by
  unfold FX7_readLine
  refine Ok.bd _ (gX7_isPoint hG) ?_
  rintro v1 t2 ⟨hG_1, hbv1, hxv1⟩
  refine Ok.ite (fun c_2 => ?_) (fun c_2 => ?_)
  · skip
    exact Ok.ret ⟨hG_1, ⟨(by first | rfl | assumption | decide), (by first | exact True.intro | exact Or.inl rfl | exact Or.inr (by first | assumption | exact ⟨_, by omega, rfl⟩ | exact ⟨⟨_, by omega, rfl⟩, ⟨_, by omega, rfl⟩⟩))⟩⟩
  · obtain hPv1 := hxv1.resolve_left c_2
    refine Ok.rd (fun v5 hv5 => ?_)
    refine Ok.ite (fun c_3 => ?_) (fun c_3 => ?_)
    · try simp (disch := omega) only [li_0, li_1, li_2, li_3, li_4, li_5, li_6, li_7, li_8, li_9, li_10, li_20, li_30, li_82, li_91, li_273, li_380, li_400, li_512, li_1000, li_2457, li_4000, nI_add, nI_1, nI_mul, nI_sub, shl_1, shl_1b, nI_leP, nI_ltP, nI_eqP, Nat.not_le, Nat.not_lt] at c_3
      refine Ok.rd (fun v8 hv8 => ?_)
      have hr8 : IsR 9 v8 := by rw [hv8]; exact hPv1
      refine Ok.bd _ (gX7_step hG_1) ?_
      rintro _ t11 ⟨hG_4, hxv10⟩
      refine Ok.bd _ (gX7_takeSign hG_4) ?_
      rintro v13 t14 ⟨hG_5, hbv13, hxv13⟩
      refine Ok.ite (fun c_6 => ?_) (fun c_6 => ?_)
      · try simp (disch := omega) only [li_0, li_1, li_2, li_3, li_4, li_5, li_6, li_7, li_8, li_9, li_10, li_20, li_30, li_82, li_91, li_273, li_380, li_400, li_512, li_1000, li_2457, li_4000, nI_add, nI_1, nI_mul, nI_sub, shl_1, shl_1b, nI_leP, nI_ltP, nI_eqP, Nat.not_le, Nat.not_lt] at c_6
        exact Ok.ret ⟨hG_5, ⟨(by first | rfl | assumption | decide), (by first | exact True.intro | exact Or.inl rfl | exact Or.inr (by first | assumption | exact ⟨_, by omega, rfl⟩ | exact ⟨⟨_, by omega, rfl⟩, ⟨_, by omega, rfl⟩⟩))⟩⟩
      · try simp (disch := omega) only [li_0, li_1, li_2, li_3, li_4, li_5, li_6, li_7, li_8, li_9, li_10, li_20, li_30, li_82, li_91, li_273, li_380, li_400, li_512, li_1000, li_2457, li_4000, nI_add, nI_1, nI_mul, nI_sub, shl_1, shl_1b, nI_leP, nI_ltP, nI_eqP, Nat.not_le, Nat.not_lt] at c_6
        refine Ok.bd _ (gX7_isPoint hG_5) ?_
        rintro v18 t19 ⟨hG_7, hbv18, hxv18⟩
        refine Ok.ite (fun c_8 => ?_) (fun c_8 => ?_)
        · skip
          exact Ok.ret ⟨hG_7, ⟨(by first | rfl | assumption | decide), (by first | exact True.intro | exact Or.inl rfl | exact Or.inr (by first | assumption | exact ⟨_, by omega, rfl⟩ | exact ⟨⟨_, by omega, rfl⟩, ⟨_, by omega, rfl⟩⟩))⟩⟩
        · obtain hPv18 := hxv18.resolve_left c_8
          refine Ok.rd (fun v22 hv22 => ?_)
          have hr22 : IsR 9 v22 := by rw [hv22]; exact hPv18
          refine Ok.ite (fun c_9 => ?_) (fun c_9 => ?_)
          · try simp (disch := omega) only [li_0, li_1, li_2, li_3, li_4, li_5, li_6, li_7, li_8, li_9, li_10, li_20, li_30, li_82, li_91, li_273, li_380, li_400, li_512, li_1000, li_2457, li_4000, nI_add, nI_1, nI_mul, nI_sub, shl_1, shl_1b, nI_leP, nI_ltP, nI_eqP, Nat.not_le, Nat.not_lt] at c_9
            refine Ok.bd _ (gX7_blame hG_7) ?_
            rintro v42 t43 ⟨hG_10, hbv42, hxv42⟩
            refine Ok.ck (by first | rfl | assumption | decide) (fun g_11 => ?_)
            exact Ok.ret ⟨hG_10, ⟨(by first | rfl | assumption | decide), (by first | exact True.intro | exact Or.inl rfl | exact Or.inr (by first | assumption | exact ⟨_, by omega, rfl⟩ | exact ⟨⟨_, by omega, rfl⟩, ⟨_, by omega, rfl⟩⟩))⟩⟩
          · try simp (disch := omega) only [li_0, li_1, li_2, li_3, li_4, li_5, li_6, li_7, li_8, li_9, li_10, li_20, li_30, li_82, li_91, li_273, li_380, li_400, li_512, li_1000, li_2457, li_4000, nI_add, nI_1, nI_mul, nI_sub, shl_1, shl_1b, nI_leP, nI_ltP, nI_eqP, Nat.not_le, Nat.not_lt] at c_9
            refine Ok.bd _ (rX5_weightOf hG_7.tt (by first | assumption | decide +kernel) (by first | with_reducible assumption | (simp (disch := omega) only [li_0, li_1, li_2, li_3, li_4, li_5, li_6, li_7, li_8, li_9, li_10, li_20, li_30, li_82, li_91, li_273, li_380, li_400, li_512, li_1000, li_2457, li_4000, nI_add, nI_1, nI_mul, nI_sub, shl_1, shl_1b, nI_or, nI_xor, nI_and]; with_reducible exact ⟨_, (by first | omega | exact or9 (by omega) (by omega) | exact xor9 (by omega) (by omega)), rfl⟩) | with_reducible exact ⟨_, (by first | omega | exact or9 (by omega) (by omega) | exact xor9 (by omega) (by omega)), rfl⟩ | exact IsR.mn (by first | with_reducible assumption | exact ⟨_, by omega, rfl⟩) (by first | with_reducible assumption | exact ⟨_, by omega, rfl⟩) | exact IsR.mx (by first | with_reducible assumption | exact ⟨_, by omega, rfl⟩) (by first | with_reducible assumption | exact ⟨_, by omega, rfl⟩) | with_reducible exact mn9 (by omega) | (simp (disch := omega) only [li_0, li_1, li_2, li_3, li_4, li_5, li_6, li_7, li_8, li_9, li_10, li_20, li_30, li_82, li_91, li_273, li_380, li_400, li_512, li_1000, li_2457, li_4000, nI_add, nI_1, nI_mul, nI_sub, shl_1, shl_1b]; with_reducible exact mn9b (by omega))) (by first | with_reducible assumption | (simp (disch := omega) only [li_0, li_1, li_2, li_3, li_4, li_5, li_6, li_7, li_8, li_9, li_10, li_20, li_30, li_82, li_91, li_273, li_380, li_400, li_512, li_1000, li_2457, li_4000, nI_add, nI_1, nI_mul, nI_sub, shl_1, shl_1b, nI_or, nI_xor, nI_and]; with_reducible exact ⟨_, (by first | omega | exact or9 (by omega) (by omega) | exact xor9 (by omega) (by omega)), rfl⟩) | with_reducible exact ⟨_, (by first | omega | exact or9 (by omega) (by omega) | exact xor9 (by omega) (by omega)), rfl⟩ | exact IsR.mn (by first | with_reducible assumption | exact ⟨_, by omega, rfl⟩) (by first | with_reducible assumption | exact ⟨_, by omega, rfl⟩) | exact IsR.mx (by first | with_reducible assumption | exact ⟨_, by omega, rfl⟩) (by first | with_reducible assumption | exact ⟨_, by omega, rfl⟩) | with_reducible exact mn9 (by omega) | (simp (disch := omega) only [li_0, li_1, li_2, li_3, li_4, li_5, li_6, li_7, li_8, li_9, li_10, li_20, li_30, li_82, li_91, li_273, li_380, li_400, li_512, li_1000, li_2457, li_4000, nI_add, nI_1, nI_mul, nI_sub, shl_1, shl_1b]; with_reducible exact mn9b (by omega)))) ?_
            rintro _ _ ⟨rfl, kv25, hv25, rfl⟩
            refine Ok.ite (fun c_13 => ?_) (fun c_13 => ?_)
            · try simp (disch := omega) only [li_0, li_1, li_2, li_3, li_4, li_5, li_6, li_7, li_8, li_9, li_10, li_20, li_30, li_82, li_91, li_273, li_380, li_400, li_512, li_1000, li_2457, li_4000, nI_add, nI_1, nI_mul, nI_sub, shl_1, shl_1b, nI_leP, nI_ltP, nI_eqP, Nat.not_le, Nat.not_lt] at c_13
              refine Ok.bd _ (gX7_step hG_7) ?_
              rintro _ t30 ⟨hG_14, hxv29⟩
              refine Ok.bd _ (gX7_readWeight hG_14 (by first | with_reducible assumption | (simp (disch := omega) only [li_0, li_1, li_2, li_3, li_4, li_5, li_6, li_7, li_8, li_9, li_10, li_20, li_30, li_82, li_91, li_273, li_380, li_400, li_512, li_1000, li_2457, li_4000, nI_add, nI_1, nI_mul, nI_sub, shl_1, shl_1b, nI_or, nI_xor, nI_and]; with_reducible exact ⟨_, (by first | omega | exact or9 (by omega) (by omega) | exact xor9 (by omega) (by omega)), rfl⟩) | with_reducible exact ⟨_, (by first | omega | exact or9 (by omega) (by omega) | exact xor9 (by omega) (by omega)), rfl⟩ | exact IsR.mn (by first | with_reducible assumption | exact ⟨_, by omega, rfl⟩) (by first | with_reducible assumption | exact ⟨_, by omega, rfl⟩) | exact IsR.mx (by first | with_reducible assumption | exact ⟨_, by omega, rfl⟩) (by first | with_reducible assumption | exact ⟨_, by omega, rfl⟩) | with_reducible exact mn9 (by omega) | (simp (disch := omega) only [li_0, li_1, li_2, li_3, li_4, li_5, li_6, li_7, li_8, li_9, li_10, li_20, li_30, li_82, li_91, li_273, li_380, li_400, li_512, li_1000, li_2457, li_4000, nI_add, nI_1, nI_mul, nI_sub, shl_1, shl_1b]; with_reducible exact mn9b (by omega))) (by first | with_reducible assumption | (simp (disch := omega) only [li_0, li_1, li_2, li_3, li_4, li_5, li_6, li_7, li_8, li_9, li_10, li_20, li_30, li_82, li_91, li_273, li_380, li_400, li_512, li_1000, li_2457, li_4000, nI_add, nI_1, nI_mul, nI_sub, shl_1, shl_1b, nI_or, nI_xor, nI_and]; with_reducible exact ⟨_, (by first | omega | exact or9 (by omega) (by omega) | exact xor9 (by omega) (by omega)), rfl⟩) | with_reducible exact ⟨_, (by first | omega | exact or9 (by omega) (by omega) | exact xor9 (by omega) (by omega)), rfl⟩ | exact IsR.mn (by first | with_reducible assumption | exact ⟨_, by omega, rfl⟩) (by first | with_reducible assumption | exact ⟨_, by omega, rfl⟩) | exact IsR.mx (by first | with_reducible assumption | exact ⟨_, by omega, rfl⟩) (by first | with_reducible assumption | exact ⟨_, by omega, rfl⟩) | with_reducible exact mn9 (by omega) | (simp (disch := omega) only [li_0, li_1, li_2, li_3, li_4, li_5, li_6, li_7, li_8, li_9, li_10, li_20, li_30, li_82, li_91, li_273, li_380, li_400, li_512, li_1000, li_2457, li_4000, nI_add, nI_1, nI_mul, nI_sub, shl_1, shl_1b]; with_reducible exact mn9b (by omega)))) ?_
              rintro v32 t33 ⟨hG_15, hbv32, hxv32⟩
              refine Ok.ck (by first | rfl | assumption | decide) (fun g_16 => ?_)
              exact Ok.ret ⟨hG_15, ⟨(by first | rfl | assumption | decide), (by first | exact True.intro | exact Or.inl rfl | exact Or.inr (by first | assumption | exact ⟨_, by omega, rfl⟩ | exact ⟨⟨_, by omega, rfl⟩, ⟨_, by omega, rfl⟩⟩))⟩⟩
            · try simp (disch := omega) only [li_0, li_1, li_2, li_3, li_4, li_5, li_6, li_7, li_8, li_9, li_10, li_20, li_30, li_82, li_91, li_273, li_380, li_400, li_512, li_1000, li_2457, li_4000, nI_add, nI_1, nI_mul, nI_sub, shl_1, shl_1b, nI_leP, nI_ltP, nI_eqP, Nat.not_le, Nat.not_lt] at c_13
              refine Ok.bd _ (gX7_blame hG_7) ?_
              rintro v37 t38 ⟨hG_17, hbv37, hxv37⟩
              refine Ok.ck (by first | rfl | assumption | decide) (fun g_18 => ?_)
              exact Ok.ret ⟨hG_17, ⟨(by first | rfl | assumption | decide), (by first | exact True.intro | exact Or.inl rfl | exact Or.inr (by first | assumption | exact ⟨_, by omega, rfl⟩ | exact ⟨⟨_, by omega, rfl⟩, ⟨_, by omega, rfl⟩⟩))⟩⟩
    · try simp (disch := omega) only [li_0, li_1, li_2, li_3, li_4, li_5, li_6, li_7, li_8, li_9, li_10, li_20, li_30, li_82, li_91, li_273, li_380, li_400, li_512, li_1000, li_2457, li_4000, nI_add, nI_1, nI_mul, nI_sub, shl_1, shl_1b, nI_leP, nI_ltP, nI_eqP, Nat.not_le, Nat.not_lt] at c_3
      refine Ok.bd _ (gX7_blame hG_1) ?_
      rintro v48 t49 ⟨hG_19, hbv48, hxv48⟩
      refine Ok.ck (by first | rfl | assumption | decide) (fun g_20 => ?_)
      exact Ok.ret ⟨hG_19, ⟨(by first | rfl | assumption | decide), (by first | exact True.intro | exact Or.inl rfl | exact Or.inr (by first | assumption | exact ⟨_, by omega, rfl⟩ | exact ⟨⟨_, by omega, rfl⟩, ⟨_, by omega, rfl⟩⟩))⟩⟩
set_option maxHeartbeats 4000000 in
set_option maxRecDepth 100000 in
theorem gSX7_readLines_9 {σ t : St} (hG : GC σ t) {a0 : Int32} {a1 : Int32} (h_a1 : IsR 5001 a1) : Ok (wh (SX7_readLines_9) (a0, a1) t) (fun r u => GC σ u ∧ (Sum.elim (fun v => isb v = true ∧ (True)) (fun e => True) r)) := by
  obtain ⟨j0, hj0, rfl⟩ := h_a1
  refine Ok.loop (fun k c s => GC σ s ∧ (∃ j, c.2 = nI j ∧ j ≤ 5000 ∧ 0 ≤ j ∧ k = 5000 - j)) ?_ (5000 - j0) _ _ ⟨hG, ⟨j0, rfl, by omega, by omega, rfl⟩⟩
  clear hG hj0
  intro k c s hI
  obtain ⟨hG, ⟨j, ej, hj, hlo, rfl⟩⟩ := hI
  obtain ⟨c0, c1⟩ := c
  dsimp only at ej
  subst ej
  unfold SX7_readLines_9
  dsimp only
  refine Ok.ite (fun c_1 => ?_) (fun c_1 => ?_)
  · try simp (disch := omega) only [li_0, li_1, li_2, li_3, li_4, li_5, li_6, li_7, li_8, li_9, li_10, li_20, li_30, li_82, li_91, li_273, li_380, li_400, li_512, li_1000, li_2457, li_4000, nI_add, nI_1, nI_mul, nI_sub, shl_1, shl_1b, nI_leP, nI_ltP, nI_eqP, Nat.not_le, Nat.not_lt] at c_1
    exact Ok.ret ⟨hG, True.intro⟩
  · try simp (disch := omega) only [li_0, li_1, li_2, li_3, li_4, li_5, li_6, li_7, li_8, li_9, li_10, li_20, li_30, li_82, li_91, li_273, li_380, li_400, li_512, li_1000, li_2457, li_4000, nI_add, nI_1, nI_mul, nI_sub, shl_1, shl_1b, nI_leP, nI_ltP, nI_eqP, Nat.not_le, Nat.not_lt] at c_1
    refine Ok.ite (fun c_2 => ?_) (fun c_2 => ?_)
    · try simp (disch := omega) only [li_0, li_1, li_2, li_3, li_4, li_5, li_6, li_7, li_8, li_9, li_10, li_20, li_30, li_82, li_91, li_273, li_380, li_400, li_512, li_1000, li_2457, li_4000, nI_add, nI_1, nI_mul, nI_sub, shl_1, shl_1b, nI_leP, nI_ltP, nI_eqP, Nat.not_le, Nat.not_lt] at c_2
      exact Ok.ret ⟨hG, True.intro⟩
    · try simp (disch := omega) only [li_0, li_1, li_2, li_3, li_4, li_5, li_6, li_7, li_8, li_9, li_10, li_20, li_30, li_82, li_91, li_273, li_380, li_400, li_512, li_1000, li_2457, li_4000, nI_add, nI_1, nI_mul, nI_sub, shl_1, shl_1b, nI_leP, nI_ltP, nI_eqP, Nat.not_le, Nat.not_lt] at c_2
      refine Ok.bd _ (gX7_step hG) ?_
      rintro _ t7 ⟨hG_3, hxv6⟩
      refine Ok.bd _ (gX7_readLine hG_3) ?_
      rintro v9 t10 ⟨hG_4, hbv9, hxv9⟩
      refine Ok.ite (fun c_5 => ?_) (fun c_5 => ?_)
      · try simp (disch := omega) only [li_0, li_1, li_2, li_3, li_4, li_5, li_6, li_7, li_8, li_9, li_10, li_20, li_30, li_82, li_91, li_273, li_380, li_400, li_512, li_1000, li_2457, li_4000, nI_add, nI_1, nI_mul, nI_sub, shl_1, shl_1b, nI_leP, nI_ltP, nI_eqP, Nat.not_le, Nat.not_lt] at c_5
        exact Ok.ret ⟨hG_4, ⟨(by first | rfl | assumption | decide), (by first | exact True.intro | exact Or.inl rfl | exact Or.inr (by first | assumption | exact ⟨_, by omega, rfl⟩ | exact ⟨⟨_, by omega, rfl⟩, ⟨_, by omega, rfl⟩⟩))⟩⟩
      · try simp (disch := omega) only [li_0, li_1, li_2, li_3, li_4, li_5, li_6, li_7, li_8, li_9, li_10, li_20, li_30, li_82, li_91, li_273, li_380, li_400, li_512, li_1000, li_2457, li_4000, nI_add, nI_1, nI_mul, nI_sub, shl_1, shl_1b, nI_leP, nI_ltP, nI_eqP, Nat.not_le, Nat.not_lt] at c_5
        refine Ok.bd _ (rX7_isSign hG_4.tt) ?_
        rintro v13 _ ⟨rfl, hbv13, hxv13⟩
        exact Ok.ret ⟨5000 - (j + 1), by omega, hG_4, ⟨j + 1, nI_1 j, by omega, by omega, rfl⟩⟩
set_option maxHeartbeats 4000000 in
set_option maxRecDepth 100000 in
theorem gX7_readLines {σ t : St} (hG : GC σ t) : Ok (FX7_readLines t) (fun r u => GC σ u ∧ (isb r = true ∧ (True))) := by
  unfold FX7_readLines
  refine Ok.bd _ (rX7_isSign hG.tt) ?_
  rintro v1 _ ⟨rfl, hbv1, hxv1⟩
  refine Ok.bd _ (gSX7_readLines_9 hG (by show IsR 5001 _; first | with_reducible assumption | (simp (disch := omega) only [li_0, li_1, li_2, li_3, li_4, li_5, li_6, li_7, li_8, li_9, li_10, li_20, li_30, li_82, li_91, li_273, li_380, li_400, li_512, li_1000, li_2457, li_4000, nI_add, nI_1, nI_mul, nI_sub, shl_1, shl_1b, nI_or, nI_xor, nI_and]; with_reducible exact ⟨_, (by first | omega | exact or9 (by omega) (by omega) | exact xor9 (by omega) (by omega)), rfl⟩) | with_reducible exact ⟨_, (by first | omega | exact or9 (by omega) (by omega) | exact xor9 (by omega) (by omega)), rfl⟩ | exact IsR.mn (by first | with_reducible assumption | exact ⟨_, by omega, rfl⟩) (by first | with_reducible assumption | exact ⟨_, by omega, rfl⟩) | exact IsR.mx (by first | with_reducible assumption | exact ⟨_, by omega, rfl⟩) (by first | with_reducible assumption | exact ⟨_, by omega, rfl⟩) | with_reducible exact mn9 (by omega) | (simp (disch := omega) only [li_0, li_1, li_2, li_3, li_4, li_5, li_6, li_7, li_8, li_9, li_10, li_20, li_30, li_82, li_91, li_273, li_380, li_400, li_512, li_1000, li_2457, li_4000, nI_add, nI_1, nI_mul, nI_sub, shl_1, shl_1b]; with_reducible exact mn9b (by omega)))) ?_
  rintro (e17 | e17) t18 ⟨hG_2, hxe17⟩
  · refine Ok.el ?_
    obtain ⟨hbe17, hxe17⟩ := hxe17
    exact Ok.ret ⟨hG_2, ⟨(by first | rfl | assumption | decide), (by first | exact True.intro | exact Or.inl rfl | exact Or.inr (by first | assumption | exact ⟨_, by omega, rfl⟩ | exact ⟨⟨_, by omega, rfl⟩, ⟨_, by omega, rfl⟩⟩))⟩⟩
  · refine Ok.er ?_
    refine Ok.bd _ (gX7_takeSign hG_2) ?_
    rintro v22 t23 ⟨hG_3, hbv22, hxv22⟩
    refine Ok.ck (by first | rfl | assumption | decide) (fun g_4 => ?_)
    exact Ok.ret ⟨hG_3, ⟨(by first | rfl | assumption | decide), (by first | exact True.intro | exact Or.inl rfl | exact Or.inr (by first | assumption | exact ⟨_, by omega, rfl⟩ | exact ⟨⟨_, by omega, rfl⟩, ⟨_, by omega, rfl⟩⟩))⟩⟩
set_option maxHeartbeats 4000000 in
set_option maxRecDepth 100000 in
theorem gSX7_readDigits_25 {σ t : St} (hG : GC σ t) {a0 : Int32} {a1 : Int32} (h_a1 : IsR 5001 a1) : Ok (wh (SX7_readDigits_25) (a0, a1) t) (fun r u => GC σ u ∧ (Sum.elim (fun v => isb v = true ∧ (True)) (fun e => True) r)) := by
  obtain ⟨j0, hj0, rfl⟩ := h_a1
  refine Ok.loop (fun k c s => GC σ s ∧ (∃ j, c.2 = nI j ∧ j ≤ 5000 ∧ 0 ≤ j ∧ k = 5000 - j)) ?_ (5000 - j0) _ _ ⟨hG, ⟨j0, rfl, by omega, by omega, rfl⟩⟩
  clear hG hj0
  intro k c s hI
  obtain ⟨hG, ⟨j, ej, hj, hlo, rfl⟩⟩ := hI
  obtain ⟨c0, c1⟩ := c
  dsimp only at ej
  subst ej
  unfold SX7_readDigits_25
  dsimp only
  refine Ok.rdT hG.tt (ty_n0 (x := 6) (by decide +kernel)) (by omega) (fun k_1 hk_1 ek_1 => ?_)
  refine Ok.ite (fun c_2 => ?_) (fun c_2 => ?_)
  · try simp (disch := omega) only [li_0, li_1, li_2, li_3, li_4, li_5, li_6, li_7, li_8, li_9, li_10, li_20, li_30, li_82, li_91, li_273, li_380, li_400, li_512, li_1000, li_2457, li_4000, nI_add, nI_1, nI_mul, nI_sub, shl_1, shl_1b, nI_leP, nI_ltP, nI_eqP, Nat.not_le, Nat.not_lt] at c_2
    exact Ok.ret ⟨hG, True.intro⟩
  · try simp (disch := omega) only [li_0, li_1, li_2, li_3, li_4, li_5, li_6, li_7, li_8, li_9, li_10, li_20, li_30, li_82, li_91, li_273, li_380, li_400, li_512, li_1000, li_2457, li_4000, nI_add, nI_1, nI_mul, nI_sub, shl_1, shl_1b, nI_leP, nI_ltP, nI_eqP, Nat.not_le, Nat.not_lt] at c_2
    refine Ok.rd (fun v11 hv11 => ?_)
    refine Ok.bd _ (rX1_at_1 hG.tt) ?_
    rintro v13 _ ⟨rfl, hxv13⟩
    refine Ok.bd _ (rX5_has hG.tt (by first | assumption | decide +kernel)) ?_
    rintro v16 _ ⟨rfl, hbv16, hxv16⟩
    refine Ok.ite (fun c_5 => ?_) (fun c_5 => ?_)
    · skip
      exact Ok.ret ⟨hG, ⟨(by first | rfl | assumption | decide), (by first | exact True.intro | exact Or.inl rfl | exact Or.inr (by first | assumption | exact ⟨_, by omega, rfl⟩ | exact ⟨⟨_, by omega, rfl⟩, ⟨_, by omega, rfl⟩⟩))⟩⟩
    · obtain hIs := hxv16.resolve_left c_5
      refine Ok.ck (by first | (simp (disch := omega) only [li_0, li_1, li_2, li_3, li_4, li_5, li_6, li_7, li_8, li_9, li_10, li_20, li_30, li_82, li_91, li_273, li_380, li_400, li_512, li_1000, li_2457, li_4000, nI_add, nI_1, nI_mul, nI_sub, shl_1, shl_1b, nI_or, nI_xor, nI_and]; with_reducible exact inb_n (by first | omega | exact or9 (by omega) (by omega) | exact xor9 (by omega) (by omega)) (by omega)) | with_reducible exact inb_n (by omega) (by omega) | exact IsR.ib (by with_reducible assumption) (by decide) | decide) (fun g_6 => ?_)
      refine Ok.wr (fun t21 w_7 => ?_)
      have hG_8 := hG.wrT w_7 (by omega) (ty_od (x := 6) (by decide +kernel) (inb_lt g_6)) (by first | with_reducible assumption | (simp (disch := omega) only [li_0, li_1, li_2, li_3, li_4, li_5, li_6, li_7, li_8, li_9, li_10, li_20, li_30, li_82, li_91, li_273, li_380, li_400, li_512, li_1000, li_2457, li_4000, nI_add, nI_1, nI_mul, nI_sub, shl_1, shl_1b, nI_or, nI_xor, nI_and]; with_reducible exact ⟨_, (by first | omega | exact or9 (by omega) (by omega) | exact xor9 (by omega) (by omega)), rfl⟩) | with_reducible exact ⟨_, (by first | omega | exact or9 (by omega) (by omega) | exact xor9 (by omega) (by omega)), rfl⟩ | exact IsR.mn (by first | with_reducible assumption | exact ⟨_, by omega, rfl⟩) (by first | with_reducible assumption | exact ⟨_, by omega, rfl⟩) | exact IsR.mx (by first | with_reducible assumption | exact ⟨_, by omega, rfl⟩) (by first | with_reducible assumption | exact ⟨_, by omega, rfl⟩) | with_reducible exact mn9 (by omega) | (simp (disch := omega) only [li_0, li_1, li_2, li_3, li_4, li_5, li_6, li_7, li_8, li_9, li_10, li_20, li_30, li_82, li_91, li_273, li_380, li_400, li_512, li_1000, li_2457, li_4000, nI_add, nI_1, nI_mul, nI_sub, shl_1, shl_1b]; with_reducible exact mn9b (by omega)))
      exact Ok.ret ⟨5000 - (j + 1), by omega, hG_8, ⟨j + 1, nI_1 j, by omega, by omega, rfl⟩⟩
set_option maxHeartbeats 4000000 in
set_option maxRecDepth 100000 in
theorem gX7_readDigits {σ t : St} (hG : GC σ t) : Ok (FX7_readDigits t) (fun r u => GC σ u ∧ (isb r = true ∧ (True))) := by
  unfold FX7_readDigits
  refine Ok.rd (fun v1 hv1 => ?_)
  refine Ok.rd (fun v3 hv3 => ?_)
  refine Ok.rdT hG.tt (ty_n0 (x := 6) (by decide +kernel)) (by omega) (fun k_1 hk_1 ek_1 => ?_)
  refine Ok.ite (fun c_2 => ?_) (fun c_2 => ?_)
  · try simp (disch := omega) only [li_0, li_1, li_2, li_3, li_4, li_5, li_6, li_7, li_8, li_9, li_10, li_20, li_30, li_82, li_91, li_273, li_380, li_400, li_512, li_1000, li_2457, li_4000, nI_add, nI_1, nI_mul, nI_sub, shl_1, shl_1b, nI_leP, nI_ltP, nI_eqP, Nat.not_le, Nat.not_lt] at c_2
    refine Ok.bd _ (gSX7_readDigits_25 hG (by show IsR 5001 _; first | with_reducible assumption | (simp (disch := omega) only [li_0, li_1, li_2, li_3, li_4, li_5, li_6, li_7, li_8, li_9, li_10, li_20, li_30, li_82, li_91, li_273, li_380, li_400, li_512, li_1000, li_2457, li_4000, nI_add, nI_1, nI_mul, nI_sub, shl_1, shl_1b, nI_or, nI_xor, nI_and]; with_reducible exact ⟨_, (by first | omega | exact or9 (by omega) (by omega) | exact xor9 (by omega) (by omega)), rfl⟩) | with_reducible exact ⟨_, (by first | omega | exact or9 (by omega) (by omega) | exact xor9 (by omega) (by omega)), rfl⟩ | exact IsR.mn (by first | with_reducible assumption | exact ⟨_, by omega, rfl⟩) (by first | with_reducible assumption | exact ⟨_, by omega, rfl⟩) | exact IsR.mx (by first | with_reducible assumption | exact ⟨_, by omega, rfl⟩) (by first | with_reducible assumption | exact ⟨_, by omega, rfl⟩) | with_reducible exact mn9 (by omega) | (simp (disch := omega) only [li_0, li_1, li_2, li_3, li_4, li_5, li_6, li_7, li_8, li_9, li_10, li_20, li_30, li_82, li_91, li_273, li_380, li_400, li_512, li_1000, li_2457, li_4000, nI_add, nI_1, nI_mul, nI_sub, shl_1, shl_1b]; with_reducible exact mn9b (by omega)))) ?_
    rintro (e24 | e24) t25 ⟨hG_3, hxe24⟩
    · refine Ok.el ?_
      obtain ⟨hbe24, hxe24⟩ := hxe24
      exact Ok.ret ⟨hG_3, ⟨(by first | rfl | assumption | decide), (by first | exact True.intro | exact Or.inl rfl | exact Or.inr (by first | assumption | exact ⟨_, by omega, rfl⟩ | exact ⟨⟨_, by omega, rfl⟩, ⟨_, by omega, rfl⟩⟩))⟩⟩
    · refine Ok.er ?_
      refine Ok.bd _ (rX5_allBits hG_3.tt (by first | assumption | decide +kernel)) ?_
      rintro _ _ ⟨rfl, kv29, hv29, rfl⟩
      refine Ok.ite (fun c_5 => ?_) (fun c_5 => ?_)
      · try simp (disch := omega) only [li_0, li_1, li_2, li_3, li_4, li_5, li_6, li_7, li_8, li_9, li_10, li_20, li_30, li_82, li_91, li_273, li_380, li_400, li_512, li_1000, li_2457, li_4000, nI_add, nI_1, nI_mul, nI_sub, shl_1, shl_1b, nI_leP, nI_ltP, nI_eqP, Nat.not_le, Nat.not_lt] at c_5
        exact Ok.ret ⟨hG_3, ⟨(by first | rfl | assumption | decide), (by first | exact True.intro | exact Or.inl rfl | exact Or.inr (by first | assumption | exact ⟨_, by omega, rfl⟩ | exact ⟨⟨_, by omega, rfl⟩, ⟨_, by omega, rfl⟩⟩))⟩⟩
      · try simp (disch := omega) only [li_0, li_1, li_2, li_3, li_4, li_5, li_6, li_7, li_8, li_9, li_10, li_20, li_30, li_82, li_91, li_273, li_380, li_400, li_512, li_1000, li_2457, li_4000, nI_add, nI_1, nI_mul, nI_sub, shl_1, shl_1b, nI_leP, nI_ltP, nI_eqP, Nat.not_le, Nat.not_lt] at c_5
        exact Ok.ret ⟨hG_3, ⟨(by first | rfl | assumption | decide), (by first | exact True.intro | exact Or.inl rfl | exact Or.inr (by first | assumption | exact ⟨_, by omega, rfl⟩ | exact ⟨⟨_, by omega, rfl⟩, ⟨_, by omega, rfl⟩⟩))⟩⟩
  · try simp (disch := omega) only [li_0, li_1, li_2, li_3, li_4, li_5, li_6, li_7, li_8, li_9, li_10, li_20, li_30, li_82, li_91, li_273, li_380, li_400, li_512, li_1000, li_2457, li_4000, nI_add, nI_1, nI_mul, nI_sub, shl_1, shl_1b, nI_leP, nI_ltP, nI_eqP, Nat.not_le, Nat.not_lt] at c_2
    exact Ok.ret ⟨hG, ⟨(by first | rfl | assumption | decide), (by first | exact True.intro | exact Or.inl rfl | exact Or.inr (by first | assumption | exact ⟨_, by omega, rfl⟩ | exact ⟨⟨_, by omega, rfl⟩, ⟨_, by omega, rfl⟩⟩))⟩⟩
set_option maxHeartbeats 4000000 in
set_option maxRecDepth 100000 in
theorem gX7_readRow {σ t : St} (hG : GC σ t) : Ok (FX7_readRow t) (fun r u => GC σ u ∧ (isb r = true ∧ (True))) := by
  unfold FX7_readRow
  refine Ok.rd (fun v1 hv1 => ?_)
  refine Ok.ite (fun c_1 => ?_) (fun c_1 => ?_)
  · try simp (disch := omega) only [li_0, li_1, li_2, li_3, li_4, li_5, li_6, li_7, li_8, li_9, li_10, li_20, li_30, li_82, li_91, li_273, li_380, li_400, li_512, li_1000, li_2457, li_4000, nI_add, nI_1, nI_mul, nI_sub, shl_1, shl_1b, nI_leP, nI_ltP, nI_eqP, Nat.not_le, Nat.not_lt] at c_1
    exact Ok.ret ⟨hG, ⟨(by first | rfl | assumption | decide), (by first | exact True.intro | exact Or.inl rfl | exact Or.inr (by first | assumption | exact ⟨_, by omega, rfl⟩ | exact ⟨⟨_, by omega, rfl⟩, ⟨_, by omega, rfl⟩⟩))⟩⟩
  · try simp (disch := omega) only [li_0, li_1, li_2, li_3, li_4, li_5, li_6, li_7, li_8, li_9, li_10, li_20, li_30, li_82, li_91, li_273, li_380, li_400, li_512, li_1000, li_2457, li_4000, nI_add, nI_1, nI_mul, nI_sub, shl_1, shl_1b, nI_leP, nI_ltP, nI_eqP, Nat.not_le, Nat.not_lt] at c_1
    refine Ok.bd _ (rX7_isWord_s1 hG.tt) ?_
    rintro v4 _ ⟨rfl, hbv4, hxv4⟩
    refine Ok.ite (fun c_3 => ?_) (fun c_3 => ?_)
    · try simp (disch := omega) only [li_0, li_1, li_2, li_3, li_4, li_5, li_6, li_7, li_8, li_9, li_10, li_20, li_30, li_82, li_91, li_273, li_380, li_400, li_512, li_1000, li_2457, li_4000, nI_add, nI_1, nI_mul, nI_sub, shl_1, shl_1b, nI_leP, nI_ltP, nI_eqP, Nat.not_le, Nat.not_lt] at c_3
      refine Ok.bd _ (gX7_blame hG) ?_
      rintro v46 t47 ⟨hG_4, hbv46, hxv46⟩
      refine Ok.ck (by first | rfl | assumption | decide) (fun g_5 => ?_)
      exact Ok.ret ⟨hG_4, ⟨(by first | rfl | assumption | decide), (by first | exact True.intro | exact Or.inl rfl | exact Or.inr (by first | assumption | exact ⟨_, by omega, rfl⟩ | exact ⟨⟨_, by omega, rfl⟩, ⟨_, by omega, rfl⟩⟩))⟩⟩
    · try simp (disch := omega) only [li_0, li_1, li_2, li_3, li_4, li_5, li_6, li_7, li_8, li_9, li_10, li_20, li_30, li_82, li_91, li_273, li_380, li_400, li_512, li_1000, li_2457, li_4000, nI_add, nI_1, nI_mul, nI_sub, shl_1, shl_1b, nI_leP, nI_ltP, nI_eqP, Nat.not_le, Nat.not_lt] at c_3
      refine Ok.bd _ (gX7_step hG) ?_
      rintro _ t9 ⟨hG_6, hxv8⟩
      refine Ok.rd (fun v11 hv11 => ?_)
      refine Ok.ite (fun c_7 => ?_) (fun c_7 => ?_)
      · try simp (disch := omega) only [li_0, li_1, li_2, li_3, li_4, li_5, li_6, li_7, li_8, li_9, li_10, li_20, li_30, li_82, li_91, li_273, li_380, li_400, li_512, li_1000, li_2457, li_4000, nI_add, nI_1, nI_mul, nI_sub, shl_1, shl_1b, nI_leP, nI_ltP, nI_eqP, Nat.not_le, Nat.not_lt] at c_7
        refine Ok.bd _ (gX7_readDigits hG_6) ?_
        rintro v14 t15 ⟨hG_8, hbv14, hxv14⟩
        refine Ok.ite (fun c_9 => ?_) (fun c_9 => ?_)
        · try simp (disch := omega) only [li_0, li_1, li_2, li_3, li_4, li_5, li_6, li_7, li_8, li_9, li_10, li_20, li_30, li_82, li_91, li_273, li_380, li_400, li_512, li_1000, li_2457, li_4000, nI_add, nI_1, nI_mul, nI_sub, shl_1, shl_1b, nI_leP, nI_ltP, nI_eqP, Nat.not_le, Nat.not_lt] at c_9
          refine Ok.bd _ (gX7_blame hG_8) ?_
          rintro v36 t37 ⟨hG_10, hbv36, hxv36⟩
          refine Ok.ck (by first | rfl | assumption | decide) (fun g_11 => ?_)
          exact Ok.ret ⟨hG_10, ⟨(by first | rfl | assumption | decide), (by first | exact True.intro | exact Or.inl rfl | exact Or.inr (by first | assumption | exact ⟨_, by omega, rfl⟩ | exact ⟨⟨_, by omega, rfl⟩, ⟨_, by omega, rfl⟩⟩))⟩⟩
        · try simp (disch := omega) only [li_0, li_1, li_2, li_3, li_4, li_5, li_6, li_7, li_8, li_9, li_10, li_20, li_30, li_82, li_91, li_273, li_380, li_400, li_512, li_1000, li_2457, li_4000, nI_add, nI_1, nI_mul, nI_sub, shl_1, shl_1b, nI_leP, nI_ltP, nI_eqP, Nat.not_le, Nat.not_lt] at c_9
          refine Ok.bd _ (gX7_step hG_8) ?_
          rintro _ t19 ⟨hG_12, hxv18⟩
          refine Ok.bd _ (gX7_takeSign hG_12) ?_
          rintro v21 t22 ⟨hG_13, hbv21, hxv21⟩
          refine Ok.ite (fun c_14 => ?_) (fun c_14 => ?_)
          · try simp (disch := omega) only [li_0, li_1, li_2, li_3, li_4, li_5, li_6, li_7, li_8, li_9, li_10, li_20, li_30, li_82, li_91, li_273, li_380, li_400, li_512, li_1000, li_2457, li_4000, nI_add, nI_1, nI_mul, nI_sub, shl_1, shl_1b, nI_leP, nI_ltP, nI_eqP, Nat.not_le, Nat.not_lt] at c_14
            exact Ok.ret ⟨hG_13, ⟨(by first | rfl | assumption | decide), (by first | exact True.intro | exact Or.inl rfl | exact Or.inr (by first | assumption | exact ⟨_, by omega, rfl⟩ | exact ⟨⟨_, by omega, rfl⟩, ⟨_, by omega, rfl⟩⟩))⟩⟩
          · try simp (disch := omega) only [li_0, li_1, li_2, li_3, li_4, li_5, li_6, li_7, li_8, li_9, li_10, li_20, li_30, li_82, li_91, li_273, li_380, li_400, li_512, li_1000, li_2457, li_4000, nI_add, nI_1, nI_mul, nI_sub, shl_1, shl_1b, nI_leP, nI_ltP, nI_eqP, Nat.not_le, Nat.not_lt] at c_14
            refine Ok.rd (fun v26 hv26 => ?_)
            refine Ok.ite (fun c_15 => ?_) (fun c_15 => ?_)
            · try simp (disch := omega) only [li_0, li_1, li_2, li_3, li_4, li_5, li_6, li_7, li_8, li_9, li_10, li_20, li_30, li_82, li_91, li_273, li_380, li_400, li_512, li_1000, li_2457, li_4000, nI_add, nI_1, nI_mul, nI_sub, shl_1, shl_1b, nI_leP, nI_ltP, nI_eqP, Nat.not_le, Nat.not_lt] at c_15
              exact Ok.ret ⟨hG_13, ⟨(by first | rfl | assumption | decide), (by first | exact True.intro | exact Or.inl rfl | exact Or.inr (by first | assumption | exact ⟨_, by omega, rfl⟩ | exact ⟨⟨_, by omega, rfl⟩, ⟨_, by omega, rfl⟩⟩))⟩⟩
            · try simp (disch := omega) only [li_0, li_1, li_2, li_3, li_4, li_5, li_6, li_7, li_8, li_9, li_10, li_20, li_30, li_82, li_91, li_273, li_380, li_400, li_512, li_1000, li_2457, li_4000, nI_add, nI_1, nI_mul, nI_sub, shl_1, shl_1b, nI_leP, nI_ltP, nI_eqP, Nat.not_le, Nat.not_lt] at c_15
              refine Ok.bd _ (gX7_blame hG_13) ?_
              rintro v30 t31 ⟨hG_16, hbv30, hxv30⟩
              refine Ok.ite (fun c_17 => ?_) (fun c_17 => ?_)
              · try simp (disch := omega) only [li_0, li_1, li_2, li_3, li_4, li_5, li_6, li_7, li_8, li_9, li_10, li_20, li_30, li_82, li_91, li_273, li_380, li_400, li_512, li_1000, li_2457, li_4000, nI_add, nI_1, nI_mul, nI_sub, shl_1, shl_1b, nI_leP, nI_ltP, nI_eqP, Nat.not_le, Nat.not_lt] at c_17
                exact Ok.ret ⟨hG_16, ⟨(by first | rfl | assumption | decide), (by first | exact True.intro | exact Or.inl rfl | exact Or.inr (by first | assumption | exact ⟨_, by omega, rfl⟩ | exact ⟨⟨_, by omega, rfl⟩, ⟨_, by omega, rfl⟩⟩))⟩⟩
              · try simp (disch := omega) only [li_0, li_1, li_2, li_3, li_4, li_5, li_6, li_7, li_8, li_9, li_10, li_20, li_30, li_82, li_91, li_273, li_380, li_400, li_512, li_1000, li_2457, li_4000, nI_add, nI_1, nI_mul, nI_sub, shl_1, shl_1b, nI_leP, nI_ltP, nI_eqP, Nat.not_le, Nat.not_lt] at c_17
                exact Ok.ret ⟨hG_16, ⟨(by first | rfl | assumption | decide), (by first | exact True.intro | exact Or.inl rfl | exact Or.inr (by first | assumption | exact ⟨_, by omega, rfl⟩ | exact ⟨⟨_, by omega, rfl⟩, ⟨_, by omega, rfl⟩⟩))⟩⟩
      · try simp (disch := omega) only [li_0, li_1, li_2, li_3, li_4, li_5, li_6, li_7, li_8, li_9, li_10, li_20, li_30, li_82, li_91, li_273, li_380, li_400, li_512, li_1000, li_2457, li_4000, nI_add, nI_1, nI_mul, nI_sub, shl_1, shl_1b, nI_leP, nI_ltP, nI_eqP, Nat.not_le, Nat.not_lt] at c_7
        refine Ok.bd _ (gX7_blame hG_6) ?_
        rintro v41 t42 ⟨hG_18, hbv41, hxv41⟩
        refine Ok.ck (by first | rfl | assumption | decide) (fun g_19 => ?_)
        exact Ok.ret ⟨hG_18, ⟨(by first | rfl | assumption | decide), (by first | exact True.intro | exact Or.inl rfl | exact Or.inr (by first | assumption | exact ⟨_, by omega, rfl⟩ | exact ⟨⟨_, by omega, rfl⟩, ⟨_, by omega, rfl⟩⟩))⟩⟩
set_option maxHeartbeats 4000000 in
set_option maxRecDepth 100000 in
theorem gX7_readAll {σ t : St} (hG : GC σ t) : Ok (FX7_readAll t) (fun r u => GC σ u ∧ (isb r = true ∧ (True))) := by
  unfold FX7_readAll
  refine Ok.wr (fun t1 w_1 => ?_)
  have hG_2 := hG.wrU w_1 (by omega) (by decide +kernel)
  refine Ok.wr (fun t3 w_3 => ?_)
  have hG_4 := hG_2.wrU w_3 (by omega) (by decide +kernel)
  refine Ok.wr (fun t5 w_5 => ?_)
  have hG_6 := hG_4.wrU w_5 (by omega) (by decide +kernel)
  refine Ok.bd _ (gX7_step hG_6) ?_
  rintro _ t8 ⟨hG_7, hxv7⟩
  refine Ok.bd _ (gX7_readHead hG_7) ?_
  rintro v10 t11 ⟨hG_8, hbv10, hxv10⟩
  refine Ok.ite (fun c_9 => ?_) (fun c_9 => ?_)
  · try simp (disch := omega) only [li_0, li_1, li_2, li_3, li_4, li_5, li_6, li_7, li_8, li_9, li_10, li_20, li_30, li_82, li_91, li_273, li_380, li_400, li_512, li_1000, li_2457, li_4000, nI_add, nI_1, nI_mul, nI_sub, shl_1, shl_1b, nI_leP, nI_ltP, nI_eqP, Nat.not_le, Nat.not_lt] at c_9
    exact Ok.ret ⟨hG_8, ⟨(by first | rfl | assumption | decide), (by first | exact True.intro | exact Or.inl rfl | exact Or.inr (by first | assumption | exact ⟨_, by omega, rfl⟩ | exact ⟨⟨_, by omega, rfl⟩, ⟨_, by omega, rfl⟩⟩))⟩⟩
  · try simp (disch := omega) only [li_0, li_1, li_2, li_3, li_4, li_5, li_6, li_7, li_8, li_9, li_10, li_20, li_30, li_82, li_91, li_273, li_380, li_400, li_512, li_1000, li_2457, li_4000, nI_add, nI_1, nI_mul, nI_sub, shl_1, shl_1b, nI_leP, nI_ltP, nI_eqP, Nat.not_le, Nat.not_lt] at c_9
    refine Ok.bd _ (gX7_readLines hG_8) ?_
    rintro v15 t16 ⟨hG_10, hbv15, hxv15⟩
    refine Ok.ite (fun c_11 => ?_) (fun c_11 => ?_)
    · try simp (disch := omega) only [li_0, li_1, li_2, li_3, li_4, li_5, li_6, li_7, li_8, li_9, li_10, li_20, li_30, li_82, li_91, li_273, li_380, li_400, li_512, li_1000, li_2457, li_4000, nI_add, nI_1, nI_mul, nI_sub, shl_1, shl_1b, nI_leP, nI_ltP, nI_eqP, Nat.not_le, Nat.not_lt] at c_11
      exact Ok.ret ⟨hG_10, ⟨(by first | rfl | assumption | decide), (by first | exact True.intro | exact Or.inl rfl | exact Or.inr (by first | assumption | exact ⟨_, by omega, rfl⟩ | exact ⟨⟨_, by omega, rfl⟩, ⟨_, by omega, rfl⟩⟩))⟩⟩
    · try simp (disch := omega) only [li_0, li_1, li_2, li_3, li_4, li_5, li_6, li_7, li_8, li_9, li_10, li_20, li_30, li_82, li_91, li_273, li_380, li_400, li_512, li_1000, li_2457, li_4000, nI_add, nI_1, nI_mul, nI_sub, shl_1, shl_1b, nI_leP, nI_ltP, nI_eqP, Nat.not_le, Nat.not_lt] at c_11
      refine Ok.bd _ (gX7_readRow hG_10) ?_
      rintro v20 t21 ⟨hG_12, hbv20, hxv20⟩
      refine Ok.ite (fun c_13 => ?_) (fun c_13 => ?_)
      · try simp (disch := omega) only [li_0, li_1, li_2, li_3, li_4, li_5, li_6, li_7, li_8, li_9, li_10, li_20, li_30, li_82, li_91, li_273, li_380, li_400, li_512, li_1000, li_2457, li_4000, nI_add, nI_1, nI_mul, nI_sub, shl_1, shl_1b, nI_leP, nI_ltP, nI_eqP, Nat.not_le, Nat.not_lt] at c_13
        exact Ok.ret ⟨hG_12, ⟨(by first | rfl | assumption | decide), (by first | exact True.intro | exact Or.inl rfl | exact Or.inr (by first | assumption | exact ⟨_, by omega, rfl⟩ | exact ⟨⟨_, by omega, rfl⟩, ⟨_, by omega, rfl⟩⟩))⟩⟩
      · try simp (disch := omega) only [li_0, li_1, li_2, li_3, li_4, li_5, li_6, li_7, li_8, li_9, li_10, li_20, li_30, li_82, li_91, li_273, li_380, li_400, li_512, li_1000, li_2457, li_4000, nI_add, nI_1, nI_mul, nI_sub, shl_1, shl_1b, nI_leP, nI_ltP, nI_eqP, Nat.not_le, Nat.not_lt] at c_13
        exact Ok.ret ⟨hG_12, ⟨(by first | rfl | assumption | decide), (by first | exact True.intro | exact Or.inl rfl | exact Or.inr (by first | assumption | exact ⟨_, by omega, rfl⟩ | exact ⟨⟨_, by omega, rfl⟩, ⟨_, by omega, rfl⟩⟩))⟩⟩
end
section
/-! prices are small; greedy rows (wip/ext/g27.py) -/
theorem and63 (x : Int32) : IsR 64 (x &&& 63) := by
  obtain ⟨j, hj, e⟩ := pk_andE x (m := 63) 6 (by decide)
  exact ⟨j, hj, e⟩
theorem bJ6_bitCount {t : St} {a : Int32} : Ok (FJ6_bitCount_0f7a4 a t) (fun r u => t = u ∧ IsR 64 r) := by
  unfold FJ6_bitCount_0f7a4
  exact Ok.ret ⟨rfl, and63 _⟩
theorem bX6_gateSize {t : St} (hT : TY t) {x : Nat} (g_x : netAt x = true) {a : Int32} : Ok (FX6_gateSize x a t) (fun r u => t = u ∧ IsR 64 r) := by
  unfold FX6_gateSize
  refine Ok.ck g_x (fun _ => ?_)
  refine Ok.bd _ (rX6_withLineInto hT g_x) ?_
  rintro v _ ⟨rfl, -⟩
  refine Ok.bd _ bJ6_bitCount ?_
  rintro v _ ⟨rfl, h⟩
  exact Ok.ret ⟨rfl, h⟩
theorem bX6_fringeSize {t : St} (hT : TY t) {x : Nat} (g_x : netAt x = true) {a : Int32} : Ok (FX6_fringeSize x a t) (fun r u => t = u ∧ IsR 64 r) := by
  unfold FX6_fringeSize
  refine Ok.ck g_x (fun _ => ?_)
  refine Ok.bd _ (rX6_withLineInto hT g_x) ?_
  rintro v _ ⟨rfl, -⟩
  refine Ok.bd _ bJ6_bitCount ?_
  rintro v _ ⟨rfl, h⟩
  exact Ok.ret ⟨rfl, h⟩
theorem bX6_cutWeight {t : St} (hT : TY t) {x : Nat} (g_x : netAt x = true) {a : Int32} : Ok (FX6_cutWeight x a t) (fun r u => t = u ∧ IsR 1000 r) := by
  unfold FX6_cutWeight
  refine Ok.ck g_x (fun _ => ?_)
  refine Ok.bd (fun r u => t = u ∧ IsR 1000 r) ?_ (fun _ _ h => Ok.ret h)
  refine Ok.loop (fun k c s => t = s ∧ ∃ w j, c = (nI w, nI j) ∧ w ≤ 81 * j ∧ j ≤ 9 ∧ k = 9 - j) ?_ 9 _ _ ⟨rfl, 0, 0, rfl, by omega, by omega, rfl⟩
  intro k c s hI
  obtain ⟨rfl, w, j, rfl, hw, hj, rfl⟩ := hI
  unfold SX6_cutWeight_4
  dsimp only
  refine Ok.rdT hT (ty_n0 g_x) (by omega) (fun n hn en => ?_)
  refine Ok.ite (fun _ => Ok.ret ⟨rfl, w, by omega, rfl⟩) (fun c1 => ?_)
  rw [nI_leP (by omega) (by omega)] at c1
  refine Ok.ck (inb_n (by omega) (by omega)) (fun g1 => ?_)
  refine Ok.rd (fun v5 h5 => ?_)
  refine Ok.bd (fun v u => t = u ∧ ∃ w', v = nI w' ∧ w' ≤ 81 * (j + 1)) ?_ ?_
  · refine Ok.ite (fun _ => Ok.ret ⟨rfl, w, rfl, by omega⟩) (fun _ => ?_)
    refine Ok.ite (fun _ => Ok.ret ⟨rfl, w, rfl, by omega⟩) (fun _ => ?_)
    refine Ok.bd (fun v u => t = u ∧ ∃ w', v = nI w' ∧ w' ≤ 81 * (j + 1)) ?_ (fun _ _ h => Ok.ret h)
    refine Ok.loop (fun k c s => t = s ∧ ∃ w' i, c = (nI w', nI i) ∧ w' ≤ 81 * j + 9 * i ∧ i ≤ 9 ∧ k = 9 - i) ?_ 9 _ _ ⟨rfl, w, 0, rfl, by omega, by omega, rfl⟩
    intro k c s hI
    obtain ⟨rfl, w', i, rfl, hw', hi, rfl⟩ := hI
    unfold SX6_cutWeight_43
    dsimp only
    refine Ok.rdT hT (ty_n0 g_x) (by omega) (fun n2 hn2 en2 => ?_)
    refine Ok.ite (fun _ => Ok.ret ⟨rfl, w', rfl, by omega⟩) (fun c2 => ?_)
    rw [nI_leP (by omega) (by omega)] at c2
    refine Ok.bd (fun v u => t = u ∧ ∃ w2, v = nI w2 ∧ w2 ≤ 81 * j + 9 * (i + 1)) ?_ ?_
    · refine Ok.ite (fun _ => Ok.ret ⟨rfl, w', rfl, by omega⟩) (fun _ => ?_)
      refine Ok.bd _ (rX5_weightOf hT g_x ⟨j, by omega, rfl⟩ ⟨i, by omega, rfl⟩) ?_
      rintro _ _ ⟨rfl, q, hq, rfl⟩
      exact Ok.ret ⟨rfl, w' + q, nI_add w' q, by omega⟩
    · rintro _ _ ⟨rfl, w2, rfl, h2⟩
      exact Ok.ret ⟨9 - (i + 1), by omega, rfl, w2, i + 1, by rw [nI_1], h2, by omega, rfl⟩
  · rintro _ _ ⟨rfl, w2, rfl, h2⟩
    exact Ok.ret ⟨9 - (j + 1), by omega, rfl, w2, j + 1, by rw [nI_1], h2, by omega, rfl⟩
theorem bX6_newLines {t : St} (hT : TY t) {x : Nat} (g_x : netAt x = true) {a b : Int32} (h_b : IsR 9 b) : Ok (FX6_newLines x a b t) (fun r u => t = u ∧ IsR 1000 r) := by
  unfold FX6_newLines
  refine Ok.ck g_x (fun _ => ?_)
  refine Ok.bd _ (rX6_neighbours hT g_x h_b) ?_
  rintro v _ ⟨rfl, -⟩
  refine Ok.bd (fun r u => t = u ∧ IsR 1000 r) ?_ (fun _ _ h => Ok.ret h)
  refine Ok.loop (fun k c s => t = s ∧ ∃ w j, c = (nI w, nI j) ∧ w ≤ 64 * j ∧ j ≤ 9 ∧ k = 9 - j) ?_ 9 _ _ ⟨rfl, 0, 0, rfl, by omega, by omega, rfl⟩
  intro k c s hI
  obtain ⟨rfl, w, j, rfl, hw, hj, rfl⟩ := hI
  unfold SX6_newLines_13
  dsimp only
  refine Ok.rdT hT (ty_n0 g_x) (by omega) (fun n hn en => ?_)
  refine Ok.ite (fun _ => Ok.ret ⟨rfl, w, by omega, rfl⟩) (fun c1 => ?_)
  rw [nI_leP (by omega) (by omega)] at c1
  refine Ok.bd (fun v u => t = u) ?_ ?_
  · refine Ok.ite (fun _ => Ok.ret rfl) (fun _ => ?_)
    refine Ok.bd _ (rX6_aboveOf hT) ?_
    rintro v _ ⟨rfl, -⟩
    exact Ok.ret rfl
  · rintro v8 _ rfl
    refine Ok.bd (fun v u => t = u ∧ ∃ w2, v = nI w2 ∧ w2 ≤ 64 * (j + 1)) ?_ ?_
    · refine Ok.ite (fun _ => Ok.ret ⟨rfl, w, rfl, by omega⟩) (fun _ => ?_)
      refine Ok.bd _ (rX6_neighbours hT g_x ⟨j, by omega, rfl⟩) ?_
      rintro v _ ⟨rfl, -⟩
      refine Ok.bd _ bJ6_bitCount ?_
      rintro _ _ ⟨rfl, q, hq, rfl⟩
      exact Ok.ret ⟨rfl, w + q, nI_add w q, by omega⟩
    · rintro _ _ ⟨rfl, w2, rfl, h2⟩
      exact Ok.ret ⟨9 - (j + 1), by omega, rfl, w2, j + 1, by rw [nI_1], h2, by omega, rfl⟩
theorem bX6_of {t : St} (hT : TY t) {x : Nat} (g_x : netAt x = true) {a b c : Int32} (h_c : IsR 9 c) : Ok (FX6_of x a b c t) (fun r u => t = u ∧ IsR 1000 r) := by
  unfold FX6_of
  refine Ok.ck g_x (fun _ => ?_)
  refine Ok.ite (fun _ => ?_) (fun _ => Ok.ite (fun _ => ?_) (fun _ => Ok.ite (fun _ => ?_) (fun _ => Ok.ite (fun _ => ?_) (fun _ => ?_))))
  · refine Ok.bd _ (bX6_gateSize hT g_x) ?_
    rintro v _ ⟨rfl, h⟩
    exact Ok.ret ⟨rfl, h.up (by omega)⟩
  · refine Ok.bd _ (bX6_fringeSize hT g_x) ?_
    rintro v _ ⟨rfl, h⟩
    exact Ok.ret ⟨rfl, h.up (by omega)⟩
  · refine Ok.bd _ (rX6_neighbours hT g_x h_c) ?_
    rintro v _ ⟨rfl, -⟩
    refine Ok.bd _ bJ6_bitCount ?_
    rintro v _ ⟨rfl, h⟩
    exact Ok.ret ⟨rfl, h.up (by omega)⟩
  · refine Ok.bd _ (bX6_newLines hT g_x h_c) ?_
    rintro v _ ⟨rfl, h⟩
    exact Ok.ret ⟨rfl, h⟩
  · refine Ok.bd _ (bX6_cutWeight hT g_x) ?_
    rintro v _ ⟨rfl, h⟩
    exact Ok.ret ⟨rfl, h⟩
/-- how many bits below n -/
def cnt (S : Nat) : Nat → Nat
  | 0 => 0
  | n + 1 => cnt S n + (S.testBit n).toNat
theorem cnt_all {S : Nat} : ∀ {n : Nat}, (∀ p, p < n → S.testBit p = true) → cnt S n = n
  | 0, _ => rfl
  | n + 1, h => by
    rw [cnt, cnt_all (fun p hp => h p (by omega)), h n (by omega)]
    rfl
theorem cnt_or {S q : Nat} (hs : S.testBit q = false) : ∀ {n : Nat}, cnt (S ||| 2 ^ q) n = cnt S n + (if q < n then 1 else 0)
  | 0 => rfl
  | n + 1 => by
    rw [cnt, cnt, cnt_or hs, Nat.testBit_or, Nat.testBit_two_pow]
    by_cases h1 : q = n
    · subst h1
      rw [hs, if_neg (by omega), if_pos (by omega)]
      simp
    · by_cases h2 : q < n
      · rw [if_pos h2, if_pos (by omega)]
        simp [h1]
        omega
      · rw [if_neg h2, if_neg (by omega)]
        simp [h1]
theorem bit_off {S j : Nat} (hS : S < 512) (hj : j < 9) : (shr (nI S) (nI j) &&& 1 = 0) = (S.testBit j = false) := by
  rw [bit_n (by omega) (by omega), li_0, nI_eqP (by cases S.testBit j <;> decide) (by decide)]
  cases S.testBit j <;> simp
theorem gX8_makeGreedy {σ t : St} (hG : GC σ t) {x : Nat} (g_x : netAt x = true) {a : Int32} : Ok (FX8_makeGreedy x a t) (fun r u => GC σ u ∧ True) := by
  have hp := net_pl g_x
  unfold FX8_makeGreedy
  refine Ok.ck g_x (fun _ => ?_)
  obtain ⟨n, hn, en⟩ := hG.tt.rd (ty_n0 g_x) (by omega)
  refine Ok.bd (fun r u => GC σ u ∧ True) ?_ (fun _ _ h => Ok.ret h)
  refine Ok.loop (fun k c s => (GC σ s ∧ s x 0 = nI n) ∧ ∃ S i, c = (nI S, nI i) ∧ S < 512 ∧ cnt S n = i ∧ i ≤ n ∧ k = 9 - i) ?_ 9 _ _ ⟨⟨hG, en⟩, 0, 0, rfl, by omega, ?_, by omega, rfl⟩
  · clear hG en
    intro k c s hI
    obtain ⟨⟨hG, en⟩, S, i, rfl, hS, hc, hi, rfl⟩ := hI
    unfold SX8_makeGreedy_4
    dsimp only
    refine Ok.rd (fun v1 h1 => ?_)
    rw [en] at h1
    subst h1
    refine Ok.ite (fun _ => Ok.ret ⟨hG, True.intro⟩) (fun c1 => ?_)
    rw [nI_leP (by omega) (by omega)] at c1
    refine Ok.bd (fun v u => s = u ∧ ∃ q, q < n ∧ v = nI q ∧ S.testBit q = false) ?_ ?_
    · refine Ok.loop (fun k c u => s = u ∧ ∃ j, c.2.2 = nI j ∧ j ≤ n ∧ k = 9 - j ∧ ((c.1 = -1 ∧ c.2.1 = 1048576 ∧ ∀ p, p < j → S.testBit p = true) ∨ ∃ q, q < n ∧ c.1 = nI q ∧ S.testBit q = false)) ?_ 9 _ _ ⟨rfl, 0, rfl, by omega, rfl, Or.inl ⟨rfl, rfl, fun p hp => absurd hp (by omega)⟩⟩
      intro k c u hI
      obtain ⟨rfl, j, ej, hj, rfl, hd⟩ := hI
      obtain ⟨c0, c1', c2⟩ := c
      dsimp only at ej hd
      subst ej
      unfold SX8_makeGreedy_22
      dsimp only
      refine Ok.rd (fun v4 h4 => ?_)
      rw [en] at h4
      subst h4
      refine Ok.ite (fun c3 => ?_) (fun c3 => ?_)
      · rw [nI_leP (by omega) (by omega)] at c3
        refine Ok.ret ⟨rfl, ?_⟩
        rcases hd with ⟨-, -, hall⟩ | h
        · have := cnt_all (S := S) (n := n) (fun p hp => hall p (by omega))
          omega
        · exact h
      · rw [nI_leP (by omega) (by omega)] at c3
        refine Ok.bd (fun v u => s = u ∧ ((v.1 = -1 ∧ v.2 = 1048576 ∧ ∀ p, p < j + 1 → S.testBit p = true) ∨ ∃ q, q < n ∧ v.1 = nI q ∧ S.testBit q = false)) ?_ ?_
        · refine Ok.ite (fun c4 => ?_) (fun c4 => ?_)
          · rw [bit_off hS (by omega)] at c4
            refine Ok.bd _ (rX6_aheadAtStep hG.tt) ?_
            rintro v12 _ ⟨rfl, -⟩
            refine Ok.bd _ (bX6_of hG.tt g_x ⟨j, by omega, rfl⟩) ?_
            rintro _ _ ⟨rfl, m, hm, rfl⟩
            refine Ok.ite (fun c5 => ?_) (fun c5 => Ok.ret ⟨rfl, Or.inr ⟨j, by omega, rfl, c4⟩⟩)
            rcases hd with ⟨h1, h2, hall⟩ | h
            · rw [h2, li_1048576, nI_leP (by omega) (by omega)] at c5
              omega
            · exact Ok.ret ⟨rfl, Or.inr h⟩
          · rw [bit_off hS (by omega), Bool.not_eq_false] at c4
            refine Ok.ret ⟨rfl, ?_⟩
            rcases hd with ⟨h1, h2, hall⟩ | h
            · refine Or.inl ⟨h1, h2, fun p hp => ?_⟩
              by_cases e : p = j
              · rw [e]; exact c4
              · exact hall p (by omega)
            · exact Or.inr h
        · rintro v _ ⟨rfl, hv⟩
          exact Ok.ret ⟨9 - (j + 1), by omega, rfl, j + 1, nI_1 j, by omega, rfl, hv⟩
    · rintro _ _ ⟨rfl, q, hq, rfl, hb⟩
      refine Ok.ck (inb_n (by omega) (by omega)) (fun g2 => ?_)
      refine Ok.wr (fun w ew => ?_)
      refine Ok.ret ⟨9 - (i + 1), by omega, ⟨hG.wrT ew (by omega) (ty_od g_x (inb_lt g2)) ⟨q, by omega, rfl⟩, ?_⟩, S ||| 2 ^ q, i + 1, ?_, or9 hS (pw9 (by omega)), ?_, by omega, rfl⟩
      · rw [ew, wr_x2]
        exact en
      · rw [shl_1 (by omega), nI_or, nI_1]
      · rw [cnt_or hb, if_pos hq, hc]
  · clear hG
    have : ∀ m, cnt 0 m = 0 := by
      intro m
      induction m with
      | zero => rfl
      | succ m ih => rw [cnt, ih]; simp
    exact this n
end
