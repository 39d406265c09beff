/-! safety of the reference: what only looks (printed by wip/ext/g30.py) -/
theorem ty_a153 {i : Nat} (h : i < 400) : ty 153 i = 256 := by
  show (if i < 400 then 256 else 0) = 256
  rw [if_pos h]
theorem ty_a161 {i : Nat} (h : i < 81) : ty 161 i = 10 := by
  show (if i < 81 then 10 else 0) = 10
  rw [if_pos h]
theorem ty_m3 : ty 149 3 = 11 := by decide +kernel
theorem ty_m5 : ty 149 5 = 401 := by decide +kernel
theorem ty_m8 : ty 149 8 = 401 := by decide +kernel
theorem ty_m9 : ty 149 9 = 401 := by decide +kernel
theorem ty_m12 : ty 149 12 = 2 := by decide +kernel
theorem ty_m17 : ty 149 17 = 512 := by decide +kernel
theorem ty_m25 : ty 149 25 = 401 := by decide +kernel
theorem ty_a154 {i : Nat} (h : i < 9) : ty 154 i = 9 := by
  show (if i < 9 then 9 else 0) = 9
  rw [if_pos h]
theorem ty_a158 {i : Nat} (h : i < 9) : ty 158 i = 9 := by
  show (if i < 9 then 9 else 0) = 9
  rw [if_pos h]
theorem ty_a159 {i : Nat} (h : i < 9) : ty 159 i = 9 := by
  show (if i < 9 then 9 else 0) = 9
  rw [if_pos h]
theorem ty_u155 {i : Nat} : ty 155 i = 0 := rfl
theorem ty_u156 {i : Nat} : ty 156 i = 0 := rfl
theorem ty_u157 {i : Nat} : ty 157 i = 0 := rfl
theorem ty_u160 {i : Nat} : ty 160 i = 0 := rfl
theorem ty_u162 {i : Nat} : ty 162 i = 0 := rfl
theorem ty_st {i : Nat} (h : i < 273) : ty 150 i = if 82 ≤ i % 91 then 9 else 10 := by
  show (if i < 273 then (if 82 ≤ i % 91 then 9 else 10) else 0) = _
  rw [if_pos h]
theorem ty_p {s : Nat} (h : s < 3) : ty 150 (91 * s) = 10 := by rw [ty_st (by omega), if_neg (by omega)]
theorem ty_w {s p q : Nat} (h : s < 3) (hp : p < 9) (hq : q < 9) : ty 150 (91 * s + 1 + 9 * p + q) = 10 := by
  have e : (91 * s + 1 + 9 * p + q) % 91 = 1 + 9 * p + q := by
    rw [show 91 * s + 1 + 9 * p + q = 91 * s + (1 + 9 * p + q) by omega, Nat.mul_add_mod, Nat.mod_eq_of_lt (by omega)]
  rw [ty_st (by omega), e, if_neg (by omega)]
theorem ty_o {s i : Nat} (h : s < 3) (hi : i < 9) : ty 150 (91 * s + 82 + i) = 9 := by rw [ty_st (by omega), if_pos (by omega)]
theorem lgN (x y : Int64) : lg_cmp x y < 0 ↔ x < y := by
  unfold lg_cmp
  by_cases h1 : y < x
  · have h2 : ¬ x < y := fun h => by rw [Int64.lt_iff_toInt_lt] at h h1; omega
    rw [if_pos h1]
    exact ⟨fun h => absurd h (by decide), fun h => absurd h h2⟩
  · by_cases h2 : x = y
    · subst h2
      rw [if_neg h1, if_pos rfl]
      exact ⟨fun h => absurd h (by decide), fun h => absurd h h1⟩
    · rw [if_neg h1, if_neg h2]
      refine ⟨fun _ => ?_, fun _ => by decide⟩
      have h3 : x.toInt ≠ y.toInt := fun e => h2 (Int64.toInt_inj.mp e)
      rw [Int64.lt_iff_toInt_lt] at h1 ⊢
      omega
theorem lgP (x y : Int64) : 0 < lg_cmp x y ↔ y < x := by
  unfold lg_cmp
  by_cases h1 : y < x
  · rw [if_pos h1]
    exact ⟨fun _ => h1, fun _ => by decide⟩
  · by_cases h2 : x = y
    · rw [if_neg h1, if_pos h2]
      exact ⟨fun h => absurd h (by decide), fun h => absurd h h1⟩
    · rw [if_neg h1, if_neg h2]
      exact ⟨fun h => absurd h (by decide), fun h => absurd h h1⟩
/-- in(v, low, high), exactly -/
theorem rX12_in {t : St} (hT : TY t) {a b c : Int64} : Ok (FX12_in a b c t) (fun r u => t = u ∧ (isb r = true ∧ (r = 0 ∨ (b.toInt ≤ a.toInt ∧ a.toInt ≤ c.toInt)))) := by
  unfold FX12_in
  refine Ok.ite (fun _ => Ok.ret ⟨rfl, rfl, Or.inl rfl⟩) (fun c1 => Ok.ite (fun _ => Ok.ret ⟨rfl, rfl, Or.inl rfl⟩) (fun c2 => Ok.ret ⟨rfl, rfl, Or.inr ?_⟩))
  rw [lgN, Int64.lt_iff_toInt_lt] at c1
  rw [lgP, Int64.lt_iff_toInt_lt] at c2
  omega
theorem in_R {a : Int32} {b c : Int64} {m : Nat} (h : b.toInt ≤ a.toInt64.toInt ∧ a.toInt64.toInt ≤ c.toInt) (hb : 0 ≤ b.toInt) (hc : c.toInt < m) : IsR m a := by
  rw [Int32.toInt_toInt64] at h
  have h0 : ¬ a < 0 := fun q => by
    rw [Int32.lt_iff_toInt_lt] at q
    have : (0 : Int32).toInt = 0 := by decide
    omega
  obtain ⟨j, hj, rfl⟩ := nI_of h0
  rw [nI_toInt hj] at h
  exact ⟨j, by omega, rfl⟩
theorem rX12_isSlot {t : St} (hT : TY t) {a : Int32} : Ok (FX12_isSlot a t) (fun r u => t = u ∧ (isb r = true ∧ (r = 0 ∨ IsR 3 a))) := by
  unfold FX12_isSlot
  refine Ok.bd _ (rX12_in hT) ?_
  rintro v _ ⟨rfl, hb, hv⟩
  exact Ok.ck hb (fun _ => Ok.ret ⟨rfl, hb, hv.imp id (fun q => in_R q (by decide) (by decide))⟩)
theorem rX12_isMeasure {t : St} (hT : TY t) {a : Int32} : Ok (FX12_isMeasure a t) (fun r u => t = u ∧ (isb r = true ∧ (r = 0 ∨ IsR 7 a))) := by
  unfold FX12_isMeasure
  refine Ok.bd _ (rX12_in hT) ?_
  rintro v _ ⟨rfl, hb, hv⟩
  exact Ok.ck hb (fun _ => Ok.ret ⟨rfl, hb, hv.imp id (fun q => in_R q (by decide) (by decide))⟩)
theorem xX12_points {t : St} (hT : TY t) {s : Nat} (hs : s < 3) : Ok (FX12_points (nI s) t) (fun r u => t = u ∧ r = t 150 (91 * s)) := by
  unfold FX12_points
  have e : (91 : Int32) * nI s = nI (91 * s) := by rw [li_91, nI_mul]
  rw [e]
  refine Ok.ck (inb_n (by omega) (by omega)) (fun g => ?_)
  refine Ok.rd (fun v hv => ?_)
  rw [nI_cl (by omega)] at hv
  exact Ok.ret ⟨rfl, hv⟩
theorem rX12_points {t : St} (hT : TY t) {a : Int32} (h_a : IsR 3 a) : Ok (FX12_points a t) (fun r u => t = u ∧ IsR 10 r) := by
  obtain ⟨s, hs, rfl⟩ := h_a
  refine Ok.mono (xX12_points hT hs) ?_
  rintro _ _ ⟨rfl, rfl⟩
  exact ⟨rfl, hT.rd (ty_p hs) (by omega)⟩
/-- a point of a slot -/
def PtIn (t : St) (a b : Int32) : Prop := ∃ n, t 150 (91 * a.toNatClampNeg) = nI n ∧ n < 10 ∧ b.toNatClampNeg < n
theorem rX12_isNet {t : St} (hT : TY t) {a : Int32} : Ok (FX12_isNet a t) (fun r u => t = u ∧ (isb r = true ∧ (r = 0 ∨ (IsR 3 a ∧ PtIn t a 0)))) := by
  unfold FX12_isNet
  refine Ok.bd _ (rX12_isSlot hT) ?_
  rintro v _ ⟨rfl, hb, hv⟩
  refine Ok.ite (fun _ => Ok.ret ⟨rfl, rfl, Or.inl rfl⟩) (fun c => ?_)
  obtain ⟨s, hs, rfl⟩ := hv.resolve_left c
  refine Ok.bd _ (xX12_points hT hs) ?_
  rintro _ _ ⟨rfl, rfl⟩
  obtain ⟨n, hn, en⟩ := hT.rd (ty_p hs) (by omega)
  rw [en]
  refine Ok.ite (fun _ => Ok.ret ⟨rfl, rfl, Or.inl rfl⟩) (fun c2 => ?_)
  rw [li_0, nI_leP (by omega) (by omega)] at c2
  refine Ok.ret ⟨rfl, rfl, Or.inr ⟨⟨s, hs, rfl⟩, n, ?_, hn, ?_⟩⟩
  · rw [nI_cl (by omega)]; exact en
  · have : (0 : Int32).toNatClampNeg = 0 := by decide
    omega
theorem rX12_isPoint {t : St} (hT : TY t) {a b : Int32} : Ok (FX12_isPoint a b t) (fun r u => t = u ∧ (isb r = true ∧ (r = 0 ∨ (IsR 3 a ∧ IsR 9 b ∧ PtIn t a b)))) := by
  unfold FX12_isPoint
  refine Ok.bd _ (rX12_isNet hT) ?_
  rintro v _ ⟨rfl, hb, hv⟩
  refine Ok.ite (fun _ => Ok.ret ⟨rfl, rfl, Or.inl rfl⟩) (fun c => ?_)
  obtain ⟨⟨s, hs, rfl⟩, -⟩ := hv.resolve_left c
  refine Ok.bd _ (xX12_points hT hs) ?_
  rintro _ _ ⟨rfl, rfl⟩
  obtain ⟨n, hn, en⟩ := hT.rd (ty_p hs) (by omega)
  rw [en]
  refine Ok.bd _ (rX12_in hT) ?_
  rintro w _ ⟨rfl, hb2, hw⟩
  refine Ok.ite (fun _ => Ok.ret ⟨rfl, rfl, Or.inl rfl⟩) (fun c2 => ?_)
  have hw := hw.resolve_left c2
  have hc : (nI n - 1).toInt64.toInt = (n : Int) - 1 := by
    rw [Int32.toInt_toInt64, show (nI n - 1 : Int32) = nI n - nI 1 from rfl, pk_sub_toInt (by omega) (by omega)]
    rfl
  have hR : IsR n b := in_R hw (by decide) (by omega)
  obtain ⟨k, hk, rfl⟩ := hR
  refine Ok.ret ⟨rfl, rfl, Or.inr ⟨⟨s, hs, rfl⟩, ⟨k, by omega, rfl⟩, n, ?_, hn, ?_⟩⟩
  · rw [nI_cl (by omega)]; exact en
  · rw [nI_cl (by omega)]; exact hk
theorem xX12_weight {t : St} (hT : TY t) {s p q : Nat} (hs : s < 3) (hp : p < 9) (hq : q < 9) : Ok (FX12_weight (nI s) (nI p) (nI q) t) (fun r u => t = u ∧ r = t 150 (91 * s + 1 + 9 * p + q)) := by
  unfold FX12_weight
  have e : (91 : Int32) * nI s + 1 + 9 * nI p + nI q = nI (91 * s + 1 + 9 * p + q) := by rw [li_91, li_1, li_9, nI_mul, nI_mul, nI_add, nI_add, nI_add]
  rw [e]
  refine Ok.ck (inb_n (by omega) (by omega)) (fun g => ?_)
  refine Ok.rd (fun v hv => ?_)
  rw [nI_cl (by omega)] at hv
  exact Ok.ret ⟨rfl, hv⟩
theorem rX12_weight {t : St} (hT : TY t) {a b c : Int32} (h_a : IsR 3 a) (h_b : IsR 9 b) (h_c : IsR 9 c) : Ok (FX12_weight a b c t) (fun r u => t = u ∧ IsR 10 r) := by
  obtain ⟨s, hs, rfl⟩ := h_a
  obtain ⟨p, hp, rfl⟩ := h_b
  obtain ⟨q, hq, rfl⟩ := h_c
  refine Ok.mono (xX12_weight hT hs hp hq) ?_
  rintro _ _ ⟨rfl, rfl⟩
  exact ⟨rfl, hT.rd (ty_w hs hp hq) (by omega)⟩
theorem xX12_at {t : St} (hT : TY t) {s i : Nat} (hs : s < 3) (hi : i < 9) : Ok (FX12_at (nI s) (nI i) t) (fun r u => t = u ∧ r = t 150 (91 * s + 82 + i)) := by
  unfold FX12_at
  have e : (91 : Int32) * nI s + 82 + nI i = nI (91 * s + 82 + i) := by rw [li_91, li_82, nI_mul, nI_add, nI_add]
  rw [e]
  refine Ok.ck (inb_n (by omega) (by omega)) (fun g => ?_)
  refine Ok.rd (fun v hv => ?_)
  rw [nI_cl (by omega)] at hv
  exact Ok.ret ⟨rfl, hv⟩
theorem rX12_at {t : St} (hT : TY t) {a b : Int32} (h_a : IsR 3 a) (h_b : IsR 9 b) : Ok (FX12_at a b t) (fun r u => t = u ∧ IsR 9 r) := by
  obtain ⟨s, hs, rfl⟩ := h_a
  obtain ⟨i, hi, rfl⟩ := h_b
  refine Ok.mono (xX12_at hT hs hi) ?_
  rintro _ _ ⟨rfl, rfl⟩
  exact ⟨rfl, hT.rd (ty_o hs hi) (by omega)⟩
theorem nd_dec {x : Int32} (h : ¬ x = 0) : (x &&& (x - 1)).toBitVec.toNat < x.toBitVec.toNat := by
  have h0 : x.toBitVec.toNat ≠ 0 := fun e => h (by
    apply Int32.toBitVec_inj.mp
    apply BitVec.eq_of_toNat_eq
    rw [e]; rfl)
  have h1 : (x - 1).toBitVec.toNat = x.toBitVec.toNat - 1 := by
    rw [Int32.toBitVec_sub]
    have e1 : (1 : Int32).toBitVec = 1#32 := rfl
    rw [e1, BitVec.toNat_sub]
    have hx := x.toBitVec.isLt
    have e2 : (1#32 : BitVec 32).toNat = 1 := rfl
    rw [e2]
    omega
  rw [Int32.toBitVec_and, BitVec.toNat_and, h1]
  have := Nat.and_le_right (n := x.toBitVec.toNat) (m := x.toBitVec.toNat - 1)
  omega
theorem rX12_ones {t : St} (hT : TY t) {a : Int32} : Ok (FX12_ones a t) (fun r u => t = u ∧ True) := by
  unfold FX12_ones
  refine Ok.bd (fun _ u => t = u) ?_ (fun _ _ h => Ok.ret ⟨h, True.intro⟩)
  refine Ok.loop (fun k c s => t = s ∧ k = c.2.toBitVec.toNat) ?_ _ _ _ ⟨rfl, rfl⟩
  intro k c s hI
  obtain ⟨rfl, rfl⟩ := hI
  unfold SX12_ones_4
  refine Ok.ite (fun _ => Ok.ret rfl) (fun c1 => Ok.ret ⟨_, nd_dec c1, rfl, rfl⟩)
set_option maxHeartbeats 4000000 in
set_option maxRecDepth 100000 in
theorem rX12_has {t : St} (hT : TY t) {a : Int32} {b : Int32} : Ok (FX12_has a b t) (fun r u => t = u ∧ (isb r = true ∧ (True))) := by
  unfold FX12_has
  refine Ok.ite (fun c_1 => ?_) (fun c_1 => ?_)
  · try simp (disch := omega) only [li_0, li_1, li_2, li_3, li_4, li_5, li_6, li_7, li_8, li_9, li_10, li_20, li_30, li_82, li_91, li_273, li_380, li_400, li_512, li_1000, li_2457, li_4000, nI_add, nI_1, nI_mul, nI_sub, shl_1, shl_1b, nI_leP, nI_ltP, nI_eqP, Nat.not_le, Nat.not_lt] at c_1
    exact Ok.ret ⟨rfl, ⟨(by first | rfl | assumption | decide), (by first | exact True.intro | exact Or.inl rfl | exact Or.inr (by first | assumption | exact ⟨_, by omega, rfl⟩ | exact ⟨⟨_, by omega, rfl⟩, ⟨_, by omega, rfl⟩⟩))⟩⟩
  · try simp (disch := omega) only [li_0, li_1, li_2, li_3, li_4, li_5, li_6, li_7, li_8, li_9, li_10, li_20, li_30, li_82, li_91, li_273, li_380, li_400, li_512, li_1000, li_2457, li_4000, nI_add, nI_1, nI_mul, nI_sub, shl_1, shl_1b, nI_leP, nI_ltP, nI_eqP, Nat.not_le, Nat.not_lt] at c_1
    exact Ok.ret ⟨rfl, ⟨(by first | rfl | assumption | decide), (by first | exact True.intro | exact Or.inl rfl | exact Or.inr (by first | assumption | exact ⟨_, by omega, rfl⟩ | exact ⟨⟨_, by omega, rfl⟩, ⟨_, by omega, rfl⟩⟩))⟩⟩
set_option maxHeartbeats 4000000 in
set_option maxRecDepth 100000 in
theorem rSX12_nearOf_5 {t : St} (hT : TY t) {w1 : Int32} (h_w1 : IsR 3 w1) {w2 : Int32} (h_w2 : IsR 9 w2) {a0 : Int32} {a1 : Int32} (h_a1 : IsR 5001 a1) : Ok (wh (SX12_nearOf_5 w1 w2) (a0, a1) t) (fun r u => t = u ∧ (True)) := by
  obtain ⟨j0, hj0, rfl⟩ := h_a1
  refine Ok.loop (fun k c s => t = s ∧ (∃ j, c.2 = nI j ∧ j ≤ 5000 ∧ 0 ≤ j ∧ k = 5000 - j)) ?_ (5000 - j0) _ _ ⟨rfl, ⟨j0, rfl, by omega, by omega, rfl⟩⟩
  obtain ⟨k_w1, h_w1, rfl⟩ := h_w1
  obtain ⟨k_w2, h_w2, rfl⟩ := h_w2
  clear hj0
  intro k c s hI
  obtain ⟨rfl, ⟨j, ej, hj, hlo, rfl⟩⟩ := hI
  obtain ⟨c0, c1⟩ := c
  dsimp only at ej
  subst ej
  unfold SX12_nearOf_5
  dsimp only
  refine Ok.bd _ (rX12_points hT (by first | with_reducible assumption | (simp (disch := omega) only [li_0, li_1, li_2, li_3, li_4, li_5, li_6, li_7, li_8, li_9, li_10, li_20, li_30, li_82, li_91, li_273, li_380, li_400, li_512, li_1000, li_2457, li_4000, nI_add, nI_1, nI_mul, nI_sub, shl_1, shl_1b, nI_or, nI_xor, nI_and]; with_reducible exact ⟨_, (by first | omega | exact or9 (by omega) (by omega) | exact xor9 (by omega) (by omega)), rfl⟩) | with_reducible exact ⟨_, (by first | omega | exact or9 (by omega) (by omega) | exact xor9 (by omega) (by omega)), rfl⟩ | exact IsR.mn (by first | with_reducible assumption | exact ⟨_, by omega, rfl⟩) (by first | with_reducible assumption | exact ⟨_, by omega, rfl⟩) | exact IsR.mx (by first | with_reducible assumption | exact ⟨_, by omega, rfl⟩) (by first | with_reducible assumption | exact ⟨_, by omega, rfl⟩) | with_reducible exact mn9 (by omega) | (simp (disch := omega) only [li_0, li_1, li_2, li_3, li_4, li_5, li_6, li_7, li_8, li_9, li_10, li_20, li_30, li_82, li_91, li_273, li_380, li_400, li_512, li_1000, li_2457, li_4000, nI_add, nI_1, nI_mul, nI_sub, shl_1, shl_1b]; with_reducible exact mn9b (by omega)))) ?_
  rintro _ _ ⟨rfl, kv1, hv1, rfl⟩
  refine Ok.ite (fun c_2 => ?_) (fun c_2 => ?_)
  · try simp (disch := omega) only [li_0, li_1, li_2, li_3, li_4, li_5, li_6, li_7, li_8, li_9, li_10, li_20, li_30, li_82, li_91, li_273, li_380, li_400, li_512, li_1000, li_2457, li_4000, nI_add, nI_1, nI_mul, nI_sub, shl_1, shl_1b, nI_leP, nI_ltP, nI_eqP, Nat.not_le, Nat.not_lt] at c_2
    exact Ok.ret ⟨rfl, True.intro⟩
  · try simp (disch := omega) only [li_0, li_1, li_2, li_3, li_4, li_5, li_6, li_7, li_8, li_9, li_10, li_20, li_30, li_82, li_91, li_273, li_380, li_400, li_512, li_1000, li_2457, li_4000, nI_add, nI_1, nI_mul, nI_sub, shl_1, shl_1b, nI_leP, nI_ltP, nI_eqP, Nat.not_le, Nat.not_lt] at c_2
    refine Ok.bd _ (rX12_weight hT (by first | with_reducible assumption | (simp (disch := omega) only [li_0, li_1, li_2, li_3, li_4, li_5, li_6, li_7, li_8, li_9, li_10, li_20, li_30, li_82, li_91, li_273, li_380, li_400, li_512, li_1000, li_2457, li_4000, nI_add, nI_1, nI_mul, nI_sub, shl_1, shl_1b, nI_or, nI_xor, nI_and]; with_reducible exact ⟨_, (by first | omega | exact or9 (by omega) (by omega) | exact xor9 (by omega) (by omega)), rfl⟩) | with_reducible exact ⟨_, (by first | omega | exact or9 (by omega) (by omega) | exact xor9 (by omega) (by omega)), rfl⟩ | exact IsR.mn (by first | with_reducible assumption | exact ⟨_, by omega, rfl⟩) (by first | with_reducible assumption | exact ⟨_, by omega, rfl⟩) | exact IsR.mx (by first | with_reducible assumption | exact ⟨_, by omega, rfl⟩) (by first | with_reducible assumption | exact ⟨_, by omega, rfl⟩) | with_reducible exact mn9 (by omega) | (simp (disch := omega) only [li_0, li_1, li_2, li_3, li_4, li_5, li_6, li_7, li_8, li_9, li_10, li_20, li_30, li_82, li_91, li_273, li_380, li_400, li_512, li_1000, li_2457, li_4000, nI_add, nI_1, nI_mul, nI_sub, shl_1, shl_1b]; with_reducible exact mn9b (by omega))) (by first | with_reducible assumption | (simp (disch := omega) only [li_0, li_1, li_2, li_3, li_4, li_5, li_6, li_7, li_8, li_9, li_10, li_20, li_30, li_82, li_91, li_273, li_380, li_400, li_512, li_1000, li_2457, li_4000, nI_add, nI_1, nI_mul, nI_sub, shl_1, shl_1b, nI_or, nI_xor, nI_and]; with_reducible exact ⟨_, (by first | omega | exact or9 (by omega) (by omega) | exact xor9 (by omega) (by omega)), rfl⟩) | with_reducible exact ⟨_, (by first | omega | exact or9 (by omega) (by omega) | exact xor9 (by omega) (by omega)), rfl⟩ | exact IsR.mn (by first | with_reducible assumption | exact ⟨_, by omega, rfl⟩) (by first | with_reducible assumption | exact ⟨_, by omega, rfl⟩) | exact IsR.mx (by first | with_reducible assumption | exact ⟨_, by omega, rfl⟩) (by first | with_reducible assumption | exact ⟨_, by omega, rfl⟩) | with_reducible exact mn9 (by omega) | (simp (disch := omega) only [li_0, li_1, li_2, li_3, li_4, li_5, li_6, li_7, li_8, li_9, li_10, li_20, li_30, li_82, li_91, li_273, li_380, li_400, li_512, li_1000, li_2457, li_4000, nI_add, nI_1, nI_mul, nI_sub, shl_1, shl_1b]; with_reducible exact mn9b (by omega))) (by first | with_reducible assumption | (simp (disch := omega) only [li_0, li_1, li_2, li_3, li_4, li_5, li_6, li_7, li_8, li_9, li_10, li_20, li_30, li_82, li_91, li_273, li_380, li_400, li_512, li_1000, li_2457, li_4000, nI_add, nI_1, nI_mul, nI_sub, shl_1, shl_1b, nI_or, nI_xor, nI_and]; with_reducible exact ⟨_, (by first | omega | exact or9 (by omega) (by omega) | exact xor9 (by omega) (by omega)), rfl⟩) | with_reducible exact ⟨_, (by first | omega | exact or9 (by omega) (by omega) | exact xor9 (by omega) (by omega)), rfl⟩ | exact IsR.mn (by first | with_reducible assumption | exact ⟨_, by omega, rfl⟩) (by first | with_reducible assumption | exact ⟨_, by omega, rfl⟩) | exact IsR.mx (by first | with_reducible assumption | exact ⟨_, by omega, rfl⟩) (by first | with_reducible assumption | exact ⟨_, by omega, rfl⟩) | with_reducible exact mn9 (by omega) | (simp (disch := omega) only [li_0, li_1, li_2, li_3, li_4, li_5, li_6, li_7, li_8, li_9, li_10, li_20, li_30, li_82, li_91, li_273, li_380, li_400, li_512, li_1000, li_2457, li_4000, nI_add, nI_1, nI_mul, nI_sub, shl_1, shl_1b]; with_reducible exact mn9b (by omega)))) ?_
    rintro _ _ ⟨rfl, kv5, hv5, rfl⟩
    refine Ok.bd (fun (v9 : Int32) t10 => t = t10 ∧ (True)) ?_ ?_
    · refine Ok.ite (fun c_4 => ?_) (fun c_4 => ?_)
      · try simp (disch := omega) only [li_0, li_1, li_2, li_3, li_4, li_5, li_6, li_7, li_8, li_9, li_10, li_20, li_30, li_82, li_91, li_273, li_380, li_400, li_512, li_1000, li_2457, li_4000, nI_add, nI_1, nI_mul, nI_sub, shl_1, shl_1b, nI_leP, nI_ltP, nI_eqP, Nat.not_le, Nat.not_lt] at c_4
        exact Ok.ret ⟨rfl, True.intro⟩
      · try simp (disch := omega) only [li_0, li_1, li_2, li_3, li_4, li_5, li_6, li_7, li_8, li_9, li_10, li_20, li_30, li_82, li_91, li_273, li_380, li_400, li_512, li_1000, li_2457, li_4000, nI_add, nI_1, nI_mul, nI_sub, shl_1, shl_1b, nI_leP, nI_ltP, nI_eqP, Nat.not_le, Nat.not_lt] at c_4
        exact Ok.ret ⟨rfl, True.intro⟩
    · intro v9 t10 hx
      obtain ⟨rfl, hxv9⟩ := hx
      exact Ok.ret ⟨5000 - (j + 1), by omega, rfl, ⟨j + 1, nI_1 j, by omega, by omega, rfl⟩⟩
set_option maxHeartbeats 4000000 in
set_option maxRecDepth 100000 in
theorem rX12_nearOf {t : St} (hT : TY t) {a : Int32} (h_a : IsR 3 a) {b : Int32} (h_b : IsR 9 b) : Ok (FX12_nearOf a b t) (fun r u => t = u ∧ (True)) := by
  obtain ⟨k_a, h_a, rfl⟩ := h_a
  obtain ⟨k_b, h_b, rfl⟩ := h_b
  unfold FX12_nearOf
  refine Ok.bd _ (rSX12_nearOf_5 hT (by first | with_reducible assumption | (simp (disch := omega) only [li_0, li_1, li_2, li_3, li_4, li_5, li_6, li_7, li_8, li_9, li_10, li_20, li_30, li_82, li_91, li_273, li_380, li_400, li_512, li_1000, li_2457, li_4000, nI_add, nI_1, nI_mul, nI_sub, shl_1, shl_1b, nI_or, nI_xor, nI_and]; with_reducible exact ⟨_, (by first | omega | exact or9 (by omega) (by omega) | exact xor9 (by omega) (by omega)), rfl⟩) | with_reducible exact ⟨_, (by first | omega | exact or9 (by omega) (by omega) | exact xor9 (by omega) (by omega)), rfl⟩ | exact IsR.mn (by first | with_reducible assumption | exact ⟨_, by omega, rfl⟩) (by first | with_reducible assumption | exact ⟨_, by omega, rfl⟩) | exact IsR.mx (by first | with_reducible assumption | exact ⟨_, by omega, rfl⟩) (by first | with_reducible assumption | exact ⟨_, by omega, rfl⟩) | with_reducible exact mn9 (by omega) | (simp (disch := omega) only [li_0, li_1, li_2, li_3, li_4, li_5, li_6, li_7, li_8, li_9, li_10, li_20, li_30, li_82, li_91, li_273, li_380, li_400, li_512, li_1000, li_2457, li_4000, nI_add, nI_1, nI_mul, nI_sub, shl_1, shl_1b]; with_reducible exact mn9b (by omega))) (by first | with_reducible assumption | (simp (disch := omega) only [li_0, li_1, li_2, li_3, li_4, li_5, li_6, li_7, li_8, li_9, li_10, li_20, li_30, li_82, li_91, li_273, li_380, li_400, li_512, li_1000, li_2457, li_4000, nI_add, nI_1, nI_mul, nI_sub, shl_1, shl_1b, nI_or, nI_xor, nI_and]; with_reducible exact ⟨_, (by first | omega | exact or9 (by omega) (by omega) | exact xor9 (by omega) (by omega)), rfl⟩) | with_reducible exact ⟨_, (by first | omega | exact or9 (by omega) (by omega) | exact xor9 (by omega) (by omega)), rfl⟩ | exact IsR.mn (by first | with_reducible assumption | exact ⟨_, by omega, rfl⟩) (by first | with_reducible assumption | exact ⟨_, by omega, rfl⟩) | exact IsR.mx (by first | with_reducible assumption | exact ⟨_, by omega, rfl⟩) (by first | with_reducible assumption | exact ⟨_, by omega, rfl⟩) | with_reducible exact mn9 (by omega) | (simp (disch := omega) only [li_0, li_1, li_2, li_3, li_4, li_5, li_6, li_7, li_8, li_9, li_10, li_20, li_30, li_82, li_91, li_273, li_380, li_400, li_512, li_1000, li_2457, li_4000, nI_add, nI_1, nI_mul, nI_sub, shl_1, shl_1b]; with_reducible exact mn9b (by omega))) (by show IsR 5001 _; first | with_reducible assumption | (simp (disch := omega) only [li_0, li_1, li_2, li_3, li_4, li_5, li_6, li_7, li_8, li_9, li_10, li_20, li_30, li_82, li_91, li_273, li_380, li_400, li_512, li_1000, li_2457, li_4000, nI_add, nI_1, nI_mul, nI_sub, shl_1, shl_1b, nI_or, nI_xor, nI_and]; with_reducible exact ⟨_, (by first | omega | exact or9 (by omega) (by omega) | exact xor9 (by omega) (by omega)), rfl⟩) | with_reducible exact ⟨_, (by first | omega | exact or9 (by omega) (by omega) | exact xor9 (by omega) (by omega)), rfl⟩ | exact IsR.mn (by first | with_reducible assumption | exact ⟨_, by omega, rfl⟩) (by first | with_reducible assumption | exact ⟨_, by omega, rfl⟩) | exact IsR.mx (by first | with_reducible assumption | exact ⟨_, by omega, rfl⟩) (by first | with_reducible assumption | exact ⟨_, by omega, rfl⟩) | with_reducible exact mn9 (by omega) | (simp (disch := omega) only [li_0, li_1, li_2, li_3, li_4, li_5, li_6, li_7, li_8, li_9, li_10, li_20, li_30, li_82, li_91, li_273, li_380, li_400, li_512, li_1000, li_2457, li_4000, nI_add, nI_1, nI_mul, nI_sub, shl_1, shl_1b]; with_reducible exact mn9b (by omega)))) ?_
  rintro e13 _ ⟨rfl, hxe13⟩
  exact Ok.ret ⟨rfl, True.intro⟩
set_option maxHeartbeats 4000000 in
set_option maxRecDepth 100000 in
theorem rSX12_weightOf_5 {t : St} (hT : TY t) {w1 : Int32} (h_w1 : IsR 3 w1) {w2 : Int32} (h_w2 : IsR 9 w2) {a0 : Int32} {a1 : Int32} (h_a1 : IsR 5001 a1) : Ok (wh (SX12_weightOf_5 w1 w2) (a0, a1) t) (fun r u => t = u ∧ (True)) := by
  obtain ⟨j0, hj0, rfl⟩ := h_a1
  refine Ok.loop (fun k c s => t = s ∧ (∃ j, c.2 = nI j ∧ j ≤ 5000 ∧ 0 ≤ j ∧ k = 5000 - j)) ?_ (5000 - j0) _ _ ⟨rfl, ⟨j0, rfl, by omega, by omega, rfl⟩⟩
  obtain ⟨k_w1, h_w1, rfl⟩ := h_w1
  obtain ⟨k_w2, h_w2, rfl⟩ := h_w2
  clear hj0
  intro k c s hI
  obtain ⟨rfl, ⟨j, ej, hj, hlo, rfl⟩⟩ := hI
  obtain ⟨c0, c1⟩ := c
  dsimp only at ej
  subst ej
  unfold SX12_weightOf_5
  dsimp only
  refine Ok.bd _ (rX12_points hT (by first | with_reducible assumption | (simp (disch := omega) only [li_0, li_1, li_2, li_3, li_4, li_5, li_6, li_7, li_8, li_9, li_10, li_20, li_30, li_82, li_91, li_273, li_380, li_400, li_512, li_1000, li_2457, li_4000, nI_add, nI_1, nI_mul, nI_sub, shl_1, shl_1b, nI_or, nI_xor, nI_and]; with_reducible exact ⟨_, (by first | omega | exact or9 (by omega) (by omega) | exact xor9 (by omega) (by omega)), rfl⟩) | with_reducible exact ⟨_, (by first | omega | exact or9 (by omega) (by omega) | exact xor9 (by omega) (by omega)), rfl⟩ | exact IsR.mn (by first | with_reducible assumption | exact ⟨_, by omega, rfl⟩) (by first | with_reducible assumption | exact ⟨_, by omega, rfl⟩) | exact IsR.mx (by first | with_reducible assumption | exact ⟨_, by omega, rfl⟩) (by first | with_reducible assumption | exact ⟨_, by omega, rfl⟩) | with_reducible exact mn9 (by omega) | (simp (disch := omega) only [li_0, li_1, li_2, li_3, li_4, li_5, li_6, li_7, li_8, li_9, li_10, li_20, li_30, li_82, li_91, li_273, li_380, li_400, li_512, li_1000, li_2457, li_4000, nI_add, nI_1, nI_mul, nI_sub, shl_1, shl_1b]; with_reducible exact mn9b (by omega)))) ?_
  rintro _ _ ⟨rfl, kv1, hv1, rfl⟩
  refine Ok.ite (fun c_2 => ?_) (fun c_2 => ?_)
  · try simp (disch := omega) only [li_0, li_1, li_2, li_3, li_4, li_5, li_6, li_7, li_8, li_9, li_10, li_20, li_30, li_82, li_91, li_273, li_380, li_400, li_512, li_1000, li_2457, li_4000, nI_add, nI_1, nI_mul, nI_sub, shl_1, shl_1b, nI_leP, nI_ltP, nI_eqP, Nat.not_le, Nat.not_lt] at c_2
    exact Ok.ret ⟨rfl, True.intro⟩
  · try simp (disch := omega) only [li_0, li_1, li_2, li_3, li_4, li_5, li_6, li_7, li_8, li_9, li_10, li_20, li_30, li_82, li_91, li_273, li_380, li_400, li_512, li_1000, li_2457, li_4000, nI_add, nI_1, nI_mul, nI_sub, shl_1, shl_1b, nI_leP, nI_ltP, nI_eqP, Nat.not_le, Nat.not_lt] at c_2
    refine Ok.bd _ (rX12_weight hT (by first | with_reducible assumption | (simp (disch := omega) only [li_0, li_1, li_2, li_3, li_4, li_5, li_6, li_7, li_8, li_9, li_10, li_20, li_30, li_82, li_91, li_273, li_380, li_400, li_512, li_1000, li_2457, li_4000, nI_add, nI_1, nI_mul, nI_sub, shl_1, shl_1b, nI_or, nI_xor, nI_and]; with_reducible exact ⟨_, (by first | omega | exact or9 (by omega) (by omega) | exact xor9 (by omega) (by omega)), rfl⟩) | with_reducible exact ⟨_, (by first | omega | exact or9 (by omega) (by omega) | exact xor9 (by omega) (by omega)), rfl⟩ | exact IsR.mn (by first | with_reducible assumption | exact ⟨_, by omega, rfl⟩) (by first | with_reducible assumption | exact ⟨_, by omega, rfl⟩) | exact IsR.mx (by first | with_reducible assumption | exact ⟨_, by omega, rfl⟩) (by first | with_reducible assumption | exact ⟨_, by omega, rfl⟩) | with_reducible exact mn9 (by omega) | (simp (disch := omega) only [li_0, li_1, li_2, li_3, li_4, li_5, li_6, li_7, li_8, li_9, li_10, li_20, li_30, li_82, li_91, li_273, li_380, li_400, li_512, li_1000, li_2457, li_4000, nI_add, nI_1, nI_mul, nI_sub, shl_1, shl_1b]; with_reducible exact mn9b (by omega))) (by first | with_reducible assumption | (simp (disch := omega) only [li_0, li_1, li_2, li_3, li_4, li_5, li_6, li_7, li_8, li_9, li_10, li_20, li_30, li_82, li_91, li_273, li_380, li_400, li_512, li_1000, li_2457, li_4000, nI_add, nI_1, nI_mul, nI_sub, shl_1, shl_1b, nI_or, nI_xor, nI_and]; with_reducible exact ⟨_, (by first | omega | exact or9 (by omega) (by omega) | exact xor9 (by omega) (by omega)), rfl⟩) | with_reducible exact ⟨_, (by first | omega | exact or9 (by omega) (by omega) | exact xor9 (by omega) (by omega)), rfl⟩ | exact IsR.mn (by first | with_reducible assumption | exact ⟨_, by omega, rfl⟩) (by first | with_reducible assumption | exact ⟨_, by omega, rfl⟩) | exact IsR.mx (by first | with_reducible assumption | exact ⟨_, by omega, rfl⟩) (by first | with_reducible assumption | exact ⟨_, by omega, rfl⟩) | with_reducible exact mn9 (by omega) | (simp (disch := omega) only [li_0, li_1, li_2, li_3, li_4, li_5, li_6, li_7, li_8, li_9, li_10, li_20, li_30, li_82, li_91, li_273, li_380, li_400, li_512, li_1000, li_2457, li_4000, nI_add, nI_1, nI_mul, nI_sub, shl_1, shl_1b]; with_reducible exact mn9b (by omega))) (by first | with_reducible assumption | (simp (disch := omega) only [li_0, li_1, li_2, li_3, li_4, li_5, li_6, li_7, li_8, li_9, li_10, li_20, li_30, li_82, li_91, li_273, li_380, li_400, li_512, li_1000, li_2457, li_4000, nI_add, nI_1, nI_mul, nI_sub, shl_1, shl_1b, nI_or, nI_xor, nI_and]; with_reducible exact ⟨_, (by first | omega | exact or9 (by omega) (by omega) | exact xor9 (by omega) (by omega)), rfl⟩) | with_reducible exact ⟨_, (by first | omega | exact or9 (by omega) (by omega) | exact xor9 (by omega) (by omega)), rfl⟩ | exact IsR.mn (by first | with_reducible assumption | exact ⟨_, by omega, rfl⟩) (by first | with_reducible assumption | exact ⟨_, by omega, rfl⟩) | exact IsR.mx (by first | with_reducible assumption | exact ⟨_, by omega, rfl⟩) (by first | with_reducible assumption | exact ⟨_, by omega, rfl⟩) | with_reducible exact mn9 (by omega) | (simp (disch := omega) only [li_0, li_1, li_2, li_3, li_4, li_5, li_6, li_7, li_8, li_9, li_10, li_20, li_30, li_82, li_91, li_273, li_380, li_400, li_512, li_1000, li_2457, li_4000, nI_add, nI_1, nI_mul, nI_sub, shl_1, shl_1b]; with_reducible exact mn9b (by omega)))) ?_
    rintro _ _ ⟨rfl, kv5, hv5, rfl⟩
    exact Ok.ret ⟨5000 - (j + 1), by omega, rfl, ⟨j + 1, nI_1 j, by omega, by omega, rfl⟩⟩
set_option maxHeartbeats 4000000 in
set_option maxRecDepth 100000 in
theorem rX12_weightOf {t : St} (hT : TY t) {a : Int32} (h_a : IsR 3 a) {b : Int32} (h_b : IsR 9 b) : Ok (FX12_weightOf a b t) (fun r u => t = u ∧ (True)) := by
  obtain ⟨k_a, h_a, rfl⟩ := h_a
  obtain ⟨k_b, h_b, rfl⟩ := h_b
  unfold FX12_weightOf
  refine Ok.bd _ (rSX12_weightOf_5 hT (by first | with_reducible assumption | (simp (disch := omega) only [li_0, li_1, li_2, li_3, li_4, li_5, li_6, li_7, li_8, li_9, li_10, li_20, li_30, li_82, li_91, li_273, li_380, li_400, li_512, li_1000, li_2457, li_4000, nI_add, nI_1, nI_mul, nI_sub, shl_1, shl_1b, nI_or, nI_xor, nI_and]; with_reducible exact ⟨_, (by first | omega | exact or9 (by omega) (by omega) | exact xor9 (by omega) (by omega)), rfl⟩) | with_reducible exact ⟨_, (by first | omega | exact or9 (by omega) (by omega) | exact xor9 (by omega) (by omega)), rfl⟩ | exact IsR.mn (by first | with_reducible assumption | exact ⟨_, by omega, rfl⟩) (by first | with_reducible assumption | exact ⟨_, by omega, rfl⟩) | exact IsR.mx (by first | with_reducible assumption | exact ⟨_, by omega, rfl⟩) (by first | with_reducible assumption | exact ⟨_, by omega, rfl⟩) | with_reducible exact mn9 (by omega) | (simp (disch := omega) only [li_0, li_1, li_2, li_3, li_4, li_5, li_6, li_7, li_8, li_9, li_10, li_20, li_30, li_82, li_91, li_273, li_380, li_400, li_512, li_1000, li_2457, li_4000, nI_add, nI_1, nI_mul, nI_sub, shl_1, shl_1b]; with_reducible exact mn9b (by omega))) (by first | with_reducible assumption | (simp (disch := omega) only [li_0, li_1, li_2, li_3, li_4, li_5, li_6, li_7, li_8, li_9, li_10, li_20, li_30, li_82, li_91, li_273, li_380, li_400, li_512, li_1000, li_2457, li_4000, nI_add, nI_1, nI_mul, nI_sub, shl_1, shl_1b, nI_or, nI_xor, nI_and]; with_reducible exact ⟨_, (by first | omega | exact or9 (by omega) (by omega) | exact xor9 (by omega) (by omega)), rfl⟩) | with_reducible exact ⟨_, (by first | omega | exact or9 (by omega) (by omega) | exact xor9 (by omega) (by omega)), rfl⟩ | exact IsR.mn (by first | with_reducible assumption | exact ⟨_, by omega, rfl⟩) (by first | with_reducible assumption | exact ⟨_, by omega, rfl⟩) | exact IsR.mx (by first | with_reducible assumption | exact ⟨_, by omega, rfl⟩) (by first | with_reducible assumption | exact ⟨_, by omega, rfl⟩) | with_reducible exact mn9 (by omega) | (simp (disch := omega) only [li_0, li_1, li_2, li_3, li_4, li_5, li_6, li_7, li_8, li_9, li_10, li_20, li_30, li_82, li_91, li_273, li_380, li_400, li_512, li_1000, li_2457, li_4000, nI_add, nI_1, nI_mul, nI_sub, shl_1, shl_1b]; with_reducible exact mn9b (by omega))) (by show IsR 5001 _; first | with_reducible assumption | (simp (disch := omega) only [li_0, li_1, li_2, li_3, li_4, li_5, li_6, li_7, li_8, li_9, li_10, li_20, li_30, li_82, li_91, li_273, li_380, li_400, li_512, li_1000, li_2457, li_4000, nI_add, nI_1, nI_mul, nI_sub, shl_1, shl_1b, nI_or, nI_xor, nI_and]; with_reducible exact ⟨_, (by first | omega | exact or9 (by omega) (by omega) | exact xor9 (by omega) (by omega)), rfl⟩) | with_reducible exact ⟨_, (by first | omega | exact or9 (by omega) (by omega) | exact xor9 (by omega) (by omega)), rfl⟩ | exact IsR.mn (by first | with_reducible assumption | exact ⟨_, by omega, rfl⟩) (by first | with_reducible assumption | exact ⟨_, by omega, rfl⟩) | exact IsR.mx (by first | with_reducible assumption | exact ⟨_, by omega, rfl⟩) (by first | with_reducible assumption | exact ⟨_, by omega, rfl⟩) | with_reducible exact mn9 (by omega) | (simp (disch := omega) only [li_0, li_1, li_2, li_3, li_4, li_5, li_6, li_7, li_8, li_9, li_10, li_20, li_30, li_82, li_91, li_273, li_380, li_400, li_512, li_1000, li_2457, li_4000, nI_add, nI_1, nI_mul, nI_sub, shl_1, shl_1b]; with_reducible exact mn9b (by omega)))) ?_
  rintro e8 _ ⟨rfl, hxe8⟩
  exact Ok.ret ⟨rfl, True.intro⟩
set_option maxHeartbeats 4000000 in
set_option maxRecDepth 100000 in
theorem rSX12_lines_4 {t : St} (hT : TY t) {w1 : Int32} (h_w1 : IsR 3 w1) {a0 : Int32} {a1 : Int32} (h_a1 : IsR 5001 a1) : Ok (wh (SX12_lines_4 w1) (a0, a1) t) (fun r u => t = u ∧ (True)) := by
  obtain ⟨j0, hj0, rfl⟩ := h_a1
  refine Ok.loop (fun k c s => t = s ∧ (∃ j, c.2 = nI j ∧ j ≤ 5000 ∧ 0 ≤ j ∧ k = 5000 - j)) ?_ (5000 - j0) _ _ ⟨rfl, ⟨j0, rfl, by omega, by omega, rfl⟩⟩
  obtain ⟨k_w1, h_w1, rfl⟩ := h_w1
  clear hj0
  intro k c s hI
  obtain ⟨rfl, ⟨j, ej, hj, hlo, rfl⟩⟩ := hI
  obtain ⟨c0, c1⟩ := c
  dsimp only at ej
  subst ej
  unfold SX12_lines_4
  dsimp only
  refine Ok.bd _ (rX12_points hT (by first | with_reducible assumption | (simp (disch := omega) only [li_0, li_1, li_2, li_3, li_4, li_5, li_6, li_7, li_8, li_9, li_10, li_20, li_30, li_82, li_91, li_273, li_380, li_400, li_512, li_1000, li_2457, li_4000, nI_add, nI_1, nI_mul, nI_sub, shl_1, shl_1b, nI_or, nI_xor, nI_and]; with_reducible exact ⟨_, (by first | omega | exact or9 (by omega) (by omega) | exact xor9 (by omega) (by omega)), rfl⟩) | with_reducible exact ⟨_, (by first | omega | exact or9 (by omega) (by omega) | exact xor9 (by omega) (by omega)), rfl⟩ | exact IsR.mn (by first | with_reducible assumption | exact ⟨_, by omega, rfl⟩) (by first | with_reducible assumption | exact ⟨_, by omega, rfl⟩) | exact IsR.mx (by first | with_reducible assumption | exact ⟨_, by omega, rfl⟩) (by first | with_reducible assumption | exact ⟨_, by omega, rfl⟩) | with_reducible exact mn9 (by omega) | (simp (disch := omega) only [li_0, li_1, li_2, li_3, li_4, li_5, li_6, li_7, li_8, li_9, li_10, li_20, li_30, li_82, li_91, li_273, li_380, li_400, li_512, li_1000, li_2457, li_4000, nI_add, nI_1, nI_mul, nI_sub, shl_1, shl_1b]; with_reducible exact mn9b (by omega)))) ?_
  rintro _ _ ⟨rfl, kv1, hv1, rfl⟩
  refine Ok.ite (fun c_2 => ?_) (fun c_2 => ?_)
  · try simp (disch := omega) only [li_0, li_1, li_2, li_3, li_4, li_5, li_6, li_7, li_8, li_9, li_10, li_20, li_30, li_82, li_91, li_273, li_380, li_400, li_512, li_1000, li_2457, li_4000, nI_add, nI_1, nI_mul, nI_sub, shl_1, shl_1b, nI_leP, nI_ltP, nI_eqP, Nat.not_le, Nat.not_lt] at c_2
    exact Ok.ret ⟨rfl, True.intro⟩
  · try simp (disch := omega) only [li_0, li_1, li_2, li_3, li_4, li_5, li_6, li_7, li_8, li_9, li_10, li_20, li_30, li_82, li_91, li_273, li_380, li_400, li_512, li_1000, li_2457, li_4000, nI_add, nI_1, nI_mul, nI_sub, shl_1, shl_1b, nI_leP, nI_ltP, nI_eqP, Nat.not_le, Nat.not_lt] at c_2
    refine Ok.bd _ (rX12_nearOf hT (by first | with_reducible assumption | (simp (disch := omega) only [li_0, li_1, li_2, li_3, li_4, li_5, li_6, li_7, li_8, li_9, li_10, li_20, li_30, li_82, li_91, li_273, li_380, li_400, li_512, li_1000, li_2457, li_4000, nI_add, nI_1, nI_mul, nI_sub, shl_1, shl_1b, nI_or, nI_xor, nI_and]; with_reducible exact ⟨_, (by first | omega | exact or9 (by omega) (by omega) | exact xor9 (by omega) (by omega)), rfl⟩) | with_reducible exact ⟨_, (by first | omega | exact or9 (by omega) (by omega) | exact xor9 (by omega) (by omega)), rfl⟩ | exact IsR.mn (by first | with_reducible assumption | exact ⟨_, by omega, rfl⟩) (by first | with_reducible assumption | exact ⟨_, by omega, rfl⟩) | exact IsR.mx (by first | with_reducible assumption | exact ⟨_, by omega, rfl⟩) (by first | with_reducible assumption | exact ⟨_, by omega, rfl⟩) | with_reducible exact mn9 (by omega) | (simp (disch := omega) only [li_0, li_1, li_2, li_3, li_4, li_5, li_6, li_7, li_8, li_9, li_10, li_20, li_30, li_82, li_91, li_273, li_380, li_400, li_512, li_1000, li_2457, li_4000, nI_add, nI_1, nI_mul, nI_sub, shl_1, shl_1b]; with_reducible exact mn9b (by omega))) (by first | with_reducible assumption | (simp (disch := omega) only [li_0, li_1, li_2, li_3, li_4, li_5, li_6, li_7, li_8, li_9, li_10, li_20, li_30, li_82, li_91, li_273, li_380, li_400, li_512, li_1000, li_2457, li_4000, nI_add, nI_1, nI_mul, nI_sub, shl_1, shl_1b, nI_or, nI_xor, nI_and]; with_reducible exact ⟨_, (by first | omega | exact or9 (by omega) (by omega) | exact xor9 (by omega) (by omega)), rfl⟩) | with_reducible exact ⟨_, (by first | omega | exact or9 (by omega) (by omega) | exact xor9 (by omega) (by omega)), rfl⟩ | exact IsR.mn (by first | with_reducible assumption | exact ⟨_, by omega, rfl⟩) (by first | with_reducible assumption | exact ⟨_, by omega, rfl⟩) | exact IsR.mx (by first | with_reducible assumption | exact ⟨_, by omega, rfl⟩) (by first | with_reducible assumption | exact ⟨_, by omega, rfl⟩) | with_reducible exact mn9 (by omega) | (simp (disch := omega) only [li_0, li_1, li_2, li_3, li_4, li_5, li_6, li_7, li_8, li_9, li_10, li_20, li_30, li_82, li_91, li_273, li_380, li_400, li_512, li_1000, li_2457, li_4000, nI_add, nI_1, nI_mul, nI_sub, shl_1, shl_1b]; with_reducible exact mn9b (by omega)))) ?_
    rintro v5 _ ⟨rfl, hxv5⟩
    refine Ok.bd _ (rX12_ones hT) ?_
    rintro v8 _ ⟨rfl, hxv8⟩
    exact Ok.ret ⟨5000 - (j + 1), by omega, rfl, ⟨j + 1, nI_1 j, by omega, by omega, rfl⟩⟩
set_option maxHeartbeats 4000000 in
set_option maxRecDepth 100000 in
theorem rX12_lines {t : St} (hT : TY t) {a : Int32} (h_a : IsR 3 a) : Ok (FX12_lines a t) (fun r u => t = u ∧ (True)) := by
  obtain ⟨k_a, h_a, rfl⟩ := h_a
  unfold FX12_lines
  refine Ok.bd _ (rSX12_lines_4 hT (by first | with_reducible assumption | (simp (disch := omega) only [li_0, li_1, li_2, li_3, li_4, li_5, li_6, li_7, li_8, li_9, li_10, li_20, li_30, li_82, li_91, li_273, li_380, li_400, li_512, li_1000, li_2457, li_4000, nI_add, nI_1, nI_mul, nI_sub, shl_1, shl_1b, nI_or, nI_xor, nI_and]; with_reducible exact ⟨_, (by first | omega | exact or9 (by omega) (by omega) | exact xor9 (by omega) (by omega)), rfl⟩) | with_reducible exact ⟨_, (by first | omega | exact or9 (by omega) (by omega) | exact xor9 (by omega) (by omega)), rfl⟩ | exact IsR.mn (by first | with_reducible assumption | exact ⟨_, by omega, rfl⟩) (by first | with_reducible assumption | exact ⟨_, by omega, rfl⟩) | exact IsR.mx (by first | with_reducible assumption | exact ⟨_, by omega, rfl⟩) (by first | with_reducible assumption | exact ⟨_, by omega, rfl⟩) | with_reducible exact mn9 (by omega) | (simp (disch := omega) only [li_0, li_1, li_2, li_3, li_4, li_5, li_6, li_7, li_8, li_9, li_10, li_20, li_30, li_82, li_91, li_273, li_380, li_400, li_512, li_1000, li_2457, li_4000, nI_add, nI_1, nI_mul, nI_sub, shl_1, shl_1b]; with_reducible exact mn9b (by omega))) (by show IsR 5001 _; first | with_reducible assumption | (simp (disch := omega) only [li_0, li_1, li_2, li_3, li_4, li_5, li_6, li_7, li_8, li_9, li_10, li_20, li_30, li_82, li_91, li_273, li_380, li_400, li_512, li_1000, li_2457, li_4000, nI_add, nI_1, nI_mul, nI_sub, shl_1, shl_1b, nI_or, nI_xor, nI_and]; with_reducible exact ⟨_, (by first | omega | exact or9 (by omega) (by omega) | exact xor9 (by omega) (by omega)), rfl⟩) | with_reducible exact ⟨_, (by first | omega | exact or9 (by omega) (by omega) | exact xor9 (by omega) (by omega)), rfl⟩ | exact IsR.mn (by first | with_reducible assumption | exact ⟨_, by omega, rfl⟩) (by first | with_reducible assumption | exact ⟨_, by omega, rfl⟩) | exact IsR.mx (by first | with_reducible assumption | exact ⟨_, by omega, rfl⟩) (by first | with_reducible assumption | exact ⟨_, by omega, rfl⟩) | with_reducible exact mn9 (by omega) | (simp (disch := omega) only [li_0, li_1, li_2, li_3, li_4, li_5, li_6, li_7, li_8, li_9, li_10, li_20, li_30, li_82, li_91, li_273, li_380, li_400, li_512, li_1000, li_2457, li_4000, nI_add, nI_1, nI_mul, nI_sub, shl_1, shl_1b]; with_reducible exact mn9b (by omega)))) ?_
  rintro e11 _ ⟨rfl, hxe11⟩
  exact Ok.ret ⟨rfl, True.intro⟩
set_option maxHeartbeats 4000000 in
set_option maxRecDepth 100000 in
theorem rSX12_degree_4 {t : St} (hT : TY t) {w1 : Int32} (h_w1 : IsR 3 w1) {a0 : Int32} {a1 : Int32} (h_a1 : IsR 5001 a1) : Ok (wh (SX12_degree_4 w1) (a0, a1) t) (fun r u => t = u ∧ (True)) := by
  obtain ⟨j0, hj0, rfl⟩ := h_a1
  refine Ok.loop (fun k c s => t = s ∧ (∃ j, c.2 = nI j ∧ j ≤ 5000 ∧ 0 ≤ j ∧ k = 5000 - j)) ?_ (5000 - j0) _ _ ⟨rfl, ⟨j0, rfl, by omega, by omega, rfl⟩⟩
  obtain ⟨k_w1, h_w1, rfl⟩ := h_w1
  clear hj0
  intro k c s hI
  obtain ⟨rfl, ⟨j, ej, hj, hlo, rfl⟩⟩ := hI
  obtain ⟨c0, c1⟩ := c
  dsimp only at ej
  subst ej
  unfold SX12_degree_4
  dsimp only
  refine Ok.bd _ (rX12_points hT (by first | with_reducible assumption | (simp (disch := omega) only [li_0, li_1, li_2, li_3, li_4, li_5, li_6, li_7, li_8, li_9, li_10, li_20, li_30, li_82, li_91, li_273, li_380, li_400, li_512, li_1000, li_2457, li_4000, nI_add, nI_1, nI_mul, nI_sub, shl_1, shl_1b, nI_or, nI_xor, nI_and]; with_reducible exact ⟨_, (by first | omega | exact or9 (by omega) (by omega) | exact xor9 (by omega) (by omega)), rfl⟩) | with_reducible exact ⟨_, (by first | omega | exact or9 (by omega) (by omega) | exact xor9 (by omega) (by omega)), rfl⟩ | exact IsR.mn (by first | with_reducible assumption | exact ⟨_, by omega, rfl⟩) (by first | with_reducible assumption | exact ⟨_, by omega, rfl⟩) | exact IsR.mx (by first | with_reducible assumption | exact ⟨_, by omega, rfl⟩) (by first | with_reducible assumption | exact ⟨_, by omega, rfl⟩) | with_reducible exact mn9 (by omega) | (simp (disch := omega) only [li_0, li_1, li_2, li_3, li_4, li_5, li_6, li_7, li_8, li_9, li_10, li_20, li_30, li_82, li_91, li_273, li_380, li_400, li_512, li_1000, li_2457, li_4000, nI_add, nI_1, nI_mul, nI_sub, shl_1, shl_1b]; with_reducible exact mn9b (by omega)))) ?_
  rintro _ _ ⟨rfl, kv1, hv1, rfl⟩
  refine Ok.ite (fun c_2 => ?_) (fun c_2 => ?_)
  · try simp (disch := omega) only [li_0, li_1, li_2, li_3, li_4, li_5, li_6, li_7, li_8, li_9, li_10, li_20, li_30, li_82, li_91, li_273, li_380, li_400, li_512, li_1000, li_2457, li_4000, nI_add, nI_1, nI_mul, nI_sub, shl_1, shl_1b, nI_leP, nI_ltP, nI_eqP, Nat.not_le, Nat.not_lt] at c_2
    exact Ok.ret ⟨rfl, True.intro⟩
  · try simp (disch := omega) only [li_0, li_1, li_2, li_3, li_4, li_5, li_6, li_7, li_8, li_9, li_10, li_20, li_30, li_82, li_91, li_273, li_380, li_400, li_512, li_1000, li_2457, li_4000, nI_add, nI_1, nI_mul, nI_sub, shl_1, shl_1b, nI_leP, nI_ltP, nI_eqP, Nat.not_le, Nat.not_lt] at c_2
    refine Ok.bd _ (rX12_nearOf hT (by first | with_reducible assumption | (simp (disch := omega) only [li_0, li_1, li_2, li_3, li_4, li_5, li_6, li_7, li_8, li_9, li_10, li_20, li_30, li_82, li_91, li_273, li_380, li_400, li_512, li_1000, li_2457, li_4000, nI_add, nI_1, nI_mul, nI_sub, shl_1, shl_1b, nI_or, nI_xor, nI_and]; with_reducible exact ⟨_, (by first | omega | exact or9 (by omega) (by omega) | exact xor9 (by omega) (by omega)), rfl⟩) | with_reducible exact ⟨_, (by first | omega | exact or9 (by omega) (by omega) | exact xor9 (by omega) (by omega)), rfl⟩ | exact IsR.mn (by first | with_reducible assumption | exact ⟨_, by omega, rfl⟩) (by first | with_reducible assumption | exact ⟨_, by omega, rfl⟩) | exact IsR.mx (by first | with_reducible assumption | exact ⟨_, by omega, rfl⟩) (by first | with_reducible assumption | exact ⟨_, by omega, rfl⟩) | with_reducible exact mn9 (by omega) | (simp (disch := omega) only [li_0, li_1, li_2, li_3, li_4, li_5, li_6, li_7, li_8, li_9, li_10, li_20, li_30, li_82, li_91, li_273, li_380, li_400, li_512, li_1000, li_2457, li_4000, nI_add, nI_1, nI_mul, nI_sub, shl_1, shl_1b]; with_reducible exact mn9b (by omega))) (by first | with_reducible assumption | (simp (disch := omega) only [li_0, li_1, li_2, li_3, li_4, li_5, li_6, li_7, li_8, li_9, li_10, li_20, li_30, li_82, li_91, li_273, li_380, li_400, li_512, li_1000, li_2457, li_4000, nI_add, nI_1, nI_mul, nI_sub, shl_1, shl_1b, nI_or, nI_xor, nI_and]; with_reducible exact ⟨_, (by first | omega | exact or9 (by omega) (by omega) | exact xor9 (by omega) (by omega)), rfl⟩) | with_reducible exact ⟨_, (by first | omega | exact or9 (by omega) (by omega) | exact xor9 (by omega) (by omega)), rfl⟩ | exact IsR.mn (by first | with_reducible assumption | exact ⟨_, by omega, rfl⟩) (by first | with_reducible assumption | exact ⟨_, by omega, rfl⟩) | exact IsR.mx (by first | with_reducible assumption | exact ⟨_, by omega, rfl⟩) (by first | with_reducible assumption | exact ⟨_, by omega, rfl⟩) | with_reducible exact mn9 (by omega) | (simp (disch := omega) only [li_0, li_1, li_2, li_3, li_4, li_5, li_6, li_7, li_8, li_9, li_10, li_20, li_30, li_82, li_91, li_273, li_380, li_400, li_512, li_1000, li_2457, li_4000, nI_add, nI_1, nI_mul, nI_sub, shl_1, shl_1b]; with_reducible exact mn9b (by omega)))) ?_
    rintro v5 _ ⟨rfl, hxv5⟩
    refine Ok.bd _ (rX12_ones hT) ?_
    rintro v8 _ ⟨rfl, hxv8⟩
    exact Ok.ret ⟨5000 - (j + 1), by omega, rfl, ⟨j + 1, nI_1 j, by omega, by omega, rfl⟩⟩
set_option maxHeartbeats 4000000 in
set_option maxRecDepth 100000 in
theorem rX12_degree {t : St} (hT : TY t) {a : Int32} (h_a : IsR 3 a) : Ok (FX12_degree a t) (fun r u => t = u ∧ (True)) := by
  obtain ⟨k_a, h_a, rfl⟩ := h_a
  unfold FX12_degree
  refine Ok.bd _ (rSX12_degree_4 hT (by first | with_reducible assumption | (simp (disch := omega) only [li_0, li_1, li_2, li_3, li_4, li_5, li_6, li_7, li_8, li_9, li_10, li_20, li_30, li_82, li_91, li_273, li_380, li_400, li_512, li_1000, li_2457, li_4000, nI_add, nI_1, nI_mul, nI_sub, shl_1, shl_1b, nI_or, nI_xor, nI_and]; with_reducible exact ⟨_, (by first | omega | exact or9 (by omega) (by omega) | exact xor9 (by omega) (by omega)), rfl⟩) | with_reducible exact ⟨_, (by first | omega | exact or9 (by omega) (by omega) | exact xor9 (by omega) (by omega)), rfl⟩ | exact IsR.mn (by first | with_reducible assumption | exact ⟨_, by omega, rfl⟩) (by first | with_reducible assumption | exact ⟨_, by omega, rfl⟩) | exact IsR.mx (by first | with_reducible assumption | exact ⟨_, by omega, rfl⟩) (by first | with_reducible assumption | exact ⟨_, by omega, rfl⟩) | with_reducible exact mn9 (by omega) | (simp (disch := omega) only [li_0, li_1, li_2, li_3, li_4, li_5, li_6, li_7, li_8, li_9, li_10, li_20, li_30, li_82, li_91, li_273, li_380, li_400, li_512, li_1000, li_2457, li_4000, nI_add, nI_1, nI_mul, nI_sub, shl_1, shl_1b]; with_reducible exact mn9b (by omega))) (by show IsR 5001 _; first | with_reducible assumption | (simp (disch := omega) only [li_0, li_1, li_2, li_3, li_4, li_5, li_6, li_7, li_8, li_9, li_10, li_20, li_30, li_82, li_91, li_273, li_380, li_400, li_512, li_1000, li_2457, li_4000, nI_add, nI_1, nI_mul, nI_sub, shl_1, shl_1b, nI_or, nI_xor, nI_and]; with_reducible exact ⟨_, (by first | omega | exact or9 (by omega) (by omega) | exact xor9 (by omega) (by omega)), rfl⟩) | with_reducible exact ⟨_, (by first | omega | exact or9 (by omega) (by omega) | exact xor9 (by omega) (by omega)), rfl⟩ | exact IsR.mn (by first | with_reducible assumption | exact ⟨_, by omega, rfl⟩) (by first | with_reducible assumption | exact ⟨_, by omega, rfl⟩) | exact IsR.mx (by first | with_reducible assumption | exact ⟨_, by omega, rfl⟩) (by first | with_reducible assumption | exact ⟨_, by omega, rfl⟩) | with_reducible exact mn9 (by omega) | (simp (disch := omega) only [li_0, li_1, li_2, li_3, li_4, li_5, li_6, li_7, li_8, li_9, li_10, li_20, li_30, li_82, li_91, li_273, li_380, li_400, li_512, li_1000, li_2457, li_4000, nI_add, nI_1, nI_mul, nI_sub, shl_1, shl_1b]; with_reducible exact mn9b (by omega)))) ?_
  rintro e11 _ ⟨rfl, hxe11⟩
  exact Ok.ret ⟨rfl, True.intro⟩
set_option maxHeartbeats 4000000 in
set_option maxRecDepth 100000 in
theorem rSX12_splitOf_118 {t : St} (hT : TY t) {w1 : Int32} (h_w1 : IsR 3 w1) {w2 : Int32} {w3 : Int32} {w5 : Int32} (h_w5 : IsR 9 w5) {a0 : Int32} {a1 : Int32} (h_a1 : IsR 5001 a1) : Ok (wh (SX12_splitOf_118 w1 w2 w3 w5) (a0, a1) t) (fun r u => t = u ∧ (True)) := by
  obtain ⟨j0, hj0, rfl⟩ := h_a1
  refine Ok.loop (fun k c s => t = s ∧ (∃ j, c.2 = nI j ∧ j ≤ 5000 ∧ 0 ≤ j ∧ k = 5000 - j)) ?_ (5000 - j0) _ _ ⟨rfl, ⟨j0, rfl, by omega, by omega, rfl⟩⟩
  obtain ⟨k_w1, h_w1, rfl⟩ := h_w1
  obtain ⟨k_w5, h_w5, rfl⟩ := h_w5
  clear hj0
  intro k c s hI
  obtain ⟨rfl, ⟨j, ej, hj, hlo, rfl⟩⟩ := hI
  obtain ⟨c0, c1⟩ := c
  dsimp only at ej
  subst ej
  unfold SX12_splitOf_118
  dsimp only
  refine Ok.bd _ (rX12_points hT (by first | with_reducible assumption | (simp (disch := omega) only [li_0, li_1, li_2, li_3, li_4, li_5, li_6, li_7, li_8, li_9, li_10, li_20, li_30, li_82, li_91, li_273, li_380, li_400, li_512, li_1000, li_2457, li_4000, nI_add, nI_1, nI_mul, nI_sub, shl_1, shl_1b, nI_or, nI_xor, nI_and]; with_reducible exact ⟨_, (by first | omega | exact or9 (by omega) (by omega) | exact xor9 (by omega) (by omega)), rfl⟩) | with_reducible exact ⟨_, (by first | omega | exact or9 (by omega) (by omega) | exact xor9 (by omega) (by omega)), rfl⟩ | exact IsR.mn (by first | with_reducible assumption | exact ⟨_, by omega, rfl⟩) (by first | with_reducible assumption | exact ⟨_, by omega, rfl⟩) | exact IsR.mx (by first | with_reducible assumption | exact ⟨_, by omega, rfl⟩) (by first | with_reducible assumption | exact ⟨_, by omega, rfl⟩) | with_reducible exact mn9 (by omega) | (simp (disch := omega) only [li_0, li_1, li_2, li_3, li_4, li_5, li_6, li_7, li_8, li_9, li_10, li_20, li_30, li_82, li_91, li_273, li_380, li_400, li_512, li_1000, li_2457, li_4000, nI_add, nI_1, nI_mul, nI_sub, shl_1, shl_1b]; with_reducible exact mn9b (by omega)))) ?_
  rintro _ _ ⟨rfl, kv26, hv26, rfl⟩
  refine Ok.ite (fun c_2 => ?_) (fun c_2 => ?_)
  · try simp (disch := omega) only [li_0, li_1, li_2, li_3, li_4, li_5, li_6, li_7, li_8, li_9, li_10, li_20, li_30, li_82, li_91, li_273, li_380, li_400, li_512, li_1000, li_2457, li_4000, nI_add, nI_1, nI_mul, nI_sub, shl_1, shl_1b, nI_leP, nI_ltP, nI_eqP, Nat.not_le, Nat.not_lt] at c_2
    exact Ok.ret ⟨rfl, True.intro⟩
  · try simp (disch := omega) only [li_0, li_1, li_2, li_3, li_4, li_5, li_6, li_7, li_8, li_9, li_10, li_20, li_30, li_82, li_91, li_273, li_380, li_400, li_512, li_1000, li_2457, li_4000, nI_add, nI_1, nI_mul, nI_sub, shl_1, shl_1b, nI_leP, nI_ltP, nI_eqP, Nat.not_le, Nat.not_lt] at c_2
    refine Ok.bd _ (rX12_has hT) ?_
    rintro v30 _ ⟨rfl, hbv30, hxv30⟩
    refine Ok.bd (fun (v34 : Int32) t35 => t = t35 ∧ (True)) ?_ ?_
    · refine Ok.ite (fun c_4 => ?_) (fun c_4 => ?_)
      · try simp (disch := omega) only [li_0, li_1, li_2, li_3, li_4, li_5, li_6, li_7, li_8, li_9, li_10, li_20, li_30, li_82, li_91, li_273, li_380, li_400, li_512, li_1000, li_2457, li_4000, nI_add, nI_1, nI_mul, nI_sub, shl_1, shl_1b, nI_leP, nI_ltP, nI_eqP, Nat.not_le, Nat.not_lt] at c_4
        refine Ok.bd _ (rX12_weight hT (by first | with_reducible assumption | (simp (disch := omega) only [li_0, li_1, li_2, li_3, li_4, li_5, li_6, li_7, li_8, li_9, li_10, li_20, li_30, li_82, li_91, li_273, li_380, li_400, li_512, li_1000, li_2457, li_4000, nI_add, nI_1, nI_mul, nI_sub, shl_1, shl_1b, nI_or, nI_xor, nI_and]; with_reducible exact ⟨_, (by first | omega | exact or9 (by omega) (by omega) | exact xor9 (by omega) (by omega)), rfl⟩) | with_reducible exact ⟨_, (by first | omega | exact or9 (by omega) (by omega) | exact xor9 (by omega) (by omega)), rfl⟩ | exact IsR.mn (by first | with_reducible assumption | exact ⟨_, by omega, rfl⟩) (by first | with_reducible assumption | exact ⟨_, by omega, rfl⟩) | exact IsR.mx (by first | with_reducible assumption | exact ⟨_, by omega, rfl⟩) (by first | with_reducible assumption | exact ⟨_, by omega, rfl⟩) | with_reducible exact mn9 (by omega) | (simp (disch := omega) only [li_0, li_1, li_2, li_3, li_4, li_5, li_6, li_7, li_8, li_9, li_10, li_20, li_30, li_82, li_91, li_273, li_380, li_400, li_512, li_1000, li_2457, li_4000, nI_add, nI_1, nI_mul, nI_sub, shl_1, shl_1b]; with_reducible exact mn9b (by omega))) (by first | with_reducible assumption | (simp (disch := omega) only [li_0, li_1, li_2, li_3, li_4, li_5, li_6, li_7, li_8, li_9, li_10, li_20, li_30, li_82, li_91, li_273, li_380, li_400, li_512, li_1000, li_2457, li_4000, nI_add, nI_1, nI_mul, nI_sub, shl_1, shl_1b, nI_or, nI_xor, nI_and]; with_reducible exact ⟨_, (by first | omega | exact or9 (by omega) (by omega) | exact xor9 (by omega) (by omega)), rfl⟩) | with_reducible exact ⟨_, (by first | omega | exact or9 (by omega) (by omega) | exact xor9 (by omega) (by omega)), rfl⟩ | exact IsR.mn (by first | with_reducible assumption | exact ⟨_, by omega, rfl⟩) (by first | with_reducible assumption | exact ⟨_, by omega, rfl⟩) | exact IsR.mx (by first | with_reducible assumption | exact ⟨_, by omega, rfl⟩) (by first | with_reducible assumption | exact ⟨_, by omega, rfl⟩) | with_reducible exact mn9 (by omega) | (simp (disch := omega) only [li_0, li_1, li_2, li_3, li_4, li_5, li_6, li_7, li_8, li_9, li_10, li_20, li_30, li_82, li_91, li_273, li_380, li_400, li_512, li_1000, li_2457, li_4000, nI_add, nI_1, nI_mul, nI_sub, shl_1, shl_1b]; with_reducible exact mn9b (by omega))) (by first | with_reducible assumption | (simp (disch := omega) only [li_0, li_1, li_2, li_3, li_4, li_5, li_6, li_7, li_8, li_9, li_10, li_20, li_30, li_82, li_91, li_273, li_380, li_400, li_512, li_1000, li_2457, li_4000, nI_add, nI_1, nI_mul, nI_sub, shl_1, shl_1b, nI_or, nI_xor, nI_and]; with_reducible exact ⟨_, (by first | omega | exact or9 (by omega) (by omega) | exact xor9 (by omega) (by omega)), rfl⟩) | with_reducible exact ⟨_, (by first | omega | exact or9 (by omega) (by omega) | exact xor9 (by omega) (by omega)), rfl⟩ | exact IsR.mn (by first | with_reducible assumption | exact ⟨_, by omega, rfl⟩) (by first | with_reducible assumption | exact ⟨_, by omega, rfl⟩) | exact IsR.mx (by first | with_reducible assumption | exact ⟨_, by omega, rfl⟩) (by first | with_reducible assumption | exact ⟨_, by omega, rfl⟩) | with_reducible exact mn9 (by omega) | (simp (disch := omega) only [li_0, li_1, li_2, li_3, li_4, li_5, li_6, li_7, li_8, li_9, li_10, li_20, li_30, li_82, li_91, li_273, li_380, li_400, li_512, li_1000, li_2457, li_4000, nI_add, nI_1, nI_mul, nI_sub, shl_1, shl_1b]; with_reducible exact mn9b (by omega)))) ?_
        rintro _ _ ⟨rfl, kv38, hv38, rfl⟩
        exact Ok.ret ⟨rfl, True.intro⟩
      · try simp (disch := omega) only [li_0, li_1, li_2, li_3, li_4, li_5, li_6, li_7, li_8, li_9, li_10, li_20, li_30, li_82, li_91, li_273, li_380, li_400, li_512, li_1000, li_2457, li_4000, nI_add, nI_1, nI_mul, nI_sub, shl_1, shl_1b, nI_leP, nI_ltP, nI_eqP, Nat.not_le, Nat.not_lt] at c_4
        exact Ok.ret ⟨rfl, True.intro⟩
    · intro v34 t35 hx
      obtain ⟨rfl, hxv34⟩ := hx
      exact Ok.ret ⟨5000 - (j + 1), by omega, rfl, ⟨j + 1, nI_1 j, by omega, by omega, rfl⟩⟩
set_option maxHeartbeats 4000000 in
set_option maxRecDepth 100000 in
theorem rSX12_splitOf_6 {t : St} (hT : TY t) {w1 : Int32} (h_w1 : IsR 3 w1) {w2 : Int32} {w3 : Int32} {a0 : Int32} {a1 : Int32} (h_a1 : IsR 5001 a1) : Ok (wh (SX12_splitOf_6 w1 w2 w3) (a0, a1) t) (fun r u => t = u ∧ (True)) := by
  obtain ⟨j0, hj0, rfl⟩ := h_a1
  refine Ok.loop (fun k c s => t = s ∧ (∃ j, c.2 = nI j ∧ j ≤ 5000 ∧ 0 ≤ j ∧ k = 5000 - j)) ?_ (5000 - j0) _ _ ⟨rfl, ⟨j0, rfl, by omega, by omega, rfl⟩⟩
  obtain ⟨k_w1, h_w1, rfl⟩ := h_w1
  clear hj0
  intro k c s hI
  obtain ⟨rfl, ⟨j, ej, hj, hlo, rfl⟩⟩ := hI
  obtain ⟨c0, c1⟩ := c
  dsimp only at ej
  subst ej
  unfold SX12_splitOf_6
  dsimp only
  refine Ok.bd _ (rX12_points hT (by first | with_reducible assumption | (simp (disch := omega) only [li_0, li_1, li_2, li_3, li_4, li_5, li_6, li_7, li_8, li_9, li_10, li_20, li_30, li_82, li_91, li_273, li_380, li_400, li_512, li_1000, li_2457, li_4000, nI_add, nI_1, nI_mul, nI_sub, shl_1, shl_1b, nI_or, nI_xor, nI_and]; with_reducible exact ⟨_, (by first | omega | exact or9 (by omega) (by omega) | exact xor9 (by omega) (by omega)), rfl⟩) | with_reducible exact ⟨_, (by first | omega | exact or9 (by omega) (by omega) | exact xor9 (by omega) (by omega)), rfl⟩ | exact IsR.mn (by first | with_reducible assumption | exact ⟨_, by omega, rfl⟩) (by first | with_reducible assumption | exact ⟨_, by omega, rfl⟩) | exact IsR.mx (by first | with_reducible assumption | exact ⟨_, by omega, rfl⟩) (by first | with_reducible assumption | exact ⟨_, by omega, rfl⟩) | with_reducible exact mn9 (by omega) | (simp (disch := omega) only [li_0, li_1, li_2, li_3, li_4, li_5, li_6, li_7, li_8, li_9, li_10, li_20, li_30, li_82, li_91, li_273, li_380, li_400, li_512, li_1000, li_2457, li_4000, nI_add, nI_1, nI_mul, nI_sub, shl_1, shl_1b]; with_reducible exact mn9b (by omega)))) ?_
  rintro _ _ ⟨rfl, kv1, hv1, rfl⟩
  refine Ok.ite (fun c_2 => ?_) (fun c_2 => ?_)
  · try simp (disch := omega) only [li_0, li_1, li_2, li_3, li_4, li_5, li_6, li_7, li_8, li_9, li_10, li_20, li_30, li_82, li_91, li_273, li_380, li_400, li_512, li_1000, li_2457, li_4000, nI_add, nI_1, nI_mul, nI_sub, shl_1, shl_1b, nI_leP, nI_ltP, nI_eqP, Nat.not_le, Nat.not_lt] at c_2
    exact Ok.ret ⟨rfl, True.intro⟩
  · try simp (disch := omega) only [li_0, li_1, li_2, li_3, li_4, li_5, li_6, li_7, li_8, li_9, li_10, li_20, li_30, li_82, li_91, li_273, li_380, li_400, li_512, li_1000, li_2457, li_4000, nI_add, nI_1, nI_mul, nI_sub, shl_1, shl_1b, nI_leP, nI_ltP, nI_eqP, Nat.not_le, Nat.not_lt] at c_2
    refine Ok.bd _ (rX12_nearOf hT (by first | with_reducible assumption | (simp (disch := omega) only [li_0, li_1, li_2, li_3, li_4, li_5, li_6, li_7, li_8, li_9, li_10, li_20, li_30, li_82, li_91, li_273, li_380, li_400, li_512, li_1000, li_2457, li_4000, nI_add, nI_1, nI_mul, nI_sub, shl_1, shl_1b, nI_or, nI_xor, nI_and]; with_reducible exact ⟨_, (by first | omega | exact or9 (by omega) (by omega) | exact xor9 (by omega) (by omega)), rfl⟩) | with_reducible exact ⟨_, (by first | omega | exact or9 (by omega) (by omega) | exact xor9 (by omega) (by omega)), rfl⟩ | exact IsR.mn (by first | with_reducible assumption | exact ⟨_, by omega, rfl⟩) (by first | with_reducible assumption | exact ⟨_, by omega, rfl⟩) | exact IsR.mx (by first | with_reducible assumption | exact ⟨_, by omega, rfl⟩) (by first | with_reducible assumption | exact ⟨_, by omega, rfl⟩) | with_reducible exact mn9 (by omega) | (simp (disch := omega) only [li_0, li_1, li_2, li_3, li_4, li_5, li_6, li_7, li_8, li_9, li_10, li_20, li_30, li_82, li_91, li_273, li_380, li_400, li_512, li_1000, li_2457, li_4000, nI_add, nI_1, nI_mul, nI_sub, shl_1, shl_1b]; with_reducible exact mn9b (by omega))) (by first | with_reducible assumption | (simp (disch := omega) only [li_0, li_1, li_2, li_3, li_4, li_5, li_6, li_7, li_8, li_9, li_10, li_20, li_30, li_82, li_91, li_273, li_380, li_400, li_512, li_1000, li_2457, li_4000, nI_add, nI_1, nI_mul, nI_sub, shl_1, shl_1b, nI_or, nI_xor, nI_and]; with_reducible exact ⟨_, (by first | omega | exact or9 (by omega) (by omega) | exact xor9 (by omega) (by omega)), rfl⟩) | with_reducible exact ⟨_, (by first | omega | exact or9 (by omega) (by omega) | exact xor9 (by omega) (by omega)), rfl⟩ | exact IsR.mn (by first | with_reducible assumption | exact ⟨_, by omega, rfl⟩) (by first | with_reducible assumption | exact ⟨_, by omega, rfl⟩) | exact IsR.mx (by first | with_reducible assumption | exact ⟨_, by omega, rfl⟩) (by first | with_reducible assumption | exact ⟨_, by omega, rfl⟩) | with_reducible exact mn9 (by omega) | (simp (disch := omega) only [li_0, li_1, li_2, li_3, li_4, li_5, li_6, li_7, li_8, li_9, li_10, li_20, li_30, li_82, li_91, li_273, li_380, li_400, li_512, li_1000, li_2457, li_4000, nI_add, nI_1, nI_mul, nI_sub, shl_1, shl_1b]; with_reducible exact mn9b (by omega)))) ?_
    rintro v5 _ ⟨rfl, hxv5⟩
    refine Ok.bd _ (rX12_has hT) ?_
    rintro v8 _ ⟨rfl, hbv8, hxv8⟩
    refine Ok.bd (fun (v12 : Int32) t13 => t = t13 ∧ (True)) ?_ ?_
    · refine Ok.ite (fun c_5 => ?_) (fun c_5 => ?_)
      · try simp (disch := omega) only [li_0, li_1, li_2, li_3, li_4, li_5, li_6, li_7, li_8, li_9, li_10, li_20, li_30, li_82, li_91, li_273, li_380, li_400, li_512, li_1000, li_2457, li_4000, nI_add, nI_1, nI_mul, nI_sub, shl_1, shl_1b, nI_leP, nI_ltP, nI_eqP, Nat.not_le, Nat.not_lt] at c_5
        exact Ok.ret ⟨rfl, True.intro⟩
      · try simp (disch := omega) only [li_0, li_1, li_2, li_3, li_4, li_5, li_6, li_7, li_8, li_9, li_10, li_20, li_30, li_82, li_91, li_273, li_380, li_400, li_512, li_1000, li_2457, li_4000, nI_add, nI_1, nI_mul, nI_sub, shl_1, shl_1b, nI_leP, nI_ltP, nI_eqP, Nat.not_le, Nat.not_lt] at c_5
        exact Ok.ret ⟨rfl, True.intro⟩
    · intro v12 t13 hx
      obtain ⟨rfl, hxv12⟩ := hx
      refine Ok.bd (fun (v17 : Int32) t18 => t = t18 ∧ (True)) ?_ ?_
      · refine Ok.ite (fun c_6 => ?_) (fun c_6 => ?_)
        · try simp (disch := omega) only [li_0, li_1, li_2, li_3, li_4, li_5, li_6, li_7, li_8, li_9, li_10, li_20, li_30, li_82, li_91, li_273, li_380, li_400, li_512, li_1000, li_2457, li_4000, nI_add, nI_1, nI_mul, nI_sub, shl_1, shl_1b, nI_leP, nI_ltP, nI_eqP, Nat.not_le, Nat.not_lt] at c_6
          refine Ok.bd _ (rX12_has hT) ?_
          rintro v54 _ ⟨rfl, hbv54, hxv54⟩
          refine Ok.bd (fun (v58 : Int32) t59 => t = t59 ∧ (True)) ?_ ?_
          · refine Ok.ite (fun c_8 => ?_) (fun c_8 => ?_)
            · try simp (disch := omega) only [li_0, li_1, li_2, li_3, li_4, li_5, li_6, li_7, li_8, li_9, li_10, li_20, li_30, li_82, li_91, li_273, li_380, li_400, li_512, li_1000, li_2457, li_4000, nI_add, nI_1, nI_mul, nI_sub, shl_1, shl_1b, nI_leP, nI_ltP, nI_eqP, Nat.not_le, Nat.not_lt] at c_8
              exact Ok.ret ⟨rfl, True.intro⟩
            · try simp (disch := omega) only [li_0, li_1, li_2, li_3, li_4, li_5, li_6, li_7, li_8, li_9, li_10, li_20, li_30, li_82, li_91, li_273, li_380, li_400, li_512, li_1000, li_2457, li_4000, nI_add, nI_1, nI_mul, nI_sub, shl_1, shl_1b, nI_leP, nI_ltP, nI_eqP, Nat.not_le, Nat.not_lt] at c_8
              refine Ok.ite (fun c_9 => ?_) (fun c_9 => ?_)
              · try simp (disch := omega) only [li_0, li_1, li_2, li_3, li_4, li_5, li_6, li_7, li_8, li_9, li_10, li_20, li_30, li_82, li_91, li_273, li_380, li_400, li_512, li_1000, li_2457, li_4000, nI_add, nI_1, nI_mul, nI_sub, shl_1, shl_1b, nI_leP, nI_ltP, nI_eqP, Nat.not_le, Nat.not_lt] at c_9
                exact Ok.ret ⟨rfl, True.intro⟩
              · try simp (disch := omega) only [li_0, li_1, li_2, li_3, li_4, li_5, li_6, li_7, li_8, li_9, li_10, li_20, li_30, li_82, li_91, li_273, li_380, li_400, li_512, li_1000, li_2457, li_4000, nI_add, nI_1, nI_mul, nI_sub, shl_1, shl_1b, nI_leP, nI_ltP, nI_eqP, Nat.not_le, Nat.not_lt] at c_9
                exact Ok.ret ⟨rfl, True.intro⟩
          · intro v58 t59 hx
            obtain ⟨rfl, hxv58⟩ := hx
            exact Ok.ret ⟨rfl, True.intro⟩
        · try simp (disch := omega) only [li_0, li_1, li_2, li_3, li_4, li_5, li_6, li_7, li_8, li_9, li_10, li_20, li_30, li_82, li_91, li_273, li_380, li_400, li_512, li_1000, li_2457, li_4000, nI_add, nI_1, nI_mul, nI_sub, shl_1, shl_1b, nI_leP, nI_ltP, nI_eqP, Nat.not_le, Nat.not_lt] at c_6
          refine Ok.ite (fun c_10 => ?_) (fun c_10 => ?_)
          · try simp (disch := omega) only [li_0, li_1, li_2, li_3, li_4, li_5, li_6, li_7, li_8, li_9, li_10, li_20, li_30, li_82, li_91, li_273, li_380, li_400, li_512, li_1000, li_2457, li_4000, nI_add, nI_1, nI_mul, nI_sub, shl_1, shl_1b, nI_leP, nI_ltP, nI_eqP, Nat.not_le, Nat.not_lt] at c_10
            refine Ok.bd _ (rX12_has hT) ?_
            rintro v45 _ ⟨rfl, hbv45, hxv45⟩
            refine Ok.bd (fun (v49 : Int32) t50 => t = t50 ∧ (True)) ?_ ?_
            · refine Ok.ite (fun c_12 => ?_) (fun c_12 => ?_)
              · try simp (disch := omega) only [li_0, li_1, li_2, li_3, li_4, li_5, li_6, li_7, li_8, li_9, li_10, li_20, li_30, li_82, li_91, li_273, li_380, li_400, li_512, li_1000, li_2457, li_4000, nI_add, nI_1, nI_mul, nI_sub, shl_1, shl_1b, nI_leP, nI_ltP, nI_eqP, Nat.not_le, Nat.not_lt] at c_12
                refine Ok.ite (fun c_13 => ?_) (fun c_13 => ?_)
                · try simp (disch := omega) only [li_0, li_1, li_2, li_3, li_4, li_5, li_6, li_7, li_8, li_9, li_10, li_20, li_30, li_82, li_91, li_273, li_380, li_400, li_512, li_1000, li_2457, li_4000, nI_add, nI_1, nI_mul, nI_sub, shl_1, shl_1b, nI_leP, nI_ltP, nI_eqP, Nat.not_le, Nat.not_lt] at c_13
                  exact Ok.ret ⟨rfl, True.intro⟩
                · try simp (disch := omega) only [li_0, li_1, li_2, li_3, li_4, li_5, li_6, li_7, li_8, li_9, li_10, li_20, li_30, li_82, li_91, li_273, li_380, li_400, li_512, li_1000, li_2457, li_4000, nI_add, nI_1, nI_mul, nI_sub, shl_1, shl_1b, nI_leP, nI_ltP, nI_eqP, Nat.not_le, Nat.not_lt] at c_13
                  exact Ok.ret ⟨rfl, True.intro⟩
              · try simp (disch := omega) only [li_0, li_1, li_2, li_3, li_4, li_5, li_6, li_7, li_8, li_9, li_10, li_20, li_30, li_82, li_91, li_273, li_380, li_400, li_512, li_1000, li_2457, li_4000, nI_add, nI_1, nI_mul, nI_sub, shl_1, shl_1b, nI_leP, nI_ltP, nI_eqP, Nat.not_le, Nat.not_lt] at c_12
                exact Ok.ret ⟨rfl, True.intro⟩
            · intro v49 t50 hx
              obtain ⟨rfl, hxv49⟩ := hx
              exact Ok.ret ⟨rfl, True.intro⟩
          · try simp (disch := omega) only [li_0, li_1, li_2, li_3, li_4, li_5, li_6, li_7, li_8, li_9, li_10, li_20, li_30, li_82, li_91, li_273, li_380, li_400, li_512, li_1000, li_2457, li_4000, nI_add, nI_1, nI_mul, nI_sub, shl_1, shl_1b, nI_leP, nI_ltP, nI_eqP, Nat.not_le, Nat.not_lt] at c_10
            refine Ok.bd _ (rX12_has hT) ?_
            rintro v22 _ ⟨rfl, hbv22, hxv22⟩
            refine Ok.ite (fun c_15 => ?_) (fun c_15 => ?_)
            · try simp (disch := omega) only [li_0, li_1, li_2, li_3, li_4, li_5, li_6, li_7, li_8, li_9, li_10, li_20, li_30, li_82, li_91, li_273, li_380, li_400, li_512, li_1000, li_2457, li_4000, nI_add, nI_1, nI_mul, nI_sub, shl_1, shl_1b, nI_leP, nI_ltP, nI_eqP, Nat.not_le, Nat.not_lt] at c_15
              exact Ok.ret ⟨rfl, True.intro⟩
            · try simp (disch := omega) only [li_0, li_1, li_2, li_3, li_4, li_5, li_6, li_7, li_8, li_9, li_10, li_20, li_30, li_82, li_91, li_273, li_380, li_400, li_512, li_1000, li_2457, li_4000, nI_add, nI_1, nI_mul, nI_sub, shl_1, shl_1b, nI_leP, nI_ltP, nI_eqP, Nat.not_le, Nat.not_lt] at c_15
              refine Ok.bd _ (rSX12_splitOf_118 hT (by first | with_reducible assumption | (simp (disch := omega) only [li_0, li_1, li_2, li_3, li_4, li_5, li_6, li_7, li_8, li_9, li_10, li_20, li_30, li_82, li_91, li_273, li_380, li_400, li_512, li_1000, li_2457, li_4000, nI_add, nI_1, nI_mul, nI_sub, shl_1, shl_1b, nI_or, nI_xor, nI_and]; with_reducible exact ⟨_, (by first | omega | exact or9 (by omega) (by omega) | exact xor9 (by omega) (by omega)), rfl⟩) | with_reducible exact ⟨_, (by first | omega | exact or9 (by omega) (by omega) | exact xor9 (by omega) (by omega)), rfl⟩ | exact IsR.mn (by first | with_reducible assumption | exact ⟨_, by omega, rfl⟩) (by first | with_reducible assumption | exact ⟨_, by omega, rfl⟩) | exact IsR.mx (by first | with_reducible assumption | exact ⟨_, by omega, rfl⟩) (by first | with_reducible assumption | exact ⟨_, by omega, rfl⟩) | with_reducible exact mn9 (by omega) | (simp (disch := omega) only [li_0, li_1, li_2, li_3, li_4, li_5, li_6, li_7, li_8, li_9, li_10, li_20, li_30, li_82, li_91, li_273, li_380, li_400, li_512, li_1000, li_2457, li_4000, nI_add, nI_1, nI_mul, nI_sub, shl_1, shl_1b]; with_reducible exact mn9b (by omega))) (by first | with_reducible assumption | (simp (disch := omega) only [li_0, li_1, li_2, li_3, li_4, li_5, li_6, li_7, li_8, li_9, li_10, li_20, li_30, li_82, li_91, li_273, li_380, li_400, li_512, li_1000, li_2457, li_4000, nI_add, nI_1, nI_mul, nI_sub, shl_1, shl_1b, nI_or, nI_xor, nI_and]; with_reducible exact ⟨_, (by first | omega | exact or9 (by omega) (by omega) | exact xor9 (by omega) (by omega)), rfl⟩) | with_reducible exact ⟨_, (by first | omega | exact or9 (by omega) (by omega) | exact xor9 (by omega) (by omega)), rfl⟩ | exact IsR.mn (by first | with_reducible assumption | exact ⟨_, by omega, rfl⟩) (by first | with_reducible assumption | exact ⟨_, by omega, rfl⟩) | exact IsR.mx (by first | with_reducible assumption | exact ⟨_, by omega, rfl⟩) (by first | with_reducible assumption | exact ⟨_, by omega, rfl⟩) | with_reducible exact mn9 (by omega) | (simp (disch := omega) only [li_0, li_1, li_2, li_3, li_4, li_5, li_6, li_7, li_8, li_9, li_10, li_20, li_30, li_82, li_91, li_273, li_380, li_400, li_512, li_1000, li_2457, li_4000, nI_add, nI_1, nI_mul, nI_sub, shl_1, shl_1b]; with_reducible exact mn9b (by omega))) (by show IsR 5001 _; first | with_reducible assumption | (simp (disch := omega) only [li_0, li_1, li_2, li_3, li_4, li_5, li_6, li_7, li_8, li_9, li_10, li_20, li_30, li_82, li_91, li_273, li_380, li_400, li_512, li_1000, li_2457, li_4000, nI_add, nI_1, nI_mul, nI_sub, shl_1, shl_1b, nI_or, nI_xor, nI_and]; with_reducible exact ⟨_, (by first | omega | exact or9 (by omega) (by omega) | exact xor9 (by omega) (by omega)), rfl⟩) | with_reducible exact ⟨_, (by first | omega | exact or9 (by omega) (by omega) | exact xor9 (by omega) (by omega)), rfl⟩ | exact IsR.mn (by first | with_reducible assumption | exact ⟨_, by omega, rfl⟩) (by first | with_reducible assumption | exact ⟨_, by omega, rfl⟩) | exact IsR.mx (by first | with_reducible assumption | exact ⟨_, by omega, rfl⟩) (by first | with_reducible assumption | exact ⟨_, by omega, rfl⟩) | with_reducible exact mn9 (by omega) | (simp (disch := omega) only [li_0, li_1, li_2, li_3, li_4, li_5, li_6, li_7, li_8, li_9, li_10, li_20, li_30, li_82, li_91, li_273, li_380, li_400, li_512, li_1000, li_2457, li_4000, nI_add, nI_1, nI_mul, nI_sub, shl_1, shl_1b]; with_reducible exact mn9b (by omega)))) ?_
              rintro e41 _ ⟨rfl, hxe41⟩
              exact Ok.ret ⟨rfl, True.intro⟩
      · intro v17 t18 hx
        obtain ⟨rfl, hxv17⟩ := hx
        exact Ok.ret ⟨5000 - (j + 1), by omega, rfl, ⟨j + 1, nI_1 j, by omega, by omega, rfl⟩⟩
set_option maxHeartbeats 4000000 in
set_option maxRecDepth 100000 in
theorem rX12_splitOf {t : St} (hT : TY t) {a : Int32} (h_a : IsR 3 a) {b : Int32} {c : Int32} : Ok (FX12_splitOf a b c t) (fun r u => t = u ∧ (True)) := by
  obtain ⟨k_a, h_a, rfl⟩ := h_a
  unfold FX12_splitOf
  refine Ok.bd _ (rSX12_splitOf_6 hT (by first | with_reducible assumption | (simp (disch := omega) only [li_0, li_1, li_2, li_3, li_4, li_5, li_6, li_7, li_8, li_9, li_10, li_20, li_30, li_82, li_91, li_273, li_380, li_400, li_512, li_1000, li_2457, li_4000, nI_add, nI_1, nI_mul, nI_sub, shl_1, shl_1b, nI_or, nI_xor, nI_and]; with_reducible exact ⟨_, (by first | omega | exact or9 (by omega) (by omega) | exact xor9 (by omega) (by omega)), rfl⟩) | with_reducible exact ⟨_, (by first | omega | exact or9 (by omega) (by omega) | exact xor9 (by omega) (by omega)), rfl⟩ | exact IsR.mn (by first | with_reducible assumption | exact ⟨_, by omega, rfl⟩) (by first | with_reducible assumption | exact ⟨_, by omega, rfl⟩) | exact IsR.mx (by first | with_reducible assumption | exact ⟨_, by omega, rfl⟩) (by first | with_reducible assumption | exact ⟨_, by omega, rfl⟩) | with_reducible exact mn9 (by omega) | (simp (disch := omega) only [li_0, li_1, li_2, li_3, li_4, li_5, li_6, li_7, li_8, li_9, li_10, li_20, li_30, li_82, li_91, li_273, li_380, li_400, li_512, li_1000, li_2457, li_4000, nI_add, nI_1, nI_mul, nI_sub, shl_1, shl_1b]; with_reducible exact mn9b (by omega))) (by show IsR 5001 _; first | with_reducible assumption | (simp (disch := omega) only [li_0, li_1, li_2, li_3, li_4, li_5, li_6, li_7, li_8, li_9, li_10, li_20, li_30, li_82, li_91, li_273, li_380, li_400, li_512, li_1000, li_2457, li_4000, nI_add, nI_1, nI_mul, nI_sub, shl_1, shl_1b, nI_or, nI_xor, nI_and]; with_reducible exact ⟨_, (by first | omega | exact or9 (by omega) (by omega) | exact xor9 (by omega) (by omega)), rfl⟩) | with_reducible exact ⟨_, (by first | omega | exact or9 (by omega) (by omega) | exact xor9 (by omega) (by omega)), rfl⟩ | exact IsR.mn (by first | with_reducible assumption | exact ⟨_, by omega, rfl⟩) (by first | with_reducible assumption | exact ⟨_, by omega, rfl⟩) | exact IsR.mx (by first | with_reducible assumption | exact ⟨_, by omega, rfl⟩) (by first | with_reducible assumption | exact ⟨_, by omega, rfl⟩) | with_reducible exact mn9 (by omega) | (simp (disch := omega) only [li_0, li_1, li_2, li_3, li_4, li_5, li_6, li_7, li_8, li_9, li_10, li_20, li_30, li_82, li_91, li_273, li_380, li_400, li_512, li_1000, li_2457, li_4000, nI_add, nI_1, nI_mul, nI_sub, shl_1, shl_1b]; with_reducible exact mn9b (by omega)))) ?_
  rintro e63 _ ⟨rfl, hxe63⟩
  exact Ok.ret ⟨rfl, True.intro⟩
set_option maxHeartbeats 4000000 in
set_option maxRecDepth 100000 in
theorem rSX12_aheadOf_5 {t : St} (hT : TY t) {w1 : Int32} (h_w1 : IsR 3 w1) {w2 : Int32} (h_w2 : IsR 10 w2) {a0 : Int32} {a1 : Int32} (h_a1 : IsR 5001 a1) : Ok (wh (SX12_aheadOf_5 w1 w2) (a0, a1) t) (fun r u => t = u ∧ (True)) := by
  obtain ⟨j0, hj0, rfl⟩ := h_a1
  refine Ok.loop (fun k c s => t = s ∧ (∃ j, c.2 = nI j ∧ j ≤ 5000 ∧ 0 ≤ j ∧ k = 5000 - j)) ?_ (5000 - j0) _ _ ⟨rfl, ⟨j0, rfl, by omega, by omega, rfl⟩⟩
  obtain ⟨k_w1, h_w1, rfl⟩ := h_w1
  obtain ⟨k_w2, h_w2, rfl⟩ := h_w2
  clear hj0
  intro k c s hI
  obtain ⟨rfl, ⟨j, ej, hj, hlo, rfl⟩⟩ := hI
  obtain ⟨c0, c1⟩ := c
  dsimp only at ej
  subst ej
  unfold SX12_aheadOf_5
  dsimp only
  refine Ok.ite (fun c_1 => ?_) (fun c_1 => ?_)
  · try simp (disch := omega) only [li_0, li_1, li_2, li_3, li_4, li_5, li_6, li_7, li_8, li_9, li_10, li_20, li_30, li_82, li_91, li_273, li_380, li_400, li_512, li_1000, li_2457, li_4000, nI_add, nI_1, nI_mul, nI_sub, shl_1, shl_1b, nI_leP, nI_ltP, nI_eqP, Nat.not_le, Nat.not_lt] at c_1
    exact Ok.ret ⟨rfl, True.intro⟩
  · try simp (disch := omega) only [li_0, li_1, li_2, li_3, li_4, li_5, li_6, li_7, li_8, li_9, li_10, li_20, li_30, li_82, li_91, li_273, li_380, li_400, li_512, li_1000, li_2457, li_4000, nI_add, nI_1, nI_mul, nI_sub, shl_1, shl_1b, nI_leP, nI_ltP, nI_eqP, Nat.not_le, Nat.not_lt] at c_1
    refine Ok.bd _ (rX12_at hT (by first | with_reducible assumption | (simp (disch := omega) only [li_0, li_1, li_2, li_3, li_4, li_5, li_6, li_7, li_8, li_9, li_10, li_20, li_30, li_82, li_91, li_273, li_380, li_400, li_512, li_1000, li_2457, li_4000, nI_add, nI_1, nI_mul, nI_sub, shl_1, shl_1b, nI_or, nI_xor, nI_and]; with_reducible exact ⟨_, (by first | omega | exact or9 (by omega) (by omega) | exact xor9 (by omega) (by omega)), rfl⟩) | with_reducible exact ⟨_, (by first | omega | exact or9 (by omega) (by omega) | exact xor9 (by omega) (by omega)), rfl⟩ | exact IsR.mn (by first | with_reducible assumption | exact ⟨_, by omega, rfl⟩) (by first | with_reducible assumption | exact ⟨_, by omega, rfl⟩) | exact IsR.mx (by first | with_reducible assumption | exact ⟨_, by omega, rfl⟩) (by first | with_reducible assumption | exact ⟨_, by omega, rfl⟩) | with_reducible exact mn9 (by omega) | (simp (disch := omega) only [li_0, li_1, li_2, li_3, li_4, li_5, li_6, li_7, li_8, li_9, li_10, li_20, li_30, li_82, li_91, li_273, li_380, li_400, li_512, li_1000, li_2457, li_4000, nI_add, nI_1, nI_mul, nI_sub, shl_1, shl_1b]; with_reducible exact mn9b (by omega))) (by first | with_reducible assumption | (simp (disch := omega) only [li_0, li_1, li_2, li_3, li_4, li_5, li_6, li_7, li_8, li_9, li_10, li_20, li_30, li_82, li_91, li_273, li_380, li_400, li_512, li_1000, li_2457, li_4000, nI_add, nI_1, nI_mul, nI_sub, shl_1, shl_1b, nI_or, nI_xor, nI_and]; with_reducible exact ⟨_, (by first | omega | exact or9 (by omega) (by omega) | exact xor9 (by omega) (by omega)), rfl⟩) | with_reducible exact ⟨_, (by first | omega | exact or9 (by omega) (by omega) | exact xor9 (by omega) (by omega)), rfl⟩ | exact IsR.mn (by first | with_reducible assumption | exact ⟨_, by omega, rfl⟩) (by first | with_reducible assumption | exact ⟨_, by omega, rfl⟩) | exact IsR.mx (by first | with_reducible assumption | exact ⟨_, by omega, rfl⟩) (by first | with_reducible assumption | exact ⟨_, by omega, rfl⟩) | with_reducible exact mn9 (by omega) | (simp (disch := omega) only [li_0, li_1, li_2, li_3, li_4, li_5, li_6, li_7, li_8, li_9, li_10, li_20, li_30, li_82, li_91, li_273, li_380, li_400, li_512, li_1000, li_2457, li_4000, nI_add, nI_1, nI_mul, nI_sub, shl_1, shl_1b]; with_reducible exact mn9b (by omega)))) ?_
    rintro _ _ ⟨rfl, kv2, hv2, rfl⟩
    exact Ok.ret ⟨5000 - (j + 1), by omega, rfl, ⟨j + 1, nI_1 j, by omega, by omega, rfl⟩⟩
set_option maxHeartbeats 4000000 in
set_option maxRecDepth 100000 in
theorem rX12_aheadOf {t : St} (hT : TY t) {a : Int32} (h_a : IsR 3 a) {b : Int32} (h_b : IsR 10 b) : Ok (FX12_aheadOf a b t) (fun r u => t = u ∧ (True)) := by
  obtain ⟨k_a, h_a, rfl⟩ := h_a
  obtain ⟨k_b, h_b, rfl⟩ := h_b
  unfold FX12_aheadOf
  refine Ok.bd _ (rSX12_aheadOf_5 hT (by first | with_reducible assumption | (simp (disch := omega) only [li_0, li_1, li_2, li_3, li_4, li_5, li_6, li_7, li_8, li_9, li_10, li_20, li_30, li_82, li_91, li_273, li_380, li_400, li_512, li_1000, li_2457, li_4000, nI_add, nI_1, nI_mul, nI_sub, shl_1, shl_1b, nI_or, nI_xor, nI_and]; with_reducible exact ⟨_, (by first | omega | exact or9 (by omega) (by omega) | exact xor9 (by omega) (by omega)), rfl⟩) | with_reducible exact ⟨_, (by first | omega | exact or9 (by omega) (by omega) | exact xor9 (by omega) (by omega)), rfl⟩ | exact IsR.mn (by first | with_reducible assumption | exact ⟨_, by omega, rfl⟩) (by first | with_reducible assumption | exact ⟨_, by omega, rfl⟩) | exact IsR.mx (by first | with_reducible assumption | exact ⟨_, by omega, rfl⟩) (by first | with_reducible assumption | exact ⟨_, by omega, rfl⟩) | with_reducible exact mn9 (by omega) | (simp (disch := omega) only [li_0, li_1, li_2, li_3, li_4, li_5, li_6, li_7, li_8, li_9, li_10, li_20, li_30, li_82, li_91, li_273, li_380, li_400, li_512, li_1000, li_2457, li_4000, nI_add, nI_1, nI_mul, nI_sub, shl_1, shl_1b]; with_reducible exact mn9b (by omega))) (by first | with_reducible assumption | (simp (disch := omega) only [li_0, li_1, li_2, li_3, li_4, li_5, li_6, li_7, li_8, li_9, li_10, li_20, li_30, li_82, li_91, li_273, li_380, li_400, li_512, li_1000, li_2457, li_4000, nI_add, nI_1, nI_mul, nI_sub, shl_1, shl_1b, nI_or, nI_xor, nI_and]; with_reducible exact ⟨_, (by first | omega | exact or9 (by omega) (by omega) | exact xor9 (by omega) (by omega)), rfl⟩) | with_reducible exact ⟨_, (by first | omega | exact or9 (by omega) (by omega) | exact xor9 (by omega) (by omega)), rfl⟩ | exact IsR.mn (by first | with_reducible assumption | exact ⟨_, by omega, rfl⟩) (by first | with_reducible assumption | exact ⟨_, by omega, rfl⟩) | exact IsR.mx (by first | with_reducible assumption | exact ⟨_, by omega, rfl⟩) (by first | with_reducible assumption | exact ⟨_, by omega, rfl⟩) | with_reducible exact mn9 (by omega) | (simp (disch := omega) only [li_0, li_1, li_2, li_3, li_4, li_5, li_6, li_7, li_8, li_9, li_10, li_20, li_30, li_82, li_91, li_273, li_380, li_400, li_512, li_1000, li_2457, li_4000, nI_add, nI_1, nI_mul, nI_sub, shl_1, shl_1b]; with_reducible exact mn9b (by omega))) (by show IsR 5001 _; first | with_reducible assumption | (simp (disch := omega) only [li_0, li_1, li_2, li_3, li_4, li_5, li_6, li_7, li_8, li_9, li_10, li_20, li_30, li_82, li_91, li_273, li_380, li_400, li_512, li_1000, li_2457, li_4000, nI_add, nI_1, nI_mul, nI_sub, shl_1, shl_1b, nI_or, nI_xor, nI_and]; with_reducible exact ⟨_, (by first | omega | exact or9 (by omega) (by omega) | exact xor9 (by omega) (by omega)), rfl⟩) | with_reducible exact ⟨_, (by first | omega | exact or9 (by omega) (by omega) | exact xor9 (by omega) (by omega)), rfl⟩ | exact IsR.mn (by first | with_reducible assumption | exact ⟨_, by omega, rfl⟩) (by first | with_reducible assumption | exact ⟨_, by omega, rfl⟩) | exact IsR.mx (by first | with_reducible assumption | exact ⟨_, by omega, rfl⟩) (by first | with_reducible assumption | exact ⟨_, by omega, rfl⟩) | with_reducible exact mn9 (by omega) | (simp (disch := omega) only [li_0, li_1, li_2, li_3, li_4, li_5, li_6, li_7, li_8, li_9, li_10, li_20, li_30, li_82, li_91, li_273, li_380, li_400, li_512, li_1000, li_2457, li_4000, nI_add, nI_1, nI_mul, nI_sub, shl_1, shl_1b]; with_reducible exact mn9b (by omega)))) ?_
  rintro e5 _ ⟨rfl, hxe5⟩
  exact Ok.ret ⟨rfl, True.intro⟩
set_option maxHeartbeats 4000000 in
set_option maxRecDepth 100000 in
theorem rX12_isGreatest {t : St} (hT : TY t) {a : Int32} : Ok (FX12_isGreatest a t) (fun r u => t = u ∧ (isb r = true ∧ (True))) := by
  unfold FX12_isGreatest
  refine Ok.ite (fun c_1 => ?_) (fun c_1 => ?_)
  · try simp (disch := omega) only [li_0, li_1, li_2, li_3, li_4, li_5, li_6, li_7, li_8, li_9, li_10, li_20, li_30, li_82, li_91, li_273, li_380, li_400, li_512, li_1000, li_2457, li_4000, nI_add, nI_1, nI_mul, nI_sub, shl_1, shl_1b, nI_leP, nI_ltP, nI_eqP, Nat.not_le, Nat.not_lt] at c_1
    exact Ok.ret ⟨rfl, ⟨(by first | rfl | assumption | decide), (by first | exact True.intro | exact Or.inl rfl | exact Or.inr (by first | assumption | exact ⟨_, by omega, rfl⟩ | exact ⟨⟨_, by omega, rfl⟩, ⟨_, by omega, rfl⟩⟩))⟩⟩
  · try simp (disch := omega) only [li_0, li_1, li_2, li_3, li_4, li_5, li_6, li_7, li_8, li_9, li_10, li_20, li_30, li_82, li_91, li_273, li_380, li_400, li_512, li_1000, li_2457, li_4000, nI_add, nI_1, nI_mul, nI_sub, shl_1, shl_1b, nI_leP, nI_ltP, nI_eqP, Nat.not_le, Nat.not_lt] at c_1
    refine Ok.ite (fun c_2 => ?_) (fun c_2 => ?_)
    · try simp (disch := omega) only [li_0, li_1, li_2, li_3, li_4, li_5, li_6, li_7, li_8, li_9, li_10, li_20, li_30, li_82, li_91, li_273, li_380, li_400, li_512, li_1000, li_2457, li_4000, nI_add, nI_1, nI_mul, nI_sub, shl_1, shl_1b, nI_leP, nI_ltP, nI_eqP, Nat.not_le, Nat.not_lt] at c_2
      exact Ok.ret ⟨rfl, ⟨(by first | rfl | assumption | decide), (by first | exact True.intro | exact Or.inl rfl | exact Or.inr (by first | assumption | exact ⟨_, by omega, rfl⟩ | exact ⟨⟨_, by omega, rfl⟩, ⟨_, by omega, rfl⟩⟩))⟩⟩
    · try simp (disch := omega) only [li_0, li_1, li_2, li_3, li_4, li_5, li_6, li_7, li_8, li_9, li_10, li_20, li_30, li_82, li_91, li_273, li_380, li_400, li_512, li_1000, li_2457, li_4000, nI_add, nI_1, nI_mul, nI_sub, shl_1, shl_1b, nI_leP, nI_ltP, nI_eqP, Nat.not_le, Nat.not_lt] at c_2
      refine Ok.ite (fun c_3 => ?_) (fun c_3 => ?_)
      · try simp (disch := omega) only [li_0, li_1, li_2, li_3, li_4, li_5, li_6, li_7, li_8, li_9, li_10, li_20, li_30, li_82, li_91, li_273, li_380, li_400, li_512, li_1000, li_2457, li_4000, nI_add, nI_1, nI_mul, nI_sub, shl_1, shl_1b, nI_leP, nI_ltP, nI_eqP, Nat.not_le, Nat.not_lt] at c_3
        exact Ok.ret ⟨rfl, ⟨(by first | rfl | assumption | decide), (by first | exact True.intro | exact Or.inl rfl | exact Or.inr (by first | assumption | exact ⟨_, by omega, rfl⟩ | exact ⟨⟨_, by omega, rfl⟩, ⟨_, by omega, rfl⟩⟩))⟩⟩
      · try simp (disch := omega) only [li_0, li_1, li_2, li_3, li_4, li_5, li_6, li_7, li_8, li_9, li_10, li_20, li_30, li_82, li_91, li_273, li_380, li_400, li_512, li_1000, li_2457, li_4000, nI_add, nI_1, nI_mul, nI_sub, shl_1, shl_1b, nI_leP, nI_ltP, nI_eqP, Nat.not_le, Nat.not_lt] at c_3
        exact Ok.ret ⟨rfl, ⟨(by first | rfl | assumption | decide), (by first | exact True.intro | exact Or.inl rfl | exact Or.inr (by first | assumption | exact ⟨_, by omega, rfl⟩ | exact ⟨⟨_, by omega, rfl⟩, ⟨_, by omega, rfl⟩⟩))⟩⟩
set_option maxHeartbeats 4000000 in
set_option maxRecDepth 100000 in
theorem rX12_both {t : St} (hT : TY t) {a : Int32} {b : Int32} {c : Int32} : Ok (FX12_both a b c t) (fun r u => t = u ∧ (True)) := by
  unfold FX12_both
  refine Ok.bd _ (rX12_isGreatest hT) ?_
  rintro v1 _ ⟨rfl, hbv1, hxv1⟩
  refine Ok.ite (fun c_2 => ?_) (fun c_2 => ?_)
  · try simp (disch := omega) only [li_0, li_1, li_2, li_3, li_4, li_5, li_6, li_7, li_8, li_9, li_10, li_20, li_30, li_82, li_91, li_273, li_380, li_400, li_512, li_1000, li_2457, li_4000, nI_add, nI_1, nI_mul, nI_sub, shl_1, shl_1b, nI_leP, nI_ltP, nI_eqP, Nat.not_le, Nat.not_lt] at c_2
    exact Ok.ret ⟨rfl, True.intro⟩
  · try simp (disch := omega) only [li_0, li_1, li_2, li_3, li_4, li_5, li_6, li_7, li_8, li_9, li_10, li_20, li_30, li_82, li_91, li_273, li_380, li_400, li_512, li_1000, li_2457, li_4000, nI_add, nI_1, nI_mul, nI_sub, shl_1, shl_1b, nI_leP, nI_ltP, nI_eqP, Nat.not_le, Nat.not_lt] at c_2
    exact Ok.ret ⟨rfl, True.intro⟩
set_option maxHeartbeats 4000000 in
set_option maxRecDepth 100000 in
theorem rX12_isTakenOut {t : St} (hT : TY t) {a : Int32} : Ok (FX12_isTakenOut a t) (fun r u => t = u ∧ (isb r = true ∧ (r = 0 → (¬ a = 5 ∧ ¬ a = 6)))) := by
  unfold FX12_isTakenOut
  refine Ok.ite (fun c_1 => ?_) (fun c_1 => ?_)
  · try simp (disch := omega) only [li_0, li_1, li_2, li_3, li_4, li_5, li_6, li_7, li_8, li_9, li_10, li_20, li_30, li_82, li_91, li_273, li_380, li_400, li_512, li_1000, li_2457, li_4000, nI_add, nI_1, nI_mul, nI_sub, shl_1, shl_1b, nI_leP, nI_ltP, nI_eqP, Nat.not_le, Nat.not_lt] at c_1
    exact Ok.ret ⟨rfl, ⟨(by first | rfl | assumption | decide), (by first | (intro q; exact absurd q (by decide)) | (intro _; exact ⟨by assumption, by assumption⟩))⟩⟩
  · try simp (disch := omega) only [li_0, li_1, li_2, li_3, li_4, li_5, li_6, li_7, li_8, li_9, li_10, li_20, li_30, li_82, li_91, li_273, li_380, li_400, li_512, li_1000, li_2457, li_4000, nI_add, nI_1, nI_mul, nI_sub, shl_1, shl_1b, nI_leP, nI_ltP, nI_eqP, Nat.not_le, Nat.not_lt] at c_1
    refine Ok.ite (fun c_2 => ?_) (fun c_2 => ?_)
    · try simp (disch := omega) only [li_0, li_1, li_2, li_3, li_4, li_5, li_6, li_7, li_8, li_9, li_10, li_20, li_30, li_82, li_91, li_273, li_380, li_400, li_512, li_1000, li_2457, li_4000, nI_add, nI_1, nI_mul, nI_sub, shl_1, shl_1b, nI_leP, nI_ltP, nI_eqP, Nat.not_le, Nat.not_lt] at c_2
      exact Ok.ret ⟨rfl, ⟨(by first | rfl | assumption | decide), (by first | (intro q; exact absurd q (by decide)) | (intro _; exact ⟨by assumption, by assumption⟩))⟩⟩
    · try simp (disch := omega) only [li_0, li_1, li_2, li_3, li_4, li_5, li_6, li_7, li_8, li_9, li_10, li_20, li_30, li_82, li_91, li_273, li_380, li_400, li_512, li_1000, li_2457, li_4000, nI_add, nI_1, nI_mul, nI_sub, shl_1, shl_1b, nI_leP, nI_ltP, nI_eqP, Nat.not_le, Nat.not_lt] at c_2
      exact Ok.ret ⟨rfl, ⟨(by first | rfl | assumption | decide), (by first | (intro q; exact absurd q (by decide)) | (intro _; exact ⟨by assumption, by assumption⟩))⟩⟩
theorem gr_dec {u s : Int32} (h : u ||| s = u) (hne : ¬ u = s) : 4294967296 - u.toBitVec.toNat < 4294967296 - s.toBitVec.toNat := by
  have h1 : s.toBitVec.toNat ≤ u.toBitVec.toNat := by
    rw [← h, Int32.toBitVec_or, BitVec.toNat_or]
    exact Nat.right_le_or
  have h2 : u.toBitVec.toNat ≠ s.toBitVec.toNat := fun e => hne (Int32.toBitVec_inj.mp (BitVec.eq_of_toNat_eq e))
  have h3 := u.toBitVec.isLt
  omega
theorem or_keep {a b x : Int32} (h : a ||| b = a) : (a ||| x) ||| b = a ||| x := by
  rw [Int32.or_assoc, Int32.or_comm x b, ← Int32.or_assoc, h]
theorem rX12_farOf {t : St} (hT : TY t) {a b c : Int32} (h_a : IsR 3 a) : Ok (FX12_farOf a b c t) (fun r u => t = u ∧ True) := by
  unfold FX12_farOf
  refine Ok.bd (fun _ u => t = u) ?_ (fun x u h => by
    subst h
    rcases x with x | x
    · exact Ok.ret ⟨rfl, True.intro⟩
    · exact Ok.ret ⟨rfl, True.intro⟩)
  refine Ok.loop (fun k c s => t = s ∧ k = 4294967296 - c.1.toBitVec.toNat) ?_ _ _ _ ⟨rfl, rfl⟩
  intro k x s hI
  obtain ⟨rfl, rfl⟩ := hI
  unfold SX12_farOf_8
  refine Ok.bd _ (rX12_has hT) ?_
  rintro v _ ⟨rfl, -, -⟩
  refine Ok.ite (fun _ => ?_) (fun _ => Ok.ret rfl)
  refine Ok.bd (fun e u => t = u ∧ e ||| x.1 = e) ?_ ?_
  · refine Ok.loop (fun k c s => t = s ∧ c.1 ||| x.1 = c.1 ∧ ∃ j, c.2 = nI j ∧ j ≤ 9 ∧ k = 9 - j) ?_ 9 _ _ ⟨rfl, Int32.or_self, 0, rfl, by omega, rfl⟩
    intro k c s hI
    obtain ⟨rfl, ho, j, ej, hj, rfl⟩ := hI
    obtain ⟨c0, c1⟩ := c
    dsimp only at ej ho
    subst ej
    unfold SX12_farOf_24
    dsimp only
    refine Ok.bd _ (rX12_points hT h_a) ?_
    rintro _ _ ⟨rfl, n, hn, rfl⟩
    refine Ok.ite (fun _ => Ok.ret ⟨rfl, ho⟩) (fun c1 => ?_)
    rw [nI_leP (by omega) (by omega)] at c1
    refine Ok.bd _ (rX12_has hT) ?_
    rintro v9 _ ⟨rfl, -, -⟩
    refine Ok.bd (fun _ u => t = u) ?_ ?_
    · refine Ok.ite (fun _ => Ok.ret rfl) (fun _ => ?_)
      refine Ok.bd _ (rX12_nearOf hT h_a ⟨j, by omega, rfl⟩) ?_
      rintro v17 _ ⟨rfl, -⟩
      exact Ok.ret rfl
    · rintro v13 _ rfl
      exact Ok.ret ⟨9 - (j + 1), by omega, rfl, or_keep ho, j + 1, nI_1 j, by omega, rfl⟩
  · rintro e _ ⟨rfl, ho⟩
    refine Ok.ite (fun _ => Ok.ret rfl) (fun c2 => ?_)
    exact Ok.ret ⟨_, gr_dec ho c2, rfl, rfl⟩
theorem rX12_neighbours {t : St} (hT : TY t) {a b c : Int32} (h_a : IsR 3 a) (h_c : IsR 9 c) : Ok (FX12_neighbours a b c t) (fun r u => t = u ∧ True) := by
  unfold FX12_neighbours
  refine Ok.bd _ (rX12_nearOf hT h_a h_c) ?_
  rintro v1 _ ⟨rfl, -⟩
  refine Ok.bd (fun _ u => t = u) ?_ (fun x u h => by subst h; exact Ok.ret ⟨rfl, True.intro⟩)
  refine Ok.loop (fun k c s => t = s ∧ c.1 ||| c.2 = c.1 ∧ k = (if c.2 = c.1 then 0 else 1 + (4294967296 - c.2.toBitVec.toNat))) ?_ _ _ _ ⟨rfl, ?_, rfl⟩
  · intro k x s hI
    obtain ⟨rfl, hx, rfl⟩ := hI
    unfold SX12_neighbours_11
    refine Ok.ite (fun _ => Ok.ret rfl) (fun c0 => ?_)
    rw [if_neg c0]
    refine Ok.bd (fun e u => t = u ∧ e ||| x.1 = e) ?_ ?_
    · refine Ok.loop (fun k c s => t = s ∧ c.1 ||| x.1 = c.1 ∧ ∃ j, c.2 = nI j ∧ j ≤ 9 ∧ k = 9 - j) ?_ 9 _ _ ⟨rfl, Int32.or_self, 0, rfl, by omega, rfl⟩
      intro k c s hI
      obtain ⟨rfl, ho, j, ej, hj, rfl⟩ := hI
      obtain ⟨c0', c1'⟩ := c
      dsimp only at ej ho
      subst ej
      unfold SX12_neighbours_25
      dsimp only
      refine Ok.bd _ (rX12_points hT h_a) ?_
      rintro _ _ ⟨rfl, n, hn, rfl⟩
      refine Ok.ite (fun _ => Ok.ret ⟨rfl, ho⟩) (fun c1 => ?_)
      rw [nI_leP (by omega) (by omega)] at c1
      refine Ok.bd _ (rX12_has hT) ?_
      rintro v9 _ ⟨rfl, -, -⟩
      refine Ok.bd (fun _ u => t = u) ?_ ?_
      · refine Ok.ite (fun _ => Ok.ret rfl) (fun _ => ?_)
        refine Ok.bd _ (rX12_nearOf hT h_a ⟨j, by omega, rfl⟩) ?_
        rintro v17 _ ⟨rfl, -⟩
        exact Ok.ret rfl
      · rintro v13 _ rfl
        exact Ok.ret ⟨9 - (j + 1), by omega, rfl, or_keep ho, j + 1, nI_1 j, by omega, rfl⟩
    · rintro e _ ⟨rfl, ho⟩
      refine Ok.ret ⟨_, ?_, rfl, ho, rfl⟩
      show (if x.1 = e then 0 else 1 + (4294967296 - x.1.toBitVec.toNat)) < 1 + (4294967296 - x.2.toBitVec.toNat)
      have hlt := gr_dec hx (fun q => c0 q.symm)
      split <;> omega
  · show v1 ||| 0 = v1
    exact Int32.or_zero
set_option maxHeartbeats 4000000 in
set_option maxRecDepth 100000 in
theorem rSX12_fillOf_15 {t : St} (hT : TY t) {w1 : Int32} (h_w1 : IsR 3 w1) {w2 : Int32} {w4 : Int32} {a0 : Int32} {a1 : Int32} (h_a1 : IsR 5001 a1) : Ok (wh (SX12_fillOf_15 w1 w2 w4) (a0, a1) t) (fun r u => t = u ∧ (True)) := by
  obtain ⟨j0, hj0, rfl⟩ := h_a1
  refine Ok.loop (fun k c s => t = s ∧ (∃ j, c.2 = nI j ∧ j ≤ 5000 ∧ 0 ≤ j ∧ k = 5000 - j)) ?_ (5000 - j0) _ _ ⟨rfl, ⟨j0, rfl, by omega, by omega, rfl⟩⟩
  obtain ⟨k_w1, h_w1, rfl⟩ := h_w1
  clear hj0
  intro k c s hI
  obtain ⟨rfl, ⟨j, ej, hj, hlo, rfl⟩⟩ := hI
  obtain ⟨c0, c1⟩ := c
  dsimp only at ej
  subst ej
  unfold SX12_fillOf_15
  dsimp only
  refine Ok.bd _ (rX12_points hT (by first | with_reducible assumption | (simp (disch := omega) only [li_0, li_1, li_2, li_3, li_4, li_5, li_6, li_7, li_8, li_9, li_10, li_20, li_30, li_82, li_91, li_273, li_380, li_400, li_512, li_1000, li_2457, li_4000, nI_add, nI_1, nI_mul, nI_sub, shl_1, shl_1b, nI_or, nI_xor, nI_and]; with_reducible exact ⟨_, (by first | omega | exact or9 (by omega) (by omega) | exact xor9 (by omega) (by omega)), rfl⟩) | with_reducible exact ⟨_, (by first | omega | exact or9 (by omega) (by omega) | exact xor9 (by omega) (by omega)), rfl⟩ | exact IsR.mn (by first | with_reducible assumption | exact ⟨_, by omega, rfl⟩) (by first | with_reducible assumption | exact ⟨_, by omega, rfl⟩) | exact IsR.mx (by first | with_reducible assumption | exact ⟨_, by omega, rfl⟩) (by first | with_reducible assumption | exact ⟨_, by omega, rfl⟩) | with_reducible exact mn9 (by omega) | (simp (disch := omega) only [li_0, li_1, li_2, li_3, li_4, li_5, li_6, li_7, li_8, li_9, li_10, li_20, li_30, li_82, li_91, li_273, li_380, li_400, li_512, li_1000, li_2457, li_4000, nI_add, nI_1, nI_mul, nI_sub, shl_1, shl_1b]; with_reducible exact mn9b (by omega)))) ?_
  rintro _ _ ⟨rfl, kv4, hv4, rfl⟩
  refine Ok.ite (fun c_2 => ?_) (fun c_2 => ?_)
  · try simp (disch := omega) only [li_0, li_1, li_2, li_3, li_4, li_5, li_6, li_7, li_8, li_9, li_10, li_20, li_30, li_82, li_91, li_273, li_380, li_400, li_512, li_1000, li_2457, li_4000, nI_add, nI_1, nI_mul, nI_sub, shl_1, shl_1b, nI_leP, nI_ltP, nI_eqP, Nat.not_le, Nat.not_lt] at c_2
    exact Ok.ret ⟨rfl, True.intro⟩
  · try simp (disch := omega) only [li_0, li_1, li_2, li_3, li_4, li_5, li_6, li_7, li_8, li_9, li_10, li_20, li_30, li_82, li_91, li_273, li_380, li_400, li_512, li_1000, li_2457, li_4000, nI_add, nI_1, nI_mul, nI_sub, shl_1, shl_1b, nI_leP, nI_ltP, nI_eqP, Nat.not_le, Nat.not_lt] at c_2
    refine Ok.bd _ (rX12_has hT) ?_
    rintro v8 _ ⟨rfl, hbv8, hxv8⟩
    refine Ok.bd (fun (v12 : Int32) t13 => t = t13 ∧ (True)) ?_ ?_
    · refine Ok.ite (fun c_4 => ?_) (fun c_4 => ?_)
      · try simp (disch := omega) only [li_0, li_1, li_2, li_3, li_4, li_5, li_6, li_7, li_8, li_9, li_10, li_20, li_30, li_82, li_91, li_273, li_380, li_400, li_512, li_1000, li_2457, li_4000, nI_add, nI_1, nI_mul, nI_sub, shl_1, shl_1b, nI_leP, nI_ltP, nI_eqP, Nat.not_le, Nat.not_lt] at c_4
        exact Ok.ret ⟨rfl, True.intro⟩
      · try simp (disch := omega) only [li_0, li_1, li_2, li_3, li_4, li_5, li_6, li_7, li_8, li_9, li_10, li_20, li_30, li_82, li_91, li_273, li_380, li_400, li_512, li_1000, li_2457, li_4000, nI_add, nI_1, nI_mul, nI_sub, shl_1, shl_1b, nI_leP, nI_ltP, nI_eqP, Nat.not_le, Nat.not_lt] at c_4
        refine Ok.bd _ (rX12_neighbours hT (by first | with_reducible assumption | (simp (disch := omega) only [li_0, li_1, li_2, li_3, li_4, li_5, li_6, li_7, li_8, li_9, li_10, li_20, li_30, li_82, li_91, li_273, li_380, li_400, li_512, li_1000, li_2457, li_4000, nI_add, nI_1, nI_mul, nI_sub, shl_1, shl_1b, nI_or, nI_xor, nI_and]; with_reducible exact ⟨_, (by first | omega | exact or9 (by omega) (by omega) | exact xor9 (by omega) (by omega)), rfl⟩) | with_reducible exact ⟨_, (by first | omega | exact or9 (by omega) (by omega) | exact xor9 (by omega) (by omega)), rfl⟩ | exact IsR.mn (by first | with_reducible assumption | exact ⟨_, by omega, rfl⟩) (by first | with_reducible assumption | exact ⟨_, by omega, rfl⟩) | exact IsR.mx (by first | with_reducible assumption | exact ⟨_, by omega, rfl⟩) (by first | with_reducible assumption | exact ⟨_, by omega, rfl⟩) | with_reducible exact mn9 (by omega) | (simp (disch := omega) only [li_0, li_1, li_2, li_3, li_4, li_5, li_6, li_7, li_8, li_9, li_10, li_20, li_30, li_82, li_91, li_273, li_380, li_400, li_512, li_1000, li_2457, li_4000, nI_add, nI_1, nI_mul, nI_sub, shl_1, shl_1b]; with_reducible exact mn9b (by omega))) (by first | with_reducible assumption | (simp (disch := omega) only [li_0, li_1, li_2, li_3, li_4, li_5, li_6, li_7, li_8, li_9, li_10, li_20, li_30, li_82, li_91, li_273, li_380, li_400, li_512, li_1000, li_2457, li_4000, nI_add, nI_1, nI_mul, nI_sub, shl_1, shl_1b, nI_or, nI_xor, nI_and]; with_reducible exact ⟨_, (by first | omega | exact or9 (by omega) (by omega) | exact xor9 (by omega) (by omega)), rfl⟩) | with_reducible exact ⟨_, (by first | omega | exact or9 (by omega) (by omega) | exact xor9 (by omega) (by omega)), rfl⟩ | exact IsR.mn (by first | with_reducible assumption | exact ⟨_, by omega, rfl⟩) (by first | with_reducible assumption | exact ⟨_, by omega, rfl⟩) | exact IsR.mx (by first | with_reducible assumption | exact ⟨_, by omega, rfl⟩) (by first | with_reducible assumption | exact ⟨_, by omega, rfl⟩) | with_reducible exact mn9 (by omega) | (simp (disch := omega) only [li_0, li_1, li_2, li_3, li_4, li_5, li_6, li_7, li_8, li_9, li_10, li_20, li_30, li_82, li_91, li_273, li_380, li_400, li_512, li_1000, li_2457, li_4000, nI_add, nI_1, nI_mul, nI_sub, shl_1, shl_1b]; with_reducible exact mn9b (by omega)))) ?_
        rintro v16 _ ⟨rfl, hxv16⟩
        refine Ok.bd _ (rX12_ones hT) ?_
        rintro v19 _ ⟨rfl, hxv19⟩
        exact Ok.ret ⟨rfl, True.intro⟩
    · intro v12 t13 hx
      obtain ⟨rfl, hxv12⟩ := hx
      exact Ok.ret ⟨5000 - (j + 1), by omega, rfl, ⟨j + 1, nI_1 j, by omega, by omega, rfl⟩⟩
set_option maxHeartbeats 4000000 in
set_option maxRecDepth 100000 in
theorem rX12_fillOf {t : St} (hT : TY t) {a : Int32} (h_a : IsR 3 a) {b : Int32} {c : Int32} (h_c : IsR 9 c) : Ok (FX12_fillOf a b c t) (fun r u => t = u ∧ (True)) := by
  obtain ⟨k_a, h_a, rfl⟩ := h_a
  obtain ⟨k_c, h_c, rfl⟩ := h_c
  unfold FX12_fillOf
  refine Ok.bd _ (rX12_neighbours hT (by first | with_reducible assumption | (simp (disch := omega) only [li_0, li_1, li_2, li_3, li_4, li_5, li_6, li_7, li_8, li_9, li_10, li_20, li_30, li_82, li_91, li_273, li_380, li_400, li_512, li_1000, li_2457, li_4000, nI_add, nI_1, nI_mul, nI_sub, shl_1, shl_1b, nI_or, nI_xor, nI_and]; with_reducible exact ⟨_, (by first | omega | exact or9 (by omega) (by omega) | exact xor9 (by omega) (by omega)), rfl⟩) | with_reducible exact ⟨_, (by first | omega | exact or9 (by omega) (by omega) | exact xor9 (by omega) (by omega)), rfl⟩ | exact IsR.mn (by first | with_reducible assumption | exact ⟨_, by omega, rfl⟩) (by first | with_reducible assumption | exact ⟨_, by omega, rfl⟩) | exact IsR.mx (by first | with_reducible assumption | exact ⟨_, by omega, rfl⟩) (by first | with_reducible assumption | exact ⟨_, by omega, rfl⟩) | with_reducible exact mn9 (by omega) | (simp (disch := omega) only [li_0, li_1, li_2, li_3, li_4, li_5, li_6, li_7, li_8, li_9, li_10, li_20, li_30, li_82, li_91, li_273, li_380, li_400, li_512, li_1000, li_2457, li_4000, nI_add, nI_1, nI_mul, nI_sub, shl_1, shl_1b]; with_reducible exact mn9b (by omega))) (by first | with_reducible assumption | (simp (disch := omega) only [li_0, li_1, li_2, li_3, li_4, li_5, li_6, li_7, li_8, li_9, li_10, li_20, li_30, li_82, li_91, li_273, li_380, li_400, li_512, li_1000, li_2457, li_4000, nI_add, nI_1, nI_mul, nI_sub, shl_1, shl_1b, nI_or, nI_xor, nI_and]; with_reducible exact ⟨_, (by first | omega | exact or9 (by omega) (by omega) | exact xor9 (by omega) (by omega)), rfl⟩) | with_reducible exact ⟨_, (by first | omega | exact or9 (by omega) (by omega) | exact xor9 (by omega) (by omega)), rfl⟩ | exact IsR.mn (by first | with_reducible assumption | exact ⟨_, by omega, rfl⟩) (by first | with_reducible assumption | exact ⟨_, by omega, rfl⟩) | exact IsR.mx (by first | with_reducible assumption | exact ⟨_, by omega, rfl⟩) (by first | with_reducible assumption | exact ⟨_, by omega, rfl⟩) | with_reducible exact mn9 (by omega) | (simp (disch := omega) only [li_0, li_1, li_2, li_3, li_4, li_5, li_6, li_7, li_8, li_9, li_10, li_20, li_30, li_82, li_91, li_273, li_380, li_400, li_512, li_1000, li_2457, li_4000, nI_add, nI_1, nI_mul, nI_sub, shl_1, shl_1b]; with_reducible exact mn9b (by omega)))) ?_
  rintro v1 _ ⟨rfl, hxv1⟩
  refine Ok.bd _ (rSX12_fillOf_15 hT (by first | with_reducible assumption | (simp (disch := omega) only [li_0, li_1, li_2, li_3, li_4, li_5, li_6, li_7, li_8, li_9, li_10, li_20, li_30, li_82, li_91, li_273, li_380, li_400, li_512, li_1000, li_2457, li_4000, nI_add, nI_1, nI_mul, nI_sub, shl_1, shl_1b, nI_or, nI_xor, nI_and]; with_reducible exact ⟨_, (by first | omega | exact or9 (by omega) (by omega) | exact xor9 (by omega) (by omega)), rfl⟩) | with_reducible exact ⟨_, (by first | omega | exact or9 (by omega) (by omega) | exact xor9 (by omega) (by omega)), rfl⟩ | exact IsR.mn (by first | with_reducible assumption | exact ⟨_, by omega, rfl⟩) (by first | with_reducible assumption | exact ⟨_, by omega, rfl⟩) | exact IsR.mx (by first | with_reducible assumption | exact ⟨_, by omega, rfl⟩) (by first | with_reducible assumption | exact ⟨_, by omega, rfl⟩) | with_reducible exact mn9 (by omega) | (simp (disch := omega) only [li_0, li_1, li_2, li_3, li_4, li_5, li_6, li_7, li_8, li_9, li_10, li_20, li_30, li_82, li_91, li_273, li_380, li_400, li_512, li_1000, li_2457, li_4000, nI_add, nI_1, nI_mul, nI_sub, shl_1, shl_1b]; with_reducible exact mn9b (by omega))) (by show IsR 5001 _; first | with_reducible assumption | (simp (disch := omega) only [li_0, li_1, li_2, li_3, li_4, li_5, li_6, li_7, li_8, li_9, li_10, li_20, li_30, li_82, li_91, li_273, li_380, li_400, li_512, li_1000, li_2457, li_4000, nI_add, nI_1, nI_mul, nI_sub, shl_1, shl_1b, nI_or, nI_xor, nI_and]; with_reducible exact ⟨_, (by first | omega | exact or9 (by omega) (by omega) | exact xor9 (by omega) (by omega)), rfl⟩) | with_reducible exact ⟨_, (by first | omega | exact or9 (by omega) (by omega) | exact xor9 (by omega) (by omega)), rfl⟩ | exact IsR.mn (by first | with_reducible assumption | exact ⟨_, by omega, rfl⟩) (by first | with_reducible assumption | exact ⟨_, by omega, rfl⟩) | exact IsR.mx (by first | with_reducible assumption | exact ⟨_, by omega, rfl⟩) (by first | with_reducible assumption | exact ⟨_, by omega, rfl⟩) | with_reducible exact mn9 (by omega) | (simp (disch := omega) only [li_0, li_1, li_2, li_3, li_4, li_5, li_6, li_7, li_8, li_9, li_10, li_20, li_30, li_82, li_91, li_273, li_380, li_400, li_512, li_1000, li_2457, li_4000, nI_add, nI_1, nI_mul, nI_sub, shl_1, shl_1b]; with_reducible exact mn9b (by omega)))) ?_
  rintro e22 _ ⟨rfl, hxe22⟩
  exact Ok.ret ⟨rfl, True.intro⟩
set_option maxHeartbeats 4000000 in
set_option maxRecDepth 100000 in
theorem rX12_cost {t : St} (hT : TY t) {a : Int32} (h_a : IsR 3 a) {b : Int32} {c : Int32} {d : Int32} (h_d : IsR 9 d) : Ok (FX12_cost a b c d t) (fun r u => t = u ∧ (True)) := by
  obtain ⟨k_a, h_a, rfl⟩ := h_a
  obtain ⟨k_d, h_d, rfl⟩ := h_d
  unfold FX12_cost
  refine Ok.ite (fun c_1 => ?_) (fun c_1 => ?_)
  · try simp (disch := omega) only [li_0, li_1, li_2, li_3, li_4, li_5, li_6, li_7, li_8, li_9, li_10, li_20, li_30, li_82, li_91, li_273, li_380, li_400, li_512, li_1000, li_2457, li_4000, nI_add, nI_1, nI_mul, nI_sub, shl_1, shl_1b, nI_leP, nI_ltP, nI_eqP, Nat.not_le, Nat.not_lt] at c_1
    refine Ok.bd _ (rX12_neighbours hT (by first | with_reducible assumption | (simp (disch := omega) only [li_0, li_1, li_2, li_3, li_4, li_5, li_6, li_7, li_8, li_9, li_10, li_20, li_30, li_82, li_91, li_273, li_380, li_400, li_512, li_1000, li_2457, li_4000, nI_add, nI_1, nI_mul, nI_sub, shl_1, shl_1b, nI_or, nI_xor, nI_and]; with_reducible exact ⟨_, (by first | omega | exact or9 (by omega) (by omega) | exact xor9 (by omega) (by omega)), rfl⟩) | with_reducible exact ⟨_, (by first | omega | exact or9 (by omega) (by omega) | exact xor9 (by omega) (by omega)), rfl⟩ | exact IsR.mn (by first | with_reducible assumption | exact ⟨_, by omega, rfl⟩) (by first | with_reducible assumption | exact ⟨_, by omega, rfl⟩) | exact IsR.mx (by first | with_reducible assumption | exact ⟨_, by omega, rfl⟩) (by first | with_reducible assumption | exact ⟨_, by omega, rfl⟩) | with_reducible exact mn9 (by omega) | (simp (disch := omega) only [li_0, li_1, li_2, li_3, li_4, li_5, li_6, li_7, li_8, li_9, li_10, li_20, li_30, li_82, li_91, li_273, li_380, li_400, li_512, li_1000, li_2457, li_4000, nI_add, nI_1, nI_mul, nI_sub, shl_1, shl_1b]; with_reducible exact mn9b (by omega))) (by first | with_reducible assumption | (simp (disch := omega) only [li_0, li_1, li_2, li_3, li_4, li_5, li_6, li_7, li_8, li_9, li_10, li_20, li_30, li_82, li_91, li_273, li_380, li_400, li_512, li_1000, li_2457, li_4000, nI_add, nI_1, nI_mul, nI_sub, shl_1, shl_1b, nI_or, nI_xor, nI_and]; with_reducible exact ⟨_, (by first | omega | exact or9 (by omega) (by omega) | exact xor9 (by omega) (by omega)), rfl⟩) | with_reducible exact ⟨_, (by first | omega | exact or9 (by omega) (by omega) | exact xor9 (by omega) (by omega)), rfl⟩ | exact IsR.mn (by first | with_reducible assumption | exact ⟨_, by omega, rfl⟩) (by first | with_reducible assumption | exact ⟨_, by omega, rfl⟩) | exact IsR.mx (by first | with_reducible assumption | exact ⟨_, by omega, rfl⟩) (by first | with_reducible assumption | exact ⟨_, by omega, rfl⟩) | with_reducible exact mn9 (by omega) | (simp (disch := omega) only [li_0, li_1, li_2, li_3, li_4, li_5, li_6, li_7, li_8, li_9, li_10, li_20, li_30, li_82, li_91, li_273, li_380, li_400, li_512, li_1000, li_2457, li_4000, nI_add, nI_1, nI_mul, nI_sub, shl_1, shl_1b]; with_reducible exact mn9b (by omega)))) ?_
    rintro v22 _ ⟨rfl, hxv22⟩
    refine Ok.bd _ (rX12_ones hT) ?_
    rintro v25 _ ⟨rfl, hxv25⟩
    exact Ok.ret ⟨rfl, True.intro⟩
  · try simp (disch := omega) only [li_0, li_1, li_2, li_3, li_4, li_5, li_6, li_7, li_8, li_9, li_10, li_20, li_30, li_82, li_91, li_273, li_380, li_400, li_512, li_1000, li_2457, li_4000, nI_add, nI_1, nI_mul, nI_sub, shl_1, shl_1b, nI_leP, nI_ltP, nI_eqP, Nat.not_le, Nat.not_lt] at c_1
    refine Ok.ite (fun c_4 => ?_) (fun c_4 => ?_)
    · try simp (disch := omega) only [li_0, li_1, li_2, li_3, li_4, li_5, li_6, li_7, li_8, li_9, li_10, li_20, li_30, li_82, li_91, li_273, li_380, li_400, li_512, li_1000, li_2457, li_4000, nI_add, nI_1, nI_mul, nI_sub, shl_1, shl_1b, nI_leP, nI_ltP, nI_eqP, Nat.not_le, Nat.not_lt] at c_4
      refine Ok.bd _ (rX12_fillOf hT (by first | with_reducible assumption | (simp (disch := omega) only [li_0, li_1, li_2, li_3, li_4, li_5, li_6, li_7, li_8, li_9, li_10, li_20, li_30, li_82, li_91, li_273, li_380, li_400, li_512, li_1000, li_2457, li_4000, nI_add, nI_1, nI_mul, nI_sub, shl_1, shl_1b, nI_or, nI_xor, nI_and]; with_reducible exact ⟨_, (by first | omega | exact or9 (by omega) (by omega) | exact xor9 (by omega) (by omega)), rfl⟩) | with_reducible exact ⟨_, (by first | omega | exact or9 (by omega) (by omega) | exact xor9 (by omega) (by omega)), rfl⟩ | exact IsR.mn (by first | with_reducible assumption | exact ⟨_, by omega, rfl⟩) (by first | with_reducible assumption | exact ⟨_, by omega, rfl⟩) | exact IsR.mx (by first | with_reducible assumption | exact ⟨_, by omega, rfl⟩) (by first | with_reducible assumption | exact ⟨_, by omega, rfl⟩) | with_reducible exact mn9 (by omega) | (simp (disch := omega) only [li_0, li_1, li_2, li_3, li_4, li_5, li_6, li_7, li_8, li_9, li_10, li_20, li_30, li_82, li_91, li_273, li_380, li_400, li_512, li_1000, li_2457, li_4000, nI_add, nI_1, nI_mul, nI_sub, shl_1, shl_1b]; with_reducible exact mn9b (by omega))) (by first | with_reducible assumption | (simp (disch := omega) only [li_0, li_1, li_2, li_3, li_4, li_5, li_6, li_7, li_8, li_9, li_10, li_20, li_30, li_82, li_91, li_273, li_380, li_400, li_512, li_1000, li_2457, li_4000, nI_add, nI_1, nI_mul, nI_sub, shl_1, shl_1b, nI_or, nI_xor, nI_and]; with_reducible exact ⟨_, (by first | omega | exact or9 (by omega) (by omega) | exact xor9 (by omega) (by omega)), rfl⟩) | with_reducible exact ⟨_, (by first | omega | exact or9 (by omega) (by omega) | exact xor9 (by omega) (by omega)), rfl⟩ | exact IsR.mn (by first | with_reducible assumption | exact ⟨_, by omega, rfl⟩) (by first | with_reducible assumption | exact ⟨_, by omega, rfl⟩) | exact IsR.mx (by first | with_reducible assumption | exact ⟨_, by omega, rfl⟩) (by first | with_reducible assumption | exact ⟨_, by omega, rfl⟩) | with_reducible exact mn9 (by omega) | (simp (disch := omega) only [li_0, li_1, li_2, li_3, li_4, li_5, li_6, li_7, li_8, li_9, li_10, li_20, li_30, li_82, li_91, li_273, li_380, li_400, li_512, li_1000, li_2457, li_4000, nI_add, nI_1, nI_mul, nI_sub, shl_1, shl_1b]; with_reducible exact mn9b (by omega)))) ?_
      rintro v18 _ ⟨rfl, hxv18⟩
      exact Ok.ret ⟨rfl, True.intro⟩
    · try simp (disch := omega) only [li_0, li_1, li_2, li_3, li_4, li_5, li_6, li_7, li_8, li_9, li_10, li_20, li_30, li_82, li_91, li_273, li_380, li_400, li_512, li_1000, li_2457, li_4000, nI_add, nI_1, nI_mul, nI_sub, shl_1, shl_1b, nI_leP, nI_ltP, nI_eqP, Nat.not_le, Nat.not_lt] at c_4
      refine Ok.bd _ (rX12_points hT (by first | with_reducible assumption | (simp (disch := omega) only [li_0, li_1, li_2, li_3, li_4, li_5, li_6, li_7, li_8, li_9, li_10, li_20, li_30, li_82, li_91, li_273, li_380, li_400, li_512, li_1000, li_2457, li_4000, nI_add, nI_1, nI_mul, nI_sub, shl_1, shl_1b, nI_or, nI_xor, nI_and]; with_reducible exact ⟨_, (by first | omega | exact or9 (by omega) (by omega) | exact xor9 (by omega) (by omega)), rfl⟩) | with_reducible exact ⟨_, (by first | omega | exact or9 (by omega) (by omega) | exact xor9 (by omega) (by omega)), rfl⟩ | exact IsR.mn (by first | with_reducible assumption | exact ⟨_, by omega, rfl⟩) (by first | with_reducible assumption | exact ⟨_, by omega, rfl⟩) | exact IsR.mx (by first | with_reducible assumption | exact ⟨_, by omega, rfl⟩) (by first | with_reducible assumption | exact ⟨_, by omega, rfl⟩) | with_reducible exact mn9 (by omega) | (simp (disch := omega) only [li_0, li_1, li_2, li_3, li_4, li_5, li_6, li_7, li_8, li_9, li_10, li_20, li_30, li_82, li_91, li_273, li_380, li_400, li_512, li_1000, li_2457, li_4000, nI_add, nI_1, nI_mul, nI_sub, shl_1, shl_1b]; with_reducible exact mn9b (by omega)))) ?_
      rintro _ _ ⟨rfl, kv3, hv3, rfl⟩
      refine Ok.ite (fun c_7 => ?_) (fun c_7 => ?_)
      · try simp (disch := omega) only [li_0, li_1, li_2, li_3, li_4, li_5, li_6, li_7, li_8, li_9, li_10, li_20, li_30, li_82, li_91, li_273, li_380, li_400, li_512, li_1000, li_2457, li_4000, nI_add, nI_1, nI_mul, nI_sub, shl_1, shl_1b, nI_leP, nI_ltP, nI_eqP, Nat.not_le, Nat.not_lt] at c_7
        exact Ok.ret ⟨rfl, True.intro⟩
      · try simp (disch := omega) only [li_0, li_1, li_2, li_3, li_4, li_5, li_6, li_7, li_8, li_9, li_10, li_20, li_30, li_82, li_91, li_273, li_380, li_400, li_512, li_1000, li_2457, li_4000, nI_add, nI_1, nI_mul, nI_sub, shl_1, shl_1b, nI_leP, nI_ltP, nI_eqP, Nat.not_le, Nat.not_lt] at c_7
        refine Ok.bd (fun (v8 : Int32) t9 => t = t9 ∧ (True)) ?_ ?_
        · refine Ok.ite (fun c_8 => ?_) (fun c_8 => ?_)
          · try simp (disch := omega) only [li_0, li_1, li_2, li_3, li_4, li_5, li_6, li_7, li_8, li_9, li_10, li_20, li_30, li_82, li_91, li_273, li_380, li_400, li_512, li_1000, li_2457, li_4000, nI_add, nI_1, nI_mul, nI_sub, shl_1, shl_1b, nI_leP, nI_ltP, nI_eqP, Nat.not_le, Nat.not_lt] at c_8
            exact Ok.ret ⟨rfl, True.intro⟩
          · try simp (disch := omega) only [li_0, li_1, li_2, li_3, li_4, li_5, li_6, li_7, li_8, li_9, li_10, li_20, li_30, li_82, li_91, li_273, li_380, li_400, li_512, li_1000, li_2457, li_4000, nI_add, nI_1, nI_mul, nI_sub, shl_1, shl_1b, nI_leP, nI_ltP, nI_eqP, Nat.not_le, Nat.not_lt] at c_8
            refine Ok.ite (fun c_9 => ?_) (fun c_9 => ?_)
            · try simp (disch := omega) only [li_0, li_1, li_2, li_3, li_4, li_5, li_6, li_7, li_8, li_9, li_10, li_20, li_30, li_82, li_91, li_273, li_380, li_400, li_512, li_1000, li_2457, li_4000, nI_add, nI_1, nI_mul, nI_sub, shl_1, shl_1b, nI_leP, nI_ltP, nI_eqP, Nat.not_le, Nat.not_lt] at c_9
              exact Ok.ret ⟨rfl, True.intro⟩
            · try simp (disch := omega) only [li_0, li_1, li_2, li_3, li_4, li_5, li_6, li_7, li_8, li_9, li_10, li_20, li_30, li_82, li_91, li_273, li_380, li_400, li_512, li_1000, li_2457, li_4000, nI_add, nI_1, nI_mul, nI_sub, shl_1, shl_1b, nI_leP, nI_ltP, nI_eqP, Nat.not_le, Nat.not_lt] at c_9
              exact Ok.ret ⟨rfl, True.intro⟩
        · intro v8 t9 hx
          obtain ⟨rfl, hxv8⟩ := hx
          refine Ok.bd _ (rX12_splitOf hT (by first | with_reducible assumption | (simp (disch := omega) only [li_0, li_1, li_2, li_3, li_4, li_5, li_6, li_7, li_8, li_9, li_10, li_20, li_30, li_82, li_91, li_273, li_380, li_400, li_512, li_1000, li_2457, li_4000, nI_add, nI_1, nI_mul, nI_sub, shl_1, shl_1b, nI_or, nI_xor, nI_and]; with_reducible exact ⟨_, (by first | omega | exact or9 (by omega) (by omega) | exact xor9 (by omega) (by omega)), rfl⟩) | with_reducible exact ⟨_, (by first | omega | exact or9 (by omega) (by omega) | exact xor9 (by omega) (by omega)), rfl⟩ | exact IsR.mn (by first | with_reducible assumption | exact ⟨_, by omega, rfl⟩) (by first | with_reducible assumption | exact ⟨_, by omega, rfl⟩) | exact IsR.mx (by first | with_reducible assumption | exact ⟨_, by omega, rfl⟩) (by first | with_reducible assumption | exact ⟨_, by omega, rfl⟩) | with_reducible exact mn9 (by omega) | (simp (disch := omega) only [li_0, li_1, li_2, li_3, li_4, li_5, li_6, li_7, li_8, li_9, li_10, li_20, li_30, li_82, li_91, li_273, li_380, li_400, li_512, li_1000, li_2457, li_4000, nI_add, nI_1, nI_mul, nI_sub, shl_1, shl_1b]; with_reducible exact mn9b (by omega)))) ?_
          rintro v12 _ ⟨rfl, hxv12⟩
          exact Ok.ret ⟨rfl, True.intro⟩
set_option maxHeartbeats 4000000 in
set_option maxRecDepth 100000 in
theorem rSX12_bandOf_16 {t : St} (hT : TY t) {w1 : Int32} (h_w1 : IsR 3 w1) {w3 : Int32} (h_w3 : IsR 9 w3) {a0 : Int32} {a1 : Int32} (h_a1 : IsR 5001 a1) : Ok (wh (SX12_bandOf_16 w1 w3) (a0, a1) t) (fun r u => t = u ∧ (True)) := by
  obtain ⟨j0, hj0, rfl⟩ := h_a1
  refine Ok.loop (fun k c s => t = s ∧ (∃ j, c.2 = nI j ∧ j ≤ 5000 ∧ 0 ≤ j ∧ k = 5000 - j)) ?_ (5000 - j0) _ _ ⟨rfl, ⟨j0, rfl, by omega, by omega, rfl⟩⟩
  obtain ⟨k_w1, h_w1, rfl⟩ := h_w1
  obtain ⟨k_w3, h_w3, rfl⟩ := h_w3
  clear hj0
  intro k c s hI
  obtain ⟨rfl, ⟨j, ej, hj, hlo, rfl⟩⟩ := hI
  obtain ⟨c0, c1⟩ := c
  dsimp only at ej
  subst ej
  unfold SX12_bandOf_16
  dsimp only
  refine Ok.ite (fun c_1 => ?_) (fun c_1 => ?_)
  · try simp (disch := omega) only [li_0, li_1, li_2, li_3, li_4, li_5, li_6, li_7, li_8, li_9, li_10, li_20, li_30, li_82, li_91, li_273, li_380, li_400, li_512, li_1000, li_2457, li_4000, nI_add, nI_1, nI_mul, nI_sub, shl_1, shl_1b, nI_leP, nI_ltP, nI_eqP, Nat.not_le, Nat.not_lt] at c_1
    exact Ok.ret ⟨rfl, True.intro⟩
  · try simp (disch := omega) only [li_0, li_1, li_2, li_3, li_4, li_5, li_6, li_7, li_8, li_9, li_10, li_20, li_30, li_82, li_91, li_273, li_380, li_400, li_512, li_1000, li_2457, li_4000, nI_add, nI_1, nI_mul, nI_sub, shl_1, shl_1b, nI_leP, nI_ltP, nI_eqP, Nat.not_le, Nat.not_lt] at c_1
    refine Ok.ck (by first | (simp (disch := omega) only [li_0, li_1, li_2, li_3, li_4, li_5, li_6, li_7, li_8, li_9, li_10, li_20, li_30, li_82, li_91, li_273, li_380, li_400, li_512, li_1000, li_2457, li_4000, nI_add, nI_1, nI_mul, nI_sub, shl_1, shl_1b, nI_or, nI_xor, nI_and]; with_reducible exact inb_n (by first | omega | exact or9 (by omega) (by omega) | exact xor9 (by omega) (by omega)) (by omega)) | with_reducible exact inb_n (by omega) (by omega) | exact IsR.ib (by with_reducible assumption) (by decide) | decide) (fun g_2 => ?_)
    refine Ok.rdT hT (ty_a154 (inb_lt g_2)) (by omega) (fun k_3 hk_3 ek_3 => ?_)
    refine Ok.ck (by first | (simp (disch := omega) only [li_0, li_1, li_2, li_3, li_4, li_5, li_6, li_7, li_8, li_9, li_10, li_20, li_30, li_82, li_91, li_273, li_380, li_400, li_512, li_1000, li_2457, li_4000, nI_add, nI_1, nI_mul, nI_sub, shl_1, shl_1b, nI_or, nI_xor, nI_and]; with_reducible exact inb_n (by first | omega | exact or9 (by omega) (by omega) | exact xor9 (by omega) (by omega)) (by omega)) | with_reducible exact inb_n (by omega) (by omega) | exact IsR.ib (by with_reducible assumption) (by decide) | decide) (fun g_4 => ?_)
    refine Ok.rdT hT (ty_a154 (inb_lt g_4)) (by omega) (fun k_5 hk_5 ek_5 => ?_)
    refine Ok.bd _ (rX12_weight hT (by first | with_reducible assumption | (simp (disch := omega) only [li_0, li_1, li_2, li_3, li_4, li_5, li_6, li_7, li_8, li_9, li_10, li_20, li_30, li_82, li_91, li_273, li_380, li_400, li_512, li_1000, li_2457, li_4000, nI_add, nI_1, nI_mul, nI_sub, shl_1, shl_1b, nI_or, nI_xor, nI_and]; with_reducible exact ⟨_, (by first | omega | exact or9 (by omega) (by omega) | exact xor9 (by omega) (by omega)), rfl⟩) | with_reducible exact ⟨_, (by first | omega | exact or9 (by omega) (by omega) | exact xor9 (by omega) (by omega)), rfl⟩ | exact IsR.mn (by first | with_reducible assumption | exact ⟨_, by omega, rfl⟩) (by first | with_reducible assumption | exact ⟨_, by omega, rfl⟩) | exact IsR.mx (by first | with_reducible assumption | exact ⟨_, by omega, rfl⟩) (by first | with_reducible assumption | exact ⟨_, by omega, rfl⟩) | with_reducible exact mn9 (by omega) | (simp (disch := omega) only [li_0, li_1, li_2, li_3, li_4, li_5, li_6, li_7, li_8, li_9, li_10, li_20, li_30, li_82, li_91, li_273, li_380, li_400, li_512, li_1000, li_2457, li_4000, nI_add, nI_1, nI_mul, nI_sub, shl_1, shl_1b]; with_reducible exact mn9b (by omega))) (by first | with_reducible assumption | (simp (disch := omega) only [li_0, li_1, li_2, li_3, li_4, li_5, li_6, li_7, li_8, li_9, li_10, li_20, li_30, li_82, li_91, li_273, li_380, li_400, li_512, li_1000, li_2457, li_4000, nI_add, nI_1, nI_mul, nI_sub, shl_1, shl_1b, nI_or, nI_xor, nI_and]; with_reducible exact ⟨_, (by first | omega | exact or9 (by omega) (by omega) | exact xor9 (by omega) (by omega)), rfl⟩) | with_reducible exact ⟨_, (by first | omega | exact or9 (by omega) (by omega) | exact xor9 (by omega) (by omega)), rfl⟩ | exact IsR.mn (by first | with_reducible assumption | exact ⟨_, by omega, rfl⟩) (by first | with_reducible assumption | exact ⟨_, by omega, rfl⟩) | exact IsR.mx (by first | with_reducible assumption | exact ⟨_, by omega, rfl⟩) (by first | with_reducible assumption | exact ⟨_, by omega, rfl⟩) | with_reducible exact mn9 (by omega) | (simp (disch := omega) only [li_0, li_1, li_2, li_3, li_4, li_5, li_6, li_7, li_8, li_9, li_10, li_20, li_30, li_82, li_91, li_273, li_380, li_400, li_512, li_1000, li_2457, li_4000, nI_add, nI_1, nI_mul, nI_sub, shl_1, shl_1b]; with_reducible exact mn9b (by omega))) (by first | with_reducible assumption | (simp (disch := omega) only [li_0, li_1, li_2, li_3, li_4, li_5, li_6, li_7, li_8, li_9, li_10, li_20, li_30, li_82, li_91, li_273, li_380, li_400, li_512, li_1000, li_2457, li_4000, nI_add, nI_1, nI_mul, nI_sub, shl_1, shl_1b, nI_or, nI_xor, nI_and]; with_reducible exact ⟨_, (by first | omega | exact or9 (by omega) (by omega) | exact xor9 (by omega) (by omega)), rfl⟩) | with_reducible exact ⟨_, (by first | omega | exact or9 (by omega) (by omega) | exact xor9 (by omega) (by omega)), rfl⟩ | exact IsR.mn (by first | with_reducible assumption | exact ⟨_, by omega, rfl⟩) (by first | with_reducible assumption | exact ⟨_, by omega, rfl⟩) | exact IsR.mx (by first | with_reducible assumption | exact ⟨_, by omega, rfl⟩) (by first | with_reducible assumption | exact ⟨_, by omega, rfl⟩) | with_reducible exact mn9 (by omega) | (simp (disch := omega) only [li_0, li_1, li_2, li_3, li_4, li_5, li_6, li_7, li_8, li_9, li_10, li_20, li_30, li_82, li_91, li_273, li_380, li_400, li_512, li_1000, li_2457, li_4000, nI_add, nI_1, nI_mul, nI_sub, shl_1, shl_1b]; with_reducible exact mn9b (by omega)))) ?_
    rintro _ _ ⟨rfl, kv12, hv12, rfl⟩
    refine Ok.bd (fun (v16 : Int32) t17 => t = t17 ∧ (True)) ?_ ?_
    · refine Ok.ite (fun c_7 => ?_) (fun c_7 => ?_)
      · try simp (disch := omega) only [li_0, li_1, li_2, li_3, li_4, li_5, li_6, li_7, li_8, li_9, li_10, li_20, li_30, li_82, li_91, li_273, li_380, li_400, li_512, li_1000, li_2457, li_4000, nI_add, nI_1, nI_mul, nI_sub, shl_1, shl_1b, nI_leP, nI_ltP, nI_eqP, Nat.not_le, Nat.not_lt] at c_7
        exact Ok.ret ⟨rfl, True.intro⟩
      · try simp (disch := omega) only [li_0, li_1, li_2, li_3, li_4, li_5, li_6, li_7, li_8, li_9, li_10, li_20, li_30, li_82, li_91, li_273, li_380, li_400, li_512, li_1000, li_2457, li_4000, nI_add, nI_1, nI_mul, nI_sub, shl_1, shl_1b, nI_leP, nI_ltP, nI_eqP, Nat.not_le, Nat.not_lt] at c_7
        exact Ok.ret ⟨rfl, True.intro⟩
    · intro v16 t17 hx
      obtain ⟨rfl, hxv16⟩ := hx
      exact Ok.ret ⟨5000 - (j + 1), by omega, rfl, ⟨j + 1, nI_1 j, by omega, by omega, rfl⟩⟩
set_option maxHeartbeats 4000000 in
set_option maxRecDepth 100000 in
theorem rSX12_bandOf_4 {t : St} (hT : TY t) {w1 : Int32} (h_w1 : IsR 3 w1) {a0 : Int32} {a1 : Int32} (h_a1 : IsR 5001 a1) : Ok (wh (SX12_bandOf_4 w1) (a0, a1) t) (fun r u => t = u ∧ (True)) := by
  obtain ⟨j0, hj0, rfl⟩ := h_a1
  refine Ok.loop (fun k c s => t = s ∧ (∃ j, c.2 = nI j ∧ j ≤ 5000 ∧ 0 ≤ j ∧ k = 5000 - j)) ?_ (5000 - j0) _ _ ⟨rfl, ⟨j0, rfl, by omega, by omega, rfl⟩⟩
  obtain ⟨k_w1, h_w1, rfl⟩ := h_w1
  clear hj0
  intro k c s hI
  obtain ⟨rfl, ⟨j, ej, hj, hlo, rfl⟩⟩ := hI
  obtain ⟨c0, c1⟩ := c
  dsimp only at ej
  subst ej
  unfold SX12_bandOf_4
  dsimp only
  refine Ok.bd _ (rX12_points hT (by first | with_reducible assumption | (simp (disch := omega) only [li_0, li_1, li_2, li_3, li_4, li_5, li_6, li_7, li_8, li_9, li_10, li_20, li_30, li_82, li_91, li_273, li_380, li_400, li_512, li_1000, li_2457, li_4000, nI_add, nI_1, nI_mul, nI_sub, shl_1, shl_1b, nI_or, nI_xor, nI_and]; with_reducible exact ⟨_, (by first | omega | exact or9 (by omega) (by omega) | exact xor9 (by omega) (by omega)), rfl⟩) | with_reducible exact ⟨_, (by first | omega | exact or9 (by omega) (by omega) | exact xor9 (by omega) (by omega)), rfl⟩ | exact IsR.mn (by first | with_reducible assumption | exact ⟨_, by omega, rfl⟩) (by first | with_reducible assumption | exact ⟨_, by omega, rfl⟩) | exact IsR.mx (by first | with_reducible assumption | exact ⟨_, by omega, rfl⟩) (by first | with_reducible assumption | exact ⟨_, by omega, rfl⟩) | with_reducible exact mn9 (by omega) | (simp (disch := omega) only [li_0, li_1, li_2, li_3, li_4, li_5, li_6, li_7, li_8, li_9, li_10, li_20, li_30, li_82, li_91, li_273, li_380, li_400, li_512, li_1000, li_2457, li_4000, nI_add, nI_1, nI_mul, nI_sub, shl_1, shl_1b]; with_reducible exact mn9b (by omega)))) ?_
  rintro _ _ ⟨rfl, kv1, hv1, rfl⟩
  refine Ok.ite (fun c_2 => ?_) (fun c_2 => ?_)
  · try simp (disch := omega) only [li_0, li_1, li_2, li_3, li_4, li_5, li_6, li_7, li_8, li_9, li_10, li_20, li_30, li_82, li_91, li_273, li_380, li_400, li_512, li_1000, li_2457, li_4000, nI_add, nI_1, nI_mul, nI_sub, shl_1, shl_1b, nI_leP, nI_ltP, nI_eqP, Nat.not_le, Nat.not_lt] at c_2
    exact Ok.ret ⟨rfl, True.intro⟩
  · try simp (disch := omega) only [li_0, li_1, li_2, li_3, li_4, li_5, li_6, li_7, li_8, li_9, li_10, li_20, li_30, li_82, li_91, li_273, li_380, li_400, li_512, li_1000, li_2457, li_4000, nI_add, nI_1, nI_mul, nI_sub, shl_1, shl_1b, nI_leP, nI_ltP, nI_eqP, Nat.not_le, Nat.not_lt] at c_2
    refine Ok.bd _ (rSX12_bandOf_16 hT (by first | with_reducible assumption | (simp (disch := omega) only [li_0, li_1, li_2, li_3, li_4, li_5, li_6, li_7, li_8, li_9, li_10, li_20, li_30, li_82, li_91, li_273, li_380, li_400, li_512, li_1000, li_2457, li_4000, nI_add, nI_1, nI_mul, nI_sub, shl_1, shl_1b, nI_or, nI_xor, nI_and]; with_reducible exact ⟨_, (by first | omega | exact or9 (by omega) (by omega) | exact xor9 (by omega) (by omega)), rfl⟩) | with_reducible exact ⟨_, (by first | omega | exact or9 (by omega) (by omega) | exact xor9 (by omega) (by omega)), rfl⟩ | exact IsR.mn (by first | with_reducible assumption | exact ⟨_, by omega, rfl⟩) (by first | with_reducible assumption | exact ⟨_, by omega, rfl⟩) | exact IsR.mx (by first | with_reducible assumption | exact ⟨_, by omega, rfl⟩) (by first | with_reducible assumption | exact ⟨_, by omega, rfl⟩) | with_reducible exact mn9 (by omega) | (simp (disch := omega) only [li_0, li_1, li_2, li_3, li_4, li_5, li_6, li_7, li_8, li_9, li_10, li_20, li_30, li_82, li_91, li_273, li_380, li_400, li_512, li_1000, li_2457, li_4000, nI_add, nI_1, nI_mul, nI_sub, shl_1, shl_1b]; with_reducible exact mn9b (by omega))) (by first | with_reducible assumption | (simp (disch := omega) only [li_0, li_1, li_2, li_3, li_4, li_5, li_6, li_7, li_8, li_9, li_10, li_20, li_30, li_82, li_91, li_273, li_380, li_400, li_512, li_1000, li_2457, li_4000, nI_add, nI_1, nI_mul, nI_sub, shl_1, shl_1b, nI_or, nI_xor, nI_and]; with_reducible exact ⟨_, (by first | omega | exact or9 (by omega) (by omega) | exact xor9 (by omega) (by omega)), rfl⟩) | with_reducible exact ⟨_, (by first | omega | exact or9 (by omega) (by omega) | exact xor9 (by omega) (by omega)), rfl⟩ | exact IsR.mn (by first | with_reducible assumption | exact ⟨_, by omega, rfl⟩) (by first | with_reducible assumption | exact ⟨_, by omega, rfl⟩) | exact IsR.mx (by first | with_reducible assumption | exact ⟨_, by omega, rfl⟩) (by first | with_reducible assumption | exact ⟨_, by omega, rfl⟩) | with_reducible exact mn9 (by omega) | (simp (disch := omega) only [li_0, li_1, li_2, li_3, li_4, li_5, li_6, li_7, li_8, li_9, li_10, li_20, li_30, li_82, li_91, li_273, li_380, li_400, li_512, li_1000, li_2457, li_4000, nI_add, nI_1, nI_mul, nI_sub, shl_1, shl_1b]; with_reducible exact mn9b (by omega))) (by show IsR 5001 _; first | with_reducible assumption | (simp (disch := omega) only [li_0, li_1, li_2, li_3, li_4, li_5, li_6, li_7, li_8, li_9, li_10, li_20, li_30, li_82, li_91, li_273, li_380, li_400, li_512, li_1000, li_2457, li_4000, nI_add, nI_1, nI_mul, nI_sub, shl_1, shl_1b, nI_or, nI_xor, nI_and]; with_reducible exact ⟨_, (by first | omega | exact or9 (by omega) (by omega) | exact xor9 (by omega) (by omega)), rfl⟩) | with_reducible exact ⟨_, (by first | omega | exact or9 (by omega) (by omega) | exact xor9 (by omega) (by omega)), rfl⟩ | exact IsR.mn (by first | with_reducible assumption | exact ⟨_, by omega, rfl⟩) (by first | with_reducible assumption | exact ⟨_, by omega, rfl⟩) | exact IsR.mx (by first | with_reducible assumption | exact ⟨_, by omega, rfl⟩) (by first | with_reducible assumption | exact ⟨_, by omega, rfl⟩) | with_reducible exact mn9 (by omega) | (simp (disch := omega) only [li_0, li_1, li_2, li_3, li_4, li_5, li_6, li_7, li_8, li_9, li_10, li_20, li_30, li_82, li_91, li_273, li_380, li_400, li_512, li_1000, li_2457, li_4000, nI_add, nI_1, nI_mul, nI_sub, shl_1, shl_1b]; with_reducible exact mn9b (by omega)))) ?_
    rintro e20 _ ⟨rfl, hxe20⟩
    exact Ok.ret ⟨5000 - (j + 1), by omega, rfl, ⟨j + 1, nI_1 j, by omega, by omega, rfl⟩⟩
set_option maxHeartbeats 4000000 in
set_option maxRecDepth 100000 in
theorem rX12_bandOf {t : St} (hT : TY t) {a : Int32} (h_a : IsR 3 a) : Ok (FX12_bandOf a t) (fun r u => t = u ∧ (True)) := by
  obtain ⟨k_a, h_a, rfl⟩ := h_a
  unfold FX12_bandOf
  refine Ok.bd _ (rSX12_bandOf_4 hT (by first | with_reducible assumption | (simp (disch := omega) only [li_0, li_1, li_2, li_3, li_4, li_5, li_6, li_7, li_8, li_9, li_10, li_20, li_30, li_82, li_91, li_273, li_380, li_400, li_512, li_1000, li_2457, li_4000, nI_add, nI_1, nI_mul, nI_sub, shl_1, shl_1b, nI_or, nI_xor, nI_and]; with_reducible exact ⟨_, (by first | omega | exact or9 (by omega) (by omega) | exact xor9 (by omega) (by omega)), rfl⟩) | with_reducible exact ⟨_, (by first | omega | exact or9 (by omega) (by omega) | exact xor9 (by omega) (by omega)), rfl⟩ | exact IsR.mn (by first | with_reducible assumption | exact ⟨_, by omega, rfl⟩) (by first | with_reducible assumption | exact ⟨_, by omega, rfl⟩) | exact IsR.mx (by first | with_reducible assumption | exact ⟨_, by omega, rfl⟩) (by first | with_reducible assumption | exact ⟨_, by omega, rfl⟩) | with_reducible exact mn9 (by omega) | (simp (disch := omega) only [li_0, li_1, li_2, li_3, li_4, li_5, li_6, li_7, li_8, li_9, li_10, li_20, li_30, li_82, li_91, li_273, li_380, li_400, li_512, li_1000, li_2457, li_4000, nI_add, nI_1, nI_mul, nI_sub, shl_1, shl_1b]; with_reducible exact mn9b (by omega))) (by show IsR 5001 _; first | with_reducible assumption | (simp (disch := omega) only [li_0, li_1, li_2, li_3, li_4, li_5, li_6, li_7, li_8, li_9, li_10, li_20, li_30, li_82, li_91, li_273, li_380, li_400, li_512, li_1000, li_2457, li_4000, nI_add, nI_1, nI_mul, nI_sub, shl_1, shl_1b, nI_or, nI_xor, nI_and]; with_reducible exact ⟨_, (by first | omega | exact or9 (by omega) (by omega) | exact xor9 (by omega) (by omega)), rfl⟩) | with_reducible exact ⟨_, (by first | omega | exact or9 (by omega) (by omega) | exact xor9 (by omega) (by omega)), rfl⟩ | exact IsR.mn (by first | with_reducible assumption | exact ⟨_, by omega, rfl⟩) (by first | with_reducible assumption | exact ⟨_, by omega, rfl⟩) | exact IsR.mx (by first | with_reducible assumption | exact ⟨_, by omega, rfl⟩) (by first | with_reducible assumption | exact ⟨_, by omega, rfl⟩) | with_reducible exact mn9 (by omega) | (simp (disch := omega) only [li_0, li_1, li_2, li_3, li_4, li_5, li_6, li_7, li_8, li_9, li_10, li_20, li_30, li_82, li_91, li_273, li_380, li_400, li_512, li_1000, li_2457, li_4000, nI_add, nI_1, nI_mul, nI_sub, shl_1, shl_1b]; with_reducible exact mn9b (by omega)))) ?_
  rintro e24 _ ⟨rfl, hxe24⟩
  exact Ok.ret ⟨rfl, True.intro⟩
set_option maxHeartbeats 4000000 in
set_option maxRecDepth 100000 in
theorem rSX12_valueOf_19 {t : St} (hT : TY t) {w1 : Int32} (h_w1 : IsR 3 w1) {w2 : Int32} {a0 : Int32} {a1 : Int32} {a2 : Int32} (h_a2 : IsR 5001 a2) : Ok (wh (SX12_valueOf_19 w1 w2) (a0, a1, a2) t) (fun r u => t = u ∧ (True)) := by
  obtain ⟨j0, hj0, rfl⟩ := h_a2
  refine Ok.loop (fun k c s => t = s ∧ (∃ j, c.2.2 = nI j ∧ j ≤ 5000 ∧ 0 ≤ j ∧ k = 5000 - j)) ?_ (5000 - j0) _ _ ⟨rfl, ⟨j0, rfl, by omega, by omega, rfl⟩⟩
  obtain ⟨k_w1, h_w1, rfl⟩ := h_w1
  clear hj0
  intro k c s hI
  obtain ⟨rfl, ⟨j, ej, hj, hlo, rfl⟩⟩ := hI
  obtain ⟨c0, c1, c2⟩ := c
  dsimp only at ej
  subst ej
  unfold SX12_valueOf_19
  dsimp only
  refine Ok.bd _ (rX12_points hT (by first | with_reducible assumption | (simp (disch := omega) only [li_0, li_1, li_2, li_3, li_4, li_5, li_6, li_7, li_8, li_9, li_10, li_20, li_30, li_82, li_91, li_273, li_380, li_400, li_512, li_1000, li_2457, li_4000, nI_add, nI_1, nI_mul, nI_sub, shl_1, shl_1b, nI_or, nI_xor, nI_and]; with_reducible exact ⟨_, (by first | omega | exact or9 (by omega) (by omega) | exact xor9 (by omega) (by omega)), rfl⟩) | with_reducible exact ⟨_, (by first | omega | exact or9 (by omega) (by omega) | exact xor9 (by omega) (by omega)), rfl⟩ | exact IsR.mn (by first | with_reducible assumption | exact ⟨_, by omega, rfl⟩) (by first | with_reducible assumption | exact ⟨_, by omega, rfl⟩) | exact IsR.mx (by first | with_reducible assumption | exact ⟨_, by omega, rfl⟩) (by first | with_reducible assumption | exact ⟨_, by omega, rfl⟩) | with_reducible exact mn9 (by omega) | (simp (disch := omega) only [li_0, li_1, li_2, li_3, li_4, li_5, li_6, li_7, li_8, li_9, li_10, li_20, li_30, li_82, li_91, li_273, li_380, li_400, li_512, li_1000, li_2457, li_4000, nI_add, nI_1, nI_mul, nI_sub, shl_1, shl_1b]; with_reducible exact mn9b (by omega)))) ?_
  rintro _ _ ⟨rfl, kv2, hv2, rfl⟩
  refine Ok.ite (fun c_2 => ?_) (fun c_2 => ?_)
  · try simp (disch := omega) only [li_0, li_1, li_2, li_3, li_4, li_5, li_6, li_7, li_8, li_9, li_10, li_20, li_30, li_82, li_91, li_273, li_380, li_400, li_512, li_1000, li_2457, li_4000, nI_add, nI_1, nI_mul, nI_sub, shl_1, shl_1b, nI_leP, nI_ltP, nI_eqP, Nat.not_le, Nat.not_lt] at c_2
    exact Ok.ret ⟨rfl, True.intro⟩
  · try simp (disch := omega) only [li_0, li_1, li_2, li_3, li_4, li_5, li_6, li_7, li_8, li_9, li_10, li_20, li_30, li_82, li_91, li_273, li_380, li_400, li_512, li_1000, li_2457, li_4000, nI_add, nI_1, nI_mul, nI_sub, shl_1, shl_1b, nI_leP, nI_ltP, nI_eqP, Nat.not_le, Nat.not_lt] at c_2
    refine Ok.ck (by first | (simp (disch := omega) only [li_0, li_1, li_2, li_3, li_4, li_5, li_6, li_7, li_8, li_9, li_10, li_20, li_30, li_82, li_91, li_273, li_380, li_400, li_512, li_1000, li_2457, li_4000, nI_add, nI_1, nI_mul, nI_sub, shl_1, shl_1b, nI_or, nI_xor, nI_and]; with_reducible exact inb_n (by first | omega | exact or9 (by omega) (by omega) | exact xor9 (by omega) (by omega)) (by omega)) | with_reducible exact inb_n (by omega) (by omega) | exact IsR.ib (by with_reducible assumption) (by decide) | decide) (fun g_3 => ?_)
    refine Ok.rdT hT (ty_a154 (inb_lt g_3)) (by omega) (fun k_4 hk_4 ek_4 => ?_)
    refine Ok.bd _ (rX12_cost hT (by first | with_reducible assumption | (simp (disch := omega) only [li_0, li_1, li_2, li_3, li_4, li_5, li_6, li_7, li_8, li_9, li_10, li_20, li_30, li_82, li_91, li_273, li_380, li_400, li_512, li_1000, li_2457, li_4000, nI_add, nI_1, nI_mul, nI_sub, shl_1, shl_1b, nI_or, nI_xor, nI_and]; with_reducible exact ⟨_, (by first | omega | exact or9 (by omega) (by omega) | exact xor9 (by omega) (by omega)), rfl⟩) | with_reducible exact ⟨_, (by first | omega | exact or9 (by omega) (by omega) | exact xor9 (by omega) (by omega)), rfl⟩ | exact IsR.mn (by first | with_reducible assumption | exact ⟨_, by omega, rfl⟩) (by first | with_reducible assumption | exact ⟨_, by omega, rfl⟩) | exact IsR.mx (by first | with_reducible assumption | exact ⟨_, by omega, rfl⟩) (by first | with_reducible assumption | exact ⟨_, by omega, rfl⟩) | with_reducible exact mn9 (by omega) | (simp (disch := omega) only [li_0, li_1, li_2, li_3, li_4, li_5, li_6, li_7, li_8, li_9, li_10, li_20, li_30, li_82, li_91, li_273, li_380, li_400, li_512, li_1000, li_2457, li_4000, nI_add, nI_1, nI_mul, nI_sub, shl_1, shl_1b]; with_reducible exact mn9b (by omega))) (by first | with_reducible assumption | (simp (disch := omega) only [li_0, li_1, li_2, li_3, li_4, li_5, li_6, li_7, li_8, li_9, li_10, li_20, li_30, li_82, li_91, li_273, li_380, li_400, li_512, li_1000, li_2457, li_4000, nI_add, nI_1, nI_mul, nI_sub, shl_1, shl_1b, nI_or, nI_xor, nI_and]; with_reducible exact ⟨_, (by first | omega | exact or9 (by omega) (by omega) | exact xor9 (by omega) (by omega)), rfl⟩) | with_reducible exact ⟨_, (by first | omega | exact or9 (by omega) (by omega) | exact xor9 (by omega) (by omega)), rfl⟩ | exact IsR.mn (by first | with_reducible assumption | exact ⟨_, by omega, rfl⟩) (by first | with_reducible assumption | exact ⟨_, by omega, rfl⟩) | exact IsR.mx (by first | with_reducible assumption | exact ⟨_, by omega, rfl⟩) (by first | with_reducible assumption | exact ⟨_, by omega, rfl⟩) | with_reducible exact mn9 (by omega) | (simp (disch := omega) only [li_0, li_1, li_2, li_3, li_4, li_5, li_6, li_7, li_8, li_9, li_10, li_20, li_30, li_82, li_91, li_273, li_380, li_400, li_512, li_1000, li_2457, li_4000, nI_add, nI_1, nI_mul, nI_sub, shl_1, shl_1b]; with_reducible exact mn9b (by omega)))) ?_
    rintro v9 _ ⟨rfl, hxv9⟩
    refine Ok.bd _ (rX12_both hT) ?_
    rintro v12 _ ⟨rfl, hxv12⟩
    refine Ok.ck (by first | (simp (disch := omega) only [li_0, li_1, li_2, li_3, li_4, li_5, li_6, li_7, li_8, li_9, li_10, li_20, li_30, li_82, li_91, li_273, li_380, li_400, li_512, li_1000, li_2457, li_4000, nI_add, nI_1, nI_mul, nI_sub, shl_1, shl_1b, nI_or, nI_xor, nI_and]; with_reducible exact inb_n (by first | omega | exact or9 (by omega) (by omega) | exact xor9 (by omega) (by omega)) (by omega)) | with_reducible exact inb_n (by omega) (by omega) | exact IsR.ib (by with_reducible assumption) (by decide) | decide) (fun g_7 => ?_)
    refine Ok.rdT hT (ty_a154 (inb_lt g_7)) (by omega) (fun k_8 hk_8 ek_8 => ?_)
    exact Ok.ret ⟨5000 - (j + 1), by omega, rfl, ⟨j + 1, nI_1 j, by omega, by omega, rfl⟩⟩
set_option maxHeartbeats 4000000 in
set_option maxRecDepth 100000 in
theorem rX12_valueOf {t : St} (hT : TY t) {a : Int32} (h_a : IsR 3 a) {b : Int32} : Ok (FX12_valueOf a b t) (fun r u => t = u ∧ (True)) := by
  obtain ⟨k_a, h_a, rfl⟩ := h_a
  unfold FX12_valueOf
  refine Ok.ite (fun c_1 => ?_) (fun c_1 => ?_)
  · try simp (disch := omega) only [li_0, li_1, li_2, li_3, li_4, li_5, li_6, li_7, li_8, li_9, li_10, li_20, li_30, li_82, li_91, li_273, li_380, li_400, li_512, li_1000, li_2457, li_4000, nI_add, nI_1, nI_mul, nI_sub, shl_1, shl_1b, nI_leP, nI_ltP, nI_eqP, Nat.not_le, Nat.not_lt] at c_1
    refine Ok.bd _ (rX12_bandOf hT (by first | with_reducible assumption | (simp (disch := omega) only [li_0, li_1, li_2, li_3, li_4, li_5, li_6, li_7, li_8, li_9, li_10, li_20, li_30, li_82, li_91, li_273, li_380, li_400, li_512, li_1000, li_2457, li_4000, nI_add, nI_1, nI_mul, nI_sub, shl_1, shl_1b, nI_or, nI_xor, nI_and]; with_reducible exact ⟨_, (by first | omega | exact or9 (by omega) (by omega) | exact xor9 (by omega) (by omega)), rfl⟩) | with_reducible exact ⟨_, (by first | omega | exact or9 (by omega) (by omega) | exact xor9 (by omega) (by omega)), rfl⟩ | exact IsR.mn (by first | with_reducible assumption | exact ⟨_, by omega, rfl⟩) (by first | with_reducible assumption | exact ⟨_, by omega, rfl⟩) | exact IsR.mx (by first | with_reducible assumption | exact ⟨_, by omega, rfl⟩) (by first | with_reducible assumption | exact ⟨_, by omega, rfl⟩) | with_reducible exact mn9 (by omega) | (simp (disch := omega) only [li_0, li_1, li_2, li_3, li_4, li_5, li_6, li_7, li_8, li_9, li_10, li_20, li_30, li_82, li_91, li_273, li_380, li_400, li_512, li_1000, li_2457, li_4000, nI_add, nI_1, nI_mul, nI_sub, shl_1, shl_1b]; with_reducible exact mn9b (by omega)))) ?_
    rintro v23 _ ⟨rfl, hxv23⟩
    exact Ok.ret ⟨rfl, True.intro⟩
  · try simp (disch := omega) only [li_0, li_1, li_2, li_3, li_4, li_5, li_6, li_7, li_8, li_9, li_10, li_20, li_30, li_82, li_91, li_273, li_380, li_400, li_512, li_1000, li_2457, li_4000, nI_add, nI_1, nI_mul, nI_sub, shl_1, shl_1b, nI_leP, nI_ltP, nI_eqP, Nat.not_le, Nat.not_lt] at c_1
    refine Ok.bd _ (rSX12_valueOf_19 hT (by first | with_reducible assumption | (simp (disch := omega) only [li_0, li_1, li_2, li_3, li_4, li_5, li_6, li_7, li_8, li_9, li_10, li_20, li_30, li_82, li_91, li_273, li_380, li_400, li_512, li_1000, li_2457, li_4000, nI_add, nI_1, nI_mul, nI_sub, shl_1, shl_1b, nI_or, nI_xor, nI_and]; with_reducible exact ⟨_, (by first | omega | exact or9 (by omega) (by omega) | exact xor9 (by omega) (by omega)), rfl⟩) | with_reducible exact ⟨_, (by first | omega | exact or9 (by omega) (by omega) | exact xor9 (by omega) (by omega)), rfl⟩ | exact IsR.mn (by first | with_reducible assumption | exact ⟨_, by omega, rfl⟩) (by first | with_reducible assumption | exact ⟨_, by omega, rfl⟩) | exact IsR.mx (by first | with_reducible assumption | exact ⟨_, by omega, rfl⟩) (by first | with_reducible assumption | exact ⟨_, by omega, rfl⟩) | with_reducible exact mn9 (by omega) | (simp (disch := omega) only [li_0, li_1, li_2, li_3, li_4, li_5, li_6, li_7, li_8, li_9, li_10, li_20, li_30, li_82, li_91, li_273, li_380, li_400, li_512, li_1000, li_2457, li_4000, nI_add, nI_1, nI_mul, nI_sub, shl_1, shl_1b]; with_reducible exact mn9b (by omega))) (by show IsR 5001 _; first | with_reducible assumption | (simp (disch := omega) only [li_0, li_1, li_2, li_3, li_4, li_5, li_6, li_7, li_8, li_9, li_10, li_20, li_30, li_82, li_91, li_273, li_380, li_400, li_512, li_1000, li_2457, li_4000, nI_add, nI_1, nI_mul, nI_sub, shl_1, shl_1b, nI_or, nI_xor, nI_and]; with_reducible exact ⟨_, (by first | omega | exact or9 (by omega) (by omega) | exact xor9 (by omega) (by omega)), rfl⟩) | with_reducible exact ⟨_, (by first | omega | exact or9 (by omega) (by omega) | exact xor9 (by omega) (by omega)), rfl⟩ | exact IsR.mn (by first | with_reducible assumption | exact ⟨_, by omega, rfl⟩) (by first | with_reducible assumption | exact ⟨_, by omega, rfl⟩) | exact IsR.mx (by first | with_reducible assumption | exact ⟨_, by omega, rfl⟩) (by first | with_reducible assumption | exact ⟨_, by omega, rfl⟩) | with_reducible exact mn9 (by omega) | (simp (disch := omega) only [li_0, li_1, li_2, li_3, li_4, li_5, li_6, li_7, li_8, li_9, li_10, li_20, li_30, li_82, li_91, li_273, li_380, li_400, li_512, li_1000, li_2457, li_4000, nI_add, nI_1, nI_mul, nI_sub, shl_1, shl_1b]; with_reducible exact mn9b (by omega)))) ?_
    rintro e18 _ ⟨rfl, hxe18⟩
    exact Ok.ret ⟨rfl, True.intro⟩
set_option maxHeartbeats 4000000 in
set_option maxRecDepth 100000 in
theorem rSX12_parts_19 {t : St} (hT : TY t) {w1 : Int32} (h_w1 : IsR 3 w1) {w2 : Int32} {w3 : Int32} (h_w3 : IsR 9 w3) {a0 : Int32} {a1 : Int32} (h_a1 : IsR 5001 a1) : Ok (wh (SX12_parts_19 w1 w2 w3) (a0, a1) t) (fun r u => t = u ∧ (True)) := by
  obtain ⟨j0, hj0, rfl⟩ := h_a1
  refine Ok.loop (fun k c s => t = s ∧ (∃ j, c.2 = nI j ∧ j ≤ 5000 ∧ 0 ≤ j ∧ k = 5000 - j)) ?_ (5000 - j0) _ _ ⟨rfl, ⟨j0, rfl, by omega, by omega, rfl⟩⟩
  obtain ⟨k_w1, h_w1, rfl⟩ := h_w1
  obtain ⟨k_w3, h_w3, rfl⟩ := h_w3
  clear hj0
  intro k c s hI
  obtain ⟨rfl, ⟨j, ej, hj, hlo, rfl⟩⟩ := hI
  obtain ⟨c0, c1⟩ := c
  dsimp only at ej
  subst ej
  unfold SX12_parts_19
  dsimp only
  refine Ok.ite (fun c_1 => ?_) (fun c_1 => ?_)
  · try simp (disch := omega) only [li_0, li_1, li_2, li_3, li_4, li_5, li_6, li_7, li_8, li_9, li_10, li_20, li_30, li_82, li_91, li_273, li_380, li_400, li_512, li_1000, li_2457, li_4000, nI_add, nI_1, nI_mul, nI_sub, shl_1, shl_1b, nI_leP, nI_ltP, nI_eqP, Nat.not_le, Nat.not_lt] at c_1
    exact Ok.ret ⟨rfl, True.intro⟩
  · try simp (disch := omega) only [li_0, li_1, li_2, li_3, li_4, li_5, li_6, li_7, li_8, li_9, li_10, li_20, li_30, li_82, li_91, li_273, li_380, li_400, li_512, li_1000, li_2457, li_4000, nI_add, nI_1, nI_mul, nI_sub, shl_1, shl_1b, nI_leP, nI_ltP, nI_eqP, Nat.not_le, Nat.not_lt] at c_1
    refine Ok.bd (fun (v7 : Int32) t8 => t = t8 ∧ (True)) ?_ ?_
    · refine Ok.ite (fun c_2 => ?_) (fun c_2 => ?_)
      · try simp (disch := omega) only [li_0, li_1, li_2, li_3, li_4, li_5, li_6, li_7, li_8, li_9, li_10, li_20, li_30, li_82, li_91, li_273, li_380, li_400, li_512, li_1000, li_2457, li_4000, nI_add, nI_1, nI_mul, nI_sub, shl_1, shl_1b, nI_leP, nI_ltP, nI_eqP, Nat.not_le, Nat.not_lt] at c_2
        exact Ok.ret ⟨rfl, True.intro⟩
      · try simp (disch := omega) only [li_0, li_1, li_2, li_3, li_4, li_5, li_6, li_7, li_8, li_9, li_10, li_20, li_30, li_82, li_91, li_273, li_380, li_400, li_512, li_1000, li_2457, li_4000, nI_add, nI_1, nI_mul, nI_sub, shl_1, shl_1b, nI_leP, nI_ltP, nI_eqP, Nat.not_le, Nat.not_lt] at c_2
        refine Ok.bd _ (rX12_farOf hT (by first | with_reducible assumption | (simp (disch := omega) only [li_0, li_1, li_2, li_3, li_4, li_5, li_6, li_7, li_8, li_9, li_10, li_20, li_30, li_82, li_91, li_273, li_380, li_400, li_512, li_1000, li_2457, li_4000, nI_add, nI_1, nI_mul, nI_sub, shl_1, shl_1b, nI_or, nI_xor, nI_and]; with_reducible exact ⟨_, (by first | omega | exact or9 (by omega) (by omega) | exact xor9 (by omega) (by omega)), rfl⟩) | with_reducible exact ⟨_, (by first | omega | exact or9 (by omega) (by omega) | exact xor9 (by omega) (by omega)), rfl⟩ | exact IsR.mn (by first | with_reducible assumption | exact ⟨_, by omega, rfl⟩) (by first | with_reducible assumption | exact ⟨_, by omega, rfl⟩) | exact IsR.mx (by first | with_reducible assumption | exact ⟨_, by omega, rfl⟩) (by first | with_reducible assumption | exact ⟨_, by omega, rfl⟩) | with_reducible exact mn9 (by omega) | (simp (disch := omega) only [li_0, li_1, li_2, li_3, li_4, li_5, li_6, li_7, li_8, li_9, li_10, li_20, li_30, li_82, li_91, li_273, li_380, li_400, li_512, li_1000, li_2457, li_4000, nI_add, nI_1, nI_mul, nI_sub, shl_1, shl_1b]; with_reducible exact mn9b (by omega)))) ?_
        rintro v11 _ ⟨rfl, hxv11⟩
        refine Ok.ite (fun c_4 => ?_) (fun c_4 => ?_)
        · try simp (disch := omega) only [li_0, li_1, li_2, li_3, li_4, li_5, li_6, li_7, li_8, li_9, li_10, li_20, li_30, li_82, li_91, li_273, li_380, li_400, li_512, li_1000, li_2457, li_4000, nI_add, nI_1, nI_mul, nI_sub, shl_1, shl_1b, nI_leP, nI_ltP, nI_eqP, Nat.not_le, Nat.not_lt] at c_4
          exact Ok.ret ⟨rfl, True.intro⟩
        · try simp (disch := omega) only [li_0, li_1, li_2, li_3, li_4, li_5, li_6, li_7, li_8, li_9, li_10, li_20, li_30, li_82, li_91, li_273, li_380, li_400, li_512, li_1000, li_2457, li_4000, nI_add, nI_1, nI_mul, nI_sub, shl_1, shl_1b, nI_leP, nI_ltP, nI_eqP, Nat.not_le, Nat.not_lt] at c_4
          exact Ok.ret ⟨rfl, True.intro⟩
    · intro v7 t8 hx
      obtain ⟨rfl, hxv7⟩ := hx
      exact Ok.ret ⟨5000 - (j + 1), by omega, rfl, ⟨j + 1, nI_1 j, by omega, by omega, rfl⟩⟩
set_option maxHeartbeats 4000000 in
set_option maxRecDepth 100000 in
theorem rSX12_parts_4 {t : St} (hT : TY t) {w1 : Int32} (h_w1 : IsR 3 w1) {a0 : Int32} {a1 : Int32} (h_a1 : IsR 5001 a1) : Ok (wh (SX12_parts_4 w1) (a0, a1) t) (fun r u => t = u ∧ (True)) := by
  obtain ⟨j0, hj0, rfl⟩ := h_a1
  refine Ok.loop (fun k c s => t = s ∧ (∃ j, c.2 = nI j ∧ j ≤ 5000 ∧ 0 ≤ j ∧ k = 5000 - j)) ?_ (5000 - j0) _ _ ⟨rfl, ⟨j0, rfl, by omega, by omega, rfl⟩⟩
  obtain ⟨k_w1, h_w1, rfl⟩ := h_w1
  clear hj0
  intro k c s hI
  obtain ⟨rfl, ⟨j, ej, hj, hlo, rfl⟩⟩ := hI
  obtain ⟨c0, c1⟩ := c
  dsimp only at ej
  subst ej
  unfold SX12_parts_4
  dsimp only
  refine Ok.bd _ (rX12_points hT (by first | with_reducible assumption | (simp (disch := omega) only [li_0, li_1, li_2, li_3, li_4, li_5, li_6, li_7, li_8, li_9, li_10, li_20, li_30, li_82, li_91, li_273, li_380, li_400, li_512, li_1000, li_2457, li_4000, nI_add, nI_1, nI_mul, nI_sub, shl_1, shl_1b, nI_or, nI_xor, nI_and]; with_reducible exact ⟨_, (by first | omega | exact or9 (by omega) (by omega) | exact xor9 (by omega) (by omega)), rfl⟩) | with_reducible exact ⟨_, (by first | omega | exact or9 (by omega) (by omega) | exact xor9 (by omega) (by omega)), rfl⟩ | exact IsR.mn (by first | with_reducible assumption | exact ⟨_, by omega, rfl⟩) (by first | with_reducible assumption | exact ⟨_, by omega, rfl⟩) | exact IsR.mx (by first | with_reducible assumption | exact ⟨_, by omega, rfl⟩) (by first | with_reducible assumption | exact ⟨_, by omega, rfl⟩) | with_reducible exact mn9 (by omega) | (simp (disch := omega) only [li_0, li_1, li_2, li_3, li_4, li_5, li_6, li_7, li_8, li_9, li_10, li_20, li_30, li_82, li_91, li_273, li_380, li_400, li_512, li_1000, li_2457, li_4000, nI_add, nI_1, nI_mul, nI_sub, shl_1, shl_1b]; with_reducible exact mn9b (by omega)))) ?_
  rintro _ _ ⟨rfl, kv1, hv1, rfl⟩
  refine Ok.ite (fun c_2 => ?_) (fun c_2 => ?_)
  · try simp (disch := omega) only [li_0, li_1, li_2, li_3, li_4, li_5, li_6, li_7, li_8, li_9, li_10, li_20, li_30, li_82, li_91, li_273, li_380, li_400, li_512, li_1000, li_2457, li_4000, nI_add, nI_1, nI_mul, nI_sub, shl_1, shl_1b, nI_leP, nI_ltP, nI_eqP, Nat.not_le, Nat.not_lt] at c_2
    exact Ok.ret ⟨rfl, True.intro⟩
  · try simp (disch := omega) only [li_0, li_1, li_2, li_3, li_4, li_5, li_6, li_7, li_8, li_9, li_10, li_20, li_30, li_82, li_91, li_273, li_380, li_400, li_512, li_1000, li_2457, li_4000, nI_add, nI_1, nI_mul, nI_sub, shl_1, shl_1b, nI_leP, nI_ltP, nI_eqP, Nat.not_le, Nat.not_lt] at c_2
    refine Ok.bd _ (rSX12_parts_19 hT (by first | with_reducible assumption | (simp (disch := omega) only [li_0, li_1, li_2, li_3, li_4, li_5, li_6, li_7, li_8, li_9, li_10, li_20, li_30, li_82, li_91, li_273, li_380, li_400, li_512, li_1000, li_2457, li_4000, nI_add, nI_1, nI_mul, nI_sub, shl_1, shl_1b, nI_or, nI_xor, nI_and]; with_reducible exact ⟨_, (by first | omega | exact or9 (by omega) (by omega) | exact xor9 (by omega) (by omega)), rfl⟩) | with_reducible exact ⟨_, (by first | omega | exact or9 (by omega) (by omega) | exact xor9 (by omega) (by omega)), rfl⟩ | exact IsR.mn (by first | with_reducible assumption | exact ⟨_, by omega, rfl⟩) (by first | with_reducible assumption | exact ⟨_, by omega, rfl⟩) | exact IsR.mx (by first | with_reducible assumption | exact ⟨_, by omega, rfl⟩) (by first | with_reducible assumption | exact ⟨_, by omega, rfl⟩) | with_reducible exact mn9 (by omega) | (simp (disch := omega) only [li_0, li_1, li_2, li_3, li_4, li_5, li_6, li_7, li_8, li_9, li_10, li_20, li_30, li_82, li_91, li_273, li_380, li_400, li_512, li_1000, li_2457, li_4000, nI_add, nI_1, nI_mul, nI_sub, shl_1, shl_1b]; with_reducible exact mn9b (by omega))) (by first | with_reducible assumption | (simp (disch := omega) only [li_0, li_1, li_2, li_3, li_4, li_5, li_6, li_7, li_8, li_9, li_10, li_20, li_30, li_82, li_91, li_273, li_380, li_400, li_512, li_1000, li_2457, li_4000, nI_add, nI_1, nI_mul, nI_sub, shl_1, shl_1b, nI_or, nI_xor, nI_and]; with_reducible exact ⟨_, (by first | omega | exact or9 (by omega) (by omega) | exact xor9 (by omega) (by omega)), rfl⟩) | with_reducible exact ⟨_, (by first | omega | exact or9 (by omega) (by omega) | exact xor9 (by omega) (by omega)), rfl⟩ | exact IsR.mn (by first | with_reducible assumption | exact ⟨_, by omega, rfl⟩) (by first | with_reducible assumption | exact ⟨_, by omega, rfl⟩) | exact IsR.mx (by first | with_reducible assumption | exact ⟨_, by omega, rfl⟩) (by first | with_reducible assumption | exact ⟨_, by omega, rfl⟩) | with_reducible exact mn9 (by omega) | (simp (disch := omega) only [li_0, li_1, li_2, li_3, li_4, li_5, li_6, li_7, li_8, li_9, li_10, li_20, li_30, li_82, li_91, li_273, li_380, li_400, li_512, li_1000, li_2457, li_4000, nI_add, nI_1, nI_mul, nI_sub, shl_1, shl_1b]; with_reducible exact mn9b (by omega))) (by show IsR 5001 _; first | with_reducible assumption | (simp (disch := omega) only [li_0, li_1, li_2, li_3, li_4, li_5, li_6, li_7, li_8, li_9, li_10, li_20, li_30, li_82, li_91, li_273, li_380, li_400, li_512, li_1000, li_2457, li_4000, nI_add, nI_1, nI_mul, nI_sub, shl_1, shl_1b, nI_or, nI_xor, nI_and]; with_reducible exact ⟨_, (by first | omega | exact or9 (by omega) (by omega) | exact xor9 (by omega) (by omega)), rfl⟩) | with_reducible exact ⟨_, (by first | omega | exact or9 (by omega) (by omega) | exact xor9 (by omega) (by omega)), rfl⟩ | exact IsR.mn (by first | with_reducible assumption | exact ⟨_, by omega, rfl⟩) (by first | with_reducible assumption | exact ⟨_, by omega, rfl⟩) | exact IsR.mx (by first | with_reducible assumption | exact ⟨_, by omega, rfl⟩) (by first | with_reducible assumption | exact ⟨_, by omega, rfl⟩) | with_reducible exact mn9 (by omega) | (simp (disch := omega) only [li_0, li_1, li_2, li_3, li_4, li_5, li_6, li_7, li_8, li_9, li_10, li_20, li_30, li_82, li_91, li_273, li_380, li_400, li_512, li_1000, li_2457, li_4000, nI_add, nI_1, nI_mul, nI_sub, shl_1, shl_1b]; with_reducible exact mn9b (by omega)))) ?_
    rintro e15 _ ⟨rfl, hxe15⟩
    refine Ok.bd (fun (v20 : Int32) t21 => t = t21 ∧ (True)) ?_ ?_
    · refine Ok.ite (fun c_4 => ?_) (fun c_4 => ?_)
      · try simp (disch := omega) only [li_0, li_1, li_2, li_3, li_4, li_5, li_6, li_7, li_8, li_9, li_10, li_20, li_30, li_82, li_91, li_273, li_380, li_400, li_512, li_1000, li_2457, li_4000, nI_add, nI_1, nI_mul, nI_sub, shl_1, shl_1b, nI_leP, nI_ltP, nI_eqP, Nat.not_le, Nat.not_lt] at c_4
        exact Ok.ret ⟨rfl, True.intro⟩
      · try simp (disch := omega) only [li_0, li_1, li_2, li_3, li_4, li_5, li_6, li_7, li_8, li_9, li_10, li_20, li_30, li_82, li_91, li_273, li_380, li_400, li_512, li_1000, li_2457, li_4000, nI_add, nI_1, nI_mul, nI_sub, shl_1, shl_1b, nI_leP, nI_ltP, nI_eqP, Nat.not_le, Nat.not_lt] at c_4
        exact Ok.ret ⟨rfl, True.intro⟩
    · intro v20 t21 hx
      obtain ⟨rfl, hxv20⟩ := hx
      exact Ok.ret ⟨5000 - (j + 1), by omega, rfl, ⟨j + 1, nI_1 j, by omega, by omega, rfl⟩⟩
set_option maxHeartbeats 4000000 in
set_option maxRecDepth 100000 in
theorem rX12_parts {t : St} (hT : TY t) {a : Int32} (h_a : IsR 3 a) : Ok (FX12_parts a t) (fun r u => t = u ∧ (True)) := by
  obtain ⟨k_a, h_a, rfl⟩ := h_a
  unfold FX12_parts
  refine Ok.bd _ (rSX12_parts_4 hT (by first | with_reducible assumption | (simp (disch := omega) only [li_0, li_1, li_2, li_3, li_4, li_5, li_6, li_7, li_8, li_9, li_10, li_20, li_30, li_82, li_91, li_273, li_380, li_400, li_512, li_1000, li_2457, li_4000, nI_add, nI_1, nI_mul, nI_sub, shl_1, shl_1b, nI_or, nI_xor, nI_and]; with_reducible exact ⟨_, (by first | omega | exact or9 (by omega) (by omega) | exact xor9 (by omega) (by omega)), rfl⟩) | with_reducible exact ⟨_, (by first | omega | exact or9 (by omega) (by omega) | exact xor9 (by omega) (by omega)), rfl⟩ | exact IsR.mn (by first | with_reducible assumption | exact ⟨_, by omega, rfl⟩) (by first | with_reducible assumption | exact ⟨_, by omega, rfl⟩) | exact IsR.mx (by first | with_reducible assumption | exact ⟨_, by omega, rfl⟩) (by first | with_reducible assumption | exact ⟨_, by omega, rfl⟩) | with_reducible exact mn9 (by omega) | (simp (disch := omega) only [li_0, li_1, li_2, li_3, li_4, li_5, li_6, li_7, li_8, li_9, li_10, li_20, li_30, li_82, li_91, li_273, li_380, li_400, li_512, li_1000, li_2457, li_4000, nI_add, nI_1, nI_mul, nI_sub, shl_1, shl_1b]; with_reducible exact mn9b (by omega))) (by show IsR 5001 _; first | with_reducible assumption | (simp (disch := omega) only [li_0, li_1, li_2, li_3, li_4, li_5, li_6, li_7, li_8, li_9, li_10, li_20, li_30, li_82, li_91, li_273, li_380, li_400, li_512, li_1000, li_2457, li_4000, nI_add, nI_1, nI_mul, nI_sub, shl_1, shl_1b, nI_or, nI_xor, nI_and]; with_reducible exact ⟨_, (by first | omega | exact or9 (by omega) (by omega) | exact xor9 (by omega) (by omega)), rfl⟩) | with_reducible exact ⟨_, (by first | omega | exact or9 (by omega) (by omega) | exact xor9 (by omega) (by omega)), rfl⟩ | exact IsR.mn (by first | with_reducible assumption | exact ⟨_, by omega, rfl⟩) (by first | with_reducible assumption | exact ⟨_, by omega, rfl⟩) | exact IsR.mx (by first | with_reducible assumption | exact ⟨_, by omega, rfl⟩) (by first | with_reducible assumption | exact ⟨_, by omega, rfl⟩) | with_reducible exact mn9 (by omega) | (simp (disch := omega) only [li_0, li_1, li_2, li_3, li_4, li_5, li_6, li_7, li_8, li_9, li_10, li_20, li_30, li_82, li_91, li_273, li_380, li_400, li_512, li_1000, li_2457, li_4000, nI_add, nI_1, nI_mul, nI_sub, shl_1, shl_1b]; with_reducible exact mn9b (by omega)))) ?_
  rintro e24 _ ⟨rfl, hxe24⟩
  exact Ok.ret ⟨rfl, True.intro⟩
set_option maxHeartbeats 4000000 in
set_option maxRecDepth 100000 in
theorem rSX12_diameter_16 {t : St} (hT : TY t) {w1 : Int32} (h_w1 : IsR 3 w1) {w3 : Int32} (h_w3 : IsR 9 w3) {a0 : Int32} {a1 : Int32} (h_a1 : IsR 5001 a1) : Ok (wh (SX12_diameter_16 w1 w3) (a0, a1) t) (fun r u => t = u ∧ (Sum.elim (fun v => True) (fun e => True) r)) := by
  obtain ⟨j0, hj0, rfl⟩ := h_a1
  refine Ok.loop (fun k c s => t = s ∧ (∃ j, c.2 = nI j ∧ j ≤ 5000 ∧ 0 ≤ j ∧ k = 5000 - j)) ?_ (5000 - j0) _ _ ⟨rfl, ⟨j0, rfl, by omega, by omega, rfl⟩⟩
  obtain ⟨k_w1, h_w1, rfl⟩ := h_w1
  obtain ⟨k_w3, h_w3, rfl⟩ := h_w3
  clear hj0
  intro k c s hI
  obtain ⟨rfl, ⟨j, ej, hj, hlo, rfl⟩⟩ := hI
  obtain ⟨c0, c1⟩ := c
  dsimp only at ej
  subst ej
  unfold SX12_diameter_16
  dsimp only
  refine Ok.bd _ (rX12_points hT (by first | with_reducible assumption | (simp (disch := omega) only [li_0, li_1, li_2, li_3, li_4, li_5, li_6, li_7, li_8, li_9, li_10, li_20, li_30, li_82, li_91, li_273, li_380, li_400, li_512, li_1000, li_2457, li_4000, nI_add, nI_1, nI_mul, nI_sub, shl_1, shl_1b, nI_or, nI_xor, nI_and]; with_reducible exact ⟨_, (by first | omega | exact or9 (by omega) (by omega) | exact xor9 (by omega) (by omega)), rfl⟩) | with_reducible exact ⟨_, (by first | omega | exact or9 (by omega) (by omega) | exact xor9 (by omega) (by omega)), rfl⟩ | exact IsR.mn (by first | with_reducible assumption | exact ⟨_, by omega, rfl⟩) (by first | with_reducible assumption | exact ⟨_, by omega, rfl⟩) | exact IsR.mx (by first | with_reducible assumption | exact ⟨_, by omega, rfl⟩) (by first | with_reducible assumption | exact ⟨_, by omega, rfl⟩) | with_reducible exact mn9 (by omega) | (simp (disch := omega) only [li_0, li_1, li_2, li_3, li_4, li_5, li_6, li_7, li_8, li_9, li_10, li_20, li_30, li_82, li_91, li_273, li_380, li_400, li_512, li_1000, li_2457, li_4000, nI_add, nI_1, nI_mul, nI_sub, shl_1, shl_1b]; with_reducible exact mn9b (by omega)))) ?_
  rintro _ _ ⟨rfl, kv5, hv5, rfl⟩
  refine Ok.ite (fun c_2 => ?_) (fun c_2 => ?_)
  · try simp (disch := omega) only [li_0, li_1, li_2, li_3, li_4, li_5, li_6, li_7, li_8, li_9, li_10, li_20, li_30, li_82, li_91, li_273, li_380, li_400, li_512, li_1000, li_2457, li_4000, nI_add, nI_1, nI_mul, nI_sub, shl_1, shl_1b, nI_leP, nI_ltP, nI_eqP, Nat.not_le, Nat.not_lt] at c_2
    exact Ok.ret ⟨rfl, True.intro⟩
  · try simp (disch := omega) only [li_0, li_1, li_2, li_3, li_4, li_5, li_6, li_7, li_8, li_9, li_10, li_20, li_30, li_82, li_91, li_273, li_380, li_400, li_512, li_1000, li_2457, li_4000, nI_add, nI_1, nI_mul, nI_sub, shl_1, shl_1b, nI_leP, nI_ltP, nI_eqP, Nat.not_le, Nat.not_lt] at c_2
    refine Ok.bd _ (rX12_farOf hT (by first | with_reducible assumption | (simp (disch := omega) only [li_0, li_1, li_2, li_3, li_4, li_5, li_6, li_7, li_8, li_9, li_10, li_20, li_30, li_82, li_91, li_273, li_380, li_400, li_512, li_1000, li_2457, li_4000, nI_add, nI_1, nI_mul, nI_sub, shl_1, shl_1b, nI_or, nI_xor, nI_and]; with_reducible exact ⟨_, (by first | omega | exact or9 (by omega) (by omega) | exact xor9 (by omega) (by omega)), rfl⟩) | with_reducible exact ⟨_, (by first | omega | exact or9 (by omega) (by omega) | exact xor9 (by omega) (by omega)), rfl⟩ | exact IsR.mn (by first | with_reducible assumption | exact ⟨_, by omega, rfl⟩) (by first | with_reducible assumption | exact ⟨_, by omega, rfl⟩) | exact IsR.mx (by first | with_reducible assumption | exact ⟨_, by omega, rfl⟩) (by first | with_reducible assumption | exact ⟨_, by omega, rfl⟩) | with_reducible exact mn9 (by omega) | (simp (disch := omega) only [li_0, li_1, li_2, li_3, li_4, li_5, li_6, li_7, li_8, li_9, li_10, li_20, li_30, li_82, li_91, li_273, li_380, li_400, li_512, li_1000, li_2457, li_4000, nI_add, nI_1, nI_mul, nI_sub, shl_1, shl_1b]; with_reducible exact mn9b (by omega)))) ?_
    rintro v9 _ ⟨rfl, hxv9⟩
    refine Ok.ite (fun c_4 => ?_) (fun c_4 => ?_)
    · try simp (disch := omega) only [li_0, li_1, li_2, li_3, li_4, li_5, li_6, li_7, li_8, li_9, li_10, li_20, li_30, li_82, li_91, li_273, li_380, li_400, li_512, li_1000, li_2457, li_4000, nI_add, nI_1, nI_mul, nI_sub, shl_1, shl_1b, nI_leP, nI_ltP, nI_eqP, Nat.not_le, Nat.not_lt] at c_4
      exact Ok.ret ⟨rfl, True.intro⟩
    · try simp (disch := omega) only [li_0, li_1, li_2, li_3, li_4, li_5, li_6, li_7, li_8, li_9, li_10, li_20, li_30, li_82, li_91, li_273, li_380, li_400, li_512, li_1000, li_2457, li_4000, nI_add, nI_1, nI_mul, nI_sub, shl_1, shl_1b, nI_leP, nI_ltP, nI_eqP, Nat.not_le, Nat.not_lt] at c_4
      exact Ok.ret ⟨5000 - (j + 1), by omega, rfl, ⟨j + 1, nI_1 j, by omega, by omega, rfl⟩⟩
set_option maxHeartbeats 4000000 in
set_option maxRecDepth 100000 in
theorem rSX12_diameter_4 {t : St} (hT : TY t) {w1 : Int32} (h_w1 : IsR 3 w1) {a0 : Int32} {a1 : Int32} (h_a1 : IsR 5001 a1) : Ok (wh (SX12_diameter_4 w1) (a0, a1) t) (fun r u => t = u ∧ (Sum.elim (fun v => True) (fun e => True) r)) := by
  obtain ⟨j0, hj0, rfl⟩ := h_a1
  refine Ok.loop (fun k c s => t = s ∧ (∃ j, c.2 = nI j ∧ j ≤ 5000 ∧ 0 ≤ j ∧ k = 5000 - j)) ?_ (5000 - j0) _ _ ⟨rfl, ⟨j0, rfl, by omega, by omega, rfl⟩⟩
  obtain ⟨k_w1, h_w1, rfl⟩ := h_w1
  clear hj0
  intro k c s hI
  obtain ⟨rfl, ⟨j, ej, hj, hlo, rfl⟩⟩ := hI
  obtain ⟨c0, c1⟩ := c
  dsimp only at ej
  subst ej
  unfold SX12_diameter_4
  dsimp only
  refine Ok.bd _ (rX12_points hT (by first | with_reducible assumption | (simp (disch := omega) only [li_0, li_1, li_2, li_3, li_4, li_5, li_6, li_7, li_8, li_9, li_10, li_20, li_30, li_82, li_91, li_273, li_380, li_400, li_512, li_1000, li_2457, li_4000, nI_add, nI_1, nI_mul, nI_sub, shl_1, shl_1b, nI_or, nI_xor, nI_and]; with_reducible exact ⟨_, (by first | omega | exact or9 (by omega) (by omega) | exact xor9 (by omega) (by omega)), rfl⟩) | with_reducible exact ⟨_, (by first | omega | exact or9 (by omega) (by omega) | exact xor9 (by omega) (by omega)), rfl⟩ | exact IsR.mn (by first | with_reducible assumption | exact ⟨_, by omega, rfl⟩) (by first | with_reducible assumption | exact ⟨_, by omega, rfl⟩) | exact IsR.mx (by first | with_reducible assumption | exact ⟨_, by omega, rfl⟩) (by first | with_reducible assumption | exact ⟨_, by omega, rfl⟩) | with_reducible exact mn9 (by omega) | (simp (disch := omega) only [li_0, li_1, li_2, li_3, li_4, li_5, li_6, li_7, li_8, li_9, li_10, li_20, li_30, li_82, li_91, li_273, li_380, li_400, li_512, li_1000, li_2457, li_4000, nI_add, nI_1, nI_mul, nI_sub, shl_1, shl_1b]; with_reducible exact mn9b (by omega)))) ?_
  rintro _ _ ⟨rfl, kv1, hv1, rfl⟩
  refine Ok.ite (fun c_2 => ?_) (fun c_2 => ?_)
  · try simp (disch := omega) only [li_0, li_1, li_2, li_3, li_4, li_5, li_6, li_7, li_8, li_9, li_10, li_20, li_30, li_82, li_91, li_273, li_380, li_400, li_512, li_1000, li_2457, li_4000, nI_add, nI_1, nI_mul, nI_sub, shl_1, shl_1b, nI_leP, nI_ltP, nI_eqP, Nat.not_le, Nat.not_lt] at c_2
    exact Ok.ret ⟨rfl, True.intro⟩
  · try simp (disch := omega) only [li_0, li_1, li_2, li_3, li_4, li_5, li_6, li_7, li_8, li_9, li_10, li_20, li_30, li_82, li_91, li_273, li_380, li_400, li_512, li_1000, li_2457, li_4000, nI_add, nI_1, nI_mul, nI_sub, shl_1, shl_1b, nI_leP, nI_ltP, nI_eqP, Nat.not_le, Nat.not_lt] at c_2
    refine Ok.bd _ (rSX12_diameter_16 hT (by first | with_reducible assumption | (simp (disch := omega) only [li_0, li_1, li_2, li_3, li_4, li_5, li_6, li_7, li_8, li_9, li_10, li_20, li_30, li_82, li_91, li_273, li_380, li_400, li_512, li_1000, li_2457, li_4000, nI_add, nI_1, nI_mul, nI_sub, shl_1, shl_1b, nI_or, nI_xor, nI_and]; with_reducible exact ⟨_, (by first | omega | exact or9 (by omega) (by omega) | exact xor9 (by omega) (by omega)), rfl⟩) | with_reducible exact ⟨_, (by first | omega | exact or9 (by omega) (by omega) | exact xor9 (by omega) (by omega)), rfl⟩ | exact IsR.mn (by first | with_reducible assumption | exact ⟨_, by omega, rfl⟩) (by first | with_reducible assumption | exact ⟨_, by omega, rfl⟩) | exact IsR.mx (by first | with_reducible assumption | exact ⟨_, by omega, rfl⟩) (by first | with_reducible assumption | exact ⟨_, by omega, rfl⟩) | with_reducible exact mn9 (by omega) | (simp (disch := omega) only [li_0, li_1, li_2, li_3, li_4, li_5, li_6, li_7, li_8, li_9, li_10, li_20, li_30, li_82, li_91, li_273, li_380, li_400, li_512, li_1000, li_2457, li_4000, nI_add, nI_1, nI_mul, nI_sub, shl_1, shl_1b]; with_reducible exact mn9b (by omega))) (by first | with_reducible assumption | (simp (disch := omega) only [li_0, li_1, li_2, li_3, li_4, li_5, li_6, li_7, li_8, li_9, li_10, li_20, li_30, li_82, li_91, li_273, li_380, li_400, li_512, li_1000, li_2457, li_4000, nI_add, nI_1, nI_mul, nI_sub, shl_1, shl_1b, nI_or, nI_xor, nI_and]; with_reducible exact ⟨_, (by first | omega | exact or9 (by omega) (by omega) | exact xor9 (by omega) (by omega)), rfl⟩) | with_reducible exact ⟨_, (by first | omega | exact or9 (by omega) (by omega) | exact xor9 (by omega) (by omega)), rfl⟩ | exact IsR.mn (by first | with_reducible assumption | exact ⟨_, by omega, rfl⟩) (by first | with_reducible assumption | exact ⟨_, by omega, rfl⟩) | exact IsR.mx (by first | with_reducible assumption | exact ⟨_, by omega, rfl⟩) (by first | with_reducible assumption | exact ⟨_, by omega, rfl⟩) | with_reducible exact mn9 (by omega) | (simp (disch := omega) only [li_0, li_1, li_2, li_3, li_4, li_5, li_6, li_7, li_8, li_9, li_10, li_20, li_30, li_82, li_91, li_273, li_380, li_400, li_512, li_1000, li_2457, li_4000, nI_add, nI_1, nI_mul, nI_sub, shl_1, shl_1b]; with_reducible exact mn9b (by omega))) (by show IsR 5001 _; first | with_reducible assumption | (simp (disch := omega) only [li_0, li_1, li_2, li_3, li_4, li_5, li_6, li_7, li_8, li_9, li_10, li_20, li_30, li_82, li_91, li_273, li_380, li_400, li_512, li_1000, li_2457, li_4000, nI_add, nI_1, nI_mul, nI_sub, shl_1, shl_1b, nI_or, nI_xor, nI_and]; with_reducible exact ⟨_, (by first | omega | exact or9 (by omega) (by omega) | exact xor9 (by omega) (by omega)), rfl⟩) | with_reducible exact ⟨_, (by first | omega | exact or9 (by omega) (by omega) | exact xor9 (by omega) (by omega)), rfl⟩ | exact IsR.mn (by first | with_reducible assumption | exact ⟨_, by omega, rfl⟩) (by first | with_reducible assumption | exact ⟨_, by omega, rfl⟩) | exact IsR.mx (by first | with_reducible assumption | exact ⟨_, by omega, rfl⟩) (by first | with_reducible assumption | exact ⟨_, by omega, rfl⟩) | with_reducible exact mn9 (by omega) | (simp (disch := omega) only [li_0, li_1, li_2, li_3, li_4, li_5, li_6, li_7, li_8, li_9, li_10, li_20, li_30, li_82, li_91, li_273, li_380, li_400, li_512, li_1000, li_2457, li_4000, nI_add, nI_1, nI_mul, nI_sub, shl_1, shl_1b]; with_reducible exact mn9b (by omega)))) ?_
    rintro (e14 | e14) _ ⟨rfl, hxe14⟩
    · refine Ok.el ?_
      exact Ok.ret ⟨rfl, True.intro⟩
    · refine Ok.er ?_
      exact Ok.ret ⟨5000 - (j + 1), by omega, rfl, ⟨j + 1, nI_1 j, by omega, by omega, rfl⟩⟩
set_option maxHeartbeats 4000000 in
set_option maxRecDepth 100000 in
theorem rX12_diameter {t : St} (hT : TY t) {a : Int32} (h_a : IsR 3 a) : Ok (FX12_diameter a t) (fun r u => t = u ∧ (True)) := by
  obtain ⟨k_a, h_a, rfl⟩ := h_a
  unfold FX12_diameter
  refine Ok.bd _ (rSX12_diameter_4 hT (by first | with_reducible assumption | (simp (disch := omega) only [li_0, li_1, li_2, li_3, li_4, li_5, li_6, li_7, li_8, li_9, li_10, li_20, li_30, li_82, li_91, li_273, li_380, li_400, li_512, li_1000, li_2457, li_4000, nI_add, nI_1, nI_mul, nI_sub, shl_1, shl_1b, nI_or, nI_xor, nI_and]; with_reducible exact ⟨_, (by first | omega | exact or9 (by omega) (by omega) | exact xor9 (by omega) (by omega)), rfl⟩) | with_reducible exact ⟨_, (by first | omega | exact or9 (by omega) (by omega) | exact xor9 (by omega) (by omega)), rfl⟩ | exact IsR.mn (by first | with_reducible assumption | exact ⟨_, by omega, rfl⟩) (by first | with_reducible assumption | exact ⟨_, by omega, rfl⟩) | exact IsR.mx (by first | with_reducible assumption | exact ⟨_, by omega, rfl⟩) (by first | with_reducible assumption | exact ⟨_, by omega, rfl⟩) | with_reducible exact mn9 (by omega) | (simp (disch := omega) only [li_0, li_1, li_2, li_3, li_4, li_5, li_6, li_7, li_8, li_9, li_10, li_20, li_30, li_82, li_91, li_273, li_380, li_400, li_512, li_1000, li_2457, li_4000, nI_add, nI_1, nI_mul, nI_sub, shl_1, shl_1b]; with_reducible exact mn9b (by omega))) (by show IsR 5001 _; first | with_reducible assumption | (simp (disch := omega) only [li_0, li_1, li_2, li_3, li_4, li_5, li_6, li_7, li_8, li_9, li_10, li_20, li_30, li_82, li_91, li_273, li_380, li_400, li_512, li_1000, li_2457, li_4000, nI_add, nI_1, nI_mul, nI_sub, shl_1, shl_1b, nI_or, nI_xor, nI_and]; with_reducible exact ⟨_, (by first | omega | exact or9 (by omega) (by omega) | exact xor9 (by omega) (by omega)), rfl⟩) | with_reducible exact ⟨_, (by first | omega | exact or9 (by omega) (by omega) | exact xor9 (by omega) (by omega)), rfl⟩ | exact IsR.mn (by first | with_reducible assumption | exact ⟨_, by omega, rfl⟩) (by first | with_reducible assumption | exact ⟨_, by omega, rfl⟩) | exact IsR.mx (by first | with_reducible assumption | exact ⟨_, by omega, rfl⟩) (by first | with_reducible assumption | exact ⟨_, by omega, rfl⟩) | with_reducible exact mn9 (by omega) | (simp (disch := omega) only [li_0, li_1, li_2, li_3, li_4, li_5, li_6, li_7, li_8, li_9, li_10, li_20, li_30, li_82, li_91, li_273, li_380, li_400, li_512, li_1000, li_2457, li_4000, nI_add, nI_1, nI_mul, nI_sub, shl_1, shl_1b]; with_reducible exact mn9b (by omega)))) ?_
  rintro (e19 | e19) _ ⟨rfl, hxe19⟩
  · refine Ok.el ?_
    exact Ok.ret ⟨rfl, True.intro⟩
  · refine Ok.er ?_
    exact Ok.ret ⟨rfl, True.intro⟩
theorem shl_le {k j : Nat} (hk : k < 10) (h : ¬ nI (2 ^ k) ≤ nI j) (hj : j < 100000) : j < 512 := by
  have := pow9 (k := k) (by omega)
  rw [nI_leP (by omega) (by omega)] at h
  omega
set_option maxHeartbeats 4000000 in
set_option maxRecDepth 100000 in
theorem rSX12_core_22 {t : St} (hT : TY t) {w1 : Int32} (h_w1 : IsR 3 w1) {w2 : Int32} {w3 : Int32} {a0 : Int32} {a1 : Int32} (h_a1 : IsR 5001 a1) : Ok (wh (SX12_core_22 w1 w2 w3) (a0, a1) t) (fun r u => t = u ∧ (True)) := by
  obtain ⟨j0, hj0, rfl⟩ := h_a1
  refine Ok.loop (fun k c s => t = s ∧ (∃ j, c.2 = nI j ∧ j ≤ 5000 ∧ 0 ≤ j ∧ k = 5000 - j)) ?_ (5000 - j0) _ _ ⟨rfl, ⟨j0, rfl, by omega, by omega, rfl⟩⟩
  obtain ⟨k_w1, h_w1, rfl⟩ := h_w1
  clear hj0
  intro k c s hI
  obtain ⟨rfl, ⟨j, ej, hj, hlo, rfl⟩⟩ := hI
  obtain ⟨c0, c1⟩ := c
  dsimp only at ej
  subst ej
  unfold SX12_core_22
  dsimp only
  refine Ok.bd _ (rX12_points hT (by first | with_reducible assumption | (simp (disch := omega) only [li_0, li_1, li_2, li_3, li_4, li_5, li_6, li_7, li_8, li_9, li_10, li_20, li_30, li_82, li_91, li_273, li_380, li_400, li_512, li_1000, li_2457, li_4000, nI_add, nI_1, nI_mul, nI_sub, shl_1, shl_1b, nI_or, nI_xor, nI_and]; with_reducible exact ⟨_, (by first | omega | exact or9 (by omega) (by omega) | exact xor9 (by omega) (by omega)), rfl⟩) | with_reducible exact ⟨_, (by first | omega | exact or9 (by omega) (by omega) | exact xor9 (by omega) (by omega)), rfl⟩ | exact IsR.mn (by first | with_reducible assumption | exact ⟨_, by omega, rfl⟩) (by first | with_reducible assumption | exact ⟨_, by omega, rfl⟩) | exact IsR.mx (by first | with_reducible assumption | exact ⟨_, by omega, rfl⟩) (by first | with_reducible assumption | exact ⟨_, by omega, rfl⟩) | with_reducible exact mn9 (by omega) | (simp (disch := omega) only [li_0, li_1, li_2, li_3, li_4, li_5, li_6, li_7, li_8, li_9, li_10, li_20, li_30, li_82, li_91, li_273, li_380, li_400, li_512, li_1000, li_2457, li_4000, nI_add, nI_1, nI_mul, nI_sub, shl_1, shl_1b]; with_reducible exact mn9b (by omega)))) ?_
  rintro _ _ ⟨rfl, kv5, hv5, rfl⟩
  refine Ok.ite (fun c_2 => ?_) (fun c_2 => ?_)
  · try simp (disch := omega) only [li_0, li_1, li_2, li_3, li_4, li_5, li_6, li_7, li_8, li_9, li_10, li_20, li_30, li_82, li_91, li_273, li_380, li_400, li_512, li_1000, li_2457, li_4000, nI_add, nI_1, nI_mul, nI_sub, shl_1, shl_1b, nI_leP, nI_ltP, nI_eqP, Nat.not_le, Nat.not_lt] at c_2
    exact Ok.ret ⟨rfl, True.intro⟩
  · try simp (disch := omega) only [li_0, li_1, li_2, li_3, li_4, li_5, li_6, li_7, li_8, li_9, li_10, li_20, li_30, li_82, li_91, li_273, li_380, li_400, li_512, li_1000, li_2457, li_4000, nI_add, nI_1, nI_mul, nI_sub, shl_1, shl_1b, nI_leP, nI_ltP, nI_eqP, Nat.not_le, Nat.not_lt] at c_2
    refine Ok.bd _ (rX12_has hT) ?_
    rintro v9 _ ⟨rfl, hbv9, hxv9⟩
    refine Ok.bd (fun (v13 : Int32) t14 => t = t14 ∧ (True)) ?_ ?_
    · refine Ok.ite (fun c_4 => ?_) (fun c_4 => ?_)
      · try simp (disch := omega) only [li_0, li_1, li_2, li_3, li_4, li_5, li_6, li_7, li_8, li_9, li_10, li_20, li_30, li_82, li_91, li_273, li_380, li_400, li_512, li_1000, li_2457, li_4000, nI_add, nI_1, nI_mul, nI_sub, shl_1, shl_1b, nI_leP, nI_ltP, nI_eqP, Nat.not_le, Nat.not_lt] at c_4
        exact Ok.ret ⟨rfl, True.intro⟩
      · try simp (disch := omega) only [li_0, li_1, li_2, li_3, li_4, li_5, li_6, li_7, li_8, li_9, li_10, li_20, li_30, li_82, li_91, li_273, li_380, li_400, li_512, li_1000, li_2457, li_4000, nI_add, nI_1, nI_mul, nI_sub, shl_1, shl_1b, nI_leP, nI_ltP, nI_eqP, Nat.not_le, Nat.not_lt] at c_4
        refine Ok.bd _ (rX12_nearOf hT (by first | with_reducible assumption | (simp (disch := omega) only [li_0, li_1, li_2, li_3, li_4, li_5, li_6, li_7, li_8, li_9, li_10, li_20, li_30, li_82, li_91, li_273, li_380, li_400, li_512, li_1000, li_2457, li_4000, nI_add, nI_1, nI_mul, nI_sub, shl_1, shl_1b, nI_or, nI_xor, nI_and]; with_reducible exact ⟨_, (by first | omega | exact or9 (by omega) (by omega) | exact xor9 (by omega) (by omega)), rfl⟩) | with_reducible exact ⟨_, (by first | omega | exact or9 (by omega) (by omega) | exact xor9 (by omega) (by omega)), rfl⟩ | exact IsR.mn (by first | with_reducible assumption | exact ⟨_, by omega, rfl⟩) (by first | with_reducible assumption | exact ⟨_, by omega, rfl⟩) | exact IsR.mx (by first | with_reducible assumption | exact ⟨_, by omega, rfl⟩) (by first | with_reducible assumption | exact ⟨_, by omega, rfl⟩) | with_reducible exact mn9 (by omega) | (simp (disch := omega) only [li_0, li_1, li_2, li_3, li_4, li_5, li_6, li_7, li_8, li_9, li_10, li_20, li_30, li_82, li_91, li_273, li_380, li_400, li_512, li_1000, li_2457, li_4000, nI_add, nI_1, nI_mul, nI_sub, shl_1, shl_1b]; with_reducible exact mn9b (by omega))) (by first | with_reducible assumption | (simp (disch := omega) only [li_0, li_1, li_2, li_3, li_4, li_5, li_6, li_7, li_8, li_9, li_10, li_20, li_30, li_82, li_91, li_273, li_380, li_400, li_512, li_1000, li_2457, li_4000, nI_add, nI_1, nI_mul, nI_sub, shl_1, shl_1b, nI_or, nI_xor, nI_and]; with_reducible exact ⟨_, (by first | omega | exact or9 (by omega) (by omega) | exact xor9 (by omega) (by omega)), rfl⟩) | with_reducible exact ⟨_, (by first | omega | exact or9 (by omega) (by omega) | exact xor9 (by omega) (by omega)), rfl⟩ | exact IsR.mn (by first | with_reducible assumption | exact ⟨_, by omega, rfl⟩) (by first | with_reducible assumption | exact ⟨_, by omega, rfl⟩) | exact IsR.mx (by first | with_reducible assumption | exact ⟨_, by omega, rfl⟩) (by first | with_reducible assumption | exact ⟨_, by omega, rfl⟩) | with_reducible exact mn9 (by omega) | (simp (disch := omega) only [li_0, li_1, li_2, li_3, li_4, li_5, li_6, li_7, li_8, li_9, li_10, li_20, li_30, li_82, li_91, li_273, li_380, li_400, li_512, li_1000, li_2457, li_4000, nI_add, nI_1, nI_mul, nI_sub, shl_1, shl_1b]; with_reducible exact mn9b (by omega)))) ?_
        rintro v17 _ ⟨rfl, hxv17⟩
        refine Ok.bd _ (rX12_ones hT) ?_
        rintro v20 _ ⟨rfl, hxv20⟩
        exact Ok.ret ⟨rfl, True.intro⟩
    · intro v13 t14 hx
      obtain ⟨rfl, hxv13⟩ := hx
      exact Ok.ret ⟨5000 - (j + 1), by omega, rfl, ⟨j + 1, nI_1 j, by omega, by omega, rfl⟩⟩
set_option maxHeartbeats 4000000 in
set_option maxRecDepth 100000 in
theorem rSX12_core_4 {t : St} (hT : TY t) {w1 : Int32} (h_w1 : IsR 3 w1) {a0 : Int32} {a1 : Int32} (h_a1 : ∃ k, k < 5001 ∧ 1 ≤ k ∧ a1 = nI k) : Ok (wh (SX12_core_4 w1) (a0, a1) t) (fun r u => t = u ∧ (True)) := by
  obtain ⟨j0, hj0, hl0, rfl⟩ := h_a1
  refine Ok.loop (fun k c s => t = s ∧ (∃ j, c.2 = nI j ∧ j ≤ 5000 ∧ 1 ≤ j ∧ k = 5000 - j)) ?_ (5000 - j0) _ _ ⟨rfl, ⟨j0, rfl, by omega, by omega, rfl⟩⟩
  obtain ⟨k_w1, h_w1, rfl⟩ := h_w1
  clear hj0
  intro k c s hI
  obtain ⟨rfl, ⟨j, ej, hj, hlo, rfl⟩⟩ := hI
  obtain ⟨c0, c1⟩ := c
  dsimp only at ej
  subst ej
  unfold SX12_core_4
  dsimp only
  refine Ok.bd _ (rX12_points hT (by first | with_reducible assumption | (simp (disch := omega) only [li_0, li_1, li_2, li_3, li_4, li_5, li_6, li_7, li_8, li_9, li_10, li_20, li_30, li_82, li_91, li_273, li_380, li_400, li_512, li_1000, li_2457, li_4000, nI_add, nI_1, nI_mul, nI_sub, shl_1, shl_1b, nI_or, nI_xor, nI_and]; with_reducible exact ⟨_, (by first | omega | exact or9 (by omega) (by omega) | exact xor9 (by omega) (by omega)), rfl⟩) | with_reducible exact ⟨_, (by first | omega | exact or9 (by omega) (by omega) | exact xor9 (by omega) (by omega)), rfl⟩ | exact IsR.mn (by first | with_reducible assumption | exact ⟨_, by omega, rfl⟩) (by first | with_reducible assumption | exact ⟨_, by omega, rfl⟩) | exact IsR.mx (by first | with_reducible assumption | exact ⟨_, by omega, rfl⟩) (by first | with_reducible assumption | exact ⟨_, by omega, rfl⟩) | with_reducible exact mn9 (by omega) | (simp (disch := omega) only [li_0, li_1, li_2, li_3, li_4, li_5, li_6, li_7, li_8, li_9, li_10, li_20, li_30, li_82, li_91, li_273, li_380, li_400, li_512, li_1000, li_2457, li_4000, nI_add, nI_1, nI_mul, nI_sub, shl_1, shl_1b]; with_reducible exact mn9b (by omega)))) ?_
  rintro _ _ ⟨rfl, kv1, hv1, rfl⟩
  refine Ok.ite (fun c_2 => ?_) (fun c_2 => ?_)
  · try simp (disch := omega) only [li_0, li_1, li_2, li_3, li_4, li_5, li_6, li_7, li_8, li_9, li_10, li_20, li_30, li_82, li_91, li_273, li_380, li_400, li_512, li_1000, li_2457, li_4000, nI_add, nI_1, nI_mul, nI_sub, shl_1, shl_1b, nI_leP, nI_ltP, nI_eqP, Nat.not_le, Nat.not_lt] at c_2
    exact Ok.ret ⟨rfl, True.intro⟩
  · try simp (disch := omega) only [li_0, li_1, li_2, li_3, li_4, li_5, li_6, li_7, li_8, li_9, li_10, li_20, li_30, li_82, li_91, li_273, li_380, li_400, li_512, li_1000, li_2457, li_4000, nI_add, nI_1, nI_mul, nI_sub, shl_1, shl_1b, nI_leP, nI_ltP, nI_eqP, Nat.not_le, Nat.not_lt] at c_2
    have hj512 := shl_le (by omega) c_2 (by omega)
    refine Ok.bd _ (rSX12_core_22 hT (by first | with_reducible assumption | (simp (disch := omega) only [li_0, li_1, li_2, li_3, li_4, li_5, li_6, li_7, li_8, li_9, li_10, li_20, li_30, li_82, li_91, li_273, li_380, li_400, li_512, li_1000, li_2457, li_4000, nI_add, nI_1, nI_mul, nI_sub, shl_1, shl_1b, nI_or, nI_xor, nI_and]; with_reducible exact ⟨_, (by first | omega | exact or9 (by omega) (by omega) | exact xor9 (by omega) (by omega)), rfl⟩) | with_reducible exact ⟨_, (by first | omega | exact or9 (by omega) (by omega) | exact xor9 (by omega) (by omega)), rfl⟩ | exact IsR.mn (by first | with_reducible assumption | exact ⟨_, by omega, rfl⟩) (by first | with_reducible assumption | exact ⟨_, by omega, rfl⟩) | exact IsR.mx (by first | with_reducible assumption | exact ⟨_, by omega, rfl⟩) (by first | with_reducible assumption | exact ⟨_, by omega, rfl⟩) | with_reducible exact mn9 (by omega) | (simp (disch := omega) only [li_0, li_1, li_2, li_3, li_4, li_5, li_6, li_7, li_8, li_9, li_10, li_20, li_30, li_82, li_91, li_273, li_380, li_400, li_512, li_1000, li_2457, li_4000, nI_add, nI_1, nI_mul, nI_sub, shl_1, shl_1b]; with_reducible exact mn9b (by omega))) (by show IsR 5001 _; first | with_reducible assumption | (simp (disch := omega) only [li_0, li_1, li_2, li_3, li_4, li_5, li_6, li_7, li_8, li_9, li_10, li_20, li_30, li_82, li_91, li_273, li_380, li_400, li_512, li_1000, li_2457, li_4000, nI_add, nI_1, nI_mul, nI_sub, shl_1, shl_1b, nI_or, nI_xor, nI_and]; with_reducible exact ⟨_, (by first | omega | exact or9 (by omega) (by omega) | exact xor9 (by omega) (by omega)), rfl⟩) | with_reducible exact ⟨_, (by first | omega | exact or9 (by omega) (by omega) | exact xor9 (by omega) (by omega)), rfl⟩ | exact IsR.mn (by first | with_reducible assumption | exact ⟨_, by omega, rfl⟩) (by first | with_reducible assumption | exact ⟨_, by omega, rfl⟩) | exact IsR.mx (by first | with_reducible assumption | exact ⟨_, by omega, rfl⟩) (by first | with_reducible assumption | exact ⟨_, by omega, rfl⟩) | with_reducible exact mn9 (by omega) | (simp (disch := omega) only [li_0, li_1, li_2, li_3, li_4, li_5, li_6, li_7, li_8, li_9, li_10, li_20, li_30, li_82, li_91, li_273, li_380, li_400, li_512, li_1000, li_2457, li_4000, nI_add, nI_1, nI_mul, nI_sub, shl_1, shl_1b]; with_reducible exact mn9b (by omega)))) ?_
    rintro e23 _ ⟨rfl, hxe23⟩
    exact Ok.ret ⟨5000 - (j + 1), by omega, rfl, ⟨j + 1, nI_1 j, by omega, by omega, rfl⟩⟩
set_option maxHeartbeats 4000000 in
set_option maxRecDepth 100000 in
theorem rX12_core {t : St} (hT : TY t) {a : Int32} (h_a : IsR 3 a) : Ok (FX12_core a t) (fun r u => t = u ∧ (True)) := by
  obtain ⟨k_a, h_a, rfl⟩ := h_a
  unfold FX12_core
  refine Ok.bd _ (rSX12_core_4 hT (by first | with_reducible assumption | (simp (disch := omega) only [li_0, li_1, li_2, li_3, li_4, li_5, li_6, li_7, li_8, li_9, li_10, li_20, li_30, li_82, li_91, li_273, li_380, li_400, li_512, li_1000, li_2457, li_4000, nI_add, nI_1, nI_mul, nI_sub, shl_1, shl_1b, nI_or, nI_xor, nI_and]; with_reducible exact ⟨_, (by first | omega | exact or9 (by omega) (by omega) | exact xor9 (by omega) (by omega)), rfl⟩) | with_reducible exact ⟨_, (by first | omega | exact or9 (by omega) (by omega) | exact xor9 (by omega) (by omega)), rfl⟩ | exact IsR.mn (by first | with_reducible assumption | exact ⟨_, by omega, rfl⟩) (by first | with_reducible assumption | exact ⟨_, by omega, rfl⟩) | exact IsR.mx (by first | with_reducible assumption | exact ⟨_, by omega, rfl⟩) (by first | with_reducible assumption | exact ⟨_, by omega, rfl⟩) | with_reducible exact mn9 (by omega) | (simp (disch := omega) only [li_0, li_1, li_2, li_3, li_4, li_5, li_6, li_7, li_8, li_9, li_10, li_20, li_30, li_82, li_91, li_273, li_380, li_400, li_512, li_1000, li_2457, li_4000, nI_add, nI_1, nI_mul, nI_sub, shl_1, shl_1b]; with_reducible exact mn9b (by omega))) (by first | exact ⟨_, by omega, by omega, rfl⟩ | (simp (disch := omega) only [li_0, li_1, li_2, li_3, li_4, li_5, li_6, li_7, li_8, li_9, li_10, li_20, li_30, li_82, li_91, li_273, li_380, li_400, li_512, li_1000, li_2457, li_4000, nI_add, nI_1, nI_mul, nI_sub, shl_1, shl_1b]; exact ⟨_, by omega, by omega, rfl⟩))) ?_
  rintro e27 _ ⟨rfl, hxe27⟩
  exact Ok.ret ⟨rfl, True.intro⟩
