/-! the reference: what changes it (printed by wip/p2/gen14.py) -/
theorem ix1 {s z p q : Nat} (hs : s < 3) (hz : z < 3) (hp : p < 9) (hq : q < 9) : 91 * s ≠ ((91 * z) + 1) + (9 * p) + q := by
  rcases (show z = 0 ∨ z = 1 ∨ z = 2 by omega) with rfl | rfl | rfl <;> rcases (show s = 0 ∨ s = 1 ∨ s = 2 by omega) with rfl | rfl | rfl <;> omega
theorem ix2 {s z p q i : Nat} (hs : s < 3) (hz : z < 3) (hp : p < 9) (hq : q < 9) (hi : i < 9) : 91 * s + 82 + i ≠ ((91 * z) + 1) + (9 * p) + q := by
  rcases (show z = 0 ∨ z = 1 ∨ z = 2 by omega) with rfl | rfl | rfl <;> rcases (show s = 0 ∨ s = 1 ∨ s = 2 by omega) with rfl | rfl | rfl <;> omega
theorem ix3 {s z p : Nat} (hs : s < 3) (hz : z < 3) (hp : p < 9) : 91 * s ≠ ((91 * z) + 82) + p := by
  rcases (show z = 0 ∨ z = 1 ∨ z = 2 by omega) with rfl | rfl | rfl <;> rcases (show s = 0 ∨ s = 1 ∨ s = 2 by omega) with rfl | rfl | rfl <;> omega
theorem upd_ne {f : Nat → Int32} {i e : Nat} {v : Int32} (h : i ≠ e) : upd f e v i = f i := by simp [upd, h]
/-- a weight is written: points and rows stay -/
theorem GO_w {g : Nat → Int32} (h : GO g) (z p q : Nat) (v : Int32) (hz : z < 3) (hp : p < 9) (hq : q < 9) : GO (upd g (((91 * z) + 1) + (9 * p) + q) v) := by
  intro s hs
  have e1 : upd g (((91 * z) + 1) + (9 * p) + q) v (91 * s) = g (91 * s) := upd_ne (ix1 hs hz hp hq)
  have e2 : ∀ i, i < 9 → upd g (((91 * z) + 1) + (9 * p) + q) v (91 * s + 82 + i) = g (91 * s + 82 + i) := fun i hi => upd_ne (ix2 hs hz hp hq hi)
  rw [e1]
  refine ⟨(h s hs).1, fun i hi => ?_⟩
  rw [e2 i hi]
  exact (h s hs).2 i hi
theorem PE_w {g : Nat → Int32} (h : PE g) (z p q : Nat) (v : Int32) (hz : z < 3) (hp : p < 9) (hq : q < 9) (hb : ∀ s, s < 3 → (g (91 * s)).toNatClampNeg ≤ 9) : PE (upd g (((91 * z) + 1) + (9 * p) + q) v) := by
  intro s hs
  have e1 : upd g (((91 * z) + 1) + (9 * p) + q) v (91 * s) = g (91 * s) := upd_ne (ix1 hs hz hp hq)
  rw [e1]
  intro t ht
  obtain ⟨i, h1, h2⟩ := h s hs t ht
  have := hb s hs
  exact ⟨i, h1, by rw [upd_ne (ix2 hs hz hp hq (by omega))]; exact h2⟩
/-- a place of the row is written -/
theorem GO_o {g : Nat → Int32} (h : GO g) (z p w : Nat) (hz : z < 3) (hp : p < 9) (hw : w < 9) : GO (upd g (((91 * z) + 82) + p) (nI w)) := by
  intro s hs
  have e1 : upd g (((91 * z) + 82) + p) (nI w) (91 * s) = g (91 * s) := upd_ne (ix3 hs hz hp)
  rw [e1]
  refine ⟨(h s hs).1, fun i hi => ?_⟩
  by_cases e : 91 * s + 82 + i = 91 * z + 82 + p
  · have e2 : upd g (((91 * z) + 82) + p) (nI w) (91 * s + 82 + i) = nI w := by rw [e]; simp [upd]
    rw [e2, nI_clamp (by omega)]
    exact ⟨rfl, hw⟩
  · rw [upd_ne e]
    exact (h s hs).2 i hi
theorem in_lt {y : Int32} {lo : Int64} {a : Nat} (ha : a ≤ 1000) (hlo : 0 ≤ lo.toInt) (h : ¬ FX12_in y.toInt64 lo (nI a - 1).toInt64 = 0) : ∃ q, q < a ∧ y = nI q := by
  have h1 := (in_iff _ _ _).mp h
  rw [Int32.toInt_toInt64, Int32.toInt_toInt64] at h1
  have e4 : (0 : Int32).toInt = 0 := by decide
  have h0 : ¬ y < 0 := fun q => by
    rw [Int32.lt_iff_toInt_lt] at q
    omega
  obtain ⟨j, hj, rfl⟩ := nI_of h0
  rw [nI_toInt hj, show (nI a - 1 : Int32) = nI a - nI 1 from rfl, pk_sub_toInt (by omega) (by omega)] at h1
  exact ⟨j, by omega, rfl⟩
theorem in_ge {q : Nat} {lo hi : Int64} (hq : q < 2147483648) (h : ¬ FX12_in (nI q).toInt64 lo hi = 0) : lo.toInt ≤ q := by
  have h1 := (in_iff _ _ _).mp h
  rw [Int32.toInt_toInt64, nI_toInt hq] at h1
  exact h1.1
theorem in_le {y : Int32} {a : Nat} (ha : a ≤ 1000) (h : ¬ FX12_in y.toInt64 0 (nI a).toInt64 = 0) : ∃ q, q < a + 1 ∧ y = nI q := by
  have h1 := (in_iff _ _ _).mp h
  rw [Int32.toInt_toInt64, Int32.toInt_toInt64] at h1
  have e4 : (0 : Int32).toInt = 0 := by decide
  have e5 : (0 : Int64).toInt = 0 := by decide
  have h0 : ¬ y < 0 := fun q => by
    rw [Int32.lt_iff_toInt_lt] at q
    omega
  obtain ⟨j, hj, rfl⟩ := nI_of h0
  rw [nI_toInt hj, nI_toInt (by omega)] at h1
  exact ⟨j, by omega, rfl⟩
theorem net_pos {g : Nat → Int32} {e : Nat} (he : e < 3) (hG : GO g) (h : ¬ FX12_isNet g (nI e) = 0) : 1 ≤ (g (91 * e)).toNatClampNeg := by
  unfold FX12_isNet at h
  by_cases c : FX12_isSlot (nI e) = 0
  · rw [if_pos c] at h
    exact absurd rfl h
  · rw [if_neg c, nI_clamp (by omega)] at h
    have hb := (hG e he).1.2
    rcases Nat.eq_zero_or_pos (g (91 * e)).toNatClampNeg with q | q
    · rw [q] at h
      exact absurd (by decide) h
    · omega
theorem L64 : (0 : Int64).toInt = 0 ∧ (1 : Int64).toInt = 1 := by decide
def FX12_weighs (f_state : Nat → Int32) (z : Nat) (p : Nat) (q : Nat) (x : Int32) : Int32 × (Nat → Int32) := (0, upd (upd f_state ((((91 * z) + 1) + (9 * p)) + q) x) ((((91 * z) + 1) + (9 * q)) + p) x)
set_option maxHeartbeats 4000000 in
set_option maxRecDepth 100000 in
theorem FX12_weighs_ok (G : xG) {P R : xMem} {L : Nat} (hP : P.length = L) (i_keptMany : Nat) (i_taped : Nat) (i_faultKind : Int32) (i_faultPlace : Int32) (i_spot : Nat) (i_begin : Nat) (i_token : Int32) (i_value : Int32) (i_bad : Int32) (i_full : Nat) (i_bandRows : Int32) (i_bandFirsts : Int32) (i_outs : Nat) (f_state : Nat → Int32) (f_was : Nat → Int32) (f_kept : Nat → Int32) (f_tape : Nat → Int32) (f_order : Nat → Int32) (f_rest : Nat → Int32) (f_ways : Nat → Int32) (f_costs : Nat → Int32) (f_bandBest : Nat → Int32) (f_found : Nat → Int32) (f_drawn : Nat → Int32) (f_joined : Nat → Int32) (f_out : Nat → Int32) (bi_keptMany : i_keptMany ≤ 10) (bi_taped : i_taped ≤ 400) (bi_spot : i_spot ≤ 400) (bi_begin : i_begin ≤ 400) (bi_full : i_full ≤ 511) (bi_outs : i_outs ≤ 400) (z : Nat) (bz : z < 3) (p : Nat) (bp : p < 9) (q : Nat) (bq : q < 9) (x : Int32) (M : xMem) (hM : M = (P ++ (MDL L i_keptMany i_taped i_faultKind i_faultPlace i_spot i_begin i_token i_value i_bad i_full i_bandRows i_bandFirsts i_outs f_state f_was f_kept f_tape f_order f_rest f_ways f_costs f_bandBest f_found f_drawn f_joined f_out ++ R))) (Q : Int32 × (Nat → Int32) → Prop) (hq : Q (FX12_weighs f_state z p q x)) : xC G mX12_weighs 0 0 0 [.ref L, .int (nI z), .int (nI p), .int (nI q), .int x] M (fun v M2 => ∃ o : Int32 × (Nat → Int32), v = none ∧ Q o ∧ M2 = (P ++ (MDL L i_keptMany i_taped i_faultKind i_faultPlace i_spot i_begin i_token i_value i_bad i_full i_bandRows i_bandFirsts i_outs o.2 f_was f_kept f_tape f_order f_rest f_ways f_costs f_bandBest f_found f_drawn f_joined f_out ++ R))) := by
  subst hM
  unfold FX12_weighs at hq
  refine xC.of (by decide) (Nat.le_of_ble_eq_true rfl) ?_
  show xW _ _ _ _ 0 [(0, .ref L), (1, .int (nI z)), (2, .int (nI p)), (3, .int (nI q)), (4, .int x)] [] _ 0 0
  refine xi_aload_n 0 dX12_weighs_0 rfl ?_
  refine xi_get (f := 0) dX12_weighs_1 (xpg0 hP rfl) rfl ok_9 (by decide) w_1008 rfl ?_
  refine xi_bipush (v := 91) dX12_weighs_4 (by decide) ?_
  refine xi_iload_n 1 dX12_weighs_6 rfl ?_
  refine xi_imul (v := (nI (91 * z))) dX12_weighs_7 (pk_mul 91 z) ?_
  refine xi_iconst (v := 1) dX12_weighs_8 (by decide) ?_
  refine xi_iadd (v := (nI ((91 * z) + 1))) dX12_weighs_9 (nI_add (91 * z) 1) ?_
  refine xi_bipush (v := 9) dX12_weighs_10 (by decide) ?_
  refine xi_iload_n 2 dX12_weighs_12 rfl ?_
  refine xi_imul (v := (nI (9 * p))) dX12_weighs_13 (pk_mul 9 p) ?_
  refine xi_iadd (v := (nI (((91 * z) + 1) + (9 * p)))) dX12_weighs_14 (nI_add ((91 * z) + 1) (9 * p)) ?_
  refine xi_iload_n 3 dX12_weighs_15 rfl ?_
  refine xi_iadd (v := (nI ((((91 * z) + 1) + (9 * p)) + q))) dX12_weighs_16 (nI_add (((91 * z) + 1) + (9 * p)) q) ?_
  refine xi_iload 4 dX12_weighs_17 rfl ?_
  refine xi_iastore (M' := (P ++ (MDL L i_keptMany i_taped i_faultKind i_faultPlace i_spot i_begin i_token i_value i_bad i_full i_bandRows i_bandFirsts i_outs (upd f_state ((((91 * z) + 1) + (9 * p)) + q) x) f_was f_kept f_tape f_order f_rest f_ways f_costs f_bandBest f_found f_drawn f_joined f_out ++ R))) dX12_weighs_19 (xpg hP rfl) (vp_in_nI (by omega) (by decide)) (by rw [nI_clamp (by omega)]; exact (xps hP)) ?_
  refine xi_aload_n 0 dX12_weighs_20 rfl ?_
  refine xi_get (f := 0) dX12_weighs_21 (xpg0 hP rfl) rfl ok_9 (by decide) w_1008 rfl ?_
  refine xi_bipush (v := 91) dX12_weighs_24 (by decide) ?_
  refine xi_iload_n 1 dX12_weighs_26 rfl ?_
  refine xi_imul (v := (nI (91 * z))) dX12_weighs_27 (pk_mul 91 z) ?_
  refine xi_iconst (v := 1) dX12_weighs_28 (by decide) ?_
  refine xi_iadd (v := (nI ((91 * z) + 1))) dX12_weighs_29 (nI_add (91 * z) 1) ?_
  refine xi_bipush (v := 9) dX12_weighs_30 (by decide) ?_
  refine xi_iload_n 3 dX12_weighs_32 rfl ?_
  refine xi_imul (v := (nI (9 * q))) dX12_weighs_33 (pk_mul 9 q) ?_
  refine xi_iadd (v := (nI (((91 * z) + 1) + (9 * q)))) dX12_weighs_34 (nI_add ((91 * z) + 1) (9 * q)) ?_
  refine xi_iload_n 2 dX12_weighs_35 rfl ?_
  refine xi_iadd (v := (nI ((((91 * z) + 1) + (9 * q)) + p))) dX12_weighs_36 (nI_add (((91 * z) + 1) + (9 * q)) p) ?_
  refine xi_iload 4 dX12_weighs_37 rfl ?_
  refine xi_iastore (M' := (P ++ (MDL L i_keptMany i_taped i_faultKind i_faultPlace i_spot i_begin i_token i_value i_bad i_full i_bandRows i_bandFirsts i_outs (upd (upd f_state ((((91 * z) + 1) + (9 * p)) + q) x) ((((91 * z) + 1) + (9 * q)) + p) x) f_was f_kept f_tape f_order f_rest f_ways f_costs f_bandBest f_found f_drawn f_joined f_out ++ R))) dX12_weighs_39 (xpg hP rfl) (vp_in_nI (by omega) (by decide)) (by rw [nI_clamp (by omega)]; exact (xps hP)) ?_
  exact xi_vret dX12_weighs_40 rfl (Nat.le_of_ble_eq_true rfl) (Nat.le_of_ble_eq_true rfl) ⟨_, rfl, hq, rfl⟩
def FX12_puts (f_state : Nat → Int32) (z : Nat) (p : Nat) (x : Int32) : Int32 × (Nat → Int32) := (0, upd f_state (((91 * z) + 82) + p) x)
set_option maxHeartbeats 4000000 in
set_option maxRecDepth 100000 in
theorem FX12_puts_ok (G : xG) {P R : xMem} {L : Nat} (hP : P.length = L) (i_keptMany : Nat) (i_taped : Nat) (i_faultKind : Int32) (i_faultPlace : Int32) (i_spot : Nat) (i_begin : Nat) (i_token : Int32) (i_value : Int32) (i_bad : Int32) (i_full : Nat) (i_bandRows : Int32) (i_bandFirsts : Int32) (i_outs : Nat) (f_state : Nat → Int32) (f_was : Nat → Int32) (f_kept : Nat → Int32) (f_tape : Nat → Int32) (f_order : Nat → Int32) (f_rest : Nat → Int32) (f_ways : Nat → Int32) (f_costs : Nat → Int32) (f_bandBest : Nat → Int32) (f_found : Nat → Int32) (f_drawn : Nat → Int32) (f_joined : Nat → Int32) (f_out : Nat → Int32) (bi_keptMany : i_keptMany ≤ 10) (bi_taped : i_taped ≤ 400) (bi_spot : i_spot ≤ 400) (bi_begin : i_begin ≤ 400) (bi_full : i_full ≤ 511) (bi_outs : i_outs ≤ 400) (z : Nat) (bz : z < 3) (p : Nat) (bp : p < 9) (x : Int32) (M : xMem) (hM : M = (P ++ (MDL L i_keptMany i_taped i_faultKind i_faultPlace i_spot i_begin i_token i_value i_bad i_full i_bandRows i_bandFirsts i_outs f_state f_was f_kept f_tape f_order f_rest f_ways f_costs f_bandBest f_found f_drawn f_joined f_out ++ R))) (Q : Int32 × (Nat → Int32) → Prop) (hq : Q (FX12_puts f_state z p x)) : xC G mX12_puts 0 0 0 [.ref L, .int (nI z), .int (nI p), .int x] M (fun v M2 => ∃ o : Int32 × (Nat → Int32), v = none ∧ Q o ∧ M2 = (P ++ (MDL L i_keptMany i_taped i_faultKind i_faultPlace i_spot i_begin i_token i_value i_bad i_full i_bandRows i_bandFirsts i_outs o.2 f_was f_kept f_tape f_order f_rest f_ways f_costs f_bandBest f_found f_drawn f_joined f_out ++ R))) := by
  subst hM
  unfold FX12_puts at hq
  refine xC.of (by decide) (Nat.le_of_ble_eq_true rfl) ?_
  show xW _ _ _ _ 0 [(0, .ref L), (1, .int (nI z)), (2, .int (nI p)), (3, .int x)] [] _ 0 0
  refine xi_aload_n 0 dX12_puts_0 rfl ?_
  refine xi_get (f := 0) dX12_puts_1 (xpg0 hP rfl) rfl ok_9 (by decide) w_1008 rfl ?_
  refine xi_bipush (v := 91) dX12_puts_4 (by decide) ?_
  refine xi_iload_n 1 dX12_puts_6 rfl ?_
  refine xi_imul (v := (nI (91 * z))) dX12_puts_7 (pk_mul 91 z) ?_
  refine xi_bipush (v := 82) dX12_puts_8 (by decide) ?_
  refine xi_iadd (v := (nI ((91 * z) + 82))) dX12_puts_10 (nI_add (91 * z) 82) ?_
  refine xi_iload_n 2 dX12_puts_11 rfl ?_
  refine xi_iadd (v := (nI (((91 * z) + 82) + p))) dX12_puts_12 (nI_add ((91 * z) + 82) p) ?_
  refine xi_iload_n 3 dX12_puts_13 rfl ?_
  refine xi_iastore (M' := (P ++ (MDL L i_keptMany i_taped i_faultKind i_faultPlace i_spot i_begin i_token i_value i_bad i_full i_bandRows i_bandFirsts i_outs (upd f_state (((91 * z) + 82) + p) x) f_was f_kept f_tape f_order f_rest f_ways f_costs f_bandBest f_found f_drawn f_joined f_out ++ R))) dX12_puts_14 (xpg hP rfl) (vp_in_nI (by omega) (by decide)) (by rw [nI_clamp (by omega)]; exact (xps hP)) ?_
  exact xi_vret dX12_puts_15 rfl (Nat.le_of_ble_eq_true rfl) (Nat.le_of_ble_eq_true rfl) ⟨_, rfl, hq, rfl⟩
def FX12_isSign (i_begin : Nat) (i_token : Int32) (i_bad : Int32) (f_tape : Nat → Int32) (x : Int32) : Int32 := (if i_bad = (0 : Int32) then (if i_token = (3 : Int32) then (if (f_tape i_begin) = x then (1 : Int32) else (0 : Int32)) else (0 : Int32)) else (0 : Int32))
set_option maxHeartbeats 4000000 in
set_option maxRecDepth 100000 in
theorem FX12_isSign_ok (G : xG) {P R : xMem} {L : Nat} (hP : P.length = L) (i_keptMany : Nat) (i_taped : Nat) (i_faultKind : Int32) (i_faultPlace : Int32) (i_spot : Nat) (i_begin : Nat) (i_token : Int32) (i_value : Int32) (i_bad : Int32) (i_full : Nat) (i_bandRows : Int32) (i_bandFirsts : Int32) (i_outs : Nat) (f_state : Nat → Int32) (f_was : Nat → Int32) (f_kept : Nat → Int32) (f_tape : Nat → Int32) (f_order : Nat → Int32) (f_rest : Nat → Int32) (f_ways : Nat → Int32) (f_costs : Nat → Int32) (f_bandBest : Nat → Int32) (f_found : Nat → Int32) (f_drawn : Nat → Int32) (f_joined : Nat → Int32) (f_out : Nat → Int32) (bi_keptMany : i_keptMany ≤ 10) (bi_taped : i_taped ≤ 400) (bi_spot : i_spot ≤ 400) (bi_begin : i_begin ≤ 400) (bi_full : i_full ≤ 511) (bi_outs : i_outs ≤ 400) (x : Int32) (hbg : i_begin < 400) (M : xMem) (hM : M = (P ++ (MDL L i_keptMany i_taped i_faultKind i_faultPlace i_spot i_begin i_token i_value i_bad i_full i_bandRows i_bandFirsts i_outs f_state f_was f_kept f_tape f_order f_rest f_ways f_costs f_bandBest f_found f_drawn f_joined f_out ++ R))) (Q : Int32 → Prop) (hq : Q (FX12_isSign i_begin i_token i_bad f_tape x)) : xC G mX12_isSign 0 0 0 [.ref L, .int x] M (fun v M2 => ∃ o : Int32, v = some (.int o) ∧ Q o ∧ M2 = (P ++ (MDL L i_keptMany i_taped i_faultKind i_faultPlace i_spot i_begin i_token i_value i_bad i_full i_bandRows i_bandFirsts i_outs f_state f_was f_kept f_tape f_order f_rest f_ways f_costs f_bandBest f_found f_drawn f_joined f_out ++ R))) := by
  subst hM
  unfold FX12_isSign at hq
  refine xC.of (by decide) (Nat.le_of_ble_eq_true rfl) ?_
  show xW _ _ _ _ 0 [(0, .ref L), (1, .int x)] [] _ 0 0
  refine xi_aload_n 0 dX12_isSign_0 rfl ?_
  refine xi_get (f := 12) dX12_isSign_1 (xpg0 hP rfl) rfl ok_9 (by decide) w_1020 rfl ?_
  refine xi_if_ne (tgt := 32) dX12_isSign_4 (by decide) (fun c1 => ?_) (fun c1 => ?_)
  · rw [if_neg c1] at hq
    refine xi_iconst (v := 0) dX12_isSign_32 (by decide) ?_
    exact xi_iret dX12_isSign_33 rfl (by decide) (Nat.le_of_ble_eq_true rfl) (Nat.le_of_ble_eq_true rfl) ⟨_, rfl, hq, rfl⟩
  · rw [if_pos c1] at hq
    refine xi_aload_n 0 dX12_isSign_7 rfl ?_
    refine xi_get (f := 10) dX12_isSign_8 (xpg0 hP rfl) rfl ok_9 (by decide) w_1018 rfl ?_
    refine xi_iconst (v := 3) dX12_isSign_11 (by decide) ?_
    refine xi_icmp_ne (tgt := 32) dX12_isSign_12 (by decide) (fun c2 => ?_) (fun c2 => ?_)
    · rw [if_neg c2] at hq
      refine xi_iconst (v := 0) dX12_isSign_32 (by decide) ?_
      exact xi_iret dX12_isSign_33 rfl (by decide) (Nat.le_of_ble_eq_true rfl) (Nat.le_of_ble_eq_true rfl) ⟨_, rfl, hq, rfl⟩
    · rw [if_pos c2] at hq
      refine xi_aload_n 0 dX12_isSign_15 rfl ?_
      refine xi_get (f := 4) dX12_isSign_16 (xpg0 hP rfl) rfl ok_9 (by decide) w_1012 rfl ?_
      refine xi_aload_n 0 dX12_isSign_19 rfl ?_
      refine xi_get (f := 9) dX12_isSign_20 (xpg0 hP rfl) rfl ok_9 (by decide) w_1017 rfl ?_
      refine xi_iaload (v := (f_tape i_begin)) dX12_isSign_23 (xpg hP rfl) (vp_in_nI (by omega) (by decide)) (by rw [nI_clamp (by omega)]) ?_
      refine xi_iload_n 1 dX12_isSign_24 rfl ?_
      refine xi_icmp_ne (tgt := 32) dX12_isSign_25 (by decide) (fun c3 => ?_) (fun c3 => ?_)
      · rw [if_neg c3] at hq
        refine xi_iconst (v := 0) dX12_isSign_32 (by decide) ?_
        exact xi_iret dX12_isSign_33 rfl (by decide) (Nat.le_of_ble_eq_true rfl) (Nat.le_of_ble_eq_true rfl) ⟨_, rfl, hq, rfl⟩
      · rw [if_pos c3] at hq
        refine xi_iconst (v := 1) dX12_isSign_28 (by decide) ?_
        refine xi_goto (tgt := 33) dX12_isSign_29 (by decide) ?_
        exact xi_iret dX12_isSign_33 rfl (by decide) (Nat.le_of_ble_eq_true rfl) (Nat.le_of_ble_eq_true rfl) ⟨_, rfl, hq, rfl⟩
theorem FX12_isSign_b (i_begin : Nat) (i_token : Int32) (i_bad : Int32) (f_tape : Nat → Int32) (x : Int32) : FX12_isSign i_begin i_token i_bad f_tape x = 0 ∨ FX12_isSign i_begin i_token i_bad f_tape x = 1 := by
  unfold FX12_isSign
  (repeat' split) <;> first | exact Or.inl rfl | exact Or.inr rfl
def FX12_end (i_taped : Nat) (x : Int32) : Int32 × Nat := (if (FX12_in x.toInt64 ((0 : Int64)) (((nI i_taped).toInt64))) = (0 : Int32) then ((-1 : Int32), i_taped) else ((nI x.toNatClampNeg), x.toNatClampNeg))
set_option maxHeartbeats 4000000 in
set_option maxRecDepth 100000 in
theorem FX12_end_ok (G : xG) {P R : xMem} {L : Nat} (hP : P.length = L) (i_keptMany : Nat) (i_taped : Nat) (i_faultKind : Int32) (i_faultPlace : Int32) (i_spot : Nat) (i_begin : Nat) (i_token : Int32) (i_value : Int32) (i_bad : Int32) (i_full : Nat) (i_bandRows : Int32) (i_bandFirsts : Int32) (i_outs : Nat) (f_state : Nat → Int32) (f_was : Nat → Int32) (f_kept : Nat → Int32) (f_tape : Nat → Int32) (f_order : Nat → Int32) (f_rest : Nat → Int32) (f_ways : Nat → Int32) (f_costs : Nat → Int32) (f_bandBest : Nat → Int32) (f_found : Nat → Int32) (f_drawn : Nat → Int32) (f_joined : Nat → Int32) (f_out : Nat → Int32) (bi_keptMany : i_keptMany ≤ 10) (bi_taped : i_taped ≤ 400) (bi_spot : i_spot ≤ 400) (bi_begin : i_begin ≤ 400) (bi_full : i_full ≤ 511) (bi_outs : i_outs ≤ 400) (x : Int32) (M : xMem) (hM : M = (P ++ (MDL L i_keptMany i_taped i_faultKind i_faultPlace i_spot i_begin i_token i_value i_bad i_full i_bandRows i_bandFirsts i_outs f_state f_was f_kept f_tape f_order f_rest f_ways f_costs f_bandBest f_found f_drawn f_joined f_out ++ R))) (Q : Int32 × Nat → Prop) (hq : Q (FX12_end i_taped x)) : xC G mX12_end 1 0 0 [.ref L, .int x] M (fun v M2 => ∃ o : Int32 × Nat, v = some (.int o.1) ∧ Q o ∧ M2 = (P ++ (MDL L i_keptMany o.2 i_faultKind i_faultPlace i_spot i_begin i_token i_value i_bad i_full i_bandRows i_bandFirsts i_outs f_state f_was f_kept f_tape f_order f_rest f_ways f_costs f_bandBest f_found f_drawn f_joined f_out ++ R))) := by
  subst hM
  unfold FX12_end at hq
  refine xC.of (by decide) (Nat.le_of_ble_eq_true rfl) ?_
  show xW _ _ _ _ 0 [(0, .ref L), (1, .int x)] [] _ 0 0
  refine xi_iload_n 1 dX12_end_0 rfl ?_
  refine xi_i2l dX12_end_1 rfl ?_
  refine xi_lconst (v := 0) dX12_end_2 (by decide) ?_
  refine xi_aload_n 0 dX12_end_3 rfl ?_
  refine xi_get (f := 5) dX12_end_4 (xpg0 hP rfl) rfl ok_9 (by decide) w_1013 rfl ?_
  refine xi_i2l dX12_end_7 rfl ?_
  refine xi_callS (as := [.long x.toInt64, .long 0, .long ((nI i_taped).toInt64)]) (rest := []) dX12_end_8 (FX12_in_ok G x.toInt64 ((0 : Int64)) (((nI i_taped).toInt64)) (fun r => r = FX12_in x.toInt64 ((0 : Int64)) (((nI i_taped).toInt64))) rfl) mkX12_in w_1100 w_1099 rfl rfl (Nat.le_of_ble_eq_true rfl) (Nat.le_of_ble_eq_true rfl) (Nat.le_of_ble_eq_true rfl) (Nat.le_of_ble_eq_true rfl) (Nat.le_of_ble_eq_true rfl) ?_
  intro v M2 hz
  obtain ⟨_, rfl, rfl, hM2⟩ := hz
  rw [hM2]
  show xW _ _ _ _ 11 _ [.int (FX12_in x.toInt64 ((0 : Int64)) (((nI i_taped).toInt64)))] (P ++ (MDL L i_keptMany i_taped i_faultKind i_faultPlace i_spot i_begin i_token i_value i_bad i_full i_bandRows i_bandFirsts i_outs f_state f_was f_kept f_tape f_order f_rest f_ways f_costs f_bandBest f_found f_drawn f_joined f_out ++ R)) _ _
  refine xi_if_ne (tgt := 16) dX12_end_11 (by decide) (fun c1 => ?_) (fun c1 => ?_)
  · rw [if_neg c1] at hq
    obtain ⟨e2, e2b, e2h⟩ := in_le (by omega) c1
    have e2c : x.toNatClampNeg = e2 := by rw [e2h]; exact nI_clamp (by omega)
    try rw [e2c] at hq
    subst e2h
    refine xi_aload_n 0 dX12_end_16 rfl ?_
    refine xi_iload_n 1 dX12_end_17 rfl ?_
    refine xi_put (f := 5) (ty := .int) (M' := (P ++ (MDL L i_keptMany e2 i_faultKind i_faultPlace i_spot i_begin i_token i_value i_bad i_full i_bandRows i_bandFirsts i_outs f_state f_was f_kept f_tape f_order f_rest f_ways f_costs f_bandBest f_found f_drawn f_joined f_out ++ R))) dX12_end_18 (xpg0 hP rfl) rfl ok_9 (by decide) w_1013 rfl pf_I (fun _ h => by cases h) rfl rfl (Nat.le_of_ble_eq_true rfl) (xps0 hP) ?_
    refine xi_iload_n 1 dX12_end_21 rfl ?_
    exact xi_iret dX12_end_22 rfl rfl (Nat.le_of_ble_eq_true rfl) (Nat.le_of_ble_eq_true rfl) ⟨_, rfl, hq, rfl⟩
  · rw [if_pos c1] at hq
    refine xi_iconst (v := (-1)) dX12_end_14 (by decide) ?_
    exact xi_iret dX12_end_15 rfl rfl (Nat.le_of_ble_eq_true rfl) (Nat.le_of_ble_eq_true rfl) ⟨_, rfl, hq, rfl⟩
def FX12_octet (i_outs : Nat) (f_out : Nat → Int32) (x : Int32) : Int32 := (if (FX12_in x.toInt64 ((0 : Int64)) ((((nI i_outs) - (1 : Int32)).toInt64))) = (0 : Int32) then (-1 : Int32) else (f_out x.toNatClampNeg))
set_option maxHeartbeats 4000000 in
set_option maxRecDepth 100000 in
theorem FX12_octet_ok (G : xG) {P R : xMem} {L : Nat} (hP : P.length = L) (i_keptMany : Nat) (i_taped : Nat) (i_faultKind : Int32) (i_faultPlace : Int32) (i_spot : Nat) (i_begin : Nat) (i_token : Int32) (i_value : Int32) (i_bad : Int32) (i_full : Nat) (i_bandRows : Int32) (i_bandFirsts : Int32) (i_outs : Nat) (f_state : Nat → Int32) (f_was : Nat → Int32) (f_kept : Nat → Int32) (f_tape : Nat → Int32) (f_order : Nat → Int32) (f_rest : Nat → Int32) (f_ways : Nat → Int32) (f_costs : Nat → Int32) (f_bandBest : Nat → Int32) (f_found : Nat → Int32) (f_drawn : Nat → Int32) (f_joined : Nat → Int32) (f_out : Nat → Int32) (bi_keptMany : i_keptMany ≤ 10) (bi_taped : i_taped ≤ 400) (bi_spot : i_spot ≤ 400) (bi_begin : i_begin ≤ 400) (bi_full : i_full ≤ 511) (bi_outs : i_outs ≤ 400) (x : Int32) (M : xMem) (hM : M = (P ++ (MDL L i_keptMany i_taped i_faultKind i_faultPlace i_spot i_begin i_token i_value i_bad i_full i_bandRows i_bandFirsts i_outs f_state f_was f_kept f_tape f_order f_rest f_ways f_costs f_bandBest f_found f_drawn f_joined f_out ++ R))) (Q : Int32 → Prop) (hq : Q (FX12_octet i_outs f_out x)) : xC G mX12_octet 1 0 0 [.ref L, .int x] M (fun v M2 => ∃ o : Int32, v = some (.int o) ∧ Q o ∧ M2 = (P ++ (MDL L i_keptMany i_taped i_faultKind i_faultPlace i_spot i_begin i_token i_value i_bad i_full i_bandRows i_bandFirsts i_outs f_state f_was f_kept f_tape f_order f_rest f_ways f_costs f_bandBest f_found f_drawn f_joined f_out ++ R))) := by
  subst hM
  unfold FX12_octet at hq
  refine xC.of (by decide) (Nat.le_of_ble_eq_true rfl) ?_
  show xW _ _ _ _ 0 [(0, .ref L), (1, .int x)] [] _ 0 0
  refine xi_iload_n 1 dX12_octet_0 rfl ?_
  refine xi_i2l dX12_octet_1 rfl ?_
  refine xi_lconst (v := 0) dX12_octet_2 (by decide) ?_
  refine xi_aload_n 0 dX12_octet_3 rfl ?_
  refine xi_get (f := 25) dX12_octet_4 (xpg0 hP rfl) rfl ok_9 (by decide) w_1033 rfl ?_
  refine xi_iconst (v := 1) dX12_octet_7 (by decide) ?_
  refine xi_isub (v := ((nI i_outs) - (1 : Int32))) dX12_octet_8 rfl ?_
  refine xi_i2l dX12_octet_9 rfl ?_
  refine xi_callS (as := [.long x.toInt64, .long 0, .long (((nI i_outs) - (1 : Int32)).toInt64)]) (rest := []) dX12_octet_10 (FX12_in_ok G x.toInt64 ((0 : Int64)) ((((nI i_outs) - (1 : Int32)).toInt64)) (fun r => r = FX12_in x.toInt64 ((0 : Int64)) ((((nI i_outs) - (1 : Int32)).toInt64))) rfl) mkX12_in w_1100 w_1099 rfl rfl (Nat.le_of_ble_eq_true rfl) (Nat.le_of_ble_eq_true rfl) (Nat.le_of_ble_eq_true rfl) (Nat.le_of_ble_eq_true rfl) (Nat.le_of_ble_eq_true rfl) ?_
  intro v M2 hz
  obtain ⟨_, rfl, rfl, hM2⟩ := hz
  rw [hM2]
  show xW _ _ _ _ 13 _ [.int (FX12_in x.toInt64 ((0 : Int64)) ((((nI i_outs) - (1 : Int32)).toInt64)))] (P ++ (MDL L i_keptMany i_taped i_faultKind i_faultPlace i_spot i_begin i_token i_value i_bad i_full i_bandRows i_bandFirsts i_outs f_state f_was f_kept f_tape f_order f_rest f_ways f_costs f_bandBest f_found f_drawn f_joined f_out ++ R)) _ _
  refine xi_if_eq (tgt := 25) dX12_octet_13 (by decide) (fun c1 => ?_) (fun c1 => ?_)
  · rw [if_pos c1] at hq
    refine xi_iconst (v := (-1)) dX12_octet_25 (by decide) ?_
    exact xi_iret dX12_octet_26 rfl rfl (Nat.le_of_ble_eq_true rfl) (Nat.le_of_ble_eq_true rfl) ⟨_, rfl, hq, rfl⟩
  · rw [if_neg c1] at hq
    obtain ⟨e2, e2b, e2h⟩ := in_lt (by omega) (by decide) c1
    have e2c : x.toNatClampNeg = e2 := by rw [e2h]; exact nI_clamp (by omega)
    try rw [e2c] at hq
    subst e2h
    refine xi_aload_n 0 dX12_octet_16 rfl ?_
    refine xi_get (f := 24) dX12_octet_17 (xpg0 hP rfl) rfl ok_9 (by decide) w_1032 rfl ?_
    refine xi_iload_n 1 dX12_octet_20 rfl ?_
    refine xi_iaload (v := (f_out e2)) dX12_octet_21 (xpg hP rfl) (vp_in_nI (by omega) (by decide)) (by rw [nI_clamp (by omega)]) ?_
    refine xi_goto (tgt := 26) dX12_octet_22 (by decide) ?_
    exact xi_iret dX12_octet_26 rfl rfl (Nat.le_of_ble_eq_true rfl) (Nat.le_of_ble_eq_true rfl) ⟨_, rfl, hq, rfl⟩
def FX12_price (f_state : Nat → Int32) (x : Int32) (m : Int32) (y : Int32) : Int32 := (if (FX12_isNet f_state x) = (0 : Int32) then (-2 : Int32) else (if (FX12_isMeasure m) = (0 : Int32) then (-2 : Int32) else (if m = (2 : Int32) then (-2 : Int32) else (if (FX12_isTakenOut m) = (0 : Int32) then (if (FX12_in y.toInt64 ((1 : Int64)) ((((nI ((f_state (91 * x.toNatClampNeg)).toNatClampNeg)) - (1 : Int32)).toInt64))) = (0 : Int32) then (-2 : Int32) else (FX12_priceOf f_state x.toNatClampNeg m y.toNatClampNeg)) else (if (FX12_in y.toInt64 ((0 : Int64)) ((((nI ((f_state (91 * x.toNatClampNeg)).toNatClampNeg)) - (1 : Int32)).toInt64))) = (0 : Int32) then (-2 : Int32) else (FX12_priceOf f_state x.toNatClampNeg m y.toNatClampNeg))))))
set_option maxHeartbeats 4000000 in
set_option maxRecDepth 100000 in
theorem FX12_price_ok (G : xG) {P R : xMem} {L : Nat} (hP : P.length = L) (i_keptMany : Nat) (i_taped : Nat) (i_faultKind : Int32) (i_faultPlace : Int32) (i_spot : Nat) (i_begin : Nat) (i_token : Int32) (i_value : Int32) (i_bad : Int32) (i_full : Nat) (i_bandRows : Int32) (i_bandFirsts : Int32) (i_outs : Nat) (f_state : Nat → Int32) (f_was : Nat → Int32) (f_kept : Nat → Int32) (f_tape : Nat → Int32) (f_order : Nat → Int32) (f_rest : Nat → Int32) (f_ways : Nat → Int32) (f_costs : Nat → Int32) (f_bandBest : Nat → Int32) (f_found : Nat → Int32) (f_drawn : Nat → Int32) (f_joined : Nat → Int32) (f_out : Nat → Int32) (bi_keptMany : i_keptMany ≤ 10) (bi_taped : i_taped ≤ 400) (bi_spot : i_spot ≤ 400) (bi_begin : i_begin ≤ 400) (bi_full : i_full ≤ 511) (bi_outs : i_outs ≤ 400) (hG : GO f_state) (x : Int32) (m : Int32) (y : Int32) (M : xMem) (hM : M = (P ++ (MDL L i_keptMany i_taped i_faultKind i_faultPlace i_spot i_begin i_token i_value i_bad i_full i_bandRows i_bandFirsts i_outs f_state f_was f_kept f_tape f_order f_rest f_ways f_costs f_bandBest f_found f_drawn f_joined f_out ++ R))) (Q : Int32 → Prop) (hq : Q (FX12_price f_state x m y)) : xC G mX12_price 6 0 0 [.ref L, .int x, .int m, .int y] M (fun v M2 => ∃ o : Int32, v = some (.int o) ∧ Q o ∧ M2 = (P ++ (MDL L i_keptMany i_taped i_faultKind i_faultPlace i_spot i_begin i_token i_value i_bad i_full i_bandRows i_bandFirsts i_outs f_state f_was f_kept f_tape f_order f_rest f_ways f_costs f_bandBest f_found f_drawn f_joined f_out ++ R))) := by
  subst hM
  unfold FX12_price at hq
  refine xC.of (by decide) (Nat.le_of_ble_eq_true rfl) ?_
  show xW _ _ _ _ 0 [(0, .ref L), (1, .int x), (2, .int m), (3, .int y)] [] _ 0 0
  refine xi_aload_n 0 dX12_price_0 rfl ?_
  refine xi_iload_n 1 dX12_price_1 rfl ?_
  refine xi_callV (as := [.int x]) (rest := []) dX12_price_2 (FX12_isNet_ok G hP i_keptMany i_taped i_faultKind i_faultPlace i_spot i_begin i_token i_value i_bad i_full i_bandRows i_bandFirsts i_outs f_state f_was f_kept f_tape f_order f_rest f_ways f_costs f_bandBest f_found f_drawn f_joined f_out (by omega) (by omega) (by omega) (by omega) (by omega) (by omega) hG x _ rfl (fun r => r = FX12_isNet f_state x) rfl) mkX12_isNet w_1104 ws_35 w_1102 (xpg0 hP rfl) rfl rfl rfl rfl (Nat.le_of_ble_eq_true rfl) (Nat.le_of_ble_eq_true rfl) (Nat.le_of_ble_eq_true rfl) (Nat.le_of_ble_eq_true rfl) (Nat.le_of_ble_eq_true rfl) ?_
  intro v M2 hz
  obtain ⟨_, rfl, rfl, rfl⟩ := hz
  show xW _ _ _ _ 5 _ [.int (FX12_isNet f_state x)] (P ++ (MDL L i_keptMany i_taped i_faultKind i_faultPlace i_spot i_begin i_token i_value i_bad i_full i_bandRows i_bandFirsts i_outs f_state f_was f_kept f_tape f_order f_rest f_ways f_costs f_bandBest f_found f_drawn f_joined f_out ++ R)) _ _
  refine xi_if_eq (tgt := 48) dX12_price_5 (by decide) (fun c1 => ?_) (fun c1 => ?_)
  · rw [if_pos c1] at hq
    refine xi_bipush (v := (-2)) dX12_price_48 (by decide) ?_
    exact xi_iret dX12_price_50 rfl rfl (Nat.le_of_ble_eq_true rfl) (Nat.le_of_ble_eq_true rfl) ⟨_, rfl, hq, rfl⟩
  · rw [if_neg c1] at hq
    obtain ⟨e2, e2b, e2h⟩ := net_in c1
    have e2c : x.toNatClampNeg = e2 := by rw [e2h]; exact nI_clamp (by omega)
    try rw [e2c] at hq
    subst e2h
    have e2g := (hG e2 e2b).1.2
    have e2p := net_pos e2b hG c1
    refine xi_iload_n 2 dX12_price_8 rfl ?_
    refine xi_callS (as := [.int m]) (rest := []) dX12_price_9 (FX12_isMeasure_ok G m (fun r => r = FX12_isMeasure m) rfl) mkX12_isMeasure w_1288 w_1287 rfl rfl (Nat.le_of_ble_eq_true rfl) (Nat.le_of_ble_eq_true rfl) (Nat.le_of_ble_eq_true rfl) (Nat.le_of_ble_eq_true rfl) (Nat.le_of_ble_eq_true rfl) ?_
    intro v M2 hz
    obtain ⟨_, rfl, rfl, hM2⟩ := hz
    rw [hM2]
    show xW _ _ _ _ 12 _ [.int (FX12_isMeasure m)] (P ++ (MDL L i_keptMany i_taped i_faultKind i_faultPlace i_spot i_begin i_token i_value i_bad i_full i_bandRows i_bandFirsts i_outs f_state f_was f_kept f_tape f_order f_rest f_ways f_costs f_bandBest f_found f_drawn f_joined f_out ++ R)) _ _
    refine xi_if_eq (tgt := 48) dX12_price_12 (by decide) (fun c3 => ?_) (fun c3 => ?_)
    · rw [if_pos c3] at hq
      refine xi_bipush (v := (-2)) dX12_price_48 (by decide) ?_
      exact xi_iret dX12_price_50 rfl rfl (Nat.le_of_ble_eq_true rfl) (Nat.le_of_ble_eq_true rfl) ⟨_, rfl, hq, rfl⟩
    · rw [if_neg c3] at hq
      refine xi_iload_n 2 dX12_price_15 rfl ?_
      refine xi_iconst (v := 2) dX12_price_16 (by decide) ?_
      refine xi_icmp_eq (tgt := 48) dX12_price_17 (by decide) (fun c4 => ?_) (fun c4 => ?_)
      · rw [if_pos c4] at hq
        refine xi_bipush (v := (-2)) dX12_price_48 (by decide) ?_
        exact xi_iret dX12_price_50 rfl rfl (Nat.le_of_ble_eq_true rfl) (Nat.le_of_ble_eq_true rfl) ⟨_, rfl, hq, rfl⟩
      · rw [if_neg c4] at hq
        refine xi_iload_n 3 dX12_price_20 rfl ?_
        refine xi_i2l dX12_price_21 rfl ?_
        refine xi_iload_n 2 dX12_price_22 rfl ?_
        refine xi_callS (as := [.int m]) (rest := [.long y.toInt64]) dX12_price_23 (FX12_isTakenOut_ok G m (fun r => r = FX12_isTakenOut m) rfl) mkX12_isTakenOut w_1329 w_1328 rfl rfl (Nat.le_of_ble_eq_true rfl) (Nat.le_of_ble_eq_true rfl) (Nat.le_of_ble_eq_true rfl) (Nat.le_of_ble_eq_true rfl) (Nat.le_of_ble_eq_true rfl) ?_
        intro v M2 hz
        obtain ⟨_, rfl, rfl, hM2⟩ := hz
        rw [hM2]
        show xW _ _ _ _ 26 _ [.int (FX12_isTakenOut m), .long y.toInt64] (P ++ (MDL L i_keptMany i_taped i_faultKind i_faultPlace i_spot i_begin i_token i_value i_bad i_full i_bandRows i_bandFirsts i_outs f_state f_was f_kept f_tape f_order f_rest f_ways f_costs f_bandBest f_found f_drawn f_joined f_out ++ R)) _ _
        refine xi_if_eq (tgt := 33) dX12_price_26 (by decide) (fun c5 => ?_) (fun c5 => ?_)
        · rw [if_pos c5] at hq
          refine xi_lconst (v := 1) dX12_price_33 (by decide) ?_
          refine xi_aload_n 0 dX12_price_34 rfl ?_
          refine xi_iload_n 1 dX12_price_35 rfl ?_
          refine xi_callV (as := [.int (nI e2)]) (rest := [.long 1, .long y.toInt64]) dX12_price_36 (FX12_points_ok G hP i_keptMany i_taped i_faultKind i_faultPlace i_spot i_begin i_token i_value i_bad i_full i_bandRows i_bandFirsts i_outs f_state f_was f_kept f_tape f_order f_rest f_ways f_costs f_bandBest f_found f_drawn f_joined f_out (by omega) (by omega) (by omega) (by omega) (by omega) (by omega) e2 (by omega) _ rfl (fun r => r = nI ((f_state (91 * e2)).toNatClampNeg)) ((hG e2 (by omega)).1.1)) mkX12_points w_1108 ws_36 w_1106 (xpg0 hP rfl) rfl rfl rfl rfl (Nat.le_of_ble_eq_true rfl) (Nat.le_of_ble_eq_true rfl) (Nat.le_of_ble_eq_true rfl) (Nat.le_of_ble_eq_true rfl) (Nat.le_of_ble_eq_true rfl) ?_
          intro v M2 hz
          obtain ⟨_, rfl, rfl, rfl⟩ := hz
          show xW _ _ _ _ 39 _ [.int (nI ((f_state (91 * e2)).toNatClampNeg)), .long 1, .long y.toInt64] (P ++ (MDL L i_keptMany i_taped i_faultKind i_faultPlace i_spot i_begin i_token i_value i_bad i_full i_bandRows i_bandFirsts i_outs f_state f_was f_kept f_tape f_order f_rest f_ways f_costs f_bandBest f_found f_drawn f_joined f_out ++ R)) _ _
          have o6 := (hG e2 (by omega)).1.2
          refine xi_iconst (v := 1) dX12_price_39 (by decide) ?_
          refine xi_isub (v := ((nI ((f_state (91 * e2)).toNatClampNeg)) - (1 : Int32))) dX12_price_40 rfl ?_
          refine xi_i2l dX12_price_41 rfl ?_
          refine xi_callS (as := [.long y.toInt64, .long 1, .long (((nI ((f_state (91 * e2)).toNatClampNeg)) - (1 : Int32)).toInt64)]) (rest := []) dX12_price_42 (FX12_in_ok G y.toInt64 ((1 : Int64)) ((((nI ((f_state (91 * e2)).toNatClampNeg)) - (1 : Int32)).toInt64)) (fun r => r = FX12_in y.toInt64 ((1 : Int64)) ((((nI ((f_state (91 * e2)).toNatClampNeg)) - (1 : Int32)).toInt64))) rfl) mkX12_in w_1100 w_1099 rfl rfl (Nat.le_of_ble_eq_true rfl) (Nat.le_of_ble_eq_true rfl) (Nat.le_of_ble_eq_true rfl) (Nat.le_of_ble_eq_true rfl) (Nat.le_of_ble_eq_true rfl) ?_
          intro v M2 hz
          obtain ⟨_, rfl, rfl, hM2⟩ := hz
          rw [hM2]
          show xW _ _ _ _ 45 _ [.int (FX12_in y.toInt64 ((1 : Int64)) ((((nI ((f_state (91 * e2)).toNatClampNeg)) - (1 : Int32)).toInt64)))] (P ++ (MDL L i_keptMany i_taped i_faultKind i_faultPlace i_spot i_begin i_token i_value i_bad i_full i_bandRows i_bandFirsts i_outs f_state f_was f_kept f_tape f_order f_rest f_ways f_costs f_bandBest f_found f_drawn f_joined f_out ++ R)) _ _
          refine xi_if_ne (tgt := 51) dX12_price_45 (by decide) (fun c7 => ?_) (fun c7 => ?_)
          · rw [if_neg c7] at hq
            obtain ⟨e8, e8b, e8h⟩ := in_lt (by omega) (by decide) c7
            have e8c : y.toNatClampNeg = e8 := by rw [e8h]; exact nI_clamp (by omega)
            try rw [e8c] at hq
            subst e8h
            have e8l := in_ge (by omega) c7
            have e8z := L64
            refine xi_aload_n 0 dX12_price_51 rfl ?_
            refine xi_iload_n 1 dX12_price_52 rfl ?_
            refine xi_iload_n 2 dX12_price_53 rfl ?_
            refine xi_iload_n 3 dX12_price_54 rfl ?_
            refine xi_callV (as := [.int (nI e2), .int m, .int (nI e8)]) (rest := []) dX12_price_55 (FX12_priceOf_ok G hP i_keptMany i_taped i_faultKind i_faultPlace i_spot i_begin i_token i_value i_bad i_full i_bandRows i_bandFirsts i_outs f_state f_was f_kept f_tape f_order f_rest f_ways f_costs f_bandBest f_found f_drawn f_joined f_out (by omega) (by omega) (by omega) (by omega) (by omega) (by omega) hG e2 (by omega) m e8 (by omega) (by intro hh_; first | exact hi hh_ | exact absurd hh_ (by assumption) | omega) _ rfl (fun r => r = FX12_priceOf f_state e2 m e8) rfl) mkX12_priceOf w_1333 ws_73 w_1331 (xpg0 hP rfl) rfl rfl rfl rfl (Nat.le_of_ble_eq_true rfl) (Nat.le_of_ble_eq_true rfl) (Nat.le_of_ble_eq_true rfl) (Nat.le_of_ble_eq_true rfl) (Nat.le_of_ble_eq_true rfl) ?_
            intro v M2 hz
            obtain ⟨_, rfl, rfl, rfl⟩ := hz
            show xW _ _ _ _ 58 _ [.int (FX12_priceOf f_state e2 m e8)] (P ++ (MDL L i_keptMany i_taped i_faultKind i_faultPlace i_spot i_begin i_token i_value i_bad i_full i_bandRows i_bandFirsts i_outs f_state f_was f_kept f_tape f_order f_rest f_ways f_costs f_bandBest f_found f_drawn f_joined f_out ++ R)) _ _
            exact xi_iret dX12_price_58 rfl rfl (Nat.le_of_ble_eq_true rfl) (Nat.le_of_ble_eq_true rfl) ⟨_, rfl, hq, rfl⟩
          · rw [if_pos c7] at hq
            refine xi_bipush (v := (-2)) dX12_price_48 (by decide) ?_
            exact xi_iret dX12_price_50 rfl rfl (Nat.le_of_ble_eq_true rfl) (Nat.le_of_ble_eq_true rfl) ⟨_, rfl, hq, rfl⟩
        · rw [if_neg c5] at hq
          refine xi_lconst (v := 0) dX12_price_29 (by decide) ?_
          refine xi_goto (tgt := 34) dX12_price_30 (by decide) ?_
          refine xi_aload_n 0 dX12_price_34 rfl ?_
          refine xi_iload_n 1 dX12_price_35 rfl ?_
          refine xi_callV (as := [.int (nI e2)]) (rest := [.long 0, .long y.toInt64]) dX12_price_36 (FX12_points_ok G hP i_keptMany i_taped i_faultKind i_faultPlace i_spot i_begin i_token i_value i_bad i_full i_bandRows i_bandFirsts i_outs f_state f_was f_kept f_tape f_order f_rest f_ways f_costs f_bandBest f_found f_drawn f_joined f_out (by omega) (by omega) (by omega) (by omega) (by omega) (by omega) e2 (by omega) _ rfl (fun r => r = nI ((f_state (91 * e2)).toNatClampNeg)) ((hG e2 (by omega)).1.1)) mkX12_points w_1108 ws_36 w_1106 (xpg0 hP rfl) rfl rfl rfl rfl (Nat.le_of_ble_eq_true rfl) (Nat.le_of_ble_eq_true rfl) (Nat.le_of_ble_eq_true rfl) (Nat.le_of_ble_eq_true rfl) (Nat.le_of_ble_eq_true rfl) ?_
          intro v M2 hz
          obtain ⟨_, rfl, rfl, rfl⟩ := hz
          show xW _ _ _ _ 39 _ [.int (nI ((f_state (91 * e2)).toNatClampNeg)), .long 0, .long y.toInt64] (P ++ (MDL L i_keptMany i_taped i_faultKind i_faultPlace i_spot i_begin i_token i_value i_bad i_full i_bandRows i_bandFirsts i_outs f_state f_was f_kept f_tape f_order f_rest f_ways f_costs f_bandBest f_found f_drawn f_joined f_out ++ R)) _ _
          have o9 := (hG e2 (by omega)).1.2
          refine xi_iconst (v := 1) dX12_price_39 (by decide) ?_
          refine xi_isub (v := ((nI ((f_state (91 * e2)).toNatClampNeg)) - (1 : Int32))) dX12_price_40 rfl ?_
          refine xi_i2l dX12_price_41 rfl ?_
          refine xi_callS (as := [.long y.toInt64, .long 0, .long (((nI ((f_state (91 * e2)).toNatClampNeg)) - (1 : Int32)).toInt64)]) (rest := []) dX12_price_42 (FX12_in_ok G y.toInt64 ((0 : Int64)) ((((nI ((f_state (91 * e2)).toNatClampNeg)) - (1 : Int32)).toInt64)) (fun r => r = FX12_in y.toInt64 ((0 : Int64)) ((((nI ((f_state (91 * e2)).toNatClampNeg)) - (1 : Int32)).toInt64))) rfl) mkX12_in w_1100 w_1099 rfl rfl (Nat.le_of_ble_eq_true rfl) (Nat.le_of_ble_eq_true rfl) (Nat.le_of_ble_eq_true rfl) (Nat.le_of_ble_eq_true rfl) (Nat.le_of_ble_eq_true rfl) ?_
          intro v M2 hz
          obtain ⟨_, rfl, rfl, hM2⟩ := hz
          rw [hM2]
          show xW _ _ _ _ 45 _ [.int (FX12_in y.toInt64 ((0 : Int64)) ((((nI ((f_state (91 * e2)).toNatClampNeg)) - (1 : Int32)).toInt64)))] (P ++ (MDL L i_keptMany i_taped i_faultKind i_faultPlace i_spot i_begin i_token i_value i_bad i_full i_bandRows i_bandFirsts i_outs f_state f_was f_kept f_tape f_order f_rest f_ways f_costs f_bandBest f_found f_drawn f_joined f_out ++ R)) _ _
          refine xi_if_ne (tgt := 51) dX12_price_45 (by decide) (fun c10 => ?_) (fun c10 => ?_)
          · rw [if_neg c10] at hq
            obtain ⟨e11, e11b, e11h⟩ := in_lt (by omega) (by decide) c10
            have e11c : y.toNatClampNeg = e11 := by rw [e11h]; exact nI_clamp (by omega)
            try rw [e11c] at hq
            subst e11h
            have e11l := in_ge (by omega) c10
            have e11z := L64
            refine xi_aload_n 0 dX12_price_51 rfl ?_
            refine xi_iload_n 1 dX12_price_52 rfl ?_
            refine xi_iload_n 2 dX12_price_53 rfl ?_
            refine xi_iload_n 3 dX12_price_54 rfl ?_
            refine xi_callV (as := [.int (nI e2), .int m, .int (nI e11)]) (rest := []) dX12_price_55 (FX12_priceOf_ok G hP i_keptMany i_taped i_faultKind i_faultPlace i_spot i_begin i_token i_value i_bad i_full i_bandRows i_bandFirsts i_outs f_state f_was f_kept f_tape f_order f_rest f_ways f_costs f_bandBest f_found f_drawn f_joined f_out (by omega) (by omega) (by omega) (by omega) (by omega) (by omega) hG e2 (by omega) m e11 (by omega) (by intro hh_; first | exact hi hh_ | exact absurd hh_ (by assumption) | omega) _ rfl (fun r => r = FX12_priceOf f_state e2 m e11) rfl) mkX12_priceOf w_1333 ws_73 w_1331 (xpg0 hP rfl) rfl rfl rfl rfl (Nat.le_of_ble_eq_true rfl) (Nat.le_of_ble_eq_true rfl) (Nat.le_of_ble_eq_true rfl) (Nat.le_of_ble_eq_true rfl) (Nat.le_of_ble_eq_true rfl) ?_
            intro v M2 hz
            obtain ⟨_, rfl, rfl, rfl⟩ := hz
            show xW _ _ _ _ 58 _ [.int (FX12_priceOf f_state e2 m e11)] (P ++ (MDL L i_keptMany i_taped i_faultKind i_faultPlace i_spot i_begin i_token i_value i_bad i_full i_bandRows i_bandFirsts i_outs f_state f_was f_kept f_tape f_order f_rest f_ways f_costs f_bandBest f_found f_drawn f_joined f_out ++ R)) _ _
            exact xi_iret dX12_price_58 rfl rfl (Nat.le_of_ble_eq_true rfl) (Nat.le_of_ble_eq_true rfl) ⟨_, rfl, hq, rfl⟩
          · rw [if_pos c10] at hq
            refine xi_bipush (v := (-2)) dX12_price_48 (by decide) ?_
            exact xi_iret dX12_price_50 rfl rfl (Nat.le_of_ble_eq_true rfl) (Nat.le_of_ble_eq_true rfl) ⟨_, rfl, hq, rfl⟩
def LX12_worst_57 (f_state : Nat → Int32) (n1 : Nat) (w2 : Int32) (K : Nat → Int32) : Nat → Nat → Nat → Int32
  | 0, _, v3 => K v3
  | k + 1, j, v3 => (if (FX12_priceOf f_state n1 w2 j) ≤ (FX12_priceOf f_state n1 w2 v3) then (LX12_worst_57 f_state n1 w2 K k (j + 1) v3) else (LX12_worst_57 f_state n1 w2 K k (j + 1) j))
set_option maxHeartbeats 4000000 in
set_option maxRecDepth 100000 in
theorem LX12_worst_57_s (G : xG) {P R : xMem} {L : Nat} (hP : P.length = L) (i_keptMany : Nat) (i_taped : Nat) (i_faultKind : Int32) (i_faultPlace : Int32) (i_spot : Nat) (i_begin : Nat) (i_token : Int32) (i_value : Int32) (i_bad : Int32) (i_full : Nat) (i_bandRows : Int32) (i_bandFirsts : Int32) (i_outs : Nat) (f_state : Nat → Int32) (f_was : Nat → Int32) (f_kept : Nat → Int32) (f_tape : Nat → Int32) (f_order : Nat → Int32) (f_rest : Nat → Int32) (f_ways : Nat → Int32) (f_costs : Nat → Int32) (f_bandBest : Nat → Int32) (f_found : Nat → Int32) (f_drawn : Nat → Int32) (f_joined : Nat → Int32) (f_out : Nat → Int32) (bi_keptMany : i_keptMany ≤ 10) (bi_taped : i_taped ≤ 400) (bi_spot : i_spot ≤ 400) (bi_begin : i_begin ≤ 400) (bi_full : i_full ≤ 511) (bi_outs : i_outs ≤ 400) (hG : GO f_state) (n1 : Nat) (bn1 : n1 < 3) (w2 : Int32) (Q : Int32 → Prop) (K : Nat → Int32) (HE : ∀ (v3 : Nat) (hb3 : v3 < (f_state (91 * n1)).toNatClampNeg) (hi : FX12_isTakenOut w2 = 0 → 1 ≤ v3), Q (K v3) → xW G mX12_worst (xrm 6 0 0) (xQ G (fun v M2 => ∃ o : Int32, v = some (.int o) ∧ Q o ∧ M2 = (P ++ (MDL L i_keptMany i_taped i_faultKind i_faultPlace i_spot i_begin i_token i_value i_bad i_full i_bandRows i_bandFirsts i_outs f_state f_was f_kept f_tape f_order f_rest f_ways f_costs f_bandBest f_found f_drawn f_joined f_out ++ R))) 0 0) 98 [(3, .int (nI v3))] [] (P ++ (MDL L i_keptMany i_taped i_faultKind i_faultPlace i_spot i_begin i_token i_value i_bad i_full i_bandRows i_bandFirsts i_outs f_state f_was f_kept f_tape f_order f_rest f_ways f_costs f_bandBest f_found f_drawn f_joined f_out ++ R)) 0 0) :
    ∀ (k j : Nat) (v3 : Nat) (hb3 : v3 < (f_state (91 * n1)).toNatClampNeg) (hi : FX12_isTakenOut w2 = 0 → 1 ≤ v3), (f_state (91 * n1)).toNatClampNeg - j = k → (1 ≤ j ∧ j < 100000) → Q (LX12_worst_57 f_state n1 w2 K k j v3) → xW G mX12_worst (xrm 6 0 0) (xQ G (fun v M2 => ∃ o : Int32, v = some (.int o) ∧ Q o ∧ M2 = (P ++ (MDL L i_keptMany i_taped i_faultKind i_faultPlace i_spot i_begin i_token i_value i_bad i_full i_bandRows i_bandFirsts i_outs f_state f_was f_kept f_tape f_order f_rest f_ways f_costs f_bandBest f_found f_drawn f_joined f_out ++ R))) 0 0) 57 [(0, .ref L), (1, .int (nI n1)), (2, .int w2), (3, .int (nI v3)), (4, .int (nI j))] [] (P ++ (MDL L i_keptMany i_taped i_faultKind i_faultPlace i_spot i_begin i_token i_value i_bad i_full i_bandRows i_bandFirsts i_outs f_state f_was f_kept f_tape f_order f_rest f_ways f_costs f_bandBest f_found f_drawn f_joined f_out ++ R)) 0 0 := by
  intro k
  induction k with
  | zero =>
    intro j v3 hb3 hi hj hj2 hq
    rw [LX12_worst_57] at hq
    refine xi_iload 4 dX12_worst_57 rfl ?_
    refine xi_aload_n 0 dX12_worst_59 rfl ?_
    refine xi_iload_n 1 dX12_worst_60 rfl ?_
    refine xi_callV (as := [.int (nI n1)]) (rest := [.int (nI j)]) dX12_worst_61 (FX12_points_ok G hP i_keptMany i_taped i_faultKind i_faultPlace i_spot i_begin i_token i_value i_bad i_full i_bandRows i_bandFirsts i_outs f_state f_was f_kept f_tape f_order f_rest f_ways f_costs f_bandBest f_found f_drawn f_joined f_out (by omega) (by omega) (by omega) (by omega) (by omega) (by omega) n1 (by omega) _ rfl (fun r => r = nI ((f_state (91 * n1)).toNatClampNeg)) ((hG n1 (by omega)).1.1)) mkX12_points w_1108 ws_36 w_1106 (xpg0 hP rfl) rfl rfl rfl rfl (Nat.le_of_ble_eq_true rfl) (Nat.le_of_ble_eq_true rfl) (Nat.le_of_ble_eq_true rfl) (Nat.le_of_ble_eq_true rfl) (Nat.le_of_ble_eq_true rfl) ?_
    intro v M2 hz
    obtain ⟨_, rfl, rfl, rfl⟩ := hz
    show xW _ _ _ _ 64 _ [.int (nI ((f_state (91 * n1)).toNatClampNeg)), .int (nI j)] (P ++ (MDL L i_keptMany i_taped i_faultKind i_faultPlace i_spot i_begin i_token i_value i_bad i_full i_bandRows i_bandFirsts i_outs f_state f_was f_kept f_tape f_order f_rest f_ways f_costs f_bandBest f_found f_drawn f_joined f_out ++ R)) _ _
    have o10 := (hG n1 (by omega)).1.2
    refine xi_icmp_ge_t (tgt := 98) dX12_worst_64 (by decide) (nI_le (a := (f_state (91 * n1)).toNatClampNeg) (b := j) (by omega) (by omega)) ?_
    refine xi_sub (lv' := [(3, .int (nI v3))]) [3] rfl ?_
    exact HE v3 (by omega) (by first | exact hi | (intro hh_; omega)) hq
  | succ k ih =>
    intro j v3 hb3 hi hj hj2 hq
    rw [LX12_worst_57] at hq
    refine xi_iload 4 dX12_worst_57 rfl ?_
    refine xi_aload_n 0 dX12_worst_59 rfl ?_
    refine xi_iload_n 1 dX12_worst_60 rfl ?_
    refine xi_callV (as := [.int (nI n1)]) (rest := [.int (nI j)]) dX12_worst_61 (FX12_points_ok G hP i_keptMany i_taped i_faultKind i_faultPlace i_spot i_begin i_token i_value i_bad i_full i_bandRows i_bandFirsts i_outs f_state f_was f_kept f_tape f_order f_rest f_ways f_costs f_bandBest f_found f_drawn f_joined f_out (by omega) (by omega) (by omega) (by omega) (by omega) (by omega) n1 (by omega) _ rfl (fun r => r = nI ((f_state (91 * n1)).toNatClampNeg)) ((hG n1 (by omega)).1.1)) mkX12_points w_1108 ws_36 w_1106 (xpg0 hP rfl) rfl rfl rfl rfl (Nat.le_of_ble_eq_true rfl) (Nat.le_of_ble_eq_true rfl) (Nat.le_of_ble_eq_true rfl) (Nat.le_of_ble_eq_true rfl) (Nat.le_of_ble_eq_true rfl) ?_
    intro v M2 hz
    obtain ⟨_, rfl, rfl, rfl⟩ := hz
    show xW _ _ _ _ 64 _ [.int (nI ((f_state (91 * n1)).toNatClampNeg)), .int (nI j)] (P ++ (MDL L i_keptMany i_taped i_faultKind i_faultPlace i_spot i_begin i_token i_value i_bad i_full i_bandRows i_bandFirsts i_outs f_state f_was f_kept f_tape f_order f_rest f_ways f_costs f_bandBest f_found f_drawn f_joined f_out ++ R)) _ _
    have o8 := (hG n1 (by omega)).1.2
    refine xi_icmp_ge_f (tgt := 98) dX12_worst_64 (by decide) (nI_ge (a := j) (b := (f_state (91 * n1)).toNatClampNeg) (by omega) (by omega)) ?_
    refine xi_aload_n 0 dX12_worst_67 rfl ?_
    refine xi_iload_n 1 dX12_worst_68 rfl ?_
    refine xi_iload_n 2 dX12_worst_69 rfl ?_
    refine xi_iload 4 dX12_worst_70 rfl ?_
    refine xi_callV (as := [.int (nI n1), .int w2, .int (nI j)]) (rest := []) dX12_worst_72 (FX12_priceOf_ok G hP i_keptMany i_taped i_faultKind i_faultPlace i_spot i_begin i_token i_value i_bad i_full i_bandRows i_bandFirsts i_outs f_state f_was f_kept f_tape f_order f_rest f_ways f_costs f_bandBest f_found f_drawn f_joined f_out (by omega) (by omega) (by omega) (by omega) (by omega) (by omega) hG n1 (by omega) w2 j (by omega) (by intro hh_; first | exact hi hh_ | exact absurd hh_ (by assumption) | omega) _ rfl (fun r => r = FX12_priceOf f_state n1 w2 j) rfl) mkX12_priceOf w_1333 ws_73 w_1331 (xpg0 hP rfl) rfl rfl rfl rfl (Nat.le_of_ble_eq_true rfl) (Nat.le_of_ble_eq_true rfl) (Nat.le_of_ble_eq_true rfl) (Nat.le_of_ble_eq_true rfl) (Nat.le_of_ble_eq_true rfl) ?_
    intro v M2 hz
    obtain ⟨_, rfl, rfl, rfl⟩ := hz
    show xW _ _ _ _ 75 _ [.int (FX12_priceOf f_state n1 w2 j)] (P ++ (MDL L i_keptMany i_taped i_faultKind i_faultPlace i_spot i_begin i_token i_value i_bad i_full i_bandRows i_bandFirsts i_outs f_state f_was f_kept f_tape f_order f_rest f_ways f_costs f_bandBest f_found f_drawn f_joined f_out ++ R)) _ _
    refine xi_aload_n 0 dX12_worst_75 rfl ?_
    refine xi_iload_n 1 dX12_worst_76 rfl ?_
    refine xi_iload_n 2 dX12_worst_77 rfl ?_
    refine xi_iload_n 3 dX12_worst_78 rfl ?_
    refine xi_callV (as := [.int (nI n1), .int w2, .int (nI v3)]) (rest := [.int (FX12_priceOf f_state n1 w2 j)]) dX12_worst_79 (FX12_priceOf_ok G hP i_keptMany i_taped i_faultKind i_faultPlace i_spot i_begin i_token i_value i_bad i_full i_bandRows i_bandFirsts i_outs f_state f_was f_kept f_tape f_order f_rest f_ways f_costs f_bandBest f_found f_drawn f_joined f_out (by omega) (by omega) (by omega) (by omega) (by omega) (by omega) hG n1 (by omega) w2 v3 (by omega) (by intro hh_; first | exact hi hh_ | exact absurd hh_ (by assumption) | omega) _ rfl (fun r => r = FX12_priceOf f_state n1 w2 v3) rfl) mkX12_priceOf w_1333 ws_73 w_1331 (xpg0 hP rfl) rfl rfl rfl rfl (Nat.le_of_ble_eq_true rfl) (Nat.le_of_ble_eq_true rfl) (Nat.le_of_ble_eq_true rfl) (Nat.le_of_ble_eq_true rfl) (Nat.le_of_ble_eq_true rfl) ?_
    intro v M2 hz
    obtain ⟨_, rfl, rfl, rfl⟩ := hz
    show xW _ _ _ _ 82 _ [.int (FX12_priceOf f_state n1 w2 v3), .int (FX12_priceOf f_state n1 w2 j)] (P ++ (MDL L i_keptMany i_taped i_faultKind i_faultPlace i_spot i_begin i_token i_value i_bad i_full i_bandRows i_bandFirsts i_outs f_state f_was f_kept f_tape f_order f_rest f_ways f_costs f_bandBest f_found f_drawn f_joined f_out ++ R)) _ _
    refine xi_icmp_le (tgt := 90) dX12_worst_82 (by decide) (fun c9 => ?_) (fun c9 => ?_)
    · rw [if_pos c9] at hq
      refine xi_iload_n 3 dX12_worst_90 rfl ?_
      refine xi_istore_n (lv' := [(3, .int (nI v3)), (0, .ref L), (1, .int (nI n1)), (2, .int w2), (4, .int (nI j))]) dX12_worst_91 (by decide) rfl ?_
      refine xi_iinc (v := (nI (j + 1))) (lv' := [(4, .int (nI (j + 1))), (3, .int (nI v3)), (0, .ref L), (1, .int (nI n1)), (2, .int w2)]) 4 dX12_worst_92 rfl (nI_1 _) (by decide) rfl ?_
      refine xi_goto (tgt := 57) dX12_worst_95 (by decide) ?_
      refine xi_sub (lv' := [(0, .ref L), (1, .int (nI n1)), (2, .int w2), (3, .int (nI v3)), (4, .int (nI (j + 1)))]) [2, 3, 4, 1, 0] rfl ?_
      exact ih (j + 1) v3 (by omega) (by first | exact hi | (intro hh_; omega)) (by omega) (by omega) hq
    · rw [if_neg c9] at hq
      refine xi_iload 4 dX12_worst_85 rfl ?_
      refine xi_goto (tgt := 91) dX12_worst_87 (by decide) ?_
      refine xi_istore_n (lv' := [(3, .int (nI j)), (0, .ref L), (1, .int (nI n1)), (2, .int w2), (4, .int (nI j))]) dX12_worst_91 (by decide) rfl ?_
      refine xi_iinc (v := (nI (j + 1))) (lv' := [(4, .int (nI (j + 1))), (3, .int (nI j)), (0, .ref L), (1, .int (nI n1)), (2, .int w2)]) 4 dX12_worst_92 rfl (nI_1 _) (by decide) rfl ?_
      refine xi_goto (tgt := 57) dX12_worst_95 (by decide) ?_
      refine xi_sub (lv' := [(0, .ref L), (1, .int (nI n1)), (2, .int w2), (3, .int (nI j)), (4, .int (nI (j + 1)))]) [2, 3, 4, 1, 0] rfl ?_
      exact ih (j + 1) j (by omega) (by first | exact hi | (intro hh_; omega)) (by omega) (by omega) hq
def FX12_worst (f_state : Nat → Int32) (x : Int32) (m : Int32) : Int32 := (if (FX12_isNet f_state x) = (0 : Int32) then (-2 : Int32) else (if (FX12_isMeasure m) = (0 : Int32) then (-2 : Int32) else (if m = (2 : Int32) then (-2 : Int32) else (if (nI ((f_state (91 * x.toNatClampNeg)).toNatClampNeg)) = (1 : Int32) then (if (FX12_isTakenOut m) = (0 : Int32) then (-2 : Int32) else (if (FX12_isTakenOut m) = (0 : Int32) then (LX12_worst_57 f_state x.toNatClampNeg m (fun u19 => (nI u19)) ((f_state (91 * x.toNatClampNeg)).toNatClampNeg - 2) 2 1) else (LX12_worst_57 f_state x.toNatClampNeg m (fun u22 => (nI u22)) ((f_state (91 * x.toNatClampNeg)).toNatClampNeg - 1) 1 0))) else (if (FX12_isTakenOut m) = (0 : Int32) then (LX12_worst_57 f_state x.toNatClampNeg m (fun u11 => (nI u11)) ((f_state (91 * x.toNatClampNeg)).toNatClampNeg - 2) 2 1) else (LX12_worst_57 f_state x.toNatClampNeg m (fun u14 => (nI u14)) ((f_state (91 * x.toNatClampNeg)).toNatClampNeg - 1) 1 0))))))
set_option maxHeartbeats 4000000 in
set_option maxRecDepth 100000 in
theorem FX12_worst_ok (G : xG) {P R : xMem} {L : Nat} (hP : P.length = L) (i_keptMany : Nat) (i_taped : Nat) (i_faultKind : Int32) (i_faultPlace : Int32) (i_spot : Nat) (i_begin : Nat) (i_token : Int32) (i_value : Int32) (i_bad : Int32) (i_full : Nat) (i_bandRows : Int32) (i_bandFirsts : Int32) (i_outs : Nat) (f_state : Nat → Int32) (f_was : Nat → Int32) (f_kept : Nat → Int32) (f_tape : Nat → Int32) (f_order : Nat → Int32) (f_rest : Nat → Int32) (f_ways : Nat → Int32) (f_costs : Nat → Int32) (f_bandBest : Nat → Int32) (f_found : Nat → Int32) (f_drawn : Nat → Int32) (f_joined : Nat → Int32) (f_out : Nat → Int32) (bi_keptMany : i_keptMany ≤ 10) (bi_taped : i_taped ≤ 400) (bi_spot : i_spot ≤ 400) (bi_begin : i_begin ≤ 400) (bi_full : i_full ≤ 511) (bi_outs : i_outs ≤ 400) (hG : GO f_state) (x : Int32) (m : Int32) (M : xMem) (hM : M = (P ++ (MDL L i_keptMany i_taped i_faultKind i_faultPlace i_spot i_begin i_token i_value i_bad i_full i_bandRows i_bandFirsts i_outs f_state f_was f_kept f_tape f_order f_rest f_ways f_costs f_bandBest f_found f_drawn f_joined f_out ++ R))) (Q : Int32 → Prop) (hq : Q (FX12_worst f_state x m)) : xC G mX12_worst 6 0 0 [.ref L, .int x, .int m] M (fun v M2 => ∃ o : Int32, v = some (.int o) ∧ Q o ∧ M2 = (P ++ (MDL L i_keptMany i_taped i_faultKind i_faultPlace i_spot i_begin i_token i_value i_bad i_full i_bandRows i_bandFirsts i_outs f_state f_was f_kept f_tape f_order f_rest f_ways f_costs f_bandBest f_found f_drawn f_joined f_out ++ R))) := by
  subst hM
  unfold FX12_worst at hq
  refine xC.of (by decide) (Nat.le_of_ble_eq_true rfl) ?_
  show xW _ _ _ _ 0 [(0, .ref L), (1, .int x), (2, .int m)] [] _ 0 0
  refine xi_aload_n 0 dX12_worst_0 rfl ?_
  refine xi_iload_n 1 dX12_worst_1 rfl ?_
  refine xi_callV (as := [.int x]) (rest := []) dX12_worst_2 (FX12_isNet_ok G hP i_keptMany i_taped i_faultKind i_faultPlace i_spot i_begin i_token i_value i_bad i_full i_bandRows i_bandFirsts i_outs f_state f_was f_kept f_tape f_order f_rest f_ways f_costs f_bandBest f_found f_drawn f_joined f_out (by omega) (by omega) (by omega) (by omega) (by omega) (by omega) hG x _ rfl (fun r => r = FX12_isNet f_state x) rfl) mkX12_isNet w_1104 ws_35 w_1102 (xpg0 hP rfl) rfl rfl rfl rfl (Nat.le_of_ble_eq_true rfl) (Nat.le_of_ble_eq_true rfl) (Nat.le_of_ble_eq_true rfl) (Nat.le_of_ble_eq_true rfl) (Nat.le_of_ble_eq_true rfl) ?_
  intro v M2 hz
  obtain ⟨_, rfl, rfl, rfl⟩ := hz
  show xW _ _ _ _ 5 _ [.int (FX12_isNet f_state x)] (P ++ (MDL L i_keptMany i_taped i_faultKind i_faultPlace i_spot i_begin i_token i_value i_bad i_full i_bandRows i_bandFirsts i_outs f_state f_was f_kept f_tape f_order f_rest f_ways f_costs f_bandBest f_found f_drawn f_joined f_out ++ R)) _ _
  refine xi_if_eq (tgt := 36) dX12_worst_5 (by decide) (fun c1 => ?_) (fun c1 => ?_)
  · rw [if_pos c1] at hq
    refine xi_bipush (v := (-2)) dX12_worst_36 (by decide) ?_
    exact xi_iret dX12_worst_38 rfl rfl (Nat.le_of_ble_eq_true rfl) (Nat.le_of_ble_eq_true rfl) ⟨_, rfl, hq, rfl⟩
  · rw [if_neg c1] at hq
    obtain ⟨e2, e2b, e2h⟩ := net_in c1
    have e2c : x.toNatClampNeg = e2 := by rw [e2h]; exact nI_clamp (by omega)
    try rw [e2c] at hq
    subst e2h
    have e2g := (hG e2 e2b).1.2
    have e2p := net_pos e2b hG c1
    refine xi_iload_n 2 dX12_worst_8 rfl ?_
    refine xi_callS (as := [.int m]) (rest := []) dX12_worst_9 (FX12_isMeasure_ok G m (fun r => r = FX12_isMeasure m) rfl) mkX12_isMeasure w_1288 w_1287 rfl rfl (Nat.le_of_ble_eq_true rfl) (Nat.le_of_ble_eq_true rfl) (Nat.le_of_ble_eq_true rfl) (Nat.le_of_ble_eq_true rfl) (Nat.le_of_ble_eq_true rfl) ?_
    intro v M2 hz
    obtain ⟨_, rfl, rfl, hM2⟩ := hz
    rw [hM2]
    show xW _ _ _ _ 12 _ [.int (FX12_isMeasure m)] (P ++ (MDL L i_keptMany i_taped i_faultKind i_faultPlace i_spot i_begin i_token i_value i_bad i_full i_bandRows i_bandFirsts i_outs f_state f_was f_kept f_tape f_order f_rest f_ways f_costs f_bandBest f_found f_drawn f_joined f_out ++ R)) _ _
    refine xi_if_eq (tgt := 36) dX12_worst_12 (by decide) (fun c3 => ?_) (fun c3 => ?_)
    · rw [if_pos c3] at hq
      refine xi_bipush (v := (-2)) dX12_worst_36 (by decide) ?_
      exact xi_iret dX12_worst_38 rfl rfl (Nat.le_of_ble_eq_true rfl) (Nat.le_of_ble_eq_true rfl) ⟨_, rfl, hq, rfl⟩
    · rw [if_neg c3] at hq
      refine xi_iload_n 2 dX12_worst_15 rfl ?_
      refine xi_iconst (v := 2) dX12_worst_16 (by decide) ?_
      refine xi_icmp_eq (tgt := 36) dX12_worst_17 (by decide) (fun c4 => ?_) (fun c4 => ?_)
      · rw [if_pos c4] at hq
        refine xi_bipush (v := (-2)) dX12_worst_36 (by decide) ?_
        exact xi_iret dX12_worst_38 rfl rfl (Nat.le_of_ble_eq_true rfl) (Nat.le_of_ble_eq_true rfl) ⟨_, rfl, hq, rfl⟩
      · rw [if_neg c4] at hq
        refine xi_aload_n 0 dX12_worst_20 rfl ?_
        refine xi_iload_n 1 dX12_worst_21 rfl ?_
        refine xi_callV (as := [.int (nI e2)]) (rest := []) dX12_worst_22 (FX12_points_ok G hP i_keptMany i_taped i_faultKind i_faultPlace i_spot i_begin i_token i_value i_bad i_full i_bandRows i_bandFirsts i_outs f_state f_was f_kept f_tape f_order f_rest f_ways f_costs f_bandBest f_found f_drawn f_joined f_out (by omega) (by omega) (by omega) (by omega) (by omega) (by omega) e2 (by omega) _ rfl (fun r => r = nI ((f_state (91 * e2)).toNatClampNeg)) ((hG e2 (by omega)).1.1)) mkX12_points w_1108 ws_36 w_1106 (xpg0 hP rfl) rfl rfl rfl rfl (Nat.le_of_ble_eq_true rfl) (Nat.le_of_ble_eq_true rfl) (Nat.le_of_ble_eq_true rfl) (Nat.le_of_ble_eq_true rfl) (Nat.le_of_ble_eq_true rfl) ?_
        intro v M2 hz
        obtain ⟨_, rfl, rfl, rfl⟩ := hz
        show xW _ _ _ _ 25 _ [.int (nI ((f_state (91 * e2)).toNatClampNeg))] (P ++ (MDL L i_keptMany i_taped i_faultKind i_faultPlace i_spot i_begin i_token i_value i_bad i_full i_bandRows i_bandFirsts i_outs f_state f_was f_kept f_tape f_order f_rest f_ways f_costs f_bandBest f_found f_drawn f_joined f_out ++ R)) _ _
        have o5 := (hG e2 (by omega)).1.2
        refine xi_iconst (v := 1) dX12_worst_25 (by decide) ?_
        refine xi_icmp_ne (tgt := 39) dX12_worst_26 (by decide) (fun c6 => ?_) (fun c6 => ?_)
        · rw [if_neg c6] at hq
          have c6n : ¬ ((f_state (91 * e2)).toNatClampNeg) = 1 := fun e => c6 (congrArg nI e)
          refine xi_iload_n 2 dX12_worst_39 rfl ?_
          refine xi_callS (as := [.int m]) (rest := []) dX12_worst_40 (FX12_isTakenOut_ok G m (fun r => r = FX12_isTakenOut m) rfl) mkX12_isTakenOut w_1329 w_1328 rfl rfl (Nat.le_of_ble_eq_true rfl) (Nat.le_of_ble_eq_true rfl) (Nat.le_of_ble_eq_true rfl) (Nat.le_of_ble_eq_true rfl) (Nat.le_of_ble_eq_true rfl) ?_
          intro v M2 hz
          obtain ⟨_, rfl, rfl, hM2⟩ := hz
          rw [hM2]
          show xW _ _ _ _ 43 _ [.int (FX12_isTakenOut m)] (P ++ (MDL L i_keptMany i_taped i_faultKind i_faultPlace i_spot i_begin i_token i_value i_bad i_full i_bandRows i_bandFirsts i_outs f_state f_was f_kept f_tape f_order f_rest f_ways f_costs f_bandBest f_found f_drawn f_joined f_out ++ R)) _ _
          refine xi_if_eq (tgt := 50) dX12_worst_43 (by decide) (fun c7 => ?_) (fun c7 => ?_)
          · rw [if_pos c7] at hq
            refine xi_iconst (v := 1) dX12_worst_50 (by decide) ?_
            refine xi_istore_n (lv' := [(3, .int 1), (0, .ref L), (1, .int (nI e2)), (2, .int m)]) dX12_worst_51 (by decide) rfl ?_
            refine xi_iload_n 0 dX12_worst_52 rfl ?_
            refine xi_iconst (v := 1) dX12_worst_53 (by decide) ?_
            refine xi_iadd (v := (2 : Int32)) dX12_worst_54 (by decide) ?_
            refine xi_istore (lv' := [(4, .int 2), (3, .int 1), (0, .ref L), (1, .int (nI e2)), (2, .int m)]) dX12_worst_55 (by decide) rfl ?_
            refine xi_sub (lv' := [(0, .ref L), (1, .int (nI e2)), (2, .int m), (3, .int 1), (4, .int 2)]) [2, 3, 4, 1, 0] rfl ?_
            refine LX12_worst_57_s G hP i_keptMany i_taped i_faultKind i_faultPlace i_spot i_begin i_token i_value i_bad i_full i_bandRows i_bandFirsts i_outs f_state f_was f_kept f_tape f_order f_rest f_ways f_costs f_bandBest f_found f_drawn f_joined f_out (by omega) (by omega) (by omega) (by omega) (by omega) (by omega) hG e2 (by omega) m Q _ (fun u11 hb12 hi57 hq => ?_) ((f_state (91 * e2)).toNatClampNeg - 2) 2 1 (by first | omega | exact absurd (by assumption) (by assumption)) (by intro hh_; first | exact absurd hh_ (by assumption) | omega) rfl (by omega) hq
            refine xi_iload_n 0 dX12_worst_98 rfl ?_
            exact xi_iret dX12_worst_99 rfl rfl (Nat.le_of_ble_eq_true rfl) (Nat.le_of_ble_eq_true rfl) ⟨_, rfl, hq, rfl⟩
          · rw [if_neg c7] at hq
            refine xi_iconst (v := 0) dX12_worst_46 (by decide) ?_
            refine xi_goto (tgt := 51) dX12_worst_47 (by decide) ?_
            refine xi_istore_n (lv' := [(3, .int 0), (0, .ref L), (1, .int (nI e2)), (2, .int m)]) dX12_worst_51 (by decide) rfl ?_
            refine xi_iload_n 0 dX12_worst_52 rfl ?_
            refine xi_iconst (v := 1) dX12_worst_53 (by decide) ?_
            refine xi_iadd (v := (1 : Int32)) dX12_worst_54 (by decide) ?_
            refine xi_istore (lv' := [(4, .int 1), (3, .int 0), (0, .ref L), (1, .int (nI e2)), (2, .int m)]) dX12_worst_55 (by decide) rfl ?_
            refine xi_sub (lv' := [(0, .ref L), (1, .int (nI e2)), (2, .int m), (3, .int 0), (4, .int 1)]) [2, 3, 4, 1, 0] rfl ?_
            refine LX12_worst_57_s G hP i_keptMany i_taped i_faultKind i_faultPlace i_spot i_begin i_token i_value i_bad i_full i_bandRows i_bandFirsts i_outs f_state f_was f_kept f_tape f_order f_rest f_ways f_costs f_bandBest f_found f_drawn f_joined f_out (by omega) (by omega) (by omega) (by omega) (by omega) (by omega) hG e2 (by omega) m Q _ (fun u14 hb15 hi57 hq => ?_) ((f_state (91 * e2)).toNatClampNeg - 1) 1 0 (by first | omega | exact absurd (by assumption) (by assumption)) (by intro hh_; first | exact absurd hh_ (by assumption) | omega) rfl (by omega) hq
            refine xi_iload_n 0 dX12_worst_98 rfl ?_
            exact xi_iret dX12_worst_99 rfl rfl (Nat.le_of_ble_eq_true rfl) (Nat.le_of_ble_eq_true rfl) ⟨_, rfl, hq, rfl⟩
        · rw [if_pos c6] at hq
          have c6n : ((f_state (91 * e2)).toNatClampNeg) = 1 := (nI_eq (a := ((f_state (91 * e2)).toNatClampNeg)) (b := 1) (by omega) (by omega)).mp c6
          refine xi_iload_n 2 dX12_worst_29 rfl ?_
          refine xi_callS (as := [.int m]) (rest := []) dX12_worst_30 (FX12_isTakenOut_ok G m (fun r => r = FX12_isTakenOut m) rfl) mkX12_isTakenOut w_1329 w_1328 rfl rfl (Nat.le_of_ble_eq_true rfl) (Nat.le_of_ble_eq_true rfl) (Nat.le_of_ble_eq_true rfl) (Nat.le_of_ble_eq_true rfl) (Nat.le_of_ble_eq_true rfl) ?_
          intro v M2 hz
          obtain ⟨_, rfl, rfl, hM2⟩ := hz
          rw [hM2]
          show xW _ _ _ _ 33 _ [.int (FX12_isTakenOut m)] (P ++ (MDL L i_keptMany i_taped i_faultKind i_faultPlace i_spot i_begin i_token i_value i_bad i_full i_bandRows i_bandFirsts i_outs f_state f_was f_kept f_tape f_order f_rest f_ways f_costs f_bandBest f_found f_drawn f_joined f_out ++ R)) _ _
          refine xi_if_ne (tgt := 39) dX12_worst_33 (by decide) (fun c17 => ?_) (fun c17 => ?_)
          · rw [if_neg c17] at hq
            refine xi_iload_n 2 dX12_worst_39 rfl ?_
            refine xi_callS (as := [.int m]) (rest := []) dX12_worst_40 (FX12_isTakenOut_ok G m (fun r => r = FX12_isTakenOut m) rfl) mkX12_isTakenOut w_1329 w_1328 rfl rfl (Nat.le_of_ble_eq_true rfl) (Nat.le_of_ble_eq_true rfl) (Nat.le_of_ble_eq_true rfl) (Nat.le_of_ble_eq_true rfl) (Nat.le_of_ble_eq_true rfl) ?_
            intro v M2 hz
            obtain ⟨_, rfl, rfl, hM2⟩ := hz
            rw [hM2]
            show xW _ _ _ _ 43 _ [.int (FX12_isTakenOut m)] (P ++ (MDL L i_keptMany i_taped i_faultKind i_faultPlace i_spot i_begin i_token i_value i_bad i_full i_bandRows i_bandFirsts i_outs f_state f_was f_kept f_tape f_order f_rest f_ways f_costs f_bandBest f_found f_drawn f_joined f_out ++ R)) _ _
            refine xi_if_eq (tgt := 50) dX12_worst_43 (by decide) (fun c18 => ?_) (fun c18 => ?_)
            · rw [if_pos c18] at hq
              refine xi_iconst (v := 1) dX12_worst_50 (by decide) ?_
              refine xi_istore_n (lv' := [(3, .int 1), (0, .ref L), (1, .int (nI e2)), (2, .int m)]) dX12_worst_51 (by decide) rfl ?_
              refine xi_iload_n 0 dX12_worst_52 rfl ?_
              refine xi_iconst (v := 1) dX12_worst_53 (by decide) ?_
              refine xi_iadd (v := (2 : Int32)) dX12_worst_54 (by decide) ?_
              refine xi_istore (lv' := [(4, .int 2), (3, .int 1), (0, .ref L), (1, .int (nI e2)), (2, .int m)]) dX12_worst_55 (by decide) rfl ?_
              refine xi_sub (lv' := [(0, .ref L), (1, .int (nI e2)), (2, .int m), (3, .int 1), (4, .int 2)]) [2, 3, 4, 1, 0] rfl ?_
              refine LX12_worst_57_s G hP i_keptMany i_taped i_faultKind i_faultPlace i_spot i_begin i_token i_value i_bad i_full i_bandRows i_bandFirsts i_outs f_state f_was f_kept f_tape f_order f_rest f_ways f_costs f_bandBest f_found f_drawn f_joined f_out (by omega) (by omega) (by omega) (by omega) (by omega) (by omega) hG e2 (by omega) m Q _ (fun u19 hb20 hi57 hq => ?_) ((f_state (91 * e2)).toNatClampNeg - 2) 2 1 (by first | omega | exact absurd (by assumption) (by assumption)) (by intro hh_; first | exact absurd hh_ (by assumption) | omega) rfl (by omega) hq
              refine xi_iload_n 0 dX12_worst_98 rfl ?_
              exact xi_iret dX12_worst_99 rfl rfl (Nat.le_of_ble_eq_true rfl) (Nat.le_of_ble_eq_true rfl) ⟨_, rfl, hq, rfl⟩
            · rw [if_neg c18] at hq
              refine xi_iconst (v := 0) dX12_worst_46 (by decide) ?_
              refine xi_goto (tgt := 51) dX12_worst_47 (by decide) ?_
              refine xi_istore_n (lv' := [(3, .int 0), (0, .ref L), (1, .int (nI e2)), (2, .int m)]) dX12_worst_51 (by decide) rfl ?_
              refine xi_iload_n 0 dX12_worst_52 rfl ?_
              refine xi_iconst (v := 1) dX12_worst_53 (by decide) ?_
              refine xi_iadd (v := (1 : Int32)) dX12_worst_54 (by decide) ?_
              refine xi_istore (lv' := [(4, .int 1), (3, .int 0), (0, .ref L), (1, .int (nI e2)), (2, .int m)]) dX12_worst_55 (by decide) rfl ?_
              refine xi_sub (lv' := [(0, .ref L), (1, .int (nI e2)), (2, .int m), (3, .int 0), (4, .int 1)]) [2, 3, 4, 1, 0] rfl ?_
              refine LX12_worst_57_s G hP i_keptMany i_taped i_faultKind i_faultPlace i_spot i_begin i_token i_value i_bad i_full i_bandRows i_bandFirsts i_outs f_state f_was f_kept f_tape f_order f_rest f_ways f_costs f_bandBest f_found f_drawn f_joined f_out (by omega) (by omega) (by omega) (by omega) (by omega) (by omega) hG e2 (by omega) m Q _ (fun u22 hb23 hi57 hq => ?_) ((f_state (91 * e2)).toNatClampNeg - 1) 1 0 (by first | omega | exact absurd (by assumption) (by assumption)) (by intro hh_; first | exact absurd hh_ (by assumption) | omega) rfl (by omega) hq
              refine xi_iload_n 0 dX12_worst_98 rfl ?_
              exact xi_iret dX12_worst_99 rfl rfl (Nat.le_of_ble_eq_true rfl) (Nat.le_of_ble_eq_true rfl) ⟨_, rfl, hq, rfl⟩
          · rw [if_pos c17] at hq
            refine xi_bipush (v := (-2)) dX12_worst_36 (by decide) ?_
            exact xi_iret dX12_worst_38 rfl rfl (Nat.le_of_ble_eq_true rfl) (Nat.le_of_ble_eq_true rfl) ⟨_, rfl, hq, rfl⟩
