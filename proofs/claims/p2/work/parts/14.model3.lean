/-! the reference: what changes it (printed by wip/p2/gen14.py) -/
theorem ix1 {s z p q : Nat} (hs : s < 3) (hz : z < 3) (hp : p < 9) (hq : q < 9) : 91 * s ≠ ((91 * z) + 1) + (9 * p) + q := by
  rcases (show z = 0 ∨ z = 1 ∨ z = 2 by omega) with rfl | rfl | rfl <;> rcases (show s = 0 ∨ s = 1 ∨ s = 2 by omega) with rfl | rfl | rfl <;> omega
theorem ix2 {s z p q i : Nat} (hs : s < 3) (hz : z < 3) (hp : p < 9) (hq : q < 9) (hi : i < 9) : 91 * s + 82 + i ≠ ((91 * z) + 1) + (9 * p) + q := by
  rcases (show z = 0 ∨ z = 1 ∨ z = 2 by omega) with rfl | rfl | rfl <;> rcases (show s = 0 ∨ s = 1 ∨ s = 2 by omega) with rfl | rfl | rfl <;> omega
theorem ix3 {s z p : Nat} (hs : s < 3) (hz : z < 3) (hp : p < 9) : 91 * s ≠ ((91 * z) + 82) + p := by
  rcases (show z = 0 ∨ z = 1 ∨ z = 2 by omega) with rfl | rfl | rfl <;> rcases (show s = 0 ∨ s = 1 ∨ s = 2 by omega) with rfl | rfl | rfl <;> omega
theorem upd_ne {f : Nat → Int32} {i e : Nat} {v : Int32} (h : i ≠ e) : upd f e v i = f i := by simp [upd, h]
/-- a weight is written: points and rows stay -/
theorem GO_w {g : Nat → Int32} (h : GO g) (z p q : Nat) (v : Int32) (hz : z < 3) (hp : p < 9) (hq : q < 9) : GO (upd g (((91 * z) + 1) + (9 * p) + q) v) := by
  intro s hs
  have e1 : upd g (((91 * z) + 1) + (9 * p) + q) v (91 * s) = g (91 * s) := upd_ne (ix1 hs hz hp hq)
  have e2 : ∀ i, i < 9 → upd g (((91 * z) + 1) + (9 * p) + q) v (91 * s + 82 + i) = g (91 * s + 82 + i) := fun i hi => upd_ne (ix2 hs hz hp hq hi)
  rw [e1]
  refine ⟨(h s hs).1, fun i hi => ?_⟩
  rw [e2 i hi]
  exact (h s hs).2 i hi
theorem PE_w {g : Nat → Int32} (h : PE g) (z p q : Nat) (v : Int32) (hz : z < 3) (hp : p < 9) (hq : q < 9) (hb : ∀ s, s < 3 → (g (91 * s)).toNatClampNeg ≤ 9) : PE (upd g (((91 * z) + 1) + (9 * p) + q) v) := by
  intro s hs
  have e1 : upd g (((91 * z) + 1) + (9 * p) + q) v (91 * s) = g (91 * s) := upd_ne (ix1 hs hz hp hq)
  rw [e1]
  intro t ht
  obtain ⟨i, h1, h2⟩ := h s hs t ht
  have := hb s hs
  exact ⟨i, h1, by rw [upd_ne (ix2 hs hz hp hq (by omega))]; exact h2⟩
/-- a place of the row is written -/
theorem GO_o {g : Nat → Int32} (h : GO g) (z p w : Nat) (hz : z < 3) (hp : p < 9) (hw : w < 9) : GO (upd g (((91 * z) + 82) + p) (nI w)) := by
  intro s hs
  have e1 : upd g (((91 * z) + 82) + p) (nI w) (91 * s) = g (91 * s) := upd_ne (ix3 hs hz hp)
  rw [e1]
  refine ⟨(h s hs).1, fun i hi => ?_⟩
  by_cases e : 91 * s + 82 + i = 91 * z + 82 + p
  · have e2 : upd g (((91 * z) + 82) + p) (nI w) (91 * s + 82 + i) = nI w := by rw [e]; simp [upd]
    rw [e2, nI_clamp (by omega)]
    exact ⟨rfl, hw⟩
  · rw [upd_ne e]
    exact (h s hs).2 i hi
def FX12_weighs (f_state : Nat → Int32) (z : Nat) (p : Nat) (q : Nat) (x : Int32) : Int32 × (Nat → Int32) := (0, upd (upd f_state ((((91 * z) + 1) + (9 * p)) + q) x) ((((91 * z) + 1) + (9 * q)) + p) x)
set_option maxHeartbeats 4000000 in
set_option maxRecDepth 100000 in
theorem FX12_weighs_ok (G : xG) {P R : xMem} {L : Nat} (hP : P.length = L) (i_keptMany : Nat) (i_taped : Nat) (i_faultKind : Int32) (i_faultPlace : Int32) (i_spot : Nat) (i_begin : Nat) (i_token : Int32) (i_value : Int32) (i_bad : Int32) (i_full : Nat) (i_bandRows : Int32) (i_bandFirsts : Int32) (i_outs : Nat) (f_state : Nat → Int32) (f_was : Nat → Int32) (f_kept : Nat → Int32) (f_tape : Nat → Int32) (f_order : Nat → Int32) (f_rest : Nat → Int32) (f_ways : Nat → Int32) (f_costs : Nat → Int32) (f_bandBest : Nat → Int32) (f_found : Nat → Int32) (f_drawn : Nat → Int32) (f_joined : Nat → Int32) (f_out : Nat → Int32) (bi_keptMany : i_keptMany ≤ 10) (bi_taped : i_taped ≤ 400) (bi_spot : i_spot ≤ 400) (bi_begin : i_begin ≤ 400) (bi_full : i_full ≤ 511) (bi_outs : i_outs ≤ 400) (z : Nat) (bz : z < 3) (p : Nat) (bp : p < 9) (q : Nat) (bq : q < 9) (x : Int32) (M : xMem) (hM : M = (P ++ (MDL L i_keptMany i_taped i_faultKind i_faultPlace i_spot i_begin i_token i_value i_bad i_full i_bandRows i_bandFirsts i_outs f_state f_was f_kept f_tape f_order f_rest f_ways f_costs f_bandBest f_found f_drawn f_joined f_out ++ R))) (Q : Int32 × (Nat → Int32) → Prop) (hq : Q (FX12_weighs f_state z p q x)) : xC G mX12_weighs 0 0 0 [.ref L, .int (nI z), .int (nI p), .int (nI q), .int x] M (fun v M2 => ∃ o : Int32 × (Nat → Int32), v = none ∧ Q o ∧ M2 = (P ++ (MDL L i_keptMany i_taped i_faultKind i_faultPlace i_spot i_begin i_token i_value i_bad i_full i_bandRows i_bandFirsts i_outs o.2 f_was f_kept f_tape f_order f_rest f_ways f_costs f_bandBest f_found f_drawn f_joined f_out ++ R))) := by
  subst hM
  unfold FX12_weighs at hq
  refine xC.of (by decide) (Nat.le_of_ble_eq_true rfl) ?_
  show xW _ _ _ _ 0 [(0, .ref L), (1, .int (nI z)), (2, .int (nI p)), (3, .int (nI q)), (4, .int x)] [] _ 0 0
  refine xi_aload_n 0 dX12_weighs_0 rfl ?_
  refine xi_get (f := 0) dX12_weighs_1 (xpg0 hP rfl) rfl ok_9 (by decide) w_1008 rfl ?_
  refine xi_bipush (v := 91) dX12_weighs_4 (by decide) ?_
  refine xi_iload_n 1 dX12_weighs_6 rfl ?_
  refine xi_imul (v := (nI (91 * z))) dX12_weighs_7 (pk_mul 91 z) ?_
  refine xi_iconst (v := 1) dX12_weighs_8 (by decide) ?_
  refine xi_iadd (v := (nI ((91 * z) + 1))) dX12_weighs_9 (nI_add (91 * z) 1) ?_
  refine xi_bipush (v := 9) dX12_weighs_10 (by decide) ?_
  refine xi_iload_n 2 dX12_weighs_12 rfl ?_
  refine xi_imul (v := (nI (9 * p))) dX12_weighs_13 (pk_mul 9 p) ?_
  refine xi_iadd (v := (nI (((91 * z) + 1) + (9 * p)))) dX12_weighs_14 (nI_add ((91 * z) + 1) (9 * p)) ?_
  refine xi_iload_n 3 dX12_weighs_15 rfl ?_
  refine xi_iadd (v := (nI ((((91 * z) + 1) + (9 * p)) + q))) dX12_weighs_16 (nI_add (((91 * z) + 1) + (9 * p)) q) ?_
  refine xi_iload 4 dX12_weighs_17 rfl ?_
  refine xi_iastore (M' := (P ++ (MDL L i_keptMany i_taped i_faultKind i_faultPlace i_spot i_begin i_token i_value i_bad i_full i_bandRows i_bandFirsts i_outs (upd f_state ((((91 * z) + 1) + (9 * p)) + q) x) f_was f_kept f_tape f_order f_rest f_ways f_costs f_bandBest f_found f_drawn f_joined f_out ++ R))) dX12_weighs_19 (xpg hP rfl) (vp_in_nI (by omega) (by decide)) (by rw [nI_clamp (by omega)]; exact (xps hP)) ?_
  refine xi_aload_n 0 dX12_weighs_20 rfl ?_
  refine xi_get (f := 0) dX12_weighs_21 (xpg0 hP rfl) rfl ok_9 (by decide) w_1008 rfl ?_
  refine xi_bipush (v := 91) dX12_weighs_24 (by decide) ?_
  refine xi_iload_n 1 dX12_weighs_26 rfl ?_
  refine xi_imul (v := (nI (91 * z))) dX12_weighs_27 (pk_mul 91 z) ?_
  refine xi_iconst (v := 1) dX12_weighs_28 (by decide) ?_
  refine xi_iadd (v := (nI ((91 * z) + 1))) dX12_weighs_29 (nI_add (91 * z) 1) ?_
  refine xi_bipush (v := 9) dX12_weighs_30 (by decide) ?_
  refine xi_iload_n 3 dX12_weighs_32 rfl ?_
  refine xi_imul (v := (nI (9 * q))) dX12_weighs_33 (pk_mul 9 q) ?_
  refine xi_iadd (v := (nI (((91 * z) + 1) + (9 * q)))) dX12_weighs_34 (nI_add ((91 * z) + 1) (9 * q)) ?_
  refine xi_iload_n 2 dX12_weighs_35 rfl ?_
  refine xi_iadd (v := (nI ((((91 * z) + 1) + (9 * q)) + p))) dX12_weighs_36 (nI_add (((91 * z) + 1) + (9 * q)) p) ?_
  refine xi_iload 4 dX12_weighs_37 rfl ?_
  refine xi_iastore (M' := (P ++ (MDL L i_keptMany i_taped i_faultKind i_faultPlace i_spot i_begin i_token i_value i_bad i_full i_bandRows i_bandFirsts i_outs (upd (upd f_state ((((91 * z) + 1) + (9 * p)) + q) x) ((((91 * z) + 1) + (9 * q)) + p) x) f_was f_kept f_tape f_order f_rest f_ways f_costs f_bandBest f_found f_drawn f_joined f_out ++ R))) dX12_weighs_39 (xpg hP rfl) (vp_in_nI (by omega) (by decide)) (by rw [nI_clamp (by omega)]; exact (xps hP)) ?_
  exact xi_vret dX12_weighs_40 rfl (Nat.le_of_ble_eq_true rfl) (Nat.le_of_ble_eq_true rfl) ⟨_, rfl, hq, rfl⟩
def FX12_puts (f_state : Nat → Int32) (z : Nat) (p : Nat) (x : Int32) : Int32 × (Nat → Int32) := (0, upd f_state (((91 * z) + 82) + p) x)
set_option maxHeartbeats 4000000 in
set_option maxRecDepth 100000 in
theorem FX12_puts_ok (G : xG) {P R : xMem} {L : Nat} (hP : P.length = L) (i_keptMany : Nat) (i_taped : Nat) (i_faultKind : Int32) (i_faultPlace : Int32) (i_spot : Nat) (i_begin : Nat) (i_token : Int32) (i_value : Int32) (i_bad : Int32) (i_full : Nat) (i_bandRows : Int32) (i_bandFirsts : Int32) (i_outs : Nat) (f_state : Nat → Int32) (f_was : Nat → Int32) (f_kept : Nat → Int32) (f_tape : Nat → Int32) (f_order : Nat → Int32) (f_rest : Nat → Int32) (f_ways : Nat → Int32) (f_costs : Nat → Int32) (f_bandBest : Nat → Int32) (f_found : Nat → Int32) (f_drawn : Nat → Int32) (f_joined : Nat → Int32) (f_out : Nat → Int32) (bi_keptMany : i_keptMany ≤ 10) (bi_taped : i_taped ≤ 400) (bi_spot : i_spot ≤ 400) (bi_begin : i_begin ≤ 400) (bi_full : i_full ≤ 511) (bi_outs : i_outs ≤ 400) (z : Nat) (bz : z < 3) (p : Nat) (bp : p < 9) (x : Int32) (M : xMem) (hM : M = (P ++ (MDL L i_keptMany i_taped i_faultKind i_faultPlace i_spot i_begin i_token i_value i_bad i_full i_bandRows i_bandFirsts i_outs f_state f_was f_kept f_tape f_order f_rest f_ways f_costs f_bandBest f_found f_drawn f_joined f_out ++ R))) (Q : Int32 × (Nat → Int32) → Prop) (hq : Q (FX12_puts f_state z p x)) : xC G mX12_puts 0 0 0 [.ref L, .int (nI z), .int (nI p), .int x] M (fun v M2 => ∃ o : Int32 × (Nat → Int32), v = none ∧ Q o ∧ M2 = (P ++ (MDL L i_keptMany i_taped i_faultKind i_faultPlace i_spot i_begin i_token i_value i_bad i_full i_bandRows i_bandFirsts i_outs o.2 f_was f_kept f_tape f_order f_rest f_ways f_costs f_bandBest f_found f_drawn f_joined f_out ++ R))) := by
  subst hM
  unfold FX12_puts at hq
  refine xC.of (by decide) (Nat.le_of_ble_eq_true rfl) ?_
  show xW _ _ _ _ 0 [(0, .ref L), (1, .int (nI z)), (2, .int (nI p)), (3, .int x)] [] _ 0 0
  refine xi_aload_n 0 dX12_puts_0 rfl ?_
  refine xi_get (f := 0) dX12_puts_1 (xpg0 hP rfl) rfl ok_9 (by decide) w_1008 rfl ?_
  refine xi_bipush (v := 91) dX12_puts_4 (by decide) ?_
  refine xi_iload_n 1 dX12_puts_6 rfl ?_
  refine xi_imul (v := (nI (91 * z))) dX12_puts_7 (pk_mul 91 z) ?_
  refine xi_bipush (v := 82) dX12_puts_8 (by decide) ?_
  refine xi_iadd (v := (nI ((91 * z) + 82))) dX12_puts_10 (nI_add (91 * z) 82) ?_
  refine xi_iload_n 2 dX12_puts_11 rfl ?_
  refine xi_iadd (v := (nI (((91 * z) + 82) + p))) dX12_puts_12 (nI_add ((91 * z) + 82) p) ?_
  refine xi_iload_n 3 dX12_puts_13 rfl ?_
  refine xi_iastore (M' := (P ++ (MDL L i_keptMany i_taped i_faultKind i_faultPlace i_spot i_begin i_token i_value i_bad i_full i_bandRows i_bandFirsts i_outs (upd f_state (((91 * z) + 82) + p) x) f_was f_kept f_tape f_order f_rest f_ways f_costs f_bandBest f_found f_drawn f_joined f_out ++ R))) dX12_puts_14 (xpg hP rfl) (vp_in_nI (by omega) (by decide)) (by rw [nI_clamp (by omega)]; exact (xps hP)) ?_
  exact xi_vret dX12_puts_15 rfl (Nat.le_of_ble_eq_true rfl) (Nat.le_of_ble_eq_true rfl) ⟨_, rfl, hq, rfl⟩
def FX12_isSign (i_begin : Nat) (i_token : Int32) (i_bad : Int32) (f_tape : Nat → Int32) (x : Int32) : Int32 := (if i_bad = (0 : Int32) then (if i_token = (3 : Int32) then (if (f_tape i_begin) = x then (1 : Int32) else (0 : Int32)) else (0 : Int32)) else (0 : Int32))
set_option maxHeartbeats 4000000 in
set_option maxRecDepth 100000 in
theorem FX12_isSign_ok (G : xG) {P R : xMem} {L : Nat} (hP : P.length = L) (i_keptMany : Nat) (i_taped : Nat) (i_faultKind : Int32) (i_faultPlace : Int32) (i_spot : Nat) (i_begin : Nat) (i_token : Int32) (i_value : Int32) (i_bad : Int32) (i_full : Nat) (i_bandRows : Int32) (i_bandFirsts : Int32) (i_outs : Nat) (f_state : Nat → Int32) (f_was : Nat → Int32) (f_kept : Nat → Int32) (f_tape : Nat → Int32) (f_order : Nat → Int32) (f_rest : Nat → Int32) (f_ways : Nat → Int32) (f_costs : Nat → Int32) (f_bandBest : Nat → Int32) (f_found : Nat → Int32) (f_drawn : Nat → Int32) (f_joined : Nat → Int32) (f_out : Nat → Int32) (bi_keptMany : i_keptMany ≤ 10) (bi_taped : i_taped ≤ 400) (bi_spot : i_spot ≤ 400) (bi_begin : i_begin ≤ 400) (bi_full : i_full ≤ 511) (bi_outs : i_outs ≤ 400) (x : Int32) (hbg : i_begin < 400) (M : xMem) (hM : M = (P ++ (MDL L i_keptMany i_taped i_faultKind i_faultPlace i_spot i_begin i_token i_value i_bad i_full i_bandRows i_bandFirsts i_outs f_state f_was f_kept f_tape f_order f_rest f_ways f_costs f_bandBest f_found f_drawn f_joined f_out ++ R))) (Q : Int32 → Prop) (hq : Q (FX12_isSign i_begin i_token i_bad f_tape x)) : xC G mX12_isSign 0 0 0 [.ref L, .int x] M (fun v M2 => ∃ o : Int32, v = some (.int o) ∧ Q o ∧ M2 = (P ++ (MDL L i_keptMany i_taped i_faultKind i_faultPlace i_spot i_begin i_token i_value i_bad i_full i_bandRows i_bandFirsts i_outs f_state f_was f_kept f_tape f_order f_rest f_ways f_costs f_bandBest f_found f_drawn f_joined f_out ++ R))) := by
  subst hM
  unfold FX12_isSign at hq
  refine xC.of (by decide) (Nat.le_of_ble_eq_true rfl) ?_
  show xW _ _ _ _ 0 [(0, .ref L), (1, .int x)] [] _ 0 0
  refine xi_aload_n 0 dX12_isSign_0 rfl ?_
  refine xi_get (f := 12) dX12_isSign_1 (xpg0 hP rfl) rfl ok_9 (by decide) w_1020 rfl ?_
  refine xi_if_ne (tgt := 32) dX12_isSign_4 (by decide) (fun c1 => ?_) (fun c1 => ?_)
  · rw [if_neg c1] at hq
    refine xi_iconst (v := 0) dX12_isSign_32 (by decide) ?_
    exact xi_iret dX12_isSign_33 rfl (by decide) (Nat.le_of_ble_eq_true rfl) (Nat.le_of_ble_eq_true rfl) ⟨_, rfl, hq, rfl⟩
  · rw [if_pos c1] at hq
    refine xi_aload_n 0 dX12_isSign_7 rfl ?_
    refine xi_get (f := 10) dX12_isSign_8 (xpg0 hP rfl) rfl ok_9 (by decide) w_1018 rfl ?_
    refine xi_iconst (v := 3) dX12_isSign_11 (by decide) ?_
    refine xi_icmp_ne (tgt := 32) dX12_isSign_12 (by decide) (fun c2 => ?_) (fun c2 => ?_)
    · rw [if_neg c2] at hq
      refine xi_iconst (v := 0) dX12_isSign_32 (by decide) ?_
      exact xi_iret dX12_isSign_33 rfl (by decide) (Nat.le_of_ble_eq_true rfl) (Nat.le_of_ble_eq_true rfl) ⟨_, rfl, hq, rfl⟩
    · rw [if_pos c2] at hq
      refine xi_aload_n 0 dX12_isSign_15 rfl ?_
      refine xi_get (f := 4) dX12_isSign_16 (xpg0 hP rfl) rfl ok_9 (by decide) w_1012 rfl ?_
      refine xi_aload_n 0 dX12_isSign_19 rfl ?_
      refine xi_get (f := 9) dX12_isSign_20 (xpg0 hP rfl) rfl ok_9 (by decide) w_1017 rfl ?_
      refine xi_iaload (v := (f_tape i_begin)) dX12_isSign_23 (xpg hP rfl) (vp_in_nI (by omega) (by decide)) (by rw [nI_clamp (by omega)]) ?_
      refine xi_iload_n 1 dX12_isSign_24 rfl ?_
      refine xi_icmp_ne (tgt := 32) dX12_isSign_25 (by decide) (fun c3 => ?_) (fun c3 => ?_)
      · rw [if_neg c3] at hq
        refine xi_iconst (v := 0) dX12_isSign_32 (by decide) ?_
        exact xi_iret dX12_isSign_33 rfl (by decide) (Nat.le_of_ble_eq_true rfl) (Nat.le_of_ble_eq_true rfl) ⟨_, rfl, hq, rfl⟩
      · rw [if_pos c3] at hq
        refine xi_iconst (v := 1) dX12_isSign_28 (by decide) ?_
        refine xi_goto (tgt := 33) dX12_isSign_29 (by decide) ?_
        exact xi_iret dX12_isSign_33 rfl (by decide) (Nat.le_of_ble_eq_true rfl) (Nat.le_of_ble_eq_true rfl) ⟨_, rfl, hq, rfl⟩
theorem FX12_isSign_b (i_begin : Nat) (i_token : Int32) (i_bad : Int32) (f_tape : Nat → Int32) (x : Int32) : FX12_isSign i_begin i_token i_bad f_tape x = 0 ∨ FX12_isSign i_begin i_token i_bad f_tape x = 1 := by
  unfold FX12_isSign
  (repeat' split) <;> first | exact Or.inl rfl | exact Or.inr rfl
