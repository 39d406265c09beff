/-! the reference -/
def MDL (L : Nat) (i_keptMany : Int32) (i_taped : Int32) (i_faultKind : Int32) (i_faultPlace : Int32) (i_spot : Int32) (i_begin : Int32) (i_token : Int32) (i_value : Int32) (i_bad : Int32) (i_full : Int32) (i_bandRows : Int32) (i_bandFirsts : Int32) (i_outs : Int32) (f_state : Nat → Int32) (f_was : Nat → Int32) (f_kept : Nat → Int32) (f_tape : Nat → Int32) (f_order : Nat → Int32) (f_rest : Nat → Int32) (f_ways : Nat → Int32) (f_costs : Nat → Int32) (f_bandBest : Nat → Int32) (f_found : Nat → Int32) (f_drawn : Nat → Int32) (f_joined : Nat → Int32) (f_out : Nat → Int32) : xMem := [.inr (9, [.ref (L + 1), .ref (L + 2), .ref (L + 3), .int i_keptMany, .ref (L + 4), .int i_taped, .int i_faultKind, .int i_faultPlace, .int i_spot, .int i_begin, .int i_token, .int i_value, .int i_bad, .ref (L + 5), .ref (L + 6), .ref (L + 7), .ref (L + 8), .int i_full, .int i_bandRows, .int i_bandFirsts, .ref (L + 9), .ref (L + 10), .ref (L + 11), .ref (L + 12), .ref (L + 13), .int i_outs]), .inl (0, 273, .inl f_state), .inl (0, 273, .inl f_was), .inl (0, 2730, .inl f_kept), .inl (0, 400, .inl f_tape), .inl (0, 9, .inl f_order), .inl (0, 512, .inl f_rest), .inl (0, 512, .inl f_ways), .inl (0, 4608, .inl f_costs), .inl (0, 9, .inl f_bandBest), .inl (0, 9, .inl f_found), .inl (0, 9, .inl f_drawn), .inl (0, 81, .inl f_joined), .inl (0, 400, .inl f_out)]
/-! the reference: read-only methods as pure functions (printed by wip/p2/gen12.py) -/
/-- what the slots keep to: points at most nine, the row's places hold points -/
def GO (g : Nat → Int32) : Prop := ∀ s, s < 3 → (g (91 * s) = nI (g (91 * s)).toNatClampNeg ∧ (g (91 * s)).toNatClampNeg ≤ 9) ∧ ∀ i, i < 9 → g (91 * s + 82 + i) = nI (g (91 * s + 82 + i)).toNatClampNeg ∧ (g (91 * s + 82 + i)).toNatClampNeg < 9
def FX12_points (f_state : Nat → Int32) (z : Nat) : Int32 := (f_state (91 * z))
set_option maxHeartbeats 4000000 in
set_option maxRecDepth 100000 in
theorem FX12_points_ok (G : xG) {P R : xMem} {L : Nat} (hP : P.length = L) (i_keptMany : Int32) (i_taped : Int32) (i_faultKind : Int32) (i_faultPlace : Int32) (i_spot : Int32) (i_begin : Int32) (i_token : Int32) (i_value : Int32) (i_bad : Int32) (i_full : Int32) (i_bandRows : Int32) (i_bandFirsts : Int32) (i_outs : Int32) (f_state : Nat → Int32) (f_was : Nat → Int32) (f_kept : Nat → Int32) (f_tape : Nat → Int32) (f_order : Nat → Int32) (f_rest : Nat → Int32) (f_ways : Nat → Int32) (f_costs : Nat → Int32) (f_bandBest : Nat → Int32) (f_found : Nat → Int32) (f_drawn : Nat → Int32) (f_joined : Nat → Int32) (f_out : Nat → Int32) (hG : GO f_state) (z : Nat) (bz : z < 3) (M : xMem) (hM : M = (P ++ (MDL L i_keptMany i_taped i_faultKind i_faultPlace i_spot i_begin i_token i_value i_bad i_full i_bandRows i_bandFirsts i_outs f_state f_was f_kept f_tape f_order f_rest f_ways f_costs f_bandBest f_found f_drawn f_joined f_out ++ R))) (Q : Int32 → Prop) (hq : Q (FX12_points f_state z)) : xC G mX12_points 0 0 0 [.ref L, .int (nI z)] M (fun v M2 => ∃ o : Int32, v = some (.int o) ∧ Q o ∧ M2 = (P ++ (MDL L i_keptMany i_taped i_faultKind i_faultPlace i_spot i_begin i_token i_value i_bad i_full i_bandRows i_bandFirsts i_outs f_state f_was f_kept f_tape f_order f_rest f_ways f_costs f_bandBest f_found f_drawn f_joined f_out ++ R))) := by
  subst hM
  unfold FX12_points at hq
  refine xC.of (by decide) (Nat.le_of_ble_eq_true rfl) ?_
  show xW _ _ _ _ 0 [(0, .ref L), (1, .int (nI z))] [] _ 0 0
  refine xi_aload_n 0 dX12_points_0 rfl ?_
  refine xi_get (f := 0) dX12_points_1 (xpg0 hP rfl) rfl ok_9 (by decide) w_1008 rfl ?_
  refine xi_bipush (v := 91) dX12_points_4 (by decide) ?_
  refine xi_iload_n 1 dX12_points_6 rfl ?_
  refine xi_imul (v := (nI (91 * z))) dX12_points_7 (pk_mul 91 z) ?_
  refine xi_iaload (v := (f_state (91 * z))) dX12_points_8 (xpg hP rfl) (vp_in_nI (by omega) (by decide)) (by rw [nI_clamp (by omega)]) ?_
  exact xi_iret dX12_points_9 rfl rfl (Nat.le_of_ble_eq_true rfl) (Nat.le_of_ble_eq_true rfl) ⟨_, rfl, hq, rfl⟩
def FX12_weight (f_state : Nat → Int32) (z : Nat) (p : Nat) (q : Nat) : Int32 := (f_state ((((91 * z) + 1) + (9 * p)) + q))
set_option maxHeartbeats 4000000 in
set_option maxRecDepth 100000 in
theorem FX12_weight_ok (G : xG) {P R : xMem} {L : Nat} (hP : P.length = L) (i_keptMany : Int32) (i_taped : Int32) (i_faultKind : Int32) (i_faultPlace : Int32) (i_spot : Int32) (i_begin : Int32) (i_token : Int32) (i_value : Int32) (i_bad : Int32) (i_full : Int32) (i_bandRows : Int32) (i_bandFirsts : Int32) (i_outs : Int32) (f_state : Nat → Int32) (f_was : Nat → Int32) (f_kept : Nat → Int32) (f_tape : Nat → Int32) (f_order : Nat → Int32) (f_rest : Nat → Int32) (f_ways : Nat → Int32) (f_costs : Nat → Int32) (f_bandBest : Nat → Int32) (f_found : Nat → Int32) (f_drawn : Nat → Int32) (f_joined : Nat → Int32) (f_out : Nat → Int32) (hG : GO f_state) (z : Nat) (bz : z < 3) (p : Nat) (bp : p < 9) (q : Nat) (bq : q < 9) (M : xMem) (hM : M = (P ++ (MDL L i_keptMany i_taped i_faultKind i_faultPlace i_spot i_begin i_token i_value i_bad i_full i_bandRows i_bandFirsts i_outs f_state f_was f_kept f_tape f_order f_rest f_ways f_costs f_bandBest f_found f_drawn f_joined f_out ++ R))) (Q : Int32 → Prop) (hq : Q (FX12_weight f_state z p q)) : xC G mX12_weight 0 0 0 [.ref L, .int (nI z), .int (nI p), .int (nI q)] M (fun v M2 => ∃ o : Int32, v = some (.int o) ∧ Q o ∧ M2 = (P ++ (MDL L i_keptMany i_taped i_faultKind i_faultPlace i_spot i_begin i_token i_value i_bad i_full i_bandRows i_bandFirsts i_outs f_state f_was f_kept f_tape f_order f_rest f_ways f_costs f_bandBest f_found f_drawn f_joined f_out ++ R))) := by
  subst hM
  unfold FX12_weight at hq
  refine xC.of (by decide) (Nat.le_of_ble_eq_true rfl) ?_
  show xW _ _ _ _ 0 [(0, .ref L), (1, .int (nI z)), (2, .int (nI p)), (3, .int (nI q))] [] _ 0 0
  refine xi_aload_n 0 dX12_weight_0 rfl ?_
  refine xi_get (f := 0) dX12_weight_1 (xpg0 hP rfl) rfl ok_9 (by decide) w_1008 rfl ?_
  refine xi_bipush (v := 91) dX12_weight_4 (by decide) ?_
  refine xi_iload_n 1 dX12_weight_6 rfl ?_
  refine xi_imul (v := (nI (91 * z))) dX12_weight_7 (pk_mul 91 z) ?_
  refine xi_iconst (v := 1) dX12_weight_8 (by decide) ?_
  refine xi_iadd (v := (nI ((91 * z) + 1))) dX12_weight_9 (nI_add (91 * z) 1) ?_
  refine xi_bipush (v := 9) dX12_weight_10 (by decide) ?_
  refine xi_iload_n 2 dX12_weight_12 rfl ?_
  refine xi_imul (v := (nI (9 * p))) dX12_weight_13 (pk_mul 9 p) ?_
  refine xi_iadd (v := (nI (((91 * z) + 1) + (9 * p)))) dX12_weight_14 (nI_add ((91 * z) + 1) (9 * p)) ?_
  refine xi_iload_n 3 dX12_weight_15 rfl ?_
  refine xi_iadd (v := (nI ((((91 * z) + 1) + (9 * p)) + q))) dX12_weight_16 (nI_add (((91 * z) + 1) + (9 * p)) q) ?_
  refine xi_iaload (v := (f_state ((((91 * z) + 1) + (9 * p)) + q))) dX12_weight_17 (xpg hP rfl) (vp_in_nI (by omega) (by decide)) (by rw [nI_clamp (by omega)]) ?_
  exact xi_iret dX12_weight_18 rfl rfl (Nat.le_of_ble_eq_true rfl) (Nat.le_of_ble_eq_true rfl) ⟨_, rfl, hq, rfl⟩
def FX12_at (f_state : Nat → Int32) (z : Nat) (p : Nat) : Int32 := (f_state (((91 * z) + 82) + p))
set_option maxHeartbeats 4000000 in
set_option maxRecDepth 100000 in
theorem FX12_at_ok (G : xG) {P R : xMem} {L : Nat} (hP : P.length = L) (i_keptMany : Int32) (i_taped : Int32) (i_faultKind : Int32) (i_faultPlace : Int32) (i_spot : Int32) (i_begin : Int32) (i_token : Int32) (i_value : Int32) (i_bad : Int32) (i_full : Int32) (i_bandRows : Int32) (i_bandFirsts : Int32) (i_outs : Int32) (f_state : Nat → Int32) (f_was : Nat → Int32) (f_kept : Nat → Int32) (f_tape : Nat → Int32) (f_order : Nat → Int32) (f_rest : Nat → Int32) (f_ways : Nat → Int32) (f_costs : Nat → Int32) (f_bandBest : Nat → Int32) (f_found : Nat → Int32) (f_drawn : Nat → Int32) (f_joined : Nat → Int32) (f_out : Nat → Int32) (hG : GO f_state) (z : Nat) (bz : z < 3) (p : Nat) (bp : p < 9) (M : xMem) (hM : M = (P ++ (MDL L i_keptMany i_taped i_faultKind i_faultPlace i_spot i_begin i_token i_value i_bad i_full i_bandRows i_bandFirsts i_outs f_state f_was f_kept f_tape f_order f_rest f_ways f_costs f_bandBest f_found f_drawn f_joined f_out ++ R))) (Q : Int32 → Prop) (hq : Q (FX12_at f_state z p)) : xC G mX12_at 0 0 0 [.ref L, .int (nI z), .int (nI p)] M (fun v M2 => ∃ o : Int32, v = some (.int o) ∧ Q o ∧ M2 = (P ++ (MDL L i_keptMany i_taped i_faultKind i_faultPlace i_spot i_begin i_token i_value i_bad i_full i_bandRows i_bandFirsts i_outs f_state f_was f_kept f_tape f_order f_rest f_ways f_costs f_bandBest f_found f_drawn f_joined f_out ++ R))) := by
  subst hM
  unfold FX12_at at hq
  refine xC.of (by decide) (Nat.le_of_ble_eq_true rfl) ?_
  show xW _ _ _ _ 0 [(0, .ref L), (1, .int (nI z)), (2, .int (nI p))] [] _ 0 0
  refine xi_aload_n 0 dX12_at_0 rfl ?_
  refine xi_get (f := 0) dX12_at_1 (xpg0 hP rfl) rfl ok_9 (by decide) w_1008 rfl ?_
  refine xi_bipush (v := 91) dX12_at_4 (by decide) ?_
  refine xi_iload_n 1 dX12_at_6 rfl ?_
  refine xi_imul (v := (nI (91 * z))) dX12_at_7 (pk_mul 91 z) ?_
  refine xi_bipush (v := 82) dX12_at_8 (by decide) ?_
  refine xi_iadd (v := (nI ((91 * z) + 82))) dX12_at_10 (nI_add (91 * z) 82) ?_
  refine xi_iload_n 2 dX12_at_11 rfl ?_
  refine xi_iadd (v := (nI (((91 * z) + 82) + p))) dX12_at_12 (nI_add ((91 * z) + 82) p) ?_
  refine xi_iaload (v := (f_state (((91 * z) + 82) + p))) dX12_at_13 (xpg hP rfl) (vp_in_nI (by omega) (by decide)) (by rw [nI_clamp (by omega)]) ?_
  exact xi_iret dX12_at_14 rfl rfl (Nat.le_of_ble_eq_true rfl) (Nat.le_of_ble_eq_true rfl) ⟨_, rfl, hq, rfl⟩
def LX12_nearOf_5 (f_state : Nat → Int32) (n1 : Nat) (n2 : Nat) (K : Int32 → Int32) : Nat → Nat → Int32 → Int32
  | 0, _, v3 => K v3
  | k + 1, j, v3 => (if (FX12_weight f_state n1 n2 j) ≤ (0 : Int32) then (LX12_nearOf_5 f_state n1 n2 K k (j + 1) ((v3 ||| (0 : Int32)))) else (LX12_nearOf_5 f_state n1 n2 K k (j + 1) ((v3 ||| ((1 : Int32) <<< ((nI j) &&& 31))))))
set_option maxHeartbeats 4000000 in
set_option maxRecDepth 100000 in
theorem LX12_nearOf_5_s (G : xG) {P R : xMem} {L : Nat} (hP : P.length = L) (i_keptMany : Int32) (i_taped : Int32) (i_faultKind : Int32) (i_faultPlace : Int32) (i_spot : Int32) (i_begin : Int32) (i_token : Int32) (i_value : Int32) (i_bad : Int32) (i_full : Int32) (i_bandRows : Int32) (i_bandFirsts : Int32) (i_outs : Int32) (f_state : Nat → Int32) (f_was : Nat → Int32) (f_kept : Nat → Int32) (f_tape : Nat → Int32) (f_order : Nat → Int32) (f_rest : Nat → Int32) (f_ways : Nat → Int32) (f_costs : Nat → Int32) (f_bandBest : Nat → Int32) (f_found : Nat → Int32) (f_drawn : Nat → Int32) (f_joined : Nat → Int32) (f_out : Nat → Int32) (hG : GO f_state) (n1 : Nat) (bn1 : n1 < 3) (n2 : Nat) (bn2 : n2 < 9) (Q : Int32 → Prop) (K : Int32 → Int32) (HE : ∀ (v3 : Int32), Q (K v3) → xW G mX12_nearOf (xrm 1 0 0) (xQ G (fun v M2 => ∃ o : Int32, v = some (.int o) ∧ Q o ∧ M2 = (P ++ (MDL L i_keptMany i_taped i_faultKind i_faultPlace i_spot i_begin i_token i_value i_bad i_full i_bandRows i_bandFirsts i_outs f_state f_was f_kept f_tape f_order f_rest f_ways f_costs f_bandBest f_found f_drawn f_joined f_out ++ R))) 0 0) 43 [(3, .int v3)] [] (P ++ (MDL L i_keptMany i_taped i_faultKind i_faultPlace i_spot i_begin i_token i_value i_bad i_full i_bandRows i_bandFirsts i_outs f_state f_was f_kept f_tape f_order f_rest f_ways f_costs f_bandBest f_found f_drawn f_joined f_out ++ R)) 0 0) :
    ∀ (k j : Nat) (v3 : Int32), (f_state (91 * n1)).toNatClampNeg - j = k → j < 100000 → Q (LX12_nearOf_5 f_state n1 n2 K k j v3) → xW G mX12_nearOf (xrm 1 0 0) (xQ G (fun v M2 => ∃ o : Int32, v = some (.int o) ∧ Q o ∧ M2 = (P ++ (MDL L i_keptMany i_taped i_faultKind i_faultPlace i_spot i_begin i_token i_value i_bad i_full i_bandRows i_bandFirsts i_outs f_state f_was f_kept f_tape f_order f_rest f_ways f_costs f_bandBest f_found f_drawn f_joined f_out ++ R))) 0 0) 5 [(0, .ref L), (1, .int (nI n1)), (2, .int (nI n2)), (3, .int v3), (4, .int (nI j))] [] (P ++ (MDL L i_keptMany i_taped i_faultKind i_faultPlace i_spot i_begin i_token i_value i_bad i_full i_bandRows i_bandFirsts i_outs f_state f_was f_kept f_tape f_order f_rest f_ways f_costs f_bandBest f_found f_drawn f_joined f_out ++ R)) 0 0 := by
  intro k
  induction k with
  | zero =>
    intro j v3 hj hj2 hq
    rw [LX12_nearOf_5] at hq
    refine xi_iload 4 dX12_nearOf_5 rfl ?_
    refine xi_aload_n 0 dX12_nearOf_7 rfl ?_
    refine xi_iload_n 1 dX12_nearOf_8 rfl ?_
    refine xi_callV (as := [.int (nI n1)]) (rest := [.int (nI j)]) dX12_nearOf_9 (FX12_points_ok G hP i_keptMany i_taped i_faultKind i_faultPlace i_spot i_begin i_token i_value i_bad i_full i_bandRows i_bandFirsts i_outs f_state f_was f_kept f_tape f_order f_rest f_ways f_costs f_bandBest f_found f_drawn f_joined f_out hG n1 (by omega) _ rfl (fun r => r = nI ((f_state (91 * n1)).toNatClampNeg)) ((hG n1 (by omega)).1.1)) mkX12_points w_1108 ws_36 w_1106 (xpg0 hP rfl) rfl rfl rfl rfl (Nat.le_of_ble_eq_true rfl) (Nat.le_of_ble_eq_true rfl) (Nat.le_of_ble_eq_true rfl) (Nat.le_of_ble_eq_true rfl) (Nat.le_of_ble_eq_true rfl) ?_
    intro v M2 hz
    obtain ⟨_, rfl, rfl, rfl⟩ := hz
    show xW _ _ _ _ 12 _ [.int (nI ((f_state (91 * n1)).toNatClampNeg)), .int (nI j)] (P ++ (MDL L i_keptMany i_taped i_faultKind i_faultPlace i_spot i_begin i_token i_value i_bad i_full i_bandRows i_bandFirsts i_outs f_state f_was f_kept f_tape f_order f_rest f_ways f_costs f_bandBest f_found f_drawn f_joined f_out ++ R)) _ _
    have o3 := (hG n1 (by omega)).1.2
    refine xi_icmp_ge_t (tgt := 43) dX12_nearOf_12 (by decide) (nI_le (a := (f_state (91 * n1)).toNatClampNeg) (b := j) (by omega) (by omega)) ?_
    refine xi_sub (lv' := [(3, .int v3)]) [3] rfl ?_
    exact HE v3 hq
  | succ k ih =>
    intro j v3 hj hj2 hq
    rw [LX12_nearOf_5] at hq
    refine xi_iload 4 dX12_nearOf_5 rfl ?_
    refine xi_aload_n 0 dX12_nearOf_7 rfl ?_
    refine xi_iload_n 1 dX12_nearOf_8 rfl ?_
    refine xi_callV (as := [.int (nI n1)]) (rest := [.int (nI j)]) dX12_nearOf_9 (FX12_points_ok G hP i_keptMany i_taped i_faultKind i_faultPlace i_spot i_begin i_token i_value i_bad i_full i_bandRows i_bandFirsts i_outs f_state f_was f_kept f_tape f_order f_rest f_ways f_costs f_bandBest f_found f_drawn f_joined f_out hG n1 (by omega) _ rfl (fun r => r = nI ((f_state (91 * n1)).toNatClampNeg)) ((hG n1 (by omega)).1.1)) mkX12_points w_1108 ws_36 w_1106 (xpg0 hP rfl) rfl rfl rfl rfl (Nat.le_of_ble_eq_true rfl) (Nat.le_of_ble_eq_true rfl) (Nat.le_of_ble_eq_true rfl) (Nat.le_of_ble_eq_true rfl) (Nat.le_of_ble_eq_true rfl) ?_
    intro v M2 hz
    obtain ⟨_, rfl, rfl, rfl⟩ := hz
    show xW _ _ _ _ 12 _ [.int (nI ((f_state (91 * n1)).toNatClampNeg)), .int (nI j)] (P ++ (MDL L i_keptMany i_taped i_faultKind i_faultPlace i_spot i_begin i_token i_value i_bad i_full i_bandRows i_bandFirsts i_outs f_state f_was f_kept f_tape f_order f_rest f_ways f_costs f_bandBest f_found f_drawn f_joined f_out ++ R)) _ _
    have o1 := (hG n1 (by omega)).1.2
    refine xi_icmp_ge_f (tgt := 43) dX12_nearOf_12 (by decide) (nI_ge (a := j) (b := (f_state (91 * n1)).toNatClampNeg) (by omega) (by omega)) ?_
    refine xi_iload_n 3 dX12_nearOf_15 rfl ?_
    refine xi_aload_n 0 dX12_nearOf_16 rfl ?_
    refine xi_iload_n 1 dX12_nearOf_17 rfl ?_
    refine xi_iload_n 2 dX12_nearOf_18 rfl ?_
    refine xi_iload 4 dX12_nearOf_19 rfl ?_
    refine xi_callV (as := [.int (nI n1), .int (nI n2), .int (nI j)]) (rest := [.int v3]) dX12_nearOf_21 (FX12_weight_ok G hP i_keptMany i_taped i_faultKind i_faultPlace i_spot i_begin i_token i_value i_bad i_full i_bandRows i_bandFirsts i_outs f_state f_was f_kept f_tape f_order f_rest f_ways f_costs f_bandBest f_found f_drawn f_joined f_out hG n1 (by omega) n2 (by omega) j (by omega) _ rfl (fun r => r = FX12_weight f_state n1 n2 j) rfl) mkX12_weight w_1192 ws_53 w_1190 (xpg0 hP rfl) rfl rfl rfl rfl (Nat.le_of_ble_eq_true rfl) (Nat.le_of_ble_eq_true rfl) (Nat.le_of_ble_eq_true rfl) (Nat.le_of_ble_eq_true rfl) (Nat.le_of_ble_eq_true rfl) ?_
    intro v M2 hz
    obtain ⟨_, rfl, rfl, rfl⟩ := hz
    show xW _ _ _ _ 24 _ [.int (FX12_weight f_state n1 n2 j), .int v3] (P ++ (MDL L i_keptMany i_taped i_faultKind i_faultPlace i_spot i_begin i_token i_value i_bad i_full i_bandRows i_bandFirsts i_outs f_state f_was f_kept f_tape f_order f_rest f_ways f_costs f_bandBest f_found f_drawn f_joined f_out ++ R)) _ _
    refine xi_if_le (tgt := 34) dX12_nearOf_24 (by decide) (fun c2 => ?_) (fun c2 => ?_)
    · rw [if_pos c2] at hq
      refine xi_iconst (v := 0) dX12_nearOf_34 (by decide) ?_
      refine xi_ior (v := (v3 ||| (0 : Int32))) dX12_nearOf_35 rfl ?_
      refine xi_istore_n (lv' := [(3, .int (v3 ||| (0 : Int32))), (0, .ref L), (1, .int (nI n1)), (2, .int (nI n2)), (4, .int (nI j))]) dX12_nearOf_36 (by decide) rfl ?_
      refine xi_iinc (v := (nI (j + 1))) (lv' := [(4, .int (nI (j + 1))), (3, .int (v3 ||| (0 : Int32))), (0, .ref L), (1, .int (nI n1)), (2, .int (nI n2))]) 4 dX12_nearOf_37 rfl (nI_1 _) (by decide) rfl ?_
      refine xi_goto (tgt := 5) dX12_nearOf_40 (by decide) ?_
      refine xi_sub (lv' := [(0, .ref L), (1, .int (nI n1)), (2, .int (nI n2)), (3, .int (v3 ||| (0 : Int32))), (4, .int (nI (j + 1)))]) [2, 3, 4, 1, 0] rfl ?_
      exact ih (j + 1) ((v3 ||| (0 : Int32))) (by omega) (by omega) hq
    · rw [if_neg c2] at hq
      refine xi_iconst (v := 1) dX12_nearOf_27 (by decide) ?_
      refine xi_iload 4 dX12_nearOf_28 rfl ?_
      refine xi_ishl (v := ((1 : Int32) <<< ((nI j) &&& 31))) dX12_nearOf_30 rfl ?_
      refine xi_goto (tgt := 35) dX12_nearOf_31 (by decide) ?_
      refine xi_ior (v := (v3 ||| ((1 : Int32) <<< ((nI j) &&& 31)))) dX12_nearOf_35 rfl ?_
      refine xi_istore_n (lv' := [(3, .int (v3 ||| ((1 : Int32) <<< ((nI j) &&& 31)))), (0, .ref L), (1, .int (nI n1)), (2, .int (nI n2)), (4, .int (nI j))]) dX12_nearOf_36 (by decide) rfl ?_
      refine xi_iinc (v := (nI (j + 1))) (lv' := [(4, .int (nI (j + 1))), (3, .int (v3 ||| ((1 : Int32) <<< ((nI j) &&& 31)))), (0, .ref L), (1, .int (nI n1)), (2, .int (nI n2))]) 4 dX12_nearOf_37 rfl (nI_1 _) (by decide) rfl ?_
      refine xi_goto (tgt := 5) dX12_nearOf_40 (by decide) ?_
      refine xi_sub (lv' := [(0, .ref L), (1, .int (nI n1)), (2, .int (nI n2)), (3, .int (v3 ||| ((1 : Int32) <<< ((nI j) &&& 31)))), (4, .int (nI (j + 1)))]) [2, 3, 4, 1, 0] rfl ?_
      exact ih (j + 1) ((v3 ||| ((1 : Int32) <<< ((nI j) &&& 31)))) (by omega) (by omega) hq
def FX12_nearOf (f_state : Nat → Int32) (z : Nat) (p : Nat) : Int32 := (LX12_nearOf_5 f_state z p (fun u4 => u4) ((f_state (91 * z)).toNatClampNeg - 0) 0 ((0 : Int32)))
set_option maxHeartbeats 4000000 in
set_option maxRecDepth 100000 in
theorem FX12_nearOf_ok (G : xG) {P R : xMem} {L : Nat} (hP : P.length = L) (i_keptMany : Int32) (i_taped : Int32) (i_faultKind : Int32) (i_faultPlace : Int32) (i_spot : Int32) (i_begin : Int32) (i_token : Int32) (i_value : Int32) (i_bad : Int32) (i_full : Int32) (i_bandRows : Int32) (i_bandFirsts : Int32) (i_outs : Int32) (f_state : Nat → Int32) (f_was : Nat → Int32) (f_kept : Nat → Int32) (f_tape : Nat → Int32) (f_order : Nat → Int32) (f_rest : Nat → Int32) (f_ways : Nat → Int32) (f_costs : Nat → Int32) (f_bandBest : Nat → Int32) (f_found : Nat → Int32) (f_drawn : Nat → Int32) (f_joined : Nat → Int32) (f_out : Nat → Int32) (hG : GO f_state) (z : Nat) (bz : z < 3) (p : Nat) (bp : p < 9) (M : xMem) (hM : M = (P ++ (MDL L i_keptMany i_taped i_faultKind i_faultPlace i_spot i_begin i_token i_value i_bad i_full i_bandRows i_bandFirsts i_outs f_state f_was f_kept f_tape f_order f_rest f_ways f_costs f_bandBest f_found f_drawn f_joined f_out ++ R))) (Q : Int32 → Prop) (hq : Q (FX12_nearOf f_state z p)) : xC G mX12_nearOf 1 0 0 [.ref L, .int (nI z), .int (nI p)] M (fun v M2 => ∃ o : Int32, v = some (.int o) ∧ Q o ∧ M2 = (P ++ (MDL L i_keptMany i_taped i_faultKind i_faultPlace i_spot i_begin i_token i_value i_bad i_full i_bandRows i_bandFirsts i_outs f_state f_was f_kept f_tape f_order f_rest f_ways f_costs f_bandBest f_found f_drawn f_joined f_out ++ R))) := by
  subst hM
  unfold FX12_nearOf at hq
  refine xC.of (by decide) (Nat.le_of_ble_eq_true rfl) ?_
  show xW _ _ _ _ 0 [(0, .ref L), (1, .int (nI z)), (2, .int (nI p))] [] _ 0 0
  refine xi_iconst (v := 0) dX12_nearOf_0 (by decide) ?_
  refine xi_istore_n (lv' := [(3, .int 0), (0, .ref L), (1, .int (nI z)), (2, .int (nI p))]) dX12_nearOf_1 (by decide) rfl ?_
  refine xi_iconst (v := 0) dX12_nearOf_2 (by decide) ?_
  refine xi_istore (lv' := [(4, .int 0), (3, .int 0), (0, .ref L), (1, .int (nI z)), (2, .int (nI p))]) dX12_nearOf_3 (by decide) rfl ?_
  refine xi_sub (lv' := [(0, .ref L), (1, .int (nI z)), (2, .int (nI p)), (3, .int 0), (4, .int 0)]) [2, 3, 4, 1, 0] rfl ?_
  refine LX12_nearOf_5_s G hP i_keptMany i_taped i_faultKind i_faultPlace i_spot i_begin i_token i_value i_bad i_full i_bandRows i_bandFirsts i_outs f_state f_was f_kept f_tape f_order f_rest f_ways f_costs f_bandBest f_found f_drawn f_joined f_out hG z (by omega) p (by omega) Q _ (fun u4 hq => ?_) ((f_state (91 * z)).toNatClampNeg - 0) 0 ((0 : Int32)) rfl (by omega) hq
  refine xi_iload_n 0 dX12_nearOf_43 rfl ?_
  exact xi_iret dX12_nearOf_44 rfl rfl (Nat.le_of_ble_eq_true rfl) (Nat.le_of_ble_eq_true rfl) ⟨_, rfl, hq, rfl⟩
def FX12_has (x : Int32) (y : Int32) : Int32 := (if ((x >>> (y &&& 31)) &&& (1 : Int32)) = (1 : Int32) then (1 : Int32) else (0 : Int32))
set_option maxHeartbeats 4000000 in
set_option maxRecDepth 100000 in
theorem FX12_has_ok (G : xG) {M : xMem} (x : Int32) (y : Int32) (Q : Int32 → Prop) (hq : Q (FX12_has x y)) : xC G mX12_has 0 0 0 [.int x, .int y] M (fun v M2 => ∃ r, v = some (.int r) ∧ Q r ∧ M2 = M) := by
  unfold FX12_has at hq
  refine xC.of (by decide) (Nat.le_of_ble_eq_true rfl) ?_
  show xW _ _ _ _ 0 [(0, .int x), (1, .int y)] [] _ 0 0
  refine xi_iload_n 0 dX12_has_0 rfl ?_
  refine xi_iload_n 1 dX12_has_1 rfl ?_
  refine xi_ishr (v := (x >>> (y &&& 31))) dX12_has_2 rfl ?_
  refine xi_iconst (v := 1) dX12_has_3 (by decide) ?_
  refine xi_iand (v := ((x >>> (y &&& 31)) &&& (1 : Int32))) dX12_has_4 rfl ?_
  refine xi_iconst (v := 1) dX12_has_5 (by decide) ?_
  refine xi_icmp_ne (tgt := 13) dX12_has_6 (by decide) (fun c1 => ?_) (fun c1 => ?_)
  · rw [if_neg c1] at hq
    refine xi_iconst (v := 0) dX12_has_13 (by decide) ?_
    exact xi_iret dX12_has_14 rfl (by decide) (Nat.le_of_ble_eq_true rfl) (Nat.le_of_ble_eq_true rfl) ⟨_, rfl, hq, rfl⟩
  · rw [if_pos c1] at hq
    refine xi_iconst (v := 1) dX12_has_9 (by decide) ?_
    refine xi_goto (tgt := 14) dX12_has_10 (by decide) ?_
    exact xi_iret dX12_has_14 rfl (by decide) (Nat.le_of_ble_eq_true rfl) (Nat.le_of_ble_eq_true rfl) ⟨_, rfl, hq, rfl⟩
def LX12_weightOf_5 (f_state : Nat → Int32) (n1 : Nat) (n2 : Nat) (K : Int32 → Int32) : Nat → Nat → Int32 → Int32
  | 0, _, v3 => K v3
  | k + 1, j, v3 => (LX12_weightOf_5 f_state n1 n2 K k (j + 1) ((v3 + (FX12_weight f_state n1 n2 j))))
set_option maxHeartbeats 4000000 in
set_option maxRecDepth 100000 in
theorem LX12_weightOf_5_s (G : xG) {P R : xMem} {L : Nat} (hP : P.length = L) (i_keptMany : Int32) (i_taped : Int32) (i_faultKind : Int32) (i_faultPlace : Int32) (i_spot : Int32) (i_begin : Int32) (i_token : Int32) (i_value : Int32) (i_bad : Int32) (i_full : Int32) (i_bandRows : Int32) (i_bandFirsts : Int32) (i_outs : Int32) (f_state : Nat → Int32) (f_was : Nat → Int32) (f_kept : Nat → Int32) (f_tape : Nat → Int32) (f_order : Nat → Int32) (f_rest : Nat → Int32) (f_ways : Nat → Int32) (f_costs : Nat → Int32) (f_bandBest : Nat → Int32) (f_found : Nat → Int32) (f_drawn : Nat → Int32) (f_joined : Nat → Int32) (f_out : Nat → Int32) (hG : GO f_state) (n1 : Nat) (bn1 : n1 < 3) (n2 : Nat) (bn2 : n2 < 9) (Q : Int32 → Prop) (K : Int32 → Int32) (HE : ∀ (v3 : Int32), Q (K v3) → xW G mX12_weightOf (xrm 1 0 0) (xQ G (fun v M2 => ∃ o : Int32, v = some (.int o) ∧ Q o ∧ M2 = (P ++ (MDL L i_keptMany i_taped i_faultKind i_faultPlace i_spot i_begin i_token i_value i_bad i_full i_bandRows i_bandFirsts i_outs f_state f_was f_kept f_tape f_order f_rest f_ways f_costs f_bandBest f_found f_drawn f_joined f_out ++ R))) 0 0) 32 [(3, .int v3)] [] (P ++ (MDL L i_keptMany i_taped i_faultKind i_faultPlace i_spot i_begin i_token i_value i_bad i_full i_bandRows i_bandFirsts i_outs f_state f_was f_kept f_tape f_order f_rest f_ways f_costs f_bandBest f_found f_drawn f_joined f_out ++ R)) 0 0) :
    ∀ (k j : Nat) (v3 : Int32), (f_state (91 * n1)).toNatClampNeg - j = k → j < 100000 → Q (LX12_weightOf_5 f_state n1 n2 K k j v3) → xW G mX12_weightOf (xrm 1 0 0) (xQ G (fun v M2 => ∃ o : Int32, v = some (.int o) ∧ Q o ∧ M2 = (P ++ (MDL L i_keptMany i_taped i_faultKind i_faultPlace i_spot i_begin i_token i_value i_bad i_full i_bandRows i_bandFirsts i_outs f_state f_was f_kept f_tape f_order f_rest f_ways f_costs f_bandBest f_found f_drawn f_joined f_out ++ R))) 0 0) 5 [(0, .ref L), (1, .int (nI n1)), (2, .int (nI n2)), (3, .int v3), (4, .int (nI j))] [] (P ++ (MDL L i_keptMany i_taped i_faultKind i_faultPlace i_spot i_begin i_token i_value i_bad i_full i_bandRows i_bandFirsts i_outs f_state f_was f_kept f_tape f_order f_rest f_ways f_costs f_bandBest f_found f_drawn f_joined f_out ++ R)) 0 0 := by
  intro k
  induction k with
  | zero =>
    intro j v3 hj hj2 hq
    rw [LX12_weightOf_5] at hq
    refine xi_iload 4 dX12_weightOf_5 rfl ?_
    refine xi_aload_n 0 dX12_weightOf_7 rfl ?_
    refine xi_iload_n 1 dX12_weightOf_8 rfl ?_
    refine xi_callV (as := [.int (nI n1)]) (rest := [.int (nI j)]) dX12_weightOf_9 (FX12_points_ok G hP i_keptMany i_taped i_faultKind i_faultPlace i_spot i_begin i_token i_value i_bad i_full i_bandRows i_bandFirsts i_outs f_state f_was f_kept f_tape f_order f_rest f_ways f_costs f_bandBest f_found f_drawn f_joined f_out hG n1 (by omega) _ rfl (fun r => r = nI ((f_state (91 * n1)).toNatClampNeg)) ((hG n1 (by omega)).1.1)) mkX12_points w_1108 ws_36 w_1106 (xpg0 hP rfl) rfl rfl rfl rfl (Nat.le_of_ble_eq_true rfl) (Nat.le_of_ble_eq_true rfl) (Nat.le_of_ble_eq_true rfl) (Nat.le_of_ble_eq_true rfl) (Nat.le_of_ble_eq_true rfl) ?_
    intro v M2 hz
    obtain ⟨_, rfl, rfl, rfl⟩ := hz
    show xW _ _ _ _ 12 _ [.int (nI ((f_state (91 * n1)).toNatClampNeg)), .int (nI j)] (P ++ (MDL L i_keptMany i_taped i_faultKind i_faultPlace i_spot i_begin i_token i_value i_bad i_full i_bandRows i_bandFirsts i_outs f_state f_was f_kept f_tape f_order f_rest f_ways f_costs f_bandBest f_found f_drawn f_joined f_out ++ R)) _ _
    have o2 := (hG n1 (by omega)).1.2
    refine xi_icmp_ge_t (tgt := 32) dX12_weightOf_12 (by decide) (nI_le (a := (f_state (91 * n1)).toNatClampNeg) (b := j) (by omega) (by omega)) ?_
    refine xi_sub (lv' := [(3, .int v3)]) [3] rfl ?_
    exact HE v3 hq
  | succ k ih =>
    intro j v3 hj hj2 hq
    rw [LX12_weightOf_5] at hq
    refine xi_iload 4 dX12_weightOf_5 rfl ?_
    refine xi_aload_n 0 dX12_weightOf_7 rfl ?_
    refine xi_iload_n 1 dX12_weightOf_8 rfl ?_
    refine xi_callV (as := [.int (nI n1)]) (rest := [.int (nI j)]) dX12_weightOf_9 (FX12_points_ok G hP i_keptMany i_taped i_faultKind i_faultPlace i_spot i_begin i_token i_value i_bad i_full i_bandRows i_bandFirsts i_outs f_state f_was f_kept f_tape f_order f_rest f_ways f_costs f_bandBest f_found f_drawn f_joined f_out hG n1 (by omega) _ rfl (fun r => r = nI ((f_state (91 * n1)).toNatClampNeg)) ((hG n1 (by omega)).1.1)) mkX12_points w_1108 ws_36 w_1106 (xpg0 hP rfl) rfl rfl rfl rfl (Nat.le_of_ble_eq_true rfl) (Nat.le_of_ble_eq_true rfl) (Nat.le_of_ble_eq_true rfl) (Nat.le_of_ble_eq_true rfl) (Nat.le_of_ble_eq_true rfl) ?_
    intro v M2 hz
    obtain ⟨_, rfl, rfl, rfl⟩ := hz
    show xW _ _ _ _ 12 _ [.int (nI ((f_state (91 * n1)).toNatClampNeg)), .int (nI j)] (P ++ (MDL L i_keptMany i_taped i_faultKind i_faultPlace i_spot i_begin i_token i_value i_bad i_full i_bandRows i_bandFirsts i_outs f_state f_was f_kept f_tape f_order f_rest f_ways f_costs f_bandBest f_found f_drawn f_joined f_out ++ R)) _ _
    have o1 := (hG n1 (by omega)).1.2
    refine xi_icmp_ge_f (tgt := 32) dX12_weightOf_12 (by decide) (nI_ge (a := j) (b := (f_state (91 * n1)).toNatClampNeg) (by omega) (by omega)) ?_
    refine xi_iload_n 3 dX12_weightOf_15 rfl ?_
    refine xi_aload_n 0 dX12_weightOf_16 rfl ?_
    refine xi_iload_n 1 dX12_weightOf_17 rfl ?_
    refine xi_iload_n 2 dX12_weightOf_18 rfl ?_
    refine xi_iload 4 dX12_weightOf_19 rfl ?_
    refine xi_callV (as := [.int (nI n1), .int (nI n2), .int (nI j)]) (rest := [.int v3]) dX12_weightOf_21 (FX12_weight_ok G hP i_keptMany i_taped i_faultKind i_faultPlace i_spot i_begin i_token i_value i_bad i_full i_bandRows i_bandFirsts i_outs f_state f_was f_kept f_tape f_order f_rest f_ways f_costs f_bandBest f_found f_drawn f_joined f_out hG n1 (by omega) n2 (by omega) j (by omega) _ rfl (fun r => r = FX12_weight f_state n1 n2 j) rfl) mkX12_weight w_1192 ws_53 w_1190 (xpg0 hP rfl) rfl rfl rfl rfl (Nat.le_of_ble_eq_true rfl) (Nat.le_of_ble_eq_true rfl) (Nat.le_of_ble_eq_true rfl) (Nat.le_of_ble_eq_true rfl) (Nat.le_of_ble_eq_true rfl) ?_
    intro v M2 hz
    obtain ⟨_, rfl, rfl, rfl⟩ := hz
    show xW _ _ _ _ 24 _ [.int (FX12_weight f_state n1 n2 j), .int v3] (P ++ (MDL L i_keptMany i_taped i_faultKind i_faultPlace i_spot i_begin i_token i_value i_bad i_full i_bandRows i_bandFirsts i_outs f_state f_was f_kept f_tape f_order f_rest f_ways f_costs f_bandBest f_found f_drawn f_joined f_out ++ R)) _ _
    refine xi_iadd (v := (v3 + (FX12_weight f_state n1 n2 j))) dX12_weightOf_24 rfl ?_
    refine xi_istore_n (lv' := [(3, .int (v3 + (FX12_weight f_state n1 n2 j))), (0, .ref L), (1, .int (nI n1)), (2, .int (nI n2)), (4, .int (nI j))]) dX12_weightOf_25 (by decide) rfl ?_
    refine xi_iinc (v := (nI (j + 1))) (lv' := [(4, .int (nI (j + 1))), (3, .int (v3 + (FX12_weight f_state n1 n2 j))), (0, .ref L), (1, .int (nI n1)), (2, .int (nI n2))]) 4 dX12_weightOf_26 rfl (nI_1 _) (by decide) rfl ?_
    refine xi_goto (tgt := 5) dX12_weightOf_29 (by decide) ?_
    refine xi_sub (lv' := [(0, .ref L), (1, .int (nI n1)), (2, .int (nI n2)), (3, .int (v3 + (FX12_weight f_state n1 n2 j))), (4, .int (nI (j + 1)))]) [2, 3, 4, 1, 0] rfl ?_
    exact ih (j + 1) ((v3 + (FX12_weight f_state n1 n2 j))) (by omega) (by omega) hq
def FX12_weightOf (f_state : Nat → Int32) (z : Nat) (p : Nat) : Int32 := (LX12_weightOf_5 f_state z p (fun u3 => u3) ((f_state (91 * z)).toNatClampNeg - 0) 0 ((0 : Int32)))
set_option maxHeartbeats 4000000 in
set_option maxRecDepth 100000 in
theorem FX12_weightOf_ok (G : xG) {P R : xMem} {L : Nat} (hP : P.length = L) (i_keptMany : Int32) (i_taped : Int32) (i_faultKind : Int32) (i_faultPlace : Int32) (i_spot : Int32) (i_begin : Int32) (i_token : Int32) (i_value : Int32) (i_bad : Int32) (i_full : Int32) (i_bandRows : Int32) (i_bandFirsts : Int32) (i_outs : Int32) (f_state : Nat → Int32) (f_was : Nat → Int32) (f_kept : Nat → Int32) (f_tape : Nat → Int32) (f_order : Nat → Int32) (f_rest : Nat → Int32) (f_ways : Nat → Int32) (f_costs : Nat → Int32) (f_bandBest : Nat → Int32) (f_found : Nat → Int32) (f_drawn : Nat → Int32) (f_joined : Nat → Int32) (f_out : Nat → Int32) (hG : GO f_state) (z : Nat) (bz : z < 3) (p : Nat) (bp : p < 9) (M : xMem) (hM : M = (P ++ (MDL L i_keptMany i_taped i_faultKind i_faultPlace i_spot i_begin i_token i_value i_bad i_full i_bandRows i_bandFirsts i_outs f_state f_was f_kept f_tape f_order f_rest f_ways f_costs f_bandBest f_found f_drawn f_joined f_out ++ R))) (Q : Int32 → Prop) (hq : Q (FX12_weightOf f_state z p)) : xC G mX12_weightOf 1 0 0 [.ref L, .int (nI z), .int (nI p)] M (fun v M2 => ∃ o : Int32, v = some (.int o) ∧ Q o ∧ M2 = (P ++ (MDL L i_keptMany i_taped i_faultKind i_faultPlace i_spot i_begin i_token i_value i_bad i_full i_bandRows i_bandFirsts i_outs f_state f_was f_kept f_tape f_order f_rest f_ways f_costs f_bandBest f_found f_drawn f_joined f_out ++ R))) := by
  subst hM
  unfold FX12_weightOf at hq
  refine xC.of (by decide) (Nat.le_of_ble_eq_true rfl) ?_
  show xW _ _ _ _ 0 [(0, .ref L), (1, .int (nI z)), (2, .int (nI p))] [] _ 0 0
  refine xi_iconst (v := 0) dX12_weightOf_0 (by decide) ?_
  refine xi_istore_n (lv' := [(3, .int 0), (0, .ref L), (1, .int (nI z)), (2, .int (nI p))]) dX12_weightOf_1 (by decide) rfl ?_
  refine xi_iconst (v := 0) dX12_weightOf_2 (by decide) ?_
  refine xi_istore (lv' := [(4, .int 0), (3, .int 0), (0, .ref L), (1, .int (nI z)), (2, .int (nI p))]) dX12_weightOf_3 (by decide) rfl ?_
  refine xi_sub (lv' := [(0, .ref L), (1, .int (nI z)), (2, .int (nI p)), (3, .int 0), (4, .int 0)]) [2, 3, 4, 1, 0] rfl ?_
  refine LX12_weightOf_5_s G hP i_keptMany i_taped i_faultKind i_faultPlace i_spot i_begin i_token i_value i_bad i_full i_bandRows i_bandFirsts i_outs f_state f_was f_kept f_tape f_order f_rest f_ways f_costs f_bandBest f_found f_drawn f_joined f_out hG z (by omega) p (by omega) Q _ (fun u3 hq => ?_) ((f_state (91 * z)).toNatClampNeg - 0) 0 ((0 : Int32)) rfl (by omega) hq
  refine xi_iload_n 0 dX12_weightOf_32 rfl ?_
  exact xi_iret dX12_weightOf_33 rfl rfl (Nat.le_of_ble_eq_true rfl) (Nat.le_of_ble_eq_true rfl) ⟨_, rfl, hq, rfl⟩
def LX12_aheadOf_5 (f_state : Nat → Int32) (n1 : Nat) (n2 : Nat) (K : Int32 → Int32) : Nat → Nat → Int32 → Int32
  | 0, _, v3 => K v3
  | k + 1, j, v3 => (LX12_aheadOf_5 f_state n1 n2 K k (j + 1) ((v3 ||| ((1 : Int32) <<< ((FX12_at f_state n1 j) &&& 31)))))
set_option maxHeartbeats 4000000 in
set_option maxRecDepth 100000 in
theorem LX12_aheadOf_5_s (G : xG) {P R : xMem} {L : Nat} (hP : P.length = L) (i_keptMany : Int32) (i_taped : Int32) (i_faultKind : Int32) (i_faultPlace : Int32) (i_spot : Int32) (i_begin : Int32) (i_token : Int32) (i_value : Int32) (i_bad : Int32) (i_full : Int32) (i_bandRows : Int32) (i_bandFirsts : Int32) (i_outs : Int32) (f_state : Nat → Int32) (f_was : Nat → Int32) (f_kept : Nat → Int32) (f_tape : Nat → Int32) (f_order : Nat → Int32) (f_rest : Nat → Int32) (f_ways : Nat → Int32) (f_costs : Nat → Int32) (f_bandBest : Nat → Int32) (f_found : Nat → Int32) (f_drawn : Nat → Int32) (f_joined : Nat → Int32) (f_out : Nat → Int32) (hG : GO f_state) (n1 : Nat) (bn1 : n1 < 3) (n2 : Nat) (bn2 : n2 < 10) (Q : Int32 → Prop) (K : Int32 → Int32) (HE : ∀ (v3 : Int32), Q (K v3) → xW G mX12_aheadOf (xrm 1 0 0) (xQ G (fun v M2 => ∃ o : Int32, v = some (.int o) ∧ Q o ∧ M2 = (P ++ (MDL L i_keptMany i_taped i_faultKind i_faultPlace i_spot i_begin i_token i_value i_bad i_full i_bandRows i_bandFirsts i_outs f_state f_was f_kept f_tape f_order f_rest f_ways f_costs f_bandBest f_found f_drawn f_joined f_out ++ R))) 0 0) 29 [(3, .int v3)] [] (P ++ (MDL L i_keptMany i_taped i_faultKind i_faultPlace i_spot i_begin i_token i_value i_bad i_full i_bandRows i_bandFirsts i_outs f_state f_was f_kept f_tape f_order f_rest f_ways f_costs f_bandBest f_found f_drawn f_joined f_out ++ R)) 0 0) :
    ∀ (k j : Nat) (v3 : Int32), n2 - j = k → j < 100000 → Q (LX12_aheadOf_5 f_state n1 n2 K k j v3) → xW G mX12_aheadOf (xrm 1 0 0) (xQ G (fun v M2 => ∃ o : Int32, v = some (.int o) ∧ Q o ∧ M2 = (P ++ (MDL L i_keptMany i_taped i_faultKind i_faultPlace i_spot i_begin i_token i_value i_bad i_full i_bandRows i_bandFirsts i_outs f_state f_was f_kept f_tape f_order f_rest f_ways f_costs f_bandBest f_found f_drawn f_joined f_out ++ R))) 0 0) 5 [(0, .ref L), (1, .int (nI n1)), (2, .int (nI n2)), (3, .int v3), (4, .int (nI j))] [] (P ++ (MDL L i_keptMany i_taped i_faultKind i_faultPlace i_spot i_begin i_token i_value i_bad i_full i_bandRows i_bandFirsts i_outs f_state f_was f_kept f_tape f_order f_rest f_ways f_costs f_bandBest f_found f_drawn f_joined f_out ++ R)) 0 0 := by
  intro k
  induction k with
  | zero =>
    intro j v3 hj hj2 hq
    rw [LX12_aheadOf_5] at hq
    refine xi_iload 4 dX12_aheadOf_5 rfl ?_
    refine xi_iload_n 2 dX12_aheadOf_7 rfl ?_
    refine xi_icmp_ge_t (tgt := 29) dX12_aheadOf_8 (by decide) (nI_le (a := n2) (b := j) (by omega) (by omega)) ?_
    refine xi_sub (lv' := [(3, .int v3)]) [3] rfl ?_
    exact HE v3 hq
  | succ k ih =>
    intro j v3 hj hj2 hq
    rw [LX12_aheadOf_5] at hq
    refine xi_iload 4 dX12_aheadOf_5 rfl ?_
    refine xi_iload_n 2 dX12_aheadOf_7 rfl ?_
    refine xi_icmp_ge_f (tgt := 29) dX12_aheadOf_8 (by decide) (nI_ge (a := j) (b := n2) (by omega) (by omega)) ?_
    refine xi_iload_n 3 dX12_aheadOf_11 rfl ?_
    refine xi_iconst (v := 1) dX12_aheadOf_12 (by decide) ?_
    refine xi_aload_n 0 dX12_aheadOf_13 rfl ?_
    refine xi_iload_n 1 dX12_aheadOf_14 rfl ?_
    refine xi_iload 4 dX12_aheadOf_15 rfl ?_
    refine xi_callV (as := [.int (nI n1), .int (nI j)]) (rest := [.int 1, .int v3]) dX12_aheadOf_17 (FX12_at_ok G hP i_keptMany i_taped i_faultKind i_faultPlace i_spot i_begin i_token i_value i_bad i_full i_bandRows i_bandFirsts i_outs f_state f_was f_kept f_tape f_order f_rest f_ways f_costs f_bandBest f_found f_drawn f_joined f_out hG n1 (by omega) j (by omega) _ rfl (fun r => r = FX12_at f_state n1 j) rfl) mkX12_at w_1273 ws_64 w_1271 (xpg0 hP rfl) rfl rfl rfl rfl (Nat.le_of_ble_eq_true rfl) (Nat.le_of_ble_eq_true rfl) (Nat.le_of_ble_eq_true rfl) (Nat.le_of_ble_eq_true rfl) (Nat.le_of_ble_eq_true rfl) ?_
    intro v M2 hz
    obtain ⟨_, rfl, rfl, rfl⟩ := hz
    show xW _ _ _ _ 20 _ [.int (FX12_at f_state n1 j), .int 1, .int v3] (P ++ (MDL L i_keptMany i_taped i_faultKind i_faultPlace i_spot i_begin i_token i_value i_bad i_full i_bandRows i_bandFirsts i_outs f_state f_was f_kept f_tape f_order f_rest f_ways f_costs f_bandBest f_found f_drawn f_joined f_out ++ R)) _ _
    refine xi_ishl (v := ((1 : Int32) <<< ((FX12_at f_state n1 j) &&& 31))) dX12_aheadOf_20 rfl ?_
    refine xi_ior (v := (v3 ||| ((1 : Int32) <<< ((FX12_at f_state n1 j) &&& 31)))) dX12_aheadOf_21 rfl ?_
    refine xi_istore_n (lv' := [(3, .int (v3 ||| ((1 : Int32) <<< ((FX12_at f_state n1 j) &&& 31)))), (0, .ref L), (1, .int (nI n1)), (2, .int (nI n2)), (4, .int (nI j))]) dX12_aheadOf_22 (by decide) rfl ?_
    refine xi_iinc (v := (nI (j + 1))) (lv' := [(4, .int (nI (j + 1))), (3, .int (v3 ||| ((1 : Int32) <<< ((FX12_at f_state n1 j) &&& 31)))), (0, .ref L), (1, .int (nI n1)), (2, .int (nI n2))]) 4 dX12_aheadOf_23 rfl (nI_1 _) (by decide) rfl ?_
    refine xi_goto (tgt := 5) dX12_aheadOf_26 (by decide) ?_
    refine xi_sub (lv' := [(0, .ref L), (1, .int (nI n1)), (2, .int (nI n2)), (3, .int (v3 ||| ((1 : Int32) <<< ((FX12_at f_state n1 j) &&& 31)))), (4, .int (nI (j + 1)))]) [2, 3, 4, 1, 0] rfl ?_
    exact ih (j + 1) ((v3 ||| ((1 : Int32) <<< ((FX12_at f_state n1 j) &&& 31)))) (by omega) (by omega) hq
def FX12_aheadOf (f_state : Nat → Int32) (z : Nat) (p : Nat) : Int32 := (LX12_aheadOf_5 f_state z p (fun u1 => u1) (p - 0) 0 ((0 : Int32)))
set_option maxHeartbeats 4000000 in
set_option maxRecDepth 100000 in
theorem FX12_aheadOf_ok (G : xG) {P R : xMem} {L : Nat} (hP : P.length = L) (i_keptMany : Int32) (i_taped : Int32) (i_faultKind : Int32) (i_faultPlace : Int32) (i_spot : Int32) (i_begin : Int32) (i_token : Int32) (i_value : Int32) (i_bad : Int32) (i_full : Int32) (i_bandRows : Int32) (i_bandFirsts : Int32) (i_outs : Int32) (f_state : Nat → Int32) (f_was : Nat → Int32) (f_kept : Nat → Int32) (f_tape : Nat → Int32) (f_order : Nat → Int32) (f_rest : Nat → Int32) (f_ways : Nat → Int32) (f_costs : Nat → Int32) (f_bandBest : Nat → Int32) (f_found : Nat → Int32) (f_drawn : Nat → Int32) (f_joined : Nat → Int32) (f_out : Nat → Int32) (hG : GO f_state) (z : Nat) (bz : z < 3) (p : Nat) (bp : p < 10) (M : xMem) (hM : M = (P ++ (MDL L i_keptMany i_taped i_faultKind i_faultPlace i_spot i_begin i_token i_value i_bad i_full i_bandRows i_bandFirsts i_outs f_state f_was f_kept f_tape f_order f_rest f_ways f_costs f_bandBest f_found f_drawn f_joined f_out ++ R))) (Q : Int32 → Prop) (hq : Q (FX12_aheadOf f_state z p)) : xC G mX12_aheadOf 1 0 0 [.ref L, .int (nI z), .int (nI p)] M (fun v M2 => ∃ o : Int32, v = some (.int o) ∧ Q o ∧ M2 = (P ++ (MDL L i_keptMany i_taped i_faultKind i_faultPlace i_spot i_begin i_token i_value i_bad i_full i_bandRows i_bandFirsts i_outs f_state f_was f_kept f_tape f_order f_rest f_ways f_costs f_bandBest f_found f_drawn f_joined f_out ++ R))) := by
  subst hM
  unfold FX12_aheadOf at hq
  refine xC.of (by decide) (Nat.le_of_ble_eq_true rfl) ?_
  show xW _ _ _ _ 0 [(0, .ref L), (1, .int (nI z)), (2, .int (nI p))] [] _ 0 0
  refine xi_iconst (v := 0) dX12_aheadOf_0 (by decide) ?_
  refine xi_istore_n (lv' := [(3, .int 0), (0, .ref L), (1, .int (nI z)), (2, .int (nI p))]) dX12_aheadOf_1 (by decide) rfl ?_
  refine xi_iconst (v := 0) dX12_aheadOf_2 (by decide) ?_
  refine xi_istore (lv' := [(4, .int 0), (3, .int 0), (0, .ref L), (1, .int (nI z)), (2, .int (nI p))]) dX12_aheadOf_3 (by decide) rfl ?_
  refine xi_sub (lv' := [(0, .ref L), (1, .int (nI z)), (2, .int (nI p)), (3, .int 0), (4, .int 0)]) [2, 3, 4, 1, 0] rfl ?_
  refine LX12_aheadOf_5_s G hP i_keptMany i_taped i_faultKind i_faultPlace i_spot i_begin i_token i_value i_bad i_full i_bandRows i_bandFirsts i_outs f_state f_was f_kept f_tape f_order f_rest f_ways f_costs f_bandBest f_found f_drawn f_joined f_out hG z (by omega) p (by omega) Q _ (fun u1 hq => ?_) (p - 0) 0 ((0 : Int32)) rfl (by omega) hq
  refine xi_iload_n 0 dX12_aheadOf_29 rfl ?_
  exact xi_iret dX12_aheadOf_30 rfl rfl (Nat.le_of_ble_eq_true rfl) (Nat.le_of_ble_eq_true rfl) ⟨_, rfl, hq, rfl⟩
