/-! the reference: rows looked at (printed by wip/p2/gen15.py) -/
def LX12k_laysRow_2 (f_state : Nat → Int32) (n1 : Nat) (K : (Nat → Int32) → Int32 × (Nat → Int32)) : Nat → Nat → (Nat → Int32) → Int32 × (Nat → Int32)
  | 0, _, f_order => K f_order
  | k + 1, j, f_order => (LX12k_laysRow_2 f_state n1 K k (j + 1) (upd f_order j ((nI ((f_state (91 * n1 + 82 + j)).toNatClampNeg)))))
set_option maxHeartbeats 4000000 in
set_option maxRecDepth 100000 in
theorem LX12k_laysRow_2_s (G : xG) {P R : xMem} {L : Nat} (hP : P.length = L) (i_keptMany : Nat) (i_taped : Nat) (i_faultKind : Int32) (i_faultPlace : Int32) (i_spot : Nat) (i_begin : Nat) (i_token : Int32) (i_value : Int32) (i_bad : Int32) (i_full : Nat) (i_bandRows : Int32) (i_bandFirsts : Int32) (i_outs : Nat) (f_state : Nat → Int32) (f_was : Nat → Int32) (f_kept : Nat → Int32) (f_tape : Nat → Int32) (f_rest : Nat → Int32) (f_ways : Nat → Int32) (f_costs : Nat → Int32) (f_bandBest : Nat → Int32) (f_found : Nat → Int32) (f_drawn : Nat → Int32) (f_joined : Nat → Int32) (f_out : Nat → Int32) (bi_keptMany : i_keptMany ≤ 10) (bi_taped : i_taped ≤ 400) (bi_spot : i_spot ≤ 400) (bi_begin : i_begin ≤ 400) (bi_full : i_full ≤ 511) (bi_outs : i_outs ≤ 400) (hG : GO f_state) (n1 : Nat) (bn1 : n1 < 3) (Q : Int32 × (Nat → Int32) → Prop) (K : (Nat → Int32) → Int32 × (Nat → Int32)) (HE : ∀ (f_order : Nat → Int32) (hR : RO f_order), Q (K f_order) → xW G mX12_laysRow (xrm 1 0 0) (xQ G (fun v M2 => ∃ o : Int32 × (Nat → Int32), v = none ∧ Q o ∧ RO o.2 ∧ M2 = (P ++ (MDL L i_keptMany i_taped i_faultKind i_faultPlace i_spot i_begin i_token i_value i_bad i_full i_bandRows i_bandFirsts i_outs f_state f_was f_kept f_tape o.2 f_rest f_ways f_costs f_bandBest f_found f_drawn f_joined f_out ++ R))) 0 0) 29 [] [] (P ++ (MDL L i_keptMany i_taped i_faultKind i_faultPlace i_spot i_begin i_token i_value i_bad i_full i_bandRows i_bandFirsts i_outs f_state f_was f_kept f_tape f_order f_rest f_ways f_costs f_bandBest f_found f_drawn f_joined f_out ++ R)) 0 0) :
    ∀ (k j : Nat) (f_order : Nat → Int32) (hR : RO f_order), (f_state (91 * n1)).toNatClampNeg - j = k → j < 100000 → Q (LX12k_laysRow_2 f_state n1 K k j f_order) → xW G mX12_laysRow (xrm 1 0 0) (xQ G (fun v M2 => ∃ o : Int32 × (Nat → Int32), v = none ∧ Q o ∧ RO o.2 ∧ M2 = (P ++ (MDL L i_keptMany i_taped i_faultKind i_faultPlace i_spot i_begin i_token i_value i_bad i_full i_bandRows i_bandFirsts i_outs f_state f_was f_kept f_tape o.2 f_rest f_ways f_costs f_bandBest f_found f_drawn f_joined f_out ++ R))) 0 0) 2 [(0, .ref L), (1, .int (nI n1)), (2, .int (nI j))] [] (P ++ (MDL L i_keptMany i_taped i_faultKind i_faultPlace i_spot i_begin i_token i_value i_bad i_full i_bandRows i_bandFirsts i_outs f_state f_was f_kept f_tape f_order f_rest f_ways f_costs f_bandBest f_found f_drawn f_joined f_out ++ R)) 0 0 := by
  intro k
  induction k with
  | zero =>
    intro j f_order hR hj hj2 hq
    rw [LX12k_laysRow_2] at hq
    refine xi_iload_n 2 dX12_laysRow_2 rfl ?_
    refine xi_aload_n 0 dX12_laysRow_3 rfl ?_
    refine xi_iload_n 1 dX12_laysRow_4 rfl ?_
    refine xi_callV (as := [.int (nI n1)]) (rest := [.int (nI j)]) dX12_laysRow_5 (FX12_points_ok G hP i_keptMany i_taped i_faultKind i_faultPlace i_spot i_begin i_token i_value i_bad i_full i_bandRows i_bandFirsts i_outs f_state f_was f_kept f_tape f_order f_rest f_ways f_costs f_bandBest f_found f_drawn f_joined f_out (by omega) (by omega) (by omega) (by omega) (by omega) (by omega) n1 (by omega) _ rfl (fun r => r = nI ((f_state (91 * n1)).toNatClampNeg)) ((hG n1 (by omega)).1.1)) mkX12_points w_1108 ws_36 w_1106 (xpg0 hP rfl) rfl rfl rfl rfl (Nat.le_of_ble_eq_true rfl) (Nat.le_of_ble_eq_true rfl) (Nat.le_of_ble_eq_true rfl) (Nat.le_of_ble_eq_true rfl) (Nat.le_of_ble_eq_true rfl) ?_
    intro v M2 hz
    obtain ⟨_, rfl, rfl, rfl⟩ := hz
    show xW _ _ _ _ 8 _ [.int (nI ((f_state (91 * n1)).toNatClampNeg)), .int (nI j)] (P ++ (MDL L i_keptMany i_taped i_faultKind i_faultPlace i_spot i_begin i_token i_value i_bad i_full i_bandRows i_bandFirsts i_outs f_state f_was f_kept f_tape f_order f_rest f_ways f_costs f_bandBest f_found f_drawn f_joined f_out ++ R)) _ _
    have o3 := (hG n1 (by omega)).1.2
    refine xi_icmp_ge_t (tgt := 29) dX12_laysRow_8 (by decide) (nI_le (a := (f_state (91 * n1)).toNatClampNeg) (b := j) (by omega) (by omega)) ?_
    refine xi_sub (lv' := []) [] rfl ?_
    exact HE f_order hR hq
  | succ k ih =>
    intro j f_order hR hj hj2 hq
    rw [LX12k_laysRow_2] at hq
    refine xi_iload_n 2 dX12_laysRow_2 rfl ?_
    refine xi_aload_n 0 dX12_laysRow_3 rfl ?_
    refine xi_iload_n 1 dX12_laysRow_4 rfl ?_
    refine xi_callV (as := [.int (nI n1)]) (rest := [.int (nI j)]) dX12_laysRow_5 (FX12_points_ok G hP i_keptMany i_taped i_faultKind i_faultPlace i_spot i_begin i_token i_value i_bad i_full i_bandRows i_bandFirsts i_outs f_state f_was f_kept f_tape f_order f_rest f_ways f_costs f_bandBest f_found f_drawn f_joined f_out (by omega) (by omega) (by omega) (by omega) (by omega) (by omega) n1 (by omega) _ rfl (fun r => r = nI ((f_state (91 * n1)).toNatClampNeg)) ((hG n1 (by omega)).1.1)) mkX12_points w_1108 ws_36 w_1106 (xpg0 hP rfl) rfl rfl rfl rfl (Nat.le_of_ble_eq_true rfl) (Nat.le_of_ble_eq_true rfl) (Nat.le_of_ble_eq_true rfl) (Nat.le_of_ble_eq_true rfl) (Nat.le_of_ble_eq_true rfl) ?_
    intro v M2 hz
    obtain ⟨_, rfl, rfl, rfl⟩ := hz
    show xW _ _ _ _ 8 _ [.int (nI ((f_state (91 * n1)).toNatClampNeg)), .int (nI j)] (P ++ (MDL L i_keptMany i_taped i_faultKind i_faultPlace i_spot i_begin i_token i_value i_bad i_full i_bandRows i_bandFirsts i_outs f_state f_was f_kept f_tape f_order f_rest f_ways f_costs f_bandBest f_found f_drawn f_joined f_out ++ R)) _ _
    have o1 := (hG n1 (by omega)).1.2
    refine xi_icmp_ge_f (tgt := 29) dX12_laysRow_8 (by decide) (nI_ge (a := j) (b := (f_state (91 * n1)).toNatClampNeg) (by omega) (by omega)) ?_
    refine xi_aload_n 0 dX12_laysRow_11 rfl ?_
    refine xi_get (f := 13) dX12_laysRow_12 (xpg0 hP rfl) rfl ok_9 (by decide) w_1021 rfl ?_
    refine xi_iload_n 2 dX12_laysRow_15 rfl ?_
    refine xi_aload_n 0 dX12_laysRow_16 rfl ?_
    refine xi_iload_n 1 dX12_laysRow_17 rfl ?_
    refine xi_iload_n 2 dX12_laysRow_18 rfl ?_
    refine xi_callV (as := [.int (nI n1), .int (nI j)]) (rest := [.int (nI j), .ref (L + 5)]) dX12_laysRow_19 (FX12_at_ok G hP i_keptMany i_taped i_faultKind i_faultPlace i_spot i_begin i_token i_value i_bad i_full i_bandRows i_bandFirsts i_outs f_state f_was f_kept f_tape f_order f_rest f_ways f_costs f_bandBest f_found f_drawn f_joined f_out (by omega) (by omega) (by omega) (by omega) (by omega) (by omega) n1 (by omega) j (by omega) _ rfl (fun r => r = nI ((f_state (91 * n1 + 82 + j)).toNatClampNeg)) (((hG n1 (by omega)).2 j (by omega)).1)) mkX12_at w_1273 ws_64 w_1271 (xpg0 hP rfl) rfl rfl rfl rfl (Nat.le_of_ble_eq_true rfl) (Nat.le_of_ble_eq_true rfl) (Nat.le_of_ble_eq_true rfl) (Nat.le_of_ble_eq_true rfl) (Nat.le_of_ble_eq_true rfl) ?_
    intro v M2 hz
    obtain ⟨_, rfl, rfl, rfl⟩ := hz
    show xW _ _ _ _ 22 _ [.int (nI ((f_state (91 * n1 + 82 + j)).toNatClampNeg)), .int (nI j), .ref (L + 5)] (P ++ (MDL L i_keptMany i_taped i_faultKind i_faultPlace i_spot i_begin i_token i_value i_bad i_full i_bandRows i_bandFirsts i_outs f_state f_was f_kept f_tape f_order f_rest f_ways f_costs f_bandBest f_found f_drawn f_joined f_out ++ R)) _ _
    have o2 := ((hG n1 (by omega)).2 j (by omega)).2
    refine xi_iastore (M' := (P ++ (MDL L i_keptMany i_taped i_faultKind i_faultPlace i_spot i_begin i_token i_value i_bad i_full i_bandRows i_bandFirsts i_outs f_state f_was f_kept f_tape (upd f_order j ((nI ((f_state (91 * n1 + 82 + j)).toNatClampNeg)))) f_rest f_ways f_costs f_bandBest f_found f_drawn f_joined f_out ++ R))) dX12_laysRow_22 (xpg hP rfl) (vp_in_nI (by omega) (by decide)) (by rw [nI_clamp (by omega)]; exact (xps hP)) ?_
    refine xi_iinc (v := (nI (j + 1))) (lv' := [(2, .int (nI (j + 1))), (0, .ref L), (1, .int (nI n1))]) 2 dX12_laysRow_23 rfl (nI_1 _) (by decide) rfl ?_
    refine xi_goto (tgt := 2) dX12_laysRow_26 (by decide) ?_
    refine xi_sub (lv' := [(0, .ref L), (1, .int (nI n1)), (2, .int (nI (j + 1)))]) [1, 2, 0] rfl ?_
    exact ih (j + 1) (upd f_order j ((nI ((f_state (91 * n1 + 82 + j)).toNatClampNeg)))) (hR_upd hR j ((f_state (91 * n1 + 82 + j)).toNatClampNeg) (by omega) (by omega)) (by omega) (by omega) hq
def FX12k_laysRow (f_state : Nat → Int32) (f_order : Nat → Int32) (z : Nat) : Int32 × (Nat → Int32) := (LX12k_laysRow_2 f_state z (fun u4 => (0, u4)) ((f_state (91 * z)).toNatClampNeg - 0) 0 f_order)
set_option maxHeartbeats 4000000 in
set_option maxRecDepth 100000 in
theorem FX12k_laysRow_ok (G : xG) {P R : xMem} {L : Nat} (hP : P.length = L) (i_keptMany : Nat) (i_taped : Nat) (i_faultKind : Int32) (i_faultPlace : Int32) (i_spot : Nat) (i_begin : Nat) (i_token : Int32) (i_value : Int32) (i_bad : Int32) (i_full : Nat) (i_bandRows : Int32) (i_bandFirsts : Int32) (i_outs : Nat) (f_state : Nat → Int32) (f_was : Nat → Int32) (f_kept : Nat → Int32) (f_tape : Nat → Int32) (f_order : Nat → Int32) (f_rest : Nat → Int32) (f_ways : Nat → Int32) (f_costs : Nat → Int32) (f_bandBest : Nat → Int32) (f_found : Nat → Int32) (f_drawn : Nat → Int32) (f_joined : Nat → Int32) (f_out : Nat → Int32) (bi_keptMany : i_keptMany ≤ 10) (bi_taped : i_taped ≤ 400) (bi_spot : i_spot ≤ 400) (bi_begin : i_begin ≤ 400) (bi_full : i_full ≤ 511) (bi_outs : i_outs ≤ 400) (hG : GO f_state) (hR : RO f_order) (z : Nat) (bz : z < 3) (M : xMem) (hM : M = (P ++ (MDL L i_keptMany i_taped i_faultKind i_faultPlace i_spot i_begin i_token i_value i_bad i_full i_bandRows i_bandFirsts i_outs f_state f_was f_kept f_tape f_order f_rest f_ways f_costs f_bandBest f_found f_drawn f_joined f_out ++ R))) (Q : Int32 × (Nat → Int32) → Prop) (hq : Q (FX12k_laysRow f_state f_order z)) : xC G mX12_laysRow 1 0 0 [.ref L, .int (nI z)] M (fun v M2 => ∃ o : Int32 × (Nat → Int32), v = none ∧ Q o ∧ RO o.2 ∧ M2 = (P ++ (MDL L i_keptMany i_taped i_faultKind i_faultPlace i_spot i_begin i_token i_value i_bad i_full i_bandRows i_bandFirsts i_outs f_state f_was f_kept f_tape o.2 f_rest f_ways f_costs f_bandBest f_found f_drawn f_joined f_out ++ R))) := by
  subst hM
  unfold FX12k_laysRow at hq
  refine xC.of (by decide) (Nat.le_of_ble_eq_true rfl) ?_
  show xW _ _ _ _ 0 [(0, .ref L), (1, .int (nI z))] [] _ 0 0
  refine xi_iconst (v := 0) dX12_laysRow_0 (by decide) ?_
  refine xi_istore_n (lv' := [(2, .int 0), (0, .ref L), (1, .int (nI z))]) dX12_laysRow_1 (by decide) rfl ?_
  refine xi_sub (lv' := [(0, .ref L), (1, .int (nI z)), (2, .int 0)]) [1, 2, 0] rfl ?_
  refine LX12k_laysRow_2_s G hP i_keptMany i_taped i_faultKind i_faultPlace i_spot i_begin i_token i_value i_bad i_full i_bandRows i_bandFirsts i_outs f_state f_was f_kept f_tape f_rest f_ways f_costs f_bandBest f_found f_drawn f_joined f_out (by omega) (by omega) (by omega) (by omega) (by omega) (by omega) hG z (by omega) Q _ (fun u4 hb5 hq => ?_) ((f_state (91 * z)).toNatClampNeg - 0) 0 f_order hR rfl (by omega) hq
  exact xi_vret dX12_laysRow_29 rfl (Nat.le_of_ble_eq_true rfl) (Nat.le_of_ble_eq_true rfl) ⟨_, rfl, hq, hb5, rfl⟩
def FX12k_exchanges (f_order : Nat → Int32) (p : Nat) (q : Nat) : Int32 × (Nat → Int32) := (0, upd (upd f_order p ((nI ((f_order q).toNatClampNeg)))) q ((nI ((f_order p).toNatClampNeg))))
set_option maxHeartbeats 4000000 in
set_option maxRecDepth 100000 in
theorem FX12k_exchanges_ok (G : xG) {P R : xMem} {L : Nat} (hP : P.length = L) (i_keptMany : Nat) (i_taped : Nat) (i_faultKind : Int32) (i_faultPlace : Int32) (i_spot : Nat) (i_begin : Nat) (i_token : Int32) (i_value : Int32) (i_bad : Int32) (i_full : Nat) (i_bandRows : Int32) (i_bandFirsts : Int32) (i_outs : Nat) (f_state : Nat → Int32) (f_was : Nat → Int32) (f_kept : Nat → Int32) (f_tape : Nat → Int32) (f_order : Nat → Int32) (f_rest : Nat → Int32) (f_ways : Nat → Int32) (f_costs : Nat → Int32) (f_bandBest : Nat → Int32) (f_found : Nat → Int32) (f_drawn : Nat → Int32) (f_joined : Nat → Int32) (f_out : Nat → Int32) (bi_keptMany : i_keptMany ≤ 10) (bi_taped : i_taped ≤ 400) (bi_spot : i_spot ≤ 400) (bi_begin : i_begin ≤ 400) (bi_full : i_full ≤ 511) (bi_outs : i_outs ≤ 400) (hR : RO f_order) (p : Nat) (bp : p < 9) (q : Nat) (bq : q < 9) (M : xMem) (hM : M = (P ++ (MDL L i_keptMany i_taped i_faultKind i_faultPlace i_spot i_begin i_token i_value i_bad i_full i_bandRows i_bandFirsts i_outs f_state f_was f_kept f_tape f_order f_rest f_ways f_costs f_bandBest f_found f_drawn f_joined f_out ++ R))) (Q : Int32 × (Nat → Int32) → Prop) (hq : Q (FX12k_exchanges f_order p q)) : xC G mX12_exchanges 0 0 0 [.ref L, .int (nI p), .int (nI q)] M (fun v M2 => ∃ o : Int32 × (Nat → Int32), v = none ∧ Q o ∧ RO o.2 ∧ M2 = (P ++ (MDL L i_keptMany i_taped i_faultKind i_faultPlace i_spot i_begin i_token i_value i_bad i_full i_bandRows i_bandFirsts i_outs f_state f_was f_kept f_tape o.2 f_rest f_ways f_costs f_bandBest f_found f_drawn f_joined f_out ++ R))) := by
  subst hM
  unfold FX12k_exchanges at hq
  refine xC.of (by decide) (Nat.le_of_ble_eq_true rfl) ?_
  show xW _ _ _ _ 0 [(0, .ref L), (1, .int (nI p)), (2, .int (nI q))] [] _ 0 0
  refine xi_aload_n 0 dX12_exchanges_0 rfl ?_
  refine xi_get (f := 13) dX12_exchanges_1 (xpg0 hP rfl) rfl ok_9 (by decide) w_1021 rfl ?_
  refine xi_iload_n 1 dX12_exchanges_4 rfl ?_
  have o1 := (hR p (by omega)).2
  refine xi_iaload (v := (nI ((f_order p).toNatClampNeg))) dX12_exchanges_5 (xpg hP rfl) (vp_in_nI (by omega) (by decide)) (by rw [nI_clamp (by omega)]; exact (hR p (by omega)).1) ?_
  refine xi_istore_n (lv' := [(3, .int (nI ((f_order p).toNatClampNeg))), (0, .ref L), (1, .int (nI p)), (2, .int (nI q))]) dX12_exchanges_6 (by decide) rfl ?_
  refine xi_aload_n 1 dX12_exchanges_7 rfl ?_
  refine xi_get (f := 13) dX12_exchanges_8 (xpg0 hP rfl) rfl ok_9 (by decide) w_1021 rfl ?_
  refine xi_iload_n 2 dX12_exchanges_11 rfl ?_
  refine xi_aload_n 1 dX12_exchanges_12 rfl ?_
  refine xi_get (f := 13) dX12_exchanges_13 (xpg0 hP rfl) rfl ok_9 (by decide) w_1021 rfl ?_
  refine xi_iload_n 3 dX12_exchanges_16 rfl ?_
  have o2 := (hR q (by omega)).2
  refine xi_iaload (v := (nI ((f_order q).toNatClampNeg))) dX12_exchanges_17 (xpg hP rfl) (vp_in_nI (by omega) (by decide)) (by rw [nI_clamp (by omega)]; exact (hR q (by omega)).1) ?_
  refine xi_iastore (M' := (P ++ (MDL L i_keptMany i_taped i_faultKind i_faultPlace i_spot i_begin i_token i_value i_bad i_full i_bandRows i_bandFirsts i_outs f_state f_was f_kept f_tape (upd f_order p ((nI ((f_order q).toNatClampNeg)))) f_rest f_ways f_costs f_bandBest f_found f_drawn f_joined f_out ++ R))) dX12_exchanges_18 (xpg hP rfl) (vp_in_nI (by omega) (by decide)) (by rw [nI_clamp (by omega)]; exact (xps hP)) ?_
  refine xi_aload_n 1 dX12_exchanges_19 rfl ?_
  refine xi_get (f := 13) dX12_exchanges_20 (xpg0 hP rfl) rfl ok_9 (by decide) w_1021 rfl ?_
  refine xi_iload_n 3 dX12_exchanges_23 rfl ?_
  refine xi_iload_n 0 dX12_exchanges_24 rfl ?_
  refine xi_iastore (M' := (P ++ (MDL L i_keptMany i_taped i_faultKind i_faultPlace i_spot i_begin i_token i_value i_bad i_full i_bandRows i_bandFirsts i_outs f_state f_was f_kept f_tape (upd (upd f_order p ((nI ((f_order q).toNatClampNeg)))) q ((nI ((f_order p).toNatClampNeg)))) f_rest f_ways f_costs f_bandBest f_found f_drawn f_joined f_out ++ R))) dX12_exchanges_25 (xpg hP rfl) (vp_in_nI (by omega) (by decide)) (by rw [nI_clamp (by omega)]; exact (xps hP)) ?_
  exact xi_vret dX12_exchanges_26 rfl (Nat.le_of_ble_eq_true rfl) (Nat.le_of_ble_eq_true rfl) ⟨_, rfl, hq, (hR_upd (hR_upd hR p ((f_order q).toNatClampNeg) (by omega) (by omega)) q ((f_order p).toNatClampNeg) (by omega) (by omega)), rfl⟩
def FX12_value (f_state : Nat → Int32) (f_order : Nat → Int32) (x : Int32) (m : Int32) : Int32 × (Nat → Int32) := (if (FX12_isNet f_state x) = (0 : Int32) then ((-2 : Int32), f_order) else (if (FX12_isMeasure m) = (0 : Int32) then ((-2 : Int32), f_order) else ((FX12_valueOf f_state ((FX12k_laysRow f_state f_order x.toNatClampNeg).2) x.toNatClampNeg m), (FX12k_laysRow f_state f_order x.toNatClampNeg).2)))
set_option maxHeartbeats 4000000 in
set_option maxRecDepth 100000 in
theorem FX12_value_ok (G : xG) {P R : xMem} {L : Nat} (hP : P.length = L) (i_keptMany : Nat) (i_taped : Nat) (i_faultKind : Int32) (i_faultPlace : Int32) (i_spot : Nat) (i_begin : Nat) (i_token : Int32) (i_value : Int32) (i_bad : Int32) (i_full : Nat) (i_bandRows : Int32) (i_bandFirsts : Int32) (i_outs : Nat) (f_state : Nat → Int32) (f_was : Nat → Int32) (f_kept : Nat → Int32) (f_tape : Nat → Int32) (f_order : Nat → Int32) (f_rest : Nat → Int32) (f_ways : Nat → Int32) (f_costs : Nat → Int32) (f_bandBest : Nat → Int32) (f_found : Nat → Int32) (f_drawn : Nat → Int32) (f_joined : Nat → Int32) (f_out : Nat → Int32) (bi_keptMany : i_keptMany ≤ 10) (bi_taped : i_taped ≤ 400) (bi_spot : i_spot ≤ 400) (bi_begin : i_begin ≤ 400) (bi_full : i_full ≤ 511) (bi_outs : i_outs ≤ 400) (hG : GO f_state) (hR : RO f_order) (x : Int32) (m : Int32) (M : xMem) (hM : M = (P ++ (MDL L i_keptMany i_taped i_faultKind i_faultPlace i_spot i_begin i_token i_value i_bad i_full i_bandRows i_bandFirsts i_outs f_state f_was f_kept f_tape f_order f_rest f_ways f_costs f_bandBest f_found f_drawn f_joined f_out ++ R))) (Q : Int32 × (Nat → Int32) → Prop) (hq : Q (FX12_value f_state f_order x m)) : xC G mX12_value 6 0 0 [.ref L, .int x, .int m] M (fun v M2 => ∃ o : Int32 × (Nat → Int32), v = some (.int o.1) ∧ Q o ∧ RO o.2 ∧ M2 = (P ++ (MDL L i_keptMany i_taped i_faultKind i_faultPlace i_spot i_begin i_token i_value i_bad i_full i_bandRows i_bandFirsts i_outs f_state f_was f_kept f_tape o.2 f_rest f_ways f_costs f_bandBest f_found f_drawn f_joined f_out ++ R))) := by
  subst hM
  unfold FX12_value at hq
  refine xC.of (by decide) (Nat.le_of_ble_eq_true rfl) ?_
  show xW _ _ _ _ 0 [(0, .ref L), (1, .int x), (2, .int m)] [] _ 0 0
  refine xi_aload_n 0 dX12_value_0 rfl ?_
  refine xi_iload_n 1 dX12_value_1 rfl ?_
  refine xi_callV (as := [.int x]) (rest := []) dX12_value_2 (FX12_isNet_ok G hP i_keptMany i_taped i_faultKind i_faultPlace i_spot i_begin i_token i_value i_bad i_full i_bandRows i_bandFirsts i_outs f_state f_was f_kept f_tape f_order f_rest f_ways f_costs f_bandBest f_found f_drawn f_joined f_out (by omega) (by omega) (by omega) (by omega) (by omega) (by omega) hG x _ rfl (fun r => r = FX12_isNet f_state x) rfl) mkX12_isNet w_1104 ws_35 w_1102 (xpg0 hP rfl) rfl rfl rfl rfl (Nat.le_of_ble_eq_true rfl) (Nat.le_of_ble_eq_true rfl) (Nat.le_of_ble_eq_true rfl) (Nat.le_of_ble_eq_true rfl) (Nat.le_of_ble_eq_true rfl) ?_
  intro v M2 hz
  obtain ⟨_, rfl, rfl, rfl⟩ := hz
  show xW _ _ _ _ 5 _ [.int (FX12_isNet f_state x)] (P ++ (MDL L i_keptMany i_taped i_faultKind i_faultPlace i_spot i_begin i_token i_value i_bad i_full i_bandRows i_bandFirsts i_outs f_state f_was f_kept f_tape f_order f_rest f_ways f_costs f_bandBest f_found f_drawn f_joined f_out ++ R)) _ _
  refine xi_if_eq (tgt := 15) dX12_value_5 (by decide) (fun c1 => ?_) (fun c1 => ?_)
  · rw [if_pos c1] at hq
    refine xi_bipush (v := (-2)) dX12_value_15 (by decide) ?_
    exact xi_iret dX12_value_17 rfl rfl (Nat.le_of_ble_eq_true rfl) (Nat.le_of_ble_eq_true rfl) ⟨_, rfl, hq, hR, rfl⟩
  · rw [if_neg c1] at hq
    obtain ⟨e2, e2b, e2h⟩ := net_in c1
    have e2c : x.toNatClampNeg = e2 := by rw [e2h]; exact nI_clamp (by omega)
    try rw [e2c] at hq
    subst e2h
    have e2g := (hG e2 e2b).1.2
    refine xi_iload_n 2 dX12_value_8 rfl ?_
    refine xi_callS (as := [.int m]) (rest := []) dX12_value_9 (FX12_isMeasure_ok G m (fun r => r = FX12_isMeasure m) rfl) mkX12_isMeasure w_1288 w_1287 rfl rfl (Nat.le_of_ble_eq_true rfl) (Nat.le_of_ble_eq_true rfl) (Nat.le_of_ble_eq_true rfl) (Nat.le_of_ble_eq_true rfl) (Nat.le_of_ble_eq_true rfl) ?_
    intro v M2 hz
    obtain ⟨_, rfl, rfl, hM2⟩ := hz
    rw [hM2]
    show xW _ _ _ _ 12 _ [.int (FX12_isMeasure m)] (P ++ (MDL L i_keptMany i_taped i_faultKind i_faultPlace i_spot i_begin i_token i_value i_bad i_full i_bandRows i_bandFirsts i_outs f_state f_was f_kept f_tape f_order f_rest f_ways f_costs f_bandBest f_found f_drawn f_joined f_out ++ R)) _ _
    refine xi_if_ne (tgt := 18) dX12_value_12 (by decide) (fun c3 => ?_) (fun c3 => ?_)
    · rw [if_neg c3] at hq
      refine xi_aload_n 0 dX12_value_18 rfl ?_
      refine xi_iload_n 1 dX12_value_19 rfl ?_
      refine xi_callV (as := [.int (nI e2)]) (rest := []) dX12_value_20 (FX12k_laysRow_ok G hP i_keptMany i_taped i_faultKind i_faultPlace i_spot i_begin i_token i_value i_bad i_full i_bandRows i_bandFirsts i_outs f_state f_was f_kept f_tape f_order f_rest f_ways f_costs f_bandBest f_found f_drawn f_joined f_out (by omega) (by omega) (by omega) (by omega) (by omega) (by omega) hG hR e2 (by omega) _ rfl (fun r => r = FX12k_laysRow f_state f_order e2) rfl) mkX12_laysRow w_1292 ws_66 w_1290 (xpg0 hP rfl) rfl rfl rfl rfl (Nat.le_of_ble_eq_true rfl) (Nat.le_of_ble_eq_true rfl) (Nat.le_of_ble_eq_true rfl) (Nat.le_of_ble_eq_true rfl) (Nat.le_of_ble_eq_true rfl) ?_
      intro v M2 hz
      obtain ⟨_, rfl, rfl, hk4, rfl⟩ := hz
      show xW _ _ _ _ 23 _ [] (P ++ (MDL L i_keptMany i_taped i_faultKind i_faultPlace i_spot i_begin i_token i_value i_bad i_full i_bandRows i_bandFirsts i_outs f_state f_was f_kept f_tape ((FX12k_laysRow f_state f_order e2).2) f_rest f_ways f_costs f_bandBest f_found f_drawn f_joined f_out ++ R)) _ _
      refine xi_aload_n 0 dX12_value_23 rfl ?_
      refine xi_iload_n 1 dX12_value_24 rfl ?_
      refine xi_iload_n 2 dX12_value_25 rfl ?_
      refine xi_callV (as := [.int (nI e2), .int m]) (rest := []) dX12_value_26 (FX12_valueOf_ok G hP i_keptMany i_taped i_faultKind i_faultPlace i_spot i_begin i_token i_value i_bad i_full i_bandRows i_bandFirsts i_outs f_state f_was f_kept f_tape ((FX12k_laysRow f_state f_order e2).2) f_rest f_ways f_costs f_bandBest f_found f_drawn f_joined f_out (by omega) (by omega) (by omega) (by omega) (by omega) (by omega) hG hk4 e2 (by omega) m _ rfl (fun r => r = FX12_valueOf f_state ((FX12k_laysRow f_state f_order e2).2) e2 m) rfl) mkX12_valueOf w_1296 ws_67 w_1294 (xpg0 hP rfl) rfl rfl rfl rfl (Nat.le_of_ble_eq_true rfl) (Nat.le_of_ble_eq_true rfl) (Nat.le_of_ble_eq_true rfl) (Nat.le_of_ble_eq_true rfl) (Nat.le_of_ble_eq_true rfl) ?_
      intro v M2 hz
      obtain ⟨_, rfl, rfl, rfl⟩ := hz
      show xW _ _ _ _ 29 _ [.int (FX12_valueOf f_state ((FX12k_laysRow f_state f_order e2).2) e2 m)] (P ++ (MDL L i_keptMany i_taped i_faultKind i_faultPlace i_spot i_begin i_token i_value i_bad i_full i_bandRows i_bandFirsts i_outs f_state f_was f_kept f_tape ((FX12k_laysRow f_state f_order e2).2) f_rest f_ways f_costs f_bandBest f_found f_drawn f_joined f_out ++ R)) _ _
      exact xi_iret dX12_value_29 rfl rfl (Nat.le_of_ble_eq_true rfl) (Nat.le_of_ble_eq_true rfl) ⟨_, rfl, hq, hk4, rfl⟩
    · rw [if_pos c3] at hq
      refine xi_bipush (v := (-2)) dX12_value_15 (by decide) ?_
      exact xi_iret dX12_value_17 rfl rfl (Nat.le_of_ble_eq_true rfl) (Nat.le_of_ble_eq_true rfl) ⟨_, rfl, hq, hR, rfl⟩
def FX12_gain (f_state : Nat → Int32) (f_order : Nat → Int32) (x : Int32) (m : Int32) (y : Int32) (t : Int32) : Int32 × (Nat → Int32) := (if (FX12_isPoint f_state x y) = (0 : Int32) then ((-1000 : Int32), f_order) else (if (FX12_isPoint f_state ((nI x.toNatClampNeg)) t) = (0 : Int32) then ((-1000 : Int32), f_order) else (if (FX12_isMeasure m) = (0 : Int32) then ((-1000 : Int32), f_order) else (((FX12_valueOf f_state ((FX12k_exchanges ((FX12k_laysRow f_state f_order x.toNatClampNeg).2) y.toNatClampNeg t.toNatClampNeg).2) x.toNatClampNeg m) - (FX12_valueOf f_state ((FX12k_laysRow f_state f_order x.toNatClampNeg).2) x.toNatClampNeg m)), (FX12k_exchanges ((FX12k_laysRow f_state f_order x.toNatClampNeg).2) y.toNatClampNeg t.toNatClampNeg).2))))
set_option maxHeartbeats 4000000 in
set_option maxRecDepth 100000 in
theorem FX12_gain_ok (G : xG) {P R : xMem} {L : Nat} (hP : P.length = L) (i_keptMany : Nat) (i_taped : Nat) (i_faultKind : Int32) (i_faultPlace : Int32) (i_spot : Nat) (i_begin : Nat) (i_token : Int32) (i_value : Int32) (i_bad : Int32) (i_full : Nat) (i_bandRows : Int32) (i_bandFirsts : Int32) (i_outs : Nat) (f_state : Nat → Int32) (f_was : Nat → Int32) (f_kept : Nat → Int32) (f_tape : Nat → Int32) (f_order : Nat → Int32) (f_rest : Nat → Int32) (f_ways : Nat → Int32) (f_costs : Nat → Int32) (f_bandBest : Nat → Int32) (f_found : Nat → Int32) (f_drawn : Nat → Int32) (f_joined : Nat → Int32) (f_out : Nat → Int32) (bi_keptMany : i_keptMany ≤ 10) (bi_taped : i_taped ≤ 400) (bi_spot : i_spot ≤ 400) (bi_begin : i_begin ≤ 400) (bi_full : i_full ≤ 511) (bi_outs : i_outs ≤ 400) (hG : GO f_state) (hR : RO f_order) (x : Int32) (m : Int32) (y : Int32) (t : Int32) (M : xMem) (hM : M = (P ++ (MDL L i_keptMany i_taped i_faultKind i_faultPlace i_spot i_begin i_token i_value i_bad i_full i_bandRows i_bandFirsts i_outs f_state f_was f_kept f_tape f_order f_rest f_ways f_costs f_bandBest f_found f_drawn f_joined f_out ++ R))) (Q : Int32 × (Nat → Int32) → Prop) (hq : Q (FX12_gain f_state f_order x m y t)) : xC G mX12_gain 6 0 0 [.ref L, .int x, .int m, .int y, .int t] M (fun v M2 => ∃ o : Int32 × (Nat → Int32), v = some (.int o.1) ∧ Q o ∧ RO o.2 ∧ M2 = (P ++ (MDL L i_keptMany i_taped i_faultKind i_faultPlace i_spot i_begin i_token i_value i_bad i_full i_bandRows i_bandFirsts i_outs f_state f_was f_kept f_tape o.2 f_rest f_ways f_costs f_bandBest f_found f_drawn f_joined f_out ++ R))) := by
  subst hM
  unfold FX12_gain at hq
  refine xC.of (by decide) (Nat.le_of_ble_eq_true rfl) ?_
  show xW _ _ _ _ 0 [(0, .ref L), (1, .int x), (2, .int m), (3, .int y), (4, .int t)] [] _ 0 0
  refine xi_aload_n 0 dX12_gain_0 rfl ?_
  refine xi_iload_n 1 dX12_gain_1 rfl ?_
  refine xi_iload_n 3 dX12_gain_2 rfl ?_
  refine xi_callV (as := [.int x, .int y]) (rest := []) dX12_gain_3 (FX12_isPoint_ok G hP i_keptMany i_taped i_faultKind i_faultPlace i_spot i_begin i_token i_value i_bad i_full i_bandRows i_bandFirsts i_outs f_state f_was f_kept f_tape f_order f_rest f_ways f_costs f_bandBest f_found f_drawn f_joined f_out (by omega) (by omega) (by omega) (by omega) (by omega) (by omega) hG x y _ rfl (fun r => r = FX12_isPoint f_state x y) rfl) mkX12_isPoint w_1257 ws_63 w_1255 (xpg0 hP rfl) rfl rfl rfl rfl (Nat.le_of_ble_eq_true rfl) (Nat.le_of_ble_eq_true rfl) (Nat.le_of_ble_eq_true rfl) (Nat.le_of_ble_eq_true rfl) (Nat.le_of_ble_eq_true rfl) ?_
  intro v M2 hz
  obtain ⟨_, rfl, rfl, rfl⟩ := hz
  show xW _ _ _ _ 6 _ [.int (FX12_isPoint f_state x y)] (P ++ (MDL L i_keptMany i_taped i_faultKind i_faultPlace i_spot i_begin i_token i_value i_bad i_full i_bandRows i_bandFirsts i_outs f_state f_was f_kept f_tape f_order f_rest f_ways f_costs f_bandBest f_found f_drawn f_joined f_out ++ R)) _ _
  refine xi_if_eq (tgt := 26) dX12_gain_6 (by decide) (fun c1 => ?_) (fun c1 => ?_)
  · rw [if_pos c1] at hq
    refine xi_sipush (v := (-1000)) dX12_gain_26 (by decide) ?_
    exact xi_iret dX12_gain_29 rfl rfl (Nat.le_of_ble_eq_true rfl) (Nat.le_of_ble_eq_true rfl) ⟨_, rfl, hq, hR, rfl⟩
  · rw [if_neg c1] at hq
    obtain ⟨e2, e2b, e2h⟩ := point_in c1
    have e2c : x.toNatClampNeg = e2 := by rw [e2h]; exact nI_clamp (by omega)
    try rw [e2c] at hq
    subst e2h
    have e2g := (hG e2 e2b).1.2
    obtain ⟨e3, e3b, e3h⟩ := point_in2 hG c1
    rw [nI_clamp (by omega)] at e3b
    have e3c : y.toNatClampNeg = e3 := by rw [e3h]; exact nI_clamp (by omega)
    try rw [e3c] at hq
    subst e3h
    refine xi_aload_n 0 dX12_gain_9 rfl ?_
    refine xi_iload_n 1 dX12_gain_10 rfl ?_
    refine xi_iload 4 dX12_gain_11 rfl ?_
    refine xi_callV (as := [.int (nI e2), .int t]) (rest := []) dX12_gain_13 (FX12_isPoint_ok G hP i_keptMany i_taped i_faultKind i_faultPlace i_spot i_begin i_token i_value i_bad i_full i_bandRows i_bandFirsts i_outs f_state f_was f_kept f_tape f_order f_rest f_ways f_costs f_bandBest f_found f_drawn f_joined f_out (by omega) (by omega) (by omega) (by omega) (by omega) (by omega) hG ((nI e2)) t _ rfl (fun r => r = FX12_isPoint f_state ((nI e2)) t) rfl) mkX12_isPoint w_1257 ws_63 w_1255 (xpg0 hP rfl) rfl rfl rfl rfl (Nat.le_of_ble_eq_true rfl) (Nat.le_of_ble_eq_true rfl) (Nat.le_of_ble_eq_true rfl) (Nat.le_of_ble_eq_true rfl) (Nat.le_of_ble_eq_true rfl) ?_
    intro v M2 hz
    obtain ⟨_, rfl, rfl, rfl⟩ := hz
    show xW _ _ _ _ 16 _ [.int (FX12_isPoint f_state ((nI e2)) t)] (P ++ (MDL L i_keptMany i_taped i_faultKind i_faultPlace i_spot i_begin i_token i_value i_bad i_full i_bandRows i_bandFirsts i_outs f_state f_was f_kept f_tape f_order f_rest f_ways f_costs f_bandBest f_found f_drawn f_joined f_out ++ R)) _ _
    refine xi_if_eq (tgt := 26) dX12_gain_16 (by decide) (fun c4 => ?_) (fun c4 => ?_)
    · rw [if_pos c4] at hq
      refine xi_sipush (v := (-1000)) dX12_gain_26 (by decide) ?_
      exact xi_iret dX12_gain_29 rfl rfl (Nat.le_of_ble_eq_true rfl) (Nat.le_of_ble_eq_true rfl) ⟨_, rfl, hq, hR, rfl⟩
    · rw [if_neg c4] at hq
      obtain ⟨e5, e5b, e5h⟩ := point_in2 hG c4
      rw [nI_clamp (by omega)] at e5b
      have e5c : t.toNatClampNeg = e5 := by rw [e5h]; exact nI_clamp (by omega)
      try rw [e5c] at hq
      subst e5h
      refine xi_iload_n 2 dX12_gain_19 rfl ?_
      refine xi_callS (as := [.int m]) (rest := []) dX12_gain_20 (FX12_isMeasure_ok G m (fun r => r = FX12_isMeasure m) rfl) mkX12_isMeasure w_1288 w_1287 rfl rfl (Nat.le_of_ble_eq_true rfl) (Nat.le_of_ble_eq_true rfl) (Nat.le_of_ble_eq_true rfl) (Nat.le_of_ble_eq_true rfl) (Nat.le_of_ble_eq_true rfl) ?_
      intro v M2 hz
      obtain ⟨_, rfl, rfl, hM2⟩ := hz
      rw [hM2]
      show xW _ _ _ _ 23 _ [.int (FX12_isMeasure m)] (P ++ (MDL L i_keptMany i_taped i_faultKind i_faultPlace i_spot i_begin i_token i_value i_bad i_full i_bandRows i_bandFirsts i_outs f_state f_was f_kept f_tape f_order f_rest f_ways f_costs f_bandBest f_found f_drawn f_joined f_out ++ R)) _ _
      refine xi_if_ne (tgt := 30) dX12_gain_23 (by decide) (fun c6 => ?_) (fun c6 => ?_)
      · rw [if_neg c6] at hq
        refine xi_aload_n 0 dX12_gain_30 rfl ?_
        refine xi_iload_n 1 dX12_gain_31 rfl ?_
        refine xi_callV (as := [.int (nI e2)]) (rest := []) dX12_gain_32 (FX12k_laysRow_ok G hP i_keptMany i_taped i_faultKind i_faultPlace i_spot i_begin i_token i_value i_bad i_full i_bandRows i_bandFirsts i_outs f_state f_was f_kept f_tape f_order f_rest f_ways f_costs f_bandBest f_found f_drawn f_joined f_out (by omega) (by omega) (by omega) (by omega) (by omega) (by omega) hG hR e2 (by omega) _ rfl (fun r => r = FX12k_laysRow f_state f_order e2) rfl) mkX12_laysRow w_1292 ws_66 w_1290 (xpg0 hP rfl) rfl rfl rfl rfl (Nat.le_of_ble_eq_true rfl) (Nat.le_of_ble_eq_true rfl) (Nat.le_of_ble_eq_true rfl) (Nat.le_of_ble_eq_true rfl) (Nat.le_of_ble_eq_true rfl) ?_
        intro v M2 hz
        obtain ⟨_, rfl, rfl, hk7, rfl⟩ := hz
        show xW _ _ _ _ 35 _ [] (P ++ (MDL L i_keptMany i_taped i_faultKind i_faultPlace i_spot i_begin i_token i_value i_bad i_full i_bandRows i_bandFirsts i_outs f_state f_was f_kept f_tape ((FX12k_laysRow f_state f_order e2).2) f_rest f_ways f_costs f_bandBest f_found f_drawn f_joined f_out ++ R)) _ _
        refine xi_aload_n 0 dX12_gain_35 rfl ?_
        refine xi_iload_n 1 dX12_gain_36 rfl ?_
        refine xi_iload_n 2 dX12_gain_37 rfl ?_
        refine xi_callV (as := [.int (nI e2), .int m]) (rest := []) dX12_gain_38 (FX12_valueOf_ok G hP i_keptMany i_taped i_faultKind i_faultPlace i_spot i_begin i_token i_value i_bad i_full i_bandRows i_bandFirsts i_outs f_state f_was f_kept f_tape ((FX12k_laysRow f_state f_order e2).2) f_rest f_ways f_costs f_bandBest f_found f_drawn f_joined f_out (by omega) (by omega) (by omega) (by omega) (by omega) (by omega) hG hk7 e2 (by omega) m _ rfl (fun r => r = FX12_valueOf f_state ((FX12k_laysRow f_state f_order e2).2) e2 m) rfl) mkX12_valueOf w_1296 ws_67 w_1294 (xpg0 hP rfl) rfl rfl rfl rfl (Nat.le_of_ble_eq_true rfl) (Nat.le_of_ble_eq_true rfl) (Nat.le_of_ble_eq_true rfl) (Nat.le_of_ble_eq_true rfl) (Nat.le_of_ble_eq_true rfl) ?_
        intro v M2 hz
        obtain ⟨_, rfl, rfl, rfl⟩ := hz
        show xW _ _ _ _ 41 _ [.int (FX12_valueOf f_state ((FX12k_laysRow f_state f_order e2).2) e2 m)] (P ++ (MDL L i_keptMany i_taped i_faultKind i_faultPlace i_spot i_begin i_token i_value i_bad i_full i_bandRows i_bandFirsts i_outs f_state f_was f_kept f_tape ((FX12k_laysRow f_state f_order e2).2) f_rest f_ways f_costs f_bandBest f_found f_drawn f_joined f_out ++ R)) _ _
        refine xi_istore (lv' := [(5, .int (FX12_valueOf f_state ((FX12k_laysRow f_state f_order e2).2) e2 m)), (0, .ref L), (1, .int (nI e2)), (2, .int m), (3, .int (nI e3)), (4, .int (nI e5))]) dX12_gain_41 (by decide) rfl ?_
        refine xi_aload_n 1 dX12_gain_43 rfl ?_
        refine xi_iload_n 4 dX12_gain_44 rfl ?_
        refine xi_iload 5 dX12_gain_45 rfl ?_
        refine xi_callV (as := [.int (nI e3), .int (nI e5)]) (rest := []) dX12_gain_47 (FX12k_exchanges_ok G hP i_keptMany i_taped i_faultKind i_faultPlace i_spot i_begin i_token i_value i_bad i_full i_bandRows i_bandFirsts i_outs f_state f_was f_kept f_tape ((FX12k_laysRow f_state f_order e2).2) f_rest f_ways f_costs f_bandBest f_found f_drawn f_joined f_out (by omega) (by omega) (by omega) (by omega) (by omega) (by omega) hk7 e3 (by omega) e5 (by omega) _ rfl (fun r => r = FX12k_exchanges ((FX12k_laysRow f_state f_order e2).2) e3 e5) rfl) mkX12_exchanges w_1452 ws_87 w_1450 (xpg0 hP rfl) rfl rfl rfl rfl (Nat.le_of_ble_eq_true rfl) (Nat.le_of_ble_eq_true rfl) (Nat.le_of_ble_eq_true rfl) (Nat.le_of_ble_eq_true rfl) (Nat.le_of_ble_eq_true rfl) ?_
        intro v M2 hz
        obtain ⟨_, rfl, rfl, hk8, rfl⟩ := hz
        show xW _ _ _ _ 50 _ [] (P ++ (MDL L i_keptMany i_taped i_faultKind i_faultPlace i_spot i_begin i_token i_value i_bad i_full i_bandRows i_bandFirsts i_outs f_state f_was f_kept f_tape ((FX12k_exchanges ((FX12k_laysRow f_state f_order e2).2) e3 e5).2) f_rest f_ways f_costs f_bandBest f_found f_drawn f_joined f_out ++ R)) _ _
        refine xi_aload_n 1 dX12_gain_50 rfl ?_
        refine xi_iload_n 2 dX12_gain_51 rfl ?_
        refine xi_iload_n 3 dX12_gain_52 rfl ?_
        refine xi_callV (as := [.int (nI e2), .int m]) (rest := []) dX12_gain_53 (FX12_valueOf_ok G hP i_keptMany i_taped i_faultKind i_faultPlace i_spot i_begin i_token i_value i_bad i_full i_bandRows i_bandFirsts i_outs f_state f_was f_kept f_tape ((FX12k_exchanges ((FX12k_laysRow f_state f_order e2).2) e3 e5).2) f_rest f_ways f_costs f_bandBest f_found f_drawn f_joined f_out (by omega) (by omega) (by omega) (by omega) (by omega) (by omega) hG hk8 e2 (by omega) m _ rfl (fun r => r = FX12_valueOf f_state ((FX12k_exchanges ((FX12k_laysRow f_state f_order e2).2) e3 e5).2) e2 m) rfl) mkX12_valueOf w_1296 ws_67 w_1294 (xpg0 hP rfl) rfl rfl rfl rfl (Nat.le_of_ble_eq_true rfl) (Nat.le_of_ble_eq_true rfl) (Nat.le_of_ble_eq_true rfl) (Nat.le_of_ble_eq_true rfl) (Nat.le_of_ble_eq_true rfl) ?_
        intro v M2 hz
        obtain ⟨_, rfl, rfl, rfl⟩ := hz
        show xW _ _ _ _ 56 _ [.int (FX12_valueOf f_state ((FX12k_exchanges ((FX12k_laysRow f_state f_order e2).2) e3 e5).2) e2 m)] (P ++ (MDL L i_keptMany i_taped i_faultKind i_faultPlace i_spot i_begin i_token i_value i_bad i_full i_bandRows i_bandFirsts i_outs f_state f_was f_kept f_tape ((FX12k_exchanges ((FX12k_laysRow f_state f_order e2).2) e3 e5).2) f_rest f_ways f_costs f_bandBest f_found f_drawn f_joined f_out ++ R)) _ _
        refine xi_iload 0 dX12_gain_56 rfl ?_
        refine xi_isub (v := ((FX12_valueOf f_state ((FX12k_exchanges ((FX12k_laysRow f_state f_order e2).2) e3 e5).2) e2 m) - (FX12_valueOf f_state ((FX12k_laysRow f_state f_order e2).2) e2 m))) dX12_gain_58 rfl ?_
        exact xi_iret dX12_gain_59 rfl rfl (Nat.le_of_ble_eq_true rfl) (Nat.le_of_ble_eq_true rfl) ⟨_, rfl, hq, hk8, rfl⟩
      · rw [if_pos c6] at hq
        refine xi_sipush (v := (-1000)) dX12_gain_26 (by decide) ?_
        exact xi_iret dX12_gain_29 rfl rfl (Nat.le_of_ble_eq_true rfl) (Nat.le_of_ble_eq_true rfl) ⟨_, rfl, hq, hR, rfl⟩
