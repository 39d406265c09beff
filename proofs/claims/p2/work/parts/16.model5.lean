/-! the reference: rows changed (printed by wip/p2/gen16.py) -/
def LX12_moves_41 (i_keptMany : Nat) (f_state : Nat → Int32) (f_was : Nat → Int32) (f_kept : Nat → Int32) (n1 : Nat) (n3 : Nat) (K : Nat → (Nat → Int32) → Int32 × (Nat → Int32) × (Nat → Int32) × (Nat → Int32) × Nat × (Nat → Int32)) : Nat → Nat → (Nat → Int32) → Int32 × (Nat → Int32) × (Nat → Int32) × (Nat → Int32) × Nat × (Nat → Int32)
  | 0, v5, f_order => K v5 f_order
  | k + 1, v5, f_order => (if (nI v5) = (nI n3) then (K v5 f_order) else (LX12_moves_41 i_keptMany f_state f_was f_kept n1 n3 K k (v5 - 1) ((FX12k_exchanges f_order v5 (v5 - 1)).2)))
def LX12_moves_41_1 (i_keptMany : Nat) (f_state : Nat → Int32) (f_was : Nat → Int32) (f_kept : Nat → Int32) (n1 : Nat) (n3 : Nat) (K : Nat → (Nat → Int32) → Int32 × (Nat → Int32) × (Nat → Int32) × (Nat → Int32) × Nat × (Nat → Int32)) : Nat → Nat → (Nat → Int32) → Int32 × (Nat → Int32) × (Nat → Int32) × (Nat → Int32) × Nat × (Nat → Int32)
  | 0, v5, f_order => K v5 f_order
  | k + 1, v5, f_order => (if (nI v5) = (nI n3) then (K v5 f_order) else (LX12_moves_41_1 i_keptMany f_state f_was f_kept n1 n3 K k (v5 + 1) ((FX12k_exchanges f_order v5 (v5 + 1)).2)))
set_option maxHeartbeats 4000000 in
set_option maxRecDepth 100000 in
theorem LX12_moves_41_s (G : xG) {P R : xMem} {L : Nat} (hP : P.length = L) (i_keptMany : Nat) (i_taped : Nat) (i_faultKind : Int32) (i_faultPlace : Int32) (i_spot : Nat) (i_begin : Nat) (i_token : Int32) (i_value : Int32) (i_bad : Int32) (i_full : Nat) (i_bandRows : Int32) (i_bandFirsts : Int32) (i_outs : Nat) (f_state : Nat → Int32) (f_was : Nat → Int32) (f_kept : Nat → Int32) (f_tape : Nat → Int32) (f_rest : Nat → Int32) (f_ways : Nat → Int32) (f_costs : Nat → Int32) (f_bandBest : Nat → Int32) (f_found : Nat → Int32) (f_drawn : Nat → Int32) (f_joined : Nat → Int32) (f_out : Nat → Int32) (bi_keptMany : i_keptMany ≤ 10) (bi_taped : i_taped ≤ 400) (bi_spot : i_spot ≤ 400) (bi_begin : i_begin ≤ 400) (bi_full : i_full ≤ 511) (bi_outs : i_outs ≤ 400) (hG : GO f_state) (hE : PE f_state) (hT : WB f_state) (hW : SO f_was) (hK : KO i_keptMany f_kept) (n1 : Nat) (bn1 : n1 < 3) (n3 : Nat) (bn3 : n3 < 9) (Q : Int32 × (Nat → Int32) × (Nat → Int32) × (Nat → Int32) × Nat × (Nat → Int32) → Prop) (K : Nat → (Nat → Int32) → Int32 × (Nat → Int32) × (Nat → Int32) × (Nat → Int32) × Nat × (Nat → Int32)) (HE : ∀ (v5 : Nat) (f_order : Nat → Int32) (hR : RO f_order) (hy : n3 ≤ v5 ∧ v5 < (f_state (91 * n1)).toNatClampNeg ∧ PM (f_state (91 * n1)).toNatClampNeg f_order), Q (K v5 f_order) → xW G mX12_moves (xrm 4 0 0) (xQ G (fun v M2 => ∃ o : Int32 × (Nat → Int32) × (Nat → Int32) × (Nat → Int32) × Nat × (Nat → Int32), v = some (.int o.1) ∧ Q o ∧ GO o.2.2.1 ∧ PE o.2.2.1 ∧ RO o.2.1 ∧ WB o.2.2.1 ∧ SO o.2.2.2.1 ∧ KO o.2.2.2.2.1 o.2.2.2.2.2 ∧ o.2.2.2.2.1 ≤ 10 ∧ M2 = (P ++ (MDL L o.2.2.2.2.1 i_taped i_faultKind i_faultPlace i_spot i_begin i_token i_value i_bad i_full i_bandRows i_bandFirsts i_outs o.2.2.1 o.2.2.2.1 o.2.2.2.2.2 f_tape o.2.1 f_rest f_ways f_costs f_bandBest f_found f_drawn f_joined f_out ++ R))) 0 0) 68 [(0, .ref L), (1, .int (nI n1)), (3, .int (nI n3))] [] (P ++ (MDL L i_keptMany i_taped i_faultKind i_faultPlace i_spot i_begin i_token i_value i_bad i_full i_bandRows i_bandFirsts i_outs f_state f_was f_kept f_tape f_order f_rest f_ways f_costs f_bandBest f_found f_drawn f_joined f_out ++ R)) 0 0) :
    ∀ (k : Nat) (v5 : Nat) (f_order : Nat → Int32) (hR : RO f_order), v5 - n3 < k → (n3 ≤ v5 ∧ v5 < (f_state (91 * n1)).toNatClampNeg ∧ PM (f_state (91 * n1)).toNatClampNeg f_order) → Q (LX12_moves_41 i_keptMany f_state f_was f_kept n1 n3 K k v5 f_order) → xW G mX12_moves (xrm 4 0 0) (xQ G (fun v M2 => ∃ o : Int32 × (Nat → Int32) × (Nat → Int32) × (Nat → Int32) × Nat × (Nat → Int32), v = some (.int o.1) ∧ Q o ∧ GO o.2.2.1 ∧ PE o.2.2.1 ∧ RO o.2.1 ∧ WB o.2.2.1 ∧ SO o.2.2.2.1 ∧ KO o.2.2.2.2.1 o.2.2.2.2.2 ∧ o.2.2.2.2.1 ≤ 10 ∧ M2 = (P ++ (MDL L o.2.2.2.2.1 i_taped i_faultKind i_faultPlace i_spot i_begin i_token i_value i_bad i_full i_bandRows i_bandFirsts i_outs o.2.2.1 o.2.2.2.1 o.2.2.2.2.2 f_tape o.2.1 f_rest f_ways f_costs f_bandBest f_found f_drawn f_joined f_out ++ R))) 0 0) 41 [(0, .ref L), (1, .int (nI n1)), (3, .int (nI n3)), (4, .int (-1)), (5, .int (nI v5))] [] (P ++ (MDL L i_keptMany i_taped i_faultKind i_faultPlace i_spot i_begin i_token i_value i_bad i_full i_bandRows i_bandFirsts i_outs f_state f_was f_kept f_tape f_order f_rest f_ways f_costs f_bandBest f_found f_drawn f_joined f_out ++ R)) 0 0 := by
  intro k
  induction k with
  | zero =>
    intro v5 f_order hR hmu
    exact absurd hmu (Nat.not_lt_zero _)
  | succ k ih =>
    intro v5 f_order hR hmu hy hq
    rw [LX12_moves_41] at hq
    have hPG := (hG n1 (by omega)).1.2
    refine xi_iload 4 dX12_moves_41 rfl ?_
    refine xi_iload_n 2 dX12_moves_43 rfl ?_
    refine xi_icmp_eq (tgt := 68) dX12_moves_44 (by decide) (fun c9 => ?_) (fun c9 => ?_)
    · rw [if_pos c9] at hq
      have c9n : v5 = n3 := (nI_eq (a := v5) (b := n3) (by omega) (by omega)).mp c9
      refine xi_sub (lv' := [(0, .ref L), (1, .int (nI n1)), (3, .int (nI n3))]) [0, 1, 2] rfl ?_
      exact HE v5 f_order hR (by first | exact hy | omega) hq
    · rw [if_neg c9] at hq
      have c9n : ¬ v5 = n3 := fun e => c9 (congrArg nI e)
      refine xi_aload_n 0 dX12_moves_47 rfl ?_
      refine xi_iload 4 dX12_moves_48 rfl ?_
      refine xi_iload 4 dX12_moves_50 rfl ?_
      refine xi_iload 3 dX12_moves_52 rfl ?_
      refine xi_iadd (v := (nI (v5 - 1))) dX12_moves_54 (pk_dec (a := v5) (by omega)) ?_
      refine xi_callV (as := [.int (nI v5), .int (nI (v5 - 1))]) (rest := []) dX12_moves_55 (FX12k_exchanges_ok G hP i_keptMany i_taped i_faultKind i_faultPlace i_spot i_begin i_token i_value i_bad i_full i_bandRows i_bandFirsts i_outs f_state f_was f_kept f_tape f_order f_rest f_ways f_costs f_bandBest f_found f_drawn f_joined f_out (by omega) (by omega) (by omega) (by omega) (by omega) (by omega) hR v5 (by omega) (v5 - 1) (by omega) _ rfl (fun r => r = FX12k_exchanges f_order v5 (v5 - 1)) rfl) mkX12_exchanges w_1452 ws_87 w_1450 (xpg0 hP rfl) rfl rfl rfl rfl (Nat.le_of_ble_eq_true rfl) (Nat.le_of_ble_eq_true rfl) (Nat.le_of_ble_eq_true rfl) (Nat.le_of_ble_eq_true rfl) (Nat.le_of_ble_eq_true rfl) ?_
      intro v M2 hz
      obtain ⟨_, rfl, rfl, hk10, rfl⟩ := hz
      show xW _ _ _ _ 58 _ [] (P ++ (MDL L i_keptMany i_taped i_faultKind i_faultPlace i_spot i_begin i_token i_value i_bad i_full i_bandRows i_bandFirsts i_outs f_state f_was f_kept f_tape ((FX12k_exchanges f_order v5 (v5 - 1)).2) f_rest f_ways f_costs f_bandBest f_found f_drawn f_joined f_out ++ R)) _ _
      refine xi_iload 4 dX12_moves_58 rfl ?_
      refine xi_iload 3 dX12_moves_60 rfl ?_
      refine xi_iadd (v := (nI (v5 - 1))) dX12_moves_62 (pk_dec (a := v5) (by omega)) ?_
      refine xi_istore (lv' := [(5, .int (nI (v5 - 1))), (0, .ref L), (1, .int (nI n1)), (3, .int (nI n3)), (4, .int (-1))]) dX12_moves_63 (by decide) rfl ?_
      refine xi_goto (tgt := 41) dX12_moves_65 (by decide) ?_
      refine xi_sub (lv' := [(0, .ref L), (1, .int (nI n1)), (3, .int (nI n3)), (4, .int (-1)), (5, .int (nI (v5 - 1)))]) [1, 2, 3, 4, 0] rfl ?_
      exact ih (v5 - 1) ((FX12k_exchanges f_order v5 (v5 - 1)).2) hk10 (by first | omega | exact ⟨by omega, by omega, PM_ex hR (by omega) (by omega) (by omega) hy.2.2⟩) (by first | omega | exact ⟨by omega, by omega, PM_ex hR (by omega) (by omega) (by omega) hy.2.2⟩) hq
set_option maxHeartbeats 4000000 in
set_option maxRecDepth 100000 in
theorem LX12_moves_41_1_s (G : xG) {P R : xMem} {L : Nat} (hP : P.length = L) (i_keptMany : Nat) (i_taped : Nat) (i_faultKind : Int32) (i_faultPlace : Int32) (i_spot : Nat) (i_begin : Nat) (i_token : Int32) (i_value : Int32) (i_bad : Int32) (i_full : Nat) (i_bandRows : Int32) (i_bandFirsts : Int32) (i_outs : Nat) (f_state : Nat → Int32) (f_was : Nat → Int32) (f_kept : Nat → Int32) (f_tape : Nat → Int32) (f_rest : Nat → Int32) (f_ways : Nat → Int32) (f_costs : Nat → Int32) (f_bandBest : Nat → Int32) (f_found : Nat → Int32) (f_drawn : Nat → Int32) (f_joined : Nat → Int32) (f_out : Nat → Int32) (bi_keptMany : i_keptMany ≤ 10) (bi_taped : i_taped ≤ 400) (bi_spot : i_spot ≤ 400) (bi_begin : i_begin ≤ 400) (bi_full : i_full ≤ 511) (bi_outs : i_outs ≤ 400) (hG : GO f_state) (hE : PE f_state) (hT : WB f_state) (hW : SO f_was) (hK : KO i_keptMany f_kept) (n1 : Nat) (bn1 : n1 < 3) (n3 : Nat) (bn3 : n3 < 9) (Q : Int32 × (Nat → Int32) × (Nat → Int32) × (Nat → Int32) × Nat × (Nat → Int32) → Prop) (K : Nat → (Nat → Int32) → Int32 × (Nat → Int32) × (Nat → Int32) × (Nat → Int32) × Nat × (Nat → Int32)) (HE : ∀ (v5 : Nat) (f_order : Nat → Int32) (hR : RO f_order) (hy : v5 ≤ n3 ∧ n3 < (f_state (91 * n1)).toNatClampNeg ∧ PM (f_state (91 * n1)).toNatClampNeg f_order), Q (K v5 f_order) → xW G mX12_moves (xrm 4 0 0) (xQ G (fun v M2 => ∃ o : Int32 × (Nat → Int32) × (Nat → Int32) × (Nat → Int32) × Nat × (Nat → Int32), v = some (.int o.1) ∧ Q o ∧ GO o.2.2.1 ∧ PE o.2.2.1 ∧ RO o.2.1 ∧ WB o.2.2.1 ∧ SO o.2.2.2.1 ∧ KO o.2.2.2.2.1 o.2.2.2.2.2 ∧ o.2.2.2.2.1 ≤ 10 ∧ M2 = (P ++ (MDL L o.2.2.2.2.1 i_taped i_faultKind i_faultPlace i_spot i_begin i_token i_value i_bad i_full i_bandRows i_bandFirsts i_outs o.2.2.1 o.2.2.2.1 o.2.2.2.2.2 f_tape o.2.1 f_rest f_ways f_costs f_bandBest f_found f_drawn f_joined f_out ++ R))) 0 0) 68 [(0, .ref L), (1, .int (nI n1)), (3, .int (nI n3))] [] (P ++ (MDL L i_keptMany i_taped i_faultKind i_faultPlace i_spot i_begin i_token i_value i_bad i_full i_bandRows i_bandFirsts i_outs f_state f_was f_kept f_tape f_order f_rest f_ways f_costs f_bandBest f_found f_drawn f_joined f_out ++ R)) 0 0) :
    ∀ (k : Nat) (v5 : Nat) (f_order : Nat → Int32) (hR : RO f_order), n3 - v5 < k → (v5 ≤ n3 ∧ n3 < (f_state (91 * n1)).toNatClampNeg ∧ PM (f_state (91 * n1)).toNatClampNeg f_order) → Q (LX12_moves_41_1 i_keptMany f_state f_was f_kept n1 n3 K k v5 f_order) → xW G mX12_moves (xrm 4 0 0) (xQ G (fun v M2 => ∃ o : Int32 × (Nat → Int32) × (Nat → Int32) × (Nat → Int32) × Nat × (Nat → Int32), v = some (.int o.1) ∧ Q o ∧ GO o.2.2.1 ∧ PE o.2.2.1 ∧ RO o.2.1 ∧ WB o.2.2.1 ∧ SO o.2.2.2.1 ∧ KO o.2.2.2.2.1 o.2.2.2.2.2 ∧ o.2.2.2.2.1 ≤ 10 ∧ M2 = (P ++ (MDL L o.2.2.2.2.1 i_taped i_faultKind i_faultPlace i_spot i_begin i_token i_value i_bad i_full i_bandRows i_bandFirsts i_outs o.2.2.1 o.2.2.2.1 o.2.2.2.2.2 f_tape o.2.1 f_rest f_ways f_costs f_bandBest f_found f_drawn f_joined f_out ++ R))) 0 0) 41 [(0, .ref L), (1, .int (nI n1)), (3, .int (nI n3)), (4, .int 1), (5, .int (nI v5))] [] (P ++ (MDL L i_keptMany i_taped i_faultKind i_faultPlace i_spot i_begin i_token i_value i_bad i_full i_bandRows i_bandFirsts i_outs f_state f_was f_kept f_tape f_order f_rest f_ways f_costs f_bandBest f_found f_drawn f_joined f_out ++ R)) 0 0 := by
  intro k
  induction k with
  | zero =>
    intro v5 f_order hR hmu
    exact absurd hmu (Nat.not_lt_zero _)
  | succ k ih =>
    intro v5 f_order hR hmu hy hq
    rw [LX12_moves_41_1] at hq
    have hPG := (hG n1 (by omega)).1.2
    refine xi_iload 4 dX12_moves_41 rfl ?_
    refine xi_iload_n 2 dX12_moves_43 rfl ?_
    refine xi_icmp_eq (tgt := 68) dX12_moves_44 (by decide) (fun c21 => ?_) (fun c21 => ?_)
    · rw [if_pos c21] at hq
      have c21n : v5 = n3 := (nI_eq (a := v5) (b := n3) (by omega) (by omega)).mp c21
      refine xi_sub (lv' := [(0, .ref L), (1, .int (nI n1)), (3, .int (nI n3))]) [0, 1, 2] rfl ?_
      exact HE v5 f_order hR (by first | exact hy | omega) hq
    · rw [if_neg c21] at hq
      have c21n : ¬ v5 = n3 := fun e => c21 (congrArg nI e)
      refine xi_aload_n 0 dX12_moves_47 rfl ?_
      refine xi_iload 4 dX12_moves_48 rfl ?_
      refine xi_iload 4 dX12_moves_50 rfl ?_
      refine xi_iload 3 dX12_moves_52 rfl ?_
      refine xi_iadd (v := (nI (v5 + 1))) dX12_moves_54 (nI_add v5 1) ?_
      refine xi_callV (as := [.int (nI v5), .int (nI (v5 + 1))]) (rest := []) dX12_moves_55 (FX12k_exchanges_ok G hP i_keptMany i_taped i_faultKind i_faultPlace i_spot i_begin i_token i_value i_bad i_full i_bandRows i_bandFirsts i_outs f_state f_was f_kept f_tape f_order f_rest f_ways f_costs f_bandBest f_found f_drawn f_joined f_out (by omega) (by omega) (by omega) (by omega) (by omega) (by omega) hR v5 (by omega) (v5 + 1) (by omega) _ rfl (fun r => r = FX12k_exchanges f_order v5 (v5 + 1)) rfl) mkX12_exchanges w_1452 ws_87 w_1450 (xpg0 hP rfl) rfl rfl rfl rfl (Nat.le_of_ble_eq_true rfl) (Nat.le_of_ble_eq_true rfl) (Nat.le_of_ble_eq_true rfl) (Nat.le_of_ble_eq_true rfl) (Nat.le_of_ble_eq_true rfl) ?_
      intro v M2 hz
      obtain ⟨_, rfl, rfl, hk22, rfl⟩ := hz
      show xW _ _ _ _ 58 _ [] (P ++ (MDL L i_keptMany i_taped i_faultKind i_faultPlace i_spot i_begin i_token i_value i_bad i_full i_bandRows i_bandFirsts i_outs f_state f_was f_kept f_tape ((FX12k_exchanges f_order v5 (v5 + 1)).2) f_rest f_ways f_costs f_bandBest f_found f_drawn f_joined f_out ++ R)) _ _
      refine xi_iload 4 dX12_moves_58 rfl ?_
      refine xi_iload 3 dX12_moves_60 rfl ?_
      refine xi_iadd (v := (nI (v5 + 1))) dX12_moves_62 (nI_add v5 1) ?_
      refine xi_istore (lv' := [(5, .int (nI (v5 + 1))), (0, .ref L), (1, .int (nI n1)), (3, .int (nI n3)), (4, .int 1)]) dX12_moves_63 (by decide) rfl ?_
      refine xi_goto (tgt := 41) dX12_moves_65 (by decide) ?_
      refine xi_sub (lv' := [(0, .ref L), (1, .int (nI n1)), (3, .int (nI n3)), (4, .int 1), (5, .int (nI (v5 + 1)))]) [1, 2, 3, 4, 0] rfl ?_
      exact ih (v5 + 1) ((FX12k_exchanges f_order v5 (v5 + 1)).2) hk22 (by first | omega | exact ⟨by omega, by omega, PM_ex hR (by omega) (by omega) (by omega) hy.2.2⟩) (by first | omega | exact ⟨by omega, by omega, PM_ex hR (by omega) (by omega) (by omega) hy.2.2⟩) hq
def FX12_moves (i_keptMany : Nat) (f_state : Nat → Int32) (f_was : Nat → Int32) (f_kept : Nat → Int32) (f_order : Nat → Int32) (x : Int32) (y : Int32) (t : Int32) : Int32 × (Nat → Int32) × (Nat → Int32) × (Nat → Int32) × Nat × (Nat → Int32) := (if (FX12_isPoint f_state x y) = (0 : Int32) then ((-2 : Int32), f_order, f_state, f_was, i_keptMany, f_kept) else (if (FX12_isPoint f_state ((nI x.toNatClampNeg)) t) = (0 : Int32) then ((-2 : Int32), f_order, f_state, f_was, i_keptMany, f_kept) else (if (nI t.toNatClampNeg) ≤ (nI y.toNatClampNeg) then (LX12_moves_41 i_keptMany f_state f_was f_kept x.toNatClampNeg t.toNatClampNeg (fun u11 u12 => ((nI ((((FX12_takesRow i_keptMany f_state f_was f_kept u12 x.toNatClampNeg).2.1) (91 * x.toNatClampNeg + 82 + t.toNatClampNeg)).toNatClampNeg)), u12, (FX12_takesRow i_keptMany f_state f_was f_kept u12 x.toNatClampNeg).2.1, (FX12_takesRow i_keptMany f_state f_was f_kept u12 x.toNatClampNeg).2.2.1, (FX12_takesRow i_keptMany f_state f_was f_kept u12 x.toNatClampNeg).2.2.2.1, (FX12_takesRow i_keptMany f_state f_was f_kept u12 x.toNatClampNeg).2.2.2.2)) (y.toNatClampNeg - t.toNatClampNeg + 1) y.toNatClampNeg ((FX12k_laysRow f_state f_order x.toNatClampNeg).2)) else (LX12_moves_41_1 i_keptMany f_state f_was f_kept x.toNatClampNeg t.toNatClampNeg (fun u23 u24 => ((nI ((((FX12_takesRow i_keptMany f_state f_was f_kept u24 x.toNatClampNeg).2.1) (91 * x.toNatClampNeg + 82 + t.toNatClampNeg)).toNatClampNeg)), u24, (FX12_takesRow i_keptMany f_state f_was f_kept u24 x.toNatClampNeg).2.1, (FX12_takesRow i_keptMany f_state f_was f_kept u24 x.toNatClampNeg).2.2.1, (FX12_takesRow i_keptMany f_state f_was f_kept u24 x.toNatClampNeg).2.2.2.1, (FX12_takesRow i_keptMany f_state f_was f_kept u24 x.toNatClampNeg).2.2.2.2)) (t.toNatClampNeg - y.toNatClampNeg + 1) y.toNatClampNeg ((FX12k_laysRow f_state f_order x.toNatClampNeg).2)))))
set_option maxHeartbeats 4000000 in
set_option maxRecDepth 100000 in
theorem FX12_moves_ok (G : xG) {P R : xMem} {L : Nat} (hP : P.length = L) (i_keptMany : Nat) (i_taped : Nat) (i_faultKind : Int32) (i_faultPlace : Int32) (i_spot : Nat) (i_begin : Nat) (i_token : Int32) (i_value : Int32) (i_bad : Int32) (i_full : Nat) (i_bandRows : Int32) (i_bandFirsts : Int32) (i_outs : Nat) (f_state : Nat → Int32) (f_was : Nat → Int32) (f_kept : Nat → Int32) (f_tape : Nat → Int32) (f_order : Nat → Int32) (f_rest : Nat → Int32) (f_ways : Nat → Int32) (f_costs : Nat → Int32) (f_bandBest : Nat → Int32) (f_found : Nat → Int32) (f_drawn : Nat → Int32) (f_joined : Nat → Int32) (f_out : Nat → Int32) (bi_keptMany : i_keptMany ≤ 10) (bi_taped : i_taped ≤ 400) (bi_spot : i_spot ≤ 400) (bi_begin : i_begin ≤ 400) (bi_full : i_full ≤ 511) (bi_outs : i_outs ≤ 400) (hG : GO f_state) (hE : PE f_state) (hR : RO f_order) (hT : WB f_state) (hW : SO f_was) (hK : KO i_keptMany f_kept) (x : Int32) (y : Int32) (t : Int32) (M : xMem) (hM : M = (P ++ (MDL L i_keptMany i_taped i_faultKind i_faultPlace i_spot i_begin i_token i_value i_bad i_full i_bandRows i_bandFirsts i_outs f_state f_was f_kept f_tape f_order f_rest f_ways f_costs f_bandBest f_found f_drawn f_joined f_out ++ R))) (Q : Int32 × (Nat → Int32) × (Nat → Int32) × (Nat → Int32) × Nat × (Nat → Int32) → Prop) (hq : Q (FX12_moves i_keptMany f_state f_was f_kept f_order x y t)) : xC G mX12_moves 4 0 0 [.ref L, .int x, .int y, .int t] M (fun v M2 => ∃ o : Int32 × (Nat → Int32) × (Nat → Int32) × (Nat → Int32) × Nat × (Nat → Int32), v = some (.int o.1) ∧ Q o ∧ GO o.2.2.1 ∧ PE o.2.2.1 ∧ RO o.2.1 ∧ WB o.2.2.1 ∧ SO o.2.2.2.1 ∧ KO o.2.2.2.2.1 o.2.2.2.2.2 ∧ o.2.2.2.2.1 ≤ 10 ∧ M2 = (P ++ (MDL L o.2.2.2.2.1 i_taped i_faultKind i_faultPlace i_spot i_begin i_token i_value i_bad i_full i_bandRows i_bandFirsts i_outs o.2.2.1 o.2.2.2.1 o.2.2.2.2.2 f_tape o.2.1 f_rest f_ways f_costs f_bandBest f_found f_drawn f_joined f_out ++ R))) := by
  subst hM
  unfold FX12_moves at hq
  refine xC.of (by decide) (Nat.le_of_ble_eq_true rfl) ?_
  show xW _ _ _ _ 0 [(0, .ref L), (1, .int x), (2, .int y), (3, .int t)] [] _ 0 0
  refine xi_aload_n 0 dX12_moves_0 rfl ?_
  refine xi_iload_n 1 dX12_moves_1 rfl ?_
  refine xi_iload_n 2 dX12_moves_2 rfl ?_
  refine xi_callV (as := [.int x, .int y]) (rest := []) dX12_moves_3 (FX12_isPoint_ok G hP i_keptMany i_taped i_faultKind i_faultPlace i_spot i_begin i_token i_value i_bad i_full i_bandRows i_bandFirsts i_outs f_state f_was f_kept f_tape f_order f_rest f_ways f_costs f_bandBest f_found f_drawn f_joined f_out (by omega) (by omega) (by omega) (by omega) (by omega) (by omega) hG x y _ rfl (fun r => r = FX12_isPoint f_state x y) rfl) mkX12_isPoint w_1257 ws_63 w_1255 (xpg0 hP rfl) rfl rfl rfl rfl (Nat.le_of_ble_eq_true rfl) (Nat.le_of_ble_eq_true rfl) (Nat.le_of_ble_eq_true rfl) (Nat.le_of_ble_eq_true rfl) (Nat.le_of_ble_eq_true rfl) ?_
  intro v M2 hz
  obtain ⟨_, rfl, rfl, rfl⟩ := hz
  show xW _ _ _ _ 6 _ [.int (FX12_isPoint f_state x y)] (P ++ (MDL L i_keptMany i_taped i_faultKind i_faultPlace i_spot i_begin i_token i_value i_bad i_full i_bandRows i_bandFirsts i_outs f_state f_was f_kept f_tape f_order f_rest f_ways f_costs f_bandBest f_found f_drawn f_joined f_out ++ R)) _ _
  refine xi_if_eq (tgt := 18) dX12_moves_6 (by decide) (fun c1 => ?_) (fun c1 => ?_)
  · rw [if_pos c1] at hq
    refine xi_bipush (v := (-2)) dX12_moves_18 (by decide) ?_
    exact xi_iret dX12_moves_20 rfl rfl (Nat.le_of_ble_eq_true rfl) (Nat.le_of_ble_eq_true rfl) ⟨_, rfl, hq, hG, hE, hR, hT, hW, hK, (by show i_keptMany ≤ 10; omega), rfl⟩
  · rw [if_neg c1] at hq
    obtain ⟨e2, e2b, e2h⟩ := point_in c1
    have e2c : x.toNatClampNeg = e2 := by rw [e2h]; exact nI_clamp (by omega)
    try rw [e2c] at hq
    subst e2h
    have e2g := (hG e2 e2b).1.2
    obtain ⟨e3, e3b, e3h⟩ := point_in2 hG c1
    rw [nI_clamp (by omega)] at e3b
    have e3c : y.toNatClampNeg = e3 := by rw [e3h]; exact nI_clamp (by omega)
    try rw [e3c] at hq
    subst e3h
    refine xi_aload_n 0 dX12_moves_9 rfl ?_
    refine xi_iload_n 1 dX12_moves_10 rfl ?_
    refine xi_iload_n 3 dX12_moves_11 rfl ?_
    refine xi_callV (as := [.int (nI e2), .int t]) (rest := []) dX12_moves_12 (FX12_isPoint_ok G hP i_keptMany i_taped i_faultKind i_faultPlace i_spot i_begin i_token i_value i_bad i_full i_bandRows i_bandFirsts i_outs f_state f_was f_kept f_tape f_order f_rest f_ways f_costs f_bandBest f_found f_drawn f_joined f_out (by omega) (by omega) (by omega) (by omega) (by omega) (by omega) hG ((nI e2)) t _ rfl (fun r => r = FX12_isPoint f_state ((nI e2)) t) rfl) mkX12_isPoint w_1257 ws_63 w_1255 (xpg0 hP rfl) rfl rfl rfl rfl (Nat.le_of_ble_eq_true rfl) (Nat.le_of_ble_eq_true rfl) (Nat.le_of_ble_eq_true rfl) (Nat.le_of_ble_eq_true rfl) (Nat.le_of_ble_eq_true rfl) ?_
    intro v M2 hz
    obtain ⟨_, rfl, rfl, rfl⟩ := hz
    show xW _ _ _ _ 15 _ [.int (FX12_isPoint f_state ((nI e2)) t)] (P ++ (MDL L i_keptMany i_taped i_faultKind i_faultPlace i_spot i_begin i_token i_value i_bad i_full i_bandRows i_bandFirsts i_outs f_state f_was f_kept f_tape f_order f_rest f_ways f_costs f_bandBest f_found f_drawn f_joined f_out ++ R)) _ _
    refine xi_if_ne (tgt := 21) dX12_moves_15 (by decide) (fun c4 => ?_) (fun c4 => ?_)
    · rw [if_neg c4] at hq
      obtain ⟨e5, e5b, e5h⟩ := point_in2 hG c4
      rw [nI_clamp (by omega)] at e5b
      have e5c : t.toNatClampNeg = e5 := by rw [e5h]; exact nI_clamp (by omega)
      try rw [e5c] at hq
      subst e5h
      refine xi_aload_n 0 dX12_moves_21 rfl ?_
      refine xi_iload_n 1 dX12_moves_22 rfl ?_
      refine xi_callV (as := [.int (nI e2)]) (rest := []) dX12_moves_23 (FX12k_laysRow_ok G hP i_keptMany i_taped i_faultKind i_faultPlace i_spot i_begin i_token i_value i_bad i_full i_bandRows i_bandFirsts i_outs f_state f_was f_kept f_tape f_order f_rest f_ways f_costs f_bandBest f_found f_drawn f_joined f_out (by omega) (by omega) (by omega) (by omega) (by omega) (by omega) hG hE hR e2 (by omega) _ rfl (fun r => r = FX12k_laysRow f_state f_order e2) rfl) mkX12_laysRow w_1292 ws_66 w_1290 (xpg0 hP rfl) rfl rfl rfl rfl (Nat.le_of_ble_eq_true rfl) (Nat.le_of_ble_eq_true rfl) (Nat.le_of_ble_eq_true rfl) (Nat.le_of_ble_eq_true rfl) (Nat.le_of_ble_eq_true rfl) ?_
      intro v M2 hz
      obtain ⟨_, rfl, rfl, hk6, hp7, rfl⟩ := hz
      show xW _ _ _ _ 26 _ [] (P ++ (MDL L i_keptMany i_taped i_faultKind i_faultPlace i_spot i_begin i_token i_value i_bad i_full i_bandRows i_bandFirsts i_outs f_state f_was f_kept f_tape ((FX12k_laysRow f_state f_order e2).2) f_rest f_ways f_costs f_bandBest f_found f_drawn f_joined f_out ++ R)) _ _
      refine xi_iload_n 2 dX12_moves_26 rfl ?_
      refine xi_iload_n 3 dX12_moves_27 rfl ?_
      refine xi_icmp_ge (tgt := 35) dX12_moves_28 (by decide) (fun c8 => ?_) (fun c8 => ?_)
      · rw [if_pos c8] at hq
        have c8n : e5 ≤ e3 := (nI_leI (a := e5) (b := e3) (by omega) (by omega)).mp c8
        refine xi_iconst (v := (-1)) dX12_moves_35 (by decide) ?_
        refine xi_istore (lv' := [(4, .int (-1)), (0, .ref L), (1, .int (nI e2)), (2, .int (nI e3)), (3, .int (nI e5))]) dX12_moves_36 (by decide) rfl ?_
        refine xi_iload_n 3 dX12_moves_38 rfl ?_
        refine xi_istore (lv' := [(5, .int (nI e3)), (4, .int (-1)), (0, .ref L), (1, .int (nI e2)), (2, .int (nI e3)), (3, .int (nI e5))]) dX12_moves_39 (by decide) rfl ?_
        refine xi_sub (lv' := [(0, .ref L), (1, .int (nI e2)), (3, .int (nI e5)), (4, .int (-1)), (5, .int (nI e3))]) [2, 3, 5, 1, 0] rfl ?_
        refine LX12_moves_41_s G hP i_keptMany i_taped i_faultKind i_faultPlace i_spot i_begin i_token i_value i_bad i_full i_bandRows i_bandFirsts i_outs f_state f_was f_kept f_tape f_rest f_ways f_costs f_bandBest f_found f_drawn f_joined f_out (by omega) (by omega) (by omega) (by omega) (by omega) (by omega) hG hE hT hW hK e2 (by omega) e5 (by omega) Q _ (fun u11 u12 hc13 hy41 hq => ?_) (e3 - e5 + 1) e3 ((FX12k_laysRow f_state f_order e2).2) hk6 (Nat.lt_succ_self _) ⟨by omega, by omega, by assumption⟩ hq
        refine xi_aload_n 0 dX12_moves_68 rfl ?_
        refine xi_iload_n 1 dX12_moves_69 rfl ?_
        refine xi_callV (as := [.int (nI e2)]) (rest := []) dX12_moves_70 (FX12_takesRow_ok G hP i_keptMany i_taped i_faultKind i_faultPlace i_spot i_begin i_token i_value i_bad i_full i_bandRows i_bandFirsts i_outs f_state f_was f_kept f_tape u12 f_rest f_ways f_costs f_bandBest f_found f_drawn f_joined f_out (by omega) (by omega) (by omega) (by omega) (by omega) (by omega) hG hE hc13 hT hW hK e2 (by omega) (by first | assumption | exact PM_ex (by assumption) (by omega) (by omega) (by omega) (by assumption) | exact hy41.2.2 | exact hy18.2.2) _ rfl (fun r => r = FX12_takesRow i_keptMany f_state f_was f_kept u12 e2) rfl) mkX12_takesRow w_1460 ws_88 w_1458 (xpg0 hP rfl) rfl rfl rfl rfl (Nat.le_of_ble_eq_true rfl) (Nat.le_of_ble_eq_true rfl) (Nat.le_of_ble_eq_true rfl) (Nat.le_of_ble_eq_true rfl) (Nat.le_of_ble_eq_true rfl) ?_
        intro v M2 hz
        obtain ⟨_, rfl, rfl, hk14, hk15, hk16, hk17, hk18, hn19, rfl⟩ := hz
        show xW _ _ _ _ 73 _ [.int ((FX12_takesRow i_keptMany f_state f_was f_kept u12 e2).1)] (P ++ (MDL L ((FX12_takesRow i_keptMany f_state f_was f_kept u12 e2).2.2.2.1) i_taped i_faultKind i_faultPlace i_spot i_begin i_token i_value i_bad i_full i_bandRows i_bandFirsts i_outs ((FX12_takesRow i_keptMany f_state f_was f_kept u12 e2).2.1) ((FX12_takesRow i_keptMany f_state f_was f_kept u12 e2).2.2.1) ((FX12_takesRow i_keptMany f_state f_was f_kept u12 e2).2.2.2.2) f_tape u12 f_rest f_ways f_costs f_bandBest f_found f_drawn f_joined f_out ++ R)) _ _
        refine xi_istore (lv' := [(5, .int ((FX12_takesRow i_keptMany f_state f_was f_kept u12 e2).1)), (0, .ref L), (1, .int (nI e2)), (3, .int (nI e5))]) dX12_moves_73 (by decide) rfl ?_
        refine xi_aload_n 1 dX12_moves_75 rfl ?_
        refine xi_iload_n 2 dX12_moves_76 rfl ?_
        refine xi_iload_n 3 dX12_moves_77 rfl ?_
        refine xi_callV (as := [.int (nI e2), .int (nI e5)]) (rest := []) dX12_moves_78 (FX12_at_ok G hP ((FX12_takesRow i_keptMany f_state f_was f_kept u12 e2).2.2.2.1) i_taped i_faultKind i_faultPlace i_spot i_begin i_token i_value i_bad i_full i_bandRows i_bandFirsts i_outs ((FX12_takesRow i_keptMany f_state f_was f_kept u12 e2).2.1) ((FX12_takesRow i_keptMany f_state f_was f_kept u12 e2).2.2.1) ((FX12_takesRow i_keptMany f_state f_was f_kept u12 e2).2.2.2.2) f_tape u12 f_rest f_ways f_costs f_bandBest f_found f_drawn f_joined f_out (by omega) (by omega) (by omega) (by omega) (by omega) (by omega) e2 (by omega) e5 (by omega) _ rfl (fun r => r = nI ((((FX12_takesRow i_keptMany f_state f_was f_kept u12 e2).2.1) (91 * e2 + 82 + e5)).toNatClampNeg)) (((hk14 e2 (by omega)).2 e5 (by omega)).1)) mkX12_at w_1273 ws_64 w_1271 (xpg0 hP rfl) rfl rfl rfl rfl (Nat.le_of_ble_eq_true rfl) (Nat.le_of_ble_eq_true rfl) (Nat.le_of_ble_eq_true rfl) (Nat.le_of_ble_eq_true rfl) (Nat.le_of_ble_eq_true rfl) ?_
        intro v M2 hz
        obtain ⟨_, rfl, rfl, rfl⟩ := hz
        show xW _ _ _ _ 81 _ [.int (nI ((((FX12_takesRow i_keptMany f_state f_was f_kept u12 e2).2.1) (91 * e2 + 82 + e5)).toNatClampNeg))] (P ++ (MDL L ((FX12_takesRow i_keptMany f_state f_was f_kept u12 e2).2.2.2.1) i_taped i_faultKind i_faultPlace i_spot i_begin i_token i_value i_bad i_full i_bandRows i_bandFirsts i_outs ((FX12_takesRow i_keptMany f_state f_was f_kept u12 e2).2.1) ((FX12_takesRow i_keptMany f_state f_was f_kept u12 e2).2.2.1) ((FX12_takesRow i_keptMany f_state f_was f_kept u12 e2).2.2.2.2) f_tape u12 f_rest f_ways f_costs f_bandBest f_found f_drawn f_joined f_out ++ R)) _ _
        have o20 := ((hk14 e2 (by omega)).2 e5 (by omega)).2
        exact xi_iret dX12_moves_81 rfl rfl (Nat.le_of_ble_eq_true rfl) (Nat.le_of_ble_eq_true rfl) ⟨_, rfl, hq, hk14, hk15, hc13, hk16, hk17, hk18, (by show ((FX12_takesRow i_keptMany f_state f_was f_kept u12 e2).2.2.2.1) ≤ 10; omega), rfl⟩
      · rw [if_neg c8] at hq
        have c8n : ¬ e5 ≤ e3 := fun e => c8 ((nI_leI (a := e5) (b := e3) (by omega) (by omega)).mpr e)
        refine xi_iconst (v := 1) dX12_moves_31 (by decide) ?_
        refine xi_goto (tgt := 36) dX12_moves_32 (by decide) ?_
        refine xi_istore (lv' := [(4, .int 1), (0, .ref L), (1, .int (nI e2)), (2, .int (nI e3)), (3, .int (nI e5))]) dX12_moves_36 (by decide) rfl ?_
        refine xi_iload_n 3 dX12_moves_38 rfl ?_
        refine xi_istore (lv' := [(5, .int (nI e3)), (4, .int 1), (0, .ref L), (1, .int (nI e2)), (2, .int (nI e3)), (3, .int (nI e5))]) dX12_moves_39 (by decide) rfl ?_
        refine xi_sub (lv' := [(0, .ref L), (1, .int (nI e2)), (3, .int (nI e5)), (4, .int 1), (5, .int (nI e3))]) [2, 3, 5, 1, 0] rfl ?_
        refine LX12_moves_41_1_s G hP i_keptMany i_taped i_faultKind i_faultPlace i_spot i_begin i_token i_value i_bad i_full i_bandRows i_bandFirsts i_outs f_state f_was f_kept f_tape f_rest f_ways f_costs f_bandBest f_found f_drawn f_joined f_out (by omega) (by omega) (by omega) (by omega) (by omega) (by omega) hG hE hT hW hK e2 (by omega) e5 (by omega) Q _ (fun u23 u24 hc25 hy41 hq => ?_) (e5 - e3 + 1) e3 ((FX12k_laysRow f_state f_order e2).2) hk6 (Nat.lt_succ_self _) ⟨by omega, by omega, by assumption⟩ hq
        refine xi_aload_n 0 dX12_moves_68 rfl ?_
        refine xi_iload_n 1 dX12_moves_69 rfl ?_
        refine xi_callV (as := [.int (nI e2)]) (rest := []) dX12_moves_70 (FX12_takesRow_ok G hP i_keptMany i_taped i_faultKind i_faultPlace i_spot i_begin i_token i_value i_bad i_full i_bandRows i_bandFirsts i_outs f_state f_was f_kept f_tape u24 f_rest f_ways f_costs f_bandBest f_found f_drawn f_joined f_out (by omega) (by omega) (by omega) (by omega) (by omega) (by omega) hG hE hc25 hT hW hK e2 (by omega) (by first | assumption | exact PM_ex (by assumption) (by omega) (by omega) (by omega) (by assumption) | exact hy41.2.2 | exact hy18.2.2) _ rfl (fun r => r = FX12_takesRow i_keptMany f_state f_was f_kept u24 e2) rfl) mkX12_takesRow w_1460 ws_88 w_1458 (xpg0 hP rfl) rfl rfl rfl rfl (Nat.le_of_ble_eq_true rfl) (Nat.le_of_ble_eq_true rfl) (Nat.le_of_ble_eq_true rfl) (Nat.le_of_ble_eq_true rfl) (Nat.le_of_ble_eq_true rfl) ?_
        intro v M2 hz
        obtain ⟨_, rfl, rfl, hk26, hk27, hk28, hk29, hk30, hn31, rfl⟩ := hz
        show xW _ _ _ _ 73 _ [.int ((FX12_takesRow i_keptMany f_state f_was f_kept u24 e2).1)] (P ++ (MDL L ((FX12_takesRow i_keptMany f_state f_was f_kept u24 e2).2.2.2.1) i_taped i_faultKind i_faultPlace i_spot i_begin i_token i_value i_bad i_full i_bandRows i_bandFirsts i_outs ((FX12_takesRow i_keptMany f_state f_was f_kept u24 e2).2.1) ((FX12_takesRow i_keptMany f_state f_was f_kept u24 e2).2.2.1) ((FX12_takesRow i_keptMany f_state f_was f_kept u24 e2).2.2.2.2) f_tape u24 f_rest f_ways f_costs f_bandBest f_found f_drawn f_joined f_out ++ R)) _ _
        refine xi_istore (lv' := [(5, .int ((FX12_takesRow i_keptMany f_state f_was f_kept u24 e2).1)), (0, .ref L), (1, .int (nI e2)), (3, .int (nI e5))]) dX12_moves_73 (by decide) rfl ?_
        refine xi_aload_n 1 dX12_moves_75 rfl ?_
        refine xi_iload_n 2 dX12_moves_76 rfl ?_
        refine xi_iload_n 3 dX12_moves_77 rfl ?_
        refine xi_callV (as := [.int (nI e2), .int (nI e5)]) (rest := []) dX12_moves_78 (FX12_at_ok G hP ((FX12_takesRow i_keptMany f_state f_was f_kept u24 e2).2.2.2.1) i_taped i_faultKind i_faultPlace i_spot i_begin i_token i_value i_bad i_full i_bandRows i_bandFirsts i_outs ((FX12_takesRow i_keptMany f_state f_was f_kept u24 e2).2.1) ((FX12_takesRow i_keptMany f_state f_was f_kept u24 e2).2.2.1) ((FX12_takesRow i_keptMany f_state f_was f_kept u24 e2).2.2.2.2) f_tape u24 f_rest f_ways f_costs f_bandBest f_found f_drawn f_joined f_out (by omega) (by omega) (by omega) (by omega) (by omega) (by omega) e2 (by omega) e5 (by omega) _ rfl (fun r => r = nI ((((FX12_takesRow i_keptMany f_state f_was f_kept u24 e2).2.1) (91 * e2 + 82 + e5)).toNatClampNeg)) (((hk26 e2 (by omega)).2 e5 (by omega)).1)) mkX12_at w_1273 ws_64 w_1271 (xpg0 hP rfl) rfl rfl rfl rfl (Nat.le_of_ble_eq_true rfl) (Nat.le_of_ble_eq_true rfl) (Nat.le_of_ble_eq_true rfl) (Nat.le_of_ble_eq_true rfl) (Nat.le_of_ble_eq_true rfl) ?_
        intro v M2 hz
        obtain ⟨_, rfl, rfl, rfl⟩ := hz
        show xW _ _ _ _ 81 _ [.int (nI ((((FX12_takesRow i_keptMany f_state f_was f_kept u24 e2).2.1) (91 * e2 + 82 + e5)).toNatClampNeg))] (P ++ (MDL L ((FX12_takesRow i_keptMany f_state f_was f_kept u24 e2).2.2.2.1) i_taped i_faultKind i_faultPlace i_spot i_begin i_token i_value i_bad i_full i_bandRows i_bandFirsts i_outs ((FX12_takesRow i_keptMany f_state f_was f_kept u24 e2).2.1) ((FX12_takesRow i_keptMany f_state f_was f_kept u24 e2).2.2.1) ((FX12_takesRow i_keptMany f_state f_was f_kept u24 e2).2.2.2.2) f_tape u24 f_rest f_ways f_costs f_bandBest f_found f_drawn f_joined f_out ++ R)) _ _
        have o32 := ((hk26 e2 (by omega)).2 e5 (by omega)).2
        exact xi_iret dX12_moves_81 rfl rfl (Nat.le_of_ble_eq_true rfl) (Nat.le_of_ble_eq_true rfl) ⟨_, rfl, hq, hk26, hk27, hc25, hk28, hk29, hk30, (by show ((FX12_takesRow i_keptMany f_state f_was f_kept u24 e2).2.2.2.1) ≤ 10; omega), rfl⟩
    · rw [if_pos c4] at hq
      refine xi_bipush (v := (-2)) dX12_moves_18 (by decide) ?_
      exact xi_iret dX12_moves_20 rfl rfl (Nat.le_of_ble_eq_true rfl) (Nat.le_of_ble_eq_true rfl) ⟨_, rfl, hq, hG, hE, hR, hT, hW, hK, (by show i_keptMany ≤ 10; omega), rfl⟩
def LX12_reverse_18 (i_keptMany : Nat) (f_state : Nat → Int32) (f_was : Nat → Int32) (f_kept : Nat → Int32) (n1 : Nat) (K : Nat → (Nat → Int32) → Int32 × (Nat → Int32) × (Nat → Int32) × (Nat → Int32) × Nat × (Nat → Int32)) : Nat → Nat → (Nat → Int32) → Int32 × (Nat → Int32) × (Nat → Int32) × (Nat → Int32) × Nat × (Nat → Int32)
  | 0, v2, f_order => K v2 f_order
  | k + 1, v2, f_order => (if (nI ((((f_state (91 * n1)).toNatClampNeg) - 1) - v2)) ≤ (nI v2) then (K v2 f_order) else (LX12_reverse_18 i_keptMany f_state f_was f_kept n1 K k (v2 + 1) ((FX12k_exchanges f_order v2 ((((f_state (91 * n1)).toNatClampNeg) - 1) - v2)).2)))
set_option maxHeartbeats 4000000 in
set_option maxRecDepth 100000 in
theorem LX12_reverse_18_s (G : xG) {P R : xMem} {L : Nat} (hP : P.length = L) (i_keptMany : Nat) (i_taped : Nat) (i_faultKind : Int32) (i_faultPlace : Int32) (i_spot : Nat) (i_begin : Nat) (i_token : Int32) (i_value : Int32) (i_bad : Int32) (i_full : Nat) (i_bandRows : Int32) (i_bandFirsts : Int32) (i_outs : Nat) (f_state : Nat → Int32) (f_was : Nat → Int32) (f_kept : Nat → Int32) (f_tape : Nat → Int32) (f_rest : Nat → Int32) (f_ways : Nat → Int32) (f_costs : Nat → Int32) (f_bandBest : Nat → Int32) (f_found : Nat → Int32) (f_drawn : Nat → Int32) (f_joined : Nat → Int32) (f_out : Nat → Int32) (bi_keptMany : i_keptMany ≤ 10) (bi_taped : i_taped ≤ 400) (bi_spot : i_spot ≤ 400) (bi_begin : i_begin ≤ 400) (bi_full : i_full ≤ 511) (bi_outs : i_outs ≤ 400) (hG : GO f_state) (hE : PE f_state) (hT : WB f_state) (hW : SO f_was) (hK : KO i_keptMany f_kept) (n1 : Nat) (bn1 : n1 < 3) (Q : Int32 × (Nat → Int32) × (Nat → Int32) × (Nat → Int32) × Nat × (Nat → Int32) → Prop) (K : Nat → (Nat → Int32) → Int32 × (Nat → Int32) × (Nat → Int32) × (Nat → Int32) × Nat × (Nat → Int32)) (HE : ∀ (v2 : Nat) (f_order : Nat → Int32) (hR : RO f_order) (hy : v2 ≤ (f_state (91 * n1)).toNatClampNeg - 1 ∧ 1 ≤ (f_state (91 * n1)).toNatClampNeg ∧ PM (f_state (91 * n1)).toNatClampNeg f_order), Q (K v2 f_order) → xW G mX12_reverse (xrm 3 0 0) (xQ G (fun v M2 => ∃ o : Int32 × (Nat → Int32) × (Nat → Int32) × (Nat → Int32) × Nat × (Nat → Int32), v = some (.int o.1) ∧ Q o ∧ GO o.2.2.1 ∧ PE o.2.2.1 ∧ RO o.2.1 ∧ WB o.2.2.1 ∧ SO o.2.2.2.1 ∧ KO o.2.2.2.2.1 o.2.2.2.2.2 ∧ o.2.2.2.2.1 ≤ 10 ∧ M2 = (P ++ (MDL L o.2.2.2.2.1 i_taped i_faultKind i_faultPlace i_spot i_begin i_token i_value i_bad i_full i_bandRows i_bandFirsts i_outs o.2.2.1 o.2.2.2.1 o.2.2.2.2.2 f_tape o.2.1 f_rest f_ways f_costs f_bandBest f_found f_drawn f_joined f_out ++ R))) 0 0) 51 [(0, .ref L), (1, .int (nI n1))] [] (P ++ (MDL L i_keptMany i_taped i_faultKind i_faultPlace i_spot i_begin i_token i_value i_bad i_full i_bandRows i_bandFirsts i_outs f_state f_was f_kept f_tape f_order f_rest f_ways f_costs f_bandBest f_found f_drawn f_joined f_out ++ R)) 0 0) :
    ∀ (k : Nat) (v2 : Nat) (f_order : Nat → Int32) (hR : RO f_order), (f_state (91 * n1)).toNatClampNeg - v2 < k → (v2 ≤ (f_state (91 * n1)).toNatClampNeg - 1 ∧ 1 ≤ (f_state (91 * n1)).toNatClampNeg ∧ PM (f_state (91 * n1)).toNatClampNeg f_order) → Q (LX12_reverse_18 i_keptMany f_state f_was f_kept n1 K k v2 f_order) → xW G mX12_reverse (xrm 3 0 0) (xQ G (fun v M2 => ∃ o : Int32 × (Nat → Int32) × (Nat → Int32) × (Nat → Int32) × Nat × (Nat → Int32), v = some (.int o.1) ∧ Q o ∧ GO o.2.2.1 ∧ PE o.2.2.1 ∧ RO o.2.1 ∧ WB o.2.2.1 ∧ SO o.2.2.2.1 ∧ KO o.2.2.2.2.1 o.2.2.2.2.2 ∧ o.2.2.2.2.1 ≤ 10 ∧ M2 = (P ++ (MDL L o.2.2.2.2.1 i_taped i_faultKind i_faultPlace i_spot i_begin i_token i_value i_bad i_full i_bandRows i_bandFirsts i_outs o.2.2.1 o.2.2.2.1 o.2.2.2.2.2 f_tape o.2.1 f_rest f_ways f_costs f_bandBest f_found f_drawn f_joined f_out ++ R))) 0 0) 18 [(0, .ref L), (1, .int (nI n1)), (2, .int (nI v2))] [] (P ++ (MDL L i_keptMany i_taped i_faultKind i_faultPlace i_spot i_begin i_token i_value i_bad i_full i_bandRows i_bandFirsts i_outs f_state f_was f_kept f_tape f_order f_rest f_ways f_costs f_bandBest f_found f_drawn f_joined f_out ++ R)) 0 0 := by
  intro k
  induction k with
  | zero =>
    intro v2 f_order hR hmu
    exact absurd hmu (Nat.not_lt_zero _)
  | succ k ih =>
    intro v2 f_order hR hmu hy hq
    rw [LX12_reverse_18] at hq
    have hPG := (hG n1 (by omega)).1.2
    refine xi_iload_n 2 dX12_reverse_18 rfl ?_
    refine xi_aload_n 0 dX12_reverse_19 rfl ?_
    refine xi_iload_n 1 dX12_reverse_20 rfl ?_
    refine xi_callV (as := [.int (nI n1)]) (rest := [.int (nI v2)]) dX12_reverse_21 (FX12_points_ok G hP i_keptMany i_taped i_faultKind i_faultPlace i_spot i_begin i_token i_value i_bad i_full i_bandRows i_bandFirsts i_outs f_state f_was f_kept f_tape f_order f_rest f_ways f_costs f_bandBest f_found f_drawn f_joined f_out (by omega) (by omega) (by omega) (by omega) (by omega) (by omega) n1 (by omega) _ rfl (fun r => r = nI ((f_state (91 * n1)).toNatClampNeg)) ((hG n1 (by omega)).1.1)) mkX12_points w_1108 ws_36 w_1106 (xpg0 hP rfl) rfl rfl rfl rfl (Nat.le_of_ble_eq_true rfl) (Nat.le_of_ble_eq_true rfl) (Nat.le_of_ble_eq_true rfl) (Nat.le_of_ble_eq_true rfl) (Nat.le_of_ble_eq_true rfl) ?_
    intro v M2 hz
    obtain ⟨_, rfl, rfl, rfl⟩ := hz
    show xW _ _ _ _ 24 _ [.int (nI ((f_state (91 * n1)).toNatClampNeg)), .int (nI v2)] (P ++ (MDL L i_keptMany i_taped i_faultKind i_faultPlace i_spot i_begin i_token i_value i_bad i_full i_bandRows i_bandFirsts i_outs f_state f_was f_kept f_tape f_order f_rest f_ways f_costs f_bandBest f_found f_drawn f_joined f_out ++ R)) _ _
    have o5 := (hG n1 (by omega)).1.2
    refine xi_iconst (v := 1) dX12_reverse_24 (by decide) ?_
    refine xi_isub (v := (nI (((f_state (91 * n1)).toNatClampNeg) - 1))) dX12_reverse_25 (pk_sub (a := ((f_state (91 * n1)).toNatClampNeg)) (b := 1) (by omega)) ?_
    refine xi_iload_n 2 dX12_reverse_26 rfl ?_
    refine xi_isub (v := (nI ((((f_state (91 * n1)).toNatClampNeg) - 1) - v2))) dX12_reverse_27 (pk_sub (a := (((f_state (91 * n1)).toNatClampNeg) - 1)) (b := v2) (by omega)) ?_
    refine xi_icmp_ge (tgt := 51) dX12_reverse_28 (by decide) (fun c6 => ?_) (fun c6 => ?_)
    · rw [if_pos c6] at hq
      have c6n : ((((f_state (91 * n1)).toNatClampNeg) - 1) - v2) ≤ v2 := (nI_leI (a := ((((f_state (91 * n1)).toNatClampNeg) - 1) - v2)) (b := v2) (by omega) (by omega)).mp c6
      refine xi_sub (lv' := [(0, .ref L), (1, .int (nI n1))]) [0, 1] rfl ?_
      exact HE v2 f_order hR (by first | exact hy | omega) hq
    · rw [if_neg c6] at hq
      have c6n : ¬ ((((f_state (91 * n1)).toNatClampNeg) - 1) - v2) ≤ v2 := fun e => c6 ((nI_leI (a := ((((f_state (91 * n1)).toNatClampNeg) - 1) - v2)) (b := v2) (by omega) (by omega)).mpr e)
      refine xi_aload_n 0 dX12_reverse_31 rfl ?_
      refine xi_iload_n 2 dX12_reverse_32 rfl ?_
      refine xi_aload_n 0 dX12_reverse_33 rfl ?_
      refine xi_iload_n 1 dX12_reverse_34 rfl ?_
      refine xi_callV (as := [.int (nI n1)]) (rest := [.int (nI v2), .ref L]) dX12_reverse_35 (FX12_points_ok G hP i_keptMany i_taped i_faultKind i_faultPlace i_spot i_begin i_token i_value i_bad i_full i_bandRows i_bandFirsts i_outs f_state f_was f_kept f_tape f_order f_rest f_ways f_costs f_bandBest f_found f_drawn f_joined f_out (by omega) (by omega) (by omega) (by omega) (by omega) (by omega) n1 (by omega) _ rfl (fun r => r = nI ((f_state (91 * n1)).toNatClampNeg)) ((hG n1 (by omega)).1.1)) mkX12_points w_1108 ws_36 w_1106 (xpg0 hP rfl) rfl rfl rfl rfl (Nat.le_of_ble_eq_true rfl) (Nat.le_of_ble_eq_true rfl) (Nat.le_of_ble_eq_true rfl) (Nat.le_of_ble_eq_true rfl) (Nat.le_of_ble_eq_true rfl) ?_
      intro v M2 hz
      obtain ⟨_, rfl, rfl, rfl⟩ := hz
      show xW _ _ _ _ 38 _ [.int (nI ((f_state (91 * n1)).toNatClampNeg)), .int (nI v2), .ref L] (P ++ (MDL L i_keptMany i_taped i_faultKind i_faultPlace i_spot i_begin i_token i_value i_bad i_full i_bandRows i_bandFirsts i_outs f_state f_was f_kept f_tape f_order f_rest f_ways f_costs f_bandBest f_found f_drawn f_joined f_out ++ R)) _ _
      have o7 := (hG n1 (by omega)).1.2
      refine xi_iconst (v := 1) dX12_reverse_38 (by decide) ?_
      refine xi_isub (v := (nI (((f_state (91 * n1)).toNatClampNeg) - 1))) dX12_reverse_39 (pk_sub (a := ((f_state (91 * n1)).toNatClampNeg)) (b := 1) (by omega)) ?_
      refine xi_iload_n 2 dX12_reverse_40 rfl ?_
      refine xi_isub (v := (nI ((((f_state (91 * n1)).toNatClampNeg) - 1) - v2))) dX12_reverse_41 (pk_sub (a := (((f_state (91 * n1)).toNatClampNeg) - 1)) (b := v2) (by omega)) ?_
      refine xi_callV (as := [.int (nI v2), .int (nI ((((f_state (91 * n1)).toNatClampNeg) - 1) - v2))]) (rest := []) dX12_reverse_42 (FX12k_exchanges_ok G hP i_keptMany i_taped i_faultKind i_faultPlace i_spot i_begin i_token i_value i_bad i_full i_bandRows i_bandFirsts i_outs f_state f_was f_kept f_tape f_order f_rest f_ways f_costs f_bandBest f_found f_drawn f_joined f_out (by omega) (by omega) (by omega) (by omega) (by omega) (by omega) hR v2 (by omega) ((((f_state (91 * n1)).toNatClampNeg) - 1) - v2) (by omega) _ rfl (fun r => r = FX12k_exchanges f_order v2 ((((f_state (91 * n1)).toNatClampNeg) - 1) - v2)) rfl) mkX12_exchanges w_1452 ws_87 w_1450 (xpg0 hP rfl) rfl rfl rfl rfl (Nat.le_of_ble_eq_true rfl) (Nat.le_of_ble_eq_true rfl) (Nat.le_of_ble_eq_true rfl) (Nat.le_of_ble_eq_true rfl) (Nat.le_of_ble_eq_true rfl) ?_
      intro v M2 hz
      obtain ⟨_, rfl, rfl, hk8, rfl⟩ := hz
      show xW _ _ _ _ 45 _ [] (P ++ (MDL L i_keptMany i_taped i_faultKind i_faultPlace i_spot i_begin i_token i_value i_bad i_full i_bandRows i_bandFirsts i_outs f_state f_was f_kept f_tape ((FX12k_exchanges f_order v2 ((((f_state (91 * n1)).toNatClampNeg) - 1) - v2)).2) f_rest f_ways f_costs f_bandBest f_found f_drawn f_joined f_out ++ R)) _ _
      refine xi_iinc (v := (nI (v2 + 1))) (lv' := [(2, .int (nI (v2 + 1))), (0, .ref L), (1, .int (nI n1))]) 2 dX12_reverse_45 rfl (nI_1 _) (by decide) rfl ?_
      refine xi_goto (tgt := 18) dX12_reverse_48 (by decide) ?_
      refine xi_sub (lv' := [(0, .ref L), (1, .int (nI n1)), (2, .int (nI (v2 + 1)))]) [1, 2, 0] rfl ?_
      exact ih (v2 + 1) ((FX12k_exchanges f_order v2 ((((f_state (91 * n1)).toNatClampNeg) - 1) - v2)).2) hk8 (by first | omega | exact ⟨by omega, by omega, PM_ex hR (by omega) (by omega) (by omega) hy.2.2⟩) (by first | omega | exact ⟨by omega, by omega, PM_ex hR (by omega) (by omega) (by omega) hy.2.2⟩) hq
def FX12_reverse (i_keptMany : Nat) (f_state : Nat → Int32) (f_was : Nat → Int32) (f_kept : Nat → Int32) (f_order : Nat → Int32) (x : Int32) : Int32 × (Nat → Int32) × (Nat → Int32) × (Nat → Int32) × Nat × (Nat → Int32) := (if (FX12_isNet f_state x) = (0 : Int32) then ((-2 : Int32), f_order, f_state, f_was, i_keptMany, f_kept) else (LX12_reverse_18 i_keptMany f_state f_was f_kept x.toNatClampNeg (fun u9 u10 => ((nI ((((FX12_takesRow i_keptMany f_state f_was f_kept u10 x.toNatClampNeg).2.1) (91 * x.toNatClampNeg + 82 + 0)).toNatClampNeg)), u10, (FX12_takesRow i_keptMany f_state f_was f_kept u10 x.toNatClampNeg).2.1, (FX12_takesRow i_keptMany f_state f_was f_kept u10 x.toNatClampNeg).2.2.1, (FX12_takesRow i_keptMany f_state f_was f_kept u10 x.toNatClampNeg).2.2.2.1, (FX12_takesRow i_keptMany f_state f_was f_kept u10 x.toNatClampNeg).2.2.2.2)) ((f_state (91 * x.toNatClampNeg)).toNatClampNeg - 0 + 1) 0 ((FX12k_laysRow f_state f_order x.toNatClampNeg).2)))
set_option maxHeartbeats 4000000 in
set_option maxRecDepth 100000 in
theorem FX12_reverse_ok (G : xG) {P R : xMem} {L : Nat} (hP : P.length = L) (i_keptMany : Nat) (i_taped : Nat) (i_faultKind : Int32) (i_faultPlace : Int32) (i_spot : Nat) (i_begin : Nat) (i_token : Int32) (i_value : Int32) (i_bad : Int32) (i_full : Nat) (i_bandRows : Int32) (i_bandFirsts : Int32) (i_outs : Nat) (f_state : Nat → Int32) (f_was : Nat → Int32) (f_kept : Nat → Int32) (f_tape : Nat → Int32) (f_order : Nat → Int32) (f_rest : Nat → Int32) (f_ways : Nat → Int32) (f_costs : Nat → Int32) (f_bandBest : Nat → Int32) (f_found : Nat → Int32) (f_drawn : Nat → Int32) (f_joined : Nat → Int32) (f_out : Nat → Int32) (bi_keptMany : i_keptMany ≤ 10) (bi_taped : i_taped ≤ 400) (bi_spot : i_spot ≤ 400) (bi_begin : i_begin ≤ 400) (bi_full : i_full ≤ 511) (bi_outs : i_outs ≤ 400) (hG : GO f_state) (hE : PE f_state) (hR : RO f_order) (hT : WB f_state) (hW : SO f_was) (hK : KO i_keptMany f_kept) (x : Int32) (M : xMem) (hM : M = (P ++ (MDL L i_keptMany i_taped i_faultKind i_faultPlace i_spot i_begin i_token i_value i_bad i_full i_bandRows i_bandFirsts i_outs f_state f_was f_kept f_tape f_order f_rest f_ways f_costs f_bandBest f_found f_drawn f_joined f_out ++ R))) (Q : Int32 × (Nat → Int32) × (Nat → Int32) × (Nat → Int32) × Nat × (Nat → Int32) → Prop) (hq : Q (FX12_reverse i_keptMany f_state f_was f_kept f_order x)) : xC G mX12_reverse 3 0 0 [.ref L, .int x] M (fun v M2 => ∃ o : Int32 × (Nat → Int32) × (Nat → Int32) × (Nat → Int32) × Nat × (Nat → Int32), v = some (.int o.1) ∧ Q o ∧ GO o.2.2.1 ∧ PE o.2.2.1 ∧ RO o.2.1 ∧ WB o.2.2.1 ∧ SO o.2.2.2.1 ∧ KO o.2.2.2.2.1 o.2.2.2.2.2 ∧ o.2.2.2.2.1 ≤ 10 ∧ M2 = (P ++ (MDL L o.2.2.2.2.1 i_taped i_faultKind i_faultPlace i_spot i_begin i_token i_value i_bad i_full i_bandRows i_bandFirsts i_outs o.2.2.1 o.2.2.2.1 o.2.2.2.2.2 f_tape o.2.1 f_rest f_ways f_costs f_bandBest f_found f_drawn f_joined f_out ++ R))) := by
  subst hM
  unfold FX12_reverse at hq
  refine xC.of (by decide) (Nat.le_of_ble_eq_true rfl) ?_
  show xW _ _ _ _ 0 [(0, .ref L), (1, .int x)] [] _ 0 0
  refine xi_aload_n 0 dX12_reverse_0 rfl ?_
  refine xi_iload_n 1 dX12_reverse_1 rfl ?_
  refine xi_callV (as := [.int x]) (rest := []) dX12_reverse_2 (FX12_isNet_ok G hP i_keptMany i_taped i_faultKind i_faultPlace i_spot i_begin i_token i_value i_bad i_full i_bandRows i_bandFirsts i_outs f_state f_was f_kept f_tape f_order f_rest f_ways f_costs f_bandBest f_found f_drawn f_joined f_out (by omega) (by omega) (by omega) (by omega) (by omega) (by omega) hG x _ rfl (fun r => r = FX12_isNet f_state x) rfl) mkX12_isNet w_1104 ws_35 w_1102 (xpg0 hP rfl) rfl rfl rfl rfl (Nat.le_of_ble_eq_true rfl) (Nat.le_of_ble_eq_true rfl) (Nat.le_of_ble_eq_true rfl) (Nat.le_of_ble_eq_true rfl) (Nat.le_of_ble_eq_true rfl) ?_
  intro v M2 hz
  obtain ⟨_, rfl, rfl, rfl⟩ := hz
  show xW _ _ _ _ 5 _ [.int (FX12_isNet f_state x)] (P ++ (MDL L i_keptMany i_taped i_faultKind i_faultPlace i_spot i_begin i_token i_value i_bad i_full i_bandRows i_bandFirsts i_outs f_state f_was f_kept f_tape f_order f_rest f_ways f_costs f_bandBest f_found f_drawn f_joined f_out ++ R)) _ _
  refine xi_if_ne (tgt := 11) dX12_reverse_5 (by decide) (fun c1 => ?_) (fun c1 => ?_)
  · rw [if_neg c1] at hq
    obtain ⟨e2, e2b, e2h⟩ := net_in c1
    have e2c : x.toNatClampNeg = e2 := by rw [e2h]; exact nI_clamp (by omega)
    try rw [e2c] at hq
    subst e2h
    have e2g := (hG e2 e2b).1.2
    have e2p := net_pos e2b hG c1
    refine xi_aload_n 0 dX12_reverse_11 rfl ?_
    refine xi_iload_n 1 dX12_reverse_12 rfl ?_
    refine xi_callV (as := [.int (nI e2)]) (rest := []) dX12_reverse_13 (FX12k_laysRow_ok G hP i_keptMany i_taped i_faultKind i_faultPlace i_spot i_begin i_token i_value i_bad i_full i_bandRows i_bandFirsts i_outs f_state f_was f_kept f_tape f_order f_rest f_ways f_costs f_bandBest f_found f_drawn f_joined f_out (by omega) (by omega) (by omega) (by omega) (by omega) (by omega) hG hE hR e2 (by omega) _ rfl (fun r => r = FX12k_laysRow f_state f_order e2) rfl) mkX12_laysRow w_1292 ws_66 w_1290 (xpg0 hP rfl) rfl rfl rfl rfl (Nat.le_of_ble_eq_true rfl) (Nat.le_of_ble_eq_true rfl) (Nat.le_of_ble_eq_true rfl) (Nat.le_of_ble_eq_true rfl) (Nat.le_of_ble_eq_true rfl) ?_
    intro v M2 hz
    obtain ⟨_, rfl, rfl, hk3, hp4, rfl⟩ := hz
    show xW _ _ _ _ 16 _ [] (P ++ (MDL L i_keptMany i_taped i_faultKind i_faultPlace i_spot i_begin i_token i_value i_bad i_full i_bandRows i_bandFirsts i_outs f_state f_was f_kept f_tape ((FX12k_laysRow f_state f_order e2).2) f_rest f_ways f_costs f_bandBest f_found f_drawn f_joined f_out ++ R)) _ _
    refine xi_iconst (v := 0) dX12_reverse_16 (by decide) ?_
    refine xi_istore_n (lv' := [(2, .int 0), (0, .ref L), (1, .int (nI e2))]) dX12_reverse_17 (by decide) rfl ?_
    refine xi_sub (lv' := [(0, .ref L), (1, .int (nI e2)), (2, .int 0)]) [1, 2, 0] rfl ?_
    refine LX12_reverse_18_s G hP i_keptMany i_taped i_faultKind i_faultPlace i_spot i_begin i_token i_value i_bad i_full i_bandRows i_bandFirsts i_outs f_state f_was f_kept f_tape f_rest f_ways f_costs f_bandBest f_found f_drawn f_joined f_out (by omega) (by omega) (by omega) (by omega) (by omega) (by omega) hG hE hT hW hK e2 (by omega) Q _ (fun u9 u10 hc11 hy18 hq => ?_) ((f_state (91 * e2)).toNatClampNeg - 0 + 1) 0 ((FX12k_laysRow f_state f_order e2).2) hk3 (Nat.lt_succ_self _) ⟨by omega, by omega, by assumption⟩ hq
    refine xi_aload_n 0 dX12_reverse_51 rfl ?_
    refine xi_iload_n 1 dX12_reverse_52 rfl ?_
    refine xi_callV (as := [.int (nI e2)]) (rest := []) dX12_reverse_53 (FX12_takesRow_ok G hP i_keptMany i_taped i_faultKind i_faultPlace i_spot i_begin i_token i_value i_bad i_full i_bandRows i_bandFirsts i_outs f_state f_was f_kept f_tape u10 f_rest f_ways f_costs f_bandBest f_found f_drawn f_joined f_out (by omega) (by omega) (by omega) (by omega) (by omega) (by omega) hG hE hc11 hT hW hK e2 (by omega) (by first | assumption | exact PM_ex (by assumption) (by omega) (by omega) (by omega) (by assumption) | exact hy41.2.2 | exact hy18.2.2) _ rfl (fun r => r = FX12_takesRow i_keptMany f_state f_was f_kept u10 e2) rfl) mkX12_takesRow w_1460 ws_88 w_1458 (xpg0 hP rfl) rfl rfl rfl rfl (Nat.le_of_ble_eq_true rfl) (Nat.le_of_ble_eq_true rfl) (Nat.le_of_ble_eq_true rfl) (Nat.le_of_ble_eq_true rfl) (Nat.le_of_ble_eq_true rfl) ?_
    intro v M2 hz
    obtain ⟨_, rfl, rfl, hk12, hk13, hk14, hk15, hk16, hn17, rfl⟩ := hz
    show xW _ _ _ _ 56 _ [.int ((FX12_takesRow i_keptMany f_state f_was f_kept u10 e2).1)] (P ++ (MDL L ((FX12_takesRow i_keptMany f_state f_was f_kept u10 e2).2.2.2.1) i_taped i_faultKind i_faultPlace i_spot i_begin i_token i_value i_bad i_full i_bandRows i_bandFirsts i_outs ((FX12_takesRow i_keptMany f_state f_was f_kept u10 e2).2.1) ((FX12_takesRow i_keptMany f_state f_was f_kept u10 e2).2.2.1) ((FX12_takesRow i_keptMany f_state f_was f_kept u10 e2).2.2.2.2) f_tape u10 f_rest f_ways f_costs f_bandBest f_found f_drawn f_joined f_out ++ R)) _ _
    refine xi_istore_n (lv' := [(2, .int ((FX12_takesRow i_keptMany f_state f_was f_kept u10 e2).1)), (0, .ref L), (1, .int (nI e2))]) dX12_reverse_56 (by decide) rfl ?_
    refine xi_aload_n 1 dX12_reverse_57 rfl ?_
    refine xi_iload_n 2 dX12_reverse_58 rfl ?_
    refine xi_iconst (v := 0) dX12_reverse_59 (by decide) ?_
    refine xi_callV (as := [.int (nI e2), .int 0]) (rest := []) dX12_reverse_60 (FX12_at_ok G hP ((FX12_takesRow i_keptMany f_state f_was f_kept u10 e2).2.2.2.1) i_taped i_faultKind i_faultPlace i_spot i_begin i_token i_value i_bad i_full i_bandRows i_bandFirsts i_outs ((FX12_takesRow i_keptMany f_state f_was f_kept u10 e2).2.1) ((FX12_takesRow i_keptMany f_state f_was f_kept u10 e2).2.2.1) ((FX12_takesRow i_keptMany f_state f_was f_kept u10 e2).2.2.2.2) f_tape u10 f_rest f_ways f_costs f_bandBest f_found f_drawn f_joined f_out (by omega) (by omega) (by omega) (by omega) (by omega) (by omega) e2 (by omega) 0 (by omega) _ rfl (fun r => r = nI ((((FX12_takesRow i_keptMany f_state f_was f_kept u10 e2).2.1) (91 * e2 + 82 + 0)).toNatClampNeg)) (((hk12 e2 (by omega)).2 0 (by omega)).1)) mkX12_at w_1273 ws_64 w_1271 (xpg0 hP rfl) rfl rfl rfl rfl (Nat.le_of_ble_eq_true rfl) (Nat.le_of_ble_eq_true rfl) (Nat.le_of_ble_eq_true rfl) (Nat.le_of_ble_eq_true rfl) (Nat.le_of_ble_eq_true rfl) ?_
    intro v M2 hz
    obtain ⟨_, rfl, rfl, rfl⟩ := hz
    show xW _ _ _ _ 63 _ [.int (nI ((((FX12_takesRow i_keptMany f_state f_was f_kept u10 e2).2.1) (91 * e2 + 82 + 0)).toNatClampNeg))] (P ++ (MDL L ((FX12_takesRow i_keptMany f_state f_was f_kept u10 e2).2.2.2.1) i_taped i_faultKind i_faultPlace i_spot i_begin i_token i_value i_bad i_full i_bandRows i_bandFirsts i_outs ((FX12_takesRow i_keptMany f_state f_was f_kept u10 e2).2.1) ((FX12_takesRow i_keptMany f_state f_was f_kept u10 e2).2.2.1) ((FX12_takesRow i_keptMany f_state f_was f_kept u10 e2).2.2.2.2) f_tape u10 f_rest f_ways f_costs f_bandBest f_found f_drawn f_joined f_out ++ R)) _ _
    have o18 := ((hk12 e2 (by omega)).2 0 (by omega)).2
    exact xi_iret dX12_reverse_63 rfl rfl (Nat.le_of_ble_eq_true rfl) (Nat.le_of_ble_eq_true rfl) ⟨_, rfl, hq, hk12, hk13, hc11, hk14, hk15, hk16, (by show ((FX12_takesRow i_keptMany f_state f_was f_kept u10 e2).2.2.2.1) ≤ 10; omega), rfl⟩
  · rw [if_pos c1] at hq
    refine xi_bipush (v := (-2)) dX12_reverse_8 (by decide) ?_
    exact xi_iret dX12_reverse_10 rfl rfl (Nat.le_of_ble_eq_true rfl) (Nat.le_of_ble_eq_true rfl) ⟨_, rfl, hq, hG, hE, hR, hT, hW, hK, (by show i_keptMany ≤ 10; omega), rfl⟩
/-- what a round of polishing keeps to -/
def PI (n : Nat) (now one other least : Int32) (f : Nat → Int32) : Prop := PM n f ∧ ¬ now < least ∧ (one = -1 ∨ ((∃ a, a < n ∧ one = nI a) ∧ (∃ b, b < n ∧ other = nI b) ∧ least < now))
theorem PI_0 {n : Nat} {now x : Int32} {f : Nat → Int32} (h : PM n f) : PI n now (-1) x now f := ⟨h, Int32.lt_irrefl, Or.inl rfl⟩
theorem PI_b {n i j : Nat} {now one other least : Int32} {f : Nat → Int32} (h1 : RO f) (h2 : RO (FX12k_exchanges f i j).2) (hn : n ≤ 9) (hi : i < n) (hj : j < n) (H : PI n now one other least f) : PI n now one other least (FX12k_exchanges (FX12k_exchanges f i j).2 i j).2 := ⟨PM_ex h2 hn hi hj (PM_ex h1 hn hi hj H.1), H.2⟩
theorem PI_a {n i j : Nat} {now one other least v : Int32} {f : Nat → Int32} (h1 : RO f) (h2 : RO (FX12k_exchanges f i j).2) (hn : n ≤ 9) (hi : i < n) (hj : j < n) (c : ¬ least ≤ v) (H : PI n now one other least f) : PI n now (nI i) (nI j) v (FX12k_exchanges (FX12k_exchanges f i j).2 i j).2 := by
  have l1 : v < now := by
    have := H.2.1
    rw [Int32.lt_iff_toInt_lt] at this ⊢
    rw [Int32.le_iff_toInt_le] at c
    omega
  refine ⟨PM_ex h2 hn hi hj (PM_ex h1 hn hi hj H.1), ?_, Or.inr ⟨⟨i, hi, rfl⟩, ⟨j, hj, rfl⟩, l1⟩⟩
  intro q
  rw [Int32.lt_iff_toInt_lt] at q l1
  omega
theorem PI_1 {n : Nat} {now one other least : Int32} {f : Nat → Int32} (H : PI n now one other least f) (c : ¬ one = -1) : ∃ a, a < n ∧ one = nI a := (H.2.2.resolve_left c).1
theorem PI_2 {n : Nat} {now one other least : Int32} {f : Nat → Int32} (H : PI n now one other least f) (c : ¬ one = -1) : ∃ a, a < n ∧ other = nI a := (H.2.2.resolve_left c).2.1
theorem PI_d {n : Nat} {now one other least : Int32} {f : Nat → Int32} (H : PI n now one other least f) (c : ¬ one = -1) : (least.toInt + 2147483648).toNat < (now.toInt + 2147483648).toNat := by
  have := (H.2.2.resolve_left c).2.2
  rw [Int32.lt_iff_toInt_lt] at this
  have := Int32.le_toInt least
  omega
def LX12_polishes_52 (f_state : Nat → Int32) (n1 : Nat) (w2 : Int32) (w3 : Int32) (w4 : Int32) (n9 : Nat) (K : Int32 → Int32 → Int32 → (Nat → Int32) → Int32 × (Nat → Int32)) : Nat → Nat → Int32 → Int32 → Int32 → (Nat → Int32) → Int32 × (Nat → Int32)
  | 0, _, v6, v7, v8, f_order => K v6 v7 v8 f_order
  | k + 1, j, v6, v7, v8, f_order => (if v8 ≤ (FX12_valueOf f_state ((FX12k_exchanges f_order n9 j).2) n1 w2) then (LX12_polishes_52 f_state n1 w2 w3 w4 n9 K k (j + 1) v6 v7 v8 ((FX12k_exchanges ((FX12k_exchanges f_order n9 j).2) n9 j).2)) else (LX12_polishes_52 f_state n1 w2 w3 w4 n9 K k (j + 1) ((nI n9)) ((nI j)) ((FX12_valueOf f_state ((FX12k_exchanges f_order n9 j).2) n1 w2)) ((FX12k_exchanges ((FX12k_exchanges f_order n9 j).2) n9 j).2)))
def LX12_polishes_36 (f_state : Nat → Int32) (n1 : Nat) (w2 : Int32) (w3 : Int32) (w4 : Int32) (K : Int32 → Int32 → Int32 → (Nat → Int32) → Int32 × (Nat → Int32)) : Nat → Nat → Int32 → Int32 → Int32 → (Nat → Int32) → Int32 × (Nat → Int32)
  | 0, _, v6, v7, v8, f_order => K v6 v7 v8 f_order
  | k + 1, j, v6, v7, v8, f_order => (LX12_polishes_52 f_state n1 w2 w3 w4 j (fun u10 u11 u12 u13 => (LX12_polishes_36 f_state n1 w2 w3 w4 K k (j + 1) u10 u11 u12 u13)) ((f_state (91 * n1)).toNatClampNeg - (j + 1)) (j + 1) v6 v7 v8 f_order)
def LX12_polishes_18 (f_state : Nat → Int32) (n1 : Nat) (w2 : Int32) (K : Int32 → Int32 → Int32 → (Nat → Int32) → Int32 × (Nat → Int32)) : Nat → Int32 → Int32 → Int32 → (Nat → Int32) → Int32 × (Nat → Int32)
  | 0, v3, v4, v5, f_order => K v3 v4 v5 f_order
  | k + 1, v3, v4, v5, f_order => (if v5 = (0 : Int32) then (K v3 v4 v5 f_order) else (LX12_polishes_36 f_state n1 w2 v3 v4 (fun u17 u18 u19 u20 => (if u17 = (-1 : Int32) then (LX12_polishes_18 f_state n1 w2 K k v3 v4 ((0 : Int32)) u20) else (LX12_polishes_18 f_state n1 w2 K k ((v3 + Int32.ofInt 1)) u19 ((1 : Int32)) ((FX12k_exchanges u20 u17.toNatClampNeg u18.toNatClampNeg).2)))) ((f_state (91 * n1)).toNatClampNeg - 0) 0 ((-1 : Int32)) ((-1 : Int32)) v4 f_order))
set_option maxHeartbeats 4000000 in
set_option maxRecDepth 100000 in
theorem LX12_polishes_52_s (G : xG) {P R : xMem} {L : Nat} (hP : P.length = L) (z : Nat) (i_keptMany : Nat) (i_taped : Nat) (i_faultKind : Int32) (i_faultPlace : Int32) (i_spot : Nat) (i_begin : Nat) (i_token : Int32) (i_value : Int32) (i_bad : Int32) (i_full : Nat) (i_bandRows : Int32) (i_bandFirsts : Int32) (i_outs : Nat) (f_state : Nat → Int32) (f_was : Nat → Int32) (f_kept : Nat → Int32) (f_tape : Nat → Int32) (f_rest : Nat → Int32) (f_ways : Nat → Int32) (f_costs : Nat → Int32) (f_bandBest : Nat → Int32) (f_found : Nat → Int32) (f_drawn : Nat → Int32) (f_joined : Nat → Int32) (f_out : Nat → Int32) (bi_keptMany : i_keptMany ≤ 10) (bi_taped : i_taped ≤ 400) (bi_spot : i_spot ≤ 400) (bi_begin : i_begin ≤ 400) (bi_full : i_full ≤ 511) (bi_outs : i_outs ≤ 400) (hG : GO f_state) (hE : PE f_state) (n1 : Nat) (bn1 : n1 < 3) (w2 : Int32) (w3 : Int32) (w4 : Int32) (n9 : Nat) (bn9 : n9 < 9) (hx : n9 < (f_state (91 * n1)).toNatClampNeg) (Q : Int32 × (Nat → Int32) → Prop) (K : Int32 → Int32 → Int32 → (Nat → Int32) → Int32 × (Nat → Int32)) (HE : ∀ (v6 : Int32) (v7 : Int32) (v8 : Int32) (f_order : Nat → Int32) (hR : RO f_order) (hi : PI (f_state (91 * n1)).toNatClampNeg w4 v6 v7 v8 f_order), Q (K v6 v7 v8 f_order) → xW G mX12_polishes (xrm 6 0 0) (xQ G (fun v M2 => ∃ o : Int32 × (Nat → Int32), v = some (.int o.1) ∧ Q o ∧ RO o.2 ∧ PM (f_state (91 * z)).toNatClampNeg o.2 ∧ M2 = (P ++ (MDL L i_keptMany i_taped i_faultKind i_faultPlace i_spot i_begin i_token i_value i_bad i_full i_bandRows i_bandFirsts i_outs f_state f_was f_kept f_tape o.2 f_rest f_ways f_costs f_bandBest f_found f_drawn f_joined f_out ++ R))) 0 0) 111 [(0, .ref L), (1, .int (nI n1)), (2, .int w2), (3, .int w3), (4, .int w4), (6, .int v6), (7, .int v7), (8, .int v8), (9, .int (nI n9))] [] (P ++ (MDL L i_keptMany i_taped i_faultKind i_faultPlace i_spot i_begin i_token i_value i_bad i_full i_bandRows i_bandFirsts i_outs f_state f_was f_kept f_tape f_order f_rest f_ways f_costs f_bandBest f_found f_drawn f_joined f_out ++ R)) 0 0) :
    ∀ (k j : Nat) (v6 : Int32) (v7 : Int32) (v8 : Int32) (f_order : Nat → Int32) (hR : RO f_order) (hi : PI (f_state (91 * n1)).toNatClampNeg w4 v6 v7 v8 f_order), (f_state (91 * n1)).toNatClampNeg - j = k → j < 100000 → Q (LX12_polishes_52 f_state n1 w2 w3 w4 n9 K k j v6 v7 v8 f_order) → xW G mX12_polishes (xrm 6 0 0) (xQ G (fun v M2 => ∃ o : Int32 × (Nat → Int32), v = some (.int o.1) ∧ Q o ∧ RO o.2 ∧ PM (f_state (91 * z)).toNatClampNeg o.2 ∧ M2 = (P ++ (MDL L i_keptMany i_taped i_faultKind i_faultPlace i_spot i_begin i_token i_value i_bad i_full i_bandRows i_bandFirsts i_outs f_state f_was f_kept f_tape o.2 f_rest f_ways f_costs f_bandBest f_found f_drawn f_joined f_out ++ R))) 0 0) 52 [(0, .ref L), (1, .int (nI n1)), (2, .int w2), (3, .int w3), (4, .int w4), (6, .int v6), (7, .int v7), (8, .int v8), (9, .int (nI n9)), (10, .int (nI j))] [] (P ++ (MDL L i_keptMany i_taped i_faultKind i_faultPlace i_spot i_begin i_token i_value i_bad i_full i_bandRows i_bandFirsts i_outs f_state f_was f_kept f_tape f_order f_rest f_ways f_costs f_bandBest f_found f_drawn f_joined f_out ++ R)) 0 0 := by
  intro k
  induction k with
  | zero =>
    intro j v6 v7 v8 f_order hR hi hj hj2 hq
    rw [LX12_polishes_52] at hq
    refine xi_iload 9 dX12_polishes_52 rfl ?_
    refine xi_aload_n 0 dX12_polishes_54 rfl ?_
    refine xi_iload_n 1 dX12_polishes_55 rfl ?_
    refine xi_callV (as := [.int (nI n1)]) (rest := [.int (nI j)]) dX12_polishes_56 (FX12_points_ok G hP i_keptMany i_taped i_faultKind i_faultPlace i_spot i_begin i_token i_value i_bad i_full i_bandRows i_bandFirsts i_outs f_state f_was f_kept f_tape f_order f_rest f_ways f_costs f_bandBest f_found f_drawn f_joined f_out (by omega) (by omega) (by omega) (by omega) (by omega) (by omega) n1 (by omega) _ rfl (fun r => r = nI ((f_state (91 * n1)).toNatClampNeg)) ((hG n1 (by omega)).1.1)) mkX12_points w_1108 ws_36 w_1106 (xpg0 hP rfl) rfl rfl rfl rfl (Nat.le_of_ble_eq_true rfl) (Nat.le_of_ble_eq_true rfl) (Nat.le_of_ble_eq_true rfl) (Nat.le_of_ble_eq_true rfl) (Nat.le_of_ble_eq_true rfl) ?_
    intro v M2 hz
    obtain ⟨_, rfl, rfl, rfl⟩ := hz
    show xW _ _ _ _ 59 _ [.int (nI ((f_state (91 * n1)).toNatClampNeg)), .int (nI j)] (P ++ (MDL L i_keptMany i_taped i_faultKind i_faultPlace i_spot i_begin i_token i_value i_bad i_full i_bandRows i_bandFirsts i_outs f_state f_was f_kept f_tape f_order f_rest f_ways f_costs f_bandBest f_found f_drawn f_joined f_out ++ R)) _ _
    have o9 := (hG n1 (by omega)).1.2
    refine xi_icmp_ge_t (tgt := 111) dX12_polishes_59 (by decide) (nI_le (a := (f_state (91 * n1)).toNatClampNeg) (b := j) (by omega) (by omega)) ?_
    refine xi_sub (lv' := [(0, .ref L), (1, .int (nI n1)), (2, .int w2), (3, .int w3), (4, .int w4), (6, .int v6), (7, .int v7), (8, .int v8), (9, .int (nI n9))]) [0, 1, 2, 3, 4, 5, 6, 7, 8] rfl ?_
    exact HE v6 v7 v8 f_order hR (by first | exact hi52 | exact hi | exact PI_b (by assumption) (by assumption) (by omega) (by omega) (by omega) hi | exact PI_a (by assumption) (by assumption) (by omega) (by omega) (by omega) (by assumption) hi) hq
  | succ k ih =>
    intro j v6 v7 v8 f_order hR hi hj hj2 hq
    rw [LX12_polishes_52] at hq
    refine xi_iload 9 dX12_polishes_52 rfl ?_
    refine xi_aload_n 0 dX12_polishes_54 rfl ?_
    refine xi_iload_n 1 dX12_polishes_55 rfl ?_
    refine xi_callV (as := [.int (nI n1)]) (rest := [.int (nI j)]) dX12_polishes_56 (FX12_points_ok G hP i_keptMany i_taped i_faultKind i_faultPlace i_spot i_begin i_token i_value i_bad i_full i_bandRows i_bandFirsts i_outs f_state f_was f_kept f_tape f_order f_rest f_ways f_costs f_bandBest f_found f_drawn f_joined f_out (by omega) (by omega) (by omega) (by omega) (by omega) (by omega) n1 (by omega) _ rfl (fun r => r = nI ((f_state (91 * n1)).toNatClampNeg)) ((hG n1 (by omega)).1.1)) mkX12_points w_1108 ws_36 w_1106 (xpg0 hP rfl) rfl rfl rfl rfl (Nat.le_of_ble_eq_true rfl) (Nat.le_of_ble_eq_true rfl) (Nat.le_of_ble_eq_true rfl) (Nat.le_of_ble_eq_true rfl) (Nat.le_of_ble_eq_true rfl) ?_
    intro v M2 hz
    obtain ⟨_, rfl, rfl, rfl⟩ := hz
    show xW _ _ _ _ 59 _ [.int (nI ((f_state (91 * n1)).toNatClampNeg)), .int (nI j)] (P ++ (MDL L i_keptMany i_taped i_faultKind i_faultPlace i_spot i_begin i_token i_value i_bad i_full i_bandRows i_bandFirsts i_outs f_state f_was f_kept f_tape f_order f_rest f_ways f_costs f_bandBest f_found f_drawn f_joined f_out ++ R)) _ _
    have o5 := (hG n1 (by omega)).1.2
    refine xi_icmp_ge_f (tgt := 111) dX12_polishes_59 (by decide) (nI_ge (a := j) (b := (f_state (91 * n1)).toNatClampNeg) (by omega) (by omega)) ?_
    refine xi_aload_n 0 dX12_polishes_62 rfl ?_
    refine xi_iload 8 dX12_polishes_63 rfl ?_
    refine xi_iload 9 dX12_polishes_65 rfl ?_
    refine xi_callV (as := [.int (nI n9), .int (nI j)]) (rest := []) dX12_polishes_67 (FX12k_exchanges_ok G hP i_keptMany i_taped i_faultKind i_faultPlace i_spot i_begin i_token i_value i_bad i_full i_bandRows i_bandFirsts i_outs f_state f_was f_kept f_tape f_order f_rest f_ways f_costs f_bandBest f_found f_drawn f_joined f_out (by omega) (by omega) (by omega) (by omega) (by omega) (by omega) hR n9 (by omega) j (by omega) _ rfl (fun r => r = FX12k_exchanges f_order n9 j) rfl) mkX12_exchanges w_1452 ws_87 w_1450 (xpg0 hP rfl) rfl rfl rfl rfl (Nat.le_of_ble_eq_true rfl) (Nat.le_of_ble_eq_true rfl) (Nat.le_of_ble_eq_true rfl) (Nat.le_of_ble_eq_true rfl) (Nat.le_of_ble_eq_true rfl) ?_
    intro v M2 hz
    obtain ⟨_, rfl, rfl, hk6, rfl⟩ := hz
    show xW _ _ _ _ 70 _ [] (P ++ (MDL L i_keptMany i_taped i_faultKind i_faultPlace i_spot i_begin i_token i_value i_bad i_full i_bandRows i_bandFirsts i_outs f_state f_was f_kept f_tape ((FX12k_exchanges f_order n9 j).2) f_rest f_ways f_costs f_bandBest f_found f_drawn f_joined f_out ++ R)) _ _
    refine xi_aload_n 0 dX12_polishes_70 rfl ?_
    refine xi_iload_n 1 dX12_polishes_71 rfl ?_
    refine xi_iload_n 2 dX12_polishes_72 rfl ?_
    refine xi_callV (as := [.int (nI n1), .int w2]) (rest := []) dX12_polishes_73 (FX12_valueOf_ok G hP i_keptMany i_taped i_faultKind i_faultPlace i_spot i_begin i_token i_value i_bad i_full i_bandRows i_bandFirsts i_outs f_state f_was f_kept f_tape ((FX12k_exchanges f_order n9 j).2) f_rest f_ways f_costs f_bandBest f_found f_drawn f_joined f_out (by omega) (by omega) (by omega) (by omega) (by omega) (by omega) hG hk6 n1 (by omega) w2 _ rfl (fun r => r = FX12_valueOf f_state ((FX12k_exchanges f_order n9 j).2) n1 w2) rfl) mkX12_valueOf w_1296 ws_67 w_1294 (xpg0 hP rfl) rfl rfl rfl rfl (Nat.le_of_ble_eq_true rfl) (Nat.le_of_ble_eq_true rfl) (Nat.le_of_ble_eq_true rfl) (Nat.le_of_ble_eq_true rfl) (Nat.le_of_ble_eq_true rfl) ?_
    intro v M2 hz
    obtain ⟨_, rfl, rfl, rfl⟩ := hz
    show xW _ _ _ _ 76 _ [.int (FX12_valueOf f_state ((FX12k_exchanges f_order n9 j).2) n1 w2)] (P ++ (MDL L i_keptMany i_taped i_faultKind i_faultPlace i_spot i_begin i_token i_value i_bad i_full i_bandRows i_bandFirsts i_outs f_state f_was f_kept f_tape ((FX12k_exchanges f_order n9 j).2) f_rest f_ways f_costs f_bandBest f_found f_drawn f_joined f_out ++ R)) _ _
    refine xi_istore (lv' := [(11, .int (FX12_valueOf f_state ((FX12k_exchanges f_order n9 j).2) n1 w2)), (0, .ref L), (1, .int (nI n1)), (2, .int w2), (3, .int w3), (4, .int w4), (6, .int v6), (7, .int v7), (8, .int v8), (9, .int (nI n9)), (10, .int (nI j))]) dX12_polishes_76 (by decide) rfl ?_
    refine xi_aload_n 1 dX12_polishes_78 rfl ?_
    refine xi_iload 9 dX12_polishes_79 rfl ?_
    refine xi_iload 10 dX12_polishes_81 rfl ?_
    refine xi_callV (as := [.int (nI n9), .int (nI j)]) (rest := []) dX12_polishes_83 (FX12k_exchanges_ok G hP i_keptMany i_taped i_faultKind i_faultPlace i_spot i_begin i_token i_value i_bad i_full i_bandRows i_bandFirsts i_outs f_state f_was f_kept f_tape ((FX12k_exchanges f_order n9 j).2) f_rest f_ways f_costs f_bandBest f_found f_drawn f_joined f_out (by omega) (by omega) (by omega) (by omega) (by omega) (by omega) hk6 n9 (by omega) j (by omega) _ rfl (fun r => r = FX12k_exchanges ((FX12k_exchanges f_order n9 j).2) n9 j) rfl) mkX12_exchanges w_1452 ws_87 w_1450 (xpg0 hP rfl) rfl rfl rfl rfl (Nat.le_of_ble_eq_true rfl) (Nat.le_of_ble_eq_true rfl) (Nat.le_of_ble_eq_true rfl) (Nat.le_of_ble_eq_true rfl) (Nat.le_of_ble_eq_true rfl) ?_
    intro v M2 hz
    obtain ⟨_, rfl, rfl, hk7, rfl⟩ := hz
    show xW _ _ _ _ 86 _ [] (P ++ (MDL L i_keptMany i_taped i_faultKind i_faultPlace i_spot i_begin i_token i_value i_bad i_full i_bandRows i_bandFirsts i_outs f_state f_was f_kept f_tape ((FX12k_exchanges ((FX12k_exchanges f_order n9 j).2) n9 j).2) f_rest f_ways f_costs f_bandBest f_found f_drawn f_joined f_out ++ R)) _ _
    refine xi_iload 0 dX12_polishes_86 rfl ?_
    refine xi_iload 8 dX12_polishes_88 rfl ?_
    refine xi_icmp_ge (tgt := 105) dX12_polishes_90 (by decide) (fun c8 => ?_) (fun c8 => ?_)
    · rw [if_pos c8] at hq
      refine xi_iinc (v := (nI (j + 1))) (lv' := [(10, .int (nI (j + 1))), (11, .int (FX12_valueOf f_state ((FX12k_exchanges f_order n9 j).2) n1 w2)), (0, .ref L), (1, .int (nI n1)), (2, .int w2), (3, .int w3), (4, .int w4), (6, .int v6), (7, .int v7), (8, .int v8), (9, .int (nI n9))]) 10 dX12_polishes_105 rfl (nI_1 _) (by decide) rfl ?_
      refine xi_goto (tgt := 52) dX12_polishes_108 (by decide) ?_
      refine xi_sub (lv' := [(0, .ref L), (1, .int (nI n1)), (2, .int w2), (3, .int w3), (4, .int w4), (6, .int v6), (7, .int v7), (8, .int v8), (9, .int (nI n9)), (10, .int (nI (j + 1)))]) [2, 3, 4, 5, 6, 7, 8, 9, 10, 0] rfl ?_
      exact ih (j + 1) v6 v7 v8 ((FX12k_exchanges ((FX12k_exchanges f_order n9 j).2) n9 j).2) hk7 (by first | exact hi52 | exact hi | exact PI_b (by assumption) (by assumption) (by omega) (by omega) (by omega) hi | exact PI_a (by assumption) (by assumption) (by omega) (by omega) (by omega) (by assumption) hi) (by omega) (by omega) hq
    · rw [if_neg c8] at hq
      refine xi_iload 0 dX12_polishes_93 rfl ?_
      refine xi_istore (lv' := [(8, .int (FX12_valueOf f_state ((FX12k_exchanges f_order n9 j).2) n1 w2)), (11, .int (FX12_valueOf f_state ((FX12k_exchanges f_order n9 j).2) n1 w2)), (0, .ref L), (1, .int (nI n1)), (2, .int w2), (3, .int w3), (4, .int w4), (6, .int v6), (7, .int v7), (9, .int (nI n9)), (10, .int (nI j))]) dX12_polishes_95 (by decide) rfl ?_
      refine xi_iload 9 dX12_polishes_97 rfl ?_
      refine xi_istore (lv' := [(6, .int (nI n9)), (8, .int (FX12_valueOf f_state ((FX12k_exchanges f_order n9 j).2) n1 w2)), (11, .int (FX12_valueOf f_state ((FX12k_exchanges f_order n9 j).2) n1 w2)), (0, .ref L), (1, .int (nI n1)), (2, .int w2), (3, .int w3), (4, .int w4), (7, .int v7), (9, .int (nI n9)), (10, .int (nI j))]) dX12_polishes_99 (by decide) rfl ?_
      refine xi_iload 10 dX12_polishes_101 rfl ?_
      refine xi_istore (lv' := [(7, .int (nI j)), (6, .int (nI n9)), (8, .int (FX12_valueOf f_state ((FX12k_exchanges f_order n9 j).2) n1 w2)), (11, .int (FX12_valueOf f_state ((FX12k_exchanges f_order n9 j).2) n1 w2)), (0, .ref L), (1, .int (nI n1)), (2, .int w2), (3, .int w3), (4, .int w4), (9, .int (nI n9)), (10, .int (nI j))]) dX12_polishes_103 (by decide) rfl ?_
      refine xi_iinc (v := (nI (j + 1))) (lv' := [(10, .int (nI (j + 1))), (7, .int (nI j)), (6, .int (nI n9)), (8, .int (FX12_valueOf f_state ((FX12k_exchanges f_order n9 j).2) n1 w2)), (11, .int (FX12_valueOf f_state ((FX12k_exchanges f_order n9 j).2) n1 w2)), (0, .ref L), (1, .int (nI n1)), (2, .int w2), (3, .int w3), (4, .int w4), (9, .int (nI n9))]) 10 dX12_polishes_105 rfl (nI_1 _) (by decide) rfl ?_
      refine xi_goto (tgt := 52) dX12_polishes_108 (by decide) ?_
      refine xi_sub (lv' := [(0, .ref L), (1, .int (nI n1)), (2, .int w2), (3, .int w3), (4, .int w4), (6, .int (nI n9)), (7, .int (nI j)), (8, .int (FX12_valueOf f_state ((FX12k_exchanges f_order n9 j).2) n1 w2)), (9, .int (nI n9)), (10, .int (nI (j + 1)))]) [5, 6, 7, 8, 9, 2, 1, 3, 10, 0] rfl ?_
      exact ih (j + 1) ((nI n9)) ((nI j)) ((FX12_valueOf f_state ((FX12k_exchanges f_order n9 j).2) n1 w2)) ((FX12k_exchanges ((FX12k_exchanges f_order n9 j).2) n9 j).2) hk7 (by first | exact hi52 | exact hi | exact PI_b (by assumption) (by assumption) (by omega) (by omega) (by omega) hi | exact PI_a (by assumption) (by assumption) (by omega) (by omega) (by omega) (by assumption) hi) (by omega) (by omega) hq
set_option maxHeartbeats 4000000 in
set_option maxRecDepth 100000 in
theorem LX12_polishes_36_s (G : xG) {P R : xMem} {L : Nat} (hP : P.length = L) (z : Nat) (i_keptMany : Nat) (i_taped : Nat) (i_faultKind : Int32) (i_faultPlace : Int32) (i_spot : Nat) (i_begin : Nat) (i_token : Int32) (i_value : Int32) (i_bad : Int32) (i_full : Nat) (i_bandRows : Int32) (i_bandFirsts : Int32) (i_outs : Nat) (f_state : Nat → Int32) (f_was : Nat → Int32) (f_kept : Nat → Int32) (f_tape : Nat → Int32) (f_rest : Nat → Int32) (f_ways : Nat → Int32) (f_costs : Nat → Int32) (f_bandBest : Nat → Int32) (f_found : Nat → Int32) (f_drawn : Nat → Int32) (f_joined : Nat → Int32) (f_out : Nat → Int32) (bi_keptMany : i_keptMany ≤ 10) (bi_taped : i_taped ≤ 400) (bi_spot : i_spot ≤ 400) (bi_begin : i_begin ≤ 400) (bi_full : i_full ≤ 511) (bi_outs : i_outs ≤ 400) (hG : GO f_state) (hE : PE f_state) (n1 : Nat) (bn1 : n1 < 3) (w2 : Int32) (w3 : Int32) (w4 : Int32) (Q : Int32 × (Nat → Int32) → Prop) (K : Int32 → Int32 → Int32 → (Nat → Int32) → Int32 × (Nat → Int32)) (HE : ∀ (v6 : Int32) (v7 : Int32) (v8 : Int32) (f_order : Nat → Int32) (hR : RO f_order) (hi : PI (f_state (91 * n1)).toNatClampNeg w4 v6 v7 v8 f_order), Q (K v6 v7 v8 f_order) → xW G mX12_polishes (xrm 6 0 0) (xQ G (fun v M2 => ∃ o : Int32 × (Nat → Int32), v = some (.int o.1) ∧ Q o ∧ RO o.2 ∧ PM (f_state (91 * z)).toNatClampNeg o.2 ∧ M2 = (P ++ (MDL L i_keptMany i_taped i_faultKind i_faultPlace i_spot i_begin i_token i_value i_bad i_full i_bandRows i_bandFirsts i_outs f_state f_was f_kept f_tape o.2 f_rest f_ways f_costs f_bandBest f_found f_drawn f_joined f_out ++ R))) 0 0) 117 [(0, .ref L), (1, .int (nI n1)), (2, .int w2), (3, .int w3), (4, .int w4), (6, .int v6), (7, .int v7), (8, .int v8)] [] (P ++ (MDL L i_keptMany i_taped i_faultKind i_faultPlace i_spot i_begin i_token i_value i_bad i_full i_bandRows i_bandFirsts i_outs f_state f_was f_kept f_tape f_order f_rest f_ways f_costs f_bandBest f_found f_drawn f_joined f_out ++ R)) 0 0) :
    ∀ (k j : Nat) (v6 : Int32) (v7 : Int32) (v8 : Int32) (f_order : Nat → Int32) (hR : RO f_order) (hi : PI (f_state (91 * n1)).toNatClampNeg w4 v6 v7 v8 f_order), (f_state (91 * n1)).toNatClampNeg - j = k → j < 100000 → Q (LX12_polishes_36 f_state n1 w2 w3 w4 K k j v6 v7 v8 f_order) → xW G mX12_polishes (xrm 6 0 0) (xQ G (fun v M2 => ∃ o : Int32 × (Nat → Int32), v = some (.int o.1) ∧ Q o ∧ RO o.2 ∧ PM (f_state (91 * z)).toNatClampNeg o.2 ∧ M2 = (P ++ (MDL L i_keptMany i_taped i_faultKind i_faultPlace i_spot i_begin i_token i_value i_bad i_full i_bandRows i_bandFirsts i_outs f_state f_was f_kept f_tape o.2 f_rest f_ways f_costs f_bandBest f_found f_drawn f_joined f_out ++ R))) 0 0) 36 [(0, .ref L), (1, .int (nI n1)), (2, .int w2), (3, .int w3), (4, .int w4), (6, .int v6), (7, .int v7), (8, .int v8), (9, .int (nI j))] [] (P ++ (MDL L i_keptMany i_taped i_faultKind i_faultPlace i_spot i_begin i_token i_value i_bad i_full i_bandRows i_bandFirsts i_outs f_state f_was f_kept f_tape f_order f_rest f_ways f_costs f_bandBest f_found f_drawn f_joined f_out ++ R)) 0 0 := by
  intro k
  induction k with
  | zero =>
    intro j v6 v7 v8 f_order hR hi hj hj2 hq
    rw [LX12_polishes_36] at hq
    refine xi_iload 8 dX12_polishes_36 rfl ?_
    refine xi_aload_n 0 dX12_polishes_38 rfl ?_
    refine xi_iload_n 1 dX12_polishes_39 rfl ?_
    refine xi_callV (as := [.int (nI n1)]) (rest := [.int (nI j)]) dX12_polishes_40 (FX12_points_ok G hP i_keptMany i_taped i_faultKind i_faultPlace i_spot i_begin i_token i_value i_bad i_full i_bandRows i_bandFirsts i_outs f_state f_was f_kept f_tape f_order f_rest f_ways f_costs f_bandBest f_found f_drawn f_joined f_out (by omega) (by omega) (by omega) (by omega) (by omega) (by omega) n1 (by omega) _ rfl (fun r => r = nI ((f_state (91 * n1)).toNatClampNeg)) ((hG n1 (by omega)).1.1)) mkX12_points w_1108 ws_36 w_1106 (xpg0 hP rfl) rfl rfl rfl rfl (Nat.le_of_ble_eq_true rfl) (Nat.le_of_ble_eq_true rfl) (Nat.le_of_ble_eq_true rfl) (Nat.le_of_ble_eq_true rfl) (Nat.le_of_ble_eq_true rfl) ?_
    intro v M2 hz
    obtain ⟨_, rfl, rfl, rfl⟩ := hz
    show xW _ _ _ _ 43 _ [.int (nI ((f_state (91 * n1)).toNatClampNeg)), .int (nI j)] (P ++ (MDL L i_keptMany i_taped i_faultKind i_faultPlace i_spot i_begin i_token i_value i_bad i_full i_bandRows i_bandFirsts i_outs f_state f_was f_kept f_tape f_order f_rest f_ways f_costs f_bandBest f_found f_drawn f_joined f_out ++ R)) _ _
    have o16 := (hG n1 (by omega)).1.2
    refine xi_icmp_ge_t (tgt := 117) dX12_polishes_43 (by decide) (nI_le (a := (f_state (91 * n1)).toNatClampNeg) (b := j) (by omega) (by omega)) ?_
    refine xi_sub (lv' := [(0, .ref L), (1, .int (nI n1)), (2, .int w2), (3, .int w3), (4, .int w4), (6, .int v6), (7, .int v7), (8, .int v8)]) [0, 1, 2, 3, 4, 5, 6, 7] rfl ?_
    exact HE v6 v7 v8 f_order hR (by first | exact hi52 | exact hi | exact PI_b (by assumption) (by assumption) (by omega) (by omega) (by omega) hi | exact PI_a (by assumption) (by assumption) (by omega) (by omega) (by omega) (by assumption) hi) hq
  | succ k ih =>
    intro j v6 v7 v8 f_order hR hi hj hj2 hq
    rw [LX12_polishes_36] at hq
    refine xi_iload 8 dX12_polishes_36 rfl ?_
    refine xi_aload_n 0 dX12_polishes_38 rfl ?_
    refine xi_iload_n 1 dX12_polishes_39 rfl ?_
    refine xi_callV (as := [.int (nI n1)]) (rest := [.int (nI j)]) dX12_polishes_40 (FX12_points_ok G hP i_keptMany i_taped i_faultKind i_faultPlace i_spot i_begin i_token i_value i_bad i_full i_bandRows i_bandFirsts i_outs f_state f_was f_kept f_tape f_order f_rest f_ways f_costs f_bandBest f_found f_drawn f_joined f_out (by omega) (by omega) (by omega) (by omega) (by omega) (by omega) n1 (by omega) _ rfl (fun r => r = nI ((f_state (91 * n1)).toNatClampNeg)) ((hG n1 (by omega)).1.1)) mkX12_points w_1108 ws_36 w_1106 (xpg0 hP rfl) rfl rfl rfl rfl (Nat.le_of_ble_eq_true rfl) (Nat.le_of_ble_eq_true rfl) (Nat.le_of_ble_eq_true rfl) (Nat.le_of_ble_eq_true rfl) (Nat.le_of_ble_eq_true rfl) ?_
    intro v M2 hz
    obtain ⟨_, rfl, rfl, rfl⟩ := hz
    show xW _ _ _ _ 43 _ [.int (nI ((f_state (91 * n1)).toNatClampNeg)), .int (nI j)] (P ++ (MDL L i_keptMany i_taped i_faultKind i_faultPlace i_spot i_begin i_token i_value i_bad i_full i_bandRows i_bandFirsts i_outs f_state f_was f_kept f_tape f_order f_rest f_ways f_costs f_bandBest f_found f_drawn f_joined f_out ++ R)) _ _
    have o4 := (hG n1 (by omega)).1.2
    refine xi_icmp_ge_f (tgt := 117) dX12_polishes_43 (by decide) (nI_ge (a := j) (b := (f_state (91 * n1)).toNatClampNeg) (by omega) (by omega)) ?_
    refine xi_iload 8 dX12_polishes_46 rfl ?_
    refine xi_iconst (v := 1) dX12_polishes_48 (by decide) ?_
    refine xi_iadd (v := (nI (j + 1))) dX12_polishes_49 (nI_add j 1) ?_
    refine xi_istore (lv' := [(10, .int (nI (j + 1))), (0, .ref L), (1, .int (nI n1)), (2, .int w2), (3, .int w3), (4, .int w4), (6, .int v6), (7, .int v7), (8, .int v8), (9, .int (nI j))]) dX12_polishes_50 (by decide) rfl ?_
    refine xi_sub (lv' := [(0, .ref L), (1, .int (nI n1)), (2, .int w2), (3, .int w3), (4, .int w4), (6, .int v6), (7, .int v7), (8, .int v8), (9, .int (nI j)), (10, .int (nI (j + 1)))]) [1, 2, 3, 4, 5, 6, 7, 8, 9, 0] rfl ?_
    refine LX12_polishes_52_s G hP z i_keptMany i_taped i_faultKind i_faultPlace i_spot i_begin i_token i_value i_bad i_full i_bandRows i_bandFirsts i_outs f_state f_was f_kept f_tape f_rest f_ways f_costs f_bandBest f_found f_drawn f_joined f_out (by omega) (by omega) (by omega) (by omega) (by omega) (by omega) hG hE n1 (by omega) w2 w3 w4 j (by omega) (by omega) Q _ (fun u10 u11 u12 u13 hb14 hi52 hq => ?_) ((f_state (91 * n1)).toNatClampNeg - (j + 1)) (j + 1) v6 v7 v8 f_order hR (by first | exact hi | exact PI_0 hy) rfl (by omega) hq
    refine xi_iinc (v := (nI (j + 1))) (lv' := [(9, .int (nI (j + 1))), (0, .ref L), (1, .int (nI n1)), (2, .int w2), (3, .int w3), (4, .int w4), (6, .int u10), (7, .int u11), (8, .int u12)]) 8 dX12_polishes_111 rfl (nI_1 _) (by decide) rfl ?_
    refine xi_goto (tgt := 36) dX12_polishes_114 (by decide) ?_
    refine xi_sub (lv' := [(0, .ref L), (1, .int (nI n1)), (2, .int w2), (3, .int w3), (4, .int w4), (6, .int u10), (7, .int u11), (8, .int u12), (9, .int (nI (j + 1)))]) [1, 2, 3, 4, 5, 6, 7, 8, 0] rfl ?_
    exact ih (j + 1) u10 u11 u12 u13 hb14 (by first | exact hi52 | exact hi | exact PI_b (by assumption) (by assumption) (by omega) (by omega) (by omega) hi | exact PI_a (by assumption) (by assumption) (by omega) (by omega) (by omega) (by assumption) hi) (by omega) (by omega) hq
set_option maxHeartbeats 4000000 in
set_option maxRecDepth 100000 in
theorem LX12_polishes_18_s (G : xG) {P R : xMem} {L : Nat} (hP : P.length = L) (z : Nat) (i_keptMany : Nat) (i_taped : Nat) (i_faultKind : Int32) (i_faultPlace : Int32) (i_spot : Nat) (i_begin : Nat) (i_token : Int32) (i_value : Int32) (i_bad : Int32) (i_full : Nat) (i_bandRows : Int32) (i_bandFirsts : Int32) (i_outs : Nat) (f_state : Nat → Int32) (f_was : Nat → Int32) (f_kept : Nat → Int32) (f_tape : Nat → Int32) (f_rest : Nat → Int32) (f_ways : Nat → Int32) (f_costs : Nat → Int32) (f_bandBest : Nat → Int32) (f_found : Nat → Int32) (f_drawn : Nat → Int32) (f_joined : Nat → Int32) (f_out : Nat → Int32) (bi_keptMany : i_keptMany ≤ 10) (bi_taped : i_taped ≤ 400) (bi_spot : i_spot ≤ 400) (bi_begin : i_begin ≤ 400) (bi_full : i_full ≤ 511) (bi_outs : i_outs ≤ 400) (hG : GO f_state) (hE : PE f_state) (n1 : Nat) (bn1 : n1 < 3) (w2 : Int32) (Q : Int32 × (Nat → Int32) → Prop) (K : Int32 → Int32 → Int32 → (Nat → Int32) → Int32 × (Nat → Int32)) (HE : ∀ (v3 : Int32) (v4 : Int32) (v5 : Int32) (f_order : Nat → Int32) (hR : RO f_order) (hy : PM (f_state (91 * n1)).toNatClampNeg f_order), Q (K v3 v4 v5 f_order) → xW G mX12_polishes (xrm 6 0 0) (xQ G (fun v M2 => ∃ o : Int32 × (Nat → Int32), v = some (.int o.1) ∧ Q o ∧ RO o.2 ∧ PM (f_state (91 * z)).toNatClampNeg o.2 ∧ M2 = (P ++ (MDL L i_keptMany i_taped i_faultKind i_faultPlace i_spot i_begin i_token i_value i_bad i_full i_bandRows i_bandFirsts i_outs f_state f_was f_kept f_tape o.2 f_rest f_ways f_costs f_bandBest f_found f_drawn f_joined f_out ++ R))) 0 0) 153 [(3, .int v3)] [] (P ++ (MDL L i_keptMany i_taped i_faultKind i_faultPlace i_spot i_begin i_token i_value i_bad i_full i_bandRows i_bandFirsts i_outs f_state f_was f_kept f_tape f_order f_rest f_ways f_costs f_bandBest f_found f_drawn f_joined f_out ++ R)) 0 0) :
    ∀ (k : Nat) (v3 : Int32) (v4 : Int32) (v5 : Int32) (f_order : Nat → Int32) (hR : RO f_order), (if v5 = 0 then 0 else 1 + (v4.toInt + 2147483648).toNat) < k → (PM (f_state (91 * n1)).toNatClampNeg f_order) → Q (LX12_polishes_18 f_state n1 w2 K k v3 v4 v5 f_order) → xW G mX12_polishes (xrm 6 0 0) (xQ G (fun v M2 => ∃ o : Int32 × (Nat → Int32), v = some (.int o.1) ∧ Q o ∧ RO o.2 ∧ PM (f_state (91 * z)).toNatClampNeg o.2 ∧ M2 = (P ++ (MDL L i_keptMany i_taped i_faultKind i_faultPlace i_spot i_begin i_token i_value i_bad i_full i_bandRows i_bandFirsts i_outs f_state f_was f_kept f_tape o.2 f_rest f_ways f_costs f_bandBest f_found f_drawn f_joined f_out ++ R))) 0 0) 18 [(0, .ref L), (1, .int (nI n1)), (2, .int w2), (3, .int v3), (4, .int v4), (5, .int v5)] [] (P ++ (MDL L i_keptMany i_taped i_faultKind i_faultPlace i_spot i_begin i_token i_value i_bad i_full i_bandRows i_bandFirsts i_outs f_state f_was f_kept f_tape f_order f_rest f_ways f_costs f_bandBest f_found f_drawn f_joined f_out ++ R)) 0 0 := by
  intro k
  induction k with
  | zero =>
    intro v3 v4 v5 f_order hR hmu
    exact absurd hmu (Nat.not_lt_zero _)
  | succ k ih =>
    intro v3 v4 v5 f_order hR hmu hy hq
    rw [LX12_polishes_18] at hq
    have hPG := (hG n1 (by omega)).1.2
    refine xi_iload 5 dX12_polishes_18 rfl ?_
    refine xi_if_eq (tgt := 153) dX12_polishes_20 (by decide) (fun c3 => ?_) (fun c3 => ?_)
    · rw [if_pos c3] at hq
      refine xi_sub (lv' := [(3, .int v3)]) [3] rfl ?_
      exact HE v3 v4 v5 f_order hR (by first | exact hy | omega) hq
    · rw [if_neg c3] at hq
      refine xi_iconst (v := (-1)) dX12_polishes_23 (by decide) ?_
      refine xi_istore (lv' := [(6, .int (-1)), (0, .ref L), (1, .int (nI n1)), (2, .int w2), (3, .int v3), (4, .int v4), (5, .int v5)]) dX12_polishes_24 (by decide) rfl ?_
      refine xi_iconst (v := (-1)) dX12_polishes_26 (by decide) ?_
      refine xi_istore (lv' := [(7, .int (-1)), (6, .int (-1)), (0, .ref L), (1, .int (nI n1)), (2, .int w2), (3, .int v3), (4, .int v4), (5, .int v5)]) dX12_polishes_27 (by decide) rfl ?_
      refine xi_iload 6 dX12_polishes_29 rfl ?_
      refine xi_istore (lv' := [(8, .int v4), (7, .int (-1)), (6, .int (-1)), (0, .ref L), (1, .int (nI n1)), (2, .int w2), (3, .int v3), (4, .int v4), (5, .int v5)]) dX12_polishes_31 (by decide) rfl ?_
      refine xi_iconst (v := 0) dX12_polishes_33 (by decide) ?_
      refine xi_istore (lv' := [(9, .int 0), (8, .int v4), (7, .int (-1)), (6, .int (-1)), (0, .ref L), (1, .int (nI n1)), (2, .int w2), (3, .int v3), (4, .int v4), (5, .int v5)]) dX12_polishes_34 (by decide) rfl ?_
      refine xi_sub (lv' := [(0, .ref L), (1, .int (nI n1)), (2, .int w2), (3, .int v3), (4, .int v4), (6, .int (-1)), (7, .int (-1)), (8, .int v4), (9, .int 0)]) [4, 5, 6, 7, 8, 3, 2, 1, 0] rfl ?_
      refine LX12_polishes_36_s G hP z i_keptMany i_taped i_faultKind i_faultPlace i_spot i_begin i_token i_value i_bad i_full i_bandRows i_bandFirsts i_outs f_state f_was f_kept f_tape f_rest f_ways f_costs f_bandBest f_found f_drawn f_joined f_out (by omega) (by omega) (by omega) (by omega) (by omega) (by omega) hG hE n1 (by omega) w2 v3 v4 Q _ (fun u17 u18 u19 u20 hb21 hi36 hq => ?_) ((f_state (91 * n1)).toNatClampNeg - 0) 0 ((-1 : Int32)) ((-1 : Int32)) v4 f_order hR (by first | exact hi | exact PI_0 hy) rfl (by omega) hq
      refine xi_iload 5 dX12_polishes_117 rfl ?_
      refine xi_iconst (v := (-1)) dX12_polishes_119 (by decide) ?_
      refine xi_icmp_eq (tgt := 127) dX12_polishes_120 (by decide) (fun c23 => ?_) (fun c23 => ?_)
      · rw [if_pos c23] at hq
        refine xi_iconst (v := 0) dX12_polishes_127 (by decide) ?_
        refine xi_istore (lv' := [(5, .int 0), (0, .ref L), (1, .int (nI n1)), (2, .int w2), (3, .int v3), (4, .int v4), (6, .int u17), (7, .int u18), (8, .int u19)]) dX12_polishes_128 (by decide) rfl ?_
        refine xi_iload 0 dX12_polishes_130 rfl ?_
        refine xi_if_eq_t (tgt := 150) dX12_polishes_132 (by decide) (by decide) ?_
        refine xi_goto (tgt := 18) dX12_polishes_150 (by decide) ?_
        refine xi_sub (lv' := [(0, .ref L), (1, .int (nI n1)), (2, .int w2), (3, .int v3), (4, .int v4), (5, .int 0)]) [1, 2, 3, 4, 5, 0] rfl ?_
        exact ih v3 v4 ((0 : Int32)) u20 hb21 (by first | exact hi36.1 | exact PM_ex (by assumption) (by omega) (by omega) (by omega) hi36.1 | (rw [if_neg (by assumption)] at hmu; first | (rw [if_pos rfl]; omega) | (rw [if_neg (by decide)]; have := PI_d hi36 (by assumption); omega))) (by first | exact hi36.1 | exact PM_ex (by assumption) (by omega) (by omega) (by omega) hi36.1 | (rw [if_neg (by assumption)] at hmu; first | (rw [if_pos rfl]; omega) | (rw [if_neg (by decide)]; have := PI_d hi36 (by assumption); omega))) hq
      · rw [if_neg c23] at hq
        obtain ⟨e24, e24b, e24h⟩ := PI_1 hi36 c23
        have e24c : u17.toNatClampNeg = e24 := by rw [e24h]; exact nI_clamp (by omega)
        try rw [e24c] at hq
        subst e24h
        obtain ⟨e25, e25b, e25h⟩ := PI_2 hi36 c23
        have e25c : u18.toNatClampNeg = e25 := by rw [e25h]; exact nI_clamp (by omega)
        try rw [e25c] at hq
        subst e25h
        refine xi_iconst (v := 1) dX12_polishes_123 (by decide) ?_
        refine xi_goto (tgt := 128) dX12_polishes_124 (by decide) ?_
        refine xi_istore (lv' := [(5, .int 1), (0, .ref L), (1, .int (nI n1)), (2, .int w2), (3, .int v3), (4, .int v4), (6, .int (nI e24)), (7, .int (nI e25)), (8, .int u19)]) dX12_polishes_128 (by decide) rfl ?_
        refine xi_iload 0 dX12_polishes_130 rfl ?_
        refine xi_if_eq_f (tgt := 150) dX12_polishes_132 (by decide) (by decide) ?_
        refine xi_aload_n 1 dX12_polishes_135 rfl ?_
        refine xi_iload 6 dX12_polishes_136 rfl ?_
        refine xi_iload 7 dX12_polishes_138 rfl ?_
        refine xi_callV (as := [.int (nI e24), .int (nI e25)]) (rest := []) dX12_polishes_140 (FX12k_exchanges_ok G hP i_keptMany i_taped i_faultKind i_faultPlace i_spot i_begin i_token i_value i_bad i_full i_bandRows i_bandFirsts i_outs f_state f_was f_kept f_tape u20 f_rest f_ways f_costs f_bandBest f_found f_drawn f_joined f_out (by omega) (by omega) (by omega) (by omega) (by omega) (by omega) hb21 e24 (by omega) e25 (by omega) _ rfl (fun r => r = FX12k_exchanges u20 e24 e25) rfl) mkX12_exchanges w_1452 ws_87 w_1450 (xpg0 hP rfl) rfl rfl rfl rfl (Nat.le_of_ble_eq_true rfl) (Nat.le_of_ble_eq_true rfl) (Nat.le_of_ble_eq_true rfl) (Nat.le_of_ble_eq_true rfl) (Nat.le_of_ble_eq_true rfl) ?_
        intro v M2 hz
        obtain ⟨_, rfl, rfl, hk26, rfl⟩ := hz
        show xW _ _ _ _ 143 _ [] (P ++ (MDL L i_keptMany i_taped i_faultKind i_faultPlace i_spot i_begin i_token i_value i_bad i_full i_bandRows i_bandFirsts i_outs f_state f_was f_kept f_tape ((FX12k_exchanges u20 e24 e25).2) f_rest f_ways f_costs f_bandBest f_found f_drawn f_joined f_out ++ R)) _ _
        refine xi_iload 8 dX12_polishes_143 rfl ?_
        refine xi_istore (lv' := [(4, .int u19), (5, .int 1), (0, .ref L), (1, .int (nI n1)), (2, .int w2), (3, .int v3), (6, .int (nI e24)), (7, .int (nI e25)), (8, .int u19)]) dX12_polishes_145 (by decide) rfl ?_
        refine xi_iinc (v := (v3 + Int32.ofInt 1)) (lv' := [(3, .int (v3 + Int32.ofInt 1)), (4, .int u19), (5, .int 1), (0, .ref L), (1, .int (nI n1)), (2, .int w2), (6, .int (nI e24)), (7, .int (nI e25)), (8, .int u19)]) 5 dX12_polishes_147 rfl rfl (by decide) rfl ?_
        refine xi_goto (tgt := 18) dX12_polishes_150 (by decide) ?_
        refine xi_sub (lv' := [(0, .ref L), (1, .int (nI n1)), (2, .int w2), (3, .int (v3 + Int32.ofInt 1)), (4, .int u19), (5, .int 1)]) [3, 4, 5, 0, 1, 2] rfl ?_
        exact ih ((v3 + Int32.ofInt 1)) u19 ((1 : Int32)) ((FX12k_exchanges u20 e24 e25).2) hk26 (by first | exact hi36.1 | exact PM_ex (by assumption) (by omega) (by omega) (by omega) hi36.1 | (rw [if_neg (by assumption)] at hmu; first | (rw [if_pos rfl]; omega) | (rw [if_neg (by decide)]; have := PI_d hi36 (by assumption); omega))) (by first | exact hi36.1 | exact PM_ex (by assumption) (by omega) (by omega) (by omega) hi36.1 | (rw [if_neg (by assumption)] at hmu; first | (rw [if_pos rfl]; omega) | (rw [if_neg (by decide)]; have := PI_d hi36 (by assumption); omega))) hq
def FX12_polishes (f_state : Nat → Int32) (f_order : Nat → Int32) (z : Nat) (m : Int32) : Int32 × (Nat → Int32) := (LX12_polishes_18 f_state z m (fun u27 u28 u29 u30 => (u27, u30)) ((if ((1 : Int32)) = 0 then 0 else 1 + (((FX12_valueOf f_state ((FX12k_laysRow f_state f_order z).2) z m)).toInt + 2147483648).toNat) + 1) ((0 : Int32)) ((FX12_valueOf f_state ((FX12k_laysRow f_state f_order z).2) z m)) ((1 : Int32)) ((FX12k_laysRow f_state f_order z).2))
set_option maxHeartbeats 4000000 in
set_option maxRecDepth 100000 in
theorem FX12_polishes_ok (G : xG) {P R : xMem} {L : Nat} (hP : P.length = L) (i_keptMany : Nat) (i_taped : Nat) (i_faultKind : Int32) (i_faultPlace : Int32) (i_spot : Nat) (i_begin : Nat) (i_token : Int32) (i_value : Int32) (i_bad : Int32) (i_full : Nat) (i_bandRows : Int32) (i_bandFirsts : Int32) (i_outs : Nat) (f_state : Nat → Int32) (f_was : Nat → Int32) (f_kept : Nat → Int32) (f_tape : Nat → Int32) (f_order : Nat → Int32) (f_rest : Nat → Int32) (f_ways : Nat → Int32) (f_costs : Nat → Int32) (f_bandBest : Nat → Int32) (f_found : Nat → Int32) (f_drawn : Nat → Int32) (f_joined : Nat → Int32) (f_out : Nat → Int32) (bi_keptMany : i_keptMany ≤ 10) (bi_taped : i_taped ≤ 400) (bi_spot : i_spot ≤ 400) (bi_begin : i_begin ≤ 400) (bi_full : i_full ≤ 511) (bi_outs : i_outs ≤ 400) (hG : GO f_state) (hE : PE f_state) (hR : RO f_order) (z : Nat) (bz : z < 3) (m : Int32) (M : xMem) (hM : M = (P ++ (MDL L i_keptMany i_taped i_faultKind i_faultPlace i_spot i_begin i_token i_value i_bad i_full i_bandRows i_bandFirsts i_outs f_state f_was f_kept f_tape f_order f_rest f_ways f_costs f_bandBest f_found f_drawn f_joined f_out ++ R))) (Q : Int32 × (Nat → Int32) → Prop) (hq : Q (FX12_polishes f_state f_order z m)) : xC G mX12_polishes 6 0 0 [.ref L, .int (nI z), .int m] M (fun v M2 => ∃ o : Int32 × (Nat → Int32), v = some (.int o.1) ∧ Q o ∧ RO o.2 ∧ PM (f_state (91 * z)).toNatClampNeg o.2 ∧ M2 = (P ++ (MDL L i_keptMany i_taped i_faultKind i_faultPlace i_spot i_begin i_token i_value i_bad i_full i_bandRows i_bandFirsts i_outs f_state f_was f_kept f_tape o.2 f_rest f_ways f_costs f_bandBest f_found f_drawn f_joined f_out ++ R))) := by
  subst hM
  unfold FX12_polishes at hq
  refine xC.of (by decide) (Nat.le_of_ble_eq_true rfl) ?_
  show xW _ _ _ _ 0 [(0, .ref L), (1, .int (nI z)), (2, .int m)] [] _ 0 0
  refine xi_aload_n 0 dX12_polishes_0 rfl ?_
  refine xi_iload_n 1 dX12_polishes_1 rfl ?_
  refine xi_callV (as := [.int (nI z)]) (rest := []) dX12_polishes_2 (FX12k_laysRow_ok G hP i_keptMany i_taped i_faultKind i_faultPlace i_spot i_begin i_token i_value i_bad i_full i_bandRows i_bandFirsts i_outs f_state f_was f_kept f_tape f_order f_rest f_ways f_costs f_bandBest f_found f_drawn f_joined f_out (by omega) (by omega) (by omega) (by omega) (by omega) (by omega) hG hE hR z (by omega) _ rfl (fun r => r = FX12k_laysRow f_state f_order z) rfl) mkX12_laysRow w_1292 ws_66 w_1290 (xpg0 hP rfl) rfl rfl rfl rfl (Nat.le_of_ble_eq_true rfl) (Nat.le_of_ble_eq_true rfl) (Nat.le_of_ble_eq_true rfl) (Nat.le_of_ble_eq_true rfl) (Nat.le_of_ble_eq_true rfl) ?_
  intro v M2 hz
  obtain ⟨_, rfl, rfl, hk1, hp2, rfl⟩ := hz
  show xW _ _ _ _ 5 _ [] (P ++ (MDL L i_keptMany i_taped i_faultKind i_faultPlace i_spot i_begin i_token i_value i_bad i_full i_bandRows i_bandFirsts i_outs f_state f_was f_kept f_tape ((FX12k_laysRow f_state f_order z).2) f_rest f_ways f_costs f_bandBest f_found f_drawn f_joined f_out ++ R)) _ _
  refine xi_iconst (v := 0) dX12_polishes_5 (by decide) ?_
  refine xi_istore_n (lv' := [(3, .int 0), (0, .ref L), (1, .int (nI z)), (2, .int m)]) dX12_polishes_6 (by decide) rfl ?_
  refine xi_aload_n 1 dX12_polishes_7 rfl ?_
  refine xi_iload_n 2 dX12_polishes_8 rfl ?_
  refine xi_iload_n 3 dX12_polishes_9 rfl ?_
  refine xi_callV (as := [.int (nI z), .int m]) (rest := []) dX12_polishes_10 (FX12_valueOf_ok G hP i_keptMany i_taped i_faultKind i_faultPlace i_spot i_begin i_token i_value i_bad i_full i_bandRows i_bandFirsts i_outs f_state f_was f_kept f_tape ((FX12k_laysRow f_state f_order z).2) f_rest f_ways f_costs f_bandBest f_found f_drawn f_joined f_out (by omega) (by omega) (by omega) (by omega) (by omega) (by omega) hG hk1 z (by omega) m _ rfl (fun r => r = FX12_valueOf f_state ((FX12k_laysRow f_state f_order z).2) z m) rfl) mkX12_valueOf w_1296 ws_67 w_1294 (xpg0 hP rfl) rfl rfl rfl rfl (Nat.le_of_ble_eq_true rfl) (Nat.le_of_ble_eq_true rfl) (Nat.le_of_ble_eq_true rfl) (Nat.le_of_ble_eq_true rfl) (Nat.le_of_ble_eq_true rfl) ?_
  intro v M2 hz
  obtain ⟨_, rfl, rfl, rfl⟩ := hz
  show xW _ _ _ _ 13 _ [.int (FX12_valueOf f_state ((FX12k_laysRow f_state f_order z).2) z m)] (P ++ (MDL L i_keptMany i_taped i_faultKind i_faultPlace i_spot i_begin i_token i_value i_bad i_full i_bandRows i_bandFirsts i_outs f_state f_was f_kept f_tape ((FX12k_laysRow f_state f_order z).2) f_rest f_ways f_costs f_bandBest f_found f_drawn f_joined f_out ++ R)) _ _
  refine xi_istore (lv' := [(4, .int (FX12_valueOf f_state ((FX12k_laysRow f_state f_order z).2) z m)), (3, .int 0), (0, .ref L), (1, .int (nI z)), (2, .int m)]) dX12_polishes_13 (by decide) rfl ?_
  refine xi_iconst (v := 1) dX12_polishes_15 (by decide) ?_
  refine xi_istore (lv' := [(5, .int 1), (4, .int (FX12_valueOf f_state ((FX12k_laysRow f_state f_order z).2) z m)), (3, .int 0), (0, .ref L), (1, .int (nI z)), (2, .int m)]) dX12_polishes_16 (by decide) rfl ?_
  refine xi_sub (lv' := [(0, .ref L), (1, .int (nI z)), (2, .int m), (3, .int 0), (4, .int (FX12_valueOf f_state ((FX12k_laysRow f_state f_order z).2) z m)), (5, .int 1)]) [3, 4, 5, 2, 1, 0] rfl ?_
  refine LX12_polishes_18_s G hP z i_keptMany i_taped i_faultKind i_faultPlace i_spot i_begin i_token i_value i_bad i_full i_bandRows i_bandFirsts i_outs f_state f_was f_kept f_tape f_rest f_ways f_costs f_bandBest f_found f_drawn f_joined f_out (by omega) (by omega) (by omega) (by omega) (by omega) (by omega) hG hE z (by omega) m Q _ (fun u27 u28 u29 u30 hc31 hy18 hq => ?_) ((if ((1 : Int32)) = 0 then 0 else 1 + (((FX12_valueOf f_state ((FX12k_laysRow f_state f_order z).2) z m)).toInt + 2147483648).toNat) + 1) ((0 : Int32)) ((FX12_valueOf f_state ((FX12k_laysRow f_state f_order z).2) z m)) ((1 : Int32)) ((FX12k_laysRow f_state f_order z).2) hk1 (Nat.lt_succ_self _) (by assumption) hq
  refine xi_iload_n 0 dX12_polishes_153 rfl ?_
  exact xi_iret dX12_polishes_154 rfl rfl (Nat.le_of_ble_eq_true rfl) (Nat.le_of_ble_eq_true rfl) ⟨_, rfl, hq, hc31, hy18, rfl⟩
def FX12_polish (i_keptMany : Nat) (f_state : Nat → Int32) (f_was : Nat → Int32) (f_kept : Nat → Int32) (f_order : Nat → Int32) (x : Int32) (m : Int32) : Int32 × (Nat → Int32) × (Nat → Int32) × (Nat → Int32) × Nat × (Nat → Int32) := (if (FX12_isNet f_state x) = (0 : Int32) then ((-2 : Int32), f_order, f_state, f_was, i_keptMany, f_kept) else (if (FX12_isMeasure m) = (0 : Int32) then ((-2 : Int32), f_order, f_state, f_was, i_keptMany, f_kept) else (((FX12_polishes f_state f_order x.toNatClampNeg m).1), (FX12_polishes f_state f_order x.toNatClampNeg m).2, (FX12_takesRow i_keptMany f_state f_was f_kept ((FX12_polishes f_state f_order x.toNatClampNeg m).2) x.toNatClampNeg).2.1, (FX12_takesRow i_keptMany f_state f_was f_kept ((FX12_polishes f_state f_order x.toNatClampNeg m).2) x.toNatClampNeg).2.2.1, (FX12_takesRow i_keptMany f_state f_was f_kept ((FX12_polishes f_state f_order x.toNatClampNeg m).2) x.toNatClampNeg).2.2.2.1, (FX12_takesRow i_keptMany f_state f_was f_kept ((FX12_polishes f_state f_order x.toNatClampNeg m).2) x.toNatClampNeg).2.2.2.2)))
set_option maxHeartbeats 4000000 in
set_option maxRecDepth 100000 in
theorem FX12_polish_ok (G : xG) {P R : xMem} {L : Nat} (hP : P.length = L) (i_keptMany : Nat) (i_taped : Nat) (i_faultKind : Int32) (i_faultPlace : Int32) (i_spot : Nat) (i_begin : Nat) (i_token : Int32) (i_value : Int32) (i_bad : Int32) (i_full : Nat) (i_bandRows : Int32) (i_bandFirsts : Int32) (i_outs : Nat) (f_state : Nat → Int32) (f_was : Nat → Int32) (f_kept : Nat → Int32) (f_tape : Nat → Int32) (f_order : Nat → Int32) (f_rest : Nat → Int32) (f_ways : Nat → Int32) (f_costs : Nat → Int32) (f_bandBest : Nat → Int32) (f_found : Nat → Int32) (f_drawn : Nat → Int32) (f_joined : Nat → Int32) (f_out : Nat → Int32) (bi_keptMany : i_keptMany ≤ 10) (bi_taped : i_taped ≤ 400) (bi_spot : i_spot ≤ 400) (bi_begin : i_begin ≤ 400) (bi_full : i_full ≤ 511) (bi_outs : i_outs ≤ 400) (hG : GO f_state) (hE : PE f_state) (hR : RO f_order) (hT : WB f_state) (hW : SO f_was) (hK : KO i_keptMany f_kept) (x : Int32) (m : Int32) (M : xMem) (hM : M = (P ++ (MDL L i_keptMany i_taped i_faultKind i_faultPlace i_spot i_begin i_token i_value i_bad i_full i_bandRows i_bandFirsts i_outs f_state f_was f_kept f_tape f_order f_rest f_ways f_costs f_bandBest f_found f_drawn f_joined f_out ++ R))) (Q : Int32 × (Nat → Int32) × (Nat → Int32) × (Nat → Int32) × Nat × (Nat → Int32) → Prop) (hq : Q (FX12_polish i_keptMany f_state f_was f_kept f_order x m)) : xC G mX12_polish 7 0 0 [.ref L, .int x, .int m] M (fun v M2 => ∃ o : Int32 × (Nat → Int32) × (Nat → Int32) × (Nat → Int32) × Nat × (Nat → Int32), v = some (.int o.1) ∧ Q o ∧ GO o.2.2.1 ∧ PE o.2.2.1 ∧ RO o.2.1 ∧ WB o.2.2.1 ∧ SO o.2.2.2.1 ∧ KO o.2.2.2.2.1 o.2.2.2.2.2 ∧ o.2.2.2.2.1 ≤ 10 ∧ M2 = (P ++ (MDL L o.2.2.2.2.1 i_taped i_faultKind i_faultPlace i_spot i_begin i_token i_value i_bad i_full i_bandRows i_bandFirsts i_outs o.2.2.1 o.2.2.2.1 o.2.2.2.2.2 f_tape o.2.1 f_rest f_ways f_costs f_bandBest f_found f_drawn f_joined f_out ++ R))) := by
  subst hM
  unfold FX12_polish at hq
  refine xC.of (by decide) (Nat.le_of_ble_eq_true rfl) ?_
  show xW _ _ _ _ 0 [(0, .ref L), (1, .int x), (2, .int m)] [] _ 0 0
  refine xi_aload_n 0 dX12_polish_0 rfl ?_
  refine xi_iload_n 1 dX12_polish_1 rfl ?_
  refine xi_callV (as := [.int x]) (rest := []) dX12_polish_2 (FX12_isNet_ok G hP i_keptMany i_taped i_faultKind i_faultPlace i_spot i_begin i_token i_value i_bad i_full i_bandRows i_bandFirsts i_outs f_state f_was f_kept f_tape f_order f_rest f_ways f_costs f_bandBest f_found f_drawn f_joined f_out (by omega) (by omega) (by omega) (by omega) (by omega) (by omega) hG x _ rfl (fun r => r = FX12_isNet f_state x) rfl) mkX12_isNet w_1104 ws_35 w_1102 (xpg0 hP rfl) rfl rfl rfl rfl (Nat.le_of_ble_eq_true rfl) (Nat.le_of_ble_eq_true rfl) (Nat.le_of_ble_eq_true rfl) (Nat.le_of_ble_eq_true rfl) (Nat.le_of_ble_eq_true rfl) ?_
  intro v M2 hz
  obtain ⟨_, rfl, rfl, rfl⟩ := hz
  show xW _ _ _ _ 5 _ [.int (FX12_isNet f_state x)] (P ++ (MDL L i_keptMany i_taped i_faultKind i_faultPlace i_spot i_begin i_token i_value i_bad i_full i_bandRows i_bandFirsts i_outs f_state f_was f_kept f_tape f_order f_rest f_ways f_costs f_bandBest f_found f_drawn f_joined f_out ++ R)) _ _
  refine xi_if_eq (tgt := 15) dX12_polish_5 (by decide) (fun c1 => ?_) (fun c1 => ?_)
  · rw [if_pos c1] at hq
    refine xi_bipush (v := (-2)) dX12_polish_15 (by decide) ?_
    exact xi_iret dX12_polish_17 rfl rfl (Nat.le_of_ble_eq_true rfl) (Nat.le_of_ble_eq_true rfl) ⟨_, rfl, hq, hG, hE, hR, hT, hW, hK, (by show i_keptMany ≤ 10; omega), rfl⟩
  · rw [if_neg c1] at hq
    obtain ⟨e2, e2b, e2h⟩ := net_in c1
    have e2c : x.toNatClampNeg = e2 := by rw [e2h]; exact nI_clamp (by omega)
    try rw [e2c] at hq
    subst e2h
    have e2g := (hG e2 e2b).1.2
    refine xi_iload_n 2 dX12_polish_8 rfl ?_
    refine xi_callS (as := [.int m]) (rest := []) dX12_polish_9 (FX12_isMeasure_ok G m (fun r => r = FX12_isMeasure m) rfl) mkX12_isMeasure w_1288 w_1287 rfl rfl (Nat.le_of_ble_eq_true rfl) (Nat.le_of_ble_eq_true rfl) (Nat.le_of_ble_eq_true rfl) (Nat.le_of_ble_eq_true rfl) (Nat.le_of_ble_eq_true rfl) ?_
    intro v M2 hz
    obtain ⟨_, rfl, rfl, hM2⟩ := hz
    rw [hM2]
    show xW _ _ _ _ 12 _ [.int (FX12_isMeasure m)] (P ++ (MDL L i_keptMany i_taped i_faultKind i_faultPlace i_spot i_begin i_token i_value i_bad i_full i_bandRows i_bandFirsts i_outs f_state f_was f_kept f_tape f_order f_rest f_ways f_costs f_bandBest f_found f_drawn f_joined f_out ++ R)) _ _
    refine xi_if_ne (tgt := 18) dX12_polish_12 (by decide) (fun c3 => ?_) (fun c3 => ?_)
    · rw [if_neg c3] at hq
      refine xi_aload_n 0 dX12_polish_18 rfl ?_
      refine xi_iload_n 1 dX12_polish_19 rfl ?_
      refine xi_iload_n 2 dX12_polish_20 rfl ?_
      refine xi_callV (as := [.int (nI e2), .int m]) (rest := []) dX12_polish_21 (FX12_polishes_ok G hP i_keptMany i_taped i_faultKind i_faultPlace i_spot i_begin i_token i_value i_bad i_full i_bandRows i_bandFirsts i_outs f_state f_was f_kept f_tape f_order f_rest f_ways f_costs f_bandBest f_found f_drawn f_joined f_out (by omega) (by omega) (by omega) (by omega) (by omega) (by omega) hG hE hR e2 (by omega) m _ rfl (fun r => r = FX12_polishes f_state f_order e2 m) rfl) mkX12_polishes w_1480 ws_89 w_1478 (xpg0 hP rfl) rfl rfl rfl rfl (Nat.le_of_ble_eq_true rfl) (Nat.le_of_ble_eq_true rfl) (Nat.le_of_ble_eq_true rfl) (Nat.le_of_ble_eq_true rfl) (Nat.le_of_ble_eq_true rfl) ?_
      intro v M2 hz
      obtain ⟨_, rfl, rfl, hk4, hp5, rfl⟩ := hz
      show xW _ _ _ _ 24 _ [.int ((FX12_polishes f_state f_order e2 m).1)] (P ++ (MDL L i_keptMany i_taped i_faultKind i_faultPlace i_spot i_begin i_token i_value i_bad i_full i_bandRows i_bandFirsts i_outs f_state f_was f_kept f_tape ((FX12_polishes f_state f_order e2 m).2) f_rest f_ways f_costs f_bandBest f_found f_drawn f_joined f_out ++ R)) _ _
      refine xi_istore_n (lv' := [(3, .int ((FX12_polishes f_state f_order e2 m).1)), (0, .ref L), (1, .int (nI e2)), (2, .int m)]) dX12_polish_24 (by decide) rfl ?_
      refine xi_aload_n 1 dX12_polish_25 rfl ?_
      refine xi_iload_n 2 dX12_polish_26 rfl ?_
      refine xi_callV (as := [.int (nI e2)]) (rest := []) dX12_polish_27 (FX12_takesRow_ok G hP i_keptMany i_taped i_faultKind i_faultPlace i_spot i_begin i_token i_value i_bad i_full i_bandRows i_bandFirsts i_outs f_state f_was f_kept f_tape ((FX12_polishes f_state f_order e2 m).2) f_rest f_ways f_costs f_bandBest f_found f_drawn f_joined f_out (by omega) (by omega) (by omega) (by omega) (by omega) (by omega) hG hE hk4 hT hW hK e2 (by omega) (by first | assumption | exact PM_ex (by assumption) (by omega) (by omega) (by omega) (by assumption) | exact hy41.2.2 | exact hy18.2.2) _ rfl (fun r => r = FX12_takesRow i_keptMany f_state f_was f_kept ((FX12_polishes f_state f_order e2 m).2) e2) rfl) mkX12_takesRow w_1460 ws_88 w_1458 (xpg0 hP rfl) rfl rfl rfl rfl (Nat.le_of_ble_eq_true rfl) (Nat.le_of_ble_eq_true rfl) (Nat.le_of_ble_eq_true rfl) (Nat.le_of_ble_eq_true rfl) (Nat.le_of_ble_eq_true rfl) ?_
      intro v M2 hz
      obtain ⟨_, rfl, rfl, hk6, hk7, hk8, hk9, hk10, hn11, rfl⟩ := hz
      show xW _ _ _ _ 30 _ [.int ((FX12_takesRow i_keptMany f_state f_was f_kept ((FX12_polishes f_state f_order e2 m).2) e2).1)] (P ++ (MDL L ((FX12_takesRow i_keptMany f_state f_was f_kept ((FX12_polishes f_state f_order e2 m).2) e2).2.2.2.1) i_taped i_faultKind i_faultPlace i_spot i_begin i_token i_value i_bad i_full i_bandRows i_bandFirsts i_outs ((FX12_takesRow i_keptMany f_state f_was f_kept ((FX12_polishes f_state f_order e2 m).2) e2).2.1) ((FX12_takesRow i_keptMany f_state f_was f_kept ((FX12_polishes f_state f_order e2 m).2) e2).2.2.1) ((FX12_takesRow i_keptMany f_state f_was f_kept ((FX12_polishes f_state f_order e2 m).2) e2).2.2.2.2) f_tape ((FX12_polishes f_state f_order e2 m).2) f_rest f_ways f_costs f_bandBest f_found f_drawn f_joined f_out ++ R)) _ _
      refine xi_istore (lv' := [(4, .int ((FX12_takesRow i_keptMany f_state f_was f_kept ((FX12_polishes f_state f_order e2 m).2) e2).1)), (3, .int ((FX12_polishes f_state f_order e2 m).1)), (0, .ref L), (1, .int (nI e2)), (2, .int m)]) dX12_polish_30 (by decide) rfl ?_
      refine xi_iload_n 1 dX12_polish_32 rfl ?_
      exact xi_iret dX12_polish_33 rfl rfl (Nat.le_of_ble_eq_true rfl) (Nat.le_of_ble_eq_true rfl) ⟨_, rfl, hq, hk6, hk7, hk4, hk8, hk9, hk10, (by show ((FX12_takesRow i_keptMany f_state f_was f_kept ((FX12_polishes f_state f_order e2 m).2) e2).2.2.2.1) ≤ 10; omega), rfl⟩
    · rw [if_pos c3] at hq
      refine xi_bipush (v := (-2)) dX12_polish_15 (by decide) ?_
      exact xi_iret dX12_polish_17 rfl rfl (Nat.le_of_ble_eq_true rfl) (Nat.le_of_ble_eq_true rfl) ⟨_, rfl, hq, hG, hE, hR, hT, hW, hK, (by show i_keptMany ≤ 10; omega), rfl⟩
def FX12_polished (f_state : Nat → Int32) (f_order : Nat → Int32) (x : Int32) (m : Int32) : Int32 × (Nat → Int32) := (if (FX12_isNet f_state x) = (0 : Int32) then ((-2 : Int32), f_order) else (if (FX12_isMeasure m) = (0 : Int32) then ((-2 : Int32), f_order) else ((FX12_valueOf f_state ((FX12_polishes f_state f_order x.toNatClampNeg m).2) x.toNatClampNeg m), (FX12_polishes f_state f_order x.toNatClampNeg m).2)))
set_option maxHeartbeats 4000000 in
set_option maxRecDepth 100000 in
theorem FX12_polished_ok (G : xG) {P R : xMem} {L : Nat} (hP : P.length = L) (i_keptMany : Nat) (i_taped : Nat) (i_faultKind : Int32) (i_faultPlace : Int32) (i_spot : Nat) (i_begin : Nat) (i_token : Int32) (i_value : Int32) (i_bad : Int32) (i_full : Nat) (i_bandRows : Int32) (i_bandFirsts : Int32) (i_outs : Nat) (f_state : Nat → Int32) (f_was : Nat → Int32) (f_kept : Nat → Int32) (f_tape : Nat → Int32) (f_order : Nat → Int32) (f_rest : Nat → Int32) (f_ways : Nat → Int32) (f_costs : Nat → Int32) (f_bandBest : Nat → Int32) (f_found : Nat → Int32) (f_drawn : Nat → Int32) (f_joined : Nat → Int32) (f_out : Nat → Int32) (bi_keptMany : i_keptMany ≤ 10) (bi_taped : i_taped ≤ 400) (bi_spot : i_spot ≤ 400) (bi_begin : i_begin ≤ 400) (bi_full : i_full ≤ 511) (bi_outs : i_outs ≤ 400) (hG : GO f_state) (hE : PE f_state) (hR : RO f_order) (x : Int32) (m : Int32) (M : xMem) (hM : M = (P ++ (MDL L i_keptMany i_taped i_faultKind i_faultPlace i_spot i_begin i_token i_value i_bad i_full i_bandRows i_bandFirsts i_outs f_state f_was f_kept f_tape f_order f_rest f_ways f_costs f_bandBest f_found f_drawn f_joined f_out ++ R))) (Q : Int32 × (Nat → Int32) → Prop) (hq : Q (FX12_polished f_state f_order x m)) : xC G mX12_polished 7 0 0 [.ref L, .int x, .int m] M (fun v M2 => ∃ o : Int32 × (Nat → Int32), v = some (.int o.1) ∧ Q o ∧ RO o.2 ∧ M2 = (P ++ (MDL L i_keptMany i_taped i_faultKind i_faultPlace i_spot i_begin i_token i_value i_bad i_full i_bandRows i_bandFirsts i_outs f_state f_was f_kept f_tape o.2 f_rest f_ways f_costs f_bandBest f_found f_drawn f_joined f_out ++ R))) := by
  subst hM
  unfold FX12_polished at hq
  refine xC.of (by decide) (Nat.le_of_ble_eq_true rfl) ?_
  show xW _ _ _ _ 0 [(0, .ref L), (1, .int x), (2, .int m)] [] _ 0 0
  refine xi_aload_n 0 dX12_polished_0 rfl ?_
  refine xi_iload_n 1 dX12_polished_1 rfl ?_
  refine xi_callV (as := [.int x]) (rest := []) dX12_polished_2 (FX12_isNet_ok G hP i_keptMany i_taped i_faultKind i_faultPlace i_spot i_begin i_token i_value i_bad i_full i_bandRows i_bandFirsts i_outs f_state f_was f_kept f_tape f_order f_rest f_ways f_costs f_bandBest f_found f_drawn f_joined f_out (by omega) (by omega) (by omega) (by omega) (by omega) (by omega) hG x _ rfl (fun r => r = FX12_isNet f_state x) rfl) mkX12_isNet w_1104 ws_35 w_1102 (xpg0 hP rfl) rfl rfl rfl rfl (Nat.le_of_ble_eq_true rfl) (Nat.le_of_ble_eq_true rfl) (Nat.le_of_ble_eq_true rfl) (Nat.le_of_ble_eq_true rfl) (Nat.le_of_ble_eq_true rfl) ?_
  intro v M2 hz
  obtain ⟨_, rfl, rfl, rfl⟩ := hz
  show xW _ _ _ _ 5 _ [.int (FX12_isNet f_state x)] (P ++ (MDL L i_keptMany i_taped i_faultKind i_faultPlace i_spot i_begin i_token i_value i_bad i_full i_bandRows i_bandFirsts i_outs f_state f_was f_kept f_tape f_order f_rest f_ways f_costs f_bandBest f_found f_drawn f_joined f_out ++ R)) _ _
  refine xi_if_eq (tgt := 15) dX12_polished_5 (by decide) (fun c1 => ?_) (fun c1 => ?_)
  · rw [if_pos c1] at hq
    refine xi_bipush (v := (-2)) dX12_polished_15 (by decide) ?_
    exact xi_iret dX12_polished_17 rfl rfl (Nat.le_of_ble_eq_true rfl) (Nat.le_of_ble_eq_true rfl) ⟨_, rfl, hq, hR, rfl⟩
  · rw [if_neg c1] at hq
    obtain ⟨e2, e2b, e2h⟩ := net_in c1
    have e2c : x.toNatClampNeg = e2 := by rw [e2h]; exact nI_clamp (by omega)
    try rw [e2c] at hq
    subst e2h
    have e2g := (hG e2 e2b).1.2
    refine xi_iload_n 2 dX12_polished_8 rfl ?_
    refine xi_callS (as := [.int m]) (rest := []) dX12_polished_9 (FX12_isMeasure_ok G m (fun r => r = FX12_isMeasure m) rfl) mkX12_isMeasure w_1288 w_1287 rfl rfl (Nat.le_of_ble_eq_true rfl) (Nat.le_of_ble_eq_true rfl) (Nat.le_of_ble_eq_true rfl) (Nat.le_of_ble_eq_true rfl) (Nat.le_of_ble_eq_true rfl) ?_
    intro v M2 hz
    obtain ⟨_, rfl, rfl, hM2⟩ := hz
    rw [hM2]
    show xW _ _ _ _ 12 _ [.int (FX12_isMeasure m)] (P ++ (MDL L i_keptMany i_taped i_faultKind i_faultPlace i_spot i_begin i_token i_value i_bad i_full i_bandRows i_bandFirsts i_outs f_state f_was f_kept f_tape f_order f_rest f_ways f_costs f_bandBest f_found f_drawn f_joined f_out ++ R)) _ _
    refine xi_if_ne (tgt := 18) dX12_polished_12 (by decide) (fun c3 => ?_) (fun c3 => ?_)
    · rw [if_neg c3] at hq
      refine xi_aload_n 0 dX12_polished_18 rfl ?_
      refine xi_iload_n 1 dX12_polished_19 rfl ?_
      refine xi_iload_n 2 dX12_polished_20 rfl ?_
      refine xi_callV (as := [.int (nI e2), .int m]) (rest := []) dX12_polished_21 (FX12_polishes_ok G hP i_keptMany i_taped i_faultKind i_faultPlace i_spot i_begin i_token i_value i_bad i_full i_bandRows i_bandFirsts i_outs f_state f_was f_kept f_tape f_order f_rest f_ways f_costs f_bandBest f_found f_drawn f_joined f_out (by omega) (by omega) (by omega) (by omega) (by omega) (by omega) hG hE hR e2 (by omega) m _ rfl (fun r => r = FX12_polishes f_state f_order e2 m) rfl) mkX12_polishes w_1480 ws_89 w_1478 (xpg0 hP rfl) rfl rfl rfl rfl (Nat.le_of_ble_eq_true rfl) (Nat.le_of_ble_eq_true rfl) (Nat.le_of_ble_eq_true rfl) (Nat.le_of_ble_eq_true rfl) (Nat.le_of_ble_eq_true rfl) ?_
      intro v M2 hz
      obtain ⟨_, rfl, rfl, hk4, hp5, rfl⟩ := hz
      show xW _ _ _ _ 24 _ [.int ((FX12_polishes f_state f_order e2 m).1)] (P ++ (MDL L i_keptMany i_taped i_faultKind i_faultPlace i_spot i_begin i_token i_value i_bad i_full i_bandRows i_bandFirsts i_outs f_state f_was f_kept f_tape ((FX12_polishes f_state f_order e2 m).2) f_rest f_ways f_costs f_bandBest f_found f_drawn f_joined f_out ++ R)) _ _
      refine xi_istore_n (lv' := [(3, .int ((FX12_polishes f_state f_order e2 m).1)), (0, .ref L), (1, .int (nI e2)), (2, .int m)]) dX12_polished_24 (by decide) rfl ?_
      refine xi_aload_n 1 dX12_polished_25 rfl ?_
      refine xi_iload_n 2 dX12_polished_26 rfl ?_
      refine xi_iload_n 3 dX12_polished_27 rfl ?_
      refine xi_callV (as := [.int (nI e2), .int m]) (rest := []) dX12_polished_28 (FX12_valueOf_ok G hP i_keptMany i_taped i_faultKind i_faultPlace i_spot i_begin i_token i_value i_bad i_full i_bandRows i_bandFirsts i_outs f_state f_was f_kept f_tape ((FX12_polishes f_state f_order e2 m).2) f_rest f_ways f_costs f_bandBest f_found f_drawn f_joined f_out (by omega) (by omega) (by omega) (by omega) (by omega) (by omega) hG hk4 e2 (by omega) m _ rfl (fun r => r = FX12_valueOf f_state ((FX12_polishes f_state f_order e2 m).2) e2 m) rfl) mkX12_valueOf w_1296 ws_67 w_1294 (xpg0 hP rfl) rfl rfl rfl rfl (Nat.le_of_ble_eq_true rfl) (Nat.le_of_ble_eq_true rfl) (Nat.le_of_ble_eq_true rfl) (Nat.le_of_ble_eq_true rfl) (Nat.le_of_ble_eq_true rfl) ?_
      intro v M2 hz
      obtain ⟨_, rfl, rfl, rfl⟩ := hz
      show xW _ _ _ _ 31 _ [.int (FX12_valueOf f_state ((FX12_polishes f_state f_order e2 m).2) e2 m)] (P ++ (MDL L i_keptMany i_taped i_faultKind i_faultPlace i_spot i_begin i_token i_value i_bad i_full i_bandRows i_bandFirsts i_outs f_state f_was f_kept f_tape ((FX12_polishes f_state f_order e2 m).2) f_rest f_ways f_costs f_bandBest f_found f_drawn f_joined f_out ++ R)) _ _
      exact xi_iret dX12_polished_31 rfl rfl (Nat.le_of_ble_eq_true rfl) (Nat.le_of_ble_eq_true rfl) ⟨_, rfl, hq, hk4, rfl⟩
    · rw [if_pos c3] at hq
      refine xi_bipush (v := (-2)) dX12_polished_15 (by decide) ?_
      exact xi_iret dX12_polished_17 rfl rfl (Nat.le_of_ble_eq_true rfl) (Nat.le_of_ble_eq_true rfl) ⟨_, rfl, hq, hR, rfl⟩
theorem two_1 {g : Nat → Int32} {x y t : Int32} (h : ¬ FX12_areTwo g x y t = 0) : ¬ FX12_isPoint g x y = 0 := by
  intro c
  unfold FX12_areTwo at h
  rw [if_pos c] at h
  exact h rfl
theorem two_2 {g : Nat → Int32} {x y t : Int32} (h : ¬ FX12_areTwo g x y t = 0) : ¬ FX12_isPoint g x t = 0 := by
  intro c
  unfold FX12_areTwo at h
  by_cases c1 : FX12_isPoint g x y = 0
  · rw [if_pos c1] at h
    exact h rfl
  · rw [if_neg c1, if_pos c] at h
    exact h rfl
theorem two_3 {g : Nat → Int32} {x y t : Int32} (h : ¬ FX12_areTwo g x y t = 0) : ¬ y = t := by
  intro c
  unfold FX12_areTwo at h
  by_cases c1 : FX12_isPoint g x y = 0
  · rw [if_pos c1] at h
    exact h rfl
  · by_cases c2 : FX12_isPoint g x t = 0
    · rw [if_neg c1, if_pos c2] at h
      exact h rfl
    · rw [if_neg c1, if_neg c2, if_pos c] at h
      exact h rfl
theorem in_c {y : Int32} {lo hi : Int64} (h : ¬ FX12_in y.toInt64 lo hi = 0) (h1 : 0 ≤ lo.toInt) (h2 : hi.toInt ≤ 9) : ∃ q, q < 10 ∧ y = nI q := by
  have h3 := (in_iff _ _ _).mp h
  rw [Int32.toInt_toInt64] at h3
  have e4 : (0 : Int32).toInt = 0 := by decide
  have h0 : ¬ y < 0 := fun q => by
    rw [Int32.lt_iff_toInt_lt] at q
    omega
  obtain ⟨j, hj, rfl⟩ := nI_of h0
  rw [nI_toInt hj] at h3
  exact ⟨j, by omega, rfl⟩
def FX12k_weighs (f_state : Nat → Int32) (z : Nat) (p : Nat) (q : Nat) (w : Nat) : Int32 × (Nat → Int32) := (0, upd (upd f_state ((((91 * z) + 1) + (9 * p)) + q) ((nI w))) ((((91 * z) + 1) + (9 * q)) + p) ((nI w)))
set_option maxHeartbeats 4000000 in
set_option maxRecDepth 100000 in
theorem FX12k_weighs_ok (G : xG) {P R : xMem} {L : Nat} (hP : P.length = L) (i_keptMany : Nat) (i_taped : Nat) (i_faultKind : Int32) (i_faultPlace : Int32) (i_spot : Nat) (i_begin : Nat) (i_token : Int32) (i_value : Int32) (i_bad : Int32) (i_full : Nat) (i_bandRows : Int32) (i_bandFirsts : Int32) (i_outs : Nat) (f_state : Nat → Int32) (f_was : Nat → Int32) (f_kept : Nat → Int32) (f_tape : Nat → Int32) (f_order : Nat → Int32) (f_rest : Nat → Int32) (f_ways : Nat → Int32) (f_costs : Nat → Int32) (f_bandBest : Nat → Int32) (f_found : Nat → Int32) (f_drawn : Nat → Int32) (f_joined : Nat → Int32) (f_out : Nat → Int32) (bi_keptMany : i_keptMany ≤ 10) (bi_taped : i_taped ≤ 400) (bi_spot : i_spot ≤ 400) (bi_begin : i_begin ≤ 400) (bi_full : i_full ≤ 511) (bi_outs : i_outs ≤ 400) (hG : GO f_state) (hE : PE f_state) (hT : WB f_state) (z : Nat) (bz : z < 3) (p : Nat) (bp : p < 9) (q : Nat) (bq : q < 9) (w : Nat) (bw : w < 10) (M : xMem) (hM : M = (P ++ (MDL L i_keptMany i_taped i_faultKind i_faultPlace i_spot i_begin i_token i_value i_bad i_full i_bandRows i_bandFirsts i_outs f_state f_was f_kept f_tape f_order f_rest f_ways f_costs f_bandBest f_found f_drawn f_joined f_out ++ R))) (Q : Int32 × (Nat → Int32) → Prop) (hq : Q (FX12k_weighs f_state z p q w)) : xC G mX12_weighs 0 0 0 [.ref L, .int (nI z), .int (nI p), .int (nI q), .int (nI w)] M (fun v M2 => ∃ o : Int32 × (Nat → Int32), v = none ∧ Q o ∧ GO o.2 ∧ PE o.2 ∧ WB o.2 ∧ M2 = (P ++ (MDL L i_keptMany i_taped i_faultKind i_faultPlace i_spot i_begin i_token i_value i_bad i_full i_bandRows i_bandFirsts i_outs o.2 f_was f_kept f_tape f_order f_rest f_ways f_costs f_bandBest f_found f_drawn f_joined f_out ++ R))) := by
  subst hM
  unfold FX12k_weighs at hq
  refine xC.of (by decide) (Nat.le_of_ble_eq_true rfl) ?_
  show xW _ _ _ _ 0 [(0, .ref L), (1, .int (nI z)), (2, .int (nI p)), (3, .int (nI q)), (4, .int (nI w))] [] _ 0 0
  refine xi_aload_n 0 dX12_weighs_0 rfl ?_
  refine xi_get (f := 0) dX12_weighs_1 (xpg0 hP rfl) rfl ok_9 (by decide) w_1008 rfl ?_
  refine xi_bipush (v := 91) dX12_weighs_4 (by decide) ?_
  refine xi_iload_n 1 dX12_weighs_6 rfl ?_
  refine xi_imul (v := (nI (91 * z))) dX12_weighs_7 (pk_mul 91 z) ?_
  refine xi_iconst (v := 1) dX12_weighs_8 (by decide) ?_
  refine xi_iadd (v := (nI ((91 * z) + 1))) dX12_weighs_9 (nI_add (91 * z) 1) ?_
  refine xi_bipush (v := 9) dX12_weighs_10 (by decide) ?_
  refine xi_iload_n 2 dX12_weighs_12 rfl ?_
  refine xi_imul (v := (nI (9 * p))) dX12_weighs_13 (pk_mul 9 p) ?_
  refine xi_iadd (v := (nI (((91 * z) + 1) + (9 * p)))) dX12_weighs_14 (nI_add ((91 * z) + 1) (9 * p)) ?_
  refine xi_iload_n 3 dX12_weighs_15 rfl ?_
  refine xi_iadd (v := (nI ((((91 * z) + 1) + (9 * p)) + q))) dX12_weighs_16 (nI_add (((91 * z) + 1) + (9 * p)) q) ?_
  refine xi_iload 4 dX12_weighs_17 rfl ?_
  refine xi_iastore (M' := (P ++ (MDL L i_keptMany i_taped i_faultKind i_faultPlace i_spot i_begin i_token i_value i_bad i_full i_bandRows i_bandFirsts i_outs (upd f_state ((((91 * z) + 1) + (9 * p)) + q) ((nI w))) f_was f_kept f_tape f_order f_rest f_ways f_costs f_bandBest f_found f_drawn f_joined f_out ++ R))) dX12_weighs_19 (xpg hP rfl) (vp_in_nI (by omega) (by decide)) (by rw [nI_clamp (by omega)]; exact (xps hP)) ?_
  refine xi_aload_n 0 dX12_weighs_20 rfl ?_
  refine xi_get (f := 0) dX12_weighs_21 (xpg0 hP rfl) rfl ok_9 (by decide) w_1008 rfl ?_
  refine xi_bipush (v := 91) dX12_weighs_24 (by decide) ?_
  refine xi_iload_n 1 dX12_weighs_26 rfl ?_
  refine xi_imul (v := (nI (91 * z))) dX12_weighs_27 (pk_mul 91 z) ?_
  refine xi_iconst (v := 1) dX12_weighs_28 (by decide) ?_
  refine xi_iadd (v := (nI ((91 * z) + 1))) dX12_weighs_29 (nI_add (91 * z) 1) ?_
  refine xi_bipush (v := 9) dX12_weighs_30 (by decide) ?_
  refine xi_iload_n 3 dX12_weighs_32 rfl ?_
  refine xi_imul (v := (nI (9 * q))) dX12_weighs_33 (pk_mul 9 q) ?_
  refine xi_iadd (v := (nI (((91 * z) + 1) + (9 * q)))) dX12_weighs_34 (nI_add ((91 * z) + 1) (9 * q)) ?_
  refine xi_iload_n 2 dX12_weighs_35 rfl ?_
  refine xi_iadd (v := (nI ((((91 * z) + 1) + (9 * q)) + p))) dX12_weighs_36 (nI_add (((91 * z) + 1) + (9 * q)) p) ?_
  refine xi_iload 4 dX12_weighs_37 rfl ?_
  refine xi_iastore (M' := (P ++ (MDL L i_keptMany i_taped i_faultKind i_faultPlace i_spot i_begin i_token i_value i_bad i_full i_bandRows i_bandFirsts i_outs (upd (upd f_state ((((91 * z) + 1) + (9 * p)) + q) ((nI w))) ((((91 * z) + 1) + (9 * q)) + p) ((nI w))) f_was f_kept f_tape f_order f_rest f_ways f_costs f_bandBest f_found f_drawn f_joined f_out ++ R))) dX12_weighs_39 (xpg hP rfl) (vp_in_nI (by omega) (by decide)) (by rw [nI_clamp (by omega)]; exact (xps hP)) ?_
  exact xi_vret dX12_weighs_40 rfl (Nat.le_of_ble_eq_true rfl) (Nat.le_of_ble_eq_true rfl) ⟨_, rfl, hq, (GO_w (GO_w hG z p q _ bz bp bq) z q p _ bz bq bp), (PE_w (PE_w hE z p q _ bz bp bq (fun s hs => (hG s hs).1.2)) z q p _ bz bq bp (fun s hs => (GO_w hG z p q _ bz bp bq s hs).1.2)), (WB_w (WB_w hT z p q w (by omega) bz bp bq) z q p w (by omega) bz bq bp), rfl⟩
def FX12_adds (i_keptMany : Nat) (f_state : Nat → Int32) (f_was : Nat → Int32) (f_kept : Nat → Int32) (x : Int32) (y : Int32) (t : Int32) (w : Int32) : Int32 × (Nat → Int32) × (Nat → Int32) × Nat × (Nat → Int32) := (if (FX12_areTwo f_state x y t) = (0 : Int32) then ((-2 : Int32), f_state, f_was, i_keptMany, f_kept) else (if (FX12_in w.toInt64 ((1 : Int64)) ((9 : Int64))) = (0 : Int32) then ((-2 : Int32), f_state, f_was, i_keptMany, f_kept) else (if (FX12_weight f_state x.toNatClampNeg y.toNatClampNeg t.toNatClampNeg) = (0 : Int32) then (if (FX12_lines f_state x.toNatClampNeg) = (30 : Int32) then ((-5 : Int32), f_state, f_was, i_keptMany, f_kept) else (((FX12k_done i_keptMany ((FX12k_weighs f_state x.toNatClampNeg y.toNatClampNeg t.toNatClampNeg w.toNatClampNeg).2) ((FX12k_remembers f_state f_was).2) f_kept ((FX12_weight f_state x.toNatClampNeg y.toNatClampNeg t.toNatClampNeg))).1), (FX12k_weighs f_state x.toNatClampNeg y.toNatClampNeg t.toNatClampNeg w.toNatClampNeg).2, (FX12k_remembers f_state f_was).2, (FX12k_done i_keptMany ((FX12k_weighs f_state x.toNatClampNeg y.toNatClampNeg t.toNatClampNeg w.toNatClampNeg).2) ((FX12k_remembers f_state f_was).2) f_kept ((FX12_weight f_state x.toNatClampNeg y.toNatClampNeg t.toNatClampNeg))).2.1, (FX12k_done i_keptMany ((FX12k_weighs f_state x.toNatClampNeg y.toNatClampNeg t.toNatClampNeg w.toNatClampNeg).2) ((FX12k_remembers f_state f_was).2) f_kept ((FX12_weight f_state x.toNatClampNeg y.toNatClampNeg t.toNatClampNeg))).2.2)) else (((FX12k_done i_keptMany ((FX12k_weighs f_state x.toNatClampNeg y.toNatClampNeg t.toNatClampNeg w.toNatClampNeg).2) ((FX12k_remembers f_state f_was).2) f_kept ((FX12_weight f_state x.toNatClampNeg y.toNatClampNeg t.toNatClampNeg))).1), (FX12k_weighs f_state x.toNatClampNeg y.toNatClampNeg t.toNatClampNeg w.toNatClampNeg).2, (FX12k_remembers f_state f_was).2, (FX12k_done i_keptMany ((FX12k_weighs f_state x.toNatClampNeg y.toNatClampNeg t.toNatClampNeg w.toNatClampNeg).2) ((FX12k_remembers f_state f_was).2) f_kept ((FX12_weight f_state x.toNatClampNeg y.toNatClampNeg t.toNatClampNeg))).2.1, (FX12k_done i_keptMany ((FX12k_weighs f_state x.toNatClampNeg y.toNatClampNeg t.toNatClampNeg w.toNatClampNeg).2) ((FX12k_remembers f_state f_was).2) f_kept ((FX12_weight f_state x.toNatClampNeg y.toNatClampNeg t.toNatClampNeg))).2.2))))
set_option maxHeartbeats 4000000 in
set_option maxRecDepth 100000 in
theorem FX12_adds_ok (G : xG) {P R : xMem} {L : Nat} (hP : P.length = L) (i_keptMany : Nat) (i_taped : Nat) (i_faultKind : Int32) (i_faultPlace : Int32) (i_spot : Nat) (i_begin : Nat) (i_token : Int32) (i_value : Int32) (i_bad : Int32) (i_full : Nat) (i_bandRows : Int32) (i_bandFirsts : Int32) (i_outs : Nat) (f_state : Nat → Int32) (f_was : Nat → Int32) (f_kept : Nat → Int32) (f_tape : Nat → Int32) (f_order : Nat → Int32) (f_rest : Nat → Int32) (f_ways : Nat → Int32) (f_costs : Nat → Int32) (f_bandBest : Nat → Int32) (f_found : Nat → Int32) (f_drawn : Nat → Int32) (f_joined : Nat → Int32) (f_out : Nat → Int32) (bi_keptMany : i_keptMany ≤ 10) (bi_taped : i_taped ≤ 400) (bi_spot : i_spot ≤ 400) (bi_begin : i_begin ≤ 400) (bi_full : i_full ≤ 511) (bi_outs : i_outs ≤ 400) (hG : GO f_state) (hE : PE f_state) (hT : WB f_state) (hW : SO f_was) (hK : KO i_keptMany f_kept) (x : Int32) (y : Int32) (t : Int32) (w : Int32) (M : xMem) (hM : M = (P ++ (MDL L i_keptMany i_taped i_faultKind i_faultPlace i_spot i_begin i_token i_value i_bad i_full i_bandRows i_bandFirsts i_outs f_state f_was f_kept f_tape f_order f_rest f_ways f_costs f_bandBest f_found f_drawn f_joined f_out ++ R))) (Q : Int32 × (Nat → Int32) × (Nat → Int32) × Nat × (Nat → Int32) → Prop) (hq : Q (FX12_adds i_keptMany f_state f_was f_kept x y t w)) : xC G mX12_adds 5 0 0 [.ref L, .int x, .int y, .int t, .int w] M (fun v M2 => ∃ o : Int32 × (Nat → Int32) × (Nat → Int32) × Nat × (Nat → Int32), v = some (.int o.1) ∧ Q o ∧ GO o.2.1 ∧ PE o.2.1 ∧ WB o.2.1 ∧ SO o.2.2.1 ∧ KO o.2.2.2.1 o.2.2.2.2 ∧ o.2.2.2.1 ≤ 10 ∧ M2 = (P ++ (MDL L o.2.2.2.1 i_taped i_faultKind i_faultPlace i_spot i_begin i_token i_value i_bad i_full i_bandRows i_bandFirsts i_outs o.2.1 o.2.2.1 o.2.2.2.2 f_tape f_order f_rest f_ways f_costs f_bandBest f_found f_drawn f_joined f_out ++ R))) := by
  subst hM
  unfold FX12_adds at hq
  refine xC.of (by decide) (Nat.le_of_ble_eq_true rfl) ?_
  show xW _ _ _ _ 0 [(0, .ref L), (1, .int x), (2, .int y), (3, .int t), (4, .int w)] [] _ 0 0
  refine xi_aload_n 0 dX12_adds_0 rfl ?_
  refine xi_iload_n 1 dX12_adds_1 rfl ?_
  refine xi_iload_n 2 dX12_adds_2 rfl ?_
  refine xi_iload_n 3 dX12_adds_3 rfl ?_
  refine xi_callV (as := [.int x, .int y, .int t]) (rest := []) dX12_adds_4 (FX12_areTwo_ok G hP i_keptMany i_taped i_faultKind i_faultPlace i_spot i_begin i_token i_value i_bad i_full i_bandRows i_bandFirsts i_outs f_state f_was f_kept f_tape f_order f_rest f_ways f_costs f_bandBest f_found f_drawn f_joined f_out (by omega) (by omega) (by omega) (by omega) (by omega) (by omega) hG x y t _ rfl (fun r => r = FX12_areTwo f_state x y t) rfl) mkX12_areTwo w_1500 ws_90 w_1498 (xpg0 hP rfl) rfl rfl rfl rfl (Nat.le_of_ble_eq_true rfl) (Nat.le_of_ble_eq_true rfl) (Nat.le_of_ble_eq_true rfl) (Nat.le_of_ble_eq_true rfl) (Nat.le_of_ble_eq_true rfl) ?_
  intro v M2 hz
  obtain ⟨_, rfl, rfl, rfl⟩ := hz
  show xW _ _ _ _ 7 _ [.int (FX12_areTwo f_state x y t)] (P ++ (MDL L i_keptMany i_taped i_faultKind i_faultPlace i_spot i_begin i_token i_value i_bad i_full i_bandRows i_bandFirsts i_outs f_state f_was f_kept f_tape f_order f_rest f_ways f_costs f_bandBest f_found f_drawn f_joined f_out ++ R)) _ _
  refine xi_if_eq (tgt := 23) dX12_adds_7 (by decide) (fun c1 => ?_) (fun c1 => ?_)
  · rw [if_pos c1] at hq
    refine xi_bipush (v := (-2)) dX12_adds_23 (by decide) ?_
    exact xi_iret dX12_adds_25 rfl rfl (Nat.le_of_ble_eq_true rfl) (Nat.le_of_ble_eq_true rfl) ⟨_, rfl, hq, hG, hE, hT, hW, hK, (by show i_keptMany ≤ 10; omega), rfl⟩
  · rw [if_neg c1] at hq
    obtain ⟨e2, e2b, e2h⟩ := point_in (two_1 c1)
    have e2c : x.toNatClampNeg = e2 := by rw [e2h]; exact nI_clamp (by omega)
    try rw [e2c] at hq
    subst e2h
    have e2g := (hG e2 e2b).1.2
    have e2n := two_3 c1
    obtain ⟨e3, e3b, e3h⟩ := point_in2 hG (two_1 c1)
    rw [nI_clamp (by omega)] at e3b
    have e3c : y.toNatClampNeg = e3 := by rw [e3h]; exact nI_clamp (by omega)
    try rw [e3c] at hq
    subst e3h
    obtain ⟨e4, e4b, e4h⟩ := point_in2 hG (two_2 c1)
    rw [nI_clamp (by omega)] at e4b
    have e4c : t.toNatClampNeg = e4 := by rw [e4h]; exact nI_clamp (by omega)
    try rw [e4c] at hq
    subst e4h
    refine xi_iload 4 dX12_adds_10 rfl ?_
    refine xi_i2l dX12_adds_12 rfl ?_
    refine xi_lconst (v := 1) dX12_adds_13 (by decide) ?_
    refine xi_ldc2 (v := 9) dX12_adds_14 w_1502 ?_
    refine xi_callS (as := [.long w.toInt64, .long 1, .long 9]) (rest := []) dX12_adds_17 (FX12_in_ok G w.toInt64 ((1 : Int64)) ((9 : Int64)) (fun r => r = FX12_in w.toInt64 ((1 : Int64)) ((9 : Int64))) rfl) mkX12_in w_1100 w_1099 rfl rfl (Nat.le_of_ble_eq_true rfl) (Nat.le_of_ble_eq_true rfl) (Nat.le_of_ble_eq_true rfl) (Nat.le_of_ble_eq_true rfl) (Nat.le_of_ble_eq_true rfl) ?_
    intro v M2 hz
    obtain ⟨_, rfl, rfl, hM2⟩ := hz
    rw [hM2]
    show xW _ _ _ _ 20 _ [.int (FX12_in w.toInt64 ((1 : Int64)) ((9 : Int64)))] (P ++ (MDL L i_keptMany i_taped i_faultKind i_faultPlace i_spot i_begin i_token i_value i_bad i_full i_bandRows i_bandFirsts i_outs f_state f_was f_kept f_tape f_order f_rest f_ways f_costs f_bandBest f_found f_drawn f_joined f_out ++ R)) _ _
    refine xi_if_ne (tgt := 26) dX12_adds_20 (by decide) (fun c5 => ?_) (fun c5 => ?_)
    · rw [if_neg c5] at hq
      obtain ⟨e6, e6b, e6h⟩ := in_c c5 (by decide) (by decide)
      have e6c : w.toNatClampNeg = e6 := by rw [e6h]; exact nI_clamp (by omega)
      try rw [e6c] at hq
      subst e6h
      refine xi_aload_n 0 dX12_adds_26 rfl ?_
      refine xi_iload_n 1 dX12_adds_27 rfl ?_
      refine xi_iload_n 2 dX12_adds_28 rfl ?_
      refine xi_iload_n 3 dX12_adds_29 rfl ?_
      refine xi_callV (as := [.int (nI e2), .int (nI e3), .int (nI e4)]) (rest := []) dX12_adds_30 (FX12_weight_ok G hP i_keptMany i_taped i_faultKind i_faultPlace i_spot i_begin i_token i_value i_bad i_full i_bandRows i_bandFirsts i_outs f_state f_was f_kept f_tape f_order f_rest f_ways f_costs f_bandBest f_found f_drawn f_joined f_out (by omega) (by omega) (by omega) (by omega) (by omega) (by omega) e2 (by omega) e3 (by omega) e4 (by omega) _ rfl (fun r => r = FX12_weight f_state e2 e3 e4) rfl) mkX12_weight w_1192 ws_53 w_1190 (xpg0 hP rfl) rfl rfl rfl rfl (Nat.le_of_ble_eq_true rfl) (Nat.le_of_ble_eq_true rfl) (Nat.le_of_ble_eq_true rfl) (Nat.le_of_ble_eq_true rfl) (Nat.le_of_ble_eq_true rfl) ?_
      intro v M2 hz
      obtain ⟨_, rfl, rfl, rfl⟩ := hz
      show xW _ _ _ _ 33 _ [.int (FX12_weight f_state e2 e3 e4)] (P ++ (MDL L i_keptMany i_taped i_faultKind i_faultPlace i_spot i_begin i_token i_value i_bad i_full i_bandRows i_bandFirsts i_outs f_state f_was f_kept f_tape f_order f_rest f_ways f_costs f_bandBest f_found f_drawn f_joined f_out ++ R)) _ _
      refine xi_istore (lv' := [(5, .int (FX12_weight f_state e2 e3 e4)), (0, .ref L), (1, .int (nI e2)), (2, .int (nI e3)), (3, .int (nI e4)), (4, .int (nI e6))]) dX12_adds_33 (by decide) rfl ?_
      refine xi_iload 0 dX12_adds_35 rfl ?_
      refine xi_if_ne (tgt := 53) dX12_adds_37 (by decide) (fun c7 => ?_) (fun c7 => ?_)
      · rw [if_neg c7] at hq
        refine xi_aload_n 1 dX12_adds_53 rfl ?_
        refine xi_callV (as := []) (rest := []) dX12_adds_54 (FX12k_remembers_ok G hP i_keptMany i_taped i_faultKind i_faultPlace i_spot i_begin i_token i_value i_bad i_full i_bandRows i_bandFirsts i_outs f_state f_was f_kept f_tape f_order f_rest f_ways f_costs f_bandBest f_found f_drawn f_joined f_out (by omega) (by omega) (by omega) (by omega) (by omega) (by omega) hG hE hT hW _ rfl (fun r => r = FX12k_remembers f_state f_was) rfl) mkX12_remembers w_1112 ws_37 w_1110 (xpg0 hP rfl) rfl rfl rfl rfl (Nat.le_of_ble_eq_true rfl) (Nat.le_of_ble_eq_true rfl) (Nat.le_of_ble_eq_true rfl) (Nat.le_of_ble_eq_true rfl) (Nat.le_of_ble_eq_true rfl) ?_
        intro v M2 hz
        obtain ⟨_, rfl, rfl, hk8, rfl⟩ := hz
        show xW _ _ _ _ 57 _ [] (P ++ (MDL L i_keptMany i_taped i_faultKind i_faultPlace i_spot i_begin i_token i_value i_bad i_full i_bandRows i_bandFirsts i_outs f_state ((FX12k_remembers f_state f_was).2) f_kept f_tape f_order f_rest f_ways f_costs f_bandBest f_found f_drawn f_joined f_out ++ R)) _ _
        refine xi_aload_n 1 dX12_adds_57 rfl ?_
        refine xi_iload_n 2 dX12_adds_58 rfl ?_
        refine xi_iload_n 3 dX12_adds_59 rfl ?_
        refine xi_iload_n 4 dX12_adds_60 rfl ?_
        refine xi_iload 5 dX12_adds_61 rfl ?_
        refine xi_callV (as := [.int (nI e2), .int (nI e3), .int (nI e4), .int (nI e6)]) (rest := []) dX12_adds_63 (FX12k_weighs_ok G hP i_keptMany i_taped i_faultKind i_faultPlace i_spot i_begin i_token i_value i_bad i_full i_bandRows i_bandFirsts i_outs f_state ((FX12k_remembers f_state f_was).2) f_kept f_tape f_order f_rest f_ways f_costs f_bandBest f_found f_drawn f_joined f_out (by omega) (by omega) (by omega) (by omega) (by omega) (by omega) hG hE hT e2 (by omega) e3 (by omega) e4 (by omega) e6 (by omega) _ rfl (fun r => r = FX12k_weighs f_state e2 e3 e4 e6) rfl) mkX12_weighs w_1199 ws_54 w_1197 (xpg0 hP rfl) rfl rfl rfl rfl (Nat.le_of_ble_eq_true rfl) (Nat.le_of_ble_eq_true rfl) (Nat.le_of_ble_eq_true rfl) (Nat.le_of_ble_eq_true rfl) (Nat.le_of_ble_eq_true rfl) ?_
        intro v M2 hz
        obtain ⟨_, rfl, rfl, hk9, hk10, hk11, rfl⟩ := hz
        show xW _ _ _ _ 66 _ [] (P ++ (MDL L i_keptMany i_taped i_faultKind i_faultPlace i_spot i_begin i_token i_value i_bad i_full i_bandRows i_bandFirsts i_outs ((FX12k_weighs f_state e2 e3 e4 e6).2) ((FX12k_remembers f_state f_was).2) f_kept f_tape f_order f_rest f_ways f_costs f_bandBest f_found f_drawn f_joined f_out ++ R)) _ _
        refine xi_aload_n 1 dX12_adds_66 rfl ?_
        refine xi_iload 0 dX12_adds_67 rfl ?_
        refine xi_callV (as := [.int (FX12_weight f_state e2 e3 e4)]) (rest := []) dX12_adds_69 (FX12k_done_ok G hP i_keptMany i_taped i_faultKind i_faultPlace i_spot i_begin i_token i_value i_bad i_full i_bandRows i_bandFirsts i_outs ((FX12k_weighs f_state e2 e3 e4 e6).2) ((FX12k_remembers f_state f_was).2) f_kept f_tape f_order f_rest f_ways f_costs f_bandBest f_found f_drawn f_joined f_out (by omega) (by omega) (by omega) (by omega) (by omega) (by omega) hk8 hK ((FX12_weight f_state e2 e3 e4)) _ rfl (fun r => r = FX12k_done i_keptMany ((FX12k_weighs f_state e2 e3 e4 e6).2) ((FX12k_remembers f_state f_was).2) f_kept ((FX12_weight f_state e2 e3 e4))) rfl) mkX12_done w_1211 ws_56 w_1209 (xpg0 hP rfl) rfl rfl rfl rfl (Nat.le_of_ble_eq_true rfl) (Nat.le_of_ble_eq_true rfl) (Nat.le_of_ble_eq_true rfl) (Nat.le_of_ble_eq_true rfl) (Nat.le_of_ble_eq_true rfl) ?_
        intro v M2 hz
        obtain ⟨_, rfl, rfl, hk12, hn13, rfl⟩ := hz
        show xW _ _ _ _ 72 _ [.int ((FX12k_done i_keptMany ((FX12k_weighs f_state e2 e3 e4 e6).2) ((FX12k_remembers f_state f_was).2) f_kept ((FX12_weight f_state e2 e3 e4))).1)] (P ++ (MDL L ((FX12k_done i_keptMany ((FX12k_weighs f_state e2 e3 e4 e6).2) ((FX12k_remembers f_state f_was).2) f_kept ((FX12_weight f_state e2 e3 e4))).2.1) i_taped i_faultKind i_faultPlace i_spot i_begin i_token i_value i_bad i_full i_bandRows i_bandFirsts i_outs ((FX12k_weighs f_state e2 e3 e4 e6).2) ((FX12k_remembers f_state f_was).2) ((FX12k_done i_keptMany ((FX12k_weighs f_state e2 e3 e4 e6).2) ((FX12k_remembers f_state f_was).2) f_kept ((FX12_weight f_state e2 e3 e4))).2.2) f_tape f_order f_rest f_ways f_costs f_bandBest f_found f_drawn f_joined f_out ++ R)) _ _
        exact xi_iret dX12_adds_72 rfl rfl (Nat.le_of_ble_eq_true rfl) (Nat.le_of_ble_eq_true rfl) ⟨_, rfl, hq, hk9, hk10, hk11, hk8, hk12, (by show ((FX12k_done i_keptMany ((FX12k_weighs f_state e2 e3 e4 e6).2) ((FX12k_remembers f_state f_was).2) f_kept ((FX12_weight f_state e2 e3 e4))).2.1) ≤ 10; omega), rfl⟩
      · rw [if_pos c7] at hq
        refine xi_aload_n 1 dX12_adds_40 rfl ?_
        refine xi_iload_n 2 dX12_adds_41 rfl ?_
        refine xi_callV (as := [.int (nI e2)]) (rest := []) dX12_adds_42 (FX12_lines_ok G hP i_keptMany i_taped i_faultKind i_faultPlace i_spot i_begin i_token i_value i_bad i_full i_bandRows i_bandFirsts i_outs f_state f_was f_kept f_tape f_order f_rest f_ways f_costs f_bandBest f_found f_drawn f_joined f_out (by omega) (by omega) (by omega) (by omega) (by omega) (by omega) hG e2 (by omega) _ rfl (fun r => r = FX12_lines f_state e2) rfl) mkX12_lines w_1184 ws_51 w_1182 (xpg0 hP rfl) rfl rfl rfl rfl (Nat.le_of_ble_eq_true rfl) (Nat.le_of_ble_eq_true rfl) (Nat.le_of_ble_eq_true rfl) (Nat.le_of_ble_eq_true rfl) (Nat.le_of_ble_eq_true rfl) ?_
        intro v M2 hz
        obtain ⟨_, rfl, rfl, rfl⟩ := hz
        show xW _ _ _ _ 45 _ [.int (FX12_lines f_state e2)] (P ++ (MDL L i_keptMany i_taped i_faultKind i_faultPlace i_spot i_begin i_token i_value i_bad i_full i_bandRows i_bandFirsts i_outs f_state f_was f_kept f_tape f_order f_rest f_ways f_costs f_bandBest f_found f_drawn f_joined f_out ++ R)) _ _
        refine xi_bipush (v := 30) dX12_adds_45 (by decide) ?_
        refine xi_icmp_ne (tgt := 53) dX12_adds_47 (by decide) (fun c14 => ?_) (fun c14 => ?_)
        · rw [if_neg c14] at hq
          refine xi_aload_n 1 dX12_adds_53 rfl ?_
          refine xi_callV (as := []) (rest := []) dX12_adds_54 (FX12k_remembers_ok G hP i_keptMany i_taped i_faultKind i_faultPlace i_spot i_begin i_token i_value i_bad i_full i_bandRows i_bandFirsts i_outs f_state f_was f_kept f_tape f_order f_rest f_ways f_costs f_bandBest f_found f_drawn f_joined f_out (by omega) (by omega) (by omega) (by omega) (by omega) (by omega) hG hE hT hW _ rfl (fun r => r = FX12k_remembers f_state f_was) rfl) mkX12_remembers w_1112 ws_37 w_1110 (xpg0 hP rfl) rfl rfl rfl rfl (Nat.le_of_ble_eq_true rfl) (Nat.le_of_ble_eq_true rfl) (Nat.le_of_ble_eq_true rfl) (Nat.le_of_ble_eq_true rfl) (Nat.le_of_ble_eq_true rfl) ?_
          intro v M2 hz
          obtain ⟨_, rfl, rfl, hk15, rfl⟩ := hz
          show xW _ _ _ _ 57 _ [] (P ++ (MDL L i_keptMany i_taped i_faultKind i_faultPlace i_spot i_begin i_token i_value i_bad i_full i_bandRows i_bandFirsts i_outs f_state ((FX12k_remembers f_state f_was).2) f_kept f_tape f_order f_rest f_ways f_costs f_bandBest f_found f_drawn f_joined f_out ++ R)) _ _
          refine xi_aload_n 1 dX12_adds_57 rfl ?_
          refine xi_iload_n 2 dX12_adds_58 rfl ?_
          refine xi_iload_n 3 dX12_adds_59 rfl ?_
          refine xi_iload_n 4 dX12_adds_60 rfl ?_
          refine xi_iload 5 dX12_adds_61 rfl ?_
          refine xi_callV (as := [.int (nI e2), .int (nI e3), .int (nI e4), .int (nI e6)]) (rest := []) dX12_adds_63 (FX12k_weighs_ok G hP i_keptMany i_taped i_faultKind i_faultPlace i_spot i_begin i_token i_value i_bad i_full i_bandRows i_bandFirsts i_outs f_state ((FX12k_remembers f_state f_was).2) f_kept f_tape f_order f_rest f_ways f_costs f_bandBest f_found f_drawn f_joined f_out (by omega) (by omega) (by omega) (by omega) (by omega) (by omega) hG hE hT e2 (by omega) e3 (by omega) e4 (by omega) e6 (by omega) _ rfl (fun r => r = FX12k_weighs f_state e2 e3 e4 e6) rfl) mkX12_weighs w_1199 ws_54 w_1197 (xpg0 hP rfl) rfl rfl rfl rfl (Nat.le_of_ble_eq_true rfl) (Nat.le_of_ble_eq_true rfl) (Nat.le_of_ble_eq_true rfl) (Nat.le_of_ble_eq_true rfl) (Nat.le_of_ble_eq_true rfl) ?_
          intro v M2 hz
          obtain ⟨_, rfl, rfl, hk16, hk17, hk18, rfl⟩ := hz
          show xW _ _ _ _ 66 _ [] (P ++ (MDL L i_keptMany i_taped i_faultKind i_faultPlace i_spot i_begin i_token i_value i_bad i_full i_bandRows i_bandFirsts i_outs ((FX12k_weighs f_state e2 e3 e4 e6).2) ((FX12k_remembers f_state f_was).2) f_kept f_tape f_order f_rest f_ways f_costs f_bandBest f_found f_drawn f_joined f_out ++ R)) _ _
          refine xi_aload_n 1 dX12_adds_66 rfl ?_
          refine xi_iload 0 dX12_adds_67 rfl ?_
          refine xi_callV (as := [.int (FX12_weight f_state e2 e3 e4)]) (rest := []) dX12_adds_69 (FX12k_done_ok G hP i_keptMany i_taped i_faultKind i_faultPlace i_spot i_begin i_token i_value i_bad i_full i_bandRows i_bandFirsts i_outs ((FX12k_weighs f_state e2 e3 e4 e6).2) ((FX12k_remembers f_state f_was).2) f_kept f_tape f_order f_rest f_ways f_costs f_bandBest f_found f_drawn f_joined f_out (by omega) (by omega) (by omega) (by omega) (by omega) (by omega) hk15 hK ((FX12_weight f_state e2 e3 e4)) _ rfl (fun r => r = FX12k_done i_keptMany ((FX12k_weighs f_state e2 e3 e4 e6).2) ((FX12k_remembers f_state f_was).2) f_kept ((FX12_weight f_state e2 e3 e4))) rfl) mkX12_done w_1211 ws_56 w_1209 (xpg0 hP rfl) rfl rfl rfl rfl (Nat.le_of_ble_eq_true rfl) (Nat.le_of_ble_eq_true rfl) (Nat.le_of_ble_eq_true rfl) (Nat.le_of_ble_eq_true rfl) (Nat.le_of_ble_eq_true rfl) ?_
          intro v M2 hz
          obtain ⟨_, rfl, rfl, hk19, hn20, rfl⟩ := hz
          show xW _ _ _ _ 72 _ [.int ((FX12k_done i_keptMany ((FX12k_weighs f_state e2 e3 e4 e6).2) ((FX12k_remembers f_state f_was).2) f_kept ((FX12_weight f_state e2 e3 e4))).1)] (P ++ (MDL L ((FX12k_done i_keptMany ((FX12k_weighs f_state e2 e3 e4 e6).2) ((FX12k_remembers f_state f_was).2) f_kept ((FX12_weight f_state e2 e3 e4))).2.1) i_taped i_faultKind i_faultPlace i_spot i_begin i_token i_value i_bad i_full i_bandRows i_bandFirsts i_outs ((FX12k_weighs f_state e2 e3 e4 e6).2) ((FX12k_remembers f_state f_was).2) ((FX12k_done i_keptMany ((FX12k_weighs f_state e2 e3 e4 e6).2) ((FX12k_remembers f_state f_was).2) f_kept ((FX12_weight f_state e2 e3 e4))).2.2) f_tape f_order f_rest f_ways f_costs f_bandBest f_found f_drawn f_joined f_out ++ R)) _ _
          exact xi_iret dX12_adds_72 rfl rfl (Nat.le_of_ble_eq_true rfl) (Nat.le_of_ble_eq_true rfl) ⟨_, rfl, hq, hk16, hk17, hk18, hk15, hk19, (by show ((FX12k_done i_keptMany ((FX12k_weighs f_state e2 e3 e4 e6).2) ((FX12k_remembers f_state f_was).2) f_kept ((FX12_weight f_state e2 e3 e4))).2.1) ≤ 10; omega), rfl⟩
        · rw [if_pos c14] at hq
          refine xi_bipush (v := (-5)) dX12_adds_50 (by decide) ?_
          exact xi_iret dX12_adds_52 rfl rfl (Nat.le_of_ble_eq_true rfl) (Nat.le_of_ble_eq_true rfl) ⟨_, rfl, hq, hG, hE, hT, hW, hK, (by show i_keptMany ≤ 10; omega), rfl⟩
    · rw [if_pos c5] at hq
      refine xi_bipush (v := (-2)) dX12_adds_23 (by decide) ?_
      exact xi_iret dX12_adds_25 rfl rfl (Nat.le_of_ble_eq_true rfl) (Nat.le_of_ble_eq_true rfl) ⟨_, rfl, hq, hG, hE, hT, hW, hK, (by show i_keptMany ≤ 10; omega), rfl⟩
def FX12_cuts (i_keptMany : Nat) (f_state : Nat → Int32) (f_was : Nat → Int32) (f_kept : Nat → Int32) (x : Int32) (y : Int32) (t : Int32) : Int32 × (Nat → Int32) × (Nat → Int32) × Nat × (Nat → Int32) := (if (FX12_areTwo f_state x y t) = (0 : Int32) then ((-2 : Int32), f_state, f_was, i_keptMany, f_kept) else (if (FX12_weight f_state x.toNatClampNeg y.toNatClampNeg t.toNatClampNeg) = (0 : Int32) then ((-6 : Int32), f_state, f_was, i_keptMany, f_kept) else (((FX12k_keeps i_keptMany ((FX12k_remembers f_state f_was).2) f_kept ((FX12_weight f_state x.toNatClampNeg y.toNatClampNeg t.toNatClampNeg))).1), (FX12k_weighs f_state x.toNatClampNeg y.toNatClampNeg t.toNatClampNeg 0).2, (FX12k_remembers f_state f_was).2, (FX12k_keeps i_keptMany ((FX12k_remembers f_state f_was).2) f_kept ((FX12_weight f_state x.toNatClampNeg y.toNatClampNeg t.toNatClampNeg))).2.1, (FX12k_keeps i_keptMany ((FX12k_remembers f_state f_was).2) f_kept ((FX12_weight f_state x.toNatClampNeg y.toNatClampNeg t.toNatClampNeg))).2.2)))
set_option maxHeartbeats 4000000 in
set_option maxRecDepth 100000 in
theorem FX12_cuts_ok (G : xG) {P R : xMem} {L : Nat} (hP : P.length = L) (i_keptMany : Nat) (i_taped : Nat) (i_faultKind : Int32) (i_faultPlace : Int32) (i_spot : Nat) (i_begin : Nat) (i_token : Int32) (i_value : Int32) (i_bad : Int32) (i_full : Nat) (i_bandRows : Int32) (i_bandFirsts : Int32) (i_outs : Nat) (f_state : Nat → Int32) (f_was : Nat → Int32) (f_kept : Nat → Int32) (f_tape : Nat → Int32) (f_order : Nat → Int32) (f_rest : Nat → Int32) (f_ways : Nat → Int32) (f_costs : Nat → Int32) (f_bandBest : Nat → Int32) (f_found : Nat → Int32) (f_drawn : Nat → Int32) (f_joined : Nat → Int32) (f_out : Nat → Int32) (bi_keptMany : i_keptMany ≤ 10) (bi_taped : i_taped ≤ 400) (bi_spot : i_spot ≤ 400) (bi_begin : i_begin ≤ 400) (bi_full : i_full ≤ 511) (bi_outs : i_outs ≤ 400) (hG : GO f_state) (hE : PE f_state) (hT : WB f_state) (hW : SO f_was) (hK : KO i_keptMany f_kept) (x : Int32) (y : Int32) (t : Int32) (M : xMem) (hM : M = (P ++ (MDL L i_keptMany i_taped i_faultKind i_faultPlace i_spot i_begin i_token i_value i_bad i_full i_bandRows i_bandFirsts i_outs f_state f_was f_kept f_tape f_order f_rest f_ways f_costs f_bandBest f_found f_drawn f_joined f_out ++ R))) (Q : Int32 × (Nat → Int32) × (Nat → Int32) × Nat × (Nat → Int32) → Prop) (hq : Q (FX12_cuts i_keptMany f_state f_was f_kept x y t)) : xC G mX12_cuts 5 0 0 [.ref L, .int x, .int y, .int t] M (fun v M2 => ∃ o : Int32 × (Nat → Int32) × (Nat → Int32) × Nat × (Nat → Int32), v = some (.int o.1) ∧ Q o ∧ GO o.2.1 ∧ PE o.2.1 ∧ WB o.2.1 ∧ SO o.2.2.1 ∧ KO o.2.2.2.1 o.2.2.2.2 ∧ o.2.2.2.1 ≤ 10 ∧ M2 = (P ++ (MDL L o.2.2.2.1 i_taped i_faultKind i_faultPlace i_spot i_begin i_token i_value i_bad i_full i_bandRows i_bandFirsts i_outs o.2.1 o.2.2.1 o.2.2.2.2 f_tape f_order f_rest f_ways f_costs f_bandBest f_found f_drawn f_joined f_out ++ R))) := by
  subst hM
  unfold FX12_cuts at hq
  refine xC.of (by decide) (Nat.le_of_ble_eq_true rfl) ?_
  show xW _ _ _ _ 0 [(0, .ref L), (1, .int x), (2, .int y), (3, .int t)] [] _ 0 0
  refine xi_aload_n 0 dX12_cuts_0 rfl ?_
  refine xi_iload_n 1 dX12_cuts_1 rfl ?_
  refine xi_iload_n 2 dX12_cuts_2 rfl ?_
  refine xi_iload_n 3 dX12_cuts_3 rfl ?_
  refine xi_callV (as := [.int x, .int y, .int t]) (rest := []) dX12_cuts_4 (FX12_areTwo_ok G hP i_keptMany i_taped i_faultKind i_faultPlace i_spot i_begin i_token i_value i_bad i_full i_bandRows i_bandFirsts i_outs f_state f_was f_kept f_tape f_order f_rest f_ways f_costs f_bandBest f_found f_drawn f_joined f_out (by omega) (by omega) (by omega) (by omega) (by omega) (by omega) hG x y t _ rfl (fun r => r = FX12_areTwo f_state x y t) rfl) mkX12_areTwo w_1500 ws_90 w_1498 (xpg0 hP rfl) rfl rfl rfl rfl (Nat.le_of_ble_eq_true rfl) (Nat.le_of_ble_eq_true rfl) (Nat.le_of_ble_eq_true rfl) (Nat.le_of_ble_eq_true rfl) (Nat.le_of_ble_eq_true rfl) ?_
  intro v M2 hz
  obtain ⟨_, rfl, rfl, rfl⟩ := hz
  show xW _ _ _ _ 7 _ [.int (FX12_areTwo f_state x y t)] (P ++ (MDL L i_keptMany i_taped i_faultKind i_faultPlace i_spot i_begin i_token i_value i_bad i_full i_bandRows i_bandFirsts i_outs f_state f_was f_kept f_tape f_order f_rest f_ways f_costs f_bandBest f_found f_drawn f_joined f_out ++ R)) _ _
  refine xi_if_ne (tgt := 13) dX12_cuts_7 (by decide) (fun c1 => ?_) (fun c1 => ?_)
  · rw [if_neg c1] at hq
    obtain ⟨e2, e2b, e2h⟩ := point_in (two_1 c1)
    have e2c : x.toNatClampNeg = e2 := by rw [e2h]; exact nI_clamp (by omega)
    try rw [e2c] at hq
    subst e2h
    have e2g := (hG e2 e2b).1.2
    have e2n := two_3 c1
    obtain ⟨e3, e3b, e3h⟩ := point_in2 hG (two_1 c1)
    rw [nI_clamp (by omega)] at e3b
    have e3c : y.toNatClampNeg = e3 := by rw [e3h]; exact nI_clamp (by omega)
    try rw [e3c] at hq
    subst e3h
    obtain ⟨e4, e4b, e4h⟩ := point_in2 hG (two_2 c1)
    rw [nI_clamp (by omega)] at e4b
    have e4c : t.toNatClampNeg = e4 := by rw [e4h]; exact nI_clamp (by omega)
    try rw [e4c] at hq
    subst e4h
    refine xi_aload_n 0 dX12_cuts_13 rfl ?_
    refine xi_iload_n 1 dX12_cuts_14 rfl ?_
    refine xi_iload_n 2 dX12_cuts_15 rfl ?_
    refine xi_iload_n 3 dX12_cuts_16 rfl ?_
    refine xi_callV (as := [.int (nI e2), .int (nI e3), .int (nI e4)]) (rest := []) dX12_cuts_17 (FX12_weight_ok G hP i_keptMany i_taped i_faultKind i_faultPlace i_spot i_begin i_token i_value i_bad i_full i_bandRows i_bandFirsts i_outs f_state f_was f_kept f_tape f_order f_rest f_ways f_costs f_bandBest f_found f_drawn f_joined f_out (by omega) (by omega) (by omega) (by omega) (by omega) (by omega) e2 (by omega) e3 (by omega) e4 (by omega) _ rfl (fun r => r = FX12_weight f_state e2 e3 e4) rfl) mkX12_weight w_1192 ws_53 w_1190 (xpg0 hP rfl) rfl rfl rfl rfl (Nat.le_of_ble_eq_true rfl) (Nat.le_of_ble_eq_true rfl) (Nat.le_of_ble_eq_true rfl) (Nat.le_of_ble_eq_true rfl) (Nat.le_of_ble_eq_true rfl) ?_
    intro v M2 hz
    obtain ⟨_, rfl, rfl, rfl⟩ := hz
    show xW _ _ _ _ 20 _ [.int (FX12_weight f_state e2 e3 e4)] (P ++ (MDL L i_keptMany i_taped i_faultKind i_faultPlace i_spot i_begin i_token i_value i_bad i_full i_bandRows i_bandFirsts i_outs f_state f_was f_kept f_tape f_order f_rest f_ways f_costs f_bandBest f_found f_drawn f_joined f_out ++ R)) _ _
    refine xi_istore (lv' := [(4, .int (FX12_weight f_state e2 e3 e4)), (0, .ref L), (1, .int (nI e2)), (2, .int (nI e3)), (3, .int (nI e4))]) dX12_cuts_20 (by decide) rfl ?_
    refine xi_iload 0 dX12_cuts_22 rfl ?_
    refine xi_if_ne (tgt := 30) dX12_cuts_24 (by decide) (fun c5 => ?_) (fun c5 => ?_)
    · rw [if_neg c5] at hq
      refine xi_aload_n 1 dX12_cuts_30 rfl ?_
      refine xi_callV (as := []) (rest := []) dX12_cuts_31 (FX12k_remembers_ok G hP i_keptMany i_taped i_faultKind i_faultPlace i_spot i_begin i_token i_value i_bad i_full i_bandRows i_bandFirsts i_outs f_state f_was f_kept f_tape f_order f_rest f_ways f_costs f_bandBest f_found f_drawn f_joined f_out (by omega) (by omega) (by omega) (by omega) (by omega) (by omega) hG hE hT hW _ rfl (fun r => r = FX12k_remembers f_state f_was) rfl) mkX12_remembers w_1112 ws_37 w_1110 (xpg0 hP rfl) rfl rfl rfl rfl (Nat.le_of_ble_eq_true rfl) (Nat.le_of_ble_eq_true rfl) (Nat.le_of_ble_eq_true rfl) (Nat.le_of_ble_eq_true rfl) (Nat.le_of_ble_eq_true rfl) ?_
      intro v M2 hz
      obtain ⟨_, rfl, rfl, hk6, rfl⟩ := hz
      show xW _ _ _ _ 34 _ [] (P ++ (MDL L i_keptMany i_taped i_faultKind i_faultPlace i_spot i_begin i_token i_value i_bad i_full i_bandRows i_bandFirsts i_outs f_state ((FX12k_remembers f_state f_was).2) f_kept f_tape f_order f_rest f_ways f_costs f_bandBest f_found f_drawn f_joined f_out ++ R)) _ _
      refine xi_aload_n 1 dX12_cuts_34 rfl ?_
      refine xi_iload_n 2 dX12_cuts_35 rfl ?_
      refine xi_iload_n 3 dX12_cuts_36 rfl ?_
      refine xi_iload_n 4 dX12_cuts_37 rfl ?_
      refine xi_iconst (v := 0) dX12_cuts_38 (by decide) ?_
      refine xi_callV (as := [.int (nI e2), .int (nI e3), .int (nI e4), .int 0]) (rest := []) dX12_cuts_39 (FX12k_weighs_ok G hP i_keptMany i_taped i_faultKind i_faultPlace i_spot i_begin i_token i_value i_bad i_full i_bandRows i_bandFirsts i_outs f_state ((FX12k_remembers f_state f_was).2) f_kept f_tape f_order f_rest f_ways f_costs f_bandBest f_found f_drawn f_joined f_out (by omega) (by omega) (by omega) (by omega) (by omega) (by omega) hG hE hT e2 (by omega) e3 (by omega) e4 (by omega) 0 (by omega) _ rfl (fun r => r = FX12k_weighs f_state e2 e3 e4 0) rfl) mkX12_weighs w_1199 ws_54 w_1197 (xpg0 hP rfl) rfl rfl rfl rfl (Nat.le_of_ble_eq_true rfl) (Nat.le_of_ble_eq_true rfl) (Nat.le_of_ble_eq_true rfl) (Nat.le_of_ble_eq_true rfl) (Nat.le_of_ble_eq_true rfl) ?_
      intro v M2 hz
      obtain ⟨_, rfl, rfl, hk7, hk8, hk9, rfl⟩ := hz
      show xW _ _ _ _ 42 _ [] (P ++ (MDL L i_keptMany i_taped i_faultKind i_faultPlace i_spot i_begin i_token i_value i_bad i_full i_bandRows i_bandFirsts i_outs ((FX12k_weighs f_state e2 e3 e4 0).2) ((FX12k_remembers f_state f_was).2) f_kept f_tape f_order f_rest f_ways f_costs f_bandBest f_found f_drawn f_joined f_out ++ R)) _ _
      refine xi_aload_n 1 dX12_cuts_42 rfl ?_
      refine xi_iload 0 dX12_cuts_43 rfl ?_
      refine xi_callV (as := [.int (FX12_weight f_state e2 e3 e4)]) (rest := []) dX12_cuts_45 (FX12k_keeps_ok G hP i_keptMany i_taped i_faultKind i_faultPlace i_spot i_begin i_token i_value i_bad i_full i_bandRows i_bandFirsts i_outs ((FX12k_weighs f_state e2 e3 e4 0).2) ((FX12k_remembers f_state f_was).2) f_kept f_tape f_order f_rest f_ways f_costs f_bandBest f_found f_drawn f_joined f_out (by omega) (by omega) (by omega) (by omega) (by omega) (by omega) hk6 hK ((FX12_weight f_state e2 e3 e4)) _ rfl (fun r => r = FX12k_keeps i_keptMany ((FX12k_remembers f_state f_was).2) f_kept ((FX12_weight f_state e2 e3 e4))) rfl) mkX12_keeps w_1120 ws_39 w_1118 (xpg0 hP rfl) rfl rfl rfl rfl (Nat.le_of_ble_eq_true rfl) (Nat.le_of_ble_eq_true rfl) (Nat.le_of_ble_eq_true rfl) (Nat.le_of_ble_eq_true rfl) (Nat.le_of_ble_eq_true rfl) ?_
      intro v M2 hz
      obtain ⟨_, rfl, rfl, hk10, hn11, rfl⟩ := hz
      show xW _ _ _ _ 48 _ [.int ((FX12k_keeps i_keptMany ((FX12k_remembers f_state f_was).2) f_kept ((FX12_weight f_state e2 e3 e4))).1)] (P ++ (MDL L ((FX12k_keeps i_keptMany ((FX12k_remembers f_state f_was).2) f_kept ((FX12_weight f_state e2 e3 e4))).2.1) i_taped i_faultKind i_faultPlace i_spot i_begin i_token i_value i_bad i_full i_bandRows i_bandFirsts i_outs ((FX12k_weighs f_state e2 e3 e4 0).2) ((FX12k_remembers f_state f_was).2) ((FX12k_keeps i_keptMany ((FX12k_remembers f_state f_was).2) f_kept ((FX12_weight f_state e2 e3 e4))).2.2) f_tape f_order f_rest f_ways f_costs f_bandBest f_found f_drawn f_joined f_out ++ R)) _ _
      exact xi_iret dX12_cuts_48 rfl rfl (Nat.le_of_ble_eq_true rfl) (Nat.le_of_ble_eq_true rfl) ⟨_, rfl, hq, hk7, hk8, hk9, hk6, hk10, (by show ((FX12k_keeps i_keptMany ((FX12k_remembers f_state f_was).2) f_kept ((FX12_weight f_state e2 e3 e4))).2.1) ≤ 10; omega), rfl⟩
    · rw [if_pos c5] at hq
      refine xi_bipush (v := (-6)) dX12_cuts_27 (by decide) ?_
      exact xi_iret dX12_cuts_29 rfl rfl (Nat.le_of_ble_eq_true rfl) (Nat.le_of_ble_eq_true rfl) ⟨_, rfl, hq, hG, hE, hT, hW, hK, (by show i_keptMany ≤ 10; omega), rfl⟩
  · rw [if_pos c1] at hq
    refine xi_bipush (v := (-2)) dX12_cuts_10 (by decide) ?_
    exact xi_iret dX12_cuts_12 rfl rfl (Nat.le_of_ble_eq_true rfl) (Nat.le_of_ble_eq_true rfl) ⟨_, rfl, hq, hG, hE, hT, hW, hK, (by show i_keptMany ≤ 10; omega), rfl⟩
