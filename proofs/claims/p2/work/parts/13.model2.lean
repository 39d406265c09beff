/-! the reference, on (printed by wip/p2/gen13.py) -/
theorem point_in {g : Nat → Int32} {x y : Int32} (h : ¬ FX12_isPoint g x y = 0) : ∃ e, e < 3 ∧ x = nI e := by
  unfold FX12_isPoint at h
  by_cases c : FX12_isNet g x = 0
  · rw [if_pos c] at h
    exact absurd rfl h
  · exact net_in c
theorem point_in2 {g : Nat → Int32} (hG : GO g) {x y : Int32} (h : ¬ FX12_isPoint g x y = 0) : ∃ q, q < (g (91 * x.toNatClampNeg)).toNatClampNeg ∧ y = nI q := by
  obtain ⟨e, he, rfl⟩ := point_in h
  rw [nI_clamp (by omega)]
  unfold FX12_isPoint at h
  by_cases c : FX12_isNet g (nI e) = 0
  · rw [if_pos c] at h
    exact absurd rfl h
  · rw [if_neg c, nI_clamp (by omega)] at h
    by_cases c2 : FX12_in y.toInt64 0 (nI (g (91 * e)).toNatClampNeg - 1).toInt64 = 0
    · rw [if_pos c2] at h
      exact absurd rfl h
    · have h1 := (in_iff _ _ _).mp c2
      have hb := (hG e he).1.2
      rw [Int32.toInt_toInt64, Int32.toInt_toInt64] at h1
      have e0 : (0 : Int64).toInt = 0 := by decide
      have e4 : (0 : Int32).toInt = 0 := by decide
      have h0 : ¬ y < 0 := fun q => by
        rw [Int32.lt_iff_toInt_lt] at q
        omega
      obtain ⟨j, hj, rfl⟩ := nI_of h0
      rw [nI_toInt hj, show (nI (g (91 * e)).toNatClampNeg - 1 : Int32) = nI (g (91 * e)).toNatClampNeg - nI 1 from rfl, pk_sub_toInt (by omega) (by omega)] at h1
      exact ⟨j, by omega, rfl⟩
theorem place_step {g : Nat → Int32} {b v t p : Nat} (hp : p < 9) (h1 : v ≤ t) (h3 : g (b + t) = nI p) (h : ¬ (g (b + v)).toNatClampNeg = p) : v + 1 ≤ t := by
  rcases Nat.lt_or_ge v t with q | q
  · omega
  · have e : t = v := by omega
    subst e
    rw [h3, nI_clamp (by omega)] at h
    exact absurd rfl h
def FX12_near (f_state : Nat → Int32) (x : Int32) (y : Int32) : Int32 := (if (FX12_isPoint f_state x y) = (0 : Int32) then (-2 : Int32) else (FX12_nearOf f_state x.toNatClampNeg y.toNatClampNeg))
set_option maxHeartbeats 4000000 in
set_option maxRecDepth 100000 in
theorem FX12_near_ok (G : xG) {P R : xMem} {L : Nat} (hP : P.length = L) (i_keptMany : Nat) (i_taped : Nat) (i_faultKind : Int32) (i_faultPlace : Int32) (i_spot : Nat) (i_begin : Nat) (i_token : Int32) (i_value : Int32) (i_bad : Int32) (i_full : Nat) (i_bandRows : Int32) (i_bandFirsts : Int32) (i_outs : Nat) (f_state : Nat → Int32) (f_was : Nat → Int32) (f_kept : Nat → Int32) (f_tape : Nat → Int32) (f_order : Nat → Int32) (f_rest : Nat → Int32) (f_ways : Nat → Int32) (f_costs : Nat → Int32) (f_bandBest : Nat → Int32) (f_found : Nat → Int32) (f_drawn : Nat → Int32) (f_joined : Nat → Int32) (f_out : Nat → Int32) (bi_keptMany : i_keptMany ≤ 10) (bi_taped : i_taped ≤ 400) (bi_spot : i_spot ≤ 400) (bi_begin : i_begin ≤ 400) (bi_full : i_full ≤ 511) (bi_outs : i_outs ≤ 400) (hG : GO f_state) (x : Int32) (y : Int32) (M : xMem) (hM : M = (P ++ (MDL L i_keptMany i_taped i_faultKind i_faultPlace i_spot i_begin i_token i_value i_bad i_full i_bandRows i_bandFirsts i_outs f_state f_was f_kept f_tape f_order f_rest f_ways f_costs f_bandBest f_found f_drawn f_joined f_out ++ R))) (Q : Int32 → Prop) (hq : Q (FX12_near f_state x y)) : xC G mX12_near 4 0 0 [.ref L, .int x, .int y] M (fun v M2 => ∃ o : Int32, v = some (.int o) ∧ Q o ∧ M2 = (P ++ (MDL L i_keptMany i_taped i_faultKind i_faultPlace i_spot i_begin i_token i_value i_bad i_full i_bandRows i_bandFirsts i_outs f_state f_was f_kept f_tape f_order f_rest f_ways f_costs f_bandBest f_found f_drawn f_joined f_out ++ R))) := by
  subst hM
  unfold FX12_near at hq
  refine xC.of (by decide) (Nat.le_of_ble_eq_true rfl) ?_
  show xW _ _ _ _ 0 [(0, .ref L), (1, .int x), (2, .int y)] [] _ 0 0
  refine xi_aload_n 0 dX12_near_0 rfl ?_
  refine xi_iload_n 1 dX12_near_1 rfl ?_
  refine xi_iload_n 2 dX12_near_2 rfl ?_
  refine xi_callV (as := [.int x, .int y]) (rest := []) dX12_near_3 (FX12_isPoint_ok G hP i_keptMany i_taped i_faultKind i_faultPlace i_spot i_begin i_token i_value i_bad i_full i_bandRows i_bandFirsts i_outs f_state f_was f_kept f_tape f_order f_rest f_ways f_costs f_bandBest f_found f_drawn f_joined f_out (by omega) (by omega) (by omega) (by omega) (by omega) (by omega) hG x y _ rfl (fun r => r = FX12_isPoint f_state x y) rfl) mkX12_isPoint w_1257 ws_63 w_1255 (xpg0 hP rfl) rfl rfl rfl rfl (Nat.le_of_ble_eq_true rfl) (Nat.le_of_ble_eq_true rfl) (Nat.le_of_ble_eq_true rfl) (Nat.le_of_ble_eq_true rfl) (Nat.le_of_ble_eq_true rfl) ?_
  intro v M2 hz
  obtain ⟨_, rfl, rfl, rfl⟩ := hz
  show xW _ _ _ _ 6 _ [.int (FX12_isPoint f_state x y)] (P ++ (MDL L i_keptMany i_taped i_faultKind i_faultPlace i_spot i_begin i_token i_value i_bad i_full i_bandRows i_bandFirsts i_outs f_state f_was f_kept f_tape f_order f_rest f_ways f_costs f_bandBest f_found f_drawn f_joined f_out ++ R)) _ _
  refine xi_if_eq (tgt := 18) dX12_near_6 (by decide) (fun c1 => ?_) (fun c1 => ?_)
  · rw [if_pos c1] at hq
    refine xi_bipush (v := (-2)) dX12_near_18 (by decide) ?_
    exact xi_iret dX12_near_20 rfl rfl (Nat.le_of_ble_eq_true rfl) (Nat.le_of_ble_eq_true rfl) ⟨_, rfl, hq, rfl⟩
  · rw [if_neg c1] at hq
    obtain ⟨e2, e2b, e2h⟩ := point_in c1
    have e2c : x.toNatClampNeg = e2 := by rw [e2h]; exact nI_clamp (by omega)
    try rw [e2c] at hq
    subst e2h
    have e2g := (hG e2 e2b).1.2
    obtain ⟨e3, e3b, e3h⟩ := point_in2 hG c1
    rw [nI_clamp (by omega)] at e3b
    have e3c : y.toNatClampNeg = e3 := by rw [e3h]; exact nI_clamp (by omega)
    try rw [e3c] at hq
    subst e3h
    refine xi_aload_n 0 dX12_near_9 rfl ?_
    refine xi_iload_n 1 dX12_near_10 rfl ?_
    refine xi_iload_n 2 dX12_near_11 rfl ?_
    refine xi_callV (as := [.int (nI e2), .int (nI e3)]) (rest := []) dX12_near_12 (FX12_nearOf_ok G hP i_keptMany i_taped i_faultKind i_faultPlace i_spot i_begin i_token i_value i_bad i_full i_bandRows i_bandFirsts i_outs f_state f_was f_kept f_tape f_order f_rest f_ways f_costs f_bandBest f_found f_drawn f_joined f_out (by omega) (by omega) (by omega) (by omega) (by omega) (by omega) hG e2 (by omega) e3 (by omega) _ rfl (fun r => r = FX12_nearOf f_state e2 e3) rfl) mkX12_nearOf w_1188 ws_52 w_1186 (xpg0 hP rfl) rfl rfl rfl rfl (Nat.le_of_ble_eq_true rfl) (Nat.le_of_ble_eq_true rfl) (Nat.le_of_ble_eq_true rfl) (Nat.le_of_ble_eq_true rfl) (Nat.le_of_ble_eq_true rfl) ?_
    intro v M2 hz
    obtain ⟨_, rfl, rfl, rfl⟩ := hz
    show xW _ _ _ _ 15 _ [.int (FX12_nearOf f_state e2 e3)] (P ++ (MDL L i_keptMany i_taped i_faultKind i_faultPlace i_spot i_begin i_token i_value i_bad i_full i_bandRows i_bandFirsts i_outs f_state f_was f_kept f_tape f_order f_rest f_ways f_costs f_bandBest f_found f_drawn f_joined f_out ++ R)) _ _
    refine xi_goto (tgt := 20) dX12_near_15 (by decide) ?_
    exact xi_iret dX12_near_20 rfl rfl (Nat.le_of_ble_eq_true rfl) (Nat.le_of_ble_eq_true rfl) ⟨_, rfl, hq, rfl⟩
def FX12_row (f_state : Nat → Int32) (x : Int32) (y : Int32) : Int32 := (if (FX12_isPoint f_state x y) = (0 : Int32) then (-2 : Int32) else (nI ((f_state (91 * x.toNatClampNeg + 82 + y.toNatClampNeg)).toNatClampNeg)))
set_option maxHeartbeats 4000000 in
set_option maxRecDepth 100000 in
theorem FX12_row_ok (G : xG) {P R : xMem} {L : Nat} (hP : P.length = L) (i_keptMany : Nat) (i_taped : Nat) (i_faultKind : Int32) (i_faultPlace : Int32) (i_spot : Nat) (i_begin : Nat) (i_token : Int32) (i_value : Int32) (i_bad : Int32) (i_full : Nat) (i_bandRows : Int32) (i_bandFirsts : Int32) (i_outs : Nat) (f_state : Nat → Int32) (f_was : Nat → Int32) (f_kept : Nat → Int32) (f_tape : Nat → Int32) (f_order : Nat → Int32) (f_rest : Nat → Int32) (f_ways : Nat → Int32) (f_costs : Nat → Int32) (f_bandBest : Nat → Int32) (f_found : Nat → Int32) (f_drawn : Nat → Int32) (f_joined : Nat → Int32) (f_out : Nat → Int32) (bi_keptMany : i_keptMany ≤ 10) (bi_taped : i_taped ≤ 400) (bi_spot : i_spot ≤ 400) (bi_begin : i_begin ≤ 400) (bi_full : i_full ≤ 511) (bi_outs : i_outs ≤ 400) (hG : GO f_state) (x : Int32) (y : Int32) (M : xMem) (hM : M = (P ++ (MDL L i_keptMany i_taped i_faultKind i_faultPlace i_spot i_begin i_token i_value i_bad i_full i_bandRows i_bandFirsts i_outs f_state f_was f_kept f_tape f_order f_rest f_ways f_costs f_bandBest f_found f_drawn f_joined f_out ++ R))) (Q : Int32 → Prop) (hq : Q (FX12_row f_state x y)) : xC G mX12_row 4 0 0 [.ref L, .int x, .int y] M (fun v M2 => ∃ o : Int32, v = some (.int o) ∧ Q o ∧ M2 = (P ++ (MDL L i_keptMany i_taped i_faultKind i_faultPlace i_spot i_begin i_token i_value i_bad i_full i_bandRows i_bandFirsts i_outs f_state f_was f_kept f_tape f_order f_rest f_ways f_costs f_bandBest f_found f_drawn f_joined f_out ++ R))) := by
  subst hM
  unfold FX12_row at hq
  refine xC.of (by decide) (Nat.le_of_ble_eq_true rfl) ?_
  show xW _ _ _ _ 0 [(0, .ref L), (1, .int x), (2, .int y)] [] _ 0 0
  refine xi_aload_n 0 dX12_row_0 rfl ?_
  refine xi_iload_n 1 dX12_row_1 rfl ?_
  refine xi_iload_n 2 dX12_row_2 rfl ?_
  refine xi_callV (as := [.int x, .int y]) (rest := []) dX12_row_3 (FX12_isPoint_ok G hP i_keptMany i_taped i_faultKind i_faultPlace i_spot i_begin i_token i_value i_bad i_full i_bandRows i_bandFirsts i_outs f_state f_was f_kept f_tape f_order f_rest f_ways f_costs f_bandBest f_found f_drawn f_joined f_out (by omega) (by omega) (by omega) (by omega) (by omega) (by omega) hG x y _ rfl (fun r => r = FX12_isPoint f_state x y) rfl) mkX12_isPoint w_1257 ws_63 w_1255 (xpg0 hP rfl) rfl rfl rfl rfl (Nat.le_of_ble_eq_true rfl) (Nat.le_of_ble_eq_true rfl) (Nat.le_of_ble_eq_true rfl) (Nat.le_of_ble_eq_true rfl) (Nat.le_of_ble_eq_true rfl) ?_
  intro v M2 hz
  obtain ⟨_, rfl, rfl, rfl⟩ := hz
  show xW _ _ _ _ 6 _ [.int (FX12_isPoint f_state x y)] (P ++ (MDL L i_keptMany i_taped i_faultKind i_faultPlace i_spot i_begin i_token i_value i_bad i_full i_bandRows i_bandFirsts i_outs f_state f_was f_kept f_tape f_order f_rest f_ways f_costs f_bandBest f_found f_drawn f_joined f_out ++ R)) _ _
  refine xi_if_eq (tgt := 18) dX12_row_6 (by decide) (fun c1 => ?_) (fun c1 => ?_)
  · rw [if_pos c1] at hq
    refine xi_bipush (v := (-2)) dX12_row_18 (by decide) ?_
    exact xi_iret dX12_row_20 rfl rfl (Nat.le_of_ble_eq_true rfl) (Nat.le_of_ble_eq_true rfl) ⟨_, rfl, hq, rfl⟩
  · rw [if_neg c1] at hq
    obtain ⟨e2, e2b, e2h⟩ := point_in c1
    have e2c : x.toNatClampNeg = e2 := by rw [e2h]; exact nI_clamp (by omega)
    try rw [e2c] at hq
    subst e2h
    have e2g := (hG e2 e2b).1.2
    obtain ⟨e3, e3b, e3h⟩ := point_in2 hG c1
    rw [nI_clamp (by omega)] at e3b
    have e3c : y.toNatClampNeg = e3 := by rw [e3h]; exact nI_clamp (by omega)
    try rw [e3c] at hq
    subst e3h
    refine xi_aload_n 0 dX12_row_9 rfl ?_
    refine xi_iload_n 1 dX12_row_10 rfl ?_
    refine xi_iload_n 2 dX12_row_11 rfl ?_
    refine xi_callV (as := [.int (nI e2), .int (nI e3)]) (rest := []) dX12_row_12 (FX12_at_ok G hP i_keptMany i_taped i_faultKind i_faultPlace i_spot i_begin i_token i_value i_bad i_full i_bandRows i_bandFirsts i_outs f_state f_was f_kept f_tape f_order f_rest f_ways f_costs f_bandBest f_found f_drawn f_joined f_out (by omega) (by omega) (by omega) (by omega) (by omega) (by omega) e2 (by omega) e3 (by omega) _ rfl (fun r => r = nI ((f_state (91 * e2 + 82 + e3)).toNatClampNeg)) (((hG e2 (by omega)).2 e3 (by omega)).1)) mkX12_at w_1273 ws_64 w_1271 (xpg0 hP rfl) rfl rfl rfl rfl (Nat.le_of_ble_eq_true rfl) (Nat.le_of_ble_eq_true rfl) (Nat.le_of_ble_eq_true rfl) (Nat.le_of_ble_eq_true rfl) (Nat.le_of_ble_eq_true rfl) ?_
    intro v M2 hz
    obtain ⟨_, rfl, rfl, rfl⟩ := hz
    show xW _ _ _ _ 15 _ [.int (nI ((f_state (91 * e2 + 82 + e3)).toNatClampNeg))] (P ++ (MDL L i_keptMany i_taped i_faultKind i_faultPlace i_spot i_begin i_token i_value i_bad i_full i_bandRows i_bandFirsts i_outs f_state f_was f_kept f_tape f_order f_rest f_ways f_costs f_bandBest f_found f_drawn f_joined f_out ++ R)) _ _
    have o4 := ((hG e2 (by omega)).2 e3 (by omega)).2
    refine xi_goto (tgt := 20) dX12_row_15 (by decide) ?_
    exact xi_iret dX12_row_20 rfl rfl (Nat.le_of_ble_eq_true rfl) (Nat.le_of_ble_eq_true rfl) ⟨_, rfl, hq, rfl⟩
def LX12_placeOf_2 (f_state : Nat → Int32) (n1 : Nat) (n2 : Nat) (K : Nat → Int32) : Nat → Nat → Int32
  | 0, v3 => K v3
  | k + 1, v3 => (if (nI ((f_state (91 * n1 + 82 + v3)).toNatClampNeg)) = (nI n2) then (K v3) else (LX12_placeOf_2 f_state n1 n2 K k (v3 + 1)))
set_option maxHeartbeats 4000000 in
set_option maxRecDepth 100000 in
theorem LX12_placeOf_2_s (G : xG) {P R : xMem} {L : Nat} (hP : P.length = L) (i_keptMany : Nat) (i_taped : Nat) (i_faultKind : Int32) (i_faultPlace : Int32) (i_spot : Nat) (i_begin : Nat) (i_token : Int32) (i_value : Int32) (i_bad : Int32) (i_full : Nat) (i_bandRows : Int32) (i_bandFirsts : Int32) (i_outs : Nat) (f_state : Nat → Int32) (f_was : Nat → Int32) (f_kept : Nat → Int32) (f_tape : Nat → Int32) (f_order : Nat → Int32) (f_rest : Nat → Int32) (f_ways : Nat → Int32) (f_costs : Nat → Int32) (f_bandBest : Nat → Int32) (f_found : Nat → Int32) (f_drawn : Nat → Int32) (f_joined : Nat → Int32) (f_out : Nat → Int32) (bi_keptMany : i_keptMany ≤ 10) (bi_taped : i_taped ≤ 400) (bi_spot : i_spot ≤ 400) (bi_begin : i_begin ≤ 400) (bi_full : i_full ≤ 511) (bi_outs : i_outs ≤ 400) (hG : GO f_state) (hE : PE f_state) (n1 : Nat) (bn1 : n1 < 3) (n2 : Nat) (bn2 : n2 < 9) (Q : Int32 → Prop) (K : Nat → Int32) (HE : ∀ (v3 : Nat) (hy : ∃ t, v3 ≤ t ∧ t < (f_state (91 * n1)).toNatClampNeg ∧ f_state (91 * n1 + 82 + t) = nI n2), Q (K v3) → xW G mX12_placeOf (xrm 1 0 0) (xQ G (fun v M2 => ∃ o : Int32, v = some (.int o) ∧ Q o ∧ M2 = (P ++ (MDL L i_keptMany i_taped i_faultKind i_faultPlace i_spot i_begin i_token i_value i_bad i_full i_bandRows i_bandFirsts i_outs f_state f_was f_kept f_tape f_order f_rest f_ways f_costs f_bandBest f_found f_drawn f_joined f_out ++ R))) 0 0) 18 [(3, .int (nI v3))] [] (P ++ (MDL L i_keptMany i_taped i_faultKind i_faultPlace i_spot i_begin i_token i_value i_bad i_full i_bandRows i_bandFirsts i_outs f_state f_was f_kept f_tape f_order f_rest f_ways f_costs f_bandBest f_found f_drawn f_joined f_out ++ R)) 0 0) :
    ∀ (k : Nat) (v3 : Nat), (f_state (91 * n1)).toNatClampNeg - v3 < k → (∃ t, v3 ≤ t ∧ t < (f_state (91 * n1)).toNatClampNeg ∧ f_state (91 * n1 + 82 + t) = nI n2) → Q (LX12_placeOf_2 f_state n1 n2 K k v3) → xW G mX12_placeOf (xrm 1 0 0) (xQ G (fun v M2 => ∃ o : Int32, v = some (.int o) ∧ Q o ∧ M2 = (P ++ (MDL L i_keptMany i_taped i_faultKind i_faultPlace i_spot i_begin i_token i_value i_bad i_full i_bandRows i_bandFirsts i_outs f_state f_was f_kept f_tape f_order f_rest f_ways f_costs f_bandBest f_found f_drawn f_joined f_out ++ R))) 0 0) 2 [(0, .ref L), (1, .int (nI n1)), (2, .int (nI n2)), (3, .int (nI v3))] [] (P ++ (MDL L i_keptMany i_taped i_faultKind i_faultPlace i_spot i_begin i_token i_value i_bad i_full i_bandRows i_bandFirsts i_outs f_state f_was f_kept f_tape f_order f_rest f_ways f_costs f_bandBest f_found f_drawn f_joined f_out ++ R)) 0 0 := by
  intro k
  induction k with
  | zero =>
    intro v3 hmu
    exact absurd hmu (Nat.not_lt_zero _)
  | succ k ih =>
    intro v3 hmu hy hq
    rw [LX12_placeOf_2] at hq
    obtain ⟨t, ht1, ht2, ht3⟩ := id hy
    have hg9 := (hG n1 (by omega)).1.2
    refine xi_aload_n 0 dX12_placeOf_2 rfl ?_
    refine xi_iload_n 1 dX12_placeOf_3 rfl ?_
    refine xi_iload_n 3 dX12_placeOf_4 rfl ?_
    refine xi_callV (as := [.int (nI n1), .int (nI v3)]) (rest := []) dX12_placeOf_5 (FX12_at_ok G hP i_keptMany i_taped i_faultKind i_faultPlace i_spot i_begin i_token i_value i_bad i_full i_bandRows i_bandFirsts i_outs f_state f_was f_kept f_tape f_order f_rest f_ways f_costs f_bandBest f_found f_drawn f_joined f_out (by omega) (by omega) (by omega) (by omega) (by omega) (by omega) n1 (by omega) v3 (by omega) _ rfl (fun r => r = nI ((f_state (91 * n1 + 82 + v3)).toNatClampNeg)) (((hG n1 (by omega)).2 v3 (by omega)).1)) mkX12_at w_1273 ws_64 w_1271 (xpg0 hP rfl) rfl rfl rfl rfl (Nat.le_of_ble_eq_true rfl) (Nat.le_of_ble_eq_true rfl) (Nat.le_of_ble_eq_true rfl) (Nat.le_of_ble_eq_true rfl) (Nat.le_of_ble_eq_true rfl) ?_
    intro v M2 hz
    obtain ⟨_, rfl, rfl, rfl⟩ := hz
    show xW _ _ _ _ 8 _ [.int (nI ((f_state (91 * n1 + 82 + v3)).toNatClampNeg))] (P ++ (MDL L i_keptMany i_taped i_faultKind i_faultPlace i_spot i_begin i_token i_value i_bad i_full i_bandRows i_bandFirsts i_outs f_state f_was f_kept f_tape f_order f_rest f_ways f_costs f_bandBest f_found f_drawn f_joined f_out ++ R)) _ _
    have o1 := ((hG n1 (by omega)).2 v3 (by omega)).2
    refine xi_iload_n 2 dX12_placeOf_8 rfl ?_
    refine xi_icmp_eq (tgt := 18) dX12_placeOf_9 (by decide) (fun c2 => ?_) (fun c2 => ?_)
    · rw [if_pos c2] at hq
      have c2n : ((f_state (91 * n1 + 82 + v3)).toNatClampNeg) = n2 := (nI_eq (a := ((f_state (91 * n1 + 82 + v3)).toNatClampNeg)) (b := n2) (by omega) (by omega)).mp c2
      refine xi_sub (lv' := [(3, .int (nI v3))]) [3] rfl ?_
      exact HE v3 (by first | exact hy | omega) hq
    · rw [if_neg c2] at hq
      have c2n : ¬ ((f_state (91 * n1 + 82 + v3)).toNatClampNeg) = n2 := fun e => c2 (congrArg nI e)
      refine xi_iinc (v := (nI (v3 + 1))) (lv' := [(3, .int (nI (v3 + 1))), (0, .ref L), (1, .int (nI n1)), (2, .int (nI n2))]) 3 dX12_placeOf_12 rfl (nI_1 _) (by decide) rfl ?_
      refine xi_goto (tgt := 2) dX12_placeOf_15 (by decide) ?_
      refine xi_sub (lv' := [(0, .ref L), (1, .int (nI n1)), (2, .int (nI n2)), (3, .int (nI (v3 + 1)))]) [1, 2, 3, 0] rfl ?_
      exact ih (v3 + 1) (by first | omega | exact ⟨t, place_step (by omega) ht1 ht3 (by assumption), ht2, ht3⟩) (by first | omega | exact ⟨t, place_step (by omega) ht1 ht3 (by assumption), ht2, ht3⟩) hq
def FX12_placeOf (f_state : Nat → Int32) (z : Nat) (p : Nat) : Int32 := (LX12_placeOf_2 f_state z p (fun u3 => (nI u3)) ((f_state (91 * z)).toNatClampNeg - 0 + 1) 0)
set_option maxHeartbeats 4000000 in
set_option maxRecDepth 100000 in
theorem FX12_placeOf_ok (G : xG) {P R : xMem} {L : Nat} (hP : P.length = L) (i_keptMany : Nat) (i_taped : Nat) (i_faultKind : Int32) (i_faultPlace : Int32) (i_spot : Nat) (i_begin : Nat) (i_token : Int32) (i_value : Int32) (i_bad : Int32) (i_full : Nat) (i_bandRows : Int32) (i_bandFirsts : Int32) (i_outs : Nat) (f_state : Nat → Int32) (f_was : Nat → Int32) (f_kept : Nat → Int32) (f_tape : Nat → Int32) (f_order : Nat → Int32) (f_rest : Nat → Int32) (f_ways : Nat → Int32) (f_costs : Nat → Int32) (f_bandBest : Nat → Int32) (f_found : Nat → Int32) (f_drawn : Nat → Int32) (f_joined : Nat → Int32) (f_out : Nat → Int32) (bi_keptMany : i_keptMany ≤ 10) (bi_taped : i_taped ≤ 400) (bi_spot : i_spot ≤ 400) (bi_begin : i_begin ≤ 400) (bi_full : i_full ≤ 511) (bi_outs : i_outs ≤ 400) (hG : GO f_state) (hE : PE f_state) (z : Nat) (bz : z < 3) (p : Nat) (bp : p < 9) (hpp : p < (f_state (91 * z)).toNatClampNeg) (M : xMem) (hM : M = (P ++ (MDL L i_keptMany i_taped i_faultKind i_faultPlace i_spot i_begin i_token i_value i_bad i_full i_bandRows i_bandFirsts i_outs f_state f_was f_kept f_tape f_order f_rest f_ways f_costs f_bandBest f_found f_drawn f_joined f_out ++ R))) (Q : Int32 → Prop) (hq : Q (FX12_placeOf f_state z p)) : xC G mX12_placeOf 1 0 0 [.ref L, .int (nI z), .int (nI p)] M (fun v M2 => ∃ o : Int32, v = some (.int o) ∧ Q o ∧ M2 = (P ++ (MDL L i_keptMany i_taped i_faultKind i_faultPlace i_spot i_begin i_token i_value i_bad i_full i_bandRows i_bandFirsts i_outs f_state f_was f_kept f_tape f_order f_rest f_ways f_costs f_bandBest f_found f_drawn f_joined f_out ++ R))) := by
  subst hM
  unfold FX12_placeOf at hq
  refine xC.of (by decide) (Nat.le_of_ble_eq_true rfl) ?_
  show xW _ _ _ _ 0 [(0, .ref L), (1, .int (nI z)), (2, .int (nI p))] [] _ 0 0
  refine xi_iconst (v := 0) dX12_placeOf_0 (by decide) ?_
  refine xi_istore_n (lv' := [(3, .int 0), (0, .ref L), (1, .int (nI z)), (2, .int (nI p))]) dX12_placeOf_1 (by decide) rfl ?_
  refine xi_sub (lv' := [(0, .ref L), (1, .int (nI z)), (2, .int (nI p)), (3, .int 0)]) [1, 2, 3, 0] rfl ?_
  refine LX12_placeOf_2_s G hP i_keptMany i_taped i_faultKind i_faultPlace i_spot i_begin i_token i_value i_bad i_full i_bandRows i_bandFirsts i_outs f_state f_was f_kept f_tape f_order f_rest f_ways f_costs f_bandBest f_found f_drawn f_joined f_out (by omega) (by omega) (by omega) (by omega) (by omega) (by omega) hG hE z (by omega) p (by omega) Q _ (fun u3 hy2 hq => ?_) ((f_state (91 * z)).toNatClampNeg - 0 + 1) 0 (Nat.lt_succ_self _) (by obtain ⟨i, h1, h2⟩ := hE z (by omega) p hpp; exact ⟨i, Nat.zero_le _, h1, h2⟩) hq
  refine xi_iload_n 0 dX12_placeOf_18 rfl ?_
  exact xi_iret dX12_placeOf_19 rfl rfl (Nat.le_of_ble_eq_true rfl) (Nat.le_of_ble_eq_true rfl) ⟨_, rfl, hq, rfl⟩
theorem pow_le {n : Nat} (h : n ≤ 9) : 2 ^ n ≤ 512 := by
  have : n = 0 ∨ n = 1 ∨ n = 2 ∨ n = 3 ∨ n = 4 ∨ n = 5 ∨ n = 6 ∨ n = 7 ∨ n = 8 ∨ n = 9 := by omega
  rcases this with rfl | rfl | rfl | rfl | rfl | rfl | rfl | rfl | rfl | rfl <;> decide
theorem pow_pos {n : Nat} : 1 ≤ 2 ^ n := Nat.one_le_two_pow
theorem pow_nI {n : Nat} (h : n ≤ 9) : (1 : Int32) <<< (nI n &&& 31) = nI (2 ^ n) := by
  have : n = 0 ∨ n = 1 ∨ n = 2 ∨ n = 3 ∨ n = 4 ∨ n = 5 ∨ n = 6 ∨ n = 7 ∨ n = 8 ∨ n = 9 := by omega
  rcases this with rfl | rfl | rfl | rfl | rfl | rfl | rfl | rfl | rfl | rfl <;> decide
def FX12_line (f_state : Nat → Int32) (x : Int32) (y : Int32) (t : Int32) : Int32 := (if (FX12_isPoint f_state x y) = (0 : Int32) then (-2 : Int32) else (if (FX12_isPoint f_state ((nI x.toNatClampNeg)) t) = (0 : Int32) then (-2 : Int32) else (FX12_weight f_state x.toNatClampNeg y.toNatClampNeg t.toNatClampNeg)))
set_option maxHeartbeats 4000000 in
set_option maxRecDepth 100000 in
theorem FX12_line_ok (G : xG) {P R : xMem} {L : Nat} (hP : P.length = L) (i_keptMany : Nat) (i_taped : Nat) (i_faultKind : Int32) (i_faultPlace : Int32) (i_spot : Nat) (i_begin : Nat) (i_token : Int32) (i_value : Int32) (i_bad : Int32) (i_full : Nat) (i_bandRows : Int32) (i_bandFirsts : Int32) (i_outs : Nat) (f_state : Nat → Int32) (f_was : Nat → Int32) (f_kept : Nat → Int32) (f_tape : Nat → Int32) (f_order : Nat → Int32) (f_rest : Nat → Int32) (f_ways : Nat → Int32) (f_costs : Nat → Int32) (f_bandBest : Nat → Int32) (f_found : Nat → Int32) (f_drawn : Nat → Int32) (f_joined : Nat → Int32) (f_out : Nat → Int32) (bi_keptMany : i_keptMany ≤ 10) (bi_taped : i_taped ≤ 400) (bi_spot : i_spot ≤ 400) (bi_begin : i_begin ≤ 400) (bi_full : i_full ≤ 511) (bi_outs : i_outs ≤ 400) (hG : GO f_state) (x : Int32) (y : Int32) (t : Int32) (M : xMem) (hM : M = (P ++ (MDL L i_keptMany i_taped i_faultKind i_faultPlace i_spot i_begin i_token i_value i_bad i_full i_bandRows i_bandFirsts i_outs f_state f_was f_kept f_tape f_order f_rest f_ways f_costs f_bandBest f_found f_drawn f_joined f_out ++ R))) (Q : Int32 → Prop) (hq : Q (FX12_line f_state x y t)) : xC G mX12_line 4 0 0 [.ref L, .int x, .int y, .int t] M (fun v M2 => ∃ o : Int32, v = some (.int o) ∧ Q o ∧ M2 = (P ++ (MDL L i_keptMany i_taped i_faultKind i_faultPlace i_spot i_begin i_token i_value i_bad i_full i_bandRows i_bandFirsts i_outs f_state f_was f_kept f_tape f_order f_rest f_ways f_costs f_bandBest f_found f_drawn f_joined f_out ++ R))) := by
  subst hM
  unfold FX12_line at hq
  refine xC.of (by decide) (Nat.le_of_ble_eq_true rfl) ?_
  show xW _ _ _ _ 0 [(0, .ref L), (1, .int x), (2, .int y), (3, .int t)] [] _ 0 0
  refine xi_aload_n 0 dX12_line_0 rfl ?_
  refine xi_iload_n 1 dX12_line_1 rfl ?_
  refine xi_iload_n 2 dX12_line_2 rfl ?_
  refine xi_callV (as := [.int x, .int y]) (rest := []) dX12_line_3 (FX12_isPoint_ok G hP i_keptMany i_taped i_faultKind i_faultPlace i_spot i_begin i_token i_value i_bad i_full i_bandRows i_bandFirsts i_outs f_state f_was f_kept f_tape f_order f_rest f_ways f_costs f_bandBest f_found f_drawn f_joined f_out (by omega) (by omega) (by omega) (by omega) (by omega) (by omega) hG x y _ rfl (fun r => r = FX12_isPoint f_state x y) rfl) mkX12_isPoint w_1257 ws_63 w_1255 (xpg0 hP rfl) rfl rfl rfl rfl (Nat.le_of_ble_eq_true rfl) (Nat.le_of_ble_eq_true rfl) (Nat.le_of_ble_eq_true rfl) (Nat.le_of_ble_eq_true rfl) (Nat.le_of_ble_eq_true rfl) ?_
  intro v M2 hz
  obtain ⟨_, rfl, rfl, rfl⟩ := hz
  show xW _ _ _ _ 6 _ [.int (FX12_isPoint f_state x y)] (P ++ (MDL L i_keptMany i_taped i_faultKind i_faultPlace i_spot i_begin i_token i_value i_bad i_full i_bandRows i_bandFirsts i_outs f_state f_was f_kept f_tape f_order f_rest f_ways f_costs f_bandBest f_found f_drawn f_joined f_out ++ R)) _ _
  refine xi_if_eq (tgt := 28) dX12_line_6 (by decide) (fun c1 => ?_) (fun c1 => ?_)
  · rw [if_pos c1] at hq
    refine xi_bipush (v := (-2)) dX12_line_28 (by decide) ?_
    exact xi_iret dX12_line_30 rfl rfl (Nat.le_of_ble_eq_true rfl) (Nat.le_of_ble_eq_true rfl) ⟨_, rfl, hq, rfl⟩
  · rw [if_neg c1] at hq
    obtain ⟨e2, e2b, e2h⟩ := point_in c1
    have e2c : x.toNatClampNeg = e2 := by rw [e2h]; exact nI_clamp (by omega)
    try rw [e2c] at hq
    subst e2h
    have e2g := (hG e2 e2b).1.2
    obtain ⟨e3, e3b, e3h⟩ := point_in2 hG c1
    rw [nI_clamp (by omega)] at e3b
    have e3c : y.toNatClampNeg = e3 := by rw [e3h]; exact nI_clamp (by omega)
    try rw [e3c] at hq
    subst e3h
    refine xi_aload_n 0 dX12_line_9 rfl ?_
    refine xi_iload_n 1 dX12_line_10 rfl ?_
    refine xi_iload_n 3 dX12_line_11 rfl ?_
    refine xi_callV (as := [.int (nI e2), .int t]) (rest := []) dX12_line_12 (FX12_isPoint_ok G hP i_keptMany i_taped i_faultKind i_faultPlace i_spot i_begin i_token i_value i_bad i_full i_bandRows i_bandFirsts i_outs f_state f_was f_kept f_tape f_order f_rest f_ways f_costs f_bandBest f_found f_drawn f_joined f_out (by omega) (by omega) (by omega) (by omega) (by omega) (by omega) hG ((nI e2)) t _ rfl (fun r => r = FX12_isPoint f_state ((nI e2)) t) rfl) mkX12_isPoint w_1257 ws_63 w_1255 (xpg0 hP rfl) rfl rfl rfl rfl (Nat.le_of_ble_eq_true rfl) (Nat.le_of_ble_eq_true rfl) (Nat.le_of_ble_eq_true rfl) (Nat.le_of_ble_eq_true rfl) (Nat.le_of_ble_eq_true rfl) ?_
    intro v M2 hz
    obtain ⟨_, rfl, rfl, rfl⟩ := hz
    show xW _ _ _ _ 15 _ [.int (FX12_isPoint f_state ((nI e2)) t)] (P ++ (MDL L i_keptMany i_taped i_faultKind i_faultPlace i_spot i_begin i_token i_value i_bad i_full i_bandRows i_bandFirsts i_outs f_state f_was f_kept f_tape f_order f_rest f_ways f_costs f_bandBest f_found f_drawn f_joined f_out ++ R)) _ _
    refine xi_if_eq (tgt := 28) dX12_line_15 (by decide) (fun c4 => ?_) (fun c4 => ?_)
    · rw [if_pos c4] at hq
      refine xi_bipush (v := (-2)) dX12_line_28 (by decide) ?_
      exact xi_iret dX12_line_30 rfl rfl (Nat.le_of_ble_eq_true rfl) (Nat.le_of_ble_eq_true rfl) ⟨_, rfl, hq, rfl⟩
    · rw [if_neg c4] at hq
      obtain ⟨e5, e5b, e5h⟩ := point_in2 hG c4
      rw [nI_clamp (by omega)] at e5b
      have e5c : t.toNatClampNeg = e5 := by rw [e5h]; exact nI_clamp (by omega)
      try rw [e5c] at hq
      subst e5h
      refine xi_aload_n 0 dX12_line_18 rfl ?_
      refine xi_iload_n 1 dX12_line_19 rfl ?_
      refine xi_iload_n 2 dX12_line_20 rfl ?_
      refine xi_iload_n 3 dX12_line_21 rfl ?_
      refine xi_callV (as := [.int (nI e2), .int (nI e3), .int (nI e5)]) (rest := []) dX12_line_22 (FX12_weight_ok G hP i_keptMany i_taped i_faultKind i_faultPlace i_spot i_begin i_token i_value i_bad i_full i_bandRows i_bandFirsts i_outs f_state f_was f_kept f_tape f_order f_rest f_ways f_costs f_bandBest f_found f_drawn f_joined f_out (by omega) (by omega) (by omega) (by omega) (by omega) (by omega) e2 (by omega) e3 (by omega) e5 (by omega) _ rfl (fun r => r = FX12_weight f_state e2 e3 e5) rfl) mkX12_weight w_1192 ws_53 w_1190 (xpg0 hP rfl) rfl rfl rfl rfl (Nat.le_of_ble_eq_true rfl) (Nat.le_of_ble_eq_true rfl) (Nat.le_of_ble_eq_true rfl) (Nat.le_of_ble_eq_true rfl) (Nat.le_of_ble_eq_true rfl) ?_
      intro v M2 hz
      obtain ⟨_, rfl, rfl, rfl⟩ := hz
      show xW _ _ _ _ 25 _ [.int (FX12_weight f_state e2 e3 e5)] (P ++ (MDL L i_keptMany i_taped i_faultKind i_faultPlace i_spot i_begin i_token i_value i_bad i_full i_bandRows i_bandFirsts i_outs f_state f_was f_kept f_tape f_order f_rest f_ways f_costs f_bandBest f_found f_drawn f_joined f_out ++ R)) _ _
      refine xi_goto (tgt := 30) dX12_line_25 (by decide) ?_
      exact xi_iret dX12_line_30 rfl rfl (Nat.le_of_ble_eq_true rfl) (Nat.le_of_ble_eq_true rfl) ⟨_, rfl, hq, rfl⟩
def FX12_far (f_state : Nat → Int32) (x : Int32) (y : Int32) (t : Int32) : Int32 := (if (FX12_isPoint f_state x y) = (0 : Int32) then (-2 : Int32) else (if (FX12_isPoint f_state ((nI x.toNatClampNeg)) t) = (0 : Int32) then (-2 : Int32) else (FX12_farOf f_state x.toNatClampNeg ((nI y.toNatClampNeg)) ((nI t.toNatClampNeg)))))
set_option maxHeartbeats 4000000 in
set_option maxRecDepth 100000 in
theorem FX12_far_ok (G : xG) {P R : xMem} {L : Nat} (hP : P.length = L) (i_keptMany : Nat) (i_taped : Nat) (i_faultKind : Int32) (i_faultPlace : Int32) (i_spot : Nat) (i_begin : Nat) (i_token : Int32) (i_value : Int32) (i_bad : Int32) (i_full : Nat) (i_bandRows : Int32) (i_bandFirsts : Int32) (i_outs : Nat) (f_state : Nat → Int32) (f_was : Nat → Int32) (f_kept : Nat → Int32) (f_tape : Nat → Int32) (f_order : Nat → Int32) (f_rest : Nat → Int32) (f_ways : Nat → Int32) (f_costs : Nat → Int32) (f_bandBest : Nat → Int32) (f_found : Nat → Int32) (f_drawn : Nat → Int32) (f_joined : Nat → Int32) (f_out : Nat → Int32) (bi_keptMany : i_keptMany ≤ 10) (bi_taped : i_taped ≤ 400) (bi_spot : i_spot ≤ 400) (bi_begin : i_begin ≤ 400) (bi_full : i_full ≤ 511) (bi_outs : i_outs ≤ 400) (hG : GO f_state) (x : Int32) (y : Int32) (t : Int32) (M : xMem) (hM : M = (P ++ (MDL L i_keptMany i_taped i_faultKind i_faultPlace i_spot i_begin i_token i_value i_bad i_full i_bandRows i_bandFirsts i_outs f_state f_was f_kept f_tape f_order f_rest f_ways f_costs f_bandBest f_found f_drawn f_joined f_out ++ R))) (Q : Int32 → Prop) (hq : Q (FX12_far f_state x y t)) : xC G mX12_far 4 0 0 [.ref L, .int x, .int y, .int t] M (fun v M2 => ∃ o : Int32, v = some (.int o) ∧ Q o ∧ M2 = (P ++ (MDL L i_keptMany i_taped i_faultKind i_faultPlace i_spot i_begin i_token i_value i_bad i_full i_bandRows i_bandFirsts i_outs f_state f_was f_kept f_tape f_order f_rest f_ways f_costs f_bandBest f_found f_drawn f_joined f_out ++ R))) := by
  subst hM
  unfold FX12_far at hq
  refine xC.of (by decide) (Nat.le_of_ble_eq_true rfl) ?_
  show xW _ _ _ _ 0 [(0, .ref L), (1, .int x), (2, .int y), (3, .int t)] [] _ 0 0
  refine xi_aload_n 0 dX12_far_0 rfl ?_
  refine xi_iload_n 1 dX12_far_1 rfl ?_
  refine xi_iload_n 2 dX12_far_2 rfl ?_
  refine xi_callV (as := [.int x, .int y]) (rest := []) dX12_far_3 (FX12_isPoint_ok G hP i_keptMany i_taped i_faultKind i_faultPlace i_spot i_begin i_token i_value i_bad i_full i_bandRows i_bandFirsts i_outs f_state f_was f_kept f_tape f_order f_rest f_ways f_costs f_bandBest f_found f_drawn f_joined f_out (by omega) (by omega) (by omega) (by omega) (by omega) (by omega) hG x y _ rfl (fun r => r = FX12_isPoint f_state x y) rfl) mkX12_isPoint w_1257 ws_63 w_1255 (xpg0 hP rfl) rfl rfl rfl rfl (Nat.le_of_ble_eq_true rfl) (Nat.le_of_ble_eq_true rfl) (Nat.le_of_ble_eq_true rfl) (Nat.le_of_ble_eq_true rfl) (Nat.le_of_ble_eq_true rfl) ?_
  intro v M2 hz
  obtain ⟨_, rfl, rfl, rfl⟩ := hz
  show xW _ _ _ _ 6 _ [.int (FX12_isPoint f_state x y)] (P ++ (MDL L i_keptMany i_taped i_faultKind i_faultPlace i_spot i_begin i_token i_value i_bad i_full i_bandRows i_bandFirsts i_outs f_state f_was f_kept f_tape f_order f_rest f_ways f_costs f_bandBest f_found f_drawn f_joined f_out ++ R)) _ _
  refine xi_if_eq (tgt := 28) dX12_far_6 (by decide) (fun c1 => ?_) (fun c1 => ?_)
  · rw [if_pos c1] at hq
    refine xi_bipush (v := (-2)) dX12_far_28 (by decide) ?_
    exact xi_iret dX12_far_30 rfl rfl (Nat.le_of_ble_eq_true rfl) (Nat.le_of_ble_eq_true rfl) ⟨_, rfl, hq, rfl⟩
  · rw [if_neg c1] at hq
    obtain ⟨e2, e2b, e2h⟩ := point_in c1
    have e2c : x.toNatClampNeg = e2 := by rw [e2h]; exact nI_clamp (by omega)
    try rw [e2c] at hq
    subst e2h
    have e2g := (hG e2 e2b).1.2
    obtain ⟨e3, e3b, e3h⟩ := point_in2 hG c1
    rw [nI_clamp (by omega)] at e3b
    have e3c : y.toNatClampNeg = e3 := by rw [e3h]; exact nI_clamp (by omega)
    try rw [e3c] at hq
    subst e3h
    refine xi_aload_n 0 dX12_far_9 rfl ?_
    refine xi_iload_n 1 dX12_far_10 rfl ?_
    refine xi_iload_n 3 dX12_far_11 rfl ?_
    refine xi_callV (as := [.int (nI e2), .int t]) (rest := []) dX12_far_12 (FX12_isPoint_ok G hP i_keptMany i_taped i_faultKind i_faultPlace i_spot i_begin i_token i_value i_bad i_full i_bandRows i_bandFirsts i_outs f_state f_was f_kept f_tape f_order f_rest f_ways f_costs f_bandBest f_found f_drawn f_joined f_out (by omega) (by omega) (by omega) (by omega) (by omega) (by omega) hG ((nI e2)) t _ rfl (fun r => r = FX12_isPoint f_state ((nI e2)) t) rfl) mkX12_isPoint w_1257 ws_63 w_1255 (xpg0 hP rfl) rfl rfl rfl rfl (Nat.le_of_ble_eq_true rfl) (Nat.le_of_ble_eq_true rfl) (Nat.le_of_ble_eq_true rfl) (Nat.le_of_ble_eq_true rfl) (Nat.le_of_ble_eq_true rfl) ?_
    intro v M2 hz
    obtain ⟨_, rfl, rfl, rfl⟩ := hz
    show xW _ _ _ _ 15 _ [.int (FX12_isPoint f_state ((nI e2)) t)] (P ++ (MDL L i_keptMany i_taped i_faultKind i_faultPlace i_spot i_begin i_token i_value i_bad i_full i_bandRows i_bandFirsts i_outs f_state f_was f_kept f_tape f_order f_rest f_ways f_costs f_bandBest f_found f_drawn f_joined f_out ++ R)) _ _
    refine xi_if_eq (tgt := 28) dX12_far_15 (by decide) (fun c4 => ?_) (fun c4 => ?_)
    · rw [if_pos c4] at hq
      refine xi_bipush (v := (-2)) dX12_far_28 (by decide) ?_
      exact xi_iret dX12_far_30 rfl rfl (Nat.le_of_ble_eq_true rfl) (Nat.le_of_ble_eq_true rfl) ⟨_, rfl, hq, rfl⟩
    · rw [if_neg c4] at hq
      obtain ⟨e5, e5b, e5h⟩ := point_in2 hG c4
      rw [nI_clamp (by omega)] at e5b
      have e5c : t.toNatClampNeg = e5 := by rw [e5h]; exact nI_clamp (by omega)
      try rw [e5c] at hq
      subst e5h
      refine xi_aload_n 0 dX12_far_18 rfl ?_
      refine xi_iload_n 1 dX12_far_19 rfl ?_
      refine xi_iload_n 2 dX12_far_20 rfl ?_
      refine xi_iload_n 3 dX12_far_21 rfl ?_
      refine xi_callV (as := [.int (nI e2), .int (nI e3), .int (nI e5)]) (rest := []) dX12_far_22 (FX12_farOf_ok G hP i_keptMany i_taped i_faultKind i_faultPlace i_spot i_begin i_token i_value i_bad i_full i_bandRows i_bandFirsts i_outs f_state f_was f_kept f_tape f_order f_rest f_ways f_costs f_bandBest f_found f_drawn f_joined f_out (by omega) (by omega) (by omega) (by omega) (by omega) (by omega) hG e2 (by omega) ((nI e3)) ((nI e5)) _ rfl (fun r => r = FX12_farOf f_state e2 ((nI e3)) ((nI e5))) rfl) mkX12_farOf w_1241 ws_60 w_1239 (xpg0 hP rfl) rfl rfl rfl rfl (Nat.le_of_ble_eq_true rfl) (Nat.le_of_ble_eq_true rfl) (Nat.le_of_ble_eq_true rfl) (Nat.le_of_ble_eq_true rfl) (Nat.le_of_ble_eq_true rfl) ?_
      intro v M2 hz
      obtain ⟨_, rfl, rfl, rfl⟩ := hz
      show xW _ _ _ _ 25 _ [.int (FX12_farOf f_state e2 ((nI e3)) ((nI e5)))] (P ++ (MDL L i_keptMany i_taped i_faultKind i_faultPlace i_spot i_begin i_token i_value i_bad i_full i_bandRows i_bandFirsts i_outs f_state f_was f_kept f_tape f_order f_rest f_ways f_costs f_bandBest f_found f_drawn f_joined f_out ++ R)) _ _
      refine xi_goto (tgt := 30) dX12_far_25 (by decide) ?_
      exact xi_iret dX12_far_30 rfl rfl (Nat.le_of_ble_eq_true rfl) (Nat.le_of_ble_eq_true rfl) ⟨_, rfl, hq, rfl⟩
def FX12_place (f_state : Nat → Int32) (x : Int32) (y : Int32) : Int32 := (if (FX12_isPoint f_state x y) = (0 : Int32) then (-2 : Int32) else (FX12_placeOf f_state x.toNatClampNeg y.toNatClampNeg))
set_option maxHeartbeats 4000000 in
set_option maxRecDepth 100000 in
theorem FX12_place_ok (G : xG) {P R : xMem} {L : Nat} (hP : P.length = L) (i_keptMany : Nat) (i_taped : Nat) (i_faultKind : Int32) (i_faultPlace : Int32) (i_spot : Nat) (i_begin : Nat) (i_token : Int32) (i_value : Int32) (i_bad : Int32) (i_full : Nat) (i_bandRows : Int32) (i_bandFirsts : Int32) (i_outs : Nat) (f_state : Nat → Int32) (f_was : Nat → Int32) (f_kept : Nat → Int32) (f_tape : Nat → Int32) (f_order : Nat → Int32) (f_rest : Nat → Int32) (f_ways : Nat → Int32) (f_costs : Nat → Int32) (f_bandBest : Nat → Int32) (f_found : Nat → Int32) (f_drawn : Nat → Int32) (f_joined : Nat → Int32) (f_out : Nat → Int32) (bi_keptMany : i_keptMany ≤ 10) (bi_taped : i_taped ≤ 400) (bi_spot : i_spot ≤ 400) (bi_begin : i_begin ≤ 400) (bi_full : i_full ≤ 511) (bi_outs : i_outs ≤ 400) (hG : GO f_state) (hE : PE f_state) (x : Int32) (y : Int32) (M : xMem) (hM : M = (P ++ (MDL L i_keptMany i_taped i_faultKind i_faultPlace i_spot i_begin i_token i_value i_bad i_full i_bandRows i_bandFirsts i_outs f_state f_was f_kept f_tape f_order f_rest f_ways f_costs f_bandBest f_found f_drawn f_joined f_out ++ R))) (Q : Int32 → Prop) (hq : Q (FX12_place f_state x y)) : xC G mX12_place 4 0 0 [.ref L, .int x, .int y] M (fun v M2 => ∃ o : Int32, v = some (.int o) ∧ Q o ∧ M2 = (P ++ (MDL L i_keptMany i_taped i_faultKind i_faultPlace i_spot i_begin i_token i_value i_bad i_full i_bandRows i_bandFirsts i_outs f_state f_was f_kept f_tape f_order f_rest f_ways f_costs f_bandBest f_found f_drawn f_joined f_out ++ R))) := by
  subst hM
  unfold FX12_place at hq
  refine xC.of (by decide) (Nat.le_of_ble_eq_true rfl) ?_
  show xW _ _ _ _ 0 [(0, .ref L), (1, .int x), (2, .int y)] [] _ 0 0
  refine xi_aload_n 0 dX12_place_0 rfl ?_
  refine xi_iload_n 1 dX12_place_1 rfl ?_
  refine xi_iload_n 2 dX12_place_2 rfl ?_
  refine xi_callV (as := [.int x, .int y]) (rest := []) dX12_place_3 (FX12_isPoint_ok G hP i_keptMany i_taped i_faultKind i_faultPlace i_spot i_begin i_token i_value i_bad i_full i_bandRows i_bandFirsts i_outs f_state f_was f_kept f_tape f_order f_rest f_ways f_costs f_bandBest f_found f_drawn f_joined f_out (by omega) (by omega) (by omega) (by omega) (by omega) (by omega) hG x y _ rfl (fun r => r = FX12_isPoint f_state x y) rfl) mkX12_isPoint w_1257 ws_63 w_1255 (xpg0 hP rfl) rfl rfl rfl rfl (Nat.le_of_ble_eq_true rfl) (Nat.le_of_ble_eq_true rfl) (Nat.le_of_ble_eq_true rfl) (Nat.le_of_ble_eq_true rfl) (Nat.le_of_ble_eq_true rfl) ?_
  intro v M2 hz
  obtain ⟨_, rfl, rfl, rfl⟩ := hz
  show xW _ _ _ _ 6 _ [.int (FX12_isPoint f_state x y)] (P ++ (MDL L i_keptMany i_taped i_faultKind i_faultPlace i_spot i_begin i_token i_value i_bad i_full i_bandRows i_bandFirsts i_outs f_state f_was f_kept f_tape f_order f_rest f_ways f_costs f_bandBest f_found f_drawn f_joined f_out ++ R)) _ _
  refine xi_if_eq (tgt := 18) dX12_place_6 (by decide) (fun c1 => ?_) (fun c1 => ?_)
  · rw [if_pos c1] at hq
    refine xi_bipush (v := (-2)) dX12_place_18 (by decide) ?_
    exact xi_iret dX12_place_20 rfl rfl (Nat.le_of_ble_eq_true rfl) (Nat.le_of_ble_eq_true rfl) ⟨_, rfl, hq, rfl⟩
  · rw [if_neg c1] at hq
    obtain ⟨e2, e2b, e2h⟩ := point_in c1
    have e2c : x.toNatClampNeg = e2 := by rw [e2h]; exact nI_clamp (by omega)
    try rw [e2c] at hq
    subst e2h
    have e2g := (hG e2 e2b).1.2
    obtain ⟨e3, e3b, e3h⟩ := point_in2 hG c1
    rw [nI_clamp (by omega)] at e3b
    have e3c : y.toNatClampNeg = e3 := by rw [e3h]; exact nI_clamp (by omega)
    try rw [e3c] at hq
    subst e3h
    refine xi_aload_n 0 dX12_place_9 rfl ?_
    refine xi_iload_n 1 dX12_place_10 rfl ?_
    refine xi_iload_n 2 dX12_place_11 rfl ?_
    refine xi_callV (as := [.int (nI e2), .int (nI e3)]) (rest := []) dX12_place_12 (FX12_placeOf_ok G hP i_keptMany i_taped i_faultKind i_faultPlace i_spot i_begin i_token i_value i_bad i_full i_bandRows i_bandFirsts i_outs f_state f_was f_kept f_tape f_order f_rest f_ways f_costs f_bandBest f_found f_drawn f_joined f_out (by omega) (by omega) (by omega) (by omega) (by omega) (by omega) hG hE e2 (by omega) e3 (by omega) (by omega) _ rfl (fun r => r = FX12_placeOf f_state e2 e3) rfl) mkX12_placeOf w_1281 ws_65 w_1279 (xpg0 hP rfl) rfl rfl rfl rfl (Nat.le_of_ble_eq_true rfl) (Nat.le_of_ble_eq_true rfl) (Nat.le_of_ble_eq_true rfl) (Nat.le_of_ble_eq_true rfl) (Nat.le_of_ble_eq_true rfl) ?_
    intro v M2 hz
    obtain ⟨_, rfl, rfl, rfl⟩ := hz
    show xW _ _ _ _ 15 _ [.int (FX12_placeOf f_state e2 e3)] (P ++ (MDL L i_keptMany i_taped i_faultKind i_faultPlace i_spot i_begin i_token i_value i_bad i_full i_bandRows i_bandFirsts i_outs f_state f_was f_kept f_tape f_order f_rest f_ways f_costs f_bandBest f_found f_drawn f_joined f_out ++ R)) _ _
    refine xi_goto (tgt := 20) dX12_place_15 (by decide) ?_
    exact xi_iret dX12_place_20 rfl rfl (Nat.le_of_ble_eq_true rfl) (Nat.le_of_ble_eq_true rfl) ⟨_, rfl, hq, rfl⟩
def FX12_areTwo (f_state : Nat → Int32) (x : Int32) (y : Int32) (t : Int32) : Int32 := (if (FX12_isPoint f_state x y) = (0 : Int32) then (0 : Int32) else (if (FX12_isPoint f_state x t) = (0 : Int32) then (0 : Int32) else (if y = t then (0 : Int32) else (1 : Int32))))
set_option maxHeartbeats 4000000 in
set_option maxRecDepth 100000 in
theorem FX12_areTwo_ok (G : xG) {P R : xMem} {L : Nat} (hP : P.length = L) (i_keptMany : Nat) (i_taped : Nat) (i_faultKind : Int32) (i_faultPlace : Int32) (i_spot : Nat) (i_begin : Nat) (i_token : Int32) (i_value : Int32) (i_bad : Int32) (i_full : Nat) (i_bandRows : Int32) (i_bandFirsts : Int32) (i_outs : Nat) (f_state : Nat → Int32) (f_was : Nat → Int32) (f_kept : Nat → Int32) (f_tape : Nat → Int32) (f_order : Nat → Int32) (f_rest : Nat → Int32) (f_ways : Nat → Int32) (f_costs : Nat → Int32) (f_bandBest : Nat → Int32) (f_found : Nat → Int32) (f_drawn : Nat → Int32) (f_joined : Nat → Int32) (f_out : Nat → Int32) (bi_keptMany : i_keptMany ≤ 10) (bi_taped : i_taped ≤ 400) (bi_spot : i_spot ≤ 400) (bi_begin : i_begin ≤ 400) (bi_full : i_full ≤ 511) (bi_outs : i_outs ≤ 400) (hG : GO f_state) (x : Int32) (y : Int32) (t : Int32) (M : xMem) (hM : M = (P ++ (MDL L i_keptMany i_taped i_faultKind i_faultPlace i_spot i_begin i_token i_value i_bad i_full i_bandRows i_bandFirsts i_outs f_state f_was f_kept f_tape f_order f_rest f_ways f_costs f_bandBest f_found f_drawn f_joined f_out ++ R))) (Q : Int32 → Prop) (hq : Q (FX12_areTwo f_state x y t)) : xC G mX12_areTwo 4 0 0 [.ref L, .int x, .int y, .int t] M (fun v M2 => ∃ o : Int32, v = some (.int o) ∧ Q o ∧ M2 = (P ++ (MDL L i_keptMany i_taped i_faultKind i_faultPlace i_spot i_begin i_token i_value i_bad i_full i_bandRows i_bandFirsts i_outs f_state f_was f_kept f_tape f_order f_rest f_ways f_costs f_bandBest f_found f_drawn f_joined f_out ++ R))) := by
  subst hM
  unfold FX12_areTwo at hq
  refine xC.of (by decide) (Nat.le_of_ble_eq_true rfl) ?_
  show xW _ _ _ _ 0 [(0, .ref L), (1, .int x), (2, .int y), (3, .int t)] [] _ 0 0
  refine xi_aload_n 0 dX12_areTwo_0 rfl ?_
  refine xi_iload_n 1 dX12_areTwo_1 rfl ?_
  refine xi_iload_n 2 dX12_areTwo_2 rfl ?_
  refine xi_callV (as := [.int x, .int y]) (rest := []) dX12_areTwo_3 (FX12_isPoint_ok G hP i_keptMany i_taped i_faultKind i_faultPlace i_spot i_begin i_token i_value i_bad i_full i_bandRows i_bandFirsts i_outs f_state f_was f_kept f_tape f_order f_rest f_ways f_costs f_bandBest f_found f_drawn f_joined f_out (by omega) (by omega) (by omega) (by omega) (by omega) (by omega) hG x y _ rfl (fun r => r = FX12_isPoint f_state x y) rfl) mkX12_isPoint w_1257 ws_63 w_1255 (xpg0 hP rfl) rfl rfl rfl rfl (Nat.le_of_ble_eq_true rfl) (Nat.le_of_ble_eq_true rfl) (Nat.le_of_ble_eq_true rfl) (Nat.le_of_ble_eq_true rfl) (Nat.le_of_ble_eq_true rfl) ?_
  intro v M2 hz
  obtain ⟨_, rfl, rfl, rfl⟩ := hz
  show xW _ _ _ _ 6 _ [.int (FX12_isPoint f_state x y)] (P ++ (MDL L i_keptMany i_taped i_faultKind i_faultPlace i_spot i_begin i_token i_value i_bad i_full i_bandRows i_bandFirsts i_outs f_state f_was f_kept f_tape f_order f_rest f_ways f_costs f_bandBest f_found f_drawn f_joined f_out ++ R)) _ _
  refine xi_if_eq (tgt := 27) dX12_areTwo_6 (by decide) (fun c1 => ?_) (fun c1 => ?_)
  · rw [if_pos c1] at hq
    refine xi_iconst (v := 0) dX12_areTwo_27 (by decide) ?_
    exact xi_iret dX12_areTwo_28 rfl (by decide) (Nat.le_of_ble_eq_true rfl) (Nat.le_of_ble_eq_true rfl) ⟨_, rfl, hq, rfl⟩
  · rw [if_neg c1] at hq
    refine xi_aload_n 0 dX12_areTwo_9 rfl ?_
    refine xi_iload_n 1 dX12_areTwo_10 rfl ?_
    refine xi_iload_n 3 dX12_areTwo_11 rfl ?_
    refine xi_callV (as := [.int x, .int t]) (rest := []) dX12_areTwo_12 (FX12_isPoint_ok G hP i_keptMany i_taped i_faultKind i_faultPlace i_spot i_begin i_token i_value i_bad i_full i_bandRows i_bandFirsts i_outs f_state f_was f_kept f_tape f_order f_rest f_ways f_costs f_bandBest f_found f_drawn f_joined f_out (by omega) (by omega) (by omega) (by omega) (by omega) (by omega) hG x t _ rfl (fun r => r = FX12_isPoint f_state x t) rfl) mkX12_isPoint w_1257 ws_63 w_1255 (xpg0 hP rfl) rfl rfl rfl rfl (Nat.le_of_ble_eq_true rfl) (Nat.le_of_ble_eq_true rfl) (Nat.le_of_ble_eq_true rfl) (Nat.le_of_ble_eq_true rfl) (Nat.le_of_ble_eq_true rfl) ?_
    intro v M2 hz
    obtain ⟨_, rfl, rfl, rfl⟩ := hz
    show xW _ _ _ _ 15 _ [.int (FX12_isPoint f_state x t)] (P ++ (MDL L i_keptMany i_taped i_faultKind i_faultPlace i_spot i_begin i_token i_value i_bad i_full i_bandRows i_bandFirsts i_outs f_state f_was f_kept f_tape f_order f_rest f_ways f_costs f_bandBest f_found f_drawn f_joined f_out ++ R)) _ _
    refine xi_if_eq (tgt := 27) dX12_areTwo_15 (by decide) (fun c2 => ?_) (fun c2 => ?_)
    · rw [if_pos c2] at hq
      refine xi_iconst (v := 0) dX12_areTwo_27 (by decide) ?_
      exact xi_iret dX12_areTwo_28 rfl (by decide) (Nat.le_of_ble_eq_true rfl) (Nat.le_of_ble_eq_true rfl) ⟨_, rfl, hq, rfl⟩
    · rw [if_neg c2] at hq
      refine xi_iload_n 2 dX12_areTwo_18 rfl ?_
      refine xi_iload_n 3 dX12_areTwo_19 rfl ?_
      refine xi_icmp_eq (tgt := 27) dX12_areTwo_20 (by decide) (fun c3 => ?_) (fun c3 => ?_)
      · rw [if_pos c3] at hq
        refine xi_iconst (v := 0) dX12_areTwo_27 (by decide) ?_
        exact xi_iret dX12_areTwo_28 rfl (by decide) (Nat.le_of_ble_eq_true rfl) (Nat.le_of_ble_eq_true rfl) ⟨_, rfl, hq, rfl⟩
      · rw [if_neg c3] at hq
        refine xi_iconst (v := 1) dX12_areTwo_23 (by decide) ?_
        refine xi_goto (tgt := 28) dX12_areTwo_24 (by decide) ?_
        exact xi_iret dX12_areTwo_28 rfl (by decide) (Nat.le_of_ble_eq_true rfl) (Nat.le_of_ble_eq_true rfl) ⟨_, rfl, hq, rfl⟩
theorem FX12_areTwo_b (f_state : Nat → Int32) (x : Int32) (y : Int32) (t : Int32) : FX12_areTwo f_state x y t = 0 ∨ FX12_areTwo f_state x y t = 1 := by
  unfold FX12_areTwo
  (repeat' split) <;> first | exact Or.inl rfl | exact Or.inr rfl
def LX12_count_4 (i_keptMany : Nat) (i_taped : Nat) (i_outs : Nat) (f_state : Nat → Int32) (w1 : Int32) (K : Int32 → Int32) : Nat → Nat → Int32 → Int32
  | 0, _, v2 => K v2
  | k + 1, j, v2 => (if (FX12_isNet f_state ((nI j))) = (0 : Int32) then (LX12_count_4 i_keptMany i_taped i_outs f_state w1 K k (j + 1) ((v2 ||| (0 : Int32)))) else (LX12_count_4 i_keptMany i_taped i_outs f_state w1 K k (j + 1) ((v2 ||| ((1 : Int32) <<< ((nI j) &&& 31))))))
set_option maxHeartbeats 4000000 in
set_option maxRecDepth 100000 in
theorem LX12_count_4_s (G : xG) {P R : xMem} {L : Nat} (hP : P.length = L) (i_keptMany : Nat) (i_taped : Nat) (i_faultKind : Int32) (i_faultPlace : Int32) (i_spot : Nat) (i_begin : Nat) (i_token : Int32) (i_value : Int32) (i_bad : Int32) (i_full : Nat) (i_bandRows : Int32) (i_bandFirsts : Int32) (i_outs : Nat) (f_state : Nat → Int32) (f_was : Nat → Int32) (f_kept : Nat → Int32) (f_tape : Nat → Int32) (f_order : Nat → Int32) (f_rest : Nat → Int32) (f_ways : Nat → Int32) (f_costs : Nat → Int32) (f_bandBest : Nat → Int32) (f_found : Nat → Int32) (f_drawn : Nat → Int32) (f_joined : Nat → Int32) (f_out : Nat → Int32) (bi_keptMany : i_keptMany ≤ 10) (bi_taped : i_taped ≤ 400) (bi_spot : i_spot ≤ 400) (bi_begin : i_begin ≤ 400) (bi_full : i_full ≤ 511) (bi_outs : i_outs ≤ 400) (hG : GO f_state) (w1 : Int32) (Q : Int32 → Prop) (K : Int32 → Int32) (HE : ∀ (v2 : Int32), Q (K v2) → xW G mX12_count (xrm 3 0 0) (xQ G (fun v M2 => ∃ o : Int32, v = some (.int o) ∧ Q o ∧ M2 = (P ++ (MDL L i_keptMany i_taped i_faultKind i_faultPlace i_spot i_begin i_token i_value i_bad i_full i_bandRows i_bandFirsts i_outs f_state f_was f_kept f_tape f_order f_rest f_ways f_costs f_bandBest f_found f_drawn f_joined f_out ++ R))) 0 0) 33 [(0, .ref L), (1, .int w1), (2, .int v2)] [] (P ++ (MDL L i_keptMany i_taped i_faultKind i_faultPlace i_spot i_begin i_token i_value i_bad i_full i_bandRows i_bandFirsts i_outs f_state f_was f_kept f_tape f_order f_rest f_ways f_costs f_bandBest f_found f_drawn f_joined f_out ++ R)) 0 0) :
    ∀ (k j : Nat) (v2 : Int32), 3 - j = k → j < 100000 → Q (LX12_count_4 i_keptMany i_taped i_outs f_state w1 K k j v2) → xW G mX12_count (xrm 3 0 0) (xQ G (fun v M2 => ∃ o : Int32, v = some (.int o) ∧ Q o ∧ M2 = (P ++ (MDL L i_keptMany i_taped i_faultKind i_faultPlace i_spot i_begin i_token i_value i_bad i_full i_bandRows i_bandFirsts i_outs f_state f_was f_kept f_tape f_order f_rest f_ways f_costs f_bandBest f_found f_drawn f_joined f_out ++ R))) 0 0) 4 [(0, .ref L), (1, .int w1), (2, .int v2), (3, .int (nI j))] [] (P ++ (MDL L i_keptMany i_taped i_faultKind i_faultPlace i_spot i_begin i_token i_value i_bad i_full i_bandRows i_bandFirsts i_outs f_state f_was f_kept f_tape f_order f_rest f_ways f_costs f_bandBest f_found f_drawn f_joined f_out ++ R)) 0 0 := by
  intro k
  induction k with
  | zero =>
    intro j v2 hj hj2 hq
    rw [LX12_count_4] at hq
    refine xi_iload_n 3 dX12_count_4 rfl ?_
    refine xi_iconst (v := 3) dX12_count_5 (by decide) ?_
    refine xi_icmp_ge_t (tgt := 33) dX12_count_6 (by decide) (nI_le (a := 3) (b := j) (by omega) (by omega)) ?_
    refine xi_sub (lv' := [(0, .ref L), (1, .int w1), (2, .int v2)]) [0, 1, 2] rfl ?_
    exact HE v2 hq
  | succ k ih =>
    intro j v2 hj hj2 hq
    rw [LX12_count_4] at hq
    refine xi_iload_n 3 dX12_count_4 rfl ?_
    refine xi_iconst (v := 3) dX12_count_5 (by decide) ?_
    refine xi_icmp_ge_f (tgt := 33) dX12_count_6 (by decide) (nI_ge (a := j) (b := 3) (by omega) (by omega)) ?_
    refine xi_iload_n 2 dX12_count_9 rfl ?_
    refine xi_aload_n 0 dX12_count_10 rfl ?_
    refine xi_iload_n 3 dX12_count_11 rfl ?_
    refine xi_callV (as := [.int (nI j)]) (rest := [.int v2]) dX12_count_12 (FX12_isNet_ok G hP i_keptMany i_taped i_faultKind i_faultPlace i_spot i_begin i_token i_value i_bad i_full i_bandRows i_bandFirsts i_outs f_state f_was f_kept f_tape f_order f_rest f_ways f_costs f_bandBest f_found f_drawn f_joined f_out (by omega) (by omega) (by omega) (by omega) (by omega) (by omega) hG ((nI j)) _ rfl (fun r => r = FX12_isNet f_state ((nI j))) rfl) mkX12_isNet w_1104 ws_35 w_1102 (xpg0 hP rfl) rfl rfl rfl rfl (Nat.le_of_ble_eq_true rfl) (Nat.le_of_ble_eq_true rfl) (Nat.le_of_ble_eq_true rfl) (Nat.le_of_ble_eq_true rfl) (Nat.le_of_ble_eq_true rfl) ?_
    intro v M2 hz
    obtain ⟨_, rfl, rfl, rfl⟩ := hz
    show xW _ _ _ _ 15 _ [.int (FX12_isNet f_state ((nI j))), .int v2] (P ++ (MDL L i_keptMany i_taped i_faultKind i_faultPlace i_spot i_begin i_token i_value i_bad i_full i_bandRows i_bandFirsts i_outs f_state f_was f_kept f_tape f_order f_rest f_ways f_costs f_bandBest f_found f_drawn f_joined f_out ++ R)) _ _
    refine xi_if_eq (tgt := 24) dX12_count_15 (by decide) (fun c1 => ?_) (fun c1 => ?_)
    · rw [if_pos c1] at hq
      refine xi_iconst (v := 0) dX12_count_24 (by decide) ?_
      refine xi_ior (v := (v2 ||| (0 : Int32))) dX12_count_25 rfl ?_
      refine xi_istore_n (lv' := [(2, .int (v2 ||| (0 : Int32))), (0, .ref L), (1, .int w1), (3, .int (nI j))]) dX12_count_26 (by decide) rfl ?_
      refine xi_iinc (v := (nI (j + 1))) (lv' := [(3, .int (nI (j + 1))), (2, .int (v2 ||| (0 : Int32))), (0, .ref L), (1, .int w1)]) 3 dX12_count_27 rfl (nI_1 _) (by decide) rfl ?_
      refine xi_goto (tgt := 4) dX12_count_30 (by decide) ?_
      refine xi_sub (lv' := [(0, .ref L), (1, .int w1), (2, .int (v2 ||| (0 : Int32))), (3, .int (nI (j + 1)))]) [2, 3, 1, 0] rfl ?_
      exact ih (j + 1) ((v2 ||| (0 : Int32))) (by omega) (by omega) hq
    · rw [if_neg c1] at hq
      refine xi_iconst (v := 1) dX12_count_18 (by decide) ?_
      refine xi_iload_n 3 dX12_count_19 rfl ?_
      refine xi_ishl (v := ((1 : Int32) <<< ((nI j) &&& 31))) dX12_count_20 rfl ?_
      refine xi_goto (tgt := 25) dX12_count_21 (by decide) ?_
      refine xi_ior (v := (v2 ||| ((1 : Int32) <<< ((nI j) &&& 31)))) dX12_count_25 rfl ?_
      refine xi_istore_n (lv' := [(2, .int (v2 ||| ((1 : Int32) <<< ((nI j) &&& 31)))), (0, .ref L), (1, .int w1), (3, .int (nI j))]) dX12_count_26 (by decide) rfl ?_
      refine xi_iinc (v := (nI (j + 1))) (lv' := [(3, .int (nI (j + 1))), (2, .int (v2 ||| ((1 : Int32) <<< ((nI j) &&& 31)))), (0, .ref L), (1, .int w1)]) 3 dX12_count_27 rfl (nI_1 _) (by decide) rfl ?_
      refine xi_goto (tgt := 4) dX12_count_30 (by decide) ?_
      refine xi_sub (lv' := [(0, .ref L), (1, .int w1), (2, .int (v2 ||| ((1 : Int32) <<< ((nI j) &&& 31)))), (3, .int (nI (j + 1)))]) [2, 3, 1, 0] rfl ?_
      exact ih (j + 1) ((v2 ||| ((1 : Int32) <<< ((nI j) &&& 31)))) (by omega) (by omega) hq
def FX12_count (i_keptMany : Nat) (i_taped : Nat) (i_outs : Nat) (f_state : Nat → Int32) (x : Int32) : Int32 := (LX12_count_4 i_keptMany i_taped i_outs f_state x (fun u2 => (if x = 0 then u2 else (if x = 1 then (nI i_keptMany) else (if x = 2 then (nI i_taped) else (if x = 3 then (nI i_outs) else (-1 : Int32)))))) (3 - 0) 0 ((0 : Int32)))
set_option maxHeartbeats 4000000 in
set_option maxRecDepth 100000 in
theorem FX12_count_ok (G : xG) {P R : xMem} {L : Nat} (hP : P.length = L) (i_keptMany : Nat) (i_taped : Nat) (i_faultKind : Int32) (i_faultPlace : Int32) (i_spot : Nat) (i_begin : Nat) (i_token : Int32) (i_value : Int32) (i_bad : Int32) (i_full : Nat) (i_bandRows : Int32) (i_bandFirsts : Int32) (i_outs : Nat) (f_state : Nat → Int32) (f_was : Nat → Int32) (f_kept : Nat → Int32) (f_tape : Nat → Int32) (f_order : Nat → Int32) (f_rest : Nat → Int32) (f_ways : Nat → Int32) (f_costs : Nat → Int32) (f_bandBest : Nat → Int32) (f_found : Nat → Int32) (f_drawn : Nat → Int32) (f_joined : Nat → Int32) (f_out : Nat → Int32) (bi_keptMany : i_keptMany ≤ 10) (bi_taped : i_taped ≤ 400) (bi_spot : i_spot ≤ 400) (bi_begin : i_begin ≤ 400) (bi_full : i_full ≤ 511) (bi_outs : i_outs ≤ 400) (hG : GO f_state) (x : Int32) (M : xMem) (hM : M = (P ++ (MDL L i_keptMany i_taped i_faultKind i_faultPlace i_spot i_begin i_token i_value i_bad i_full i_bandRows i_bandFirsts i_outs f_state f_was f_kept f_tape f_order f_rest f_ways f_costs f_bandBest f_found f_drawn f_joined f_out ++ R))) (Q : Int32 → Prop) (hq : Q (FX12_count i_keptMany i_taped i_outs f_state x)) : xC G mX12_count 3 0 0 [.ref L, .int x] M (fun v M2 => ∃ o : Int32, v = some (.int o) ∧ Q o ∧ M2 = (P ++ (MDL L i_keptMany i_taped i_faultKind i_faultPlace i_spot i_begin i_token i_value i_bad i_full i_bandRows i_bandFirsts i_outs f_state f_was f_kept f_tape f_order f_rest f_ways f_costs f_bandBest f_found f_drawn f_joined f_out ++ R))) := by
  subst hM
  unfold FX12_count at hq
  refine xC.of (by decide) (Nat.le_of_ble_eq_true rfl) ?_
  show xW _ _ _ _ 0 [(0, .ref L), (1, .int x)] [] _ 0 0
  refine xi_iconst (v := 0) dX12_count_0 (by decide) ?_
  refine xi_istore_n (lv' := [(2, .int 0), (0, .ref L), (1, .int x)]) dX12_count_1 (by decide) rfl ?_
  refine xi_iconst (v := 0) dX12_count_2 (by decide) ?_
  refine xi_istore_n (lv' := [(3, .int 0), (2, .int 0), (0, .ref L), (1, .int x)]) dX12_count_3 (by decide) rfl ?_
  refine xi_sub (lv' := [(0, .ref L), (1, .int x), (2, .int 0), (3, .int 0)]) [2, 3, 1, 0] rfl ?_
  refine LX12_count_4_s G hP i_keptMany i_taped i_faultKind i_faultPlace i_spot i_begin i_token i_value i_bad i_full i_bandRows i_bandFirsts i_outs f_state f_was f_kept f_tape f_order f_rest f_ways f_costs f_bandBest f_found f_drawn f_joined f_out (by omega) (by omega) (by omega) (by omega) (by omega) (by omega) hG x Q _ (fun u2 hq => ?_) (3 - 0) 0 ((0 : Int32)) rfl (by omega) hq
  refine xi_iload_n 1 dX12_count_33 rfl ?_
  by_cases c3 : x = 0
  · rw [if_pos c3] at hq
    refine xi_tableIn (off := 30) (tgt := 64) dX12_count_34 (by rw [c3]; decide) (by rw [c3]; decide) (by rw [c3]; decide) (by decide) ?_
    refine xi_iload_n 2 dX12_count_64 rfl ?_
    exact xi_iret dX12_count_65 rfl rfl (Nat.le_of_ble_eq_true rfl) (Nat.le_of_ble_eq_true rfl) ⟨_, rfl, hq, rfl⟩
  rw [if_neg c3] at hq
  by_cases c4 : x = 1
  · rw [if_pos c4] at hq
    refine xi_tableIn (off := 32) (tgt := 66) dX12_count_34 (by rw [c4]; decide) (by rw [c4]; decide) (by rw [c4]; decide) (by decide) ?_
    refine xi_aload_n 0 dX12_count_66 rfl ?_
    refine xi_get (f := 3) dX12_count_67 (xpg0 hP rfl) rfl ok_9 (by decide) w_1011 rfl ?_
    exact xi_iret dX12_count_70 rfl rfl (Nat.le_of_ble_eq_true rfl) (Nat.le_of_ble_eq_true rfl) ⟨_, rfl, hq, rfl⟩
  rw [if_neg c4] at hq
  by_cases c5 : x = 2
  · rw [if_pos c5] at hq
    refine xi_tableIn (off := 37) (tgt := 71) dX12_count_34 (by rw [c5]; decide) (by rw [c5]; decide) (by rw [c5]; decide) (by decide) ?_
    refine xi_aload_n 0 dX12_count_71 rfl ?_
    refine xi_get (f := 5) dX12_count_72 (xpg0 hP rfl) rfl ok_9 (by decide) w_1013 rfl ?_
    exact xi_iret dX12_count_75 rfl rfl (Nat.le_of_ble_eq_true rfl) (Nat.le_of_ble_eq_true rfl) ⟨_, rfl, hq, rfl⟩
  rw [if_neg c5] at hq
  by_cases c6 : x = 3
  · rw [if_pos c6] at hq
    refine xi_tableIn (off := 42) (tgt := 76) dX12_count_34 (by rw [c6]; decide) (by rw [c6]; decide) (by rw [c6]; decide) (by decide) ?_
    refine xi_aload_n 0 dX12_count_76 rfl ?_
    refine xi_get (f := 25) dX12_count_77 (xpg0 hP rfl) rfl ok_9 (by decide) w_1033 rfl ?_
    exact xi_iret dX12_count_80 rfl rfl (Nat.le_of_ble_eq_true rfl) (Nat.le_of_ble_eq_true rfl) ⟨_, rfl, hq, rfl⟩
  rw [if_neg c6] at hq
  have tc3 : x.toInt ≠ 0 := fun e => c3 (Int32.toInt_inj.mp (by rw [e]; decide))
  have tc4 : x.toInt ≠ 1 := fun e => c4 (Int32.toInt_inj.mp (by rw [e]; decide))
  have tc5 : x.toInt ≠ 2 := fun e => c5 (Int32.toInt_inj.mp (by rw [e]; decide))
  have tc6 : x.toInt ≠ 3 := fun e => c6 (Int32.toInt_inj.mp (by rw [e]; decide))
  refine xi_tableOut (tgt := 81) dX12_count_34 (by omega) (by decide) ?_
  refine xi_iconst (v := (-1)) dX12_count_81 (by decide) ?_
  exact xi_iret dX12_count_82 rfl rfl (Nat.le_of_ble_eq_true rfl) (Nat.le_of_ble_eq_true rfl) ⟨_, rfl, hq, rfl⟩
def FX12_fault (i_faultKind : Int32) (i_faultPlace : Int32) (x : Int32) : Int32 := (if x = (0 : Int32) then i_faultKind else (if x = (1 : Int32) then i_faultPlace else (-1 : Int32)))
set_option maxHeartbeats 4000000 in
set_option maxRecDepth 100000 in
theorem FX12_fault_ok (G : xG) {P R : xMem} {L : Nat} (hP : P.length = L) (i_keptMany : Nat) (i_taped : Nat) (i_faultKind : Int32) (i_faultPlace : Int32) (i_spot : Nat) (i_begin : Nat) (i_token : Int32) (i_value : Int32) (i_bad : Int32) (i_full : Nat) (i_bandRows : Int32) (i_bandFirsts : Int32) (i_outs : Nat) (f_state : Nat → Int32) (f_was : Nat → Int32) (f_kept : Nat → Int32) (f_tape : Nat → Int32) (f_order : Nat → Int32) (f_rest : Nat → Int32) (f_ways : Nat → Int32) (f_costs : Nat → Int32) (f_bandBest : Nat → Int32) (f_found : Nat → Int32) (f_drawn : Nat → Int32) (f_joined : Nat → Int32) (f_out : Nat → Int32) (bi_keptMany : i_keptMany ≤ 10) (bi_taped : i_taped ≤ 400) (bi_spot : i_spot ≤ 400) (bi_begin : i_begin ≤ 400) (bi_full : i_full ≤ 511) (bi_outs : i_outs ≤ 400) (x : Int32) (M : xMem) (hM : M = (P ++ (MDL L i_keptMany i_taped i_faultKind i_faultPlace i_spot i_begin i_token i_value i_bad i_full i_bandRows i_bandFirsts i_outs f_state f_was f_kept f_tape f_order f_rest f_ways f_costs f_bandBest f_found f_drawn f_joined f_out ++ R))) (Q : Int32 → Prop) (hq : Q (FX12_fault i_faultKind i_faultPlace x)) : xC G mX12_fault 0 0 0 [.ref L, .int x] M (fun v M2 => ∃ o : Int32, v = some (.int o) ∧ Q o ∧ M2 = (P ++ (MDL L i_keptMany i_taped i_faultKind i_faultPlace i_spot i_begin i_token i_value i_bad i_full i_bandRows i_bandFirsts i_outs f_state f_was f_kept f_tape f_order f_rest f_ways f_costs f_bandBest f_found f_drawn f_joined f_out ++ R))) := by
  subst hM
  unfold FX12_fault at hq
  refine xC.of (by decide) (Nat.le_of_ble_eq_true rfl) ?_
  show xW _ _ _ _ 0 [(0, .ref L), (1, .int x)] [] _ 0 0
  refine xi_iload_n 1 dX12_fault_0 rfl ?_
  refine xi_if_ne (tgt := 11) dX12_fault_1 (by decide) (fun c1 => ?_) (fun c1 => ?_)
  · rw [if_neg c1] at hq
    refine xi_iload_n 1 dX12_fault_11 rfl ?_
    refine xi_iconst (v := 1) dX12_fault_12 (by decide) ?_
    refine xi_icmp_ne (tgt := 23) dX12_fault_13 (by decide) (fun c2 => ?_) (fun c2 => ?_)
    · rw [if_neg c2] at hq
      refine xi_iconst (v := (-1)) dX12_fault_23 (by decide) ?_
      exact xi_iret dX12_fault_24 rfl rfl (Nat.le_of_ble_eq_true rfl) (Nat.le_of_ble_eq_true rfl) ⟨_, rfl, hq, rfl⟩
    · rw [if_pos c2] at hq
      refine xi_aload_n 0 dX12_fault_16 rfl ?_
      refine xi_get (f := 7) dX12_fault_17 (xpg0 hP rfl) rfl ok_9 (by decide) w_1015 rfl ?_
      refine xi_goto (tgt := 24) dX12_fault_20 (by decide) ?_
      exact xi_iret dX12_fault_24 rfl rfl (Nat.le_of_ble_eq_true rfl) (Nat.le_of_ble_eq_true rfl) ⟨_, rfl, hq, rfl⟩
  · rw [if_pos c1] at hq
    refine xi_aload_n 0 dX12_fault_4 rfl ?_
    refine xi_get (f := 6) dX12_fault_5 (xpg0 hP rfl) rfl ok_9 (by decide) w_1014 rfl ?_
    refine xi_goto (tgt := 24) dX12_fault_8 (by decide) ?_
    exact xi_iret dX12_fault_24 rfl rfl (Nat.le_of_ble_eq_true rfl) (Nat.le_of_ble_eq_true rfl) ⟨_, rfl, hq, rfl⟩
def LX12_core_22 (f_state : Nat → Int32) (n1 : Nat) (w2 : Int32) (n3 : Nat) (K : Int32 → Int32) : Nat → Nat → Int32 → Int32
  | 0, _, v4 => K v4
  | k + 1, j, v4 => (if (FX12_has ((nI n3)) ((nI j))) = (0 : Int32) then (LX12_core_22 f_state n1 w2 n3 K k (j + 1) v4) else (LX12_core_22 f_state n1 w2 n3 K k (j + 1) ((if (FX12_ones (((FX12_nearOf f_state n1 j) &&& (nI n3)))) < v4 then (FX12_ones (((FX12_nearOf f_state n1 j) &&& (nI n3)))) else v4))))
def LX12_core_4 (f_state : Nat → Int32) (n1 : Nat) (K : Int32 → Int32) : Nat → Nat → Int32 → Int32
  | 0, _, v2 => K v2
  | k + 1, j, v2 => (LX12_core_22 f_state n1 v2 j (fun u7 => (LX12_core_4 f_state n1 K k (j + 1) ((if v2 < u7 then u7 else v2)))) ((f_state (91 * n1)).toNatClampNeg - 0) 0 ((9 : Int32)))
set_option maxHeartbeats 4000000 in
set_option maxRecDepth 100000 in
theorem LX12_core_22_s (G : xG) {P R : xMem} {L : Nat} (hP : P.length = L) (i_keptMany : Nat) (i_taped : Nat) (i_faultKind : Int32) (i_faultPlace : Int32) (i_spot : Nat) (i_begin : Nat) (i_token : Int32) (i_value : Int32) (i_bad : Int32) (i_full : Nat) (i_bandRows : Int32) (i_bandFirsts : Int32) (i_outs : Nat) (f_state : Nat → Int32) (f_was : Nat → Int32) (f_kept : Nat → Int32) (f_tape : Nat → Int32) (f_order : Nat → Int32) (f_rest : Nat → Int32) (f_ways : Nat → Int32) (f_costs : Nat → Int32) (f_bandBest : Nat → Int32) (f_found : Nat → Int32) (f_drawn : Nat → Int32) (f_joined : Nat → Int32) (f_out : Nat → Int32) (bi_keptMany : i_keptMany ≤ 10) (bi_taped : i_taped ≤ 400) (bi_spot : i_spot ≤ 400) (bi_begin : i_begin ≤ 400) (bi_full : i_full ≤ 511) (bi_outs : i_outs ≤ 400) (hG : GO f_state) (n1 : Nat) (bn1 : n1 < 3) (w2 : Int32) (n3 : Nat) (bn3 : n3 < 512) (Q : Int32 → Prop) (K : Int32 → Int32) (HE : ∀ (v4 : Int32), Q (K v4) → xW G mX12_core (xrm 2 0 0) (xQ G (fun v M2 => ∃ o : Int32, v = some (.int o) ∧ Q o ∧ M2 = (P ++ (MDL L i_keptMany i_taped i_faultKind i_faultPlace i_spot i_begin i_token i_value i_bad i_full i_bandRows i_bandFirsts i_outs f_state f_was f_kept f_tape f_order f_rest f_ways f_costs f_bandBest f_found f_drawn f_joined f_out ++ R))) 0 0) 71 [(0, .ref L), (1, .int (nI n1)), (2, .int w2), (3, .int (nI n3)), (4, .int v4)] [] (P ++ (MDL L i_keptMany i_taped i_faultKind i_faultPlace i_spot i_begin i_token i_value i_bad i_full i_bandRows i_bandFirsts i_outs f_state f_was f_kept f_tape f_order f_rest f_ways f_costs f_bandBest f_found f_drawn f_joined f_out ++ R)) 0 0) :
    ∀ (k j : Nat) (v4 : Int32), (f_state (91 * n1)).toNatClampNeg - j = k → j < 100000 → Q (LX12_core_22 f_state n1 w2 n3 K k j v4) → xW G mX12_core (xrm 2 0 0) (xQ G (fun v M2 => ∃ o : Int32, v = some (.int o) ∧ Q o ∧ M2 = (P ++ (MDL L i_keptMany i_taped i_faultKind i_faultPlace i_spot i_begin i_token i_value i_bad i_full i_bandRows i_bandFirsts i_outs f_state f_was f_kept f_tape f_order f_rest f_ways f_costs f_bandBest f_found f_drawn f_joined f_out ++ R))) 0 0) 22 [(0, .ref L), (1, .int (nI n1)), (2, .int w2), (3, .int (nI n3)), (4, .int v4), (5, .int (nI j))] [] (P ++ (MDL L i_keptMany i_taped i_faultKind i_faultPlace i_spot i_begin i_token i_value i_bad i_full i_bandRows i_bandFirsts i_outs f_state f_was f_kept f_tape f_order f_rest f_ways f_costs f_bandBest f_found f_drawn f_joined f_out ++ R)) 0 0 := by
  intro k
  induction k with
  | zero =>
    intro j v4 hj hj2 hq
    rw [LX12_core_22] at hq
    refine xi_iload 5 dX12_core_22 rfl ?_
    refine xi_aload_n 0 dX12_core_24 rfl ?_
    refine xi_iload_n 1 dX12_core_25 rfl ?_
    refine xi_callV (as := [.int (nI n1)]) (rest := [.int (nI j)]) dX12_core_26 (FX12_points_ok G hP i_keptMany i_taped i_faultKind i_faultPlace i_spot i_begin i_token i_value i_bad i_full i_bandRows i_bandFirsts i_outs f_state f_was f_kept f_tape f_order f_rest f_ways f_costs f_bandBest f_found f_drawn f_joined f_out (by omega) (by omega) (by omega) (by omega) (by omega) (by omega) n1 (by omega) _ rfl (fun r => r = nI ((f_state (91 * n1)).toNatClampNeg)) ((hG n1 (by omega)).1.1)) mkX12_points w_1108 ws_36 w_1106 (xpg0 hP rfl) rfl rfl rfl rfl (Nat.le_of_ble_eq_true rfl) (Nat.le_of_ble_eq_true rfl) (Nat.le_of_ble_eq_true rfl) (Nat.le_of_ble_eq_true rfl) (Nat.le_of_ble_eq_true rfl) ?_
    intro v M2 hz
    obtain ⟨_, rfl, rfl, rfl⟩ := hz
    show xW _ _ _ _ 29 _ [.int (nI ((f_state (91 * n1)).toNatClampNeg)), .int (nI j)] (P ++ (MDL L i_keptMany i_taped i_faultKind i_faultPlace i_spot i_begin i_token i_value i_bad i_full i_bandRows i_bandFirsts i_outs f_state f_was f_kept f_tape f_order f_rest f_ways f_costs f_bandBest f_found f_drawn f_joined f_out ++ R)) _ _
    have o6 := (hG n1 (by omega)).1.2
    refine xi_icmp_ge_t (tgt := 71) dX12_core_29 (by decide) (nI_le (a := (f_state (91 * n1)).toNatClampNeg) (b := j) (by omega) (by omega)) ?_
    refine xi_sub (lv' := [(0, .ref L), (1, .int (nI n1)), (2, .int w2), (3, .int (nI n3)), (4, .int v4)]) [0, 1, 2, 3, 4] rfl ?_
    exact HE v4 hq
  | succ k ih =>
    intro j v4 hj hj2 hq
    rw [LX12_core_22] at hq
    refine xi_iload 5 dX12_core_22 rfl ?_
    refine xi_aload_n 0 dX12_core_24 rfl ?_
    refine xi_iload_n 1 dX12_core_25 rfl ?_
    refine xi_callV (as := [.int (nI n1)]) (rest := [.int (nI j)]) dX12_core_26 (FX12_points_ok G hP i_keptMany i_taped i_faultKind i_faultPlace i_spot i_begin i_token i_value i_bad i_full i_bandRows i_bandFirsts i_outs f_state f_was f_kept f_tape f_order f_rest f_ways f_costs f_bandBest f_found f_drawn f_joined f_out (by omega) (by omega) (by omega) (by omega) (by omega) (by omega) n1 (by omega) _ rfl (fun r => r = nI ((f_state (91 * n1)).toNatClampNeg)) ((hG n1 (by omega)).1.1)) mkX12_points w_1108 ws_36 w_1106 (xpg0 hP rfl) rfl rfl rfl rfl (Nat.le_of_ble_eq_true rfl) (Nat.le_of_ble_eq_true rfl) (Nat.le_of_ble_eq_true rfl) (Nat.le_of_ble_eq_true rfl) (Nat.le_of_ble_eq_true rfl) ?_
    intro v M2 hz
    obtain ⟨_, rfl, rfl, rfl⟩ := hz
    show xW _ _ _ _ 29 _ [.int (nI ((f_state (91 * n1)).toNatClampNeg)), .int (nI j)] (P ++ (MDL L i_keptMany i_taped i_faultKind i_faultPlace i_spot i_begin i_token i_value i_bad i_full i_bandRows i_bandFirsts i_outs f_state f_was f_kept f_tape f_order f_rest f_ways f_costs f_bandBest f_found f_drawn f_joined f_out ++ R)) _ _
    have o4 := (hG n1 (by omega)).1.2
    refine xi_icmp_ge_f (tgt := 71) dX12_core_29 (by decide) (nI_ge (a := j) (b := (f_state (91 * n1)).toNatClampNeg) (by omega) (by omega)) ?_
    refine xi_iload_n 3 dX12_core_32 rfl ?_
    refine xi_iload 5 dX12_core_33 rfl ?_
    refine xi_callS (as := [.int (nI n3), .int (nI j)]) (rest := []) dX12_core_35 (FX12_has_ok G ((nI n3)) ((nI j)) (fun r => r = FX12_has ((nI n3)) ((nI j))) rfl) mkX12_has w_1207 w_1206 rfl rfl (Nat.le_of_ble_eq_true rfl) (Nat.le_of_ble_eq_true rfl) (Nat.le_of_ble_eq_true rfl) (Nat.le_of_ble_eq_true rfl) (Nat.le_of_ble_eq_true rfl) ?_
    intro v M2 hz
    obtain ⟨_, rfl, rfl, hM2⟩ := hz
    rw [hM2]
    show xW _ _ _ _ 38 _ [.int (FX12_has ((nI n3)) ((nI j)))] (P ++ (MDL L i_keptMany i_taped i_faultKind i_faultPlace i_spot i_begin i_token i_value i_bad i_full i_bandRows i_bandFirsts i_outs f_state f_was f_kept f_tape f_order f_rest f_ways f_costs f_bandBest f_found f_drawn f_joined f_out ++ R)) _ _
    refine xi_if_eq (tgt := 61) dX12_core_38 (by decide) (fun c5 => ?_) (fun c5 => ?_)
    · rw [if_pos c5] at hq
      refine xi_iload 4 dX12_core_61 rfl ?_
      refine xi_istore (lv' := [(4, .int v4), (0, .ref L), (1, .int (nI n1)), (2, .int w2), (3, .int (nI n3)), (5, .int (nI j))]) dX12_core_63 (by decide) rfl ?_
      refine xi_iinc (v := (nI (j + 1))) (lv' := [(5, .int (nI (j + 1))), (4, .int v4), (0, .ref L), (1, .int (nI n1)), (2, .int w2), (3, .int (nI n3))]) 5 dX12_core_65 rfl (nI_1 _) (by decide) rfl ?_
      refine xi_goto (tgt := 22) dX12_core_68 (by decide) ?_
      refine xi_sub (lv' := [(0, .ref L), (1, .int (nI n1)), (2, .int w2), (3, .int (nI n3)), (4, .int v4), (5, .int (nI (j + 1)))]) [2, 3, 4, 5, 1, 0] rfl ?_
      exact ih (j + 1) v4 (by omega) (by omega) hq
    · rw [if_neg c5] at hq
      refine xi_iload 4 dX12_core_41 rfl ?_
      refine xi_aload_n 0 dX12_core_43 rfl ?_
      refine xi_iload_n 1 dX12_core_44 rfl ?_
      refine xi_iload 5 dX12_core_45 rfl ?_
      refine xi_callV (as := [.int (nI n1), .int (nI j)]) (rest := [.int v4]) dX12_core_47 (FX12_nearOf_ok G hP i_keptMany i_taped i_faultKind i_faultPlace i_spot i_begin i_token i_value i_bad i_full i_bandRows i_bandFirsts i_outs f_state f_was f_kept f_tape f_order f_rest f_ways f_costs f_bandBest f_found f_drawn f_joined f_out (by omega) (by omega) (by omega) (by omega) (by omega) (by omega) hG n1 (by omega) j (by omega) _ rfl (fun r => r = FX12_nearOf f_state n1 j) rfl) mkX12_nearOf w_1188 ws_52 w_1186 (xpg0 hP rfl) rfl rfl rfl rfl (Nat.le_of_ble_eq_true rfl) (Nat.le_of_ble_eq_true rfl) (Nat.le_of_ble_eq_true rfl) (Nat.le_of_ble_eq_true rfl) (Nat.le_of_ble_eq_true rfl) ?_
      intro v M2 hz
      obtain ⟨_, rfl, rfl, rfl⟩ := hz
      show xW _ _ _ _ 50 _ [.int (FX12_nearOf f_state n1 j), .int v4] (P ++ (MDL L i_keptMany i_taped i_faultKind i_faultPlace i_spot i_begin i_token i_value i_bad i_full i_bandRows i_bandFirsts i_outs f_state f_was f_kept f_tape f_order f_rest f_ways f_costs f_bandBest f_found f_drawn f_joined f_out ++ R)) _ _
      refine xi_iload_n 3 dX12_core_50 rfl ?_
      refine xi_iand (v := ((FX12_nearOf f_state n1 j) &&& (nI n3))) dX12_core_51 rfl ?_
      refine xi_callS (as := [.int ((FX12_nearOf f_state n1 j) &&& (nI n3))]) (rest := [.int v4]) dX12_core_52 (FX12_ones_ok G (((FX12_nearOf f_state n1 j) &&& (nI n3))) (fun r => r = FX12_ones (((FX12_nearOf f_state n1 j) &&& (nI n3)))) rfl) mkX12_ones w_1195 w_1194 rfl rfl (Nat.le_of_ble_eq_true rfl) (Nat.le_of_ble_eq_true rfl) (Nat.le_of_ble_eq_true rfl) (Nat.le_of_ble_eq_true rfl) (Nat.le_of_ble_eq_true rfl) ?_
      intro v M2 hz
      obtain ⟨_, rfl, rfl, hM2⟩ := hz
      rw [hM2]
      show xW _ _ _ _ 55 _ [.int (FX12_ones (((FX12_nearOf f_state n1 j) &&& (nI n3)))), .int v4] (P ++ (MDL L i_keptMany i_taped i_faultKind i_faultPlace i_spot i_begin i_token i_value i_bad i_full i_bandRows i_bandFirsts i_outs f_state f_was f_kept f_tape f_order f_rest f_ways f_costs f_bandBest f_found f_drawn f_joined f_out ++ R)) _ _
      refine xi_min (v := (if (FX12_ones (((FX12_nearOf f_state n1 j) &&& (nI n3)))) < v4 then (FX12_ones (((FX12_nearOf f_state n1 j) &&& (nI n3)))) else v4)) dX12_core_55 w_1142 w_385 w_3 w_mmin (Nat.le_of_ble_eq_true rfl) (Nat.le_of_ble_eq_true rfl) (Nat.le_of_ble_eq_true rfl) (Nat.le_of_ble_eq_true rfl) (Nat.le_of_ble_eq_true rfl) rfl ?_
      refine xi_goto (tgt := 63) dX12_core_58 (by decide) ?_
      refine xi_istore (lv' := [(4, .int (if (FX12_ones (((FX12_nearOf f_state n1 j) &&& (nI n3)))) < v4 then (FX12_ones (((FX12_nearOf f_state n1 j) &&& (nI n3)))) else v4)), (0, .ref L), (1, .int (nI n1)), (2, .int w2), (3, .int (nI n3)), (5, .int (nI j))]) dX12_core_63 (by decide) rfl ?_
      refine xi_iinc (v := (nI (j + 1))) (lv' := [(5, .int (nI (j + 1))), (4, .int (if (FX12_ones (((FX12_nearOf f_state n1 j) &&& (nI n3)))) < v4 then (FX12_ones (((FX12_nearOf f_state n1 j) &&& (nI n3)))) else v4)), (0, .ref L), (1, .int (nI n1)), (2, .int w2), (3, .int (nI n3))]) 5 dX12_core_65 rfl (nI_1 _) (by decide) rfl ?_
      refine xi_goto (tgt := 22) dX12_core_68 (by decide) ?_
      refine xi_sub (lv' := [(0, .ref L), (1, .int (nI n1)), (2, .int w2), (3, .int (nI n3)), (4, .int (if (FX12_ones (((FX12_nearOf f_state n1 j) &&& (nI n3)))) < v4 then (FX12_ones (((FX12_nearOf f_state n1 j) &&& (nI n3)))) else v4)), (5, .int (nI (j + 1)))]) [2, 3, 4, 5, 1, 0] rfl ?_
      exact ih (j + 1) ((if (FX12_ones (((FX12_nearOf f_state n1 j) &&& (nI n3)))) < v4 then (FX12_ones (((FX12_nearOf f_state n1 j) &&& (nI n3)))) else v4)) (by omega) (by omega) hq
set_option maxHeartbeats 4000000 in
set_option maxRecDepth 100000 in
theorem LX12_core_4_s (G : xG) {P R : xMem} {L : Nat} (hP : P.length = L) (i_keptMany : Nat) (i_taped : Nat) (i_faultKind : Int32) (i_faultPlace : Int32) (i_spot : Nat) (i_begin : Nat) (i_token : Int32) (i_value : Int32) (i_bad : Int32) (i_full : Nat) (i_bandRows : Int32) (i_bandFirsts : Int32) (i_outs : Nat) (f_state : Nat → Int32) (f_was : Nat → Int32) (f_kept : Nat → Int32) (f_tape : Nat → Int32) (f_order : Nat → Int32) (f_rest : Nat → Int32) (f_ways : Nat → Int32) (f_costs : Nat → Int32) (f_bandBest : Nat → Int32) (f_found : Nat → Int32) (f_drawn : Nat → Int32) (f_joined : Nat → Int32) (f_out : Nat → Int32) (bi_keptMany : i_keptMany ≤ 10) (bi_taped : i_taped ≤ 400) (bi_spot : i_spot ≤ 400) (bi_begin : i_begin ≤ 400) (bi_full : i_full ≤ 511) (bi_outs : i_outs ≤ 400) (hG : GO f_state) (n1 : Nat) (bn1 : n1 < 3) (Q : Int32 → Prop) (K : Int32 → Int32) (HE : ∀ (v2 : Int32), Q (K v2) → xW G mX12_core (xrm 2 0 0) (xQ G (fun v M2 => ∃ o : Int32, v = some (.int o) ∧ Q o ∧ M2 = (P ++ (MDL L i_keptMany i_taped i_faultKind i_faultPlace i_spot i_begin i_token i_value i_bad i_full i_bandRows i_bandFirsts i_outs f_state f_was f_kept f_tape f_order f_rest f_ways f_costs f_bandBest f_found f_drawn f_joined f_out ++ R))) 0 0) 84 [(2, .int v2)] [] (P ++ (MDL L i_keptMany i_taped i_faultKind i_faultPlace i_spot i_begin i_token i_value i_bad i_full i_bandRows i_bandFirsts i_outs f_state f_was f_kept f_tape f_order f_rest f_ways f_costs f_bandBest f_found f_drawn f_joined f_out ++ R)) 0 0) :
    ∀ (k j : Nat) (v2 : Int32), 2 ^ (f_state (91 * n1)).toNatClampNeg - j = k → j < 100000 → Q (LX12_core_4 f_state n1 K k j v2) → xW G mX12_core (xrm 2 0 0) (xQ G (fun v M2 => ∃ o : Int32, v = some (.int o) ∧ Q o ∧ M2 = (P ++ (MDL L i_keptMany i_taped i_faultKind i_faultPlace i_spot i_begin i_token i_value i_bad i_full i_bandRows i_bandFirsts i_outs f_state f_was f_kept f_tape f_order f_rest f_ways f_costs f_bandBest f_found f_drawn f_joined f_out ++ R))) 0 0) 4 [(0, .ref L), (1, .int (nI n1)), (2, .int v2), (3, .int (nI j))] [] (P ++ (MDL L i_keptMany i_taped i_faultKind i_faultPlace i_spot i_begin i_token i_value i_bad i_full i_bandRows i_bandFirsts i_outs f_state f_was f_kept f_tape f_order f_rest f_ways f_costs f_bandBest f_found f_drawn f_joined f_out ++ R)) 0 0 := by
  intro k
  induction k with
  | zero =>
    intro j v2 hj hj2 hq
    rw [LX12_core_4] at hq
    refine xi_iload_n 3 dX12_core_4 rfl ?_
    refine xi_iconst (v := 1) dX12_core_5 (by decide) ?_
    refine xi_aload_n 0 dX12_core_6 rfl ?_
    refine xi_iload_n 1 dX12_core_7 rfl ?_
    refine xi_callV (as := [.int (nI n1)]) (rest := [.int 1, .int (nI j)]) dX12_core_8 (FX12_points_ok G hP i_keptMany i_taped i_faultKind i_faultPlace i_spot i_begin i_token i_value i_bad i_full i_bandRows i_bandFirsts i_outs f_state f_was f_kept f_tape f_order f_rest f_ways f_costs f_bandBest f_found f_drawn f_joined f_out (by omega) (by omega) (by omega) (by omega) (by omega) (by omega) n1 (by omega) _ rfl (fun r => r = nI ((f_state (91 * n1)).toNatClampNeg)) ((hG n1 (by omega)).1.1)) mkX12_points w_1108 ws_36 w_1106 (xpg0 hP rfl) rfl rfl rfl rfl (Nat.le_of_ble_eq_true rfl) (Nat.le_of_ble_eq_true rfl) (Nat.le_of_ble_eq_true rfl) (Nat.le_of_ble_eq_true rfl) (Nat.le_of_ble_eq_true rfl) ?_
    intro v M2 hz
    obtain ⟨_, rfl, rfl, rfl⟩ := hz
    show xW _ _ _ _ 11 _ [.int (nI ((f_state (91 * n1)).toNatClampNeg)), .int 1, .int (nI j)] (P ++ (MDL L i_keptMany i_taped i_faultKind i_faultPlace i_spot i_begin i_token i_value i_bad i_full i_bandRows i_bandFirsts i_outs f_state f_was f_kept f_tape f_order f_rest f_ways f_costs f_bandBest f_found f_drawn f_joined f_out ++ R)) _ _
    have o8 := (hG n1 (by omega)).1.2
    have o9 := pow_le (n := ((f_state (91 * n1)).toNatClampNeg)) (by omega)
    have o10 := pow_pos (n := ((f_state (91 * n1)).toNatClampNeg))
    refine xi_ishl (v := (nI (2 ^ ((f_state (91 * n1)).toNatClampNeg)))) dX12_core_11 (pow_nI (by omega)) ?_
    refine xi_icmp_ge_t (tgt := 84) dX12_core_12 (by decide) (nI_le (a := 2 ^ (f_state (91 * n1)).toNatClampNeg) (b := j) (by omega) (by omega)) ?_
    refine xi_sub (lv' := [(2, .int v2)]) [2] rfl ?_
    exact HE v2 hq
  | succ k ih =>
    intro j v2 hj hj2 hq
    rw [LX12_core_4] at hq
    refine xi_iload_n 3 dX12_core_4 rfl ?_
    refine xi_iconst (v := 1) dX12_core_5 (by decide) ?_
    refine xi_aload_n 0 dX12_core_6 rfl ?_
    refine xi_iload_n 1 dX12_core_7 rfl ?_
    refine xi_callV (as := [.int (nI n1)]) (rest := [.int 1, .int (nI j)]) dX12_core_8 (FX12_points_ok G hP i_keptMany i_taped i_faultKind i_faultPlace i_spot i_begin i_token i_value i_bad i_full i_bandRows i_bandFirsts i_outs f_state f_was f_kept f_tape f_order f_rest f_ways f_costs f_bandBest f_found f_drawn f_joined f_out (by omega) (by omega) (by omega) (by omega) (by omega) (by omega) n1 (by omega) _ rfl (fun r => r = nI ((f_state (91 * n1)).toNatClampNeg)) ((hG n1 (by omega)).1.1)) mkX12_points w_1108 ws_36 w_1106 (xpg0 hP rfl) rfl rfl rfl rfl (Nat.le_of_ble_eq_true rfl) (Nat.le_of_ble_eq_true rfl) (Nat.le_of_ble_eq_true rfl) (Nat.le_of_ble_eq_true rfl) (Nat.le_of_ble_eq_true rfl) ?_
    intro v M2 hz
    obtain ⟨_, rfl, rfl, rfl⟩ := hz
    show xW _ _ _ _ 11 _ [.int (nI ((f_state (91 * n1)).toNatClampNeg)), .int 1, .int (nI j)] (P ++ (MDL L i_keptMany i_taped i_faultKind i_faultPlace i_spot i_begin i_token i_value i_bad i_full i_bandRows i_bandFirsts i_outs f_state f_was f_kept f_tape f_order f_rest f_ways f_costs f_bandBest f_found f_drawn f_joined f_out ++ R)) _ _
    have o1 := (hG n1 (by omega)).1.2
    have o2 := pow_le (n := ((f_state (91 * n1)).toNatClampNeg)) (by omega)
    have o3 := pow_pos (n := ((f_state (91 * n1)).toNatClampNeg))
    refine xi_ishl (v := (nI (2 ^ ((f_state (91 * n1)).toNatClampNeg)))) dX12_core_11 (pow_nI (by omega)) ?_
    refine xi_icmp_ge_f (tgt := 84) dX12_core_12 (by decide) (nI_ge (a := j) (b := 2 ^ (f_state (91 * n1)).toNatClampNeg) (by omega) (by omega)) ?_
    refine xi_bipush (v := 9) dX12_core_15 (by decide) ?_
    refine xi_istore (lv' := [(4, .int 9), (0, .ref L), (1, .int (nI n1)), (2, .int v2), (3, .int (nI j))]) dX12_core_17 (by decide) rfl ?_
    refine xi_iconst (v := 0) dX12_core_19 (by decide) ?_
    refine xi_istore (lv' := [(5, .int 0), (4, .int 9), (0, .ref L), (1, .int (nI n1)), (2, .int v2), (3, .int (nI j))]) dX12_core_20 (by decide) rfl ?_
    refine xi_sub (lv' := [(0, .ref L), (1, .int (nI n1)), (2, .int v2), (3, .int (nI j)), (4, .int 9), (5, .int 0)]) [2, 3, 4, 5, 1, 0] rfl ?_
    refine LX12_core_22_s G hP i_keptMany i_taped i_faultKind i_faultPlace i_spot i_begin i_token i_value i_bad i_full i_bandRows i_bandFirsts i_outs f_state f_was f_kept f_tape f_order f_rest f_ways f_costs f_bandBest f_found f_drawn f_joined f_out (by omega) (by omega) (by omega) (by omega) (by omega) (by omega) hG n1 (by omega) v2 j (by omega) Q _ (fun u7 hq => ?_) ((f_state (91 * n1)).toNatClampNeg - 0) 0 ((9 : Int32)) rfl (by omega) hq
    refine xi_iload_n 2 dX12_core_71 rfl ?_
    refine xi_iload 4 dX12_core_72 rfl ?_
    refine xi_max (v := (if v2 < u7 then u7 else v2)) dX12_core_74 w_1234 w_37 w_3 w_mmax (Nat.le_of_ble_eq_true rfl) (Nat.le_of_ble_eq_true rfl) (Nat.le_of_ble_eq_true rfl) (Nat.le_of_ble_eq_true rfl) (Nat.le_of_ble_eq_true rfl) rfl ?_
    refine xi_istore_n (lv' := [(2, .int (if v2 < u7 then u7 else v2)), (0, .ref L), (1, .int (nI n1)), (3, .int (nI j)), (4, .int u7)]) dX12_core_77 (by decide) rfl ?_
    refine xi_iinc (v := (nI (j + 1))) (lv' := [(3, .int (nI (j + 1))), (2, .int (if v2 < u7 then u7 else v2)), (0, .ref L), (1, .int (nI n1)), (4, .int u7)]) 3 dX12_core_78 rfl (nI_1 _) (by decide) rfl ?_
    refine xi_goto (tgt := 4) dX12_core_81 (by decide) ?_
    refine xi_sub (lv' := [(0, .ref L), (1, .int (nI n1)), (2, .int (if v2 < u7 then u7 else v2)), (3, .int (nI (j + 1)))]) [2, 3, 1, 0] rfl ?_
    exact ih (j + 1) ((if v2 < u7 then u7 else v2)) (by omega) (by omega) hq
def FX12_core (f_state : Nat → Int32) (z : Nat) : Int32 := (LX12_core_4 f_state z (fun u11 => u11) ((2 ^ (f_state (91 * z)).toNatClampNeg) - 1) 1 ((0 : Int32)))
set_option maxHeartbeats 4000000 in
set_option maxRecDepth 100000 in
theorem FX12_core_ok (G : xG) {P R : xMem} {L : Nat} (hP : P.length = L) (i_keptMany : Nat) (i_taped : Nat) (i_faultKind : Int32) (i_faultPlace : Int32) (i_spot : Nat) (i_begin : Nat) (i_token : Int32) (i_value : Int32) (i_bad : Int32) (i_full : Nat) (i_bandRows : Int32) (i_bandFirsts : Int32) (i_outs : Nat) (f_state : Nat → Int32) (f_was : Nat → Int32) (f_kept : Nat → Int32) (f_tape : Nat → Int32) (f_order : Nat → Int32) (f_rest : Nat → Int32) (f_ways : Nat → Int32) (f_costs : Nat → Int32) (f_bandBest : Nat → Int32) (f_found : Nat → Int32) (f_drawn : Nat → Int32) (f_joined : Nat → Int32) (f_out : Nat → Int32) (bi_keptMany : i_keptMany ≤ 10) (bi_taped : i_taped ≤ 400) (bi_spot : i_spot ≤ 400) (bi_begin : i_begin ≤ 400) (bi_full : i_full ≤ 511) (bi_outs : i_outs ≤ 400) (hG : GO f_state) (z : Nat) (bz : z < 3) (M : xMem) (hM : M = (P ++ (MDL L i_keptMany i_taped i_faultKind i_faultPlace i_spot i_begin i_token i_value i_bad i_full i_bandRows i_bandFirsts i_outs f_state f_was f_kept f_tape f_order f_rest f_ways f_costs f_bandBest f_found f_drawn f_joined f_out ++ R))) (Q : Int32 → Prop) (hq : Q (FX12_core f_state z)) : xC G mX12_core 2 0 0 [.ref L, .int (nI z)] M (fun v M2 => ∃ o : Int32, v = some (.int o) ∧ Q o ∧ M2 = (P ++ (MDL L i_keptMany i_taped i_faultKind i_faultPlace i_spot i_begin i_token i_value i_bad i_full i_bandRows i_bandFirsts i_outs f_state f_was f_kept f_tape f_order f_rest f_ways f_costs f_bandBest f_found f_drawn f_joined f_out ++ R))) := by
  subst hM
  unfold FX12_core at hq
  refine xC.of (by decide) (Nat.le_of_ble_eq_true rfl) ?_
  show xW _ _ _ _ 0 [(0, .ref L), (1, .int (nI z))] [] _ 0 0
  refine xi_iconst (v := 0) dX12_core_0 (by decide) ?_
  refine xi_istore_n (lv' := [(2, .int 0), (0, .ref L), (1, .int (nI z))]) dX12_core_1 (by decide) rfl ?_
  refine xi_iconst (v := 1) dX12_core_2 (by decide) ?_
  refine xi_istore_n (lv' := [(3, .int 1), (2, .int 0), (0, .ref L), (1, .int (nI z))]) dX12_core_3 (by decide) rfl ?_
  refine xi_sub (lv' := [(0, .ref L), (1, .int (nI z)), (2, .int 0), (3, .int 1)]) [2, 3, 1, 0] rfl ?_
  refine LX12_core_4_s G hP i_keptMany i_taped i_faultKind i_faultPlace i_spot i_begin i_token i_value i_bad i_full i_bandRows i_bandFirsts i_outs f_state f_was f_kept f_tape f_order f_rest f_ways f_costs f_bandBest f_found f_drawn f_joined f_out (by omega) (by omega) (by omega) (by omega) (by omega) (by omega) hG z (by omega) Q _ (fun u11 hq => ?_) ((2 ^ (f_state (91 * z)).toNatClampNeg) - 1) 1 ((0 : Int32)) rfl (by omega) hq
  refine xi_iload_n 0 dX12_core_84 rfl ?_
  exact xi_iret dX12_core_85 rfl rfl (Nat.le_of_ble_eq_true rfl) (Nat.le_of_ble_eq_true rfl) ⟨_, rfl, hq, rfl⟩
def LX12_look_28 (f_state : Nat → Int32) (n1 : Nat) (w2 : Int32) (K : Int32 → Int32) : Nat → Nat → Int32 → Int32
  | 0, _, v3 => K v3
  | k + 1, j, v3 => (LX12_look_28 f_state n1 w2 K k (j + 1) ((v3 + (FX12_weightOf f_state n1 j))))
set_option maxHeartbeats 4000000 in
set_option maxRecDepth 100000 in
theorem LX12_look_28_s (G : xG) {P R : xMem} {L : Nat} (hP : P.length = L) (i_keptMany : Nat) (i_taped : Nat) (i_faultKind : Int32) (i_faultPlace : Int32) (i_spot : Nat) (i_begin : Nat) (i_token : Int32) (i_value : Int32) (i_bad : Int32) (i_full : Nat) (i_bandRows : Int32) (i_bandFirsts : Int32) (i_outs : Nat) (f_state : Nat → Int32) (f_was : Nat → Int32) (f_kept : Nat → Int32) (f_tape : Nat → Int32) (f_order : Nat → Int32) (f_rest : Nat → Int32) (f_ways : Nat → Int32) (f_costs : Nat → Int32) (f_bandBest : Nat → Int32) (f_found : Nat → Int32) (f_drawn : Nat → Int32) (f_joined : Nat → Int32) (f_out : Nat → Int32) (bi_keptMany : i_keptMany ≤ 10) (bi_taped : i_taped ≤ 400) (bi_spot : i_spot ≤ 400) (bi_begin : i_begin ≤ 400) (bi_full : i_full ≤ 511) (bi_outs : i_outs ≤ 400) (hG : GO f_state) (n1 : Nat) (bn1 : n1 < 3) (w2 : Int32) (Q : Int32 → Prop) (K : Int32 → Int32) (HE : ∀ (v3 : Int32), Q (K v3) → xW G mX12_look (xrm 4 0 0) (xQ G (fun v M2 => ∃ o : Int32, v = some (.int o) ∧ Q o ∧ M2 = (P ++ (MDL L i_keptMany i_taped i_faultKind i_faultPlace i_spot i_begin i_token i_value i_bad i_full i_bandRows i_bandFirsts i_outs f_state f_was f_kept f_tape f_order f_rest f_ways f_costs f_bandBest f_found f_drawn f_joined f_out ++ R))) 0 0) 54 [(0, .ref L), (1, .int (nI n1)), (2, .int w2), (3, .int v3)] [] (P ++ (MDL L i_keptMany i_taped i_faultKind i_faultPlace i_spot i_begin i_token i_value i_bad i_full i_bandRows i_bandFirsts i_outs f_state f_was f_kept f_tape f_order f_rest f_ways f_costs f_bandBest f_found f_drawn f_joined f_out ++ R)) 0 0) :
    ∀ (k j : Nat) (v3 : Int32), (f_state (91 * n1)).toNatClampNeg - j = k → j < 100000 → Q (LX12_look_28 f_state n1 w2 K k j v3) → xW G mX12_look (xrm 4 0 0) (xQ G (fun v M2 => ∃ o : Int32, v = some (.int o) ∧ Q o ∧ M2 = (P ++ (MDL L i_keptMany i_taped i_faultKind i_faultPlace i_spot i_begin i_token i_value i_bad i_full i_bandRows i_bandFirsts i_outs f_state f_was f_kept f_tape f_order f_rest f_ways f_costs f_bandBest f_found f_drawn f_joined f_out ++ R))) 0 0) 28 [(0, .ref L), (1, .int (nI n1)), (2, .int w2), (3, .int v3), (4, .int (nI j))] [] (P ++ (MDL L i_keptMany i_taped i_faultKind i_faultPlace i_spot i_begin i_token i_value i_bad i_full i_bandRows i_bandFirsts i_outs f_state f_was f_kept f_tape f_order f_rest f_ways f_costs f_bandBest f_found f_drawn f_joined f_out ++ R)) 0 0 := by
  intro k
  induction k with
  | zero =>
    intro j v3 hj hj2 hq
    rw [LX12_look_28] at hq
    refine xi_iload 4 dX12_look_28 rfl ?_
    refine xi_aload_n 0 dX12_look_30 rfl ?_
    refine xi_iload_n 1 dX12_look_31 rfl ?_
    refine xi_callV (as := [.int (nI n1)]) (rest := [.int (nI j)]) dX12_look_32 (FX12_points_ok G hP i_keptMany i_taped i_faultKind i_faultPlace i_spot i_begin i_token i_value i_bad i_full i_bandRows i_bandFirsts i_outs f_state f_was f_kept f_tape f_order f_rest f_ways f_costs f_bandBest f_found f_drawn f_joined f_out (by omega) (by omega) (by omega) (by omega) (by omega) (by omega) n1 (by omega) _ rfl (fun r => r = nI ((f_state (91 * n1)).toNatClampNeg)) ((hG n1 (by omega)).1.1)) mkX12_points w_1108 ws_36 w_1106 (xpg0 hP rfl) rfl rfl rfl rfl (Nat.le_of_ble_eq_true rfl) (Nat.le_of_ble_eq_true rfl) (Nat.le_of_ble_eq_true rfl) (Nat.le_of_ble_eq_true rfl) (Nat.le_of_ble_eq_true rfl) ?_
    intro v M2 hz
    obtain ⟨_, rfl, rfl, rfl⟩ := hz
    show xW _ _ _ _ 35 _ [.int (nI ((f_state (91 * n1)).toNatClampNeg)), .int (nI j)] (P ++ (MDL L i_keptMany i_taped i_faultKind i_faultPlace i_spot i_begin i_token i_value i_bad i_full i_bandRows i_bandFirsts i_outs f_state f_was f_kept f_tape f_order f_rest f_ways f_costs f_bandBest f_found f_drawn f_joined f_out ++ R)) _ _
    have o5 := (hG n1 (by omega)).1.2
    refine xi_icmp_ge_t (tgt := 54) dX12_look_35 (by decide) (nI_le (a := (f_state (91 * n1)).toNatClampNeg) (b := j) (by omega) (by omega)) ?_
    refine xi_sub (lv' := [(0, .ref L), (1, .int (nI n1)), (2, .int w2), (3, .int v3)]) [0, 1, 2, 3] rfl ?_
    exact HE v3 hq
  | succ k ih =>
    intro j v3 hj hj2 hq
    rw [LX12_look_28] at hq
    refine xi_iload 4 dX12_look_28 rfl ?_
    refine xi_aload_n 0 dX12_look_30 rfl ?_
    refine xi_iload_n 1 dX12_look_31 rfl ?_
    refine xi_callV (as := [.int (nI n1)]) (rest := [.int (nI j)]) dX12_look_32 (FX12_points_ok G hP i_keptMany i_taped i_faultKind i_faultPlace i_spot i_begin i_token i_value i_bad i_full i_bandRows i_bandFirsts i_outs f_state f_was f_kept f_tape f_order f_rest f_ways f_costs f_bandBest f_found f_drawn f_joined f_out (by omega) (by omega) (by omega) (by omega) (by omega) (by omega) n1 (by omega) _ rfl (fun r => r = nI ((f_state (91 * n1)).toNatClampNeg)) ((hG n1 (by omega)).1.1)) mkX12_points w_1108 ws_36 w_1106 (xpg0 hP rfl) rfl rfl rfl rfl (Nat.le_of_ble_eq_true rfl) (Nat.le_of_ble_eq_true rfl) (Nat.le_of_ble_eq_true rfl) (Nat.le_of_ble_eq_true rfl) (Nat.le_of_ble_eq_true rfl) ?_
    intro v M2 hz
    obtain ⟨_, rfl, rfl, rfl⟩ := hz
    show xW _ _ _ _ 35 _ [.int (nI ((f_state (91 * n1)).toNatClampNeg)), .int (nI j)] (P ++ (MDL L i_keptMany i_taped i_faultKind i_faultPlace i_spot i_begin i_token i_value i_bad i_full i_bandRows i_bandFirsts i_outs f_state f_was f_kept f_tape f_order f_rest f_ways f_costs f_bandBest f_found f_drawn f_joined f_out ++ R)) _ _
    have o4 := (hG n1 (by omega)).1.2
    refine xi_icmp_ge_f (tgt := 54) dX12_look_35 (by decide) (nI_ge (a := j) (b := (f_state (91 * n1)).toNatClampNeg) (by omega) (by omega)) ?_
    refine xi_iload_n 3 dX12_look_38 rfl ?_
    refine xi_aload_n 0 dX12_look_39 rfl ?_
    refine xi_iload_n 1 dX12_look_40 rfl ?_
    refine xi_iload 4 dX12_look_41 rfl ?_
    refine xi_callV (as := [.int (nI n1), .int (nI j)]) (rest := [.int v3]) dX12_look_43 (FX12_weightOf_ok G hP i_keptMany i_taped i_faultKind i_faultPlace i_spot i_begin i_token i_value i_bad i_full i_bandRows i_bandFirsts i_outs f_state f_was f_kept f_tape f_order f_rest f_ways f_costs f_bandBest f_found f_drawn f_joined f_out (by omega) (by omega) (by omega) (by omega) (by omega) (by omega) hG n1 (by omega) j (by omega) _ rfl (fun r => r = FX12_weightOf f_state n1 j) rfl) mkX12_weightOf w_1228 ws_57 w_1226 (xpg0 hP rfl) rfl rfl rfl rfl (Nat.le_of_ble_eq_true rfl) (Nat.le_of_ble_eq_true rfl) (Nat.le_of_ble_eq_true rfl) (Nat.le_of_ble_eq_true rfl) (Nat.le_of_ble_eq_true rfl) ?_
    intro v M2 hz
    obtain ⟨_, rfl, rfl, rfl⟩ := hz
    show xW _ _ _ _ 46 _ [.int (FX12_weightOf f_state n1 j), .int v3] (P ++ (MDL L i_keptMany i_taped i_faultKind i_faultPlace i_spot i_begin i_token i_value i_bad i_full i_bandRows i_bandFirsts i_outs f_state f_was f_kept f_tape f_order f_rest f_ways f_costs f_bandBest f_found f_drawn f_joined f_out ++ R)) _ _
    refine xi_iadd (v := (v3 + (FX12_weightOf f_state n1 j))) dX12_look_46 rfl ?_
    refine xi_istore_n (lv' := [(3, .int (v3 + (FX12_weightOf f_state n1 j))), (0, .ref L), (1, .int (nI n1)), (2, .int w2), (4, .int (nI j))]) dX12_look_47 (by decide) rfl ?_
    refine xi_iinc (v := (nI (j + 1))) (lv' := [(4, .int (nI (j + 1))), (3, .int (v3 + (FX12_weightOf f_state n1 j))), (0, .ref L), (1, .int (nI n1)), (2, .int w2)]) 4 dX12_look_48 rfl (nI_1 _) (by decide) rfl ?_
    refine xi_goto (tgt := 28) dX12_look_51 (by decide) ?_
    refine xi_sub (lv' := [(0, .ref L), (1, .int (nI n1)), (2, .int w2), (3, .int (v3 + (FX12_weightOf f_state n1 j))), (4, .int (nI (j + 1)))]) [2, 3, 4, 1, 0] rfl ?_
    exact ih (j + 1) ((v3 + (FX12_weightOf f_state n1 j))) (by omega) (by omega) hq
def FX12_look (f_state : Nat → Int32) (x : Int32) (y : Int32) : Int32 := (if (FX12_isNet f_state x) = (0 : Int32) then (-2 : Int32) else (if (FX12_in y.toInt64 ((0 : Int64)) ((6 : Int64))) = (0 : Int32) then (-2 : Int32) else (LX12_look_28 f_state x.toNatClampNeg y (fun u6 => (if y = 0 then (nI ((f_state (91 * x.toNatClampNeg)).toNatClampNeg)) else (if y = 1 then (FX12_lines f_state x.toNatClampNeg) else (if y = 2 then (u6 / (2 : Int32)) else (if y = 3 then (FX12_degree f_state x.toNatClampNeg) else (if y = 4 then (FX12_parts f_state x.toNatClampNeg) else (if y = 5 then (FX12_diameter f_state x.toNatClampNeg) else (FX12_core f_state x.toNatClampNeg)))))))) ((f_state (91 * x.toNatClampNeg)).toNatClampNeg - 0) 0 ((0 : Int32)))))
set_option maxHeartbeats 4000000 in
set_option maxRecDepth 100000 in
theorem FX12_look_ok (G : xG) {P R : xMem} {L : Nat} (hP : P.length = L) (i_keptMany : Nat) (i_taped : Nat) (i_faultKind : Int32) (i_faultPlace : Int32) (i_spot : Nat) (i_begin : Nat) (i_token : Int32) (i_value : Int32) (i_bad : Int32) (i_full : Nat) (i_bandRows : Int32) (i_bandFirsts : Int32) (i_outs : Nat) (f_state : Nat → Int32) (f_was : Nat → Int32) (f_kept : Nat → Int32) (f_tape : Nat → Int32) (f_order : Nat → Int32) (f_rest : Nat → Int32) (f_ways : Nat → Int32) (f_costs : Nat → Int32) (f_bandBest : Nat → Int32) (f_found : Nat → Int32) (f_drawn : Nat → Int32) (f_joined : Nat → Int32) (f_out : Nat → Int32) (bi_keptMany : i_keptMany ≤ 10) (bi_taped : i_taped ≤ 400) (bi_spot : i_spot ≤ 400) (bi_begin : i_begin ≤ 400) (bi_full : i_full ≤ 511) (bi_outs : i_outs ≤ 400) (hG : GO f_state) (x : Int32) (y : Int32) (M : xMem) (hM : M = (P ++ (MDL L i_keptMany i_taped i_faultKind i_faultPlace i_spot i_begin i_token i_value i_bad i_full i_bandRows i_bandFirsts i_outs f_state f_was f_kept f_tape f_order f_rest f_ways f_costs f_bandBest f_found f_drawn f_joined f_out ++ R))) (Q : Int32 → Prop) (hq : Q (FX12_look f_state x y)) : xC G mX12_look 4 0 0 [.ref L, .int x, .int y] M (fun v M2 => ∃ o : Int32, v = some (.int o) ∧ Q o ∧ M2 = (P ++ (MDL L i_keptMany i_taped i_faultKind i_faultPlace i_spot i_begin i_token i_value i_bad i_full i_bandRows i_bandFirsts i_outs f_state f_was f_kept f_tape f_order f_rest f_ways f_costs f_bandBest f_found f_drawn f_joined f_out ++ R))) := by
  subst hM
  unfold FX12_look at hq
  refine xC.of (by decide) (Nat.le_of_ble_eq_true rfl) ?_
  show xW _ _ _ _ 0 [(0, .ref L), (1, .int x), (2, .int y)] [] _ 0 0
  refine xi_aload_n 0 dX12_look_0 rfl ?_
  refine xi_iload_n 1 dX12_look_1 rfl ?_
  refine xi_callV (as := [.int x]) (rest := []) dX12_look_2 (FX12_isNet_ok G hP i_keptMany i_taped i_faultKind i_faultPlace i_spot i_begin i_token i_value i_bad i_full i_bandRows i_bandFirsts i_outs f_state f_was f_kept f_tape f_order f_rest f_ways f_costs f_bandBest f_found f_drawn f_joined f_out (by omega) (by omega) (by omega) (by omega) (by omega) (by omega) hG x _ rfl (fun r => r = FX12_isNet f_state x) rfl) mkX12_isNet w_1104 ws_35 w_1102 (xpg0 hP rfl) rfl rfl rfl rfl (Nat.le_of_ble_eq_true rfl) (Nat.le_of_ble_eq_true rfl) (Nat.le_of_ble_eq_true rfl) (Nat.le_of_ble_eq_true rfl) (Nat.le_of_ble_eq_true rfl) ?_
  intro v M2 hz
  obtain ⟨_, rfl, rfl, rfl⟩ := hz
  show xW _ _ _ _ 5 _ [.int (FX12_isNet f_state x)] (P ++ (MDL L i_keptMany i_taped i_faultKind i_faultPlace i_spot i_begin i_token i_value i_bad i_full i_bandRows i_bandFirsts i_outs f_state f_was f_kept f_tape f_order f_rest f_ways f_costs f_bandBest f_found f_drawn f_joined f_out ++ R)) _ _
  refine xi_if_eq (tgt := 20) dX12_look_5 (by decide) (fun c1 => ?_) (fun c1 => ?_)
  · rw [if_pos c1] at hq
    refine xi_bipush (v := (-2)) dX12_look_20 (by decide) ?_
    exact xi_iret dX12_look_22 rfl rfl (Nat.le_of_ble_eq_true rfl) (Nat.le_of_ble_eq_true rfl) ⟨_, rfl, hq, rfl⟩
  · rw [if_neg c1] at hq
    obtain ⟨e2, e2b, e2h⟩ := net_in c1
    have e2c : x.toNatClampNeg = e2 := by rw [e2h]; exact nI_clamp (by omega)
    try rw [e2c] at hq
    subst e2h
    have e2g := (hG e2 e2b).1.2
    refine xi_iload_n 2 dX12_look_8 rfl ?_
    refine xi_i2l dX12_look_9 rfl ?_
    refine xi_lconst (v := 0) dX12_look_10 (by decide) ?_
    refine xi_ldc2 (v := 6) dX12_look_11 w_1225 ?_
    refine xi_callS (as := [.long y.toInt64, .long 0, .long 6]) (rest := []) dX12_look_14 (FX12_in_ok G y.toInt64 ((0 : Int64)) ((6 : Int64)) (fun r => r = FX12_in y.toInt64 ((0 : Int64)) ((6 : Int64))) rfl) mkX12_in w_1100 w_1099 rfl rfl (Nat.le_of_ble_eq_true rfl) (Nat.le_of_ble_eq_true rfl) (Nat.le_of_ble_eq_true rfl) (Nat.le_of_ble_eq_true rfl) (Nat.le_of_ble_eq_true rfl) ?_
    intro v M2 hz
    obtain ⟨_, rfl, rfl, hM2⟩ := hz
    rw [hM2]
    show xW _ _ _ _ 17 _ [.int (FX12_in y.toInt64 ((0 : Int64)) ((6 : Int64)))] (P ++ (MDL L i_keptMany i_taped i_faultKind i_faultPlace i_spot i_begin i_token i_value i_bad i_full i_bandRows i_bandFirsts i_outs f_state f_was f_kept f_tape f_order f_rest f_ways f_costs f_bandBest f_found f_drawn f_joined f_out ++ R)) _ _
    refine xi_if_ne (tgt := 23) dX12_look_17 (by decide) (fun c3 => ?_) (fun c3 => ?_)
    · rw [if_neg c3] at hq
      refine xi_iconst (v := 0) dX12_look_23 (by decide) ?_
      refine xi_istore_n (lv' := [(3, .int 0), (0, .ref L), (1, .int (nI e2)), (2, .int y)]) dX12_look_24 (by decide) rfl ?_
      refine xi_iconst (v := 0) dX12_look_25 (by decide) ?_
      refine xi_istore (lv' := [(4, .int 0), (3, .int 0), (0, .ref L), (1, .int (nI e2)), (2, .int y)]) dX12_look_26 (by decide) rfl ?_
      refine xi_sub (lv' := [(0, .ref L), (1, .int (nI e2)), (2, .int y), (3, .int 0), (4, .int 0)]) [2, 3, 4, 1, 0] rfl ?_
      refine LX12_look_28_s G hP i_keptMany i_taped i_faultKind i_faultPlace i_spot i_begin i_token i_value i_bad i_full i_bandRows i_bandFirsts i_outs f_state f_was f_kept f_tape f_order f_rest f_ways f_costs f_bandBest f_found f_drawn f_joined f_out (by omega) (by omega) (by omega) (by omega) (by omega) (by omega) hG e2 (by omega) y Q _ (fun u6 hq => ?_) ((f_state (91 * e2)).toNatClampNeg - 0) 0 ((0 : Int32)) rfl (by omega) hq
      refine xi_iload_n 2 dX12_look_54 rfl ?_
      by_cases c7 : y = 0
      · rw [if_pos c7] at hq
        refine xi_tableIn (off := 37) (tgt := 92) dX12_look_55 (by rw [c7]; decide) (by rw [c7]; decide) (by rw [c7]; decide) (by decide) ?_
        refine xi_aload_n 0 dX12_look_92 rfl ?_
        refine xi_iload_n 1 dX12_look_93 rfl ?_
        refine xi_callV (as := [.int (nI e2)]) (rest := []) dX12_look_94 (FX12_points_ok G hP i_keptMany i_taped i_faultKind i_faultPlace i_spot i_begin i_token i_value i_bad i_full i_bandRows i_bandFirsts i_outs f_state f_was f_kept f_tape f_order f_rest f_ways f_costs f_bandBest f_found f_drawn f_joined f_out (by omega) (by omega) (by omega) (by omega) (by omega) (by omega) e2 (by omega) _ rfl (fun r => r = nI ((f_state (91 * e2)).toNatClampNeg)) ((hG e2 (by omega)).1.1)) mkX12_points w_1108 ws_36 w_1106 (xpg0 hP rfl) rfl rfl rfl rfl (Nat.le_of_ble_eq_true rfl) (Nat.le_of_ble_eq_true rfl) (Nat.le_of_ble_eq_true rfl) (Nat.le_of_ble_eq_true rfl) (Nat.le_of_ble_eq_true rfl) ?_
        intro v M2 hz
        obtain ⟨_, rfl, rfl, rfl⟩ := hz
        show xW _ _ _ _ 97 _ [.int (nI ((f_state (91 * e2)).toNatClampNeg))] (P ++ (MDL L i_keptMany i_taped i_faultKind i_faultPlace i_spot i_begin i_token i_value i_bad i_full i_bandRows i_bandFirsts i_outs f_state f_was f_kept f_tape f_order f_rest f_ways f_costs f_bandBest f_found f_drawn f_joined f_out ++ R)) _ _
        have o8 := (hG e2 (by omega)).1.2
        exact xi_iret dX12_look_97 rfl rfl (Nat.le_of_ble_eq_true rfl) (Nat.le_of_ble_eq_true rfl) ⟨_, rfl, hq, rfl⟩
      rw [if_neg c7] at hq
      by_cases c9 : y = 1
      · rw [if_pos c9] at hq
        refine xi_tableIn (off := 43) (tgt := 98) dX12_look_55 (by rw [c9]; decide) (by rw [c9]; decide) (by rw [c9]; decide) (by decide) ?_
        refine xi_aload_n 0 dX12_look_98 rfl ?_
        refine xi_iload_n 1 dX12_look_99 rfl ?_
        refine xi_callV (as := [.int (nI e2)]) (rest := []) dX12_look_100 (FX12_lines_ok G hP i_keptMany i_taped i_faultKind i_faultPlace i_spot i_begin i_token i_value i_bad i_full i_bandRows i_bandFirsts i_outs f_state f_was f_kept f_tape f_order f_rest f_ways f_costs f_bandBest f_found f_drawn f_joined f_out (by omega) (by omega) (by omega) (by omega) (by omega) (by omega) hG e2 (by omega) _ rfl (fun r => r = FX12_lines f_state e2) rfl) mkX12_lines w_1184 ws_51 w_1182 (xpg0 hP rfl) rfl rfl rfl rfl (Nat.le_of_ble_eq_true rfl) (Nat.le_of_ble_eq_true rfl) (Nat.le_of_ble_eq_true rfl) (Nat.le_of_ble_eq_true rfl) (Nat.le_of_ble_eq_true rfl) ?_
        intro v M2 hz
        obtain ⟨_, rfl, rfl, rfl⟩ := hz
        show xW _ _ _ _ 103 _ [.int (FX12_lines f_state e2)] (P ++ (MDL L i_keptMany i_taped i_faultKind i_faultPlace i_spot i_begin i_token i_value i_bad i_full i_bandRows i_bandFirsts i_outs f_state f_was f_kept f_tape f_order f_rest f_ways f_costs f_bandBest f_found f_drawn f_joined f_out ++ R)) _ _
        exact xi_iret dX12_look_103 rfl rfl (Nat.le_of_ble_eq_true rfl) (Nat.le_of_ble_eq_true rfl) ⟨_, rfl, hq, rfl⟩
      rw [if_neg c9] at hq
      by_cases c10 : y = 2
      · rw [if_pos c10] at hq
        refine xi_tableIn (off := 49) (tgt := 104) dX12_look_55 (by rw [c10]; decide) (by rw [c10]; decide) (by rw [c10]; decide) (by decide) ?_
        refine xi_iload_n 3 dX12_look_104 rfl ?_
        refine xi_iconst (v := 2) dX12_look_105 (by decide) ?_
        refine xi_idiv (v := (u6 / (2 : Int32))) dX12_look_106 (by decide) rfl ?_
        exact xi_iret dX12_look_107 rfl rfl (Nat.le_of_ble_eq_true rfl) (Nat.le_of_ble_eq_true rfl) ⟨_, rfl, hq, rfl⟩
      rw [if_neg c10] at hq
      by_cases c11 : y = 3
      · rw [if_pos c11] at hq
        refine xi_tableIn (off := 53) (tgt := 108) dX12_look_55 (by rw [c11]; decide) (by rw [c11]; decide) (by rw [c11]; decide) (by decide) ?_
        refine xi_aload_n 0 dX12_look_108 rfl ?_
        refine xi_iload_n 1 dX12_look_109 rfl ?_
        refine xi_callV (as := [.int (nI e2)]) (rest := []) dX12_look_110 (FX12_degree_ok G hP i_keptMany i_taped i_faultKind i_faultPlace i_spot i_begin i_token i_value i_bad i_full i_bandRows i_bandFirsts i_outs f_state f_was f_kept f_tape f_order f_rest f_ways f_costs f_bandBest f_found f_drawn f_joined f_out (by omega) (by omega) (by omega) (by omega) (by omega) (by omega) hG e2 (by omega) _ rfl (fun r => r = FX12_degree f_state e2) rfl) mkX12_degree w_1232 ws_58 w_1230 (xpg0 hP rfl) rfl rfl rfl rfl (Nat.le_of_ble_eq_true rfl) (Nat.le_of_ble_eq_true rfl) (Nat.le_of_ble_eq_true rfl) (Nat.le_of_ble_eq_true rfl) (Nat.le_of_ble_eq_true rfl) ?_
        intro v M2 hz
        obtain ⟨_, rfl, rfl, rfl⟩ := hz
        show xW _ _ _ _ 113 _ [.int (FX12_degree f_state e2)] (P ++ (MDL L i_keptMany i_taped i_faultKind i_faultPlace i_spot i_begin i_token i_value i_bad i_full i_bandRows i_bandFirsts i_outs f_state f_was f_kept f_tape f_order f_rest f_ways f_costs f_bandBest f_found f_drawn f_joined f_out ++ R)) _ _
        exact xi_iret dX12_look_113 rfl rfl (Nat.le_of_ble_eq_true rfl) (Nat.le_of_ble_eq_true rfl) ⟨_, rfl, hq, rfl⟩
      rw [if_neg c11] at hq
      by_cases c12 : y = 4
      · rw [if_pos c12] at hq
        refine xi_tableIn (off := 59) (tgt := 114) dX12_look_55 (by rw [c12]; decide) (by rw [c12]; decide) (by rw [c12]; decide) (by decide) ?_
        refine xi_aload_n 0 dX12_look_114 rfl ?_
        refine xi_iload_n 1 dX12_look_115 rfl ?_
        refine xi_callV (as := [.int (nI e2)]) (rest := []) dX12_look_116 (FX12_parts_ok G hP i_keptMany i_taped i_faultKind i_faultPlace i_spot i_begin i_token i_value i_bad i_full i_bandRows i_bandFirsts i_outs f_state f_was f_kept f_tape f_order f_rest f_ways f_costs f_bandBest f_found f_drawn f_joined f_out (by omega) (by omega) (by omega) (by omega) (by omega) (by omega) hG e2 (by omega) _ rfl (fun r => r = FX12_parts f_state e2) rfl) mkX12_parts w_1237 ws_59 w_1235 (xpg0 hP rfl) rfl rfl rfl rfl (Nat.le_of_ble_eq_true rfl) (Nat.le_of_ble_eq_true rfl) (Nat.le_of_ble_eq_true rfl) (Nat.le_of_ble_eq_true rfl) (Nat.le_of_ble_eq_true rfl) ?_
        intro v M2 hz
        obtain ⟨_, rfl, rfl, rfl⟩ := hz
        show xW _ _ _ _ 119 _ [.int (FX12_parts f_state e2)] (P ++ (MDL L i_keptMany i_taped i_faultKind i_faultPlace i_spot i_begin i_token i_value i_bad i_full i_bandRows i_bandFirsts i_outs f_state f_was f_kept f_tape f_order f_rest f_ways f_costs f_bandBest f_found f_drawn f_joined f_out ++ R)) _ _
        exact xi_iret dX12_look_119 rfl rfl (Nat.le_of_ble_eq_true rfl) (Nat.le_of_ble_eq_true rfl) ⟨_, rfl, hq, rfl⟩
      rw [if_neg c12] at hq
      by_cases c13 : y = 5
      · rw [if_pos c13] at hq
        refine xi_tableIn (off := 65) (tgt := 120) dX12_look_55 (by rw [c13]; decide) (by rw [c13]; decide) (by rw [c13]; decide) (by decide) ?_
        refine xi_aload_n 0 dX12_look_120 rfl ?_
        refine xi_iload_n 1 dX12_look_121 rfl ?_
        refine xi_callV (as := [.int (nI e2)]) (rest := []) dX12_look_122 (FX12_diameter_ok G hP i_keptMany i_taped i_faultKind i_faultPlace i_spot i_begin i_token i_value i_bad i_full i_bandRows i_bandFirsts i_outs f_state f_was f_kept f_tape f_order f_rest f_ways f_costs f_bandBest f_found f_drawn f_joined f_out (by omega) (by omega) (by omega) (by omega) (by omega) (by omega) hG e2 (by omega) _ rfl (fun r => r = FX12_diameter f_state e2) rfl) mkX12_diameter w_1245 ws_61 w_1243 (xpg0 hP rfl) rfl rfl rfl rfl (Nat.le_of_ble_eq_true rfl) (Nat.le_of_ble_eq_true rfl) (Nat.le_of_ble_eq_true rfl) (Nat.le_of_ble_eq_true rfl) (Nat.le_of_ble_eq_true rfl) ?_
        intro v M2 hz
        obtain ⟨_, rfl, rfl, rfl⟩ := hz
        show xW _ _ _ _ 125 _ [.int (FX12_diameter f_state e2)] (P ++ (MDL L i_keptMany i_taped i_faultKind i_faultPlace i_spot i_begin i_token i_value i_bad i_full i_bandRows i_bandFirsts i_outs f_state f_was f_kept f_tape f_order f_rest f_ways f_costs f_bandBest f_found f_drawn f_joined f_out ++ R)) _ _
        exact xi_iret dX12_look_125 rfl rfl (Nat.le_of_ble_eq_true rfl) (Nat.le_of_ble_eq_true rfl) ⟨_, rfl, hq, rfl⟩
      rw [if_neg c13] at hq
      have tc7 : y.toInt ≠ 0 := fun e => c7 (Int32.toInt_inj.mp (by rw [e]; decide))
      have tc9 : y.toInt ≠ 1 := fun e => c9 (Int32.toInt_inj.mp (by rw [e]; decide))
      have tc10 : y.toInt ≠ 2 := fun e => c10 (Int32.toInt_inj.mp (by rw [e]; decide))
      have tc11 : y.toInt ≠ 3 := fun e => c11 (Int32.toInt_inj.mp (by rw [e]; decide))
      have tc12 : y.toInt ≠ 4 := fun e => c12 (Int32.toInt_inj.mp (by rw [e]; decide))
      have tc13 : y.toInt ≠ 5 := fun e => c13 (Int32.toInt_inj.mp (by rw [e]; decide))
      refine xi_tableOut (tgt := 126) dX12_look_55 (by omega) (by decide) ?_
      refine xi_aload_n 0 dX12_look_126 rfl ?_
      refine xi_iload_n 1 dX12_look_127 rfl ?_
      refine xi_callV (as := [.int (nI e2)]) (rest := []) dX12_look_128 (FX12_core_ok G hP i_keptMany i_taped i_faultKind i_faultPlace i_spot i_begin i_token i_value i_bad i_full i_bandRows i_bandFirsts i_outs f_state f_was f_kept f_tape f_order f_rest f_ways f_costs f_bandBest f_found f_drawn f_joined f_out (by omega) (by omega) (by omega) (by omega) (by omega) (by omega) hG e2 (by omega) _ rfl (fun r => r = FX12_core f_state e2) rfl) mkX12_core w_1249 ws_62 w_1247 (xpg0 hP rfl) rfl rfl rfl rfl (Nat.le_of_ble_eq_true rfl) (Nat.le_of_ble_eq_true rfl) (Nat.le_of_ble_eq_true rfl) (Nat.le_of_ble_eq_true rfl) (Nat.le_of_ble_eq_true rfl) ?_
      intro v M2 hz
      obtain ⟨_, rfl, rfl, rfl⟩ := hz
      show xW _ _ _ _ 131 _ [.int (FX12_core f_state e2)] (P ++ (MDL L i_keptMany i_taped i_faultKind i_faultPlace i_spot i_begin i_token i_value i_bad i_full i_bandRows i_bandFirsts i_outs f_state f_was f_kept f_tape f_order f_rest f_ways f_costs f_bandBest f_found f_drawn f_joined f_out ++ R)) _ _
      exact xi_iret dX12_look_131 rfl rfl (Nat.le_of_ble_eq_true rfl) (Nat.le_of_ble_eq_true rfl) ⟨_, rfl, hq, rfl⟩
    · rw [if_pos c3] at hq
      refine xi_bipush (v := (-2)) dX12_look_20 (by decide) ?_
      exact xi_iret dX12_look_22 rfl rfl (Nat.le_of_ble_eq_true rfl) (Nat.le_of_ble_eq_true rfl) ⟨_, rfl, hq, rfl⟩
def LX12_longest_34 (f_state : Nat → Int32) (n1 : Nat) (n4 : Nat) (K : Int32 → Int32 → Int32) : Nat → Nat → Int32 → Int32 → Int32
  | 0, _, v2, v3 => K v2 v3
  | k + 1, j, v2, v3 => (if (FX12_weight f_state n1 n4 j) ≤ (0 : Int32) then (LX12_longest_34 f_state n1 n4 K k (j + 1) v2 v3) else (if (if 0 ≤ ((FX12_placeOf f_state n1 n4) - (FX12_placeOf f_state n1 j)) then ((FX12_placeOf f_state n1 n4) - (FX12_placeOf f_state n1 j)) else 0 - ((FX12_placeOf f_state n1 n4) - (FX12_placeOf f_state n1 j))) ≤ v3 then (LX12_longest_34 f_state n1 n4 K k (j + 1) v2 v3) else (LX12_longest_34 f_state n1 n4 K k (j + 1) ((nI ((10 * n4) + j))) ((if 0 ≤ ((FX12_placeOf f_state n1 n4) - (FX12_placeOf f_state n1 j)) then ((FX12_placeOf f_state n1 n4) - (FX12_placeOf f_state n1 j)) else 0 - ((FX12_placeOf f_state n1 n4) - (FX12_placeOf f_state n1 j)))))))
def LX12_longest_18 (f_state : Nat → Int32) (n1 : Nat) (K : Int32 → Int32 → Int32) : Nat → Nat → Int32 → Int32 → Int32
  | 0, _, v2, v3 => K v2 v3
  | k + 1, j, v2, v3 => (LX12_longest_34 f_state n1 j (fun u8 u9 => (LX12_longest_18 f_state n1 K k (j + 1) u8 u9)) ((f_state (91 * n1)).toNatClampNeg - (j + 1)) (j + 1) v2 v3)
set_option maxHeartbeats 4000000 in
set_option maxRecDepth 100000 in
theorem LX12_longest_34_s (G : xG) {P R : xMem} {L : Nat} (hP : P.length = L) (i_keptMany : Nat) (i_taped : Nat) (i_faultKind : Int32) (i_faultPlace : Int32) (i_spot : Nat) (i_begin : Nat) (i_token : Int32) (i_value : Int32) (i_bad : Int32) (i_full : Nat) (i_bandRows : Int32) (i_bandFirsts : Int32) (i_outs : Nat) (f_state : Nat → Int32) (f_was : Nat → Int32) (f_kept : Nat → Int32) (f_tape : Nat → Int32) (f_order : Nat → Int32) (f_rest : Nat → Int32) (f_ways : Nat → Int32) (f_costs : Nat → Int32) (f_bandBest : Nat → Int32) (f_found : Nat → Int32) (f_drawn : Nat → Int32) (f_joined : Nat → Int32) (f_out : Nat → Int32) (bi_keptMany : i_keptMany ≤ 10) (bi_taped : i_taped ≤ 400) (bi_spot : i_spot ≤ 400) (bi_begin : i_begin ≤ 400) (bi_full : i_full ≤ 511) (bi_outs : i_outs ≤ 400) (hG : GO f_state) (hE : PE f_state) (n1 : Nat) (bn1 : n1 < 3) (n4 : Nat) (bn4 : n4 < 9) (hx : n4 < (f_state (91 * n1)).toNatClampNeg) (Q : Int32 → Prop) (K : Int32 → Int32 → Int32) (HE : ∀ (v2 : Int32) (v3 : Int32), Q (K v2 v3) → xW G mX12_longest (xrm 3 0 0) (xQ G (fun v M2 => ∃ o : Int32, v = some (.int o) ∧ Q o ∧ M2 = (P ++ (MDL L i_keptMany i_taped i_faultKind i_faultPlace i_spot i_begin i_token i_value i_bad i_full i_bandRows i_bandFirsts i_outs f_state f_was f_kept f_tape f_order f_rest f_ways f_costs f_bandBest f_found f_drawn f_joined f_out ++ R))) 0 0) 100 [(0, .ref L), (1, .int (nI n1)), (2, .int v2), (3, .int v3), (4, .int (nI n4))] [] (P ++ (MDL L i_keptMany i_taped i_faultKind i_faultPlace i_spot i_begin i_token i_value i_bad i_full i_bandRows i_bandFirsts i_outs f_state f_was f_kept f_tape f_order f_rest f_ways f_costs f_bandBest f_found f_drawn f_joined f_out ++ R)) 0 0) :
    ∀ (k j : Nat) (v2 : Int32) (v3 : Int32), (f_state (91 * n1)).toNatClampNeg - j = k → j < 100000 → Q (LX12_longest_34 f_state n1 n4 K k j v2 v3) → xW G mX12_longest (xrm 3 0 0) (xQ G (fun v M2 => ∃ o : Int32, v = some (.int o) ∧ Q o ∧ M2 = (P ++ (MDL L i_keptMany i_taped i_faultKind i_faultPlace i_spot i_begin i_token i_value i_bad i_full i_bandRows i_bandFirsts i_outs f_state f_was f_kept f_tape f_order f_rest f_ways f_costs f_bandBest f_found f_drawn f_joined f_out ++ R))) 0 0) 34 [(0, .ref L), (1, .int (nI n1)), (2, .int v2), (3, .int v3), (4, .int (nI n4)), (5, .int (nI j))] [] (P ++ (MDL L i_keptMany i_taped i_faultKind i_faultPlace i_spot i_begin i_token i_value i_bad i_full i_bandRows i_bandFirsts i_outs f_state f_was f_kept f_tape f_order f_rest f_ways f_costs f_bandBest f_found f_drawn f_joined f_out ++ R)) 0 0 := by
  intro k
  induction k with
  | zero =>
    intro j v2 v3 hj hj2 hq
    rw [LX12_longest_34] at hq
    refine xi_iload 5 dX12_longest_34 rfl ?_
    refine xi_aload_n 0 dX12_longest_36 rfl ?_
    refine xi_iload_n 1 dX12_longest_37 rfl ?_
    refine xi_callV (as := [.int (nI n1)]) (rest := [.int (nI j)]) dX12_longest_38 (FX12_points_ok G hP i_keptMany i_taped i_faultKind i_faultPlace i_spot i_begin i_token i_value i_bad i_full i_bandRows i_bandFirsts i_outs f_state f_was f_kept f_tape f_order f_rest f_ways f_costs f_bandBest f_found f_drawn f_joined f_out (by omega) (by omega) (by omega) (by omega) (by omega) (by omega) n1 (by omega) _ rfl (fun r => r = nI ((f_state (91 * n1)).toNatClampNeg)) ((hG n1 (by omega)).1.1)) mkX12_points w_1108 ws_36 w_1106 (xpg0 hP rfl) rfl rfl rfl rfl (Nat.le_of_ble_eq_true rfl) (Nat.le_of_ble_eq_true rfl) (Nat.le_of_ble_eq_true rfl) (Nat.le_of_ble_eq_true rfl) (Nat.le_of_ble_eq_true rfl) ?_
    intro v M2 hz
    obtain ⟨_, rfl, rfl, rfl⟩ := hz
    show xW _ _ _ _ 41 _ [.int (nI ((f_state (91 * n1)).toNatClampNeg)), .int (nI j)] (P ++ (MDL L i_keptMany i_taped i_faultKind i_faultPlace i_spot i_begin i_token i_value i_bad i_full i_bandRows i_bandFirsts i_outs f_state f_was f_kept f_tape f_order f_rest f_ways f_costs f_bandBest f_found f_drawn f_joined f_out ++ R)) _ _
    have o7 := (hG n1 (by omega)).1.2
    refine xi_icmp_ge_t (tgt := 100) dX12_longest_41 (by decide) (nI_le (a := (f_state (91 * n1)).toNatClampNeg) (b := j) (by omega) (by omega)) ?_
    refine xi_sub (lv' := [(0, .ref L), (1, .int (nI n1)), (2, .int v2), (3, .int v3), (4, .int (nI n4))]) [0, 1, 2, 3, 4] rfl ?_
    exact HE v2 v3 hq
  | succ k ih =>
    intro j v2 v3 hj hj2 hq
    rw [LX12_longest_34] at hq
    refine xi_iload 5 dX12_longest_34 rfl ?_
    refine xi_aload_n 0 dX12_longest_36 rfl ?_
    refine xi_iload_n 1 dX12_longest_37 rfl ?_
    refine xi_callV (as := [.int (nI n1)]) (rest := [.int (nI j)]) dX12_longest_38 (FX12_points_ok G hP i_keptMany i_taped i_faultKind i_faultPlace i_spot i_begin i_token i_value i_bad i_full i_bandRows i_bandFirsts i_outs f_state f_was f_kept f_tape f_order f_rest f_ways f_costs f_bandBest f_found f_drawn f_joined f_out (by omega) (by omega) (by omega) (by omega) (by omega) (by omega) n1 (by omega) _ rfl (fun r => r = nI ((f_state (91 * n1)).toNatClampNeg)) ((hG n1 (by omega)).1.1)) mkX12_points w_1108 ws_36 w_1106 (xpg0 hP rfl) rfl rfl rfl rfl (Nat.le_of_ble_eq_true rfl) (Nat.le_of_ble_eq_true rfl) (Nat.le_of_ble_eq_true rfl) (Nat.le_of_ble_eq_true rfl) (Nat.le_of_ble_eq_true rfl) ?_
    intro v M2 hz
    obtain ⟨_, rfl, rfl, rfl⟩ := hz
    show xW _ _ _ _ 41 _ [.int (nI ((f_state (91 * n1)).toNatClampNeg)), .int (nI j)] (P ++ (MDL L i_keptMany i_taped i_faultKind i_faultPlace i_spot i_begin i_token i_value i_bad i_full i_bandRows i_bandFirsts i_outs f_state f_was f_kept f_tape f_order f_rest f_ways f_costs f_bandBest f_found f_drawn f_joined f_out ++ R)) _ _
    have o4 := (hG n1 (by omega)).1.2
    refine xi_icmp_ge_f (tgt := 100) dX12_longest_41 (by decide) (nI_ge (a := j) (b := (f_state (91 * n1)).toNatClampNeg) (by omega) (by omega)) ?_
    refine xi_aload_n 0 dX12_longest_44 rfl ?_
    refine xi_iload_n 1 dX12_longest_45 rfl ?_
    refine xi_iload 4 dX12_longest_46 rfl ?_
    refine xi_callV (as := [.int (nI n1), .int (nI n4)]) (rest := []) dX12_longest_48 (FX12_placeOf_ok G hP i_keptMany i_taped i_faultKind i_faultPlace i_spot i_begin i_token i_value i_bad i_full i_bandRows i_bandFirsts i_outs f_state f_was f_kept f_tape f_order f_rest f_ways f_costs f_bandBest f_found f_drawn f_joined f_out (by omega) (by omega) (by omega) (by omega) (by omega) (by omega) hG hE n1 (by omega) n4 (by omega) (by omega) _ rfl (fun r => r = FX12_placeOf f_state n1 n4) rfl) mkX12_placeOf w_1281 ws_65 w_1279 (xpg0 hP rfl) rfl rfl rfl rfl (Nat.le_of_ble_eq_true rfl) (Nat.le_of_ble_eq_true rfl) (Nat.le_of_ble_eq_true rfl) (Nat.le_of_ble_eq_true rfl) (Nat.le_of_ble_eq_true rfl) ?_
    intro v M2 hz
    obtain ⟨_, rfl, rfl, rfl⟩ := hz
    show xW _ _ _ _ 51 _ [.int (FX12_placeOf f_state n1 n4)] (P ++ (MDL L i_keptMany i_taped i_faultKind i_faultPlace i_spot i_begin i_token i_value i_bad i_full i_bandRows i_bandFirsts i_outs f_state f_was f_kept f_tape f_order f_rest f_ways f_costs f_bandBest f_found f_drawn f_joined f_out ++ R)) _ _
    refine xi_aload_n 0 dX12_longest_51 rfl ?_
    refine xi_iload_n 1 dX12_longest_52 rfl ?_
    refine xi_iload 5 dX12_longest_53 rfl ?_
    refine xi_callV (as := [.int (nI n1), .int (nI j)]) (rest := [.int (FX12_placeOf f_state n1 n4)]) dX12_longest_55 (FX12_placeOf_ok G hP i_keptMany i_taped i_faultKind i_faultPlace i_spot i_begin i_token i_value i_bad i_full i_bandRows i_bandFirsts i_outs f_state f_was f_kept f_tape f_order f_rest f_ways f_costs f_bandBest f_found f_drawn f_joined f_out (by omega) (by omega) (by omega) (by omega) (by omega) (by omega) hG hE n1 (by omega) j (by omega) (by omega) _ rfl (fun r => r = FX12_placeOf f_state n1 j) rfl) mkX12_placeOf w_1281 ws_65 w_1279 (xpg0 hP rfl) rfl rfl rfl rfl (Nat.le_of_ble_eq_true rfl) (Nat.le_of_ble_eq_true rfl) (Nat.le_of_ble_eq_true rfl) (Nat.le_of_ble_eq_true rfl) (Nat.le_of_ble_eq_true rfl) ?_
    intro v M2 hz
    obtain ⟨_, rfl, rfl, rfl⟩ := hz
    show xW _ _ _ _ 58 _ [.int (FX12_placeOf f_state n1 j), .int (FX12_placeOf f_state n1 n4)] (P ++ (MDL L i_keptMany i_taped i_faultKind i_faultPlace i_spot i_begin i_token i_value i_bad i_full i_bandRows i_bandFirsts i_outs f_state f_was f_kept f_tape f_order f_rest f_ways f_costs f_bandBest f_found f_drawn f_joined f_out ++ R)) _ _
    refine xi_isub (v := ((FX12_placeOf f_state n1 n4) - (FX12_placeOf f_state n1 j))) dX12_longest_58 rfl ?_
    refine xi_abs (v := (if 0 ≤ ((FX12_placeOf f_state n1 n4) - (FX12_placeOf f_state n1 j)) then ((FX12_placeOf f_state n1 n4) - (FX12_placeOf f_state n1 j)) else 0 - ((FX12_placeOf f_state n1 n4) - (FX12_placeOf f_state n1 j)))) dX12_longest_59 w_1347 w_651 w_3 w_mabs (Nat.le_of_ble_eq_true rfl) (Nat.le_of_ble_eq_true rfl) (Nat.le_of_ble_eq_true rfl) (Nat.le_of_ble_eq_true rfl) (Nat.le_of_ble_eq_true rfl) rfl ?_
    refine xi_istore (lv' := [(6, .int (if 0 ≤ ((FX12_placeOf f_state n1 n4) - (FX12_placeOf f_state n1 j)) then ((FX12_placeOf f_state n1 n4) - (FX12_placeOf f_state n1 j)) else 0 - ((FX12_placeOf f_state n1 n4) - (FX12_placeOf f_state n1 j)))), (0, .ref L), (1, .int (nI n1)), (2, .int v2), (3, .int v3), (4, .int (nI n4)), (5, .int (nI j))]) dX12_longest_62 (by decide) rfl ?_
    refine xi_aload_n 1 dX12_longest_64 rfl ?_
    refine xi_iload_n 2 dX12_longest_65 rfl ?_
    refine xi_iload 5 dX12_longest_66 rfl ?_
    refine xi_iload 6 dX12_longest_68 rfl ?_
    refine xi_callV (as := [.int (nI n1), .int (nI n4), .int (nI j)]) (rest := []) dX12_longest_70 (FX12_weight_ok G hP i_keptMany i_taped i_faultKind i_faultPlace i_spot i_begin i_token i_value i_bad i_full i_bandRows i_bandFirsts i_outs f_state f_was f_kept f_tape f_order f_rest f_ways f_costs f_bandBest f_found f_drawn f_joined f_out (by omega) (by omega) (by omega) (by omega) (by omega) (by omega) n1 (by omega) n4 (by omega) j (by omega) _ rfl (fun r => r = FX12_weight f_state n1 n4 j) rfl) mkX12_weight w_1192 ws_53 w_1190 (xpg0 hP rfl) rfl rfl rfl rfl (Nat.le_of_ble_eq_true rfl) (Nat.le_of_ble_eq_true rfl) (Nat.le_of_ble_eq_true rfl) (Nat.le_of_ble_eq_true rfl) (Nat.le_of_ble_eq_true rfl) ?_
    intro v M2 hz
    obtain ⟨_, rfl, rfl, rfl⟩ := hz
    show xW _ _ _ _ 73 _ [.int (FX12_weight f_state n1 n4 j)] (P ++ (MDL L i_keptMany i_taped i_faultKind i_faultPlace i_spot i_begin i_token i_value i_bad i_full i_bandRows i_bandFirsts i_outs f_state f_was f_kept f_tape f_order f_rest f_ways f_costs f_bandBest f_found f_drawn f_joined f_out ++ R)) _ _
    refine xi_if_le (tgt := 94) dX12_longest_73 (by decide) (fun c5 => ?_) (fun c5 => ?_)
    · rw [if_pos c5] at hq
      refine xi_iinc (v := (nI (j + 1))) (lv' := [(5, .int (nI (j + 1))), (6, .int (if 0 ≤ ((FX12_placeOf f_state n1 n4) - (FX12_placeOf f_state n1 j)) then ((FX12_placeOf f_state n1 n4) - (FX12_placeOf f_state n1 j)) else 0 - ((FX12_placeOf f_state n1 n4) - (FX12_placeOf f_state n1 j)))), (0, .ref L), (1, .int (nI n1)), (2, .int v2), (3, .int v3), (4, .int (nI n4))]) 6 dX12_longest_94 rfl (nI_1 _) (by decide) rfl ?_
      refine xi_goto (tgt := 34) dX12_longest_97 (by decide) ?_
      refine xi_sub (lv' := [(0, .ref L), (1, .int (nI n1)), (2, .int v2), (3, .int v3), (4, .int (nI n4)), (5, .int (nI (j + 1)))]) [2, 3, 4, 5, 6, 0] rfl ?_
      exact ih (j + 1) v2 v3 (by omega) (by omega) hq
    · rw [if_neg c5] at hq
      refine xi_iload 0 dX12_longest_76 rfl ?_
      refine xi_iload_n 4 dX12_longest_78 rfl ?_
      refine xi_icmp_le (tgt := 94) dX12_longest_79 (by decide) (fun c6 => ?_) (fun c6 => ?_)
      · rw [if_pos c6] at hq
        refine xi_iinc (v := (nI (j + 1))) (lv' := [(5, .int (nI (j + 1))), (6, .int (if 0 ≤ ((FX12_placeOf f_state n1 n4) - (FX12_placeOf f_state n1 j)) then ((FX12_placeOf f_state n1 n4) - (FX12_placeOf f_state n1 j)) else 0 - ((FX12_placeOf f_state n1 n4) - (FX12_placeOf f_state n1 j)))), (0, .ref L), (1, .int (nI n1)), (2, .int v2), (3, .int v3), (4, .int (nI n4))]) 6 dX12_longest_94 rfl (nI_1 _) (by decide) rfl ?_
        refine xi_goto (tgt := 34) dX12_longest_97 (by decide) ?_
        refine xi_sub (lv' := [(0, .ref L), (1, .int (nI n1)), (2, .int v2), (3, .int v3), (4, .int (nI n4)), (5, .int (nI (j + 1)))]) [2, 3, 4, 5, 6, 0] rfl ?_
        exact ih (j + 1) v2 v3 (by omega) (by omega) hq
      · rw [if_neg c6] at hq
        refine xi_iload 0 dX12_longest_82 rfl ?_
        refine xi_istore_n (lv' := [(3, .int (if 0 ≤ ((FX12_placeOf f_state n1 n4) - (FX12_placeOf f_state n1 j)) then ((FX12_placeOf f_state n1 n4) - (FX12_placeOf f_state n1 j)) else 0 - ((FX12_placeOf f_state n1 n4) - (FX12_placeOf f_state n1 j)))), (6, .int (if 0 ≤ ((FX12_placeOf f_state n1 n4) - (FX12_placeOf f_state n1 j)) then ((FX12_placeOf f_state n1 n4) - (FX12_placeOf f_state n1 j)) else 0 - ((FX12_placeOf f_state n1 n4) - (FX12_placeOf f_state n1 j)))), (0, .ref L), (1, .int (nI n1)), (2, .int v2), (4, .int (nI n4)), (5, .int (nI j))]) dX12_longest_84 (by decide) rfl ?_
        refine xi_bipush (v := 10) dX12_longest_85 (by decide) ?_
        refine xi_iload 5 dX12_longest_87 rfl ?_
        refine xi_imul (v := (nI (10 * n4))) dX12_longest_89 (pk_mul 10 n4) ?_
        refine xi_iload 6 dX12_longest_90 rfl ?_
        refine xi_iadd (v := (nI ((10 * n4) + j))) dX12_longest_92 (nI_add (10 * n4) j) ?_
        refine xi_istore_n (lv' := [(2, .int (nI ((10 * n4) + j))), (3, .int (if 0 ≤ ((FX12_placeOf f_state n1 n4) - (FX12_placeOf f_state n1 j)) then ((FX12_placeOf f_state n1 n4) - (FX12_placeOf f_state n1 j)) else 0 - ((FX12_placeOf f_state n1 n4) - (FX12_placeOf f_state n1 j)))), (6, .int (if 0 ≤ ((FX12_placeOf f_state n1 n4) - (FX12_placeOf f_state n1 j)) then ((FX12_placeOf f_state n1 n4) - (FX12_placeOf f_state n1 j)) else 0 - ((FX12_placeOf f_state n1 n4) - (FX12_placeOf f_state n1 j)))), (0, .ref L), (1, .int (nI n1)), (4, .int (nI n4)), (5, .int (nI j))]) dX12_longest_93 (by decide) rfl ?_
        refine xi_iinc (v := (nI (j + 1))) (lv' := [(5, .int (nI (j + 1))), (2, .int (nI ((10 * n4) + j))), (3, .int (if 0 ≤ ((FX12_placeOf f_state n1 n4) - (FX12_placeOf f_state n1 j)) then ((FX12_placeOf f_state n1 n4) - (FX12_placeOf f_state n1 j)) else 0 - ((FX12_placeOf f_state n1 n4) - (FX12_placeOf f_state n1 j)))), (6, .int (if 0 ≤ ((FX12_placeOf f_state n1 n4) - (FX12_placeOf f_state n1 j)) then ((FX12_placeOf f_state n1 n4) - (FX12_placeOf f_state n1 j)) else 0 - ((FX12_placeOf f_state n1 n4) - (FX12_placeOf f_state n1 j)))), (0, .ref L), (1, .int (nI n1)), (4, .int (nI n4))]) 6 dX12_longest_94 rfl (nI_1 _) (by decide) rfl ?_
        refine xi_goto (tgt := 34) dX12_longest_97 (by decide) ?_
        refine xi_sub (lv' := [(0, .ref L), (1, .int (nI n1)), (2, .int (nI ((10 * n4) + j))), (3, .int (if 0 ≤ ((FX12_placeOf f_state n1 n4) - (FX12_placeOf f_state n1 j)) then ((FX12_placeOf f_state n1 n4) - (FX12_placeOf f_state n1 j)) else 0 - ((FX12_placeOf f_state n1 n4) - (FX12_placeOf f_state n1 j)))), (4, .int (nI n4)), (5, .int (nI (j + 1)))]) [4, 5, 1, 2, 6, 0] rfl ?_
        exact ih (j + 1) ((nI ((10 * n4) + j))) ((if 0 ≤ ((FX12_placeOf f_state n1 n4) - (FX12_placeOf f_state n1 j)) then ((FX12_placeOf f_state n1 n4) - (FX12_placeOf f_state n1 j)) else 0 - ((FX12_placeOf f_state n1 n4) - (FX12_placeOf f_state n1 j)))) (by omega) (by omega) hq
set_option maxHeartbeats 4000000 in
set_option maxRecDepth 100000 in
theorem LX12_longest_18_s (G : xG) {P R : xMem} {L : Nat} (hP : P.length = L) (i_keptMany : Nat) (i_taped : Nat) (i_faultKind : Int32) (i_faultPlace : Int32) (i_spot : Nat) (i_begin : Nat) (i_token : Int32) (i_value : Int32) (i_bad : Int32) (i_full : Nat) (i_bandRows : Int32) (i_bandFirsts : Int32) (i_outs : Nat) (f_state : Nat → Int32) (f_was : Nat → Int32) (f_kept : Nat → Int32) (f_tape : Nat → Int32) (f_order : Nat → Int32) (f_rest : Nat → Int32) (f_ways : Nat → Int32) (f_costs : Nat → Int32) (f_bandBest : Nat → Int32) (f_found : Nat → Int32) (f_drawn : Nat → Int32) (f_joined : Nat → Int32) (f_out : Nat → Int32) (bi_keptMany : i_keptMany ≤ 10) (bi_taped : i_taped ≤ 400) (bi_spot : i_spot ≤ 400) (bi_begin : i_begin ≤ 400) (bi_full : i_full ≤ 511) (bi_outs : i_outs ≤ 400) (hG : GO f_state) (hE : PE f_state) (n1 : Nat) (bn1 : n1 < 3) (Q : Int32 → Prop) (K : Int32 → Int32 → Int32) (HE : ∀ (v2 : Int32) (v3 : Int32), Q (K v2 v3) → xW G mX12_longest (xrm 3 0 0) (xQ G (fun v M2 => ∃ o : Int32, v = some (.int o) ∧ Q o ∧ M2 = (P ++ (MDL L i_keptMany i_taped i_faultKind i_faultPlace i_spot i_begin i_token i_value i_bad i_full i_bandRows i_bandFirsts i_outs f_state f_was f_kept f_tape f_order f_rest f_ways f_costs f_bandBest f_found f_drawn f_joined f_out ++ R))) 0 0) 106 [(2, .int v2)] [] (P ++ (MDL L i_keptMany i_taped i_faultKind i_faultPlace i_spot i_begin i_token i_value i_bad i_full i_bandRows i_bandFirsts i_outs f_state f_was f_kept f_tape f_order f_rest f_ways f_costs f_bandBest f_found f_drawn f_joined f_out ++ R)) 0 0) :
    ∀ (k j : Nat) (v2 : Int32) (v3 : Int32), (f_state (91 * n1)).toNatClampNeg - j = k → j < 100000 → Q (LX12_longest_18 f_state n1 K k j v2 v3) → xW G mX12_longest (xrm 3 0 0) (xQ G (fun v M2 => ∃ o : Int32, v = some (.int o) ∧ Q o ∧ M2 = (P ++ (MDL L i_keptMany i_taped i_faultKind i_faultPlace i_spot i_begin i_token i_value i_bad i_full i_bandRows i_bandFirsts i_outs f_state f_was f_kept f_tape f_order f_rest f_ways f_costs f_bandBest f_found f_drawn f_joined f_out ++ R))) 0 0) 18 [(0, .ref L), (1, .int (nI n1)), (2, .int v2), (3, .int v3), (4, .int (nI j))] [] (P ++ (MDL L i_keptMany i_taped i_faultKind i_faultPlace i_spot i_begin i_token i_value i_bad i_full i_bandRows i_bandFirsts i_outs f_state f_was f_kept f_tape f_order f_rest f_ways f_costs f_bandBest f_found f_drawn f_joined f_out ++ R)) 0 0 := by
  intro k
  induction k with
  | zero =>
    intro j v2 v3 hj hj2 hq
    rw [LX12_longest_18] at hq
    refine xi_iload 4 dX12_longest_18 rfl ?_
    refine xi_aload_n 0 dX12_longest_20 rfl ?_
    refine xi_iload_n 1 dX12_longest_21 rfl ?_
    refine xi_callV (as := [.int (nI n1)]) (rest := [.int (nI j)]) dX12_longest_22 (FX12_points_ok G hP i_keptMany i_taped i_faultKind i_faultPlace i_spot i_begin i_token i_value i_bad i_full i_bandRows i_bandFirsts i_outs f_state f_was f_kept f_tape f_order f_rest f_ways f_costs f_bandBest f_found f_drawn f_joined f_out (by omega) (by omega) (by omega) (by omega) (by omega) (by omega) n1 (by omega) _ rfl (fun r => r = nI ((f_state (91 * n1)).toNatClampNeg)) ((hG n1 (by omega)).1.1)) mkX12_points w_1108 ws_36 w_1106 (xpg0 hP rfl) rfl rfl rfl rfl (Nat.le_of_ble_eq_true rfl) (Nat.le_of_ble_eq_true rfl) (Nat.le_of_ble_eq_true rfl) (Nat.le_of_ble_eq_true rfl) (Nat.le_of_ble_eq_true rfl) ?_
    intro v M2 hz
    obtain ⟨_, rfl, rfl, rfl⟩ := hz
    show xW _ _ _ _ 25 _ [.int (nI ((f_state (91 * n1)).toNatClampNeg)), .int (nI j)] (P ++ (MDL L i_keptMany i_taped i_faultKind i_faultPlace i_spot i_begin i_token i_value i_bad i_full i_bandRows i_bandFirsts i_outs f_state f_was f_kept f_tape f_order f_rest f_ways f_costs f_bandBest f_found f_drawn f_joined f_out ++ R)) _ _
    have o10 := (hG n1 (by omega)).1.2
    refine xi_icmp_ge_t (tgt := 106) dX12_longest_25 (by decide) (nI_le (a := (f_state (91 * n1)).toNatClampNeg) (b := j) (by omega) (by omega)) ?_
    refine xi_sub (lv' := [(2, .int v2)]) [2] rfl ?_
    exact HE v2 v3 hq
  | succ k ih =>
    intro j v2 v3 hj hj2 hq
    rw [LX12_longest_18] at hq
    refine xi_iload 4 dX12_longest_18 rfl ?_
    refine xi_aload_n 0 dX12_longest_20 rfl ?_
    refine xi_iload_n 1 dX12_longest_21 rfl ?_
    refine xi_callV (as := [.int (nI n1)]) (rest := [.int (nI j)]) dX12_longest_22 (FX12_points_ok G hP i_keptMany i_taped i_faultKind i_faultPlace i_spot i_begin i_token i_value i_bad i_full i_bandRows i_bandFirsts i_outs f_state f_was f_kept f_tape f_order f_rest f_ways f_costs f_bandBest f_found f_drawn f_joined f_out (by omega) (by omega) (by omega) (by omega) (by omega) (by omega) n1 (by omega) _ rfl (fun r => r = nI ((f_state (91 * n1)).toNatClampNeg)) ((hG n1 (by omega)).1.1)) mkX12_points w_1108 ws_36 w_1106 (xpg0 hP rfl) rfl rfl rfl rfl (Nat.le_of_ble_eq_true rfl) (Nat.le_of_ble_eq_true rfl) (Nat.le_of_ble_eq_true rfl) (Nat.le_of_ble_eq_true rfl) (Nat.le_of_ble_eq_true rfl) ?_
    intro v M2 hz
    obtain ⟨_, rfl, rfl, rfl⟩ := hz
    show xW _ _ _ _ 25 _ [.int (nI ((f_state (91 * n1)).toNatClampNeg)), .int (nI j)] (P ++ (MDL L i_keptMany i_taped i_faultKind i_faultPlace i_spot i_begin i_token i_value i_bad i_full i_bandRows i_bandFirsts i_outs f_state f_was f_kept f_tape f_order f_rest f_ways f_costs f_bandBest f_found f_drawn f_joined f_out ++ R)) _ _
    have o3 := (hG n1 (by omega)).1.2
    refine xi_icmp_ge_f (tgt := 106) dX12_longest_25 (by decide) (nI_ge (a := j) (b := (f_state (91 * n1)).toNatClampNeg) (by omega) (by omega)) ?_
    refine xi_iload 4 dX12_longest_28 rfl ?_
    refine xi_iconst (v := 1) dX12_longest_30 (by decide) ?_
    refine xi_iadd (v := (nI (j + 1))) dX12_longest_31 (nI_add j 1) ?_
    refine xi_istore (lv' := [(5, .int (nI (j + 1))), (0, .ref L), (1, .int (nI n1)), (2, .int v2), (3, .int v3), (4, .int (nI j))]) dX12_longest_32 (by decide) rfl ?_
    refine xi_sub (lv' := [(0, .ref L), (1, .int (nI n1)), (2, .int v2), (3, .int v3), (4, .int (nI j)), (5, .int (nI (j + 1)))]) [1, 2, 3, 4, 5, 0] rfl ?_
    refine LX12_longest_34_s G hP i_keptMany i_taped i_faultKind i_faultPlace i_spot i_begin i_token i_value i_bad i_full i_bandRows i_bandFirsts i_outs f_state f_was f_kept f_tape f_order f_rest f_ways f_costs f_bandBest f_found f_drawn f_joined f_out (by omega) (by omega) (by omega) (by omega) (by omega) (by omega) hG hE n1 (by omega) j (by omega) (by omega) Q _ (fun u8 u9 hq => ?_) ((f_state (91 * n1)).toNatClampNeg - (j + 1)) (j + 1) v2 v3 rfl (by omega) hq
    refine xi_iinc (v := (nI (j + 1))) (lv' := [(4, .int (nI (j + 1))), (0, .ref L), (1, .int (nI n1)), (2, .int u8), (3, .int u9)]) 4 dX12_longest_100 rfl (nI_1 _) (by decide) rfl ?_
    refine xi_goto (tgt := 18) dX12_longest_103 (by decide) ?_
    refine xi_sub (lv' := [(0, .ref L), (1, .int (nI n1)), (2, .int u8), (3, .int u9), (4, .int (nI (j + 1)))]) [1, 2, 3, 4, 0] rfl ?_
    exact ih (j + 1) u8 u9 (by omega) (by omega) hq
def FX12_longest (f_state : Nat → Int32) (x : Int32) : Int32 := (if (FX12_isNet f_state x) = (0 : Int32) then (-2 : Int32) else (LX12_longest_18 f_state x.toNatClampNeg (fun u11 u12 => u11) ((f_state (91 * x.toNatClampNeg)).toNatClampNeg - 0) 0 ((-1 : Int32)) ((0 : Int32))))
set_option maxHeartbeats 4000000 in
set_option maxRecDepth 100000 in
theorem FX12_longest_ok (G : xG) {P R : xMem} {L : Nat} (hP : P.length = L) (i_keptMany : Nat) (i_taped : Nat) (i_faultKind : Int32) (i_faultPlace : Int32) (i_spot : Nat) (i_begin : Nat) (i_token : Int32) (i_value : Int32) (i_bad : Int32) (i_full : Nat) (i_bandRows : Int32) (i_bandFirsts : Int32) (i_outs : Nat) (f_state : Nat → Int32) (f_was : Nat → Int32) (f_kept : Nat → Int32) (f_tape : Nat → Int32) (f_order : Nat → Int32) (f_rest : Nat → Int32) (f_ways : Nat → Int32) (f_costs : Nat → Int32) (f_bandBest : Nat → Int32) (f_found : Nat → Int32) (f_drawn : Nat → Int32) (f_joined : Nat → Int32) (f_out : Nat → Int32) (bi_keptMany : i_keptMany ≤ 10) (bi_taped : i_taped ≤ 400) (bi_spot : i_spot ≤ 400) (bi_begin : i_begin ≤ 400) (bi_full : i_full ≤ 511) (bi_outs : i_outs ≤ 400) (hG : GO f_state) (hE : PE f_state) (x : Int32) (M : xMem) (hM : M = (P ++ (MDL L i_keptMany i_taped i_faultKind i_faultPlace i_spot i_begin i_token i_value i_bad i_full i_bandRows i_bandFirsts i_outs f_state f_was f_kept f_tape f_order f_rest f_ways f_costs f_bandBest f_found f_drawn f_joined f_out ++ R))) (Q : Int32 → Prop) (hq : Q (FX12_longest f_state x)) : xC G mX12_longest 3 0 0 [.ref L, .int x] M (fun v M2 => ∃ o : Int32, v = some (.int o) ∧ Q o ∧ M2 = (P ++ (MDL L i_keptMany i_taped i_faultKind i_faultPlace i_spot i_begin i_token i_value i_bad i_full i_bandRows i_bandFirsts i_outs f_state f_was f_kept f_tape f_order f_rest f_ways f_costs f_bandBest f_found f_drawn f_joined f_out ++ R))) := by
  subst hM
  unfold FX12_longest at hq
  refine xC.of (by decide) (Nat.le_of_ble_eq_true rfl) ?_
  show xW _ _ _ _ 0 [(0, .ref L), (1, .int x)] [] _ 0 0
  refine xi_aload_n 0 dX12_longest_0 rfl ?_
  refine xi_iload_n 1 dX12_longest_1 rfl ?_
  refine xi_callV (as := [.int x]) (rest := []) dX12_longest_2 (FX12_isNet_ok G hP i_keptMany i_taped i_faultKind i_faultPlace i_spot i_begin i_token i_value i_bad i_full i_bandRows i_bandFirsts i_outs f_state f_was f_kept f_tape f_order f_rest f_ways f_costs f_bandBest f_found f_drawn f_joined f_out (by omega) (by omega) (by omega) (by omega) (by omega) (by omega) hG x _ rfl (fun r => r = FX12_isNet f_state x) rfl) mkX12_isNet w_1104 ws_35 w_1102 (xpg0 hP rfl) rfl rfl rfl rfl (Nat.le_of_ble_eq_true rfl) (Nat.le_of_ble_eq_true rfl) (Nat.le_of_ble_eq_true rfl) (Nat.le_of_ble_eq_true rfl) (Nat.le_of_ble_eq_true rfl) ?_
  intro v M2 hz
  obtain ⟨_, rfl, rfl, rfl⟩ := hz
  show xW _ _ _ _ 5 _ [.int (FX12_isNet f_state x)] (P ++ (MDL L i_keptMany i_taped i_faultKind i_faultPlace i_spot i_begin i_token i_value i_bad i_full i_bandRows i_bandFirsts i_outs f_state f_was f_kept f_tape f_order f_rest f_ways f_costs f_bandBest f_found f_drawn f_joined f_out ++ R)) _ _
  refine xi_if_ne (tgt := 11) dX12_longest_5 (by decide) (fun c1 => ?_) (fun c1 => ?_)
  · rw [if_neg c1] at hq
    obtain ⟨e2, e2b, e2h⟩ := net_in c1
    have e2c : x.toNatClampNeg = e2 := by rw [e2h]; exact nI_clamp (by omega)
    try rw [e2c] at hq
    subst e2h
    have e2g := (hG e2 e2b).1.2
    refine xi_iconst (v := (-1)) dX12_longest_11 (by decide) ?_
    refine xi_istore_n (lv' := [(2, .int (-1)), (0, .ref L), (1, .int (nI e2))]) dX12_longest_12 (by decide) rfl ?_
    refine xi_iconst (v := 0) dX12_longest_13 (by decide) ?_
    refine xi_istore_n (lv' := [(3, .int 0), (2, .int (-1)), (0, .ref L), (1, .int (nI e2))]) dX12_longest_14 (by decide) rfl ?_
    refine xi_iconst (v := 0) dX12_longest_15 (by decide) ?_
    refine xi_istore (lv' := [(4, .int 0), (3, .int 0), (2, .int (-1)), (0, .ref L), (1, .int (nI e2))]) dX12_longest_16 (by decide) rfl ?_
    refine xi_sub (lv' := [(0, .ref L), (1, .int (nI e2)), (2, .int (-1)), (3, .int 0), (4, .int 0)]) [3, 4, 2, 1, 0] rfl ?_
    refine LX12_longest_18_s G hP i_keptMany i_taped i_faultKind i_faultPlace i_spot i_begin i_token i_value i_bad i_full i_bandRows i_bandFirsts i_outs f_state f_was f_kept f_tape f_order f_rest f_ways f_costs f_bandBest f_found f_drawn f_joined f_out (by omega) (by omega) (by omega) (by omega) (by omega) (by omega) hG hE e2 (by omega) Q _ (fun u11 u12 hq => ?_) ((f_state (91 * e2)).toNatClampNeg - 0) 0 ((-1 : Int32)) ((0 : Int32)) rfl (by omega) hq
    refine xi_iload_n 0 dX12_longest_106 rfl ?_
    exact xi_iret dX12_longest_107 rfl rfl (Nat.le_of_ble_eq_true rfl) (Nat.le_of_ble_eq_true rfl) ⟨_, rfl, hq, rfl⟩
  · rw [if_pos c1] at hq
    refine xi_bipush (v := (-2)) dX12_longest_8 (by decide) ?_
    exact xi_iret dX12_longest_10 rfl rfl (Nat.le_of_ble_eq_true rfl) (Nat.le_of_ble_eq_true rfl) ⟨_, rfl, hq, rfl⟩
def FX12_split (f_state : Nat → Int32) (x : Int32) (y : Int32) (t : Int32) : Int32 := (if (FX12_isNet f_state x) = (0 : Int32) then (-2 : Int32) else (if (FX12_in y.toInt64 ((0 : Int64)) (((((1 : Int32) <<< ((nI ((f_state (91 * x.toNatClampNeg)).toNatClampNeg)) &&& 31)) - (1 : Int32)).toInt64))) = (0 : Int32) then (-2 : Int32) else (if (FX12_in t.toInt64 ((0 : Int64)) ((2 : Int64))) = (0 : Int32) then (-2 : Int32) else (FX12_splitOf f_state x.toNatClampNeg y t))))
set_option maxHeartbeats 4000000 in
set_option maxRecDepth 100000 in
theorem FX12_split_ok (G : xG) {P R : xMem} {L : Nat} (hP : P.length = L) (i_keptMany : Nat) (i_taped : Nat) (i_faultKind : Int32) (i_faultPlace : Int32) (i_spot : Nat) (i_begin : Nat) (i_token : Int32) (i_value : Int32) (i_bad : Int32) (i_full : Nat) (i_bandRows : Int32) (i_bandFirsts : Int32) (i_outs : Nat) (f_state : Nat → Int32) (f_was : Nat → Int32) (f_kept : Nat → Int32) (f_tape : Nat → Int32) (f_order : Nat → Int32) (f_rest : Nat → Int32) (f_ways : Nat → Int32) (f_costs : Nat → Int32) (f_bandBest : Nat → Int32) (f_found : Nat → Int32) (f_drawn : Nat → Int32) (f_joined : Nat → Int32) (f_out : Nat → Int32) (bi_keptMany : i_keptMany ≤ 10) (bi_taped : i_taped ≤ 400) (bi_spot : i_spot ≤ 400) (bi_begin : i_begin ≤ 400) (bi_full : i_full ≤ 511) (bi_outs : i_outs ≤ 400) (hG : GO f_state) (x : Int32) (y : Int32) (t : Int32) (M : xMem) (hM : M = (P ++ (MDL L i_keptMany i_taped i_faultKind i_faultPlace i_spot i_begin i_token i_value i_bad i_full i_bandRows i_bandFirsts i_outs f_state f_was f_kept f_tape f_order f_rest f_ways f_costs f_bandBest f_found f_drawn f_joined f_out ++ R))) (Q : Int32 → Prop) (hq : Q (FX12_split f_state x y t)) : xC G mX12_split 3 0 0 [.ref L, .int x, .int y, .int t] M (fun v M2 => ∃ o : Int32, v = some (.int o) ∧ Q o ∧ M2 = (P ++ (MDL L i_keptMany i_taped i_faultKind i_faultPlace i_spot i_begin i_token i_value i_bad i_full i_bandRows i_bandFirsts i_outs f_state f_was f_kept f_tape f_order f_rest f_ways f_costs f_bandBest f_found f_drawn f_joined f_out ++ R))) := by
  subst hM
  unfold FX12_split at hq
  refine xC.of (by decide) (Nat.le_of_ble_eq_true rfl) ?_
  show xW _ _ _ _ 0 [(0, .ref L), (1, .int x), (2, .int y), (3, .int t)] [] _ 0 0
  refine xi_aload_n 0 dX12_split_0 rfl ?_
  refine xi_iload_n 1 dX12_split_1 rfl ?_
  refine xi_callV (as := [.int x]) (rest := []) dX12_split_2 (FX12_isNet_ok G hP i_keptMany i_taped i_faultKind i_faultPlace i_spot i_begin i_token i_value i_bad i_full i_bandRows i_bandFirsts i_outs f_state f_was f_kept f_tape f_order f_rest f_ways f_costs f_bandBest f_found f_drawn f_joined f_out (by omega) (by omega) (by omega) (by omega) (by omega) (by omega) hG x _ rfl (fun r => r = FX12_isNet f_state x) rfl) mkX12_isNet w_1104 ws_35 w_1102 (xpg0 hP rfl) rfl rfl rfl rfl (Nat.le_of_ble_eq_true rfl) (Nat.le_of_ble_eq_true rfl) (Nat.le_of_ble_eq_true rfl) (Nat.le_of_ble_eq_true rfl) (Nat.le_of_ble_eq_true rfl) ?_
  intro v M2 hz
  obtain ⟨_, rfl, rfl, rfl⟩ := hz
  show xW _ _ _ _ 5 _ [.int (FX12_isNet f_state x)] (P ++ (MDL L i_keptMany i_taped i_faultKind i_faultPlace i_spot i_begin i_token i_value i_bad i_full i_bandRows i_bandFirsts i_outs f_state f_was f_kept f_tape f_order f_rest f_ways f_costs f_bandBest f_found f_drawn f_joined f_out ++ R)) _ _
  refine xi_if_eq (tgt := 49) dX12_split_5 (by decide) (fun c1 => ?_) (fun c1 => ?_)
  · rw [if_pos c1] at hq
    refine xi_bipush (v := (-2)) dX12_split_49 (by decide) ?_
    exact xi_iret dX12_split_51 rfl rfl (Nat.le_of_ble_eq_true rfl) (Nat.le_of_ble_eq_true rfl) ⟨_, rfl, hq, rfl⟩
  · rw [if_neg c1] at hq
    obtain ⟨e2, e2b, e2h⟩ := net_in c1
    have e2c : x.toNatClampNeg = e2 := by rw [e2h]; exact nI_clamp (by omega)
    try rw [e2c] at hq
    subst e2h
    have e2g := (hG e2 e2b).1.2
    refine xi_iload_n 2 dX12_split_8 rfl ?_
    refine xi_i2l dX12_split_9 rfl ?_
    refine xi_lconst (v := 0) dX12_split_10 (by decide) ?_
    refine xi_iconst (v := 1) dX12_split_11 (by decide) ?_
    refine xi_aload_n 0 dX12_split_12 rfl ?_
    refine xi_iload_n 1 dX12_split_13 rfl ?_
    refine xi_callV (as := [.int (nI e2)]) (rest := [.int 1, .long 0, .long y.toInt64]) dX12_split_14 (FX12_points_ok G hP i_keptMany i_taped i_faultKind i_faultPlace i_spot i_begin i_token i_value i_bad i_full i_bandRows i_bandFirsts i_outs f_state f_was f_kept f_tape f_order f_rest f_ways f_costs f_bandBest f_found f_drawn f_joined f_out (by omega) (by omega) (by omega) (by omega) (by omega) (by omega) e2 (by omega) _ rfl (fun r => r = nI ((f_state (91 * e2)).toNatClampNeg)) ((hG e2 (by omega)).1.1)) mkX12_points w_1108 ws_36 w_1106 (xpg0 hP rfl) rfl rfl rfl rfl (Nat.le_of_ble_eq_true rfl) (Nat.le_of_ble_eq_true rfl) (Nat.le_of_ble_eq_true rfl) (Nat.le_of_ble_eq_true rfl) (Nat.le_of_ble_eq_true rfl) ?_
    intro v M2 hz
    obtain ⟨_, rfl, rfl, rfl⟩ := hz
    show xW _ _ _ _ 17 _ [.int (nI ((f_state (91 * e2)).toNatClampNeg)), .int 1, .long 0, .long y.toInt64] (P ++ (MDL L i_keptMany i_taped i_faultKind i_faultPlace i_spot i_begin i_token i_value i_bad i_full i_bandRows i_bandFirsts i_outs f_state f_was f_kept f_tape f_order f_rest f_ways f_costs f_bandBest f_found f_drawn f_joined f_out ++ R)) _ _
    have o3 := (hG e2 (by omega)).1.2
    refine xi_ishl (v := ((1 : Int32) <<< ((nI ((f_state (91 * e2)).toNatClampNeg)) &&& 31))) dX12_split_17 rfl ?_
    refine xi_iconst (v := 1) dX12_split_18 (by decide) ?_
    refine xi_isub (v := (((1 : Int32) <<< ((nI ((f_state (91 * e2)).toNatClampNeg)) &&& 31)) - (1 : Int32))) dX12_split_19 rfl ?_
    refine xi_i2l dX12_split_20 rfl ?_
    refine xi_callS (as := [.long y.toInt64, .long 0, .long ((((1 : Int32) <<< ((nI ((f_state (91 * e2)).toNatClampNeg)) &&& 31)) - (1 : Int32)).toInt64)]) (rest := []) dX12_split_21 (FX12_in_ok G y.toInt64 ((0 : Int64)) (((((1 : Int32) <<< ((nI ((f_state (91 * e2)).toNatClampNeg)) &&& 31)) - (1 : Int32)).toInt64)) (fun r => r = FX12_in y.toInt64 ((0 : Int64)) (((((1 : Int32) <<< ((nI ((f_state (91 * e2)).toNatClampNeg)) &&& 31)) - (1 : Int32)).toInt64))) rfl) mkX12_in w_1100 w_1099 rfl rfl (Nat.le_of_ble_eq_true rfl) (Nat.le_of_ble_eq_true rfl) (Nat.le_of_ble_eq_true rfl) (Nat.le_of_ble_eq_true rfl) (Nat.le_of_ble_eq_true rfl) ?_
    intro v M2 hz
    obtain ⟨_, rfl, rfl, hM2⟩ := hz
    rw [hM2]
    show xW _ _ _ _ 24 _ [.int (FX12_in y.toInt64 ((0 : Int64)) (((((1 : Int32) <<< ((nI ((f_state (91 * e2)).toNatClampNeg)) &&& 31)) - (1 : Int32)).toInt64)))] (P ++ (MDL L i_keptMany i_taped i_faultKind i_faultPlace i_spot i_begin i_token i_value i_bad i_full i_bandRows i_bandFirsts i_outs f_state f_was f_kept f_tape f_order f_rest f_ways f_costs f_bandBest f_found f_drawn f_joined f_out ++ R)) _ _
    refine xi_if_eq (tgt := 49) dX12_split_24 (by decide) (fun c4 => ?_) (fun c4 => ?_)
    · rw [if_pos c4] at hq
      refine xi_bipush (v := (-2)) dX12_split_49 (by decide) ?_
      exact xi_iret dX12_split_51 rfl rfl (Nat.le_of_ble_eq_true rfl) (Nat.le_of_ble_eq_true rfl) ⟨_, rfl, hq, rfl⟩
    · rw [if_neg c4] at hq
      refine xi_iload_n 3 dX12_split_27 rfl ?_
      refine xi_i2l dX12_split_28 rfl ?_
      refine xi_lconst (v := 0) dX12_split_29 (by decide) ?_
      refine xi_ldc2 (v := 2) dX12_split_30 w_1098 ?_
      refine xi_callS (as := [.long t.toInt64, .long 0, .long 2]) (rest := []) dX12_split_33 (FX12_in_ok G t.toInt64 ((0 : Int64)) ((2 : Int64)) (fun r => r = FX12_in t.toInt64 ((0 : Int64)) ((2 : Int64))) rfl) mkX12_in w_1100 w_1099 rfl rfl (Nat.le_of_ble_eq_true rfl) (Nat.le_of_ble_eq_true rfl) (Nat.le_of_ble_eq_true rfl) (Nat.le_of_ble_eq_true rfl) (Nat.le_of_ble_eq_true rfl) ?_
      intro v M2 hz
      obtain ⟨_, rfl, rfl, hM2⟩ := hz
      rw [hM2]
      show xW _ _ _ _ 36 _ [.int (FX12_in t.toInt64 ((0 : Int64)) ((2 : Int64)))] (P ++ (MDL L i_keptMany i_taped i_faultKind i_faultPlace i_spot i_begin i_token i_value i_bad i_full i_bandRows i_bandFirsts i_outs f_state f_was f_kept f_tape f_order f_rest f_ways f_costs f_bandBest f_found f_drawn f_joined f_out ++ R)) _ _
      refine xi_if_eq (tgt := 49) dX12_split_36 (by decide) (fun c5 => ?_) (fun c5 => ?_)
      · rw [if_pos c5] at hq
        refine xi_bipush (v := (-2)) dX12_split_49 (by decide) ?_
        exact xi_iret dX12_split_51 rfl rfl (Nat.le_of_ble_eq_true rfl) (Nat.le_of_ble_eq_true rfl) ⟨_, rfl, hq, rfl⟩
      · rw [if_neg c5] at hq
        refine xi_aload_n 0 dX12_split_39 rfl ?_
        refine xi_iload_n 1 dX12_split_40 rfl ?_
        refine xi_iload_n 2 dX12_split_41 rfl ?_
        refine xi_iload_n 3 dX12_split_42 rfl ?_
        refine xi_callV (as := [.int (nI e2), .int y, .int t]) (rest := []) dX12_split_43 (FX12_splitOf_ok G hP i_keptMany i_taped i_faultKind i_faultPlace i_spot i_begin i_token i_value i_bad i_full i_bandRows i_bandFirsts i_outs f_state f_was f_kept f_tape f_order f_rest f_ways f_costs f_bandBest f_found f_drawn f_joined f_out (by omega) (by omega) (by omega) (by omega) (by omega) (by omega) hG e2 (by omega) y t _ rfl (fun r => r = FX12_splitOf f_state e2 y t) rfl) mkX12_splitOf w_1316 ws_72 w_1314 (xpg0 hP rfl) rfl rfl rfl rfl (Nat.le_of_ble_eq_true rfl) (Nat.le_of_ble_eq_true rfl) (Nat.le_of_ble_eq_true rfl) (Nat.le_of_ble_eq_true rfl) (Nat.le_of_ble_eq_true rfl) ?_
        intro v M2 hz
        obtain ⟨_, rfl, rfl, rfl⟩ := hz
        show xW _ _ _ _ 46 _ [.int (FX12_splitOf f_state e2 y t)] (P ++ (MDL L i_keptMany i_taped i_faultKind i_faultPlace i_spot i_begin i_token i_value i_bad i_full i_bandRows i_bandFirsts i_outs f_state f_was f_kept f_tape f_order f_rest f_ways f_costs f_bandBest f_found f_drawn f_joined f_out ++ R)) _ _
        refine xi_goto (tgt := 51) dX12_split_46 (by decide) ?_
        exact xi_iret dX12_split_51 rfl rfl (Nat.le_of_ble_eq_true rfl) (Nat.le_of_ble_eq_true rfl) ⟨_, rfl, hq, rfl⟩
def LX12_halve_15 (f_state : Nat → Int32) (n1 : Nat) (K : Int32 → Int32) : Nat → Nat → Int32 → Int32
  | 0, _, v2 => K v2
  | k + 1, j, v2 => (if (FX12_ones ((nI j))) = (nI (((f_state (91 * n1)).toNatClampNeg) / 2)) then (if v2 = (-1 : Int32) then (LX12_halve_15 f_state n1 K k (j + 1) ((nI j))) else (if (FX12_splitOf f_state n1 v2 ((0 : Int32))) ≤ (FX12_splitOf f_state n1 ((nI j)) ((0 : Int32))) then (LX12_halve_15 f_state n1 K k (j + 1) v2) else (LX12_halve_15 f_state n1 K k (j + 1) ((nI j))))) else (LX12_halve_15 f_state n1 K k (j + 1) v2))
set_option maxHeartbeats 4000000 in
set_option maxRecDepth 100000 in
theorem LX12_halve_15_s (G : xG) {P R : xMem} {L : Nat} (hP : P.length = L) (i_keptMany : Nat) (i_taped : Nat) (i_faultKind : Int32) (i_faultPlace : Int32) (i_spot : Nat) (i_begin : Nat) (i_token : Int32) (i_value : Int32) (i_bad : Int32) (i_full : Nat) (i_bandRows : Int32) (i_bandFirsts : Int32) (i_outs : Nat) (f_state : Nat → Int32) (f_was : Nat → Int32) (f_kept : Nat → Int32) (f_tape : Nat → Int32) (f_order : Nat → Int32) (f_rest : Nat → Int32) (f_ways : Nat → Int32) (f_costs : Nat → Int32) (f_bandBest : Nat → Int32) (f_found : Nat → Int32) (f_drawn : Nat → Int32) (f_joined : Nat → Int32) (f_out : Nat → Int32) (bi_keptMany : i_keptMany ≤ 10) (bi_taped : i_taped ≤ 400) (bi_spot : i_spot ≤ 400) (bi_begin : i_begin ≤ 400) (bi_full : i_full ≤ 511) (bi_outs : i_outs ≤ 400) (hG : GO f_state) (n1 : Nat) (bn1 : n1 < 3) (Q : Int32 → Prop) (K : Int32 → Int32) (HE : ∀ (v2 : Int32), Q (K v2) → xW G mX12_halve (xrm 3 0 0) (xQ G (fun v M2 => ∃ o : Int32, v = some (.int o) ∧ Q o ∧ M2 = (P ++ (MDL L i_keptMany i_taped i_faultKind i_faultPlace i_spot i_begin i_token i_value i_bad i_full i_bandRows i_bandFirsts i_outs f_state f_was f_kept f_tape f_order f_rest f_ways f_costs f_bandBest f_found f_drawn f_joined f_out ++ R))) 0 0) 70 [(2, .int v2)] [] (P ++ (MDL L i_keptMany i_taped i_faultKind i_faultPlace i_spot i_begin i_token i_value i_bad i_full i_bandRows i_bandFirsts i_outs f_state f_was f_kept f_tape f_order f_rest f_ways f_costs f_bandBest f_found f_drawn f_joined f_out ++ R)) 0 0) :
    ∀ (k j : Nat) (v2 : Int32), 2 ^ (f_state (91 * n1)).toNatClampNeg - j = k → j < 100000 → Q (LX12_halve_15 f_state n1 K k j v2) → xW G mX12_halve (xrm 3 0 0) (xQ G (fun v M2 => ∃ o : Int32, v = some (.int o) ∧ Q o ∧ M2 = (P ++ (MDL L i_keptMany i_taped i_faultKind i_faultPlace i_spot i_begin i_token i_value i_bad i_full i_bandRows i_bandFirsts i_outs f_state f_was f_kept f_tape f_order f_rest f_ways f_costs f_bandBest f_found f_drawn f_joined f_out ++ R))) 0 0) 15 [(0, .ref L), (1, .int (nI n1)), (2, .int v2), (3, .int (nI j))] [] (P ++ (MDL L i_keptMany i_taped i_faultKind i_faultPlace i_spot i_begin i_token i_value i_bad i_full i_bandRows i_bandFirsts i_outs f_state f_was f_kept f_tape f_order f_rest f_ways f_costs f_bandBest f_found f_drawn f_joined f_out ++ R)) 0 0 := by
  intro k
  induction k with
  | zero =>
    intro j v2 hj hj2 hq
    rw [LX12_halve_15] at hq
    refine xi_iload_n 3 dX12_halve_15 rfl ?_
    refine xi_iconst (v := 1) dX12_halve_16 (by decide) ?_
    refine xi_aload_n 0 dX12_halve_17 rfl ?_
    refine xi_iload_n 1 dX12_halve_18 rfl ?_
    refine xi_callV (as := [.int (nI n1)]) (rest := [.int 1, .int (nI j)]) dX12_halve_19 (FX12_points_ok G hP i_keptMany i_taped i_faultKind i_faultPlace i_spot i_begin i_token i_value i_bad i_full i_bandRows i_bandFirsts i_outs f_state f_was f_kept f_tape f_order f_rest f_ways f_costs f_bandBest f_found f_drawn f_joined f_out (by omega) (by omega) (by omega) (by omega) (by omega) (by omega) n1 (by omega) _ rfl (fun r => r = nI ((f_state (91 * n1)).toNatClampNeg)) ((hG n1 (by omega)).1.1)) mkX12_points w_1108 ws_36 w_1106 (xpg0 hP rfl) rfl rfl rfl rfl (Nat.le_of_ble_eq_true rfl) (Nat.le_of_ble_eq_true rfl) (Nat.le_of_ble_eq_true rfl) (Nat.le_of_ble_eq_true rfl) (Nat.le_of_ble_eq_true rfl) ?_
    intro v M2 hz
    obtain ⟨_, rfl, rfl, rfl⟩ := hz
    show xW _ _ _ _ 22 _ [.int (nI ((f_state (91 * n1)).toNatClampNeg)), .int 1, .int (nI j)] (P ++ (MDL L i_keptMany i_taped i_faultKind i_faultPlace i_spot i_begin i_token i_value i_bad i_full i_bandRows i_bandFirsts i_outs f_state f_was f_kept f_tape f_order f_rest f_ways f_costs f_bandBest f_found f_drawn f_joined f_out ++ R)) _ _
    have o10 := (hG n1 (by omega)).1.2
    have o11 := pow_le (n := ((f_state (91 * n1)).toNatClampNeg)) (by omega)
    have o12 := pow_pos (n := ((f_state (91 * n1)).toNatClampNeg))
    refine xi_ishl (v := (nI (2 ^ ((f_state (91 * n1)).toNatClampNeg)))) dX12_halve_22 (pow_nI (by omega)) ?_
    refine xi_icmp_ge_t (tgt := 70) dX12_halve_23 (by decide) (nI_le (a := 2 ^ (f_state (91 * n1)).toNatClampNeg) (b := j) (by omega) (by omega)) ?_
    refine xi_sub (lv' := [(2, .int v2)]) [2] rfl ?_
    exact HE v2 hq
  | succ k ih =>
    intro j v2 hj hj2 hq
    rw [LX12_halve_15] at hq
    refine xi_iload_n 3 dX12_halve_15 rfl ?_
    refine xi_iconst (v := 1) dX12_halve_16 (by decide) ?_
    refine xi_aload_n 0 dX12_halve_17 rfl ?_
    refine xi_iload_n 1 dX12_halve_18 rfl ?_
    refine xi_callV (as := [.int (nI n1)]) (rest := [.int 1, .int (nI j)]) dX12_halve_19 (FX12_points_ok G hP i_keptMany i_taped i_faultKind i_faultPlace i_spot i_begin i_token i_value i_bad i_full i_bandRows i_bandFirsts i_outs f_state f_was f_kept f_tape f_order f_rest f_ways f_costs f_bandBest f_found f_drawn f_joined f_out (by omega) (by omega) (by omega) (by omega) (by omega) (by omega) n1 (by omega) _ rfl (fun r => r = nI ((f_state (91 * n1)).toNatClampNeg)) ((hG n1 (by omega)).1.1)) mkX12_points w_1108 ws_36 w_1106 (xpg0 hP rfl) rfl rfl rfl rfl (Nat.le_of_ble_eq_true rfl) (Nat.le_of_ble_eq_true rfl) (Nat.le_of_ble_eq_true rfl) (Nat.le_of_ble_eq_true rfl) (Nat.le_of_ble_eq_true rfl) ?_
    intro v M2 hz
    obtain ⟨_, rfl, rfl, rfl⟩ := hz
    show xW _ _ _ _ 22 _ [.int (nI ((f_state (91 * n1)).toNatClampNeg)), .int 1, .int (nI j)] (P ++ (MDL L i_keptMany i_taped i_faultKind i_faultPlace i_spot i_begin i_token i_value i_bad i_full i_bandRows i_bandFirsts i_outs f_state f_was f_kept f_tape f_order f_rest f_ways f_costs f_bandBest f_found f_drawn f_joined f_out ++ R)) _ _
    have o3 := (hG n1 (by omega)).1.2
    have o4 := pow_le (n := ((f_state (91 * n1)).toNatClampNeg)) (by omega)
    have o5 := pow_pos (n := ((f_state (91 * n1)).toNatClampNeg))
    refine xi_ishl (v := (nI (2 ^ ((f_state (91 * n1)).toNatClampNeg)))) dX12_halve_22 (pow_nI (by omega)) ?_
    refine xi_icmp_ge_f (tgt := 70) dX12_halve_23 (by decide) (nI_ge (a := j) (b := 2 ^ (f_state (91 * n1)).toNatClampNeg) (by omega) (by omega)) ?_
    refine xi_iload_n 3 dX12_halve_26 rfl ?_
    refine xi_callS (as := [.int (nI j)]) (rest := []) dX12_halve_27 (FX12_ones_ok G ((nI j)) (fun r => r = FX12_ones ((nI j))) rfl) mkX12_ones w_1195 w_1194 rfl rfl (Nat.le_of_ble_eq_true rfl) (Nat.le_of_ble_eq_true rfl) (Nat.le_of_ble_eq_true rfl) (Nat.le_of_ble_eq_true rfl) (Nat.le_of_ble_eq_true rfl) ?_
    intro v M2 hz
    obtain ⟨_, rfl, rfl, hM2⟩ := hz
    rw [hM2]
    show xW _ _ _ _ 30 _ [.int (FX12_ones ((nI j)))] (P ++ (MDL L i_keptMany i_taped i_faultKind i_faultPlace i_spot i_begin i_token i_value i_bad i_full i_bandRows i_bandFirsts i_outs f_state f_was f_kept f_tape f_order f_rest f_ways f_costs f_bandBest f_found f_drawn f_joined f_out ++ R)) _ _
    refine xi_aload_n 0 dX12_halve_30 rfl ?_
    refine xi_iload_n 1 dX12_halve_31 rfl ?_
    refine xi_callV (as := [.int (nI n1)]) (rest := [.int (FX12_ones ((nI j)))]) dX12_halve_32 (FX12_points_ok G hP i_keptMany i_taped i_faultKind i_faultPlace i_spot i_begin i_token i_value i_bad i_full i_bandRows i_bandFirsts i_outs f_state f_was f_kept f_tape f_order f_rest f_ways f_costs f_bandBest f_found f_drawn f_joined f_out (by omega) (by omega) (by omega) (by omega) (by omega) (by omega) n1 (by omega) _ rfl (fun r => r = nI ((f_state (91 * n1)).toNatClampNeg)) ((hG n1 (by omega)).1.1)) mkX12_points w_1108 ws_36 w_1106 (xpg0 hP rfl) rfl rfl rfl rfl (Nat.le_of_ble_eq_true rfl) (Nat.le_of_ble_eq_true rfl) (Nat.le_of_ble_eq_true rfl) (Nat.le_of_ble_eq_true rfl) (Nat.le_of_ble_eq_true rfl) ?_
    intro v M2 hz
    obtain ⟨_, rfl, rfl, rfl⟩ := hz
    show xW _ _ _ _ 35 _ [.int (nI ((f_state (91 * n1)).toNatClampNeg)), .int (FX12_ones ((nI j)))] (P ++ (MDL L i_keptMany i_taped i_faultKind i_faultPlace i_spot i_begin i_token i_value i_bad i_full i_bandRows i_bandFirsts i_outs f_state f_was f_kept f_tape f_order f_rest f_ways f_costs f_bandBest f_found f_drawn f_joined f_out ++ R)) _ _
    have o6 := (hG n1 (by omega)).1.2
    refine xi_iconst (v := 2) dX12_halve_35 (by decide) ?_
    refine xi_idiv (v := (nI (((f_state (91 * n1)).toNatClampNeg) / 2))) dX12_halve_36 (by decide) (pk_div (a := ((f_state (91 * n1)).toNatClampNeg)) (d := 2) (by omega) (by omega) (by omega)) ?_
    refine xi_icmp_ne (tgt := 64) dX12_halve_37 (by decide) (fun c7 => ?_) (fun c7 => ?_)
    · rw [if_neg c7] at hq
      refine xi_iinc (v := (nI (j + 1))) (lv' := [(3, .int (nI (j + 1))), (0, .ref L), (1, .int (nI n1)), (2, .int v2)]) 3 dX12_halve_64 rfl (nI_1 _) (by decide) rfl ?_
      refine xi_goto (tgt := 15) dX12_halve_67 (by decide) ?_
      refine xi_sub (lv' := [(0, .ref L), (1, .int (nI n1)), (2, .int v2), (3, .int (nI (j + 1)))]) [1, 2, 3, 0] rfl ?_
      exact ih (j + 1) v2 (by omega) (by omega) hq
    · rw [if_pos c7] at hq
      refine xi_iload_n 2 dX12_halve_40 rfl ?_
      refine xi_iconst (v := (-1)) dX12_halve_41 (by decide) ?_
      refine xi_icmp_eq (tgt := 62) dX12_halve_42 (by decide) (fun c8 => ?_) (fun c8 => ?_)
      · rw [if_pos c8] at hq
        refine xi_iload_n 3 dX12_halve_62 rfl ?_
        refine xi_istore_n (lv' := [(2, .int (nI j)), (0, .ref L), (1, .int (nI n1)), (3, .int (nI j))]) dX12_halve_63 (by decide) rfl ?_
        refine xi_iinc (v := (nI (j + 1))) (lv' := [(3, .int (nI (j + 1))), (2, .int (nI j)), (0, .ref L), (1, .int (nI n1))]) 3 dX12_halve_64 rfl (nI_1 _) (by decide) rfl ?_
        refine xi_goto (tgt := 15) dX12_halve_67 (by decide) ?_
        refine xi_sub (lv' := [(0, .ref L), (1, .int (nI n1)), (2, .int (nI j)), (3, .int (nI (j + 1)))]) [2, 3, 1, 0] rfl ?_
        exact ih (j + 1) ((nI j)) (by omega) (by omega) hq
      · rw [if_neg c8] at hq
        refine xi_aload_n 0 dX12_halve_45 rfl ?_
        refine xi_iload_n 1 dX12_halve_46 rfl ?_
        refine xi_iload_n 3 dX12_halve_47 rfl ?_
        refine xi_iconst (v := 0) dX12_halve_48 (by decide) ?_
        refine xi_callV (as := [.int (nI n1), .int (nI j), .int 0]) (rest := []) dX12_halve_49 (FX12_splitOf_ok G hP i_keptMany i_taped i_faultKind i_faultPlace i_spot i_begin i_token i_value i_bad i_full i_bandRows i_bandFirsts i_outs f_state f_was f_kept f_tape f_order f_rest f_ways f_costs f_bandBest f_found f_drawn f_joined f_out (by omega) (by omega) (by omega) (by omega) (by omega) (by omega) hG n1 (by omega) ((nI j)) ((0 : Int32)) _ rfl (fun r => r = FX12_splitOf f_state n1 ((nI j)) ((0 : Int32))) rfl) mkX12_splitOf w_1316 ws_72 w_1314 (xpg0 hP rfl) rfl rfl rfl rfl (Nat.le_of_ble_eq_true rfl) (Nat.le_of_ble_eq_true rfl) (Nat.le_of_ble_eq_true rfl) (Nat.le_of_ble_eq_true rfl) (Nat.le_of_ble_eq_true rfl) ?_
        intro v M2 hz
        obtain ⟨_, rfl, rfl, rfl⟩ := hz
        show xW _ _ _ _ 52 _ [.int (FX12_splitOf f_state n1 ((nI j)) ((0 : Int32)))] (P ++ (MDL L i_keptMany i_taped i_faultKind i_faultPlace i_spot i_begin i_token i_value i_bad i_full i_bandRows i_bandFirsts i_outs f_state f_was f_kept f_tape f_order f_rest f_ways f_costs f_bandBest f_found f_drawn f_joined f_out ++ R)) _ _
        refine xi_aload_n 0 dX12_halve_52 rfl ?_
        refine xi_iload_n 1 dX12_halve_53 rfl ?_
        refine xi_iload_n 2 dX12_halve_54 rfl ?_
        refine xi_iconst (v := 0) dX12_halve_55 (by decide) ?_
        refine xi_callV (as := [.int (nI n1), .int v2, .int 0]) (rest := [.int (FX12_splitOf f_state n1 ((nI j)) ((0 : Int32)))]) dX12_halve_56 (FX12_splitOf_ok G hP i_keptMany i_taped i_faultKind i_faultPlace i_spot i_begin i_token i_value i_bad i_full i_bandRows i_bandFirsts i_outs f_state f_was f_kept f_tape f_order f_rest f_ways f_costs f_bandBest f_found f_drawn f_joined f_out (by omega) (by omega) (by omega) (by omega) (by omega) (by omega) hG n1 (by omega) v2 ((0 : Int32)) _ rfl (fun r => r = FX12_splitOf f_state n1 v2 ((0 : Int32))) rfl) mkX12_splitOf w_1316 ws_72 w_1314 (xpg0 hP rfl) rfl rfl rfl rfl (Nat.le_of_ble_eq_true rfl) (Nat.le_of_ble_eq_true rfl) (Nat.le_of_ble_eq_true rfl) (Nat.le_of_ble_eq_true rfl) (Nat.le_of_ble_eq_true rfl) ?_
        intro v M2 hz
        obtain ⟨_, rfl, rfl, rfl⟩ := hz
        show xW _ _ _ _ 59 _ [.int (FX12_splitOf f_state n1 v2 ((0 : Int32))), .int (FX12_splitOf f_state n1 ((nI j)) ((0 : Int32)))] (P ++ (MDL L i_keptMany i_taped i_faultKind i_faultPlace i_spot i_begin i_token i_value i_bad i_full i_bandRows i_bandFirsts i_outs f_state f_was f_kept f_tape f_order f_rest f_ways f_costs f_bandBest f_found f_drawn f_joined f_out ++ R)) _ _
        refine xi_icmp_ge (tgt := 64) dX12_halve_59 (by decide) (fun c9 => ?_) (fun c9 => ?_)
        · rw [if_pos c9] at hq
          refine xi_iinc (v := (nI (j + 1))) (lv' := [(3, .int (nI (j + 1))), (0, .ref L), (1, .int (nI n1)), (2, .int v2)]) 3 dX12_halve_64 rfl (nI_1 _) (by decide) rfl ?_
          refine xi_goto (tgt := 15) dX12_halve_67 (by decide) ?_
          refine xi_sub (lv' := [(0, .ref L), (1, .int (nI n1)), (2, .int v2), (3, .int (nI (j + 1)))]) [1, 2, 3, 0] rfl ?_
          exact ih (j + 1) v2 (by omega) (by omega) hq
        · rw [if_neg c9] at hq
          refine xi_iload_n 3 dX12_halve_62 rfl ?_
          refine xi_istore_n (lv' := [(2, .int (nI j)), (0, .ref L), (1, .int (nI n1)), (3, .int (nI j))]) dX12_halve_63 (by decide) rfl ?_
          refine xi_iinc (v := (nI (j + 1))) (lv' := [(3, .int (nI (j + 1))), (2, .int (nI j)), (0, .ref L), (1, .int (nI n1))]) 3 dX12_halve_64 rfl (nI_1 _) (by decide) rfl ?_
          refine xi_goto (tgt := 15) dX12_halve_67 (by decide) ?_
          refine xi_sub (lv' := [(0, .ref L), (1, .int (nI n1)), (2, .int (nI j)), (3, .int (nI (j + 1)))]) [2, 3, 1, 0] rfl ?_
          exact ih (j + 1) ((nI j)) (by omega) (by omega) hq
def FX12_halve (f_state : Nat → Int32) (x : Int32) : Int32 := (if (FX12_isNet f_state x) = (0 : Int32) then (-2 : Int32) else (LX12_halve_15 f_state x.toNatClampNeg (fun u13 => u13) ((2 ^ (f_state (91 * x.toNatClampNeg)).toNatClampNeg) - 0) 0 ((-1 : Int32))))
set_option maxHeartbeats 4000000 in
set_option maxRecDepth 100000 in
theorem FX12_halve_ok (G : xG) {P R : xMem} {L : Nat} (hP : P.length = L) (i_keptMany : Nat) (i_taped : Nat) (i_faultKind : Int32) (i_faultPlace : Int32) (i_spot : Nat) (i_begin : Nat) (i_token : Int32) (i_value : Int32) (i_bad : Int32) (i_full : Nat) (i_bandRows : Int32) (i_bandFirsts : Int32) (i_outs : Nat) (f_state : Nat → Int32) (f_was : Nat → Int32) (f_kept : Nat → Int32) (f_tape : Nat → Int32) (f_order : Nat → Int32) (f_rest : Nat → Int32) (f_ways : Nat → Int32) (f_costs : Nat → Int32) (f_bandBest : Nat → Int32) (f_found : Nat → Int32) (f_drawn : Nat → Int32) (f_joined : Nat → Int32) (f_out : Nat → Int32) (bi_keptMany : i_keptMany ≤ 10) (bi_taped : i_taped ≤ 400) (bi_spot : i_spot ≤ 400) (bi_begin : i_begin ≤ 400) (bi_full : i_full ≤ 511) (bi_outs : i_outs ≤ 400) (hG : GO f_state) (x : Int32) (M : xMem) (hM : M = (P ++ (MDL L i_keptMany i_taped i_faultKind i_faultPlace i_spot i_begin i_token i_value i_bad i_full i_bandRows i_bandFirsts i_outs f_state f_was f_kept f_tape f_order f_rest f_ways f_costs f_bandBest f_found f_drawn f_joined f_out ++ R))) (Q : Int32 → Prop) (hq : Q (FX12_halve f_state x)) : xC G mX12_halve 3 0 0 [.ref L, .int x] M (fun v M2 => ∃ o : Int32, v = some (.int o) ∧ Q o ∧ M2 = (P ++ (MDL L i_keptMany i_taped i_faultKind i_faultPlace i_spot i_begin i_token i_value i_bad i_full i_bandRows i_bandFirsts i_outs f_state f_was f_kept f_tape f_order f_rest f_ways f_costs f_bandBest f_found f_drawn f_joined f_out ++ R))) := by
  subst hM
  unfold FX12_halve at hq
  refine xC.of (by decide) (Nat.le_of_ble_eq_true rfl) ?_
  show xW _ _ _ _ 0 [(0, .ref L), (1, .int x)] [] _ 0 0
  refine xi_aload_n 0 dX12_halve_0 rfl ?_
  refine xi_iload_n 1 dX12_halve_1 rfl ?_
  refine xi_callV (as := [.int x]) (rest := []) dX12_halve_2 (FX12_isNet_ok G hP i_keptMany i_taped i_faultKind i_faultPlace i_spot i_begin i_token i_value i_bad i_full i_bandRows i_bandFirsts i_outs f_state f_was f_kept f_tape f_order f_rest f_ways f_costs f_bandBest f_found f_drawn f_joined f_out (by omega) (by omega) (by omega) (by omega) (by omega) (by omega) hG x _ rfl (fun r => r = FX12_isNet f_state x) rfl) mkX12_isNet w_1104 ws_35 w_1102 (xpg0 hP rfl) rfl rfl rfl rfl (Nat.le_of_ble_eq_true rfl) (Nat.le_of_ble_eq_true rfl) (Nat.le_of_ble_eq_true rfl) (Nat.le_of_ble_eq_true rfl) (Nat.le_of_ble_eq_true rfl) ?_
  intro v M2 hz
  obtain ⟨_, rfl, rfl, rfl⟩ := hz
  show xW _ _ _ _ 5 _ [.int (FX12_isNet f_state x)] (P ++ (MDL L i_keptMany i_taped i_faultKind i_faultPlace i_spot i_begin i_token i_value i_bad i_full i_bandRows i_bandFirsts i_outs f_state f_was f_kept f_tape f_order f_rest f_ways f_costs f_bandBest f_found f_drawn f_joined f_out ++ R)) _ _
  refine xi_if_ne (tgt := 11) dX12_halve_5 (by decide) (fun c1 => ?_) (fun c1 => ?_)
  · rw [if_neg c1] at hq
    obtain ⟨e2, e2b, e2h⟩ := net_in c1
    have e2c : x.toNatClampNeg = e2 := by rw [e2h]; exact nI_clamp (by omega)
    try rw [e2c] at hq
    subst e2h
    have e2g := (hG e2 e2b).1.2
    refine xi_iconst (v := (-1)) dX12_halve_11 (by decide) ?_
    refine xi_istore_n (lv' := [(2, .int (-1)), (0, .ref L), (1, .int (nI e2))]) dX12_halve_12 (by decide) rfl ?_
    refine xi_iconst (v := 0) dX12_halve_13 (by decide) ?_
    refine xi_istore_n (lv' := [(3, .int 0), (2, .int (-1)), (0, .ref L), (1, .int (nI e2))]) dX12_halve_14 (by decide) rfl ?_
    refine xi_sub (lv' := [(0, .ref L), (1, .int (nI e2)), (2, .int (-1)), (3, .int 0)]) [2, 3, 1, 0] rfl ?_
    refine LX12_halve_15_s G hP i_keptMany i_taped i_faultKind i_faultPlace i_spot i_begin i_token i_value i_bad i_full i_bandRows i_bandFirsts i_outs f_state f_was f_kept f_tape f_order f_rest f_ways f_costs f_bandBest f_found f_drawn f_joined f_out (by omega) (by omega) (by omega) (by omega) (by omega) (by omega) hG e2 (by omega) Q _ (fun u13 hq => ?_) ((2 ^ (f_state (91 * e2)).toNatClampNeg) - 0) 0 ((-1 : Int32)) rfl (by omega) hq
    refine xi_iload_n 0 dX12_halve_70 rfl ?_
    exact xi_iret dX12_halve_71 rfl rfl (Nat.le_of_ble_eq_true rfl) (Nat.le_of_ble_eq_true rfl) ⟨_, rfl, hq, rfl⟩
  · rw [if_pos c1] at hq
    refine xi_bipush (v := (-2)) dX12_halve_8 (by decide) ?_
    exact xi_iret dX12_halve_10 rfl rfl (Nat.le_of_ble_eq_true rfl) (Nat.le_of_ble_eq_true rfl) ⟨_, rfl, hq, rfl⟩
def LX12_bag_67 (f_state : Nat → Int32) (n1 : Nat) (w5 : Int32) (K : Int32 → Int32) : Nat → Nat → Int32 → Int32
  | 0, _, v6 => K v6
  | k + 1, j, v6 => (if (FX12_has w5 ((nI j))) = (0 : Int32) then (LX12_bag_67 f_state n1 w5 K k (j + 1) ((v6 ||| (0 : Int32)))) else (if ((FX12_nearOf f_state n1 j) &&& (w5 ^^^ (-1 : Int32))) = (0 : Int32) then (LX12_bag_67 f_state n1 w5 K k (j + 1) ((v6 ||| (0 : Int32)))) else (LX12_bag_67 f_state n1 w5 K k (j + 1) ((v6 ||| ((1 : Int32) <<< ((nI j) &&& 31)))))))
set_option maxHeartbeats 4000000 in
set_option maxRecDepth 100000 in
theorem LX12_bag_67_s (G : xG) {P R : xMem} {L : Nat} (hP : P.length = L) (i_keptMany : Nat) (i_taped : Nat) (i_faultKind : Int32) (i_faultPlace : Int32) (i_spot : Nat) (i_begin : Nat) (i_token : Int32) (i_value : Int32) (i_bad : Int32) (i_full : Nat) (i_bandRows : Int32) (i_bandFirsts : Int32) (i_outs : Nat) (f_state : Nat → Int32) (f_was : Nat → Int32) (f_kept : Nat → Int32) (f_tape : Nat → Int32) (f_order : Nat → Int32) (f_rest : Nat → Int32) (f_ways : Nat → Int32) (f_costs : Nat → Int32) (f_bandBest : Nat → Int32) (f_found : Nat → Int32) (f_drawn : Nat → Int32) (f_joined : Nat → Int32) (f_out : Nat → Int32) (bi_keptMany : i_keptMany ≤ 10) (bi_taped : i_taped ≤ 400) (bi_spot : i_spot ≤ 400) (bi_begin : i_begin ≤ 400) (bi_full : i_full ≤ 511) (bi_outs : i_outs ≤ 400) (hG : GO f_state) (n1 : Nat) (bn1 : n1 < 3) (w5 : Int32) (Q : Int32 → Prop) (K : Int32 → Int32) (HE : ∀ (v6 : Int32), Q (K v6) → xW G mX12_bag (xrm 4 0 0) (xQ G (fun v M2 => ∃ o : Int32, v = some (.int o) ∧ Q o ∧ M2 = (P ++ (MDL L i_keptMany i_taped i_faultKind i_faultPlace i_spot i_begin i_token i_value i_bad i_full i_bandRows i_bandFirsts i_outs f_state f_was f_kept f_tape f_order f_rest f_ways f_costs f_bandBest f_found f_drawn f_joined f_out ++ R))) 0 0) 121 [(6, .int v6)] [] (P ++ (MDL L i_keptMany i_taped i_faultKind i_faultPlace i_spot i_begin i_token i_value i_bad i_full i_bandRows i_bandFirsts i_outs f_state f_was f_kept f_tape f_order f_rest f_ways f_costs f_bandBest f_found f_drawn f_joined f_out ++ R)) 0 0) :
    ∀ (k j : Nat) (v6 : Int32), (f_state (91 * n1)).toNatClampNeg - j = k → j < 100000 → Q (LX12_bag_67 f_state n1 w5 K k j v6) → xW G mX12_bag (xrm 4 0 0) (xQ G (fun v M2 => ∃ o : Int32, v = some (.int o) ∧ Q o ∧ M2 = (P ++ (MDL L i_keptMany i_taped i_faultKind i_faultPlace i_spot i_begin i_token i_value i_bad i_full i_bandRows i_bandFirsts i_outs f_state f_was f_kept f_tape f_order f_rest f_ways f_costs f_bandBest f_found f_drawn f_joined f_out ++ R))) 0 0) 67 [(0, .ref L), (1, .int (nI n1)), (5, .int w5), (6, .int v6), (7, .int (nI j))] [] (P ++ (MDL L i_keptMany i_taped i_faultKind i_faultPlace i_spot i_begin i_token i_value i_bad i_full i_bandRows i_bandFirsts i_outs f_state f_was f_kept f_tape f_order f_rest f_ways f_costs f_bandBest f_found f_drawn f_joined f_out ++ R)) 0 0 := by
  intro k
  induction k with
  | zero =>
    intro j v6 hj hj2 hq
    rw [LX12_bag_67] at hq
    refine xi_iload 4 dX12_bag_67 rfl ?_
    refine xi_aload_n 0 dX12_bag_69 rfl ?_
    refine xi_iload_n 1 dX12_bag_70 rfl ?_
    refine xi_callV (as := [.int (nI n1)]) (rest := [.int (nI j)]) dX12_bag_71 (FX12_points_ok G hP i_keptMany i_taped i_faultKind i_faultPlace i_spot i_begin i_token i_value i_bad i_full i_bandRows i_bandFirsts i_outs f_state f_was f_kept f_tape f_order f_rest f_ways f_costs f_bandBest f_found f_drawn f_joined f_out (by omega) (by omega) (by omega) (by omega) (by omega) (by omega) n1 (by omega) _ rfl (fun r => r = nI ((f_state (91 * n1)).toNatClampNeg)) ((hG n1 (by omega)).1.1)) mkX12_points w_1108 ws_36 w_1106 (xpg0 hP rfl) rfl rfl rfl rfl (Nat.le_of_ble_eq_true rfl) (Nat.le_of_ble_eq_true rfl) (Nat.le_of_ble_eq_true rfl) (Nat.le_of_ble_eq_true rfl) (Nat.le_of_ble_eq_true rfl) ?_
    intro v M2 hz
    obtain ⟨_, rfl, rfl, rfl⟩ := hz
    show xW _ _ _ _ 74 _ [.int (nI ((f_state (91 * n1)).toNatClampNeg)), .int (nI j)] (P ++ (MDL L i_keptMany i_taped i_faultKind i_faultPlace i_spot i_begin i_token i_value i_bad i_full i_bandRows i_bandFirsts i_outs f_state f_was f_kept f_tape f_order f_rest f_ways f_costs f_bandBest f_found f_drawn f_joined f_out ++ R)) _ _
    have o10 := (hG n1 (by omega)).1.2
    refine xi_icmp_ge_t (tgt := 121) dX12_bag_74 (by decide) (nI_le (a := (f_state (91 * n1)).toNatClampNeg) (b := j) (by omega) (by omega)) ?_
    refine xi_sub (lv' := [(6, .int v6)]) [3] rfl ?_
    exact HE v6 hq
  | succ k ih =>
    intro j v6 hj hj2 hq
    rw [LX12_bag_67] at hq
    refine xi_iload 4 dX12_bag_67 rfl ?_
    refine xi_aload_n 0 dX12_bag_69 rfl ?_
    refine xi_iload_n 1 dX12_bag_70 rfl ?_
    refine xi_callV (as := [.int (nI n1)]) (rest := [.int (nI j)]) dX12_bag_71 (FX12_points_ok G hP i_keptMany i_taped i_faultKind i_faultPlace i_spot i_begin i_token i_value i_bad i_full i_bandRows i_bandFirsts i_outs f_state f_was f_kept f_tape f_order f_rest f_ways f_costs f_bandBest f_found f_drawn f_joined f_out (by omega) (by omega) (by omega) (by omega) (by omega) (by omega) n1 (by omega) _ rfl (fun r => r = nI ((f_state (91 * n1)).toNatClampNeg)) ((hG n1 (by omega)).1.1)) mkX12_points w_1108 ws_36 w_1106 (xpg0 hP rfl) rfl rfl rfl rfl (Nat.le_of_ble_eq_true rfl) (Nat.le_of_ble_eq_true rfl) (Nat.le_of_ble_eq_true rfl) (Nat.le_of_ble_eq_true rfl) (Nat.le_of_ble_eq_true rfl) ?_
    intro v M2 hz
    obtain ⟨_, rfl, rfl, rfl⟩ := hz
    show xW _ _ _ _ 74 _ [.int (nI ((f_state (91 * n1)).toNatClampNeg)), .int (nI j)] (P ++ (MDL L i_keptMany i_taped i_faultKind i_faultPlace i_spot i_begin i_token i_value i_bad i_full i_bandRows i_bandFirsts i_outs f_state f_was f_kept f_tape f_order f_rest f_ways f_costs f_bandBest f_found f_drawn f_joined f_out ++ R)) _ _
    have o7 := (hG n1 (by omega)).1.2
    refine xi_icmp_ge_f (tgt := 121) dX12_bag_74 (by decide) (nI_ge (a := j) (b := (f_state (91 * n1)).toNatClampNeg) (by omega) (by omega)) ?_
    refine xi_iload 3 dX12_bag_77 rfl ?_
    refine xi_iload 2 dX12_bag_79 rfl ?_
    refine xi_iload 4 dX12_bag_81 rfl ?_
    refine xi_callS (as := [.int w5, .int (nI j)]) (rest := [.int v6]) dX12_bag_83 (FX12_has_ok G w5 ((nI j)) (fun r => r = FX12_has w5 ((nI j))) rfl) mkX12_has w_1207 w_1206 rfl rfl (Nat.le_of_ble_eq_true rfl) (Nat.le_of_ble_eq_true rfl) (Nat.le_of_ble_eq_true rfl) (Nat.le_of_ble_eq_true rfl) (Nat.le_of_ble_eq_true rfl) ?_
    intro v M2 hz
    obtain ⟨_, rfl, rfl, hM2⟩ := hz
    rw [hM2]
    show xW _ _ _ _ 86 _ [.int (FX12_has w5 ((nI j))), .int v6] (P ++ (MDL L i_keptMany i_taped i_faultKind i_faultPlace i_spot i_begin i_token i_value i_bad i_full i_bandRows i_bandFirsts i_outs f_state f_was f_kept f_tape f_order f_rest f_ways f_costs f_bandBest f_found f_drawn f_joined f_out ++ R)) _ _
    refine xi_if_eq (tgt := 111) dX12_bag_86 (by decide) (fun c8 => ?_) (fun c8 => ?_)
    · rw [if_pos c8] at hq
      refine xi_iconst (v := 0) dX12_bag_111 (by decide) ?_
      refine xi_ior (v := (v6 ||| (0 : Int32))) dX12_bag_112 rfl ?_
      refine xi_istore (lv' := [(6, .int (v6 ||| (0 : Int32))), (0, .ref L), (1, .int (nI n1)), (5, .int w5), (7, .int (nI j))]) dX12_bag_113 (by decide) rfl ?_
      refine xi_iinc (v := (nI (j + 1))) (lv' := [(7, .int (nI (j + 1))), (6, .int (v6 ||| (0 : Int32))), (0, .ref L), (1, .int (nI n1)), (5, .int w5)]) 4 dX12_bag_115 rfl (nI_1 _) (by decide) rfl ?_
      refine xi_goto (tgt := 67) dX12_bag_118 (by decide) ?_
      refine xi_sub (lv' := [(0, .ref L), (1, .int (nI n1)), (5, .int w5), (6, .int (v6 ||| (0 : Int32))), (7, .int (nI (j + 1)))]) [2, 3, 4, 1, 0] rfl ?_
      exact ih (j + 1) ((v6 ||| (0 : Int32))) (by omega) (by omega) hq
    · rw [if_neg c8] at hq
      refine xi_aload_n 0 dX12_bag_89 rfl ?_
      refine xi_iload_n 1 dX12_bag_90 rfl ?_
      refine xi_iload 4 dX12_bag_91 rfl ?_
      refine xi_callV (as := [.int (nI n1), .int (nI j)]) (rest := [.int v6]) dX12_bag_93 (FX12_nearOf_ok G hP i_keptMany i_taped i_faultKind i_faultPlace i_spot i_begin i_token i_value i_bad i_full i_bandRows i_bandFirsts i_outs f_state f_was f_kept f_tape f_order f_rest f_ways f_costs f_bandBest f_found f_drawn f_joined f_out (by omega) (by omega) (by omega) (by omega) (by omega) (by omega) hG n1 (by omega) j (by omega) _ rfl (fun r => r = FX12_nearOf f_state n1 j) rfl) mkX12_nearOf w_1188 ws_52 w_1186 (xpg0 hP rfl) rfl rfl rfl rfl (Nat.le_of_ble_eq_true rfl) (Nat.le_of_ble_eq_true rfl) (Nat.le_of_ble_eq_true rfl) (Nat.le_of_ble_eq_true rfl) (Nat.le_of_ble_eq_true rfl) ?_
      intro v M2 hz
      obtain ⟨_, rfl, rfl, rfl⟩ := hz
      show xW _ _ _ _ 96 _ [.int (FX12_nearOf f_state n1 j), .int v6] (P ++ (MDL L i_keptMany i_taped i_faultKind i_faultPlace i_spot i_begin i_token i_value i_bad i_full i_bandRows i_bandFirsts i_outs f_state f_was f_kept f_tape f_order f_rest f_ways f_costs f_bandBest f_found f_drawn f_joined f_out ++ R)) _ _
      refine xi_iload 2 dX12_bag_96 rfl ?_
      refine xi_iconst (v := (-1)) dX12_bag_98 (by decide) ?_
      refine xi_ixor (v := (w5 ^^^ (-1 : Int32))) dX12_bag_99 rfl ?_
      refine xi_iand (v := ((FX12_nearOf f_state n1 j) &&& (w5 ^^^ (-1 : Int32)))) dX12_bag_100 rfl ?_
      refine xi_if_eq (tgt := 111) dX12_bag_101 (by decide) (fun c9 => ?_) (fun c9 => ?_)
      · rw [if_pos c9] at hq
        refine xi_iconst (v := 0) dX12_bag_111 (by decide) ?_
        refine xi_ior (v := (v6 ||| (0 : Int32))) dX12_bag_112 rfl ?_
        refine xi_istore (lv' := [(6, .int (v6 ||| (0 : Int32))), (0, .ref L), (1, .int (nI n1)), (5, .int w5), (7, .int (nI j))]) dX12_bag_113 (by decide) rfl ?_
        refine xi_iinc (v := (nI (j + 1))) (lv' := [(7, .int (nI (j + 1))), (6, .int (v6 ||| (0 : Int32))), (0, .ref L), (1, .int (nI n1)), (5, .int w5)]) 4 dX12_bag_115 rfl (nI_1 _) (by decide) rfl ?_
        refine xi_goto (tgt := 67) dX12_bag_118 (by decide) ?_
        refine xi_sub (lv' := [(0, .ref L), (1, .int (nI n1)), (5, .int w5), (6, .int (v6 ||| (0 : Int32))), (7, .int (nI (j + 1)))]) [2, 3, 4, 1, 0] rfl ?_
        exact ih (j + 1) ((v6 ||| (0 : Int32))) (by omega) (by omega) hq
      · rw [if_neg c9] at hq
        refine xi_iconst (v := 1) dX12_bag_104 (by decide) ?_
        refine xi_iload 4 dX12_bag_105 rfl ?_
        refine xi_ishl (v := ((1 : Int32) <<< ((nI j) &&& 31))) dX12_bag_107 rfl ?_
        refine xi_goto (tgt := 112) dX12_bag_108 (by decide) ?_
        refine xi_ior (v := (v6 ||| ((1 : Int32) <<< ((nI j) &&& 31)))) dX12_bag_112 rfl ?_
        refine xi_istore (lv' := [(6, .int (v6 ||| ((1 : Int32) <<< ((nI j) &&& 31)))), (0, .ref L), (1, .int (nI n1)), (5, .int w5), (7, .int (nI j))]) dX12_bag_113 (by decide) rfl ?_
        refine xi_iinc (v := (nI (j + 1))) (lv' := [(7, .int (nI (j + 1))), (6, .int (v6 ||| ((1 : Int32) <<< ((nI j) &&& 31)))), (0, .ref L), (1, .int (nI n1)), (5, .int w5)]) 4 dX12_bag_115 rfl (nI_1 _) (by decide) rfl ?_
        refine xi_goto (tgt := 67) dX12_bag_118 (by decide) ?_
        refine xi_sub (lv' := [(0, .ref L), (1, .int (nI n1)), (5, .int w5), (6, .int (v6 ||| ((1 : Int32) <<< ((nI j) &&& 31)))), (7, .int (nI (j + 1)))]) [2, 3, 4, 1, 0] rfl ?_
        exact ih (j + 1) ((v6 ||| ((1 : Int32) <<< ((nI j) &&& 31)))) (by omega) (by omega) hq
def FX12_bag (f_state : Nat → Int32) (x : Int32) (t : Int32) (y : Int32) : Int32 := (if (FX12_isPoint f_state x y) = (0 : Int32) then (-2 : Int32) else (if (FX12_in t.toInt64 ((0 : Int64)) ((1 : Int64))) = (0 : Int32) then (-2 : Int32) else (if t = (1 : Int32) then ((FX12_neighbours f_state x.toNatClampNeg ((FX12_aheadOf f_state x.toNatClampNeg y.toNatClampNeg)) ((f_state (91 * x.toNatClampNeg + 82 + y.toNatClampNeg)).toNatClampNeg)) ||| ((1 : Int32) <<< ((nI ((f_state (91 * x.toNatClampNeg + 82 + y.toNatClampNeg)).toNatClampNeg)) &&& 31))) else (LX12_bag_67 f_state x.toNatClampNeg ((FX12_aheadOf f_state x.toNatClampNeg y.toNatClampNeg)) (fun u11 => u11) ((f_state (91 * x.toNatClampNeg)).toNatClampNeg - 0) 0 (((1 : Int32) <<< ((nI ((f_state (91 * x.toNatClampNeg + 82 + y.toNatClampNeg)).toNatClampNeg)) &&& 31)))))))
set_option maxHeartbeats 4000000 in
set_option maxRecDepth 100000 in
theorem FX12_bag_ok (G : xG) {P R : xMem} {L : Nat} (hP : P.length = L) (i_keptMany : Nat) (i_taped : Nat) (i_faultKind : Int32) (i_faultPlace : Int32) (i_spot : Nat) (i_begin : Nat) (i_token : Int32) (i_value : Int32) (i_bad : Int32) (i_full : Nat) (i_bandRows : Int32) (i_bandFirsts : Int32) (i_outs : Nat) (f_state : Nat → Int32) (f_was : Nat → Int32) (f_kept : Nat → Int32) (f_tape : Nat → Int32) (f_order : Nat → Int32) (f_rest : Nat → Int32) (f_ways : Nat → Int32) (f_costs : Nat → Int32) (f_bandBest : Nat → Int32) (f_found : Nat → Int32) (f_drawn : Nat → Int32) (f_joined : Nat → Int32) (f_out : Nat → Int32) (bi_keptMany : i_keptMany ≤ 10) (bi_taped : i_taped ≤ 400) (bi_spot : i_spot ≤ 400) (bi_begin : i_begin ≤ 400) (bi_full : i_full ≤ 511) (bi_outs : i_outs ≤ 400) (hG : GO f_state) (x : Int32) (t : Int32) (y : Int32) (M : xMem) (hM : M = (P ++ (MDL L i_keptMany i_taped i_faultKind i_faultPlace i_spot i_begin i_token i_value i_bad i_full i_bandRows i_bandFirsts i_outs f_state f_was f_kept f_tape f_order f_rest f_ways f_costs f_bandBest f_found f_drawn f_joined f_out ++ R))) (Q : Int32 → Prop) (hq : Q (FX12_bag f_state x t y)) : xC G mX12_bag 4 0 0 [.ref L, .int x, .int t, .int y] M (fun v M2 => ∃ o : Int32, v = some (.int o) ∧ Q o ∧ M2 = (P ++ (MDL L i_keptMany i_taped i_faultKind i_faultPlace i_spot i_begin i_token i_value i_bad i_full i_bandRows i_bandFirsts i_outs f_state f_was f_kept f_tape f_order f_rest f_ways f_costs f_bandBest f_found f_drawn f_joined f_out ++ R))) := by
  subst hM
  unfold FX12_bag at hq
  refine xC.of (by decide) (Nat.le_of_ble_eq_true rfl) ?_
  show xW _ _ _ _ 0 [(0, .ref L), (1, .int x), (2, .int t), (3, .int y)] [] _ 0 0
  refine xi_aload_n 0 dX12_bag_0 rfl ?_
  refine xi_iload_n 1 dX12_bag_1 rfl ?_
  refine xi_iload_n 3 dX12_bag_2 rfl ?_
  refine xi_callV (as := [.int x, .int y]) (rest := []) dX12_bag_3 (FX12_isPoint_ok G hP i_keptMany i_taped i_faultKind i_faultPlace i_spot i_begin i_token i_value i_bad i_full i_bandRows i_bandFirsts i_outs f_state f_was f_kept f_tape f_order f_rest f_ways f_costs f_bandBest f_found f_drawn f_joined f_out (by omega) (by omega) (by omega) (by omega) (by omega) (by omega) hG x y _ rfl (fun r => r = FX12_isPoint f_state x y) rfl) mkX12_isPoint w_1257 ws_63 w_1255 (xpg0 hP rfl) rfl rfl rfl rfl (Nat.le_of_ble_eq_true rfl) (Nat.le_of_ble_eq_true rfl) (Nat.le_of_ble_eq_true rfl) (Nat.le_of_ble_eq_true rfl) (Nat.le_of_ble_eq_true rfl) ?_
  intro v M2 hz
  obtain ⟨_, rfl, rfl, rfl⟩ := hz
  show xW _ _ _ _ 6 _ [.int (FX12_isPoint f_state x y)] (P ++ (MDL L i_keptMany i_taped i_faultKind i_faultPlace i_spot i_begin i_token i_value i_bad i_full i_bandRows i_bandFirsts i_outs f_state f_was f_kept f_tape f_order f_rest f_ways f_costs f_bandBest f_found f_drawn f_joined f_out ++ R)) _ _
  refine xi_if_eq (tgt := 19) dX12_bag_6 (by decide) (fun c1 => ?_) (fun c1 => ?_)
  · rw [if_pos c1] at hq
    refine xi_bipush (v := (-2)) dX12_bag_19 (by decide) ?_
    exact xi_iret dX12_bag_21 rfl rfl (Nat.le_of_ble_eq_true rfl) (Nat.le_of_ble_eq_true rfl) ⟨_, rfl, hq, rfl⟩
  · rw [if_neg c1] at hq
    obtain ⟨e2, e2b, e2h⟩ := point_in c1
    have e2c : x.toNatClampNeg = e2 := by rw [e2h]; exact nI_clamp (by omega)
    try rw [e2c] at hq
    subst e2h
    have e2g := (hG e2 e2b).1.2
    obtain ⟨e3, e3b, e3h⟩ := point_in2 hG c1
    rw [nI_clamp (by omega)] at e3b
    have e3c : y.toNatClampNeg = e3 := by rw [e3h]; exact nI_clamp (by omega)
    try rw [e3c] at hq
    subst e3h
    refine xi_iload_n 2 dX12_bag_9 rfl ?_
    refine xi_i2l dX12_bag_10 rfl ?_
    refine xi_lconst (v := 0) dX12_bag_11 (by decide) ?_
    refine xi_lconst (v := 1) dX12_bag_12 (by decide) ?_
    refine xi_callS (as := [.long t.toInt64, .long 0, .long 1]) (rest := []) dX12_bag_13 (FX12_in_ok G t.toInt64 ((0 : Int64)) ((1 : Int64)) (fun r => r = FX12_in t.toInt64 ((0 : Int64)) ((1 : Int64))) rfl) mkX12_in w_1100 w_1099 rfl rfl (Nat.le_of_ble_eq_true rfl) (Nat.le_of_ble_eq_true rfl) (Nat.le_of_ble_eq_true rfl) (Nat.le_of_ble_eq_true rfl) (Nat.le_of_ble_eq_true rfl) ?_
    intro v M2 hz
    obtain ⟨_, rfl, rfl, hM2⟩ := hz
    rw [hM2]
    show xW _ _ _ _ 16 _ [.int (FX12_in t.toInt64 ((0 : Int64)) ((1 : Int64)))] (P ++ (MDL L i_keptMany i_taped i_faultKind i_faultPlace i_spot i_begin i_token i_value i_bad i_full i_bandRows i_bandFirsts i_outs f_state f_was f_kept f_tape f_order f_rest f_ways f_costs f_bandBest f_found f_drawn f_joined f_out ++ R)) _ _
    refine xi_if_ne (tgt := 22) dX12_bag_16 (by decide) (fun c4 => ?_) (fun c4 => ?_)
    · rw [if_neg c4] at hq
      refine xi_aload_n 0 dX12_bag_22 rfl ?_
      refine xi_iload_n 1 dX12_bag_23 rfl ?_
      refine xi_iload_n 3 dX12_bag_24 rfl ?_
      refine xi_callV (as := [.int (nI e2), .int (nI e3)]) (rest := []) dX12_bag_25 (FX12_at_ok G hP i_keptMany i_taped i_faultKind i_faultPlace i_spot i_begin i_token i_value i_bad i_full i_bandRows i_bandFirsts i_outs f_state f_was f_kept f_tape f_order f_rest f_ways f_costs f_bandBest f_found f_drawn f_joined f_out (by omega) (by omega) (by omega) (by omega) (by omega) (by omega) e2 (by omega) e3 (by omega) _ rfl (fun r => r = nI ((f_state (91 * e2 + 82 + e3)).toNatClampNeg)) (((hG e2 (by omega)).2 e3 (by omega)).1)) mkX12_at w_1273 ws_64 w_1271 (xpg0 hP rfl) rfl rfl rfl rfl (Nat.le_of_ble_eq_true rfl) (Nat.le_of_ble_eq_true rfl) (Nat.le_of_ble_eq_true rfl) (Nat.le_of_ble_eq_true rfl) (Nat.le_of_ble_eq_true rfl) ?_
      intro v M2 hz
      obtain ⟨_, rfl, rfl, rfl⟩ := hz
      show xW _ _ _ _ 28 _ [.int (nI ((f_state (91 * e2 + 82 + e3)).toNatClampNeg))] (P ++ (MDL L i_keptMany i_taped i_faultKind i_faultPlace i_spot i_begin i_token i_value i_bad i_full i_bandRows i_bandFirsts i_outs f_state f_was f_kept f_tape f_order f_rest f_ways f_costs f_bandBest f_found f_drawn f_joined f_out ++ R)) _ _
      have o5 := ((hG e2 (by omega)).2 e3 (by omega)).2
      refine xi_istore (lv' := [(4, .int (nI ((f_state (91 * e2 + 82 + e3)).toNatClampNeg))), (0, .ref L), (1, .int (nI e2)), (2, .int t), (3, .int (nI e3))]) dX12_bag_28 (by decide) rfl ?_
      refine xi_aload_n 1 dX12_bag_30 rfl ?_
      refine xi_iload_n 2 dX12_bag_31 rfl ?_
      refine xi_iload_n 4 dX12_bag_32 rfl ?_
      refine xi_callV (as := [.int (nI e2), .int (nI e3)]) (rest := []) dX12_bag_33 (FX12_aheadOf_ok G hP i_keptMany i_taped i_faultKind i_faultPlace i_spot i_begin i_token i_value i_bad i_full i_bandRows i_bandFirsts i_outs f_state f_was f_kept f_tape f_order f_rest f_ways f_costs f_bandBest f_found f_drawn f_joined f_out (by omega) (by omega) (by omega) (by omega) (by omega) (by omega) hG e2 (by omega) e3 (by omega) _ rfl (fun r => r = FX12_aheadOf f_state e2 e3) rfl) mkX12_aheadOf w_1337 ws_74 w_1335 (xpg0 hP rfl) rfl rfl rfl rfl (Nat.le_of_ble_eq_true rfl) (Nat.le_of_ble_eq_true rfl) (Nat.le_of_ble_eq_true rfl) (Nat.le_of_ble_eq_true rfl) (Nat.le_of_ble_eq_true rfl) ?_
      intro v M2 hz
      obtain ⟨_, rfl, rfl, rfl⟩ := hz
      show xW _ _ _ _ 36 _ [.int (FX12_aheadOf f_state e2 e3)] (P ++ (MDL L i_keptMany i_taped i_faultKind i_faultPlace i_spot i_begin i_token i_value i_bad i_full i_bandRows i_bandFirsts i_outs f_state f_was f_kept f_tape f_order f_rest f_ways f_costs f_bandBest f_found f_drawn f_joined f_out ++ R)) _ _
      refine xi_istore (lv' := [(5, .int (FX12_aheadOf f_state e2 e3)), (4, .int (nI ((f_state (91 * e2 + 82 + e3)).toNatClampNeg))), (0, .ref L), (1, .int (nI e2)), (2, .int t), (3, .int (nI e3))]) dX12_bag_36 (by decide) rfl ?_
      refine xi_iload_n 4 dX12_bag_38 rfl ?_
      refine xi_iconst (v := 1) dX12_bag_39 (by decide) ?_
      refine xi_icmp_ne (tgt := 58) dX12_bag_40 (by decide) (fun c6 => ?_) (fun c6 => ?_)
      · rw [if_neg c6] at hq
        refine xi_iconst (v := 1) dX12_bag_58 (by decide) ?_
        refine xi_iload 1 dX12_bag_59 rfl ?_
        refine xi_ishl (v := ((1 : Int32) <<< ((nI ((f_state (91 * e2 + 82 + e3)).toNatClampNeg)) &&& 31))) dX12_bag_61 rfl ?_
        refine xi_istore (lv' := [(6, .int ((1 : Int32) <<< ((nI ((f_state (91 * e2 + 82 + e3)).toNatClampNeg)) &&& 31))), (5, .int (FX12_aheadOf f_state e2 e3)), (4, .int (nI ((f_state (91 * e2 + 82 + e3)).toNatClampNeg))), (0, .ref L), (1, .int (nI e2)), (2, .int t), (3, .int (nI e3))]) dX12_bag_62 (by decide) rfl ?_
        refine xi_iconst (v := 0) dX12_bag_64 (by decide) ?_
        refine xi_istore (lv' := [(7, .int 0), (6, .int ((1 : Int32) <<< ((nI ((f_state (91 * e2 + 82 + e3)).toNatClampNeg)) &&& 31))), (5, .int (FX12_aheadOf f_state e2 e3)), (4, .int (nI ((f_state (91 * e2 + 82 + e3)).toNatClampNeg))), (0, .ref L), (1, .int (nI e2)), (2, .int t), (3, .int (nI e3))]) dX12_bag_65 (by decide) rfl ?_
        refine xi_sub (lv' := [(0, .ref L), (1, .int (nI e2)), (5, .int (FX12_aheadOf f_state e2 e3)), (6, .int ((1 : Int32) <<< ((nI ((f_state (91 * e2 + 82 + e3)).toNatClampNeg)) &&& 31))), (7, .int 0)]) [4, 5, 2, 1, 0] rfl ?_
        refine LX12_bag_67_s G hP i_keptMany i_taped i_faultKind i_faultPlace i_spot i_begin i_token i_value i_bad i_full i_bandRows i_bandFirsts i_outs f_state f_was f_kept f_tape f_order f_rest f_ways f_costs f_bandBest f_found f_drawn f_joined f_out (by omega) (by omega) (by omega) (by omega) (by omega) (by omega) hG e2 (by omega) ((FX12_aheadOf f_state e2 e3)) Q _ (fun u11 hq => ?_) ((f_state (91 * e2)).toNatClampNeg - 0) 0 (((1 : Int32) <<< ((nI ((f_state (91 * e2 + 82 + e3)).toNatClampNeg)) &&& 31))) rfl (by omega) hq
        refine xi_iload 0 dX12_bag_121 rfl ?_
        exact xi_iret dX12_bag_123 rfl rfl (Nat.le_of_ble_eq_true rfl) (Nat.le_of_ble_eq_true rfl) ⟨_, rfl, hq, rfl⟩
      · rw [if_pos c6] at hq
        refine xi_aload_n 2 dX12_bag_43 rfl ?_
        refine xi_iload_n 3 dX12_bag_44 rfl ?_
        refine xi_iload 0 dX12_bag_45 rfl ?_
        refine xi_iload 1 dX12_bag_47 rfl ?_
        refine xi_callV (as := [.int (nI e2), .int (FX12_aheadOf f_state e2 e3), .int (nI ((f_state (91 * e2 + 82 + e3)).toNatClampNeg))]) (rest := []) dX12_bag_49 (FX12_neighbours_ok G hP i_keptMany i_taped i_faultKind i_faultPlace i_spot i_begin i_token i_value i_bad i_full i_bandRows i_bandFirsts i_outs f_state f_was f_kept f_tape f_order f_rest f_ways f_costs f_bandBest f_found f_drawn f_joined f_out (by omega) (by omega) (by omega) (by omega) (by omega) (by omega) hG e2 (by omega) ((FX12_aheadOf f_state e2 e3)) ((f_state (91 * e2 + 82 + e3)).toNatClampNeg) (by omega) _ rfl (fun r => r = FX12_neighbours f_state e2 ((FX12_aheadOf f_state e2 e3)) ((f_state (91 * e2 + 82 + e3)).toNatClampNeg)) rfl) mkX12_neighbours w_1308 ws_70 w_1306 (xpg0 hP rfl) rfl rfl rfl rfl (Nat.le_of_ble_eq_true rfl) (Nat.le_of_ble_eq_true rfl) (Nat.le_of_ble_eq_true rfl) (Nat.le_of_ble_eq_true rfl) (Nat.le_of_ble_eq_true rfl) ?_
        intro v M2 hz
        obtain ⟨_, rfl, rfl, rfl⟩ := hz
        show xW _ _ _ _ 52 _ [.int (FX12_neighbours f_state e2 ((FX12_aheadOf f_state e2 e3)) ((f_state (91 * e2 + 82 + e3)).toNatClampNeg))] (P ++ (MDL L i_keptMany i_taped i_faultKind i_faultPlace i_spot i_begin i_token i_value i_bad i_full i_bandRows i_bandFirsts i_outs f_state f_was f_kept f_tape f_order f_rest f_ways f_costs f_bandBest f_found f_drawn f_joined f_out ++ R)) _ _
        refine xi_iconst (v := 1) dX12_bag_52 (by decide) ?_
        refine xi_iload 1 dX12_bag_53 rfl ?_
        refine xi_ishl (v := ((1 : Int32) <<< ((nI ((f_state (91 * e2 + 82 + e3)).toNatClampNeg)) &&& 31))) dX12_bag_55 rfl ?_
        refine xi_ior (v := ((FX12_neighbours f_state e2 ((FX12_aheadOf f_state e2 e3)) ((f_state (91 * e2 + 82 + e3)).toNatClampNeg)) ||| ((1 : Int32) <<< ((nI ((f_state (91 * e2 + 82 + e3)).toNatClampNeg)) &&& 31)))) dX12_bag_56 rfl ?_
        exact xi_iret dX12_bag_57 rfl rfl (Nat.le_of_ble_eq_true rfl) (Nat.le_of_ble_eq_true rfl) ⟨_, rfl, hq, rfl⟩
    · rw [if_pos c4] at hq
      refine xi_bipush (v := (-2)) dX12_bag_19 (by decide) ?_
      exact xi_iret dX12_bag_21 rfl rfl (Nat.le_of_ble_eq_true rfl) (Nat.le_of_ble_eq_true rfl) ⟨_, rfl, hq, rfl⟩
def FX12_priceOf (f_state : Nat → Int32) (z : Nat) (m : Int32) (p : Nat) : Int32 := (if (FX12_isTakenOut m) = (0 : Int32) then (FX12_cost f_state z m ((FX12_aheadOf f_state z (p - 1))) ((f_state (91 * z + 82 + (p - 1))).toNatClampNeg)) else (FX12_cost f_state z m ((FX12_aheadOf f_state z p)) ((f_state (91 * z + 82 + p)).toNatClampNeg)))
set_option maxHeartbeats 4000000 in
set_option maxRecDepth 100000 in
theorem FX12_priceOf_ok (G : xG) {P R : xMem} {L : Nat} (hP : P.length = L) (i_keptMany : Nat) (i_taped : Nat) (i_faultKind : Int32) (i_faultPlace : Int32) (i_spot : Nat) (i_begin : Nat) (i_token : Int32) (i_value : Int32) (i_bad : Int32) (i_full : Nat) (i_bandRows : Int32) (i_bandFirsts : Int32) (i_outs : Nat) (f_state : Nat → Int32) (f_was : Nat → Int32) (f_kept : Nat → Int32) (f_tape : Nat → Int32) (f_order : Nat → Int32) (f_rest : Nat → Int32) (f_ways : Nat → Int32) (f_costs : Nat → Int32) (f_bandBest : Nat → Int32) (f_found : Nat → Int32) (f_drawn : Nat → Int32) (f_joined : Nat → Int32) (f_out : Nat → Int32) (bi_keptMany : i_keptMany ≤ 10) (bi_taped : i_taped ≤ 400) (bi_spot : i_spot ≤ 400) (bi_begin : i_begin ≤ 400) (bi_full : i_full ≤ 511) (bi_outs : i_outs ≤ 400) (hG : GO f_state) (z : Nat) (bz : z < 3) (m : Int32) (p : Nat) (bp : p < 9) (hp1 : FX12_isTakenOut m = 0 → 1 ≤ p) (M : xMem) (hM : M = (P ++ (MDL L i_keptMany i_taped i_faultKind i_faultPlace i_spot i_begin i_token i_value i_bad i_full i_bandRows i_bandFirsts i_outs f_state f_was f_kept f_tape f_order f_rest f_ways f_costs f_bandBest f_found f_drawn f_joined f_out ++ R))) (Q : Int32 → Prop) (hq : Q (FX12_priceOf f_state z m p)) : xC G mX12_priceOf 5 0 0 [.ref L, .int (nI z), .int m, .int (nI p)] M (fun v M2 => ∃ o : Int32, v = some (.int o) ∧ Q o ∧ M2 = (P ++ (MDL L i_keptMany i_taped i_faultKind i_faultPlace i_spot i_begin i_token i_value i_bad i_full i_bandRows i_bandFirsts i_outs f_state f_was f_kept f_tape f_order f_rest f_ways f_costs f_bandBest f_found f_drawn f_joined f_out ++ R))) := by
  subst hM
  unfold FX12_priceOf at hq
  refine xC.of (by decide) (Nat.le_of_ble_eq_true rfl) ?_
  show xW _ _ _ _ 0 [(0, .ref L), (1, .int (nI z)), (2, .int m), (3, .int (nI p))] [] _ 0 0
  refine xi_iload_n 2 dX12_priceOf_0 rfl ?_
  refine xi_callS (as := [.int m]) (rest := []) dX12_priceOf_1 (FX12_isTakenOut_ok G m (fun r => r = FX12_isTakenOut m) rfl) mkX12_isTakenOut w_1329 w_1328 rfl rfl (Nat.le_of_ble_eq_true rfl) (Nat.le_of_ble_eq_true rfl) (Nat.le_of_ble_eq_true rfl) (Nat.le_of_ble_eq_true rfl) (Nat.le_of_ble_eq_true rfl) ?_
  intro v M2 hz
  obtain ⟨_, rfl, rfl, hM2⟩ := hz
  rw [hM2]
  show xW _ _ _ _ 4 _ [.int (FX12_isTakenOut m)] (P ++ (MDL L i_keptMany i_taped i_faultKind i_faultPlace i_spot i_begin i_token i_value i_bad i_full i_bandRows i_bandFirsts i_outs f_state f_was f_kept f_tape f_order f_rest f_ways f_costs f_bandBest f_found f_drawn f_joined f_out ++ R)) _ _
  refine xi_if_eq (tgt := 28) dX12_priceOf_4 (by decide) (fun c1 => ?_) (fun c1 => ?_)
  · rw [if_pos c1] at hq
    have h1p := hp1 c1
    refine xi_aload_n 0 dX12_priceOf_28 rfl ?_
    refine xi_iload_n 1 dX12_priceOf_29 rfl ?_
    refine xi_iload_n 2 dX12_priceOf_30 rfl ?_
    refine xi_aload_n 0 dX12_priceOf_31 rfl ?_
    refine xi_iload_n 1 dX12_priceOf_32 rfl ?_
    refine xi_iload_n 3 dX12_priceOf_33 rfl ?_
    refine xi_iconst (v := 1) dX12_priceOf_34 (by decide) ?_
    refine xi_isub (v := (nI (p - 1))) dX12_priceOf_35 (pk_sub (a := p) (b := 1) (by omega)) ?_
    refine xi_callV (as := [.int (nI z), .int (nI (p - 1))]) (rest := [.int m, .int (nI z), .ref L]) dX12_priceOf_36 (FX12_aheadOf_ok G hP i_keptMany i_taped i_faultKind i_faultPlace i_spot i_begin i_token i_value i_bad i_full i_bandRows i_bandFirsts i_outs f_state f_was f_kept f_tape f_order f_rest f_ways f_costs f_bandBest f_found f_drawn f_joined f_out (by omega) (by omega) (by omega) (by omega) (by omega) (by omega) hG z (by omega) (p - 1) (by omega) _ rfl (fun r => r = FX12_aheadOf f_state z (p - 1)) rfl) mkX12_aheadOf w_1337 ws_74 w_1335 (xpg0 hP rfl) rfl rfl rfl rfl (Nat.le_of_ble_eq_true rfl) (Nat.le_of_ble_eq_true rfl) (Nat.le_of_ble_eq_true rfl) (Nat.le_of_ble_eq_true rfl) (Nat.le_of_ble_eq_true rfl) ?_
    intro v M2 hz
    obtain ⟨_, rfl, rfl, rfl⟩ := hz
    show xW _ _ _ _ 39 _ [.int (FX12_aheadOf f_state z (p - 1)), .int m, .int (nI z), .ref L] (P ++ (MDL L i_keptMany i_taped i_faultKind i_faultPlace i_spot i_begin i_token i_value i_bad i_full i_bandRows i_bandFirsts i_outs f_state f_was f_kept f_tape f_order f_rest f_ways f_costs f_bandBest f_found f_drawn f_joined f_out ++ R)) _ _
    refine xi_aload_n 0 dX12_priceOf_39 rfl ?_
    refine xi_iload_n 1 dX12_priceOf_40 rfl ?_
    refine xi_iload_n 3 dX12_priceOf_41 rfl ?_
    refine xi_iconst (v := 1) dX12_priceOf_42 (by decide) ?_
    refine xi_isub (v := (nI (p - 1))) dX12_priceOf_43 (pk_sub (a := p) (b := 1) (by omega)) ?_
    refine xi_callV (as := [.int (nI z), .int (nI (p - 1))]) (rest := [.int (FX12_aheadOf f_state z (p - 1)), .int m, .int (nI z), .ref L]) dX12_priceOf_44 (FX12_at_ok G hP i_keptMany i_taped i_faultKind i_faultPlace i_spot i_begin i_token i_value i_bad i_full i_bandRows i_bandFirsts i_outs f_state f_was f_kept f_tape f_order f_rest f_ways f_costs f_bandBest f_found f_drawn f_joined f_out (by omega) (by omega) (by omega) (by omega) (by omega) (by omega) z (by omega) (p - 1) (by omega) _ rfl (fun r => r = nI ((f_state (91 * z + 82 + (p - 1))).toNatClampNeg)) (((hG z (by omega)).2 (p - 1) (by omega)).1)) mkX12_at w_1273 ws_64 w_1271 (xpg0 hP rfl) rfl rfl rfl rfl (Nat.le_of_ble_eq_true rfl) (Nat.le_of_ble_eq_true rfl) (Nat.le_of_ble_eq_true rfl) (Nat.le_of_ble_eq_true rfl) (Nat.le_of_ble_eq_true rfl) ?_
    intro v M2 hz
    obtain ⟨_, rfl, rfl, rfl⟩ := hz
    show xW _ _ _ _ 47 _ [.int (nI ((f_state (91 * z + 82 + (p - 1))).toNatClampNeg)), .int (FX12_aheadOf f_state z (p - 1)), .int m, .int (nI z), .ref L] (P ++ (MDL L i_keptMany i_taped i_faultKind i_faultPlace i_spot i_begin i_token i_value i_bad i_full i_bandRows i_bandFirsts i_outs f_state f_was f_kept f_tape f_order f_rest f_ways f_costs f_bandBest f_found f_drawn f_joined f_out ++ R)) _ _
    have o2 := ((hG z (by omega)).2 (p - 1) (by omega)).2
    refine xi_callV (as := [.int (nI z), .int m, .int (FX12_aheadOf f_state z (p - 1)), .int (nI ((f_state (91 * z + 82 + (p - 1))).toNatClampNeg))]) (rest := []) dX12_priceOf_47 (FX12_cost_ok G hP i_keptMany i_taped i_faultKind i_faultPlace i_spot i_begin i_token i_value i_bad i_full i_bandRows i_bandFirsts i_outs f_state f_was f_kept f_tape f_order f_rest f_ways f_costs f_bandBest f_found f_drawn f_joined f_out (by omega) (by omega) (by omega) (by omega) (by omega) (by omega) hG z (by omega) m ((FX12_aheadOf f_state z (p - 1))) ((f_state (91 * z + 82 + (p - 1))).toNatClampNeg) (by omega) _ rfl (fun r => r = FX12_cost f_state z m ((FX12_aheadOf f_state z (p - 1))) ((f_state (91 * z + 82 + (p - 1))).toNatClampNeg)) rfl) mkX12_cost w_1304 ws_69 w_1302 (xpg0 hP rfl) rfl rfl rfl rfl (Nat.le_of_ble_eq_true rfl) (Nat.le_of_ble_eq_true rfl) (Nat.le_of_ble_eq_true rfl) (Nat.le_of_ble_eq_true rfl) (Nat.le_of_ble_eq_true rfl) ?_
    intro v M2 hz
    obtain ⟨_, rfl, rfl, rfl⟩ := hz
    show xW _ _ _ _ 50 _ [.int (FX12_cost f_state z m ((FX12_aheadOf f_state z (p - 1))) ((f_state (91 * z + 82 + (p - 1))).toNatClampNeg))] (P ++ (MDL L i_keptMany i_taped i_faultKind i_faultPlace i_spot i_begin i_token i_value i_bad i_full i_bandRows i_bandFirsts i_outs f_state f_was f_kept f_tape f_order f_rest f_ways f_costs f_bandBest f_found f_drawn f_joined f_out ++ R)) _ _
    exact xi_iret dX12_priceOf_50 rfl rfl (Nat.le_of_ble_eq_true rfl) (Nat.le_of_ble_eq_true rfl) ⟨_, rfl, hq, rfl⟩
  · rw [if_neg c1] at hq
    refine xi_aload_n 0 dX12_priceOf_7 rfl ?_
    refine xi_iload_n 1 dX12_priceOf_8 rfl ?_
    refine xi_iload_n 2 dX12_priceOf_9 rfl ?_
    refine xi_aload_n 0 dX12_priceOf_10 rfl ?_
    refine xi_iload_n 1 dX12_priceOf_11 rfl ?_
    refine xi_iload_n 3 dX12_priceOf_12 rfl ?_
    refine xi_callV (as := [.int (nI z), .int (nI p)]) (rest := [.int m, .int (nI z), .ref L]) dX12_priceOf_13 (FX12_aheadOf_ok G hP i_keptMany i_taped i_faultKind i_faultPlace i_spot i_begin i_token i_value i_bad i_full i_bandRows i_bandFirsts i_outs f_state f_was f_kept f_tape f_order f_rest f_ways f_costs f_bandBest f_found f_drawn f_joined f_out (by omega) (by omega) (by omega) (by omega) (by omega) (by omega) hG z (by omega) p (by omega) _ rfl (fun r => r = FX12_aheadOf f_state z p) rfl) mkX12_aheadOf w_1337 ws_74 w_1335 (xpg0 hP rfl) rfl rfl rfl rfl (Nat.le_of_ble_eq_true rfl) (Nat.le_of_ble_eq_true rfl) (Nat.le_of_ble_eq_true rfl) (Nat.le_of_ble_eq_true rfl) (Nat.le_of_ble_eq_true rfl) ?_
    intro v M2 hz
    obtain ⟨_, rfl, rfl, rfl⟩ := hz
    show xW _ _ _ _ 16 _ [.int (FX12_aheadOf f_state z p), .int m, .int (nI z), .ref L] (P ++ (MDL L i_keptMany i_taped i_faultKind i_faultPlace i_spot i_begin i_token i_value i_bad i_full i_bandRows i_bandFirsts i_outs f_state f_was f_kept f_tape f_order f_rest f_ways f_costs f_bandBest f_found f_drawn f_joined f_out ++ R)) _ _
    refine xi_aload_n 0 dX12_priceOf_16 rfl ?_
    refine xi_iload_n 1 dX12_priceOf_17 rfl ?_
    refine xi_iload_n 3 dX12_priceOf_18 rfl ?_
    refine xi_callV (as := [.int (nI z), .int (nI p)]) (rest := [.int (FX12_aheadOf f_state z p), .int m, .int (nI z), .ref L]) dX12_priceOf_19 (FX12_at_ok G hP i_keptMany i_taped i_faultKind i_faultPlace i_spot i_begin i_token i_value i_bad i_full i_bandRows i_bandFirsts i_outs f_state f_was f_kept f_tape f_order f_rest f_ways f_costs f_bandBest f_found f_drawn f_joined f_out (by omega) (by omega) (by omega) (by omega) (by omega) (by omega) z (by omega) p (by omega) _ rfl (fun r => r = nI ((f_state (91 * z + 82 + p)).toNatClampNeg)) (((hG z (by omega)).2 p (by omega)).1)) mkX12_at w_1273 ws_64 w_1271 (xpg0 hP rfl) rfl rfl rfl rfl (Nat.le_of_ble_eq_true rfl) (Nat.le_of_ble_eq_true rfl) (Nat.le_of_ble_eq_true rfl) (Nat.le_of_ble_eq_true rfl) (Nat.le_of_ble_eq_true rfl) ?_
    intro v M2 hz
    obtain ⟨_, rfl, rfl, rfl⟩ := hz
    show xW _ _ _ _ 22 _ [.int (nI ((f_state (91 * z + 82 + p)).toNatClampNeg)), .int (FX12_aheadOf f_state z p), .int m, .int (nI z), .ref L] (P ++ (MDL L i_keptMany i_taped i_faultKind i_faultPlace i_spot i_begin i_token i_value i_bad i_full i_bandRows i_bandFirsts i_outs f_state f_was f_kept f_tape f_order f_rest f_ways f_costs f_bandBest f_found f_drawn f_joined f_out ++ R)) _ _
    have o3 := ((hG z (by omega)).2 p (by omega)).2
    refine xi_callV (as := [.int (nI z), .int m, .int (FX12_aheadOf f_state z p), .int (nI ((f_state (91 * z + 82 + p)).toNatClampNeg))]) (rest := []) dX12_priceOf_22 (FX12_cost_ok G hP i_keptMany i_taped i_faultKind i_faultPlace i_spot i_begin i_token i_value i_bad i_full i_bandRows i_bandFirsts i_outs f_state f_was f_kept f_tape f_order f_rest f_ways f_costs f_bandBest f_found f_drawn f_joined f_out (by omega) (by omega) (by omega) (by omega) (by omega) (by omega) hG z (by omega) m ((FX12_aheadOf f_state z p)) ((f_state (91 * z + 82 + p)).toNatClampNeg) (by omega) _ rfl (fun r => r = FX12_cost f_state z m ((FX12_aheadOf f_state z p)) ((f_state (91 * z + 82 + p)).toNatClampNeg)) rfl) mkX12_cost w_1304 ws_69 w_1302 (xpg0 hP rfl) rfl rfl rfl rfl (Nat.le_of_ble_eq_true rfl) (Nat.le_of_ble_eq_true rfl) (Nat.le_of_ble_eq_true rfl) (Nat.le_of_ble_eq_true rfl) (Nat.le_of_ble_eq_true rfl) ?_
    intro v M2 hz
    obtain ⟨_, rfl, rfl, rfl⟩ := hz
    show xW _ _ _ _ 25 _ [.int (FX12_cost f_state z m ((FX12_aheadOf f_state z p)) ((f_state (91 * z + 82 + p)).toNatClampNeg))] (P ++ (MDL L i_keptMany i_taped i_faultKind i_faultPlace i_spot i_begin i_token i_value i_bad i_full i_bandRows i_bandFirsts i_outs f_state f_was f_kept f_tape f_order f_rest f_ways f_costs f_bandBest f_found f_drawn f_joined f_out ++ R)) _ _
    refine xi_goto (tgt := 50) dX12_priceOf_25 (by decide) ?_
    exact xi_iret dX12_priceOf_50 rfl rfl (Nat.le_of_ble_eq_true rfl) (Nat.le_of_ble_eq_true rfl) ⟨_, rfl, hq, rfl⟩
def LX12_balls_32 (f_state : Nat → Int32) (n1 : Nat) (w2 : Int32) (n3 : Nat) (n4 : Nat) (K : Int32 → Int32) : Nat → Nat → Int32 → Int32
  | 0, _, v5 => K v5
  | k + 1, j, v5 => (if (nI j) = (nI n3) then (LX12_balls_32 f_state n1 w2 n3 n4 K k (j + 1) ((v5 + (0 : Int32)))) else (if (FX12_in (((FX12_farOf f_state n1 ((nI n3)) ((nI j))).toInt64)) ((1 : Int64)) (((nI n4).toInt64))) = (0 : Int32) then (LX12_balls_32 f_state n1 w2 n3 n4 K k (j + 1) ((v5 + (0 : Int32)))) else (LX12_balls_32 f_state n1 w2 n3 n4 K k (j + 1) ((v5 + (1 : Int32))))))
def LX12_balls_16 (f_state : Nat → Int32) (n1 : Nat) (n3 : Nat) (K : Int32 → Int32) : Nat → Nat → Int32 → Int32
  | 0, _, v2 => K v2
  | k + 1, j, v2 => (LX12_balls_32 f_state n1 v2 n3 j (fun u7 => (LX12_balls_16 f_state n1 n3 K k (j + 1) ((if v2 < (((u7 + (nI (2 * j))) - (1 : Int32)) / (nI (2 * j))) then (((u7 + (nI (2 * j))) - (1 : Int32)) / (nI (2 * j))) else v2)))) ((f_state (91 * n1)).toNatClampNeg - 0) 0 ((0 : Int32)))
def LX12_balls_4 (f_state : Nat → Int32) (n1 : Nat) (K : Int32 → Int32) : Nat → Nat → Int32 → Int32
  | 0, _, v2 => K v2
  | k + 1, j, v2 => (LX12_balls_16 f_state n1 j (fun u9 => (LX12_balls_4 f_state n1 K k (j + 1) u9)) ((f_state (91 * n1)).toNatClampNeg - 1) 1 v2)
set_option maxHeartbeats 4000000 in
set_option maxRecDepth 100000 in
theorem LX12_balls_32_s (G : xG) {P R : xMem} {L : Nat} (hP : P.length = L) (i_keptMany : Nat) (i_taped : Nat) (i_faultKind : Int32) (i_faultPlace : Int32) (i_spot : Nat) (i_begin : Nat) (i_token : Int32) (i_value : Int32) (i_bad : Int32) (i_full : Nat) (i_bandRows : Int32) (i_bandFirsts : Int32) (i_outs : Nat) (f_state : Nat → Int32) (f_was : Nat → Int32) (f_kept : Nat → Int32) (f_tape : Nat → Int32) (f_order : Nat → Int32) (f_rest : Nat → Int32) (f_ways : Nat → Int32) (f_costs : Nat → Int32) (f_bandBest : Nat → Int32) (f_found : Nat → Int32) (f_drawn : Nat → Int32) (f_joined : Nat → Int32) (f_out : Nat → Int32) (bi_keptMany : i_keptMany ≤ 10) (bi_taped : i_taped ≤ 400) (bi_spot : i_spot ≤ 400) (bi_begin : i_begin ≤ 400) (bi_full : i_full ≤ 511) (bi_outs : i_outs ≤ 400) (hG : GO f_state) (n1 : Nat) (bn1 : n1 < 3) (w2 : Int32) (n3 : Nat) (bn3 : n3 < 9) (n4 : Nat) (bn4 : n4 < 9) (Q : Int32 → Prop) (K : Int32 → Int32) (HE : ∀ (v5 : Int32), Q (K v5) → xW G mX12_balls (xrm 3 0 0) (xQ G (fun v M2 => ∃ o : Int32, v = some (.int o) ∧ Q o ∧ M2 = (P ++ (MDL L i_keptMany i_taped i_faultKind i_faultPlace i_spot i_begin i_token i_value i_bad i_full i_bandRows i_bandFirsts i_outs f_state f_was f_kept f_tape f_order f_rest f_ways f_costs f_bandBest f_found f_drawn f_joined f_out ++ R))) 0 0) 83 [(0, .ref L), (1, .int (nI n1)), (2, .int w2), (3, .int (nI n3)), (4, .int (nI n4)), (5, .int v5)] [] (P ++ (MDL L i_keptMany i_taped i_faultKind i_faultPlace i_spot i_begin i_token i_value i_bad i_full i_bandRows i_bandFirsts i_outs f_state f_was f_kept f_tape f_order f_rest f_ways f_costs f_bandBest f_found f_drawn f_joined f_out ++ R)) 0 0) :
    ∀ (k j : Nat) (v5 : Int32), (f_state (91 * n1)).toNatClampNeg - j = k → j < 100000 → Q (LX12_balls_32 f_state n1 w2 n3 n4 K k j v5) → xW G mX12_balls (xrm 3 0 0) (xQ G (fun v M2 => ∃ o : Int32, v = some (.int o) ∧ Q o ∧ M2 = (P ++ (MDL L i_keptMany i_taped i_faultKind i_faultPlace i_spot i_begin i_token i_value i_bad i_full i_bandRows i_bandFirsts i_outs f_state f_was f_kept f_tape f_order f_rest f_ways f_costs f_bandBest f_found f_drawn f_joined f_out ++ R))) 0 0) 32 [(0, .ref L), (1, .int (nI n1)), (2, .int w2), (3, .int (nI n3)), (4, .int (nI n4)), (5, .int v5), (6, .int (nI j))] [] (P ++ (MDL L i_keptMany i_taped i_faultKind i_faultPlace i_spot i_begin i_token i_value i_bad i_full i_bandRows i_bandFirsts i_outs f_state f_was f_kept f_tape f_order f_rest f_ways f_costs f_bandBest f_found f_drawn f_joined f_out ++ R)) 0 0 := by
  intro k
  induction k with
  | zero =>
    intro j v5 hj hj2 hq
    rw [LX12_balls_32] at hq
    refine xi_iload 6 dX12_balls_32 rfl ?_
    refine xi_aload_n 0 dX12_balls_34 rfl ?_
    refine xi_iload_n 1 dX12_balls_35 rfl ?_
    refine xi_callV (as := [.int (nI n1)]) (rest := [.int (nI j)]) dX12_balls_36 (FX12_points_ok G hP i_keptMany i_taped i_faultKind i_faultPlace i_spot i_begin i_token i_value i_bad i_full i_bandRows i_bandFirsts i_outs f_state f_was f_kept f_tape f_order f_rest f_ways f_costs f_bandBest f_found f_drawn f_joined f_out (by omega) (by omega) (by omega) (by omega) (by omega) (by omega) n1 (by omega) _ rfl (fun r => r = nI ((f_state (91 * n1)).toNatClampNeg)) ((hG n1 (by omega)).1.1)) mkX12_points w_1108 ws_36 w_1106 (xpg0 hP rfl) rfl rfl rfl rfl (Nat.le_of_ble_eq_true rfl) (Nat.le_of_ble_eq_true rfl) (Nat.le_of_ble_eq_true rfl) (Nat.le_of_ble_eq_true rfl) (Nat.le_of_ble_eq_true rfl) ?_
    intro v M2 hz
    obtain ⟨_, rfl, rfl, rfl⟩ := hz
    show xW _ _ _ _ 39 _ [.int (nI ((f_state (91 * n1)).toNatClampNeg)), .int (nI j)] (P ++ (MDL L i_keptMany i_taped i_faultKind i_faultPlace i_spot i_begin i_token i_value i_bad i_full i_bandRows i_bandFirsts i_outs f_state f_was f_kept f_tape f_order f_rest f_ways f_costs f_bandBest f_found f_drawn f_joined f_out ++ R)) _ _
    have o6 := (hG n1 (by omega)).1.2
    refine xi_icmp_ge_t (tgt := 83) dX12_balls_39 (by decide) (nI_le (a := (f_state (91 * n1)).toNatClampNeg) (b := j) (by omega) (by omega)) ?_
    refine xi_sub (lv' := [(0, .ref L), (1, .int (nI n1)), (2, .int w2), (3, .int (nI n3)), (4, .int (nI n4)), (5, .int v5)]) [0, 1, 2, 3, 4, 5] rfl ?_
    exact HE v5 hq
  | succ k ih =>
    intro j v5 hj hj2 hq
    rw [LX12_balls_32] at hq
    refine xi_iload 6 dX12_balls_32 rfl ?_
    refine xi_aload_n 0 dX12_balls_34 rfl ?_
    refine xi_iload_n 1 dX12_balls_35 rfl ?_
    refine xi_callV (as := [.int (nI n1)]) (rest := [.int (nI j)]) dX12_balls_36 (FX12_points_ok G hP i_keptMany i_taped i_faultKind i_faultPlace i_spot i_begin i_token i_value i_bad i_full i_bandRows i_bandFirsts i_outs f_state f_was f_kept f_tape f_order f_rest f_ways f_costs f_bandBest f_found f_drawn f_joined f_out (by omega) (by omega) (by omega) (by omega) (by omega) (by omega) n1 (by omega) _ rfl (fun r => r = nI ((f_state (91 * n1)).toNatClampNeg)) ((hG n1 (by omega)).1.1)) mkX12_points w_1108 ws_36 w_1106 (xpg0 hP rfl) rfl rfl rfl rfl (Nat.le_of_ble_eq_true rfl) (Nat.le_of_ble_eq_true rfl) (Nat.le_of_ble_eq_true rfl) (Nat.le_of_ble_eq_true rfl) (Nat.le_of_ble_eq_true rfl) ?_
    intro v M2 hz
    obtain ⟨_, rfl, rfl, rfl⟩ := hz
    show xW _ _ _ _ 39 _ [.int (nI ((f_state (91 * n1)).toNatClampNeg)), .int (nI j)] (P ++ (MDL L i_keptMany i_taped i_faultKind i_faultPlace i_spot i_begin i_token i_value i_bad i_full i_bandRows i_bandFirsts i_outs f_state f_was f_kept f_tape f_order f_rest f_ways f_costs f_bandBest f_found f_drawn f_joined f_out ++ R)) _ _
    have o3 := (hG n1 (by omega)).1.2
    refine xi_icmp_ge_f (tgt := 83) dX12_balls_39 (by decide) (nI_ge (a := j) (b := (f_state (91 * n1)).toNatClampNeg) (by omega) (by omega)) ?_
    refine xi_iload 5 dX12_balls_42 rfl ?_
    refine xi_iload 6 dX12_balls_44 rfl ?_
    refine xi_iload_n 3 dX12_balls_46 rfl ?_
    refine xi_icmp_eq (tgt := 73) dX12_balls_47 (by decide) (fun c4 => ?_) (fun c4 => ?_)
    · rw [if_pos c4] at hq
      have c4n : j = n3 := (nI_eq (a := j) (b := n3) (by omega) (by omega)).mp c4
      refine xi_iconst (v := 0) dX12_balls_73 (by decide) ?_
      refine xi_iadd (v := (v5 + (0 : Int32))) dX12_balls_74 rfl ?_
      refine xi_istore (lv' := [(5, .int (v5 + (0 : Int32))), (0, .ref L), (1, .int (nI n1)), (2, .int w2), (3, .int (nI n3)), (4, .int (nI n4)), (6, .int (nI j))]) dX12_balls_75 (by decide) rfl ?_
      refine xi_iinc (v := (nI (j + 1))) (lv' := [(6, .int (nI (j + 1))), (5, .int (v5 + (0 : Int32))), (0, .ref L), (1, .int (nI n1)), (2, .int w2), (3, .int (nI n3)), (4, .int (nI n4))]) 6 dX12_balls_77 rfl (nI_1 _) (by decide) rfl ?_
      refine xi_goto (tgt := 32) dX12_balls_80 (by decide) ?_
      refine xi_sub (lv' := [(0, .ref L), (1, .int (nI n1)), (2, .int w2), (3, .int (nI n3)), (4, .int (nI n4)), (5, .int (v5 + (0 : Int32))), (6, .int (nI (j + 1)))]) [2, 3, 4, 5, 6, 1, 0] rfl ?_
      exact ih (j + 1) ((v5 + (0 : Int32))) (by omega) (by omega) hq
    · rw [if_neg c4] at hq
      have c4n : ¬ j = n3 := fun e => c4 (congrArg nI e)
      refine xi_aload_n 0 dX12_balls_50 rfl ?_
      refine xi_iload_n 1 dX12_balls_51 rfl ?_
      refine xi_iload_n 3 dX12_balls_52 rfl ?_
      refine xi_iload 6 dX12_balls_53 rfl ?_
      refine xi_callV (as := [.int (nI n1), .int (nI n3), .int (nI j)]) (rest := [.int v5]) dX12_balls_55 (FX12_farOf_ok G hP i_keptMany i_taped i_faultKind i_faultPlace i_spot i_begin i_token i_value i_bad i_full i_bandRows i_bandFirsts i_outs f_state f_was f_kept f_tape f_order f_rest f_ways f_costs f_bandBest f_found f_drawn f_joined f_out (by omega) (by omega) (by omega) (by omega) (by omega) (by omega) hG n1 (by omega) ((nI n3)) ((nI j)) _ rfl (fun r => r = FX12_farOf f_state n1 ((nI n3)) ((nI j))) rfl) mkX12_farOf w_1241 ws_60 w_1239 (xpg0 hP rfl) rfl rfl rfl rfl (Nat.le_of_ble_eq_true rfl) (Nat.le_of_ble_eq_true rfl) (Nat.le_of_ble_eq_true rfl) (Nat.le_of_ble_eq_true rfl) (Nat.le_of_ble_eq_true rfl) ?_
      intro v M2 hz
      obtain ⟨_, rfl, rfl, rfl⟩ := hz
      show xW _ _ _ _ 58 _ [.int (FX12_farOf f_state n1 ((nI n3)) ((nI j))), .int v5] (P ++ (MDL L i_keptMany i_taped i_faultKind i_faultPlace i_spot i_begin i_token i_value i_bad i_full i_bandRows i_bandFirsts i_outs f_state f_was f_kept f_tape f_order f_rest f_ways f_costs f_bandBest f_found f_drawn f_joined f_out ++ R)) _ _
      refine xi_i2l dX12_balls_58 rfl ?_
      refine xi_lconst (v := 1) dX12_balls_59 (by decide) ?_
      refine xi_iload 4 dX12_balls_60 rfl ?_
      refine xi_i2l dX12_balls_62 rfl ?_
      refine xi_callS (as := [.long ((FX12_farOf f_state n1 ((nI n3)) ((nI j))).toInt64), .long 1, .long ((nI n4).toInt64)]) (rest := [.int v5]) dX12_balls_63 (FX12_in_ok G (((FX12_farOf f_state n1 ((nI n3)) ((nI j))).toInt64)) ((1 : Int64)) (((nI n4).toInt64)) (fun r => r = FX12_in (((FX12_farOf f_state n1 ((nI n3)) ((nI j))).toInt64)) ((1 : Int64)) (((nI n4).toInt64))) rfl) mkX12_in w_1100 w_1099 rfl rfl (Nat.le_of_ble_eq_true rfl) (Nat.le_of_ble_eq_true rfl) (Nat.le_of_ble_eq_true rfl) (Nat.le_of_ble_eq_true rfl) (Nat.le_of_ble_eq_true rfl) ?_
      intro v M2 hz
      obtain ⟨_, rfl, rfl, hM2⟩ := hz
      rw [hM2]
      show xW _ _ _ _ 66 _ [.int (FX12_in (((FX12_farOf f_state n1 ((nI n3)) ((nI j))).toInt64)) ((1 : Int64)) (((nI n4).toInt64))), .int v5] (P ++ (MDL L i_keptMany i_taped i_faultKind i_faultPlace i_spot i_begin i_token i_value i_bad i_full i_bandRows i_bandFirsts i_outs f_state f_was f_kept f_tape f_order f_rest f_ways f_costs f_bandBest f_found f_drawn f_joined f_out ++ R)) _ _
      refine xi_if_eq (tgt := 73) dX12_balls_66 (by decide) (fun c5 => ?_) (fun c5 => ?_)
      · rw [if_pos c5] at hq
        refine xi_iconst (v := 0) dX12_balls_73 (by decide) ?_
        refine xi_iadd (v := (v5 + (0 : Int32))) dX12_balls_74 rfl ?_
        refine xi_istore (lv' := [(5, .int (v5 + (0 : Int32))), (0, .ref L), (1, .int (nI n1)), (2, .int w2), (3, .int (nI n3)), (4, .int (nI n4)), (6, .int (nI j))]) dX12_balls_75 (by decide) rfl ?_
        refine xi_iinc (v := (nI (j + 1))) (lv' := [(6, .int (nI (j + 1))), (5, .int (v5 + (0 : Int32))), (0, .ref L), (1, .int (nI n1)), (2, .int w2), (3, .int (nI n3)), (4, .int (nI n4))]) 6 dX12_balls_77 rfl (nI_1 _) (by decide) rfl ?_
        refine xi_goto (tgt := 32) dX12_balls_80 (by decide) ?_
        refine xi_sub (lv' := [(0, .ref L), (1, .int (nI n1)), (2, .int w2), (3, .int (nI n3)), (4, .int (nI n4)), (5, .int (v5 + (0 : Int32))), (6, .int (nI (j + 1)))]) [2, 3, 4, 5, 6, 1, 0] rfl ?_
        exact ih (j + 1) ((v5 + (0 : Int32))) (by omega) (by omega) hq
      · rw [if_neg c5] at hq
        refine xi_iconst (v := 1) dX12_balls_69 (by decide) ?_
        refine xi_goto (tgt := 74) dX12_balls_70 (by decide) ?_
        refine xi_iadd (v := (v5 + (1 : Int32))) dX12_balls_74 rfl ?_
        refine xi_istore (lv' := [(5, .int (v5 + (1 : Int32))), (0, .ref L), (1, .int (nI n1)), (2, .int w2), (3, .int (nI n3)), (4, .int (nI n4)), (6, .int (nI j))]) dX12_balls_75 (by decide) rfl ?_
        refine xi_iinc (v := (nI (j + 1))) (lv' := [(6, .int (nI (j + 1))), (5, .int (v5 + (1 : Int32))), (0, .ref L), (1, .int (nI n1)), (2, .int w2), (3, .int (nI n3)), (4, .int (nI n4))]) 6 dX12_balls_77 rfl (nI_1 _) (by decide) rfl ?_
        refine xi_goto (tgt := 32) dX12_balls_80 (by decide) ?_
        refine xi_sub (lv' := [(0, .ref L), (1, .int (nI n1)), (2, .int w2), (3, .int (nI n3)), (4, .int (nI n4)), (5, .int (v5 + (1 : Int32))), (6, .int (nI (j + 1)))]) [2, 3, 4, 5, 6, 1, 0] rfl ?_
        exact ih (j + 1) ((v5 + (1 : Int32))) (by omega) (by omega) hq
set_option maxHeartbeats 4000000 in
set_option maxRecDepth 100000 in
theorem LX12_balls_16_s (G : xG) {P R : xMem} {L : Nat} (hP : P.length = L) (i_keptMany : Nat) (i_taped : Nat) (i_faultKind : Int32) (i_faultPlace : Int32) (i_spot : Nat) (i_begin : Nat) (i_token : Int32) (i_value : Int32) (i_bad : Int32) (i_full : Nat) (i_bandRows : Int32) (i_bandFirsts : Int32) (i_outs : Nat) (f_state : Nat → Int32) (f_was : Nat → Int32) (f_kept : Nat → Int32) (f_tape : Nat → Int32) (f_order : Nat → Int32) (f_rest : Nat → Int32) (f_ways : Nat → Int32) (f_costs : Nat → Int32) (f_bandBest : Nat → Int32) (f_found : Nat → Int32) (f_drawn : Nat → Int32) (f_joined : Nat → Int32) (f_out : Nat → Int32) (bi_keptMany : i_keptMany ≤ 10) (bi_taped : i_taped ≤ 400) (bi_spot : i_spot ≤ 400) (bi_begin : i_begin ≤ 400) (bi_full : i_full ≤ 511) (bi_outs : i_outs ≤ 400) (hG : GO f_state) (n1 : Nat) (bn1 : n1 < 3) (n3 : Nat) (bn3 : n3 < 9) (Q : Int32 → Prop) (K : Int32 → Int32) (HE : ∀ (v2 : Int32), Q (K v2) → xW G mX12_balls (xrm 3 0 0) (xQ G (fun v M2 => ∃ o : Int32, v = some (.int o) ∧ Q o ∧ M2 = (P ++ (MDL L i_keptMany i_taped i_faultKind i_faultPlace i_spot i_begin i_token i_value i_bad i_full i_bandRows i_bandFirsts i_outs f_state f_was f_kept f_tape f_order f_rest f_ways f_costs f_bandBest f_found f_drawn f_joined f_out ++ R))) 0 0) 108 [(0, .ref L), (1, .int (nI n1)), (2, .int v2), (3, .int (nI n3))] [] (P ++ (MDL L i_keptMany i_taped i_faultKind i_faultPlace i_spot i_begin i_token i_value i_bad i_full i_bandRows i_bandFirsts i_outs f_state f_was f_kept f_tape f_order f_rest f_ways f_costs f_bandBest f_found f_drawn f_joined f_out ++ R)) 0 0) :
    ∀ (k j : Nat) (v2 : Int32), (f_state (91 * n1)).toNatClampNeg - j = k → (1 ≤ j ∧ j < 100000) → Q (LX12_balls_16 f_state n1 n3 K k j v2) → xW G mX12_balls (xrm 3 0 0) (xQ G (fun v M2 => ∃ o : Int32, v = some (.int o) ∧ Q o ∧ M2 = (P ++ (MDL L i_keptMany i_taped i_faultKind i_faultPlace i_spot i_begin i_token i_value i_bad i_full i_bandRows i_bandFirsts i_outs f_state f_was f_kept f_tape f_order f_rest f_ways f_costs f_bandBest f_found f_drawn f_joined f_out ++ R))) 0 0) 16 [(0, .ref L), (1, .int (nI n1)), (2, .int v2), (3, .int (nI n3)), (4, .int (nI j))] [] (P ++ (MDL L i_keptMany i_taped i_faultKind i_faultPlace i_spot i_begin i_token i_value i_bad i_full i_bandRows i_bandFirsts i_outs f_state f_was f_kept f_tape f_order f_rest f_ways f_costs f_bandBest f_found f_drawn f_joined f_out ++ R)) 0 0 := by
  intro k
  induction k with
  | zero =>
    intro j v2 hj hj2 hq
    rw [LX12_balls_16] at hq
    refine xi_iload 4 dX12_balls_16 rfl ?_
    refine xi_aload_n 0 dX12_balls_18 rfl ?_
    refine xi_iload_n 1 dX12_balls_19 rfl ?_
    refine xi_callV (as := [.int (nI n1)]) (rest := [.int (nI j)]) dX12_balls_20 (FX12_points_ok G hP i_keptMany i_taped i_faultKind i_faultPlace i_spot i_begin i_token i_value i_bad i_full i_bandRows i_bandFirsts i_outs f_state f_was f_kept f_tape f_order f_rest f_ways f_costs f_bandBest f_found f_drawn f_joined f_out (by omega) (by omega) (by omega) (by omega) (by omega) (by omega) n1 (by omega) _ rfl (fun r => r = nI ((f_state (91 * n1)).toNatClampNeg)) ((hG n1 (by omega)).1.1)) mkX12_points w_1108 ws_36 w_1106 (xpg0 hP rfl) rfl rfl rfl rfl (Nat.le_of_ble_eq_true rfl) (Nat.le_of_ble_eq_true rfl) (Nat.le_of_ble_eq_true rfl) (Nat.le_of_ble_eq_true rfl) (Nat.le_of_ble_eq_true rfl) ?_
    intro v M2 hz
    obtain ⟨_, rfl, rfl, rfl⟩ := hz
    show xW _ _ _ _ 23 _ [.int (nI ((f_state (91 * n1)).toNatClampNeg)), .int (nI j)] (P ++ (MDL L i_keptMany i_taped i_faultKind i_faultPlace i_spot i_begin i_token i_value i_bad i_full i_bandRows i_bandFirsts i_outs f_state f_was f_kept f_tape f_order f_rest f_ways f_costs f_bandBest f_found f_drawn f_joined f_out ++ R)) _ _
    have o8 := (hG n1 (by omega)).1.2
    refine xi_icmp_ge_t (tgt := 108) dX12_balls_23 (by decide) (nI_le (a := (f_state (91 * n1)).toNatClampNeg) (b := j) (by omega) (by omega)) ?_
    refine xi_sub (lv' := [(0, .ref L), (1, .int (nI n1)), (2, .int v2), (3, .int (nI n3))]) [0, 1, 2, 3] rfl ?_
    exact HE v2 hq
  | succ k ih =>
    intro j v2 hj hj2 hq
    rw [LX12_balls_16] at hq
    refine xi_iload 4 dX12_balls_16 rfl ?_
    refine xi_aload_n 0 dX12_balls_18 rfl ?_
    refine xi_iload_n 1 dX12_balls_19 rfl ?_
    refine xi_callV (as := [.int (nI n1)]) (rest := [.int (nI j)]) dX12_balls_20 (FX12_points_ok G hP i_keptMany i_taped i_faultKind i_faultPlace i_spot i_begin i_token i_value i_bad i_full i_bandRows i_bandFirsts i_outs f_state f_was f_kept f_tape f_order f_rest f_ways f_costs f_bandBest f_found f_drawn f_joined f_out (by omega) (by omega) (by omega) (by omega) (by omega) (by omega) n1 (by omega) _ rfl (fun r => r = nI ((f_state (91 * n1)).toNatClampNeg)) ((hG n1 (by omega)).1.1)) mkX12_points w_1108 ws_36 w_1106 (xpg0 hP rfl) rfl rfl rfl rfl (Nat.le_of_ble_eq_true rfl) (Nat.le_of_ble_eq_true rfl) (Nat.le_of_ble_eq_true rfl) (Nat.le_of_ble_eq_true rfl) (Nat.le_of_ble_eq_true rfl) ?_
    intro v M2 hz
    obtain ⟨_, rfl, rfl, rfl⟩ := hz
    show xW _ _ _ _ 23 _ [.int (nI ((f_state (91 * n1)).toNatClampNeg)), .int (nI j)] (P ++ (MDL L i_keptMany i_taped i_faultKind i_faultPlace i_spot i_begin i_token i_value i_bad i_full i_bandRows i_bandFirsts i_outs f_state f_was f_kept f_tape f_order f_rest f_ways f_costs f_bandBest f_found f_drawn f_joined f_out ++ R)) _ _
    have o2 := (hG n1 (by omega)).1.2
    refine xi_icmp_ge_f (tgt := 108) dX12_balls_23 (by decide) (nI_ge (a := j) (b := (f_state (91 * n1)).toNatClampNeg) (by omega) (by omega)) ?_
    refine xi_iconst (v := 0) dX12_balls_26 (by decide) ?_
    refine xi_istore (lv' := [(5, .int 0), (0, .ref L), (1, .int (nI n1)), (2, .int v2), (3, .int (nI n3)), (4, .int (nI j))]) dX12_balls_27 (by decide) rfl ?_
    refine xi_iconst (v := 0) dX12_balls_29 (by decide) ?_
    refine xi_istore (lv' := [(6, .int 0), (5, .int 0), (0, .ref L), (1, .int (nI n1)), (2, .int v2), (3, .int (nI n3)), (4, .int (nI j))]) dX12_balls_30 (by decide) rfl ?_
    refine xi_sub (lv' := [(0, .ref L), (1, .int (nI n1)), (2, .int v2), (3, .int (nI n3)), (4, .int (nI j)), (5, .int 0), (6, .int 0)]) [2, 3, 4, 5, 6, 1, 0] rfl ?_
    refine LX12_balls_32_s G hP i_keptMany i_taped i_faultKind i_faultPlace i_spot i_begin i_token i_value i_bad i_full i_bandRows i_bandFirsts i_outs f_state f_was f_kept f_tape f_order f_rest f_ways f_costs f_bandBest f_found f_drawn f_joined f_out (by omega) (by omega) (by omega) (by omega) (by omega) (by omega) hG n1 (by omega) v2 n3 (by omega) j (by omega) Q _ (fun u7 hq => ?_) ((f_state (91 * n1)).toNatClampNeg - 0) 0 ((0 : Int32)) rfl (by omega) hq
    refine xi_iload_n 2 dX12_balls_83 rfl ?_
    refine xi_iload 5 dX12_balls_84 rfl ?_
    refine xi_iconst (v := 2) dX12_balls_86 (by decide) ?_
    refine xi_iload 4 dX12_balls_87 rfl ?_
    refine xi_imul (v := (nI (2 * j))) dX12_balls_89 (pk_mul 2 j) ?_
    refine xi_iadd (v := (u7 + (nI (2 * j)))) dX12_balls_90 rfl ?_
    refine xi_iconst (v := 1) dX12_balls_91 (by decide) ?_
    refine xi_isub (v := ((u7 + (nI (2 * j))) - (1 : Int32))) dX12_balls_92 rfl ?_
    refine xi_iconst (v := 2) dX12_balls_93 (by decide) ?_
    refine xi_iload 4 dX12_balls_94 rfl ?_
    refine xi_imul (v := (nI (2 * j))) dX12_balls_96 (pk_mul 2 j) ?_
    refine xi_idiv (v := (((u7 + (nI (2 * j))) - (1 : Int32)) / (nI (2 * j)))) dX12_balls_97 (nI_ne0 (by omega) (by omega)) rfl ?_
    refine xi_max (v := (if v2 < (((u7 + (nI (2 * j))) - (1 : Int32)) / (nI (2 * j))) then (((u7 + (nI (2 * j))) - (1 : Int32)) / (nI (2 * j))) else v2)) dX12_balls_98 w_1234 w_37 w_3 w_mmax (Nat.le_of_ble_eq_true rfl) (Nat.le_of_ble_eq_true rfl) (Nat.le_of_ble_eq_true rfl) (Nat.le_of_ble_eq_true rfl) (Nat.le_of_ble_eq_true rfl) rfl ?_
    refine xi_istore_n (lv' := [(2, .int (if v2 < (((u7 + (nI (2 * j))) - (1 : Int32)) / (nI (2 * j))) then (((u7 + (nI (2 * j))) - (1 : Int32)) / (nI (2 * j))) else v2)), (0, .ref L), (1, .int (nI n1)), (3, .int (nI n3)), (4, .int (nI j)), (5, .int u7)]) dX12_balls_101 (by decide) rfl ?_
    refine xi_iinc (v := (nI (j + 1))) (lv' := [(4, .int (nI (j + 1))), (2, .int (if v2 < (((u7 + (nI (2 * j))) - (1 : Int32)) / (nI (2 * j))) then (((u7 + (nI (2 * j))) - (1 : Int32)) / (nI (2 * j))) else v2)), (0, .ref L), (1, .int (nI n1)), (3, .int (nI n3)), (5, .int u7)]) 4 dX12_balls_102 rfl (nI_1 _) (by decide) rfl ?_
    refine xi_goto (tgt := 16) dX12_balls_105 (by decide) ?_
    refine xi_sub (lv' := [(0, .ref L), (1, .int (nI n1)), (2, .int (if v2 < (((u7 + (nI (2 * j))) - (1 : Int32)) / (nI (2 * j))) then (((u7 + (nI (2 * j))) - (1 : Int32)) / (nI (2 * j))) else v2)), (3, .int (nI n3)), (4, .int (nI (j + 1)))]) [2, 3, 1, 4, 0] rfl ?_
    exact ih (j + 1) ((if v2 < (((u7 + (nI (2 * j))) - (1 : Int32)) / (nI (2 * j))) then (((u7 + (nI (2 * j))) - (1 : Int32)) / (nI (2 * j))) else v2)) (by omega) (by omega) hq
set_option maxHeartbeats 4000000 in
set_option maxRecDepth 100000 in
theorem LX12_balls_4_s (G : xG) {P R : xMem} {L : Nat} (hP : P.length = L) (i_keptMany : Nat) (i_taped : Nat) (i_faultKind : Int32) (i_faultPlace : Int32) (i_spot : Nat) (i_begin : Nat) (i_token : Int32) (i_value : Int32) (i_bad : Int32) (i_full : Nat) (i_bandRows : Int32) (i_bandFirsts : Int32) (i_outs : Nat) (f_state : Nat → Int32) (f_was : Nat → Int32) (f_kept : Nat → Int32) (f_tape : Nat → Int32) (f_order : Nat → Int32) (f_rest : Nat → Int32) (f_ways : Nat → Int32) (f_costs : Nat → Int32) (f_bandBest : Nat → Int32) (f_found : Nat → Int32) (f_drawn : Nat → Int32) (f_joined : Nat → Int32) (f_out : Nat → Int32) (bi_keptMany : i_keptMany ≤ 10) (bi_taped : i_taped ≤ 400) (bi_spot : i_spot ≤ 400) (bi_begin : i_begin ≤ 400) (bi_full : i_full ≤ 511) (bi_outs : i_outs ≤ 400) (hG : GO f_state) (n1 : Nat) (bn1 : n1 < 3) (Q : Int32 → Prop) (K : Int32 → Int32) (HE : ∀ (v2 : Int32), Q (K v2) → xW G mX12_balls (xrm 3 0 0) (xQ G (fun v M2 => ∃ o : Int32, v = some (.int o) ∧ Q o ∧ M2 = (P ++ (MDL L i_keptMany i_taped i_faultKind i_faultPlace i_spot i_begin i_token i_value i_bad i_full i_bandRows i_bandFirsts i_outs f_state f_was f_kept f_tape f_order f_rest f_ways f_costs f_bandBest f_found f_drawn f_joined f_out ++ R))) 0 0) 114 [(2, .int v2)] [] (P ++ (MDL L i_keptMany i_taped i_faultKind i_faultPlace i_spot i_begin i_token i_value i_bad i_full i_bandRows i_bandFirsts i_outs f_state f_was f_kept f_tape f_order f_rest f_ways f_costs f_bandBest f_found f_drawn f_joined f_out ++ R)) 0 0) :
    ∀ (k j : Nat) (v2 : Int32), (f_state (91 * n1)).toNatClampNeg - j = k → j < 100000 → Q (LX12_balls_4 f_state n1 K k j v2) → xW G mX12_balls (xrm 3 0 0) (xQ G (fun v M2 => ∃ o : Int32, v = some (.int o) ∧ Q o ∧ M2 = (P ++ (MDL L i_keptMany i_taped i_faultKind i_faultPlace i_spot i_begin i_token i_value i_bad i_full i_bandRows i_bandFirsts i_outs f_state f_was f_kept f_tape f_order f_rest f_ways f_costs f_bandBest f_found f_drawn f_joined f_out ++ R))) 0 0) 4 [(0, .ref L), (1, .int (nI n1)), (2, .int v2), (3, .int (nI j))] [] (P ++ (MDL L i_keptMany i_taped i_faultKind i_faultPlace i_spot i_begin i_token i_value i_bad i_full i_bandRows i_bandFirsts i_outs f_state f_was f_kept f_tape f_order f_rest f_ways f_costs f_bandBest f_found f_drawn f_joined f_out ++ R)) 0 0 := by
  intro k
  induction k with
  | zero =>
    intro j v2 hj hj2 hq
    rw [LX12_balls_4] at hq
    refine xi_iload_n 3 dX12_balls_4 rfl ?_
    refine xi_aload_n 0 dX12_balls_5 rfl ?_
    refine xi_iload_n 1 dX12_balls_6 rfl ?_
    refine xi_callV (as := [.int (nI n1)]) (rest := [.int (nI j)]) dX12_balls_7 (FX12_points_ok G hP i_keptMany i_taped i_faultKind i_faultPlace i_spot i_begin i_token i_value i_bad i_full i_bandRows i_bandFirsts i_outs f_state f_was f_kept f_tape f_order f_rest f_ways f_costs f_bandBest f_found f_drawn f_joined f_out (by omega) (by omega) (by omega) (by omega) (by omega) (by omega) n1 (by omega) _ rfl (fun r => r = nI ((f_state (91 * n1)).toNatClampNeg)) ((hG n1 (by omega)).1.1)) mkX12_points w_1108 ws_36 w_1106 (xpg0 hP rfl) rfl rfl rfl rfl (Nat.le_of_ble_eq_true rfl) (Nat.le_of_ble_eq_true rfl) (Nat.le_of_ble_eq_true rfl) (Nat.le_of_ble_eq_true rfl) (Nat.le_of_ble_eq_true rfl) ?_
    intro v M2 hz
    obtain ⟨_, rfl, rfl, rfl⟩ := hz
    show xW _ _ _ _ 10 _ [.int (nI ((f_state (91 * n1)).toNatClampNeg)), .int (nI j)] (P ++ (MDL L i_keptMany i_taped i_faultKind i_faultPlace i_spot i_begin i_token i_value i_bad i_full i_bandRows i_bandFirsts i_outs f_state f_was f_kept f_tape f_order f_rest f_ways f_costs f_bandBest f_found f_drawn f_joined f_out ++ R)) _ _
    have o10 := (hG n1 (by omega)).1.2
    refine xi_icmp_ge_t (tgt := 114) dX12_balls_10 (by decide) (nI_le (a := (f_state (91 * n1)).toNatClampNeg) (b := j) (by omega) (by omega)) ?_
    refine xi_sub (lv' := [(2, .int v2)]) [2] rfl ?_
    exact HE v2 hq
  | succ k ih =>
    intro j v2 hj hj2 hq
    rw [LX12_balls_4] at hq
    refine xi_iload_n 3 dX12_balls_4 rfl ?_
    refine xi_aload_n 0 dX12_balls_5 rfl ?_
    refine xi_iload_n 1 dX12_balls_6 rfl ?_
    refine xi_callV (as := [.int (nI n1)]) (rest := [.int (nI j)]) dX12_balls_7 (FX12_points_ok G hP i_keptMany i_taped i_faultKind i_faultPlace i_spot i_begin i_token i_value i_bad i_full i_bandRows i_bandFirsts i_outs f_state f_was f_kept f_tape f_order f_rest f_ways f_costs f_bandBest f_found f_drawn f_joined f_out (by omega) (by omega) (by omega) (by omega) (by omega) (by omega) n1 (by omega) _ rfl (fun r => r = nI ((f_state (91 * n1)).toNatClampNeg)) ((hG n1 (by omega)).1.1)) mkX12_points w_1108 ws_36 w_1106 (xpg0 hP rfl) rfl rfl rfl rfl (Nat.le_of_ble_eq_true rfl) (Nat.le_of_ble_eq_true rfl) (Nat.le_of_ble_eq_true rfl) (Nat.le_of_ble_eq_true rfl) (Nat.le_of_ble_eq_true rfl) ?_
    intro v M2 hz
    obtain ⟨_, rfl, rfl, rfl⟩ := hz
    show xW _ _ _ _ 10 _ [.int (nI ((f_state (91 * n1)).toNatClampNeg)), .int (nI j)] (P ++ (MDL L i_keptMany i_taped i_faultKind i_faultPlace i_spot i_begin i_token i_value i_bad i_full i_bandRows i_bandFirsts i_outs f_state f_was f_kept f_tape f_order f_rest f_ways f_costs f_bandBest f_found f_drawn f_joined f_out ++ R)) _ _
    have o1 := (hG n1 (by omega)).1.2
    refine xi_icmp_ge_f (tgt := 114) dX12_balls_10 (by decide) (nI_ge (a := j) (b := (f_state (91 * n1)).toNatClampNeg) (by omega) (by omega)) ?_
    refine xi_iconst (v := 1) dX12_balls_13 (by decide) ?_
    refine xi_istore (lv' := [(4, .int 1), (0, .ref L), (1, .int (nI n1)), (2, .int v2), (3, .int (nI j))]) dX12_balls_14 (by decide) rfl ?_
    refine xi_sub (lv' := [(0, .ref L), (1, .int (nI n1)), (2, .int v2), (3, .int (nI j)), (4, .int 1)]) [1, 2, 3, 4, 0] rfl ?_
    refine LX12_balls_16_s G hP i_keptMany i_taped i_faultKind i_faultPlace i_spot i_begin i_token i_value i_bad i_full i_bandRows i_bandFirsts i_outs f_state f_was f_kept f_tape f_order f_rest f_ways f_costs f_bandBest f_found f_drawn f_joined f_out (by omega) (by omega) (by omega) (by omega) (by omega) (by omega) hG n1 (by omega) j (by omega) Q _ (fun u9 hq => ?_) ((f_state (91 * n1)).toNatClampNeg - 1) 1 v2 rfl (by omega) hq
    refine xi_iinc (v := (nI (j + 1))) (lv' := [(3, .int (nI (j + 1))), (0, .ref L), (1, .int (nI n1)), (2, .int u9)]) 3 dX12_balls_108 rfl (nI_1 _) (by decide) rfl ?_
    refine xi_goto (tgt := 4) dX12_balls_111 (by decide) ?_
    refine xi_sub (lv' := [(0, .ref L), (1, .int (nI n1)), (2, .int u9), (3, .int (nI (j + 1)))]) [1, 2, 3, 0] rfl ?_
    exact ih (j + 1) u9 (by omega) (by omega) hq
def FX12_balls (f_state : Nat → Int32) (z : Nat) : Int32 := (LX12_balls_4 f_state z (fun u11 => u11) ((f_state (91 * z)).toNatClampNeg - 0) 0 ((0 : Int32)))
set_option maxHeartbeats 4000000 in
set_option maxRecDepth 100000 in
theorem FX12_balls_ok (G : xG) {P R : xMem} {L : Nat} (hP : P.length = L) (i_keptMany : Nat) (i_taped : Nat) (i_faultKind : Int32) (i_faultPlace : Int32) (i_spot : Nat) (i_begin : Nat) (i_token : Int32) (i_value : Int32) (i_bad : Int32) (i_full : Nat) (i_bandRows : Int32) (i_bandFirsts : Int32) (i_outs : Nat) (f_state : Nat → Int32) (f_was : Nat → Int32) (f_kept : Nat → Int32) (f_tape : Nat → Int32) (f_order : Nat → Int32) (f_rest : Nat → Int32) (f_ways : Nat → Int32) (f_costs : Nat → Int32) (f_bandBest : Nat → Int32) (f_found : Nat → Int32) (f_drawn : Nat → Int32) (f_joined : Nat → Int32) (f_out : Nat → Int32) (bi_keptMany : i_keptMany ≤ 10) (bi_taped : i_taped ≤ 400) (bi_spot : i_spot ≤ 400) (bi_begin : i_begin ≤ 400) (bi_full : i_full ≤ 511) (bi_outs : i_outs ≤ 400) (hG : GO f_state) (z : Nat) (bz : z < 3) (M : xMem) (hM : M = (P ++ (MDL L i_keptMany i_taped i_faultKind i_faultPlace i_spot i_begin i_token i_value i_bad i_full i_bandRows i_bandFirsts i_outs f_state f_was f_kept f_tape f_order f_rest f_ways f_costs f_bandBest f_found f_drawn f_joined f_out ++ R))) (Q : Int32 → Prop) (hq : Q (FX12_balls f_state z)) : xC G mX12_balls 3 0 0 [.ref L, .int (nI z)] M (fun v M2 => ∃ o : Int32, v = some (.int o) ∧ Q o ∧ M2 = (P ++ (MDL L i_keptMany i_taped i_faultKind i_faultPlace i_spot i_begin i_token i_value i_bad i_full i_bandRows i_bandFirsts i_outs f_state f_was f_kept f_tape f_order f_rest f_ways f_costs f_bandBest f_found f_drawn f_joined f_out ++ R))) := by
  subst hM
  unfold FX12_balls at hq
  refine xC.of (by decide) (Nat.le_of_ble_eq_true rfl) ?_
  show xW _ _ _ _ 0 [(0, .ref L), (1, .int (nI z))] [] _ 0 0
  refine xi_iconst (v := 0) dX12_balls_0 (by decide) ?_
  refine xi_istore_n (lv' := [(2, .int 0), (0, .ref L), (1, .int (nI z))]) dX12_balls_1 (by decide) rfl ?_
  refine xi_iconst (v := 0) dX12_balls_2 (by decide) ?_
  refine xi_istore_n (lv' := [(3, .int 0), (2, .int 0), (0, .ref L), (1, .int (nI z))]) dX12_balls_3 (by decide) rfl ?_
  refine xi_sub (lv' := [(0, .ref L), (1, .int (nI z)), (2, .int 0), (3, .int 0)]) [2, 3, 1, 0] rfl ?_
  refine LX12_balls_4_s G hP i_keptMany i_taped i_faultKind i_faultPlace i_spot i_begin i_token i_value i_bad i_full i_bandRows i_bandFirsts i_outs f_state f_was f_kept f_tape f_order f_rest f_ways f_costs f_bandBest f_found f_drawn f_joined f_out (by omega) (by omega) (by omega) (by omega) (by omega) (by omega) hG z (by omega) Q _ (fun u11 hq => ?_) ((f_state (91 * z)).toNatClampNeg - 0) 0 ((0 : Int32)) rfl (by omega) hq
  refine xi_iload_n 0 dX12_balls_114 rfl ?_
  exact xi_iret dX12_balls_115 rfl rfl (Nat.le_of_ble_eq_true rfl) (Nat.le_of_ble_eq_true rfl) ⟨_, rfl, hq, rfl⟩
def LX12_bound_66 (f_state : Nat → Int32) (n1 : Nat) (w2 : Int32) (K : Int32 → Int32) : Nat → Nat → Int32 → Int32
  | 0, _, v4 => K v4
  | k + 1, j, v4 => (LX12_bound_66 f_state n1 w2 K k (j + 1) ((if v4 < (FX12_weightOf f_state n1 j) then (FX12_weightOf f_state n1 j) else v4)))
set_option maxHeartbeats 4000000 in
set_option maxRecDepth 100000 in
theorem LX12_bound_66_s (G : xG) {P R : xMem} {L : Nat} (hP : P.length = L) (i_keptMany : Nat) (i_taped : Nat) (i_faultKind : Int32) (i_faultPlace : Int32) (i_spot : Nat) (i_begin : Nat) (i_token : Int32) (i_value : Int32) (i_bad : Int32) (i_full : Nat) (i_bandRows : Int32) (i_bandFirsts : Int32) (i_outs : Nat) (f_state : Nat → Int32) (f_was : Nat → Int32) (f_kept : Nat → Int32) (f_tape : Nat → Int32) (f_order : Nat → Int32) (f_rest : Nat → Int32) (f_ways : Nat → Int32) (f_costs : Nat → Int32) (f_bandBest : Nat → Int32) (f_found : Nat → Int32) (f_drawn : Nat → Int32) (f_joined : Nat → Int32) (f_out : Nat → Int32) (bi_keptMany : i_keptMany ≤ 10) (bi_taped : i_taped ≤ 400) (bi_spot : i_spot ≤ 400) (bi_begin : i_begin ≤ 400) (bi_full : i_full ≤ 511) (bi_outs : i_outs ≤ 400) (hG : GO f_state) (n1 : Nat) (bn1 : n1 < 3) (w2 : Int32) (Q : Int32 → Prop) (K : Int32 → Int32) (HE : ∀ (v4 : Int32), Q (K v4) → xW G mX12_bound (xrm 4 0 0) (xQ G (fun v M2 => ∃ o : Int32, v = some (.int o) ∧ Q o ∧ M2 = (P ++ (MDL L i_keptMany i_taped i_faultKind i_faultPlace i_spot i_begin i_token i_value i_bad i_full i_bandRows i_bandFirsts i_outs f_state f_was f_kept f_tape f_order f_rest f_ways f_costs f_bandBest f_found f_drawn f_joined f_out ++ R))) 0 0) 96 [(0, .ref L), (1, .int (nI n1)), (2, .int w2), (4, .int v4)] [] (P ++ (MDL L i_keptMany i_taped i_faultKind i_faultPlace i_spot i_begin i_token i_value i_bad i_full i_bandRows i_bandFirsts i_outs f_state f_was f_kept f_tape f_order f_rest f_ways f_costs f_bandBest f_found f_drawn f_joined f_out ++ R)) 0 0) :
    ∀ (k j : Nat) (v4 : Int32), (f_state (91 * n1)).toNatClampNeg - j = k → j < 100000 → Q (LX12_bound_66 f_state n1 w2 K k j v4) → xW G mX12_bound (xrm 4 0 0) (xQ G (fun v M2 => ∃ o : Int32, v = some (.int o) ∧ Q o ∧ M2 = (P ++ (MDL L i_keptMany i_taped i_faultKind i_faultPlace i_spot i_begin i_token i_value i_bad i_full i_bandRows i_bandFirsts i_outs f_state f_was f_kept f_tape f_order f_rest f_ways f_costs f_bandBest f_found f_drawn f_joined f_out ++ R))) 0 0) 66 [(0, .ref L), (1, .int (nI n1)), (2, .int w2), (4, .int v4), (5, .int (nI j))] [] (P ++ (MDL L i_keptMany i_taped i_faultKind i_faultPlace i_spot i_begin i_token i_value i_bad i_full i_bandRows i_bandFirsts i_outs f_state f_was f_kept f_tape f_order f_rest f_ways f_costs f_bandBest f_found f_drawn f_joined f_out ++ R)) 0 0 := by
  intro k
  induction k with
  | zero =>
    intro j v4 hj hj2 hq
    rw [LX12_bound_66] at hq
    refine xi_iload 4 dX12_bound_66 rfl ?_
    refine xi_aload_n 0 dX12_bound_68 rfl ?_
    refine xi_iload_n 1 dX12_bound_69 rfl ?_
    refine xi_callV (as := [.int (nI n1)]) (rest := [.int (nI j)]) dX12_bound_70 (FX12_points_ok G hP i_keptMany i_taped i_faultKind i_faultPlace i_spot i_begin i_token i_value i_bad i_full i_bandRows i_bandFirsts i_outs f_state f_was f_kept f_tape f_order f_rest f_ways f_costs f_bandBest f_found f_drawn f_joined f_out (by omega) (by omega) (by omega) (by omega) (by omega) (by omega) n1 (by omega) _ rfl (fun r => r = nI ((f_state (91 * n1)).toNatClampNeg)) ((hG n1 (by omega)).1.1)) mkX12_points w_1108 ws_36 w_1106 (xpg0 hP rfl) rfl rfl rfl rfl (Nat.le_of_ble_eq_true rfl) (Nat.le_of_ble_eq_true rfl) (Nat.le_of_ble_eq_true rfl) (Nat.le_of_ble_eq_true rfl) (Nat.le_of_ble_eq_true rfl) ?_
    intro v M2 hz
    obtain ⟨_, rfl, rfl, rfl⟩ := hz
    show xW _ _ _ _ 73 _ [.int (nI ((f_state (91 * n1)).toNatClampNeg)), .int (nI j)] (P ++ (MDL L i_keptMany i_taped i_faultKind i_faultPlace i_spot i_begin i_token i_value i_bad i_full i_bandRows i_bandFirsts i_outs f_state f_was f_kept f_tape f_order f_rest f_ways f_costs f_bandBest f_found f_drawn f_joined f_out ++ R)) _ _
    have o9 := (hG n1 (by omega)).1.2
    refine xi_icmp_ge_t (tgt := 96) dX12_bound_73 (by decide) (nI_le (a := (f_state (91 * n1)).toNatClampNeg) (b := j) (by omega) (by omega)) ?_
    refine xi_sub (lv' := [(0, .ref L), (1, .int (nI n1)), (2, .int w2), (4, .int v4)]) [0, 1, 2, 3] rfl ?_
    exact HE v4 hq
  | succ k ih =>
    intro j v4 hj hj2 hq
    rw [LX12_bound_66] at hq
    refine xi_iload 4 dX12_bound_66 rfl ?_
    refine xi_aload_n 0 dX12_bound_68 rfl ?_
    refine xi_iload_n 1 dX12_bound_69 rfl ?_
    refine xi_callV (as := [.int (nI n1)]) (rest := [.int (nI j)]) dX12_bound_70 (FX12_points_ok G hP i_keptMany i_taped i_faultKind i_faultPlace i_spot i_begin i_token i_value i_bad i_full i_bandRows i_bandFirsts i_outs f_state f_was f_kept f_tape f_order f_rest f_ways f_costs f_bandBest f_found f_drawn f_joined f_out (by omega) (by omega) (by omega) (by omega) (by omega) (by omega) n1 (by omega) _ rfl (fun r => r = nI ((f_state (91 * n1)).toNatClampNeg)) ((hG n1 (by omega)).1.1)) mkX12_points w_1108 ws_36 w_1106 (xpg0 hP rfl) rfl rfl rfl rfl (Nat.le_of_ble_eq_true rfl) (Nat.le_of_ble_eq_true rfl) (Nat.le_of_ble_eq_true rfl) (Nat.le_of_ble_eq_true rfl) (Nat.le_of_ble_eq_true rfl) ?_
    intro v M2 hz
    obtain ⟨_, rfl, rfl, rfl⟩ := hz
    show xW _ _ _ _ 73 _ [.int (nI ((f_state (91 * n1)).toNatClampNeg)), .int (nI j)] (P ++ (MDL L i_keptMany i_taped i_faultKind i_faultPlace i_spot i_begin i_token i_value i_bad i_full i_bandRows i_bandFirsts i_outs f_state f_was f_kept f_tape f_order f_rest f_ways f_costs f_bandBest f_found f_drawn f_joined f_out ++ R)) _ _
    have o8 := (hG n1 (by omega)).1.2
    refine xi_icmp_ge_f (tgt := 96) dX12_bound_73 (by decide) (nI_ge (a := j) (b := (f_state (91 * n1)).toNatClampNeg) (by omega) (by omega)) ?_
    refine xi_iload 3 dX12_bound_76 rfl ?_
    refine xi_aload_n 0 dX12_bound_78 rfl ?_
    refine xi_iload_n 1 dX12_bound_79 rfl ?_
    refine xi_iload 4 dX12_bound_80 rfl ?_
    refine xi_callV (as := [.int (nI n1), .int (nI j)]) (rest := [.int v4]) dX12_bound_82 (FX12_weightOf_ok G hP i_keptMany i_taped i_faultKind i_faultPlace i_spot i_begin i_token i_value i_bad i_full i_bandRows i_bandFirsts i_outs f_state f_was f_kept f_tape f_order f_rest f_ways f_costs f_bandBest f_found f_drawn f_joined f_out (by omega) (by omega) (by omega) (by omega) (by omega) (by omega) hG n1 (by omega) j (by omega) _ rfl (fun r => r = FX12_weightOf f_state n1 j) rfl) mkX12_weightOf w_1228 ws_57 w_1226 (xpg0 hP rfl) rfl rfl rfl rfl (Nat.le_of_ble_eq_true rfl) (Nat.le_of_ble_eq_true rfl) (Nat.le_of_ble_eq_true rfl) (Nat.le_of_ble_eq_true rfl) (Nat.le_of_ble_eq_true rfl) ?_
    intro v M2 hz
    obtain ⟨_, rfl, rfl, rfl⟩ := hz
    show xW _ _ _ _ 85 _ [.int (FX12_weightOf f_state n1 j), .int v4] (P ++ (MDL L i_keptMany i_taped i_faultKind i_faultPlace i_spot i_begin i_token i_value i_bad i_full i_bandRows i_bandFirsts i_outs f_state f_was f_kept f_tape f_order f_rest f_ways f_costs f_bandBest f_found f_drawn f_joined f_out ++ R)) _ _
    refine xi_max (v := (if v4 < (FX12_weightOf f_state n1 j) then (FX12_weightOf f_state n1 j) else v4)) dX12_bound_85 w_1234 w_37 w_3 w_mmax (Nat.le_of_ble_eq_true rfl) (Nat.le_of_ble_eq_true rfl) (Nat.le_of_ble_eq_true rfl) (Nat.le_of_ble_eq_true rfl) (Nat.le_of_ble_eq_true rfl) rfl ?_
    refine xi_istore (lv' := [(4, .int (if v4 < (FX12_weightOf f_state n1 j) then (FX12_weightOf f_state n1 j) else v4)), (0, .ref L), (1, .int (nI n1)), (2, .int w2), (5, .int (nI j))]) dX12_bound_88 (by decide) rfl ?_
    refine xi_iinc (v := (nI (j + 1))) (lv' := [(5, .int (nI (j + 1))), (4, .int (if v4 < (FX12_weightOf f_state n1 j) then (FX12_weightOf f_state n1 j) else v4)), (0, .ref L), (1, .int (nI n1)), (2, .int w2)]) 4 dX12_bound_90 rfl (nI_1 _) (by decide) rfl ?_
    refine xi_goto (tgt := 66) dX12_bound_93 (by decide) ?_
    refine xi_sub (lv' := [(0, .ref L), (1, .int (nI n1)), (2, .int w2), (4, .int (if v4 < (FX12_weightOf f_state n1 j) then (FX12_weightOf f_state n1 j) else v4)), (5, .int (nI (j + 1)))]) [2, 3, 4, 1, 0] rfl ?_
    exact ih (j + 1) ((if v4 < (FX12_weightOf f_state n1 j) then (FX12_weightOf f_state n1 j) else v4)) (by omega) (by omega) hq
def FX12_bound (f_state : Nat → Int32) (x : Int32) (m : Int32) (y : Int32) : Int32 := (if (FX12_isNet f_state x) = (0 : Int32) then (-2 : Int32) else (if (FX12_isMeasure m) = (0 : Int32) then (-2 : Int32) else (if m = (2 : Int32) then (if m = (2 : Int32) then (if (FX12_in y.toInt64 ((0 : Int64)) ((1 : Int64))) = (0 : Int32) then (-2 : Int32) else (if y = (1 : Int32) then (FX12_balls f_state x.toNatClampNeg) else (LX12_bound_66 f_state x.toNatClampNeg m (fun u15 => (if m = (0 : Int32) then ((u15 + (1 : Int32)) / (2 : Int32)) else (if m = (2 : Int32) then (((FX12_degree f_state x.toNatClampNeg) + (1 : Int32)) / (2 : Int32)) else (FX12_core f_state x.toNatClampNeg)))) ((f_state (91 * x.toNatClampNeg)).toNatClampNeg - 0) 0 ((0 : Int32))))) else (if (FX12_in y.toInt64 ((0 : Int64)) ((0 : Int64))) = (0 : Int32) then (-2 : Int32) else (if y = (1 : Int32) then (FX12_balls f_state x.toNatClampNeg) else (LX12_bound_66 f_state x.toNatClampNeg m (fun u10 => (if m = (0 : Int32) then ((u10 + (1 : Int32)) / (2 : Int32)) else (if m = (2 : Int32) then (((FX12_degree f_state x.toNatClampNeg) + (1 : Int32)) / (2 : Int32)) else (FX12_core f_state x.toNatClampNeg)))) ((f_state (91 * x.toNatClampNeg)).toNatClampNeg - 0) 0 ((0 : Int32)))))) else (if (FX12_isGreatest m) = (0 : Int32) then (-2 : Int32) else (if m = (2 : Int32) then (if (FX12_in y.toInt64 ((0 : Int64)) ((1 : Int64))) = (0 : Int32) then (-2 : Int32) else (if y = (1 : Int32) then (FX12_balls f_state x.toNatClampNeg) else (LX12_bound_66 f_state x.toNatClampNeg m (fun u27 => (if m = (0 : Int32) then ((u27 + (1 : Int32)) / (2 : Int32)) else (if m = (2 : Int32) then (((FX12_degree f_state x.toNatClampNeg) + (1 : Int32)) / (2 : Int32)) else (FX12_core f_state x.toNatClampNeg)))) ((f_state (91 * x.toNatClampNeg)).toNatClampNeg - 0) 0 ((0 : Int32))))) else (if (FX12_in y.toInt64 ((0 : Int64)) ((0 : Int64))) = (0 : Int32) then (-2 : Int32) else (if y = (1 : Int32) then (FX12_balls f_state x.toNatClampNeg) else (LX12_bound_66 f_state x.toNatClampNeg m (fun u22 => (if m = (0 : Int32) then ((u22 + (1 : Int32)) / (2 : Int32)) else (if m = (2 : Int32) then (((FX12_degree f_state x.toNatClampNeg) + (1 : Int32)) / (2 : Int32)) else (FX12_core f_state x.toNatClampNeg)))) ((f_state (91 * x.toNatClampNeg)).toNatClampNeg - 0) 0 ((0 : Int32))))))))))
set_option maxHeartbeats 4000000 in
set_option maxRecDepth 100000 in
theorem FX12_bound_ok (G : xG) {P R : xMem} {L : Nat} (hP : P.length = L) (i_keptMany : Nat) (i_taped : Nat) (i_faultKind : Int32) (i_faultPlace : Int32) (i_spot : Nat) (i_begin : Nat) (i_token : Int32) (i_value : Int32) (i_bad : Int32) (i_full : Nat) (i_bandRows : Int32) (i_bandFirsts : Int32) (i_outs : Nat) (f_state : Nat → Int32) (f_was : Nat → Int32) (f_kept : Nat → Int32) (f_tape : Nat → Int32) (f_order : Nat → Int32) (f_rest : Nat → Int32) (f_ways : Nat → Int32) (f_costs : Nat → Int32) (f_bandBest : Nat → Int32) (f_found : Nat → Int32) (f_drawn : Nat → Int32) (f_joined : Nat → Int32) (f_out : Nat → Int32) (bi_keptMany : i_keptMany ≤ 10) (bi_taped : i_taped ≤ 400) (bi_spot : i_spot ≤ 400) (bi_begin : i_begin ≤ 400) (bi_full : i_full ≤ 511) (bi_outs : i_outs ≤ 400) (hG : GO f_state) (x : Int32) (m : Int32) (y : Int32) (M : xMem) (hM : M = (P ++ (MDL L i_keptMany i_taped i_faultKind i_faultPlace i_spot i_begin i_token i_value i_bad i_full i_bandRows i_bandFirsts i_outs f_state f_was f_kept f_tape f_order f_rest f_ways f_costs f_bandBest f_found f_drawn f_joined f_out ++ R))) (Q : Int32 → Prop) (hq : Q (FX12_bound f_state x m y)) : xC G mX12_bound 4 0 0 [.ref L, .int x, .int m, .int y] M (fun v M2 => ∃ o : Int32, v = some (.int o) ∧ Q o ∧ M2 = (P ++ (MDL L i_keptMany i_taped i_faultKind i_faultPlace i_spot i_begin i_token i_value i_bad i_full i_bandRows i_bandFirsts i_outs f_state f_was f_kept f_tape f_order f_rest f_ways f_costs f_bandBest f_found f_drawn f_joined f_out ++ R))) := by
  subst hM
  unfold FX12_bound at hq
  refine xC.of (by decide) (Nat.le_of_ble_eq_true rfl) ?_
  show xW _ _ _ _ 0 [(0, .ref L), (1, .int x), (2, .int m), (3, .int y)] [] _ 0 0
  refine xi_aload_n 0 dX12_bound_0 rfl ?_
  refine xi_iload_n 1 dX12_bound_1 rfl ?_
  refine xi_callV (as := [.int x]) (rest := []) dX12_bound_2 (FX12_isNet_ok G hP i_keptMany i_taped i_faultKind i_faultPlace i_spot i_begin i_token i_value i_bad i_full i_bandRows i_bandFirsts i_outs f_state f_was f_kept f_tape f_order f_rest f_ways f_costs f_bandBest f_found f_drawn f_joined f_out (by omega) (by omega) (by omega) (by omega) (by omega) (by omega) hG x _ rfl (fun r => r = FX12_isNet f_state x) rfl) mkX12_isNet w_1104 ws_35 w_1102 (xpg0 hP rfl) rfl rfl rfl rfl (Nat.le_of_ble_eq_true rfl) (Nat.le_of_ble_eq_true rfl) (Nat.le_of_ble_eq_true rfl) (Nat.le_of_ble_eq_true rfl) (Nat.le_of_ble_eq_true rfl) ?_
  intro v M2 hz
  obtain ⟨_, rfl, rfl, rfl⟩ := hz
  show xW _ _ _ _ 5 _ [.int (FX12_isNet f_state x)] (P ++ (MDL L i_keptMany i_taped i_faultKind i_faultPlace i_spot i_begin i_token i_value i_bad i_full i_bandRows i_bandFirsts i_outs f_state f_was f_kept f_tape f_order f_rest f_ways f_costs f_bandBest f_found f_drawn f_joined f_out ++ R)) _ _
  refine xi_if_eq (tgt := 46) dX12_bound_5 (by decide) (fun c1 => ?_) (fun c1 => ?_)
  · rw [if_pos c1] at hq
    refine xi_bipush (v := (-2)) dX12_bound_46 (by decide) ?_
    exact xi_iret dX12_bound_48 rfl rfl (Nat.le_of_ble_eq_true rfl) (Nat.le_of_ble_eq_true rfl) ⟨_, rfl, hq, rfl⟩
  · rw [if_neg c1] at hq
    obtain ⟨e2, e2b, e2h⟩ := net_in c1
    have e2c : x.toNatClampNeg = e2 := by rw [e2h]; exact nI_clamp (by omega)
    try rw [e2c] at hq
    subst e2h
    have e2g := (hG e2 e2b).1.2
    refine xi_iload_n 2 dX12_bound_8 rfl ?_
    refine xi_callS (as := [.int m]) (rest := []) dX12_bound_9 (FX12_isMeasure_ok G m (fun r => r = FX12_isMeasure m) rfl) mkX12_isMeasure w_1288 w_1287 rfl rfl (Nat.le_of_ble_eq_true rfl) (Nat.le_of_ble_eq_true rfl) (Nat.le_of_ble_eq_true rfl) (Nat.le_of_ble_eq_true rfl) (Nat.le_of_ble_eq_true rfl) ?_
    intro v M2 hz
    obtain ⟨_, rfl, rfl, hM2⟩ := hz
    rw [hM2]
    show xW _ _ _ _ 12 _ [.int (FX12_isMeasure m)] (P ++ (MDL L i_keptMany i_taped i_faultKind i_faultPlace i_spot i_begin i_token i_value i_bad i_full i_bandRows i_bandFirsts i_outs f_state f_was f_kept f_tape f_order f_rest f_ways f_costs f_bandBest f_found f_drawn f_joined f_out ++ R)) _ _
    refine xi_if_eq (tgt := 46) dX12_bound_12 (by decide) (fun c3 => ?_) (fun c3 => ?_)
    · rw [if_pos c3] at hq
      refine xi_bipush (v := (-2)) dX12_bound_46 (by decide) ?_
      exact xi_iret dX12_bound_48 rfl rfl (Nat.le_of_ble_eq_true rfl) (Nat.le_of_ble_eq_true rfl) ⟨_, rfl, hq, rfl⟩
    · rw [if_neg c3] at hq
      refine xi_iload_n 2 dX12_bound_15 rfl ?_
      refine xi_iconst (v := 2) dX12_bound_16 (by decide) ?_
      refine xi_icmp_eq (tgt := 27) dX12_bound_17 (by decide) (fun c4 => ?_) (fun c4 => ?_)
      · rw [if_pos c4] at hq
        refine xi_iload_n 3 dX12_bound_27 rfl ?_
        refine xi_i2l dX12_bound_28 rfl ?_
        refine xi_lconst (v := 0) dX12_bound_29 (by decide) ?_
        refine xi_iload_n 2 dX12_bound_30 rfl ?_
        refine xi_iconst (v := 2) dX12_bound_31 (by decide) ?_
        refine xi_icmp_ne (tgt := 39) dX12_bound_32 (by decide) (fun c5 => ?_) (fun c5 => ?_)
        · rw [if_neg c5] at hq
          refine xi_lconst (v := 0) dX12_bound_39 (by decide) ?_
          refine xi_callS (as := [.long y.toInt64, .long 0, .long 0]) (rest := []) dX12_bound_40 (FX12_in_ok G y.toInt64 ((0 : Int64)) ((0 : Int64)) (fun r => r = FX12_in y.toInt64 ((0 : Int64)) ((0 : Int64))) rfl) mkX12_in w_1100 w_1099 rfl rfl (Nat.le_of_ble_eq_true rfl) (Nat.le_of_ble_eq_true rfl) (Nat.le_of_ble_eq_true rfl) (Nat.le_of_ble_eq_true rfl) (Nat.le_of_ble_eq_true rfl) ?_
          intro v M2 hz
          obtain ⟨_, rfl, rfl, hM2⟩ := hz
          rw [hM2]
          show xW _ _ _ _ 43 _ [.int (FX12_in y.toInt64 ((0 : Int64)) ((0 : Int64)))] (P ++ (MDL L i_keptMany i_taped i_faultKind i_faultPlace i_spot i_begin i_token i_value i_bad i_full i_bandRows i_bandFirsts i_outs f_state f_was f_kept f_tape f_order f_rest f_ways f_costs f_bandBest f_found f_drawn f_joined f_out ++ R)) _ _
          refine xi_if_ne (tgt := 49) dX12_bound_43 (by decide) (fun c6 => ?_) (fun c6 => ?_)
          · rw [if_neg c6] at hq
            refine xi_iload_n 3 dX12_bound_49 rfl ?_
            refine xi_iconst (v := 1) dX12_bound_50 (by decide) ?_
            refine xi_icmp_ne (tgt := 60) dX12_bound_51 (by decide) (fun c7 => ?_) (fun c7 => ?_)
            · rw [if_neg c7] at hq
              refine xi_iconst (v := 0) dX12_bound_60 (by decide) ?_
              refine xi_istore (lv' := [(4, .int 0), (0, .ref L), (1, .int (nI e2)), (2, .int m), (3, .int y)]) dX12_bound_61 (by decide) rfl ?_
              refine xi_iconst (v := 0) dX12_bound_63 (by decide) ?_
              refine xi_istore (lv' := [(5, .int 0), (4, .int 0), (0, .ref L), (1, .int (nI e2)), (2, .int m), (3, .int y)]) dX12_bound_64 (by decide) rfl ?_
              refine xi_sub (lv' := [(0, .ref L), (1, .int (nI e2)), (2, .int m), (4, .int 0), (5, .int 0)]) [2, 3, 4, 1, 0] rfl ?_
              refine LX12_bound_66_s G hP i_keptMany i_taped i_faultKind i_faultPlace i_spot i_begin i_token i_value i_bad i_full i_bandRows i_bandFirsts i_outs f_state f_was f_kept f_tape f_order f_rest f_ways f_costs f_bandBest f_found f_drawn f_joined f_out (by omega) (by omega) (by omega) (by omega) (by omega) (by omega) hG e2 (by omega) m Q _ (fun u10 hq => ?_) ((f_state (91 * e2)).toNatClampNeg - 0) 0 ((0 : Int32)) rfl (by omega) hq
              refine xi_iload_n 2 dX12_bound_96 rfl ?_
              refine xi_if_ne (tgt := 109) dX12_bound_97 (by decide) (fun c11 => ?_) (fun c11 => ?_)
              · rw [if_neg c11] at hq
                refine xi_iload_n 2 dX12_bound_109 rfl ?_
                refine xi_iconst (v := 2) dX12_bound_110 (by decide) ?_
                refine xi_icmp_ne (tgt := 126) dX12_bound_111 (by decide) (fun c12 => ?_) (fun c12 => ?_)
                · rw [if_neg c12] at hq
                  refine xi_aload_n 0 dX12_bound_126 rfl ?_
                  refine xi_iload_n 1 dX12_bound_127 rfl ?_
                  refine xi_callV (as := [.int (nI e2)]) (rest := []) dX12_bound_128 (FX12_core_ok G hP i_keptMany i_taped i_faultKind i_faultPlace i_spot i_begin i_token i_value i_bad i_full i_bandRows i_bandFirsts i_outs f_state f_was f_kept f_tape f_order f_rest f_ways f_costs f_bandBest f_found f_drawn f_joined f_out (by omega) (by omega) (by omega) (by omega) (by omega) (by omega) hG e2 (by omega) _ rfl (fun r => r = FX12_core f_state e2) rfl) mkX12_core w_1249 ws_62 w_1247 (xpg0 hP rfl) rfl rfl rfl rfl (Nat.le_of_ble_eq_true rfl) (Nat.le_of_ble_eq_true rfl) (Nat.le_of_ble_eq_true rfl) (Nat.le_of_ble_eq_true rfl) (Nat.le_of_ble_eq_true rfl) ?_
                  intro v M2 hz
                  obtain ⟨_, rfl, rfl, rfl⟩ := hz
                  show xW _ _ _ _ 131 _ [.int (FX12_core f_state e2)] (P ++ (MDL L i_keptMany i_taped i_faultKind i_faultPlace i_spot i_begin i_token i_value i_bad i_full i_bandRows i_bandFirsts i_outs f_state f_was f_kept f_tape f_order f_rest f_ways f_costs f_bandBest f_found f_drawn f_joined f_out ++ R)) _ _
                  exact xi_iret dX12_bound_131 rfl rfl (Nat.le_of_ble_eq_true rfl) (Nat.le_of_ble_eq_true rfl) ⟨_, rfl, hq, rfl⟩
                · rw [if_pos c12] at hq
                  refine xi_aload_n 0 dX12_bound_114 rfl ?_
                  refine xi_iload_n 1 dX12_bound_115 rfl ?_
                  refine xi_callV (as := [.int (nI e2)]) (rest := []) dX12_bound_116 (FX12_degree_ok G hP i_keptMany i_taped i_faultKind i_faultPlace i_spot i_begin i_token i_value i_bad i_full i_bandRows i_bandFirsts i_outs f_state f_was f_kept f_tape f_order f_rest f_ways f_costs f_bandBest f_found f_drawn f_joined f_out (by omega) (by omega) (by omega) (by omega) (by omega) (by omega) hG e2 (by omega) _ rfl (fun r => r = FX12_degree f_state e2) rfl) mkX12_degree w_1232 ws_58 w_1230 (xpg0 hP rfl) rfl rfl rfl rfl (Nat.le_of_ble_eq_true rfl) (Nat.le_of_ble_eq_true rfl) (Nat.le_of_ble_eq_true rfl) (Nat.le_of_ble_eq_true rfl) (Nat.le_of_ble_eq_true rfl) ?_
                  intro v M2 hz
                  obtain ⟨_, rfl, rfl, rfl⟩ := hz
                  show xW _ _ _ _ 119 _ [.int (FX12_degree f_state e2)] (P ++ (MDL L i_keptMany i_taped i_faultKind i_faultPlace i_spot i_begin i_token i_value i_bad i_full i_bandRows i_bandFirsts i_outs f_state f_was f_kept f_tape f_order f_rest f_ways f_costs f_bandBest f_found f_drawn f_joined f_out ++ R)) _ _
                  refine xi_iconst (v := 1) dX12_bound_119 (by decide) ?_
                  refine xi_iadd (v := ((FX12_degree f_state e2) + (1 : Int32))) dX12_bound_120 rfl ?_
                  refine xi_iconst (v := 2) dX12_bound_121 (by decide) ?_
                  refine xi_idiv (v := (((FX12_degree f_state e2) + (1 : Int32)) / (2 : Int32))) dX12_bound_122 (by decide) rfl ?_
                  refine xi_goto (tgt := 131) dX12_bound_123 (by decide) ?_
                  exact xi_iret dX12_bound_131 rfl rfl (Nat.le_of_ble_eq_true rfl) (Nat.le_of_ble_eq_true rfl) ⟨_, rfl, hq, rfl⟩
              · rw [if_pos c11] at hq
                refine xi_iload 3 dX12_bound_100 rfl ?_
                refine xi_iconst (v := 1) dX12_bound_102 (by decide) ?_
                refine xi_iadd (v := (u10 + (1 : Int32))) dX12_bound_103 rfl ?_
                refine xi_iconst (v := 2) dX12_bound_104 (by decide) ?_
                refine xi_idiv (v := ((u10 + (1 : Int32)) / (2 : Int32))) dX12_bound_105 (by decide) rfl ?_
                refine xi_goto (tgt := 131) dX12_bound_106 (by decide) ?_
                exact xi_iret dX12_bound_131 rfl rfl (Nat.le_of_ble_eq_true rfl) (Nat.le_of_ble_eq_true rfl) ⟨_, rfl, hq, rfl⟩
            · rw [if_pos c7] at hq
              refine xi_aload_n 0 dX12_bound_54 rfl ?_
              refine xi_iload_n 1 dX12_bound_55 rfl ?_
              refine xi_callV (as := [.int (nI e2)]) (rest := []) dX12_bound_56 (FX12_balls_ok G hP i_keptMany i_taped i_faultKind i_faultPlace i_spot i_begin i_token i_value i_bad i_full i_bandRows i_bandFirsts i_outs f_state f_was f_kept f_tape f_order f_rest f_ways f_costs f_bandBest f_found f_drawn f_joined f_out (by omega) (by omega) (by omega) (by omega) (by omega) (by omega) hG e2 (by omega) _ rfl (fun r => r = FX12_balls f_state e2) rfl) mkX12_balls w_1420 ws_85 w_1418 (xpg0 hP rfl) rfl rfl rfl rfl (Nat.le_of_ble_eq_true rfl) (Nat.le_of_ble_eq_true rfl) (Nat.le_of_ble_eq_true rfl) (Nat.le_of_ble_eq_true rfl) (Nat.le_of_ble_eq_true rfl) ?_
              intro v M2 hz
              obtain ⟨_, rfl, rfl, rfl⟩ := hz
              show xW _ _ _ _ 59 _ [.int (FX12_balls f_state e2)] (P ++ (MDL L i_keptMany i_taped i_faultKind i_faultPlace i_spot i_begin i_token i_value i_bad i_full i_bandRows i_bandFirsts i_outs f_state f_was f_kept f_tape f_order f_rest f_ways f_costs f_bandBest f_found f_drawn f_joined f_out ++ R)) _ _
              exact xi_iret dX12_bound_59 rfl rfl (Nat.le_of_ble_eq_true rfl) (Nat.le_of_ble_eq_true rfl) ⟨_, rfl, hq, rfl⟩
          · rw [if_pos c6] at hq
            refine xi_bipush (v := (-2)) dX12_bound_46 (by decide) ?_
            exact xi_iret dX12_bound_48 rfl rfl (Nat.le_of_ble_eq_true rfl) (Nat.le_of_ble_eq_true rfl) ⟨_, rfl, hq, rfl⟩
        · rw [if_pos c5] at hq
          refine xi_lconst (v := 1) dX12_bound_35 (by decide) ?_
          refine xi_goto (tgt := 40) dX12_bound_36 (by decide) ?_
          refine xi_callS (as := [.long y.toInt64, .long 0, .long 1]) (rest := []) dX12_bound_40 (FX12_in_ok G y.toInt64 ((0 : Int64)) ((1 : Int64)) (fun r => r = FX12_in y.toInt64 ((0 : Int64)) ((1 : Int64))) rfl) mkX12_in w_1100 w_1099 rfl rfl (Nat.le_of_ble_eq_true rfl) (Nat.le_of_ble_eq_true rfl) (Nat.le_of_ble_eq_true rfl) (Nat.le_of_ble_eq_true rfl) (Nat.le_of_ble_eq_true rfl) ?_
          intro v M2 hz
          obtain ⟨_, rfl, rfl, hM2⟩ := hz
          rw [hM2]
          show xW _ _ _ _ 43 _ [.int (FX12_in y.toInt64 ((0 : Int64)) ((1 : Int64)))] (P ++ (MDL L i_keptMany i_taped i_faultKind i_faultPlace i_spot i_begin i_token i_value i_bad i_full i_bandRows i_bandFirsts i_outs f_state f_was f_kept f_tape f_order f_rest f_ways f_costs f_bandBest f_found f_drawn f_joined f_out ++ R)) _ _
          refine xi_if_ne (tgt := 49) dX12_bound_43 (by decide) (fun c13 => ?_) (fun c13 => ?_)
          · rw [if_neg c13] at hq
            refine xi_iload_n 3 dX12_bound_49 rfl ?_
            refine xi_iconst (v := 1) dX12_bound_50 (by decide) ?_
            refine xi_icmp_ne (tgt := 60) dX12_bound_51 (by decide) (fun c14 => ?_) (fun c14 => ?_)
            · rw [if_neg c14] at hq
              refine xi_iconst (v := 0) dX12_bound_60 (by decide) ?_
              refine xi_istore (lv' := [(4, .int 0), (0, .ref L), (1, .int (nI e2)), (2, .int m), (3, .int y)]) dX12_bound_61 (by decide) rfl ?_
              refine xi_iconst (v := 0) dX12_bound_63 (by decide) ?_
              refine xi_istore (lv' := [(5, .int 0), (4, .int 0), (0, .ref L), (1, .int (nI e2)), (2, .int m), (3, .int y)]) dX12_bound_64 (by decide) rfl ?_
              refine xi_sub (lv' := [(0, .ref L), (1, .int (nI e2)), (2, .int m), (4, .int 0), (5, .int 0)]) [2, 3, 4, 1, 0] rfl ?_
              refine LX12_bound_66_s G hP i_keptMany i_taped i_faultKind i_faultPlace i_spot i_begin i_token i_value i_bad i_full i_bandRows i_bandFirsts i_outs f_state f_was f_kept f_tape f_order f_rest f_ways f_costs f_bandBest f_found f_drawn f_joined f_out (by omega) (by omega) (by omega) (by omega) (by omega) (by omega) hG e2 (by omega) m Q _ (fun u15 hq => ?_) ((f_state (91 * e2)).toNatClampNeg - 0) 0 ((0 : Int32)) rfl (by omega) hq
              refine xi_iload_n 2 dX12_bound_96 rfl ?_
              refine xi_if_ne (tgt := 109) dX12_bound_97 (by decide) (fun c16 => ?_) (fun c16 => ?_)
              · rw [if_neg c16] at hq
                refine xi_iload_n 2 dX12_bound_109 rfl ?_
                refine xi_iconst (v := 2) dX12_bound_110 (by decide) ?_
                refine xi_icmp_ne (tgt := 126) dX12_bound_111 (by decide) (fun c17 => ?_) (fun c17 => ?_)
                · rw [if_neg c17] at hq
                  refine xi_aload_n 0 dX12_bound_126 rfl ?_
                  refine xi_iload_n 1 dX12_bound_127 rfl ?_
                  refine xi_callV (as := [.int (nI e2)]) (rest := []) dX12_bound_128 (FX12_core_ok G hP i_keptMany i_taped i_faultKind i_faultPlace i_spot i_begin i_token i_value i_bad i_full i_bandRows i_bandFirsts i_outs f_state f_was f_kept f_tape f_order f_rest f_ways f_costs f_bandBest f_found f_drawn f_joined f_out (by omega) (by omega) (by omega) (by omega) (by omega) (by omega) hG e2 (by omega) _ rfl (fun r => r = FX12_core f_state e2) rfl) mkX12_core w_1249 ws_62 w_1247 (xpg0 hP rfl) rfl rfl rfl rfl (Nat.le_of_ble_eq_true rfl) (Nat.le_of_ble_eq_true rfl) (Nat.le_of_ble_eq_true rfl) (Nat.le_of_ble_eq_true rfl) (Nat.le_of_ble_eq_true rfl) ?_
                  intro v M2 hz
                  obtain ⟨_, rfl, rfl, rfl⟩ := hz
                  show xW _ _ _ _ 131 _ [.int (FX12_core f_state e2)] (P ++ (MDL L i_keptMany i_taped i_faultKind i_faultPlace i_spot i_begin i_token i_value i_bad i_full i_bandRows i_bandFirsts i_outs f_state f_was f_kept f_tape f_order f_rest f_ways f_costs f_bandBest f_found f_drawn f_joined f_out ++ R)) _ _
                  exact xi_iret dX12_bound_131 rfl rfl (Nat.le_of_ble_eq_true rfl) (Nat.le_of_ble_eq_true rfl) ⟨_, rfl, hq, rfl⟩
                · rw [if_pos c17] at hq
                  refine xi_aload_n 0 dX12_bound_114 rfl ?_
                  refine xi_iload_n 1 dX12_bound_115 rfl ?_
                  refine xi_callV (as := [.int (nI e2)]) (rest := []) dX12_bound_116 (FX12_degree_ok G hP i_keptMany i_taped i_faultKind i_faultPlace i_spot i_begin i_token i_value i_bad i_full i_bandRows i_bandFirsts i_outs f_state f_was f_kept f_tape f_order f_rest f_ways f_costs f_bandBest f_found f_drawn f_joined f_out (by omega) (by omega) (by omega) (by omega) (by omega) (by omega) hG e2 (by omega) _ rfl (fun r => r = FX12_degree f_state e2) rfl) mkX12_degree w_1232 ws_58 w_1230 (xpg0 hP rfl) rfl rfl rfl rfl (Nat.le_of_ble_eq_true rfl) (Nat.le_of_ble_eq_true rfl) (Nat.le_of_ble_eq_true rfl) (Nat.le_of_ble_eq_true rfl) (Nat.le_of_ble_eq_true rfl) ?_
                  intro v M2 hz
                  obtain ⟨_, rfl, rfl, rfl⟩ := hz
                  show xW _ _ _ _ 119 _ [.int (FX12_degree f_state e2)] (P ++ (MDL L i_keptMany i_taped i_faultKind i_faultPlace i_spot i_begin i_token i_value i_bad i_full i_bandRows i_bandFirsts i_outs f_state f_was f_kept f_tape f_order f_rest f_ways f_costs f_bandBest f_found f_drawn f_joined f_out ++ R)) _ _
                  refine xi_iconst (v := 1) dX12_bound_119 (by decide) ?_
                  refine xi_iadd (v := ((FX12_degree f_state e2) + (1 : Int32))) dX12_bound_120 rfl ?_
                  refine xi_iconst (v := 2) dX12_bound_121 (by decide) ?_
                  refine xi_idiv (v := (((FX12_degree f_state e2) + (1 : Int32)) / (2 : Int32))) dX12_bound_122 (by decide) rfl ?_
                  refine xi_goto (tgt := 131) dX12_bound_123 (by decide) ?_
                  exact xi_iret dX12_bound_131 rfl rfl (Nat.le_of_ble_eq_true rfl) (Nat.le_of_ble_eq_true rfl) ⟨_, rfl, hq, rfl⟩
              · rw [if_pos c16] at hq
                refine xi_iload 3 dX12_bound_100 rfl ?_
                refine xi_iconst (v := 1) dX12_bound_102 (by decide) ?_
                refine xi_iadd (v := (u15 + (1 : Int32))) dX12_bound_103 rfl ?_
                refine xi_iconst (v := 2) dX12_bound_104 (by decide) ?_
                refine xi_idiv (v := ((u15 + (1 : Int32)) / (2 : Int32))) dX12_bound_105 (by decide) rfl ?_
                refine xi_goto (tgt := 131) dX12_bound_106 (by decide) ?_
                exact xi_iret dX12_bound_131 rfl rfl (Nat.le_of_ble_eq_true rfl) (Nat.le_of_ble_eq_true rfl) ⟨_, rfl, hq, rfl⟩
            · rw [if_pos c14] at hq
              refine xi_aload_n 0 dX12_bound_54 rfl ?_
              refine xi_iload_n 1 dX12_bound_55 rfl ?_
              refine xi_callV (as := [.int (nI e2)]) (rest := []) dX12_bound_56 (FX12_balls_ok G hP i_keptMany i_taped i_faultKind i_faultPlace i_spot i_begin i_token i_value i_bad i_full i_bandRows i_bandFirsts i_outs f_state f_was f_kept f_tape f_order f_rest f_ways f_costs f_bandBest f_found f_drawn f_joined f_out (by omega) (by omega) (by omega) (by omega) (by omega) (by omega) hG e2 (by omega) _ rfl (fun r => r = FX12_balls f_state e2) rfl) mkX12_balls w_1420 ws_85 w_1418 (xpg0 hP rfl) rfl rfl rfl rfl (Nat.le_of_ble_eq_true rfl) (Nat.le_of_ble_eq_true rfl) (Nat.le_of_ble_eq_true rfl) (Nat.le_of_ble_eq_true rfl) (Nat.le_of_ble_eq_true rfl) ?_
              intro v M2 hz
              obtain ⟨_, rfl, rfl, rfl⟩ := hz
              show xW _ _ _ _ 59 _ [.int (FX12_balls f_state e2)] (P ++ (MDL L i_keptMany i_taped i_faultKind i_faultPlace i_spot i_begin i_token i_value i_bad i_full i_bandRows i_bandFirsts i_outs f_state f_was f_kept f_tape f_order f_rest f_ways f_costs f_bandBest f_found f_drawn f_joined f_out ++ R)) _ _
              exact xi_iret dX12_bound_59 rfl rfl (Nat.le_of_ble_eq_true rfl) (Nat.le_of_ble_eq_true rfl) ⟨_, rfl, hq, rfl⟩
          · rw [if_pos c13] at hq
            refine xi_bipush (v := (-2)) dX12_bound_46 (by decide) ?_
            exact xi_iret dX12_bound_48 rfl rfl (Nat.le_of_ble_eq_true rfl) (Nat.le_of_ble_eq_true rfl) ⟨_, rfl, hq, rfl⟩
      · rw [if_neg c4] at hq
        refine xi_iload_n 2 dX12_bound_20 rfl ?_
        refine xi_callS (as := [.int m]) (rest := []) dX12_bound_21 (FX12_isGreatest_ok G m (fun r => r = FX12_isGreatest m) rfl) mkX12_isGreatest w_1322 w_1321 rfl rfl (Nat.le_of_ble_eq_true rfl) (Nat.le_of_ble_eq_true rfl) (Nat.le_of_ble_eq_true rfl) (Nat.le_of_ble_eq_true rfl) (Nat.le_of_ble_eq_true rfl) ?_
        intro v M2 hz
        obtain ⟨_, rfl, rfl, hM2⟩ := hz
        rw [hM2]
        show xW _ _ _ _ 24 _ [.int (FX12_isGreatest m)] (P ++ (MDL L i_keptMany i_taped i_faultKind i_faultPlace i_spot i_begin i_token i_value i_bad i_full i_bandRows i_bandFirsts i_outs f_state f_was f_kept f_tape f_order f_rest f_ways f_costs f_bandBest f_found f_drawn f_joined f_out ++ R)) _ _
        refine xi_if_eq (tgt := 46) dX12_bound_24 (by decide) (fun c18 => ?_) (fun c18 => ?_)
        · rw [if_pos c18] at hq
          refine xi_bipush (v := (-2)) dX12_bound_46 (by decide) ?_
          exact xi_iret dX12_bound_48 rfl rfl (Nat.le_of_ble_eq_true rfl) (Nat.le_of_ble_eq_true rfl) ⟨_, rfl, hq, rfl⟩
        · rw [if_neg c18] at hq
          refine xi_iload_n 3 dX12_bound_27 rfl ?_
          refine xi_i2l dX12_bound_28 rfl ?_
          refine xi_lconst (v := 0) dX12_bound_29 (by decide) ?_
          refine xi_iload_n 2 dX12_bound_30 rfl ?_
          refine xi_iconst (v := 2) dX12_bound_31 (by decide) ?_
          refine xi_icmp_ne (tgt := 39) dX12_bound_32 (by decide) (fun c19 => ?_) (fun c19 => ?_)
          · rw [if_neg c19] at hq
            refine xi_lconst (v := 0) dX12_bound_39 (by decide) ?_
            refine xi_callS (as := [.long y.toInt64, .long 0, .long 0]) (rest := []) dX12_bound_40 (FX12_in_ok G y.toInt64 ((0 : Int64)) ((0 : Int64)) (fun r => r = FX12_in y.toInt64 ((0 : Int64)) ((0 : Int64))) rfl) mkX12_in w_1100 w_1099 rfl rfl (Nat.le_of_ble_eq_true rfl) (Nat.le_of_ble_eq_true rfl) (Nat.le_of_ble_eq_true rfl) (Nat.le_of_ble_eq_true rfl) (Nat.le_of_ble_eq_true rfl) ?_
            intro v M2 hz
            obtain ⟨_, rfl, rfl, hM2⟩ := hz
            rw [hM2]
            show xW _ _ _ _ 43 _ [.int (FX12_in y.toInt64 ((0 : Int64)) ((0 : Int64)))] (P ++ (MDL L i_keptMany i_taped i_faultKind i_faultPlace i_spot i_begin i_token i_value i_bad i_full i_bandRows i_bandFirsts i_outs f_state f_was f_kept f_tape f_order f_rest f_ways f_costs f_bandBest f_found f_drawn f_joined f_out ++ R)) _ _
            refine xi_if_ne (tgt := 49) dX12_bound_43 (by decide) (fun c20 => ?_) (fun c20 => ?_)
            · rw [if_neg c20] at hq
              refine xi_iload_n 3 dX12_bound_49 rfl ?_
              refine xi_iconst (v := 1) dX12_bound_50 (by decide) ?_
              refine xi_icmp_ne (tgt := 60) dX12_bound_51 (by decide) (fun c21 => ?_) (fun c21 => ?_)
              · rw [if_neg c21] at hq
                refine xi_iconst (v := 0) dX12_bound_60 (by decide) ?_
                refine xi_istore (lv' := [(4, .int 0), (0, .ref L), (1, .int (nI e2)), (2, .int m), (3, .int y)]) dX12_bound_61 (by decide) rfl ?_
                refine xi_iconst (v := 0) dX12_bound_63 (by decide) ?_
                refine xi_istore (lv' := [(5, .int 0), (4, .int 0), (0, .ref L), (1, .int (nI e2)), (2, .int m), (3, .int y)]) dX12_bound_64 (by decide) rfl ?_
                refine xi_sub (lv' := [(0, .ref L), (1, .int (nI e2)), (2, .int m), (4, .int 0), (5, .int 0)]) [2, 3, 4, 1, 0] rfl ?_
                refine LX12_bound_66_s G hP i_keptMany i_taped i_faultKind i_faultPlace i_spot i_begin i_token i_value i_bad i_full i_bandRows i_bandFirsts i_outs f_state f_was f_kept f_tape f_order f_rest f_ways f_costs f_bandBest f_found f_drawn f_joined f_out (by omega) (by omega) (by omega) (by omega) (by omega) (by omega) hG e2 (by omega) m Q _ (fun u22 hq => ?_) ((f_state (91 * e2)).toNatClampNeg - 0) 0 ((0 : Int32)) rfl (by omega) hq
                refine xi_iload_n 2 dX12_bound_96 rfl ?_
                refine xi_if_ne (tgt := 109) dX12_bound_97 (by decide) (fun c23 => ?_) (fun c23 => ?_)
                · rw [if_neg c23] at hq
                  refine xi_iload_n 2 dX12_bound_109 rfl ?_
                  refine xi_iconst (v := 2) dX12_bound_110 (by decide) ?_
                  refine xi_icmp_ne (tgt := 126) dX12_bound_111 (by decide) (fun c24 => ?_) (fun c24 => ?_)
                  · rw [if_neg c24] at hq
                    refine xi_aload_n 0 dX12_bound_126 rfl ?_
                    refine xi_iload_n 1 dX12_bound_127 rfl ?_
                    refine xi_callV (as := [.int (nI e2)]) (rest := []) dX12_bound_128 (FX12_core_ok G hP i_keptMany i_taped i_faultKind i_faultPlace i_spot i_begin i_token i_value i_bad i_full i_bandRows i_bandFirsts i_outs f_state f_was f_kept f_tape f_order f_rest f_ways f_costs f_bandBest f_found f_drawn f_joined f_out (by omega) (by omega) (by omega) (by omega) (by omega) (by omega) hG e2 (by omega) _ rfl (fun r => r = FX12_core f_state e2) rfl) mkX12_core w_1249 ws_62 w_1247 (xpg0 hP rfl) rfl rfl rfl rfl (Nat.le_of_ble_eq_true rfl) (Nat.le_of_ble_eq_true rfl) (Nat.le_of_ble_eq_true rfl) (Nat.le_of_ble_eq_true rfl) (Nat.le_of_ble_eq_true rfl) ?_
                    intro v M2 hz
                    obtain ⟨_, rfl, rfl, rfl⟩ := hz
                    show xW _ _ _ _ 131 _ [.int (FX12_core f_state e2)] (P ++ (MDL L i_keptMany i_taped i_faultKind i_faultPlace i_spot i_begin i_token i_value i_bad i_full i_bandRows i_bandFirsts i_outs f_state f_was f_kept f_tape f_order f_rest f_ways f_costs f_bandBest f_found f_drawn f_joined f_out ++ R)) _ _
                    exact xi_iret dX12_bound_131 rfl rfl (Nat.le_of_ble_eq_true rfl) (Nat.le_of_ble_eq_true rfl) ⟨_, rfl, hq, rfl⟩
                  · rw [if_pos c24] at hq
                    refine xi_aload_n 0 dX12_bound_114 rfl ?_
                    refine xi_iload_n 1 dX12_bound_115 rfl ?_
                    refine xi_callV (as := [.int (nI e2)]) (rest := []) dX12_bound_116 (FX12_degree_ok G hP i_keptMany i_taped i_faultKind i_faultPlace i_spot i_begin i_token i_value i_bad i_full i_bandRows i_bandFirsts i_outs f_state f_was f_kept f_tape f_order f_rest f_ways f_costs f_bandBest f_found f_drawn f_joined f_out (by omega) (by omega) (by omega) (by omega) (by omega) (by omega) hG e2 (by omega) _ rfl (fun r => r = FX12_degree f_state e2) rfl) mkX12_degree w_1232 ws_58 w_1230 (xpg0 hP rfl) rfl rfl rfl rfl (Nat.le_of_ble_eq_true rfl) (Nat.le_of_ble_eq_true rfl) (Nat.le_of_ble_eq_true rfl) (Nat.le_of_ble_eq_true rfl) (Nat.le_of_ble_eq_true rfl) ?_
                    intro v M2 hz
                    obtain ⟨_, rfl, rfl, rfl⟩ := hz
                    show xW _ _ _ _ 119 _ [.int (FX12_degree f_state e2)] (P ++ (MDL L i_keptMany i_taped i_faultKind i_faultPlace i_spot i_begin i_token i_value i_bad i_full i_bandRows i_bandFirsts i_outs f_state f_was f_kept f_tape f_order f_rest f_ways f_costs f_bandBest f_found f_drawn f_joined f_out ++ R)) _ _
                    refine xi_iconst (v := 1) dX12_bound_119 (by decide) ?_
                    refine xi_iadd (v := ((FX12_degree f_state e2) + (1 : Int32))) dX12_bound_120 rfl ?_
                    refine xi_iconst (v := 2) dX12_bound_121 (by decide) ?_
                    refine xi_idiv (v := (((FX12_degree f_state e2) + (1 : Int32)) / (2 : Int32))) dX12_bound_122 (by decide) rfl ?_
                    refine xi_goto (tgt := 131) dX12_bound_123 (by decide) ?_
                    exact xi_iret dX12_bound_131 rfl rfl (Nat.le_of_ble_eq_true rfl) (Nat.le_of_ble_eq_true rfl) ⟨_, rfl, hq, rfl⟩
                · rw [if_pos c23] at hq
                  refine xi_iload 3 dX12_bound_100 rfl ?_
                  refine xi_iconst (v := 1) dX12_bound_102 (by decide) ?_
                  refine xi_iadd (v := (u22 + (1 : Int32))) dX12_bound_103 rfl ?_
                  refine xi_iconst (v := 2) dX12_bound_104 (by decide) ?_
                  refine xi_idiv (v := ((u22 + (1 : Int32)) / (2 : Int32))) dX12_bound_105 (by decide) rfl ?_
                  refine xi_goto (tgt := 131) dX12_bound_106 (by decide) ?_
                  exact xi_iret dX12_bound_131 rfl rfl (Nat.le_of_ble_eq_true rfl) (Nat.le_of_ble_eq_true rfl) ⟨_, rfl, hq, rfl⟩
              · rw [if_pos c21] at hq
                refine xi_aload_n 0 dX12_bound_54 rfl ?_
                refine xi_iload_n 1 dX12_bound_55 rfl ?_
                refine xi_callV (as := [.int (nI e2)]) (rest := []) dX12_bound_56 (FX12_balls_ok G hP i_keptMany i_taped i_faultKind i_faultPlace i_spot i_begin i_token i_value i_bad i_full i_bandRows i_bandFirsts i_outs f_state f_was f_kept f_tape f_order f_rest f_ways f_costs f_bandBest f_found f_drawn f_joined f_out (by omega) (by omega) (by omega) (by omega) (by omega) (by omega) hG e2 (by omega) _ rfl (fun r => r = FX12_balls f_state e2) rfl) mkX12_balls w_1420 ws_85 w_1418 (xpg0 hP rfl) rfl rfl rfl rfl (Nat.le_of_ble_eq_true rfl) (Nat.le_of_ble_eq_true rfl) (Nat.le_of_ble_eq_true rfl) (Nat.le_of_ble_eq_true rfl) (Nat.le_of_ble_eq_true rfl) ?_
                intro v M2 hz
                obtain ⟨_, rfl, rfl, rfl⟩ := hz
                show xW _ _ _ _ 59 _ [.int (FX12_balls f_state e2)] (P ++ (MDL L i_keptMany i_taped i_faultKind i_faultPlace i_spot i_begin i_token i_value i_bad i_full i_bandRows i_bandFirsts i_outs f_state f_was f_kept f_tape f_order f_rest f_ways f_costs f_bandBest f_found f_drawn f_joined f_out ++ R)) _ _
                exact xi_iret dX12_bound_59 rfl rfl (Nat.le_of_ble_eq_true rfl) (Nat.le_of_ble_eq_true rfl) ⟨_, rfl, hq, rfl⟩
            · rw [if_pos c20] at hq
              refine xi_bipush (v := (-2)) dX12_bound_46 (by decide) ?_
              exact xi_iret dX12_bound_48 rfl rfl (Nat.le_of_ble_eq_true rfl) (Nat.le_of_ble_eq_true rfl) ⟨_, rfl, hq, rfl⟩
          · rw [if_pos c19] at hq
            refine xi_lconst (v := 1) dX12_bound_35 (by decide) ?_
            refine xi_goto (tgt := 40) dX12_bound_36 (by decide) ?_
            refine xi_callS (as := [.long y.toInt64, .long 0, .long 1]) (rest := []) dX12_bound_40 (FX12_in_ok G y.toInt64 ((0 : Int64)) ((1 : Int64)) (fun r => r = FX12_in y.toInt64 ((0 : Int64)) ((1 : Int64))) rfl) mkX12_in w_1100 w_1099 rfl rfl (Nat.le_of_ble_eq_true rfl) (Nat.le_of_ble_eq_true rfl) (Nat.le_of_ble_eq_true rfl) (Nat.le_of_ble_eq_true rfl) (Nat.le_of_ble_eq_true rfl) ?_
            intro v M2 hz
            obtain ⟨_, rfl, rfl, hM2⟩ := hz
            rw [hM2]
            show xW _ _ _ _ 43 _ [.int (FX12_in y.toInt64 ((0 : Int64)) ((1 : Int64)))] (P ++ (MDL L i_keptMany i_taped i_faultKind i_faultPlace i_spot i_begin i_token i_value i_bad i_full i_bandRows i_bandFirsts i_outs f_state f_was f_kept f_tape f_order f_rest f_ways f_costs f_bandBest f_found f_drawn f_joined f_out ++ R)) _ _
            refine xi_if_ne (tgt := 49) dX12_bound_43 (by decide) (fun c25 => ?_) (fun c25 => ?_)
            · rw [if_neg c25] at hq
              refine xi_iload_n 3 dX12_bound_49 rfl ?_
              refine xi_iconst (v := 1) dX12_bound_50 (by decide) ?_
              refine xi_icmp_ne (tgt := 60) dX12_bound_51 (by decide) (fun c26 => ?_) (fun c26 => ?_)
              · rw [if_neg c26] at hq
                refine xi_iconst (v := 0) dX12_bound_60 (by decide) ?_
                refine xi_istore (lv' := [(4, .int 0), (0, .ref L), (1, .int (nI e2)), (2, .int m), (3, .int y)]) dX12_bound_61 (by decide) rfl ?_
                refine xi_iconst (v := 0) dX12_bound_63 (by decide) ?_
                refine xi_istore (lv' := [(5, .int 0), (4, .int 0), (0, .ref L), (1, .int (nI e2)), (2, .int m), (3, .int y)]) dX12_bound_64 (by decide) rfl ?_
                refine xi_sub (lv' := [(0, .ref L), (1, .int (nI e2)), (2, .int m), (4, .int 0), (5, .int 0)]) [2, 3, 4, 1, 0] rfl ?_
                refine LX12_bound_66_s G hP i_keptMany i_taped i_faultKind i_faultPlace i_spot i_begin i_token i_value i_bad i_full i_bandRows i_bandFirsts i_outs f_state f_was f_kept f_tape f_order f_rest f_ways f_costs f_bandBest f_found f_drawn f_joined f_out (by omega) (by omega) (by omega) (by omega) (by omega) (by omega) hG e2 (by omega) m Q _ (fun u27 hq => ?_) ((f_state (91 * e2)).toNatClampNeg - 0) 0 ((0 : Int32)) rfl (by omega) hq
                refine xi_iload_n 2 dX12_bound_96 rfl ?_
                refine xi_if_ne (tgt := 109) dX12_bound_97 (by decide) (fun c28 => ?_) (fun c28 => ?_)
                · rw [if_neg c28] at hq
                  refine xi_iload_n 2 dX12_bound_109 rfl ?_
                  refine xi_iconst (v := 2) dX12_bound_110 (by decide) ?_
                  refine xi_icmp_ne (tgt := 126) dX12_bound_111 (by decide) (fun c29 => ?_) (fun c29 => ?_)
                  · rw [if_neg c29] at hq
                    refine xi_aload_n 0 dX12_bound_126 rfl ?_
                    refine xi_iload_n 1 dX12_bound_127 rfl ?_
                    refine xi_callV (as := [.int (nI e2)]) (rest := []) dX12_bound_128 (FX12_core_ok G hP i_keptMany i_taped i_faultKind i_faultPlace i_spot i_begin i_token i_value i_bad i_full i_bandRows i_bandFirsts i_outs f_state f_was f_kept f_tape f_order f_rest f_ways f_costs f_bandBest f_found f_drawn f_joined f_out (by omega) (by omega) (by omega) (by omega) (by omega) (by omega) hG e2 (by omega) _ rfl (fun r => r = FX12_core f_state e2) rfl) mkX12_core w_1249 ws_62 w_1247 (xpg0 hP rfl) rfl rfl rfl rfl (Nat.le_of_ble_eq_true rfl) (Nat.le_of_ble_eq_true rfl) (Nat.le_of_ble_eq_true rfl) (Nat.le_of_ble_eq_true rfl) (Nat.le_of_ble_eq_true rfl) ?_
                    intro v M2 hz
                    obtain ⟨_, rfl, rfl, rfl⟩ := hz
                    show xW _ _ _ _ 131 _ [.int (FX12_core f_state e2)] (P ++ (MDL L i_keptMany i_taped i_faultKind i_faultPlace i_spot i_begin i_token i_value i_bad i_full i_bandRows i_bandFirsts i_outs f_state f_was f_kept f_tape f_order f_rest f_ways f_costs f_bandBest f_found f_drawn f_joined f_out ++ R)) _ _
                    exact xi_iret dX12_bound_131 rfl rfl (Nat.le_of_ble_eq_true rfl) (Nat.le_of_ble_eq_true rfl) ⟨_, rfl, hq, rfl⟩
                  · rw [if_pos c29] at hq
                    refine xi_aload_n 0 dX12_bound_114 rfl ?_
                    refine xi_iload_n 1 dX12_bound_115 rfl ?_
                    refine xi_callV (as := [.int (nI e2)]) (rest := []) dX12_bound_116 (FX12_degree_ok G hP i_keptMany i_taped i_faultKind i_faultPlace i_spot i_begin i_token i_value i_bad i_full i_bandRows i_bandFirsts i_outs f_state f_was f_kept f_tape f_order f_rest f_ways f_costs f_bandBest f_found f_drawn f_joined f_out (by omega) (by omega) (by omega) (by omega) (by omega) (by omega) hG e2 (by omega) _ rfl (fun r => r = FX12_degree f_state e2) rfl) mkX12_degree w_1232 ws_58 w_1230 (xpg0 hP rfl) rfl rfl rfl rfl (Nat.le_of_ble_eq_true rfl) (Nat.le_of_ble_eq_true rfl) (Nat.le_of_ble_eq_true rfl) (Nat.le_of_ble_eq_true rfl) (Nat.le_of_ble_eq_true rfl) ?_
                    intro v M2 hz
                    obtain ⟨_, rfl, rfl, rfl⟩ := hz
                    show xW _ _ _ _ 119 _ [.int (FX12_degree f_state e2)] (P ++ (MDL L i_keptMany i_taped i_faultKind i_faultPlace i_spot i_begin i_token i_value i_bad i_full i_bandRows i_bandFirsts i_outs f_state f_was f_kept f_tape f_order f_rest f_ways f_costs f_bandBest f_found f_drawn f_joined f_out ++ R)) _ _
                    refine xi_iconst (v := 1) dX12_bound_119 (by decide) ?_
                    refine xi_iadd (v := ((FX12_degree f_state e2) + (1 : Int32))) dX12_bound_120 rfl ?_
                    refine xi_iconst (v := 2) dX12_bound_121 (by decide) ?_
                    refine xi_idiv (v := (((FX12_degree f_state e2) + (1 : Int32)) / (2 : Int32))) dX12_bound_122 (by decide) rfl ?_
                    refine xi_goto (tgt := 131) dX12_bound_123 (by decide) ?_
                    exact xi_iret dX12_bound_131 rfl rfl (Nat.le_of_ble_eq_true rfl) (Nat.le_of_ble_eq_true rfl) ⟨_, rfl, hq, rfl⟩
                · rw [if_pos c28] at hq
                  refine xi_iload 3 dX12_bound_100 rfl ?_
                  refine xi_iconst (v := 1) dX12_bound_102 (by decide) ?_
                  refine xi_iadd (v := (u27 + (1 : Int32))) dX12_bound_103 rfl ?_
                  refine xi_iconst (v := 2) dX12_bound_104 (by decide) ?_
                  refine xi_idiv (v := ((u27 + (1 : Int32)) / (2 : Int32))) dX12_bound_105 (by decide) rfl ?_
                  refine xi_goto (tgt := 131) dX12_bound_106 (by decide) ?_
                  exact xi_iret dX12_bound_131 rfl rfl (Nat.le_of_ble_eq_true rfl) (Nat.le_of_ble_eq_true rfl) ⟨_, rfl, hq, rfl⟩
              · rw [if_pos c26] at hq
                refine xi_aload_n 0 dX12_bound_54 rfl ?_
                refine xi_iload_n 1 dX12_bound_55 rfl ?_
                refine xi_callV (as := [.int (nI e2)]) (rest := []) dX12_bound_56 (FX12_balls_ok G hP i_keptMany i_taped i_faultKind i_faultPlace i_spot i_begin i_token i_value i_bad i_full i_bandRows i_bandFirsts i_outs f_state f_was f_kept f_tape f_order f_rest f_ways f_costs f_bandBest f_found f_drawn f_joined f_out (by omega) (by omega) (by omega) (by omega) (by omega) (by omega) hG e2 (by omega) _ rfl (fun r => r = FX12_balls f_state e2) rfl) mkX12_balls w_1420 ws_85 w_1418 (xpg0 hP rfl) rfl rfl rfl rfl (Nat.le_of_ble_eq_true rfl) (Nat.le_of_ble_eq_true rfl) (Nat.le_of_ble_eq_true rfl) (Nat.le_of_ble_eq_true rfl) (Nat.le_of_ble_eq_true rfl) ?_
                intro v M2 hz
                obtain ⟨_, rfl, rfl, rfl⟩ := hz
                show xW _ _ _ _ 59 _ [.int (FX12_balls f_state e2)] (P ++ (MDL L i_keptMany i_taped i_faultKind i_faultPlace i_spot i_begin i_token i_value i_bad i_full i_bandRows i_bandFirsts i_outs f_state f_was f_kept f_tape f_order f_rest f_ways f_costs f_bandBest f_found f_drawn f_joined f_out ++ R)) _ _
                exact xi_iret dX12_bound_59 rfl rfl (Nat.le_of_ble_eq_true rfl) (Nat.le_of_ble_eq_true rfl) ⟨_, rfl, hq, rfl⟩
            · rw [if_pos c25] at hq
              refine xi_bipush (v := (-2)) dX12_bound_46 (by decide) ?_
              exact xi_iret dX12_bound_48 rfl rfl (Nat.le_of_ble_eq_true rfl) (Nat.le_of_ble_eq_true rfl) ⟨_, rfl, hq, rfl⟩
def LX12_filled_75 (f_state : Nat → Int32) (n1 : Nat) (w2 : Int32) (n4 : Nat) (w5 : Int32) (w6 : Int32) (n7 : Nat) (K : Int32 → Int32) : Nat → Nat → Int32 → Int32
  | 0, _, v3 => K v3
  | k + 1, j, v3 => (if (FX12_has w6 ((nI n7))) = (0 : Int32) then (LX12_filled_75 f_state n1 w2 n4 w5 w6 n7 K k (j + 1) v3) else (if (FX12_has w6 ((nI j))) = (0 : Int32) then (LX12_filled_75 f_state n1 w2 n4 w5 w6 n7 K k (j + 1) v3) else (if (FX12_has ((FX12_neighbours f_state n1 w5 n7)) ((nI j))) = (0 : Int32) then (if v3 = w2 then (nI ((10 * n7) + j)) else (LX12_filled_75 f_state n1 w2 n4 w5 w6 n7 K k (j + 1) ((v3 + Int32.ofInt 1)))) else (LX12_filled_75 f_state n1 w2 n4 w5 w6 n7 K k (j + 1) v3))))
def LX12_filled_59 (f_state : Nat → Int32) (n1 : Nat) (w2 : Int32) (n4 : Nat) (w5 : Int32) (w6 : Int32) (K : Int32 → Int32) : Nat → Nat → Int32 → Int32
  | 0, _, v3 => K v3
  | k + 1, j, v3 => (LX12_filled_75 f_state n1 w2 n4 w5 w6 j (fun u13 => (LX12_filled_59 f_state n1 w2 n4 w5 w6 K k (j + 1) u13)) ((f_state (91 * n1)).toNatClampNeg - (j + 1)) (j + 1) v3)
def LX12_filled_21 (f_state : Nat → Int32) (n1 : Nat) (w2 : Int32) (K : Int32 → Int32) : Nat → Nat → Int32 → Int32
  | 0, _, v3 => K v3
  | k + 1, j, v3 => (LX12_filled_59 f_state n1 w2 j ((FX12_aheadOf f_state n1 j)) ((FX12_neighbours f_state n1 ((FX12_aheadOf f_state n1 j)) ((f_state (91 * n1 + 82 + j)).toNatClampNeg))) (fun u15 => (LX12_filled_21 f_state n1 w2 K k (j + 1) u15)) ((f_state (91 * n1)).toNatClampNeg - 0) 0 v3)
set_option maxHeartbeats 4000000 in
set_option maxRecDepth 100000 in
theorem LX12_filled_75_s (G : xG) {P R : xMem} {L : Nat} (hP : P.length = L) (i_keptMany : Nat) (i_taped : Nat) (i_faultKind : Int32) (i_faultPlace : Int32) (i_spot : Nat) (i_begin : Nat) (i_token : Int32) (i_value : Int32) (i_bad : Int32) (i_full : Nat) (i_bandRows : Int32) (i_bandFirsts : Int32) (i_outs : Nat) (f_state : Nat → Int32) (f_was : Nat → Int32) (f_kept : Nat → Int32) (f_tape : Nat → Int32) (f_order : Nat → Int32) (f_rest : Nat → Int32) (f_ways : Nat → Int32) (f_costs : Nat → Int32) (f_bandBest : Nat → Int32) (f_found : Nat → Int32) (f_drawn : Nat → Int32) (f_joined : Nat → Int32) (f_out : Nat → Int32) (bi_keptMany : i_keptMany ≤ 10) (bi_taped : i_taped ≤ 400) (bi_spot : i_spot ≤ 400) (bi_begin : i_begin ≤ 400) (bi_full : i_full ≤ 511) (bi_outs : i_outs ≤ 400) (hG : GO f_state) (n1 : Nat) (bn1 : n1 < 3) (w2 : Int32) (n4 : Nat) (bn4 : n4 < 9) (w5 : Int32) (w6 : Int32) (n7 : Nat) (bn7 : n7 < 9) (Q : Int32 → Prop) (K : Int32 → Int32) (HE : ∀ (v3 : Int32), Q (K v3) → xW G mX12_filled (xrm 3 0 0) (xQ G (fun v M2 => ∃ o : Int32, v = some (.int o) ∧ Q o ∧ M2 = (P ++ (MDL L i_keptMany i_taped i_faultKind i_faultPlace i_spot i_begin i_token i_value i_bad i_full i_bandRows i_bandFirsts i_outs f_state f_was f_kept f_tape f_order f_rest f_ways f_costs f_bandBest f_found f_drawn f_joined f_out ++ R))) 0 0) 145 [(0, .ref L), (1, .int (nI n1)), (2, .int w2), (3, .int v3), (4, .int (nI n4)), (5, .int w5), (6, .int w6), (7, .int (nI n7))] [] (P ++ (MDL L i_keptMany i_taped i_faultKind i_faultPlace i_spot i_begin i_token i_value i_bad i_full i_bandRows i_bandFirsts i_outs f_state f_was f_kept f_tape f_order f_rest f_ways f_costs f_bandBest f_found f_drawn f_joined f_out ++ R)) 0 0) :
    ∀ (k j : Nat) (v3 : Int32), (f_state (91 * n1)).toNatClampNeg - j = k → j < 100000 → Q (LX12_filled_75 f_state n1 w2 n4 w5 w6 n7 K k j v3) → xW G mX12_filled (xrm 3 0 0) (xQ G (fun v M2 => ∃ o : Int32, v = some (.int o) ∧ Q o ∧ M2 = (P ++ (MDL L i_keptMany i_taped i_faultKind i_faultPlace i_spot i_begin i_token i_value i_bad i_full i_bandRows i_bandFirsts i_outs f_state f_was f_kept f_tape f_order f_rest f_ways f_costs f_bandBest f_found f_drawn f_joined f_out ++ R))) 0 0) 75 [(0, .ref L), (1, .int (nI n1)), (2, .int w2), (3, .int v3), (4, .int (nI n4)), (5, .int w5), (6, .int w6), (7, .int (nI n7)), (8, .int (nI j))] [] (P ++ (MDL L i_keptMany i_taped i_faultKind i_faultPlace i_spot i_begin i_token i_value i_bad i_full i_bandRows i_bandFirsts i_outs f_state f_was f_kept f_tape f_order f_rest f_ways f_costs f_bandBest f_found f_drawn f_joined f_out ++ R)) 0 0 := by
  intro k
  induction k with
  | zero =>
    intro j v3 hj hj2 hq
    rw [LX12_filled_75] at hq
    refine xi_iload 8 dX12_filled_75 rfl ?_
    refine xi_aload_n 0 dX12_filled_77 rfl ?_
    refine xi_iload_n 1 dX12_filled_78 rfl ?_
    refine xi_callV (as := [.int (nI n1)]) (rest := [.int (nI j)]) dX12_filled_79 (FX12_points_ok G hP i_keptMany i_taped i_faultKind i_faultPlace i_spot i_begin i_token i_value i_bad i_full i_bandRows i_bandFirsts i_outs f_state f_was f_kept f_tape f_order f_rest f_ways f_costs f_bandBest f_found f_drawn f_joined f_out (by omega) (by omega) (by omega) (by omega) (by omega) (by omega) n1 (by omega) _ rfl (fun r => r = nI ((f_state (91 * n1)).toNatClampNeg)) ((hG n1 (by omega)).1.1)) mkX12_points w_1108 ws_36 w_1106 (xpg0 hP rfl) rfl rfl rfl rfl (Nat.le_of_ble_eq_true rfl) (Nat.le_of_ble_eq_true rfl) (Nat.le_of_ble_eq_true rfl) (Nat.le_of_ble_eq_true rfl) (Nat.le_of_ble_eq_true rfl) ?_
    intro v M2 hz
    obtain ⟨_, rfl, rfl, rfl⟩ := hz
    show xW _ _ _ _ 82 _ [.int (nI ((f_state (91 * n1)).toNatClampNeg)), .int (nI j)] (P ++ (MDL L i_keptMany i_taped i_faultKind i_faultPlace i_spot i_begin i_token i_value i_bad i_full i_bandRows i_bandFirsts i_outs f_state f_was f_kept f_tape f_order f_rest f_ways f_costs f_bandBest f_found f_drawn f_joined f_out ++ R)) _ _
    have o12 := (hG n1 (by omega)).1.2
    refine xi_icmp_ge_t (tgt := 145) dX12_filled_82 (by decide) (nI_le (a := (f_state (91 * n1)).toNatClampNeg) (b := j) (by omega) (by omega)) ?_
    refine xi_sub (lv' := [(0, .ref L), (1, .int (nI n1)), (2, .int w2), (3, .int v3), (4, .int (nI n4)), (5, .int w5), (6, .int w6), (7, .int (nI n7))]) [0, 1, 2, 3, 4, 5, 6, 7] rfl ?_
    exact HE v3 hq
  | succ k ih =>
    intro j v3 hj hj2 hq
    rw [LX12_filled_75] at hq
    refine xi_iload 8 dX12_filled_75 rfl ?_
    refine xi_aload_n 0 dX12_filled_77 rfl ?_
    refine xi_iload_n 1 dX12_filled_78 rfl ?_
    refine xi_callV (as := [.int (nI n1)]) (rest := [.int (nI j)]) dX12_filled_79 (FX12_points_ok G hP i_keptMany i_taped i_faultKind i_faultPlace i_spot i_begin i_token i_value i_bad i_full i_bandRows i_bandFirsts i_outs f_state f_was f_kept f_tape f_order f_rest f_ways f_costs f_bandBest f_found f_drawn f_joined f_out (by omega) (by omega) (by omega) (by omega) (by omega) (by omega) n1 (by omega) _ rfl (fun r => r = nI ((f_state (91 * n1)).toNatClampNeg)) ((hG n1 (by omega)).1.1)) mkX12_points w_1108 ws_36 w_1106 (xpg0 hP rfl) rfl rfl rfl rfl (Nat.le_of_ble_eq_true rfl) (Nat.le_of_ble_eq_true rfl) (Nat.le_of_ble_eq_true rfl) (Nat.le_of_ble_eq_true rfl) (Nat.le_of_ble_eq_true rfl) ?_
    intro v M2 hz
    obtain ⟨_, rfl, rfl, rfl⟩ := hz
    show xW _ _ _ _ 82 _ [.int (nI ((f_state (91 * n1)).toNatClampNeg)), .int (nI j)] (P ++ (MDL L i_keptMany i_taped i_faultKind i_faultPlace i_spot i_begin i_token i_value i_bad i_full i_bandRows i_bandFirsts i_outs f_state f_was f_kept f_tape f_order f_rest f_ways f_costs f_bandBest f_found f_drawn f_joined f_out ++ R)) _ _
    have o7 := (hG n1 (by omega)).1.2
    refine xi_icmp_ge_f (tgt := 145) dX12_filled_82 (by decide) (nI_ge (a := j) (b := (f_state (91 * n1)).toNatClampNeg) (by omega) (by omega)) ?_
    refine xi_iload 6 dX12_filled_85 rfl ?_
    refine xi_iload 7 dX12_filled_87 rfl ?_
    refine xi_callS (as := [.int w6, .int (nI n7)]) (rest := []) dX12_filled_89 (FX12_has_ok G w6 ((nI n7)) (fun r => r = FX12_has w6 ((nI n7))) rfl) mkX12_has w_1207 w_1206 rfl rfl (Nat.le_of_ble_eq_true rfl) (Nat.le_of_ble_eq_true rfl) (Nat.le_of_ble_eq_true rfl) (Nat.le_of_ble_eq_true rfl) (Nat.le_of_ble_eq_true rfl) ?_
    intro v M2 hz
    obtain ⟨_, rfl, rfl, hM2⟩ := hz
    rw [hM2]
    show xW _ _ _ _ 92 _ [.int (FX12_has w6 ((nI n7)))] (P ++ (MDL L i_keptMany i_taped i_faultKind i_faultPlace i_spot i_begin i_token i_value i_bad i_full i_bandRows i_bandFirsts i_outs f_state f_was f_kept f_tape f_order f_rest f_ways f_costs f_bandBest f_found f_drawn f_joined f_out ++ R)) _ _
    refine xi_if_eq (tgt := 139) dX12_filled_92 (by decide) (fun c8 => ?_) (fun c8 => ?_)
    · rw [if_pos c8] at hq
      refine xi_iinc (v := (nI (j + 1))) (lv' := [(8, .int (nI (j + 1))), (0, .ref L), (1, .int (nI n1)), (2, .int w2), (3, .int v3), (4, .int (nI n4)), (5, .int w5), (6, .int w6), (7, .int (nI n7))]) 8 dX12_filled_139 rfl (nI_1 _) (by decide) rfl ?_
      refine xi_goto (tgt := 75) dX12_filled_142 (by decide) ?_
      refine xi_sub (lv' := [(0, .ref L), (1, .int (nI n1)), (2, .int w2), (3, .int v3), (4, .int (nI n4)), (5, .int w5), (6, .int w6), (7, .int (nI n7)), (8, .int (nI (j + 1)))]) [1, 2, 3, 4, 5, 6, 7, 8, 0] rfl ?_
      exact ih (j + 1) v3 (by omega) (by omega) hq
    · rw [if_neg c8] at hq
      refine xi_iload 6 dX12_filled_95 rfl ?_
      refine xi_iload 8 dX12_filled_97 rfl ?_
      refine xi_callS (as := [.int w6, .int (nI j)]) (rest := []) dX12_filled_99 (FX12_has_ok G w6 ((nI j)) (fun r => r = FX12_has w6 ((nI j))) rfl) mkX12_has w_1207 w_1206 rfl rfl (Nat.le_of_ble_eq_true rfl) (Nat.le_of_ble_eq_true rfl) (Nat.le_of_ble_eq_true rfl) (Nat.le_of_ble_eq_true rfl) (Nat.le_of_ble_eq_true rfl) ?_
      intro v M2 hz
      obtain ⟨_, rfl, rfl, hM2⟩ := hz
      rw [hM2]
      show xW _ _ _ _ 102 _ [.int (FX12_has w6 ((nI j)))] (P ++ (MDL L i_keptMany i_taped i_faultKind i_faultPlace i_spot i_begin i_token i_value i_bad i_full i_bandRows i_bandFirsts i_outs f_state f_was f_kept f_tape f_order f_rest f_ways f_costs f_bandBest f_found f_drawn f_joined f_out ++ R)) _ _
      refine xi_if_eq (tgt := 139) dX12_filled_102 (by decide) (fun c9 => ?_) (fun c9 => ?_)
      · rw [if_pos c9] at hq
        refine xi_iinc (v := (nI (j + 1))) (lv' := [(8, .int (nI (j + 1))), (0, .ref L), (1, .int (nI n1)), (2, .int w2), (3, .int v3), (4, .int (nI n4)), (5, .int w5), (6, .int w6), (7, .int (nI n7))]) 8 dX12_filled_139 rfl (nI_1 _) (by decide) rfl ?_
        refine xi_goto (tgt := 75) dX12_filled_142 (by decide) ?_
        refine xi_sub (lv' := [(0, .ref L), (1, .int (nI n1)), (2, .int w2), (3, .int v3), (4, .int (nI n4)), (5, .int w5), (6, .int w6), (7, .int (nI n7)), (8, .int (nI (j + 1)))]) [1, 2, 3, 4, 5, 6, 7, 8, 0] rfl ?_
        exact ih (j + 1) v3 (by omega) (by omega) hq
      · rw [if_neg c9] at hq
        refine xi_aload_n 0 dX12_filled_105 rfl ?_
        refine xi_iload_n 1 dX12_filled_106 rfl ?_
        refine xi_iload 5 dX12_filled_107 rfl ?_
        refine xi_iload 7 dX12_filled_109 rfl ?_
        refine xi_callV (as := [.int (nI n1), .int w5, .int (nI n7)]) (rest := []) dX12_filled_111 (FX12_neighbours_ok G hP i_keptMany i_taped i_faultKind i_faultPlace i_spot i_begin i_token i_value i_bad i_full i_bandRows i_bandFirsts i_outs f_state f_was f_kept f_tape f_order f_rest f_ways f_costs f_bandBest f_found f_drawn f_joined f_out (by omega) (by omega) (by omega) (by omega) (by omega) (by omega) hG n1 (by omega) w5 n7 (by omega) _ rfl (fun r => r = FX12_neighbours f_state n1 w5 n7) rfl) mkX12_neighbours w_1308 ws_70 w_1306 (xpg0 hP rfl) rfl rfl rfl rfl (Nat.le_of_ble_eq_true rfl) (Nat.le_of_ble_eq_true rfl) (Nat.le_of_ble_eq_true rfl) (Nat.le_of_ble_eq_true rfl) (Nat.le_of_ble_eq_true rfl) ?_
        intro v M2 hz
        obtain ⟨_, rfl, rfl, rfl⟩ := hz
        show xW _ _ _ _ 114 _ [.int (FX12_neighbours f_state n1 w5 n7)] (P ++ (MDL L i_keptMany i_taped i_faultKind i_faultPlace i_spot i_begin i_token i_value i_bad i_full i_bandRows i_bandFirsts i_outs f_state f_was f_kept f_tape f_order f_rest f_ways f_costs f_bandBest f_found f_drawn f_joined f_out ++ R)) _ _
        refine xi_iload 8 dX12_filled_114 rfl ?_
        refine xi_callS (as := [.int (FX12_neighbours f_state n1 w5 n7), .int (nI j)]) (rest := []) dX12_filled_116 (FX12_has_ok G ((FX12_neighbours f_state n1 w5 n7)) ((nI j)) (fun r => r = FX12_has ((FX12_neighbours f_state n1 w5 n7)) ((nI j))) rfl) mkX12_has w_1207 w_1206 rfl rfl (Nat.le_of_ble_eq_true rfl) (Nat.le_of_ble_eq_true rfl) (Nat.le_of_ble_eq_true rfl) (Nat.le_of_ble_eq_true rfl) (Nat.le_of_ble_eq_true rfl) ?_
        intro v M2 hz
        obtain ⟨_, rfl, rfl, hM2⟩ := hz
        rw [hM2]
        show xW _ _ _ _ 119 _ [.int (FX12_has ((FX12_neighbours f_state n1 w5 n7)) ((nI j)))] (P ++ (MDL L i_keptMany i_taped i_faultKind i_faultPlace i_spot i_begin i_token i_value i_bad i_full i_bandRows i_bandFirsts i_outs f_state f_was f_kept f_tape f_order f_rest f_ways f_costs f_bandBest f_found f_drawn f_joined f_out ++ R)) _ _
        refine xi_if_ne (tgt := 139) dX12_filled_119 (by decide) (fun c10 => ?_) (fun c10 => ?_)
        · rw [if_neg c10] at hq
          refine xi_iinc (v := (nI (j + 1))) (lv' := [(8, .int (nI (j + 1))), (0, .ref L), (1, .int (nI n1)), (2, .int w2), (3, .int v3), (4, .int (nI n4)), (5, .int w5), (6, .int w6), (7, .int (nI n7))]) 8 dX12_filled_139 rfl (nI_1 _) (by decide) rfl ?_
          refine xi_goto (tgt := 75) dX12_filled_142 (by decide) ?_
          refine xi_sub (lv' := [(0, .ref L), (1, .int (nI n1)), (2, .int w2), (3, .int v3), (4, .int (nI n4)), (5, .int w5), (6, .int w6), (7, .int (nI n7)), (8, .int (nI (j + 1)))]) [1, 2, 3, 4, 5, 6, 7, 8, 0] rfl ?_
          exact ih (j + 1) v3 (by omega) (by omega) hq
        · rw [if_pos c10] at hq
          refine xi_iload_n 3 dX12_filled_122 rfl ?_
          refine xi_iload_n 2 dX12_filled_123 rfl ?_
          refine xi_icmp_ne (tgt := 136) dX12_filled_124 (by decide) (fun c11 => ?_) (fun c11 => ?_)
          · rw [if_neg c11] at hq
            refine xi_iinc (v := (v3 + Int32.ofInt 1)) (lv' := [(3, .int (v3 + Int32.ofInt 1)), (0, .ref L), (1, .int (nI n1)), (2, .int w2), (4, .int (nI n4)), (5, .int w5), (6, .int w6), (7, .int (nI n7)), (8, .int (nI j))]) 3 dX12_filled_136 rfl rfl (by decide) rfl ?_
            refine xi_iinc (v := (nI (j + 1))) (lv' := [(8, .int (nI (j + 1))), (3, .int (v3 + Int32.ofInt 1)), (0, .ref L), (1, .int (nI n1)), (2, .int w2), (4, .int (nI n4)), (5, .int w5), (6, .int w6), (7, .int (nI n7))]) 8 dX12_filled_139 rfl (nI_1 _) (by decide) rfl ?_
            refine xi_goto (tgt := 75) dX12_filled_142 (by decide) ?_
            refine xi_sub (lv' := [(0, .ref L), (1, .int (nI n1)), (2, .int w2), (3, .int (v3 + Int32.ofInt 1)), (4, .int (nI n4)), (5, .int w5), (6, .int w6), (7, .int (nI n7)), (8, .int (nI (j + 1)))]) [2, 3, 4, 1, 5, 6, 7, 8, 0] rfl ?_
            exact ih (j + 1) ((v3 + Int32.ofInt 1)) (by omega) (by omega) hq
          · rw [if_pos c11] at hq
            refine xi_bipush (v := 10) dX12_filled_127 (by decide) ?_
            refine xi_iload 7 dX12_filled_129 rfl ?_
            refine xi_imul (v := (nI (10 * n7))) dX12_filled_131 (pk_mul 10 n7) ?_
            refine xi_iload 8 dX12_filled_132 rfl ?_
            refine xi_iadd (v := (nI ((10 * n7) + j))) dX12_filled_134 (nI_add (10 * n7) j) ?_
            exact xi_iret dX12_filled_135 rfl rfl (Nat.le_of_ble_eq_true rfl) (Nat.le_of_ble_eq_true rfl) ⟨_, rfl, hq, rfl⟩
set_option maxHeartbeats 4000000 in
set_option maxRecDepth 100000 in
theorem LX12_filled_59_s (G : xG) {P R : xMem} {L : Nat} (hP : P.length = L) (i_keptMany : Nat) (i_taped : Nat) (i_faultKind : Int32) (i_faultPlace : Int32) (i_spot : Nat) (i_begin : Nat) (i_token : Int32) (i_value : Int32) (i_bad : Int32) (i_full : Nat) (i_bandRows : Int32) (i_bandFirsts : Int32) (i_outs : Nat) (f_state : Nat → Int32) (f_was : Nat → Int32) (f_kept : Nat → Int32) (f_tape : Nat → Int32) (f_order : Nat → Int32) (f_rest : Nat → Int32) (f_ways : Nat → Int32) (f_costs : Nat → Int32) (f_bandBest : Nat → Int32) (f_found : Nat → Int32) (f_drawn : Nat → Int32) (f_joined : Nat → Int32) (f_out : Nat → Int32) (bi_keptMany : i_keptMany ≤ 10) (bi_taped : i_taped ≤ 400) (bi_spot : i_spot ≤ 400) (bi_begin : i_begin ≤ 400) (bi_full : i_full ≤ 511) (bi_outs : i_outs ≤ 400) (hG : GO f_state) (n1 : Nat) (bn1 : n1 < 3) (w2 : Int32) (n4 : Nat) (bn4 : n4 < 9) (w5 : Int32) (w6 : Int32) (Q : Int32 → Prop) (K : Int32 → Int32) (HE : ∀ (v3 : Int32), Q (K v3) → xW G mX12_filled (xrm 3 0 0) (xQ G (fun v M2 => ∃ o : Int32, v = some (.int o) ∧ Q o ∧ M2 = (P ++ (MDL L i_keptMany i_taped i_faultKind i_faultPlace i_spot i_begin i_token i_value i_bad i_full i_bandRows i_bandFirsts i_outs f_state f_was f_kept f_tape f_order f_rest f_ways f_costs f_bandBest f_found f_drawn f_joined f_out ++ R))) 0 0) 151 [(0, .ref L), (1, .int (nI n1)), (2, .int w2), (3, .int v3), (4, .int (nI n4))] [] (P ++ (MDL L i_keptMany i_taped i_faultKind i_faultPlace i_spot i_begin i_token i_value i_bad i_full i_bandRows i_bandFirsts i_outs f_state f_was f_kept f_tape f_order f_rest f_ways f_costs f_bandBest f_found f_drawn f_joined f_out ++ R)) 0 0) :
    ∀ (k j : Nat) (v3 : Int32), (f_state (91 * n1)).toNatClampNeg - j = k → j < 100000 → Q (LX12_filled_59 f_state n1 w2 n4 w5 w6 K k j v3) → xW G mX12_filled (xrm 3 0 0) (xQ G (fun v M2 => ∃ o : Int32, v = some (.int o) ∧ Q o ∧ M2 = (P ++ (MDL L i_keptMany i_taped i_faultKind i_faultPlace i_spot i_begin i_token i_value i_bad i_full i_bandRows i_bandFirsts i_outs f_state f_was f_kept f_tape f_order f_rest f_ways f_costs f_bandBest f_found f_drawn f_joined f_out ++ R))) 0 0) 59 [(0, .ref L), (1, .int (nI n1)), (2, .int w2), (3, .int v3), (4, .int (nI n4)), (5, .int w5), (6, .int w6), (7, .int (nI j))] [] (P ++ (MDL L i_keptMany i_taped i_faultKind i_faultPlace i_spot i_begin i_token i_value i_bad i_full i_bandRows i_bandFirsts i_outs f_state f_was f_kept f_tape f_order f_rest f_ways f_costs f_bandBest f_found f_drawn f_joined f_out ++ R)) 0 0 := by
  intro k
  induction k with
  | zero =>
    intro j v3 hj hj2 hq
    rw [LX12_filled_59] at hq
    refine xi_iload 7 dX12_filled_59 rfl ?_
    refine xi_aload_n 0 dX12_filled_61 rfl ?_
    refine xi_iload_n 1 dX12_filled_62 rfl ?_
    refine xi_callV (as := [.int (nI n1)]) (rest := [.int (nI j)]) dX12_filled_63 (FX12_points_ok G hP i_keptMany i_taped i_faultKind i_faultPlace i_spot i_begin i_token i_value i_bad i_full i_bandRows i_bandFirsts i_outs f_state f_was f_kept f_tape f_order f_rest f_ways f_costs f_bandBest f_found f_drawn f_joined f_out (by omega) (by omega) (by omega) (by omega) (by omega) (by omega) n1 (by omega) _ rfl (fun r => r = nI ((f_state (91 * n1)).toNatClampNeg)) ((hG n1 (by omega)).1.1)) mkX12_points w_1108 ws_36 w_1106 (xpg0 hP rfl) rfl rfl rfl rfl (Nat.le_of_ble_eq_true rfl) (Nat.le_of_ble_eq_true rfl) (Nat.le_of_ble_eq_true rfl) (Nat.le_of_ble_eq_true rfl) (Nat.le_of_ble_eq_true rfl) ?_
    intro v M2 hz
    obtain ⟨_, rfl, rfl, rfl⟩ := hz
    show xW _ _ _ _ 66 _ [.int (nI ((f_state (91 * n1)).toNatClampNeg)), .int (nI j)] (P ++ (MDL L i_keptMany i_taped i_faultKind i_faultPlace i_spot i_begin i_token i_value i_bad i_full i_bandRows i_bandFirsts i_outs f_state f_was f_kept f_tape f_order f_rest f_ways f_costs f_bandBest f_found f_drawn f_joined f_out ++ R)) _ _
    have o14 := (hG n1 (by omega)).1.2
    refine xi_icmp_ge_t (tgt := 151) dX12_filled_66 (by decide) (nI_le (a := (f_state (91 * n1)).toNatClampNeg) (b := j) (by omega) (by omega)) ?_
    refine xi_sub (lv' := [(0, .ref L), (1, .int (nI n1)), (2, .int w2), (3, .int v3), (4, .int (nI n4))]) [0, 1, 2, 3, 4] rfl ?_
    exact HE v3 hq
  | succ k ih =>
    intro j v3 hj hj2 hq
    rw [LX12_filled_59] at hq
    refine xi_iload 7 dX12_filled_59 rfl ?_
    refine xi_aload_n 0 dX12_filled_61 rfl ?_
    refine xi_iload_n 1 dX12_filled_62 rfl ?_
    refine xi_callV (as := [.int (nI n1)]) (rest := [.int (nI j)]) dX12_filled_63 (FX12_points_ok G hP i_keptMany i_taped i_faultKind i_faultPlace i_spot i_begin i_token i_value i_bad i_full i_bandRows i_bandFirsts i_outs f_state f_was f_kept f_tape f_order f_rest f_ways f_costs f_bandBest f_found f_drawn f_joined f_out (by omega) (by omega) (by omega) (by omega) (by omega) (by omega) n1 (by omega) _ rfl (fun r => r = nI ((f_state (91 * n1)).toNatClampNeg)) ((hG n1 (by omega)).1.1)) mkX12_points w_1108 ws_36 w_1106 (xpg0 hP rfl) rfl rfl rfl rfl (Nat.le_of_ble_eq_true rfl) (Nat.le_of_ble_eq_true rfl) (Nat.le_of_ble_eq_true rfl) (Nat.le_of_ble_eq_true rfl) (Nat.le_of_ble_eq_true rfl) ?_
    intro v M2 hz
    obtain ⟨_, rfl, rfl, rfl⟩ := hz
    show xW _ _ _ _ 66 _ [.int (nI ((f_state (91 * n1)).toNatClampNeg)), .int (nI j)] (P ++ (MDL L i_keptMany i_taped i_faultKind i_faultPlace i_spot i_begin i_token i_value i_bad i_full i_bandRows i_bandFirsts i_outs f_state f_was f_kept f_tape f_order f_rest f_ways f_costs f_bandBest f_found f_drawn f_joined f_out ++ R)) _ _
    have o6 := (hG n1 (by omega)).1.2
    refine xi_icmp_ge_f (tgt := 151) dX12_filled_66 (by decide) (nI_ge (a := j) (b := (f_state (91 * n1)).toNatClampNeg) (by omega) (by omega)) ?_
    refine xi_iload 7 dX12_filled_69 rfl ?_
    refine xi_iconst (v := 1) dX12_filled_71 (by decide) ?_
    refine xi_iadd (v := (nI (j + 1))) dX12_filled_72 (nI_add j 1) ?_
    refine xi_istore (lv' := [(8, .int (nI (j + 1))), (0, .ref L), (1, .int (nI n1)), (2, .int w2), (3, .int v3), (4, .int (nI n4)), (5, .int w5), (6, .int w6), (7, .int (nI j))]) dX12_filled_73 (by decide) rfl ?_
    refine xi_sub (lv' := [(0, .ref L), (1, .int (nI n1)), (2, .int w2), (3, .int v3), (4, .int (nI n4)), (5, .int w5), (6, .int w6), (7, .int (nI j)), (8, .int (nI (j + 1)))]) [1, 2, 3, 4, 5, 6, 7, 8, 0] rfl ?_
    refine LX12_filled_75_s G hP i_keptMany i_taped i_faultKind i_faultPlace i_spot i_begin i_token i_value i_bad i_full i_bandRows i_bandFirsts i_outs f_state f_was f_kept f_tape f_order f_rest f_ways f_costs f_bandBest f_found f_drawn f_joined f_out (by omega) (by omega) (by omega) (by omega) (by omega) (by omega) hG n1 (by omega) w2 n4 (by omega) w5 w6 j (by omega) Q _ (fun u13 hq => ?_) ((f_state (91 * n1)).toNatClampNeg - (j + 1)) (j + 1) v3 rfl (by omega) hq
    refine xi_iinc (v := (nI (j + 1))) (lv' := [(7, .int (nI (j + 1))), (0, .ref L), (1, .int (nI n1)), (2, .int w2), (3, .int u13), (4, .int (nI n4)), (5, .int w5), (6, .int w6)]) 7 dX12_filled_145 rfl (nI_1 _) (by decide) rfl ?_
    refine xi_goto (tgt := 59) dX12_filled_148 (by decide) ?_
    refine xi_sub (lv' := [(0, .ref L), (1, .int (nI n1)), (2, .int w2), (3, .int u13), (4, .int (nI n4)), (5, .int w5), (6, .int w6), (7, .int (nI (j + 1)))]) [1, 2, 3, 4, 5, 6, 7, 0] rfl ?_
    exact ih (j + 1) u13 (by omega) (by omega) hq
set_option maxHeartbeats 4000000 in
set_option maxRecDepth 100000 in
theorem LX12_filled_21_s (G : xG) {P R : xMem} {L : Nat} (hP : P.length = L) (i_keptMany : Nat) (i_taped : Nat) (i_faultKind : Int32) (i_faultPlace : Int32) (i_spot : Nat) (i_begin : Nat) (i_token : Int32) (i_value : Int32) (i_bad : Int32) (i_full : Nat) (i_bandRows : Int32) (i_bandFirsts : Int32) (i_outs : Nat) (f_state : Nat → Int32) (f_was : Nat → Int32) (f_kept : Nat → Int32) (f_tape : Nat → Int32) (f_order : Nat → Int32) (f_rest : Nat → Int32) (f_ways : Nat → Int32) (f_costs : Nat → Int32) (f_bandBest : Nat → Int32) (f_found : Nat → Int32) (f_drawn : Nat → Int32) (f_joined : Nat → Int32) (f_out : Nat → Int32) (bi_keptMany : i_keptMany ≤ 10) (bi_taped : i_taped ≤ 400) (bi_spot : i_spot ≤ 400) (bi_begin : i_begin ≤ 400) (bi_full : i_full ≤ 511) (bi_outs : i_outs ≤ 400) (hG : GO f_state) (n1 : Nat) (bn1 : n1 < 3) (w2 : Int32) (Q : Int32 → Prop) (K : Int32 → Int32) (HE : ∀ (v3 : Int32), Q (K v3) → xW G mX12_filled (xrm 3 0 0) (xQ G (fun v M2 => ∃ o : Int32, v = some (.int o) ∧ Q o ∧ M2 = (P ++ (MDL L i_keptMany i_taped i_faultKind i_faultPlace i_spot i_begin i_token i_value i_bad i_full i_bandRows i_bandFirsts i_outs f_state f_was f_kept f_tape f_order f_rest f_ways f_costs f_bandBest f_found f_drawn f_joined f_out ++ R))) 0 0) 157 [(2, .int w2), (3, .int v3)] [] (P ++ (MDL L i_keptMany i_taped i_faultKind i_faultPlace i_spot i_begin i_token i_value i_bad i_full i_bandRows i_bandFirsts i_outs f_state f_was f_kept f_tape f_order f_rest f_ways f_costs f_bandBest f_found f_drawn f_joined f_out ++ R)) 0 0) :
    ∀ (k j : Nat) (v3 : Int32), (f_state (91 * n1)).toNatClampNeg - j = k → j < 100000 → Q (LX12_filled_21 f_state n1 w2 K k j v3) → xW G mX12_filled (xrm 3 0 0) (xQ G (fun v M2 => ∃ o : Int32, v = some (.int o) ∧ Q o ∧ M2 = (P ++ (MDL L i_keptMany i_taped i_faultKind i_faultPlace i_spot i_begin i_token i_value i_bad i_full i_bandRows i_bandFirsts i_outs f_state f_was f_kept f_tape f_order f_rest f_ways f_costs f_bandBest f_found f_drawn f_joined f_out ++ R))) 0 0) 21 [(0, .ref L), (1, .int (nI n1)), (2, .int w2), (3, .int v3), (4, .int (nI j))] [] (P ++ (MDL L i_keptMany i_taped i_faultKind i_faultPlace i_spot i_begin i_token i_value i_bad i_full i_bandRows i_bandFirsts i_outs f_state f_was f_kept f_tape f_order f_rest f_ways f_costs f_bandBest f_found f_drawn f_joined f_out ++ R)) 0 0 := by
  intro k
  induction k with
  | zero =>
    intro j v3 hj hj2 hq
    rw [LX12_filled_21] at hq
    refine xi_iload 4 dX12_filled_21 rfl ?_
    refine xi_aload_n 0 dX12_filled_23 rfl ?_
    refine xi_iload_n 1 dX12_filled_24 rfl ?_
    refine xi_callV (as := [.int (nI n1)]) (rest := [.int (nI j)]) dX12_filled_25 (FX12_points_ok G hP i_keptMany i_taped i_faultKind i_faultPlace i_spot i_begin i_token i_value i_bad i_full i_bandRows i_bandFirsts i_outs f_state f_was f_kept f_tape f_order f_rest f_ways f_costs f_bandBest f_found f_drawn f_joined f_out (by omega) (by omega) (by omega) (by omega) (by omega) (by omega) n1 (by omega) _ rfl (fun r => r = nI ((f_state (91 * n1)).toNatClampNeg)) ((hG n1 (by omega)).1.1)) mkX12_points w_1108 ws_36 w_1106 (xpg0 hP rfl) rfl rfl rfl rfl (Nat.le_of_ble_eq_true rfl) (Nat.le_of_ble_eq_true rfl) (Nat.le_of_ble_eq_true rfl) (Nat.le_of_ble_eq_true rfl) (Nat.le_of_ble_eq_true rfl) ?_
    intro v M2 hz
    obtain ⟨_, rfl, rfl, rfl⟩ := hz
    show xW _ _ _ _ 28 _ [.int (nI ((f_state (91 * n1)).toNatClampNeg)), .int (nI j)] (P ++ (MDL L i_keptMany i_taped i_faultKind i_faultPlace i_spot i_begin i_token i_value i_bad i_full i_bandRows i_bandFirsts i_outs f_state f_was f_kept f_tape f_order f_rest f_ways f_costs f_bandBest f_found f_drawn f_joined f_out ++ R)) _ _
    have o16 := (hG n1 (by omega)).1.2
    refine xi_icmp_ge_t (tgt := 157) dX12_filled_28 (by decide) (nI_le (a := (f_state (91 * n1)).toNatClampNeg) (b := j) (by omega) (by omega)) ?_
    refine xi_sub (lv' := [(2, .int w2), (3, .int v3)]) [2, 3] rfl ?_
    exact HE v3 hq
  | succ k ih =>
    intro j v3 hj hj2 hq
    rw [LX12_filled_21] at hq
    refine xi_iload 4 dX12_filled_21 rfl ?_
    refine xi_aload_n 0 dX12_filled_23 rfl ?_
    refine xi_iload_n 1 dX12_filled_24 rfl ?_
    refine xi_callV (as := [.int (nI n1)]) (rest := [.int (nI j)]) dX12_filled_25 (FX12_points_ok G hP i_keptMany i_taped i_faultKind i_faultPlace i_spot i_begin i_token i_value i_bad i_full i_bandRows i_bandFirsts i_outs f_state f_was f_kept f_tape f_order f_rest f_ways f_costs f_bandBest f_found f_drawn f_joined f_out (by omega) (by omega) (by omega) (by omega) (by omega) (by omega) n1 (by omega) _ rfl (fun r => r = nI ((f_state (91 * n1)).toNatClampNeg)) ((hG n1 (by omega)).1.1)) mkX12_points w_1108 ws_36 w_1106 (xpg0 hP rfl) rfl rfl rfl rfl (Nat.le_of_ble_eq_true rfl) (Nat.le_of_ble_eq_true rfl) (Nat.le_of_ble_eq_true rfl) (Nat.le_of_ble_eq_true rfl) (Nat.le_of_ble_eq_true rfl) ?_
    intro v M2 hz
    obtain ⟨_, rfl, rfl, rfl⟩ := hz
    show xW _ _ _ _ 28 _ [.int (nI ((f_state (91 * n1)).toNatClampNeg)), .int (nI j)] (P ++ (MDL L i_keptMany i_taped i_faultKind i_faultPlace i_spot i_begin i_token i_value i_bad i_full i_bandRows i_bandFirsts i_outs f_state f_was f_kept f_tape f_order f_rest f_ways f_costs f_bandBest f_found f_drawn f_joined f_out ++ R)) _ _
    have o4 := (hG n1 (by omega)).1.2
    refine xi_icmp_ge_f (tgt := 157) dX12_filled_28 (by decide) (nI_ge (a := j) (b := (f_state (91 * n1)).toNatClampNeg) (by omega) (by omega)) ?_
    refine xi_aload_n 0 dX12_filled_31 rfl ?_
    refine xi_iload_n 1 dX12_filled_32 rfl ?_
    refine xi_iload 4 dX12_filled_33 rfl ?_
    refine xi_callV (as := [.int (nI n1), .int (nI j)]) (rest := []) dX12_filled_35 (FX12_aheadOf_ok G hP i_keptMany i_taped i_faultKind i_faultPlace i_spot i_begin i_token i_value i_bad i_full i_bandRows i_bandFirsts i_outs f_state f_was f_kept f_tape f_order f_rest f_ways f_costs f_bandBest f_found f_drawn f_joined f_out (by omega) (by omega) (by omega) (by omega) (by omega) (by omega) hG n1 (by omega) j (by omega) _ rfl (fun r => r = FX12_aheadOf f_state n1 j) rfl) mkX12_aheadOf w_1337 ws_74 w_1335 (xpg0 hP rfl) rfl rfl rfl rfl (Nat.le_of_ble_eq_true rfl) (Nat.le_of_ble_eq_true rfl) (Nat.le_of_ble_eq_true rfl) (Nat.le_of_ble_eq_true rfl) (Nat.le_of_ble_eq_true rfl) ?_
    intro v M2 hz
    obtain ⟨_, rfl, rfl, rfl⟩ := hz
    show xW _ _ _ _ 38 _ [.int (FX12_aheadOf f_state n1 j)] (P ++ (MDL L i_keptMany i_taped i_faultKind i_faultPlace i_spot i_begin i_token i_value i_bad i_full i_bandRows i_bandFirsts i_outs f_state f_was f_kept f_tape f_order f_rest f_ways f_costs f_bandBest f_found f_drawn f_joined f_out ++ R)) _ _
    refine xi_istore (lv' := [(5, .int (FX12_aheadOf f_state n1 j)), (0, .ref L), (1, .int (nI n1)), (2, .int w2), (3, .int v3), (4, .int (nI j))]) dX12_filled_38 (by decide) rfl ?_
    refine xi_aload_n 1 dX12_filled_40 rfl ?_
    refine xi_iload_n 2 dX12_filled_41 rfl ?_
    refine xi_iload 0 dX12_filled_42 rfl ?_
    refine xi_aload_n 1 dX12_filled_44 rfl ?_
    refine xi_iload_n 2 dX12_filled_45 rfl ?_
    refine xi_iload 5 dX12_filled_46 rfl ?_
    refine xi_callV (as := [.int (nI n1), .int (nI j)]) (rest := [.int (FX12_aheadOf f_state n1 j), .int (nI n1), .ref L]) dX12_filled_48 (FX12_at_ok G hP i_keptMany i_taped i_faultKind i_faultPlace i_spot i_begin i_token i_value i_bad i_full i_bandRows i_bandFirsts i_outs f_state f_was f_kept f_tape f_order f_rest f_ways f_costs f_bandBest f_found f_drawn f_joined f_out (by omega) (by omega) (by omega) (by omega) (by omega) (by omega) n1 (by omega) j (by omega) _ rfl (fun r => r = nI ((f_state (91 * n1 + 82 + j)).toNatClampNeg)) (((hG n1 (by omega)).2 j (by omega)).1)) mkX12_at w_1273 ws_64 w_1271 (xpg0 hP rfl) rfl rfl rfl rfl (Nat.le_of_ble_eq_true rfl) (Nat.le_of_ble_eq_true rfl) (Nat.le_of_ble_eq_true rfl) (Nat.le_of_ble_eq_true rfl) (Nat.le_of_ble_eq_true rfl) ?_
    intro v M2 hz
    obtain ⟨_, rfl, rfl, rfl⟩ := hz
    show xW _ _ _ _ 51 _ [.int (nI ((f_state (91 * n1 + 82 + j)).toNatClampNeg)), .int (FX12_aheadOf f_state n1 j), .int (nI n1), .ref L] (P ++ (MDL L i_keptMany i_taped i_faultKind i_faultPlace i_spot i_begin i_token i_value i_bad i_full i_bandRows i_bandFirsts i_outs f_state f_was f_kept f_tape f_order f_rest f_ways f_costs f_bandBest f_found f_drawn f_joined f_out ++ R)) _ _
    have o5 := ((hG n1 (by omega)).2 j (by omega)).2
    refine xi_callV (as := [.int (nI n1), .int (FX12_aheadOf f_state n1 j), .int (nI ((f_state (91 * n1 + 82 + j)).toNatClampNeg))]) (rest := []) dX12_filled_51 (FX12_neighbours_ok G hP i_keptMany i_taped i_faultKind i_faultPlace i_spot i_begin i_token i_value i_bad i_full i_bandRows i_bandFirsts i_outs f_state f_was f_kept f_tape f_order f_rest f_ways f_costs f_bandBest f_found f_drawn f_joined f_out (by omega) (by omega) (by omega) (by omega) (by omega) (by omega) hG n1 (by omega) ((FX12_aheadOf f_state n1 j)) ((f_state (91 * n1 + 82 + j)).toNatClampNeg) (by omega) _ rfl (fun r => r = FX12_neighbours f_state n1 ((FX12_aheadOf f_state n1 j)) ((f_state (91 * n1 + 82 + j)).toNatClampNeg)) rfl) mkX12_neighbours w_1308 ws_70 w_1306 (xpg0 hP rfl) rfl rfl rfl rfl (Nat.le_of_ble_eq_true rfl) (Nat.le_of_ble_eq_true rfl) (Nat.le_of_ble_eq_true rfl) (Nat.le_of_ble_eq_true rfl) (Nat.le_of_ble_eq_true rfl) ?_
    intro v M2 hz
    obtain ⟨_, rfl, rfl, rfl⟩ := hz
    show xW _ _ _ _ 54 _ [.int (FX12_neighbours f_state n1 ((FX12_aheadOf f_state n1 j)) ((f_state (91 * n1 + 82 + j)).toNatClampNeg))] (P ++ (MDL L i_keptMany i_taped i_faultKind i_faultPlace i_spot i_begin i_token i_value i_bad i_full i_bandRows i_bandFirsts i_outs f_state f_was f_kept f_tape f_order f_rest f_ways f_costs f_bandBest f_found f_drawn f_joined f_out ++ R)) _ _
    refine xi_istore (lv' := [(6, .int (FX12_neighbours f_state n1 ((FX12_aheadOf f_state n1 j)) ((f_state (91 * n1 + 82 + j)).toNatClampNeg))), (5, .int (FX12_aheadOf f_state n1 j)), (0, .ref L), (1, .int (nI n1)), (2, .int w2), (3, .int v3), (4, .int (nI j))]) dX12_filled_54 (by decide) rfl ?_
    refine xi_iconst (v := 0) dX12_filled_56 (by decide) ?_
    refine xi_istore (lv' := [(7, .int 0), (6, .int (FX12_neighbours f_state n1 ((FX12_aheadOf f_state n1 j)) ((f_state (91 * n1 + 82 + j)).toNatClampNeg))), (5, .int (FX12_aheadOf f_state n1 j)), (0, .ref L), (1, .int (nI n1)), (2, .int w2), (3, .int v3), (4, .int (nI j))]) dX12_filled_57 (by decide) rfl ?_
    refine xi_sub (lv' := [(0, .ref L), (1, .int (nI n1)), (2, .int w2), (3, .int v3), (4, .int (nI j)), (5, .int (FX12_aheadOf f_state n1 j)), (6, .int (FX12_neighbours f_state n1 ((FX12_aheadOf f_state n1 j)) ((f_state (91 * n1 + 82 + j)).toNatClampNeg))), (7, .int 0)]) [3, 4, 5, 6, 7, 2, 1, 0] rfl ?_
    refine LX12_filled_59_s G hP i_keptMany i_taped i_faultKind i_faultPlace i_spot i_begin i_token i_value i_bad i_full i_bandRows i_bandFirsts i_outs f_state f_was f_kept f_tape f_order f_rest f_ways f_costs f_bandBest f_found f_drawn f_joined f_out (by omega) (by omega) (by omega) (by omega) (by omega) (by omega) hG n1 (by omega) w2 j (by omega) ((FX12_aheadOf f_state n1 j)) ((FX12_neighbours f_state n1 ((FX12_aheadOf f_state n1 j)) ((f_state (91 * n1 + 82 + j)).toNatClampNeg))) Q _ (fun u15 hq => ?_) ((f_state (91 * n1)).toNatClampNeg - 0) 0 v3 rfl (by omega) hq
    refine xi_iinc (v := (nI (j + 1))) (lv' := [(4, .int (nI (j + 1))), (0, .ref L), (1, .int (nI n1)), (2, .int w2), (3, .int u15)]) 4 dX12_filled_151 rfl (nI_1 _) (by decide) rfl ?_
    refine xi_goto (tgt := 21) dX12_filled_154 (by decide) ?_
    refine xi_sub (lv' := [(0, .ref L), (1, .int (nI n1)), (2, .int w2), (3, .int u15), (4, .int (nI (j + 1)))]) [1, 2, 3, 4, 0] rfl ?_
    exact ih (j + 1) u15 (by omega) (by omega) hq
def FX12_filled (f_state : Nat → Int32) (x : Int32) (y : Int32) : Int32 := (if (FX12_isNet f_state x) = (0 : Int32) then (-2 : Int32) else (if (-1 : Int32) ≤ y then (LX12_filled_21 f_state x.toNatClampNeg y (fun u17 => (if y = (-1 : Int32) then u17 else (-1 : Int32))) ((f_state (91 * x.toNatClampNeg)).toNatClampNeg - 0) 0 ((0 : Int32))) else (-2 : Int32)))
set_option maxHeartbeats 4000000 in
set_option maxRecDepth 100000 in
theorem FX12_filled_ok (G : xG) {P R : xMem} {L : Nat} (hP : P.length = L) (i_keptMany : Nat) (i_taped : Nat) (i_faultKind : Int32) (i_faultPlace : Int32) (i_spot : Nat) (i_begin : Nat) (i_token : Int32) (i_value : Int32) (i_bad : Int32) (i_full : Nat) (i_bandRows : Int32) (i_bandFirsts : Int32) (i_outs : Nat) (f_state : Nat → Int32) (f_was : Nat → Int32) (f_kept : Nat → Int32) (f_tape : Nat → Int32) (f_order : Nat → Int32) (f_rest : Nat → Int32) (f_ways : Nat → Int32) (f_costs : Nat → Int32) (f_bandBest : Nat → Int32) (f_found : Nat → Int32) (f_drawn : Nat → Int32) (f_joined : Nat → Int32) (f_out : Nat → Int32) (bi_keptMany : i_keptMany ≤ 10) (bi_taped : i_taped ≤ 400) (bi_spot : i_spot ≤ 400) (bi_begin : i_begin ≤ 400) (bi_full : i_full ≤ 511) (bi_outs : i_outs ≤ 400) (hG : GO f_state) (x : Int32) (y : Int32) (M : xMem) (hM : M = (P ++ (MDL L i_keptMany i_taped i_faultKind i_faultPlace i_spot i_begin i_token i_value i_bad i_full i_bandRows i_bandFirsts i_outs f_state f_was f_kept f_tape f_order f_rest f_ways f_costs f_bandBest f_found f_drawn f_joined f_out ++ R))) (Q : Int32 → Prop) (hq : Q (FX12_filled f_state x y)) : xC G mX12_filled 3 0 0 [.ref L, .int x, .int y] M (fun v M2 => ∃ o : Int32, v = some (.int o) ∧ Q o ∧ M2 = (P ++ (MDL L i_keptMany i_taped i_faultKind i_faultPlace i_spot i_begin i_token i_value i_bad i_full i_bandRows i_bandFirsts i_outs f_state f_was f_kept f_tape f_order f_rest f_ways f_costs f_bandBest f_found f_drawn f_joined f_out ++ R))) := by
  subst hM
  unfold FX12_filled at hq
  refine xC.of (by decide) (Nat.le_of_ble_eq_true rfl) ?_
  show xW _ _ _ _ 0 [(0, .ref L), (1, .int x), (2, .int y)] [] _ 0 0
  refine xi_aload_n 0 dX12_filled_0 rfl ?_
  refine xi_iload_n 1 dX12_filled_1 rfl ?_
  refine xi_callV (as := [.int x]) (rest := []) dX12_filled_2 (FX12_isNet_ok G hP i_keptMany i_taped i_faultKind i_faultPlace i_spot i_begin i_token i_value i_bad i_full i_bandRows i_bandFirsts i_outs f_state f_was f_kept f_tape f_order f_rest f_ways f_costs f_bandBest f_found f_drawn f_joined f_out (by omega) (by omega) (by omega) (by omega) (by omega) (by omega) hG x _ rfl (fun r => r = FX12_isNet f_state x) rfl) mkX12_isNet w_1104 ws_35 w_1102 (xpg0 hP rfl) rfl rfl rfl rfl (Nat.le_of_ble_eq_true rfl) (Nat.le_of_ble_eq_true rfl) (Nat.le_of_ble_eq_true rfl) (Nat.le_of_ble_eq_true rfl) (Nat.le_of_ble_eq_true rfl) ?_
  intro v M2 hz
  obtain ⟨_, rfl, rfl, rfl⟩ := hz
  show xW _ _ _ _ 5 _ [.int (FX12_isNet f_state x)] (P ++ (MDL L i_keptMany i_taped i_faultKind i_faultPlace i_spot i_begin i_token i_value i_bad i_full i_bandRows i_bandFirsts i_outs f_state f_was f_kept f_tape f_order f_rest f_ways f_costs f_bandBest f_found f_drawn f_joined f_out ++ R)) _ _
  refine xi_if_eq (tgt := 13) dX12_filled_5 (by decide) (fun c1 => ?_) (fun c1 => ?_)
  · rw [if_pos c1] at hq
    refine xi_bipush (v := (-2)) dX12_filled_13 (by decide) ?_
    exact xi_iret dX12_filled_15 rfl rfl (Nat.le_of_ble_eq_true rfl) (Nat.le_of_ble_eq_true rfl) ⟨_, rfl, hq, rfl⟩
  · rw [if_neg c1] at hq
    obtain ⟨e2, e2b, e2h⟩ := net_in c1
    have e2c : x.toNatClampNeg = e2 := by rw [e2h]; exact nI_clamp (by omega)
    try rw [e2c] at hq
    subst e2h
    have e2g := (hG e2 e2b).1.2
    refine xi_iload_n 2 dX12_filled_8 rfl ?_
    refine xi_iconst (v := (-1)) dX12_filled_9 (by decide) ?_
    refine xi_icmp_ge (tgt := 16) dX12_filled_10 (by decide) (fun c3 => ?_) (fun c3 => ?_)
    · rw [if_pos c3] at hq
      refine xi_iconst (v := 0) dX12_filled_16 (by decide) ?_
      refine xi_istore_n (lv' := [(3, .int 0), (0, .ref L), (1, .int (nI e2)), (2, .int y)]) dX12_filled_17 (by decide) rfl ?_
      refine xi_iconst (v := 0) dX12_filled_18 (by decide) ?_
      refine xi_istore (lv' := [(4, .int 0), (3, .int 0), (0, .ref L), (1, .int (nI e2)), (2, .int y)]) dX12_filled_19 (by decide) rfl ?_
      refine xi_sub (lv' := [(0, .ref L), (1, .int (nI e2)), (2, .int y), (3, .int 0), (4, .int 0)]) [2, 3, 4, 1, 0] rfl ?_
      refine LX12_filled_21_s G hP i_keptMany i_taped i_faultKind i_faultPlace i_spot i_begin i_token i_value i_bad i_full i_bandRows i_bandFirsts i_outs f_state f_was f_kept f_tape f_order f_rest f_ways f_costs f_bandBest f_found f_drawn f_joined f_out (by omega) (by omega) (by omega) (by omega) (by omega) (by omega) hG e2 (by omega) y Q _ (fun u17 hq => ?_) ((f_state (91 * e2)).toNatClampNeg - 0) 0 ((0 : Int32)) rfl (by omega) hq
      refine xi_iload_n 0 dX12_filled_157 rfl ?_
      refine xi_iconst (v := (-1)) dX12_filled_158 (by decide) ?_
      refine xi_icmp_ne (tgt := 166) dX12_filled_159 (by decide) (fun c18 => ?_) (fun c18 => ?_)
      · rw [if_neg c18] at hq
        refine xi_iconst (v := (-1)) dX12_filled_166 (by decide) ?_
        exact xi_iret dX12_filled_167 rfl rfl (Nat.le_of_ble_eq_true rfl) (Nat.le_of_ble_eq_true rfl) ⟨_, rfl, hq, rfl⟩
      · rw [if_pos c18] at hq
        refine xi_iload_n 1 dX12_filled_162 rfl ?_
        refine xi_goto (tgt := 167) dX12_filled_163 (by decide) ?_
        exact xi_iret dX12_filled_167 rfl rfl (Nat.le_of_ble_eq_true rfl) (Nat.le_of_ble_eq_true rfl) ⟨_, rfl, hq, rfl⟩
    · rw [if_neg c3] at hq
      refine xi_bipush (v := (-2)) dX12_filled_13 (by decide) ?_
      exact xi_iret dX12_filled_15 rfl rfl (Nat.le_of_ble_eq_true rfl) (Nat.le_of_ble_eq_true rfl) ⟨_, rfl, hq, rfl⟩
