/-! the reference, on (printed by wip/p2/gen13.py) -/
theorem point_in {g : Nat → Int32} {x y : Int32} (h : ¬ FX12_isPoint g x y = 0) : ∃ e, e < 3 ∧ x = nI e := by
  unfold FX12_isPoint at h
  by_cases c : FX12_isNet g x = 0
  · rw [if_pos c] at h
    exact absurd rfl h
  · exact net_in c
theorem point_in2 {g : Nat → Int32} (hG : GO g) {x y : Int32} (h : ¬ FX12_isPoint g x y = 0) : ∃ q, q < (g (91 * x.toNatClampNeg)).toNatClampNeg ∧ y = nI q := by
  obtain ⟨e, he, rfl⟩ := point_in h
  rw [nI_clamp (by omega)]
  unfold FX12_isPoint at h
  by_cases c : FX12_isNet g (nI e) = 0
  · rw [if_pos c] at h
    exact absurd rfl h
  · rw [if_neg c, nI_clamp (by omega)] at h
    by_cases c2 : FX12_in y.toInt64 0 (nI (g (91 * e)).toNatClampNeg - 1).toInt64 = 0
    · rw [if_pos c2] at h
      exact absurd rfl h
    · have h1 := (in_iff _ _ _).mp c2
      have hb := (hG e he).1.2
      rw [Int32.toInt_toInt64, Int32.toInt_toInt64] at h1
      have e0 : (0 : Int64).toInt = 0 := by decide
      have e4 : (0 : Int32).toInt = 0 := by decide
      have h0 : ¬ y < 0 := fun q => by
        rw [Int32.lt_iff_toInt_lt] at q
        omega
      obtain ⟨j, hj, rfl⟩ := nI_of h0
      rw [nI_toInt hj, show (nI (g (91 * e)).toNatClampNeg - 1 : Int32) = nI (g (91 * e)).toNatClampNeg - nI 1 from rfl, pk_sub_toInt (by omega) (by omega)] at h1
      exact ⟨j, by omega, rfl⟩
theorem place_step {g : Nat → Int32} {b v t p : Nat} (hp : p < 9) (h1 : v ≤ t) (h3 : g (b + t) = nI p) (h : ¬ (g (b + v)).toNatClampNeg = p) : v + 1 ≤ t := by
  rcases Nat.lt_or_ge v t with q | q
  · omega
  · have e : t = v := by omega
    subst e
    rw [h3, nI_clamp (by omega)] at h
    exact absurd rfl h
def FX12_near (f_state : Nat → Int32) (x : Int32) (y : Int32) : Int32 := (if (FX12_isPoint f_state x y) = (0 : Int32) then (-2 : Int32) else (FX12_nearOf f_state x.toNatClampNeg y.toNatClampNeg))
set_option maxHeartbeats 4000000 in
set_option maxRecDepth 100000 in
theorem FX12_near_ok (G : xG) {P R : xMem} {L : Nat} (hP : P.length = L) (i_keptMany : Nat) (i_taped : Nat) (i_faultKind : Int32) (i_faultPlace : Int32) (i_spot : Nat) (i_begin : Nat) (i_token : Int32) (i_value : Int32) (i_bad : Int32) (i_full : Nat) (i_bandRows : Int32) (i_bandFirsts : Int32) (i_outs : Nat) (f_state : Nat → Int32) (f_was : Nat → Int32) (f_kept : Nat → Int32) (f_tape : Nat → Int32) (f_order : Nat → Int32) (f_rest : Nat → Int32) (f_ways : Nat → Int32) (f_costs : Nat → Int32) (f_bandBest : Nat → Int32) (f_found : Nat → Int32) (f_drawn : Nat → Int32) (f_joined : Nat → Int32) (f_out : Nat → Int32) (bi_keptMany : i_keptMany ≤ 10) (bi_taped : i_taped ≤ 400) (bi_spot : i_spot ≤ 400) (bi_begin : i_begin ≤ 400) (bi_full : i_full ≤ 511) (bi_outs : i_outs ≤ 400) (hG : GO f_state) (hR : RO f_order) (x : Int32) (y : Int32) (M : xMem) (hM : M = (P ++ (MDL L i_keptMany i_taped i_faultKind i_faultPlace i_spot i_begin i_token i_value i_bad i_full i_bandRows i_bandFirsts i_outs f_state f_was f_kept f_tape f_order f_rest f_ways f_costs f_bandBest f_found f_drawn f_joined f_out ++ R))) (Q : Int32 → Prop) (hq : Q (FX12_near f_state x y)) : xC G mX12_near 4 0 0 [.ref L, .int x, .int y] M (fun v M2 => ∃ o : Int32, v = some (.int o) ∧ Q o ∧ M2 = (P ++ (MDL L i_keptMany i_taped i_faultKind i_faultPlace i_spot i_begin i_token i_value i_bad i_full i_bandRows i_bandFirsts i_outs f_state f_was f_kept f_tape f_order f_rest f_ways f_costs f_bandBest f_found f_drawn f_joined f_out ++ R))) := by
  subst hM
  unfold FX12_near at hq
  refine xC.of (by decide) (Nat.le_of_ble_eq_true rfl) ?_
  show xW _ _ _ _ 0 [(0, .ref L), (1, .int x), (2, .int y)] [] _ 0 0
  refine xi_aload_n 0 dX12_near_0 rfl ?_
  refine xi_iload_n 1 dX12_near_1 rfl ?_
  refine xi_iload_n 2 dX12_near_2 rfl ?_
  refine xi_callV (as := [.int x, .int y]) (rest := []) dX12_near_3 (FX12_isPoint_ok G hP i_keptMany i_taped i_faultKind i_faultPlace i_spot i_begin i_token i_value i_bad i_full i_bandRows i_bandFirsts i_outs f_state f_was f_kept f_tape f_order f_rest f_ways f_costs f_bandBest f_found f_drawn f_joined f_out (by omega) (by omega) (by omega) (by omega) (by omega) (by omega) hG hR x y _ rfl (fun r => r = FX12_isPoint f_state x y) rfl) mkX12_isPoint w_1257 ws_63 w_1255 (xpg0 hP rfl) rfl rfl rfl rfl (Nat.le_of_ble_eq_true rfl) (Nat.le_of_ble_eq_true rfl) (Nat.le_of_ble_eq_true rfl) (Nat.le_of_ble_eq_true rfl) (Nat.le_of_ble_eq_true rfl) ?_
  intro v M2 hz
  obtain ⟨_, rfl, rfl, rfl⟩ := hz
  show xW _ _ _ _ 6 _ [.int (FX12_isPoint f_state x y)] (P ++ (MDL L i_keptMany i_taped i_faultKind i_faultPlace i_spot i_begin i_token i_value i_bad i_full i_bandRows i_bandFirsts i_outs f_state f_was f_kept f_tape f_order f_rest f_ways f_costs f_bandBest f_found f_drawn f_joined f_out ++ R)) _ _
  refine xi_if_eq (tgt := 18) dX12_near_6 (by decide) (fun c1 => ?_) (fun c1 => ?_)
  · rw [if_pos c1] at hq
    refine xi_bipush (v := (-2)) dX12_near_18 (by decide) ?_
    exact xi_iret dX12_near_20 rfl rfl (Nat.le_of_ble_eq_true rfl) (Nat.le_of_ble_eq_true rfl) ⟨_, rfl, hq, rfl⟩
  · rw [if_neg c1] at hq
    obtain ⟨e2, e2b, e2h⟩ := point_in c1
    have e2c : x.toNatClampNeg = e2 := by rw [e2h]; exact nI_clamp (by omega)
    try rw [e2c] at hq
    subst e2h
    have e2g := (hG e2 e2b).1.2
    obtain ⟨e3, e3b, e3h⟩ := point_in2 hG c1
    rw [nI_clamp (by omega)] at e3b
    have e3c : y.toNatClampNeg = e3 := by rw [e3h]; exact nI_clamp (by omega)
    try rw [e3c] at hq
    subst e3h
    refine xi_aload_n 0 dX12_near_9 rfl ?_
    refine xi_iload_n 1 dX12_near_10 rfl ?_
    refine xi_iload_n 2 dX12_near_11 rfl ?_
    refine xi_callV (as := [.int (nI e2), .int (nI e3)]) (rest := []) dX12_near_12 (FX12_nearOf_ok G hP i_keptMany i_taped i_faultKind i_faultPlace i_spot i_begin i_token i_value i_bad i_full i_bandRows i_bandFirsts i_outs f_state f_was f_kept f_tape f_order f_rest f_ways f_costs f_bandBest f_found f_drawn f_joined f_out (by omega) (by omega) (by omega) (by omega) (by omega) (by omega) hG hR e2 (by omega) e3 (by omega) _ rfl (fun r => r = FX12_nearOf f_state e2 e3) rfl) mkX12_nearOf w_1188 ws_52 w_1186 (xpg0 hP rfl) rfl rfl rfl rfl (Nat.le_of_ble_eq_true rfl) (Nat.le_of_ble_eq_true rfl) (Nat.le_of_ble_eq_true rfl) (Nat.le_of_ble_eq_true rfl) (Nat.le_of_ble_eq_true rfl) ?_
    intro v M2 hz
    obtain ⟨_, rfl, rfl, rfl⟩ := hz
    show xW _ _ _ _ 15 _ [.int (FX12_nearOf f_state e2 e3)] (P ++ (MDL L i_keptMany i_taped i_faultKind i_faultPlace i_spot i_begin i_token i_value i_bad i_full i_bandRows i_bandFirsts i_outs f_state f_was f_kept f_tape f_order f_rest f_ways f_costs f_bandBest f_found f_drawn f_joined f_out ++ R)) _ _
    refine xi_goto (tgt := 20) dX12_near_15 (by decide) ?_
    exact xi_iret dX12_near_20 rfl rfl (Nat.le_of_ble_eq_true rfl) (Nat.le_of_ble_eq_true rfl) ⟨_, rfl, hq, rfl⟩
def FX12_row (f_state : Nat → Int32) (x : Int32) (y : Int32) : Int32 := (if (FX12_isPoint f_state x y) = (0 : Int32) then (-2 : Int32) else (nI ((f_state (91 * x.toNatClampNeg + 82 + y.toNatClampNeg)).toNatClampNeg)))
set_option maxHeartbeats 4000000 in
set_option maxRecDepth 100000 in
theorem FX12_row_ok (G : xG) {P R : xMem} {L : Nat} (hP : P.length = L) (i_keptMany : Nat) (i_taped : Nat) (i_faultKind : Int32) (i_faultPlace : Int32) (i_spot : Nat) (i_begin : Nat) (i_token : Int32) (i_value : Int32) (i_bad : Int32) (i_full : Nat) (i_bandRows : Int32) (i_bandFirsts : Int32) (i_outs : Nat) (f_state : Nat → Int32) (f_was : Nat → Int32) (f_kept : Nat → Int32) (f_tape : Nat → Int32) (f_order : Nat → Int32) (f_rest : Nat → Int32) (f_ways : Nat → Int32) (f_costs : Nat → Int32) (f_bandBest : Nat → Int32) (f_found : Nat → Int32) (f_drawn : Nat → Int32) (f_joined : Nat → Int32) (f_out : Nat → Int32) (bi_keptMany : i_keptMany ≤ 10) (bi_taped : i_taped ≤ 400) (bi_spot : i_spot ≤ 400) (bi_begin : i_begin ≤ 400) (bi_full : i_full ≤ 511) (bi_outs : i_outs ≤ 400) (hG : GO f_state) (hR : RO f_order) (x : Int32) (y : Int32) (M : xMem) (hM : M = (P ++ (MDL L i_keptMany i_taped i_faultKind i_faultPlace i_spot i_begin i_token i_value i_bad i_full i_bandRows i_bandFirsts i_outs f_state f_was f_kept f_tape f_order f_rest f_ways f_costs f_bandBest f_found f_drawn f_joined f_out ++ R))) (Q : Int32 → Prop) (hq : Q (FX12_row f_state x y)) : xC G mX12_row 4 0 0 [.ref L, .int x, .int y] M (fun v M2 => ∃ o : Int32, v = some (.int o) ∧ Q o ∧ M2 = (P ++ (MDL L i_keptMany i_taped i_faultKind i_faultPlace i_spot i_begin i_token i_value i_bad i_full i_bandRows i_bandFirsts i_outs f_state f_was f_kept f_tape f_order f_rest f_ways f_costs f_bandBest f_found f_drawn f_joined f_out ++ R))) := by
  subst hM
  unfold FX12_row at hq
  refine xC.of (by decide) (Nat.le_of_ble_eq_true rfl) ?_
  show xW _ _ _ _ 0 [(0, .ref L), (1, .int x), (2, .int y)] [] _ 0 0
  refine xi_aload_n 0 dX12_row_0 rfl ?_
  refine xi_iload_n 1 dX12_row_1 rfl ?_
  refine xi_iload_n 2 dX12_row_2 rfl ?_
  refine xi_callV (as := [.int x, .int y]) (rest := []) dX12_row_3 (FX12_isPoint_ok G hP i_keptMany i_taped i_faultKind i_faultPlace i_spot i_begin i_token i_value i_bad i_full i_bandRows i_bandFirsts i_outs f_state f_was f_kept f_tape f_order f_rest f_ways f_costs f_bandBest f_found f_drawn f_joined f_out (by omega) (by omega) (by omega) (by omega) (by omega) (by omega) hG hR x y _ rfl (fun r => r = FX12_isPoint f_state x y) rfl) mkX12_isPoint w_1257 ws_63 w_1255 (xpg0 hP rfl) rfl rfl rfl rfl (Nat.le_of_ble_eq_true rfl) (Nat.le_of_ble_eq_true rfl) (Nat.le_of_ble_eq_true rfl) (Nat.le_of_ble_eq_true rfl) (Nat.le_of_ble_eq_true rfl) ?_
  intro v M2 hz
  obtain ⟨_, rfl, rfl, rfl⟩ := hz
  show xW _ _ _ _ 6 _ [.int (FX12_isPoint f_state x y)] (P ++ (MDL L i_keptMany i_taped i_faultKind i_faultPlace i_spot i_begin i_token i_value i_bad i_full i_bandRows i_bandFirsts i_outs f_state f_was f_kept f_tape f_order f_rest f_ways f_costs f_bandBest f_found f_drawn f_joined f_out ++ R)) _ _
  refine xi_if_eq (tgt := 18) dX12_row_6 (by decide) (fun c1 => ?_) (fun c1 => ?_)
  · rw [if_pos c1] at hq
    refine xi_bipush (v := (-2)) dX12_row_18 (by decide) ?_
    exact xi_iret dX12_row_20 rfl rfl (Nat.le_of_ble_eq_true rfl) (Nat.le_of_ble_eq_true rfl) ⟨_, rfl, hq, rfl⟩
  · rw [if_neg c1] at hq
    obtain ⟨e2, e2b, e2h⟩ := point_in c1
    have e2c : x.toNatClampNeg = e2 := by rw [e2h]; exact nI_clamp (by omega)
    try rw [e2c] at hq
    subst e2h
    have e2g := (hG e2 e2b).1.2
    obtain ⟨e3, e3b, e3h⟩ := point_in2 hG c1
    rw [nI_clamp (by omega)] at e3b
    have e3c : y.toNatClampNeg = e3 := by rw [e3h]; exact nI_clamp (by omega)
    try rw [e3c] at hq
    subst e3h
    refine xi_aload_n 0 dX12_row_9 rfl ?_
    refine xi_iload_n 1 dX12_row_10 rfl ?_
    refine xi_iload_n 2 dX12_row_11 rfl ?_
    refine xi_callV (as := [.int (nI e2), .int (nI e3)]) (rest := []) dX12_row_12 (FX12_at_ok G hP i_keptMany i_taped i_faultKind i_faultPlace i_spot i_begin i_token i_value i_bad i_full i_bandRows i_bandFirsts i_outs f_state f_was f_kept f_tape f_order f_rest f_ways f_costs f_bandBest f_found f_drawn f_joined f_out (by omega) (by omega) (by omega) (by omega) (by omega) (by omega) hG hR e2 (by omega) e3 (by omega) _ rfl (fun r => r = nI ((f_state (91 * e2 + 82 + e3)).toNatClampNeg)) (((hG e2 (by omega)).2.1 e3 (by omega)).1)) mkX12_at w_1273 ws_64 w_1271 (xpg0 hP rfl) rfl rfl rfl rfl (Nat.le_of_ble_eq_true rfl) (Nat.le_of_ble_eq_true rfl) (Nat.le_of_ble_eq_true rfl) (Nat.le_of_ble_eq_true rfl) (Nat.le_of_ble_eq_true rfl) ?_
    intro v M2 hz
    obtain ⟨_, rfl, rfl, rfl⟩ := hz
    show xW _ _ _ _ 15 _ [.int (nI ((f_state (91 * e2 + 82 + e3)).toNatClampNeg))] (P ++ (MDL L i_keptMany i_taped i_faultKind i_faultPlace i_spot i_begin i_token i_value i_bad i_full i_bandRows i_bandFirsts i_outs f_state f_was f_kept f_tape f_order f_rest f_ways f_costs f_bandBest f_found f_drawn f_joined f_out ++ R)) _ _
    have o4 := ((hG e2 (by omega)).2.1 e3 (by omega)).2
    refine xi_goto (tgt := 20) dX12_row_15 (by decide) ?_
    exact xi_iret dX12_row_20 rfl rfl (Nat.le_of_ble_eq_true rfl) (Nat.le_of_ble_eq_true rfl) ⟨_, rfl, hq, rfl⟩
def LX12_placeOf_2 (f_state : Nat → Int32) (n1 : Nat) (n2 : Nat) (K : Nat → Int32) : Nat → Nat → Int32
  | 0, v3 => K v3
  | k + 1, v3 => (if (nI ((f_state (91 * n1 + 82 + v3)).toNatClampNeg)) = (nI n2) then (K v3) else (LX12_placeOf_2 f_state n1 n2 K k (v3 + 1)))
set_option maxHeartbeats 4000000 in
set_option maxRecDepth 100000 in
theorem LX12_placeOf_2_s (G : xG) {P R : xMem} {L : Nat} (hP : P.length = L) (i_keptMany : Nat) (i_taped : Nat) (i_faultKind : Int32) (i_faultPlace : Int32) (i_spot : Nat) (i_begin : Nat) (i_token : Int32) (i_value : Int32) (i_bad : Int32) (i_full : Nat) (i_bandRows : Int32) (i_bandFirsts : Int32) (i_outs : Nat) (f_state : Nat → Int32) (f_was : Nat → Int32) (f_kept : Nat → Int32) (f_tape : Nat → Int32) (f_order : Nat → Int32) (f_rest : Nat → Int32) (f_ways : Nat → Int32) (f_costs : Nat → Int32) (f_bandBest : Nat → Int32) (f_found : Nat → Int32) (f_drawn : Nat → Int32) (f_joined : Nat → Int32) (f_out : Nat → Int32) (bi_keptMany : i_keptMany ≤ 10) (bi_taped : i_taped ≤ 400) (bi_spot : i_spot ≤ 400) (bi_begin : i_begin ≤ 400) (bi_full : i_full ≤ 511) (bi_outs : i_outs ≤ 400) (hG : GO f_state) (hR : RO f_order) (n1 : Nat) (bn1 : n1 < 3) (n2 : Nat) (bn2 : n2 < 9) (Q : Int32 → Prop) (K : Nat → Int32) (HE : ∀ (v3 : Nat) (hy : ∃ t, v3 ≤ t ∧ t < (f_state (91 * n1)).toNatClampNeg ∧ f_state (91 * n1 + 82 + t) = nI n2), Q (K v3) → xW G mX12_placeOf (xrm 1 0 0) (xQ G (fun v M2 => ∃ o : Int32, v = some (.int o) ∧ Q o ∧ M2 = (P ++ (MDL L i_keptMany i_taped i_faultKind i_faultPlace i_spot i_begin i_token i_value i_bad i_full i_bandRows i_bandFirsts i_outs f_state f_was f_kept f_tape f_order f_rest f_ways f_costs f_bandBest f_found f_drawn f_joined f_out ++ R))) 0 0) 18 [(3, .int (nI v3))] [] (P ++ (MDL L i_keptMany i_taped i_faultKind i_faultPlace i_spot i_begin i_token i_value i_bad i_full i_bandRows i_bandFirsts i_outs f_state f_was f_kept f_tape f_order f_rest f_ways f_costs f_bandBest f_found f_drawn f_joined f_out ++ R)) 0 0) :
    ∀ (k : Nat) (v3 : Nat), (f_state (91 * n1)).toNatClampNeg - v3 < k → (∃ t, v3 ≤ t ∧ t < (f_state (91 * n1)).toNatClampNeg ∧ f_state (91 * n1 + 82 + t) = nI n2) → Q (LX12_placeOf_2 f_state n1 n2 K k v3) → xW G mX12_placeOf (xrm 1 0 0) (xQ G (fun v M2 => ∃ o : Int32, v = some (.int o) ∧ Q o ∧ M2 = (P ++ (MDL L i_keptMany i_taped i_faultKind i_faultPlace i_spot i_begin i_token i_value i_bad i_full i_bandRows i_bandFirsts i_outs f_state f_was f_kept f_tape f_order f_rest f_ways f_costs f_bandBest f_found f_drawn f_joined f_out ++ R))) 0 0) 2 [(0, .ref L), (1, .int (nI n1)), (2, .int (nI n2)), (3, .int (nI v3))] [] (P ++ (MDL L i_keptMany i_taped i_faultKind i_faultPlace i_spot i_begin i_token i_value i_bad i_full i_bandRows i_bandFirsts i_outs f_state f_was f_kept f_tape f_order f_rest f_ways f_costs f_bandBest f_found f_drawn f_joined f_out ++ R)) 0 0 := by
  intro k
  induction k with
  | zero =>
    intro v3 hmu
    exact absurd hmu (Nat.not_lt_zero _)
  | succ k ih =>
    intro v3 hmu hy hq
    rw [LX12_placeOf_2] at hq
    obtain ⟨t, ht1, ht2, ht3⟩ := id hy
    have hg9 := (hG n1 (by omega)).1.2
    refine xi_aload_n 0 dX12_placeOf_2 rfl ?_
    refine xi_iload_n 1 dX12_placeOf_3 rfl ?_
    refine xi_iload_n 3 dX12_placeOf_4 rfl ?_
    refine xi_callV (as := [.int (nI n1), .int (nI v3)]) (rest := []) dX12_placeOf_5 (FX12_at_ok G hP i_keptMany i_taped i_faultKind i_faultPlace i_spot i_begin i_token i_value i_bad i_full i_bandRows i_bandFirsts i_outs f_state f_was f_kept f_tape f_order f_rest f_ways f_costs f_bandBest f_found f_drawn f_joined f_out (by omega) (by omega) (by omega) (by omega) (by omega) (by omega) hG hR n1 (by omega) v3 (by omega) _ rfl (fun r => r = nI ((f_state (91 * n1 + 82 + v3)).toNatClampNeg)) (((hG n1 (by omega)).2.1 v3 (by omega)).1)) mkX12_at w_1273 ws_64 w_1271 (xpg0 hP rfl) rfl rfl rfl rfl (Nat.le_of_ble_eq_true rfl) (Nat.le_of_ble_eq_true rfl) (Nat.le_of_ble_eq_true rfl) (Nat.le_of_ble_eq_true rfl) (Nat.le_of_ble_eq_true rfl) ?_
    intro v M2 hz
    obtain ⟨_, rfl, rfl, rfl⟩ := hz
    show xW _ _ _ _ 8 _ [.int (nI ((f_state (91 * n1 + 82 + v3)).toNatClampNeg))] (P ++ (MDL L i_keptMany i_taped i_faultKind i_faultPlace i_spot i_begin i_token i_value i_bad i_full i_bandRows i_bandFirsts i_outs f_state f_was f_kept f_tape f_order f_rest f_ways f_costs f_bandBest f_found f_drawn f_joined f_out ++ R)) _ _
    have o1 := ((hG n1 (by omega)).2.1 v3 (by omega)).2
    refine xi_iload_n 2 dX12_placeOf_8 rfl ?_
    refine xi_icmp_eq (tgt := 18) dX12_placeOf_9 (by decide) (fun c2 => ?_) (fun c2 => ?_)
    · rw [if_pos c2] at hq
      have c2n : ((f_state (91 * n1 + 82 + v3)).toNatClampNeg) = n2 := (nI_eq (a := ((f_state (91 * n1 + 82 + v3)).toNatClampNeg)) (b := n2) (by omega) (by omega)).mp c2
      refine xi_sub (lv' := [(3, .int (nI v3))]) [3] rfl ?_
      exact HE v3 (by first | exact hy | omega) hq
    · rw [if_neg c2] at hq
      have c2n : ¬ ((f_state (91 * n1 + 82 + v3)).toNatClampNeg) = n2 := fun e => c2 (congrArg nI e)
      refine xi_iinc (v := (nI (v3 + 1))) (lv' := [(3, .int (nI (v3 + 1))), (0, .ref L), (1, .int (nI n1)), (2, .int (nI n2))]) 3 dX12_placeOf_12 rfl (nI_1 _) (by decide) rfl ?_
      refine xi_goto (tgt := 2) dX12_placeOf_15 (by decide) ?_
      refine xi_sub (lv' := [(0, .ref L), (1, .int (nI n1)), (2, .int (nI n2)), (3, .int (nI (v3 + 1)))]) [1, 2, 3, 0] rfl ?_
      exact ih (v3 + 1) (by first | omega | exact ⟨t, place_step (by omega) ht1 ht3 (by assumption), ht2, ht3⟩) (by first | omega | exact ⟨t, place_step (by omega) ht1 ht3 (by assumption), ht2, ht3⟩) hq
def FX12_placeOf (f_state : Nat → Int32) (z : Nat) (p : Nat) : Int32 := (LX12_placeOf_2 f_state z p (fun u3 => (nI u3)) ((f_state (91 * z)).toNatClampNeg - 0 + 1) 0)
set_option maxHeartbeats 4000000 in
set_option maxRecDepth 100000 in
theorem FX12_placeOf_ok (G : xG) {P R : xMem} {L : Nat} (hP : P.length = L) (i_keptMany : Nat) (i_taped : Nat) (i_faultKind : Int32) (i_faultPlace : Int32) (i_spot : Nat) (i_begin : Nat) (i_token : Int32) (i_value : Int32) (i_bad : Int32) (i_full : Nat) (i_bandRows : Int32) (i_bandFirsts : Int32) (i_outs : Nat) (f_state : Nat → Int32) (f_was : Nat → Int32) (f_kept : Nat → Int32) (f_tape : Nat → Int32) (f_order : Nat → Int32) (f_rest : Nat → Int32) (f_ways : Nat → Int32) (f_costs : Nat → Int32) (f_bandBest : Nat → Int32) (f_found : Nat → Int32) (f_drawn : Nat → Int32) (f_joined : Nat → Int32) (f_out : Nat → Int32) (bi_keptMany : i_keptMany ≤ 10) (bi_taped : i_taped ≤ 400) (bi_spot : i_spot ≤ 400) (bi_begin : i_begin ≤ 400) (bi_full : i_full ≤ 511) (bi_outs : i_outs ≤ 400) (hG : GO f_state) (hR : RO f_order) (z : Nat) (bz : z < 3) (p : Nat) (bp : p < 9) (hpp : p < (f_state (91 * z)).toNatClampNeg) (M : xMem) (hM : M = (P ++ (MDL L i_keptMany i_taped i_faultKind i_faultPlace i_spot i_begin i_token i_value i_bad i_full i_bandRows i_bandFirsts i_outs f_state f_was f_kept f_tape f_order f_rest f_ways f_costs f_bandBest f_found f_drawn f_joined f_out ++ R))) (Q : Int32 → Prop) (hq : Q (FX12_placeOf f_state z p)) : xC G mX12_placeOf 1 0 0 [.ref L, .int (nI z), .int (nI p)] M (fun v M2 => ∃ o : Int32, v = some (.int o) ∧ Q o ∧ M2 = (P ++ (MDL L i_keptMany i_taped i_faultKind i_faultPlace i_spot i_begin i_token i_value i_bad i_full i_bandRows i_bandFirsts i_outs f_state f_was f_kept f_tape f_order f_rest f_ways f_costs f_bandBest f_found f_drawn f_joined f_out ++ R))) := by
  subst hM
  unfold FX12_placeOf at hq
  refine xC.of (by decide) (Nat.le_of_ble_eq_true rfl) ?_
  show xW _ _ _ _ 0 [(0, .ref L), (1, .int (nI z)), (2, .int (nI p))] [] _ 0 0
  refine xi_iconst (v := 0) dX12_placeOf_0 (by decide) ?_
  refine xi_istore_n (lv' := [(3, .int 0), (0, .ref L), (1, .int (nI z)), (2, .int (nI p))]) dX12_placeOf_1 (by decide) rfl ?_
  refine xi_sub (lv' := [(0, .ref L), (1, .int (nI z)), (2, .int (nI p)), (3, .int 0)]) [1, 2, 3, 0] rfl ?_
  refine LX12_placeOf_2_s G hP i_keptMany i_taped i_faultKind i_faultPlace i_spot i_begin i_token i_value i_bad i_full i_bandRows i_bandFirsts i_outs f_state f_was f_kept f_tape f_order f_rest f_ways f_costs f_bandBest f_found f_drawn f_joined f_out (by omega) (by omega) (by omega) (by omega) (by omega) (by omega) hG hR z (by omega) p (by omega) Q _ (fun u3 hy2 hq => ?_) ((f_state (91 * z)).toNatClampNeg - 0 + 1) 0 (Nat.lt_succ_self _) (by obtain ⟨i, h1, h2⟩ := (hG z (by omega)).2.2 p hpp; exact ⟨i, Nat.zero_le _, h1, h2⟩) hq
  refine xi_iload_n 0 dX12_placeOf_18 rfl ?_
  exact xi_iret dX12_placeOf_19 rfl rfl (Nat.le_of_ble_eq_true rfl) (Nat.le_of_ble_eq_true rfl) ⟨_, rfl, hq, rfl⟩
theorem pow_le {n : Nat} (h : n ≤ 9) : 2 ^ n ≤ 512 := by
  have : n = 0 ∨ n = 1 ∨ n = 2 ∨ n = 3 ∨ n = 4 ∨ n = 5 ∨ n = 6 ∨ n = 7 ∨ n = 8 ∨ n = 9 := by omega
  rcases this with rfl | rfl | rfl | rfl | rfl | rfl | rfl | rfl | rfl | rfl <;> decide
theorem pow_pos {n : Nat} : 1 ≤ 2 ^ n := Nat.one_le_two_pow
theorem pow_nI {n : Nat} (h : n ≤ 9) : (1 : Int32) <<< (nI n &&& 31) = nI (2 ^ n) := by
  have : n = 0 ∨ n = 1 ∨ n = 2 ∨ n = 3 ∨ n = 4 ∨ n = 5 ∨ n = 6 ∨ n = 7 ∨ n = 8 ∨ n = 9 := by omega
  rcases this with rfl | rfl | rfl | rfl | rfl | rfl | rfl | rfl | rfl | rfl <;> decide
def FX12_line (f_state : Nat → Int32) (x : Int32) (y : Int32) (t : Int32) : Int32 := (if (FX12_isPoint f_state x y) = (0 : Int32) then (-2 : Int32) else (if (FX12_isPoint f_state ((nI x.toNatClampNeg)) t) = (0 : Int32) then (-2 : Int32) else (FX12_weight f_state x.toNatClampNeg y.toNatClampNeg t.toNatClampNeg)))
set_option maxHeartbeats 4000000 in
set_option maxRecDepth 100000 in
theorem FX12_line_ok (G : xG) {P R : xMem} {L : Nat} (hP : P.length = L) (i_keptMany : Nat) (i_taped : Nat) (i_faultKind : Int32) (i_faultPlace : Int32) (i_spot : Nat) (i_begin : Nat) (i_token : Int32) (i_value : Int32) (i_bad : Int32) (i_full : Nat) (i_bandRows : Int32) (i_bandFirsts : Int32) (i_outs : Nat) (f_state : Nat → Int32) (f_was : Nat → Int32) (f_kept : Nat → Int32) (f_tape : Nat → Int32) (f_order : Nat → Int32) (f_rest : Nat → Int32) (f_ways : Nat → Int32) (f_costs : Nat → Int32) (f_bandBest : Nat → Int32) (f_found : Nat → Int32) (f_drawn : Nat → Int32) (f_joined : Nat → Int32) (f_out : Nat → Int32) (bi_keptMany : i_keptMany ≤ 10) (bi_taped : i_taped ≤ 400) (bi_spot : i_spot ≤ 400) (bi_begin : i_begin ≤ 400) (bi_full : i_full ≤ 511) (bi_outs : i_outs ≤ 400) (hG : GO f_state) (hR : RO f_order) (x : Int32) (y : Int32) (t : Int32) (M : xMem) (hM : M = (P ++ (MDL L i_keptMany i_taped i_faultKind i_faultPlace i_spot i_begin i_token i_value i_bad i_full i_bandRows i_bandFirsts i_outs f_state f_was f_kept f_tape f_order f_rest f_ways f_costs f_bandBest f_found f_drawn f_joined f_out ++ R))) (Q : Int32 → Prop) (hq : Q (FX12_line f_state x y t)) : xC G mX12_line 4 0 0 [.ref L, .int x, .int y, .int t] M (fun v M2 => ∃ o : Int32, v = some (.int o) ∧ Q o ∧ M2 = (P ++ (MDL L i_keptMany i_taped i_faultKind i_faultPlace i_spot i_begin i_token i_value i_bad i_full i_bandRows i_bandFirsts i_outs f_state f_was f_kept f_tape f_order f_rest f_ways f_costs f_bandBest f_found f_drawn f_joined f_out ++ R))) := by
  subst hM
  unfold FX12_line at hq
  refine xC.of (by decide) (Nat.le_of_ble_eq_true rfl) ?_
  show xW _ _ _ _ 0 [(0, .ref L), (1, .int x), (2, .int y), (3, .int t)] [] _ 0 0
  refine xi_aload_n 0 dX12_line_0 rfl ?_
  refine xi_iload_n 1 dX12_line_1 rfl ?_
  refine xi_iload_n 2 dX12_line_2 rfl ?_
  refine xi_callV (as := [.int x, .int y]) (rest := []) dX12_line_3 (FX12_isPoint_ok G hP i_keptMany i_taped i_faultKind i_faultPlace i_spot i_begin i_token i_value i_bad i_full i_bandRows i_bandFirsts i_outs f_state f_was f_kept f_tape f_order f_rest f_ways f_costs f_bandBest f_found f_drawn f_joined f_out (by omega) (by omega) (by omega) (by omega) (by omega) (by omega) hG hR x y _ rfl (fun r => r = FX12_isPoint f_state x y) rfl) mkX12_isPoint w_1257 ws_63 w_1255 (xpg0 hP rfl) rfl rfl rfl rfl (Nat.le_of_ble_eq_true rfl) (Nat.le_of_ble_eq_true rfl) (Nat.le_of_ble_eq_true rfl) (Nat.le_of_ble_eq_true rfl) (Nat.le_of_ble_eq_true rfl) ?_
  intro v M2 hz
  obtain ⟨_, rfl, rfl, rfl⟩ := hz
  show xW _ _ _ _ 6 _ [.int (FX12_isPoint f_state x y)] (P ++ (MDL L i_keptMany i_taped i_faultKind i_faultPlace i_spot i_begin i_token i_value i_bad i_full i_bandRows i_bandFirsts i_outs f_state f_was f_kept f_tape f_order f_rest f_ways f_costs f_bandBest f_found f_drawn f_joined f_out ++ R)) _ _
  refine xi_if_eq (tgt := 28) dX12_line_6 (by decide) (fun c1 => ?_) (fun c1 => ?_)
  · rw [if_pos c1] at hq
    refine xi_bipush (v := (-2)) dX12_line_28 (by decide) ?_
    exact xi_iret dX12_line_30 rfl rfl (Nat.le_of_ble_eq_true rfl) (Nat.le_of_ble_eq_true rfl) ⟨_, rfl, hq, rfl⟩
  · rw [if_neg c1] at hq
    obtain ⟨e2, e2b, e2h⟩ := point_in c1
    have e2c : x.toNatClampNeg = e2 := by rw [e2h]; exact nI_clamp (by omega)
    try rw [e2c] at hq
    subst e2h
    have e2g := (hG e2 e2b).1.2
    obtain ⟨e3, e3b, e3h⟩ := point_in2 hG c1
    rw [nI_clamp (by omega)] at e3b
    have e3c : y.toNatClampNeg = e3 := by rw [e3h]; exact nI_clamp (by omega)
    try rw [e3c] at hq
    subst e3h
    refine xi_aload_n 0 dX12_line_9 rfl ?_
    refine xi_iload_n 1 dX12_line_10 rfl ?_
    refine xi_iload_n 3 dX12_line_11 rfl ?_
    refine xi_callV (as := [.int (nI e2), .int t]) (rest := []) dX12_line_12 (FX12_isPoint_ok G hP i_keptMany i_taped i_faultKind i_faultPlace i_spot i_begin i_token i_value i_bad i_full i_bandRows i_bandFirsts i_outs f_state f_was f_kept f_tape f_order f_rest f_ways f_costs f_bandBest f_found f_drawn f_joined f_out (by omega) (by omega) (by omega) (by omega) (by omega) (by omega) hG hR ((nI e2)) t _ rfl (fun r => r = FX12_isPoint f_state ((nI e2)) t) rfl) mkX12_isPoint w_1257 ws_63 w_1255 (xpg0 hP rfl) rfl rfl rfl rfl (Nat.le_of_ble_eq_true rfl) (Nat.le_of_ble_eq_true rfl) (Nat.le_of_ble_eq_true rfl) (Nat.le_of_ble_eq_true rfl) (Nat.le_of_ble_eq_true rfl) ?_
    intro v M2 hz
    obtain ⟨_, rfl, rfl, rfl⟩ := hz
    show xW _ _ _ _ 15 _ [.int (FX12_isPoint f_state ((nI e2)) t)] (P ++ (MDL L i_keptMany i_taped i_faultKind i_faultPlace i_spot i_begin i_token i_value i_bad i_full i_bandRows i_bandFirsts i_outs f_state f_was f_kept f_tape f_order f_rest f_ways f_costs f_bandBest f_found f_drawn f_joined f_out ++ R)) _ _
    refine xi_if_eq (tgt := 28) dX12_line_15 (by decide) (fun c4 => ?_) (fun c4 => ?_)
    · rw [if_pos c4] at hq
      refine xi_bipush (v := (-2)) dX12_line_28 (by decide) ?_
      exact xi_iret dX12_line_30 rfl rfl (Nat.le_of_ble_eq_true rfl) (Nat.le_of_ble_eq_true rfl) ⟨_, rfl, hq, rfl⟩
    · rw [if_neg c4] at hq
      obtain ⟨e5, e5b, e5h⟩ := point_in2 hG c4
      rw [nI_clamp (by omega)] at e5b
      have e5c : t.toNatClampNeg = e5 := by rw [e5h]; exact nI_clamp (by omega)
      try rw [e5c] at hq
      subst e5h
      refine xi_aload_n 0 dX12_line_18 rfl ?_
      refine xi_iload_n 1 dX12_line_19 rfl ?_
      refine xi_iload_n 2 dX12_line_20 rfl ?_
      refine xi_iload_n 3 dX12_line_21 rfl ?_
      refine xi_callV (as := [.int (nI e2), .int (nI e3), .int (nI e5)]) (rest := []) dX12_line_22 (FX12_weight_ok G hP i_keptMany i_taped i_faultKind i_faultPlace i_spot i_begin i_token i_value i_bad i_full i_bandRows i_bandFirsts i_outs f_state f_was f_kept f_tape f_order f_rest f_ways f_costs f_bandBest f_found f_drawn f_joined f_out (by omega) (by omega) (by omega) (by omega) (by omega) (by omega) hG hR e2 (by omega) e3 (by omega) e5 (by omega) _ rfl (fun r => r = FX12_weight f_state e2 e3 e5) rfl) mkX12_weight w_1192 ws_53 w_1190 (xpg0 hP rfl) rfl rfl rfl rfl (Nat.le_of_ble_eq_true rfl) (Nat.le_of_ble_eq_true rfl) (Nat.le_of_ble_eq_true rfl) (Nat.le_of_ble_eq_true rfl) (Nat.le_of_ble_eq_true rfl) ?_
      intro v M2 hz
      obtain ⟨_, rfl, rfl, rfl⟩ := hz
      show xW _ _ _ _ 25 _ [.int (FX12_weight f_state e2 e3 e5)] (P ++ (MDL L i_keptMany i_taped i_faultKind i_faultPlace i_spot i_begin i_token i_value i_bad i_full i_bandRows i_bandFirsts i_outs f_state f_was f_kept f_tape f_order f_rest f_ways f_costs f_bandBest f_found f_drawn f_joined f_out ++ R)) _ _
      refine xi_goto (tgt := 30) dX12_line_25 (by decide) ?_
      exact xi_iret dX12_line_30 rfl rfl (Nat.le_of_ble_eq_true rfl) (Nat.le_of_ble_eq_true rfl) ⟨_, rfl, hq, rfl⟩
def FX12_far (f_state : Nat → Int32) (x : Int32) (y : Int32) (t : Int32) : Int32 := (if (FX12_isPoint f_state x y) = (0 : Int32) then (-2 : Int32) else (if (FX12_isPoint f_state ((nI x.toNatClampNeg)) t) = (0 : Int32) then (-2 : Int32) else (FX12_farOf f_state x.toNatClampNeg ((nI y.toNatClampNeg)) ((nI t.toNatClampNeg)))))
set_option maxHeartbeats 4000000 in
set_option maxRecDepth 100000 in
theorem FX12_far_ok (G : xG) {P R : xMem} {L : Nat} (hP : P.length = L) (i_keptMany : Nat) (i_taped : Nat) (i_faultKind : Int32) (i_faultPlace : Int32) (i_spot : Nat) (i_begin : Nat) (i_token : Int32) (i_value : Int32) (i_bad : Int32) (i_full : Nat) (i_bandRows : Int32) (i_bandFirsts : Int32) (i_outs : Nat) (f_state : Nat → Int32) (f_was : Nat → Int32) (f_kept : Nat → Int32) (f_tape : Nat → Int32) (f_order : Nat → Int32) (f_rest : Nat → Int32) (f_ways : Nat → Int32) (f_costs : Nat → Int32) (f_bandBest : Nat → Int32) (f_found : Nat → Int32) (f_drawn : Nat → Int32) (f_joined : Nat → Int32) (f_out : Nat → Int32) (bi_keptMany : i_keptMany ≤ 10) (bi_taped : i_taped ≤ 400) (bi_spot : i_spot ≤ 400) (bi_begin : i_begin ≤ 400) (bi_full : i_full ≤ 511) (bi_outs : i_outs ≤ 400) (hG : GO f_state) (hR : RO f_order) (x : Int32) (y : Int32) (t : Int32) (M : xMem) (hM : M = (P ++ (MDL L i_keptMany i_taped i_faultKind i_faultPlace i_spot i_begin i_token i_value i_bad i_full i_bandRows i_bandFirsts i_outs f_state f_was f_kept f_tape f_order f_rest f_ways f_costs f_bandBest f_found f_drawn f_joined f_out ++ R))) (Q : Int32 → Prop) (hq : Q (FX12_far f_state x y t)) : xC G mX12_far 4 0 0 [.ref L, .int x, .int y, .int t] M (fun v M2 => ∃ o : Int32, v = some (.int o) ∧ Q o ∧ M2 = (P ++ (MDL L i_keptMany i_taped i_faultKind i_faultPlace i_spot i_begin i_token i_value i_bad i_full i_bandRows i_bandFirsts i_outs f_state f_was f_kept f_tape f_order f_rest f_ways f_costs f_bandBest f_found f_drawn f_joined f_out ++ R))) := by
  subst hM
  unfold FX12_far at hq
  refine xC.of (by decide) (Nat.le_of_ble_eq_true rfl) ?_
  show xW _ _ _ _ 0 [(0, .ref L), (1, .int x), (2, .int y), (3, .int t)] [] _ 0 0
  refine xi_aload_n 0 dX12_far_0 rfl ?_
  refine xi_iload_n 1 dX12_far_1 rfl ?_
  refine xi_iload_n 2 dX12_far_2 rfl ?_
  refine xi_callV (as := [.int x, .int y]) (rest := []) dX12_far_3 (FX12_isPoint_ok G hP i_keptMany i_taped i_faultKind i_faultPlace i_spot i_begin i_token i_value i_bad i_full i_bandRows i_bandFirsts i_outs f_state f_was f_kept f_tape f_order f_rest f_ways f_costs f_bandBest f_found f_drawn f_joined f_out (by omega) (by omega) (by omega) (by omega) (by omega) (by omega) hG hR x y _ rfl (fun r => r = FX12_isPoint f_state x y) rfl) mkX12_isPoint w_1257 ws_63 w_1255 (xpg0 hP rfl) rfl rfl rfl rfl (Nat.le_of_ble_eq_true rfl) (Nat.le_of_ble_eq_true rfl) (Nat.le_of_ble_eq_true rfl) (Nat.le_of_ble_eq_true rfl) (Nat.le_of_ble_eq_true rfl) ?_
  intro v M2 hz
  obtain ⟨_, rfl, rfl, rfl⟩ := hz
  show xW _ _ _ _ 6 _ [.int (FX12_isPoint f_state x y)] (P ++ (MDL L i_keptMany i_taped i_faultKind i_faultPlace i_spot i_begin i_token i_value i_bad i_full i_bandRows i_bandFirsts i_outs f_state f_was f_kept f_tape f_order f_rest f_ways f_costs f_bandBest f_found f_drawn f_joined f_out ++ R)) _ _
  refine xi_if_eq (tgt := 28) dX12_far_6 (by decide) (fun c1 => ?_) (fun c1 => ?_)
  · rw [if_pos c1] at hq
    refine xi_bipush (v := (-2)) dX12_far_28 (by decide) ?_
    exact xi_iret dX12_far_30 rfl rfl (Nat.le_of_ble_eq_true rfl) (Nat.le_of_ble_eq_true rfl) ⟨_, rfl, hq, rfl⟩
  · rw [if_neg c1] at hq
    obtain ⟨e2, e2b, e2h⟩ := point_in c1
    have e2c : x.toNatClampNeg = e2 := by rw [e2h]; exact nI_clamp (by omega)
    try rw [e2c] at hq
    subst e2h
    have e2g := (hG e2 e2b).1.2
    obtain ⟨e3, e3b, e3h⟩ := point_in2 hG c1
    rw [nI_clamp (by omega)] at e3b
    have e3c : y.toNatClampNeg = e3 := by rw [e3h]; exact nI_clamp (by omega)
    try rw [e3c] at hq
    subst e3h
    refine xi_aload_n 0 dX12_far_9 rfl ?_
    refine xi_iload_n 1 dX12_far_10 rfl ?_
    refine xi_iload_n 3 dX12_far_11 rfl ?_
    refine xi_callV (as := [.int (nI e2), .int t]) (rest := []) dX12_far_12 (FX12_isPoint_ok G hP i_keptMany i_taped i_faultKind i_faultPlace i_spot i_begin i_token i_value i_bad i_full i_bandRows i_bandFirsts i_outs f_state f_was f_kept f_tape f_order f_rest f_ways f_costs f_bandBest f_found f_drawn f_joined f_out (by omega) (by omega) (by omega) (by omega) (by omega) (by omega) hG hR ((nI e2)) t _ rfl (fun r => r = FX12_isPoint f_state ((nI e2)) t) rfl) mkX12_isPoint w_1257 ws_63 w_1255 (xpg0 hP rfl) rfl rfl rfl rfl (Nat.le_of_ble_eq_true rfl) (Nat.le_of_ble_eq_true rfl) (Nat.le_of_ble_eq_true rfl) (Nat.le_of_ble_eq_true rfl) (Nat.le_of_ble_eq_true rfl) ?_
    intro v M2 hz
    obtain ⟨_, rfl, rfl, rfl⟩ := hz
    show xW _ _ _ _ 15 _ [.int (FX12_isPoint f_state ((nI e2)) t)] (P ++ (MDL L i_keptMany i_taped i_faultKind i_faultPlace i_spot i_begin i_token i_value i_bad i_full i_bandRows i_bandFirsts i_outs f_state f_was f_kept f_tape f_order f_rest f_ways f_costs f_bandBest f_found f_drawn f_joined f_out ++ R)) _ _
    refine xi_if_eq (tgt := 28) dX12_far_15 (by decide) (fun c4 => ?_) (fun c4 => ?_)
    · rw [if_pos c4] at hq
      refine xi_bipush (v := (-2)) dX12_far_28 (by decide) ?_
      exact xi_iret dX12_far_30 rfl rfl (Nat.le_of_ble_eq_true rfl) (Nat.le_of_ble_eq_true rfl) ⟨_, rfl, hq, rfl⟩
    · rw [if_neg c4] at hq
      obtain ⟨e5, e5b, e5h⟩ := point_in2 hG c4
      rw [nI_clamp (by omega)] at e5b
      have e5c : t.toNatClampNeg = e5 := by rw [e5h]; exact nI_clamp (by omega)
      try rw [e5c] at hq
      subst e5h
      refine xi_aload_n 0 dX12_far_18 rfl ?_
      refine xi_iload_n 1 dX12_far_19 rfl ?_
      refine xi_iload_n 2 dX12_far_20 rfl ?_
      refine xi_iload_n 3 dX12_far_21 rfl ?_
      refine xi_callV (as := [.int (nI e2), .int (nI e3), .int (nI e5)]) (rest := []) dX12_far_22 (FX12_farOf_ok G hP i_keptMany i_taped i_faultKind i_faultPlace i_spot i_begin i_token i_value i_bad i_full i_bandRows i_bandFirsts i_outs f_state f_was f_kept f_tape f_order f_rest f_ways f_costs f_bandBest f_found f_drawn f_joined f_out (by omega) (by omega) (by omega) (by omega) (by omega) (by omega) hG hR e2 (by omega) ((nI e3)) ((nI e5)) _ rfl (fun r => r = FX12_farOf f_state e2 ((nI e3)) ((nI e5))) rfl) mkX12_farOf w_1241 ws_60 w_1239 (xpg0 hP rfl) rfl rfl rfl rfl (Nat.le_of_ble_eq_true rfl) (Nat.le_of_ble_eq_true rfl) (Nat.le_of_ble_eq_true rfl) (Nat.le_of_ble_eq_true rfl) (Nat.le_of_ble_eq_true rfl) ?_
      intro v M2 hz
      obtain ⟨_, rfl, rfl, rfl⟩ := hz
      show xW _ _ _ _ 25 _ [.int (FX12_farOf f_state e2 ((nI e3)) ((nI e5)))] (P ++ (MDL L i_keptMany i_taped i_faultKind i_faultPlace i_spot i_begin i_token i_value i_bad i_full i_bandRows i_bandFirsts i_outs f_state f_was f_kept f_tape f_order f_rest f_ways f_costs f_bandBest f_found f_drawn f_joined f_out ++ R)) _ _
      refine xi_goto (tgt := 30) dX12_far_25 (by decide) ?_
      exact xi_iret dX12_far_30 rfl rfl (Nat.le_of_ble_eq_true rfl) (Nat.le_of_ble_eq_true rfl) ⟨_, rfl, hq, rfl⟩
def FX12_place (f_state : Nat → Int32) (x : Int32) (y : Int32) : Int32 := (if (FX12_isPoint f_state x y) = (0 : Int32) then (-2 : Int32) else (FX12_placeOf f_state x.toNatClampNeg y.toNatClampNeg))
set_option maxHeartbeats 4000000 in
set_option maxRecDepth 100000 in
theorem FX12_place_ok (G : xG) {P R : xMem} {L : Nat} (hP : P.length = L) (i_keptMany : Nat) (i_taped : Nat) (i_faultKind : Int32) (i_faultPlace : Int32) (i_spot : Nat) (i_begin : Nat) (i_token : Int32) (i_value : Int32) (i_bad : Int32) (i_full : Nat) (i_bandRows : Int32) (i_bandFirsts : Int32) (i_outs : Nat) (f_state : Nat → Int32) (f_was : Nat → Int32) (f_kept : Nat → Int32) (f_tape : Nat → Int32) (f_order : Nat → Int32) (f_rest : Nat → Int32) (f_ways : Nat → Int32) (f_costs : Nat → Int32) (f_bandBest : Nat → Int32) (f_found : Nat → Int32) (f_drawn : Nat → Int32) (f_joined : Nat → Int32) (f_out : Nat → Int32) (bi_keptMany : i_keptMany ≤ 10) (bi_taped : i_taped ≤ 400) (bi_spot : i_spot ≤ 400) (bi_begin : i_begin ≤ 400) (bi_full : i_full ≤ 511) (bi_outs : i_outs ≤ 400) (hG : GO f_state) (hR : RO f_order) (x : Int32) (y : Int32) (M : xMem) (hM : M = (P ++ (MDL L i_keptMany i_taped i_faultKind i_faultPlace i_spot i_begin i_token i_value i_bad i_full i_bandRows i_bandFirsts i_outs f_state f_was f_kept f_tape f_order f_rest f_ways f_costs f_bandBest f_found f_drawn f_joined f_out ++ R))) (Q : Int32 → Prop) (hq : Q (FX12_place f_state x y)) : xC G mX12_place 4 0 0 [.ref L, .int x, .int y] M (fun v M2 => ∃ o : Int32, v = some (.int o) ∧ Q o ∧ M2 = (P ++ (MDL L i_keptMany i_taped i_faultKind i_faultPlace i_spot i_begin i_token i_value i_bad i_full i_bandRows i_bandFirsts i_outs f_state f_was f_kept f_tape f_order f_rest f_ways f_costs f_bandBest f_found f_drawn f_joined f_out ++ R))) := by
  subst hM
  unfold FX12_place at hq
  refine xC.of (by decide) (Nat.le_of_ble_eq_true rfl) ?_
  show xW _ _ _ _ 0 [(0, .ref L), (1, .int x), (2, .int y)] [] _ 0 0
  refine xi_aload_n 0 dX12_place_0 rfl ?_
  refine xi_iload_n 1 dX12_place_1 rfl ?_
  refine xi_iload_n 2 dX12_place_2 rfl ?_
  refine xi_callV (as := [.int x, .int y]) (rest := []) dX12_place_3 (FX12_isPoint_ok G hP i_keptMany i_taped i_faultKind i_faultPlace i_spot i_begin i_token i_value i_bad i_full i_bandRows i_bandFirsts i_outs f_state f_was f_kept f_tape f_order f_rest f_ways f_costs f_bandBest f_found f_drawn f_joined f_out (by omega) (by omega) (by omega) (by omega) (by omega) (by omega) hG hR x y _ rfl (fun r => r = FX12_isPoint f_state x y) rfl) mkX12_isPoint w_1257 ws_63 w_1255 (xpg0 hP rfl) rfl rfl rfl rfl (Nat.le_of_ble_eq_true rfl) (Nat.le_of_ble_eq_true rfl) (Nat.le_of_ble_eq_true rfl) (Nat.le_of_ble_eq_true rfl) (Nat.le_of_ble_eq_true rfl) ?_
  intro v M2 hz
  obtain ⟨_, rfl, rfl, rfl⟩ := hz
  show xW _ _ _ _ 6 _ [.int (FX12_isPoint f_state x y)] (P ++ (MDL L i_keptMany i_taped i_faultKind i_faultPlace i_spot i_begin i_token i_value i_bad i_full i_bandRows i_bandFirsts i_outs f_state f_was f_kept f_tape f_order f_rest f_ways f_costs f_bandBest f_found f_drawn f_joined f_out ++ R)) _ _
  refine xi_if_eq (tgt := 18) dX12_place_6 (by decide) (fun c1 => ?_) (fun c1 => ?_)
  · rw [if_pos c1] at hq
    refine xi_bipush (v := (-2)) dX12_place_18 (by decide) ?_
    exact xi_iret dX12_place_20 rfl rfl (Nat.le_of_ble_eq_true rfl) (Nat.le_of_ble_eq_true rfl) ⟨_, rfl, hq, rfl⟩
  · rw [if_neg c1] at hq
    obtain ⟨e2, e2b, e2h⟩ := point_in c1
    have e2c : x.toNatClampNeg = e2 := by rw [e2h]; exact nI_clamp (by omega)
    try rw [e2c] at hq
    subst e2h
    have e2g := (hG e2 e2b).1.2
    obtain ⟨e3, e3b, e3h⟩ := point_in2 hG c1
    rw [nI_clamp (by omega)] at e3b
    have e3c : y.toNatClampNeg = e3 := by rw [e3h]; exact nI_clamp (by omega)
    try rw [e3c] at hq
    subst e3h
    refine xi_aload_n 0 dX12_place_9 rfl ?_
    refine xi_iload_n 1 dX12_place_10 rfl ?_
    refine xi_iload_n 2 dX12_place_11 rfl ?_
    refine xi_callV (as := [.int (nI e2), .int (nI e3)]) (rest := []) dX12_place_12 (FX12_placeOf_ok G hP i_keptMany i_taped i_faultKind i_faultPlace i_spot i_begin i_token i_value i_bad i_full i_bandRows i_bandFirsts i_outs f_state f_was f_kept f_tape f_order f_rest f_ways f_costs f_bandBest f_found f_drawn f_joined f_out (by omega) (by omega) (by omega) (by omega) (by omega) (by omega) hG hR e2 (by omega) e3 (by omega) (by omega) _ rfl (fun r => r = FX12_placeOf f_state e2 e3) rfl) mkX12_placeOf w_1281 ws_65 w_1279 (xpg0 hP rfl) rfl rfl rfl rfl (Nat.le_of_ble_eq_true rfl) (Nat.le_of_ble_eq_true rfl) (Nat.le_of_ble_eq_true rfl) (Nat.le_of_ble_eq_true rfl) (Nat.le_of_ble_eq_true rfl) ?_
    intro v M2 hz
    obtain ⟨_, rfl, rfl, rfl⟩ := hz
    show xW _ _ _ _ 15 _ [.int (FX12_placeOf f_state e2 e3)] (P ++ (MDL L i_keptMany i_taped i_faultKind i_faultPlace i_spot i_begin i_token i_value i_bad i_full i_bandRows i_bandFirsts i_outs f_state f_was f_kept f_tape f_order f_rest f_ways f_costs f_bandBest f_found f_drawn f_joined f_out ++ R)) _ _
    refine xi_goto (tgt := 20) dX12_place_15 (by decide) ?_
    exact xi_iret dX12_place_20 rfl rfl (Nat.le_of_ble_eq_true rfl) (Nat.le_of_ble_eq_true rfl) ⟨_, rfl, hq, rfl⟩
def FX12_areTwo (f_state : Nat → Int32) (x : Int32) (y : Int32) (t : Int32) : Int32 := (if (FX12_isPoint f_state x y) = (0 : Int32) then (0 : Int32) else (if (FX12_isPoint f_state x t) = (0 : Int32) then (0 : Int32) else (if y = t then (0 : Int32) else (1 : Int32))))
set_option maxHeartbeats 4000000 in
set_option maxRecDepth 100000 in
theorem FX12_areTwo_ok (G : xG) {P R : xMem} {L : Nat} (hP : P.length = L) (i_keptMany : Nat) (i_taped : Nat) (i_faultKind : Int32) (i_faultPlace : Int32) (i_spot : Nat) (i_begin : Nat) (i_token : Int32) (i_value : Int32) (i_bad : Int32) (i_full : Nat) (i_bandRows : Int32) (i_bandFirsts : Int32) (i_outs : Nat) (f_state : Nat → Int32) (f_was : Nat → Int32) (f_kept : Nat → Int32) (f_tape : Nat → Int32) (f_order : Nat → Int32) (f_rest : Nat → Int32) (f_ways : Nat → Int32) (f_costs : Nat → Int32) (f_bandBest : Nat → Int32) (f_found : Nat → Int32) (f_drawn : Nat → Int32) (f_joined : Nat → Int32) (f_out : Nat → Int32) (bi_keptMany : i_keptMany ≤ 10) (bi_taped : i_taped ≤ 400) (bi_spot : i_spot ≤ 400) (bi_begin : i_begin ≤ 400) (bi_full : i_full ≤ 511) (bi_outs : i_outs ≤ 400) (hG : GO f_state) (hR : RO f_order) (x : Int32) (y : Int32) (t : Int32) (M : xMem) (hM : M = (P ++ (MDL L i_keptMany i_taped i_faultKind i_faultPlace i_spot i_begin i_token i_value i_bad i_full i_bandRows i_bandFirsts i_outs f_state f_was f_kept f_tape f_order f_rest f_ways f_costs f_bandBest f_found f_drawn f_joined f_out ++ R))) (Q : Int32 → Prop) (hq : Q (FX12_areTwo f_state x y t)) : xC G mX12_areTwo 4 0 0 [.ref L, .int x, .int y, .int t] M (fun v M2 => ∃ o : Int32, v = some (.int o) ∧ Q o ∧ M2 = (P ++ (MDL L i_keptMany i_taped i_faultKind i_faultPlace i_spot i_begin i_token i_value i_bad i_full i_bandRows i_bandFirsts i_outs f_state f_was f_kept f_tape f_order f_rest f_ways f_costs f_bandBest f_found f_drawn f_joined f_out ++ R))) := by
  subst hM
  unfold FX12_areTwo at hq
  refine xC.of (by decide) (Nat.le_of_ble_eq_true rfl) ?_
  show xW _ _ _ _ 0 [(0, .ref L), (1, .int x), (2, .int y), (3, .int t)] [] _ 0 0
  refine xi_aload_n 0 dX12_areTwo_0 rfl ?_
  refine xi_iload_n 1 dX12_areTwo_1 rfl ?_
  refine xi_iload_n 2 dX12_areTwo_2 rfl ?_
  refine xi_callV (as := [.int x, .int y]) (rest := []) dX12_areTwo_3 (FX12_isPoint_ok G hP i_keptMany i_taped i_faultKind i_faultPlace i_spot i_begin i_token i_value i_bad i_full i_bandRows i_bandFirsts i_outs f_state f_was f_kept f_tape f_order f_rest f_ways f_costs f_bandBest f_found f_drawn f_joined f_out (by omega) (by omega) (by omega) (by omega) (by omega) (by omega) hG hR x y _ rfl (fun r => r = FX12_isPoint f_state x y) rfl) mkX12_isPoint w_1257 ws_63 w_1255 (xpg0 hP rfl) rfl rfl rfl rfl (Nat.le_of_ble_eq_true rfl) (Nat.le_of_ble_eq_true rfl) (Nat.le_of_ble_eq_true rfl) (Nat.le_of_ble_eq_true rfl) (Nat.le_of_ble_eq_true rfl) ?_
  intro v M2 hz
  obtain ⟨_, rfl, rfl, rfl⟩ := hz
  show xW _ _ _ _ 6 _ [.int (FX12_isPoint f_state x y)] (P ++ (MDL L i_keptMany i_taped i_faultKind i_faultPlace i_spot i_begin i_token i_value i_bad i_full i_bandRows i_bandFirsts i_outs f_state f_was f_kept f_tape f_order f_rest f_ways f_costs f_bandBest f_found f_drawn f_joined f_out ++ R)) _ _
  refine xi_if_eq (tgt := 27) dX12_areTwo_6 (by decide) (fun c1 => ?_) (fun c1 => ?_)
  · rw [if_pos c1] at hq
    refine xi_iconst (v := 0) dX12_areTwo_27 (by decide) ?_
    exact xi_iret dX12_areTwo_28 rfl (by decide) (Nat.le_of_ble_eq_true rfl) (Nat.le_of_ble_eq_true rfl) ⟨_, rfl, hq, rfl⟩
  · rw [if_neg c1] at hq
    refine xi_aload_n 0 dX12_areTwo_9 rfl ?_
    refine xi_iload_n 1 dX12_areTwo_10 rfl ?_
    refine xi_iload_n 3 dX12_areTwo_11 rfl ?_
    refine xi_callV (as := [.int x, .int t]) (rest := []) dX12_areTwo_12 (FX12_isPoint_ok G hP i_keptMany i_taped i_faultKind i_faultPlace i_spot i_begin i_token i_value i_bad i_full i_bandRows i_bandFirsts i_outs f_state f_was f_kept f_tape f_order f_rest f_ways f_costs f_bandBest f_found f_drawn f_joined f_out (by omega) (by omega) (by omega) (by omega) (by omega) (by omega) hG hR x t _ rfl (fun r => r = FX12_isPoint f_state x t) rfl) mkX12_isPoint w_1257 ws_63 w_1255 (xpg0 hP rfl) rfl rfl rfl rfl (Nat.le_of_ble_eq_true rfl) (Nat.le_of_ble_eq_true rfl) (Nat.le_of_ble_eq_true rfl) (Nat.le_of_ble_eq_true rfl) (Nat.le_of_ble_eq_true rfl) ?_
    intro v M2 hz
    obtain ⟨_, rfl, rfl, rfl⟩ := hz
    show xW _ _ _ _ 15 _ [.int (FX12_isPoint f_state x t)] (P ++ (MDL L i_keptMany i_taped i_faultKind i_faultPlace i_spot i_begin i_token i_value i_bad i_full i_bandRows i_bandFirsts i_outs f_state f_was f_kept f_tape f_order f_rest f_ways f_costs f_bandBest f_found f_drawn f_joined f_out ++ R)) _ _
    refine xi_if_eq (tgt := 27) dX12_areTwo_15 (by decide) (fun c2 => ?_) (fun c2 => ?_)
    · rw [if_pos c2] at hq
      refine xi_iconst (v := 0) dX12_areTwo_27 (by decide) ?_
      exact xi_iret dX12_areTwo_28 rfl (by decide) (Nat.le_of_ble_eq_true rfl) (Nat.le_of_ble_eq_true rfl) ⟨_, rfl, hq, rfl⟩
    · rw [if_neg c2] at hq
      refine xi_iload_n 2 dX12_areTwo_18 rfl ?_
      refine xi_iload_n 3 dX12_areTwo_19 rfl ?_
      refine xi_icmp_eq (tgt := 27) dX12_areTwo_20 (by decide) (fun c3 => ?_) (fun c3 => ?_)
      · rw [if_pos c3] at hq
        refine xi_iconst (v := 0) dX12_areTwo_27 (by decide) ?_
        exact xi_iret dX12_areTwo_28 rfl (by decide) (Nat.le_of_ble_eq_true rfl) (Nat.le_of_ble_eq_true rfl) ⟨_, rfl, hq, rfl⟩
      · rw [if_neg c3] at hq
        refine xi_iconst (v := 1) dX12_areTwo_23 (by decide) ?_
        refine xi_goto (tgt := 28) dX12_areTwo_24 (by decide) ?_
        exact xi_iret dX12_areTwo_28 rfl (by decide) (Nat.le_of_ble_eq_true rfl) (Nat.le_of_ble_eq_true rfl) ⟨_, rfl, hq, rfl⟩
theorem FX12_areTwo_b (f_state : Nat → Int32) (x : Int32) (y : Int32) (t : Int32) : FX12_areTwo f_state x y t = 0 ∨ FX12_areTwo f_state x y t = 1 := by
  unfold FX12_areTwo
  (repeat' split) <;> first | exact Or.inl rfl | exact Or.inr rfl
def LX12_count_4 (i_keptMany : Nat) (i_taped : Nat) (i_outs : Nat) (f_state : Nat → Int32) (w1 : Int32) (K : Int32 → Int32) : Nat → Nat → Int32 → Int32
  | 0, _, v2 => K v2
  | k + 1, j, v2 => (if (FX12_isNet f_state ((nI j))) = (0 : Int32) then (LX12_count_4 i_keptMany i_taped i_outs f_state w1 K k (j + 1) ((v2 ||| (0 : Int32)))) else (LX12_count_4 i_keptMany i_taped i_outs f_state w1 K k (j + 1) ((v2 ||| ((1 : Int32) <<< ((nI j) &&& 31))))))
set_option maxHeartbeats 4000000 in
set_option maxRecDepth 100000 in
theorem LX12_count_4_s (G : xG) {P R : xMem} {L : Nat} (hP : P.length = L) (i_keptMany : Nat) (i_taped : Nat) (i_faultKind : Int32) (i_faultPlace : Int32) (i_spot : Nat) (i_begin : Nat) (i_token : Int32) (i_value : Int32) (i_bad : Int32) (i_full : Nat) (i_bandRows : Int32) (i_bandFirsts : Int32) (i_outs : Nat) (f_state : Nat → Int32) (f_was : Nat → Int32) (f_kept : Nat → Int32) (f_tape : Nat → Int32) (f_order : Nat → Int32) (f_rest : Nat → Int32) (f_ways : Nat → Int32) (f_costs : Nat → Int32) (f_bandBest : Nat → Int32) (f_found : Nat → Int32) (f_drawn : Nat → Int32) (f_joined : Nat → Int32) (f_out : Nat → Int32) (bi_keptMany : i_keptMany ≤ 10) (bi_taped : i_taped ≤ 400) (bi_spot : i_spot ≤ 400) (bi_begin : i_begin ≤ 400) (bi_full : i_full ≤ 511) (bi_outs : i_outs ≤ 400) (hG : GO f_state) (hR : RO f_order) (w1 : Int32) (Q : Int32 → Prop) (K : Int32 → Int32) (HE : ∀ (v2 : Int32), Q (K v2) → xW G mX12_count (xrm 3 0 0) (xQ G (fun v M2 => ∃ o : Int32, v = some (.int o) ∧ Q o ∧ M2 = (P ++ (MDL L i_keptMany i_taped i_faultKind i_faultPlace i_spot i_begin i_token i_value i_bad i_full i_bandRows i_bandFirsts i_outs f_state f_was f_kept f_tape f_order f_rest f_ways f_costs f_bandBest f_found f_drawn f_joined f_out ++ R))) 0 0) 33 [(0, .ref L), (1, .int w1), (2, .int v2)] [] (P ++ (MDL L i_keptMany i_taped i_faultKind i_faultPlace i_spot i_begin i_token i_value i_bad i_full i_bandRows i_bandFirsts i_outs f_state f_was f_kept f_tape f_order f_rest f_ways f_costs f_bandBest f_found f_drawn f_joined f_out ++ R)) 0 0) :
    ∀ (k j : Nat) (v2 : Int32), 3 - j = k → j < 100000 → Q (LX12_count_4 i_keptMany i_taped i_outs f_state w1 K k j v2) → xW G mX12_count (xrm 3 0 0) (xQ G (fun v M2 => ∃ o : Int32, v = some (.int o) ∧ Q o ∧ M2 = (P ++ (MDL L i_keptMany i_taped i_faultKind i_faultPlace i_spot i_begin i_token i_value i_bad i_full i_bandRows i_bandFirsts i_outs f_state f_was f_kept f_tape f_order f_rest f_ways f_costs f_bandBest f_found f_drawn f_joined f_out ++ R))) 0 0) 4 [(0, .ref L), (1, .int w1), (2, .int v2), (3, .int (nI j))] [] (P ++ (MDL L i_keptMany i_taped i_faultKind i_faultPlace i_spot i_begin i_token i_value i_bad i_full i_bandRows i_bandFirsts i_outs f_state f_was f_kept f_tape f_order f_rest f_ways f_costs f_bandBest f_found f_drawn f_joined f_out ++ R)) 0 0 := by
  intro k
  induction k with
  | zero =>
    intro j v2 hj hj2 hq
    rw [LX12_count_4] at hq
    refine xi_iload_n 3 dX12_count_4 rfl ?_
    refine xi_iconst (v := 3) dX12_count_5 (by decide) ?_
    refine xi_icmp_ge_t (tgt := 33) dX12_count_6 (by decide) (nI_le (a := 3) (b := j) (by omega) (by omega)) ?_
    refine xi_sub (lv' := [(0, .ref L), (1, .int w1), (2, .int v2)]) [0, 1, 2] rfl ?_
    exact HE v2 hq
  | succ k ih =>
    intro j v2 hj hj2 hq
    rw [LX12_count_4] at hq
    refine xi_iload_n 3 dX12_count_4 rfl ?_
    refine xi_iconst (v := 3) dX12_count_5 (by decide) ?_
    refine xi_icmp_ge_f (tgt := 33) dX12_count_6 (by decide) (nI_ge (a := j) (b := 3) (by omega) (by omega)) ?_
    refine xi_iload_n 2 dX12_count_9 rfl ?_
    refine xi_aload_n 0 dX12_count_10 rfl ?_
    refine xi_iload_n 3 dX12_count_11 rfl ?_
    refine xi_callV (as := [.int (nI j)]) (rest := [.int v2]) dX12_count_12 (FX12_isNet_ok G hP i_keptMany i_taped i_faultKind i_faultPlace i_spot i_begin i_token i_value i_bad i_full i_bandRows i_bandFirsts i_outs f_state f_was f_kept f_tape f_order f_rest f_ways f_costs f_bandBest f_found f_drawn f_joined f_out (by omega) (by omega) (by omega) (by omega) (by omega) (by omega) hG hR ((nI j)) _ rfl (fun r => r = FX12_isNet f_state ((nI j))) rfl) mkX12_isNet w_1104 ws_35 w_1102 (xpg0 hP rfl) rfl rfl rfl rfl (Nat.le_of_ble_eq_true rfl) (Nat.le_of_ble_eq_true rfl) (Nat.le_of_ble_eq_true rfl) (Nat.le_of_ble_eq_true rfl) (Nat.le_of_ble_eq_true rfl) ?_
    intro v M2 hz
    obtain ⟨_, rfl, rfl, rfl⟩ := hz
    show xW _ _ _ _ 15 _ [.int (FX12_isNet f_state ((nI j))), .int v2] (P ++ (MDL L i_keptMany i_taped i_faultKind i_faultPlace i_spot i_begin i_token i_value i_bad i_full i_bandRows i_bandFirsts i_outs f_state f_was f_kept f_tape f_order f_rest f_ways f_costs f_bandBest f_found f_drawn f_joined f_out ++ R)) _ _
    refine xi_if_eq (tgt := 24) dX12_count_15 (by decide) (fun c1 => ?_) (fun c1 => ?_)
    · rw [if_pos c1] at hq
      refine xi_iconst (v := 0) dX12_count_24 (by decide) ?_
      refine xi_ior (v := (v2 ||| (0 : Int32))) dX12_count_25 rfl ?_
      refine xi_istore_n (lv' := [(2, .int (v2 ||| (0 : Int32))), (0, .ref L), (1, .int w1), (3, .int (nI j))]) dX12_count_26 (by decide) rfl ?_
      refine xi_iinc (v := (nI (j + 1))) (lv' := [(3, .int (nI (j + 1))), (2, .int (v2 ||| (0 : Int32))), (0, .ref L), (1, .int w1)]) 3 dX12_count_27 rfl (nI_1 _) (by decide) rfl ?_
      refine xi_goto (tgt := 4) dX12_count_30 (by decide) ?_
      refine xi_sub (lv' := [(0, .ref L), (1, .int w1), (2, .int (v2 ||| (0 : Int32))), (3, .int (nI (j + 1)))]) [2, 3, 1, 0] rfl ?_
      exact ih (j + 1) ((v2 ||| (0 : Int32))) (by omega) (by omega) hq
    · rw [if_neg c1] at hq
      refine xi_iconst (v := 1) dX12_count_18 (by decide) ?_
      refine xi_iload_n 3 dX12_count_19 rfl ?_
      refine xi_ishl (v := ((1 : Int32) <<< ((nI j) &&& 31))) dX12_count_20 rfl ?_
      refine xi_goto (tgt := 25) dX12_count_21 (by decide) ?_
      refine xi_ior (v := (v2 ||| ((1 : Int32) <<< ((nI j) &&& 31)))) dX12_count_25 rfl ?_
      refine xi_istore_n (lv' := [(2, .int (v2 ||| ((1 : Int32) <<< ((nI j) &&& 31)))), (0, .ref L), (1, .int w1), (3, .int (nI j))]) dX12_count_26 (by decide) rfl ?_
      refine xi_iinc (v := (nI (j + 1))) (lv' := [(3, .int (nI (j + 1))), (2, .int (v2 ||| ((1 : Int32) <<< ((nI j) &&& 31)))), (0, .ref L), (1, .int w1)]) 3 dX12_count_27 rfl (nI_1 _) (by decide) rfl ?_
      refine xi_goto (tgt := 4) dX12_count_30 (by decide) ?_
      refine xi_sub (lv' := [(0, .ref L), (1, .int w1), (2, .int (v2 ||| ((1 : Int32) <<< ((nI j) &&& 31)))), (3, .int (nI (j + 1)))]) [2, 3, 1, 0] rfl ?_
      exact ih (j + 1) ((v2 ||| ((1 : Int32) <<< ((nI j) &&& 31)))) (by omega) (by omega) hq
def FX12_count (i_keptMany : Nat) (i_taped : Nat) (i_outs : Nat) (f_state : Nat → Int32) (x : Int32) : Int32 := (LX12_count_4 i_keptMany i_taped i_outs f_state x (fun u2 => (if x = 0 then u2 else (if x = 1 then (nI i_keptMany) else (if x = 2 then (nI i_taped) else (if x = 3 then (nI i_outs) else (-1 : Int32)))))) (3 - 0) 0 ((0 : Int32)))
set_option maxHeartbeats 4000000 in
set_option maxRecDepth 100000 in
theorem FX12_count_ok (G : xG) {P R : xMem} {L : Nat} (hP : P.length = L) (i_keptMany : Nat) (i_taped : Nat) (i_faultKind : Int32) (i_faultPlace : Int32) (i_spot : Nat) (i_begin : Nat) (i_token : Int32) (i_value : Int32) (i_bad : Int32) (i_full : Nat) (i_bandRows : Int32) (i_bandFirsts : Int32) (i_outs : Nat) (f_state : Nat → Int32) (f_was : Nat → Int32) (f_kept : Nat → Int32) (f_tape : Nat → Int32) (f_order : Nat → Int32) (f_rest : Nat → Int32) (f_ways : Nat → Int32) (f_costs : Nat → Int32) (f_bandBest : Nat → Int32) (f_found : Nat → Int32) (f_drawn : Nat → Int32) (f_joined : Nat → Int32) (f_out : Nat → Int32) (bi_keptMany : i_keptMany ≤ 10) (bi_taped : i_taped ≤ 400) (bi_spot : i_spot ≤ 400) (bi_begin : i_begin ≤ 400) (bi_full : i_full ≤ 511) (bi_outs : i_outs ≤ 400) (hG : GO f_state) (hR : RO f_order) (x : Int32) (M : xMem) (hM : M = (P ++ (MDL L i_keptMany i_taped i_faultKind i_faultPlace i_spot i_begin i_token i_value i_bad i_full i_bandRows i_bandFirsts i_outs f_state f_was f_kept f_tape f_order f_rest f_ways f_costs f_bandBest f_found f_drawn f_joined f_out ++ R))) (Q : Int32 → Prop) (hq : Q (FX12_count i_keptMany i_taped i_outs f_state x)) : xC G mX12_count 3 0 0 [.ref L, .int x] M (fun v M2 => ∃ o : Int32, v = some (.int o) ∧ Q o ∧ M2 = (P ++ (MDL L i_keptMany i_taped i_faultKind i_faultPlace i_spot i_begin i_token i_value i_bad i_full i_bandRows i_bandFirsts i_outs f_state f_was f_kept f_tape f_order f_rest f_ways f_costs f_bandBest f_found f_drawn f_joined f_out ++ R))) := by
  subst hM
  unfold FX12_count at hq
  refine xC.of (by decide) (Nat.le_of_ble_eq_true rfl) ?_
  show xW _ _ _ _ 0 [(0, .ref L), (1, .int x)] [] _ 0 0
  refine xi_iconst (v := 0) dX12_count_0 (by decide) ?_
  refine xi_istore_n (lv' := [(2, .int 0), (0, .ref L), (1, .int x)]) dX12_count_1 (by decide) rfl ?_
  refine xi_iconst (v := 0) dX12_count_2 (by decide) ?_
  refine xi_istore_n (lv' := [(3, .int 0), (2, .int 0), (0, .ref L), (1, .int x)]) dX12_count_3 (by decide) rfl ?_
  refine xi_sub (lv' := [(0, .ref L), (1, .int x), (2, .int 0), (3, .int 0)]) [2, 3, 1, 0] rfl ?_
  refine LX12_count_4_s G hP i_keptMany i_taped i_faultKind i_faultPlace i_spot i_begin i_token i_value i_bad i_full i_bandRows i_bandFirsts i_outs f_state f_was f_kept f_tape f_order f_rest f_ways f_costs f_bandBest f_found f_drawn f_joined f_out (by omega) (by omega) (by omega) (by omega) (by omega) (by omega) hG hR x Q _ (fun u2 hq => ?_) (3 - 0) 0 ((0 : Int32)) rfl (by omega) hq
  refine xi_iload_n 1 dX12_count_33 rfl ?_
  by_cases c3 : x = 0
  · rw [if_pos c3] at hq
    refine xi_tableIn (off := 30) (tgt := 64) dX12_count_34 (by rw [c3]; decide) (by rw [c3]; decide) (by rw [c3]; decide) (by decide) ?_
    refine xi_iload_n 2 dX12_count_64 rfl ?_
    exact xi_iret dX12_count_65 rfl rfl (Nat.le_of_ble_eq_true rfl) (Nat.le_of_ble_eq_true rfl) ⟨_, rfl, hq, rfl⟩
  rw [if_neg c3] at hq
  by_cases c4 : x = 1
  · rw [if_pos c4] at hq
    refine xi_tableIn (off := 32) (tgt := 66) dX12_count_34 (by rw [c4]; decide) (by rw [c4]; decide) (by rw [c4]; decide) (by decide) ?_
    refine xi_aload_n 0 dX12_count_66 rfl ?_
    refine xi_get (f := 3) dX12_count_67 (xpg0 hP rfl) rfl ok_9 (by decide) w_1011 rfl ?_
    exact xi_iret dX12_count_70 rfl rfl (Nat.le_of_ble_eq_true rfl) (Nat.le_of_ble_eq_true rfl) ⟨_, rfl, hq, rfl⟩
  rw [if_neg c4] at hq
  by_cases c5 : x = 2
  · rw [if_pos c5] at hq
    refine xi_tableIn (off := 37) (tgt := 71) dX12_count_34 (by rw [c5]; decide) (by rw [c5]; decide) (by rw [c5]; decide) (by decide) ?_
    refine xi_aload_n 0 dX12_count_71 rfl ?_
    refine xi_get (f := 5) dX12_count_72 (xpg0 hP rfl) rfl ok_9 (by decide) w_1013 rfl ?_
    exact xi_iret dX12_count_75 rfl rfl (Nat.le_of_ble_eq_true rfl) (Nat.le_of_ble_eq_true rfl) ⟨_, rfl, hq, rfl⟩
  rw [if_neg c5] at hq
  by_cases c6 : x = 3
  · rw [if_pos c6] at hq
    refine xi_tableIn (off := 42) (tgt := 76) dX12_count_34 (by rw [c6]; decide) (by rw [c6]; decide) (by rw [c6]; decide) (by decide) ?_
    refine xi_aload_n 0 dX12_count_76 rfl ?_
    refine xi_get (f := 25) dX12_count_77 (xpg0 hP rfl) rfl ok_9 (by decide) w_1033 rfl ?_
    exact xi_iret dX12_count_80 rfl rfl (Nat.le_of_ble_eq_true rfl) (Nat.le_of_ble_eq_true rfl) ⟨_, rfl, hq, rfl⟩
  rw [if_neg c6] at hq
  have tc3 : x.toInt ≠ 0 := fun e => c3 (Int32.toInt_inj.mp (by rw [e]; decide))
  have tc4 : x.toInt ≠ 1 := fun e => c4 (Int32.toInt_inj.mp (by rw [e]; decide))
  have tc5 : x.toInt ≠ 2 := fun e => c5 (Int32.toInt_inj.mp (by rw [e]; decide))
  have tc6 : x.toInt ≠ 3 := fun e => c6 (Int32.toInt_inj.mp (by rw [e]; decide))
  refine xi_tableOut (tgt := 81) dX12_count_34 (by omega) (by decide) ?_
  refine xi_iconst (v := (-1)) dX12_count_81 (by decide) ?_
  exact xi_iret dX12_count_82 rfl rfl (Nat.le_of_ble_eq_true rfl) (Nat.le_of_ble_eq_true rfl) ⟨_, rfl, hq, rfl⟩
def FX12_fault (i_faultKind : Int32) (i_faultPlace : Int32) (x : Int32) : Int32 := (if x = (0 : Int32) then i_faultKind else (if x = (1 : Int32) then i_faultPlace else (-1 : Int32)))
set_option maxHeartbeats 4000000 in
set_option maxRecDepth 100000 in
theorem FX12_fault_ok (G : xG) {P R : xMem} {L : Nat} (hP : P.length = L) (i_keptMany : Nat) (i_taped : Nat) (i_faultKind : Int32) (i_faultPlace : Int32) (i_spot : Nat) (i_begin : Nat) (i_token : Int32) (i_value : Int32) (i_bad : Int32) (i_full : Nat) (i_bandRows : Int32) (i_bandFirsts : Int32) (i_outs : Nat) (f_state : Nat → Int32) (f_was : Nat → Int32) (f_kept : Nat → Int32) (f_tape : Nat → Int32) (f_order : Nat → Int32) (f_rest : Nat → Int32) (f_ways : Nat → Int32) (f_costs : Nat → Int32) (f_bandBest : Nat → Int32) (f_found : Nat → Int32) (f_drawn : Nat → Int32) (f_joined : Nat → Int32) (f_out : Nat → Int32) (bi_keptMany : i_keptMany ≤ 10) (bi_taped : i_taped ≤ 400) (bi_spot : i_spot ≤ 400) (bi_begin : i_begin ≤ 400) (bi_full : i_full ≤ 511) (bi_outs : i_outs ≤ 400) (hG : GO f_state) (hR : RO f_order) (x : Int32) (M : xMem) (hM : M = (P ++ (MDL L i_keptMany i_taped i_faultKind i_faultPlace i_spot i_begin i_token i_value i_bad i_full i_bandRows i_bandFirsts i_outs f_state f_was f_kept f_tape f_order f_rest f_ways f_costs f_bandBest f_found f_drawn f_joined f_out ++ R))) (Q : Int32 → Prop) (hq : Q (FX12_fault i_faultKind i_faultPlace x)) : xC G mX12_fault 0 0 0 [.ref L, .int x] M (fun v M2 => ∃ o : Int32, v = some (.int o) ∧ Q o ∧ M2 = (P ++ (MDL L i_keptMany i_taped i_faultKind i_faultPlace i_spot i_begin i_token i_value i_bad i_full i_bandRows i_bandFirsts i_outs f_state f_was f_kept f_tape f_order f_rest f_ways f_costs f_bandBest f_found f_drawn f_joined f_out ++ R))) := by
  subst hM
  unfold FX12_fault at hq
  refine xC.of (by decide) (Nat.le_of_ble_eq_true rfl) ?_
  show xW _ _ _ _ 0 [(0, .ref L), (1, .int x)] [] _ 0 0
  refine xi_iload_n 1 dX12_fault_0 rfl ?_
  refine xi_if_ne (tgt := 11) dX12_fault_1 (by decide) (fun c1 => ?_) (fun c1 => ?_)
  · rw [if_neg c1] at hq
    refine xi_iload_n 1 dX12_fault_11 rfl ?_
    refine xi_iconst (v := 1) dX12_fault_12 (by decide) ?_
    refine xi_icmp_ne (tgt := 23) dX12_fault_13 (by decide) (fun c2 => ?_) (fun c2 => ?_)
    · rw [if_neg c2] at hq
      refine xi_iconst (v := (-1)) dX12_fault_23 (by decide) ?_
      exact xi_iret dX12_fault_24 rfl rfl (Nat.le_of_ble_eq_true rfl) (Nat.le_of_ble_eq_true rfl) ⟨_, rfl, hq, rfl⟩
    · rw [if_pos c2] at hq
      refine xi_aload_n 0 dX12_fault_16 rfl ?_
      refine xi_get (f := 7) dX12_fault_17 (xpg0 hP rfl) rfl ok_9 (by decide) w_1015 rfl ?_
      refine xi_goto (tgt := 24) dX12_fault_20 (by decide) ?_
      exact xi_iret dX12_fault_24 rfl rfl (Nat.le_of_ble_eq_true rfl) (Nat.le_of_ble_eq_true rfl) ⟨_, rfl, hq, rfl⟩
  · rw [if_pos c1] at hq
    refine xi_aload_n 0 dX12_fault_4 rfl ?_
    refine xi_get (f := 6) dX12_fault_5 (xpg0 hP rfl) rfl ok_9 (by decide) w_1014 rfl ?_
    refine xi_goto (tgt := 24) dX12_fault_8 (by decide) ?_
    exact xi_iret dX12_fault_24 rfl rfl (Nat.le_of_ble_eq_true rfl) (Nat.le_of_ble_eq_true rfl) ⟨_, rfl, hq, rfl⟩
