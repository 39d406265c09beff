/-! the reference -/
def MDL (L : Nat) (i_keptMany : Nat) (i_taped : Nat) (i_faultKind : Int32) (i_faultPlace : Int32) (i_spot : Nat) (i_begin : Nat) (i_token : Int32) (i_value : Int32) (i_bad : Int32) (i_full : Nat) (i_bandRows : Int32) (i_bandFirsts : Int32) (i_outs : Nat) (f_state : Nat → Int32) (f_was : Nat → Int32) (f_kept : Nat → Int32) (f_tape : Nat → Int32) (f_order : Nat → Int32) (f_rest : Nat → Int32) (f_ways : Nat → Int32) (f_costs : Nat → Int32) (f_bandBest : Nat → Int32) (f_found : Nat → Int32) (f_drawn : Nat → Int32) (f_joined : Nat → Int32) (f_out : Nat → Int32) : xMem := [.inr (9, [.ref (L + 1), .ref (L + 2), .ref (L + 3), .int (nI i_keptMany), .ref (L + 4), .int (nI i_taped), .int i_faultKind, .int i_faultPlace, .int (nI i_spot), .int (nI i_begin), .int i_token, .int i_value, .int i_bad, .ref (L + 5), .ref (L + 6), .ref (L + 7), .ref (L + 8), .int (nI i_full), .int i_bandRows, .int i_bandFirsts, .ref (L + 9), .ref (L + 10), .ref (L + 11), .ref (L + 12), .ref (L + 13), .int (nI i_outs)]), .inl (0, 273, .inl f_state), .inl (0, 273, .inl f_was), .inl (0, 2730, .inl f_kept), .inl (0, 400, .inl f_tape), .inl (0, 9, .inl f_order), .inl (0, 512, .inl f_rest), .inl (0, 512, .inl f_ways), .inl (0, 4608, .inl f_costs), .inl (0, 9, .inl f_bandBest), .inl (0, 9, .inl f_found), .inl (0, 9, .inl f_drawn), .inl (0, 81, .inl f_joined), .inl (0, 400, .inl f_out)]
/-! the reference: read-only methods as pure functions (printed by wip/p2/gen12.py) -/
def RO (f : Nat → Int32) : Prop := ∀ i, i < 9 → f i = nI (f i).toNatClampNeg ∧ (f i).toNatClampNeg < 9
theorem hR_upd {f : Nat → Int32} (h : RO f) (e w : Nat) (he : e < 9) (hw : w < 9) : RO (upd f e (nI w)) := by
  intro i hi
  by_cases h1 : i = e
  · subst h1
    have e1 : upd f i (nI w) i = nI w := by simp [upd]
    rw [e1, nI_clamp (by omega)]
    exact ⟨rfl, hw⟩
  · have e1 : upd f e (nI w) i = f i := by simp [upd, h1]
    rw [e1]
    exact h i hi
/-- what the slots keep to: points at most nine, the row's places hold points -/
def GO (g : Nat → Int32) : Prop := ∀ s, s < 3 → (g (91 * s) = nI (g (91 * s)).toNatClampNeg ∧ (g (91 * s)).toNatClampNeg ≤ 9) ∧ ∀ i, i < 9 → g (91 * s + 82 + i) = nI (g (91 * s + 82 + i)).toNatClampNeg ∧ (g (91 * s + 82 + i)).toNatClampNeg < 9
/-- the row has every point -/
def PE (g : Nat → Int32) : Prop := ∀ s, s < 3 → ∀ p, p < (g (91 * s)).toNatClampNeg → ∃ i, i < (g (91 * s)).toNatClampNeg ∧ g (91 * s + 82 + i) = nI p
theorem nd_dec {x : Int32} (h : ¬ x = 0) : (x &&& (x - 1)).toBitVec.toNat < x.toBitVec.toNat := by
  have h0 : x.toBitVec.toNat ≠ 0 := fun e => h (by
    apply Int32.toBitVec_inj.mp
    apply BitVec.eq_of_toNat_eq
    rw [e]; rfl)
  have h1 : (x - 1).toBitVec.toNat = x.toBitVec.toNat - 1 := by
    rw [Int32.toBitVec_sub]
    have e1 : (1 : Int32).toBitVec = 1#32 := rfl
    rw [e1, BitVec.toNat_sub]
    have hx := x.toBitVec.isLt
    have e2 : (1#32 : BitVec 32).toNat = 1 := rfl
    rw [e2]
    omega
  rw [Int32.toBitVec_and, BitVec.toNat_and, h1]
  have := Nat.and_le_right (n := x.toBitVec.toNat) (m := x.toBitVec.toNat - 1)
  omega
theorem nb_bool {x : Int32} (h : x = 0 ∨ x = 1) : narrow .boolean (.int x) = .int x := by
  rcases h with rfl | rfl <;> rfl
theorem or_keep {a b x : Int32} (h : a ||| b = a) : (a ||| x) ||| b = a ||| x := by
  rw [Int32.or_assoc, Int32.or_comm x b, ← Int32.or_assoc, h]
theorem gr_le {u s : Int32} (h : u ||| s = u) : s.toBitVec.toNat ≤ u.toBitVec.toNat := by
  rw [← h, Int32.toBitVec_or, BitVec.toNat_or]
  exact Nat.right_le_or
theorem gr_dec {u s : Int32} (h : u ||| s = u) (hne : ¬ u = s) : 4294967296 - u.toBitVec.toNat < 4294967296 - s.toBitVec.toNat := by
  have h1 := gr_le h
  have h2 : u.toBitVec.toNat ≠ s.toBitVec.toNat := fun e => hne (Int32.toBitVec_inj.mp (BitVec.eq_of_toNat_eq e))
  have h3 := u.toBitVec.isLt
  omega
theorem gr_dec2 {u s : Int32} (h : u ||| s = u) : (if s = u then 0 else 1 + (4294967296 - u.toBitVec.toNat)) < 1 + (4294967296 - s.toBitVec.toNat) := by
  by_cases e : s = u
  · rw [if_pos e]
    have h3 := s.toBitVec.isLt
    omega
  · rw [if_neg e]
    have := gr_dec h (fun q => e q.symm)
    omega
def FX12_points (f_state : Nat → Int32) (z : Nat) : Int32 := (f_state (91 * z))
set_option maxHeartbeats 4000000 in
set_option maxRecDepth 100000 in
theorem FX12_points_ok (G : xG) {P R : xMem} {L : Nat} (hP : P.length = L) (i_keptMany : Nat) (i_taped : Nat) (i_faultKind : Int32) (i_faultPlace : Int32) (i_spot : Nat) (i_begin : Nat) (i_token : Int32) (i_value : Int32) (i_bad : Int32) (i_full : Nat) (i_bandRows : Int32) (i_bandFirsts : Int32) (i_outs : Nat) (f_state : Nat → Int32) (f_was : Nat → Int32) (f_kept : Nat → Int32) (f_tape : Nat → Int32) (f_order : Nat → Int32) (f_rest : Nat → Int32) (f_ways : Nat → Int32) (f_costs : Nat → Int32) (f_bandBest : Nat → Int32) (f_found : Nat → Int32) (f_drawn : Nat → Int32) (f_joined : Nat → Int32) (f_out : Nat → Int32) (bi_keptMany : i_keptMany ≤ 10) (bi_taped : i_taped ≤ 400) (bi_spot : i_spot ≤ 400) (bi_begin : i_begin ≤ 400) (bi_full : i_full ≤ 511) (bi_outs : i_outs ≤ 400) (z : Nat) (bz : z < 3) (M : xMem) (hM : M = (P ++ (MDL L i_keptMany i_taped i_faultKind i_faultPlace i_spot i_begin i_token i_value i_bad i_full i_bandRows i_bandFirsts i_outs f_state f_was f_kept f_tape f_order f_rest f_ways f_costs f_bandBest f_found f_drawn f_joined f_out ++ R))) (Q : Int32 → Prop) (hq : Q (FX12_points f_state z)) : xC G mX12_points 0 0 0 [.ref L, .int (nI z)] M (fun v M2 => ∃ o : Int32, v = some (.int o) ∧ Q o ∧ M2 = (P ++ (MDL L i_keptMany i_taped i_faultKind i_faultPlace i_spot i_begin i_token i_value i_bad i_full i_bandRows i_bandFirsts i_outs f_state f_was f_kept f_tape f_order f_rest f_ways f_costs f_bandBest f_found f_drawn f_joined f_out ++ R))) := by
  subst hM
  unfold FX12_points at hq
  refine xC.of (by decide) (Nat.le_of_ble_eq_true rfl) ?_
  show xW _ _ _ _ 0 [(0, .ref L), (1, .int (nI z))] [] _ 0 0
  refine xi_aload_n 0 dX12_points_0 rfl ?_
  refine xi_get (f := 0) dX12_points_1 (xpg0 hP rfl) rfl ok_9 (by decide) w_1008 rfl ?_
  refine xi_bipush (v := 91) dX12_points_4 (by decide) ?_
  refine xi_iload_n 1 dX12_points_6 rfl ?_
  refine xi_imul (v := (nI (91 * z))) dX12_points_7 (pk_mul 91 z) ?_
  refine xi_iaload (v := (f_state (91 * z))) dX12_points_8 (xpg hP rfl) (vp_in_nI (by omega) (by decide)) (by rw [nI_clamp (by omega)]) ?_
  exact xi_iret dX12_points_9 rfl rfl (Nat.le_of_ble_eq_true rfl) (Nat.le_of_ble_eq_true rfl) ⟨_, rfl, hq, rfl⟩
def FX12_weight (f_state : Nat → Int32) (z : Nat) (p : Nat) (q : Nat) : Int32 := (f_state ((((91 * z) + 1) + (9 * p)) + q))
set_option maxHeartbeats 4000000 in
set_option maxRecDepth 100000 in
theorem FX12_weight_ok (G : xG) {P R : xMem} {L : Nat} (hP : P.length = L) (i_keptMany : Nat) (i_taped : Nat) (i_faultKind : Int32) (i_faultPlace : Int32) (i_spot : Nat) (i_begin : Nat) (i_token : Int32) (i_value : Int32) (i_bad : Int32) (i_full : Nat) (i_bandRows : Int32) (i_bandFirsts : Int32) (i_outs : Nat) (f_state : Nat → Int32) (f_was : Nat → Int32) (f_kept : Nat → Int32) (f_tape : Nat → Int32) (f_order : Nat → Int32) (f_rest : Nat → Int32) (f_ways : Nat → Int32) (f_costs : Nat → Int32) (f_bandBest : Nat → Int32) (f_found : Nat → Int32) (f_drawn : Nat → Int32) (f_joined : Nat → Int32) (f_out : Nat → Int32) (bi_keptMany : i_keptMany ≤ 10) (bi_taped : i_taped ≤ 400) (bi_spot : i_spot ≤ 400) (bi_begin : i_begin ≤ 400) (bi_full : i_full ≤ 511) (bi_outs : i_outs ≤ 400) (z : Nat) (bz : z < 3) (p : Nat) (bp : p < 9) (q : Nat) (bq : q < 9) (M : xMem) (hM : M = (P ++ (MDL L i_keptMany i_taped i_faultKind i_faultPlace i_spot i_begin i_token i_value i_bad i_full i_bandRows i_bandFirsts i_outs f_state f_was f_kept f_tape f_order f_rest f_ways f_costs f_bandBest f_found f_drawn f_joined f_out ++ R))) (Q : Int32 → Prop) (hq : Q (FX12_weight f_state z p q)) : xC G mX12_weight 0 0 0 [.ref L, .int (nI z), .int (nI p), .int (nI q)] M (fun v M2 => ∃ o : Int32, v = some (.int o) ∧ Q o ∧ M2 = (P ++ (MDL L i_keptMany i_taped i_faultKind i_faultPlace i_spot i_begin i_token i_value i_bad i_full i_bandRows i_bandFirsts i_outs f_state f_was f_kept f_tape f_order f_rest f_ways f_costs f_bandBest f_found f_drawn f_joined f_out ++ R))) := by
  subst hM
  unfold FX12_weight at hq
  refine xC.of (by decide) (Nat.le_of_ble_eq_true rfl) ?_
  show xW _ _ _ _ 0 [(0, .ref L), (1, .int (nI z)), (2, .int (nI p)), (3, .int (nI q))] [] _ 0 0
  refine xi_aload_n 0 dX12_weight_0 rfl ?_
  refine xi_get (f := 0) dX12_weight_1 (xpg0 hP rfl) rfl ok_9 (by decide) w_1008 rfl ?_
  refine xi_bipush (v := 91) dX12_weight_4 (by decide) ?_
  refine xi_iload_n 1 dX12_weight_6 rfl ?_
  refine xi_imul (v := (nI (91 * z))) dX12_weight_7 (pk_mul 91 z) ?_
  refine xi_iconst (v := 1) dX12_weight_8 (by decide) ?_
  refine xi_iadd (v := (nI ((91 * z) + 1))) dX12_weight_9 (nI_add (91 * z) 1) ?_
  refine xi_bipush (v := 9) dX12_weight_10 (by decide) ?_
  refine xi_iload_n 2 dX12_weight_12 rfl ?_
  refine xi_imul (v := (nI (9 * p))) dX12_weight_13 (pk_mul 9 p) ?_
  refine xi_iadd (v := (nI (((91 * z) + 1) + (9 * p)))) dX12_weight_14 (nI_add ((91 * z) + 1) (9 * p)) ?_
  refine xi_iload_n 3 dX12_weight_15 rfl ?_
  refine xi_iadd (v := (nI ((((91 * z) + 1) + (9 * p)) + q))) dX12_weight_16 (nI_add (((91 * z) + 1) + (9 * p)) q) ?_
  refine xi_iaload (v := (f_state ((((91 * z) + 1) + (9 * p)) + q))) dX12_weight_17 (xpg hP rfl) (vp_in_nI (by omega) (by decide)) (by rw [nI_clamp (by omega)]) ?_
  exact xi_iret dX12_weight_18 rfl rfl (Nat.le_of_ble_eq_true rfl) (Nat.le_of_ble_eq_true rfl) ⟨_, rfl, hq, rfl⟩
def FX12_at (f_state : Nat → Int32) (z : Nat) (p : Nat) : Int32 := (f_state (((91 * z) + 82) + p))
set_option maxHeartbeats 4000000 in
set_option maxRecDepth 100000 in
theorem FX12_at_ok (G : xG) {P R : xMem} {L : Nat} (hP : P.length = L) (i_keptMany : Nat) (i_taped : Nat) (i_faultKind : Int32) (i_faultPlace : Int32) (i_spot : Nat) (i_begin : Nat) (i_token : Int32) (i_value : Int32) (i_bad : Int32) (i_full : Nat) (i_bandRows : Int32) (i_bandFirsts : Int32) (i_outs : Nat) (f_state : Nat → Int32) (f_was : Nat → Int32) (f_kept : Nat → Int32) (f_tape : Nat → Int32) (f_order : Nat → Int32) (f_rest : Nat → Int32) (f_ways : Nat → Int32) (f_costs : Nat → Int32) (f_bandBest : Nat → Int32) (f_found : Nat → Int32) (f_drawn : Nat → Int32) (f_joined : Nat → Int32) (f_out : Nat → Int32) (bi_keptMany : i_keptMany ≤ 10) (bi_taped : i_taped ≤ 400) (bi_spot : i_spot ≤ 400) (bi_begin : i_begin ≤ 400) (bi_full : i_full ≤ 511) (bi_outs : i_outs ≤ 400) (z : Nat) (bz : z < 3) (p : Nat) (bp : p < 9) (M : xMem) (hM : M = (P ++ (MDL L i_keptMany i_taped i_faultKind i_faultPlace i_spot i_begin i_token i_value i_bad i_full i_bandRows i_bandFirsts i_outs f_state f_was f_kept f_tape f_order f_rest f_ways f_costs f_bandBest f_found f_drawn f_joined f_out ++ R))) (Q : Int32 → Prop) (hq : Q (FX12_at f_state z p)) : xC G mX12_at 0 0 0 [.ref L, .int (nI z), .int (nI p)] M (fun v M2 => ∃ o : Int32, v = some (.int o) ∧ Q o ∧ M2 = (P ++ (MDL L i_keptMany i_taped i_faultKind i_faultPlace i_spot i_begin i_token i_value i_bad i_full i_bandRows i_bandFirsts i_outs f_state f_was f_kept f_tape f_order f_rest f_ways f_costs f_bandBest f_found f_drawn f_joined f_out ++ R))) := by
  subst hM
  unfold FX12_at at hq
  refine xC.of (by decide) (Nat.le_of_ble_eq_true rfl) ?_
  show xW _ _ _ _ 0 [(0, .ref L), (1, .int (nI z)), (2, .int (nI p))] [] _ 0 0
  refine xi_aload_n 0 dX12_at_0 rfl ?_
  refine xi_get (f := 0) dX12_at_1 (xpg0 hP rfl) rfl ok_9 (by decide) w_1008 rfl ?_
  refine xi_bipush (v := 91) dX12_at_4 (by decide) ?_
  refine xi_iload_n 1 dX12_at_6 rfl ?_
  refine xi_imul (v := (nI (91 * z))) dX12_at_7 (pk_mul 91 z) ?_
  refine xi_bipush (v := 82) dX12_at_8 (by decide) ?_
  refine xi_iadd (v := (nI ((91 * z) + 82))) dX12_at_10 (nI_add (91 * z) 82) ?_
  refine xi_iload_n 2 dX12_at_11 rfl ?_
  refine xi_iadd (v := (nI (((91 * z) + 82) + p))) dX12_at_12 (nI_add ((91 * z) + 82) p) ?_
  refine xi_iaload (v := (f_state (((91 * z) + 82) + p))) dX12_at_13 (xpg hP rfl) (vp_in_nI (by omega) (by decide)) (by rw [nI_clamp (by omega)]) ?_
  exact xi_iret dX12_at_14 rfl rfl (Nat.le_of_ble_eq_true rfl) (Nat.le_of_ble_eq_true rfl) ⟨_, rfl, hq, rfl⟩
def LX12_nearOf_5 (f_state : Nat → Int32) (n1 : Nat) (n2 : Nat) (K : Int32 → Int32) : Nat → Nat → Int32 → Int32
  | 0, _, v3 => K v3
  | k + 1, j, v3 => (if (FX12_weight f_state n1 n2 j) ≤ (0 : Int32) then (LX12_nearOf_5 f_state n1 n2 K k (j + 1) ((v3 ||| (0 : Int32)))) else (LX12_nearOf_5 f_state n1 n2 K k (j + 1) ((v3 ||| ((1 : Int32) <<< ((nI j) &&& 31))))))
set_option maxHeartbeats 4000000 in
set_option maxRecDepth 100000 in
theorem LX12_nearOf_5_s (G : xG) {P R : xMem} {L : Nat} (hP : P.length = L) (i_keptMany : Nat) (i_taped : Nat) (i_faultKind : Int32) (i_faultPlace : Int32) (i_spot : Nat) (i_begin : Nat) (i_token : Int32) (i_value : Int32) (i_bad : Int32) (i_full : Nat) (i_bandRows : Int32) (i_bandFirsts : Int32) (i_outs : Nat) (f_state : Nat → Int32) (f_was : Nat → Int32) (f_kept : Nat → Int32) (f_tape : Nat → Int32) (f_order : Nat → Int32) (f_rest : Nat → Int32) (f_ways : Nat → Int32) (f_costs : Nat → Int32) (f_bandBest : Nat → Int32) (f_found : Nat → Int32) (f_drawn : Nat → Int32) (f_joined : Nat → Int32) (f_out : Nat → Int32) (bi_keptMany : i_keptMany ≤ 10) (bi_taped : i_taped ≤ 400) (bi_spot : i_spot ≤ 400) (bi_begin : i_begin ≤ 400) (bi_full : i_full ≤ 511) (bi_outs : i_outs ≤ 400) (hG : GO f_state) (n1 : Nat) (bn1 : n1 < 3) (n2 : Nat) (bn2 : n2 < 9) (Q : Int32 → Prop) (K : Int32 → Int32) (HE : ∀ (v3 : Int32), Q (K v3) → xW G mX12_nearOf (xrm 1 0 0) (xQ G (fun v M2 => ∃ o : Int32, v = some (.int o) ∧ Q o ∧ M2 = (P ++ (MDL L i_keptMany i_taped i_faultKind i_faultPlace i_spot i_begin i_token i_value i_bad i_full i_bandRows i_bandFirsts i_outs f_state f_was f_kept f_tape f_order f_rest f_ways f_costs f_bandBest f_found f_drawn f_joined f_out ++ R))) 0 0) 43 [(3, .int v3)] [] (P ++ (MDL L i_keptMany i_taped i_faultKind i_faultPlace i_spot i_begin i_token i_value i_bad i_full i_bandRows i_bandFirsts i_outs f_state f_was f_kept f_tape f_order f_rest f_ways f_costs f_bandBest f_found f_drawn f_joined f_out ++ R)) 0 0) :
    ∀ (k j : Nat) (v3 : Int32), (f_state (91 * n1)).toNatClampNeg - j = k → j < 100000 → Q (LX12_nearOf_5 f_state n1 n2 K k j v3) → xW G mX12_nearOf (xrm 1 0 0) (xQ G (fun v M2 => ∃ o : Int32, v = some (.int o) ∧ Q o ∧ M2 = (P ++ (MDL L i_keptMany i_taped i_faultKind i_faultPlace i_spot i_begin i_token i_value i_bad i_full i_bandRows i_bandFirsts i_outs f_state f_was f_kept f_tape f_order f_rest f_ways f_costs f_bandBest f_found f_drawn f_joined f_out ++ R))) 0 0) 5 [(0, .ref L), (1, .int (nI n1)), (2, .int (nI n2)), (3, .int v3), (4, .int (nI j))] [] (P ++ (MDL L i_keptMany i_taped i_faultKind i_faultPlace i_spot i_begin i_token i_value i_bad i_full i_bandRows i_bandFirsts i_outs f_state f_was f_kept f_tape f_order f_rest f_ways f_costs f_bandBest f_found f_drawn f_joined f_out ++ R)) 0 0 := by
  intro k
  induction k with
  | zero =>
    intro j v3 hj hj2 hq
    rw [LX12_nearOf_5] at hq
    refine xi_iload 4 dX12_nearOf_5 rfl ?_
    refine xi_aload_n 0 dX12_nearOf_7 rfl ?_
    refine xi_iload_n 1 dX12_nearOf_8 rfl ?_
    refine xi_callV (as := [.int (nI n1)]) (rest := [.int (nI j)]) dX12_nearOf_9 (FX12_points_ok G hP i_keptMany i_taped i_faultKind i_faultPlace i_spot i_begin i_token i_value i_bad i_full i_bandRows i_bandFirsts i_outs f_state f_was f_kept f_tape f_order f_rest f_ways f_costs f_bandBest f_found f_drawn f_joined f_out (by omega) (by omega) (by omega) (by omega) (by omega) (by omega) n1 (by omega) _ rfl (fun r => r = nI ((f_state (91 * n1)).toNatClampNeg)) ((hG n1 (by omega)).1.1)) mkX12_points w_1108 ws_36 w_1106 (xpg0 hP rfl) rfl rfl rfl rfl (Nat.le_of_ble_eq_true rfl) (Nat.le_of_ble_eq_true rfl) (Nat.le_of_ble_eq_true rfl) (Nat.le_of_ble_eq_true rfl) (Nat.le_of_ble_eq_true rfl) ?_
    intro v M2 hz
    obtain ⟨_, rfl, rfl, rfl⟩ := hz
    show xW _ _ _ _ 12 _ [.int (nI ((f_state (91 * n1)).toNatClampNeg)), .int (nI j)] (P ++ (MDL L i_keptMany i_taped i_faultKind i_faultPlace i_spot i_begin i_token i_value i_bad i_full i_bandRows i_bandFirsts i_outs f_state f_was f_kept f_tape f_order f_rest f_ways f_costs f_bandBest f_found f_drawn f_joined f_out ++ R)) _ _
    have o3 := (hG n1 (by omega)).1.2
    refine xi_icmp_ge_t (tgt := 43) dX12_nearOf_12 (by decide) (nI_le (a := (f_state (91 * n1)).toNatClampNeg) (b := j) (by omega) (by omega)) ?_
    refine xi_sub (lv' := [(3, .int v3)]) [3] rfl ?_
    exact HE v3 hq
  | succ k ih =>
    intro j v3 hj hj2 hq
    rw [LX12_nearOf_5] at hq
    refine xi_iload 4 dX12_nearOf_5 rfl ?_
    refine xi_aload_n 0 dX12_nearOf_7 rfl ?_
    refine xi_iload_n 1 dX12_nearOf_8 rfl ?_
    refine xi_callV (as := [.int (nI n1)]) (rest := [.int (nI j)]) dX12_nearOf_9 (FX12_points_ok G hP i_keptMany i_taped i_faultKind i_faultPlace i_spot i_begin i_token i_value i_bad i_full i_bandRows i_bandFirsts i_outs f_state f_was f_kept f_tape f_order f_rest f_ways f_costs f_bandBest f_found f_drawn f_joined f_out (by omega) (by omega) (by omega) (by omega) (by omega) (by omega) n1 (by omega) _ rfl (fun r => r = nI ((f_state (91 * n1)).toNatClampNeg)) ((hG n1 (by omega)).1.1)) mkX12_points w_1108 ws_36 w_1106 (xpg0 hP rfl) rfl rfl rfl rfl (Nat.le_of_ble_eq_true rfl) (Nat.le_of_ble_eq_true rfl) (Nat.le_of_ble_eq_true rfl) (Nat.le_of_ble_eq_true rfl) (Nat.le_of_ble_eq_true rfl) ?_
    intro v M2 hz
    obtain ⟨_, rfl, rfl, rfl⟩ := hz
    show xW _ _ _ _ 12 _ [.int (nI ((f_state (91 * n1)).toNatClampNeg)), .int (nI j)] (P ++ (MDL L i_keptMany i_taped i_faultKind i_faultPlace i_spot i_begin i_token i_value i_bad i_full i_bandRows i_bandFirsts i_outs f_state f_was f_kept f_tape f_order f_rest f_ways f_costs f_bandBest f_found f_drawn f_joined f_out ++ R)) _ _
    have o1 := (hG n1 (by omega)).1.2
    refine xi_icmp_ge_f (tgt := 43) dX12_nearOf_12 (by decide) (nI_ge (a := j) (b := (f_state (91 * n1)).toNatClampNeg) (by omega) (by omega)) ?_
    refine xi_iload_n 3 dX12_nearOf_15 rfl ?_
    refine xi_aload_n 0 dX12_nearOf_16 rfl ?_
    refine xi_iload_n 1 dX12_nearOf_17 rfl ?_
    refine xi_iload_n 2 dX12_nearOf_18 rfl ?_
    refine xi_iload 4 dX12_nearOf_19 rfl ?_
    refine xi_callV (as := [.int (nI n1), .int (nI n2), .int (nI j)]) (rest := [.int v3]) dX12_nearOf_21 (FX12_weight_ok G hP i_keptMany i_taped i_faultKind i_faultPlace i_spot i_begin i_token i_value i_bad i_full i_bandRows i_bandFirsts i_outs f_state f_was f_kept f_tape f_order f_rest f_ways f_costs f_bandBest f_found f_drawn f_joined f_out (by omega) (by omega) (by omega) (by omega) (by omega) (by omega) n1 (by omega) n2 (by omega) j (by omega) _ rfl (fun r => r = FX12_weight f_state n1 n2 j) rfl) mkX12_weight w_1192 ws_53 w_1190 (xpg0 hP rfl) rfl rfl rfl rfl (Nat.le_of_ble_eq_true rfl) (Nat.le_of_ble_eq_true rfl) (Nat.le_of_ble_eq_true rfl) (Nat.le_of_ble_eq_true rfl) (Nat.le_of_ble_eq_true rfl) ?_
    intro v M2 hz
    obtain ⟨_, rfl, rfl, rfl⟩ := hz
    show xW _ _ _ _ 24 _ [.int (FX12_weight f_state n1 n2 j), .int v3] (P ++ (MDL L i_keptMany i_taped i_faultKind i_faultPlace i_spot i_begin i_token i_value i_bad i_full i_bandRows i_bandFirsts i_outs f_state f_was f_kept f_tape f_order f_rest f_ways f_costs f_bandBest f_found f_drawn f_joined f_out ++ R)) _ _
    refine xi_if_le (tgt := 34) dX12_nearOf_24 (by decide) (fun c2 => ?_) (fun c2 => ?_)
    · rw [if_pos c2] at hq
      refine xi_iconst (v := 0) dX12_nearOf_34 (by decide) ?_
      refine xi_ior (v := (v3 ||| (0 : Int32))) dX12_nearOf_35 rfl ?_
      refine xi_istore_n (lv' := [(3, .int (v3 ||| (0 : Int32))), (0, .ref L), (1, .int (nI n1)), (2, .int (nI n2)), (4, .int (nI j))]) dX12_nearOf_36 (by decide) rfl ?_
      refine xi_iinc (v := (nI (j + 1))) (lv' := [(4, .int (nI (j + 1))), (3, .int (v3 ||| (0 : Int32))), (0, .ref L), (1, .int (nI n1)), (2, .int (nI n2))]) 4 dX12_nearOf_37 rfl (nI_1 _) (by decide) rfl ?_
      refine xi_goto (tgt := 5) dX12_nearOf_40 (by decide) ?_
      refine xi_sub (lv' := [(0, .ref L), (1, .int (nI n1)), (2, .int (nI n2)), (3, .int (v3 ||| (0 : Int32))), (4, .int (nI (j + 1)))]) [2, 3, 4, 1, 0] rfl ?_
      exact ih (j + 1) ((v3 ||| (0 : Int32))) (by omega) (by omega) hq
    · rw [if_neg c2] at hq
      refine xi_iconst (v := 1) dX12_nearOf_27 (by decide) ?_
      refine xi_iload 4 dX12_nearOf_28 rfl ?_
      refine xi_ishl (v := ((1 : Int32) <<< ((nI j) &&& 31))) dX12_nearOf_30 rfl ?_
      refine xi_goto (tgt := 35) dX12_nearOf_31 (by decide) ?_
      refine xi_ior (v := (v3 ||| ((1 : Int32) <<< ((nI j) &&& 31)))) dX12_nearOf_35 rfl ?_
      refine xi_istore_n (lv' := [(3, .int (v3 ||| ((1 : Int32) <<< ((nI j) &&& 31)))), (0, .ref L), (1, .int (nI n1)), (2, .int (nI n2)), (4, .int (nI j))]) dX12_nearOf_36 (by decide) rfl ?_
      refine xi_iinc (v := (nI (j + 1))) (lv' := [(4, .int (nI (j + 1))), (3, .int (v3 ||| ((1 : Int32) <<< ((nI j) &&& 31)))), (0, .ref L), (1, .int (nI n1)), (2, .int (nI n2))]) 4 dX12_nearOf_37 rfl (nI_1 _) (by decide) rfl ?_
      refine xi_goto (tgt := 5) dX12_nearOf_40 (by decide) ?_
      refine xi_sub (lv' := [(0, .ref L), (1, .int (nI n1)), (2, .int (nI n2)), (3, .int (v3 ||| ((1 : Int32) <<< ((nI j) &&& 31)))), (4, .int (nI (j + 1)))]) [2, 3, 4, 1, 0] rfl ?_
      exact ih (j + 1) ((v3 ||| ((1 : Int32) <<< ((nI j) &&& 31)))) (by omega) (by omega) hq
def FX12_nearOf (f_state : Nat → Int32) (z : Nat) (p : Nat) : Int32 := (LX12_nearOf_5 f_state z p (fun u4 => u4) ((f_state (91 * z)).toNatClampNeg - 0) 0 ((0 : Int32)))
set_option maxHeartbeats 4000000 in
set_option maxRecDepth 100000 in
theorem FX12_nearOf_ok (G : xG) {P R : xMem} {L : Nat} (hP : P.length = L) (i_keptMany : Nat) (i_taped : Nat) (i_faultKind : Int32) (i_faultPlace : Int32) (i_spot : Nat) (i_begin : Nat) (i_token : Int32) (i_value : Int32) (i_bad : Int32) (i_full : Nat) (i_bandRows : Int32) (i_bandFirsts : Int32) (i_outs : Nat) (f_state : Nat → Int32) (f_was : Nat → Int32) (f_kept : Nat → Int32) (f_tape : Nat → Int32) (f_order : Nat → Int32) (f_rest : Nat → Int32) (f_ways : Nat → Int32) (f_costs : Nat → Int32) (f_bandBest : Nat → Int32) (f_found : Nat → Int32) (f_drawn : Nat → Int32) (f_joined : Nat → Int32) (f_out : Nat → Int32) (bi_keptMany : i_keptMany ≤ 10) (bi_taped : i_taped ≤ 400) (bi_spot : i_spot ≤ 400) (bi_begin : i_begin ≤ 400) (bi_full : i_full ≤ 511) (bi_outs : i_outs ≤ 400) (hG : GO f_state) (z : Nat) (bz : z < 3) (p : Nat) (bp : p < 9) (M : xMem) (hM : M = (P ++ (MDL L i_keptMany i_taped i_faultKind i_faultPlace i_spot i_begin i_token i_value i_bad i_full i_bandRows i_bandFirsts i_outs f_state f_was f_kept f_tape f_order f_rest f_ways f_costs f_bandBest f_found f_drawn f_joined f_out ++ R))) (Q : Int32 → Prop) (hq : Q (FX12_nearOf f_state z p)) : xC G mX12_nearOf 1 0 0 [.ref L, .int (nI z), .int (nI p)] M (fun v M2 => ∃ o : Int32, v = some (.int o) ∧ Q o ∧ M2 = (P ++ (MDL L i_keptMany i_taped i_faultKind i_faultPlace i_spot i_begin i_token i_value i_bad i_full i_bandRows i_bandFirsts i_outs f_state f_was f_kept f_tape f_order f_rest f_ways f_costs f_bandBest f_found f_drawn f_joined f_out ++ R))) := by
  subst hM
  unfold FX12_nearOf at hq
  refine xC.of (by decide) (Nat.le_of_ble_eq_true rfl) ?_
  show xW _ _ _ _ 0 [(0, .ref L), (1, .int (nI z)), (2, .int (nI p))] [] _ 0 0
  refine xi_iconst (v := 0) dX12_nearOf_0 (by decide) ?_
  refine xi_istore_n (lv' := [(3, .int 0), (0, .ref L), (1, .int (nI z)), (2, .int (nI p))]) dX12_nearOf_1 (by decide) rfl ?_
  refine xi_iconst (v := 0) dX12_nearOf_2 (by decide) ?_
  refine xi_istore (lv' := [(4, .int 0), (3, .int 0), (0, .ref L), (1, .int (nI z)), (2, .int (nI p))]) dX12_nearOf_3 (by decide) rfl ?_
  refine xi_sub (lv' := [(0, .ref L), (1, .int (nI z)), (2, .int (nI p)), (3, .int 0), (4, .int 0)]) [2, 3, 4, 1, 0] rfl ?_
  refine LX12_nearOf_5_s G hP i_keptMany i_taped i_faultKind i_faultPlace i_spot i_begin i_token i_value i_bad i_full i_bandRows i_bandFirsts i_outs f_state f_was f_kept f_tape f_order f_rest f_ways f_costs f_bandBest f_found f_drawn f_joined f_out (by omega) (by omega) (by omega) (by omega) (by omega) (by omega) hG z (by omega) p (by omega) Q _ (fun u4 hq => ?_) ((f_state (91 * z)).toNatClampNeg - 0) 0 ((0 : Int32)) rfl (by omega) hq
  refine xi_iload_n 0 dX12_nearOf_43 rfl ?_
  exact xi_iret dX12_nearOf_44 rfl rfl (Nat.le_of_ble_eq_true rfl) (Nat.le_of_ble_eq_true rfl) ⟨_, rfl, hq, rfl⟩
def FX12_has (x : Int32) (y : Int32) : Int32 := (if ((x >>> (y &&& 31)) &&& (1 : Int32)) = (1 : Int32) then (1 : Int32) else (0 : Int32))
set_option maxHeartbeats 4000000 in
set_option maxRecDepth 100000 in
theorem FX12_has_ok (G : xG) {M : xMem} (x : Int32) (y : Int32) (Q : Int32 → Prop) (hq : Q (FX12_has x y)) : xC G mX12_has 0 0 0 [.int x, .int y] M (fun v M2 => ∃ r, v = some (.int r) ∧ Q r ∧ M2 = M) := by
  unfold FX12_has at hq
  refine xC.of (by decide) (Nat.le_of_ble_eq_true rfl) ?_
  show xW _ _ _ _ 0 [(0, .int x), (1, .int y)] [] _ 0 0
  refine xi_iload_n 0 dX12_has_0 rfl ?_
  refine xi_iload_n 1 dX12_has_1 rfl ?_
  refine xi_ishr (v := (x >>> (y &&& 31))) dX12_has_2 rfl ?_
  refine xi_iconst (v := 1) dX12_has_3 (by decide) ?_
  refine xi_iand (v := ((x >>> (y &&& 31)) &&& (1 : Int32))) dX12_has_4 rfl ?_
  refine xi_iconst (v := 1) dX12_has_5 (by decide) ?_
  refine xi_icmp_ne (tgt := 13) dX12_has_6 (by decide) (fun c1 => ?_) (fun c1 => ?_)
  · rw [if_neg c1] at hq
    refine xi_iconst (v := 0) dX12_has_13 (by decide) ?_
    exact xi_iret dX12_has_14 rfl (by decide) (Nat.le_of_ble_eq_true rfl) (Nat.le_of_ble_eq_true rfl) ⟨_, rfl, hq, rfl⟩
  · rw [if_pos c1] at hq
    refine xi_iconst (v := 1) dX12_has_9 (by decide) ?_
    refine xi_goto (tgt := 14) dX12_has_10 (by decide) ?_
    exact xi_iret dX12_has_14 rfl (by decide) (Nat.le_of_ble_eq_true rfl) (Nat.le_of_ble_eq_true rfl) ⟨_, rfl, hq, rfl⟩
theorem FX12_has_b (x : Int32) (y : Int32) : FX12_has x y = 0 ∨ FX12_has x y = 1 := by
  unfold FX12_has
  (repeat' split) <;> first | exact Or.inl rfl | exact Or.inr rfl
def LX12_weightOf_5 (f_state : Nat → Int32) (n1 : Nat) (n2 : Nat) (K : Int32 → Int32) : Nat → Nat → Int32 → Int32
  | 0, _, v3 => K v3
  | k + 1, j, v3 => (LX12_weightOf_5 f_state n1 n2 K k (j + 1) ((v3 + (FX12_weight f_state n1 n2 j))))
set_option maxHeartbeats 4000000 in
set_option maxRecDepth 100000 in
theorem LX12_weightOf_5_s (G : xG) {P R : xMem} {L : Nat} (hP : P.length = L) (i_keptMany : Nat) (i_taped : Nat) (i_faultKind : Int32) (i_faultPlace : Int32) (i_spot : Nat) (i_begin : Nat) (i_token : Int32) (i_value : Int32) (i_bad : Int32) (i_full : Nat) (i_bandRows : Int32) (i_bandFirsts : Int32) (i_outs : Nat) (f_state : Nat → Int32) (f_was : Nat → Int32) (f_kept : Nat → Int32) (f_tape : Nat → Int32) (f_order : Nat → Int32) (f_rest : Nat → Int32) (f_ways : Nat → Int32) (f_costs : Nat → Int32) (f_bandBest : Nat → Int32) (f_found : Nat → Int32) (f_drawn : Nat → Int32) (f_joined : Nat → Int32) (f_out : Nat → Int32) (bi_keptMany : i_keptMany ≤ 10) (bi_taped : i_taped ≤ 400) (bi_spot : i_spot ≤ 400) (bi_begin : i_begin ≤ 400) (bi_full : i_full ≤ 511) (bi_outs : i_outs ≤ 400) (hG : GO f_state) (n1 : Nat) (bn1 : n1 < 3) (n2 : Nat) (bn2 : n2 < 9) (Q : Int32 → Prop) (K : Int32 → Int32) (HE : ∀ (v3 : Int32), Q (K v3) → xW G mX12_weightOf (xrm 1 0 0) (xQ G (fun v M2 => ∃ o : Int32, v = some (.int o) ∧ Q o ∧ M2 = (P ++ (MDL L i_keptMany i_taped i_faultKind i_faultPlace i_spot i_begin i_token i_value i_bad i_full i_bandRows i_bandFirsts i_outs f_state f_was f_kept f_tape f_order f_rest f_ways f_costs f_bandBest f_found f_drawn f_joined f_out ++ R))) 0 0) 32 [(3, .int v3)] [] (P ++ (MDL L i_keptMany i_taped i_faultKind i_faultPlace i_spot i_begin i_token i_value i_bad i_full i_bandRows i_bandFirsts i_outs f_state f_was f_kept f_tape f_order f_rest f_ways f_costs f_bandBest f_found f_drawn f_joined f_out ++ R)) 0 0) :
    ∀ (k j : Nat) (v3 : Int32), (f_state (91 * n1)).toNatClampNeg - j = k → j < 100000 → Q (LX12_weightOf_5 f_state n1 n2 K k j v3) → xW G mX12_weightOf (xrm 1 0 0) (xQ G (fun v M2 => ∃ o : Int32, v = some (.int o) ∧ Q o ∧ M2 = (P ++ (MDL L i_keptMany i_taped i_faultKind i_faultPlace i_spot i_begin i_token i_value i_bad i_full i_bandRows i_bandFirsts i_outs f_state f_was f_kept f_tape f_order f_rest f_ways f_costs f_bandBest f_found f_drawn f_joined f_out ++ R))) 0 0) 5 [(0, .ref L), (1, .int (nI n1)), (2, .int (nI n2)), (3, .int v3), (4, .int (nI j))] [] (P ++ (MDL L i_keptMany i_taped i_faultKind i_faultPlace i_spot i_begin i_token i_value i_bad i_full i_bandRows i_bandFirsts i_outs f_state f_was f_kept f_tape f_order f_rest f_ways f_costs f_bandBest f_found f_drawn f_joined f_out ++ R)) 0 0 := by
  intro k
  induction k with
  | zero =>
    intro j v3 hj hj2 hq
    rw [LX12_weightOf_5] at hq
    refine xi_iload 4 dX12_weightOf_5 rfl ?_
    refine xi_aload_n 0 dX12_weightOf_7 rfl ?_
    refine xi_iload_n 1 dX12_weightOf_8 rfl ?_
    refine xi_callV (as := [.int (nI n1)]) (rest := [.int (nI j)]) dX12_weightOf_9 (FX12_points_ok G hP i_keptMany i_taped i_faultKind i_faultPlace i_spot i_begin i_token i_value i_bad i_full i_bandRows i_bandFirsts i_outs f_state f_was f_kept f_tape f_order f_rest f_ways f_costs f_bandBest f_found f_drawn f_joined f_out (by omega) (by omega) (by omega) (by omega) (by omega) (by omega) n1 (by omega) _ rfl (fun r => r = nI ((f_state (91 * n1)).toNatClampNeg)) ((hG n1 (by omega)).1.1)) mkX12_points w_1108 ws_36 w_1106 (xpg0 hP rfl) rfl rfl rfl rfl (Nat.le_of_ble_eq_true rfl) (Nat.le_of_ble_eq_true rfl) (Nat.le_of_ble_eq_true rfl) (Nat.le_of_ble_eq_true rfl) (Nat.le_of_ble_eq_true rfl) ?_
    intro v M2 hz
    obtain ⟨_, rfl, rfl, rfl⟩ := hz
    show xW _ _ _ _ 12 _ [.int (nI ((f_state (91 * n1)).toNatClampNeg)), .int (nI j)] (P ++ (MDL L i_keptMany i_taped i_faultKind i_faultPlace i_spot i_begin i_token i_value i_bad i_full i_bandRows i_bandFirsts i_outs f_state f_was f_kept f_tape f_order f_rest f_ways f_costs f_bandBest f_found f_drawn f_joined f_out ++ R)) _ _
    have o2 := (hG n1 (by omega)).1.2
    refine xi_icmp_ge_t (tgt := 32) dX12_weightOf_12 (by decide) (nI_le (a := (f_state (91 * n1)).toNatClampNeg) (b := j) (by omega) (by omega)) ?_
    refine xi_sub (lv' := [(3, .int v3)]) [3] rfl ?_
    exact HE v3 hq
  | succ k ih =>
    intro j v3 hj hj2 hq
    rw [LX12_weightOf_5] at hq
    refine xi_iload 4 dX12_weightOf_5 rfl ?_
    refine xi_aload_n 0 dX12_weightOf_7 rfl ?_
    refine xi_iload_n 1 dX12_weightOf_8 rfl ?_
    refine xi_callV (as := [.int (nI n1)]) (rest := [.int (nI j)]) dX12_weightOf_9 (FX12_points_ok G hP i_keptMany i_taped i_faultKind i_faultPlace i_spot i_begin i_token i_value i_bad i_full i_bandRows i_bandFirsts i_outs f_state f_was f_kept f_tape f_order f_rest f_ways f_costs f_bandBest f_found f_drawn f_joined f_out (by omega) (by omega) (by omega) (by omega) (by omega) (by omega) n1 (by omega) _ rfl (fun r => r = nI ((f_state (91 * n1)).toNatClampNeg)) ((hG n1 (by omega)).1.1)) mkX12_points w_1108 ws_36 w_1106 (xpg0 hP rfl) rfl rfl rfl rfl (Nat.le_of_ble_eq_true rfl) (Nat.le_of_ble_eq_true rfl) (Nat.le_of_ble_eq_true rfl) (Nat.le_of_ble_eq_true rfl) (Nat.le_of_ble_eq_true rfl) ?_
    intro v M2 hz
    obtain ⟨_, rfl, rfl, rfl⟩ := hz
    show xW _ _ _ _ 12 _ [.int (nI ((f_state (91 * n1)).toNatClampNeg)), .int (nI j)] (P ++ (MDL L i_keptMany i_taped i_faultKind i_faultPlace i_spot i_begin i_token i_value i_bad i_full i_bandRows i_bandFirsts i_outs f_state f_was f_kept f_tape f_order f_rest f_ways f_costs f_bandBest f_found f_drawn f_joined f_out ++ R)) _ _
    have o1 := (hG n1 (by omega)).1.2
    refine xi_icmp_ge_f (tgt := 32) dX12_weightOf_12 (by decide) (nI_ge (a := j) (b := (f_state (91 * n1)).toNatClampNeg) (by omega) (by omega)) ?_
    refine xi_iload_n 3 dX12_weightOf_15 rfl ?_
    refine xi_aload_n 0 dX12_weightOf_16 rfl ?_
    refine xi_iload_n 1 dX12_weightOf_17 rfl ?_
    refine xi_iload_n 2 dX12_weightOf_18 rfl ?_
    refine xi_iload 4 dX12_weightOf_19 rfl ?_
    refine xi_callV (as := [.int (nI n1), .int (nI n2), .int (nI j)]) (rest := [.int v3]) dX12_weightOf_21 (FX12_weight_ok G hP i_keptMany i_taped i_faultKind i_faultPlace i_spot i_begin i_token i_value i_bad i_full i_bandRows i_bandFirsts i_outs f_state f_was f_kept f_tape f_order f_rest f_ways f_costs f_bandBest f_found f_drawn f_joined f_out (by omega) (by omega) (by omega) (by omega) (by omega) (by omega) n1 (by omega) n2 (by omega) j (by omega) _ rfl (fun r => r = FX12_weight f_state n1 n2 j) rfl) mkX12_weight w_1192 ws_53 w_1190 (xpg0 hP rfl) rfl rfl rfl rfl (Nat.le_of_ble_eq_true rfl) (Nat.le_of_ble_eq_true rfl) (Nat.le_of_ble_eq_true rfl) (Nat.le_of_ble_eq_true rfl) (Nat.le_of_ble_eq_true rfl) ?_
    intro v M2 hz
    obtain ⟨_, rfl, rfl, rfl⟩ := hz
    show xW _ _ _ _ 24 _ [.int (FX12_weight f_state n1 n2 j), .int v3] (P ++ (MDL L i_keptMany i_taped i_faultKind i_faultPlace i_spot i_begin i_token i_value i_bad i_full i_bandRows i_bandFirsts i_outs f_state f_was f_kept f_tape f_order f_rest f_ways f_costs f_bandBest f_found f_drawn f_joined f_out ++ R)) _ _
    refine xi_iadd (v := (v3 + (FX12_weight f_state n1 n2 j))) dX12_weightOf_24 rfl ?_
    refine xi_istore_n (lv' := [(3, .int (v3 + (FX12_weight f_state n1 n2 j))), (0, .ref L), (1, .int (nI n1)), (2, .int (nI n2)), (4, .int (nI j))]) dX12_weightOf_25 (by decide) rfl ?_
    refine xi_iinc (v := (nI (j + 1))) (lv' := [(4, .int (nI (j + 1))), (3, .int (v3 + (FX12_weight f_state n1 n2 j))), (0, .ref L), (1, .int (nI n1)), (2, .int (nI n2))]) 4 dX12_weightOf_26 rfl (nI_1 _) (by decide) rfl ?_
    refine xi_goto (tgt := 5) dX12_weightOf_29 (by decide) ?_
    refine xi_sub (lv' := [(0, .ref L), (1, .int (nI n1)), (2, .int (nI n2)), (3, .int (v3 + (FX12_weight f_state n1 n2 j))), (4, .int (nI (j + 1)))]) [2, 3, 4, 1, 0] rfl ?_
    exact ih (j + 1) ((v3 + (FX12_weight f_state n1 n2 j))) (by omega) (by omega) hq
def FX12_weightOf (f_state : Nat → Int32) (z : Nat) (p : Nat) : Int32 := (LX12_weightOf_5 f_state z p (fun u3 => u3) ((f_state (91 * z)).toNatClampNeg - 0) 0 ((0 : Int32)))
set_option maxHeartbeats 4000000 in
set_option maxRecDepth 100000 in
theorem FX12_weightOf_ok (G : xG) {P R : xMem} {L : Nat} (hP : P.length = L) (i_keptMany : Nat) (i_taped : Nat) (i_faultKind : Int32) (i_faultPlace : Int32) (i_spot : Nat) (i_begin : Nat) (i_token : Int32) (i_value : Int32) (i_bad : Int32) (i_full : Nat) (i_bandRows : Int32) (i_bandFirsts : Int32) (i_outs : Nat) (f_state : Nat → Int32) (f_was : Nat → Int32) (f_kept : Nat → Int32) (f_tape : Nat → Int32) (f_order : Nat → Int32) (f_rest : Nat → Int32) (f_ways : Nat → Int32) (f_costs : Nat → Int32) (f_bandBest : Nat → Int32) (f_found : Nat → Int32) (f_drawn : Nat → Int32) (f_joined : Nat → Int32) (f_out : Nat → Int32) (bi_keptMany : i_keptMany ≤ 10) (bi_taped : i_taped ≤ 400) (bi_spot : i_spot ≤ 400) (bi_begin : i_begin ≤ 400) (bi_full : i_full ≤ 511) (bi_outs : i_outs ≤ 400) (hG : GO f_state) (z : Nat) (bz : z < 3) (p : Nat) (bp : p < 9) (M : xMem) (hM : M = (P ++ (MDL L i_keptMany i_taped i_faultKind i_faultPlace i_spot i_begin i_token i_value i_bad i_full i_bandRows i_bandFirsts i_outs f_state f_was f_kept f_tape f_order f_rest f_ways f_costs f_bandBest f_found f_drawn f_joined f_out ++ R))) (Q : Int32 → Prop) (hq : Q (FX12_weightOf f_state z p)) : xC G mX12_weightOf 1 0 0 [.ref L, .int (nI z), .int (nI p)] M (fun v M2 => ∃ o : Int32, v = some (.int o) ∧ Q o ∧ M2 = (P ++ (MDL L i_keptMany i_taped i_faultKind i_faultPlace i_spot i_begin i_token i_value i_bad i_full i_bandRows i_bandFirsts i_outs f_state f_was f_kept f_tape f_order f_rest f_ways f_costs f_bandBest f_found f_drawn f_joined f_out ++ R))) := by
  subst hM
  unfold FX12_weightOf at hq
  refine xC.of (by decide) (Nat.le_of_ble_eq_true rfl) ?_
  show xW _ _ _ _ 0 [(0, .ref L), (1, .int (nI z)), (2, .int (nI p))] [] _ 0 0
  refine xi_iconst (v := 0) dX12_weightOf_0 (by decide) ?_
  refine xi_istore_n (lv' := [(3, .int 0), (0, .ref L), (1, .int (nI z)), (2, .int (nI p))]) dX12_weightOf_1 (by decide) rfl ?_
  refine xi_iconst (v := 0) dX12_weightOf_2 (by decide) ?_
  refine xi_istore (lv' := [(4, .int 0), (3, .int 0), (0, .ref L), (1, .int (nI z)), (2, .int (nI p))]) dX12_weightOf_3 (by decide) rfl ?_
  refine xi_sub (lv' := [(0, .ref L), (1, .int (nI z)), (2, .int (nI p)), (3, .int 0), (4, .int 0)]) [2, 3, 4, 1, 0] rfl ?_
  refine LX12_weightOf_5_s G hP i_keptMany i_taped i_faultKind i_faultPlace i_spot i_begin i_token i_value i_bad i_full i_bandRows i_bandFirsts i_outs f_state f_was f_kept f_tape f_order f_rest f_ways f_costs f_bandBest f_found f_drawn f_joined f_out (by omega) (by omega) (by omega) (by omega) (by omega) (by omega) hG z (by omega) p (by omega) Q _ (fun u3 hq => ?_) ((f_state (91 * z)).toNatClampNeg - 0) 0 ((0 : Int32)) rfl (by omega) hq
  refine xi_iload_n 0 dX12_weightOf_32 rfl ?_
  exact xi_iret dX12_weightOf_33 rfl rfl (Nat.le_of_ble_eq_true rfl) (Nat.le_of_ble_eq_true rfl) ⟨_, rfl, hq, rfl⟩
def LX12_aheadOf_5 (f_state : Nat → Int32) (n1 : Nat) (n2 : Nat) (K : Int32 → Int32) : Nat → Nat → Int32 → Int32
  | 0, _, v3 => K v3
  | k + 1, j, v3 => (LX12_aheadOf_5 f_state n1 n2 K k (j + 1) ((v3 ||| ((1 : Int32) <<< ((nI ((f_state (91 * n1 + 82 + j)).toNatClampNeg)) &&& 31)))))
set_option maxHeartbeats 4000000 in
set_option maxRecDepth 100000 in
theorem LX12_aheadOf_5_s (G : xG) {P R : xMem} {L : Nat} (hP : P.length = L) (i_keptMany : Nat) (i_taped : Nat) (i_faultKind : Int32) (i_faultPlace : Int32) (i_spot : Nat) (i_begin : Nat) (i_token : Int32) (i_value : Int32) (i_bad : Int32) (i_full : Nat) (i_bandRows : Int32) (i_bandFirsts : Int32) (i_outs : Nat) (f_state : Nat → Int32) (f_was : Nat → Int32) (f_kept : Nat → Int32) (f_tape : Nat → Int32) (f_order : Nat → Int32) (f_rest : Nat → Int32) (f_ways : Nat → Int32) (f_costs : Nat → Int32) (f_bandBest : Nat → Int32) (f_found : Nat → Int32) (f_drawn : Nat → Int32) (f_joined : Nat → Int32) (f_out : Nat → Int32) (bi_keptMany : i_keptMany ≤ 10) (bi_taped : i_taped ≤ 400) (bi_spot : i_spot ≤ 400) (bi_begin : i_begin ≤ 400) (bi_full : i_full ≤ 511) (bi_outs : i_outs ≤ 400) (hG : GO f_state) (n1 : Nat) (bn1 : n1 < 3) (n2 : Nat) (bn2 : n2 < 10) (Q : Int32 → Prop) (K : Int32 → Int32) (HE : ∀ (v3 : Int32), Q (K v3) → xW G mX12_aheadOf (xrm 1 0 0) (xQ G (fun v M2 => ∃ o : Int32, v = some (.int o) ∧ Q o ∧ M2 = (P ++ (MDL L i_keptMany i_taped i_faultKind i_faultPlace i_spot i_begin i_token i_value i_bad i_full i_bandRows i_bandFirsts i_outs f_state f_was f_kept f_tape f_order f_rest f_ways f_costs f_bandBest f_found f_drawn f_joined f_out ++ R))) 0 0) 29 [(3, .int v3)] [] (P ++ (MDL L i_keptMany i_taped i_faultKind i_faultPlace i_spot i_begin i_token i_value i_bad i_full i_bandRows i_bandFirsts i_outs f_state f_was f_kept f_tape f_order f_rest f_ways f_costs f_bandBest f_found f_drawn f_joined f_out ++ R)) 0 0) :
    ∀ (k j : Nat) (v3 : Int32), n2 - j = k → j < 100000 → Q (LX12_aheadOf_5 f_state n1 n2 K k j v3) → xW G mX12_aheadOf (xrm 1 0 0) (xQ G (fun v M2 => ∃ o : Int32, v = some (.int o) ∧ Q o ∧ M2 = (P ++ (MDL L i_keptMany i_taped i_faultKind i_faultPlace i_spot i_begin i_token i_value i_bad i_full i_bandRows i_bandFirsts i_outs f_state f_was f_kept f_tape f_order f_rest f_ways f_costs f_bandBest f_found f_drawn f_joined f_out ++ R))) 0 0) 5 [(0, .ref L), (1, .int (nI n1)), (2, .int (nI n2)), (3, .int v3), (4, .int (nI j))] [] (P ++ (MDL L i_keptMany i_taped i_faultKind i_faultPlace i_spot i_begin i_token i_value i_bad i_full i_bandRows i_bandFirsts i_outs f_state f_was f_kept f_tape f_order f_rest f_ways f_costs f_bandBest f_found f_drawn f_joined f_out ++ R)) 0 0 := by
  intro k
  induction k with
  | zero =>
    intro j v3 hj hj2 hq
    rw [LX12_aheadOf_5] at hq
    refine xi_iload 4 dX12_aheadOf_5 rfl ?_
    refine xi_iload_n 2 dX12_aheadOf_7 rfl ?_
    refine xi_icmp_ge_t (tgt := 29) dX12_aheadOf_8 (by decide) (nI_le (a := n2) (b := j) (by omega) (by omega)) ?_
    refine xi_sub (lv' := [(3, .int v3)]) [3] rfl ?_
    exact HE v3 hq
  | succ k ih =>
    intro j v3 hj hj2 hq
    rw [LX12_aheadOf_5] at hq
    refine xi_iload 4 dX12_aheadOf_5 rfl ?_
    refine xi_iload_n 2 dX12_aheadOf_7 rfl ?_
    refine xi_icmp_ge_f (tgt := 29) dX12_aheadOf_8 (by decide) (nI_ge (a := j) (b := n2) (by omega) (by omega)) ?_
    refine xi_iload_n 3 dX12_aheadOf_11 rfl ?_
    refine xi_iconst (v := 1) dX12_aheadOf_12 (by decide) ?_
    refine xi_aload_n 0 dX12_aheadOf_13 rfl ?_
    refine xi_iload_n 1 dX12_aheadOf_14 rfl ?_
    refine xi_iload 4 dX12_aheadOf_15 rfl ?_
    refine xi_callV (as := [.int (nI n1), .int (nI j)]) (rest := [.int 1, .int v3]) dX12_aheadOf_17 (FX12_at_ok G hP i_keptMany i_taped i_faultKind i_faultPlace i_spot i_begin i_token i_value i_bad i_full i_bandRows i_bandFirsts i_outs f_state f_was f_kept f_tape f_order f_rest f_ways f_costs f_bandBest f_found f_drawn f_joined f_out (by omega) (by omega) (by omega) (by omega) (by omega) (by omega) n1 (by omega) j (by omega) _ rfl (fun r => r = nI ((f_state (91 * n1 + 82 + j)).toNatClampNeg)) (((hG n1 (by omega)).2 j (by omega)).1)) mkX12_at w_1273 ws_64 w_1271 (xpg0 hP rfl) rfl rfl rfl rfl (Nat.le_of_ble_eq_true rfl) (Nat.le_of_ble_eq_true rfl) (Nat.le_of_ble_eq_true rfl) (Nat.le_of_ble_eq_true rfl) (Nat.le_of_ble_eq_true rfl) ?_
    intro v M2 hz
    obtain ⟨_, rfl, rfl, rfl⟩ := hz
    show xW _ _ _ _ 20 _ [.int (nI ((f_state (91 * n1 + 82 + j)).toNatClampNeg)), .int 1, .int v3] (P ++ (MDL L i_keptMany i_taped i_faultKind i_faultPlace i_spot i_begin i_token i_value i_bad i_full i_bandRows i_bandFirsts i_outs f_state f_was f_kept f_tape f_order f_rest f_ways f_costs f_bandBest f_found f_drawn f_joined f_out ++ R)) _ _
    have o1 := ((hG n1 (by omega)).2 j (by omega)).2
    refine xi_ishl (v := ((1 : Int32) <<< ((nI ((f_state (91 * n1 + 82 + j)).toNatClampNeg)) &&& 31))) dX12_aheadOf_20 rfl ?_
    refine xi_ior (v := (v3 ||| ((1 : Int32) <<< ((nI ((f_state (91 * n1 + 82 + j)).toNatClampNeg)) &&& 31)))) dX12_aheadOf_21 rfl ?_
    refine xi_istore_n (lv' := [(3, .int (v3 ||| ((1 : Int32) <<< ((nI ((f_state (91 * n1 + 82 + j)).toNatClampNeg)) &&& 31)))), (0, .ref L), (1, .int (nI n1)), (2, .int (nI n2)), (4, .int (nI j))]) dX12_aheadOf_22 (by decide) rfl ?_
    refine xi_iinc (v := (nI (j + 1))) (lv' := [(4, .int (nI (j + 1))), (3, .int (v3 ||| ((1 : Int32) <<< ((nI ((f_state (91 * n1 + 82 + j)).toNatClampNeg)) &&& 31)))), (0, .ref L), (1, .int (nI n1)), (2, .int (nI n2))]) 4 dX12_aheadOf_23 rfl (nI_1 _) (by decide) rfl ?_
    refine xi_goto (tgt := 5) dX12_aheadOf_26 (by decide) ?_
    refine xi_sub (lv' := [(0, .ref L), (1, .int (nI n1)), (2, .int (nI n2)), (3, .int (v3 ||| ((1 : Int32) <<< ((nI ((f_state (91 * n1 + 82 + j)).toNatClampNeg)) &&& 31)))), (4, .int (nI (j + 1)))]) [2, 3, 4, 1, 0] rfl ?_
    exact ih (j + 1) ((v3 ||| ((1 : Int32) <<< ((nI ((f_state (91 * n1 + 82 + j)).toNatClampNeg)) &&& 31)))) (by omega) (by omega) hq
def FX12_aheadOf (f_state : Nat → Int32) (z : Nat) (p : Nat) : Int32 := (LX12_aheadOf_5 f_state z p (fun u2 => u2) (p - 0) 0 ((0 : Int32)))
set_option maxHeartbeats 4000000 in
set_option maxRecDepth 100000 in
theorem FX12_aheadOf_ok (G : xG) {P R : xMem} {L : Nat} (hP : P.length = L) (i_keptMany : Nat) (i_taped : Nat) (i_faultKind : Int32) (i_faultPlace : Int32) (i_spot : Nat) (i_begin : Nat) (i_token : Int32) (i_value : Int32) (i_bad : Int32) (i_full : Nat) (i_bandRows : Int32) (i_bandFirsts : Int32) (i_outs : Nat) (f_state : Nat → Int32) (f_was : Nat → Int32) (f_kept : Nat → Int32) (f_tape : Nat → Int32) (f_order : Nat → Int32) (f_rest : Nat → Int32) (f_ways : Nat → Int32) (f_costs : Nat → Int32) (f_bandBest : Nat → Int32) (f_found : Nat → Int32) (f_drawn : Nat → Int32) (f_joined : Nat → Int32) (f_out : Nat → Int32) (bi_keptMany : i_keptMany ≤ 10) (bi_taped : i_taped ≤ 400) (bi_spot : i_spot ≤ 400) (bi_begin : i_begin ≤ 400) (bi_full : i_full ≤ 511) (bi_outs : i_outs ≤ 400) (hG : GO f_state) (z : Nat) (bz : z < 3) (p : Nat) (bp : p < 10) (M : xMem) (hM : M = (P ++ (MDL L i_keptMany i_taped i_faultKind i_faultPlace i_spot i_begin i_token i_value i_bad i_full i_bandRows i_bandFirsts i_outs f_state f_was f_kept f_tape f_order f_rest f_ways f_costs f_bandBest f_found f_drawn f_joined f_out ++ R))) (Q : Int32 → Prop) (hq : Q (FX12_aheadOf f_state z p)) : xC G mX12_aheadOf 1 0 0 [.ref L, .int (nI z), .int (nI p)] M (fun v M2 => ∃ o : Int32, v = some (.int o) ∧ Q o ∧ M2 = (P ++ (MDL L i_keptMany i_taped i_faultKind i_faultPlace i_spot i_begin i_token i_value i_bad i_full i_bandRows i_bandFirsts i_outs f_state f_was f_kept f_tape f_order f_rest f_ways f_costs f_bandBest f_found f_drawn f_joined f_out ++ R))) := by
  subst hM
  unfold FX12_aheadOf at hq
  refine xC.of (by decide) (Nat.le_of_ble_eq_true rfl) ?_
  show xW _ _ _ _ 0 [(0, .ref L), (1, .int (nI z)), (2, .int (nI p))] [] _ 0 0
  refine xi_iconst (v := 0) dX12_aheadOf_0 (by decide) ?_
  refine xi_istore_n (lv' := [(3, .int 0), (0, .ref L), (1, .int (nI z)), (2, .int (nI p))]) dX12_aheadOf_1 (by decide) rfl ?_
  refine xi_iconst (v := 0) dX12_aheadOf_2 (by decide) ?_
  refine xi_istore (lv' := [(4, .int 0), (3, .int 0), (0, .ref L), (1, .int (nI z)), (2, .int (nI p))]) dX12_aheadOf_3 (by decide) rfl ?_
  refine xi_sub (lv' := [(0, .ref L), (1, .int (nI z)), (2, .int (nI p)), (3, .int 0), (4, .int 0)]) [2, 3, 4, 1, 0] rfl ?_
  refine LX12_aheadOf_5_s G hP i_keptMany i_taped i_faultKind i_faultPlace i_spot i_begin i_token i_value i_bad i_full i_bandRows i_bandFirsts i_outs f_state f_was f_kept f_tape f_order f_rest f_ways f_costs f_bandBest f_found f_drawn f_joined f_out (by omega) (by omega) (by omega) (by omega) (by omega) (by omega) hG z (by omega) p (by omega) Q _ (fun u2 hq => ?_) (p - 0) 0 ((0 : Int32)) rfl (by omega) hq
  refine xi_iload_n 0 dX12_aheadOf_29 rfl ?_
  exact xi_iret dX12_aheadOf_30 rfl rfl (Nat.le_of_ble_eq_true rfl) (Nat.le_of_ble_eq_true rfl) ⟨_, rfl, hq, rfl⟩
def FX12_in (x : Int64) (y : Int64) (t : Int64) : Int32 := (if (lg_cmp x y) < (0 : Int32) then (0 : Int32) else (if (0 : Int32) < (lg_cmp x t) then (0 : Int32) else (1 : Int32)))
set_option maxHeartbeats 4000000 in
set_option maxRecDepth 100000 in
theorem FX12_in_ok (G : xG) {M : xMem} (x : Int64) (y : Int64) (t : Int64) (Q : Int32 → Prop) (hq : Q (FX12_in x y t)) : xC G mX12_in 0 0 0 [.long x, .long y, .long t] M (fun v M2 => ∃ r, v = some (.int r) ∧ Q r ∧ M2 = M) := by
  unfold FX12_in at hq
  refine xC.of (by decide) (Nat.le_of_ble_eq_true rfl) ?_
  show xW _ _ _ _ 0 [(0, .long x), (2, .long y), (4, .long t)] [] _ 0 0
  refine xi_lload_n 0 dX12_in_0 rfl ?_
  refine xi_lload_n 1 dX12_in_1 rfl ?_
  refine xi_lcmp (v := (lg_cmp x y)) dX12_in_2 rfl ?_
  refine xi_if_lt (tgt := 17) dX12_in_3 (by decide) (fun c1 => ?_) (fun c1 => ?_)
  · rw [if_pos c1] at hq
    refine xi_iconst (v := 0) dX12_in_17 (by decide) ?_
    exact xi_iret dX12_in_18 rfl (by decide) (Nat.le_of_ble_eq_true rfl) (Nat.le_of_ble_eq_true rfl) ⟨_, rfl, hq, rfl⟩
  · rw [if_neg c1] at hq
    refine xi_lload_n 0 dX12_in_6 rfl ?_
    refine xi_lload 2 dX12_in_7 rfl ?_
    refine xi_lcmp (v := (lg_cmp x t)) dX12_in_9 rfl ?_
    refine xi_if_gt (tgt := 17) dX12_in_10 (by decide) (fun c2 => ?_) (fun c2 => ?_)
    · rw [if_pos c2] at hq
      refine xi_iconst (v := 0) dX12_in_17 (by decide) ?_
      exact xi_iret dX12_in_18 rfl (by decide) (Nat.le_of_ble_eq_true rfl) (Nat.le_of_ble_eq_true rfl) ⟨_, rfl, hq, rfl⟩
    · rw [if_neg c2] at hq
      refine xi_iconst (v := 1) dX12_in_13 (by decide) ?_
      refine xi_goto (tgt := 18) dX12_in_14 (by decide) ?_
      exact xi_iret dX12_in_18 rfl (by decide) (Nat.le_of_ble_eq_true rfl) (Nat.le_of_ble_eq_true rfl) ⟨_, rfl, hq, rfl⟩
theorem FX12_in_b (x : Int64) (y : Int64) (t : Int64) : FX12_in x y t = 0 ∨ FX12_in x y t = 1 := by
  unfold FX12_in
  (repeat' split) <;> first | exact Or.inl rfl | exact Or.inr rfl
def FX12_isSlot (x : Int32) : Int32 := (FX12_in x.toInt64 ((0 : Int64)) ((2 : Int64)))
set_option maxHeartbeats 4000000 in
set_option maxRecDepth 100000 in
theorem FX12_isSlot_ok (G : xG) {M : xMem} (x : Int32) (Q : Int32 → Prop) (hq : Q (FX12_isSlot x)) : xC G mX12_isSlot 1 0 0 [.int x] M (fun v M2 => ∃ r, v = some (.int r) ∧ Q r ∧ M2 = M) := by
  unfold FX12_isSlot at hq
  refine xC.of (by decide) (Nat.le_of_ble_eq_true rfl) ?_
  show xW _ _ _ _ 0 [(0, .int x)] [] _ 0 0
  refine xi_iload_n 0 dX12_isSlot_0 rfl ?_
  refine xi_i2l dX12_isSlot_1 rfl ?_
  refine xi_lconst (v := 0) dX12_isSlot_2 (by decide) ?_
  refine xi_ldc2 (v := 2) dX12_isSlot_3 w_1098 ?_
  refine xi_callS (as := [.long x.toInt64, .long 0, .long 2]) (rest := []) dX12_isSlot_6 (FX12_in_ok G x.toInt64 ((0 : Int64)) ((2 : Int64)) (fun r => r = FX12_in x.toInt64 ((0 : Int64)) ((2 : Int64))) rfl) mkX12_in w_1100 w_1099 rfl rfl (Nat.le_of_ble_eq_true rfl) (Nat.le_of_ble_eq_true rfl) (Nat.le_of_ble_eq_true rfl) (Nat.le_of_ble_eq_true rfl) (Nat.le_of_ble_eq_true rfl) ?_
  intro v M2 hz
  obtain ⟨_, rfl, rfl, hM2⟩ := hz
  rw [hM2]
  show xW _ _ _ _ 9 _ [.int (FX12_in x.toInt64 ((0 : Int64)) ((2 : Int64)))] M _ _
  exact xi_iret dX12_isSlot_9 rfl (by apply nb_bool; apply FX12_in_b) (Nat.le_of_ble_eq_true rfl) (Nat.le_of_ble_eq_true rfl) ⟨_, rfl, hq, rfl⟩
theorem FX12_isSlot_b (x : Int32) : FX12_isSlot x = 0 ∨ FX12_isSlot x = 1 := by
  unfold FX12_isSlot
  apply FX12_in_b
def FX12_isMeasure (x : Int32) : Int32 := (FX12_in x.toInt64 ((0 : Int64)) ((6 : Int64)))
set_option maxHeartbeats 4000000 in
set_option maxRecDepth 100000 in
theorem FX12_isMeasure_ok (G : xG) {M : xMem} (x : Int32) (Q : Int32 → Prop) (hq : Q (FX12_isMeasure x)) : xC G mX12_isMeasure 1 0 0 [.int x] M (fun v M2 => ∃ r, v = some (.int r) ∧ Q r ∧ M2 = M) := by
  unfold FX12_isMeasure at hq
  refine xC.of (by decide) (Nat.le_of_ble_eq_true rfl) ?_
  show xW _ _ _ _ 0 [(0, .int x)] [] _ 0 0
  refine xi_iload_n 0 dX12_isMeasure_0 rfl ?_
  refine xi_i2l dX12_isMeasure_1 rfl ?_
  refine xi_lconst (v := 0) dX12_isMeasure_2 (by decide) ?_
  refine xi_ldc2 (v := 6) dX12_isMeasure_3 w_1225 ?_
  refine xi_callS (as := [.long x.toInt64, .long 0, .long 6]) (rest := []) dX12_isMeasure_6 (FX12_in_ok G x.toInt64 ((0 : Int64)) ((6 : Int64)) (fun r => r = FX12_in x.toInt64 ((0 : Int64)) ((6 : Int64))) rfl) mkX12_in w_1100 w_1099 rfl rfl (Nat.le_of_ble_eq_true rfl) (Nat.le_of_ble_eq_true rfl) (Nat.le_of_ble_eq_true rfl) (Nat.le_of_ble_eq_true rfl) (Nat.le_of_ble_eq_true rfl) ?_
  intro v M2 hz
  obtain ⟨_, rfl, rfl, hM2⟩ := hz
  rw [hM2]
  show xW _ _ _ _ 9 _ [.int (FX12_in x.toInt64 ((0 : Int64)) ((6 : Int64)))] M _ _
  exact xi_iret dX12_isMeasure_9 rfl (by apply nb_bool; apply FX12_in_b) (Nat.le_of_ble_eq_true rfl) (Nat.le_of_ble_eq_true rfl) ⟨_, rfl, hq, rfl⟩
theorem FX12_isMeasure_b (x : Int32) : FX12_isMeasure x = 0 ∨ FX12_isMeasure x = 1 := by
  unfold FX12_isMeasure
  apply FX12_in_b
def FX12_isTakenOut (x : Int32) : Int32 := (if x = (5 : Int32) then (1 : Int32) else (if x = (6 : Int32) then (1 : Int32) else (0 : Int32)))
set_option maxHeartbeats 4000000 in
set_option maxRecDepth 100000 in
theorem FX12_isTakenOut_ok (G : xG) {M : xMem} (x : Int32) (Q : Int32 → Prop) (hq : Q (FX12_isTakenOut x)) : xC G mX12_isTakenOut 0 0 0 [.int x] M (fun v M2 => ∃ r, v = some (.int r) ∧ Q r ∧ M2 = M) := by
  unfold FX12_isTakenOut at hq
  refine xC.of (by decide) (Nat.le_of_ble_eq_true rfl) ?_
  show xW _ _ _ _ 0 [(0, .int x)] [] _ 0 0
  refine xi_iload_n 0 dX12_isTakenOut_0 rfl ?_
  refine xi_iconst (v := 5) dX12_isTakenOut_1 (by decide) ?_
  refine xi_icmp_eq (tgt := 11) dX12_isTakenOut_2 (by decide) (fun c1 => ?_) (fun c1 => ?_)
  · rw [if_pos c1] at hq
    refine xi_iconst (v := 1) dX12_isTakenOut_11 (by decide) ?_
    refine xi_goto (tgt := 16) dX12_isTakenOut_12 (by decide) ?_
    exact xi_iret dX12_isTakenOut_16 rfl (by decide) (Nat.le_of_ble_eq_true rfl) (Nat.le_of_ble_eq_true rfl) ⟨_, rfl, hq, rfl⟩
  · rw [if_neg c1] at hq
    refine xi_iload_n 0 dX12_isTakenOut_5 rfl ?_
    refine xi_bipush (v := 6) dX12_isTakenOut_6 (by decide) ?_
    refine xi_icmp_ne (tgt := 15) dX12_isTakenOut_8 (by decide) (fun c2 => ?_) (fun c2 => ?_)
    · rw [if_neg c2] at hq
      refine xi_iconst (v := 0) dX12_isTakenOut_15 (by decide) ?_
      exact xi_iret dX12_isTakenOut_16 rfl (by decide) (Nat.le_of_ble_eq_true rfl) (Nat.le_of_ble_eq_true rfl) ⟨_, rfl, hq, rfl⟩
    · rw [if_pos c2] at hq
      refine xi_iconst (v := 1) dX12_isTakenOut_11 (by decide) ?_
      refine xi_goto (tgt := 16) dX12_isTakenOut_12 (by decide) ?_
      exact xi_iret dX12_isTakenOut_16 rfl (by decide) (Nat.le_of_ble_eq_true rfl) (Nat.le_of_ble_eq_true rfl) ⟨_, rfl, hq, rfl⟩
theorem FX12_isTakenOut_b (x : Int32) : FX12_isTakenOut x = 0 ∨ FX12_isTakenOut x = 1 := by
  unfold FX12_isTakenOut
  (repeat' split) <;> first | exact Or.inl rfl | exact Or.inr rfl
def FX12_isGreatest (x : Int32) : Int32 := (if x = (0 : Int32) then (1 : Int32) else (if x = (1 : Int32) then (1 : Int32) else (if x = (5 : Int32) then (1 : Int32) else (0 : Int32))))
set_option maxHeartbeats 4000000 in
set_option maxRecDepth 100000 in
theorem FX12_isGreatest_ok (G : xG) {M : xMem} (x : Int32) (Q : Int32 → Prop) (hq : Q (FX12_isGreatest x)) : xC G mX12_isGreatest 0 0 0 [.int x] M (fun v M2 => ∃ r, v = some (.int r) ∧ Q r ∧ M2 = M) := by
  unfold FX12_isGreatest at hq
  refine xC.of (by decide) (Nat.le_of_ble_eq_true rfl) ?_
  show xW _ _ _ _ 0 [(0, .int x)] [] _ 0 0
  refine xi_iload_n 0 dX12_isGreatest_0 rfl ?_
  refine xi_if_eq (tgt := 14) dX12_isGreatest_1 (by decide) (fun c1 => ?_) (fun c1 => ?_)
  · rw [if_pos c1] at hq
    refine xi_iconst (v := 1) dX12_isGreatest_14 (by decide) ?_
    refine xi_goto (tgt := 19) dX12_isGreatest_15 (by decide) ?_
    exact xi_iret dX12_isGreatest_19 rfl (by decide) (Nat.le_of_ble_eq_true rfl) (Nat.le_of_ble_eq_true rfl) ⟨_, rfl, hq, rfl⟩
  · rw [if_neg c1] at hq
    refine xi_iload_n 0 dX12_isGreatest_4 rfl ?_
    refine xi_iconst (v := 1) dX12_isGreatest_5 (by decide) ?_
    refine xi_icmp_eq (tgt := 14) dX12_isGreatest_6 (by decide) (fun c2 => ?_) (fun c2 => ?_)
    · rw [if_pos c2] at hq
      refine xi_iconst (v := 1) dX12_isGreatest_14 (by decide) ?_
      refine xi_goto (tgt := 19) dX12_isGreatest_15 (by decide) ?_
      exact xi_iret dX12_isGreatest_19 rfl (by decide) (Nat.le_of_ble_eq_true rfl) (Nat.le_of_ble_eq_true rfl) ⟨_, rfl, hq, rfl⟩
    · rw [if_neg c2] at hq
      refine xi_iload_n 0 dX12_isGreatest_9 rfl ?_
      refine xi_iconst (v := 5) dX12_isGreatest_10 (by decide) ?_
      refine xi_icmp_ne (tgt := 18) dX12_isGreatest_11 (by decide) (fun c3 => ?_) (fun c3 => ?_)
      · rw [if_neg c3] at hq
        refine xi_iconst (v := 0) dX12_isGreatest_18 (by decide) ?_
        exact xi_iret dX12_isGreatest_19 rfl (by decide) (Nat.le_of_ble_eq_true rfl) (Nat.le_of_ble_eq_true rfl) ⟨_, rfl, hq, rfl⟩
      · rw [if_pos c3] at hq
        refine xi_iconst (v := 1) dX12_isGreatest_14 (by decide) ?_
        refine xi_goto (tgt := 19) dX12_isGreatest_15 (by decide) ?_
        exact xi_iret dX12_isGreatest_19 rfl (by decide) (Nat.le_of_ble_eq_true rfl) (Nat.le_of_ble_eq_true rfl) ⟨_, rfl, hq, rfl⟩
theorem FX12_isGreatest_b (x : Int32) : FX12_isGreatest x = 0 ∨ FX12_isGreatest x = 1 := by
  unfold FX12_isGreatest
  (repeat' split) <;> first | exact Or.inl rfl | exact Or.inr rfl
def FX12_both (x : Int32) (y : Int32) (t : Int32) : Int32 := (if (FX12_isGreatest x) = (0 : Int32) then (y + t) else (if y < t then t else y))
set_option maxHeartbeats 4000000 in
set_option maxRecDepth 100000 in
theorem FX12_both_ok (G : xG) {M : xMem} (x : Int32) (y : Int32) (t : Int32) (Q : Int32 → Prop) (hq : Q (FX12_both x y t)) : xC G mX12_both 1 0 0 [.int x, .int y, .int t] M (fun v M2 => ∃ r, v = some (.int r) ∧ Q r ∧ M2 = M) := by
  unfold FX12_both at hq
  refine xC.of (by decide) (Nat.le_of_ble_eq_true rfl) ?_
  show xW _ _ _ _ 0 [(0, .int x), (1, .int y), (2, .int t)] [] _ 0 0
  refine xi_iload_n 0 dX12_both_0 rfl ?_
  refine xi_callS (as := [.int x]) (rest := []) dX12_both_1 (FX12_isGreatest_ok G x (fun r => r = FX12_isGreatest x) rfl) mkX12_isGreatest w_1322 w_1321 rfl rfl (Nat.le_of_ble_eq_true rfl) (Nat.le_of_ble_eq_true rfl) (Nat.le_of_ble_eq_true rfl) (Nat.le_of_ble_eq_true rfl) (Nat.le_of_ble_eq_true rfl) ?_
  intro v M2 hz
  obtain ⟨_, rfl, rfl, hM2⟩ := hz
  rw [hM2]
  show xW _ _ _ _ 4 _ [.int (FX12_isGreatest x)] M _ _
  refine xi_if_eq (tgt := 15) dX12_both_4 (by decide) (fun c1 => ?_) (fun c1 => ?_)
  · rw [if_pos c1] at hq
    refine xi_iload_n 1 dX12_both_15 rfl ?_
    refine xi_iload_n 2 dX12_both_16 rfl ?_
    refine xi_iadd (v := (y + t)) dX12_both_17 rfl ?_
    exact xi_iret dX12_both_18 rfl rfl (Nat.le_of_ble_eq_true rfl) (Nat.le_of_ble_eq_true rfl) ⟨_, rfl, hq, rfl⟩
  · rw [if_neg c1] at hq
    refine xi_iload_n 1 dX12_both_7 rfl ?_
    refine xi_iload_n 2 dX12_both_8 rfl ?_
    refine xi_max (v := (if y < t then t else y)) dX12_both_9 w_1234 w_37 w_3 w_mmax (Nat.le_of_ble_eq_true rfl) (Nat.le_of_ble_eq_true rfl) (Nat.le_of_ble_eq_true rfl) (Nat.le_of_ble_eq_true rfl) (Nat.le_of_ble_eq_true rfl) rfl ?_
    refine xi_goto (tgt := 18) dX12_both_12 (by decide) ?_
    exact xi_iret dX12_both_18 rfl rfl (Nat.le_of_ble_eq_true rfl) (Nat.le_of_ble_eq_true rfl) ⟨_, rfl, hq, rfl⟩
def LX12_ones_4 (K : Int32 → Int32 → Int32) : Nat → Int32 → Int32 → Int32
  | 0, v1, v2 => K v1 v2
  | k + 1, v1, v2 => (if v2 = (0 : Int32) then (K v1 v2) else (LX12_ones_4 K k ((v1 + Int32.ofInt 1)) ((v2 &&& (v2 - (1 : Int32))))))
set_option maxHeartbeats 4000000 in
set_option maxRecDepth 100000 in
theorem LX12_ones_4_s (G : xG) {M : xMem} (Q : Int32 → Prop) (K : Int32 → Int32 → Int32) (HE : ∀ (v1 : Int32) (v2 : Int32), Q (K v1 v2) → xW G mX12_ones (xrm 0 0 0) (xQ G (fun v M2 => ∃ r, v = some (.int r) ∧ Q r ∧ M2 = M) 0 0) 20 [(1, .int v1)] [] M 0 0) :
    ∀ (k : Nat) (v1 : Int32) (v2 : Int32), v2.toBitVec.toNat < k → Q (LX12_ones_4 K k v1 v2) → xW G mX12_ones (xrm 0 0 0) (xQ G (fun v M2 => ∃ r, v = some (.int r) ∧ Q r ∧ M2 = M) 0 0) 4 [(1, .int v1), (2, .int v2)] [] M 0 0 := by
  intro k
  induction k with
  | zero =>
    intro v1 v2 hmu
    exact absurd hmu (Nat.not_lt_zero _)
  | succ k ih =>
    intro v1 v2 hmu hq
    rw [LX12_ones_4] at hq
    refine xi_iload_n 1 dX12_ones_4 rfl ?_
    refine xi_if_eq (tgt := 20) dX12_ones_5 (by decide) (fun c1 => ?_) (fun c1 => ?_)
    · rw [if_pos c1] at hq
      refine xi_sub (lv' := [(1, .int v1)]) [0] rfl ?_
      exact HE v1 v2 hq
    · rw [if_neg c1] at hq
      refine xi_iinc (v := (v1 + Int32.ofInt 1)) (lv' := [(1, .int (v1 + Int32.ofInt 1)), (2, .int v2)]) 0 dX12_ones_8 rfl rfl (by decide) rfl ?_
      refine xi_iload_n 1 dX12_ones_11 rfl ?_
      refine xi_iload_n 1 dX12_ones_12 rfl ?_
      refine xi_iconst (v := 1) dX12_ones_13 (by decide) ?_
      refine xi_isub (v := (v2 - (1 : Int32))) dX12_ones_14 rfl ?_
      refine xi_iand (v := (v2 &&& (v2 - (1 : Int32)))) dX12_ones_15 rfl ?_
      refine xi_istore_n (lv' := [(2, .int (v2 &&& (v2 - (1 : Int32)))), (1, .int (v1 + Int32.ofInt 1))]) dX12_ones_16 (by decide) rfl ?_
      refine xi_goto (tgt := 4) dX12_ones_17 (by decide) ?_
      refine xi_sub (lv' := [(1, .int (v1 + Int32.ofInt 1)), (2, .int (v2 &&& (v2 - (1 : Int32))))]) [1, 0] rfl ?_
      exact ih ((v1 + Int32.ofInt 1)) ((v2 &&& (v2 - (1 : Int32)))) (by have := nd_dec ‹_›; omega) hq
def FX12_ones (x : Int32) : Int32 := (LX12_ones_4 (fun u2 u3 => u2) (x.toBitVec.toNat + 1) ((0 : Int32)) x)
set_option maxHeartbeats 4000000 in
set_option maxRecDepth 100000 in
theorem FX12_ones_ok (G : xG) {M : xMem} (x : Int32) (Q : Int32 → Prop) (hq : Q (FX12_ones x)) : xC G mX12_ones 0 0 0 [.int x] M (fun v M2 => ∃ r, v = some (.int r) ∧ Q r ∧ M2 = M) := by
  unfold FX12_ones at hq
  refine xC.of (by decide) (Nat.le_of_ble_eq_true rfl) ?_
  show xW _ _ _ _ 0 [(0, .int x)] [] _ 0 0
  refine xi_iconst (v := 0) dX12_ones_0 (by decide) ?_
  refine xi_istore_n (lv' := [(1, .int 0), (0, .int x)]) dX12_ones_1 (by decide) rfl ?_
  refine xi_iload_n 1 dX12_ones_2 rfl ?_
  refine xi_istore_n (lv' := [(2, .int x), (1, .int 0), (0, .int x)]) dX12_ones_3 (by decide) rfl ?_
  refine xi_sub (lv' := [(1, .int 0), (2, .int x)]) [1, 0] rfl ?_
  refine LX12_ones_4_s G Q _ (fun u2 u3 hq => ?_) (x.toBitVec.toNat + 1) ((0 : Int32)) x (Nat.lt_succ_self _) hq
  refine xi_iload_n 0 dX12_ones_20 rfl ?_
  exact xi_iret dX12_ones_21 rfl rfl (Nat.le_of_ble_eq_true rfl) (Nat.le_of_ble_eq_true rfl) ⟨_, rfl, hq, rfl⟩
def LX12_lines_4 (f_state : Nat → Int32) (n1 : Nat) (K : Int32 → Int32) : Nat → Nat → Int32 → Int32
  | 0, _, v2 => K v2
  | k + 1, j, v2 => (LX12_lines_4 f_state n1 K k (j + 1) ((v2 + (FX12_ones ((FX12_nearOf f_state n1 j))))))
set_option maxHeartbeats 4000000 in
set_option maxRecDepth 100000 in
theorem LX12_lines_4_s (G : xG) {P R : xMem} {L : Nat} (hP : P.length = L) (i_keptMany : Nat) (i_taped : Nat) (i_faultKind : Int32) (i_faultPlace : Int32) (i_spot : Nat) (i_begin : Nat) (i_token : Int32) (i_value : Int32) (i_bad : Int32) (i_full : Nat) (i_bandRows : Int32) (i_bandFirsts : Int32) (i_outs : Nat) (f_state : Nat → Int32) (f_was : Nat → Int32) (f_kept : Nat → Int32) (f_tape : Nat → Int32) (f_order : Nat → Int32) (f_rest : Nat → Int32) (f_ways : Nat → Int32) (f_costs : Nat → Int32) (f_bandBest : Nat → Int32) (f_found : Nat → Int32) (f_drawn : Nat → Int32) (f_joined : Nat → Int32) (f_out : Nat → Int32) (bi_keptMany : i_keptMany ≤ 10) (bi_taped : i_taped ≤ 400) (bi_spot : i_spot ≤ 400) (bi_begin : i_begin ≤ 400) (bi_full : i_full ≤ 511) (bi_outs : i_outs ≤ 400) (hG : GO f_state) (n1 : Nat) (bn1 : n1 < 3) (Q : Int32 → Prop) (K : Int32 → Int32) (HE : ∀ (v2 : Int32), Q (K v2) → xW G mX12_lines (xrm 2 0 0) (xQ G (fun v M2 => ∃ o : Int32, v = some (.int o) ∧ Q o ∧ M2 = (P ++ (MDL L i_keptMany i_taped i_faultKind i_faultPlace i_spot i_begin i_token i_value i_bad i_full i_bandRows i_bandFirsts i_outs f_state f_was f_kept f_tape f_order f_rest f_ways f_costs f_bandBest f_found f_drawn f_joined f_out ++ R))) 0 0) 31 [(2, .int v2)] [] (P ++ (MDL L i_keptMany i_taped i_faultKind i_faultPlace i_spot i_begin i_token i_value i_bad i_full i_bandRows i_bandFirsts i_outs f_state f_was f_kept f_tape f_order f_rest f_ways f_costs f_bandBest f_found f_drawn f_joined f_out ++ R)) 0 0) :
    ∀ (k j : Nat) (v2 : Int32), (f_state (91 * n1)).toNatClampNeg - j = k → j < 100000 → Q (LX12_lines_4 f_state n1 K k j v2) → xW G mX12_lines (xrm 2 0 0) (xQ G (fun v M2 => ∃ o : Int32, v = some (.int o) ∧ Q o ∧ M2 = (P ++ (MDL L i_keptMany i_taped i_faultKind i_faultPlace i_spot i_begin i_token i_value i_bad i_full i_bandRows i_bandFirsts i_outs f_state f_was f_kept f_tape f_order f_rest f_ways f_costs f_bandBest f_found f_drawn f_joined f_out ++ R))) 0 0) 4 [(0, .ref L), (1, .int (nI n1)), (2, .int v2), (3, .int (nI j))] [] (P ++ (MDL L i_keptMany i_taped i_faultKind i_faultPlace i_spot i_begin i_token i_value i_bad i_full i_bandRows i_bandFirsts i_outs f_state f_was f_kept f_tape f_order f_rest f_ways f_costs f_bandBest f_found f_drawn f_joined f_out ++ R)) 0 0 := by
  intro k
  induction k with
  | zero =>
    intro j v2 hj hj2 hq
    rw [LX12_lines_4] at hq
    refine xi_iload_n 3 dX12_lines_4 rfl ?_
    refine xi_aload_n 0 dX12_lines_5 rfl ?_
    refine xi_iload_n 1 dX12_lines_6 rfl ?_
    refine xi_callV (as := [.int (nI n1)]) (rest := [.int (nI j)]) dX12_lines_7 (FX12_points_ok G hP i_keptMany i_taped i_faultKind i_faultPlace i_spot i_begin i_token i_value i_bad i_full i_bandRows i_bandFirsts i_outs f_state f_was f_kept f_tape f_order f_rest f_ways f_costs f_bandBest f_found f_drawn f_joined f_out (by omega) (by omega) (by omega) (by omega) (by omega) (by omega) n1 (by omega) _ rfl (fun r => r = nI ((f_state (91 * n1)).toNatClampNeg)) ((hG n1 (by omega)).1.1)) mkX12_points w_1108 ws_36 w_1106 (xpg0 hP rfl) rfl rfl rfl rfl (Nat.le_of_ble_eq_true rfl) (Nat.le_of_ble_eq_true rfl) (Nat.le_of_ble_eq_true rfl) (Nat.le_of_ble_eq_true rfl) (Nat.le_of_ble_eq_true rfl) ?_
    intro v M2 hz
    obtain ⟨_, rfl, rfl, rfl⟩ := hz
    show xW _ _ _ _ 10 _ [.int (nI ((f_state (91 * n1)).toNatClampNeg)), .int (nI j)] (P ++ (MDL L i_keptMany i_taped i_faultKind i_faultPlace i_spot i_begin i_token i_value i_bad i_full i_bandRows i_bandFirsts i_outs f_state f_was f_kept f_tape f_order f_rest f_ways f_costs f_bandBest f_found f_drawn f_joined f_out ++ R)) _ _
    have o2 := (hG n1 (by omega)).1.2
    refine xi_icmp_ge_t (tgt := 31) dX12_lines_10 (by decide) (nI_le (a := (f_state (91 * n1)).toNatClampNeg) (b := j) (by omega) (by omega)) ?_
    refine xi_sub (lv' := [(2, .int v2)]) [2] rfl ?_
    exact HE v2 hq
  | succ k ih =>
    intro j v2 hj hj2 hq
    rw [LX12_lines_4] at hq
    refine xi_iload_n 3 dX12_lines_4 rfl ?_
    refine xi_aload_n 0 dX12_lines_5 rfl ?_
    refine xi_iload_n 1 dX12_lines_6 rfl ?_
    refine xi_callV (as := [.int (nI n1)]) (rest := [.int (nI j)]) dX12_lines_7 (FX12_points_ok G hP i_keptMany i_taped i_faultKind i_faultPlace i_spot i_begin i_token i_value i_bad i_full i_bandRows i_bandFirsts i_outs f_state f_was f_kept f_tape f_order f_rest f_ways f_costs f_bandBest f_found f_drawn f_joined f_out (by omega) (by omega) (by omega) (by omega) (by omega) (by omega) n1 (by omega) _ rfl (fun r => r = nI ((f_state (91 * n1)).toNatClampNeg)) ((hG n1 (by omega)).1.1)) mkX12_points w_1108 ws_36 w_1106 (xpg0 hP rfl) rfl rfl rfl rfl (Nat.le_of_ble_eq_true rfl) (Nat.le_of_ble_eq_true rfl) (Nat.le_of_ble_eq_true rfl) (Nat.le_of_ble_eq_true rfl) (Nat.le_of_ble_eq_true rfl) ?_
    intro v M2 hz
    obtain ⟨_, rfl, rfl, rfl⟩ := hz
    show xW _ _ _ _ 10 _ [.int (nI ((f_state (91 * n1)).toNatClampNeg)), .int (nI j)] (P ++ (MDL L i_keptMany i_taped i_faultKind i_faultPlace i_spot i_begin i_token i_value i_bad i_full i_bandRows i_bandFirsts i_outs f_state f_was f_kept f_tape f_order f_rest f_ways f_costs f_bandBest f_found f_drawn f_joined f_out ++ R)) _ _
    have o1 := (hG n1 (by omega)).1.2
    refine xi_icmp_ge_f (tgt := 31) dX12_lines_10 (by decide) (nI_ge (a := j) (b := (f_state (91 * n1)).toNatClampNeg) (by omega) (by omega)) ?_
    refine xi_iload_n 2 dX12_lines_13 rfl ?_
    refine xi_aload_n 0 dX12_lines_14 rfl ?_
    refine xi_iload_n 1 dX12_lines_15 rfl ?_
    refine xi_iload_n 3 dX12_lines_16 rfl ?_
    refine xi_callV (as := [.int (nI n1), .int (nI j)]) (rest := [.int v2]) dX12_lines_17 (FX12_nearOf_ok G hP i_keptMany i_taped i_faultKind i_faultPlace i_spot i_begin i_token i_value i_bad i_full i_bandRows i_bandFirsts i_outs f_state f_was f_kept f_tape f_order f_rest f_ways f_costs f_bandBest f_found f_drawn f_joined f_out (by omega) (by omega) (by omega) (by omega) (by omega) (by omega) hG n1 (by omega) j (by omega) _ rfl (fun r => r = FX12_nearOf f_state n1 j) rfl) mkX12_nearOf w_1188 ws_52 w_1186 (xpg0 hP rfl) rfl rfl rfl rfl (Nat.le_of_ble_eq_true rfl) (Nat.le_of_ble_eq_true rfl) (Nat.le_of_ble_eq_true rfl) (Nat.le_of_ble_eq_true rfl) (Nat.le_of_ble_eq_true rfl) ?_
    intro v M2 hz
    obtain ⟨_, rfl, rfl, rfl⟩ := hz
    show xW _ _ _ _ 20 _ [.int (FX12_nearOf f_state n1 j), .int v2] (P ++ (MDL L i_keptMany i_taped i_faultKind i_faultPlace i_spot i_begin i_token i_value i_bad i_full i_bandRows i_bandFirsts i_outs f_state f_was f_kept f_tape f_order f_rest f_ways f_costs f_bandBest f_found f_drawn f_joined f_out ++ R)) _ _
    refine xi_callS (as := [.int (FX12_nearOf f_state n1 j)]) (rest := [.int v2]) dX12_lines_20 (FX12_ones_ok G ((FX12_nearOf f_state n1 j)) (fun r => r = FX12_ones ((FX12_nearOf f_state n1 j))) rfl) mkX12_ones w_1195 w_1194 rfl rfl (Nat.le_of_ble_eq_true rfl) (Nat.le_of_ble_eq_true rfl) (Nat.le_of_ble_eq_true rfl) (Nat.le_of_ble_eq_true rfl) (Nat.le_of_ble_eq_true rfl) ?_
    intro v M2 hz
    obtain ⟨_, rfl, rfl, hM2⟩ := hz
    rw [hM2]
    show xW _ _ _ _ 23 _ [.int (FX12_ones ((FX12_nearOf f_state n1 j))), .int v2] (P ++ (MDL L i_keptMany i_taped i_faultKind i_faultPlace i_spot i_begin i_token i_value i_bad i_full i_bandRows i_bandFirsts i_outs f_state f_was f_kept f_tape f_order f_rest f_ways f_costs f_bandBest f_found f_drawn f_joined f_out ++ R)) _ _
    refine xi_iadd (v := (v2 + (FX12_ones ((FX12_nearOf f_state n1 j))))) dX12_lines_23 rfl ?_
    refine xi_istore_n (lv' := [(2, .int (v2 + (FX12_ones ((FX12_nearOf f_state n1 j))))), (0, .ref L), (1, .int (nI n1)), (3, .int (nI j))]) dX12_lines_24 (by decide) rfl ?_
    refine xi_iinc (v := (nI (j + 1))) (lv' := [(3, .int (nI (j + 1))), (2, .int (v2 + (FX12_ones ((FX12_nearOf f_state n1 j))))), (0, .ref L), (1, .int (nI n1))]) 3 dX12_lines_25 rfl (nI_1 _) (by decide) rfl ?_
    refine xi_goto (tgt := 4) dX12_lines_28 (by decide) ?_
    refine xi_sub (lv' := [(0, .ref L), (1, .int (nI n1)), (2, .int (v2 + (FX12_ones ((FX12_nearOf f_state n1 j))))), (3, .int (nI (j + 1)))]) [2, 3, 1, 0] rfl ?_
    exact ih (j + 1) ((v2 + (FX12_ones ((FX12_nearOf f_state n1 j))))) (by omega) (by omega) hq
def FX12_lines (f_state : Nat → Int32) (z : Nat) : Int32 := (LX12_lines_4 f_state z (fun u3 => (u3 / (2 : Int32))) ((f_state (91 * z)).toNatClampNeg - 0) 0 ((0 : Int32)))
set_option maxHeartbeats 4000000 in
set_option maxRecDepth 100000 in
theorem FX12_lines_ok (G : xG) {P R : xMem} {L : Nat} (hP : P.length = L) (i_keptMany : Nat) (i_taped : Nat) (i_faultKind : Int32) (i_faultPlace : Int32) (i_spot : Nat) (i_begin : Nat) (i_token : Int32) (i_value : Int32) (i_bad : Int32) (i_full : Nat) (i_bandRows : Int32) (i_bandFirsts : Int32) (i_outs : Nat) (f_state : Nat → Int32) (f_was : Nat → Int32) (f_kept : Nat → Int32) (f_tape : Nat → Int32) (f_order : Nat → Int32) (f_rest : Nat → Int32) (f_ways : Nat → Int32) (f_costs : Nat → Int32) (f_bandBest : Nat → Int32) (f_found : Nat → Int32) (f_drawn : Nat → Int32) (f_joined : Nat → Int32) (f_out : Nat → Int32) (bi_keptMany : i_keptMany ≤ 10) (bi_taped : i_taped ≤ 400) (bi_spot : i_spot ≤ 400) (bi_begin : i_begin ≤ 400) (bi_full : i_full ≤ 511) (bi_outs : i_outs ≤ 400) (hG : GO f_state) (z : Nat) (bz : z < 3) (M : xMem) (hM : M = (P ++ (MDL L i_keptMany i_taped i_faultKind i_faultPlace i_spot i_begin i_token i_value i_bad i_full i_bandRows i_bandFirsts i_outs f_state f_was f_kept f_tape f_order f_rest f_ways f_costs f_bandBest f_found f_drawn f_joined f_out ++ R))) (Q : Int32 → Prop) (hq : Q (FX12_lines f_state z)) : xC G mX12_lines 2 0 0 [.ref L, .int (nI z)] M (fun v M2 => ∃ o : Int32, v = some (.int o) ∧ Q o ∧ M2 = (P ++ (MDL L i_keptMany i_taped i_faultKind i_faultPlace i_spot i_begin i_token i_value i_bad i_full i_bandRows i_bandFirsts i_outs f_state f_was f_kept f_tape f_order f_rest f_ways f_costs f_bandBest f_found f_drawn f_joined f_out ++ R))) := by
  subst hM
  unfold FX12_lines at hq
  refine xC.of (by decide) (Nat.le_of_ble_eq_true rfl) ?_
  show xW _ _ _ _ 0 [(0, .ref L), (1, .int (nI z))] [] _ 0 0
  refine xi_iconst (v := 0) dX12_lines_0 (by decide) ?_
  refine xi_istore_n (lv' := [(2, .int 0), (0, .ref L), (1, .int (nI z))]) dX12_lines_1 (by decide) rfl ?_
  refine xi_iconst (v := 0) dX12_lines_2 (by decide) ?_
  refine xi_istore_n (lv' := [(3, .int 0), (2, .int 0), (0, .ref L), (1, .int (nI z))]) dX12_lines_3 (by decide) rfl ?_
  refine xi_sub (lv' := [(0, .ref L), (1, .int (nI z)), (2, .int 0), (3, .int 0)]) [2, 3, 1, 0] rfl ?_
  refine LX12_lines_4_s G hP i_keptMany i_taped i_faultKind i_faultPlace i_spot i_begin i_token i_value i_bad i_full i_bandRows i_bandFirsts i_outs f_state f_was f_kept f_tape f_order f_rest f_ways f_costs f_bandBest f_found f_drawn f_joined f_out (by omega) (by omega) (by omega) (by omega) (by omega) (by omega) hG z (by omega) Q _ (fun u3 hq => ?_) ((f_state (91 * z)).toNatClampNeg - 0) 0 ((0 : Int32)) rfl (by omega) hq
  refine xi_iload_n 0 dX12_lines_31 rfl ?_
  refine xi_iconst (v := 2) dX12_lines_32 (by decide) ?_
  refine xi_idiv (v := (u3 / (2 : Int32))) dX12_lines_33 (by decide) rfl ?_
  exact xi_iret dX12_lines_34 rfl rfl (Nat.le_of_ble_eq_true rfl) (Nat.le_of_ble_eq_true rfl) ⟨_, rfl, hq, rfl⟩
def LX12_degree_4 (f_state : Nat → Int32) (n1 : Nat) (K : Int32 → Int32) : Nat → Nat → Int32 → Int32
  | 0, _, v2 => K v2
  | k + 1, j, v2 => (LX12_degree_4 f_state n1 K k (j + 1) ((if v2 < (FX12_ones ((FX12_nearOf f_state n1 j))) then (FX12_ones ((FX12_nearOf f_state n1 j))) else v2)))
set_option maxHeartbeats 4000000 in
set_option maxRecDepth 100000 in
theorem LX12_degree_4_s (G : xG) {P R : xMem} {L : Nat} (hP : P.length = L) (i_keptMany : Nat) (i_taped : Nat) (i_faultKind : Int32) (i_faultPlace : Int32) (i_spot : Nat) (i_begin : Nat) (i_token : Int32) (i_value : Int32) (i_bad : Int32) (i_full : Nat) (i_bandRows : Int32) (i_bandFirsts : Int32) (i_outs : Nat) (f_state : Nat → Int32) (f_was : Nat → Int32) (f_kept : Nat → Int32) (f_tape : Nat → Int32) (f_order : Nat → Int32) (f_rest : Nat → Int32) (f_ways : Nat → Int32) (f_costs : Nat → Int32) (f_bandBest : Nat → Int32) (f_found : Nat → Int32) (f_drawn : Nat → Int32) (f_joined : Nat → Int32) (f_out : Nat → Int32) (bi_keptMany : i_keptMany ≤ 10) (bi_taped : i_taped ≤ 400) (bi_spot : i_spot ≤ 400) (bi_begin : i_begin ≤ 400) (bi_full : i_full ≤ 511) (bi_outs : i_outs ≤ 400) (hG : GO f_state) (n1 : Nat) (bn1 : n1 < 3) (Q : Int32 → Prop) (K : Int32 → Int32) (HE : ∀ (v2 : Int32), Q (K v2) → xW G mX12_degree (xrm 2 0 0) (xQ G (fun v M2 => ∃ o : Int32, v = some (.int o) ∧ Q o ∧ M2 = (P ++ (MDL L i_keptMany i_taped i_faultKind i_faultPlace i_spot i_begin i_token i_value i_bad i_full i_bandRows i_bandFirsts i_outs f_state f_was f_kept f_tape f_order f_rest f_ways f_costs f_bandBest f_found f_drawn f_joined f_out ++ R))) 0 0) 33 [(2, .int v2)] [] (P ++ (MDL L i_keptMany i_taped i_faultKind i_faultPlace i_spot i_begin i_token i_value i_bad i_full i_bandRows i_bandFirsts i_outs f_state f_was f_kept f_tape f_order f_rest f_ways f_costs f_bandBest f_found f_drawn f_joined f_out ++ R)) 0 0) :
    ∀ (k j : Nat) (v2 : Int32), (f_state (91 * n1)).toNatClampNeg - j = k → j < 100000 → Q (LX12_degree_4 f_state n1 K k j v2) → xW G mX12_degree (xrm 2 0 0) (xQ G (fun v M2 => ∃ o : Int32, v = some (.int o) ∧ Q o ∧ M2 = (P ++ (MDL L i_keptMany i_taped i_faultKind i_faultPlace i_spot i_begin i_token i_value i_bad i_full i_bandRows i_bandFirsts i_outs f_state f_was f_kept f_tape f_order f_rest f_ways f_costs f_bandBest f_found f_drawn f_joined f_out ++ R))) 0 0) 4 [(0, .ref L), (1, .int (nI n1)), (2, .int v2), (3, .int (nI j))] [] (P ++ (MDL L i_keptMany i_taped i_faultKind i_faultPlace i_spot i_begin i_token i_value i_bad i_full i_bandRows i_bandFirsts i_outs f_state f_was f_kept f_tape f_order f_rest f_ways f_costs f_bandBest f_found f_drawn f_joined f_out ++ R)) 0 0 := by
  intro k
  induction k with
  | zero =>
    intro j v2 hj hj2 hq
    rw [LX12_degree_4] at hq
    refine xi_iload_n 3 dX12_degree_4 rfl ?_
    refine xi_aload_n 0 dX12_degree_5 rfl ?_
    refine xi_iload_n 1 dX12_degree_6 rfl ?_
    refine xi_callV (as := [.int (nI n1)]) (rest := [.int (nI j)]) dX12_degree_7 (FX12_points_ok G hP i_keptMany i_taped i_faultKind i_faultPlace i_spot i_begin i_token i_value i_bad i_full i_bandRows i_bandFirsts i_outs f_state f_was f_kept f_tape f_order f_rest f_ways f_costs f_bandBest f_found f_drawn f_joined f_out (by omega) (by omega) (by omega) (by omega) (by omega) (by omega) n1 (by omega) _ rfl (fun r => r = nI ((f_state (91 * n1)).toNatClampNeg)) ((hG n1 (by omega)).1.1)) mkX12_points w_1108 ws_36 w_1106 (xpg0 hP rfl) rfl rfl rfl rfl (Nat.le_of_ble_eq_true rfl) (Nat.le_of_ble_eq_true rfl) (Nat.le_of_ble_eq_true rfl) (Nat.le_of_ble_eq_true rfl) (Nat.le_of_ble_eq_true rfl) ?_
    intro v M2 hz
    obtain ⟨_, rfl, rfl, rfl⟩ := hz
    show xW _ _ _ _ 10 _ [.int (nI ((f_state (91 * n1)).toNatClampNeg)), .int (nI j)] (P ++ (MDL L i_keptMany i_taped i_faultKind i_faultPlace i_spot i_begin i_token i_value i_bad i_full i_bandRows i_bandFirsts i_outs f_state f_was f_kept f_tape f_order f_rest f_ways f_costs f_bandBest f_found f_drawn f_joined f_out ++ R)) _ _
    have o2 := (hG n1 (by omega)).1.2
    refine xi_icmp_ge_t (tgt := 33) dX12_degree_10 (by decide) (nI_le (a := (f_state (91 * n1)).toNatClampNeg) (b := j) (by omega) (by omega)) ?_
    refine xi_sub (lv' := [(2, .int v2)]) [2] rfl ?_
    exact HE v2 hq
  | succ k ih =>
    intro j v2 hj hj2 hq
    rw [LX12_degree_4] at hq
    refine xi_iload_n 3 dX12_degree_4 rfl ?_
    refine xi_aload_n 0 dX12_degree_5 rfl ?_
    refine xi_iload_n 1 dX12_degree_6 rfl ?_
    refine xi_callV (as := [.int (nI n1)]) (rest := [.int (nI j)]) dX12_degree_7 (FX12_points_ok G hP i_keptMany i_taped i_faultKind i_faultPlace i_spot i_begin i_token i_value i_bad i_full i_bandRows i_bandFirsts i_outs f_state f_was f_kept f_tape f_order f_rest f_ways f_costs f_bandBest f_found f_drawn f_joined f_out (by omega) (by omega) (by omega) (by omega) (by omega) (by omega) n1 (by omega) _ rfl (fun r => r = nI ((f_state (91 * n1)).toNatClampNeg)) ((hG n1 (by omega)).1.1)) mkX12_points w_1108 ws_36 w_1106 (xpg0 hP rfl) rfl rfl rfl rfl (Nat.le_of_ble_eq_true rfl) (Nat.le_of_ble_eq_true rfl) (Nat.le_of_ble_eq_true rfl) (Nat.le_of_ble_eq_true rfl) (Nat.le_of_ble_eq_true rfl) ?_
    intro v M2 hz
    obtain ⟨_, rfl, rfl, rfl⟩ := hz
    show xW _ _ _ _ 10 _ [.int (nI ((f_state (91 * n1)).toNatClampNeg)), .int (nI j)] (P ++ (MDL L i_keptMany i_taped i_faultKind i_faultPlace i_spot i_begin i_token i_value i_bad i_full i_bandRows i_bandFirsts i_outs f_state f_was f_kept f_tape f_order f_rest f_ways f_costs f_bandBest f_found f_drawn f_joined f_out ++ R)) _ _
    have o1 := (hG n1 (by omega)).1.2
    refine xi_icmp_ge_f (tgt := 33) dX12_degree_10 (by decide) (nI_ge (a := j) (b := (f_state (91 * n1)).toNatClampNeg) (by omega) (by omega)) ?_
    refine xi_iload_n 2 dX12_degree_13 rfl ?_
    refine xi_aload_n 0 dX12_degree_14 rfl ?_
    refine xi_iload_n 1 dX12_degree_15 rfl ?_
    refine xi_iload_n 3 dX12_degree_16 rfl ?_
    refine xi_callV (as := [.int (nI n1), .int (nI j)]) (rest := [.int v2]) dX12_degree_17 (FX12_nearOf_ok G hP i_keptMany i_taped i_faultKind i_faultPlace i_spot i_begin i_token i_value i_bad i_full i_bandRows i_bandFirsts i_outs f_state f_was f_kept f_tape f_order f_rest f_ways f_costs f_bandBest f_found f_drawn f_joined f_out (by omega) (by omega) (by omega) (by omega) (by omega) (by omega) hG n1 (by omega) j (by omega) _ rfl (fun r => r = FX12_nearOf f_state n1 j) rfl) mkX12_nearOf w_1188 ws_52 w_1186 (xpg0 hP rfl) rfl rfl rfl rfl (Nat.le_of_ble_eq_true rfl) (Nat.le_of_ble_eq_true rfl) (Nat.le_of_ble_eq_true rfl) (Nat.le_of_ble_eq_true rfl) (Nat.le_of_ble_eq_true rfl) ?_
    intro v M2 hz
    obtain ⟨_, rfl, rfl, rfl⟩ := hz
    show xW _ _ _ _ 20 _ [.int (FX12_nearOf f_state n1 j), .int v2] (P ++ (MDL L i_keptMany i_taped i_faultKind i_faultPlace i_spot i_begin i_token i_value i_bad i_full i_bandRows i_bandFirsts i_outs f_state f_was f_kept f_tape f_order f_rest f_ways f_costs f_bandBest f_found f_drawn f_joined f_out ++ R)) _ _
    refine xi_callS (as := [.int (FX12_nearOf f_state n1 j)]) (rest := [.int v2]) dX12_degree_20 (FX12_ones_ok G ((FX12_nearOf f_state n1 j)) (fun r => r = FX12_ones ((FX12_nearOf f_state n1 j))) rfl) mkX12_ones w_1195 w_1194 rfl rfl (Nat.le_of_ble_eq_true rfl) (Nat.le_of_ble_eq_true rfl) (Nat.le_of_ble_eq_true rfl) (Nat.le_of_ble_eq_true rfl) (Nat.le_of_ble_eq_true rfl) ?_
    intro v M2 hz
    obtain ⟨_, rfl, rfl, hM2⟩ := hz
    rw [hM2]
    show xW _ _ _ _ 23 _ [.int (FX12_ones ((FX12_nearOf f_state n1 j))), .int v2] (P ++ (MDL L i_keptMany i_taped i_faultKind i_faultPlace i_spot i_begin i_token i_value i_bad i_full i_bandRows i_bandFirsts i_outs f_state f_was f_kept f_tape f_order f_rest f_ways f_costs f_bandBest f_found f_drawn f_joined f_out ++ R)) _ _
    refine xi_max (v := (if v2 < (FX12_ones ((FX12_nearOf f_state n1 j))) then (FX12_ones ((FX12_nearOf f_state n1 j))) else v2)) dX12_degree_23 w_1234 w_37 w_3 w_mmax (Nat.le_of_ble_eq_true rfl) (Nat.le_of_ble_eq_true rfl) (Nat.le_of_ble_eq_true rfl) (Nat.le_of_ble_eq_true rfl) (Nat.le_of_ble_eq_true rfl) rfl ?_
    refine xi_istore_n (lv' := [(2, .int (if v2 < (FX12_ones ((FX12_nearOf f_state n1 j))) then (FX12_ones ((FX12_nearOf f_state n1 j))) else v2)), (0, .ref L), (1, .int (nI n1)), (3, .int (nI j))]) dX12_degree_26 (by decide) rfl ?_
    refine xi_iinc (v := (nI (j + 1))) (lv' := [(3, .int (nI (j + 1))), (2, .int (if v2 < (FX12_ones ((FX12_nearOf f_state n1 j))) then (FX12_ones ((FX12_nearOf f_state n1 j))) else v2)), (0, .ref L), (1, .int (nI n1))]) 3 dX12_degree_27 rfl (nI_1 _) (by decide) rfl ?_
    refine xi_goto (tgt := 4) dX12_degree_30 (by decide) ?_
    refine xi_sub (lv' := [(0, .ref L), (1, .int (nI n1)), (2, .int (if v2 < (FX12_ones ((FX12_nearOf f_state n1 j))) then (FX12_ones ((FX12_nearOf f_state n1 j))) else v2)), (3, .int (nI (j + 1)))]) [2, 3, 1, 0] rfl ?_
    exact ih (j + 1) ((if v2 < (FX12_ones ((FX12_nearOf f_state n1 j))) then (FX12_ones ((FX12_nearOf f_state n1 j))) else v2)) (by omega) (by omega) hq
def FX12_degree (f_state : Nat → Int32) (z : Nat) : Int32 := (LX12_degree_4 f_state z (fun u3 => u3) ((f_state (91 * z)).toNatClampNeg - 0) 0 ((0 : Int32)))
set_option maxHeartbeats 4000000 in
set_option maxRecDepth 100000 in
theorem FX12_degree_ok (G : xG) {P R : xMem} {L : Nat} (hP : P.length = L) (i_keptMany : Nat) (i_taped : Nat) (i_faultKind : Int32) (i_faultPlace : Int32) (i_spot : Nat) (i_begin : Nat) (i_token : Int32) (i_value : Int32) (i_bad : Int32) (i_full : Nat) (i_bandRows : Int32) (i_bandFirsts : Int32) (i_outs : Nat) (f_state : Nat → Int32) (f_was : Nat → Int32) (f_kept : Nat → Int32) (f_tape : Nat → Int32) (f_order : Nat → Int32) (f_rest : Nat → Int32) (f_ways : Nat → Int32) (f_costs : Nat → Int32) (f_bandBest : Nat → Int32) (f_found : Nat → Int32) (f_drawn : Nat → Int32) (f_joined : Nat → Int32) (f_out : Nat → Int32) (bi_keptMany : i_keptMany ≤ 10) (bi_taped : i_taped ≤ 400) (bi_spot : i_spot ≤ 400) (bi_begin : i_begin ≤ 400) (bi_full : i_full ≤ 511) (bi_outs : i_outs ≤ 400) (hG : GO f_state) (z : Nat) (bz : z < 3) (M : xMem) (hM : M = (P ++ (MDL L i_keptMany i_taped i_faultKind i_faultPlace i_spot i_begin i_token i_value i_bad i_full i_bandRows i_bandFirsts i_outs f_state f_was f_kept f_tape f_order f_rest f_ways f_costs f_bandBest f_found f_drawn f_joined f_out ++ R))) (Q : Int32 → Prop) (hq : Q (FX12_degree f_state z)) : xC G mX12_degree 2 0 0 [.ref L, .int (nI z)] M (fun v M2 => ∃ o : Int32, v = some (.int o) ∧ Q o ∧ M2 = (P ++ (MDL L i_keptMany i_taped i_faultKind i_faultPlace i_spot i_begin i_token i_value i_bad i_full i_bandRows i_bandFirsts i_outs f_state f_was f_kept f_tape f_order f_rest f_ways f_costs f_bandBest f_found f_drawn f_joined f_out ++ R))) := by
  subst hM
  unfold FX12_degree at hq
  refine xC.of (by decide) (Nat.le_of_ble_eq_true rfl) ?_
  show xW _ _ _ _ 0 [(0, .ref L), (1, .int (nI z))] [] _ 0 0
  refine xi_iconst (v := 0) dX12_degree_0 (by decide) ?_
  refine xi_istore_n (lv' := [(2, .int 0), (0, .ref L), (1, .int (nI z))]) dX12_degree_1 (by decide) rfl ?_
  refine xi_iconst (v := 0) dX12_degree_2 (by decide) ?_
  refine xi_istore_n (lv' := [(3, .int 0), (2, .int 0), (0, .ref L), (1, .int (nI z))]) dX12_degree_3 (by decide) rfl ?_
  refine xi_sub (lv' := [(0, .ref L), (1, .int (nI z)), (2, .int 0), (3, .int 0)]) [2, 3, 1, 0] rfl ?_
  refine LX12_degree_4_s G hP i_keptMany i_taped i_faultKind i_faultPlace i_spot i_begin i_token i_value i_bad i_full i_bandRows i_bandFirsts i_outs f_state f_was f_kept f_tape f_order f_rest f_ways f_costs f_bandBest f_found f_drawn f_joined f_out (by omega) (by omega) (by omega) (by omega) (by omega) (by omega) hG z (by omega) Q _ (fun u3 hq => ?_) ((f_state (91 * z)).toNatClampNeg - 0) 0 ((0 : Int32)) rfl (by omega) hq
  refine xi_iload_n 0 dX12_degree_33 rfl ?_
  exact xi_iret dX12_degree_34 rfl rfl (Nat.le_of_ble_eq_true rfl) (Nat.le_of_ble_eq_true rfl) ⟨_, rfl, hq, rfl⟩
def LX12_splitOf_118 (f_state : Nat → Int32) (n1 : Nat) (w2 : Int32) (w3 : Int32) (n5 : Nat) (K : Int32 → Int32) : Nat → Nat → Int32 → Int32
  | 0, _, v4 => K v4
  | k + 1, j, v4 => (if (FX12_has w2 ((nI j))) = (0 : Int32) then (LX12_splitOf_118 f_state n1 w2 w3 n5 K k (j + 1) ((v4 + (FX12_weight f_state n1 n5 j)))) else (LX12_splitOf_118 f_state n1 w2 w3 n5 K k (j + 1) ((v4 + (0 : Int32)))))
def LX12_splitOf_6 (f_state : Nat → Int32) (n1 : Nat) (w2 : Int32) (w3 : Int32) (K : Int32 → Int32) : Nat → Nat → Int32 → Int32
  | 0, _, v4 => K v4
  | k + 1, j, v4 => (if (FX12_has w2 ((nI j))) = (0 : Int32) then (if w3 = (1 : Int32) then (if (FX12_has w2 ((nI j))) = (0 : Int32) then (LX12_splitOf_6 f_state n1 w2 w3 K k (j + 1) ((v4 + (0 : Int32)))) else (if ((FX12_nearOf f_state n1 j) &&& w2) = (0 : Int32) then (LX12_splitOf_6 f_state n1 w2 w3 K k (j + 1) ((v4 + (0 : Int32)))) else (LX12_splitOf_6 f_state n1 w2 w3 K k (j + 1) ((v4 + (1 : Int32)))))) else (if w3 = (2 : Int32) then (if (FX12_has w2 ((nI j))) = (0 : Int32) then (if ((FX12_nearOf f_state n1 j) &&& w2) = (0 : Int32) then (LX12_splitOf_6 f_state n1 w2 w3 K k (j + 1) ((v4 + (0 : Int32)))) else (LX12_splitOf_6 f_state n1 w2 w3 K k (j + 1) ((v4 + (1 : Int32))))) else (LX12_splitOf_6 f_state n1 w2 w3 K k (j + 1) ((v4 + (0 : Int32))))) else (if (FX12_has w2 ((nI j))) = (0 : Int32) then (LX12_splitOf_6 f_state n1 w2 w3 K k (j + 1) v4) else (LX12_splitOf_118 f_state n1 w2 w3 j (fun u9 => (LX12_splitOf_6 f_state n1 w2 w3 K k (j + 1) u9)) ((f_state (91 * n1)).toNatClampNeg - 0) 0 v4)))) else (if w3 = (1 : Int32) then (if (FX12_has w2 ((nI j))) = (0 : Int32) then (LX12_splitOf_6 f_state n1 w2 w3 K k (j + 1) ((v4 + (0 : Int32)))) else (if ((FX12_nearOf f_state n1 j) &&& (w2 ^^^ (-1 : Int32))) = (0 : Int32) then (LX12_splitOf_6 f_state n1 w2 w3 K k (j + 1) ((v4 + (0 : Int32)))) else (LX12_splitOf_6 f_state n1 w2 w3 K k (j + 1) ((v4 + (1 : Int32)))))) else (if w3 = (2 : Int32) then (if (FX12_has w2 ((nI j))) = (0 : Int32) then (if ((FX12_nearOf f_state n1 j) &&& (w2 ^^^ (-1 : Int32))) = (0 : Int32) then (LX12_splitOf_6 f_state n1 w2 w3 K k (j + 1) ((v4 + (0 : Int32)))) else (LX12_splitOf_6 f_state n1 w2 w3 K k (j + 1) ((v4 + (1 : Int32))))) else (LX12_splitOf_6 f_state n1 w2 w3 K k (j + 1) ((v4 + (0 : Int32))))) else (if (FX12_has w2 ((nI j))) = (0 : Int32) then (LX12_splitOf_6 f_state n1 w2 w3 K k (j + 1) v4) else (LX12_splitOf_118 f_state n1 w2 w3 j (fun u17 => (LX12_splitOf_6 f_state n1 w2 w3 K k (j + 1) u17)) ((f_state (91 * n1)).toNatClampNeg - 0) 0 v4)))))
set_option maxHeartbeats 4000000 in
set_option maxRecDepth 100000 in
theorem LX12_splitOf_118_s (G : xG) {P R : xMem} {L : Nat} (hP : P.length = L) (i_keptMany : Nat) (i_taped : Nat) (i_faultKind : Int32) (i_faultPlace : Int32) (i_spot : Nat) (i_begin : Nat) (i_token : Int32) (i_value : Int32) (i_bad : Int32) (i_full : Nat) (i_bandRows : Int32) (i_bandFirsts : Int32) (i_outs : Nat) (f_state : Nat → Int32) (f_was : Nat → Int32) (f_kept : Nat → Int32) (f_tape : Nat → Int32) (f_order : Nat → Int32) (f_rest : Nat → Int32) (f_ways : Nat → Int32) (f_costs : Nat → Int32) (f_bandBest : Nat → Int32) (f_found : Nat → Int32) (f_drawn : Nat → Int32) (f_joined : Nat → Int32) (f_out : Nat → Int32) (bi_keptMany : i_keptMany ≤ 10) (bi_taped : i_taped ≤ 400) (bi_spot : i_spot ≤ 400) (bi_begin : i_begin ≤ 400) (bi_full : i_full ≤ 511) (bi_outs : i_outs ≤ 400) (hG : GO f_state) (n1 : Nat) (bn1 : n1 < 3) (w2 : Int32) (w3 : Int32) (n5 : Nat) (bn5 : n5 < 9) (Q : Int32 → Prop) (K : Int32 → Int32) (HE : ∀ (v4 : Int32), Q (K v4) → xW G mX12_splitOf (xrm 2 0 0) (xQ G (fun v M2 => ∃ o : Int32, v = some (.int o) ∧ Q o ∧ M2 = (P ++ (MDL L i_keptMany i_taped i_faultKind i_faultPlace i_spot i_begin i_token i_value i_bad i_full i_bandRows i_bandFirsts i_outs f_state f_was f_kept f_tape f_order f_rest f_ways f_costs f_bandBest f_found f_drawn f_joined f_out ++ R))) 0 0) 161 [(0, .ref L), (1, .int (nI n1)), (2, .int w2), (3, .int w3), (4, .int v4), (5, .int (nI n5))] [] (P ++ (MDL L i_keptMany i_taped i_faultKind i_faultPlace i_spot i_begin i_token i_value i_bad i_full i_bandRows i_bandFirsts i_outs f_state f_was f_kept f_tape f_order f_rest f_ways f_costs f_bandBest f_found f_drawn f_joined f_out ++ R)) 0 0) :
    ∀ (k j : Nat) (v4 : Int32), (f_state (91 * n1)).toNatClampNeg - j = k → j < 100000 → Q (LX12_splitOf_118 f_state n1 w2 w3 n5 K k j v4) → xW G mX12_splitOf (xrm 2 0 0) (xQ G (fun v M2 => ∃ o : Int32, v = some (.int o) ∧ Q o ∧ M2 = (P ++ (MDL L i_keptMany i_taped i_faultKind i_faultPlace i_spot i_begin i_token i_value i_bad i_full i_bandRows i_bandFirsts i_outs f_state f_was f_kept f_tape f_order f_rest f_ways f_costs f_bandBest f_found f_drawn f_joined f_out ++ R))) 0 0) 118 [(0, .ref L), (1, .int (nI n1)), (2, .int w2), (3, .int w3), (4, .int v4), (5, .int (nI n5)), (7, .int (nI j))] [] (P ++ (MDL L i_keptMany i_taped i_faultKind i_faultPlace i_spot i_begin i_token i_value i_bad i_full i_bandRows i_bandFirsts i_outs f_state f_was f_kept f_tape f_order f_rest f_ways f_costs f_bandBest f_found f_drawn f_joined f_out ++ R)) 0 0 := by
  intro k
  induction k with
  | zero =>
    intro j v4 hj hj2 hq
    rw [LX12_splitOf_118] at hq
    refine xi_iload 6 dX12_splitOf_118 rfl ?_
    refine xi_aload_n 0 dX12_splitOf_120 rfl ?_
    refine xi_iload_n 1 dX12_splitOf_121 rfl ?_
    refine xi_callV (as := [.int (nI n1)]) (rest := [.int (nI j)]) dX12_splitOf_122 (FX12_points_ok G hP i_keptMany i_taped i_faultKind i_faultPlace i_spot i_begin i_token i_value i_bad i_full i_bandRows i_bandFirsts i_outs f_state f_was f_kept f_tape f_order f_rest f_ways f_costs f_bandBest f_found f_drawn f_joined f_out (by omega) (by omega) (by omega) (by omega) (by omega) (by omega) n1 (by omega) _ rfl (fun r => r = nI ((f_state (91 * n1)).toNatClampNeg)) ((hG n1 (by omega)).1.1)) mkX12_points w_1108 ws_36 w_1106 (xpg0 hP rfl) rfl rfl rfl rfl (Nat.le_of_ble_eq_true rfl) (Nat.le_of_ble_eq_true rfl) (Nat.le_of_ble_eq_true rfl) (Nat.le_of_ble_eq_true rfl) (Nat.le_of_ble_eq_true rfl) ?_
    intro v M2 hz
    obtain ⟨_, rfl, rfl, rfl⟩ := hz
    show xW _ _ _ _ 125 _ [.int (nI ((f_state (91 * n1)).toNatClampNeg)), .int (nI j)] (P ++ (MDL L i_keptMany i_taped i_faultKind i_faultPlace i_spot i_begin i_token i_value i_bad i_full i_bandRows i_bandFirsts i_outs f_state f_was f_kept f_tape f_order f_rest f_ways f_costs f_bandBest f_found f_drawn f_joined f_out ++ R)) _ _
    have o8 := (hG n1 (by omega)).1.2
    refine xi_icmp_ge_t (tgt := 161) dX12_splitOf_125 (by decide) (nI_le (a := (f_state (91 * n1)).toNatClampNeg) (b := j) (by omega) (by omega)) ?_
    refine xi_sub (lv' := [(0, .ref L), (1, .int (nI n1)), (2, .int w2), (3, .int w3), (4, .int v4), (5, .int (nI n5))]) [0, 1, 2, 3, 4, 5] rfl ?_
    exact HE v4 hq
  | succ k ih =>
    intro j v4 hj hj2 hq
    rw [LX12_splitOf_118] at hq
    refine xi_iload 6 dX12_splitOf_118 rfl ?_
    refine xi_aload_n 0 dX12_splitOf_120 rfl ?_
    refine xi_iload_n 1 dX12_splitOf_121 rfl ?_
    refine xi_callV (as := [.int (nI n1)]) (rest := [.int (nI j)]) dX12_splitOf_122 (FX12_points_ok G hP i_keptMany i_taped i_faultKind i_faultPlace i_spot i_begin i_token i_value i_bad i_full i_bandRows i_bandFirsts i_outs f_state f_was f_kept f_tape f_order f_rest f_ways f_costs f_bandBest f_found f_drawn f_joined f_out (by omega) (by omega) (by omega) (by omega) (by omega) (by omega) n1 (by omega) _ rfl (fun r => r = nI ((f_state (91 * n1)).toNatClampNeg)) ((hG n1 (by omega)).1.1)) mkX12_points w_1108 ws_36 w_1106 (xpg0 hP rfl) rfl rfl rfl rfl (Nat.le_of_ble_eq_true rfl) (Nat.le_of_ble_eq_true rfl) (Nat.le_of_ble_eq_true rfl) (Nat.le_of_ble_eq_true rfl) (Nat.le_of_ble_eq_true rfl) ?_
    intro v M2 hz
    obtain ⟨_, rfl, rfl, rfl⟩ := hz
    show xW _ _ _ _ 125 _ [.int (nI ((f_state (91 * n1)).toNatClampNeg)), .int (nI j)] (P ++ (MDL L i_keptMany i_taped i_faultKind i_faultPlace i_spot i_begin i_token i_value i_bad i_full i_bandRows i_bandFirsts i_outs f_state f_was f_kept f_tape f_order f_rest f_ways f_costs f_bandBest f_found f_drawn f_joined f_out ++ R)) _ _
    have o6 := (hG n1 (by omega)).1.2
    refine xi_icmp_ge_f (tgt := 161) dX12_splitOf_125 (by decide) (nI_ge (a := j) (b := (f_state (91 * n1)).toNatClampNeg) (by omega) (by omega)) ?_
    refine xi_iload 4 dX12_splitOf_128 rfl ?_
    refine xi_iload_n 2 dX12_splitOf_130 rfl ?_
    refine xi_iload 6 dX12_splitOf_131 rfl ?_
    refine xi_callS (as := [.int w2, .int (nI j)]) (rest := [.int v4]) dX12_splitOf_133 (FX12_has_ok G w2 ((nI j)) (fun r => r = FX12_has w2 ((nI j))) rfl) mkX12_has w_1207 w_1206 rfl rfl (Nat.le_of_ble_eq_true rfl) (Nat.le_of_ble_eq_true rfl) (Nat.le_of_ble_eq_true rfl) (Nat.le_of_ble_eq_true rfl) (Nat.le_of_ble_eq_true rfl) ?_
    intro v M2 hz
    obtain ⟨_, rfl, rfl, hM2⟩ := hz
    rw [hM2]
    show xW _ _ _ _ 136 _ [.int (FX12_has w2 ((nI j))), .int v4] (P ++ (MDL L i_keptMany i_taped i_faultKind i_faultPlace i_spot i_begin i_token i_value i_bad i_full i_bandRows i_bandFirsts i_outs f_state f_was f_kept f_tape f_order f_rest f_ways f_costs f_bandBest f_found f_drawn f_joined f_out ++ R)) _ _
    refine xi_if_eq (tgt := 143) dX12_splitOf_136 (by decide) (fun c7 => ?_) (fun c7 => ?_)
    · rw [if_pos c7] at hq
      refine xi_aload_n 0 dX12_splitOf_143 rfl ?_
      refine xi_iload_n 1 dX12_splitOf_144 rfl ?_
      refine xi_iload 5 dX12_splitOf_145 rfl ?_
      refine xi_iload 6 dX12_splitOf_147 rfl ?_
      refine xi_callV (as := [.int (nI n1), .int (nI n5), .int (nI j)]) (rest := [.int v4]) dX12_splitOf_149 (FX12_weight_ok G hP i_keptMany i_taped i_faultKind i_faultPlace i_spot i_begin i_token i_value i_bad i_full i_bandRows i_bandFirsts i_outs f_state f_was f_kept f_tape f_order f_rest f_ways f_costs f_bandBest f_found f_drawn f_joined f_out (by omega) (by omega) (by omega) (by omega) (by omega) (by omega) n1 (by omega) n5 (by omega) j (by omega) _ rfl (fun r => r = FX12_weight f_state n1 n5 j) rfl) mkX12_weight w_1192 ws_53 w_1190 (xpg0 hP rfl) rfl rfl rfl rfl (Nat.le_of_ble_eq_true rfl) (Nat.le_of_ble_eq_true rfl) (Nat.le_of_ble_eq_true rfl) (Nat.le_of_ble_eq_true rfl) (Nat.le_of_ble_eq_true rfl) ?_
      intro v M2 hz
      obtain ⟨_, rfl, rfl, rfl⟩ := hz
      show xW _ _ _ _ 152 _ [.int (FX12_weight f_state n1 n5 j), .int v4] (P ++ (MDL L i_keptMany i_taped i_faultKind i_faultPlace i_spot i_begin i_token i_value i_bad i_full i_bandRows i_bandFirsts i_outs f_state f_was f_kept f_tape f_order f_rest f_ways f_costs f_bandBest f_found f_drawn f_joined f_out ++ R)) _ _
      refine xi_iadd (v := (v4 + (FX12_weight f_state n1 n5 j))) dX12_splitOf_152 rfl ?_
      refine xi_istore (lv' := [(4, .int (v4 + (FX12_weight f_state n1 n5 j))), (0, .ref L), (1, .int (nI n1)), (2, .int w2), (3, .int w3), (5, .int (nI n5)), (7, .int (nI j))]) dX12_splitOf_153 (by decide) rfl ?_
      refine xi_iinc (v := (nI (j + 1))) (lv' := [(7, .int (nI (j + 1))), (4, .int (v4 + (FX12_weight f_state n1 n5 j))), (0, .ref L), (1, .int (nI n1)), (2, .int w2), (3, .int w3), (5, .int (nI n5))]) 6 dX12_splitOf_155 rfl (nI_1 _) (by decide) rfl ?_
      refine xi_goto (tgt := 118) dX12_splitOf_158 (by decide) ?_
      refine xi_sub (lv' := [(0, .ref L), (1, .int (nI n1)), (2, .int w2), (3, .int w3), (4, .int (v4 + (FX12_weight f_state n1 n5 j))), (5, .int (nI n5)), (7, .int (nI (j + 1)))]) [2, 3, 4, 5, 1, 6, 0] rfl ?_
      exact ih (j + 1) ((v4 + (FX12_weight f_state n1 n5 j))) (by omega) (by omega) hq
    · rw [if_neg c7] at hq
      refine xi_iconst (v := 0) dX12_splitOf_139 (by decide) ?_
      refine xi_goto (tgt := 152) dX12_splitOf_140 (by decide) ?_
      refine xi_iadd (v := (v4 + (0 : Int32))) dX12_splitOf_152 rfl ?_
      refine xi_istore (lv' := [(4, .int (v4 + (0 : Int32))), (0, .ref L), (1, .int (nI n1)), (2, .int w2), (3, .int w3), (5, .int (nI n5)), (7, .int (nI j))]) dX12_splitOf_153 (by decide) rfl ?_
      refine xi_iinc (v := (nI (j + 1))) (lv' := [(7, .int (nI (j + 1))), (4, .int (v4 + (0 : Int32))), (0, .ref L), (1, .int (nI n1)), (2, .int w2), (3, .int w3), (5, .int (nI n5))]) 6 dX12_splitOf_155 rfl (nI_1 _) (by decide) rfl ?_
      refine xi_goto (tgt := 118) dX12_splitOf_158 (by decide) ?_
      refine xi_sub (lv' := [(0, .ref L), (1, .int (nI n1)), (2, .int w2), (3, .int w3), (4, .int (v4 + (0 : Int32))), (5, .int (nI n5)), (7, .int (nI (j + 1)))]) [2, 3, 4, 5, 1, 6, 0] rfl ?_
      exact ih (j + 1) ((v4 + (0 : Int32))) (by omega) (by omega) hq
set_option maxHeartbeats 4000000 in
set_option maxRecDepth 100000 in
theorem LX12_splitOf_6_s (G : xG) {P R : xMem} {L : Nat} (hP : P.length = L) (i_keptMany : Nat) (i_taped : Nat) (i_faultKind : Int32) (i_faultPlace : Int32) (i_spot : Nat) (i_begin : Nat) (i_token : Int32) (i_value : Int32) (i_bad : Int32) (i_full : Nat) (i_bandRows : Int32) (i_bandFirsts : Int32) (i_outs : Nat) (f_state : Nat → Int32) (f_was : Nat → Int32) (f_kept : Nat → Int32) (f_tape : Nat → Int32) (f_order : Nat → Int32) (f_rest : Nat → Int32) (f_ways : Nat → Int32) (f_costs : Nat → Int32) (f_bandBest : Nat → Int32) (f_found : Nat → Int32) (f_drawn : Nat → Int32) (f_joined : Nat → Int32) (f_out : Nat → Int32) (bi_keptMany : i_keptMany ≤ 10) (bi_taped : i_taped ≤ 400) (bi_spot : i_spot ≤ 400) (bi_begin : i_begin ≤ 400) (bi_full : i_full ≤ 511) (bi_outs : i_outs ≤ 400) (hG : GO f_state) (n1 : Nat) (bn1 : n1 < 3) (w2 : Int32) (w3 : Int32) (Q : Int32 → Prop) (K : Int32 → Int32) (HE : ∀ (v4 : Int32), Q (K v4) → xW G mX12_splitOf (xrm 2 0 0) (xQ G (fun v M2 => ∃ o : Int32, v = some (.int o) ∧ Q o ∧ M2 = (P ++ (MDL L i_keptMany i_taped i_faultKind i_faultPlace i_spot i_begin i_token i_value i_bad i_full i_bandRows i_bandFirsts i_outs f_state f_was f_kept f_tape f_order f_rest f_ways f_costs f_bandBest f_found f_drawn f_joined f_out ++ R))) 0 0) 167 [(4, .int v4)] [] (P ++ (MDL L i_keptMany i_taped i_faultKind i_faultPlace i_spot i_begin i_token i_value i_bad i_full i_bandRows i_bandFirsts i_outs f_state f_was f_kept f_tape f_order f_rest f_ways f_costs f_bandBest f_found f_drawn f_joined f_out ++ R)) 0 0) :
    ∀ (k j : Nat) (v4 : Int32), (f_state (91 * n1)).toNatClampNeg - j = k → j < 100000 → Q (LX12_splitOf_6 f_state n1 w2 w3 K k j v4) → xW G mX12_splitOf (xrm 2 0 0) (xQ G (fun v M2 => ∃ o : Int32, v = some (.int o) ∧ Q o ∧ M2 = (P ++ (MDL L i_keptMany i_taped i_faultKind i_faultPlace i_spot i_begin i_token i_value i_bad i_full i_bandRows i_bandFirsts i_outs f_state f_was f_kept f_tape f_order f_rest f_ways f_costs f_bandBest f_found f_drawn f_joined f_out ++ R))) 0 0) 6 [(0, .ref L), (1, .int (nI n1)), (2, .int w2), (3, .int w3), (4, .int v4), (5, .int (nI j))] [] (P ++ (MDL L i_keptMany i_taped i_faultKind i_faultPlace i_spot i_begin i_token i_value i_bad i_full i_bandRows i_bandFirsts i_outs f_state f_was f_kept f_tape f_order f_rest f_ways f_costs f_bandBest f_found f_drawn f_joined f_out ++ R)) 0 0 := by
  intro k
  induction k with
  | zero =>
    intro j v4 hj hj2 hq
    rw [LX12_splitOf_6] at hq
    refine xi_iload 5 dX12_splitOf_6 rfl ?_
    refine xi_aload_n 0 dX12_splitOf_8 rfl ?_
    refine xi_iload_n 1 dX12_splitOf_9 rfl ?_
    refine xi_callV (as := [.int (nI n1)]) (rest := [.int (nI j)]) dX12_splitOf_10 (FX12_points_ok G hP i_keptMany i_taped i_faultKind i_faultPlace i_spot i_begin i_token i_value i_bad i_full i_bandRows i_bandFirsts i_outs f_state f_was f_kept f_tape f_order f_rest f_ways f_costs f_bandBest f_found f_drawn f_joined f_out (by omega) (by omega) (by omega) (by omega) (by omega) (by omega) n1 (by omega) _ rfl (fun r => r = nI ((f_state (91 * n1)).toNatClampNeg)) ((hG n1 (by omega)).1.1)) mkX12_points w_1108 ws_36 w_1106 (xpg0 hP rfl) rfl rfl rfl rfl (Nat.le_of_ble_eq_true rfl) (Nat.le_of_ble_eq_true rfl) (Nat.le_of_ble_eq_true rfl) (Nat.le_of_ble_eq_true rfl) (Nat.le_of_ble_eq_true rfl) ?_
    intro v M2 hz
    obtain ⟨_, rfl, rfl, rfl⟩ := hz
    show xW _ _ _ _ 13 _ [.int (nI ((f_state (91 * n1)).toNatClampNeg)), .int (nI j)] (P ++ (MDL L i_keptMany i_taped i_faultKind i_faultPlace i_spot i_begin i_token i_value i_bad i_full i_bandRows i_bandFirsts i_outs f_state f_was f_kept f_tape f_order f_rest f_ways f_costs f_bandBest f_found f_drawn f_joined f_out ++ R)) _ _
    have o22 := (hG n1 (by omega)).1.2
    refine xi_icmp_ge_t (tgt := 167) dX12_splitOf_13 (by decide) (nI_le (a := (f_state (91 * n1)).toNatClampNeg) (b := j) (by omega) (by omega)) ?_
    refine xi_sub (lv' := [(4, .int v4)]) [4] rfl ?_
    exact HE v4 hq
  | succ k ih =>
    intro j v4 hj hj2 hq
    rw [LX12_splitOf_6] at hq
    refine xi_iload 5 dX12_splitOf_6 rfl ?_
    refine xi_aload_n 0 dX12_splitOf_8 rfl ?_
    refine xi_iload_n 1 dX12_splitOf_9 rfl ?_
    refine xi_callV (as := [.int (nI n1)]) (rest := [.int (nI j)]) dX12_splitOf_10 (FX12_points_ok G hP i_keptMany i_taped i_faultKind i_faultPlace i_spot i_begin i_token i_value i_bad i_full i_bandRows i_bandFirsts i_outs f_state f_was f_kept f_tape f_order f_rest f_ways f_costs f_bandBest f_found f_drawn f_joined f_out (by omega) (by omega) (by omega) (by omega) (by omega) (by omega) n1 (by omega) _ rfl (fun r => r = nI ((f_state (91 * n1)).toNatClampNeg)) ((hG n1 (by omega)).1.1)) mkX12_points w_1108 ws_36 w_1106 (xpg0 hP rfl) rfl rfl rfl rfl (Nat.le_of_ble_eq_true rfl) (Nat.le_of_ble_eq_true rfl) (Nat.le_of_ble_eq_true rfl) (Nat.le_of_ble_eq_true rfl) (Nat.le_of_ble_eq_true rfl) ?_
    intro v M2 hz
    obtain ⟨_, rfl, rfl, rfl⟩ := hz
    show xW _ _ _ _ 13 _ [.int (nI ((f_state (91 * n1)).toNatClampNeg)), .int (nI j)] (P ++ (MDL L i_keptMany i_taped i_faultKind i_faultPlace i_spot i_begin i_token i_value i_bad i_full i_bandRows i_bandFirsts i_outs f_state f_was f_kept f_tape f_order f_rest f_ways f_costs f_bandBest f_found f_drawn f_joined f_out ++ R)) _ _
    have o1 := (hG n1 (by omega)).1.2
    refine xi_icmp_ge_f (tgt := 167) dX12_splitOf_13 (by decide) (nI_ge (a := j) (b := (f_state (91 * n1)).toNatClampNeg) (by omega) (by omega)) ?_
    refine xi_aload_n 0 dX12_splitOf_16 rfl ?_
    refine xi_iload_n 1 dX12_splitOf_17 rfl ?_
    refine xi_iload 5 dX12_splitOf_18 rfl ?_
    refine xi_callV (as := [.int (nI n1), .int (nI j)]) (rest := []) dX12_splitOf_20 (FX12_nearOf_ok G hP i_keptMany i_taped i_faultKind i_faultPlace i_spot i_begin i_token i_value i_bad i_full i_bandRows i_bandFirsts i_outs f_state f_was f_kept f_tape f_order f_rest f_ways f_costs f_bandBest f_found f_drawn f_joined f_out (by omega) (by omega) (by omega) (by omega) (by omega) (by omega) hG n1 (by omega) j (by omega) _ rfl (fun r => r = FX12_nearOf f_state n1 j) rfl) mkX12_nearOf w_1188 ws_52 w_1186 (xpg0 hP rfl) rfl rfl rfl rfl (Nat.le_of_ble_eq_true rfl) (Nat.le_of_ble_eq_true rfl) (Nat.le_of_ble_eq_true rfl) (Nat.le_of_ble_eq_true rfl) (Nat.le_of_ble_eq_true rfl) ?_
    intro v M2 hz
    obtain ⟨_, rfl, rfl, rfl⟩ := hz
    show xW _ _ _ _ 23 _ [.int (FX12_nearOf f_state n1 j)] (P ++ (MDL L i_keptMany i_taped i_faultKind i_faultPlace i_spot i_begin i_token i_value i_bad i_full i_bandRows i_bandFirsts i_outs f_state f_was f_kept f_tape f_order f_rest f_ways f_costs f_bandBest f_found f_drawn f_joined f_out ++ R)) _ _
    refine xi_iload_n 2 dX12_splitOf_23 rfl ?_
    refine xi_iload 5 dX12_splitOf_24 rfl ?_
    refine xi_callS (as := [.int w2, .int (nI j)]) (rest := [.int (FX12_nearOf f_state n1 j)]) dX12_splitOf_26 (FX12_has_ok G w2 ((nI j)) (fun r => r = FX12_has w2 ((nI j))) rfl) mkX12_has w_1207 w_1206 rfl rfl (Nat.le_of_ble_eq_true rfl) (Nat.le_of_ble_eq_true rfl) (Nat.le_of_ble_eq_true rfl) (Nat.le_of_ble_eq_true rfl) (Nat.le_of_ble_eq_true rfl) ?_
    intro v M2 hz
    obtain ⟨_, rfl, rfl, hM2⟩ := hz
    rw [hM2]
    show xW _ _ _ _ 29 _ [.int (FX12_has w2 ((nI j))), .int (FX12_nearOf f_state n1 j)] (P ++ (MDL L i_keptMany i_taped i_faultKind i_faultPlace i_spot i_begin i_token i_value i_bad i_full i_bandRows i_bandFirsts i_outs f_state f_was f_kept f_tape f_order f_rest f_ways f_costs f_bandBest f_found f_drawn f_joined f_out ++ R)) _ _
    refine xi_if_eq (tgt := 38) dX12_splitOf_29 (by decide) (fun c2 => ?_) (fun c2 => ?_)
    · rw [if_pos c2] at hq
      refine xi_iload_n 2 dX12_splitOf_38 rfl ?_
      refine xi_iand (v := ((FX12_nearOf f_state n1 j) &&& w2)) dX12_splitOf_39 rfl ?_
      refine xi_istore (lv' := [(6, .int ((FX12_nearOf f_state n1 j) &&& w2)), (0, .ref L), (1, .int (nI n1)), (2, .int w2), (3, .int w3), (4, .int v4), (5, .int (nI j))]) dX12_splitOf_40 (by decide) rfl ?_
      refine xi_iload_n 4 dX12_splitOf_42 rfl ?_
      refine xi_iconst (v := 1) dX12_splitOf_43 (by decide) ?_
      refine xi_icmp_ne (tgt := 74) dX12_splitOf_44 (by decide) (fun c3 => ?_) (fun c3 => ?_)
      · rw [if_neg c3] at hq
        refine xi_iload_n 4 dX12_splitOf_74 rfl ?_
        refine xi_iconst (v := 2) dX12_splitOf_75 (by decide) ?_
        refine xi_icmp_ne (tgt := 106) dX12_splitOf_76 (by decide) (fun c4 => ?_) (fun c4 => ?_)
        · rw [if_neg c4] at hq
          refine xi_iload_n 3 dX12_splitOf_106 rfl ?_
          refine xi_iload 6 dX12_splitOf_107 rfl ?_
          refine xi_callS (as := [.int w2, .int (nI j)]) (rest := []) dX12_splitOf_109 (FX12_has_ok G w2 ((nI j)) (fun r => r = FX12_has w2 ((nI j))) rfl) mkX12_has w_1207 w_1206 rfl rfl (Nat.le_of_ble_eq_true rfl) (Nat.le_of_ble_eq_true rfl) (Nat.le_of_ble_eq_true rfl) (Nat.le_of_ble_eq_true rfl) (Nat.le_of_ble_eq_true rfl) ?_
          intro v M2 hz
          obtain ⟨_, rfl, rfl, hM2⟩ := hz
          rw [hM2]
          show xW _ _ _ _ 112 _ [.int (FX12_has w2 ((nI j)))] (P ++ (MDL L i_keptMany i_taped i_faultKind i_faultPlace i_spot i_begin i_token i_value i_bad i_full i_bandRows i_bandFirsts i_outs f_state f_was f_kept f_tape f_order f_rest f_ways f_costs f_bandBest f_found f_drawn f_joined f_out ++ R)) _ _
          refine xi_if_eq (tgt := 161) dX12_splitOf_112 (by decide) (fun c5 => ?_) (fun c5 => ?_)
          · rw [if_pos c5] at hq
            refine xi_iinc (v := (nI (j + 1))) (lv' := [(5, .int (nI (j + 1))), (6, .int ((FX12_nearOf f_state n1 j) &&& w2)), (0, .ref L), (1, .int (nI n1)), (2, .int w2), (3, .int w3), (4, .int v4)]) 6 dX12_splitOf_161 rfl (nI_1 _) (by decide) rfl ?_
            refine xi_goto (tgt := 6) dX12_splitOf_164 (by decide) ?_
            refine xi_sub (lv' := [(0, .ref L), (1, .int (nI n1)), (2, .int w2), (3, .int w3), (4, .int v4), (5, .int (nI (j + 1)))]) [2, 3, 4, 5, 6, 0] rfl ?_
            exact ih (j + 1) v4 (by omega) (by omega) hq
          · rw [if_neg c5] at hq
            refine xi_iconst (v := 0) dX12_splitOf_115 (by decide) ?_
            refine xi_istore (lv' := [(7, .int 0), (6, .int ((FX12_nearOf f_state n1 j) &&& w2)), (0, .ref L), (1, .int (nI n1)), (2, .int w2), (3, .int w3), (4, .int v4), (5, .int (nI j))]) dX12_splitOf_116 (by decide) rfl ?_
            refine xi_sub (lv' := [(0, .ref L), (1, .int (nI n1)), (2, .int w2), (3, .int w3), (4, .int v4), (5, .int (nI j)), (7, .int 0)]) [2, 3, 4, 5, 6, 7, 0] rfl ?_
            refine LX12_splitOf_118_s G hP i_keptMany i_taped i_faultKind i_faultPlace i_spot i_begin i_token i_value i_bad i_full i_bandRows i_bandFirsts i_outs f_state f_was f_kept f_tape f_order f_rest f_ways f_costs f_bandBest f_found f_drawn f_joined f_out (by omega) (by omega) (by omega) (by omega) (by omega) (by omega) hG n1 (by omega) w2 w3 j (by omega) Q _ (fun u9 hq => ?_) ((f_state (91 * n1)).toNatClampNeg - 0) 0 v4 rfl (by omega) hq
            refine xi_iinc (v := (nI (j + 1))) (lv' := [(5, .int (nI (j + 1))), (0, .ref L), (1, .int (nI n1)), (2, .int w2), (3, .int w3), (4, .int u9)]) 5 dX12_splitOf_161 rfl (nI_1 _) (by decide) rfl ?_
            refine xi_goto (tgt := 6) dX12_splitOf_164 (by decide) ?_
            refine xi_sub (lv' := [(0, .ref L), (1, .int (nI n1)), (2, .int w2), (3, .int w3), (4, .int u9), (5, .int (nI (j + 1)))]) [1, 2, 3, 4, 5, 0] rfl ?_
            exact ih (j + 1) u9 (by omega) (by omega) hq
        · rw [if_pos c4] at hq
          refine xi_iload 5 dX12_splitOf_79 rfl ?_
          refine xi_iload_n 3 dX12_splitOf_81 rfl ?_
          refine xi_iload 6 dX12_splitOf_82 rfl ?_
          refine xi_callS (as := [.int w2, .int (nI j)]) (rest := [.int v4]) dX12_splitOf_84 (FX12_has_ok G w2 ((nI j)) (fun r => r = FX12_has w2 ((nI j))) rfl) mkX12_has w_1207 w_1206 rfl rfl (Nat.le_of_ble_eq_true rfl) (Nat.le_of_ble_eq_true rfl) (Nat.le_of_ble_eq_true rfl) (Nat.le_of_ble_eq_true rfl) (Nat.le_of_ble_eq_true rfl) ?_
          intro v M2 hz
          obtain ⟨_, rfl, rfl, hM2⟩ := hz
          rw [hM2]
          show xW _ _ _ _ 87 _ [.int (FX12_has w2 ((nI j))), .int v4] (P ++ (MDL L i_keptMany i_taped i_faultKind i_faultPlace i_spot i_begin i_token i_value i_bad i_full i_bandRows i_bandFirsts i_outs f_state f_was f_kept f_tape f_order f_rest f_ways f_costs f_bandBest f_found f_drawn f_joined f_out ++ R)) _ _
          refine xi_if_ne (tgt := 99) dX12_splitOf_87 (by decide) (fun c10 => ?_) (fun c10 => ?_)
          · rw [if_neg c10] at hq
            refine xi_iconst (v := 0) dX12_splitOf_99 (by decide) ?_
            refine xi_iadd (v := (v4 + (0 : Int32))) dX12_splitOf_100 rfl ?_
            refine xi_istore (lv' := [(4, .int (v4 + (0 : Int32))), (6, .int ((FX12_nearOf f_state n1 j) &&& w2)), (0, .ref L), (1, .int (nI n1)), (2, .int w2), (3, .int w3), (5, .int (nI j))]) dX12_splitOf_101 (by decide) rfl ?_
            refine xi_goto (tgt := 161) dX12_splitOf_103 (by decide) ?_
            refine xi_iinc (v := (nI (j + 1))) (lv' := [(5, .int (nI (j + 1))), (4, .int (v4 + (0 : Int32))), (6, .int ((FX12_nearOf f_state n1 j) &&& w2)), (0, .ref L), (1, .int (nI n1)), (2, .int w2), (3, .int w3)]) 6 dX12_splitOf_161 rfl (nI_1 _) (by decide) rfl ?_
            refine xi_goto (tgt := 6) dX12_splitOf_164 (by decide) ?_
            refine xi_sub (lv' := [(0, .ref L), (1, .int (nI n1)), (2, .int w2), (3, .int w3), (4, .int (v4 + (0 : Int32))), (5, .int (nI (j + 1)))]) [3, 4, 5, 6, 1, 0] rfl ?_
            exact ih (j + 1) ((v4 + (0 : Int32))) (by omega) (by omega) hq
          · rw [if_pos c10] at hq
            refine xi_iload 0 dX12_splitOf_90 rfl ?_
            refine xi_if_eq (tgt := 99) dX12_splitOf_92 (by decide) (fun c11 => ?_) (fun c11 => ?_)
            · rw [if_pos c11] at hq
              refine xi_iconst (v := 0) dX12_splitOf_99 (by decide) ?_
              refine xi_iadd (v := (v4 + (0 : Int32))) dX12_splitOf_100 rfl ?_
              refine xi_istore (lv' := [(4, .int (v4 + (0 : Int32))), (6, .int ((FX12_nearOf f_state n1 j) &&& w2)), (0, .ref L), (1, .int (nI n1)), (2, .int w2), (3, .int w3), (5, .int (nI j))]) dX12_splitOf_101 (by decide) rfl ?_
              refine xi_goto (tgt := 161) dX12_splitOf_103 (by decide) ?_
              refine xi_iinc (v := (nI (j + 1))) (lv' := [(5, .int (nI (j + 1))), (4, .int (v4 + (0 : Int32))), (6, .int ((FX12_nearOf f_state n1 j) &&& w2)), (0, .ref L), (1, .int (nI n1)), (2, .int w2), (3, .int w3)]) 6 dX12_splitOf_161 rfl (nI_1 _) (by decide) rfl ?_
              refine xi_goto (tgt := 6) dX12_splitOf_164 (by decide) ?_
              refine xi_sub (lv' := [(0, .ref L), (1, .int (nI n1)), (2, .int w2), (3, .int w3), (4, .int (v4 + (0 : Int32))), (5, .int (nI (j + 1)))]) [3, 4, 5, 6, 1, 0] rfl ?_
              exact ih (j + 1) ((v4 + (0 : Int32))) (by omega) (by omega) hq
            · rw [if_neg c11] at hq
              refine xi_iconst (v := 1) dX12_splitOf_95 (by decide) ?_
              refine xi_goto (tgt := 100) dX12_splitOf_96 (by decide) ?_
              refine xi_iadd (v := (v4 + (1 : Int32))) dX12_splitOf_100 rfl ?_
              refine xi_istore (lv' := [(4, .int (v4 + (1 : Int32))), (6, .int ((FX12_nearOf f_state n1 j) &&& w2)), (0, .ref L), (1, .int (nI n1)), (2, .int w2), (3, .int w3), (5, .int (nI j))]) dX12_splitOf_101 (by decide) rfl ?_
              refine xi_goto (tgt := 161) dX12_splitOf_103 (by decide) ?_
              refine xi_iinc (v := (nI (j + 1))) (lv' := [(5, .int (nI (j + 1))), (4, .int (v4 + (1 : Int32))), (6, .int ((FX12_nearOf f_state n1 j) &&& w2)), (0, .ref L), (1, .int (nI n1)), (2, .int w2), (3, .int w3)]) 6 dX12_splitOf_161 rfl (nI_1 _) (by decide) rfl ?_
              refine xi_goto (tgt := 6) dX12_splitOf_164 (by decide) ?_
              refine xi_sub (lv' := [(0, .ref L), (1, .int (nI n1)), (2, .int w2), (3, .int w3), (4, .int (v4 + (1 : Int32))), (5, .int (nI (j + 1)))]) [3, 4, 5, 6, 1, 0] rfl ?_
              exact ih (j + 1) ((v4 + (1 : Int32))) (by omega) (by omega) hq
      · rw [if_pos c3] at hq
        refine xi_iload 5 dX12_splitOf_47 rfl ?_
        refine xi_iload_n 3 dX12_splitOf_49 rfl ?_
        refine xi_iload 6 dX12_splitOf_50 rfl ?_
        refine xi_callS (as := [.int w2, .int (nI j)]) (rest := [.int v4]) dX12_splitOf_52 (FX12_has_ok G w2 ((nI j)) (fun r => r = FX12_has w2 ((nI j))) rfl) mkX12_has w_1207 w_1206 rfl rfl (Nat.le_of_ble_eq_true rfl) (Nat.le_of_ble_eq_true rfl) (Nat.le_of_ble_eq_true rfl) (Nat.le_of_ble_eq_true rfl) (Nat.le_of_ble_eq_true rfl) ?_
        intro v M2 hz
        obtain ⟨_, rfl, rfl, hM2⟩ := hz
        rw [hM2]
        show xW _ _ _ _ 55 _ [.int (FX12_has w2 ((nI j))), .int v4] (P ++ (MDL L i_keptMany i_taped i_faultKind i_faultPlace i_spot i_begin i_token i_value i_bad i_full i_bandRows i_bandFirsts i_outs f_state f_was f_kept f_tape f_order f_rest f_ways f_costs f_bandBest f_found f_drawn f_joined f_out ++ R)) _ _
        refine xi_if_eq (tgt := 67) dX12_splitOf_55 (by decide) (fun c12 => ?_) (fun c12 => ?_)
        · rw [if_pos c12] at hq
          refine xi_iconst (v := 0) dX12_splitOf_67 (by decide) ?_
          refine xi_iadd (v := (v4 + (0 : Int32))) dX12_splitOf_68 rfl ?_
          refine xi_istore (lv' := [(4, .int (v4 + (0 : Int32))), (6, .int ((FX12_nearOf f_state n1 j) &&& w2)), (0, .ref L), (1, .int (nI n1)), (2, .int w2), (3, .int w3), (5, .int (nI j))]) dX12_splitOf_69 (by decide) rfl ?_
          refine xi_goto (tgt := 161) dX12_splitOf_71 (by decide) ?_
          refine xi_iinc (v := (nI (j + 1))) (lv' := [(5, .int (nI (j + 1))), (4, .int (v4 + (0 : Int32))), (6, .int ((FX12_nearOf f_state n1 j) &&& w2)), (0, .ref L), (1, .int (nI n1)), (2, .int w2), (3, .int w3)]) 6 dX12_splitOf_161 rfl (nI_1 _) (by decide) rfl ?_
          refine xi_goto (tgt := 6) dX12_splitOf_164 (by decide) ?_
          refine xi_sub (lv' := [(0, .ref L), (1, .int (nI n1)), (2, .int w2), (3, .int w3), (4, .int (v4 + (0 : Int32))), (5, .int (nI (j + 1)))]) [3, 4, 5, 6, 1, 0] rfl ?_
          exact ih (j + 1) ((v4 + (0 : Int32))) (by omega) (by omega) hq
        · rw [if_neg c12] at hq
          refine xi_iload 0 dX12_splitOf_58 rfl ?_
          refine xi_if_eq (tgt := 67) dX12_splitOf_60 (by decide) (fun c13 => ?_) (fun c13 => ?_)
          · rw [if_pos c13] at hq
            refine xi_iconst (v := 0) dX12_splitOf_67 (by decide) ?_
            refine xi_iadd (v := (v4 + (0 : Int32))) dX12_splitOf_68 rfl ?_
            refine xi_istore (lv' := [(4, .int (v4 + (0 : Int32))), (6, .int ((FX12_nearOf f_state n1 j) &&& w2)), (0, .ref L), (1, .int (nI n1)), (2, .int w2), (3, .int w3), (5, .int (nI j))]) dX12_splitOf_69 (by decide) rfl ?_
            refine xi_goto (tgt := 161) dX12_splitOf_71 (by decide) ?_
            refine xi_iinc (v := (nI (j + 1))) (lv' := [(5, .int (nI (j + 1))), (4, .int (v4 + (0 : Int32))), (6, .int ((FX12_nearOf f_state n1 j) &&& w2)), (0, .ref L), (1, .int (nI n1)), (2, .int w2), (3, .int w3)]) 6 dX12_splitOf_161 rfl (nI_1 _) (by decide) rfl ?_
            refine xi_goto (tgt := 6) dX12_splitOf_164 (by decide) ?_
            refine xi_sub (lv' := [(0, .ref L), (1, .int (nI n1)), (2, .int w2), (3, .int w3), (4, .int (v4 + (0 : Int32))), (5, .int (nI (j + 1)))]) [3, 4, 5, 6, 1, 0] rfl ?_
            exact ih (j + 1) ((v4 + (0 : Int32))) (by omega) (by omega) hq
          · rw [if_neg c13] at hq
            refine xi_iconst (v := 1) dX12_splitOf_63 (by decide) ?_
            refine xi_goto (tgt := 68) dX12_splitOf_64 (by decide) ?_
            refine xi_iadd (v := (v4 + (1 : Int32))) dX12_splitOf_68 rfl ?_
            refine xi_istore (lv' := [(4, .int (v4 + (1 : Int32))), (6, .int ((FX12_nearOf f_state n1 j) &&& w2)), (0, .ref L), (1, .int (nI n1)), (2, .int w2), (3, .int w3), (5, .int (nI j))]) dX12_splitOf_69 (by decide) rfl ?_
            refine xi_goto (tgt := 161) dX12_splitOf_71 (by decide) ?_
            refine xi_iinc (v := (nI (j + 1))) (lv' := [(5, .int (nI (j + 1))), (4, .int (v4 + (1 : Int32))), (6, .int ((FX12_nearOf f_state n1 j) &&& w2)), (0, .ref L), (1, .int (nI n1)), (2, .int w2), (3, .int w3)]) 6 dX12_splitOf_161 rfl (nI_1 _) (by decide) rfl ?_
            refine xi_goto (tgt := 6) dX12_splitOf_164 (by decide) ?_
            refine xi_sub (lv' := [(0, .ref L), (1, .int (nI n1)), (2, .int w2), (3, .int w3), (4, .int (v4 + (1 : Int32))), (5, .int (nI (j + 1)))]) [3, 4, 5, 6, 1, 0] rfl ?_
            exact ih (j + 1) ((v4 + (1 : Int32))) (by omega) (by omega) hq
    · rw [if_neg c2] at hq
      refine xi_iload_n 2 dX12_splitOf_32 rfl ?_
      refine xi_iconst (v := (-1)) dX12_splitOf_33 (by decide) ?_
      refine xi_ixor (v := (w2 ^^^ (-1 : Int32))) dX12_splitOf_34 rfl ?_
      refine xi_goto (tgt := 39) dX12_splitOf_35 (by decide) ?_
      refine xi_iand (v := ((FX12_nearOf f_state n1 j) &&& (w2 ^^^ (-1 : Int32)))) dX12_splitOf_39 rfl ?_
      refine xi_istore (lv' := [(6, .int ((FX12_nearOf f_state n1 j) &&& (w2 ^^^ (-1 : Int32)))), (0, .ref L), (1, .int (nI n1)), (2, .int w2), (3, .int w3), (4, .int v4), (5, .int (nI j))]) dX12_splitOf_40 (by decide) rfl ?_
      refine xi_iload_n 4 dX12_splitOf_42 rfl ?_
      refine xi_iconst (v := 1) dX12_splitOf_43 (by decide) ?_
      refine xi_icmp_ne (tgt := 74) dX12_splitOf_44 (by decide) (fun c14 => ?_) (fun c14 => ?_)
      · rw [if_neg c14] at hq
        refine xi_iload_n 4 dX12_splitOf_74 rfl ?_
        refine xi_iconst (v := 2) dX12_splitOf_75 (by decide) ?_
        refine xi_icmp_ne (tgt := 106) dX12_splitOf_76 (by decide) (fun c15 => ?_) (fun c15 => ?_)
        · rw [if_neg c15] at hq
          refine xi_iload_n 3 dX12_splitOf_106 rfl ?_
          refine xi_iload 6 dX12_splitOf_107 rfl ?_
          refine xi_callS (as := [.int w2, .int (nI j)]) (rest := []) dX12_splitOf_109 (FX12_has_ok G w2 ((nI j)) (fun r => r = FX12_has w2 ((nI j))) rfl) mkX12_has w_1207 w_1206 rfl rfl (Nat.le_of_ble_eq_true rfl) (Nat.le_of_ble_eq_true rfl) (Nat.le_of_ble_eq_true rfl) (Nat.le_of_ble_eq_true rfl) (Nat.le_of_ble_eq_true rfl) ?_
          intro v M2 hz
          obtain ⟨_, rfl, rfl, hM2⟩ := hz
          rw [hM2]
          show xW _ _ _ _ 112 _ [.int (FX12_has w2 ((nI j)))] (P ++ (MDL L i_keptMany i_taped i_faultKind i_faultPlace i_spot i_begin i_token i_value i_bad i_full i_bandRows i_bandFirsts i_outs f_state f_was f_kept f_tape f_order f_rest f_ways f_costs f_bandBest f_found f_drawn f_joined f_out ++ R)) _ _
          refine xi_if_eq (tgt := 161) dX12_splitOf_112 (by decide) (fun c16 => ?_) (fun c16 => ?_)
          · rw [if_pos c16] at hq
            refine xi_iinc (v := (nI (j + 1))) (lv' := [(5, .int (nI (j + 1))), (6, .int ((FX12_nearOf f_state n1 j) &&& (w2 ^^^ (-1 : Int32)))), (0, .ref L), (1, .int (nI n1)), (2, .int w2), (3, .int w3), (4, .int v4)]) 6 dX12_splitOf_161 rfl (nI_1 _) (by decide) rfl ?_
            refine xi_goto (tgt := 6) dX12_splitOf_164 (by decide) ?_
            refine xi_sub (lv' := [(0, .ref L), (1, .int (nI n1)), (2, .int w2), (3, .int w3), (4, .int v4), (5, .int (nI (j + 1)))]) [2, 3, 4, 5, 6, 0] rfl ?_
            exact ih (j + 1) v4 (by omega) (by omega) hq
          · rw [if_neg c16] at hq
            refine xi_iconst (v := 0) dX12_splitOf_115 (by decide) ?_
            refine xi_istore (lv' := [(7, .int 0), (6, .int ((FX12_nearOf f_state n1 j) &&& (w2 ^^^ (-1 : Int32)))), (0, .ref L), (1, .int (nI n1)), (2, .int w2), (3, .int w3), (4, .int v4), (5, .int (nI j))]) dX12_splitOf_116 (by decide) rfl ?_
            refine xi_sub (lv' := [(0, .ref L), (1, .int (nI n1)), (2, .int w2), (3, .int w3), (4, .int v4), (5, .int (nI j)), (7, .int 0)]) [2, 3, 4, 5, 6, 7, 0] rfl ?_
            refine LX12_splitOf_118_s G hP i_keptMany i_taped i_faultKind i_faultPlace i_spot i_begin i_token i_value i_bad i_full i_bandRows i_bandFirsts i_outs f_state f_was f_kept f_tape f_order f_rest f_ways f_costs f_bandBest f_found f_drawn f_joined f_out (by omega) (by omega) (by omega) (by omega) (by omega) (by omega) hG n1 (by omega) w2 w3 j (by omega) Q _ (fun u17 hq => ?_) ((f_state (91 * n1)).toNatClampNeg - 0) 0 v4 rfl (by omega) hq
            refine xi_iinc (v := (nI (j + 1))) (lv' := [(5, .int (nI (j + 1))), (0, .ref L), (1, .int (nI n1)), (2, .int w2), (3, .int w3), (4, .int u17)]) 5 dX12_splitOf_161 rfl (nI_1 _) (by decide) rfl ?_
            refine xi_goto (tgt := 6) dX12_splitOf_164 (by decide) ?_
            refine xi_sub (lv' := [(0, .ref L), (1, .int (nI n1)), (2, .int w2), (3, .int w3), (4, .int u17), (5, .int (nI (j + 1)))]) [1, 2, 3, 4, 5, 0] rfl ?_
            exact ih (j + 1) u17 (by omega) (by omega) hq
        · rw [if_pos c15] at hq
          refine xi_iload 5 dX12_splitOf_79 rfl ?_
          refine xi_iload_n 3 dX12_splitOf_81 rfl ?_
          refine xi_iload 6 dX12_splitOf_82 rfl ?_
          refine xi_callS (as := [.int w2, .int (nI j)]) (rest := [.int v4]) dX12_splitOf_84 (FX12_has_ok G w2 ((nI j)) (fun r => r = FX12_has w2 ((nI j))) rfl) mkX12_has w_1207 w_1206 rfl rfl (Nat.le_of_ble_eq_true rfl) (Nat.le_of_ble_eq_true rfl) (Nat.le_of_ble_eq_true rfl) (Nat.le_of_ble_eq_true rfl) (Nat.le_of_ble_eq_true rfl) ?_
          intro v M2 hz
          obtain ⟨_, rfl, rfl, hM2⟩ := hz
          rw [hM2]
          show xW _ _ _ _ 87 _ [.int (FX12_has w2 ((nI j))), .int v4] (P ++ (MDL L i_keptMany i_taped i_faultKind i_faultPlace i_spot i_begin i_token i_value i_bad i_full i_bandRows i_bandFirsts i_outs f_state f_was f_kept f_tape f_order f_rest f_ways f_costs f_bandBest f_found f_drawn f_joined f_out ++ R)) _ _
          refine xi_if_ne (tgt := 99) dX12_splitOf_87 (by decide) (fun c18 => ?_) (fun c18 => ?_)
          · rw [if_neg c18] at hq
            refine xi_iconst (v := 0) dX12_splitOf_99 (by decide) ?_
            refine xi_iadd (v := (v4 + (0 : Int32))) dX12_splitOf_100 rfl ?_
            refine xi_istore (lv' := [(4, .int (v4 + (0 : Int32))), (6, .int ((FX12_nearOf f_state n1 j) &&& (w2 ^^^ (-1 : Int32)))), (0, .ref L), (1, .int (nI n1)), (2, .int w2), (3, .int w3), (5, .int (nI j))]) dX12_splitOf_101 (by decide) rfl ?_
            refine xi_goto (tgt := 161) dX12_splitOf_103 (by decide) ?_
            refine xi_iinc (v := (nI (j + 1))) (lv' := [(5, .int (nI (j + 1))), (4, .int (v4 + (0 : Int32))), (6, .int ((FX12_nearOf f_state n1 j) &&& (w2 ^^^ (-1 : Int32)))), (0, .ref L), (1, .int (nI n1)), (2, .int w2), (3, .int w3)]) 6 dX12_splitOf_161 rfl (nI_1 _) (by decide) rfl ?_
            refine xi_goto (tgt := 6) dX12_splitOf_164 (by decide) ?_
            refine xi_sub (lv' := [(0, .ref L), (1, .int (nI n1)), (2, .int w2), (3, .int w3), (4, .int (v4 + (0 : Int32))), (5, .int (nI (j + 1)))]) [3, 4, 5, 6, 1, 0] rfl ?_
            exact ih (j + 1) ((v4 + (0 : Int32))) (by omega) (by omega) hq
          · rw [if_pos c18] at hq
            refine xi_iload 0 dX12_splitOf_90 rfl ?_
            refine xi_if_eq (tgt := 99) dX12_splitOf_92 (by decide) (fun c19 => ?_) (fun c19 => ?_)
            · rw [if_pos c19] at hq
              refine xi_iconst (v := 0) dX12_splitOf_99 (by decide) ?_
              refine xi_iadd (v := (v4 + (0 : Int32))) dX12_splitOf_100 rfl ?_
              refine xi_istore (lv' := [(4, .int (v4 + (0 : Int32))), (6, .int ((FX12_nearOf f_state n1 j) &&& (w2 ^^^ (-1 : Int32)))), (0, .ref L), (1, .int (nI n1)), (2, .int w2), (3, .int w3), (5, .int (nI j))]) dX12_splitOf_101 (by decide) rfl ?_
              refine xi_goto (tgt := 161) dX12_splitOf_103 (by decide) ?_
              refine xi_iinc (v := (nI (j + 1))) (lv' := [(5, .int (nI (j + 1))), (4, .int (v4 + (0 : Int32))), (6, .int ((FX12_nearOf f_state n1 j) &&& (w2 ^^^ (-1 : Int32)))), (0, .ref L), (1, .int (nI n1)), (2, .int w2), (3, .int w3)]) 6 dX12_splitOf_161 rfl (nI_1 _) (by decide) rfl ?_
              refine xi_goto (tgt := 6) dX12_splitOf_164 (by decide) ?_
              refine xi_sub (lv' := [(0, .ref L), (1, .int (nI n1)), (2, .int w2), (3, .int w3), (4, .int (v4 + (0 : Int32))), (5, .int (nI (j + 1)))]) [3, 4, 5, 6, 1, 0] rfl ?_
              exact ih (j + 1) ((v4 + (0 : Int32))) (by omega) (by omega) hq
            · rw [if_neg c19] at hq
              refine xi_iconst (v := 1) dX12_splitOf_95 (by decide) ?_
              refine xi_goto (tgt := 100) dX12_splitOf_96 (by decide) ?_
              refine xi_iadd (v := (v4 + (1 : Int32))) dX12_splitOf_100 rfl ?_
              refine xi_istore (lv' := [(4, .int (v4 + (1 : Int32))), (6, .int ((FX12_nearOf f_state n1 j) &&& (w2 ^^^ (-1 : Int32)))), (0, .ref L), (1, .int (nI n1)), (2, .int w2), (3, .int w3), (5, .int (nI j))]) dX12_splitOf_101 (by decide) rfl ?_
              refine xi_goto (tgt := 161) dX12_splitOf_103 (by decide) ?_
              refine xi_iinc (v := (nI (j + 1))) (lv' := [(5, .int (nI (j + 1))), (4, .int (v4 + (1 : Int32))), (6, .int ((FX12_nearOf f_state n1 j) &&& (w2 ^^^ (-1 : Int32)))), (0, .ref L), (1, .int (nI n1)), (2, .int w2), (3, .int w3)]) 6 dX12_splitOf_161 rfl (nI_1 _) (by decide) rfl ?_
              refine xi_goto (tgt := 6) dX12_splitOf_164 (by decide) ?_
              refine xi_sub (lv' := [(0, .ref L), (1, .int (nI n1)), (2, .int w2), (3, .int w3), (4, .int (v4 + (1 : Int32))), (5, .int (nI (j + 1)))]) [3, 4, 5, 6, 1, 0] rfl ?_
              exact ih (j + 1) ((v4 + (1 : Int32))) (by omega) (by omega) hq
      · rw [if_pos c14] at hq
        refine xi_iload 5 dX12_splitOf_47 rfl ?_
        refine xi_iload_n 3 dX12_splitOf_49 rfl ?_
        refine xi_iload 6 dX12_splitOf_50 rfl ?_
        refine xi_callS (as := [.int w2, .int (nI j)]) (rest := [.int v4]) dX12_splitOf_52 (FX12_has_ok G w2 ((nI j)) (fun r => r = FX12_has w2 ((nI j))) rfl) mkX12_has w_1207 w_1206 rfl rfl (Nat.le_of_ble_eq_true rfl) (Nat.le_of_ble_eq_true rfl) (Nat.le_of_ble_eq_true rfl) (Nat.le_of_ble_eq_true rfl) (Nat.le_of_ble_eq_true rfl) ?_
        intro v M2 hz
        obtain ⟨_, rfl, rfl, hM2⟩ := hz
        rw [hM2]
        show xW _ _ _ _ 55 _ [.int (FX12_has w2 ((nI j))), .int v4] (P ++ (MDL L i_keptMany i_taped i_faultKind i_faultPlace i_spot i_begin i_token i_value i_bad i_full i_bandRows i_bandFirsts i_outs f_state f_was f_kept f_tape f_order f_rest f_ways f_costs f_bandBest f_found f_drawn f_joined f_out ++ R)) _ _
        refine xi_if_eq (tgt := 67) dX12_splitOf_55 (by decide) (fun c20 => ?_) (fun c20 => ?_)
        · rw [if_pos c20] at hq
          refine xi_iconst (v := 0) dX12_splitOf_67 (by decide) ?_
          refine xi_iadd (v := (v4 + (0 : Int32))) dX12_splitOf_68 rfl ?_
          refine xi_istore (lv' := [(4, .int (v4 + (0 : Int32))), (6, .int ((FX12_nearOf f_state n1 j) &&& (w2 ^^^ (-1 : Int32)))), (0, .ref L), (1, .int (nI n1)), (2, .int w2), (3, .int w3), (5, .int (nI j))]) dX12_splitOf_69 (by decide) rfl ?_
          refine xi_goto (tgt := 161) dX12_splitOf_71 (by decide) ?_
          refine xi_iinc (v := (nI (j + 1))) (lv' := [(5, .int (nI (j + 1))), (4, .int (v4 + (0 : Int32))), (6, .int ((FX12_nearOf f_state n1 j) &&& (w2 ^^^ (-1 : Int32)))), (0, .ref L), (1, .int (nI n1)), (2, .int w2), (3, .int w3)]) 6 dX12_splitOf_161 rfl (nI_1 _) (by decide) rfl ?_
          refine xi_goto (tgt := 6) dX12_splitOf_164 (by decide) ?_
          refine xi_sub (lv' := [(0, .ref L), (1, .int (nI n1)), (2, .int w2), (3, .int w3), (4, .int (v4 + (0 : Int32))), (5, .int (nI (j + 1)))]) [3, 4, 5, 6, 1, 0] rfl ?_
          exact ih (j + 1) ((v4 + (0 : Int32))) (by omega) (by omega) hq
        · rw [if_neg c20] at hq
          refine xi_iload 0 dX12_splitOf_58 rfl ?_
          refine xi_if_eq (tgt := 67) dX12_splitOf_60 (by decide) (fun c21 => ?_) (fun c21 => ?_)
          · rw [if_pos c21] at hq
            refine xi_iconst (v := 0) dX12_splitOf_67 (by decide) ?_
            refine xi_iadd (v := (v4 + (0 : Int32))) dX12_splitOf_68 rfl ?_
            refine xi_istore (lv' := [(4, .int (v4 + (0 : Int32))), (6, .int ((FX12_nearOf f_state n1 j) &&& (w2 ^^^ (-1 : Int32)))), (0, .ref L), (1, .int (nI n1)), (2, .int w2), (3, .int w3), (5, .int (nI j))]) dX12_splitOf_69 (by decide) rfl ?_
            refine xi_goto (tgt := 161) dX12_splitOf_71 (by decide) ?_
            refine xi_iinc (v := (nI (j + 1))) (lv' := [(5, .int (nI (j + 1))), (4, .int (v4 + (0 : Int32))), (6, .int ((FX12_nearOf f_state n1 j) &&& (w2 ^^^ (-1 : Int32)))), (0, .ref L), (1, .int (nI n1)), (2, .int w2), (3, .int w3)]) 6 dX12_splitOf_161 rfl (nI_1 _) (by decide) rfl ?_
            refine xi_goto (tgt := 6) dX12_splitOf_164 (by decide) ?_
            refine xi_sub (lv' := [(0, .ref L), (1, .int (nI n1)), (2, .int w2), (3, .int w3), (4, .int (v4 + (0 : Int32))), (5, .int (nI (j + 1)))]) [3, 4, 5, 6, 1, 0] rfl ?_
            exact ih (j + 1) ((v4 + (0 : Int32))) (by omega) (by omega) hq
          · rw [if_neg c21] at hq
            refine xi_iconst (v := 1) dX12_splitOf_63 (by decide) ?_
            refine xi_goto (tgt := 68) dX12_splitOf_64 (by decide) ?_
            refine xi_iadd (v := (v4 + (1 : Int32))) dX12_splitOf_68 rfl ?_
            refine xi_istore (lv' := [(4, .int (v4 + (1 : Int32))), (6, .int ((FX12_nearOf f_state n1 j) &&& (w2 ^^^ (-1 : Int32)))), (0, .ref L), (1, .int (nI n1)), (2, .int w2), (3, .int w3), (5, .int (nI j))]) dX12_splitOf_69 (by decide) rfl ?_
            refine xi_goto (tgt := 161) dX12_splitOf_71 (by decide) ?_
            refine xi_iinc (v := (nI (j + 1))) (lv' := [(5, .int (nI (j + 1))), (4, .int (v4 + (1 : Int32))), (6, .int ((FX12_nearOf f_state n1 j) &&& (w2 ^^^ (-1 : Int32)))), (0, .ref L), (1, .int (nI n1)), (2, .int w2), (3, .int w3)]) 6 dX12_splitOf_161 rfl (nI_1 _) (by decide) rfl ?_
            refine xi_goto (tgt := 6) dX12_splitOf_164 (by decide) ?_
            refine xi_sub (lv' := [(0, .ref L), (1, .int (nI n1)), (2, .int w2), (3, .int w3), (4, .int (v4 + (1 : Int32))), (5, .int (nI (j + 1)))]) [3, 4, 5, 6, 1, 0] rfl ?_
            exact ih (j + 1) ((v4 + (1 : Int32))) (by omega) (by omega) hq
def FX12_splitOf (f_state : Nat → Int32) (z : Nat) (x : Int32) (y : Int32) : Int32 := (LX12_splitOf_6 f_state z x y (fun u23 => u23) ((f_state (91 * z)).toNatClampNeg - 0) 0 ((0 : Int32)))
set_option maxHeartbeats 4000000 in
set_option maxRecDepth 100000 in
theorem FX12_splitOf_ok (G : xG) {P R : xMem} {L : Nat} (hP : P.length = L) (i_keptMany : Nat) (i_taped : Nat) (i_faultKind : Int32) (i_faultPlace : Int32) (i_spot : Nat) (i_begin : Nat) (i_token : Int32) (i_value : Int32) (i_bad : Int32) (i_full : Nat) (i_bandRows : Int32) (i_bandFirsts : Int32) (i_outs : Nat) (f_state : Nat → Int32) (f_was : Nat → Int32) (f_kept : Nat → Int32) (f_tape : Nat → Int32) (f_order : Nat → Int32) (f_rest : Nat → Int32) (f_ways : Nat → Int32) (f_costs : Nat → Int32) (f_bandBest : Nat → Int32) (f_found : Nat → Int32) (f_drawn : Nat → Int32) (f_joined : Nat → Int32) (f_out : Nat → Int32) (bi_keptMany : i_keptMany ≤ 10) (bi_taped : i_taped ≤ 400) (bi_spot : i_spot ≤ 400) (bi_begin : i_begin ≤ 400) (bi_full : i_full ≤ 511) (bi_outs : i_outs ≤ 400) (hG : GO f_state) (z : Nat) (bz : z < 3) (x : Int32) (y : Int32) (M : xMem) (hM : M = (P ++ (MDL L i_keptMany i_taped i_faultKind i_faultPlace i_spot i_begin i_token i_value i_bad i_full i_bandRows i_bandFirsts i_outs f_state f_was f_kept f_tape f_order f_rest f_ways f_costs f_bandBest f_found f_drawn f_joined f_out ++ R))) (Q : Int32 → Prop) (hq : Q (FX12_splitOf f_state z x y)) : xC G mX12_splitOf 2 0 0 [.ref L, .int (nI z), .int x, .int y] M (fun v M2 => ∃ o : Int32, v = some (.int o) ∧ Q o ∧ M2 = (P ++ (MDL L i_keptMany i_taped i_faultKind i_faultPlace i_spot i_begin i_token i_value i_bad i_full i_bandRows i_bandFirsts i_outs f_state f_was f_kept f_tape f_order f_rest f_ways f_costs f_bandBest f_found f_drawn f_joined f_out ++ R))) := by
  subst hM
  unfold FX12_splitOf at hq
  refine xC.of (by decide) (Nat.le_of_ble_eq_true rfl) ?_
  show xW _ _ _ _ 0 [(0, .ref L), (1, .int (nI z)), (2, .int x), (3, .int y)] [] _ 0 0
  refine xi_iconst (v := 0) dX12_splitOf_0 (by decide) ?_
  refine xi_istore (lv' := [(4, .int 0), (0, .ref L), (1, .int (nI z)), (2, .int x), (3, .int y)]) dX12_splitOf_1 (by decide) rfl ?_
  refine xi_iconst (v := 0) dX12_splitOf_3 (by decide) ?_
  refine xi_istore (lv' := [(5, .int 0), (4, .int 0), (0, .ref L), (1, .int (nI z)), (2, .int x), (3, .int y)]) dX12_splitOf_4 (by decide) rfl ?_
  refine xi_sub (lv' := [(0, .ref L), (1, .int (nI z)), (2, .int x), (3, .int y), (4, .int 0), (5, .int 0)]) [2, 3, 4, 5, 1, 0] rfl ?_
  refine LX12_splitOf_6_s G hP i_keptMany i_taped i_faultKind i_faultPlace i_spot i_begin i_token i_value i_bad i_full i_bandRows i_bandFirsts i_outs f_state f_was f_kept f_tape f_order f_rest f_ways f_costs f_bandBest f_found f_drawn f_joined f_out (by omega) (by omega) (by omega) (by omega) (by omega) (by omega) hG z (by omega) x y Q _ (fun u23 hq => ?_) ((f_state (91 * z)).toNatClampNeg - 0) 0 ((0 : Int32)) rfl (by omega) hq
  refine xi_iload 0 dX12_splitOf_167 rfl ?_
  exact xi_iret dX12_splitOf_169 rfl rfl (Nat.le_of_ble_eq_true rfl) (Nat.le_of_ble_eq_true rfl) ⟨_, rfl, hq, rfl⟩
def LX12_farOf_24 (f_state : Nat → Int32) (n1 : Nat) (w3 : Int32) (w4 : Int32) (w5 : Int32) (K : Int32 → Int32) : Nat → Nat → Int32 → Int32
  | 0, _, v6 => K v6
  | k + 1, j, v6 => (if (FX12_has w4 ((nI j))) = (0 : Int32) then (LX12_farOf_24 f_state n1 w3 w4 w5 K k (j + 1) ((v6 ||| (0 : Int32)))) else (LX12_farOf_24 f_state n1 w3 w4 w5 K k (j + 1) ((v6 ||| (FX12_nearOf f_state n1 j)))))
def LX12_farOf_8 (f_state : Nat → Int32) (n1 : Nat) (w3 : Int32) (K : Int32 → Int32 → Int32) : Nat → Int32 → Int32 → Int32
  | 0, v4, v5 => K v4 v5
  | k + 1, v4, v5 => (if (FX12_has v4 w3) = (0 : Int32) then (LX12_farOf_24 f_state n1 w3 v4 v5 (fun u5 => (if u5 = v4 then (-1 : Int32) else (LX12_farOf_8 f_state n1 w3 K k u5 ((v5 + Int32.ofInt 1))))) ((f_state (91 * n1)).toNatClampNeg - 0) 0 v4) else (K v4 v5))
set_option maxHeartbeats 4000000 in
set_option maxRecDepth 100000 in
theorem LX12_farOf_24_s (G : xG) {P R : xMem} {L : Nat} (hP : P.length = L) (i_keptMany : Nat) (i_taped : Nat) (i_faultKind : Int32) (i_faultPlace : Int32) (i_spot : Nat) (i_begin : Nat) (i_token : Int32) (i_value : Int32) (i_bad : Int32) (i_full : Nat) (i_bandRows : Int32) (i_bandFirsts : Int32) (i_outs : Nat) (f_state : Nat → Int32) (f_was : Nat → Int32) (f_kept : Nat → Int32) (f_tape : Nat → Int32) (f_order : Nat → Int32) (f_rest : Nat → Int32) (f_ways : Nat → Int32) (f_costs : Nat → Int32) (f_bandBest : Nat → Int32) (f_found : Nat → Int32) (f_drawn : Nat → Int32) (f_joined : Nat → Int32) (f_out : Nat → Int32) (bi_keptMany : i_keptMany ≤ 10) (bi_taped : i_taped ≤ 400) (bi_spot : i_spot ≤ 400) (bi_begin : i_begin ≤ 400) (bi_full : i_full ≤ 511) (bi_outs : i_outs ≤ 400) (hG : GO f_state) (n1 : Nat) (bn1 : n1 < 3) (w3 : Int32) (w4 : Int32) (w5 : Int32) (Q : Int32 → Prop) (K : Int32 → Int32) (HE : ∀ (v6 : Int32) (hi : v6 ||| w4 = v6), Q (K v6) → xW G mX12_farOf (xrm 2 0 0) (xQ G (fun v M2 => ∃ o : Int32, v = some (.int o) ∧ Q o ∧ M2 = (P ++ (MDL L i_keptMany i_taped i_faultKind i_faultPlace i_spot i_begin i_token i_value i_bad i_full i_bandRows i_bandFirsts i_outs f_state f_was f_kept f_tape f_order f_rest f_ways f_costs f_bandBest f_found f_drawn f_joined f_out ++ R))) 0 0) 66 [(0, .ref L), (1, .int (nI n1)), (3, .int w3), (4, .int w4), (5, .int w5), (6, .int v6)] [] (P ++ (MDL L i_keptMany i_taped i_faultKind i_faultPlace i_spot i_begin i_token i_value i_bad i_full i_bandRows i_bandFirsts i_outs f_state f_was f_kept f_tape f_order f_rest f_ways f_costs f_bandBest f_found f_drawn f_joined f_out ++ R)) 0 0) :
    ∀ (k j : Nat) (v6 : Int32) (hi : v6 ||| w4 = v6), (f_state (91 * n1)).toNatClampNeg - j = k → j < 100000 → Q (LX12_farOf_24 f_state n1 w3 w4 w5 K k j v6) → xW G mX12_farOf (xrm 2 0 0) (xQ G (fun v M2 => ∃ o : Int32, v = some (.int o) ∧ Q o ∧ M2 = (P ++ (MDL L i_keptMany i_taped i_faultKind i_faultPlace i_spot i_begin i_token i_value i_bad i_full i_bandRows i_bandFirsts i_outs f_state f_was f_kept f_tape f_order f_rest f_ways f_costs f_bandBest f_found f_drawn f_joined f_out ++ R))) 0 0) 24 [(0, .ref L), (1, .int (nI n1)), (3, .int w3), (4, .int w4), (5, .int w5), (6, .int v6), (7, .int (nI j))] [] (P ++ (MDL L i_keptMany i_taped i_faultKind i_faultPlace i_spot i_begin i_token i_value i_bad i_full i_bandRows i_bandFirsts i_outs f_state f_was f_kept f_tape f_order f_rest f_ways f_costs f_bandBest f_found f_drawn f_joined f_out ++ R)) 0 0 := by
  intro k
  induction k with
  | zero =>
    intro j v6 hi hj hj2 hq
    rw [LX12_farOf_24] at hq
    refine xi_iload 6 dX12_farOf_24 rfl ?_
    refine xi_aload_n 0 dX12_farOf_26 rfl ?_
    refine xi_iload_n 1 dX12_farOf_27 rfl ?_
    refine xi_callV (as := [.int (nI n1)]) (rest := [.int (nI j)]) dX12_farOf_28 (FX12_points_ok G hP i_keptMany i_taped i_faultKind i_faultPlace i_spot i_begin i_token i_value i_bad i_full i_bandRows i_bandFirsts i_outs f_state f_was f_kept f_tape f_order f_rest f_ways f_costs f_bandBest f_found f_drawn f_joined f_out (by omega) (by omega) (by omega) (by omega) (by omega) (by omega) n1 (by omega) _ rfl (fun r => r = nI ((f_state (91 * n1)).toNatClampNeg)) ((hG n1 (by omega)).1.1)) mkX12_points w_1108 ws_36 w_1106 (xpg0 hP rfl) rfl rfl rfl rfl (Nat.le_of_ble_eq_true rfl) (Nat.le_of_ble_eq_true rfl) (Nat.le_of_ble_eq_true rfl) (Nat.le_of_ble_eq_true rfl) (Nat.le_of_ble_eq_true rfl) ?_
    intro v M2 hz
    obtain ⟨_, rfl, rfl, rfl⟩ := hz
    show xW _ _ _ _ 31 _ [.int (nI ((f_state (91 * n1)).toNatClampNeg)), .int (nI j)] (P ++ (MDL L i_keptMany i_taped i_faultKind i_faultPlace i_spot i_begin i_token i_value i_bad i_full i_bandRows i_bandFirsts i_outs f_state f_was f_kept f_tape f_order f_rest f_ways f_costs f_bandBest f_found f_drawn f_joined f_out ++ R)) _ _
    have o4 := (hG n1 (by omega)).1.2
    refine xi_icmp_ge_t (tgt := 66) dX12_farOf_31 (by decide) (nI_le (a := (f_state (91 * n1)).toNatClampNeg) (b := j) (by omega) (by omega)) ?_
    refine xi_sub (lv' := [(0, .ref L), (1, .int (nI n1)), (3, .int w3), (4, .int w4), (5, .int w5), (6, .int v6)]) [0, 1, 2, 3, 4, 5] rfl ?_
    exact HE v6 (by first | exact hi | exact or_keep hi) hq
  | succ k ih =>
    intro j v6 hi hj hj2 hq
    rw [LX12_farOf_24] at hq
    refine xi_iload 6 dX12_farOf_24 rfl ?_
    refine xi_aload_n 0 dX12_farOf_26 rfl ?_
    refine xi_iload_n 1 dX12_farOf_27 rfl ?_
    refine xi_callV (as := [.int (nI n1)]) (rest := [.int (nI j)]) dX12_farOf_28 (FX12_points_ok G hP i_keptMany i_taped i_faultKind i_faultPlace i_spot i_begin i_token i_value i_bad i_full i_bandRows i_bandFirsts i_outs f_state f_was f_kept f_tape f_order f_rest f_ways f_costs f_bandBest f_found f_drawn f_joined f_out (by omega) (by omega) (by omega) (by omega) (by omega) (by omega) n1 (by omega) _ rfl (fun r => r = nI ((f_state (91 * n1)).toNatClampNeg)) ((hG n1 (by omega)).1.1)) mkX12_points w_1108 ws_36 w_1106 (xpg0 hP rfl) rfl rfl rfl rfl (Nat.le_of_ble_eq_true rfl) (Nat.le_of_ble_eq_true rfl) (Nat.le_of_ble_eq_true rfl) (Nat.le_of_ble_eq_true rfl) (Nat.le_of_ble_eq_true rfl) ?_
    intro v M2 hz
    obtain ⟨_, rfl, rfl, rfl⟩ := hz
    show xW _ _ _ _ 31 _ [.int (nI ((f_state (91 * n1)).toNatClampNeg)), .int (nI j)] (P ++ (MDL L i_keptMany i_taped i_faultKind i_faultPlace i_spot i_begin i_token i_value i_bad i_full i_bandRows i_bandFirsts i_outs f_state f_was f_kept f_tape f_order f_rest f_ways f_costs f_bandBest f_found f_drawn f_joined f_out ++ R)) _ _
    have o2 := (hG n1 (by omega)).1.2
    refine xi_icmp_ge_f (tgt := 66) dX12_farOf_31 (by decide) (nI_ge (a := j) (b := (f_state (91 * n1)).toNatClampNeg) (by omega) (by omega)) ?_
    refine xi_iload 5 dX12_farOf_34 rfl ?_
    refine xi_iload 3 dX12_farOf_36 rfl ?_
    refine xi_iload 6 dX12_farOf_38 rfl ?_
    refine xi_callS (as := [.int w4, .int (nI j)]) (rest := [.int v6]) dX12_farOf_40 (FX12_has_ok G w4 ((nI j)) (fun r => r = FX12_has w4 ((nI j))) rfl) mkX12_has w_1207 w_1206 rfl rfl (Nat.le_of_ble_eq_true rfl) (Nat.le_of_ble_eq_true rfl) (Nat.le_of_ble_eq_true rfl) (Nat.le_of_ble_eq_true rfl) (Nat.le_of_ble_eq_true rfl) ?_
    intro v M2 hz
    obtain ⟨_, rfl, rfl, hM2⟩ := hz
    rw [hM2]
    show xW _ _ _ _ 43 _ [.int (FX12_has w4 ((nI j))), .int v6] (P ++ (MDL L i_keptMany i_taped i_faultKind i_faultPlace i_spot i_begin i_token i_value i_bad i_full i_bandRows i_bandFirsts i_outs f_state f_was f_kept f_tape f_order f_rest f_ways f_costs f_bandBest f_found f_drawn f_joined f_out ++ R)) _ _
    refine xi_if_eq (tgt := 56) dX12_farOf_43 (by decide) (fun c3 => ?_) (fun c3 => ?_)
    · rw [if_pos c3] at hq
      refine xi_iconst (v := 0) dX12_farOf_56 (by decide) ?_
      refine xi_ior (v := (v6 ||| (0 : Int32))) dX12_farOf_57 rfl ?_
      refine xi_istore (lv' := [(6, .int (v6 ||| (0 : Int32))), (0, .ref L), (1, .int (nI n1)), (3, .int w3), (4, .int w4), (5, .int w5), (7, .int (nI j))]) dX12_farOf_58 (by decide) rfl ?_
      refine xi_iinc (v := (nI (j + 1))) (lv' := [(7, .int (nI (j + 1))), (6, .int (v6 ||| (0 : Int32))), (0, .ref L), (1, .int (nI n1)), (3, .int w3), (4, .int w4), (5, .int w5)]) 6 dX12_farOf_60 rfl (nI_1 _) (by decide) rfl ?_
      refine xi_goto (tgt := 24) dX12_farOf_63 (by decide) ?_
      refine xi_sub (lv' := [(0, .ref L), (1, .int (nI n1)), (3, .int w3), (4, .int w4), (5, .int w5), (6, .int (v6 ||| (0 : Int32))), (7, .int (nI (j + 1)))]) [2, 3, 4, 5, 6, 1, 0] rfl ?_
      exact ih (j + 1) ((v6 ||| (0 : Int32))) (by first | exact hi | exact or_keep hi) (by omega) (by omega) hq
    · rw [if_neg c3] at hq
      refine xi_aload_n 0 dX12_farOf_46 rfl ?_
      refine xi_iload_n 1 dX12_farOf_47 rfl ?_
      refine xi_iload 6 dX12_farOf_48 rfl ?_
      refine xi_callV (as := [.int (nI n1), .int (nI j)]) (rest := [.int v6]) dX12_farOf_50 (FX12_nearOf_ok G hP i_keptMany i_taped i_faultKind i_faultPlace i_spot i_begin i_token i_value i_bad i_full i_bandRows i_bandFirsts i_outs f_state f_was f_kept f_tape f_order f_rest f_ways f_costs f_bandBest f_found f_drawn f_joined f_out (by omega) (by omega) (by omega) (by omega) (by omega) (by omega) hG n1 (by omega) j (by omega) _ rfl (fun r => r = FX12_nearOf f_state n1 j) rfl) mkX12_nearOf w_1188 ws_52 w_1186 (xpg0 hP rfl) rfl rfl rfl rfl (Nat.le_of_ble_eq_true rfl) (Nat.le_of_ble_eq_true rfl) (Nat.le_of_ble_eq_true rfl) (Nat.le_of_ble_eq_true rfl) (Nat.le_of_ble_eq_true rfl) ?_
      intro v M2 hz
      obtain ⟨_, rfl, rfl, rfl⟩ := hz
      show xW _ _ _ _ 53 _ [.int (FX12_nearOf f_state n1 j), .int v6] (P ++ (MDL L i_keptMany i_taped i_faultKind i_faultPlace i_spot i_begin i_token i_value i_bad i_full i_bandRows i_bandFirsts i_outs f_state f_was f_kept f_tape f_order f_rest f_ways f_costs f_bandBest f_found f_drawn f_joined f_out ++ R)) _ _
      refine xi_goto (tgt := 57) dX12_farOf_53 (by decide) ?_
      refine xi_ior (v := (v6 ||| (FX12_nearOf f_state n1 j))) dX12_farOf_57 rfl ?_
      refine xi_istore (lv' := [(6, .int (v6 ||| (FX12_nearOf f_state n1 j))), (0, .ref L), (1, .int (nI n1)), (3, .int w3), (4, .int w4), (5, .int w5), (7, .int (nI j))]) dX12_farOf_58 (by decide) rfl ?_
      refine xi_iinc (v := (nI (j + 1))) (lv' := [(7, .int (nI (j + 1))), (6, .int (v6 ||| (FX12_nearOf f_state n1 j))), (0, .ref L), (1, .int (nI n1)), (3, .int w3), (4, .int w4), (5, .int w5)]) 6 dX12_farOf_60 rfl (nI_1 _) (by decide) rfl ?_
      refine xi_goto (tgt := 24) dX12_farOf_63 (by decide) ?_
      refine xi_sub (lv' := [(0, .ref L), (1, .int (nI n1)), (3, .int w3), (4, .int w4), (5, .int w5), (6, .int (v6 ||| (FX12_nearOf f_state n1 j))), (7, .int (nI (j + 1)))]) [2, 3, 4, 5, 6, 1, 0] rfl ?_
      exact ih (j + 1) ((v6 ||| (FX12_nearOf f_state n1 j))) (by first | exact hi | exact or_keep hi) (by omega) (by omega) hq
set_option maxHeartbeats 4000000 in
set_option maxRecDepth 100000 in
theorem LX12_farOf_8_s (G : xG) {P R : xMem} {L : Nat} (hP : P.length = L) (i_keptMany : Nat) (i_taped : Nat) (i_faultKind : Int32) (i_faultPlace : Int32) (i_spot : Nat) (i_begin : Nat) (i_token : Int32) (i_value : Int32) (i_bad : Int32) (i_full : Nat) (i_bandRows : Int32) (i_bandFirsts : Int32) (i_outs : Nat) (f_state : Nat → Int32) (f_was : Nat → Int32) (f_kept : Nat → Int32) (f_tape : Nat → Int32) (f_order : Nat → Int32) (f_rest : Nat → Int32) (f_ways : Nat → Int32) (f_costs : Nat → Int32) (f_bandBest : Nat → Int32) (f_found : Nat → Int32) (f_drawn : Nat → Int32) (f_joined : Nat → Int32) (f_out : Nat → Int32) (bi_keptMany : i_keptMany ≤ 10) (bi_taped : i_taped ≤ 400) (bi_spot : i_spot ≤ 400) (bi_begin : i_begin ≤ 400) (bi_full : i_full ≤ 511) (bi_outs : i_outs ≤ 400) (hG : GO f_state) (n1 : Nat) (bn1 : n1 < 3) (w3 : Int32) (Q : Int32 → Prop) (K : Int32 → Int32 → Int32) (HE : ∀ (v4 : Int32) (v5 : Int32), Q (K v4 v5) → xW G mX12_farOf (xrm 2 0 0) (xQ G (fun v M2 => ∃ o : Int32, v = some (.int o) ∧ Q o ∧ M2 = (P ++ (MDL L i_keptMany i_taped i_faultKind i_faultPlace i_spot i_begin i_token i_value i_bad i_full i_bandRows i_bandFirsts i_outs f_state f_was f_kept f_tape f_order f_rest f_ways f_costs f_bandBest f_found f_drawn f_joined f_out ++ R))) 0 0) 85 [(5, .int v5)] [] (P ++ (MDL L i_keptMany i_taped i_faultKind i_faultPlace i_spot i_begin i_token i_value i_bad i_full i_bandRows i_bandFirsts i_outs f_state f_was f_kept f_tape f_order f_rest f_ways f_costs f_bandBest f_found f_drawn f_joined f_out ++ R)) 0 0) :
    ∀ (k : Nat) (v4 : Int32) (v5 : Int32), 4294967296 - v4.toBitVec.toNat < k → Q (LX12_farOf_8 f_state n1 w3 K k v4 v5) → xW G mX12_farOf (xrm 2 0 0) (xQ G (fun v M2 => ∃ o : Int32, v = some (.int o) ∧ Q o ∧ M2 = (P ++ (MDL L i_keptMany i_taped i_faultKind i_faultPlace i_spot i_begin i_token i_value i_bad i_full i_bandRows i_bandFirsts i_outs f_state f_was f_kept f_tape f_order f_rest f_ways f_costs f_bandBest f_found f_drawn f_joined f_out ++ R))) 0 0) 8 [(0, .ref L), (1, .int (nI n1)), (3, .int w3), (4, .int v4), (5, .int v5)] [] (P ++ (MDL L i_keptMany i_taped i_faultKind i_faultPlace i_spot i_begin i_token i_value i_bad i_full i_bandRows i_bandFirsts i_outs f_state f_was f_kept f_tape f_order f_rest f_ways f_costs f_bandBest f_found f_drawn f_joined f_out ++ R)) 0 0 := by
  intro k
  induction k with
  | zero =>
    intro v4 v5 hmu
    exact absurd hmu (Nat.not_lt_zero _)
  | succ k ih =>
    intro v4 v5 hmu hq
    rw [LX12_farOf_8] at hq
    refine xi_iload 3 dX12_farOf_8 rfl ?_
    refine xi_iload_n 2 dX12_farOf_10 rfl ?_
    refine xi_callS (as := [.int v4, .int w3]) (rest := []) dX12_farOf_11 (FX12_has_ok G v4 w3 (fun r => r = FX12_has v4 w3) rfl) mkX12_has w_1207 w_1206 rfl rfl (Nat.le_of_ble_eq_true rfl) (Nat.le_of_ble_eq_true rfl) (Nat.le_of_ble_eq_true rfl) (Nat.le_of_ble_eq_true rfl) (Nat.le_of_ble_eq_true rfl) ?_
    intro v M2 hz
    obtain ⟨_, rfl, rfl, hM2⟩ := hz
    rw [hM2]
    show xW _ _ _ _ 14 _ [.int (FX12_has v4 w3)] (P ++ (MDL L i_keptMany i_taped i_faultKind i_faultPlace i_spot i_begin i_token i_value i_bad i_full i_bandRows i_bandFirsts i_outs f_state f_was f_kept f_tape f_order f_rest f_ways f_costs f_bandBest f_found f_drawn f_joined f_out ++ R)) _ _
    refine xi_if_ne (tgt := 85) dX12_farOf_14 (by decide) (fun c1 => ?_) (fun c1 => ?_)
    · rw [if_neg c1] at hq
      refine xi_sub (lv' := [(5, .int v5)]) [4] rfl ?_
      exact HE v4 v5 hq
    · rw [if_pos c1] at hq
      refine xi_iload 3 dX12_farOf_17 rfl ?_
      refine xi_istore (lv' := [(6, .int v4), (0, .ref L), (1, .int (nI n1)), (3, .int w3), (4, .int v4), (5, .int v5)]) dX12_farOf_19 (by decide) rfl ?_
      refine xi_iconst (v := 0) dX12_farOf_21 (by decide) ?_
      refine xi_istore (lv' := [(7, .int 0), (6, .int v4), (0, .ref L), (1, .int (nI n1)), (3, .int w3), (4, .int v4), (5, .int v5)]) dX12_farOf_22 (by decide) rfl ?_
      refine xi_sub (lv' := [(0, .ref L), (1, .int (nI n1)), (3, .int w3), (4, .int v4), (5, .int v5), (6, .int v4), (7, .int 0)]) [2, 3, 4, 5, 6, 1, 0] rfl ?_
      refine LX12_farOf_24_s G hP i_keptMany i_taped i_faultKind i_faultPlace i_spot i_begin i_token i_value i_bad i_full i_bandRows i_bandFirsts i_outs f_state f_was f_kept f_tape f_order f_rest f_ways f_costs f_bandBest f_found f_drawn f_joined f_out (by omega) (by omega) (by omega) (by omega) (by omega) (by omega) hG n1 (by omega) w3 v4 v5 Q _ (fun u5 hi24 hq => ?_) ((f_state (91 * n1)).toNatClampNeg - 0) 0 v4 (by first | exact Int32.or_self | simp) rfl (by omega) hq
      refine xi_iload 5 dX12_farOf_66 rfl ?_
      refine xi_iload 3 dX12_farOf_68 rfl ?_
      refine xi_icmp_ne (tgt := 75) dX12_farOf_70 (by decide) (fun c7 => ?_) (fun c7 => ?_)
      · rw [if_neg c7] at hq
        refine xi_iload 5 dX12_farOf_75 rfl ?_
        refine xi_istore (lv' := [(4, .int u5), (0, .ref L), (1, .int (nI n1)), (3, .int w3), (5, .int v5), (6, .int u5)]) dX12_farOf_77 (by decide) rfl ?_
        refine xi_iinc (v := (v5 + Int32.ofInt 1)) (lv' := [(5, .int (v5 + Int32.ofInt 1)), (4, .int u5), (0, .ref L), (1, .int (nI n1)), (3, .int w3), (6, .int u5)]) 4 dX12_farOf_79 rfl rfl (by decide) rfl ?_
        refine xi_goto (tgt := 8) dX12_farOf_82 (by decide) ?_
        refine xi_sub (lv' := [(0, .ref L), (1, .int (nI n1)), (3, .int w3), (4, .int u5), (5, .int (v5 + Int32.ofInt 1))]) [2, 3, 4, 1, 0] rfl ?_
        exact ih u5 ((v5 + Int32.ofInt 1)) (by have := gr_dec hi24 ‹_›; omega) hq
      · rw [if_pos c7] at hq
        refine xi_iconst (v := (-1)) dX12_farOf_73 (by decide) ?_
        exact xi_iret dX12_farOf_74 rfl rfl (Nat.le_of_ble_eq_true rfl) (Nat.le_of_ble_eq_true rfl) ⟨_, rfl, hq, rfl⟩
def FX12_farOf (f_state : Nat → Int32) (z : Nat) (p : Int32) (q : Int32) : Int32 := (LX12_farOf_8 f_state z q (fun u8 u9 => u9) (4294967296 - (((1 : Int32) <<< (p &&& 31))).toBitVec.toNat + 1) (((1 : Int32) <<< (p &&& 31))) ((0 : Int32)))
set_option maxHeartbeats 4000000 in
set_option maxRecDepth 100000 in
theorem FX12_farOf_ok (G : xG) {P R : xMem} {L : Nat} (hP : P.length = L) (i_keptMany : Nat) (i_taped : Nat) (i_faultKind : Int32) (i_faultPlace : Int32) (i_spot : Nat) (i_begin : Nat) (i_token : Int32) (i_value : Int32) (i_bad : Int32) (i_full : Nat) (i_bandRows : Int32) (i_bandFirsts : Int32) (i_outs : Nat) (f_state : Nat → Int32) (f_was : Nat → Int32) (f_kept : Nat → Int32) (f_tape : Nat → Int32) (f_order : Nat → Int32) (f_rest : Nat → Int32) (f_ways : Nat → Int32) (f_costs : Nat → Int32) (f_bandBest : Nat → Int32) (f_found : Nat → Int32) (f_drawn : Nat → Int32) (f_joined : Nat → Int32) (f_out : Nat → Int32) (bi_keptMany : i_keptMany ≤ 10) (bi_taped : i_taped ≤ 400) (bi_spot : i_spot ≤ 400) (bi_begin : i_begin ≤ 400) (bi_full : i_full ≤ 511) (bi_outs : i_outs ≤ 400) (hG : GO f_state) (z : Nat) (bz : z < 3) (p : Int32) (q : Int32) (M : xMem) (hM : M = (P ++ (MDL L i_keptMany i_taped i_faultKind i_faultPlace i_spot i_begin i_token i_value i_bad i_full i_bandRows i_bandFirsts i_outs f_state f_was f_kept f_tape f_order f_rest f_ways f_costs f_bandBest f_found f_drawn f_joined f_out ++ R))) (Q : Int32 → Prop) (hq : Q (FX12_farOf f_state z p q)) : xC G mX12_farOf 2 0 0 [.ref L, .int (nI z), .int p, .int q] M (fun v M2 => ∃ o : Int32, v = some (.int o) ∧ Q o ∧ M2 = (P ++ (MDL L i_keptMany i_taped i_faultKind i_faultPlace i_spot i_begin i_token i_value i_bad i_full i_bandRows i_bandFirsts i_outs f_state f_was f_kept f_tape f_order f_rest f_ways f_costs f_bandBest f_found f_drawn f_joined f_out ++ R))) := by
  subst hM
  unfold FX12_farOf at hq
  refine xC.of (by decide) (Nat.le_of_ble_eq_true rfl) ?_
  show xW _ _ _ _ 0 [(0, .ref L), (1, .int (nI z)), (2, .int p), (3, .int q)] [] _ 0 0
  refine xi_iconst (v := 1) dX12_farOf_0 (by decide) ?_
  refine xi_iload_n 2 dX12_farOf_1 rfl ?_
  refine xi_ishl (v := ((1 : Int32) <<< (p &&& 31))) dX12_farOf_2 rfl ?_
  refine xi_istore (lv' := [(4, .int ((1 : Int32) <<< (p &&& 31))), (0, .ref L), (1, .int (nI z)), (2, .int p), (3, .int q)]) dX12_farOf_3 (by decide) rfl ?_
  refine xi_iconst (v := 0) dX12_farOf_5 (by decide) ?_
  refine xi_istore (lv' := [(5, .int 0), (4, .int ((1 : Int32) <<< (p &&& 31))), (0, .ref L), (1, .int (nI z)), (2, .int p), (3, .int q)]) dX12_farOf_6 (by decide) rfl ?_
  refine xi_sub (lv' := [(0, .ref L), (1, .int (nI z)), (3, .int q), (4, .int ((1 : Int32) <<< (p &&& 31))), (5, .int 0)]) [2, 3, 5, 1, 0] rfl ?_
  refine LX12_farOf_8_s G hP i_keptMany i_taped i_faultKind i_faultPlace i_spot i_begin i_token i_value i_bad i_full i_bandRows i_bandFirsts i_outs f_state f_was f_kept f_tape f_order f_rest f_ways f_costs f_bandBest f_found f_drawn f_joined f_out (by omega) (by omega) (by omega) (by omega) (by omega) (by omega) hG z (by omega) q Q _ (fun u8 u9 hq => ?_) (4294967296 - (((1 : Int32) <<< (p &&& 31))).toBitVec.toNat + 1) (((1 : Int32) <<< (p &&& 31))) ((0 : Int32)) (Nat.lt_succ_self _) hq
  refine xi_iload 0 dX12_farOf_85 rfl ?_
  exact xi_iret dX12_farOf_87 rfl rfl (Nat.le_of_ble_eq_true rfl) (Nat.le_of_ble_eq_true rfl) ⟨_, rfl, hq, rfl⟩
def LX12_neighbours_25 (f_state : Nat → Int32) (n1 : Nat) (w2 : Int32) (n3 : Nat) (w5 : Int32) (K : Int32 → Int32) : Nat → Nat → Int32 → Int32
  | 0, _, v4 => K v4
  | k + 1, j, v4 => (if (FX12_has ((w5 &&& w2)) ((nI j))) = (0 : Int32) then (LX12_neighbours_25 f_state n1 w2 n3 w5 K k (j + 1) ((v4 ||| (0 : Int32)))) else (LX12_neighbours_25 f_state n1 w2 n3 w5 K k (j + 1) ((v4 ||| (FX12_nearOf f_state n1 j)))))
def LX12_neighbours_11 (f_state : Nat → Int32) (n1 : Nat) (w2 : Int32) (n3 : Nat) (K : Int32 → Int32 → Int32) : Nat → Int32 → Int32 → Int32
  | 0, v4, v5 => K v4 v5
  | k + 1, v4, v5 => (if v5 = v4 then (K v4 v5) else (LX12_neighbours_25 f_state n1 w2 n3 v4 (fun u5 => (LX12_neighbours_11 f_state n1 w2 n3 K k u5 v4)) ((f_state (91 * n1)).toNatClampNeg - 0) 0 v4))
set_option maxHeartbeats 4000000 in
set_option maxRecDepth 100000 in
theorem LX12_neighbours_25_s (G : xG) {P R : xMem} {L : Nat} (hP : P.length = L) (i_keptMany : Nat) (i_taped : Nat) (i_faultKind : Int32) (i_faultPlace : Int32) (i_spot : Nat) (i_begin : Nat) (i_token : Int32) (i_value : Int32) (i_bad : Int32) (i_full : Nat) (i_bandRows : Int32) (i_bandFirsts : Int32) (i_outs : Nat) (f_state : Nat → Int32) (f_was : Nat → Int32) (f_kept : Nat → Int32) (f_tape : Nat → Int32) (f_order : Nat → Int32) (f_rest : Nat → Int32) (f_ways : Nat → Int32) (f_costs : Nat → Int32) (f_bandBest : Nat → Int32) (f_found : Nat → Int32) (f_drawn : Nat → Int32) (f_joined : Nat → Int32) (f_out : Nat → Int32) (bi_keptMany : i_keptMany ≤ 10) (bi_taped : i_taped ≤ 400) (bi_spot : i_spot ≤ 400) (bi_begin : i_begin ≤ 400) (bi_full : i_full ≤ 511) (bi_outs : i_outs ≤ 400) (hG : GO f_state) (n1 : Nat) (bn1 : n1 < 3) (w2 : Int32) (n3 : Nat) (bn3 : n3 < 9) (w5 : Int32) (Q : Int32 → Prop) (K : Int32 → Int32) (HE : ∀ (v4 : Int32) (hi : v4 ||| w5 = v4), Q (K v4) → xW G mX12_neighbours (xrm 2 0 0) (xQ G (fun v M2 => ∃ o : Int32, v = some (.int o) ∧ Q o ∧ M2 = (P ++ (MDL L i_keptMany i_taped i_faultKind i_faultPlace i_spot i_begin i_token i_value i_bad i_full i_bandRows i_bandFirsts i_outs f_state f_was f_kept f_tape f_order f_rest f_ways f_costs f_bandBest f_found f_drawn f_joined f_out ++ R))) 0 0) 69 [(0, .ref L), (1, .int (nI n1)), (2, .int w2), (3, .int (nI n3)), (4, .int v4), (5, .int w5)] [] (P ++ (MDL L i_keptMany i_taped i_faultKind i_faultPlace i_spot i_begin i_token i_value i_bad i_full i_bandRows i_bandFirsts i_outs f_state f_was f_kept f_tape f_order f_rest f_ways f_costs f_bandBest f_found f_drawn f_joined f_out ++ R)) 0 0) :
    ∀ (k j : Nat) (v4 : Int32) (hi : v4 ||| w5 = v4), (f_state (91 * n1)).toNatClampNeg - j = k → j < 100000 → Q (LX12_neighbours_25 f_state n1 w2 n3 w5 K k j v4) → xW G mX12_neighbours (xrm 2 0 0) (xQ G (fun v M2 => ∃ o : Int32, v = some (.int o) ∧ Q o ∧ M2 = (P ++ (MDL L i_keptMany i_taped i_faultKind i_faultPlace i_spot i_begin i_token i_value i_bad i_full i_bandRows i_bandFirsts i_outs f_state f_was f_kept f_tape f_order f_rest f_ways f_costs f_bandBest f_found f_drawn f_joined f_out ++ R))) 0 0) 25 [(0, .ref L), (1, .int (nI n1)), (2, .int w2), (3, .int (nI n3)), (4, .int v4), (5, .int w5), (6, .int (nI j))] [] (P ++ (MDL L i_keptMany i_taped i_faultKind i_faultPlace i_spot i_begin i_token i_value i_bad i_full i_bandRows i_bandFirsts i_outs f_state f_was f_kept f_tape f_order f_rest f_ways f_costs f_bandBest f_found f_drawn f_joined f_out ++ R)) 0 0 := by
  intro k
  induction k with
  | zero =>
    intro j v4 hi hj hj2 hq
    rw [LX12_neighbours_25] at hq
    refine xi_iload 6 dX12_neighbours_25 rfl ?_
    refine xi_aload_n 0 dX12_neighbours_27 rfl ?_
    refine xi_iload_n 1 dX12_neighbours_28 rfl ?_
    refine xi_callV (as := [.int (nI n1)]) (rest := [.int (nI j)]) dX12_neighbours_29 (FX12_points_ok G hP i_keptMany i_taped i_faultKind i_faultPlace i_spot i_begin i_token i_value i_bad i_full i_bandRows i_bandFirsts i_outs f_state f_was f_kept f_tape f_order f_rest f_ways f_costs f_bandBest f_found f_drawn f_joined f_out (by omega) (by omega) (by omega) (by omega) (by omega) (by omega) n1 (by omega) _ rfl (fun r => r = nI ((f_state (91 * n1)).toNatClampNeg)) ((hG n1 (by omega)).1.1)) mkX12_points w_1108 ws_36 w_1106 (xpg0 hP rfl) rfl rfl rfl rfl (Nat.le_of_ble_eq_true rfl) (Nat.le_of_ble_eq_true rfl) (Nat.le_of_ble_eq_true rfl) (Nat.le_of_ble_eq_true rfl) (Nat.le_of_ble_eq_true rfl) ?_
    intro v M2 hz
    obtain ⟨_, rfl, rfl, rfl⟩ := hz
    show xW _ _ _ _ 32 _ [.int (nI ((f_state (91 * n1)).toNatClampNeg)), .int (nI j)] (P ++ (MDL L i_keptMany i_taped i_faultKind i_faultPlace i_spot i_begin i_token i_value i_bad i_full i_bandRows i_bandFirsts i_outs f_state f_was f_kept f_tape f_order f_rest f_ways f_costs f_bandBest f_found f_drawn f_joined f_out ++ R)) _ _
    have o4 := (hG n1 (by omega)).1.2
    refine xi_icmp_ge_t (tgt := 69) dX12_neighbours_32 (by decide) (nI_le (a := (f_state (91 * n1)).toNatClampNeg) (b := j) (by omega) (by omega)) ?_
    refine xi_sub (lv' := [(0, .ref L), (1, .int (nI n1)), (2, .int w2), (3, .int (nI n3)), (4, .int v4), (5, .int w5)]) [0, 1, 2, 3, 4, 5] rfl ?_
    exact HE v4 (by first | exact hi | exact or_keep hi) hq
  | succ k ih =>
    intro j v4 hi hj hj2 hq
    rw [LX12_neighbours_25] at hq
    refine xi_iload 6 dX12_neighbours_25 rfl ?_
    refine xi_aload_n 0 dX12_neighbours_27 rfl ?_
    refine xi_iload_n 1 dX12_neighbours_28 rfl ?_
    refine xi_callV (as := [.int (nI n1)]) (rest := [.int (nI j)]) dX12_neighbours_29 (FX12_points_ok G hP i_keptMany i_taped i_faultKind i_faultPlace i_spot i_begin i_token i_value i_bad i_full i_bandRows i_bandFirsts i_outs f_state f_was f_kept f_tape f_order f_rest f_ways f_costs f_bandBest f_found f_drawn f_joined f_out (by omega) (by omega) (by omega) (by omega) (by omega) (by omega) n1 (by omega) _ rfl (fun r => r = nI ((f_state (91 * n1)).toNatClampNeg)) ((hG n1 (by omega)).1.1)) mkX12_points w_1108 ws_36 w_1106 (xpg0 hP rfl) rfl rfl rfl rfl (Nat.le_of_ble_eq_true rfl) (Nat.le_of_ble_eq_true rfl) (Nat.le_of_ble_eq_true rfl) (Nat.le_of_ble_eq_true rfl) (Nat.le_of_ble_eq_true rfl) ?_
    intro v M2 hz
    obtain ⟨_, rfl, rfl, rfl⟩ := hz
    show xW _ _ _ _ 32 _ [.int (nI ((f_state (91 * n1)).toNatClampNeg)), .int (nI j)] (P ++ (MDL L i_keptMany i_taped i_faultKind i_faultPlace i_spot i_begin i_token i_value i_bad i_full i_bandRows i_bandFirsts i_outs f_state f_was f_kept f_tape f_order f_rest f_ways f_costs f_bandBest f_found f_drawn f_joined f_out ++ R)) _ _
    have o2 := (hG n1 (by omega)).1.2
    refine xi_icmp_ge_f (tgt := 69) dX12_neighbours_32 (by decide) (nI_ge (a := j) (b := (f_state (91 * n1)).toNatClampNeg) (by omega) (by omega)) ?_
    refine xi_iload 4 dX12_neighbours_35 rfl ?_
    refine xi_iload 5 dX12_neighbours_37 rfl ?_
    refine xi_iload_n 2 dX12_neighbours_39 rfl ?_
    refine xi_iand (v := (w5 &&& w2)) dX12_neighbours_40 rfl ?_
    refine xi_iload 6 dX12_neighbours_41 rfl ?_
    refine xi_callS (as := [.int (w5 &&& w2), .int (nI j)]) (rest := [.int v4]) dX12_neighbours_43 (FX12_has_ok G ((w5 &&& w2)) ((nI j)) (fun r => r = FX12_has ((w5 &&& w2)) ((nI j))) rfl) mkX12_has w_1207 w_1206 rfl rfl (Nat.le_of_ble_eq_true rfl) (Nat.le_of_ble_eq_true rfl) (Nat.le_of_ble_eq_true rfl) (Nat.le_of_ble_eq_true rfl) (Nat.le_of_ble_eq_true rfl) ?_
    intro v M2 hz
    obtain ⟨_, rfl, rfl, hM2⟩ := hz
    rw [hM2]
    show xW _ _ _ _ 46 _ [.int (FX12_has ((w5 &&& w2)) ((nI j))), .int v4] (P ++ (MDL L i_keptMany i_taped i_faultKind i_faultPlace i_spot i_begin i_token i_value i_bad i_full i_bandRows i_bandFirsts i_outs f_state f_was f_kept f_tape f_order f_rest f_ways f_costs f_bandBest f_found f_drawn f_joined f_out ++ R)) _ _
    refine xi_if_eq (tgt := 59) dX12_neighbours_46 (by decide) (fun c3 => ?_) (fun c3 => ?_)
    · rw [if_pos c3] at hq
      refine xi_iconst (v := 0) dX12_neighbours_59 (by decide) ?_
      refine xi_ior (v := (v4 ||| (0 : Int32))) dX12_neighbours_60 rfl ?_
      refine xi_istore (lv' := [(4, .int (v4 ||| (0 : Int32))), (0, .ref L), (1, .int (nI n1)), (2, .int w2), (3, .int (nI n3)), (5, .int w5), (6, .int (nI j))]) dX12_neighbours_61 (by decide) rfl ?_
      refine xi_iinc (v := (nI (j + 1))) (lv' := [(6, .int (nI (j + 1))), (4, .int (v4 ||| (0 : Int32))), (0, .ref L), (1, .int (nI n1)), (2, .int w2), (3, .int (nI n3)), (5, .int w5)]) 6 dX12_neighbours_63 rfl (nI_1 _) (by decide) rfl ?_
      refine xi_goto (tgt := 25) dX12_neighbours_66 (by decide) ?_
      refine xi_sub (lv' := [(0, .ref L), (1, .int (nI n1)), (2, .int w2), (3, .int (nI n3)), (4, .int (v4 ||| (0 : Int32))), (5, .int w5), (6, .int (nI (j + 1)))]) [2, 3, 4, 5, 1, 6, 0] rfl ?_
      exact ih (j + 1) ((v4 ||| (0 : Int32))) (by first | exact hi | exact or_keep hi) (by omega) (by omega) hq
    · rw [if_neg c3] at hq
      refine xi_aload_n 0 dX12_neighbours_49 rfl ?_
      refine xi_iload_n 1 dX12_neighbours_50 rfl ?_
      refine xi_iload 6 dX12_neighbours_51 rfl ?_
      refine xi_callV (as := [.int (nI n1), .int (nI j)]) (rest := [.int v4]) dX12_neighbours_53 (FX12_nearOf_ok G hP i_keptMany i_taped i_faultKind i_faultPlace i_spot i_begin i_token i_value i_bad i_full i_bandRows i_bandFirsts i_outs f_state f_was f_kept f_tape f_order f_rest f_ways f_costs f_bandBest f_found f_drawn f_joined f_out (by omega) (by omega) (by omega) (by omega) (by omega) (by omega) hG n1 (by omega) j (by omega) _ rfl (fun r => r = FX12_nearOf f_state n1 j) rfl) mkX12_nearOf w_1188 ws_52 w_1186 (xpg0 hP rfl) rfl rfl rfl rfl (Nat.le_of_ble_eq_true rfl) (Nat.le_of_ble_eq_true rfl) (Nat.le_of_ble_eq_true rfl) (Nat.le_of_ble_eq_true rfl) (Nat.le_of_ble_eq_true rfl) ?_
      intro v M2 hz
      obtain ⟨_, rfl, rfl, rfl⟩ := hz
      show xW _ _ _ _ 56 _ [.int (FX12_nearOf f_state n1 j), .int v4] (P ++ (MDL L i_keptMany i_taped i_faultKind i_faultPlace i_spot i_begin i_token i_value i_bad i_full i_bandRows i_bandFirsts i_outs f_state f_was f_kept f_tape f_order f_rest f_ways f_costs f_bandBest f_found f_drawn f_joined f_out ++ R)) _ _
      refine xi_goto (tgt := 60) dX12_neighbours_56 (by decide) ?_
      refine xi_ior (v := (v4 ||| (FX12_nearOf f_state n1 j))) dX12_neighbours_60 rfl ?_
      refine xi_istore (lv' := [(4, .int (v4 ||| (FX12_nearOf f_state n1 j))), (0, .ref L), (1, .int (nI n1)), (2, .int w2), (3, .int (nI n3)), (5, .int w5), (6, .int (nI j))]) dX12_neighbours_61 (by decide) rfl ?_
      refine xi_iinc (v := (nI (j + 1))) (lv' := [(6, .int (nI (j + 1))), (4, .int (v4 ||| (FX12_nearOf f_state n1 j))), (0, .ref L), (1, .int (nI n1)), (2, .int w2), (3, .int (nI n3)), (5, .int w5)]) 6 dX12_neighbours_63 rfl (nI_1 _) (by decide) rfl ?_
      refine xi_goto (tgt := 25) dX12_neighbours_66 (by decide) ?_
      refine xi_sub (lv' := [(0, .ref L), (1, .int (nI n1)), (2, .int w2), (3, .int (nI n3)), (4, .int (v4 ||| (FX12_nearOf f_state n1 j))), (5, .int w5), (6, .int (nI (j + 1)))]) [2, 3, 4, 5, 1, 6, 0] rfl ?_
      exact ih (j + 1) ((v4 ||| (FX12_nearOf f_state n1 j))) (by first | exact hi | exact or_keep hi) (by omega) (by omega) hq
set_option maxHeartbeats 4000000 in
set_option maxRecDepth 100000 in
theorem LX12_neighbours_11_s (G : xG) {P R : xMem} {L : Nat} (hP : P.length = L) (i_keptMany : Nat) (i_taped : Nat) (i_faultKind : Int32) (i_faultPlace : Int32) (i_spot : Nat) (i_begin : Nat) (i_token : Int32) (i_value : Int32) (i_bad : Int32) (i_full : Nat) (i_bandRows : Int32) (i_bandFirsts : Int32) (i_outs : Nat) (f_state : Nat → Int32) (f_was : Nat → Int32) (f_kept : Nat → Int32) (f_tape : Nat → Int32) (f_order : Nat → Int32) (f_rest : Nat → Int32) (f_ways : Nat → Int32) (f_costs : Nat → Int32) (f_bandBest : Nat → Int32) (f_found : Nat → Int32) (f_drawn : Nat → Int32) (f_joined : Nat → Int32) (f_out : Nat → Int32) (bi_keptMany : i_keptMany ≤ 10) (bi_taped : i_taped ≤ 400) (bi_spot : i_spot ≤ 400) (bi_begin : i_begin ≤ 400) (bi_full : i_full ≤ 511) (bi_outs : i_outs ≤ 400) (hG : GO f_state) (n1 : Nat) (bn1 : n1 < 3) (w2 : Int32) (n3 : Nat) (bn3 : n3 < 9) (Q : Int32 → Prop) (K : Int32 → Int32 → Int32) (HE : ∀ (v4 : Int32) (v5 : Int32), Q (K v4 v5) → xW G mX12_neighbours (xrm 2 0 0) (xQ G (fun v M2 => ∃ o : Int32, v = some (.int o) ∧ Q o ∧ M2 = (P ++ (MDL L i_keptMany i_taped i_faultKind i_faultPlace i_spot i_begin i_token i_value i_bad i_full i_bandRows i_bandFirsts i_outs f_state f_was f_kept f_tape f_order f_rest f_ways f_costs f_bandBest f_found f_drawn f_joined f_out ++ R))) 0 0) 72 [(2, .int w2), (3, .int (nI n3)), (4, .int v4)] [] (P ++ (MDL L i_keptMany i_taped i_faultKind i_faultPlace i_spot i_begin i_token i_value i_bad i_full i_bandRows i_bandFirsts i_outs f_state f_was f_kept f_tape f_order f_rest f_ways f_costs f_bandBest f_found f_drawn f_joined f_out ++ R)) 0 0) :
    ∀ (k : Nat) (v4 : Int32) (v5 : Int32), (if v5 = v4 then 0 else 1 + (4294967296 - v4.toBitVec.toNat)) < k → Q (LX12_neighbours_11 f_state n1 w2 n3 K k v4 v5) → xW G mX12_neighbours (xrm 2 0 0) (xQ G (fun v M2 => ∃ o : Int32, v = some (.int o) ∧ Q o ∧ M2 = (P ++ (MDL L i_keptMany i_taped i_faultKind i_faultPlace i_spot i_begin i_token i_value i_bad i_full i_bandRows i_bandFirsts i_outs f_state f_was f_kept f_tape f_order f_rest f_ways f_costs f_bandBest f_found f_drawn f_joined f_out ++ R))) 0 0) 11 [(0, .ref L), (1, .int (nI n1)), (2, .int w2), (3, .int (nI n3)), (4, .int v4), (5, .int v5)] [] (P ++ (MDL L i_keptMany i_taped i_faultKind i_faultPlace i_spot i_begin i_token i_value i_bad i_full i_bandRows i_bandFirsts i_outs f_state f_was f_kept f_tape f_order f_rest f_ways f_costs f_bandBest f_found f_drawn f_joined f_out ++ R)) 0 0 := by
  intro k
  induction k with
  | zero =>
    intro v4 v5 hmu
    exact absurd hmu (Nat.not_lt_zero _)
  | succ k ih =>
    intro v4 v5 hmu hq
    rw [LX12_neighbours_11] at hq
    refine xi_iload 5 dX12_neighbours_11 rfl ?_
    refine xi_iload 4 dX12_neighbours_13 rfl ?_
    refine xi_icmp_eq (tgt := 72) dX12_neighbours_15 (by decide) (fun c1 => ?_) (fun c1 => ?_)
    · rw [if_pos c1] at hq
      refine xi_sub (lv' := [(2, .int w2), (3, .int (nI n3)), (4, .int v4)]) [2, 3, 4] rfl ?_
      exact HE v4 v5 hq
    · rw [if_neg c1] at hq
      refine xi_iload 4 dX12_neighbours_18 rfl ?_
      refine xi_istore (lv' := [(5, .int v4), (0, .ref L), (1, .int (nI n1)), (2, .int w2), (3, .int (nI n3)), (4, .int v4)]) dX12_neighbours_20 (by decide) rfl ?_
      refine xi_iconst (v := 0) dX12_neighbours_22 (by decide) ?_
      refine xi_istore (lv' := [(6, .int 0), (5, .int v4), (0, .ref L), (1, .int (nI n1)), (2, .int w2), (3, .int (nI n3)), (4, .int v4)]) dX12_neighbours_23 (by decide) rfl ?_
      refine xi_sub (lv' := [(0, .ref L), (1, .int (nI n1)), (2, .int w2), (3, .int (nI n3)), (4, .int v4), (5, .int v4), (6, .int 0)]) [2, 3, 4, 5, 6, 1, 0] rfl ?_
      refine LX12_neighbours_25_s G hP i_keptMany i_taped i_faultKind i_faultPlace i_spot i_begin i_token i_value i_bad i_full i_bandRows i_bandFirsts i_outs f_state f_was f_kept f_tape f_order f_rest f_ways f_costs f_bandBest f_found f_drawn f_joined f_out (by omega) (by omega) (by omega) (by omega) (by omega) (by omega) hG n1 (by omega) w2 n3 (by omega) v4 Q _ (fun u5 hi25 hq => ?_) ((f_state (91 * n1)).toNatClampNeg - 0) 0 v4 (by first | exact Int32.or_self | simp) rfl (by omega) hq
      refine xi_goto (tgt := 11) dX12_neighbours_69 (by decide) ?_
      exact ih u5 v4 (by rw [if_neg ‹_›] at hmu; have := gr_dec2 hi25; omega) hq
def FX12_neighbours (f_state : Nat → Int32) (z : Nat) (x : Int32) (p : Nat) : Int32 := (LX12_neighbours_11 f_state z x p (fun u7 u8 => ((u7 &&& (x ^^^ (-1 : Int32))) &&& (((1 : Int32) <<< ((nI p) &&& 31)) ^^^ (-1 : Int32)))) ((if ((0 : Int32)) = ((FX12_nearOf f_state z p)) then 0 else 1 + (4294967296 - ((FX12_nearOf f_state z p)).toBitVec.toNat)) + 1) ((FX12_nearOf f_state z p)) ((0 : Int32)))
set_option maxHeartbeats 4000000 in
set_option maxRecDepth 100000 in
theorem FX12_neighbours_ok (G : xG) {P R : xMem} {L : Nat} (hP : P.length = L) (i_keptMany : Nat) (i_taped : Nat) (i_faultKind : Int32) (i_faultPlace : Int32) (i_spot : Nat) (i_begin : Nat) (i_token : Int32) (i_value : Int32) (i_bad : Int32) (i_full : Nat) (i_bandRows : Int32) (i_bandFirsts : Int32) (i_outs : Nat) (f_state : Nat → Int32) (f_was : Nat → Int32) (f_kept : Nat → Int32) (f_tape : Nat → Int32) (f_order : Nat → Int32) (f_rest : Nat → Int32) (f_ways : Nat → Int32) (f_costs : Nat → Int32) (f_bandBest : Nat → Int32) (f_found : Nat → Int32) (f_drawn : Nat → Int32) (f_joined : Nat → Int32) (f_out : Nat → Int32) (bi_keptMany : i_keptMany ≤ 10) (bi_taped : i_taped ≤ 400) (bi_spot : i_spot ≤ 400) (bi_begin : i_begin ≤ 400) (bi_full : i_full ≤ 511) (bi_outs : i_outs ≤ 400) (hG : GO f_state) (z : Nat) (bz : z < 3) (x : Int32) (p : Nat) (bp : p < 9) (M : xMem) (hM : M = (P ++ (MDL L i_keptMany i_taped i_faultKind i_faultPlace i_spot i_begin i_token i_value i_bad i_full i_bandRows i_bandFirsts i_outs f_state f_was f_kept f_tape f_order f_rest f_ways f_costs f_bandBest f_found f_drawn f_joined f_out ++ R))) (Q : Int32 → Prop) (hq : Q (FX12_neighbours f_state z x p)) : xC G mX12_neighbours 2 0 0 [.ref L, .int (nI z), .int x, .int (nI p)] M (fun v M2 => ∃ o : Int32, v = some (.int o) ∧ Q o ∧ M2 = (P ++ (MDL L i_keptMany i_taped i_faultKind i_faultPlace i_spot i_begin i_token i_value i_bad i_full i_bandRows i_bandFirsts i_outs f_state f_was f_kept f_tape f_order f_rest f_ways f_costs f_bandBest f_found f_drawn f_joined f_out ++ R))) := by
  subst hM
  unfold FX12_neighbours at hq
  refine xC.of (by decide) (Nat.le_of_ble_eq_true rfl) ?_
  show xW _ _ _ _ 0 [(0, .ref L), (1, .int (nI z)), (2, .int x), (3, .int (nI p))] [] _ 0 0
  refine xi_aload_n 0 dX12_neighbours_0 rfl ?_
  refine xi_iload_n 1 dX12_neighbours_1 rfl ?_
  refine xi_iload_n 3 dX12_neighbours_2 rfl ?_
  refine xi_callV (as := [.int (nI z), .int (nI p)]) (rest := []) dX12_neighbours_3 (FX12_nearOf_ok G hP i_keptMany i_taped i_faultKind i_faultPlace i_spot i_begin i_token i_value i_bad i_full i_bandRows i_bandFirsts i_outs f_state f_was f_kept f_tape f_order f_rest f_ways f_costs f_bandBest f_found f_drawn f_joined f_out (by omega) (by omega) (by omega) (by omega) (by omega) (by omega) hG z (by omega) p (by omega) _ rfl (fun r => r = FX12_nearOf f_state z p) rfl) mkX12_nearOf w_1188 ws_52 w_1186 (xpg0 hP rfl) rfl rfl rfl rfl (Nat.le_of_ble_eq_true rfl) (Nat.le_of_ble_eq_true rfl) (Nat.le_of_ble_eq_true rfl) (Nat.le_of_ble_eq_true rfl) (Nat.le_of_ble_eq_true rfl) ?_
  intro v M2 hz
  obtain ⟨_, rfl, rfl, rfl⟩ := hz
  show xW _ _ _ _ 6 _ [.int (FX12_nearOf f_state z p)] (P ++ (MDL L i_keptMany i_taped i_faultKind i_faultPlace i_spot i_begin i_token i_value i_bad i_full i_bandRows i_bandFirsts i_outs f_state f_was f_kept f_tape f_order f_rest f_ways f_costs f_bandBest f_found f_drawn f_joined f_out ++ R)) _ _
  refine xi_istore (lv' := [(4, .int (FX12_nearOf f_state z p)), (0, .ref L), (1, .int (nI z)), (2, .int x), (3, .int (nI p))]) dX12_neighbours_6 (by decide) rfl ?_
  refine xi_iconst (v := 0) dX12_neighbours_8 (by decide) ?_
  refine xi_istore (lv' := [(5, .int 0), (4, .int (FX12_nearOf f_state z p)), (0, .ref L), (1, .int (nI z)), (2, .int x), (3, .int (nI p))]) dX12_neighbours_9 (by decide) rfl ?_
  refine xi_sub (lv' := [(0, .ref L), (1, .int (nI z)), (2, .int x), (3, .int (nI p)), (4, .int (FX12_nearOf f_state z p)), (5, .int 0)]) [2, 3, 4, 5, 1, 0] rfl ?_
  refine LX12_neighbours_11_s G hP i_keptMany i_taped i_faultKind i_faultPlace i_spot i_begin i_token i_value i_bad i_full i_bandRows i_bandFirsts i_outs f_state f_was f_kept f_tape f_order f_rest f_ways f_costs f_bandBest f_found f_drawn f_joined f_out (by omega) (by omega) (by omega) (by omega) (by omega) (by omega) hG z (by omega) x p (by omega) Q _ (fun u7 u8 hq => ?_) ((if ((0 : Int32)) = ((FX12_nearOf f_state z p)) then 0 else 1 + (4294967296 - ((FX12_nearOf f_state z p)).toBitVec.toNat)) + 1) ((FX12_nearOf f_state z p)) ((0 : Int32)) (Nat.lt_succ_self _) hq
  refine xi_iload 2 dX12_neighbours_72 rfl ?_
  refine xi_iload_n 0 dX12_neighbours_74 rfl ?_
  refine xi_iconst (v := (-1)) dX12_neighbours_75 (by decide) ?_
  refine xi_ixor (v := (x ^^^ (-1 : Int32))) dX12_neighbours_76 rfl ?_
  refine xi_iand (v := (u7 &&& (x ^^^ (-1 : Int32)))) dX12_neighbours_77 rfl ?_
  refine xi_iconst (v := 1) dX12_neighbours_78 (by decide) ?_
  refine xi_iload_n 1 dX12_neighbours_79 rfl ?_
  refine xi_ishl (v := ((1 : Int32) <<< ((nI p) &&& 31))) dX12_neighbours_80 rfl ?_
  refine xi_iconst (v := (-1)) dX12_neighbours_81 (by decide) ?_
  refine xi_ixor (v := (((1 : Int32) <<< ((nI p) &&& 31)) ^^^ (-1 : Int32))) dX12_neighbours_82 rfl ?_
  refine xi_iand (v := ((u7 &&& (x ^^^ (-1 : Int32))) &&& (((1 : Int32) <<< ((nI p) &&& 31)) ^^^ (-1 : Int32)))) dX12_neighbours_83 rfl ?_
  exact xi_iret dX12_neighbours_84 rfl rfl (Nat.le_of_ble_eq_true rfl) (Nat.le_of_ble_eq_true rfl) ⟨_, rfl, hq, rfl⟩
def LX12_fillOf_15 (f_state : Nat → Int32) (n1 : Nat) (w2 : Int32) (w4 : Int32) (K : Int32 → Int32) : Nat → Nat → Int32 → Int32
  | 0, _, v5 => K v5
  | k + 1, j, v5 => (if (FX12_has w4 ((nI j))) = (0 : Int32) then (LX12_fillOf_15 f_state n1 w2 w4 K k (j + 1) ((v5 + (0 : Int32)))) else (LX12_fillOf_15 f_state n1 w2 w4 K k (j + 1) ((v5 + (FX12_ones (((w4 &&& ((FX12_neighbours f_state n1 w2 j) ^^^ (-1 : Int32))) &&& ((((1 : Int32) <<< ((nI (j + 1)) &&& 31)) - (1 : Int32)) ^^^ (-1 : Int32)))))))))
set_option maxHeartbeats 4000000 in
set_option maxRecDepth 100000 in
theorem LX12_fillOf_15_s (G : xG) {P R : xMem} {L : Nat} (hP : P.length = L) (i_keptMany : Nat) (i_taped : Nat) (i_faultKind : Int32) (i_faultPlace : Int32) (i_spot : Nat) (i_begin : Nat) (i_token : Int32) (i_value : Int32) (i_bad : Int32) (i_full : Nat) (i_bandRows : Int32) (i_bandFirsts : Int32) (i_outs : Nat) (f_state : Nat → Int32) (f_was : Nat → Int32) (f_kept : Nat → Int32) (f_tape : Nat → Int32) (f_order : Nat → Int32) (f_rest : Nat → Int32) (f_ways : Nat → Int32) (f_costs : Nat → Int32) (f_bandBest : Nat → Int32) (f_found : Nat → Int32) (f_drawn : Nat → Int32) (f_joined : Nat → Int32) (f_out : Nat → Int32) (bi_keptMany : i_keptMany ≤ 10) (bi_taped : i_taped ≤ 400) (bi_spot : i_spot ≤ 400) (bi_begin : i_begin ≤ 400) (bi_full : i_full ≤ 511) (bi_outs : i_outs ≤ 400) (hG : GO f_state) (n1 : Nat) (bn1 : n1 < 3) (w2 : Int32) (w4 : Int32) (Q : Int32 → Prop) (K : Int32 → Int32) (HE : ∀ (v5 : Int32), Q (K v5) → xW G mX12_fillOf (xrm 3 0 0) (xQ G (fun v M2 => ∃ o : Int32, v = some (.int o) ∧ Q o ∧ M2 = (P ++ (MDL L i_keptMany i_taped i_faultKind i_faultPlace i_spot i_begin i_token i_value i_bad i_full i_bandRows i_bandFirsts i_outs f_state f_was f_kept f_tape f_order f_rest f_ways f_costs f_bandBest f_found f_drawn f_joined f_out ++ R))) 0 0) 77 [(5, .int v5)] [] (P ++ (MDL L i_keptMany i_taped i_faultKind i_faultPlace i_spot i_begin i_token i_value i_bad i_full i_bandRows i_bandFirsts i_outs f_state f_was f_kept f_tape f_order f_rest f_ways f_costs f_bandBest f_found f_drawn f_joined f_out ++ R)) 0 0) :
    ∀ (k j : Nat) (v5 : Int32), (f_state (91 * n1)).toNatClampNeg - j = k → j < 100000 → Q (LX12_fillOf_15 f_state n1 w2 w4 K k j v5) → xW G mX12_fillOf (xrm 3 0 0) (xQ G (fun v M2 => ∃ o : Int32, v = some (.int o) ∧ Q o ∧ M2 = (P ++ (MDL L i_keptMany i_taped i_faultKind i_faultPlace i_spot i_begin i_token i_value i_bad i_full i_bandRows i_bandFirsts i_outs f_state f_was f_kept f_tape f_order f_rest f_ways f_costs f_bandBest f_found f_drawn f_joined f_out ++ R))) 0 0) 15 [(0, .ref L), (1, .int (nI n1)), (2, .int w2), (4, .int w4), (5, .int v5), (6, .int (nI j))] [] (P ++ (MDL L i_keptMany i_taped i_faultKind i_faultPlace i_spot i_begin i_token i_value i_bad i_full i_bandRows i_bandFirsts i_outs f_state f_was f_kept f_tape f_order f_rest f_ways f_costs f_bandBest f_found f_drawn f_joined f_out ++ R)) 0 0 := by
  intro k
  induction k with
  | zero =>
    intro j v5 hj hj2 hq
    rw [LX12_fillOf_15] at hq
    refine xi_iload 5 dX12_fillOf_15 rfl ?_
    refine xi_aload_n 0 dX12_fillOf_17 rfl ?_
    refine xi_iload_n 1 dX12_fillOf_18 rfl ?_
    refine xi_callV (as := [.int (nI n1)]) (rest := [.int (nI j)]) dX12_fillOf_19 (FX12_points_ok G hP i_keptMany i_taped i_faultKind i_faultPlace i_spot i_begin i_token i_value i_bad i_full i_bandRows i_bandFirsts i_outs f_state f_was f_kept f_tape f_order f_rest f_ways f_costs f_bandBest f_found f_drawn f_joined f_out (by omega) (by omega) (by omega) (by omega) (by omega) (by omega) n1 (by omega) _ rfl (fun r => r = nI ((f_state (91 * n1)).toNatClampNeg)) ((hG n1 (by omega)).1.1)) mkX12_points w_1108 ws_36 w_1106 (xpg0 hP rfl) rfl rfl rfl rfl (Nat.le_of_ble_eq_true rfl) (Nat.le_of_ble_eq_true rfl) (Nat.le_of_ble_eq_true rfl) (Nat.le_of_ble_eq_true rfl) (Nat.le_of_ble_eq_true rfl) ?_
    intro v M2 hz
    obtain ⟨_, rfl, rfl, rfl⟩ := hz
    show xW _ _ _ _ 22 _ [.int (nI ((f_state (91 * n1)).toNatClampNeg)), .int (nI j)] (P ++ (MDL L i_keptMany i_taped i_faultKind i_faultPlace i_spot i_begin i_token i_value i_bad i_full i_bandRows i_bandFirsts i_outs f_state f_was f_kept f_tape f_order f_rest f_ways f_costs f_bandBest f_found f_drawn f_joined f_out ++ R)) _ _
    have o3 := (hG n1 (by omega)).1.2
    refine xi_icmp_ge_t (tgt := 77) dX12_fillOf_22 (by decide) (nI_le (a := (f_state (91 * n1)).toNatClampNeg) (b := j) (by omega) (by omega)) ?_
    refine xi_sub (lv' := [(5, .int v5)]) [4] rfl ?_
    exact HE v5 hq
  | succ k ih =>
    intro j v5 hj hj2 hq
    rw [LX12_fillOf_15] at hq
    refine xi_iload 5 dX12_fillOf_15 rfl ?_
    refine xi_aload_n 0 dX12_fillOf_17 rfl ?_
    refine xi_iload_n 1 dX12_fillOf_18 rfl ?_
    refine xi_callV (as := [.int (nI n1)]) (rest := [.int (nI j)]) dX12_fillOf_19 (FX12_points_ok G hP i_keptMany i_taped i_faultKind i_faultPlace i_spot i_begin i_token i_value i_bad i_full i_bandRows i_bandFirsts i_outs f_state f_was f_kept f_tape f_order f_rest f_ways f_costs f_bandBest f_found f_drawn f_joined f_out (by omega) (by omega) (by omega) (by omega) (by omega) (by omega) n1 (by omega) _ rfl (fun r => r = nI ((f_state (91 * n1)).toNatClampNeg)) ((hG n1 (by omega)).1.1)) mkX12_points w_1108 ws_36 w_1106 (xpg0 hP rfl) rfl rfl rfl rfl (Nat.le_of_ble_eq_true rfl) (Nat.le_of_ble_eq_true rfl) (Nat.le_of_ble_eq_true rfl) (Nat.le_of_ble_eq_true rfl) (Nat.le_of_ble_eq_true rfl) ?_
    intro v M2 hz
    obtain ⟨_, rfl, rfl, rfl⟩ := hz
    show xW _ _ _ _ 22 _ [.int (nI ((f_state (91 * n1)).toNatClampNeg)), .int (nI j)] (P ++ (MDL L i_keptMany i_taped i_faultKind i_faultPlace i_spot i_begin i_token i_value i_bad i_full i_bandRows i_bandFirsts i_outs f_state f_was f_kept f_tape f_order f_rest f_ways f_costs f_bandBest f_found f_drawn f_joined f_out ++ R)) _ _
    have o1 := (hG n1 (by omega)).1.2
    refine xi_icmp_ge_f (tgt := 77) dX12_fillOf_22 (by decide) (nI_ge (a := j) (b := (f_state (91 * n1)).toNatClampNeg) (by omega) (by omega)) ?_
    refine xi_iload 4 dX12_fillOf_25 rfl ?_
    refine xi_iload 3 dX12_fillOf_27 rfl ?_
    refine xi_iload 5 dX12_fillOf_29 rfl ?_
    refine xi_callS (as := [.int w4, .int (nI j)]) (rest := [.int v5]) dX12_fillOf_31 (FX12_has_ok G w4 ((nI j)) (fun r => r = FX12_has w4 ((nI j))) rfl) mkX12_has w_1207 w_1206 rfl rfl (Nat.le_of_ble_eq_true rfl) (Nat.le_of_ble_eq_true rfl) (Nat.le_of_ble_eq_true rfl) (Nat.le_of_ble_eq_true rfl) (Nat.le_of_ble_eq_true rfl) ?_
    intro v M2 hz
    obtain ⟨_, rfl, rfl, hM2⟩ := hz
    rw [hM2]
    show xW _ _ _ _ 34 _ [.int (FX12_has w4 ((nI j))), .int v5] (P ++ (MDL L i_keptMany i_taped i_faultKind i_faultPlace i_spot i_begin i_token i_value i_bad i_full i_bandRows i_bandFirsts i_outs f_state f_was f_kept f_tape f_order f_rest f_ways f_costs f_bandBest f_found f_drawn f_joined f_out ++ R)) _ _
    refine xi_if_eq (tgt := 67) dX12_fillOf_34 (by decide) (fun c2 => ?_) (fun c2 => ?_)
    · rw [if_pos c2] at hq
      refine xi_iconst (v := 0) dX12_fillOf_67 (by decide) ?_
      refine xi_iadd (v := (v5 + (0 : Int32))) dX12_fillOf_68 rfl ?_
      refine xi_istore (lv' := [(5, .int (v5 + (0 : Int32))), (0, .ref L), (1, .int (nI n1)), (2, .int w2), (4, .int w4), (6, .int (nI j))]) dX12_fillOf_69 (by decide) rfl ?_
      refine xi_iinc (v := (nI (j + 1))) (lv' := [(6, .int (nI (j + 1))), (5, .int (v5 + (0 : Int32))), (0, .ref L), (1, .int (nI n1)), (2, .int w2), (4, .int w4)]) 5 dX12_fillOf_71 rfl (nI_1 _) (by decide) rfl ?_
      refine xi_goto (tgt := 15) dX12_fillOf_74 (by decide) ?_
      refine xi_sub (lv' := [(0, .ref L), (1, .int (nI n1)), (2, .int w2), (4, .int w4), (5, .int (v5 + (0 : Int32))), (6, .int (nI (j + 1)))]) [2, 3, 4, 5, 1, 0] rfl ?_
      exact ih (j + 1) ((v5 + (0 : Int32))) (by omega) (by omega) hq
    · rw [if_neg c2] at hq
      refine xi_iload 3 dX12_fillOf_37 rfl ?_
      refine xi_aload_n 0 dX12_fillOf_39 rfl ?_
      refine xi_iload_n 1 dX12_fillOf_40 rfl ?_
      refine xi_iload_n 2 dX12_fillOf_41 rfl ?_
      refine xi_iload 5 dX12_fillOf_42 rfl ?_
      refine xi_callV (as := [.int (nI n1), .int w2, .int (nI j)]) (rest := [.int w4, .int v5]) dX12_fillOf_44 (FX12_neighbours_ok G hP i_keptMany i_taped i_faultKind i_faultPlace i_spot i_begin i_token i_value i_bad i_full i_bandRows i_bandFirsts i_outs f_state f_was f_kept f_tape f_order f_rest f_ways f_costs f_bandBest f_found f_drawn f_joined f_out (by omega) (by omega) (by omega) (by omega) (by omega) (by omega) hG n1 (by omega) w2 j (by omega) _ rfl (fun r => r = FX12_neighbours f_state n1 w2 j) rfl) mkX12_neighbours w_1308 ws_70 w_1306 (xpg0 hP rfl) rfl rfl rfl rfl (Nat.le_of_ble_eq_true rfl) (Nat.le_of_ble_eq_true rfl) (Nat.le_of_ble_eq_true rfl) (Nat.le_of_ble_eq_true rfl) (Nat.le_of_ble_eq_true rfl) ?_
      intro v M2 hz
      obtain ⟨_, rfl, rfl, rfl⟩ := hz
      show xW _ _ _ _ 47 _ [.int (FX12_neighbours f_state n1 w2 j), .int w4, .int v5] (P ++ (MDL L i_keptMany i_taped i_faultKind i_faultPlace i_spot i_begin i_token i_value i_bad i_full i_bandRows i_bandFirsts i_outs f_state f_was f_kept f_tape f_order f_rest f_ways f_costs f_bandBest f_found f_drawn f_joined f_out ++ R)) _ _
      refine xi_iconst (v := (-1)) dX12_fillOf_47 (by decide) ?_
      refine xi_ixor (v := ((FX12_neighbours f_state n1 w2 j) ^^^ (-1 : Int32))) dX12_fillOf_48 rfl ?_
      refine xi_iand (v := (w4 &&& ((FX12_neighbours f_state n1 w2 j) ^^^ (-1 : Int32)))) dX12_fillOf_49 rfl ?_
      refine xi_iconst (v := 1) dX12_fillOf_50 (by decide) ?_
      refine xi_iload 5 dX12_fillOf_51 rfl ?_
      refine xi_iconst (v := 1) dX12_fillOf_53 (by decide) ?_
      refine xi_iadd (v := (nI (j + 1))) dX12_fillOf_54 (nI_add j 1) ?_
      refine xi_ishl (v := ((1 : Int32) <<< ((nI (j + 1)) &&& 31))) dX12_fillOf_55 rfl ?_
      refine xi_iconst (v := 1) dX12_fillOf_56 (by decide) ?_
      refine xi_isub (v := (((1 : Int32) <<< ((nI (j + 1)) &&& 31)) - (1 : Int32))) dX12_fillOf_57 rfl ?_
      refine xi_iconst (v := (-1)) dX12_fillOf_58 (by decide) ?_
      refine xi_ixor (v := ((((1 : Int32) <<< ((nI (j + 1)) &&& 31)) - (1 : Int32)) ^^^ (-1 : Int32))) dX12_fillOf_59 rfl ?_
      refine xi_iand (v := ((w4 &&& ((FX12_neighbours f_state n1 w2 j) ^^^ (-1 : Int32))) &&& ((((1 : Int32) <<< ((nI (j + 1)) &&& 31)) - (1 : Int32)) ^^^ (-1 : Int32)))) dX12_fillOf_60 rfl ?_
      refine xi_callS (as := [.int ((w4 &&& ((FX12_neighbours f_state n1 w2 j) ^^^ (-1 : Int32))) &&& ((((1 : Int32) <<< ((nI (j + 1)) &&& 31)) - (1 : Int32)) ^^^ (-1 : Int32)))]) (rest := [.int v5]) dX12_fillOf_61 (FX12_ones_ok G (((w4 &&& ((FX12_neighbours f_state n1 w2 j) ^^^ (-1 : Int32))) &&& ((((1 : Int32) <<< ((nI (j + 1)) &&& 31)) - (1 : Int32)) ^^^ (-1 : Int32)))) (fun r => r = FX12_ones (((w4 &&& ((FX12_neighbours f_state n1 w2 j) ^^^ (-1 : Int32))) &&& ((((1 : Int32) <<< ((nI (j + 1)) &&& 31)) - (1 : Int32)) ^^^ (-1 : Int32))))) rfl) mkX12_ones w_1195 w_1194 rfl rfl (Nat.le_of_ble_eq_true rfl) (Nat.le_of_ble_eq_true rfl) (Nat.le_of_ble_eq_true rfl) (Nat.le_of_ble_eq_true rfl) (Nat.le_of_ble_eq_true rfl) ?_
      intro v M2 hz
      obtain ⟨_, rfl, rfl, hM2⟩ := hz
      rw [hM2]
      show xW _ _ _ _ 64 _ [.int (FX12_ones (((w4 &&& ((FX12_neighbours f_state n1 w2 j) ^^^ (-1 : Int32))) &&& ((((1 : Int32) <<< ((nI (j + 1)) &&& 31)) - (1 : Int32)) ^^^ (-1 : Int32))))), .int v5] (P ++ (MDL L i_keptMany i_taped i_faultKind i_faultPlace i_spot i_begin i_token i_value i_bad i_full i_bandRows i_bandFirsts i_outs f_state f_was f_kept f_tape f_order f_rest f_ways f_costs f_bandBest f_found f_drawn f_joined f_out ++ R)) _ _
      refine xi_goto (tgt := 68) dX12_fillOf_64 (by decide) ?_
      refine xi_iadd (v := (v5 + (FX12_ones (((w4 &&& ((FX12_neighbours f_state n1 w2 j) ^^^ (-1 : Int32))) &&& ((((1 : Int32) <<< ((nI (j + 1)) &&& 31)) - (1 : Int32)) ^^^ (-1 : Int32))))))) dX12_fillOf_68 rfl ?_
      refine xi_istore (lv' := [(5, .int (v5 + (FX12_ones (((w4 &&& ((FX12_neighbours f_state n1 w2 j) ^^^ (-1 : Int32))) &&& ((((1 : Int32) <<< ((nI (j + 1)) &&& 31)) - (1 : Int32)) ^^^ (-1 : Int32))))))), (0, .ref L), (1, .int (nI n1)), (2, .int w2), (4, .int w4), (6, .int (nI j))]) dX12_fillOf_69 (by decide) rfl ?_
      refine xi_iinc (v := (nI (j + 1))) (lv' := [(6, .int (nI (j + 1))), (5, .int (v5 + (FX12_ones (((w4 &&& ((FX12_neighbours f_state n1 w2 j) ^^^ (-1 : Int32))) &&& ((((1 : Int32) <<< ((nI (j + 1)) &&& 31)) - (1 : Int32)) ^^^ (-1 : Int32))))))), (0, .ref L), (1, .int (nI n1)), (2, .int w2), (4, .int w4)]) 5 dX12_fillOf_71 rfl (nI_1 _) (by decide) rfl ?_
      refine xi_goto (tgt := 15) dX12_fillOf_74 (by decide) ?_
      refine xi_sub (lv' := [(0, .ref L), (1, .int (nI n1)), (2, .int w2), (4, .int w4), (5, .int (v5 + (FX12_ones (((w4 &&& ((FX12_neighbours f_state n1 w2 j) ^^^ (-1 : Int32))) &&& ((((1 : Int32) <<< ((nI (j + 1)) &&& 31)) - (1 : Int32)) ^^^ (-1 : Int32))))))), (6, .int (nI (j + 1)))]) [2, 3, 4, 5, 1, 0] rfl ?_
      exact ih (j + 1) ((v5 + (FX12_ones (((w4 &&& ((FX12_neighbours f_state n1 w2 j) ^^^ (-1 : Int32))) &&& ((((1 : Int32) <<< ((nI (j + 1)) &&& 31)) - (1 : Int32)) ^^^ (-1 : Int32))))))) (by omega) (by omega) hq
def FX12_fillOf (f_state : Nat → Int32) (z : Nat) (x : Int32) (p : Nat) : Int32 := (LX12_fillOf_15 f_state z x ((FX12_neighbours f_state z x p)) (fun u4 => u4) ((f_state (91 * z)).toNatClampNeg - 0) 0 ((0 : Int32)))
set_option maxHeartbeats 4000000 in
set_option maxRecDepth 100000 in
theorem FX12_fillOf_ok (G : xG) {P R : xMem} {L : Nat} (hP : P.length = L) (i_keptMany : Nat) (i_taped : Nat) (i_faultKind : Int32) (i_faultPlace : Int32) (i_spot : Nat) (i_begin : Nat) (i_token : Int32) (i_value : Int32) (i_bad : Int32) (i_full : Nat) (i_bandRows : Int32) (i_bandFirsts : Int32) (i_outs : Nat) (f_state : Nat → Int32) (f_was : Nat → Int32) (f_kept : Nat → Int32) (f_tape : Nat → Int32) (f_order : Nat → Int32) (f_rest : Nat → Int32) (f_ways : Nat → Int32) (f_costs : Nat → Int32) (f_bandBest : Nat → Int32) (f_found : Nat → Int32) (f_drawn : Nat → Int32) (f_joined : Nat → Int32) (f_out : Nat → Int32) (bi_keptMany : i_keptMany ≤ 10) (bi_taped : i_taped ≤ 400) (bi_spot : i_spot ≤ 400) (bi_begin : i_begin ≤ 400) (bi_full : i_full ≤ 511) (bi_outs : i_outs ≤ 400) (hG : GO f_state) (z : Nat) (bz : z < 3) (x : Int32) (p : Nat) (bp : p < 9) (M : xMem) (hM : M = (P ++ (MDL L i_keptMany i_taped i_faultKind i_faultPlace i_spot i_begin i_token i_value i_bad i_full i_bandRows i_bandFirsts i_outs f_state f_was f_kept f_tape f_order f_rest f_ways f_costs f_bandBest f_found f_drawn f_joined f_out ++ R))) (Q : Int32 → Prop) (hq : Q (FX12_fillOf f_state z x p)) : xC G mX12_fillOf 3 0 0 [.ref L, .int (nI z), .int x, .int (nI p)] M (fun v M2 => ∃ o : Int32, v = some (.int o) ∧ Q o ∧ M2 = (P ++ (MDL L i_keptMany i_taped i_faultKind i_faultPlace i_spot i_begin i_token i_value i_bad i_full i_bandRows i_bandFirsts i_outs f_state f_was f_kept f_tape f_order f_rest f_ways f_costs f_bandBest f_found f_drawn f_joined f_out ++ R))) := by
  subst hM
  unfold FX12_fillOf at hq
  refine xC.of (by decide) (Nat.le_of_ble_eq_true rfl) ?_
  show xW _ _ _ _ 0 [(0, .ref L), (1, .int (nI z)), (2, .int x), (3, .int (nI p))] [] _ 0 0
  refine xi_aload_n 0 dX12_fillOf_0 rfl ?_
  refine xi_iload_n 1 dX12_fillOf_1 rfl ?_
  refine xi_iload_n 2 dX12_fillOf_2 rfl ?_
  refine xi_iload_n 3 dX12_fillOf_3 rfl ?_
  refine xi_callV (as := [.int (nI z), .int x, .int (nI p)]) (rest := []) dX12_fillOf_4 (FX12_neighbours_ok G hP i_keptMany i_taped i_faultKind i_faultPlace i_spot i_begin i_token i_value i_bad i_full i_bandRows i_bandFirsts i_outs f_state f_was f_kept f_tape f_order f_rest f_ways f_costs f_bandBest f_found f_drawn f_joined f_out (by omega) (by omega) (by omega) (by omega) (by omega) (by omega) hG z (by omega) x p (by omega) _ rfl (fun r => r = FX12_neighbours f_state z x p) rfl) mkX12_neighbours w_1308 ws_70 w_1306 (xpg0 hP rfl) rfl rfl rfl rfl (Nat.le_of_ble_eq_true rfl) (Nat.le_of_ble_eq_true rfl) (Nat.le_of_ble_eq_true rfl) (Nat.le_of_ble_eq_true rfl) (Nat.le_of_ble_eq_true rfl) ?_
  intro v M2 hz
  obtain ⟨_, rfl, rfl, rfl⟩ := hz
  show xW _ _ _ _ 7 _ [.int (FX12_neighbours f_state z x p)] (P ++ (MDL L i_keptMany i_taped i_faultKind i_faultPlace i_spot i_begin i_token i_value i_bad i_full i_bandRows i_bandFirsts i_outs f_state f_was f_kept f_tape f_order f_rest f_ways f_costs f_bandBest f_found f_drawn f_joined f_out ++ R)) _ _
  refine xi_istore (lv' := [(4, .int (FX12_neighbours f_state z x p)), (0, .ref L), (1, .int (nI z)), (2, .int x), (3, .int (nI p))]) dX12_fillOf_7 (by decide) rfl ?_
  refine xi_iconst (v := 0) dX12_fillOf_9 (by decide) ?_
  refine xi_istore (lv' := [(5, .int 0), (4, .int (FX12_neighbours f_state z x p)), (0, .ref L), (1, .int (nI z)), (2, .int x), (3, .int (nI p))]) dX12_fillOf_10 (by decide) rfl ?_
  refine xi_iconst (v := 0) dX12_fillOf_12 (by decide) ?_
  refine xi_istore (lv' := [(6, .int 0), (5, .int 0), (4, .int (FX12_neighbours f_state z x p)), (0, .ref L), (1, .int (nI z)), (2, .int x), (3, .int (nI p))]) dX12_fillOf_13 (by decide) rfl ?_
  refine xi_sub (lv' := [(0, .ref L), (1, .int (nI z)), (2, .int x), (4, .int (FX12_neighbours f_state z x p)), (5, .int 0), (6, .int 0)]) [3, 4, 5, 2, 1, 0] rfl ?_
  refine LX12_fillOf_15_s G hP i_keptMany i_taped i_faultKind i_faultPlace i_spot i_begin i_token i_value i_bad i_full i_bandRows i_bandFirsts i_outs f_state f_was f_kept f_tape f_order f_rest f_ways f_costs f_bandBest f_found f_drawn f_joined f_out (by omega) (by omega) (by omega) (by omega) (by omega) (by omega) hG z (by omega) x ((FX12_neighbours f_state z x p)) Q _ (fun u4 hq => ?_) ((f_state (91 * z)).toNatClampNeg - 0) 0 ((0 : Int32)) rfl (by omega) hq
  refine xi_iload 0 dX12_fillOf_77 rfl ?_
  exact xi_iret dX12_fillOf_79 rfl rfl (Nat.le_of_ble_eq_true rfl) (Nat.le_of_ble_eq_true rfl) ⟨_, rfl, hq, rfl⟩
def LX12_parts_19 (f_state : Nat → Int32) (n1 : Nat) (w2 : Int32) (n3 : Nat) (K : Int32 → Int32) : Nat → Nat → Int32 → Int32
  | 0, _, v4 => K v4
  | k + 1, j, v4 => (if v4 = (0 : Int32) then (LX12_parts_19 f_state n1 w2 n3 K k (j + 1) ((0 : Int32))) else (if (FX12_farOf f_state n1 ((nI j)) ((nI n3))) = (-1 : Int32) then (LX12_parts_19 f_state n1 w2 n3 K k (j + 1) ((1 : Int32))) else (LX12_parts_19 f_state n1 w2 n3 K k (j + 1) ((0 : Int32)))))
def LX12_parts_4 (f_state : Nat → Int32) (n1 : Nat) (K : Int32 → Int32) : Nat → Nat → Int32 → Int32
  | 0, _, v2 => K v2
  | k + 1, j, v2 => (LX12_parts_19 f_state n1 v2 j (fun u4 => (if u4 = (0 : Int32) then (LX12_parts_4 f_state n1 K k (j + 1) ((v2 + (0 : Int32)))) else (LX12_parts_4 f_state n1 K k (j + 1) ((v2 + (1 : Int32)))))) (j - 0) 0 ((1 : Int32)))
set_option maxHeartbeats 4000000 in
set_option maxRecDepth 100000 in
theorem LX12_parts_19_s (G : xG) {P R : xMem} {L : Nat} (hP : P.length = L) (i_keptMany : Nat) (i_taped : Nat) (i_faultKind : Int32) (i_faultPlace : Int32) (i_spot : Nat) (i_begin : Nat) (i_token : Int32) (i_value : Int32) (i_bad : Int32) (i_full : Nat) (i_bandRows : Int32) (i_bandFirsts : Int32) (i_outs : Nat) (f_state : Nat → Int32) (f_was : Nat → Int32) (f_kept : Nat → Int32) (f_tape : Nat → Int32) (f_order : Nat → Int32) (f_rest : Nat → Int32) (f_ways : Nat → Int32) (f_costs : Nat → Int32) (f_bandBest : Nat → Int32) (f_found : Nat → Int32) (f_drawn : Nat → Int32) (f_joined : Nat → Int32) (f_out : Nat → Int32) (bi_keptMany : i_keptMany ≤ 10) (bi_taped : i_taped ≤ 400) (bi_spot : i_spot ≤ 400) (bi_begin : i_begin ≤ 400) (bi_full : i_full ≤ 511) (bi_outs : i_outs ≤ 400) (hG : GO f_state) (n1 : Nat) (bn1 : n1 < 3) (w2 : Int32) (n3 : Nat) (bn3 : n3 < 9) (Q : Int32 → Prop) (K : Int32 → Int32) (HE : ∀ (v4 : Int32), Q (K v4) → xW G mX12_parts (xrm 3 0 0) (xQ G (fun v M2 => ∃ o : Int32, v = some (.int o) ∧ Q o ∧ M2 = (P ++ (MDL L i_keptMany i_taped i_faultKind i_faultPlace i_spot i_begin i_token i_value i_bad i_full i_bandRows i_bandFirsts i_outs f_state f_was f_kept f_tape f_order f_rest f_ways f_costs f_bandBest f_found f_drawn f_joined f_out ++ R))) 0 0) 55 [(0, .ref L), (1, .int (nI n1)), (2, .int w2), (3, .int (nI n3)), (4, .int v4)] [] (P ++ (MDL L i_keptMany i_taped i_faultKind i_faultPlace i_spot i_begin i_token i_value i_bad i_full i_bandRows i_bandFirsts i_outs f_state f_was f_kept f_tape f_order f_rest f_ways f_costs f_bandBest f_found f_drawn f_joined f_out ++ R)) 0 0) :
    ∀ (k j : Nat) (v4 : Int32), n3 - j = k → j < 100000 → Q (LX12_parts_19 f_state n1 w2 n3 K k j v4) → xW G mX12_parts (xrm 3 0 0) (xQ G (fun v M2 => ∃ o : Int32, v = some (.int o) ∧ Q o ∧ M2 = (P ++ (MDL L i_keptMany i_taped i_faultKind i_faultPlace i_spot i_begin i_token i_value i_bad i_full i_bandRows i_bandFirsts i_outs f_state f_was f_kept f_tape f_order f_rest f_ways f_costs f_bandBest f_found f_drawn f_joined f_out ++ R))) 0 0) 19 [(0, .ref L), (1, .int (nI n1)), (2, .int w2), (3, .int (nI n3)), (4, .int v4), (5, .int (nI j))] [] (P ++ (MDL L i_keptMany i_taped i_faultKind i_faultPlace i_spot i_begin i_token i_value i_bad i_full i_bandRows i_bandFirsts i_outs f_state f_was f_kept f_tape f_order f_rest f_ways f_costs f_bandBest f_found f_drawn f_joined f_out ++ R)) 0 0 := by
  intro k
  induction k with
  | zero =>
    intro j v4 hj hj2 hq
    rw [LX12_parts_19] at hq
    refine xi_iload 5 dX12_parts_19 rfl ?_
    refine xi_iload_n 3 dX12_parts_21 rfl ?_
    refine xi_icmp_ge_t (tgt := 55) dX12_parts_22 (by decide) (nI_le (a := n3) (b := j) (by omega) (by omega)) ?_
    refine xi_sub (lv' := [(0, .ref L), (1, .int (nI n1)), (2, .int w2), (3, .int (nI n3)), (4, .int v4)]) [0, 1, 2, 3, 4] rfl ?_
    exact HE v4 hq
  | succ k ih =>
    intro j v4 hj hj2 hq
    rw [LX12_parts_19] at hq
    refine xi_iload 5 dX12_parts_19 rfl ?_
    refine xi_iload_n 3 dX12_parts_21 rfl ?_
    refine xi_icmp_ge_f (tgt := 55) dX12_parts_22 (by decide) (nI_ge (a := j) (b := n3) (by omega) (by omega)) ?_
    refine xi_iload 4 dX12_parts_25 rfl ?_
    refine xi_if_eq (tgt := 46) dX12_parts_27 (by decide) (fun c2 => ?_) (fun c2 => ?_)
    · rw [if_pos c2] at hq
      refine xi_iconst (v := 0) dX12_parts_46 (by decide) ?_
      refine xi_istore (lv' := [(4, .int 0), (0, .ref L), (1, .int (nI n1)), (2, .int w2), (3, .int (nI n3)), (5, .int (nI j))]) dX12_parts_47 (by decide) rfl ?_
      refine xi_iinc (v := (nI (j + 1))) (lv' := [(5, .int (nI (j + 1))), (4, .int 0), (0, .ref L), (1, .int (nI n1)), (2, .int w2), (3, .int (nI n3))]) 5 dX12_parts_49 rfl (nI_1 _) (by decide) rfl ?_
      refine xi_goto (tgt := 19) dX12_parts_52 (by decide) ?_
      refine xi_sub (lv' := [(0, .ref L), (1, .int (nI n1)), (2, .int w2), (3, .int (nI n3)), (4, .int 0), (5, .int (nI (j + 1)))]) [2, 3, 4, 5, 1, 0] rfl ?_
      exact ih (j + 1) ((0 : Int32)) (by omega) (by omega) hq
    · rw [if_neg c2] at hq
      refine xi_aload_n 0 dX12_parts_30 rfl ?_
      refine xi_iload_n 1 dX12_parts_31 rfl ?_
      refine xi_iload 5 dX12_parts_32 rfl ?_
      refine xi_iload_n 3 dX12_parts_34 rfl ?_
      refine xi_callV (as := [.int (nI n1), .int (nI j), .int (nI n3)]) (rest := []) dX12_parts_35 (FX12_farOf_ok G hP i_keptMany i_taped i_faultKind i_faultPlace i_spot i_begin i_token i_value i_bad i_full i_bandRows i_bandFirsts i_outs f_state f_was f_kept f_tape f_order f_rest f_ways f_costs f_bandBest f_found f_drawn f_joined f_out (by omega) (by omega) (by omega) (by omega) (by omega) (by omega) hG n1 (by omega) ((nI j)) ((nI n3)) _ rfl (fun r => r = FX12_farOf f_state n1 ((nI j)) ((nI n3))) rfl) mkX12_farOf w_1241 ws_60 w_1239 (xpg0 hP rfl) rfl rfl rfl rfl (Nat.le_of_ble_eq_true rfl) (Nat.le_of_ble_eq_true rfl) (Nat.le_of_ble_eq_true rfl) (Nat.le_of_ble_eq_true rfl) (Nat.le_of_ble_eq_true rfl) ?_
      intro v M2 hz
      obtain ⟨_, rfl, rfl, rfl⟩ := hz
      show xW _ _ _ _ 38 _ [.int (FX12_farOf f_state n1 ((nI j)) ((nI n3)))] (P ++ (MDL L i_keptMany i_taped i_faultKind i_faultPlace i_spot i_begin i_token i_value i_bad i_full i_bandRows i_bandFirsts i_outs f_state f_was f_kept f_tape f_order f_rest f_ways f_costs f_bandBest f_found f_drawn f_joined f_out ++ R)) _ _
      refine xi_iconst (v := (-1)) dX12_parts_38 (by decide) ?_
      refine xi_icmp_ne (tgt := 46) dX12_parts_39 (by decide) (fun c3 => ?_) (fun c3 => ?_)
      · rw [if_neg c3] at hq
        refine xi_iconst (v := 0) dX12_parts_46 (by decide) ?_
        refine xi_istore (lv' := [(4, .int 0), (0, .ref L), (1, .int (nI n1)), (2, .int w2), (3, .int (nI n3)), (5, .int (nI j))]) dX12_parts_47 (by decide) rfl ?_
        refine xi_iinc (v := (nI (j + 1))) (lv' := [(5, .int (nI (j + 1))), (4, .int 0), (0, .ref L), (1, .int (nI n1)), (2, .int w2), (3, .int (nI n3))]) 5 dX12_parts_49 rfl (nI_1 _) (by decide) rfl ?_
        refine xi_goto (tgt := 19) dX12_parts_52 (by decide) ?_
        refine xi_sub (lv' := [(0, .ref L), (1, .int (nI n1)), (2, .int w2), (3, .int (nI n3)), (4, .int 0), (5, .int (nI (j + 1)))]) [2, 3, 4, 5, 1, 0] rfl ?_
        exact ih (j + 1) ((0 : Int32)) (by omega) (by omega) hq
      · rw [if_pos c3] at hq
        refine xi_iconst (v := 1) dX12_parts_42 (by decide) ?_
        refine xi_goto (tgt := 47) dX12_parts_43 (by decide) ?_
        refine xi_istore (lv' := [(4, .int 1), (0, .ref L), (1, .int (nI n1)), (2, .int w2), (3, .int (nI n3)), (5, .int (nI j))]) dX12_parts_47 (by decide) rfl ?_
        refine xi_iinc (v := (nI (j + 1))) (lv' := [(5, .int (nI (j + 1))), (4, .int 1), (0, .ref L), (1, .int (nI n1)), (2, .int w2), (3, .int (nI n3))]) 5 dX12_parts_49 rfl (nI_1 _) (by decide) rfl ?_
        refine xi_goto (tgt := 19) dX12_parts_52 (by decide) ?_
        refine xi_sub (lv' := [(0, .ref L), (1, .int (nI n1)), (2, .int w2), (3, .int (nI n3)), (4, .int 1), (5, .int (nI (j + 1)))]) [2, 3, 4, 5, 1, 0] rfl ?_
        exact ih (j + 1) ((1 : Int32)) (by omega) (by omega) hq
set_option maxHeartbeats 4000000 in
set_option maxRecDepth 100000 in
theorem LX12_parts_4_s (G : xG) {P R : xMem} {L : Nat} (hP : P.length = L) (i_keptMany : Nat) (i_taped : Nat) (i_faultKind : Int32) (i_faultPlace : Int32) (i_spot : Nat) (i_begin : Nat) (i_token : Int32) (i_value : Int32) (i_bad : Int32) (i_full : Nat) (i_bandRows : Int32) (i_bandFirsts : Int32) (i_outs : Nat) (f_state : Nat → Int32) (f_was : Nat → Int32) (f_kept : Nat → Int32) (f_tape : Nat → Int32) (f_order : Nat → Int32) (f_rest : Nat → Int32) (f_ways : Nat → Int32) (f_costs : Nat → Int32) (f_bandBest : Nat → Int32) (f_found : Nat → Int32) (f_drawn : Nat → Int32) (f_joined : Nat → Int32) (f_out : Nat → Int32) (bi_keptMany : i_keptMany ≤ 10) (bi_taped : i_taped ≤ 400) (bi_spot : i_spot ≤ 400) (bi_begin : i_begin ≤ 400) (bi_full : i_full ≤ 511) (bi_outs : i_outs ≤ 400) (hG : GO f_state) (n1 : Nat) (bn1 : n1 < 3) (Q : Int32 → Prop) (K : Int32 → Int32) (HE : ∀ (v2 : Int32), Q (K v2) → xW G mX12_parts (xrm 3 0 0) (xQ G (fun v M2 => ∃ o : Int32, v = some (.int o) ∧ Q o ∧ M2 = (P ++ (MDL L i_keptMany i_taped i_faultKind i_faultPlace i_spot i_begin i_token i_value i_bad i_full i_bandRows i_bandFirsts i_outs f_state f_was f_kept f_tape f_order f_rest f_ways f_costs f_bandBest f_found f_drawn f_joined f_out ++ R))) 0 0) 74 [(2, .int v2)] [] (P ++ (MDL L i_keptMany i_taped i_faultKind i_faultPlace i_spot i_begin i_token i_value i_bad i_full i_bandRows i_bandFirsts i_outs f_state f_was f_kept f_tape f_order f_rest f_ways f_costs f_bandBest f_found f_drawn f_joined f_out ++ R)) 0 0) :
    ∀ (k j : Nat) (v2 : Int32), (f_state (91 * n1)).toNatClampNeg - j = k → j < 100000 → Q (LX12_parts_4 f_state n1 K k j v2) → xW G mX12_parts (xrm 3 0 0) (xQ G (fun v M2 => ∃ o : Int32, v = some (.int o) ∧ Q o ∧ M2 = (P ++ (MDL L i_keptMany i_taped i_faultKind i_faultPlace i_spot i_begin i_token i_value i_bad i_full i_bandRows i_bandFirsts i_outs f_state f_was f_kept f_tape f_order f_rest f_ways f_costs f_bandBest f_found f_drawn f_joined f_out ++ R))) 0 0) 4 [(0, .ref L), (1, .int (nI n1)), (2, .int v2), (3, .int (nI j))] [] (P ++ (MDL L i_keptMany i_taped i_faultKind i_faultPlace i_spot i_begin i_token i_value i_bad i_full i_bandRows i_bandFirsts i_outs f_state f_was f_kept f_tape f_order f_rest f_ways f_costs f_bandBest f_found f_drawn f_joined f_out ++ R)) 0 0 := by
  intro k
  induction k with
  | zero =>
    intro j v2 hj hj2 hq
    rw [LX12_parts_4] at hq
    refine xi_iload_n 3 dX12_parts_4 rfl ?_
    refine xi_aload_n 0 dX12_parts_5 rfl ?_
    refine xi_iload_n 1 dX12_parts_6 rfl ?_
    refine xi_callV (as := [.int (nI n1)]) (rest := [.int (nI j)]) dX12_parts_7 (FX12_points_ok G hP i_keptMany i_taped i_faultKind i_faultPlace i_spot i_begin i_token i_value i_bad i_full i_bandRows i_bandFirsts i_outs f_state f_was f_kept f_tape f_order f_rest f_ways f_costs f_bandBest f_found f_drawn f_joined f_out (by omega) (by omega) (by omega) (by omega) (by omega) (by omega) n1 (by omega) _ rfl (fun r => r = nI ((f_state (91 * n1)).toNatClampNeg)) ((hG n1 (by omega)).1.1)) mkX12_points w_1108 ws_36 w_1106 (xpg0 hP rfl) rfl rfl rfl rfl (Nat.le_of_ble_eq_true rfl) (Nat.le_of_ble_eq_true rfl) (Nat.le_of_ble_eq_true rfl) (Nat.le_of_ble_eq_true rfl) (Nat.le_of_ble_eq_true rfl) ?_
    intro v M2 hz
    obtain ⟨_, rfl, rfl, rfl⟩ := hz
    show xW _ _ _ _ 10 _ [.int (nI ((f_state (91 * n1)).toNatClampNeg)), .int (nI j)] (P ++ (MDL L i_keptMany i_taped i_faultKind i_faultPlace i_spot i_begin i_token i_value i_bad i_full i_bandRows i_bandFirsts i_outs f_state f_was f_kept f_tape f_order f_rest f_ways f_costs f_bandBest f_found f_drawn f_joined f_out ++ R)) _ _
    have o6 := (hG n1 (by omega)).1.2
    refine xi_icmp_ge_t (tgt := 74) dX12_parts_10 (by decide) (nI_le (a := (f_state (91 * n1)).toNatClampNeg) (b := j) (by omega) (by omega)) ?_
    refine xi_sub (lv' := [(2, .int v2)]) [2] rfl ?_
    exact HE v2 hq
  | succ k ih =>
    intro j v2 hj hj2 hq
    rw [LX12_parts_4] at hq
    refine xi_iload_n 3 dX12_parts_4 rfl ?_
    refine xi_aload_n 0 dX12_parts_5 rfl ?_
    refine xi_iload_n 1 dX12_parts_6 rfl ?_
    refine xi_callV (as := [.int (nI n1)]) (rest := [.int (nI j)]) dX12_parts_7 (FX12_points_ok G hP i_keptMany i_taped i_faultKind i_faultPlace i_spot i_begin i_token i_value i_bad i_full i_bandRows i_bandFirsts i_outs f_state f_was f_kept f_tape f_order f_rest f_ways f_costs f_bandBest f_found f_drawn f_joined f_out (by omega) (by omega) (by omega) (by omega) (by omega) (by omega) n1 (by omega) _ rfl (fun r => r = nI ((f_state (91 * n1)).toNatClampNeg)) ((hG n1 (by omega)).1.1)) mkX12_points w_1108 ws_36 w_1106 (xpg0 hP rfl) rfl rfl rfl rfl (Nat.le_of_ble_eq_true rfl) (Nat.le_of_ble_eq_true rfl) (Nat.le_of_ble_eq_true rfl) (Nat.le_of_ble_eq_true rfl) (Nat.le_of_ble_eq_true rfl) ?_
    intro v M2 hz
    obtain ⟨_, rfl, rfl, rfl⟩ := hz
    show xW _ _ _ _ 10 _ [.int (nI ((f_state (91 * n1)).toNatClampNeg)), .int (nI j)] (P ++ (MDL L i_keptMany i_taped i_faultKind i_faultPlace i_spot i_begin i_token i_value i_bad i_full i_bandRows i_bandFirsts i_outs f_state f_was f_kept f_tape f_order f_rest f_ways f_costs f_bandBest f_found f_drawn f_joined f_out ++ R)) _ _
    have o1 := (hG n1 (by omega)).1.2
    refine xi_icmp_ge_f (tgt := 74) dX12_parts_10 (by decide) (nI_ge (a := j) (b := (f_state (91 * n1)).toNatClampNeg) (by omega) (by omega)) ?_
    refine xi_iconst (v := 1) dX12_parts_13 (by decide) ?_
    refine xi_istore (lv' := [(4, .int 1), (0, .ref L), (1, .int (nI n1)), (2, .int v2), (3, .int (nI j))]) dX12_parts_14 (by decide) rfl ?_
    refine xi_iconst (v := 0) dX12_parts_16 (by decide) ?_
    refine xi_istore (lv' := [(5, .int 0), (4, .int 1), (0, .ref L), (1, .int (nI n1)), (2, .int v2), (3, .int (nI j))]) dX12_parts_17 (by decide) rfl ?_
    refine xi_sub (lv' := [(0, .ref L), (1, .int (nI n1)), (2, .int v2), (3, .int (nI j)), (4, .int 1), (5, .int 0)]) [2, 3, 4, 5, 1, 0] rfl ?_
    refine LX12_parts_19_s G hP i_keptMany i_taped i_faultKind i_faultPlace i_spot i_begin i_token i_value i_bad i_full i_bandRows i_bandFirsts i_outs f_state f_was f_kept f_tape f_order f_rest f_ways f_costs f_bandBest f_found f_drawn f_joined f_out (by omega) (by omega) (by omega) (by omega) (by omega) (by omega) hG n1 (by omega) v2 j (by omega) Q _ (fun u4 hq => ?_) (j - 0) 0 ((1 : Int32)) rfl (by omega) hq
    refine xi_iload_n 2 dX12_parts_55 rfl ?_
    refine xi_iload 4 dX12_parts_56 rfl ?_
    refine xi_if_eq (tgt := 65) dX12_parts_58 (by decide) (fun c5 => ?_) (fun c5 => ?_)
    · rw [if_pos c5] at hq
      refine xi_iconst (v := 0) dX12_parts_65 (by decide) ?_
      refine xi_iadd (v := (v2 + (0 : Int32))) dX12_parts_66 rfl ?_
      refine xi_istore_n (lv' := [(2, .int (v2 + (0 : Int32))), (0, .ref L), (1, .int (nI n1)), (3, .int (nI j)), (4, .int u4)]) dX12_parts_67 (by decide) rfl ?_
      refine xi_iinc (v := (nI (j + 1))) (lv' := [(3, .int (nI (j + 1))), (2, .int (v2 + (0 : Int32))), (0, .ref L), (1, .int (nI n1)), (4, .int u4)]) 3 dX12_parts_68 rfl (nI_1 _) (by decide) rfl ?_
      refine xi_goto (tgt := 4) dX12_parts_71 (by decide) ?_
      refine xi_sub (lv' := [(0, .ref L), (1, .int (nI n1)), (2, .int (v2 + (0 : Int32))), (3, .int (nI (j + 1)))]) [2, 3, 1, 0] rfl ?_
      exact ih (j + 1) ((v2 + (0 : Int32))) (by omega) (by omega) hq
    · rw [if_neg c5] at hq
      refine xi_iconst (v := 1) dX12_parts_61 (by decide) ?_
      refine xi_goto (tgt := 66) dX12_parts_62 (by decide) ?_
      refine xi_iadd (v := (v2 + (1 : Int32))) dX12_parts_66 rfl ?_
      refine xi_istore_n (lv' := [(2, .int (v2 + (1 : Int32))), (0, .ref L), (1, .int (nI n1)), (3, .int (nI j)), (4, .int u4)]) dX12_parts_67 (by decide) rfl ?_
      refine xi_iinc (v := (nI (j + 1))) (lv' := [(3, .int (nI (j + 1))), (2, .int (v2 + (1 : Int32))), (0, .ref L), (1, .int (nI n1)), (4, .int u4)]) 3 dX12_parts_68 rfl (nI_1 _) (by decide) rfl ?_
      refine xi_goto (tgt := 4) dX12_parts_71 (by decide) ?_
      refine xi_sub (lv' := [(0, .ref L), (1, .int (nI n1)), (2, .int (v2 + (1 : Int32))), (3, .int (nI (j + 1)))]) [2, 3, 1, 0] rfl ?_
      exact ih (j + 1) ((v2 + (1 : Int32))) (by omega) (by omega) hq
def FX12_parts (f_state : Nat → Int32) (z : Nat) : Int32 := (LX12_parts_4 f_state z (fun u7 => u7) ((f_state (91 * z)).toNatClampNeg - 0) 0 ((0 : Int32)))
set_option maxHeartbeats 4000000 in
set_option maxRecDepth 100000 in
theorem FX12_parts_ok (G : xG) {P R : xMem} {L : Nat} (hP : P.length = L) (i_keptMany : Nat) (i_taped : Nat) (i_faultKind : Int32) (i_faultPlace : Int32) (i_spot : Nat) (i_begin : Nat) (i_token : Int32) (i_value : Int32) (i_bad : Int32) (i_full : Nat) (i_bandRows : Int32) (i_bandFirsts : Int32) (i_outs : Nat) (f_state : Nat → Int32) (f_was : Nat → Int32) (f_kept : Nat → Int32) (f_tape : Nat → Int32) (f_order : Nat → Int32) (f_rest : Nat → Int32) (f_ways : Nat → Int32) (f_costs : Nat → Int32) (f_bandBest : Nat → Int32) (f_found : Nat → Int32) (f_drawn : Nat → Int32) (f_joined : Nat → Int32) (f_out : Nat → Int32) (bi_keptMany : i_keptMany ≤ 10) (bi_taped : i_taped ≤ 400) (bi_spot : i_spot ≤ 400) (bi_begin : i_begin ≤ 400) (bi_full : i_full ≤ 511) (bi_outs : i_outs ≤ 400) (hG : GO f_state) (z : Nat) (bz : z < 3) (M : xMem) (hM : M = (P ++ (MDL L i_keptMany i_taped i_faultKind i_faultPlace i_spot i_begin i_token i_value i_bad i_full i_bandRows i_bandFirsts i_outs f_state f_was f_kept f_tape f_order f_rest f_ways f_costs f_bandBest f_found f_drawn f_joined f_out ++ R))) (Q : Int32 → Prop) (hq : Q (FX12_parts f_state z)) : xC G mX12_parts 3 0 0 [.ref L, .int (nI z)] M (fun v M2 => ∃ o : Int32, v = some (.int o) ∧ Q o ∧ M2 = (P ++ (MDL L i_keptMany i_taped i_faultKind i_faultPlace i_spot i_begin i_token i_value i_bad i_full i_bandRows i_bandFirsts i_outs f_state f_was f_kept f_tape f_order f_rest f_ways f_costs f_bandBest f_found f_drawn f_joined f_out ++ R))) := by
  subst hM
  unfold FX12_parts at hq
  refine xC.of (by decide) (Nat.le_of_ble_eq_true rfl) ?_
  show xW _ _ _ _ 0 [(0, .ref L), (1, .int (nI z))] [] _ 0 0
  refine xi_iconst (v := 0) dX12_parts_0 (by decide) ?_
  refine xi_istore_n (lv' := [(2, .int 0), (0, .ref L), (1, .int (nI z))]) dX12_parts_1 (by decide) rfl ?_
  refine xi_iconst (v := 0) dX12_parts_2 (by decide) ?_
  refine xi_istore_n (lv' := [(3, .int 0), (2, .int 0), (0, .ref L), (1, .int (nI z))]) dX12_parts_3 (by decide) rfl ?_
  refine xi_sub (lv' := [(0, .ref L), (1, .int (nI z)), (2, .int 0), (3, .int 0)]) [2, 3, 1, 0] rfl ?_
  refine LX12_parts_4_s G hP i_keptMany i_taped i_faultKind i_faultPlace i_spot i_begin i_token i_value i_bad i_full i_bandRows i_bandFirsts i_outs f_state f_was f_kept f_tape f_order f_rest f_ways f_costs f_bandBest f_found f_drawn f_joined f_out (by omega) (by omega) (by omega) (by omega) (by omega) (by omega) hG z (by omega) Q _ (fun u7 hq => ?_) ((f_state (91 * z)).toNatClampNeg - 0) 0 ((0 : Int32)) rfl (by omega) hq
  refine xi_iload_n 0 dX12_parts_74 rfl ?_
  exact xi_iret dX12_parts_75 rfl rfl (Nat.le_of_ble_eq_true rfl) (Nat.le_of_ble_eq_true rfl) ⟨_, rfl, hq, rfl⟩
def LX12_diameter_16 (f_state : Nat → Int32) (n1 : Nat) (n3 : Nat) (K : Int32 → Int32) : Nat → Nat → Int32 → Int32
  | 0, _, v2 => K v2
  | k + 1, j, v2 => (if (FX12_farOf f_state n1 ((nI n3)) ((nI j))) = (-1 : Int32) then (-1 : Int32) else (LX12_diameter_16 f_state n1 n3 K k (j + 1) ((if v2 < (FX12_farOf f_state n1 ((nI n3)) ((nI j))) then (FX12_farOf f_state n1 ((nI n3)) ((nI j))) else v2))))
def LX12_diameter_4 (f_state : Nat → Int32) (n1 : Nat) (K : Int32 → Int32) : Nat → Nat → Int32 → Int32
  | 0, _, v2 => K v2
  | k + 1, j, v2 => (LX12_diameter_16 f_state n1 j (fun u5 => (LX12_diameter_4 f_state n1 K k (j + 1) u5)) ((f_state (91 * n1)).toNatClampNeg - 0) 0 v2)
set_option maxHeartbeats 4000000 in
set_option maxRecDepth 100000 in
theorem LX12_diameter_16_s (G : xG) {P R : xMem} {L : Nat} (hP : P.length = L) (i_keptMany : Nat) (i_taped : Nat) (i_faultKind : Int32) (i_faultPlace : Int32) (i_spot : Nat) (i_begin : Nat) (i_token : Int32) (i_value : Int32) (i_bad : Int32) (i_full : Nat) (i_bandRows : Int32) (i_bandFirsts : Int32) (i_outs : Nat) (f_state : Nat → Int32) (f_was : Nat → Int32) (f_kept : Nat → Int32) (f_tape : Nat → Int32) (f_order : Nat → Int32) (f_rest : Nat → Int32) (f_ways : Nat → Int32) (f_costs : Nat → Int32) (f_bandBest : Nat → Int32) (f_found : Nat → Int32) (f_drawn : Nat → Int32) (f_joined : Nat → Int32) (f_out : Nat → Int32) (bi_keptMany : i_keptMany ≤ 10) (bi_taped : i_taped ≤ 400) (bi_spot : i_spot ≤ 400) (bi_begin : i_begin ≤ 400) (bi_full : i_full ≤ 511) (bi_outs : i_outs ≤ 400) (hG : GO f_state) (n1 : Nat) (bn1 : n1 < 3) (n3 : Nat) (bn3 : n3 < 9) (Q : Int32 → Prop) (K : Int32 → Int32) (HE : ∀ (v2 : Int32), Q (K v2) → xW G mX12_diameter (xrm 3 0 0) (xQ G (fun v M2 => ∃ o : Int32, v = some (.int o) ∧ Q o ∧ M2 = (P ++ (MDL L i_keptMany i_taped i_faultKind i_faultPlace i_spot i_begin i_token i_value i_bad i_full i_bandRows i_bandFirsts i_outs f_state f_was f_kept f_tape f_order f_rest f_ways f_costs f_bandBest f_found f_drawn f_joined f_out ++ R))) 0 0) 57 [(0, .ref L), (1, .int (nI n1)), (2, .int v2), (3, .int (nI n3))] [] (P ++ (MDL L i_keptMany i_taped i_faultKind i_faultPlace i_spot i_begin i_token i_value i_bad i_full i_bandRows i_bandFirsts i_outs f_state f_was f_kept f_tape f_order f_rest f_ways f_costs f_bandBest f_found f_drawn f_joined f_out ++ R)) 0 0) :
    ∀ (k j : Nat) (v2 : Int32), (f_state (91 * n1)).toNatClampNeg - j = k → j < 100000 → Q (LX12_diameter_16 f_state n1 n3 K k j v2) → xW G mX12_diameter (xrm 3 0 0) (xQ G (fun v M2 => ∃ o : Int32, v = some (.int o) ∧ Q o ∧ M2 = (P ++ (MDL L i_keptMany i_taped i_faultKind i_faultPlace i_spot i_begin i_token i_value i_bad i_full i_bandRows i_bandFirsts i_outs f_state f_was f_kept f_tape f_order f_rest f_ways f_costs f_bandBest f_found f_drawn f_joined f_out ++ R))) 0 0) 16 [(0, .ref L), (1, .int (nI n1)), (2, .int v2), (3, .int (nI n3)), (4, .int (nI j))] [] (P ++ (MDL L i_keptMany i_taped i_faultKind i_faultPlace i_spot i_begin i_token i_value i_bad i_full i_bandRows i_bandFirsts i_outs f_state f_was f_kept f_tape f_order f_rest f_ways f_costs f_bandBest f_found f_drawn f_joined f_out ++ R)) 0 0 := by
  intro k
  induction k with
  | zero =>
    intro j v2 hj hj2 hq
    rw [LX12_diameter_16] at hq
    refine xi_iload 4 dX12_diameter_16 rfl ?_
    refine xi_aload_n 0 dX12_diameter_18 rfl ?_
    refine xi_iload_n 1 dX12_diameter_19 rfl ?_
    refine xi_callV (as := [.int (nI n1)]) (rest := [.int (nI j)]) dX12_diameter_20 (FX12_points_ok G hP i_keptMany i_taped i_faultKind i_faultPlace i_spot i_begin i_token i_value i_bad i_full i_bandRows i_bandFirsts i_outs f_state f_was f_kept f_tape f_order f_rest f_ways f_costs f_bandBest f_found f_drawn f_joined f_out (by omega) (by omega) (by omega) (by omega) (by omega) (by omega) n1 (by omega) _ rfl (fun r => r = nI ((f_state (91 * n1)).toNatClampNeg)) ((hG n1 (by omega)).1.1)) mkX12_points w_1108 ws_36 w_1106 (xpg0 hP rfl) rfl rfl rfl rfl (Nat.le_of_ble_eq_true rfl) (Nat.le_of_ble_eq_true rfl) (Nat.le_of_ble_eq_true rfl) (Nat.le_of_ble_eq_true rfl) (Nat.le_of_ble_eq_true rfl) ?_
    intro v M2 hz
    obtain ⟨_, rfl, rfl, rfl⟩ := hz
    show xW _ _ _ _ 23 _ [.int (nI ((f_state (91 * n1)).toNatClampNeg)), .int (nI j)] (P ++ (MDL L i_keptMany i_taped i_faultKind i_faultPlace i_spot i_begin i_token i_value i_bad i_full i_bandRows i_bandFirsts i_outs f_state f_was f_kept f_tape f_order f_rest f_ways f_costs f_bandBest f_found f_drawn f_joined f_out ++ R)) _ _
    have o4 := (hG n1 (by omega)).1.2
    refine xi_icmp_ge_t (tgt := 57) dX12_diameter_23 (by decide) (nI_le (a := (f_state (91 * n1)).toNatClampNeg) (b := j) (by omega) (by omega)) ?_
    refine xi_sub (lv' := [(0, .ref L), (1, .int (nI n1)), (2, .int v2), (3, .int (nI n3))]) [0, 1, 2, 3] rfl ?_
    exact HE v2 hq
  | succ k ih =>
    intro j v2 hj hj2 hq
    rw [LX12_diameter_16] at hq
    refine xi_iload 4 dX12_diameter_16 rfl ?_
    refine xi_aload_n 0 dX12_diameter_18 rfl ?_
    refine xi_iload_n 1 dX12_diameter_19 rfl ?_
    refine xi_callV (as := [.int (nI n1)]) (rest := [.int (nI j)]) dX12_diameter_20 (FX12_points_ok G hP i_keptMany i_taped i_faultKind i_faultPlace i_spot i_begin i_token i_value i_bad i_full i_bandRows i_bandFirsts i_outs f_state f_was f_kept f_tape f_order f_rest f_ways f_costs f_bandBest f_found f_drawn f_joined f_out (by omega) (by omega) (by omega) (by omega) (by omega) (by omega) n1 (by omega) _ rfl (fun r => r = nI ((f_state (91 * n1)).toNatClampNeg)) ((hG n1 (by omega)).1.1)) mkX12_points w_1108 ws_36 w_1106 (xpg0 hP rfl) rfl rfl rfl rfl (Nat.le_of_ble_eq_true rfl) (Nat.le_of_ble_eq_true rfl) (Nat.le_of_ble_eq_true rfl) (Nat.le_of_ble_eq_true rfl) (Nat.le_of_ble_eq_true rfl) ?_
    intro v M2 hz
    obtain ⟨_, rfl, rfl, rfl⟩ := hz
    show xW _ _ _ _ 23 _ [.int (nI ((f_state (91 * n1)).toNatClampNeg)), .int (nI j)] (P ++ (MDL L i_keptMany i_taped i_faultKind i_faultPlace i_spot i_begin i_token i_value i_bad i_full i_bandRows i_bandFirsts i_outs f_state f_was f_kept f_tape f_order f_rest f_ways f_costs f_bandBest f_found f_drawn f_joined f_out ++ R)) _ _
    have o2 := (hG n1 (by omega)).1.2
    refine xi_icmp_ge_f (tgt := 57) dX12_diameter_23 (by decide) (nI_ge (a := j) (b := (f_state (91 * n1)).toNatClampNeg) (by omega) (by omega)) ?_
    refine xi_aload_n 0 dX12_diameter_26 rfl ?_
    refine xi_iload_n 1 dX12_diameter_27 rfl ?_
    refine xi_iload_n 3 dX12_diameter_28 rfl ?_
    refine xi_iload 4 dX12_diameter_29 rfl ?_
    refine xi_callV (as := [.int (nI n1), .int (nI n3), .int (nI j)]) (rest := []) dX12_diameter_31 (FX12_farOf_ok G hP i_keptMany i_taped i_faultKind i_faultPlace i_spot i_begin i_token i_value i_bad i_full i_bandRows i_bandFirsts i_outs f_state f_was f_kept f_tape f_order f_rest f_ways f_costs f_bandBest f_found f_drawn f_joined f_out (by omega) (by omega) (by omega) (by omega) (by omega) (by omega) hG n1 (by omega) ((nI n3)) ((nI j)) _ rfl (fun r => r = FX12_farOf f_state n1 ((nI n3)) ((nI j))) rfl) mkX12_farOf w_1241 ws_60 w_1239 (xpg0 hP rfl) rfl rfl rfl rfl (Nat.le_of_ble_eq_true rfl) (Nat.le_of_ble_eq_true rfl) (Nat.le_of_ble_eq_true rfl) (Nat.le_of_ble_eq_true rfl) (Nat.le_of_ble_eq_true rfl) ?_
    intro v M2 hz
    obtain ⟨_, rfl, rfl, rfl⟩ := hz
    show xW _ _ _ _ 34 _ [.int (FX12_farOf f_state n1 ((nI n3)) ((nI j)))] (P ++ (MDL L i_keptMany i_taped i_faultKind i_faultPlace i_spot i_begin i_token i_value i_bad i_full i_bandRows i_bandFirsts i_outs f_state f_was f_kept f_tape f_order f_rest f_ways f_costs f_bandBest f_found f_drawn f_joined f_out ++ R)) _ _
    refine xi_istore (lv' := [(5, .int (FX12_farOf f_state n1 ((nI n3)) ((nI j)))), (0, .ref L), (1, .int (nI n1)), (2, .int v2), (3, .int (nI n3)), (4, .int (nI j))]) dX12_diameter_34 (by decide) rfl ?_
    refine xi_iload 0 dX12_diameter_36 rfl ?_
    refine xi_iconst (v := (-1)) dX12_diameter_38 (by decide) ?_
    refine xi_icmp_ne (tgt := 44) dX12_diameter_39 (by decide) (fun c3 => ?_) (fun c3 => ?_)
    · rw [if_neg c3] at hq
      refine xi_iload_n 3 dX12_diameter_44 rfl ?_
      refine xi_iload 0 dX12_diameter_45 rfl ?_
      refine xi_max (v := (if v2 < (FX12_farOf f_state n1 ((nI n3)) ((nI j))) then (FX12_farOf f_state n1 ((nI n3)) ((nI j))) else v2)) dX12_diameter_47 w_1234 w_37 w_3 w_mmax (Nat.le_of_ble_eq_true rfl) (Nat.le_of_ble_eq_true rfl) (Nat.le_of_ble_eq_true rfl) (Nat.le_of_ble_eq_true rfl) (Nat.le_of_ble_eq_true rfl) rfl ?_
      refine xi_istore_n (lv' := [(2, .int (if v2 < (FX12_farOf f_state n1 ((nI n3)) ((nI j))) then (FX12_farOf f_state n1 ((nI n3)) ((nI j))) else v2)), (5, .int (FX12_farOf f_state n1 ((nI n3)) ((nI j)))), (0, .ref L), (1, .int (nI n1)), (3, .int (nI n3)), (4, .int (nI j))]) dX12_diameter_50 (by decide) rfl ?_
      refine xi_iinc (v := (nI (j + 1))) (lv' := [(4, .int (nI (j + 1))), (2, .int (if v2 < (FX12_farOf f_state n1 ((nI n3)) ((nI j))) then (FX12_farOf f_state n1 ((nI n3)) ((nI j))) else v2)), (5, .int (FX12_farOf f_state n1 ((nI n3)) ((nI j)))), (0, .ref L), (1, .int (nI n1)), (3, .int (nI n3))]) 5 dX12_diameter_51 rfl (nI_1 _) (by decide) rfl ?_
      refine xi_goto (tgt := 16) dX12_diameter_54 (by decide) ?_
      refine xi_sub (lv' := [(0, .ref L), (1, .int (nI n1)), (2, .int (if v2 < (FX12_farOf f_state n1 ((nI n3)) ((nI j))) then (FX12_farOf f_state n1 ((nI n3)) ((nI j))) else v2)), (3, .int (nI n3)), (4, .int (nI (j + 1)))]) [3, 4, 1, 5, 0] rfl ?_
      exact ih (j + 1) ((if v2 < (FX12_farOf f_state n1 ((nI n3)) ((nI j))) then (FX12_farOf f_state n1 ((nI n3)) ((nI j))) else v2)) (by omega) (by omega) hq
    · rw [if_pos c3] at hq
      refine xi_iconst (v := (-1)) dX12_diameter_42 (by decide) ?_
      exact xi_iret dX12_diameter_43 rfl rfl (Nat.le_of_ble_eq_true rfl) (Nat.le_of_ble_eq_true rfl) ⟨_, rfl, hq, rfl⟩
set_option maxHeartbeats 4000000 in
set_option maxRecDepth 100000 in
theorem LX12_diameter_4_s (G : xG) {P R : xMem} {L : Nat} (hP : P.length = L) (i_keptMany : Nat) (i_taped : Nat) (i_faultKind : Int32) (i_faultPlace : Int32) (i_spot : Nat) (i_begin : Nat) (i_token : Int32) (i_value : Int32) (i_bad : Int32) (i_full : Nat) (i_bandRows : Int32) (i_bandFirsts : Int32) (i_outs : Nat) (f_state : Nat → Int32) (f_was : Nat → Int32) (f_kept : Nat → Int32) (f_tape : Nat → Int32) (f_order : Nat → Int32) (f_rest : Nat → Int32) (f_ways : Nat → Int32) (f_costs : Nat → Int32) (f_bandBest : Nat → Int32) (f_found : Nat → Int32) (f_drawn : Nat → Int32) (f_joined : Nat → Int32) (f_out : Nat → Int32) (bi_keptMany : i_keptMany ≤ 10) (bi_taped : i_taped ≤ 400) (bi_spot : i_spot ≤ 400) (bi_begin : i_begin ≤ 400) (bi_full : i_full ≤ 511) (bi_outs : i_outs ≤ 400) (hG : GO f_state) (n1 : Nat) (bn1 : n1 < 3) (Q : Int32 → Prop) (K : Int32 → Int32) (HE : ∀ (v2 : Int32), Q (K v2) → xW G mX12_diameter (xrm 3 0 0) (xQ G (fun v M2 => ∃ o : Int32, v = some (.int o) ∧ Q o ∧ M2 = (P ++ (MDL L i_keptMany i_taped i_faultKind i_faultPlace i_spot i_begin i_token i_value i_bad i_full i_bandRows i_bandFirsts i_outs f_state f_was f_kept f_tape f_order f_rest f_ways f_costs f_bandBest f_found f_drawn f_joined f_out ++ R))) 0 0) 63 [(2, .int v2)] [] (P ++ (MDL L i_keptMany i_taped i_faultKind i_faultPlace i_spot i_begin i_token i_value i_bad i_full i_bandRows i_bandFirsts i_outs f_state f_was f_kept f_tape f_order f_rest f_ways f_costs f_bandBest f_found f_drawn f_joined f_out ++ R)) 0 0) :
    ∀ (k j : Nat) (v2 : Int32), (f_state (91 * n1)).toNatClampNeg - j = k → j < 100000 → Q (LX12_diameter_4 f_state n1 K k j v2) → xW G mX12_diameter (xrm 3 0 0) (xQ G (fun v M2 => ∃ o : Int32, v = some (.int o) ∧ Q o ∧ M2 = (P ++ (MDL L i_keptMany i_taped i_faultKind i_faultPlace i_spot i_begin i_token i_value i_bad i_full i_bandRows i_bandFirsts i_outs f_state f_was f_kept f_tape f_order f_rest f_ways f_costs f_bandBest f_found f_drawn f_joined f_out ++ R))) 0 0) 4 [(0, .ref L), (1, .int (nI n1)), (2, .int v2), (3, .int (nI j))] [] (P ++ (MDL L i_keptMany i_taped i_faultKind i_faultPlace i_spot i_begin i_token i_value i_bad i_full i_bandRows i_bandFirsts i_outs f_state f_was f_kept f_tape f_order f_rest f_ways f_costs f_bandBest f_found f_drawn f_joined f_out ++ R)) 0 0 := by
  intro k
  induction k with
  | zero =>
    intro j v2 hj hj2 hq
    rw [LX12_diameter_4] at hq
    refine xi_iload_n 3 dX12_diameter_4 rfl ?_
    refine xi_aload_n 0 dX12_diameter_5 rfl ?_
    refine xi_iload_n 1 dX12_diameter_6 rfl ?_
    refine xi_callV (as := [.int (nI n1)]) (rest := [.int (nI j)]) dX12_diameter_7 (FX12_points_ok G hP i_keptMany i_taped i_faultKind i_faultPlace i_spot i_begin i_token i_value i_bad i_full i_bandRows i_bandFirsts i_outs f_state f_was f_kept f_tape f_order f_rest f_ways f_costs f_bandBest f_found f_drawn f_joined f_out (by omega) (by omega) (by omega) (by omega) (by omega) (by omega) n1 (by omega) _ rfl (fun r => r = nI ((f_state (91 * n1)).toNatClampNeg)) ((hG n1 (by omega)).1.1)) mkX12_points w_1108 ws_36 w_1106 (xpg0 hP rfl) rfl rfl rfl rfl (Nat.le_of_ble_eq_true rfl) (Nat.le_of_ble_eq_true rfl) (Nat.le_of_ble_eq_true rfl) (Nat.le_of_ble_eq_true rfl) (Nat.le_of_ble_eq_true rfl) ?_
    intro v M2 hz
    obtain ⟨_, rfl, rfl, rfl⟩ := hz
    show xW _ _ _ _ 10 _ [.int (nI ((f_state (91 * n1)).toNatClampNeg)), .int (nI j)] (P ++ (MDL L i_keptMany i_taped i_faultKind i_faultPlace i_spot i_begin i_token i_value i_bad i_full i_bandRows i_bandFirsts i_outs f_state f_was f_kept f_tape f_order f_rest f_ways f_costs f_bandBest f_found f_drawn f_joined f_out ++ R)) _ _
    have o6 := (hG n1 (by omega)).1.2
    refine xi_icmp_ge_t (tgt := 63) dX12_diameter_10 (by decide) (nI_le (a := (f_state (91 * n1)).toNatClampNeg) (b := j) (by omega) (by omega)) ?_
    refine xi_sub (lv' := [(2, .int v2)]) [2] rfl ?_
    exact HE v2 hq
  | succ k ih =>
    intro j v2 hj hj2 hq
    rw [LX12_diameter_4] at hq
    refine xi_iload_n 3 dX12_diameter_4 rfl ?_
    refine xi_aload_n 0 dX12_diameter_5 rfl ?_
    refine xi_iload_n 1 dX12_diameter_6 rfl ?_
    refine xi_callV (as := [.int (nI n1)]) (rest := [.int (nI j)]) dX12_diameter_7 (FX12_points_ok G hP i_keptMany i_taped i_faultKind i_faultPlace i_spot i_begin i_token i_value i_bad i_full i_bandRows i_bandFirsts i_outs f_state f_was f_kept f_tape f_order f_rest f_ways f_costs f_bandBest f_found f_drawn f_joined f_out (by omega) (by omega) (by omega) (by omega) (by omega) (by omega) n1 (by omega) _ rfl (fun r => r = nI ((f_state (91 * n1)).toNatClampNeg)) ((hG n1 (by omega)).1.1)) mkX12_points w_1108 ws_36 w_1106 (xpg0 hP rfl) rfl rfl rfl rfl (Nat.le_of_ble_eq_true rfl) (Nat.le_of_ble_eq_true rfl) (Nat.le_of_ble_eq_true rfl) (Nat.le_of_ble_eq_true rfl) (Nat.le_of_ble_eq_true rfl) ?_
    intro v M2 hz
    obtain ⟨_, rfl, rfl, rfl⟩ := hz
    show xW _ _ _ _ 10 _ [.int (nI ((f_state (91 * n1)).toNatClampNeg)), .int (nI j)] (P ++ (MDL L i_keptMany i_taped i_faultKind i_faultPlace i_spot i_begin i_token i_value i_bad i_full i_bandRows i_bandFirsts i_outs f_state f_was f_kept f_tape f_order f_rest f_ways f_costs f_bandBest f_found f_drawn f_joined f_out ++ R)) _ _
    have o1 := (hG n1 (by omega)).1.2
    refine xi_icmp_ge_f (tgt := 63) dX12_diameter_10 (by decide) (nI_ge (a := j) (b := (f_state (91 * n1)).toNatClampNeg) (by omega) (by omega)) ?_
    refine xi_iconst (v := 0) dX12_diameter_13 (by decide) ?_
    refine xi_istore (lv' := [(4, .int 0), (0, .ref L), (1, .int (nI n1)), (2, .int v2), (3, .int (nI j))]) dX12_diameter_14 (by decide) rfl ?_
    refine xi_sub (lv' := [(0, .ref L), (1, .int (nI n1)), (2, .int v2), (3, .int (nI j)), (4, .int 0)]) [1, 2, 3, 4, 0] rfl ?_
    refine LX12_diameter_16_s G hP i_keptMany i_taped i_faultKind i_faultPlace i_spot i_begin i_token i_value i_bad i_full i_bandRows i_bandFirsts i_outs f_state f_was f_kept f_tape f_order f_rest f_ways f_costs f_bandBest f_found f_drawn f_joined f_out (by omega) (by omega) (by omega) (by omega) (by omega) (by omega) hG n1 (by omega) j (by omega) Q _ (fun u5 hq => ?_) ((f_state (91 * n1)).toNatClampNeg - 0) 0 v2 rfl (by omega) hq
    refine xi_iinc (v := (nI (j + 1))) (lv' := [(3, .int (nI (j + 1))), (0, .ref L), (1, .int (nI n1)), (2, .int u5)]) 3 dX12_diameter_57 rfl (nI_1 _) (by decide) rfl ?_
    refine xi_goto (tgt := 4) dX12_diameter_60 (by decide) ?_
    refine xi_sub (lv' := [(0, .ref L), (1, .int (nI n1)), (2, .int u5), (3, .int (nI (j + 1)))]) [1, 2, 3, 0] rfl ?_
    exact ih (j + 1) u5 (by omega) (by omega) hq
def FX12_diameter (f_state : Nat → Int32) (z : Nat) : Int32 := (LX12_diameter_4 f_state z (fun u7 => u7) ((f_state (91 * z)).toNatClampNeg - 0) 0 ((0 : Int32)))
set_option maxHeartbeats 4000000 in
set_option maxRecDepth 100000 in
theorem FX12_diameter_ok (G : xG) {P R : xMem} {L : Nat} (hP : P.length = L) (i_keptMany : Nat) (i_taped : Nat) (i_faultKind : Int32) (i_faultPlace : Int32) (i_spot : Nat) (i_begin : Nat) (i_token : Int32) (i_value : Int32) (i_bad : Int32) (i_full : Nat) (i_bandRows : Int32) (i_bandFirsts : Int32) (i_outs : Nat) (f_state : Nat → Int32) (f_was : Nat → Int32) (f_kept : Nat → Int32) (f_tape : Nat → Int32) (f_order : Nat → Int32) (f_rest : Nat → Int32) (f_ways : Nat → Int32) (f_costs : Nat → Int32) (f_bandBest : Nat → Int32) (f_found : Nat → Int32) (f_drawn : Nat → Int32) (f_joined : Nat → Int32) (f_out : Nat → Int32) (bi_keptMany : i_keptMany ≤ 10) (bi_taped : i_taped ≤ 400) (bi_spot : i_spot ≤ 400) (bi_begin : i_begin ≤ 400) (bi_full : i_full ≤ 511) (bi_outs : i_outs ≤ 400) (hG : GO f_state) (z : Nat) (bz : z < 3) (M : xMem) (hM : M = (P ++ (MDL L i_keptMany i_taped i_faultKind i_faultPlace i_spot i_begin i_token i_value i_bad i_full i_bandRows i_bandFirsts i_outs f_state f_was f_kept f_tape f_order f_rest f_ways f_costs f_bandBest f_found f_drawn f_joined f_out ++ R))) (Q : Int32 → Prop) (hq : Q (FX12_diameter f_state z)) : xC G mX12_diameter 3 0 0 [.ref L, .int (nI z)] M (fun v M2 => ∃ o : Int32, v = some (.int o) ∧ Q o ∧ M2 = (P ++ (MDL L i_keptMany i_taped i_faultKind i_faultPlace i_spot i_begin i_token i_value i_bad i_full i_bandRows i_bandFirsts i_outs f_state f_was f_kept f_tape f_order f_rest f_ways f_costs f_bandBest f_found f_drawn f_joined f_out ++ R))) := by
  subst hM
  unfold FX12_diameter at hq
  refine xC.of (by decide) (Nat.le_of_ble_eq_true rfl) ?_
  show xW _ _ _ _ 0 [(0, .ref L), (1, .int (nI z))] [] _ 0 0
  refine xi_iconst (v := 0) dX12_diameter_0 (by decide) ?_
  refine xi_istore_n (lv' := [(2, .int 0), (0, .ref L), (1, .int (nI z))]) dX12_diameter_1 (by decide) rfl ?_
  refine xi_iconst (v := 0) dX12_diameter_2 (by decide) ?_
  refine xi_istore_n (lv' := [(3, .int 0), (2, .int 0), (0, .ref L), (1, .int (nI z))]) dX12_diameter_3 (by decide) rfl ?_
  refine xi_sub (lv' := [(0, .ref L), (1, .int (nI z)), (2, .int 0), (3, .int 0)]) [2, 3, 1, 0] rfl ?_
  refine LX12_diameter_4_s G hP i_keptMany i_taped i_faultKind i_faultPlace i_spot i_begin i_token i_value i_bad i_full i_bandRows i_bandFirsts i_outs f_state f_was f_kept f_tape f_order f_rest f_ways f_costs f_bandBest f_found f_drawn f_joined f_out (by omega) (by omega) (by omega) (by omega) (by omega) (by omega) hG z (by omega) Q _ (fun u7 hq => ?_) ((f_state (91 * z)).toNatClampNeg - 0) 0 ((0 : Int32)) rfl (by omega) hq
  refine xi_iload_n 0 dX12_diameter_63 rfl ?_
  exact xi_iret dX12_diameter_64 rfl rfl (Nat.le_of_ble_eq_true rfl) (Nat.le_of_ble_eq_true rfl) ⟨_, rfl, hq, rfl⟩
def LX12_bandOf_16 (f_state : Nat → Int32) (f_order : Nat → Int32) (n1 : Nat) (n3 : Nat) (K : Int32 → Int32) : Nat → Nat → Int32 → Int32
  | 0, _, v2 => K v2
  | k + 1, j, v2 => (if (FX12_weight f_state n1 ((f_order n3).toNatClampNeg) ((f_order j).toNatClampNeg)) ≤ (0 : Int32) then (LX12_bandOf_16 f_state f_order n1 n3 K k (j + 1) v2) else (LX12_bandOf_16 f_state f_order n1 n3 K k (j + 1) ((if v2 < ((nI n3) - (nI j)) then ((nI n3) - (nI j)) else v2))))
def LX12_bandOf_4 (f_state : Nat → Int32) (f_order : Nat → Int32) (n1 : Nat) (K : Int32 → Int32) : Nat → Nat → Int32 → Int32
  | 0, _, v2 => K v2
  | k + 1, j, v2 => (LX12_bandOf_16 f_state f_order n1 j (fun u5 => (LX12_bandOf_4 f_state f_order n1 K k (j + 1) u5)) (j - 0) 0 v2)
set_option maxHeartbeats 4000000 in
set_option maxRecDepth 100000 in
theorem LX12_bandOf_16_s (G : xG) {P R : xMem} {L : Nat} (hP : P.length = L) (i_keptMany : Nat) (i_taped : Nat) (i_faultKind : Int32) (i_faultPlace : Int32) (i_spot : Nat) (i_begin : Nat) (i_token : Int32) (i_value : Int32) (i_bad : Int32) (i_full : Nat) (i_bandRows : Int32) (i_bandFirsts : Int32) (i_outs : Nat) (f_state : Nat → Int32) (f_was : Nat → Int32) (f_kept : Nat → Int32) (f_tape : Nat → Int32) (f_order : Nat → Int32) (f_rest : Nat → Int32) (f_ways : Nat → Int32) (f_costs : Nat → Int32) (f_bandBest : Nat → Int32) (f_found : Nat → Int32) (f_drawn : Nat → Int32) (f_joined : Nat → Int32) (f_out : Nat → Int32) (bi_keptMany : i_keptMany ≤ 10) (bi_taped : i_taped ≤ 400) (bi_spot : i_spot ≤ 400) (bi_begin : i_begin ≤ 400) (bi_full : i_full ≤ 511) (bi_outs : i_outs ≤ 400) (hG : GO f_state) (hR : RO f_order) (n1 : Nat) (bn1 : n1 < 3) (n3 : Nat) (bn3 : n3 < 9) (Q : Int32 → Prop) (K : Int32 → Int32) (HE : ∀ (v2 : Int32), Q (K v2) → xW G mX12_bandOf (xrm 1 0 0) (xQ G (fun v M2 => ∃ o : Int32, v = some (.int o) ∧ Q o ∧ M2 = (P ++ (MDL L i_keptMany i_taped i_faultKind i_faultPlace i_spot i_begin i_token i_value i_bad i_full i_bandRows i_bandFirsts i_outs f_state f_was f_kept f_tape f_order f_rest f_ways f_costs f_bandBest f_found f_drawn f_joined f_out ++ R))) 0 0) 62 [(0, .ref L), (1, .int (nI n1)), (2, .int v2), (3, .int (nI n3))] [] (P ++ (MDL L i_keptMany i_taped i_faultKind i_faultPlace i_spot i_begin i_token i_value i_bad i_full i_bandRows i_bandFirsts i_outs f_state f_was f_kept f_tape f_order f_rest f_ways f_costs f_bandBest f_found f_drawn f_joined f_out ++ R)) 0 0) :
    ∀ (k j : Nat) (v2 : Int32), n3 - j = k → j < 100000 → Q (LX12_bandOf_16 f_state f_order n1 n3 K k j v2) → xW G mX12_bandOf (xrm 1 0 0) (xQ G (fun v M2 => ∃ o : Int32, v = some (.int o) ∧ Q o ∧ M2 = (P ++ (MDL L i_keptMany i_taped i_faultKind i_faultPlace i_spot i_begin i_token i_value i_bad i_full i_bandRows i_bandFirsts i_outs f_state f_was f_kept f_tape f_order f_rest f_ways f_costs f_bandBest f_found f_drawn f_joined f_out ++ R))) 0 0) 16 [(0, .ref L), (1, .int (nI n1)), (2, .int v2), (3, .int (nI n3)), (4, .int (nI j))] [] (P ++ (MDL L i_keptMany i_taped i_faultKind i_faultPlace i_spot i_begin i_token i_value i_bad i_full i_bandRows i_bandFirsts i_outs f_state f_was f_kept f_tape f_order f_rest f_ways f_costs f_bandBest f_found f_drawn f_joined f_out ++ R)) 0 0 := by
  intro k
  induction k with
  | zero =>
    intro j v2 hj hj2 hq
    rw [LX12_bandOf_16] at hq
    refine xi_iload 4 dX12_bandOf_16 rfl ?_
    refine xi_iload_n 3 dX12_bandOf_18 rfl ?_
    refine xi_icmp_ge_t (tgt := 62) dX12_bandOf_19 (by decide) (nI_le (a := n3) (b := j) (by omega) (by omega)) ?_
    refine xi_sub (lv' := [(0, .ref L), (1, .int (nI n1)), (2, .int v2), (3, .int (nI n3))]) [0, 1, 2, 3] rfl ?_
    exact HE v2 hq
  | succ k ih =>
    intro j v2 hj hj2 hq
    rw [LX12_bandOf_16] at hq
    refine xi_iload 4 dX12_bandOf_16 rfl ?_
    refine xi_iload_n 3 dX12_bandOf_18 rfl ?_
    refine xi_icmp_ge_f (tgt := 62) dX12_bandOf_19 (by decide) (nI_ge (a := j) (b := n3) (by omega) (by omega)) ?_
    refine xi_aload_n 0 dX12_bandOf_22 rfl ?_
    refine xi_iload_n 1 dX12_bandOf_23 rfl ?_
    refine xi_aload_n 0 dX12_bandOf_24 rfl ?_
    refine xi_get (f := 13) dX12_bandOf_25 (xpg0 hP rfl) rfl ok_9 (by decide) w_1021 rfl ?_
    refine xi_iload_n 3 dX12_bandOf_28 rfl ?_
    have o2 := (hR n3 (by omega)).2
    refine xi_iaload (v := (nI ((f_order n3).toNatClampNeg))) dX12_bandOf_29 (xpg hP rfl) (vp_in_nI (by omega) (by decide)) (by rw [nI_clamp (by omega)]; exact (hR n3 (by omega)).1) ?_
    refine xi_aload_n 0 dX12_bandOf_30 rfl ?_
    refine xi_get (f := 13) dX12_bandOf_31 (xpg0 hP rfl) rfl ok_9 (by decide) w_1021 rfl ?_
    refine xi_iload 4 dX12_bandOf_34 rfl ?_
    have o3 := (hR j (by omega)).2
    refine xi_iaload (v := (nI ((f_order j).toNatClampNeg))) dX12_bandOf_36 (xpg hP rfl) (vp_in_nI (by omega) (by decide)) (by rw [nI_clamp (by omega)]; exact (hR j (by omega)).1) ?_
    refine xi_callV (as := [.int (nI n1), .int (nI ((f_order n3).toNatClampNeg)), .int (nI ((f_order j).toNatClampNeg))]) (rest := []) dX12_bandOf_37 (FX12_weight_ok G hP i_keptMany i_taped i_faultKind i_faultPlace i_spot i_begin i_token i_value i_bad i_full i_bandRows i_bandFirsts i_outs f_state f_was f_kept f_tape f_order f_rest f_ways f_costs f_bandBest f_found f_drawn f_joined f_out (by omega) (by omega) (by omega) (by omega) (by omega) (by omega) n1 (by omega) ((f_order n3).toNatClampNeg) (by omega) ((f_order j).toNatClampNeg) (by omega) _ rfl (fun r => r = FX12_weight f_state n1 ((f_order n3).toNatClampNeg) ((f_order j).toNatClampNeg)) rfl) mkX12_weight w_1192 ws_53 w_1190 (xpg0 hP rfl) rfl rfl rfl rfl (Nat.le_of_ble_eq_true rfl) (Nat.le_of_ble_eq_true rfl) (Nat.le_of_ble_eq_true rfl) (Nat.le_of_ble_eq_true rfl) (Nat.le_of_ble_eq_true rfl) ?_
    intro v M2 hz
    obtain ⟨_, rfl, rfl, rfl⟩ := hz
    show xW _ _ _ _ 40 _ [.int (FX12_weight f_state n1 ((f_order n3).toNatClampNeg) ((f_order j).toNatClampNeg))] (P ++ (MDL L i_keptMany i_taped i_faultKind i_faultPlace i_spot i_begin i_token i_value i_bad i_full i_bandRows i_bandFirsts i_outs f_state f_was f_kept f_tape f_order f_rest f_ways f_costs f_bandBest f_found f_drawn f_joined f_out ++ R)) _ _
    refine xi_if_le (tgt := 54) dX12_bandOf_40 (by decide) (fun c4 => ?_) (fun c4 => ?_)
    · rw [if_pos c4] at hq
      refine xi_iload_n 2 dX12_bandOf_54 rfl ?_
      refine xi_istore_n (lv' := [(2, .int v2), (0, .ref L), (1, .int (nI n1)), (3, .int (nI n3)), (4, .int (nI j))]) dX12_bandOf_55 (by decide) rfl ?_
      refine xi_iinc (v := (nI (j + 1))) (lv' := [(4, .int (nI (j + 1))), (2, .int v2), (0, .ref L), (1, .int (nI n1)), (3, .int (nI n3))]) 4 dX12_bandOf_56 rfl (nI_1 _) (by decide) rfl ?_
      refine xi_goto (tgt := 16) dX12_bandOf_59 (by decide) ?_
      refine xi_sub (lv' := [(0, .ref L), (1, .int (nI n1)), (2, .int v2), (3, .int (nI n3)), (4, .int (nI (j + 1)))]) [2, 3, 1, 4, 0] rfl ?_
      exact ih (j + 1) v2 (by omega) (by omega) hq
    · rw [if_neg c4] at hq
      refine xi_iload_n 2 dX12_bandOf_43 rfl ?_
      refine xi_iload_n 3 dX12_bandOf_44 rfl ?_
      refine xi_iload 4 dX12_bandOf_45 rfl ?_
      refine xi_isub (v := ((nI n3) - (nI j))) dX12_bandOf_47 rfl ?_
      refine xi_max (v := (if v2 < ((nI n3) - (nI j)) then ((nI n3) - (nI j)) else v2)) dX12_bandOf_48 w_1234 w_37 w_3 w_mmax (Nat.le_of_ble_eq_true rfl) (Nat.le_of_ble_eq_true rfl) (Nat.le_of_ble_eq_true rfl) (Nat.le_of_ble_eq_true rfl) (Nat.le_of_ble_eq_true rfl) rfl ?_
      refine xi_goto (tgt := 55) dX12_bandOf_51 (by decide) ?_
      refine xi_istore_n (lv' := [(2, .int (if v2 < ((nI n3) - (nI j)) then ((nI n3) - (nI j)) else v2)), (0, .ref L), (1, .int (nI n1)), (3, .int (nI n3)), (4, .int (nI j))]) dX12_bandOf_55 (by decide) rfl ?_
      refine xi_iinc (v := (nI (j + 1))) (lv' := [(4, .int (nI (j + 1))), (2, .int (if v2 < ((nI n3) - (nI j)) then ((nI n3) - (nI j)) else v2)), (0, .ref L), (1, .int (nI n1)), (3, .int (nI n3))]) 4 dX12_bandOf_56 rfl (nI_1 _) (by decide) rfl ?_
      refine xi_goto (tgt := 16) dX12_bandOf_59 (by decide) ?_
      refine xi_sub (lv' := [(0, .ref L), (1, .int (nI n1)), (2, .int (if v2 < ((nI n3) - (nI j)) then ((nI n3) - (nI j)) else v2)), (3, .int (nI n3)), (4, .int (nI (j + 1)))]) [2, 3, 1, 4, 0] rfl ?_
      exact ih (j + 1) ((if v2 < ((nI n3) - (nI j)) then ((nI n3) - (nI j)) else v2)) (by omega) (by omega) hq
set_option maxHeartbeats 4000000 in
set_option maxRecDepth 100000 in
theorem LX12_bandOf_4_s (G : xG) {P R : xMem} {L : Nat} (hP : P.length = L) (i_keptMany : Nat) (i_taped : Nat) (i_faultKind : Int32) (i_faultPlace : Int32) (i_spot : Nat) (i_begin : Nat) (i_token : Int32) (i_value : Int32) (i_bad : Int32) (i_full : Nat) (i_bandRows : Int32) (i_bandFirsts : Int32) (i_outs : Nat) (f_state : Nat → Int32) (f_was : Nat → Int32) (f_kept : Nat → Int32) (f_tape : Nat → Int32) (f_order : Nat → Int32) (f_rest : Nat → Int32) (f_ways : Nat → Int32) (f_costs : Nat → Int32) (f_bandBest : Nat → Int32) (f_found : Nat → Int32) (f_drawn : Nat → Int32) (f_joined : Nat → Int32) (f_out : Nat → Int32) (bi_keptMany : i_keptMany ≤ 10) (bi_taped : i_taped ≤ 400) (bi_spot : i_spot ≤ 400) (bi_begin : i_begin ≤ 400) (bi_full : i_full ≤ 511) (bi_outs : i_outs ≤ 400) (hG : GO f_state) (hR : RO f_order) (n1 : Nat) (bn1 : n1 < 3) (Q : Int32 → Prop) (K : Int32 → Int32) (HE : ∀ (v2 : Int32), Q (K v2) → xW G mX12_bandOf (xrm 1 0 0) (xQ G (fun v M2 => ∃ o : Int32, v = some (.int o) ∧ Q o ∧ M2 = (P ++ (MDL L i_keptMany i_taped i_faultKind i_faultPlace i_spot i_begin i_token i_value i_bad i_full i_bandRows i_bandFirsts i_outs f_state f_was f_kept f_tape f_order f_rest f_ways f_costs f_bandBest f_found f_drawn f_joined f_out ++ R))) 0 0) 68 [(2, .int v2)] [] (P ++ (MDL L i_keptMany i_taped i_faultKind i_faultPlace i_spot i_begin i_token i_value i_bad i_full i_bandRows i_bandFirsts i_outs f_state f_was f_kept f_tape f_order f_rest f_ways f_costs f_bandBest f_found f_drawn f_joined f_out ++ R)) 0 0) :
    ∀ (k j : Nat) (v2 : Int32), (f_state (91 * n1)).toNatClampNeg - j = k → j < 100000 → Q (LX12_bandOf_4 f_state f_order n1 K k j v2) → xW G mX12_bandOf (xrm 1 0 0) (xQ G (fun v M2 => ∃ o : Int32, v = some (.int o) ∧ Q o ∧ M2 = (P ++ (MDL L i_keptMany i_taped i_faultKind i_faultPlace i_spot i_begin i_token i_value i_bad i_full i_bandRows i_bandFirsts i_outs f_state f_was f_kept f_tape f_order f_rest f_ways f_costs f_bandBest f_found f_drawn f_joined f_out ++ R))) 0 0) 4 [(0, .ref L), (1, .int (nI n1)), (2, .int v2), (3, .int (nI j))] [] (P ++ (MDL L i_keptMany i_taped i_faultKind i_faultPlace i_spot i_begin i_token i_value i_bad i_full i_bandRows i_bandFirsts i_outs f_state f_was f_kept f_tape f_order f_rest f_ways f_costs f_bandBest f_found f_drawn f_joined f_out ++ R)) 0 0 := by
  intro k
  induction k with
  | zero =>
    intro j v2 hj hj2 hq
    rw [LX12_bandOf_4] at hq
    refine xi_iload_n 3 dX12_bandOf_4 rfl ?_
    refine xi_aload_n 0 dX12_bandOf_5 rfl ?_
    refine xi_iload_n 1 dX12_bandOf_6 rfl ?_
    refine xi_callV (as := [.int (nI n1)]) (rest := [.int (nI j)]) dX12_bandOf_7 (FX12_points_ok G hP i_keptMany i_taped i_faultKind i_faultPlace i_spot i_begin i_token i_value i_bad i_full i_bandRows i_bandFirsts i_outs f_state f_was f_kept f_tape f_order f_rest f_ways f_costs f_bandBest f_found f_drawn f_joined f_out (by omega) (by omega) (by omega) (by omega) (by omega) (by omega) n1 (by omega) _ rfl (fun r => r = nI ((f_state (91 * n1)).toNatClampNeg)) ((hG n1 (by omega)).1.1)) mkX12_points w_1108 ws_36 w_1106 (xpg0 hP rfl) rfl rfl rfl rfl (Nat.le_of_ble_eq_true rfl) (Nat.le_of_ble_eq_true rfl) (Nat.le_of_ble_eq_true rfl) (Nat.le_of_ble_eq_true rfl) (Nat.le_of_ble_eq_true rfl) ?_
    intro v M2 hz
    obtain ⟨_, rfl, rfl, rfl⟩ := hz
    show xW _ _ _ _ 10 _ [.int (nI ((f_state (91 * n1)).toNatClampNeg)), .int (nI j)] (P ++ (MDL L i_keptMany i_taped i_faultKind i_faultPlace i_spot i_begin i_token i_value i_bad i_full i_bandRows i_bandFirsts i_outs f_state f_was f_kept f_tape f_order f_rest f_ways f_costs f_bandBest f_found f_drawn f_joined f_out ++ R)) _ _
    have o6 := (hG n1 (by omega)).1.2
    refine xi_icmp_ge_t (tgt := 68) dX12_bandOf_10 (by decide) (nI_le (a := (f_state (91 * n1)).toNatClampNeg) (b := j) (by omega) (by omega)) ?_
    refine xi_sub (lv' := [(2, .int v2)]) [2] rfl ?_
    exact HE v2 hq
  | succ k ih =>
    intro j v2 hj hj2 hq
    rw [LX12_bandOf_4] at hq
    refine xi_iload_n 3 dX12_bandOf_4 rfl ?_
    refine xi_aload_n 0 dX12_bandOf_5 rfl ?_
    refine xi_iload_n 1 dX12_bandOf_6 rfl ?_
    refine xi_callV (as := [.int (nI n1)]) (rest := [.int (nI j)]) dX12_bandOf_7 (FX12_points_ok G hP i_keptMany i_taped i_faultKind i_faultPlace i_spot i_begin i_token i_value i_bad i_full i_bandRows i_bandFirsts i_outs f_state f_was f_kept f_tape f_order f_rest f_ways f_costs f_bandBest f_found f_drawn f_joined f_out (by omega) (by omega) (by omega) (by omega) (by omega) (by omega) n1 (by omega) _ rfl (fun r => r = nI ((f_state (91 * n1)).toNatClampNeg)) ((hG n1 (by omega)).1.1)) mkX12_points w_1108 ws_36 w_1106 (xpg0 hP rfl) rfl rfl rfl rfl (Nat.le_of_ble_eq_true rfl) (Nat.le_of_ble_eq_true rfl) (Nat.le_of_ble_eq_true rfl) (Nat.le_of_ble_eq_true rfl) (Nat.le_of_ble_eq_true rfl) ?_
    intro v M2 hz
    obtain ⟨_, rfl, rfl, rfl⟩ := hz
    show xW _ _ _ _ 10 _ [.int (nI ((f_state (91 * n1)).toNatClampNeg)), .int (nI j)] (P ++ (MDL L i_keptMany i_taped i_faultKind i_faultPlace i_spot i_begin i_token i_value i_bad i_full i_bandRows i_bandFirsts i_outs f_state f_was f_kept f_tape f_order f_rest f_ways f_costs f_bandBest f_found f_drawn f_joined f_out ++ R)) _ _
    have o1 := (hG n1 (by omega)).1.2
    refine xi_icmp_ge_f (tgt := 68) dX12_bandOf_10 (by decide) (nI_ge (a := j) (b := (f_state (91 * n1)).toNatClampNeg) (by omega) (by omega)) ?_
    refine xi_iconst (v := 0) dX12_bandOf_13 (by decide) ?_
    refine xi_istore (lv' := [(4, .int 0), (0, .ref L), (1, .int (nI n1)), (2, .int v2), (3, .int (nI j))]) dX12_bandOf_14 (by decide) rfl ?_
    refine xi_sub (lv' := [(0, .ref L), (1, .int (nI n1)), (2, .int v2), (3, .int (nI j)), (4, .int 0)]) [1, 2, 3, 4, 0] rfl ?_
    refine LX12_bandOf_16_s G hP i_keptMany i_taped i_faultKind i_faultPlace i_spot i_begin i_token i_value i_bad i_full i_bandRows i_bandFirsts i_outs f_state f_was f_kept f_tape f_order f_rest f_ways f_costs f_bandBest f_found f_drawn f_joined f_out (by omega) (by omega) (by omega) (by omega) (by omega) (by omega) hG hR n1 (by omega) j (by omega) Q _ (fun u5 hq => ?_) (j - 0) 0 v2 rfl (by omega) hq
    refine xi_iinc (v := (nI (j + 1))) (lv' := [(3, .int (nI (j + 1))), (0, .ref L), (1, .int (nI n1)), (2, .int u5)]) 3 dX12_bandOf_62 rfl (nI_1 _) (by decide) rfl ?_
    refine xi_goto (tgt := 4) dX12_bandOf_65 (by decide) ?_
    refine xi_sub (lv' := [(0, .ref L), (1, .int (nI n1)), (2, .int u5), (3, .int (nI (j + 1)))]) [1, 2, 3, 0] rfl ?_
    exact ih (j + 1) u5 (by omega) (by omega) hq
def FX12_bandOf (f_state : Nat → Int32) (f_order : Nat → Int32) (z : Nat) : Int32 := (LX12_bandOf_4 f_state f_order z (fun u7 => u7) ((f_state (91 * z)).toNatClampNeg - 0) 0 ((0 : Int32)))
set_option maxHeartbeats 4000000 in
set_option maxRecDepth 100000 in
theorem FX12_bandOf_ok (G : xG) {P R : xMem} {L : Nat} (hP : P.length = L) (i_keptMany : Nat) (i_taped : Nat) (i_faultKind : Int32) (i_faultPlace : Int32) (i_spot : Nat) (i_begin : Nat) (i_token : Int32) (i_value : Int32) (i_bad : Int32) (i_full : Nat) (i_bandRows : Int32) (i_bandFirsts : Int32) (i_outs : Nat) (f_state : Nat → Int32) (f_was : Nat → Int32) (f_kept : Nat → Int32) (f_tape : Nat → Int32) (f_order : Nat → Int32) (f_rest : Nat → Int32) (f_ways : Nat → Int32) (f_costs : Nat → Int32) (f_bandBest : Nat → Int32) (f_found : Nat → Int32) (f_drawn : Nat → Int32) (f_joined : Nat → Int32) (f_out : Nat → Int32) (bi_keptMany : i_keptMany ≤ 10) (bi_taped : i_taped ≤ 400) (bi_spot : i_spot ≤ 400) (bi_begin : i_begin ≤ 400) (bi_full : i_full ≤ 511) (bi_outs : i_outs ≤ 400) (hG : GO f_state) (hR : RO f_order) (z : Nat) (bz : z < 3) (M : xMem) (hM : M = (P ++ (MDL L i_keptMany i_taped i_faultKind i_faultPlace i_spot i_begin i_token i_value i_bad i_full i_bandRows i_bandFirsts i_outs f_state f_was f_kept f_tape f_order f_rest f_ways f_costs f_bandBest f_found f_drawn f_joined f_out ++ R))) (Q : Int32 → Prop) (hq : Q (FX12_bandOf f_state f_order z)) : xC G mX12_bandOf 1 0 0 [.ref L, .int (nI z)] M (fun v M2 => ∃ o : Int32, v = some (.int o) ∧ Q o ∧ M2 = (P ++ (MDL L i_keptMany i_taped i_faultKind i_faultPlace i_spot i_begin i_token i_value i_bad i_full i_bandRows i_bandFirsts i_outs f_state f_was f_kept f_tape f_order f_rest f_ways f_costs f_bandBest f_found f_drawn f_joined f_out ++ R))) := by
  subst hM
  unfold FX12_bandOf at hq
  refine xC.of (by decide) (Nat.le_of_ble_eq_true rfl) ?_
  show xW _ _ _ _ 0 [(0, .ref L), (1, .int (nI z))] [] _ 0 0
  refine xi_iconst (v := 0) dX12_bandOf_0 (by decide) ?_
  refine xi_istore_n (lv' := [(2, .int 0), (0, .ref L), (1, .int (nI z))]) dX12_bandOf_1 (by decide) rfl ?_
  refine xi_iconst (v := 0) dX12_bandOf_2 (by decide) ?_
  refine xi_istore_n (lv' := [(3, .int 0), (2, .int 0), (0, .ref L), (1, .int (nI z))]) dX12_bandOf_3 (by decide) rfl ?_
  refine xi_sub (lv' := [(0, .ref L), (1, .int (nI z)), (2, .int 0), (3, .int 0)]) [2, 3, 1, 0] rfl ?_
  refine LX12_bandOf_4_s G hP i_keptMany i_taped i_faultKind i_faultPlace i_spot i_begin i_token i_value i_bad i_full i_bandRows i_bandFirsts i_outs f_state f_was f_kept f_tape f_order f_rest f_ways f_costs f_bandBest f_found f_drawn f_joined f_out (by omega) (by omega) (by omega) (by omega) (by omega) (by omega) hG hR z (by omega) Q _ (fun u7 hq => ?_) ((f_state (91 * z)).toNatClampNeg - 0) 0 ((0 : Int32)) rfl (by omega) hq
  refine xi_iload_n 0 dX12_bandOf_68 rfl ?_
  exact xi_iret dX12_bandOf_69 rfl rfl (Nat.le_of_ble_eq_true rfl) (Nat.le_of_ble_eq_true rfl) ⟨_, rfl, hq, rfl⟩
def FX12_exchanges (f_order : Nat → Int32) (p : Nat) (q : Nat) : Int32 × (Nat → Int32) := (0, upd (upd f_order p ((nI ((f_order q).toNatClampNeg)))) q ((nI ((f_order p).toNatClampNeg))))
set_option maxHeartbeats 4000000 in
set_option maxRecDepth 100000 in
theorem FX12_exchanges_ok (G : xG) {P R : xMem} {L : Nat} (hP : P.length = L) (i_keptMany : Nat) (i_taped : Nat) (i_faultKind : Int32) (i_faultPlace : Int32) (i_spot : Nat) (i_begin : Nat) (i_token : Int32) (i_value : Int32) (i_bad : Int32) (i_full : Nat) (i_bandRows : Int32) (i_bandFirsts : Int32) (i_outs : Nat) (f_state : Nat → Int32) (f_was : Nat → Int32) (f_kept : Nat → Int32) (f_tape : Nat → Int32) (f_order : Nat → Int32) (f_rest : Nat → Int32) (f_ways : Nat → Int32) (f_costs : Nat → Int32) (f_bandBest : Nat → Int32) (f_found : Nat → Int32) (f_drawn : Nat → Int32) (f_joined : Nat → Int32) (f_out : Nat → Int32) (bi_keptMany : i_keptMany ≤ 10) (bi_taped : i_taped ≤ 400) (bi_spot : i_spot ≤ 400) (bi_begin : i_begin ≤ 400) (bi_full : i_full ≤ 511) (bi_outs : i_outs ≤ 400) (hR : RO f_order) (p : Nat) (bp : p < 9) (q : Nat) (bq : q < 9) (M : xMem) (hM : M = (P ++ (MDL L i_keptMany i_taped i_faultKind i_faultPlace i_spot i_begin i_token i_value i_bad i_full i_bandRows i_bandFirsts i_outs f_state f_was f_kept f_tape f_order f_rest f_ways f_costs f_bandBest f_found f_drawn f_joined f_out ++ R))) (Q : Int32 × (Nat → Int32) → Prop) (hq : Q (FX12_exchanges f_order p q)) : xC G mX12_exchanges 0 0 0 [.ref L, .int (nI p), .int (nI q)] M (fun v M2 => ∃ o : Int32 × (Nat → Int32), v = none ∧ Q o ∧ M2 = (P ++ (MDL L i_keptMany i_taped i_faultKind i_faultPlace i_spot i_begin i_token i_value i_bad i_full i_bandRows i_bandFirsts i_outs f_state f_was f_kept f_tape o.2 f_rest f_ways f_costs f_bandBest f_found f_drawn f_joined f_out ++ R))) := by
  subst hM
  unfold FX12_exchanges at hq
  refine xC.of (by decide) (Nat.le_of_ble_eq_true rfl) ?_
  show xW _ _ _ _ 0 [(0, .ref L), (1, .int (nI p)), (2, .int (nI q))] [] _ 0 0
  refine xi_aload_n 0 dX12_exchanges_0 rfl ?_
  refine xi_get (f := 13) dX12_exchanges_1 (xpg0 hP rfl) rfl ok_9 (by decide) w_1021 rfl ?_
  refine xi_iload_n 1 dX12_exchanges_4 rfl ?_
  have o1 := (hR p (by omega)).2
  refine xi_iaload (v := (nI ((f_order p).toNatClampNeg))) dX12_exchanges_5 (xpg hP rfl) (vp_in_nI (by omega) (by decide)) (by rw [nI_clamp (by omega)]; exact (hR p (by omega)).1) ?_
  refine xi_istore_n (lv' := [(3, .int (nI ((f_order p).toNatClampNeg))), (0, .ref L), (1, .int (nI p)), (2, .int (nI q))]) dX12_exchanges_6 (by decide) rfl ?_
  refine xi_aload_n 1 dX12_exchanges_7 rfl ?_
  refine xi_get (f := 13) dX12_exchanges_8 (xpg0 hP rfl) rfl ok_9 (by decide) w_1021 rfl ?_
  refine xi_iload_n 2 dX12_exchanges_11 rfl ?_
  refine xi_aload_n 1 dX12_exchanges_12 rfl ?_
  refine xi_get (f := 13) dX12_exchanges_13 (xpg0 hP rfl) rfl ok_9 (by decide) w_1021 rfl ?_
  refine xi_iload_n 3 dX12_exchanges_16 rfl ?_
  have o2 := (hR q (by omega)).2
  refine xi_iaload (v := (nI ((f_order q).toNatClampNeg))) dX12_exchanges_17 (xpg hP rfl) (vp_in_nI (by omega) (by decide)) (by rw [nI_clamp (by omega)]; exact (hR q (by omega)).1) ?_
  refine xi_iastore (M' := (P ++ (MDL L i_keptMany i_taped i_faultKind i_faultPlace i_spot i_begin i_token i_value i_bad i_full i_bandRows i_bandFirsts i_outs f_state f_was f_kept f_tape (upd f_order p ((nI ((f_order q).toNatClampNeg)))) f_rest f_ways f_costs f_bandBest f_found f_drawn f_joined f_out ++ R))) dX12_exchanges_18 (xpg hP rfl) (vp_in_nI (by omega) (by decide)) (by rw [nI_clamp (by omega)]; exact (xps hP)) ?_
  refine xi_aload_n 1 dX12_exchanges_19 rfl ?_
  refine xi_get (f := 13) dX12_exchanges_20 (xpg0 hP rfl) rfl ok_9 (by decide) w_1021 rfl ?_
  refine xi_iload_n 3 dX12_exchanges_23 rfl ?_
  refine xi_iload_n 0 dX12_exchanges_24 rfl ?_
  refine xi_iastore (M' := (P ++ (MDL L i_keptMany i_taped i_faultKind i_faultPlace i_spot i_begin i_token i_value i_bad i_full i_bandRows i_bandFirsts i_outs f_state f_was f_kept f_tape (upd (upd f_order p ((nI ((f_order q).toNatClampNeg)))) q ((nI ((f_order p).toNatClampNeg)))) f_rest f_ways f_costs f_bandBest f_found f_drawn f_joined f_out ++ R))) dX12_exchanges_25 (xpg hP rfl) (vp_in_nI (by omega) (by decide)) (by rw [nI_clamp (by omega)]; exact (xps hP)) ?_
  exact xi_vret dX12_exchanges_26 rfl (Nat.le_of_ble_eq_true rfl) (Nat.le_of_ble_eq_true rfl) ⟨_, rfl, hq, rfl⟩
def FX12_cost (f_state : Nat → Int32) (z : Nat) (m : Int32) (x : Int32) (p : Nat) : Int32 := (if m = (5 : Int32) then (FX12_ones ((FX12_neighbours f_state z x p))) else (if m = (6 : Int32) then (FX12_fillOf f_state z x p) else (if (x ||| ((1 : Int32) <<< ((nI p) &&& 31))) = (((1 : Int32) <<< ((nI ((f_state (91 * z)).toNatClampNeg)) &&& 31)) - (1 : Int32)) then (0 : Int32) else (if m = (1 : Int32) then (FX12_splitOf f_state z ((x ||| ((1 : Int32) <<< ((nI p) &&& 31)))) ((1 : Int32))) else (if m = (4 : Int32) then (FX12_splitOf f_state z ((x ||| ((1 : Int32) <<< ((nI p) &&& 31)))) ((2 : Int32))) else (FX12_splitOf f_state z ((x ||| ((1 : Int32) <<< ((nI p) &&& 31)))) ((0 : Int32))))))))
set_option maxHeartbeats 4000000 in
set_option maxRecDepth 100000 in
theorem FX12_cost_ok (G : xG) {P R : xMem} {L : Nat} (hP : P.length = L) (i_keptMany : Nat) (i_taped : Nat) (i_faultKind : Int32) (i_faultPlace : Int32) (i_spot : Nat) (i_begin : Nat) (i_token : Int32) (i_value : Int32) (i_bad : Int32) (i_full : Nat) (i_bandRows : Int32) (i_bandFirsts : Int32) (i_outs : Nat) (f_state : Nat → Int32) (f_was : Nat → Int32) (f_kept : Nat → Int32) (f_tape : Nat → Int32) (f_order : Nat → Int32) (f_rest : Nat → Int32) (f_ways : Nat → Int32) (f_costs : Nat → Int32) (f_bandBest : Nat → Int32) (f_found : Nat → Int32) (f_drawn : Nat → Int32) (f_joined : Nat → Int32) (f_out : Nat → Int32) (bi_keptMany : i_keptMany ≤ 10) (bi_taped : i_taped ≤ 400) (bi_spot : i_spot ≤ 400) (bi_begin : i_begin ≤ 400) (bi_full : i_full ≤ 511) (bi_outs : i_outs ≤ 400) (hG : GO f_state) (z : Nat) (bz : z < 3) (m : Int32) (x : Int32) (p : Nat) (bp : p < 9) (M : xMem) (hM : M = (P ++ (MDL L i_keptMany i_taped i_faultKind i_faultPlace i_spot i_begin i_token i_value i_bad i_full i_bandRows i_bandFirsts i_outs f_state f_was f_kept f_tape f_order f_rest f_ways f_costs f_bandBest f_found f_drawn f_joined f_out ++ R))) (Q : Int32 → Prop) (hq : Q (FX12_cost f_state z m x p)) : xC G mX12_cost 4 0 0 [.ref L, .int (nI z), .int m, .int x, .int (nI p)] M (fun v M2 => ∃ o : Int32, v = some (.int o) ∧ Q o ∧ M2 = (P ++ (MDL L i_keptMany i_taped i_faultKind i_faultPlace i_spot i_begin i_token i_value i_bad i_full i_bandRows i_bandFirsts i_outs f_state f_was f_kept f_tape f_order f_rest f_ways f_costs f_bandBest f_found f_drawn f_joined f_out ++ R))) := by
  subst hM
  unfold FX12_cost at hq
  refine xC.of (by decide) (Nat.le_of_ble_eq_true rfl) ?_
  show xW _ _ _ _ 0 [(0, .ref L), (1, .int (nI z)), (2, .int m), (3, .int x), (4, .int (nI p))] [] _ 0 0
  refine xi_iload_n 2 dX12_cost_0 rfl ?_
  refine xi_iconst (v := 5) dX12_cost_1 (by decide) ?_
  refine xi_icmp_ne (tgt := 17) dX12_cost_2 (by decide) (fun c1 => ?_) (fun c1 => ?_)
  · rw [if_neg c1] at hq
    refine xi_iload_n 2 dX12_cost_17 rfl ?_
    refine xi_bipush (v := 6) dX12_cost_18 (by decide) ?_
    refine xi_icmp_ne (tgt := 32) dX12_cost_20 (by decide) (fun c2 => ?_) (fun c2 => ?_)
    · rw [if_neg c2] at hq
      refine xi_iload_n 3 dX12_cost_32 rfl ?_
      refine xi_iconst (v := 1) dX12_cost_33 (by decide) ?_
      refine xi_iload 4 dX12_cost_34 rfl ?_
      refine xi_ishl (v := ((1 : Int32) <<< ((nI p) &&& 31))) dX12_cost_36 rfl ?_
      refine xi_ior (v := (x ||| ((1 : Int32) <<< ((nI p) &&& 31)))) dX12_cost_37 rfl ?_
      refine xi_istore (lv' := [(5, .int (x ||| ((1 : Int32) <<< ((nI p) &&& 31)))), (0, .ref L), (1, .int (nI z)), (2, .int m), (3, .int x), (4, .int (nI p))]) dX12_cost_38 (by decide) rfl ?_
      refine xi_iload 0 dX12_cost_40 rfl ?_
      refine xi_iconst (v := 1) dX12_cost_42 (by decide) ?_
      refine xi_aload_n 1 dX12_cost_43 rfl ?_
      refine xi_iload_n 2 dX12_cost_44 rfl ?_
      refine xi_callV (as := [.int (nI z)]) (rest := [.int 1, .int (x ||| ((1 : Int32) <<< ((nI p) &&& 31)))]) dX12_cost_45 (FX12_points_ok G hP i_keptMany i_taped i_faultKind i_faultPlace i_spot i_begin i_token i_value i_bad i_full i_bandRows i_bandFirsts i_outs f_state f_was f_kept f_tape f_order f_rest f_ways f_costs f_bandBest f_found f_drawn f_joined f_out (by omega) (by omega) (by omega) (by omega) (by omega) (by omega) z (by omega) _ rfl (fun r => r = nI ((f_state (91 * z)).toNatClampNeg)) ((hG z (by omega)).1.1)) mkX12_points w_1108 ws_36 w_1106 (xpg0 hP rfl) rfl rfl rfl rfl (Nat.le_of_ble_eq_true rfl) (Nat.le_of_ble_eq_true rfl) (Nat.le_of_ble_eq_true rfl) (Nat.le_of_ble_eq_true rfl) (Nat.le_of_ble_eq_true rfl) ?_
      intro v M2 hz
      obtain ⟨_, rfl, rfl, rfl⟩ := hz
      show xW _ _ _ _ 48 _ [.int (nI ((f_state (91 * z)).toNatClampNeg)), .int 1, .int (x ||| ((1 : Int32) <<< ((nI p) &&& 31)))] (P ++ (MDL L i_keptMany i_taped i_faultKind i_faultPlace i_spot i_begin i_token i_value i_bad i_full i_bandRows i_bandFirsts i_outs f_state f_was f_kept f_tape f_order f_rest f_ways f_costs f_bandBest f_found f_drawn f_joined f_out ++ R)) _ _
      have o3 := (hG z (by omega)).1.2
      refine xi_ishl (v := ((1 : Int32) <<< ((nI ((f_state (91 * z)).toNatClampNeg)) &&& 31))) dX12_cost_48 rfl ?_
      refine xi_iconst (v := 1) dX12_cost_49 (by decide) ?_
      refine xi_isub (v := (((1 : Int32) <<< ((nI ((f_state (91 * z)).toNatClampNeg)) &&& 31)) - (1 : Int32))) dX12_cost_50 rfl ?_
      refine xi_icmp_ne (tgt := 58) dX12_cost_51 (by decide) (fun c4 => ?_) (fun c4 => ?_)
      · rw [if_neg c4] at hq
        refine xi_aload_n 1 dX12_cost_58 rfl ?_
        refine xi_iload_n 2 dX12_cost_59 rfl ?_
        refine xi_iload 0 dX12_cost_60 rfl ?_
        refine xi_iload_n 3 dX12_cost_62 rfl ?_
        refine xi_iconst (v := 1) dX12_cost_63 (by decide) ?_
        refine xi_icmp_ne (tgt := 71) dX12_cost_64 (by decide) (fun c5 => ?_) (fun c5 => ?_)
        · rw [if_neg c5] at hq
          refine xi_iload_n 3 dX12_cost_71 rfl ?_
          refine xi_iconst (v := 4) dX12_cost_72 (by decide) ?_
          refine xi_icmp_ne (tgt := 80) dX12_cost_73 (by decide) (fun c6 => ?_) (fun c6 => ?_)
          · rw [if_neg c6] at hq
            refine xi_iconst (v := 0) dX12_cost_80 (by decide) ?_
            refine xi_callV (as := [.int (nI z), .int (x ||| ((1 : Int32) <<< ((nI p) &&& 31))), .int 0]) (rest := []) dX12_cost_81 (FX12_splitOf_ok G hP i_keptMany i_taped i_faultKind i_faultPlace i_spot i_begin i_token i_value i_bad i_full i_bandRows i_bandFirsts i_outs f_state f_was f_kept f_tape f_order f_rest f_ways f_costs f_bandBest f_found f_drawn f_joined f_out (by omega) (by omega) (by omega) (by omega) (by omega) (by omega) hG z (by omega) ((x ||| ((1 : Int32) <<< ((nI p) &&& 31)))) ((0 : Int32)) _ rfl (fun r => r = FX12_splitOf f_state z ((x ||| ((1 : Int32) <<< ((nI p) &&& 31)))) ((0 : Int32))) rfl) mkX12_splitOf w_1316 ws_72 w_1314 (xpg0 hP rfl) rfl rfl rfl rfl (Nat.le_of_ble_eq_true rfl) (Nat.le_of_ble_eq_true rfl) (Nat.le_of_ble_eq_true rfl) (Nat.le_of_ble_eq_true rfl) (Nat.le_of_ble_eq_true rfl) ?_
            intro v M2 hz
            obtain ⟨_, rfl, rfl, rfl⟩ := hz
            show xW _ _ _ _ 84 _ [.int (FX12_splitOf f_state z ((x ||| ((1 : Int32) <<< ((nI p) &&& 31)))) ((0 : Int32)))] (P ++ (MDL L i_keptMany i_taped i_faultKind i_faultPlace i_spot i_begin i_token i_value i_bad i_full i_bandRows i_bandFirsts i_outs f_state f_was f_kept f_tape f_order f_rest f_ways f_costs f_bandBest f_found f_drawn f_joined f_out ++ R)) _ _
            exact xi_iret dX12_cost_84 rfl rfl (Nat.le_of_ble_eq_true rfl) (Nat.le_of_ble_eq_true rfl) ⟨_, rfl, hq, rfl⟩
          · rw [if_pos c6] at hq
            refine xi_iconst (v := 2) dX12_cost_76 (by decide) ?_
            refine xi_goto (tgt := 81) dX12_cost_77 (by decide) ?_
            refine xi_callV (as := [.int (nI z), .int (x ||| ((1 : Int32) <<< ((nI p) &&& 31))), .int 2]) (rest := []) dX12_cost_81 (FX12_splitOf_ok G hP i_keptMany i_taped i_faultKind i_faultPlace i_spot i_begin i_token i_value i_bad i_full i_bandRows i_bandFirsts i_outs f_state f_was f_kept f_tape f_order f_rest f_ways f_costs f_bandBest f_found f_drawn f_joined f_out (by omega) (by omega) (by omega) (by omega) (by omega) (by omega) hG z (by omega) ((x ||| ((1 : Int32) <<< ((nI p) &&& 31)))) ((2 : Int32)) _ rfl (fun r => r = FX12_splitOf f_state z ((x ||| ((1 : Int32) <<< ((nI p) &&& 31)))) ((2 : Int32))) rfl) mkX12_splitOf w_1316 ws_72 w_1314 (xpg0 hP rfl) rfl rfl rfl rfl (Nat.le_of_ble_eq_true rfl) (Nat.le_of_ble_eq_true rfl) (Nat.le_of_ble_eq_true rfl) (Nat.le_of_ble_eq_true rfl) (Nat.le_of_ble_eq_true rfl) ?_
            intro v M2 hz
            obtain ⟨_, rfl, rfl, rfl⟩ := hz
            show xW _ _ _ _ 84 _ [.int (FX12_splitOf f_state z ((x ||| ((1 : Int32) <<< ((nI p) &&& 31)))) ((2 : Int32)))] (P ++ (MDL L i_keptMany i_taped i_faultKind i_faultPlace i_spot i_begin i_token i_value i_bad i_full i_bandRows i_bandFirsts i_outs f_state f_was f_kept f_tape f_order f_rest f_ways f_costs f_bandBest f_found f_drawn f_joined f_out ++ R)) _ _
            exact xi_iret dX12_cost_84 rfl rfl (Nat.le_of_ble_eq_true rfl) (Nat.le_of_ble_eq_true rfl) ⟨_, rfl, hq, rfl⟩
        · rw [if_pos c5] at hq
          refine xi_iconst (v := 1) dX12_cost_67 (by decide) ?_
          refine xi_goto (tgt := 81) dX12_cost_68 (by decide) ?_
          refine xi_callV (as := [.int (nI z), .int (x ||| ((1 : Int32) <<< ((nI p) &&& 31))), .int 1]) (rest := []) dX12_cost_81 (FX12_splitOf_ok G hP i_keptMany i_taped i_faultKind i_faultPlace i_spot i_begin i_token i_value i_bad i_full i_bandRows i_bandFirsts i_outs f_state f_was f_kept f_tape f_order f_rest f_ways f_costs f_bandBest f_found f_drawn f_joined f_out (by omega) (by omega) (by omega) (by omega) (by omega) (by omega) hG z (by omega) ((x ||| ((1 : Int32) <<< ((nI p) &&& 31)))) ((1 : Int32)) _ rfl (fun r => r = FX12_splitOf f_state z ((x ||| ((1 : Int32) <<< ((nI p) &&& 31)))) ((1 : Int32))) rfl) mkX12_splitOf w_1316 ws_72 w_1314 (xpg0 hP rfl) rfl rfl rfl rfl (Nat.le_of_ble_eq_true rfl) (Nat.le_of_ble_eq_true rfl) (Nat.le_of_ble_eq_true rfl) (Nat.le_of_ble_eq_true rfl) (Nat.le_of_ble_eq_true rfl) ?_
          intro v M2 hz
          obtain ⟨_, rfl, rfl, rfl⟩ := hz
          show xW _ _ _ _ 84 _ [.int (FX12_splitOf f_state z ((x ||| ((1 : Int32) <<< ((nI p) &&& 31)))) ((1 : Int32)))] (P ++ (MDL L i_keptMany i_taped i_faultKind i_faultPlace i_spot i_begin i_token i_value i_bad i_full i_bandRows i_bandFirsts i_outs f_state f_was f_kept f_tape f_order f_rest f_ways f_costs f_bandBest f_found f_drawn f_joined f_out ++ R)) _ _
          exact xi_iret dX12_cost_84 rfl rfl (Nat.le_of_ble_eq_true rfl) (Nat.le_of_ble_eq_true rfl) ⟨_, rfl, hq, rfl⟩
      · rw [if_pos c4] at hq
        refine xi_iconst (v := 0) dX12_cost_54 (by decide) ?_
        refine xi_goto (tgt := 84) dX12_cost_55 (by decide) ?_
        exact xi_iret dX12_cost_84 rfl rfl (Nat.le_of_ble_eq_true rfl) (Nat.le_of_ble_eq_true rfl) ⟨_, rfl, hq, rfl⟩
    · rw [if_pos c2] at hq
      refine xi_aload_n 0 dX12_cost_23 rfl ?_
      refine xi_iload_n 1 dX12_cost_24 rfl ?_
      refine xi_iload_n 3 dX12_cost_25 rfl ?_
      refine xi_iload 4 dX12_cost_26 rfl ?_
      refine xi_callV (as := [.int (nI z), .int x, .int (nI p)]) (rest := []) dX12_cost_28 (FX12_fillOf_ok G hP i_keptMany i_taped i_faultKind i_faultPlace i_spot i_begin i_token i_value i_bad i_full i_bandRows i_bandFirsts i_outs f_state f_was f_kept f_tape f_order f_rest f_ways f_costs f_bandBest f_found f_drawn f_joined f_out (by omega) (by omega) (by omega) (by omega) (by omega) (by omega) hG z (by omega) x p (by omega) _ rfl (fun r => r = FX12_fillOf f_state z x p) rfl) mkX12_fillOf w_1312 ws_71 w_1310 (xpg0 hP rfl) rfl rfl rfl rfl (Nat.le_of_ble_eq_true rfl) (Nat.le_of_ble_eq_true rfl) (Nat.le_of_ble_eq_true rfl) (Nat.le_of_ble_eq_true rfl) (Nat.le_of_ble_eq_true rfl) ?_
      intro v M2 hz
      obtain ⟨_, rfl, rfl, rfl⟩ := hz
      show xW _ _ _ _ 31 _ [.int (FX12_fillOf f_state z x p)] (P ++ (MDL L i_keptMany i_taped i_faultKind i_faultPlace i_spot i_begin i_token i_value i_bad i_full i_bandRows i_bandFirsts i_outs f_state f_was f_kept f_tape f_order f_rest f_ways f_costs f_bandBest f_found f_drawn f_joined f_out ++ R)) _ _
      exact xi_iret dX12_cost_31 rfl rfl (Nat.le_of_ble_eq_true rfl) (Nat.le_of_ble_eq_true rfl) ⟨_, rfl, hq, rfl⟩
  · rw [if_pos c1] at hq
    refine xi_aload_n 0 dX12_cost_5 rfl ?_
    refine xi_iload_n 1 dX12_cost_6 rfl ?_
    refine xi_iload_n 3 dX12_cost_7 rfl ?_
    refine xi_iload 4 dX12_cost_8 rfl ?_
    refine xi_callV (as := [.int (nI z), .int x, .int (nI p)]) (rest := []) dX12_cost_10 (FX12_neighbours_ok G hP i_keptMany i_taped i_faultKind i_faultPlace i_spot i_begin i_token i_value i_bad i_full i_bandRows i_bandFirsts i_outs f_state f_was f_kept f_tape f_order f_rest f_ways f_costs f_bandBest f_found f_drawn f_joined f_out (by omega) (by omega) (by omega) (by omega) (by omega) (by omega) hG z (by omega) x p (by omega) _ rfl (fun r => r = FX12_neighbours f_state z x p) rfl) mkX12_neighbours w_1308 ws_70 w_1306 (xpg0 hP rfl) rfl rfl rfl rfl (Nat.le_of_ble_eq_true rfl) (Nat.le_of_ble_eq_true rfl) (Nat.le_of_ble_eq_true rfl) (Nat.le_of_ble_eq_true rfl) (Nat.le_of_ble_eq_true rfl) ?_
    intro v M2 hz
    obtain ⟨_, rfl, rfl, rfl⟩ := hz
    show xW _ _ _ _ 13 _ [.int (FX12_neighbours f_state z x p)] (P ++ (MDL L i_keptMany i_taped i_faultKind i_faultPlace i_spot i_begin i_token i_value i_bad i_full i_bandRows i_bandFirsts i_outs f_state f_was f_kept f_tape f_order f_rest f_ways f_costs f_bandBest f_found f_drawn f_joined f_out ++ R)) _ _
    refine xi_callS (as := [.int (FX12_neighbours f_state z x p)]) (rest := []) dX12_cost_13 (FX12_ones_ok G ((FX12_neighbours f_state z x p)) (fun r => r = FX12_ones ((FX12_neighbours f_state z x p))) rfl) mkX12_ones w_1195 w_1194 rfl rfl (Nat.le_of_ble_eq_true rfl) (Nat.le_of_ble_eq_true rfl) (Nat.le_of_ble_eq_true rfl) (Nat.le_of_ble_eq_true rfl) (Nat.le_of_ble_eq_true rfl) ?_
    intro v M2 hz
    obtain ⟨_, rfl, rfl, hM2⟩ := hz
    rw [hM2]
    show xW _ _ _ _ 16 _ [.int (FX12_ones ((FX12_neighbours f_state z x p)))] (P ++ (MDL L i_keptMany i_taped i_faultKind i_faultPlace i_spot i_begin i_token i_value i_bad i_full i_bandRows i_bandFirsts i_outs f_state f_was f_kept f_tape f_order f_rest f_ways f_costs f_bandBest f_found f_drawn f_joined f_out ++ R)) _ _
    exact xi_iret dX12_cost_16 rfl rfl (Nat.le_of_ble_eq_true rfl) (Nat.le_of_ble_eq_true rfl) ⟨_, rfl, hq, rfl⟩
def LX12_valueOf_19 (f_state : Nat → Int32) (f_order : Nat → Int32) (n1 : Nat) (w2 : Int32) (K : Int32 → Int32 → Int32) : Nat → Nat → Int32 → Int32 → Int32
  | 0, _, v3, v4 => K v3 v4
  | k + 1, j, v3, v4 => (LX12_valueOf_19 f_state f_order n1 w2 K k (j + 1) ((FX12_both w2 v3 ((FX12_cost f_state n1 w2 v4 ((f_order j).toNatClampNeg))))) ((v4 ||| ((1 : Int32) <<< ((nI ((f_order j).toNatClampNeg)) &&& 31)))))
set_option maxHeartbeats 4000000 in
set_option maxRecDepth 100000 in
theorem LX12_valueOf_19_s (G : xG) {P R : xMem} {L : Nat} (hP : P.length = L) (i_keptMany : Nat) (i_taped : Nat) (i_faultKind : Int32) (i_faultPlace : Int32) (i_spot : Nat) (i_begin : Nat) (i_token : Int32) (i_value : Int32) (i_bad : Int32) (i_full : Nat) (i_bandRows : Int32) (i_bandFirsts : Int32) (i_outs : Nat) (f_state : Nat → Int32) (f_was : Nat → Int32) (f_kept : Nat → Int32) (f_tape : Nat → Int32) (f_order : Nat → Int32) (f_rest : Nat → Int32) (f_ways : Nat → Int32) (f_costs : Nat → Int32) (f_bandBest : Nat → Int32) (f_found : Nat → Int32) (f_drawn : Nat → Int32) (f_joined : Nat → Int32) (f_out : Nat → Int32) (bi_keptMany : i_keptMany ≤ 10) (bi_taped : i_taped ≤ 400) (bi_spot : i_spot ≤ 400) (bi_begin : i_begin ≤ 400) (bi_full : i_full ≤ 511) (bi_outs : i_outs ≤ 400) (hG : GO f_state) (hR : RO f_order) (n1 : Nat) (bn1 : n1 < 3) (w2 : Int32) (Q : Int32 → Prop) (K : Int32 → Int32 → Int32) (HE : ∀ (v3 : Int32) (v4 : Int32), Q (K v3 v4) → xW G mX12_valueOf (xrm 5 0 0) (xQ G (fun v M2 => ∃ o : Int32, v = some (.int o) ∧ Q o ∧ M2 = (P ++ (MDL L i_keptMany i_taped i_faultKind i_faultPlace i_spot i_begin i_token i_value i_bad i_full i_bandRows i_bandFirsts i_outs f_state f_was f_kept f_tape f_order f_rest f_ways f_costs f_bandBest f_found f_drawn f_joined f_out ++ R))) 0 0) 70 [(3, .int v3)] [] (P ++ (MDL L i_keptMany i_taped i_faultKind i_faultPlace i_spot i_begin i_token i_value i_bad i_full i_bandRows i_bandFirsts i_outs f_state f_was f_kept f_tape f_order f_rest f_ways f_costs f_bandBest f_found f_drawn f_joined f_out ++ R)) 0 0) :
    ∀ (k j : Nat) (v3 : Int32) (v4 : Int32), (f_state (91 * n1)).toNatClampNeg - j = k → j < 100000 → Q (LX12_valueOf_19 f_state f_order n1 w2 K k j v3 v4) → xW G mX12_valueOf (xrm 5 0 0) (xQ G (fun v M2 => ∃ o : Int32, v = some (.int o) ∧ Q o ∧ M2 = (P ++ (MDL L i_keptMany i_taped i_faultKind i_faultPlace i_spot i_begin i_token i_value i_bad i_full i_bandRows i_bandFirsts i_outs f_state f_was f_kept f_tape f_order f_rest f_ways f_costs f_bandBest f_found f_drawn f_joined f_out ++ R))) 0 0) 19 [(0, .ref L), (1, .int (nI n1)), (2, .int w2), (3, .int v3), (4, .int v4), (5, .int (nI j))] [] (P ++ (MDL L i_keptMany i_taped i_faultKind i_faultPlace i_spot i_begin i_token i_value i_bad i_full i_bandRows i_bandFirsts i_outs f_state f_was f_kept f_tape f_order f_rest f_ways f_costs f_bandBest f_found f_drawn f_joined f_out ++ R)) 0 0 := by
  intro k
  induction k with
  | zero =>
    intro j v3 v4 hj hj2 hq
    rw [LX12_valueOf_19] at hq
    refine xi_iload 5 dX12_valueOf_19 rfl ?_
    refine xi_aload_n 0 dX12_valueOf_21 rfl ?_
    refine xi_iload_n 1 dX12_valueOf_22 rfl ?_
    refine xi_callV (as := [.int (nI n1)]) (rest := [.int (nI j)]) dX12_valueOf_23 (FX12_points_ok G hP i_keptMany i_taped i_faultKind i_faultPlace i_spot i_begin i_token i_value i_bad i_full i_bandRows i_bandFirsts i_outs f_state f_was f_kept f_tape f_order f_rest f_ways f_costs f_bandBest f_found f_drawn f_joined f_out (by omega) (by omega) (by omega) (by omega) (by omega) (by omega) n1 (by omega) _ rfl (fun r => r = nI ((f_state (91 * n1)).toNatClampNeg)) ((hG n1 (by omega)).1.1)) mkX12_points w_1108 ws_36 w_1106 (xpg0 hP rfl) rfl rfl rfl rfl (Nat.le_of_ble_eq_true rfl) (Nat.le_of_ble_eq_true rfl) (Nat.le_of_ble_eq_true rfl) (Nat.le_of_ble_eq_true rfl) (Nat.le_of_ble_eq_true rfl) ?_
    intro v M2 hz
    obtain ⟨_, rfl, rfl, rfl⟩ := hz
    show xW _ _ _ _ 26 _ [.int (nI ((f_state (91 * n1)).toNatClampNeg)), .int (nI j)] (P ++ (MDL L i_keptMany i_taped i_faultKind i_faultPlace i_spot i_begin i_token i_value i_bad i_full i_bandRows i_bandFirsts i_outs f_state f_was f_kept f_tape f_order f_rest f_ways f_costs f_bandBest f_found f_drawn f_joined f_out ++ R)) _ _
    have o5 := (hG n1 (by omega)).1.2
    refine xi_icmp_ge_t (tgt := 70) dX12_valueOf_26 (by decide) (nI_le (a := (f_state (91 * n1)).toNatClampNeg) (b := j) (by omega) (by omega)) ?_
    refine xi_sub (lv' := [(3, .int v3)]) [3] rfl ?_
    exact HE v3 v4 hq
  | succ k ih =>
    intro j v3 v4 hj hj2 hq
    rw [LX12_valueOf_19] at hq
    refine xi_iload 5 dX12_valueOf_19 rfl ?_
    refine xi_aload_n 0 dX12_valueOf_21 rfl ?_
    refine xi_iload_n 1 dX12_valueOf_22 rfl ?_
    refine xi_callV (as := [.int (nI n1)]) (rest := [.int (nI j)]) dX12_valueOf_23 (FX12_points_ok G hP i_keptMany i_taped i_faultKind i_faultPlace i_spot i_begin i_token i_value i_bad i_full i_bandRows i_bandFirsts i_outs f_state f_was f_kept f_tape f_order f_rest f_ways f_costs f_bandBest f_found f_drawn f_joined f_out (by omega) (by omega) (by omega) (by omega) (by omega) (by omega) n1 (by omega) _ rfl (fun r => r = nI ((f_state (91 * n1)).toNatClampNeg)) ((hG n1 (by omega)).1.1)) mkX12_points w_1108 ws_36 w_1106 (xpg0 hP rfl) rfl rfl rfl rfl (Nat.le_of_ble_eq_true rfl) (Nat.le_of_ble_eq_true rfl) (Nat.le_of_ble_eq_true rfl) (Nat.le_of_ble_eq_true rfl) (Nat.le_of_ble_eq_true rfl) ?_
    intro v M2 hz
    obtain ⟨_, rfl, rfl, rfl⟩ := hz
    show xW _ _ _ _ 26 _ [.int (nI ((f_state (91 * n1)).toNatClampNeg)), .int (nI j)] (P ++ (MDL L i_keptMany i_taped i_faultKind i_faultPlace i_spot i_begin i_token i_value i_bad i_full i_bandRows i_bandFirsts i_outs f_state f_was f_kept f_tape f_order f_rest f_ways f_costs f_bandBest f_found f_drawn f_joined f_out ++ R)) _ _
    have o2 := (hG n1 (by omega)).1.2
    refine xi_icmp_ge_f (tgt := 70) dX12_valueOf_26 (by decide) (nI_ge (a := j) (b := (f_state (91 * n1)).toNatClampNeg) (by omega) (by omega)) ?_
    refine xi_iload_n 2 dX12_valueOf_29 rfl ?_
    refine xi_iload_n 3 dX12_valueOf_30 rfl ?_
    refine xi_aload_n 0 dX12_valueOf_31 rfl ?_
    refine xi_iload_n 1 dX12_valueOf_32 rfl ?_
    refine xi_iload_n 2 dX12_valueOf_33 rfl ?_
    refine xi_iload 4 dX12_valueOf_34 rfl ?_
    refine xi_aload_n 0 dX12_valueOf_36 rfl ?_
    refine xi_get (f := 13) dX12_valueOf_37 (xpg0 hP rfl) rfl ok_9 (by decide) w_1021 rfl ?_
    refine xi_iload 5 dX12_valueOf_40 rfl ?_
    have o3 := (hR j (by omega)).2
    refine xi_iaload (v := (nI ((f_order j).toNatClampNeg))) dX12_valueOf_42 (xpg hP rfl) (vp_in_nI (by omega) (by decide)) (by rw [nI_clamp (by omega)]; exact (hR j (by omega)).1) ?_
    refine xi_callV (as := [.int (nI n1), .int w2, .int v4, .int (nI ((f_order j).toNatClampNeg))]) (rest := [.int v3, .int w2]) dX12_valueOf_43 (FX12_cost_ok G hP i_keptMany i_taped i_faultKind i_faultPlace i_spot i_begin i_token i_value i_bad i_full i_bandRows i_bandFirsts i_outs f_state f_was f_kept f_tape f_order f_rest f_ways f_costs f_bandBest f_found f_drawn f_joined f_out (by omega) (by omega) (by omega) (by omega) (by omega) (by omega) hG n1 (by omega) w2 v4 ((f_order j).toNatClampNeg) (by omega) _ rfl (fun r => r = FX12_cost f_state n1 w2 v4 ((f_order j).toNatClampNeg)) rfl) mkX12_cost w_1304 ws_69 w_1302 (xpg0 hP rfl) rfl rfl rfl rfl (Nat.le_of_ble_eq_true rfl) (Nat.le_of_ble_eq_true rfl) (Nat.le_of_ble_eq_true rfl) (Nat.le_of_ble_eq_true rfl) (Nat.le_of_ble_eq_true rfl) ?_
    intro v M2 hz
    obtain ⟨_, rfl, rfl, rfl⟩ := hz
    show xW _ _ _ _ 46 _ [.int (FX12_cost f_state n1 w2 v4 ((f_order j).toNatClampNeg)), .int v3, .int w2] (P ++ (MDL L i_keptMany i_taped i_faultKind i_faultPlace i_spot i_begin i_token i_value i_bad i_full i_bandRows i_bandFirsts i_outs f_state f_was f_kept f_tape f_order f_rest f_ways f_costs f_bandBest f_found f_drawn f_joined f_out ++ R)) _ _
    refine xi_callS (as := [.int w2, .int v3, .int (FX12_cost f_state n1 w2 v4 ((f_order j).toNatClampNeg))]) (rest := []) dX12_valueOf_46 (FX12_both_ok G w2 v3 ((FX12_cost f_state n1 w2 v4 ((f_order j).toNatClampNeg))) (fun r => r = FX12_both w2 v3 ((FX12_cost f_state n1 w2 v4 ((f_order j).toNatClampNeg)))) rfl) mkX12_both w_1319 w_1318 rfl rfl (Nat.le_of_ble_eq_true rfl) (Nat.le_of_ble_eq_true rfl) (Nat.le_of_ble_eq_true rfl) (Nat.le_of_ble_eq_true rfl) (Nat.le_of_ble_eq_true rfl) ?_
    intro v M2 hz
    obtain ⟨_, rfl, rfl, hM2⟩ := hz
    rw [hM2]
    show xW _ _ _ _ 49 _ [.int (FX12_both w2 v3 ((FX12_cost f_state n1 w2 v4 ((f_order j).toNatClampNeg))))] (P ++ (MDL L i_keptMany i_taped i_faultKind i_faultPlace i_spot i_begin i_token i_value i_bad i_full i_bandRows i_bandFirsts i_outs f_state f_was f_kept f_tape f_order f_rest f_ways f_costs f_bandBest f_found f_drawn f_joined f_out ++ R)) _ _
    refine xi_istore_n (lv' := [(3, .int (FX12_both w2 v3 ((FX12_cost f_state n1 w2 v4 ((f_order j).toNatClampNeg))))), (0, .ref L), (1, .int (nI n1)), (2, .int w2), (4, .int v4), (5, .int (nI j))]) dX12_valueOf_49 (by decide) rfl ?_
    refine xi_iload 4 dX12_valueOf_50 rfl ?_
    refine xi_iconst (v := 1) dX12_valueOf_52 (by decide) ?_
    refine xi_aload_n 1 dX12_valueOf_53 rfl ?_
    refine xi_get (f := 13) dX12_valueOf_54 (xpg0 hP rfl) rfl ok_9 (by decide) w_1021 rfl ?_
    refine xi_iload 5 dX12_valueOf_57 rfl ?_
    have o4 := (hR j (by omega)).2
    refine xi_iaload (v := (nI ((f_order j).toNatClampNeg))) dX12_valueOf_59 (xpg hP rfl) (vp_in_nI (by omega) (by decide)) (by rw [nI_clamp (by omega)]; exact (hR j (by omega)).1) ?_
    refine xi_ishl (v := ((1 : Int32) <<< ((nI ((f_order j).toNatClampNeg)) &&& 31))) dX12_valueOf_60 rfl ?_
    refine xi_ior (v := (v4 ||| ((1 : Int32) <<< ((nI ((f_order j).toNatClampNeg)) &&& 31)))) dX12_valueOf_61 rfl ?_
    refine xi_istore (lv' := [(4, .int (v4 ||| ((1 : Int32) <<< ((nI ((f_order j).toNatClampNeg)) &&& 31)))), (3, .int (FX12_both w2 v3 ((FX12_cost f_state n1 w2 v4 ((f_order j).toNatClampNeg))))), (0, .ref L), (1, .int (nI n1)), (2, .int w2), (5, .int (nI j))]) dX12_valueOf_62 (by decide) rfl ?_
    refine xi_iinc (v := (nI (j + 1))) (lv' := [(5, .int (nI (j + 1))), (4, .int (v4 ||| ((1 : Int32) <<< ((nI ((f_order j).toNatClampNeg)) &&& 31)))), (3, .int (FX12_both w2 v3 ((FX12_cost f_state n1 w2 v4 ((f_order j).toNatClampNeg))))), (0, .ref L), (1, .int (nI n1)), (2, .int w2)]) 5 dX12_valueOf_64 rfl (nI_1 _) (by decide) rfl ?_
    refine xi_goto (tgt := 19) dX12_valueOf_67 (by decide) ?_
    refine xi_sub (lv' := [(0, .ref L), (1, .int (nI n1)), (2, .int w2), (3, .int (FX12_both w2 v3 ((FX12_cost f_state n1 w2 v4 ((f_order j).toNatClampNeg))))), (4, .int (v4 ||| ((1 : Int32) <<< ((nI ((f_order j).toNatClampNeg)) &&& 31)))), (5, .int (nI (j + 1)))]) [3, 4, 5, 2, 1, 0] rfl ?_
    exact ih (j + 1) ((FX12_both w2 v3 ((FX12_cost f_state n1 w2 v4 ((f_order j).toNatClampNeg))))) ((v4 ||| ((1 : Int32) <<< ((nI ((f_order j).toNatClampNeg)) &&& 31)))) (by omega) (by omega) hq
def FX12_valueOf (f_state : Nat → Int32) (f_order : Nat → Int32) (z : Nat) (m : Int32) : Int32 := (if m = (2 : Int32) then (FX12_bandOf f_state f_order z) else (LX12_valueOf_19 f_state f_order z m (fun u6 u7 => u6) ((f_state (91 * z)).toNatClampNeg - 0) 0 ((0 : Int32)) ((0 : Int32))))
set_option maxHeartbeats 4000000 in
set_option maxRecDepth 100000 in
theorem FX12_valueOf_ok (G : xG) {P R : xMem} {L : Nat} (hP : P.length = L) (i_keptMany : Nat) (i_taped : Nat) (i_faultKind : Int32) (i_faultPlace : Int32) (i_spot : Nat) (i_begin : Nat) (i_token : Int32) (i_value : Int32) (i_bad : Int32) (i_full : Nat) (i_bandRows : Int32) (i_bandFirsts : Int32) (i_outs : Nat) (f_state : Nat → Int32) (f_was : Nat → Int32) (f_kept : Nat → Int32) (f_tape : Nat → Int32) (f_order : Nat → Int32) (f_rest : Nat → Int32) (f_ways : Nat → Int32) (f_costs : Nat → Int32) (f_bandBest : Nat → Int32) (f_found : Nat → Int32) (f_drawn : Nat → Int32) (f_joined : Nat → Int32) (f_out : Nat → Int32) (bi_keptMany : i_keptMany ≤ 10) (bi_taped : i_taped ≤ 400) (bi_spot : i_spot ≤ 400) (bi_begin : i_begin ≤ 400) (bi_full : i_full ≤ 511) (bi_outs : i_outs ≤ 400) (hG : GO f_state) (hR : RO f_order) (z : Nat) (bz : z < 3) (m : Int32) (M : xMem) (hM : M = (P ++ (MDL L i_keptMany i_taped i_faultKind i_faultPlace i_spot i_begin i_token i_value i_bad i_full i_bandRows i_bandFirsts i_outs f_state f_was f_kept f_tape f_order f_rest f_ways f_costs f_bandBest f_found f_drawn f_joined f_out ++ R))) (Q : Int32 → Prop) (hq : Q (FX12_valueOf f_state f_order z m)) : xC G mX12_valueOf 5 0 0 [.ref L, .int (nI z), .int m] M (fun v M2 => ∃ o : Int32, v = some (.int o) ∧ Q o ∧ M2 = (P ++ (MDL L i_keptMany i_taped i_faultKind i_faultPlace i_spot i_begin i_token i_value i_bad i_full i_bandRows i_bandFirsts i_outs f_state f_was f_kept f_tape f_order f_rest f_ways f_costs f_bandBest f_found f_drawn f_joined f_out ++ R))) := by
  subst hM
  unfold FX12_valueOf at hq
  refine xC.of (by decide) (Nat.le_of_ble_eq_true rfl) ?_
  show xW _ _ _ _ 0 [(0, .ref L), (1, .int (nI z)), (2, .int m)] [] _ 0 0
  refine xi_iload_n 2 dX12_valueOf_0 rfl ?_
  refine xi_iconst (v := 2) dX12_valueOf_1 (by decide) ?_
  refine xi_icmp_ne (tgt := 11) dX12_valueOf_2 (by decide) (fun c1 => ?_) (fun c1 => ?_)
  · rw [if_neg c1] at hq
    refine xi_iconst (v := 0) dX12_valueOf_11 (by decide) ?_
    refine xi_istore_n (lv' := [(3, .int 0), (0, .ref L), (1, .int (nI z)), (2, .int m)]) dX12_valueOf_12 (by decide) rfl ?_
    refine xi_iconst (v := 0) dX12_valueOf_13 (by decide) ?_
    refine xi_istore (lv' := [(4, .int 0), (3, .int 0), (0, .ref L), (1, .int (nI z)), (2, .int m)]) dX12_valueOf_14 (by decide) rfl ?_
    refine xi_iconst (v := 0) dX12_valueOf_16 (by decide) ?_
    refine xi_istore (lv' := [(5, .int 0), (4, .int 0), (3, .int 0), (0, .ref L), (1, .int (nI z)), (2, .int m)]) dX12_valueOf_17 (by decide) rfl ?_
    refine xi_sub (lv' := [(0, .ref L), (1, .int (nI z)), (2, .int m), (3, .int 0), (4, .int 0), (5, .int 0)]) [3, 4, 5, 2, 1, 0] rfl ?_
    refine LX12_valueOf_19_s G hP i_keptMany i_taped i_faultKind i_faultPlace i_spot i_begin i_token i_value i_bad i_full i_bandRows i_bandFirsts i_outs f_state f_was f_kept f_tape f_order f_rest f_ways f_costs f_bandBest f_found f_drawn f_joined f_out (by omega) (by omega) (by omega) (by omega) (by omega) (by omega) hG hR z (by omega) m Q _ (fun u6 u7 hq => ?_) ((f_state (91 * z)).toNatClampNeg - 0) 0 ((0 : Int32)) ((0 : Int32)) rfl (by omega) hq
    refine xi_iload_n 0 dX12_valueOf_70 rfl ?_
    exact xi_iret dX12_valueOf_71 rfl rfl (Nat.le_of_ble_eq_true rfl) (Nat.le_of_ble_eq_true rfl) ⟨_, rfl, hq, rfl⟩
  · rw [if_pos c1] at hq
    refine xi_aload_n 0 dX12_valueOf_5 rfl ?_
    refine xi_iload_n 1 dX12_valueOf_6 rfl ?_
    refine xi_callV (as := [.int (nI z)]) (rest := []) dX12_valueOf_7 (FX12_bandOf_ok G hP i_keptMany i_taped i_faultKind i_faultPlace i_spot i_begin i_token i_value i_bad i_full i_bandRows i_bandFirsts i_outs f_state f_was f_kept f_tape f_order f_rest f_ways f_costs f_bandBest f_found f_drawn f_joined f_out (by omega) (by omega) (by omega) (by omega) (by omega) (by omega) hG hR z (by omega) _ rfl (fun r => r = FX12_bandOf f_state f_order z) rfl) mkX12_bandOf w_1300 ws_68 w_1298 (xpg0 hP rfl) rfl rfl rfl rfl (Nat.le_of_ble_eq_true rfl) (Nat.le_of_ble_eq_true rfl) (Nat.le_of_ble_eq_true rfl) (Nat.le_of_ble_eq_true rfl) (Nat.le_of_ble_eq_true rfl) ?_
    intro v M2 hz
    obtain ⟨_, rfl, rfl, rfl⟩ := hz
    show xW _ _ _ _ 10 _ [.int (FX12_bandOf f_state f_order z)] (P ++ (MDL L i_keptMany i_taped i_faultKind i_faultPlace i_spot i_begin i_token i_value i_bad i_full i_bandRows i_bandFirsts i_outs f_state f_was f_kept f_tape f_order f_rest f_ways f_costs f_bandBest f_found f_drawn f_joined f_out ++ R)) _ _
    exact xi_iret dX12_valueOf_10 rfl rfl (Nat.le_of_ble_eq_true rfl) (Nat.le_of_ble_eq_true rfl) ⟨_, rfl, hq, rfl⟩
def LX12_laysRow_2 (f_state : Nat → Int32) (n1 : Nat) (K : (Nat → Int32) → Int32 × (Nat → Int32)) : Nat → Nat → (Nat → Int32) → Int32 × (Nat → Int32)
  | 0, _, f_order => K f_order
  | k + 1, j, f_order => (LX12_laysRow_2 f_state n1 K k (j + 1) (upd f_order j ((nI ((f_state (91 * n1 + 82 + j)).toNatClampNeg)))))
set_option maxHeartbeats 4000000 in
set_option maxRecDepth 100000 in
theorem LX12_laysRow_2_s (G : xG) {P R : xMem} {L : Nat} (hP : P.length = L) (i_keptMany : Nat) (i_taped : Nat) (i_faultKind : Int32) (i_faultPlace : Int32) (i_spot : Nat) (i_begin : Nat) (i_token : Int32) (i_value : Int32) (i_bad : Int32) (i_full : Nat) (i_bandRows : Int32) (i_bandFirsts : Int32) (i_outs : Nat) (f_state : Nat → Int32) (f_was : Nat → Int32) (f_kept : Nat → Int32) (f_tape : Nat → Int32) (f_rest : Nat → Int32) (f_ways : Nat → Int32) (f_costs : Nat → Int32) (f_bandBest : Nat → Int32) (f_found : Nat → Int32) (f_drawn : Nat → Int32) (f_joined : Nat → Int32) (f_out : Nat → Int32) (bi_keptMany : i_keptMany ≤ 10) (bi_taped : i_taped ≤ 400) (bi_spot : i_spot ≤ 400) (bi_begin : i_begin ≤ 400) (bi_full : i_full ≤ 511) (bi_outs : i_outs ≤ 400) (hG : GO f_state) (n1 : Nat) (bn1 : n1 < 3) (Q : Int32 × (Nat → Int32) → Prop) (K : (Nat → Int32) → Int32 × (Nat → Int32)) (HE : ∀ (f_order : Nat → Int32), Q (K f_order) → xW G mX12_laysRow (xrm 1 0 0) (xQ G (fun v M2 => ∃ o : Int32 × (Nat → Int32), v = none ∧ Q o ∧ M2 = (P ++ (MDL L i_keptMany i_taped i_faultKind i_faultPlace i_spot i_begin i_token i_value i_bad i_full i_bandRows i_bandFirsts i_outs f_state f_was f_kept f_tape o.2 f_rest f_ways f_costs f_bandBest f_found f_drawn f_joined f_out ++ R))) 0 0) 29 [] [] (P ++ (MDL L i_keptMany i_taped i_faultKind i_faultPlace i_spot i_begin i_token i_value i_bad i_full i_bandRows i_bandFirsts i_outs f_state f_was f_kept f_tape f_order f_rest f_ways f_costs f_bandBest f_found f_drawn f_joined f_out ++ R)) 0 0) :
    ∀ (k j : Nat) (f_order : Nat → Int32), (f_state (91 * n1)).toNatClampNeg - j = k → j < 100000 → Q (LX12_laysRow_2 f_state n1 K k j f_order) → xW G mX12_laysRow (xrm 1 0 0) (xQ G (fun v M2 => ∃ o : Int32 × (Nat → Int32), v = none ∧ Q o ∧ M2 = (P ++ (MDL L i_keptMany i_taped i_faultKind i_faultPlace i_spot i_begin i_token i_value i_bad i_full i_bandRows i_bandFirsts i_outs f_state f_was f_kept f_tape o.2 f_rest f_ways f_costs f_bandBest f_found f_drawn f_joined f_out ++ R))) 0 0) 2 [(0, .ref L), (1, .int (nI n1)), (2, .int (nI j))] [] (P ++ (MDL L i_keptMany i_taped i_faultKind i_faultPlace i_spot i_begin i_token i_value i_bad i_full i_bandRows i_bandFirsts i_outs f_state f_was f_kept f_tape f_order f_rest f_ways f_costs f_bandBest f_found f_drawn f_joined f_out ++ R)) 0 0 := by
  intro k
  induction k with
  | zero =>
    intro j f_order hj hj2 hq
    rw [LX12_laysRow_2] at hq
    refine xi_iload_n 2 dX12_laysRow_2 rfl ?_
    refine xi_aload_n 0 dX12_laysRow_3 rfl ?_
    refine xi_iload_n 1 dX12_laysRow_4 rfl ?_
    refine xi_callV (as := [.int (nI n1)]) (rest := [.int (nI j)]) dX12_laysRow_5 (FX12_points_ok G hP i_keptMany i_taped i_faultKind i_faultPlace i_spot i_begin i_token i_value i_bad i_full i_bandRows i_bandFirsts i_outs f_state f_was f_kept f_tape f_order f_rest f_ways f_costs f_bandBest f_found f_drawn f_joined f_out (by omega) (by omega) (by omega) (by omega) (by omega) (by omega) n1 (by omega) _ rfl (fun r => r = nI ((f_state (91 * n1)).toNatClampNeg)) ((hG n1 (by omega)).1.1)) mkX12_points w_1108 ws_36 w_1106 (xpg0 hP rfl) rfl rfl rfl rfl (Nat.le_of_ble_eq_true rfl) (Nat.le_of_ble_eq_true rfl) (Nat.le_of_ble_eq_true rfl) (Nat.le_of_ble_eq_true rfl) (Nat.le_of_ble_eq_true rfl) ?_
    intro v M2 hz
    obtain ⟨_, rfl, rfl, rfl⟩ := hz
    show xW _ _ _ _ 8 _ [.int (nI ((f_state (91 * n1)).toNatClampNeg)), .int (nI j)] (P ++ (MDL L i_keptMany i_taped i_faultKind i_faultPlace i_spot i_begin i_token i_value i_bad i_full i_bandRows i_bandFirsts i_outs f_state f_was f_kept f_tape f_order f_rest f_ways f_costs f_bandBest f_found f_drawn f_joined f_out ++ R)) _ _
    have o3 := (hG n1 (by omega)).1.2
    refine xi_icmp_ge_t (tgt := 29) dX12_laysRow_8 (by decide) (nI_le (a := (f_state (91 * n1)).toNatClampNeg) (b := j) (by omega) (by omega)) ?_
    refine xi_sub (lv' := []) [] rfl ?_
    exact HE f_order hq
  | succ k ih =>
    intro j f_order hj hj2 hq
    rw [LX12_laysRow_2] at hq
    refine xi_iload_n 2 dX12_laysRow_2 rfl ?_
    refine xi_aload_n 0 dX12_laysRow_3 rfl ?_
    refine xi_iload_n 1 dX12_laysRow_4 rfl ?_
    refine xi_callV (as := [.int (nI n1)]) (rest := [.int (nI j)]) dX12_laysRow_5 (FX12_points_ok G hP i_keptMany i_taped i_faultKind i_faultPlace i_spot i_begin i_token i_value i_bad i_full i_bandRows i_bandFirsts i_outs f_state f_was f_kept f_tape f_order f_rest f_ways f_costs f_bandBest f_found f_drawn f_joined f_out (by omega) (by omega) (by omega) (by omega) (by omega) (by omega) n1 (by omega) _ rfl (fun r => r = nI ((f_state (91 * n1)).toNatClampNeg)) ((hG n1 (by omega)).1.1)) mkX12_points w_1108 ws_36 w_1106 (xpg0 hP rfl) rfl rfl rfl rfl (Nat.le_of_ble_eq_true rfl) (Nat.le_of_ble_eq_true rfl) (Nat.le_of_ble_eq_true rfl) (Nat.le_of_ble_eq_true rfl) (Nat.le_of_ble_eq_true rfl) ?_
    intro v M2 hz
    obtain ⟨_, rfl, rfl, rfl⟩ := hz
    show xW _ _ _ _ 8 _ [.int (nI ((f_state (91 * n1)).toNatClampNeg)), .int (nI j)] (P ++ (MDL L i_keptMany i_taped i_faultKind i_faultPlace i_spot i_begin i_token i_value i_bad i_full i_bandRows i_bandFirsts i_outs f_state f_was f_kept f_tape f_order f_rest f_ways f_costs f_bandBest f_found f_drawn f_joined f_out ++ R)) _ _
    have o1 := (hG n1 (by omega)).1.2
    refine xi_icmp_ge_f (tgt := 29) dX12_laysRow_8 (by decide) (nI_ge (a := j) (b := (f_state (91 * n1)).toNatClampNeg) (by omega) (by omega)) ?_
    refine xi_aload_n 0 dX12_laysRow_11 rfl ?_
    refine xi_get (f := 13) dX12_laysRow_12 (xpg0 hP rfl) rfl ok_9 (by decide) w_1021 rfl ?_
    refine xi_iload_n 2 dX12_laysRow_15 rfl ?_
    refine xi_aload_n 0 dX12_laysRow_16 rfl ?_
    refine xi_iload_n 1 dX12_laysRow_17 rfl ?_
    refine xi_iload_n 2 dX12_laysRow_18 rfl ?_
    refine xi_callV (as := [.int (nI n1), .int (nI j)]) (rest := [.int (nI j), .ref (L + 5)]) dX12_laysRow_19 (FX12_at_ok G hP i_keptMany i_taped i_faultKind i_faultPlace i_spot i_begin i_token i_value i_bad i_full i_bandRows i_bandFirsts i_outs f_state f_was f_kept f_tape f_order f_rest f_ways f_costs f_bandBest f_found f_drawn f_joined f_out (by omega) (by omega) (by omega) (by omega) (by omega) (by omega) n1 (by omega) j (by omega) _ rfl (fun r => r = nI ((f_state (91 * n1 + 82 + j)).toNatClampNeg)) (((hG n1 (by omega)).2 j (by omega)).1)) mkX12_at w_1273 ws_64 w_1271 (xpg0 hP rfl) rfl rfl rfl rfl (Nat.le_of_ble_eq_true rfl) (Nat.le_of_ble_eq_true rfl) (Nat.le_of_ble_eq_true rfl) (Nat.le_of_ble_eq_true rfl) (Nat.le_of_ble_eq_true rfl) ?_
    intro v M2 hz
    obtain ⟨_, rfl, rfl, rfl⟩ := hz
    show xW _ _ _ _ 22 _ [.int (nI ((f_state (91 * n1 + 82 + j)).toNatClampNeg)), .int (nI j), .ref (L + 5)] (P ++ (MDL L i_keptMany i_taped i_faultKind i_faultPlace i_spot i_begin i_token i_value i_bad i_full i_bandRows i_bandFirsts i_outs f_state f_was f_kept f_tape f_order f_rest f_ways f_costs f_bandBest f_found f_drawn f_joined f_out ++ R)) _ _
    have o2 := ((hG n1 (by omega)).2 j (by omega)).2
    refine xi_iastore (M' := (P ++ (MDL L i_keptMany i_taped i_faultKind i_faultPlace i_spot i_begin i_token i_value i_bad i_full i_bandRows i_bandFirsts i_outs f_state f_was f_kept f_tape (upd f_order j ((nI ((f_state (91 * n1 + 82 + j)).toNatClampNeg)))) f_rest f_ways f_costs f_bandBest f_found f_drawn f_joined f_out ++ R))) dX12_laysRow_22 (xpg hP rfl) (vp_in_nI (by omega) (by decide)) (by rw [nI_clamp (by omega)]; exact (xps hP)) ?_
    refine xi_iinc (v := (nI (j + 1))) (lv' := [(2, .int (nI (j + 1))), (0, .ref L), (1, .int (nI n1))]) 2 dX12_laysRow_23 rfl (nI_1 _) (by decide) rfl ?_
    refine xi_goto (tgt := 2) dX12_laysRow_26 (by decide) ?_
    refine xi_sub (lv' := [(0, .ref L), (1, .int (nI n1)), (2, .int (nI (j + 1)))]) [1, 2, 0] rfl ?_
    exact ih (j + 1) (upd f_order j ((nI ((f_state (91 * n1 + 82 + j)).toNatClampNeg)))) (by omega) (by omega) hq
def FX12_laysRow (f_state : Nat → Int32) (f_order : Nat → Int32) (z : Nat) : Int32 × (Nat → Int32) := (LX12_laysRow_2 f_state z (fun u4 => (0, u4)) ((f_state (91 * z)).toNatClampNeg - 0) 0 f_order)
set_option maxHeartbeats 4000000 in
set_option maxRecDepth 100000 in
theorem FX12_laysRow_ok (G : xG) {P R : xMem} {L : Nat} (hP : P.length = L) (i_keptMany : Nat) (i_taped : Nat) (i_faultKind : Int32) (i_faultPlace : Int32) (i_spot : Nat) (i_begin : Nat) (i_token : Int32) (i_value : Int32) (i_bad : Int32) (i_full : Nat) (i_bandRows : Int32) (i_bandFirsts : Int32) (i_outs : Nat) (f_state : Nat → Int32) (f_was : Nat → Int32) (f_kept : Nat → Int32) (f_tape : Nat → Int32) (f_order : Nat → Int32) (f_rest : Nat → Int32) (f_ways : Nat → Int32) (f_costs : Nat → Int32) (f_bandBest : Nat → Int32) (f_found : Nat → Int32) (f_drawn : Nat → Int32) (f_joined : Nat → Int32) (f_out : Nat → Int32) (bi_keptMany : i_keptMany ≤ 10) (bi_taped : i_taped ≤ 400) (bi_spot : i_spot ≤ 400) (bi_begin : i_begin ≤ 400) (bi_full : i_full ≤ 511) (bi_outs : i_outs ≤ 400) (hG : GO f_state) (z : Nat) (bz : z < 3) (M : xMem) (hM : M = (P ++ (MDL L i_keptMany i_taped i_faultKind i_faultPlace i_spot i_begin i_token i_value i_bad i_full i_bandRows i_bandFirsts i_outs f_state f_was f_kept f_tape f_order f_rest f_ways f_costs f_bandBest f_found f_drawn f_joined f_out ++ R))) (Q : Int32 × (Nat → Int32) → Prop) (hq : Q (FX12_laysRow f_state f_order z)) : xC G mX12_laysRow 1 0 0 [.ref L, .int (nI z)] M (fun v M2 => ∃ o : Int32 × (Nat → Int32), v = none ∧ Q o ∧ M2 = (P ++ (MDL L i_keptMany i_taped i_faultKind i_faultPlace i_spot i_begin i_token i_value i_bad i_full i_bandRows i_bandFirsts i_outs f_state f_was f_kept f_tape o.2 f_rest f_ways f_costs f_bandBest f_found f_drawn f_joined f_out ++ R))) := by
  subst hM
  unfold FX12_laysRow at hq
  refine xC.of (by decide) (Nat.le_of_ble_eq_true rfl) ?_
  show xW _ _ _ _ 0 [(0, .ref L), (1, .int (nI z))] [] _ 0 0
  refine xi_iconst (v := 0) dX12_laysRow_0 (by decide) ?_
  refine xi_istore_n (lv' := [(2, .int 0), (0, .ref L), (1, .int (nI z))]) dX12_laysRow_1 (by decide) rfl ?_
  refine xi_sub (lv' := [(0, .ref L), (1, .int (nI z)), (2, .int 0)]) [1, 2, 0] rfl ?_
  refine LX12_laysRow_2_s G hP i_keptMany i_taped i_faultKind i_faultPlace i_spot i_begin i_token i_value i_bad i_full i_bandRows i_bandFirsts i_outs f_state f_was f_kept f_tape f_rest f_ways f_costs f_bandBest f_found f_drawn f_joined f_out (by omega) (by omega) (by omega) (by omega) (by omega) (by omega) hG z (by omega) Q _ (fun u4 hq => ?_) ((f_state (91 * z)).toNatClampNeg - 0) 0 f_order rfl (by omega) hq
  exact xi_vret dX12_laysRow_29 rfl (Nat.le_of_ble_eq_true rfl) (Nat.le_of_ble_eq_true rfl) ⟨_, rfl, hq, rfl⟩
def LX12_remembers_2 (f_state : Nat → Int32) (K : (Nat → Int32) → Int32 × (Nat → Int32)) : Nat → Nat → (Nat → Int32) → Int32 × (Nat → Int32)
  | 0, _, f_was => K f_was
  | k + 1, j, f_was => (LX12_remembers_2 f_state K k (j + 1) (upd f_was j ((f_state j))))
set_option maxHeartbeats 4000000 in
set_option maxRecDepth 100000 in
theorem LX12_remembers_2_s (G : xG) {P R : xMem} {L : Nat} (hP : P.length = L) (i_keptMany : Nat) (i_taped : Nat) (i_faultKind : Int32) (i_faultPlace : Int32) (i_spot : Nat) (i_begin : Nat) (i_token : Int32) (i_value : Int32) (i_bad : Int32) (i_full : Nat) (i_bandRows : Int32) (i_bandFirsts : Int32) (i_outs : Nat) (f_state : Nat → Int32) (f_kept : Nat → Int32) (f_tape : Nat → Int32) (f_order : Nat → Int32) (f_rest : Nat → Int32) (f_ways : Nat → Int32) (f_costs : Nat → Int32) (f_bandBest : Nat → Int32) (f_found : Nat → Int32) (f_drawn : Nat → Int32) (f_joined : Nat → Int32) (f_out : Nat → Int32) (bi_keptMany : i_keptMany ≤ 10) (bi_taped : i_taped ≤ 400) (bi_spot : i_spot ≤ 400) (bi_begin : i_begin ≤ 400) (bi_full : i_full ≤ 511) (bi_outs : i_outs ≤ 400) (Q : Int32 × (Nat → Int32) → Prop) (K : (Nat → Int32) → Int32 × (Nat → Int32)) (HE : ∀ (f_was : Nat → Int32), Q (K f_was) → xW G mX12_remembers (xrm 0 0 0) (xQ G (fun v M2 => ∃ o : Int32 × (Nat → Int32), v = none ∧ Q o ∧ M2 = (P ++ (MDL L i_keptMany i_taped i_faultKind i_faultPlace i_spot i_begin i_token i_value i_bad i_full i_bandRows i_bandFirsts i_outs f_state o.2 f_kept f_tape f_order f_rest f_ways f_costs f_bandBest f_found f_drawn f_joined f_out ++ R))) 0 0) 27 [] [] (P ++ (MDL L i_keptMany i_taped i_faultKind i_faultPlace i_spot i_begin i_token i_value i_bad i_full i_bandRows i_bandFirsts i_outs f_state f_was f_kept f_tape f_order f_rest f_ways f_costs f_bandBest f_found f_drawn f_joined f_out ++ R)) 0 0) :
    ∀ (k j : Nat) (f_was : Nat → Int32), 273 - j = k → j < 100000 → Q (LX12_remembers_2 f_state K k j f_was) → xW G mX12_remembers (xrm 0 0 0) (xQ G (fun v M2 => ∃ o : Int32 × (Nat → Int32), v = none ∧ Q o ∧ M2 = (P ++ (MDL L i_keptMany i_taped i_faultKind i_faultPlace i_spot i_begin i_token i_value i_bad i_full i_bandRows i_bandFirsts i_outs f_state o.2 f_kept f_tape f_order f_rest f_ways f_costs f_bandBest f_found f_drawn f_joined f_out ++ R))) 0 0) 2 [(0, .ref L), (1, .int (nI j))] [] (P ++ (MDL L i_keptMany i_taped i_faultKind i_faultPlace i_spot i_begin i_token i_value i_bad i_full i_bandRows i_bandFirsts i_outs f_state f_was f_kept f_tape f_order f_rest f_ways f_costs f_bandBest f_found f_drawn f_joined f_out ++ R)) 0 0 := by
  intro k
  induction k with
  | zero =>
    intro j f_was hj hj2 hq
    rw [LX12_remembers_2] at hq
    refine xi_iload_n 1 dX12_remembers_2 rfl ?_
    refine xi_sipush (v := 273) dX12_remembers_3 (by decide) ?_
    refine xi_icmp_ge_t (tgt := 27) dX12_remembers_6 (by decide) (nI_le (a := 273) (b := j) (by omega) (by omega)) ?_
    refine xi_sub (lv' := []) [] rfl ?_
    exact HE f_was hq
  | succ k ih =>
    intro j f_was hj hj2 hq
    rw [LX12_remembers_2] at hq
    refine xi_iload_n 1 dX12_remembers_2 rfl ?_
    refine xi_sipush (v := 273) dX12_remembers_3 (by decide) ?_
    refine xi_icmp_ge_f (tgt := 27) dX12_remembers_6 (by decide) (nI_ge (a := j) (b := 273) (by omega) (by omega)) ?_
    refine xi_aload_n 0 dX12_remembers_9 rfl ?_
    refine xi_get (f := 1) dX12_remembers_10 (xpg0 hP rfl) rfl ok_9 (by decide) w_1009 rfl ?_
    refine xi_iload_n 1 dX12_remembers_13 rfl ?_
    refine xi_aload_n 0 dX12_remembers_14 rfl ?_
    refine xi_get (f := 0) dX12_remembers_15 (xpg0 hP rfl) rfl ok_9 (by decide) w_1008 rfl ?_
    refine xi_iload_n 1 dX12_remembers_18 rfl ?_
    refine xi_iaload (v := (f_state j)) dX12_remembers_19 (xpg hP rfl) (vp_in_nI (by omega) (by decide)) (by rw [nI_clamp (by omega)]) ?_
    refine xi_iastore (M' := (P ++ (MDL L i_keptMany i_taped i_faultKind i_faultPlace i_spot i_begin i_token i_value i_bad i_full i_bandRows i_bandFirsts i_outs f_state (upd f_was j ((f_state j))) f_kept f_tape f_order f_rest f_ways f_costs f_bandBest f_found f_drawn f_joined f_out ++ R))) dX12_remembers_20 (xpg hP rfl) (vp_in_nI (by omega) (by decide)) (by rw [nI_clamp (by omega)]; exact (xps hP)) ?_
    refine xi_iinc (v := (nI (j + 1))) (lv' := [(1, .int (nI (j + 1))), (0, .ref L)]) 1 dX12_remembers_21 rfl (nI_1 _) (by decide) rfl ?_
    refine xi_goto (tgt := 2) dX12_remembers_24 (by decide) ?_
    refine xi_sub (lv' := [(0, .ref L), (1, .int (nI (j + 1)))]) [1, 0] rfl ?_
    exact ih (j + 1) (upd f_was j ((f_state j))) (by omega) (by omega) hq
def FX12_remembers (f_state : Nat → Int32) (f_was : Nat → Int32) : Int32 × (Nat → Int32) := (LX12_remembers_2 f_state (fun u1 => (0, u1)) (273 - 0) 0 f_was)
set_option maxHeartbeats 4000000 in
set_option maxRecDepth 100000 in
theorem FX12_remembers_ok (G : xG) {P R : xMem} {L : Nat} (hP : P.length = L) (i_keptMany : Nat) (i_taped : Nat) (i_faultKind : Int32) (i_faultPlace : Int32) (i_spot : Nat) (i_begin : Nat) (i_token : Int32) (i_value : Int32) (i_bad : Int32) (i_full : Nat) (i_bandRows : Int32) (i_bandFirsts : Int32) (i_outs : Nat) (f_state : Nat → Int32) (f_was : Nat → Int32) (f_kept : Nat → Int32) (f_tape : Nat → Int32) (f_order : Nat → Int32) (f_rest : Nat → Int32) (f_ways : Nat → Int32) (f_costs : Nat → Int32) (f_bandBest : Nat → Int32) (f_found : Nat → Int32) (f_drawn : Nat → Int32) (f_joined : Nat → Int32) (f_out : Nat → Int32) (bi_keptMany : i_keptMany ≤ 10) (bi_taped : i_taped ≤ 400) (bi_spot : i_spot ≤ 400) (bi_begin : i_begin ≤ 400) (bi_full : i_full ≤ 511) (bi_outs : i_outs ≤ 400) (M : xMem) (hM : M = (P ++ (MDL L i_keptMany i_taped i_faultKind i_faultPlace i_spot i_begin i_token i_value i_bad i_full i_bandRows i_bandFirsts i_outs f_state f_was f_kept f_tape f_order f_rest f_ways f_costs f_bandBest f_found f_drawn f_joined f_out ++ R))) (Q : Int32 × (Nat → Int32) → Prop) (hq : Q (FX12_remembers f_state f_was)) : xC G mX12_remembers 0 0 0 [.ref L] M (fun v M2 => ∃ o : Int32 × (Nat → Int32), v = none ∧ Q o ∧ M2 = (P ++ (MDL L i_keptMany i_taped i_faultKind i_faultPlace i_spot i_begin i_token i_value i_bad i_full i_bandRows i_bandFirsts i_outs f_state o.2 f_kept f_tape f_order f_rest f_ways f_costs f_bandBest f_found f_drawn f_joined f_out ++ R))) := by
  subst hM
  unfold FX12_remembers at hq
  refine xC.of (by decide) (Nat.le_of_ble_eq_true rfl) ?_
  show xW _ _ _ _ 0 [(0, .ref L)] [] _ 0 0
  refine xi_iconst (v := 0) dX12_remembers_0 (by decide) ?_
  refine xi_istore_n (lv' := [(1, .int 0), (0, .ref L)]) dX12_remembers_1 (by decide) rfl ?_
  refine xi_sub (lv' := [(0, .ref L), (1, .int 0)]) [1, 0] rfl ?_
  refine LX12_remembers_2_s G hP i_keptMany i_taped i_faultKind i_faultPlace i_spot i_begin i_token i_value i_bad i_full i_bandRows i_bandFirsts i_outs f_state f_kept f_tape f_order f_rest f_ways f_costs f_bandBest f_found f_drawn f_joined f_out (by omega) (by omega) (by omega) (by omega) (by omega) (by omega) Q _ (fun u1 hq => ?_) (273 - 0) 0 f_was rfl (by omega) hq
  exact xi_vret dX12_remembers_27 rfl (Nat.le_of_ble_eq_true rfl) (Nat.le_of_ble_eq_true rfl) ⟨_, rfl, hq, rfl⟩
def LX12_keeps_52 (i_keptMany : Nat) (f_was : Nat → Int32) (w1 : Int32) (K : (Nat → Int32) → Int32 × Nat × (Nat → Int32)) : Nat → Nat → (Nat → Int32) → Int32 × Nat × (Nat → Int32)
  | 0, _, f_kept => K f_kept
  | k + 1, j, f_kept => (LX12_keeps_52 i_keptMany f_was w1 K k (j + 1) (upd f_kept ((273 * i_keptMany) + j) ((f_was j))))
def LX12_keeps_11 (i_keptMany : Nat) (f_was : Nat → Int32) (w1 : Int32) (K : (Nat → Int32) → Int32 × Nat × (Nat → Int32)) : Nat → Nat → (Nat → Int32) → Int32 × Nat × (Nat → Int32)
  | 0, _, f_kept => K f_kept
  | k + 1, j, f_kept => (LX12_keeps_11 i_keptMany f_was w1 K k (j + 1) (upd f_kept j ((f_kept (j + 273)))))
set_option maxHeartbeats 4000000 in
set_option maxRecDepth 100000 in
theorem LX12_keeps_52_s (G : xG) {P R : xMem} {L : Nat} (hP : P.length = L) (i_keptMany : Nat) (i_taped : Nat) (i_faultKind : Int32) (i_faultPlace : Int32) (i_spot : Nat) (i_begin : Nat) (i_token : Int32) (i_value : Int32) (i_bad : Int32) (i_full : Nat) (i_bandRows : Int32) (i_bandFirsts : Int32) (i_outs : Nat) (f_state : Nat → Int32) (f_was : Nat → Int32) (f_tape : Nat → Int32) (f_order : Nat → Int32) (f_rest : Nat → Int32) (f_ways : Nat → Int32) (f_costs : Nat → Int32) (f_bandBest : Nat → Int32) (f_found : Nat → Int32) (f_drawn : Nat → Int32) (f_joined : Nat → Int32) (f_out : Nat → Int32) (bi_keptMany : i_keptMany ≤ 10) (bi_taped : i_taped ≤ 400) (bi_spot : i_spot ≤ 400) (bi_begin : i_begin ≤ 400) (bi_full : i_full ≤ 511) (bi_outs : i_outs ≤ 400) (w1 : Int32) (hx : i_keptMany < 10) (Q : Int32 × Nat × (Nat → Int32) → Prop) (K : (Nat → Int32) → Int32 × Nat × (Nat → Int32)) (HE : ∀ (f_kept : Nat → Int32), Q (K f_kept) → xW G mX12_keeps (xrm 0 0 0) (xQ G (fun v M2 => ∃ o : Int32 × Nat × (Nat → Int32), v = some (.int o.1) ∧ Q o ∧ M2 = (P ++ (MDL L o.2.1 i_taped i_faultKind i_faultPlace i_spot i_begin i_token i_value i_bad i_full i_bandRows i_bandFirsts i_outs f_state f_was o.2.2 f_tape f_order f_rest f_ways f_costs f_bandBest f_found f_drawn f_joined f_out ++ R))) 0 0) 86 [(0, .ref L), (1, .int w1)] [] (P ++ (MDL L i_keptMany i_taped i_faultKind i_faultPlace i_spot i_begin i_token i_value i_bad i_full i_bandRows i_bandFirsts i_outs f_state f_was f_kept f_tape f_order f_rest f_ways f_costs f_bandBest f_found f_drawn f_joined f_out ++ R)) 0 0) :
    ∀ (k j : Nat) (f_kept : Nat → Int32), 273 - j = k → j < 100000 → Q (LX12_keeps_52 i_keptMany f_was w1 K k j f_kept) → xW G mX12_keeps (xrm 0 0 0) (xQ G (fun v M2 => ∃ o : Int32 × Nat × (Nat → Int32), v = some (.int o.1) ∧ Q o ∧ M2 = (P ++ (MDL L o.2.1 i_taped i_faultKind i_faultPlace i_spot i_begin i_token i_value i_bad i_full i_bandRows i_bandFirsts i_outs f_state f_was o.2.2 f_tape f_order f_rest f_ways f_costs f_bandBest f_found f_drawn f_joined f_out ++ R))) 0 0) 52 [(0, .ref L), (1, .int w1), (2, .int (nI j))] [] (P ++ (MDL L i_keptMany i_taped i_faultKind i_faultPlace i_spot i_begin i_token i_value i_bad i_full i_bandRows i_bandFirsts i_outs f_state f_was f_kept f_tape f_order f_rest f_ways f_costs f_bandBest f_found f_drawn f_joined f_out ++ R)) 0 0 := by
  intro k
  induction k with
  | zero =>
    intro j f_kept hj hj2 hq
    rw [LX12_keeps_52] at hq
    refine xi_iload_n 2 dX12_keeps_52 rfl ?_
    refine xi_sipush (v := 273) dX12_keeps_53 (by decide) ?_
    refine xi_icmp_ge_t (tgt := 86) dX12_keeps_56 (by decide) (nI_le (a := 273) (b := j) (by omega) (by omega)) ?_
    refine xi_sub (lv' := [(0, .ref L), (1, .int w1)]) [0, 1] rfl ?_
    exact HE f_kept hq
  | succ k ih =>
    intro j f_kept hj hj2 hq
    rw [LX12_keeps_52] at hq
    refine xi_iload_n 2 dX12_keeps_52 rfl ?_
    refine xi_sipush (v := 273) dX12_keeps_53 (by decide) ?_
    refine xi_icmp_ge_f (tgt := 86) dX12_keeps_56 (by decide) (nI_ge (a := j) (b := 273) (by omega) (by omega)) ?_
    refine xi_aload_n 0 dX12_keeps_59 rfl ?_
    refine xi_get (f := 2) dX12_keeps_60 (xpg0 hP rfl) rfl ok_9 (by decide) w_1010 rfl ?_
    refine xi_sipush (v := 273) dX12_keeps_63 (by decide) ?_
    refine xi_aload_n 0 dX12_keeps_66 rfl ?_
    refine xi_get (f := 3) dX12_keeps_67 (xpg0 hP rfl) rfl ok_9 (by decide) w_1011 rfl ?_
    refine xi_imul (v := (nI (273 * i_keptMany))) dX12_keeps_70 (pk_mul 273 i_keptMany) ?_
    refine xi_iload_n 2 dX12_keeps_71 rfl ?_
    refine xi_iadd (v := (nI ((273 * i_keptMany) + j))) dX12_keeps_72 (nI_add (273 * i_keptMany) j) ?_
    refine xi_aload_n 0 dX12_keeps_73 rfl ?_
    refine xi_get (f := 1) dX12_keeps_74 (xpg0 hP rfl) rfl ok_9 (by decide) w_1009 rfl ?_
    refine xi_iload_n 2 dX12_keeps_77 rfl ?_
    refine xi_iaload (v := (f_was j)) dX12_keeps_78 (xpg hP rfl) (vp_in_nI (by omega) (by decide)) (by rw [nI_clamp (by omega)]) ?_
    refine xi_iastore (M' := (P ++ (MDL L i_keptMany i_taped i_faultKind i_faultPlace i_spot i_begin i_token i_value i_bad i_full i_bandRows i_bandFirsts i_outs f_state f_was (upd f_kept ((273 * i_keptMany) + j) ((f_was j))) f_tape f_order f_rest f_ways f_costs f_bandBest f_found f_drawn f_joined f_out ++ R))) dX12_keeps_79 (xpg hP rfl) (vp_in_nI (by omega) (by decide)) (by rw [nI_clamp (by omega)]; exact (xps hP)) ?_
    refine xi_iinc (v := (nI (j + 1))) (lv' := [(2, .int (nI (j + 1))), (0, .ref L), (1, .int w1)]) 2 dX12_keeps_80 rfl (nI_1 _) (by decide) rfl ?_
    refine xi_goto (tgt := 52) dX12_keeps_83 (by decide) ?_
    refine xi_sub (lv' := [(0, .ref L), (1, .int w1), (2, .int (nI (j + 1)))]) [1, 2, 0] rfl ?_
    exact ih (j + 1) (upd f_kept ((273 * i_keptMany) + j) ((f_was j))) (by omega) (by omega) hq
set_option maxHeartbeats 4000000 in
set_option maxRecDepth 100000 in
theorem LX12_keeps_11_s (G : xG) {P R : xMem} {L : Nat} (hP : P.length = L) (i_keptMany : Nat) (i_taped : Nat) (i_faultKind : Int32) (i_faultPlace : Int32) (i_spot : Nat) (i_begin : Nat) (i_token : Int32) (i_value : Int32) (i_bad : Int32) (i_full : Nat) (i_bandRows : Int32) (i_bandFirsts : Int32) (i_outs : Nat) (f_state : Nat → Int32) (f_was : Nat → Int32) (f_tape : Nat → Int32) (f_order : Nat → Int32) (f_rest : Nat → Int32) (f_ways : Nat → Int32) (f_costs : Nat → Int32) (f_bandBest : Nat → Int32) (f_found : Nat → Int32) (f_drawn : Nat → Int32) (f_joined : Nat → Int32) (f_out : Nat → Int32) (bi_keptMany : i_keptMany ≤ 10) (bi_taped : i_taped ≤ 400) (bi_spot : i_spot ≤ 400) (bi_begin : i_begin ≤ 400) (bi_full : i_full ≤ 511) (bi_outs : i_outs ≤ 400) (w1 : Int32) (Q : Int32 × Nat × (Nat → Int32) → Prop) (K : (Nat → Int32) → Int32 × Nat × (Nat → Int32)) (HE : ∀ (f_kept : Nat → Int32), Q (K f_kept) → xW G mX12_keeps (xrm 0 0 0) (xQ G (fun v M2 => ∃ o : Int32 × Nat × (Nat → Int32), v = some (.int o.1) ∧ Q o ∧ M2 = (P ++ (MDL L o.2.1 i_taped i_faultKind i_faultPlace i_spot i_begin i_token i_value i_bad i_full i_bandRows i_bandFirsts i_outs f_state f_was o.2.2 f_tape f_order f_rest f_ways f_costs f_bandBest f_found f_drawn f_joined f_out ++ R))) 0 0) 40 [(0, .ref L), (1, .int w1)] [] (P ++ (MDL L i_keptMany i_taped i_faultKind i_faultPlace i_spot i_begin i_token i_value i_bad i_full i_bandRows i_bandFirsts i_outs f_state f_was f_kept f_tape f_order f_rest f_ways f_costs f_bandBest f_found f_drawn f_joined f_out ++ R)) 0 0) :
    ∀ (k j : Nat) (f_kept : Nat → Int32), 2457 - j = k → j < 100000 → Q (LX12_keeps_11 i_keptMany f_was w1 K k j f_kept) → xW G mX12_keeps (xrm 0 0 0) (xQ G (fun v M2 => ∃ o : Int32 × Nat × (Nat → Int32), v = some (.int o.1) ∧ Q o ∧ M2 = (P ++ (MDL L o.2.1 i_taped i_faultKind i_faultPlace i_spot i_begin i_token i_value i_bad i_full i_bandRows i_bandFirsts i_outs f_state f_was o.2.2 f_tape f_order f_rest f_ways f_costs f_bandBest f_found f_drawn f_joined f_out ++ R))) 0 0) 11 [(0, .ref L), (1, .int w1), (2, .int (nI j))] [] (P ++ (MDL L i_keptMany i_taped i_faultKind i_faultPlace i_spot i_begin i_token i_value i_bad i_full i_bandRows i_bandFirsts i_outs f_state f_was f_kept f_tape f_order f_rest f_ways f_costs f_bandBest f_found f_drawn f_joined f_out ++ R)) 0 0 := by
  intro k
  induction k with
  | zero =>
    intro j f_kept hj hj2 hq
    rw [LX12_keeps_11] at hq
    refine xi_iload_n 2 dX12_keeps_11 rfl ?_
    refine xi_sipush (v := 2457) dX12_keeps_12 (by decide) ?_
    refine xi_icmp_ge_t (tgt := 40) dX12_keeps_15 (by decide) (nI_le (a := 2457) (b := j) (by omega) (by omega)) ?_
    refine xi_sub (lv' := [(0, .ref L), (1, .int w1)]) [0, 1] rfl ?_
    exact HE f_kept hq
  | succ k ih =>
    intro j f_kept hj hj2 hq
    rw [LX12_keeps_11] at hq
    refine xi_iload_n 2 dX12_keeps_11 rfl ?_
    refine xi_sipush (v := 2457) dX12_keeps_12 (by decide) ?_
    refine xi_icmp_ge_f (tgt := 40) dX12_keeps_15 (by decide) (nI_ge (a := j) (b := 2457) (by omega) (by omega)) ?_
    refine xi_aload_n 0 dX12_keeps_18 rfl ?_
    refine xi_get (f := 2) dX12_keeps_19 (xpg0 hP rfl) rfl ok_9 (by decide) w_1010 rfl ?_
    refine xi_iload_n 2 dX12_keeps_22 rfl ?_
    refine xi_aload_n 0 dX12_keeps_23 rfl ?_
    refine xi_get (f := 2) dX12_keeps_24 (xpg0 hP rfl) rfl ok_9 (by decide) w_1010 rfl ?_
    refine xi_iload_n 2 dX12_keeps_27 rfl ?_
    refine xi_sipush (v := 273) dX12_keeps_28 (by decide) ?_
    refine xi_iadd (v := (nI (j + 273))) dX12_keeps_31 (nI_add j 273) ?_
    refine xi_iaload (v := (f_kept (j + 273))) dX12_keeps_32 (xpg hP rfl) (vp_in_nI (by omega) (by decide)) (by rw [nI_clamp (by omega)]) ?_
    refine xi_iastore (M' := (P ++ (MDL L i_keptMany i_taped i_faultKind i_faultPlace i_spot i_begin i_token i_value i_bad i_full i_bandRows i_bandFirsts i_outs f_state f_was (upd f_kept j ((f_kept (j + 273)))) f_tape f_order f_rest f_ways f_costs f_bandBest f_found f_drawn f_joined f_out ++ R))) dX12_keeps_33 (xpg hP rfl) (vp_in_nI (by omega) (by decide)) (by rw [nI_clamp (by omega)]; exact (xps hP)) ?_
    refine xi_iinc (v := (nI (j + 1))) (lv' := [(2, .int (nI (j + 1))), (0, .ref L), (1, .int w1)]) 2 dX12_keeps_34 rfl (nI_1 _) (by decide) rfl ?_
    refine xi_goto (tgt := 11) dX12_keeps_37 (by decide) ?_
    refine xi_sub (lv' := [(0, .ref L), (1, .int w1), (2, .int (nI (j + 1)))]) [1, 2, 0] rfl ?_
    exact ih (j + 1) (upd f_kept j ((f_kept (j + 273)))) (by omega) (by omega) hq
def FX12_keeps (i_keptMany : Nat) (f_was : Nat → Int32) (f_kept : Nat → Int32) (x : Int32) : Int32 × Nat × (Nat → Int32) := (if (nI i_keptMany) = (10 : Int32) then (LX12_keeps_11 i_keptMany f_was x (fun u3 => (LX12_keeps_52 (i_keptMany - 1) f_was x (fun u4 => (x, (i_keptMany - 1) + 1, u4)) (273 - 0) 0 u3)) (2457 - 0) 0 f_kept) else (LX12_keeps_52 i_keptMany f_was x (fun u2 => (x, i_keptMany + 1, u2)) (273 - 0) 0 f_kept))
set_option maxHeartbeats 4000000 in
set_option maxRecDepth 100000 in
theorem FX12_keeps_ok (G : xG) {P R : xMem} {L : Nat} (hP : P.length = L) (i_keptMany : Nat) (i_taped : Nat) (i_faultKind : Int32) (i_faultPlace : Int32) (i_spot : Nat) (i_begin : Nat) (i_token : Int32) (i_value : Int32) (i_bad : Int32) (i_full : Nat) (i_bandRows : Int32) (i_bandFirsts : Int32) (i_outs : Nat) (f_state : Nat → Int32) (f_was : Nat → Int32) (f_kept : Nat → Int32) (f_tape : Nat → Int32) (f_order : Nat → Int32) (f_rest : Nat → Int32) (f_ways : Nat → Int32) (f_costs : Nat → Int32) (f_bandBest : Nat → Int32) (f_found : Nat → Int32) (f_drawn : Nat → Int32) (f_joined : Nat → Int32) (f_out : Nat → Int32) (bi_keptMany : i_keptMany ≤ 10) (bi_taped : i_taped ≤ 400) (bi_spot : i_spot ≤ 400) (bi_begin : i_begin ≤ 400) (bi_full : i_full ≤ 511) (bi_outs : i_outs ≤ 400) (x : Int32) (M : xMem) (hM : M = (P ++ (MDL L i_keptMany i_taped i_faultKind i_faultPlace i_spot i_begin i_token i_value i_bad i_full i_bandRows i_bandFirsts i_outs f_state f_was f_kept f_tape f_order f_rest f_ways f_costs f_bandBest f_found f_drawn f_joined f_out ++ R))) (Q : Int32 × Nat × (Nat → Int32) → Prop) (hq : Q (FX12_keeps i_keptMany f_was f_kept x)) : xC G mX12_keeps 0 0 0 [.ref L, .int x] M (fun v M2 => ∃ o : Int32 × Nat × (Nat → Int32), v = some (.int o.1) ∧ Q o ∧ M2 = (P ++ (MDL L o.2.1 i_taped i_faultKind i_faultPlace i_spot i_begin i_token i_value i_bad i_full i_bandRows i_bandFirsts i_outs f_state f_was o.2.2 f_tape f_order f_rest f_ways f_costs f_bandBest f_found f_drawn f_joined f_out ++ R))) := by
  subst hM
  unfold FX12_keeps at hq
  refine xC.of (by decide) (Nat.le_of_ble_eq_true rfl) ?_
  show xW _ _ _ _ 0 [(0, .ref L), (1, .int x)] [] _ 0 0
  refine xi_aload_n 0 dX12_keeps_0 rfl ?_
  refine xi_get (f := 3) dX12_keeps_1 (xpg0 hP rfl) rfl ok_9 (by decide) w_1011 rfl ?_
  refine xi_bipush (v := 10) dX12_keeps_4 (by decide) ?_
  refine xi_icmp_ne (tgt := 50) dX12_keeps_6 (by decide) (fun c1 => ?_) (fun c1 => ?_)
  · rw [if_neg c1] at hq
    have c1n : ¬ i_keptMany = 10 := fun e => c1 (congrArg nI e)
    refine xi_iconst (v := 0) dX12_keeps_50 (by decide) ?_
    refine xi_istore_n (lv' := [(2, .int 0), (0, .ref L), (1, .int x)]) dX12_keeps_51 (by decide) rfl ?_
    refine xi_sub (lv' := [(0, .ref L), (1, .int x), (2, .int 0)]) [1, 2, 0] rfl ?_
    refine LX12_keeps_52_s G hP i_keptMany i_taped i_faultKind i_faultPlace i_spot i_begin i_token i_value i_bad i_full i_bandRows i_bandFirsts i_outs f_state f_was f_tape f_order f_rest f_ways f_costs f_bandBest f_found f_drawn f_joined f_out (by omega) (by omega) (by omega) (by omega) (by omega) (by omega) x (by omega) Q _ (fun u2 hq => ?_) (273 - 0) 0 f_kept rfl (by omega) hq
    refine xi_aload_n 0 dX12_keeps_86 rfl ?_
    refine xi_dup dX12_keeps_87 rfl ?_
    refine xi_get (f := 3) dX12_keeps_88 (xpg0 hP rfl) rfl ok_9 (by decide) w_1011 rfl ?_
    refine xi_iconst (v := 1) dX12_keeps_91 (by decide) ?_
    refine xi_iadd (v := (nI (i_keptMany + 1))) dX12_keeps_92 (nI_add i_keptMany 1) ?_
    refine xi_put (f := 3) (ty := .int) (M' := (P ++ (MDL L (i_keptMany + 1) i_taped i_faultKind i_faultPlace i_spot i_begin i_token i_value i_bad i_full i_bandRows i_bandFirsts i_outs f_state f_was u2 f_tape f_order f_rest f_ways f_costs f_bandBest f_found f_drawn f_joined f_out ++ R))) dX12_keeps_93 (xpg0 hP rfl) rfl ok_9 (by decide) w_1011 rfl pf_I (fun _ h => by cases h) rfl rfl (Nat.le_of_ble_eq_true rfl) (xps0 hP) ?_
    refine xi_iload_n 1 dX12_keeps_96 rfl ?_
    exact xi_iret dX12_keeps_97 rfl rfl (Nat.le_of_ble_eq_true rfl) (Nat.le_of_ble_eq_true rfl) ⟨_, rfl, hq, rfl⟩
  · rw [if_pos c1] at hq
    have c1n : i_keptMany = 10 := (nI_eq (a := i_keptMany) (b := 10) (by omega) (by omega)).mp c1
    refine xi_iconst (v := 0) dX12_keeps_9 (by decide) ?_
    refine xi_istore_n (lv' := [(2, .int 0), (0, .ref L), (1, .int x)]) dX12_keeps_10 (by decide) rfl ?_
    refine xi_sub (lv' := [(0, .ref L), (1, .int x), (2, .int 0)]) [1, 2, 0] rfl ?_
    refine LX12_keeps_11_s G hP i_keptMany i_taped i_faultKind i_faultPlace i_spot i_begin i_token i_value i_bad i_full i_bandRows i_bandFirsts i_outs f_state f_was f_tape f_order f_rest f_ways f_costs f_bandBest f_found f_drawn f_joined f_out (by omega) (by omega) (by omega) (by omega) (by omega) (by omega) x Q _ (fun u3 hq => ?_) (2457 - 0) 0 f_kept rfl (by omega) hq
    refine xi_aload_n 0 dX12_keeps_40 rfl ?_
    refine xi_dup dX12_keeps_41 rfl ?_
    refine xi_get (f := 3) dX12_keeps_42 (xpg0 hP rfl) rfl ok_9 (by decide) w_1011 rfl ?_
    refine xi_iconst (v := 1) dX12_keeps_45 (by decide) ?_
    refine xi_isub (v := (nI (i_keptMany - 1))) dX12_keeps_46 (pk_sub (a := i_keptMany) (b := 1) (by omega)) ?_
    refine xi_put (f := 3) (ty := .int) (M' := (P ++ (MDL L (i_keptMany - 1) i_taped i_faultKind i_faultPlace i_spot i_begin i_token i_value i_bad i_full i_bandRows i_bandFirsts i_outs f_state f_was u3 f_tape f_order f_rest f_ways f_costs f_bandBest f_found f_drawn f_joined f_out ++ R))) dX12_keeps_47 (xpg0 hP rfl) rfl ok_9 (by decide) w_1011 rfl pf_I (fun _ h => by cases h) rfl rfl (Nat.le_of_ble_eq_true rfl) (xps0 hP) ?_
    refine xi_iconst (v := 0) dX12_keeps_50 (by decide) ?_
    refine xi_istore_n (lv' := [(2, .int 0), (0, .ref L), (1, .int x)]) dX12_keeps_51 (by decide) rfl ?_
    refine xi_sub (lv' := [(0, .ref L), (1, .int x), (2, .int 0)]) [1, 2, 0] rfl ?_
    refine LX12_keeps_52_s G hP (i_keptMany - 1) i_taped i_faultKind i_faultPlace i_spot i_begin i_token i_value i_bad i_full i_bandRows i_bandFirsts i_outs f_state f_was f_tape f_order f_rest f_ways f_costs f_bandBest f_found f_drawn f_joined f_out (by omega) (by omega) (by omega) (by omega) (by omega) (by omega) x (by omega) Q _ (fun u4 hq => ?_) (273 - 0) 0 u3 rfl (by omega) hq
    refine xi_aload_n 0 dX12_keeps_86 rfl ?_
    refine xi_dup dX12_keeps_87 rfl ?_
    refine xi_get (f := 3) dX12_keeps_88 (xpg0 hP rfl) rfl ok_9 (by decide) w_1011 rfl ?_
    refine xi_iconst (v := 1) dX12_keeps_91 (by decide) ?_
    refine xi_iadd (v := (nI ((i_keptMany - 1) + 1))) dX12_keeps_92 (nI_add (i_keptMany - 1) 1) ?_
    refine xi_put (f := 3) (ty := .int) (M' := (P ++ (MDL L ((i_keptMany - 1) + 1) i_taped i_faultKind i_faultPlace i_spot i_begin i_token i_value i_bad i_full i_bandRows i_bandFirsts i_outs f_state f_was u4 f_tape f_order f_rest f_ways f_costs f_bandBest f_found f_drawn f_joined f_out ++ R))) dX12_keeps_93 (xpg0 hP rfl) rfl ok_9 (by decide) w_1011 rfl pf_I (fun _ h => by cases h) rfl rfl (Nat.le_of_ble_eq_true rfl) (xps0 hP) ?_
    refine xi_iload_n 1 dX12_keeps_96 rfl ?_
    exact xi_iret dX12_keeps_97 rfl rfl (Nat.le_of_ble_eq_true rfl) (Nat.le_of_ble_eq_true rfl) ⟨_, rfl, hq, rfl⟩
def FX12_isAt (i_taped : Nat) (i_spot : Nat) (f_tape : Nat → Int32) (x : Int32) (y : Int32) : Int32 := (if (nI i_taped) ≤ (nI i_spot) then (0 : Int32) else (if (FX12_in (((f_tape i_spot).toInt64)) x.toInt64 y.toInt64) = (0 : Int32) then (0 : Int32) else (1 : Int32)))
set_option maxHeartbeats 4000000 in
set_option maxRecDepth 100000 in
theorem FX12_isAt_ok (G : xG) {P R : xMem} {L : Nat} (hP : P.length = L) (i_keptMany : Nat) (i_taped : Nat) (i_faultKind : Int32) (i_faultPlace : Int32) (i_spot : Nat) (i_begin : Nat) (i_token : Int32) (i_value : Int32) (i_bad : Int32) (i_full : Nat) (i_bandRows : Int32) (i_bandFirsts : Int32) (i_outs : Nat) (f_state : Nat → Int32) (f_was : Nat → Int32) (f_kept : Nat → Int32) (f_tape : Nat → Int32) (f_order : Nat → Int32) (f_rest : Nat → Int32) (f_ways : Nat → Int32) (f_costs : Nat → Int32) (f_bandBest : Nat → Int32) (f_found : Nat → Int32) (f_drawn : Nat → Int32) (f_joined : Nat → Int32) (f_out : Nat → Int32) (bi_keptMany : i_keptMany ≤ 10) (bi_taped : i_taped ≤ 400) (bi_spot : i_spot ≤ 400) (bi_begin : i_begin ≤ 400) (bi_full : i_full ≤ 511) (bi_outs : i_outs ≤ 400) (x : Int32) (y : Int32) (M : xMem) (hM : M = (P ++ (MDL L i_keptMany i_taped i_faultKind i_faultPlace i_spot i_begin i_token i_value i_bad i_full i_bandRows i_bandFirsts i_outs f_state f_was f_kept f_tape f_order f_rest f_ways f_costs f_bandBest f_found f_drawn f_joined f_out ++ R))) (Q : Int32 → Prop) (hq : Q (FX12_isAt i_taped i_spot f_tape x y)) : xC G mX12_isAt 1 0 0 [.ref L, .int x, .int y] M (fun v M2 => ∃ o : Int32, v = some (.int o) ∧ Q o ∧ M2 = (P ++ (MDL L i_keptMany i_taped i_faultKind i_faultPlace i_spot i_begin i_token i_value i_bad i_full i_bandRows i_bandFirsts i_outs f_state f_was f_kept f_tape f_order f_rest f_ways f_costs f_bandBest f_found f_drawn f_joined f_out ++ R))) := by
  subst hM
  unfold FX12_isAt at hq
  refine xC.of (by decide) (Nat.le_of_ble_eq_true rfl) ?_
  show xW _ _ _ _ 0 [(0, .ref L), (1, .int x), (2, .int y)] [] _ 0 0
  refine xi_aload_n 0 dX12_isAt_0 rfl ?_
  refine xi_get (f := 8) dX12_isAt_1 (xpg0 hP rfl) rfl ok_9 (by decide) w_1016 rfl ?_
  refine xi_aload_n 0 dX12_isAt_4 rfl ?_
  refine xi_get (f := 5) dX12_isAt_5 (xpg0 hP rfl) rfl ok_9 (by decide) w_1013 rfl ?_
  refine xi_icmp_ge (tgt := 35) dX12_isAt_8 (by decide) (fun c1 => ?_) (fun c1 => ?_)
  · rw [if_pos c1] at hq
    have c1n : i_taped ≤ i_spot := (nI_leI (a := i_taped) (b := i_spot) (by omega) (by omega)).mp c1
    refine xi_iconst (v := 0) dX12_isAt_35 (by decide) ?_
    exact xi_iret dX12_isAt_36 rfl (by decide) (Nat.le_of_ble_eq_true rfl) (Nat.le_of_ble_eq_true rfl) ⟨_, rfl, hq, rfl⟩
  · rw [if_neg c1] at hq
    have c1n : ¬ i_taped ≤ i_spot := fun e => c1 ((nI_leI (a := i_taped) (b := i_spot) (by omega) (by omega)).mpr e)
    refine xi_aload_n 0 dX12_isAt_11 rfl ?_
    refine xi_get (f := 4) dX12_isAt_12 (xpg0 hP rfl) rfl ok_9 (by decide) w_1012 rfl ?_
    refine xi_aload_n 0 dX12_isAt_15 rfl ?_
    refine xi_get (f := 8) dX12_isAt_16 (xpg0 hP rfl) rfl ok_9 (by decide) w_1016 rfl ?_
    refine xi_iaload (v := (f_tape i_spot)) dX12_isAt_19 (xpg hP rfl) (vp_in_nI (by omega) (by decide)) (by rw [nI_clamp (by omega)]) ?_
    refine xi_i2l dX12_isAt_20 rfl ?_
    refine xi_iload_n 1 dX12_isAt_21 rfl ?_
    refine xi_i2l dX12_isAt_22 rfl ?_
    refine xi_iload_n 2 dX12_isAt_23 rfl ?_
    refine xi_i2l dX12_isAt_24 rfl ?_
    refine xi_callS (as := [.long ((f_tape i_spot).toInt64), .long x.toInt64, .long y.toInt64]) (rest := []) dX12_isAt_25 (FX12_in_ok G (((f_tape i_spot).toInt64)) x.toInt64 y.toInt64 (fun r => r = FX12_in (((f_tape i_spot).toInt64)) x.toInt64 y.toInt64) rfl) mkX12_in w_1100 w_1099 rfl rfl (Nat.le_of_ble_eq_true rfl) (Nat.le_of_ble_eq_true rfl) (Nat.le_of_ble_eq_true rfl) (Nat.le_of_ble_eq_true rfl) (Nat.le_of_ble_eq_true rfl) ?_
    intro v M2 hz
    obtain ⟨_, rfl, rfl, hM2⟩ := hz
    rw [hM2]
    show xW _ _ _ _ 28 _ [.int (FX12_in (((f_tape i_spot).toInt64)) x.toInt64 y.toInt64)] (P ++ (MDL L i_keptMany i_taped i_faultKind i_faultPlace i_spot i_begin i_token i_value i_bad i_full i_bandRows i_bandFirsts i_outs f_state f_was f_kept f_tape f_order f_rest f_ways f_costs f_bandBest f_found f_drawn f_joined f_out ++ R)) _ _
    refine xi_if_eq (tgt := 35) dX12_isAt_28 (by decide) (fun c2 => ?_) (fun c2 => ?_)
    · rw [if_pos c2] at hq
      refine xi_iconst (v := 0) dX12_isAt_35 (by decide) ?_
      exact xi_iret dX12_isAt_36 rfl (by decide) (Nat.le_of_ble_eq_true rfl) (Nat.le_of_ble_eq_true rfl) ⟨_, rfl, hq, rfl⟩
    · rw [if_neg c2] at hq
      refine xi_iconst (v := 1) dX12_isAt_31 (by decide) ?_
      refine xi_goto (tgt := 36) dX12_isAt_32 (by decide) ?_
      exact xi_iret dX12_isAt_36 rfl (by decide) (Nat.le_of_ble_eq_true rfl) (Nat.le_of_ble_eq_true rfl) ⟨_, rfl, hq, rfl⟩
theorem FX12_isAt_b (i_taped : Nat) (i_spot : Nat) (f_tape : Nat → Int32) (x : Int32) (y : Int32) : FX12_isAt i_taped i_spot f_tape x y = 0 ∨ FX12_isAt i_taped i_spot f_tape x y = 1 := by
  unfold FX12_isAt
  (repeat' split) <;> first | exact Or.inl rfl | exact Or.inr rfl
def FX12_faults (i_faultKind : Int32) (i_faultPlace : Int32) (i_begin : Nat) (i_bad : Int32) (x : Int32) : Int32 × Int32 × Int32 × Int32 := (if i_bad = (0 : Int32) then (0, (1 : Int32), x, (nI i_begin)) else (0, i_bad, i_faultKind, i_faultPlace))
set_option maxHeartbeats 4000000 in
set_option maxRecDepth 100000 in
theorem FX12_faults_ok (G : xG) {P R : xMem} {L : Nat} (hP : P.length = L) (i_keptMany : Nat) (i_taped : Nat) (i_faultKind : Int32) (i_faultPlace : Int32) (i_spot : Nat) (i_begin : Nat) (i_token : Int32) (i_value : Int32) (i_bad : Int32) (i_full : Nat) (i_bandRows : Int32) (i_bandFirsts : Int32) (i_outs : Nat) (f_state : Nat → Int32) (f_was : Nat → Int32) (f_kept : Nat → Int32) (f_tape : Nat → Int32) (f_order : Nat → Int32) (f_rest : Nat → Int32) (f_ways : Nat → Int32) (f_costs : Nat → Int32) (f_bandBest : Nat → Int32) (f_found : Nat → Int32) (f_drawn : Nat → Int32) (f_joined : Nat → Int32) (f_out : Nat → Int32) (bi_keptMany : i_keptMany ≤ 10) (bi_taped : i_taped ≤ 400) (bi_spot : i_spot ≤ 400) (bi_begin : i_begin ≤ 400) (bi_full : i_full ≤ 511) (bi_outs : i_outs ≤ 400) (x : Int32) (M : xMem) (hM : M = (P ++ (MDL L i_keptMany i_taped i_faultKind i_faultPlace i_spot i_begin i_token i_value i_bad i_full i_bandRows i_bandFirsts i_outs f_state f_was f_kept f_tape f_order f_rest f_ways f_costs f_bandBest f_found f_drawn f_joined f_out ++ R))) (Q : Int32 × Int32 × Int32 × Int32 → Prop) (hq : Q (FX12_faults i_faultKind i_faultPlace i_begin i_bad x)) : xC G mX12_faults 0 0 0 [.ref L, .int x] M (fun v M2 => ∃ o : Int32 × Int32 × Int32 × Int32, v = none ∧ Q o ∧ M2 = (P ++ (MDL L i_keptMany i_taped o.2.2.1 o.2.2.2 i_spot i_begin i_token i_value o.2.1 i_full i_bandRows i_bandFirsts i_outs f_state f_was f_kept f_tape f_order f_rest f_ways f_costs f_bandBest f_found f_drawn f_joined f_out ++ R))) := by
  subst hM
  unfold FX12_faults at hq
  refine xC.of (by decide) (Nat.le_of_ble_eq_true rfl) ?_
  show xW _ _ _ _ 0 [(0, .ref L), (1, .int x)] [] _ 0 0
  refine xi_aload_n 0 dX12_faults_0 rfl ?_
  refine xi_get (f := 12) dX12_faults_1 (xpg0 hP rfl) rfl ok_9 (by decide) w_1020 rfl ?_
  refine xi_if_ne (tgt := 25) dX12_faults_4 (by decide) (fun c1 => ?_) (fun c1 => ?_)
  · rw [if_neg c1] at hq
    exact xi_vret dX12_faults_25 rfl (Nat.le_of_ble_eq_true rfl) (Nat.le_of_ble_eq_true rfl) ⟨_, rfl, hq, rfl⟩
  · rw [if_pos c1] at hq
    refine xi_aload_n 0 dX12_faults_7 rfl ?_
    refine xi_iconst (v := 1) dX12_faults_8 (by decide) ?_
    refine xi_put (f := 12) (ty := .boolean) (M' := (P ++ (MDL L i_keptMany i_taped i_faultKind i_faultPlace i_spot i_begin i_token i_value ((1 : Int32)) i_full i_bandRows i_bandFirsts i_outs f_state f_was f_kept f_tape f_order f_rest f_ways f_costs f_bandBest f_found f_drawn f_joined f_out ++ R))) dX12_faults_9 (xpg0 hP rfl) rfl ok_9 (by decide) w_1020 rfl pf_Z (fun _ h => by cases h) rfl rfl (Nat.le_of_ble_eq_true rfl) (xps0 hP) ?_
    refine xi_aload_n 0 dX12_faults_12 rfl ?_
    refine xi_iload_n 1 dX12_faults_13 rfl ?_
    refine xi_put (f := 6) (ty := .int) (M' := (P ++ (MDL L i_keptMany i_taped x i_faultPlace i_spot i_begin i_token i_value ((1 : Int32)) i_full i_bandRows i_bandFirsts i_outs f_state f_was f_kept f_tape f_order f_rest f_ways f_costs f_bandBest f_found f_drawn f_joined f_out ++ R))) dX12_faults_14 (xpg0 hP rfl) rfl ok_9 (by decide) w_1014 rfl pf_I (fun _ h => by cases h) rfl rfl (Nat.le_of_ble_eq_true rfl) (xps0 hP) ?_
    refine xi_aload_n 0 dX12_faults_17 rfl ?_
    refine xi_aload_n 0 dX12_faults_18 rfl ?_
    refine xi_get (f := 9) dX12_faults_19 (xpg0 hP rfl) rfl ok_9 (by decide) w_1017 rfl ?_
    refine xi_put (f := 7) (ty := .int) (M' := (P ++ (MDL L i_keptMany i_taped x ((nI i_begin)) i_spot i_begin i_token i_value ((1 : Int32)) i_full i_bandRows i_bandFirsts i_outs f_state f_was f_kept f_tape f_order f_rest f_ways f_costs f_bandBest f_found f_drawn f_joined f_out ++ R))) dX12_faults_22 (xpg0 hP rfl) rfl ok_9 (by decide) w_1015 rfl pf_I (fun _ h => by cases h) rfl rfl (Nat.le_of_ble_eq_true rfl) (xps0 hP) ?_
    exact xi_vret dX12_faults_25 rfl (Nat.le_of_ble_eq_true rfl) (Nat.le_of_ble_eq_true rfl) ⟨_, rfl, hq, rfl⟩
def LX12_done_2 (i_keptMany : Nat) (f_state : Nat → Int32) (f_was : Nat → Int32) (f_kept : Nat → Int32) (w1 : Int32) (K : Int32 × Nat × (Nat → Int32)) : Nat → Nat → Int32 × Nat × (Nat → Int32)
  | 0, _ => K
  | k + 1, j => (if (f_was j) = (f_state j) then (LX12_done_2 i_keptMany f_state f_was f_kept w1 K k (j + 1)) else (((FX12_keeps i_keptMany f_was f_kept w1).1), (FX12_keeps i_keptMany f_was f_kept w1).2.1, (FX12_keeps i_keptMany f_was f_kept w1).2.2))
set_option maxHeartbeats 4000000 in
set_option maxRecDepth 100000 in
theorem LX12_done_2_s (G : xG) {P R : xMem} {L : Nat} (hP : P.length = L) (i_keptMany : Nat) (i_taped : Nat) (i_faultKind : Int32) (i_faultPlace : Int32) (i_spot : Nat) (i_begin : Nat) (i_token : Int32) (i_value : Int32) (i_bad : Int32) (i_full : Nat) (i_bandRows : Int32) (i_bandFirsts : Int32) (i_outs : Nat) (f_state : Nat → Int32) (f_was : Nat → Int32) (f_kept : Nat → Int32) (f_tape : Nat → Int32) (f_order : Nat → Int32) (f_rest : Nat → Int32) (f_ways : Nat → Int32) (f_costs : Nat → Int32) (f_bandBest : Nat → Int32) (f_found : Nat → Int32) (f_drawn : Nat → Int32) (f_joined : Nat → Int32) (f_out : Nat → Int32) (bi_keptMany : i_keptMany ≤ 10) (bi_taped : i_taped ≤ 400) (bi_spot : i_spot ≤ 400) (bi_begin : i_begin ≤ 400) (bi_full : i_full ≤ 511) (bi_outs : i_outs ≤ 400) (w1 : Int32) (Q : Int32 × Nat × (Nat → Int32) → Prop) (K : Int32 × Nat × (Nat → Int32)) (HE : Q (K) → xW G mX12_done (xrm 1 0 0) (xQ G (fun v M2 => ∃ o : Int32 × Nat × (Nat → Int32), v = some (.int o.1) ∧ Q o ∧ M2 = (P ++ (MDL L o.2.1 i_taped i_faultKind i_faultPlace i_spot i_begin i_token i_value i_bad i_full i_bandRows i_bandFirsts i_outs f_state f_was o.2.2 f_tape f_order f_rest f_ways f_costs f_bandBest f_found f_drawn f_joined f_out ++ R))) 0 0) 36 [(1, .int w1)] [] (P ++ (MDL L i_keptMany i_taped i_faultKind i_faultPlace i_spot i_begin i_token i_value i_bad i_full i_bandRows i_bandFirsts i_outs f_state f_was f_kept f_tape f_order f_rest f_ways f_costs f_bandBest f_found f_drawn f_joined f_out ++ R)) 0 0) :
    ∀ (k j : Nat), 273 - j = k → j < 100000 → Q (LX12_done_2 i_keptMany f_state f_was f_kept w1 K k j) → xW G mX12_done (xrm 1 0 0) (xQ G (fun v M2 => ∃ o : Int32 × Nat × (Nat → Int32), v = some (.int o.1) ∧ Q o ∧ M2 = (P ++ (MDL L o.2.1 i_taped i_faultKind i_faultPlace i_spot i_begin i_token i_value i_bad i_full i_bandRows i_bandFirsts i_outs f_state f_was o.2.2 f_tape f_order f_rest f_ways f_costs f_bandBest f_found f_drawn f_joined f_out ++ R))) 0 0) 2 [(0, .ref L), (1, .int w1), (2, .int (nI j))] [] (P ++ (MDL L i_keptMany i_taped i_faultKind i_faultPlace i_spot i_begin i_token i_value i_bad i_full i_bandRows i_bandFirsts i_outs f_state f_was f_kept f_tape f_order f_rest f_ways f_costs f_bandBest f_found f_drawn f_joined f_out ++ R)) 0 0 := by
  intro k
  induction k with
  | zero =>
    intro j hj hj2 hq
    rw [LX12_done_2] at hq
    refine xi_iload_n 2 dX12_done_2 rfl ?_
    refine xi_sipush (v := 273) dX12_done_3 (by decide) ?_
    refine xi_icmp_ge_t (tgt := 36) dX12_done_6 (by decide) (nI_le (a := 273) (b := j) (by omega) (by omega)) ?_
    refine xi_sub (lv' := [(1, .int w1)]) [1] rfl ?_
    exact HE hq
  | succ k ih =>
    intro j hj hj2 hq
    rw [LX12_done_2] at hq
    refine xi_iload_n 2 dX12_done_2 rfl ?_
    refine xi_sipush (v := 273) dX12_done_3 (by decide) ?_
    refine xi_icmp_ge_f (tgt := 36) dX12_done_6 (by decide) (nI_ge (a := j) (b := 273) (by omega) (by omega)) ?_
    refine xi_aload_n 0 dX12_done_9 rfl ?_
    refine xi_get (f := 1) dX12_done_10 (xpg0 hP rfl) rfl ok_9 (by decide) w_1009 rfl ?_
    refine xi_iload_n 2 dX12_done_13 rfl ?_
    refine xi_iaload (v := (f_was j)) dX12_done_14 (xpg hP rfl) (vp_in_nI (by omega) (by decide)) (by rw [nI_clamp (by omega)]) ?_
    refine xi_aload_n 0 dX12_done_15 rfl ?_
    refine xi_get (f := 0) dX12_done_16 (xpg0 hP rfl) rfl ok_9 (by decide) w_1008 rfl ?_
    refine xi_iload_n 2 dX12_done_19 rfl ?_
    refine xi_iaload (v := (f_state j)) dX12_done_20 (xpg hP rfl) (vp_in_nI (by omega) (by decide)) (by rw [nI_clamp (by omega)]) ?_
    refine xi_icmp_eq (tgt := 30) dX12_done_21 (by decide) (fun c1 => ?_) (fun c1 => ?_)
    · rw [if_pos c1] at hq
      refine xi_iinc (v := (nI (j + 1))) (lv' := [(2, .int (nI (j + 1))), (0, .ref L), (1, .int w1)]) 2 dX12_done_30 rfl (nI_1 _) (by decide) rfl ?_
      refine xi_goto (tgt := 2) dX12_done_33 (by decide) ?_
      refine xi_sub (lv' := [(0, .ref L), (1, .int w1), (2, .int (nI (j + 1)))]) [1, 2, 0] rfl ?_
      exact ih (j + 1) (by omega) (by omega) hq
    · rw [if_neg c1] at hq
      refine xi_aload_n 0 dX12_done_24 rfl ?_
      refine xi_iload_n 1 dX12_done_25 rfl ?_
      refine xi_callV (as := [.int w1]) (rest := []) dX12_done_26 (FX12_keeps_ok G hP i_keptMany i_taped i_faultKind i_faultPlace i_spot i_begin i_token i_value i_bad i_full i_bandRows i_bandFirsts i_outs f_state f_was f_kept f_tape f_order f_rest f_ways f_costs f_bandBest f_found f_drawn f_joined f_out (by omega) (by omega) (by omega) (by omega) (by omega) (by omega) w1 _ rfl (fun r => r = FX12_keeps i_keptMany f_was f_kept w1) rfl) mkX12_keeps w_1120 ws_39 w_1118 (xpg0 hP rfl) rfl rfl rfl rfl (Nat.le_of_ble_eq_true rfl) (Nat.le_of_ble_eq_true rfl) (Nat.le_of_ble_eq_true rfl) (Nat.le_of_ble_eq_true rfl) (Nat.le_of_ble_eq_true rfl) ?_
      intro v M2 hz
      obtain ⟨_, rfl, rfl, rfl⟩ := hz
      show xW _ _ _ _ 29 _ [.int ((FX12_keeps i_keptMany f_was f_kept w1).1)] (P ++ (MDL L ((FX12_keeps i_keptMany f_was f_kept w1).2.1) i_taped i_faultKind i_faultPlace i_spot i_begin i_token i_value i_bad i_full i_bandRows i_bandFirsts i_outs f_state f_was ((FX12_keeps i_keptMany f_was f_kept w1).2.2) f_tape f_order f_rest f_ways f_costs f_bandBest f_found f_drawn f_joined f_out ++ R)) _ _
      exact xi_iret dX12_done_29 rfl rfl (Nat.le_of_ble_eq_true rfl) (Nat.le_of_ble_eq_true rfl) ⟨_, rfl, hq, rfl⟩
def FX12_done (i_keptMany : Nat) (f_state : Nat → Int32) (f_was : Nat → Int32) (f_kept : Nat → Int32) (x : Int32) : Int32 × Nat × (Nat → Int32) := (LX12_done_2 i_keptMany f_state f_was f_kept x ((x, i_keptMany, f_kept)) (273 - 0) 0)
set_option maxHeartbeats 4000000 in
set_option maxRecDepth 100000 in
theorem FX12_done_ok (G : xG) {P R : xMem} {L : Nat} (hP : P.length = L) (i_keptMany : Nat) (i_taped : Nat) (i_faultKind : Int32) (i_faultPlace : Int32) (i_spot : Nat) (i_begin : Nat) (i_token : Int32) (i_value : Int32) (i_bad : Int32) (i_full : Nat) (i_bandRows : Int32) (i_bandFirsts : Int32) (i_outs : Nat) (f_state : Nat → Int32) (f_was : Nat → Int32) (f_kept : Nat → Int32) (f_tape : Nat → Int32) (f_order : Nat → Int32) (f_rest : Nat → Int32) (f_ways : Nat → Int32) (f_costs : Nat → Int32) (f_bandBest : Nat → Int32) (f_found : Nat → Int32) (f_drawn : Nat → Int32) (f_joined : Nat → Int32) (f_out : Nat → Int32) (bi_keptMany : i_keptMany ≤ 10) (bi_taped : i_taped ≤ 400) (bi_spot : i_spot ≤ 400) (bi_begin : i_begin ≤ 400) (bi_full : i_full ≤ 511) (bi_outs : i_outs ≤ 400) (x : Int32) (M : xMem) (hM : M = (P ++ (MDL L i_keptMany i_taped i_faultKind i_faultPlace i_spot i_begin i_token i_value i_bad i_full i_bandRows i_bandFirsts i_outs f_state f_was f_kept f_tape f_order f_rest f_ways f_costs f_bandBest f_found f_drawn f_joined f_out ++ R))) (Q : Int32 × Nat × (Nat → Int32) → Prop) (hq : Q (FX12_done i_keptMany f_state f_was f_kept x)) : xC G mX12_done 1 0 0 [.ref L, .int x] M (fun v M2 => ∃ o : Int32 × Nat × (Nat → Int32), v = some (.int o.1) ∧ Q o ∧ M2 = (P ++ (MDL L o.2.1 i_taped i_faultKind i_faultPlace i_spot i_begin i_token i_value i_bad i_full i_bandRows i_bandFirsts i_outs f_state f_was o.2.2 f_tape f_order f_rest f_ways f_costs f_bandBest f_found f_drawn f_joined f_out ++ R))) := by
  subst hM
  unfold FX12_done at hq
  refine xC.of (by decide) (Nat.le_of_ble_eq_true rfl) ?_
  show xW _ _ _ _ 0 [(0, .ref L), (1, .int x)] [] _ 0 0
  refine xi_iconst (v := 0) dX12_done_0 (by decide) ?_
  refine xi_istore_n (lv' := [(2, .int 0), (0, .ref L), (1, .int x)]) dX12_done_1 (by decide) rfl ?_
  refine xi_sub (lv' := [(0, .ref L), (1, .int x), (2, .int 0)]) [1, 2, 0] rfl ?_
  refine LX12_done_2_s G hP i_keptMany i_taped i_faultKind i_faultPlace i_spot i_begin i_token i_value i_bad i_full i_bandRows i_bandFirsts i_outs f_state f_was f_kept f_tape f_order f_rest f_ways f_costs f_bandBest f_found f_drawn f_joined f_out (by omega) (by omega) (by omega) (by omega) (by omega) (by omega) x Q _ (fun hq => ?_) (273 - 0) 0 rfl (by omega) hq
  refine xi_iload_n 0 dX12_done_36 rfl ?_
  exact xi_iret dX12_done_37 rfl rfl (Nat.le_of_ble_eq_true rfl) (Nat.le_of_ble_eq_true rfl) ⟨_, rfl, hq, rfl⟩
theorem lgN (x y : Int64) : lg_cmp x y < 0 ↔ x < y := by
  unfold lg_cmp
  by_cases h1 : y < x
  · have h2 : ¬ x < y := fun h => by rw [Int64.lt_iff_toInt_lt] at h h1; omega
    rw [if_pos h1]
    exact ⟨fun h => absurd h (by decide), fun h => absurd h h2⟩
  · by_cases h2 : x = y
    · subst h2
      rw [if_neg h1, if_pos rfl]
      exact ⟨fun h => absurd h (by decide), fun h => absurd h h1⟩
    · rw [if_neg h1, if_neg h2]
      refine ⟨fun _ => ?_, fun _ => by decide⟩
      have h3 : x.toInt ≠ y.toInt := fun e => h2 (Int64.toInt_inj.mp e)
      rw [Int64.lt_iff_toInt_lt] at h1 ⊢
      omega
theorem lgP (x y : Int64) : 0 < lg_cmp x y ↔ y < x := by
  unfold lg_cmp
  by_cases h1 : y < x
  · rw [if_pos h1]
    exact ⟨fun _ => h1, fun _ => by decide⟩
  · by_cases h2 : x = y
    · rw [if_neg h1, if_pos h2]
      exact ⟨fun h => absurd h (by decide), fun h => absurd h h1⟩
    · rw [if_neg h1, if_neg h2]
      exact ⟨fun h => absurd h (by decide), fun h => absurd h h1⟩
/-- in(v, low, high) says what it should -/
theorem in_iff (x y t : Int64) : ¬ FX12_in x y t = 0 ↔ y.toInt ≤ x.toInt ∧ x.toInt ≤ t.toInt := by
  unfold FX12_in
  by_cases c1 : lg_cmp x y < 0
  · rw [if_pos c1]
    rw [lgN, Int64.lt_iff_toInt_lt] at c1
    exact ⟨fun h => absurd rfl h, fun h => by omega⟩
  · rw [if_neg c1]
    rw [lgN, Int64.lt_iff_toInt_lt] at c1
    by_cases c2 : 0 < lg_cmp x t
    · rw [if_pos c2]
      rw [lgP, Int64.lt_iff_toInt_lt] at c2
      exact ⟨fun h => absurd rfl h, fun h => by omega⟩
    · rw [if_neg c2]
      rw [lgP, Int64.lt_iff_toInt_lt] at c2
      exact ⟨fun _ => by omega, fun _ => by decide⟩
theorem slot_in {x : Int32} (h : ¬ FX12_isSlot x = 0) : ∃ e, e < 3 ∧ x = nI e := by
  have h1 := (in_iff _ _ _).mp h
  rw [Int32.toInt_toInt64] at h1
  have e0 : (0 : Int64).toInt = 0 := by decide
  have e2 : (2 : Int64).toInt = 2 := by decide
  have h0 : ¬ x < 0 := fun q => by rw [Int32.lt_iff_toInt_lt] at q; have e3 : (0 : Int32).toInt = 0 := by decide
                                   omega
  obtain ⟨j, hj, rfl⟩ := nI_of h0
  rw [nI_toInt hj] at h1
  exact ⟨j, by omega, rfl⟩
def FX12_isNet (f_state : Nat → Int32) (x : Int32) : Int32 := (if (FX12_isSlot x) = (0 : Int32) then (0 : Int32) else (if (nI ((f_state (91 * x.toNatClampNeg)).toNatClampNeg)) ≤ (0 : Int32) then (0 : Int32) else (1 : Int32)))
set_option maxHeartbeats 4000000 in
set_option maxRecDepth 100000 in
theorem FX12_isNet_ok (G : xG) {P R : xMem} {L : Nat} (hP : P.length = L) (i_keptMany : Nat) (i_taped : Nat) (i_faultKind : Int32) (i_faultPlace : Int32) (i_spot : Nat) (i_begin : Nat) (i_token : Int32) (i_value : Int32) (i_bad : Int32) (i_full : Nat) (i_bandRows : Int32) (i_bandFirsts : Int32) (i_outs : Nat) (f_state : Nat → Int32) (f_was : Nat → Int32) (f_kept : Nat → Int32) (f_tape : Nat → Int32) (f_order : Nat → Int32) (f_rest : Nat → Int32) (f_ways : Nat → Int32) (f_costs : Nat → Int32) (f_bandBest : Nat → Int32) (f_found : Nat → Int32) (f_drawn : Nat → Int32) (f_joined : Nat → Int32) (f_out : Nat → Int32) (bi_keptMany : i_keptMany ≤ 10) (bi_taped : i_taped ≤ 400) (bi_spot : i_spot ≤ 400) (bi_begin : i_begin ≤ 400) (bi_full : i_full ≤ 511) (bi_outs : i_outs ≤ 400) (hG : GO f_state) (x : Int32) (M : xMem) (hM : M = (P ++ (MDL L i_keptMany i_taped i_faultKind i_faultPlace i_spot i_begin i_token i_value i_bad i_full i_bandRows i_bandFirsts i_outs f_state f_was f_kept f_tape f_order f_rest f_ways f_costs f_bandBest f_found f_drawn f_joined f_out ++ R))) (Q : Int32 → Prop) (hq : Q (FX12_isNet f_state x)) : xC G mX12_isNet 2 0 0 [.ref L, .int x] M (fun v M2 => ∃ o : Int32, v = some (.int o) ∧ Q o ∧ M2 = (P ++ (MDL L i_keptMany i_taped i_faultKind i_faultPlace i_spot i_begin i_token i_value i_bad i_full i_bandRows i_bandFirsts i_outs f_state f_was f_kept f_tape f_order f_rest f_ways f_costs f_bandBest f_found f_drawn f_joined f_out ++ R))) := by
  subst hM
  unfold FX12_isNet at hq
  refine xC.of (by decide) (Nat.le_of_ble_eq_true rfl) ?_
  show xW _ _ _ _ 0 [(0, .ref L), (1, .int x)] [] _ 0 0
  refine xi_iload_n 1 dX12_isNet_0 rfl ?_
  refine xi_callS (as := [.int x]) (rest := []) dX12_isNet_1 (FX12_isSlot_ok G x (fun r => r = FX12_isSlot x) rfl) mkX12_isSlot w_1096 w_1095 rfl rfl (Nat.le_of_ble_eq_true rfl) (Nat.le_of_ble_eq_true rfl) (Nat.le_of_ble_eq_true rfl) (Nat.le_of_ble_eq_true rfl) (Nat.le_of_ble_eq_true rfl) ?_
  intro v M2 hz
  obtain ⟨_, rfl, rfl, hM2⟩ := hz
  rw [hM2]
  show xW _ _ _ _ 4 _ [.int (FX12_isSlot x)] (P ++ (MDL L i_keptMany i_taped i_faultKind i_faultPlace i_spot i_begin i_token i_value i_bad i_full i_bandRows i_bandFirsts i_outs f_state f_was f_kept f_tape f_order f_rest f_ways f_costs f_bandBest f_found f_drawn f_joined f_out ++ R)) _ _
  refine xi_if_eq (tgt := 19) dX12_isNet_4 (by decide) (fun c1 => ?_) (fun c1 => ?_)
  · rw [if_pos c1] at hq
    refine xi_iconst (v := 0) dX12_isNet_19 (by decide) ?_
    exact xi_iret dX12_isNet_20 rfl (by decide) (Nat.le_of_ble_eq_true rfl) (Nat.le_of_ble_eq_true rfl) ⟨_, rfl, hq, rfl⟩
  · rw [if_neg c1] at hq
    obtain ⟨e2, e2b, e2h⟩ := slot_in c1
    have e2c : x.toNatClampNeg = e2 := by rw [e2h]; exact nI_clamp (by omega)
    try rw [e2c] at hq
    subst e2h
    refine xi_aload_n 0 dX12_isNet_7 rfl ?_
    refine xi_iload_n 1 dX12_isNet_8 rfl ?_
    refine xi_callV (as := [.int (nI e2)]) (rest := []) dX12_isNet_9 (FX12_points_ok G hP i_keptMany i_taped i_faultKind i_faultPlace i_spot i_begin i_token i_value i_bad i_full i_bandRows i_bandFirsts i_outs f_state f_was f_kept f_tape f_order f_rest f_ways f_costs f_bandBest f_found f_drawn f_joined f_out (by omega) (by omega) (by omega) (by omega) (by omega) (by omega) e2 (by omega) _ rfl (fun r => r = nI ((f_state (91 * e2)).toNatClampNeg)) ((hG e2 (by omega)).1.1)) mkX12_points w_1108 ws_36 w_1106 (xpg0 hP rfl) rfl rfl rfl rfl (Nat.le_of_ble_eq_true rfl) (Nat.le_of_ble_eq_true rfl) (Nat.le_of_ble_eq_true rfl) (Nat.le_of_ble_eq_true rfl) (Nat.le_of_ble_eq_true rfl) ?_
    intro v M2 hz
    obtain ⟨_, rfl, rfl, rfl⟩ := hz
    show xW _ _ _ _ 12 _ [.int (nI ((f_state (91 * e2)).toNatClampNeg))] (P ++ (MDL L i_keptMany i_taped i_faultKind i_faultPlace i_spot i_begin i_token i_value i_bad i_full i_bandRows i_bandFirsts i_outs f_state f_was f_kept f_tape f_order f_rest f_ways f_costs f_bandBest f_found f_drawn f_joined f_out ++ R)) _ _
    have o3 := (hG e2 (by omega)).1.2
    refine xi_if_le (tgt := 19) dX12_isNet_12 (by decide) (fun c4 => ?_) (fun c4 => ?_)
    · rw [if_pos c4] at hq
      have c4n : ((f_state (91 * e2)).toNatClampNeg) ≤ 0 := (nI_leI (a := ((f_state (91 * e2)).toNatClampNeg)) (b := 0) (by omega) (by omega)).mp c4
      refine xi_iconst (v := 0) dX12_isNet_19 (by decide) ?_
      exact xi_iret dX12_isNet_20 rfl (by decide) (Nat.le_of_ble_eq_true rfl) (Nat.le_of_ble_eq_true rfl) ⟨_, rfl, hq, rfl⟩
    · rw [if_neg c4] at hq
      have c4n : ¬ ((f_state (91 * e2)).toNatClampNeg) ≤ 0 := fun e => c4 ((nI_leI (a := ((f_state (91 * e2)).toNatClampNeg)) (b := 0) (by omega) (by omega)).mpr e)
      refine xi_iconst (v := 1) dX12_isNet_15 (by decide) ?_
      refine xi_goto (tgt := 20) dX12_isNet_16 (by decide) ?_
      exact xi_iret dX12_isNet_20 rfl (by decide) (Nat.le_of_ble_eq_true rfl) (Nat.le_of_ble_eq_true rfl) ⟨_, rfl, hq, rfl⟩
theorem FX12_isNet_b (f_state : Nat → Int32) (x : Int32) : FX12_isNet f_state x = 0 ∨ FX12_isNet f_state x = 1 := by
  unfold FX12_isNet
  (repeat' split) <;> first | exact Or.inl rfl | exact Or.inr rfl
theorem net_in {g : Nat → Int32} {x : Int32} (h : ¬ FX12_isNet g x = 0) : ∃ e, e < 3 ∧ x = nI e := by
  unfold FX12_isNet at h
  by_cases c : FX12_isSlot x = 0
  · rw [if_pos c] at h
    exact absurd rfl h
  · exact slot_in c
def FX12_isPoint (f_state : Nat → Int32) (x : Int32) (y : Int32) : Int32 := (if (FX12_isNet f_state x) = (0 : Int32) then (0 : Int32) else (if (FX12_in y.toInt64 ((0 : Int64)) ((((nI ((f_state (91 * x.toNatClampNeg)).toNatClampNeg)) - (1 : Int32)).toInt64))) = (0 : Int32) then (0 : Int32) else (1 : Int32)))
set_option maxHeartbeats 4000000 in
set_option maxRecDepth 100000 in
theorem FX12_isPoint_ok (G : xG) {P R : xMem} {L : Nat} (hP : P.length = L) (i_keptMany : Nat) (i_taped : Nat) (i_faultKind : Int32) (i_faultPlace : Int32) (i_spot : Nat) (i_begin : Nat) (i_token : Int32) (i_value : Int32) (i_bad : Int32) (i_full : Nat) (i_bandRows : Int32) (i_bandFirsts : Int32) (i_outs : Nat) (f_state : Nat → Int32) (f_was : Nat → Int32) (f_kept : Nat → Int32) (f_tape : Nat → Int32) (f_order : Nat → Int32) (f_rest : Nat → Int32) (f_ways : Nat → Int32) (f_costs : Nat → Int32) (f_bandBest : Nat → Int32) (f_found : Nat → Int32) (f_drawn : Nat → Int32) (f_joined : Nat → Int32) (f_out : Nat → Int32) (bi_keptMany : i_keptMany ≤ 10) (bi_taped : i_taped ≤ 400) (bi_spot : i_spot ≤ 400) (bi_begin : i_begin ≤ 400) (bi_full : i_full ≤ 511) (bi_outs : i_outs ≤ 400) (hG : GO f_state) (x : Int32) (y : Int32) (M : xMem) (hM : M = (P ++ (MDL L i_keptMany i_taped i_faultKind i_faultPlace i_spot i_begin i_token i_value i_bad i_full i_bandRows i_bandFirsts i_outs f_state f_was f_kept f_tape f_order f_rest f_ways f_costs f_bandBest f_found f_drawn f_joined f_out ++ R))) (Q : Int32 → Prop) (hq : Q (FX12_isPoint f_state x y)) : xC G mX12_isPoint 3 0 0 [.ref L, .int x, .int y] M (fun v M2 => ∃ o : Int32, v = some (.int o) ∧ Q o ∧ M2 = (P ++ (MDL L i_keptMany i_taped i_faultKind i_faultPlace i_spot i_begin i_token i_value i_bad i_full i_bandRows i_bandFirsts i_outs f_state f_was f_kept f_tape f_order f_rest f_ways f_costs f_bandBest f_found f_drawn f_joined f_out ++ R))) := by
  subst hM
  unfold FX12_isPoint at hq
  refine xC.of (by decide) (Nat.le_of_ble_eq_true rfl) ?_
  show xW _ _ _ _ 0 [(0, .ref L), (1, .int x), (2, .int y)] [] _ 0 0
  refine xi_aload_n 0 dX12_isPoint_0 rfl ?_
  refine xi_iload_n 1 dX12_isPoint_1 rfl ?_
  refine xi_callV (as := [.int x]) (rest := []) dX12_isPoint_2 (FX12_isNet_ok G hP i_keptMany i_taped i_faultKind i_faultPlace i_spot i_begin i_token i_value i_bad i_full i_bandRows i_bandFirsts i_outs f_state f_was f_kept f_tape f_order f_rest f_ways f_costs f_bandBest f_found f_drawn f_joined f_out (by omega) (by omega) (by omega) (by omega) (by omega) (by omega) hG x _ rfl (fun r => r = FX12_isNet f_state x) rfl) mkX12_isNet w_1104 ws_35 w_1102 (xpg0 hP rfl) rfl rfl rfl rfl (Nat.le_of_ble_eq_true rfl) (Nat.le_of_ble_eq_true rfl) (Nat.le_of_ble_eq_true rfl) (Nat.le_of_ble_eq_true rfl) (Nat.le_of_ble_eq_true rfl) ?_
  intro v M2 hz
  obtain ⟨_, rfl, rfl, rfl⟩ := hz
  show xW _ _ _ _ 5 _ [.int (FX12_isNet f_state x)] (P ++ (MDL L i_keptMany i_taped i_faultKind i_faultPlace i_spot i_begin i_token i_value i_bad i_full i_bandRows i_bandFirsts i_outs f_state f_was f_kept f_tape f_order f_rest f_ways f_costs f_bandBest f_found f_drawn f_joined f_out ++ R)) _ _
  refine xi_if_eq (tgt := 29) dX12_isPoint_5 (by decide) (fun c1 => ?_) (fun c1 => ?_)
  · rw [if_pos c1] at hq
    refine xi_iconst (v := 0) dX12_isPoint_29 (by decide) ?_
    exact xi_iret dX12_isPoint_30 rfl (by decide) (Nat.le_of_ble_eq_true rfl) (Nat.le_of_ble_eq_true rfl) ⟨_, rfl, hq, rfl⟩
  · rw [if_neg c1] at hq
    obtain ⟨e2, e2b, e2h⟩ := net_in c1
    have e2c : x.toNatClampNeg = e2 := by rw [e2h]; exact nI_clamp (by omega)
    try rw [e2c] at hq
    subst e2h
    refine xi_iload_n 2 dX12_isPoint_8 rfl ?_
    refine xi_i2l dX12_isPoint_9 rfl ?_
    refine xi_lconst (v := 0) dX12_isPoint_10 (by decide) ?_
    refine xi_aload_n 0 dX12_isPoint_11 rfl ?_
    refine xi_iload_n 1 dX12_isPoint_12 rfl ?_
    refine xi_callV (as := [.int (nI e2)]) (rest := [.long 0, .long y.toInt64]) dX12_isPoint_13 (FX12_points_ok G hP i_keptMany i_taped i_faultKind i_faultPlace i_spot i_begin i_token i_value i_bad i_full i_bandRows i_bandFirsts i_outs f_state f_was f_kept f_tape f_order f_rest f_ways f_costs f_bandBest f_found f_drawn f_joined f_out (by omega) (by omega) (by omega) (by omega) (by omega) (by omega) e2 (by omega) _ rfl (fun r => r = nI ((f_state (91 * e2)).toNatClampNeg)) ((hG e2 (by omega)).1.1)) mkX12_points w_1108 ws_36 w_1106 (xpg0 hP rfl) rfl rfl rfl rfl (Nat.le_of_ble_eq_true rfl) (Nat.le_of_ble_eq_true rfl) (Nat.le_of_ble_eq_true rfl) (Nat.le_of_ble_eq_true rfl) (Nat.le_of_ble_eq_true rfl) ?_
    intro v M2 hz
    obtain ⟨_, rfl, rfl, rfl⟩ := hz
    show xW _ _ _ _ 16 _ [.int (nI ((f_state (91 * e2)).toNatClampNeg)), .long 0, .long y.toInt64] (P ++ (MDL L i_keptMany i_taped i_faultKind i_faultPlace i_spot i_begin i_token i_value i_bad i_full i_bandRows i_bandFirsts i_outs f_state f_was f_kept f_tape f_order f_rest f_ways f_costs f_bandBest f_found f_drawn f_joined f_out ++ R)) _ _
    have o3 := (hG e2 (by omega)).1.2
    refine xi_iconst (v := 1) dX12_isPoint_16 (by decide) ?_
    refine xi_isub (v := ((nI ((f_state (91 * e2)).toNatClampNeg)) - (1 : Int32))) dX12_isPoint_17 rfl ?_
    refine xi_i2l dX12_isPoint_18 rfl ?_
    refine xi_callS (as := [.long y.toInt64, .long 0, .long (((nI ((f_state (91 * e2)).toNatClampNeg)) - (1 : Int32)).toInt64)]) (rest := []) dX12_isPoint_19 (FX12_in_ok G y.toInt64 ((0 : Int64)) ((((nI ((f_state (91 * e2)).toNatClampNeg)) - (1 : Int32)).toInt64)) (fun r => r = FX12_in y.toInt64 ((0 : Int64)) ((((nI ((f_state (91 * e2)).toNatClampNeg)) - (1 : Int32)).toInt64))) rfl) mkX12_in w_1100 w_1099 rfl rfl (Nat.le_of_ble_eq_true rfl) (Nat.le_of_ble_eq_true rfl) (Nat.le_of_ble_eq_true rfl) (Nat.le_of_ble_eq_true rfl) (Nat.le_of_ble_eq_true rfl) ?_
    intro v M2 hz
    obtain ⟨_, rfl, rfl, hM2⟩ := hz
    rw [hM2]
    show xW _ _ _ _ 22 _ [.int (FX12_in y.toInt64 ((0 : Int64)) ((((nI ((f_state (91 * e2)).toNatClampNeg)) - (1 : Int32)).toInt64)))] (P ++ (MDL L i_keptMany i_taped i_faultKind i_faultPlace i_spot i_begin i_token i_value i_bad i_full i_bandRows i_bandFirsts i_outs f_state f_was f_kept f_tape f_order f_rest f_ways f_costs f_bandBest f_found f_drawn f_joined f_out ++ R)) _ _
    refine xi_if_eq (tgt := 29) dX12_isPoint_22 (by decide) (fun c4 => ?_) (fun c4 => ?_)
    · rw [if_pos c4] at hq
      refine xi_iconst (v := 0) dX12_isPoint_29 (by decide) ?_
      exact xi_iret dX12_isPoint_30 rfl (by decide) (Nat.le_of_ble_eq_true rfl) (Nat.le_of_ble_eq_true rfl) ⟨_, rfl, hq, rfl⟩
    · rw [if_neg c4] at hq
      refine xi_iconst (v := 1) dX12_isPoint_25 (by decide) ?_
      refine xi_goto (tgt := 30) dX12_isPoint_26 (by decide) ?_
      exact xi_iret dX12_isPoint_30 rfl (by decide) (Nat.le_of_ble_eq_true rfl) (Nat.le_of_ble_eq_true rfl) ⟨_, rfl, hq, rfl⟩
theorem FX12_isPoint_b (f_state : Nat → Int32) (x : Int32) (y : Int32) : FX12_isPoint f_state x y = 0 ∨ FX12_isPoint f_state x y = 1 := by
  unfold FX12_isPoint
  (repeat' split) <;> first | exact Or.inl rfl | exact Or.inr rfl
