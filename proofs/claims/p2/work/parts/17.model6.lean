/-! the reference: its reader (printed by wip/p2/gen17.py) -/
/-- digits -/
def DG (f : Nat → Int32) (a b : Nat) : Prop := ∀ i, a ≤ i → i < b → 48 ≤ (f i).toInt ∧ (f i).toInt ≤ 57
theorem at_lt {a b : Nat} {f : Nat → Int32} {x y : Int32} (ha : a ≤ 400) (hb : b ≤ 400) (h : ¬ FX12_isAt a b f x y = 0) : b < a := by
  unfold FX12_isAt at h
  by_cases c : nI a ≤ nI b
  · rw [if_pos c] at h
    exact absurd rfl h
  · rcases Nat.lt_or_ge b a with q | q
    · exact q
    · exact absurd ((nI_leI (a := a) (b := b) (by omega) (by omega)).mpr q) c
theorem at_in {a b : Nat} {f : Nat → Int32} {x y : Int32} (h : ¬ FX12_isAt a b f x y = 0) : x.toInt ≤ (f b).toInt ∧ (f b).toInt ≤ y.toInt := by
  unfold FX12_isAt at h
  by_cases c : nI a ≤ nI b
  · rw [if_pos c] at h
    exact absurd rfl h
  · rw [if_neg c] at h
    by_cases c2 : FX12_in (f b).toInt64 x.toInt64 y.toInt64 = 0
    · rw [if_pos c2] at h
      exact absurd rfl h
    · have := (in_iff _ _ _).mp c2
      rw [Int32.toInt_toInt64, Int32.toInt_toInt64, Int32.toInt_toInt64] at this
      exact this
theorem DG_0 {f : Nat → Int32} {a : Nat} : DG f a a := fun i h1 h2 => absurd h2 (by omega)
theorem DG_1 {f : Nat → Int32} {a b c : Nat} (H : DG f a b) (h : ¬ FX12_isAt c b f 48 57 = 0) : DG f a (b + 1) := by
  intro i h1 h2
  by_cases e : i = b
  · subst e
    have := at_in h
    exact this
  · exact H i h1 (by omega)
def LX12_next_0 (i_taped : Nat) (i_begin : Nat) (i_token : Int32) (i_value : Int32) (f_tape : Nat → Int32) (K : Nat → Int32 × Nat × Nat × Int32 × Int32) : Nat → Nat → Int32 × Nat × Nat × Int32 × Int32
  | 0, i_spot => K i_spot
  | k + 1, i_spot => (if (FX12_isAt i_taped i_spot f_tape ((32 : Int32)) ((32 : Int32))) = (0 : Int32) then (if (FX12_isAt i_taped i_spot f_tape ((10 : Int32)) ((10 : Int32))) = (0 : Int32) then (K i_spot) else (LX12_next_0 i_taped i_begin i_token i_value f_tape K k (i_spot + 1))) else (LX12_next_0 i_taped i_begin i_token i_value f_tape K k (i_spot + 1)))
def LX12_next_123 (i_taped : Nat) (i_begin : Nat) (i_token : Int32) (f_tape : Nat → Int32) (K : Nat → Int32 → Int32 × Nat × Nat × Int32 × Int32) : Nat → Nat → Int32 → Int32 × Nat × Nat × Int32 × Int32
  | 0, i_spot, i_value => K i_spot i_value
  | k + 1, i_spot, i_value => (if (FX12_isAt i_taped i_spot f_tape ((48 : Int32)) ((57 : Int32))) = (0 : Int32) then (K i_spot i_value) else (LX12_next_123 i_taped i_begin i_token f_tape K k (i_spot + 1) ((if ((((10 : Int32) * i_value) + (f_tape i_spot)) - (48 : Int32)) < (1000 : Int32) then ((((10 : Int32) * i_value) + (f_tape i_spot)) - (48 : Int32)) else (1000 : Int32)))))
def LX12_next_83 (i_taped : Nat) (i_begin : Nat) (i_token : Int32) (i_value : Int32) (f_tape : Nat → Int32) (K : Nat → Int32 × Nat × Nat × Int32 × Int32) : Nat → Nat → Int32 × Nat × Nat × Int32 × Int32
  | 0, i_spot => K i_spot
  | k + 1, i_spot => (if (FX12_isAt i_taped i_spot f_tape ((97 : Int32)) ((122 : Int32))) = (0 : Int32) then (K i_spot) else (LX12_next_83 i_taped i_begin i_token i_value f_tape K k (i_spot + 1)))
set_option maxHeartbeats 4000000 in
set_option maxRecDepth 100000 in
theorem LX12_next_0_s (G : xG) {P R : xMem} {L : Nat} (hP : P.length = L) (e : Nat) (i_keptMany : Nat) (i_taped : Nat) (i_faultKind : Int32) (i_faultPlace : Int32) (i_begin : Nat) (i_token : Int32) (i_value : Int32) (i_bad : Int32) (i_full : Nat) (i_bandRows : Int32) (i_bandFirsts : Int32) (i_outs : Nat) (f_state : Nat → Int32) (f_was : Nat → Int32) (f_kept : Nat → Int32) (f_tape : Nat → Int32) (f_order : Nat → Int32) (f_rest : Nat → Int32) (f_ways : Nat → Int32) (f_costs : Nat → Int32) (f_bandBest : Nat → Int32) (f_found : Nat → Int32) (f_drawn : Nat → Int32) (f_joined : Nat → Int32) (f_out : Nat → Int32) (bi_keptMany : i_keptMany ≤ 10) (bi_taped : i_taped ≤ 400) (bi_begin : i_begin ≤ 400) (bi_full : i_full ≤ 511) (bi_outs : i_outs ≤ 400) (Q : Int32 × Nat × Nat × Int32 × Int32 → Prop) (K : Nat → Int32 × Nat × Nat × Int32 × Int32) (HE : ∀ (i_spot : Nat) (bi_spot : i_spot ≤ 400) (hy : e ≤ i_spot ∧ i_spot ≤ i_taped), Q (K i_spot) → xW G mX12_next (xrm 2 0 0) (xQ G (fun v M2 => ∃ o : Int32 × Nat × Nat × Int32 × Int32, v = none ∧ Q o ∧ (o.2.2.1 ≤ o.2.1 ∧ o.2.1 ≤ i_taped ∧ (o.2.2.2.1 = 3 → o.2.2.1 < o.2.1) ∧ (o.2.2.2.1 = 2 → DG f_tape o.2.2.1 o.2.1)) ∧ o.2.1 ≤ 400 ∧ o.2.2.1 ≤ 400 ∧ e ≤ o.2.2.1 ∧ M2 = (P ++ (MDL L i_keptMany i_taped i_faultKind i_faultPlace o.2.1 o.2.2.1 o.2.2.2.1 o.2.2.2.2 i_bad i_full i_bandRows i_bandFirsts i_outs f_state f_was f_kept f_tape f_order f_rest f_ways f_costs f_bandBest f_found f_drawn f_joined f_out ++ R))) 0 0) 35 [(0, .ref L)] [] (P ++ (MDL L i_keptMany i_taped i_faultKind i_faultPlace i_spot i_begin i_token i_value i_bad i_full i_bandRows i_bandFirsts i_outs f_state f_was f_kept f_tape f_order f_rest f_ways f_costs f_bandBest f_found f_drawn f_joined f_out ++ R)) 0 0) :
    ∀ (k : Nat) (i_spot : Nat) (bi_spot : i_spot ≤ 400), i_taped - i_spot < k → (e ≤ i_spot ∧ i_spot ≤ i_taped) → Q (LX12_next_0 i_taped i_begin i_token i_value f_tape K k i_spot) → xW G mX12_next (xrm 2 0 0) (xQ G (fun v M2 => ∃ o : Int32 × Nat × Nat × Int32 × Int32, v = none ∧ Q o ∧ (o.2.2.1 ≤ o.2.1 ∧ o.2.1 ≤ i_taped ∧ (o.2.2.2.1 = 3 → o.2.2.1 < o.2.1) ∧ (o.2.2.2.1 = 2 → DG f_tape o.2.2.1 o.2.1)) ∧ o.2.1 ≤ 400 ∧ o.2.2.1 ≤ 400 ∧ e ≤ o.2.2.1 ∧ M2 = (P ++ (MDL L i_keptMany i_taped i_faultKind i_faultPlace o.2.1 o.2.2.1 o.2.2.2.1 o.2.2.2.2 i_bad i_full i_bandRows i_bandFirsts i_outs f_state f_was f_kept f_tape f_order f_rest f_ways f_costs f_bandBest f_found f_drawn f_joined f_out ++ R))) 0 0) 0 [(0, .ref L)] [] (P ++ (MDL L i_keptMany i_taped i_faultKind i_faultPlace i_spot i_begin i_token i_value i_bad i_full i_bandRows i_bandFirsts i_outs f_state f_was f_kept f_tape f_order f_rest f_ways f_costs f_bandBest f_found f_drawn f_joined f_out ++ R)) 0 0 := by
  intro k
  induction k with
  | zero =>
    intro i_spot bi_spot hmu
    exact absurd hmu (Nat.not_lt_zero _)
  | succ k ih =>
    intro i_spot bi_spot hmu hy hq
    rw [LX12_next_0] at hq
    refine xi_aload_n 0 dX12_next_0 rfl ?_
    refine xi_bipush (v := 32) dX12_next_1 (by decide) ?_
    refine xi_bipush (v := 32) dX12_next_3 (by decide) ?_
    refine xi_callV (as := [.int 32, .int 32]) (rest := []) dX12_next_5 (FX12_isAt_ok G hP i_keptMany i_taped i_faultKind i_faultPlace i_spot i_begin i_token i_value i_bad i_full i_bandRows i_bandFirsts i_outs f_state f_was f_kept f_tape f_order f_rest f_ways f_costs f_bandBest f_found f_drawn f_joined f_out (by omega) (by omega) (by omega) (by omega) (by omega) (by omega) ((32 : Int32)) ((32 : Int32)) _ rfl (fun r => r = FX12_isAt i_taped i_spot f_tape ((32 : Int32)) ((32 : Int32))) rfl) mkX12_isAt w_1140 ws_41 w_1138 (xpg0 hP rfl) rfl rfl rfl rfl (Nat.le_of_ble_eq_true rfl) (Nat.le_of_ble_eq_true rfl) (Nat.le_of_ble_eq_true rfl) (Nat.le_of_ble_eq_true rfl) (Nat.le_of_ble_eq_true rfl) ?_
    intro v M2 hz
    obtain ⟨_, rfl, rfl, rfl⟩ := hz
    show xW _ _ _ _ 8 _ [.int (FX12_isAt i_taped i_spot f_tape ((32 : Int32)) ((32 : Int32)))] (P ++ (MDL L i_keptMany i_taped i_faultKind i_faultPlace i_spot i_begin i_token i_value i_bad i_full i_bandRows i_bandFirsts i_outs f_state f_was f_kept f_tape f_order f_rest f_ways f_costs f_bandBest f_found f_drawn f_joined f_out ++ R)) _ _
    refine xi_if_ne (tgt := 22) dX12_next_8 (by decide) (fun c1 => ?_) (fun c1 => ?_)
    · rw [if_neg c1] at hq
      have c1f := at_lt (by omega) (by omega) c1
      refine xi_aload_n 0 dX12_next_22 rfl ?_
      refine xi_dup dX12_next_23 rfl ?_
      refine xi_get (f := 8) dX12_next_24 (xpg0 hP rfl) rfl ok_9 (by decide) w_1016 rfl ?_
      refine xi_iconst (v := 1) dX12_next_27 (by decide) ?_
      refine xi_iadd (v := (nI (i_spot + 1))) dX12_next_28 (nI_add i_spot 1) ?_
      refine xi_put (f := 8) (ty := .int) (M' := (P ++ (MDL L i_keptMany i_taped i_faultKind i_faultPlace (i_spot + 1) i_begin i_token i_value i_bad i_full i_bandRows i_bandFirsts i_outs f_state f_was f_kept f_tape f_order f_rest f_ways f_costs f_bandBest f_found f_drawn f_joined f_out ++ R))) dX12_next_29 (xpg0 hP rfl) rfl ok_9 (by decide) w_1016 rfl pf_I (fun _ h => by cases h) rfl rfl (Nat.le_of_ble_eq_true rfl) (xps0 hP) ?_
      refine xi_goto (tgt := 0) dX12_next_32 (by decide) ?_
      exact ih (i_spot + 1) (by omega) (by omega) (by omega) hq
    · rw [if_pos c1] at hq
      refine xi_aload_n 0 dX12_next_11 rfl ?_
      refine xi_bipush (v := 10) dX12_next_12 (by decide) ?_
      refine xi_bipush (v := 10) dX12_next_14 (by decide) ?_
      refine xi_callV (as := [.int 10, .int 10]) (rest := []) dX12_next_16 (FX12_isAt_ok G hP i_keptMany i_taped i_faultKind i_faultPlace i_spot i_begin i_token i_value i_bad i_full i_bandRows i_bandFirsts i_outs f_state f_was f_kept f_tape f_order f_rest f_ways f_costs f_bandBest f_found f_drawn f_joined f_out (by omega) (by omega) (by omega) (by omega) (by omega) (by omega) ((10 : Int32)) ((10 : Int32)) _ rfl (fun r => r = FX12_isAt i_taped i_spot f_tape ((10 : Int32)) ((10 : Int32))) rfl) mkX12_isAt w_1140 ws_41 w_1138 (xpg0 hP rfl) rfl rfl rfl rfl (Nat.le_of_ble_eq_true rfl) (Nat.le_of_ble_eq_true rfl) (Nat.le_of_ble_eq_true rfl) (Nat.le_of_ble_eq_true rfl) (Nat.le_of_ble_eq_true rfl) ?_
      intro v M2 hz
      obtain ⟨_, rfl, rfl, rfl⟩ := hz
      show xW _ _ _ _ 19 _ [.int (FX12_isAt i_taped i_spot f_tape ((10 : Int32)) ((10 : Int32)))] (P ++ (MDL L i_keptMany i_taped i_faultKind i_faultPlace i_spot i_begin i_token i_value i_bad i_full i_bandRows i_bandFirsts i_outs f_state f_was f_kept f_tape f_order f_rest f_ways f_costs f_bandBest f_found f_drawn f_joined f_out ++ R)) _ _
      refine xi_if_eq (tgt := 35) dX12_next_19 (by decide) (fun c2 => ?_) (fun c2 => ?_)
      · rw [if_pos c2] at hq
        exact HE i_spot (by omega) (by first | exact hy | omega) hq
      · rw [if_neg c2] at hq
        have c2f := at_lt (by omega) (by omega) c2
        refine xi_aload_n 0 dX12_next_22 rfl ?_
        refine xi_dup dX12_next_23 rfl ?_
        refine xi_get (f := 8) dX12_next_24 (xpg0 hP rfl) rfl ok_9 (by decide) w_1016 rfl ?_
        refine xi_iconst (v := 1) dX12_next_27 (by decide) ?_
        refine xi_iadd (v := (nI (i_spot + 1))) dX12_next_28 (nI_add i_spot 1) ?_
        refine xi_put (f := 8) (ty := .int) (M' := (P ++ (MDL L i_keptMany i_taped i_faultKind i_faultPlace (i_spot + 1) i_begin i_token i_value i_bad i_full i_bandRows i_bandFirsts i_outs f_state f_was f_kept f_tape f_order f_rest f_ways f_costs f_bandBest f_found f_drawn f_joined f_out ++ R))) dX12_next_29 (xpg0 hP rfl) rfl ok_9 (by decide) w_1016 rfl pf_I (fun _ h => by cases h) rfl rfl (Nat.le_of_ble_eq_true rfl) (xps0 hP) ?_
        refine xi_goto (tgt := 0) dX12_next_32 (by decide) ?_
        exact ih (i_spot + 1) (by omega) (by omega) (by omega) hq
set_option maxHeartbeats 4000000 in
set_option maxRecDepth 100000 in
theorem LX12_next_123_s (G : xG) {P R : xMem} {L : Nat} (hP : P.length = L) (e : Nat) (i_keptMany : Nat) (i_taped : Nat) (i_faultKind : Int32) (i_faultPlace : Int32) (i_begin : Nat) (i_token : Int32) (i_bad : Int32) (i_full : Nat) (i_bandRows : Int32) (i_bandFirsts : Int32) (i_outs : Nat) (f_state : Nat → Int32) (f_was : Nat → Int32) (f_kept : Nat → Int32) (f_tape : Nat → Int32) (f_order : Nat → Int32) (f_rest : Nat → Int32) (f_ways : Nat → Int32) (f_costs : Nat → Int32) (f_bandBest : Nat → Int32) (f_found : Nat → Int32) (f_drawn : Nat → Int32) (f_joined : Nat → Int32) (f_out : Nat → Int32) (bi_keptMany : i_keptMany ≤ 10) (bi_taped : i_taped ≤ 400) (bi_begin : i_begin ≤ 400) (bi_full : i_full ≤ 511) (bi_outs : i_outs ≤ 400) (Q : Int32 × Nat × Nat × Int32 × Int32 → Prop) (K : Nat → Int32 → Int32 × Nat × Nat × Int32 × Int32) (HE : ∀ (i_spot : Nat) (i_value : Int32) (bi_spot : i_spot ≤ 400) (hy : i_begin ≤ i_spot ∧ i_spot ≤ i_taped ∧ DG f_tape i_begin i_spot), Q (K i_spot i_value) → xW G mX12_next (xrm 2 0 0) (xQ G (fun v M2 => ∃ o : Int32 × Nat × Nat × Int32 × Int32, v = none ∧ Q o ∧ (o.2.2.1 ≤ o.2.1 ∧ o.2.1 ≤ i_taped ∧ (o.2.2.2.1 = 3 → o.2.2.1 < o.2.1) ∧ (o.2.2.2.1 = 2 → DG f_tape o.2.2.1 o.2.1)) ∧ o.2.1 ≤ 400 ∧ o.2.2.1 ≤ 400 ∧ e ≤ o.2.2.1 ∧ M2 = (P ++ (MDL L i_keptMany i_taped i_faultKind i_faultPlace o.2.1 o.2.2.1 o.2.2.2.1 o.2.2.2.2 i_bad i_full i_bandRows i_bandFirsts i_outs f_state f_was f_kept f_tape f_order f_rest f_ways f_costs f_bandBest f_found f_drawn f_joined f_out ++ R))) 0 0) 192 [] [] (P ++ (MDL L i_keptMany i_taped i_faultKind i_faultPlace i_spot i_begin i_token i_value i_bad i_full i_bandRows i_bandFirsts i_outs f_state f_was f_kept f_tape f_order f_rest f_ways f_costs f_bandBest f_found f_drawn f_joined f_out ++ R)) 0 0) :
    ∀ (k : Nat) (i_spot : Nat) (i_value : Int32) (bi_spot : i_spot ≤ 400), i_taped - i_spot < k → (i_begin ≤ i_spot ∧ i_spot ≤ i_taped ∧ DG f_tape i_begin i_spot) → Q (LX12_next_123 i_taped i_begin i_token f_tape K k i_spot i_value) → xW G mX12_next (xrm 2 0 0) (xQ G (fun v M2 => ∃ o : Int32 × Nat × Nat × Int32 × Int32, v = none ∧ Q o ∧ (o.2.2.1 ≤ o.2.1 ∧ o.2.1 ≤ i_taped ∧ (o.2.2.2.1 = 3 → o.2.2.1 < o.2.1) ∧ (o.2.2.2.1 = 2 → DG f_tape o.2.2.1 o.2.1)) ∧ o.2.1 ≤ 400 ∧ o.2.2.1 ≤ 400 ∧ e ≤ o.2.2.1 ∧ M2 = (P ++ (MDL L i_keptMany i_taped i_faultKind i_faultPlace o.2.1 o.2.2.1 o.2.2.2.1 o.2.2.2.2 i_bad i_full i_bandRows i_bandFirsts i_outs f_state f_was f_kept f_tape f_order f_rest f_ways f_costs f_bandBest f_found f_drawn f_joined f_out ++ R))) 0 0) 123 [(0, .ref L)] [] (P ++ (MDL L i_keptMany i_taped i_faultKind i_faultPlace i_spot i_begin i_token i_value i_bad i_full i_bandRows i_bandFirsts i_outs f_state f_was f_kept f_tape f_order f_rest f_ways f_costs f_bandBest f_found f_drawn f_joined f_out ++ R)) 0 0 := by
  intro k
  induction k with
  | zero =>
    intro i_spot i_value bi_spot hmu
    exact absurd hmu (Nat.not_lt_zero _)
  | succ k ih =>
    intro i_spot i_value bi_spot hmu hy hq
    rw [LX12_next_123] at hq
    refine xi_aload_n 0 dX12_next_123 rfl ?_
    refine xi_bipush (v := 48) dX12_next_124 (by decide) ?_
    refine xi_bipush (v := 57) dX12_next_126 (by decide) ?_
    refine xi_callV (as := [.int 48, .int 57]) (rest := []) dX12_next_128 (FX12_isAt_ok G hP i_keptMany i_taped i_faultKind i_faultPlace i_spot i_begin i_token i_value i_bad i_full i_bandRows i_bandFirsts i_outs f_state f_was f_kept f_tape f_order f_rest f_ways f_costs f_bandBest f_found f_drawn f_joined f_out (by omega) (by omega) (by omega) (by omega) (by omega) (by omega) ((48 : Int32)) ((57 : Int32)) _ rfl (fun r => r = FX12_isAt i_taped i_spot f_tape ((48 : Int32)) ((57 : Int32))) rfl) mkX12_isAt w_1140 ws_41 w_1138 (xpg0 hP rfl) rfl rfl rfl rfl (Nat.le_of_ble_eq_true rfl) (Nat.le_of_ble_eq_true rfl) (Nat.le_of_ble_eq_true rfl) (Nat.le_of_ble_eq_true rfl) (Nat.le_of_ble_eq_true rfl) ?_
    intro v M2 hz
    obtain ⟨_, rfl, rfl, rfl⟩ := hz
    show xW _ _ _ _ 131 _ [.int (FX12_isAt i_taped i_spot f_tape ((48 : Int32)) ((57 : Int32)))] (P ++ (MDL L i_keptMany i_taped i_faultKind i_faultPlace i_spot i_begin i_token i_value i_bad i_full i_bandRows i_bandFirsts i_outs f_state f_was f_kept f_tape f_order f_rest f_ways f_costs f_bandBest f_found f_drawn f_joined f_out ++ R)) _ _
    refine xi_if_eq (tgt := 192) dX12_next_131 (by decide) (fun c8 => ?_) (fun c8 => ?_)
    · rw [if_pos c8] at hq
      refine xi_sub (lv' := []) [] rfl ?_
      exact HE i_spot i_value (by omega) (by first | exact hy | omega) hq
    · rw [if_neg c8] at hq
      have c8f := at_lt (by omega) (by omega) c8
      refine xi_aload_n 0 dX12_next_134 rfl ?_
      refine xi_sipush (v := 1000) dX12_next_135 (by decide) ?_
      refine xi_bipush (v := 10) dX12_next_138 (by decide) ?_
      refine xi_aload_n 0 dX12_next_140 rfl ?_
      refine xi_get (f := 11) dX12_next_141 (xpg0 hP rfl) rfl ok_9 (by decide) w_1019 rfl ?_
      refine xi_imul (v := ((10 : Int32) * i_value)) dX12_next_144 rfl ?_
      refine xi_aload_n 0 dX12_next_145 rfl ?_
      refine xi_get (f := 4) dX12_next_146 (xpg0 hP rfl) rfl ok_9 (by decide) w_1012 rfl ?_
      refine xi_aload_n 0 dX12_next_149 rfl ?_
      refine xi_get (f := 8) dX12_next_150 (xpg0 hP rfl) rfl ok_9 (by decide) w_1016 rfl ?_
      refine xi_iaload (v := (f_tape i_spot)) dX12_next_153 (xpg hP rfl) (vp_in_nI (by omega) (by decide)) (by rw [nI_clamp (by omega)]) ?_
      refine xi_iadd (v := (((10 : Int32) * i_value) + (f_tape i_spot))) dX12_next_154 rfl ?_
      refine xi_bipush (v := 48) dX12_next_155 (by decide) ?_
      refine xi_isub (v := ((((10 : Int32) * i_value) + (f_tape i_spot)) - (48 : Int32))) dX12_next_157 rfl ?_
      refine xi_min (v := (if ((((10 : Int32) * i_value) + (f_tape i_spot)) - (48 : Int32)) < (1000 : Int32) then ((((10 : Int32) * i_value) + (f_tape i_spot)) - (48 : Int32)) else (1000 : Int32))) dX12_next_158 w_1142 w_385 w_3 w_mmin (Nat.le_of_ble_eq_true rfl) (Nat.le_of_ble_eq_true rfl) (Nat.le_of_ble_eq_true rfl) (Nat.le_of_ble_eq_true rfl) (Nat.le_of_ble_eq_true rfl) rfl ?_
      refine xi_put (f := 11) (ty := .int) (M' := (P ++ (MDL L i_keptMany i_taped i_faultKind i_faultPlace i_spot i_begin i_token ((if ((((10 : Int32) * i_value) + (f_tape i_spot)) - (48 : Int32)) < (1000 : Int32) then ((((10 : Int32) * i_value) + (f_tape i_spot)) - (48 : Int32)) else (1000 : Int32))) i_bad i_full i_bandRows i_bandFirsts i_outs f_state f_was f_kept f_tape f_order f_rest f_ways f_costs f_bandBest f_found f_drawn f_joined f_out ++ R))) dX12_next_161 (xpg0 hP rfl) rfl ok_9 (by decide) w_1019 rfl pf_I (fun _ h => by cases h) rfl rfl (Nat.le_of_ble_eq_true rfl) (xps0 hP) ?_
      refine xi_aload_n 0 dX12_next_164 rfl ?_
      refine xi_dup dX12_next_165 rfl ?_
      refine xi_get (f := 8) dX12_next_166 (xpg0 hP rfl) rfl ok_9 (by decide) w_1016 rfl ?_
      refine xi_iconst (v := 1) dX12_next_169 (by decide) ?_
      refine xi_iadd (v := (nI (i_spot + 1))) dX12_next_170 (nI_add i_spot 1) ?_
      refine xi_put (f := 8) (ty := .int) (M' := (P ++ (MDL L i_keptMany i_taped i_faultKind i_faultPlace (i_spot + 1) i_begin i_token ((if ((((10 : Int32) * i_value) + (f_tape i_spot)) - (48 : Int32)) < (1000 : Int32) then ((((10 : Int32) * i_value) + (f_tape i_spot)) - (48 : Int32)) else (1000 : Int32))) i_bad i_full i_bandRows i_bandFirsts i_outs f_state f_was f_kept f_tape f_order f_rest f_ways f_costs f_bandBest f_found f_drawn f_joined f_out ++ R))) dX12_next_171 (xpg0 hP rfl) rfl ok_9 (by decide) w_1016 rfl pf_I (fun _ h => by cases h) rfl rfl (Nat.le_of_ble_eq_true rfl) (xps0 hP) ?_
      refine xi_goto (tgt := 123) dX12_next_174 (by decide) ?_
      exact ih (i_spot + 1) ((if ((((10 : Int32) * i_value) + (f_tape i_spot)) - (48 : Int32)) < (1000 : Int32) then ((((10 : Int32) * i_value) + (f_tape i_spot)) - (48 : Int32)) else (1000 : Int32))) (by omega) (by first | omega | exact ⟨by omega, by omega, DG_1 hy.2.2 (by assumption)⟩) (by first | omega | exact ⟨by omega, by omega, DG_1 hy.2.2 (by assumption)⟩) hq
set_option maxHeartbeats 4000000 in
set_option maxRecDepth 100000 in
theorem LX12_next_83_s (G : xG) {P R : xMem} {L : Nat} (hP : P.length = L) (e : Nat) (i_keptMany : Nat) (i_taped : Nat) (i_faultKind : Int32) (i_faultPlace : Int32) (i_begin : Nat) (i_token : Int32) (i_value : Int32) (i_bad : Int32) (i_full : Nat) (i_bandRows : Int32) (i_bandFirsts : Int32) (i_outs : Nat) (f_state : Nat → Int32) (f_was : Nat → Int32) (f_kept : Nat → Int32) (f_tape : Nat → Int32) (f_order : Nat → Int32) (f_rest : Nat → Int32) (f_ways : Nat → Int32) (f_costs : Nat → Int32) (f_bandBest : Nat → Int32) (f_found : Nat → Int32) (f_drawn : Nat → Int32) (f_joined : Nat → Int32) (f_out : Nat → Int32) (bi_keptMany : i_keptMany ≤ 10) (bi_taped : i_taped ≤ 400) (bi_begin : i_begin ≤ 400) (bi_full : i_full ≤ 511) (bi_outs : i_outs ≤ 400) (Q : Int32 × Nat × Nat × Int32 × Int32 → Prop) (K : Nat → Int32 × Nat × Nat × Int32 × Int32) (HE : ∀ (i_spot : Nat) (bi_spot : i_spot ≤ 400) (hy : i_begin ≤ i_spot ∧ i_spot ≤ i_taped), Q (K i_spot) → xW G mX12_next (xrm 2 0 0) (xQ G (fun v M2 => ∃ o : Int32 × Nat × Nat × Int32 × Int32, v = none ∧ Q o ∧ (o.2.2.1 ≤ o.2.1 ∧ o.2.1 ≤ i_taped ∧ (o.2.2.2.1 = 3 → o.2.2.1 < o.2.1) ∧ (o.2.2.2.1 = 2 → DG f_tape o.2.2.1 o.2.1)) ∧ o.2.1 ≤ 400 ∧ o.2.2.1 ≤ 400 ∧ e ≤ o.2.2.1 ∧ M2 = (P ++ (MDL L i_keptMany i_taped i_faultKind i_faultPlace o.2.1 o.2.2.1 o.2.2.2.1 o.2.2.2.2 i_bad i_full i_bandRows i_bandFirsts i_outs f_state f_was f_kept f_tape f_order f_rest f_ways f_costs f_bandBest f_found f_drawn f_joined f_out ++ R))) 0 0) 192 [] [] (P ++ (MDL L i_keptMany i_taped i_faultKind i_faultPlace i_spot i_begin i_token i_value i_bad i_full i_bandRows i_bandFirsts i_outs f_state f_was f_kept f_tape f_order f_rest f_ways f_costs f_bandBest f_found f_drawn f_joined f_out ++ R)) 0 0) :
    ∀ (k : Nat) (i_spot : Nat) (bi_spot : i_spot ≤ 400), i_taped - i_spot < k → (i_begin ≤ i_spot ∧ i_spot ≤ i_taped) → Q (LX12_next_83 i_taped i_begin i_token i_value f_tape K k i_spot) → xW G mX12_next (xrm 2 0 0) (xQ G (fun v M2 => ∃ o : Int32 × Nat × Nat × Int32 × Int32, v = none ∧ Q o ∧ (o.2.2.1 ≤ o.2.1 ∧ o.2.1 ≤ i_taped ∧ (o.2.2.2.1 = 3 → o.2.2.1 < o.2.1) ∧ (o.2.2.2.1 = 2 → DG f_tape o.2.2.1 o.2.1)) ∧ o.2.1 ≤ 400 ∧ o.2.2.1 ≤ 400 ∧ e ≤ o.2.2.1 ∧ M2 = (P ++ (MDL L i_keptMany i_taped i_faultKind i_faultPlace o.2.1 o.2.2.1 o.2.2.2.1 o.2.2.2.2 i_bad i_full i_bandRows i_bandFirsts i_outs f_state f_was f_kept f_tape f_order f_rest f_ways f_costs f_bandBest f_found f_drawn f_joined f_out ++ R))) 0 0) 83 [(0, .ref L)] [] (P ++ (MDL L i_keptMany i_taped i_faultKind i_faultPlace i_spot i_begin i_token i_value i_bad i_full i_bandRows i_bandFirsts i_outs f_state f_was f_kept f_tape f_order f_rest f_ways f_costs f_bandBest f_found f_drawn f_joined f_out ++ R)) 0 0 := by
  intro k
  induction k with
  | zero =>
    intro i_spot bi_spot hmu
    exact absurd hmu (Nat.not_lt_zero _)
  | succ k ih =>
    intro i_spot bi_spot hmu hy hq
    rw [LX12_next_83] at hq
    refine xi_aload_n 0 dX12_next_83 rfl ?_
    refine xi_bipush (v := 97) dX12_next_84 (by decide) ?_
    refine xi_bipush (v := 122) dX12_next_86 (by decide) ?_
    refine xi_callV (as := [.int 97, .int 122]) (rest := []) dX12_next_88 (FX12_isAt_ok G hP i_keptMany i_taped i_faultKind i_faultPlace i_spot i_begin i_token i_value i_bad i_full i_bandRows i_bandFirsts i_outs f_state f_was f_kept f_tape f_order f_rest f_ways f_costs f_bandBest f_found f_drawn f_joined f_out (by omega) (by omega) (by omega) (by omega) (by omega) (by omega) ((97 : Int32)) ((122 : Int32)) _ rfl (fun r => r = FX12_isAt i_taped i_spot f_tape ((97 : Int32)) ((122 : Int32))) rfl) mkX12_isAt w_1140 ws_41 w_1138 (xpg0 hP rfl) rfl rfl rfl rfl (Nat.le_of_ble_eq_true rfl) (Nat.le_of_ble_eq_true rfl) (Nat.le_of_ble_eq_true rfl) (Nat.le_of_ble_eq_true rfl) (Nat.le_of_ble_eq_true rfl) ?_
    intro v M2 hz
    obtain ⟨_, rfl, rfl, rfl⟩ := hz
    show xW _ _ _ _ 91 _ [.int (FX12_isAt i_taped i_spot f_tape ((97 : Int32)) ((122 : Int32)))] (P ++ (MDL L i_keptMany i_taped i_faultKind i_faultPlace i_spot i_begin i_token i_value i_bad i_full i_bandRows i_bandFirsts i_outs f_state f_was f_kept f_tape f_order f_rest f_ways f_costs f_bandBest f_found f_drawn f_joined f_out ++ R)) _ _
    refine xi_if_eq (tgt := 192) dX12_next_91 (by decide) (fun c12 => ?_) (fun c12 => ?_)
    · rw [if_pos c12] at hq
      refine xi_sub (lv' := []) [] rfl ?_
      exact HE i_spot (by omega) (by first | exact hy | omega) hq
    · rw [if_neg c12] at hq
      have c12f := at_lt (by omega) (by omega) c12
      refine xi_aload_n 0 dX12_next_94 rfl ?_
      refine xi_dup dX12_next_95 rfl ?_
      refine xi_get (f := 8) dX12_next_96 (xpg0 hP rfl) rfl ok_9 (by decide) w_1016 rfl ?_
      refine xi_iconst (v := 1) dX12_next_99 (by decide) ?_
      refine xi_iadd (v := (nI (i_spot + 1))) dX12_next_100 (nI_add i_spot 1) ?_
      refine xi_put (f := 8) (ty := .int) (M' := (P ++ (MDL L i_keptMany i_taped i_faultKind i_faultPlace (i_spot + 1) i_begin i_token i_value i_bad i_full i_bandRows i_bandFirsts i_outs f_state f_was f_kept f_tape f_order f_rest f_ways f_costs f_bandBest f_found f_drawn f_joined f_out ++ R))) dX12_next_101 (xpg0 hP rfl) rfl ok_9 (by decide) w_1016 rfl pf_I (fun _ h => by cases h) rfl rfl (Nat.le_of_ble_eq_true rfl) (xps0 hP) ?_
      refine xi_goto (tgt := 83) dX12_next_104 (by decide) ?_
      exact ih (i_spot + 1) (by omega) (by omega) (by omega) hq
def FX12_next (i_taped : Nat) (i_spot : Nat) (i_begin : Nat) (i_token : Int32) (i_value : Int32) (f_tape : Nat → Int32) : Int32 × Nat × Nat × Int32 × Int32 := (LX12_next_0 i_taped i_begin i_token i_value f_tape (fun u3 => (if (nI u3) = (nI i_taped) then (0, u3, u3, (0 : Int32), (0 : Int32)) else (if (FX12_isAt i_taped u3 f_tape ((97 : Int32)) ((122 : Int32))) = (0 : Int32) then (if (FX12_isAt i_taped u3 f_tape ((48 : Int32)) ((57 : Int32))) = (0 : Int32) then (0, u3 + 1, u3, (3 : Int32), (0 : Int32)) else (LX12_next_123 i_taped u3 ((2 : Int32)) f_tape (fun u9 u10 => (0, u9, u3, (2 : Int32), u10)) (i_taped - u3 + 1) u3 ((0 : Int32)))) else (LX12_next_83 i_taped u3 ((1 : Int32)) ((0 : Int32)) f_tape (fun u13 => (0, u13, u3, (1 : Int32), (0 : Int32))) (i_taped - u3 + 1) u3)))) (i_taped - i_spot + 1) i_spot)
set_option maxHeartbeats 4000000 in
set_option maxRecDepth 100000 in
theorem FX12_next_ok (G : xG) {P R : xMem} {L : Nat} (hP : P.length = L) (i_keptMany : Nat) (i_taped : Nat) (i_faultKind : Int32) (i_faultPlace : Int32) (i_spot : Nat) (i_begin : Nat) (i_token : Int32) (i_value : Int32) (i_bad : Int32) (i_full : Nat) (i_bandRows : Int32) (i_bandFirsts : Int32) (i_outs : Nat) (f_state : Nat → Int32) (f_was : Nat → Int32) (f_kept : Nat → Int32) (f_tape : Nat → Int32) (f_order : Nat → Int32) (f_rest : Nat → Int32) (f_ways : Nat → Int32) (f_costs : Nat → Int32) (f_bandBest : Nat → Int32) (f_found : Nat → Int32) (f_drawn : Nat → Int32) (f_joined : Nat → Int32) (f_out : Nat → Int32) (bi_keptMany : i_keptMany ≤ 10) (bi_taped : i_taped ≤ 400) (bi_spot : i_spot ≤ 400) (bi_begin : i_begin ≤ 400) (bi_full : i_full ≤ 511) (bi_outs : i_outs ≤ 400) (e : Nat) (he : e ≤ i_spot) (hst : i_spot ≤ i_taped) (M : xMem) (hM : M = (P ++ (MDL L i_keptMany i_taped i_faultKind i_faultPlace i_spot i_begin i_token i_value i_bad i_full i_bandRows i_bandFirsts i_outs f_state f_was f_kept f_tape f_order f_rest f_ways f_costs f_bandBest f_found f_drawn f_joined f_out ++ R))) (Q : Int32 × Nat × Nat × Int32 × Int32 → Prop) (hq : Q (FX12_next i_taped i_spot i_begin i_token i_value f_tape)) : xC G mX12_next 2 0 0 [.ref L] M (fun v M2 => ∃ o : Int32 × Nat × Nat × Int32 × Int32, v = none ∧ Q o ∧ (o.2.2.1 ≤ o.2.1 ∧ o.2.1 ≤ i_taped ∧ (o.2.2.2.1 = 3 → o.2.2.1 < o.2.1) ∧ (o.2.2.2.1 = 2 → DG f_tape o.2.2.1 o.2.1)) ∧ o.2.1 ≤ 400 ∧ o.2.2.1 ≤ 400 ∧ e ≤ o.2.2.1 ∧ M2 = (P ++ (MDL L i_keptMany i_taped i_faultKind i_faultPlace o.2.1 o.2.2.1 o.2.2.2.1 o.2.2.2.2 i_bad i_full i_bandRows i_bandFirsts i_outs f_state f_was f_kept f_tape f_order f_rest f_ways f_costs f_bandBest f_found f_drawn f_joined f_out ++ R))) := by
  subst hM
  unfold FX12_next at hq
  refine xC.of (by decide) (Nat.le_of_ble_eq_true rfl) ?_
  show xW _ _ _ _ 0 [(0, .ref L)] [] _ 0 0
  refine LX12_next_0_s G hP e i_keptMany i_taped i_faultKind i_faultPlace i_begin i_token i_value i_bad i_full i_bandRows i_bandFirsts i_outs f_state f_was f_kept f_tape f_order f_rest f_ways f_costs f_bandBest f_found f_drawn f_joined f_out (by omega) (by omega) (by omega) (by omega) (by omega) Q _ (fun u3 hb4 hy0 hq => ?_) (i_taped - i_spot + 1) i_spot (by omega) (Nat.lt_succ_self _) ⟨he, hst⟩ hq
  refine xi_aload_n 0 dX12_next_35 rfl ?_
  refine xi_aload_n 0 dX12_next_36 rfl ?_
  refine xi_get (f := 8) dX12_next_37 (xpg0 hP rfl) rfl ok_9 (by decide) w_1016 rfl ?_
  refine xi_put (f := 9) (ty := .int) (M' := (P ++ (MDL L i_keptMany i_taped i_faultKind i_faultPlace u3 u3 i_token i_value i_bad i_full i_bandRows i_bandFirsts i_outs f_state f_was f_kept f_tape f_order f_rest f_ways f_costs f_bandBest f_found f_drawn f_joined f_out ++ R))) dX12_next_40 (xpg0 hP rfl) rfl ok_9 (by decide) w_1017 rfl pf_I (fun _ h => by cases h) rfl rfl (Nat.le_of_ble_eq_true rfl) (xps0 hP) ?_
  refine xi_aload_n 0 dX12_next_43 rfl ?_
  refine xi_iconst (v := 0) dX12_next_44 (by decide) ?_
  refine xi_put (f := 11) (ty := .int) (M' := (P ++ (MDL L i_keptMany i_taped i_faultKind i_faultPlace u3 u3 i_token ((0 : Int32)) i_bad i_full i_bandRows i_bandFirsts i_outs f_state f_was f_kept f_tape f_order f_rest f_ways f_costs f_bandBest f_found f_drawn f_joined f_out ++ R))) dX12_next_45 (xpg0 hP rfl) rfl ok_9 (by decide) w_1019 rfl pf_I (fun _ h => by cases h) rfl rfl (Nat.le_of_ble_eq_true rfl) (xps0 hP) ?_
  refine xi_aload_n 0 dX12_next_48 rfl ?_
  refine xi_get (f := 8) dX12_next_49 (xpg0 hP rfl) rfl ok_9 (by decide) w_1016 rfl ?_
  refine xi_aload_n 0 dX12_next_52 rfl ?_
  refine xi_get (f := 5) dX12_next_53 (xpg0 hP rfl) rfl ok_9 (by decide) w_1013 rfl ?_
  refine xi_icmp_ne (tgt := 67) dX12_next_56 (by decide) (fun c5 => ?_) (fun c5 => ?_)
  · rw [if_neg c5] at hq
    have c5n : ¬ u3 = i_taped := fun e => c5 (congrArg nI e)
    refine xi_aload_n 0 dX12_next_67 rfl ?_
    refine xi_bipush (v := 97) dX12_next_68 (by decide) ?_
    refine xi_bipush (v := 122) dX12_next_70 (by decide) ?_
    refine xi_callV (as := [.int 97, .int 122]) (rest := []) dX12_next_72 (FX12_isAt_ok G hP i_keptMany i_taped i_faultKind i_faultPlace u3 u3 i_token ((0 : Int32)) i_bad i_full i_bandRows i_bandFirsts i_outs f_state f_was f_kept f_tape f_order f_rest f_ways f_costs f_bandBest f_found f_drawn f_joined f_out (by omega) (by omega) (by omega) (by omega) (by omega) (by omega) ((97 : Int32)) ((122 : Int32)) _ rfl (fun r => r = FX12_isAt i_taped u3 f_tape ((97 : Int32)) ((122 : Int32))) rfl) mkX12_isAt w_1140 ws_41 w_1138 (xpg0 hP rfl) rfl rfl rfl rfl (Nat.le_of_ble_eq_true rfl) (Nat.le_of_ble_eq_true rfl) (Nat.le_of_ble_eq_true rfl) (Nat.le_of_ble_eq_true rfl) (Nat.le_of_ble_eq_true rfl) ?_
    intro v M2 hz
    obtain ⟨_, rfl, rfl, rfl⟩ := hz
    show xW _ _ _ _ 75 _ [.int (FX12_isAt i_taped u3 f_tape ((97 : Int32)) ((122 : Int32)))] (P ++ (MDL L i_keptMany i_taped i_faultKind i_faultPlace u3 u3 i_token ((0 : Int32)) i_bad i_full i_bandRows i_bandFirsts i_outs f_state f_was f_kept f_tape f_order f_rest f_ways f_costs f_bandBest f_found f_drawn f_joined f_out ++ R)) _ _
    refine xi_if_eq (tgt := 107) dX12_next_75 (by decide) (fun c6 => ?_) (fun c6 => ?_)
    · rw [if_pos c6] at hq
      refine xi_aload_n 0 dX12_next_107 rfl ?_
      refine xi_bipush (v := 48) dX12_next_108 (by decide) ?_
      refine xi_bipush (v := 57) dX12_next_110 (by decide) ?_
      refine xi_callV (as := [.int 48, .int 57]) (rest := []) dX12_next_112 (FX12_isAt_ok G hP i_keptMany i_taped i_faultKind i_faultPlace u3 u3 i_token ((0 : Int32)) i_bad i_full i_bandRows i_bandFirsts i_outs f_state f_was f_kept f_tape f_order f_rest f_ways f_costs f_bandBest f_found f_drawn f_joined f_out (by omega) (by omega) (by omega) (by omega) (by omega) (by omega) ((48 : Int32)) ((57 : Int32)) _ rfl (fun r => r = FX12_isAt i_taped u3 f_tape ((48 : Int32)) ((57 : Int32))) rfl) mkX12_isAt w_1140 ws_41 w_1138 (xpg0 hP rfl) rfl rfl rfl rfl (Nat.le_of_ble_eq_true rfl) (Nat.le_of_ble_eq_true rfl) (Nat.le_of_ble_eq_true rfl) (Nat.le_of_ble_eq_true rfl) (Nat.le_of_ble_eq_true rfl) ?_
      intro v M2 hz
      obtain ⟨_, rfl, rfl, rfl⟩ := hz
      show xW _ _ _ _ 115 _ [.int (FX12_isAt i_taped u3 f_tape ((48 : Int32)) ((57 : Int32)))] (P ++ (MDL L i_keptMany i_taped i_faultKind i_faultPlace u3 u3 i_token ((0 : Int32)) i_bad i_full i_bandRows i_bandFirsts i_outs f_state f_was f_kept f_tape f_order f_rest f_ways f_costs f_bandBest f_found f_drawn f_joined f_out ++ R)) _ _
      refine xi_if_eq (tgt := 177) dX12_next_115 (by decide) (fun c7 => ?_) (fun c7 => ?_)
      · rw [if_pos c7] at hq
        refine xi_aload_n 0 dX12_next_177 rfl ?_
        refine xi_iconst (v := 3) dX12_next_178 (by decide) ?_
        refine xi_put (f := 10) (ty := .int) (M' := (P ++ (MDL L i_keptMany i_taped i_faultKind i_faultPlace u3 u3 ((3 : Int32)) ((0 : Int32)) i_bad i_full i_bandRows i_bandFirsts i_outs f_state f_was f_kept f_tape f_order f_rest f_ways f_costs f_bandBest f_found f_drawn f_joined f_out ++ R))) dX12_next_179 (xpg0 hP rfl) rfl ok_9 (by decide) w_1018 rfl pf_I (fun _ h => by cases h) rfl rfl (Nat.le_of_ble_eq_true rfl) (xps0 hP) ?_
        refine xi_aload_n 0 dX12_next_182 rfl ?_
        refine xi_dup dX12_next_183 rfl ?_
        refine xi_get (f := 8) dX12_next_184 (xpg0 hP rfl) rfl ok_9 (by decide) w_1016 rfl ?_
        refine xi_iconst (v := 1) dX12_next_187 (by decide) ?_
        refine xi_iadd (v := (nI (u3 + 1))) dX12_next_188 (nI_add u3 1) ?_
        refine xi_put (f := 8) (ty := .int) (M' := (P ++ (MDL L i_keptMany i_taped i_faultKind i_faultPlace (u3 + 1) u3 ((3 : Int32)) ((0 : Int32)) i_bad i_full i_bandRows i_bandFirsts i_outs f_state f_was f_kept f_tape f_order f_rest f_ways f_costs f_bandBest f_found f_drawn f_joined f_out ++ R))) dX12_next_189 (xpg0 hP rfl) rfl ok_9 (by decide) w_1016 rfl pf_I (fun _ h => by cases h) rfl rfl (Nat.le_of_ble_eq_true rfl) (xps0 hP) ?_
        exact xi_vret dX12_next_192 rfl (Nat.le_of_ble_eq_true rfl) (Nat.le_of_ble_eq_true rfl) ⟨_, rfl, hq, (show (u3 ≤ (u3 + 1) ∧ (u3 + 1) ≤ i_taped ∧ (((3 : Int32)) = 3 → u3 < (u3 + 1)) ∧ (((3 : Int32)) = 2 → DG f_tape u3 (u3 + 1))) from ⟨by omega, by omega, fun h_ => by first | omega | exact absurd h_ (by decide), fun h_ => by first | exact absurd h_ (by decide) | exact hy123.2.2⟩), (by show (u3 + 1) ≤ 400; omega), (by show u3 ≤ 400; omega), (by show e ≤ u3; omega), rfl⟩
      · rw [if_neg c7] at hq
        have c7f := at_lt (by omega) (by omega) c7
        refine xi_aload_n 0 dX12_next_118 rfl ?_
        refine xi_iconst (v := 2) dX12_next_119 (by decide) ?_
        refine xi_put (f := 10) (ty := .int) (M' := (P ++ (MDL L i_keptMany i_taped i_faultKind i_faultPlace u3 u3 ((2 : Int32)) ((0 : Int32)) i_bad i_full i_bandRows i_bandFirsts i_outs f_state f_was f_kept f_tape f_order f_rest f_ways f_costs f_bandBest f_found f_drawn f_joined f_out ++ R))) dX12_next_120 (xpg0 hP rfl) rfl ok_9 (by decide) w_1018 rfl pf_I (fun _ h => by cases h) rfl rfl (Nat.le_of_ble_eq_true rfl) (xps0 hP) ?_
        refine LX12_next_123_s G hP e i_keptMany i_taped i_faultKind i_faultPlace u3 ((2 : Int32)) i_bad i_full i_bandRows i_bandFirsts i_outs f_state f_was f_kept f_tape f_order f_rest f_ways f_costs f_bandBest f_found f_drawn f_joined f_out (by omega) (by omega) (by omega) (by omega) (by omega) Q _ (fun u9 u10 hb11 hy123 hq => ?_) (i_taped - u3 + 1) u3 ((0 : Int32)) (by omega) (Nat.lt_succ_self _) ⟨by omega, by omega, DG_0⟩ hq
        exact xi_vret dX12_next_192 rfl (Nat.le_of_ble_eq_true rfl) (Nat.le_of_ble_eq_true rfl) ⟨_, rfl, hq, (show (u3 ≤ u9 ∧ u9 ≤ i_taped ∧ (((2 : Int32)) = 3 → u3 < u9) ∧ (((2 : Int32)) = 2 → DG f_tape u3 u9)) from ⟨by omega, by omega, fun h_ => by first | omega | exact absurd h_ (by decide), fun h_ => by first | exact absurd h_ (by decide) | exact hy123.2.2⟩), (by show u9 ≤ 400; omega), (by show u3 ≤ 400; omega), (by show e ≤ u3; omega), rfl⟩
    · rw [if_neg c6] at hq
      have c6f := at_lt (by omega) (by omega) c6
      refine xi_aload_n 0 dX12_next_78 rfl ?_
      refine xi_iconst (v := 1) dX12_next_79 (by decide) ?_
      refine xi_put (f := 10) (ty := .int) (M' := (P ++ (MDL L i_keptMany i_taped i_faultKind i_faultPlace u3 u3 ((1 : Int32)) ((0 : Int32)) i_bad i_full i_bandRows i_bandFirsts i_outs f_state f_was f_kept f_tape f_order f_rest f_ways f_costs f_bandBest f_found f_drawn f_joined f_out ++ R))) dX12_next_80 (xpg0 hP rfl) rfl ok_9 (by decide) w_1018 rfl pf_I (fun _ h => by cases h) rfl rfl (Nat.le_of_ble_eq_true rfl) (xps0 hP) ?_
      refine LX12_next_83_s G hP e i_keptMany i_taped i_faultKind i_faultPlace u3 ((1 : Int32)) ((0 : Int32)) i_bad i_full i_bandRows i_bandFirsts i_outs f_state f_was f_kept f_tape f_order f_rest f_ways f_costs f_bandBest f_found f_drawn f_joined f_out (by omega) (by omega) (by omega) (by omega) (by omega) Q _ (fun u13 hb14 hy83 hq => ?_) (i_taped - u3 + 1) u3 (by omega) (Nat.lt_succ_self _) (by omega) hq
      exact xi_vret dX12_next_192 rfl (Nat.le_of_ble_eq_true rfl) (Nat.le_of_ble_eq_true rfl) ⟨_, rfl, hq, (show (u3 ≤ u13 ∧ u13 ≤ i_taped ∧ (((1 : Int32)) = 3 → u3 < u13) ∧ (((1 : Int32)) = 2 → DG f_tape u3 u13)) from ⟨by omega, by omega, fun h_ => by first | omega | exact absurd h_ (by decide), fun h_ => by first | exact absurd h_ (by decide) | exact hy123.2.2⟩), (by show u13 ≤ 400; omega), (by show u3 ≤ 400; omega), (by show e ≤ u3; omega), rfl⟩
  · rw [if_pos c5] at hq
    have c5n : u3 = i_taped := (nI_eq (a := u3) (b := i_taped) (by omega) (by omega)).mp c5
    refine xi_aload_n 0 dX12_next_59 rfl ?_
    refine xi_iconst (v := 0) dX12_next_60 (by decide) ?_
    refine xi_put (f := 10) (ty := .int) (M' := (P ++ (MDL L i_keptMany i_taped i_faultKind i_faultPlace u3 u3 ((0 : Int32)) ((0 : Int32)) i_bad i_full i_bandRows i_bandFirsts i_outs f_state f_was f_kept f_tape f_order f_rest f_ways f_costs f_bandBest f_found f_drawn f_joined f_out ++ R))) dX12_next_61 (xpg0 hP rfl) rfl ok_9 (by decide) w_1018 rfl pf_I (fun _ h => by cases h) rfl rfl (Nat.le_of_ble_eq_true rfl) (xps0 hP) ?_
    refine xi_goto (tgt := 192) dX12_next_64 (by decide) ?_
    exact xi_vret dX12_next_192 rfl (Nat.le_of_ble_eq_true rfl) (Nat.le_of_ble_eq_true rfl) ⟨_, rfl, hq, (show (u3 ≤ u3 ∧ u3 ≤ i_taped ∧ (((0 : Int32)) = 3 → u3 < u3) ∧ (((0 : Int32)) = 2 → DG f_tape u3 u3)) from ⟨by omega, by omega, fun h_ => by first | omega | exact absurd h_ (by decide), fun h_ => by first | exact absurd h_ (by decide) | exact hy123.2.2⟩), (by show u3 ≤ 400; omega), (by show u3 ≤ 400; omega), (by show e ≤ u3; omega), rfl⟩
