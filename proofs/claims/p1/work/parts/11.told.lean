/-! the reference's told, on what is new (printed by wip/p1/gen4.py) -/
set_option maxHeartbeats 4000000 in
set_option maxRecDepth 100000 in
theorem fm_remembers_loop (G : xG) (g : Nat → Int32) : ∀ (j i : Nat) (w : Nat → Int32), i + j = 273 → xW G mX12_remembers (xrm 0 0 0) (xQ G (fun v M2 => v = none ∧ ∃ w2, M2 = (MX 0 (fun _ => 0) (.inr (6, [.ref 6, .int 1, .int 0, .ref 1, .int 0, .int 0, .int 0, .int 0])) mo0 g w2 (fun _ => 0))) 0 0) 2 [(1, .int (nI i)), (0, .ref 149)] [] (MX 0 (fun _ => 0) (.inr (6, [.ref 6, .int 1, .int 0, .ref 1, .int 0, .int 0, .int 0, .int 0])) mo0 g w (fun _ => 0)) 0 0 := by
  intro j
  induction j with
  | zero =>
    intro i w hi
    have e : i = 273 := by omega
    subst e
    refine xi_iload_n 0 dX12_remembers_2 rfl ?_
    refine xi_sipush (v := 273) dX12_remembers_3 (by decide) ?_
    refine xi_icmp_ge_t (tgt := 27) dX12_remembers_6 (by decide) (by decide) ?_
    exact xi_vret dX12_remembers_27 rfl (Nat.le_of_ble_eq_true rfl) (Nat.le_of_ble_eq_true rfl) ⟨rfl, _, rfl⟩
  | succ j ih =>
    intro i w hi
    have hlt : ¬ (273 : Int32) ≤ nI i := nI_ge (a := i) (b := 273) (by omega) (by decide)
    have hi2 : i < 273 := by omega
    refine xi_iload_n 0 dX12_remembers_2 rfl ?_
    refine xi_sipush (v := 273) dX12_remembers_3 (by decide) ?_
    refine xi_icmp_ge_f (tgt := 27) dX12_remembers_6 (by decide) hlt ?_
    refine xi_aload_n 1 dX12_remembers_9 rfl ?_
    refine xi_get (f := 1) dX12_remembers_10 rfl rfl ok_9 (by decide) w_1009 rfl ?_
    refine xi_iload_n 0 dX12_remembers_13 rfl ?_
    refine xi_aload_n 1 dX12_remembers_14 rfl ?_
    refine xi_get (f := 0) dX12_remembers_15 rfl rfl ok_9 (by decide) w_1008 rfl ?_
    refine xi_iload_n 0 dX12_remembers_18 rfl ?_
    refine xi_iaload (v := (g (nI i).toNatClampNeg)) dX12_remembers_19 rfl (vp_in_nI (by omega) (by decide)) rfl ?_
    refine xi_iastore (M' := (MX 0 (fun _ => 0) (.inr (6, [.ref 6, .int 1, .int 0, .ref 1, .int 0, .int 0, .int 0, .int 0])) mo0 g (upd w (nI i).toNatClampNeg (g (nI i).toNatClampNeg)) (fun _ => 0))) dX12_remembers_20 rfl (vp_in_nI (by omega) (by decide)) rfl ?_
    refine xi_iinc (v := ((nI i) + Int32.ofInt 1)) (lv' := [(1, .int ((nI i) + Int32.ofInt 1)), (0, .ref 149)]) 0 dX12_remembers_21 rfl rfl (by decide) rfl ?_
    refine xi_goto (tgt := 2) dX12_remembers_24 (by decide) ?_
    rw [show nI i + Int32.ofInt 1 = nI (i + 1) from nI_1 i]
    exact ih (i + 1) _ (by omega)
set_option maxHeartbeats 4000000 in
set_option maxRecDepth 100000 in
theorem fm_remembers (G : xG) (g w : Nat → Int32) : xC G mX12_remembers 0 0 0 [.ref 149] (MX 0 (fun _ => 0) (.inr (6, [.ref 6, .int 1, .int 0, .ref 1, .int 0, .int 0, .int 0, .int 0])) mo0 g w (fun _ => 0)) (fun v M2 => v = none ∧ ∃ w2, M2 = (MX 0 (fun _ => 0) (.inr (6, [.ref 6, .int 1, .int 0, .ref 1, .int 0, .int 0, .int 0, .int 0])) mo0 g w2 (fun _ => 0))) := by
  refine xC.of (by decide) (Nat.le_of_ble_eq_true rfl) ?_
  show xW _ _ _ _ 0 [(0, .ref 149)] [] _ 0 0
  refine xi_iconst (v := 0) dX12_remembers_0 (by decide) ?_
  refine xi_istore_n (lv' := [(1, .int 0), (0, .ref 149)]) dX12_remembers_1 (by decide) rfl ?_
  exact fm_remembers_loop G g 273 0 w rfl
set_option maxHeartbeats 4000000 in
set_option maxRecDepth 100000 in
theorem au_18 (G : xG) : xC G mX12_in 0 0 0 [.long 0, .long 0, .long 2] (MX 0 (fun _ => 0) (.inr (6, [.ref 6, .int 1, .int 0, .ref 1, .int 0, .int 0, .int 0, .int 0])) mo0 (fun _ => 0) (fun _ => 0) (fun _ => 0)) (fun v M2 => v = some (.int 1) ∧ M2 = (MX 0 (fun _ => 0) (.inr (6, [.ref 6, .int 1, .int 0, .ref 1, .int 0, .int 0, .int 0, .int 0])) mo0 (fun _ => 0) (fun _ => 0) (fun _ => 0))) := by
  refine xC.of (by decide) (Nat.le_of_ble_eq_true rfl) ?_
  show xW _ _ _ _ 0 [(0, .long 0), (2, .long 0), (4, .long 2)] [] _ 0 0
  refine xi_lload_n 0 dX12_in_0 rfl ?_
  refine xi_lload_n 1 dX12_in_1 rfl ?_
  refine xi_lcmp (v := 0) dX12_in_2 (by decide) ?_
  refine xi_if_lt_f (tgt := 17) dX12_in_3 (by decide) (by decide) ?_
  refine xi_lload_n 0 dX12_in_6 rfl ?_
  refine xi_lload 2 dX12_in_7 rfl ?_
  refine xi_lcmp (v := (-1)) dX12_in_9 (by decide) ?_
  refine xi_if_gt_f (tgt := 17) dX12_in_10 (by decide) (by decide) ?_
  refine xi_iconst (v := 1) dX12_in_13 (by decide) ?_
  refine xi_goto (tgt := 18) dX12_in_14 (by decide) ?_
  exact xi_iret dX12_in_18 rfl (by decide) (Nat.le_of_ble_eq_true rfl) (Nat.le_of_ble_eq_true rfl) ⟨rfl, rfl⟩
set_option maxHeartbeats 4000000 in
set_option maxRecDepth 100000 in
theorem au_19 (G : xG) : xC G mX12_isSlot 1 0 0 [.int 0] (MX 0 (fun _ => 0) (.inr (6, [.ref 6, .int 1, .int 0, .ref 1, .int 0, .int 0, .int 0, .int 0])) mo0 (fun _ => 0) (fun _ => 0) (fun _ => 0)) (fun v M2 => v = some (.int 1) ∧ M2 = (MX 0 (fun _ => 0) (.inr (6, [.ref 6, .int 1, .int 0, .ref 1, .int 0, .int 0, .int 0, .int 0])) mo0 (fun _ => 0) (fun _ => 0) (fun _ => 0))) := by
  refine xC.of (by decide) (Nat.le_of_ble_eq_true rfl) ?_
  show xW _ _ _ _ 0 [(0, .int 0)] [] _ 0 0
  refine xi_iload_n 0 dX12_isSlot_0 rfl ?_
  refine xi_i2l (v := 0) dX12_isSlot_1 (by decide) ?_
  refine xi_lconst (v := 0) dX12_isSlot_2 (by decide) ?_
  refine xi_ldc2 (v := 2) dX12_isSlot_3 w_1098 ?_
  refine xi_callS (as := [.long 0, .long 0, .long 2]) (rest := []) dX12_isSlot_6 (au_18 G) mkX12_in w_1100 w_1099 rfl rfl (Nat.le_of_ble_eq_true rfl) (Nat.le_of_ble_eq_true rfl) (Nat.le_of_ble_eq_true rfl) (Nat.le_of_ble_eq_true rfl) (Nat.le_of_ble_eq_true rfl) ?_
  intro v M2 hq
  obtain ⟨rfl, rfl⟩ := hq
  show xW _ _ _ _ 9 _ [.int 1] (MX 0 (fun _ => 0) (.inr (6, [.ref 6, .int 1, .int 0, .ref 1, .int 0, .int 0, .int 0, .int 0])) mo0 (fun _ => 0) (fun _ => 0) (fun _ => 0)) _ _
  exact xi_iret dX12_isSlot_9 rfl (by decide) (Nat.le_of_ble_eq_true rfl) (Nat.le_of_ble_eq_true rfl) ⟨rfl, rfl⟩
set_option maxHeartbeats 4000000 in
set_option maxRecDepth 100000 in
theorem au_20 (G : xG) (w : Nat → Int32) : xC G mX12_isAt 0 0 0 [.ref 149, .int 32, .int 32] (MX 0 (fun _ => 0) (.inr (6, [.ref 6, .int 1, .int 0, .ref 1, .int 0, .int 0, .int 0, .int 0])) mo0 (fun _ => 0) w (fun _ => 0)) (fun v M2 => v = some (.int 0) ∧ M2 = (MX 0 (fun _ => 0) (.inr (6, [.ref 6, .int 1, .int 0, .ref 1, .int 0, .int 0, .int 0, .int 0])) mo0 (fun _ => 0) w (fun _ => 0))) := by
  refine xC.of (by decide) (Nat.le_of_ble_eq_true rfl) ?_
  show xW _ _ _ _ 0 [(0, .ref 149), (1, .int 32), (2, .int 32)] [] _ 0 0
  refine xi_aload_n 0 dX12_isAt_0 rfl ?_
  refine xi_get (f := 8) dX12_isAt_1 rfl rfl ok_9 (by decide) w_1016 rfl ?_
  refine xi_aload_n 0 dX12_isAt_4 rfl ?_
  refine xi_get (f := 5) dX12_isAt_5 rfl rfl ok_9 (by decide) w_1013 rfl ?_
  refine xi_icmp_ge_t (tgt := 35) dX12_isAt_8 (by decide) (by decide) ?_
  refine xi_iconst (v := 0) dX12_isAt_35 (by decide) ?_
  exact xi_iret dX12_isAt_36 rfl (by decide) (Nat.le_of_ble_eq_true rfl) (Nat.le_of_ble_eq_true rfl) ⟨rfl, rfl⟩
set_option maxHeartbeats 4000000 in
set_option maxRecDepth 100000 in
theorem au_21 (G : xG) (w : Nat → Int32) : xC G mX12_isAt 0 0 0 [.ref 149, .int 10, .int 10] (MX 0 (fun _ => 0) (.inr (6, [.ref 6, .int 1, .int 0, .ref 1, .int 0, .int 0, .int 0, .int 0])) mo0 (fun _ => 0) w (fun _ => 0)) (fun v M2 => v = some (.int 0) ∧ M2 = (MX 0 (fun _ => 0) (.inr (6, [.ref 6, .int 1, .int 0, .ref 1, .int 0, .int 0, .int 0, .int 0])) mo0 (fun _ => 0) w (fun _ => 0))) := by
  refine xC.of (by decide) (Nat.le_of_ble_eq_true rfl) ?_
  show xW _ _ _ _ 0 [(0, .ref 149), (1, .int 10), (2, .int 10)] [] _ 0 0
  refine xi_aload_n 0 dX12_isAt_0 rfl ?_
  refine xi_get (f := 8) dX12_isAt_1 rfl rfl ok_9 (by decide) w_1016 rfl ?_
  refine xi_aload_n 0 dX12_isAt_4 rfl ?_
  refine xi_get (f := 5) dX12_isAt_5 rfl rfl ok_9 (by decide) w_1013 rfl ?_
  refine xi_icmp_ge_t (tgt := 35) dX12_isAt_8 (by decide) (by decide) ?_
  refine xi_iconst (v := 0) dX12_isAt_35 (by decide) ?_
  exact xi_iret dX12_isAt_36 rfl (by decide) (Nat.le_of_ble_eq_true rfl) (Nat.le_of_ble_eq_true rfl) ⟨rfl, rfl⟩
set_option maxHeartbeats 4000000 in
set_option maxRecDepth 100000 in
theorem au_22 (G : xG) (w : Nat → Int32) : xC G mX12_next 1 0 0 [.ref 149] (MX 0 (fun _ => 0) (.inr (6, [.ref 6, .int 1, .int 0, .ref 1, .int 0, .int 0, .int 0, .int 0])) mo0 (fun _ => 0) w (fun _ => 0)) (fun v M2 => v = none ∧ M2 = (MX 0 (fun _ => 0) (.inr (6, [.ref 6, .int 1, .int 0, .ref 1, .int 0, .int 0, .int 0, .int 0])) mo0 (fun _ => 0) w (fun _ => 0))) := by
  refine xC.of (by decide) (Nat.le_of_ble_eq_true rfl) ?_
  show xW _ _ _ _ 0 [(0, .ref 149)] [] _ 0 0
  refine xi_aload_n 0 dX12_next_0 rfl ?_
  refine xi_bipush (v := 32) dX12_next_1 (by decide) ?_
  refine xi_bipush (v := 32) dX12_next_3 (by decide) ?_
  refine xi_callV (as := [.int 32, .int 32]) (rest := []) dX12_next_5 (au_20 G w) mkX12_isAt w_1140 ws_41 w_1138 rfl rfl rfl rfl rfl (Nat.le_of_ble_eq_true rfl) (Nat.le_of_ble_eq_true rfl) (Nat.le_of_ble_eq_true rfl) (Nat.le_of_ble_eq_true rfl) (Nat.le_of_ble_eq_true rfl) ?_
  intro v M2 hq
  obtain ⟨rfl, rfl⟩ := hq
  show xW _ _ _ _ 8 _ [.int 0] (MX 0 (fun _ => 0) (.inr (6, [.ref 6, .int 1, .int 0, .ref 1, .int 0, .int 0, .int 0, .int 0])) mo0 (fun _ => 0) w (fun _ => 0)) _ _
  refine xi_if_ne_f (tgt := 22) dX12_next_8 (by decide) (by decide) ?_
  refine xi_aload_n 0 dX12_next_11 rfl ?_
  refine xi_bipush (v := 10) dX12_next_12 (by decide) ?_
  refine xi_bipush (v := 10) dX12_next_14 (by decide) ?_
  refine xi_callV (as := [.int 10, .int 10]) (rest := []) dX12_next_16 (au_21 G w) mkX12_isAt w_1140 ws_41 w_1138 rfl rfl rfl rfl rfl (Nat.le_of_ble_eq_true rfl) (Nat.le_of_ble_eq_true rfl) (Nat.le_of_ble_eq_true rfl) (Nat.le_of_ble_eq_true rfl) (Nat.le_of_ble_eq_true rfl) ?_
  intro v M2 hq
  obtain ⟨rfl, rfl⟩ := hq
  show xW _ _ _ _ 19 _ [.int 0] (MX 0 (fun _ => 0) (.inr (6, [.ref 6, .int 1, .int 0, .ref 1, .int 0, .int 0, .int 0, .int 0])) mo0 (fun _ => 0) w (fun _ => 0)) _ _
  refine xi_if_eq_t (tgt := 35) dX12_next_19 (by decide) (by decide) ?_
  refine xi_aload_n 0 dX12_next_35 rfl ?_
  refine xi_aload_n 0 dX12_next_36 rfl ?_
  refine xi_get (f := 8) dX12_next_37 rfl rfl ok_9 (by decide) w_1016 rfl ?_
  refine xi_put (f := 9) (ty := .int) (M' := (MX 0 (fun _ => 0) (.inr (6, [.ref 6, .int 1, .int 0, .ref 1, .int 0, .int 0, .int 0, .int 0])) mo0 (fun _ => 0) w (fun _ => 0))) dX12_next_40 rfl rfl ok_9 (by decide) w_1017 rfl pf_I (fun _ h => by cases h) rfl rfl (Nat.le_of_ble_eq_true rfl) rfl ?_
  refine xi_aload_n 0 dX12_next_43 rfl ?_
  refine xi_iconst (v := 0) dX12_next_44 (by decide) ?_
  refine xi_put (f := 11) (ty := .int) (M' := (MX 0 (fun _ => 0) (.inr (6, [.ref 6, .int 1, .int 0, .ref 1, .int 0, .int 0, .int 0, .int 0])) mo0 (fun _ => 0) w (fun _ => 0))) dX12_next_45 rfl rfl ok_9 (by decide) w_1019 rfl pf_I (fun _ h => by cases h) rfl rfl (Nat.le_of_ble_eq_true rfl) rfl ?_
  refine xi_aload_n 0 dX12_next_48 rfl ?_
  refine xi_get (f := 8) dX12_next_49 rfl rfl ok_9 (by decide) w_1016 rfl ?_
  refine xi_aload_n 0 dX12_next_52 rfl ?_
  refine xi_get (f := 5) dX12_next_53 rfl rfl ok_9 (by decide) w_1013 rfl ?_
  refine xi_icmp_ne_f (tgt := 67) dX12_next_56 (by decide) (by decide) ?_
  refine xi_aload_n 0 dX12_next_59 rfl ?_
  refine xi_iconst (v := 0) dX12_next_60 (by decide) ?_
  refine xi_put (f := 10) (ty := .int) (M' := (MX 0 (fun _ => 0) (.inr (6, [.ref 6, .int 1, .int 0, .ref 1, .int 0, .int 0, .int 0, .int 0])) mo0 (fun _ => 0) w (fun _ => 0))) dX12_next_61 rfl rfl ok_9 (by decide) w_1018 rfl pf_I (fun _ h => by cases h) rfl rfl (Nat.le_of_ble_eq_true rfl) rfl ?_
  refine xi_goto (tgt := 192) dX12_next_64 (by decide) ?_
  exact xi_vret dX12_next_192 rfl (Nat.le_of_ble_eq_true rfl) (Nat.le_of_ble_eq_true rfl) ⟨rfl, rfl⟩
set_option maxHeartbeats 4000000 in
set_option maxRecDepth 100000 in
theorem au_23 (G : xG) (w : Nat → Int32) : xC G mJ0_coder_7d493 0 0 0 [.float 4] (MX 0 (fun _ => 0) (.inr (6, [.ref 6, .int 1, .int 0, .ref 1, .int 0, .int 0, .int 0, .int 0])) mo0 (fun _ => 0) w (fun _ => 0)) (fun v M2 => v = some (.int 0) ∧ M2 = (MX 0 (fun _ => 0) (.inr (6, [.ref 6, .int 1, .int 0, .ref 1, .int 0, .int 0, .int 0, .int 0])) mo0 (fun _ => 0) w (fun _ => 0))) := by
  refine xC.of (by decide) (Nat.le_of_ble_eq_true rfl) ?_
  show xW _ _ _ _ 0 [(0, .float 4)] [] _ 0 0
  refine xi_compact dJ0_coder_7d493_0 w_336 ?_
  refine xi_if_eq_f (tgt := 13) dJ0_coder_7d493_3 (by decide) (by decide) ?_
  refine xi_aload_nS 0 dJ0_coder_7d493_6 rfl ?_
  refine xi_getSc dJ0_coder_7d493_7 st_4 rfl w_1541 ?_
  refine xi_goto (tgt := 14) dJ0_coder_7d493_10 (by decide) ?_
  exact xi_iret dJ0_coder_7d493_14 rfl (by decide) (Nat.le_of_ble_eq_true rfl) (Nat.le_of_ble_eq_true rfl) ⟨rfl, rfl⟩
set_option maxHeartbeats 4000000 in
set_option maxRecDepth 100000 in
theorem au_24 (G : xG) (w : Nat → Int32) : xC G mJ0_length_8abf5 1 0 0 [.float 4] (MX 0 (fun _ => 0) (.inr (6, [.ref 6, .int 1, .int 0, .ref 1, .int 0, .int 0, .int 0, .int 0])) mo0 (fun _ => 0) w (fun _ => 0)) (fun v M2 => v = some (.int 3) ∧ M2 = (MX 0 (fun _ => 0) (.inr (6, [.ref 6, .int 1, .int 0, .ref 1, .int 0, .int 0, .int 0, .int 0])) mo0 (fun _ => 0) w (fun _ => 0))) := by
  refine xC.of (by decide) (Nat.le_of_ble_eq_true rfl) ?_
  show xW _ _ _ _ 0 [(0, .float 4)] [] _ 0 0
  refine xi_aload_nS 0 dJ0_length_8abf5_0 rfl ?_
  refine xi_getSv (w2 := 104) dJ0_length_8abf5_1 st_4 rfl rfl w_1540 ?_
  refine xi_lenS (v := 3) dJ0_length_8abf5_4 st_4 rfl (by decide) ?_
  refine xi_aload_nS 0 dJ0_length_8abf5_5 rfl ?_
  refine xi_callVS (as := []) (rest := [.int 3]) dJ0_length_8abf5_6 (au_23 G w) mkJ0_coder_7d493 w_333 w_334 w_332 st_4 rfl rfl rfl rfl (Nat.le_of_ble_eq_true rfl) (Nat.le_of_ble_eq_true rfl) (Nat.le_of_ble_eq_true rfl) (Nat.le_of_ble_eq_true rfl) (Nat.le_of_ble_eq_true rfl) ?_
  intro v M2 hq
  obtain ⟨rfl, rfl⟩ := hq
  show xW _ _ _ _ 9 _ [.int 0, .int 3] (MX 0 (fun _ => 0) (.inr (6, [.ref 6, .int 1, .int 0, .ref 1, .int 0, .int 0, .int 0, .int 0])) mo0 (fun _ => 0) w (fun _ => 0)) _ _
  refine xi_ishr (v := 3) dJ0_length_8abf5_9 (by decide) ?_
  exact xi_iret dJ0_length_8abf5_10 rfl rfl (Nat.le_of_ble_eq_true rfl) (Nat.le_of_ble_eq_true rfl) ⟨rfl, rfl⟩
set_option maxHeartbeats 4000000 in
set_option maxRecDepth 100000 in
theorem au_25 (G : xG) (w : Nat → Int32) : xC G mX12_isWord 2 0 0 [.ref 149, .float 4] (MX 0 (fun _ => 0) (.inr (6, [.ref 6, .int 1, .int 0, .ref 1, .int 0, .int 0, .int 0, .int 0])) mo0 (fun _ => 0) w (fun _ => 0)) (fun v M2 => v = some (.int 0) ∧ M2 = (MX 0 (fun _ => 0) (.inr (6, [.ref 6, .int 1, .int 0, .ref 1, .int 0, .int 0, .int 0, .int 0])) mo0 (fun _ => 0) w (fun _ => 0))) := by
  refine xC.of (by decide) (Nat.le_of_ble_eq_true rfl) ?_
  show xW _ _ _ _ 0 [(0, .ref 149), (1, .float 4)] [] _ 0 0
  refine xi_aload_n 0 dX12_isWord_0 rfl ?_
  refine xi_get (f := 12) dX12_isWord_1 rfl rfl ok_9 (by decide) w_1020 rfl ?_
  refine xi_if_ne_f (tgt := 35) dX12_isWord_4 (by decide) (by decide) ?_
  refine xi_aload_n 0 dX12_isWord_7 rfl ?_
  refine xi_get (f := 10) dX12_isWord_8 rfl rfl ok_9 (by decide) w_1018 rfl ?_
  refine xi_iconst (v := 1) dX12_isWord_11 (by decide) ?_
  refine xi_icmp_ne_t (tgt := 35) dX12_isWord_12 (by decide) (by decide) ?_
  refine xi_iconst (v := 0) dX12_isWord_35 (by decide) ?_
  refine xi_istore_n (lv' := [(2, .int 0), (0, .ref 149), (1, .float 4)]) dX12_isWord_36 (by decide) rfl ?_
  refine xi_iconst (v := 0) dX12_isWord_37 (by decide) ?_
  refine xi_istore_n (lv' := [(3, .int 0), (2, .int 0), (0, .ref 149), (1, .float 4)]) dX12_isWord_38 (by decide) rfl ?_
  refine xi_iload_n 0 dX12_isWord_39 rfl ?_
  refine xi_aload_nS 3 dX12_isWord_40 rfl ?_
  refine xi_callVS (as := []) (rest := [.int 0]) dX12_isWord_41 (au_24 G w) mkJ0_length_8abf5 w_329 w_330 w_1152 st_4 rfl rfl rfl rfl (Nat.le_of_ble_eq_true rfl) (Nat.le_of_ble_eq_true rfl) (Nat.le_of_ble_eq_true rfl) (Nat.le_of_ble_eq_true rfl) (Nat.le_of_ble_eq_true rfl) ?_
  intro v M2 hq
  obtain ⟨rfl, rfl⟩ := hq
  show xW _ _ _ _ 44 _ [.int 3, .int 0] (MX 0 (fun _ => 0) (.inr (6, [.ref 6, .int 1, .int 0, .ref 1, .int 0, .int 0, .int 0, .int 0])) mo0 (fun _ => 0) w (fun _ => 0)) _ _
  refine xi_icmp_ge_f (tgt := 82) dX12_isWord_44 (by decide) (by decide) ?_
  refine xi_iload_n 1 dX12_isWord_47 rfl ?_
  refine xi_if_eq_t (tgt := 82) dX12_isWord_48 (by decide) (by decide) ?_
  refine xi_iload_n 1 dX12_isWord_82 rfl ?_
  exact xi_iret dX12_isWord_83 rfl (by decide) (Nat.le_of_ble_eq_true rfl) (Nat.le_of_ble_eq_true rfl) ⟨rfl, rfl⟩
set_option maxHeartbeats 4000000 in
set_option maxRecDepth 100000 in
theorem au_26 (G : xG) (w : Nat → Int32) : xC G mX12_faults 0 0 0 [.ref 149, .int 1] (MX 0 (fun _ => 0) (.inr (6, [.ref 6, .int 1, .int 0, .ref 1, .int 0, .int 0, .int 0, .int 0])) mo0 (fun _ => 0) w (fun _ => 0)) (fun v M2 => v = none ∧ M2 = (MX 0 (fun _ => 0) (.inr (6, [.ref 6, .int 1, .int 0, .ref 1, .int 0, .int 0, .int 0, .int 0])) (.inr (9, [.ref 150, .ref 151, .ref 152, .int 0, .ref 153, .int 0, .int 1, .int 0, .int 0, .int 0, .int 0, .int 0, .int 1, .ref 154, .ref 155, .ref 156, .ref 157, .int 0, .int 0, .int 0, .ref 158, .ref 159, .ref 160, .ref 161, .ref 162, .int 0])) (fun _ => 0) w (fun _ => 0))) := by
  refine xC.of (by decide) (Nat.le_of_ble_eq_true rfl) ?_
  show xW _ _ _ _ 0 [(0, .ref 149), (1, .int 1)] [] _ 0 0
  refine xi_aload_n 0 dX12_faults_0 rfl ?_
  refine xi_get (f := 12) dX12_faults_1 rfl rfl ok_9 (by decide) w_1020 rfl ?_
  refine xi_if_ne_f (tgt := 25) dX12_faults_4 (by decide) (by decide) ?_
  refine xi_aload_n 0 dX12_faults_7 rfl ?_
  refine xi_iconst (v := 1) dX12_faults_8 (by decide) ?_
  refine xi_put (f := 12) (ty := .boolean) (M' := (MX 0 (fun _ => 0) (.inr (6, [.ref 6, .int 1, .int 0, .ref 1, .int 0, .int 0, .int 0, .int 0])) (.inr (9, [.ref 150, .ref 151, .ref 152, .int 0, .ref 153, .int 0, .int 0, .int (-1), .int 0, .int 0, .int 0, .int 0, .int 1, .ref 154, .ref 155, .ref 156, .ref 157, .int 0, .int 0, .int 0, .ref 158, .ref 159, .ref 160, .ref 161, .ref 162, .int 0])) (fun _ => 0) w (fun _ => 0))) dX12_faults_9 rfl rfl ok_9 (by decide) w_1020 rfl pf_Z (fun _ h => by cases h) rfl rfl (Nat.le_of_ble_eq_true rfl) rfl ?_
  refine xi_aload_n 0 dX12_faults_12 rfl ?_
  refine xi_iload_n 1 dX12_faults_13 rfl ?_
  refine xi_put (f := 6) (ty := .int) (M' := (MX 0 (fun _ => 0) (.inr (6, [.ref 6, .int 1, .int 0, .ref 1, .int 0, .int 0, .int 0, .int 0])) (.inr (9, [.ref 150, .ref 151, .ref 152, .int 0, .ref 153, .int 0, .int 1, .int (-1), .int 0, .int 0, .int 0, .int 0, .int 1, .ref 154, .ref 155, .ref 156, .ref 157, .int 0, .int 0, .int 0, .ref 158, .ref 159, .ref 160, .ref 161, .ref 162, .int 0])) (fun _ => 0) w (fun _ => 0))) dX12_faults_14 rfl rfl ok_9 (by decide) w_1014 rfl pf_I (fun _ h => by cases h) rfl rfl (Nat.le_of_ble_eq_true rfl) rfl ?_
  refine xi_aload_n 0 dX12_faults_17 rfl ?_
  refine xi_aload_n 0 dX12_faults_18 rfl ?_
  refine xi_get (f := 9) dX12_faults_19 rfl rfl ok_9 (by decide) w_1017 rfl ?_
  refine xi_put (f := 7) (ty := .int) (M' := (MX 0 (fun _ => 0) (.inr (6, [.ref 6, .int 1, .int 0, .ref 1, .int 0, .int 0, .int 0, .int 0])) (.inr (9, [.ref 150, .ref 151, .ref 152, .int 0, .ref 153, .int 0, .int 1, .int 0, .int 0, .int 0, .int 0, .int 0, .int 1, .ref 154, .ref 155, .ref 156, .ref 157, .int 0, .int 0, .int 0, .ref 158, .ref 159, .ref 160, .ref 161, .ref 162, .int 0])) (fun _ => 0) w (fun _ => 0))) dX12_faults_22 rfl rfl ok_9 (by decide) w_1015 rfl pf_I (fun _ h => by cases h) rfl rfl (Nat.le_of_ble_eq_true rfl) rfl ?_
  exact xi_vret dX12_faults_25 rfl (Nat.le_of_ble_eq_true rfl) (Nat.le_of_ble_eq_true rfl) ⟨rfl, rfl⟩
set_option maxHeartbeats 4000000 in
set_option maxRecDepth 100000 in
theorem au_27 (G : xG) (w : Nat → Int32) : xC G mX12_passes 0 0 0 [.ref 149] (MX 0 (fun _ => 0) (.inr (6, [.ref 6, .int 1, .int 0, .ref 1, .int 0, .int 0, .int 0, .int 0])) (.inr (9, [.ref 150, .ref 151, .ref 152, .int 0, .ref 153, .int 0, .int 1, .int 0, .int 0, .int 0, .int 0, .int 0, .int 1, .ref 154, .ref 155, .ref 156, .ref 157, .int 0, .int 0, .int 0, .ref 158, .ref 159, .ref 160, .ref 161, .ref 162, .int 0])) (fun _ => 0) w (fun _ => 0)) (fun v M2 => v = none ∧ M2 = (MX 0 (fun _ => 0) (.inr (6, [.ref 6, .int 1, .int 0, .ref 1, .int 0, .int 0, .int 0, .int 0])) (.inr (9, [.ref 150, .ref 151, .ref 152, .int 0, .ref 153, .int 0, .int 1, .int 0, .int 0, .int 0, .int 0, .int 0, .int 1, .ref 154, .ref 155, .ref 156, .ref 157, .int 0, .int 0, .int 0, .ref 158, .ref 159, .ref 160, .ref 161, .ref 162, .int 0])) (fun _ => 0) w (fun _ => 0))) := by
  refine xC.of (by decide) (Nat.le_of_ble_eq_true rfl) ?_
  show xW _ _ _ _ 0 [(0, .ref 149)] [] _ 0 0
  refine xi_aload_n 0 dX12_passes_0 rfl ?_
  refine xi_get (f := 12) dX12_passes_1 rfl rfl ok_9 (by decide) w_1020 rfl ?_
  refine xi_if_ne_t (tgt := 11) dX12_passes_4 (by decide) (by decide) ?_
  exact xi_vret dX12_passes_11 rfl (Nat.le_of_ble_eq_true rfl) (Nat.le_of_ble_eq_true rfl) ⟨rfl, rfl⟩
set_option maxHeartbeats 4000000 in
set_option maxRecDepth 100000 in
theorem au_28 (G : xG) (w : Nat → Int32) : xC G mX12_must 1 0 0 [.ref 149, .int 0] (MX 0 (fun _ => 0) (.inr (6, [.ref 6, .int 1, .int 0, .ref 1, .int 0, .int 0, .int 0, .int 0])) mo0 (fun _ => 0) w (fun _ => 0)) (fun v M2 => v = none ∧ M2 = (MX 0 (fun _ => 0) (.inr (6, [.ref 6, .int 1, .int 0, .ref 1, .int 0, .int 0, .int 0, .int 0])) (.inr (9, [.ref 150, .ref 151, .ref 152, .int 0, .ref 153, .int 0, .int 1, .int 0, .int 0, .int 0, .int 0, .int 0, .int 1, .ref 154, .ref 155, .ref 156, .ref 157, .int 0, .int 0, .int 0, .ref 158, .ref 159, .ref 160, .ref 161, .ref 162, .int 0])) (fun _ => 0) w (fun _ => 0))) := by
  refine xC.of (by decide) (Nat.le_of_ble_eq_true rfl) ?_
  show xW _ _ _ _ 0 [(0, .ref 149), (1, .int 0)] [] _ 0 0
  refine xi_iload_n 1 dX12_must_0 rfl ?_
  refine xi_if_ne_f (tgt := 9) dX12_must_1 (by decide) (by decide) ?_
  refine xi_aload_n 0 dX12_must_4 rfl ?_
  refine xi_iconst (v := 1) dX12_must_5 (by decide) ?_
  refine xi_callV (as := [.int 1]) (rest := []) dX12_must_6 (au_26 G w) mkX12_faults w_1160 ws_45 w_1158 rfl rfl rfl rfl rfl (Nat.le_of_ble_eq_true rfl) (Nat.le_of_ble_eq_true rfl) (Nat.le_of_ble_eq_true rfl) (Nat.le_of_ble_eq_true rfl) (Nat.le_of_ble_eq_true rfl) ?_
  intro v M2 hq
  obtain ⟨rfl, rfl⟩ := hq
  show xW _ _ _ _ 9 _ [] (MX 0 (fun _ => 0) (.inr (6, [.ref 6, .int 1, .int 0, .ref 1, .int 0, .int 0, .int 0, .int 0])) (.inr (9, [.ref 150, .ref 151, .ref 152, .int 0, .ref 153, .int 0, .int 1, .int 0, .int 0, .int 0, .int 0, .int 0, .int 1, .ref 154, .ref 155, .ref 156, .ref 157, .int 0, .int 0, .int 0, .ref 158, .ref 159, .ref 160, .ref 161, .ref 162, .int 0])) (fun _ => 0) w (fun _ => 0)) _ _
  refine xi_aload_n 0 dX12_must_9 rfl ?_
  refine xi_callV (as := []) (rest := []) dX12_must_10 (au_27 G w) mkX12_passes w_1164 ws_46 w_1162 rfl rfl rfl rfl rfl (Nat.le_of_ble_eq_true rfl) (Nat.le_of_ble_eq_true rfl) (Nat.le_of_ble_eq_true rfl) (Nat.le_of_ble_eq_true rfl) (Nat.le_of_ble_eq_true rfl) ?_
  intro v M2 hq
  obtain ⟨rfl, rfl⟩ := hq
  show xW _ _ _ _ 13 _ [] (MX 0 (fun _ => 0) (.inr (6, [.ref 6, .int 1, .int 0, .ref 1, .int 0, .int 0, .int 0, .int 0])) (.inr (9, [.ref 150, .ref 151, .ref 152, .int 0, .ref 153, .int 0, .int 1, .int 0, .int 0, .int 0, .int 0, .int 0, .int 1, .ref 154, .ref 155, .ref 156, .ref 157, .int 0, .int 0, .int 0, .ref 158, .ref 159, .ref 160, .ref 161, .ref 162, .int 0])) (fun _ => 0) w (fun _ => 0)) _ _
  exact xi_vret dX12_must_13 rfl (Nat.le_of_ble_eq_true rfl) (Nat.le_of_ble_eq_true rfl) ⟨rfl, rfl⟩
set_option maxHeartbeats 4000000 in
set_option maxRecDepth 100000 in
theorem au_29 (G : xG) (w : Nat → Int32) : xC G mX12_here 0 0 0 [.ref 149, .int 1, .int 9] (MX 0 (fun _ => 0) (.inr (6, [.ref 6, .int 1, .int 0, .ref 1, .int 0, .int 0, .int 0, .int 0])) (.inr (9, [.ref 150, .ref 151, .ref 152, .int 0, .ref 153, .int 0, .int 1, .int 0, .int 0, .int 0, .int 0, .int 0, .int 1, .ref 154, .ref 155, .ref 156, .ref 157, .int 0, .int 0, .int 0, .ref 158, .ref 159, .ref 160, .ref 161, .ref 162, .int 0])) (fun _ => 0) w (fun _ => 0)) (fun v M2 => v = some (.int 1) ∧ M2 = (MX 0 (fun _ => 0) (.inr (6, [.ref 6, .int 1, .int 0, .ref 1, .int 0, .int 0, .int 0, .int 0])) (.inr (9, [.ref 150, .ref 151, .ref 152, .int 0, .ref 153, .int 0, .int 1, .int 0, .int 0, .int 0, .int 0, .int 0, .int 1, .ref 154, .ref 155, .ref 156, .ref 157, .int 0, .int 0, .int 0, .ref 158, .ref 159, .ref 160, .ref 161, .ref 162, .int 0])) (fun _ => 0) w (fun _ => 0))) := by
  refine xC.of (by decide) (Nat.le_of_ble_eq_true rfl) ?_
  show xW _ _ _ _ 0 [(0, .ref 149), (1, .int 1), (2, .int 9)] [] _ 0 0
  refine xi_aload_n 0 dX12_here_0 rfl ?_
  refine xi_get (f := 12) dX12_here_1 rfl rfl ok_9 (by decide) w_1020 rfl ?_
  refine xi_if_eq_f (tgt := 9) dX12_here_4 (by decide) (by decide) ?_
  refine xi_iload_n 1 dX12_here_7 rfl ?_
  exact xi_iret dX12_here_8 rfl rfl (Nat.le_of_ble_eq_true rfl) (Nat.le_of_ble_eq_true rfl) ⟨rfl, rfl⟩
set_option maxHeartbeats 4000000 in
set_option maxRecDepth 100000 in
theorem fm_empties_0_loop (G : xG) (w : Nat → Int32) : ∀ (j i : Nat) (g : Nat → Int32), i + j = 91 → xW G mX12_empties (xrm 0 0 0) (xQ G (fun v M2 => v = none ∧ ∃ g2, M2 = (MX 0 (fun _ => 0) (.inr (6, [.ref 6, .int 1, .int 0, .ref 1, .int 0, .int 0, .int 0, .int 0])) (.inr (9, [.ref 150, .ref 151, .ref 152, .int 0, .ref 153, .int 0, .int 1, .int 0, .int 0, .int 0, .int 0, .int 0, .int 1, .ref 154, .ref 155, .ref 156, .ref 157, .int 0, .int 0, .int 0, .ref 158, .ref 159, .ref 160, .ref 161, .ref 162, .int 0])) g2 w (fun _ => 0))) 0 0) 2 [(2, .int (nI i)), (0, .ref 149), (1, .int 0)] [] (MX 0 (fun _ => 0) (.inr (6, [.ref 6, .int 1, .int 0, .ref 1, .int 0, .int 0, .int 0, .int 0])) (.inr (9, [.ref 150, .ref 151, .ref 152, .int 0, .ref 153, .int 0, .int 1, .int 0, .int 0, .int 0, .int 0, .int 0, .int 1, .ref 154, .ref 155, .ref 156, .ref 157, .int 0, .int 0, .int 0, .ref 158, .ref 159, .ref 160, .ref 161, .ref 162, .int 0])) g w (fun _ => 0)) 0 0 := by
  intro j
  induction j with
  | zero =>
    intro i g hi
    have e : i = 91 := by omega
    subst e
    refine xi_iload_n 0 dX12_empties_2 rfl ?_
    refine xi_bipush (v := 91) dX12_empties_3 (by decide) ?_
    refine xi_icmp_ge_t (tgt := 26) dX12_empties_5 (by decide) (by decide) ?_
    exact xi_vret dX12_empties_26 rfl (Nat.le_of_ble_eq_true rfl) (Nat.le_of_ble_eq_true rfl) ⟨rfl, _, rfl⟩
  | succ j ih =>
    intro i g hi
    have hlt : ¬ (91 : Int32) ≤ nI i := nI_ge (a := i) (b := 91) (by omega) (by decide)
    have hi2 : i < 91 := by omega
    refine xi_iload_n 0 dX12_empties_2 rfl ?_
    refine xi_bipush (v := 91) dX12_empties_3 (by decide) ?_
    refine xi_icmp_ge_f (tgt := 26) dX12_empties_5 (by decide) hlt ?_
    refine xi_aload_n 1 dX12_empties_8 rfl ?_
    refine xi_get (f := 0) dX12_empties_9 rfl rfl ok_9 (by decide) w_1008 rfl ?_
    refine xi_bipush (v := 91) dX12_empties_12 (by decide) ?_
    refine xi_iload_n 2 dX12_empties_14 rfl ?_
    refine xi_imul (v := 0) dX12_empties_15 (by decide) ?_
    refine xi_iload_n 0 dX12_empties_16 rfl ?_
    refine xi_iadd dX12_empties_17 rfl ?_
    refine xi_iconst (v := 0) dX12_empties_18 (by decide) ?_
    refine xi_iastore (M' := (MX 0 (fun _ => 0) (.inr (6, [.ref 6, .int 1, .int 0, .ref 1, .int 0, .int 0, .int 0, .int 0])) (.inr (9, [.ref 150, .ref 151, .ref 152, .int 0, .ref 153, .int 0, .int 1, .int 0, .int 0, .int 0, .int 0, .int 0, .int 1, .ref 154, .ref 155, .ref 156, .ref 157, .int 0, .int 0, .int 0, .ref 158, .ref 159, .ref 160, .ref 161, .ref 162, .int 0])) (upd g (0 + (nI i)).toNatClampNeg 0) w (fun _ => 0))) dX12_empties_19 rfl (by rw [show (0 : Int32) + nI i = nI (0 + i) from nI_add 0 i]; exact vp_in_nI (by omega) (by decide)) rfl ?_
    refine xi_iinc (v := ((nI i) + Int32.ofInt 1)) (lv' := [(2, .int ((nI i) + Int32.ofInt 1)), (0, .ref 149), (1, .int 0)]) 0 dX12_empties_20 rfl rfl (by decide) rfl ?_
    refine xi_goto (tgt := 2) dX12_empties_23 (by decide) ?_
    rw [show nI i + Int32.ofInt 1 = nI (i + 1) from nI_1 i]
    exact ih (i + 1) _ (by omega)
set_option maxHeartbeats 4000000 in
set_option maxRecDepth 100000 in
theorem fm_empties_0 (G : xG) (g w : Nat → Int32) : xC G mX12_empties 0 0 0 [.ref 149, .int 0] (MX 0 (fun _ => 0) (.inr (6, [.ref 6, .int 1, .int 0, .ref 1, .int 0, .int 0, .int 0, .int 0])) (.inr (9, [.ref 150, .ref 151, .ref 152, .int 0, .ref 153, .int 0, .int 1, .int 0, .int 0, .int 0, .int 0, .int 0, .int 1, .ref 154, .ref 155, .ref 156, .ref 157, .int 0, .int 0, .int 0, .ref 158, .ref 159, .ref 160, .ref 161, .ref 162, .int 0])) g w (fun _ => 0)) (fun v M2 => v = none ∧ ∃ g2, M2 = (MX 0 (fun _ => 0) (.inr (6, [.ref 6, .int 1, .int 0, .ref 1, .int 0, .int 0, .int 0, .int 0])) (.inr (9, [.ref 150, .ref 151, .ref 152, .int 0, .ref 153, .int 0, .int 1, .int 0, .int 0, .int 0, .int 0, .int 0, .int 1, .ref 154, .ref 155, .ref 156, .ref 157, .int 0, .int 0, .int 0, .ref 158, .ref 159, .ref 160, .ref 161, .ref 162, .int 0])) g2 w (fun _ => 0))) := by
  refine xC.of (by decide) (Nat.le_of_ble_eq_true rfl) ?_
  show xW _ _ _ _ 0 [(0, .ref 149), (1, .int 0)] [] _ 0 0
  refine xi_iconst (v := 0) dX12_empties_0 (by decide) ?_
  refine xi_istore_n (lv' := [(2, .int 0), (0, .ref 149), (1, .int 0)]) dX12_empties_1 (by decide) rfl ?_
  exact fm_empties_0_loop G w 91 0 g rfl
set_option maxHeartbeats 4000000 in
set_option maxRecDepth 100000 in
theorem au_30 (G : xG) (g w : Nat → Int32) : xC G mX12_puts 0 0 0 [.ref 149, .int 0, .int 0, .int 0] (MX 0 (fun _ => 0) (.inr (6, [.ref 6, .int 1, .int 0, .ref 1, .int 0, .int 0, .int 0, .int 0])) (.inr (9, [.ref 150, .ref 151, .ref 152, .int 0, .ref 153, .int 0, .int 1, .int 0, .int 0, .int 0, .int 0, .int 0, .int 1, .ref 154, .ref 155, .ref 156, .ref 157, .int 0, .int 0, .int 0, .ref 158, .ref 159, .ref 160, .ref 161, .ref 162, .int 0])) (upd g 0 1) w (fun _ => 0)) (fun v M2 => v = none ∧ M2 = (MX 0 (fun _ => 0) (.inr (6, [.ref 6, .int 1, .int 0, .ref 1, .int 0, .int 0, .int 0, .int 0])) (.inr (9, [.ref 150, .ref 151, .ref 152, .int 0, .ref 153, .int 0, .int 1, .int 0, .int 0, .int 0, .int 0, .int 0, .int 1, .ref 154, .ref 155, .ref 156, .ref 157, .int 0, .int 0, .int 0, .ref 158, .ref 159, .ref 160, .ref 161, .ref 162, .int 0])) (upd (upd g 0 1) 82 0) w (fun _ => 0))) := by
  refine xC.of (by decide) (Nat.le_of_ble_eq_true rfl) ?_
  show xW _ _ _ _ 0 [(0, .ref 149), (1, .int 0), (2, .int 0), (3, .int 0)] [] _ 0 0
  refine xi_aload_n 0 dX12_puts_0 rfl ?_
  refine xi_get (f := 0) dX12_puts_1 rfl rfl ok_9 (by decide) w_1008 rfl ?_
  refine xi_bipush (v := 91) dX12_puts_4 (by decide) ?_
  refine xi_iload_n 1 dX12_puts_6 rfl ?_
  refine xi_imul (v := 0) dX12_puts_7 (by decide) ?_
  refine xi_bipush (v := 82) dX12_puts_8 (by decide) ?_
  refine xi_iadd (v := 82) dX12_puts_10 (by decide) ?_
  refine xi_iload_n 2 dX12_puts_11 rfl ?_
  refine xi_iadd (v := 82) dX12_puts_12 (by decide) ?_
  refine xi_iload_n 3 dX12_puts_13 rfl ?_
  refine xi_iastore (M' := (MX 0 (fun _ => 0) (.inr (6, [.ref 6, .int 1, .int 0, .ref 1, .int 0, .int 0, .int 0, .int 0])) (.inr (9, [.ref 150, .ref 151, .ref 152, .int 0, .ref 153, .int 0, .int 1, .int 0, .int 0, .int 0, .int 0, .int 0, .int 1, .ref 154, .ref 155, .ref 156, .ref 157, .int 0, .int 0, .int 0, .ref 158, .ref 159, .ref 160, .ref 161, .ref 162, .int 0])) (upd (upd g 0 1) 82 0) w (fun _ => 0))) dX12_puts_14 rfl (by unfold vp_in; decide) rfl ?_
  exact xi_vret dX12_puts_15 rfl (Nat.le_of_ble_eq_true rfl) (Nat.le_of_ble_eq_true rfl) ⟨rfl, rfl⟩
set_option maxHeartbeats 4000000 in
set_option maxRecDepth 100000 in
theorem au_31 (G : xG) (g w : Nat → Int32) : xC G mX12_isSign 0 0 0 [.ref 149, .int 58] (MX 0 (fun _ => 0) (.inr (6, [.ref 6, .int 1, .int 0, .ref 1, .int 0, .int 0, .int 0, .int 0])) (.inr (9, [.ref 150, .ref 151, .ref 152, .int 0, .ref 153, .int 0, .int 1, .int 0, .int 0, .int 0, .int 0, .int 0, .int 1, .ref 154, .ref 155, .ref 156, .ref 157, .int 0, .int 0, .int 0, .ref 158, .ref 159, .ref 160, .ref 161, .ref 162, .int 0])) (upd (upd g 0 1) 82 0) w (fun _ => 0)) (fun v M2 => v = some (.int 0) ∧ M2 = (MX 0 (fun _ => 0) (.inr (6, [.ref 6, .int 1, .int 0, .ref 1, .int 0, .int 0, .int 0, .int 0])) (.inr (9, [.ref 150, .ref 151, .ref 152, .int 0, .ref 153, .int 0, .int 1, .int 0, .int 0, .int 0, .int 0, .int 0, .int 1, .ref 154, .ref 155, .ref 156, .ref 157, .int 0, .int 0, .int 0, .ref 158, .ref 159, .ref 160, .ref 161, .ref 162, .int 0])) (upd (upd g 0 1) 82 0) w (fun _ => 0))) := by
  refine xC.of (by decide) (Nat.le_of_ble_eq_true rfl) ?_
  show xW _ _ _ _ 0 [(0, .ref 149), (1, .int 58)] [] _ 0 0
  refine xi_aload_n 0 dX12_isSign_0 rfl ?_
  refine xi_get (f := 12) dX12_isSign_1 rfl rfl ok_9 (by decide) w_1020 rfl ?_
  refine xi_if_ne_t (tgt := 32) dX12_isSign_4 (by decide) (by decide) ?_
  refine xi_iconst (v := 0) dX12_isSign_32 (by decide) ?_
  exact xi_iret dX12_isSign_33 rfl (by decide) (Nat.le_of_ble_eq_true rfl) (Nat.le_of_ble_eq_true rfl) ⟨rfl, rfl⟩
set_option maxHeartbeats 4000000 in
set_option maxRecDepth 100000 in
theorem au_32 (G : xG) (g w : Nat → Int32) : xC G mX12_isSign 0 0 0 [.ref 149, .int 59] (MX 0 (fun _ => 0) (.inr (6, [.ref 6, .int 1, .int 0, .ref 1, .int 0, .int 0, .int 0, .int 0])) (.inr (9, [.ref 150, .ref 151, .ref 152, .int 0, .ref 153, .int 0, .int 1, .int 0, .int 0, .int 0, .int 0, .int 0, .int 1, .ref 154, .ref 155, .ref 156, .ref 157, .int 0, .int 0, .int 0, .ref 158, .ref 159, .ref 160, .ref 161, .ref 162, .int 0])) (upd (upd g 0 1) 82 0) w (fun _ => 0)) (fun v M2 => v = some (.int 0) ∧ M2 = (MX 0 (fun _ => 0) (.inr (6, [.ref 6, .int 1, .int 0, .ref 1, .int 0, .int 0, .int 0, .int 0])) (.inr (9, [.ref 150, .ref 151, .ref 152, .int 0, .ref 153, .int 0, .int 1, .int 0, .int 0, .int 0, .int 0, .int 0, .int 1, .ref 154, .ref 155, .ref 156, .ref 157, .int 0, .int 0, .int 0, .ref 158, .ref 159, .ref 160, .ref 161, .ref 162, .int 0])) (upd (upd g 0 1) 82 0) w (fun _ => 0))) := by
  refine xC.of (by decide) (Nat.le_of_ble_eq_true rfl) ?_
  show xW _ _ _ _ 0 [(0, .ref 149), (1, .int 59)] [] _ 0 0
  refine xi_aload_n 0 dX12_isSign_0 rfl ?_
  refine xi_get (f := 12) dX12_isSign_1 rfl rfl ok_9 (by decide) w_1020 rfl ?_
  refine xi_if_ne_t (tgt := 32) dX12_isSign_4 (by decide) (by decide) ?_
  refine xi_iconst (v := 0) dX12_isSign_32 (by decide) ?_
  exact xi_iret dX12_isSign_33 rfl (by decide) (Nat.le_of_ble_eq_true rfl) (Nat.le_of_ble_eq_true rfl) ⟨rfl, rfl⟩
set_option maxHeartbeats 4000000 in
set_option maxRecDepth 100000 in
theorem au_33 (G : xG) (g w : Nat → Int32) : xC G mX12_faults 0 0 0 [.ref 149, .int 1] (MX 0 (fun _ => 0) (.inr (6, [.ref 6, .int 1, .int 0, .ref 1, .int 0, .int 0, .int 0, .int 0])) (.inr (9, [.ref 150, .ref 151, .ref 152, .int 0, .ref 153, .int 0, .int 1, .int 0, .int 0, .int 0, .int 0, .int 0, .int 1, .ref 154, .ref 155, .ref 156, .ref 157, .int 0, .int 0, .int 0, .ref 158, .ref 159, .ref 160, .ref 161, .ref 162, .int 0])) (upd (upd g 0 1) 82 0) w (fun _ => 0)) (fun v M2 => v = none ∧ M2 = (MX 0 (fun _ => 0) (.inr (6, [.ref 6, .int 1, .int 0, .ref 1, .int 0, .int 0, .int 0, .int 0])) (.inr (9, [.ref 150, .ref 151, .ref 152, .int 0, .ref 153, .int 0, .int 1, .int 0, .int 0, .int 0, .int 0, .int 0, .int 1, .ref 154, .ref 155, .ref 156, .ref 157, .int 0, .int 0, .int 0, .ref 158, .ref 159, .ref 160, .ref 161, .ref 162, .int 0])) (upd (upd g 0 1) 82 0) w (fun _ => 0))) := by
  refine xC.of (by decide) (Nat.le_of_ble_eq_true rfl) ?_
  show xW _ _ _ _ 0 [(0, .ref 149), (1, .int 1)] [] _ 0 0
  refine xi_aload_n 0 dX12_faults_0 rfl ?_
  refine xi_get (f := 12) dX12_faults_1 rfl rfl ok_9 (by decide) w_1020 rfl ?_
  refine xi_if_ne_t (tgt := 25) dX12_faults_4 (by decide) (by decide) ?_
  exact xi_vret dX12_faults_25 rfl (Nat.le_of_ble_eq_true rfl) (Nat.le_of_ble_eq_true rfl) ⟨rfl, rfl⟩
set_option maxHeartbeats 4000000 in
set_option maxRecDepth 100000 in
theorem au_34 (G : xG) (g w : Nat → Int32) : xC G mX12_passes 0 0 0 [.ref 149] (MX 0 (fun _ => 0) (.inr (6, [.ref 6, .int 1, .int 0, .ref 1, .int 0, .int 0, .int 0, .int 0])) (.inr (9, [.ref 150, .ref 151, .ref 152, .int 0, .ref 153, .int 0, .int 1, .int 0, .int 0, .int 0, .int 0, .int 0, .int 1, .ref 154, .ref 155, .ref 156, .ref 157, .int 0, .int 0, .int 0, .ref 158, .ref 159, .ref 160, .ref 161, .ref 162, .int 0])) (upd (upd g 0 1) 82 0) w (fun _ => 0)) (fun v M2 => v = none ∧ M2 = (MX 0 (fun _ => 0) (.inr (6, [.ref 6, .int 1, .int 0, .ref 1, .int 0, .int 0, .int 0, .int 0])) (.inr (9, [.ref 150, .ref 151, .ref 152, .int 0, .ref 153, .int 0, .int 1, .int 0, .int 0, .int 0, .int 0, .int 0, .int 1, .ref 154, .ref 155, .ref 156, .ref 157, .int 0, .int 0, .int 0, .ref 158, .ref 159, .ref 160, .ref 161, .ref 162, .int 0])) (upd (upd g 0 1) 82 0) w (fun _ => 0))) := by
  refine xC.of (by decide) (Nat.le_of_ble_eq_true rfl) ?_
  show xW _ _ _ _ 0 [(0, .ref 149)] [] _ 0 0
  refine xi_aload_n 0 dX12_passes_0 rfl ?_
  refine xi_get (f := 12) dX12_passes_1 rfl rfl ok_9 (by decide) w_1020 rfl ?_
  refine xi_if_ne_t (tgt := 11) dX12_passes_4 (by decide) (by decide) ?_
  exact xi_vret dX12_passes_11 rfl (Nat.le_of_ble_eq_true rfl) (Nat.le_of_ble_eq_true rfl) ⟨rfl, rfl⟩
set_option maxHeartbeats 4000000 in
set_option maxRecDepth 100000 in
theorem au_35 (G : xG) (g w : Nat → Int32) : xC G mX12_must 1 0 0 [.ref 149, .int 0] (MX 0 (fun _ => 0) (.inr (6, [.ref 6, .int 1, .int 0, .ref 1, .int 0, .int 0, .int 0, .int 0])) (.inr (9, [.ref 150, .ref 151, .ref 152, .int 0, .ref 153, .int 0, .int 1, .int 0, .int 0, .int 0, .int 0, .int 0, .int 1, .ref 154, .ref 155, .ref 156, .ref 157, .int 0, .int 0, .int 0, .ref 158, .ref 159, .ref 160, .ref 161, .ref 162, .int 0])) (upd (upd g 0 1) 82 0) w (fun _ => 0)) (fun v M2 => v = none ∧ M2 = (MX 0 (fun _ => 0) (.inr (6, [.ref 6, .int 1, .int 0, .ref 1, .int 0, .int 0, .int 0, .int 0])) (.inr (9, [.ref 150, .ref 151, .ref 152, .int 0, .ref 153, .int 0, .int 1, .int 0, .int 0, .int 0, .int 0, .int 0, .int 1, .ref 154, .ref 155, .ref 156, .ref 157, .int 0, .int 0, .int 0, .ref 158, .ref 159, .ref 160, .ref 161, .ref 162, .int 0])) (upd (upd g 0 1) 82 0) w (fun _ => 0))) := by
  refine xC.of (by decide) (Nat.le_of_ble_eq_true rfl) ?_
  show xW _ _ _ _ 0 [(0, .ref 149), (1, .int 0)] [] _ 0 0
  refine xi_iload_n 1 dX12_must_0 rfl ?_
  refine xi_if_ne_f (tgt := 9) dX12_must_1 (by decide) (by decide) ?_
  refine xi_aload_n 0 dX12_must_4 rfl ?_
  refine xi_iconst (v := 1) dX12_must_5 (by decide) ?_
  refine xi_callV (as := [.int 1]) (rest := []) dX12_must_6 (au_33 G g w) mkX12_faults w_1160 ws_45 w_1158 rfl rfl rfl rfl rfl (Nat.le_of_ble_eq_true rfl) (Nat.le_of_ble_eq_true rfl) (Nat.le_of_ble_eq_true rfl) (Nat.le_of_ble_eq_true rfl) (Nat.le_of_ble_eq_true rfl) ?_
  intro v M2 hq
  obtain ⟨rfl, rfl⟩ := hq
  show xW _ _ _ _ 9 _ [] (MX 0 (fun _ => 0) (.inr (6, [.ref 6, .int 1, .int 0, .ref 1, .int 0, .int 0, .int 0, .int 0])) (.inr (9, [.ref 150, .ref 151, .ref 152, .int 0, .ref 153, .int 0, .int 1, .int 0, .int 0, .int 0, .int 0, .int 0, .int 1, .ref 154, .ref 155, .ref 156, .ref 157, .int 0, .int 0, .int 0, .ref 158, .ref 159, .ref 160, .ref 161, .ref 162, .int 0])) (upd (upd g 0 1) 82 0) w (fun _ => 0)) _ _
  refine xi_aload_n 0 dX12_must_9 rfl ?_
  refine xi_callV (as := []) (rest := []) dX12_must_10 (au_34 G g w) mkX12_passes w_1164 ws_46 w_1162 rfl rfl rfl rfl rfl (Nat.le_of_ble_eq_true rfl) (Nat.le_of_ble_eq_true rfl) (Nat.le_of_ble_eq_true rfl) (Nat.le_of_ble_eq_true rfl) (Nat.le_of_ble_eq_true rfl) ?_
  intro v M2 hq
  obtain ⟨rfl, rfl⟩ := hq
  show xW _ _ _ _ 13 _ [] (MX 0 (fun _ => 0) (.inr (6, [.ref 6, .int 1, .int 0, .ref 1, .int 0, .int 0, .int 0, .int 0])) (.inr (9, [.ref 150, .ref 151, .ref 152, .int 0, .ref 153, .int 0, .int 1, .int 0, .int 0, .int 0, .int 0, .int 0, .int 1, .ref 154, .ref 155, .ref 156, .ref 157, .int 0, .int 0, .int 0, .ref 158, .ref 159, .ref 160, .ref 161, .ref 162, .int 0])) (upd (upd g 0 1) 82 0) w (fun _ => 0)) _ _
  exact xi_vret dX12_must_13 rfl (Nat.le_of_ble_eq_true rfl) (Nat.le_of_ble_eq_true rfl) ⟨rfl, rfl⟩
set_option maxHeartbeats 4000000 in
set_option maxRecDepth 100000 in
theorem au_36 (G : xG) (g w : Nat → Int32) : xC G mJ0_coder_7d493 0 0 0 [.float 5] (MX 0 (fun _ => 0) (.inr (6, [.ref 6, .int 1, .int 0, .ref 1, .int 0, .int 0, .int 0, .int 0])) (.inr (9, [.ref 150, .ref 151, .ref 152, .int 0, .ref 153, .int 0, .int 1, .int 0, .int 0, .int 0, .int 0, .int 0, .int 1, .ref 154, .ref 155, .ref 156, .ref 157, .int 0, .int 0, .int 0, .ref 158, .ref 159, .ref 160, .ref 161, .ref 162, .int 0])) (upd (upd g 0 1) 82 0) w (fun _ => 0)) (fun v M2 => v = some (.int 0) ∧ M2 = (MX 0 (fun _ => 0) (.inr (6, [.ref 6, .int 1, .int 0, .ref 1, .int 0, .int 0, .int 0, .int 0])) (.inr (9, [.ref 150, .ref 151, .ref 152, .int 0, .ref 153, .int 0, .int 1, .int 0, .int 0, .int 0, .int 0, .int 0, .int 1, .ref 154, .ref 155, .ref 156, .ref 157, .int 0, .int 0, .int 0, .ref 158, .ref 159, .ref 160, .ref 161, .ref 162, .int 0])) (upd (upd g 0 1) 82 0) w (fun _ => 0))) := by
  refine xC.of (by decide) (Nat.le_of_ble_eq_true rfl) ?_
  show xW _ _ _ _ 0 [(0, .float 5)] [] _ 0 0
  refine xi_compact dJ0_coder_7d493_0 w_336 ?_
  refine xi_if_eq_f (tgt := 13) dJ0_coder_7d493_3 (by decide) (by decide) ?_
  refine xi_aload_nS 0 dJ0_coder_7d493_6 rfl ?_
  refine xi_getSc dJ0_coder_7d493_7 st_5 rfl w_1541 ?_
  refine xi_goto (tgt := 14) dJ0_coder_7d493_10 (by decide) ?_
  exact xi_iret dJ0_coder_7d493_14 rfl (by decide) (Nat.le_of_ble_eq_true rfl) (Nat.le_of_ble_eq_true rfl) ⟨rfl, rfl⟩
set_option maxHeartbeats 4000000 in
set_option maxRecDepth 100000 in
theorem au_37 (G : xG) (g w : Nat → Int32) : xC G mJ0_length_8abf5 1 0 0 [.float 5] (MX 0 (fun _ => 0) (.inr (6, [.ref 6, .int 1, .int 0, .ref 1, .int 0, .int 0, .int 0, .int 0])) (.inr (9, [.ref 150, .ref 151, .ref 152, .int 0, .ref 153, .int 0, .int 1, .int 0, .int 0, .int 0, .int 0, .int 0, .int 1, .ref 154, .ref 155, .ref 156, .ref 157, .int 0, .int 0, .int 0, .ref 158, .ref 159, .ref 160, .ref 161, .ref 162, .int 0])) (upd (upd g 0 1) 82 0) w (fun _ => 0)) (fun v M2 => v = some (.int 3) ∧ M2 = (MX 0 (fun _ => 0) (.inr (6, [.ref 6, .int 1, .int 0, .ref 1, .int 0, .int 0, .int 0, .int 0])) (.inr (9, [.ref 150, .ref 151, .ref 152, .int 0, .ref 153, .int 0, .int 1, .int 0, .int 0, .int 0, .int 0, .int 0, .int 1, .ref 154, .ref 155, .ref 156, .ref 157, .int 0, .int 0, .int 0, .ref 158, .ref 159, .ref 160, .ref 161, .ref 162, .int 0])) (upd (upd g 0 1) 82 0) w (fun _ => 0))) := by
  refine xC.of (by decide) (Nat.le_of_ble_eq_true rfl) ?_
  show xW _ _ _ _ 0 [(0, .float 5)] [] _ 0 0
  refine xi_aload_nS 0 dJ0_length_8abf5_0 rfl ?_
  refine xi_getSv (w2 := 105) dJ0_length_8abf5_1 st_5 rfl rfl w_1540 ?_
  refine xi_lenS (v := 3) dJ0_length_8abf5_4 st_5 rfl (by decide) ?_
  refine xi_aload_nS 0 dJ0_length_8abf5_5 rfl ?_
  refine xi_callVS (as := []) (rest := [.int 3]) dJ0_length_8abf5_6 (au_36 G g w) mkJ0_coder_7d493 w_333 w_334 w_332 st_5 rfl rfl rfl rfl (Nat.le_of_ble_eq_true rfl) (Nat.le_of_ble_eq_true rfl) (Nat.le_of_ble_eq_true rfl) (Nat.le_of_ble_eq_true rfl) (Nat.le_of_ble_eq_true rfl) ?_
  intro v M2 hq
  obtain ⟨rfl, rfl⟩ := hq
  show xW _ _ _ _ 9 _ [.int 0, .int 3] (MX 0 (fun _ => 0) (.inr (6, [.ref 6, .int 1, .int 0, .ref 1, .int 0, .int 0, .int 0, .int 0])) (.inr (9, [.ref 150, .ref 151, .ref 152, .int 0, .ref 153, .int 0, .int 1, .int 0, .int 0, .int 0, .int 0, .int 0, .int 1, .ref 154, .ref 155, .ref 156, .ref 157, .int 0, .int 0, .int 0, .ref 158, .ref 159, .ref 160, .ref 161, .ref 162, .int 0])) (upd (upd g 0 1) 82 0) w (fun _ => 0)) _ _
  refine xi_ishr (v := 3) dJ0_length_8abf5_9 (by decide) ?_
  exact xi_iret dJ0_length_8abf5_10 rfl rfl (Nat.le_of_ble_eq_true rfl) (Nat.le_of_ble_eq_true rfl) ⟨rfl, rfl⟩
set_option maxHeartbeats 4000000 in
set_option maxRecDepth 100000 in
theorem au_38 (G : xG) (g w : Nat → Int32) : xC G mX12_isWord 2 0 0 [.ref 149, .float 5] (MX 0 (fun _ => 0) (.inr (6, [.ref 6, .int 1, .int 0, .ref 1, .int 0, .int 0, .int 0, .int 0])) (.inr (9, [.ref 150, .ref 151, .ref 152, .int 0, .ref 153, .int 0, .int 1, .int 0, .int 0, .int 0, .int 0, .int 0, .int 1, .ref 154, .ref 155, .ref 156, .ref 157, .int 0, .int 0, .int 0, .ref 158, .ref 159, .ref 160, .ref 161, .ref 162, .int 0])) (upd (upd g 0 1) 82 0) w (fun _ => 0)) (fun v M2 => v = some (.int 0) ∧ M2 = (MX 0 (fun _ => 0) (.inr (6, [.ref 6, .int 1, .int 0, .ref 1, .int 0, .int 0, .int 0, .int 0])) (.inr (9, [.ref 150, .ref 151, .ref 152, .int 0, .ref 153, .int 0, .int 1, .int 0, .int 0, .int 0, .int 0, .int 0, .int 1, .ref 154, .ref 155, .ref 156, .ref 157, .int 0, .int 0, .int 0, .ref 158, .ref 159, .ref 160, .ref 161, .ref 162, .int 0])) (upd (upd g 0 1) 82 0) w (fun _ => 0))) := by
  refine xC.of (by decide) (Nat.le_of_ble_eq_true rfl) ?_
  show xW _ _ _ _ 0 [(0, .ref 149), (1, .float 5)] [] _ 0 0
  refine xi_aload_n 0 dX12_isWord_0 rfl ?_
  refine xi_get (f := 12) dX12_isWord_1 rfl rfl ok_9 (by decide) w_1020 rfl ?_
  refine xi_if_ne_t (tgt := 35) dX12_isWord_4 (by decide) (by decide) ?_
  refine xi_iconst (v := 0) dX12_isWord_35 (by decide) ?_
  refine xi_istore_n (lv' := [(2, .int 0), (0, .ref 149), (1, .float 5)]) dX12_isWord_36 (by decide) rfl ?_
  refine xi_iconst (v := 0) dX12_isWord_37 (by decide) ?_
  refine xi_istore_n (lv' := [(3, .int 0), (2, .int 0), (0, .ref 149), (1, .float 5)]) dX12_isWord_38 (by decide) rfl ?_
  refine xi_iload_n 0 dX12_isWord_39 rfl ?_
  refine xi_aload_nS 3 dX12_isWord_40 rfl ?_
  refine xi_callVS (as := []) (rest := [.int 0]) dX12_isWord_41 (au_37 G g w) mkJ0_length_8abf5 w_329 w_330 w_1152 st_5 rfl rfl rfl rfl (Nat.le_of_ble_eq_true rfl) (Nat.le_of_ble_eq_true rfl) (Nat.le_of_ble_eq_true rfl) (Nat.le_of_ble_eq_true rfl) (Nat.le_of_ble_eq_true rfl) ?_
  intro v M2 hq
  obtain ⟨rfl, rfl⟩ := hq
  show xW _ _ _ _ 44 _ [.int 3, .int 0] (MX 0 (fun _ => 0) (.inr (6, [.ref 6, .int 1, .int 0, .ref 1, .int 0, .int 0, .int 0, .int 0])) (.inr (9, [.ref 150, .ref 151, .ref 152, .int 0, .ref 153, .int 0, .int 1, .int 0, .int 0, .int 0, .int 0, .int 0, .int 1, .ref 154, .ref 155, .ref 156, .ref 157, .int 0, .int 0, .int 0, .ref 158, .ref 159, .ref 160, .ref 161, .ref 162, .int 0])) (upd (upd g 0 1) 82 0) w (fun _ => 0)) _ _
  refine xi_icmp_ge_f (tgt := 82) dX12_isWord_44 (by decide) (by decide) ?_
  refine xi_iload_n 1 dX12_isWord_47 rfl ?_
  refine xi_if_eq_t (tgt := 82) dX12_isWord_48 (by decide) (by decide) ?_
  refine xi_iload_n 1 dX12_isWord_82 rfl ?_
  exact xi_iret dX12_isWord_83 rfl (by decide) (Nat.le_of_ble_eq_true rfl) (Nat.le_of_ble_eq_true rfl) ⟨rfl, rfl⟩
set_option maxHeartbeats 4000000 in
set_option maxRecDepth 100000 in
theorem fm_readsNet_0 (G : xG) (w : Nat → Int32) : xC G mX12_readsNet 3 0 0 [.ref 149, .int 0] (MX 0 (fun _ => 0) (.inr (6, [.ref 6, .int 1, .int 0, .ref 1, .int 0, .int 0, .int 0, .int 0])) mo0 (fun _ => 0) w (fun _ => 0)) (fun v M2 => v = none ∧ ∃ g2, M2 = (MX 0 (fun _ => 0) (.inr (6, [.ref 6, .int 1, .int 0, .ref 1, .int 0, .int 0, .int 0, .int 0])) (.inr (9, [.ref 150, .ref 151, .ref 152, .int 0, .ref 153, .int 0, .int 1, .int 0, .int 0, .int 0, .int 0, .int 0, .int 1, .ref 154, .ref 155, .ref 156, .ref 157, .int 0, .int 0, .int 0, .ref 158, .ref 159, .ref 160, .ref 161, .ref 162, .int 0])) g2 w (fun _ => 0))) := by
  refine xC.of (by decide) (Nat.le_of_ble_eq_true rfl) ?_
  show xW _ _ _ _ 0 [(0, .ref 149), (1, .int 0)] [] _ 0 0
  refine xi_aload_n 0 dX12_readsNet_0 rfl ?_
  refine xi_aload_n 0 dX12_readsNet_1 rfl ?_
  refine xi_ldcS (w := 4) dX12_readsNet_2 st_4 rfl ?_
  refine xi_callV (as := [.float 4]) (rest := [.ref 149]) dX12_readsNet_4 (au_25 G w) mkX12_isWord w_1150 ws_43 w_1148 rfl rfl rfl rfl rfl (Nat.le_of_ble_eq_true rfl) (Nat.le_of_ble_eq_true rfl) (Nat.le_of_ble_eq_true rfl) (Nat.le_of_ble_eq_true rfl) (Nat.le_of_ble_eq_true rfl) ?_
  intro v M2 hq
  obtain ⟨rfl, rfl⟩ := hq
  show xW _ _ _ _ 7 _ [.int 0, .ref 149] (MX 0 (fun _ => 0) (.inr (6, [.ref 6, .int 1, .int 0, .ref 1, .int 0, .int 0, .int 0, .int 0])) mo0 (fun _ => 0) w (fun _ => 0)) _ _
  refine xi_callV (as := [.int 0]) (rest := []) dX12_readsNet_7 (au_28 G w) mkX12_must w_1156 ws_44 w_1154 rfl rfl rfl rfl rfl (Nat.le_of_ble_eq_true rfl) (Nat.le_of_ble_eq_true rfl) (Nat.le_of_ble_eq_true rfl) (Nat.le_of_ble_eq_true rfl) (Nat.le_of_ble_eq_true rfl) ?_
  intro v M2 hq
  obtain ⟨rfl, rfl⟩ := hq
  show xW _ _ _ _ 10 _ [] (MX 0 (fun _ => 0) (.inr (6, [.ref 6, .int 1, .int 0, .ref 1, .int 0, .int 0, .int 0, .int 0])) (.inr (9, [.ref 150, .ref 151, .ref 152, .int 0, .ref 153, .int 0, .int 1, .int 0, .int 0, .int 0, .int 0, .int 0, .int 1, .ref 154, .ref 155, .ref 156, .ref 157, .int 0, .int 0, .int 0, .ref 158, .ref 159, .ref 160, .ref 161, .ref 162, .int 0])) (fun _ => 0) w (fun _ => 0)) _ _
  refine xi_aload_n 0 dX12_readsNet_10 rfl ?_
  refine xi_iconst (v := 1) dX12_readsNet_11 (by decide) ?_
  refine xi_bipush (v := 9) dX12_readsNet_12 (by decide) ?_
  refine xi_callV (as := [.int 1, .int 9]) (rest := []) dX12_readsNet_14 (au_29 G w) mkX12_here w_1168 ws_47 w_1166 rfl rfl rfl rfl rfl (Nat.le_of_ble_eq_true rfl) (Nat.le_of_ble_eq_true rfl) (Nat.le_of_ble_eq_true rfl) (Nat.le_of_ble_eq_true rfl) (Nat.le_of_ble_eq_true rfl) ?_
  intro v M2 hq
  obtain ⟨rfl, rfl⟩ := hq
  show xW _ _ _ _ 17 _ [.int 1] (MX 0 (fun _ => 0) (.inr (6, [.ref 6, .int 1, .int 0, .ref 1, .int 0, .int 0, .int 0, .int 0])) (.inr (9, [.ref 150, .ref 151, .ref 152, .int 0, .ref 153, .int 0, .int 1, .int 0, .int 0, .int 0, .int 0, .int 0, .int 1, .ref 154, .ref 155, .ref 156, .ref 157, .int 0, .int 0, .int 0, .ref 158, .ref 159, .ref 160, .ref 161, .ref 162, .int 0])) (fun _ => 0) w (fun _ => 0)) _ _
  refine xi_istore_n (lv' := [(2, .int 1), (0, .ref 149), (1, .int 0)]) dX12_readsNet_17 (by decide) rfl ?_
  refine xi_aload_n 1 dX12_readsNet_18 rfl ?_
  refine xi_callV (as := []) (rest := []) dX12_readsNet_19 (au_27 G w) mkX12_passes w_1164 ws_46 w_1162 rfl rfl rfl rfl rfl (Nat.le_of_ble_eq_true rfl) (Nat.le_of_ble_eq_true rfl) (Nat.le_of_ble_eq_true rfl) (Nat.le_of_ble_eq_true rfl) (Nat.le_of_ble_eq_true rfl) ?_
  intro v M2 hq
  obtain ⟨rfl, rfl⟩ := hq
  show xW _ _ _ _ 22 _ [] (MX 0 (fun _ => 0) (.inr (6, [.ref 6, .int 1, .int 0, .ref 1, .int 0, .int 0, .int 0, .int 0])) (.inr (9, [.ref 150, .ref 151, .ref 152, .int 0, .ref 153, .int 0, .int 1, .int 0, .int 0, .int 0, .int 0, .int 0, .int 1, .ref 154, .ref 155, .ref 156, .ref 157, .int 0, .int 0, .int 0, .ref 158, .ref 159, .ref 160, .ref 161, .ref 162, .int 0])) (fun _ => 0) w (fun _ => 0)) _ _
  refine xi_aload_n 1 dX12_readsNet_22 rfl ?_
  refine xi_iload_n 2 dX12_readsNet_23 rfl ?_
  refine xi_callV (as := [.int 0]) (rest := []) dX12_readsNet_24 (fm_empties_0 G (fun _ => 0) w) mkX12_empties w_1116 ws_38 w_1114 rfl rfl rfl rfl rfl (Nat.le_of_ble_eq_true rfl) (Nat.le_of_ble_eq_true rfl) (Nat.le_of_ble_eq_true rfl) (Nat.le_of_ble_eq_true rfl) (Nat.le_of_ble_eq_true rfl) ?_
  intro v M2 hq
  obtain ⟨rfl, g, rfl⟩ := hq
  show xW _ _ _ _ 27 _ [] (MX 0 (fun _ => 0) (.inr (6, [.ref 6, .int 1, .int 0, .ref 1, .int 0, .int 0, .int 0, .int 0])) (.inr (9, [.ref 150, .ref 151, .ref 152, .int 0, .ref 153, .int 0, .int 1, .int 0, .int 0, .int 0, .int 0, .int 0, .int 1, .ref 154, .ref 155, .ref 156, .ref 157, .int 0, .int 0, .int 0, .ref 158, .ref 159, .ref 160, .ref 161, .ref 162, .int 0])) g w (fun _ => 0)) _ _
  refine xi_aload_n 1 dX12_readsNet_27 rfl ?_
  refine xi_get (f := 0) dX12_readsNet_28 rfl rfl ok_9 (by decide) w_1008 rfl ?_
  refine xi_bipush (v := 91) dX12_readsNet_31 (by decide) ?_
  refine xi_iload_n 2 dX12_readsNet_33 rfl ?_
  refine xi_imul (v := 0) dX12_readsNet_34 (by decide) ?_
  refine xi_iload_n 0 dX12_readsNet_35 rfl ?_
  refine xi_iastore (M' := (MX 0 (fun _ => 0) (.inr (6, [.ref 6, .int 1, .int 0, .ref 1, .int 0, .int 0, .int 0, .int 0])) (.inr (9, [.ref 150, .ref 151, .ref 152, .int 0, .ref 153, .int 0, .int 1, .int 0, .int 0, .int 0, .int 0, .int 0, .int 1, .ref 154, .ref 155, .ref 156, .ref 157, .int 0, .int 0, .int 0, .ref 158, .ref 159, .ref 160, .ref 161, .ref 162, .int 0])) (upd g 0 1) w (fun _ => 0))) dX12_readsNet_36 rfl (by unfold vp_in; decide) rfl ?_
  refine xi_iconst (v := 0) dX12_readsNet_37 (by decide) ?_
  refine xi_istore_n (lv' := [(3, .int 0), (2, .int 1), (0, .ref 149), (1, .int 0)]) dX12_readsNet_38 (by decide) rfl ?_
  refine xi_iload_n 0 dX12_readsNet_39 rfl ?_
  refine xi_iload_n 1 dX12_readsNet_40 rfl ?_
  refine xi_icmp_ge_f (tgt := 57) dX12_readsNet_41 (by decide) (by decide) ?_
  refine xi_aload_n 2 dX12_readsNet_44 rfl ?_
  refine xi_iload_n 3 dX12_readsNet_45 rfl ?_
  refine xi_iload_n 0 dX12_readsNet_46 rfl ?_
  refine xi_iload_n 0 dX12_readsNet_47 rfl ?_
  refine xi_callV (as := [.int 0, .int 0, .int 0]) (rest := []) dX12_readsNet_48 (au_30 G g w) mkX12_puts w_1172 ws_48 w_1170 rfl rfl rfl rfl rfl (Nat.le_of_ble_eq_true rfl) (Nat.le_of_ble_eq_true rfl) (Nat.le_of_ble_eq_true rfl) (Nat.le_of_ble_eq_true rfl) (Nat.le_of_ble_eq_true rfl) ?_
  intro v M2 hq
  obtain ⟨rfl, rfl⟩ := hq
  show xW _ _ _ _ 51 _ [] (MX 0 (fun _ => 0) (.inr (6, [.ref 6, .int 1, .int 0, .ref 1, .int 0, .int 0, .int 0, .int 0])) (.inr (9, [.ref 150, .ref 151, .ref 152, .int 0, .ref 153, .int 0, .int 1, .int 0, .int 0, .int 0, .int 0, .int 0, .int 1, .ref 154, .ref 155, .ref 156, .ref 157, .int 0, .int 0, .int 0, .ref 158, .ref 159, .ref 160, .ref 161, .ref 162, .int 0])) (upd (upd g 0 1) 82 0) w (fun _ => 0)) _ _
  refine xi_iinc (v := 1) (lv' := [(3, .int 1), (2, .int 1), (0, .ref 149), (1, .int 0)]) 0 dX12_readsNet_51 rfl (by decide) (by decide) rfl ?_
  refine xi_goto (tgt := 39) dX12_readsNet_54 (by decide) ?_
  refine xi_iload_n 0 dX12_readsNet_39 rfl ?_
  refine xi_iload_n 1 dX12_readsNet_40 rfl ?_
  refine xi_icmp_ge_t (tgt := 57) dX12_readsNet_41 (by decide) (by decide) ?_
  refine xi_aload_n 2 dX12_readsNet_57 rfl ?_
  refine xi_bipush (v := 58) dX12_readsNet_58 (by decide) ?_
  refine xi_callV (as := [.int 58]) (rest := []) dX12_readsNet_60 (au_31 G g w) mkX12_isSign w_1176 ws_49 w_1174 rfl rfl rfl rfl rfl (Nat.le_of_ble_eq_true rfl) (Nat.le_of_ble_eq_true rfl) (Nat.le_of_ble_eq_true rfl) (Nat.le_of_ble_eq_true rfl) (Nat.le_of_ble_eq_true rfl) ?_
  intro v M2 hq
  obtain ⟨rfl, rfl⟩ := hq
  show xW _ _ _ _ 63 _ [.int 0] (MX 0 (fun _ => 0) (.inr (6, [.ref 6, .int 1, .int 0, .ref 1, .int 0, .int 0, .int 0, .int 0])) (.inr (9, [.ref 150, .ref 151, .ref 152, .int 0, .ref 153, .int 0, .int 1, .int 0, .int 0, .int 0, .int 0, .int 0, .int 1, .ref 154, .ref 155, .ref 156, .ref 157, .int 0, .int 0, .int 0, .ref 158, .ref 159, .ref 160, .ref 161, .ref 162, .int 0])) (upd (upd g 0 1) 82 0) w (fun _ => 0)) _ _
  refine xi_if_eq_t (tgt := 96) dX12_readsNet_63 (by decide) (by decide) ?_
  refine xi_aload_n 2 dX12_readsNet_96 rfl ?_
  refine xi_aload_n 2 dX12_readsNet_97 rfl ?_
  refine xi_bipush (v := 59) dX12_readsNet_98 (by decide) ?_
  refine xi_callV (as := [.int 59]) (rest := [.ref 149]) dX12_readsNet_100 (au_32 G g w) mkX12_isSign w_1176 ws_49 w_1174 rfl rfl rfl rfl rfl (Nat.le_of_ble_eq_true rfl) (Nat.le_of_ble_eq_true rfl) (Nat.le_of_ble_eq_true rfl) (Nat.le_of_ble_eq_true rfl) (Nat.le_of_ble_eq_true rfl) ?_
  intro v M2 hq
  obtain ⟨rfl, rfl⟩ := hq
  show xW _ _ _ _ 103 _ [.int 0, .ref 149] (MX 0 (fun _ => 0) (.inr (6, [.ref 6, .int 1, .int 0, .ref 1, .int 0, .int 0, .int 0, .int 0])) (.inr (9, [.ref 150, .ref 151, .ref 152, .int 0, .ref 153, .int 0, .int 1, .int 0, .int 0, .int 0, .int 0, .int 0, .int 1, .ref 154, .ref 155, .ref 156, .ref 157, .int 0, .int 0, .int 0, .ref 158, .ref 159, .ref 160, .ref 161, .ref 162, .int 0])) (upd (upd g 0 1) 82 0) w (fun _ => 0)) _ _
  refine xi_callV (as := [.int 0]) (rest := []) dX12_readsNet_103 (au_35 G g w) mkX12_must w_1156 ws_44 w_1154 rfl rfl rfl rfl rfl (Nat.le_of_ble_eq_true rfl) (Nat.le_of_ble_eq_true rfl) (Nat.le_of_ble_eq_true rfl) (Nat.le_of_ble_eq_true rfl) (Nat.le_of_ble_eq_true rfl) ?_
  intro v M2 hq
  obtain ⟨rfl, rfl⟩ := hq
  show xW _ _ _ _ 106 _ [] (MX 0 (fun _ => 0) (.inr (6, [.ref 6, .int 1, .int 0, .ref 1, .int 0, .int 0, .int 0, .int 0])) (.inr (9, [.ref 150, .ref 151, .ref 152, .int 0, .ref 153, .int 0, .int 1, .int 0, .int 0, .int 0, .int 0, .int 0, .int 1, .ref 154, .ref 155, .ref 156, .ref 157, .int 0, .int 0, .int 0, .ref 158, .ref 159, .ref 160, .ref 161, .ref 162, .int 0])) (upd (upd g 0 1) 82 0) w (fun _ => 0)) _ _
  refine xi_aload_n 2 dX12_readsNet_106 rfl ?_
  refine xi_ldcS (w := 5) dX12_readsNet_107 st_5 rfl ?_
  refine xi_callV (as := [.float 5]) (rest := []) dX12_readsNet_109 (au_38 G g w) mkX12_isWord w_1150 ws_43 w_1148 rfl rfl rfl rfl rfl (Nat.le_of_ble_eq_true rfl) (Nat.le_of_ble_eq_true rfl) (Nat.le_of_ble_eq_true rfl) (Nat.le_of_ble_eq_true rfl) (Nat.le_of_ble_eq_true rfl) ?_
  intro v M2 hq
  obtain ⟨rfl, rfl⟩ := hq
  show xW _ _ _ _ 112 _ [.int 0] (MX 0 (fun _ => 0) (.inr (6, [.ref 6, .int 1, .int 0, .ref 1, .int 0, .int 0, .int 0, .int 0])) (.inr (9, [.ref 150, .ref 151, .ref 152, .int 0, .ref 153, .int 0, .int 1, .int 0, .int 0, .int 0, .int 0, .int 0, .int 1, .ref 154, .ref 155, .ref 156, .ref 157, .int 0, .int 0, .int 0, .ref 158, .ref 159, .ref 160, .ref 161, .ref 162, .int 0])) (upd (upd g 0 1) 82 0) w (fun _ => 0)) _ _
  refine xi_if_eq_t (tgt := 120) dX12_readsNet_112 (by decide) (by decide) ?_
  refine xi_aload_n 2 dX12_readsNet_120 rfl ?_
  refine xi_get (f := 12) dX12_readsNet_121 rfl rfl ok_9 (by decide) w_1020 rfl ?_
  refine xi_if_ne_t (tgt := 139) dX12_readsNet_124 (by decide) (by decide) ?_
  exact xi_vret dX12_readsNet_139 rfl (Nat.le_of_ble_eq_true rfl) (Nat.le_of_ble_eq_true rfl) ⟨rfl, _, rfl⟩
set_option maxHeartbeats 4000000 in
set_option maxRecDepth 100000 in
theorem fm_told_loop_0 (G : xG) (w : Nat → Int32) : ∀ (j i : Nat) (g : Nat → Int32), i + j = 273 → xW G mX12_told (xrm 4 0 0) (xQ G (fun v M2 => v = some (.int (-4)) ∧ True) 0 0) 57 [(2, .int (nI i)), (0, .ref 149), (1, .int 0)] [] (MX 0 (fun _ => 0) (.inr (6, [.ref 6, .int 1, .int 0, .ref 1, .int 0, .int 0, .int 0, .int 0])) (.inr (9, [.ref 150, .ref 151, .ref 152, .int 0, .ref 153, .int 0, .int 1, .int 0, .int 0, .int 0, .int 0, .int 0, .int 1, .ref 154, .ref 155, .ref 156, .ref 157, .int 0, .int 0, .int 0, .ref 158, .ref 159, .ref 160, .ref 161, .ref 162, .int 0])) g w (fun _ => 0)) 0 0 := by
  intro j
  induction j with
  | zero =>
    intro i g hi
    have e : i = 273 := by omega
    subst e
    refine xi_iload_n 0 dX12_told_57 rfl ?_
    refine xi_sipush (v := 273) dX12_told_58 (by decide) ?_
    refine xi_icmp_ge_t (tgt := 82) dX12_told_61 (by decide) (by decide) ?_
    refine xi_bipush (v := (-4)) dX12_told_82 (by decide) ?_
    exact xi_iret dX12_told_84 rfl rfl (Nat.le_of_ble_eq_true rfl) (Nat.le_of_ble_eq_true rfl) ⟨rfl, trivial⟩
  | succ j ih =>
    intro i g hi
    have hlt : ¬ (273 : Int32) ≤ nI i := nI_ge (a := i) (b := 273) (by omega) (by decide)
    have hi2 : i < 273 := by omega
    refine xi_iload_n 0 dX12_told_57 rfl ?_
    refine xi_sipush (v := 273) dX12_told_58 (by decide) ?_
    refine xi_icmp_ge_f (tgt := 82) dX12_told_61 (by decide) hlt ?_
    refine xi_aload_n 1 dX12_told_64 rfl ?_
    refine xi_get (f := 0) dX12_told_65 rfl rfl ok_9 (by decide) w_1008 rfl ?_
    refine xi_iload_n 0 dX12_told_68 rfl ?_
    refine xi_aload_n 1 dX12_told_69 rfl ?_
    refine xi_get (f := 1) dX12_told_70 rfl rfl ok_9 (by decide) w_1009 rfl ?_
    refine xi_iload_n 0 dX12_told_73 rfl ?_
    refine xi_iaload (v := (w (nI i).toNatClampNeg)) dX12_told_74 rfl (vp_in_nI (by omega) (by decide)) rfl ?_
    refine xi_iastore (M' := (MX 0 (fun _ => 0) (.inr (6, [.ref 6, .int 1, .int 0, .ref 1, .int 0, .int 0, .int 0, .int 0])) (.inr (9, [.ref 150, .ref 151, .ref 152, .int 0, .ref 153, .int 0, .int 1, .int 0, .int 0, .int 0, .int 0, .int 0, .int 1, .ref 154, .ref 155, .ref 156, .ref 157, .int 0, .int 0, .int 0, .ref 158, .ref 159, .ref 160, .ref 161, .ref 162, .int 0])) (upd g (nI i).toNatClampNeg (w (nI i).toNatClampNeg)) w (fun _ => 0))) dX12_told_75 rfl (vp_in_nI (by omega) (by decide)) rfl ?_
    refine xi_iinc (v := ((nI i) + Int32.ofInt 1)) (lv' := [(2, .int ((nI i) + Int32.ofInt 1)), (0, .ref 149), (1, .int 0)]) 0 dX12_told_76 rfl rfl (by decide) rfl ?_
    refine xi_goto (tgt := 57) dX12_told_79 (by decide) ?_
    rw [show nI i + Int32.ofInt 1 = nI (i + 1) from nI_1 i]
    exact ih (i + 1) _ (by omega)
set_option maxHeartbeats 4000000 in
set_option maxRecDepth 100000 in
theorem fm_told_0 (G : xG) : xC G mX12_told 4 0 0 [.ref 149, .int 0] (MX 0 (fun _ => 0) (.inr (6, [.ref 6, .int 1, .int 0, .ref 1, .int 0, .int 0, .int 0, .int 0])) mo0 (fun _ => 0) (fun _ => 0) (fun _ => 0)) (fun v M2 => v = some (.int (-4)) ∧ True) := by
  refine xC.of (by decide) (Nat.le_of_ble_eq_true rfl) ?_
  show xW _ _ _ _ 0 [(0, .ref 149), (1, .int 0)] [] _ 0 0
  refine xi_iload_n 1 dX12_told_0 rfl ?_
  refine xi_callS (as := [.int 0]) (rest := []) dX12_told_1 (au_19 G) mkX12_isSlot w_1096 w_1095 rfl rfl (Nat.le_of_ble_eq_true rfl) (Nat.le_of_ble_eq_true rfl) (Nat.le_of_ble_eq_true rfl) (Nat.le_of_ble_eq_true rfl) (Nat.le_of_ble_eq_true rfl) ?_
  intro v M2 hq
  obtain ⟨rfl, rfl⟩ := hq
  show xW _ _ _ _ 4 _ [.int 1] (MX 0 (fun _ => 0) (.inr (6, [.ref 6, .int 1, .int 0, .ref 1, .int 0, .int 0, .int 0, .int 0])) mo0 (fun _ => 0) (fun _ => 0) (fun _ => 0)) _ _
  refine xi_if_ne_t (tgt := 10) dX12_told_4 (by decide) (by decide) ?_
  refine xi_aload_n 0 dX12_told_10 rfl ?_
  refine xi_iconst (v := 0) dX12_told_11 (by decide) ?_
  refine xi_put (f := 6) (ty := .int) (M' := (MX 0 (fun _ => 0) (.inr (6, [.ref 6, .int 1, .int 0, .ref 1, .int 0, .int 0, .int 0, .int 0])) mo0 (fun _ => 0) (fun _ => 0) (fun _ => 0))) dX12_told_12 rfl rfl ok_9 (by decide) w_1014 rfl pf_I (fun _ h => by cases h) rfl rfl (Nat.le_of_ble_eq_true rfl) rfl ?_
  refine xi_aload_n 0 dX12_told_15 rfl ?_
  refine xi_iconst (v := (-1)) dX12_told_16 (by decide) ?_
  refine xi_put (f := 7) (ty := .int) (M' := (MX 0 (fun _ => 0) (.inr (6, [.ref 6, .int 1, .int 0, .ref 1, .int 0, .int 0, .int 0, .int 0])) mo0 (fun _ => 0) (fun _ => 0) (fun _ => 0))) dX12_told_17 rfl rfl ok_9 (by decide) w_1015 rfl pf_I (fun _ h => by cases h) rfl rfl (Nat.le_of_ble_eq_true rfl) rfl ?_
  refine xi_aload_n 0 dX12_told_20 rfl ?_
  refine xi_iconst (v := 0) dX12_told_21 (by decide) ?_
  refine xi_put (f := 12) (ty := .boolean) (M' := (MX 0 (fun _ => 0) (.inr (6, [.ref 6, .int 1, .int 0, .ref 1, .int 0, .int 0, .int 0, .int 0])) mo0 (fun _ => 0) (fun _ => 0) (fun _ => 0))) dX12_told_22 rfl rfl ok_9 (by decide) w_1020 rfl pf_Z (fun _ h => by cases h) rfl rfl (Nat.le_of_ble_eq_true rfl) rfl ?_
  refine xi_aload_n 0 dX12_told_25 rfl ?_
  refine xi_iconst (v := 0) dX12_told_26 (by decide) ?_
  refine xi_put (f := 8) (ty := .int) (M' := (MX 0 (fun _ => 0) (.inr (6, [.ref 6, .int 1, .int 0, .ref 1, .int 0, .int 0, .int 0, .int 0])) mo0 (fun _ => 0) (fun _ => 0) (fun _ => 0))) dX12_told_27 rfl rfl ok_9 (by decide) w_1016 rfl pf_I (fun _ h => by cases h) rfl rfl (Nat.le_of_ble_eq_true rfl) rfl ?_
  refine xi_aload_n 0 dX12_told_30 rfl ?_
  refine xi_callV (as := []) (rest := []) dX12_told_31 (fm_remembers G (fun _ => 0) (fun _ => 0)) mkX12_remembers w_1112 ws_37 w_1110 rfl rfl rfl rfl rfl (Nat.le_of_ble_eq_true rfl) (Nat.le_of_ble_eq_true rfl) (Nat.le_of_ble_eq_true rfl) (Nat.le_of_ble_eq_true rfl) (Nat.le_of_ble_eq_true rfl) ?_
  intro v M2 hq
  obtain ⟨rfl, w, rfl⟩ := hq
  show xW _ _ _ _ 34 _ [] (MX 0 (fun _ => 0) (.inr (6, [.ref 6, .int 1, .int 0, .ref 1, .int 0, .int 0, .int 0, .int 0])) mo0 (fun _ => 0) w (fun _ => 0)) _ _
  refine xi_aload_n 0 dX12_told_34 rfl ?_
  refine xi_callV (as := []) (rest := []) dX12_told_35 (au_22 G w) mkX12_next w_1136 ws_40 w_1134 rfl rfl rfl rfl rfl (Nat.le_of_ble_eq_true rfl) (Nat.le_of_ble_eq_true rfl) (Nat.le_of_ble_eq_true rfl) (Nat.le_of_ble_eq_true rfl) (Nat.le_of_ble_eq_true rfl) ?_
  intro v M2 hq
  obtain ⟨rfl, rfl⟩ := hq
  show xW _ _ _ _ 38 _ [] (MX 0 (fun _ => 0) (.inr (6, [.ref 6, .int 1, .int 0, .ref 1, .int 0, .int 0, .int 0, .int 0])) mo0 (fun _ => 0) w (fun _ => 0)) _ _
  refine xi_aload_n 0 dX12_told_38 rfl ?_
  refine xi_iload_n 1 dX12_told_39 rfl ?_
  refine xi_callV (as := [.int 0]) (rest := []) dX12_told_40 (fm_readsNet_0 G w) mkX12_readsNet w_1145 ws_42 w_1143 rfl rfl rfl rfl rfl (Nat.le_of_ble_eq_true rfl) (Nat.le_of_ble_eq_true rfl) (Nat.le_of_ble_eq_true rfl) (Nat.le_of_ble_eq_true rfl) (Nat.le_of_ble_eq_true rfl) ?_
  intro v M2 hq
  obtain ⟨rfl, g, rfl⟩ := hq
  show xW _ _ _ _ 43 _ [] (MX 0 (fun _ => 0) (.inr (6, [.ref 6, .int 1, .int 0, .ref 1, .int 0, .int 0, .int 0, .int 0])) (.inr (9, [.ref 150, .ref 151, .ref 152, .int 0, .ref 153, .int 0, .int 1, .int 0, .int 0, .int 0, .int 0, .int 0, .int 1, .ref 154, .ref 155, .ref 156, .ref 157, .int 0, .int 0, .int 0, .ref 158, .ref 159, .ref 160, .ref 161, .ref 162, .int 0])) g w (fun _ => 0)) _ _
  refine xi_aload_n 0 dX12_told_43 rfl ?_
  refine xi_iconst (v := 0) dX12_told_44 (by decide) ?_
  refine xi_put (f := 5) (ty := .int) (M' := (MX 0 (fun _ => 0) (.inr (6, [.ref 6, .int 1, .int 0, .ref 1, .int 0, .int 0, .int 0, .int 0])) (.inr (9, [.ref 150, .ref 151, .ref 152, .int 0, .ref 153, .int 0, .int 1, .int 0, .int 0, .int 0, .int 0, .int 0, .int 1, .ref 154, .ref 155, .ref 156, .ref 157, .int 0, .int 0, .int 0, .ref 158, .ref 159, .ref 160, .ref 161, .ref 162, .int 0])) g w (fun _ => 0))) dX12_told_45 rfl rfl ok_9 (by decide) w_1013 rfl pf_I (fun _ h => by cases h) rfl rfl (Nat.le_of_ble_eq_true rfl) rfl ?_
  refine xi_aload_n 0 dX12_told_48 rfl ?_
  refine xi_get (f := 12) dX12_told_49 rfl rfl ok_9 (by decide) w_1020 rfl ?_
  refine xi_if_eq_f (tgt := 85) dX12_told_52 (by decide) (by decide) ?_
  refine xi_iconst (v := 0) dX12_told_55 (by decide) ?_
  refine xi_istore_n (lv' := [(2, .int 0), (0, .ref 149), (1, .int 0)]) dX12_told_56 (by decide) rfl ?_
  exact fm_told_loop_0 G w 273 0 g rfl
set_option maxHeartbeats 4000000 in
set_option maxRecDepth 100000 in
theorem au_39 (G : xG) : xC G mX12_in 0 0 0 [.long 1, .long 0, .long 2] (MX 0 (fun _ => 0) (.inr (6, [.ref 6, .int 1, .int 0, .ref 1, .int 0, .int 0, .int 0, .int 0])) mo0 (fun _ => 0) (fun _ => 0) (fun _ => 0)) (fun v M2 => v = some (.int 1) ∧ M2 = (MX 0 (fun _ => 0) (.inr (6, [.ref 6, .int 1, .int 0, .ref 1, .int 0, .int 0, .int 0, .int 0])) mo0 (fun _ => 0) (fun _ => 0) (fun _ => 0))) := by
  refine xC.of (by decide) (Nat.le_of_ble_eq_true rfl) ?_
  show xW _ _ _ _ 0 [(0, .long 1), (2, .long 0), (4, .long 2)] [] _ 0 0
  refine xi_lload_n 0 dX12_in_0 rfl ?_
  refine xi_lload_n 1 dX12_in_1 rfl ?_
  refine xi_lcmp (v := 1) dX12_in_2 (by decide) ?_
  refine xi_if_lt_f (tgt := 17) dX12_in_3 (by decide) (by decide) ?_
  refine xi_lload_n 0 dX12_in_6 rfl ?_
  refine xi_lload 2 dX12_in_7 rfl ?_
  refine xi_lcmp (v := (-1)) dX12_in_9 (by decide) ?_
  refine xi_if_gt_f (tgt := 17) dX12_in_10 (by decide) (by decide) ?_
  refine xi_iconst (v := 1) dX12_in_13 (by decide) ?_
  refine xi_goto (tgt := 18) dX12_in_14 (by decide) ?_
  exact xi_iret dX12_in_18 rfl (by decide) (Nat.le_of_ble_eq_true rfl) (Nat.le_of_ble_eq_true rfl) ⟨rfl, rfl⟩
set_option maxHeartbeats 4000000 in
set_option maxRecDepth 100000 in
theorem au_40 (G : xG) : xC G mX12_isSlot 1 0 0 [.int 1] (MX 0 (fun _ => 0) (.inr (6, [.ref 6, .int 1, .int 0, .ref 1, .int 0, .int 0, .int 0, .int 0])) mo0 (fun _ => 0) (fun _ => 0) (fun _ => 0)) (fun v M2 => v = some (.int 1) ∧ M2 = (MX 0 (fun _ => 0) (.inr (6, [.ref 6, .int 1, .int 0, .ref 1, .int 0, .int 0, .int 0, .int 0])) mo0 (fun _ => 0) (fun _ => 0) (fun _ => 0))) := by
  refine xC.of (by decide) (Nat.le_of_ble_eq_true rfl) ?_
  show xW _ _ _ _ 0 [(0, .int 1)] [] _ 0 0
  refine xi_iload_n 0 dX12_isSlot_0 rfl ?_
  refine xi_i2l (v := 1) dX12_isSlot_1 (by decide) ?_
  refine xi_lconst (v := 0) dX12_isSlot_2 (by decide) ?_
  refine xi_ldc2 (v := 2) dX12_isSlot_3 w_1098 ?_
  refine xi_callS (as := [.long 1, .long 0, .long 2]) (rest := []) dX12_isSlot_6 (au_39 G) mkX12_in w_1100 w_1099 rfl rfl (Nat.le_of_ble_eq_true rfl) (Nat.le_of_ble_eq_true rfl) (Nat.le_of_ble_eq_true rfl) (Nat.le_of_ble_eq_true rfl) (Nat.le_of_ble_eq_true rfl) ?_
  intro v M2 hq
  obtain ⟨rfl, rfl⟩ := hq
  show xW _ _ _ _ 9 _ [.int 1] (MX 0 (fun _ => 0) (.inr (6, [.ref 6, .int 1, .int 0, .ref 1, .int 0, .int 0, .int 0, .int 0])) mo0 (fun _ => 0) (fun _ => 0) (fun _ => 0)) _ _
  exact xi_iret dX12_isSlot_9 rfl (by decide) (Nat.le_of_ble_eq_true rfl) (Nat.le_of_ble_eq_true rfl) ⟨rfl, rfl⟩
set_option maxHeartbeats 4000000 in
set_option maxRecDepth 100000 in
theorem fm_empties_1_loop (G : xG) (w : Nat → Int32) : ∀ (j i : Nat) (g : Nat → Int32), i + j = 91 → xW G mX12_empties (xrm 0 0 0) (xQ G (fun v M2 => v = none ∧ ∃ g2, M2 = (MX 0 (fun _ => 0) (.inr (6, [.ref 6, .int 1, .int 0, .ref 1, .int 0, .int 0, .int 0, .int 0])) (.inr (9, [.ref 150, .ref 151, .ref 152, .int 0, .ref 153, .int 0, .int 1, .int 0, .int 0, .int 0, .int 0, .int 0, .int 1, .ref 154, .ref 155, .ref 156, .ref 157, .int 0, .int 0, .int 0, .ref 158, .ref 159, .ref 160, .ref 161, .ref 162, .int 0])) g2 w (fun _ => 0))) 0 0) 2 [(2, .int (nI i)), (0, .ref 149), (1, .int 1)] [] (MX 0 (fun _ => 0) (.inr (6, [.ref 6, .int 1, .int 0, .ref 1, .int 0, .int 0, .int 0, .int 0])) (.inr (9, [.ref 150, .ref 151, .ref 152, .int 0, .ref 153, .int 0, .int 1, .int 0, .int 0, .int 0, .int 0, .int 0, .int 1, .ref 154, .ref 155, .ref 156, .ref 157, .int 0, .int 0, .int 0, .ref 158, .ref 159, .ref 160, .ref 161, .ref 162, .int 0])) g w (fun _ => 0)) 0 0 := by
  intro j
  induction j with
  | zero =>
    intro i g hi
    have e : i = 91 := by omega
    subst e
    refine xi_iload_n 0 dX12_empties_2 rfl ?_
    refine xi_bipush (v := 91) dX12_empties_3 (by decide) ?_
    refine xi_icmp_ge_t (tgt := 26) dX12_empties_5 (by decide) (by decide) ?_
    exact xi_vret dX12_empties_26 rfl (Nat.le_of_ble_eq_true rfl) (Nat.le_of_ble_eq_true rfl) ⟨rfl, _, rfl⟩
  | succ j ih =>
    intro i g hi
    have hlt : ¬ (91 : Int32) ≤ nI i := nI_ge (a := i) (b := 91) (by omega) (by decide)
    have hi2 : i < 91 := by omega
    refine xi_iload_n 0 dX12_empties_2 rfl ?_
    refine xi_bipush (v := 91) dX12_empties_3 (by decide) ?_
    refine xi_icmp_ge_f (tgt := 26) dX12_empties_5 (by decide) hlt ?_
    refine xi_aload_n 1 dX12_empties_8 rfl ?_
    refine xi_get (f := 0) dX12_empties_9 rfl rfl ok_9 (by decide) w_1008 rfl ?_
    refine xi_bipush (v := 91) dX12_empties_12 (by decide) ?_
    refine xi_iload_n 2 dX12_empties_14 rfl ?_
    refine xi_imul (v := 91) dX12_empties_15 (by decide) ?_
    refine xi_iload_n 0 dX12_empties_16 rfl ?_
    refine xi_iadd dX12_empties_17 rfl ?_
    refine xi_iconst (v := 0) dX12_empties_18 (by decide) ?_
    refine xi_iastore (M' := (MX 0 (fun _ => 0) (.inr (6, [.ref 6, .int 1, .int 0, .ref 1, .int 0, .int 0, .int 0, .int 0])) (.inr (9, [.ref 150, .ref 151, .ref 152, .int 0, .ref 153, .int 0, .int 1, .int 0, .int 0, .int 0, .int 0, .int 0, .int 1, .ref 154, .ref 155, .ref 156, .ref 157, .int 0, .int 0, .int 0, .ref 158, .ref 159, .ref 160, .ref 161, .ref 162, .int 0])) (upd g (91 + (nI i)).toNatClampNeg 0) w (fun _ => 0))) dX12_empties_19 rfl (by rw [show (91 : Int32) + nI i = nI (91 + i) from nI_add 91 i]; exact vp_in_nI (by omega) (by decide)) rfl ?_
    refine xi_iinc (v := ((nI i) + Int32.ofInt 1)) (lv' := [(2, .int ((nI i) + Int32.ofInt 1)), (0, .ref 149), (1, .int 1)]) 0 dX12_empties_20 rfl rfl (by decide) rfl ?_
    refine xi_goto (tgt := 2) dX12_empties_23 (by decide) ?_
    rw [show nI i + Int32.ofInt 1 = nI (i + 1) from nI_1 i]
    exact ih (i + 1) _ (by omega)
set_option maxHeartbeats 4000000 in
set_option maxRecDepth 100000 in
theorem fm_empties_1 (G : xG) (g w : Nat → Int32) : xC G mX12_empties 0 0 0 [.ref 149, .int 1] (MX 0 (fun _ => 0) (.inr (6, [.ref 6, .int 1, .int 0, .ref 1, .int 0, .int 0, .int 0, .int 0])) (.inr (9, [.ref 150, .ref 151, .ref 152, .int 0, .ref 153, .int 0, .int 1, .int 0, .int 0, .int 0, .int 0, .int 0, .int 1, .ref 154, .ref 155, .ref 156, .ref 157, .int 0, .int 0, .int 0, .ref 158, .ref 159, .ref 160, .ref 161, .ref 162, .int 0])) g w (fun _ => 0)) (fun v M2 => v = none ∧ ∃ g2, M2 = (MX 0 (fun _ => 0) (.inr (6, [.ref 6, .int 1, .int 0, .ref 1, .int 0, .int 0, .int 0, .int 0])) (.inr (9, [.ref 150, .ref 151, .ref 152, .int 0, .ref 153, .int 0, .int 1, .int 0, .int 0, .int 0, .int 0, .int 0, .int 1, .ref 154, .ref 155, .ref 156, .ref 157, .int 0, .int 0, .int 0, .ref 158, .ref 159, .ref 160, .ref 161, .ref 162, .int 0])) g2 w (fun _ => 0))) := by
  refine xC.of (by decide) (Nat.le_of_ble_eq_true rfl) ?_
  show xW _ _ _ _ 0 [(0, .ref 149), (1, .int 1)] [] _ 0 0
  refine xi_iconst (v := 0) dX12_empties_0 (by decide) ?_
  refine xi_istore_n (lv' := [(2, .int 0), (0, .ref 149), (1, .int 1)]) dX12_empties_1 (by decide) rfl ?_
  exact fm_empties_1_loop G w 91 0 g rfl
set_option maxHeartbeats 4000000 in
set_option maxRecDepth 100000 in
theorem au_41 (G : xG) (g w : Nat → Int32) : xC G mX12_puts 0 0 0 [.ref 149, .int 1, .int 0, .int 0] (MX 0 (fun _ => 0) (.inr (6, [.ref 6, .int 1, .int 0, .ref 1, .int 0, .int 0, .int 0, .int 0])) (.inr (9, [.ref 150, .ref 151, .ref 152, .int 0, .ref 153, .int 0, .int 1, .int 0, .int 0, .int 0, .int 0, .int 0, .int 1, .ref 154, .ref 155, .ref 156, .ref 157, .int 0, .int 0, .int 0, .ref 158, .ref 159, .ref 160, .ref 161, .ref 162, .int 0])) (upd g 91 1) w (fun _ => 0)) (fun v M2 => v = none ∧ M2 = (MX 0 (fun _ => 0) (.inr (6, [.ref 6, .int 1, .int 0, .ref 1, .int 0, .int 0, .int 0, .int 0])) (.inr (9, [.ref 150, .ref 151, .ref 152, .int 0, .ref 153, .int 0, .int 1, .int 0, .int 0, .int 0, .int 0, .int 0, .int 1, .ref 154, .ref 155, .ref 156, .ref 157, .int 0, .int 0, .int 0, .ref 158, .ref 159, .ref 160, .ref 161, .ref 162, .int 0])) (upd (upd g 91 1) 173 0) w (fun _ => 0))) := by
  refine xC.of (by decide) (Nat.le_of_ble_eq_true rfl) ?_
  show xW _ _ _ _ 0 [(0, .ref 149), (1, .int 1), (2, .int 0), (3, .int 0)] [] _ 0 0
  refine xi_aload_n 0 dX12_puts_0 rfl ?_
  refine xi_get (f := 0) dX12_puts_1 rfl rfl ok_9 (by decide) w_1008 rfl ?_
  refine xi_bipush (v := 91) dX12_puts_4 (by decide) ?_
  refine xi_iload_n 1 dX12_puts_6 rfl ?_
  refine xi_imul (v := 91) dX12_puts_7 (by decide) ?_
  refine xi_bipush (v := 82) dX12_puts_8 (by decide) ?_
  refine xi_iadd (v := 173) dX12_puts_10 (by decide) ?_
  refine xi_iload_n 2 dX12_puts_11 rfl ?_
  refine xi_iadd (v := 173) dX12_puts_12 (by decide) ?_
  refine xi_iload_n 3 dX12_puts_13 rfl ?_
  refine xi_iastore (M' := (MX 0 (fun _ => 0) (.inr (6, [.ref 6, .int 1, .int 0, .ref 1, .int 0, .int 0, .int 0, .int 0])) (.inr (9, [.ref 150, .ref 151, .ref 152, .int 0, .ref 153, .int 0, .int 1, .int 0, .int 0, .int 0, .int 0, .int 0, .int 1, .ref 154, .ref 155, .ref 156, .ref 157, .int 0, .int 0, .int 0, .ref 158, .ref 159, .ref 160, .ref 161, .ref 162, .int 0])) (upd (upd g 91 1) 173 0) w (fun _ => 0))) dX12_puts_14 rfl (by unfold vp_in; decide) rfl ?_
  exact xi_vret dX12_puts_15 rfl (Nat.le_of_ble_eq_true rfl) (Nat.le_of_ble_eq_true rfl) ⟨rfl, rfl⟩
set_option maxHeartbeats 4000000 in
set_option maxRecDepth 100000 in
theorem au_42 (G : xG) (g w : Nat → Int32) : xC G mX12_isSign 0 0 0 [.ref 149, .int 58] (MX 0 (fun _ => 0) (.inr (6, [.ref 6, .int 1, .int 0, .ref 1, .int 0, .int 0, .int 0, .int 0])) (.inr (9, [.ref 150, .ref 151, .ref 152, .int 0, .ref 153, .int 0, .int 1, .int 0, .int 0, .int 0, .int 0, .int 0, .int 1, .ref 154, .ref 155, .ref 156, .ref 157, .int 0, .int 0, .int 0, .ref 158, .ref 159, .ref 160, .ref 161, .ref 162, .int 0])) (upd (upd g 91 1) 173 0) w (fun _ => 0)) (fun v M2 => v = some (.int 0) ∧ M2 = (MX 0 (fun _ => 0) (.inr (6, [.ref 6, .int 1, .int 0, .ref 1, .int 0, .int 0, .int 0, .int 0])) (.inr (9, [.ref 150, .ref 151, .ref 152, .int 0, .ref 153, .int 0, .int 1, .int 0, .int 0, .int 0, .int 0, .int 0, .int 1, .ref 154, .ref 155, .ref 156, .ref 157, .int 0, .int 0, .int 0, .ref 158, .ref 159, .ref 160, .ref 161, .ref 162, .int 0])) (upd (upd g 91 1) 173 0) w (fun _ => 0))) := by
  refine xC.of (by decide) (Nat.le_of_ble_eq_true rfl) ?_
  show xW _ _ _ _ 0 [(0, .ref 149), (1, .int 58)] [] _ 0 0
  refine xi_aload_n 0 dX12_isSign_0 rfl ?_
  refine xi_get (f := 12) dX12_isSign_1 rfl rfl ok_9 (by decide) w_1020 rfl ?_
  refine xi_if_ne_t (tgt := 32) dX12_isSign_4 (by decide) (by decide) ?_
  refine xi_iconst (v := 0) dX12_isSign_32 (by decide) ?_
  exact xi_iret dX12_isSign_33 rfl (by decide) (Nat.le_of_ble_eq_true rfl) (Nat.le_of_ble_eq_true rfl) ⟨rfl, rfl⟩
set_option maxHeartbeats 4000000 in
set_option maxRecDepth 100000 in
theorem au_43 (G : xG) (g w : Nat → Int32) : xC G mX12_isSign 0 0 0 [.ref 149, .int 59] (MX 0 (fun _ => 0) (.inr (6, [.ref 6, .int 1, .int 0, .ref 1, .int 0, .int 0, .int 0, .int 0])) (.inr (9, [.ref 150, .ref 151, .ref 152, .int 0, .ref 153, .int 0, .int 1, .int 0, .int 0, .int 0, .int 0, .int 0, .int 1, .ref 154, .ref 155, .ref 156, .ref 157, .int 0, .int 0, .int 0, .ref 158, .ref 159, .ref 160, .ref 161, .ref 162, .int 0])) (upd (upd g 91 1) 173 0) w (fun _ => 0)) (fun v M2 => v = some (.int 0) ∧ M2 = (MX 0 (fun _ => 0) (.inr (6, [.ref 6, .int 1, .int 0, .ref 1, .int 0, .int 0, .int 0, .int 0])) (.inr (9, [.ref 150, .ref 151, .ref 152, .int 0, .ref 153, .int 0, .int 1, .int 0, .int 0, .int 0, .int 0, .int 0, .int 1, .ref 154, .ref 155, .ref 156, .ref 157, .int 0, .int 0, .int 0, .ref 158, .ref 159, .ref 160, .ref 161, .ref 162, .int 0])) (upd (upd g 91 1) 173 0) w (fun _ => 0))) := by
  refine xC.of (by decide) (Nat.le_of_ble_eq_true rfl) ?_
  show xW _ _ _ _ 0 [(0, .ref 149), (1, .int 59)] [] _ 0 0
  refine xi_aload_n 0 dX12_isSign_0 rfl ?_
  refine xi_get (f := 12) dX12_isSign_1 rfl rfl ok_9 (by decide) w_1020 rfl ?_
  refine xi_if_ne_t (tgt := 32) dX12_isSign_4 (by decide) (by decide) ?_
  refine xi_iconst (v := 0) dX12_isSign_32 (by decide) ?_
  exact xi_iret dX12_isSign_33 rfl (by decide) (Nat.le_of_ble_eq_true rfl) (Nat.le_of_ble_eq_true rfl) ⟨rfl, rfl⟩
set_option maxHeartbeats 4000000 in
set_option maxRecDepth 100000 in
theorem au_44 (G : xG) (g w : Nat → Int32) : xC G mX12_faults 0 0 0 [.ref 149, .int 1] (MX 0 (fun _ => 0) (.inr (6, [.ref 6, .int 1, .int 0, .ref 1, .int 0, .int 0, .int 0, .int 0])) (.inr (9, [.ref 150, .ref 151, .ref 152, .int 0, .ref 153, .int 0, .int 1, .int 0, .int 0, .int 0, .int 0, .int 0, .int 1, .ref 154, .ref 155, .ref 156, .ref 157, .int 0, .int 0, .int 0, .ref 158, .ref 159, .ref 160, .ref 161, .ref 162, .int 0])) (upd (upd g 91 1) 173 0) w (fun _ => 0)) (fun v M2 => v = none ∧ M2 = (MX 0 (fun _ => 0) (.inr (6, [.ref 6, .int 1, .int 0, .ref 1, .int 0, .int 0, .int 0, .int 0])) (.inr (9, [.ref 150, .ref 151, .ref 152, .int 0, .ref 153, .int 0, .int 1, .int 0, .int 0, .int 0, .int 0, .int 0, .int 1, .ref 154, .ref 155, .ref 156, .ref 157, .int 0, .int 0, .int 0, .ref 158, .ref 159, .ref 160, .ref 161, .ref 162, .int 0])) (upd (upd g 91 1) 173 0) w (fun _ => 0))) := by
  refine xC.of (by decide) (Nat.le_of_ble_eq_true rfl) ?_
  show xW _ _ _ _ 0 [(0, .ref 149), (1, .int 1)] [] _ 0 0
  refine xi_aload_n 0 dX12_faults_0 rfl ?_
  refine xi_get (f := 12) dX12_faults_1 rfl rfl ok_9 (by decide) w_1020 rfl ?_
  refine xi_if_ne_t (tgt := 25) dX12_faults_4 (by decide) (by decide) ?_
  exact xi_vret dX12_faults_25 rfl (Nat.le_of_ble_eq_true rfl) (Nat.le_of_ble_eq_true rfl) ⟨rfl, rfl⟩
set_option maxHeartbeats 4000000 in
set_option maxRecDepth 100000 in
theorem au_45 (G : xG) (g w : Nat → Int32) : xC G mX12_passes 0 0 0 [.ref 149] (MX 0 (fun _ => 0) (.inr (6, [.ref 6, .int 1, .int 0, .ref 1, .int 0, .int 0, .int 0, .int 0])) (.inr (9, [.ref 150, .ref 151, .ref 152, .int 0, .ref 153, .int 0, .int 1, .int 0, .int 0, .int 0, .int 0, .int 0, .int 1, .ref 154, .ref 155, .ref 156, .ref 157, .int 0, .int 0, .int 0, .ref 158, .ref 159, .ref 160, .ref 161, .ref 162, .int 0])) (upd (upd g 91 1) 173 0) w (fun _ => 0)) (fun v M2 => v = none ∧ M2 = (MX 0 (fun _ => 0) (.inr (6, [.ref 6, .int 1, .int 0, .ref 1, .int 0, .int 0, .int 0, .int 0])) (.inr (9, [.ref 150, .ref 151, .ref 152, .int 0, .ref 153, .int 0, .int 1, .int 0, .int 0, .int 0, .int 0, .int 0, .int 1, .ref 154, .ref 155, .ref 156, .ref 157, .int 0, .int 0, .int 0, .ref 158, .ref 159, .ref 160, .ref 161, .ref 162, .int 0])) (upd (upd g 91 1) 173 0) w (fun _ => 0))) := by
  refine xC.of (by decide) (Nat.le_of_ble_eq_true rfl) ?_
  show xW _ _ _ _ 0 [(0, .ref 149)] [] _ 0 0
  refine xi_aload_n 0 dX12_passes_0 rfl ?_
  refine xi_get (f := 12) dX12_passes_1 rfl rfl ok_9 (by decide) w_1020 rfl ?_
  refine xi_if_ne_t (tgt := 11) dX12_passes_4 (by decide) (by decide) ?_
  exact xi_vret dX12_passes_11 rfl (Nat.le_of_ble_eq_true rfl) (Nat.le_of_ble_eq_true rfl) ⟨rfl, rfl⟩
set_option maxHeartbeats 4000000 in
set_option maxRecDepth 100000 in
theorem au_46 (G : xG) (g w : Nat → Int32) : xC G mX12_must 1 0 0 [.ref 149, .int 0] (MX 0 (fun _ => 0) (.inr (6, [.ref 6, .int 1, .int 0, .ref 1, .int 0, .int 0, .int 0, .int 0])) (.inr (9, [.ref 150, .ref 151, .ref 152, .int 0, .ref 153, .int 0, .int 1, .int 0, .int 0, .int 0, .int 0, .int 0, .int 1, .ref 154, .ref 155, .ref 156, .ref 157, .int 0, .int 0, .int 0, .ref 158, .ref 159, .ref 160, .ref 161, .ref 162, .int 0])) (upd (upd g 91 1) 173 0) w (fun _ => 0)) (fun v M2 => v = none ∧ M2 = (MX 0 (fun _ => 0) (.inr (6, [.ref 6, .int 1, .int 0, .ref 1, .int 0, .int 0, .int 0, .int 0])) (.inr (9, [.ref 150, .ref 151, .ref 152, .int 0, .ref 153, .int 0, .int 1, .int 0, .int 0, .int 0, .int 0, .int 0, .int 1, .ref 154, .ref 155, .ref 156, .ref 157, .int 0, .int 0, .int 0, .ref 158, .ref 159, .ref 160, .ref 161, .ref 162, .int 0])) (upd (upd g 91 1) 173 0) w (fun _ => 0))) := by
  refine xC.of (by decide) (Nat.le_of_ble_eq_true rfl) ?_
  show xW _ _ _ _ 0 [(0, .ref 149), (1, .int 0)] [] _ 0 0
  refine xi_iload_n 1 dX12_must_0 rfl ?_
  refine xi_if_ne_f (tgt := 9) dX12_must_1 (by decide) (by decide) ?_
  refine xi_aload_n 0 dX12_must_4 rfl ?_
  refine xi_iconst (v := 1) dX12_must_5 (by decide) ?_
  refine xi_callV (as := [.int 1]) (rest := []) dX12_must_6 (au_44 G g w) mkX12_faults w_1160 ws_45 w_1158 rfl rfl rfl rfl rfl (Nat.le_of_ble_eq_true rfl) (Nat.le_of_ble_eq_true rfl) (Nat.le_of_ble_eq_true rfl) (Nat.le_of_ble_eq_true rfl) (Nat.le_of_ble_eq_true rfl) ?_
  intro v M2 hq
  obtain ⟨rfl, rfl⟩ := hq
  show xW _ _ _ _ 9 _ [] (MX 0 (fun _ => 0) (.inr (6, [.ref 6, .int 1, .int 0, .ref 1, .int 0, .int 0, .int 0, .int 0])) (.inr (9, [.ref 150, .ref 151, .ref 152, .int 0, .ref 153, .int 0, .int 1, .int 0, .int 0, .int 0, .int 0, .int 0, .int 1, .ref 154, .ref 155, .ref 156, .ref 157, .int 0, .int 0, .int 0, .ref 158, .ref 159, .ref 160, .ref 161, .ref 162, .int 0])) (upd (upd g 91 1) 173 0) w (fun _ => 0)) _ _
  refine xi_aload_n 0 dX12_must_9 rfl ?_
  refine xi_callV (as := []) (rest := []) dX12_must_10 (au_45 G g w) mkX12_passes w_1164 ws_46 w_1162 rfl rfl rfl rfl rfl (Nat.le_of_ble_eq_true rfl) (Nat.le_of_ble_eq_true rfl) (Nat.le_of_ble_eq_true rfl) (Nat.le_of_ble_eq_true rfl) (Nat.le_of_ble_eq_true rfl) ?_
  intro v M2 hq
  obtain ⟨rfl, rfl⟩ := hq
  show xW _ _ _ _ 13 _ [] (MX 0 (fun _ => 0) (.inr (6, [.ref 6, .int 1, .int 0, .ref 1, .int 0, .int 0, .int 0, .int 0])) (.inr (9, [.ref 150, .ref 151, .ref 152, .int 0, .ref 153, .int 0, .int 1, .int 0, .int 0, .int 0, .int 0, .int 0, .int 1, .ref 154, .ref 155, .ref 156, .ref 157, .int 0, .int 0, .int 0, .ref 158, .ref 159, .ref 160, .ref 161, .ref 162, .int 0])) (upd (upd g 91 1) 173 0) w (fun _ => 0)) _ _
  exact xi_vret dX12_must_13 rfl (Nat.le_of_ble_eq_true rfl) (Nat.le_of_ble_eq_true rfl) ⟨rfl, rfl⟩
set_option maxHeartbeats 4000000 in
set_option maxRecDepth 100000 in
theorem au_47 (G : xG) (g w : Nat → Int32) : xC G mJ0_coder_7d493 0 0 0 [.float 5] (MX 0 (fun _ => 0) (.inr (6, [.ref 6, .int 1, .int 0, .ref 1, .int 0, .int 0, .int 0, .int 0])) (.inr (9, [.ref 150, .ref 151, .ref 152, .int 0, .ref 153, .int 0, .int 1, .int 0, .int 0, .int 0, .int 0, .int 0, .int 1, .ref 154, .ref 155, .ref 156, .ref 157, .int 0, .int 0, .int 0, .ref 158, .ref 159, .ref 160, .ref 161, .ref 162, .int 0])) (upd (upd g 91 1) 173 0) w (fun _ => 0)) (fun v M2 => v = some (.int 0) ∧ M2 = (MX 0 (fun _ => 0) (.inr (6, [.ref 6, .int 1, .int 0, .ref 1, .int 0, .int 0, .int 0, .int 0])) (.inr (9, [.ref 150, .ref 151, .ref 152, .int 0, .ref 153, .int 0, .int 1, .int 0, .int 0, .int 0, .int 0, .int 0, .int 1, .ref 154, .ref 155, .ref 156, .ref 157, .int 0, .int 0, .int 0, .ref 158, .ref 159, .ref 160, .ref 161, .ref 162, .int 0])) (upd (upd g 91 1) 173 0) w (fun _ => 0))) := by
  refine xC.of (by decide) (Nat.le_of_ble_eq_true rfl) ?_
  show xW _ _ _ _ 0 [(0, .float 5)] [] _ 0 0
  refine xi_compact dJ0_coder_7d493_0 w_336 ?_
  refine xi_if_eq_f (tgt := 13) dJ0_coder_7d493_3 (by decide) (by decide) ?_
  refine xi_aload_nS 0 dJ0_coder_7d493_6 rfl ?_
  refine xi_getSc dJ0_coder_7d493_7 st_5 rfl w_1541 ?_
  refine xi_goto (tgt := 14) dJ0_coder_7d493_10 (by decide) ?_
  exact xi_iret dJ0_coder_7d493_14 rfl (by decide) (Nat.le_of_ble_eq_true rfl) (Nat.le_of_ble_eq_true rfl) ⟨rfl, rfl⟩
set_option maxHeartbeats 4000000 in
set_option maxRecDepth 100000 in
theorem au_48 (G : xG) (g w : Nat → Int32) : xC G mJ0_length_8abf5 1 0 0 [.float 5] (MX 0 (fun _ => 0) (.inr (6, [.ref 6, .int 1, .int 0, .ref 1, .int 0, .int 0, .int 0, .int 0])) (.inr (9, [.ref 150, .ref 151, .ref 152, .int 0, .ref 153, .int 0, .int 1, .int 0, .int 0, .int 0, .int 0, .int 0, .int 1, .ref 154, .ref 155, .ref 156, .ref 157, .int 0, .int 0, .int 0, .ref 158, .ref 159, .ref 160, .ref 161, .ref 162, .int 0])) (upd (upd g 91 1) 173 0) w (fun _ => 0)) (fun v M2 => v = some (.int 3) ∧ M2 = (MX 0 (fun _ => 0) (.inr (6, [.ref 6, .int 1, .int 0, .ref 1, .int 0, .int 0, .int 0, .int 0])) (.inr (9, [.ref 150, .ref 151, .ref 152, .int 0, .ref 153, .int 0, .int 1, .int 0, .int 0, .int 0, .int 0, .int 0, .int 1, .ref 154, .ref 155, .ref 156, .ref 157, .int 0, .int 0, .int 0, .ref 158, .ref 159, .ref 160, .ref 161, .ref 162, .int 0])) (upd (upd g 91 1) 173 0) w (fun _ => 0))) := by
  refine xC.of (by decide) (Nat.le_of_ble_eq_true rfl) ?_
  show xW _ _ _ _ 0 [(0, .float 5)] [] _ 0 0
  refine xi_aload_nS 0 dJ0_length_8abf5_0 rfl ?_
  refine xi_getSv (w2 := 105) dJ0_length_8abf5_1 st_5 rfl rfl w_1540 ?_
  refine xi_lenS (v := 3) dJ0_length_8abf5_4 st_5 rfl (by decide) ?_
  refine xi_aload_nS 0 dJ0_length_8abf5_5 rfl ?_
  refine xi_callVS (as := []) (rest := [.int 3]) dJ0_length_8abf5_6 (au_47 G g w) mkJ0_coder_7d493 w_333 w_334 w_332 st_5 rfl rfl rfl rfl (Nat.le_of_ble_eq_true rfl) (Nat.le_of_ble_eq_true rfl) (Nat.le_of_ble_eq_true rfl) (Nat.le_of_ble_eq_true rfl) (Nat.le_of_ble_eq_true rfl) ?_
  intro v M2 hq
  obtain ⟨rfl, rfl⟩ := hq
  show xW _ _ _ _ 9 _ [.int 0, .int 3] (MX 0 (fun _ => 0) (.inr (6, [.ref 6, .int 1, .int 0, .ref 1, .int 0, .int 0, .int 0, .int 0])) (.inr (9, [.ref 150, .ref 151, .ref 152, .int 0, .ref 153, .int 0, .int 1, .int 0, .int 0, .int 0, .int 0, .int 0, .int 1, .ref 154, .ref 155, .ref 156, .ref 157, .int 0, .int 0, .int 0, .ref 158, .ref 159, .ref 160, .ref 161, .ref 162, .int 0])) (upd (upd g 91 1) 173 0) w (fun _ => 0)) _ _
  refine xi_ishr (v := 3) dJ0_length_8abf5_9 (by decide) ?_
  exact xi_iret dJ0_length_8abf5_10 rfl rfl (Nat.le_of_ble_eq_true rfl) (Nat.le_of_ble_eq_true rfl) ⟨rfl, rfl⟩
set_option maxHeartbeats 4000000 in
set_option maxRecDepth 100000 in
theorem au_49 (G : xG) (g w : Nat → Int32) : xC G mX12_isWord 2 0 0 [.ref 149, .float 5] (MX 0 (fun _ => 0) (.inr (6, [.ref 6, .int 1, .int 0, .ref 1, .int 0, .int 0, .int 0, .int 0])) (.inr (9, [.ref 150, .ref 151, .ref 152, .int 0, .ref 153, .int 0, .int 1, .int 0, .int 0, .int 0, .int 0, .int 0, .int 1, .ref 154, .ref 155, .ref 156, .ref 157, .int 0, .int 0, .int 0, .ref 158, .ref 159, .ref 160, .ref 161, .ref 162, .int 0])) (upd (upd g 91 1) 173 0) w (fun _ => 0)) (fun v M2 => v = some (.int 0) ∧ M2 = (MX 0 (fun _ => 0) (.inr (6, [.ref 6, .int 1, .int 0, .ref 1, .int 0, .int 0, .int 0, .int 0])) (.inr (9, [.ref 150, .ref 151, .ref 152, .int 0, .ref 153, .int 0, .int 1, .int 0, .int 0, .int 0, .int 0, .int 0, .int 1, .ref 154, .ref 155, .ref 156, .ref 157, .int 0, .int 0, .int 0, .ref 158, .ref 159, .ref 160, .ref 161, .ref 162, .int 0])) (upd (upd g 91 1) 173 0) w (fun _ => 0))) := by
  refine xC.of (by decide) (Nat.le_of_ble_eq_true rfl) ?_
  show xW _ _ _ _ 0 [(0, .ref 149), (1, .float 5)] [] _ 0 0
  refine xi_aload_n 0 dX12_isWord_0 rfl ?_
  refine xi_get (f := 12) dX12_isWord_1 rfl rfl ok_9 (by decide) w_1020 rfl ?_
  refine xi_if_ne_t (tgt := 35) dX12_isWord_4 (by decide) (by decide) ?_
  refine xi_iconst (v := 0) dX12_isWord_35 (by decide) ?_
  refine xi_istore_n (lv' := [(2, .int 0), (0, .ref 149), (1, .float 5)]) dX12_isWord_36 (by decide) rfl ?_
  refine xi_iconst (v := 0) dX12_isWord_37 (by decide) ?_
  refine xi_istore_n (lv' := [(3, .int 0), (2, .int 0), (0, .ref 149), (1, .float 5)]) dX12_isWord_38 (by decide) rfl ?_
  refine xi_iload_n 0 dX12_isWord_39 rfl ?_
  refine xi_aload_nS 3 dX12_isWord_40 rfl ?_
  refine xi_callVS (as := []) (rest := [.int 0]) dX12_isWord_41 (au_48 G g w) mkJ0_length_8abf5 w_329 w_330 w_1152 st_5 rfl rfl rfl rfl (Nat.le_of_ble_eq_true rfl) (Nat.le_of_ble_eq_true rfl) (Nat.le_of_ble_eq_true rfl) (Nat.le_of_ble_eq_true rfl) (Nat.le_of_ble_eq_true rfl) ?_
  intro v M2 hq
  obtain ⟨rfl, rfl⟩ := hq
  show xW _ _ _ _ 44 _ [.int 3, .int 0] (MX 0 (fun _ => 0) (.inr (6, [.ref 6, .int 1, .int 0, .ref 1, .int 0, .int 0, .int 0, .int 0])) (.inr (9, [.ref 150, .ref 151, .ref 152, .int 0, .ref 153, .int 0, .int 1, .int 0, .int 0, .int 0, .int 0, .int 0, .int 1, .ref 154, .ref 155, .ref 156, .ref 157, .int 0, .int 0, .int 0, .ref 158, .ref 159, .ref 160, .ref 161, .ref 162, .int 0])) (upd (upd g 91 1) 173 0) w (fun _ => 0)) _ _
  refine xi_icmp_ge_f (tgt := 82) dX12_isWord_44 (by decide) (by decide) ?_
  refine xi_iload_n 1 dX12_isWord_47 rfl ?_
  refine xi_if_eq_t (tgt := 82) dX12_isWord_48 (by decide) (by decide) ?_
  refine xi_iload_n 1 dX12_isWord_82 rfl ?_
  exact xi_iret dX12_isWord_83 rfl (by decide) (Nat.le_of_ble_eq_true rfl) (Nat.le_of_ble_eq_true rfl) ⟨rfl, rfl⟩
set_option maxHeartbeats 4000000 in
set_option maxRecDepth 100000 in
theorem fm_readsNet_1 (G : xG) (w : Nat → Int32) : xC G mX12_readsNet 3 0 0 [.ref 149, .int 1] (MX 0 (fun _ => 0) (.inr (6, [.ref 6, .int 1, .int 0, .ref 1, .int 0, .int 0, .int 0, .int 0])) mo0 (fun _ => 0) w (fun _ => 0)) (fun v M2 => v = none ∧ ∃ g2, M2 = (MX 0 (fun _ => 0) (.inr (6, [.ref 6, .int 1, .int 0, .ref 1, .int 0, .int 0, .int 0, .int 0])) (.inr (9, [.ref 150, .ref 151, .ref 152, .int 0, .ref 153, .int 0, .int 1, .int 0, .int 0, .int 0, .int 0, .int 0, .int 1, .ref 154, .ref 155, .ref 156, .ref 157, .int 0, .int 0, .int 0, .ref 158, .ref 159, .ref 160, .ref 161, .ref 162, .int 0])) g2 w (fun _ => 0))) := by
  refine xC.of (by decide) (Nat.le_of_ble_eq_true rfl) ?_
  show xW _ _ _ _ 0 [(0, .ref 149), (1, .int 1)] [] _ 0 0
  refine xi_aload_n 0 dX12_readsNet_0 rfl ?_
  refine xi_aload_n 0 dX12_readsNet_1 rfl ?_
  refine xi_ldcS (w := 4) dX12_readsNet_2 st_4 rfl ?_
  refine xi_callV (as := [.float 4]) (rest := [.ref 149]) dX12_readsNet_4 (au_25 G w) mkX12_isWord w_1150 ws_43 w_1148 rfl rfl rfl rfl rfl (Nat.le_of_ble_eq_true rfl) (Nat.le_of_ble_eq_true rfl) (Nat.le_of_ble_eq_true rfl) (Nat.le_of_ble_eq_true rfl) (Nat.le_of_ble_eq_true rfl) ?_
  intro v M2 hq
  obtain ⟨rfl, rfl⟩ := hq
  show xW _ _ _ _ 7 _ [.int 0, .ref 149] (MX 0 (fun _ => 0) (.inr (6, [.ref 6, .int 1, .int 0, .ref 1, .int 0, .int 0, .int 0, .int 0])) mo0 (fun _ => 0) w (fun _ => 0)) _ _
  refine xi_callV (as := [.int 0]) (rest := []) dX12_readsNet_7 (au_28 G w) mkX12_must w_1156 ws_44 w_1154 rfl rfl rfl rfl rfl (Nat.le_of_ble_eq_true rfl) (Nat.le_of_ble_eq_true rfl) (Nat.le_of_ble_eq_true rfl) (Nat.le_of_ble_eq_true rfl) (Nat.le_of_ble_eq_true rfl) ?_
  intro v M2 hq
  obtain ⟨rfl, rfl⟩ := hq
  show xW _ _ _ _ 10 _ [] (MX 0 (fun _ => 0) (.inr (6, [.ref 6, .int 1, .int 0, .ref 1, .int 0, .int 0, .int 0, .int 0])) (.inr (9, [.ref 150, .ref 151, .ref 152, .int 0, .ref 153, .int 0, .int 1, .int 0, .int 0, .int 0, .int 0, .int 0, .int 1, .ref 154, .ref 155, .ref 156, .ref 157, .int 0, .int 0, .int 0, .ref 158, .ref 159, .ref 160, .ref 161, .ref 162, .int 0])) (fun _ => 0) w (fun _ => 0)) _ _
  refine xi_aload_n 0 dX12_readsNet_10 rfl ?_
  refine xi_iconst (v := 1) dX12_readsNet_11 (by decide) ?_
  refine xi_bipush (v := 9) dX12_readsNet_12 (by decide) ?_
  refine xi_callV (as := [.int 1, .int 9]) (rest := []) dX12_readsNet_14 (au_29 G w) mkX12_here w_1168 ws_47 w_1166 rfl rfl rfl rfl rfl (Nat.le_of_ble_eq_true rfl) (Nat.le_of_ble_eq_true rfl) (Nat.le_of_ble_eq_true rfl) (Nat.le_of_ble_eq_true rfl) (Nat.le_of_ble_eq_true rfl) ?_
  intro v M2 hq
  obtain ⟨rfl, rfl⟩ := hq
  show xW _ _ _ _ 17 _ [.int 1] (MX 0 (fun _ => 0) (.inr (6, [.ref 6, .int 1, .int 0, .ref 1, .int 0, .int 0, .int 0, .int 0])) (.inr (9, [.ref 150, .ref 151, .ref 152, .int 0, .ref 153, .int 0, .int 1, .int 0, .int 0, .int 0, .int 0, .int 0, .int 1, .ref 154, .ref 155, .ref 156, .ref 157, .int 0, .int 0, .int 0, .ref 158, .ref 159, .ref 160, .ref 161, .ref 162, .int 0])) (fun _ => 0) w (fun _ => 0)) _ _
  refine xi_istore_n (lv' := [(2, .int 1), (0, .ref 149), (1, .int 1)]) dX12_readsNet_17 (by decide) rfl ?_
  refine xi_aload_n 1 dX12_readsNet_18 rfl ?_
  refine xi_callV (as := []) (rest := []) dX12_readsNet_19 (au_27 G w) mkX12_passes w_1164 ws_46 w_1162 rfl rfl rfl rfl rfl (Nat.le_of_ble_eq_true rfl) (Nat.le_of_ble_eq_true rfl) (Nat.le_of_ble_eq_true rfl) (Nat.le_of_ble_eq_true rfl) (Nat.le_of_ble_eq_true rfl) ?_
  intro v M2 hq
  obtain ⟨rfl, rfl⟩ := hq
  show xW _ _ _ _ 22 _ [] (MX 0 (fun _ => 0) (.inr (6, [.ref 6, .int 1, .int 0, .ref 1, .int 0, .int 0, .int 0, .int 0])) (.inr (9, [.ref 150, .ref 151, .ref 152, .int 0, .ref 153, .int 0, .int 1, .int 0, .int 0, .int 0, .int 0, .int 0, .int 1, .ref 154, .ref 155, .ref 156, .ref 157, .int 0, .int 0, .int 0, .ref 158, .ref 159, .ref 160, .ref 161, .ref 162, .int 0])) (fun _ => 0) w (fun _ => 0)) _ _
  refine xi_aload_n 1 dX12_readsNet_22 rfl ?_
  refine xi_iload_n 2 dX12_readsNet_23 rfl ?_
  refine xi_callV (as := [.int 1]) (rest := []) dX12_readsNet_24 (fm_empties_1 G (fun _ => 0) w) mkX12_empties w_1116 ws_38 w_1114 rfl rfl rfl rfl rfl (Nat.le_of_ble_eq_true rfl) (Nat.le_of_ble_eq_true rfl) (Nat.le_of_ble_eq_true rfl) (Nat.le_of_ble_eq_true rfl) (Nat.le_of_ble_eq_true rfl) ?_
  intro v M2 hq
  obtain ⟨rfl, g, rfl⟩ := hq
  show xW _ _ _ _ 27 _ [] (MX 0 (fun _ => 0) (.inr (6, [.ref 6, .int 1, .int 0, .ref 1, .int 0, .int 0, .int 0, .int 0])) (.inr (9, [.ref 150, .ref 151, .ref 152, .int 0, .ref 153, .int 0, .int 1, .int 0, .int 0, .int 0, .int 0, .int 0, .int 1, .ref 154, .ref 155, .ref 156, .ref 157, .int 0, .int 0, .int 0, .ref 158, .ref 159, .ref 160, .ref 161, .ref 162, .int 0])) g w (fun _ => 0)) _ _
  refine xi_aload_n 1 dX12_readsNet_27 rfl ?_
  refine xi_get (f := 0) dX12_readsNet_28 rfl rfl ok_9 (by decide) w_1008 rfl ?_
  refine xi_bipush (v := 91) dX12_readsNet_31 (by decide) ?_
  refine xi_iload_n 2 dX12_readsNet_33 rfl ?_
  refine xi_imul (v := 91) dX12_readsNet_34 (by decide) ?_
  refine xi_iload_n 0 dX12_readsNet_35 rfl ?_
  refine xi_iastore (M' := (MX 0 (fun _ => 0) (.inr (6, [.ref 6, .int 1, .int 0, .ref 1, .int 0, .int 0, .int 0, .int 0])) (.inr (9, [.ref 150, .ref 151, .ref 152, .int 0, .ref 153, .int 0, .int 1, .int 0, .int 0, .int 0, .int 0, .int 0, .int 1, .ref 154, .ref 155, .ref 156, .ref 157, .int 0, .int 0, .int 0, .ref 158, .ref 159, .ref 160, .ref 161, .ref 162, .int 0])) (upd g 91 1) w (fun _ => 0))) dX12_readsNet_36 rfl (by unfold vp_in; decide) rfl ?_
  refine xi_iconst (v := 0) dX12_readsNet_37 (by decide) ?_
  refine xi_istore_n (lv' := [(3, .int 0), (2, .int 1), (0, .ref 149), (1, .int 1)]) dX12_readsNet_38 (by decide) rfl ?_
  refine xi_iload_n 0 dX12_readsNet_39 rfl ?_
  refine xi_iload_n 1 dX12_readsNet_40 rfl ?_
  refine xi_icmp_ge_f (tgt := 57) dX12_readsNet_41 (by decide) (by decide) ?_
  refine xi_aload_n 2 dX12_readsNet_44 rfl ?_
  refine xi_iload_n 3 dX12_readsNet_45 rfl ?_
  refine xi_iload_n 0 dX12_readsNet_46 rfl ?_
  refine xi_iload_n 0 dX12_readsNet_47 rfl ?_
  refine xi_callV (as := [.int 1, .int 0, .int 0]) (rest := []) dX12_readsNet_48 (au_41 G g w) mkX12_puts w_1172 ws_48 w_1170 rfl rfl rfl rfl rfl (Nat.le_of_ble_eq_true rfl) (Nat.le_of_ble_eq_true rfl) (Nat.le_of_ble_eq_true rfl) (Nat.le_of_ble_eq_true rfl) (Nat.le_of_ble_eq_true rfl) ?_
  intro v M2 hq
  obtain ⟨rfl, rfl⟩ := hq
  show xW _ _ _ _ 51 _ [] (MX 0 (fun _ => 0) (.inr (6, [.ref 6, .int 1, .int 0, .ref 1, .int 0, .int 0, .int 0, .int 0])) (.inr (9, [.ref 150, .ref 151, .ref 152, .int 0, .ref 153, .int 0, .int 1, .int 0, .int 0, .int 0, .int 0, .int 0, .int 1, .ref 154, .ref 155, .ref 156, .ref 157, .int 0, .int 0, .int 0, .ref 158, .ref 159, .ref 160, .ref 161, .ref 162, .int 0])) (upd (upd g 91 1) 173 0) w (fun _ => 0)) _ _
  refine xi_iinc (v := 1) (lv' := [(3, .int 1), (2, .int 1), (0, .ref 149), (1, .int 1)]) 0 dX12_readsNet_51 rfl (by decide) (by decide) rfl ?_
  refine xi_goto (tgt := 39) dX12_readsNet_54 (by decide) ?_
  refine xi_iload_n 0 dX12_readsNet_39 rfl ?_
  refine xi_iload_n 1 dX12_readsNet_40 rfl ?_
  refine xi_icmp_ge_t (tgt := 57) dX12_readsNet_41 (by decide) (by decide) ?_
  refine xi_aload_n 2 dX12_readsNet_57 rfl ?_
  refine xi_bipush (v := 58) dX12_readsNet_58 (by decide) ?_
  refine xi_callV (as := [.int 58]) (rest := []) dX12_readsNet_60 (au_42 G g w) mkX12_isSign w_1176 ws_49 w_1174 rfl rfl rfl rfl rfl (Nat.le_of_ble_eq_true rfl) (Nat.le_of_ble_eq_true rfl) (Nat.le_of_ble_eq_true rfl) (Nat.le_of_ble_eq_true rfl) (Nat.le_of_ble_eq_true rfl) ?_
  intro v M2 hq
  obtain ⟨rfl, rfl⟩ := hq
  show xW _ _ _ _ 63 _ [.int 0] (MX 0 (fun _ => 0) (.inr (6, [.ref 6, .int 1, .int 0, .ref 1, .int 0, .int 0, .int 0, .int 0])) (.inr (9, [.ref 150, .ref 151, .ref 152, .int 0, .ref 153, .int 0, .int 1, .int 0, .int 0, .int 0, .int 0, .int 0, .int 1, .ref 154, .ref 155, .ref 156, .ref 157, .int 0, .int 0, .int 0, .ref 158, .ref 159, .ref 160, .ref 161, .ref 162, .int 0])) (upd (upd g 91 1) 173 0) w (fun _ => 0)) _ _
  refine xi_if_eq_t (tgt := 96) dX12_readsNet_63 (by decide) (by decide) ?_
  refine xi_aload_n 2 dX12_readsNet_96 rfl ?_
  refine xi_aload_n 2 dX12_readsNet_97 rfl ?_
  refine xi_bipush (v := 59) dX12_readsNet_98 (by decide) ?_
  refine xi_callV (as := [.int 59]) (rest := [.ref 149]) dX12_readsNet_100 (au_43 G g w) mkX12_isSign w_1176 ws_49 w_1174 rfl rfl rfl rfl rfl (Nat.le_of_ble_eq_true rfl) (Nat.le_of_ble_eq_true rfl) (Nat.le_of_ble_eq_true rfl) (Nat.le_of_ble_eq_true rfl) (Nat.le_of_ble_eq_true rfl) ?_
  intro v M2 hq
  obtain ⟨rfl, rfl⟩ := hq
  show xW _ _ _ _ 103 _ [.int 0, .ref 149] (MX 0 (fun _ => 0) (.inr (6, [.ref 6, .int 1, .int 0, .ref 1, .int 0, .int 0, .int 0, .int 0])) (.inr (9, [.ref 150, .ref 151, .ref 152, .int 0, .ref 153, .int 0, .int 1, .int 0, .int 0, .int 0, .int 0, .int 0, .int 1, .ref 154, .ref 155, .ref 156, .ref 157, .int 0, .int 0, .int 0, .ref 158, .ref 159, .ref 160, .ref 161, .ref 162, .int 0])) (upd (upd g 91 1) 173 0) w (fun _ => 0)) _ _
  refine xi_callV (as := [.int 0]) (rest := []) dX12_readsNet_103 (au_46 G g w) mkX12_must w_1156 ws_44 w_1154 rfl rfl rfl rfl rfl (Nat.le_of_ble_eq_true rfl) (Nat.le_of_ble_eq_true rfl) (Nat.le_of_ble_eq_true rfl) (Nat.le_of_ble_eq_true rfl) (Nat.le_of_ble_eq_true rfl) ?_
  intro v M2 hq
  obtain ⟨rfl, rfl⟩ := hq
  show xW _ _ _ _ 106 _ [] (MX 0 (fun _ => 0) (.inr (6, [.ref 6, .int 1, .int 0, .ref 1, .int 0, .int 0, .int 0, .int 0])) (.inr (9, [.ref 150, .ref 151, .ref 152, .int 0, .ref 153, .int 0, .int 1, .int 0, .int 0, .int 0, .int 0, .int 0, .int 1, .ref 154, .ref 155, .ref 156, .ref 157, .int 0, .int 0, .int 0, .ref 158, .ref 159, .ref 160, .ref 161, .ref 162, .int 0])) (upd (upd g 91 1) 173 0) w (fun _ => 0)) _ _
  refine xi_aload_n 2 dX12_readsNet_106 rfl ?_
  refine xi_ldcS (w := 5) dX12_readsNet_107 st_5 rfl ?_
  refine xi_callV (as := [.float 5]) (rest := []) dX12_readsNet_109 (au_49 G g w) mkX12_isWord w_1150 ws_43 w_1148 rfl rfl rfl rfl rfl (Nat.le_of_ble_eq_true rfl) (Nat.le_of_ble_eq_true rfl) (Nat.le_of_ble_eq_true rfl) (Nat.le_of_ble_eq_true rfl) (Nat.le_of_ble_eq_true rfl) ?_
  intro v M2 hq
  obtain ⟨rfl, rfl⟩ := hq
  show xW _ _ _ _ 112 _ [.int 0] (MX 0 (fun _ => 0) (.inr (6, [.ref 6, .int 1, .int 0, .ref 1, .int 0, .int 0, .int 0, .int 0])) (.inr (9, [.ref 150, .ref 151, .ref 152, .int 0, .ref 153, .int 0, .int 1, .int 0, .int 0, .int 0, .int 0, .int 0, .int 1, .ref 154, .ref 155, .ref 156, .ref 157, .int 0, .int 0, .int 0, .ref 158, .ref 159, .ref 160, .ref 161, .ref 162, .int 0])) (upd (upd g 91 1) 173 0) w (fun _ => 0)) _ _
  refine xi_if_eq_t (tgt := 120) dX12_readsNet_112 (by decide) (by decide) ?_
  refine xi_aload_n 2 dX12_readsNet_120 rfl ?_
  refine xi_get (f := 12) dX12_readsNet_121 rfl rfl ok_9 (by decide) w_1020 rfl ?_
  refine xi_if_ne_t (tgt := 139) dX12_readsNet_124 (by decide) (by decide) ?_
  exact xi_vret dX12_readsNet_139 rfl (Nat.le_of_ble_eq_true rfl) (Nat.le_of_ble_eq_true rfl) ⟨rfl, _, rfl⟩
set_option maxHeartbeats 4000000 in
set_option maxRecDepth 100000 in
theorem fm_told_loop_1 (G : xG) (w : Nat → Int32) : ∀ (j i : Nat) (g : Nat → Int32), i + j = 273 → xW G mX12_told (xrm 4 0 0) (xQ G (fun v M2 => v = some (.int (-4)) ∧ True) 0 0) 57 [(2, .int (nI i)), (0, .ref 149), (1, .int 1)] [] (MX 0 (fun _ => 0) (.inr (6, [.ref 6, .int 1, .int 0, .ref 1, .int 0, .int 0, .int 0, .int 0])) (.inr (9, [.ref 150, .ref 151, .ref 152, .int 0, .ref 153, .int 0, .int 1, .int 0, .int 0, .int 0, .int 0, .int 0, .int 1, .ref 154, .ref 155, .ref 156, .ref 157, .int 0, .int 0, .int 0, .ref 158, .ref 159, .ref 160, .ref 161, .ref 162, .int 0])) g w (fun _ => 0)) 0 0 := by
  intro j
  induction j with
  | zero =>
    intro i g hi
    have e : i = 273 := by omega
    subst e
    refine xi_iload_n 0 dX12_told_57 rfl ?_
    refine xi_sipush (v := 273) dX12_told_58 (by decide) ?_
    refine xi_icmp_ge_t (tgt := 82) dX12_told_61 (by decide) (by decide) ?_
    refine xi_bipush (v := (-4)) dX12_told_82 (by decide) ?_
    exact xi_iret dX12_told_84 rfl rfl (Nat.le_of_ble_eq_true rfl) (Nat.le_of_ble_eq_true rfl) ⟨rfl, trivial⟩
  | succ j ih =>
    intro i g hi
    have hlt : ¬ (273 : Int32) ≤ nI i := nI_ge (a := i) (b := 273) (by omega) (by decide)
    have hi2 : i < 273 := by omega
    refine xi_iload_n 0 dX12_told_57 rfl ?_
    refine xi_sipush (v := 273) dX12_told_58 (by decide) ?_
    refine xi_icmp_ge_f (tgt := 82) dX12_told_61 (by decide) hlt ?_
    refine xi_aload_n 1 dX12_told_64 rfl ?_
    refine xi_get (f := 0) dX12_told_65 rfl rfl ok_9 (by decide) w_1008 rfl ?_
    refine xi_iload_n 0 dX12_told_68 rfl ?_
    refine xi_aload_n 1 dX12_told_69 rfl ?_
    refine xi_get (f := 1) dX12_told_70 rfl rfl ok_9 (by decide) w_1009 rfl ?_
    refine xi_iload_n 0 dX12_told_73 rfl ?_
    refine xi_iaload (v := (w (nI i).toNatClampNeg)) dX12_told_74 rfl (vp_in_nI (by omega) (by decide)) rfl ?_
    refine xi_iastore (M' := (MX 0 (fun _ => 0) (.inr (6, [.ref 6, .int 1, .int 0, .ref 1, .int 0, .int 0, .int 0, .int 0])) (.inr (9, [.ref 150, .ref 151, .ref 152, .int 0, .ref 153, .int 0, .int 1, .int 0, .int 0, .int 0, .int 0, .int 0, .int 1, .ref 154, .ref 155, .ref 156, .ref 157, .int 0, .int 0, .int 0, .ref 158, .ref 159, .ref 160, .ref 161, .ref 162, .int 0])) (upd g (nI i).toNatClampNeg (w (nI i).toNatClampNeg)) w (fun _ => 0))) dX12_told_75 rfl (vp_in_nI (by omega) (by decide)) rfl ?_
    refine xi_iinc (v := ((nI i) + Int32.ofInt 1)) (lv' := [(2, .int ((nI i) + Int32.ofInt 1)), (0, .ref 149), (1, .int 1)]) 0 dX12_told_76 rfl rfl (by decide) rfl ?_
    refine xi_goto (tgt := 57) dX12_told_79 (by decide) ?_
    rw [show nI i + Int32.ofInt 1 = nI (i + 1) from nI_1 i]
    exact ih (i + 1) _ (by omega)
set_option maxHeartbeats 4000000 in
set_option maxRecDepth 100000 in
theorem fm_told_1 (G : xG) : xC G mX12_told 4 0 0 [.ref 149, .int 1] (MX 0 (fun _ => 0) (.inr (6, [.ref 6, .int 1, .int 0, .ref 1, .int 0, .int 0, .int 0, .int 0])) mo0 (fun _ => 0) (fun _ => 0) (fun _ => 0)) (fun v M2 => v = some (.int (-4)) ∧ True) := by
  refine xC.of (by decide) (Nat.le_of_ble_eq_true rfl) ?_
  show xW _ _ _ _ 0 [(0, .ref 149), (1, .int 1)] [] _ 0 0
  refine xi_iload_n 1 dX12_told_0 rfl ?_
  refine xi_callS (as := [.int 1]) (rest := []) dX12_told_1 (au_40 G) mkX12_isSlot w_1096 w_1095 rfl rfl (Nat.le_of_ble_eq_true rfl) (Nat.le_of_ble_eq_true rfl) (Nat.le_of_ble_eq_true rfl) (Nat.le_of_ble_eq_true rfl) (Nat.le_of_ble_eq_true rfl) ?_
  intro v M2 hq
  obtain ⟨rfl, rfl⟩ := hq
  show xW _ _ _ _ 4 _ [.int 1] (MX 0 (fun _ => 0) (.inr (6, [.ref 6, .int 1, .int 0, .ref 1, .int 0, .int 0, .int 0, .int 0])) mo0 (fun _ => 0) (fun _ => 0) (fun _ => 0)) _ _
  refine xi_if_ne_t (tgt := 10) dX12_told_4 (by decide) (by decide) ?_
  refine xi_aload_n 0 dX12_told_10 rfl ?_
  refine xi_iconst (v := 0) dX12_told_11 (by decide) ?_
  refine xi_put (f := 6) (ty := .int) (M' := (MX 0 (fun _ => 0) (.inr (6, [.ref 6, .int 1, .int 0, .ref 1, .int 0, .int 0, .int 0, .int 0])) mo0 (fun _ => 0) (fun _ => 0) (fun _ => 0))) dX12_told_12 rfl rfl ok_9 (by decide) w_1014 rfl pf_I (fun _ h => by cases h) rfl rfl (Nat.le_of_ble_eq_true rfl) rfl ?_
  refine xi_aload_n 0 dX12_told_15 rfl ?_
  refine xi_iconst (v := (-1)) dX12_told_16 (by decide) ?_
  refine xi_put (f := 7) (ty := .int) (M' := (MX 0 (fun _ => 0) (.inr (6, [.ref 6, .int 1, .int 0, .ref 1, .int 0, .int 0, .int 0, .int 0])) mo0 (fun _ => 0) (fun _ => 0) (fun _ => 0))) dX12_told_17 rfl rfl ok_9 (by decide) w_1015 rfl pf_I (fun _ h => by cases h) rfl rfl (Nat.le_of_ble_eq_true rfl) rfl ?_
  refine xi_aload_n 0 dX12_told_20 rfl ?_
  refine xi_iconst (v := 0) dX12_told_21 (by decide) ?_
  refine xi_put (f := 12) (ty := .boolean) (M' := (MX 0 (fun _ => 0) (.inr (6, [.ref 6, .int 1, .int 0, .ref 1, .int 0, .int 0, .int 0, .int 0])) mo0 (fun _ => 0) (fun _ => 0) (fun _ => 0))) dX12_told_22 rfl rfl ok_9 (by decide) w_1020 rfl pf_Z (fun _ h => by cases h) rfl rfl (Nat.le_of_ble_eq_true rfl) rfl ?_
  refine xi_aload_n 0 dX12_told_25 rfl ?_
  refine xi_iconst (v := 0) dX12_told_26 (by decide) ?_
  refine xi_put (f := 8) (ty := .int) (M' := (MX 0 (fun _ => 0) (.inr (6, [.ref 6, .int 1, .int 0, .ref 1, .int 0, .int 0, .int 0, .int 0])) mo0 (fun _ => 0) (fun _ => 0) (fun _ => 0))) dX12_told_27 rfl rfl ok_9 (by decide) w_1016 rfl pf_I (fun _ h => by cases h) rfl rfl (Nat.le_of_ble_eq_true rfl) rfl ?_
  refine xi_aload_n 0 dX12_told_30 rfl ?_
  refine xi_callV (as := []) (rest := []) dX12_told_31 (fm_remembers G (fun _ => 0) (fun _ => 0)) mkX12_remembers w_1112 ws_37 w_1110 rfl rfl rfl rfl rfl (Nat.le_of_ble_eq_true rfl) (Nat.le_of_ble_eq_true rfl) (Nat.le_of_ble_eq_true rfl) (Nat.le_of_ble_eq_true rfl) (Nat.le_of_ble_eq_true rfl) ?_
  intro v M2 hq
  obtain ⟨rfl, w, rfl⟩ := hq
  show xW _ _ _ _ 34 _ [] (MX 0 (fun _ => 0) (.inr (6, [.ref 6, .int 1, .int 0, .ref 1, .int 0, .int 0, .int 0, .int 0])) mo0 (fun _ => 0) w (fun _ => 0)) _ _
  refine xi_aload_n 0 dX12_told_34 rfl ?_
  refine xi_callV (as := []) (rest := []) dX12_told_35 (au_22 G w) mkX12_next w_1136 ws_40 w_1134 rfl rfl rfl rfl rfl (Nat.le_of_ble_eq_true rfl) (Nat.le_of_ble_eq_true rfl) (Nat.le_of_ble_eq_true rfl) (Nat.le_of_ble_eq_true rfl) (Nat.le_of_ble_eq_true rfl) ?_
  intro v M2 hq
  obtain ⟨rfl, rfl⟩ := hq
  show xW _ _ _ _ 38 _ [] (MX 0 (fun _ => 0) (.inr (6, [.ref 6, .int 1, .int 0, .ref 1, .int 0, .int 0, .int 0, .int 0])) mo0 (fun _ => 0) w (fun _ => 0)) _ _
  refine xi_aload_n 0 dX12_told_38 rfl ?_
  refine xi_iload_n 1 dX12_told_39 rfl ?_
  refine xi_callV (as := [.int 1]) (rest := []) dX12_told_40 (fm_readsNet_1 G w) mkX12_readsNet w_1145 ws_42 w_1143 rfl rfl rfl rfl rfl (Nat.le_of_ble_eq_true rfl) (Nat.le_of_ble_eq_true rfl) (Nat.le_of_ble_eq_true rfl) (Nat.le_of_ble_eq_true rfl) (Nat.le_of_ble_eq_true rfl) ?_
  intro v M2 hq
  obtain ⟨rfl, g, rfl⟩ := hq
  show xW _ _ _ _ 43 _ [] (MX 0 (fun _ => 0) (.inr (6, [.ref 6, .int 1, .int 0, .ref 1, .int 0, .int 0, .int 0, .int 0])) (.inr (9, [.ref 150, .ref 151, .ref 152, .int 0, .ref 153, .int 0, .int 1, .int 0, .int 0, .int 0, .int 0, .int 0, .int 1, .ref 154, .ref 155, .ref 156, .ref 157, .int 0, .int 0, .int 0, .ref 158, .ref 159, .ref 160, .ref 161, .ref 162, .int 0])) g w (fun _ => 0)) _ _
  refine xi_aload_n 0 dX12_told_43 rfl ?_
  refine xi_iconst (v := 0) dX12_told_44 (by decide) ?_
  refine xi_put (f := 5) (ty := .int) (M' := (MX 0 (fun _ => 0) (.inr (6, [.ref 6, .int 1, .int 0, .ref 1, .int 0, .int 0, .int 0, .int 0])) (.inr (9, [.ref 150, .ref 151, .ref 152, .int 0, .ref 153, .int 0, .int 1, .int 0, .int 0, .int 0, .int 0, .int 0, .int 1, .ref 154, .ref 155, .ref 156, .ref 157, .int 0, .int 0, .int 0, .ref 158, .ref 159, .ref 160, .ref 161, .ref 162, .int 0])) g w (fun _ => 0))) dX12_told_45 rfl rfl ok_9 (by decide) w_1013 rfl pf_I (fun _ h => by cases h) rfl rfl (Nat.le_of_ble_eq_true rfl) rfl ?_
  refine xi_aload_n 0 dX12_told_48 rfl ?_
  refine xi_get (f := 12) dX12_told_49 rfl rfl ok_9 (by decide) w_1020 rfl ?_
  refine xi_if_eq_f (tgt := 85) dX12_told_52 (by decide) (by decide) ?_
  refine xi_iconst (v := 0) dX12_told_55 (by decide) ?_
  refine xi_istore_n (lv' := [(2, .int 0), (0, .ref 149), (1, .int 1)]) dX12_told_56 (by decide) rfl ?_
  exact fm_told_loop_1 G w 273 0 g rfl
set_option maxHeartbeats 4000000 in
set_option maxRecDepth 100000 in
theorem au_50 (G : xG) : xC G mX12_in 0 0 0 [.long 2, .long 0, .long 2] (MX 0 (fun _ => 0) (.inr (6, [.ref 6, .int 1, .int 0, .ref 1, .int 0, .int 0, .int 0, .int 0])) mo0 (fun _ => 0) (fun _ => 0) (fun _ => 0)) (fun v M2 => v = some (.int 1) ∧ M2 = (MX 0 (fun _ => 0) (.inr (6, [.ref 6, .int 1, .int 0, .ref 1, .int 0, .int 0, .int 0, .int 0])) mo0 (fun _ => 0) (fun _ => 0) (fun _ => 0))) := by
  refine xC.of (by decide) (Nat.le_of_ble_eq_true rfl) ?_
  show xW _ _ _ _ 0 [(0, .long 2), (2, .long 0), (4, .long 2)] [] _ 0 0
  refine xi_lload_n 0 dX12_in_0 rfl ?_
  refine xi_lload_n 1 dX12_in_1 rfl ?_
  refine xi_lcmp (v := 1) dX12_in_2 (by decide) ?_
  refine xi_if_lt_f (tgt := 17) dX12_in_3 (by decide) (by decide) ?_
  refine xi_lload_n 0 dX12_in_6 rfl ?_
  refine xi_lload 2 dX12_in_7 rfl ?_
  refine xi_lcmp (v := 0) dX12_in_9 (by decide) ?_
  refine xi_if_gt_f (tgt := 17) dX12_in_10 (by decide) (by decide) ?_
  refine xi_iconst (v := 1) dX12_in_13 (by decide) ?_
  refine xi_goto (tgt := 18) dX12_in_14 (by decide) ?_
  exact xi_iret dX12_in_18 rfl (by decide) (Nat.le_of_ble_eq_true rfl) (Nat.le_of_ble_eq_true rfl) ⟨rfl, rfl⟩
set_option maxHeartbeats 4000000 in
set_option maxRecDepth 100000 in
theorem au_51 (G : xG) : xC G mX12_isSlot 1 0 0 [.int 2] (MX 0 (fun _ => 0) (.inr (6, [.ref 6, .int 1, .int 0, .ref 1, .int 0, .int 0, .int 0, .int 0])) mo0 (fun _ => 0) (fun _ => 0) (fun _ => 0)) (fun v M2 => v = some (.int 1) ∧ M2 = (MX 0 (fun _ => 0) (.inr (6, [.ref 6, .int 1, .int 0, .ref 1, .int 0, .int 0, .int 0, .int 0])) mo0 (fun _ => 0) (fun _ => 0) (fun _ => 0))) := by
  refine xC.of (by decide) (Nat.le_of_ble_eq_true rfl) ?_
  show xW _ _ _ _ 0 [(0, .int 2)] [] _ 0 0
  refine xi_iload_n 0 dX12_isSlot_0 rfl ?_
  refine xi_i2l (v := 2) dX12_isSlot_1 (by decide) ?_
  refine xi_lconst (v := 0) dX12_isSlot_2 (by decide) ?_
  refine xi_ldc2 (v := 2) dX12_isSlot_3 w_1098 ?_
  refine xi_callS (as := [.long 2, .long 0, .long 2]) (rest := []) dX12_isSlot_6 (au_50 G) mkX12_in w_1100 w_1099 rfl rfl (Nat.le_of_ble_eq_true rfl) (Nat.le_of_ble_eq_true rfl) (Nat.le_of_ble_eq_true rfl) (Nat.le_of_ble_eq_true rfl) (Nat.le_of_ble_eq_true rfl) ?_
  intro v M2 hq
  obtain ⟨rfl, rfl⟩ := hq
  show xW _ _ _ _ 9 _ [.int 1] (MX 0 (fun _ => 0) (.inr (6, [.ref 6, .int 1, .int 0, .ref 1, .int 0, .int 0, .int 0, .int 0])) mo0 (fun _ => 0) (fun _ => 0) (fun _ => 0)) _ _
  exact xi_iret dX12_isSlot_9 rfl (by decide) (Nat.le_of_ble_eq_true rfl) (Nat.le_of_ble_eq_true rfl) ⟨rfl, rfl⟩
set_option maxHeartbeats 4000000 in
set_option maxRecDepth 100000 in
theorem fm_empties_2_loop (G : xG) (w : Nat → Int32) : ∀ (j i : Nat) (g : Nat → Int32), i + j = 91 → xW G mX12_empties (xrm 0 0 0) (xQ G (fun v M2 => v = none ∧ ∃ g2, M2 = (MX 0 (fun _ => 0) (.inr (6, [.ref 6, .int 1, .int 0, .ref 1, .int 0, .int 0, .int 0, .int 0])) (.inr (9, [.ref 150, .ref 151, .ref 152, .int 0, .ref 153, .int 0, .int 1, .int 0, .int 0, .int 0, .int 0, .int 0, .int 1, .ref 154, .ref 155, .ref 156, .ref 157, .int 0, .int 0, .int 0, .ref 158, .ref 159, .ref 160, .ref 161, .ref 162, .int 0])) g2 w (fun _ => 0))) 0 0) 2 [(2, .int (nI i)), (0, .ref 149), (1, .int 2)] [] (MX 0 (fun _ => 0) (.inr (6, [.ref 6, .int 1, .int 0, .ref 1, .int 0, .int 0, .int 0, .int 0])) (.inr (9, [.ref 150, .ref 151, .ref 152, .int 0, .ref 153, .int 0, .int 1, .int 0, .int 0, .int 0, .int 0, .int 0, .int 1, .ref 154, .ref 155, .ref 156, .ref 157, .int 0, .int 0, .int 0, .ref 158, .ref 159, .ref 160, .ref 161, .ref 162, .int 0])) g w (fun _ => 0)) 0 0 := by
  intro j
  induction j with
  | zero =>
    intro i g hi
    have e : i = 91 := by omega
    subst e
    refine xi_iload_n 0 dX12_empties_2 rfl ?_
    refine xi_bipush (v := 91) dX12_empties_3 (by decide) ?_
    refine xi_icmp_ge_t (tgt := 26) dX12_empties_5 (by decide) (by decide) ?_
    exact xi_vret dX12_empties_26 rfl (Nat.le_of_ble_eq_true rfl) (Nat.le_of_ble_eq_true rfl) ⟨rfl, _, rfl⟩
  | succ j ih =>
    intro i g hi
    have hlt : ¬ (91 : Int32) ≤ nI i := nI_ge (a := i) (b := 91) (by omega) (by decide)
    have hi2 : i < 91 := by omega
    refine xi_iload_n 0 dX12_empties_2 rfl ?_
    refine xi_bipush (v := 91) dX12_empties_3 (by decide) ?_
    refine xi_icmp_ge_f (tgt := 26) dX12_empties_5 (by decide) hlt ?_
    refine xi_aload_n 1 dX12_empties_8 rfl ?_
    refine xi_get (f := 0) dX12_empties_9 rfl rfl ok_9 (by decide) w_1008 rfl ?_
    refine xi_bipush (v := 91) dX12_empties_12 (by decide) ?_
    refine xi_iload_n 2 dX12_empties_14 rfl ?_
    refine xi_imul (v := 182) dX12_empties_15 (by decide) ?_
    refine xi_iload_n 0 dX12_empties_16 rfl ?_
    refine xi_iadd dX12_empties_17 rfl ?_
    refine xi_iconst (v := 0) dX12_empties_18 (by decide) ?_
    refine xi_iastore (M' := (MX 0 (fun _ => 0) (.inr (6, [.ref 6, .int 1, .int 0, .ref 1, .int 0, .int 0, .int 0, .int 0])) (.inr (9, [.ref 150, .ref 151, .ref 152, .int 0, .ref 153, .int 0, .int 1, .int 0, .int 0, .int 0, .int 0, .int 0, .int 1, .ref 154, .ref 155, .ref 156, .ref 157, .int 0, .int 0, .int 0, .ref 158, .ref 159, .ref 160, .ref 161, .ref 162, .int 0])) (upd g (182 + (nI i)).toNatClampNeg 0) w (fun _ => 0))) dX12_empties_19 rfl (by rw [show (182 : Int32) + nI i = nI (182 + i) from nI_add 182 i]; exact vp_in_nI (by omega) (by decide)) rfl ?_
    refine xi_iinc (v := ((nI i) + Int32.ofInt 1)) (lv' := [(2, .int ((nI i) + Int32.ofInt 1)), (0, .ref 149), (1, .int 2)]) 0 dX12_empties_20 rfl rfl (by decide) rfl ?_
    refine xi_goto (tgt := 2) dX12_empties_23 (by decide) ?_
    rw [show nI i + Int32.ofInt 1 = nI (i + 1) from nI_1 i]
    exact ih (i + 1) _ (by omega)
set_option maxHeartbeats 4000000 in
set_option maxRecDepth 100000 in
theorem fm_empties_2 (G : xG) (g w : Nat → Int32) : xC G mX12_empties 0 0 0 [.ref 149, .int 2] (MX 0 (fun _ => 0) (.inr (6, [.ref 6, .int 1, .int 0, .ref 1, .int 0, .int 0, .int 0, .int 0])) (.inr (9, [.ref 150, .ref 151, .ref 152, .int 0, .ref 153, .int 0, .int 1, .int 0, .int 0, .int 0, .int 0, .int 0, .int 1, .ref 154, .ref 155, .ref 156, .ref 157, .int 0, .int 0, .int 0, .ref 158, .ref 159, .ref 160, .ref 161, .ref 162, .int 0])) g w (fun _ => 0)) (fun v M2 => v = none ∧ ∃ g2, M2 = (MX 0 (fun _ => 0) (.inr (6, [.ref 6, .int 1, .int 0, .ref 1, .int 0, .int 0, .int 0, .int 0])) (.inr (9, [.ref 150, .ref 151, .ref 152, .int 0, .ref 153, .int 0, .int 1, .int 0, .int 0, .int 0, .int 0, .int 0, .int 1, .ref 154, .ref 155, .ref 156, .ref 157, .int 0, .int 0, .int 0, .ref 158, .ref 159, .ref 160, .ref 161, .ref 162, .int 0])) g2 w (fun _ => 0))) := by
  refine xC.of (by decide) (Nat.le_of_ble_eq_true rfl) ?_
  show xW _ _ _ _ 0 [(0, .ref 149), (1, .int 2)] [] _ 0 0
  refine xi_iconst (v := 0) dX12_empties_0 (by decide) ?_
  refine xi_istore_n (lv' := [(2, .int 0), (0, .ref 149), (1, .int 2)]) dX12_empties_1 (by decide) rfl ?_
  exact fm_empties_2_loop G w 91 0 g rfl
set_option maxHeartbeats 4000000 in
set_option maxRecDepth 100000 in
theorem au_52 (G : xG) (g w : Nat → Int32) : xC G mX12_puts 0 0 0 [.ref 149, .int 2, .int 0, .int 0] (MX 0 (fun _ => 0) (.inr (6, [.ref 6, .int 1, .int 0, .ref 1, .int 0, .int 0, .int 0, .int 0])) (.inr (9, [.ref 150, .ref 151, .ref 152, .int 0, .ref 153, .int 0, .int 1, .int 0, .int 0, .int 0, .int 0, .int 0, .int 1, .ref 154, .ref 155, .ref 156, .ref 157, .int 0, .int 0, .int 0, .ref 158, .ref 159, .ref 160, .ref 161, .ref 162, .int 0])) (upd g 182 1) w (fun _ => 0)) (fun v M2 => v = none ∧ M2 = (MX 0 (fun _ => 0) (.inr (6, [.ref 6, .int 1, .int 0, .ref 1, .int 0, .int 0, .int 0, .int 0])) (.inr (9, [.ref 150, .ref 151, .ref 152, .int 0, .ref 153, .int 0, .int 1, .int 0, .int 0, .int 0, .int 0, .int 0, .int 1, .ref 154, .ref 155, .ref 156, .ref 157, .int 0, .int 0, .int 0, .ref 158, .ref 159, .ref 160, .ref 161, .ref 162, .int 0])) (upd (upd g 182 1) 264 0) w (fun _ => 0))) := by
  refine xC.of (by decide) (Nat.le_of_ble_eq_true rfl) ?_
  show xW _ _ _ _ 0 [(0, .ref 149), (1, .int 2), (2, .int 0), (3, .int 0)] [] _ 0 0
  refine xi_aload_n 0 dX12_puts_0 rfl ?_
  refine xi_get (f := 0) dX12_puts_1 rfl rfl ok_9 (by decide) w_1008 rfl ?_
  refine xi_bipush (v := 91) dX12_puts_4 (by decide) ?_
  refine xi_iload_n 1 dX12_puts_6 rfl ?_
  refine xi_imul (v := 182) dX12_puts_7 (by decide) ?_
  refine xi_bipush (v := 82) dX12_puts_8 (by decide) ?_
  refine xi_iadd (v := 264) dX12_puts_10 (by decide) ?_
  refine xi_iload_n 2 dX12_puts_11 rfl ?_
  refine xi_iadd (v := 264) dX12_puts_12 (by decide) ?_
  refine xi_iload_n 3 dX12_puts_13 rfl ?_
  refine xi_iastore (M' := (MX 0 (fun _ => 0) (.inr (6, [.ref 6, .int 1, .int 0, .ref 1, .int 0, .int 0, .int 0, .int 0])) (.inr (9, [.ref 150, .ref 151, .ref 152, .int 0, .ref 153, .int 0, .int 1, .int 0, .int 0, .int 0, .int 0, .int 0, .int 1, .ref 154, .ref 155, .ref 156, .ref 157, .int 0, .int 0, .int 0, .ref 158, .ref 159, .ref 160, .ref 161, .ref 162, .int 0])) (upd (upd g 182 1) 264 0) w (fun _ => 0))) dX12_puts_14 rfl (by unfold vp_in; decide) rfl ?_
  exact xi_vret dX12_puts_15 rfl (Nat.le_of_ble_eq_true rfl) (Nat.le_of_ble_eq_true rfl) ⟨rfl, rfl⟩
set_option maxHeartbeats 4000000 in
set_option maxRecDepth 100000 in
theorem au_53 (G : xG) (g w : Nat → Int32) : xC G mX12_isSign 0 0 0 [.ref 149, .int 58] (MX 0 (fun _ => 0) (.inr (6, [.ref 6, .int 1, .int 0, .ref 1, .int 0, .int 0, .int 0, .int 0])) (.inr (9, [.ref 150, .ref 151, .ref 152, .int 0, .ref 153, .int 0, .int 1, .int 0, .int 0, .int 0, .int 0, .int 0, .int 1, .ref 154, .ref 155, .ref 156, .ref 157, .int 0, .int 0, .int 0, .ref 158, .ref 159, .ref 160, .ref 161, .ref 162, .int 0])) (upd (upd g 182 1) 264 0) w (fun _ => 0)) (fun v M2 => v = some (.int 0) ∧ M2 = (MX 0 (fun _ => 0) (.inr (6, [.ref 6, .int 1, .int 0, .ref 1, .int 0, .int 0, .int 0, .int 0])) (.inr (9, [.ref 150, .ref 151, .ref 152, .int 0, .ref 153, .int 0, .int 1, .int 0, .int 0, .int 0, .int 0, .int 0, .int 1, .ref 154, .ref 155, .ref 156, .ref 157, .int 0, .int 0, .int 0, .ref 158, .ref 159, .ref 160, .ref 161, .ref 162, .int 0])) (upd (upd g 182 1) 264 0) w (fun _ => 0))) := by
  refine xC.of (by decide) (Nat.le_of_ble_eq_true rfl) ?_
  show xW _ _ _ _ 0 [(0, .ref 149), (1, .int 58)] [] _ 0 0
  refine xi_aload_n 0 dX12_isSign_0 rfl ?_
  refine xi_get (f := 12) dX12_isSign_1 rfl rfl ok_9 (by decide) w_1020 rfl ?_
  refine xi_if_ne_t (tgt := 32) dX12_isSign_4 (by decide) (by decide) ?_
  refine xi_iconst (v := 0) dX12_isSign_32 (by decide) ?_
  exact xi_iret dX12_isSign_33 rfl (by decide) (Nat.le_of_ble_eq_true rfl) (Nat.le_of_ble_eq_true rfl) ⟨rfl, rfl⟩
set_option maxHeartbeats 4000000 in
set_option maxRecDepth 100000 in
theorem au_54 (G : xG) (g w : Nat → Int32) : xC G mX12_isSign 0 0 0 [.ref 149, .int 59] (MX 0 (fun _ => 0) (.inr (6, [.ref 6, .int 1, .int 0, .ref 1, .int 0, .int 0, .int 0, .int 0])) (.inr (9, [.ref 150, .ref 151, .ref 152, .int 0, .ref 153, .int 0, .int 1, .int 0, .int 0, .int 0, .int 0, .int 0, .int 1, .ref 154, .ref 155, .ref 156, .ref 157, .int 0, .int 0, .int 0, .ref 158, .ref 159, .ref 160, .ref 161, .ref 162, .int 0])) (upd (upd g 182 1) 264 0) w (fun _ => 0)) (fun v M2 => v = some (.int 0) ∧ M2 = (MX 0 (fun _ => 0) (.inr (6, [.ref 6, .int 1, .int 0, .ref 1, .int 0, .int 0, .int 0, .int 0])) (.inr (9, [.ref 150, .ref 151, .ref 152, .int 0, .ref 153, .int 0, .int 1, .int 0, .int 0, .int 0, .int 0, .int 0, .int 1, .ref 154, .ref 155, .ref 156, .ref 157, .int 0, .int 0, .int 0, .ref 158, .ref 159, .ref 160, .ref 161, .ref 162, .int 0])) (upd (upd g 182 1) 264 0) w (fun _ => 0))) := by
  refine xC.of (by decide) (Nat.le_of_ble_eq_true rfl) ?_
  show xW _ _ _ _ 0 [(0, .ref 149), (1, .int 59)] [] _ 0 0
  refine xi_aload_n 0 dX12_isSign_0 rfl ?_
  refine xi_get (f := 12) dX12_isSign_1 rfl rfl ok_9 (by decide) w_1020 rfl ?_
  refine xi_if_ne_t (tgt := 32) dX12_isSign_4 (by decide) (by decide) ?_
  refine xi_iconst (v := 0) dX12_isSign_32 (by decide) ?_
  exact xi_iret dX12_isSign_33 rfl (by decide) (Nat.le_of_ble_eq_true rfl) (Nat.le_of_ble_eq_true rfl) ⟨rfl, rfl⟩
set_option maxHeartbeats 4000000 in
set_option maxRecDepth 100000 in
theorem au_55 (G : xG) (g w : Nat → Int32) : xC G mX12_faults 0 0 0 [.ref 149, .int 1] (MX 0 (fun _ => 0) (.inr (6, [.ref 6, .int 1, .int 0, .ref 1, .int 0, .int 0, .int 0, .int 0])) (.inr (9, [.ref 150, .ref 151, .ref 152, .int 0, .ref 153, .int 0, .int 1, .int 0, .int 0, .int 0, .int 0, .int 0, .int 1, .ref 154, .ref 155, .ref 156, .ref 157, .int 0, .int 0, .int 0, .ref 158, .ref 159, .ref 160, .ref 161, .ref 162, .int 0])) (upd (upd g 182 1) 264 0) w (fun _ => 0)) (fun v M2 => v = none ∧ M2 = (MX 0 (fun _ => 0) (.inr (6, [.ref 6, .int 1, .int 0, .ref 1, .int 0, .int 0, .int 0, .int 0])) (.inr (9, [.ref 150, .ref 151, .ref 152, .int 0, .ref 153, .int 0, .int 1, .int 0, .int 0, .int 0, .int 0, .int 0, .int 1, .ref 154, .ref 155, .ref 156, .ref 157, .int 0, .int 0, .int 0, .ref 158, .ref 159, .ref 160, .ref 161, .ref 162, .int 0])) (upd (upd g 182 1) 264 0) w (fun _ => 0))) := by
  refine xC.of (by decide) (Nat.le_of_ble_eq_true rfl) ?_
  show xW _ _ _ _ 0 [(0, .ref 149), (1, .int 1)] [] _ 0 0
  refine xi_aload_n 0 dX12_faults_0 rfl ?_
  refine xi_get (f := 12) dX12_faults_1 rfl rfl ok_9 (by decide) w_1020 rfl ?_
  refine xi_if_ne_t (tgt := 25) dX12_faults_4 (by decide) (by decide) ?_
  exact xi_vret dX12_faults_25 rfl (Nat.le_of_ble_eq_true rfl) (Nat.le_of_ble_eq_true rfl) ⟨rfl, rfl⟩
set_option maxHeartbeats 4000000 in
set_option maxRecDepth 100000 in
theorem au_56 (G : xG) (g w : Nat → Int32) : xC G mX12_passes 0 0 0 [.ref 149] (MX 0 (fun _ => 0) (.inr (6, [.ref 6, .int 1, .int 0, .ref 1, .int 0, .int 0, .int 0, .int 0])) (.inr (9, [.ref 150, .ref 151, .ref 152, .int 0, .ref 153, .int 0, .int 1, .int 0, .int 0, .int 0, .int 0, .int 0, .int 1, .ref 154, .ref 155, .ref 156, .ref 157, .int 0, .int 0, .int 0, .ref 158, .ref 159, .ref 160, .ref 161, .ref 162, .int 0])) (upd (upd g 182 1) 264 0) w (fun _ => 0)) (fun v M2 => v = none ∧ M2 = (MX 0 (fun _ => 0) (.inr (6, [.ref 6, .int 1, .int 0, .ref 1, .int 0, .int 0, .int 0, .int 0])) (.inr (9, [.ref 150, .ref 151, .ref 152, .int 0, .ref 153, .int 0, .int 1, .int 0, .int 0, .int 0, .int 0, .int 0, .int 1, .ref 154, .ref 155, .ref 156, .ref 157, .int 0, .int 0, .int 0, .ref 158, .ref 159, .ref 160, .ref 161, .ref 162, .int 0])) (upd (upd g 182 1) 264 0) w (fun _ => 0))) := by
  refine xC.of (by decide) (Nat.le_of_ble_eq_true rfl) ?_
  show xW _ _ _ _ 0 [(0, .ref 149)] [] _ 0 0
  refine xi_aload_n 0 dX12_passes_0 rfl ?_
  refine xi_get (f := 12) dX12_passes_1 rfl rfl ok_9 (by decide) w_1020 rfl ?_
  refine xi_if_ne_t (tgt := 11) dX12_passes_4 (by decide) (by decide) ?_
  exact xi_vret dX12_passes_11 rfl (Nat.le_of_ble_eq_true rfl) (Nat.le_of_ble_eq_true rfl) ⟨rfl, rfl⟩
set_option maxHeartbeats 4000000 in
set_option maxRecDepth 100000 in
theorem au_57 (G : xG) (g w : Nat → Int32) : xC G mX12_must 1 0 0 [.ref 149, .int 0] (MX 0 (fun _ => 0) (.inr (6, [.ref 6, .int 1, .int 0, .ref 1, .int 0, .int 0, .int 0, .int 0])) (.inr (9, [.ref 150, .ref 151, .ref 152, .int 0, .ref 153, .int 0, .int 1, .int 0, .int 0, .int 0, .int 0, .int 0, .int 1, .ref 154, .ref 155, .ref 156, .ref 157, .int 0, .int 0, .int 0, .ref 158, .ref 159, .ref 160, .ref 161, .ref 162, .int 0])) (upd (upd g 182 1) 264 0) w (fun _ => 0)) (fun v M2 => v = none ∧ M2 = (MX 0 (fun _ => 0) (.inr (6, [.ref 6, .int 1, .int 0, .ref 1, .int 0, .int 0, .int 0, .int 0])) (.inr (9, [.ref 150, .ref 151, .ref 152, .int 0, .ref 153, .int 0, .int 1, .int 0, .int 0, .int 0, .int 0, .int 0, .int 1, .ref 154, .ref 155, .ref 156, .ref 157, .int 0, .int 0, .int 0, .ref 158, .ref 159, .ref 160, .ref 161, .ref 162, .int 0])) (upd (upd g 182 1) 264 0) w (fun _ => 0))) := by
  refine xC.of (by decide) (Nat.le_of_ble_eq_true rfl) ?_
  show xW _ _ _ _ 0 [(0, .ref 149), (1, .int 0)] [] _ 0 0
  refine xi_iload_n 1 dX12_must_0 rfl ?_
  refine xi_if_ne_f (tgt := 9) dX12_must_1 (by decide) (by decide) ?_
  refine xi_aload_n 0 dX12_must_4 rfl ?_
  refine xi_iconst (v := 1) dX12_must_5 (by decide) ?_
  refine xi_callV (as := [.int 1]) (rest := []) dX12_must_6 (au_55 G g w) mkX12_faults w_1160 ws_45 w_1158 rfl rfl rfl rfl rfl (Nat.le_of_ble_eq_true rfl) (Nat.le_of_ble_eq_true rfl) (Nat.le_of_ble_eq_true rfl) (Nat.le_of_ble_eq_true rfl) (Nat.le_of_ble_eq_true rfl) ?_
  intro v M2 hq
  obtain ⟨rfl, rfl⟩ := hq
  show xW _ _ _ _ 9 _ [] (MX 0 (fun _ => 0) (.inr (6, [.ref 6, .int 1, .int 0, .ref 1, .int 0, .int 0, .int 0, .int 0])) (.inr (9, [.ref 150, .ref 151, .ref 152, .int 0, .ref 153, .int 0, .int 1, .int 0, .int 0, .int 0, .int 0, .int 0, .int 1, .ref 154, .ref 155, .ref 156, .ref 157, .int 0, .int 0, .int 0, .ref 158, .ref 159, .ref 160, .ref 161, .ref 162, .int 0])) (upd (upd g 182 1) 264 0) w (fun _ => 0)) _ _
  refine xi_aload_n 0 dX12_must_9 rfl ?_
  refine xi_callV (as := []) (rest := []) dX12_must_10 (au_56 G g w) mkX12_passes w_1164 ws_46 w_1162 rfl rfl rfl rfl rfl (Nat.le_of_ble_eq_true rfl) (Nat.le_of_ble_eq_true rfl) (Nat.le_of_ble_eq_true rfl) (Nat.le_of_ble_eq_true rfl) (Nat.le_of_ble_eq_true rfl) ?_
  intro v M2 hq
  obtain ⟨rfl, rfl⟩ := hq
  show xW _ _ _ _ 13 _ [] (MX 0 (fun _ => 0) (.inr (6, [.ref 6, .int 1, .int 0, .ref 1, .int 0, .int 0, .int 0, .int 0])) (.inr (9, [.ref 150, .ref 151, .ref 152, .int 0, .ref 153, .int 0, .int 1, .int 0, .int 0, .int 0, .int 0, .int 0, .int 1, .ref 154, .ref 155, .ref 156, .ref 157, .int 0, .int 0, .int 0, .ref 158, .ref 159, .ref 160, .ref 161, .ref 162, .int 0])) (upd (upd g 182 1) 264 0) w (fun _ => 0)) _ _
  exact xi_vret dX12_must_13 rfl (Nat.le_of_ble_eq_true rfl) (Nat.le_of_ble_eq_true rfl) ⟨rfl, rfl⟩
set_option maxHeartbeats 4000000 in
set_option maxRecDepth 100000 in
theorem au_58 (G : xG) (g w : Nat → Int32) : xC G mJ0_coder_7d493 0 0 0 [.float 5] (MX 0 (fun _ => 0) (.inr (6, [.ref 6, .int 1, .int 0, .ref 1, .int 0, .int 0, .int 0, .int 0])) (.inr (9, [.ref 150, .ref 151, .ref 152, .int 0, .ref 153, .int 0, .int 1, .int 0, .int 0, .int 0, .int 0, .int 0, .int 1, .ref 154, .ref 155, .ref 156, .ref 157, .int 0, .int 0, .int 0, .ref 158, .ref 159, .ref 160, .ref 161, .ref 162, .int 0])) (upd (upd g 182 1) 264 0) w (fun _ => 0)) (fun v M2 => v = some (.int 0) ∧ M2 = (MX 0 (fun _ => 0) (.inr (6, [.ref 6, .int 1, .int 0, .ref 1, .int 0, .int 0, .int 0, .int 0])) (.inr (9, [.ref 150, .ref 151, .ref 152, .int 0, .ref 153, .int 0, .int 1, .int 0, .int 0, .int 0, .int 0, .int 0, .int 1, .ref 154, .ref 155, .ref 156, .ref 157, .int 0, .int 0, .int 0, .ref 158, .ref 159, .ref 160, .ref 161, .ref 162, .int 0])) (upd (upd g 182 1) 264 0) w (fun _ => 0))) := by
  refine xC.of (by decide) (Nat.le_of_ble_eq_true rfl) ?_
  show xW _ _ _ _ 0 [(0, .float 5)] [] _ 0 0
  refine xi_compact dJ0_coder_7d493_0 w_336 ?_
  refine xi_if_eq_f (tgt := 13) dJ0_coder_7d493_3 (by decide) (by decide) ?_
  refine xi_aload_nS 0 dJ0_coder_7d493_6 rfl ?_
  refine xi_getSc dJ0_coder_7d493_7 st_5 rfl w_1541 ?_
  refine xi_goto (tgt := 14) dJ0_coder_7d493_10 (by decide) ?_
  exact xi_iret dJ0_coder_7d493_14 rfl (by decide) (Nat.le_of_ble_eq_true rfl) (Nat.le_of_ble_eq_true rfl) ⟨rfl, rfl⟩
set_option maxHeartbeats 4000000 in
set_option maxRecDepth 100000 in
theorem au_59 (G : xG) (g w : Nat → Int32) : xC G mJ0_length_8abf5 1 0 0 [.float 5] (MX 0 (fun _ => 0) (.inr (6, [.ref 6, .int 1, .int 0, .ref 1, .int 0, .int 0, .int 0, .int 0])) (.inr (9, [.ref 150, .ref 151, .ref 152, .int 0, .ref 153, .int 0, .int 1, .int 0, .int 0, .int 0, .int 0, .int 0, .int 1, .ref 154, .ref 155, .ref 156, .ref 157, .int 0, .int 0, .int 0, .ref 158, .ref 159, .ref 160, .ref 161, .ref 162, .int 0])) (upd (upd g 182 1) 264 0) w (fun _ => 0)) (fun v M2 => v = some (.int 3) ∧ M2 = (MX 0 (fun _ => 0) (.inr (6, [.ref 6, .int 1, .int 0, .ref 1, .int 0, .int 0, .int 0, .int 0])) (.inr (9, [.ref 150, .ref 151, .ref 152, .int 0, .ref 153, .int 0, .int 1, .int 0, .int 0, .int 0, .int 0, .int 0, .int 1, .ref 154, .ref 155, .ref 156, .ref 157, .int 0, .int 0, .int 0, .ref 158, .ref 159, .ref 160, .ref 161, .ref 162, .int 0])) (upd (upd g 182 1) 264 0) w (fun _ => 0))) := by
  refine xC.of (by decide) (Nat.le_of_ble_eq_true rfl) ?_
  show xW _ _ _ _ 0 [(0, .float 5)] [] _ 0 0
  refine xi_aload_nS 0 dJ0_length_8abf5_0 rfl ?_
  refine xi_getSv (w2 := 105) dJ0_length_8abf5_1 st_5 rfl rfl w_1540 ?_
  refine xi_lenS (v := 3) dJ0_length_8abf5_4 st_5 rfl (by decide) ?_
  refine xi_aload_nS 0 dJ0_length_8abf5_5 rfl ?_
  refine xi_callVS (as := []) (rest := [.int 3]) dJ0_length_8abf5_6 (au_58 G g w) mkJ0_coder_7d493 w_333 w_334 w_332 st_5 rfl rfl rfl rfl (Nat.le_of_ble_eq_true rfl) (Nat.le_of_ble_eq_true rfl) (Nat.le_of_ble_eq_true rfl) (Nat.le_of_ble_eq_true rfl) (Nat.le_of_ble_eq_true rfl) ?_
  intro v M2 hq
  obtain ⟨rfl, rfl⟩ := hq
  show xW _ _ _ _ 9 _ [.int 0, .int 3] (MX 0 (fun _ => 0) (.inr (6, [.ref 6, .int 1, .int 0, .ref 1, .int 0, .int 0, .int 0, .int 0])) (.inr (9, [.ref 150, .ref 151, .ref 152, .int 0, .ref 153, .int 0, .int 1, .int 0, .int 0, .int 0, .int 0, .int 0, .int 1, .ref 154, .ref 155, .ref 156, .ref 157, .int 0, .int 0, .int 0, .ref 158, .ref 159, .ref 160, .ref 161, .ref 162, .int 0])) (upd (upd g 182 1) 264 0) w (fun _ => 0)) _ _
  refine xi_ishr (v := 3) dJ0_length_8abf5_9 (by decide) ?_
  exact xi_iret dJ0_length_8abf5_10 rfl rfl (Nat.le_of_ble_eq_true rfl) (Nat.le_of_ble_eq_true rfl) ⟨rfl, rfl⟩
set_option maxHeartbeats 4000000 in
set_option maxRecDepth 100000 in
theorem au_60 (G : xG) (g w : Nat → Int32) : xC G mX12_isWord 2 0 0 [.ref 149, .float 5] (MX 0 (fun _ => 0) (.inr (6, [.ref 6, .int 1, .int 0, .ref 1, .int 0, .int 0, .int 0, .int 0])) (.inr (9, [.ref 150, .ref 151, .ref 152, .int 0, .ref 153, .int 0, .int 1, .int 0, .int 0, .int 0, .int 0, .int 0, .int 1, .ref 154, .ref 155, .ref 156, .ref 157, .int 0, .int 0, .int 0, .ref 158, .ref 159, .ref 160, .ref 161, .ref 162, .int 0])) (upd (upd g 182 1) 264 0) w (fun _ => 0)) (fun v M2 => v = some (.int 0) ∧ M2 = (MX 0 (fun _ => 0) (.inr (6, [.ref 6, .int 1, .int 0, .ref 1, .int 0, .int 0, .int 0, .int 0])) (.inr (9, [.ref 150, .ref 151, .ref 152, .int 0, .ref 153, .int 0, .int 1, .int 0, .int 0, .int 0, .int 0, .int 0, .int 1, .ref 154, .ref 155, .ref 156, .ref 157, .int 0, .int 0, .int 0, .ref 158, .ref 159, .ref 160, .ref 161, .ref 162, .int 0])) (upd (upd g 182 1) 264 0) w (fun _ => 0))) := by
  refine xC.of (by decide) (Nat.le_of_ble_eq_true rfl) ?_
  show xW _ _ _ _ 0 [(0, .ref 149), (1, .float 5)] [] _ 0 0
  refine xi_aload_n 0 dX12_isWord_0 rfl ?_
  refine xi_get (f := 12) dX12_isWord_1 rfl rfl ok_9 (by decide) w_1020 rfl ?_
  refine xi_if_ne_t (tgt := 35) dX12_isWord_4 (by decide) (by decide) ?_
  refine xi_iconst (v := 0) dX12_isWord_35 (by decide) ?_
  refine xi_istore_n (lv' := [(2, .int 0), (0, .ref 149), (1, .float 5)]) dX12_isWord_36 (by decide) rfl ?_
  refine xi_iconst (v := 0) dX12_isWord_37 (by decide) ?_
  refine xi_istore_n (lv' := [(3, .int 0), (2, .int 0), (0, .ref 149), (1, .float 5)]) dX12_isWord_38 (by decide) rfl ?_
  refine xi_iload_n 0 dX12_isWord_39 rfl ?_
  refine xi_aload_nS 3 dX12_isWord_40 rfl ?_
  refine xi_callVS (as := []) (rest := [.int 0]) dX12_isWord_41 (au_59 G g w) mkJ0_length_8abf5 w_329 w_330 w_1152 st_5 rfl rfl rfl rfl (Nat.le_of_ble_eq_true rfl) (Nat.le_of_ble_eq_true rfl) (Nat.le_of_ble_eq_true rfl) (Nat.le_of_ble_eq_true rfl) (Nat.le_of_ble_eq_true rfl) ?_
  intro v M2 hq
  obtain ⟨rfl, rfl⟩ := hq
  show xW _ _ _ _ 44 _ [.int 3, .int 0] (MX 0 (fun _ => 0) (.inr (6, [.ref 6, .int 1, .int 0, .ref 1, .int 0, .int 0, .int 0, .int 0])) (.inr (9, [.ref 150, .ref 151, .ref 152, .int 0, .ref 153, .int 0, .int 1, .int 0, .int 0, .int 0, .int 0, .int 0, .int 1, .ref 154, .ref 155, .ref 156, .ref 157, .int 0, .int 0, .int 0, .ref 158, .ref 159, .ref 160, .ref 161, .ref 162, .int 0])) (upd (upd g 182 1) 264 0) w (fun _ => 0)) _ _
  refine xi_icmp_ge_f (tgt := 82) dX12_isWord_44 (by decide) (by decide) ?_
  refine xi_iload_n 1 dX12_isWord_47 rfl ?_
  refine xi_if_eq_t (tgt := 82) dX12_isWord_48 (by decide) (by decide) ?_
  refine xi_iload_n 1 dX12_isWord_82 rfl ?_
  exact xi_iret dX12_isWord_83 rfl (by decide) (Nat.le_of_ble_eq_true rfl) (Nat.le_of_ble_eq_true rfl) ⟨rfl, rfl⟩
set_option maxHeartbeats 4000000 in
set_option maxRecDepth 100000 in
theorem fm_readsNet_2 (G : xG) (w : Nat → Int32) : xC G mX12_readsNet 3 0 0 [.ref 149, .int 2] (MX 0 (fun _ => 0) (.inr (6, [.ref 6, .int 1, .int 0, .ref 1, .int 0, .int 0, .int 0, .int 0])) mo0 (fun _ => 0) w (fun _ => 0)) (fun v M2 => v = none ∧ ∃ g2, M2 = (MX 0 (fun _ => 0) (.inr (6, [.ref 6, .int 1, .int 0, .ref 1, .int 0, .int 0, .int 0, .int 0])) (.inr (9, [.ref 150, .ref 151, .ref 152, .int 0, .ref 153, .int 0, .int 1, .int 0, .int 0, .int 0, .int 0, .int 0, .int 1, .ref 154, .ref 155, .ref 156, .ref 157, .int 0, .int 0, .int 0, .ref 158, .ref 159, .ref 160, .ref 161, .ref 162, .int 0])) g2 w (fun _ => 0))) := by
  refine xC.of (by decide) (Nat.le_of_ble_eq_true rfl) ?_
  show xW _ _ _ _ 0 [(0, .ref 149), (1, .int 2)] [] _ 0 0
  refine xi_aload_n 0 dX12_readsNet_0 rfl ?_
  refine xi_aload_n 0 dX12_readsNet_1 rfl ?_
  refine xi_ldcS (w := 4) dX12_readsNet_2 st_4 rfl ?_
  refine xi_callV (as := [.float 4]) (rest := [.ref 149]) dX12_readsNet_4 (au_25 G w) mkX12_isWord w_1150 ws_43 w_1148 rfl rfl rfl rfl rfl (Nat.le_of_ble_eq_true rfl) (Nat.le_of_ble_eq_true rfl) (Nat.le_of_ble_eq_true rfl) (Nat.le_of_ble_eq_true rfl) (Nat.le_of_ble_eq_true rfl) ?_
  intro v M2 hq
  obtain ⟨rfl, rfl⟩ := hq
  show xW _ _ _ _ 7 _ [.int 0, .ref 149] (MX 0 (fun _ => 0) (.inr (6, [.ref 6, .int 1, .int 0, .ref 1, .int 0, .int 0, .int 0, .int 0])) mo0 (fun _ => 0) w (fun _ => 0)) _ _
  refine xi_callV (as := [.int 0]) (rest := []) dX12_readsNet_7 (au_28 G w) mkX12_must w_1156 ws_44 w_1154 rfl rfl rfl rfl rfl (Nat.le_of_ble_eq_true rfl) (Nat.le_of_ble_eq_true rfl) (Nat.le_of_ble_eq_true rfl) (Nat.le_of_ble_eq_true rfl) (Nat.le_of_ble_eq_true rfl) ?_
  intro v M2 hq
  obtain ⟨rfl, rfl⟩ := hq
  show xW _ _ _ _ 10 _ [] (MX 0 (fun _ => 0) (.inr (6, [.ref 6, .int 1, .int 0, .ref 1, .int 0, .int 0, .int 0, .int 0])) (.inr (9, [.ref 150, .ref 151, .ref 152, .int 0, .ref 153, .int 0, .int 1, .int 0, .int 0, .int 0, .int 0, .int 0, .int 1, .ref 154, .ref 155, .ref 156, .ref 157, .int 0, .int 0, .int 0, .ref 158, .ref 159, .ref 160, .ref 161, .ref 162, .int 0])) (fun _ => 0) w (fun _ => 0)) _ _
  refine xi_aload_n 0 dX12_readsNet_10 rfl ?_
  refine xi_iconst (v := 1) dX12_readsNet_11 (by decide) ?_
  refine xi_bipush (v := 9) dX12_readsNet_12 (by decide) ?_
  refine xi_callV (as := [.int 1, .int 9]) (rest := []) dX12_readsNet_14 (au_29 G w) mkX12_here w_1168 ws_47 w_1166 rfl rfl rfl rfl rfl (Nat.le_of_ble_eq_true rfl) (Nat.le_of_ble_eq_true rfl) (Nat.le_of_ble_eq_true rfl) (Nat.le_of_ble_eq_true rfl) (Nat.le_of_ble_eq_true rfl) ?_
  intro v M2 hq
  obtain ⟨rfl, rfl⟩ := hq
  show xW _ _ _ _ 17 _ [.int 1] (MX 0 (fun _ => 0) (.inr (6, [.ref 6, .int 1, .int 0, .ref 1, .int 0, .int 0, .int 0, .int 0])) (.inr (9, [.ref 150, .ref 151, .ref 152, .int 0, .ref 153, .int 0, .int 1, .int 0, .int 0, .int 0, .int 0, .int 0, .int 1, .ref 154, .ref 155, .ref 156, .ref 157, .int 0, .int 0, .int 0, .ref 158, .ref 159, .ref 160, .ref 161, .ref 162, .int 0])) (fun _ => 0) w (fun _ => 0)) _ _
  refine xi_istore_n (lv' := [(2, .int 1), (0, .ref 149), (1, .int 2)]) dX12_readsNet_17 (by decide) rfl ?_
  refine xi_aload_n 1 dX12_readsNet_18 rfl ?_
  refine xi_callV (as := []) (rest := []) dX12_readsNet_19 (au_27 G w) mkX12_passes w_1164 ws_46 w_1162 rfl rfl rfl rfl rfl (Nat.le_of_ble_eq_true rfl) (Nat.le_of_ble_eq_true rfl) (Nat.le_of_ble_eq_true rfl) (Nat.le_of_ble_eq_true rfl) (Nat.le_of_ble_eq_true rfl) ?_
  intro v M2 hq
  obtain ⟨rfl, rfl⟩ := hq
  show xW _ _ _ _ 22 _ [] (MX 0 (fun _ => 0) (.inr (6, [.ref 6, .int 1, .int 0, .ref 1, .int 0, .int 0, .int 0, .int 0])) (.inr (9, [.ref 150, .ref 151, .ref 152, .int 0, .ref 153, .int 0, .int 1, .int 0, .int 0, .int 0, .int 0, .int 0, .int 1, .ref 154, .ref 155, .ref 156, .ref 157, .int 0, .int 0, .int 0, .ref 158, .ref 159, .ref 160, .ref 161, .ref 162, .int 0])) (fun _ => 0) w (fun _ => 0)) _ _
  refine xi_aload_n 1 dX12_readsNet_22 rfl ?_
  refine xi_iload_n 2 dX12_readsNet_23 rfl ?_
  refine xi_callV (as := [.int 2]) (rest := []) dX12_readsNet_24 (fm_empties_2 G (fun _ => 0) w) mkX12_empties w_1116 ws_38 w_1114 rfl rfl rfl rfl rfl (Nat.le_of_ble_eq_true rfl) (Nat.le_of_ble_eq_true rfl) (Nat.le_of_ble_eq_true rfl) (Nat.le_of_ble_eq_true rfl) (Nat.le_of_ble_eq_true rfl) ?_
  intro v M2 hq
  obtain ⟨rfl, g, rfl⟩ := hq
  show xW _ _ _ _ 27 _ [] (MX 0 (fun _ => 0) (.inr (6, [.ref 6, .int 1, .int 0, .ref 1, .int 0, .int 0, .int 0, .int 0])) (.inr (9, [.ref 150, .ref 151, .ref 152, .int 0, .ref 153, .int 0, .int 1, .int 0, .int 0, .int 0, .int 0, .int 0, .int 1, .ref 154, .ref 155, .ref 156, .ref 157, .int 0, .int 0, .int 0, .ref 158, .ref 159, .ref 160, .ref 161, .ref 162, .int 0])) g w (fun _ => 0)) _ _
  refine xi_aload_n 1 dX12_readsNet_27 rfl ?_
  refine xi_get (f := 0) dX12_readsNet_28 rfl rfl ok_9 (by decide) w_1008 rfl ?_
  refine xi_bipush (v := 91) dX12_readsNet_31 (by decide) ?_
  refine xi_iload_n 2 dX12_readsNet_33 rfl ?_
  refine xi_imul (v := 182) dX12_readsNet_34 (by decide) ?_
  refine xi_iload_n 0 dX12_readsNet_35 rfl ?_
  refine xi_iastore (M' := (MX 0 (fun _ => 0) (.inr (6, [.ref 6, .int 1, .int 0, .ref 1, .int 0, .int 0, .int 0, .int 0])) (.inr (9, [.ref 150, .ref 151, .ref 152, .int 0, .ref 153, .int 0, .int 1, .int 0, .int 0, .int 0, .int 0, .int 0, .int 1, .ref 154, .ref 155, .ref 156, .ref 157, .int 0, .int 0, .int 0, .ref 158, .ref 159, .ref 160, .ref 161, .ref 162, .int 0])) (upd g 182 1) w (fun _ => 0))) dX12_readsNet_36 rfl (by unfold vp_in; decide) rfl ?_
  refine xi_iconst (v := 0) dX12_readsNet_37 (by decide) ?_
  refine xi_istore_n (lv' := [(3, .int 0), (2, .int 1), (0, .ref 149), (1, .int 2)]) dX12_readsNet_38 (by decide) rfl ?_
  refine xi_iload_n 0 dX12_readsNet_39 rfl ?_
  refine xi_iload_n 1 dX12_readsNet_40 rfl ?_
  refine xi_icmp_ge_f (tgt := 57) dX12_readsNet_41 (by decide) (by decide) ?_
  refine xi_aload_n 2 dX12_readsNet_44 rfl ?_
  refine xi_iload_n 3 dX12_readsNet_45 rfl ?_
  refine xi_iload_n 0 dX12_readsNet_46 rfl ?_
  refine xi_iload_n 0 dX12_readsNet_47 rfl ?_
  refine xi_callV (as := [.int 2, .int 0, .int 0]) (rest := []) dX12_readsNet_48 (au_52 G g w) mkX12_puts w_1172 ws_48 w_1170 rfl rfl rfl rfl rfl (Nat.le_of_ble_eq_true rfl) (Nat.le_of_ble_eq_true rfl) (Nat.le_of_ble_eq_true rfl) (Nat.le_of_ble_eq_true rfl) (Nat.le_of_ble_eq_true rfl) ?_
  intro v M2 hq
  obtain ⟨rfl, rfl⟩ := hq
  show xW _ _ _ _ 51 _ [] (MX 0 (fun _ => 0) (.inr (6, [.ref 6, .int 1, .int 0, .ref 1, .int 0, .int 0, .int 0, .int 0])) (.inr (9, [.ref 150, .ref 151, .ref 152, .int 0, .ref 153, .int 0, .int 1, .int 0, .int 0, .int 0, .int 0, .int 0, .int 1, .ref 154, .ref 155, .ref 156, .ref 157, .int 0, .int 0, .int 0, .ref 158, .ref 159, .ref 160, .ref 161, .ref 162, .int 0])) (upd (upd g 182 1) 264 0) w (fun _ => 0)) _ _
  refine xi_iinc (v := 1) (lv' := [(3, .int 1), (2, .int 1), (0, .ref 149), (1, .int 2)]) 0 dX12_readsNet_51 rfl (by decide) (by decide) rfl ?_
  refine xi_goto (tgt := 39) dX12_readsNet_54 (by decide) ?_
  refine xi_iload_n 0 dX12_readsNet_39 rfl ?_
  refine xi_iload_n 1 dX12_readsNet_40 rfl ?_
  refine xi_icmp_ge_t (tgt := 57) dX12_readsNet_41 (by decide) (by decide) ?_
  refine xi_aload_n 2 dX12_readsNet_57 rfl ?_
  refine xi_bipush (v := 58) dX12_readsNet_58 (by decide) ?_
  refine xi_callV (as := [.int 58]) (rest := []) dX12_readsNet_60 (au_53 G g w) mkX12_isSign w_1176 ws_49 w_1174 rfl rfl rfl rfl rfl (Nat.le_of_ble_eq_true rfl) (Nat.le_of_ble_eq_true rfl) (Nat.le_of_ble_eq_true rfl) (Nat.le_of_ble_eq_true rfl) (Nat.le_of_ble_eq_true rfl) ?_
  intro v M2 hq
  obtain ⟨rfl, rfl⟩ := hq
  show xW _ _ _ _ 63 _ [.int 0] (MX 0 (fun _ => 0) (.inr (6, [.ref 6, .int 1, .int 0, .ref 1, .int 0, .int 0, .int 0, .int 0])) (.inr (9, [.ref 150, .ref 151, .ref 152, .int 0, .ref 153, .int 0, .int 1, .int 0, .int 0, .int 0, .int 0, .int 0, .int 1, .ref 154, .ref 155, .ref 156, .ref 157, .int 0, .int 0, .int 0, .ref 158, .ref 159, .ref 160, .ref 161, .ref 162, .int 0])) (upd (upd g 182 1) 264 0) w (fun _ => 0)) _ _
  refine xi_if_eq_t (tgt := 96) dX12_readsNet_63 (by decide) (by decide) ?_
  refine xi_aload_n 2 dX12_readsNet_96 rfl ?_
  refine xi_aload_n 2 dX12_readsNet_97 rfl ?_
  refine xi_bipush (v := 59) dX12_readsNet_98 (by decide) ?_
  refine xi_callV (as := [.int 59]) (rest := [.ref 149]) dX12_readsNet_100 (au_54 G g w) mkX12_isSign w_1176 ws_49 w_1174 rfl rfl rfl rfl rfl (Nat.le_of_ble_eq_true rfl) (Nat.le_of_ble_eq_true rfl) (Nat.le_of_ble_eq_true rfl) (Nat.le_of_ble_eq_true rfl) (Nat.le_of_ble_eq_true rfl) ?_
  intro v M2 hq
  obtain ⟨rfl, rfl⟩ := hq
  show xW _ _ _ _ 103 _ [.int 0, .ref 149] (MX 0 (fun _ => 0) (.inr (6, [.ref 6, .int 1, .int 0, .ref 1, .int 0, .int 0, .int 0, .int 0])) (.inr (9, [.ref 150, .ref 151, .ref 152, .int 0, .ref 153, .int 0, .int 1, .int 0, .int 0, .int 0, .int 0, .int 0, .int 1, .ref 154, .ref 155, .ref 156, .ref 157, .int 0, .int 0, .int 0, .ref 158, .ref 159, .ref 160, .ref 161, .ref 162, .int 0])) (upd (upd g 182 1) 264 0) w (fun _ => 0)) _ _
  refine xi_callV (as := [.int 0]) (rest := []) dX12_readsNet_103 (au_57 G g w) mkX12_must w_1156 ws_44 w_1154 rfl rfl rfl rfl rfl (Nat.le_of_ble_eq_true rfl) (Nat.le_of_ble_eq_true rfl) (Nat.le_of_ble_eq_true rfl) (Nat.le_of_ble_eq_true rfl) (Nat.le_of_ble_eq_true rfl) ?_
  intro v M2 hq
  obtain ⟨rfl, rfl⟩ := hq
  show xW _ _ _ _ 106 _ [] (MX 0 (fun _ => 0) (.inr (6, [.ref 6, .int 1, .int 0, .ref 1, .int 0, .int 0, .int 0, .int 0])) (.inr (9, [.ref 150, .ref 151, .ref 152, .int 0, .ref 153, .int 0, .int 1, .int 0, .int 0, .int 0, .int 0, .int 0, .int 1, .ref 154, .ref 155, .ref 156, .ref 157, .int 0, .int 0, .int 0, .ref 158, .ref 159, .ref 160, .ref 161, .ref 162, .int 0])) (upd (upd g 182 1) 264 0) w (fun _ => 0)) _ _
  refine xi_aload_n 2 dX12_readsNet_106 rfl ?_
  refine xi_ldcS (w := 5) dX12_readsNet_107 st_5 rfl ?_
  refine xi_callV (as := [.float 5]) (rest := []) dX12_readsNet_109 (au_60 G g w) mkX12_isWord w_1150 ws_43 w_1148 rfl rfl rfl rfl rfl (Nat.le_of_ble_eq_true rfl) (Nat.le_of_ble_eq_true rfl) (Nat.le_of_ble_eq_true rfl) (Nat.le_of_ble_eq_true rfl) (Nat.le_of_ble_eq_true rfl) ?_
  intro v M2 hq
  obtain ⟨rfl, rfl⟩ := hq
  show xW _ _ _ _ 112 _ [.int 0] (MX 0 (fun _ => 0) (.inr (6, [.ref 6, .int 1, .int 0, .ref 1, .int 0, .int 0, .int 0, .int 0])) (.inr (9, [.ref 150, .ref 151, .ref 152, .int 0, .ref 153, .int 0, .int 1, .int 0, .int 0, .int 0, .int 0, .int 0, .int 1, .ref 154, .ref 155, .ref 156, .ref 157, .int 0, .int 0, .int 0, .ref 158, .ref 159, .ref 160, .ref 161, .ref 162, .int 0])) (upd (upd g 182 1) 264 0) w (fun _ => 0)) _ _
  refine xi_if_eq_t (tgt := 120) dX12_readsNet_112 (by decide) (by decide) ?_
  refine xi_aload_n 2 dX12_readsNet_120 rfl ?_
  refine xi_get (f := 12) dX12_readsNet_121 rfl rfl ok_9 (by decide) w_1020 rfl ?_
  refine xi_if_ne_t (tgt := 139) dX12_readsNet_124 (by decide) (by decide) ?_
  exact xi_vret dX12_readsNet_139 rfl (Nat.le_of_ble_eq_true rfl) (Nat.le_of_ble_eq_true rfl) ⟨rfl, _, rfl⟩
set_option maxHeartbeats 4000000 in
set_option maxRecDepth 100000 in
theorem fm_told_loop_2 (G : xG) (w : Nat → Int32) : ∀ (j i : Nat) (g : Nat → Int32), i + j = 273 → xW G mX12_told (xrm 4 0 0) (xQ G (fun v M2 => v = some (.int (-4)) ∧ True) 0 0) 57 [(2, .int (nI i)), (0, .ref 149), (1, .int 2)] [] (MX 0 (fun _ => 0) (.inr (6, [.ref 6, .int 1, .int 0, .ref 1, .int 0, .int 0, .int 0, .int 0])) (.inr (9, [.ref 150, .ref 151, .ref 152, .int 0, .ref 153, .int 0, .int 1, .int 0, .int 0, .int 0, .int 0, .int 0, .int 1, .ref 154, .ref 155, .ref 156, .ref 157, .int 0, .int 0, .int 0, .ref 158, .ref 159, .ref 160, .ref 161, .ref 162, .int 0])) g w (fun _ => 0)) 0 0 := by
  intro j
  induction j with
  | zero =>
    intro i g hi
    have e : i = 273 := by omega
    subst e
    refine xi_iload_n 0 dX12_told_57 rfl ?_
    refine xi_sipush (v := 273) dX12_told_58 (by decide) ?_
    refine xi_icmp_ge_t (tgt := 82) dX12_told_61 (by decide) (by decide) ?_
    refine xi_bipush (v := (-4)) dX12_told_82 (by decide) ?_
    exact xi_iret dX12_told_84 rfl rfl (Nat.le_of_ble_eq_true rfl) (Nat.le_of_ble_eq_true rfl) ⟨rfl, trivial⟩
  | succ j ih =>
    intro i g hi
    have hlt : ¬ (273 : Int32) ≤ nI i := nI_ge (a := i) (b := 273) (by omega) (by decide)
    have hi2 : i < 273 := by omega
    refine xi_iload_n 0 dX12_told_57 rfl ?_
    refine xi_sipush (v := 273) dX12_told_58 (by decide) ?_
    refine xi_icmp_ge_f (tgt := 82) dX12_told_61 (by decide) hlt ?_
    refine xi_aload_n 1 dX12_told_64 rfl ?_
    refine xi_get (f := 0) dX12_told_65 rfl rfl ok_9 (by decide) w_1008 rfl ?_
    refine xi_iload_n 0 dX12_told_68 rfl ?_
    refine xi_aload_n 1 dX12_told_69 rfl ?_
    refine xi_get (f := 1) dX12_told_70 rfl rfl ok_9 (by decide) w_1009 rfl ?_
    refine xi_iload_n 0 dX12_told_73 rfl ?_
    refine xi_iaload (v := (w (nI i).toNatClampNeg)) dX12_told_74 rfl (vp_in_nI (by omega) (by decide)) rfl ?_
    refine xi_iastore (M' := (MX 0 (fun _ => 0) (.inr (6, [.ref 6, .int 1, .int 0, .ref 1, .int 0, .int 0, .int 0, .int 0])) (.inr (9, [.ref 150, .ref 151, .ref 152, .int 0, .ref 153, .int 0, .int 1, .int 0, .int 0, .int 0, .int 0, .int 0, .int 1, .ref 154, .ref 155, .ref 156, .ref 157, .int 0, .int 0, .int 0, .ref 158, .ref 159, .ref 160, .ref 161, .ref 162, .int 0])) (upd g (nI i).toNatClampNeg (w (nI i).toNatClampNeg)) w (fun _ => 0))) dX12_told_75 rfl (vp_in_nI (by omega) (by decide)) rfl ?_
    refine xi_iinc (v := ((nI i) + Int32.ofInt 1)) (lv' := [(2, .int ((nI i) + Int32.ofInt 1)), (0, .ref 149), (1, .int 2)]) 0 dX12_told_76 rfl rfl (by decide) rfl ?_
    refine xi_goto (tgt := 57) dX12_told_79 (by decide) ?_
    rw [show nI i + Int32.ofInt 1 = nI (i + 1) from nI_1 i]
    exact ih (i + 1) _ (by omega)
set_option maxHeartbeats 4000000 in
set_option maxRecDepth 100000 in
theorem fm_told_2 (G : xG) : xC G mX12_told 4 0 0 [.ref 149, .int 2] (MX 0 (fun _ => 0) (.inr (6, [.ref 6, .int 1, .int 0, .ref 1, .int 0, .int 0, .int 0, .int 0])) mo0 (fun _ => 0) (fun _ => 0) (fun _ => 0)) (fun v M2 => v = some (.int (-4)) ∧ True) := by
  refine xC.of (by decide) (Nat.le_of_ble_eq_true rfl) ?_
  show xW _ _ _ _ 0 [(0, .ref 149), (1, .int 2)] [] _ 0 0
  refine xi_iload_n 1 dX12_told_0 rfl ?_
  refine xi_callS (as := [.int 2]) (rest := []) dX12_told_1 (au_51 G) mkX12_isSlot w_1096 w_1095 rfl rfl (Nat.le_of_ble_eq_true rfl) (Nat.le_of_ble_eq_true rfl) (Nat.le_of_ble_eq_true rfl) (Nat.le_of_ble_eq_true rfl) (Nat.le_of_ble_eq_true rfl) ?_
  intro v M2 hq
  obtain ⟨rfl, rfl⟩ := hq
  show xW _ _ _ _ 4 _ [.int 1] (MX 0 (fun _ => 0) (.inr (6, [.ref 6, .int 1, .int 0, .ref 1, .int 0, .int 0, .int 0, .int 0])) mo0 (fun _ => 0) (fun _ => 0) (fun _ => 0)) _ _
  refine xi_if_ne_t (tgt := 10) dX12_told_4 (by decide) (by decide) ?_
  refine xi_aload_n 0 dX12_told_10 rfl ?_
  refine xi_iconst (v := 0) dX12_told_11 (by decide) ?_
  refine xi_put (f := 6) (ty := .int) (M' := (MX 0 (fun _ => 0) (.inr (6, [.ref 6, .int 1, .int 0, .ref 1, .int 0, .int 0, .int 0, .int 0])) mo0 (fun _ => 0) (fun _ => 0) (fun _ => 0))) dX12_told_12 rfl rfl ok_9 (by decide) w_1014 rfl pf_I (fun _ h => by cases h) rfl rfl (Nat.le_of_ble_eq_true rfl) rfl ?_
  refine xi_aload_n 0 dX12_told_15 rfl ?_
  refine xi_iconst (v := (-1)) dX12_told_16 (by decide) ?_
  refine xi_put (f := 7) (ty := .int) (M' := (MX 0 (fun _ => 0) (.inr (6, [.ref 6, .int 1, .int 0, .ref 1, .int 0, .int 0, .int 0, .int 0])) mo0 (fun _ => 0) (fun _ => 0) (fun _ => 0))) dX12_told_17 rfl rfl ok_9 (by decide) w_1015 rfl pf_I (fun _ h => by cases h) rfl rfl (Nat.le_of_ble_eq_true rfl) rfl ?_
  refine xi_aload_n 0 dX12_told_20 rfl ?_
  refine xi_iconst (v := 0) dX12_told_21 (by decide) ?_
  refine xi_put (f := 12) (ty := .boolean) (M' := (MX 0 (fun _ => 0) (.inr (6, [.ref 6, .int 1, .int 0, .ref 1, .int 0, .int 0, .int 0, .int 0])) mo0 (fun _ => 0) (fun _ => 0) (fun _ => 0))) dX12_told_22 rfl rfl ok_9 (by decide) w_1020 rfl pf_Z (fun _ h => by cases h) rfl rfl (Nat.le_of_ble_eq_true rfl) rfl ?_
  refine xi_aload_n 0 dX12_told_25 rfl ?_
  refine xi_iconst (v := 0) dX12_told_26 (by decide) ?_
  refine xi_put (f := 8) (ty := .int) (M' := (MX 0 (fun _ => 0) (.inr (6, [.ref 6, .int 1, .int 0, .ref 1, .int 0, .int 0, .int 0, .int 0])) mo0 (fun _ => 0) (fun _ => 0) (fun _ => 0))) dX12_told_27 rfl rfl ok_9 (by decide) w_1016 rfl pf_I (fun _ h => by cases h) rfl rfl (Nat.le_of_ble_eq_true rfl) rfl ?_
  refine xi_aload_n 0 dX12_told_30 rfl ?_
  refine xi_callV (as := []) (rest := []) dX12_told_31 (fm_remembers G (fun _ => 0) (fun _ => 0)) mkX12_remembers w_1112 ws_37 w_1110 rfl rfl rfl rfl rfl (Nat.le_of_ble_eq_true rfl) (Nat.le_of_ble_eq_true rfl) (Nat.le_of_ble_eq_true rfl) (Nat.le_of_ble_eq_true rfl) (Nat.le_of_ble_eq_true rfl) ?_
  intro v M2 hq
  obtain ⟨rfl, w, rfl⟩ := hq
  show xW _ _ _ _ 34 _ [] (MX 0 (fun _ => 0) (.inr (6, [.ref 6, .int 1, .int 0, .ref 1, .int 0, .int 0, .int 0, .int 0])) mo0 (fun _ => 0) w (fun _ => 0)) _ _
  refine xi_aload_n 0 dX12_told_34 rfl ?_
  refine xi_callV (as := []) (rest := []) dX12_told_35 (au_22 G w) mkX12_next w_1136 ws_40 w_1134 rfl rfl rfl rfl rfl (Nat.le_of_ble_eq_true rfl) (Nat.le_of_ble_eq_true rfl) (Nat.le_of_ble_eq_true rfl) (Nat.le_of_ble_eq_true rfl) (Nat.le_of_ble_eq_true rfl) ?_
  intro v M2 hq
  obtain ⟨rfl, rfl⟩ := hq
  show xW _ _ _ _ 38 _ [] (MX 0 (fun _ => 0) (.inr (6, [.ref 6, .int 1, .int 0, .ref 1, .int 0, .int 0, .int 0, .int 0])) mo0 (fun _ => 0) w (fun _ => 0)) _ _
  refine xi_aload_n 0 dX12_told_38 rfl ?_
  refine xi_iload_n 1 dX12_told_39 rfl ?_
  refine xi_callV (as := [.int 2]) (rest := []) dX12_told_40 (fm_readsNet_2 G w) mkX12_readsNet w_1145 ws_42 w_1143 rfl rfl rfl rfl rfl (Nat.le_of_ble_eq_true rfl) (Nat.le_of_ble_eq_true rfl) (Nat.le_of_ble_eq_true rfl) (Nat.le_of_ble_eq_true rfl) (Nat.le_of_ble_eq_true rfl) ?_
  intro v M2 hq
  obtain ⟨rfl, g, rfl⟩ := hq
  show xW _ _ _ _ 43 _ [] (MX 0 (fun _ => 0) (.inr (6, [.ref 6, .int 1, .int 0, .ref 1, .int 0, .int 0, .int 0, .int 0])) (.inr (9, [.ref 150, .ref 151, .ref 152, .int 0, .ref 153, .int 0, .int 1, .int 0, .int 0, .int 0, .int 0, .int 0, .int 1, .ref 154, .ref 155, .ref 156, .ref 157, .int 0, .int 0, .int 0, .ref 158, .ref 159, .ref 160, .ref 161, .ref 162, .int 0])) g w (fun _ => 0)) _ _
  refine xi_aload_n 0 dX12_told_43 rfl ?_
  refine xi_iconst (v := 0) dX12_told_44 (by decide) ?_
  refine xi_put (f := 5) (ty := .int) (M' := (MX 0 (fun _ => 0) (.inr (6, [.ref 6, .int 1, .int 0, .ref 1, .int 0, .int 0, .int 0, .int 0])) (.inr (9, [.ref 150, .ref 151, .ref 152, .int 0, .ref 153, .int 0, .int 1, .int 0, .int 0, .int 0, .int 0, .int 0, .int 1, .ref 154, .ref 155, .ref 156, .ref 157, .int 0, .int 0, .int 0, .ref 158, .ref 159, .ref 160, .ref 161, .ref 162, .int 0])) g w (fun _ => 0))) dX12_told_45 rfl rfl ok_9 (by decide) w_1013 rfl pf_I (fun _ h => by cases h) rfl rfl (Nat.le_of_ble_eq_true rfl) rfl ?_
  refine xi_aload_n 0 dX12_told_48 rfl ?_
  refine xi_get (f := 12) dX12_told_49 rfl rfl ok_9 (by decide) w_1020 rfl ?_
  refine xi_if_eq_f (tgt := 85) dX12_told_52 (by decide) (by decide) ?_
  refine xi_iconst (v := 0) dX12_told_55 (by decide) ?_
  refine xi_istore_n (lv' := [(2, .int 0), (0, .ref 149), (1, .int 2)]) dX12_told_56 (by decide) rfl ?_
  exact fm_told_loop_2 G w 273 0 g rfl
set_option maxHeartbeats 4000000 in
set_option maxRecDepth 100000 in
theorem fm_told_out (G : xG) (a1 : Int32) (h : a1 < 0 ∨ 3 ≤ a1) : xC G mX12_told 4 0 0 [.ref 149, .int a1] (MX 0 (fun _ => 0) rd0 mo0 (fun _ => 0) (fun _ => 0) (fun _ => 0)) (fun v M2 => v = some (.int (-2)) ∧ M2 = (MX 0 (fun _ => 0) rd0 mo0 (fun _ => 0) (fun _ => 0) (fun _ => 0))) := by
  refine xC.of (by decide) (Nat.le_of_ble_eq_true rfl) ?_
  show xW _ _ _ _ 0 [(0, .ref 149), (1, .int a1)] [] _ 0 0
  refine xi_iload_n 1 dX12_told_0 rfl ?_
  refine xi_callS (as := [.int a1]) (rest := []) dX12_told_1 (fm_isSlot_out G _ h) mkX12_isSlot w_1096 w_1095 rfl rfl (Nat.le_of_ble_eq_true rfl) (Nat.le_of_ble_eq_true rfl) (Nat.le_of_ble_eq_true rfl) (Nat.le_of_ble_eq_true rfl) (Nat.le_of_ble_eq_true rfl) ?_
  intro v M2 hq
  obtain ⟨rfl, rfl⟩ := hq
  show xW _ _ _ _ 4 _ [.int 0] (MX 0 (fun _ => 0) rd0 mo0 (fun _ => 0) (fun _ => 0) (fun _ => 0)) _ _
  refine xi_if_ne_f (tgt := 10) dX12_told_4 (by decide) (by decide) ?_
  refine xi_bipush (v := (-2)) dX12_told_7 (by decide) ?_
  exact xi_iret dX12_told_9 rfl rfl (Nat.le_of_ble_eq_true rfl) (Nat.le_of_ble_eq_true rfl) ⟨rfl, rfl⟩
