/-! feed and told of the class, the reference: on what is new (printed by wip/p1/gen3.py) -/
set_option maxHeartbeats 4000000 in
set_option maxRecDepth 100000 in
theorem fx_hasRoom (G : xG) (n m : Int32) (f : Nat → Int32) (h : ¬ 400 < n + m) : xC G mX1_hasRoom 0 0 0 [.ref 1, .int m] (MX n f rd0 mo0 (fun _ => 0) (fun _ => 0) (fun _ => 0)) (fun v M2 => v = some (.int 1) ∧ M2 = (MX n f rd0 mo0 (fun _ => 0) (fun _ => 0) (fun _ => 0))) := by
  refine xC.of (by decide) (Nat.le_of_ble_eq_true rfl) ?_
  show xW _ _ _ _ 0 [(0, .ref 1), (1, .int m)] [] _ 0 0
  refine xi_aload_n 0 dX1_hasRoom_0 rfl ?_
  refine xi_get (f := 1) dX1_hasRoom_1 rfl rfl ok_1 (by decide) w_40 rfl ?_
  refine xi_iload_n 1 dX1_hasRoom_4 rfl ?_
  refine xi_iadd dX1_hasRoom_5 rfl ?_
  refine xi_aload_n 0 dX1_hasRoom_6 rfl ?_
  refine xi_get (f := 0) dX1_hasRoom_7 rfl rfl ok_1 (by decide) w_39 rfl ?_
  refine xi_alen (v := 400) dX1_hasRoom_10 rfl rfl (by decide) ?_
  refine xi_icmp_gt_f (tgt := 18) dX1_hasRoom_11 (by decide) h ?_
  refine xi_iconst (v := 1) dX1_hasRoom_14 (by decide) ?_
  refine xi_goto (tgt := 19) dX1_hasRoom_15 (by decide) ?_
  exact xi_iret dX1_hasRoom_19 rfl (by decide) (Nat.le_of_ble_eq_true rfl) (Nat.le_of_ble_eq_true rfl) ⟨rfl, rfl⟩
set_option maxHeartbeats 4000000 in
set_option maxRecDepth 100000 in
theorem fx_put (G : xG) (n n2 a1 : Int32) (f : Nat → Int32) (hn : vp_in n 400) (h : ¬ 400 < n + 1) (e : n + 1 = n2) : xC G mX1_put 1 0 0 [.ref 1, .int a1] (MX n f rd0 mo0 (fun _ => 0) (fun _ => 0) (fun _ => 0)) (fun v M2 => v = none ∧ ∃ f2, M2 = (MX n2 f2 rd0 mo0 (fun _ => 0) (fun _ => 0) (fun _ => 0))) := by
  refine xC.of (by decide) (Nat.le_of_ble_eq_true rfl) ?_
  show xW _ _ _ _ 0 [(0, .ref 1), (1, .int a1)] [] _ 0 0
  refine xi_aload_n 0 dX1_put_0 rfl ?_
  refine xi_iconst (v := 1) dX1_put_1 (by decide) ?_
  refine xi_callV (as := [.int 1]) (rest := []) dX1_put_2 (fx_hasRoom G n 1 f h) mkX1_hasRoom w_278 w_279 w_289 rfl rfl rfl rfl rfl (Nat.le_of_ble_eq_true rfl) (Nat.le_of_ble_eq_true rfl) (Nat.le_of_ble_eq_true rfl) (Nat.le_of_ble_eq_true rfl) (Nat.le_of_ble_eq_true rfl) ?_
  intro v M2 hq
  obtain ⟨rfl, rfl⟩ := hq
  show xW _ _ _ _ 5 _ [.int 1] (MX n f rd0 mo0 (fun _ => 0) (fun _ => 0) (fun _ => 0)) _ _
  refine xi_if_eq_f (tgt := 29) dX1_put_5 (by decide) (by decide) ?_
  refine xi_aload_n 0 dX1_put_8 rfl ?_
  refine xi_get (f := 0) dX1_put_9 rfl rfl ok_1 (by decide) w_39 rfl ?_
  refine xi_aload_n 0 dX1_put_12 rfl ?_
  refine xi_get (f := 1) dX1_put_13 rfl rfl ok_1 (by decide) w_40 rfl ?_
  refine xi_iload_n 1 dX1_put_16 rfl ?_
  refine xi_i2b dX1_put_17 rfl ?_
  refine xi_bastore (M' := (MX n (upd f n.toNatClampNeg a1.toInt8.toInt32.toInt8.toInt32) rd0 mo0 (fun _ => 0) (fun _ => 0) (fun _ => 0))) dX1_put_18 rfl hn rfl ?_
  refine xi_aload_n 0 dX1_put_19 rfl ?_
  refine xi_dup dX1_put_20 rfl ?_
  refine xi_get (f := 1) dX1_put_21 rfl rfl ok_1 (by decide) w_40 rfl ?_
  refine xi_iconst (v := 1) dX1_put_24 (by decide) ?_
  refine xi_iadd dX1_put_25 rfl ?_
  refine xi_put (f := 1) (ty := .int) (M' := (MX (n + 1) (upd f n.toNatClampNeg a1.toInt8.toInt32.toInt8.toInt32) rd0 mo0 (fun _ => 0) (fun _ => 0) (fun _ => 0))) dX1_put_26 rfl rfl ok_1 (by decide) w_40 rfl pf_I (fun _ h => by cases h) rfl rfl (Nat.le_of_ble_eq_true rfl) rfl ?_
  exact xi_vret dX1_put_29 rfl (Nat.le_of_ble_eq_true rfl) (Nat.le_of_ble_eq_true rfl) (by subst e; exact ⟨rfl, _, rfl⟩)
set_option maxHeartbeats 4000000 in
set_option maxRecDepth 100000 in
theorem fx_putFour (G : xG) (n0 n1 n2 n3 n4 a1 : Int32) (f0 : Nat → Int32) (hn0 : vp_in n0 400) (h0 : ¬ 400 < n0 + 1) (e0 : n0 + 1 = n1) (hn1 : vp_in n1 400) (h1 : ¬ 400 < n1 + 1) (e1 : n1 + 1 = n2) (hn2 : vp_in n2 400) (h2 : ¬ 400 < n2 + 1) (e2 : n2 + 1 = n3) (hn3 : vp_in n3 400) (h3 : ¬ 400 < n3 + 1) (e3 : n3 + 1 = n4) : xC G mX1_putFour 2 0 0 [.ref 1, .int a1] (MX n0 f0 rd0 mo0 (fun _ => 0) (fun _ => 0) (fun _ => 0)) (fun v M2 => v = none ∧ ∃ f2, M2 = (MX n4 f2 rd0 mo0 (fun _ => 0) (fun _ => 0) (fun _ => 0))) := by
  refine xC.of (by decide) (Nat.le_of_ble_eq_true rfl) ?_
  show xW _ _ _ _ 0 [(0, .ref 1), (1, .int a1)] [] _ 0 0
  refine xi_aload_n 0 dX1_putFour_0 rfl ?_
  refine xi_iload_n 1 dX1_putFour_1 rfl ?_
  refine xi_bipush (v := 24) dX1_putFour_2 (by decide) ?_
  refine xi_iushr dX1_putFour_4 rfl ?_
  refine xi_callV (as := [.int ((a1.toUInt32 >>> (((24 : Int32)).toUInt32 &&& Int32.toUInt32 31)).toInt32)]) (rest := []) dX1_putFour_5 (fx_put G _ n1 _ _ hn0 h0 e0) mkX1_put w_286 w_287 w_285 rfl rfl rfl rfl rfl (Nat.le_of_ble_eq_true rfl) (Nat.le_of_ble_eq_true rfl) (Nat.le_of_ble_eq_true rfl) (Nat.le_of_ble_eq_true rfl) (Nat.le_of_ble_eq_true rfl) ?_
  intro v M2 hq
  obtain ⟨rfl, f1, rfl⟩ := hq
  show xW _ _ _ _ 8 _ [] (MX n1 f1 rd0 mo0 (fun _ => 0) (fun _ => 0) (fun _ => 0)) _ _
  refine xi_aload_n 0 dX1_putFour_8 rfl ?_
  refine xi_iload_n 1 dX1_putFour_9 rfl ?_
  refine xi_bipush (v := 16) dX1_putFour_10 (by decide) ?_
  refine xi_iushr dX1_putFour_12 rfl ?_
  refine xi_callV (as := [.int ((a1.toUInt32 >>> (((16 : Int32)).toUInt32 &&& Int32.toUInt32 31)).toInt32)]) (rest := []) dX1_putFour_13 (fx_put G _ n2 _ _ hn1 h1 e1) mkX1_put w_286 w_287 w_285 rfl rfl rfl rfl rfl (Nat.le_of_ble_eq_true rfl) (Nat.le_of_ble_eq_true rfl) (Nat.le_of_ble_eq_true rfl) (Nat.le_of_ble_eq_true rfl) (Nat.le_of_ble_eq_true rfl) ?_
  intro v M2 hq
  obtain ⟨rfl, f2, rfl⟩ := hq
  show xW _ _ _ _ 16 _ [] (MX n2 f2 rd0 mo0 (fun _ => 0) (fun _ => 0) (fun _ => 0)) _ _
  refine xi_aload_n 0 dX1_putFour_16 rfl ?_
  refine xi_iload_n 1 dX1_putFour_17 rfl ?_
  refine xi_bipush (v := 8) dX1_putFour_18 (by decide) ?_
  refine xi_iushr dX1_putFour_20 rfl ?_
  refine xi_callV (as := [.int ((a1.toUInt32 >>> (((8 : Int32)).toUInt32 &&& Int32.toUInt32 31)).toInt32)]) (rest := []) dX1_putFour_21 (fx_put G _ n3 _ _ hn2 h2 e2) mkX1_put w_286 w_287 w_285 rfl rfl rfl rfl rfl (Nat.le_of_ble_eq_true rfl) (Nat.le_of_ble_eq_true rfl) (Nat.le_of_ble_eq_true rfl) (Nat.le_of_ble_eq_true rfl) (Nat.le_of_ble_eq_true rfl) ?_
  intro v M2 hq
  obtain ⟨rfl, f3, rfl⟩ := hq
  show xW _ _ _ _ 24 _ [] (MX n3 f3 rd0 mo0 (fun _ => 0) (fun _ => 0) (fun _ => 0)) _ _
  refine xi_aload_n 0 dX1_putFour_24 rfl ?_
  refine xi_iload_n 1 dX1_putFour_25 rfl ?_
  refine xi_callV (as := [.int a1]) (rest := []) dX1_putFour_26 (fx_put G _ n4 _ _ hn3 h3 e3) mkX1_put w_286 w_287 w_285 rfl rfl rfl rfl rfl (Nat.le_of_ble_eq_true rfl) (Nat.le_of_ble_eq_true rfl) (Nat.le_of_ble_eq_true rfl) (Nat.le_of_ble_eq_true rfl) (Nat.le_of_ble_eq_true rfl) ?_
  intro v M2 hq
  obtain ⟨rfl, f4, rfl⟩ := hq
  show xW _ _ _ _ 29 _ [] (MX n4 f4 rd0 mo0 (fun _ => 0) (fun _ => 0) (fun _ => 0)) _ _
  exact xi_vret dX1_putFour_29 rfl (Nat.le_of_ble_eq_true rfl) (Nat.le_of_ble_eq_true rfl) ⟨rfl, _, rfl⟩
set_option maxHeartbeats 4000000 in
set_option maxRecDepth 100000 in
theorem fx_feed (G : xG) (a1 a2 a3 a4 a5 : Int32) : xC G mX11_feed 3 0 0 [.ref 0, .int a1, .int a2, .int a3, .int a4, .int a5] (MX 0 (fun _ => 0) rd0 mo0 (fun _ => 0) (fun _ => 0) (fun _ => 0)) (fun v M2 => v = some (.int 20) ∧ ∃ f, M2 = (MX 20 f rd0 mo0 (fun _ => 0) (fun _ => 0) (fun _ => 0))) := by
  refine xC.of (by decide) (Nat.le_of_ble_eq_true rfl) ?_
  show xW _ _ _ _ 0 [(0, .ref 0), (1, .int a1), (2, .int a2), (3, .int a3), (4, .int a4), (5, .int a5)] [] _ 0 0
  refine xi_aload_n 0 dX11_feed_0 rfl ?_
  refine xi_get (f := 0) dX11_feed_1 rfl rfl ok_8 (by decide) w_242 rfl ?_
  refine xi_bipush (v := 20) dX11_feed_4 (by decide) ?_
  refine xi_callV (as := [.int 20]) (rest := []) dX11_feed_6 (fx_hasRoom G 0 20 (fun _ => 0) (by decide)) mkX1_hasRoom w_278 w_279 w_277 rfl rfl rfl rfl rfl (Nat.le_of_ble_eq_true rfl) (Nat.le_of_ble_eq_true rfl) (Nat.le_of_ble_eq_true rfl) (Nat.le_of_ble_eq_true rfl) (Nat.le_of_ble_eq_true rfl) ?_
  intro v M2 hq
  obtain ⟨rfl, rfl⟩ := hq
  show xW _ _ _ _ 9 _ [.int 1] (MX 0 (fun _ => 0) rd0 mo0 (fun _ => 0) (fun _ => 0) (fun _ => 0)) _ _
  refine xi_if_ne_t (tgt := 14) dX11_feed_9 (by decide) (by decide) ?_
  refine xi_aload_n 0 dX11_feed_14 rfl ?_
  refine xi_get (f := 0) dX11_feed_15 rfl rfl ok_8 (by decide) w_242 rfl ?_
  refine xi_iload_n 1 dX11_feed_18 rfl ?_
  refine xi_callV (as := [.int a1]) (rest := []) dX11_feed_19 (fx_putFour G 0 1 2 3 4 a1 _ (by unfold vp_in; decide) (by decide) (by decide) (by unfold vp_in; decide) (by decide) (by decide) (by unfold vp_in; decide) (by decide) (by decide) (by unfold vp_in; decide) (by decide) (by decide)) mkX1_putFour w_282 w_283 w_281 rfl rfl rfl rfl rfl (Nat.le_of_ble_eq_true rfl) (Nat.le_of_ble_eq_true rfl) (Nat.le_of_ble_eq_true rfl) (Nat.le_of_ble_eq_true rfl) (Nat.le_of_ble_eq_true rfl) ?_
  intro v M2 hq
  obtain ⟨rfl, f1, rfl⟩ := hq
  show xW _ _ _ _ 22 _ [] (MX 4 f1 rd0 mo0 (fun _ => 0) (fun _ => 0) (fun _ => 0)) _ _
  refine xi_aload_n 0 dX11_feed_22 rfl ?_
  refine xi_get (f := 0) dX11_feed_23 rfl rfl ok_8 (by decide) w_242 rfl ?_
  refine xi_iload_n 2 dX11_feed_26 rfl ?_
  refine xi_callV (as := [.int a2]) (rest := []) dX11_feed_27 (fx_putFour G 4 5 6 7 8 a2 _ (by unfold vp_in; decide) (by decide) (by decide) (by unfold vp_in; decide) (by decide) (by decide) (by unfold vp_in; decide) (by decide) (by decide) (by unfold vp_in; decide) (by decide) (by decide)) mkX1_putFour w_282 w_283 w_281 rfl rfl rfl rfl rfl (Nat.le_of_ble_eq_true rfl) (Nat.le_of_ble_eq_true rfl) (Nat.le_of_ble_eq_true rfl) (Nat.le_of_ble_eq_true rfl) (Nat.le_of_ble_eq_true rfl) ?_
  intro v M2 hq
  obtain ⟨rfl, f2, rfl⟩ := hq
  show xW _ _ _ _ 30 _ [] (MX 8 f2 rd0 mo0 (fun _ => 0) (fun _ => 0) (fun _ => 0)) _ _
  refine xi_aload_n 0 dX11_feed_30 rfl ?_
  refine xi_get (f := 0) dX11_feed_31 rfl rfl ok_8 (by decide) w_242 rfl ?_
  refine xi_iload_n 3 dX11_feed_34 rfl ?_
  refine xi_callV (as := [.int a3]) (rest := []) dX11_feed_35 (fx_putFour G 8 9 10 11 12 a3 _ (by unfold vp_in; decide) (by decide) (by decide) (by unfold vp_in; decide) (by decide) (by decide) (by unfold vp_in; decide) (by decide) (by decide) (by unfold vp_in; decide) (by decide) (by decide)) mkX1_putFour w_282 w_283 w_281 rfl rfl rfl rfl rfl (Nat.le_of_ble_eq_true rfl) (Nat.le_of_ble_eq_true rfl) (Nat.le_of_ble_eq_true rfl) (Nat.le_of_ble_eq_true rfl) (Nat.le_of_ble_eq_true rfl) ?_
  intro v M2 hq
  obtain ⟨rfl, f3, rfl⟩ := hq
  show xW _ _ _ _ 38 _ [] (MX 12 f3 rd0 mo0 (fun _ => 0) (fun _ => 0) (fun _ => 0)) _ _
  refine xi_aload_n 0 dX11_feed_38 rfl ?_
  refine xi_get (f := 0) dX11_feed_39 rfl rfl ok_8 (by decide) w_242 rfl ?_
  refine xi_iload 4 dX11_feed_42 rfl ?_
  refine xi_callV (as := [.int a4]) (rest := []) dX11_feed_44 (fx_putFour G 12 13 14 15 16 a4 _ (by unfold vp_in; decide) (by decide) (by decide) (by unfold vp_in; decide) (by decide) (by decide) (by unfold vp_in; decide) (by decide) (by decide) (by unfold vp_in; decide) (by decide) (by decide)) mkX1_putFour w_282 w_283 w_281 rfl rfl rfl rfl rfl (Nat.le_of_ble_eq_true rfl) (Nat.le_of_ble_eq_true rfl) (Nat.le_of_ble_eq_true rfl) (Nat.le_of_ble_eq_true rfl) (Nat.le_of_ble_eq_true rfl) ?_
  intro v M2 hq
  obtain ⟨rfl, f4, rfl⟩ := hq
  show xW _ _ _ _ 47 _ [] (MX 16 f4 rd0 mo0 (fun _ => 0) (fun _ => 0) (fun _ => 0)) _ _
  refine xi_aload_n 0 dX11_feed_47 rfl ?_
  refine xi_get (f := 0) dX11_feed_48 rfl rfl ok_8 (by decide) w_242 rfl ?_
  refine xi_iload 5 dX11_feed_51 rfl ?_
  refine xi_callV (as := [.int a5]) (rest := []) dX11_feed_53 (fx_putFour G 16 17 18 19 20 a5 _ (by unfold vp_in; decide) (by decide) (by decide) (by unfold vp_in; decide) (by decide) (by decide) (by unfold vp_in; decide) (by decide) (by decide) (by unfold vp_in; decide) (by decide) (by decide)) mkX1_putFour w_282 w_283 w_281 rfl rfl rfl rfl rfl (Nat.le_of_ble_eq_true rfl) (Nat.le_of_ble_eq_true rfl) (Nat.le_of_ble_eq_true rfl) (Nat.le_of_ble_eq_true rfl) (Nat.le_of_ble_eq_true rfl) ?_
  intro v M2 hq
  obtain ⟨rfl, f5, rfl⟩ := hq
  show xW _ _ _ _ 56 _ [] (MX 20 f5 rd0 mo0 (fun _ => 0) (fun _ => 0) (fun _ => 0)) _ _
  refine xi_aload_n 0 dX11_feed_56 rfl ?_
  refine xi_get (f := 0) dX11_feed_57 rfl rfl ok_8 (by decide) w_242 rfl ?_
  refine xi_get (f := 1) dX11_feed_60 rfl rfl ok_1 (by decide) w_41 rfl ?_
  exact xi_iret dX11_feed_63 rfl rfl (Nat.le_of_ble_eq_true rfl) (Nat.le_of_ble_eq_true rfl) ⟨rfl, _, rfl⟩
set_option maxHeartbeats 4000000 in
set_option maxRecDepth 100000 in
theorem au_1 (G : xG) : xC G mX1_at 0 0 0 [.ref 1, .int 0] (MX 0 (fun _ => 0) rd0 mo0 (fun _ => 0) (fun _ => 0) (fun _ => 0)) (fun v M2 => v = some (.int (-1)) ∧ M2 = (MX 0 (fun _ => 0) rd0 mo0 (fun _ => 0) (fun _ => 0) (fun _ => 0))) := by
  refine xC.of (by decide) (Nat.le_of_ble_eq_true rfl) ?_
  show xW _ _ _ _ 0 [(0, .ref 1), (1, .int 0)] [] _ 0 0
  refine xi_iload_n 1 dX1_at_0 rfl ?_
  refine xi_if_lt_f (tgt := 25) dX1_at_1 (by decide) (by decide) ?_
  refine xi_iload_n 1 dX1_at_4 rfl ?_
  refine xi_aload_n 0 dX1_at_5 rfl ?_
  refine xi_get (f := 1) dX1_at_6 rfl rfl ok_1 (by decide) w_40 rfl ?_
  refine xi_icmp_ge_t (tgt := 25) dX1_at_9 (by decide) (by decide) ?_
  refine xi_iconst (v := (-1)) dX1_at_25 (by decide) ?_
  exact xi_iret dX1_at_26 rfl rfl (Nat.le_of_ble_eq_true rfl) (Nat.le_of_ble_eq_true rfl) ⟨rfl, rfl⟩
set_option maxHeartbeats 4000000 in
set_option maxRecDepth 100000 in
theorem au_2 (G : xG) : xC G mX7_kindOf 0 0 0 [.int (-1)] (MX 0 (fun _ => 0) rd0 mo0 (fun _ => 0) (fun _ => 0) (fun _ => 0)) (fun v M2 => v = some (.int 0) ∧ M2 = (MX 0 (fun _ => 0) rd0 mo0 (fun _ => 0) (fun _ => 0) (fun _ => 0))) := by
  refine xC.of (by decide) (Nat.le_of_ble_eq_true rfl) ?_
  show xW _ _ _ _ 0 [(0, .int (-1))] [] _ 0 0
  refine xi_iload_n 0 dX7_kindOf_0 rfl ?_
  refine xi_iconst (v := (-1)) dX7_kindOf_1 (by decide) ?_
  refine xi_icmp_ne_f (tgt := 7) dX7_kindOf_2 (by decide) (by decide) ?_
  refine xi_iconst (v := 0) dX7_kindOf_5 (by decide) ?_
  exact xi_iret dX7_kindOf_6 rfl rfl (Nat.le_of_ble_eq_true rfl) (Nat.le_of_ble_eq_true rfl) ⟨rfl, rfl⟩
set_option maxHeartbeats 4000000 in
set_option maxRecDepth 100000 in
theorem au_3 (G : xG) : xC G mX7_step 1 0 0 [.ref 5] (MX 0 (fun _ => 0) rd0 mo0 (fun _ => 0) (fun _ => 0) (fun _ => 0)) (fun v M2 => v = none ∧ M2 = (MX 0 (fun _ => 0) rd0 mo0 (fun _ => 0) (fun _ => 0) (fun _ => 0))) := by
  refine xC.of (by decide) (Nat.le_of_ble_eq_true rfl) ?_
  show xW _ _ _ _ 0 [(0, .ref 5)] [] _ 0 0
  refine xi_aload_n 0 dX7_step_0 rfl ?_
  refine xi_aload_n 0 dX7_step_1 rfl ?_
  refine xi_get (f := 6) dX7_step_2 rfl rfl ok_6 (by decide) w_105 rfl ?_
  refine xi_put (f := 5) (ty := .int) (M' := (MX 0 (fun _ => 0) rd0 mo0 (fun _ => 0) (fun _ => 0) (fun _ => 0))) dX7_step_5 rfl rfl ok_6 (by decide) w_104 rfl pf_I (fun _ h => by cases h) rfl rfl (Nat.le_of_ble_eq_true rfl) rfl ?_
  refine xi_aload_n 0 dX7_step_8 rfl ?_
  refine xi_get (f := 5) dX7_step_9 rfl rfl ok_6 (by decide) w_104 rfl ?_
  refine xi_aload_n 0 dX7_step_12 rfl ?_
  refine xi_get (f := 3) dX7_step_13 rfl rfl ok_6 (by decide) w_102 rfl ?_
  refine xi_get (f := 1) dX7_step_16 rfl rfl ok_1 (by decide) w_42 rfl ?_
  refine xi_icmp_ge_t (tgt := 52) dX7_step_19 (by decide) (by decide) ?_
  refine xi_aload_n 0 dX7_step_52 rfl ?_
  refine xi_aload_n 0 dX7_step_53 rfl ?_
  refine xi_get (f := 3) dX7_step_54 rfl rfl ok_6 (by decide) w_102 rfl ?_
  refine xi_aload_n 0 dX7_step_57 rfl ?_
  refine xi_get (f := 5) dX7_step_58 rfl rfl ok_6 (by decide) w_104 rfl ?_
  refine xi_callV (as := [.int 0]) (rest := [.ref 5]) dX7_step_61 (au_1 G) mkX1_at w_310 w_311 w_309 rfl rfl rfl rfl rfl (Nat.le_of_ble_eq_true rfl) (Nat.le_of_ble_eq_true rfl) (Nat.le_of_ble_eq_true rfl) (Nat.le_of_ble_eq_true rfl) (Nat.le_of_ble_eq_true rfl) ?_
  intro v M2 hq
  obtain ⟨rfl, rfl⟩ := hq
  show xW _ _ _ _ 64 _ [.int (-1), .ref 5] (MX 0 (fun _ => 0) rd0 mo0 (fun _ => 0) (fun _ => 0) (fun _ => 0)) _ _
  refine xi_callS (as := [.int (-1)]) (rest := [.ref 5]) dX7_step_64 (au_2 G) mkX7_kindOf w_317 w_316 rfl rfl (Nat.le_of_ble_eq_true rfl) (Nat.le_of_ble_eq_true rfl) (Nat.le_of_ble_eq_true rfl) (Nat.le_of_ble_eq_true rfl) (Nat.le_of_ble_eq_true rfl) ?_
  intro v M2 hq
  obtain ⟨rfl, rfl⟩ := hq
  show xW _ _ _ _ 67 _ [.int 0, .ref 5] (MX 0 (fun _ => 0) rd0 mo0 (fun _ => 0) (fun _ => 0) (fun _ => 0)) _ _
  refine xi_put (f := 4) (ty := .int) (M' := (MX 0 (fun _ => 0) rd0 mo0 (fun _ => 0) (fun _ => 0) (fun _ => 0))) dX7_step_67 rfl rfl ok_6 (by decide) w_103 rfl pf_I (fun _ h => by cases h) rfl rfl (Nat.le_of_ble_eq_true rfl) rfl ?_
  refine xi_aload_n 0 dX7_step_70 rfl ?_
  refine xi_aload_n 0 dX7_step_71 rfl ?_
  refine xi_get (f := 4) dX7_step_72 rfl rfl ok_6 (by decide) w_103 rfl ?_
  refine xi_if_ne_f (tgt := 85) dX7_step_75 (by decide) (by decide) ?_
  refine xi_aload_n 0 dX7_step_78 rfl ?_
  refine xi_get (f := 5) dX7_step_79 rfl rfl ok_6 (by decide) w_104 rfl ?_
  refine xi_goto (tgt := 91) dX7_step_82 (by decide) ?_
  refine xi_put (f := 6) (ty := .int) (M' := (MX 0 (fun _ => 0) rd0 mo0 (fun _ => 0) (fun _ => 0) (fun _ => 0))) dX7_step_91 rfl rfl ok_6 (by decide) w_105 rfl pf_I (fun _ h => by cases h) rfl rfl (Nat.le_of_ble_eq_true rfl) rfl ?_
  refine xi_aload_n 0 dX7_step_94 rfl ?_
  refine xi_get (f := 4) dX7_step_95 rfl rfl ok_6 (by decide) w_103 rfl ?_
  refine xi_iconst (v := 1) dX7_step_98 (by decide) ?_
  refine xi_icmp_eq_f (tgt := 110) dX7_step_99 (by decide) (by decide) ?_
  refine xi_aload_n 0 dX7_step_102 rfl ?_
  refine xi_get (f := 4) dX7_step_103 rfl rfl ok_6 (by decide) w_103 rfl ?_
  refine xi_iconst (v := 2) dX7_step_106 (by decide) ?_
  refine xi_icmp_ne_t (tgt := 158) dX7_step_107 (by decide) (by decide) ?_
  exact xi_vret dX7_step_158 rfl (Nat.le_of_ble_eq_true rfl) (Nat.le_of_ble_eq_true rfl) ⟨rfl, rfl⟩
set_option maxHeartbeats 4000000 in
set_option maxRecDepth 100000 in
theorem au_4 (G : xG) : xC G mX7_isWord 0 0 0 [.ref 5, .float 0] (MX 0 (fun _ => 0) rd0 mo0 (fun _ => 0) (fun _ => 0) (fun _ => 0)) (fun v M2 => v = some (.int 0) ∧ M2 = (MX 0 (fun _ => 0) rd0 mo0 (fun _ => 0) (fun _ => 0) (fun _ => 0))) := by
  refine xC.of (by decide) (Nat.le_of_ble_eq_true rfl) ?_
  show xW _ _ _ _ 0 [(0, .ref 5), (1, .float 0)] [] _ 0 0
  refine xi_aload_n 0 dX7_isWord_0 rfl ?_
  refine xi_get (f := 4) dX7_isWord_1 rfl rfl ok_6 (by decide) w_103 rfl ?_
  refine xi_iconst (v := 1) dX7_isWord_4 (by decide) ?_
  refine xi_icmp_ne_t (tgt := 24) dX7_isWord_5 (by decide) (by decide) ?_
  refine xi_iconst (v := 0) dX7_isWord_24 (by decide) ?_
  exact xi_iret dX7_isWord_25 rfl (by decide) (Nat.le_of_ble_eq_true rfl) (Nat.le_of_ble_eq_true rfl) ⟨rfl, rfl⟩
set_option maxHeartbeats 4000000 in
set_option maxRecDepth 100000 in
theorem au_5 (G : xG) : xC G mX7_blame 0 0 0 [.ref 5, .int 1] (MX 0 (fun _ => 0) rd0 mo0 (fun _ => 0) (fun _ => 0) (fun _ => 0)) (fun v M2 => v = some (.int 0) ∧ M2 = (MX 0 (fun _ => 0) (.inr (6, [.ref 6, .int 1, .int 0, .ref 1, .int 0, .int 0, .int 0, .int 0])) mo0 (fun _ => 0) (fun _ => 0) (fun _ => 0))) := by
  refine xC.of (by decide) (Nat.le_of_ble_eq_true rfl) ?_
  show xW _ _ _ _ 0 [(0, .ref 5), (1, .int 1)] [] _ 0 0
  refine xi_aload_n 0 dX7_blame_0 rfl ?_
  refine xi_iload_n 1 dX7_blame_1 rfl ?_
  refine xi_put (f := 1) (ty := .int) (M' := (MX 0 (fun _ => 0) (.inr (6, [.ref 6, .int 1, .int (-1), .ref 1, .int 0, .int 0, .int 0, .int 0])) mo0 (fun _ => 0) (fun _ => 0) (fun _ => 0))) dX7_blame_2 rfl rfl ok_6 (by decide) w_98 rfl pf_I (fun _ h => by cases h) rfl rfl (Nat.le_of_ble_eq_true rfl) rfl ?_
  refine xi_aload_n 0 dX7_blame_5 rfl ?_
  refine xi_aload_n 0 dX7_blame_6 rfl ?_
  refine xi_get (f := 5) dX7_blame_7 rfl rfl ok_6 (by decide) w_104 rfl ?_
  refine xi_put (f := 2) (ty := .int) (M' := (MX 0 (fun _ => 0) (.inr (6, [.ref 6, .int 1, .int 0, .ref 1, .int 0, .int 0, .int 0, .int 0])) mo0 (fun _ => 0) (fun _ => 0) (fun _ => 0))) dX7_blame_10 rfl rfl ok_6 (by decide) w_100 rfl pf_I (fun _ h => by cases h) rfl rfl (Nat.le_of_ble_eq_true rfl) rfl ?_
  refine xi_iconst (v := 0) dX7_blame_13 (by decide) ?_
  exact xi_iret dX7_blame_14 rfl (by decide) (Nat.le_of_ble_eq_true rfl) (Nat.le_of_ble_eq_true rfl) ⟨rfl, rfl⟩
set_option maxHeartbeats 4000000 in
set_option maxRecDepth 100000 in
theorem au_6 (G : xG) : xC G mX7_readHead 1 0 0 [.ref 5] (MX 0 (fun _ => 0) rd0 mo0 (fun _ => 0) (fun _ => 0) (fun _ => 0)) (fun v M2 => v = some (.int 0) ∧ M2 = (MX 0 (fun _ => 0) (.inr (6, [.ref 6, .int 1, .int 0, .ref 1, .int 0, .int 0, .int 0, .int 0])) mo0 (fun _ => 0) (fun _ => 0) (fun _ => 0))) := by
  refine xC.of (by decide) (Nat.le_of_ble_eq_true rfl) ?_
  show xW _ _ _ _ 0 [(0, .ref 5)] [] _ 0 0
  refine xi_aload_n 0 dX7_readHead_0 rfl ?_
  refine xi_ldcS (w := 0) dX7_readHead_1 st_0 rfl ?_
  refine xi_callV (as := [.float 0]) (rest := []) dX7_readHead_3 (au_4 G) mkX7_isWord w_326 ws_2 w_324 rfl rfl rfl rfl rfl (Nat.le_of_ble_eq_true rfl) (Nat.le_of_ble_eq_true rfl) (Nat.le_of_ble_eq_true rfl) (Nat.le_of_ble_eq_true rfl) (Nat.le_of_ble_eq_true rfl) ?_
  intro v M2 hq
  obtain ⟨rfl, rfl⟩ := hq
  show xW _ _ _ _ 6 _ [.int 0] (MX 0 (fun _ => 0) rd0 mo0 (fun _ => 0) (fun _ => 0) (fun _ => 0)) _ _
  refine xi_if_ne_f (tgt := 15) dX7_readHead_6 (by decide) (by decide) ?_
  refine xi_aload_n 0 dX7_readHead_9 rfl ?_
  refine xi_iconst (v := 1) dX7_readHead_10 (by decide) ?_
  refine xi_callV (as := [.int 1]) (rest := []) dX7_readHead_11 (au_5 G) mkX7_blame w_378 ws_3 w_376 rfl rfl rfl rfl rfl (Nat.le_of_ble_eq_true rfl) (Nat.le_of_ble_eq_true rfl) (Nat.le_of_ble_eq_true rfl) (Nat.le_of_ble_eq_true rfl) (Nat.le_of_ble_eq_true rfl) ?_
  intro v M2 hq
  obtain ⟨rfl, rfl⟩ := hq
  show xW _ _ _ _ 14 _ [.int 0] (MX 0 (fun _ => 0) (.inr (6, [.ref 6, .int 1, .int 0, .ref 1, .int 0, .int 0, .int 0, .int 0])) mo0 (fun _ => 0) (fun _ => 0) (fun _ => 0)) _ _
  exact xi_iret dX7_readHead_14 rfl (by decide) (Nat.le_of_ble_eq_true rfl) (Nat.le_of_ble_eq_true rfl) ⟨rfl, rfl⟩
set_option maxHeartbeats 4000000 in
set_option maxRecDepth 100000 in
theorem au_7 (G : xG) : xC G mX7_readAll 2 0 0 [.ref 5] (MX 0 (fun _ => 0) rd0 mo0 (fun _ => 0) (fun _ => 0) (fun _ => 0)) (fun v M2 => v = some (.int 0) ∧ M2 = (MX 0 (fun _ => 0) (.inr (6, [.ref 6, .int 1, .int 0, .ref 1, .int 0, .int 0, .int 0, .int 0])) mo0 (fun _ => 0) (fun _ => 0) (fun _ => 0))) := by
  refine xC.of (by decide) (Nat.le_of_ble_eq_true rfl) ?_
  show xW _ _ _ _ 0 [(0, .ref 5)] [] _ 0 0
  refine xi_aload_n 0 dX7_readAll_0 rfl ?_
  refine xi_iconst (v := 0) dX7_readAll_1 (by decide) ?_
  refine xi_put (f := 1) (ty := .int) (M' := (MX 0 (fun _ => 0) rd0 mo0 (fun _ => 0) (fun _ => 0) (fun _ => 0))) dX7_readAll_2 rfl rfl ok_6 (by decide) w_98 rfl pf_I (fun _ h => by cases h) rfl rfl (Nat.le_of_ble_eq_true rfl) rfl ?_
  refine xi_aload_n 0 dX7_readAll_5 rfl ?_
  refine xi_iconst (v := (-1)) dX7_readAll_6 (by decide) ?_
  refine xi_put (f := 2) (ty := .int) (M' := (MX 0 (fun _ => 0) rd0 mo0 (fun _ => 0) (fun _ => 0) (fun _ => 0))) dX7_readAll_7 rfl rfl ok_6 (by decide) w_100 rfl pf_I (fun _ h => by cases h) rfl rfl (Nat.le_of_ble_eq_true rfl) rfl ?_
  refine xi_aload_n 0 dX7_readAll_10 rfl ?_
  refine xi_iconst (v := 0) dX7_readAll_11 (by decide) ?_
  refine xi_put (f := 6) (ty := .int) (M' := (MX 0 (fun _ => 0) rd0 mo0 (fun _ => 0) (fun _ => 0) (fun _ => 0))) dX7_readAll_12 rfl rfl ok_6 (by decide) w_105 rfl pf_I (fun _ h => by cases h) rfl rfl (Nat.le_of_ble_eq_true rfl) rfl ?_
  refine xi_aload_n 0 dX7_readAll_15 rfl ?_
  refine xi_callV (as := []) (rest := []) dX7_readAll_16 (au_3 G) mkX7_step w_307 ws_0 w_305 rfl rfl rfl rfl rfl (Nat.le_of_ble_eq_true rfl) (Nat.le_of_ble_eq_true rfl) (Nat.le_of_ble_eq_true rfl) (Nat.le_of_ble_eq_true rfl) (Nat.le_of_ble_eq_true rfl) ?_
  intro v M2 hq
  obtain ⟨rfl, rfl⟩ := hq
  show xW _ _ _ _ 19 _ [] (MX 0 (fun _ => 0) rd0 mo0 (fun _ => 0) (fun _ => 0) (fun _ => 0)) _ _
  refine xi_aload_n 0 dX7_readAll_19 rfl ?_
  refine xi_callV (as := []) (rest := []) dX7_readAll_20 (au_6 G) mkX7_readHead w_321 ws_1 w_319 rfl rfl rfl rfl rfl (Nat.le_of_ble_eq_true rfl) (Nat.le_of_ble_eq_true rfl) (Nat.le_of_ble_eq_true rfl) (Nat.le_of_ble_eq_true rfl) (Nat.le_of_ble_eq_true rfl) ?_
  intro v M2 hq
  obtain ⟨rfl, rfl⟩ := hq
  show xW _ _ _ _ 23 _ [.int 0] (MX 0 (fun _ => 0) (.inr (6, [.ref 6, .int 1, .int 0, .ref 1, .int 0, .int 0, .int 0, .int 0])) mo0 (fun _ => 0) (fun _ => 0) (fun _ => 0)) _ _
  refine xi_if_eq_t (tgt := 44) dX7_readAll_23 (by decide) (by decide) ?_
  refine xi_iconst (v := 0) dX7_readAll_44 (by decide) ?_
  exact xi_iret dX7_readAll_45 rfl (by decide) (Nat.le_of_ble_eq_true rfl) (Nat.le_of_ble_eq_true rfl) ⟨rfl, rfl⟩
set_option maxHeartbeats 4000000 in
set_option maxRecDepth 100000 in
theorem fx_told_0 (G : xG) : xC G mX11_told 3 0 0 [.ref 0, .int 0] M0 (fun v M2 => v = some (.int (-4)) ∧ M2 = (MX 0 (fun _ => 0) (.inr (6, [.ref 6, .int 1, .int 0, .ref 1, .int 0, .int 0, .int 0, .int 0])) mo0 (fun _ => 0) (fun _ => 0) (fun _ => 0))) := by
  refine xC.of (by decide) (Nat.le_of_ble_eq_true rfl) ?_
  show xW _ _ _ _ 0 [(0, .ref 0), (1, .int 0)] [] _ 0 0
  refine xi_iload_n 1 dX11_told_0 rfl ?_
  refine xi_callS (as := [.int 0]) (rest := []) dX11_told_1 (fx_isSlot_0 G) mkX11_isSlot w_299 w_298 rfl rfl (Nat.le_of_ble_eq_true rfl) (Nat.le_of_ble_eq_true rfl) (Nat.le_of_ble_eq_true rfl) (Nat.le_of_ble_eq_true rfl) (Nat.le_of_ble_eq_true rfl) ?_
  intro v M2 hq
  obtain ⟨rfl, rfl⟩ := hq
  show xW _ _ _ _ 4 _ [.int 1] (MX 0 (fun _ => 0) rd0 mo0 (fun _ => 0) (fun _ => 0) (fun _ => 0)) _ _
  refine xi_if_ne_t (tgt := 10) dX11_told_4 (by decide) (by decide) ?_
  refine xi_aload_n 0 dX11_told_10 rfl ?_
  refine xi_get (f := 2) dX11_told_11 rfl rfl ok_8 (by decide) w_244 rfl ?_
  refine xi_callV (as := []) (rest := []) dX11_told_14 (au_7 G) mkX7_readAll w_302 w_303 w_301 rfl rfl rfl rfl rfl (Nat.le_of_ble_eq_true rfl) (Nat.le_of_ble_eq_true rfl) (Nat.le_of_ble_eq_true rfl) (Nat.le_of_ble_eq_true rfl) (Nat.le_of_ble_eq_true rfl) ?_
  intro v M2 hq
  obtain ⟨rfl, rfl⟩ := hq
  show xW _ _ _ _ 17 _ [.int 0] (MX 0 (fun _ => 0) (.inr (6, [.ref 6, .int 1, .int 0, .ref 1, .int 0, .int 0, .int 0, .int 0])) mo0 (fun _ => 0) (fun _ => 0) (fun _ => 0)) _ _
  refine xi_istore_n (lv' := [(2, .int 0), (0, .ref 0), (1, .int 0)]) dX11_told_17 (by decide) rfl ?_
  refine xi_aload_n 1 dX11_told_18 rfl ?_
  refine xi_get (f := 0) dX11_told_19 rfl rfl ok_8 (by decide) w_242 rfl ?_
  refine xi_iconst (v := 0) dX11_told_22 (by decide) ?_
  refine xi_put (f := 1) (ty := .int) (M' := (MX 0 (fun _ => 0) (.inr (6, [.ref 6, .int 1, .int 0, .ref 1, .int 0, .int 0, .int 0, .int 0])) mo0 (fun _ => 0) (fun _ => 0) (fun _ => 0))) dX11_told_23 rfl rfl ok_1 (by decide) w_41 rfl pf_I (fun _ h => by cases h) rfl rfl (Nat.le_of_ble_eq_true rfl) rfl ?_
  refine xi_iload_n 0 dX11_told_26 rfl ?_
  refine xi_if_ne_f (tgt := 33) dX11_told_27 (by decide) (by decide) ?_
  refine xi_bipush (v := (-4)) dX11_told_30 (by decide) ?_
  exact xi_iret dX11_told_32 rfl rfl (Nat.le_of_ble_eq_true rfl) (Nat.le_of_ble_eq_true rfl) ⟨rfl, rfl⟩
set_option maxHeartbeats 4000000 in
set_option maxRecDepth 100000 in
theorem fx_told_1 (G : xG) : xC G mX11_told 3 0 0 [.ref 0, .int 1] M0 (fun v M2 => v = some (.int (-4)) ∧ M2 = (MX 0 (fun _ => 0) (.inr (6, [.ref 6, .int 1, .int 0, .ref 1, .int 0, .int 0, .int 0, .int 0])) mo0 (fun _ => 0) (fun _ => 0) (fun _ => 0))) := by
  refine xC.of (by decide) (Nat.le_of_ble_eq_true rfl) ?_
  show xW _ _ _ _ 0 [(0, .ref 0), (1, .int 1)] [] _ 0 0
  refine xi_iload_n 1 dX11_told_0 rfl ?_
  refine xi_callS (as := [.int 1]) (rest := []) dX11_told_1 (fx_isSlot_1 G) mkX11_isSlot w_299 w_298 rfl rfl (Nat.le_of_ble_eq_true rfl) (Nat.le_of_ble_eq_true rfl) (Nat.le_of_ble_eq_true rfl) (Nat.le_of_ble_eq_true rfl) (Nat.le_of_ble_eq_true rfl) ?_
  intro v M2 hq
  obtain ⟨rfl, rfl⟩ := hq
  show xW _ _ _ _ 4 _ [.int 1] (MX 0 (fun _ => 0) rd0 mo0 (fun _ => 0) (fun _ => 0) (fun _ => 0)) _ _
  refine xi_if_ne_t (tgt := 10) dX11_told_4 (by decide) (by decide) ?_
  refine xi_aload_n 0 dX11_told_10 rfl ?_
  refine xi_get (f := 2) dX11_told_11 rfl rfl ok_8 (by decide) w_244 rfl ?_
  refine xi_callV (as := []) (rest := []) dX11_told_14 (au_7 G) mkX7_readAll w_302 w_303 w_301 rfl rfl rfl rfl rfl (Nat.le_of_ble_eq_true rfl) (Nat.le_of_ble_eq_true rfl) (Nat.le_of_ble_eq_true rfl) (Nat.le_of_ble_eq_true rfl) (Nat.le_of_ble_eq_true rfl) ?_
  intro v M2 hq
  obtain ⟨rfl, rfl⟩ := hq
  show xW _ _ _ _ 17 _ [.int 0] (MX 0 (fun _ => 0) (.inr (6, [.ref 6, .int 1, .int 0, .ref 1, .int 0, .int 0, .int 0, .int 0])) mo0 (fun _ => 0) (fun _ => 0) (fun _ => 0)) _ _
  refine xi_istore_n (lv' := [(2, .int 0), (0, .ref 0), (1, .int 1)]) dX11_told_17 (by decide) rfl ?_
  refine xi_aload_n 1 dX11_told_18 rfl ?_
  refine xi_get (f := 0) dX11_told_19 rfl rfl ok_8 (by decide) w_242 rfl ?_
  refine xi_iconst (v := 0) dX11_told_22 (by decide) ?_
  refine xi_put (f := 1) (ty := .int) (M' := (MX 0 (fun _ => 0) (.inr (6, [.ref 6, .int 1, .int 0, .ref 1, .int 0, .int 0, .int 0, .int 0])) mo0 (fun _ => 0) (fun _ => 0) (fun _ => 0))) dX11_told_23 rfl rfl ok_1 (by decide) w_41 rfl pf_I (fun _ h => by cases h) rfl rfl (Nat.le_of_ble_eq_true rfl) rfl ?_
  refine xi_iload_n 0 dX11_told_26 rfl ?_
  refine xi_if_ne_f (tgt := 33) dX11_told_27 (by decide) (by decide) ?_
  refine xi_bipush (v := (-4)) dX11_told_30 (by decide) ?_
  exact xi_iret dX11_told_32 rfl rfl (Nat.le_of_ble_eq_true rfl) (Nat.le_of_ble_eq_true rfl) ⟨rfl, rfl⟩
set_option maxHeartbeats 4000000 in
set_option maxRecDepth 100000 in
theorem fx_told_2 (G : xG) : xC G mX11_told 3 0 0 [.ref 0, .int 2] M0 (fun v M2 => v = some (.int (-4)) ∧ M2 = (MX 0 (fun _ => 0) (.inr (6, [.ref 6, .int 1, .int 0, .ref 1, .int 0, .int 0, .int 0, .int 0])) mo0 (fun _ => 0) (fun _ => 0) (fun _ => 0))) := by
  refine xC.of (by decide) (Nat.le_of_ble_eq_true rfl) ?_
  show xW _ _ _ _ 0 [(0, .ref 0), (1, .int 2)] [] _ 0 0
  refine xi_iload_n 1 dX11_told_0 rfl ?_
  refine xi_callS (as := [.int 2]) (rest := []) dX11_told_1 (fx_isSlot_2 G) mkX11_isSlot w_299 w_298 rfl rfl (Nat.le_of_ble_eq_true rfl) (Nat.le_of_ble_eq_true rfl) (Nat.le_of_ble_eq_true rfl) (Nat.le_of_ble_eq_true rfl) (Nat.le_of_ble_eq_true rfl) ?_
  intro v M2 hq
  obtain ⟨rfl, rfl⟩ := hq
  show xW _ _ _ _ 4 _ [.int 1] (MX 0 (fun _ => 0) rd0 mo0 (fun _ => 0) (fun _ => 0) (fun _ => 0)) _ _
  refine xi_if_ne_t (tgt := 10) dX11_told_4 (by decide) (by decide) ?_
  refine xi_aload_n 0 dX11_told_10 rfl ?_
  refine xi_get (f := 2) dX11_told_11 rfl rfl ok_8 (by decide) w_244 rfl ?_
  refine xi_callV (as := []) (rest := []) dX11_told_14 (au_7 G) mkX7_readAll w_302 w_303 w_301 rfl rfl rfl rfl rfl (Nat.le_of_ble_eq_true rfl) (Nat.le_of_ble_eq_true rfl) (Nat.le_of_ble_eq_true rfl) (Nat.le_of_ble_eq_true rfl) (Nat.le_of_ble_eq_true rfl) ?_
  intro v M2 hq
  obtain ⟨rfl, rfl⟩ := hq
  show xW _ _ _ _ 17 _ [.int 0] (MX 0 (fun _ => 0) (.inr (6, [.ref 6, .int 1, .int 0, .ref 1, .int 0, .int 0, .int 0, .int 0])) mo0 (fun _ => 0) (fun _ => 0) (fun _ => 0)) _ _
  refine xi_istore_n (lv' := [(2, .int 0), (0, .ref 0), (1, .int 2)]) dX11_told_17 (by decide) rfl ?_
  refine xi_aload_n 1 dX11_told_18 rfl ?_
  refine xi_get (f := 0) dX11_told_19 rfl rfl ok_8 (by decide) w_242 rfl ?_
  refine xi_iconst (v := 0) dX11_told_22 (by decide) ?_
  refine xi_put (f := 1) (ty := .int) (M' := (MX 0 (fun _ => 0) (.inr (6, [.ref 6, .int 1, .int 0, .ref 1, .int 0, .int 0, .int 0, .int 0])) mo0 (fun _ => 0) (fun _ => 0) (fun _ => 0))) dX11_told_23 rfl rfl ok_1 (by decide) w_41 rfl pf_I (fun _ h => by cases h) rfl rfl (Nat.le_of_ble_eq_true rfl) rfl ?_
  refine xi_iload_n 0 dX11_told_26 rfl ?_
  refine xi_if_ne_f (tgt := 33) dX11_told_27 (by decide) (by decide) ?_
  refine xi_bipush (v := (-4)) dX11_told_30 (by decide) ?_
  exact xi_iret dX11_told_32 rfl rfl (Nat.le_of_ble_eq_true rfl) (Nat.le_of_ble_eq_true rfl) ⟨rfl, rfl⟩
set_option maxHeartbeats 4000000 in
set_option maxRecDepth 100000 in
theorem fx_told_out (G : xG) (a1 : Int32) (h : a1 < 0 ∨ 3 ≤ a1) : xC G mX11_told 3 0 0 [.ref 0, .int a1] (MX 0 (fun _ => 0) rd0 mo0 (fun _ => 0) (fun _ => 0) (fun _ => 0)) (fun v M2 => v = some (.int (-2)) ∧ M2 = (MX 0 (fun _ => 0) rd0 mo0 (fun _ => 0) (fun _ => 0) (fun _ => 0))) := by
  refine xC.of (by decide) (Nat.le_of_ble_eq_true rfl) ?_
  show xW _ _ _ _ 0 [(0, .ref 0), (1, .int a1)] [] _ 0 0
  refine xi_iload_n 1 dX11_told_0 rfl ?_
  refine xi_callS (as := [.int a1]) (rest := []) dX11_told_1 (fx_isSlot_out G _ h) mkX11_isSlot w_299 w_298 rfl rfl (Nat.le_of_ble_eq_true rfl) (Nat.le_of_ble_eq_true rfl) (Nat.le_of_ble_eq_true rfl) (Nat.le_of_ble_eq_true rfl) (Nat.le_of_ble_eq_true rfl) ?_
  intro v M2 hq
  obtain ⟨rfl, rfl⟩ := hq
  show xW _ _ _ _ 4 _ [.int 0] (MX 0 (fun _ => 0) rd0 mo0 (fun _ => 0) (fun _ => 0) (fun _ => 0)) _ _
  refine xi_if_ne_f (tgt := 10) dX11_told_4 (by decide) (by decide) ?_
  refine xi_bipush (v := (-2)) dX11_told_7 (by decide) ?_
  exact xi_iret dX11_told_9 rfl rfl (Nat.le_of_ble_eq_true rfl) (Nat.le_of_ble_eq_true rfl) ⟨rfl, rfl⟩
theorem lgN (x y : Int64) : lg_cmp x y < 0 ↔ x < y := by
  unfold lg_cmp
  by_cases h1 : y < x
  · have h2 : ¬ x < y := fun h => by rw [Int64.lt_iff_toInt_lt] at h h1; omega
    rw [if_pos h1]
    exact ⟨fun h => absurd h (by decide), fun h => absurd h h2⟩
  · by_cases h2 : x = y
    · subst h2
      rw [if_neg h1, if_pos rfl]
      exact ⟨fun h => absurd h (by decide), fun h => absurd h h1⟩
    · rw [if_neg h1, if_neg h2]
      refine ⟨fun _ => ?_, fun _ => by decide⟩
      have h3 : x.toInt ≠ y.toInt := fun e => h2 (Int64.toInt_inj.mp e)
      rw [Int64.lt_iff_toInt_lt] at h1 ⊢
      omega
theorem lgP (x y : Int64) : 0 < lg_cmp x y ↔ y < x := by
  unfold lg_cmp
  by_cases h1 : y < x
  · rw [if_pos h1]
    exact ⟨fun _ => h1, fun _ => by decide⟩
  · by_cases h2 : x = y
    · rw [if_neg h1, if_pos h2]
      exact ⟨fun h => absurd h (by decide), fun h => absurd h h1⟩
    · rw [if_neg h1, if_neg h2]
      exact ⟨fun h => absurd h (by decide), fun h => absurd h h1⟩
theorem wdl (x : Int32) (b : Int64) : x.toInt64 < b ↔ x.toInt < b.toInt := by rw [Int64.lt_iff_toInt_lt, Int32.toInt_toInt64]
theorem wdr (x : Int32) (b : Int64) : b < x.toInt64 ↔ b.toInt < x.toInt := by rw [Int64.lt_iff_toInt_lt, Int32.toInt_toInt64]
theorem in_no {x : Int32} {lo hi : Int64} (h : x.toInt < lo.toInt ∨ hi.toInt < x.toInt) (c1 : ¬ lg_cmp x.toInt64 lo < 0) (c2 : ¬ 0 < lg_cmp x.toInt64 hi) : False := by
  rw [lgN, wdl] at c1
  rw [lgP, wdr] at c2
  exact h.elim c1 c2
theorem out3 {x : Int32} (h : x < 0 ∨ 3 ≤ x) : x.toInt < (0 : Int64).toInt ∨ (2 : Int64).toInt < x.toInt := by
  rcases h with h | h
  · rw [Int32.lt_iff_toInt_lt] at h
    exact Or.inl h
  · rw [Int32.le_iff_toInt_le] at h
    refine Or.inr ?_
    have e3 : (3 : Int32).toInt = 3 := by decide
    have e2 : (2 : Int64).toInt = 2 := by decide
    omega
theorem out1 {x : Int32} (h : x < 0 ∨ 0 < x) : x.toInt < (0 : Int64).toInt ∨ (0 : Int64).toInt < x.toInt := by
  rcases h with h | h
  · rw [Int32.lt_iff_toInt_lt] at h
    exact Or.inl h
  · rw [Int32.lt_iff_toInt_lt] at h
    exact Or.inr h
theorem outm (x : Int32) : x.toInt < (0 : Int64).toInt ∨ (-1 : Int64).toInt < x.toInt := by
  have e1 : (-1 : Int64).toInt = -1 := by decide
  have e0 : (0 : Int64).toInt = 0 := by decide
  omega
set_option maxHeartbeats 4000000 in
set_option maxRecDepth 100000 in
theorem fm_in_s (G : xG) (a1 : Int32) (h : a1.toInt < (0 : Int64).toInt ∨ (2 : Int64).toInt < a1.toInt) : xC G mX12_in 0 0 0 [.long a1.toInt64, .long 0, .long 2] (MX 0 (fun _ => 0) rd0 mo0 (fun _ => 0) (fun _ => 0) (fun _ => 0)) (fun v M2 => v = some (.int 0) ∧ M2 = (MX 0 (fun _ => 0) rd0 mo0 (fun _ => 0) (fun _ => 0) (fun _ => 0))) := by
  refine xC.of (by decide) (Nat.le_of_ble_eq_true rfl) ?_
  show xW _ _ _ _ 0 [(0, .long a1.toInt64), (2, .long 0), (4, .long 2)] [] _ 0 0
  refine xi_lload_n 0 dX12_in_0 rfl ?_
  refine xi_lload_n 1 dX12_in_1 rfl ?_
  refine xi_lcmp dX12_in_2 rfl ?_
  refine xi_if_lt (tgt := 17) dX12_in_3 (by decide) (fun c1 => ?_) (fun c1 => ?_)
  · refine xi_iconst (v := 0) dX12_in_17 (by decide) ?_
    exact xi_iret dX12_in_18 rfl (by decide) (Nat.le_of_ble_eq_true rfl) (Nat.le_of_ble_eq_true rfl) ⟨rfl, rfl⟩
  · refine xi_lload_n 0 dX12_in_6 rfl ?_
    refine xi_lload 2 dX12_in_7 rfl ?_
    refine xi_lcmp dX12_in_9 rfl ?_
    refine xi_if_gt (tgt := 17) dX12_in_10 (by decide) (fun c2 => ?_) (fun c2 => ?_)
    · refine xi_iconst (v := 0) dX12_in_17 (by decide) ?_
      exact xi_iret dX12_in_18 rfl (by decide) (Nat.le_of_ble_eq_true rfl) (Nat.le_of_ble_eq_true rfl) ⟨rfl, rfl⟩
    · refine xi_iconst (v := 1) dX12_in_13 (by decide) ?_
      refine xi_goto (tgt := 18) dX12_in_14 (by decide) ?_
      exact (in_no h c1 c2).elim
set_option maxHeartbeats 4000000 in
set_option maxRecDepth 100000 in
theorem fm_in_o (G : xG) (a1 : Int32) (h : a1.toInt < (0 : Int64).toInt ∨ (-1 : Int64).toInt < a1.toInt) : xC G mX12_in 0 0 0 [.long a1.toInt64, .long 0, .long (-1)] (MX 0 (fun _ => 0) rd0 mo0 (fun _ => 0) (fun _ => 0) (fun _ => 0)) (fun v M2 => v = some (.int 0) ∧ M2 = (MX 0 (fun _ => 0) rd0 mo0 (fun _ => 0) (fun _ => 0) (fun _ => 0))) := by
  refine xC.of (by decide) (Nat.le_of_ble_eq_true rfl) ?_
  show xW _ _ _ _ 0 [(0, .long a1.toInt64), (2, .long 0), (4, .long (-1))] [] _ 0 0
  refine xi_lload_n 0 dX12_in_0 rfl ?_
  refine xi_lload_n 1 dX12_in_1 rfl ?_
  refine xi_lcmp dX12_in_2 rfl ?_
  refine xi_if_lt (tgt := 17) dX12_in_3 (by decide) (fun c1 => ?_) (fun c1 => ?_)
  · refine xi_iconst (v := 0) dX12_in_17 (by decide) ?_
    exact xi_iret dX12_in_18 rfl (by decide) (Nat.le_of_ble_eq_true rfl) (Nat.le_of_ble_eq_true rfl) ⟨rfl, rfl⟩
  · refine xi_lload_n 0 dX12_in_6 rfl ?_
    refine xi_lload 2 dX12_in_7 rfl ?_
    refine xi_lcmp dX12_in_9 rfl ?_
    refine xi_if_gt (tgt := 17) dX12_in_10 (by decide) (fun c2 => ?_) (fun c2 => ?_)
    · refine xi_iconst (v := 0) dX12_in_17 (by decide) ?_
      exact xi_iret dX12_in_18 rfl (by decide) (Nat.le_of_ble_eq_true rfl) (Nat.le_of_ble_eq_true rfl) ⟨rfl, rfl⟩
    · refine xi_iconst (v := 1) dX12_in_13 (by decide) ?_
      refine xi_goto (tgt := 18) dX12_in_14 (by decide) ?_
      exact (in_no h c1 c2).elim
set_option maxHeartbeats 4000000 in
set_option maxRecDepth 100000 in
theorem fm_in_e (G : xG) (a1 : Int32) (h : a1.toInt < (0 : Int64).toInt ∨ (0 : Int64).toInt < a1.toInt) : xC G mX12_in 0 0 0 [.long a1.toInt64, .long 0, .long 0] (MX 0 (fun _ => 0) rd0 mo0 (fun _ => 0) (fun _ => 0) (fun _ => 0)) (fun v M2 => v = some (.int 0) ∧ M2 = (MX 0 (fun _ => 0) rd0 mo0 (fun _ => 0) (fun _ => 0) (fun _ => 0))) := by
  refine xC.of (by decide) (Nat.le_of_ble_eq_true rfl) ?_
  show xW _ _ _ _ 0 [(0, .long a1.toInt64), (2, .long 0), (4, .long 0)] [] _ 0 0
  refine xi_lload_n 0 dX12_in_0 rfl ?_
  refine xi_lload_n 1 dX12_in_1 rfl ?_
  refine xi_lcmp dX12_in_2 rfl ?_
  refine xi_if_lt (tgt := 17) dX12_in_3 (by decide) (fun c1 => ?_) (fun c1 => ?_)
  · refine xi_iconst (v := 0) dX12_in_17 (by decide) ?_
    exact xi_iret dX12_in_18 rfl (by decide) (Nat.le_of_ble_eq_true rfl) (Nat.le_of_ble_eq_true rfl) ⟨rfl, rfl⟩
  · refine xi_lload_n 0 dX12_in_6 rfl ?_
    refine xi_lload 2 dX12_in_7 rfl ?_
    refine xi_lcmp dX12_in_9 rfl ?_
    refine xi_if_gt (tgt := 17) dX12_in_10 (by decide) (fun c2 => ?_) (fun c2 => ?_)
    · refine xi_iconst (v := 0) dX12_in_17 (by decide) ?_
      exact xi_iret dX12_in_18 rfl (by decide) (Nat.le_of_ble_eq_true rfl) (Nat.le_of_ble_eq_true rfl) ⟨rfl, rfl⟩
    · refine xi_iconst (v := 1) dX12_in_13 (by decide) ?_
      refine xi_goto (tgt := 18) dX12_in_14 (by decide) ?_
      exact (in_no h c1 c2).elim
set_option maxHeartbeats 4000000 in
set_option maxRecDepth 100000 in
theorem fm_isSlot_out (G : xG) (a1 : Int32) (h : a1 < 0 ∨ 3 ≤ a1) : xC G mX12_isSlot 1 0 0 [.int a1] (MX 0 (fun _ => 0) rd0 mo0 (fun _ => 0) (fun _ => 0) (fun _ => 0)) (fun v M2 => v = some (.int 0) ∧ M2 = (MX 0 (fun _ => 0) rd0 mo0 (fun _ => 0) (fun _ => 0) (fun _ => 0))) := by
  refine xC.of (by decide) (Nat.le_of_ble_eq_true rfl) ?_
  show xW _ _ _ _ 0 [(0, .int a1)] [] _ 0 0
  refine xi_iload_n 0 dX12_isSlot_0 rfl ?_
  refine xi_i2l dX12_isSlot_1 rfl ?_
  refine xi_lconst (v := 0) dX12_isSlot_2 (by decide) ?_
  refine xi_ldc2 (v := 2) dX12_isSlot_3 w_1098 ?_
  refine xi_callS (as := [.long a1.toInt64, .long 0, .long 2]) (rest := []) dX12_isSlot_6 (fm_in_s G _ (out3 h)) mkX12_in w_1100 w_1099 rfl rfl (Nat.le_of_ble_eq_true rfl) (Nat.le_of_ble_eq_true rfl) (Nat.le_of_ble_eq_true rfl) (Nat.le_of_ble_eq_true rfl) (Nat.le_of_ble_eq_true rfl) ?_
  intro v M2 hq
  obtain ⟨rfl, rfl⟩ := hq
  show xW _ _ _ _ 9 _ [.int 0] (MX 0 (fun _ => 0) rd0 mo0 (fun _ => 0) (fun _ => 0) (fun _ => 0)) _ _
  exact xi_iret dX12_isSlot_9 rfl (by decide) (Nat.le_of_ble_eq_true rfl) (Nat.le_of_ble_eq_true rfl) ⟨rfl, rfl⟩
set_option maxHeartbeats 4000000 in
set_option maxRecDepth 100000 in
theorem au_8 (G : xG) : xC G mX12_in 0 0 0 [.long 0, .long 0, .long 2] (MX 0 (fun _ => 0) rd0 mo0 (fun _ => 0) (fun _ => 0) (fun _ => 0)) (fun v M2 => v = some (.int 1) ∧ M2 = (MX 0 (fun _ => 0) rd0 mo0 (fun _ => 0) (fun _ => 0) (fun _ => 0))) := by
  refine xC.of (by decide) (Nat.le_of_ble_eq_true rfl) ?_
  show xW _ _ _ _ 0 [(0, .long 0), (2, .long 0), (4, .long 2)] [] _ 0 0
  refine xi_lload_n 0 dX12_in_0 rfl ?_
  refine xi_lload_n 1 dX12_in_1 rfl ?_
  refine xi_lcmp (v := 0) dX12_in_2 (by decide) ?_
  refine xi_if_lt_f (tgt := 17) dX12_in_3 (by decide) (by decide) ?_
  refine xi_lload_n 0 dX12_in_6 rfl ?_
  refine xi_lload 2 dX12_in_7 rfl ?_
  refine xi_lcmp (v := (-1)) dX12_in_9 (by decide) ?_
  refine xi_if_gt_f (tgt := 17) dX12_in_10 (by decide) (by decide) ?_
  refine xi_iconst (v := 1) dX12_in_13 (by decide) ?_
  refine xi_goto (tgt := 18) dX12_in_14 (by decide) ?_
  exact xi_iret dX12_in_18 rfl (by decide) (Nat.le_of_ble_eq_true rfl) (Nat.le_of_ble_eq_true rfl) ⟨rfl, rfl⟩
set_option maxHeartbeats 4000000 in
set_option maxRecDepth 100000 in
theorem au_9 (G : xG) : xC G mX12_isSlot 1 0 0 [.int 0] (MX 0 (fun _ => 0) rd0 mo0 (fun _ => 0) (fun _ => 0) (fun _ => 0)) (fun v M2 => v = some (.int 1) ∧ M2 = (MX 0 (fun _ => 0) rd0 mo0 (fun _ => 0) (fun _ => 0) (fun _ => 0))) := by
  refine xC.of (by decide) (Nat.le_of_ble_eq_true rfl) ?_
  show xW _ _ _ _ 0 [(0, .int 0)] [] _ 0 0
  refine xi_iload_n 0 dX12_isSlot_0 rfl ?_
  refine xi_i2l (v := 0) dX12_isSlot_1 (by decide) ?_
  refine xi_lconst (v := 0) dX12_isSlot_2 (by decide) ?_
  refine xi_ldc2 (v := 2) dX12_isSlot_3 w_1098 ?_
  refine xi_callS (as := [.long 0, .long 0, .long 2]) (rest := []) dX12_isSlot_6 (au_8 G) mkX12_in w_1100 w_1099 rfl rfl (Nat.le_of_ble_eq_true rfl) (Nat.le_of_ble_eq_true rfl) (Nat.le_of_ble_eq_true rfl) (Nat.le_of_ble_eq_true rfl) (Nat.le_of_ble_eq_true rfl) ?_
  intro v M2 hq
  obtain ⟨rfl, rfl⟩ := hq
  show xW _ _ _ _ 9 _ [.int 1] (MX 0 (fun _ => 0) rd0 mo0 (fun _ => 0) (fun _ => 0) (fun _ => 0)) _ _
  exact xi_iret dX12_isSlot_9 rfl (by decide) (Nat.le_of_ble_eq_true rfl) (Nat.le_of_ble_eq_true rfl) ⟨rfl, rfl⟩
set_option maxHeartbeats 4000000 in
set_option maxRecDepth 100000 in
theorem au_10 (G : xG) : xC G mX12_points 0 0 0 [.ref 149, .int 0] (MX 0 (fun _ => 0) rd0 mo0 (fun _ => 0) (fun _ => 0) (fun _ => 0)) (fun v M2 => v = some (.int 0) ∧ M2 = (MX 0 (fun _ => 0) rd0 mo0 (fun _ => 0) (fun _ => 0) (fun _ => 0))) := by
  refine xC.of (by decide) (Nat.le_of_ble_eq_true rfl) ?_
  show xW _ _ _ _ 0 [(0, .ref 149), (1, .int 0)] [] _ 0 0
  refine xi_aload_n 0 dX12_points_0 rfl ?_
  refine xi_get (f := 0) dX12_points_1 rfl rfl ok_9 (by decide) w_1008 rfl ?_
  refine xi_bipush (v := 91) dX12_points_4 (by decide) ?_
  refine xi_iload_n 1 dX12_points_6 rfl ?_
  refine xi_imul (v := 0) dX12_points_7 (by decide) ?_
  refine xi_iaload (v := 0) dX12_points_8 rfl (by unfold vp_in; decide) rfl ?_
  exact xi_iret dX12_points_9 rfl rfl (Nat.le_of_ble_eq_true rfl) (Nat.le_of_ble_eq_true rfl) ⟨rfl, rfl⟩
set_option maxHeartbeats 4000000 in
set_option maxRecDepth 100000 in
theorem fm_isNet_0 (G : xG) : xC G mX12_isNet 2 0 0 [.ref 149, .int 0] (MX 0 (fun _ => 0) rd0 mo0 (fun _ => 0) (fun _ => 0) (fun _ => 0)) (fun v M2 => v = some (.int 0) ∧ M2 = (MX 0 (fun _ => 0) rd0 mo0 (fun _ => 0) (fun _ => 0) (fun _ => 0))) := by
  refine xC.of (by decide) (Nat.le_of_ble_eq_true rfl) ?_
  show xW _ _ _ _ 0 [(0, .ref 149), (1, .int 0)] [] _ 0 0
  refine xi_iload_n 1 dX12_isNet_0 rfl ?_
  refine xi_callS (as := [.int 0]) (rest := []) dX12_isNet_1 (au_9 G) mkX12_isSlot w_1096 w_1095 rfl rfl (Nat.le_of_ble_eq_true rfl) (Nat.le_of_ble_eq_true rfl) (Nat.le_of_ble_eq_true rfl) (Nat.le_of_ble_eq_true rfl) (Nat.le_of_ble_eq_true rfl) ?_
  intro v M2 hq
  obtain ⟨rfl, rfl⟩ := hq
  show xW _ _ _ _ 4 _ [.int 1] (MX 0 (fun _ => 0) rd0 mo0 (fun _ => 0) (fun _ => 0) (fun _ => 0)) _ _
  refine xi_if_eq_f (tgt := 19) dX12_isNet_4 (by decide) (by decide) ?_
  refine xi_aload_n 0 dX12_isNet_7 rfl ?_
  refine xi_iload_n 1 dX12_isNet_8 rfl ?_
  refine xi_callV (as := [.int 0]) (rest := []) dX12_isNet_9 (au_10 G) mkX12_points w_1108 ws_36 w_1106 rfl rfl rfl rfl rfl (Nat.le_of_ble_eq_true rfl) (Nat.le_of_ble_eq_true rfl) (Nat.le_of_ble_eq_true rfl) (Nat.le_of_ble_eq_true rfl) (Nat.le_of_ble_eq_true rfl) ?_
  intro v M2 hq
  obtain ⟨rfl, rfl⟩ := hq
  show xW _ _ _ _ 12 _ [.int 0] (MX 0 (fun _ => 0) rd0 mo0 (fun _ => 0) (fun _ => 0) (fun _ => 0)) _ _
  refine xi_if_le_t (tgt := 19) dX12_isNet_12 (by decide) (by decide) ?_
  refine xi_iconst (v := 0) dX12_isNet_19 (by decide) ?_
  exact xi_iret dX12_isNet_20 rfl (by decide) (Nat.le_of_ble_eq_true rfl) (Nat.le_of_ble_eq_true rfl) ⟨rfl, rfl⟩
set_option maxHeartbeats 4000000 in
set_option maxRecDepth 100000 in
theorem au_11 (G : xG) : xC G mX12_in 0 0 0 [.long 1, .long 0, .long 2] (MX 0 (fun _ => 0) rd0 mo0 (fun _ => 0) (fun _ => 0) (fun _ => 0)) (fun v M2 => v = some (.int 1) ∧ M2 = (MX 0 (fun _ => 0) rd0 mo0 (fun _ => 0) (fun _ => 0) (fun _ => 0))) := by
  refine xC.of (by decide) (Nat.le_of_ble_eq_true rfl) ?_
  show xW _ _ _ _ 0 [(0, .long 1), (2, .long 0), (4, .long 2)] [] _ 0 0
  refine xi_lload_n 0 dX12_in_0 rfl ?_
  refine xi_lload_n 1 dX12_in_1 rfl ?_
  refine xi_lcmp (v := 1) dX12_in_2 (by decide) ?_
  refine xi_if_lt_f (tgt := 17) dX12_in_3 (by decide) (by decide) ?_
  refine xi_lload_n 0 dX12_in_6 rfl ?_
  refine xi_lload 2 dX12_in_7 rfl ?_
  refine xi_lcmp (v := (-1)) dX12_in_9 (by decide) ?_
  refine xi_if_gt_f (tgt := 17) dX12_in_10 (by decide) (by decide) ?_
  refine xi_iconst (v := 1) dX12_in_13 (by decide) ?_
  refine xi_goto (tgt := 18) dX12_in_14 (by decide) ?_
  exact xi_iret dX12_in_18 rfl (by decide) (Nat.le_of_ble_eq_true rfl) (Nat.le_of_ble_eq_true rfl) ⟨rfl, rfl⟩
set_option maxHeartbeats 4000000 in
set_option maxRecDepth 100000 in
theorem au_12 (G : xG) : xC G mX12_isSlot 1 0 0 [.int 1] (MX 0 (fun _ => 0) rd0 mo0 (fun _ => 0) (fun _ => 0) (fun _ => 0)) (fun v M2 => v = some (.int 1) ∧ M2 = (MX 0 (fun _ => 0) rd0 mo0 (fun _ => 0) (fun _ => 0) (fun _ => 0))) := by
  refine xC.of (by decide) (Nat.le_of_ble_eq_true rfl) ?_
  show xW _ _ _ _ 0 [(0, .int 1)] [] _ 0 0
  refine xi_iload_n 0 dX12_isSlot_0 rfl ?_
  refine xi_i2l (v := 1) dX12_isSlot_1 (by decide) ?_
  refine xi_lconst (v := 0) dX12_isSlot_2 (by decide) ?_
  refine xi_ldc2 (v := 2) dX12_isSlot_3 w_1098 ?_
  refine xi_callS (as := [.long 1, .long 0, .long 2]) (rest := []) dX12_isSlot_6 (au_11 G) mkX12_in w_1100 w_1099 rfl rfl (Nat.le_of_ble_eq_true rfl) (Nat.le_of_ble_eq_true rfl) (Nat.le_of_ble_eq_true rfl) (Nat.le_of_ble_eq_true rfl) (Nat.le_of_ble_eq_true rfl) ?_
  intro v M2 hq
  obtain ⟨rfl, rfl⟩ := hq
  show xW _ _ _ _ 9 _ [.int 1] (MX 0 (fun _ => 0) rd0 mo0 (fun _ => 0) (fun _ => 0) (fun _ => 0)) _ _
  exact xi_iret dX12_isSlot_9 rfl (by decide) (Nat.le_of_ble_eq_true rfl) (Nat.le_of_ble_eq_true rfl) ⟨rfl, rfl⟩
set_option maxHeartbeats 4000000 in
set_option maxRecDepth 100000 in
theorem au_13 (G : xG) : xC G mX12_points 0 0 0 [.ref 149, .int 1] (MX 0 (fun _ => 0) rd0 mo0 (fun _ => 0) (fun _ => 0) (fun _ => 0)) (fun v M2 => v = some (.int 0) ∧ M2 = (MX 0 (fun _ => 0) rd0 mo0 (fun _ => 0) (fun _ => 0) (fun _ => 0))) := by
  refine xC.of (by decide) (Nat.le_of_ble_eq_true rfl) ?_
  show xW _ _ _ _ 0 [(0, .ref 149), (1, .int 1)] [] _ 0 0
  refine xi_aload_n 0 dX12_points_0 rfl ?_
  refine xi_get (f := 0) dX12_points_1 rfl rfl ok_9 (by decide) w_1008 rfl ?_
  refine xi_bipush (v := 91) dX12_points_4 (by decide) ?_
  refine xi_iload_n 1 dX12_points_6 rfl ?_
  refine xi_imul (v := 91) dX12_points_7 (by decide) ?_
  refine xi_iaload (v := 0) dX12_points_8 rfl (by unfold vp_in; decide) rfl ?_
  exact xi_iret dX12_points_9 rfl rfl (Nat.le_of_ble_eq_true rfl) (Nat.le_of_ble_eq_true rfl) ⟨rfl, rfl⟩
set_option maxHeartbeats 4000000 in
set_option maxRecDepth 100000 in
theorem fm_isNet_1 (G : xG) : xC G mX12_isNet 2 0 0 [.ref 149, .int 1] (MX 0 (fun _ => 0) rd0 mo0 (fun _ => 0) (fun _ => 0) (fun _ => 0)) (fun v M2 => v = some (.int 0) ∧ M2 = (MX 0 (fun _ => 0) rd0 mo0 (fun _ => 0) (fun _ => 0) (fun _ => 0))) := by
  refine xC.of (by decide) (Nat.le_of_ble_eq_true rfl) ?_
  show xW _ _ _ _ 0 [(0, .ref 149), (1, .int 1)] [] _ 0 0
  refine xi_iload_n 1 dX12_isNet_0 rfl ?_
  refine xi_callS (as := [.int 1]) (rest := []) dX12_isNet_1 (au_12 G) mkX12_isSlot w_1096 w_1095 rfl rfl (Nat.le_of_ble_eq_true rfl) (Nat.le_of_ble_eq_true rfl) (Nat.le_of_ble_eq_true rfl) (Nat.le_of_ble_eq_true rfl) (Nat.le_of_ble_eq_true rfl) ?_
  intro v M2 hq
  obtain ⟨rfl, rfl⟩ := hq
  show xW _ _ _ _ 4 _ [.int 1] (MX 0 (fun _ => 0) rd0 mo0 (fun _ => 0) (fun _ => 0) (fun _ => 0)) _ _
  refine xi_if_eq_f (tgt := 19) dX12_isNet_4 (by decide) (by decide) ?_
  refine xi_aload_n 0 dX12_isNet_7 rfl ?_
  refine xi_iload_n 1 dX12_isNet_8 rfl ?_
  refine xi_callV (as := [.int 1]) (rest := []) dX12_isNet_9 (au_13 G) mkX12_points w_1108 ws_36 w_1106 rfl rfl rfl rfl rfl (Nat.le_of_ble_eq_true rfl) (Nat.le_of_ble_eq_true rfl) (Nat.le_of_ble_eq_true rfl) (Nat.le_of_ble_eq_true rfl) (Nat.le_of_ble_eq_true rfl) ?_
  intro v M2 hq
  obtain ⟨rfl, rfl⟩ := hq
  show xW _ _ _ _ 12 _ [.int 0] (MX 0 (fun _ => 0) rd0 mo0 (fun _ => 0) (fun _ => 0) (fun _ => 0)) _ _
  refine xi_if_le_t (tgt := 19) dX12_isNet_12 (by decide) (by decide) ?_
  refine xi_iconst (v := 0) dX12_isNet_19 (by decide) ?_
  exact xi_iret dX12_isNet_20 rfl (by decide) (Nat.le_of_ble_eq_true rfl) (Nat.le_of_ble_eq_true rfl) ⟨rfl, rfl⟩
set_option maxHeartbeats 4000000 in
set_option maxRecDepth 100000 in
theorem au_14 (G : xG) : xC G mX12_in 0 0 0 [.long 2, .long 0, .long 2] (MX 0 (fun _ => 0) rd0 mo0 (fun _ => 0) (fun _ => 0) (fun _ => 0)) (fun v M2 => v = some (.int 1) ∧ M2 = (MX 0 (fun _ => 0) rd0 mo0 (fun _ => 0) (fun _ => 0) (fun _ => 0))) := by
  refine xC.of (by decide) (Nat.le_of_ble_eq_true rfl) ?_
  show xW _ _ _ _ 0 [(0, .long 2), (2, .long 0), (4, .long 2)] [] _ 0 0
  refine xi_lload_n 0 dX12_in_0 rfl ?_
  refine xi_lload_n 1 dX12_in_1 rfl ?_
  refine xi_lcmp (v := 1) dX12_in_2 (by decide) ?_
  refine xi_if_lt_f (tgt := 17) dX12_in_3 (by decide) (by decide) ?_
  refine xi_lload_n 0 dX12_in_6 rfl ?_
  refine xi_lload 2 dX12_in_7 rfl ?_
  refine xi_lcmp (v := 0) dX12_in_9 (by decide) ?_
  refine xi_if_gt_f (tgt := 17) dX12_in_10 (by decide) (by decide) ?_
  refine xi_iconst (v := 1) dX12_in_13 (by decide) ?_
  refine xi_goto (tgt := 18) dX12_in_14 (by decide) ?_
  exact xi_iret dX12_in_18 rfl (by decide) (Nat.le_of_ble_eq_true rfl) (Nat.le_of_ble_eq_true rfl) ⟨rfl, rfl⟩
set_option maxHeartbeats 4000000 in
set_option maxRecDepth 100000 in
theorem au_15 (G : xG) : xC G mX12_isSlot 1 0 0 [.int 2] (MX 0 (fun _ => 0) rd0 mo0 (fun _ => 0) (fun _ => 0) (fun _ => 0)) (fun v M2 => v = some (.int 1) ∧ M2 = (MX 0 (fun _ => 0) rd0 mo0 (fun _ => 0) (fun _ => 0) (fun _ => 0))) := by
  refine xC.of (by decide) (Nat.le_of_ble_eq_true rfl) ?_
  show xW _ _ _ _ 0 [(0, .int 2)] [] _ 0 0
  refine xi_iload_n 0 dX12_isSlot_0 rfl ?_
  refine xi_i2l (v := 2) dX12_isSlot_1 (by decide) ?_
  refine xi_lconst (v := 0) dX12_isSlot_2 (by decide) ?_
  refine xi_ldc2 (v := 2) dX12_isSlot_3 w_1098 ?_
  refine xi_callS (as := [.long 2, .long 0, .long 2]) (rest := []) dX12_isSlot_6 (au_14 G) mkX12_in w_1100 w_1099 rfl rfl (Nat.le_of_ble_eq_true rfl) (Nat.le_of_ble_eq_true rfl) (Nat.le_of_ble_eq_true rfl) (Nat.le_of_ble_eq_true rfl) (Nat.le_of_ble_eq_true rfl) ?_
  intro v M2 hq
  obtain ⟨rfl, rfl⟩ := hq
  show xW _ _ _ _ 9 _ [.int 1] (MX 0 (fun _ => 0) rd0 mo0 (fun _ => 0) (fun _ => 0) (fun _ => 0)) _ _
  exact xi_iret dX12_isSlot_9 rfl (by decide) (Nat.le_of_ble_eq_true rfl) (Nat.le_of_ble_eq_true rfl) ⟨rfl, rfl⟩
set_option maxHeartbeats 4000000 in
set_option maxRecDepth 100000 in
theorem au_16 (G : xG) : xC G mX12_points 0 0 0 [.ref 149, .int 2] (MX 0 (fun _ => 0) rd0 mo0 (fun _ => 0) (fun _ => 0) (fun _ => 0)) (fun v M2 => v = some (.int 0) ∧ M2 = (MX 0 (fun _ => 0) rd0 mo0 (fun _ => 0) (fun _ => 0) (fun _ => 0))) := by
  refine xC.of (by decide) (Nat.le_of_ble_eq_true rfl) ?_
  show xW _ _ _ _ 0 [(0, .ref 149), (1, .int 2)] [] _ 0 0
  refine xi_aload_n 0 dX12_points_0 rfl ?_
  refine xi_get (f := 0) dX12_points_1 rfl rfl ok_9 (by decide) w_1008 rfl ?_
  refine xi_bipush (v := 91) dX12_points_4 (by decide) ?_
  refine xi_iload_n 1 dX12_points_6 rfl ?_
  refine xi_imul (v := 182) dX12_points_7 (by decide) ?_
  refine xi_iaload (v := 0) dX12_points_8 rfl (by unfold vp_in; decide) rfl ?_
  exact xi_iret dX12_points_9 rfl rfl (Nat.le_of_ble_eq_true rfl) (Nat.le_of_ble_eq_true rfl) ⟨rfl, rfl⟩
set_option maxHeartbeats 4000000 in
set_option maxRecDepth 100000 in
theorem fm_isNet_2 (G : xG) : xC G mX12_isNet 2 0 0 [.ref 149, .int 2] (MX 0 (fun _ => 0) rd0 mo0 (fun _ => 0) (fun _ => 0) (fun _ => 0)) (fun v M2 => v = some (.int 0) ∧ M2 = (MX 0 (fun _ => 0) rd0 mo0 (fun _ => 0) (fun _ => 0) (fun _ => 0))) := by
  refine xC.of (by decide) (Nat.le_of_ble_eq_true rfl) ?_
  show xW _ _ _ _ 0 [(0, .ref 149), (1, .int 2)] [] _ 0 0
  refine xi_iload_n 1 dX12_isNet_0 rfl ?_
  refine xi_callS (as := [.int 2]) (rest := []) dX12_isNet_1 (au_15 G) mkX12_isSlot w_1096 w_1095 rfl rfl (Nat.le_of_ble_eq_true rfl) (Nat.le_of_ble_eq_true rfl) (Nat.le_of_ble_eq_true rfl) (Nat.le_of_ble_eq_true rfl) (Nat.le_of_ble_eq_true rfl) ?_
  intro v M2 hq
  obtain ⟨rfl, rfl⟩ := hq
  show xW _ _ _ _ 4 _ [.int 1] (MX 0 (fun _ => 0) rd0 mo0 (fun _ => 0) (fun _ => 0) (fun _ => 0)) _ _
  refine xi_if_eq_f (tgt := 19) dX12_isNet_4 (by decide) (by decide) ?_
  refine xi_aload_n 0 dX12_isNet_7 rfl ?_
  refine xi_iload_n 1 dX12_isNet_8 rfl ?_
  refine xi_callV (as := [.int 2]) (rest := []) dX12_isNet_9 (au_16 G) mkX12_points w_1108 ws_36 w_1106 rfl rfl rfl rfl rfl (Nat.le_of_ble_eq_true rfl) (Nat.le_of_ble_eq_true rfl) (Nat.le_of_ble_eq_true rfl) (Nat.le_of_ble_eq_true rfl) (Nat.le_of_ble_eq_true rfl) ?_
  intro v M2 hq
  obtain ⟨rfl, rfl⟩ := hq
  show xW _ _ _ _ 12 _ [.int 0] (MX 0 (fun _ => 0) rd0 mo0 (fun _ => 0) (fun _ => 0) (fun _ => 0)) _ _
  refine xi_if_le_t (tgt := 19) dX12_isNet_12 (by decide) (by decide) ?_
  refine xi_iconst (v := 0) dX12_isNet_19 (by decide) ?_
  exact xi_iret dX12_isNet_20 rfl (by decide) (Nat.le_of_ble_eq_true rfl) (Nat.le_of_ble_eq_true rfl) ⟨rfl, rfl⟩
set_option maxHeartbeats 4000000 in
set_option maxRecDepth 100000 in
theorem fm_isNet_out (G : xG) (a1 : Int32) (h : a1 < 0 ∨ 3 ≤ a1) : xC G mX12_isNet 2 0 0 [.ref 149, .int a1] (MX 0 (fun _ => 0) rd0 mo0 (fun _ => 0) (fun _ => 0) (fun _ => 0)) (fun v M2 => v = some (.int 0) ∧ M2 = (MX 0 (fun _ => 0) rd0 mo0 (fun _ => 0) (fun _ => 0) (fun _ => 0))) := by
  refine xC.of (by decide) (Nat.le_of_ble_eq_true rfl) ?_
  show xW _ _ _ _ 0 [(0, .ref 149), (1, .int a1)] [] _ 0 0
  refine xi_iload_n 1 dX12_isNet_0 rfl ?_
  refine xi_callS (as := [.int a1]) (rest := []) dX12_isNet_1 (fm_isSlot_out G _ h) mkX12_isSlot w_1096 w_1095 rfl rfl (Nat.le_of_ble_eq_true rfl) (Nat.le_of_ble_eq_true rfl) (Nat.le_of_ble_eq_true rfl) (Nat.le_of_ble_eq_true rfl) (Nat.le_of_ble_eq_true rfl) ?_
  intro v M2 hq
  obtain ⟨rfl, rfl⟩ := hq
  show xW _ _ _ _ 4 _ [.int 0] (MX 0 (fun _ => 0) rd0 mo0 (fun _ => 0) (fun _ => 0) (fun _ => 0)) _ _
  refine xi_if_eq_t (tgt := 19) dX12_isNet_4 (by decide) (by decide) ?_
  refine xi_iconst (v := 0) dX12_isNet_19 (by decide) ?_
  exact xi_iret dX12_isNet_20 rfl (by decide) (Nat.le_of_ble_eq_true rfl) (Nat.le_of_ble_eq_true rfl) ⟨rfl, rfl⟩
theorem fm_isNet (G : xG) (a1 : Int32) : xC G mX12_isNet 2 0 0 [.ref 149, .int a1] M0 (fun v M2 => v = some (.int 0) ∧ M2 = M0) := by
  rcases sl4 a1 with rfl | rfl | rfl | h
  · exact fm_isNet_0 G
  · exact fm_isNet_1 G
  · exact fm_isNet_2 G
  · exact fm_isNet_out G a1 h
set_option maxHeartbeats 4000000 in
set_option maxRecDepth 100000 in
theorem fm_isPoint (G : xG) (a1 a2 : Int32) : xC G mX12_isPoint 3 0 0 [.ref 149, .int a1, .int a2] (MX 0 (fun _ => 0) rd0 mo0 (fun _ => 0) (fun _ => 0) (fun _ => 0)) (fun v M2 => v = some (.int 0) ∧ M2 = (MX 0 (fun _ => 0) rd0 mo0 (fun _ => 0) (fun _ => 0) (fun _ => 0))) := by
  refine xC.of (by decide) (Nat.le_of_ble_eq_true rfl) ?_
  show xW _ _ _ _ 0 [(0, .ref 149), (1, .int a1), (2, .int a2)] [] _ 0 0
  refine xi_aload_n 0 dX12_isPoint_0 rfl ?_
  refine xi_iload_n 1 dX12_isPoint_1 rfl ?_
  refine xi_callV (as := [.int a1]) (rest := []) dX12_isPoint_2 (fm_isNet G a1) mkX12_isNet w_1104 ws_35 w_1102 rfl rfl rfl rfl rfl (Nat.le_of_ble_eq_true rfl) (Nat.le_of_ble_eq_true rfl) (Nat.le_of_ble_eq_true rfl) (Nat.le_of_ble_eq_true rfl) (Nat.le_of_ble_eq_true rfl) ?_
  intro v M2 hq
  obtain ⟨rfl, rfl⟩ := hq
  show xW _ _ _ _ 5 _ [.int 0] (MX 0 (fun _ => 0) rd0 mo0 (fun _ => 0) (fun _ => 0) (fun _ => 0)) _ _
  refine xi_if_eq_t (tgt := 29) dX12_isPoint_5 (by decide) (by decide) ?_
  refine xi_iconst (v := 0) dX12_isPoint_29 (by decide) ?_
  exact xi_iret dX12_isPoint_30 rfl (by decide) (Nat.le_of_ble_eq_true rfl) (Nat.le_of_ble_eq_true rfl) ⟨rfl, rfl⟩
set_option maxHeartbeats 4000000 in
set_option maxRecDepth 100000 in
theorem fm_areTwo (G : xG) (a1 a2 a3 : Int32) : xC G mX12_areTwo 4 0 0 [.ref 149, .int a1, .int a2, .int a3] (MX 0 (fun _ => 0) rd0 mo0 (fun _ => 0) (fun _ => 0) (fun _ => 0)) (fun v M2 => v = some (.int 0) ∧ M2 = (MX 0 (fun _ => 0) rd0 mo0 (fun _ => 0) (fun _ => 0) (fun _ => 0))) := by
  refine xC.of (by decide) (Nat.le_of_ble_eq_true rfl) ?_
  show xW _ _ _ _ 0 [(0, .ref 149), (1, .int a1), (2, .int a2), (3, .int a3)] [] _ 0 0
  refine xi_aload_n 0 dX12_areTwo_0 rfl ?_
  refine xi_iload_n 1 dX12_areTwo_1 rfl ?_
  refine xi_iload_n 2 dX12_areTwo_2 rfl ?_
  refine xi_callV (as := [.int a1, .int a2]) (rest := []) dX12_areTwo_3 (fm_isPoint G a1 a2) mkX12_isPoint w_1257 ws_63 w_1255 rfl rfl rfl rfl rfl (Nat.le_of_ble_eq_true rfl) (Nat.le_of_ble_eq_true rfl) (Nat.le_of_ble_eq_true rfl) (Nat.le_of_ble_eq_true rfl) (Nat.le_of_ble_eq_true rfl) ?_
  intro v M2 hq
  obtain ⟨rfl, rfl⟩ := hq
  show xW _ _ _ _ 6 _ [.int 0] (MX 0 (fun _ => 0) rd0 mo0 (fun _ => 0) (fun _ => 0) (fun _ => 0)) _ _
  refine xi_if_eq_t (tgt := 27) dX12_areTwo_6 (by decide) (by decide) ?_
  refine xi_iconst (v := 0) dX12_areTwo_27 (by decide) ?_
  exact xi_iret dX12_areTwo_28 rfl (by decide) (Nat.le_of_ble_eq_true rfl) (Nat.le_of_ble_eq_true rfl) ⟨rfl, rfl⟩
set_option maxHeartbeats 4000000 in
set_option maxRecDepth 100000 in
theorem fm_look (G : xG) (a1 a2 : Int32) : xC G mX12_look 5 0 0 [.ref 149, .int a1, .int a2] (MX 0 (fun _ => 0) rd0 mo0 (fun _ => 0) (fun _ => 0) (fun _ => 0)) (fun v M2 => v = some (.int (-2)) ∧ M2 = (MX 0 (fun _ => 0) rd0 mo0 (fun _ => 0) (fun _ => 0) (fun _ => 0))) := by
  refine xC.of (by decide) (Nat.le_of_ble_eq_true rfl) ?_
  show xW _ _ _ _ 0 [(0, .ref 149), (1, .int a1), (2, .int a2)] [] _ 0 0
  refine xi_aload_n 0 dX12_look_0 rfl ?_
  refine xi_iload_n 1 dX12_look_1 rfl ?_
  refine xi_callV (as := [.int a1]) (rest := []) dX12_look_2 (fm_isNet G a1) mkX12_isNet w_1104 ws_35 w_1102 rfl rfl rfl rfl rfl (Nat.le_of_ble_eq_true rfl) (Nat.le_of_ble_eq_true rfl) (Nat.le_of_ble_eq_true rfl) (Nat.le_of_ble_eq_true rfl) (Nat.le_of_ble_eq_true rfl) ?_
  intro v M2 hq
  obtain ⟨rfl, rfl⟩ := hq
  show xW _ _ _ _ 5 _ [.int 0] (MX 0 (fun _ => 0) rd0 mo0 (fun _ => 0) (fun _ => 0) (fun _ => 0)) _ _
  refine xi_if_eq_t (tgt := 20) dX12_look_5 (by decide) (by decide) ?_
  refine xi_bipush (v := (-2)) dX12_look_20 (by decide) ?_
  exact xi_iret dX12_look_22 rfl rfl (Nat.le_of_ble_eq_true rfl) (Nat.le_of_ble_eq_true rfl) ⟨rfl, rfl⟩
set_option maxHeartbeats 4000000 in
set_option maxRecDepth 100000 in
theorem fm_near (G : xG) (a1 a2 : Int32) : xC G mX12_near 5 0 0 [.ref 149, .int a1, .int a2] (MX 0 (fun _ => 0) rd0 mo0 (fun _ => 0) (fun _ => 0) (fun _ => 0)) (fun v M2 => v = some (.int (-2)) ∧ M2 = (MX 0 (fun _ => 0) rd0 mo0 (fun _ => 0) (fun _ => 0) (fun _ => 0))) := by
  refine xC.of (by decide) (Nat.le_of_ble_eq_true rfl) ?_
  show xW _ _ _ _ 0 [(0, .ref 149), (1, .int a1), (2, .int a2)] [] _ 0 0
  refine xi_aload_n 0 dX12_near_0 rfl ?_
  refine xi_iload_n 1 dX12_near_1 rfl ?_
  refine xi_iload_n 2 dX12_near_2 rfl ?_
  refine xi_callV (as := [.int a1, .int a2]) (rest := []) dX12_near_3 (fm_isPoint G a1 a2) mkX12_isPoint w_1257 ws_63 w_1255 rfl rfl rfl rfl rfl (Nat.le_of_ble_eq_true rfl) (Nat.le_of_ble_eq_true rfl) (Nat.le_of_ble_eq_true rfl) (Nat.le_of_ble_eq_true rfl) (Nat.le_of_ble_eq_true rfl) ?_
  intro v M2 hq
  obtain ⟨rfl, rfl⟩ := hq
  show xW _ _ _ _ 6 _ [.int 0] (MX 0 (fun _ => 0) rd0 mo0 (fun _ => 0) (fun _ => 0) (fun _ => 0)) _ _
  refine xi_if_eq_t (tgt := 18) dX12_near_6 (by decide) (by decide) ?_
  refine xi_bipush (v := (-2)) dX12_near_18 (by decide) ?_
  exact xi_iret dX12_near_20 rfl rfl (Nat.le_of_ble_eq_true rfl) (Nat.le_of_ble_eq_true rfl) ⟨rfl, rfl⟩
set_option maxHeartbeats 4000000 in
set_option maxRecDepth 100000 in
theorem fm_line (G : xG) (a1 a2 a3 : Int32) : xC G mX12_line 5 0 0 [.ref 149, .int a1, .int a2, .int a3] (MX 0 (fun _ => 0) rd0 mo0 (fun _ => 0) (fun _ => 0) (fun _ => 0)) (fun v M2 => v = some (.int (-2)) ∧ M2 = (MX 0 (fun _ => 0) rd0 mo0 (fun _ => 0) (fun _ => 0) (fun _ => 0))) := by
  refine xC.of (by decide) (Nat.le_of_ble_eq_true rfl) ?_
  show xW _ _ _ _ 0 [(0, .ref 149), (1, .int a1), (2, .int a2), (3, .int a3)] [] _ 0 0
  refine xi_aload_n 0 dX12_line_0 rfl ?_
  refine xi_iload_n 1 dX12_line_1 rfl ?_
  refine xi_iload_n 2 dX12_line_2 rfl ?_
  refine xi_callV (as := [.int a1, .int a2]) (rest := []) dX12_line_3 (fm_isPoint G a1 a2) mkX12_isPoint w_1257 ws_63 w_1255 rfl rfl rfl rfl rfl (Nat.le_of_ble_eq_true rfl) (Nat.le_of_ble_eq_true rfl) (Nat.le_of_ble_eq_true rfl) (Nat.le_of_ble_eq_true rfl) (Nat.le_of_ble_eq_true rfl) ?_
  intro v M2 hq
  obtain ⟨rfl, rfl⟩ := hq
  show xW _ _ _ _ 6 _ [.int 0] (MX 0 (fun _ => 0) rd0 mo0 (fun _ => 0) (fun _ => 0) (fun _ => 0)) _ _
  refine xi_if_eq_t (tgt := 28) dX12_line_6 (by decide) (by decide) ?_
  refine xi_bipush (v := (-2)) dX12_line_28 (by decide) ?_
  exact xi_iret dX12_line_30 rfl rfl (Nat.le_of_ble_eq_true rfl) (Nat.le_of_ble_eq_true rfl) ⟨rfl, rfl⟩
set_option maxHeartbeats 4000000 in
set_option maxRecDepth 100000 in
theorem fm_far (G : xG) (a1 a2 a3 : Int32) : xC G mX12_far 5 0 0 [.ref 149, .int a1, .int a2, .int a3] (MX 0 (fun _ => 0) rd0 mo0 (fun _ => 0) (fun _ => 0) (fun _ => 0)) (fun v M2 => v = some (.int (-2)) ∧ M2 = (MX 0 (fun _ => 0) rd0 mo0 (fun _ => 0) (fun _ => 0) (fun _ => 0))) := by
  refine xC.of (by decide) (Nat.le_of_ble_eq_true rfl) ?_
  show xW _ _ _ _ 0 [(0, .ref 149), (1, .int a1), (2, .int a2), (3, .int a3)] [] _ 0 0
  refine xi_aload_n 0 dX12_far_0 rfl ?_
  refine xi_iload_n 1 dX12_far_1 rfl ?_
  refine xi_iload_n 2 dX12_far_2 rfl ?_
  refine xi_callV (as := [.int a1, .int a2]) (rest := []) dX12_far_3 (fm_isPoint G a1 a2) mkX12_isPoint w_1257 ws_63 w_1255 rfl rfl rfl rfl rfl (Nat.le_of_ble_eq_true rfl) (Nat.le_of_ble_eq_true rfl) (Nat.le_of_ble_eq_true rfl) (Nat.le_of_ble_eq_true rfl) (Nat.le_of_ble_eq_true rfl) ?_
  intro v M2 hq
  obtain ⟨rfl, rfl⟩ := hq
  show xW _ _ _ _ 6 _ [.int 0] (MX 0 (fun _ => 0) rd0 mo0 (fun _ => 0) (fun _ => 0) (fun _ => 0)) _ _
  refine xi_if_eq_t (tgt := 28) dX12_far_6 (by decide) (by decide) ?_
  refine xi_bipush (v := (-2)) dX12_far_28 (by decide) ?_
  exact xi_iret dX12_far_30 rfl rfl (Nat.le_of_ble_eq_true rfl) (Nat.le_of_ble_eq_true rfl) ⟨rfl, rfl⟩
set_option maxHeartbeats 4000000 in
set_option maxRecDepth 100000 in
theorem fm_row (G : xG) (a1 a2 : Int32) : xC G mX12_row 5 0 0 [.ref 149, .int a1, .int a2] (MX 0 (fun _ => 0) rd0 mo0 (fun _ => 0) (fun _ => 0) (fun _ => 0)) (fun v M2 => v = some (.int (-2)) ∧ M2 = (MX 0 (fun _ => 0) rd0 mo0 (fun _ => 0) (fun _ => 0) (fun _ => 0))) := by
  refine xC.of (by decide) (Nat.le_of_ble_eq_true rfl) ?_
  show xW _ _ _ _ 0 [(0, .ref 149), (1, .int a1), (2, .int a2)] [] _ 0 0
  refine xi_aload_n 0 dX12_row_0 rfl ?_
  refine xi_iload_n 1 dX12_row_1 rfl ?_
  refine xi_iload_n 2 dX12_row_2 rfl ?_
  refine xi_callV (as := [.int a1, .int a2]) (rest := []) dX12_row_3 (fm_isPoint G a1 a2) mkX12_isPoint w_1257 ws_63 w_1255 rfl rfl rfl rfl rfl (Nat.le_of_ble_eq_true rfl) (Nat.le_of_ble_eq_true rfl) (Nat.le_of_ble_eq_true rfl) (Nat.le_of_ble_eq_true rfl) (Nat.le_of_ble_eq_true rfl) ?_
  intro v M2 hq
  obtain ⟨rfl, rfl⟩ := hq
  show xW _ _ _ _ 6 _ [.int 0] (MX 0 (fun _ => 0) rd0 mo0 (fun _ => 0) (fun _ => 0) (fun _ => 0)) _ _
  refine xi_if_eq_t (tgt := 18) dX12_row_6 (by decide) (by decide) ?_
  refine xi_bipush (v := (-2)) dX12_row_18 (by decide) ?_
  exact xi_iret dX12_row_20 rfl rfl (Nat.le_of_ble_eq_true rfl) (Nat.le_of_ble_eq_true rfl) ⟨rfl, rfl⟩
set_option maxHeartbeats 4000000 in
set_option maxRecDepth 100000 in
theorem fm_place (G : xG) (a1 a2 : Int32) : xC G mX12_place 5 0 0 [.ref 149, .int a1, .int a2] (MX 0 (fun _ => 0) rd0 mo0 (fun _ => 0) (fun _ => 0) (fun _ => 0)) (fun v M2 => v = some (.int (-2)) ∧ M2 = (MX 0 (fun _ => 0) rd0 mo0 (fun _ => 0) (fun _ => 0) (fun _ => 0))) := by
  refine xC.of (by decide) (Nat.le_of_ble_eq_true rfl) ?_
  show xW _ _ _ _ 0 [(0, .ref 149), (1, .int a1), (2, .int a2)] [] _ 0 0
  refine xi_aload_n 0 dX12_place_0 rfl ?_
  refine xi_iload_n 1 dX12_place_1 rfl ?_
  refine xi_iload_n 2 dX12_place_2 rfl ?_
  refine xi_callV (as := [.int a1, .int a2]) (rest := []) dX12_place_3 (fm_isPoint G a1 a2) mkX12_isPoint w_1257 ws_63 w_1255 rfl rfl rfl rfl rfl (Nat.le_of_ble_eq_true rfl) (Nat.le_of_ble_eq_true rfl) (Nat.le_of_ble_eq_true rfl) (Nat.le_of_ble_eq_true rfl) (Nat.le_of_ble_eq_true rfl) ?_
  intro v M2 hq
  obtain ⟨rfl, rfl⟩ := hq
  show xW _ _ _ _ 6 _ [.int 0] (MX 0 (fun _ => 0) rd0 mo0 (fun _ => 0) (fun _ => 0) (fun _ => 0)) _ _
  refine xi_if_eq_t (tgt := 18) dX12_place_6 (by decide) (by decide) ?_
  refine xi_bipush (v := (-2)) dX12_place_18 (by decide) ?_
  exact xi_iret dX12_place_20 rfl rfl (Nat.le_of_ble_eq_true rfl) (Nat.le_of_ble_eq_true rfl) ⟨rfl, rfl⟩
set_option maxHeartbeats 4000000 in
set_option maxRecDepth 100000 in
theorem fm_value (G : xG) (a1 a2 : Int32) : xC G mX12_value 5 0 0 [.ref 149, .int a1, .int a2] (MX 0 (fun _ => 0) rd0 mo0 (fun _ => 0) (fun _ => 0) (fun _ => 0)) (fun v M2 => v = some (.int (-2)) ∧ M2 = (MX 0 (fun _ => 0) rd0 mo0 (fun _ => 0) (fun _ => 0) (fun _ => 0))) := by
  refine xC.of (by decide) (Nat.le_of_ble_eq_true rfl) ?_
  show xW _ _ _ _ 0 [(0, .ref 149), (1, .int a1), (2, .int a2)] [] _ 0 0
  refine xi_aload_n 0 dX12_value_0 rfl ?_
  refine xi_iload_n 1 dX12_value_1 rfl ?_
  refine xi_callV (as := [.int a1]) (rest := []) dX12_value_2 (fm_isNet G a1) mkX12_isNet w_1104 ws_35 w_1102 rfl rfl rfl rfl rfl (Nat.le_of_ble_eq_true rfl) (Nat.le_of_ble_eq_true rfl) (Nat.le_of_ble_eq_true rfl) (Nat.le_of_ble_eq_true rfl) (Nat.le_of_ble_eq_true rfl) ?_
  intro v M2 hq
  obtain ⟨rfl, rfl⟩ := hq
  show xW _ _ _ _ 5 _ [.int 0] (MX 0 (fun _ => 0) rd0 mo0 (fun _ => 0) (fun _ => 0) (fun _ => 0)) _ _
  refine xi_if_eq_t (tgt := 15) dX12_value_5 (by decide) (by decide) ?_
  refine xi_bipush (v := (-2)) dX12_value_15 (by decide) ?_
  exact xi_iret dX12_value_17 rfl rfl (Nat.le_of_ble_eq_true rfl) (Nat.le_of_ble_eq_true rfl) ⟨rfl, rfl⟩
set_option maxHeartbeats 4000000 in
set_option maxRecDepth 100000 in
theorem fm_price (G : xG) (a1 a2 a3 : Int32) : xC G mX12_price 5 0 0 [.ref 149, .int a1, .int a2, .int a3] (MX 0 (fun _ => 0) rd0 mo0 (fun _ => 0) (fun _ => 0) (fun _ => 0)) (fun v M2 => v = some (.int (-2)) ∧ M2 = (MX 0 (fun _ => 0) rd0 mo0 (fun _ => 0) (fun _ => 0) (fun _ => 0))) := by
  refine xC.of (by decide) (Nat.le_of_ble_eq_true rfl) ?_
  show xW _ _ _ _ 0 [(0, .ref 149), (1, .int a1), (2, .int a2), (3, .int a3)] [] _ 0 0
  refine xi_aload_n 0 dX12_price_0 rfl ?_
  refine xi_iload_n 1 dX12_price_1 rfl ?_
  refine xi_callV (as := [.int a1]) (rest := []) dX12_price_2 (fm_isNet G a1) mkX12_isNet w_1104 ws_35 w_1102 rfl rfl rfl rfl rfl (Nat.le_of_ble_eq_true rfl) (Nat.le_of_ble_eq_true rfl) (Nat.le_of_ble_eq_true rfl) (Nat.le_of_ble_eq_true rfl) (Nat.le_of_ble_eq_true rfl) ?_
  intro v M2 hq
  obtain ⟨rfl, rfl⟩ := hq
  show xW _ _ _ _ 5 _ [.int 0] (MX 0 (fun _ => 0) rd0 mo0 (fun _ => 0) (fun _ => 0) (fun _ => 0)) _ _
  refine xi_if_eq_t (tgt := 48) dX12_price_5 (by decide) (by decide) ?_
  refine xi_bipush (v := (-2)) dX12_price_48 (by decide) ?_
  exact xi_iret dX12_price_50 rfl rfl (Nat.le_of_ble_eq_true rfl) (Nat.le_of_ble_eq_true rfl) ⟨rfl, rfl⟩
set_option maxHeartbeats 4000000 in
set_option maxRecDepth 100000 in
theorem fm_worst (G : xG) (a1 a2 : Int32) : xC G mX12_worst 5 0 0 [.ref 149, .int a1, .int a2] (MX 0 (fun _ => 0) rd0 mo0 (fun _ => 0) (fun _ => 0) (fun _ => 0)) (fun v M2 => v = some (.int (-2)) ∧ M2 = (MX 0 (fun _ => 0) rd0 mo0 (fun _ => 0) (fun _ => 0) (fun _ => 0))) := by
  refine xC.of (by decide) (Nat.le_of_ble_eq_true rfl) ?_
  show xW _ _ _ _ 0 [(0, .ref 149), (1, .int a1), (2, .int a2)] [] _ 0 0
  refine xi_aload_n 0 dX12_worst_0 rfl ?_
  refine xi_iload_n 1 dX12_worst_1 rfl ?_
  refine xi_callV (as := [.int a1]) (rest := []) dX12_worst_2 (fm_isNet G a1) mkX12_isNet w_1104 ws_35 w_1102 rfl rfl rfl rfl rfl (Nat.le_of_ble_eq_true rfl) (Nat.le_of_ble_eq_true rfl) (Nat.le_of_ble_eq_true rfl) (Nat.le_of_ble_eq_true rfl) (Nat.le_of_ble_eq_true rfl) ?_
  intro v M2 hq
  obtain ⟨rfl, rfl⟩ := hq
  show xW _ _ _ _ 5 _ [.int 0] (MX 0 (fun _ => 0) rd0 mo0 (fun _ => 0) (fun _ => 0) (fun _ => 0)) _ _
  refine xi_if_eq_t (tgt := 36) dX12_worst_5 (by decide) (by decide) ?_
  refine xi_bipush (v := (-2)) dX12_worst_36 (by decide) ?_
  exact xi_iret dX12_worst_38 rfl rfl (Nat.le_of_ble_eq_true rfl) (Nat.le_of_ble_eq_true rfl) ⟨rfl, rfl⟩
set_option maxHeartbeats 4000000 in
set_option maxRecDepth 100000 in
theorem fm_longest (G : xG) (a1 : Int32) : xC G mX12_longest 5 0 0 [.ref 149, .int a1] (MX 0 (fun _ => 0) rd0 mo0 (fun _ => 0) (fun _ => 0) (fun _ => 0)) (fun v M2 => v = some (.int (-2)) ∧ M2 = (MX 0 (fun _ => 0) rd0 mo0 (fun _ => 0) (fun _ => 0) (fun _ => 0))) := by
  refine xC.of (by decide) (Nat.le_of_ble_eq_true rfl) ?_
  show xW _ _ _ _ 0 [(0, .ref 149), (1, .int a1)] [] _ 0 0
  refine xi_aload_n 0 dX12_longest_0 rfl ?_
  refine xi_iload_n 1 dX12_longest_1 rfl ?_
  refine xi_callV (as := [.int a1]) (rest := []) dX12_longest_2 (fm_isNet G a1) mkX12_isNet w_1104 ws_35 w_1102 rfl rfl rfl rfl rfl (Nat.le_of_ble_eq_true rfl) (Nat.le_of_ble_eq_true rfl) (Nat.le_of_ble_eq_true rfl) (Nat.le_of_ble_eq_true rfl) (Nat.le_of_ble_eq_true rfl) ?_
  intro v M2 hq
  obtain ⟨rfl, rfl⟩ := hq
  show xW _ _ _ _ 5 _ [.int 0] (MX 0 (fun _ => 0) rd0 mo0 (fun _ => 0) (fun _ => 0) (fun _ => 0)) _ _
  refine xi_if_ne_f (tgt := 11) dX12_longest_5 (by decide) (by decide) ?_
  refine xi_bipush (v := (-2)) dX12_longest_8 (by decide) ?_
  exact xi_iret dX12_longest_10 rfl rfl (Nat.le_of_ble_eq_true rfl) (Nat.le_of_ble_eq_true rfl) ⟨rfl, rfl⟩
set_option maxHeartbeats 4000000 in
set_option maxRecDepth 100000 in
theorem fm_least (G : xG) (a1 a2 : Int32) : xC G mX12_least 5 0 0 [.ref 149, .int a1, .int a2] (MX 0 (fun _ => 0) rd0 mo0 (fun _ => 0) (fun _ => 0) (fun _ => 0)) (fun v M2 => v = some (.int (-2)) ∧ M2 = (MX 0 (fun _ => 0) rd0 mo0 (fun _ => 0) (fun _ => 0) (fun _ => 0))) := by
  refine xC.of (by decide) (Nat.le_of_ble_eq_true rfl) ?_
  show xW _ _ _ _ 0 [(0, .ref 149), (1, .int a1), (2, .int a2)] [] _ 0 0
  refine xi_aload_n 0 dX12_least_0 rfl ?_
  refine xi_iload_n 1 dX12_least_1 rfl ?_
  refine xi_callV (as := [.int a1]) (rest := []) dX12_least_2 (fm_isNet G a1) mkX12_isNet w_1104 ws_35 w_1102 rfl rfl rfl rfl rfl (Nat.le_of_ble_eq_true rfl) (Nat.le_of_ble_eq_true rfl) (Nat.le_of_ble_eq_true rfl) (Nat.le_of_ble_eq_true rfl) (Nat.le_of_ble_eq_true rfl) ?_
  intro v M2 hq
  obtain ⟨rfl, rfl⟩ := hq
  show xW _ _ _ _ 5 _ [.int 0] (MX 0 (fun _ => 0) rd0 mo0 (fun _ => 0) (fun _ => 0) (fun _ => 0)) _ _
  refine xi_if_eq_t (tgt := 15) dX12_least_5 (by decide) (by decide) ?_
  refine xi_bipush (v := (-2)) dX12_least_15 (by decide) ?_
  exact xi_iret dX12_least_17 rfl rfl (Nat.le_of_ble_eq_true rfl) (Nat.le_of_ble_eq_true rfl) ⟨rfl, rfl⟩
set_option maxHeartbeats 4000000 in
set_option maxRecDepth 100000 in
theorem fm_best (G : xG) (a1 a2 a3 : Int32) : xC G mX12_best 5 0 0 [.ref 149, .int a1, .int a2, .int a3] (MX 0 (fun _ => 0) rd0 mo0 (fun _ => 0) (fun _ => 0) (fun _ => 0)) (fun v M2 => v = some (.int (-2)) ∧ M2 = (MX 0 (fun _ => 0) rd0 mo0 (fun _ => 0) (fun _ => 0) (fun _ => 0))) := by
  refine xC.of (by decide) (Nat.le_of_ble_eq_true rfl) ?_
  show xW _ _ _ _ 0 [(0, .ref 149), (1, .int a1), (2, .int a2), (3, .int a3)] [] _ 0 0
  refine xi_aload_n 0 dX12_best_0 rfl ?_
  refine xi_iload_n 1 dX12_best_1 rfl ?_
  refine xi_iload_n 3 dX12_best_2 rfl ?_
  refine xi_callV (as := [.int a1, .int a3]) (rest := []) dX12_best_3 (fm_isPoint G a1 a3) mkX12_isPoint w_1257 ws_63 w_1255 rfl rfl rfl rfl rfl (Nat.le_of_ble_eq_true rfl) (Nat.le_of_ble_eq_true rfl) (Nat.le_of_ble_eq_true rfl) (Nat.le_of_ble_eq_true rfl) (Nat.le_of_ble_eq_true rfl) ?_
  intro v M2 hq
  obtain ⟨rfl, rfl⟩ := hq
  show xW _ _ _ _ 6 _ [.int 0] (MX 0 (fun _ => 0) rd0 mo0 (fun _ => 0) (fun _ => 0) (fun _ => 0)) _ _
  refine xi_if_eq_t (tgt := 16) dX12_best_6 (by decide) (by decide) ?_
  refine xi_bipush (v := (-2)) dX12_best_16 (by decide) ?_
  exact xi_iret dX12_best_18 rfl rfl (Nat.le_of_ble_eq_true rfl) (Nat.le_of_ble_eq_true rfl) ⟨rfl, rfl⟩
set_option maxHeartbeats 4000000 in
set_option maxRecDepth 100000 in
theorem fm_ways (G : xG) (a1 a2 : Int32) : xC G mX12_ways 5 0 0 [.ref 149, .int a1, .int a2] (MX 0 (fun _ => 0) rd0 mo0 (fun _ => 0) (fun _ => 0) (fun _ => 0)) (fun v M2 => v = some (.int (-2)) ∧ M2 = (MX 0 (fun _ => 0) rd0 mo0 (fun _ => 0) (fun _ => 0) (fun _ => 0))) := by
  refine xC.of (by decide) (Nat.le_of_ble_eq_true rfl) ?_
  show xW _ _ _ _ 0 [(0, .ref 149), (1, .int a1), (2, .int a2)] [] _ 0 0
  refine xi_aload_n 0 dX12_ways_0 rfl ?_
  refine xi_iload_n 1 dX12_ways_1 rfl ?_
  refine xi_callV (as := [.int a1]) (rest := []) dX12_ways_2 (fm_isNet G a1) mkX12_isNet w_1104 ws_35 w_1102 rfl rfl rfl rfl rfl (Nat.le_of_ble_eq_true rfl) (Nat.le_of_ble_eq_true rfl) (Nat.le_of_ble_eq_true rfl) (Nat.le_of_ble_eq_true rfl) (Nat.le_of_ble_eq_true rfl) ?_
  intro v M2 hq
  obtain ⟨rfl, rfl⟩ := hq
  show xW _ _ _ _ 5 _ [.int 0] (MX 0 (fun _ => 0) rd0 mo0 (fun _ => 0) (fun _ => 0) (fun _ => 0)) _ _
  refine xi_if_eq_t (tgt := 15) dX12_ways_5 (by decide) (by decide) ?_
  refine xi_bipush (v := (-2)) dX12_ways_15 (by decide) ?_
  exact xi_iret dX12_ways_17 rfl rfl (Nat.le_of_ble_eq_true rfl) (Nat.le_of_ble_eq_true rfl) ⟨rfl, rfl⟩
set_option maxHeartbeats 4000000 in
set_option maxRecDepth 100000 in
theorem fm_within (G : xG) (a1 a2 a3 : Int32) : xC G mX12_within 5 0 0 [.ref 149, .int a1, .int a2, .int a3] (MX 0 (fun _ => 0) rd0 mo0 (fun _ => 0) (fun _ => 0) (fun _ => 0)) (fun v M2 => v = some (.int (-2)) ∧ M2 = (MX 0 (fun _ => 0) rd0 mo0 (fun _ => 0) (fun _ => 0) (fun _ => 0))) := by
  refine xC.of (by decide) (Nat.le_of_ble_eq_true rfl) ?_
  show xW _ _ _ _ 0 [(0, .ref 149), (1, .int a1), (2, .int a2), (3, .int a3)] [] _ 0 0
  refine xi_aload_n 0 dX12_within_0 rfl ?_
  refine xi_iload_n 1 dX12_within_1 rfl ?_
  refine xi_callV (as := [.int a1]) (rest := []) dX12_within_2 (fm_isNet G a1) mkX12_isNet w_1104 ws_35 w_1102 rfl rfl rfl rfl rfl (Nat.le_of_ble_eq_true rfl) (Nat.le_of_ble_eq_true rfl) (Nat.le_of_ble_eq_true rfl) (Nat.le_of_ble_eq_true rfl) (Nat.le_of_ble_eq_true rfl) ?_
  intro v M2 hq
  obtain ⟨rfl, rfl⟩ := hq
  show xW _ _ _ _ 5 _ [.int 0] (MX 0 (fun _ => 0) rd0 mo0 (fun _ => 0) (fun _ => 0) (fun _ => 0)) _ _
  refine xi_if_eq_t (tgt := 31) dX12_within_5 (by decide) (by decide) ?_
  refine xi_bipush (v := (-2)) dX12_within_31 (by decide) ?_
  exact xi_iret dX12_within_33 rfl rfl (Nat.le_of_ble_eq_true rfl) (Nat.le_of_ble_eq_true rfl) ⟨rfl, rfl⟩
set_option maxHeartbeats 4000000 in
set_option maxRecDepth 100000 in
theorem fm_firsts (G : xG) (a1 a2 : Int32) : xC G mX12_firsts 5 0 0 [.ref 149, .int a1, .int a2] (MX 0 (fun _ => 0) rd0 mo0 (fun _ => 0) (fun _ => 0) (fun _ => 0)) (fun v M2 => v = some (.int (-2)) ∧ M2 = (MX 0 (fun _ => 0) rd0 mo0 (fun _ => 0) (fun _ => 0) (fun _ => 0))) := by
  refine xC.of (by decide) (Nat.le_of_ble_eq_true rfl) ?_
  show xW _ _ _ _ 0 [(0, .ref 149), (1, .int a1), (2, .int a2)] [] _ 0 0
  refine xi_aload_n 0 dX12_firsts_0 rfl ?_
  refine xi_iload_n 1 dX12_firsts_1 rfl ?_
  refine xi_callV (as := [.int a1]) (rest := []) dX12_firsts_2 (fm_isNet G a1) mkX12_isNet w_1104 ws_35 w_1102 rfl rfl rfl rfl rfl (Nat.le_of_ble_eq_true rfl) (Nat.le_of_ble_eq_true rfl) (Nat.le_of_ble_eq_true rfl) (Nat.le_of_ble_eq_true rfl) (Nat.le_of_ble_eq_true rfl) ?_
  intro v M2 hq
  obtain ⟨rfl, rfl⟩ := hq
  show xW _ _ _ _ 5 _ [.int 0] (MX 0 (fun _ => 0) rd0 mo0 (fun _ => 0) (fun _ => 0) (fun _ => 0)) _ _
  refine xi_if_eq_t (tgt := 15) dX12_firsts_5 (by decide) (by decide) ?_
  refine xi_bipush (v := (-2)) dX12_firsts_15 (by decide) ?_
  exact xi_iret dX12_firsts_17 rfl rfl (Nat.le_of_ble_eq_true rfl) (Nat.le_of_ble_eq_true rfl) ⟨rfl, rfl⟩
set_option maxHeartbeats 4000000 in
set_option maxRecDepth 100000 in
theorem fm_bound (G : xG) (a1 a2 a3 : Int32) : xC G mX12_bound 5 0 0 [.ref 149, .int a1, .int a2, .int a3] (MX 0 (fun _ => 0) rd0 mo0 (fun _ => 0) (fun _ => 0) (fun _ => 0)) (fun v M2 => v = some (.int (-2)) ∧ M2 = (MX 0 (fun _ => 0) rd0 mo0 (fun _ => 0) (fun _ => 0) (fun _ => 0))) := by
  refine xC.of (by decide) (Nat.le_of_ble_eq_true rfl) ?_
  show xW _ _ _ _ 0 [(0, .ref 149), (1, .int a1), (2, .int a2), (3, .int a3)] [] _ 0 0
  refine xi_aload_n 0 dX12_bound_0 rfl ?_
  refine xi_iload_n 1 dX12_bound_1 rfl ?_
  refine xi_callV (as := [.int a1]) (rest := []) dX12_bound_2 (fm_isNet G a1) mkX12_isNet w_1104 ws_35 w_1102 rfl rfl rfl rfl rfl (Nat.le_of_ble_eq_true rfl) (Nat.le_of_ble_eq_true rfl) (Nat.le_of_ble_eq_true rfl) (Nat.le_of_ble_eq_true rfl) (Nat.le_of_ble_eq_true rfl) ?_
  intro v M2 hq
  obtain ⟨rfl, rfl⟩ := hq
  show xW _ _ _ _ 5 _ [.int 0] (MX 0 (fun _ => 0) rd0 mo0 (fun _ => 0) (fun _ => 0) (fun _ => 0)) _ _
  refine xi_if_eq_t (tgt := 46) dX12_bound_5 (by decide) (by decide) ?_
  refine xi_bipush (v := (-2)) dX12_bound_46 (by decide) ?_
  exact xi_iret dX12_bound_48 rfl rfl (Nat.le_of_ble_eq_true rfl) (Nat.le_of_ble_eq_true rfl) ⟨rfl, rfl⟩
set_option maxHeartbeats 4000000 in
set_option maxRecDepth 100000 in
theorem fm_minor (G : xG) (a1 : Int32) : xC G mX12_minor 5 0 0 [.ref 149, .int a1] (MX 0 (fun _ => 0) rd0 mo0 (fun _ => 0) (fun _ => 0) (fun _ => 0)) (fun v M2 => v = some (.int (-2)) ∧ M2 = (MX 0 (fun _ => 0) rd0 mo0 (fun _ => 0) (fun _ => 0) (fun _ => 0))) := by
  refine xC.of (by decide) (Nat.le_of_ble_eq_true rfl) ?_
  show xW _ _ _ _ 0 [(0, .ref 149), (1, .int a1)] [] _ 0 0
  refine xi_aload_n 0 dX12_minor_0 rfl ?_
  refine xi_iload_n 1 dX12_minor_1 rfl ?_
  refine xi_callV (as := [.int a1]) (rest := []) dX12_minor_2 (fm_isNet G a1) mkX12_isNet w_1104 ws_35 w_1102 rfl rfl rfl rfl rfl (Nat.le_of_ble_eq_true rfl) (Nat.le_of_ble_eq_true rfl) (Nat.le_of_ble_eq_true rfl) (Nat.le_of_ble_eq_true rfl) (Nat.le_of_ble_eq_true rfl) ?_
  intro v M2 hq
  obtain ⟨rfl, rfl⟩ := hq
  show xW _ _ _ _ 5 _ [.int 0] (MX 0 (fun _ => 0) rd0 mo0 (fun _ => 0) (fun _ => 0) (fun _ => 0)) _ _
  refine xi_if_ne_f (tgt := 11) dX12_minor_5 (by decide) (by decide) ?_
  refine xi_bipush (v := (-2)) dX12_minor_8 (by decide) ?_
  exact xi_iret dX12_minor_10 rfl rfl (Nat.le_of_ble_eq_true rfl) (Nat.le_of_ble_eq_true rfl) ⟨rfl, rfl⟩
set_option maxHeartbeats 4000000 in
set_option maxRecDepth 100000 in
theorem fm_among (G : xG) (a1 a2 a3 : Int32) : xC G mX12_among 5 0 0 [.ref 149, .int a1, .int a2, .int a3] (MX 0 (fun _ => 0) rd0 mo0 (fun _ => 0) (fun _ => 0) (fun _ => 0)) (fun v M2 => v = some (.int (-2)) ∧ M2 = (MX 0 (fun _ => 0) rd0 mo0 (fun _ => 0) (fun _ => 0) (fun _ => 0))) := by
  refine xC.of (by decide) (Nat.le_of_ble_eq_true rfl) ?_
  show xW _ _ _ _ 0 [(0, .ref 149), (1, .int a1), (2, .int a2), (3, .int a3)] [] _ 0 0
  refine xi_aload_n 0 dX12_among_0 rfl ?_
  refine xi_iload_n 1 dX12_among_1 rfl ?_
  refine xi_callV (as := [.int a1]) (rest := []) dX12_among_2 (fm_isNet G a1) mkX12_isNet w_1104 ws_35 w_1102 rfl rfl rfl rfl rfl (Nat.le_of_ble_eq_true rfl) (Nat.le_of_ble_eq_true rfl) (Nat.le_of_ble_eq_true rfl) (Nat.le_of_ble_eq_true rfl) (Nat.le_of_ble_eq_true rfl) ?_
  intro v M2 hq
  obtain ⟨rfl, rfl⟩ := hq
  show xW _ _ _ _ 5 _ [.int 0] (MX 0 (fun _ => 0) rd0 mo0 (fun _ => 0) (fun _ => 0) (fun _ => 0)) _ _
  refine xi_if_eq_t (tgt := 34) dX12_among_5 (by decide) (by decide) ?_
  refine xi_bipush (v := (-2)) dX12_among_34 (by decide) ?_
  exact xi_iret dX12_among_36 rfl rfl (Nat.le_of_ble_eq_true rfl) (Nat.le_of_ble_eq_true rfl) ⟨rfl, rfl⟩
set_option maxHeartbeats 4000000 in
set_option maxRecDepth 100000 in
theorem fm_split (G : xG) (a1 a2 a3 : Int32) : xC G mX12_split 5 0 0 [.ref 149, .int a1, .int a2, .int a3] (MX 0 (fun _ => 0) rd0 mo0 (fun _ => 0) (fun _ => 0) (fun _ => 0)) (fun v M2 => v = some (.int (-2)) ∧ M2 = (MX 0 (fun _ => 0) rd0 mo0 (fun _ => 0) (fun _ => 0) (fun _ => 0))) := by
  refine xC.of (by decide) (Nat.le_of_ble_eq_true rfl) ?_
  show xW _ _ _ _ 0 [(0, .ref 149), (1, .int a1), (2, .int a2), (3, .int a3)] [] _ 0 0
  refine xi_aload_n 0 dX12_split_0 rfl ?_
  refine xi_iload_n 1 dX12_split_1 rfl ?_
  refine xi_callV (as := [.int a1]) (rest := []) dX12_split_2 (fm_isNet G a1) mkX12_isNet w_1104 ws_35 w_1102 rfl rfl rfl rfl rfl (Nat.le_of_ble_eq_true rfl) (Nat.le_of_ble_eq_true rfl) (Nat.le_of_ble_eq_true rfl) (Nat.le_of_ble_eq_true rfl) (Nat.le_of_ble_eq_true rfl) ?_
  intro v M2 hq
  obtain ⟨rfl, rfl⟩ := hq
  show xW _ _ _ _ 5 _ [.int 0] (MX 0 (fun _ => 0) rd0 mo0 (fun _ => 0) (fun _ => 0) (fun _ => 0)) _ _
  refine xi_if_eq_t (tgt := 49) dX12_split_5 (by decide) (by decide) ?_
  refine xi_bipush (v := (-2)) dX12_split_49 (by decide) ?_
  exact xi_iret dX12_split_51 rfl rfl (Nat.le_of_ble_eq_true rfl) (Nat.le_of_ble_eq_true rfl) ⟨rfl, rfl⟩
set_option maxHeartbeats 4000000 in
set_option maxRecDepth 100000 in
theorem fm_halve (G : xG) (a1 : Int32) : xC G mX12_halve 5 0 0 [.ref 149, .int a1] (MX 0 (fun _ => 0) rd0 mo0 (fun _ => 0) (fun _ => 0) (fun _ => 0)) (fun v M2 => v = some (.int (-2)) ∧ M2 = (MX 0 (fun _ => 0) rd0 mo0 (fun _ => 0) (fun _ => 0) (fun _ => 0))) := by
  refine xC.of (by decide) (Nat.le_of_ble_eq_true rfl) ?_
  show xW _ _ _ _ 0 [(0, .ref 149), (1, .int a1)] [] _ 0 0
  refine xi_aload_n 0 dX12_halve_0 rfl ?_
  refine xi_iload_n 1 dX12_halve_1 rfl ?_
  refine xi_callV (as := [.int a1]) (rest := []) dX12_halve_2 (fm_isNet G a1) mkX12_isNet w_1104 ws_35 w_1102 rfl rfl rfl rfl rfl (Nat.le_of_ble_eq_true rfl) (Nat.le_of_ble_eq_true rfl) (Nat.le_of_ble_eq_true rfl) (Nat.le_of_ble_eq_true rfl) (Nat.le_of_ble_eq_true rfl) ?_
  intro v M2 hq
  obtain ⟨rfl, rfl⟩ := hq
  show xW _ _ _ _ 5 _ [.int 0] (MX 0 (fun _ => 0) rd0 mo0 (fun _ => 0) (fun _ => 0) (fun _ => 0)) _ _
  refine xi_if_ne_f (tgt := 11) dX12_halve_5 (by decide) (by decide) ?_
  refine xi_bipush (v := (-2)) dX12_halve_8 (by decide) ?_
  exact xi_iret dX12_halve_10 rfl rfl (Nat.le_of_ble_eq_true rfl) (Nat.le_of_ble_eq_true rfl) ⟨rfl, rfl⟩
set_option maxHeartbeats 4000000 in
set_option maxRecDepth 100000 in
theorem fm_bag (G : xG) (a1 a2 a3 : Int32) : xC G mX12_bag 5 0 0 [.ref 149, .int a1, .int a2, .int a3] (MX 0 (fun _ => 0) rd0 mo0 (fun _ => 0) (fun _ => 0) (fun _ => 0)) (fun v M2 => v = some (.int (-2)) ∧ M2 = (MX 0 (fun _ => 0) rd0 mo0 (fun _ => 0) (fun _ => 0) (fun _ => 0))) := by
  refine xC.of (by decide) (Nat.le_of_ble_eq_true rfl) ?_
  show xW _ _ _ _ 0 [(0, .ref 149), (1, .int a1), (2, .int a2), (3, .int a3)] [] _ 0 0
  refine xi_aload_n 0 dX12_bag_0 rfl ?_
  refine xi_iload_n 1 dX12_bag_1 rfl ?_
  refine xi_iload_n 3 dX12_bag_2 rfl ?_
  refine xi_callV (as := [.int a1, .int a3]) (rest := []) dX12_bag_3 (fm_isPoint G a1 a3) mkX12_isPoint w_1257 ws_63 w_1255 rfl rfl rfl rfl rfl (Nat.le_of_ble_eq_true rfl) (Nat.le_of_ble_eq_true rfl) (Nat.le_of_ble_eq_true rfl) (Nat.le_of_ble_eq_true rfl) (Nat.le_of_ble_eq_true rfl) ?_
  intro v M2 hq
  obtain ⟨rfl, rfl⟩ := hq
  show xW _ _ _ _ 6 _ [.int 0] (MX 0 (fun _ => 0) rd0 mo0 (fun _ => 0) (fun _ => 0) (fun _ => 0)) _ _
  refine xi_if_eq_t (tgt := 19) dX12_bag_6 (by decide) (by decide) ?_
  refine xi_bipush (v := (-2)) dX12_bag_19 (by decide) ?_
  exact xi_iret dX12_bag_21 rfl rfl (Nat.le_of_ble_eq_true rfl) (Nat.le_of_ble_eq_true rfl) ⟨rfl, rfl⟩
set_option maxHeartbeats 4000000 in
set_option maxRecDepth 100000 in
theorem fm_filled (G : xG) (a1 a2 : Int32) : xC G mX12_filled 5 0 0 [.ref 149, .int a1, .int a2] (MX 0 (fun _ => 0) rd0 mo0 (fun _ => 0) (fun _ => 0) (fun _ => 0)) (fun v M2 => v = some (.int (-2)) ∧ M2 = (MX 0 (fun _ => 0) rd0 mo0 (fun _ => 0) (fun _ => 0) (fun _ => 0))) := by
  refine xC.of (by decide) (Nat.le_of_ble_eq_true rfl) ?_
  show xW _ _ _ _ 0 [(0, .ref 149), (1, .int a1), (2, .int a2)] [] _ 0 0
  refine xi_aload_n 0 dX12_filled_0 rfl ?_
  refine xi_iload_n 1 dX12_filled_1 rfl ?_
  refine xi_callV (as := [.int a1]) (rest := []) dX12_filled_2 (fm_isNet G a1) mkX12_isNet w_1104 ws_35 w_1102 rfl rfl rfl rfl rfl (Nat.le_of_ble_eq_true rfl) (Nat.le_of_ble_eq_true rfl) (Nat.le_of_ble_eq_true rfl) (Nat.le_of_ble_eq_true rfl) (Nat.le_of_ble_eq_true rfl) ?_
  intro v M2 hq
  obtain ⟨rfl, rfl⟩ := hq
  show xW _ _ _ _ 5 _ [.int 0] (MX 0 (fun _ => 0) rd0 mo0 (fun _ => 0) (fun _ => 0) (fun _ => 0)) _ _
  refine xi_if_eq_t (tgt := 13) dX12_filled_5 (by decide) (by decide) ?_
  refine xi_bipush (v := (-2)) dX12_filled_13 (by decide) ?_
  exact xi_iret dX12_filled_15 rfl rfl (Nat.le_of_ble_eq_true rfl) (Nat.le_of_ble_eq_true rfl) ⟨rfl, rfl⟩
set_option maxHeartbeats 4000000 in
set_option maxRecDepth 100000 in
theorem fm_gain (G : xG) (a1 a2 a3 a4 : Int32) : xC G mX12_gain 5 0 0 [.ref 149, .int a1, .int a2, .int a3, .int a4] (MX 0 (fun _ => 0) rd0 mo0 (fun _ => 0) (fun _ => 0) (fun _ => 0)) (fun v M2 => v = some (.int (-1000)) ∧ M2 = (MX 0 (fun _ => 0) rd0 mo0 (fun _ => 0) (fun _ => 0) (fun _ => 0))) := by
  refine xC.of (by decide) (Nat.le_of_ble_eq_true rfl) ?_
  show xW _ _ _ _ 0 [(0, .ref 149), (1, .int a1), (2, .int a2), (3, .int a3), (4, .int a4)] [] _ 0 0
  refine xi_aload_n 0 dX12_gain_0 rfl ?_
  refine xi_iload_n 1 dX12_gain_1 rfl ?_
  refine xi_iload_n 3 dX12_gain_2 rfl ?_
  refine xi_callV (as := [.int a1, .int a3]) (rest := []) dX12_gain_3 (fm_isPoint G a1 a3) mkX12_isPoint w_1257 ws_63 w_1255 rfl rfl rfl rfl rfl (Nat.le_of_ble_eq_true rfl) (Nat.le_of_ble_eq_true rfl) (Nat.le_of_ble_eq_true rfl) (Nat.le_of_ble_eq_true rfl) (Nat.le_of_ble_eq_true rfl) ?_
  intro v M2 hq
  obtain ⟨rfl, rfl⟩ := hq
  show xW _ _ _ _ 6 _ [.int 0] (MX 0 (fun _ => 0) rd0 mo0 (fun _ => 0) (fun _ => 0) (fun _ => 0)) _ _
  refine xi_if_eq_t (tgt := 26) dX12_gain_6 (by decide) (by decide) ?_
  refine xi_sipush (v := (-1000)) dX12_gain_26 (by decide) ?_
  exact xi_iret dX12_gain_29 rfl rfl (Nat.le_of_ble_eq_true rfl) (Nat.le_of_ble_eq_true rfl) ⟨rfl, rfl⟩
set_option maxHeartbeats 4000000 in
set_option maxRecDepth 100000 in
theorem fm_swaps (G : xG) (a1 a2 a3 : Int32) : xC G mX12_swaps 5 0 0 [.ref 149, .int a1, .int a2, .int a3] (MX 0 (fun _ => 0) rd0 mo0 (fun _ => 0) (fun _ => 0) (fun _ => 0)) (fun v M2 => v = some (.int (-2)) ∧ M2 = (MX 0 (fun _ => 0) rd0 mo0 (fun _ => 0) (fun _ => 0) (fun _ => 0))) := by
  refine xC.of (by decide) (Nat.le_of_ble_eq_true rfl) ?_
  show xW _ _ _ _ 0 [(0, .ref 149), (1, .int a1), (2, .int a2), (3, .int a3)] [] _ 0 0
  refine xi_aload_n 0 dX12_swaps_0 rfl ?_
  refine xi_iload_n 1 dX12_swaps_1 rfl ?_
  refine xi_iload_n 2 dX12_swaps_2 rfl ?_
  refine xi_callV (as := [.int a1, .int a2]) (rest := []) dX12_swaps_3 (fm_isPoint G a1 a2) mkX12_isPoint w_1257 ws_63 w_1255 rfl rfl rfl rfl rfl (Nat.le_of_ble_eq_true rfl) (Nat.le_of_ble_eq_true rfl) (Nat.le_of_ble_eq_true rfl) (Nat.le_of_ble_eq_true rfl) (Nat.le_of_ble_eq_true rfl) ?_
  intro v M2 hq
  obtain ⟨rfl, rfl⟩ := hq
  show xW _ _ _ _ 6 _ [.int 0] (MX 0 (fun _ => 0) rd0 mo0 (fun _ => 0) (fun _ => 0) (fun _ => 0)) _ _
  refine xi_if_eq_t (tgt := 18) dX12_swaps_6 (by decide) (by decide) ?_
  refine xi_bipush (v := (-2)) dX12_swaps_18 (by decide) ?_
  exact xi_iret dX12_swaps_20 rfl rfl (Nat.le_of_ble_eq_true rfl) (Nat.le_of_ble_eq_true rfl) ⟨rfl, rfl⟩
set_option maxHeartbeats 4000000 in
set_option maxRecDepth 100000 in
theorem fm_moves (G : xG) (a1 a2 a3 : Int32) : xC G mX12_moves 5 0 0 [.ref 149, .int a1, .int a2, .int a3] (MX 0 (fun _ => 0) rd0 mo0 (fun _ => 0) (fun _ => 0) (fun _ => 0)) (fun v M2 => v = some (.int (-2)) ∧ M2 = (MX 0 (fun _ => 0) rd0 mo0 (fun _ => 0) (fun _ => 0) (fun _ => 0))) := by
  refine xC.of (by decide) (Nat.le_of_ble_eq_true rfl) ?_
  show xW _ _ _ _ 0 [(0, .ref 149), (1, .int a1), (2, .int a2), (3, .int a3)] [] _ 0 0
  refine xi_aload_n 0 dX12_moves_0 rfl ?_
  refine xi_iload_n 1 dX12_moves_1 rfl ?_
  refine xi_iload_n 2 dX12_moves_2 rfl ?_
  refine xi_callV (as := [.int a1, .int a2]) (rest := []) dX12_moves_3 (fm_isPoint G a1 a2) mkX12_isPoint w_1257 ws_63 w_1255 rfl rfl rfl rfl rfl (Nat.le_of_ble_eq_true rfl) (Nat.le_of_ble_eq_true rfl) (Nat.le_of_ble_eq_true rfl) (Nat.le_of_ble_eq_true rfl) (Nat.le_of_ble_eq_true rfl) ?_
  intro v M2 hq
  obtain ⟨rfl, rfl⟩ := hq
  show xW _ _ _ _ 6 _ [.int 0] (MX 0 (fun _ => 0) rd0 mo0 (fun _ => 0) (fun _ => 0) (fun _ => 0)) _ _
  refine xi_if_eq_t (tgt := 18) dX12_moves_6 (by decide) (by decide) ?_
  refine xi_bipush (v := (-2)) dX12_moves_18 (by decide) ?_
  exact xi_iret dX12_moves_20 rfl rfl (Nat.le_of_ble_eq_true rfl) (Nat.le_of_ble_eq_true rfl) ⟨rfl, rfl⟩
set_option maxHeartbeats 4000000 in
set_option maxRecDepth 100000 in
theorem fm_reverse (G : xG) (a1 : Int32) : xC G mX12_reverse 5 0 0 [.ref 149, .int a1] (MX 0 (fun _ => 0) rd0 mo0 (fun _ => 0) (fun _ => 0) (fun _ => 0)) (fun v M2 => v = some (.int (-2)) ∧ M2 = (MX 0 (fun _ => 0) rd0 mo0 (fun _ => 0) (fun _ => 0) (fun _ => 0))) := by
  refine xC.of (by decide) (Nat.le_of_ble_eq_true rfl) ?_
  show xW _ _ _ _ 0 [(0, .ref 149), (1, .int a1)] [] _ 0 0
  refine xi_aload_n 0 dX12_reverse_0 rfl ?_
  refine xi_iload_n 1 dX12_reverse_1 rfl ?_
  refine xi_callV (as := [.int a1]) (rest := []) dX12_reverse_2 (fm_isNet G a1) mkX12_isNet w_1104 ws_35 w_1102 rfl rfl rfl rfl rfl (Nat.le_of_ble_eq_true rfl) (Nat.le_of_ble_eq_true rfl) (Nat.le_of_ble_eq_true rfl) (Nat.le_of_ble_eq_true rfl) (Nat.le_of_ble_eq_true rfl) ?_
  intro v M2 hq
  obtain ⟨rfl, rfl⟩ := hq
  show xW _ _ _ _ 5 _ [.int 0] (MX 0 (fun _ => 0) rd0 mo0 (fun _ => 0) (fun _ => 0) (fun _ => 0)) _ _
  refine xi_if_ne_f (tgt := 11) dX12_reverse_5 (by decide) (by decide) ?_
  refine xi_bipush (v := (-2)) dX12_reverse_8 (by decide) ?_
  exact xi_iret dX12_reverse_10 rfl rfl (Nat.le_of_ble_eq_true rfl) (Nat.le_of_ble_eq_true rfl) ⟨rfl, rfl⟩
set_option maxHeartbeats 4000000 in
set_option maxRecDepth 100000 in
theorem fm_takes (G : xG) (a1 a2 : Int32) : xC G mX12_takes 5 0 0 [.ref 149, .int a1, .int a2] (MX 0 (fun _ => 0) rd0 mo0 (fun _ => 0) (fun _ => 0) (fun _ => 0)) (fun v M2 => v = some (.int (-2)) ∧ M2 = (MX 0 (fun _ => 0) rd0 mo0 (fun _ => 0) (fun _ => 0) (fun _ => 0))) := by
  refine xC.of (by decide) (Nat.le_of_ble_eq_true rfl) ?_
  show xW _ _ _ _ 0 [(0, .ref 149), (1, .int a1), (2, .int a2)] [] _ 0 0
  refine xi_aload_n 0 dX12_takes_0 rfl ?_
  refine xi_iload_n 1 dX12_takes_1 rfl ?_
  refine xi_callV (as := [.int a1]) (rest := []) dX12_takes_2 (fm_isNet G a1) mkX12_isNet w_1104 ws_35 w_1102 rfl rfl rfl rfl rfl (Nat.le_of_ble_eq_true rfl) (Nat.le_of_ble_eq_true rfl) (Nat.le_of_ble_eq_true rfl) (Nat.le_of_ble_eq_true rfl) (Nat.le_of_ble_eq_true rfl) ?_
  intro v M2 hq
  obtain ⟨rfl, rfl⟩ := hq
  show xW _ _ _ _ 5 _ [.int 0] (MX 0 (fun _ => 0) rd0 mo0 (fun _ => 0) (fun _ => 0) (fun _ => 0)) _ _
  refine xi_if_eq_t (tgt := 15) dX12_takes_5 (by decide) (by decide) ?_
  refine xi_bipush (v := (-2)) dX12_takes_15 (by decide) ?_
  exact xi_iret dX12_takes_17 rfl rfl (Nat.le_of_ble_eq_true rfl) (Nat.le_of_ble_eq_true rfl) ⟨rfl, rfl⟩
set_option maxHeartbeats 4000000 in
set_option maxRecDepth 100000 in
theorem fm_polish (G : xG) (a1 a2 : Int32) : xC G mX12_polish 5 0 0 [.ref 149, .int a1, .int a2] (MX 0 (fun _ => 0) rd0 mo0 (fun _ => 0) (fun _ => 0) (fun _ => 0)) (fun v M2 => v = some (.int (-2)) ∧ M2 = (MX 0 (fun _ => 0) rd0 mo0 (fun _ => 0) (fun _ => 0) (fun _ => 0))) := by
  refine xC.of (by decide) (Nat.le_of_ble_eq_true rfl) ?_
  show xW _ _ _ _ 0 [(0, .ref 149), (1, .int a1), (2, .int a2)] [] _ 0 0
  refine xi_aload_n 0 dX12_polish_0 rfl ?_
  refine xi_iload_n 1 dX12_polish_1 rfl ?_
  refine xi_callV (as := [.int a1]) (rest := []) dX12_polish_2 (fm_isNet G a1) mkX12_isNet w_1104 ws_35 w_1102 rfl rfl rfl rfl rfl (Nat.le_of_ble_eq_true rfl) (Nat.le_of_ble_eq_true rfl) (Nat.le_of_ble_eq_true rfl) (Nat.le_of_ble_eq_true rfl) (Nat.le_of_ble_eq_true rfl) ?_
  intro v M2 hq
  obtain ⟨rfl, rfl⟩ := hq
  show xW _ _ _ _ 5 _ [.int 0] (MX 0 (fun _ => 0) rd0 mo0 (fun _ => 0) (fun _ => 0) (fun _ => 0)) _ _
  refine xi_if_eq_t (tgt := 15) dX12_polish_5 (by decide) (by decide) ?_
  refine xi_bipush (v := (-2)) dX12_polish_15 (by decide) ?_
  exact xi_iret dX12_polish_17 rfl rfl (Nat.le_of_ble_eq_true rfl) (Nat.le_of_ble_eq_true rfl) ⟨rfl, rfl⟩
set_option maxHeartbeats 4000000 in
set_option maxRecDepth 100000 in
theorem fm_polished (G : xG) (a1 a2 : Int32) : xC G mX12_polished 5 0 0 [.ref 149, .int a1, .int a2] (MX 0 (fun _ => 0) rd0 mo0 (fun _ => 0) (fun _ => 0) (fun _ => 0)) (fun v M2 => v = some (.int (-2)) ∧ M2 = (MX 0 (fun _ => 0) rd0 mo0 (fun _ => 0) (fun _ => 0) (fun _ => 0))) := by
  refine xC.of (by decide) (Nat.le_of_ble_eq_true rfl) ?_
  show xW _ _ _ _ 0 [(0, .ref 149), (1, .int a1), (2, .int a2)] [] _ 0 0
  refine xi_aload_n 0 dX12_polished_0 rfl ?_
  refine xi_iload_n 1 dX12_polished_1 rfl ?_
  refine xi_callV (as := [.int a1]) (rest := []) dX12_polished_2 (fm_isNet G a1) mkX12_isNet w_1104 ws_35 w_1102 rfl rfl rfl rfl rfl (Nat.le_of_ble_eq_true rfl) (Nat.le_of_ble_eq_true rfl) (Nat.le_of_ble_eq_true rfl) (Nat.le_of_ble_eq_true rfl) (Nat.le_of_ble_eq_true rfl) ?_
  intro v M2 hq
  obtain ⟨rfl, rfl⟩ := hq
  show xW _ _ _ _ 5 _ [.int 0] (MX 0 (fun _ => 0) rd0 mo0 (fun _ => 0) (fun _ => 0) (fun _ => 0)) _ _
  refine xi_if_eq_t (tgt := 15) dX12_polished_5 (by decide) (by decide) ?_
  refine xi_bipush (v := (-2)) dX12_polished_15 (by decide) ?_
  exact xi_iret dX12_polished_17 rfl rfl (Nat.le_of_ble_eq_true rfl) (Nat.le_of_ble_eq_true rfl) ⟨rfl, rfl⟩
set_option maxHeartbeats 4000000 in
set_option maxRecDepth 100000 in
theorem fm_greedy (G : xG) (a1 a2 : Int32) : xC G mX12_greedy 5 0 0 [.ref 149, .int a1, .int a2] (MX 0 (fun _ => 0) rd0 mo0 (fun _ => 0) (fun _ => 0) (fun _ => 0)) (fun v M2 => v = some (.int (-2)) ∧ M2 = (MX 0 (fun _ => 0) rd0 mo0 (fun _ => 0) (fun _ => 0) (fun _ => 0))) := by
  refine xC.of (by decide) (Nat.le_of_ble_eq_true rfl) ?_
  show xW _ _ _ _ 0 [(0, .ref 149), (1, .int a1), (2, .int a2)] [] _ 0 0
  refine xi_aload_n 0 dX12_greedy_0 rfl ?_
  refine xi_iload_n 1 dX12_greedy_1 rfl ?_
  refine xi_callV (as := [.int a1]) (rest := []) dX12_greedy_2 (fm_isNet G a1) mkX12_isNet w_1104 ws_35 w_1102 rfl rfl rfl rfl rfl (Nat.le_of_ble_eq_true rfl) (Nat.le_of_ble_eq_true rfl) (Nat.le_of_ble_eq_true rfl) (Nat.le_of_ble_eq_true rfl) (Nat.le_of_ble_eq_true rfl) ?_
  intro v M2 hq
  obtain ⟨rfl, rfl⟩ := hq
  show xW _ _ _ _ 5 _ [.int 0] (MX 0 (fun _ => 0) rd0 mo0 (fun _ => 0) (fun _ => 0) (fun _ => 0)) _ _
  refine xi_if_eq_t (tgt := 20) dX12_greedy_5 (by decide) (by decide) ?_
  refine xi_bipush (v := (-2)) dX12_greedy_20 (by decide) ?_
  exact xi_iret dX12_greedy_22 rfl rfl (Nat.le_of_ble_eq_true rfl) (Nat.le_of_ble_eq_true rfl) ⟨rfl, rfl⟩
set_option maxHeartbeats 4000000 in
set_option maxRecDepth 100000 in
theorem fm_layers (G : xG) (a1 a2 : Int32) : xC G mX12_layers 5 0 0 [.ref 149, .int a1, .int a2] (MX 0 (fun _ => 0) rd0 mo0 (fun _ => 0) (fun _ => 0) (fun _ => 0)) (fun v M2 => v = some (.int (-2)) ∧ M2 = (MX 0 (fun _ => 0) rd0 mo0 (fun _ => 0) (fun _ => 0) (fun _ => 0))) := by
  refine xC.of (by decide) (Nat.le_of_ble_eq_true rfl) ?_
  show xW _ _ _ _ 0 [(0, .ref 149), (1, .int a1), (2, .int a2)] [] _ 0 0
  refine xi_aload_n 0 dX12_layers_0 rfl ?_
  refine xi_iload_n 1 dX12_layers_1 rfl ?_
  refine xi_iload_n 2 dX12_layers_2 rfl ?_
  refine xi_callV (as := [.int a1, .int a2]) (rest := []) dX12_layers_3 (fm_isPoint G a1 a2) mkX12_isPoint w_1257 ws_63 w_1255 rfl rfl rfl rfl rfl (Nat.le_of_ble_eq_true rfl) (Nat.le_of_ble_eq_true rfl) (Nat.le_of_ble_eq_true rfl) (Nat.le_of_ble_eq_true rfl) (Nat.le_of_ble_eq_true rfl) ?_
  intro v M2 hq
  obtain ⟨rfl, rfl⟩ := hq
  show xW _ _ _ _ 6 _ [.int 0] (MX 0 (fun _ => 0) rd0 mo0 (fun _ => 0) (fun _ => 0) (fun _ => 0)) _ _
  refine xi_if_ne_f (tgt := 12) dX12_layers_6 (by decide) (by decide) ?_
  refine xi_bipush (v := (-2)) dX12_layers_9 (by decide) ?_
  exact xi_iret dX12_layers_11 rfl rfl (Nat.le_of_ble_eq_true rfl) (Nat.le_of_ble_eq_true rfl) ⟨rfl, rfl⟩
set_option maxHeartbeats 4000000 in
set_option maxRecDepth 100000 in
theorem fm_adds (G : xG) (a1 a2 a3 a4 : Int32) : xC G mX12_adds 5 0 0 [.ref 149, .int a1, .int a2, .int a3, .int a4] (MX 0 (fun _ => 0) rd0 mo0 (fun _ => 0) (fun _ => 0) (fun _ => 0)) (fun v M2 => v = some (.int (-2)) ∧ M2 = (MX 0 (fun _ => 0) rd0 mo0 (fun _ => 0) (fun _ => 0) (fun _ => 0))) := by
  refine xC.of (by decide) (Nat.le_of_ble_eq_true rfl) ?_
  show xW _ _ _ _ 0 [(0, .ref 149), (1, .int a1), (2, .int a2), (3, .int a3), (4, .int a4)] [] _ 0 0
  refine xi_aload_n 0 dX12_adds_0 rfl ?_
  refine xi_iload_n 1 dX12_adds_1 rfl ?_
  refine xi_iload_n 2 dX12_adds_2 rfl ?_
  refine xi_iload_n 3 dX12_adds_3 rfl ?_
  refine xi_callV (as := [.int a1, .int a2, .int a3]) (rest := []) dX12_adds_4 (fm_areTwo G a1 a2 a3) mkX12_areTwo w_1500 ws_90 w_1498 rfl rfl rfl rfl rfl (Nat.le_of_ble_eq_true rfl) (Nat.le_of_ble_eq_true rfl) (Nat.le_of_ble_eq_true rfl) (Nat.le_of_ble_eq_true rfl) (Nat.le_of_ble_eq_true rfl) ?_
  intro v M2 hq
  obtain ⟨rfl, rfl⟩ := hq
  show xW _ _ _ _ 7 _ [.int 0] (MX 0 (fun _ => 0) rd0 mo0 (fun _ => 0) (fun _ => 0) (fun _ => 0)) _ _
  refine xi_if_eq_t (tgt := 23) dX12_adds_7 (by decide) (by decide) ?_
  refine xi_bipush (v := (-2)) dX12_adds_23 (by decide) ?_
  exact xi_iret dX12_adds_25 rfl rfl (Nat.le_of_ble_eq_true rfl) (Nat.le_of_ble_eq_true rfl) ⟨rfl, rfl⟩
set_option maxHeartbeats 4000000 in
set_option maxRecDepth 100000 in
theorem fm_cuts (G : xG) (a1 a2 a3 : Int32) : xC G mX12_cuts 5 0 0 [.ref 149, .int a1, .int a2, .int a3] (MX 0 (fun _ => 0) rd0 mo0 (fun _ => 0) (fun _ => 0) (fun _ => 0)) (fun v M2 => v = some (.int (-2)) ∧ M2 = (MX 0 (fun _ => 0) rd0 mo0 (fun _ => 0) (fun _ => 0) (fun _ => 0))) := by
  refine xC.of (by decide) (Nat.le_of_ble_eq_true rfl) ?_
  show xW _ _ _ _ 0 [(0, .ref 149), (1, .int a1), (2, .int a2), (3, .int a3)] [] _ 0 0
  refine xi_aload_n 0 dX12_cuts_0 rfl ?_
  refine xi_iload_n 1 dX12_cuts_1 rfl ?_
  refine xi_iload_n 2 dX12_cuts_2 rfl ?_
  refine xi_iload_n 3 dX12_cuts_3 rfl ?_
  refine xi_callV (as := [.int a1, .int a2, .int a3]) (rest := []) dX12_cuts_4 (fm_areTwo G a1 a2 a3) mkX12_areTwo w_1500 ws_90 w_1498 rfl rfl rfl rfl rfl (Nat.le_of_ble_eq_true rfl) (Nat.le_of_ble_eq_true rfl) (Nat.le_of_ble_eq_true rfl) (Nat.le_of_ble_eq_true rfl) (Nat.le_of_ble_eq_true rfl) ?_
  intro v M2 hq
  obtain ⟨rfl, rfl⟩ := hq
  show xW _ _ _ _ 7 _ [.int 0] (MX 0 (fun _ => 0) rd0 mo0 (fun _ => 0) (fun _ => 0) (fun _ => 0)) _ _
  refine xi_if_ne_f (tgt := 13) dX12_cuts_7 (by decide) (by decide) ?_
  refine xi_bipush (v := (-2)) dX12_cuts_10 (by decide) ?_
  exact xi_iret dX12_cuts_12 rfl rfl (Nat.le_of_ble_eq_true rfl) (Nat.le_of_ble_eq_true rfl) ⟨rfl, rfl⟩
set_option maxHeartbeats 4000000 in
set_option maxRecDepth 100000 in
theorem fm_merges (G : xG) (a1 a2 a3 : Int32) : xC G mX12_merges 5 0 0 [.ref 149, .int a1, .int a2, .int a3] (MX 0 (fun _ => 0) rd0 mo0 (fun _ => 0) (fun _ => 0) (fun _ => 0)) (fun v M2 => v = some (.int (-2)) ∧ M2 = (MX 0 (fun _ => 0) rd0 mo0 (fun _ => 0) (fun _ => 0) (fun _ => 0))) := by
  refine xC.of (by decide) (Nat.le_of_ble_eq_true rfl) ?_
  show xW _ _ _ _ 0 [(0, .ref 149), (1, .int a1), (2, .int a2), (3, .int a3)] [] _ 0 0
  refine xi_aload_n 0 dX12_merges_0 rfl ?_
  refine xi_iload_n 1 dX12_merges_1 rfl ?_
  refine xi_iload_n 2 dX12_merges_2 rfl ?_
  refine xi_iload_n 3 dX12_merges_3 rfl ?_
  refine xi_callV (as := [.int a1, .int a2, .int a3]) (rest := []) dX12_merges_4 (fm_areTwo G a1 a2 a3) mkX12_areTwo w_1500 ws_90 w_1498 rfl rfl rfl rfl rfl (Nat.le_of_ble_eq_true rfl) (Nat.le_of_ble_eq_true rfl) (Nat.le_of_ble_eq_true rfl) (Nat.le_of_ble_eq_true rfl) (Nat.le_of_ble_eq_true rfl) ?_
  intro v M2 hq
  obtain ⟨rfl, rfl⟩ := hq
  show xW _ _ _ _ 7 _ [.int 0] (MX 0 (fun _ => 0) rd0 mo0 (fun _ => 0) (fun _ => 0) (fun _ => 0)) _ _
  refine xi_if_ne_f (tgt := 13) dX12_merges_7 (by decide) (by decide) ?_
  refine xi_bipush (v := (-2)) dX12_merges_10 (by decide) ?_
  exact xi_iret dX12_merges_12 rfl rfl (Nat.le_of_ble_eq_true rfl) (Nat.le_of_ble_eq_true rfl) ⟨rfl, rfl⟩
set_option maxHeartbeats 4000000 in
set_option maxRecDepth 100000 in
theorem fm_tell (G : xG) (a1 a2 : Int32) : xC G mX12_tell 5 0 0 [.ref 149, .int a1, .int a2] (MX 0 (fun _ => 0) rd0 mo0 (fun _ => 0) (fun _ => 0) (fun _ => 0)) (fun v M2 => v = some (.int (-2)) ∧ M2 = (MX 0 (fun _ => 0) rd0 mo0 (fun _ => 0) (fun _ => 0) (fun _ => 0))) := by
  refine xC.of (by decide) (Nat.le_of_ble_eq_true rfl) ?_
  show xW _ _ _ _ 0 [(0, .ref 149), (1, .int a1), (2, .int a2)] [] _ 0 0
  refine xi_aload_n 0 dX12_tell_0 rfl ?_
  refine xi_iload_n 1 dX12_tell_1 rfl ?_
  refine xi_callV (as := [.int a1]) (rest := []) dX12_tell_2 (fm_isNet G a1) mkX12_isNet w_1104 ws_35 w_1102 rfl rfl rfl rfl rfl (Nat.le_of_ble_eq_true rfl) (Nat.le_of_ble_eq_true rfl) (Nat.le_of_ble_eq_true rfl) (Nat.le_of_ble_eq_true rfl) (Nat.le_of_ble_eq_true rfl) ?_
  intro v M2 hq
  obtain ⟨rfl, rfl⟩ := hq
  show xW _ _ _ _ 5 _ [.int 0] (MX 0 (fun _ => 0) rd0 mo0 (fun _ => 0) (fun _ => 0) (fun _ => 0)) _ _
  refine xi_if_eq_t (tgt := 18) dX12_tell_5 (by decide) (by decide) ?_
  refine xi_bipush (v := (-2)) dX12_tell_18 (by decide) ?_
  exact xi_iret dX12_tell_20 rfl rfl (Nat.le_of_ble_eq_true rfl) (Nat.le_of_ble_eq_true rfl) ⟨rfl, rfl⟩
set_option maxHeartbeats 4000000 in
set_option maxRecDepth 100000 in
theorem fm_drops_0 (G : xG) : xC G mX12_drops 5 0 0 [.ref 149, .int 0] (MX 0 (fun _ => 0) rd0 mo0 (fun _ => 0) (fun _ => 0) (fun _ => 0)) (fun v M2 => v = some (.int 0) ∧ M2 = (MX 0 (fun _ => 0) rd0 mo0 (fun _ => 0) (fun _ => 0) (fun _ => 0))) := by
  refine xC.of (by decide) (Nat.le_of_ble_eq_true rfl) ?_
  show xW _ _ _ _ 0 [(0, .ref 149), (1, .int 0)] [] _ 0 0
  refine xi_iload_n 1 dX12_drops_0 rfl ?_
  refine xi_callS (as := [.int 0]) (rest := []) dX12_drops_1 (au_9 G) mkX12_isSlot w_1096 w_1095 rfl rfl (Nat.le_of_ble_eq_true rfl) (Nat.le_of_ble_eq_true rfl) (Nat.le_of_ble_eq_true rfl) (Nat.le_of_ble_eq_true rfl) (Nat.le_of_ble_eq_true rfl) ?_
  intro v M2 hq
  obtain ⟨rfl, rfl⟩ := hq
  show xW _ _ _ _ 4 _ [.int 1] (MX 0 (fun _ => 0) rd0 mo0 (fun _ => 0) (fun _ => 0) (fun _ => 0)) _ _
  refine xi_if_ne_t (tgt := 10) dX12_drops_4 (by decide) (by decide) ?_
  refine xi_aload_n 0 dX12_drops_10 rfl ?_
  refine xi_iload_n 1 dX12_drops_11 rfl ?_
  refine xi_callV (as := [.int 0]) (rest := []) dX12_drops_12 (fm_isNet G 0) mkX12_isNet w_1104 ws_35 w_1102 rfl rfl rfl rfl rfl (Nat.le_of_ble_eq_true rfl) (Nat.le_of_ble_eq_true rfl) (Nat.le_of_ble_eq_true rfl) (Nat.le_of_ble_eq_true rfl) (Nat.le_of_ble_eq_true rfl) ?_
  intro v M2 hq
  obtain ⟨rfl, rfl⟩ := hq
  show xW _ _ _ _ 15 _ [.int 0] (MX 0 (fun _ => 0) rd0 mo0 (fun _ => 0) (fun _ => 0) (fun _ => 0)) _ _
  refine xi_if_ne_f (tgt := 20) dX12_drops_15 (by decide) (by decide) ?_
  refine xi_iconst (v := 0) dX12_drops_18 (by decide) ?_
  exact xi_iret dX12_drops_19 rfl rfl (Nat.le_of_ble_eq_true rfl) (Nat.le_of_ble_eq_true rfl) ⟨rfl, rfl⟩
set_option maxHeartbeats 4000000 in
set_option maxRecDepth 100000 in
theorem fm_drops_1 (G : xG) : xC G mX12_drops 5 0 0 [.ref 149, .int 1] (MX 0 (fun _ => 0) rd0 mo0 (fun _ => 0) (fun _ => 0) (fun _ => 0)) (fun v M2 => v = some (.int 0) ∧ M2 = (MX 0 (fun _ => 0) rd0 mo0 (fun _ => 0) (fun _ => 0) (fun _ => 0))) := by
  refine xC.of (by decide) (Nat.le_of_ble_eq_true rfl) ?_
  show xW _ _ _ _ 0 [(0, .ref 149), (1, .int 1)] [] _ 0 0
  refine xi_iload_n 1 dX12_drops_0 rfl ?_
  refine xi_callS (as := [.int 1]) (rest := []) dX12_drops_1 (au_12 G) mkX12_isSlot w_1096 w_1095 rfl rfl (Nat.le_of_ble_eq_true rfl) (Nat.le_of_ble_eq_true rfl) (Nat.le_of_ble_eq_true rfl) (Nat.le_of_ble_eq_true rfl) (Nat.le_of_ble_eq_true rfl) ?_
  intro v M2 hq
  obtain ⟨rfl, rfl⟩ := hq
  show xW _ _ _ _ 4 _ [.int 1] (MX 0 (fun _ => 0) rd0 mo0 (fun _ => 0) (fun _ => 0) (fun _ => 0)) _ _
  refine xi_if_ne_t (tgt := 10) dX12_drops_4 (by decide) (by decide) ?_
  refine xi_aload_n 0 dX12_drops_10 rfl ?_
  refine xi_iload_n 1 dX12_drops_11 rfl ?_
  refine xi_callV (as := [.int 1]) (rest := []) dX12_drops_12 (fm_isNet G 1) mkX12_isNet w_1104 ws_35 w_1102 rfl rfl rfl rfl rfl (Nat.le_of_ble_eq_true rfl) (Nat.le_of_ble_eq_true rfl) (Nat.le_of_ble_eq_true rfl) (Nat.le_of_ble_eq_true rfl) (Nat.le_of_ble_eq_true rfl) ?_
  intro v M2 hq
  obtain ⟨rfl, rfl⟩ := hq
  show xW _ _ _ _ 15 _ [.int 0] (MX 0 (fun _ => 0) rd0 mo0 (fun _ => 0) (fun _ => 0) (fun _ => 0)) _ _
  refine xi_if_ne_f (tgt := 20) dX12_drops_15 (by decide) (by decide) ?_
  refine xi_iconst (v := 0) dX12_drops_18 (by decide) ?_
  exact xi_iret dX12_drops_19 rfl rfl (Nat.le_of_ble_eq_true rfl) (Nat.le_of_ble_eq_true rfl) ⟨rfl, rfl⟩
set_option maxHeartbeats 4000000 in
set_option maxRecDepth 100000 in
theorem fm_drops_2 (G : xG) : xC G mX12_drops 5 0 0 [.ref 149, .int 2] (MX 0 (fun _ => 0) rd0 mo0 (fun _ => 0) (fun _ => 0) (fun _ => 0)) (fun v M2 => v = some (.int 0) ∧ M2 = (MX 0 (fun _ => 0) rd0 mo0 (fun _ => 0) (fun _ => 0) (fun _ => 0))) := by
  refine xC.of (by decide) (Nat.le_of_ble_eq_true rfl) ?_
  show xW _ _ _ _ 0 [(0, .ref 149), (1, .int 2)] [] _ 0 0
  refine xi_iload_n 1 dX12_drops_0 rfl ?_
  refine xi_callS (as := [.int 2]) (rest := []) dX12_drops_1 (au_15 G) mkX12_isSlot w_1096 w_1095 rfl rfl (Nat.le_of_ble_eq_true rfl) (Nat.le_of_ble_eq_true rfl) (Nat.le_of_ble_eq_true rfl) (Nat.le_of_ble_eq_true rfl) (Nat.le_of_ble_eq_true rfl) ?_
  intro v M2 hq
  obtain ⟨rfl, rfl⟩ := hq
  show xW _ _ _ _ 4 _ [.int 1] (MX 0 (fun _ => 0) rd0 mo0 (fun _ => 0) (fun _ => 0) (fun _ => 0)) _ _
  refine xi_if_ne_t (tgt := 10) dX12_drops_4 (by decide) (by decide) ?_
  refine xi_aload_n 0 dX12_drops_10 rfl ?_
  refine xi_iload_n 1 dX12_drops_11 rfl ?_
  refine xi_callV (as := [.int 2]) (rest := []) dX12_drops_12 (fm_isNet G 2) mkX12_isNet w_1104 ws_35 w_1102 rfl rfl rfl rfl rfl (Nat.le_of_ble_eq_true rfl) (Nat.le_of_ble_eq_true rfl) (Nat.le_of_ble_eq_true rfl) (Nat.le_of_ble_eq_true rfl) (Nat.le_of_ble_eq_true rfl) ?_
  intro v M2 hq
  obtain ⟨rfl, rfl⟩ := hq
  show xW _ _ _ _ 15 _ [.int 0] (MX 0 (fun _ => 0) rd0 mo0 (fun _ => 0) (fun _ => 0) (fun _ => 0)) _ _
  refine xi_if_ne_f (tgt := 20) dX12_drops_15 (by decide) (by decide) ?_
  refine xi_iconst (v := 0) dX12_drops_18 (by decide) ?_
  exact xi_iret dX12_drops_19 rfl rfl (Nat.le_of_ble_eq_true rfl) (Nat.le_of_ble_eq_true rfl) ⟨rfl, rfl⟩
set_option maxHeartbeats 4000000 in
set_option maxRecDepth 100000 in
theorem fm_drops_out (G : xG) (a1 : Int32) (h : a1 < 0 ∨ 3 ≤ a1) : xC G mX12_drops 5 0 0 [.ref 149, .int a1] (MX 0 (fun _ => 0) rd0 mo0 (fun _ => 0) (fun _ => 0) (fun _ => 0)) (fun v M2 => v = some (.int (-2)) ∧ M2 = (MX 0 (fun _ => 0) rd0 mo0 (fun _ => 0) (fun _ => 0) (fun _ => 0))) := by
  refine xC.of (by decide) (Nat.le_of_ble_eq_true rfl) ?_
  show xW _ _ _ _ 0 [(0, .ref 149), (1, .int a1)] [] _ 0 0
  refine xi_iload_n 1 dX12_drops_0 rfl ?_
  refine xi_callS (as := [.int a1]) (rest := []) dX12_drops_1 (fm_isSlot_out G _ h) mkX12_isSlot w_1096 w_1095 rfl rfl (Nat.le_of_ble_eq_true rfl) (Nat.le_of_ble_eq_true rfl) (Nat.le_of_ble_eq_true rfl) (Nat.le_of_ble_eq_true rfl) (Nat.le_of_ble_eq_true rfl) ?_
  intro v M2 hq
  obtain ⟨rfl, rfl⟩ := hq
  show xW _ _ _ _ 4 _ [.int 0] (MX 0 (fun _ => 0) rd0 mo0 (fun _ => 0) (fun _ => 0) (fun _ => 0)) _ _
  refine xi_if_ne_f (tgt := 10) dX12_drops_4 (by decide) (by decide) ?_
  refine xi_bipush (v := (-2)) dX12_drops_7 (by decide) ?_
  exact xi_iret dX12_drops_9 rfl rfl (Nat.le_of_ble_eq_true rfl) (Nat.le_of_ble_eq_true rfl) ⟨rfl, rfl⟩
set_option maxHeartbeats 4000000 in
set_option maxRecDepth 100000 in
theorem fm_undo (G : xG) : xC G mX12_undo 5 0 0 [.ref 149] (MX 0 (fun _ => 0) rd0 mo0 (fun _ => 0) (fun _ => 0) (fun _ => 0)) (fun v M2 => v = some (.int (-1)) ∧ M2 = (MX 0 (fun _ => 0) rd0 mo0 (fun _ => 0) (fun _ => 0) (fun _ => 0))) := by
  refine xC.of (by decide) (Nat.le_of_ble_eq_true rfl) ?_
  show xW _ _ _ _ 0 [(0, .ref 149)] [] _ 0 0
  refine xi_aload_n 0 dX12_undo_0 rfl ?_
  refine xi_get (f := 3) dX12_undo_1 rfl rfl ok_9 (by decide) w_1011 rfl ?_
  refine xi_if_ne_f (tgt := 9) dX12_undo_4 (by decide) (by decide) ?_
  refine xi_iconst (v := (-1)) dX12_undo_7 (by decide) ?_
  exact xi_iret dX12_undo_8 rfl rfl (Nat.le_of_ble_eq_true rfl) (Nat.le_of_ble_eq_true rfl) ⟨rfl, rfl⟩
set_option maxHeartbeats 4000000 in
set_option maxRecDepth 100000 in
theorem fm_fault (G : xG) (a1 : Int32) : xC G mX12_fault 5 0 0 [.ref 149, .int a1] (MX 0 (fun _ => 0) rd0 mo0 (fun _ => 0) (fun _ => 0) (fun _ => 0)) (fun v M2 => v = some (.int (if a1 = 0 then 0 else (-1))) ∧ M2 = (MX 0 (fun _ => 0) rd0 mo0 (fun _ => 0) (fun _ => 0) (fun _ => 0))) := by
  refine xC.of (by decide) (Nat.le_of_ble_eq_true rfl) ?_
  show xW _ _ _ _ 0 [(0, .ref 149), (1, .int a1)] [] _ 0 0
  refine xi_iload_n 1 dX12_fault_0 rfl ?_
  refine xi_if_ne (tgt := 11) dX12_fault_1 (by decide) (fun c1 => ?_) (fun c1 => ?_)
  · refine xi_iload_n 1 dX12_fault_11 rfl ?_
    refine xi_iconst (v := 1) dX12_fault_12 (by decide) ?_
    refine xi_icmp_ne (tgt := 23) dX12_fault_13 (by decide) (fun c2 => ?_) (fun c2 => ?_)
    · refine xi_iconst (v := (-1)) dX12_fault_23 (by decide) ?_
      exact xi_iret dX12_fault_24 rfl rfl (Nat.le_of_ble_eq_true rfl) (Nat.le_of_ble_eq_true rfl) ⟨by simp only [c1, if_pos, if_neg, if_true, if_false, not_false_eq_true], rfl⟩
    · refine xi_aload_n 0 dX12_fault_16 rfl ?_
      refine xi_get (f := 7) dX12_fault_17 rfl rfl ok_9 (by decide) w_1015 rfl ?_
      refine xi_goto (tgt := 24) dX12_fault_20 (by decide) ?_
      exact xi_iret dX12_fault_24 rfl rfl (Nat.le_of_ble_eq_true rfl) (Nat.le_of_ble_eq_true rfl) ⟨by simp only [c1, if_pos, if_neg, if_true, if_false, not_false_eq_true], rfl⟩
  · refine xi_aload_n 0 dX12_fault_4 rfl ?_
    refine xi_get (f := 6) dX12_fault_5 rfl rfl ok_9 (by decide) w_1014 rfl ?_
    refine xi_goto (tgt := 24) dX12_fault_8 (by decide) ?_
    exact xi_iret dX12_fault_24 rfl rfl (Nat.le_of_ble_eq_true rfl) (Nat.le_of_ble_eq_true rfl) ⟨by simp only [c1, if_pos, if_neg, if_true, if_false, not_false_eq_true], rfl⟩
set_option maxHeartbeats 4000000 in
set_option maxRecDepth 100000 in
theorem fm_octet (G : xG) (a1 : Int32) : xC G mX12_octet 5 0 0 [.ref 149, .int a1] (MX 0 (fun _ => 0) rd0 mo0 (fun _ => 0) (fun _ => 0) (fun _ => 0)) (fun v M2 => v = some (.int (-1)) ∧ M2 = (MX 0 (fun _ => 0) rd0 mo0 (fun _ => 0) (fun _ => 0) (fun _ => 0))) := by
  refine xC.of (by decide) (Nat.le_of_ble_eq_true rfl) ?_
  show xW _ _ _ _ 0 [(0, .ref 149), (1, .int a1)] [] _ 0 0
  refine xi_iload_n 1 dX12_octet_0 rfl ?_
  refine xi_i2l dX12_octet_1 rfl ?_
  refine xi_lconst (v := 0) dX12_octet_2 (by decide) ?_
  refine xi_aload_n 0 dX12_octet_3 rfl ?_
  refine xi_get (f := 25) dX12_octet_4 rfl rfl ok_9 (by decide) w_1033 rfl ?_
  refine xi_iconst (v := 1) dX12_octet_7 (by decide) ?_
  refine xi_isub (v := (-1)) dX12_octet_8 (by decide) ?_
  refine xi_i2l (v := (-1)) dX12_octet_9 (by decide) ?_
  refine xi_callS (as := [.long a1.toInt64, .long 0, .long (-1)]) (rest := []) dX12_octet_10 (fm_in_o G _ (outm _)) mkX12_in w_1100 w_1099 rfl rfl (Nat.le_of_ble_eq_true rfl) (Nat.le_of_ble_eq_true rfl) (Nat.le_of_ble_eq_true rfl) (Nat.le_of_ble_eq_true rfl) (Nat.le_of_ble_eq_true rfl) ?_
  intro v M2 hq
  obtain ⟨rfl, rfl⟩ := hq
  show xW _ _ _ _ 13 _ [.int 0] (MX 0 (fun _ => 0) rd0 mo0 (fun _ => 0) (fun _ => 0) (fun _ => 0)) _ _
  refine xi_if_eq_t (tgt := 25) dX12_octet_13 (by decide) (by decide) ?_
  refine xi_iconst (v := (-1)) dX12_octet_25 (by decide) ?_
  exact xi_iret dX12_octet_26 rfl rfl (Nat.le_of_ble_eq_true rfl) (Nat.le_of_ble_eq_true rfl) ⟨rfl, rfl⟩
set_option maxHeartbeats 4000000 in
set_option maxRecDepth 100000 in
theorem fm_count_0 (G : xG) : xC G mX12_count 5 0 0 [.ref 149, .int 0] (MX 0 (fun _ => 0) rd0 mo0 (fun _ => 0) (fun _ => 0) (fun _ => 0)) (fun v M2 => v = some (.int 0) ∧ M2 = (MX 0 (fun _ => 0) rd0 mo0 (fun _ => 0) (fun _ => 0) (fun _ => 0))) := by
  refine xC.of (by decide) (Nat.le_of_ble_eq_true rfl) ?_
  show xW _ _ _ _ 0 [(0, .ref 149), (1, .int 0)] [] _ 0 0
  refine xi_iconst (v := 0) dX12_count_0 (by decide) ?_
  refine xi_istore_n (lv' := [(2, .int 0), (0, .ref 149), (1, .int 0)]) dX12_count_1 (by decide) rfl ?_
  refine xi_iconst (v := 0) dX12_count_2 (by decide) ?_
  refine xi_istore_n (lv' := [(3, .int 0), (2, .int 0), (0, .ref 149), (1, .int 0)]) dX12_count_3 (by decide) rfl ?_
  refine xi_iload_n 0 dX12_count_4 rfl ?_
  refine xi_iconst (v := 3) dX12_count_5 (by decide) ?_
  refine xi_icmp_ge_f (tgt := 33) dX12_count_6 (by decide) (by decide) ?_
  refine xi_iload_n 1 dX12_count_9 rfl ?_
  refine xi_aload_n 2 dX12_count_10 rfl ?_
  refine xi_iload_n 0 dX12_count_11 rfl ?_
  refine xi_callV (as := [.int 0]) (rest := [.int 0]) dX12_count_12 (fm_isNet G 0) mkX12_isNet w_1104 ws_35 w_1102 rfl rfl rfl rfl rfl (Nat.le_of_ble_eq_true rfl) (Nat.le_of_ble_eq_true rfl) (Nat.le_of_ble_eq_true rfl) (Nat.le_of_ble_eq_true rfl) (Nat.le_of_ble_eq_true rfl) ?_
  intro v M2 hq
  obtain ⟨rfl, rfl⟩ := hq
  show xW _ _ _ _ 15 _ [.int 0, .int 0] (MX 0 (fun _ => 0) rd0 mo0 (fun _ => 0) (fun _ => 0) (fun _ => 0)) _ _
  refine xi_if_eq_t (tgt := 24) dX12_count_15 (by decide) (by decide) ?_
  refine xi_iconst (v := 0) dX12_count_24 (by decide) ?_
  refine xi_ior (v := 0) dX12_count_25 (by decide) ?_
  refine xi_istore_n (lv' := [(2, .int 0), (3, .int 0), (0, .ref 149), (1, .int 0)]) dX12_count_26 (by decide) rfl ?_
  refine xi_iinc (v := 1) (lv' := [(3, .int 1), (2, .int 0), (0, .ref 149), (1, .int 0)]) 1 dX12_count_27 rfl (by decide) (by decide) rfl ?_
  refine xi_goto (tgt := 4) dX12_count_30 (by decide) ?_
  refine xi_iload_n 0 dX12_count_4 rfl ?_
  refine xi_iconst (v := 3) dX12_count_5 (by decide) ?_
  refine xi_icmp_ge_f (tgt := 33) dX12_count_6 (by decide) (by decide) ?_
  refine xi_iload_n 1 dX12_count_9 rfl ?_
  refine xi_aload_n 2 dX12_count_10 rfl ?_
  refine xi_iload_n 0 dX12_count_11 rfl ?_
  refine xi_callV (as := [.int 1]) (rest := [.int 0]) dX12_count_12 (fm_isNet G 1) mkX12_isNet w_1104 ws_35 w_1102 rfl rfl rfl rfl rfl (Nat.le_of_ble_eq_true rfl) (Nat.le_of_ble_eq_true rfl) (Nat.le_of_ble_eq_true rfl) (Nat.le_of_ble_eq_true rfl) (Nat.le_of_ble_eq_true rfl) ?_
  intro v M2 hq
  obtain ⟨rfl, rfl⟩ := hq
  show xW _ _ _ _ 15 _ [.int 0, .int 0] (MX 0 (fun _ => 0) rd0 mo0 (fun _ => 0) (fun _ => 0) (fun _ => 0)) _ _
  refine xi_if_eq_t (tgt := 24) dX12_count_15 (by decide) (by decide) ?_
  refine xi_iconst (v := 0) dX12_count_24 (by decide) ?_
  refine xi_ior (v := 0) dX12_count_25 (by decide) ?_
  refine xi_istore_n (lv' := [(2, .int 0), (3, .int 1), (0, .ref 149), (1, .int 0)]) dX12_count_26 (by decide) rfl ?_
  refine xi_iinc (v := 2) (lv' := [(3, .int 2), (2, .int 0), (0, .ref 149), (1, .int 0)]) 1 dX12_count_27 rfl (by decide) (by decide) rfl ?_
  refine xi_goto (tgt := 4) dX12_count_30 (by decide) ?_
  refine xi_iload_n 0 dX12_count_4 rfl ?_
  refine xi_iconst (v := 3) dX12_count_5 (by decide) ?_
  refine xi_icmp_ge_f (tgt := 33) dX12_count_6 (by decide) (by decide) ?_
  refine xi_iload_n 1 dX12_count_9 rfl ?_
  refine xi_aload_n 2 dX12_count_10 rfl ?_
  refine xi_iload_n 0 dX12_count_11 rfl ?_
  refine xi_callV (as := [.int 2]) (rest := [.int 0]) dX12_count_12 (fm_isNet G 2) mkX12_isNet w_1104 ws_35 w_1102 rfl rfl rfl rfl rfl (Nat.le_of_ble_eq_true rfl) (Nat.le_of_ble_eq_true rfl) (Nat.le_of_ble_eq_true rfl) (Nat.le_of_ble_eq_true rfl) (Nat.le_of_ble_eq_true rfl) ?_
  intro v M2 hq
  obtain ⟨rfl, rfl⟩ := hq
  show xW _ _ _ _ 15 _ [.int 0, .int 0] (MX 0 (fun _ => 0) rd0 mo0 (fun _ => 0) (fun _ => 0) (fun _ => 0)) _ _
  refine xi_if_eq_t (tgt := 24) dX12_count_15 (by decide) (by decide) ?_
  refine xi_iconst (v := 0) dX12_count_24 (by decide) ?_
  refine xi_ior (v := 0) dX12_count_25 (by decide) ?_
  refine xi_istore_n (lv' := [(2, .int 0), (3, .int 2), (0, .ref 149), (1, .int 0)]) dX12_count_26 (by decide) rfl ?_
  refine xi_iinc (v := 3) (lv' := [(3, .int 3), (2, .int 0), (0, .ref 149), (1, .int 0)]) 1 dX12_count_27 rfl (by decide) (by decide) rfl ?_
  refine xi_goto (tgt := 4) dX12_count_30 (by decide) ?_
  refine xi_iload_n 0 dX12_count_4 rfl ?_
  refine xi_iconst (v := 3) dX12_count_5 (by decide) ?_
  refine xi_icmp_ge_t (tgt := 33) dX12_count_6 (by decide) (by decide) ?_
  refine xi_iload_n 3 dX12_count_33 rfl ?_
  refine xi_tableIn (off := 30) (tgt := 64) dX12_count_34 (by decide) (by decide) (by decide) (by decide) ?_
  refine xi_iload_n 1 dX12_count_64 rfl ?_
  exact xi_iret dX12_count_65 rfl rfl (Nat.le_of_ble_eq_true rfl) (Nat.le_of_ble_eq_true rfl) ⟨rfl, rfl⟩
set_option maxHeartbeats 4000000 in
set_option maxRecDepth 100000 in
theorem fm_count_1 (G : xG) : xC G mX12_count 5 0 0 [.ref 149, .int 1] (MX 0 (fun _ => 0) rd0 mo0 (fun _ => 0) (fun _ => 0) (fun _ => 0)) (fun v M2 => v = some (.int 0) ∧ M2 = (MX 0 (fun _ => 0) rd0 mo0 (fun _ => 0) (fun _ => 0) (fun _ => 0))) := by
  refine xC.of (by decide) (Nat.le_of_ble_eq_true rfl) ?_
  show xW _ _ _ _ 0 [(0, .ref 149), (1, .int 1)] [] _ 0 0
  refine xi_iconst (v := 0) dX12_count_0 (by decide) ?_
  refine xi_istore_n (lv' := [(2, .int 0), (0, .ref 149), (1, .int 1)]) dX12_count_1 (by decide) rfl ?_
  refine xi_iconst (v := 0) dX12_count_2 (by decide) ?_
  refine xi_istore_n (lv' := [(3, .int 0), (2, .int 0), (0, .ref 149), (1, .int 1)]) dX12_count_3 (by decide) rfl ?_
  refine xi_iload_n 0 dX12_count_4 rfl ?_
  refine xi_iconst (v := 3) dX12_count_5 (by decide) ?_
  refine xi_icmp_ge_f (tgt := 33) dX12_count_6 (by decide) (by decide) ?_
  refine xi_iload_n 1 dX12_count_9 rfl ?_
  refine xi_aload_n 2 dX12_count_10 rfl ?_
  refine xi_iload_n 0 dX12_count_11 rfl ?_
  refine xi_callV (as := [.int 0]) (rest := [.int 0]) dX12_count_12 (fm_isNet G 0) mkX12_isNet w_1104 ws_35 w_1102 rfl rfl rfl rfl rfl (Nat.le_of_ble_eq_true rfl) (Nat.le_of_ble_eq_true rfl) (Nat.le_of_ble_eq_true rfl) (Nat.le_of_ble_eq_true rfl) (Nat.le_of_ble_eq_true rfl) ?_
  intro v M2 hq
  obtain ⟨rfl, rfl⟩ := hq
  show xW _ _ _ _ 15 _ [.int 0, .int 0] (MX 0 (fun _ => 0) rd0 mo0 (fun _ => 0) (fun _ => 0) (fun _ => 0)) _ _
  refine xi_if_eq_t (tgt := 24) dX12_count_15 (by decide) (by decide) ?_
  refine xi_iconst (v := 0) dX12_count_24 (by decide) ?_
  refine xi_ior (v := 0) dX12_count_25 (by decide) ?_
  refine xi_istore_n (lv' := [(2, .int 0), (3, .int 0), (0, .ref 149), (1, .int 1)]) dX12_count_26 (by decide) rfl ?_
  refine xi_iinc (v := 1) (lv' := [(3, .int 1), (2, .int 0), (0, .ref 149), (1, .int 1)]) 1 dX12_count_27 rfl (by decide) (by decide) rfl ?_
  refine xi_goto (tgt := 4) dX12_count_30 (by decide) ?_
  refine xi_iload_n 0 dX12_count_4 rfl ?_
  refine xi_iconst (v := 3) dX12_count_5 (by decide) ?_
  refine xi_icmp_ge_f (tgt := 33) dX12_count_6 (by decide) (by decide) ?_
  refine xi_iload_n 1 dX12_count_9 rfl ?_
  refine xi_aload_n 2 dX12_count_10 rfl ?_
  refine xi_iload_n 0 dX12_count_11 rfl ?_
  refine xi_callV (as := [.int 1]) (rest := [.int 0]) dX12_count_12 (fm_isNet G 1) mkX12_isNet w_1104 ws_35 w_1102 rfl rfl rfl rfl rfl (Nat.le_of_ble_eq_true rfl) (Nat.le_of_ble_eq_true rfl) (Nat.le_of_ble_eq_true rfl) (Nat.le_of_ble_eq_true rfl) (Nat.le_of_ble_eq_true rfl) ?_
  intro v M2 hq
  obtain ⟨rfl, rfl⟩ := hq
  show xW _ _ _ _ 15 _ [.int 0, .int 0] (MX 0 (fun _ => 0) rd0 mo0 (fun _ => 0) (fun _ => 0) (fun _ => 0)) _ _
  refine xi_if_eq_t (tgt := 24) dX12_count_15 (by decide) (by decide) ?_
  refine xi_iconst (v := 0) dX12_count_24 (by decide) ?_
  refine xi_ior (v := 0) dX12_count_25 (by decide) ?_
  refine xi_istore_n (lv' := [(2, .int 0), (3, .int 1), (0, .ref 149), (1, .int 1)]) dX12_count_26 (by decide) rfl ?_
  refine xi_iinc (v := 2) (lv' := [(3, .int 2), (2, .int 0), (0, .ref 149), (1, .int 1)]) 1 dX12_count_27 rfl (by decide) (by decide) rfl ?_
  refine xi_goto (tgt := 4) dX12_count_30 (by decide) ?_
  refine xi_iload_n 0 dX12_count_4 rfl ?_
  refine xi_iconst (v := 3) dX12_count_5 (by decide) ?_
  refine xi_icmp_ge_f (tgt := 33) dX12_count_6 (by decide) (by decide) ?_
  refine xi_iload_n 1 dX12_count_9 rfl ?_
  refine xi_aload_n 2 dX12_count_10 rfl ?_
  refine xi_iload_n 0 dX12_count_11 rfl ?_
  refine xi_callV (as := [.int 2]) (rest := [.int 0]) dX12_count_12 (fm_isNet G 2) mkX12_isNet w_1104 ws_35 w_1102 rfl rfl rfl rfl rfl (Nat.le_of_ble_eq_true rfl) (Nat.le_of_ble_eq_true rfl) (Nat.le_of_ble_eq_true rfl) (Nat.le_of_ble_eq_true rfl) (Nat.le_of_ble_eq_true rfl) ?_
  intro v M2 hq
  obtain ⟨rfl, rfl⟩ := hq
  show xW _ _ _ _ 15 _ [.int 0, .int 0] (MX 0 (fun _ => 0) rd0 mo0 (fun _ => 0) (fun _ => 0) (fun _ => 0)) _ _
  refine xi_if_eq_t (tgt := 24) dX12_count_15 (by decide) (by decide) ?_
  refine xi_iconst (v := 0) dX12_count_24 (by decide) ?_
  refine xi_ior (v := 0) dX12_count_25 (by decide) ?_
  refine xi_istore_n (lv' := [(2, .int 0), (3, .int 2), (0, .ref 149), (1, .int 1)]) dX12_count_26 (by decide) rfl ?_
  refine xi_iinc (v := 3) (lv' := [(3, .int 3), (2, .int 0), (0, .ref 149), (1, .int 1)]) 1 dX12_count_27 rfl (by decide) (by decide) rfl ?_
  refine xi_goto (tgt := 4) dX12_count_30 (by decide) ?_
  refine xi_iload_n 0 dX12_count_4 rfl ?_
  refine xi_iconst (v := 3) dX12_count_5 (by decide) ?_
  refine xi_icmp_ge_t (tgt := 33) dX12_count_6 (by decide) (by decide) ?_
  refine xi_iload_n 3 dX12_count_33 rfl ?_
  refine xi_tableIn (off := 32) (tgt := 66) dX12_count_34 (by decide) (by decide) (by decide) (by decide) ?_
  refine xi_aload_n 2 dX12_count_66 rfl ?_
  refine xi_get (f := 3) dX12_count_67 rfl rfl ok_9 (by decide) w_1011 rfl ?_
  exact xi_iret dX12_count_70 rfl rfl (Nat.le_of_ble_eq_true rfl) (Nat.le_of_ble_eq_true rfl) ⟨rfl, rfl⟩
set_option maxHeartbeats 4000000 in
set_option maxRecDepth 100000 in
theorem fm_count_2 (G : xG) : xC G mX12_count 5 0 0 [.ref 149, .int 2] (MX 0 (fun _ => 0) rd0 mo0 (fun _ => 0) (fun _ => 0) (fun _ => 0)) (fun v M2 => v = some (.int 0) ∧ M2 = (MX 0 (fun _ => 0) rd0 mo0 (fun _ => 0) (fun _ => 0) (fun _ => 0))) := by
  refine xC.of (by decide) (Nat.le_of_ble_eq_true rfl) ?_
  show xW _ _ _ _ 0 [(0, .ref 149), (1, .int 2)] [] _ 0 0
  refine xi_iconst (v := 0) dX12_count_0 (by decide) ?_
  refine xi_istore_n (lv' := [(2, .int 0), (0, .ref 149), (1, .int 2)]) dX12_count_1 (by decide) rfl ?_
  refine xi_iconst (v := 0) dX12_count_2 (by decide) ?_
  refine xi_istore_n (lv' := [(3, .int 0), (2, .int 0), (0, .ref 149), (1, .int 2)]) dX12_count_3 (by decide) rfl ?_
  refine xi_iload_n 0 dX12_count_4 rfl ?_
  refine xi_iconst (v := 3) dX12_count_5 (by decide) ?_
  refine xi_icmp_ge_f (tgt := 33) dX12_count_6 (by decide) (by decide) ?_
  refine xi_iload_n 1 dX12_count_9 rfl ?_
  refine xi_aload_n 2 dX12_count_10 rfl ?_
  refine xi_iload_n 0 dX12_count_11 rfl ?_
  refine xi_callV (as := [.int 0]) (rest := [.int 0]) dX12_count_12 (fm_isNet G 0) mkX12_isNet w_1104 ws_35 w_1102 rfl rfl rfl rfl rfl (Nat.le_of_ble_eq_true rfl) (Nat.le_of_ble_eq_true rfl) (Nat.le_of_ble_eq_true rfl) (Nat.le_of_ble_eq_true rfl) (Nat.le_of_ble_eq_true rfl) ?_
  intro v M2 hq
  obtain ⟨rfl, rfl⟩ := hq
  show xW _ _ _ _ 15 _ [.int 0, .int 0] (MX 0 (fun _ => 0) rd0 mo0 (fun _ => 0) (fun _ => 0) (fun _ => 0)) _ _
  refine xi_if_eq_t (tgt := 24) dX12_count_15 (by decide) (by decide) ?_
  refine xi_iconst (v := 0) dX12_count_24 (by decide) ?_
  refine xi_ior (v := 0) dX12_count_25 (by decide) ?_
  refine xi_istore_n (lv' := [(2, .int 0), (3, .int 0), (0, .ref 149), (1, .int 2)]) dX12_count_26 (by decide) rfl ?_
  refine xi_iinc (v := 1) (lv' := [(3, .int 1), (2, .int 0), (0, .ref 149), (1, .int 2)]) 1 dX12_count_27 rfl (by decide) (by decide) rfl ?_
  refine xi_goto (tgt := 4) dX12_count_30 (by decide) ?_
  refine xi_iload_n 0 dX12_count_4 rfl ?_
  refine xi_iconst (v := 3) dX12_count_5 (by decide) ?_
  refine xi_icmp_ge_f (tgt := 33) dX12_count_6 (by decide) (by decide) ?_
  refine xi_iload_n 1 dX12_count_9 rfl ?_
  refine xi_aload_n 2 dX12_count_10 rfl ?_
  refine xi_iload_n 0 dX12_count_11 rfl ?_
  refine xi_callV (as := [.int 1]) (rest := [.int 0]) dX12_count_12 (fm_isNet G 1) mkX12_isNet w_1104 ws_35 w_1102 rfl rfl rfl rfl rfl (Nat.le_of_ble_eq_true rfl) (Nat.le_of_ble_eq_true rfl) (Nat.le_of_ble_eq_true rfl) (Nat.le_of_ble_eq_true rfl) (Nat.le_of_ble_eq_true rfl) ?_
  intro v M2 hq
  obtain ⟨rfl, rfl⟩ := hq
  show xW _ _ _ _ 15 _ [.int 0, .int 0] (MX 0 (fun _ => 0) rd0 mo0 (fun _ => 0) (fun _ => 0) (fun _ => 0)) _ _
  refine xi_if_eq_t (tgt := 24) dX12_count_15 (by decide) (by decide) ?_
  refine xi_iconst (v := 0) dX12_count_24 (by decide) ?_
  refine xi_ior (v := 0) dX12_count_25 (by decide) ?_
  refine xi_istore_n (lv' := [(2, .int 0), (3, .int 1), (0, .ref 149), (1, .int 2)]) dX12_count_26 (by decide) rfl ?_
  refine xi_iinc (v := 2) (lv' := [(3, .int 2), (2, .int 0), (0, .ref 149), (1, .int 2)]) 1 dX12_count_27 rfl (by decide) (by decide) rfl ?_
  refine xi_goto (tgt := 4) dX12_count_30 (by decide) ?_
  refine xi_iload_n 0 dX12_count_4 rfl ?_
  refine xi_iconst (v := 3) dX12_count_5 (by decide) ?_
  refine xi_icmp_ge_f (tgt := 33) dX12_count_6 (by decide) (by decide) ?_
  refine xi_iload_n 1 dX12_count_9 rfl ?_
  refine xi_aload_n 2 dX12_count_10 rfl ?_
  refine xi_iload_n 0 dX12_count_11 rfl ?_
  refine xi_callV (as := [.int 2]) (rest := [.int 0]) dX12_count_12 (fm_isNet G 2) mkX12_isNet w_1104 ws_35 w_1102 rfl rfl rfl rfl rfl (Nat.le_of_ble_eq_true rfl) (Nat.le_of_ble_eq_true rfl) (Nat.le_of_ble_eq_true rfl) (Nat.le_of_ble_eq_true rfl) (Nat.le_of_ble_eq_true rfl) ?_
  intro v M2 hq
  obtain ⟨rfl, rfl⟩ := hq
  show xW _ _ _ _ 15 _ [.int 0, .int 0] (MX 0 (fun _ => 0) rd0 mo0 (fun _ => 0) (fun _ => 0) (fun _ => 0)) _ _
  refine xi_if_eq_t (tgt := 24) dX12_count_15 (by decide) (by decide) ?_
  refine xi_iconst (v := 0) dX12_count_24 (by decide) ?_
  refine xi_ior (v := 0) dX12_count_25 (by decide) ?_
  refine xi_istore_n (lv' := [(2, .int 0), (3, .int 2), (0, .ref 149), (1, .int 2)]) dX12_count_26 (by decide) rfl ?_
  refine xi_iinc (v := 3) (lv' := [(3, .int 3), (2, .int 0), (0, .ref 149), (1, .int 2)]) 1 dX12_count_27 rfl (by decide) (by decide) rfl ?_
  refine xi_goto (tgt := 4) dX12_count_30 (by decide) ?_
  refine xi_iload_n 0 dX12_count_4 rfl ?_
  refine xi_iconst (v := 3) dX12_count_5 (by decide) ?_
  refine xi_icmp_ge_t (tgt := 33) dX12_count_6 (by decide) (by decide) ?_
  refine xi_iload_n 3 dX12_count_33 rfl ?_
  refine xi_tableIn (off := 37) (tgt := 71) dX12_count_34 (by decide) (by decide) (by decide) (by decide) ?_
  refine xi_aload_n 2 dX12_count_71 rfl ?_
  refine xi_get (f := 5) dX12_count_72 rfl rfl ok_9 (by decide) w_1013 rfl ?_
  exact xi_iret dX12_count_75 rfl rfl (Nat.le_of_ble_eq_true rfl) (Nat.le_of_ble_eq_true rfl) ⟨rfl, rfl⟩
set_option maxHeartbeats 4000000 in
set_option maxRecDepth 100000 in
theorem fm_count_3 (G : xG) : xC G mX12_count 5 0 0 [.ref 149, .int 3] (MX 0 (fun _ => 0) rd0 mo0 (fun _ => 0) (fun _ => 0) (fun _ => 0)) (fun v M2 => v = some (.int 0) ∧ M2 = (MX 0 (fun _ => 0) rd0 mo0 (fun _ => 0) (fun _ => 0) (fun _ => 0))) := by
  refine xC.of (by decide) (Nat.le_of_ble_eq_true rfl) ?_
  show xW _ _ _ _ 0 [(0, .ref 149), (1, .int 3)] [] _ 0 0
  refine xi_iconst (v := 0) dX12_count_0 (by decide) ?_
  refine xi_istore_n (lv' := [(2, .int 0), (0, .ref 149), (1, .int 3)]) dX12_count_1 (by decide) rfl ?_
  refine xi_iconst (v := 0) dX12_count_2 (by decide) ?_
  refine xi_istore_n (lv' := [(3, .int 0), (2, .int 0), (0, .ref 149), (1, .int 3)]) dX12_count_3 (by decide) rfl ?_
  refine xi_iload_n 0 dX12_count_4 rfl ?_
  refine xi_iconst (v := 3) dX12_count_5 (by decide) ?_
  refine xi_icmp_ge_f (tgt := 33) dX12_count_6 (by decide) (by decide) ?_
  refine xi_iload_n 1 dX12_count_9 rfl ?_
  refine xi_aload_n 2 dX12_count_10 rfl ?_
  refine xi_iload_n 0 dX12_count_11 rfl ?_
  refine xi_callV (as := [.int 0]) (rest := [.int 0]) dX12_count_12 (fm_isNet G 0) mkX12_isNet w_1104 ws_35 w_1102 rfl rfl rfl rfl rfl (Nat.le_of_ble_eq_true rfl) (Nat.le_of_ble_eq_true rfl) (Nat.le_of_ble_eq_true rfl) (Nat.le_of_ble_eq_true rfl) (Nat.le_of_ble_eq_true rfl) ?_
  intro v M2 hq
  obtain ⟨rfl, rfl⟩ := hq
  show xW _ _ _ _ 15 _ [.int 0, .int 0] (MX 0 (fun _ => 0) rd0 mo0 (fun _ => 0) (fun _ => 0) (fun _ => 0)) _ _
  refine xi_if_eq_t (tgt := 24) dX12_count_15 (by decide) (by decide) ?_
  refine xi_iconst (v := 0) dX12_count_24 (by decide) ?_
  refine xi_ior (v := 0) dX12_count_25 (by decide) ?_
  refine xi_istore_n (lv' := [(2, .int 0), (3, .int 0), (0, .ref 149), (1, .int 3)]) dX12_count_26 (by decide) rfl ?_
  refine xi_iinc (v := 1) (lv' := [(3, .int 1), (2, .int 0), (0, .ref 149), (1, .int 3)]) 1 dX12_count_27 rfl (by decide) (by decide) rfl ?_
  refine xi_goto (tgt := 4) dX12_count_30 (by decide) ?_
  refine xi_iload_n 0 dX12_count_4 rfl ?_
  refine xi_iconst (v := 3) dX12_count_5 (by decide) ?_
  refine xi_icmp_ge_f (tgt := 33) dX12_count_6 (by decide) (by decide) ?_
  refine xi_iload_n 1 dX12_count_9 rfl ?_
  refine xi_aload_n 2 dX12_count_10 rfl ?_
  refine xi_iload_n 0 dX12_count_11 rfl ?_
  refine xi_callV (as := [.int 1]) (rest := [.int 0]) dX12_count_12 (fm_isNet G 1) mkX12_isNet w_1104 ws_35 w_1102 rfl rfl rfl rfl rfl (Nat.le_of_ble_eq_true rfl) (Nat.le_of_ble_eq_true rfl) (Nat.le_of_ble_eq_true rfl) (Nat.le_of_ble_eq_true rfl) (Nat.le_of_ble_eq_true rfl) ?_
  intro v M2 hq
  obtain ⟨rfl, rfl⟩ := hq
  show xW _ _ _ _ 15 _ [.int 0, .int 0] (MX 0 (fun _ => 0) rd0 mo0 (fun _ => 0) (fun _ => 0) (fun _ => 0)) _ _
  refine xi_if_eq_t (tgt := 24) dX12_count_15 (by decide) (by decide) ?_
  refine xi_iconst (v := 0) dX12_count_24 (by decide) ?_
  refine xi_ior (v := 0) dX12_count_25 (by decide) ?_
  refine xi_istore_n (lv' := [(2, .int 0), (3, .int 1), (0, .ref 149), (1, .int 3)]) dX12_count_26 (by decide) rfl ?_
  refine xi_iinc (v := 2) (lv' := [(3, .int 2), (2, .int 0), (0, .ref 149), (1, .int 3)]) 1 dX12_count_27 rfl (by decide) (by decide) rfl ?_
  refine xi_goto (tgt := 4) dX12_count_30 (by decide) ?_
  refine xi_iload_n 0 dX12_count_4 rfl ?_
  refine xi_iconst (v := 3) dX12_count_5 (by decide) ?_
  refine xi_icmp_ge_f (tgt := 33) dX12_count_6 (by decide) (by decide) ?_
  refine xi_iload_n 1 dX12_count_9 rfl ?_
  refine xi_aload_n 2 dX12_count_10 rfl ?_
  refine xi_iload_n 0 dX12_count_11 rfl ?_
  refine xi_callV (as := [.int 2]) (rest := [.int 0]) dX12_count_12 (fm_isNet G 2) mkX12_isNet w_1104 ws_35 w_1102 rfl rfl rfl rfl rfl (Nat.le_of_ble_eq_true rfl) (Nat.le_of_ble_eq_true rfl) (Nat.le_of_ble_eq_true rfl) (Nat.le_of_ble_eq_true rfl) (Nat.le_of_ble_eq_true rfl) ?_
  intro v M2 hq
  obtain ⟨rfl, rfl⟩ := hq
  show xW _ _ _ _ 15 _ [.int 0, .int 0] (MX 0 (fun _ => 0) rd0 mo0 (fun _ => 0) (fun _ => 0) (fun _ => 0)) _ _
  refine xi_if_eq_t (tgt := 24) dX12_count_15 (by decide) (by decide) ?_
  refine xi_iconst (v := 0) dX12_count_24 (by decide) ?_
  refine xi_ior (v := 0) dX12_count_25 (by decide) ?_
  refine xi_istore_n (lv' := [(2, .int 0), (3, .int 2), (0, .ref 149), (1, .int 3)]) dX12_count_26 (by decide) rfl ?_
  refine xi_iinc (v := 3) (lv' := [(3, .int 3), (2, .int 0), (0, .ref 149), (1, .int 3)]) 1 dX12_count_27 rfl (by decide) (by decide) rfl ?_
  refine xi_goto (tgt := 4) dX12_count_30 (by decide) ?_
  refine xi_iload_n 0 dX12_count_4 rfl ?_
  refine xi_iconst (v := 3) dX12_count_5 (by decide) ?_
  refine xi_icmp_ge_t (tgt := 33) dX12_count_6 (by decide) (by decide) ?_
  refine xi_iload_n 3 dX12_count_33 rfl ?_
  refine xi_tableIn (off := 42) (tgt := 76) dX12_count_34 (by decide) (by decide) (by decide) (by decide) ?_
  refine xi_aload_n 2 dX12_count_76 rfl ?_
  refine xi_get (f := 25) dX12_count_77 rfl rfl ok_9 (by decide) w_1033 rfl ?_
  exact xi_iret dX12_count_80 rfl rfl (Nat.le_of_ble_eq_true rfl) (Nat.le_of_ble_eq_true rfl) ⟨rfl, rfl⟩
set_option maxHeartbeats 4000000 in
set_option maxRecDepth 100000 in
theorem fm_count_out (G : xG) (a1 : Int32) (h : a1.toInt < 0 ∨ 3 < a1.toInt) : xC G mX12_count 5 0 0 [.ref 149, .int a1] (MX 0 (fun _ => 0) rd0 mo0 (fun _ => 0) (fun _ => 0) (fun _ => 0)) (fun v M2 => v = some (.int (-1)) ∧ M2 = (MX 0 (fun _ => 0) rd0 mo0 (fun _ => 0) (fun _ => 0) (fun _ => 0))) := by
  refine xC.of (by decide) (Nat.le_of_ble_eq_true rfl) ?_
  show xW _ _ _ _ 0 [(0, .ref 149), (1, .int a1)] [] _ 0 0
  refine xi_iconst (v := 0) dX12_count_0 (by decide) ?_
  refine xi_istore_n (lv' := [(2, .int 0), (0, .ref 149), (1, .int a1)]) dX12_count_1 (by decide) rfl ?_
  refine xi_iconst (v := 0) dX12_count_2 (by decide) ?_
  refine xi_istore_n (lv' := [(3, .int 0), (2, .int 0), (0, .ref 149), (1, .int a1)]) dX12_count_3 (by decide) rfl ?_
  refine xi_iload_n 0 dX12_count_4 rfl ?_
  refine xi_iconst (v := 3) dX12_count_5 (by decide) ?_
  refine xi_icmp_ge_f (tgt := 33) dX12_count_6 (by decide) (by decide) ?_
  refine xi_iload_n 1 dX12_count_9 rfl ?_
  refine xi_aload_n 2 dX12_count_10 rfl ?_
  refine xi_iload_n 0 dX12_count_11 rfl ?_
  refine xi_callV (as := [.int 0]) (rest := [.int 0]) dX12_count_12 (fm_isNet G 0) mkX12_isNet w_1104 ws_35 w_1102 rfl rfl rfl rfl rfl (Nat.le_of_ble_eq_true rfl) (Nat.le_of_ble_eq_true rfl) (Nat.le_of_ble_eq_true rfl) (Nat.le_of_ble_eq_true rfl) (Nat.le_of_ble_eq_true rfl) ?_
  intro v M2 hq
  obtain ⟨rfl, rfl⟩ := hq
  show xW _ _ _ _ 15 _ [.int 0, .int 0] (MX 0 (fun _ => 0) rd0 mo0 (fun _ => 0) (fun _ => 0) (fun _ => 0)) _ _
  refine xi_if_eq_t (tgt := 24) dX12_count_15 (by decide) (by decide) ?_
  refine xi_iconst (v := 0) dX12_count_24 (by decide) ?_
  refine xi_ior (v := 0) dX12_count_25 (by decide) ?_
  refine xi_istore_n (lv' := [(2, .int 0), (3, .int 0), (0, .ref 149), (1, .int a1)]) dX12_count_26 (by decide) rfl ?_
  refine xi_iinc (v := 1) (lv' := [(3, .int 1), (2, .int 0), (0, .ref 149), (1, .int a1)]) 1 dX12_count_27 rfl (by decide) (by decide) rfl ?_
  refine xi_goto (tgt := 4) dX12_count_30 (by decide) ?_
  refine xi_iload_n 0 dX12_count_4 rfl ?_
  refine xi_iconst (v := 3) dX12_count_5 (by decide) ?_
  refine xi_icmp_ge_f (tgt := 33) dX12_count_6 (by decide) (by decide) ?_
  refine xi_iload_n 1 dX12_count_9 rfl ?_
  refine xi_aload_n 2 dX12_count_10 rfl ?_
  refine xi_iload_n 0 dX12_count_11 rfl ?_
  refine xi_callV (as := [.int 1]) (rest := [.int 0]) dX12_count_12 (fm_isNet G 1) mkX12_isNet w_1104 ws_35 w_1102 rfl rfl rfl rfl rfl (Nat.le_of_ble_eq_true rfl) (Nat.le_of_ble_eq_true rfl) (Nat.le_of_ble_eq_true rfl) (Nat.le_of_ble_eq_true rfl) (Nat.le_of_ble_eq_true rfl) ?_
  intro v M2 hq
  obtain ⟨rfl, rfl⟩ := hq
  show xW _ _ _ _ 15 _ [.int 0, .int 0] (MX 0 (fun _ => 0) rd0 mo0 (fun _ => 0) (fun _ => 0) (fun _ => 0)) _ _
  refine xi_if_eq_t (tgt := 24) dX12_count_15 (by decide) (by decide) ?_
  refine xi_iconst (v := 0) dX12_count_24 (by decide) ?_
  refine xi_ior (v := 0) dX12_count_25 (by decide) ?_
  refine xi_istore_n (lv' := [(2, .int 0), (3, .int 1), (0, .ref 149), (1, .int a1)]) dX12_count_26 (by decide) rfl ?_
  refine xi_iinc (v := 2) (lv' := [(3, .int 2), (2, .int 0), (0, .ref 149), (1, .int a1)]) 1 dX12_count_27 rfl (by decide) (by decide) rfl ?_
  refine xi_goto (tgt := 4) dX12_count_30 (by decide) ?_
  refine xi_iload_n 0 dX12_count_4 rfl ?_
  refine xi_iconst (v := 3) dX12_count_5 (by decide) ?_
  refine xi_icmp_ge_f (tgt := 33) dX12_count_6 (by decide) (by decide) ?_
  refine xi_iload_n 1 dX12_count_9 rfl ?_
  refine xi_aload_n 2 dX12_count_10 rfl ?_
  refine xi_iload_n 0 dX12_count_11 rfl ?_
  refine xi_callV (as := [.int 2]) (rest := [.int 0]) dX12_count_12 (fm_isNet G 2) mkX12_isNet w_1104 ws_35 w_1102 rfl rfl rfl rfl rfl (Nat.le_of_ble_eq_true rfl) (Nat.le_of_ble_eq_true rfl) (Nat.le_of_ble_eq_true rfl) (Nat.le_of_ble_eq_true rfl) (Nat.le_of_ble_eq_true rfl) ?_
  intro v M2 hq
  obtain ⟨rfl, rfl⟩ := hq
  show xW _ _ _ _ 15 _ [.int 0, .int 0] (MX 0 (fun _ => 0) rd0 mo0 (fun _ => 0) (fun _ => 0) (fun _ => 0)) _ _
  refine xi_if_eq_t (tgt := 24) dX12_count_15 (by decide) (by decide) ?_
  refine xi_iconst (v := 0) dX12_count_24 (by decide) ?_
  refine xi_ior (v := 0) dX12_count_25 (by decide) ?_
  refine xi_istore_n (lv' := [(2, .int 0), (3, .int 2), (0, .ref 149), (1, .int a1)]) dX12_count_26 (by decide) rfl ?_
  refine xi_iinc (v := 3) (lv' := [(3, .int 3), (2, .int 0), (0, .ref 149), (1, .int a1)]) 1 dX12_count_27 rfl (by decide) (by decide) rfl ?_
  refine xi_goto (tgt := 4) dX12_count_30 (by decide) ?_
  refine xi_iload_n 0 dX12_count_4 rfl ?_
  refine xi_iconst (v := 3) dX12_count_5 (by decide) ?_
  refine xi_icmp_ge_t (tgt := 33) dX12_count_6 (by decide) (by decide) ?_
  refine xi_iload_n 3 dX12_count_33 rfl ?_
  refine xi_tableOut (tgt := 81) dX12_count_34 h (by decide) ?_
  refine xi_iconst (v := (-1)) dX12_count_81 (by decide) ?_
  exact xi_iret dX12_count_82 rfl rfl (Nat.le_of_ble_eq_true rfl) (Nat.le_of_ble_eq_true rfl) ⟨rfl, rfl⟩
set_option maxHeartbeats 4000000 in
set_option maxRecDepth 100000 in
theorem au_17 (G : xG) : xC G mX12_in 0 0 0 [.long 0, .long 0, .long 0] (MX 0 (fun _ => 0) rd0 mo0 (fun _ => 0) (fun _ => 0) (fun _ => 0)) (fun v M2 => v = some (.int 1) ∧ M2 = (MX 0 (fun _ => 0) rd0 mo0 (fun _ => 0) (fun _ => 0) (fun _ => 0))) := by
  refine xC.of (by decide) (Nat.le_of_ble_eq_true rfl) ?_
  show xW _ _ _ _ 0 [(0, .long 0), (2, .long 0), (4, .long 0)] [] _ 0 0
  refine xi_lload_n 0 dX12_in_0 rfl ?_
  refine xi_lload_n 1 dX12_in_1 rfl ?_
  refine xi_lcmp (v := 0) dX12_in_2 (by decide) ?_
  refine xi_if_lt_f (tgt := 17) dX12_in_3 (by decide) (by decide) ?_
  refine xi_lload_n 0 dX12_in_6 rfl ?_
  refine xi_lload 2 dX12_in_7 rfl ?_
  refine xi_lcmp (v := 0) dX12_in_9 (by decide) ?_
  refine xi_if_gt_f (tgt := 17) dX12_in_10 (by decide) (by decide) ?_
  refine xi_iconst (v := 1) dX12_in_13 (by decide) ?_
  refine xi_goto (tgt := 18) dX12_in_14 (by decide) ?_
  exact xi_iret dX12_in_18 rfl (by decide) (Nat.le_of_ble_eq_true rfl) (Nat.le_of_ble_eq_true rfl) ⟨rfl, rfl⟩
set_option maxHeartbeats 4000000 in
set_option maxRecDepth 100000 in
theorem fm_end_0 (G : xG) : xC G mX12_end 5 0 0 [.ref 149, .int 0] (MX 0 (fun _ => 0) rd0 mo0 (fun _ => 0) (fun _ => 0) (fun _ => 0)) (fun v M2 => v = some (.int 0) ∧ M2 = (MX 0 (fun _ => 0) rd0 mo0 (fun _ => 0) (fun _ => 0) (fun _ => 0))) := by
  refine xC.of (by decide) (Nat.le_of_ble_eq_true rfl) ?_
  show xW _ _ _ _ 0 [(0, .ref 149), (1, .int 0)] [] _ 0 0
  refine xi_iload_n 1 dX12_end_0 rfl ?_
  refine xi_i2l (v := 0) dX12_end_1 (by decide) ?_
  refine xi_lconst (v := 0) dX12_end_2 (by decide) ?_
  refine xi_aload_n 0 dX12_end_3 rfl ?_
  refine xi_get (f := 5) dX12_end_4 rfl rfl ok_9 (by decide) w_1013 rfl ?_
  refine xi_i2l (v := 0) dX12_end_7 (by decide) ?_
  refine xi_callS (as := [.long 0, .long 0, .long 0]) (rest := []) dX12_end_8 (au_17 G) mkX12_in w_1100 w_1099 rfl rfl (Nat.le_of_ble_eq_true rfl) (Nat.le_of_ble_eq_true rfl) (Nat.le_of_ble_eq_true rfl) (Nat.le_of_ble_eq_true rfl) (Nat.le_of_ble_eq_true rfl) ?_
  intro v M2 hq
  obtain ⟨rfl, rfl⟩ := hq
  show xW _ _ _ _ 11 _ [.int 1] (MX 0 (fun _ => 0) rd0 mo0 (fun _ => 0) (fun _ => 0) (fun _ => 0)) _ _
  refine xi_if_ne_t (tgt := 16) dX12_end_11 (by decide) (by decide) ?_
  refine xi_aload_n 0 dX12_end_16 rfl ?_
  refine xi_iload_n 1 dX12_end_17 rfl ?_
  refine xi_put (f := 5) (ty := .int) (M' := (MX 0 (fun _ => 0) rd0 mo0 (fun _ => 0) (fun _ => 0) (fun _ => 0))) dX12_end_18 rfl rfl ok_9 (by decide) w_1013 rfl pf_I (fun _ h => by cases h) rfl rfl (Nat.le_of_ble_eq_true rfl) rfl ?_
  refine xi_iload_n 1 dX12_end_21 rfl ?_
  exact xi_iret dX12_end_22 rfl rfl (Nat.le_of_ble_eq_true rfl) (Nat.le_of_ble_eq_true rfl) ⟨rfl, rfl⟩
set_option maxHeartbeats 4000000 in
set_option maxRecDepth 100000 in
theorem fm_end_out (G : xG) (a1 : Int32) (h : a1 < 0 ∨ 0 < a1) : xC G mX12_end 5 0 0 [.ref 149, .int a1] (MX 0 (fun _ => 0) rd0 mo0 (fun _ => 0) (fun _ => 0) (fun _ => 0)) (fun v M2 => v = some (.int (-1)) ∧ M2 = (MX 0 (fun _ => 0) rd0 mo0 (fun _ => 0) (fun _ => 0) (fun _ => 0))) := by
  refine xC.of (by decide) (Nat.le_of_ble_eq_true rfl) ?_
  show xW _ _ _ _ 0 [(0, .ref 149), (1, .int a1)] [] _ 0 0
  refine xi_iload_n 1 dX12_end_0 rfl ?_
  refine xi_i2l dX12_end_1 rfl ?_
  refine xi_lconst (v := 0) dX12_end_2 (by decide) ?_
  refine xi_aload_n 0 dX12_end_3 rfl ?_
  refine xi_get (f := 5) dX12_end_4 rfl rfl ok_9 (by decide) w_1013 rfl ?_
  refine xi_i2l (v := 0) dX12_end_7 (by decide) ?_
  refine xi_callS (as := [.long a1.toInt64, .long 0, .long 0]) (rest := []) dX12_end_8 (fm_in_e G _ (out1 h)) mkX12_in w_1100 w_1099 rfl rfl (Nat.le_of_ble_eq_true rfl) (Nat.le_of_ble_eq_true rfl) (Nat.le_of_ble_eq_true rfl) (Nat.le_of_ble_eq_true rfl) (Nat.le_of_ble_eq_true rfl) ?_
  intro v M2 hq
  obtain ⟨rfl, rfl⟩ := hq
  show xW _ _ _ _ 11 _ [.int 0] (MX 0 (fun _ => 0) rd0 mo0 (fun _ => 0) (fun _ => 0) (fun _ => 0)) _ _
  refine xi_if_ne_f (tgt := 16) dX12_end_11 (by decide) (by decide) ?_
  refine xi_iconst (v := (-1)) dX12_end_14 (by decide) ?_
  exact xi_iret dX12_end_15 rfl rfl (Nat.le_of_ble_eq_true rfl) (Nat.le_of_ble_eq_true rfl) ⟨rfl, rfl⟩
set_option maxHeartbeats 4000000 in
set_option maxRecDepth 100000 in
theorem fm_feed (G : xG) (f : Nat → Int32) (a1 a2 a3 a4 a5 : Int32) : xC G mX12_feed 5 1 5 [.ref 149, .int a1, .int a2, .int a3, .int a4, .int a5] (MX 20 f rd0 mo0 (fun _ => 0) (fun _ => 0) (fun _ => 0)) (fun v M2 => v = some (.int 20) ∧ True) := by
  refine xC.of (by decide) (Nat.le_of_ble_eq_true rfl) ?_
  show xW _ _ _ _ 0 [(0, .ref 149), (1, .int a1), (2, .int a2), (3, .int a3), (4, .int a4), (5, .int a5)] [] _ 0 0
  refine xi_aload_n 0 dX12_feed_0 rfl ?_
  refine xi_get (f := 5) dX12_feed_1 rfl rfl ok_9 (by decide) w_1013 rfl ?_
  refine xi_sipush (v := 380) dX12_feed_4 (by decide) ?_
  refine xi_icmp_le_t (tgt := 12) dX12_feed_7 (by decide) (by decide) ?_
  refine xi_iconst (v := 5) dX12_feed_12 (by decide) ?_
  refine xi_newI (i := 163) (N := 5) (M' := (MX 20 f rd0 mo0 (fun _ => 0) (fun _ => 0) (fun _ => 0) ++ [xz 5])) dX12_feed_13 w_95 (by decide) (by decide) (Nat.le_of_ble_eq_true rfl) rfl rfl (Nat.le_of_ble_eq_true rfl) (Nat.le_of_ble_eq_true rfl) ?_
  refine xi_dup dX12_feed_15 rfl ?_
  refine xi_iconst (v := 0) dX12_feed_16 (by decide) ?_
  refine xi_iload_n 1 dX12_feed_17 rfl ?_
  refine xi_iastore (M' := (MX 20 f rd0 mo0 (fun _ => 0) (fun _ => 0) (fun _ => 0) ++ [.inl (0, 5, .inl (upd (fun _ => 0) 0 a1))])) dX12_feed_18 rfl (by unfold vp_in; decide) rfl ?_
  refine xi_dup dX12_feed_19 rfl ?_
  refine xi_iconst (v := 1) dX12_feed_20 (by decide) ?_
  refine xi_iload_n 2 dX12_feed_21 rfl ?_
  refine xi_iastore (M' := (MX 20 f rd0 mo0 (fun _ => 0) (fun _ => 0) (fun _ => 0) ++ [.inl (0, 5, .inl (upd (upd (fun _ => 0) 0 a1) 1 a2))])) dX12_feed_22 rfl (by unfold vp_in; decide) rfl ?_
  refine xi_dup dX12_feed_23 rfl ?_
  refine xi_iconst (v := 2) dX12_feed_24 (by decide) ?_
  refine xi_iload_n 3 dX12_feed_25 rfl ?_
  refine xi_iastore (M' := (MX 20 f rd0 mo0 (fun _ => 0) (fun _ => 0) (fun _ => 0) ++ [.inl (0, 5, .inl (upd (upd (upd (fun _ => 0) 0 a1) 1 a2) 2 a3))])) dX12_feed_26 rfl (by unfold vp_in; decide) rfl ?_
  refine xi_dup dX12_feed_27 rfl ?_
  refine xi_iconst (v := 3) dX12_feed_28 (by decide) ?_
  refine xi_iload 4 dX12_feed_29 rfl ?_
  refine xi_iastore (M' := (MX 20 f rd0 mo0 (fun _ => 0) (fun _ => 0) (fun _ => 0) ++ [.inl (0, 5, .inl (upd (upd (upd (upd (fun _ => 0) 0 a1) 1 a2) 2 a3) 3 a4))])) dX12_feed_31 rfl (by unfold vp_in; decide) rfl ?_
  refine xi_dup dX12_feed_32 rfl ?_
  refine xi_iconst (v := 4) dX12_feed_33 (by decide) ?_
  refine xi_iload 5 dX12_feed_34 rfl ?_
  refine xi_iastore (M' := (MX 20 f rd0 mo0 (fun _ => 0) (fun _ => 0) (fun _ => 0) ++ [.inl (0, 5, .inl (upd (upd (upd (upd (upd (fun _ => 0) 0 a1) 1 a2) 2 a3) 3 a4) 4 a5))])) dX12_feed_36 rfl (by unfold vp_in; decide) rfl ?_
  refine xi_astore (lv' := [(6, .ref 163), (0, .ref 149), (1, .int a1), (2, .int a2), (3, .int a3), (4, .int a4), (5, .int a5)]) dX12_feed_37 (by decide) rfl ?_
  refine xi_iconst (v := 0) dX12_feed_39 (by decide) ?_
  refine xi_istore (lv' := [(7, .int 0), (6, .ref 163), (0, .ref 149), (1, .int a1), (2, .int a2), (3, .int a3), (4, .int a4), (5, .int a5)]) dX12_feed_40 (by decide) rfl ?_
  refine xi_iload 0 dX12_feed_42 rfl ?_
  refine xi_bipush (v := 20) dX12_feed_44 (by decide) ?_
  refine xi_icmp_ge_f (tgt := 89) dX12_feed_46 (by decide) (by decide) ?_
  refine xi_aload_n 2 dX12_feed_49 rfl ?_
  refine xi_get (f := 4) dX12_feed_50 rfl rfl ok_9 (by decide) w_1012 rfl ?_
  refine xi_aload_n 2 dX12_feed_53 rfl ?_
  refine xi_get (f := 5) dX12_feed_54 rfl rfl ok_9 (by decide) w_1013 rfl ?_
  refine xi_iload 0 dX12_feed_57 rfl ?_
  refine xi_iadd (v := 0) dX12_feed_59 (by decide) ?_
  refine xi_aload 1 dX12_feed_60 rfl ?_
  refine xi_iload 0 dX12_feed_62 rfl ?_
  refine xi_iconst (v := 4) dX12_feed_64 (by decide) ?_
  refine xi_idiv (v := 0) dX12_feed_65 (by decide) (by decide) ?_
  refine xi_iaload (v := a1) dX12_feed_66 rfl (by unfold vp_in; decide) rfl ?_
  refine xi_bipush (v := 24) dX12_feed_67 (by decide) ?_
  refine xi_bipush (v := 8) dX12_feed_69 (by decide) ?_
  refine xi_iload 0 dX12_feed_71 rfl ?_
  refine xi_iconst (v := 4) dX12_feed_73 (by decide) ?_
  refine xi_irem (v := 0) dX12_feed_74 (by decide) (by decide) ?_
  refine xi_imul (v := 0) dX12_feed_75 (by decide) ?_
  refine xi_isub (v := 24) dX12_feed_76 (by decide) ?_
  refine xi_iushr dX12_feed_77 rfl ?_
  refine xi_sipush (v := 255) dX12_feed_78 (by decide) ?_
  refine xi_iand dX12_feed_81 rfl ?_
  refine xi_iastore (M' := (MX 20 f rd0 mo0 (fun _ => 0) (fun _ => 0) (upd (fun _ => 0) 0 (((a1.toUInt32 >>> (((24 : Int32)).toUInt32 &&& Int32.toUInt32 31)).toInt32) &&& 255)) ++ [.inl (0, 5, .inl (upd (upd (upd (upd (upd (fun _ => 0) 0 a1) 1 a2) 2 a3) 3 a4) 4 a5))])) dX12_feed_82 rfl (by unfold vp_in; decide) rfl ?_
  refine xi_iinc (v := 1) (lv' := [(7, .int 1), (6, .ref 163), (0, .ref 149), (1, .int a1), (2, .int a2), (3, .int a3), (4, .int a4), (5, .int a5)]) 0 dX12_feed_83 rfl (by decide) (by decide) rfl ?_
  refine xi_goto (tgt := 42) dX12_feed_86 (by decide) ?_
  refine xi_iload 0 dX12_feed_42 rfl ?_
  refine xi_bipush (v := 20) dX12_feed_44 (by decide) ?_
  refine xi_icmp_ge_f (tgt := 89) dX12_feed_46 (by decide) (by decide) ?_
  refine xi_aload_n 2 dX12_feed_49 rfl ?_
  refine xi_get (f := 4) dX12_feed_50 rfl rfl ok_9 (by decide) w_1012 rfl ?_
  refine xi_aload_n 2 dX12_feed_53 rfl ?_
  refine xi_get (f := 5) dX12_feed_54 rfl rfl ok_9 (by decide) w_1013 rfl ?_
  refine xi_iload 0 dX12_feed_57 rfl ?_
  refine xi_iadd (v := 1) dX12_feed_59 (by decide) ?_
  refine xi_aload 1 dX12_feed_60 rfl ?_
  refine xi_iload 0 dX12_feed_62 rfl ?_
  refine xi_iconst (v := 4) dX12_feed_64 (by decide) ?_
  refine xi_idiv (v := 0) dX12_feed_65 (by decide) (by decide) ?_
  refine xi_iaload (v := a1) dX12_feed_66 rfl (by unfold vp_in; decide) rfl ?_
  refine xi_bipush (v := 24) dX12_feed_67 (by decide) ?_
  refine xi_bipush (v := 8) dX12_feed_69 (by decide) ?_
  refine xi_iload 0 dX12_feed_71 rfl ?_
  refine xi_iconst (v := 4) dX12_feed_73 (by decide) ?_
  refine xi_irem (v := 1) dX12_feed_74 (by decide) (by decide) ?_
  refine xi_imul (v := 8) dX12_feed_75 (by decide) ?_
  refine xi_isub (v := 16) dX12_feed_76 (by decide) ?_
  refine xi_iushr dX12_feed_77 rfl ?_
  refine xi_sipush (v := 255) dX12_feed_78 (by decide) ?_
  refine xi_iand dX12_feed_81 rfl ?_
  refine xi_iastore (M' := (MX 20 f rd0 mo0 (fun _ => 0) (fun _ => 0) (upd (upd (fun _ => 0) 0 (((a1.toUInt32 >>> (((24 : Int32)).toUInt32 &&& Int32.toUInt32 31)).toInt32) &&& 255)) 1 (((a1.toUInt32 >>> (((16 : Int32)).toUInt32 &&& Int32.toUInt32 31)).toInt32) &&& 255)) ++ [.inl (0, 5, .inl (upd (upd (upd (upd (upd (fun _ => 0) 0 a1) 1 a2) 2 a3) 3 a4) 4 a5))])) dX12_feed_82 rfl (by unfold vp_in; decide) rfl ?_
  refine xi_iinc (v := 2) (lv' := [(7, .int 2), (6, .ref 163), (0, .ref 149), (1, .int a1), (2, .int a2), (3, .int a3), (4, .int a4), (5, .int a5)]) 0 dX12_feed_83 rfl (by decide) (by decide) rfl ?_
  refine xi_goto (tgt := 42) dX12_feed_86 (by decide) ?_
  refine xi_iload 0 dX12_feed_42 rfl ?_
  refine xi_bipush (v := 20) dX12_feed_44 (by decide) ?_
  refine xi_icmp_ge_f (tgt := 89) dX12_feed_46 (by decide) (by decide) ?_
  refine xi_aload_n 2 dX12_feed_49 rfl ?_
  refine xi_get (f := 4) dX12_feed_50 rfl rfl ok_9 (by decide) w_1012 rfl ?_
  refine xi_aload_n 2 dX12_feed_53 rfl ?_
  refine xi_get (f := 5) dX12_feed_54 rfl rfl ok_9 (by decide) w_1013 rfl ?_
  refine xi_iload 0 dX12_feed_57 rfl ?_
  refine xi_iadd (v := 2) dX12_feed_59 (by decide) ?_
  refine xi_aload 1 dX12_feed_60 rfl ?_
  refine xi_iload 0 dX12_feed_62 rfl ?_
  refine xi_iconst (v := 4) dX12_feed_64 (by decide) ?_
  refine xi_idiv (v := 0) dX12_feed_65 (by decide) (by decide) ?_
  refine xi_iaload (v := a1) dX12_feed_66 rfl (by unfold vp_in; decide) rfl ?_
  refine xi_bipush (v := 24) dX12_feed_67 (by decide) ?_
  refine xi_bipush (v := 8) dX12_feed_69 (by decide) ?_
  refine xi_iload 0 dX12_feed_71 rfl ?_
  refine xi_iconst (v := 4) dX12_feed_73 (by decide) ?_
  refine xi_irem (v := 2) dX12_feed_74 (by decide) (by decide) ?_
  refine xi_imul (v := 16) dX12_feed_75 (by decide) ?_
  refine xi_isub (v := 8) dX12_feed_76 (by decide) ?_
  refine xi_iushr dX12_feed_77 rfl ?_
  refine xi_sipush (v := 255) dX12_feed_78 (by decide) ?_
  refine xi_iand dX12_feed_81 rfl ?_
  refine xi_iastore (M' := (MX 20 f rd0 mo0 (fun _ => 0) (fun _ => 0) (upd (upd (upd (fun _ => 0) 0 (((a1.toUInt32 >>> (((24 : Int32)).toUInt32 &&& Int32.toUInt32 31)).toInt32) &&& 255)) 1 (((a1.toUInt32 >>> (((16 : Int32)).toUInt32 &&& Int32.toUInt32 31)).toInt32) &&& 255)) 2 (((a1.toUInt32 >>> (((8 : Int32)).toUInt32 &&& Int32.toUInt32 31)).toInt32) &&& 255)) ++ [.inl (0, 5, .inl (upd (upd (upd (upd (upd (fun _ => 0) 0 a1) 1 a2) 2 a3) 3 a4) 4 a5))])) dX12_feed_82 rfl (by unfold vp_in; decide) rfl ?_
  refine xi_iinc (v := 3) (lv' := [(7, .int 3), (6, .ref 163), (0, .ref 149), (1, .int a1), (2, .int a2), (3, .int a3), (4, .int a4), (5, .int a5)]) 0 dX12_feed_83 rfl (by decide) (by decide) rfl ?_
  refine xi_goto (tgt := 42) dX12_feed_86 (by decide) ?_
  refine xi_iload 0 dX12_feed_42 rfl ?_
  refine xi_bipush (v := 20) dX12_feed_44 (by decide) ?_
  refine xi_icmp_ge_f (tgt := 89) dX12_feed_46 (by decide) (by decide) ?_
  refine xi_aload_n 2 dX12_feed_49 rfl ?_
  refine xi_get (f := 4) dX12_feed_50 rfl rfl ok_9 (by decide) w_1012 rfl ?_
  refine xi_aload_n 2 dX12_feed_53 rfl ?_
  refine xi_get (f := 5) dX12_feed_54 rfl rfl ok_9 (by decide) w_1013 rfl ?_
  refine xi_iload 0 dX12_feed_57 rfl ?_
  refine xi_iadd (v := 3) dX12_feed_59 (by decide) ?_
  refine xi_aload 1 dX12_feed_60 rfl ?_
  refine xi_iload 0 dX12_feed_62 rfl ?_
  refine xi_iconst (v := 4) dX12_feed_64 (by decide) ?_
  refine xi_idiv (v := 0) dX12_feed_65 (by decide) (by decide) ?_
  refine xi_iaload (v := a1) dX12_feed_66 rfl (by unfold vp_in; decide) rfl ?_
  refine xi_bipush (v := 24) dX12_feed_67 (by decide) ?_
  refine xi_bipush (v := 8) dX12_feed_69 (by decide) ?_
  refine xi_iload 0 dX12_feed_71 rfl ?_
  refine xi_iconst (v := 4) dX12_feed_73 (by decide) ?_
  refine xi_irem (v := 3) dX12_feed_74 (by decide) (by decide) ?_
  refine xi_imul (v := 24) dX12_feed_75 (by decide) ?_
  refine xi_isub (v := 0) dX12_feed_76 (by decide) ?_
  refine xi_iushr dX12_feed_77 rfl ?_
  refine xi_sipush (v := 255) dX12_feed_78 (by decide) ?_
  refine xi_iand dX12_feed_81 rfl ?_
  refine xi_iastore (M' := (MX 20 f rd0 mo0 (fun _ => 0) (fun _ => 0) (upd (upd (upd (upd (fun _ => 0) 0 (((a1.toUInt32 >>> (((24 : Int32)).toUInt32 &&& Int32.toUInt32 31)).toInt32) &&& 255)) 1 (((a1.toUInt32 >>> (((16 : Int32)).toUInt32 &&& Int32.toUInt32 31)).toInt32) &&& 255)) 2 (((a1.toUInt32 >>> (((8 : Int32)).toUInt32 &&& Int32.toUInt32 31)).toInt32) &&& 255)) 3 (((a1.toUInt32 >>> (((0 : Int32)).toUInt32 &&& Int32.toUInt32 31)).toInt32) &&& 255)) ++ [.inl (0, 5, .inl (upd (upd (upd (upd (upd (fun _ => 0) 0 a1) 1 a2) 2 a3) 3 a4) 4 a5))])) dX12_feed_82 rfl (by unfold vp_in; decide) rfl ?_
  refine xi_iinc (v := 4) (lv' := [(7, .int 4), (6, .ref 163), (0, .ref 149), (1, .int a1), (2, .int a2), (3, .int a3), (4, .int a4), (5, .int a5)]) 0 dX12_feed_83 rfl (by decide) (by decide) rfl ?_
  refine xi_goto (tgt := 42) dX12_feed_86 (by decide) ?_
  refine xi_iload 0 dX12_feed_42 rfl ?_
  refine xi_bipush (v := 20) dX12_feed_44 (by decide) ?_
  refine xi_icmp_ge_f (tgt := 89) dX12_feed_46 (by decide) (by decide) ?_
  refine xi_aload_n 2 dX12_feed_49 rfl ?_
  refine xi_get (f := 4) dX12_feed_50 rfl rfl ok_9 (by decide) w_1012 rfl ?_
  refine xi_aload_n 2 dX12_feed_53 rfl ?_
  refine xi_get (f := 5) dX12_feed_54 rfl rfl ok_9 (by decide) w_1013 rfl ?_
  refine xi_iload 0 dX12_feed_57 rfl ?_
  refine xi_iadd (v := 4) dX12_feed_59 (by decide) ?_
  refine xi_aload 1 dX12_feed_60 rfl ?_
  refine xi_iload 0 dX12_feed_62 rfl ?_
  refine xi_iconst (v := 4) dX12_feed_64 (by decide) ?_
  refine xi_idiv (v := 1) dX12_feed_65 (by decide) (by decide) ?_
  refine xi_iaload (v := a2) dX12_feed_66 rfl (by unfold vp_in; decide) rfl ?_
  refine xi_bipush (v := 24) dX12_feed_67 (by decide) ?_
  refine xi_bipush (v := 8) dX12_feed_69 (by decide) ?_
  refine xi_iload 0 dX12_feed_71 rfl ?_
  refine xi_iconst (v := 4) dX12_feed_73 (by decide) ?_
  refine xi_irem (v := 0) dX12_feed_74 (by decide) (by decide) ?_
  refine xi_imul (v := 0) dX12_feed_75 (by decide) ?_
  refine xi_isub (v := 24) dX12_feed_76 (by decide) ?_
  refine xi_iushr dX12_feed_77 rfl ?_
  refine xi_sipush (v := 255) dX12_feed_78 (by decide) ?_
  refine xi_iand dX12_feed_81 rfl ?_
  refine xi_iastore (M' := (MX 20 f rd0 mo0 (fun _ => 0) (fun _ => 0) (upd (upd (upd (upd (upd (fun _ => 0) 0 (((a1.toUInt32 >>> (((24 : Int32)).toUInt32 &&& Int32.toUInt32 31)).toInt32) &&& 255)) 1 (((a1.toUInt32 >>> (((16 : Int32)).toUInt32 &&& Int32.toUInt32 31)).toInt32) &&& 255)) 2 (((a1.toUInt32 >>> (((8 : Int32)).toUInt32 &&& Int32.toUInt32 31)).toInt32) &&& 255)) 3 (((a1.toUInt32 >>> (((0 : Int32)).toUInt32 &&& Int32.toUInt32 31)).toInt32) &&& 255)) 4 (((a2.toUInt32 >>> (((24 : Int32)).toUInt32 &&& Int32.toUInt32 31)).toInt32) &&& 255)) ++ [.inl (0, 5, .inl (upd (upd (upd (upd (upd (fun _ => 0) 0 a1) 1 a2) 2 a3) 3 a4) 4 a5))])) dX12_feed_82 rfl (by unfold vp_in; decide) rfl ?_
  refine xi_iinc (v := 5) (lv' := [(7, .int 5), (6, .ref 163), (0, .ref 149), (1, .int a1), (2, .int a2), (3, .int a3), (4, .int a4), (5, .int a5)]) 0 dX12_feed_83 rfl (by decide) (by decide) rfl ?_
  refine xi_goto (tgt := 42) dX12_feed_86 (by decide) ?_
  refine xi_iload 0 dX12_feed_42 rfl ?_
  refine xi_bipush (v := 20) dX12_feed_44 (by decide) ?_
  refine xi_icmp_ge_f (tgt := 89) dX12_feed_46 (by decide) (by decide) ?_
  refine xi_aload_n 2 dX12_feed_49 rfl ?_
  refine xi_get (f := 4) dX12_feed_50 rfl rfl ok_9 (by decide) w_1012 rfl ?_
  refine xi_aload_n 2 dX12_feed_53 rfl ?_
  refine xi_get (f := 5) dX12_feed_54 rfl rfl ok_9 (by decide) w_1013 rfl ?_
  refine xi_iload 0 dX12_feed_57 rfl ?_
  refine xi_iadd (v := 5) dX12_feed_59 (by decide) ?_
  refine xi_aload 1 dX12_feed_60 rfl ?_
  refine xi_iload 0 dX12_feed_62 rfl ?_
  refine xi_iconst (v := 4) dX12_feed_64 (by decide) ?_
  refine xi_idiv (v := 1) dX12_feed_65 (by decide) (by decide) ?_
  refine xi_iaload (v := a2) dX12_feed_66 rfl (by unfold vp_in; decide) rfl ?_
  refine xi_bipush (v := 24) dX12_feed_67 (by decide) ?_
  refine xi_bipush (v := 8) dX12_feed_69 (by decide) ?_
  refine xi_iload 0 dX12_feed_71 rfl ?_
  refine xi_iconst (v := 4) dX12_feed_73 (by decide) ?_
  refine xi_irem (v := 1) dX12_feed_74 (by decide) (by decide) ?_
  refine xi_imul (v := 8) dX12_feed_75 (by decide) ?_
  refine xi_isub (v := 16) dX12_feed_76 (by decide) ?_
  refine xi_iushr dX12_feed_77 rfl ?_
  refine xi_sipush (v := 255) dX12_feed_78 (by decide) ?_
  refine xi_iand dX12_feed_81 rfl ?_
  refine xi_iastore (M' := (MX 20 f rd0 mo0 (fun _ => 0) (fun _ => 0) (upd (upd (upd (upd (upd (upd (fun _ => 0) 0 (((a1.toUInt32 >>> (((24 : Int32)).toUInt32 &&& Int32.toUInt32 31)).toInt32) &&& 255)) 1 (((a1.toUInt32 >>> (((16 : Int32)).toUInt32 &&& Int32.toUInt32 31)).toInt32) &&& 255)) 2 (((a1.toUInt32 >>> (((8 : Int32)).toUInt32 &&& Int32.toUInt32 31)).toInt32) &&& 255)) 3 (((a1.toUInt32 >>> (((0 : Int32)).toUInt32 &&& Int32.toUInt32 31)).toInt32) &&& 255)) 4 (((a2.toUInt32 >>> (((24 : Int32)).toUInt32 &&& Int32.toUInt32 31)).toInt32) &&& 255)) 5 (((a2.toUInt32 >>> (((16 : Int32)).toUInt32 &&& Int32.toUInt32 31)).toInt32) &&& 255)) ++ [.inl (0, 5, .inl (upd (upd (upd (upd (upd (fun _ => 0) 0 a1) 1 a2) 2 a3) 3 a4) 4 a5))])) dX12_feed_82 rfl (by unfold vp_in; decide) rfl ?_
  refine xi_iinc (v := 6) (lv' := [(7, .int 6), (6, .ref 163), (0, .ref 149), (1, .int a1), (2, .int a2), (3, .int a3), (4, .int a4), (5, .int a5)]) 0 dX12_feed_83 rfl (by decide) (by decide) rfl ?_
  refine xi_goto (tgt := 42) dX12_feed_86 (by decide) ?_
  refine xi_iload 0 dX12_feed_42 rfl ?_
  refine xi_bipush (v := 20) dX12_feed_44 (by decide) ?_
  refine xi_icmp_ge_f (tgt := 89) dX12_feed_46 (by decide) (by decide) ?_
  refine xi_aload_n 2 dX12_feed_49 rfl ?_
  refine xi_get (f := 4) dX12_feed_50 rfl rfl ok_9 (by decide) w_1012 rfl ?_
  refine xi_aload_n 2 dX12_feed_53 rfl ?_
  refine xi_get (f := 5) dX12_feed_54 rfl rfl ok_9 (by decide) w_1013 rfl ?_
  refine xi_iload 0 dX12_feed_57 rfl ?_
  refine xi_iadd (v := 6) dX12_feed_59 (by decide) ?_
  refine xi_aload 1 dX12_feed_60 rfl ?_
  refine xi_iload 0 dX12_feed_62 rfl ?_
  refine xi_iconst (v := 4) dX12_feed_64 (by decide) ?_
  refine xi_idiv (v := 1) dX12_feed_65 (by decide) (by decide) ?_
  refine xi_iaload (v := a2) dX12_feed_66 rfl (by unfold vp_in; decide) rfl ?_
  refine xi_bipush (v := 24) dX12_feed_67 (by decide) ?_
  refine xi_bipush (v := 8) dX12_feed_69 (by decide) ?_
  refine xi_iload 0 dX12_feed_71 rfl ?_
  refine xi_iconst (v := 4) dX12_feed_73 (by decide) ?_
  refine xi_irem (v := 2) dX12_feed_74 (by decide) (by decide) ?_
  refine xi_imul (v := 16) dX12_feed_75 (by decide) ?_
  refine xi_isub (v := 8) dX12_feed_76 (by decide) ?_
  refine xi_iushr dX12_feed_77 rfl ?_
  refine xi_sipush (v := 255) dX12_feed_78 (by decide) ?_
  refine xi_iand dX12_feed_81 rfl ?_
  refine xi_iastore (M' := (MX 20 f rd0 mo0 (fun _ => 0) (fun _ => 0) (upd (upd (upd (upd (upd (upd (upd (fun _ => 0) 0 (((a1.toUInt32 >>> (((24 : Int32)).toUInt32 &&& Int32.toUInt32 31)).toInt32) &&& 255)) 1 (((a1.toUInt32 >>> (((16 : Int32)).toUInt32 &&& Int32.toUInt32 31)).toInt32) &&& 255)) 2 (((a1.toUInt32 >>> (((8 : Int32)).toUInt32 &&& Int32.toUInt32 31)).toInt32) &&& 255)) 3 (((a1.toUInt32 >>> (((0 : Int32)).toUInt32 &&& Int32.toUInt32 31)).toInt32) &&& 255)) 4 (((a2.toUInt32 >>> (((24 : Int32)).toUInt32 &&& Int32.toUInt32 31)).toInt32) &&& 255)) 5 (((a2.toUInt32 >>> (((16 : Int32)).toUInt32 &&& Int32.toUInt32 31)).toInt32) &&& 255)) 6 (((a2.toUInt32 >>> (((8 : Int32)).toUInt32 &&& Int32.toUInt32 31)).toInt32) &&& 255)) ++ [.inl (0, 5, .inl (upd (upd (upd (upd (upd (fun _ => 0) 0 a1) 1 a2) 2 a3) 3 a4) 4 a5))])) dX12_feed_82 rfl (by unfold vp_in; decide) rfl ?_
  refine xi_iinc (v := 7) (lv' := [(7, .int 7), (6, .ref 163), (0, .ref 149), (1, .int a1), (2, .int a2), (3, .int a3), (4, .int a4), (5, .int a5)]) 0 dX12_feed_83 rfl (by decide) (by decide) rfl ?_
  refine xi_goto (tgt := 42) dX12_feed_86 (by decide) ?_
  refine xi_iload 0 dX12_feed_42 rfl ?_
  refine xi_bipush (v := 20) dX12_feed_44 (by decide) ?_
  refine xi_icmp_ge_f (tgt := 89) dX12_feed_46 (by decide) (by decide) ?_
  refine xi_aload_n 2 dX12_feed_49 rfl ?_
  refine xi_get (f := 4) dX12_feed_50 rfl rfl ok_9 (by decide) w_1012 rfl ?_
  refine xi_aload_n 2 dX12_feed_53 rfl ?_
  refine xi_get (f := 5) dX12_feed_54 rfl rfl ok_9 (by decide) w_1013 rfl ?_
  refine xi_iload 0 dX12_feed_57 rfl ?_
  refine xi_iadd (v := 7) dX12_feed_59 (by decide) ?_
  refine xi_aload 1 dX12_feed_60 rfl ?_
  refine xi_iload 0 dX12_feed_62 rfl ?_
  refine xi_iconst (v := 4) dX12_feed_64 (by decide) ?_
  refine xi_idiv (v := 1) dX12_feed_65 (by decide) (by decide) ?_
  refine xi_iaload (v := a2) dX12_feed_66 rfl (by unfold vp_in; decide) rfl ?_
  refine xi_bipush (v := 24) dX12_feed_67 (by decide) ?_
  refine xi_bipush (v := 8) dX12_feed_69 (by decide) ?_
  refine xi_iload 0 dX12_feed_71 rfl ?_
  refine xi_iconst (v := 4) dX12_feed_73 (by decide) ?_
  refine xi_irem (v := 3) dX12_feed_74 (by decide) (by decide) ?_
  refine xi_imul (v := 24) dX12_feed_75 (by decide) ?_
  refine xi_isub (v := 0) dX12_feed_76 (by decide) ?_
  refine xi_iushr dX12_feed_77 rfl ?_
  refine xi_sipush (v := 255) dX12_feed_78 (by decide) ?_
  refine xi_iand dX12_feed_81 rfl ?_
  refine xi_iastore (M' := (MX 20 f rd0 mo0 (fun _ => 0) (fun _ => 0) (upd (upd (upd (upd (upd (upd (upd (upd (fun _ => 0) 0 (((a1.toUInt32 >>> (((24 : Int32)).toUInt32 &&& Int32.toUInt32 31)).toInt32) &&& 255)) 1 (((a1.toUInt32 >>> (((16 : Int32)).toUInt32 &&& Int32.toUInt32 31)).toInt32) &&& 255)) 2 (((a1.toUInt32 >>> (((8 : Int32)).toUInt32 &&& Int32.toUInt32 31)).toInt32) &&& 255)) 3 (((a1.toUInt32 >>> (((0 : Int32)).toUInt32 &&& Int32.toUInt32 31)).toInt32) &&& 255)) 4 (((a2.toUInt32 >>> (((24 : Int32)).toUInt32 &&& Int32.toUInt32 31)).toInt32) &&& 255)) 5 (((a2.toUInt32 >>> (((16 : Int32)).toUInt32 &&& Int32.toUInt32 31)).toInt32) &&& 255)) 6 (((a2.toUInt32 >>> (((8 : Int32)).toUInt32 &&& Int32.toUInt32 31)).toInt32) &&& 255)) 7 (((a2.toUInt32 >>> (((0 : Int32)).toUInt32 &&& Int32.toUInt32 31)).toInt32) &&& 255)) ++ [.inl (0, 5, .inl (upd (upd (upd (upd (upd (fun _ => 0) 0 a1) 1 a2) 2 a3) 3 a4) 4 a5))])) dX12_feed_82 rfl (by unfold vp_in; decide) rfl ?_
  refine xi_iinc (v := 8) (lv' := [(7, .int 8), (6, .ref 163), (0, .ref 149), (1, .int a1), (2, .int a2), (3, .int a3), (4, .int a4), (5, .int a5)]) 0 dX12_feed_83 rfl (by decide) (by decide) rfl ?_
  refine xi_goto (tgt := 42) dX12_feed_86 (by decide) ?_
  refine xi_iload 0 dX12_feed_42 rfl ?_
  refine xi_bipush (v := 20) dX12_feed_44 (by decide) ?_
  refine xi_icmp_ge_f (tgt := 89) dX12_feed_46 (by decide) (by decide) ?_
  refine xi_aload_n 2 dX12_feed_49 rfl ?_
  refine xi_get (f := 4) dX12_feed_50 rfl rfl ok_9 (by decide) w_1012 rfl ?_
  refine xi_aload_n 2 dX12_feed_53 rfl ?_
  refine xi_get (f := 5) dX12_feed_54 rfl rfl ok_9 (by decide) w_1013 rfl ?_
  refine xi_iload 0 dX12_feed_57 rfl ?_
  refine xi_iadd (v := 8) dX12_feed_59 (by decide) ?_
  refine xi_aload 1 dX12_feed_60 rfl ?_
  refine xi_iload 0 dX12_feed_62 rfl ?_
  refine xi_iconst (v := 4) dX12_feed_64 (by decide) ?_
  refine xi_idiv (v := 2) dX12_feed_65 (by decide) (by decide) ?_
  refine xi_iaload (v := a3) dX12_feed_66 rfl (by unfold vp_in; decide) rfl ?_
  refine xi_bipush (v := 24) dX12_feed_67 (by decide) ?_
  refine xi_bipush (v := 8) dX12_feed_69 (by decide) ?_
  refine xi_iload 0 dX12_feed_71 rfl ?_
  refine xi_iconst (v := 4) dX12_feed_73 (by decide) ?_
  refine xi_irem (v := 0) dX12_feed_74 (by decide) (by decide) ?_
  refine xi_imul (v := 0) dX12_feed_75 (by decide) ?_
  refine xi_isub (v := 24) dX12_feed_76 (by decide) ?_
  refine xi_iushr dX12_feed_77 rfl ?_
  refine xi_sipush (v := 255) dX12_feed_78 (by decide) ?_
  refine xi_iand dX12_feed_81 rfl ?_
  refine xi_iastore (M' := (MX 20 f rd0 mo0 (fun _ => 0) (fun _ => 0) (upd (upd (upd (upd (upd (upd (upd (upd (upd (fun _ => 0) 0 (((a1.toUInt32 >>> (((24 : Int32)).toUInt32 &&& Int32.toUInt32 31)).toInt32) &&& 255)) 1 (((a1.toUInt32 >>> (((16 : Int32)).toUInt32 &&& Int32.toUInt32 31)).toInt32) &&& 255)) 2 (((a1.toUInt32 >>> (((8 : Int32)).toUInt32 &&& Int32.toUInt32 31)).toInt32) &&& 255)) 3 (((a1.toUInt32 >>> (((0 : Int32)).toUInt32 &&& Int32.toUInt32 31)).toInt32) &&& 255)) 4 (((a2.toUInt32 >>> (((24 : Int32)).toUInt32 &&& Int32.toUInt32 31)).toInt32) &&& 255)) 5 (((a2.toUInt32 >>> (((16 : Int32)).toUInt32 &&& Int32.toUInt32 31)).toInt32) &&& 255)) 6 (((a2.toUInt32 >>> (((8 : Int32)).toUInt32 &&& Int32.toUInt32 31)).toInt32) &&& 255)) 7 (((a2.toUInt32 >>> (((0 : Int32)).toUInt32 &&& Int32.toUInt32 31)).toInt32) &&& 255)) 8 (((a3.toUInt32 >>> (((24 : Int32)).toUInt32 &&& Int32.toUInt32 31)).toInt32) &&& 255)) ++ [.inl (0, 5, .inl (upd (upd (upd (upd (upd (fun _ => 0) 0 a1) 1 a2) 2 a3) 3 a4) 4 a5))])) dX12_feed_82 rfl (by unfold vp_in; decide) rfl ?_
  refine xi_iinc (v := 9) (lv' := [(7, .int 9), (6, .ref 163), (0, .ref 149), (1, .int a1), (2, .int a2), (3, .int a3), (4, .int a4), (5, .int a5)]) 0 dX12_feed_83 rfl (by decide) (by decide) rfl ?_
  refine xi_goto (tgt := 42) dX12_feed_86 (by decide) ?_
  refine xi_iload 0 dX12_feed_42 rfl ?_
  refine xi_bipush (v := 20) dX12_feed_44 (by decide) ?_
  refine xi_icmp_ge_f (tgt := 89) dX12_feed_46 (by decide) (by decide) ?_
  refine xi_aload_n 2 dX12_feed_49 rfl ?_
  refine xi_get (f := 4) dX12_feed_50 rfl rfl ok_9 (by decide) w_1012 rfl ?_
  refine xi_aload_n 2 dX12_feed_53 rfl ?_
  refine xi_get (f := 5) dX12_feed_54 rfl rfl ok_9 (by decide) w_1013 rfl ?_
  refine xi_iload 0 dX12_feed_57 rfl ?_
  refine xi_iadd (v := 9) dX12_feed_59 (by decide) ?_
  refine xi_aload 1 dX12_feed_60 rfl ?_
  refine xi_iload 0 dX12_feed_62 rfl ?_
  refine xi_iconst (v := 4) dX12_feed_64 (by decide) ?_
  refine xi_idiv (v := 2) dX12_feed_65 (by decide) (by decide) ?_
  refine xi_iaload (v := a3) dX12_feed_66 rfl (by unfold vp_in; decide) rfl ?_
  refine xi_bipush (v := 24) dX12_feed_67 (by decide) ?_
  refine xi_bipush (v := 8) dX12_feed_69 (by decide) ?_
  refine xi_iload 0 dX12_feed_71 rfl ?_
  refine xi_iconst (v := 4) dX12_feed_73 (by decide) ?_
  refine xi_irem (v := 1) dX12_feed_74 (by decide) (by decide) ?_
  refine xi_imul (v := 8) dX12_feed_75 (by decide) ?_
  refine xi_isub (v := 16) dX12_feed_76 (by decide) ?_
  refine xi_iushr dX12_feed_77 rfl ?_
  refine xi_sipush (v := 255) dX12_feed_78 (by decide) ?_
  refine xi_iand dX12_feed_81 rfl ?_
  refine xi_iastore (M' := (MX 20 f rd0 mo0 (fun _ => 0) (fun _ => 0) (upd (upd (upd (upd (upd (upd (upd (upd (upd (upd (fun _ => 0) 0 (((a1.toUInt32 >>> (((24 : Int32)).toUInt32 &&& Int32.toUInt32 31)).toInt32) &&& 255)) 1 (((a1.toUInt32 >>> (((16 : Int32)).toUInt32 &&& Int32.toUInt32 31)).toInt32) &&& 255)) 2 (((a1.toUInt32 >>> (((8 : Int32)).toUInt32 &&& Int32.toUInt32 31)).toInt32) &&& 255)) 3 (((a1.toUInt32 >>> (((0 : Int32)).toUInt32 &&& Int32.toUInt32 31)).toInt32) &&& 255)) 4 (((a2.toUInt32 >>> (((24 : Int32)).toUInt32 &&& Int32.toUInt32 31)).toInt32) &&& 255)) 5 (((a2.toUInt32 >>> (((16 : Int32)).toUInt32 &&& Int32.toUInt32 31)).toInt32) &&& 255)) 6 (((a2.toUInt32 >>> (((8 : Int32)).toUInt32 &&& Int32.toUInt32 31)).toInt32) &&& 255)) 7 (((a2.toUInt32 >>> (((0 : Int32)).toUInt32 &&& Int32.toUInt32 31)).toInt32) &&& 255)) 8 (((a3.toUInt32 >>> (((24 : Int32)).toUInt32 &&& Int32.toUInt32 31)).toInt32) &&& 255)) 9 (((a3.toUInt32 >>> (((16 : Int32)).toUInt32 &&& Int32.toUInt32 31)).toInt32) &&& 255)) ++ [.inl (0, 5, .inl (upd (upd (upd (upd (upd (fun _ => 0) 0 a1) 1 a2) 2 a3) 3 a4) 4 a5))])) dX12_feed_82 rfl (by unfold vp_in; decide) rfl ?_
  refine xi_iinc (v := 10) (lv' := [(7, .int 10), (6, .ref 163), (0, .ref 149), (1, .int a1), (2, .int a2), (3, .int a3), (4, .int a4), (5, .int a5)]) 0 dX12_feed_83 rfl (by decide) (by decide) rfl ?_
  refine xi_goto (tgt := 42) dX12_feed_86 (by decide) ?_
  refine xi_iload 0 dX12_feed_42 rfl ?_
  refine xi_bipush (v := 20) dX12_feed_44 (by decide) ?_
  refine xi_icmp_ge_f (tgt := 89) dX12_feed_46 (by decide) (by decide) ?_
  refine xi_aload_n 2 dX12_feed_49 rfl ?_
  refine xi_get (f := 4) dX12_feed_50 rfl rfl ok_9 (by decide) w_1012 rfl ?_
  refine xi_aload_n 2 dX12_feed_53 rfl ?_
  refine xi_get (f := 5) dX12_feed_54 rfl rfl ok_9 (by decide) w_1013 rfl ?_
  refine xi_iload 0 dX12_feed_57 rfl ?_
  refine xi_iadd (v := 10) dX12_feed_59 (by decide) ?_
  refine xi_aload 1 dX12_feed_60 rfl ?_
  refine xi_iload 0 dX12_feed_62 rfl ?_
  refine xi_iconst (v := 4) dX12_feed_64 (by decide) ?_
  refine xi_idiv (v := 2) dX12_feed_65 (by decide) (by decide) ?_
  refine xi_iaload (v := a3) dX12_feed_66 rfl (by unfold vp_in; decide) rfl ?_
  refine xi_bipush (v := 24) dX12_feed_67 (by decide) ?_
  refine xi_bipush (v := 8) dX12_feed_69 (by decide) ?_
  refine xi_iload 0 dX12_feed_71 rfl ?_
  refine xi_iconst (v := 4) dX12_feed_73 (by decide) ?_
  refine xi_irem (v := 2) dX12_feed_74 (by decide) (by decide) ?_
  refine xi_imul (v := 16) dX12_feed_75 (by decide) ?_
  refine xi_isub (v := 8) dX12_feed_76 (by decide) ?_
  refine xi_iushr dX12_feed_77 rfl ?_
  refine xi_sipush (v := 255) dX12_feed_78 (by decide) ?_
  refine xi_iand dX12_feed_81 rfl ?_
  refine xi_iastore (M' := (MX 20 f rd0 mo0 (fun _ => 0) (fun _ => 0) (upd (upd (upd (upd (upd (upd (upd (upd (upd (upd (upd (fun _ => 0) 0 (((a1.toUInt32 >>> (((24 : Int32)).toUInt32 &&& Int32.toUInt32 31)).toInt32) &&& 255)) 1 (((a1.toUInt32 >>> (((16 : Int32)).toUInt32 &&& Int32.toUInt32 31)).toInt32) &&& 255)) 2 (((a1.toUInt32 >>> (((8 : Int32)).toUInt32 &&& Int32.toUInt32 31)).toInt32) &&& 255)) 3 (((a1.toUInt32 >>> (((0 : Int32)).toUInt32 &&& Int32.toUInt32 31)).toInt32) &&& 255)) 4 (((a2.toUInt32 >>> (((24 : Int32)).toUInt32 &&& Int32.toUInt32 31)).toInt32) &&& 255)) 5 (((a2.toUInt32 >>> (((16 : Int32)).toUInt32 &&& Int32.toUInt32 31)).toInt32) &&& 255)) 6 (((a2.toUInt32 >>> (((8 : Int32)).toUInt32 &&& Int32.toUInt32 31)).toInt32) &&& 255)) 7 (((a2.toUInt32 >>> (((0 : Int32)).toUInt32 &&& Int32.toUInt32 31)).toInt32) &&& 255)) 8 (((a3.toUInt32 >>> (((24 : Int32)).toUInt32 &&& Int32.toUInt32 31)).toInt32) &&& 255)) 9 (((a3.toUInt32 >>> (((16 : Int32)).toUInt32 &&& Int32.toUInt32 31)).toInt32) &&& 255)) 10 (((a3.toUInt32 >>> (((8 : Int32)).toUInt32 &&& Int32.toUInt32 31)).toInt32) &&& 255)) ++ [.inl (0, 5, .inl (upd (upd (upd (upd (upd (fun _ => 0) 0 a1) 1 a2) 2 a3) 3 a4) 4 a5))])) dX12_feed_82 rfl (by unfold vp_in; decide) rfl ?_
  refine xi_iinc (v := 11) (lv' := [(7, .int 11), (6, .ref 163), (0, .ref 149), (1, .int a1), (2, .int a2), (3, .int a3), (4, .int a4), (5, .int a5)]) 0 dX12_feed_83 rfl (by decide) (by decide) rfl ?_
  refine xi_goto (tgt := 42) dX12_feed_86 (by decide) ?_
  refine xi_iload 0 dX12_feed_42 rfl ?_
  refine xi_bipush (v := 20) dX12_feed_44 (by decide) ?_
  refine xi_icmp_ge_f (tgt := 89) dX12_feed_46 (by decide) (by decide) ?_
  refine xi_aload_n 2 dX12_feed_49 rfl ?_
  refine xi_get (f := 4) dX12_feed_50 rfl rfl ok_9 (by decide) w_1012 rfl ?_
  refine xi_aload_n 2 dX12_feed_53 rfl ?_
  refine xi_get (f := 5) dX12_feed_54 rfl rfl ok_9 (by decide) w_1013 rfl ?_
  refine xi_iload 0 dX12_feed_57 rfl ?_
  refine xi_iadd (v := 11) dX12_feed_59 (by decide) ?_
  refine xi_aload 1 dX12_feed_60 rfl ?_
  refine xi_iload 0 dX12_feed_62 rfl ?_
  refine xi_iconst (v := 4) dX12_feed_64 (by decide) ?_
  refine xi_idiv (v := 2) dX12_feed_65 (by decide) (by decide) ?_
  refine xi_iaload (v := a3) dX12_feed_66 rfl (by unfold vp_in; decide) rfl ?_
  refine xi_bipush (v := 24) dX12_feed_67 (by decide) ?_
  refine xi_bipush (v := 8) dX12_feed_69 (by decide) ?_
  refine xi_iload 0 dX12_feed_71 rfl ?_
  refine xi_iconst (v := 4) dX12_feed_73 (by decide) ?_
  refine xi_irem (v := 3) dX12_feed_74 (by decide) (by decide) ?_
  refine xi_imul (v := 24) dX12_feed_75 (by decide) ?_
  refine xi_isub (v := 0) dX12_feed_76 (by decide) ?_
  refine xi_iushr dX12_feed_77 rfl ?_
  refine xi_sipush (v := 255) dX12_feed_78 (by decide) ?_
  refine xi_iand dX12_feed_81 rfl ?_
  refine xi_iastore (M' := (MX 20 f rd0 mo0 (fun _ => 0) (fun _ => 0) (upd (upd (upd (upd (upd (upd (upd (upd (upd (upd (upd (upd (fun _ => 0) 0 (((a1.toUInt32 >>> (((24 : Int32)).toUInt32 &&& Int32.toUInt32 31)).toInt32) &&& 255)) 1 (((a1.toUInt32 >>> (((16 : Int32)).toUInt32 &&& Int32.toUInt32 31)).toInt32) &&& 255)) 2 (((a1.toUInt32 >>> (((8 : Int32)).toUInt32 &&& Int32.toUInt32 31)).toInt32) &&& 255)) 3 (((a1.toUInt32 >>> (((0 : Int32)).toUInt32 &&& Int32.toUInt32 31)).toInt32) &&& 255)) 4 (((a2.toUInt32 >>> (((24 : Int32)).toUInt32 &&& Int32.toUInt32 31)).toInt32) &&& 255)) 5 (((a2.toUInt32 >>> (((16 : Int32)).toUInt32 &&& Int32.toUInt32 31)).toInt32) &&& 255)) 6 (((a2.toUInt32 >>> (((8 : Int32)).toUInt32 &&& Int32.toUInt32 31)).toInt32) &&& 255)) 7 (((a2.toUInt32 >>> (((0 : Int32)).toUInt32 &&& Int32.toUInt32 31)).toInt32) &&& 255)) 8 (((a3.toUInt32 >>> (((24 : Int32)).toUInt32 &&& Int32.toUInt32 31)).toInt32) &&& 255)) 9 (((a3.toUInt32 >>> (((16 : Int32)).toUInt32 &&& Int32.toUInt32 31)).toInt32) &&& 255)) 10 (((a3.toUInt32 >>> (((8 : Int32)).toUInt32 &&& Int32.toUInt32 31)).toInt32) &&& 255)) 11 (((a3.toUInt32 >>> (((0 : Int32)).toUInt32 &&& Int32.toUInt32 31)).toInt32) &&& 255)) ++ [.inl (0, 5, .inl (upd (upd (upd (upd (upd (fun _ => 0) 0 a1) 1 a2) 2 a3) 3 a4) 4 a5))])) dX12_feed_82 rfl (by unfold vp_in; decide) rfl ?_
  refine xi_iinc (v := 12) (lv' := [(7, .int 12), (6, .ref 163), (0, .ref 149), (1, .int a1), (2, .int a2), (3, .int a3), (4, .int a4), (5, .int a5)]) 0 dX12_feed_83 rfl (by decide) (by decide) rfl ?_
  refine xi_goto (tgt := 42) dX12_feed_86 (by decide) ?_
  refine xi_iload 0 dX12_feed_42 rfl ?_
  refine xi_bipush (v := 20) dX12_feed_44 (by decide) ?_
  refine xi_icmp_ge_f (tgt := 89) dX12_feed_46 (by decide) (by decide) ?_
  refine xi_aload_n 2 dX12_feed_49 rfl ?_
  refine xi_get (f := 4) dX12_feed_50 rfl rfl ok_9 (by decide) w_1012 rfl ?_
  refine xi_aload_n 2 dX12_feed_53 rfl ?_
  refine xi_get (f := 5) dX12_feed_54 rfl rfl ok_9 (by decide) w_1013 rfl ?_
  refine xi_iload 0 dX12_feed_57 rfl ?_
  refine xi_iadd (v := 12) dX12_feed_59 (by decide) ?_
  refine xi_aload 1 dX12_feed_60 rfl ?_
  refine xi_iload 0 dX12_feed_62 rfl ?_
  refine xi_iconst (v := 4) dX12_feed_64 (by decide) ?_
  refine xi_idiv (v := 3) dX12_feed_65 (by decide) (by decide) ?_
  refine xi_iaload (v := a4) dX12_feed_66 rfl (by unfold vp_in; decide) rfl ?_
  refine xi_bipush (v := 24) dX12_feed_67 (by decide) ?_
  refine xi_bipush (v := 8) dX12_feed_69 (by decide) ?_
  refine xi_iload 0 dX12_feed_71 rfl ?_
  refine xi_iconst (v := 4) dX12_feed_73 (by decide) ?_
  refine xi_irem (v := 0) dX12_feed_74 (by decide) (by decide) ?_
  refine xi_imul (v := 0) dX12_feed_75 (by decide) ?_
  refine xi_isub (v := 24) dX12_feed_76 (by decide) ?_
  refine xi_iushr dX12_feed_77 rfl ?_
  refine xi_sipush (v := 255) dX12_feed_78 (by decide) ?_
  refine xi_iand dX12_feed_81 rfl ?_
  refine xi_iastore (M' := (MX 20 f rd0 mo0 (fun _ => 0) (fun _ => 0) (upd (upd (upd (upd (upd (upd (upd (upd (upd (upd (upd (upd (upd (fun _ => 0) 0 (((a1.toUInt32 >>> (((24 : Int32)).toUInt32 &&& Int32.toUInt32 31)).toInt32) &&& 255)) 1 (((a1.toUInt32 >>> (((16 : Int32)).toUInt32 &&& Int32.toUInt32 31)).toInt32) &&& 255)) 2 (((a1.toUInt32 >>> (((8 : Int32)).toUInt32 &&& Int32.toUInt32 31)).toInt32) &&& 255)) 3 (((a1.toUInt32 >>> (((0 : Int32)).toUInt32 &&& Int32.toUInt32 31)).toInt32) &&& 255)) 4 (((a2.toUInt32 >>> (((24 : Int32)).toUInt32 &&& Int32.toUInt32 31)).toInt32) &&& 255)) 5 (((a2.toUInt32 >>> (((16 : Int32)).toUInt32 &&& Int32.toUInt32 31)).toInt32) &&& 255)) 6 (((a2.toUInt32 >>> (((8 : Int32)).toUInt32 &&& Int32.toUInt32 31)).toInt32) &&& 255)) 7 (((a2.toUInt32 >>> (((0 : Int32)).toUInt32 &&& Int32.toUInt32 31)).toInt32) &&& 255)) 8 (((a3.toUInt32 >>> (((24 : Int32)).toUInt32 &&& Int32.toUInt32 31)).toInt32) &&& 255)) 9 (((a3.toUInt32 >>> (((16 : Int32)).toUInt32 &&& Int32.toUInt32 31)).toInt32) &&& 255)) 10 (((a3.toUInt32 >>> (((8 : Int32)).toUInt32 &&& Int32.toUInt32 31)).toInt32) &&& 255)) 11 (((a3.toUInt32 >>> (((0 : Int32)).toUInt32 &&& Int32.toUInt32 31)).toInt32) &&& 255)) 12 (((a4.toUInt32 >>> (((24 : Int32)).toUInt32 &&& Int32.toUInt32 31)).toInt32) &&& 255)) ++ [.inl (0, 5, .inl (upd (upd (upd (upd (upd (fun _ => 0) 0 a1) 1 a2) 2 a3) 3 a4) 4 a5))])) dX12_feed_82 rfl (by unfold vp_in; decide) rfl ?_
  refine xi_iinc (v := 13) (lv' := [(7, .int 13), (6, .ref 163), (0, .ref 149), (1, .int a1), (2, .int a2), (3, .int a3), (4, .int a4), (5, .int a5)]) 0 dX12_feed_83 rfl (by decide) (by decide) rfl ?_
  refine xi_goto (tgt := 42) dX12_feed_86 (by decide) ?_
  refine xi_iload 0 dX12_feed_42 rfl ?_
  refine xi_bipush (v := 20) dX12_feed_44 (by decide) ?_
  refine xi_icmp_ge_f (tgt := 89) dX12_feed_46 (by decide) (by decide) ?_
  refine xi_aload_n 2 dX12_feed_49 rfl ?_
  refine xi_get (f := 4) dX12_feed_50 rfl rfl ok_9 (by decide) w_1012 rfl ?_
  refine xi_aload_n 2 dX12_feed_53 rfl ?_
  refine xi_get (f := 5) dX12_feed_54 rfl rfl ok_9 (by decide) w_1013 rfl ?_
  refine xi_iload 0 dX12_feed_57 rfl ?_
  refine xi_iadd (v := 13) dX12_feed_59 (by decide) ?_
  refine xi_aload 1 dX12_feed_60 rfl ?_
  refine xi_iload 0 dX12_feed_62 rfl ?_
  refine xi_iconst (v := 4) dX12_feed_64 (by decide) ?_
  refine xi_idiv (v := 3) dX12_feed_65 (by decide) (by decide) ?_
  refine xi_iaload (v := a4) dX12_feed_66 rfl (by unfold vp_in; decide) rfl ?_
  refine xi_bipush (v := 24) dX12_feed_67 (by decide) ?_
  refine xi_bipush (v := 8) dX12_feed_69 (by decide) ?_
  refine xi_iload 0 dX12_feed_71 rfl ?_
  refine xi_iconst (v := 4) dX12_feed_73 (by decide) ?_
  refine xi_irem (v := 1) dX12_feed_74 (by decide) (by decide) ?_
  refine xi_imul (v := 8) dX12_feed_75 (by decide) ?_
  refine xi_isub (v := 16) dX12_feed_76 (by decide) ?_
  refine xi_iushr dX12_feed_77 rfl ?_
  refine xi_sipush (v := 255) dX12_feed_78 (by decide) ?_
  refine xi_iand dX12_feed_81 rfl ?_
  refine xi_iastore (M' := (MX 20 f rd0 mo0 (fun _ => 0) (fun _ => 0) (upd (upd (upd (upd (upd (upd (upd (upd (upd (upd (upd (upd (upd (upd (fun _ => 0) 0 (((a1.toUInt32 >>> (((24 : Int32)).toUInt32 &&& Int32.toUInt32 31)).toInt32) &&& 255)) 1 (((a1.toUInt32 >>> (((16 : Int32)).toUInt32 &&& Int32.toUInt32 31)).toInt32) &&& 255)) 2 (((a1.toUInt32 >>> (((8 : Int32)).toUInt32 &&& Int32.toUInt32 31)).toInt32) &&& 255)) 3 (((a1.toUInt32 >>> (((0 : Int32)).toUInt32 &&& Int32.toUInt32 31)).toInt32) &&& 255)) 4 (((a2.toUInt32 >>> (((24 : Int32)).toUInt32 &&& Int32.toUInt32 31)).toInt32) &&& 255)) 5 (((a2.toUInt32 >>> (((16 : Int32)).toUInt32 &&& Int32.toUInt32 31)).toInt32) &&& 255)) 6 (((a2.toUInt32 >>> (((8 : Int32)).toUInt32 &&& Int32.toUInt32 31)).toInt32) &&& 255)) 7 (((a2.toUInt32 >>> (((0 : Int32)).toUInt32 &&& Int32.toUInt32 31)).toInt32) &&& 255)) 8 (((a3.toUInt32 >>> (((24 : Int32)).toUInt32 &&& Int32.toUInt32 31)).toInt32) &&& 255)) 9 (((a3.toUInt32 >>> (((16 : Int32)).toUInt32 &&& Int32.toUInt32 31)).toInt32) &&& 255)) 10 (((a3.toUInt32 >>> (((8 : Int32)).toUInt32 &&& Int32.toUInt32 31)).toInt32) &&& 255)) 11 (((a3.toUInt32 >>> (((0 : Int32)).toUInt32 &&& Int32.toUInt32 31)).toInt32) &&& 255)) 12 (((a4.toUInt32 >>> (((24 : Int32)).toUInt32 &&& Int32.toUInt32 31)).toInt32) &&& 255)) 13 (((a4.toUInt32 >>> (((16 : Int32)).toUInt32 &&& Int32.toUInt32 31)).toInt32) &&& 255)) ++ [.inl (0, 5, .inl (upd (upd (upd (upd (upd (fun _ => 0) 0 a1) 1 a2) 2 a3) 3 a4) 4 a5))])) dX12_feed_82 rfl (by unfold vp_in; decide) rfl ?_
  refine xi_iinc (v := 14) (lv' := [(7, .int 14), (6, .ref 163), (0, .ref 149), (1, .int a1), (2, .int a2), (3, .int a3), (4, .int a4), (5, .int a5)]) 0 dX12_feed_83 rfl (by decide) (by decide) rfl ?_
  refine xi_goto (tgt := 42) dX12_feed_86 (by decide) ?_
  refine xi_iload 0 dX12_feed_42 rfl ?_
  refine xi_bipush (v := 20) dX12_feed_44 (by decide) ?_
  refine xi_icmp_ge_f (tgt := 89) dX12_feed_46 (by decide) (by decide) ?_
  refine xi_aload_n 2 dX12_feed_49 rfl ?_
  refine xi_get (f := 4) dX12_feed_50 rfl rfl ok_9 (by decide) w_1012 rfl ?_
  refine xi_aload_n 2 dX12_feed_53 rfl ?_
  refine xi_get (f := 5) dX12_feed_54 rfl rfl ok_9 (by decide) w_1013 rfl ?_
  refine xi_iload 0 dX12_feed_57 rfl ?_
  refine xi_iadd (v := 14) dX12_feed_59 (by decide) ?_
  refine xi_aload 1 dX12_feed_60 rfl ?_
  refine xi_iload 0 dX12_feed_62 rfl ?_
  refine xi_iconst (v := 4) dX12_feed_64 (by decide) ?_
  refine xi_idiv (v := 3) dX12_feed_65 (by decide) (by decide) ?_
  refine xi_iaload (v := a4) dX12_feed_66 rfl (by unfold vp_in; decide) rfl ?_
  refine xi_bipush (v := 24) dX12_feed_67 (by decide) ?_
  refine xi_bipush (v := 8) dX12_feed_69 (by decide) ?_
  refine xi_iload 0 dX12_feed_71 rfl ?_
  refine xi_iconst (v := 4) dX12_feed_73 (by decide) ?_
  refine xi_irem (v := 2) dX12_feed_74 (by decide) (by decide) ?_
  refine xi_imul (v := 16) dX12_feed_75 (by decide) ?_
  refine xi_isub (v := 8) dX12_feed_76 (by decide) ?_
  refine xi_iushr dX12_feed_77 rfl ?_
  refine xi_sipush (v := 255) dX12_feed_78 (by decide) ?_
  refine xi_iand dX12_feed_81 rfl ?_
  refine xi_iastore (M' := (MX 20 f rd0 mo0 (fun _ => 0) (fun _ => 0) (upd (upd (upd (upd (upd (upd (upd (upd (upd (upd (upd (upd (upd (upd (upd (fun _ => 0) 0 (((a1.toUInt32 >>> (((24 : Int32)).toUInt32 &&& Int32.toUInt32 31)).toInt32) &&& 255)) 1 (((a1.toUInt32 >>> (((16 : Int32)).toUInt32 &&& Int32.toUInt32 31)).toInt32) &&& 255)) 2 (((a1.toUInt32 >>> (((8 : Int32)).toUInt32 &&& Int32.toUInt32 31)).toInt32) &&& 255)) 3 (((a1.toUInt32 >>> (((0 : Int32)).toUInt32 &&& Int32.toUInt32 31)).toInt32) &&& 255)) 4 (((a2.toUInt32 >>> (((24 : Int32)).toUInt32 &&& Int32.toUInt32 31)).toInt32) &&& 255)) 5 (((a2.toUInt32 >>> (((16 : Int32)).toUInt32 &&& Int32.toUInt32 31)).toInt32) &&& 255)) 6 (((a2.toUInt32 >>> (((8 : Int32)).toUInt32 &&& Int32.toUInt32 31)).toInt32) &&& 255)) 7 (((a2.toUInt32 >>> (((0 : Int32)).toUInt32 &&& Int32.toUInt32 31)).toInt32) &&& 255)) 8 (((a3.toUInt32 >>> (((24 : Int32)).toUInt32 &&& Int32.toUInt32 31)).toInt32) &&& 255)) 9 (((a3.toUInt32 >>> (((16 : Int32)).toUInt32 &&& Int32.toUInt32 31)).toInt32) &&& 255)) 10 (((a3.toUInt32 >>> (((8 : Int32)).toUInt32 &&& Int32.toUInt32 31)).toInt32) &&& 255)) 11 (((a3.toUInt32 >>> (((0 : Int32)).toUInt32 &&& Int32.toUInt32 31)).toInt32) &&& 255)) 12 (((a4.toUInt32 >>> (((24 : Int32)).toUInt32 &&& Int32.toUInt32 31)).toInt32) &&& 255)) 13 (((a4.toUInt32 >>> (((16 : Int32)).toUInt32 &&& Int32.toUInt32 31)).toInt32) &&& 255)) 14 (((a4.toUInt32 >>> (((8 : Int32)).toUInt32 &&& Int32.toUInt32 31)).toInt32) &&& 255)) ++ [.inl (0, 5, .inl (upd (upd (upd (upd (upd (fun _ => 0) 0 a1) 1 a2) 2 a3) 3 a4) 4 a5))])) dX12_feed_82 rfl (by unfold vp_in; decide) rfl ?_
  refine xi_iinc (v := 15) (lv' := [(7, .int 15), (6, .ref 163), (0, .ref 149), (1, .int a1), (2, .int a2), (3, .int a3), (4, .int a4), (5, .int a5)]) 0 dX12_feed_83 rfl (by decide) (by decide) rfl ?_
  refine xi_goto (tgt := 42) dX12_feed_86 (by decide) ?_
  refine xi_iload 0 dX12_feed_42 rfl ?_
  refine xi_bipush (v := 20) dX12_feed_44 (by decide) ?_
  refine xi_icmp_ge_f (tgt := 89) dX12_feed_46 (by decide) (by decide) ?_
  refine xi_aload_n 2 dX12_feed_49 rfl ?_
  refine xi_get (f := 4) dX12_feed_50 rfl rfl ok_9 (by decide) w_1012 rfl ?_
  refine xi_aload_n 2 dX12_feed_53 rfl ?_
  refine xi_get (f := 5) dX12_feed_54 rfl rfl ok_9 (by decide) w_1013 rfl ?_
  refine xi_iload 0 dX12_feed_57 rfl ?_
  refine xi_iadd (v := 15) dX12_feed_59 (by decide) ?_
  refine xi_aload 1 dX12_feed_60 rfl ?_
  refine xi_iload 0 dX12_feed_62 rfl ?_
  refine xi_iconst (v := 4) dX12_feed_64 (by decide) ?_
  refine xi_idiv (v := 3) dX12_feed_65 (by decide) (by decide) ?_
  refine xi_iaload (v := a4) dX12_feed_66 rfl (by unfold vp_in; decide) rfl ?_
  refine xi_bipush (v := 24) dX12_feed_67 (by decide) ?_
  refine xi_bipush (v := 8) dX12_feed_69 (by decide) ?_
  refine xi_iload 0 dX12_feed_71 rfl ?_
  refine xi_iconst (v := 4) dX12_feed_73 (by decide) ?_
  refine xi_irem (v := 3) dX12_feed_74 (by decide) (by decide) ?_
  refine xi_imul (v := 24) dX12_feed_75 (by decide) ?_
  refine xi_isub (v := 0) dX12_feed_76 (by decide) ?_
  refine xi_iushr dX12_feed_77 rfl ?_
  refine xi_sipush (v := 255) dX12_feed_78 (by decide) ?_
  refine xi_iand dX12_feed_81 rfl ?_
  refine xi_iastore (M' := (MX 20 f rd0 mo0 (fun _ => 0) (fun _ => 0) (upd (upd (upd (upd (upd (upd (upd (upd (upd (upd (upd (upd (upd (upd (upd (upd (fun _ => 0) 0 (((a1.toUInt32 >>> (((24 : Int32)).toUInt32 &&& Int32.toUInt32 31)).toInt32) &&& 255)) 1 (((a1.toUInt32 >>> (((16 : Int32)).toUInt32 &&& Int32.toUInt32 31)).toInt32) &&& 255)) 2 (((a1.toUInt32 >>> (((8 : Int32)).toUInt32 &&& Int32.toUInt32 31)).toInt32) &&& 255)) 3 (((a1.toUInt32 >>> (((0 : Int32)).toUInt32 &&& Int32.toUInt32 31)).toInt32) &&& 255)) 4 (((a2.toUInt32 >>> (((24 : Int32)).toUInt32 &&& Int32.toUInt32 31)).toInt32) &&& 255)) 5 (((a2.toUInt32 >>> (((16 : Int32)).toUInt32 &&& Int32.toUInt32 31)).toInt32) &&& 255)) 6 (((a2.toUInt32 >>> (((8 : Int32)).toUInt32 &&& Int32.toUInt32 31)).toInt32) &&& 255)) 7 (((a2.toUInt32 >>> (((0 : Int32)).toUInt32 &&& Int32.toUInt32 31)).toInt32) &&& 255)) 8 (((a3.toUInt32 >>> (((24 : Int32)).toUInt32 &&& Int32.toUInt32 31)).toInt32) &&& 255)) 9 (((a3.toUInt32 >>> (((16 : Int32)).toUInt32 &&& Int32.toUInt32 31)).toInt32) &&& 255)) 10 (((a3.toUInt32 >>> (((8 : Int32)).toUInt32 &&& Int32.toUInt32 31)).toInt32) &&& 255)) 11 (((a3.toUInt32 >>> (((0 : Int32)).toUInt32 &&& Int32.toUInt32 31)).toInt32) &&& 255)) 12 (((a4.toUInt32 >>> (((24 : Int32)).toUInt32 &&& Int32.toUInt32 31)).toInt32) &&& 255)) 13 (((a4.toUInt32 >>> (((16 : Int32)).toUInt32 &&& Int32.toUInt32 31)).toInt32) &&& 255)) 14 (((a4.toUInt32 >>> (((8 : Int32)).toUInt32 &&& Int32.toUInt32 31)).toInt32) &&& 255)) 15 (((a4.toUInt32 >>> (((0 : Int32)).toUInt32 &&& Int32.toUInt32 31)).toInt32) &&& 255)) ++ [.inl (0, 5, .inl (upd (upd (upd (upd (upd (fun _ => 0) 0 a1) 1 a2) 2 a3) 3 a4) 4 a5))])) dX12_feed_82 rfl (by unfold vp_in; decide) rfl ?_
  refine xi_iinc (v := 16) (lv' := [(7, .int 16), (6, .ref 163), (0, .ref 149), (1, .int a1), (2, .int a2), (3, .int a3), (4, .int a4), (5, .int a5)]) 0 dX12_feed_83 rfl (by decide) (by decide) rfl ?_
  refine xi_goto (tgt := 42) dX12_feed_86 (by decide) ?_
  refine xi_iload 0 dX12_feed_42 rfl ?_
  refine xi_bipush (v := 20) dX12_feed_44 (by decide) ?_
  refine xi_icmp_ge_f (tgt := 89) dX12_feed_46 (by decide) (by decide) ?_
  refine xi_aload_n 2 dX12_feed_49 rfl ?_
  refine xi_get (f := 4) dX12_feed_50 rfl rfl ok_9 (by decide) w_1012 rfl ?_
  refine xi_aload_n 2 dX12_feed_53 rfl ?_
  refine xi_get (f := 5) dX12_feed_54 rfl rfl ok_9 (by decide) w_1013 rfl ?_
  refine xi_iload 0 dX12_feed_57 rfl ?_
  refine xi_iadd (v := 16) dX12_feed_59 (by decide) ?_
  refine xi_aload 1 dX12_feed_60 rfl ?_
  refine xi_iload 0 dX12_feed_62 rfl ?_
  refine xi_iconst (v := 4) dX12_feed_64 (by decide) ?_
  refine xi_idiv (v := 4) dX12_feed_65 (by decide) (by decide) ?_
  refine xi_iaload (v := a5) dX12_feed_66 rfl (by unfold vp_in; decide) rfl ?_
  refine xi_bipush (v := 24) dX12_feed_67 (by decide) ?_
  refine xi_bipush (v := 8) dX12_feed_69 (by decide) ?_
  refine xi_iload 0 dX12_feed_71 rfl ?_
  refine xi_iconst (v := 4) dX12_feed_73 (by decide) ?_
  refine xi_irem (v := 0) dX12_feed_74 (by decide) (by decide) ?_
  refine xi_imul (v := 0) dX12_feed_75 (by decide) ?_
  refine xi_isub (v := 24) dX12_feed_76 (by decide) ?_
  refine xi_iushr dX12_feed_77 rfl ?_
  refine xi_sipush (v := 255) dX12_feed_78 (by decide) ?_
  refine xi_iand dX12_feed_81 rfl ?_
  refine xi_iastore (M' := (MX 20 f rd0 mo0 (fun _ => 0) (fun _ => 0) (upd (upd (upd (upd (upd (upd (upd (upd (upd (upd (upd (upd (upd (upd (upd (upd (upd (fun _ => 0) 0 (((a1.toUInt32 >>> (((24 : Int32)).toUInt32 &&& Int32.toUInt32 31)).toInt32) &&& 255)) 1 (((a1.toUInt32 >>> (((16 : Int32)).toUInt32 &&& Int32.toUInt32 31)).toInt32) &&& 255)) 2 (((a1.toUInt32 >>> (((8 : Int32)).toUInt32 &&& Int32.toUInt32 31)).toInt32) &&& 255)) 3 (((a1.toUInt32 >>> (((0 : Int32)).toUInt32 &&& Int32.toUInt32 31)).toInt32) &&& 255)) 4 (((a2.toUInt32 >>> (((24 : Int32)).toUInt32 &&& Int32.toUInt32 31)).toInt32) &&& 255)) 5 (((a2.toUInt32 >>> (((16 : Int32)).toUInt32 &&& Int32.toUInt32 31)).toInt32) &&& 255)) 6 (((a2.toUInt32 >>> (((8 : Int32)).toUInt32 &&& Int32.toUInt32 31)).toInt32) &&& 255)) 7 (((a2.toUInt32 >>> (((0 : Int32)).toUInt32 &&& Int32.toUInt32 31)).toInt32) &&& 255)) 8 (((a3.toUInt32 >>> (((24 : Int32)).toUInt32 &&& Int32.toUInt32 31)).toInt32) &&& 255)) 9 (((a3.toUInt32 >>> (((16 : Int32)).toUInt32 &&& Int32.toUInt32 31)).toInt32) &&& 255)) 10 (((a3.toUInt32 >>> (((8 : Int32)).toUInt32 &&& Int32.toUInt32 31)).toInt32) &&& 255)) 11 (((a3.toUInt32 >>> (((0 : Int32)).toUInt32 &&& Int32.toUInt32 31)).toInt32) &&& 255)) 12 (((a4.toUInt32 >>> (((24 : Int32)).toUInt32 &&& Int32.toUInt32 31)).toInt32) &&& 255)) 13 (((a4.toUInt32 >>> (((16 : Int32)).toUInt32 &&& Int32.toUInt32 31)).toInt32) &&& 255)) 14 (((a4.toUInt32 >>> (((8 : Int32)).toUInt32 &&& Int32.toUInt32 31)).toInt32) &&& 255)) 15 (((a4.toUInt32 >>> (((0 : Int32)).toUInt32 &&& Int32.toUInt32 31)).toInt32) &&& 255)) 16 (((a5.toUInt32 >>> (((24 : Int32)).toUInt32 &&& Int32.toUInt32 31)).toInt32) &&& 255)) ++ [.inl (0, 5, .inl (upd (upd (upd (upd (upd (fun _ => 0) 0 a1) 1 a2) 2 a3) 3 a4) 4 a5))])) dX12_feed_82 rfl (by unfold vp_in; decide) rfl ?_
  refine xi_iinc (v := 17) (lv' := [(7, .int 17), (6, .ref 163), (0, .ref 149), (1, .int a1), (2, .int a2), (3, .int a3), (4, .int a4), (5, .int a5)]) 0 dX12_feed_83 rfl (by decide) (by decide) rfl ?_
  refine xi_goto (tgt := 42) dX12_feed_86 (by decide) ?_
  refine xi_iload 0 dX12_feed_42 rfl ?_
  refine xi_bipush (v := 20) dX12_feed_44 (by decide) ?_
  refine xi_icmp_ge_f (tgt := 89) dX12_feed_46 (by decide) (by decide) ?_
  refine xi_aload_n 2 dX12_feed_49 rfl ?_
  refine xi_get (f := 4) dX12_feed_50 rfl rfl ok_9 (by decide) w_1012 rfl ?_
  refine xi_aload_n 2 dX12_feed_53 rfl ?_
  refine xi_get (f := 5) dX12_feed_54 rfl rfl ok_9 (by decide) w_1013 rfl ?_
  refine xi_iload 0 dX12_feed_57 rfl ?_
  refine xi_iadd (v := 17) dX12_feed_59 (by decide) ?_
  refine xi_aload 1 dX12_feed_60 rfl ?_
  refine xi_iload 0 dX12_feed_62 rfl ?_
  refine xi_iconst (v := 4) dX12_feed_64 (by decide) ?_
  refine xi_idiv (v := 4) dX12_feed_65 (by decide) (by decide) ?_
  refine xi_iaload (v := a5) dX12_feed_66 rfl (by unfold vp_in; decide) rfl ?_
  refine xi_bipush (v := 24) dX12_feed_67 (by decide) ?_
  refine xi_bipush (v := 8) dX12_feed_69 (by decide) ?_
  refine xi_iload 0 dX12_feed_71 rfl ?_
  refine xi_iconst (v := 4) dX12_feed_73 (by decide) ?_
  refine xi_irem (v := 1) dX12_feed_74 (by decide) (by decide) ?_
  refine xi_imul (v := 8) dX12_feed_75 (by decide) ?_
  refine xi_isub (v := 16) dX12_feed_76 (by decide) ?_
  refine xi_iushr dX12_feed_77 rfl ?_
  refine xi_sipush (v := 255) dX12_feed_78 (by decide) ?_
  refine xi_iand dX12_feed_81 rfl ?_
  refine xi_iastore (M' := (MX 20 f rd0 mo0 (fun _ => 0) (fun _ => 0) (upd (upd (upd (upd (upd (upd (upd (upd (upd (upd (upd (upd (upd (upd (upd (upd (upd (upd (fun _ => 0) 0 (((a1.toUInt32 >>> (((24 : Int32)).toUInt32 &&& Int32.toUInt32 31)).toInt32) &&& 255)) 1 (((a1.toUInt32 >>> (((16 : Int32)).toUInt32 &&& Int32.toUInt32 31)).toInt32) &&& 255)) 2 (((a1.toUInt32 >>> (((8 : Int32)).toUInt32 &&& Int32.toUInt32 31)).toInt32) &&& 255)) 3 (((a1.toUInt32 >>> (((0 : Int32)).toUInt32 &&& Int32.toUInt32 31)).toInt32) &&& 255)) 4 (((a2.toUInt32 >>> (((24 : Int32)).toUInt32 &&& Int32.toUInt32 31)).toInt32) &&& 255)) 5 (((a2.toUInt32 >>> (((16 : Int32)).toUInt32 &&& Int32.toUInt32 31)).toInt32) &&& 255)) 6 (((a2.toUInt32 >>> (((8 : Int32)).toUInt32 &&& Int32.toUInt32 31)).toInt32) &&& 255)) 7 (((a2.toUInt32 >>> (((0 : Int32)).toUInt32 &&& Int32.toUInt32 31)).toInt32) &&& 255)) 8 (((a3.toUInt32 >>> (((24 : Int32)).toUInt32 &&& Int32.toUInt32 31)).toInt32) &&& 255)) 9 (((a3.toUInt32 >>> (((16 : Int32)).toUInt32 &&& Int32.toUInt32 31)).toInt32) &&& 255)) 10 (((a3.toUInt32 >>> (((8 : Int32)).toUInt32 &&& Int32.toUInt32 31)).toInt32) &&& 255)) 11 (((a3.toUInt32 >>> (((0 : Int32)).toUInt32 &&& Int32.toUInt32 31)).toInt32) &&& 255)) 12 (((a4.toUInt32 >>> (((24 : Int32)).toUInt32 &&& Int32.toUInt32 31)).toInt32) &&& 255)) 13 (((a4.toUInt32 >>> (((16 : Int32)).toUInt32 &&& Int32.toUInt32 31)).toInt32) &&& 255)) 14 (((a4.toUInt32 >>> (((8 : Int32)).toUInt32 &&& Int32.toUInt32 31)).toInt32) &&& 255)) 15 (((a4.toUInt32 >>> (((0 : Int32)).toUInt32 &&& Int32.toUInt32 31)).toInt32) &&& 255)) 16 (((a5.toUInt32 >>> (((24 : Int32)).toUInt32 &&& Int32.toUInt32 31)).toInt32) &&& 255)) 17 (((a5.toUInt32 >>> (((16 : Int32)).toUInt32 &&& Int32.toUInt32 31)).toInt32) &&& 255)) ++ [.inl (0, 5, .inl (upd (upd (upd (upd (upd (fun _ => 0) 0 a1) 1 a2) 2 a3) 3 a4) 4 a5))])) dX12_feed_82 rfl (by unfold vp_in; decide) rfl ?_
  refine xi_iinc (v := 18) (lv' := [(7, .int 18), (6, .ref 163), (0, .ref 149), (1, .int a1), (2, .int a2), (3, .int a3), (4, .int a4), (5, .int a5)]) 0 dX12_feed_83 rfl (by decide) (by decide) rfl ?_
  refine xi_goto (tgt := 42) dX12_feed_86 (by decide) ?_
  refine xi_iload 0 dX12_feed_42 rfl ?_
  refine xi_bipush (v := 20) dX12_feed_44 (by decide) ?_
  refine xi_icmp_ge_f (tgt := 89) dX12_feed_46 (by decide) (by decide) ?_
  refine xi_aload_n 2 dX12_feed_49 rfl ?_
  refine xi_get (f := 4) dX12_feed_50 rfl rfl ok_9 (by decide) w_1012 rfl ?_
  refine xi_aload_n 2 dX12_feed_53 rfl ?_
  refine xi_get (f := 5) dX12_feed_54 rfl rfl ok_9 (by decide) w_1013 rfl ?_
  refine xi_iload 0 dX12_feed_57 rfl ?_
  refine xi_iadd (v := 18) dX12_feed_59 (by decide) ?_
  refine xi_aload 1 dX12_feed_60 rfl ?_
  refine xi_iload 0 dX12_feed_62 rfl ?_
  refine xi_iconst (v := 4) dX12_feed_64 (by decide) ?_
  refine xi_idiv (v := 4) dX12_feed_65 (by decide) (by decide) ?_
  refine xi_iaload (v := a5) dX12_feed_66 rfl (by unfold vp_in; decide) rfl ?_
  refine xi_bipush (v := 24) dX12_feed_67 (by decide) ?_
  refine xi_bipush (v := 8) dX12_feed_69 (by decide) ?_
  refine xi_iload 0 dX12_feed_71 rfl ?_
  refine xi_iconst (v := 4) dX12_feed_73 (by decide) ?_
  refine xi_irem (v := 2) dX12_feed_74 (by decide) (by decide) ?_
  refine xi_imul (v := 16) dX12_feed_75 (by decide) ?_
  refine xi_isub (v := 8) dX12_feed_76 (by decide) ?_
  refine xi_iushr dX12_feed_77 rfl ?_
  refine xi_sipush (v := 255) dX12_feed_78 (by decide) ?_
  refine xi_iand dX12_feed_81 rfl ?_
  refine xi_iastore (M' := (MX 20 f rd0 mo0 (fun _ => 0) (fun _ => 0) (upd (upd (upd (upd (upd (upd (upd (upd (upd (upd (upd (upd (upd (upd (upd (upd (upd (upd (upd (fun _ => 0) 0 (((a1.toUInt32 >>> (((24 : Int32)).toUInt32 &&& Int32.toUInt32 31)).toInt32) &&& 255)) 1 (((a1.toUInt32 >>> (((16 : Int32)).toUInt32 &&& Int32.toUInt32 31)).toInt32) &&& 255)) 2 (((a1.toUInt32 >>> (((8 : Int32)).toUInt32 &&& Int32.toUInt32 31)).toInt32) &&& 255)) 3 (((a1.toUInt32 >>> (((0 : Int32)).toUInt32 &&& Int32.toUInt32 31)).toInt32) &&& 255)) 4 (((a2.toUInt32 >>> (((24 : Int32)).toUInt32 &&& Int32.toUInt32 31)).toInt32) &&& 255)) 5 (((a2.toUInt32 >>> (((16 : Int32)).toUInt32 &&& Int32.toUInt32 31)).toInt32) &&& 255)) 6 (((a2.toUInt32 >>> (((8 : Int32)).toUInt32 &&& Int32.toUInt32 31)).toInt32) &&& 255)) 7 (((a2.toUInt32 >>> (((0 : Int32)).toUInt32 &&& Int32.toUInt32 31)).toInt32) &&& 255)) 8 (((a3.toUInt32 >>> (((24 : Int32)).toUInt32 &&& Int32.toUInt32 31)).toInt32) &&& 255)) 9 (((a3.toUInt32 >>> (((16 : Int32)).toUInt32 &&& Int32.toUInt32 31)).toInt32) &&& 255)) 10 (((a3.toUInt32 >>> (((8 : Int32)).toUInt32 &&& Int32.toUInt32 31)).toInt32) &&& 255)) 11 (((a3.toUInt32 >>> (((0 : Int32)).toUInt32 &&& Int32.toUInt32 31)).toInt32) &&& 255)) 12 (((a4.toUInt32 >>> (((24 : Int32)).toUInt32 &&& Int32.toUInt32 31)).toInt32) &&& 255)) 13 (((a4.toUInt32 >>> (((16 : Int32)).toUInt32 &&& Int32.toUInt32 31)).toInt32) &&& 255)) 14 (((a4.toUInt32 >>> (((8 : Int32)).toUInt32 &&& Int32.toUInt32 31)).toInt32) &&& 255)) 15 (((a4.toUInt32 >>> (((0 : Int32)).toUInt32 &&& Int32.toUInt32 31)).toInt32) &&& 255)) 16 (((a5.toUInt32 >>> (((24 : Int32)).toUInt32 &&& Int32.toUInt32 31)).toInt32) &&& 255)) 17 (((a5.toUInt32 >>> (((16 : Int32)).toUInt32 &&& Int32.toUInt32 31)).toInt32) &&& 255)) 18 (((a5.toUInt32 >>> (((8 : Int32)).toUInt32 &&& Int32.toUInt32 31)).toInt32) &&& 255)) ++ [.inl (0, 5, .inl (upd (upd (upd (upd (upd (fun _ => 0) 0 a1) 1 a2) 2 a3) 3 a4) 4 a5))])) dX12_feed_82 rfl (by unfold vp_in; decide) rfl ?_
  refine xi_iinc (v := 19) (lv' := [(7, .int 19), (6, .ref 163), (0, .ref 149), (1, .int a1), (2, .int a2), (3, .int a3), (4, .int a4), (5, .int a5)]) 0 dX12_feed_83 rfl (by decide) (by decide) rfl ?_
  refine xi_goto (tgt := 42) dX12_feed_86 (by decide) ?_
  refine xi_iload 0 dX12_feed_42 rfl ?_
  refine xi_bipush (v := 20) dX12_feed_44 (by decide) ?_
  refine xi_icmp_ge_f (tgt := 89) dX12_feed_46 (by decide) (by decide) ?_
  refine xi_aload_n 2 dX12_feed_49 rfl ?_
  refine xi_get (f := 4) dX12_feed_50 rfl rfl ok_9 (by decide) w_1012 rfl ?_
  refine xi_aload_n 2 dX12_feed_53 rfl ?_
  refine xi_get (f := 5) dX12_feed_54 rfl rfl ok_9 (by decide) w_1013 rfl ?_
  refine xi_iload 0 dX12_feed_57 rfl ?_
  refine xi_iadd (v := 19) dX12_feed_59 (by decide) ?_
  refine xi_aload 1 dX12_feed_60 rfl ?_
  refine xi_iload 0 dX12_feed_62 rfl ?_
  refine xi_iconst (v := 4) dX12_feed_64 (by decide) ?_
  refine xi_idiv (v := 4) dX12_feed_65 (by decide) (by decide) ?_
  refine xi_iaload (v := a5) dX12_feed_66 rfl (by unfold vp_in; decide) rfl ?_
  refine xi_bipush (v := 24) dX12_feed_67 (by decide) ?_
  refine xi_bipush (v := 8) dX12_feed_69 (by decide) ?_
  refine xi_iload 0 dX12_feed_71 rfl ?_
  refine xi_iconst (v := 4) dX12_feed_73 (by decide) ?_
  refine xi_irem (v := 3) dX12_feed_74 (by decide) (by decide) ?_
  refine xi_imul (v := 24) dX12_feed_75 (by decide) ?_
  refine xi_isub (v := 0) dX12_feed_76 (by decide) ?_
  refine xi_iushr dX12_feed_77 rfl ?_
  refine xi_sipush (v := 255) dX12_feed_78 (by decide) ?_
  refine xi_iand dX12_feed_81 rfl ?_
  refine xi_iastore (M' := (MX 20 f rd0 mo0 (fun _ => 0) (fun _ => 0) (upd (upd (upd (upd (upd (upd (upd (upd (upd (upd (upd (upd (upd (upd (upd (upd (upd (upd (upd (upd (fun _ => 0) 0 (((a1.toUInt32 >>> (((24 : Int32)).toUInt32 &&& Int32.toUInt32 31)).toInt32) &&& 255)) 1 (((a1.toUInt32 >>> (((16 : Int32)).toUInt32 &&& Int32.toUInt32 31)).toInt32) &&& 255)) 2 (((a1.toUInt32 >>> (((8 : Int32)).toUInt32 &&& Int32.toUInt32 31)).toInt32) &&& 255)) 3 (((a1.toUInt32 >>> (((0 : Int32)).toUInt32 &&& Int32.toUInt32 31)).toInt32) &&& 255)) 4 (((a2.toUInt32 >>> (((24 : Int32)).toUInt32 &&& Int32.toUInt32 31)).toInt32) &&& 255)) 5 (((a2.toUInt32 >>> (((16 : Int32)).toUInt32 &&& Int32.toUInt32 31)).toInt32) &&& 255)) 6 (((a2.toUInt32 >>> (((8 : Int32)).toUInt32 &&& Int32.toUInt32 31)).toInt32) &&& 255)) 7 (((a2.toUInt32 >>> (((0 : Int32)).toUInt32 &&& Int32.toUInt32 31)).toInt32) &&& 255)) 8 (((a3.toUInt32 >>> (((24 : Int32)).toUInt32 &&& Int32.toUInt32 31)).toInt32) &&& 255)) 9 (((a3.toUInt32 >>> (((16 : Int32)).toUInt32 &&& Int32.toUInt32 31)).toInt32) &&& 255)) 10 (((a3.toUInt32 >>> (((8 : Int32)).toUInt32 &&& Int32.toUInt32 31)).toInt32) &&& 255)) 11 (((a3.toUInt32 >>> (((0 : Int32)).toUInt32 &&& Int32.toUInt32 31)).toInt32) &&& 255)) 12 (((a4.toUInt32 >>> (((24 : Int32)).toUInt32 &&& Int32.toUInt32 31)).toInt32) &&& 255)) 13 (((a4.toUInt32 >>> (((16 : Int32)).toUInt32 &&& Int32.toUInt32 31)).toInt32) &&& 255)) 14 (((a4.toUInt32 >>> (((8 : Int32)).toUInt32 &&& Int32.toUInt32 31)).toInt32) &&& 255)) 15 (((a4.toUInt32 >>> (((0 : Int32)).toUInt32 &&& Int32.toUInt32 31)).toInt32) &&& 255)) 16 (((a5.toUInt32 >>> (((24 : Int32)).toUInt32 &&& Int32.toUInt32 31)).toInt32) &&& 255)) 17 (((a5.toUInt32 >>> (((16 : Int32)).toUInt32 &&& Int32.toUInt32 31)).toInt32) &&& 255)) 18 (((a5.toUInt32 >>> (((8 : Int32)).toUInt32 &&& Int32.toUInt32 31)).toInt32) &&& 255)) 19 (((a5.toUInt32 >>> (((0 : Int32)).toUInt32 &&& Int32.toUInt32 31)).toInt32) &&& 255)) ++ [.inl (0, 5, .inl (upd (upd (upd (upd (upd (fun _ => 0) 0 a1) 1 a2) 2 a3) 3 a4) 4 a5))])) dX12_feed_82 rfl (by unfold vp_in; decide) rfl ?_
  refine xi_iinc (v := 20) (lv' := [(7, .int 20), (6, .ref 163), (0, .ref 149), (1, .int a1), (2, .int a2), (3, .int a3), (4, .int a4), (5, .int a5)]) 0 dX12_feed_83 rfl (by decide) (by decide) rfl ?_
  refine xi_goto (tgt := 42) dX12_feed_86 (by decide) ?_
  refine xi_iload 0 dX12_feed_42 rfl ?_
  refine xi_bipush (v := 20) dX12_feed_44 (by decide) ?_
  refine xi_icmp_ge_t (tgt := 89) dX12_feed_46 (by decide) (by decide) ?_
  refine xi_aload_n 2 dX12_feed_89 rfl ?_
  refine xi_dup dX12_feed_90 rfl ?_
  refine xi_get (f := 5) dX12_feed_91 rfl rfl ok_9 (by decide) w_1013 rfl ?_
  refine xi_bipush (v := 20) dX12_feed_94 (by decide) ?_
  refine xi_iadd (v := 20) dX12_feed_96 (by decide) ?_
  refine xi_put (f := 5) (ty := .int) (M' := (MX 20 f rd0 (.inr (9, [.ref 150, .ref 151, .ref 152, .int 0, .ref 153, .int 20, .int 0, .int (-1), .int 0, .int 0, .int 0, .int 0, .int 0, .ref 154, .ref 155, .ref 156, .ref 157, .int 0, .int 0, .int 0, .ref 158, .ref 159, .ref 160, .ref 161, .ref 162, .int 0])) (fun _ => 0) (fun _ => 0) (upd (upd (upd (upd (upd (upd (upd (upd (upd (upd (upd (upd (upd (upd (upd (upd (upd (upd (upd (upd (fun _ => 0) 0 (((a1.toUInt32 >>> (((24 : Int32)).toUInt32 &&& Int32.toUInt32 31)).toInt32) &&& 255)) 1 (((a1.toUInt32 >>> (((16 : Int32)).toUInt32 &&& Int32.toUInt32 31)).toInt32) &&& 255)) 2 (((a1.toUInt32 >>> (((8 : Int32)).toUInt32 &&& Int32.toUInt32 31)).toInt32) &&& 255)) 3 (((a1.toUInt32 >>> (((0 : Int32)).toUInt32 &&& Int32.toUInt32 31)).toInt32) &&& 255)) 4 (((a2.toUInt32 >>> (((24 : Int32)).toUInt32 &&& Int32.toUInt32 31)).toInt32) &&& 255)) 5 (((a2.toUInt32 >>> (((16 : Int32)).toUInt32 &&& Int32.toUInt32 31)).toInt32) &&& 255)) 6 (((a2.toUInt32 >>> (((8 : Int32)).toUInt32 &&& Int32.toUInt32 31)).toInt32) &&& 255)) 7 (((a2.toUInt32 >>> (((0 : Int32)).toUInt32 &&& Int32.toUInt32 31)).toInt32) &&& 255)) 8 (((a3.toUInt32 >>> (((24 : Int32)).toUInt32 &&& Int32.toUInt32 31)).toInt32) &&& 255)) 9 (((a3.toUInt32 >>> (((16 : Int32)).toUInt32 &&& Int32.toUInt32 31)).toInt32) &&& 255)) 10 (((a3.toUInt32 >>> (((8 : Int32)).toUInt32 &&& Int32.toUInt32 31)).toInt32) &&& 255)) 11 (((a3.toUInt32 >>> (((0 : Int32)).toUInt32 &&& Int32.toUInt32 31)).toInt32) &&& 255)) 12 (((a4.toUInt32 >>> (((24 : Int32)).toUInt32 &&& Int32.toUInt32 31)).toInt32) &&& 255)) 13 (((a4.toUInt32 >>> (((16 : Int32)).toUInt32 &&& Int32.toUInt32 31)).toInt32) &&& 255)) 14 (((a4.toUInt32 >>> (((8 : Int32)).toUInt32 &&& Int32.toUInt32 31)).toInt32) &&& 255)) 15 (((a4.toUInt32 >>> (((0 : Int32)).toUInt32 &&& Int32.toUInt32 31)).toInt32) &&& 255)) 16 (((a5.toUInt32 >>> (((24 : Int32)).toUInt32 &&& Int32.toUInt32 31)).toInt32) &&& 255)) 17 (((a5.toUInt32 >>> (((16 : Int32)).toUInt32 &&& Int32.toUInt32 31)).toInt32) &&& 255)) 18 (((a5.toUInt32 >>> (((8 : Int32)).toUInt32 &&& Int32.toUInt32 31)).toInt32) &&& 255)) 19 (((a5.toUInt32 >>> (((0 : Int32)).toUInt32 &&& Int32.toUInt32 31)).toInt32) &&& 255)) ++ [.inl (0, 5, .inl (upd (upd (upd (upd (upd (fun _ => 0) 0 a1) 1 a2) 2 a3) 3 a4) 4 a5))])) dX12_feed_97 rfl rfl ok_9 (by decide) w_1013 rfl pf_I (fun _ h => by cases h) rfl rfl (Nat.le_of_ble_eq_true rfl) rfl ?_
  refine xi_aload_n 2 dX12_feed_100 rfl ?_
  refine xi_get (f := 5) dX12_feed_101 rfl rfl ok_9 (by decide) w_1013 rfl ?_
  exact xi_iret dX12_feed_104 rfl rfl (Nat.le_of_ble_eq_true rfl) (Nat.le_of_ble_eq_true rfl) ⟨rfl, trivial⟩
