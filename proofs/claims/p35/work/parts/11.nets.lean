/-! methods as functions (printed by wip/ext/genall.py) -/
noncomputable def SX10_grown_4 (x0 : Nat) (w1 : Int32) (c : Int32 × Int32) (σ : St) : Option (((Int32 × Int32) ⊕ (Int32)) × St) :=
  (rdb σ x0 (0) (fun v1 => (if v1 ≤ c.2 then (some (Sum.inr c.1, σ)) else (bnd (if ((shr w1 c.2) &&& (1 : Int32)) = (0 : Int32) then (some (c.1, σ)) else (chk (inb c.2 9) (rdb σ (x0 + 1) (c.2.toNatClampNeg) (fun v10 => (some ((c.1 ||| v10), σ)))))) (fun v5 t6 => (some (Sum.inl (v5, (c.2 + 1)), t6)))))))
set_option maxHeartbeats 4000000 in
set_option maxRecDepth 100000 in
theorem SX10_grown_4_w (G : xG) (Gb : xMem) (x0 : Nat) (w1 : Int32) (g0x : netAt x0 = true) (r0 : Int32) (t0 : St) :
    ∀ (k : Nat) (c : Int32 × Int32) (σ : St) (r : Int32) (σ' : St), itr (SX10_grown_4 x0 w1) k c σ = some (r, σ') → (xW G mX10_grown (xrm 0 0 0) (xQ G (PQ r0 t0 Gb) 0 0) 35 [(2, .int r)] [] (mem σ' Gb) 0 0) → xW G mX10_grown (xrm 0 0 0) (xQ G (PQ r0 t0 Gb) 0 0) 4 [(0, .ref x0), (1, .int w1), (2, .int c.1), (3, .int c.2)] [] (mem σ Gb) 0 0 := by
  intro k
  induction k with
  | zero =>
    intro c σ r σ' h
    exact absurd h (itr_zero _ _ _ _)
  | succ k ih =>
    intro c σ r σ' h HE
    obtain ⟨x, s1, hs, h⟩ := itr_succ h
    unfold SX10_grown_4 at hs
    refine xi_iload_n 3 dX10_grown_4 rfl ?_
    refine xi_aload_n 0 dX10_grown_5 rfl ?_
    obtain ⟨v1, h2, hs⟩ := rdb_some hs
    refine yi_getV (f := 0) dX10_grown_6 (netAt_0 g0x) rfl ok_5 (by decide) w_62 rfl h2 ?_
    refine xi_icmp_ge (tgt := 35) dX10_grown_9 (by decide) (fun c3 => ?_) (fun c3 => ?_)
    · replace hs := ite_p c3 hs
      refine xi_sub (lv' := [(2, .int c.1)]) [2] rfl ?_
      obtain ⟨rfl, rfl⟩ := some_pair hs
      obtain ⟨rfl, rfl⟩ := some_pair h
      exact HE
    · replace hs := ite_n c3 hs
      refine xi_iload_n 1 dX10_grown_12 rfl ?_
      refine xi_iload_n 3 dX10_grown_13 rfl ?_
      refine xi_ishr (v := shr w1 c.2) dX10_grown_14 rfl ?_
      refine xi_iconst (v := 1) dX10_grown_15 (by decide) ?_
      refine xi_iand (v := (shr w1 c.2) &&& (1 : Int32)) dX10_grown_16 rfl ?_
      obtain ⟨v5, t6, m7, hs⟩ := bnd_some hs
      have key8 : xW G mX10_grown (xrm 0 0 0) (xQ G (PQ r0 t0 Gb) 0 0) 29 [(0, .ref x0), (1, .int w1), (2, .int v5), (3, .int c.2)] [] (mem t6 Gb) 0 0 := by
        refine xi_iinc (v := (c.2 + 1)) (lv' := [(3, .int (c.2 + 1)), (0, .ref x0), (1, .int w1), (2, .int v5)]) 3 dX10_grown_29 rfl rfl (by decide) rfl ?_
        refine xi_goto (tgt := 4) dX10_grown_32 (by decide) ?_
        refine xi_sub (lv' := [(0, .ref x0), (1, .int w1), (2, .int v5), (3, .int (c.2 + 1))]) [1, 2, 3, 0] rfl ?_
        obtain ⟨rfl, rfl⟩ := some_pair hs
        exact ih (v5, (c.2 + 1)) t6 _ _ h HE
      refine xi_if_eq (tgt := 29) dX10_grown_17 (by decide) (fun c4 => ?_) (fun c4 => ?_)
      · replace m7 := ite_p c4 m7
        obtain ⟨rfl, rfl⟩ := some_pair m7
        exact key8
      · replace m7 := ite_n c4 m7
        refine xi_iload_n 2 dX10_grown_20 rfl ?_
        refine xi_aload_n 0 dX10_grown_21 rfl ?_
        refine yi_getR (f := 2) dX10_grown_22 (netAt_0 g0x) rfl ok_5 (by decide) w_73 rfl ?_
        refine xi_iload_n 3 dX10_grown_25 rfl ?_
        obtain ⟨g9, m7⟩ := chk_some m7
        obtain ⟨v10, h11, m7⟩ := rdb_some m7
        refine yi_ialoadV dX10_grown_26 (netAt_1 g0x) g9 h11 ?_
        refine xi_ior (v := c.1 ||| v10) dX10_grown_27 rfl ?_
        refine xi_istore_n (lv' := [(2, .int (c.1 ||| v10)), (0, .ref x0), (1, .int w1), (3, .int c.2)]) dX10_grown_28 (by decide) rfl ?_
        obtain ⟨rfl, rfl⟩ := some_pair m7
        refine xi_sub (lv' := [(0, .ref x0), (1, .int w1), (2, .int (c.1 ||| v10)), (3, .int c.2)]) [1, 2, 0, 3] rfl ?_
        exact key8
noncomputable def FX10_grown (x : Nat) (a : Int32) (σ : St) : Option ((Int32) × St) :=
  (chk (netAt x) (bnd (wh (SX10_grown_4 x a) (a, (0 : Int32)) σ) (fun e12 t13 => (some (e12, t13)))))
set_option maxHeartbeats 4000000 in
set_option maxRecDepth 100000 in
theorem KX10_grown (G : xG) (Gb : xMem) (x : Nat) (a : Int32) (σ : St) (r0 : Int32) (t0 : St) (hq : FX10_grown x a σ = some (r0, t0)) : xC G mX10_grown 0 0 0 [.ref x, .int a] (mem σ Gb) (PQ r0 t0 Gb) := by
  unfold FX10_grown at hq
  refine xC.of (by decide) (Nat.le_of_ble_eq_true rfl) ?_
  show xW _ _ _ _ 0 [(0, .ref x), (1, .int a)] [] _ 0 0
  obtain ⟨g_x, hq⟩ := chk_some hq
  refine xi_iload_n 1 dX10_grown_0 rfl ?_
  refine xi_istore_n (lv' := [(2, .int a), (0, .ref x), (1, .int a)]) dX10_grown_1 (by decide) rfl ?_
  refine xi_iconst (v := 0) dX10_grown_2 (by decide) ?_
  refine xi_istore_n (lv' := [(3, .int 0), (2, .int a), (0, .ref x), (1, .int a)]) dX10_grown_3 (by decide) rfl ?_
  refine xi_sub (lv' := [(0, .ref x), (1, .int a), (2, .int a), (3, .int 0)]) [2, 3, 1, 0] rfl ?_
  obtain ⟨e12, t13, k14, hq⟩ := bnd_some hq
  obtain ⟨n15, k14⟩ := wh_itr k14
  refine SX10_grown_4_w G Gb x a g_x r0 t0 n15 (a, (0 : Int32)) σ _ _ k14 ?_
  show xW G mX10_grown (xrm 0 0 0) (xQ G (PQ r0 t0 Gb) 0 0) 35 [(2, .int e12)] [] (mem t13 Gb) 0 0
  refine xi_iload_n 0 dX10_grown_35 rfl ?_
  have r16 := some_pair hq
  obtain ⟨rfl, rfl⟩ := r16
  exact xi_iret dX10_grown_36 rfl rfl (Nat.le_of_ble_eq_true rfl) (Nat.le_of_ble_eq_true rfl) ⟨rfl, rfl⟩
noncomputable def SX10_ballBound_19 (x0 : Nat) (w2 : Int32) (c : Int32 × Int32 × Int32) (σ : St) : Option (((Int32 × Int32 × Int32) ⊕ (Int32)) × St) :=
  (rdb σ x0 (0) (fun v4 => (if v4 ≤ c.2.2 then (some (Sum.inr c.1, σ)) else (bnd (FX10_grown x0 c.2.1 σ) (fun v7 t8 => (bnd (FJ6_bitCount_0f7a4 v7 t8) (fun v10 t11 => (chk (nz ((2 : Int32) * c.2.2)) (some (Sum.inl ((mxI c.1 ((((v10 - (1 : Int32)) + ((2 : Int32) * c.2.2)) - (1 : Int32)) / ((2 : Int32) * c.2.2))), v7, (c.2.2 + 1)), t11))))))))))
noncomputable def SX10_ballBound_4 (x0 : Nat) (c : Int32 × Int32) (σ : St) : Option (((Int32 × Int32) ⊕ (Int32)) × St) :=
  (rdb σ x0 (0) (fun v1 => (if v1 ≤ c.2 then (some (Sum.inr c.1, σ)) else (bnd (wh (SX10_ballBound_19 x0 c.2) (c.1, (shl (1 : Int32) c.2), (1 : Int32)) σ) (fun e14 t15 => (some (Sum.inl (e14, (c.2 + 1)), t15)))))))
set_option maxHeartbeats 4000000 in
set_option maxRecDepth 100000 in
theorem SX10_ballBound_19_w (G : xG) (Gb : xMem) (x0 : Nat) (w2 : Int32) (g0x : netAt x0 = true) (r0 : Int32) (t0 : St) :
    ∀ (k : Nat) (c : Int32 × Int32 × Int32) (σ : St) (r : Int32) (σ' : St), itr (SX10_ballBound_19 x0 w2) k c σ = some (r, σ') → (xW G mX10_ballBound (xrm 1 0 0) (xQ G (PQ r0 t0 Gb) 0 0) 67 [(0, .ref x0), (1, .int r), (2, .int w2)] [] (mem σ' Gb) 0 0) → xW G mX10_ballBound (xrm 1 0 0) (xQ G (PQ r0 t0 Gb) 0 0) 19 [(0, .ref x0), (1, .int c.1), (2, .int w2), (3, .int c.2.1), (4, .int c.2.2)] [] (mem σ Gb) 0 0 := by
  intro k
  induction k with
  | zero =>
    intro c σ r σ' h
    exact absurd h (itr_zero _ _ _ _)
  | succ k ih =>
    intro c σ r σ' h HE
    obtain ⟨x, s1, hs, h⟩ := itr_succ h
    unfold SX10_ballBound_19 at hs
    refine xi_iload 4 dX10_ballBound_19 rfl ?_
    refine xi_aload_n 0 dX10_ballBound_21 rfl ?_
    obtain ⟨v4, h5, hs⟩ := rdb_some hs
    refine yi_getV (f := 0) dX10_ballBound_22 (netAt_0 g0x) rfl ok_5 (by decide) w_62 rfl h5 ?_
    refine xi_icmp_ge (tgt := 67) dX10_ballBound_25 (by decide) (fun c6 => ?_) (fun c6 => ?_)
    · replace hs := ite_p c6 hs
      refine xi_sub (lv' := [(0, .ref x0), (1, .int c.1), (2, .int w2)]) [0, 1, 2] rfl ?_
      obtain ⟨rfl, rfl⟩ := some_pair hs
      obtain ⟨rfl, rfl⟩ := some_pair h
      exact HE
    · replace hs := ite_n c6 hs
      refine xi_aload_n 0 dX10_ballBound_28 rfl ?_
      refine xi_iload_n 3 dX10_ballBound_29 rfl ?_
      obtain ⟨v7, t8, k9, hs⟩ := bnd_some hs
      refine xi_callS (as := [.ref x0, .int c.2.1]) (rest := []) dX10_ballBound_30 (KX10_grown G Gb x0 c.2.1 _ _ _ k9) mkX10_grown w_521 w_520 rfl rfl (Nat.le_of_ble_eq_true rfl) (Nat.le_of_ble_eq_true rfl) (Nat.le_of_ble_eq_true rfl) (Nat.le_of_ble_eq_true rfl) (Nat.le_of_ble_eq_true rfl) ?_
      intro v M2 hz
      obtain ⟨rfl, rfl⟩ := hz
      show xW _ _ _ _ 33 _ [.int v7] (mem t8 Gb) _ _
      refine xi_istore_n (lv' := [(3, .int v7), (0, .ref x0), (1, .int c.1), (2, .int w2), (4, .int c.2.2)]) dX10_ballBound_33 (by decide) rfl ?_
      refine xi_iload_n 0 dX10_ballBound_34 rfl ?_
      obtain ⟨v10, t11, k12, hs⟩ := bnd_some hs
      refine xi_callS (as := [.int v7]) (rest := []) dX10_ballBound_35 (KJ6_bitCount_0f7a4 G Gb v7 _ _ _ k12) mkJ6_bitCount_0f7a4 w_508 w_536 rfl rfl (Nat.le_of_ble_eq_true rfl) (Nat.le_of_ble_eq_true rfl) (Nat.le_of_ble_eq_true rfl) (Nat.le_of_ble_eq_true rfl) (Nat.le_of_ble_eq_true rfl) ?_
      intro v M2 hz
      obtain ⟨rfl, rfl⟩ := hz
      show xW _ _ _ _ 38 _ [.int v10] (mem t11 Gb) _ _
      refine xi_iconst (v := 1) dX10_ballBound_38 (by decide) ?_
      refine xi_isub (v := v10 - (1 : Int32)) dX10_ballBound_39 rfl ?_
      refine xi_istore (lv' := [(5, .int (v10 - (1 : Int32))), (3, .int v7), (0, .ref x0), (1, .int c.1), (2, .int w2), (4, .int c.2.2)]) dX10_ballBound_40 (by decide) rfl ?_
      refine xi_iload_n 3 dX10_ballBound_42 rfl ?_
      refine xi_iload 0 dX10_ballBound_43 rfl ?_
      refine xi_iconst (v := 2) dX10_ballBound_45 (by decide) ?_
      refine xi_iload 5 dX10_ballBound_46 rfl ?_
      refine xi_imul (v := (2 : Int32) * c.2.2) dX10_ballBound_48 rfl ?_
      refine xi_iadd (v := (v10 - (1 : Int32)) + ((2 : Int32) * c.2.2)) dX10_ballBound_49 rfl ?_
      refine xi_iconst (v := 1) dX10_ballBound_50 (by decide) ?_
      refine xi_isub (v := ((v10 - (1 : Int32)) + ((2 : Int32) * c.2.2)) - (1 : Int32)) dX10_ballBound_51 rfl ?_
      refine xi_iconst (v := 2) dX10_ballBound_52 (by decide) ?_
      refine xi_iload 5 dX10_ballBound_53 rfl ?_
      refine xi_imul (v := (2 : Int32) * c.2.2) dX10_ballBound_55 rfl ?_
      obtain ⟨g13, hs⟩ := chk_some hs
      refine xi_idiv (v := (((v10 - (1 : Int32)) + ((2 : Int32) * c.2.2)) - (1 : Int32)) / ((2 : Int32) * c.2.2)) dX10_ballBound_56 (nz_ne g13) rfl ?_
      refine xi_max (v := (mxI c.1 ((((v10 - (1 : Int32)) + ((2 : Int32) * c.2.2)) - (1 : Int32)) / ((2 : Int32) * c.2.2)))) dX10_ballBound_57 w_513 w_37 w_3 w_mmax (Nat.le_of_ble_eq_true rfl) (Nat.le_of_ble_eq_true rfl) (Nat.le_of_ble_eq_true rfl) (Nat.le_of_ble_eq_true rfl) (Nat.le_of_ble_eq_true rfl) rfl ?_
      refine xi_istore_n (lv' := [(1, .int (mxI c.1 ((((v10 - (1 : Int32)) + ((2 : Int32) * c.2.2)) - (1 : Int32)) / ((2 : Int32) * c.2.2)))), (5, .int (v10 - (1 : Int32))), (3, .int v7), (0, .ref x0), (2, .int w2), (4, .int c.2.2)]) dX10_ballBound_60 (by decide) rfl ?_
      refine xi_iinc (v := (c.2.2 + 1)) (lv' := [(4, .int (c.2.2 + 1)), (1, .int (mxI c.1 ((((v10 - (1 : Int32)) + ((2 : Int32) * c.2.2)) - (1 : Int32)) / ((2 : Int32) * c.2.2)))), (5, .int (v10 - (1 : Int32))), (3, .int v7), (0, .ref x0), (2, .int w2)]) 5 dX10_ballBound_61 rfl rfl (by decide) rfl ?_
      refine xi_goto (tgt := 19) dX10_ballBound_64 (by decide) ?_
      refine xi_sub (lv' := [(0, .ref x0), (1, .int (mxI c.1 ((((v10 - (1 : Int32)) + ((2 : Int32) * c.2.2)) - (1 : Int32)) / ((2 : Int32) * c.2.2)))), (2, .int w2), (3, .int v7), (4, .int (c.2.2 + 1))]) [4, 1, 5, 3, 0] rfl ?_
      obtain ⟨rfl, rfl⟩ := some_pair hs
      exact ih ((mxI c.1 ((((v10 - (1 : Int32)) + ((2 : Int32) * c.2.2)) - (1 : Int32)) / ((2 : Int32) * c.2.2))), v7, (c.2.2 + 1)) t11 _ _ h HE
set_option maxHeartbeats 4000000 in
set_option maxRecDepth 100000 in
theorem SX10_ballBound_4_w (G : xG) (Gb : xMem) (x0 : Nat) (g0x : netAt x0 = true) (r0 : Int32) (t0 : St) :
    ∀ (k : Nat) (c : Int32 × Int32) (σ : St) (r : Int32) (σ' : St), itr (SX10_ballBound_4 x0) k c σ = some (r, σ') → (xW G mX10_ballBound (xrm 1 0 0) (xQ G (PQ r0 t0 Gb) 0 0) 73 [(1, .int r)] [] (mem σ' Gb) 0 0) → xW G mX10_ballBound (xrm 1 0 0) (xQ G (PQ r0 t0 Gb) 0 0) 4 [(0, .ref x0), (1, .int c.1), (2, .int c.2)] [] (mem σ Gb) 0 0 := by
  intro k
  induction k with
  | zero =>
    intro c σ r σ' h
    exact absurd h (itr_zero _ _ _ _)
  | succ k ih =>
    intro c σ r σ' h HE
    obtain ⟨x, s1, hs, h⟩ := itr_succ h
    unfold SX10_ballBound_4 at hs
    refine xi_iload_n 2 dX10_ballBound_4 rfl ?_
    refine xi_aload_n 0 dX10_ballBound_5 rfl ?_
    obtain ⟨v1, h2, hs⟩ := rdb_some hs
    refine yi_getV (f := 0) dX10_ballBound_6 (netAt_0 g0x) rfl ok_5 (by decide) w_62 rfl h2 ?_
    refine xi_icmp_ge (tgt := 73) dX10_ballBound_9 (by decide) (fun c3 => ?_) (fun c3 => ?_)
    · replace hs := ite_p c3 hs
      refine xi_sub (lv' := [(1, .int c.1)]) [1] rfl ?_
      obtain ⟨rfl, rfl⟩ := some_pair hs
      obtain ⟨rfl, rfl⟩ := some_pair h
      exact HE
    · replace hs := ite_n c3 hs
      refine xi_iconst (v := 1) dX10_ballBound_12 (by decide) ?_
      refine xi_iload_n 2 dX10_ballBound_13 rfl ?_
      refine xi_ishl (v := shl (1 : Int32) c.2) dX10_ballBound_14 rfl ?_
      refine xi_istore_n (lv' := [(3, .int (shl (1 : Int32) c.2)), (0, .ref x0), (1, .int c.1), (2, .int c.2)]) dX10_ballBound_15 (by decide) rfl ?_
      refine xi_iconst (v := 1) dX10_ballBound_16 (by decide) ?_
      refine xi_istore (lv' := [(4, .int 1), (3, .int (shl (1 : Int32) c.2)), (0, .ref x0), (1, .int c.1), (2, .int c.2)]) dX10_ballBound_17 (by decide) rfl ?_
      refine xi_sub (lv' := [(0, .ref x0), (1, .int c.1), (2, .int c.2), (3, .int (shl (1 : Int32) c.2)), (4, .int 1)]) [2, 3, 4, 1, 0] rfl ?_
      obtain ⟨e14, t15, k16, hs⟩ := bnd_some hs
      obtain ⟨n17, k16⟩ := wh_itr k16
      refine SX10_ballBound_19_w G Gb x0 c.2 g0x r0 t0 n17 (c.1, (shl (1 : Int32) c.2), (1 : Int32)) σ _ _ k16 ?_
      show xW G mX10_ballBound (xrm 1 0 0) (xQ G (PQ r0 t0 Gb) 0 0) 67 [(0, .ref x0), (1, .int e14), (2, .int c.2)] [] (mem t15 Gb) 0 0
      refine xi_iinc (v := (c.2 + 1)) (lv' := [(2, .int (c.2 + 1)), (0, .ref x0), (1, .int e14)]) 2 dX10_ballBound_67 rfl rfl (by decide) rfl ?_
      refine xi_goto (tgt := 4) dX10_ballBound_70 (by decide) ?_
      refine xi_sub (lv' := [(0, .ref x0), (1, .int e14), (2, .int (c.2 + 1))]) [1, 2, 0] rfl ?_
      obtain ⟨rfl, rfl⟩ := some_pair hs
      exact ih (e14, (c.2 + 1)) t15 _ _ h HE
noncomputable def FX10_ballBound (x : Nat) (σ : St) : Option ((Int32) × St) :=
  (chk (netAt x) (bnd (wh (SX10_ballBound_4 x) ((0 : Int32), (0 : Int32)) σ) (fun e18 t19 => (some (e18, t19)))))
set_option maxHeartbeats 4000000 in
set_option maxRecDepth 100000 in
theorem KX10_ballBound (G : xG) (Gb : xMem) (x : Nat) (σ : St) (r0 : Int32) (t0 : St) (hq : FX10_ballBound x σ = some (r0, t0)) : xC G mX10_ballBound 1 0 0 [.ref x] (mem σ Gb) (PQ r0 t0 Gb) := by
  unfold FX10_ballBound at hq
  refine xC.of (by decide) (Nat.le_of_ble_eq_true rfl) ?_
  show xW _ _ _ _ 0 [(0, .ref x)] [] _ 0 0
  obtain ⟨g_x, hq⟩ := chk_some hq
  refine xi_iconst (v := 0) dX10_ballBound_0 (by decide) ?_
  refine xi_istore_n (lv' := [(1, .int 0), (0, .ref x)]) dX10_ballBound_1 (by decide) rfl ?_
  refine xi_iconst (v := 0) dX10_ballBound_2 (by decide) ?_
  refine xi_istore_n (lv' := [(2, .int 0), (1, .int 0), (0, .ref x)]) dX10_ballBound_3 (by decide) rfl ?_
  refine xi_sub (lv' := [(0, .ref x), (1, .int 0), (2, .int 0)]) [2, 1, 0] rfl ?_
  obtain ⟨e18, t19, k20, hq⟩ := bnd_some hq
  obtain ⟨n21, k20⟩ := wh_itr k20
  refine SX10_ballBound_4_w G Gb x g_x r0 t0 n21 ((0 : Int32), (0 : Int32)) σ _ _ k20 ?_
  show xW G mX10_ballBound (xrm 1 0 0) (xQ G (PQ r0 t0 Gb) 0 0) 73 [(1, .int e18)] [] (mem t19 Gb) 0 0
  refine xi_iload_n 0 dX10_ballBound_73 rfl ?_
  have r22 := some_pair hq
  obtain ⟨rfl, rfl⟩ := r22
  exact xi_iret dX10_ballBound_74 rfl rfl (Nat.le_of_ble_eq_true rfl) (Nat.le_of_ble_eq_true rfl) ⟨rfl, rfl⟩
noncomputable def SX10_fewestLines_9 (x0 : Nat) (w1 : Int32) (w2 : Int32) (c : Int32 × Int32 × Int32) (σ : St) : Option (((Int32 × Int32 × Int32) ⊕ (Int32)) × St) :=
  (rdb σ x0 (0) (fun v1 => (if v1 ≤ c.2.2 then (some (Sum.inr c.1, σ)) else (chk (inb c.2.2 9) (rdb σ (x0 + 1) (c.2.2.toNatClampNeg) (fun v5 => (bnd (FJ6_bitCount_0f7a4 (v5 &&& w2) σ) (fun v7 t8 => (bnd (if ((shr w1 c.2.2) &&& (1 : Int32)) = (0 : Int32) then (some ((c.1, c.2.1), t8)) else (if c.2.1 ≤ v7 then (some ((c.1, c.2.1), t8)) else (some ((c.2.2, v7), t8)))) (fun v11 t12 => (some (Sum.inl (v11.1, v11.2, (c.2.2 + 1)), t12))))))))))))
set_option maxHeartbeats 4000000 in
set_option maxRecDepth 100000 in
theorem SX10_fewestLines_9_w (G : xG) (Gb : xMem) (x0 : Nat) (w1 : Int32) (w2 : Int32) (g0x : netAt x0 = true) (r0 : Int32) (t0 : St) :
    ∀ (k : Nat) (c : Int32 × Int32 × Int32) (σ : St) (r : Int32) (σ' : St), itr (SX10_fewestLines_9 x0 w1 w2) k c σ = some (r, σ') → (xW G mX10_fewestLines (xrm 1 0 0) (xQ G (PQ r0 t0 Gb) 0 0) 61 [(3, .int r)] [] (mem σ' Gb) 0 0) → xW G mX10_fewestLines (xrm 1 0 0) (xQ G (PQ r0 t0 Gb) 0 0) 9 [(0, .ref x0), (1, .int w1), (2, .int w2), (3, .int c.1), (4, .int c.2.1), (5, .int c.2.2)] [] (mem σ Gb) 0 0 := by
  intro k
  induction k with
  | zero =>
    intro c σ r σ' h
    exact absurd h (itr_zero _ _ _ _)
  | succ k ih =>
    intro c σ r σ' h HE
    obtain ⟨x, s1, hs, h⟩ := itr_succ h
    unfold SX10_fewestLines_9 at hs
    refine xi_iload 5 dX10_fewestLines_9 rfl ?_
    refine xi_aload_n 0 dX10_fewestLines_11 rfl ?_
    obtain ⟨v1, h2, hs⟩ := rdb_some hs
    refine yi_getV (f := 0) dX10_fewestLines_12 (netAt_0 g0x) rfl ok_5 (by decide) w_62 rfl h2 ?_
    refine xi_icmp_ge (tgt := 61) dX10_fewestLines_15 (by decide) (fun c3 => ?_) (fun c3 => ?_)
    · replace hs := ite_p c3 hs
      refine xi_sub (lv' := [(3, .int c.1)]) [3] rfl ?_
      obtain ⟨rfl, rfl⟩ := some_pair hs
      obtain ⟨rfl, rfl⟩ := some_pair h
      exact HE
    · replace hs := ite_n c3 hs
      refine xi_aload_n 0 dX10_fewestLines_18 rfl ?_
      refine yi_getR (f := 2) dX10_fewestLines_19 (netAt_0 g0x) rfl ok_5 (by decide) w_73 rfl ?_
      refine xi_iload 5 dX10_fewestLines_22 rfl ?_
      obtain ⟨g4, hs⟩ := chk_some hs
      obtain ⟨v5, h6, hs⟩ := rdb_some hs
      refine yi_ialoadV dX10_fewestLines_24 (netAt_1 g0x) g4 h6 ?_
      refine xi_iload_n 2 dX10_fewestLines_25 rfl ?_
      refine xi_iand (v := v5 &&& w2) dX10_fewestLines_26 rfl ?_
      obtain ⟨v7, t8, k9, hs⟩ := bnd_some hs
      refine xi_callS (as := [.int (v5 &&& w2)]) (rest := []) dX10_fewestLines_27 (KJ6_bitCount_0f7a4 G Gb (v5 &&& w2) _ _ _ k9) mkJ6_bitCount_0f7a4 w_508 w_536 rfl rfl (Nat.le_of_ble_eq_true rfl) (Nat.le_of_ble_eq_true rfl) (Nat.le_of_ble_eq_true rfl) (Nat.le_of_ble_eq_true rfl) (Nat.le_of_ble_eq_true rfl) ?_
      intro v M2 hz
      obtain ⟨rfl, rfl⟩ := hz
      show xW _ _ _ _ 30 _ [.int v7] (mem t8 Gb) _ _
      refine xi_istore (lv' := [(6, .int v7), (0, .ref x0), (1, .int w1), (2, .int w2), (3, .int c.1), (4, .int c.2.1), (5, .int c.2.2)]) dX10_fewestLines_30 (by decide) rfl ?_
      refine xi_iload_n 2 dX10_fewestLines_32 rfl ?_
      refine xi_iload 6 dX10_fewestLines_33 rfl ?_
      refine xi_ishr (v := shr w1 c.2.2) dX10_fewestLines_35 rfl ?_
      refine xi_iconst (v := 1) dX10_fewestLines_36 (by decide) ?_
      refine xi_iand (v := (shr w1 c.2.2) &&& (1 : Int32)) dX10_fewestLines_37 rfl ?_
      obtain ⟨v11, t12, m13, hs⟩ := bnd_some hs
      have key14 : xW G mX10_fewestLines (xrm 1 0 0) (xQ G (PQ r0 t0 Gb) 0 0) 55 [(0, .ref x0), (1, .int w1), (2, .int w2), (3, .int v11.1), (4, .int v11.2), (5, .int c.2.2)] [] (mem t12 Gb) 0 0 := by
        refine xi_iinc (v := (c.2.2 + 1)) (lv' := [(5, .int (c.2.2 + 1)), (0, .ref x0), (1, .int w1), (2, .int w2), (3, .int v11.1), (4, .int v11.2)]) 5 dX10_fewestLines_55 rfl rfl (by decide) rfl ?_
        refine xi_goto (tgt := 9) dX10_fewestLines_58 (by decide) ?_
        refine xi_sub (lv' := [(0, .ref x0), (1, .int w1), (2, .int w2), (3, .int v11.1), (4, .int v11.2), (5, .int (c.2.2 + 1))]) [1, 2, 3, 4, 5, 0] rfl ?_
        obtain ⟨rfl, rfl⟩ := some_pair hs
        exact ih (v11.1, v11.2, (c.2.2 + 1)) t12 _ _ h HE
      refine xi_if_eq (tgt := 55) dX10_fewestLines_38 (by decide) (fun c10 => ?_) (fun c10 => ?_)
      · replace m13 := ite_p c10 m13
        obtain ⟨rfl, rfl⟩ := some_pair m13
        refine xi_sub (lv' := [(0, .ref x0), (1, .int w1), (2, .int w2), (3, .int c.1), (4, .int c.2.1), (5, .int c.2.2)]) [1, 2, 3, 4, 5, 6] rfl ?_
        exact key14
      · replace m13 := ite_n c10 m13
        refine xi_iload 0 dX10_fewestLines_41 rfl ?_
        refine xi_iload 5 dX10_fewestLines_43 rfl ?_
        refine xi_icmp_ge (tgt := 55) dX10_fewestLines_45 (by decide) (fun c15 => ?_) (fun c15 => ?_)
        · replace m13 := ite_p c15 m13
          obtain ⟨rfl, rfl⟩ := some_pair m13
          refine xi_sub (lv' := [(0, .ref x0), (1, .int w1), (2, .int w2), (3, .int c.1), (4, .int c.2.1), (5, .int c.2.2)]) [1, 2, 3, 4, 5, 6] rfl ?_
          exact key14
        · replace m13 := ite_n c15 m13
          refine xi_iload 6 dX10_fewestLines_48 rfl ?_
          refine xi_istore_n (lv' := [(3, .int c.2.2), (6, .int v7), (0, .ref x0), (1, .int w1), (2, .int w2), (4, .int c.2.1), (5, .int c.2.2)]) dX10_fewestLines_50 (by decide) rfl ?_
          refine xi_iload 1 dX10_fewestLines_51 rfl ?_
          refine xi_istore (lv' := [(4, .int v7), (3, .int c.2.2), (6, .int v7), (0, .ref x0), (1, .int w1), (2, .int w2), (5, .int c.2.2)]) dX10_fewestLines_53 (by decide) rfl ?_
          obtain ⟨rfl, rfl⟩ := some_pair m13
          refine xi_sub (lv' := [(0, .ref x0), (1, .int w1), (2, .int w2), (3, .int c.2.2), (4, .int v7), (5, .int c.2.2)]) [3, 4, 5, 1, 0, 6] rfl ?_
          exact key14
noncomputable def FX10_fewestLines (x : Nat) (a : Int32) (b : Int32) (σ : St) : Option ((Int32) × St) :=
  (chk (netAt x) (bnd (wh (SX10_fewestLines_9 x a b) ((-1 : Int32), (9 : Int32), (0 : Int32)) σ) (fun e16 t17 => (some (e16, t17)))))
set_option maxHeartbeats 4000000 in
set_option maxRecDepth 100000 in
theorem KX10_fewestLines (G : xG) (Gb : xMem) (x : Nat) (a : Int32) (b : Int32) (σ : St) (r0 : Int32) (t0 : St) (hq : FX10_fewestLines x a b σ = some (r0, t0)) : xC G mX10_fewestLines 1 0 0 [.ref x, .int a, .int b] (mem σ Gb) (PQ r0 t0 Gb) := by
  unfold FX10_fewestLines at hq
  refine xC.of (by decide) (Nat.le_of_ble_eq_true rfl) ?_
  show xW _ _ _ _ 0 [(0, .ref x), (1, .int a), (2, .int b)] [] _ 0 0
  obtain ⟨g_x, hq⟩ := chk_some hq
  refine xi_iconst (v := (-1)) dX10_fewestLines_0 (by decide) ?_
  refine xi_istore_n (lv' := [(3, .int (-1)), (0, .ref x), (1, .int a), (2, .int b)]) dX10_fewestLines_1 (by decide) rfl ?_
  refine xi_bipush (v := 9) dX10_fewestLines_2 (by decide) ?_
  refine xi_istore (lv' := [(4, .int 9), (3, .int (-1)), (0, .ref x), (1, .int a), (2, .int b)]) dX10_fewestLines_4 (by decide) rfl ?_
  refine xi_iconst (v := 0) dX10_fewestLines_6 (by decide) ?_
  refine xi_istore (lv' := [(5, .int 0), (4, .int 9), (3, .int (-1)), (0, .ref x), (1, .int a), (2, .int b)]) dX10_fewestLines_7 (by decide) rfl ?_
  refine xi_sub (lv' := [(0, .ref x), (1, .int a), (2, .int b), (3, .int (-1)), (4, .int 9), (5, .int 0)]) [3, 4, 5, 2, 1, 0] rfl ?_
  obtain ⟨e16, t17, k18, hq⟩ := bnd_some hq
  obtain ⟨n19, k18⟩ := wh_itr k18
  refine SX10_fewestLines_9_w G Gb x a b g_x r0 t0 n19 ((-1 : Int32), (9 : Int32), (0 : Int32)) σ _ _ k18 ?_
  show xW G mX10_fewestLines (xrm 1 0 0) (xQ G (PQ r0 t0 Gb) 0 0) 61 [(3, .int e16)] [] (mem t17 Gb) 0 0
  refine xi_iload_n 0 dX10_fewestLines_61 rfl ?_
  have r20 := some_pair hq
  obtain ⟨rfl, rfl⟩ := r20
  exact xi_iret dX10_fewestLines_62 rfl rfl (Nat.le_of_ble_eq_true rfl) (Nat.le_of_ble_eq_true rfl) ⟨rfl, rfl⟩
noncomputable def SX10_core_9 (x0 : Nat) (c : Int32 × Int32 × Int32) (σ : St) : Option (((Int32 × Int32 × Int32) ⊕ ((Int32) ⊕ (Int32))) × St) :=
  (rdb σ x0 (0) (fun v4 => (if v4 ≤ c.2.2 then (some (Sum.inr (Sum.inr c.2.1), σ)) else (bnd (FX10_fewestLines x0 c.1 c.1 σ) (fun v7 t8 => (if v7 = (-1 : Int32) then (some (Sum.inr (Sum.inl c.2.1), t8)) else (chk (inb v7 9) (rdb t8 (x0 + 1) (v7.toNatClampNeg) (fun v12 => (bnd (FJ6_bitCount_0f7a4 (v12 &&& c.1) t8) (fun v14 t15 => (some (Sum.inl ((c.1 &&& ((shl (1 : Int32) v7) ^^^ (-1 : Int32))), (mxI c.2.1 v14), (c.2.2 + 1)), t15)))))))))))))
set_option maxHeartbeats 4000000 in
set_option maxRecDepth 100000 in
theorem SX10_core_9_w (G : xG) (Gb : xMem) (x0 : Nat) (g0x : netAt x0 = true) (r0 : Int32) (t0 : St) :
    ∀ (k : Nat) (c : Int32 × Int32 × Int32) (σ : St) (r : (Int32) ⊕ (Int32)) (σ' : St), itr (SX10_core_9 x0) k c σ = some (r, σ') → (Sum.elim (fun v => v = r0 ∧ σ' = t0) (fun e => xW G mX10_core (xrm 2 0 0) (xQ G (PQ r0 t0 Gb) 0 0) 65 [(2, .int e)] [] (mem σ' Gb) 0 0) r) → xW G mX10_core (xrm 2 0 0) (xQ G (PQ r0 t0 Gb) 0 0) 9 [(0, .ref x0), (1, .int c.1), (2, .int c.2.1), (3, .int c.2.2)] [] (mem σ Gb) 0 0 := by
  intro k
  induction k with
  | zero =>
    intro c σ r σ' h
    exact absurd h (itr_zero _ _ _ _)
  | succ k ih =>
    intro c σ r σ' h HE
    obtain ⟨x, s1, hs, h⟩ := itr_succ h
    unfold SX10_core_9 at hs
    refine xi_iload_n 3 dX10_core_9 rfl ?_
    refine xi_aload_n 0 dX10_core_10 rfl ?_
    obtain ⟨v4, h5, hs⟩ := rdb_some hs
    refine yi_getV (f := 0) dX10_core_11 (netAt_0 g0x) rfl ok_5 (by decide) w_62 rfl h5 ?_
    refine xi_icmp_ge (tgt := 65) dX10_core_14 (by decide) (fun c6 => ?_) (fun c6 => ?_)
    · replace hs := ite_p c6 hs
      refine xi_sub (lv' := [(2, .int c.2.1)]) [2] rfl ?_
      obtain ⟨rfl, rfl⟩ := some_pair hs
      obtain ⟨rfl, rfl⟩ := some_pair h
      exact HE
    · replace hs := ite_n c6 hs
      refine xi_aload_n 0 dX10_core_17 rfl ?_
      refine xi_iload_n 1 dX10_core_18 rfl ?_
      refine xi_iload_n 1 dX10_core_19 rfl ?_
      obtain ⟨v7, t8, k9, hs⟩ := bnd_some hs
      refine xi_callS (as := [.ref x0, .int c.1, .int c.1]) (rest := []) dX10_core_20 (KX10_fewestLines G Gb x0 c.1 c.1 _ _ _ k9) mkX10_fewestLines w_534 w_533 rfl rfl (Nat.le_of_ble_eq_true rfl) (Nat.le_of_ble_eq_true rfl) (Nat.le_of_ble_eq_true rfl) (Nat.le_of_ble_eq_true rfl) (Nat.le_of_ble_eq_true rfl) ?_
      intro v M2 hz
      obtain ⟨rfl, rfl⟩ := hz
      show xW _ _ _ _ 23 _ [.int v7] (mem t8 Gb) _ _
      refine xi_istore (lv' := [(4, .int v7), (0, .ref x0), (1, .int c.1), (2, .int c.2.1), (3, .int c.2.2)]) dX10_core_23 (by decide) rfl ?_
      refine xi_iload 0 dX10_core_25 rfl ?_
      refine xi_iconst (v := (-1)) dX10_core_27 (by decide) ?_
      refine xi_icmp_ne (tgt := 33) dX10_core_28 (by decide) (fun c10 => ?_) (fun c10 => ?_)
      · replace hs := ite_n c10 hs
        refine xi_iload_n 3 dX10_core_33 rfl ?_
        refine xi_aload_n 1 dX10_core_34 rfl ?_
        refine yi_getR (f := 2) dX10_core_35 (netAt_0 g0x) rfl ok_5 (by decide) w_73 rfl ?_
        refine xi_iload 0 dX10_core_38 rfl ?_
        obtain ⟨g11, hs⟩ := chk_some hs
        obtain ⟨v12, h13, hs⟩ := rdb_some hs
        refine yi_ialoadV dX10_core_40 (netAt_1 g0x) g11 h13 ?_
        refine xi_iload_n 2 dX10_core_41 rfl ?_
        refine xi_iand (v := v12 &&& c.1) dX10_core_42 rfl ?_
        obtain ⟨v14, t15, k16, hs⟩ := bnd_some hs
        refine xi_callS (as := [.int (v12 &&& c.1)]) (rest := [.int c.2.1]) dX10_core_43 (KJ6_bitCount_0f7a4 G Gb (v12 &&& c.1) _ _ _ k16) mkJ6_bitCount_0f7a4 w_508 w_536 rfl rfl (Nat.le_of_ble_eq_true rfl) (Nat.le_of_ble_eq_true rfl) (Nat.le_of_ble_eq_true rfl) (Nat.le_of_ble_eq_true rfl) (Nat.le_of_ble_eq_true rfl) ?_
        intro v M2 hz
        obtain ⟨rfl, rfl⟩ := hz
        show xW _ _ _ _ 46 _ [.int v14, .int c.2.1] (mem t15 Gb) _ _
        refine xi_max (v := (mxI c.2.1 v14)) dX10_core_46 w_513 w_37 w_3 w_mmax (Nat.le_of_ble_eq_true rfl) (Nat.le_of_ble_eq_true rfl) (Nat.le_of_ble_eq_true rfl) (Nat.le_of_ble_eq_true rfl) (Nat.le_of_ble_eq_true rfl) rfl ?_
        refine xi_istore_n (lv' := [(2, .int (mxI c.2.1 v14)), (4, .int v7), (0, .ref x0), (1, .int c.1), (3, .int c.2.2)]) dX10_core_49 (by decide) rfl ?_
        refine xi_iload_n 3 dX10_core_50 rfl ?_
        refine xi_iconst (v := 1) dX10_core_51 (by decide) ?_
        refine xi_iload 1 dX10_core_52 rfl ?_
        refine xi_ishl (v := shl (1 : Int32) v7) dX10_core_54 rfl ?_
        refine xi_iconst (v := (-1)) dX10_core_55 (by decide) ?_
        refine xi_ixor (v := (shl (1 : Int32) v7) ^^^ (-1 : Int32)) dX10_core_56 rfl ?_
        refine xi_iand (v := c.1 &&& ((shl (1 : Int32) v7) ^^^ (-1 : Int32))) dX10_core_57 rfl ?_
        refine xi_istore_n (lv' := [(1, .int (c.1 &&& ((shl (1 : Int32) v7) ^^^ (-1 : Int32)))), (2, .int (mxI c.2.1 v14)), (4, .int v7), (0, .ref x0), (3, .int c.2.2)]) dX10_core_58 (by decide) rfl ?_
        refine xi_iinc (v := (c.2.2 + 1)) (lv' := [(3, .int (c.2.2 + 1)), (1, .int (c.1 &&& ((shl (1 : Int32) v7) ^^^ (-1 : Int32)))), (2, .int (mxI c.2.1 v14)), (4, .int v7), (0, .ref x0)]) 4 dX10_core_59 rfl rfl (by decide) rfl ?_
        refine xi_goto (tgt := 9) dX10_core_62 (by decide) ?_
        refine xi_sub (lv' := [(0, .ref x0), (1, .int (c.1 &&& ((shl (1 : Int32) v7) ^^^ (-1 : Int32)))), (2, .int (mxI c.2.1 v14)), (3, .int (c.2.2 + 1))]) [4, 1, 2, 0] rfl ?_
        obtain ⟨rfl, rfl⟩ := some_pair hs
        exact ih ((c.1 &&& ((shl (1 : Int32) v7) ^^^ (-1 : Int32))), (mxI c.2.1 v14), (c.2.2 + 1)) t15 _ _ h HE
      · replace hs := ite_p c10 hs
        refine xi_iload_n 3 dX10_core_31 rfl ?_
        obtain ⟨rfl, rfl⟩ := some_pair hs
        obtain ⟨rfl, rfl⟩ := some_pair h
        have r17 := HE
        obtain ⟨rfl, rfl⟩ := r17
        exact xi_iret dX10_core_32 rfl rfl (Nat.le_of_ble_eq_true rfl) (Nat.le_of_ble_eq_true rfl) ⟨rfl, rfl⟩
noncomputable def FX10_core (x : Nat) (σ : St) : Option ((Int32) × St) :=
  (chk (netAt x) (bnd (FX5_allBits x σ) (fun v1 t2 => (bnd (wh (SX10_core_9 x) (v1, (0 : Int32), (0 : Int32)) t2) (fun e18 t19 => Sum.elim (fun e18 => (some (e18, t19))) (fun e18 => (some (e18, t19))) e18)))))
set_option maxHeartbeats 4000000 in
set_option maxRecDepth 100000 in
theorem KX10_core (G : xG) (Gb : xMem) (x : Nat) (σ : St) (r0 : Int32) (t0 : St) (hq : FX10_core x σ = some (r0, t0)) : xC G mX10_core 2 0 0 [.ref x] (mem σ Gb) (PQ r0 t0 Gb) := by
  unfold FX10_core at hq
  refine xC.of (by decide) (Nat.le_of_ble_eq_true rfl) ?_
  show xW _ _ _ _ 0 [(0, .ref x)] [] _ 0 0
  obtain ⟨g_x, hq⟩ := chk_some hq
  refine xi_aload_n 0 dX10_core_0 rfl ?_
  obtain ⟨v1, t2, k3, hq⟩ := bnd_some hq
  refine xi_callV (as := []) (rest := []) dX10_core_1 (KX5_allBits G Gb x _ _ _ k3) mkX5_allBits w_441 w_442 w_532 (mem_get (netAt_0 g_x)) rfl rfl rfl rfl (Nat.le_of_ble_eq_true rfl) (Nat.le_of_ble_eq_true rfl) (Nat.le_of_ble_eq_true rfl) (Nat.le_of_ble_eq_true rfl) (Nat.le_of_ble_eq_true rfl) ?_
  intro v M2 hz
  obtain ⟨rfl, rfl⟩ := hz
  show xW _ _ _ _ 4 _ [.int v1] (mem t2 Gb) _ _
  refine xi_istore_n (lv' := [(1, .int v1), (0, .ref x)]) dX10_core_4 (by decide) rfl ?_
  refine xi_iconst (v := 0) dX10_core_5 (by decide) ?_
  refine xi_istore_n (lv' := [(2, .int 0), (1, .int v1), (0, .ref x)]) dX10_core_6 (by decide) rfl ?_
  refine xi_iconst (v := 0) dX10_core_7 (by decide) ?_
  refine xi_istore_n (lv' := [(3, .int 0), (2, .int 0), (1, .int v1), (0, .ref x)]) dX10_core_8 (by decide) rfl ?_
  refine xi_sub (lv' := [(0, .ref x), (1, .int v1), (2, .int 0), (3, .int 0)]) [3, 2, 1, 0] rfl ?_
  obtain ⟨e18, t19, k20, hq⟩ := bnd_some hq
  obtain ⟨n21, k20⟩ := wh_itr k20
  refine SX10_core_9_w G Gb x g_x r0 t0 n21 (v1, (0 : Int32), (0 : Int32)) t2 _ _ k20 ?_
  rcases e18 with e18 | e18
  · replace hq := sel_l hq
    have r22 := some_pair hq
    exact r22
  · replace hq := sel_r hq
    show xW G mX10_core (xrm 2 0 0) (xQ G (PQ r0 t0 Gb) 0 0) 65 [(2, .int e18)] [] (mem t19 Gb) 0 0
    refine xi_iload_n 0 dX10_core_65 rfl ?_
    have r23 := some_pair hq
    obtain ⟨rfl, rfl⟩ := r23
    exact xi_iret dX10_core_66 rfl rfl (Nat.le_of_ble_eq_true rfl) (Nat.le_of_ble_eq_true rfl) ⟨rfl, rfl⟩
noncomputable def SX10_distance_7 (x0 : Nat) (w2 : Int32) (c : Int32 × Int32) (σ : St) : Option (((Int32 × Int32) ⊕ ((Int32) ⊕ (Unit))) × St) :=
  (rdb σ x0 (0) (fun v1 => (if v1 ≤ c.2 then (some (Sum.inr (Sum.inr ()), σ)) else (if ((shr c.1 w2) &&& (1 : Int32)) = (0 : Int32) then (bnd (FX10_grown x0 c.1 σ) (fun v5 t6 => (some (Sum.inl (v5, (c.2 + 1)), t6)))) else (some (Sum.inr (Sum.inl c.2), σ))))))
set_option maxHeartbeats 4000000 in
set_option maxRecDepth 100000 in
theorem SX10_distance_7_w (G : xG) (Gb : xMem) (x0 : Nat) (w2 : Int32) (g0x : netAt x0 = true) (r0 : Int32) (t0 : St) :
    ∀ (k : Nat) (c : Int32 × Int32) (σ : St) (r : (Int32) ⊕ (Unit)) (σ' : St), itr (SX10_distance_7 x0 w2) k c σ = some (r, σ') → (Sum.elim (fun v => v = r0 ∧ σ' = t0) (fun e => xW G mX10_distance (xrm 1 0 0) (xQ G (PQ r0 t0 Gb) 0 0) 39 [] [] (mem σ' Gb) 0 0) r) → xW G mX10_distance (xrm 1 0 0) (xQ G (PQ r0 t0 Gb) 0 0) 7 [(0, .ref x0), (2, .int w2), (3, .int c.1), (4, .int c.2)] [] (mem σ Gb) 0 0 := by
  intro k
  induction k with
  | zero =>
    intro c σ r σ' h
    exact absurd h (itr_zero _ _ _ _)
  | succ k ih =>
    intro c σ r σ' h HE
    obtain ⟨x, s1, hs, h⟩ := itr_succ h
    unfold SX10_distance_7 at hs
    refine xi_iload 3 dX10_distance_7 rfl ?_
    refine xi_aload_n 0 dX10_distance_9 rfl ?_
    obtain ⟨v1, h2, hs⟩ := rdb_some hs
    refine yi_getV (f := 0) dX10_distance_10 (netAt_0 g0x) rfl ok_5 (by decide) w_62 rfl h2 ?_
    refine xi_icmp_ge (tgt := 39) dX10_distance_13 (by decide) (fun c3 => ?_) (fun c3 => ?_)
    · replace hs := ite_p c3 hs
      refine xi_sub (lv' := []) [] rfl ?_
      obtain ⟨rfl, rfl⟩ := some_pair hs
      obtain ⟨rfl, rfl⟩ := some_pair h
      exact HE
    · replace hs := ite_n c3 hs
      refine xi_iload_n 2 dX10_distance_16 rfl ?_
      refine xi_iload_n 1 dX10_distance_17 rfl ?_
      refine xi_ishr (v := shr c.1 w2) dX10_distance_18 rfl ?_
      refine xi_iconst (v := 1) dX10_distance_19 (by decide) ?_
      refine xi_iand (v := (shr c.1 w2) &&& (1 : Int32)) dX10_distance_20 rfl ?_
      refine xi_if_eq (tgt := 27) dX10_distance_21 (by decide) (fun c4 => ?_) (fun c4 => ?_)
      · replace hs := ite_p c4 hs
        refine xi_aload_n 0 dX10_distance_27 rfl ?_
        refine xi_iload_n 2 dX10_distance_28 rfl ?_
        obtain ⟨v5, t6, k7, hs⟩ := bnd_some hs
        refine xi_callS (as := [.ref x0, .int c.1]) (rest := []) dX10_distance_29 (KX10_grown G Gb x0 c.1 _ _ _ k7) mkX10_grown w_521 w_520 rfl rfl (Nat.le_of_ble_eq_true rfl) (Nat.le_of_ble_eq_true rfl) (Nat.le_of_ble_eq_true rfl) (Nat.le_of_ble_eq_true rfl) (Nat.le_of_ble_eq_true rfl) ?_
        intro v M2 hz
        obtain ⟨rfl, rfl⟩ := hz
        show xW _ _ _ _ 32 _ [.int v5] (mem t6 Gb) _ _
        refine xi_istore_n (lv' := [(3, .int v5), (0, .ref x0), (2, .int w2), (4, .int c.2)]) dX10_distance_32 (by decide) rfl ?_
        refine xi_iinc (v := (c.2 + 1)) (lv' := [(4, .int (c.2 + 1)), (3, .int v5), (0, .ref x0), (2, .int w2)]) 3 dX10_distance_33 rfl rfl (by decide) rfl ?_
        refine xi_goto (tgt := 7) dX10_distance_36 (by decide) ?_
        refine xi_sub (lv' := [(0, .ref x0), (2, .int w2), (3, .int v5), (4, .int (c.2 + 1))]) [2, 3, 1, 0] rfl ?_
        obtain ⟨rfl, rfl⟩ := some_pair hs
        exact ih (v5, (c.2 + 1)) t6 _ _ h HE
      · replace hs := ite_n c4 hs
        refine xi_iload 3 dX10_distance_24 rfl ?_
        obtain ⟨rfl, rfl⟩ := some_pair hs
        obtain ⟨rfl, rfl⟩ := some_pair h
        have r8 := HE
        obtain ⟨rfl, rfl⟩ := r8
        exact xi_iret dX10_distance_26 rfl rfl (Nat.le_of_ble_eq_true rfl) (Nat.le_of_ble_eq_true rfl) ⟨rfl, rfl⟩
noncomputable def FX10_distance (x : Nat) (a : Int32) (b : Int32) (σ : St) : Option ((Int32) × St) :=
  (chk (netAt x) (bnd (wh (SX10_distance_7 x b) ((shl (1 : Int32) a), (0 : Int32)) σ) (fun e9 t10 => Sum.elim (fun e9 => (some (e9, t10))) (fun e9 => (some ((-1 : Int32), t10))) e9)))
set_option maxHeartbeats 4000000 in
set_option maxRecDepth 100000 in
theorem KX10_distance (G : xG) (Gb : xMem) (x : Nat) (a : Int32) (b : Int32) (σ : St) (r0 : Int32) (t0 : St) (hq : FX10_distance x a b σ = some (r0, t0)) : xC G mX10_distance 1 0 0 [.ref x, .int a, .int b] (mem σ Gb) (PQ r0 t0 Gb) := by
  unfold FX10_distance at hq
  refine xC.of (by decide) (Nat.le_of_ble_eq_true rfl) ?_
  show xW _ _ _ _ 0 [(0, .ref x), (1, .int a), (2, .int b)] [] _ 0 0
  obtain ⟨g_x, hq⟩ := chk_some hq
  refine xi_iconst (v := 1) dX10_distance_0 (by decide) ?_
  refine xi_iload_n 1 dX10_distance_1 rfl ?_
  refine xi_ishl (v := shl (1 : Int32) a) dX10_distance_2 rfl ?_
  refine xi_istore_n (lv' := [(3, .int (shl (1 : Int32) a)), (0, .ref x), (1, .int a), (2, .int b)]) dX10_distance_3 (by decide) rfl ?_
  refine xi_iconst (v := 0) dX10_distance_4 (by decide) ?_
  refine xi_istore (lv' := [(4, .int 0), (3, .int (shl (1 : Int32) a)), (0, .ref x), (1, .int a), (2, .int b)]) dX10_distance_5 (by decide) rfl ?_
  refine xi_sub (lv' := [(0, .ref x), (2, .int b), (3, .int (shl (1 : Int32) a)), (4, .int 0)]) [2, 4, 1, 0] rfl ?_
  obtain ⟨e9, t10, k11, hq⟩ := bnd_some hq
  obtain ⟨n12, k11⟩ := wh_itr k11
  refine SX10_distance_7_w G Gb x b g_x r0 t0 n12 ((shl (1 : Int32) a), (0 : Int32)) σ _ _ k11 ?_
  rcases e9 with e9 | e9
  · replace hq := sel_l hq
    have r13 := some_pair hq
    exact r13
  · replace hq := sel_r hq
    show xW G mX10_distance (xrm 1 0 0) (xQ G (PQ r0 t0 Gb) 0 0) 39 [] [] (mem t10 Gb) 0 0
    refine xi_iconst (v := (-1)) dX10_distance_39 (by decide) ?_
    have r14 := some_pair hq
    obtain ⟨rfl, rfl⟩ := r14
    exact xi_iret dX10_distance_40 rfl rfl (Nat.le_of_ble_eq_true rfl) (Nat.le_of_ble_eq_true rfl) ⟨rfl, rfl⟩
noncomputable def SX10_diameter_14 (x0 : Nat) (w2 : Int32) (c : Int32 × Int32) (σ : St) : Option (((Int32 × Int32) ⊕ ((Int32) ⊕ (Int32))) × St) :=
  (if w2 ≤ c.2 then (some (Sum.inr (Sum.inr c.1), σ)) else (bnd (FX10_distance x0 w2 c.2 σ) (fun v5 t6 => (if v5 = (-1 : Int32) then (some (Sum.inr (Sum.inl (-1 : Int32)), t6)) else (some (Sum.inl ((mxI c.1 v5), (c.2 + 1)), t6))))))
noncomputable def SX10_diameter_4 (x0 : Nat) (c : Int32 × Int32) (σ : St) : Option (((Int32 × Int32) ⊕ ((Int32) ⊕ (Int32))) × St) :=
  (rdb σ x0 (0) (fun v1 => (if v1 ≤ c.2 then (some (Sum.inr (Sum.inr c.1), σ)) else (bnd (wh (SX10_diameter_14 x0 c.2) (c.1, (0 : Int32)) σ) (fun e10 t11 => Sum.elim (fun e10 => (some (Sum.inr (Sum.inl e10), t11))) (fun e10 => (some (Sum.inl (e10, (c.2 + 1)), t11))) e10)))))
set_option maxHeartbeats 4000000 in
set_option maxRecDepth 100000 in
theorem SX10_diameter_14_w (G : xG) (Gb : xMem) (x0 : Nat) (w2 : Int32) (g0x : netAt x0 = true) (r0 : Int32) (t0 : St) :
    ∀ (k : Nat) (c : Int32 × Int32) (σ : St) (r : (Int32) ⊕ (Int32)) (σ' : St), itr (SX10_diameter_14 x0 w2) k c σ = some (r, σ') → (Sum.elim (fun v => v = r0 ∧ σ' = t0) (fun e => xW G mX10_diameter (xrm 2 0 0) (xQ G (PQ r0 t0 Gb) 0 0) 48 [(0, .ref x0), (1, .int e), (2, .int w2)] [] (mem σ' Gb) 0 0) r) → xW G mX10_diameter (xrm 2 0 0) (xQ G (PQ r0 t0 Gb) 0 0) 14 [(0, .ref x0), (1, .int c.1), (2, .int w2), (3, .int c.2)] [] (mem σ Gb) 0 0 := by
  intro k
  induction k with
  | zero =>
    intro c σ r σ' h
    exact absurd h (itr_zero _ _ _ _)
  | succ k ih =>
    intro c σ r σ' h HE
    obtain ⟨x, s1, hs, h⟩ := itr_succ h
    unfold SX10_diameter_14 at hs
    refine xi_iload_n 3 dX10_diameter_14 rfl ?_
    refine xi_iload_n 2 dX10_diameter_15 rfl ?_
    refine xi_icmp_ge (tgt := 48) dX10_diameter_16 (by decide) (fun c4 => ?_) (fun c4 => ?_)
    · replace hs := ite_p c4 hs
      refine xi_sub (lv' := [(0, .ref x0), (1, .int c.1), (2, .int w2)]) [0, 1, 2] rfl ?_
      obtain ⟨rfl, rfl⟩ := some_pair hs
      obtain ⟨rfl, rfl⟩ := some_pair h
      exact HE
    · replace hs := ite_n c4 hs
      refine xi_aload_n 0 dX10_diameter_19 rfl ?_
      refine xi_iload_n 2 dX10_diameter_20 rfl ?_
      refine xi_iload_n 3 dX10_diameter_21 rfl ?_
      obtain ⟨v5, t6, k7, hs⟩ := bnd_some hs
      refine xi_callS (as := [.ref x0, .int w2, .int c.2]) (rest := []) dX10_diameter_22 (KX10_distance G Gb x0 w2 c.2 _ _ _ k7) mkX10_distance w_527 w_526 rfl rfl (Nat.le_of_ble_eq_true rfl) (Nat.le_of_ble_eq_true rfl) (Nat.le_of_ble_eq_true rfl) (Nat.le_of_ble_eq_true rfl) (Nat.le_of_ble_eq_true rfl) ?_
      intro v M2 hz
      obtain ⟨rfl, rfl⟩ := hz
      show xW _ _ _ _ 25 _ [.int v5] (mem t6 Gb) _ _
      refine xi_istore (lv' := [(4, .int v5), (0, .ref x0), (1, .int c.1), (2, .int w2), (3, .int c.2)]) dX10_diameter_25 (by decide) rfl ?_
      refine xi_iload 0 dX10_diameter_27 rfl ?_
      refine xi_iconst (v := (-1)) dX10_diameter_29 (by decide) ?_
      refine xi_icmp_ne (tgt := 35) dX10_diameter_30 (by decide) (fun c8 => ?_) (fun c8 => ?_)
      · replace hs := ite_n c8 hs
        refine xi_iload_n 2 dX10_diameter_35 rfl ?_
        refine xi_iload 0 dX10_diameter_36 rfl ?_
        refine xi_max (v := (mxI c.1 v5)) dX10_diameter_38 w_513 w_37 w_3 w_mmax (Nat.le_of_ble_eq_true rfl) (Nat.le_of_ble_eq_true rfl) (Nat.le_of_ble_eq_true rfl) (Nat.le_of_ble_eq_true rfl) (Nat.le_of_ble_eq_true rfl) rfl ?_
        refine xi_istore_n (lv' := [(1, .int (mxI c.1 v5)), (4, .int v5), (0, .ref x0), (2, .int w2), (3, .int c.2)]) dX10_diameter_41 (by decide) rfl ?_
        refine xi_iinc (v := (c.2 + 1)) (lv' := [(3, .int (c.2 + 1)), (1, .int (mxI c.1 v5)), (4, .int v5), (0, .ref x0), (2, .int w2)]) 4 dX10_diameter_42 rfl rfl (by decide) rfl ?_
        refine xi_goto (tgt := 14) dX10_diameter_45 (by decide) ?_
        refine xi_sub (lv' := [(0, .ref x0), (1, .int (mxI c.1 v5)), (2, .int w2), (3, .int (c.2 + 1))]) [3, 1, 4, 0] rfl ?_
        obtain ⟨rfl, rfl⟩ := some_pair hs
        exact ih ((mxI c.1 v5), (c.2 + 1)) t6 _ _ h HE
      · replace hs := ite_p c8 hs
        refine xi_iconst (v := (-1)) dX10_diameter_33 (by decide) ?_
        obtain ⟨rfl, rfl⟩ := some_pair hs
        obtain ⟨rfl, rfl⟩ := some_pair h
        have r9 := HE
        obtain ⟨rfl, rfl⟩ := r9
        exact xi_iret dX10_diameter_34 rfl rfl (Nat.le_of_ble_eq_true rfl) (Nat.le_of_ble_eq_true rfl) ⟨rfl, rfl⟩
set_option maxHeartbeats 4000000 in
set_option maxRecDepth 100000 in
theorem SX10_diameter_4_w (G : xG) (Gb : xMem) (x0 : Nat) (g0x : netAt x0 = true) (r0 : Int32) (t0 : St) :
    ∀ (k : Nat) (c : Int32 × Int32) (σ : St) (r : (Int32) ⊕ (Int32)) (σ' : St), itr (SX10_diameter_4 x0) k c σ = some (r, σ') → (Sum.elim (fun v => v = r0 ∧ σ' = t0) (fun e => xW G mX10_diameter (xrm 2 0 0) (xQ G (PQ r0 t0 Gb) 0 0) 54 [(1, .int e)] [] (mem σ' Gb) 0 0) r) → xW G mX10_diameter (xrm 2 0 0) (xQ G (PQ r0 t0 Gb) 0 0) 4 [(0, .ref x0), (1, .int c.1), (2, .int c.2)] [] (mem σ Gb) 0 0 := by
  intro k
  induction k with
  | zero =>
    intro c σ r σ' h
    exact absurd h (itr_zero _ _ _ _)
  | succ k ih =>
    intro c σ r σ' h HE
    obtain ⟨x, s1, hs, h⟩ := itr_succ h
    unfold SX10_diameter_4 at hs
    refine xi_iload_n 2 dX10_diameter_4 rfl ?_
    refine xi_aload_n 0 dX10_diameter_5 rfl ?_
    obtain ⟨v1, h2, hs⟩ := rdb_some hs
    refine yi_getV (f := 0) dX10_diameter_6 (netAt_0 g0x) rfl ok_5 (by decide) w_62 rfl h2 ?_
    refine xi_icmp_ge (tgt := 54) dX10_diameter_9 (by decide) (fun c3 => ?_) (fun c3 => ?_)
    · replace hs := ite_p c3 hs
      refine xi_sub (lv' := [(1, .int c.1)]) [1] rfl ?_
      obtain ⟨rfl, rfl⟩ := some_pair hs
      obtain ⟨rfl, rfl⟩ := some_pair h
      exact HE
    · replace hs := ite_n c3 hs
      refine xi_iconst (v := 0) dX10_diameter_12 (by decide) ?_
      refine xi_istore_n (lv' := [(3, .int 0), (0, .ref x0), (1, .int c.1), (2, .int c.2)]) dX10_diameter_13 (by decide) rfl ?_
      refine xi_sub (lv' := [(0, .ref x0), (1, .int c.1), (2, .int c.2), (3, .int 0)]) [1, 2, 3, 0] rfl ?_
      obtain ⟨e10, t11, k12, hs⟩ := bnd_some hs
      obtain ⟨n13, k12⟩ := wh_itr k12
      refine SX10_diameter_14_w G Gb x0 c.2 g0x r0 t0 n13 (c.1, (0 : Int32)) σ _ _ k12 ?_
      rcases e10 with e10 | e10
      · replace hs := sel_l hs
        obtain ⟨rfl, rfl⟩ := some_pair hs
        obtain ⟨rfl, rfl⟩ := some_pair h
        have r14 := HE
        exact r14
      · replace hs := sel_r hs
        show xW G mX10_diameter (xrm 2 0 0) (xQ G (PQ r0 t0 Gb) 0 0) 48 [(0, .ref x0), (1, .int e10), (2, .int c.2)] [] (mem t11 Gb) 0 0
        refine xi_iinc (v := (c.2 + 1)) (lv' := [(2, .int (c.2 + 1)), (0, .ref x0), (1, .int e10)]) 2 dX10_diameter_48 rfl rfl (by decide) rfl ?_
        refine xi_goto (tgt := 4) dX10_diameter_51 (by decide) ?_
        refine xi_sub (lv' := [(0, .ref x0), (1, .int e10), (2, .int (c.2 + 1))]) [1, 2, 0] rfl ?_
        obtain ⟨rfl, rfl⟩ := some_pair hs
        exact ih (e10, (c.2 + 1)) t11 _ _ h HE
noncomputable def FX10_diameter (x : Nat) (σ : St) : Option ((Int32) × St) :=
  (chk (netAt x) (bnd (wh (SX10_diameter_4 x) ((0 : Int32), (0 : Int32)) σ) (fun e15 t16 => Sum.elim (fun e15 => (some (e15, t16))) (fun e15 => (some (e15, t16))) e15)))
set_option maxHeartbeats 4000000 in
set_option maxRecDepth 100000 in
theorem KX10_diameter (G : xG) (Gb : xMem) (x : Nat) (σ : St) (r0 : Int32) (t0 : St) (hq : FX10_diameter x σ = some (r0, t0)) : xC G mX10_diameter 2 0 0 [.ref x] (mem σ Gb) (PQ r0 t0 Gb) := by
  unfold FX10_diameter at hq
  refine xC.of (by decide) (Nat.le_of_ble_eq_true rfl) ?_
  show xW _ _ _ _ 0 [(0, .ref x)] [] _ 0 0
  obtain ⟨g_x, hq⟩ := chk_some hq
  refine xi_iconst (v := 0) dX10_diameter_0 (by decide) ?_
  refine xi_istore_n (lv' := [(1, .int 0), (0, .ref x)]) dX10_diameter_1 (by decide) rfl ?_
  refine xi_iconst (v := 0) dX10_diameter_2 (by decide) ?_
  refine xi_istore_n (lv' := [(2, .int 0), (1, .int 0), (0, .ref x)]) dX10_diameter_3 (by decide) rfl ?_
  refine xi_sub (lv' := [(0, .ref x), (1, .int 0), (2, .int 0)]) [2, 1, 0] rfl ?_
  obtain ⟨e15, t16, k17, hq⟩ := bnd_some hq
  obtain ⟨n18, k17⟩ := wh_itr k17
  refine SX10_diameter_4_w G Gb x g_x r0 t0 n18 ((0 : Int32), (0 : Int32)) σ _ _ k17 ?_
  rcases e15 with e15 | e15
  · replace hq := sel_l hq
    have r19 := some_pair hq
    exact r19
  · replace hq := sel_r hq
    show xW G mX10_diameter (xrm 2 0 0) (xQ G (PQ r0 t0 Gb) 0 0) 54 [(1, .int e15)] [] (mem t16 Gb) 0 0
    refine xi_iload_n 0 dX10_diameter_54 rfl ?_
    have r20 := some_pair hq
    obtain ⟨rfl, rfl⟩ := r20
    exact xi_iret dX10_diameter_55 rfl rfl (Nat.le_of_ble_eq_true rfl) (Nat.le_of_ble_eq_true rfl) ⟨rfl, rfl⟩
noncomputable def SX10_mostLinesAtPoint_4 (x0 : Nat) (c : Int32 × Int32) (σ : St) : Option (((Int32 × Int32) ⊕ (Int32)) × St) :=
  (rdb σ x0 (0) (fun v1 => (if v1 ≤ c.2 then (some (Sum.inr c.1, σ)) else (bnd (FX5_lineCount x0 c.2 σ) (fun v4 t5 => (some (Sum.inl ((mxI c.1 v4), (c.2 + 1)), t5)))))))
set_option maxHeartbeats 4000000 in
set_option maxRecDepth 100000 in
theorem SX10_mostLinesAtPoint_4_w (G : xG) (Gb : xMem) (x0 : Nat) (g0x : netAt x0 = true) (r0 : Int32) (t0 : St) :
    ∀ (k : Nat) (c : Int32 × Int32) (σ : St) (r : Int32) (σ' : St), itr (SX10_mostLinesAtPoint_4 x0) k c σ = some (r, σ') → (xW G mX10_mostLinesAtPoint (xrm 2 0 0) (xQ G (PQ r0 t0 Gb) 0 0) 28 [(1, .int r)] [] (mem σ' Gb) 0 0) → xW G mX10_mostLinesAtPoint (xrm 2 0 0) (xQ G (PQ r0 t0 Gb) 0 0) 4 [(0, .ref x0), (1, .int c.1), (2, .int c.2)] [] (mem σ Gb) 0 0 := by
  intro k
  induction k with
  | zero =>
    intro c σ r σ' h
    exact absurd h (itr_zero _ _ _ _)
  | succ k ih =>
    intro c σ r σ' h HE
    obtain ⟨x, s1, hs, h⟩ := itr_succ h
    unfold SX10_mostLinesAtPoint_4 at hs
    refine xi_iload_n 2 dX10_mostLinesAtPoint_4 rfl ?_
    refine xi_aload_n 0 dX10_mostLinesAtPoint_5 rfl ?_
    obtain ⟨v1, h2, hs⟩ := rdb_some hs
    refine yi_getV (f := 0) dX10_mostLinesAtPoint_6 (netAt_0 g0x) rfl ok_5 (by decide) w_62 rfl h2 ?_
    refine xi_icmp_ge (tgt := 28) dX10_mostLinesAtPoint_9 (by decide) (fun c3 => ?_) (fun c3 => ?_)
    · replace hs := ite_p c3 hs
      refine xi_sub (lv' := [(1, .int c.1)]) [1] rfl ?_
      obtain ⟨rfl, rfl⟩ := some_pair hs
      obtain ⟨rfl, rfl⟩ := some_pair h
      exact HE
    · replace hs := ite_n c3 hs
      refine xi_iload_n 1 dX10_mostLinesAtPoint_12 rfl ?_
      refine xi_aload_n 0 dX10_mostLinesAtPoint_13 rfl ?_
      refine xi_iload_n 2 dX10_mostLinesAtPoint_14 rfl ?_
      obtain ⟨v4, t5, k6, hs⟩ := bnd_some hs
      refine xi_callV (as := [.int c.2]) (rest := [.int c.1]) dX10_mostLinesAtPoint_15 (KX5_lineCount G Gb x0 c.2 _ _ _ k6) mkX5_lineCount w_504 w_505 w_503 (mem_get (netAt_0 g0x)) rfl rfl rfl rfl (Nat.le_of_ble_eq_true rfl) (Nat.le_of_ble_eq_true rfl) (Nat.le_of_ble_eq_true rfl) (Nat.le_of_ble_eq_true rfl) (Nat.le_of_ble_eq_true rfl) ?_
      intro v M2 hz
      obtain ⟨rfl, rfl⟩ := hz
      show xW _ _ _ _ 18 _ [.int v4, .int c.1] (mem t5 Gb) _ _
      refine xi_max (v := (mxI c.1 v4)) dX10_mostLinesAtPoint_18 w_513 w_37 w_3 w_mmax (Nat.le_of_ble_eq_true rfl) (Nat.le_of_ble_eq_true rfl) (Nat.le_of_ble_eq_true rfl) (Nat.le_of_ble_eq_true rfl) (Nat.le_of_ble_eq_true rfl) rfl ?_
      refine xi_istore_n (lv' := [(1, .int (mxI c.1 v4)), (0, .ref x0), (2, .int c.2)]) dX10_mostLinesAtPoint_21 (by decide) rfl ?_
      refine xi_iinc (v := (c.2 + 1)) (lv' := [(2, .int (c.2 + 1)), (1, .int (mxI c.1 v4)), (0, .ref x0)]) 2 dX10_mostLinesAtPoint_22 rfl rfl (by decide) rfl ?_
      refine xi_goto (tgt := 4) dX10_mostLinesAtPoint_25 (by decide) ?_
      refine xi_sub (lv' := [(0, .ref x0), (1, .int (mxI c.1 v4)), (2, .int (c.2 + 1))]) [2, 1, 0] rfl ?_
      obtain ⟨rfl, rfl⟩ := some_pair hs
      exact ih ((mxI c.1 v4), (c.2 + 1)) t5 _ _ h HE
noncomputable def FX10_mostLinesAtPoint (x : Nat) (σ : St) : Option ((Int32) × St) :=
  (chk (netAt x) (bnd (wh (SX10_mostLinesAtPoint_4 x) ((0 : Int32), (0 : Int32)) σ) (fun e7 t8 => (some (e7, t8)))))
set_option maxHeartbeats 4000000 in
set_option maxRecDepth 100000 in
theorem KX10_mostLinesAtPoint (G : xG) (Gb : xMem) (x : Nat) (σ : St) (r0 : Int32) (t0 : St) (hq : FX10_mostLinesAtPoint x σ = some (r0, t0)) : xC G mX10_mostLinesAtPoint 2 0 0 [.ref x] (mem σ Gb) (PQ r0 t0 Gb) := by
  unfold FX10_mostLinesAtPoint at hq
  refine xC.of (by decide) (Nat.le_of_ble_eq_true rfl) ?_
  show xW _ _ _ _ 0 [(0, .ref x)] [] _ 0 0
  obtain ⟨g_x, hq⟩ := chk_some hq
  refine xi_iconst (v := 0) dX10_mostLinesAtPoint_0 (by decide) ?_
  refine xi_istore_n (lv' := [(1, .int 0), (0, .ref x)]) dX10_mostLinesAtPoint_1 (by decide) rfl ?_
  refine xi_iconst (v := 0) dX10_mostLinesAtPoint_2 (by decide) ?_
  refine xi_istore_n (lv' := [(2, .int 0), (1, .int 0), (0, .ref x)]) dX10_mostLinesAtPoint_3 (by decide) rfl ?_
  refine xi_sub (lv' := [(0, .ref x), (1, .int 0), (2, .int 0)]) [2, 1, 0] rfl ?_
  obtain ⟨e7, t8, k9, hq⟩ := bnd_some hq
  obtain ⟨n10, k9⟩ := wh_itr k9
  refine SX10_mostLinesAtPoint_4_w G Gb x g_x r0 t0 n10 ((0 : Int32), (0 : Int32)) σ _ _ k9 ?_
  show xW G mX10_mostLinesAtPoint (xrm 2 0 0) (xQ G (PQ r0 t0 Gb) 0 0) 28 [(1, .int e7)] [] (mem t8 Gb) 0 0
  refine xi_iload_n 0 dX10_mostLinesAtPoint_28 rfl ?_
  have r11 := some_pair hq
  obtain ⟨rfl, rfl⟩ := r11
  exact xi_iret dX10_mostLinesAtPoint_29 rfl rfl (Nat.le_of_ble_eq_true rfl) (Nat.le_of_ble_eq_true rfl) ⟨rfl, rfl⟩
noncomputable def SX10_weightAt_4 (x0 : Nat) (w1 : Int32) (c : Int32 × Int32) (σ : St) : Option (((Int32 × Int32) ⊕ (Int32)) × St) :=
  (rdb σ x0 (0) (fun v1 => (if v1 ≤ c.2 then (some (Sum.inr c.1, σ)) else (bnd (FX5_weightOf x0 w1 c.2 σ) (fun v4 t5 => (some (Sum.inl ((c.1 + v4), (c.2 + 1)), t5)))))))
set_option maxHeartbeats 4000000 in
set_option maxRecDepth 100000 in
theorem SX10_weightAt_4_w (G : xG) (Gb : xMem) (x0 : Nat) (w1 : Int32) (g0x : netAt x0 = true) (r0 : Int32) (t0 : St) :
    ∀ (k : Nat) (c : Int32 × Int32) (σ : St) (r : Int32) (σ' : St), itr (SX10_weightAt_4 x0 w1) k c σ = some (r, σ') → (xW G mX10_weightAt (xrm 1 0 0) (xQ G (PQ r0 t0 Gb) 0 0) 27 [(2, .int r)] [] (mem σ' Gb) 0 0) → xW G mX10_weightAt (xrm 1 0 0) (xQ G (PQ r0 t0 Gb) 0 0) 4 [(0, .ref x0), (1, .int w1), (2, .int c.1), (3, .int c.2)] [] (mem σ Gb) 0 0 := by
  intro k
  induction k with
  | zero =>
    intro c σ r σ' h
    exact absurd h (itr_zero _ _ _ _)
  | succ k ih =>
    intro c σ r σ' h HE
    obtain ⟨x, s1, hs, h⟩ := itr_succ h
    unfold SX10_weightAt_4 at hs
    refine xi_iload_n 3 dX10_weightAt_4 rfl ?_
    refine xi_aload_n 0 dX10_weightAt_5 rfl ?_
    obtain ⟨v1, h2, hs⟩ := rdb_some hs
    refine yi_getV (f := 0) dX10_weightAt_6 (netAt_0 g0x) rfl ok_5 (by decide) w_62 rfl h2 ?_
    refine xi_icmp_ge (tgt := 27) dX10_weightAt_9 (by decide) (fun c3 => ?_) (fun c3 => ?_)
    · replace hs := ite_p c3 hs
      refine xi_sub (lv' := [(2, .int c.1)]) [2] rfl ?_
      obtain ⟨rfl, rfl⟩ := some_pair hs
      obtain ⟨rfl, rfl⟩ := some_pair h
      exact HE
    · replace hs := ite_n c3 hs
      refine xi_iload_n 2 dX10_weightAt_12 rfl ?_
      refine xi_aload_n 0 dX10_weightAt_13 rfl ?_
      refine xi_iload_n 1 dX10_weightAt_14 rfl ?_
      refine xi_iload_n 3 dX10_weightAt_15 rfl ?_
      obtain ⟨v4, t5, k6, hs⟩ := bnd_some hs
      refine xi_callV (as := [.int w1, .int c.2]) (rest := [.int c.1]) dX10_weightAt_16 (KX5_weightOf G Gb x0 w1 c.2 _ _ _ k6) mkX5_weightOf w_415 w_416 w_499 (mem_get (netAt_0 g0x)) rfl rfl rfl rfl (Nat.le_of_ble_eq_true rfl) (Nat.le_of_ble_eq_true rfl) (Nat.le_of_ble_eq_true rfl) (Nat.le_of_ble_eq_true rfl) (Nat.le_of_ble_eq_true rfl) ?_
      intro v M2 hz
      obtain ⟨rfl, rfl⟩ := hz
      show xW _ _ _ _ 19 _ [.int v4, .int c.1] (mem t5 Gb) _ _
      refine xi_iadd (v := c.1 + v4) dX10_weightAt_19 rfl ?_
      refine xi_istore_n (lv' := [(2, .int (c.1 + v4)), (0, .ref x0), (1, .int w1), (3, .int c.2)]) dX10_weightAt_20 (by decide) rfl ?_
      refine xi_iinc (v := (c.2 + 1)) (lv' := [(3, .int (c.2 + 1)), (2, .int (c.1 + v4)), (0, .ref x0), (1, .int w1)]) 3 dX10_weightAt_21 rfl rfl (by decide) rfl ?_
      refine xi_goto (tgt := 4) dX10_weightAt_24 (by decide) ?_
      refine xi_sub (lv' := [(0, .ref x0), (1, .int w1), (2, .int (c.1 + v4)), (3, .int (c.2 + 1))]) [2, 3, 1, 0] rfl ?_
      obtain ⟨rfl, rfl⟩ := some_pair hs
      exact ih ((c.1 + v4), (c.2 + 1)) t5 _ _ h HE
noncomputable def FX10_weightAt (x : Nat) (a : Int32) (σ : St) : Option ((Int32) × St) :=
  (chk (netAt x) (bnd (wh (SX10_weightAt_4 x a) ((0 : Int32), (0 : Int32)) σ) (fun e7 t8 => (some (e7, t8)))))
set_option maxHeartbeats 4000000 in
set_option maxRecDepth 100000 in
theorem KX10_weightAt (G : xG) (Gb : xMem) (x : Nat) (a : Int32) (σ : St) (r0 : Int32) (t0 : St) (hq : FX10_weightAt x a σ = some (r0, t0)) : xC G mX10_weightAt 1 0 0 [.ref x, .int a] (mem σ Gb) (PQ r0 t0 Gb) := by
  unfold FX10_weightAt at hq
  refine xC.of (by decide) (Nat.le_of_ble_eq_true rfl) ?_
  show xW _ _ _ _ 0 [(0, .ref x), (1, .int a)] [] _ 0 0
  obtain ⟨g_x, hq⟩ := chk_some hq
  refine xi_iconst (v := 0) dX10_weightAt_0 (by decide) ?_
  refine xi_istore_n (lv' := [(2, .int 0), (0, .ref x), (1, .int a)]) dX10_weightAt_1 (by decide) rfl ?_
  refine xi_iconst (v := 0) dX10_weightAt_2 (by decide) ?_
  refine xi_istore_n (lv' := [(3, .int 0), (2, .int 0), (0, .ref x), (1, .int a)]) dX10_weightAt_3 (by decide) rfl ?_
  refine xi_sub (lv' := [(0, .ref x), (1, .int a), (2, .int 0), (3, .int 0)]) [2, 3, 1, 0] rfl ?_
  obtain ⟨e7, t8, k9, hq⟩ := bnd_some hq
  obtain ⟨n10, k9⟩ := wh_itr k9
  refine SX10_weightAt_4_w G Gb x a g_x r0 t0 n10 ((0 : Int32), (0 : Int32)) σ _ _ k9 ?_
  show xW G mX10_weightAt (xrm 1 0 0) (xQ G (PQ r0 t0 Gb) 0 0) 27 [(2, .int e7)] [] (mem t8 Gb) 0 0
  refine xi_iload_n 0 dX10_weightAt_27 rfl ?_
  have r11 := some_pair hq
  obtain ⟨rfl, rfl⟩ := r11
  exact xi_iret dX10_weightAt_28 rfl rfl (Nat.le_of_ble_eq_true rfl) (Nat.le_of_ble_eq_true rfl) ⟨rfl, rfl⟩
noncomputable def SX10_mostWeightAtPoint_4 (x0 : Nat) (c : Int32 × Int32) (σ : St) : Option (((Int32 × Int32) ⊕ (Int32)) × St) :=
  (rdb σ x0 (0) (fun v1 => (if v1 ≤ c.2 then (some (Sum.inr c.1, σ)) else (bnd (FX10_weightAt x0 c.2 σ) (fun v4 t5 => (some (Sum.inl ((mxI c.1 v4), (c.2 + 1)), t5)))))))
set_option maxHeartbeats 4000000 in
set_option maxRecDepth 100000 in
theorem SX10_mostWeightAtPoint_4_w (G : xG) (Gb : xMem) (x0 : Nat) (g0x : netAt x0 = true) (r0 : Int32) (t0 : St) :
    ∀ (k : Nat) (c : Int32 × Int32) (σ : St) (r : Int32) (σ' : St), itr (SX10_mostWeightAtPoint_4 x0) k c σ = some (r, σ') → (xW G mX10_mostWeightAtPoint (xrm 2 0 0) (xQ G (PQ r0 t0 Gb) 0 0) 28 [(1, .int r)] [] (mem σ' Gb) 0 0) → xW G mX10_mostWeightAtPoint (xrm 2 0 0) (xQ G (PQ r0 t0 Gb) 0 0) 4 [(0, .ref x0), (1, .int c.1), (2, .int c.2)] [] (mem σ Gb) 0 0 := by
  intro k
  induction k with
  | zero =>
    intro c σ r σ' h
    exact absurd h (itr_zero _ _ _ _)
  | succ k ih =>
    intro c σ r σ' h HE
    obtain ⟨x, s1, hs, h⟩ := itr_succ h
    unfold SX10_mostWeightAtPoint_4 at hs
    refine xi_iload_n 2 dX10_mostWeightAtPoint_4 rfl ?_
    refine xi_aload_n 0 dX10_mostWeightAtPoint_5 rfl ?_
    obtain ⟨v1, h2, hs⟩ := rdb_some hs
    refine yi_getV (f := 0) dX10_mostWeightAtPoint_6 (netAt_0 g0x) rfl ok_5 (by decide) w_62 rfl h2 ?_
    refine xi_icmp_ge (tgt := 28) dX10_mostWeightAtPoint_9 (by decide) (fun c3 => ?_) (fun c3 => ?_)
    · replace hs := ite_p c3 hs
      refine xi_sub (lv' := [(1, .int c.1)]) [1] rfl ?_
      obtain ⟨rfl, rfl⟩ := some_pair hs
      obtain ⟨rfl, rfl⟩ := some_pair h
      exact HE
    · replace hs := ite_n c3 hs
      refine xi_iload_n 1 dX10_mostWeightAtPoint_12 rfl ?_
      refine xi_aload_n 0 dX10_mostWeightAtPoint_13 rfl ?_
      refine xi_iload_n 2 dX10_mostWeightAtPoint_14 rfl ?_
      obtain ⟨v4, t5, k6, hs⟩ := bnd_some hs
      refine xi_callS (as := [.ref x0, .int c.2]) (rest := [.int c.1]) dX10_mostWeightAtPoint_15 (KX10_weightAt G Gb x0 c.2 _ _ _ k6) mkX10_weightAt w_497 w_496 rfl rfl (Nat.le_of_ble_eq_true rfl) (Nat.le_of_ble_eq_true rfl) (Nat.le_of_ble_eq_true rfl) (Nat.le_of_ble_eq_true rfl) (Nat.le_of_ble_eq_true rfl) ?_
      intro v M2 hz
      obtain ⟨rfl, rfl⟩ := hz
      show xW _ _ _ _ 18 _ [.int v4, .int c.1] (mem t5 Gb) _ _
      refine xi_max (v := (mxI c.1 v4)) dX10_mostWeightAtPoint_18 w_513 w_37 w_3 w_mmax (Nat.le_of_ble_eq_true rfl) (Nat.le_of_ble_eq_true rfl) (Nat.le_of_ble_eq_true rfl) (Nat.le_of_ble_eq_true rfl) (Nat.le_of_ble_eq_true rfl) rfl ?_
      refine xi_istore_n (lv' := [(1, .int (mxI c.1 v4)), (0, .ref x0), (2, .int c.2)]) dX10_mostWeightAtPoint_21 (by decide) rfl ?_
      refine xi_iinc (v := (c.2 + 1)) (lv' := [(2, .int (c.2 + 1)), (1, .int (mxI c.1 v4)), (0, .ref x0)]) 2 dX10_mostWeightAtPoint_22 rfl rfl (by decide) rfl ?_
      refine xi_goto (tgt := 4) dX10_mostWeightAtPoint_25 (by decide) ?_
      refine xi_sub (lv' := [(0, .ref x0), (1, .int (mxI c.1 v4)), (2, .int (c.2 + 1))]) [2, 1, 0] rfl ?_
      obtain ⟨rfl, rfl⟩ := some_pair hs
      exact ih ((mxI c.1 v4), (c.2 + 1)) t5 _ _ h HE
noncomputable def FX10_mostWeightAtPoint (x : Nat) (σ : St) : Option ((Int32) × St) :=
  (chk (netAt x) (bnd (wh (SX10_mostWeightAtPoint_4 x) ((0 : Int32), (0 : Int32)) σ) (fun e7 t8 => (some (e7, t8)))))
set_option maxHeartbeats 4000000 in
set_option maxRecDepth 100000 in
theorem KX10_mostWeightAtPoint (G : xG) (Gb : xMem) (x : Nat) (σ : St) (r0 : Int32) (t0 : St) (hq : FX10_mostWeightAtPoint x σ = some (r0, t0)) : xC G mX10_mostWeightAtPoint 2 0 0 [.ref x] (mem σ Gb) (PQ r0 t0 Gb) := by
  unfold FX10_mostWeightAtPoint at hq
  refine xC.of (by decide) (Nat.le_of_ble_eq_true rfl) ?_
  show xW _ _ _ _ 0 [(0, .ref x)] [] _ 0 0
  obtain ⟨g_x, hq⟩ := chk_some hq
  refine xi_iconst (v := 0) dX10_mostWeightAtPoint_0 (by decide) ?_
  refine xi_istore_n (lv' := [(1, .int 0), (0, .ref x)]) dX10_mostWeightAtPoint_1 (by decide) rfl ?_
  refine xi_iconst (v := 0) dX10_mostWeightAtPoint_2 (by decide) ?_
  refine xi_istore_n (lv' := [(2, .int 0), (1, .int 0), (0, .ref x)]) dX10_mostWeightAtPoint_3 (by decide) rfl ?_
  refine xi_sub (lv' := [(0, .ref x), (1, .int 0), (2, .int 0)]) [2, 1, 0] rfl ?_
  obtain ⟨e7, t8, k9, hq⟩ := bnd_some hq
  obtain ⟨n10, k9⟩ := wh_itr k9
  refine SX10_mostWeightAtPoint_4_w G Gb x g_x r0 t0 n10 ((0 : Int32), (0 : Int32)) σ _ _ k9 ?_
  show xW G mX10_mostWeightAtPoint (xrm 2 0 0) (xQ G (PQ r0 t0 Gb) 0 0) 28 [(1, .int e7)] [] (mem t8 Gb) 0 0
  refine xi_iload_n 0 dX10_mostWeightAtPoint_28 rfl ?_
  have r11 := some_pair hq
  obtain ⟨rfl, rfl⟩ := r11
  exact xi_iret dX10_mostWeightAtPoint_29 rfl rfl (Nat.le_of_ble_eq_true rfl) (Nat.le_of_ble_eq_true rfl) ⟨rfl, rfl⟩
noncomputable def FX10_lineBound (x : Nat) (a : Int32) (σ : St) : Option ((Int32) × St) :=
  (chk (netAt x) (if a = (0 : Int32) then (bnd (FX10_mostWeightAtPoint x σ) (fun v11 t12 => (some (((v11 + (1 : Int32)) / (2 : Int32)), t12)))) else (if a = (2 : Int32) then (bnd (FX10_mostLinesAtPoint x σ) (fun v7 t8 => (some (((v7 + (1 : Int32)) / (2 : Int32)), t8)))) else (bnd (FX10_core x σ) (fun v3 t4 => (some (v3, t4)))))))
set_option maxHeartbeats 4000000 in
set_option maxRecDepth 100000 in
theorem KX10_lineBound (G : xG) (Gb : xMem) (x : Nat) (a : Int32) (σ : St) (r0 : Int32) (t0 : St) (hq : FX10_lineBound x a σ = some (r0, t0)) : xC G mX10_lineBound 3 0 0 [.ref x, .int a] (mem σ Gb) (PQ r0 t0 Gb) := by
  unfold FX10_lineBound at hq
  refine xC.of (by decide) (Nat.le_of_ble_eq_true rfl) ?_
  show xW _ _ _ _ 0 [(0, .ref x), (1, .int a)] [] _ 0 0
  obtain ⟨g_x, hq⟩ := chk_some hq
  refine xi_iload_n 1 dX10_lineBound_0 rfl ?_
  refine xi_if_ne (tgt := 13) dX10_lineBound_1 (by decide) (fun c1 => ?_) (fun c1 => ?_)
  · replace hq := ite_n c1 hq
    refine xi_iload_n 1 dX10_lineBound_13 rfl ?_
    refine xi_iconst (v := 2) dX10_lineBound_14 (by decide) ?_
    refine xi_icmp_ne (tgt := 29) dX10_lineBound_15 (by decide) (fun c2 => ?_) (fun c2 => ?_)
    · replace hq := ite_n c2 hq
      refine xi_aload_n 0 dX10_lineBound_29 rfl ?_
      obtain ⟨v3, t4, k5, hq⟩ := bnd_some hq
      refine xi_callS (as := [.ref x]) (rest := []) dX10_lineBound_30 (KX10_core G Gb x _ _ _ k5) mkX10_core w_530 w_787 rfl rfl (Nat.le_of_ble_eq_true rfl) (Nat.le_of_ble_eq_true rfl) (Nat.le_of_ble_eq_true rfl) (Nat.le_of_ble_eq_true rfl) (Nat.le_of_ble_eq_true rfl) ?_
      intro v M2 hz
      obtain ⟨rfl, rfl⟩ := hz
      show xW _ _ _ _ 33 _ [.int v3] (mem t4 Gb) _ _
      have r6 := some_pair hq
      obtain ⟨rfl, rfl⟩ := r6
      exact xi_iret dX10_lineBound_33 rfl rfl (Nat.le_of_ble_eq_true rfl) (Nat.le_of_ble_eq_true rfl) ⟨rfl, rfl⟩
    · replace hq := ite_p c2 hq
      refine xi_aload_n 0 dX10_lineBound_18 rfl ?_
      obtain ⟨v7, t8, k9, hq⟩ := bnd_some hq
      refine xi_callS (as := [.ref x]) (rest := []) dX10_lineBound_19 (KX10_mostLinesAtPoint G Gb x _ _ _ k9) mkX10_mostLinesAtPoint w_501 w_786 rfl rfl (Nat.le_of_ble_eq_true rfl) (Nat.le_of_ble_eq_true rfl) (Nat.le_of_ble_eq_true rfl) (Nat.le_of_ble_eq_true rfl) (Nat.le_of_ble_eq_true rfl) ?_
      intro v M2 hz
      obtain ⟨rfl, rfl⟩ := hz
      show xW _ _ _ _ 22 _ [.int v7] (mem t8 Gb) _ _
      refine xi_iconst (v := 1) dX10_lineBound_22 (by decide) ?_
      refine xi_iadd (v := v7 + (1 : Int32)) dX10_lineBound_23 rfl ?_
      refine xi_iconst (v := 2) dX10_lineBound_24 (by decide) ?_
      refine xi_idiv (v := (v7 + (1 : Int32)) / (2 : Int32)) dX10_lineBound_25 (by decide) rfl ?_
      refine xi_goto (tgt := 33) dX10_lineBound_26 (by decide) ?_
      have r10 := some_pair hq
      obtain ⟨rfl, rfl⟩ := r10
      exact xi_iret dX10_lineBound_33 rfl rfl (Nat.le_of_ble_eq_true rfl) (Nat.le_of_ble_eq_true rfl) ⟨rfl, rfl⟩
  · replace hq := ite_p c1 hq
    refine xi_aload_n 0 dX10_lineBound_4 rfl ?_
    obtain ⟨v11, t12, k13, hq⟩ := bnd_some hq
    refine xi_callS (as := [.ref x]) (rest := []) dX10_lineBound_5 (KX10_mostWeightAtPoint G Gb x _ _ _ k13) mkX10_mostWeightAtPoint w_784 w_783 rfl rfl (Nat.le_of_ble_eq_true rfl) (Nat.le_of_ble_eq_true rfl) (Nat.le_of_ble_eq_true rfl) (Nat.le_of_ble_eq_true rfl) (Nat.le_of_ble_eq_true rfl) ?_
    intro v M2 hz
    obtain ⟨rfl, rfl⟩ := hz
    show xW _ _ _ _ 8 _ [.int v11] (mem t12 Gb) _ _
    refine xi_iconst (v := 1) dX10_lineBound_8 (by decide) ?_
    refine xi_iadd (v := v11 + (1 : Int32)) dX10_lineBound_9 rfl ?_
    refine xi_iconst (v := 2) dX10_lineBound_10 (by decide) ?_
    refine xi_idiv (v := (v11 + (1 : Int32)) / (2 : Int32)) dX10_lineBound_11 (by decide) rfl ?_
    have r14 := some_pair hq
    obtain ⟨rfl, rfl⟩ := r14
    exact xi_iret dX10_lineBound_12 rfl rfl (Nat.le_of_ble_eq_true rfl) (Nat.le_of_ble_eq_true rfl) ⟨rfl, rfl⟩
noncomputable def SX10_partOf_6 (x0 : Nat) (c : Int32 × Int32) (σ : St) : Option (((Int32 × Int32) ⊕ (Int32)) × St) :=
  (rdb σ x0 (0) (fun v1 => (if v1 ≤ c.2 then (some (Sum.inr c.1, σ)) else (bnd (FX10_grown x0 c.1 σ) (fun v4 t5 => (some (Sum.inl (v4, (c.2 + 1)), t5)))))))
set_option maxHeartbeats 4000000 in
set_option maxRecDepth 100000 in
theorem SX10_partOf_6_w (G : xG) (Gb : xMem) (x0 : Nat) (g0x : netAt x0 = true) (r0 : Int32) (t0 : St) :
    ∀ (k : Nat) (c : Int32 × Int32) (σ : St) (r : Int32) (σ' : St), itr (SX10_partOf_6 x0) k c σ = some (r, σ') → (xW G mX10_partOf (xrm 1 0 0) (xQ G (PQ r0 t0 Gb) 0 0) 26 [(2, .int r)] [] (mem σ' Gb) 0 0) → xW G mX10_partOf (xrm 1 0 0) (xQ G (PQ r0 t0 Gb) 0 0) 6 [(0, .ref x0), (2, .int c.1), (3, .int c.2)] [] (mem σ Gb) 0 0 := by
  intro k
  induction k with
  | zero =>
    intro c σ r σ' h
    exact absurd h (itr_zero _ _ _ _)
  | succ k ih =>
    intro c σ r σ' h HE
    obtain ⟨x, s1, hs, h⟩ := itr_succ h
    unfold SX10_partOf_6 at hs
    refine xi_iload_n 2 dX10_partOf_6 rfl ?_
    refine xi_aload_n 0 dX10_partOf_7 rfl ?_
    obtain ⟨v1, h2, hs⟩ := rdb_some hs
    refine yi_getV (f := 0) dX10_partOf_8 (netAt_0 g0x) rfl ok_5 (by decide) w_62 rfl h2 ?_
    refine xi_icmp_ge (tgt := 26) dX10_partOf_11 (by decide) (fun c3 => ?_) (fun c3 => ?_)
    · replace hs := ite_p c3 hs
      refine xi_sub (lv' := [(2, .int c.1)]) [1] rfl ?_
      obtain ⟨rfl, rfl⟩ := some_pair hs
      obtain ⟨rfl, rfl⟩ := some_pair h
      exact HE
    · replace hs := ite_n c3 hs
      refine xi_aload_n 0 dX10_partOf_14 rfl ?_
      refine xi_iload_n 1 dX10_partOf_15 rfl ?_
      obtain ⟨v4, t5, k6, hs⟩ := bnd_some hs
      refine xi_callS (as := [.ref x0, .int c.1]) (rest := []) dX10_partOf_16 (KX10_grown G Gb x0 c.1 _ _ _ k6) mkX10_grown w_521 w_520 rfl rfl (Nat.le_of_ble_eq_true rfl) (Nat.le_of_ble_eq_true rfl) (Nat.le_of_ble_eq_true rfl) (Nat.le_of_ble_eq_true rfl) (Nat.le_of_ble_eq_true rfl) ?_
      intro v M2 hz
      obtain ⟨rfl, rfl⟩ := hz
      show xW _ _ _ _ 19 _ [.int v4] (mem t5 Gb) _ _
      refine xi_istore_n (lv' := [(2, .int v4), (0, .ref x0), (3, .int c.2)]) dX10_partOf_19 (by decide) rfl ?_
      refine xi_iinc (v := (c.2 + 1)) (lv' := [(3, .int (c.2 + 1)), (2, .int v4), (0, .ref x0)]) 2 dX10_partOf_20 rfl rfl (by decide) rfl ?_
      refine xi_goto (tgt := 6) dX10_partOf_23 (by decide) ?_
      refine xi_sub (lv' := [(0, .ref x0), (2, .int v4), (3, .int (c.2 + 1))]) [2, 1, 0] rfl ?_
      obtain ⟨rfl, rfl⟩ := some_pair hs
      exact ih (v4, (c.2 + 1)) t5 _ _ h HE
noncomputable def FX10_partOf (x : Nat) (a : Int32) (σ : St) : Option ((Int32) × St) :=
  (chk (netAt x) (bnd (wh (SX10_partOf_6 x) ((shl (1 : Int32) a), (1 : Int32)) σ) (fun e7 t8 => (some (e7, t8)))))
set_option maxHeartbeats 4000000 in
set_option maxRecDepth 100000 in
theorem KX10_partOf (G : xG) (Gb : xMem) (x : Nat) (a : Int32) (σ : St) (r0 : Int32) (t0 : St) (hq : FX10_partOf x a σ = some (r0, t0)) : xC G mX10_partOf 1 0 0 [.ref x, .int a] (mem σ Gb) (PQ r0 t0 Gb) := by
  unfold FX10_partOf at hq
  refine xC.of (by decide) (Nat.le_of_ble_eq_true rfl) ?_
  show xW _ _ _ _ 0 [(0, .ref x), (1, .int a)] [] _ 0 0
  obtain ⟨g_x, hq⟩ := chk_some hq
  refine xi_iconst (v := 1) dX10_partOf_0 (by decide) ?_
  refine xi_iload_n 1 dX10_partOf_1 rfl ?_
  refine xi_ishl (v := shl (1 : Int32) a) dX10_partOf_2 rfl ?_
  refine xi_istore_n (lv' := [(2, .int (shl (1 : Int32) a)), (0, .ref x), (1, .int a)]) dX10_partOf_3 (by decide) rfl ?_
  refine xi_iconst (v := 1) dX10_partOf_4 (by decide) ?_
  refine xi_istore_n (lv' := [(3, .int 1), (2, .int (shl (1 : Int32) a)), (0, .ref x), (1, .int a)]) dX10_partOf_5 (by decide) rfl ?_
  refine xi_sub (lv' := [(0, .ref x), (2, .int (shl (1 : Int32) a)), (3, .int 1)]) [2, 1, 0] rfl ?_
  obtain ⟨e7, t8, k9, hq⟩ := bnd_some hq
  obtain ⟨n10, k9⟩ := wh_itr k9
  refine SX10_partOf_6_w G Gb x g_x r0 t0 n10 ((shl (1 : Int32) a), (1 : Int32)) σ _ _ k9 ?_
  show xW G mX10_partOf (xrm 1 0 0) (xQ G (PQ r0 t0 Gb) 0 0) 26 [(2, .int e7)] [] (mem t8 Gb) 0 0
  refine xi_iload_n 0 dX10_partOf_26 rfl ?_
  have r11 := some_pair hq
  obtain ⟨rfl, rfl⟩ := r11
  exact xi_iret dX10_partOf_27 rfl rfl (Nat.le_of_ble_eq_true rfl) (Nat.le_of_ble_eq_true rfl) ⟨rfl, rfl⟩
noncomputable def SX10_partCount_6 (x0 : Nat) (c : Int32 × Int32 × Int32) (σ : St) : Option (((Int32 × Int32 × Int32) ⊕ (Int32)) × St) :=
  (rdb σ x0 (0) (fun v1 => (if v1 ≤ c.2.2 then (some (Sum.inr c.1, σ)) else (bnd (if ((shr c.2.1 c.2.2) &&& (1 : Int32)) = (0 : Int32) then (bnd (FX10_partOf x0 c.2.2 σ) (fun v9 t10 => (some (((c.1 + 1), (c.2.1 ||| v9)), t10)))) else (some ((c.1, c.2.1), σ))) (fun v5 t6 => (some (Sum.inl (v5.1, v5.2, (c.2.2 + 1)), t6)))))))
set_option maxHeartbeats 4000000 in
set_option maxRecDepth 100000 in
theorem SX10_partCount_6_w (G : xG) (Gb : xMem) (x0 : Nat) (g0x : netAt x0 = true) (r0 : Int32) (t0 : St) :
    ∀ (k : Nat) (c : Int32 × Int32 × Int32) (σ : St) (r : Int32) (σ' : St), itr (SX10_partCount_6 x0) k c σ = some (r, σ') → (xW G mX10_partCount (xrm 2 0 0) (xQ G (PQ r0 t0 Gb) 0 0) 39 [(1, .int r)] [] (mem σ' Gb) 0 0) → xW G mX10_partCount (xrm 2 0 0) (xQ G (PQ r0 t0 Gb) 0 0) 6 [(0, .ref x0), (1, .int c.1), (2, .int c.2.1), (3, .int c.2.2)] [] (mem σ Gb) 0 0 := by
  intro k
  induction k with
  | zero =>
    intro c σ r σ' h
    exact absurd h (itr_zero _ _ _ _)
  | succ k ih =>
    intro c σ r σ' h HE
    obtain ⟨x, s1, hs, h⟩ := itr_succ h
    unfold SX10_partCount_6 at hs
    refine xi_iload_n 3 dX10_partCount_6 rfl ?_
    refine xi_aload_n 0 dX10_partCount_7 rfl ?_
    obtain ⟨v1, h2, hs⟩ := rdb_some hs
    refine yi_getV (f := 0) dX10_partCount_8 (netAt_0 g0x) rfl ok_5 (by decide) w_62 rfl h2 ?_
    refine xi_icmp_ge (tgt := 39) dX10_partCount_11 (by decide) (fun c3 => ?_) (fun c3 => ?_)
    · replace hs := ite_p c3 hs
      refine xi_sub (lv' := [(1, .int c.1)]) [1] rfl ?_
      obtain ⟨rfl, rfl⟩ := some_pair hs
      obtain ⟨rfl, rfl⟩ := some_pair h
      exact HE
    · replace hs := ite_n c3 hs
      refine xi_iload_n 2 dX10_partCount_14 rfl ?_
      refine xi_iload_n 3 dX10_partCount_15 rfl ?_
      refine xi_ishr (v := shr c.2.1 c.2.2) dX10_partCount_16 rfl ?_
      refine xi_iconst (v := 1) dX10_partCount_17 (by decide) ?_
      refine xi_iand (v := (shr c.2.1 c.2.2) &&& (1 : Int32)) dX10_partCount_18 rfl ?_
      obtain ⟨v5, t6, m7, hs⟩ := bnd_some hs
      have key8 : xW G mX10_partCount (xrm 2 0 0) (xQ G (PQ r0 t0 Gb) 0 0) 33 [(0, .ref x0), (1, .int v5.1), (2, .int v5.2), (3, .int c.2.2)] [] (mem t6 Gb) 0 0 := by
        refine xi_iinc (v := (c.2.2 + 1)) (lv' := [(3, .int (c.2.2 + 1)), (0, .ref x0), (1, .int v5.1), (2, .int v5.2)]) 3 dX10_partCount_33 rfl rfl (by decide) rfl ?_
        refine xi_goto (tgt := 6) dX10_partCount_36 (by decide) ?_
        refine xi_sub (lv' := [(0, .ref x0), (1, .int v5.1), (2, .int v5.2), (3, .int (c.2.2 + 1))]) [1, 2, 3, 0] rfl ?_
        obtain ⟨rfl, rfl⟩ := some_pair hs
        exact ih (v5.1, v5.2, (c.2.2 + 1)) t6 _ _ h HE
      refine xi_if_ne (tgt := 33) dX10_partCount_19 (by decide) (fun c4 => ?_) (fun c4 => ?_)
      · replace m7 := ite_n c4 m7
        obtain ⟨rfl, rfl⟩ := some_pair m7
        exact key8
      · replace m7 := ite_p c4 m7
        refine xi_iinc (v := (c.1 + 1)) (lv' := [(1, .int (c.1 + 1)), (0, .ref x0), (2, .int c.2.1), (3, .int c.2.2)]) 1 dX10_partCount_22 rfl rfl (by decide) rfl ?_
        refine xi_iload_n 2 dX10_partCount_25 rfl ?_
        refine xi_aload_n 1 dX10_partCount_26 rfl ?_
        refine xi_iload_n 3 dX10_partCount_27 rfl ?_
        obtain ⟨v9, t10, k11, m7⟩ := bnd_some m7
        refine xi_callS (as := [.ref x0, .int c.2.2]) (rest := [.int c.2.1]) dX10_partCount_28 (KX10_partOf G Gb x0 c.2.2 _ _ _ k11) mkX10_partOf w_518 w_517 rfl rfl (Nat.le_of_ble_eq_true rfl) (Nat.le_of_ble_eq_true rfl) (Nat.le_of_ble_eq_true rfl) (Nat.le_of_ble_eq_true rfl) (Nat.le_of_ble_eq_true rfl) ?_
        intro v M2 hz
        obtain ⟨rfl, rfl⟩ := hz
        show xW _ _ _ _ 31 _ [.int v9, .int c.2.1] (mem t10 Gb) _ _
        refine xi_ior (v := c.2.1 ||| v9) dX10_partCount_31 rfl ?_
        refine xi_istore_n (lv' := [(2, .int (c.2.1 ||| v9)), (1, .int (c.1 + 1)), (0, .ref x0), (3, .int c.2.2)]) dX10_partCount_32 (by decide) rfl ?_
        obtain ⟨rfl, rfl⟩ := some_pair m7
        refine xi_sub (lv' := [(0, .ref x0), (1, .int (c.1 + 1)), (2, .int (c.2.1 ||| v9)), (3, .int c.2.2)]) [2, 1, 0, 3] rfl ?_
        exact key8
noncomputable def FX10_partCount (x : Nat) (σ : St) : Option ((Int32) × St) :=
  (chk (netAt x) (bnd (wh (SX10_partCount_6 x) ((0 : Int32), (0 : Int32), (0 : Int32)) σ) (fun e12 t13 => (some (e12, t13)))))
set_option maxHeartbeats 4000000 in
set_option maxRecDepth 100000 in
theorem KX10_partCount (G : xG) (Gb : xMem) (x : Nat) (σ : St) (r0 : Int32) (t0 : St) (hq : FX10_partCount x σ = some (r0, t0)) : xC G mX10_partCount 2 0 0 [.ref x] (mem σ Gb) (PQ r0 t0 Gb) := by
  unfold FX10_partCount at hq
  refine xC.of (by decide) (Nat.le_of_ble_eq_true rfl) ?_
  show xW _ _ _ _ 0 [(0, .ref x)] [] _ 0 0
  obtain ⟨g_x, hq⟩ := chk_some hq
  refine xi_iconst (v := 0) dX10_partCount_0 (by decide) ?_
  refine xi_istore_n (lv' := [(1, .int 0), (0, .ref x)]) dX10_partCount_1 (by decide) rfl ?_
  refine xi_iconst (v := 0) dX10_partCount_2 (by decide) ?_
  refine xi_istore_n (lv' := [(2, .int 0), (1, .int 0), (0, .ref x)]) dX10_partCount_3 (by decide) rfl ?_
  refine xi_iconst (v := 0) dX10_partCount_4 (by decide) ?_
  refine xi_istore_n (lv' := [(3, .int 0), (2, .int 0), (1, .int 0), (0, .ref x)]) dX10_partCount_5 (by decide) rfl ?_
  refine xi_sub (lv' := [(0, .ref x), (1, .int 0), (2, .int 0), (3, .int 0)]) [3, 2, 1, 0] rfl ?_
  obtain ⟨e12, t13, k14, hq⟩ := bnd_some hq
  obtain ⟨n15, k14⟩ := wh_itr k14
  refine SX10_partCount_6_w G Gb x g_x r0 t0 n15 ((0 : Int32), (0 : Int32), (0 : Int32)) σ _ _ k14 ?_
  show xW G mX10_partCount (xrm 2 0 0) (xQ G (PQ r0 t0 Gb) 0 0) 39 [(1, .int e12)] [] (mem t13 Gb) 0 0
  refine xi_iload_n 0 dX10_partCount_39 rfl ?_
  have r16 := some_pair hq
  obtain ⟨rfl, rfl⟩ := r16
  exact xi_iret dX10_partCount_40 rfl rfl (Nat.le_of_ble_eq_true rfl) (Nat.le_of_ble_eq_true rfl) ⟨rfl, rfl⟩
noncomputable def SX10_shrinkAway_9 (x0 : Nat) (w2 : Int32) (c : Int32 × Int32) (σ : St) : Option (((Int32 × Int32) ⊕ ((Int32) ⊕ (Int32))) × St) :=
  (if w2 ≤ c.2 then (some (Sum.inr (Sum.inr c.1), σ)) else (bnd (FX5_allBits x0 σ) (fun v4 t5 => (bnd (FX10_fewestLines x0 v4 v4 t5) (fun v7 t8 => (if v7 = (-1 : Int32) then (some (Sum.inr (Sum.inl c.1), t8)) else (bnd (FX5_lineCount x0 v7 t8) (fun v11 t12 => (chk (inb v7 9) (rdb t12 (x0 + 1) (v7.toNatClampNeg) (fun v15 => (bnd (FX10_fewestLines x0 v15 v4 t12) (fun v17 t18 => (bnd (if v17 = (-1 : Int32) then (bnd (FX5_takeOut x0 v7 t18) (fun v28 t29 => (some ((), t29)))) else (bnd (FX5_drawTogether x0 v7 v17 t18) (fun v25 t26 => (some ((), t26))))) (fun v21 t22 => (some (Sum.inl ((mxI c.1 v11), (c.2 + 1)), t22)))))))))))))))))
set_option maxHeartbeats 4000000 in
set_option maxRecDepth 100000 in
theorem SX10_shrinkAway_9_w (G : xG) (Gb : xMem) (x0 : Nat) (w2 : Int32) (g0x : netAt x0 = true) (r0 : Int32) (t0 : St) :
    ∀ (k : Nat) (c : Int32 × Int32) (σ : St) (r : (Int32) ⊕ (Int32)) (σ' : St), itr (SX10_shrinkAway_9 x0 w2) k c σ = some (r, σ') → (Sum.elim (fun v => v = r0 ∧ σ' = t0) (fun e => xW G mX10_shrinkAway (xrm 4 0 0) (xQ G (PQ r0 t0 Gb) 0 0) 93 [(1, .int e)] [] (mem σ' Gb) 0 0) r) → xW G mX10_shrinkAway (xrm 4 0 0) (xQ G (PQ r0 t0 Gb) 0 0) 9 [(0, .ref x0), (1, .int c.1), (2, .int w2), (3, .int c.2)] [] (mem σ Gb) 0 0 := by
  intro k
  induction k with
  | zero =>
    intro c σ r σ' h
    exact absurd h (itr_zero _ _ _ _)
  | succ k ih =>
    intro c σ r σ' h HE
    obtain ⟨x, s1, hs, h⟩ := itr_succ h
    unfold SX10_shrinkAway_9 at hs
    refine xi_iload_n 3 dX10_shrinkAway_9 rfl ?_
    refine xi_iload_n 2 dX10_shrinkAway_10 rfl ?_
    refine xi_icmp_ge (tgt := 93) dX10_shrinkAway_11 (by decide) (fun c3 => ?_) (fun c3 => ?_)
    · replace hs := ite_p c3 hs
      refine xi_sub (lv' := [(1, .int c.1)]) [1] rfl ?_
      obtain ⟨rfl, rfl⟩ := some_pair hs
      obtain ⟨rfl, rfl⟩ := some_pair h
      exact HE
    · replace hs := ite_n c3 hs
      refine xi_aload_n 0 dX10_shrinkAway_14 rfl ?_
      obtain ⟨v4, t5, k6, hs⟩ := bnd_some hs
      refine xi_callV (as := []) (rest := []) dX10_shrinkAway_15 (KX5_allBits G Gb x0 _ _ _ k6) mkX5_allBits w_441 w_442 w_532 (mem_get (netAt_0 g0x)) rfl rfl rfl rfl (Nat.le_of_ble_eq_true rfl) (Nat.le_of_ble_eq_true rfl) (Nat.le_of_ble_eq_true rfl) (Nat.le_of_ble_eq_true rfl) (Nat.le_of_ble_eq_true rfl) ?_
      intro v M2 hz
      obtain ⟨rfl, rfl⟩ := hz
      show xW _ _ _ _ 18 _ [.int v4] (mem t5 Gb) _ _
      refine xi_istore (lv' := [(4, .int v4), (0, .ref x0), (1, .int c.1), (2, .int w2), (3, .int c.2)]) dX10_shrinkAway_18 (by decide) rfl ?_
      refine xi_aload_n 1 dX10_shrinkAway_20 rfl ?_
      refine xi_iload 0 dX10_shrinkAway_21 rfl ?_
      refine xi_iload 0 dX10_shrinkAway_23 rfl ?_
      obtain ⟨v7, t8, k9, hs⟩ := bnd_some hs
      refine xi_callS (as := [.ref x0, .int v4, .int v4]) (rest := []) dX10_shrinkAway_25 (KX10_fewestLines G Gb x0 v4 v4 _ _ _ k9) mkX10_fewestLines w_534 w_533 rfl rfl (Nat.le_of_ble_eq_true rfl) (Nat.le_of_ble_eq_true rfl) (Nat.le_of_ble_eq_true rfl) (Nat.le_of_ble_eq_true rfl) (Nat.le_of_ble_eq_true rfl) ?_
      intro v M2 hz
      obtain ⟨rfl, rfl⟩ := hz
      show xW _ _ _ _ 28 _ [.int v7] (mem t8 Gb) _ _
      refine xi_istore (lv' := [(5, .int v7), (4, .int v4), (0, .ref x0), (1, .int c.1), (2, .int w2), (3, .int c.2)]) dX10_shrinkAway_28 (by decide) rfl ?_
      refine xi_iload 0 dX10_shrinkAway_30 rfl ?_
      refine xi_iconst (v := (-1)) dX10_shrinkAway_32 (by decide) ?_
      refine xi_icmp_ne (tgt := 38) dX10_shrinkAway_33 (by decide) (fun c10 => ?_) (fun c10 => ?_)
      · replace hs := ite_n c10 hs
        refine xi_iload_n 3 dX10_shrinkAway_38 rfl ?_
        refine xi_aload_n 2 dX10_shrinkAway_39 rfl ?_
        refine xi_iload 0 dX10_shrinkAway_40 rfl ?_
        obtain ⟨v11, t12, k13, hs⟩ := bnd_some hs
        refine xi_callV (as := [.int v7]) (rest := [.int c.1]) dX10_shrinkAway_42 (KX5_lineCount G Gb x0 v7 _ _ _ k13) mkX5_lineCount w_504 w_505 w_503 (mem_get (netAt_0 g0x)) rfl rfl rfl rfl (Nat.le_of_ble_eq_true rfl) (Nat.le_of_ble_eq_true rfl) (Nat.le_of_ble_eq_true rfl) (Nat.le_of_ble_eq_true rfl) (Nat.le_of_ble_eq_true rfl) ?_
        intro v M2 hz
        obtain ⟨rfl, rfl⟩ := hz
        show xW _ _ _ _ 45 _ [.int v11, .int c.1] (mem t12 Gb) _ _
        refine xi_max (v := (mxI c.1 v11)) dX10_shrinkAway_45 w_513 w_37 w_3 w_mmax (Nat.le_of_ble_eq_true rfl) (Nat.le_of_ble_eq_true rfl) (Nat.le_of_ble_eq_true rfl) (Nat.le_of_ble_eq_true rfl) (Nat.le_of_ble_eq_true rfl) rfl ?_
        refine xi_istore_n (lv' := [(1, .int (mxI c.1 v11)), (5, .int v7), (4, .int v4), (0, .ref x0), (2, .int w2), (3, .int c.2)]) dX10_shrinkAway_48 (by decide) rfl ?_
        refine xi_aload_n 3 dX10_shrinkAway_49 rfl ?_
        refine xi_aload_n 3 dX10_shrinkAway_50 rfl ?_
        refine yi_getR (f := 2) dX10_shrinkAway_51 (netAt_0 g0x) rfl ok_5 (by decide) w_73 rfl ?_
        refine xi_iload 1 dX10_shrinkAway_54 rfl ?_
        obtain ⟨g14, hs⟩ := chk_some hs
        obtain ⟨v15, h16, hs⟩ := rdb_some hs
        refine yi_ialoadV dX10_shrinkAway_56 (netAt_1 g0x) g14 h16 ?_
        refine xi_iload 2 dX10_shrinkAway_57 rfl ?_
        obtain ⟨v17, t18, k19, hs⟩ := bnd_some hs
        refine xi_callS (as := [.ref x0, .int v15, .int v4]) (rest := []) dX10_shrinkAway_59 (KX10_fewestLines G Gb x0 v15 v4 _ _ _ k19) mkX10_fewestLines w_534 w_533 rfl rfl (Nat.le_of_ble_eq_true rfl) (Nat.le_of_ble_eq_true rfl) (Nat.le_of_ble_eq_true rfl) (Nat.le_of_ble_eq_true rfl) (Nat.le_of_ble_eq_true rfl) ?_
        intro v M2 hz
        obtain ⟨rfl, rfl⟩ := hz
        show xW _ _ _ _ 62 _ [.int v17] (mem t18 Gb) _ _
        refine xi_istore (lv' := [(6, .int v17), (1, .int (mxI c.1 v11)), (5, .int v7), (4, .int v4), (0, .ref x0), (2, .int w2), (3, .int c.2)]) dX10_shrinkAway_62 (by decide) rfl ?_
        refine xi_iload 0 dX10_shrinkAway_64 rfl ?_
        refine xi_iconst (v := (-1)) dX10_shrinkAway_66 (by decide) ?_
        obtain ⟨v21, t22, m23, hs⟩ := bnd_some hs
        have key24 : xW G mX10_shrinkAway (xrm 4 0 0) (xQ G (PQ r0 t0 Gb) 0 0) 87 [(0, .ref x0), (1, .int (mxI c.1 v11)), (2, .int w2), (3, .int c.2)] [] (mem t22 Gb) 0 0 := by
          refine xi_iinc (v := (c.2 + 1)) (lv' := [(3, .int (c.2 + 1)), (0, .ref x0), (1, .int (mxI c.1 v11)), (2, .int w2)]) 3 dX10_shrinkAway_87 rfl rfl (by decide) rfl ?_
          refine xi_goto (tgt := 9) dX10_shrinkAway_90 (by decide) ?_
          refine xi_sub (lv' := [(0, .ref x0), (1, .int (mxI c.1 v11)), (2, .int w2), (3, .int (c.2 + 1))]) [1, 2, 3, 0] rfl ?_
          obtain ⟨rfl, rfl⟩ := some_pair hs
          exact ih ((mxI c.1 v11), (c.2 + 1)) t22 _ _ h HE
        refine xi_icmp_ne (tgt := 79) dX10_shrinkAway_67 (by decide) (fun c20 => ?_) (fun c20 => ?_)
        · replace m23 := ite_n c20 m23
          refine xi_aload_n 4 dX10_shrinkAway_79 rfl ?_
          refine xi_iload 2 dX10_shrinkAway_80 rfl ?_
          refine xi_iload 0 dX10_shrinkAway_82 rfl ?_
          obtain ⟨v25, t26, k27, m23⟩ := bnd_some m23
          refine xi_callV (as := [.int v7, .int v17]) (rest := []) dX10_shrinkAway_84 (KX5_drawTogether G Gb x0 v7 v17 _ _ _ k27) mkX5_drawTogether w_805 w_806 w_804 (mem_get (netAt_0 g0x)) rfl rfl rfl rfl (Nat.le_of_ble_eq_true rfl) (Nat.le_of_ble_eq_true rfl) (Nat.le_of_ble_eq_true rfl) (Nat.le_of_ble_eq_true rfl) (Nat.le_of_ble_eq_true rfl) ?_
          intro v M2 hz
          obtain ⟨rfl, rfl⟩ := hz
          show xW _ _ _ _ 87 _ [] (mem t26 Gb) _ _
          obtain ⟨rfl, rfl⟩ := some_pair m23
          refine xi_sub (lv' := [(0, .ref x0), (1, .int (mxI c.1 v11)), (2, .int w2), (3, .int c.2)]) [4, 1, 5, 6] rfl ?_
          exact key24
        · replace m23 := ite_p c20 m23
          refine xi_aload_n 4 dX10_shrinkAway_70 rfl ?_
          refine xi_iload 2 dX10_shrinkAway_71 rfl ?_
          obtain ⟨v28, t29, k30, m23⟩ := bnd_some m23
          refine xi_callV (as := [.int v7]) (rest := []) dX10_shrinkAway_73 (KX5_takeOut G Gb x0 v7 _ _ _ k30) mkX5_takeOut w_796 w_797 w_795 (mem_get (netAt_0 g0x)) rfl rfl rfl rfl (Nat.le_of_ble_eq_true rfl) (Nat.le_of_ble_eq_true rfl) (Nat.le_of_ble_eq_true rfl) (Nat.le_of_ble_eq_true rfl) (Nat.le_of_ble_eq_true rfl) ?_
          intro v M2 hz
          obtain ⟨rfl, rfl⟩ := hz
          show xW _ _ _ _ 76 _ [] (mem t29 Gb) _ _
          refine xi_goto (tgt := 87) dX10_shrinkAway_76 (by decide) ?_
          obtain ⟨rfl, rfl⟩ := some_pair m23
          refine xi_sub (lv' := [(0, .ref x0), (1, .int (mxI c.1 v11)), (2, .int w2), (3, .int c.2)]) [4, 1, 5, 6] rfl ?_
          exact key24
      · replace hs := ite_p c10 hs
        refine xi_iload_n 3 dX10_shrinkAway_36 rfl ?_
        obtain ⟨rfl, rfl⟩ := some_pair hs
        obtain ⟨rfl, rfl⟩ := some_pair h
        have r31 := HE
        obtain ⟨rfl, rfl⟩ := r31
        exact xi_iret dX10_shrinkAway_37 rfl rfl (Nat.le_of_ble_eq_true rfl) (Nat.le_of_ble_eq_true rfl) ⟨rfl, rfl⟩
noncomputable def FX10_shrinkAway (x : Nat) (σ : St) : Option ((Int32) × St) :=
  (chk (netAt x) (rdb σ x (0) (fun v1 => (bnd (wh (SX10_shrinkAway_9 x v1) ((0 : Int32), (0 : Int32)) σ) (fun e32 t33 => Sum.elim (fun e32 => (some (e32, t33))) (fun e32 => (some (e32, t33))) e32)))))
set_option maxHeartbeats 4000000 in
set_option maxRecDepth 100000 in
theorem KX10_shrinkAway (G : xG) (Gb : xMem) (x : Nat) (σ : St) (r0 : Int32) (t0 : St) (hq : FX10_shrinkAway x σ = some (r0, t0)) : xC G mX10_shrinkAway 4 0 0 [.ref x] (mem σ Gb) (PQ r0 t0 Gb) := by
  unfold FX10_shrinkAway at hq
  refine xC.of (by decide) (Nat.le_of_ble_eq_true rfl) ?_
  show xW _ _ _ _ 0 [(0, .ref x)] [] _ 0 0
  obtain ⟨g_x, hq⟩ := chk_some hq
  refine xi_iconst (v := 0) dX10_shrinkAway_0 (by decide) ?_
  refine xi_istore_n (lv' := [(1, .int 0), (0, .ref x)]) dX10_shrinkAway_1 (by decide) rfl ?_
  refine xi_aload_n 1 dX10_shrinkAway_2 rfl ?_
  obtain ⟨v1, h2, hq⟩ := rdb_some hq
  refine yi_getV (f := 0) dX10_shrinkAway_3 (netAt_0 g_x) rfl ok_5 (by decide) w_62 rfl h2 ?_
  refine xi_istore_n (lv' := [(2, .int v1), (1, .int 0), (0, .ref x)]) dX10_shrinkAway_6 (by decide) rfl ?_
  refine xi_iconst (v := 0) dX10_shrinkAway_7 (by decide) ?_
  refine xi_istore_n (lv' := [(3, .int 0), (2, .int v1), (1, .int 0), (0, .ref x)]) dX10_shrinkAway_8 (by decide) rfl ?_
  refine xi_sub (lv' := [(0, .ref x), (1, .int 0), (2, .int v1), (3, .int 0)]) [3, 2, 1, 0] rfl ?_
  obtain ⟨e32, t33, k34, hq⟩ := bnd_some hq
  obtain ⟨n35, k34⟩ := wh_itr k34
  refine SX10_shrinkAway_9_w G Gb x v1 g_x r0 t0 n35 ((0 : Int32), (0 : Int32)) σ _ _ k34 ?_
  rcases e32 with e32 | e32
  · replace hq := sel_l hq
    have r36 := some_pair hq
    exact r36
  · replace hq := sel_r hq
    show xW G mX10_shrinkAway (xrm 4 0 0) (xQ G (PQ r0 t0 Gb) 0 0) 93 [(1, .int e32)] [] (mem t33 Gb) 0 0
    refine xi_iload_n 0 dX10_shrinkAway_93 rfl ?_
    have r37 := some_pair hq
    obtain ⟨rfl, rfl⟩ := r37
    exact xi_iret dX10_shrinkAway_94 rfl rfl (Nat.le_of_ble_eq_true rfl) (Nat.le_of_ble_eq_true rfl) ⟨rfl, rfl⟩
noncomputable def SX6_cutWeight_43 (x0 : Nat) (w1 : Int32) (w3 : Int32) (w4 : Int32) (c : Int32 × Int32) (σ : St) : Option (((Int32 × Int32) ⊕ (Int32)) × St) :=
  (rdb σ x0 (0) (fun v13 => (if v13 ≤ c.2 then (some (Sum.inr c.1, σ)) else (bnd (if ((shr w4 c.2) &&& (1 : Int32)) = (0 : Int32) then (some (c.1, σ)) else (bnd (FX5_weightOf x0 w3 c.2 σ) (fun v21 t22 => (some ((c.1 + v21), t22))))) (fun v17 t18 => (some (Sum.inl (v17, (c.2 + 1)), t18)))))))
noncomputable def SX6_cutWeight_4 (x0 : Nat) (w1 : Int32) (c : Int32 × Int32) (σ : St) : Option (((Int32 × Int32) ⊕ (Int32)) × St) :=
  (rdb σ x0 (0) (fun v1 => (if v1 ≤ c.2 then (some (Sum.inr c.1, σ)) else (chk (inb c.2 9) (rdb σ (x0 + 1) (c.2.toNatClampNeg) (fun v5 => (bnd (if ((shr w1 c.2) &&& (1 : Int32)) = (0 : Int32) then (some (c.1, σ)) else (if (v5 &&& (w1 ^^^ (-1 : Int32))) = (0 : Int32) then (some (c.1, σ)) else (bnd (wh (SX6_cutWeight_43 x0 w1 c.2 (v5 &&& (w1 ^^^ (-1 : Int32)))) (c.1, (0 : Int32)) σ) (fun e24 t25 => (some (e24, t25)))))) (fun v8 t9 => (some (Sum.inl (v8, (c.2 + 1)), t9))))))))))
set_option maxHeartbeats 4000000 in
set_option maxRecDepth 100000 in
theorem SX6_cutWeight_43_w (G : xG) (Gb : xMem) (x0 : Nat) (w1 : Int32) (w3 : Int32) (w4 : Int32) (g0x : netAt x0 = true) (r0 : Int32) (t0 : St) :
    ∀ (k : Nat) (c : Int32 × Int32) (σ : St) (r : Int32) (σ' : St), itr (SX6_cutWeight_43 x0 w1 w3 w4) k c σ = some (r, σ') → (xW G mX6_cutWeight (xrm 1 0 0) (xQ G (PQ r0 t0 Gb) 0 0) 78 [(0, .ref x0), (1, .int w1), (2, .int r), (3, .int w3)] [] (mem σ' Gb) 0 0) → xW G mX6_cutWeight (xrm 1 0 0) (xQ G (PQ r0 t0 Gb) 0 0) 43 [(0, .ref x0), (1, .int w1), (2, .int c.1), (3, .int w3), (4, .int w4), (5, .int c.2)] [] (mem σ Gb) 0 0 := by
  intro k
  induction k with
  | zero =>
    intro c σ r σ' h
    exact absurd h (itr_zero _ _ _ _)
  | succ k ih =>
    intro c σ r σ' h HE
    obtain ⟨x, s1, hs, h⟩ := itr_succ h
    unfold SX6_cutWeight_43 at hs
    refine xi_iload 5 dX6_cutWeight_43 rfl ?_
    refine xi_aload_n 0 dX6_cutWeight_45 rfl ?_
    obtain ⟨v13, h14, hs⟩ := rdb_some hs
    refine yi_getV (f := 0) dX6_cutWeight_46 (netAt_0 g0x) rfl ok_5 (by decide) w_67 rfl h14 ?_
    refine xi_icmp_ge (tgt := 78) dX6_cutWeight_49 (by decide) (fun c15 => ?_) (fun c15 => ?_)
    · replace hs := ite_p c15 hs
      refine xi_sub (lv' := [(0, .ref x0), (1, .int w1), (2, .int c.1), (3, .int w3)]) [0, 1, 2, 3] rfl ?_
      obtain ⟨rfl, rfl⟩ := some_pair hs
      obtain ⟨rfl, rfl⟩ := some_pair h
      exact HE
    · replace hs := ite_n c15 hs
      refine xi_iload 4 dX6_cutWeight_52 rfl ?_
      refine xi_iload 5 dX6_cutWeight_54 rfl ?_
      refine xi_ishr (v := shr w4 c.2) dX6_cutWeight_56 rfl ?_
      refine xi_iconst (v := 1) dX6_cutWeight_57 (by decide) ?_
      refine xi_iand (v := (shr w4 c.2) &&& (1 : Int32)) dX6_cutWeight_58 rfl ?_
      obtain ⟨v17, t18, m19, hs⟩ := bnd_some hs
      have key20 : xW G mX6_cutWeight (xrm 1 0 0) (xQ G (PQ r0 t0 Gb) 0 0) 72 [(0, .ref x0), (1, .int w1), (2, .int v17), (3, .int w3), (4, .int w4), (5, .int c.2)] [] (mem t18 Gb) 0 0 := by
        refine xi_iinc (v := (c.2 + 1)) (lv' := [(5, .int (c.2 + 1)), (0, .ref x0), (1, .int w1), (2, .int v17), (3, .int w3), (4, .int w4)]) 5 dX6_cutWeight_72 rfl rfl (by decide) rfl ?_
        refine xi_goto (tgt := 43) dX6_cutWeight_75 (by decide) ?_
        refine xi_sub (lv' := [(0, .ref x0), (1, .int w1), (2, .int v17), (3, .int w3), (4, .int w4), (5, .int (c.2 + 1))]) [1, 2, 3, 4, 5, 0] rfl ?_
        obtain ⟨rfl, rfl⟩ := some_pair hs
        exact ih (v17, (c.2 + 1)) t18 _ _ h HE
      refine xi_if_eq (tgt := 72) dX6_cutWeight_59 (by decide) (fun c16 => ?_) (fun c16 => ?_)
      · replace m19 := ite_p c16 m19
        obtain ⟨rfl, rfl⟩ := some_pair m19
        exact key20
      · replace m19 := ite_n c16 m19
        refine xi_iload_n 2 dX6_cutWeight_62 rfl ?_
        refine xi_aload_n 0 dX6_cutWeight_63 rfl ?_
        refine xi_iload_n 3 dX6_cutWeight_64 rfl ?_
        refine xi_iload 5 dX6_cutWeight_65 rfl ?_
        obtain ⟨v21, t22, k23, m19⟩ := bnd_some m19
        refine xi_callV (as := [.int w3, .int c.2]) (rest := [.int c.1]) dX6_cutWeight_67 (KX5_weightOf G Gb x0 w3 c.2 _ _ _ k23) mkX5_weightOf w_415 w_416 w_610 (mem_get (netAt_0 g0x)) rfl rfl rfl rfl (Nat.le_of_ble_eq_true rfl) (Nat.le_of_ble_eq_true rfl) (Nat.le_of_ble_eq_true rfl) (Nat.le_of_ble_eq_true rfl) (Nat.le_of_ble_eq_true rfl) ?_
        intro v M2 hz
        obtain ⟨rfl, rfl⟩ := hz
        show xW _ _ _ _ 70 _ [.int v21, .int c.1] (mem t22 Gb) _ _
        refine xi_iadd (v := c.1 + v21) dX6_cutWeight_70 rfl ?_
        refine xi_istore_n (lv' := [(2, .int (c.1 + v21)), (0, .ref x0), (1, .int w1), (3, .int w3), (4, .int w4), (5, .int c.2)]) dX6_cutWeight_71 (by decide) rfl ?_
        obtain ⟨rfl, rfl⟩ := some_pair m19
        refine xi_sub (lv' := [(0, .ref x0), (1, .int w1), (2, .int (c.1 + v21)), (3, .int w3), (4, .int w4), (5, .int c.2)]) [1, 2, 0, 3, 4, 5] rfl ?_
        exact key20
set_option maxHeartbeats 4000000 in
set_option maxRecDepth 100000 in
theorem SX6_cutWeight_4_w (G : xG) (Gb : xMem) (x0 : Nat) (w1 : Int32) (g0x : netAt x0 = true) (r0 : Int32) (t0 : St) :
    ∀ (k : Nat) (c : Int32 × Int32) (σ : St) (r : Int32) (σ' : St), itr (SX6_cutWeight_4 x0 w1) k c σ = some (r, σ') → (xW G mX6_cutWeight (xrm 1 0 0) (xQ G (PQ r0 t0 Gb) 0 0) 84 [(2, .int r)] [] (mem σ' Gb) 0 0) → xW G mX6_cutWeight (xrm 1 0 0) (xQ G (PQ r0 t0 Gb) 0 0) 4 [(0, .ref x0), (1, .int w1), (2, .int c.1), (3, .int c.2)] [] (mem σ Gb) 0 0 := by
  intro k
  induction k with
  | zero =>
    intro c σ r σ' h
    exact absurd h (itr_zero _ _ _ _)
  | succ k ih =>
    intro c σ r σ' h HE
    obtain ⟨x, s1, hs, h⟩ := itr_succ h
    unfold SX6_cutWeight_4 at hs
    refine xi_iload_n 3 dX6_cutWeight_4 rfl ?_
    refine xi_aload_n 0 dX6_cutWeight_5 rfl ?_
    obtain ⟨v1, h2, hs⟩ := rdb_some hs
    refine yi_getV (f := 0) dX6_cutWeight_6 (netAt_0 g0x) rfl ok_5 (by decide) w_67 rfl h2 ?_
    refine xi_icmp_ge (tgt := 84) dX6_cutWeight_9 (by decide) (fun c3 => ?_) (fun c3 => ?_)
    · replace hs := ite_p c3 hs
      refine xi_sub (lv' := [(2, .int c.1)]) [2] rfl ?_
      obtain ⟨rfl, rfl⟩ := some_pair hs
      obtain ⟨rfl, rfl⟩ := some_pair h
      exact HE
    · replace hs := ite_n c3 hs
      refine xi_aload_n 0 dX6_cutWeight_12 rfl ?_
      refine yi_getR (f := 2) dX6_cutWeight_13 (netAt_0 g0x) rfl ok_5 (by decide) w_74 rfl ?_
      refine xi_iload_n 3 dX6_cutWeight_16 rfl ?_
      obtain ⟨g4, hs⟩ := chk_some hs
      obtain ⟨v5, h6, hs⟩ := rdb_some hs
      refine yi_ialoadV dX6_cutWeight_17 (netAt_1 g0x) g4 h6 ?_
      refine xi_iload_n 1 dX6_cutWeight_18 rfl ?_
      refine xi_iconst (v := (-1)) dX6_cutWeight_19 (by decide) ?_
      refine xi_ixor (v := w1 ^^^ (-1 : Int32)) dX6_cutWeight_20 rfl ?_
      refine xi_iand (v := v5 &&& (w1 ^^^ (-1 : Int32))) dX6_cutWeight_21 rfl ?_
      refine xi_istore (lv' := [(4, .int (v5 &&& (w1 ^^^ (-1 : Int32)))), (0, .ref x0), (1, .int w1), (2, .int c.1), (3, .int c.2)]) dX6_cutWeight_22 (by decide) rfl ?_
      refine xi_iload_n 2 dX6_cutWeight_24 rfl ?_
      refine xi_iload_n 4 dX6_cutWeight_25 rfl ?_
      refine xi_ishr (v := shr w1 c.2) dX6_cutWeight_26 rfl ?_
      refine xi_iconst (v := 1) dX6_cutWeight_27 (by decide) ?_
      refine xi_iand (v := (shr w1 c.2) &&& (1 : Int32)) dX6_cutWeight_28 rfl ?_
      obtain ⟨v8, t9, m10, hs⟩ := bnd_some hs
      have key11 : xW G mX6_cutWeight (xrm 1 0 0) (xQ G (PQ r0 t0 Gb) 0 0) 78 [(0, .ref x0), (1, .int w1), (2, .int v8), (3, .int c.2)] [] (mem t9 Gb) 0 0 := by
        refine xi_iinc (v := (c.2 + 1)) (lv' := [(3, .int (c.2 + 1)), (0, .ref x0), (1, .int w1), (2, .int v8)]) 3 dX6_cutWeight_78 rfl rfl (by decide) rfl ?_
        refine xi_goto (tgt := 4) dX6_cutWeight_81 (by decide) ?_
        refine xi_sub (lv' := [(0, .ref x0), (1, .int w1), (2, .int v8), (3, .int (c.2 + 1))]) [1, 2, 3, 0] rfl ?_
        obtain ⟨rfl, rfl⟩ := some_pair hs
        exact ih (v8, (c.2 + 1)) t9 _ _ h HE
      refine xi_if_eq (tgt := 78) dX6_cutWeight_29 (by decide) (fun c7 => ?_) (fun c7 => ?_)
      · replace m10 := ite_p c7 m10
        obtain ⟨rfl, rfl⟩ := some_pair m10
        refine xi_sub (lv' := [(0, .ref x0), (1, .int w1), (2, .int c.1), (3, .int c.2)]) [1, 2, 3, 4] rfl ?_
        exact key11
      · replace m10 := ite_n c7 m10
        refine xi_iload 0 dX6_cutWeight_32 rfl ?_
        refine xi_if_ne (tgt := 40) dX6_cutWeight_34 (by decide) (fun c12 => ?_) (fun c12 => ?_)
        · replace m10 := ite_n c12 m10
          refine xi_iconst (v := 0) dX6_cutWeight_40 (by decide) ?_
          refine xi_istore (lv' := [(5, .int 0), (4, .int (v5 &&& (w1 ^^^ (-1 : Int32)))), (0, .ref x0), (1, .int w1), (2, .int c.1), (3, .int c.2)]) dX6_cutWeight_41 (by decide) rfl ?_
          refine xi_sub (lv' := [(0, .ref x0), (1, .int w1), (2, .int c.1), (3, .int c.2), (4, .int (v5 &&& (w1 ^^^ (-1 : Int32)))), (5, .int 0)]) [2, 3, 4, 5, 1, 0] rfl ?_
          obtain ⟨e24, t25, k26, m10⟩ := bnd_some m10
          obtain ⟨n27, k26⟩ := wh_itr k26
          refine SX6_cutWeight_43_w G Gb x0 w1 c.2 (v5 &&& (w1 ^^^ (-1 : Int32))) g0x r0 t0 n27 (c.1, (0 : Int32)) σ _ _ k26 ?_
          show xW G mX6_cutWeight (xrm 1 0 0) (xQ G (PQ r0 t0 Gb) 0 0) 78 [(0, .ref x0), (1, .int w1), (2, .int e24), (3, .int c.2)] [] (mem t25 Gb) 0 0
          obtain ⟨rfl, rfl⟩ := some_pair m10
          exact key11
        · replace m10 := ite_p c12 m10
          refine xi_goto (tgt := 78) dX6_cutWeight_37 (by decide) ?_
          obtain ⟨rfl, rfl⟩ := some_pair m10
          refine xi_sub (lv' := [(0, .ref x0), (1, .int w1), (2, .int c.1), (3, .int c.2)]) [1, 2, 3, 4] rfl ?_
          exact key11
noncomputable def FX6_cutWeight (x : Nat) (a : Int32) (σ : St) : Option ((Int32) × St) :=
  (chk (netAt x) (bnd (wh (SX6_cutWeight_4 x a) ((0 : Int32), (0 : Int32)) σ) (fun e28 t29 => (some (e28, t29)))))
set_option maxHeartbeats 4000000 in
set_option maxRecDepth 100000 in
theorem KX6_cutWeight (G : xG) (Gb : xMem) (x : Nat) (a : Int32) (σ : St) (r0 : Int32) (t0 : St) (hq : FX6_cutWeight x a σ = some (r0, t0)) : xC G mX6_cutWeight 1 0 0 [.ref x, .int a] (mem σ Gb) (PQ r0 t0 Gb) := by
  unfold FX6_cutWeight at hq
  refine xC.of (by decide) (Nat.le_of_ble_eq_true rfl) ?_
  show xW _ _ _ _ 0 [(0, .ref x), (1, .int a)] [] _ 0 0
  obtain ⟨g_x, hq⟩ := chk_some hq
  refine xi_iconst (v := 0) dX6_cutWeight_0 (by decide) ?_
  refine xi_istore_n (lv' := [(2, .int 0), (0, .ref x), (1, .int a)]) dX6_cutWeight_1 (by decide) rfl ?_
  refine xi_iconst (v := 0) dX6_cutWeight_2 (by decide) ?_
  refine xi_istore_n (lv' := [(3, .int 0), (2, .int 0), (0, .ref x), (1, .int a)]) dX6_cutWeight_3 (by decide) rfl ?_
  refine xi_sub (lv' := [(0, .ref x), (1, .int a), (2, .int 0), (3, .int 0)]) [2, 3, 1, 0] rfl ?_
  obtain ⟨e28, t29, k30, hq⟩ := bnd_some hq
  obtain ⟨n31, k30⟩ := wh_itr k30
  refine SX6_cutWeight_4_w G Gb x a g_x r0 t0 n31 ((0 : Int32), (0 : Int32)) σ _ _ k30 ?_
  show xW G mX6_cutWeight (xrm 1 0 0) (xQ G (PQ r0 t0 Gb) 0 0) 84 [(2, .int e28)] [] (mem t29 Gb) 0 0
  refine xi_iload_n 0 dX6_cutWeight_84 rfl ?_
  have r32 := some_pair hq
  obtain ⟨rfl, rfl⟩ := r32
  exact xi_iret dX6_cutWeight_85 rfl rfl (Nat.le_of_ble_eq_true rfl) (Nat.le_of_ble_eq_true rfl) ⟨rfl, rfl⟩
noncomputable def SX10_thinnestHalf_7 (x0 : Nat) (c : Int32 × Int32 × Int32) (σ : St) : Option (((Int32 × Int32 × Int32) ⊕ (Int32)) × St) :=
  (bnd (FX5_allBits x0 σ) (fun v1 t2 => (if v1 < c.2.2 then (some (Sum.inr c.1, t2)) else (bnd (FJ6_bitCount_0f7a4 c.2.2 t2) (fun v5 t6 => (rdb t6 x0 (0) (fun v8 => (bnd (if v5 = (v8 / (2 : Int32)) then (bnd (FX6_cutWeight x0 c.2.2 t6) (fun v15 t16 => (if c.2.1 ≤ v15 then (some ((c.1, c.2.1), t16)) else (some ((c.2.2, v15), t16))))) else (some ((c.1, c.2.1), t6))) (fun v11 t12 => (some (Sum.inl (v11.1, v11.2, (c.2.2 + 1)), t12)))))))))))
set_option maxHeartbeats 4000000 in
set_option maxRecDepth 100000 in
theorem SX10_thinnestHalf_7_w (G : xG) (Gb : xMem) (x0 : Nat) (g0x : netAt x0 = true) (r0 : Int32) (t0 : St) :
    ∀ (k : Nat) (c : Int32 × Int32 × Int32) (σ : St) (r : Int32) (σ' : St), itr (SX10_thinnestHalf_7 x0) k c σ = some (r, σ') → (xW G mX10_thinnestHalf (xrm 2 0 0) (xQ G (PQ r0 t0 Gb) 0 0) 52 [(1, .int r)] [] (mem σ' Gb) 0 0) → xW G mX10_thinnestHalf (xrm 2 0 0) (xQ G (PQ r0 t0 Gb) 0 0) 7 [(0, .ref x0), (1, .int c.1), (2, .int c.2.1), (3, .int c.2.2)] [] (mem σ Gb) 0 0 := by
  intro k
  induction k with
  | zero =>
    intro c σ r σ' h
    exact absurd h (itr_zero _ _ _ _)
  | succ k ih =>
    intro c σ r σ' h HE
    obtain ⟨x, s1, hs, h⟩ := itr_succ h
    unfold SX10_thinnestHalf_7 at hs
    refine xi_iload_n 3 dX10_thinnestHalf_7 rfl ?_
    refine xi_aload_n 0 dX10_thinnestHalf_8 rfl ?_
    obtain ⟨v1, t2, k3, hs⟩ := bnd_some hs
    refine xi_callV (as := []) (rest := [.int c.2.2]) dX10_thinnestHalf_9 (KX5_allBits G Gb x0 _ _ _ k3) mkX5_allBits w_441 w_442 w_532 (mem_get (netAt_0 g0x)) rfl rfl rfl rfl (Nat.le_of_ble_eq_true rfl) (Nat.le_of_ble_eq_true rfl) (Nat.le_of_ble_eq_true rfl) (Nat.le_of_ble_eq_true rfl) (Nat.le_of_ble_eq_true rfl) ?_
    intro v M2 hz
    obtain ⟨rfl, rfl⟩ := hz
    show xW _ _ _ _ 12 _ [.int v1, .int c.2.2] (mem t2 Gb) _ _
    refine xi_icmp_gt (tgt := 52) dX10_thinnestHalf_12 (by decide) (fun c4 => ?_) (fun c4 => ?_)
    · replace hs := ite_p c4 hs
      refine xi_sub (lv' := [(1, .int c.1)]) [1] rfl ?_
      obtain ⟨rfl, rfl⟩ := some_pair hs
      obtain ⟨rfl, rfl⟩ := some_pair h
      exact HE
    · replace hs := ite_n c4 hs
      refine xi_iload_n 3 dX10_thinnestHalf_15 rfl ?_
      obtain ⟨v5, t6, k7, hs⟩ := bnd_some hs
      refine xi_callS (as := [.int c.2.2]) (rest := []) dX10_thinnestHalf_16 (KJ6_bitCount_0f7a4 G Gb c.2.2 _ _ _ k7) mkJ6_bitCount_0f7a4 w_508 w_536 rfl rfl (Nat.le_of_ble_eq_true rfl) (Nat.le_of_ble_eq_true rfl) (Nat.le_of_ble_eq_true rfl) (Nat.le_of_ble_eq_true rfl) (Nat.le_of_ble_eq_true rfl) ?_
      intro v M2 hz
      obtain ⟨rfl, rfl⟩ := hz
      show xW _ _ _ _ 19 _ [.int v5] (mem t6 Gb) _ _
      refine xi_aload_n 0 dX10_thinnestHalf_19 rfl ?_
      obtain ⟨v8, h9, hs⟩ := rdb_some hs
      refine yi_getV (f := 0) dX10_thinnestHalf_20 (netAt_0 g0x) rfl ok_5 (by decide) w_62 rfl h9 ?_
      refine xi_iconst (v := 2) dX10_thinnestHalf_23 (by decide) ?_
      refine xi_idiv (v := v8 / (2 : Int32)) dX10_thinnestHalf_24 (by decide) rfl ?_
      obtain ⟨v11, t12, m13, hs⟩ := bnd_some hs
      have key14 : xW G mX10_thinnestHalf (xrm 2 0 0) (xQ G (PQ r0 t0 Gb) 0 0) 46 [(0, .ref x0), (1, .int v11.1), (2, .int v11.2), (3, .int c.2.2)] [] (mem t12 Gb) 0 0 := by
        refine xi_iinc (v := (c.2.2 + 1)) (lv' := [(3, .int (c.2.2 + 1)), (0, .ref x0), (1, .int v11.1), (2, .int v11.2)]) 3 dX10_thinnestHalf_46 rfl rfl (by decide) rfl ?_
        refine xi_goto (tgt := 7) dX10_thinnestHalf_49 (by decide) ?_
        refine xi_sub (lv' := [(0, .ref x0), (1, .int v11.1), (2, .int v11.2), (3, .int (c.2.2 + 1))]) [1, 2, 3, 0] rfl ?_
        obtain ⟨rfl, rfl⟩ := some_pair hs
        exact ih (v11.1, v11.2, (c.2.2 + 1)) t12 _ _ h HE
      refine xi_icmp_ne (tgt := 46) dX10_thinnestHalf_25 (by decide) (fun c10 => ?_) (fun c10 => ?_)
      · replace m13 := ite_n c10 m13
        obtain ⟨rfl, rfl⟩ := some_pair m13
        exact key14
      · replace m13 := ite_p c10 m13
        refine xi_aload_n 0 dX10_thinnestHalf_28 rfl ?_
        refine xi_iload_n 3 dX10_thinnestHalf_29 rfl ?_
        obtain ⟨v15, t16, k17, m13⟩ := bnd_some m13
        refine xi_callS (as := [.ref x0, .int c.2.2]) (rest := []) dX10_thinnestHalf_30 (KX6_cutWeight G Gb x0 c.2.2 _ _ _ k17) mkX6_cutWeight w_608 w_835 rfl rfl (Nat.le_of_ble_eq_true rfl) (Nat.le_of_ble_eq_true rfl) (Nat.le_of_ble_eq_true rfl) (Nat.le_of_ble_eq_true rfl) (Nat.le_of_ble_eq_true rfl) ?_
        intro v M2 hz
        obtain ⟨rfl, rfl⟩ := hz
        show xW _ _ _ _ 33 _ [.int v15] (mem t16 Gb) _ _
        refine xi_istore (lv' := [(4, .int v15), (0, .ref x0), (1, .int c.1), (2, .int c.2.1), (3, .int c.2.2)]) dX10_thinnestHalf_33 (by decide) rfl ?_
        refine xi_iload 0 dX10_thinnestHalf_35 rfl ?_
        refine xi_iload_n 3 dX10_thinnestHalf_37 rfl ?_
        refine xi_icmp_ge (tgt := 46) dX10_thinnestHalf_38 (by decide) (fun c18 => ?_) (fun c18 => ?_)
        · replace m13 := ite_p c18 m13
          obtain ⟨rfl, rfl⟩ := some_pair m13
          refine xi_sub (lv' := [(0, .ref x0), (1, .int c.1), (2, .int c.2.1), (3, .int c.2.2)]) [1, 2, 3, 4] rfl ?_
          exact key14
        · replace m13 := ite_n c18 m13
          refine xi_iload 0 dX10_thinnestHalf_41 rfl ?_
          refine xi_istore_n (lv' := [(2, .int v15), (4, .int v15), (0, .ref x0), (1, .int c.1), (3, .int c.2.2)]) dX10_thinnestHalf_43 (by decide) rfl ?_
          refine xi_iload_n 4 dX10_thinnestHalf_44 rfl ?_
          refine xi_istore_n (lv' := [(1, .int c.2.2), (2, .int v15), (4, .int v15), (0, .ref x0), (3, .int c.2.2)]) dX10_thinnestHalf_45 (by decide) rfl ?_
          obtain ⟨rfl, rfl⟩ := some_pair m13
          refine xi_sub (lv' := [(0, .ref x0), (1, .int c.2.2), (2, .int v15), (3, .int c.2.2)]) [3, 0, 1, 4] rfl ?_
          exact key14
noncomputable def FX10_thinnestHalf (x : Nat) (σ : St) : Option ((Int32) × St) :=
  (chk (netAt x) (bnd (wh (SX10_thinnestHalf_7 x) ((0 : Int32), (1048576 : Int32), (0 : Int32)) σ) (fun e19 t20 => (some (e19, t20)))))
set_option maxHeartbeats 4000000 in
set_option maxRecDepth 100000 in
theorem KX10_thinnestHalf (G : xG) (Gb : xMem) (x : Nat) (σ : St) (r0 : Int32) (t0 : St) (hq : FX10_thinnestHalf x σ = some (r0, t0)) : xC G mX10_thinnestHalf 2 0 0 [.ref x] (mem σ Gb) (PQ r0 t0 Gb) := by
  unfold FX10_thinnestHalf at hq
  refine xC.of (by decide) (Nat.le_of_ble_eq_true rfl) ?_
  show xW _ _ _ _ 0 [(0, .ref x)] [] _ 0 0
  obtain ⟨g_x, hq⟩ := chk_some hq
  refine xi_iconst (v := 0) dX10_thinnestHalf_0 (by decide) ?_
  refine xi_istore_n (lv' := [(1, .int 0), (0, .ref x)]) dX10_thinnestHalf_1 (by decide) rfl ?_
  refine xi_ldc (v := 1048576) dX10_thinnestHalf_2 w_834 ?_
  refine xi_istore_n (lv' := [(2, .int 1048576), (1, .int 0), (0, .ref x)]) dX10_thinnestHalf_4 (by decide) rfl ?_
  refine xi_iconst (v := 0) dX10_thinnestHalf_5 (by decide) ?_
  refine xi_istore_n (lv' := [(3, .int 0), (2, .int 1048576), (1, .int 0), (0, .ref x)]) dX10_thinnestHalf_6 (by decide) rfl ?_
  refine xi_sub (lv' := [(0, .ref x), (1, .int 0), (2, .int 1048576), (3, .int 0)]) [3, 2, 1, 0] rfl ?_
  obtain ⟨e19, t20, k21, hq⟩ := bnd_some hq
  obtain ⟨n22, k21⟩ := wh_itr k21
  refine SX10_thinnestHalf_7_w G Gb x g_x r0 t0 n22 ((0 : Int32), (1048576 : Int32), (0 : Int32)) σ _ _ k21 ?_
  show xW G mX10_thinnestHalf (xrm 2 0 0) (xQ G (PQ r0 t0 Gb) 0 0) 52 [(1, .int e19)] [] (mem t20 Gb) 0 0
  refine xi_iload_n 0 dX10_thinnestHalf_52 rfl ?_
  have r23 := some_pair hq
  obtain ⟨rfl, rfl⟩ := r23
  exact xi_iret dX10_thinnestHalf_53 rfl rfl (Nat.le_of_ble_eq_true rfl) (Nat.le_of_ble_eq_true rfl) ⟨rfl, rfl⟩
noncomputable def SX10_wholeWeight_4 (x0 : Nat) (c : Int32 × Int32) (σ : St) : Option (((Int32 × Int32) ⊕ (Int32)) × St) :=
  (rdb σ x0 (0) (fun v1 => (if v1 ≤ c.2 then (some (Sum.inr c.1, σ)) else (bnd (FX10_weightAt x0 c.2 σ) (fun v4 t5 => (some (Sum.inl ((c.1 + v4), (c.2 + 1)), t5)))))))
set_option maxHeartbeats 4000000 in
set_option maxRecDepth 100000 in
theorem SX10_wholeWeight_4_w (G : xG) (Gb : xMem) (x0 : Nat) (g0x : netAt x0 = true) (r0 : Int32) (t0 : St) :
    ∀ (k : Nat) (c : Int32 × Int32) (σ : St) (r : Int32) (σ' : St), itr (SX10_wholeWeight_4 x0) k c σ = some (r, σ') → (xW G mX10_wholeWeight (xrm 2 0 0) (xQ G (PQ r0 t0 Gb) 0 0) 26 [(1, .int r)] [] (mem σ' Gb) 0 0) → xW G mX10_wholeWeight (xrm 2 0 0) (xQ G (PQ r0 t0 Gb) 0 0) 4 [(0, .ref x0), (1, .int c.1), (2, .int c.2)] [] (mem σ Gb) 0 0 := by
  intro k
  induction k with
  | zero =>
    intro c σ r σ' h
    exact absurd h (itr_zero _ _ _ _)
  | succ k ih =>
    intro c σ r σ' h HE
    obtain ⟨x, s1, hs, h⟩ := itr_succ h
    unfold SX10_wholeWeight_4 at hs
    refine xi_iload_n 2 dX10_wholeWeight_4 rfl ?_
    refine xi_aload_n 0 dX10_wholeWeight_5 rfl ?_
    obtain ⟨v1, h2, hs⟩ := rdb_some hs
    refine yi_getV (f := 0) dX10_wholeWeight_6 (netAt_0 g0x) rfl ok_5 (by decide) w_62 rfl h2 ?_
    refine xi_icmp_ge (tgt := 26) dX10_wholeWeight_9 (by decide) (fun c3 => ?_) (fun c3 => ?_)
    · replace hs := ite_p c3 hs
      refine xi_sub (lv' := [(1, .int c.1)]) [1] rfl ?_
      obtain ⟨rfl, rfl⟩ := some_pair hs
      obtain ⟨rfl, rfl⟩ := some_pair h
      exact HE
    · replace hs := ite_n c3 hs
      refine xi_iload_n 1 dX10_wholeWeight_12 rfl ?_
      refine xi_aload_n 0 dX10_wholeWeight_13 rfl ?_
      refine xi_iload_n 2 dX10_wholeWeight_14 rfl ?_
      obtain ⟨v4, t5, k6, hs⟩ := bnd_some hs
      refine xi_callS (as := [.ref x0, .int c.2]) (rest := [.int c.1]) dX10_wholeWeight_15 (KX10_weightAt G Gb x0 c.2 _ _ _ k6) mkX10_weightAt w_497 w_496 rfl rfl (Nat.le_of_ble_eq_true rfl) (Nat.le_of_ble_eq_true rfl) (Nat.le_of_ble_eq_true rfl) (Nat.le_of_ble_eq_true rfl) (Nat.le_of_ble_eq_true rfl) ?_
      intro v M2 hz
      obtain ⟨rfl, rfl⟩ := hz
      show xW _ _ _ _ 18 _ [.int v4, .int c.1] (mem t5 Gb) _ _
      refine xi_iadd (v := c.1 + v4) dX10_wholeWeight_18 rfl ?_
      refine xi_istore_n (lv' := [(1, .int (c.1 + v4)), (0, .ref x0), (2, .int c.2)]) dX10_wholeWeight_19 (by decide) rfl ?_
      refine xi_iinc (v := (c.2 + 1)) (lv' := [(2, .int (c.2 + 1)), (1, .int (c.1 + v4)), (0, .ref x0)]) 2 dX10_wholeWeight_20 rfl rfl (by decide) rfl ?_
      refine xi_goto (tgt := 4) dX10_wholeWeight_23 (by decide) ?_
      refine xi_sub (lv' := [(0, .ref x0), (1, .int (c.1 + v4)), (2, .int (c.2 + 1))]) [2, 1, 0] rfl ?_
      obtain ⟨rfl, rfl⟩ := some_pair hs
      exact ih ((c.1 + v4), (c.2 + 1)) t5 _ _ h HE
noncomputable def FX10_wholeWeight (x : Nat) (σ : St) : Option ((Int32) × St) :=
  (chk (netAt x) (bnd (wh (SX10_wholeWeight_4 x) ((0 : Int32), (0 : Int32)) σ) (fun e7 t8 => (some ((e7 / (2 : Int32)), t8)))))
set_option maxHeartbeats 4000000 in
set_option maxRecDepth 100000 in
theorem KX10_wholeWeight (G : xG) (Gb : xMem) (x : Nat) (σ : St) (r0 : Int32) (t0 : St) (hq : FX10_wholeWeight x σ = some (r0, t0)) : xC G mX10_wholeWeight 2 0 0 [.ref x] (mem σ Gb) (PQ r0 t0 Gb) := by
  unfold FX10_wholeWeight at hq
  refine xC.of (by decide) (Nat.le_of_ble_eq_true rfl) ?_
  show xW _ _ _ _ 0 [(0, .ref x)] [] _ 0 0
  obtain ⟨g_x, hq⟩ := chk_some hq
  refine xi_iconst (v := 0) dX10_wholeWeight_0 (by decide) ?_
  refine xi_istore_n (lv' := [(1, .int 0), (0, .ref x)]) dX10_wholeWeight_1 (by decide) rfl ?_
  refine xi_iconst (v := 0) dX10_wholeWeight_2 (by decide) ?_
  refine xi_istore_n (lv' := [(2, .int 0), (1, .int 0), (0, .ref x)]) dX10_wholeWeight_3 (by decide) rfl ?_
  refine xi_sub (lv' := [(0, .ref x), (1, .int 0), (2, .int 0)]) [2, 1, 0] rfl ?_
  obtain ⟨e7, t8, k9, hq⟩ := bnd_some hq
  obtain ⟨n10, k9⟩ := wh_itr k9
  refine SX10_wholeWeight_4_w G Gb x g_x r0 t0 n10 ((0 : Int32), (0 : Int32)) σ _ _ k9 ?_
  show xW G mX10_wholeWeight (xrm 2 0 0) (xQ G (PQ r0 t0 Gb) 0 0) 26 [(1, .int e7)] [] (mem t8 Gb) 0 0
  refine xi_iload_n 0 dX10_wholeWeight_26 rfl ?_
  refine xi_iconst (v := 2) dX10_wholeWeight_27 (by decide) ?_
  refine xi_idiv (v := e7 / (2 : Int32)) dX10_wholeWeight_28 (by decide) rfl ?_
  have r11 := some_pair hq
  obtain ⟨rfl, rfl⟩ := r11
  exact xi_iret dX10_wholeWeight_29 rfl rfl (Nat.le_of_ble_eq_true rfl) (Nat.le_of_ble_eq_true rfl) ⟨rfl, rfl⟩
noncomputable def FX6_aboveOf (a : Int32) (b : Int32) (σ : St) : Option ((Int32) × St) :=
  (some ((a &&& (-(shl (2 : Int32) b))), σ))
set_option maxHeartbeats 4000000 in
set_option maxRecDepth 100000 in
theorem KX6_aboveOf (G : xG) (Gb : xMem) (a : Int32) (b : Int32) (σ : St) (r0 : Int32) (t0 : St) (hq : FX6_aboveOf a b σ = some (r0, t0)) : xC G mX6_aboveOf 0 0 0 [.int a, .int b] (mem σ Gb) (PQ r0 t0 Gb) := by
  unfold FX6_aboveOf at hq
  refine xC.of (by decide) (Nat.le_of_ble_eq_true rfl) ?_
  show xW _ _ _ _ 0 [(0, .int a), (1, .int b)] [] _ 0 0
  refine xi_iload_n 0 dX6_aboveOf_0 rfl ?_
  refine xi_iconst (v := 2) dX6_aboveOf_1 (by decide) ?_
  refine xi_iload_n 1 dX6_aboveOf_2 rfl ?_
  refine xi_ishl (v := shl (2 : Int32) b) dX6_aboveOf_3 rfl ?_
  refine xi_ineg dX6_aboveOf_4 rfl ?_
  refine xi_iand (v := a &&& (-(shl (2 : Int32) b))) dX6_aboveOf_5 rfl ?_
  have r1 := some_pair hq
  obtain ⟨rfl, rfl⟩ := r1
  exact xi_iret dX6_aboveOf_6 rfl rfl (Nat.le_of_ble_eq_true rfl) (Nat.le_of_ble_eq_true rfl) ⟨rfl, rfl⟩
noncomputable def FX6_isTakenOut (a : Int32) (σ : St) : Option ((Int32) × St) :=
  (if a = (5 : Int32) then (some ((1 : Int32), σ)) else (if a = (6 : Int32) then (some ((1 : Int32), σ)) else (some ((0 : Int32), σ))))
set_option maxHeartbeats 4000000 in
set_option maxRecDepth 100000 in
theorem KX6_isTakenOut (G : xG) (Gb : xMem) (a : Int32) (σ : St) (r0 : Int32) (t0 : St) (hq : FX6_isTakenOut a σ = some (r0, t0)) : xC G mX6_isTakenOut 0 0 0 [.int a] (mem σ Gb) (PQ r0 t0 Gb) := by
  unfold FX6_isTakenOut at hq
  refine xC.of (by decide) (Nat.le_of_ble_eq_true rfl) ?_
  show xW _ _ _ _ 0 [(0, .int a)] [] _ 0 0
  refine xi_iload_n 0 dX6_isTakenOut_0 rfl ?_
  refine xi_iconst (v := 5) dX6_isTakenOut_1 (by decide) ?_
  refine xi_icmp_eq (tgt := 11) dX6_isTakenOut_2 (by decide) (fun c1 => ?_) (fun c1 => ?_)
  · replace hq := ite_p c1 hq
    refine xi_iconst (v := 1) dX6_isTakenOut_11 (by decide) ?_
    refine xi_goto (tgt := 16) dX6_isTakenOut_12 (by decide) ?_
    have r2 := some_pair hq
    obtain ⟨rfl, rfl⟩ := r2
    exact xi_iret dX6_isTakenOut_16 rfl (by decide) (Nat.le_of_ble_eq_true rfl) (Nat.le_of_ble_eq_true rfl) ⟨rfl, rfl⟩
  · replace hq := ite_n c1 hq
    refine xi_iload_n 0 dX6_isTakenOut_5 rfl ?_
    refine xi_bipush (v := 6) dX6_isTakenOut_6 (by decide) ?_
    refine xi_icmp_ne (tgt := 15) dX6_isTakenOut_8 (by decide) (fun c3 => ?_) (fun c3 => ?_)
    · replace hq := ite_n c3 hq
      refine xi_iconst (v := 0) dX6_isTakenOut_15 (by decide) ?_
      have r4 := some_pair hq
      obtain ⟨rfl, rfl⟩ := r4
      exact xi_iret dX6_isTakenOut_16 rfl (by decide) (Nat.le_of_ble_eq_true rfl) (Nat.le_of_ble_eq_true rfl) ⟨rfl, rfl⟩
    · replace hq := ite_p c3 hq
      refine xi_iconst (v := 1) dX6_isTakenOut_11 (by decide) ?_
      refine xi_goto (tgt := 16) dX6_isTakenOut_12 (by decide) ?_
      have r5 := some_pair hq
      obtain ⟨rfl, rfl⟩ := r5
      exact xi_iret dX6_isTakenOut_16 rfl (by decide) (Nat.le_of_ble_eq_true rfl) (Nat.le_of_ble_eq_true rfl) ⟨rfl, rfl⟩
noncomputable def FX6_aheadAtStep (a : Int32) (b : Int32) (c : Int32) (σ : St) : Option ((Int32) × St) :=
  (bnd (FX6_isTakenOut a σ) (fun v1 t2 => (if v1 = (0 : Int32) then (some ((b ||| (shl (1 : Int32) c)), t2)) else (some (b, t2)))))
set_option maxHeartbeats 4000000 in
set_option maxRecDepth 100000 in
theorem KX6_aheadAtStep (G : xG) (Gb : xMem) (a : Int32) (b : Int32) (c : Int32) (σ : St) (r0 : Int32) (t0 : St) (hq : FX6_aheadAtStep a b c σ = some (r0, t0)) : xC G mX6_aheadAtStep 1 0 0 [.int a, .int b, .int c] (mem σ Gb) (PQ r0 t0 Gb) := by
  unfold FX6_aheadAtStep at hq
  refine xC.of (by decide) (Nat.le_of_ble_eq_true rfl) ?_
  show xW _ _ _ _ 0 [(0, .int a), (1, .int b), (2, .int c)] [] _ 0 0
  refine xi_iload_n 0 dX6_aheadAtStep_0 rfl ?_
  obtain ⟨v1, t2, k3, hq⟩ := bnd_some hq
  refine xi_callS (as := [.int a]) (rest := []) dX6_aheadAtStep_1 (KX6_isTakenOut G Gb a _ _ _ k3) mkX6_isTakenOut w_583 w_582 rfl rfl (Nat.le_of_ble_eq_true rfl) (Nat.le_of_ble_eq_true rfl) (Nat.le_of_ble_eq_true rfl) (Nat.le_of_ble_eq_true rfl) (Nat.le_of_ble_eq_true rfl) ?_
  intro v M2 hz
  obtain ⟨rfl, rfl⟩ := hz
  show xW _ _ _ _ 4 _ [.int v1] (mem t2 Gb) _ _
  refine xi_if_eq (tgt := 11) dX6_aheadAtStep_4 (by decide) (fun c4 => ?_) (fun c4 => ?_)
  · replace hq := ite_p c4 hq
    refine xi_iload_n 1 dX6_aheadAtStep_11 rfl ?_
    refine xi_iconst (v := 1) dX6_aheadAtStep_12 (by decide) ?_
    refine xi_iload_n 2 dX6_aheadAtStep_13 rfl ?_
    refine xi_ishl (v := shl (1 : Int32) c) dX6_aheadAtStep_14 rfl ?_
    refine xi_ior (v := b ||| (shl (1 : Int32) c)) dX6_aheadAtStep_15 rfl ?_
    have r5 := some_pair hq
    obtain ⟨rfl, rfl⟩ := r5
    exact xi_iret dX6_aheadAtStep_16 rfl rfl (Nat.le_of_ble_eq_true rfl) (Nat.le_of_ble_eq_true rfl) ⟨rfl, rfl⟩
  · replace hq := ite_n c4 hq
    refine xi_iload_n 1 dX6_aheadAtStep_7 rfl ?_
    refine xi_goto (tgt := 16) dX6_aheadAtStep_8 (by decide) ?_
    have r6 := some_pair hq
    obtain ⟨rfl, rfl⟩ := r6
    exact xi_iret dX6_aheadAtStep_16 rfl rfl (Nat.le_of_ble_eq_true rfl) (Nat.le_of_ble_eq_true rfl) ⟨rfl, rfl⟩
noncomputable def SX6_withLineInto_5 (x0 : Nat) (w1 : Int32) (w2 : Int32) (c : Int32 × Int32) (σ : St) : Option (((Int32 × Int32) ⊕ (Int32)) × St) :=
  (rdb σ x0 (0) (fun v1 => (if v1 ≤ c.2 then (some (Sum.inr c.1, σ)) else (bnd (if ((shr w1 c.2) &&& (1 : Int32)) = (0 : Int32) then (some (c.1, σ)) else (chk (inb c.2 9) (rdb σ (x0 + 1) (c.2.toNatClampNeg) (fun v10 => (if (v10 &&& w2) = (0 : Int32) then (some (c.1, σ)) else (some ((c.1 ||| (shl (1 : Int32) c.2)), σ))))))) (fun v5 t6 => (some (Sum.inl (v5, (c.2 + 1)), t6)))))))
set_option maxHeartbeats 4000000 in
set_option maxRecDepth 100000 in
theorem SX6_withLineInto_5_w (G : xG) (Gb : xMem) (x0 : Nat) (w1 : Int32) (w2 : Int32) (g0x : netAt x0 = true) (r0 : Int32) (t0 : St) :
    ∀ (k : Nat) (c : Int32 × Int32) (σ : St) (r : Int32) (σ' : St), itr (SX6_withLineInto_5 x0 w1 w2) k c σ = some (r, σ') → (xW G mX6_withLineInto (xrm 0 0 0) (xQ G (PQ r0 t0 Gb) 0 0) 48 [(3, .int r)] [] (mem σ' Gb) 0 0) → xW G mX6_withLineInto (xrm 0 0 0) (xQ G (PQ r0 t0 Gb) 0 0) 5 [(0, .ref x0), (1, .int w1), (2, .int w2), (3, .int c.1), (4, .int c.2)] [] (mem σ Gb) 0 0 := by
  intro k
  induction k with
  | zero =>
    intro c σ r σ' h
    exact absurd h (itr_zero _ _ _ _)
  | succ k ih =>
    intro c σ r σ' h HE
    obtain ⟨x, s1, hs, h⟩ := itr_succ h
    unfold SX6_withLineInto_5 at hs
    refine xi_iload 4 dX6_withLineInto_5 rfl ?_
    refine xi_aload_n 0 dX6_withLineInto_7 rfl ?_
    obtain ⟨v1, h2, hs⟩ := rdb_some hs
    refine yi_getV (f := 0) dX6_withLineInto_8 (netAt_0 g0x) rfl ok_5 (by decide) w_67 rfl h2 ?_
    refine xi_icmp_ge (tgt := 48) dX6_withLineInto_11 (by decide) (fun c3 => ?_) (fun c3 => ?_)
    · replace hs := ite_p c3 hs
      refine xi_sub (lv' := [(3, .int c.1)]) [3] rfl ?_
      obtain ⟨rfl, rfl⟩ := some_pair hs
      obtain ⟨rfl, rfl⟩ := some_pair h
      exact HE
    · replace hs := ite_n c3 hs
      refine xi_iload_n 1 dX6_withLineInto_14 rfl ?_
      refine xi_iload 4 dX6_withLineInto_15 rfl ?_
      refine xi_ishr (v := shr w1 c.2) dX6_withLineInto_17 rfl ?_
      refine xi_iconst (v := 1) dX6_withLineInto_18 (by decide) ?_
      refine xi_iand (v := (shr w1 c.2) &&& (1 : Int32)) dX6_withLineInto_19 rfl ?_
      obtain ⟨v5, t6, m7, hs⟩ := bnd_some hs
      have key8 : xW G mX6_withLineInto (xrm 0 0 0) (xQ G (PQ r0 t0 Gb) 0 0) 42 [(0, .ref x0), (1, .int w1), (2, .int w2), (3, .int v5), (4, .int c.2)] [] (mem t6 Gb) 0 0 := by
        refine xi_iinc (v := (c.2 + 1)) (lv' := [(4, .int (c.2 + 1)), (0, .ref x0), (1, .int w1), (2, .int w2), (3, .int v5)]) 4 dX6_withLineInto_42 rfl rfl (by decide) rfl ?_
        refine xi_goto (tgt := 5) dX6_withLineInto_45 (by decide) ?_
        refine xi_sub (lv' := [(0, .ref x0), (1, .int w1), (2, .int w2), (3, .int v5), (4, .int (c.2 + 1))]) [1, 2, 3, 4, 0] rfl ?_
        obtain ⟨rfl, rfl⟩ := some_pair hs
        exact ih (v5, (c.2 + 1)) t6 _ _ h HE
      refine xi_if_eq (tgt := 42) dX6_withLineInto_20 (by decide) (fun c4 => ?_) (fun c4 => ?_)
      · replace m7 := ite_p c4 m7
        obtain ⟨rfl, rfl⟩ := some_pair m7
        exact key8
      · replace m7 := ite_n c4 m7
        refine xi_aload_n 0 dX6_withLineInto_23 rfl ?_
        refine yi_getR (f := 2) dX6_withLineInto_24 (netAt_0 g0x) rfl ok_5 (by decide) w_74 rfl ?_
        refine xi_iload 4 dX6_withLineInto_27 rfl ?_
        obtain ⟨g9, m7⟩ := chk_some m7
        obtain ⟨v10, h11, m7⟩ := rdb_some m7
        refine yi_ialoadV dX6_withLineInto_29 (netAt_1 g0x) g9 h11 ?_
        refine xi_iload_n 2 dX6_withLineInto_30 rfl ?_
        refine xi_iand (v := v10 &&& w2) dX6_withLineInto_31 rfl ?_
        refine xi_if_eq (tgt := 42) dX6_withLineInto_32 (by decide) (fun c12 => ?_) (fun c12 => ?_)
        · replace m7 := ite_p c12 m7
          obtain ⟨rfl, rfl⟩ := some_pair m7
          exact key8
        · replace m7 := ite_n c12 m7
          refine xi_iload_n 3 dX6_withLineInto_35 rfl ?_
          refine xi_iconst (v := 1) dX6_withLineInto_36 (by decide) ?_
          refine xi_iload 4 dX6_withLineInto_37 rfl ?_
          refine xi_ishl (v := shl (1 : Int32) c.2) dX6_withLineInto_39 rfl ?_
          refine xi_ior (v := c.1 ||| (shl (1 : Int32) c.2)) dX6_withLineInto_40 rfl ?_
          refine xi_istore_n (lv' := [(3, .int (c.1 ||| (shl (1 : Int32) c.2))), (0, .ref x0), (1, .int w1), (2, .int w2), (4, .int c.2)]) dX6_withLineInto_41 (by decide) rfl ?_
          obtain ⟨rfl, rfl⟩ := some_pair m7
          refine xi_sub (lv' := [(0, .ref x0), (1, .int w1), (2, .int w2), (3, .int (c.1 ||| (shl (1 : Int32) c.2))), (4, .int c.2)]) [1, 2, 3, 0, 4] rfl ?_
          exact key8
noncomputable def FX6_withLineInto (x : Nat) (a : Int32) (b : Int32) (σ : St) : Option ((Int32) × St) :=
  (chk (netAt x) (bnd (wh (SX6_withLineInto_5 x a b) ((0 : Int32), (0 : Int32)) σ) (fun e13 t14 => (some (e13, t14)))))
set_option maxHeartbeats 4000000 in
set_option maxRecDepth 100000 in
theorem KX6_withLineInto (G : xG) (Gb : xMem) (x : Nat) (a : Int32) (b : Int32) (σ : St) (r0 : Int32) (t0 : St) (hq : FX6_withLineInto x a b σ = some (r0, t0)) : xC G mX6_withLineInto 0 0 0 [.ref x, .int a, .int b] (mem σ Gb) (PQ r0 t0 Gb) := by
  unfold FX6_withLineInto at hq
  refine xC.of (by decide) (Nat.le_of_ble_eq_true rfl) ?_
  show xW _ _ _ _ 0 [(0, .ref x), (1, .int a), (2, .int b)] [] _ 0 0
  obtain ⟨g_x, hq⟩ := chk_some hq
  refine xi_iconst (v := 0) dX6_withLineInto_0 (by decide) ?_
  refine xi_istore_n (lv' := [(3, .int 0), (0, .ref x), (1, .int a), (2, .int b)]) dX6_withLineInto_1 (by decide) rfl ?_
  refine xi_iconst (v := 0) dX6_withLineInto_2 (by decide) ?_
  refine xi_istore (lv' := [(4, .int 0), (3, .int 0), (0, .ref x), (1, .int a), (2, .int b)]) dX6_withLineInto_3 (by decide) rfl ?_
  refine xi_sub (lv' := [(0, .ref x), (1, .int a), (2, .int b), (3, .int 0), (4, .int 0)]) [2, 3, 4, 1, 0] rfl ?_
  obtain ⟨e13, t14, k15, hq⟩ := bnd_some hq
  obtain ⟨n16, k15⟩ := wh_itr k15
  refine SX6_withLineInto_5_w G Gb x a b g_x r0 t0 n16 ((0 : Int32), (0 : Int32)) σ _ _ k15 ?_
  show xW G mX6_withLineInto (xrm 0 0 0) (xQ G (PQ r0 t0 Gb) 0 0) 48 [(3, .int e13)] [] (mem t14 Gb) 0 0
  refine xi_iload_n 0 dX6_withLineInto_48 rfl ?_
  have r17 := some_pair hq
  obtain ⟨rfl, rfl⟩ := r17
  exact xi_iret dX6_withLineInto_49 rfl rfl (Nat.le_of_ble_eq_true rfl) (Nat.le_of_ble_eq_true rfl) ⟨rfl, rfl⟩
noncomputable def FX6_fringeSize (x : Nat) (a : Int32) (σ : St) : Option ((Int32) × St) :=
  (chk (netAt x) (bnd (FX6_withLineInto x (a ^^^ (-1 : Int32)) a σ) (fun v1 t2 => (bnd (FJ6_bitCount_0f7a4 v1 t2) (fun v4 t5 => (some (v4, t5)))))))
set_option maxHeartbeats 4000000 in
set_option maxRecDepth 100000 in
theorem KX6_fringeSize (G : xG) (Gb : xMem) (x : Nat) (a : Int32) (σ : St) (r0 : Int32) (t0 : St) (hq : FX6_fringeSize x a σ = some (r0, t0)) : xC G mX6_fringeSize 1 0 0 [.ref x, .int a] (mem σ Gb) (PQ r0 t0 Gb) := by
  unfold FX6_fringeSize at hq
  refine xC.of (by decide) (Nat.le_of_ble_eq_true rfl) ?_
  show xW _ _ _ _ 0 [(0, .ref x), (1, .int a)] [] _ 0 0
  obtain ⟨g_x, hq⟩ := chk_some hq
  refine xi_aload_n 0 dX6_fringeSize_0 rfl ?_
  refine xi_iload_n 1 dX6_fringeSize_1 rfl ?_
  refine xi_iconst (v := (-1)) dX6_fringeSize_2 (by decide) ?_
  refine xi_ixor (v := a ^^^ (-1 : Int32)) dX6_fringeSize_3 rfl ?_
  refine xi_iload_n 1 dX6_fringeSize_4 rfl ?_
  obtain ⟨v1, t2, k3, hq⟩ := bnd_some hq
  refine xi_callS (as := [.ref x, .int (a ^^^ (-1 : Int32)), .int a]) (rest := []) dX6_fringeSize_5 (KX6_withLineInto G Gb x (a ^^^ (-1 : Int32)) a _ _ _ k3) mkX6_withLineInto w_592 w_591 rfl rfl (Nat.le_of_ble_eq_true rfl) (Nat.le_of_ble_eq_true rfl) (Nat.le_of_ble_eq_true rfl) (Nat.le_of_ble_eq_true rfl) (Nat.le_of_ble_eq_true rfl) ?_
  intro v M2 hz
  obtain ⟨rfl, rfl⟩ := hz
  show xW _ _ _ _ 8 _ [.int v1] (mem t2 Gb) _ _
  obtain ⟨v4, t5, k6, hq⟩ := bnd_some hq
  refine xi_callS (as := [.int v1]) (rest := []) dX6_fringeSize_8 (KJ6_bitCount_0f7a4 G Gb v1 _ _ _ k6) mkJ6_bitCount_0f7a4 w_508 w_594 rfl rfl (Nat.le_of_ble_eq_true rfl) (Nat.le_of_ble_eq_true rfl) (Nat.le_of_ble_eq_true rfl) (Nat.le_of_ble_eq_true rfl) (Nat.le_of_ble_eq_true rfl) ?_
  intro v M2 hz
  obtain ⟨rfl, rfl⟩ := hz
  show xW _ _ _ _ 11 _ [.int v4] (mem t5 Gb) _ _
  have r7 := some_pair hq
  obtain ⟨rfl, rfl⟩ := r7
  exact xi_iret dX6_fringeSize_11 rfl rfl (Nat.le_of_ble_eq_true rfl) (Nat.le_of_ble_eq_true rfl) ⟨rfl, rfl⟩
noncomputable def FX6_gateSize (x : Nat) (a : Int32) (σ : St) : Option ((Int32) × St) :=
  (chk (netAt x) (bnd (FX6_withLineInto x a (a ^^^ (-1 : Int32)) σ) (fun v1 t2 => (bnd (FJ6_bitCount_0f7a4 v1 t2) (fun v4 t5 => (some (v4, t5)))))))
set_option maxHeartbeats 4000000 in
set_option maxRecDepth 100000 in
theorem KX6_gateSize (G : xG) (Gb : xMem) (x : Nat) (a : Int32) (σ : St) (r0 : Int32) (t0 : St) (hq : FX6_gateSize x a σ = some (r0, t0)) : xC G mX6_gateSize 1 0 0 [.ref x, .int a] (mem σ Gb) (PQ r0 t0 Gb) := by
  unfold FX6_gateSize at hq
  refine xC.of (by decide) (Nat.le_of_ble_eq_true rfl) ?_
  show xW _ _ _ _ 0 [(0, .ref x), (1, .int a)] [] _ 0 0
  obtain ⟨g_x, hq⟩ := chk_some hq
  refine xi_aload_n 0 dX6_gateSize_0 rfl ?_
  refine xi_iload_n 1 dX6_gateSize_1 rfl ?_
  refine xi_iload_n 1 dX6_gateSize_2 rfl ?_
  refine xi_iconst (v := (-1)) dX6_gateSize_3 (by decide) ?_
  refine xi_ixor (v := a ^^^ (-1 : Int32)) dX6_gateSize_4 rfl ?_
  obtain ⟨v1, t2, k3, hq⟩ := bnd_some hq
  refine xi_callS (as := [.ref x, .int a, .int (a ^^^ (-1 : Int32))]) (rest := []) dX6_gateSize_5 (KX6_withLineInto G Gb x a (a ^^^ (-1 : Int32)) _ _ _ k3) mkX6_withLineInto w_592 w_591 rfl rfl (Nat.le_of_ble_eq_true rfl) (Nat.le_of_ble_eq_true rfl) (Nat.le_of_ble_eq_true rfl) (Nat.le_of_ble_eq_true rfl) (Nat.le_of_ble_eq_true rfl) ?_
  intro v M2 hz
  obtain ⟨rfl, rfl⟩ := hz
  show xW _ _ _ _ 8 _ [.int v1] (mem t2 Gb) _ _
  obtain ⟨v4, t5, k6, hq⟩ := bnd_some hq
  refine xi_callS (as := [.int v1]) (rest := []) dX6_gateSize_8 (KJ6_bitCount_0f7a4 G Gb v1 _ _ _ k6) mkJ6_bitCount_0f7a4 w_508 w_594 rfl rfl (Nat.le_of_ble_eq_true rfl) (Nat.le_of_ble_eq_true rfl) (Nat.le_of_ble_eq_true rfl) (Nat.le_of_ble_eq_true rfl) (Nat.le_of_ble_eq_true rfl) ?_
  intro v M2 hz
  obtain ⟨rfl, rfl⟩ := hz
  show xW _ _ _ _ 11 _ [.int v4] (mem t5 Gb) _ _
  have r7 := some_pair hq
  obtain ⟨rfl, rfl⟩ := r7
  exact xi_iret dX6_gateSize_11 rfl rfl (Nat.le_of_ble_eq_true rfl) (Nat.le_of_ble_eq_true rfl) ⟨rfl, rfl⟩
noncomputable def SX6_neighbours_50 (x0 : Nat) (w1 : Int32) (w2 : Int32) (w4 : Int32) (w5 : Int32) (w6 : Int32) (c : Int32 × Int32) (σ : St) : Option (((Int32 × Int32) ⊕ (Int32)) × St) :=
  (rdb σ x0 (0) (fun v8 => (if v8 ≤ c.2 then (some (Sum.inr c.1, σ)) else (bnd (if ((shr w6 c.2) &&& (1 : Int32)) = (0 : Int32) then (some (c.1, σ)) else (chk (inb c.2 9) (rdb σ (x0 + 1) (c.2.toNatClampNeg) (fun v17 => (some ((c.1 ||| v17), σ)))))) (fun v12 t13 => (some (Sum.inl (v12, (c.2 + 1)), t13)))))))
noncomputable def SX6_neighbours_13 (x0 : Nat) (w1 : Int32) (w2 : Int32) (c : Int32 × Int32 × Int32) (σ : St) : Option (((Int32 × Int32 × Int32) ⊕ (Int32)) × St) :=
  (rdb σ x0 (0) (fun v4 => (if v4 ≤ c.2.2 then (some (Sum.inr c.1, σ)) else (if ((c.1 &&& w1) &&& (c.2.1 ^^^ (-1 : Int32))) = (0 : Int32) then (some (Sum.inr c.1, σ)) else (bnd (wh (SX6_neighbours_50 x0 w1 w2 (c.2.1 ||| ((c.1 &&& w1) &&& (c.2.1 ^^^ (-1 : Int32)))) c.2.2 ((c.1 &&& w1) &&& (c.2.1 ^^^ (-1 : Int32)))) (c.1, (0 : Int32)) σ) (fun e19 t20 => (some (Sum.inl (e19, (c.2.1 ||| ((c.1 &&& w1) &&& (c.2.1 ^^^ (-1 : Int32)))), (c.2.2 + 1)), t20))))))))
set_option maxHeartbeats 4000000 in
set_option maxRecDepth 100000 in
theorem SX6_neighbours_50_w (G : xG) (Gb : xMem) (x0 : Nat) (w1 : Int32) (w2 : Int32) (w4 : Int32) (w5 : Int32) (w6 : Int32) (g0x : netAt x0 = true) (r0 : Int32) (t0 : St) :
    ∀ (k : Nat) (c : Int32 × Int32) (σ : St) (r : Int32) (σ' : St), itr (SX6_neighbours_50 x0 w1 w2 w4 w5 w6) k c σ = some (r, σ') → (xW G mX6_neighbours (xrm 0 0 0) (xQ G (PQ r0 t0 Gb) 0 0) 85 [(0, .ref x0), (1, .int w1), (2, .int w2), (3, .int r), (4, .int w4), (5, .int w5)] [] (mem σ' Gb) 0 0) → xW G mX6_neighbours (xrm 0 0 0) (xQ G (PQ r0 t0 Gb) 0 0) 50 [(0, .ref x0), (1, .int w1), (2, .int w2), (3, .int c.1), (4, .int w4), (5, .int w5), (6, .int w6), (7, .int c.2)] [] (mem σ Gb) 0 0 := by
  intro k
  induction k with
  | zero =>
    intro c σ r σ' h
    exact absurd h (itr_zero _ _ _ _)
  | succ k ih =>
    intro c σ r σ' h HE
    obtain ⟨x, s1, hs, h⟩ := itr_succ h
    unfold SX6_neighbours_50 at hs
    refine xi_iload 7 dX6_neighbours_50 rfl ?_
    refine xi_aload_n 0 dX6_neighbours_52 rfl ?_
    obtain ⟨v8, h9, hs⟩ := rdb_some hs
    refine yi_getV (f := 0) dX6_neighbours_53 (netAt_0 g0x) rfl ok_5 (by decide) w_67 rfl h9 ?_
    refine xi_icmp_ge (tgt := 85) dX6_neighbours_56 (by decide) (fun c10 => ?_) (fun c10 => ?_)
    · replace hs := ite_p c10 hs
      refine xi_sub (lv' := [(0, .ref x0), (1, .int w1), (2, .int w2), (3, .int c.1), (4, .int w4), (5, .int w5)]) [0, 1, 2, 3, 4, 5] rfl ?_
      obtain ⟨rfl, rfl⟩ := some_pair hs
      obtain ⟨rfl, rfl⟩ := some_pair h
      exact HE
    · replace hs := ite_n c10 hs
      refine xi_iload 6 dX6_neighbours_59 rfl ?_
      refine xi_iload 7 dX6_neighbours_61 rfl ?_
      refine xi_ishr (v := shr w6 c.2) dX6_neighbours_63 rfl ?_
      refine xi_iconst (v := 1) dX6_neighbours_64 (by decide) ?_
      refine xi_iand (v := (shr w6 c.2) &&& (1 : Int32)) dX6_neighbours_65 rfl ?_
      obtain ⟨v12, t13, m14, hs⟩ := bnd_some hs
      have key15 : xW G mX6_neighbours (xrm 0 0 0) (xQ G (PQ r0 t0 Gb) 0 0) 79 [(0, .ref x0), (1, .int w1), (2, .int w2), (3, .int v12), (4, .int w4), (5, .int w5), (6, .int w6), (7, .int c.2)] [] (mem t13 Gb) 0 0 := by
        refine xi_iinc (v := (c.2 + 1)) (lv' := [(7, .int (c.2 + 1)), (0, .ref x0), (1, .int w1), (2, .int w2), (3, .int v12), (4, .int w4), (5, .int w5), (6, .int w6)]) 7 dX6_neighbours_79 rfl rfl (by decide) rfl ?_
        refine xi_goto (tgt := 50) dX6_neighbours_82 (by decide) ?_
        refine xi_sub (lv' := [(0, .ref x0), (1, .int w1), (2, .int w2), (3, .int v12), (4, .int w4), (5, .int w5), (6, .int w6), (7, .int (c.2 + 1))]) [1, 2, 3, 4, 5, 6, 7, 0] rfl ?_
        obtain ⟨rfl, rfl⟩ := some_pair hs
        exact ih (v12, (c.2 + 1)) t13 _ _ h HE
      refine xi_if_eq (tgt := 79) dX6_neighbours_66 (by decide) (fun c11 => ?_) (fun c11 => ?_)
      · replace m14 := ite_p c11 m14
        obtain ⟨rfl, rfl⟩ := some_pair m14
        exact key15
      · replace m14 := ite_n c11 m14
        refine xi_iload_n 3 dX6_neighbours_69 rfl ?_
        refine xi_aload_n 0 dX6_neighbours_70 rfl ?_
        refine yi_getR (f := 2) dX6_neighbours_71 (netAt_0 g0x) rfl ok_5 (by decide) w_74 rfl ?_
        refine xi_iload 7 dX6_neighbours_74 rfl ?_
        obtain ⟨g16, m14⟩ := chk_some m14
        obtain ⟨v17, h18, m14⟩ := rdb_some m14
        refine yi_ialoadV dX6_neighbours_76 (netAt_1 g0x) g16 h18 ?_
        refine xi_ior (v := c.1 ||| v17) dX6_neighbours_77 rfl ?_
        refine xi_istore_n (lv' := [(3, .int (c.1 ||| v17)), (0, .ref x0), (1, .int w1), (2, .int w2), (4, .int w4), (5, .int w5), (6, .int w6), (7, .int c.2)]) dX6_neighbours_78 (by decide) rfl ?_
        obtain ⟨rfl, rfl⟩ := some_pair m14
        refine xi_sub (lv' := [(0, .ref x0), (1, .int w1), (2, .int w2), (3, .int (c.1 ||| v17)), (4, .int w4), (5, .int w5), (6, .int w6), (7, .int c.2)]) [1, 2, 3, 0, 4, 5, 6, 7] rfl ?_
        exact key15
set_option maxHeartbeats 4000000 in
set_option maxRecDepth 100000 in
theorem SX6_neighbours_13_w (G : xG) (Gb : xMem) (x0 : Nat) (w1 : Int32) (w2 : Int32) (g0x : netAt x0 = true) (r0 : Int32) (t0 : St) :
    ∀ (k : Nat) (c : Int32 × Int32 × Int32) (σ : St) (r : Int32) (σ' : St), itr (SX6_neighbours_13 x0 w1 w2) k c σ = some (r, σ') → (xW G mX6_neighbours (xrm 0 0 0) (xQ G (PQ r0 t0 Gb) 0 0) 91 [(1, .int w1), (2, .int w2), (3, .int r)] [] (mem σ' Gb) 0 0) → xW G mX6_neighbours (xrm 0 0 0) (xQ G (PQ r0 t0 Gb) 0 0) 13 [(0, .ref x0), (1, .int w1), (2, .int w2), (3, .int c.1), (4, .int c.2.1), (5, .int c.2.2)] [] (mem σ Gb) 0 0 := by
  intro k
  induction k with
  | zero =>
    intro c σ r σ' h
    exact absurd h (itr_zero _ _ _ _)
  | succ k ih =>
    intro c σ r σ' h HE
    obtain ⟨x, s1, hs, h⟩ := itr_succ h
    unfold SX6_neighbours_13 at hs
    refine xi_iload 5 dX6_neighbours_13 rfl ?_
    refine xi_aload_n 0 dX6_neighbours_15 rfl ?_
    obtain ⟨v4, h5, hs⟩ := rdb_some hs
    refine yi_getV (f := 0) dX6_neighbours_16 (netAt_0 g0x) rfl ok_5 (by decide) w_67 rfl h5 ?_
    refine xi_icmp_ge (tgt := 91) dX6_neighbours_19 (by decide) (fun c6 => ?_) (fun c6 => ?_)
    · replace hs := ite_p c6 hs
      refine xi_sub (lv' := [(1, .int w1), (2, .int w2), (3, .int c.1)]) [1, 2, 3] rfl ?_
      obtain ⟨rfl, rfl⟩ := some_pair hs
      obtain ⟨rfl, rfl⟩ := some_pair h
      exact HE
    · replace hs := ite_n c6 hs
      refine xi_iload_n 3 dX6_neighbours_22 rfl ?_
      refine xi_iload_n 1 dX6_neighbours_23 rfl ?_
      refine xi_iand (v := c.1 &&& w1) dX6_neighbours_24 rfl ?_
      refine xi_iload 4 dX6_neighbours_25 rfl ?_
      refine xi_iconst (v := (-1)) dX6_neighbours_27 (by decide) ?_
      refine xi_ixor (v := c.2.1 ^^^ (-1 : Int32)) dX6_neighbours_28 rfl ?_
      refine xi_iand (v := (c.1 &&& w1) &&& (c.2.1 ^^^ (-1 : Int32))) dX6_neighbours_29 rfl ?_
      refine xi_istore (lv' := [(6, .int ((c.1 &&& w1) &&& (c.2.1 ^^^ (-1 : Int32)))), (0, .ref x0), (1, .int w1), (2, .int w2), (3, .int c.1), (4, .int c.2.1), (5, .int c.2.2)]) dX6_neighbours_30 (by decide) rfl ?_
      refine xi_iload 0 dX6_neighbours_32 rfl ?_
      refine xi_if_ne (tgt := 40) dX6_neighbours_34 (by decide) (fun c7 => ?_) (fun c7 => ?_)
      · replace hs := ite_n c7 hs
        refine xi_iload 5 dX6_neighbours_40 rfl ?_
        refine xi_iload 0 dX6_neighbours_42 rfl ?_
        refine xi_ior (v := c.2.1 ||| ((c.1 &&& w1) &&& (c.2.1 ^^^ (-1 : Int32)))) dX6_neighbours_44 rfl ?_
        refine xi_istore (lv' := [(4, .int (c.2.1 ||| ((c.1 &&& w1) &&& (c.2.1 ^^^ (-1 : Int32))))), (6, .int ((c.1 &&& w1) &&& (c.2.1 ^^^ (-1 : Int32)))), (0, .ref x0), (1, .int w1), (2, .int w2), (3, .int c.1), (5, .int c.2.2)]) dX6_neighbours_45 (by decide) rfl ?_
        refine xi_iconst (v := 0) dX6_neighbours_47 (by decide) ?_
        refine xi_istore (lv' := [(7, .int 0), (4, .int (c.2.1 ||| ((c.1 &&& w1) &&& (c.2.1 ^^^ (-1 : Int32))))), (6, .int ((c.1 &&& w1) &&& (c.2.1 ^^^ (-1 : Int32)))), (0, .ref x0), (1, .int w1), (2, .int w2), (3, .int c.1), (5, .int c.2.2)]) dX6_neighbours_48 (by decide) rfl ?_
        refine xi_sub (lv' := [(0, .ref x0), (1, .int w1), (2, .int w2), (3, .int c.1), (4, .int (c.2.1 ||| ((c.1 &&& w1) &&& (c.2.1 ^^^ (-1 : Int32))))), (5, .int c.2.2), (6, .int ((c.1 &&& w1) &&& (c.2.1 ^^^ (-1 : Int32)))), (7, .int 0)]) [3, 4, 5, 6, 1, 7, 2, 0] rfl ?_
        obtain ⟨e19, t20, k21, hs⟩ := bnd_some hs
        obtain ⟨n22, k21⟩ := wh_itr k21
        refine SX6_neighbours_50_w G Gb x0 w1 w2 (c.2.1 ||| ((c.1 &&& w1) &&& (c.2.1 ^^^ (-1 : Int32)))) c.2.2 ((c.1 &&& w1) &&& (c.2.1 ^^^ (-1 : Int32))) g0x r0 t0 n22 (c.1, (0 : Int32)) σ _ _ k21 ?_
        show xW G mX6_neighbours (xrm 0 0 0) (xQ G (PQ r0 t0 Gb) 0 0) 85 [(0, .ref x0), (1, .int w1), (2, .int w2), (3, .int e19), (4, .int (c.2.1 ||| ((c.1 &&& w1) &&& (c.2.1 ^^^ (-1 : Int32))))), (5, .int c.2.2)] [] (mem t20 Gb) 0 0
        refine xi_iinc (v := (c.2.2 + 1)) (lv' := [(5, .int (c.2.2 + 1)), (0, .ref x0), (1, .int w1), (2, .int w2), (3, .int e19), (4, .int (c.2.1 ||| ((c.1 &&& w1) &&& (c.2.1 ^^^ (-1 : Int32)))))]) 5 dX6_neighbours_85 rfl rfl (by decide) rfl ?_
        refine xi_goto (tgt := 13) dX6_neighbours_88 (by decide) ?_
        refine xi_sub (lv' := [(0, .ref x0), (1, .int w1), (2, .int w2), (3, .int e19), (4, .int (c.2.1 ||| ((c.1 &&& w1) &&& (c.2.1 ^^^ (-1 : Int32))))), (5, .int (c.2.2 + 1))]) [1, 2, 3, 4, 5, 0] rfl ?_
        obtain ⟨rfl, rfl⟩ := some_pair hs
        exact ih (e19, (c.2.1 ||| ((c.1 &&& w1) &&& (c.2.1 ^^^ (-1 : Int32)))), (c.2.2 + 1)) t20 _ _ h HE
      · replace hs := ite_p c7 hs
        refine xi_goto (tgt := 91) dX6_neighbours_37 (by decide) ?_
        refine xi_sub (lv' := [(1, .int w1), (2, .int w2), (3, .int c.1)]) [2, 3, 4] rfl ?_
        obtain ⟨rfl, rfl⟩ := some_pair hs
        obtain ⟨rfl, rfl⟩ := some_pair h
        exact HE
noncomputable def FX6_neighbours (x : Nat) (a : Int32) (b : Int32) (σ : St) : Option ((Int32) × St) :=
  (chk (netAt x) (chk (inb b 9) (rdb σ (x + 1) (b.toNatClampNeg) (fun v2 => (bnd (wh (SX6_neighbours_13 x a b) (v2, (0 : Int32), (0 : Int32)) σ) (fun e23 t24 => (some (((e23 &&& (a ^^^ (-1 : Int32))) &&& ((shl (1 : Int32) b) ^^^ (-1 : Int32))), t24))))))))
set_option maxHeartbeats 4000000 in
set_option maxRecDepth 100000 in
theorem KX6_neighbours (G : xG) (Gb : xMem) (x : Nat) (a : Int32) (b : Int32) (σ : St) (r0 : Int32) (t0 : St) (hq : FX6_neighbours x a b σ = some (r0, t0)) : xC G mX6_neighbours 0 0 0 [.ref x, .int a, .int b] (mem σ Gb) (PQ r0 t0 Gb) := by
  unfold FX6_neighbours at hq
  refine xC.of (by decide) (Nat.le_of_ble_eq_true rfl) ?_
  show xW _ _ _ _ 0 [(0, .ref x), (1, .int a), (2, .int b)] [] _ 0 0
  obtain ⟨g_x, hq⟩ := chk_some hq
  refine xi_aload_n 0 dX6_neighbours_0 rfl ?_
  refine yi_getR (f := 2) dX6_neighbours_1 (netAt_0 g_x) rfl ok_5 (by decide) w_74 rfl ?_
  refine xi_iload_n 2 dX6_neighbours_4 rfl ?_
  obtain ⟨g1, hq⟩ := chk_some hq
  obtain ⟨v2, h3, hq⟩ := rdb_some hq
  refine yi_ialoadV dX6_neighbours_5 (netAt_1 g_x) g1 h3 ?_
  refine xi_istore_n (lv' := [(3, .int v2), (0, .ref x), (1, .int a), (2, .int b)]) dX6_neighbours_6 (by decide) rfl ?_
  refine xi_iconst (v := 0) dX6_neighbours_7 (by decide) ?_
  refine xi_istore (lv' := [(4, .int 0), (3, .int v2), (0, .ref x), (1, .int a), (2, .int b)]) dX6_neighbours_8 (by decide) rfl ?_
  refine xi_iconst (v := 0) dX6_neighbours_10 (by decide) ?_
  refine xi_istore (lv' := [(5, .int 0), (4, .int 0), (3, .int v2), (0, .ref x), (1, .int a), (2, .int b)]) dX6_neighbours_11 (by decide) rfl ?_
  refine xi_sub (lv' := [(0, .ref x), (1, .int a), (2, .int b), (3, .int v2), (4, .int 0), (5, .int 0)]) [3, 4, 5, 2, 1, 0] rfl ?_
  obtain ⟨e23, t24, k25, hq⟩ := bnd_some hq
  obtain ⟨n26, k25⟩ := wh_itr k25
  refine SX6_neighbours_13_w G Gb x a b g_x r0 t0 n26 (v2, (0 : Int32), (0 : Int32)) σ _ _ k25 ?_
  show xW G mX6_neighbours (xrm 0 0 0) (xQ G (PQ r0 t0 Gb) 0 0) 91 [(1, .int a), (2, .int b), (3, .int e23)] [] (mem t24 Gb) 0 0
  refine xi_iload_n 2 dX6_neighbours_91 rfl ?_
  refine xi_iload_n 0 dX6_neighbours_92 rfl ?_
  refine xi_iconst (v := (-1)) dX6_neighbours_93 (by decide) ?_
  refine xi_ixor (v := a ^^^ (-1 : Int32)) dX6_neighbours_94 rfl ?_
  refine xi_iand (v := e23 &&& (a ^^^ (-1 : Int32))) dX6_neighbours_95 rfl ?_
  refine xi_iconst (v := 1) dX6_neighbours_96 (by decide) ?_
  refine xi_iload_n 1 dX6_neighbours_97 rfl ?_
  refine xi_ishl (v := shl (1 : Int32) b) dX6_neighbours_98 rfl ?_
  refine xi_iconst (v := (-1)) dX6_neighbours_99 (by decide) ?_
  refine xi_ixor (v := (shl (1 : Int32) b) ^^^ (-1 : Int32)) dX6_neighbours_100 rfl ?_
  refine xi_iand (v := (e23 &&& (a ^^^ (-1 : Int32))) &&& ((shl (1 : Int32) b) ^^^ (-1 : Int32))) dX6_neighbours_101 rfl ?_
  have r27 := some_pair hq
  obtain ⟨rfl, rfl⟩ := r27
  exact xi_iret dX6_neighbours_102 rfl rfl (Nat.le_of_ble_eq_true rfl) (Nat.le_of_ble_eq_true rfl) ⟨rfl, rfl⟩
noncomputable def SX6_newLines_13 (x0 : Nat) (w1 : Int32) (w3 : Int32) (c : Int32 × Int32) (σ : St) : Option (((Int32 × Int32) ⊕ (Int32)) × St) :=
  (rdb σ x0 (0) (fun v4 => (if v4 ≤ c.2 then (some (Sum.inr c.1, σ)) else (bnd (if ((shr w3 c.2) &&& (1 : Int32)) = (0 : Int32) then (some ((0 : Int32), σ)) else (bnd (FX6_aboveOf w3 c.2 σ) (fun v23 t24 => (some (v23, t24))))) (fun v8 t9 => (bnd (if v8 = (0 : Int32) then (some (c.1, t9)) else (bnd (FX6_neighbours x0 w1 c.2 t9) (fun v17 t18 => (bnd (FJ6_bitCount_0f7a4 (v8 &&& (v17 ^^^ (-1 : Int32))) t18) (fun v20 t21 => (some ((c.1 + v20), t21))))))) (fun v13 t14 => (some (Sum.inl (v13, (c.2 + 1)), t14)))))))))
set_option maxHeartbeats 4000000 in
set_option maxRecDepth 100000 in
theorem SX6_newLines_13_w (G : xG) (Gb : xMem) (x0 : Nat) (w1 : Int32) (w3 : Int32) (g0x : netAt x0 = true) (r0 : Int32) (t0 : St) :
    ∀ (k : Nat) (c : Int32 × Int32) (σ : St) (r : Int32) (σ' : St), itr (SX6_newLines_13 x0 w1 w3) k c σ = some (r, σ') → (xW G mX6_newLines (xrm 1 0 0) (xQ G (PQ r0 t0 Gb) 0 0) 74 [(4, .int r)] [] (mem σ' Gb) 0 0) → xW G mX6_newLines (xrm 1 0 0) (xQ G (PQ r0 t0 Gb) 0 0) 13 [(0, .ref x0), (1, .int w1), (3, .int w3), (4, .int c.1), (5, .int c.2)] [] (mem σ Gb) 0 0 := by
  intro k
  induction k with
  | zero =>
    intro c σ r σ' h
    exact absurd h (itr_zero _ _ _ _)
  | succ k ih =>
    intro c σ r σ' h HE
    obtain ⟨x, s1, hs, h⟩ := itr_succ h
    unfold SX6_newLines_13 at hs
    refine xi_iload 4 dX6_newLines_13 rfl ?_
    refine xi_aload_n 0 dX6_newLines_15 rfl ?_
    obtain ⟨v4, h5, hs⟩ := rdb_some hs
    refine yi_getV (f := 0) dX6_newLines_16 (netAt_0 g0x) rfl ok_5 (by decide) w_67 rfl h5 ?_
    refine xi_icmp_ge (tgt := 74) dX6_newLines_19 (by decide) (fun c6 => ?_) (fun c6 => ?_)
    · replace hs := ite_p c6 hs
      refine xi_sub (lv' := [(4, .int c.1)]) [3] rfl ?_
      obtain ⟨rfl, rfl⟩ := some_pair hs
      obtain ⟨rfl, rfl⟩ := some_pair h
      exact HE
    · replace hs := ite_n c6 hs
      refine xi_iload_n 2 dX6_newLines_22 rfl ?_
      refine xi_iload 4 dX6_newLines_23 rfl ?_
      refine xi_ishr (v := shr w3 c.2) dX6_newLines_25 rfl ?_
      refine xi_iconst (v := 1) dX6_newLines_26 (by decide) ?_
      refine xi_iand (v := (shr w3 c.2) &&& (1 : Int32)) dX6_newLines_27 rfl ?_
      obtain ⟨v8, t9, m10, hs⟩ := bnd_some hs
      have key11 : xW G mX6_newLines (xrm 1 0 0) (xQ G (PQ r0 t0 Gb) 0 0) 41 [(0, .ref x0), (1, .int w1), (3, .int w3), (4, .int c.1), (5, .int c.2)] [.int v8] (mem t9 Gb) 0 0 := by
        refine xi_istore (lv' := [(6, .int v8), (0, .ref x0), (1, .int w1), (3, .int w3), (4, .int c.1), (5, .int c.2)]) dX6_newLines_41 (by decide) rfl ?_
        refine xi_iload 0 dX6_newLines_43 rfl ?_
        obtain ⟨v13, t14, m15, hs⟩ := bnd_some hs
        have key16 : xW G mX6_newLines (xrm 1 0 0) (xQ G (PQ r0 t0 Gb) 0 0) 68 [(0, .ref x0), (1, .int w1), (3, .int w3), (4, .int v13), (5, .int c.2)] [] (mem t14 Gb) 0 0 := by
          refine xi_iinc (v := (c.2 + 1)) (lv' := [(5, .int (c.2 + 1)), (0, .ref x0), (1, .int w1), (3, .int w3), (4, .int v13)]) 4 dX6_newLines_68 rfl rfl (by decide) rfl ?_
          refine xi_goto (tgt := 13) dX6_newLines_71 (by decide) ?_
          refine xi_sub (lv' := [(0, .ref x0), (1, .int w1), (3, .int w3), (4, .int v13), (5, .int (c.2 + 1))]) [1, 2, 3, 4, 0] rfl ?_
          obtain ⟨rfl, rfl⟩ := some_pair hs
          exact ih (v13, (c.2 + 1)) t14 _ _ h HE
        refine xi_if_eq (tgt := 68) dX6_newLines_45 (by decide) (fun c12 => ?_) (fun c12 => ?_)
        · replace m15 := ite_p c12 m15
          obtain ⟨rfl, rfl⟩ := some_pair m15
          refine xi_sub (lv' := [(0, .ref x0), (1, .int w1), (3, .int w3), (4, .int c.1), (5, .int c.2)]) [1, 2, 3, 4, 5] rfl ?_
          exact key16
        · replace m15 := ite_n c12 m15
          refine xi_iload 4 dX6_newLines_48 rfl ?_
          refine xi_iload 0 dX6_newLines_50 rfl ?_
          refine xi_aload_n 1 dX6_newLines_52 rfl ?_
          refine xi_iload_n 2 dX6_newLines_53 rfl ?_
          refine xi_iload 5 dX6_newLines_54 rfl ?_
          obtain ⟨v17, t18, k19, m15⟩ := bnd_some m15
          refine xi_callS (as := [.ref x0, .int w1, .int c.2]) (rest := [.int v8, .int c.1]) dX6_newLines_56 (KX6_neighbours G Gb x0 w1 c.2 _ _ _ k19) mkX6_neighbours w_599 w_598 rfl rfl (Nat.le_of_ble_eq_true rfl) (Nat.le_of_ble_eq_true rfl) (Nat.le_of_ble_eq_true rfl) (Nat.le_of_ble_eq_true rfl) (Nat.le_of_ble_eq_true rfl) ?_
          intro v M2 hz
          obtain ⟨rfl, rfl⟩ := hz
          show xW _ _ _ _ 59 _ [.int v17, .int v8, .int c.1] (mem t18 Gb) _ _
          refine xi_iconst (v := (-1)) dX6_newLines_59 (by decide) ?_
          refine xi_ixor (v := v17 ^^^ (-1 : Int32)) dX6_newLines_60 rfl ?_
          refine xi_iand (v := v8 &&& (v17 ^^^ (-1 : Int32))) dX6_newLines_61 rfl ?_
          obtain ⟨v20, t21, k22, m15⟩ := bnd_some m15
          refine xi_callS (as := [.int (v8 &&& (v17 ^^^ (-1 : Int32)))]) (rest := [.int c.1]) dX6_newLines_62 (KJ6_bitCount_0f7a4 G Gb (v8 &&& (v17 ^^^ (-1 : Int32))) _ _ _ k22) mkJ6_bitCount_0f7a4 w_508 w_594 rfl rfl (Nat.le_of_ble_eq_true rfl) (Nat.le_of_ble_eq_true rfl) (Nat.le_of_ble_eq_true rfl) (Nat.le_of_ble_eq_true rfl) (Nat.le_of_ble_eq_true rfl) ?_
          intro v M2 hz
          obtain ⟨rfl, rfl⟩ := hz
          show xW _ _ _ _ 65 _ [.int v20, .int c.1] (mem t21 Gb) _ _
          refine xi_iadd (v := c.1 + v20) dX6_newLines_65 rfl ?_
          refine xi_istore (lv' := [(4, .int (c.1 + v20)), (6, .int v8), (0, .ref x0), (1, .int w1), (3, .int w3), (5, .int c.2)]) dX6_newLines_66 (by decide) rfl ?_
          obtain ⟨rfl, rfl⟩ := some_pair m15
          refine xi_sub (lv' := [(0, .ref x0), (1, .int w1), (3, .int w3), (4, .int (c.1 + v20)), (5, .int c.2)]) [2, 3, 4, 0, 5] rfl ?_
          exact key16
      refine xi_if_ne (tgt := 35) dX6_newLines_28 (by decide) (fun c7 => ?_) (fun c7 => ?_)
      · replace m10 := ite_n c7 m10
        refine xi_iload_n 2 dX6_newLines_35 rfl ?_
        refine xi_iload 4 dX6_newLines_36 rfl ?_
        obtain ⟨v23, t24, k25, m10⟩ := bnd_some m10
        refine xi_callS (as := [.int w3, .int c.2]) (rest := []) dX6_newLines_38 (KX6_aboveOf G Gb w3 c.2 _ _ _ k25) mkX6_aboveOf w_605 w_604 rfl rfl (Nat.le_of_ble_eq_true rfl) (Nat.le_of_ble_eq_true rfl) (Nat.le_of_ble_eq_true rfl) (Nat.le_of_ble_eq_true rfl) (Nat.le_of_ble_eq_true rfl) ?_
        intro v M2 hz
        obtain ⟨rfl, rfl⟩ := hz
        show xW _ _ _ _ 41 _ [.int v23] (mem t24 Gb) _ _
        obtain ⟨rfl, rfl⟩ := some_pair m10
        exact key11
      · replace m10 := ite_p c7 m10
        refine xi_iconst (v := 0) dX6_newLines_31 (by decide) ?_
        refine xi_goto (tgt := 41) dX6_newLines_32 (by decide) ?_
        obtain ⟨rfl, rfl⟩ := some_pair m10
        exact key11
noncomputable def FX6_newLines (x : Nat) (a : Int32) (b : Int32) (σ : St) : Option ((Int32) × St) :=
  (chk (netAt x) (bnd (FX6_neighbours x a b σ) (fun v1 t2 => (bnd (wh (SX6_newLines_13 x a v1) ((0 : Int32), (0 : Int32)) t2) (fun e26 t27 => (some (e26, t27)))))))
set_option maxHeartbeats 4000000 in
set_option maxRecDepth 100000 in
theorem KX6_newLines (G : xG) (Gb : xMem) (x : Nat) (a : Int32) (b : Int32) (σ : St) (r0 : Int32) (t0 : St) (hq : FX6_newLines x a b σ = some (r0, t0)) : xC G mX6_newLines 1 0 0 [.ref x, .int a, .int b] (mem σ Gb) (PQ r0 t0 Gb) := by
  unfold FX6_newLines at hq
  refine xC.of (by decide) (Nat.le_of_ble_eq_true rfl) ?_
  show xW _ _ _ _ 0 [(0, .ref x), (1, .int a), (2, .int b)] [] _ 0 0
  obtain ⟨g_x, hq⟩ := chk_some hq
  refine xi_aload_n 0 dX6_newLines_0 rfl ?_
  refine xi_iload_n 1 dX6_newLines_1 rfl ?_
  refine xi_iload_n 2 dX6_newLines_2 rfl ?_
  obtain ⟨v1, t2, k3, hq⟩ := bnd_some hq
  refine xi_callS (as := [.ref x, .int a, .int b]) (rest := []) dX6_newLines_3 (KX6_neighbours G Gb x a b _ _ _ k3) mkX6_neighbours w_599 w_598 rfl rfl (Nat.le_of_ble_eq_true rfl) (Nat.le_of_ble_eq_true rfl) (Nat.le_of_ble_eq_true rfl) (Nat.le_of_ble_eq_true rfl) (Nat.le_of_ble_eq_true rfl) ?_
  intro v M2 hz
  obtain ⟨rfl, rfl⟩ := hz
  show xW _ _ _ _ 6 _ [.int v1] (mem t2 Gb) _ _
  refine xi_istore_n (lv' := [(3, .int v1), (0, .ref x), (1, .int a), (2, .int b)]) dX6_newLines_6 (by decide) rfl ?_
  refine xi_iconst (v := 0) dX6_newLines_7 (by decide) ?_
  refine xi_istore (lv' := [(4, .int 0), (3, .int v1), (0, .ref x), (1, .int a), (2, .int b)]) dX6_newLines_8 (by decide) rfl ?_
  refine xi_iconst (v := 0) dX6_newLines_10 (by decide) ?_
  refine xi_istore (lv' := [(5, .int 0), (4, .int 0), (3, .int v1), (0, .ref x), (1, .int a), (2, .int b)]) dX6_newLines_11 (by decide) rfl ?_
  refine xi_sub (lv' := [(0, .ref x), (1, .int a), (3, .int v1), (4, .int 0), (5, .int 0)]) [3, 4, 2, 1, 0] rfl ?_
  obtain ⟨e26, t27, k28, hq⟩ := bnd_some hq
  obtain ⟨n29, k28⟩ := wh_itr k28
  refine SX6_newLines_13_w G Gb x a v1 g_x r0 t0 n29 ((0 : Int32), (0 : Int32)) t2 _ _ k28 ?_
  show xW G mX6_newLines (xrm 1 0 0) (xQ G (PQ r0 t0 Gb) 0 0) 74 [(4, .int e26)] [] (mem t27 Gb) 0 0
  refine xi_iload 0 dX6_newLines_74 rfl ?_
  have r30 := some_pair hq
  obtain ⟨rfl, rfl⟩ := r30
  exact xi_iret dX6_newLines_76 rfl rfl (Nat.le_of_ble_eq_true rfl) (Nat.le_of_ble_eq_true rfl) ⟨rfl, rfl⟩
noncomputable def FX6_of (x : Nat) (a : Int32) (b : Int32) (c : Int32) (σ : St) : Option ((Int32) × St) :=
  (chk (netAt x) (if a = 1 then (bnd (FX6_gateSize x b σ) (fun v2 t3 => (some (v2, t3)))) else (if a = 4 then (bnd (FX6_fringeSize x b σ) (fun v7 t8 => (some (v7, t8)))) else (if a = 5 then (bnd (FX6_neighbours x b c σ) (fun v12 t13 => (bnd (FJ6_bitCount_0f7a4 v12 t13) (fun v15 t16 => (some (v15, t16)))))) else (if a = 6 then (bnd (FX6_newLines x b c σ) (fun v20 t21 => (some (v20, t21)))) else (bnd (FX6_cutWeight x b σ) (fun v24 t25 => (some (v24, t25)))))))))
set_option maxHeartbeats 4000000 in
set_option maxRecDepth 100000 in
theorem KX6_of (G : xG) (Gb : xMem) (x : Nat) (a : Int32) (b : Int32) (c : Int32) (σ : St) (r0 : Int32) (t0 : St) (hq : FX6_of x a b c σ = some (r0, t0)) : xC G mX6_of 2 0 0 [.ref x, .int a, .int b, .int c] (mem σ Gb) (PQ r0 t0 Gb) := by
  unfold FX6_of at hq
  refine xC.of (by decide) (Nat.le_of_ble_eq_true rfl) ?_
  show xW _ _ _ _ 0 [(0, .ref x), (1, .int a), (2, .int b), (3, .int c)] [] _ 0 0
  obtain ⟨g_x, hq⟩ := chk_some hq
  refine xi_iload_n 1 dX6_of_0 rfl ?_
  by_cases c1 : a = 1
  · replace hq := ite_p c1 hq
    refine xi_tableIn (off := 39) (tgt := 40) dX6_of_1 (by rw [c1]; decide) (by rw [c1]; decide) (by rw [c1]; decide) (by decide) ?_
    refine xi_aload_n 0 dX6_of_40 rfl ?_
    refine xi_iload_n 2 dX6_of_41 rfl ?_
    obtain ⟨v2, t3, k4, hq⟩ := bnd_some hq
    refine xi_callS (as := [.ref x, .int b]) (rest := []) dX6_of_42 (KX6_gateSize G Gb x b _ _ _ k4) mkX6_gateSize w_589 w_588 rfl rfl (Nat.le_of_ble_eq_true rfl) (Nat.le_of_ble_eq_true rfl) (Nat.le_of_ble_eq_true rfl) (Nat.le_of_ble_eq_true rfl) (Nat.le_of_ble_eq_true rfl) ?_
    intro v M2 hz
    obtain ⟨rfl, rfl⟩ := hz
    show xW _ _ _ _ 45 _ [.int v2] (mem t3 Gb) _ _
    have r5 := some_pair hq
    obtain ⟨rfl, rfl⟩ := r5
    exact xi_iret dX6_of_45 rfl rfl (Nat.le_of_ble_eq_true rfl) (Nat.le_of_ble_eq_true rfl) ⟨rfl, rfl⟩
  replace hq := ite_n c1 hq
  by_cases c6 : a = 4
  · replace hq := ite_p c6 hq
    refine xi_tableIn (off := 45) (tgt := 46) dX6_of_1 (by rw [c6]; decide) (by rw [c6]; decide) (by rw [c6]; decide) (by decide) ?_
    refine xi_aload_n 0 dX6_of_46 rfl ?_
    refine xi_iload_n 2 dX6_of_47 rfl ?_
    obtain ⟨v7, t8, k9, hq⟩ := bnd_some hq
    refine xi_callS (as := [.ref x, .int b]) (rest := []) dX6_of_48 (KX6_fringeSize G Gb x b _ _ _ k9) mkX6_fringeSize w_596 w_595 rfl rfl (Nat.le_of_ble_eq_true rfl) (Nat.le_of_ble_eq_true rfl) (Nat.le_of_ble_eq_true rfl) (Nat.le_of_ble_eq_true rfl) (Nat.le_of_ble_eq_true rfl) ?_
    intro v M2 hz
    obtain ⟨rfl, rfl⟩ := hz
    show xW _ _ _ _ 51 _ [.int v7] (mem t8 Gb) _ _
    have r10 := some_pair hq
    obtain ⟨rfl, rfl⟩ := r10
    exact xi_iret dX6_of_51 rfl rfl (Nat.le_of_ble_eq_true rfl) (Nat.le_of_ble_eq_true rfl) ⟨rfl, rfl⟩
  replace hq := ite_n c6 hq
  by_cases c11 : a = 5
  · replace hq := ite_p c11 hq
    refine xi_tableIn (off := 51) (tgt := 52) dX6_of_1 (by rw [c11]; decide) (by rw [c11]; decide) (by rw [c11]; decide) (by decide) ?_
    refine xi_aload_n 0 dX6_of_52 rfl ?_
    refine xi_iload_n 2 dX6_of_53 rfl ?_
    refine xi_iload_n 3 dX6_of_54 rfl ?_
    obtain ⟨v12, t13, k14, hq⟩ := bnd_some hq
    refine xi_callS (as := [.ref x, .int b, .int c]) (rest := []) dX6_of_55 (KX6_neighbours G Gb x b c _ _ _ k14) mkX6_neighbours w_599 w_598 rfl rfl (Nat.le_of_ble_eq_true rfl) (Nat.le_of_ble_eq_true rfl) (Nat.le_of_ble_eq_true rfl) (Nat.le_of_ble_eq_true rfl) (Nat.le_of_ble_eq_true rfl) ?_
    intro v M2 hz
    obtain ⟨rfl, rfl⟩ := hz
    show xW _ _ _ _ 58 _ [.int v12] (mem t13 Gb) _ _
    obtain ⟨v15, t16, k17, hq⟩ := bnd_some hq
    refine xi_callS (as := [.int v12]) (rest := []) dX6_of_58 (KJ6_bitCount_0f7a4 G Gb v12 _ _ _ k17) mkJ6_bitCount_0f7a4 w_508 w_594 rfl rfl (Nat.le_of_ble_eq_true rfl) (Nat.le_of_ble_eq_true rfl) (Nat.le_of_ble_eq_true rfl) (Nat.le_of_ble_eq_true rfl) (Nat.le_of_ble_eq_true rfl) ?_
    intro v M2 hz
    obtain ⟨rfl, rfl⟩ := hz
    show xW _ _ _ _ 61 _ [.int v15] (mem t16 Gb) _ _
    have r18 := some_pair hq
    obtain ⟨rfl, rfl⟩ := r18
    exact xi_iret dX6_of_61 rfl rfl (Nat.le_of_ble_eq_true rfl) (Nat.le_of_ble_eq_true rfl) ⟨rfl, rfl⟩
  replace hq := ite_n c11 hq
  by_cases c19 : a = 6
  · replace hq := ite_p c19 hq
    refine xi_tableIn (off := 61) (tgt := 62) dX6_of_1 (by rw [c19]; decide) (by rw [c19]; decide) (by rw [c19]; decide) (by decide) ?_
    refine xi_aload_n 0 dX6_of_62 rfl ?_
    refine xi_iload_n 2 dX6_of_63 rfl ?_
    refine xi_iload_n 3 dX6_of_64 rfl ?_
    obtain ⟨v20, t21, k22, hq⟩ := bnd_some hq
    refine xi_callS (as := [.ref x, .int b, .int c]) (rest := []) dX6_of_65 (KX6_newLines G Gb x b c _ _ _ k22) mkX6_newLines w_602 w_601 rfl rfl (Nat.le_of_ble_eq_true rfl) (Nat.le_of_ble_eq_true rfl) (Nat.le_of_ble_eq_true rfl) (Nat.le_of_ble_eq_true rfl) (Nat.le_of_ble_eq_true rfl) ?_
    intro v M2 hz
    obtain ⟨rfl, rfl⟩ := hz
    show xW _ _ _ _ 68 _ [.int v20] (mem t21 Gb) _ _
    have r23 := some_pair hq
    obtain ⟨rfl, rfl⟩ := r23
    exact xi_iret dX6_of_68 rfl rfl (Nat.le_of_ble_eq_true rfl) (Nat.le_of_ble_eq_true rfl) ⟨rfl, rfl⟩
  replace hq := ite_n c19 hq
  refine xi_tableAny (tgt := 69) dX6_of_1 (by decide) ?_ ?_
  · intro hlo hhi
    have tc1 : a.toInt ≠ 1 := fun e => c1 (Int32.toInt_inj.mp (by rw [e]; decide))
    have tc6 : a.toInt ≠ 4 := fun e => c6 (Int32.toInt_inj.mp (by rw [e]; decide))
    have tc11 : a.toInt ≠ 5 := fun e => c11 (Int32.toInt_inj.mp (by rw [e]; decide))
    have tc19 : a.toInt ≠ 6 := fun e => c19 (Int32.toInt_inj.mp (by rw [e]; decide))
    rcases (show a.toInt = 2 ∨ a.toInt = 3 by omega) with e | e <;> (rw [e]; decide)
  refine xi_aload_n 0 dX6_of_69 rfl ?_
  refine xi_iload_n 2 dX6_of_70 rfl ?_
  obtain ⟨v24, t25, k26, hq⟩ := bnd_some hq
  refine xi_callS (as := [.ref x, .int b]) (rest := []) dX6_of_71 (KX6_cutWeight G Gb x b _ _ _ k26) mkX6_cutWeight w_608 w_607 rfl rfl (Nat.le_of_ble_eq_true rfl) (Nat.le_of_ble_eq_true rfl) (Nat.le_of_ble_eq_true rfl) (Nat.le_of_ble_eq_true rfl) (Nat.le_of_ble_eq_true rfl) ?_
  intro v M2 hz
  obtain ⟨rfl, rfl⟩ := hz
  show xW _ _ _ _ 74 _ [.int v24] (mem t25 Gb) _ _
  have r27 := some_pair hq
  obtain ⟨rfl, rfl⟩ := r27
  exact xi_iret dX6_of_74 rfl rfl (Nat.le_of_ble_eq_true rfl) (Nat.le_of_ble_eq_true rfl) ⟨rfl, rfl⟩
noncomputable def FX6_atPlace (x : Nat) (a : Int32) (b : Int32) (σ : St) : Option ((Int32) × St) :=
  (chk (netAt x) (bnd (FX5_aheadOf x b σ) (fun v1 t2 => (chk (inb b 9) (rdb t2 (x + 2) (b.toNatClampNeg) (fun v5 => (bnd (FX6_of x a v1 v5 t2) (fun v7 t8 => (some (v7, t8))))))))))
set_option maxHeartbeats 4000000 in
set_option maxRecDepth 100000 in
theorem KX6_atPlace (G : xG) (Gb : xMem) (x : Nat) (a : Int32) (b : Int32) (σ : St) (r0 : Int32) (t0 : St) (hq : FX6_atPlace x a b σ = some (r0, t0)) : xC G mX6_atPlace 3 0 0 [.ref x, .int a, .int b] (mem σ Gb) (PQ r0 t0 Gb) := by
  unfold FX6_atPlace at hq
  refine xC.of (by decide) (Nat.le_of_ble_eq_true rfl) ?_
  show xW _ _ _ _ 0 [(0, .ref x), (1, .int a), (2, .int b)] [] _ 0 0
  obtain ⟨g_x, hq⟩ := chk_some hq
  refine xi_aload_n 0 dX6_atPlace_0 rfl ?_
  refine xi_iload_n 1 dX6_atPlace_1 rfl ?_
  refine xi_aload_n 0 dX6_atPlace_2 rfl ?_
  refine xi_iload_n 2 dX6_atPlace_3 rfl ?_
  obtain ⟨v1, t2, k3, hq⟩ := bnd_some hq
  refine xi_callV (as := [.int b]) (rest := [.int a, .ref x]) dX6_atPlace_4 (KX5_aheadOf G Gb x b _ _ _ k3) mkX5_aheadOf w_629 w_630 w_628 (mem_get (netAt_0 g_x)) rfl rfl rfl rfl (Nat.le_of_ble_eq_true rfl) (Nat.le_of_ble_eq_true rfl) (Nat.le_of_ble_eq_true rfl) (Nat.le_of_ble_eq_true rfl) (Nat.le_of_ble_eq_true rfl) ?_
  intro v M2 hz
  obtain ⟨rfl, rfl⟩ := hz
  show xW _ _ _ _ 7 _ [.int v1, .int a, .ref x] (mem t2 Gb) _ _
  refine xi_aload_n 0 dX6_atPlace_7 rfl ?_
  refine yi_getR (f := 3) dX6_atPlace_8 (netAt_0 g_x) rfl ok_5 (by decide) w_80 rfl ?_
  refine xi_iload_n 2 dX6_atPlace_11 rfl ?_
  obtain ⟨g4, hq⟩ := chk_some hq
  obtain ⟨v5, h6, hq⟩ := rdb_some hq
  refine yi_ialoadV dX6_atPlace_12 (netAt_2 g_x) g4 h6 ?_
  obtain ⟨v7, t8, k9, hq⟩ := bnd_some hq
  refine xi_callS (as := [.ref x, .int a, .int v1, .int v5]) (rest := []) dX6_atPlace_13 (KX6_of G Gb x a v1 v5 _ _ _ k9) mkX6_of w_586 w_632 rfl rfl (Nat.le_of_ble_eq_true rfl) (Nat.le_of_ble_eq_true rfl) (Nat.le_of_ble_eq_true rfl) (Nat.le_of_ble_eq_true rfl) (Nat.le_of_ble_eq_true rfl) ?_
  intro v M2 hz
  obtain ⟨rfl, rfl⟩ := hz
  show xW _ _ _ _ 16 _ [.int v7] (mem t8 Gb) _ _
  have r10 := some_pair hq
  obtain ⟨rfl, rfl⟩ := r10
  exact xi_iret dX6_atPlace_16 rfl rfl (Nat.le_of_ble_eq_true rfl) (Nat.le_of_ble_eq_true rfl) ⟨rfl, rfl⟩
noncomputable def FX6_firstStep (a : Int32) (σ : St) : Option ((Int32) × St) :=
  (bnd (FX6_isTakenOut a σ) (fun v1 t2 => (if v1 = (0 : Int32) then (some ((1 : Int32), t2)) else (some ((0 : Int32), t2)))))
set_option maxHeartbeats 4000000 in
set_option maxRecDepth 100000 in
theorem KX6_firstStep (G : xG) (Gb : xMem) (a : Int32) (σ : St) (r0 : Int32) (t0 : St) (hq : FX6_firstStep a σ = some (r0, t0)) : xC G mX6_firstStep 1 0 0 [.int a] (mem σ Gb) (PQ r0 t0 Gb) := by
  unfold FX6_firstStep at hq
  refine xC.of (by decide) (Nat.le_of_ble_eq_true rfl) ?_
  show xW _ _ _ _ 0 [(0, .int a)] [] _ 0 0
  refine xi_iload_n 0 dX6_firstStep_0 rfl ?_
  obtain ⟨v1, t2, k3, hq⟩ := bnd_some hq
  refine xi_callS (as := [.int a]) (rest := []) dX6_firstStep_1 (KX6_isTakenOut G Gb a _ _ _ k3) mkX6_isTakenOut w_583 w_582 rfl rfl (Nat.le_of_ble_eq_true rfl) (Nat.le_of_ble_eq_true rfl) (Nat.le_of_ble_eq_true rfl) (Nat.le_of_ble_eq_true rfl) (Nat.le_of_ble_eq_true rfl) ?_
  intro v M2 hz
  obtain ⟨rfl, rfl⟩ := hz
  show xW _ _ _ _ 4 _ [.int v1] (mem t2 Gb) _ _
  refine xi_if_eq (tgt := 11) dX6_firstStep_4 (by decide) (fun c4 => ?_) (fun c4 => ?_)
  · replace hq := ite_p c4 hq
    refine xi_iconst (v := 1) dX6_firstStep_11 (by decide) ?_
    have r5 := some_pair hq
    obtain ⟨rfl, rfl⟩ := r5
    exact xi_iret dX6_firstStep_12 rfl rfl (Nat.le_of_ble_eq_true rfl) (Nat.le_of_ble_eq_true rfl) ⟨rfl, rfl⟩
  · replace hq := ite_n c4 hq
    refine xi_iconst (v := 0) dX6_firstStep_7 (by decide) ?_
    refine xi_goto (tgt := 12) dX6_firstStep_8 (by decide) ?_
    have r6 := some_pair hq
    obtain ⟨rfl, rfl⟩ := r6
    exact xi_iret dX6_firstStep_12 rfl rfl (Nat.le_of_ble_eq_true rfl) (Nat.le_of_ble_eq_true rfl) ⟨rfl, rfl⟩
noncomputable def FX6_joined (a : Int32) (b : Int32) (c : Int32) (σ : St) : Option ((Int32) × St) :=
  (bnd (if a = (3 : Int32) then (some ((1 : Int32), σ)) else (if a = (4 : Int32) then (some ((1 : Int32), σ)) else (if a = (6 : Int32) then (some ((1 : Int32), σ)) else (some ((0 : Int32), σ))))) (fun v2 t3 => (if v2 = (0 : Int32) then (some ((mxI b c), t3)) else (some ((b + c), t3)))))
set_option maxHeartbeats 4000000 in
set_option maxRecDepth 100000 in
theorem KX6_joined (G : xG) (Gb : xMem) (a : Int32) (b : Int32) (c : Int32) (σ : St) (r0 : Int32) (t0 : St) (hq : FX6_joined a b c σ = some (r0, t0)) : xC G mX6_joined 0 0 0 [.int a, .int b, .int c] (mem σ Gb) (PQ r0 t0 Gb) := by
  unfold FX6_joined at hq
  refine xC.of (by decide) (Nat.le_of_ble_eq_true rfl) ?_
  show xW _ _ _ _ 0 [(0, .int a), (1, .int b), (2, .int c)] [] _ 0 0
  refine xi_iload_n 0 dX6_joined_0 rfl ?_
  refine xi_iconst (v := 3) dX6_joined_1 (by decide) ?_
  obtain ⟨v2, t3, m4, hq⟩ := bnd_some hq
  have key5 : xW G mX6_joined (xrm 0 0 0) (xQ G (PQ r0 t0 Gb) 0 0) 21 [(1, .int b), (2, .int c)] [.int v2] (mem t3 Gb) 0 0 := by
    refine xi_istore_n (lv' := [(3, .int v2), (1, .int b), (2, .int c)]) dX6_joined_21 (by decide) rfl ?_
    refine xi_iload_n 0 dX6_joined_22 rfl ?_
    refine xi_if_eq (tgt := 32) dX6_joined_23 (by decide) (fun c6 => ?_) (fun c6 => ?_)
    · replace hq := ite_p c6 hq
      refine xi_iload_n 1 dX6_joined_32 rfl ?_
      refine xi_iload_n 2 dX6_joined_33 rfl ?_
      refine xi_max (v := (mxI b c)) dX6_joined_34 w_614 w_37 w_3 w_mmax (Nat.le_of_ble_eq_true rfl) (Nat.le_of_ble_eq_true rfl) (Nat.le_of_ble_eq_true rfl) (Nat.le_of_ble_eq_true rfl) (Nat.le_of_ble_eq_true rfl) rfl ?_
      have r7 := some_pair hq
      obtain ⟨rfl, rfl⟩ := r7
      exact xi_iret dX6_joined_37 rfl rfl (Nat.le_of_ble_eq_true rfl) (Nat.le_of_ble_eq_true rfl) ⟨rfl, rfl⟩
    · replace hq := ite_n c6 hq
      refine xi_iload_n 1 dX6_joined_26 rfl ?_
      refine xi_iload_n 2 dX6_joined_27 rfl ?_
      refine xi_iadd (v := b + c) dX6_joined_28 rfl ?_
      refine xi_goto (tgt := 37) dX6_joined_29 (by decide) ?_
      have r8 := some_pair hq
      obtain ⟨rfl, rfl⟩ := r8
      exact xi_iret dX6_joined_37 rfl rfl (Nat.le_of_ble_eq_true rfl) (Nat.le_of_ble_eq_true rfl) ⟨rfl, rfl⟩
  refine xi_icmp_eq (tgt := 16) dX6_joined_2 (by decide) (fun c1 => ?_) (fun c1 => ?_)
  · replace m4 := ite_p c1 m4
    refine xi_iconst (v := 1) dX6_joined_16 (by decide) ?_
    refine xi_goto (tgt := 21) dX6_joined_17 (by decide) ?_
    obtain ⟨rfl, rfl⟩ := some_pair m4
    refine xi_sub (lv' := [(1, .int b), (2, .int c)]) [1, 2] rfl ?_
    exact key5
  · replace m4 := ite_n c1 m4
    refine xi_iload_n 0 dX6_joined_5 rfl ?_
    refine xi_iconst (v := 4) dX6_joined_6 (by decide) ?_
    refine xi_icmp_eq (tgt := 16) dX6_joined_7 (by decide) (fun c9 => ?_) (fun c9 => ?_)
    · replace m4 := ite_p c9 m4
      refine xi_iconst (v := 1) dX6_joined_16 (by decide) ?_
      refine xi_goto (tgt := 21) dX6_joined_17 (by decide) ?_
      obtain ⟨rfl, rfl⟩ := some_pair m4
      refine xi_sub (lv' := [(1, .int b), (2, .int c)]) [1, 2] rfl ?_
      exact key5
    · replace m4 := ite_n c9 m4
      refine xi_iload_n 0 dX6_joined_10 rfl ?_
      refine xi_bipush (v := 6) dX6_joined_11 (by decide) ?_
      refine xi_icmp_ne (tgt := 20) dX6_joined_13 (by decide) (fun c10 => ?_) (fun c10 => ?_)
      · replace m4 := ite_n c10 m4
        refine xi_iconst (v := 0) dX6_joined_20 (by decide) ?_
        obtain ⟨rfl, rfl⟩ := some_pair m4
        refine xi_sub (lv' := [(1, .int b), (2, .int c)]) [1, 2] rfl ?_
        exact key5
      · replace m4 := ite_p c10 m4
        refine xi_iconst (v := 1) dX6_joined_16 (by decide) ?_
        refine xi_goto (tgt := 21) dX6_joined_17 (by decide) ?_
        obtain ⟨rfl, rfl⟩ := some_pair m4
        refine xi_sub (lv' := [(1, .int b), (2, .int c)]) [1, 2] rfl ?_
        exact key5
noncomputable def FX8_bagGoing (x : Nat) (a : Int32) (σ : St) : Option ((Int32) × St) :=
  (chk (netAt x) (bnd (FX5_aheadOf x a σ) (fun v1 t2 => (chk (inb a 9) (rdb t2 (x + 2) (a.toNatClampNeg) (fun v5 => (bnd (FX6_withLineInto x v1 (v1 ^^^ (-1 : Int32)) t2) (fun v7 t8 => (some (((shl (1 : Int32) v5) ||| v7), t8))))))))))
set_option maxHeartbeats 4000000 in
set_option maxRecDepth 100000 in
theorem KX8_bagGoing (G : xG) (Gb : xMem) (x : Nat) (a : Int32) (σ : St) (r0 : Int32) (t0 : St) (hq : FX8_bagGoing x a σ = some (r0, t0)) : xC G mX8_bagGoing 1 0 0 [.ref x, .int a] (mem σ Gb) (PQ r0 t0 Gb) := by
  unfold FX8_bagGoing at hq
  refine xC.of (by decide) (Nat.le_of_ble_eq_true rfl) ?_
  show xW _ _ _ _ 0 [(0, .ref x), (1, .int a)] [] _ 0 0
  obtain ⟨g_x, hq⟩ := chk_some hq
  refine xi_aload_n 0 dX8_bagGoing_0 rfl ?_
  refine xi_iload_n 1 dX8_bagGoing_1 rfl ?_
  obtain ⟨v1, t2, k3, hq⟩ := bnd_some hq
  refine xi_callV (as := [.int a]) (rest := []) dX8_bagGoing_2 (KX5_aheadOf G Gb x a _ _ _ k3) mkX5_aheadOf w_629 w_630 w_843 (mem_get (netAt_0 g_x)) rfl rfl rfl rfl (Nat.le_of_ble_eq_true rfl) (Nat.le_of_ble_eq_true rfl) (Nat.le_of_ble_eq_true rfl) (Nat.le_of_ble_eq_true rfl) (Nat.le_of_ble_eq_true rfl) ?_
  intro v M2 hz
  obtain ⟨rfl, rfl⟩ := hz
  show xW _ _ _ _ 5 _ [.int v1] (mem t2 Gb) _ _
  refine xi_istore_n (lv' := [(2, .int v1), (0, .ref x), (1, .int a)]) dX8_bagGoing_5 (by decide) rfl ?_
  refine xi_iconst (v := 1) dX8_bagGoing_6 (by decide) ?_
  refine xi_aload_n 1 dX8_bagGoing_7 rfl ?_
  refine yi_getR (f := 3) dX8_bagGoing_8 (netAt_0 g_x) rfl ok_5 (by decide) w_79 rfl ?_
  refine xi_iload_n 2 dX8_bagGoing_11 rfl ?_
  obtain ⟨g4, hq⟩ := chk_some hq
  obtain ⟨v5, h6, hq⟩ := rdb_some hq
  refine yi_ialoadV dX8_bagGoing_12 (netAt_2 g_x) g4 h6 ?_
  refine xi_ishl (v := shl (1 : Int32) v5) dX8_bagGoing_13 rfl ?_
  refine xi_aload_n 1 dX8_bagGoing_14 rfl ?_
  refine xi_iload_n 0 dX8_bagGoing_15 rfl ?_
  refine xi_iload_n 0 dX8_bagGoing_16 rfl ?_
  refine xi_iconst (v := (-1)) dX8_bagGoing_17 (by decide) ?_
  refine xi_ixor (v := v1 ^^^ (-1 : Int32)) dX8_bagGoing_18 rfl ?_
  obtain ⟨v7, t8, k9, hq⟩ := bnd_some hq
  refine xi_callS (as := [.ref x, .int v1, .int (v1 ^^^ (-1 : Int32))]) (rest := [.int (shl (1 : Int32) v5)]) dX8_bagGoing_19 (KX6_withLineInto G Gb x v1 (v1 ^^^ (-1 : Int32)) _ _ _ k9) mkX6_withLineInto w_592 w_844 rfl rfl (Nat.le_of_ble_eq_true rfl) (Nat.le_of_ble_eq_true rfl) (Nat.le_of_ble_eq_true rfl) (Nat.le_of_ble_eq_true rfl) (Nat.le_of_ble_eq_true rfl) ?_
  intro v M2 hz
  obtain ⟨rfl, rfl⟩ := hz
  show xW _ _ _ _ 22 _ [.int v7, .int (shl (1 : Int32) v5)] (mem t8 Gb) _ _
  refine xi_ior (v := (shl (1 : Int32) v5) ||| v7) dX8_bagGoing_22 rfl ?_
  have r10 := some_pair hq
  obtain ⟨rfl, rfl⟩ := r10
  exact xi_iret dX8_bagGoing_23 rfl rfl (Nat.le_of_ble_eq_true rfl) (Nat.le_of_ble_eq_true rfl) ⟨rfl, rfl⟩
noncomputable def FX8_bagTaken (x : Nat) (a : Int32) (σ : St) : Option ((Int32) × St) :=
  (chk (netAt x) (chk (inb a 9) (rdb σ (x + 2) (a.toNatClampNeg) (fun v2 => (bnd (FX5_aheadOf x a σ) (fun v4 t5 => (bnd (FX6_neighbours x v4 v2 t5) (fun v7 t8 => (some (((shl (1 : Int32) v2) ||| v7), t8))))))))))
set_option maxHeartbeats 4000000 in
set_option maxRecDepth 100000 in
theorem KX8_bagTaken (G : xG) (Gb : xMem) (x : Nat) (a : Int32) (σ : St) (r0 : Int32) (t0 : St) (hq : FX8_bagTaken x a σ = some (r0, t0)) : xC G mX8_bagTaken 1 0 0 [.ref x, .int a] (mem σ Gb) (PQ r0 t0 Gb) := by
  unfold FX8_bagTaken at hq
  refine xC.of (by decide) (Nat.le_of_ble_eq_true rfl) ?_
  show xW _ _ _ _ 0 [(0, .ref x), (1, .int a)] [] _ 0 0
  obtain ⟨g_x, hq⟩ := chk_some hq
  refine xi_aload_n 0 dX8_bagTaken_0 rfl ?_
  refine yi_getR (f := 3) dX8_bagTaken_1 (netAt_0 g_x) rfl ok_5 (by decide) w_79 rfl ?_
  refine xi_iload_n 1 dX8_bagTaken_4 rfl ?_
  obtain ⟨g1, hq⟩ := chk_some hq
  obtain ⟨v2, h3, hq⟩ := rdb_some hq
  refine yi_ialoadV dX8_bagTaken_5 (netAt_2 g_x) g1 h3 ?_
  refine xi_istore_n (lv' := [(2, .int v2), (0, .ref x), (1, .int a)]) dX8_bagTaken_6 (by decide) rfl ?_
  refine xi_iconst (v := 1) dX8_bagTaken_7 (by decide) ?_
  refine xi_iload_n 0 dX8_bagTaken_8 rfl ?_
  refine xi_ishl (v := shl (1 : Int32) v2) dX8_bagTaken_9 rfl ?_
  refine xi_aload_n 1 dX8_bagTaken_10 rfl ?_
  refine xi_aload_n 1 dX8_bagTaken_11 rfl ?_
  refine xi_iload_n 2 dX8_bagTaken_12 rfl ?_
  obtain ⟨v4, t5, k6, hq⟩ := bnd_some hq
  refine xi_callV (as := [.int a]) (rest := [.ref x, .int (shl (1 : Int32) v2)]) dX8_bagTaken_13 (KX5_aheadOf G Gb x a _ _ _ k6) mkX5_aheadOf w_629 w_630 w_843 (mem_get (netAt_0 g_x)) rfl rfl rfl rfl (Nat.le_of_ble_eq_true rfl) (Nat.le_of_ble_eq_true rfl) (Nat.le_of_ble_eq_true rfl) (Nat.le_of_ble_eq_true rfl) (Nat.le_of_ble_eq_true rfl) ?_
  intro v M2 hz
  obtain ⟨rfl, rfl⟩ := hz
  show xW _ _ _ _ 16 _ [.int v4, .ref x, .int (shl (1 : Int32) v2)] (mem t5 Gb) _ _
  refine xi_iload_n 0 dX8_bagTaken_16 rfl ?_
  obtain ⟨v7, t8, k9, hq⟩ := bnd_some hq
  refine xi_callS (as := [.ref x, .int v4, .int v2]) (rest := [.int (shl (1 : Int32) v2)]) dX8_bagTaken_17 (KX6_neighbours G Gb x v4 v2 _ _ _ k9) mkX6_neighbours w_599 w_848 rfl rfl (Nat.le_of_ble_eq_true rfl) (Nat.le_of_ble_eq_true rfl) (Nat.le_of_ble_eq_true rfl) (Nat.le_of_ble_eq_true rfl) (Nat.le_of_ble_eq_true rfl) ?_
  intro v M2 hz
  obtain ⟨rfl, rfl⟩ := hz
  show xW _ _ _ _ 20 _ [.int v7, .int (shl (1 : Int32) v2)] (mem t8 Gb) _ _
  refine xi_ior (v := (shl (1 : Int32) v2) ||| v7) dX8_bagTaken_20 rfl ?_
  have r10 := some_pair hq
  obtain ⟨rfl, rfl⟩ := r10
  exact xi_iret dX8_bagTaken_21 rfl rfl (Nat.le_of_ble_eq_true rfl) (Nat.le_of_ble_eq_true rfl) ⟨rfl, rfl⟩
noncomputable def SX8_bitAt_4 (w0 : Int32) (w1 : Int32) (c : Int32 × Int32) (σ : St) : Option (((Int32 × Int32) ⊕ ((Int32) ⊕ (Unit))) × St) :=
  (if (9 : Int32) ≤ c.2 then (some (Sum.inr (Sum.inr ()), σ)) else (if ((shr w0 c.2) &&& (1 : Int32)) = (0 : Int32) then (some (Sum.inl (c.1, (c.2 + 1)), σ)) else (if c.1 = w1 then (some (Sum.inr (Sum.inl c.2), σ)) else (some (Sum.inl ((c.1 + 1), (c.2 + 1)), σ)))))
set_option maxHeartbeats 4000000 in
set_option maxRecDepth 100000 in
theorem SX8_bitAt_4_w (G : xG) (Gb : xMem) (w0 : Int32) (w1 : Int32) (r0 : Int32) (t0 : St) :
    ∀ (k : Nat) (c : Int32 × Int32) (σ : St) (r : (Int32) ⊕ (Unit)) (σ' : St), itr (SX8_bitAt_4 w0 w1) k c σ = some (r, σ') → (Sum.elim (fun v => v = r0 ∧ σ' = t0) (fun e => xW G mX8_bitAt (xrm 0 0 0) (xQ G (PQ r0 t0 Gb) 0 0) 34 [] [] (mem σ' Gb) 0 0) r) → xW G mX8_bitAt (xrm 0 0 0) (xQ G (PQ r0 t0 Gb) 0 0) 4 [(0, .int w0), (1, .int w1), (2, .int c.1), (3, .int c.2)] [] (mem σ Gb) 0 0 := by
  intro k
  induction k with
  | zero =>
    intro c σ r σ' h
    exact absurd h (itr_zero _ _ _ _)
  | succ k ih =>
    intro c σ r σ' h HE
    obtain ⟨x, s1, hs, h⟩ := itr_succ h
    unfold SX8_bitAt_4 at hs
    refine xi_iload_n 3 dX8_bitAt_4 rfl ?_
    refine xi_bipush (v := 9) dX8_bitAt_5 (by decide) ?_
    refine xi_icmp_ge (tgt := 34) dX8_bitAt_7 (by decide) (fun c1 => ?_) (fun c1 => ?_)
    · replace hs := ite_p c1 hs
      refine xi_sub (lv' := []) [] rfl ?_
      obtain ⟨rfl, rfl⟩ := some_pair hs
      obtain ⟨rfl, rfl⟩ := some_pair h
      exact HE
    · replace hs := ite_n c1 hs
      refine xi_iload_n 0 dX8_bitAt_10 rfl ?_
      refine xi_iload_n 3 dX8_bitAt_11 rfl ?_
      refine xi_ishr (v := shr w0 c.2) dX8_bitAt_12 rfl ?_
      refine xi_iconst (v := 1) dX8_bitAt_13 (by decide) ?_
      refine xi_iand (v := (shr w0 c.2) &&& (1 : Int32)) dX8_bitAt_14 rfl ?_
      refine xi_if_eq (tgt := 28) dX8_bitAt_15 (by decide) (fun c2 => ?_) (fun c2 => ?_)
      · replace hs := ite_p c2 hs
        refine xi_iinc (v := (c.2 + 1)) (lv' := [(3, .int (c.2 + 1)), (0, .int w0), (1, .int w1), (2, .int c.1)]) 3 dX8_bitAt_28 rfl rfl (by decide) rfl ?_
        refine xi_goto (tgt := 4) dX8_bitAt_31 (by decide) ?_
        refine xi_sub (lv' := [(0, .int w0), (1, .int w1), (2, .int c.1), (3, .int (c.2 + 1))]) [1, 2, 3, 0] rfl ?_
        obtain ⟨rfl, rfl⟩ := some_pair hs
        exact ih (c.1, (c.2 + 1)) σ _ _ h HE
      · replace hs := ite_n c2 hs
        refine xi_iload_n 2 dX8_bitAt_18 rfl ?_
        refine xi_iload_n 1 dX8_bitAt_19 rfl ?_
        refine xi_icmp_ne (tgt := 25) dX8_bitAt_20 (by decide) (fun c3 => ?_) (fun c3 => ?_)
        · replace hs := ite_n c3 hs
          refine xi_iinc (v := (c.1 + 1)) (lv' := [(2, .int (c.1 + 1)), (0, .int w0), (1, .int w1), (3, .int c.2)]) 2 dX8_bitAt_25 rfl rfl (by decide) rfl ?_
          refine xi_iinc (v := (c.2 + 1)) (lv' := [(3, .int (c.2 + 1)), (2, .int (c.1 + 1)), (0, .int w0), (1, .int w1)]) 3 dX8_bitAt_28 rfl rfl (by decide) rfl ?_
          refine xi_goto (tgt := 4) dX8_bitAt_31 (by decide) ?_
          refine xi_sub (lv' := [(0, .int w0), (1, .int w1), (2, .int (c.1 + 1)), (3, .int (c.2 + 1))]) [2, 3, 1, 0] rfl ?_
          obtain ⟨rfl, rfl⟩ := some_pair hs
          exact ih ((c.1 + 1), (c.2 + 1)) σ _ _ h HE
        · replace hs := ite_p c3 hs
          refine xi_iload_n 3 dX8_bitAt_23 rfl ?_
          obtain ⟨rfl, rfl⟩ := some_pair hs
          obtain ⟨rfl, rfl⟩ := some_pair h
          have r4 := HE
          obtain ⟨rfl, rfl⟩ := r4
          exact xi_iret dX8_bitAt_24 rfl rfl (Nat.le_of_ble_eq_true rfl) (Nat.le_of_ble_eq_true rfl) ⟨rfl, rfl⟩
noncomputable def FX8_bitAt (a : Int32) (b : Int32) (σ : St) : Option ((Int32) × St) :=
  (bnd (wh (SX8_bitAt_4 a b) ((0 : Int32), (0 : Int32)) σ) (fun e5 t6 => Sum.elim (fun e5 => (some (e5, t6))) (fun e5 => (some ((-1 : Int32), t6))) e5))
set_option maxHeartbeats 4000000 in
set_option maxRecDepth 100000 in
theorem KX8_bitAt (G : xG) (Gb : xMem) (a : Int32) (b : Int32) (σ : St) (r0 : Int32) (t0 : St) (hq : FX8_bitAt a b σ = some (r0, t0)) : xC G mX8_bitAt 0 0 0 [.int a, .int b] (mem σ Gb) (PQ r0 t0 Gb) := by
  unfold FX8_bitAt at hq
  refine xC.of (by decide) (Nat.le_of_ble_eq_true rfl) ?_
  show xW _ _ _ _ 0 [(0, .int a), (1, .int b)] [] _ 0 0
  refine xi_iconst (v := 0) dX8_bitAt_0 (by decide) ?_
  refine xi_istore_n (lv' := [(2, .int 0), (0, .int a), (1, .int b)]) dX8_bitAt_1 (by decide) rfl ?_
  refine xi_iconst (v := 0) dX8_bitAt_2 (by decide) ?_
  refine xi_istore_n (lv' := [(3, .int 0), (2, .int 0), (0, .int a), (1, .int b)]) dX8_bitAt_3 (by decide) rfl ?_
  refine xi_sub (lv' := [(0, .int a), (1, .int b), (2, .int 0), (3, .int 0)]) [2, 3, 1, 0] rfl ?_
  obtain ⟨e5, t6, k7, hq⟩ := bnd_some hq
  obtain ⟨n8, k7⟩ := wh_itr k7
  refine SX8_bitAt_4_w G Gb a b r0 t0 n8 ((0 : Int32), (0 : Int32)) σ _ _ k7 ?_
  rcases e5 with e5 | e5
  · replace hq := sel_l hq
    have r9 := some_pair hq
    exact r9
  · replace hq := sel_r hq
    show xW G mX8_bitAt (xrm 0 0 0) (xQ G (PQ r0 t0 Gb) 0 0) 34 [] [] (mem t6 Gb) 0 0
    refine xi_iconst (v := (-1)) dX8_bitAt_34 (by decide) ?_
    have r10 := some_pair hq
    obtain ⟨rfl, rfl⟩ := r10
    exact xi_iret dX8_bitAt_35 rfl rfl (Nat.le_of_ble_eq_true rfl) (Nat.le_of_ble_eq_true rfl) ⟨rfl, rfl⟩
noncomputable def SX8_widestBand_16 (x0 : Nat) (w2 : Int32) (c : Int32 × Int32) (σ : St) : Option (((Int32 × Int32) ⊕ (Int32)) × St) :=
  (rdb σ x0 (0) (fun v4 => (if v4 ≤ c.2 then (some (Sum.inr c.1, σ)) else (chk (inb w2 9) (rdb σ (x0 + 2) (w2.toNatClampNeg) (fun v8 => (chk (inb c.2 9) (rdb σ (x0 + 2) (c.2.toNatClampNeg) (fun v11 => (bnd (FX5_weightOf x0 v8 v11 σ) (fun v13 t14 => (bnd (if v13 ≤ (0 : Int32) then (some (c.1, t14)) else (some ((mxI c.1 (c.2 - w2)), t14))) (fun v17 t18 => (some (Sum.inl (v17, (c.2 + 1)), t18)))))))))))))))
noncomputable def SX8_widestBand_4 (x0 : Nat) (c : Int32 × Int32) (σ : St) : Option (((Int32 × Int32) ⊕ (Int32)) × St) :=
  (rdb σ x0 (0) (fun v1 => (if v1 ≤ c.2 then (some (Sum.inr c.1, σ)) else (bnd (wh (SX8_widestBand_16 x0 c.2) (c.1, (c.2 + (1 : Int32))) σ) (fun e21 t22 => (some (Sum.inl (e21, (c.2 + 1)), t22)))))))
set_option maxHeartbeats 4000000 in
set_option maxRecDepth 100000 in
theorem SX8_widestBand_16_w (G : xG) (Gb : xMem) (x0 : Nat) (w2 : Int32) (g0x : netAt x0 = true) (r0 : Int32) (t0 : St) :
    ∀ (k : Nat) (c : Int32 × Int32) (σ : St) (r : Int32) (σ' : St), itr (SX8_widestBand_16 x0 w2) k c σ = some (r, σ') → (xW G mX8_widestBand (xrm 1 0 0) (xQ G (PQ r0 t0 Gb) 0 0) 57 [(0, .ref x0), (1, .int r), (2, .int w2)] [] (mem σ' Gb) 0 0) → xW G mX8_widestBand (xrm 1 0 0) (xQ G (PQ r0 t0 Gb) 0 0) 16 [(0, .ref x0), (1, .int c.1), (2, .int w2), (3, .int c.2)] [] (mem σ Gb) 0 0 := by
  intro k
  induction k with
  | zero =>
    intro c σ r σ' h
    exact absurd h (itr_zero _ _ _ _)
  | succ k ih =>
    intro c σ r σ' h HE
    obtain ⟨x, s1, hs, h⟩ := itr_succ h
    unfold SX8_widestBand_16 at hs
    refine xi_iload_n 3 dX8_widestBand_16 rfl ?_
    refine xi_aload_n 0 dX8_widestBand_17 rfl ?_
    obtain ⟨v4, h5, hs⟩ := rdb_some hs
    refine yi_getV (f := 0) dX8_widestBand_18 (netAt_0 g0x) rfl ok_5 (by decide) w_63 rfl h5 ?_
    refine xi_icmp_ge (tgt := 57) dX8_widestBand_21 (by decide) (fun c6 => ?_) (fun c6 => ?_)
    · replace hs := ite_p c6 hs
      refine xi_sub (lv' := [(0, .ref x0), (1, .int c.1), (2, .int w2)]) [0, 1, 2] rfl ?_
      obtain ⟨rfl, rfl⟩ := some_pair hs
      obtain ⟨rfl, rfl⟩ := some_pair h
      exact HE
    · replace hs := ite_n c6 hs
      refine xi_aload_n 0 dX8_widestBand_24 rfl ?_
      refine xi_aload_n 0 dX8_widestBand_25 rfl ?_
      refine yi_getR (f := 3) dX8_widestBand_26 (netAt_0 g0x) rfl ok_5 (by decide) w_79 rfl ?_
      refine xi_iload_n 2 dX8_widestBand_29 rfl ?_
      obtain ⟨g7, hs⟩ := chk_some hs
      obtain ⟨v8, h9, hs⟩ := rdb_some hs
      refine yi_ialoadV dX8_widestBand_30 (netAt_2 g0x) g7 h9 ?_
      refine xi_aload_n 0 dX8_widestBand_31 rfl ?_
      refine yi_getR (f := 3) dX8_widestBand_32 (netAt_0 g0x) rfl ok_5 (by decide) w_79 rfl ?_
      refine xi_iload_n 3 dX8_widestBand_35 rfl ?_
      obtain ⟨g10, hs⟩ := chk_some hs
      obtain ⟨v11, h12, hs⟩ := rdb_some hs
      refine yi_ialoadV dX8_widestBand_36 (netAt_2 g0x) g10 h12 ?_
      obtain ⟨v13, t14, k15, hs⟩ := bnd_some hs
      refine xi_callV (as := [.int v8, .int v11]) (rest := []) dX8_widestBand_37 (KX5_weightOf G Gb x0 v8 v11 _ _ _ k15) mkX5_weightOf w_415 w_416 w_577 (mem_get (netAt_0 g0x)) rfl rfl rfl rfl (Nat.le_of_ble_eq_true rfl) (Nat.le_of_ble_eq_true rfl) (Nat.le_of_ble_eq_true rfl) (Nat.le_of_ble_eq_true rfl) (Nat.le_of_ble_eq_true rfl) ?_
      intro v M2 hz
      obtain ⟨rfl, rfl⟩ := hz
      show xW _ _ _ _ 40 _ [.int v13] (mem t14 Gb) _ _
      obtain ⟨v17, t18, m19, hs⟩ := bnd_some hs
      have key20 : xW G mX8_widestBand (xrm 1 0 0) (xQ G (PQ r0 t0 Gb) 0 0) 51 [(0, .ref x0), (1, .int v17), (2, .int w2), (3, .int c.2)] [] (mem t18 Gb) 0 0 := by
        refine xi_iinc (v := (c.2 + 1)) (lv' := [(3, .int (c.2 + 1)), (0, .ref x0), (1, .int v17), (2, .int w2)]) 3 dX8_widestBand_51 rfl rfl (by decide) rfl ?_
        refine xi_goto (tgt := 16) dX8_widestBand_54 (by decide) ?_
        refine xi_sub (lv' := [(0, .ref x0), (1, .int v17), (2, .int w2), (3, .int (c.2 + 1))]) [1, 2, 3, 0] rfl ?_
        obtain ⟨rfl, rfl⟩ := some_pair hs
        exact ih (v17, (c.2 + 1)) t18 _ _ h HE
      refine xi_if_le (tgt := 51) dX8_widestBand_40 (by decide) (fun c16 => ?_) (fun c16 => ?_)
      · replace m19 := ite_p c16 m19
        obtain ⟨rfl, rfl⟩ := some_pair m19
        exact key20
      · replace m19 := ite_n c16 m19
        refine xi_iload_n 1 dX8_widestBand_43 rfl ?_
        refine xi_iload_n 3 dX8_widestBand_44 rfl ?_
        refine xi_iload_n 2 dX8_widestBand_45 rfl ?_
        refine xi_isub (v := c.2 - w2) dX8_widestBand_46 rfl ?_
        refine xi_max (v := (mxI c.1 (c.2 - w2))) dX8_widestBand_47 w_578 w_37 w_3 w_mmax (Nat.le_of_ble_eq_true rfl) (Nat.le_of_ble_eq_true rfl) (Nat.le_of_ble_eq_true rfl) (Nat.le_of_ble_eq_true rfl) (Nat.le_of_ble_eq_true rfl) rfl ?_
        refine xi_istore_n (lv' := [(1, .int (mxI c.1 (c.2 - w2))), (0, .ref x0), (2, .int w2), (3, .int c.2)]) dX8_widestBand_50 (by decide) rfl ?_
        obtain ⟨rfl, rfl⟩ := some_pair m19
        refine xi_sub (lv' := [(0, .ref x0), (1, .int (mxI c.1 (c.2 - w2))), (2, .int w2), (3, .int c.2)]) [1, 0, 2, 3] rfl ?_
        exact key20
set_option maxHeartbeats 4000000 in
set_option maxRecDepth 100000 in
theorem SX8_widestBand_4_w (G : xG) (Gb : xMem) (x0 : Nat) (g0x : netAt x0 = true) (r0 : Int32) (t0 : St) :
    ∀ (k : Nat) (c : Int32 × Int32) (σ : St) (r : Int32) (σ' : St), itr (SX8_widestBand_4 x0) k c σ = some (r, σ') → (xW G mX8_widestBand (xrm 1 0 0) (xQ G (PQ r0 t0 Gb) 0 0) 63 [(1, .int r)] [] (mem σ' Gb) 0 0) → xW G mX8_widestBand (xrm 1 0 0) (xQ G (PQ r0 t0 Gb) 0 0) 4 [(0, .ref x0), (1, .int c.1), (2, .int c.2)] [] (mem σ Gb) 0 0 := by
  intro k
  induction k with
  | zero =>
    intro c σ r σ' h
    exact absurd h (itr_zero _ _ _ _)
  | succ k ih =>
    intro c σ r σ' h HE
    obtain ⟨x, s1, hs, h⟩ := itr_succ h
    unfold SX8_widestBand_4 at hs
    refine xi_iload_n 2 dX8_widestBand_4 rfl ?_
    refine xi_aload_n 0 dX8_widestBand_5 rfl ?_
    obtain ⟨v1, h2, hs⟩ := rdb_some hs
    refine yi_getV (f := 0) dX8_widestBand_6 (netAt_0 g0x) rfl ok_5 (by decide) w_63 rfl h2 ?_
    refine xi_icmp_ge (tgt := 63) dX8_widestBand_9 (by decide) (fun c3 => ?_) (fun c3 => ?_)
    · replace hs := ite_p c3 hs
      refine xi_sub (lv' := [(1, .int c.1)]) [1] rfl ?_
      obtain ⟨rfl, rfl⟩ := some_pair hs
      obtain ⟨rfl, rfl⟩ := some_pair h
      exact HE
    · replace hs := ite_n c3 hs
      refine xi_iload_n 2 dX8_widestBand_12 rfl ?_
      refine xi_iconst (v := 1) dX8_widestBand_13 (by decide) ?_
      refine xi_iadd (v := c.2 + (1 : Int32)) dX8_widestBand_14 rfl ?_
      refine xi_istore_n (lv' := [(3, .int (c.2 + (1 : Int32))), (0, .ref x0), (1, .int c.1), (2, .int c.2)]) dX8_widestBand_15 (by decide) rfl ?_
      refine xi_sub (lv' := [(0, .ref x0), (1, .int c.1), (2, .int c.2), (3, .int (c.2 + (1 : Int32)))]) [1, 2, 3, 0] rfl ?_
      obtain ⟨e21, t22, k23, hs⟩ := bnd_some hs
      obtain ⟨n24, k23⟩ := wh_itr k23
      refine SX8_widestBand_16_w G Gb x0 c.2 g0x r0 t0 n24 (c.1, (c.2 + (1 : Int32))) σ _ _ k23 ?_
      show xW G mX8_widestBand (xrm 1 0 0) (xQ G (PQ r0 t0 Gb) 0 0) 57 [(0, .ref x0), (1, .int e21), (2, .int c.2)] [] (mem t22 Gb) 0 0
      refine xi_iinc (v := (c.2 + 1)) (lv' := [(2, .int (c.2 + 1)), (0, .ref x0), (1, .int e21)]) 2 dX8_widestBand_57 rfl rfl (by decide) rfl ?_
      refine xi_goto (tgt := 4) dX8_widestBand_60 (by decide) ?_
      refine xi_sub (lv' := [(0, .ref x0), (1, .int e21), (2, .int (c.2 + 1))]) [1, 2, 0] rfl ?_
      obtain ⟨rfl, rfl⟩ := some_pair hs
      exact ih (e21, (c.2 + 1)) t22 _ _ h HE
noncomputable def FX8_widestBand (x : Nat) (σ : St) : Option ((Int32) × St) :=
  (chk (netAt x) (bnd (wh (SX8_widestBand_4 x) ((0 : Int32), (0 : Int32)) σ) (fun e25 t26 => (some (e25, t26)))))
set_option maxHeartbeats 4000000 in
set_option maxRecDepth 100000 in
theorem KX8_widestBand (G : xG) (Gb : xMem) (x : Nat) (σ : St) (r0 : Int32) (t0 : St) (hq : FX8_widestBand x σ = some (r0, t0)) : xC G mX8_widestBand 1 0 0 [.ref x] (mem σ Gb) (PQ r0 t0 Gb) := by
  unfold FX8_widestBand at hq
  refine xC.of (by decide) (Nat.le_of_ble_eq_true rfl) ?_
  show xW _ _ _ _ 0 [(0, .ref x)] [] _ 0 0
  obtain ⟨g_x, hq⟩ := chk_some hq
  refine xi_iconst (v := 0) dX8_widestBand_0 (by decide) ?_
  refine xi_istore_n (lv' := [(1, .int 0), (0, .ref x)]) dX8_widestBand_1 (by decide) rfl ?_
  refine xi_iconst (v := 0) dX8_widestBand_2 (by decide) ?_
  refine xi_istore_n (lv' := [(2, .int 0), (1, .int 0), (0, .ref x)]) dX8_widestBand_3 (by decide) rfl ?_
  refine xi_sub (lv' := [(0, .ref x), (1, .int 0), (2, .int 0)]) [2, 1, 0] rfl ?_
  obtain ⟨e25, t26, k27, hq⟩ := bnd_some hq
  obtain ⟨n28, k27⟩ := wh_itr k27
  refine SX8_widestBand_4_w G Gb x g_x r0 t0 n28 ((0 : Int32), (0 : Int32)) σ _ _ k27 ?_
  show xW G mX8_widestBand (xrm 1 0 0) (xQ G (PQ r0 t0 Gb) 0 0) 63 [(1, .int e25)] [] (mem t26 Gb) 0 0
  refine xi_iload_n 0 dX8_widestBand_63 rfl ?_
  have r29 := some_pair hq
  obtain ⟨rfl, rfl⟩ := r29
  exact xi_iret dX8_widestBand_64 rfl rfl (Nat.le_of_ble_eq_true rfl) (Nat.le_of_ble_eq_true rfl) ⟨rfl, rfl⟩
noncomputable def SX8_measured_17 (x0 : Nat) (w1 : Int32) (c : Int32 × Int32 × Int32) (σ : St) : Option (((Int32 × Int32 × Int32) ⊕ (Int32)) × St) :=
  (rdb σ x0 (0) (fun v2 => (if v2 ≤ c.2.2 then (some (Sum.inr c.1, σ)) else (chk (inb c.2.2 9) (rdb σ (x0 + 2) (c.2.2.toNatClampNeg) (fun v6 => (bnd (FX6_aheadAtStep w1 c.2.1 v6 σ) (fun v8 t9 => (bnd (FX6_of x0 w1 v8 v6 t9) (fun v11 t12 => (bnd (FX6_joined w1 c.1 v11 t12) (fun v14 t15 => (some (Sum.inl (v14, (c.2.1 ||| (shl (1 : Int32) v6)), (c.2.2 + 1)), t15))))))))))))))
set_option maxHeartbeats 4000000 in
set_option maxRecDepth 100000 in
theorem SX8_measured_17_w (G : xG) (Gb : xMem) (x0 : Nat) (w1 : Int32) (g0x : netAt x0 = true) (r0 : Int32) (t0 : St) :
    ∀ (k : Nat) (c : Int32 × Int32 × Int32) (σ : St) (r : Int32) (σ' : St), itr (SX8_measured_17 x0 w1) k c σ = some (r, σ') → (xW G mX8_measured (xrm 3 0 0) (xQ G (PQ r0 t0 Gb) 0 0) 72 [(2, .int r)] [] (mem σ' Gb) 0 0) → xW G mX8_measured (xrm 3 0 0) (xQ G (PQ r0 t0 Gb) 0 0) 17 [(0, .ref x0), (1, .int w1), (2, .int c.1), (3, .int c.2.1), (4, .int c.2.2)] [] (mem σ Gb) 0 0 := by
  intro k
  induction k with
  | zero =>
    intro c σ r σ' h
    exact absurd h (itr_zero _ _ _ _)
  | succ k ih =>
    intro c σ r σ' h HE
    obtain ⟨x, s1, hs, h⟩ := itr_succ h
    unfold SX8_measured_17 at hs
    refine xi_iload 4 dX8_measured_17 rfl ?_
    refine xi_aload_n 0 dX8_measured_19 rfl ?_
    obtain ⟨v2, h3, hs⟩ := rdb_some hs
    refine yi_getV (f := 0) dX8_measured_20 (netAt_0 g0x) rfl ok_5 (by decide) w_63 rfl h3 ?_
    refine xi_icmp_ge (tgt := 72) dX8_measured_23 (by decide) (fun c4 => ?_) (fun c4 => ?_)
    · replace hs := ite_p c4 hs
      refine xi_sub (lv' := [(2, .int c.1)]) [2] rfl ?_
      obtain ⟨rfl, rfl⟩ := some_pair hs
      obtain ⟨rfl, rfl⟩ := some_pair h
      exact HE
    · replace hs := ite_n c4 hs
      refine xi_aload_n 0 dX8_measured_26 rfl ?_
      refine yi_getR (f := 3) dX8_measured_27 (netAt_0 g0x) rfl ok_5 (by decide) w_79 rfl ?_
      refine xi_iload 4 dX8_measured_30 rfl ?_
      obtain ⟨g5, hs⟩ := chk_some hs
      obtain ⟨v6, h7, hs⟩ := rdb_some hs
      refine yi_ialoadV dX8_measured_32 (netAt_2 g0x) g5 h7 ?_
      refine xi_istore (lv' := [(5, .int v6), (0, .ref x0), (1, .int w1), (2, .int c.1), (3, .int c.2.1), (4, .int c.2.2)]) dX8_measured_33 (by decide) rfl ?_
      refine xi_iload_n 2 dX8_measured_35 rfl ?_
      refine xi_iload_n 4 dX8_measured_36 rfl ?_
      refine xi_iload 0 dX8_measured_37 rfl ?_
      obtain ⟨v8, t9, k10, hs⟩ := bnd_some hs
      refine xi_callS (as := [.int w1, .int c.2.1, .int v6]) (rest := []) dX8_measured_39 (KX6_aheadAtStep G Gb w1 c.2.1 v6 _ _ _ k10) mkX6_aheadAtStep w_580 w_579 rfl rfl (Nat.le_of_ble_eq_true rfl) (Nat.le_of_ble_eq_true rfl) (Nat.le_of_ble_eq_true rfl) (Nat.le_of_ble_eq_true rfl) (Nat.le_of_ble_eq_true rfl) ?_
      intro v M2 hz
      obtain ⟨rfl, rfl⟩ := hz
      show xW _ _ _ _ 42 _ [.int v8] (mem t9 Gb) _ _
      refine xi_istore (lv' := [(6, .int v8), (5, .int v6), (0, .ref x0), (1, .int w1), (2, .int c.1), (3, .int c.2.1), (4, .int c.2.2)]) dX8_measured_42 (by decide) rfl ?_
      refine xi_iload_n 3 dX8_measured_44 rfl ?_
      refine xi_iload_n 4 dX8_measured_45 rfl ?_
      refine xi_aload_n 2 dX8_measured_46 rfl ?_
      refine xi_iload_n 3 dX8_measured_47 rfl ?_
      refine xi_iload 0 dX8_measured_48 rfl ?_
      refine xi_iload 1 dX8_measured_50 rfl ?_
      obtain ⟨v11, t12, k13, hs⟩ := bnd_some hs
      refine xi_callS (as := [.ref x0, .int w1, .int v8, .int v6]) (rest := [.int c.1, .int w1]) dX8_measured_52 (KX6_of G Gb x0 w1 v8 v6 _ _ _ k13) mkX6_of w_586 w_585 rfl rfl (Nat.le_of_ble_eq_true rfl) (Nat.le_of_ble_eq_true rfl) (Nat.le_of_ble_eq_true rfl) (Nat.le_of_ble_eq_true rfl) (Nat.le_of_ble_eq_true rfl) ?_
      intro v M2 hz
      obtain ⟨rfl, rfl⟩ := hz
      show xW _ _ _ _ 55 _ [.int v11, .int c.1, .int w1] (mem t12 Gb) _ _
      obtain ⟨v14, t15, k16, hs⟩ := bnd_some hs
      refine xi_callS (as := [.int w1, .int c.1, .int v11]) (rest := []) dX8_measured_55 (KX6_joined G Gb w1 c.1 v11 _ _ _ k16) mkX6_joined w_612 w_611 rfl rfl (Nat.le_of_ble_eq_true rfl) (Nat.le_of_ble_eq_true rfl) (Nat.le_of_ble_eq_true rfl) (Nat.le_of_ble_eq_true rfl) (Nat.le_of_ble_eq_true rfl) ?_
      intro v M2 hz
      obtain ⟨rfl, rfl⟩ := hz
      show xW _ _ _ _ 58 _ [.int v14] (mem t15 Gb) _ _
      refine xi_istore_n (lv' := [(2, .int v14), (6, .int v8), (5, .int v6), (0, .ref x0), (1, .int w1), (3, .int c.2.1), (4, .int c.2.2)]) dX8_measured_58 (by decide) rfl ?_
      refine xi_iload_n 5 dX8_measured_59 rfl ?_
      refine xi_iconst (v := 1) dX8_measured_60 (by decide) ?_
      refine xi_iload 2 dX8_measured_61 rfl ?_
      refine xi_ishl (v := shl (1 : Int32) v6) dX8_measured_63 rfl ?_
      refine xi_ior (v := c.2.1 ||| (shl (1 : Int32) v6)) dX8_measured_64 rfl ?_
      refine xi_istore_n (lv' := [(3, .int (c.2.1 ||| (shl (1 : Int32) v6))), (2, .int v14), (6, .int v8), (5, .int v6), (0, .ref x0), (1, .int w1), (4, .int c.2.2)]) dX8_measured_65 (by decide) rfl ?_
      refine xi_iinc (v := (c.2.2 + 1)) (lv' := [(4, .int (c.2.2 + 1)), (3, .int (c.2.1 ||| (shl (1 : Int32) v6))), (2, .int v14), (6, .int v8), (5, .int v6), (0, .ref x0), (1, .int w1)]) 6 dX8_measured_66 rfl rfl (by decide) rfl ?_
      refine xi_goto (tgt := 17) dX8_measured_69 (by decide) ?_
      refine xi_sub (lv' := [(0, .ref x0), (1, .int w1), (2, .int v14), (3, .int (c.2.1 ||| (shl (1 : Int32) v6))), (4, .int (c.2.2 + 1))]) [5, 6, 2, 1, 0] rfl ?_
      obtain ⟨rfl, rfl⟩ := some_pair hs
      exact ih (v14, (c.2.1 ||| (shl (1 : Int32) v6)), (c.2.2 + 1)) t15 _ _ h HE
noncomputable def FX8_measured (x : Nat) (a : Int32) (σ : St) : Option ((Int32) × St) :=
  (chk (netAt x) (if a = (2 : Int32) then (bnd (FX8_widestBand x σ) (fun v22 t23 => (some (v22, t23)))) else (bnd (wh (SX8_measured_17 x a) ((0 : Int32), (0 : Int32), (0 : Int32)) σ) (fun e17 t18 => (some (e17, t18))))))
set_option maxHeartbeats 4000000 in
set_option maxRecDepth 100000 in
theorem KX8_measured (G : xG) (Gb : xMem) (x : Nat) (a : Int32) (σ : St) (r0 : Int32) (t0 : St) (hq : FX8_measured x a σ = some (r0, t0)) : xC G mX8_measured 3 0 0 [.ref x, .int a] (mem σ Gb) (PQ r0 t0 Gb) := by
  unfold FX8_measured at hq
  refine xC.of (by decide) (Nat.le_of_ble_eq_true rfl) ?_
  show xW _ _ _ _ 0 [(0, .ref x), (1, .int a)] [] _ 0 0
  obtain ⟨g_x, hq⟩ := chk_some hq
  refine xi_iload_n 1 dX8_measured_0 rfl ?_
  refine xi_iconst (v := 2) dX8_measured_1 (by decide) ?_
  refine xi_icmp_ne (tgt := 10) dX8_measured_2 (by decide) (fun c1 => ?_) (fun c1 => ?_)
  · replace hq := ite_n c1 hq
    refine xi_iconst (v := 0) dX8_measured_10 (by decide) ?_
    refine xi_istore_n (lv' := [(2, .int 0), (0, .ref x), (1, .int a)]) dX8_measured_11 (by decide) rfl ?_
    refine xi_iconst (v := 0) dX8_measured_12 (by decide) ?_
    refine xi_istore_n (lv' := [(3, .int 0), (2, .int 0), (0, .ref x), (1, .int a)]) dX8_measured_13 (by decide) rfl ?_
    refine xi_iconst (v := 0) dX8_measured_14 (by decide) ?_
    refine xi_istore (lv' := [(4, .int 0), (3, .int 0), (2, .int 0), (0, .ref x), (1, .int a)]) dX8_measured_15 (by decide) rfl ?_
    refine xi_sub (lv' := [(0, .ref x), (1, .int a), (2, .int 0), (3, .int 0), (4, .int 0)]) [3, 4, 2, 1, 0] rfl ?_
    obtain ⟨e17, t18, k19, hq⟩ := bnd_some hq
    obtain ⟨n20, k19⟩ := wh_itr k19
    refine SX8_measured_17_w G Gb x a g_x r0 t0 n20 ((0 : Int32), (0 : Int32), (0 : Int32)) σ _ _ k19 ?_
    show xW G mX8_measured (xrm 3 0 0) (xQ G (PQ r0 t0 Gb) 0 0) 72 [(2, .int e17)] [] (mem t18 Gb) 0 0
    refine xi_iload_n 0 dX8_measured_72 rfl ?_
    have r21 := some_pair hq
    obtain ⟨rfl, rfl⟩ := r21
    exact xi_iret dX8_measured_73 rfl rfl (Nat.le_of_ble_eq_true rfl) (Nat.le_of_ble_eq_true rfl) ⟨rfl, rfl⟩
  · replace hq := ite_p c1 hq
    refine xi_aload_n 0 dX8_measured_5 rfl ?_
    obtain ⟨v22, t23, k24, hq⟩ := bnd_some hq
    refine xi_callS (as := [.ref x]) (rest := []) dX8_measured_6 (KX8_widestBand G Gb x _ _ _ k24) mkX8_widestBand w_575 w_574 rfl rfl (Nat.le_of_ble_eq_true rfl) (Nat.le_of_ble_eq_true rfl) (Nat.le_of_ble_eq_true rfl) (Nat.le_of_ble_eq_true rfl) (Nat.le_of_ble_eq_true rfl) ?_
    intro v M2 hz
    obtain ⟨rfl, rfl⟩ := hz
    show xW _ _ _ _ 9 _ [.int v22] (mem t23 Gb) _ _
    have r25 := some_pair hq
    obtain ⟨rfl, rfl⟩ := r25
    exact xi_iret dX8_measured_9 rfl rfl (Nat.le_of_ble_eq_true rfl) (Nat.le_of_ble_eq_true rfl) ⟨rfl, rfl⟩
noncomputable def SX8_changeBestTwo_29 (x0 : Nat) (w1 : Int32) (w5 : Int32) (c : Int32 × Int32 × Int32 × Int32) (σ : St) : Option (((Int32 × Int32 × Int32 × Int32) ⊕ (Int32 × Int32 × Int32)) × St) :=
  (rdb σ x0 (0) (fun v7 => (if v7 ≤ c.2.2.2 then (some (Sum.inr (c.1, c.2.1, c.2.2.1), σ)) else (bnd (FX5_changeOver x0 w5 c.2.2.2 σ) (fun v10 t11 => (bnd (FX8_measured x0 w1 t11) (fun v13 t14 => (bnd (FX5_changeOver x0 w5 c.2.2.2 t14) (fun v16 t17 => (bnd (if c.1 ≤ v13 then (some ((c.1, c.2.1, c.2.2.1), t17)) else (some ((v13, w5, c.2.2.2), t17))) (fun v20 t21 => (some (Sum.inl (v20.1, v20.2.1, v20.2.2, (c.2.2.2 + 1)), t21)))))))))))))
noncomputable def SX8_changeBestTwo_14 (x0 : Nat) (w1 : Int32) (c : Int32 × Int32 × Int32 × Int32) (σ : St) : Option (((Int32 × Int32 × Int32 × Int32) ⊕ (Int32 × Int32)) × St) :=
  (rdb σ x0 (0) (fun v4 => (if v4 ≤ c.2.2.2 then (some (Sum.inr (c.2.1, c.2.2.1), σ)) else (bnd (wh (SX8_changeBestTwo_29 x0 w1 c.2.2.2) (c.1, c.2.1, c.2.2.1, (c.2.2.2 + (1 : Int32))) σ) (fun e24 t25 => (some (Sum.inl (e24.1, e24.2.1, e24.2.2, (c.2.2.2 + 1)), t25)))))))
set_option maxHeartbeats 4000000 in
set_option maxRecDepth 100000 in
theorem SX8_changeBestTwo_29_w (G : xG) (Gb : xMem) (x0 : Nat) (w1 : Int32) (w5 : Int32) (g0x : netAt x0 = true) (r0 : Int32) (t0 : St) :
    ∀ (k : Nat) (c : Int32 × Int32 × Int32 × Int32) (σ : St) (r : Int32 × Int32 × Int32) (σ' : St), itr (SX8_changeBestTwo_29 x0 w1 w5) k c σ = some (r, σ') → (xW G mX8_changeBestTwo (xrm 4 0 0) (xQ G (PQ r0 t0 Gb) 0 0) 83 [(0, .ref x0), (1, .int w1), (2, .int r.1), (3, .int r.2.1), (4, .int r.2.2), (5, .int w5)] [] (mem σ' Gb) 0 0) → xW G mX8_changeBestTwo (xrm 4 0 0) (xQ G (PQ r0 t0 Gb) 0 0) 29 [(0, .ref x0), (1, .int w1), (2, .int c.1), (3, .int c.2.1), (4, .int c.2.2.1), (5, .int w5), (6, .int c.2.2.2)] [] (mem σ Gb) 0 0 := by
  intro k
  induction k with
  | zero =>
    intro c σ r σ' h
    exact absurd h (itr_zero _ _ _ _)
  | succ k ih =>
    intro c σ r σ' h HE
    obtain ⟨x, s1, hs, h⟩ := itr_succ h
    unfold SX8_changeBestTwo_29 at hs
    refine xi_iload 6 dX8_changeBestTwo_29 rfl ?_
    refine xi_aload_n 0 dX8_changeBestTwo_31 rfl ?_
    obtain ⟨v7, h8, hs⟩ := rdb_some hs
    refine yi_getV (f := 0) dX8_changeBestTwo_32 (netAt_0 g0x) rfl ok_5 (by decide) w_63 rfl h8 ?_
    refine xi_icmp_ge (tgt := 83) dX8_changeBestTwo_35 (by decide) (fun c9 => ?_) (fun c9 => ?_)
    · replace hs := ite_p c9 hs
      refine xi_sub (lv' := [(0, .ref x0), (1, .int w1), (2, .int c.1), (3, .int c.2.1), (4, .int c.2.2.1), (5, .int w5)]) [0, 1, 2, 3, 4, 5] rfl ?_
      obtain ⟨rfl, rfl⟩ := some_pair hs
      obtain ⟨rfl, rfl⟩ := some_pair h
      exact HE
    · replace hs := ite_n c9 hs
      refine xi_aload_n 0 dX8_changeBestTwo_38 rfl ?_
      refine xi_iload 5 dX8_changeBestTwo_39 rfl ?_
      refine xi_iload 6 dX8_changeBestTwo_41 rfl ?_
      obtain ⟨v10, t11, k12, hs⟩ := bnd_some hs
      refine xi_callV (as := [.int w5, .int c.2.2.2]) (rest := []) dX8_changeBestTwo_43 (KX5_changeOver G Gb x0 w5 c.2.2.2 _ _ _ k12) mkX5_changeOver w_866 w_867 w_907 (mem_get (netAt_0 g0x)) rfl rfl rfl rfl (Nat.le_of_ble_eq_true rfl) (Nat.le_of_ble_eq_true rfl) (Nat.le_of_ble_eq_true rfl) (Nat.le_of_ble_eq_true rfl) (Nat.le_of_ble_eq_true rfl) ?_
      intro v M2 hz
      obtain ⟨rfl, rfl⟩ := hz
      show xW _ _ _ _ 46 _ [] (mem t11 Gb) _ _
      refine xi_aload_n 0 dX8_changeBestTwo_46 rfl ?_
      refine xi_iload_n 1 dX8_changeBestTwo_47 rfl ?_
      obtain ⟨v13, t14, k15, hs⟩ := bnd_some hs
      refine xi_callS (as := [.ref x0, .int w1]) (rest := []) dX8_changeBestTwo_48 (KX8_measured G Gb x0 w1 _ _ _ k15) mkX8_measured w_572 w_906 rfl rfl (Nat.le_of_ble_eq_true rfl) (Nat.le_of_ble_eq_true rfl) (Nat.le_of_ble_eq_true rfl) (Nat.le_of_ble_eq_true rfl) (Nat.le_of_ble_eq_true rfl) ?_
      intro v M2 hz
      obtain ⟨rfl, rfl⟩ := hz
      show xW _ _ _ _ 51 _ [.int v13] (mem t14 Gb) _ _
      refine xi_istore (lv' := [(7, .int v13), (0, .ref x0), (1, .int w1), (2, .int c.1), (3, .int c.2.1), (4, .int c.2.2.1), (5, .int w5), (6, .int c.2.2.2)]) dX8_changeBestTwo_51 (by decide) rfl ?_
      refine xi_aload_n 1 dX8_changeBestTwo_53 rfl ?_
      refine xi_iload 6 dX8_changeBestTwo_54 rfl ?_
      refine xi_iload 7 dX8_changeBestTwo_56 rfl ?_
      obtain ⟨v16, t17, k18, hs⟩ := bnd_some hs
      refine xi_callV (as := [.int w5, .int c.2.2.2]) (rest := []) dX8_changeBestTwo_58 (KX5_changeOver G Gb x0 w5 c.2.2.2 _ _ _ k18) mkX5_changeOver w_866 w_867 w_907 (mem_get (netAt_0 g0x)) rfl rfl rfl rfl (Nat.le_of_ble_eq_true rfl) (Nat.le_of_ble_eq_true rfl) (Nat.le_of_ble_eq_true rfl) (Nat.le_of_ble_eq_true rfl) (Nat.le_of_ble_eq_true rfl) ?_
      intro v M2 hz
      obtain ⟨rfl, rfl⟩ := hz
      show xW _ _ _ _ 61 _ [] (mem t17 Gb) _ _
      refine xi_iload 0 dX8_changeBestTwo_61 rfl ?_
      refine xi_iload_n 3 dX8_changeBestTwo_63 rfl ?_
      obtain ⟨v20, t21, m22, hs⟩ := bnd_some hs
      have key23 : xW G mX8_changeBestTwo (xrm 4 0 0) (xQ G (PQ r0 t0 Gb) 0 0) 77 [(0, .ref x0), (1, .int w1), (2, .int v20.1), (3, .int v20.2.1), (4, .int v20.2.2), (5, .int w5), (6, .int c.2.2.2)] [] (mem t21 Gb) 0 0 := by
        refine xi_iinc (v := (c.2.2.2 + 1)) (lv' := [(6, .int (c.2.2.2 + 1)), (0, .ref x0), (1, .int w1), (2, .int v20.1), (3, .int v20.2.1), (4, .int v20.2.2), (5, .int w5)]) 6 dX8_changeBestTwo_77 rfl rfl (by decide) rfl ?_
        refine xi_goto (tgt := 29) dX8_changeBestTwo_80 (by decide) ?_
        refine xi_sub (lv' := [(0, .ref x0), (1, .int w1), (2, .int v20.1), (3, .int v20.2.1), (4, .int v20.2.2), (5, .int w5), (6, .int (c.2.2.2 + 1))]) [1, 2, 3, 4, 5, 6, 0] rfl ?_
        obtain ⟨rfl, rfl⟩ := some_pair hs
        exact ih (v20.1, v20.2.1, v20.2.2, (c.2.2.2 + 1)) t21 _ _ h HE
      refine xi_icmp_ge (tgt := 77) dX8_changeBestTwo_64 (by decide) (fun c19 => ?_) (fun c19 => ?_)
      · replace m22 := ite_p c19 m22
        obtain ⟨rfl, rfl⟩ := some_pair m22
        refine xi_sub (lv' := [(0, .ref x0), (1, .int w1), (2, .int c.1), (3, .int c.2.1), (4, .int c.2.2.1), (5, .int w5), (6, .int c.2.2.2)]) [1, 2, 3, 4, 5, 6, 7] rfl ?_
        exact key23
      · replace m22 := ite_n c19 m22
        refine xi_iload 0 dX8_changeBestTwo_67 rfl ?_
        refine xi_istore_n (lv' := [(2, .int v13), (7, .int v13), (0, .ref x0), (1, .int w1), (3, .int c.2.1), (4, .int c.2.2.1), (5, .int w5), (6, .int c.2.2.2)]) dX8_changeBestTwo_69 (by decide) rfl ?_
        refine xi_iload 6 dX8_changeBestTwo_70 rfl ?_
        refine xi_istore_n (lv' := [(3, .int w5), (2, .int v13), (7, .int v13), (0, .ref x0), (1, .int w1), (4, .int c.2.2.1), (5, .int w5), (6, .int c.2.2.2)]) dX8_changeBestTwo_72 (by decide) rfl ?_
        refine xi_iload 7 dX8_changeBestTwo_73 rfl ?_
        refine xi_istore (lv' := [(4, .int c.2.2.2), (3, .int w5), (2, .int v13), (7, .int v13), (0, .ref x0), (1, .int w1), (5, .int w5), (6, .int c.2.2.2)]) dX8_changeBestTwo_75 (by decide) rfl ?_
        obtain ⟨rfl, rfl⟩ := some_pair m22
        refine xi_sub (lv' := [(0, .ref x0), (1, .int w1), (2, .int v13), (3, .int w5), (4, .int c.2.2.2), (5, .int w5), (6, .int c.2.2.2)]) [4, 5, 2, 1, 0, 6, 7] rfl ?_
        exact key23
set_option maxHeartbeats 4000000 in
set_option maxRecDepth 100000 in
theorem SX8_changeBestTwo_14_w (G : xG) (Gb : xMem) (x0 : Nat) (w1 : Int32) (g0x : netAt x0 = true) (r0 : Int32) (t0 : St) :
    ∀ (k : Nat) (c : Int32 × Int32 × Int32 × Int32) (σ : St) (r : Int32 × Int32) (σ' : St), itr (SX8_changeBestTwo_14 x0 w1) k c σ = some (r, σ') → (xW G mX8_changeBestTwo (xrm 4 0 0) (xQ G (PQ r0 t0 Gb) 0 0) 89 [(0, .ref x0), (3, .int r.1), (4, .int r.2)] [] (mem σ' Gb) 0 0) → xW G mX8_changeBestTwo (xrm 4 0 0) (xQ G (PQ r0 t0 Gb) 0 0) 14 [(0, .ref x0), (1, .int w1), (2, .int c.1), (3, .int c.2.1), (4, .int c.2.2.1), (5, .int c.2.2.2)] [] (mem σ Gb) 0 0 := by
  intro k
  induction k with
  | zero =>
    intro c σ r σ' h
    exact absurd h (itr_zero _ _ _ _)
  | succ k ih =>
    intro c σ r σ' h HE
    obtain ⟨x, s1, hs, h⟩ := itr_succ h
    unfold SX8_changeBestTwo_14 at hs
    refine xi_iload 5 dX8_changeBestTwo_14 rfl ?_
    refine xi_aload_n 0 dX8_changeBestTwo_16 rfl ?_
    obtain ⟨v4, h5, hs⟩ := rdb_some hs
    refine yi_getV (f := 0) dX8_changeBestTwo_17 (netAt_0 g0x) rfl ok_5 (by decide) w_63 rfl h5 ?_
    refine xi_icmp_ge (tgt := 89) dX8_changeBestTwo_20 (by decide) (fun c6 => ?_) (fun c6 => ?_)
    · replace hs := ite_p c6 hs
      refine xi_sub (lv' := [(0, .ref x0), (3, .int c.2.1), (4, .int c.2.2.1)]) [0, 3, 4] rfl ?_
      obtain ⟨rfl, rfl⟩ := some_pair hs
      obtain ⟨rfl, rfl⟩ := some_pair h
      exact HE
    · replace hs := ite_n c6 hs
      refine xi_iload 5 dX8_changeBestTwo_23 rfl ?_
      refine xi_iconst (v := 1) dX8_changeBestTwo_25 (by decide) ?_
      refine xi_iadd (v := c.2.2.2 + (1 : Int32)) dX8_changeBestTwo_26 rfl ?_
      refine xi_istore (lv' := [(6, .int (c.2.2.2 + (1 : Int32))), (0, .ref x0), (1, .int w1), (2, .int c.1), (3, .int c.2.1), (4, .int c.2.2.1), (5, .int c.2.2.2)]) dX8_changeBestTwo_27 (by decide) rfl ?_
      refine xi_sub (lv' := [(0, .ref x0), (1, .int w1), (2, .int c.1), (3, .int c.2.1), (4, .int c.2.2.1), (5, .int c.2.2.2), (6, .int (c.2.2.2 + (1 : Int32)))]) [1, 2, 3, 4, 5, 6, 0] rfl ?_
      obtain ⟨e24, t25, k26, hs⟩ := bnd_some hs
      obtain ⟨n27, k26⟩ := wh_itr k26
      refine SX8_changeBestTwo_29_w G Gb x0 w1 c.2.2.2 g0x r0 t0 n27 (c.1, c.2.1, c.2.2.1, (c.2.2.2 + (1 : Int32))) σ _ _ k26 ?_
      show xW G mX8_changeBestTwo (xrm 4 0 0) (xQ G (PQ r0 t0 Gb) 0 0) 83 [(0, .ref x0), (1, .int w1), (2, .int e24.1), (3, .int e24.2.1), (4, .int e24.2.2), (5, .int c.2.2.2)] [] (mem t25 Gb) 0 0
      refine xi_iinc (v := (c.2.2.2 + 1)) (lv' := [(5, .int (c.2.2.2 + 1)), (0, .ref x0), (1, .int w1), (2, .int e24.1), (3, .int e24.2.1), (4, .int e24.2.2)]) 5 dX8_changeBestTwo_83 rfl rfl (by decide) rfl ?_
      refine xi_goto (tgt := 14) dX8_changeBestTwo_86 (by decide) ?_
      refine xi_sub (lv' := [(0, .ref x0), (1, .int w1), (2, .int e24.1), (3, .int e24.2.1), (4, .int e24.2.2), (5, .int (c.2.2.2 + 1))]) [1, 2, 3, 4, 5, 0] rfl ?_
      obtain ⟨rfl, rfl⟩ := some_pair hs
      exact ih (e24.1, e24.2.1, e24.2.2, (c.2.2.2 + 1)) t25 _ _ h HE
noncomputable def FX8_changeBestTwo (x : Nat) (a : Int32) (σ : St) : Option ((Int32) × St) :=
  (chk (netAt x) (bnd (FX8_measured x a σ) (fun v1 t2 => (bnd (wh (SX8_changeBestTwo_14 x a) (v1, (-1 : Int32), (-1 : Int32), (0 : Int32)) t2) (fun e28 t29 => (if e28.1 = (-1 : Int32) then (some ((0 : Int32), t29)) else (bnd (FX5_changeOver x e28.1 e28.2 t29) (fun v33 t34 => (some ((1 : Int32), t34))))))))))
set_option maxHeartbeats 4000000 in
set_option maxRecDepth 100000 in
theorem KX8_changeBestTwo (G : xG) (Gb : xMem) (x : Nat) (a : Int32) (σ : St) (r0 : Int32) (t0 : St) (hq : FX8_changeBestTwo x a σ = some (r0, t0)) : xC G mX8_changeBestTwo 4 0 0 [.ref x, .int a] (mem σ Gb) (PQ r0 t0 Gb) := by
  unfold FX8_changeBestTwo at hq
  refine xC.of (by decide) (Nat.le_of_ble_eq_true rfl) ?_
  show xW _ _ _ _ 0 [(0, .ref x), (1, .int a)] [] _ 0 0
  obtain ⟨g_x, hq⟩ := chk_some hq
  refine xi_aload_n 0 dX8_changeBestTwo_0 rfl ?_
  refine xi_iload_n 1 dX8_changeBestTwo_1 rfl ?_
  obtain ⟨v1, t2, k3, hq⟩ := bnd_some hq
  refine xi_callS (as := [.ref x, .int a]) (rest := []) dX8_changeBestTwo_2 (KX8_measured G Gb x a _ _ _ k3) mkX8_measured w_572 w_906 rfl rfl (Nat.le_of_ble_eq_true rfl) (Nat.le_of_ble_eq_true rfl) (Nat.le_of_ble_eq_true rfl) (Nat.le_of_ble_eq_true rfl) (Nat.le_of_ble_eq_true rfl) ?_
  intro v M2 hz
  obtain ⟨rfl, rfl⟩ := hz
  show xW _ _ _ _ 5 _ [.int v1] (mem t2 Gb) _ _
  refine xi_istore_n (lv' := [(2, .int v1), (0, .ref x), (1, .int a)]) dX8_changeBestTwo_5 (by decide) rfl ?_
  refine xi_iconst (v := (-1)) dX8_changeBestTwo_6 (by decide) ?_
  refine xi_istore_n (lv' := [(3, .int (-1)), (2, .int v1), (0, .ref x), (1, .int a)]) dX8_changeBestTwo_7 (by decide) rfl ?_
  refine xi_iconst (v := (-1)) dX8_changeBestTwo_8 (by decide) ?_
  refine xi_istore (lv' := [(4, .int (-1)), (3, .int (-1)), (2, .int v1), (0, .ref x), (1, .int a)]) dX8_changeBestTwo_9 (by decide) rfl ?_
  refine xi_iconst (v := 0) dX8_changeBestTwo_11 (by decide) ?_
  refine xi_istore (lv' := [(5, .int 0), (4, .int (-1)), (3, .int (-1)), (2, .int v1), (0, .ref x), (1, .int a)]) dX8_changeBestTwo_12 (by decide) rfl ?_
  refine xi_sub (lv' := [(0, .ref x), (1, .int a), (2, .int v1), (3, .int (-1)), (4, .int (-1)), (5, .int 0)]) [4, 5, 3, 2, 1, 0] rfl ?_
  obtain ⟨e28, t29, k30, hq⟩ := bnd_some hq
  obtain ⟨n31, k30⟩ := wh_itr k30
  refine SX8_changeBestTwo_14_w G Gb x a g_x r0 t0 n31 (v1, (-1 : Int32), (-1 : Int32), (0 : Int32)) t2 _ _ k30 ?_
  show xW G mX8_changeBestTwo (xrm 4 0 0) (xQ G (PQ r0 t0 Gb) 0 0) 89 [(0, .ref x), (3, .int e28.1), (4, .int e28.2)] [] (mem t29 Gb) 0 0
  refine xi_iload_n 1 dX8_changeBestTwo_89 rfl ?_
  refine xi_iconst (v := (-1)) dX8_changeBestTwo_90 (by decide) ?_
  refine xi_icmp_ne (tgt := 96) dX8_changeBestTwo_91 (by decide) (fun c32 => ?_) (fun c32 => ?_)
  · replace hq := ite_n c32 hq
    refine xi_aload_n 0 dX8_changeBestTwo_96 rfl ?_
    refine xi_iload_n 1 dX8_changeBestTwo_97 rfl ?_
    refine xi_iload 2 dX8_changeBestTwo_98 rfl ?_
    obtain ⟨v33, t34, k35, hq⟩ := bnd_some hq
    refine xi_callV (as := [.int e28.1, .int e28.2]) (rest := []) dX8_changeBestTwo_100 (KX5_changeOver G Gb x e28.1 e28.2 _ _ _ k35) mkX5_changeOver w_866 w_867 w_907 (mem_get (netAt_0 g_x)) rfl rfl rfl rfl (Nat.le_of_ble_eq_true rfl) (Nat.le_of_ble_eq_true rfl) (Nat.le_of_ble_eq_true rfl) (Nat.le_of_ble_eq_true rfl) (Nat.le_of_ble_eq_true rfl) ?_
    intro v M2 hz
    obtain ⟨rfl, rfl⟩ := hz
    show xW _ _ _ _ 103 _ [] (mem t34 Gb) _ _
    refine xi_iconst (v := 1) dX8_changeBestTwo_103 (by decide) ?_
    have r36 := some_pair hq
    obtain ⟨rfl, rfl⟩ := r36
    exact xi_iret dX8_changeBestTwo_104 rfl (by decide) (Nat.le_of_ble_eq_true rfl) (Nat.le_of_ble_eq_true rfl) ⟨rfl, rfl⟩
  · replace hq := ite_p c32 hq
    refine xi_iconst (v := 0) dX8_changeBestTwo_94 (by decide) ?_
    have r37 := some_pair hq
    obtain ⟨rfl, rfl⟩ := r37
    exact xi_iret dX8_changeBestTwo_95 rfl (by decide) (Nat.le_of_ble_eq_true rfl) (Nat.le_of_ble_eq_true rfl) ⟨rfl, rfl⟩
noncomputable def SX8_longestLine_19 (x0 : Nat) (w3 : Int32) (c : Int32 × Int32 × Int32) (σ : St) : Option (((Int32 × Int32 × Int32) ⊕ (Int32 × Int32)) × St) :=
  (rdb σ x0 (0) (fun v4 => (if v4 ≤ c.2.2 then (some (Sum.inr (c.1, c.2.1), σ)) else (bnd (FX5_placeOf x0 w3 σ) (fun v7 t8 => (bnd (FX5_placeOf x0 c.2.2 t8) (fun v10 t11 => (bnd (FX5_weightOf x0 w3 c.2.2 t11) (fun v13 t14 => (bnd (if v13 ≤ (0 : Int32) then (some ((c.1, c.2.1), t14)) else (if (abI (v7 - v10)) ≤ c.2.1 then (some ((c.1, c.2.1), t14)) else (some (((((10 : Int32) * w3) + c.2.2), (abI (v7 - v10))), t14)))) (fun v17 t18 => (some (Sum.inl (v17.1, v17.2, (c.2.2 + 1)), t18)))))))))))))
noncomputable def SX8_longestLine_6 (x0 : Nat) (c : Int32 × Int32 × Int32) (σ : St) : Option (((Int32 × Int32 × Int32) ⊕ (Int32)) × St) :=
  (rdb σ x0 (0) (fun v1 => (if v1 ≤ c.2.2 then (some (Sum.inr c.1, σ)) else (bnd (wh (SX8_longestLine_19 x0 c.2.2) (c.1, c.2.1, (c.2.2 + (1 : Int32))) σ) (fun e22 t23 => (some (Sum.inl (e22.1, e22.2, (c.2.2 + 1)), t23)))))))
set_option maxHeartbeats 4000000 in
set_option maxRecDepth 100000 in
theorem SX8_longestLine_19_w (G : xG) (Gb : xMem) (x0 : Nat) (w3 : Int32) (g0x : netAt x0 = true) (r0 : Int32) (t0 : St) :
    ∀ (k : Nat) (c : Int32 × Int32 × Int32) (σ : St) (r : Int32 × Int32) (σ' : St), itr (SX8_longestLine_19 x0 w3) k c σ = some (r, σ') → (xW G mX8_longestLine (xrm 1 0 0) (xQ G (PQ r0 t0 Gb) 0 0) 78 [(0, .ref x0), (1, .int r.1), (2, .int r.2), (3, .int w3)] [] (mem σ' Gb) 0 0) → xW G mX8_longestLine (xrm 1 0 0) (xQ G (PQ r0 t0 Gb) 0 0) 19 [(0, .ref x0), (1, .int c.1), (2, .int c.2.1), (3, .int w3), (4, .int c.2.2)] [] (mem σ Gb) 0 0 := by
  intro k
  induction k with
  | zero =>
    intro c σ r σ' h
    exact absurd h (itr_zero _ _ _ _)
  | succ k ih =>
    intro c σ r σ' h HE
    obtain ⟨x, s1, hs, h⟩ := itr_succ h
    unfold SX8_longestLine_19 at hs
    refine xi_iload 4 dX8_longestLine_19 rfl ?_
    refine xi_aload_n 0 dX8_longestLine_21 rfl ?_
    obtain ⟨v4, h5, hs⟩ := rdb_some hs
    refine yi_getV (f := 0) dX8_longestLine_22 (netAt_0 g0x) rfl ok_5 (by decide) w_63 rfl h5 ?_
    refine xi_icmp_ge (tgt := 78) dX8_longestLine_25 (by decide) (fun c6 => ?_) (fun c6 => ?_)
    · replace hs := ite_p c6 hs
      refine xi_sub (lv' := [(0, .ref x0), (1, .int c.1), (2, .int c.2.1), (3, .int w3)]) [0, 1, 2, 3] rfl ?_
      obtain ⟨rfl, rfl⟩ := some_pair hs
      obtain ⟨rfl, rfl⟩ := some_pair h
      exact HE
    · replace hs := ite_n c6 hs
      refine xi_aload_n 0 dX8_longestLine_28 rfl ?_
      refine xi_iload_n 3 dX8_longestLine_29 rfl ?_
      obtain ⟨v7, t8, k9, hs⟩ := bnd_some hs
      refine xi_callV (as := [.int w3]) (rest := []) dX8_longestLine_30 (KX5_placeOf G Gb x0 w3 _ _ _ k9) mkX5_placeOf w_561 w_562 w_649 (mem_get (netAt_0 g0x)) rfl rfl rfl rfl (Nat.le_of_ble_eq_true rfl) (Nat.le_of_ble_eq_true rfl) (Nat.le_of_ble_eq_true rfl) (Nat.le_of_ble_eq_true rfl) (Nat.le_of_ble_eq_true rfl) ?_
      intro v M2 hz
      obtain ⟨rfl, rfl⟩ := hz
      show xW _ _ _ _ 33 _ [.int v7] (mem t8 Gb) _ _
      refine xi_aload_n 0 dX8_longestLine_33 rfl ?_
      refine xi_iload 4 dX8_longestLine_34 rfl ?_
      obtain ⟨v10, t11, k12, hs⟩ := bnd_some hs
      refine xi_callV (as := [.int c.2.2]) (rest := [.int v7]) dX8_longestLine_36 (KX5_placeOf G Gb x0 c.2.2 _ _ _ k12) mkX5_placeOf w_561 w_562 w_649 (mem_get (netAt_0 g0x)) rfl rfl rfl rfl (Nat.le_of_ble_eq_true rfl) (Nat.le_of_ble_eq_true rfl) (Nat.le_of_ble_eq_true rfl) (Nat.le_of_ble_eq_true rfl) (Nat.le_of_ble_eq_true rfl) ?_
      intro v M2 hz
      obtain ⟨rfl, rfl⟩ := hz
      show xW _ _ _ _ 39 _ [.int v10, .int v7] (mem t11 Gb) _ _
      refine xi_isub (v := v7 - v10) dX8_longestLine_39 rfl ?_
      refine xi_abs (v := (abI (v7 - v10))) dX8_longestLine_40 w_650 w_651 w_3 w_mabs (Nat.le_of_ble_eq_true rfl) (Nat.le_of_ble_eq_true rfl) (Nat.le_of_ble_eq_true rfl) (Nat.le_of_ble_eq_true rfl) (Nat.le_of_ble_eq_true rfl) rfl ?_
      refine xi_istore (lv' := [(5, .int (abI (v7 - v10))), (0, .ref x0), (1, .int c.1), (2, .int c.2.1), (3, .int w3), (4, .int c.2.2)]) dX8_longestLine_43 (by decide) rfl ?_
      refine xi_aload_n 1 dX8_longestLine_45 rfl ?_
      refine xi_iload_n 4 dX8_longestLine_46 rfl ?_
      refine xi_iload 5 dX8_longestLine_47 rfl ?_
      obtain ⟨v13, t14, k15, hs⟩ := bnd_some hs
      refine xi_callV (as := [.int w3, .int c.2.2]) (rest := []) dX8_longestLine_49 (KX5_weightOf G Gb x0 w3 c.2.2 _ _ _ k15) mkX5_weightOf w_415 w_416 w_577 (mem_get (netAt_0 g0x)) rfl rfl rfl rfl (Nat.le_of_ble_eq_true rfl) (Nat.le_of_ble_eq_true rfl) (Nat.le_of_ble_eq_true rfl) (Nat.le_of_ble_eq_true rfl) (Nat.le_of_ble_eq_true rfl) ?_
      intro v M2 hz
      obtain ⟨rfl, rfl⟩ := hz
      show xW _ _ _ _ 52 _ [.int v13] (mem t14 Gb) _ _
      obtain ⟨v17, t18, m19, hs⟩ := bnd_some hs
      have key20 : xW G mX8_longestLine (xrm 1 0 0) (xQ G (PQ r0 t0 Gb) 0 0) 72 [(0, .ref x0), (1, .int v17.1), (2, .int v17.2), (3, .int w3), (4, .int c.2.2)] [] (mem t18 Gb) 0 0 := by
        refine xi_iinc (v := (c.2.2 + 1)) (lv' := [(4, .int (c.2.2 + 1)), (0, .ref x0), (1, .int v17.1), (2, .int v17.2), (3, .int w3)]) 4 dX8_longestLine_72 rfl rfl (by decide) rfl ?_
        refine xi_goto (tgt := 19) dX8_longestLine_75 (by decide) ?_
        refine xi_sub (lv' := [(0, .ref x0), (1, .int v17.1), (2, .int v17.2), (3, .int w3), (4, .int (c.2.2 + 1))]) [1, 2, 3, 4, 0] rfl ?_
        obtain ⟨rfl, rfl⟩ := some_pair hs
        exact ih (v17.1, v17.2, (c.2.2 + 1)) t18 _ _ h HE
      refine xi_if_le (tgt := 72) dX8_longestLine_52 (by decide) (fun c16 => ?_) (fun c16 => ?_)
      · replace m19 := ite_p c16 m19
        obtain ⟨rfl, rfl⟩ := some_pair m19
        refine xi_sub (lv' := [(0, .ref x0), (1, .int c.1), (2, .int c.2.1), (3, .int w3), (4, .int c.2.2)]) [1, 2, 3, 4, 5] rfl ?_
        exact key20
      · replace m19 := ite_n c16 m19
        refine xi_iload 0 dX8_longestLine_55 rfl ?_
        refine xi_iload_n 3 dX8_longestLine_57 rfl ?_
        refine xi_icmp_le (tgt := 72) dX8_longestLine_58 (by decide) (fun c21 => ?_) (fun c21 => ?_)
        · replace m19 := ite_p c21 m19
          obtain ⟨rfl, rfl⟩ := some_pair m19
          refine xi_sub (lv' := [(0, .ref x0), (1, .int c.1), (2, .int c.2.1), (3, .int w3), (4, .int c.2.2)]) [1, 2, 3, 4, 5] rfl ?_
          exact key20
        · replace m19 := ite_n c21 m19
          refine xi_iload 0 dX8_longestLine_61 rfl ?_
          refine xi_istore_n (lv' := [(2, .int (abI (v7 - v10))), (5, .int (abI (v7 - v10))), (0, .ref x0), (1, .int c.1), (3, .int w3), (4, .int c.2.2)]) dX8_longestLine_63 (by decide) rfl ?_
          refine xi_bipush (v := 10) dX8_longestLine_64 (by decide) ?_
          refine xi_iload_n 4 dX8_longestLine_66 rfl ?_
          refine xi_imul (v := (10 : Int32) * w3) dX8_longestLine_67 rfl ?_
          refine xi_iload 5 dX8_longestLine_68 rfl ?_
          refine xi_iadd (v := ((10 : Int32) * w3) + c.2.2) dX8_longestLine_70 rfl ?_
          refine xi_istore_n (lv' := [(1, .int (((10 : Int32) * w3) + c.2.2)), (2, .int (abI (v7 - v10))), (5, .int (abI (v7 - v10))), (0, .ref x0), (3, .int w3), (4, .int c.2.2)]) dX8_longestLine_71 (by decide) rfl ?_
          obtain ⟨rfl, rfl⟩ := some_pair m19
          refine xi_sub (lv' := [(0, .ref x0), (1, .int (((10 : Int32) * w3) + c.2.2)), (2, .int (abI (v7 - v10))), (3, .int w3), (4, .int c.2.2)]) [3, 0, 1, 4, 5] rfl ?_
          exact key20
set_option maxHeartbeats 4000000 in
set_option maxRecDepth 100000 in
theorem SX8_longestLine_6_w (G : xG) (Gb : xMem) (x0 : Nat) (g0x : netAt x0 = true) (r0 : Int32) (t0 : St) :
    ∀ (k : Nat) (c : Int32 × Int32 × Int32) (σ : St) (r : Int32) (σ' : St), itr (SX8_longestLine_6 x0) k c σ = some (r, σ') → (xW G mX8_longestLine (xrm 1 0 0) (xQ G (PQ r0 t0 Gb) 0 0) 84 [(1, .int r)] [] (mem σ' Gb) 0 0) → xW G mX8_longestLine (xrm 1 0 0) (xQ G (PQ r0 t0 Gb) 0 0) 6 [(0, .ref x0), (1, .int c.1), (2, .int c.2.1), (3, .int c.2.2)] [] (mem σ Gb) 0 0 := by
  intro k
  induction k with
  | zero =>
    intro c σ r σ' h
    exact absurd h (itr_zero _ _ _ _)
  | succ k ih =>
    intro c σ r σ' h HE
    obtain ⟨x, s1, hs, h⟩ := itr_succ h
    unfold SX8_longestLine_6 at hs
    refine xi_iload_n 3 dX8_longestLine_6 rfl ?_
    refine xi_aload_n 0 dX8_longestLine_7 rfl ?_
    obtain ⟨v1, h2, hs⟩ := rdb_some hs
    refine yi_getV (f := 0) dX8_longestLine_8 (netAt_0 g0x) rfl ok_5 (by decide) w_63 rfl h2 ?_
    refine xi_icmp_ge (tgt := 84) dX8_longestLine_11 (by decide) (fun c3 => ?_) (fun c3 => ?_)
    · replace hs := ite_p c3 hs
      refine xi_sub (lv' := [(1, .int c.1)]) [1] rfl ?_
      obtain ⟨rfl, rfl⟩ := some_pair hs
      obtain ⟨rfl, rfl⟩ := some_pair h
      exact HE
    · replace hs := ite_n c3 hs
      refine xi_iload_n 3 dX8_longestLine_14 rfl ?_
      refine xi_iconst (v := 1) dX8_longestLine_15 (by decide) ?_
      refine xi_iadd (v := c.2.2 + (1 : Int32)) dX8_longestLine_16 rfl ?_
      refine xi_istore (lv' := [(4, .int (c.2.2 + (1 : Int32))), (0, .ref x0), (1, .int c.1), (2, .int c.2.1), (3, .int c.2.2)]) dX8_longestLine_17 (by decide) rfl ?_
      refine xi_sub (lv' := [(0, .ref x0), (1, .int c.1), (2, .int c.2.1), (3, .int c.2.2), (4, .int (c.2.2 + (1 : Int32)))]) [1, 2, 3, 4, 0] rfl ?_
      obtain ⟨e22, t23, k24, hs⟩ := bnd_some hs
      obtain ⟨n25, k24⟩ := wh_itr k24
      refine SX8_longestLine_19_w G Gb x0 c.2.2 g0x r0 t0 n25 (c.1, c.2.1, (c.2.2 + (1 : Int32))) σ _ _ k24 ?_
      show xW G mX8_longestLine (xrm 1 0 0) (xQ G (PQ r0 t0 Gb) 0 0) 78 [(0, .ref x0), (1, .int e22.1), (2, .int e22.2), (3, .int c.2.2)] [] (mem t23 Gb) 0 0
      refine xi_iinc (v := (c.2.2 + 1)) (lv' := [(3, .int (c.2.2 + 1)), (0, .ref x0), (1, .int e22.1), (2, .int e22.2)]) 3 dX8_longestLine_78 rfl rfl (by decide) rfl ?_
      refine xi_goto (tgt := 6) dX8_longestLine_81 (by decide) ?_
      refine xi_sub (lv' := [(0, .ref x0), (1, .int e22.1), (2, .int e22.2), (3, .int (c.2.2 + 1))]) [1, 2, 3, 0] rfl ?_
      obtain ⟨rfl, rfl⟩ := some_pair hs
      exact ih (e22.1, e22.2, (c.2.2 + 1)) t23 _ _ h HE
noncomputable def FX8_longestLine (x : Nat) (σ : St) : Option ((Int32) × St) :=
  (chk (netAt x) (bnd (wh (SX8_longestLine_6 x) ((-1 : Int32), (0 : Int32), (0 : Int32)) σ) (fun e26 t27 => (some (e26, t27)))))
set_option maxHeartbeats 4000000 in
set_option maxRecDepth 100000 in
theorem KX8_longestLine (G : xG) (Gb : xMem) (x : Nat) (σ : St) (r0 : Int32) (t0 : St) (hq : FX8_longestLine x σ = some (r0, t0)) : xC G mX8_longestLine 1 0 0 [.ref x] (mem σ Gb) (PQ r0 t0 Gb) := by
  unfold FX8_longestLine at hq
  refine xC.of (by decide) (Nat.le_of_ble_eq_true rfl) ?_
  show xW _ _ _ _ 0 [(0, .ref x)] [] _ 0 0
  obtain ⟨g_x, hq⟩ := chk_some hq
  refine xi_iconst (v := (-1)) dX8_longestLine_0 (by decide) ?_
  refine xi_istore_n (lv' := [(1, .int (-1)), (0, .ref x)]) dX8_longestLine_1 (by decide) rfl ?_
  refine xi_iconst (v := 0) dX8_longestLine_2 (by decide) ?_
  refine xi_istore_n (lv' := [(2, .int 0), (1, .int (-1)), (0, .ref x)]) dX8_longestLine_3 (by decide) rfl ?_
  refine xi_iconst (v := 0) dX8_longestLine_4 (by decide) ?_
  refine xi_istore_n (lv' := [(3, .int 0), (2, .int 0), (1, .int (-1)), (0, .ref x)]) dX8_longestLine_5 (by decide) rfl ?_
  refine xi_sub (lv' := [(0, .ref x), (1, .int (-1)), (2, .int 0), (3, .int 0)]) [3, 2, 1, 0] rfl ?_
  obtain ⟨e26, t27, k28, hq⟩ := bnd_some hq
  obtain ⟨n29, k28⟩ := wh_itr k28
  refine SX8_longestLine_6_w G Gb x g_x r0 t0 n29 ((-1 : Int32), (0 : Int32), (0 : Int32)) σ _ _ k28 ?_
  show xW G mX8_longestLine (xrm 1 0 0) (xQ G (PQ r0 t0 Gb) 0 0) 84 [(1, .int e26)] [] (mem t27 Gb) 0 0
  refine xi_iload_n 0 dX8_longestLine_84 rfl ?_
  have r30 := some_pair hq
  obtain ⟨rfl, rfl⟩ := r30
  exact xi_iret dX8_longestLine_85 rfl rfl (Nat.le_of_ble_eq_true rfl) (Nat.le_of_ble_eq_true rfl) ⟨rfl, rfl⟩
noncomputable def SX8_makeGreedy_22 (x0 : Nat) (w1 : Int32) (w2 : Int32) (w3 : Int32) (c : Int32 × Int32 × Int32) (σ : St) : Option (((Int32 × Int32 × Int32) ⊕ (Int32)) × St) :=
  (rdb σ x0 (0) (fun v4 => (if v4 ≤ c.2.2 then (some (Sum.inr c.1, σ)) else (bnd (if ((shr w2 c.2.2) &&& (1 : Int32)) = (0 : Int32) then (bnd (FX6_aheadAtStep w1 w2 c.2.2 σ) (fun v12 t13 => (bnd (FX6_of x0 w1 v12 c.2.2 t13) (fun v15 t16 => (if c.2.1 ≤ v15 then (some ((c.1, c.2.1), t16)) else (some ((c.2.2, v15), t16))))))) else (some ((c.1, c.2.1), σ))) (fun v8 t9 => (some (Sum.inl (v8.1, v8.2, (c.2.2 + 1)), t9)))))))
noncomputable def SX8_makeGreedy_4 (x0 : Nat) (w1 : Int32) (c : Int32 × Int32) (σ : St) : Option (((Int32 × Int32) ⊕ (Unit)) × St) :=
  (rdb σ x0 (0) (fun v1 => (if v1 ≤ c.2 then (some (Sum.inr (), σ)) else (bnd (wh (SX8_makeGreedy_22 x0 w1 c.1 c.2) ((-1 : Int32), (1048576 : Int32), (0 : Int32)) σ) (fun e19 t20 => (chk (inb c.2 9) (wrb t20 (x0 + 2) (c.2.toNatClampNeg) e19 (fun t24 => (some (Sum.inl ((c.1 ||| (shl (1 : Int32) e19)), (c.2 + 1)), t24))))))))))
set_option maxHeartbeats 4000000 in
set_option maxRecDepth 100000 in
theorem SX8_makeGreedy_22_w (G : xG) (Gb : xMem) (x0 : Nat) (w1 : Int32) (w2 : Int32) (w3 : Int32) (g0x : netAt x0 = true) (r0 : Unit) (t0 : St) :
    ∀ (k : Nat) (c : Int32 × Int32 × Int32) (σ : St) (r : Int32) (σ' : St), itr (SX8_makeGreedy_22 x0 w1 w2 w3) k c σ = some (r, σ') → (xW G mX8_makeGreedy (xrm 3 0 0) (xQ G (PV r0 t0 Gb) 0 0) 81 [(0, .ref x0), (1, .int w1), (2, .int w2), (3, .int w3), (4, .int r)] [] (mem σ' Gb) 0 0) → xW G mX8_makeGreedy (xrm 3 0 0) (xQ G (PV r0 t0 Gb) 0 0) 22 [(0, .ref x0), (1, .int w1), (2, .int w2), (3, .int w3), (4, .int c.1), (5, .int c.2.1), (6, .int c.2.2)] [] (mem σ Gb) 0 0 := by
  intro k
  induction k with
  | zero =>
    intro c σ r σ' h
    exact absurd h (itr_zero _ _ _ _)
  | succ k ih =>
    intro c σ r σ' h HE
    obtain ⟨x, s1, hs, h⟩ := itr_succ h
    unfold SX8_makeGreedy_22 at hs
    refine xi_iload 6 dX8_makeGreedy_22 rfl ?_
    refine xi_aload_n 0 dX8_makeGreedy_24 rfl ?_
    obtain ⟨v4, h5, hs⟩ := rdb_some hs
    refine yi_getV (f := 0) dX8_makeGreedy_25 (netAt_0 g0x) rfl ok_5 (by decide) w_63 rfl h5 ?_
    refine xi_icmp_ge (tgt := 81) dX8_makeGreedy_28 (by decide) (fun c6 => ?_) (fun c6 => ?_)
    · replace hs := ite_p c6 hs
      refine xi_sub (lv' := [(0, .ref x0), (1, .int w1), (2, .int w2), (3, .int w3), (4, .int c.1)]) [0, 1, 2, 3, 4] rfl ?_
      obtain ⟨rfl, rfl⟩ := some_pair hs
      obtain ⟨rfl, rfl⟩ := some_pair h
      exact HE
    · replace hs := ite_n c6 hs
      refine xi_iload_n 2 dX8_makeGreedy_31 rfl ?_
      refine xi_iload 6 dX8_makeGreedy_32 rfl ?_
      refine xi_ishr (v := shr w2 c.2.2) dX8_makeGreedy_34 rfl ?_
      refine xi_iconst (v := 1) dX8_makeGreedy_35 (by decide) ?_
      refine xi_iand (v := (shr w2 c.2.2) &&& (1 : Int32)) dX8_makeGreedy_36 rfl ?_
      obtain ⟨v8, t9, m10, hs⟩ := bnd_some hs
      have key11 : xW G mX8_makeGreedy (xrm 3 0 0) (xQ G (PV r0 t0 Gb) 0 0) 75 [(0, .ref x0), (1, .int w1), (2, .int w2), (3, .int w3), (4, .int v8.1), (5, .int v8.2), (6, .int c.2.2)] [] (mem t9 Gb) 0 0 := by
        refine xi_iinc (v := (c.2.2 + 1)) (lv' := [(6, .int (c.2.2 + 1)), (0, .ref x0), (1, .int w1), (2, .int w2), (3, .int w3), (4, .int v8.1), (5, .int v8.2)]) 6 dX8_makeGreedy_75 rfl rfl (by decide) rfl ?_
        refine xi_goto (tgt := 22) dX8_makeGreedy_78 (by decide) ?_
        refine xi_sub (lv' := [(0, .ref x0), (1, .int w1), (2, .int w2), (3, .int w3), (4, .int v8.1), (5, .int v8.2), (6, .int (c.2.2 + 1))]) [1, 2, 3, 4, 5, 6, 0] rfl ?_
        obtain ⟨rfl, rfl⟩ := some_pair hs
        exact ih (v8.1, v8.2, (c.2.2 + 1)) t9 _ _ h HE
      refine xi_if_ne (tgt := 75) dX8_makeGreedy_37 (by decide) (fun c7 => ?_) (fun c7 => ?_)
      · replace m10 := ite_n c7 m10
        obtain ⟨rfl, rfl⟩ := some_pair m10
        exact key11
      · replace m10 := ite_p c7 m10
        refine xi_iload_n 1 dX8_makeGreedy_40 rfl ?_
        refine xi_iload_n 2 dX8_makeGreedy_41 rfl ?_
        refine xi_iload 6 dX8_makeGreedy_42 rfl ?_
        obtain ⟨v12, t13, k14, m10⟩ := bnd_some m10
        refine xi_callS (as := [.int w1, .int w2, .int c.2.2]) (rest := []) dX8_makeGreedy_44 (KX6_aheadAtStep G Gb w1 w2 c.2.2 _ _ _ k14) mkX6_aheadAtStep w_580 w_579 rfl rfl (Nat.le_of_ble_eq_true rfl) (Nat.le_of_ble_eq_true rfl) (Nat.le_of_ble_eq_true rfl) (Nat.le_of_ble_eq_true rfl) (Nat.le_of_ble_eq_true rfl) ?_
        intro v M2 hz
        obtain ⟨rfl, rfl⟩ := hz
        show xW _ _ _ _ 47 _ [.int v12] (mem t13 Gb) _ _
        refine xi_istore (lv' := [(7, .int v12), (0, .ref x0), (1, .int w1), (2, .int w2), (3, .int w3), (4, .int c.1), (5, .int c.2.1), (6, .int c.2.2)]) dX8_makeGreedy_47 (by decide) rfl ?_
        refine xi_aload_n 1 dX8_makeGreedy_49 rfl ?_
        refine xi_iload_n 2 dX8_makeGreedy_50 rfl ?_
        refine xi_iload 0 dX8_makeGreedy_51 rfl ?_
        refine xi_iload 7 dX8_makeGreedy_53 rfl ?_
        obtain ⟨v15, t16, k17, m10⟩ := bnd_some m10
        refine xi_callS (as := [.ref x0, .int w1, .int v12, .int c.2.2]) (rest := []) dX8_makeGreedy_55 (KX6_of G Gb x0 w1 v12 c.2.2 _ _ _ k17) mkX6_of w_586 w_585 rfl rfl (Nat.le_of_ble_eq_true rfl) (Nat.le_of_ble_eq_true rfl) (Nat.le_of_ble_eq_true rfl) (Nat.le_of_ble_eq_true rfl) (Nat.le_of_ble_eq_true rfl) ?_
        intro v M2 hz
        obtain ⟨rfl, rfl⟩ := hz
        show xW _ _ _ _ 58 _ [.int v15] (mem t16 Gb) _ _
        refine xi_istore (lv' := [(8, .int v15), (7, .int v12), (0, .ref x0), (1, .int w1), (2, .int w2), (3, .int w3), (4, .int c.1), (5, .int c.2.1), (6, .int c.2.2)]) dX8_makeGreedy_58 (by decide) rfl ?_
        refine xi_iload 0 dX8_makeGreedy_60 rfl ?_
        refine xi_iload 7 dX8_makeGreedy_62 rfl ?_
        refine xi_icmp_ge (tgt := 75) dX8_makeGreedy_64 (by decide) (fun c18 => ?_) (fun c18 => ?_)
        · replace m10 := ite_p c18 m10
          obtain ⟨rfl, rfl⟩ := some_pair m10
          refine xi_sub (lv' := [(0, .ref x0), (1, .int w1), (2, .int w2), (3, .int w3), (4, .int c.1), (5, .int c.2.1), (6, .int c.2.2)]) [2, 3, 4, 5, 6, 7, 8] rfl ?_
          exact key11
        · replace m10 := ite_n c18 m10
          refine xi_iload 0 dX8_makeGreedy_67 rfl ?_
          refine xi_istore (lv' := [(5, .int v15), (8, .int v15), (7, .int v12), (0, .ref x0), (1, .int w1), (2, .int w2), (3, .int w3), (4, .int c.1), (6, .int c.2.2)]) dX8_makeGreedy_69 (by decide) rfl ?_
          refine xi_iload 8 dX8_makeGreedy_71 rfl ?_
          refine xi_istore (lv' := [(4, .int c.2.2), (5, .int v15), (8, .int v15), (7, .int v12), (0, .ref x0), (1, .int w1), (2, .int w2), (3, .int w3), (6, .int c.2.2)]) dX8_makeGreedy_73 (by decide) rfl ?_
          obtain ⟨rfl, rfl⟩ := some_pair m10
          refine xi_sub (lv' := [(0, .ref x0), (1, .int w1), (2, .int w2), (3, .int w3), (4, .int c.2.2), (5, .int v15), (6, .int c.2.2)]) [4, 5, 6, 7, 0, 1, 8] rfl ?_
          exact key11
set_option maxHeartbeats 4000000 in
set_option maxRecDepth 100000 in
theorem SX8_makeGreedy_4_w (G : xG) (Gb : xMem) (x0 : Nat) (w1 : Int32) (g0x : netAt x0 = true) (r0 : Unit) (t0 : St) :
    ∀ (k : Nat) (c : Int32 × Int32) (σ : St) (r : Unit) (σ' : St), itr (SX8_makeGreedy_4 x0 w1) k c σ = some (r, σ') → (xW G mX8_makeGreedy (xrm 3 0 0) (xQ G (PV r0 t0 Gb) 0 0) 102 [] [] (mem σ' Gb) 0 0) → xW G mX8_makeGreedy (xrm 3 0 0) (xQ G (PV r0 t0 Gb) 0 0) 4 [(0, .ref x0), (1, .int w1), (2, .int c.1), (3, .int c.2)] [] (mem σ Gb) 0 0 := by
  intro k
  induction k with
  | zero =>
    intro c σ r σ' h
    exact absurd h (itr_zero _ _ _ _)
  | succ k ih =>
    intro c σ r σ' h HE
    obtain ⟨x, s1, hs, h⟩ := itr_succ h
    unfold SX8_makeGreedy_4 at hs
    refine xi_iload_n 3 dX8_makeGreedy_4 rfl ?_
    refine xi_aload_n 0 dX8_makeGreedy_5 rfl ?_
    obtain ⟨v1, h2, hs⟩ := rdb_some hs
    refine yi_getV (f := 0) dX8_makeGreedy_6 (netAt_0 g0x) rfl ok_5 (by decide) w_63 rfl h2 ?_
    refine xi_icmp_ge (tgt := 102) dX8_makeGreedy_9 (by decide) (fun c3 => ?_) (fun c3 => ?_)
    · replace hs := ite_p c3 hs
      refine xi_sub (lv' := []) [] rfl ?_
      obtain ⟨rfl, rfl⟩ := some_pair hs
      obtain ⟨rfl, rfl⟩ := some_pair h
      exact HE
    · replace hs := ite_n c3 hs
      refine xi_iconst (v := (-1)) dX8_makeGreedy_12 (by decide) ?_
      refine xi_istore (lv' := [(4, .int (-1)), (0, .ref x0), (1, .int w1), (2, .int c.1), (3, .int c.2)]) dX8_makeGreedy_13 (by decide) rfl ?_
      refine xi_ldc (v := 1048576) dX8_makeGreedy_15 w_919 ?_
      refine xi_istore (lv' := [(5, .int 1048576), (4, .int (-1)), (0, .ref x0), (1, .int w1), (2, .int c.1), (3, .int c.2)]) dX8_makeGreedy_17 (by decide) rfl ?_
      refine xi_iconst (v := 0) dX8_makeGreedy_19 (by decide) ?_
      refine xi_istore (lv' := [(6, .int 0), (5, .int 1048576), (4, .int (-1)), (0, .ref x0), (1, .int w1), (2, .int c.1), (3, .int c.2)]) dX8_makeGreedy_20 (by decide) rfl ?_
      refine xi_sub (lv' := [(0, .ref x0), (1, .int w1), (2, .int c.1), (3, .int c.2), (4, .int (-1)), (5, .int 1048576), (6, .int 0)]) [3, 4, 5, 6, 2, 1, 0] rfl ?_
      obtain ⟨e19, t20, k21, hs⟩ := bnd_some hs
      obtain ⟨n22, k21⟩ := wh_itr k21
      refine SX8_makeGreedy_22_w G Gb x0 w1 c.1 c.2 g0x r0 t0 n22 ((-1 : Int32), (1048576 : Int32), (0 : Int32)) σ _ _ k21 ?_
      show xW G mX8_makeGreedy (xrm 3 0 0) (xQ G (PV r0 t0 Gb) 0 0) 81 [(0, .ref x0), (1, .int w1), (2, .int c.1), (3, .int c.2), (4, .int e19)] [] (mem t20 Gb) 0 0
      refine xi_aload_n 0 dX8_makeGreedy_81 rfl ?_
      refine yi_getR (f := 3) dX8_makeGreedy_82 (netAt_0 g0x) rfl ok_5 (by decide) w_79 rfl ?_
      refine xi_iload_n 3 dX8_makeGreedy_85 rfl ?_
      refine xi_iload 4 dX8_makeGreedy_86 rfl ?_
      obtain ⟨g23, hs⟩ := chk_some hs
      obtain ⟨t24, h25, hs⟩ := wrb_some hs
      refine yi_iastoreV dX8_makeGreedy_88 (netAt_2 g0x) g23 h25 ?_
      refine xi_iload_n 2 dX8_makeGreedy_89 rfl ?_
      refine xi_iconst (v := 1) dX8_makeGreedy_90 (by decide) ?_
      refine xi_iload 4 dX8_makeGreedy_91 rfl ?_
      refine xi_ishl (v := shl (1 : Int32) e19) dX8_makeGreedy_93 rfl ?_
      refine xi_ior (v := c.1 ||| (shl (1 : Int32) e19)) dX8_makeGreedy_94 rfl ?_
      refine xi_istore_n (lv' := [(2, .int (c.1 ||| (shl (1 : Int32) e19))), (0, .ref x0), (1, .int w1), (3, .int c.2), (4, .int e19)]) dX8_makeGreedy_95 (by decide) rfl ?_
      refine xi_iinc (v := (c.2 + 1)) (lv' := [(3, .int (c.2 + 1)), (2, .int (c.1 ||| (shl (1 : Int32) e19))), (0, .ref x0), (1, .int w1), (4, .int e19)]) 3 dX8_makeGreedy_96 rfl rfl (by decide) rfl ?_
      refine xi_goto (tgt := 4) dX8_makeGreedy_99 (by decide) ?_
      refine xi_sub (lv' := [(0, .ref x0), (1, .int w1), (2, .int (c.1 ||| (shl (1 : Int32) e19))), (3, .int (c.2 + 1))]) [2, 3, 1, 0] rfl ?_
      obtain ⟨rfl, rfl⟩ := some_pair hs
      exact ih ((c.1 ||| (shl (1 : Int32) e19)), (c.2 + 1)) t24 _ _ h HE
noncomputable def FX8_makeGreedy (x : Nat) (a : Int32) (σ : St) : Option ((Unit) × St) :=
  (chk (netAt x) (bnd (wh (SX8_makeGreedy_4 x a) ((0 : Int32), (0 : Int32)) σ) (fun e26 t27 => (some ((), t27)))))
set_option maxHeartbeats 4000000 in
set_option maxRecDepth 100000 in
theorem KX8_makeGreedy (G : xG) (Gb : xMem) (x : Nat) (a : Int32) (σ : St) (r0 : Unit) (t0 : St) (hq : FX8_makeGreedy x a σ = some (r0, t0)) : xC G mX8_makeGreedy 3 0 0 [.ref x, .int a] (mem σ Gb) (PV r0 t0 Gb) := by
  unfold FX8_makeGreedy at hq
  refine xC.of (by decide) (Nat.le_of_ble_eq_true rfl) ?_
  show xW _ _ _ _ 0 [(0, .ref x), (1, .int a)] [] _ 0 0
  obtain ⟨g_x, hq⟩ := chk_some hq
  refine xi_iconst (v := 0) dX8_makeGreedy_0 (by decide) ?_
  refine xi_istore_n (lv' := [(2, .int 0), (0, .ref x), (1, .int a)]) dX8_makeGreedy_1 (by decide) rfl ?_
  refine xi_iconst (v := 0) dX8_makeGreedy_2 (by decide) ?_
  refine xi_istore_n (lv' := [(3, .int 0), (2, .int 0), (0, .ref x), (1, .int a)]) dX8_makeGreedy_3 (by decide) rfl ?_
  refine xi_sub (lv' := [(0, .ref x), (1, .int a), (2, .int 0), (3, .int 0)]) [2, 3, 1, 0] rfl ?_
  obtain ⟨e26, t27, k28, hq⟩ := bnd_some hq
  obtain ⟨n29, k28⟩ := wh_itr k28
  refine SX8_makeGreedy_4_w G Gb x a g_x r0 t0 n29 ((0 : Int32), (0 : Int32)) σ _ _ k28 ?_
  show xW G mX8_makeGreedy (xrm 3 0 0) (xQ G (PV r0 t0 Gb) 0 0) 102 [] [] (mem t27 Gb) 0 0
  have r30 := some_pair hq
  obtain ⟨rfl, rfl⟩ := r30
  exact xi_vret dX8_makeGreedy_102 rfl (Nat.le_of_ble_eq_true rfl) (Nat.le_of_ble_eq_true rfl) ⟨rfl, rfl⟩
noncomputable def SX8_putInRow_5 (x0 : Nat) (w2 : Int32) (c : Int32 × Int32) (σ : St) : Option (((Int32 × Int32) ⊕ (Int32)) × St) :=
  (rdb σ x0 (0) (fun v1 => (if v1 ≤ c.2 then (some (Sum.inr c.1, σ)) else (bnd (if ((shr w2 c.2) &&& (1 : Int32)) = (0 : Int32) then (some (c.1, σ)) else (rdb σ x0 (0) (fun v9 => (if v9 ≤ c.1 then (some (c.1, σ)) else (chk (inb c.1 9) (wrb σ (x0 + 2) (c.1.toNatClampNeg) c.2 (fun t13 => (some ((c.1 + 1), t13))))))))) (fun v5 t6 => (some (Sum.inl (v5, (c.2 + 1)), t6)))))))
set_option maxHeartbeats 4000000 in
set_option maxRecDepth 100000 in
theorem SX8_putInRow_5_w (G : xG) (Gb : xMem) (x0 : Nat) (w2 : Int32) (g0x : netAt x0 = true) (r0 : Int32) (t0 : St) :
    ∀ (k : Nat) (c : Int32 × Int32) (σ : St) (r : Int32) (σ' : St), itr (SX8_putInRow_5 x0 w2) k c σ = some (r, σ') → (xW G mX8_putInRow (xrm 0 0 0) (xQ G (PQ r0 t0 Gb) 0 0) 48 [(3, .int r)] [] (mem σ' Gb) 0 0) → xW G mX8_putInRow (xrm 0 0 0) (xQ G (PQ r0 t0 Gb) 0 0) 5 [(0, .ref x0), (2, .int w2), (3, .int c.1), (4, .int c.2)] [] (mem σ Gb) 0 0 := by
  intro k
  induction k with
  | zero =>
    intro c σ r σ' h
    exact absurd h (itr_zero _ _ _ _)
  | succ k ih =>
    intro c σ r σ' h HE
    obtain ⟨x, s1, hs, h⟩ := itr_succ h
    unfold SX8_putInRow_5 at hs
    refine xi_iload 3 dX8_putInRow_5 rfl ?_
    refine xi_aload_n 0 dX8_putInRow_7 rfl ?_
    obtain ⟨v1, h2, hs⟩ := rdb_some hs
    refine yi_getV (f := 0) dX8_putInRow_8 (netAt_0 g0x) rfl ok_5 (by decide) w_63 rfl h2 ?_
    refine xi_icmp_ge (tgt := 48) dX8_putInRow_11 (by decide) (fun c3 => ?_) (fun c3 => ?_)
    · replace hs := ite_p c3 hs
      refine xi_sub (lv' := [(3, .int c.1)]) [2] rfl ?_
      obtain ⟨rfl, rfl⟩ := some_pair hs
      obtain ⟨rfl, rfl⟩ := some_pair h
      exact HE
    · replace hs := ite_n c3 hs
      refine xi_iload_n 1 dX8_putInRow_14 rfl ?_
      refine xi_iload 3 dX8_putInRow_15 rfl ?_
      refine xi_ishr (v := shr w2 c.2) dX8_putInRow_17 rfl ?_
      refine xi_iconst (v := 1) dX8_putInRow_18 (by decide) ?_
      refine xi_iand (v := (shr w2 c.2) &&& (1 : Int32)) dX8_putInRow_19 rfl ?_
      obtain ⟨v5, t6, m7, hs⟩ := bnd_some hs
      have key8 : xW G mX8_putInRow (xrm 0 0 0) (xQ G (PQ r0 t0 Gb) 0 0) 42 [(0, .ref x0), (2, .int w2), (3, .int v5), (4, .int c.2)] [] (mem t6 Gb) 0 0 := by
        refine xi_iinc (v := (c.2 + 1)) (lv' := [(4, .int (c.2 + 1)), (0, .ref x0), (2, .int w2), (3, .int v5)]) 3 dX8_putInRow_42 rfl rfl (by decide) rfl ?_
        refine xi_goto (tgt := 5) dX8_putInRow_45 (by decide) ?_
        refine xi_sub (lv' := [(0, .ref x0), (2, .int w2), (3, .int v5), (4, .int (c.2 + 1))]) [1, 2, 3, 0] rfl ?_
        obtain ⟨rfl, rfl⟩ := some_pair hs
        exact ih (v5, (c.2 + 1)) t6 _ _ h HE
      refine xi_if_eq (tgt := 42) dX8_putInRow_20 (by decide) (fun c4 => ?_) (fun c4 => ?_)
      · replace m7 := ite_p c4 m7
        obtain ⟨rfl, rfl⟩ := some_pair m7
        exact key8
      · replace m7 := ite_n c4 m7
        refine xi_iload_n 2 dX8_putInRow_23 rfl ?_
        refine xi_aload_n 0 dX8_putInRow_24 rfl ?_
        obtain ⟨v9, h10, m7⟩ := rdb_some m7
        refine yi_getV (f := 0) dX8_putInRow_25 (netAt_0 g0x) rfl ok_5 (by decide) w_63 rfl h10 ?_
        refine xi_icmp_ge (tgt := 42) dX8_putInRow_28 (by decide) (fun c11 => ?_) (fun c11 => ?_)
        · replace m7 := ite_p c11 m7
          obtain ⟨rfl, rfl⟩ := some_pair m7
          exact key8
        · replace m7 := ite_n c11 m7
          refine xi_aload_n 0 dX8_putInRow_31 rfl ?_
          refine yi_getR (f := 3) dX8_putInRow_32 (netAt_0 g0x) rfl ok_5 (by decide) w_79 rfl ?_
          refine xi_iload_n 2 dX8_putInRow_35 rfl ?_
          refine xi_iload 3 dX8_putInRow_36 rfl ?_
          obtain ⟨g12, m7⟩ := chk_some m7
          obtain ⟨t13, h14, m7⟩ := wrb_some m7
          refine yi_iastoreV dX8_putInRow_38 (netAt_2 g0x) g12 h14 ?_
          refine xi_iinc (v := (c.1 + 1)) (lv' := [(3, .int (c.1 + 1)), (0, .ref x0), (2, .int w2), (4, .int c.2)]) 2 dX8_putInRow_39 rfl rfl (by decide) rfl ?_
          obtain ⟨rfl, rfl⟩ := some_pair m7
          refine xi_sub (lv' := [(0, .ref x0), (2, .int w2), (3, .int (c.1 + 1)), (4, .int c.2)]) [1, 2, 0, 3] rfl ?_
          exact key8
noncomputable def FX8_putInRow (x : Nat) (a : Int32) (b : Int32) (σ : St) : Option ((Int32) × St) :=
  (chk (netAt x) (bnd (wh (SX8_putInRow_5 x b) (a, (0 : Int32)) σ) (fun e15 t16 => (some (e15, t16)))))
set_option maxHeartbeats 4000000 in
set_option maxRecDepth 100000 in
theorem KX8_putInRow (G : xG) (Gb : xMem) (x : Nat) (a : Int32) (b : Int32) (σ : St) (r0 : Int32) (t0 : St) (hq : FX8_putInRow x a b σ = some (r0, t0)) : xC G mX8_putInRow 0 0 0 [.ref x, .int a, .int b] (mem σ Gb) (PQ r0 t0 Gb) := by
  unfold FX8_putInRow at hq
  refine xC.of (by decide) (Nat.le_of_ble_eq_true rfl) ?_
  show xW _ _ _ _ 0 [(0, .ref x), (1, .int a), (2, .int b)] [] _ 0 0
  obtain ⟨g_x, hq⟩ := chk_some hq
  refine xi_iload_n 1 dX8_putInRow_0 rfl ?_
  refine xi_istore_n (lv' := [(3, .int a), (0, .ref x), (1, .int a), (2, .int b)]) dX8_putInRow_1 (by decide) rfl ?_
  refine xi_iconst (v := 0) dX8_putInRow_2 (by decide) ?_
  refine xi_istore (lv' := [(4, .int 0), (3, .int a), (0, .ref x), (1, .int a), (2, .int b)]) dX8_putInRow_3 (by decide) rfl ?_
  refine xi_sub (lv' := [(0, .ref x), (2, .int b), (3, .int a), (4, .int 0)]) [2, 4, 1, 0] rfl ?_
  obtain ⟨e15, t16, k17, hq⟩ := bnd_some hq
  obtain ⟨n18, k17⟩ := wh_itr k17
  refine SX8_putInRow_5_w G Gb x b g_x r0 t0 n18 (a, (0 : Int32)) σ _ _ k17 ?_
  show xW G mX8_putInRow (xrm 0 0 0) (xQ G (PQ r0 t0 Gb) 0 0) 48 [(3, .int e15)] [] (mem t16 Gb) 0 0
  refine xi_iload_n 0 dX8_putInRow_48 rfl ?_
  have r19 := some_pair hq
  obtain ⟨rfl, rfl⟩ := r19
  exact xi_iret dX8_putInRow_49 rfl rfl (Nat.le_of_ble_eq_true rfl) (Nat.le_of_ble_eq_true rfl) ⟨rfl, rfl⟩
noncomputable def SX8_makeLayers_12 (x0 : Nat) (c : Int32 × Int32 × Int32 × Int32) (σ : St) : Option (((Int32 × Int32 × Int32 × Int32) ⊕ (Int32 × Int32)) × St) :=
  (rdb σ x0 (0) (fun v1 => (if v1 ≤ c.2.2.2 then (some (Sum.inr (c.1, c.2.1), σ)) else (bnd (FX8_putInRow x0 c.1 (c.2.2.1 &&& (c.2.1 ^^^ (-1 : Int32))) σ) (fun v4 t5 => (bnd (FX10_grown x0 (c.2.1 ||| c.2.2.1) t5) (fun v7 t8 => (some (Sum.inl (v4, (c.2.1 ||| c.2.2.1), v7, (c.2.2.2 + 1)), t8)))))))))
set_option maxHeartbeats 4000000 in
set_option maxRecDepth 100000 in
theorem SX8_makeLayers_12_w (G : xG) (Gb : xMem) (x0 : Nat) (g0x : netAt x0 = true) (r0 : Unit) (t0 : St) :
    ∀ (k : Nat) (c : Int32 × Int32 × Int32 × Int32) (σ : St) (r : Int32 × Int32) (σ' : St), itr (SX8_makeLayers_12 x0) k c σ = some (r, σ') → (xW G mX8_makeLayers (xrm 1 0 0) (xQ G (PV r0 t0 Gb) 0 0) 51 [(0, .ref x0), (2, .int r.1), (3, .int r.2)] [] (mem σ' Gb) 0 0) → xW G mX8_makeLayers (xrm 1 0 0) (xQ G (PV r0 t0 Gb) 0 0) 12 [(0, .ref x0), (2, .int c.1), (3, .int c.2.1), (4, .int c.2.2.1), (5, .int c.2.2.2)] [] (mem σ Gb) 0 0 := by
  intro k
  induction k with
  | zero =>
    intro c σ r σ' h
    exact absurd h (itr_zero _ _ _ _)
  | succ k ih =>
    intro c σ r σ' h HE
    obtain ⟨x, s1, hs, h⟩ := itr_succ h
    unfold SX8_makeLayers_12 at hs
    refine xi_iload 4 dX8_makeLayers_12 rfl ?_
    refine xi_aload_n 0 dX8_makeLayers_14 rfl ?_
    obtain ⟨v1, h2, hs⟩ := rdb_some hs
    refine yi_getV (f := 0) dX8_makeLayers_15 (netAt_0 g0x) rfl ok_5 (by decide) w_63 rfl h2 ?_
    refine xi_icmp_ge (tgt := 51) dX8_makeLayers_18 (by decide) (fun c3 => ?_) (fun c3 => ?_)
    · replace hs := ite_p c3 hs
      refine xi_sub (lv' := [(0, .ref x0), (2, .int c.1), (3, .int c.2.1)]) [0, 1, 2] rfl ?_
      obtain ⟨rfl, rfl⟩ := some_pair hs
      obtain ⟨rfl, rfl⟩ := some_pair h
      exact HE
    · replace hs := ite_n c3 hs
      refine xi_aload_n 0 dX8_makeLayers_21 rfl ?_
      refine xi_iload_n 1 dX8_makeLayers_22 rfl ?_
      refine xi_iload 3 dX8_makeLayers_23 rfl ?_
      refine xi_iload_n 2 dX8_makeLayers_25 rfl ?_
      refine xi_iconst (v := (-1)) dX8_makeLayers_26 (by decide) ?_
      refine xi_ixor (v := c.2.1 ^^^ (-1 : Int32)) dX8_makeLayers_27 rfl ?_
      refine xi_iand (v := c.2.2.1 &&& (c.2.1 ^^^ (-1 : Int32))) dX8_makeLayers_28 rfl ?_
      obtain ⟨v4, t5, k6, hs⟩ := bnd_some hs
      refine xi_callS (as := [.ref x0, .int c.1, .int (c.2.2.1 &&& (c.2.1 ^^^ (-1 : Int32)))]) (rest := []) dX8_makeLayers_29 (KX8_putInRow G Gb x0 c.1 (c.2.2.1 &&& (c.2.1 ^^^ (-1 : Int32))) _ _ _ k6) mkX8_putInRow w_928 w_927 rfl rfl (Nat.le_of_ble_eq_true rfl) (Nat.le_of_ble_eq_true rfl) (Nat.le_of_ble_eq_true rfl) (Nat.le_of_ble_eq_true rfl) (Nat.le_of_ble_eq_true rfl) ?_
      intro v M2 hz
      obtain ⟨rfl, rfl⟩ := hz
      show xW _ _ _ _ 32 _ [.int v4] (mem t5 Gb) _ _
      refine xi_istore_n (lv' := [(2, .int v4), (0, .ref x0), (3, .int c.2.1), (4, .int c.2.2.1), (5, .int c.2.2.2)]) dX8_makeLayers_32 (by decide) rfl ?_
      refine xi_iload_n 2 dX8_makeLayers_33 rfl ?_
      refine xi_iload 3 dX8_makeLayers_34 rfl ?_
      refine xi_ior (v := c.2.1 ||| c.2.2.1) dX8_makeLayers_36 rfl ?_
      refine xi_istore_n (lv' := [(3, .int (c.2.1 ||| c.2.2.1)), (2, .int v4), (0, .ref x0), (4, .int c.2.2.1), (5, .int c.2.2.2)]) dX8_makeLayers_37 (by decide) rfl ?_
      refine xi_aload_n 2 dX8_makeLayers_38 rfl ?_
      refine xi_iload_n 0 dX8_makeLayers_39 rfl ?_
      obtain ⟨v7, t8, k9, hs⟩ := bnd_some hs
      refine xi_callS (as := [.ref x0, .int (c.2.1 ||| c.2.2.1)]) (rest := []) dX8_makeLayers_40 (KX10_grown G Gb x0 (c.2.1 ||| c.2.2.1) _ _ _ k9) mkX10_grown w_521 w_930 rfl rfl (Nat.le_of_ble_eq_true rfl) (Nat.le_of_ble_eq_true rfl) (Nat.le_of_ble_eq_true rfl) (Nat.le_of_ble_eq_true rfl) (Nat.le_of_ble_eq_true rfl) ?_
      intro v M2 hz
      obtain ⟨rfl, rfl⟩ := hz
      show xW _ _ _ _ 43 _ [.int v7] (mem t8 Gb) _ _
      refine xi_istore (lv' := [(4, .int v7), (3, .int (c.2.1 ||| c.2.2.1)), (2, .int v4), (0, .ref x0), (5, .int c.2.2.2)]) dX8_makeLayers_43 (by decide) rfl ?_
      refine xi_iinc (v := (c.2.2.2 + 1)) (lv' := [(5, .int (c.2.2.2 + 1)), (4, .int v7), (3, .int (c.2.1 ||| c.2.2.1)), (2, .int v4), (0, .ref x0)]) 4 dX8_makeLayers_45 rfl rfl (by decide) rfl ?_
      refine xi_goto (tgt := 12) dX8_makeLayers_48 (by decide) ?_
      refine xi_sub (lv' := [(0, .ref x0), (2, .int v4), (3, .int (c.2.1 ||| c.2.2.1)), (4, .int v7), (5, .int (c.2.2.2 + 1))]) [4, 3, 2, 1, 0] rfl ?_
      obtain ⟨rfl, rfl⟩ := some_pair hs
      exact ih (v4, (c.2.1 ||| c.2.2.1), v7, (c.2.2.2 + 1)) t8 _ _ h HE
noncomputable def FX8_makeLayers (x : Nat) (a : Int32) (σ : St) : Option ((Unit) × St) :=
  (chk (netAt x) (bnd (wh (SX8_makeLayers_12 x) ((0 : Int32), (0 : Int32), (shl (1 : Int32) a), (0 : Int32)) σ) (fun e10 t11 => (bnd (FX5_allBits x t11) (fun v14 t15 => (bnd (FX8_putInRow x e10.1 (v14 &&& (e10.2 ^^^ (-1 : Int32))) t15) (fun v17 t18 => (some ((), t18)))))))))
set_option maxHeartbeats 4000000 in
set_option maxRecDepth 100000 in
theorem KX8_makeLayers (G : xG) (Gb : xMem) (x : Nat) (a : Int32) (σ : St) (r0 : Unit) (t0 : St) (hq : FX8_makeLayers x a σ = some (r0, t0)) : xC G mX8_makeLayers 1 0 0 [.ref x, .int a] (mem σ Gb) (PV r0 t0 Gb) := by
  unfold FX8_makeLayers at hq
  refine xC.of (by decide) (Nat.le_of_ble_eq_true rfl) ?_
  show xW _ _ _ _ 0 [(0, .ref x), (1, .int a)] [] _ 0 0
  obtain ⟨g_x, hq⟩ := chk_some hq
  refine xi_iconst (v := 0) dX8_makeLayers_0 (by decide) ?_
  refine xi_istore_n (lv' := [(2, .int 0), (0, .ref x), (1, .int a)]) dX8_makeLayers_1 (by decide) rfl ?_
  refine xi_iconst (v := 0) dX8_makeLayers_2 (by decide) ?_
  refine xi_istore_n (lv' := [(3, .int 0), (2, .int 0), (0, .ref x), (1, .int a)]) dX8_makeLayers_3 (by decide) rfl ?_
  refine xi_iconst (v := 1) dX8_makeLayers_4 (by decide) ?_
  refine xi_iload_n 3 dX8_makeLayers_5 rfl ?_
  refine xi_ishl (v := shl (1 : Int32) a) dX8_makeLayers_6 rfl ?_
  refine xi_istore (lv' := [(4, .int (shl (1 : Int32) a)), (3, .int 0), (2, .int 0), (0, .ref x), (1, .int a)]) dX8_makeLayers_7 (by decide) rfl ?_
  refine xi_iconst (v := 0) dX8_makeLayers_9 (by decide) ?_
  refine xi_istore (lv' := [(5, .int 0), (4, .int (shl (1 : Int32) a)), (3, .int 0), (2, .int 0), (0, .ref x), (1, .int a)]) dX8_makeLayers_10 (by decide) rfl ?_
  refine xi_sub (lv' := [(0, .ref x), (2, .int 0), (3, .int 0), (4, .int (shl (1 : Int32) a)), (5, .int 0)]) [4, 3, 2, 1, 0] rfl ?_
  obtain ⟨e10, t11, k12, hq⟩ := bnd_some hq
  obtain ⟨n13, k12⟩ := wh_itr k12
  refine SX8_makeLayers_12_w G Gb x g_x r0 t0 n13 ((0 : Int32), (0 : Int32), (shl (1 : Int32) a), (0 : Int32)) σ _ _ k12 ?_
  show xW G mX8_makeLayers (xrm 1 0 0) (xQ G (PV r0 t0 Gb) 0 0) 51 [(0, .ref x), (2, .int e10.1), (3, .int e10.2)] [] (mem t11 Gb) 0 0
  refine xi_aload_n 0 dX8_makeLayers_51 rfl ?_
  refine xi_iload_n 1 dX8_makeLayers_52 rfl ?_
  refine xi_aload_n 0 dX8_makeLayers_53 rfl ?_
  obtain ⟨v14, t15, k16, hq⟩ := bnd_some hq
  refine xi_callV (as := []) (rest := [.int e10.1, .ref x]) dX8_makeLayers_54 (KX5_allBits G Gb x _ _ _ k16) mkX5_allBits w_441 w_442 w_931 (mem_get (netAt_0 g_x)) rfl rfl rfl rfl (Nat.le_of_ble_eq_true rfl) (Nat.le_of_ble_eq_true rfl) (Nat.le_of_ble_eq_true rfl) (Nat.le_of_ble_eq_true rfl) (Nat.le_of_ble_eq_true rfl) ?_
  intro v M2 hz
  obtain ⟨rfl, rfl⟩ := hz
  show xW _ _ _ _ 57 _ [.int v14, .int e10.1, .ref x] (mem t15 Gb) _ _
  refine xi_iload_n 2 dX8_makeLayers_57 rfl ?_
  refine xi_iconst (v := (-1)) dX8_makeLayers_58 (by decide) ?_
  refine xi_ixor (v := e10.2 ^^^ (-1 : Int32)) dX8_makeLayers_59 rfl ?_
  refine xi_iand (v := v14 &&& (e10.2 ^^^ (-1 : Int32))) dX8_makeLayers_60 rfl ?_
  obtain ⟨v17, t18, k19, hq⟩ := bnd_some hq
  refine xi_callS (as := [.ref x, .int e10.1, .int (v14 &&& (e10.2 ^^^ (-1 : Int32)))]) (rest := []) dX8_makeLayers_61 (KX8_putInRow G Gb x e10.1 (v14 &&& (e10.2 ^^^ (-1 : Int32))) _ _ _ k19) mkX8_putInRow w_928 w_927 rfl rfl (Nat.le_of_ble_eq_true rfl) (Nat.le_of_ble_eq_true rfl) (Nat.le_of_ble_eq_true rfl) (Nat.le_of_ble_eq_true rfl) (Nat.le_of_ble_eq_true rfl) ?_
  intro v M2 hz
  obtain ⟨rfl, rfl⟩ := hz
  show xW _ _ _ _ 64 _ [.int v17] (mem t18 Gb) _ _
  refine xi_pop dX8_makeLayers_64 rfl ?_
  have r20 := some_pair hq
  obtain ⟨rfl, rfl⟩ := r20
  exact xi_vret dX8_makeLayers_65 rfl (Nat.le_of_ble_eq_true rfl) (Nat.le_of_ble_eq_true rfl) ⟨rfl, rfl⟩
noncomputable def SX8_newLine_37 (x0 : Nat) (w1 : Int32) (w2 : Int32) (w4 : Int32) (w5 : Int32) (w6 : Int32) (c : Int32 × Int32) (σ : St) : Option (((Int32 × Int32) ⊕ ((Int32) ⊕ (Int32))) × St) :=
  (rdb σ x0 (0) (fun v10 => (if v10 ≤ c.2 then (some (Sum.inr (Sum.inr c.1), σ)) else (bnd (if ((shr w6 c.2) &&& (1 : Int32)) = (0 : Int32) then (some ((0 : Int32), σ)) else (bnd (FX6_aboveOf w6 c.2 σ) (fun v27 t28 => (bnd (FX6_neighbours x0 w2 c.2 t28) (fun v30 t31 => (some ((v27 &&& (v30 ^^^ (-1 : Int32))), t31))))))) (fun v14 t15 => (bnd (FJ6_bitCount_0f7a4 v14 t15) (fun v18 t19 => (if w1 < c.1 then (some (Sum.inl ((c.1 + v18), (c.2 + 1)), t19)) else (if (c.1 + v18) ≤ w1 then (some (Sum.inl ((c.1 + v18), (c.2 + 1)), t19)) else (bnd (FX8_bitAt v14 (w1 - c.1) t19) (fun v23 t24 => (some (Sum.inr (Sum.inl (((10 : Int32) * c.2) + v23)), t24)))))))))))))
noncomputable def SX8_newLine_7 (x0 : Nat) (w1 : Int32) (c : Int32 × Int32 × Int32) (σ : St) : Option (((Int32 × Int32 × Int32) ⊕ ((Int32) ⊕ (Int32))) × St) :=
  (rdb σ x0 (0) (fun v1 => (if v1 ≤ c.2.2 then (some (Sum.inr (Sum.inr c.2.1), σ)) else (chk (inb c.2.2 9) (rdb σ (x0 + 2) (c.2.2.toNatClampNeg) (fun v5 => (bnd (FX6_neighbours x0 c.1 v5 σ) (fun v7 t8 => (bnd (wh (SX8_newLine_37 x0 w1 c.1 c.2.2 v5 v7) (c.2.1, (0 : Int32)) t8) (fun e33 t34 => Sum.elim (fun e33 => (some (Sum.inr (Sum.inl e33), t34))) (fun e33 => (some (Sum.inl ((c.1 ||| (shl (1 : Int32) v5)), e33, (c.2.2 + 1)), t34))) e33))))))))))
set_option maxHeartbeats 4000000 in
set_option maxRecDepth 100000 in
theorem SX8_newLine_37_w (G : xG) (Gb : xMem) (x0 : Nat) (w1 : Int32) (w2 : Int32) (w4 : Int32) (w5 : Int32) (w6 : Int32) (g0x : netAt x0 = true) (r0 : Int32) (t0 : St) :
    ∀ (k : Nat) (c : Int32 × Int32) (σ : St) (r : (Int32) ⊕ (Int32)) (σ' : St), itr (SX8_newLine_37 x0 w1 w2 w4 w5 w6) k c σ = some (r, σ') → (Sum.elim (fun v => v = r0 ∧ σ' = t0) (fun e => xW G mX8_newLine (xrm 1 0 0) (xQ G (PQ r0 t0 Gb) 0 0) 125 [(0, .ref x0), (1, .int w1), (2, .int w2), (3, .int e), (4, .int w4), (5, .int w5)] [] (mem σ' Gb) 0 0) r) → xW G mX8_newLine (xrm 1 0 0) (xQ G (PQ r0 t0 Gb) 0 0) 37 [(0, .ref x0), (1, .int w1), (2, .int w2), (3, .int c.1), (4, .int w4), (5, .int w5), (6, .int w6), (7, .int c.2)] [] (mem σ Gb) 0 0 := by
  intro k
  induction k with
  | zero =>
    intro c σ r σ' h
    exact absurd h (itr_zero _ _ _ _)
  | succ k ih =>
    intro c σ r σ' h HE
    obtain ⟨x, s1, hs, h⟩ := itr_succ h
    unfold SX8_newLine_37 at hs
    refine xi_iload 7 dX8_newLine_37 rfl ?_
    refine xi_aload_n 0 dX8_newLine_39 rfl ?_
    obtain ⟨v10, h11, hs⟩ := rdb_some hs
    refine yi_getV (f := 0) dX8_newLine_40 (netAt_0 g0x) rfl ok_5 (by decide) w_63 rfl h11 ?_
    refine xi_icmp_ge (tgt := 125) dX8_newLine_43 (by decide) (fun c12 => ?_) (fun c12 => ?_)
    · replace hs := ite_p c12 hs
      refine xi_sub (lv' := [(0, .ref x0), (1, .int w1), (2, .int w2), (3, .int c.1), (4, .int w4), (5, .int w5)]) [0, 1, 2, 3, 4, 5] rfl ?_
      obtain ⟨rfl, rfl⟩ := some_pair hs
      obtain ⟨rfl, rfl⟩ := some_pair h
      exact HE
    · replace hs := ite_n c12 hs
      refine xi_iload 6 dX8_newLine_46 rfl ?_
      refine xi_iload 7 dX8_newLine_48 rfl ?_
      refine xi_ishr (v := shr w6 c.2) dX8_newLine_50 rfl ?_
      refine xi_iconst (v := 1) dX8_newLine_51 (by decide) ?_
      refine xi_iand (v := (shr w6 c.2) &&& (1 : Int32)) dX8_newLine_52 rfl ?_
      obtain ⟨v14, t15, m16, hs⟩ := bnd_some hs
      have key17 : xW G mX8_newLine (xrm 1 0 0) (xQ G (PQ r0 t0 Gb) 0 0) 77 [(0, .ref x0), (1, .int w1), (2, .int w2), (3, .int c.1), (4, .int w4), (5, .int w5), (6, .int w6), (7, .int c.2)] [.int v14] (mem t15 Gb) 0 0 := by
        refine xi_istore (lv' := [(8, .int v14), (0, .ref x0), (1, .int w1), (2, .int w2), (3, .int c.1), (4, .int w4), (5, .int w5), (6, .int w6), (7, .int c.2)]) dX8_newLine_77 (by decide) rfl ?_
        refine xi_iload 0 dX8_newLine_79 rfl ?_
        obtain ⟨v18, t19, k20, hs⟩ := bnd_some hs
        refine xi_callS (as := [.int v14]) (rest := []) dX8_newLine_81 (KJ6_bitCount_0f7a4 G Gb v14 _ _ _ k20) mkJ6_bitCount_0f7a4 w_508 w_857 rfl rfl (Nat.le_of_ble_eq_true rfl) (Nat.le_of_ble_eq_true rfl) (Nat.le_of_ble_eq_true rfl) (Nat.le_of_ble_eq_true rfl) (Nat.le_of_ble_eq_true rfl) ?_
        intro v M2 hz
        obtain ⟨rfl, rfl⟩ := hz
        show xW _ _ _ _ 84 _ [.int v18] (mem t19 Gb) _ _
        refine xi_istore (lv' := [(9, .int v18), (8, .int v14), (0, .ref x0), (1, .int w1), (2, .int w2), (3, .int c.1), (4, .int w4), (5, .int w5), (6, .int w6), (7, .int c.2)]) dX8_newLine_84 (by decide) rfl ?_
        refine xi_iload_n 3 dX8_newLine_86 rfl ?_
        refine xi_iload_n 5 dX8_newLine_87 rfl ?_
        refine xi_icmp_lt (tgt := 114) dX8_newLine_88 (by decide) (fun c21 => ?_) (fun c21 => ?_)
        · replace hs := ite_p c21 hs
          refine xi_iload_n 5 dX8_newLine_114 rfl ?_
          refine xi_iload 0 dX8_newLine_115 rfl ?_
          refine xi_iadd (v := c.1 + v18) dX8_newLine_117 rfl ?_
          refine xi_istore_n (lv' := [(3, .int (c.1 + v18)), (9, .int v18), (8, .int v14), (0, .ref x0), (1, .int w1), (2, .int w2), (4, .int w4), (5, .int w5), (6, .int w6), (7, .int c.2)]) dX8_newLine_118 (by decide) rfl ?_
          refine xi_iinc (v := (c.2 + 1)) (lv' := [(7, .int (c.2 + 1)), (3, .int (c.1 + v18)), (9, .int v18), (8, .int v14), (0, .ref x0), (1, .int w1), (2, .int w2), (4, .int w4), (5, .int w5), (6, .int w6)]) 9 dX8_newLine_119 rfl rfl (by decide) rfl ?_
          refine xi_goto (tgt := 37) dX8_newLine_122 (by decide) ?_
          refine xi_sub (lv' := [(0, .ref x0), (1, .int w1), (2, .int w2), (3, .int (c.1 + v18)), (4, .int w4), (5, .int w5), (6, .int w6), (7, .int (c.2 + 1))]) [4, 5, 6, 1, 7, 8, 9, 0] rfl ?_
          obtain ⟨rfl, rfl⟩ := some_pair hs
          exact ih ((c.1 + v18), (c.2 + 1)) t19 _ _ h HE
        · replace hs := ite_n c21 hs
          refine xi_iload_n 3 dX8_newLine_91 rfl ?_
          refine xi_iload_n 5 dX8_newLine_92 rfl ?_
          refine xi_iload 0 dX8_newLine_93 rfl ?_
          refine xi_iadd (v := c.1 + v18) dX8_newLine_95 rfl ?_
          refine xi_icmp_ge (tgt := 114) dX8_newLine_96 (by decide) (fun c22 => ?_) (fun c22 => ?_)
          · replace hs := ite_p c22 hs
            refine xi_iload_n 5 dX8_newLine_114 rfl ?_
            refine xi_iload 0 dX8_newLine_115 rfl ?_
            refine xi_iadd (v := c.1 + v18) dX8_newLine_117 rfl ?_
            refine xi_istore_n (lv' := [(3, .int (c.1 + v18)), (9, .int v18), (8, .int v14), (0, .ref x0), (1, .int w1), (2, .int w2), (4, .int w4), (5, .int w5), (6, .int w6), (7, .int c.2)]) dX8_newLine_118 (by decide) rfl ?_
            refine xi_iinc (v := (c.2 + 1)) (lv' := [(7, .int (c.2 + 1)), (3, .int (c.1 + v18)), (9, .int v18), (8, .int v14), (0, .ref x0), (1, .int w1), (2, .int w2), (4, .int w4), (5, .int w5), (6, .int w6)]) 9 dX8_newLine_119 rfl rfl (by decide) rfl ?_
            refine xi_goto (tgt := 37) dX8_newLine_122 (by decide) ?_
            refine xi_sub (lv' := [(0, .ref x0), (1, .int w1), (2, .int w2), (3, .int (c.1 + v18)), (4, .int w4), (5, .int w5), (6, .int w6), (7, .int (c.2 + 1))]) [4, 5, 6, 1, 7, 8, 9, 0] rfl ?_
            obtain ⟨rfl, rfl⟩ := some_pair hs
            exact ih ((c.1 + v18), (c.2 + 1)) t19 _ _ h HE
          · replace hs := ite_n c22 hs
            refine xi_bipush (v := 10) dX8_newLine_99 (by decide) ?_
            refine xi_iload 9 dX8_newLine_101 rfl ?_
            refine xi_imul (v := (10 : Int32) * c.2) dX8_newLine_103 rfl ?_
            refine xi_iload 1 dX8_newLine_104 rfl ?_
            refine xi_iload_n 3 dX8_newLine_106 rfl ?_
            refine xi_iload_n 5 dX8_newLine_107 rfl ?_
            refine xi_isub (v := w1 - c.1) dX8_newLine_108 rfl ?_
            obtain ⟨v23, t24, k25, hs⟩ := bnd_some hs
            refine xi_callS (as := [.int v14, .int (w1 - c.1)]) (rest := [.int ((10 : Int32) * c.2)]) dX8_newLine_109 (KX8_bitAt G Gb v14 (w1 - c.1) _ _ _ k25) mkX8_bitAt w_859 w_858 rfl rfl (Nat.le_of_ble_eq_true rfl) (Nat.le_of_ble_eq_true rfl) (Nat.le_of_ble_eq_true rfl) (Nat.le_of_ble_eq_true rfl) (Nat.le_of_ble_eq_true rfl) ?_
            intro v M2 hz
            obtain ⟨rfl, rfl⟩ := hz
            show xW _ _ _ _ 112 _ [.int v23, .int ((10 : Int32) * c.2)] (mem t24 Gb) _ _
            refine xi_iadd (v := ((10 : Int32) * c.2) + v23) dX8_newLine_112 rfl ?_
            obtain ⟨rfl, rfl⟩ := some_pair hs
            obtain ⟨rfl, rfl⟩ := some_pair h
            have r26 := HE
            obtain ⟨rfl, rfl⟩ := r26
            exact xi_iret dX8_newLine_113 rfl rfl (Nat.le_of_ble_eq_true rfl) (Nat.le_of_ble_eq_true rfl) ⟨rfl, rfl⟩
      refine xi_if_ne (tgt := 60) dX8_newLine_53 (by decide) (fun c13 => ?_) (fun c13 => ?_)
      · replace m16 := ite_n c13 m16
        refine xi_iload 6 dX8_newLine_60 rfl ?_
        refine xi_iload 7 dX8_newLine_62 rfl ?_
        obtain ⟨v27, t28, k29, m16⟩ := bnd_some m16
        refine xi_callS (as := [.int w6, .int c.2]) (rest := []) dX8_newLine_64 (KX6_aboveOf G Gb w6 c.2 _ _ _ k29) mkX6_aboveOf w_605 w_856 rfl rfl (Nat.le_of_ble_eq_true rfl) (Nat.le_of_ble_eq_true rfl) (Nat.le_of_ble_eq_true rfl) (Nat.le_of_ble_eq_true rfl) (Nat.le_of_ble_eq_true rfl) ?_
        intro v M2 hz
        obtain ⟨rfl, rfl⟩ := hz
        show xW _ _ _ _ 67 _ [.int v27] (mem t28 Gb) _ _
        refine xi_aload_n 0 dX8_newLine_67 rfl ?_
        refine xi_iload_n 2 dX8_newLine_68 rfl ?_
        refine xi_iload 7 dX8_newLine_69 rfl ?_
        obtain ⟨v30, t31, k32, m16⟩ := bnd_some m16
        refine xi_callS (as := [.ref x0, .int w2, .int c.2]) (rest := [.int v27]) dX8_newLine_71 (KX6_neighbours G Gb x0 w2 c.2 _ _ _ k32) mkX6_neighbours w_599 w_848 rfl rfl (Nat.le_of_ble_eq_true rfl) (Nat.le_of_ble_eq_true rfl) (Nat.le_of_ble_eq_true rfl) (Nat.le_of_ble_eq_true rfl) (Nat.le_of_ble_eq_true rfl) ?_
        intro v M2 hz
        obtain ⟨rfl, rfl⟩ := hz
        show xW _ _ _ _ 74 _ [.int v30, .int v27] (mem t31 Gb) _ _
        refine xi_iconst (v := (-1)) dX8_newLine_74 (by decide) ?_
        refine xi_ixor (v := v30 ^^^ (-1 : Int32)) dX8_newLine_75 rfl ?_
        refine xi_iand (v := v27 &&& (v30 ^^^ (-1 : Int32))) dX8_newLine_76 rfl ?_
        obtain ⟨rfl, rfl⟩ := some_pair m16
        exact key17
      · replace m16 := ite_p c13 m16
        refine xi_iconst (v := 0) dX8_newLine_56 (by decide) ?_
        refine xi_goto (tgt := 77) dX8_newLine_57 (by decide) ?_
        obtain ⟨rfl, rfl⟩ := some_pair m16
        exact key17
set_option maxHeartbeats 4000000 in
set_option maxRecDepth 100000 in
theorem SX8_newLine_7_w (G : xG) (Gb : xMem) (x0 : Nat) (w1 : Int32) (g0x : netAt x0 = true) (r0 : Int32) (t0 : St) :
    ∀ (k : Nat) (c : Int32 × Int32 × Int32) (σ : St) (r : (Int32) ⊕ (Int32)) (σ' : St), itr (SX8_newLine_7 x0 w1) k c σ = some (r, σ') → (Sum.elim (fun v => v = r0 ∧ σ' = t0) (fun e => xW G mX8_newLine (xrm 1 0 0) (xQ G (PQ r0 t0 Gb) 0 0) 138 [(1, .int w1), (3, .int e)] [] (mem σ' Gb) 0 0) r) → xW G mX8_newLine (xrm 1 0 0) (xQ G (PQ r0 t0 Gb) 0 0) 7 [(0, .ref x0), (1, .int w1), (2, .int c.1), (3, .int c.2.1), (4, .int c.2.2)] [] (mem σ Gb) 0 0 := by
  intro k
  induction k with
  | zero =>
    intro c σ r σ' h
    exact absurd h (itr_zero _ _ _ _)
  | succ k ih =>
    intro c σ r σ' h HE
    obtain ⟨x, s1, hs, h⟩ := itr_succ h
    unfold SX8_newLine_7 at hs
    refine xi_iload 4 dX8_newLine_7 rfl ?_
    refine xi_aload_n 0 dX8_newLine_9 rfl ?_
    obtain ⟨v1, h2, hs⟩ := rdb_some hs
    refine yi_getV (f := 0) dX8_newLine_10 (netAt_0 g0x) rfl ok_5 (by decide) w_63 rfl h2 ?_
    refine xi_icmp_ge (tgt := 138) dX8_newLine_13 (by decide) (fun c3 => ?_) (fun c3 => ?_)
    · replace hs := ite_p c3 hs
      refine xi_sub (lv' := [(1, .int w1), (3, .int c.2.1)]) [1, 3] rfl ?_
      obtain ⟨rfl, rfl⟩ := some_pair hs
      obtain ⟨rfl, rfl⟩ := some_pair h
      exact HE
    · replace hs := ite_n c3 hs
      refine xi_aload_n 0 dX8_newLine_16 rfl ?_
      refine yi_getR (f := 3) dX8_newLine_17 (netAt_0 g0x) rfl ok_5 (by decide) w_79 rfl ?_
      refine xi_iload 4 dX8_newLine_20 rfl ?_
      obtain ⟨g4, hs⟩ := chk_some hs
      obtain ⟨v5, h6, hs⟩ := rdb_some hs
      refine yi_ialoadV dX8_newLine_22 (netAt_2 g0x) g4 h6 ?_
      refine xi_istore (lv' := [(5, .int v5), (0, .ref x0), (1, .int w1), (2, .int c.1), (3, .int c.2.1), (4, .int c.2.2)]) dX8_newLine_23 (by decide) rfl ?_
      refine xi_aload_n 1 dX8_newLine_25 rfl ?_
      refine xi_iload_n 3 dX8_newLine_26 rfl ?_
      refine xi_iload 0 dX8_newLine_27 rfl ?_
      obtain ⟨v7, t8, k9, hs⟩ := bnd_some hs
      refine xi_callS (as := [.ref x0, .int c.1, .int v5]) (rest := []) dX8_newLine_29 (KX6_neighbours G Gb x0 c.1 v5 _ _ _ k9) mkX6_neighbours w_599 w_848 rfl rfl (Nat.le_of_ble_eq_true rfl) (Nat.le_of_ble_eq_true rfl) (Nat.le_of_ble_eq_true rfl) (Nat.le_of_ble_eq_true rfl) (Nat.le_of_ble_eq_true rfl) ?_
      intro v M2 hz
      obtain ⟨rfl, rfl⟩ := hz
      show xW _ _ _ _ 32 _ [.int v7] (mem t8 Gb) _ _
      refine xi_istore (lv' := [(6, .int v7), (5, .int v5), (0, .ref x0), (1, .int w1), (2, .int c.1), (3, .int c.2.1), (4, .int c.2.2)]) dX8_newLine_32 (by decide) rfl ?_
      refine xi_iconst (v := 0) dX8_newLine_34 (by decide) ?_
      refine xi_istore (lv' := [(7, .int 0), (6, .int v7), (5, .int v5), (0, .ref x0), (1, .int w1), (2, .int c.1), (3, .int c.2.1), (4, .int c.2.2)]) dX8_newLine_35 (by decide) rfl ?_
      refine xi_sub (lv' := [(0, .ref x0), (1, .int w1), (2, .int c.1), (3, .int c.2.1), (4, .int c.2.2), (5, .int v5), (6, .int v7), (7, .int 0)]) [3, 4, 5, 6, 7, 2, 1, 0] rfl ?_
      obtain ⟨e33, t34, k35, hs⟩ := bnd_some hs
      obtain ⟨n36, k35⟩ := wh_itr k35
      refine SX8_newLine_37_w G Gb x0 w1 c.1 c.2.2 v5 v7 g0x r0 t0 n36 (c.2.1, (0 : Int32)) t8 _ _ k35 ?_
      rcases e33 with e33 | e33
      · replace hs := sel_l hs
        obtain ⟨rfl, rfl⟩ := some_pair hs
        obtain ⟨rfl, rfl⟩ := some_pair h
        have r37 := HE
        exact r37
      · replace hs := sel_r hs
        show xW G mX8_newLine (xrm 1 0 0) (xQ G (PQ r0 t0 Gb) 0 0) 125 [(0, .ref x0), (1, .int w1), (2, .int c.1), (3, .int e33), (4, .int c.2.2), (5, .int v5)] [] (mem t34 Gb) 0 0
        refine xi_iload_n 2 dX8_newLine_125 rfl ?_
        refine xi_iconst (v := 1) dX8_newLine_126 (by decide) ?_
        refine xi_iload 5 dX8_newLine_127 rfl ?_
        refine xi_ishl (v := shl (1 : Int32) v5) dX8_newLine_129 rfl ?_
        refine xi_ior (v := c.1 ||| (shl (1 : Int32) v5)) dX8_newLine_130 rfl ?_
        refine xi_istore_n (lv' := [(2, .int (c.1 ||| (shl (1 : Int32) v5))), (0, .ref x0), (1, .int w1), (3, .int e33), (4, .int c.2.2), (5, .int v5)]) dX8_newLine_131 (by decide) rfl ?_
        refine xi_iinc (v := (c.2.2 + 1)) (lv' := [(4, .int (c.2.2 + 1)), (2, .int (c.1 ||| (shl (1 : Int32) v5))), (0, .ref x0), (1, .int w1), (3, .int e33), (5, .int v5)]) 4 dX8_newLine_132 rfl rfl (by decide) rfl ?_
        refine xi_goto (tgt := 7) dX8_newLine_135 (by decide) ?_
        refine xi_sub (lv' := [(0, .ref x0), (1, .int w1), (2, .int (c.1 ||| (shl (1 : Int32) v5))), (3, .int e33), (4, .int (c.2.2 + 1))]) [2, 3, 1, 4, 0] rfl ?_
        obtain ⟨rfl, rfl⟩ := some_pair hs
        exact ih ((c.1 ||| (shl (1 : Int32) v5)), e33, (c.2.2 + 1)) t34 _ _ h HE
noncomputable def FX8_newLine (x : Nat) (a : Int32) (σ : St) : Option ((Int32) × St) :=
  (chk (netAt x) (bnd (wh (SX8_newLine_7 x a) ((0 : Int32), (0 : Int32), (0 : Int32)) σ) (fun e38 t39 => Sum.elim (fun e38 => (some (e38, t39))) (fun e38 => (if a = (-1 : Int32) then (some (e38, t39)) else (some ((-1 : Int32), t39)))) e38)))
set_option maxHeartbeats 4000000 in
set_option maxRecDepth 100000 in
theorem KX8_newLine (G : xG) (Gb : xMem) (x : Nat) (a : Int32) (σ : St) (r0 : Int32) (t0 : St) (hq : FX8_newLine x a σ = some (r0, t0)) : xC G mX8_newLine 1 0 0 [.ref x, .int a] (mem σ Gb) (PQ r0 t0 Gb) := by
  unfold FX8_newLine at hq
  refine xC.of (by decide) (Nat.le_of_ble_eq_true rfl) ?_
  show xW _ _ _ _ 0 [(0, .ref x), (1, .int a)] [] _ 0 0
  obtain ⟨g_x, hq⟩ := chk_some hq
  refine xi_iconst (v := 0) dX8_newLine_0 (by decide) ?_
  refine xi_istore_n (lv' := [(2, .int 0), (0, .ref x), (1, .int a)]) dX8_newLine_1 (by decide) rfl ?_
  refine xi_iconst (v := 0) dX8_newLine_2 (by decide) ?_
  refine xi_istore_n (lv' := [(3, .int 0), (2, .int 0), (0, .ref x), (1, .int a)]) dX8_newLine_3 (by decide) rfl ?_
  refine xi_iconst (v := 0) dX8_newLine_4 (by decide) ?_
  refine xi_istore (lv' := [(4, .int 0), (3, .int 0), (2, .int 0), (0, .ref x), (1, .int a)]) dX8_newLine_5 (by decide) rfl ?_
  refine xi_sub (lv' := [(0, .ref x), (1, .int a), (2, .int 0), (3, .int 0), (4, .int 0)]) [3, 4, 2, 1, 0] rfl ?_
  obtain ⟨e38, t39, k40, hq⟩ := bnd_some hq
  obtain ⟨n41, k40⟩ := wh_itr k40
  refine SX8_newLine_7_w G Gb x a g_x r0 t0 n41 ((0 : Int32), (0 : Int32), (0 : Int32)) σ _ _ k40 ?_
  rcases e38 with e38 | e38
  · replace hq := sel_l hq
    have r42 := some_pair hq
    exact r42
  · replace hq := sel_r hq
    show xW G mX8_newLine (xrm 1 0 0) (xQ G (PQ r0 t0 Gb) 0 0) 138 [(1, .int a), (3, .int e38)] [] (mem t39 Gb) 0 0
    refine xi_iload_n 0 dX8_newLine_138 rfl ?_
    refine xi_iconst (v := (-1)) dX8_newLine_139 (by decide) ?_
    refine xi_icmp_ne (tgt := 147) dX8_newLine_140 (by decide) (fun c43 => ?_) (fun c43 => ?_)
    · replace hq := ite_n c43 hq
      refine xi_iconst (v := (-1)) dX8_newLine_147 (by decide) ?_
      have r44 := some_pair hq
      obtain ⟨rfl, rfl⟩ := r44
      exact xi_iret dX8_newLine_148 rfl rfl (Nat.le_of_ble_eq_true rfl) (Nat.le_of_ble_eq_true rfl) ⟨rfl, rfl⟩
    · replace hq := ite_p c43 hq
      refine xi_iload_n 1 dX8_newLine_143 rfl ?_
      refine xi_goto (tgt := 148) dX8_newLine_144 (by decide) ?_
      have r45 := some_pair hq
      obtain ⟨rfl, rfl⟩ := r45
      exact xi_iret dX8_newLine_148 rfl rfl (Nat.le_of_ble_eq_true rfl) (Nat.le_of_ble_eq_true rfl) ⟨rfl, rfl⟩
noncomputable def SX8_polishRow_2 (x0 : Nat) (w1 : Int32) (c : Int32) (σ : St) : Option (((Int32) ⊕ ((Int32) ⊕ (Unit))) × St) :=
  (if (4000 : Int32) ≤ c then (some (Sum.inr (Sum.inr ()), σ)) else (bnd (FX8_changeBestTwo x0 w1 σ) (fun v2 t3 => (if v2 = (0 : Int32) then (some (Sum.inr (Sum.inl c), t3)) else (some (Sum.inl (c + 1), t3))))))
set_option maxHeartbeats 4000000 in
set_option maxRecDepth 100000 in
theorem SX8_polishRow_2_w (G : xG) (Gb : xMem) (x0 : Nat) (w1 : Int32) (g0x : netAt x0 = true) (r0 : Int32) (t0 : St) :
    ∀ (k : Nat) (c : Int32) (σ : St) (r : (Int32) ⊕ (Unit)) (σ' : St), itr (SX8_polishRow_2 x0 w1) k c σ = some (r, σ') → (Sum.elim (fun v => v = r0 ∧ σ' = t0) (fun e => xW G mX8_polishRow (xrm 5 0 0) (xQ G (PQ r0 t0 Gb) 0 0) 25 [] [] (mem σ' Gb) 0 0) r) → xW G mX8_polishRow (xrm 5 0 0) (xQ G (PQ r0 t0 Gb) 0 0) 2 [(0, .ref x0), (1, .int w1), (2, .int c)] [] (mem σ Gb) 0 0 := by
  intro k
  induction k with
  | zero =>
    intro c σ r σ' h
    exact absurd h (itr_zero _ _ _ _)
  | succ k ih =>
    intro c σ r σ' h HE
    obtain ⟨x, s1, hs, h⟩ := itr_succ h
    unfold SX8_polishRow_2 at hs
    refine xi_iload_n 2 dX8_polishRow_2 rfl ?_
    refine xi_sipush (v := 4000) dX8_polishRow_3 (by decide) ?_
    refine xi_icmp_ge (tgt := 25) dX8_polishRow_6 (by decide) (fun c1 => ?_) (fun c1 => ?_)
    · replace hs := ite_p c1 hs
      refine xi_sub (lv' := []) [] rfl ?_
      obtain ⟨rfl, rfl⟩ := some_pair hs
      obtain ⟨rfl, rfl⟩ := some_pair h
      exact HE
    · replace hs := ite_n c1 hs
      refine xi_aload_n 0 dX8_polishRow_9 rfl ?_
      refine xi_iload_n 1 dX8_polishRow_10 rfl ?_
      obtain ⟨v2, t3, k4, hs⟩ := bnd_some hs
      refine xi_callS (as := [.ref x0, .int w1]) (rest := []) dX8_polishRow_11 (KX8_changeBestTwo G Gb x0 w1 _ _ _ k4) mkX8_changeBestTwo w_904 w_903 rfl rfl (Nat.le_of_ble_eq_true rfl) (Nat.le_of_ble_eq_true rfl) (Nat.le_of_ble_eq_true rfl) (Nat.le_of_ble_eq_true rfl) (Nat.le_of_ble_eq_true rfl) ?_
      intro v M2 hz
      obtain ⟨rfl, rfl⟩ := hz
      show xW _ _ _ _ 14 _ [.int v2] (mem t3 Gb) _ _
      refine xi_if_ne (tgt := 19) dX8_polishRow_14 (by decide) (fun c5 => ?_) (fun c5 => ?_)
      · replace hs := ite_n c5 hs
        refine xi_iinc (v := (c + 1)) (lv' := [(2, .int (c + 1)), (0, .ref x0), (1, .int w1)]) 2 dX8_polishRow_19 rfl rfl (by decide) rfl ?_
        refine xi_goto (tgt := 2) dX8_polishRow_22 (by decide) ?_
        refine xi_sub (lv' := [(0, .ref x0), (1, .int w1), (2, .int (c + 1))]) [1, 2, 0] rfl ?_
        obtain ⟨rfl, rfl⟩ := some_pair hs
        exact ih (c + 1) t3 _ _ h HE
      · replace hs := ite_p c5 hs
        refine xi_iload_n 2 dX8_polishRow_17 rfl ?_
        obtain ⟨rfl, rfl⟩ := some_pair hs
        obtain ⟨rfl, rfl⟩ := some_pair h
        have r6 := HE
        obtain ⟨rfl, rfl⟩ := r6
        exact xi_iret dX8_polishRow_18 rfl rfl (Nat.le_of_ble_eq_true rfl) (Nat.le_of_ble_eq_true rfl) ⟨rfl, rfl⟩
noncomputable def FX8_polishRow (x : Nat) (a : Int32) (σ : St) : Option ((Int32) × St) :=
  (chk (netAt x) (bnd (wh (SX8_polishRow_2 x a) (0 : Int32) σ) (fun e7 t8 => Sum.elim (fun e7 => (some (e7, t8))) (fun e7 => (some ((4000 : Int32), t8))) e7)))
set_option maxHeartbeats 4000000 in
set_option maxRecDepth 100000 in
theorem KX8_polishRow (G : xG) (Gb : xMem) (x : Nat) (a : Int32) (σ : St) (r0 : Int32) (t0 : St) (hq : FX8_polishRow x a σ = some (r0, t0)) : xC G mX8_polishRow 5 0 0 [.ref x, .int a] (mem σ Gb) (PQ r0 t0 Gb) := by
  unfold FX8_polishRow at hq
  refine xC.of (by decide) (Nat.le_of_ble_eq_true rfl) ?_
  show xW _ _ _ _ 0 [(0, .ref x), (1, .int a)] [] _ 0 0
  obtain ⟨g_x, hq⟩ := chk_some hq
  refine xi_iconst (v := 0) dX8_polishRow_0 (by decide) ?_
  refine xi_istore_n (lv' := [(2, .int 0), (0, .ref x), (1, .int a)]) dX8_polishRow_1 (by decide) rfl ?_
  refine xi_sub (lv' := [(0, .ref x), (1, .int a), (2, .int 0)]) [1, 2, 0] rfl ?_
  obtain ⟨e7, t8, k9, hq⟩ := bnd_some hq
  obtain ⟨n10, k9⟩ := wh_itr k9
  refine SX8_polishRow_2_w G Gb x a g_x r0 t0 n10 (0 : Int32) σ _ _ k9 ?_
  rcases e7 with e7 | e7
  · replace hq := sel_l hq
    have r11 := some_pair hq
    exact r11
  · replace hq := sel_r hq
    show xW G mX8_polishRow (xrm 5 0 0) (xQ G (PQ r0 t0 Gb) 0 0) 25 [] [] (mem t8 Gb) 0 0
    refine xi_sipush (v := 4000) dX8_polishRow_25 (by decide) ?_
    have r12 := some_pair hq
    obtain ⟨rfl, rfl⟩ := r12
    exact xi_iret dX8_polishRow_28 rfl rfl (Nat.le_of_ble_eq_true rfl) (Nat.le_of_ble_eq_true rfl) ⟨rfl, rfl⟩
noncomputable def SX8_worstStep_10 (x0 : Nat) (w1 : Int32) (c : Int32 × Int32 × Int32) (σ : St) : Option (((Int32 × Int32 × Int32) ⊕ (Int32)) × St) :=
  (rdb σ x0 (0) (fun v4 => (if v4 ≤ c.2.2 then (some (Sum.inr c.1, σ)) else (bnd (FX6_atPlace x0 w1 c.2.2 σ) (fun v7 t8 => (bnd (if v7 ≤ c.2.1 then (some ((c.1, c.2.1), t8)) else (some ((c.2.2, v7), t8))) (fun v11 t12 => (some (Sum.inl (v11.1, v11.2, (c.2.2 + 1)), t12)))))))))
set_option maxHeartbeats 4000000 in
set_option maxRecDepth 100000 in
theorem SX8_worstStep_10_w (G : xG) (Gb : xMem) (x0 : Nat) (w1 : Int32) (g0x : netAt x0 = true) (r0 : Int32) (t0 : St) :
    ∀ (k : Nat) (c : Int32 × Int32 × Int32) (σ : St) (r : Int32) (σ' : St), itr (SX8_worstStep_10 x0 w1) k c σ = some (r, σ') → (xW G mX8_worstStep (xrm 4 0 0) (xQ G (PQ r0 t0 Gb) 0 0) 46 [(2, .int r)] [] (mem σ' Gb) 0 0) → xW G mX8_worstStep (xrm 4 0 0) (xQ G (PQ r0 t0 Gb) 0 0) 10 [(0, .ref x0), (1, .int w1), (2, .int c.1), (3, .int c.2.1), (4, .int c.2.2)] [] (mem σ Gb) 0 0 := by
  intro k
  induction k with
  | zero =>
    intro c σ r σ' h
    exact absurd h (itr_zero _ _ _ _)
  | succ k ih =>
    intro c σ r σ' h HE
    obtain ⟨x, s1, hs, h⟩ := itr_succ h
    unfold SX8_worstStep_10 at hs
    refine xi_iload 4 dX8_worstStep_10 rfl ?_
    refine xi_aload_n 0 dX8_worstStep_12 rfl ?_
    obtain ⟨v4, h5, hs⟩ := rdb_some hs
    refine yi_getV (f := 0) dX8_worstStep_13 (netAt_0 g0x) rfl ok_5 (by decide) w_63 rfl h5 ?_
    refine xi_icmp_ge (tgt := 46) dX8_worstStep_16 (by decide) (fun c6 => ?_) (fun c6 => ?_)
    · replace hs := ite_p c6 hs
      refine xi_sub (lv' := [(2, .int c.1)]) [2] rfl ?_
      obtain ⟨rfl, rfl⟩ := some_pair hs
      obtain ⟨rfl, rfl⟩ := some_pair h
      exact HE
    · replace hs := ite_n c6 hs
      refine xi_aload_n 0 dX8_worstStep_19 rfl ?_
      refine xi_iload_n 1 dX8_worstStep_20 rfl ?_
      refine xi_iload 4 dX8_worstStep_21 rfl ?_
      obtain ⟨v7, t8, k9, hs⟩ := bnd_some hs
      refine xi_callS (as := [.ref x0, .int w1, .int c.2.2]) (rest := []) dX8_worstStep_23 (KX6_atPlace G Gb x0 w1 c.2.2 _ _ _ k9) mkX6_atPlace w_626 w_641 rfl rfl (Nat.le_of_ble_eq_true rfl) (Nat.le_of_ble_eq_true rfl) (Nat.le_of_ble_eq_true rfl) (Nat.le_of_ble_eq_true rfl) (Nat.le_of_ble_eq_true rfl) ?_
      intro v M2 hz
      obtain ⟨rfl, rfl⟩ := hz
      show xW _ _ _ _ 26 _ [.int v7] (mem t8 Gb) _ _
      refine xi_istore (lv' := [(5, .int v7), (0, .ref x0), (1, .int w1), (2, .int c.1), (3, .int c.2.1), (4, .int c.2.2)]) dX8_worstStep_26 (by decide) rfl ?_
      refine xi_iload 0 dX8_worstStep_28 rfl ?_
      refine xi_iload_n 4 dX8_worstStep_30 rfl ?_
      obtain ⟨v11, t12, m13, hs⟩ := bnd_some hs
      have key14 : xW G mX8_worstStep (xrm 4 0 0) (xQ G (PQ r0 t0 Gb) 0 0) 40 [(0, .ref x0), (1, .int w1), (2, .int v11.1), (3, .int v11.2), (4, .int c.2.2)] [] (mem t12 Gb) 0 0 := by
        refine xi_iinc (v := (c.2.2 + 1)) (lv' := [(4, .int (c.2.2 + 1)), (0, .ref x0), (1, .int w1), (2, .int v11.1), (3, .int v11.2)]) 4 dX8_worstStep_40 rfl rfl (by decide) rfl ?_
        refine xi_goto (tgt := 10) dX8_worstStep_43 (by decide) ?_
        refine xi_sub (lv' := [(0, .ref x0), (1, .int w1), (2, .int v11.1), (3, .int v11.2), (4, .int (c.2.2 + 1))]) [1, 2, 3, 4, 0] rfl ?_
        obtain ⟨rfl, rfl⟩ := some_pair hs
        exact ih (v11.1, v11.2, (c.2.2 + 1)) t12 _ _ h HE
      refine xi_icmp_le (tgt := 40) dX8_worstStep_31 (by decide) (fun c10 => ?_) (fun c10 => ?_)
      · replace m13 := ite_p c10 m13
        obtain ⟨rfl, rfl⟩ := some_pair m13
        refine xi_sub (lv' := [(0, .ref x0), (1, .int w1), (2, .int c.1), (3, .int c.2.1), (4, .int c.2.2)]) [1, 2, 3, 4, 5] rfl ?_
        exact key14
      · replace m13 := ite_n c10 m13
        refine xi_iload 0 dX8_worstStep_34 rfl ?_
        refine xi_istore_n (lv' := [(3, .int v7), (5, .int v7), (0, .ref x0), (1, .int w1), (2, .int c.1), (4, .int c.2.2)]) dX8_worstStep_36 (by decide) rfl ?_
        refine xi_iload 5 dX8_worstStep_37 rfl ?_
        refine xi_istore_n (lv' := [(2, .int c.2.2), (3, .int v7), (5, .int v7), (0, .ref x0), (1, .int w1), (4, .int c.2.2)]) dX8_worstStep_39 (by decide) rfl ?_
        obtain ⟨rfl, rfl⟩ := some_pair m13
        refine xi_sub (lv' := [(0, .ref x0), (1, .int w1), (2, .int c.2.2), (3, .int v7), (4, .int c.2.2)]) [3, 4, 0, 1, 5] rfl ?_
        exact key14
noncomputable def FX8_worstStep (x : Nat) (a : Int32) (σ : St) : Option ((Int32) × St) :=
  (chk (netAt x) (bnd (FX6_firstStep a σ) (fun v1 t2 => (bnd (wh (SX8_worstStep_10 x a) ((-1 : Int32), (-1 : Int32), v1) t2) (fun e15 t16 => (some (e15, t16)))))))
set_option maxHeartbeats 4000000 in
set_option maxRecDepth 100000 in
theorem KX8_worstStep (G : xG) (Gb : xMem) (x : Nat) (a : Int32) (σ : St) (r0 : Int32) (t0 : St) (hq : FX8_worstStep x a σ = some (r0, t0)) : xC G mX8_worstStep 4 0 0 [.ref x, .int a] (mem σ Gb) (PQ r0 t0 Gb) := by
  unfold FX8_worstStep at hq
  refine xC.of (by decide) (Nat.le_of_ble_eq_true rfl) ?_
  show xW _ _ _ _ 0 [(0, .ref x), (1, .int a)] [] _ 0 0
  obtain ⟨g_x, hq⟩ := chk_some hq
  refine xi_iconst (v := (-1)) dX8_worstStep_0 (by decide) ?_
  refine xi_istore_n (lv' := [(2, .int (-1)), (0, .ref x), (1, .int a)]) dX8_worstStep_1 (by decide) rfl ?_
  refine xi_iconst (v := (-1)) dX8_worstStep_2 (by decide) ?_
  refine xi_istore_n (lv' := [(3, .int (-1)), (2, .int (-1)), (0, .ref x), (1, .int a)]) dX8_worstStep_3 (by decide) rfl ?_
  refine xi_iload_n 3 dX8_worstStep_4 rfl ?_
  obtain ⟨v1, t2, k3, hq⟩ := bnd_some hq
  refine xi_callS (as := [.int a]) (rest := []) dX8_worstStep_5 (KX6_firstStep G Gb a _ _ _ k3) mkX6_firstStep w_623 w_640 rfl rfl (Nat.le_of_ble_eq_true rfl) (Nat.le_of_ble_eq_true rfl) (Nat.le_of_ble_eq_true rfl) (Nat.le_of_ble_eq_true rfl) (Nat.le_of_ble_eq_true rfl) ?_
  intro v M2 hz
  obtain ⟨rfl, rfl⟩ := hz
  show xW _ _ _ _ 8 _ [.int v1] (mem t2 Gb) _ _
  refine xi_istore (lv' := [(4, .int v1), (3, .int (-1)), (2, .int (-1)), (0, .ref x), (1, .int a)]) dX8_worstStep_8 (by decide) rfl ?_
  refine xi_sub (lv' := [(0, .ref x), (1, .int a), (2, .int (-1)), (3, .int (-1)), (4, .int v1)]) [3, 4, 2, 1, 0] rfl ?_
  obtain ⟨e15, t16, k17, hq⟩ := bnd_some hq
  obtain ⟨n18, k17⟩ := wh_itr k17
  refine SX8_worstStep_10_w G Gb x a g_x r0 t0 n18 ((-1 : Int32), (-1 : Int32), v1) t2 _ _ k17 ?_
  show xW G mX8_worstStep (xrm 4 0 0) (xQ G (PQ r0 t0 Gb) 0 0) 46 [(2, .int e15)] [] (mem t16 Gb) 0 0
  refine xi_iload_n 0 dX8_worstStep_46 rfl ?_
  have r19 := some_pair hq
  obtain ⟨rfl, rfl⟩ := r19
  exact xi_iret dX8_worstStep_47 rfl rfl (Nat.le_of_ble_eq_true rfl) (Nat.le_of_ble_eq_true rfl) ⟨rfl, rfl⟩
