/-! methods as functions, on -/
set_option maxHeartbeats 4000000 in
set_option maxRecDepth 100000 in
theorem SX12_core_22_w (G : xG) (Gb : xMem) (w1 : Int32) (w2 : Int32) (w3 : Int32) (r0 : Int32) (t0 : St) :
    ∀ (k : Nat) (c : Int32 × Int32) (σ : St) (r : Int32) (σ' : St), itr (SX12_core_22 w1 w2 w3) k c σ = some (r, σ') → (xW G mX12_core (xrm 2 0 0) (xQ G (PQ r0 t0 Gb) 0 0) 71 [(0, .ref 149), (1, .int w1), (2, .int w2), (3, .int w3), (4, .int r)] [] (mem σ' Gb) 0 0) → xW G mX12_core (xrm 2 0 0) (xQ G (PQ r0 t0 Gb) 0 0) 22 [(0, .ref 149), (1, .int w1), (2, .int w2), (3, .int w3), (4, .int c.1), (5, .int c.2)] [] (mem σ Gb) 0 0 := by
  intro k
  induction k with
  | zero =>
    intro c σ r σ' h
    exact absurd h (itr_zero _ _ _ _)
  | succ k ih =>
    intro c σ r σ' h HE
    obtain ⟨x, s1, hs, h⟩ := itr_succ h
    unfold SX12_core_22 at hs
    refine xi_iload 5 dX12_core_22 rfl ?_
    refine xi_aload_n 0 dX12_core_24 rfl ?_
    refine xi_iload_n 1 dX12_core_25 rfl ?_
    obtain ⟨v5, t6, k7, hs⟩ := bnd_some hs
    refine xi_callV (as := [.int w1]) (rest := [.int c.2]) dX12_core_26 (KX12_points G Gb w1 _ _ _ k7) mkX12_points w_1108 ws_36 w_1106 (mem_get sh_149) rfl rfl rfl rfl (Nat.le_of_ble_eq_true rfl) (Nat.le_of_ble_eq_true rfl) (Nat.le_of_ble_eq_true rfl) (Nat.le_of_ble_eq_true rfl) (Nat.le_of_ble_eq_true rfl) ?_
    intro v M2 hz
    obtain ⟨rfl, rfl⟩ := hz
    show xW _ _ _ _ 29 _ [.int v5, .int c.2] (mem t6 Gb) _ _
    refine xi_icmp_ge (tgt := 71) dX12_core_29 (by decide) (fun c8 => ?_) (fun c8 => ?_)
    · replace hs := ite_p c8 hs
      refine xi_sub (lv' := [(0, .ref 149), (1, .int w1), (2, .int w2), (3, .int w3), (4, .int c.1)]) [0, 1, 2, 3, 4] rfl ?_
      obtain ⟨rfl, rfl⟩ := some_pair hs
      obtain ⟨rfl, rfl⟩ := some_pair h
      exact HE
    · replace hs := ite_n c8 hs
      refine xi_iload_n 3 dX12_core_32 rfl ?_
      refine xi_iload 5 dX12_core_33 rfl ?_
      obtain ⟨v9, t10, k11, hs⟩ := bnd_some hs
      refine xi_callS (as := [.int w3, .int c.2]) (rest := []) dX12_core_35 (KX12_has G Gb w3 c.2 _ _ _ k11) mkX12_has w_1207 w_1206 rfl rfl (Nat.le_of_ble_eq_true rfl) (Nat.le_of_ble_eq_true rfl) (Nat.le_of_ble_eq_true rfl) (Nat.le_of_ble_eq_true rfl) (Nat.le_of_ble_eq_true rfl) ?_
      intro v M2 hz
      obtain ⟨rfl, rfl⟩ := hz
      show xW _ _ _ _ 38 _ [.int v9] (mem t10 Gb) _ _
      obtain ⟨v13, t14, m15, hs⟩ := bnd_some hs
      have key16 : xW G mX12_core (xrm 2 0 0) (xQ G (PQ r0 t0 Gb) 0 0) 63 [(0, .ref 149), (1, .int w1), (2, .int w2), (3, .int w3), (5, .int c.2)] [.int v13] (mem t14 Gb) 0 0 := by
        refine xi_istore (lv' := [(4, .int v13), (0, .ref 149), (1, .int w1), (2, .int w2), (3, .int w3), (5, .int c.2)]) dX12_core_63 (by decide) rfl ?_
        refine xi_iinc (v := (c.2 + 1)) (lv' := [(5, .int (c.2 + 1)), (4, .int v13), (0, .ref 149), (1, .int w1), (2, .int w2), (3, .int w3)]) 5 dX12_core_65 rfl rfl (by decide) rfl ?_
        refine xi_goto (tgt := 22) dX12_core_68 (by decide) ?_
        refine xi_sub (lv' := [(0, .ref 149), (1, .int w1), (2, .int w2), (3, .int w3), (4, .int v13), (5, .int (c.2 + 1))]) [2, 3, 4, 5, 1, 0] rfl ?_
        obtain ⟨rfl, rfl⟩ := some_pair hs
        exact ih (v13, (c.2 + 1)) t14 _ _ h HE
      refine xi_if_eq (tgt := 61) dX12_core_38 (by decide) (fun c12 => ?_) (fun c12 => ?_)
      · replace m15 := ite_p c12 m15
        refine xi_iload 4 dX12_core_61 rfl ?_
        obtain ⟨rfl, rfl⟩ := some_pair m15
        refine xi_sub (lv' := [(0, .ref 149), (1, .int w1), (2, .int w2), (3, .int w3), (5, .int c.2)]) [0, 1, 2, 3, 5] rfl ?_
        exact key16
      · replace m15 := ite_n c12 m15
        refine xi_iload 4 dX12_core_41 rfl ?_
        refine xi_aload_n 0 dX12_core_43 rfl ?_
        refine xi_iload_n 1 dX12_core_44 rfl ?_
        refine xi_iload 5 dX12_core_45 rfl ?_
        obtain ⟨v17, t18, k19, m15⟩ := bnd_some m15
        refine xi_callV (as := [.int w1, .int c.2]) (rest := [.int c.1]) dX12_core_47 (KX12_nearOf G Gb w1 c.2 _ _ _ k19) mkX12_nearOf w_1188 ws_52 w_1186 (mem_get sh_149) rfl rfl rfl rfl (Nat.le_of_ble_eq_true rfl) (Nat.le_of_ble_eq_true rfl) (Nat.le_of_ble_eq_true rfl) (Nat.le_of_ble_eq_true rfl) (Nat.le_of_ble_eq_true rfl) ?_
        intro v M2 hz
        obtain ⟨rfl, rfl⟩ := hz
        show xW _ _ _ _ 50 _ [.int v17, .int c.1] (mem t18 Gb) _ _
        refine xi_iload_n 3 dX12_core_50 rfl ?_
        refine xi_iand (v := v17 &&& w3) dX12_core_51 rfl ?_
        obtain ⟨v20, t21, k22, m15⟩ := bnd_some m15
        refine xi_callS (as := [.int (v17 &&& w3)]) (rest := [.int c.1]) dX12_core_52 (KX12_ones G Gb (v17 &&& w3) _ _ _ k22) mkX12_ones w_1195 w_1194 rfl rfl (Nat.le_of_ble_eq_true rfl) (Nat.le_of_ble_eq_true rfl) (Nat.le_of_ble_eq_true rfl) (Nat.le_of_ble_eq_true rfl) (Nat.le_of_ble_eq_true rfl) ?_
        intro v M2 hz
        obtain ⟨rfl, rfl⟩ := hz
        show xW _ _ _ _ 55 _ [.int v20, .int c.1] (mem t21 Gb) _ _
        refine xi_min (v := (mnI c.1 v20)) dX12_core_55 w_1142 w_385 w_3 w_mmin (Nat.le_of_ble_eq_true rfl) (Nat.le_of_ble_eq_true rfl) (Nat.le_of_ble_eq_true rfl) (Nat.le_of_ble_eq_true rfl) (Nat.le_of_ble_eq_true rfl) rfl ?_
        refine xi_goto (tgt := 63) dX12_core_58 (by decide) ?_
        obtain ⟨rfl, rfl⟩ := some_pair m15
        refine xi_sub (lv' := [(0, .ref 149), (1, .int w1), (2, .int w2), (3, .int w3), (5, .int c.2)]) [0, 1, 2, 3, 5] rfl ?_
        exact key16
set_option maxHeartbeats 4000000 in
set_option maxRecDepth 100000 in
theorem SX12_core_4_w (G : xG) (Gb : xMem) (w1 : Int32) (r0 : Int32) (t0 : St) :
    ∀ (k : Nat) (c : Int32 × Int32) (σ : St) (r : Int32) (σ' : St), itr (SX12_core_4 w1) k c σ = some (r, σ') → (xW G mX12_core (xrm 2 0 0) (xQ G (PQ r0 t0 Gb) 0 0) 84 [(2, .int r)] [] (mem σ' Gb) 0 0) → xW G mX12_core (xrm 2 0 0) (xQ G (PQ r0 t0 Gb) 0 0) 4 [(0, .ref 149), (1, .int w1), (2, .int c.1), (3, .int c.2)] [] (mem σ Gb) 0 0 := by
  intro k
  induction k with
  | zero =>
    intro c σ r σ' h
    exact absurd h (itr_zero _ _ _ _)
  | succ k ih =>
    intro c σ r σ' h HE
    obtain ⟨x, s1, hs, h⟩ := itr_succ h
    unfold SX12_core_4 at hs
    refine xi_iload_n 3 dX12_core_4 rfl ?_
    refine xi_iconst (v := 1) dX12_core_5 (by decide) ?_
    refine xi_aload_n 0 dX12_core_6 rfl ?_
    refine xi_iload_n 1 dX12_core_7 rfl ?_
    obtain ⟨v1, t2, k3, hs⟩ := bnd_some hs
    refine xi_callV (as := [.int w1]) (rest := [.int 1, .int c.2]) dX12_core_8 (KX12_points G Gb w1 _ _ _ k3) mkX12_points w_1108 ws_36 w_1106 (mem_get sh_149) rfl rfl rfl rfl (Nat.le_of_ble_eq_true rfl) (Nat.le_of_ble_eq_true rfl) (Nat.le_of_ble_eq_true rfl) (Nat.le_of_ble_eq_true rfl) (Nat.le_of_ble_eq_true rfl) ?_
    intro v M2 hz
    obtain ⟨rfl, rfl⟩ := hz
    show xW _ _ _ _ 11 _ [.int v1, .int 1, .int c.2] (mem t2 Gb) _ _
    refine xi_ishl (v := shl (1 : Int32) v1) dX12_core_11 rfl ?_
    refine xi_icmp_ge (tgt := 84) dX12_core_12 (by decide) (fun c4 => ?_) (fun c4 => ?_)
    · replace hs := ite_p c4 hs
      refine xi_sub (lv' := [(2, .int c.1)]) [2] rfl ?_
      obtain ⟨rfl, rfl⟩ := some_pair hs
      obtain ⟨rfl, rfl⟩ := some_pair h
      exact HE
    · replace hs := ite_n c4 hs
      refine xi_bipush (v := 9) dX12_core_15 (by decide) ?_
      refine xi_istore (lv' := [(4, .int 9), (0, .ref 149), (1, .int w1), (2, .int c.1), (3, .int c.2)]) dX12_core_17 (by decide) rfl ?_
      refine xi_iconst (v := 0) dX12_core_19 (by decide) ?_
      refine xi_istore (lv' := [(5, .int 0), (4, .int 9), (0, .ref 149), (1, .int w1), (2, .int c.1), (3, .int c.2)]) dX12_core_20 (by decide) rfl ?_
      refine xi_sub (lv' := [(0, .ref 149), (1, .int w1), (2, .int c.1), (3, .int c.2), (4, .int 9), (5, .int 0)]) [2, 3, 4, 5, 1, 0] rfl ?_
      obtain ⟨e23, t24, k25, hs⟩ := bnd_some hs
      obtain ⟨n26, k25⟩ := wh_itr k25
      refine SX12_core_22_w G Gb w1 c.1 c.2 r0 t0 n26 ((9 : Int32), (0 : Int32)) t2 _ _ k25 ?_
      show xW G mX12_core (xrm 2 0 0) (xQ G (PQ r0 t0 Gb) 0 0) 71 [(0, .ref 149), (1, .int w1), (2, .int c.1), (3, .int c.2), (4, .int e23)] [] (mem t24 Gb) 0 0
      refine xi_iload_n 2 dX12_core_71 rfl ?_
      refine xi_iload 4 dX12_core_72 rfl ?_
      refine xi_max (v := (mxI c.1 e23)) dX12_core_74 w_1234 w_37 w_3 w_mmax (Nat.le_of_ble_eq_true rfl) (Nat.le_of_ble_eq_true rfl) (Nat.le_of_ble_eq_true rfl) (Nat.le_of_ble_eq_true rfl) (Nat.le_of_ble_eq_true rfl) rfl ?_
      refine xi_istore_n (lv' := [(2, .int (mxI c.1 e23)), (0, .ref 149), (1, .int w1), (3, .int c.2), (4, .int e23)]) dX12_core_77 (by decide) rfl ?_
      refine xi_iinc (v := (c.2 + 1)) (lv' := [(3, .int (c.2 + 1)), (2, .int (mxI c.1 e23)), (0, .ref 149), (1, .int w1), (4, .int e23)]) 3 dX12_core_78 rfl rfl (by decide) rfl ?_
      refine xi_goto (tgt := 4) dX12_core_81 (by decide) ?_
      refine xi_sub (lv' := [(0, .ref 149), (1, .int w1), (2, .int (mxI c.1 e23)), (3, .int (c.2 + 1))]) [2, 3, 1, 0] rfl ?_
      obtain ⟨rfl, rfl⟩ := some_pair hs
      exact ih ((mxI c.1 e23), (c.2 + 1)) t24 _ _ h HE
noncomputable def FX12_core (a : Int32) (σ : St) : Option ((Int32) × St) :=
  (bnd (wh (SX12_core_4 a) ((0 : Int32), (1 : Int32)) σ) (fun e27 t28 => (some (e27, t28))))
set_option maxHeartbeats 4000000 in
set_option maxRecDepth 100000 in
theorem KX12_core (G : xG) (Gb : xMem) (a : Int32) (σ : St) (r0 : Int32) (t0 : St) (hq : FX12_core a σ = some (r0, t0)) : xC G mX12_core 2 0 0 [.ref 149, .int a] (mem σ Gb) (PQ r0 t0 Gb) := by
  unfold FX12_core at hq
  refine xC.of (by decide) (Nat.le_of_ble_eq_true rfl) ?_
  show xW _ _ _ _ 0 [(0, .ref 149), (1, .int a)] [] _ 0 0
  refine xi_iconst (v := 0) dX12_core_0 (by decide) ?_
  refine xi_istore_n (lv' := [(2, .int 0), (0, .ref 149), (1, .int a)]) dX12_core_1 (by decide) rfl ?_
  refine xi_iconst (v := 1) dX12_core_2 (by decide) ?_
  refine xi_istore_n (lv' := [(3, .int 1), (2, .int 0), (0, .ref 149), (1, .int a)]) dX12_core_3 (by decide) rfl ?_
  refine xi_sub (lv' := [(0, .ref 149), (1, .int a), (2, .int 0), (3, .int 1)]) [2, 3, 1, 0] rfl ?_
  obtain ⟨e27, t28, k29, hq⟩ := bnd_some hq
  obtain ⟨n30, k29⟩ := wh_itr k29
  refine SX12_core_4_w G Gb a r0 t0 n30 ((0 : Int32), (1 : Int32)) σ _ _ k29 ?_
  show xW G mX12_core (xrm 2 0 0) (xQ G (PQ r0 t0 Gb) 0 0) 84 [(2, .int e27)] [] (mem t28 Gb) 0 0
  refine xi_iload_n 0 dX12_core_84 rfl ?_
  have r31 := some_pair hq
  obtain ⟨rfl, rfl⟩ := r31
  exact xi_iret dX12_core_85 rfl rfl (Nat.le_of_ble_eq_true rfl) (Nat.le_of_ble_eq_true rfl) ⟨rfl, rfl⟩
noncomputable def SX12_degree_4 (w1 : Int32) (c : Int32 × Int32) (σ : St) : Option (((Int32 × Int32) ⊕ (Int32)) × St) :=
  (bnd (FX12_points w1 σ) (fun v1 t2 => (if v1 ≤ c.2 then (some (Sum.inr c.1, t2)) else (bnd (FX12_nearOf w1 c.2 t2) (fun v5 t6 => (bnd (FX12_ones v5 t6) (fun v8 t9 => (some (Sum.inl ((mxI c.1 v8), (c.2 + 1)), t9)))))))))
set_option maxHeartbeats 4000000 in
set_option maxRecDepth 100000 in
theorem SX12_degree_4_w (G : xG) (Gb : xMem) (w1 : Int32) (r0 : Int32) (t0 : St) :
    ∀ (k : Nat) (c : Int32 × Int32) (σ : St) (r : Int32) (σ' : St), itr (SX12_degree_4 w1) k c σ = some (r, σ') → (xW G mX12_degree (xrm 2 0 0) (xQ G (PQ r0 t0 Gb) 0 0) 33 [(2, .int r)] [] (mem σ' Gb) 0 0) → xW G mX12_degree (xrm 2 0 0) (xQ G (PQ r0 t0 Gb) 0 0) 4 [(0, .ref 149), (1, .int w1), (2, .int c.1), (3, .int c.2)] [] (mem σ Gb) 0 0 := by
  intro k
  induction k with
  | zero =>
    intro c σ r σ' h
    exact absurd h (itr_zero _ _ _ _)
  | succ k ih =>
    intro c σ r σ' h HE
    obtain ⟨x, s1, hs, h⟩ := itr_succ h
    unfold SX12_degree_4 at hs
    refine xi_iload_n 3 dX12_degree_4 rfl ?_
    refine xi_aload_n 0 dX12_degree_5 rfl ?_
    refine xi_iload_n 1 dX12_degree_6 rfl ?_
    obtain ⟨v1, t2, k3, hs⟩ := bnd_some hs
    refine xi_callV (as := [.int w1]) (rest := [.int c.2]) dX12_degree_7 (KX12_points G Gb w1 _ _ _ k3) mkX12_points w_1108 ws_36 w_1106 (mem_get sh_149) rfl rfl rfl rfl (Nat.le_of_ble_eq_true rfl) (Nat.le_of_ble_eq_true rfl) (Nat.le_of_ble_eq_true rfl) (Nat.le_of_ble_eq_true rfl) (Nat.le_of_ble_eq_true rfl) ?_
    intro v M2 hz
    obtain ⟨rfl, rfl⟩ := hz
    show xW _ _ _ _ 10 _ [.int v1, .int c.2] (mem t2 Gb) _ _
    refine xi_icmp_ge (tgt := 33) dX12_degree_10 (by decide) (fun c4 => ?_) (fun c4 => ?_)
    · replace hs := ite_p c4 hs
      refine xi_sub (lv' := [(2, .int c.1)]) [2] rfl ?_
      obtain ⟨rfl, rfl⟩ := some_pair hs
      obtain ⟨rfl, rfl⟩ := some_pair h
      exact HE
    · replace hs := ite_n c4 hs
      refine xi_iload_n 2 dX12_degree_13 rfl ?_
      refine xi_aload_n 0 dX12_degree_14 rfl ?_
      refine xi_iload_n 1 dX12_degree_15 rfl ?_
      refine xi_iload_n 3 dX12_degree_16 rfl ?_
      obtain ⟨v5, t6, k7, hs⟩ := bnd_some hs
      refine xi_callV (as := [.int w1, .int c.2]) (rest := [.int c.1]) dX12_degree_17 (KX12_nearOf G Gb w1 c.2 _ _ _ k7) mkX12_nearOf w_1188 ws_52 w_1186 (mem_get sh_149) rfl rfl rfl rfl (Nat.le_of_ble_eq_true rfl) (Nat.le_of_ble_eq_true rfl) (Nat.le_of_ble_eq_true rfl) (Nat.le_of_ble_eq_true rfl) (Nat.le_of_ble_eq_true rfl) ?_
      intro v M2 hz
      obtain ⟨rfl, rfl⟩ := hz
      show xW _ _ _ _ 20 _ [.int v5, .int c.1] (mem t6 Gb) _ _
      obtain ⟨v8, t9, k10, hs⟩ := bnd_some hs
      refine xi_callS (as := [.int v5]) (rest := [.int c.1]) dX12_degree_20 (KX12_ones G Gb v5 _ _ _ k10) mkX12_ones w_1195 w_1194 rfl rfl (Nat.le_of_ble_eq_true rfl) (Nat.le_of_ble_eq_true rfl) (Nat.le_of_ble_eq_true rfl) (Nat.le_of_ble_eq_true rfl) (Nat.le_of_ble_eq_true rfl) ?_
      intro v M2 hz
      obtain ⟨rfl, rfl⟩ := hz
      show xW _ _ _ _ 23 _ [.int v8, .int c.1] (mem t9 Gb) _ _
      refine xi_max (v := (mxI c.1 v8)) dX12_degree_23 w_1234 w_37 w_3 w_mmax (Nat.le_of_ble_eq_true rfl) (Nat.le_of_ble_eq_true rfl) (Nat.le_of_ble_eq_true rfl) (Nat.le_of_ble_eq_true rfl) (Nat.le_of_ble_eq_true rfl) rfl ?_
      refine xi_istore_n (lv' := [(2, .int (mxI c.1 v8)), (0, .ref 149), (1, .int w1), (3, .int c.2)]) dX12_degree_26 (by decide) rfl ?_
      refine xi_iinc (v := (c.2 + 1)) (lv' := [(3, .int (c.2 + 1)), (2, .int (mxI c.1 v8)), (0, .ref 149), (1, .int w1)]) 3 dX12_degree_27 rfl rfl (by decide) rfl ?_
      refine xi_goto (tgt := 4) dX12_degree_30 (by decide) ?_
      refine xi_sub (lv' := [(0, .ref 149), (1, .int w1), (2, .int (mxI c.1 v8)), (3, .int (c.2 + 1))]) [2, 3, 1, 0] rfl ?_
      obtain ⟨rfl, rfl⟩ := some_pair hs
      exact ih ((mxI c.1 v8), (c.2 + 1)) t9 _ _ h HE
noncomputable def FX12_degree (a : Int32) (σ : St) : Option ((Int32) × St) :=
  (bnd (wh (SX12_degree_4 a) ((0 : Int32), (0 : Int32)) σ) (fun e11 t12 => (some (e11, t12))))
set_option maxHeartbeats 4000000 in
set_option maxRecDepth 100000 in
theorem KX12_degree (G : xG) (Gb : xMem) (a : Int32) (σ : St) (r0 : Int32) (t0 : St) (hq : FX12_degree a σ = some (r0, t0)) : xC G mX12_degree 2 0 0 [.ref 149, .int a] (mem σ Gb) (PQ r0 t0 Gb) := by
  unfold FX12_degree at hq
  refine xC.of (by decide) (Nat.le_of_ble_eq_true rfl) ?_
  show xW _ _ _ _ 0 [(0, .ref 149), (1, .int a)] [] _ 0 0
  refine xi_iconst (v := 0) dX12_degree_0 (by decide) ?_
  refine xi_istore_n (lv' := [(2, .int 0), (0, .ref 149), (1, .int a)]) dX12_degree_1 (by decide) rfl ?_
  refine xi_iconst (v := 0) dX12_degree_2 (by decide) ?_
  refine xi_istore_n (lv' := [(3, .int 0), (2, .int 0), (0, .ref 149), (1, .int a)]) dX12_degree_3 (by decide) rfl ?_
  refine xi_sub (lv' := [(0, .ref 149), (1, .int a), (2, .int 0), (3, .int 0)]) [2, 3, 1, 0] rfl ?_
  obtain ⟨e11, t12, k13, hq⟩ := bnd_some hq
  obtain ⟨n14, k13⟩ := wh_itr k13
  refine SX12_degree_4_w G Gb a r0 t0 n14 ((0 : Int32), (0 : Int32)) σ _ _ k13 ?_
  show xW G mX12_degree (xrm 2 0 0) (xQ G (PQ r0 t0 Gb) 0 0) 33 [(2, .int e11)] [] (mem t12 Gb) 0 0
  refine xi_iload_n 0 dX12_degree_33 rfl ?_
  have r15 := some_pair hq
  obtain ⟨rfl, rfl⟩ := r15
  exact xi_iret dX12_degree_34 rfl rfl (Nat.le_of_ble_eq_true rfl) (Nat.le_of_ble_eq_true rfl) ⟨rfl, rfl⟩
noncomputable def SX12_weightOf_5 (w1 : Int32) (w2 : Int32) (c : Int32 × Int32) (σ : St) : Option (((Int32 × Int32) ⊕ (Int32)) × St) :=
  (bnd (FX12_points w1 σ) (fun v1 t2 => (if v1 ≤ c.2 then (some (Sum.inr c.1, t2)) else (bnd (FX12_weight w1 w2 c.2 t2) (fun v5 t6 => (some (Sum.inl ((c.1 + v5), (c.2 + 1)), t6)))))))
set_option maxHeartbeats 4000000 in
set_option maxRecDepth 100000 in
theorem SX12_weightOf_5_w (G : xG) (Gb : xMem) (w1 : Int32) (w2 : Int32) (r0 : Int32) (t0 : St) :
    ∀ (k : Nat) (c : Int32 × Int32) (σ : St) (r : Int32) (σ' : St), itr (SX12_weightOf_5 w1 w2) k c σ = some (r, σ') → (xW G mX12_weightOf (xrm 1 0 0) (xQ G (PQ r0 t0 Gb) 0 0) 32 [(3, .int r)] [] (mem σ' Gb) 0 0) → xW G mX12_weightOf (xrm 1 0 0) (xQ G (PQ r0 t0 Gb) 0 0) 5 [(0, .ref 149), (1, .int w1), (2, .int w2), (3, .int c.1), (4, .int c.2)] [] (mem σ Gb) 0 0 := by
  intro k
  induction k with
  | zero =>
    intro c σ r σ' h
    exact absurd h (itr_zero _ _ _ _)
  | succ k ih =>
    intro c σ r σ' h HE
    obtain ⟨x, s1, hs, h⟩ := itr_succ h
    unfold SX12_weightOf_5 at hs
    refine xi_iload 4 dX12_weightOf_5 rfl ?_
    refine xi_aload_n 0 dX12_weightOf_7 rfl ?_
    refine xi_iload_n 1 dX12_weightOf_8 rfl ?_
    obtain ⟨v1, t2, k3, hs⟩ := bnd_some hs
    refine xi_callV (as := [.int w1]) (rest := [.int c.2]) dX12_weightOf_9 (KX12_points G Gb w1 _ _ _ k3) mkX12_points w_1108 ws_36 w_1106 (mem_get sh_149) rfl rfl rfl rfl (Nat.le_of_ble_eq_true rfl) (Nat.le_of_ble_eq_true rfl) (Nat.le_of_ble_eq_true rfl) (Nat.le_of_ble_eq_true rfl) (Nat.le_of_ble_eq_true rfl) ?_
    intro v M2 hz
    obtain ⟨rfl, rfl⟩ := hz
    show xW _ _ _ _ 12 _ [.int v1, .int c.2] (mem t2 Gb) _ _
    refine xi_icmp_ge (tgt := 32) dX12_weightOf_12 (by decide) (fun c4 => ?_) (fun c4 => ?_)
    · replace hs := ite_p c4 hs
      refine xi_sub (lv' := [(3, .int c.1)]) [3] rfl ?_
      obtain ⟨rfl, rfl⟩ := some_pair hs
      obtain ⟨rfl, rfl⟩ := some_pair h
      exact HE
    · replace hs := ite_n c4 hs
      refine xi_iload_n 3 dX12_weightOf_15 rfl ?_
      refine xi_aload_n 0 dX12_weightOf_16 rfl ?_
      refine xi_iload_n 1 dX12_weightOf_17 rfl ?_
      refine xi_iload_n 2 dX12_weightOf_18 rfl ?_
      refine xi_iload 4 dX12_weightOf_19 rfl ?_
      obtain ⟨v5, t6, k7, hs⟩ := bnd_some hs
      refine xi_callV (as := [.int w1, .int w2, .int c.2]) (rest := [.int c.1]) dX12_weightOf_21 (KX12_weight G Gb w1 w2 c.2 _ _ _ k7) mkX12_weight w_1192 ws_53 w_1190 (mem_get sh_149) rfl rfl rfl rfl (Nat.le_of_ble_eq_true rfl) (Nat.le_of_ble_eq_true rfl) (Nat.le_of_ble_eq_true rfl) (Nat.le_of_ble_eq_true rfl) (Nat.le_of_ble_eq_true rfl) ?_
      intro v M2 hz
      obtain ⟨rfl, rfl⟩ := hz
      show xW _ _ _ _ 24 _ [.int v5, .int c.1] (mem t6 Gb) _ _
      refine xi_iadd (v := c.1 + v5) dX12_weightOf_24 rfl ?_
      refine xi_istore_n (lv' := [(3, .int (c.1 + v5)), (0, .ref 149), (1, .int w1), (2, .int w2), (4, .int c.2)]) dX12_weightOf_25 (by decide) rfl ?_
      refine xi_iinc (v := (c.2 + 1)) (lv' := [(4, .int (c.2 + 1)), (3, .int (c.1 + v5)), (0, .ref 149), (1, .int w1), (2, .int w2)]) 4 dX12_weightOf_26 rfl rfl (by decide) rfl ?_
      refine xi_goto (tgt := 5) dX12_weightOf_29 (by decide) ?_
      refine xi_sub (lv' := [(0, .ref 149), (1, .int w1), (2, .int w2), (3, .int (c.1 + v5)), (4, .int (c.2 + 1))]) [2, 3, 4, 1, 0] rfl ?_
      obtain ⟨rfl, rfl⟩ := some_pair hs
      exact ih ((c.1 + v5), (c.2 + 1)) t6 _ _ h HE
noncomputable def FX12_weightOf (a : Int32) (b : Int32) (σ : St) : Option ((Int32) × St) :=
  (bnd (wh (SX12_weightOf_5 a b) ((0 : Int32), (0 : Int32)) σ) (fun e8 t9 => (some (e8, t9))))
set_option maxHeartbeats 4000000 in
set_option maxRecDepth 100000 in
theorem KX12_weightOf (G : xG) (Gb : xMem) (a : Int32) (b : Int32) (σ : St) (r0 : Int32) (t0 : St) (hq : FX12_weightOf a b σ = some (r0, t0)) : xC G mX12_weightOf 1 0 0 [.ref 149, .int a, .int b] (mem σ Gb) (PQ r0 t0 Gb) := by
  unfold FX12_weightOf at hq
  refine xC.of (by decide) (Nat.le_of_ble_eq_true rfl) ?_
  show xW _ _ _ _ 0 [(0, .ref 149), (1, .int a), (2, .int b)] [] _ 0 0
  refine xi_iconst (v := 0) dX12_weightOf_0 (by decide) ?_
  refine xi_istore_n (lv' := [(3, .int 0), (0, .ref 149), (1, .int a), (2, .int b)]) dX12_weightOf_1 (by decide) rfl ?_
  refine xi_iconst (v := 0) dX12_weightOf_2 (by decide) ?_
  refine xi_istore (lv' := [(4, .int 0), (3, .int 0), (0, .ref 149), (1, .int a), (2, .int b)]) dX12_weightOf_3 (by decide) rfl ?_
  refine xi_sub (lv' := [(0, .ref 149), (1, .int a), (2, .int b), (3, .int 0), (4, .int 0)]) [2, 3, 4, 1, 0] rfl ?_
  obtain ⟨e8, t9, k10, hq⟩ := bnd_some hq
  obtain ⟨n11, k10⟩ := wh_itr k10
  refine SX12_weightOf_5_w G Gb a b r0 t0 n11 ((0 : Int32), (0 : Int32)) σ _ _ k10 ?_
  show xW G mX12_weightOf (xrm 1 0 0) (xQ G (PQ r0 t0 Gb) 0 0) 32 [(3, .int e8)] [] (mem t9 Gb) 0 0
  refine xi_iload_n 0 dX12_weightOf_32 rfl ?_
  have r12 := some_pair hq
  obtain ⟨rfl, rfl⟩ := r12
  exact xi_iret dX12_weightOf_33 rfl rfl (Nat.le_of_ble_eq_true rfl) (Nat.le_of_ble_eq_true rfl) ⟨rfl, rfl⟩
noncomputable def SX12_bound_66 (w1 : Int32) (w2 : Int32) (c : Int32 × Int32) (σ : St) : Option (((Int32 × Int32) ⊕ (Int32)) × St) :=
  (bnd (FX12_points w1 σ) (fun v18 t19 => (if v18 ≤ c.2 then (some (Sum.inr c.1, t19)) else (bnd (FX12_weightOf w1 c.2 t19) (fun v22 t23 => (some (Sum.inl ((mxI c.1 v22), (c.2 + 1)), t23)))))))
set_option maxHeartbeats 4000000 in
set_option maxRecDepth 100000 in
theorem SX12_bound_66_w (G : xG) (Gb : xMem) (w1 : Int32) (w2 : Int32) (r0 : Int32) (t0 : St) :
    ∀ (k : Nat) (c : Int32 × Int32) (σ : St) (r : Int32) (σ' : St), itr (SX12_bound_66 w1 w2) k c σ = some (r, σ') → (xW G mX12_bound (xrm 4 0 0) (xQ G (PQ r0 t0 Gb) 0 0) 96 [(0, .ref 149), (1, .int w1), (2, .int w2), (4, .int r)] [] (mem σ' Gb) 0 0) → xW G mX12_bound (xrm 4 0 0) (xQ G (PQ r0 t0 Gb) 0 0) 66 [(0, .ref 149), (1, .int w1), (2, .int w2), (4, .int c.1), (5, .int c.2)] [] (mem σ Gb) 0 0 := by
  intro k
  induction k with
  | zero =>
    intro c σ r σ' h
    exact absurd h (itr_zero _ _ _ _)
  | succ k ih =>
    intro c σ r σ' h HE
    obtain ⟨x, s1, hs, h⟩ := itr_succ h
    unfold SX12_bound_66 at hs
    refine xi_iload 4 dX12_bound_66 rfl ?_
    refine xi_aload_n 0 dX12_bound_68 rfl ?_
    refine xi_iload_n 1 dX12_bound_69 rfl ?_
    obtain ⟨v18, t19, k20, hs⟩ := bnd_some hs
    refine xi_callV (as := [.int w1]) (rest := [.int c.2]) dX12_bound_70 (KX12_points G Gb w1 _ _ _ k20) mkX12_points w_1108 ws_36 w_1106 (mem_get sh_149) rfl rfl rfl rfl (Nat.le_of_ble_eq_true rfl) (Nat.le_of_ble_eq_true rfl) (Nat.le_of_ble_eq_true rfl) (Nat.le_of_ble_eq_true rfl) (Nat.le_of_ble_eq_true rfl) ?_
    intro v M2 hz
    obtain ⟨rfl, rfl⟩ := hz
    show xW _ _ _ _ 73 _ [.int v18, .int c.2] (mem t19 Gb) _ _
    refine xi_icmp_ge (tgt := 96) dX12_bound_73 (by decide) (fun c21 => ?_) (fun c21 => ?_)
    · replace hs := ite_p c21 hs
      refine xi_sub (lv' := [(0, .ref 149), (1, .int w1), (2, .int w2), (4, .int c.1)]) [0, 1, 2, 3] rfl ?_
      obtain ⟨rfl, rfl⟩ := some_pair hs
      obtain ⟨rfl, rfl⟩ := some_pair h
      exact HE
    · replace hs := ite_n c21 hs
      refine xi_iload 3 dX12_bound_76 rfl ?_
      refine xi_aload_n 0 dX12_bound_78 rfl ?_
      refine xi_iload_n 1 dX12_bound_79 rfl ?_
      refine xi_iload 4 dX12_bound_80 rfl ?_
      obtain ⟨v22, t23, k24, hs⟩ := bnd_some hs
      refine xi_callV (as := [.int w1, .int c.2]) (rest := [.int c.1]) dX12_bound_82 (KX12_weightOf G Gb w1 c.2 _ _ _ k24) mkX12_weightOf w_1228 ws_57 w_1226 (mem_get sh_149) rfl rfl rfl rfl (Nat.le_of_ble_eq_true rfl) (Nat.le_of_ble_eq_true rfl) (Nat.le_of_ble_eq_true rfl) (Nat.le_of_ble_eq_true rfl) (Nat.le_of_ble_eq_true rfl) ?_
      intro v M2 hz
      obtain ⟨rfl, rfl⟩ := hz
      show xW _ _ _ _ 85 _ [.int v22, .int c.1] (mem t23 Gb) _ _
      refine xi_max (v := (mxI c.1 v22)) dX12_bound_85 w_1234 w_37 w_3 w_mmax (Nat.le_of_ble_eq_true rfl) (Nat.le_of_ble_eq_true rfl) (Nat.le_of_ble_eq_true rfl) (Nat.le_of_ble_eq_true rfl) (Nat.le_of_ble_eq_true rfl) rfl ?_
      refine xi_istore (lv' := [(4, .int (mxI c.1 v22)), (0, .ref 149), (1, .int w1), (2, .int w2), (5, .int c.2)]) dX12_bound_88 (by decide) rfl ?_
      refine xi_iinc (v := (c.2 + 1)) (lv' := [(5, .int (c.2 + 1)), (4, .int (mxI c.1 v22)), (0, .ref 149), (1, .int w1), (2, .int w2)]) 4 dX12_bound_90 rfl rfl (by decide) rfl ?_
      refine xi_goto (tgt := 66) dX12_bound_93 (by decide) ?_
      refine xi_sub (lv' := [(0, .ref 149), (1, .int w1), (2, .int w2), (4, .int (mxI c.1 v22)), (5, .int (c.2 + 1))]) [2, 3, 4, 1, 0] rfl ?_
      obtain ⟨rfl, rfl⟩ := some_pair hs
      exact ih ((mxI c.1 v22), (c.2 + 1)) t23 _ _ h HE
noncomputable def FX12_bound (a : Int32) (b : Int32) (c : Int32) (σ : St) : Option ((Int32) × St) :=
  (bnd (FX12_isNet a σ) (fun v1 t2 => (if v1 = (0 : Int32) then (some ((-2 : Int32), t2)) else (bnd (FX12_isMeasure b t2) (fun v6 t7 => (if v6 = (0 : Int32) then (some ((-2 : Int32), t7)) else (if b = (2 : Int32) then (if b = (2 : Int32) then (bnd (FX12_in c.toInt64 (0 : Int64) (1 : Int64) t7) (fun v45 t46 => (if v45 = (0 : Int32) then (some ((-2 : Int32), t46)) else (if c = (1 : Int32) then (bnd (FX12_balls a t46) (fun v65 t66 => (some (v65, t66)))) else (bnd (wh (SX12_bound_66 a b) ((0 : Int32), (0 : Int32)) t46) (fun e50 t51 => (if b = (0 : Int32) then (some (((e50 + (1 : Int32)) / (2 : Int32)), t51)) else (if b = (2 : Int32) then (bnd (FX12_degree a t51) (fun v60 t61 => (some (((v60 + (1 : Int32)) / (2 : Int32)), t61)))) else (bnd (FX12_core a t51) (fun v56 t57 => (some (v56, t57)))))))))))) else (bnd (FX12_in c.toInt64 (0 : Int64) (0 : Int64) t7) (fun v13 t14 => (if v13 = (0 : Int32) then (some ((-2 : Int32), t14)) else (if c = (1 : Int32) then (bnd (FX12_balls a t14) (fun v40 t41 => (some (v40, t41)))) else (bnd (wh (SX12_bound_66 a b) ((0 : Int32), (0 : Int32)) t14) (fun e25 t26 => (if b = (0 : Int32) then (some (((e25 + (1 : Int32)) / (2 : Int32)), t26)) else (if b = (2 : Int32) then (bnd (FX12_degree a t26) (fun v35 t36 => (some (((v35 + (1 : Int32)) / (2 : Int32)), t36)))) else (bnd (FX12_core a t26) (fun v31 t32 => (some (v31, t32))))))))))))) else (bnd (FX12_isGreatest b t7) (fun v70 t71 => (if v70 = (0 : Int32) then (some ((-2 : Int32), t71)) else (if b = (2 : Int32) then (bnd (FX12_in c.toInt64 (0 : Int64) (1 : Int64) t71) (fun v101 t102 => (if v101 = (0 : Int32) then (some ((-2 : Int32), t102)) else (if c = (1 : Int32) then (bnd (FX12_balls a t102) (fun v121 t122 => (some (v121, t122)))) else (bnd (wh (SX12_bound_66 a b) ((0 : Int32), (0 : Int32)) t102) (fun e106 t107 => (if b = (0 : Int32) then (some (((e106 + (1 : Int32)) / (2 : Int32)), t107)) else (if b = (2 : Int32) then (bnd (FX12_degree a t107) (fun v116 t117 => (some (((v116 + (1 : Int32)) / (2 : Int32)), t117)))) else (bnd (FX12_core a t107) (fun v112 t113 => (some (v112, t113)))))))))))) else (bnd (FX12_in c.toInt64 (0 : Int64) (0 : Int64) t71) (fun v76 t77 => (if v76 = (0 : Int32) then (some ((-2 : Int32), t77)) else (if c = (1 : Int32) then (bnd (FX12_balls a t77) (fun v96 t97 => (some (v96, t97)))) else (bnd (wh (SX12_bound_66 a b) ((0 : Int32), (0 : Int32)) t77) (fun e81 t82 => (if b = (0 : Int32) then (some (((e81 + (1 : Int32)) / (2 : Int32)), t82)) else (if b = (2 : Int32) then (bnd (FX12_degree a t82) (fun v91 t92 => (some (((v91 + (1 : Int32)) / (2 : Int32)), t92)))) else (bnd (FX12_core a t82) (fun v87 t88 => (some (v87, t88)))))))))))))))))))))))
set_option maxHeartbeats 4000000 in
set_option maxRecDepth 100000 in
theorem KX12_bound (G : xG) (Gb : xMem) (a : Int32) (b : Int32) (c : Int32) (σ : St) (r0 : Int32) (t0 : St) (hq : FX12_bound a b c σ = some (r0, t0)) : xC G mX12_bound 4 0 0 [.ref 149, .int a, .int b, .int c] (mem σ Gb) (PQ r0 t0 Gb) := by
  unfold FX12_bound at hq
  refine xC.of (by decide) (Nat.le_of_ble_eq_true rfl) ?_
  show xW _ _ _ _ 0 [(0, .ref 149), (1, .int a), (2, .int b), (3, .int c)] [] _ 0 0
  refine xi_aload_n 0 dX12_bound_0 rfl ?_
  refine xi_iload_n 1 dX12_bound_1 rfl ?_
  obtain ⟨v1, t2, k3, hq⟩ := bnd_some hq
  refine xi_callV (as := [.int a]) (rest := []) dX12_bound_2 (KX12_isNet G Gb a _ _ _ k3) mkX12_isNet w_1104 ws_35 w_1102 (mem_get sh_149) rfl rfl rfl rfl (Nat.le_of_ble_eq_true rfl) (Nat.le_of_ble_eq_true rfl) (Nat.le_of_ble_eq_true rfl) (Nat.le_of_ble_eq_true rfl) (Nat.le_of_ble_eq_true rfl) ?_
  intro v M2 hz
  obtain ⟨rfl, rfl⟩ := hz
  show xW _ _ _ _ 5 _ [.int v1] (mem t2 Gb) _ _
  refine xi_if_eq (tgt := 46) dX12_bound_5 (by decide) (fun c4 => ?_) (fun c4 => ?_)
  · replace hq := ite_p c4 hq
    refine xi_bipush (v := (-2)) dX12_bound_46 (by decide) ?_
    have r5 := some_pair hq
    obtain ⟨rfl, rfl⟩ := r5
    exact xi_iret dX12_bound_48 rfl rfl (Nat.le_of_ble_eq_true rfl) (Nat.le_of_ble_eq_true rfl) ⟨rfl, rfl⟩
  · replace hq := ite_n c4 hq
    refine xi_iload_n 2 dX12_bound_8 rfl ?_
    obtain ⟨v6, t7, k8, hq⟩ := bnd_some hq
    refine xi_callS (as := [.int b]) (rest := []) dX12_bound_9 (KX12_isMeasure G Gb b _ _ _ k8) mkX12_isMeasure w_1288 w_1287 rfl rfl (Nat.le_of_ble_eq_true rfl) (Nat.le_of_ble_eq_true rfl) (Nat.le_of_ble_eq_true rfl) (Nat.le_of_ble_eq_true rfl) (Nat.le_of_ble_eq_true rfl) ?_
    intro v M2 hz
    obtain ⟨rfl, rfl⟩ := hz
    show xW _ _ _ _ 12 _ [.int v6] (mem t7 Gb) _ _
    refine xi_if_eq (tgt := 46) dX12_bound_12 (by decide) (fun c9 => ?_) (fun c9 => ?_)
    · replace hq := ite_p c9 hq
      refine xi_bipush (v := (-2)) dX12_bound_46 (by decide) ?_
      have r10 := some_pair hq
      obtain ⟨rfl, rfl⟩ := r10
      exact xi_iret dX12_bound_48 rfl rfl (Nat.le_of_ble_eq_true rfl) (Nat.le_of_ble_eq_true rfl) ⟨rfl, rfl⟩
    · replace hq := ite_n c9 hq
      refine xi_iload_n 2 dX12_bound_15 rfl ?_
      refine xi_iconst (v := 2) dX12_bound_16 (by decide) ?_
      refine xi_icmp_eq (tgt := 27) dX12_bound_17 (by decide) (fun c11 => ?_) (fun c11 => ?_)
      · replace hq := ite_p c11 hq
        refine xi_iload_n 3 dX12_bound_27 rfl ?_
        refine xi_i2l dX12_bound_28 rfl ?_
        refine xi_lconst (v := 0) dX12_bound_29 (by decide) ?_
        refine xi_iload_n 2 dX12_bound_30 rfl ?_
        refine xi_iconst (v := 2) dX12_bound_31 (by decide) ?_
        refine xi_icmp_ne (tgt := 39) dX12_bound_32 (by decide) (fun c12 => ?_) (fun c12 => ?_)
        · replace hq := ite_n c12 hq
          refine xi_lconst (v := 0) dX12_bound_39 (by decide) ?_
          obtain ⟨v13, t14, k15, hq⟩ := bnd_some hq
          refine xi_callS (as := [.long c.toInt64, .long 0, .long 0]) (rest := []) dX12_bound_40 (KX12_in G Gb c.toInt64 (0 : Int64) (0 : Int64) _ _ _ k15) mkX12_in w_1100 w_1099 rfl rfl (Nat.le_of_ble_eq_true rfl) (Nat.le_of_ble_eq_true rfl) (Nat.le_of_ble_eq_true rfl) (Nat.le_of_ble_eq_true rfl) (Nat.le_of_ble_eq_true rfl) ?_
          intro v M2 hz
          obtain ⟨rfl, rfl⟩ := hz
          show xW _ _ _ _ 43 _ [.int v13] (mem t14 Gb) _ _
          refine xi_if_ne (tgt := 49) dX12_bound_43 (by decide) (fun c16 => ?_) (fun c16 => ?_)
          · replace hq := ite_n c16 hq
            refine xi_iload_n 3 dX12_bound_49 rfl ?_
            refine xi_iconst (v := 1) dX12_bound_50 (by decide) ?_
            refine xi_icmp_ne (tgt := 60) dX12_bound_51 (by decide) (fun c17 => ?_) (fun c17 => ?_)
            · replace hq := ite_n c17 hq
              refine xi_iconst (v := 0) dX12_bound_60 (by decide) ?_
              refine xi_istore (lv' := [(4, .int 0), (0, .ref 149), (1, .int a), (2, .int b), (3, .int c)]) dX12_bound_61 (by decide) rfl ?_
              refine xi_iconst (v := 0) dX12_bound_63 (by decide) ?_
              refine xi_istore (lv' := [(5, .int 0), (4, .int 0), (0, .ref 149), (1, .int a), (2, .int b), (3, .int c)]) dX12_bound_64 (by decide) rfl ?_
              refine xi_sub (lv' := [(0, .ref 149), (1, .int a), (2, .int b), (4, .int 0), (5, .int 0)]) [2, 3, 4, 1, 0] rfl ?_
              obtain ⟨e25, t26, k27, hq⟩ := bnd_some hq
              obtain ⟨n28, k27⟩ := wh_itr k27
              refine SX12_bound_66_w G Gb a b r0 t0 n28 ((0 : Int32), (0 : Int32)) t14 _ _ k27 ?_
              show xW G mX12_bound (xrm 4 0 0) (xQ G (PQ r0 t0 Gb) 0 0) 96 [(0, .ref 149), (1, .int a), (2, .int b), (4, .int e25)] [] (mem t26 Gb) 0 0
              refine xi_iload_n 2 dX12_bound_96 rfl ?_
              refine xi_if_ne (tgt := 109) dX12_bound_97 (by decide) (fun c29 => ?_) (fun c29 => ?_)
              · replace hq := ite_n c29 hq
                refine xi_iload_n 2 dX12_bound_109 rfl ?_
                refine xi_iconst (v := 2) dX12_bound_110 (by decide) ?_
                refine xi_icmp_ne (tgt := 126) dX12_bound_111 (by decide) (fun c30 => ?_) (fun c30 => ?_)
                · replace hq := ite_n c30 hq
                  refine xi_aload_n 0 dX12_bound_126 rfl ?_
                  refine xi_iload_n 1 dX12_bound_127 rfl ?_
                  obtain ⟨v31, t32, k33, hq⟩ := bnd_some hq
                  refine xi_callV (as := [.int a]) (rest := []) dX12_bound_128 (KX12_core G Gb a _ _ _ k33) mkX12_core w_1249 ws_62 w_1247 (mem_get sh_149) rfl rfl rfl rfl (Nat.le_of_ble_eq_true rfl) (Nat.le_of_ble_eq_true rfl) (Nat.le_of_ble_eq_true rfl) (Nat.le_of_ble_eq_true rfl) (Nat.le_of_ble_eq_true rfl) ?_
                  intro v M2 hz
                  obtain ⟨rfl, rfl⟩ := hz
                  show xW _ _ _ _ 131 _ [.int v31] (mem t32 Gb) _ _
                  have r34 := some_pair hq
                  obtain ⟨rfl, rfl⟩ := r34
                  exact xi_iret dX12_bound_131 rfl rfl (Nat.le_of_ble_eq_true rfl) (Nat.le_of_ble_eq_true rfl) ⟨rfl, rfl⟩
                · replace hq := ite_p c30 hq
                  refine xi_aload_n 0 dX12_bound_114 rfl ?_
                  refine xi_iload_n 1 dX12_bound_115 rfl ?_
                  obtain ⟨v35, t36, k37, hq⟩ := bnd_some hq
                  refine xi_callV (as := [.int a]) (rest := []) dX12_bound_116 (KX12_degree G Gb a _ _ _ k37) mkX12_degree w_1232 ws_58 w_1230 (mem_get sh_149) rfl rfl rfl rfl (Nat.le_of_ble_eq_true rfl) (Nat.le_of_ble_eq_true rfl) (Nat.le_of_ble_eq_true rfl) (Nat.le_of_ble_eq_true rfl) (Nat.le_of_ble_eq_true rfl) ?_
                  intro v M2 hz
                  obtain ⟨rfl, rfl⟩ := hz
                  show xW _ _ _ _ 119 _ [.int v35] (mem t36 Gb) _ _
                  refine xi_iconst (v := 1) dX12_bound_119 (by decide) ?_
                  refine xi_iadd (v := v35 + (1 : Int32)) dX12_bound_120 rfl ?_
                  refine xi_iconst (v := 2) dX12_bound_121 (by decide) ?_
                  refine xi_idiv (v := (v35 + (1 : Int32)) / (2 : Int32)) dX12_bound_122 (by decide) rfl ?_
                  refine xi_goto (tgt := 131) dX12_bound_123 (by decide) ?_
                  have r38 := some_pair hq
                  obtain ⟨rfl, rfl⟩ := r38
                  exact xi_iret dX12_bound_131 rfl rfl (Nat.le_of_ble_eq_true rfl) (Nat.le_of_ble_eq_true rfl) ⟨rfl, rfl⟩
              · replace hq := ite_p c29 hq
                refine xi_iload 3 dX12_bound_100 rfl ?_
                refine xi_iconst (v := 1) dX12_bound_102 (by decide) ?_
                refine xi_iadd (v := e25 + (1 : Int32)) dX12_bound_103 rfl ?_
                refine xi_iconst (v := 2) dX12_bound_104 (by decide) ?_
                refine xi_idiv (v := (e25 + (1 : Int32)) / (2 : Int32)) dX12_bound_105 (by decide) rfl ?_
                refine xi_goto (tgt := 131) dX12_bound_106 (by decide) ?_
                have r39 := some_pair hq
                obtain ⟨rfl, rfl⟩ := r39
                exact xi_iret dX12_bound_131 rfl rfl (Nat.le_of_ble_eq_true rfl) (Nat.le_of_ble_eq_true rfl) ⟨rfl, rfl⟩
            · replace hq := ite_p c17 hq
              refine xi_aload_n 0 dX12_bound_54 rfl ?_
              refine xi_iload_n 1 dX12_bound_55 rfl ?_
              obtain ⟨v40, t41, k42, hq⟩ := bnd_some hq
              refine xi_callV (as := [.int a]) (rest := []) dX12_bound_56 (KX12_balls G Gb a _ _ _ k42) mkX12_balls w_1420 ws_85 w_1418 (mem_get sh_149) rfl rfl rfl rfl (Nat.le_of_ble_eq_true rfl) (Nat.le_of_ble_eq_true rfl) (Nat.le_of_ble_eq_true rfl) (Nat.le_of_ble_eq_true rfl) (Nat.le_of_ble_eq_true rfl) ?_
              intro v M2 hz
              obtain ⟨rfl, rfl⟩ := hz
              show xW _ _ _ _ 59 _ [.int v40] (mem t41 Gb) _ _
              have r43 := some_pair hq
              obtain ⟨rfl, rfl⟩ := r43
              exact xi_iret dX12_bound_59 rfl rfl (Nat.le_of_ble_eq_true rfl) (Nat.le_of_ble_eq_true rfl) ⟨rfl, rfl⟩
          · replace hq := ite_p c16 hq
            refine xi_bipush (v := (-2)) dX12_bound_46 (by decide) ?_
            have r44 := some_pair hq
            obtain ⟨rfl, rfl⟩ := r44
            exact xi_iret dX12_bound_48 rfl rfl (Nat.le_of_ble_eq_true rfl) (Nat.le_of_ble_eq_true rfl) ⟨rfl, rfl⟩
        · replace hq := ite_p c12 hq
          refine xi_lconst (v := 1) dX12_bound_35 (by decide) ?_
          refine xi_goto (tgt := 40) dX12_bound_36 (by decide) ?_
          obtain ⟨v45, t46, k47, hq⟩ := bnd_some hq
          refine xi_callS (as := [.long c.toInt64, .long 0, .long 1]) (rest := []) dX12_bound_40 (KX12_in G Gb c.toInt64 (0 : Int64) (1 : Int64) _ _ _ k47) mkX12_in w_1100 w_1099 rfl rfl (Nat.le_of_ble_eq_true rfl) (Nat.le_of_ble_eq_true rfl) (Nat.le_of_ble_eq_true rfl) (Nat.le_of_ble_eq_true rfl) (Nat.le_of_ble_eq_true rfl) ?_
          intro v M2 hz
          obtain ⟨rfl, rfl⟩ := hz
          show xW _ _ _ _ 43 _ [.int v45] (mem t46 Gb) _ _
          refine xi_if_ne (tgt := 49) dX12_bound_43 (by decide) (fun c48 => ?_) (fun c48 => ?_)
          · replace hq := ite_n c48 hq
            refine xi_iload_n 3 dX12_bound_49 rfl ?_
            refine xi_iconst (v := 1) dX12_bound_50 (by decide) ?_
            refine xi_icmp_ne (tgt := 60) dX12_bound_51 (by decide) (fun c49 => ?_) (fun c49 => ?_)
            · replace hq := ite_n c49 hq
              refine xi_iconst (v := 0) dX12_bound_60 (by decide) ?_
              refine xi_istore (lv' := [(4, .int 0), (0, .ref 149), (1, .int a), (2, .int b), (3, .int c)]) dX12_bound_61 (by decide) rfl ?_
              refine xi_iconst (v := 0) dX12_bound_63 (by decide) ?_
              refine xi_istore (lv' := [(5, .int 0), (4, .int 0), (0, .ref 149), (1, .int a), (2, .int b), (3, .int c)]) dX12_bound_64 (by decide) rfl ?_
              refine xi_sub (lv' := [(0, .ref 149), (1, .int a), (2, .int b), (4, .int 0), (5, .int 0)]) [2, 3, 4, 1, 0] rfl ?_
              obtain ⟨e50, t51, k52, hq⟩ := bnd_some hq
              obtain ⟨n53, k52⟩ := wh_itr k52
              refine SX12_bound_66_w G Gb a b r0 t0 n53 ((0 : Int32), (0 : Int32)) t46 _ _ k52 ?_
              show xW G mX12_bound (xrm 4 0 0) (xQ G (PQ r0 t0 Gb) 0 0) 96 [(0, .ref 149), (1, .int a), (2, .int b), (4, .int e50)] [] (mem t51 Gb) 0 0
              refine xi_iload_n 2 dX12_bound_96 rfl ?_
              refine xi_if_ne (tgt := 109) dX12_bound_97 (by decide) (fun c54 => ?_) (fun c54 => ?_)
              · replace hq := ite_n c54 hq
                refine xi_iload_n 2 dX12_bound_109 rfl ?_
                refine xi_iconst (v := 2) dX12_bound_110 (by decide) ?_
                refine xi_icmp_ne (tgt := 126) dX12_bound_111 (by decide) (fun c55 => ?_) (fun c55 => ?_)
                · replace hq := ite_n c55 hq
                  refine xi_aload_n 0 dX12_bound_126 rfl ?_
                  refine xi_iload_n 1 dX12_bound_127 rfl ?_
                  obtain ⟨v56, t57, k58, hq⟩ := bnd_some hq
                  refine xi_callV (as := [.int a]) (rest := []) dX12_bound_128 (KX12_core G Gb a _ _ _ k58) mkX12_core w_1249 ws_62 w_1247 (mem_get sh_149) rfl rfl rfl rfl (Nat.le_of_ble_eq_true rfl) (Nat.le_of_ble_eq_true rfl) (Nat.le_of_ble_eq_true rfl) (Nat.le_of_ble_eq_true rfl) (Nat.le_of_ble_eq_true rfl) ?_
                  intro v M2 hz
                  obtain ⟨rfl, rfl⟩ := hz
                  show xW _ _ _ _ 131 _ [.int v56] (mem t57 Gb) _ _
                  have r59 := some_pair hq
                  obtain ⟨rfl, rfl⟩ := r59
                  exact xi_iret dX12_bound_131 rfl rfl (Nat.le_of_ble_eq_true rfl) (Nat.le_of_ble_eq_true rfl) ⟨rfl, rfl⟩
                · replace hq := ite_p c55 hq
                  refine xi_aload_n 0 dX12_bound_114 rfl ?_
                  refine xi_iload_n 1 dX12_bound_115 rfl ?_
                  obtain ⟨v60, t61, k62, hq⟩ := bnd_some hq
                  refine xi_callV (as := [.int a]) (rest := []) dX12_bound_116 (KX12_degree G Gb a _ _ _ k62) mkX12_degree w_1232 ws_58 w_1230 (mem_get sh_149) rfl rfl rfl rfl (Nat.le_of_ble_eq_true rfl) (Nat.le_of_ble_eq_true rfl) (Nat.le_of_ble_eq_true rfl) (Nat.le_of_ble_eq_true rfl) (Nat.le_of_ble_eq_true rfl) ?_
                  intro v M2 hz
                  obtain ⟨rfl, rfl⟩ := hz
                  show xW _ _ _ _ 119 _ [.int v60] (mem t61 Gb) _ _
                  refine xi_iconst (v := 1) dX12_bound_119 (by decide) ?_
                  refine xi_iadd (v := v60 + (1 : Int32)) dX12_bound_120 rfl ?_
                  refine xi_iconst (v := 2) dX12_bound_121 (by decide) ?_
                  refine xi_idiv (v := (v60 + (1 : Int32)) / (2 : Int32)) dX12_bound_122 (by decide) rfl ?_
                  refine xi_goto (tgt := 131) dX12_bound_123 (by decide) ?_
                  have r63 := some_pair hq
                  obtain ⟨rfl, rfl⟩ := r63
                  exact xi_iret dX12_bound_131 rfl rfl (Nat.le_of_ble_eq_true rfl) (Nat.le_of_ble_eq_true rfl) ⟨rfl, rfl⟩
              · replace hq := ite_p c54 hq
                refine xi_iload 3 dX12_bound_100 rfl ?_
                refine xi_iconst (v := 1) dX12_bound_102 (by decide) ?_
                refine xi_iadd (v := e50 + (1 : Int32)) dX12_bound_103 rfl ?_
                refine xi_iconst (v := 2) dX12_bound_104 (by decide) ?_
                refine xi_idiv (v := (e50 + (1 : Int32)) / (2 : Int32)) dX12_bound_105 (by decide) rfl ?_
                refine xi_goto (tgt := 131) dX12_bound_106 (by decide) ?_
                have r64 := some_pair hq
                obtain ⟨rfl, rfl⟩ := r64
                exact xi_iret dX12_bound_131 rfl rfl (Nat.le_of_ble_eq_true rfl) (Nat.le_of_ble_eq_true rfl) ⟨rfl, rfl⟩
            · replace hq := ite_p c49 hq
              refine xi_aload_n 0 dX12_bound_54 rfl ?_
              refine xi_iload_n 1 dX12_bound_55 rfl ?_
              obtain ⟨v65, t66, k67, hq⟩ := bnd_some hq
              refine xi_callV (as := [.int a]) (rest := []) dX12_bound_56 (KX12_balls G Gb a _ _ _ k67) mkX12_balls w_1420 ws_85 w_1418 (mem_get sh_149) rfl rfl rfl rfl (Nat.le_of_ble_eq_true rfl) (Nat.le_of_ble_eq_true rfl) (Nat.le_of_ble_eq_true rfl) (Nat.le_of_ble_eq_true rfl) (Nat.le_of_ble_eq_true rfl) ?_
              intro v M2 hz
              obtain ⟨rfl, rfl⟩ := hz
              show xW _ _ _ _ 59 _ [.int v65] (mem t66 Gb) _ _
              have r68 := some_pair hq
              obtain ⟨rfl, rfl⟩ := r68
              exact xi_iret dX12_bound_59 rfl rfl (Nat.le_of_ble_eq_true rfl) (Nat.le_of_ble_eq_true rfl) ⟨rfl, rfl⟩
          · replace hq := ite_p c48 hq
            refine xi_bipush (v := (-2)) dX12_bound_46 (by decide) ?_
            have r69 := some_pair hq
            obtain ⟨rfl, rfl⟩ := r69
            exact xi_iret dX12_bound_48 rfl rfl (Nat.le_of_ble_eq_true rfl) (Nat.le_of_ble_eq_true rfl) ⟨rfl, rfl⟩
      · replace hq := ite_n c11 hq
        refine xi_iload_n 2 dX12_bound_20 rfl ?_
        obtain ⟨v70, t71, k72, hq⟩ := bnd_some hq
        refine xi_callS (as := [.int b]) (rest := []) dX12_bound_21 (KX12_isGreatest G Gb b _ _ _ k72) mkX12_isGreatest w_1322 w_1321 rfl rfl (Nat.le_of_ble_eq_true rfl) (Nat.le_of_ble_eq_true rfl) (Nat.le_of_ble_eq_true rfl) (Nat.le_of_ble_eq_true rfl) (Nat.le_of_ble_eq_true rfl) ?_
        intro v M2 hz
        obtain ⟨rfl, rfl⟩ := hz
        show xW _ _ _ _ 24 _ [.int v70] (mem t71 Gb) _ _
        refine xi_if_eq (tgt := 46) dX12_bound_24 (by decide) (fun c73 => ?_) (fun c73 => ?_)
        · replace hq := ite_p c73 hq
          refine xi_bipush (v := (-2)) dX12_bound_46 (by decide) ?_
          have r74 := some_pair hq
          obtain ⟨rfl, rfl⟩ := r74
          exact xi_iret dX12_bound_48 rfl rfl (Nat.le_of_ble_eq_true rfl) (Nat.le_of_ble_eq_true rfl) ⟨rfl, rfl⟩
        · replace hq := ite_n c73 hq
          refine xi_iload_n 3 dX12_bound_27 rfl ?_
          refine xi_i2l dX12_bound_28 rfl ?_
          refine xi_lconst (v := 0) dX12_bound_29 (by decide) ?_
          refine xi_iload_n 2 dX12_bound_30 rfl ?_
          refine xi_iconst (v := 2) dX12_bound_31 (by decide) ?_
          refine xi_icmp_ne (tgt := 39) dX12_bound_32 (by decide) (fun c75 => ?_) (fun c75 => ?_)
          · replace hq := ite_n c75 hq
            refine xi_lconst (v := 0) dX12_bound_39 (by decide) ?_
            obtain ⟨v76, t77, k78, hq⟩ := bnd_some hq
            refine xi_callS (as := [.long c.toInt64, .long 0, .long 0]) (rest := []) dX12_bound_40 (KX12_in G Gb c.toInt64 (0 : Int64) (0 : Int64) _ _ _ k78) mkX12_in w_1100 w_1099 rfl rfl (Nat.le_of_ble_eq_true rfl) (Nat.le_of_ble_eq_true rfl) (Nat.le_of_ble_eq_true rfl) (Nat.le_of_ble_eq_true rfl) (Nat.le_of_ble_eq_true rfl) ?_
            intro v M2 hz
            obtain ⟨rfl, rfl⟩ := hz
            show xW _ _ _ _ 43 _ [.int v76] (mem t77 Gb) _ _
            refine xi_if_ne (tgt := 49) dX12_bound_43 (by decide) (fun c79 => ?_) (fun c79 => ?_)
            · replace hq := ite_n c79 hq
              refine xi_iload_n 3 dX12_bound_49 rfl ?_
              refine xi_iconst (v := 1) dX12_bound_50 (by decide) ?_
              refine xi_icmp_ne (tgt := 60) dX12_bound_51 (by decide) (fun c80 => ?_) (fun c80 => ?_)
              · replace hq := ite_n c80 hq
                refine xi_iconst (v := 0) dX12_bound_60 (by decide) ?_
                refine xi_istore (lv' := [(4, .int 0), (0, .ref 149), (1, .int a), (2, .int b), (3, .int c)]) dX12_bound_61 (by decide) rfl ?_
                refine xi_iconst (v := 0) dX12_bound_63 (by decide) ?_
                refine xi_istore (lv' := [(5, .int 0), (4, .int 0), (0, .ref 149), (1, .int a), (2, .int b), (3, .int c)]) dX12_bound_64 (by decide) rfl ?_
                refine xi_sub (lv' := [(0, .ref 149), (1, .int a), (2, .int b), (4, .int 0), (5, .int 0)]) [2, 3, 4, 1, 0] rfl ?_
                obtain ⟨e81, t82, k83, hq⟩ := bnd_some hq
                obtain ⟨n84, k83⟩ := wh_itr k83
                refine SX12_bound_66_w G Gb a b r0 t0 n84 ((0 : Int32), (0 : Int32)) t77 _ _ k83 ?_
                show xW G mX12_bound (xrm 4 0 0) (xQ G (PQ r0 t0 Gb) 0 0) 96 [(0, .ref 149), (1, .int a), (2, .int b), (4, .int e81)] [] (mem t82 Gb) 0 0
                refine xi_iload_n 2 dX12_bound_96 rfl ?_
                refine xi_if_ne (tgt := 109) dX12_bound_97 (by decide) (fun c85 => ?_) (fun c85 => ?_)
                · replace hq := ite_n c85 hq
                  refine xi_iload_n 2 dX12_bound_109 rfl ?_
                  refine xi_iconst (v := 2) dX12_bound_110 (by decide) ?_
                  refine xi_icmp_ne (tgt := 126) dX12_bound_111 (by decide) (fun c86 => ?_) (fun c86 => ?_)
                  · replace hq := ite_n c86 hq
                    refine xi_aload_n 0 dX12_bound_126 rfl ?_
                    refine xi_iload_n 1 dX12_bound_127 rfl ?_
                    obtain ⟨v87, t88, k89, hq⟩ := bnd_some hq
                    refine xi_callV (as := [.int a]) (rest := []) dX12_bound_128 (KX12_core G Gb a _ _ _ k89) mkX12_core w_1249 ws_62 w_1247 (mem_get sh_149) rfl rfl rfl rfl (Nat.le_of_ble_eq_true rfl) (Nat.le_of_ble_eq_true rfl) (Nat.le_of_ble_eq_true rfl) (Nat.le_of_ble_eq_true rfl) (Nat.le_of_ble_eq_true rfl) ?_
                    intro v M2 hz
                    obtain ⟨rfl, rfl⟩ := hz
                    show xW _ _ _ _ 131 _ [.int v87] (mem t88 Gb) _ _
                    have r90 := some_pair hq
                    obtain ⟨rfl, rfl⟩ := r90
                    exact xi_iret dX12_bound_131 rfl rfl (Nat.le_of_ble_eq_true rfl) (Nat.le_of_ble_eq_true rfl) ⟨rfl, rfl⟩
                  · replace hq := ite_p c86 hq
                    refine xi_aload_n 0 dX12_bound_114 rfl ?_
                    refine xi_iload_n 1 dX12_bound_115 rfl ?_
                    obtain ⟨v91, t92, k93, hq⟩ := bnd_some hq
                    refine xi_callV (as := [.int a]) (rest := []) dX12_bound_116 (KX12_degree G Gb a _ _ _ k93) mkX12_degree w_1232 ws_58 w_1230 (mem_get sh_149) rfl rfl rfl rfl (Nat.le_of_ble_eq_true rfl) (Nat.le_of_ble_eq_true rfl) (Nat.le_of_ble_eq_true rfl) (Nat.le_of_ble_eq_true rfl) (Nat.le_of_ble_eq_true rfl) ?_
                    intro v M2 hz
                    obtain ⟨rfl, rfl⟩ := hz
                    show xW _ _ _ _ 119 _ [.int v91] (mem t92 Gb) _ _
                    refine xi_iconst (v := 1) dX12_bound_119 (by decide) ?_
                    refine xi_iadd (v := v91 + (1 : Int32)) dX12_bound_120 rfl ?_
                    refine xi_iconst (v := 2) dX12_bound_121 (by decide) ?_
                    refine xi_idiv (v := (v91 + (1 : Int32)) / (2 : Int32)) dX12_bound_122 (by decide) rfl ?_
                    refine xi_goto (tgt := 131) dX12_bound_123 (by decide) ?_
                    have r94 := some_pair hq
                    obtain ⟨rfl, rfl⟩ := r94
                    exact xi_iret dX12_bound_131 rfl rfl (Nat.le_of_ble_eq_true rfl) (Nat.le_of_ble_eq_true rfl) ⟨rfl, rfl⟩
                · replace hq := ite_p c85 hq
                  refine xi_iload 3 dX12_bound_100 rfl ?_
                  refine xi_iconst (v := 1) dX12_bound_102 (by decide) ?_
                  refine xi_iadd (v := e81 + (1 : Int32)) dX12_bound_103 rfl ?_
                  refine xi_iconst (v := 2) dX12_bound_104 (by decide) ?_
                  refine xi_idiv (v := (e81 + (1 : Int32)) / (2 : Int32)) dX12_bound_105 (by decide) rfl ?_
                  refine xi_goto (tgt := 131) dX12_bound_106 (by decide) ?_
                  have r95 := some_pair hq
                  obtain ⟨rfl, rfl⟩ := r95
                  exact xi_iret dX12_bound_131 rfl rfl (Nat.le_of_ble_eq_true rfl) (Nat.le_of_ble_eq_true rfl) ⟨rfl, rfl⟩
              · replace hq := ite_p c80 hq
                refine xi_aload_n 0 dX12_bound_54 rfl ?_
                refine xi_iload_n 1 dX12_bound_55 rfl ?_
                obtain ⟨v96, t97, k98, hq⟩ := bnd_some hq
                refine xi_callV (as := [.int a]) (rest := []) dX12_bound_56 (KX12_balls G Gb a _ _ _ k98) mkX12_balls w_1420 ws_85 w_1418 (mem_get sh_149) rfl rfl rfl rfl (Nat.le_of_ble_eq_true rfl) (Nat.le_of_ble_eq_true rfl) (Nat.le_of_ble_eq_true rfl) (Nat.le_of_ble_eq_true rfl) (Nat.le_of_ble_eq_true rfl) ?_
                intro v M2 hz
                obtain ⟨rfl, rfl⟩ := hz
                show xW _ _ _ _ 59 _ [.int v96] (mem t97 Gb) _ _
                have r99 := some_pair hq
                obtain ⟨rfl, rfl⟩ := r99
                exact xi_iret dX12_bound_59 rfl rfl (Nat.le_of_ble_eq_true rfl) (Nat.le_of_ble_eq_true rfl) ⟨rfl, rfl⟩
            · replace hq := ite_p c79 hq
              refine xi_bipush (v := (-2)) dX12_bound_46 (by decide) ?_
              have r100 := some_pair hq
              obtain ⟨rfl, rfl⟩ := r100
              exact xi_iret dX12_bound_48 rfl rfl (Nat.le_of_ble_eq_true rfl) (Nat.le_of_ble_eq_true rfl) ⟨rfl, rfl⟩
          · replace hq := ite_p c75 hq
            refine xi_lconst (v := 1) dX12_bound_35 (by decide) ?_
            refine xi_goto (tgt := 40) dX12_bound_36 (by decide) ?_
            obtain ⟨v101, t102, k103, hq⟩ := bnd_some hq
            refine xi_callS (as := [.long c.toInt64, .long 0, .long 1]) (rest := []) dX12_bound_40 (KX12_in G Gb c.toInt64 (0 : Int64) (1 : Int64) _ _ _ k103) mkX12_in w_1100 w_1099 rfl rfl (Nat.le_of_ble_eq_true rfl) (Nat.le_of_ble_eq_true rfl) (Nat.le_of_ble_eq_true rfl) (Nat.le_of_ble_eq_true rfl) (Nat.le_of_ble_eq_true rfl) ?_
            intro v M2 hz
            obtain ⟨rfl, rfl⟩ := hz
            show xW _ _ _ _ 43 _ [.int v101] (mem t102 Gb) _ _
            refine xi_if_ne (tgt := 49) dX12_bound_43 (by decide) (fun c104 => ?_) (fun c104 => ?_)
            · replace hq := ite_n c104 hq
              refine xi_iload_n 3 dX12_bound_49 rfl ?_
              refine xi_iconst (v := 1) dX12_bound_50 (by decide) ?_
              refine xi_icmp_ne (tgt := 60) dX12_bound_51 (by decide) (fun c105 => ?_) (fun c105 => ?_)
              · replace hq := ite_n c105 hq
                refine xi_iconst (v := 0) dX12_bound_60 (by decide) ?_
                refine xi_istore (lv' := [(4, .int 0), (0, .ref 149), (1, .int a), (2, .int b), (3, .int c)]) dX12_bound_61 (by decide) rfl ?_
                refine xi_iconst (v := 0) dX12_bound_63 (by decide) ?_
                refine xi_istore (lv' := [(5, .int 0), (4, .int 0), (0, .ref 149), (1, .int a), (2, .int b), (3, .int c)]) dX12_bound_64 (by decide) rfl ?_
                refine xi_sub (lv' := [(0, .ref 149), (1, .int a), (2, .int b), (4, .int 0), (5, .int 0)]) [2, 3, 4, 1, 0] rfl ?_
                obtain ⟨e106, t107, k108, hq⟩ := bnd_some hq
                obtain ⟨n109, k108⟩ := wh_itr k108
                refine SX12_bound_66_w G Gb a b r0 t0 n109 ((0 : Int32), (0 : Int32)) t102 _ _ k108 ?_
                show xW G mX12_bound (xrm 4 0 0) (xQ G (PQ r0 t0 Gb) 0 0) 96 [(0, .ref 149), (1, .int a), (2, .int b), (4, .int e106)] [] (mem t107 Gb) 0 0
                refine xi_iload_n 2 dX12_bound_96 rfl ?_
                refine xi_if_ne (tgt := 109) dX12_bound_97 (by decide) (fun c110 => ?_) (fun c110 => ?_)
                · replace hq := ite_n c110 hq
                  refine xi_iload_n 2 dX12_bound_109 rfl ?_
                  refine xi_iconst (v := 2) dX12_bound_110 (by decide) ?_
                  refine xi_icmp_ne (tgt := 126) dX12_bound_111 (by decide) (fun c111 => ?_) (fun c111 => ?_)
                  · replace hq := ite_n c111 hq
                    refine xi_aload_n 0 dX12_bound_126 rfl ?_
                    refine xi_iload_n 1 dX12_bound_127 rfl ?_
                    obtain ⟨v112, t113, k114, hq⟩ := bnd_some hq
                    refine xi_callV (as := [.int a]) (rest := []) dX12_bound_128 (KX12_core G Gb a _ _ _ k114) mkX12_core w_1249 ws_62 w_1247 (mem_get sh_149) rfl rfl rfl rfl (Nat.le_of_ble_eq_true rfl) (Nat.le_of_ble_eq_true rfl) (Nat.le_of_ble_eq_true rfl) (Nat.le_of_ble_eq_true rfl) (Nat.le_of_ble_eq_true rfl) ?_
                    intro v M2 hz
                    obtain ⟨rfl, rfl⟩ := hz
                    show xW _ _ _ _ 131 _ [.int v112] (mem t113 Gb) _ _
                    have r115 := some_pair hq
                    obtain ⟨rfl, rfl⟩ := r115
                    exact xi_iret dX12_bound_131 rfl rfl (Nat.le_of_ble_eq_true rfl) (Nat.le_of_ble_eq_true rfl) ⟨rfl, rfl⟩
                  · replace hq := ite_p c111 hq
                    refine xi_aload_n 0 dX12_bound_114 rfl ?_
                    refine xi_iload_n 1 dX12_bound_115 rfl ?_
                    obtain ⟨v116, t117, k118, hq⟩ := bnd_some hq
                    refine xi_callV (as := [.int a]) (rest := []) dX12_bound_116 (KX12_degree G Gb a _ _ _ k118) mkX12_degree w_1232 ws_58 w_1230 (mem_get sh_149) rfl rfl rfl rfl (Nat.le_of_ble_eq_true rfl) (Nat.le_of_ble_eq_true rfl) (Nat.le_of_ble_eq_true rfl) (Nat.le_of_ble_eq_true rfl) (Nat.le_of_ble_eq_true rfl) ?_
                    intro v M2 hz
                    obtain ⟨rfl, rfl⟩ := hz
                    show xW _ _ _ _ 119 _ [.int v116] (mem t117 Gb) _ _
                    refine xi_iconst (v := 1) dX12_bound_119 (by decide) ?_
                    refine xi_iadd (v := v116 + (1 : Int32)) dX12_bound_120 rfl ?_
                    refine xi_iconst (v := 2) dX12_bound_121 (by decide) ?_
                    refine xi_idiv (v := (v116 + (1 : Int32)) / (2 : Int32)) dX12_bound_122 (by decide) rfl ?_
                    refine xi_goto (tgt := 131) dX12_bound_123 (by decide) ?_
                    have r119 := some_pair hq
                    obtain ⟨rfl, rfl⟩ := r119
                    exact xi_iret dX12_bound_131 rfl rfl (Nat.le_of_ble_eq_true rfl) (Nat.le_of_ble_eq_true rfl) ⟨rfl, rfl⟩
                · replace hq := ite_p c110 hq
                  refine xi_iload 3 dX12_bound_100 rfl ?_
                  refine xi_iconst (v := 1) dX12_bound_102 (by decide) ?_
                  refine xi_iadd (v := e106 + (1 : Int32)) dX12_bound_103 rfl ?_
                  refine xi_iconst (v := 2) dX12_bound_104 (by decide) ?_
                  refine xi_idiv (v := (e106 + (1 : Int32)) / (2 : Int32)) dX12_bound_105 (by decide) rfl ?_
                  refine xi_goto (tgt := 131) dX12_bound_106 (by decide) ?_
                  have r120 := some_pair hq
                  obtain ⟨rfl, rfl⟩ := r120
                  exact xi_iret dX12_bound_131 rfl rfl (Nat.le_of_ble_eq_true rfl) (Nat.le_of_ble_eq_true rfl) ⟨rfl, rfl⟩
              · replace hq := ite_p c105 hq
                refine xi_aload_n 0 dX12_bound_54 rfl ?_
                refine xi_iload_n 1 dX12_bound_55 rfl ?_
                obtain ⟨v121, t122, k123, hq⟩ := bnd_some hq
                refine xi_callV (as := [.int a]) (rest := []) dX12_bound_56 (KX12_balls G Gb a _ _ _ k123) mkX12_balls w_1420 ws_85 w_1418 (mem_get sh_149) rfl rfl rfl rfl (Nat.le_of_ble_eq_true rfl) (Nat.le_of_ble_eq_true rfl) (Nat.le_of_ble_eq_true rfl) (Nat.le_of_ble_eq_true rfl) (Nat.le_of_ble_eq_true rfl) ?_
                intro v M2 hz
                obtain ⟨rfl, rfl⟩ := hz
                show xW _ _ _ _ 59 _ [.int v121] (mem t122 Gb) _ _
                have r124 := some_pair hq
                obtain ⟨rfl, rfl⟩ := r124
                exact xi_iret dX12_bound_59 rfl rfl (Nat.le_of_ble_eq_true rfl) (Nat.le_of_ble_eq_true rfl) ⟨rfl, rfl⟩
            · replace hq := ite_p c104 hq
              refine xi_bipush (v := (-2)) dX12_bound_46 (by decide) ?_
              have r125 := some_pair hq
              obtain ⟨rfl, rfl⟩ := r125
              exact xi_iret dX12_bound_48 rfl rfl (Nat.le_of_ble_eq_true rfl) (Nat.le_of_ble_eq_true rfl) ⟨rfl, rfl⟩
noncomputable def SX12_count_4 (w1 : Int32) (c : Int32 × Int32) (σ : St) : Option (((Int32 × Int32) ⊕ (Int32)) × St) :=
  (if (3 : Int32) ≤ c.2 then (some (Sum.inr c.1, σ)) else (bnd (FX12_isNet c.2 σ) (fun v2 t3 => (bnd (if v2 = (0 : Int32) then (some ((0 : Int32), t3)) else (some ((shl (1 : Int32) c.2), t3))) (fun v6 t7 => (some (Sum.inl ((c.1 ||| v6), (c.2 + 1)), t7)))))))
set_option maxHeartbeats 4000000 in
set_option maxRecDepth 100000 in
theorem SX12_count_4_w (G : xG) (Gb : xMem) (w1 : Int32) (r0 : Int32) (t0 : St) :
    ∀ (k : Nat) (c : Int32 × Int32) (σ : St) (r : Int32) (σ' : St), itr (SX12_count_4 w1) k c σ = some (r, σ') → (xW G mX12_count (xrm 3 0 0) (xQ G (PQ r0 t0 Gb) 0 0) 33 [(0, .ref 149), (1, .int w1), (2, .int r)] [] (mem σ' Gb) 0 0) → xW G mX12_count (xrm 3 0 0) (xQ G (PQ r0 t0 Gb) 0 0) 4 [(0, .ref 149), (1, .int w1), (2, .int c.1), (3, .int c.2)] [] (mem σ Gb) 0 0 := by
  intro k
  induction k with
  | zero =>
    intro c σ r σ' h
    exact absurd h (itr_zero _ _ _ _)
  | succ k ih =>
    intro c σ r σ' h HE
    obtain ⟨x, s1, hs, h⟩ := itr_succ h
    unfold SX12_count_4 at hs
    refine xi_iload_n 3 dX12_count_4 rfl ?_
    refine xi_iconst (v := 3) dX12_count_5 (by decide) ?_
    refine xi_icmp_ge (tgt := 33) dX12_count_6 (by decide) (fun c1 => ?_) (fun c1 => ?_)
    · replace hs := ite_p c1 hs
      refine xi_sub (lv' := [(0, .ref 149), (1, .int w1), (2, .int c.1)]) [0, 1, 2] rfl ?_
      obtain ⟨rfl, rfl⟩ := some_pair hs
      obtain ⟨rfl, rfl⟩ := some_pair h
      exact HE
    · replace hs := ite_n c1 hs
      refine xi_iload_n 2 dX12_count_9 rfl ?_
      refine xi_aload_n 0 dX12_count_10 rfl ?_
      refine xi_iload_n 3 dX12_count_11 rfl ?_
      obtain ⟨v2, t3, k4, hs⟩ := bnd_some hs
      refine xi_callV (as := [.int c.2]) (rest := [.int c.1]) dX12_count_12 (KX12_isNet G Gb c.2 _ _ _ k4) mkX12_isNet w_1104 ws_35 w_1102 (mem_get sh_149) rfl rfl rfl rfl (Nat.le_of_ble_eq_true rfl) (Nat.le_of_ble_eq_true rfl) (Nat.le_of_ble_eq_true rfl) (Nat.le_of_ble_eq_true rfl) (Nat.le_of_ble_eq_true rfl) ?_
      intro v M2 hz
      obtain ⟨rfl, rfl⟩ := hz
      show xW _ _ _ _ 15 _ [.int v2, .int c.1] (mem t3 Gb) _ _
      obtain ⟨v6, t7, m8, hs⟩ := bnd_some hs
      have key9 : xW G mX12_count (xrm 3 0 0) (xQ G (PQ r0 t0 Gb) 0 0) 25 [(0, .ref 149), (1, .int w1), (3, .int c.2)] [.int v6, .int c.1] (mem t7 Gb) 0 0 := by
        refine xi_ior (v := c.1 ||| v6) dX12_count_25 rfl ?_
        refine xi_istore_n (lv' := [(2, .int (c.1 ||| v6)), (0, .ref 149), (1, .int w1), (3, .int c.2)]) dX12_count_26 (by decide) rfl ?_
        refine xi_iinc (v := (c.2 + 1)) (lv' := [(3, .int (c.2 + 1)), (2, .int (c.1 ||| v6)), (0, .ref 149), (1, .int w1)]) 3 dX12_count_27 rfl rfl (by decide) rfl ?_
        refine xi_goto (tgt := 4) dX12_count_30 (by decide) ?_
        refine xi_sub (lv' := [(0, .ref 149), (1, .int w1), (2, .int (c.1 ||| v6)), (3, .int (c.2 + 1))]) [2, 3, 1, 0] rfl ?_
        obtain ⟨rfl, rfl⟩ := some_pair hs
        exact ih ((c.1 ||| v6), (c.2 + 1)) t7 _ _ h HE
      refine xi_if_eq (tgt := 24) dX12_count_15 (by decide) (fun c5 => ?_) (fun c5 => ?_)
      · replace m8 := ite_p c5 m8
        refine xi_iconst (v := 0) dX12_count_24 (by decide) ?_
        obtain ⟨rfl, rfl⟩ := some_pair m8
        refine xi_sub (lv' := [(0, .ref 149), (1, .int w1), (3, .int c.2)]) [0, 1, 3] rfl ?_
        exact key9
      · replace m8 := ite_n c5 m8
        refine xi_iconst (v := 1) dX12_count_18 (by decide) ?_
        refine xi_iload_n 3 dX12_count_19 rfl ?_
        refine xi_ishl (v := shl (1 : Int32) c.2) dX12_count_20 rfl ?_
        refine xi_goto (tgt := 25) dX12_count_21 (by decide) ?_
        obtain ⟨rfl, rfl⟩ := some_pair m8
        refine xi_sub (lv' := [(0, .ref 149), (1, .int w1), (3, .int c.2)]) [0, 1, 3] rfl ?_
        exact key9
noncomputable def FX12_count (a : Int32) (σ : St) : Option ((Int32) × St) :=
  (bnd (wh (SX12_count_4 a) ((0 : Int32), (0 : Int32)) σ) (fun e10 t11 => (if a = 0 then (some (e10, t11)) else (if a = 1 then (rdb t11 149 (3) (fun v17 => (some (v17, t11)))) else (if a = 2 then (rdb t11 149 (5) (fun v21 => (some (v21, t11)))) else (if a = 3 then (rdb t11 149 (25) (fun v25 => (some (v25, t11)))) else (some ((-1 : Int32), t11))))))))
set_option maxHeartbeats 4000000 in
set_option maxRecDepth 100000 in
theorem KX12_count (G : xG) (Gb : xMem) (a : Int32) (σ : St) (r0 : Int32) (t0 : St) (hq : FX12_count a σ = some (r0, t0)) : xC G mX12_count 3 0 0 [.ref 149, .int a] (mem σ Gb) (PQ r0 t0 Gb) := by
  unfold FX12_count at hq
  refine xC.of (by decide) (Nat.le_of_ble_eq_true rfl) ?_
  show xW _ _ _ _ 0 [(0, .ref 149), (1, .int a)] [] _ 0 0
  refine xi_iconst (v := 0) dX12_count_0 (by decide) ?_
  refine xi_istore_n (lv' := [(2, .int 0), (0, .ref 149), (1, .int a)]) dX12_count_1 (by decide) rfl ?_
  refine xi_iconst (v := 0) dX12_count_2 (by decide) ?_
  refine xi_istore_n (lv' := [(3, .int 0), (2, .int 0), (0, .ref 149), (1, .int a)]) dX12_count_3 (by decide) rfl ?_
  refine xi_sub (lv' := [(0, .ref 149), (1, .int a), (2, .int 0), (3, .int 0)]) [2, 3, 1, 0] rfl ?_
  obtain ⟨e10, t11, k12, hq⟩ := bnd_some hq
  obtain ⟨n13, k12⟩ := wh_itr k12
  refine SX12_count_4_w G Gb a r0 t0 n13 ((0 : Int32), (0 : Int32)) σ _ _ k12 ?_
  show xW G mX12_count (xrm 3 0 0) (xQ G (PQ r0 t0 Gb) 0 0) 33 [(0, .ref 149), (1, .int a), (2, .int e10)] [] (mem t11 Gb) 0 0
  refine xi_iload_n 1 dX12_count_33 rfl ?_
  by_cases c14 : a = 0
  · replace hq := ite_p c14 hq
    refine xi_tableIn (off := 30) (tgt := 64) dX12_count_34 (by rw [c14]; decide) (by rw [c14]; decide) (by rw [c14]; decide) (by decide) ?_
    refine xi_iload_n 2 dX12_count_64 rfl ?_
    have r15 := some_pair hq
    obtain ⟨rfl, rfl⟩ := r15
    exact xi_iret dX12_count_65 rfl rfl (Nat.le_of_ble_eq_true rfl) (Nat.le_of_ble_eq_true rfl) ⟨rfl, rfl⟩
  replace hq := ite_n c14 hq
  by_cases c16 : a = 1
  · replace hq := ite_p c16 hq
    refine xi_tableIn (off := 32) (tgt := 66) dX12_count_34 (by rw [c16]; decide) (by rw [c16]; decide) (by rw [c16]; decide) (by decide) ?_
    refine xi_aload_n 0 dX12_count_66 rfl ?_
    obtain ⟨v17, h18, hq⟩ := rdb_some hq
    refine yi_getV (f := 3) dX12_count_67 sh_149 rfl ok_9 (by decide) w_1011 rfl h18 ?_
    have r19 := some_pair hq
    obtain ⟨rfl, rfl⟩ := r19
    exact xi_iret dX12_count_70 rfl rfl (Nat.le_of_ble_eq_true rfl) (Nat.le_of_ble_eq_true rfl) ⟨rfl, rfl⟩
  replace hq := ite_n c16 hq
  by_cases c20 : a = 2
  · replace hq := ite_p c20 hq
    refine xi_tableIn (off := 37) (tgt := 71) dX12_count_34 (by rw [c20]; decide) (by rw [c20]; decide) (by rw [c20]; decide) (by decide) ?_
    refine xi_aload_n 0 dX12_count_71 rfl ?_
    obtain ⟨v21, h22, hq⟩ := rdb_some hq
    refine yi_getV (f := 5) dX12_count_72 sh_149 rfl ok_9 (by decide) w_1013 rfl h22 ?_
    have r23 := some_pair hq
    obtain ⟨rfl, rfl⟩ := r23
    exact xi_iret dX12_count_75 rfl rfl (Nat.le_of_ble_eq_true rfl) (Nat.le_of_ble_eq_true rfl) ⟨rfl, rfl⟩
  replace hq := ite_n c20 hq
  by_cases c24 : a = 3
  · replace hq := ite_p c24 hq
    refine xi_tableIn (off := 42) (tgt := 76) dX12_count_34 (by rw [c24]; decide) (by rw [c24]; decide) (by rw [c24]; decide) (by decide) ?_
    refine xi_aload_n 0 dX12_count_76 rfl ?_
    obtain ⟨v25, h26, hq⟩ := rdb_some hq
    refine yi_getV (f := 25) dX12_count_77 sh_149 rfl ok_9 (by decide) w_1033 rfl h26 ?_
    have r27 := some_pair hq
    obtain ⟨rfl, rfl⟩ := r27
    exact xi_iret dX12_count_80 rfl rfl (Nat.le_of_ble_eq_true rfl) (Nat.le_of_ble_eq_true rfl) ⟨rfl, rfl⟩
  replace hq := ite_n c24 hq
  have tc14 : a.toInt ≠ 0 := fun e => c14 (Int32.toInt_inj.mp (by rw [e]; decide))
  have tc16 : a.toInt ≠ 1 := fun e => c16 (Int32.toInt_inj.mp (by rw [e]; decide))
  have tc20 : a.toInt ≠ 2 := fun e => c20 (Int32.toInt_inj.mp (by rw [e]; decide))
  have tc24 : a.toInt ≠ 3 := fun e => c24 (Int32.toInt_inj.mp (by rw [e]; decide))
  refine xi_tableOut (tgt := 81) dX12_count_34 (by omega) (by decide) ?_
  refine xi_iconst (v := (-1)) dX12_count_81 (by decide) ?_
  have r28 := some_pair hq
  obtain ⟨rfl, rfl⟩ := r28
  exact xi_iret dX12_count_82 rfl rfl (Nat.le_of_ble_eq_true rfl) (Nat.le_of_ble_eq_true rfl) ⟨rfl, rfl⟩
noncomputable def FX12_cuts (a : Int32) (b : Int32) (c : Int32) (σ : St) : Option ((Int32) × St) :=
  (bnd (FX12_areTwo a b c σ) (fun v1 t2 => (if v1 = (0 : Int32) then (some ((-2 : Int32), t2)) else (bnd (FX12_weight a b c t2) (fun v5 t6 => (if v5 = (0 : Int32) then (some ((-6 : Int32), t6)) else (bnd (FX12_remembers  t6) (fun v9 t10 => (bnd (FX12_weighs a b c (0 : Int32) t10) (fun v12 t13 => (bnd (FX12_keeps v5 t13) (fun v15 t16 => (some (v15, t16))))))))))))))
set_option maxHeartbeats 4000000 in
set_option maxRecDepth 100000 in
theorem KX12_cuts (G : xG) (Gb : xMem) (a : Int32) (b : Int32) (c : Int32) (σ : St) (r0 : Int32) (t0 : St) (hq : FX12_cuts a b c σ = some (r0, t0)) : xC G mX12_cuts 5 0 0 [.ref 149, .int a, .int b, .int c] (mem σ Gb) (PQ r0 t0 Gb) := by
  unfold FX12_cuts at hq
  refine xC.of (by decide) (Nat.le_of_ble_eq_true rfl) ?_
  show xW _ _ _ _ 0 [(0, .ref 149), (1, .int a), (2, .int b), (3, .int c)] [] _ 0 0
  refine xi_aload_n 0 dX12_cuts_0 rfl ?_
  refine xi_iload_n 1 dX12_cuts_1 rfl ?_
  refine xi_iload_n 2 dX12_cuts_2 rfl ?_
  refine xi_iload_n 3 dX12_cuts_3 rfl ?_
  obtain ⟨v1, t2, k3, hq⟩ := bnd_some hq
  refine xi_callV (as := [.int a, .int b, .int c]) (rest := []) dX12_cuts_4 (KX12_areTwo G Gb a b c _ _ _ k3) mkX12_areTwo w_1500 ws_90 w_1498 (mem_get sh_149) rfl rfl rfl rfl (Nat.le_of_ble_eq_true rfl) (Nat.le_of_ble_eq_true rfl) (Nat.le_of_ble_eq_true rfl) (Nat.le_of_ble_eq_true rfl) (Nat.le_of_ble_eq_true rfl) ?_
  intro v M2 hz
  obtain ⟨rfl, rfl⟩ := hz
  show xW _ _ _ _ 7 _ [.int v1] (mem t2 Gb) _ _
  refine xi_if_ne (tgt := 13) dX12_cuts_7 (by decide) (fun c4 => ?_) (fun c4 => ?_)
  · replace hq := ite_n c4 hq
    refine xi_aload_n 0 dX12_cuts_13 rfl ?_
    refine xi_iload_n 1 dX12_cuts_14 rfl ?_
    refine xi_iload_n 2 dX12_cuts_15 rfl ?_
    refine xi_iload_n 3 dX12_cuts_16 rfl ?_
    obtain ⟨v5, t6, k7, hq⟩ := bnd_some hq
    refine xi_callV (as := [.int a, .int b, .int c]) (rest := []) dX12_cuts_17 (KX12_weight G Gb a b c _ _ _ k7) mkX12_weight w_1192 ws_53 w_1190 (mem_get sh_149) rfl rfl rfl rfl (Nat.le_of_ble_eq_true rfl) (Nat.le_of_ble_eq_true rfl) (Nat.le_of_ble_eq_true rfl) (Nat.le_of_ble_eq_true rfl) (Nat.le_of_ble_eq_true rfl) ?_
    intro v M2 hz
    obtain ⟨rfl, rfl⟩ := hz
    show xW _ _ _ _ 20 _ [.int v5] (mem t6 Gb) _ _
    refine xi_istore (lv' := [(4, .int v5), (0, .ref 149), (1, .int a), (2, .int b), (3, .int c)]) dX12_cuts_20 (by decide) rfl ?_
    refine xi_iload 0 dX12_cuts_22 rfl ?_
    refine xi_if_ne (tgt := 30) dX12_cuts_24 (by decide) (fun c8 => ?_) (fun c8 => ?_)
    · replace hq := ite_n c8 hq
      refine xi_aload_n 1 dX12_cuts_30 rfl ?_
      obtain ⟨v9, t10, k11, hq⟩ := bnd_some hq
      refine xi_callV (as := []) (rest := []) dX12_cuts_31 (KX12_remembers G Gb  _ _ _ k11) mkX12_remembers w_1112 ws_37 w_1110 (mem_get sh_149) rfl rfl rfl rfl (Nat.le_of_ble_eq_true rfl) (Nat.le_of_ble_eq_true rfl) (Nat.le_of_ble_eq_true rfl) (Nat.le_of_ble_eq_true rfl) (Nat.le_of_ble_eq_true rfl) ?_
      intro v M2 hz
      obtain ⟨rfl, rfl⟩ := hz
      show xW _ _ _ _ 34 _ [] (mem t10 Gb) _ _
      refine xi_aload_n 1 dX12_cuts_34 rfl ?_
      refine xi_iload_n 2 dX12_cuts_35 rfl ?_
      refine xi_iload_n 3 dX12_cuts_36 rfl ?_
      refine xi_iload_n 4 dX12_cuts_37 rfl ?_
      refine xi_iconst (v := 0) dX12_cuts_38 (by decide) ?_
      obtain ⟨v12, t13, k14, hq⟩ := bnd_some hq
      refine xi_callV (as := [.int a, .int b, .int c, .int 0]) (rest := []) dX12_cuts_39 (KX12_weighs G Gb a b c (0 : Int32) _ _ _ k14) mkX12_weighs w_1199 ws_54 w_1197 (mem_get sh_149) rfl rfl rfl rfl (Nat.le_of_ble_eq_true rfl) (Nat.le_of_ble_eq_true rfl) (Nat.le_of_ble_eq_true rfl) (Nat.le_of_ble_eq_true rfl) (Nat.le_of_ble_eq_true rfl) ?_
      intro v M2 hz
      obtain ⟨rfl, rfl⟩ := hz
      show xW _ _ _ _ 42 _ [] (mem t13 Gb) _ _
      refine xi_aload_n 1 dX12_cuts_42 rfl ?_
      refine xi_iload 0 dX12_cuts_43 rfl ?_
      obtain ⟨v15, t16, k17, hq⟩ := bnd_some hq
      refine xi_callV (as := [.int v5]) (rest := []) dX12_cuts_45 (KX12_keeps G Gb v5 _ _ _ k17) mkX12_keeps w_1120 ws_39 w_1118 (mem_get sh_149) rfl rfl rfl rfl (Nat.le_of_ble_eq_true rfl) (Nat.le_of_ble_eq_true rfl) (Nat.le_of_ble_eq_true rfl) (Nat.le_of_ble_eq_true rfl) (Nat.le_of_ble_eq_true rfl) ?_
      intro v M2 hz
      obtain ⟨rfl, rfl⟩ := hz
      show xW _ _ _ _ 48 _ [.int v15] (mem t16 Gb) _ _
      have r18 := some_pair hq
      obtain ⟨rfl, rfl⟩ := r18
      exact xi_iret dX12_cuts_48 rfl rfl (Nat.le_of_ble_eq_true rfl) (Nat.le_of_ble_eq_true rfl) ⟨rfl, rfl⟩
    · replace hq := ite_p c8 hq
      refine xi_bipush (v := (-6)) dX12_cuts_27 (by decide) ?_
      have r19 := some_pair hq
      obtain ⟨rfl, rfl⟩ := r19
      exact xi_iret dX12_cuts_29 rfl rfl (Nat.le_of_ble_eq_true rfl) (Nat.le_of_ble_eq_true rfl) ⟨rfl, rfl⟩
  · replace hq := ite_p c4 hq
    refine xi_bipush (v := (-2)) dX12_cuts_10 (by decide) ?_
    have r20 := some_pair hq
    obtain ⟨rfl, rfl⟩ := r20
    exact xi_iret dX12_cuts_12 rfl rfl (Nat.le_of_ble_eq_true rfl) (Nat.le_of_ble_eq_true rfl) ⟨rfl, rfl⟩
noncomputable def SX12_diameter_16 (w1 : Int32) (w3 : Int32) (c : Int32 × Int32) (σ : St) : Option (((Int32 × Int32) ⊕ ((Int32) ⊕ (Int32))) × St) :=
  (bnd (FX12_points w1 σ) (fun v5 t6 => (if v5 ≤ c.2 then (some (Sum.inr (Sum.inr c.1), t6)) else (bnd (FX12_farOf w1 w3 c.2 t6) (fun v9 t10 => (if v9 = (-1 : Int32) then (some (Sum.inr (Sum.inl (-1 : Int32)), t10)) else (some (Sum.inl ((mxI c.1 v9), (c.2 + 1)), t10))))))))
noncomputable def SX12_diameter_4 (w1 : Int32) (c : Int32 × Int32) (σ : St) : Option (((Int32 × Int32) ⊕ ((Int32) ⊕ (Int32))) × St) :=
  (bnd (FX12_points w1 σ) (fun v1 t2 => (if v1 ≤ c.2 then (some (Sum.inr (Sum.inr c.1), t2)) else (bnd (wh (SX12_diameter_16 w1 c.2) (c.1, (0 : Int32)) t2) (fun e14 t15 => Sum.elim (fun e14 => (some (Sum.inr (Sum.inl e14), t15))) (fun e14 => (some (Sum.inl (e14, (c.2 + 1)), t15))) e14)))))
set_option maxHeartbeats 4000000 in
set_option maxRecDepth 100000 in
theorem SX12_diameter_16_w (G : xG) (Gb : xMem) (w1 : Int32) (w3 : Int32) (r0 : Int32) (t0 : St) :
    ∀ (k : Nat) (c : Int32 × Int32) (σ : St) (r : (Int32) ⊕ (Int32)) (σ' : St), itr (SX12_diameter_16 w1 w3) k c σ = some (r, σ') → (Sum.elim (fun v => v = r0 ∧ σ' = t0) (fun e => xW G mX12_diameter (xrm 3 0 0) (xQ G (PQ r0 t0 Gb) 0 0) 57 [(0, .ref 149), (1, .int w1), (2, .int e), (3, .int w3)] [] (mem σ' Gb) 0 0) r) → xW G mX12_diameter (xrm 3 0 0) (xQ G (PQ r0 t0 Gb) 0 0) 16 [(0, .ref 149), (1, .int w1), (2, .int c.1), (3, .int w3), (4, .int c.2)] [] (mem σ Gb) 0 0 := by
  intro k
  induction k with
  | zero =>
    intro c σ r σ' h
    exact absurd h (itr_zero _ _ _ _)
  | succ k ih =>
    intro c σ r σ' h HE
    obtain ⟨x, s1, hs, h⟩ := itr_succ h
    unfold SX12_diameter_16 at hs
    refine xi_iload 4 dX12_diameter_16 rfl ?_
    refine xi_aload_n 0 dX12_diameter_18 rfl ?_
    refine xi_iload_n 1 dX12_diameter_19 rfl ?_
    obtain ⟨v5, t6, k7, hs⟩ := bnd_some hs
    refine xi_callV (as := [.int w1]) (rest := [.int c.2]) dX12_diameter_20 (KX12_points G Gb w1 _ _ _ k7) mkX12_points w_1108 ws_36 w_1106 (mem_get sh_149) rfl rfl rfl rfl (Nat.le_of_ble_eq_true rfl) (Nat.le_of_ble_eq_true rfl) (Nat.le_of_ble_eq_true rfl) (Nat.le_of_ble_eq_true rfl) (Nat.le_of_ble_eq_true rfl) ?_
    intro v M2 hz
    obtain ⟨rfl, rfl⟩ := hz
    show xW _ _ _ _ 23 _ [.int v5, .int c.2] (mem t6 Gb) _ _
    refine xi_icmp_ge (tgt := 57) dX12_diameter_23 (by decide) (fun c8 => ?_) (fun c8 => ?_)
    · replace hs := ite_p c8 hs
      refine xi_sub (lv' := [(0, .ref 149), (1, .int w1), (2, .int c.1), (3, .int w3)]) [0, 1, 2, 3] rfl ?_
      obtain ⟨rfl, rfl⟩ := some_pair hs
      obtain ⟨rfl, rfl⟩ := some_pair h
      exact HE
    · replace hs := ite_n c8 hs
      refine xi_aload_n 0 dX12_diameter_26 rfl ?_
      refine xi_iload_n 1 dX12_diameter_27 rfl ?_
      refine xi_iload_n 3 dX12_diameter_28 rfl ?_
      refine xi_iload 4 dX12_diameter_29 rfl ?_
      obtain ⟨v9, t10, k11, hs⟩ := bnd_some hs
      refine xi_callV (as := [.int w1, .int w3, .int c.2]) (rest := []) dX12_diameter_31 (KX12_farOf G Gb w1 w3 c.2 _ _ _ k11) mkX12_farOf w_1241 ws_60 w_1239 (mem_get sh_149) rfl rfl rfl rfl (Nat.le_of_ble_eq_true rfl) (Nat.le_of_ble_eq_true rfl) (Nat.le_of_ble_eq_true rfl) (Nat.le_of_ble_eq_true rfl) (Nat.le_of_ble_eq_true rfl) ?_
      intro v M2 hz
      obtain ⟨rfl, rfl⟩ := hz
      show xW _ _ _ _ 34 _ [.int v9] (mem t10 Gb) _ _
      refine xi_istore (lv' := [(5, .int v9), (0, .ref 149), (1, .int w1), (2, .int c.1), (3, .int w3), (4, .int c.2)]) dX12_diameter_34 (by decide) rfl ?_
      refine xi_iload 0 dX12_diameter_36 rfl ?_
      refine xi_iconst (v := (-1)) dX12_diameter_38 (by decide) ?_
      refine xi_icmp_ne (tgt := 44) dX12_diameter_39 (by decide) (fun c12 => ?_) (fun c12 => ?_)
      · replace hs := ite_n c12 hs
        refine xi_iload_n 3 dX12_diameter_44 rfl ?_
        refine xi_iload 0 dX12_diameter_45 rfl ?_
        refine xi_max (v := (mxI c.1 v9)) dX12_diameter_47 w_1234 w_37 w_3 w_mmax (Nat.le_of_ble_eq_true rfl) (Nat.le_of_ble_eq_true rfl) (Nat.le_of_ble_eq_true rfl) (Nat.le_of_ble_eq_true rfl) (Nat.le_of_ble_eq_true rfl) rfl ?_
        refine xi_istore_n (lv' := [(2, .int (mxI c.1 v9)), (5, .int v9), (0, .ref 149), (1, .int w1), (3, .int w3), (4, .int c.2)]) dX12_diameter_50 (by decide) rfl ?_
        refine xi_iinc (v := (c.2 + 1)) (lv' := [(4, .int (c.2 + 1)), (2, .int (mxI c.1 v9)), (5, .int v9), (0, .ref 149), (1, .int w1), (3, .int w3)]) 5 dX12_diameter_51 rfl rfl (by decide) rfl ?_
        refine xi_goto (tgt := 16) dX12_diameter_54 (by decide) ?_
        refine xi_sub (lv' := [(0, .ref 149), (1, .int w1), (2, .int (mxI c.1 v9)), (3, .int w3), (4, .int (c.2 + 1))]) [3, 4, 1, 5, 0] rfl ?_
        obtain ⟨rfl, rfl⟩ := some_pair hs
        exact ih ((mxI c.1 v9), (c.2 + 1)) t10 _ _ h HE
      · replace hs := ite_p c12 hs
        refine xi_iconst (v := (-1)) dX12_diameter_42 (by decide) ?_
        obtain ⟨rfl, rfl⟩ := some_pair hs
        obtain ⟨rfl, rfl⟩ := some_pair h
        have r13 := HE
        obtain ⟨rfl, rfl⟩ := r13
        exact xi_iret dX12_diameter_43 rfl rfl (Nat.le_of_ble_eq_true rfl) (Nat.le_of_ble_eq_true rfl) ⟨rfl, rfl⟩
set_option maxHeartbeats 4000000 in
set_option maxRecDepth 100000 in
theorem SX12_diameter_4_w (G : xG) (Gb : xMem) (w1 : Int32) (r0 : Int32) (t0 : St) :
    ∀ (k : Nat) (c : Int32 × Int32) (σ : St) (r : (Int32) ⊕ (Int32)) (σ' : St), itr (SX12_diameter_4 w1) k c σ = some (r, σ') → (Sum.elim (fun v => v = r0 ∧ σ' = t0) (fun e => xW G mX12_diameter (xrm 3 0 0) (xQ G (PQ r0 t0 Gb) 0 0) 63 [(2, .int e)] [] (mem σ' Gb) 0 0) r) → xW G mX12_diameter (xrm 3 0 0) (xQ G (PQ r0 t0 Gb) 0 0) 4 [(0, .ref 149), (1, .int w1), (2, .int c.1), (3, .int c.2)] [] (mem σ Gb) 0 0 := by
  intro k
  induction k with
  | zero =>
    intro c σ r σ' h
    exact absurd h (itr_zero _ _ _ _)
  | succ k ih =>
    intro c σ r σ' h HE
    obtain ⟨x, s1, hs, h⟩ := itr_succ h
    unfold SX12_diameter_4 at hs
    refine xi_iload_n 3 dX12_diameter_4 rfl ?_
    refine xi_aload_n 0 dX12_diameter_5 rfl ?_
    refine xi_iload_n 1 dX12_diameter_6 rfl ?_
    obtain ⟨v1, t2, k3, hs⟩ := bnd_some hs
    refine xi_callV (as := [.int w1]) (rest := [.int c.2]) dX12_diameter_7 (KX12_points G Gb w1 _ _ _ k3) mkX12_points w_1108 ws_36 w_1106 (mem_get sh_149) rfl rfl rfl rfl (Nat.le_of_ble_eq_true rfl) (Nat.le_of_ble_eq_true rfl) (Nat.le_of_ble_eq_true rfl) (Nat.le_of_ble_eq_true rfl) (Nat.le_of_ble_eq_true rfl) ?_
    intro v M2 hz
    obtain ⟨rfl, rfl⟩ := hz
    show xW _ _ _ _ 10 _ [.int v1, .int c.2] (mem t2 Gb) _ _
    refine xi_icmp_ge (tgt := 63) dX12_diameter_10 (by decide) (fun c4 => ?_) (fun c4 => ?_)
    · replace hs := ite_p c4 hs
      refine xi_sub (lv' := [(2, .int c.1)]) [2] rfl ?_
      obtain ⟨rfl, rfl⟩ := some_pair hs
      obtain ⟨rfl, rfl⟩ := some_pair h
      exact HE
    · replace hs := ite_n c4 hs
      refine xi_iconst (v := 0) dX12_diameter_13 (by decide) ?_
      refine xi_istore (lv' := [(4, .int 0), (0, .ref 149), (1, .int w1), (2, .int c.1), (3, .int c.2)]) dX12_diameter_14 (by decide) rfl ?_
      refine xi_sub (lv' := [(0, .ref 149), (1, .int w1), (2, .int c.1), (3, .int c.2), (4, .int 0)]) [1, 2, 3, 4, 0] rfl ?_
      obtain ⟨e14, t15, k16, hs⟩ := bnd_some hs
      obtain ⟨n17, k16⟩ := wh_itr k16
      refine SX12_diameter_16_w G Gb w1 c.2 r0 t0 n17 (c.1, (0 : Int32)) t2 _ _ k16 ?_
      rcases e14 with e14 | e14
      · replace hs := sel_l hs
        obtain ⟨rfl, rfl⟩ := some_pair hs
        obtain ⟨rfl, rfl⟩ := some_pair h
        have r18 := HE
        exact r18
      · replace hs := sel_r hs
        show xW G mX12_diameter (xrm 3 0 0) (xQ G (PQ r0 t0 Gb) 0 0) 57 [(0, .ref 149), (1, .int w1), (2, .int e14), (3, .int c.2)] [] (mem t15 Gb) 0 0
        refine xi_iinc (v := (c.2 + 1)) (lv' := [(3, .int (c.2 + 1)), (0, .ref 149), (1, .int w1), (2, .int e14)]) 3 dX12_diameter_57 rfl rfl (by decide) rfl ?_
        refine xi_goto (tgt := 4) dX12_diameter_60 (by decide) ?_
        refine xi_sub (lv' := [(0, .ref 149), (1, .int w1), (2, .int e14), (3, .int (c.2 + 1))]) [1, 2, 3, 0] rfl ?_
        obtain ⟨rfl, rfl⟩ := some_pair hs
        exact ih (e14, (c.2 + 1)) t15 _ _ h HE
noncomputable def FX12_diameter (a : Int32) (σ : St) : Option ((Int32) × St) :=
  (bnd (wh (SX12_diameter_4 a) ((0 : Int32), (0 : Int32)) σ) (fun e19 t20 => Sum.elim (fun e19 => (some (e19, t20))) (fun e19 => (some (e19, t20))) e19))
set_option maxHeartbeats 4000000 in
set_option maxRecDepth 100000 in
theorem KX12_diameter (G : xG) (Gb : xMem) (a : Int32) (σ : St) (r0 : Int32) (t0 : St) (hq : FX12_diameter a σ = some (r0, t0)) : xC G mX12_diameter 3 0 0 [.ref 149, .int a] (mem σ Gb) (PQ r0 t0 Gb) := by
  unfold FX12_diameter at hq
  refine xC.of (by decide) (Nat.le_of_ble_eq_true rfl) ?_
  show xW _ _ _ _ 0 [(0, .ref 149), (1, .int a)] [] _ 0 0
  refine xi_iconst (v := 0) dX12_diameter_0 (by decide) ?_
  refine xi_istore_n (lv' := [(2, .int 0), (0, .ref 149), (1, .int a)]) dX12_diameter_1 (by decide) rfl ?_
  refine xi_iconst (v := 0) dX12_diameter_2 (by decide) ?_
  refine xi_istore_n (lv' := [(3, .int 0), (2, .int 0), (0, .ref 149), (1, .int a)]) dX12_diameter_3 (by decide) rfl ?_
  refine xi_sub (lv' := [(0, .ref 149), (1, .int a), (2, .int 0), (3, .int 0)]) [2, 3, 1, 0] rfl ?_
  obtain ⟨e19, t20, k21, hq⟩ := bnd_some hq
  obtain ⟨n22, k21⟩ := wh_itr k21
  refine SX12_diameter_4_w G Gb a r0 t0 n22 ((0 : Int32), (0 : Int32)) σ _ _ k21 ?_
  rcases e19 with e19 | e19
  · replace hq := sel_l hq
    have r23 := some_pair hq
    exact r23
  · replace hq := sel_r hq
    show xW G mX12_diameter (xrm 3 0 0) (xQ G (PQ r0 t0 Gb) 0 0) 63 [(2, .int e19)] [] (mem t20 Gb) 0 0
    refine xi_iload_n 0 dX12_diameter_63 rfl ?_
    have r24 := some_pair hq
    obtain ⟨rfl, rfl⟩ := r24
    exact xi_iret dX12_diameter_64 rfl rfl (Nat.le_of_ble_eq_true rfl) (Nat.le_of_ble_eq_true rfl) ⟨rfl, rfl⟩
noncomputable def SX12_empties_2 (w1 : Int32) (c : Int32) (σ : St) : Option (((Int32) ⊕ (Unit)) × St) :=
  (if (91 : Int32) ≤ c then (some (Sum.inr (), σ)) else (chk (inb (((91 : Int32) * w1) + c) 273) (wrb σ 150 ((((91 : Int32) * w1) + c).toNatClampNeg) (0 : Int32) (fun t3 => (some (Sum.inl (c + 1), t3))))))
set_option maxHeartbeats 4000000 in
set_option maxRecDepth 100000 in
theorem SX12_empties_2_w (G : xG) (Gb : xMem) (w1 : Int32) (r0 : Unit) (t0 : St) :
    ∀ (k : Nat) (c : Int32) (σ : St) (r : Unit) (σ' : St), itr (SX12_empties_2 w1) k c σ = some (r, σ') → (xW G mX12_empties (xrm 0 0 0) (xQ G (PV r0 t0 Gb) 0 0) 26 [] [] (mem σ' Gb) 0 0) → xW G mX12_empties (xrm 0 0 0) (xQ G (PV r0 t0 Gb) 0 0) 2 [(0, .ref 149), (1, .int w1), (2, .int c)] [] (mem σ Gb) 0 0 := by
  intro k
  induction k with
  | zero =>
    intro c σ r σ' h
    exact absurd h (itr_zero _ _ _ _)
  | succ k ih =>
    intro c σ r σ' h HE
    obtain ⟨x, s1, hs, h⟩ := itr_succ h
    unfold SX12_empties_2 at hs
    refine xi_iload_n 2 dX12_empties_2 rfl ?_
    refine xi_bipush (v := 91) dX12_empties_3 (by decide) ?_
    refine xi_icmp_ge (tgt := 26) dX12_empties_5 (by decide) (fun c1 => ?_) (fun c1 => ?_)
    · replace hs := ite_p c1 hs
      refine xi_sub (lv' := []) [] rfl ?_
      obtain ⟨rfl, rfl⟩ := some_pair hs
      obtain ⟨rfl, rfl⟩ := some_pair h
      exact HE
    · replace hs := ite_n c1 hs
      refine xi_aload_n 0 dX12_empties_8 rfl ?_
      refine yi_getR (f := 0) dX12_empties_9 sh_149 rfl ok_9 (by decide) w_1008 rfl ?_
      refine xi_bipush (v := 91) dX12_empties_12 (by decide) ?_
      refine xi_iload_n 1 dX12_empties_14 rfl ?_
      refine xi_imul (v := (91 : Int32) * w1) dX12_empties_15 rfl ?_
      refine xi_iload_n 2 dX12_empties_16 rfl ?_
      refine xi_iadd (v := ((91 : Int32) * w1) + c) dX12_empties_17 rfl ?_
      refine xi_iconst (v := 0) dX12_empties_18 (by decide) ?_
      obtain ⟨g2, hs⟩ := chk_some hs
      obtain ⟨t3, h4, hs⟩ := wrb_some hs
      refine yi_iastoreV dX12_empties_19 sh_150 g2 h4 ?_
      refine xi_iinc (v := (c + 1)) (lv' := [(2, .int (c + 1)), (0, .ref 149), (1, .int w1)]) 2 dX12_empties_20 rfl rfl (by decide) rfl ?_
      refine xi_goto (tgt := 2) dX12_empties_23 (by decide) ?_
      refine xi_sub (lv' := [(0, .ref 149), (1, .int w1), (2, .int (c + 1))]) [1, 2, 0] rfl ?_
      obtain ⟨rfl, rfl⟩ := some_pair hs
      exact ih (c + 1) t3 _ _ h HE
noncomputable def FX12_empties (a : Int32) (σ : St) : Option ((Unit) × St) :=
  (bnd (wh (SX12_empties_2 a) (0 : Int32) σ) (fun e5 t6 => (some ((), t6))))
set_option maxHeartbeats 4000000 in
set_option maxRecDepth 100000 in
theorem KX12_empties (G : xG) (Gb : xMem) (a : Int32) (σ : St) (r0 : Unit) (t0 : St) (hq : FX12_empties a σ = some (r0, t0)) : xC G mX12_empties 0 0 0 [.ref 149, .int a] (mem σ Gb) (PV r0 t0 Gb) := by
  unfold FX12_empties at hq
  refine xC.of (by decide) (Nat.le_of_ble_eq_true rfl) ?_
  show xW _ _ _ _ 0 [(0, .ref 149), (1, .int a)] [] _ 0 0
  refine xi_iconst (v := 0) dX12_empties_0 (by decide) ?_
  refine xi_istore_n (lv' := [(2, .int 0), (0, .ref 149), (1, .int a)]) dX12_empties_1 (by decide) rfl ?_
  refine xi_sub (lv' := [(0, .ref 149), (1, .int a), (2, .int 0)]) [1, 2, 0] rfl ?_
  obtain ⟨e5, t6, k7, hq⟩ := bnd_some hq
  obtain ⟨n8, k7⟩ := wh_itr k7
  refine SX12_empties_2_w G Gb a r0 t0 n8 (0 : Int32) σ _ _ k7 ?_
  show xW G mX12_empties (xrm 0 0 0) (xQ G (PV r0 t0 Gb) 0 0) 26 [] [] (mem t6 Gb) 0 0
  have r9 := some_pair hq
  obtain ⟨rfl, rfl⟩ := r9
  exact xi_vret dX12_empties_26 rfl (Nat.le_of_ble_eq_true rfl) (Nat.le_of_ble_eq_true rfl) ⟨rfl, rfl⟩
noncomputable def FX12_drops (a : Int32) (σ : St) : Option ((Int32) × St) :=
  (bnd (FX12_isSlot a σ) (fun v1 t2 => (if v1 = (0 : Int32) then (some ((-2 : Int32), t2)) else (bnd (FX12_isNet a t2) (fun v5 t6 => (if v5 = (0 : Int32) then (some ((0 : Int32), t6)) else (bnd (FX12_remembers  t6) (fun v9 t10 => (bnd (FX12_empties a t10) (fun v12 t13 => (bnd (FX12_keeps (1 : Int32) t13) (fun v15 t16 => (some (v15, t16))))))))))))))
set_option maxHeartbeats 4000000 in
set_option maxRecDepth 100000 in
theorem KX12_drops (G : xG) (Gb : xMem) (a : Int32) (σ : St) (r0 : Int32) (t0 : St) (hq : FX12_drops a σ = some (r0, t0)) : xC G mX12_drops 3 0 0 [.ref 149, .int a] (mem σ Gb) (PQ r0 t0 Gb) := by
  unfold FX12_drops at hq
  refine xC.of (by decide) (Nat.le_of_ble_eq_true rfl) ?_
  show xW _ _ _ _ 0 [(0, .ref 149), (1, .int a)] [] _ 0 0
  refine xi_iload_n 1 dX12_drops_0 rfl ?_
  obtain ⟨v1, t2, k3, hq⟩ := bnd_some hq
  refine xi_callS (as := [.int a]) (rest := []) dX12_drops_1 (KX12_isSlot G Gb a _ _ _ k3) mkX12_isSlot w_1096 w_1095 rfl rfl (Nat.le_of_ble_eq_true rfl) (Nat.le_of_ble_eq_true rfl) (Nat.le_of_ble_eq_true rfl) (Nat.le_of_ble_eq_true rfl) (Nat.le_of_ble_eq_true rfl) ?_
  intro v M2 hz
  obtain ⟨rfl, rfl⟩ := hz
  show xW _ _ _ _ 4 _ [.int v1] (mem t2 Gb) _ _
  refine xi_if_ne (tgt := 10) dX12_drops_4 (by decide) (fun c4 => ?_) (fun c4 => ?_)
  · replace hq := ite_n c4 hq
    refine xi_aload_n 0 dX12_drops_10 rfl ?_
    refine xi_iload_n 1 dX12_drops_11 rfl ?_
    obtain ⟨v5, t6, k7, hq⟩ := bnd_some hq
    refine xi_callV (as := [.int a]) (rest := []) dX12_drops_12 (KX12_isNet G Gb a _ _ _ k7) mkX12_isNet w_1104 ws_35 w_1102 (mem_get sh_149) rfl rfl rfl rfl (Nat.le_of_ble_eq_true rfl) (Nat.le_of_ble_eq_true rfl) (Nat.le_of_ble_eq_true rfl) (Nat.le_of_ble_eq_true rfl) (Nat.le_of_ble_eq_true rfl) ?_
    intro v M2 hz
    obtain ⟨rfl, rfl⟩ := hz
    show xW _ _ _ _ 15 _ [.int v5] (mem t6 Gb) _ _
    refine xi_if_ne (tgt := 20) dX12_drops_15 (by decide) (fun c8 => ?_) (fun c8 => ?_)
    · replace hq := ite_n c8 hq
      refine xi_aload_n 0 dX12_drops_20 rfl ?_
      obtain ⟨v9, t10, k11, hq⟩ := bnd_some hq
      refine xi_callV (as := []) (rest := []) dX12_drops_21 (KX12_remembers G Gb  _ _ _ k11) mkX12_remembers w_1112 ws_37 w_1110 (mem_get sh_149) rfl rfl rfl rfl (Nat.le_of_ble_eq_true rfl) (Nat.le_of_ble_eq_true rfl) (Nat.le_of_ble_eq_true rfl) (Nat.le_of_ble_eq_true rfl) (Nat.le_of_ble_eq_true rfl) ?_
      intro v M2 hz
      obtain ⟨rfl, rfl⟩ := hz
      show xW _ _ _ _ 24 _ [] (mem t10 Gb) _ _
      refine xi_aload_n 0 dX12_drops_24 rfl ?_
      refine xi_iload_n 1 dX12_drops_25 rfl ?_
      obtain ⟨v12, t13, k14, hq⟩ := bnd_some hq
      refine xi_callV (as := [.int a]) (rest := []) dX12_drops_26 (KX12_empties G Gb a _ _ _ k14) mkX12_empties w_1116 ws_38 w_1114 (mem_get sh_149) rfl rfl rfl rfl (Nat.le_of_ble_eq_true rfl) (Nat.le_of_ble_eq_true rfl) (Nat.le_of_ble_eq_true rfl) (Nat.le_of_ble_eq_true rfl) (Nat.le_of_ble_eq_true rfl) ?_
      intro v M2 hz
      obtain ⟨rfl, rfl⟩ := hz
      show xW _ _ _ _ 29 _ [] (mem t13 Gb) _ _
      refine xi_aload_n 0 dX12_drops_29 rfl ?_
      refine xi_iconst (v := 1) dX12_drops_30 (by decide) ?_
      obtain ⟨v15, t16, k17, hq⟩ := bnd_some hq
      refine xi_callV (as := [.int 1]) (rest := []) dX12_drops_31 (KX12_keeps G Gb (1 : Int32) _ _ _ k17) mkX12_keeps w_1120 ws_39 w_1118 (mem_get sh_149) rfl rfl rfl rfl (Nat.le_of_ble_eq_true rfl) (Nat.le_of_ble_eq_true rfl) (Nat.le_of_ble_eq_true rfl) (Nat.le_of_ble_eq_true rfl) (Nat.le_of_ble_eq_true rfl) ?_
      intro v M2 hz
      obtain ⟨rfl, rfl⟩ := hz
      show xW _ _ _ _ 34 _ [.int v15] (mem t16 Gb) _ _
      have r18 := some_pair hq
      obtain ⟨rfl, rfl⟩ := r18
      exact xi_iret dX12_drops_34 rfl rfl (Nat.le_of_ble_eq_true rfl) (Nat.le_of_ble_eq_true rfl) ⟨rfl, rfl⟩
    · replace hq := ite_p c8 hq
      refine xi_iconst (v := 0) dX12_drops_18 (by decide) ?_
      have r19 := some_pair hq
      obtain ⟨rfl, rfl⟩ := r19
      exact xi_iret dX12_drops_19 rfl rfl (Nat.le_of_ble_eq_true rfl) (Nat.le_of_ble_eq_true rfl) ⟨rfl, rfl⟩
  · replace hq := ite_p c4 hq
    refine xi_bipush (v := (-2)) dX12_drops_7 (by decide) ?_
    have r20 := some_pair hq
    obtain ⟨rfl, rfl⟩ := r20
    exact xi_iret dX12_drops_9 rfl rfl (Nat.le_of_ble_eq_true rfl) (Nat.le_of_ble_eq_true rfl) ⟨rfl, rfl⟩
noncomputable def FX12_end (a : Int32) (σ : St) : Option ((Int32) × St) :=
  (rdb σ 149 (5) (fun v1 => (bnd (FX12_in a.toInt64 (0 : Int64) v1.toInt64 σ) (fun v3 t4 => (if v3 = (0 : Int32) then (some ((-1 : Int32), t4)) else (wrb t4 149 (5) a (fun t7 => (some (a, t7)))))))))
set_option maxHeartbeats 4000000 in
set_option maxRecDepth 100000 in
theorem KX12_end (G : xG) (Gb : xMem) (a : Int32) (σ : St) (r0 : Int32) (t0 : St) (hq : FX12_end a σ = some (r0, t0)) : xC G mX12_end 1 0 0 [.ref 149, .int a] (mem σ Gb) (PQ r0 t0 Gb) := by
  unfold FX12_end at hq
  refine xC.of (by decide) (Nat.le_of_ble_eq_true rfl) ?_
  show xW _ _ _ _ 0 [(0, .ref 149), (1, .int a)] [] _ 0 0
  refine xi_iload_n 1 dX12_end_0 rfl ?_
  refine xi_i2l dX12_end_1 rfl ?_
  refine xi_lconst (v := 0) dX12_end_2 (by decide) ?_
  refine xi_aload_n 0 dX12_end_3 rfl ?_
  obtain ⟨v1, h2, hq⟩ := rdb_some hq
  refine yi_getV (f := 5) dX12_end_4 sh_149 rfl ok_9 (by decide) w_1013 rfl h2 ?_
  refine xi_i2l dX12_end_7 rfl ?_
  obtain ⟨v3, t4, k5, hq⟩ := bnd_some hq
  refine xi_callS (as := [.long a.toInt64, .long 0, .long v1.toInt64]) (rest := []) dX12_end_8 (KX12_in G Gb a.toInt64 (0 : Int64) v1.toInt64 _ _ _ k5) mkX12_in w_1100 w_1099 rfl rfl (Nat.le_of_ble_eq_true rfl) (Nat.le_of_ble_eq_true rfl) (Nat.le_of_ble_eq_true rfl) (Nat.le_of_ble_eq_true rfl) (Nat.le_of_ble_eq_true rfl) ?_
  intro v M2 hz
  obtain ⟨rfl, rfl⟩ := hz
  show xW _ _ _ _ 11 _ [.int v3] (mem t4 Gb) _ _
  refine xi_if_ne (tgt := 16) dX12_end_11 (by decide) (fun c6 => ?_) (fun c6 => ?_)
  · replace hq := ite_n c6 hq
    refine xi_aload_n 0 dX12_end_16 rfl ?_
    refine xi_iload_n 1 dX12_end_17 rfl ?_
    obtain ⟨t7, h8, hq⟩ := wrb_some hq
    refine yi_putV (f := 5) (ty := .int) dX12_end_18 sh_149 rfl ok_9 (by decide) w_1013 rfl rfl pf_I rfl rfl h8 ?_
    refine xi_iload_n 1 dX12_end_21 rfl ?_
    have r9 := some_pair hq
    obtain ⟨rfl, rfl⟩ := r9
    exact xi_iret dX12_end_22 rfl rfl (Nat.le_of_ble_eq_true rfl) (Nat.le_of_ble_eq_true rfl) ⟨rfl, rfl⟩
  · replace hq := ite_p c6 hq
    refine xi_iconst (v := (-1)) dX12_end_14 (by decide) ?_
    have r10 := some_pair hq
    obtain ⟨rfl, rfl⟩ := r10
    exact xi_iret dX12_end_15 rfl rfl (Nat.le_of_ble_eq_true rfl) (Nat.le_of_ble_eq_true rfl) ⟨rfl, rfl⟩
noncomputable def FX12_exchanges (a : Int32) (b : Int32) (σ : St) : Option ((Unit) × St) :=
  (chk (inb a 9) (rdb σ 154 (a.toNatClampNeg) (fun v2 => (chk (inb b 9) (rdb σ 154 (b.toNatClampNeg) (fun v5 => (chk (inb a 9) (wrb σ 154 (a.toNatClampNeg) v5 (fun t8 => (chk (inb b 9) (wrb t8 154 (b.toNatClampNeg) v2 (fun t11 => (some ((), t11))))))))))))))
set_option maxHeartbeats 4000000 in
set_option maxRecDepth 100000 in
theorem KX12_exchanges (G : xG) (Gb : xMem) (a : Int32) (b : Int32) (σ : St) (r0 : Unit) (t0 : St) (hq : FX12_exchanges a b σ = some (r0, t0)) : xC G mX12_exchanges 0 0 0 [.ref 149, .int a, .int b] (mem σ Gb) (PV r0 t0 Gb) := by
  unfold FX12_exchanges at hq
  refine xC.of (by decide) (Nat.le_of_ble_eq_true rfl) ?_
  show xW _ _ _ _ 0 [(0, .ref 149), (1, .int a), (2, .int b)] [] _ 0 0
  refine xi_aload_n 0 dX12_exchanges_0 rfl ?_
  refine yi_getR (f := 13) dX12_exchanges_1 sh_149 rfl ok_9 (by decide) w_1021 rfl ?_
  refine xi_iload_n 1 dX12_exchanges_4 rfl ?_
  obtain ⟨g1, hq⟩ := chk_some hq
  obtain ⟨v2, h3, hq⟩ := rdb_some hq
  refine yi_ialoadV dX12_exchanges_5 sh_154 g1 h3 ?_
  refine xi_istore_n (lv' := [(3, .int v2), (0, .ref 149), (1, .int a), (2, .int b)]) dX12_exchanges_6 (by decide) rfl ?_
  refine xi_aload_n 1 dX12_exchanges_7 rfl ?_
  refine yi_getR (f := 13) dX12_exchanges_8 sh_149 rfl ok_9 (by decide) w_1021 rfl ?_
  refine xi_iload_n 2 dX12_exchanges_11 rfl ?_
  refine xi_aload_n 1 dX12_exchanges_12 rfl ?_
  refine yi_getR (f := 13) dX12_exchanges_13 sh_149 rfl ok_9 (by decide) w_1021 rfl ?_
  refine xi_iload_n 3 dX12_exchanges_16 rfl ?_
  obtain ⟨g4, hq⟩ := chk_some hq
  obtain ⟨v5, h6, hq⟩ := rdb_some hq
  refine yi_ialoadV dX12_exchanges_17 sh_154 g4 h6 ?_
  obtain ⟨g7, hq⟩ := chk_some hq
  obtain ⟨t8, h9, hq⟩ := wrb_some hq
  refine yi_iastoreV dX12_exchanges_18 sh_154 g7 h9 ?_
  refine xi_aload_n 1 dX12_exchanges_19 rfl ?_
  refine yi_getR (f := 13) dX12_exchanges_20 sh_149 rfl ok_9 (by decide) w_1021 rfl ?_
  refine xi_iload_n 3 dX12_exchanges_23 rfl ?_
  refine xi_iload_n 0 dX12_exchanges_24 rfl ?_
  obtain ⟨g10, hq⟩ := chk_some hq
  obtain ⟨t11, h12, hq⟩ := wrb_some hq
  refine yi_iastoreV dX12_exchanges_25 sh_154 g10 h12 ?_
  have r13 := some_pair hq
  obtain ⟨rfl, rfl⟩ := r13
  exact xi_vret dX12_exchanges_26 rfl (Nat.le_of_ble_eq_true rfl) (Nat.le_of_ble_eq_true rfl) ⟨rfl, rfl⟩
noncomputable def FX12_far (a : Int32) (b : Int32) (c : Int32) (σ : St) : Option ((Int32) × St) :=
  (bnd (FX12_isPoint a b σ) (fun v1 t2 => (if v1 = (0 : Int32) then (some ((-2 : Int32), t2)) else (bnd (FX12_isPoint a c t2) (fun v6 t7 => (if v6 = (0 : Int32) then (some ((-2 : Int32), t7)) else (bnd (FX12_farOf a b c t7) (fun v11 t12 => (some (v11, t12))))))))))
set_option maxHeartbeats 4000000 in
set_option maxRecDepth 100000 in
theorem KX12_far (G : xG) (Gb : xMem) (a : Int32) (b : Int32) (c : Int32) (σ : St) (r0 : Int32) (t0 : St) (hq : FX12_far a b c σ = some (r0, t0)) : xC G mX12_far 4 0 0 [.ref 149, .int a, .int b, .int c] (mem σ Gb) (PQ r0 t0 Gb) := by
  unfold FX12_far at hq
  refine xC.of (by decide) (Nat.le_of_ble_eq_true rfl) ?_
  show xW _ _ _ _ 0 [(0, .ref 149), (1, .int a), (2, .int b), (3, .int c)] [] _ 0 0
  refine xi_aload_n 0 dX12_far_0 rfl ?_
  refine xi_iload_n 1 dX12_far_1 rfl ?_
  refine xi_iload_n 2 dX12_far_2 rfl ?_
  obtain ⟨v1, t2, k3, hq⟩ := bnd_some hq
  refine xi_callV (as := [.int a, .int b]) (rest := []) dX12_far_3 (KX12_isPoint G Gb a b _ _ _ k3) mkX12_isPoint w_1257 ws_63 w_1255 (mem_get sh_149) rfl rfl rfl rfl (Nat.le_of_ble_eq_true rfl) (Nat.le_of_ble_eq_true rfl) (Nat.le_of_ble_eq_true rfl) (Nat.le_of_ble_eq_true rfl) (Nat.le_of_ble_eq_true rfl) ?_
  intro v M2 hz
  obtain ⟨rfl, rfl⟩ := hz
  show xW _ _ _ _ 6 _ [.int v1] (mem t2 Gb) _ _
  refine xi_if_eq (tgt := 28) dX12_far_6 (by decide) (fun c4 => ?_) (fun c4 => ?_)
  · replace hq := ite_p c4 hq
    refine xi_bipush (v := (-2)) dX12_far_28 (by decide) ?_
    have r5 := some_pair hq
    obtain ⟨rfl, rfl⟩ := r5
    exact xi_iret dX12_far_30 rfl rfl (Nat.le_of_ble_eq_true rfl) (Nat.le_of_ble_eq_true rfl) ⟨rfl, rfl⟩
  · replace hq := ite_n c4 hq
    refine xi_aload_n 0 dX12_far_9 rfl ?_
    refine xi_iload_n 1 dX12_far_10 rfl ?_
    refine xi_iload_n 3 dX12_far_11 rfl ?_
    obtain ⟨v6, t7, k8, hq⟩ := bnd_some hq
    refine xi_callV (as := [.int a, .int c]) (rest := []) dX12_far_12 (KX12_isPoint G Gb a c _ _ _ k8) mkX12_isPoint w_1257 ws_63 w_1255 (mem_get sh_149) rfl rfl rfl rfl (Nat.le_of_ble_eq_true rfl) (Nat.le_of_ble_eq_true rfl) (Nat.le_of_ble_eq_true rfl) (Nat.le_of_ble_eq_true rfl) (Nat.le_of_ble_eq_true rfl) ?_
    intro v M2 hz
    obtain ⟨rfl, rfl⟩ := hz
    show xW _ _ _ _ 15 _ [.int v6] (mem t7 Gb) _ _
    refine xi_if_eq (tgt := 28) dX12_far_15 (by decide) (fun c9 => ?_) (fun c9 => ?_)
    · replace hq := ite_p c9 hq
      refine xi_bipush (v := (-2)) dX12_far_28 (by decide) ?_
      have r10 := some_pair hq
      obtain ⟨rfl, rfl⟩ := r10
      exact xi_iret dX12_far_30 rfl rfl (Nat.le_of_ble_eq_true rfl) (Nat.le_of_ble_eq_true rfl) ⟨rfl, rfl⟩
    · replace hq := ite_n c9 hq
      refine xi_aload_n 0 dX12_far_18 rfl ?_
      refine xi_iload_n 1 dX12_far_19 rfl ?_
      refine xi_iload_n 2 dX12_far_20 rfl ?_
      refine xi_iload_n 3 dX12_far_21 rfl ?_
      obtain ⟨v11, t12, k13, hq⟩ := bnd_some hq
      refine xi_callV (as := [.int a, .int b, .int c]) (rest := []) dX12_far_22 (KX12_farOf G Gb a b c _ _ _ k13) mkX12_farOf w_1241 ws_60 w_1239 (mem_get sh_149) rfl rfl rfl rfl (Nat.le_of_ble_eq_true rfl) (Nat.le_of_ble_eq_true rfl) (Nat.le_of_ble_eq_true rfl) (Nat.le_of_ble_eq_true rfl) (Nat.le_of_ble_eq_true rfl) ?_
      intro v M2 hz
      obtain ⟨rfl, rfl⟩ := hz
      show xW _ _ _ _ 25 _ [.int v11] (mem t12 Gb) _ _
      refine xi_goto (tgt := 30) dX12_far_25 (by decide) ?_
      have r14 := some_pair hq
      obtain ⟨rfl, rfl⟩ := r14
      exact xi_iret dX12_far_30 rfl rfl (Nat.le_of_ble_eq_true rfl) (Nat.le_of_ble_eq_true rfl) ⟨rfl, rfl⟩
noncomputable def FX12_fault (a : Int32) (σ : St) : Option ((Int32) × St) :=
  (if a = (0 : Int32) then (rdb σ 149 (6) (fun v7 => (some (v7, σ)))) else (if a = (1 : Int32) then (rdb σ 149 (7) (fun v4 => (some (v4, σ)))) else (some ((-1 : Int32), σ))))
set_option maxHeartbeats 4000000 in
set_option maxRecDepth 100000 in
theorem KX12_fault (G : xG) (Gb : xMem) (a : Int32) (σ : St) (r0 : Int32) (t0 : St) (hq : FX12_fault a σ = some (r0, t0)) : xC G mX12_fault 0 0 0 [.ref 149, .int a] (mem σ Gb) (PQ r0 t0 Gb) := by
  unfold FX12_fault at hq
  refine xC.of (by decide) (Nat.le_of_ble_eq_true rfl) ?_
  show xW _ _ _ _ 0 [(0, .ref 149), (1, .int a)] [] _ 0 0
  refine xi_iload_n 1 dX12_fault_0 rfl ?_
  refine xi_if_ne (tgt := 11) dX12_fault_1 (by decide) (fun c1 => ?_) (fun c1 => ?_)
  · replace hq := ite_n c1 hq
    refine xi_iload_n 1 dX12_fault_11 rfl ?_
    refine xi_iconst (v := 1) dX12_fault_12 (by decide) ?_
    refine xi_icmp_ne (tgt := 23) dX12_fault_13 (by decide) (fun c2 => ?_) (fun c2 => ?_)
    · replace hq := ite_n c2 hq
      refine xi_iconst (v := (-1)) dX12_fault_23 (by decide) ?_
      have r3 := some_pair hq
      obtain ⟨rfl, rfl⟩ := r3
      exact xi_iret dX12_fault_24 rfl rfl (Nat.le_of_ble_eq_true rfl) (Nat.le_of_ble_eq_true rfl) ⟨rfl, rfl⟩
    · replace hq := ite_p c2 hq
      refine xi_aload_n 0 dX12_fault_16 rfl ?_
      obtain ⟨v4, h5, hq⟩ := rdb_some hq
      refine yi_getV (f := 7) dX12_fault_17 sh_149 rfl ok_9 (by decide) w_1015 rfl h5 ?_
      refine xi_goto (tgt := 24) dX12_fault_20 (by decide) ?_
      have r6 := some_pair hq
      obtain ⟨rfl, rfl⟩ := r6
      exact xi_iret dX12_fault_24 rfl rfl (Nat.le_of_ble_eq_true rfl) (Nat.le_of_ble_eq_true rfl) ⟨rfl, rfl⟩
  · replace hq := ite_p c1 hq
    refine xi_aload_n 0 dX12_fault_4 rfl ?_
    obtain ⟨v7, h8, hq⟩ := rdb_some hq
    refine yi_getV (f := 6) dX12_fault_5 sh_149 rfl ok_9 (by decide) w_1014 rfl h8 ?_
    refine xi_goto (tgt := 24) dX12_fault_8 (by decide) ?_
    have r9 := some_pair hq
    obtain ⟨rfl, rfl⟩ := r9
    exact xi_iret dX12_fault_24 rfl rfl (Nat.le_of_ble_eq_true rfl) (Nat.le_of_ble_eq_true rfl) ⟨rfl, rfl⟩
noncomputable def FX12_faults (a : Int32) (σ : St) : Option ((Unit) × St) :=
  (rdb σ 149 (12) (fun v1 => (if v1 = (0 : Int32) then (wrb σ 149 (12) (1 : Int32) (fun t5 => (wrb t5 149 (6) a (fun t7 => (rdb t7 149 (9) (fun v9 => (wrb t7 149 (7) v9 (fun t11 => (some ((), t11)))))))))) else (some ((), σ)))))
set_option maxHeartbeats 4000000 in
set_option maxRecDepth 100000 in
theorem KX12_faults (G : xG) (Gb : xMem) (a : Int32) (σ : St) (r0 : Unit) (t0 : St) (hq : FX12_faults a σ = some (r0, t0)) : xC G mX12_faults 0 0 0 [.ref 149, .int a] (mem σ Gb) (PV r0 t0 Gb) := by
  unfold FX12_faults at hq
  refine xC.of (by decide) (Nat.le_of_ble_eq_true rfl) ?_
  show xW _ _ _ _ 0 [(0, .ref 149), (1, .int a)] [] _ 0 0
  refine xi_aload_n 0 dX12_faults_0 rfl ?_
  obtain ⟨v1, h2, hq⟩ := rdb_some hq
  refine yi_getV (f := 12) dX12_faults_1 sh_149 rfl ok_9 (by decide) w_1020 rfl h2 ?_
  refine xi_if_ne (tgt := 25) dX12_faults_4 (by decide) (fun c3 => ?_) (fun c3 => ?_)
  · replace hq := ite_n c3 hq
    have r4 := some_pair hq
    obtain ⟨rfl, rfl⟩ := r4
    exact xi_vret dX12_faults_25 rfl (Nat.le_of_ble_eq_true rfl) (Nat.le_of_ble_eq_true rfl) ⟨rfl, rfl⟩
  · replace hq := ite_p c3 hq
    refine xi_aload_n 0 dX12_faults_7 rfl ?_
    refine xi_iconst (v := 1) dX12_faults_8 (by decide) ?_
    obtain ⟨t5, h6, hq⟩ := wrb_some hq
    refine yi_putV (f := 12) (ty := .boolean) dX12_faults_9 sh_149 rfl ok_9 (by decide) w_1020 rfl rfl pf_Z rfl rfl h6 ?_
    refine xi_aload_n 0 dX12_faults_12 rfl ?_
    refine xi_iload_n 1 dX12_faults_13 rfl ?_
    obtain ⟨t7, h8, hq⟩ := wrb_some hq
    refine yi_putV (f := 6) (ty := .int) dX12_faults_14 sh_149 rfl ok_9 (by decide) w_1014 rfl rfl pf_I rfl rfl h8 ?_
    refine xi_aload_n 0 dX12_faults_17 rfl ?_
    refine xi_aload_n 0 dX12_faults_18 rfl ?_
    obtain ⟨v9, h10, hq⟩ := rdb_some hq
    refine yi_getV (f := 9) dX12_faults_19 sh_149 rfl ok_9 (by decide) w_1017 rfl h10 ?_
    obtain ⟨t11, h12, hq⟩ := wrb_some hq
    refine yi_putV (f := 7) (ty := .int) dX12_faults_22 sh_149 rfl ok_9 (by decide) w_1015 rfl rfl pf_I rfl rfl h12 ?_
    have r13 := some_pair hq
    obtain ⟨rfl, rfl⟩ := r13
    exact xi_vret dX12_faults_25 rfl (Nat.le_of_ble_eq_true rfl) (Nat.le_of_ble_eq_true rfl) ⟨rfl, rfl⟩
noncomputable def SX12_fewestOf_4 (w1 : Int32) (c : Int32 × Int32) (σ : St) : Option (((Int32 × Int32) ⊕ (Int32)) × St) :=
  (if (9 : Int32) ≤ c.2 then (some (Sum.inr c.1, σ)) else (bnd (FX12_has w1 c.2 σ) (fun v2 t3 => (bnd (if v2 = (0 : Int32) then (some (c.1, t3)) else (if c.1 = (-1 : Int32) then (some (c.2, t3)) else (chk (inb c.2 9) (rdb t3 160 (c.2.toNatClampNeg) (fun v12 => (bnd (FX12_ones v12 t3) (fun v14 t15 => (chk (inb c.1 9) (rdb t15 160 (c.1.toNatClampNeg) (fun v18 => (bnd (FX12_ones v18 t15) (fun v20 t21 => (if v20 ≤ v14 then (some (c.1, t21)) else (some (c.2, t21))))))))))))))) (fun v6 t7 => (some (Sum.inl (v6, (c.2 + 1)), t7)))))))
set_option maxHeartbeats 4000000 in
set_option maxRecDepth 100000 in
theorem SX12_fewestOf_4_w (G : xG) (Gb : xMem) (w1 : Int32) (r0 : Int32) (t0 : St) :
    ∀ (k : Nat) (c : Int32 × Int32) (σ : St) (r : Int32) (σ' : St), itr (SX12_fewestOf_4 w1) k c σ = some (r, σ') → (xW G mX12_fewestOf (xrm 1 0 0) (xQ G (PQ r0 t0 Gb) 0 0) 56 [(2, .int r)] [] (mem σ' Gb) 0 0) → xW G mX12_fewestOf (xrm 1 0 0) (xQ G (PQ r0 t0 Gb) 0 0) 4 [(0, .ref 149), (1, .int w1), (2, .int c.1), (3, .int c.2)] [] (mem σ Gb) 0 0 := by
  intro k
  induction k with
  | zero =>
    intro c σ r σ' h
    exact absurd h (itr_zero _ _ _ _)
  | succ k ih =>
    intro c σ r σ' h HE
    obtain ⟨x, s1, hs, h⟩ := itr_succ h
    unfold SX12_fewestOf_4 at hs
    refine xi_iload_n 3 dX12_fewestOf_4 rfl ?_
    refine xi_bipush (v := 9) dX12_fewestOf_5 (by decide) ?_
    refine xi_icmp_ge (tgt := 56) dX12_fewestOf_7 (by decide) (fun c1 => ?_) (fun c1 => ?_)
    · replace hs := ite_p c1 hs
      refine xi_sub (lv' := [(2, .int c.1)]) [2] rfl ?_
      obtain ⟨rfl, rfl⟩ := some_pair hs
      obtain ⟨rfl, rfl⟩ := some_pair h
      exact HE
    · replace hs := ite_n c1 hs
      refine xi_iload_n 1 dX12_fewestOf_10 rfl ?_
      refine xi_iload_n 3 dX12_fewestOf_11 rfl ?_
      obtain ⟨v2, t3, k4, hs⟩ := bnd_some hs
      refine xi_callS (as := [.int w1, .int c.2]) (rest := []) dX12_fewestOf_12 (KX12_has G Gb w1 c.2 _ _ _ k4) mkX12_has w_1207 w_1206 rfl rfl (Nat.le_of_ble_eq_true rfl) (Nat.le_of_ble_eq_true rfl) (Nat.le_of_ble_eq_true rfl) (Nat.le_of_ble_eq_true rfl) (Nat.le_of_ble_eq_true rfl) ?_
      intro v M2 hz
      obtain ⟨rfl, rfl⟩ := hz
      show xW _ _ _ _ 15 _ [.int v2] (mem t3 Gb) _ _
      obtain ⟨v6, t7, m8, hs⟩ := bnd_some hs
      have key9 : xW G mX12_fewestOf (xrm 1 0 0) (xQ G (PQ r0 t0 Gb) 0 0) 49 [(0, .ref 149), (1, .int w1), (3, .int c.2)] [.int v6] (mem t7 Gb) 0 0 := by
        refine xi_istore_n (lv' := [(2, .int v6), (0, .ref 149), (1, .int w1), (3, .int c.2)]) dX12_fewestOf_49 (by decide) rfl ?_
        refine xi_iinc (v := (c.2 + 1)) (lv' := [(3, .int (c.2 + 1)), (2, .int v6), (0, .ref 149), (1, .int w1)]) 3 dX12_fewestOf_50 rfl rfl (by decide) rfl ?_
        refine xi_goto (tgt := 4) dX12_fewestOf_53 (by decide) ?_
        refine xi_sub (lv' := [(0, .ref 149), (1, .int w1), (2, .int v6), (3, .int (c.2 + 1))]) [2, 3, 1, 0] rfl ?_
        obtain ⟨rfl, rfl⟩ := some_pair hs
        exact ih (v6, (c.2 + 1)) t7 _ _ h HE
      refine xi_if_eq (tgt := 48) dX12_fewestOf_15 (by decide) (fun c5 => ?_) (fun c5 => ?_)
      · replace m8 := ite_p c5 m8
        refine xi_iload_n 2 dX12_fewestOf_48 rfl ?_
        obtain ⟨rfl, rfl⟩ := some_pair m8
        refine xi_sub (lv' := [(0, .ref 149), (1, .int w1), (3, .int c.2)]) [0, 1, 3] rfl ?_
        exact key9
      · replace m8 := ite_n c5 m8
        refine xi_iload_n 2 dX12_fewestOf_18 rfl ?_
        refine xi_iconst (v := (-1)) dX12_fewestOf_19 (by decide) ?_
        refine xi_icmp_eq (tgt := 44) dX12_fewestOf_20 (by decide) (fun c10 => ?_) (fun c10 => ?_)
        · replace m8 := ite_p c10 m8
          refine xi_iload_n 3 dX12_fewestOf_44 rfl ?_
          refine xi_goto (tgt := 49) dX12_fewestOf_45 (by decide) ?_
          obtain ⟨rfl, rfl⟩ := some_pair m8
          refine xi_sub (lv' := [(0, .ref 149), (1, .int w1), (3, .int c.2)]) [0, 1, 3] rfl ?_
          exact key9
        · replace m8 := ite_n c10 m8
          refine xi_aload_n 0 dX12_fewestOf_23 rfl ?_
          refine yi_getR (f := 22) dX12_fewestOf_24 sh_149 rfl ok_9 (by decide) w_1030 rfl ?_
          refine xi_iload_n 3 dX12_fewestOf_27 rfl ?_
          obtain ⟨g11, m8⟩ := chk_some m8
          obtain ⟨v12, h13, m8⟩ := rdb_some m8
          refine yi_ialoadV dX12_fewestOf_28 sh_160 g11 h13 ?_
          obtain ⟨v14, t15, k16, m8⟩ := bnd_some m8
          refine xi_callS (as := [.int v12]) (rest := []) dX12_fewestOf_29 (KX12_ones G Gb v12 _ _ _ k16) mkX12_ones w_1195 w_1194 rfl rfl (Nat.le_of_ble_eq_true rfl) (Nat.le_of_ble_eq_true rfl) (Nat.le_of_ble_eq_true rfl) (Nat.le_of_ble_eq_true rfl) (Nat.le_of_ble_eq_true rfl) ?_
          intro v M2 hz
          obtain ⟨rfl, rfl⟩ := hz
          show xW _ _ _ _ 32 _ [.int v14] (mem t15 Gb) _ _
          refine xi_aload_n 0 dX12_fewestOf_32 rfl ?_
          refine yi_getR (f := 22) dX12_fewestOf_33 sh_149 rfl ok_9 (by decide) w_1030 rfl ?_
          refine xi_iload_n 2 dX12_fewestOf_36 rfl ?_
          obtain ⟨g17, m8⟩ := chk_some m8
          obtain ⟨v18, h19, m8⟩ := rdb_some m8
          refine yi_ialoadV dX12_fewestOf_37 sh_160 g17 h19 ?_
          obtain ⟨v20, t21, k22, m8⟩ := bnd_some m8
          refine xi_callS (as := [.int v18]) (rest := [.int v14]) dX12_fewestOf_38 (KX12_ones G Gb v18 _ _ _ k22) mkX12_ones w_1195 w_1194 rfl rfl (Nat.le_of_ble_eq_true rfl) (Nat.le_of_ble_eq_true rfl) (Nat.le_of_ble_eq_true rfl) (Nat.le_of_ble_eq_true rfl) (Nat.le_of_ble_eq_true rfl) ?_
          intro v M2 hz
          obtain ⟨rfl, rfl⟩ := hz
          show xW _ _ _ _ 41 _ [.int v20, .int v14] (mem t21 Gb) _ _
          refine xi_icmp_ge (tgt := 48) dX12_fewestOf_41 (by decide) (fun c23 => ?_) (fun c23 => ?_)
          · replace m8 := ite_p c23 m8
            refine xi_iload_n 2 dX12_fewestOf_48 rfl ?_
            obtain ⟨rfl, rfl⟩ := some_pair m8
            refine xi_sub (lv' := [(0, .ref 149), (1, .int w1), (3, .int c.2)]) [0, 1, 3] rfl ?_
            exact key9
          · replace m8 := ite_n c23 m8
            refine xi_iload_n 3 dX12_fewestOf_44 rfl ?_
            refine xi_goto (tgt := 49) dX12_fewestOf_45 (by decide) ?_
            obtain ⟨rfl, rfl⟩ := some_pair m8
            refine xi_sub (lv' := [(0, .ref 149), (1, .int w1), (3, .int c.2)]) [0, 1, 3] rfl ?_
            exact key9
noncomputable def FX12_fewestOf (a : Int32) (σ : St) : Option ((Int32) × St) :=
  (bnd (wh (SX12_fewestOf_4 a) ((-1 : Int32), (0 : Int32)) σ) (fun e24 t25 => (some (e24, t25))))
set_option maxHeartbeats 4000000 in
set_option maxRecDepth 100000 in
theorem KX12_fewestOf (G : xG) (Gb : xMem) (a : Int32) (σ : St) (r0 : Int32) (t0 : St) (hq : FX12_fewestOf a σ = some (r0, t0)) : xC G mX12_fewestOf 1 0 0 [.ref 149, .int a] (mem σ Gb) (PQ r0 t0 Gb) := by
  unfold FX12_fewestOf at hq
  refine xC.of (by decide) (Nat.le_of_ble_eq_true rfl) ?_
  show xW _ _ _ _ 0 [(0, .ref 149), (1, .int a)] [] _ 0 0
  refine xi_iconst (v := (-1)) dX12_fewestOf_0 (by decide) ?_
  refine xi_istore_n (lv' := [(2, .int (-1)), (0, .ref 149), (1, .int a)]) dX12_fewestOf_1 (by decide) rfl ?_
  refine xi_iconst (v := 0) dX12_fewestOf_2 (by decide) ?_
  refine xi_istore_n (lv' := [(3, .int 0), (2, .int (-1)), (0, .ref 149), (1, .int a)]) dX12_fewestOf_3 (by decide) rfl ?_
  refine xi_sub (lv' := [(0, .ref 149), (1, .int a), (2, .int (-1)), (3, .int 0)]) [2, 3, 1, 0] rfl ?_
  obtain ⟨e24, t25, k26, hq⟩ := bnd_some hq
  obtain ⟨n27, k26⟩ := wh_itr k26
  refine SX12_fewestOf_4_w G Gb a r0 t0 n27 ((-1 : Int32), (0 : Int32)) σ _ _ k26 ?_
  show xW G mX12_fewestOf (xrm 1 0 0) (xQ G (PQ r0 t0 Gb) 0 0) 56 [(2, .int e24)] [] (mem t25 Gb) 0 0
  refine xi_iload_n 0 dX12_fewestOf_56 rfl ?_
  have r28 := some_pair hq
  obtain ⟨rfl, rfl⟩ := r28
  exact xi_iret dX12_fewestOf_57 rfl rfl (Nat.le_of_ble_eq_true rfl) (Nat.le_of_ble_eq_true rfl) ⟨rfl, rfl⟩
noncomputable def SX12_filled_75 (w1 : Int32) (w2 : Int32) (w4 : Int32) (w5 : Int32) (w6 : Int32) (w7 : Int32) (c : Int32 × Int32) (σ : St) : Option (((Int32 × Int32) ⊕ ((Int32) ⊕ (Int32))) × St) :=
  (bnd (FX12_points w1 σ) (fun v24 t25 => (if v24 ≤ c.2 then (some (Sum.inr (Sum.inr c.1), t25)) else (bnd (FX12_has w6 w7 t25) (fun v28 t29 => (if v28 = (0 : Int32) then (some (Sum.inl (c.1, (c.2 + 1)), t29)) else (bnd (FX12_has w6 c.2 t29) (fun v32 t33 => (if v32 = (0 : Int32) then (some (Sum.inl (c.1, (c.2 + 1)), t33)) else (bnd (FX12_neighbours w1 w5 w7 t33) (fun v36 t37 => (bnd (FX12_has v36 c.2 t37) (fun v39 t40 => (if v39 = (0 : Int32) then (if c.1 = w2 then (some (Sum.inr (Sum.inl (((10 : Int32) * w7) + c.2)), t40)) else (some (Sum.inl ((c.1 + 1), (c.2 + 1)), t40))) else (some (Sum.inl (c.1, (c.2 + 1)), t40))))))))))))))))
noncomputable def SX12_filled_59 (w1 : Int32) (w2 : Int32) (w4 : Int32) (w5 : Int32) (w6 : Int32) (c : Int32 × Int32) (σ : St) : Option (((Int32 × Int32) ⊕ ((Int32) ⊕ (Int32))) × St) :=
  (bnd (FX12_points w1 σ) (fun v20 t21 => (if v20 ≤ c.2 then (some (Sum.inr (Sum.inr c.1), t21)) else (bnd (wh (SX12_filled_75 w1 w2 w4 w5 w6 c.2) (c.1, (c.2 + (1 : Int32))) t21) (fun e45 t46 => Sum.elim (fun e45 => (some (Sum.inr (Sum.inl e45), t46))) (fun e45 => (some (Sum.inl (e45, (c.2 + 1)), t46))) e45)))))
noncomputable def SX12_filled_21 (w1 : Int32) (w2 : Int32) (c : Int32 × Int32) (σ : St) : Option (((Int32 × Int32) ⊕ ((Int32) ⊕ (Int32))) × St) :=
  (bnd (FX12_points w1 σ) (fun v7 t8 => (if v7 ≤ c.2 then (some (Sum.inr (Sum.inr c.1), t8)) else (bnd (FX12_aheadOf w1 c.2 t8) (fun v11 t12 => (bnd (FX12_at w1 c.2 t12) (fun v14 t15 => (bnd (FX12_neighbours w1 v11 v14 t15) (fun v17 t18 => (bnd (wh (SX12_filled_59 w1 w2 c.2 v11 v17) (c.1, (0 : Int32)) t18) (fun e50 t51 => Sum.elim (fun e50 => (some (Sum.inr (Sum.inl e50), t51))) (fun e50 => (some (Sum.inl (e50, (c.2 + 1)), t51))) e50)))))))))))
set_option maxHeartbeats 4000000 in
set_option maxRecDepth 100000 in
theorem SX12_filled_75_w (G : xG) (Gb : xMem) (w1 : Int32) (w2 : Int32) (w4 : Int32) (w5 : Int32) (w6 : Int32) (w7 : Int32) (r0 : Int32) (t0 : St) :
    ∀ (k : Nat) (c : Int32 × Int32) (σ : St) (r : (Int32) ⊕ (Int32)) (σ' : St), itr (SX12_filled_75 w1 w2 w4 w5 w6 w7) k c σ = some (r, σ') → (Sum.elim (fun v => v = r0 ∧ σ' = t0) (fun e => xW G mX12_filled (xrm 3 0 0) (xQ G (PQ r0 t0 Gb) 0 0) 145 [(0, .ref 149), (1, .int w1), (2, .int w2), (3, .int e), (4, .int w4), (5, .int w5), (6, .int w6), (7, .int w7)] [] (mem σ' Gb) 0 0) r) → xW G mX12_filled (xrm 3 0 0) (xQ G (PQ r0 t0 Gb) 0 0) 75 [(0, .ref 149), (1, .int w1), (2, .int w2), (3, .int c.1), (4, .int w4), (5, .int w5), (6, .int w6), (7, .int w7), (8, .int c.2)] [] (mem σ Gb) 0 0 := by
  intro k
  induction k with
  | zero =>
    intro c σ r σ' h
    exact absurd h (itr_zero _ _ _ _)
  | succ k ih =>
    intro c σ r σ' h HE
    obtain ⟨x, s1, hs, h⟩ := itr_succ h
    unfold SX12_filled_75 at hs
    refine xi_iload 8 dX12_filled_75 rfl ?_
    refine xi_aload_n 0 dX12_filled_77 rfl ?_
    refine xi_iload_n 1 dX12_filled_78 rfl ?_
    obtain ⟨v24, t25, k26, hs⟩ := bnd_some hs
    refine xi_callV (as := [.int w1]) (rest := [.int c.2]) dX12_filled_79 (KX12_points G Gb w1 _ _ _ k26) mkX12_points w_1108 ws_36 w_1106 (mem_get sh_149) rfl rfl rfl rfl (Nat.le_of_ble_eq_true rfl) (Nat.le_of_ble_eq_true rfl) (Nat.le_of_ble_eq_true rfl) (Nat.le_of_ble_eq_true rfl) (Nat.le_of_ble_eq_true rfl) ?_
    intro v M2 hz
    obtain ⟨rfl, rfl⟩ := hz
    show xW _ _ _ _ 82 _ [.int v24, .int c.2] (mem t25 Gb) _ _
    refine xi_icmp_ge (tgt := 145) dX12_filled_82 (by decide) (fun c27 => ?_) (fun c27 => ?_)
    · replace hs := ite_p c27 hs
      refine xi_sub (lv' := [(0, .ref 149), (1, .int w1), (2, .int w2), (3, .int c.1), (4, .int w4), (5, .int w5), (6, .int w6), (7, .int w7)]) [0, 1, 2, 3, 4, 5, 6, 7] rfl ?_
      obtain ⟨rfl, rfl⟩ := some_pair hs
      obtain ⟨rfl, rfl⟩ := some_pair h
      exact HE
    · replace hs := ite_n c27 hs
      refine xi_iload 6 dX12_filled_85 rfl ?_
      refine xi_iload 7 dX12_filled_87 rfl ?_
      obtain ⟨v28, t29, k30, hs⟩ := bnd_some hs
      refine xi_callS (as := [.int w6, .int w7]) (rest := []) dX12_filled_89 (KX12_has G Gb w6 w7 _ _ _ k30) mkX12_has w_1207 w_1206 rfl rfl (Nat.le_of_ble_eq_true rfl) (Nat.le_of_ble_eq_true rfl) (Nat.le_of_ble_eq_true rfl) (Nat.le_of_ble_eq_true rfl) (Nat.le_of_ble_eq_true rfl) ?_
      intro v M2 hz
      obtain ⟨rfl, rfl⟩ := hz
      show xW _ _ _ _ 92 _ [.int v28] (mem t29 Gb) _ _
      refine xi_if_eq (tgt := 139) dX12_filled_92 (by decide) (fun c31 => ?_) (fun c31 => ?_)
      · replace hs := ite_p c31 hs
        refine xi_iinc (v := (c.2 + 1)) (lv' := [(8, .int (c.2 + 1)), (0, .ref 149), (1, .int w1), (2, .int w2), (3, .int c.1), (4, .int w4), (5, .int w5), (6, .int w6), (7, .int w7)]) 8 dX12_filled_139 rfl rfl (by decide) rfl ?_
        refine xi_goto (tgt := 75) dX12_filled_142 (by decide) ?_
        refine xi_sub (lv' := [(0, .ref 149), (1, .int w1), (2, .int w2), (3, .int c.1), (4, .int w4), (5, .int w5), (6, .int w6), (7, .int w7), (8, .int (c.2 + 1))]) [1, 2, 3, 4, 5, 6, 7, 8, 0] rfl ?_
        obtain ⟨rfl, rfl⟩ := some_pair hs
        exact ih (c.1, (c.2 + 1)) t29 _ _ h HE
      · replace hs := ite_n c31 hs
        refine xi_iload 6 dX12_filled_95 rfl ?_
        refine xi_iload 8 dX12_filled_97 rfl ?_
        obtain ⟨v32, t33, k34, hs⟩ := bnd_some hs
        refine xi_callS (as := [.int w6, .int c.2]) (rest := []) dX12_filled_99 (KX12_has G Gb w6 c.2 _ _ _ k34) mkX12_has w_1207 w_1206 rfl rfl (Nat.le_of_ble_eq_true rfl) (Nat.le_of_ble_eq_true rfl) (Nat.le_of_ble_eq_true rfl) (Nat.le_of_ble_eq_true rfl) (Nat.le_of_ble_eq_true rfl) ?_
        intro v M2 hz
        obtain ⟨rfl, rfl⟩ := hz
        show xW _ _ _ _ 102 _ [.int v32] (mem t33 Gb) _ _
        refine xi_if_eq (tgt := 139) dX12_filled_102 (by decide) (fun c35 => ?_) (fun c35 => ?_)
        · replace hs := ite_p c35 hs
          refine xi_iinc (v := (c.2 + 1)) (lv' := [(8, .int (c.2 + 1)), (0, .ref 149), (1, .int w1), (2, .int w2), (3, .int c.1), (4, .int w4), (5, .int w5), (6, .int w6), (7, .int w7)]) 8 dX12_filled_139 rfl rfl (by decide) rfl ?_
          refine xi_goto (tgt := 75) dX12_filled_142 (by decide) ?_
          refine xi_sub (lv' := [(0, .ref 149), (1, .int w1), (2, .int w2), (3, .int c.1), (4, .int w4), (5, .int w5), (6, .int w6), (7, .int w7), (8, .int (c.2 + 1))]) [1, 2, 3, 4, 5, 6, 7, 8, 0] rfl ?_
          obtain ⟨rfl, rfl⟩ := some_pair hs
          exact ih (c.1, (c.2 + 1)) t33 _ _ h HE
        · replace hs := ite_n c35 hs
          refine xi_aload_n 0 dX12_filled_105 rfl ?_
          refine xi_iload_n 1 dX12_filled_106 rfl ?_
          refine xi_iload 5 dX12_filled_107 rfl ?_
          refine xi_iload 7 dX12_filled_109 rfl ?_
          obtain ⟨v36, t37, k38, hs⟩ := bnd_some hs
          refine xi_callV (as := [.int w1, .int w5, .int w7]) (rest := []) dX12_filled_111 (KX12_neighbours G Gb w1 w5 w7 _ _ _ k38) mkX12_neighbours w_1308 ws_70 w_1306 (mem_get sh_149) rfl rfl rfl rfl (Nat.le_of_ble_eq_true rfl) (Nat.le_of_ble_eq_true rfl) (Nat.le_of_ble_eq_true rfl) (Nat.le_of_ble_eq_true rfl) (Nat.le_of_ble_eq_true rfl) ?_
          intro v M2 hz
          obtain ⟨rfl, rfl⟩ := hz
          show xW _ _ _ _ 114 _ [.int v36] (mem t37 Gb) _ _
          refine xi_iload 8 dX12_filled_114 rfl ?_
          obtain ⟨v39, t40, k41, hs⟩ := bnd_some hs
          refine xi_callS (as := [.int v36, .int c.2]) (rest := []) dX12_filled_116 (KX12_has G Gb v36 c.2 _ _ _ k41) mkX12_has w_1207 w_1206 rfl rfl (Nat.le_of_ble_eq_true rfl) (Nat.le_of_ble_eq_true rfl) (Nat.le_of_ble_eq_true rfl) (Nat.le_of_ble_eq_true rfl) (Nat.le_of_ble_eq_true rfl) ?_
          intro v M2 hz
          obtain ⟨rfl, rfl⟩ := hz
          show xW _ _ _ _ 119 _ [.int v39] (mem t40 Gb) _ _
          refine xi_if_ne (tgt := 139) dX12_filled_119 (by decide) (fun c42 => ?_) (fun c42 => ?_)
          · replace hs := ite_n c42 hs
            refine xi_iinc (v := (c.2 + 1)) (lv' := [(8, .int (c.2 + 1)), (0, .ref 149), (1, .int w1), (2, .int w2), (3, .int c.1), (4, .int w4), (5, .int w5), (6, .int w6), (7, .int w7)]) 8 dX12_filled_139 rfl rfl (by decide) rfl ?_
            refine xi_goto (tgt := 75) dX12_filled_142 (by decide) ?_
            refine xi_sub (lv' := [(0, .ref 149), (1, .int w1), (2, .int w2), (3, .int c.1), (4, .int w4), (5, .int w5), (6, .int w6), (7, .int w7), (8, .int (c.2 + 1))]) [1, 2, 3, 4, 5, 6, 7, 8, 0] rfl ?_
            obtain ⟨rfl, rfl⟩ := some_pair hs
            exact ih (c.1, (c.2 + 1)) t40 _ _ h HE
          · replace hs := ite_p c42 hs
            refine xi_iload_n 3 dX12_filled_122 rfl ?_
            refine xi_iload_n 2 dX12_filled_123 rfl ?_
            refine xi_icmp_ne (tgt := 136) dX12_filled_124 (by decide) (fun c43 => ?_) (fun c43 => ?_)
            · replace hs := ite_n c43 hs
              refine xi_iinc (v := (c.1 + 1)) (lv' := [(3, .int (c.1 + 1)), (0, .ref 149), (1, .int w1), (2, .int w2), (4, .int w4), (5, .int w5), (6, .int w6), (7, .int w7), (8, .int c.2)]) 3 dX12_filled_136 rfl rfl (by decide) rfl ?_
              refine xi_iinc (v := (c.2 + 1)) (lv' := [(8, .int (c.2 + 1)), (3, .int (c.1 + 1)), (0, .ref 149), (1, .int w1), (2, .int w2), (4, .int w4), (5, .int w5), (6, .int w6), (7, .int w7)]) 8 dX12_filled_139 rfl rfl (by decide) rfl ?_
              refine xi_goto (tgt := 75) dX12_filled_142 (by decide) ?_
              refine xi_sub (lv' := [(0, .ref 149), (1, .int w1), (2, .int w2), (3, .int (c.1 + 1)), (4, .int w4), (5, .int w5), (6, .int w6), (7, .int w7), (8, .int (c.2 + 1))]) [2, 3, 4, 1, 5, 6, 7, 8, 0] rfl ?_
              obtain ⟨rfl, rfl⟩ := some_pair hs
              exact ih ((c.1 + 1), (c.2 + 1)) t40 _ _ h HE
            · replace hs := ite_p c43 hs
              refine xi_bipush (v := 10) dX12_filled_127 (by decide) ?_
              refine xi_iload 7 dX12_filled_129 rfl ?_
              refine xi_imul (v := (10 : Int32) * w7) dX12_filled_131 rfl ?_
              refine xi_iload 8 dX12_filled_132 rfl ?_
              refine xi_iadd (v := ((10 : Int32) * w7) + c.2) dX12_filled_134 rfl ?_
              obtain ⟨rfl, rfl⟩ := some_pair hs
              obtain ⟨rfl, rfl⟩ := some_pair h
              have r44 := HE
              obtain ⟨rfl, rfl⟩ := r44
              exact xi_iret dX12_filled_135 rfl rfl (Nat.le_of_ble_eq_true rfl) (Nat.le_of_ble_eq_true rfl) ⟨rfl, rfl⟩
set_option maxHeartbeats 4000000 in
set_option maxRecDepth 100000 in
theorem SX12_filled_59_w (G : xG) (Gb : xMem) (w1 : Int32) (w2 : Int32) (w4 : Int32) (w5 : Int32) (w6 : Int32) (r0 : Int32) (t0 : St) :
    ∀ (k : Nat) (c : Int32 × Int32) (σ : St) (r : (Int32) ⊕ (Int32)) (σ' : St), itr (SX12_filled_59 w1 w2 w4 w5 w6) k c σ = some (r, σ') → (Sum.elim (fun v => v = r0 ∧ σ' = t0) (fun e => xW G mX12_filled (xrm 3 0 0) (xQ G (PQ r0 t0 Gb) 0 0) 151 [(0, .ref 149), (1, .int w1), (2, .int w2), (3, .int e), (4, .int w4)] [] (mem σ' Gb) 0 0) r) → xW G mX12_filled (xrm 3 0 0) (xQ G (PQ r0 t0 Gb) 0 0) 59 [(0, .ref 149), (1, .int w1), (2, .int w2), (3, .int c.1), (4, .int w4), (5, .int w5), (6, .int w6), (7, .int c.2)] [] (mem σ Gb) 0 0 := by
  intro k
  induction k with
  | zero =>
    intro c σ r σ' h
    exact absurd h (itr_zero _ _ _ _)
  | succ k ih =>
    intro c σ r σ' h HE
    obtain ⟨x, s1, hs, h⟩ := itr_succ h
    unfold SX12_filled_59 at hs
    refine xi_iload 7 dX12_filled_59 rfl ?_
    refine xi_aload_n 0 dX12_filled_61 rfl ?_
    refine xi_iload_n 1 dX12_filled_62 rfl ?_
    obtain ⟨v20, t21, k22, hs⟩ := bnd_some hs
    refine xi_callV (as := [.int w1]) (rest := [.int c.2]) dX12_filled_63 (KX12_points G Gb w1 _ _ _ k22) mkX12_points w_1108 ws_36 w_1106 (mem_get sh_149) rfl rfl rfl rfl (Nat.le_of_ble_eq_true rfl) (Nat.le_of_ble_eq_true rfl) (Nat.le_of_ble_eq_true rfl) (Nat.le_of_ble_eq_true rfl) (Nat.le_of_ble_eq_true rfl) ?_
    intro v M2 hz
    obtain ⟨rfl, rfl⟩ := hz
    show xW _ _ _ _ 66 _ [.int v20, .int c.2] (mem t21 Gb) _ _
    refine xi_icmp_ge (tgt := 151) dX12_filled_66 (by decide) (fun c23 => ?_) (fun c23 => ?_)
    · replace hs := ite_p c23 hs
      refine xi_sub (lv' := [(0, .ref 149), (1, .int w1), (2, .int w2), (3, .int c.1), (4, .int w4)]) [0, 1, 2, 3, 4] rfl ?_
      obtain ⟨rfl, rfl⟩ := some_pair hs
      obtain ⟨rfl, rfl⟩ := some_pair h
      exact HE
    · replace hs := ite_n c23 hs
      refine xi_iload 7 dX12_filled_69 rfl ?_
      refine xi_iconst (v := 1) dX12_filled_71 (by decide) ?_
      refine xi_iadd (v := c.2 + (1 : Int32)) dX12_filled_72 rfl ?_
      refine xi_istore (lv' := [(8, .int (c.2 + (1 : Int32))), (0, .ref 149), (1, .int w1), (2, .int w2), (3, .int c.1), (4, .int w4), (5, .int w5), (6, .int w6), (7, .int c.2)]) dX12_filled_73 (by decide) rfl ?_
      refine xi_sub (lv' := [(0, .ref 149), (1, .int w1), (2, .int w2), (3, .int c.1), (4, .int w4), (5, .int w5), (6, .int w6), (7, .int c.2), (8, .int (c.2 + (1 : Int32)))]) [1, 2, 3, 4, 5, 6, 7, 8, 0] rfl ?_
      obtain ⟨e45, t46, k47, hs⟩ := bnd_some hs
      obtain ⟨n48, k47⟩ := wh_itr k47
      refine SX12_filled_75_w G Gb w1 w2 w4 w5 w6 c.2 r0 t0 n48 (c.1, (c.2 + (1 : Int32))) t21 _ _ k47 ?_
      rcases e45 with e45 | e45
      · replace hs := sel_l hs
        obtain ⟨rfl, rfl⟩ := some_pair hs
        obtain ⟨rfl, rfl⟩ := some_pair h
        have r49 := HE
        exact r49
      · replace hs := sel_r hs
        show xW G mX12_filled (xrm 3 0 0) (xQ G (PQ r0 t0 Gb) 0 0) 145 [(0, .ref 149), (1, .int w1), (2, .int w2), (3, .int e45), (4, .int w4), (5, .int w5), (6, .int w6), (7, .int c.2)] [] (mem t46 Gb) 0 0
        refine xi_iinc (v := (c.2 + 1)) (lv' := [(7, .int (c.2 + 1)), (0, .ref 149), (1, .int w1), (2, .int w2), (3, .int e45), (4, .int w4), (5, .int w5), (6, .int w6)]) 7 dX12_filled_145 rfl rfl (by decide) rfl ?_
        refine xi_goto (tgt := 59) dX12_filled_148 (by decide) ?_
        refine xi_sub (lv' := [(0, .ref 149), (1, .int w1), (2, .int w2), (3, .int e45), (4, .int w4), (5, .int w5), (6, .int w6), (7, .int (c.2 + 1))]) [1, 2, 3, 4, 5, 6, 7, 0] rfl ?_
        obtain ⟨rfl, rfl⟩ := some_pair hs
        exact ih (e45, (c.2 + 1)) t46 _ _ h HE
set_option maxHeartbeats 4000000 in
set_option maxRecDepth 100000 in
theorem SX12_filled_21_w (G : xG) (Gb : xMem) (w1 : Int32) (w2 : Int32) (r0 : Int32) (t0 : St) :
    ∀ (k : Nat) (c : Int32 × Int32) (σ : St) (r : (Int32) ⊕ (Int32)) (σ' : St), itr (SX12_filled_21 w1 w2) k c σ = some (r, σ') → (Sum.elim (fun v => v = r0 ∧ σ' = t0) (fun e => xW G mX12_filled (xrm 3 0 0) (xQ G (PQ r0 t0 Gb) 0 0) 157 [(2, .int w2), (3, .int e)] [] (mem σ' Gb) 0 0) r) → xW G mX12_filled (xrm 3 0 0) (xQ G (PQ r0 t0 Gb) 0 0) 21 [(0, .ref 149), (1, .int w1), (2, .int w2), (3, .int c.1), (4, .int c.2)] [] (mem σ Gb) 0 0 := by
  intro k
  induction k with
  | zero =>
    intro c σ r σ' h
    exact absurd h (itr_zero _ _ _ _)
  | succ k ih =>
    intro c σ r σ' h HE
    obtain ⟨x, s1, hs, h⟩ := itr_succ h
    unfold SX12_filled_21 at hs
    refine xi_iload 4 dX12_filled_21 rfl ?_
    refine xi_aload_n 0 dX12_filled_23 rfl ?_
    refine xi_iload_n 1 dX12_filled_24 rfl ?_
    obtain ⟨v7, t8, k9, hs⟩ := bnd_some hs
    refine xi_callV (as := [.int w1]) (rest := [.int c.2]) dX12_filled_25 (KX12_points G Gb w1 _ _ _ k9) mkX12_points w_1108 ws_36 w_1106 (mem_get sh_149) rfl rfl rfl rfl (Nat.le_of_ble_eq_true rfl) (Nat.le_of_ble_eq_true rfl) (Nat.le_of_ble_eq_true rfl) (Nat.le_of_ble_eq_true rfl) (Nat.le_of_ble_eq_true rfl) ?_
    intro v M2 hz
    obtain ⟨rfl, rfl⟩ := hz
    show xW _ _ _ _ 28 _ [.int v7, .int c.2] (mem t8 Gb) _ _
    refine xi_icmp_ge (tgt := 157) dX12_filled_28 (by decide) (fun c10 => ?_) (fun c10 => ?_)
    · replace hs := ite_p c10 hs
      refine xi_sub (lv' := [(2, .int w2), (3, .int c.1)]) [2, 3] rfl ?_
      obtain ⟨rfl, rfl⟩ := some_pair hs
      obtain ⟨rfl, rfl⟩ := some_pair h
      exact HE
    · replace hs := ite_n c10 hs
      refine xi_aload_n 0 dX12_filled_31 rfl ?_
      refine xi_iload_n 1 dX12_filled_32 rfl ?_
      refine xi_iload 4 dX12_filled_33 rfl ?_
      obtain ⟨v11, t12, k13, hs⟩ := bnd_some hs
      refine xi_callV (as := [.int w1, .int c.2]) (rest := []) dX12_filled_35 (KX12_aheadOf G Gb w1 c.2 _ _ _ k13) mkX12_aheadOf w_1337 ws_74 w_1335 (mem_get sh_149) rfl rfl rfl rfl (Nat.le_of_ble_eq_true rfl) (Nat.le_of_ble_eq_true rfl) (Nat.le_of_ble_eq_true rfl) (Nat.le_of_ble_eq_true rfl) (Nat.le_of_ble_eq_true rfl) ?_
      intro v M2 hz
      obtain ⟨rfl, rfl⟩ := hz
      show xW _ _ _ _ 38 _ [.int v11] (mem t12 Gb) _ _
      refine xi_istore (lv' := [(5, .int v11), (0, .ref 149), (1, .int w1), (2, .int w2), (3, .int c.1), (4, .int c.2)]) dX12_filled_38 (by decide) rfl ?_
      refine xi_aload_n 1 dX12_filled_40 rfl ?_
      refine xi_iload_n 2 dX12_filled_41 rfl ?_
      refine xi_iload 0 dX12_filled_42 rfl ?_
      refine xi_aload_n 1 dX12_filled_44 rfl ?_
      refine xi_iload_n 2 dX12_filled_45 rfl ?_
      refine xi_iload 5 dX12_filled_46 rfl ?_
      obtain ⟨v14, t15, k16, hs⟩ := bnd_some hs
      refine xi_callV (as := [.int w1, .int c.2]) (rest := [.int v11, .int w1, .ref 149]) dX12_filled_48 (KX12_at G Gb w1 c.2 _ _ _ k16) mkX12_at w_1273 ws_64 w_1271 (mem_get sh_149) rfl rfl rfl rfl (Nat.le_of_ble_eq_true rfl) (Nat.le_of_ble_eq_true rfl) (Nat.le_of_ble_eq_true rfl) (Nat.le_of_ble_eq_true rfl) (Nat.le_of_ble_eq_true rfl) ?_
      intro v M2 hz
      obtain ⟨rfl, rfl⟩ := hz
      show xW _ _ _ _ 51 _ [.int v14, .int v11, .int w1, .ref 149] (mem t15 Gb) _ _
      obtain ⟨v17, t18, k19, hs⟩ := bnd_some hs
      refine xi_callV (as := [.int w1, .int v11, .int v14]) (rest := []) dX12_filled_51 (KX12_neighbours G Gb w1 v11 v14 _ _ _ k19) mkX12_neighbours w_1308 ws_70 w_1306 (mem_get sh_149) rfl rfl rfl rfl (Nat.le_of_ble_eq_true rfl) (Nat.le_of_ble_eq_true rfl) (Nat.le_of_ble_eq_true rfl) (Nat.le_of_ble_eq_true rfl) (Nat.le_of_ble_eq_true rfl) ?_
      intro v M2 hz
      obtain ⟨rfl, rfl⟩ := hz
      show xW _ _ _ _ 54 _ [.int v17] (mem t18 Gb) _ _
      refine xi_istore (lv' := [(6, .int v17), (5, .int v11), (0, .ref 149), (1, .int w1), (2, .int w2), (3, .int c.1), (4, .int c.2)]) dX12_filled_54 (by decide) rfl ?_
      refine xi_iconst (v := 0) dX12_filled_56 (by decide) ?_
      refine xi_istore (lv' := [(7, .int 0), (6, .int v17), (5, .int v11), (0, .ref 149), (1, .int w1), (2, .int w2), (3, .int c.1), (4, .int c.2)]) dX12_filled_57 (by decide) rfl ?_
      refine xi_sub (lv' := [(0, .ref 149), (1, .int w1), (2, .int w2), (3, .int c.1), (4, .int c.2), (5, .int v11), (6, .int v17), (7, .int 0)]) [3, 4, 5, 6, 7, 2, 1, 0] rfl ?_
      obtain ⟨e50, t51, k52, hs⟩ := bnd_some hs
      obtain ⟨n53, k52⟩ := wh_itr k52
      refine SX12_filled_59_w G Gb w1 w2 c.2 v11 v17 r0 t0 n53 (c.1, (0 : Int32)) t18 _ _ k52 ?_
      rcases e50 with e50 | e50
      · replace hs := sel_l hs
        obtain ⟨rfl, rfl⟩ := some_pair hs
        obtain ⟨rfl, rfl⟩ := some_pair h
        have r54 := HE
        exact r54
      · replace hs := sel_r hs
        show xW G mX12_filled (xrm 3 0 0) (xQ G (PQ r0 t0 Gb) 0 0) 151 [(0, .ref 149), (1, .int w1), (2, .int w2), (3, .int e50), (4, .int c.2)] [] (mem t51 Gb) 0 0
        refine xi_iinc (v := (c.2 + 1)) (lv' := [(4, .int (c.2 + 1)), (0, .ref 149), (1, .int w1), (2, .int w2), (3, .int e50)]) 4 dX12_filled_151 rfl rfl (by decide) rfl ?_
        refine xi_goto (tgt := 21) dX12_filled_154 (by decide) ?_
        refine xi_sub (lv' := [(0, .ref 149), (1, .int w1), (2, .int w2), (3, .int e50), (4, .int (c.2 + 1))]) [1, 2, 3, 4, 0] rfl ?_
        obtain ⟨rfl, rfl⟩ := some_pair hs
        exact ih (e50, (c.2 + 1)) t51 _ _ h HE
noncomputable def FX12_filled (a : Int32) (b : Int32) (σ : St) : Option ((Int32) × St) :=
  (bnd (FX12_isNet a σ) (fun v1 t2 => (if v1 = (0 : Int32) then (some ((-2 : Int32), t2)) else (if (-1 : Int32) ≤ b then (bnd (wh (SX12_filled_21 a b) ((0 : Int32), (0 : Int32)) t2) (fun e55 t56 => Sum.elim (fun e55 => (some (e55, t56))) (fun e55 => (if b = (-1 : Int32) then (some (e55, t56)) else (some ((-1 : Int32), t56)))) e55)) else (some ((-2 : Int32), t2))))))
set_option maxHeartbeats 4000000 in
set_option maxRecDepth 100000 in
theorem KX12_filled (G : xG) (Gb : xMem) (a : Int32) (b : Int32) (σ : St) (r0 : Int32) (t0 : St) (hq : FX12_filled a b σ = some (r0, t0)) : xC G mX12_filled 3 0 0 [.ref 149, .int a, .int b] (mem σ Gb) (PQ r0 t0 Gb) := by
  unfold FX12_filled at hq
  refine xC.of (by decide) (Nat.le_of_ble_eq_true rfl) ?_
  show xW _ _ _ _ 0 [(0, .ref 149), (1, .int a), (2, .int b)] [] _ 0 0
  refine xi_aload_n 0 dX12_filled_0 rfl ?_
  refine xi_iload_n 1 dX12_filled_1 rfl ?_
  obtain ⟨v1, t2, k3, hq⟩ := bnd_some hq
  refine xi_callV (as := [.int a]) (rest := []) dX12_filled_2 (KX12_isNet G Gb a _ _ _ k3) mkX12_isNet w_1104 ws_35 w_1102 (mem_get sh_149) rfl rfl rfl rfl (Nat.le_of_ble_eq_true rfl) (Nat.le_of_ble_eq_true rfl) (Nat.le_of_ble_eq_true rfl) (Nat.le_of_ble_eq_true rfl) (Nat.le_of_ble_eq_true rfl) ?_
  intro v M2 hz
  obtain ⟨rfl, rfl⟩ := hz
  show xW _ _ _ _ 5 _ [.int v1] (mem t2 Gb) _ _
  refine xi_if_eq (tgt := 13) dX12_filled_5 (by decide) (fun c4 => ?_) (fun c4 => ?_)
  · replace hq := ite_p c4 hq
    refine xi_bipush (v := (-2)) dX12_filled_13 (by decide) ?_
    have r5 := some_pair hq
    obtain ⟨rfl, rfl⟩ := r5
    exact xi_iret dX12_filled_15 rfl rfl (Nat.le_of_ble_eq_true rfl) (Nat.le_of_ble_eq_true rfl) ⟨rfl, rfl⟩
  · replace hq := ite_n c4 hq
    refine xi_iload_n 2 dX12_filled_8 rfl ?_
    refine xi_iconst (v := (-1)) dX12_filled_9 (by decide) ?_
    refine xi_icmp_ge (tgt := 16) dX12_filled_10 (by decide) (fun c6 => ?_) (fun c6 => ?_)
    · replace hq := ite_p c6 hq
      refine xi_iconst (v := 0) dX12_filled_16 (by decide) ?_
      refine xi_istore_n (lv' := [(3, .int 0), (0, .ref 149), (1, .int a), (2, .int b)]) dX12_filled_17 (by decide) rfl ?_
      refine xi_iconst (v := 0) dX12_filled_18 (by decide) ?_
      refine xi_istore (lv' := [(4, .int 0), (3, .int 0), (0, .ref 149), (1, .int a), (2, .int b)]) dX12_filled_19 (by decide) rfl ?_
      refine xi_sub (lv' := [(0, .ref 149), (1, .int a), (2, .int b), (3, .int 0), (4, .int 0)]) [2, 3, 4, 1, 0] rfl ?_
      obtain ⟨e55, t56, k57, hq⟩ := bnd_some hq
      obtain ⟨n58, k57⟩ := wh_itr k57
      refine SX12_filled_21_w G Gb a b r0 t0 n58 ((0 : Int32), (0 : Int32)) t2 _ _ k57 ?_
      rcases e55 with e55 | e55
      · replace hq := sel_l hq
        have r59 := some_pair hq
        exact r59
      · replace hq := sel_r hq
        show xW G mX12_filled (xrm 3 0 0) (xQ G (PQ r0 t0 Gb) 0 0) 157 [(2, .int b), (3, .int e55)] [] (mem t56 Gb) 0 0
        refine xi_iload_n 0 dX12_filled_157 rfl ?_
        refine xi_iconst (v := (-1)) dX12_filled_158 (by decide) ?_
        refine xi_icmp_ne (tgt := 166) dX12_filled_159 (by decide) (fun c60 => ?_) (fun c60 => ?_)
        · replace hq := ite_n c60 hq
          refine xi_iconst (v := (-1)) dX12_filled_166 (by decide) ?_
          have r61 := some_pair hq
          obtain ⟨rfl, rfl⟩ := r61
          exact xi_iret dX12_filled_167 rfl rfl (Nat.le_of_ble_eq_true rfl) (Nat.le_of_ble_eq_true rfl) ⟨rfl, rfl⟩
        · replace hq := ite_p c60 hq
          refine xi_iload_n 1 dX12_filled_162 rfl ?_
          refine xi_goto (tgt := 167) dX12_filled_163 (by decide) ?_
          have r62 := some_pair hq
          obtain ⟨rfl, rfl⟩ := r62
          exact xi_iret dX12_filled_167 rfl rfl (Nat.le_of_ble_eq_true rfl) (Nat.le_of_ble_eq_true rfl) ⟨rfl, rfl⟩
    · replace hq := ite_n c6 hq
      refine xi_bipush (v := (-2)) dX12_filled_13 (by decide) ?_
      have r63 := some_pair hq
      obtain ⟨rfl, rfl⟩ := r63
      exact xi_iret dX12_filled_15 rfl rfl (Nat.le_of_ble_eq_true rfl) (Nat.le_of_ble_eq_true rfl) ⟨rfl, rfl⟩
noncomputable def SX12_firsts_51 (w1 : Int32) (w2 : Int32) (c : Int32 × Int32) (σ : St) : Option (((Int32 × Int32) ⊕ (Int32)) × St) :=
  (bnd (FX12_points w1 σ) (fun v14 t15 => (if v14 ≤ c.2 then (some (Sum.inr c.1, t15)) else (bnd (FX12_keepsLeast w2 (0 : Int32) c.2 (0 : Int32) t15) (fun v18 t19 => (bnd (if v18 = (0 : Int32) then (some ((0 : Int32), t19)) else (some ((shl (1 : Int32) c.2), t19))) (fun v22 t23 => (some (Sum.inl ((c.1 ||| v22), (c.2 + 1)), t23)))))))))
set_option maxHeartbeats 4000000 in
set_option maxRecDepth 100000 in
theorem SX12_firsts_51_w (G : xG) (Gb : xMem) (w1 : Int32) (w2 : Int32) (r0 : Int32) (t0 : St) :
    ∀ (k : Nat) (c : Int32 × Int32) (σ : St) (r : Int32) (σ' : St), itr (SX12_firsts_51 w1 w2) k c σ = some (r, σ') → (xW G mX12_firsts (xrm 15 0 0) (xQ G (PQ r0 t0 Gb) 0 0) 90 [(3, .int r)] [] (mem σ' Gb) 0 0) → xW G mX12_firsts (xrm 15 0 0) (xQ G (PQ r0 t0 Gb) 0 0) 51 [(0, .ref 149), (1, .int w1), (2, .int w2), (3, .int c.1), (4, .int c.2)] [] (mem σ Gb) 0 0 := by
  intro k
  induction k with
  | zero =>
    intro c σ r σ' h
    exact absurd h (itr_zero _ _ _ _)
  | succ k ih =>
    intro c σ r σ' h HE
    obtain ⟨x, s1, hs, h⟩ := itr_succ h
    unfold SX12_firsts_51 at hs
    refine xi_iload 4 dX12_firsts_51 rfl ?_
    refine xi_aload_n 0 dX12_firsts_53 rfl ?_
    refine xi_iload_n 1 dX12_firsts_54 rfl ?_
    obtain ⟨v14, t15, k16, hs⟩ := bnd_some hs
    refine xi_callV (as := [.int w1]) (rest := [.int c.2]) dX12_firsts_55 (KX12_points G Gb w1 _ _ _ k16) mkX12_points w_1108 ws_36 w_1106 (mem_get sh_149) rfl rfl rfl rfl (Nat.le_of_ble_eq_true rfl) (Nat.le_of_ble_eq_true rfl) (Nat.le_of_ble_eq_true rfl) (Nat.le_of_ble_eq_true rfl) (Nat.le_of_ble_eq_true rfl) ?_
    intro v M2 hz
    obtain ⟨rfl, rfl⟩ := hz
    show xW _ _ _ _ 58 _ [.int v14, .int c.2] (mem t15 Gb) _ _
    refine xi_icmp_ge (tgt := 90) dX12_firsts_58 (by decide) (fun c17 => ?_) (fun c17 => ?_)
    · replace hs := ite_p c17 hs
      refine xi_sub (lv' := [(3, .int c.1)]) [3] rfl ?_
      obtain ⟨rfl, rfl⟩ := some_pair hs
      obtain ⟨rfl, rfl⟩ := some_pair h
      exact HE
    · replace hs := ite_n c17 hs
      refine xi_iload_n 3 dX12_firsts_61 rfl ?_
      refine xi_aload_n 0 dX12_firsts_62 rfl ?_
      refine xi_iload_n 2 dX12_firsts_63 rfl ?_
      refine xi_iconst (v := 0) dX12_firsts_64 (by decide) ?_
      refine xi_iload 4 dX12_firsts_65 rfl ?_
      refine xi_iconst (v := 0) dX12_firsts_67 (by decide) ?_
      obtain ⟨v18, t19, k20, hs⟩ := bnd_some hs
      refine xi_callV (as := [.int w2, .int 0, .int c.2, .int 0]) (rest := [.int c.1]) dX12_firsts_68 (KX12_keepsLeast G Gb w2 (0 : Int32) c.2 (0 : Int32) _ _ _ k20) mkX12_keepsLeast w_1387 ws_82 w_1385 (mem_get sh_149) rfl rfl rfl rfl (Nat.le_of_ble_eq_true rfl) (Nat.le_of_ble_eq_true rfl) (Nat.le_of_ble_eq_true rfl) (Nat.le_of_ble_eq_true rfl) (Nat.le_of_ble_eq_true rfl) ?_
      intro v M2 hz
      obtain ⟨rfl, rfl⟩ := hz
      show xW _ _ _ _ 71 _ [.int v18, .int c.1] (mem t19 Gb) _ _
      obtain ⟨v22, t23, m24, hs⟩ := bnd_some hs
      have key25 : xW G mX12_firsts (xrm 15 0 0) (xQ G (PQ r0 t0 Gb) 0 0) 82 [(0, .ref 149), (1, .int w1), (2, .int w2), (4, .int c.2)] [.int v22, .int c.1] (mem t23 Gb) 0 0 := by
        refine xi_ior (v := c.1 ||| v22) dX12_firsts_82 rfl ?_
        refine xi_istore_n (lv' := [(3, .int (c.1 ||| v22)), (0, .ref 149), (1, .int w1), (2, .int w2), (4, .int c.2)]) dX12_firsts_83 (by decide) rfl ?_
        refine xi_iinc (v := (c.2 + 1)) (lv' := [(4, .int (c.2 + 1)), (3, .int (c.1 ||| v22)), (0, .ref 149), (1, .int w1), (2, .int w2)]) 4 dX12_firsts_84 rfl rfl (by decide) rfl ?_
        refine xi_goto (tgt := 51) dX12_firsts_87 (by decide) ?_
        refine xi_sub (lv' := [(0, .ref 149), (1, .int w1), (2, .int w2), (3, .int (c.1 ||| v22)), (4, .int (c.2 + 1))]) [2, 3, 4, 1, 0] rfl ?_
        obtain ⟨rfl, rfl⟩ := some_pair hs
        exact ih ((c.1 ||| v22), (c.2 + 1)) t23 _ _ h HE
      refine xi_if_eq (tgt := 81) dX12_firsts_71 (by decide) (fun c21 => ?_) (fun c21 => ?_)
      · replace m24 := ite_p c21 m24
        refine xi_iconst (v := 0) dX12_firsts_81 (by decide) ?_
        obtain ⟨rfl, rfl⟩ := some_pair m24
        refine xi_sub (lv' := [(0, .ref 149), (1, .int w1), (2, .int w2), (4, .int c.2)]) [0, 1, 2, 4] rfl ?_
        exact key25
      · replace m24 := ite_n c21 m24
        refine xi_iconst (v := 1) dX12_firsts_74 (by decide) ?_
        refine xi_iload 4 dX12_firsts_75 rfl ?_
        refine xi_ishl (v := shl (1 : Int32) c.2) dX12_firsts_77 rfl ?_
        refine xi_goto (tgt := 82) dX12_firsts_78 (by decide) ?_
        obtain ⟨rfl, rfl⟩ := some_pair m24
        refine xi_sub (lv' := [(0, .ref 149), (1, .int w1), (2, .int w2), (4, .int c.2)]) [0, 1, 2, 4] rfl ?_
        exact key25
noncomputable def FX12_firsts (a : Int32) (b : Int32) (σ : St) : Option ((Int32) × St) :=
  (bnd (FX12_isNet a σ) (fun v1 t2 => (if v1 = (0 : Int32) then (some ((-2 : Int32), t2)) else (bnd (FX12_isMeasure b t2) (fun v6 t7 => (if v6 = (0 : Int32) then (some ((-2 : Int32), t7)) else (if b = (2 : Int32) then (bnd (FX12_leastBand a t7) (fun v31 t32 => (bnd (FX12_rowsOfBand a v31 (0 : Int32) t32) (fun v34 t35 => (rdb t35 149 (19) (fun v37 => (some (v37, t35)))))))) else (bnd (FX12_laysLeast a b t7) (fun v11 t12 => (bnd (wh (SX12_firsts_51 a b) ((0 : Int32), (0 : Int32)) t12) (fun e26 t27 => (some (e26, t27)))))))))))))
set_option maxHeartbeats 4000000 in
set_option maxRecDepth 100000 in
theorem KX12_firsts (G : xG) (Gb : xMem) (a : Int32) (b : Int32) (σ : St) (r0 : Int32) (t0 : St) (hq : FX12_firsts a b σ = some (r0, t0)) : xC G mX12_firsts 15 0 0 [.ref 149, .int a, .int b] (mem σ Gb) (PQ r0 t0 Gb) := by
  unfold FX12_firsts at hq
  refine xC.of (by decide) (Nat.le_of_ble_eq_true rfl) ?_
  show xW _ _ _ _ 0 [(0, .ref 149), (1, .int a), (2, .int b)] [] _ 0 0
  refine xi_aload_n 0 dX12_firsts_0 rfl ?_
  refine xi_iload_n 1 dX12_firsts_1 rfl ?_
  obtain ⟨v1, t2, k3, hq⟩ := bnd_some hq
  refine xi_callV (as := [.int a]) (rest := []) dX12_firsts_2 (KX12_isNet G Gb a _ _ _ k3) mkX12_isNet w_1104 ws_35 w_1102 (mem_get sh_149) rfl rfl rfl rfl (Nat.le_of_ble_eq_true rfl) (Nat.le_of_ble_eq_true rfl) (Nat.le_of_ble_eq_true rfl) (Nat.le_of_ble_eq_true rfl) (Nat.le_of_ble_eq_true rfl) ?_
  intro v M2 hz
  obtain ⟨rfl, rfl⟩ := hz
  show xW _ _ _ _ 5 _ [.int v1] (mem t2 Gb) _ _
  refine xi_if_eq (tgt := 15) dX12_firsts_5 (by decide) (fun c4 => ?_) (fun c4 => ?_)
  · replace hq := ite_p c4 hq
    refine xi_bipush (v := (-2)) dX12_firsts_15 (by decide) ?_
    have r5 := some_pair hq
    obtain ⟨rfl, rfl⟩ := r5
    exact xi_iret dX12_firsts_17 rfl rfl (Nat.le_of_ble_eq_true rfl) (Nat.le_of_ble_eq_true rfl) ⟨rfl, rfl⟩
  · replace hq := ite_n c4 hq
    refine xi_iload_n 2 dX12_firsts_8 rfl ?_
    obtain ⟨v6, t7, k8, hq⟩ := bnd_some hq
    refine xi_callS (as := [.int b]) (rest := []) dX12_firsts_9 (KX12_isMeasure G Gb b _ _ _ k8) mkX12_isMeasure w_1288 w_1287 rfl rfl (Nat.le_of_ble_eq_true rfl) (Nat.le_of_ble_eq_true rfl) (Nat.le_of_ble_eq_true rfl) (Nat.le_of_ble_eq_true rfl) (Nat.le_of_ble_eq_true rfl) ?_
    intro v M2 hz
    obtain ⟨rfl, rfl⟩ := hz
    show xW _ _ _ _ 12 _ [.int v6] (mem t7 Gb) _ _
    refine xi_if_ne (tgt := 18) dX12_firsts_12 (by decide) (fun c9 => ?_) (fun c9 => ?_)
    · replace hq := ite_n c9 hq
      refine xi_iload_n 2 dX12_firsts_18 rfl ?_
      refine xi_iconst (v := 2) dX12_firsts_19 (by decide) ?_
      refine xi_icmp_ne (tgt := 40) dX12_firsts_20 (by decide) (fun c10 => ?_) (fun c10 => ?_)
      · replace hq := ite_n c10 hq
        refine xi_aload_n 0 dX12_firsts_40 rfl ?_
        refine xi_iload_n 1 dX12_firsts_41 rfl ?_
        refine xi_iload_n 2 dX12_firsts_42 rfl ?_
        obtain ⟨v11, t12, k13, hq⟩ := bnd_some hq
        refine xi_callV (as := [.int a, .int b]) (rest := []) dX12_firsts_43 (KX12_laysLeast G Gb a b _ _ _ k13) mkX12_laysLeast w_1366 ws_78 w_1364 (mem_get sh_149) rfl rfl rfl rfl (Nat.le_of_ble_eq_true rfl) (Nat.le_of_ble_eq_true rfl) (Nat.le_of_ble_eq_true rfl) (Nat.le_of_ble_eq_true rfl) (Nat.le_of_ble_eq_true rfl) ?_
        intro v M2 hz
        obtain ⟨rfl, rfl⟩ := hz
        show xW _ _ _ _ 46 _ [] (mem t12 Gb) _ _
        refine xi_iconst (v := 0) dX12_firsts_46 (by decide) ?_
        refine xi_istore_n (lv' := [(3, .int 0), (0, .ref 149), (1, .int a), (2, .int b)]) dX12_firsts_47 (by decide) rfl ?_
        refine xi_iconst (v := 0) dX12_firsts_48 (by decide) ?_
        refine xi_istore (lv' := [(4, .int 0), (3, .int 0), (0, .ref 149), (1, .int a), (2, .int b)]) dX12_firsts_49 (by decide) rfl ?_
        refine xi_sub (lv' := [(0, .ref 149), (1, .int a), (2, .int b), (3, .int 0), (4, .int 0)]) [2, 3, 4, 1, 0] rfl ?_
        obtain ⟨e26, t27, k28, hq⟩ := bnd_some hq
        obtain ⟨n29, k28⟩ := wh_itr k28
        refine SX12_firsts_51_w G Gb a b r0 t0 n29 ((0 : Int32), (0 : Int32)) t12 _ _ k28 ?_
        show xW G mX12_firsts (xrm 15 0 0) (xQ G (PQ r0 t0 Gb) 0 0) 90 [(3, .int e26)] [] (mem t27 Gb) 0 0
        refine xi_iload_n 0 dX12_firsts_90 rfl ?_
        have r30 := some_pair hq
        obtain ⟨rfl, rfl⟩ := r30
        exact xi_iret dX12_firsts_91 rfl rfl (Nat.le_of_ble_eq_true rfl) (Nat.le_of_ble_eq_true rfl) ⟨rfl, rfl⟩
      · replace hq := ite_p c10 hq
        refine xi_aload_n 0 dX12_firsts_23 rfl ?_
        refine xi_iload_n 1 dX12_firsts_24 rfl ?_
        refine xi_aload_n 0 dX12_firsts_25 rfl ?_
        refine xi_iload_n 1 dX12_firsts_26 rfl ?_
        obtain ⟨v31, t32, k33, hq⟩ := bnd_some hq
        refine xi_callV (as := [.int a]) (rest := [.int a, .ref 149]) dX12_firsts_27 (KX12_leastBand G Gb a _ _ _ k33) mkX12_leastBand w_1354 ws_75 w_1352 (mem_get sh_149) rfl rfl rfl rfl (Nat.le_of_ble_eq_true rfl) (Nat.le_of_ble_eq_true rfl) (Nat.le_of_ble_eq_true rfl) (Nat.le_of_ble_eq_true rfl) (Nat.le_of_ble_eq_true rfl) ?_
        intro v M2 hz
        obtain ⟨rfl, rfl⟩ := hz
        show xW _ _ _ _ 30 _ [.int v31, .int a, .ref 149] (mem t32 Gb) _ _
        refine xi_iconst (v := 0) dX12_firsts_30 (by decide) ?_
        obtain ⟨v34, t35, k36, hq⟩ := bnd_some hq
        refine xi_callV (as := [.int a, .int v31, .int 0]) (rest := []) dX12_firsts_31 (KX12_rowsOfBand G Gb a v31 (0 : Int32) _ _ _ k36) mkX12_rowsOfBand w_1358 ws_76 w_1356 (mem_get sh_149) rfl rfl rfl rfl (Nat.le_of_ble_eq_true rfl) (Nat.le_of_ble_eq_true rfl) (Nat.le_of_ble_eq_true rfl) (Nat.le_of_ble_eq_true rfl) (Nat.le_of_ble_eq_true rfl) ?_
        intro v M2 hz
        obtain ⟨rfl, rfl⟩ := hz
        show xW _ _ _ _ 34 _ [.int v34] (mem t35 Gb) _ _
        refine xi_istore_n (lv' := [(3, .int v34), (0, .ref 149), (1, .int a), (2, .int b)]) dX12_firsts_34 (by decide) rfl ?_
        refine xi_aload_n 1 dX12_firsts_35 rfl ?_
        obtain ⟨v37, h38, hq⟩ := rdb_some hq
        refine yi_getV (f := 19) dX12_firsts_36 sh_149 rfl ok_9 (by decide) w_1027 rfl h38 ?_
        have r39 := some_pair hq
        obtain ⟨rfl, rfl⟩ := r39
        exact xi_iret dX12_firsts_39 rfl rfl (Nat.le_of_ble_eq_true rfl) (Nat.le_of_ble_eq_true rfl) ⟨rfl, rfl⟩
    · replace hq := ite_p c9 hq
      refine xi_bipush (v := (-2)) dX12_firsts_15 (by decide) ?_
      have r40 := some_pair hq
      obtain ⟨rfl, rfl⟩ := r40
      exact xi_iret dX12_firsts_17 rfl rfl (Nat.le_of_ble_eq_true rfl) (Nat.le_of_ble_eq_true rfl) ⟨rfl, rfl⟩
noncomputable def SX12_laysRow_2 (w1 : Int32) (c : Int32) (σ : St) : Option (((Int32) ⊕ (Unit)) × St) :=
  (bnd (FX12_points w1 σ) (fun v1 t2 => (if v1 ≤ c then (some (Sum.inr (), t2)) else (bnd (FX12_at w1 c t2) (fun v5 t6 => (chk (inb c 9) (wrb t6 154 (c.toNatClampNeg) v5 (fun t9 => (some (Sum.inl (c + 1), t9))))))))))
set_option maxHeartbeats 4000000 in
set_option maxRecDepth 100000 in
theorem SX12_laysRow_2_w (G : xG) (Gb : xMem) (w1 : Int32) (r0 : Unit) (t0 : St) :
    ∀ (k : Nat) (c : Int32) (σ : St) (r : Unit) (σ' : St), itr (SX12_laysRow_2 w1) k c σ = some (r, σ') → (xW G mX12_laysRow (xrm 1 0 0) (xQ G (PV r0 t0 Gb) 0 0) 29 [] [] (mem σ' Gb) 0 0) → xW G mX12_laysRow (xrm 1 0 0) (xQ G (PV r0 t0 Gb) 0 0) 2 [(0, .ref 149), (1, .int w1), (2, .int c)] [] (mem σ Gb) 0 0 := by
  intro k
  induction k with
  | zero =>
    intro c σ r σ' h
    exact absurd h (itr_zero _ _ _ _)
  | succ k ih =>
    intro c σ r σ' h HE
    obtain ⟨x, s1, hs, h⟩ := itr_succ h
    unfold SX12_laysRow_2 at hs
    refine xi_iload_n 2 dX12_laysRow_2 rfl ?_
    refine xi_aload_n 0 dX12_laysRow_3 rfl ?_
    refine xi_iload_n 1 dX12_laysRow_4 rfl ?_
    obtain ⟨v1, t2, k3, hs⟩ := bnd_some hs
    refine xi_callV (as := [.int w1]) (rest := [.int c]) dX12_laysRow_5 (KX12_points G Gb w1 _ _ _ k3) mkX12_points w_1108 ws_36 w_1106 (mem_get sh_149) rfl rfl rfl rfl (Nat.le_of_ble_eq_true rfl) (Nat.le_of_ble_eq_true rfl) (Nat.le_of_ble_eq_true rfl) (Nat.le_of_ble_eq_true rfl) (Nat.le_of_ble_eq_true rfl) ?_
    intro v M2 hz
    obtain ⟨rfl, rfl⟩ := hz
    show xW _ _ _ _ 8 _ [.int v1, .int c] (mem t2 Gb) _ _
    refine xi_icmp_ge (tgt := 29) dX12_laysRow_8 (by decide) (fun c4 => ?_) (fun c4 => ?_)
    · replace hs := ite_p c4 hs
      refine xi_sub (lv' := []) [] rfl ?_
      obtain ⟨rfl, rfl⟩ := some_pair hs
      obtain ⟨rfl, rfl⟩ := some_pair h
      exact HE
    · replace hs := ite_n c4 hs
      refine xi_aload_n 0 dX12_laysRow_11 rfl ?_
      refine yi_getR (f := 13) dX12_laysRow_12 sh_149 rfl ok_9 (by decide) w_1021 rfl ?_
      refine xi_iload_n 2 dX12_laysRow_15 rfl ?_
      refine xi_aload_n 0 dX12_laysRow_16 rfl ?_
      refine xi_iload_n 1 dX12_laysRow_17 rfl ?_
      refine xi_iload_n 2 dX12_laysRow_18 rfl ?_
      obtain ⟨v5, t6, k7, hs⟩ := bnd_some hs
      refine xi_callV (as := [.int w1, .int c]) (rest := [.int c, .ref 154]) dX12_laysRow_19 (KX12_at G Gb w1 c _ _ _ k7) mkX12_at w_1273 ws_64 w_1271 (mem_get sh_149) rfl rfl rfl rfl (Nat.le_of_ble_eq_true rfl) (Nat.le_of_ble_eq_true rfl) (Nat.le_of_ble_eq_true rfl) (Nat.le_of_ble_eq_true rfl) (Nat.le_of_ble_eq_true rfl) ?_
      intro v M2 hz
      obtain ⟨rfl, rfl⟩ := hz
      show xW _ _ _ _ 22 _ [.int v5, .int c, .ref 154] (mem t6 Gb) _ _
      obtain ⟨g8, hs⟩ := chk_some hs
      obtain ⟨t9, h10, hs⟩ := wrb_some hs
      refine yi_iastoreV dX12_laysRow_22 sh_154 g8 h10 ?_
      refine xi_iinc (v := (c + 1)) (lv' := [(2, .int (c + 1)), (0, .ref 149), (1, .int w1)]) 2 dX12_laysRow_23 rfl rfl (by decide) rfl ?_
      refine xi_goto (tgt := 2) dX12_laysRow_26 (by decide) ?_
      refine xi_sub (lv' := [(0, .ref 149), (1, .int w1), (2, .int (c + 1))]) [1, 2, 0] rfl ?_
      obtain ⟨rfl, rfl⟩ := some_pair hs
      exact ih (c + 1) t9 _ _ h HE
noncomputable def FX12_laysRow (a : Int32) (σ : St) : Option ((Unit) × St) :=
  (bnd (wh (SX12_laysRow_2 a) (0 : Int32) σ) (fun e11 t12 => (some ((), t12))))
set_option maxHeartbeats 4000000 in
set_option maxRecDepth 100000 in
theorem KX12_laysRow (G : xG) (Gb : xMem) (a : Int32) (σ : St) (r0 : Unit) (t0 : St) (hq : FX12_laysRow a σ = some (r0, t0)) : xC G mX12_laysRow 1 0 0 [.ref 149, .int a] (mem σ Gb) (PV r0 t0 Gb) := by
  unfold FX12_laysRow at hq
  refine xC.of (by decide) (Nat.le_of_ble_eq_true rfl) ?_
  show xW _ _ _ _ 0 [(0, .ref 149), (1, .int a)] [] _ 0 0
  refine xi_iconst (v := 0) dX12_laysRow_0 (by decide) ?_
  refine xi_istore_n (lv' := [(2, .int 0), (0, .ref 149), (1, .int a)]) dX12_laysRow_1 (by decide) rfl ?_
  refine xi_sub (lv' := [(0, .ref 149), (1, .int a), (2, .int 0)]) [1, 2, 0] rfl ?_
  obtain ⟨e11, t12, k13, hq⟩ := bnd_some hq
  obtain ⟨n14, k13⟩ := wh_itr k13
  refine SX12_laysRow_2_w G Gb a r0 t0 n14 (0 : Int32) σ _ _ k13 ?_
  show xW G mX12_laysRow (xrm 1 0 0) (xQ G (PV r0 t0 Gb) 0 0) 29 [] [] (mem t12 Gb) 0 0
  have r15 := some_pair hq
  obtain ⟨rfl, rfl⟩ := r15
  exact xi_vret dX12_laysRow_29 rfl (Nat.le_of_ble_eq_true rfl) (Nat.le_of_ble_eq_true rfl) ⟨rfl, rfl⟩
noncomputable def SX12_valueOf_19 (w1 : Int32) (w2 : Int32) (c : Int32 × Int32 × Int32) (σ : St) : Option (((Int32 × Int32 × Int32) ⊕ (Int32)) × St) :=
  (bnd (FX12_points w1 σ) (fun v2 t3 => (if v2 ≤ c.2.2 then (some (Sum.inr c.1, t3)) else (chk (inb c.2.2 9) (rdb t3 154 (c.2.2.toNatClampNeg) (fun v7 => (bnd (FX12_cost w1 w2 c.2.1 v7 t3) (fun v9 t10 => (bnd (FX12_both w2 c.1 v9 t10) (fun v12 t13 => (chk (inb c.2.2 9) (rdb t13 154 (c.2.2.toNatClampNeg) (fun v16 => (some (Sum.inl (v12, (c.2.1 ||| (shl (1 : Int32) v16)), (c.2.2 + 1)), t13)))))))))))))))
set_option maxHeartbeats 4000000 in
set_option maxRecDepth 100000 in
theorem SX12_valueOf_19_w (G : xG) (Gb : xMem) (w1 : Int32) (w2 : Int32) (r0 : Int32) (t0 : St) :
    ∀ (k : Nat) (c : Int32 × Int32 × Int32) (σ : St) (r : Int32) (σ' : St), itr (SX12_valueOf_19 w1 w2) k c σ = some (r, σ') → (xW G mX12_valueOf (xrm 5 0 0) (xQ G (PQ r0 t0 Gb) 0 0) 70 [(3, .int r)] [] (mem σ' Gb) 0 0) → xW G mX12_valueOf (xrm 5 0 0) (xQ G (PQ r0 t0 Gb) 0 0) 19 [(0, .ref 149), (1, .int w1), (2, .int w2), (3, .int c.1), (4, .int c.2.1), (5, .int c.2.2)] [] (mem σ Gb) 0 0 := by
  intro k
  induction k with
  | zero =>
    intro c σ r σ' h
    exact absurd h (itr_zero _ _ _ _)
  | succ k ih =>
    intro c σ r σ' h HE
    obtain ⟨x, s1, hs, h⟩ := itr_succ h
    unfold SX12_valueOf_19 at hs
    refine xi_iload 5 dX12_valueOf_19 rfl ?_
    refine xi_aload_n 0 dX12_valueOf_21 rfl ?_
    refine xi_iload_n 1 dX12_valueOf_22 rfl ?_
    obtain ⟨v2, t3, k4, hs⟩ := bnd_some hs
    refine xi_callV (as := [.int w1]) (rest := [.int c.2.2]) dX12_valueOf_23 (KX12_points G Gb w1 _ _ _ k4) mkX12_points w_1108 ws_36 w_1106 (mem_get sh_149) rfl rfl rfl rfl (Nat.le_of_ble_eq_true rfl) (Nat.le_of_ble_eq_true rfl) (Nat.le_of_ble_eq_true rfl) (Nat.le_of_ble_eq_true rfl) (Nat.le_of_ble_eq_true rfl) ?_
    intro v M2 hz
    obtain ⟨rfl, rfl⟩ := hz
    show xW _ _ _ _ 26 _ [.int v2, .int c.2.2] (mem t3 Gb) _ _
    refine xi_icmp_ge (tgt := 70) dX12_valueOf_26 (by decide) (fun c5 => ?_) (fun c5 => ?_)
    · replace hs := ite_p c5 hs
      refine xi_sub (lv' := [(3, .int c.1)]) [3] rfl ?_
      obtain ⟨rfl, rfl⟩ := some_pair hs
      obtain ⟨rfl, rfl⟩ := some_pair h
      exact HE
    · replace hs := ite_n c5 hs
      refine xi_iload_n 2 dX12_valueOf_29 rfl ?_
      refine xi_iload_n 3 dX12_valueOf_30 rfl ?_
      refine xi_aload_n 0 dX12_valueOf_31 rfl ?_
      refine xi_iload_n 1 dX12_valueOf_32 rfl ?_
      refine xi_iload_n 2 dX12_valueOf_33 rfl ?_
      refine xi_iload 4 dX12_valueOf_34 rfl ?_
      refine xi_aload_n 0 dX12_valueOf_36 rfl ?_
      refine yi_getR (f := 13) dX12_valueOf_37 sh_149 rfl ok_9 (by decide) w_1021 rfl ?_
      refine xi_iload 5 dX12_valueOf_40 rfl ?_
      obtain ⟨g6, hs⟩ := chk_some hs
      obtain ⟨v7, h8, hs⟩ := rdb_some hs
      refine yi_ialoadV dX12_valueOf_42 sh_154 g6 h8 ?_
      obtain ⟨v9, t10, k11, hs⟩ := bnd_some hs
      refine xi_callV (as := [.int w1, .int w2, .int c.2.1, .int v7]) (rest := [.int c.1, .int w2]) dX12_valueOf_43 (KX12_cost G Gb w1 w2 c.2.1 v7 _ _ _ k11) mkX12_cost w_1304 ws_69 w_1302 (mem_get sh_149) rfl rfl rfl rfl (Nat.le_of_ble_eq_true rfl) (Nat.le_of_ble_eq_true rfl) (Nat.le_of_ble_eq_true rfl) (Nat.le_of_ble_eq_true rfl) (Nat.le_of_ble_eq_true rfl) ?_
      intro v M2 hz
      obtain ⟨rfl, rfl⟩ := hz
      show xW _ _ _ _ 46 _ [.int v9, .int c.1, .int w2] (mem t10 Gb) _ _
      obtain ⟨v12, t13, k14, hs⟩ := bnd_some hs
      refine xi_callS (as := [.int w2, .int c.1, .int v9]) (rest := []) dX12_valueOf_46 (KX12_both G Gb w2 c.1 v9 _ _ _ k14) mkX12_both w_1319 w_1318 rfl rfl (Nat.le_of_ble_eq_true rfl) (Nat.le_of_ble_eq_true rfl) (Nat.le_of_ble_eq_true rfl) (Nat.le_of_ble_eq_true rfl) (Nat.le_of_ble_eq_true rfl) ?_
      intro v M2 hz
      obtain ⟨rfl, rfl⟩ := hz
      show xW _ _ _ _ 49 _ [.int v12] (mem t13 Gb) _ _
      refine xi_istore_n (lv' := [(3, .int v12), (0, .ref 149), (1, .int w1), (2, .int w2), (4, .int c.2.1), (5, .int c.2.2)]) dX12_valueOf_49 (by decide) rfl ?_
      refine xi_iload 4 dX12_valueOf_50 rfl ?_
      refine xi_iconst (v := 1) dX12_valueOf_52 (by decide) ?_
      refine xi_aload_n 1 dX12_valueOf_53 rfl ?_
      refine yi_getR (f := 13) dX12_valueOf_54 sh_149 rfl ok_9 (by decide) w_1021 rfl ?_
      refine xi_iload 5 dX12_valueOf_57 rfl ?_
      obtain ⟨g15, hs⟩ := chk_some hs
      obtain ⟨v16, h17, hs⟩ := rdb_some hs
      refine yi_ialoadV dX12_valueOf_59 sh_154 g15 h17 ?_
      refine xi_ishl (v := shl (1 : Int32) v16) dX12_valueOf_60 rfl ?_
      refine xi_ior (v := c.2.1 ||| (shl (1 : Int32) v16)) dX12_valueOf_61 rfl ?_
      refine xi_istore (lv' := [(4, .int (c.2.1 ||| (shl (1 : Int32) v16))), (3, .int v12), (0, .ref 149), (1, .int w1), (2, .int w2), (5, .int c.2.2)]) dX12_valueOf_62 (by decide) rfl ?_
      refine xi_iinc (v := (c.2.2 + 1)) (lv' := [(5, .int (c.2.2 + 1)), (4, .int (c.2.1 ||| (shl (1 : Int32) v16))), (3, .int v12), (0, .ref 149), (1, .int w1), (2, .int w2)]) 5 dX12_valueOf_64 rfl rfl (by decide) rfl ?_
      refine xi_goto (tgt := 19) dX12_valueOf_67 (by decide) ?_
      refine xi_sub (lv' := [(0, .ref 149), (1, .int w1), (2, .int w2), (3, .int v12), (4, .int (c.2.1 ||| (shl (1 : Int32) v16))), (5, .int (c.2.2 + 1))]) [3, 4, 5, 2, 1, 0] rfl ?_
      obtain ⟨rfl, rfl⟩ := some_pair hs
      exact ih (v12, (c.2.1 ||| (shl (1 : Int32) v16)), (c.2.2 + 1)) t13 _ _ h HE
noncomputable def FX12_valueOf (a : Int32) (b : Int32) (σ : St) : Option ((Int32) × St) :=
  (if b = (2 : Int32) then (bnd (FX12_bandOf a σ) (fun v23 t24 => (some (v23, t24)))) else (bnd (wh (SX12_valueOf_19 a b) ((0 : Int32), (0 : Int32), (0 : Int32)) σ) (fun e18 t19 => (some (e18, t19)))))
set_option maxHeartbeats 4000000 in
set_option maxRecDepth 100000 in
theorem KX12_valueOf (G : xG) (Gb : xMem) (a : Int32) (b : Int32) (σ : St) (r0 : Int32) (t0 : St) (hq : FX12_valueOf a b σ = some (r0, t0)) : xC G mX12_valueOf 5 0 0 [.ref 149, .int a, .int b] (mem σ Gb) (PQ r0 t0 Gb) := by
  unfold FX12_valueOf at hq
  refine xC.of (by decide) (Nat.le_of_ble_eq_true rfl) ?_
  show xW _ _ _ _ 0 [(0, .ref 149), (1, .int a), (2, .int b)] [] _ 0 0
  refine xi_iload_n 2 dX12_valueOf_0 rfl ?_
  refine xi_iconst (v := 2) dX12_valueOf_1 (by decide) ?_
  refine xi_icmp_ne (tgt := 11) dX12_valueOf_2 (by decide) (fun c1 => ?_) (fun c1 => ?_)
  · replace hq := ite_n c1 hq
    refine xi_iconst (v := 0) dX12_valueOf_11 (by decide) ?_
    refine xi_istore_n (lv' := [(3, .int 0), (0, .ref 149), (1, .int a), (2, .int b)]) dX12_valueOf_12 (by decide) rfl ?_
    refine xi_iconst (v := 0) dX12_valueOf_13 (by decide) ?_
    refine xi_istore (lv' := [(4, .int 0), (3, .int 0), (0, .ref 149), (1, .int a), (2, .int b)]) dX12_valueOf_14 (by decide) rfl ?_
    refine xi_iconst (v := 0) dX12_valueOf_16 (by decide) ?_
    refine xi_istore (lv' := [(5, .int 0), (4, .int 0), (3, .int 0), (0, .ref 149), (1, .int a), (2, .int b)]) dX12_valueOf_17 (by decide) rfl ?_
    refine xi_sub (lv' := [(0, .ref 149), (1, .int a), (2, .int b), (3, .int 0), (4, .int 0), (5, .int 0)]) [3, 4, 5, 2, 1, 0] rfl ?_
    obtain ⟨e18, t19, k20, hq⟩ := bnd_some hq
    obtain ⟨n21, k20⟩ := wh_itr k20
    refine SX12_valueOf_19_w G Gb a b r0 t0 n21 ((0 : Int32), (0 : Int32), (0 : Int32)) σ _ _ k20 ?_
    show xW G mX12_valueOf (xrm 5 0 0) (xQ G (PQ r0 t0 Gb) 0 0) 70 [(3, .int e18)] [] (mem t19 Gb) 0 0
    refine xi_iload_n 0 dX12_valueOf_70 rfl ?_
    have r22 := some_pair hq
    obtain ⟨rfl, rfl⟩ := r22
    exact xi_iret dX12_valueOf_71 rfl rfl (Nat.le_of_ble_eq_true rfl) (Nat.le_of_ble_eq_true rfl) ⟨rfl, rfl⟩
  · replace hq := ite_p c1 hq
    refine xi_aload_n 0 dX12_valueOf_5 rfl ?_
    refine xi_iload_n 1 dX12_valueOf_6 rfl ?_
    obtain ⟨v23, t24, k25, hq⟩ := bnd_some hq
    refine xi_callV (as := [.int a]) (rest := []) dX12_valueOf_7 (KX12_bandOf G Gb a _ _ _ k25) mkX12_bandOf w_1300 ws_68 w_1298 (mem_get sh_149) rfl rfl rfl rfl (Nat.le_of_ble_eq_true rfl) (Nat.le_of_ble_eq_true rfl) (Nat.le_of_ble_eq_true rfl) (Nat.le_of_ble_eq_true rfl) (Nat.le_of_ble_eq_true rfl) ?_
    intro v M2 hz
    obtain ⟨rfl, rfl⟩ := hz
    show xW _ _ _ _ 10 _ [.int v23] (mem t24 Gb) _ _
    have r26 := some_pair hq
    obtain ⟨rfl, rfl⟩ := r26
    exact xi_iret dX12_valueOf_10 rfl rfl (Nat.le_of_ble_eq_true rfl) (Nat.le_of_ble_eq_true rfl) ⟨rfl, rfl⟩
noncomputable def FX12_gain (a : Int32) (b : Int32) (c : Int32) (d : Int32) (σ : St) : Option ((Int32) × St) :=
  (bnd (FX12_isPoint a c σ) (fun v1 t2 => (if v1 = (0 : Int32) then (some ((-1000 : Int32), t2)) else (bnd (FX12_isPoint a d t2) (fun v6 t7 => (if v6 = (0 : Int32) then (some ((-1000 : Int32), t7)) else (bnd (FX12_isMeasure b t7) (fun v11 t12 => (if v11 = (0 : Int32) then (some ((-1000 : Int32), t12)) else (bnd (FX12_laysRow a t12) (fun v15 t16 => (bnd (FX12_valueOf a b t16) (fun v18 t19 => (bnd (FX12_exchanges c d t19) (fun v21 t22 => (bnd (FX12_valueOf a b t22) (fun v24 t25 => (some ((v24 - v18), t25)))))))))))))))))))
set_option maxHeartbeats 4000000 in
set_option maxRecDepth 100000 in
theorem KX12_gain (G : xG) (Gb : xMem) (a : Int32) (b : Int32) (c : Int32) (d : Int32) (σ : St) (r0 : Int32) (t0 : St) (hq : FX12_gain a b c d σ = some (r0, t0)) : xC G mX12_gain 6 0 0 [.ref 149, .int a, .int b, .int c, .int d] (mem σ Gb) (PQ r0 t0 Gb) := by
  unfold FX12_gain at hq
  refine xC.of (by decide) (Nat.le_of_ble_eq_true rfl) ?_
  show xW _ _ _ _ 0 [(0, .ref 149), (1, .int a), (2, .int b), (3, .int c), (4, .int d)] [] _ 0 0
  refine xi_aload_n 0 dX12_gain_0 rfl ?_
  refine xi_iload_n 1 dX12_gain_1 rfl ?_
  refine xi_iload_n 3 dX12_gain_2 rfl ?_
  obtain ⟨v1, t2, k3, hq⟩ := bnd_some hq
  refine xi_callV (as := [.int a, .int c]) (rest := []) dX12_gain_3 (KX12_isPoint G Gb a c _ _ _ k3) mkX12_isPoint w_1257 ws_63 w_1255 (mem_get sh_149) rfl rfl rfl rfl (Nat.le_of_ble_eq_true rfl) (Nat.le_of_ble_eq_true rfl) (Nat.le_of_ble_eq_true rfl) (Nat.le_of_ble_eq_true rfl) (Nat.le_of_ble_eq_true rfl) ?_
  intro v M2 hz
  obtain ⟨rfl, rfl⟩ := hz
  show xW _ _ _ _ 6 _ [.int v1] (mem t2 Gb) _ _
  refine xi_if_eq (tgt := 26) dX12_gain_6 (by decide) (fun c4 => ?_) (fun c4 => ?_)
  · replace hq := ite_p c4 hq
    refine xi_sipush (v := (-1000)) dX12_gain_26 (by decide) ?_
    have r5 := some_pair hq
    obtain ⟨rfl, rfl⟩ := r5
    exact xi_iret dX12_gain_29 rfl rfl (Nat.le_of_ble_eq_true rfl) (Nat.le_of_ble_eq_true rfl) ⟨rfl, rfl⟩
  · replace hq := ite_n c4 hq
    refine xi_aload_n 0 dX12_gain_9 rfl ?_
    refine xi_iload_n 1 dX12_gain_10 rfl ?_
    refine xi_iload 4 dX12_gain_11 rfl ?_
    obtain ⟨v6, t7, k8, hq⟩ := bnd_some hq
    refine xi_callV (as := [.int a, .int d]) (rest := []) dX12_gain_13 (KX12_isPoint G Gb a d _ _ _ k8) mkX12_isPoint w_1257 ws_63 w_1255 (mem_get sh_149) rfl rfl rfl rfl (Nat.le_of_ble_eq_true rfl) (Nat.le_of_ble_eq_true rfl) (Nat.le_of_ble_eq_true rfl) (Nat.le_of_ble_eq_true rfl) (Nat.le_of_ble_eq_true rfl) ?_
    intro v M2 hz
    obtain ⟨rfl, rfl⟩ := hz
    show xW _ _ _ _ 16 _ [.int v6] (mem t7 Gb) _ _
    refine xi_if_eq (tgt := 26) dX12_gain_16 (by decide) (fun c9 => ?_) (fun c9 => ?_)
    · replace hq := ite_p c9 hq
      refine xi_sipush (v := (-1000)) dX12_gain_26 (by decide) ?_
      have r10 := some_pair hq
      obtain ⟨rfl, rfl⟩ := r10
      exact xi_iret dX12_gain_29 rfl rfl (Nat.le_of_ble_eq_true rfl) (Nat.le_of_ble_eq_true rfl) ⟨rfl, rfl⟩
    · replace hq := ite_n c9 hq
      refine xi_iload_n 2 dX12_gain_19 rfl ?_
      obtain ⟨v11, t12, k13, hq⟩ := bnd_some hq
      refine xi_callS (as := [.int b]) (rest := []) dX12_gain_20 (KX12_isMeasure G Gb b _ _ _ k13) mkX12_isMeasure w_1288 w_1287 rfl rfl (Nat.le_of_ble_eq_true rfl) (Nat.le_of_ble_eq_true rfl) (Nat.le_of_ble_eq_true rfl) (Nat.le_of_ble_eq_true rfl) (Nat.le_of_ble_eq_true rfl) ?_
      intro v M2 hz
      obtain ⟨rfl, rfl⟩ := hz
      show xW _ _ _ _ 23 _ [.int v11] (mem t12 Gb) _ _
      refine xi_if_ne (tgt := 30) dX12_gain_23 (by decide) (fun c14 => ?_) (fun c14 => ?_)
      · replace hq := ite_n c14 hq
        refine xi_aload_n 0 dX12_gain_30 rfl ?_
        refine xi_iload_n 1 dX12_gain_31 rfl ?_
        obtain ⟨v15, t16, k17, hq⟩ := bnd_some hq
        refine xi_callV (as := [.int a]) (rest := []) dX12_gain_32 (KX12_laysRow G Gb a _ _ _ k17) mkX12_laysRow w_1292 ws_66 w_1290 (mem_get sh_149) rfl rfl rfl rfl (Nat.le_of_ble_eq_true rfl) (Nat.le_of_ble_eq_true rfl) (Nat.le_of_ble_eq_true rfl) (Nat.le_of_ble_eq_true rfl) (Nat.le_of_ble_eq_true rfl) ?_
        intro v M2 hz
        obtain ⟨rfl, rfl⟩ := hz
        show xW _ _ _ _ 35 _ [] (mem t16 Gb) _ _
        refine xi_aload_n 0 dX12_gain_35 rfl ?_
        refine xi_iload_n 1 dX12_gain_36 rfl ?_
        refine xi_iload_n 2 dX12_gain_37 rfl ?_
        obtain ⟨v18, t19, k20, hq⟩ := bnd_some hq
        refine xi_callV (as := [.int a, .int b]) (rest := []) dX12_gain_38 (KX12_valueOf G Gb a b _ _ _ k20) mkX12_valueOf w_1296 ws_67 w_1294 (mem_get sh_149) rfl rfl rfl rfl (Nat.le_of_ble_eq_true rfl) (Nat.le_of_ble_eq_true rfl) (Nat.le_of_ble_eq_true rfl) (Nat.le_of_ble_eq_true rfl) (Nat.le_of_ble_eq_true rfl) ?_
        intro v M2 hz
        obtain ⟨rfl, rfl⟩ := hz
        show xW _ _ _ _ 41 _ [.int v18] (mem t19 Gb) _ _
        refine xi_istore (lv' := [(5, .int v18), (0, .ref 149), (1, .int a), (2, .int b), (3, .int c), (4, .int d)]) dX12_gain_41 (by decide) rfl ?_
        refine xi_aload_n 1 dX12_gain_43 rfl ?_
        refine xi_iload_n 4 dX12_gain_44 rfl ?_
        refine xi_iload 5 dX12_gain_45 rfl ?_
        obtain ⟨v21, t22, k23, hq⟩ := bnd_some hq
        refine xi_callV (as := [.int c, .int d]) (rest := []) dX12_gain_47 (KX12_exchanges G Gb c d _ _ _ k23) mkX12_exchanges w_1452 ws_87 w_1450 (mem_get sh_149) rfl rfl rfl rfl (Nat.le_of_ble_eq_true rfl) (Nat.le_of_ble_eq_true rfl) (Nat.le_of_ble_eq_true rfl) (Nat.le_of_ble_eq_true rfl) (Nat.le_of_ble_eq_true rfl) ?_
        intro v M2 hz
        obtain ⟨rfl, rfl⟩ := hz
        show xW _ _ _ _ 50 _ [] (mem t22 Gb) _ _
        refine xi_aload_n 1 dX12_gain_50 rfl ?_
        refine xi_iload_n 2 dX12_gain_51 rfl ?_
        refine xi_iload_n 3 dX12_gain_52 rfl ?_
        obtain ⟨v24, t25, k26, hq⟩ := bnd_some hq
        refine xi_callV (as := [.int a, .int b]) (rest := []) dX12_gain_53 (KX12_valueOf G Gb a b _ _ _ k26) mkX12_valueOf w_1296 ws_67 w_1294 (mem_get sh_149) rfl rfl rfl rfl (Nat.le_of_ble_eq_true rfl) (Nat.le_of_ble_eq_true rfl) (Nat.le_of_ble_eq_true rfl) (Nat.le_of_ble_eq_true rfl) (Nat.le_of_ble_eq_true rfl) ?_
        intro v M2 hz
        obtain ⟨rfl, rfl⟩ := hz
        show xW _ _ _ _ 56 _ [.int v24] (mem t25 Gb) _ _
        refine xi_iload 0 dX12_gain_56 rfl ?_
        refine xi_isub (v := v24 - v18) dX12_gain_58 rfl ?_
        have r27 := some_pair hq
        obtain ⟨rfl, rfl⟩ := r27
        exact xi_iret dX12_gain_59 rfl rfl (Nat.le_of_ble_eq_true rfl) (Nat.le_of_ble_eq_true rfl) ⟨rfl, rfl⟩
      · replace hq := ite_p c14 hq
        refine xi_sipush (v := (-1000)) dX12_gain_26 (by decide) ?_
        have r28 := some_pair hq
        obtain ⟨rfl, rfl⟩ := r28
        exact xi_iret dX12_gain_29 rfl rfl (Nat.le_of_ble_eq_true rfl) (Nat.le_of_ble_eq_true rfl) ⟨rfl, rfl⟩
noncomputable def FX12_puts (a : Int32) (b : Int32) (c : Int32) (σ : St) : Option ((Unit) × St) :=
  (chk (inb ((((91 : Int32) * a) + (82 : Int32)) + b) 273) (wrb σ 150 (((((91 : Int32) * a) + (82 : Int32)) + b).toNatClampNeg) c (fun t2 => (some ((), t2)))))
set_option maxHeartbeats 4000000 in
set_option maxRecDepth 100000 in
theorem KX12_puts (G : xG) (Gb : xMem) (a : Int32) (b : Int32) (c : Int32) (σ : St) (r0 : Unit) (t0 : St) (hq : FX12_puts a b c σ = some (r0, t0)) : xC G mX12_puts 0 0 0 [.ref 149, .int a, .int b, .int c] (mem σ Gb) (PV r0 t0 Gb) := by
  unfold FX12_puts at hq
  refine xC.of (by decide) (Nat.le_of_ble_eq_true rfl) ?_
  show xW _ _ _ _ 0 [(0, .ref 149), (1, .int a), (2, .int b), (3, .int c)] [] _ 0 0
  refine xi_aload_n 0 dX12_puts_0 rfl ?_
  refine yi_getR (f := 0) dX12_puts_1 sh_149 rfl ok_9 (by decide) w_1008 rfl ?_
  refine xi_bipush (v := 91) dX12_puts_4 (by decide) ?_
  refine xi_iload_n 1 dX12_puts_6 rfl ?_
  refine xi_imul (v := (91 : Int32) * a) dX12_puts_7 rfl ?_
  refine xi_bipush (v := 82) dX12_puts_8 (by decide) ?_
  refine xi_iadd (v := ((91 : Int32) * a) + (82 : Int32)) dX12_puts_10 rfl ?_
  refine xi_iload_n 2 dX12_puts_11 rfl ?_
  refine xi_iadd (v := (((91 : Int32) * a) + (82 : Int32)) + b) dX12_puts_12 rfl ?_
  refine xi_iload_n 3 dX12_puts_13 rfl ?_
  obtain ⟨g1, hq⟩ := chk_some hq
  obtain ⟨t2, h3, hq⟩ := wrb_some hq
  refine yi_iastoreV dX12_puts_14 sh_150 g1 h3 ?_
  have r4 := some_pair hq
  obtain ⟨rfl, rfl⟩ := r4
  exact xi_vret dX12_puts_15 rfl (Nat.le_of_ble_eq_true rfl) (Nat.le_of_ble_eq_true rfl) ⟨rfl, rfl⟩
noncomputable def SX12_takesRow_4 (w1 : Int32) (c : Int32 × Int32) (σ : St) : Option (((Int32 × Int32) ⊕ (Int32)) × St) :=
  (bnd (FX12_points w1 σ) (fun v1 t2 => (if v1 ≤ c.2 then (some (Sum.inr c.1, t2)) else (bnd (FX12_at w1 c.2 t2) (fun v5 t6 => (chk (inb c.2 9) (rdb t6 154 (c.2.toNatClampNeg) (fun v9 => (bnd (if v5 = v9 then (some ((0 : Int32), t6)) else (some ((1 : Int32), t6))) (fun v12 t13 => (some (Sum.inl ((c.1 + v12), (c.2 + 1)), t13))))))))))))
noncomputable def SX12_takesRow_48 (w1 : Int32) (w2 : Int32) (c : Int32) (σ : St) : Option (((Int32) ⊕ (Unit)) × St) :=
  (bnd (FX12_points w1 σ) (fun v23 t24 => (if v23 ≤ c then (some (Sum.inr (), t24)) else (chk (inb c 9) (rdb t24 154 (c.toNatClampNeg) (fun v28 => (bnd (FX12_puts w1 c v28 t24) (fun v30 t31 => (some (Sum.inl (c + 1), t31))))))))))
set_option maxHeartbeats 4000000 in
set_option maxRecDepth 100000 in
theorem SX12_takesRow_4_w (G : xG) (Gb : xMem) (w1 : Int32) (r0 : Int32) (t0 : St) :
    ∀ (k : Nat) (c : Int32 × Int32) (σ : St) (r : Int32) (σ' : St), itr (SX12_takesRow_4 w1) k c σ = some (r, σ') → (xW G mX12_takesRow (xrm 2 0 0) (xQ G (PQ r0 t0 Gb) 0 0) 42 [(0, .ref 149), (1, .int w1), (2, .int r)] [] (mem σ' Gb) 0 0) → xW G mX12_takesRow (xrm 2 0 0) (xQ G (PQ r0 t0 Gb) 0 0) 4 [(0, .ref 149), (1, .int w1), (2, .int c.1), (3, .int c.2)] [] (mem σ Gb) 0 0 := by
  intro k
  induction k with
  | zero =>
    intro c σ r σ' h
    exact absurd h (itr_zero _ _ _ _)
  | succ k ih =>
    intro c σ r σ' h HE
    obtain ⟨x, s1, hs, h⟩ := itr_succ h
    unfold SX12_takesRow_4 at hs
    refine xi_iload_n 3 dX12_takesRow_4 rfl ?_
    refine xi_aload_n 0 dX12_takesRow_5 rfl ?_
    refine xi_iload_n 1 dX12_takesRow_6 rfl ?_
    obtain ⟨v1, t2, k3, hs⟩ := bnd_some hs
    refine xi_callV (as := [.int w1]) (rest := [.int c.2]) dX12_takesRow_7 (KX12_points G Gb w1 _ _ _ k3) mkX12_points w_1108 ws_36 w_1106 (mem_get sh_149) rfl rfl rfl rfl (Nat.le_of_ble_eq_true rfl) (Nat.le_of_ble_eq_true rfl) (Nat.le_of_ble_eq_true rfl) (Nat.le_of_ble_eq_true rfl) (Nat.le_of_ble_eq_true rfl) ?_
    intro v M2 hz
    obtain ⟨rfl, rfl⟩ := hz
    show xW _ _ _ _ 10 _ [.int v1, .int c.2] (mem t2 Gb) _ _
    refine xi_icmp_ge (tgt := 42) dX12_takesRow_10 (by decide) (fun c4 => ?_) (fun c4 => ?_)
    · replace hs := ite_p c4 hs
      refine xi_sub (lv' := [(0, .ref 149), (1, .int w1), (2, .int c.1)]) [0, 1, 2] rfl ?_
      obtain ⟨rfl, rfl⟩ := some_pair hs
      obtain ⟨rfl, rfl⟩ := some_pair h
      exact HE
    · replace hs := ite_n c4 hs
      refine xi_iload_n 2 dX12_takesRow_13 rfl ?_
      refine xi_aload_n 0 dX12_takesRow_14 rfl ?_
      refine xi_iload_n 1 dX12_takesRow_15 rfl ?_
      refine xi_iload_n 3 dX12_takesRow_16 rfl ?_
      obtain ⟨v5, t6, k7, hs⟩ := bnd_some hs
      refine xi_callV (as := [.int w1, .int c.2]) (rest := [.int c.1]) dX12_takesRow_17 (KX12_at G Gb w1 c.2 _ _ _ k7) mkX12_at w_1273 ws_64 w_1271 (mem_get sh_149) rfl rfl rfl rfl (Nat.le_of_ble_eq_true rfl) (Nat.le_of_ble_eq_true rfl) (Nat.le_of_ble_eq_true rfl) (Nat.le_of_ble_eq_true rfl) (Nat.le_of_ble_eq_true rfl) ?_
      intro v M2 hz
      obtain ⟨rfl, rfl⟩ := hz
      show xW _ _ _ _ 20 _ [.int v5, .int c.1] (mem t6 Gb) _ _
      refine xi_aload_n 0 dX12_takesRow_20 rfl ?_
      refine yi_getR (f := 13) dX12_takesRow_21 sh_149 rfl ok_9 (by decide) w_1021 rfl ?_
      refine xi_iload_n 3 dX12_takesRow_24 rfl ?_
      obtain ⟨g8, hs⟩ := chk_some hs
      obtain ⟨v9, h10, hs⟩ := rdb_some hs
      refine yi_ialoadV dX12_takesRow_25 sh_154 g8 h10 ?_
      obtain ⟨v12, t13, m14, hs⟩ := bnd_some hs
      have key15 : xW G mX12_takesRow (xrm 2 0 0) (xQ G (PQ r0 t0 Gb) 0 0) 34 [(0, .ref 149), (1, .int w1), (3, .int c.2)] [.int v12, .int c.1] (mem t13 Gb) 0 0 := by
        refine xi_iadd (v := c.1 + v12) dX12_takesRow_34 rfl ?_
        refine xi_istore_n (lv' := [(2, .int (c.1 + v12)), (0, .ref 149), (1, .int w1), (3, .int c.2)]) dX12_takesRow_35 (by decide) rfl ?_
        refine xi_iinc (v := (c.2 + 1)) (lv' := [(3, .int (c.2 + 1)), (2, .int (c.1 + v12)), (0, .ref 149), (1, .int w1)]) 3 dX12_takesRow_36 rfl rfl (by decide) rfl ?_
        refine xi_goto (tgt := 4) dX12_takesRow_39 (by decide) ?_
        refine xi_sub (lv' := [(0, .ref 149), (1, .int w1), (2, .int (c.1 + v12)), (3, .int (c.2 + 1))]) [2, 3, 1, 0] rfl ?_
        obtain ⟨rfl, rfl⟩ := some_pair hs
        exact ih ((c.1 + v12), (c.2 + 1)) t13 _ _ h HE
      refine xi_icmp_ne (tgt := 33) dX12_takesRow_26 (by decide) (fun c11 => ?_) (fun c11 => ?_)
      · replace m14 := ite_n c11 m14
        refine xi_iconst (v := 1) dX12_takesRow_33 (by decide) ?_
        obtain ⟨rfl, rfl⟩ := some_pair m14
        refine xi_sub (lv' := [(0, .ref 149), (1, .int w1), (3, .int c.2)]) [0, 1, 3] rfl ?_
        exact key15
      · replace m14 := ite_p c11 m14
        refine xi_iconst (v := 0) dX12_takesRow_29 (by decide) ?_
        refine xi_goto (tgt := 34) dX12_takesRow_30 (by decide) ?_
        obtain ⟨rfl, rfl⟩ := some_pair m14
        refine xi_sub (lv' := [(0, .ref 149), (1, .int w1), (3, .int c.2)]) [0, 1, 3] rfl ?_
        exact key15
set_option maxHeartbeats 4000000 in
set_option maxRecDepth 100000 in
theorem SX12_takesRow_48_w (G : xG) (Gb : xMem) (w1 : Int32) (w2 : Int32) (r0 : Int32) (t0 : St) :
    ∀ (k : Nat) (c : Int32) (σ : St) (r : Unit) (σ' : St), itr (SX12_takesRow_48 w1 w2) k c σ = some (r, σ') → (xW G mX12_takesRow (xrm 2 0 0) (xQ G (PQ r0 t0 Gb) 0 0) 75 [(0, .ref 149), (2, .int w2)] [] (mem σ' Gb) 0 0) → xW G mX12_takesRow (xrm 2 0 0) (xQ G (PQ r0 t0 Gb) 0 0) 48 [(0, .ref 149), (1, .int w1), (2, .int w2), (3, .int c)] [] (mem σ Gb) 0 0 := by
  intro k
  induction k with
  | zero =>
    intro c σ r σ' h
    exact absurd h (itr_zero _ _ _ _)
  | succ k ih =>
    intro c σ r σ' h HE
    obtain ⟨x, s1, hs, h⟩ := itr_succ h
    unfold SX12_takesRow_48 at hs
    refine xi_iload_n 3 dX12_takesRow_48 rfl ?_
    refine xi_aload_n 0 dX12_takesRow_49 rfl ?_
    refine xi_iload_n 1 dX12_takesRow_50 rfl ?_
    obtain ⟨v23, t24, k25, hs⟩ := bnd_some hs
    refine xi_callV (as := [.int w1]) (rest := [.int c]) dX12_takesRow_51 (KX12_points G Gb w1 _ _ _ k25) mkX12_points w_1108 ws_36 w_1106 (mem_get sh_149) rfl rfl rfl rfl (Nat.le_of_ble_eq_true rfl) (Nat.le_of_ble_eq_true rfl) (Nat.le_of_ble_eq_true rfl) (Nat.le_of_ble_eq_true rfl) (Nat.le_of_ble_eq_true rfl) ?_
    intro v M2 hz
    obtain ⟨rfl, rfl⟩ := hz
    show xW _ _ _ _ 54 _ [.int v23, .int c] (mem t24 Gb) _ _
    refine xi_icmp_ge (tgt := 75) dX12_takesRow_54 (by decide) (fun c26 => ?_) (fun c26 => ?_)
    · replace hs := ite_p c26 hs
      refine xi_sub (lv' := [(0, .ref 149), (2, .int w2)]) [0, 2] rfl ?_
      obtain ⟨rfl, rfl⟩ := some_pair hs
      obtain ⟨rfl, rfl⟩ := some_pair h
      exact HE
    · replace hs := ite_n c26 hs
      refine xi_aload_n 0 dX12_takesRow_57 rfl ?_
      refine xi_iload_n 1 dX12_takesRow_58 rfl ?_
      refine xi_iload_n 3 dX12_takesRow_59 rfl ?_
      refine xi_aload_n 0 dX12_takesRow_60 rfl ?_
      refine yi_getR (f := 13) dX12_takesRow_61 sh_149 rfl ok_9 (by decide) w_1021 rfl ?_
      refine xi_iload_n 3 dX12_takesRow_64 rfl ?_
      obtain ⟨g27, hs⟩ := chk_some hs
      obtain ⟨v28, h29, hs⟩ := rdb_some hs
      refine yi_ialoadV dX12_takesRow_65 sh_154 g27 h29 ?_
      obtain ⟨v30, t31, k32, hs⟩ := bnd_some hs
      refine xi_callV (as := [.int w1, .int c, .int v28]) (rest := []) dX12_takesRow_66 (KX12_puts G Gb w1 c v28 _ _ _ k32) mkX12_puts w_1172 ws_48 w_1170 (mem_get sh_149) rfl rfl rfl rfl (Nat.le_of_ble_eq_true rfl) (Nat.le_of_ble_eq_true rfl) (Nat.le_of_ble_eq_true rfl) (Nat.le_of_ble_eq_true rfl) (Nat.le_of_ble_eq_true rfl) ?_
      intro v M2 hz
      obtain ⟨rfl, rfl⟩ := hz
      show xW _ _ _ _ 69 _ [] (mem t31 Gb) _ _
      refine xi_iinc (v := (c + 1)) (lv' := [(3, .int (c + 1)), (0, .ref 149), (1, .int w1), (2, .int w2)]) 3 dX12_takesRow_69 rfl rfl (by decide) rfl ?_
      refine xi_goto (tgt := 48) dX12_takesRow_72 (by decide) ?_
      refine xi_sub (lv' := [(0, .ref 149), (1, .int w1), (2, .int w2), (3, .int (c + 1))]) [1, 2, 3, 0] rfl ?_
      obtain ⟨rfl, rfl⟩ := some_pair hs
      exact ih (c + 1) t31 _ _ h HE
noncomputable def FX12_takesRow (a : Int32) (σ : St) : Option ((Int32) × St) :=
  (bnd (wh (SX12_takesRow_4 a) ((0 : Int32), (0 : Int32)) σ) (fun e16 t17 => (bnd (FX12_remembers  t17) (fun v20 t21 => (bnd (wh (SX12_takesRow_48 a e16) (0 : Int32) t21) (fun e33 t34 => (bnd (FX12_done e16 t34) (fun v37 t38 => (some (v37, t38))))))))))
set_option maxHeartbeats 4000000 in
set_option maxRecDepth 100000 in
theorem KX12_takesRow (G : xG) (Gb : xMem) (a : Int32) (σ : St) (r0 : Int32) (t0 : St) (hq : FX12_takesRow a σ = some (r0, t0)) : xC G mX12_takesRow 2 0 0 [.ref 149, .int a] (mem σ Gb) (PQ r0 t0 Gb) := by
  unfold FX12_takesRow at hq
  refine xC.of (by decide) (Nat.le_of_ble_eq_true rfl) ?_
  show xW _ _ _ _ 0 [(0, .ref 149), (1, .int a)] [] _ 0 0
  refine xi_iconst (v := 0) dX12_takesRow_0 (by decide) ?_
  refine xi_istore_n (lv' := [(2, .int 0), (0, .ref 149), (1, .int a)]) dX12_takesRow_1 (by decide) rfl ?_
  refine xi_iconst (v := 0) dX12_takesRow_2 (by decide) ?_
  refine xi_istore_n (lv' := [(3, .int 0), (2, .int 0), (0, .ref 149), (1, .int a)]) dX12_takesRow_3 (by decide) rfl ?_
  refine xi_sub (lv' := [(0, .ref 149), (1, .int a), (2, .int 0), (3, .int 0)]) [2, 3, 1, 0] rfl ?_
  obtain ⟨e16, t17, k18, hq⟩ := bnd_some hq
  obtain ⟨n19, k18⟩ := wh_itr k18
  refine SX12_takesRow_4_w G Gb a r0 t0 n19 ((0 : Int32), (0 : Int32)) σ _ _ k18 ?_
  show xW G mX12_takesRow (xrm 2 0 0) (xQ G (PQ r0 t0 Gb) 0 0) 42 [(0, .ref 149), (1, .int a), (2, .int e16)] [] (mem t17 Gb) 0 0
  refine xi_aload_n 0 dX12_takesRow_42 rfl ?_
  obtain ⟨v20, t21, k22, hq⟩ := bnd_some hq
  refine xi_callV (as := []) (rest := []) dX12_takesRow_43 (KX12_remembers G Gb  _ _ _ k22) mkX12_remembers w_1112 ws_37 w_1110 (mem_get sh_149) rfl rfl rfl rfl (Nat.le_of_ble_eq_true rfl) (Nat.le_of_ble_eq_true rfl) (Nat.le_of_ble_eq_true rfl) (Nat.le_of_ble_eq_true rfl) (Nat.le_of_ble_eq_true rfl) ?_
  intro v M2 hz
  obtain ⟨rfl, rfl⟩ := hz
  show xW _ _ _ _ 46 _ [] (mem t21 Gb) _ _
  refine xi_iconst (v := 0) dX12_takesRow_46 (by decide) ?_
  refine xi_istore_n (lv' := [(3, .int 0), (0, .ref 149), (1, .int a), (2, .int e16)]) dX12_takesRow_47 (by decide) rfl ?_
  refine xi_sub (lv' := [(0, .ref 149), (1, .int a), (2, .int e16), (3, .int 0)]) [1, 2, 3, 0] rfl ?_
  obtain ⟨e33, t34, k35, hq⟩ := bnd_some hq
  obtain ⟨n36, k35⟩ := wh_itr k35
  refine SX12_takesRow_48_w G Gb a e16 r0 t0 n36 (0 : Int32) t21 _ _ k35 ?_
  show xW G mX12_takesRow (xrm 2 0 0) (xQ G (PQ r0 t0 Gb) 0 0) 75 [(0, .ref 149), (2, .int e16)] [] (mem t34 Gb) 0 0
  refine xi_aload_n 0 dX12_takesRow_75 rfl ?_
  refine xi_iload_n 1 dX12_takesRow_76 rfl ?_
  obtain ⟨v37, t38, k39, hq⟩ := bnd_some hq
  refine xi_callV (as := [.int e16]) (rest := []) dX12_takesRow_77 (KX12_done G Gb e16 _ _ _ k39) mkX12_done w_1211 ws_56 w_1209 (mem_get sh_149) rfl rfl rfl rfl (Nat.le_of_ble_eq_true rfl) (Nat.le_of_ble_eq_true rfl) (Nat.le_of_ble_eq_true rfl) (Nat.le_of_ble_eq_true rfl) (Nat.le_of_ble_eq_true rfl) ?_
  intro v M2 hz
  obtain ⟨rfl, rfl⟩ := hz
  show xW _ _ _ _ 80 _ [.int v37] (mem t38 Gb) _ _
  have r40 := some_pair hq
  obtain ⟨rfl, rfl⟩ := r40
  exact xi_iret dX12_takesRow_80 rfl rfl (Nat.le_of_ble_eq_true rfl) (Nat.le_of_ble_eq_true rfl) ⟨rfl, rfl⟩
noncomputable def SX12_greedy_44 (w1 : Int32) (w2 : Int32) (w3 : Int32) (w4 : Int32) (c : Int32 × Int32) (σ : St) : Option (((Int32 × Int32) ⊕ (Int32)) × St) :=
  (bnd (FX12_points w1 σ) (fun v16 t17 => (if v16 ≤ c.2 then (some (Sum.inr c.1, t17)) else (bnd (FX12_has w3 c.2 t17) (fun v20 t21 => (bnd (if v20 = (0 : Int32) then (if c.1 = (-1 : Int32) then (some (c.2, t21)) else (bnd (FX12_cost w1 w2 w3 c.2 t21) (fun v29 t30 => (bnd (FX12_cost w1 w2 w3 c.1 t30) (fun v32 t33 => (if v32 ≤ v29 then (some (c.1, t33)) else (some (c.2, t33)))))))) else (some (c.1, t21))) (fun v24 t25 => (some (Sum.inl (v24, (c.2 + 1)), t25)))))))))
noncomputable def SX12_greedy_28 (w1 : Int32) (w2 : Int32) (c : Int32 × Int32) (σ : St) : Option (((Int32 × Int32) ⊕ (Unit)) × St) :=
  (bnd (FX12_points w1 σ) (fun v12 t13 => (if v12 ≤ c.2 then (some (Sum.inr (), t13)) else (bnd (wh (SX12_greedy_44 w1 w2 c.1 c.2) ((-1 : Int32), (0 : Int32)) t13) (fun e36 t37 => (chk (inb c.2 9) (wrb t37 154 (c.2.toNatClampNeg) e36 (fun t41 => (some (Sum.inl ((c.1 ||| (shl (1 : Int32) e36)), (c.2 + 1)), t41))))))))))
set_option maxHeartbeats 4000000 in
set_option maxRecDepth 100000 in
theorem SX12_greedy_44_w (G : xG) (Gb : xMem) (w1 : Int32) (w2 : Int32) (w3 : Int32) (w4 : Int32) (r0 : Int32) (t0 : St) :
    ∀ (k : Nat) (c : Int32 × Int32) (σ : St) (r : Int32) (σ' : St), itr (SX12_greedy_44 w1 w2 w3 w4) k c σ = some (r, σ') → (xW G mX12_greedy (xrm 6 0 0) (xQ G (PQ r0 t0 Gb) 0 0) 105 [(0, .ref 149), (1, .int w1), (2, .int w2), (3, .int w3), (4, .int w4), (5, .int r)] [] (mem σ' Gb) 0 0) → xW G mX12_greedy (xrm 6 0 0) (xQ G (PQ r0 t0 Gb) 0 0) 44 [(0, .ref 149), (1, .int w1), (2, .int w2), (3, .int w3), (4, .int w4), (5, .int c.1), (6, .int c.2)] [] (mem σ Gb) 0 0 := by
  intro k
  induction k with
  | zero =>
    intro c σ r σ' h
    exact absurd h (itr_zero _ _ _ _)
  | succ k ih =>
    intro c σ r σ' h HE
    obtain ⟨x, s1, hs, h⟩ := itr_succ h
    unfold SX12_greedy_44 at hs
    refine xi_iload 6 dX12_greedy_44 rfl ?_
    refine xi_aload_n 0 dX12_greedy_46 rfl ?_
    refine xi_iload_n 1 dX12_greedy_47 rfl ?_
    obtain ⟨v16, t17, k18, hs⟩ := bnd_some hs
    refine xi_callV (as := [.int w1]) (rest := [.int c.2]) dX12_greedy_48 (KX12_points G Gb w1 _ _ _ k18) mkX12_points w_1108 ws_36 w_1106 (mem_get sh_149) rfl rfl rfl rfl (Nat.le_of_ble_eq_true rfl) (Nat.le_of_ble_eq_true rfl) (Nat.le_of_ble_eq_true rfl) (Nat.le_of_ble_eq_true rfl) (Nat.le_of_ble_eq_true rfl) ?_
    intro v M2 hz
    obtain ⟨rfl, rfl⟩ := hz
    show xW _ _ _ _ 51 _ [.int v16, .int c.2] (mem t17 Gb) _ _
    refine xi_icmp_ge (tgt := 105) dX12_greedy_51 (by decide) (fun c19 => ?_) (fun c19 => ?_)
    · replace hs := ite_p c19 hs
      refine xi_sub (lv' := [(0, .ref 149), (1, .int w1), (2, .int w2), (3, .int w3), (4, .int w4), (5, .int c.1)]) [0, 1, 2, 3, 4, 5] rfl ?_
      obtain ⟨rfl, rfl⟩ := some_pair hs
      obtain ⟨rfl, rfl⟩ := some_pair h
      exact HE
    · replace hs := ite_n c19 hs
      refine xi_iload_n 3 dX12_greedy_54 rfl ?_
      refine xi_iload 6 dX12_greedy_55 rfl ?_
      obtain ⟨v20, t21, k22, hs⟩ := bnd_some hs
      refine xi_callS (as := [.int w3, .int c.2]) (rest := []) dX12_greedy_57 (KX12_has G Gb w3 c.2 _ _ _ k22) mkX12_has w_1207 w_1206 rfl rfl (Nat.le_of_ble_eq_true rfl) (Nat.le_of_ble_eq_true rfl) (Nat.le_of_ble_eq_true rfl) (Nat.le_of_ble_eq_true rfl) (Nat.le_of_ble_eq_true rfl) ?_
      intro v M2 hz
      obtain ⟨rfl, rfl⟩ := hz
      show xW _ _ _ _ 60 _ [.int v20] (mem t21 Gb) _ _
      obtain ⟨v24, t25, m26, hs⟩ := bnd_some hs
      have key27 : xW G mX12_greedy (xrm 6 0 0) (xQ G (PQ r0 t0 Gb) 0 0) 97 [(0, .ref 149), (1, .int w1), (2, .int w2), (3, .int w3), (4, .int w4), (6, .int c.2)] [.int v24] (mem t25 Gb) 0 0 := by
        refine xi_istore (lv' := [(5, .int v24), (0, .ref 149), (1, .int w1), (2, .int w2), (3, .int w3), (4, .int w4), (6, .int c.2)]) dX12_greedy_97 (by decide) rfl ?_
        refine xi_iinc (v := (c.2 + 1)) (lv' := [(6, .int (c.2 + 1)), (5, .int v24), (0, .ref 149), (1, .int w1), (2, .int w2), (3, .int w3), (4, .int w4)]) 6 dX12_greedy_99 rfl rfl (by decide) rfl ?_
        refine xi_goto (tgt := 44) dX12_greedy_102 (by decide) ?_
        refine xi_sub (lv' := [(0, .ref 149), (1, .int w1), (2, .int w2), (3, .int w3), (4, .int w4), (5, .int v24), (6, .int (c.2 + 1))]) [2, 3, 4, 5, 6, 1, 0] rfl ?_
        obtain ⟨rfl, rfl⟩ := some_pair hs
        exact ih (v24, (c.2 + 1)) t25 _ _ h HE
      refine xi_if_ne (tgt := 95) dX12_greedy_60 (by decide) (fun c23 => ?_) (fun c23 => ?_)
      · replace m26 := ite_n c23 m26
        refine xi_iload 5 dX12_greedy_95 rfl ?_
        obtain ⟨rfl, rfl⟩ := some_pair m26
        refine xi_sub (lv' := [(0, .ref 149), (1, .int w1), (2, .int w2), (3, .int w3), (4, .int w4), (6, .int c.2)]) [0, 1, 2, 3, 4, 6] rfl ?_
        exact key27
      · replace m26 := ite_p c23 m26
        refine xi_iload 5 dX12_greedy_63 rfl ?_
        refine xi_iconst (v := (-1)) dX12_greedy_65 (by decide) ?_
        refine xi_icmp_eq (tgt := 90) dX12_greedy_66 (by decide) (fun c28 => ?_) (fun c28 => ?_)
        · replace m26 := ite_p c28 m26
          refine xi_iload 6 dX12_greedy_90 rfl ?_
          refine xi_goto (tgt := 97) dX12_greedy_92 (by decide) ?_
          obtain ⟨rfl, rfl⟩ := some_pair m26
          refine xi_sub (lv' := [(0, .ref 149), (1, .int w1), (2, .int w2), (3, .int w3), (4, .int w4), (6, .int c.2)]) [0, 1, 2, 3, 4, 6] rfl ?_
          exact key27
        · replace m26 := ite_n c28 m26
          refine xi_aload_n 0 dX12_greedy_69 rfl ?_
          refine xi_iload_n 1 dX12_greedy_70 rfl ?_
          refine xi_iload_n 2 dX12_greedy_71 rfl ?_
          refine xi_iload_n 3 dX12_greedy_72 rfl ?_
          refine xi_iload 6 dX12_greedy_73 rfl ?_
          obtain ⟨v29, t30, k31, m26⟩ := bnd_some m26
          refine xi_callV (as := [.int w1, .int w2, .int w3, .int c.2]) (rest := []) dX12_greedy_75 (KX12_cost G Gb w1 w2 w3 c.2 _ _ _ k31) mkX12_cost w_1304 ws_69 w_1302 (mem_get sh_149) rfl rfl rfl rfl (Nat.le_of_ble_eq_true rfl) (Nat.le_of_ble_eq_true rfl) (Nat.le_of_ble_eq_true rfl) (Nat.le_of_ble_eq_true rfl) (Nat.le_of_ble_eq_true rfl) ?_
          intro v M2 hz
          obtain ⟨rfl, rfl⟩ := hz
          show xW _ _ _ _ 78 _ [.int v29] (mem t30 Gb) _ _
          refine xi_aload_n 0 dX12_greedy_78 rfl ?_
          refine xi_iload_n 1 dX12_greedy_79 rfl ?_
          refine xi_iload_n 2 dX12_greedy_80 rfl ?_
          refine xi_iload_n 3 dX12_greedy_81 rfl ?_
          refine xi_iload 5 dX12_greedy_82 rfl ?_
          obtain ⟨v32, t33, k34, m26⟩ := bnd_some m26
          refine xi_callV (as := [.int w1, .int w2, .int w3, .int c.1]) (rest := [.int v29]) dX12_greedy_84 (KX12_cost G Gb w1 w2 w3 c.1 _ _ _ k34) mkX12_cost w_1304 ws_69 w_1302 (mem_get sh_149) rfl rfl rfl rfl (Nat.le_of_ble_eq_true rfl) (Nat.le_of_ble_eq_true rfl) (Nat.le_of_ble_eq_true rfl) (Nat.le_of_ble_eq_true rfl) (Nat.le_of_ble_eq_true rfl) ?_
          intro v M2 hz
          obtain ⟨rfl, rfl⟩ := hz
          show xW _ _ _ _ 87 _ [.int v32, .int v29] (mem t33 Gb) _ _
          refine xi_icmp_ge (tgt := 95) dX12_greedy_87 (by decide) (fun c35 => ?_) (fun c35 => ?_)
          · replace m26 := ite_p c35 m26
            refine xi_iload 5 dX12_greedy_95 rfl ?_
            obtain ⟨rfl, rfl⟩ := some_pair m26
            refine xi_sub (lv' := [(0, .ref 149), (1, .int w1), (2, .int w2), (3, .int w3), (4, .int w4), (6, .int c.2)]) [0, 1, 2, 3, 4, 6] rfl ?_
            exact key27
          · replace m26 := ite_n c35 m26
            refine xi_iload 6 dX12_greedy_90 rfl ?_
            refine xi_goto (tgt := 97) dX12_greedy_92 (by decide) ?_
            obtain ⟨rfl, rfl⟩ := some_pair m26
            refine xi_sub (lv' := [(0, .ref 149), (1, .int w1), (2, .int w2), (3, .int w3), (4, .int w4), (6, .int c.2)]) [0, 1, 2, 3, 4, 6] rfl ?_
            exact key27
set_option maxHeartbeats 4000000 in
set_option maxRecDepth 100000 in
theorem SX12_greedy_28_w (G : xG) (Gb : xMem) (w1 : Int32) (w2 : Int32) (r0 : Int32) (t0 : St) :
    ∀ (k : Nat) (c : Int32 × Int32) (σ : St) (r : Unit) (σ' : St), itr (SX12_greedy_28 w1 w2) k c σ = some (r, σ') → (xW G mX12_greedy (xrm 6 0 0) (xQ G (PQ r0 t0 Gb) 0 0) 127 [(0, .ref 149), (1, .int w1), (2, .int w2)] [] (mem σ' Gb) 0 0) → xW G mX12_greedy (xrm 6 0 0) (xQ G (PQ r0 t0 Gb) 0 0) 28 [(0, .ref 149), (1, .int w1), (2, .int w2), (3, .int c.1), (4, .int c.2)] [] (mem σ Gb) 0 0 := by
  intro k
  induction k with
  | zero =>
    intro c σ r σ' h
    exact absurd h (itr_zero _ _ _ _)
  | succ k ih =>
    intro c σ r σ' h HE
    obtain ⟨x, s1, hs, h⟩ := itr_succ h
    unfold SX12_greedy_28 at hs
    refine xi_iload 4 dX12_greedy_28 rfl ?_
    refine xi_aload_n 0 dX12_greedy_30 rfl ?_
    refine xi_iload_n 1 dX12_greedy_31 rfl ?_
    obtain ⟨v12, t13, k14, hs⟩ := bnd_some hs
    refine xi_callV (as := [.int w1]) (rest := [.int c.2]) dX12_greedy_32 (KX12_points G Gb w1 _ _ _ k14) mkX12_points w_1108 ws_36 w_1106 (mem_get sh_149) rfl rfl rfl rfl (Nat.le_of_ble_eq_true rfl) (Nat.le_of_ble_eq_true rfl) (Nat.le_of_ble_eq_true rfl) (Nat.le_of_ble_eq_true rfl) (Nat.le_of_ble_eq_true rfl) ?_
    intro v M2 hz
    obtain ⟨rfl, rfl⟩ := hz
    show xW _ _ _ _ 35 _ [.int v12, .int c.2] (mem t13 Gb) _ _
    refine xi_icmp_ge (tgt := 127) dX12_greedy_35 (by decide) (fun c15 => ?_) (fun c15 => ?_)
    · replace hs := ite_p c15 hs
      refine xi_sub (lv' := [(0, .ref 149), (1, .int w1), (2, .int w2)]) [0, 1, 2] rfl ?_
      obtain ⟨rfl, rfl⟩ := some_pair hs
      obtain ⟨rfl, rfl⟩ := some_pair h
      exact HE
    · replace hs := ite_n c15 hs
      refine xi_iconst (v := (-1)) dX12_greedy_38 (by decide) ?_
      refine xi_istore (lv' := [(5, .int (-1)), (0, .ref 149), (1, .int w1), (2, .int w2), (3, .int c.1), (4, .int c.2)]) dX12_greedy_39 (by decide) rfl ?_
      refine xi_iconst (v := 0) dX12_greedy_41 (by decide) ?_
      refine xi_istore (lv' := [(6, .int 0), (5, .int (-1)), (0, .ref 149), (1, .int w1), (2, .int w2), (3, .int c.1), (4, .int c.2)]) dX12_greedy_42 (by decide) rfl ?_
      refine xi_sub (lv' := [(0, .ref 149), (1, .int w1), (2, .int w2), (3, .int c.1), (4, .int c.2), (5, .int (-1)), (6, .int 0)]) [2, 3, 4, 5, 6, 1, 0] rfl ?_
      obtain ⟨e36, t37, k38, hs⟩ := bnd_some hs
      obtain ⟨n39, k38⟩ := wh_itr k38
      refine SX12_greedy_44_w G Gb w1 w2 c.1 c.2 r0 t0 n39 ((-1 : Int32), (0 : Int32)) t13 _ _ k38 ?_
      show xW G mX12_greedy (xrm 6 0 0) (xQ G (PQ r0 t0 Gb) 0 0) 105 [(0, .ref 149), (1, .int w1), (2, .int w2), (3, .int c.1), (4, .int c.2), (5, .int e36)] [] (mem t37 Gb) 0 0
      refine xi_aload_n 0 dX12_greedy_105 rfl ?_
      refine yi_getR (f := 13) dX12_greedy_106 sh_149 rfl ok_9 (by decide) w_1021 rfl ?_
      refine xi_iload 4 dX12_greedy_109 rfl ?_
      refine xi_iload 5 dX12_greedy_111 rfl ?_
      obtain ⟨g40, hs⟩ := chk_some hs
      obtain ⟨t41, h42, hs⟩ := wrb_some hs
      refine yi_iastoreV dX12_greedy_113 sh_154 g40 h42 ?_
      refine xi_iload_n 3 dX12_greedy_114 rfl ?_
      refine xi_iconst (v := 1) dX12_greedy_115 (by decide) ?_
      refine xi_iload 5 dX12_greedy_116 rfl ?_
      refine xi_ishl (v := shl (1 : Int32) e36) dX12_greedy_118 rfl ?_
      refine xi_ior (v := c.1 ||| (shl (1 : Int32) e36)) dX12_greedy_119 rfl ?_
      refine xi_istore_n (lv' := [(3, .int (c.1 ||| (shl (1 : Int32) e36))), (0, .ref 149), (1, .int w1), (2, .int w2), (4, .int c.2), (5, .int e36)]) dX12_greedy_120 (by decide) rfl ?_
      refine xi_iinc (v := (c.2 + 1)) (lv' := [(4, .int (c.2 + 1)), (3, .int (c.1 ||| (shl (1 : Int32) e36))), (0, .ref 149), (1, .int w1), (2, .int w2), (5, .int e36)]) 4 dX12_greedy_121 rfl rfl (by decide) rfl ?_
      refine xi_goto (tgt := 28) dX12_greedy_124 (by decide) ?_
      refine xi_sub (lv' := [(0, .ref 149), (1, .int w1), (2, .int w2), (3, .int (c.1 ||| (shl (1 : Int32) e36))), (4, .int (c.2 + 1))]) [2, 3, 4, 1, 0] rfl ?_
      obtain ⟨rfl, rfl⟩ := some_pair hs
      exact ih ((c.1 ||| (shl (1 : Int32) e36)), (c.2 + 1)) t41 _ _ h HE
noncomputable def FX12_greedy (a : Int32) (b : Int32) (σ : St) : Option ((Int32) × St) :=
  (bnd (FX12_isNet a σ) (fun v1 t2 => (if v1 = (0 : Int32) then (some ((-2 : Int32), t2)) else (bnd (FX12_isMeasure b t2) (fun v6 t7 => (if v6 = (0 : Int32) then (some ((-2 : Int32), t7)) else (if b = (2 : Int32) then (some ((-2 : Int32), t7)) else (bnd (wh (SX12_greedy_28 a b) ((0 : Int32), (0 : Int32)) t7) (fun e43 t44 => (bnd (FX12_takesRow a t44) (fun v47 t48 => (bnd (FX12_valueOf a b t48) (fun v50 t51 => (some (v50, t51)))))))))))))))
set_option maxHeartbeats 4000000 in
set_option maxRecDepth 100000 in
theorem KX12_greedy (G : xG) (Gb : xMem) (a : Int32) (b : Int32) (σ : St) (r0 : Int32) (t0 : St) (hq : FX12_greedy a b σ = some (r0, t0)) : xC G mX12_greedy 6 0 0 [.ref 149, .int a, .int b] (mem σ Gb) (PQ r0 t0 Gb) := by
  unfold FX12_greedy at hq
  refine xC.of (by decide) (Nat.le_of_ble_eq_true rfl) ?_
  show xW _ _ _ _ 0 [(0, .ref 149), (1, .int a), (2, .int b)] [] _ 0 0
  refine xi_aload_n 0 dX12_greedy_0 rfl ?_
  refine xi_iload_n 1 dX12_greedy_1 rfl ?_
  obtain ⟨v1, t2, k3, hq⟩ := bnd_some hq
  refine xi_callV (as := [.int a]) (rest := []) dX12_greedy_2 (KX12_isNet G Gb a _ _ _ k3) mkX12_isNet w_1104 ws_35 w_1102 (mem_get sh_149) rfl rfl rfl rfl (Nat.le_of_ble_eq_true rfl) (Nat.le_of_ble_eq_true rfl) (Nat.le_of_ble_eq_true rfl) (Nat.le_of_ble_eq_true rfl) (Nat.le_of_ble_eq_true rfl) ?_
  intro v M2 hz
  obtain ⟨rfl, rfl⟩ := hz
  show xW _ _ _ _ 5 _ [.int v1] (mem t2 Gb) _ _
  refine xi_if_eq (tgt := 20) dX12_greedy_5 (by decide) (fun c4 => ?_) (fun c4 => ?_)
  · replace hq := ite_p c4 hq
    refine xi_bipush (v := (-2)) dX12_greedy_20 (by decide) ?_
    have r5 := some_pair hq
    obtain ⟨rfl, rfl⟩ := r5
    exact xi_iret dX12_greedy_22 rfl rfl (Nat.le_of_ble_eq_true rfl) (Nat.le_of_ble_eq_true rfl) ⟨rfl, rfl⟩
  · replace hq := ite_n c4 hq
    refine xi_iload_n 2 dX12_greedy_8 rfl ?_
    obtain ⟨v6, t7, k8, hq⟩ := bnd_some hq
    refine xi_callS (as := [.int b]) (rest := []) dX12_greedy_9 (KX12_isMeasure G Gb b _ _ _ k8) mkX12_isMeasure w_1288 w_1287 rfl rfl (Nat.le_of_ble_eq_true rfl) (Nat.le_of_ble_eq_true rfl) (Nat.le_of_ble_eq_true rfl) (Nat.le_of_ble_eq_true rfl) (Nat.le_of_ble_eq_true rfl) ?_
    intro v M2 hz
    obtain ⟨rfl, rfl⟩ := hz
    show xW _ _ _ _ 12 _ [.int v6] (mem t7 Gb) _ _
    refine xi_if_eq (tgt := 20) dX12_greedy_12 (by decide) (fun c9 => ?_) (fun c9 => ?_)
    · replace hq := ite_p c9 hq
      refine xi_bipush (v := (-2)) dX12_greedy_20 (by decide) ?_
      have r10 := some_pair hq
      obtain ⟨rfl, rfl⟩ := r10
      exact xi_iret dX12_greedy_22 rfl rfl (Nat.le_of_ble_eq_true rfl) (Nat.le_of_ble_eq_true rfl) ⟨rfl, rfl⟩
    · replace hq := ite_n c9 hq
      refine xi_iload_n 2 dX12_greedy_15 rfl ?_
      refine xi_iconst (v := 2) dX12_greedy_16 (by decide) ?_
      refine xi_icmp_ne (tgt := 23) dX12_greedy_17 (by decide) (fun c11 => ?_) (fun c11 => ?_)
      · replace hq := ite_n c11 hq
        refine xi_iconst (v := 0) dX12_greedy_23 (by decide) ?_
        refine xi_istore_n (lv' := [(3, .int 0), (0, .ref 149), (1, .int a), (2, .int b)]) dX12_greedy_24 (by decide) rfl ?_
        refine xi_iconst (v := 0) dX12_greedy_25 (by decide) ?_
        refine xi_istore (lv' := [(4, .int 0), (3, .int 0), (0, .ref 149), (1, .int a), (2, .int b)]) dX12_greedy_26 (by decide) rfl ?_
        refine xi_sub (lv' := [(0, .ref 149), (1, .int a), (2, .int b), (3, .int 0), (4, .int 0)]) [2, 3, 4, 1, 0] rfl ?_
        obtain ⟨e43, t44, k45, hq⟩ := bnd_some hq
        obtain ⟨n46, k45⟩ := wh_itr k45
        refine SX12_greedy_28_w G Gb a b r0 t0 n46 ((0 : Int32), (0 : Int32)) t7 _ _ k45 ?_
        show xW G mX12_greedy (xrm 6 0 0) (xQ G (PQ r0 t0 Gb) 0 0) 127 [(0, .ref 149), (1, .int a), (2, .int b)] [] (mem t44 Gb) 0 0
        refine xi_aload_n 0 dX12_greedy_127 rfl ?_
        refine xi_iload_n 1 dX12_greedy_128 rfl ?_
        obtain ⟨v47, t48, k49, hq⟩ := bnd_some hq
        refine xi_callV (as := [.int a]) (rest := []) dX12_greedy_129 (KX12_takesRow G Gb a _ _ _ k49) mkX12_takesRow w_1460 ws_88 w_1458 (mem_get sh_149) rfl rfl rfl rfl (Nat.le_of_ble_eq_true rfl) (Nat.le_of_ble_eq_true rfl) (Nat.le_of_ble_eq_true rfl) (Nat.le_of_ble_eq_true rfl) (Nat.le_of_ble_eq_true rfl) ?_
        intro v M2 hz
        obtain ⟨rfl, rfl⟩ := hz
        show xW _ _ _ _ 132 _ [.int v47] (mem t48 Gb) _ _
        refine xi_istore (lv' := [(4, .int v47), (0, .ref 149), (1, .int a), (2, .int b)]) dX12_greedy_132 (by decide) rfl ?_
        refine xi_aload_n 1 dX12_greedy_134 rfl ?_
        refine xi_iload_n 2 dX12_greedy_135 rfl ?_
        refine xi_iload_n 3 dX12_greedy_136 rfl ?_
        obtain ⟨v50, t51, k52, hq⟩ := bnd_some hq
        refine xi_callV (as := [.int a, .int b]) (rest := []) dX12_greedy_137 (KX12_valueOf G Gb a b _ _ _ k52) mkX12_valueOf w_1296 ws_67 w_1294 (mem_get sh_149) rfl rfl rfl rfl (Nat.le_of_ble_eq_true rfl) (Nat.le_of_ble_eq_true rfl) (Nat.le_of_ble_eq_true rfl) (Nat.le_of_ble_eq_true rfl) (Nat.le_of_ble_eq_true rfl) ?_
        intro v M2 hz
        obtain ⟨rfl, rfl⟩ := hz
        show xW _ _ _ _ 140 _ [.int v50] (mem t51 Gb) _ _
        have r53 := some_pair hq
        obtain ⟨rfl, rfl⟩ := r53
        exact xi_iret dX12_greedy_140 rfl rfl (Nat.le_of_ble_eq_true rfl) (Nat.le_of_ble_eq_true rfl) ⟨rfl, rfl⟩
      · replace hq := ite_p c11 hq
        refine xi_bipush (v := (-2)) dX12_greedy_20 (by decide) ?_
        have r54 := some_pair hq
        obtain ⟨rfl, rfl⟩ := r54
        exact xi_iret dX12_greedy_22 rfl rfl (Nat.le_of_ble_eq_true rfl) (Nat.le_of_ble_eq_true rfl) ⟨rfl, rfl⟩
noncomputable def SX12_halve_15 (w1 : Int32) (c : Int32 × Int32) (σ : St) : Option (((Int32 × Int32) ⊕ (Int32)) × St) :=
  (bnd (FX12_points w1 σ) (fun v5 t6 => (if (shl (1 : Int32) v5) ≤ c.2 then (some (Sum.inr c.1, t6)) else (bnd (FX12_ones c.2 t6) (fun v9 t10 => (bnd (FX12_points w1 t10) (fun v12 t13 => (bnd (if v9 = (v12 / (2 : Int32)) then (if c.1 = (-1 : Int32) then (some (c.2, t13)) else (bnd (FX12_splitOf w1 c.2 (0 : Int32) t13) (fun v21 t22 => (bnd (FX12_splitOf w1 c.1 (0 : Int32) t22) (fun v24 t25 => (if v24 ≤ v21 then (some (c.1, t25)) else (some (c.2, t25)))))))) else (some (c.1, t13))) (fun v16 t17 => (some (Sum.inl (v16, (c.2 + 1)), t17)))))))))))
set_option maxHeartbeats 4000000 in
set_option maxRecDepth 100000 in
theorem SX12_halve_15_w (G : xG) (Gb : xMem) (w1 : Int32) (r0 : Int32) (t0 : St) :
    ∀ (k : Nat) (c : Int32 × Int32) (σ : St) (r : Int32) (σ' : St), itr (SX12_halve_15 w1) k c σ = some (r, σ') → (xW G mX12_halve (xrm 3 0 0) (xQ G (PQ r0 t0 Gb) 0 0) 70 [(2, .int r)] [] (mem σ' Gb) 0 0) → xW G mX12_halve (xrm 3 0 0) (xQ G (PQ r0 t0 Gb) 0 0) 15 [(0, .ref 149), (1, .int w1), (2, .int c.1), (3, .int c.2)] [] (mem σ Gb) 0 0 := by
  intro k
  induction k with
  | zero =>
    intro c σ r σ' h
    exact absurd h (itr_zero _ _ _ _)
  | succ k ih =>
    intro c σ r σ' h HE
    obtain ⟨x, s1, hs, h⟩ := itr_succ h
    unfold SX12_halve_15 at hs
    refine xi_iload_n 3 dX12_halve_15 rfl ?_
    refine xi_iconst (v := 1) dX12_halve_16 (by decide) ?_
    refine xi_aload_n 0 dX12_halve_17 rfl ?_
    refine xi_iload_n 1 dX12_halve_18 rfl ?_
    obtain ⟨v5, t6, k7, hs⟩ := bnd_some hs
    refine xi_callV (as := [.int w1]) (rest := [.int 1, .int c.2]) dX12_halve_19 (KX12_points G Gb w1 _ _ _ k7) mkX12_points w_1108 ws_36 w_1106 (mem_get sh_149) rfl rfl rfl rfl (Nat.le_of_ble_eq_true rfl) (Nat.le_of_ble_eq_true rfl) (Nat.le_of_ble_eq_true rfl) (Nat.le_of_ble_eq_true rfl) (Nat.le_of_ble_eq_true rfl) ?_
    intro v M2 hz
    obtain ⟨rfl, rfl⟩ := hz
    show xW _ _ _ _ 22 _ [.int v5, .int 1, .int c.2] (mem t6 Gb) _ _
    refine xi_ishl (v := shl (1 : Int32) v5) dX12_halve_22 rfl ?_
    refine xi_icmp_ge (tgt := 70) dX12_halve_23 (by decide) (fun c8 => ?_) (fun c8 => ?_)
    · replace hs := ite_p c8 hs
      refine xi_sub (lv' := [(2, .int c.1)]) [2] rfl ?_
      obtain ⟨rfl, rfl⟩ := some_pair hs
      obtain ⟨rfl, rfl⟩ := some_pair h
      exact HE
    · replace hs := ite_n c8 hs
      refine xi_iload_n 3 dX12_halve_26 rfl ?_
      obtain ⟨v9, t10, k11, hs⟩ := bnd_some hs
      refine xi_callS (as := [.int c.2]) (rest := []) dX12_halve_27 (KX12_ones G Gb c.2 _ _ _ k11) mkX12_ones w_1195 w_1194 rfl rfl (Nat.le_of_ble_eq_true rfl) (Nat.le_of_ble_eq_true rfl) (Nat.le_of_ble_eq_true rfl) (Nat.le_of_ble_eq_true rfl) (Nat.le_of_ble_eq_true rfl) ?_
      intro v M2 hz
      obtain ⟨rfl, rfl⟩ := hz
      show xW _ _ _ _ 30 _ [.int v9] (mem t10 Gb) _ _
      refine xi_aload_n 0 dX12_halve_30 rfl ?_
      refine xi_iload_n 1 dX12_halve_31 rfl ?_
      obtain ⟨v12, t13, k14, hs⟩ := bnd_some hs
      refine xi_callV (as := [.int w1]) (rest := [.int v9]) dX12_halve_32 (KX12_points G Gb w1 _ _ _ k14) mkX12_points w_1108 ws_36 w_1106 (mem_get sh_149) rfl rfl rfl rfl (Nat.le_of_ble_eq_true rfl) (Nat.le_of_ble_eq_true rfl) (Nat.le_of_ble_eq_true rfl) (Nat.le_of_ble_eq_true rfl) (Nat.le_of_ble_eq_true rfl) ?_
      intro v M2 hz
      obtain ⟨rfl, rfl⟩ := hz
      show xW _ _ _ _ 35 _ [.int v12, .int v9] (mem t13 Gb) _ _
      refine xi_iconst (v := 2) dX12_halve_35 (by decide) ?_
      refine xi_idiv (v := v12 / (2 : Int32)) dX12_halve_36 (by decide) rfl ?_
      obtain ⟨v16, t17, m18, hs⟩ := bnd_some hs
      have key19 : xW G mX12_halve (xrm 3 0 0) (xQ G (PQ r0 t0 Gb) 0 0) 64 [(0, .ref 149), (1, .int w1), (2, .int v16), (3, .int c.2)] [] (mem t17 Gb) 0 0 := by
        refine xi_iinc (v := (c.2 + 1)) (lv' := [(3, .int (c.2 + 1)), (0, .ref 149), (1, .int w1), (2, .int v16)]) 3 dX12_halve_64 rfl rfl (by decide) rfl ?_
        refine xi_goto (tgt := 15) dX12_halve_67 (by decide) ?_
        refine xi_sub (lv' := [(0, .ref 149), (1, .int w1), (2, .int v16), (3, .int (c.2 + 1))]) [1, 2, 3, 0] rfl ?_
        obtain ⟨rfl, rfl⟩ := some_pair hs
        exact ih (v16, (c.2 + 1)) t17 _ _ h HE
      refine xi_icmp_ne (tgt := 64) dX12_halve_37 (by decide) (fun c15 => ?_) (fun c15 => ?_)
      · replace m18 := ite_n c15 m18
        obtain ⟨rfl, rfl⟩ := some_pair m18
        exact key19
      · replace m18 := ite_p c15 m18
        refine xi_iload_n 2 dX12_halve_40 rfl ?_
        refine xi_iconst (v := (-1)) dX12_halve_41 (by decide) ?_
        refine xi_icmp_eq (tgt := 62) dX12_halve_42 (by decide) (fun c20 => ?_) (fun c20 => ?_)
        · replace m18 := ite_p c20 m18
          refine xi_iload_n 3 dX12_halve_62 rfl ?_
          refine xi_istore_n (lv' := [(2, .int c.2), (0, .ref 149), (1, .int w1), (3, .int c.2)]) dX12_halve_63 (by decide) rfl ?_
          obtain ⟨rfl, rfl⟩ := some_pair m18
          refine xi_sub (lv' := [(0, .ref 149), (1, .int w1), (2, .int c.2), (3, .int c.2)]) [1, 2, 0, 3] rfl ?_
          exact key19
        · replace m18 := ite_n c20 m18
          refine xi_aload_n 0 dX12_halve_45 rfl ?_
          refine xi_iload_n 1 dX12_halve_46 rfl ?_
          refine xi_iload_n 3 dX12_halve_47 rfl ?_
          refine xi_iconst (v := 0) dX12_halve_48 (by decide) ?_
          obtain ⟨v21, t22, k23, m18⟩ := bnd_some m18
          refine xi_callV (as := [.int w1, .int c.2, .int 0]) (rest := []) dX12_halve_49 (KX12_splitOf G Gb w1 c.2 (0 : Int32) _ _ _ k23) mkX12_splitOf w_1316 ws_72 w_1314 (mem_get sh_149) rfl rfl rfl rfl (Nat.le_of_ble_eq_true rfl) (Nat.le_of_ble_eq_true rfl) (Nat.le_of_ble_eq_true rfl) (Nat.le_of_ble_eq_true rfl) (Nat.le_of_ble_eq_true rfl) ?_
          intro v M2 hz
          obtain ⟨rfl, rfl⟩ := hz
          show xW _ _ _ _ 52 _ [.int v21] (mem t22 Gb) _ _
          refine xi_aload_n 0 dX12_halve_52 rfl ?_
          refine xi_iload_n 1 dX12_halve_53 rfl ?_
          refine xi_iload_n 2 dX12_halve_54 rfl ?_
          refine xi_iconst (v := 0) dX12_halve_55 (by decide) ?_
          obtain ⟨v24, t25, k26, m18⟩ := bnd_some m18
          refine xi_callV (as := [.int w1, .int c.1, .int 0]) (rest := [.int v21]) dX12_halve_56 (KX12_splitOf G Gb w1 c.1 (0 : Int32) _ _ _ k26) mkX12_splitOf w_1316 ws_72 w_1314 (mem_get sh_149) rfl rfl rfl rfl (Nat.le_of_ble_eq_true rfl) (Nat.le_of_ble_eq_true rfl) (Nat.le_of_ble_eq_true rfl) (Nat.le_of_ble_eq_true rfl) (Nat.le_of_ble_eq_true rfl) ?_
          intro v M2 hz
          obtain ⟨rfl, rfl⟩ := hz
          show xW _ _ _ _ 59 _ [.int v24, .int v21] (mem t25 Gb) _ _
          refine xi_icmp_ge (tgt := 64) dX12_halve_59 (by decide) (fun c27 => ?_) (fun c27 => ?_)
          · replace m18 := ite_p c27 m18
            obtain ⟨rfl, rfl⟩ := some_pair m18
            exact key19
          · replace m18 := ite_n c27 m18
            refine xi_iload_n 3 dX12_halve_62 rfl ?_
            refine xi_istore_n (lv' := [(2, .int c.2), (0, .ref 149), (1, .int w1), (3, .int c.2)]) dX12_halve_63 (by decide) rfl ?_
            obtain ⟨rfl, rfl⟩ := some_pair m18
            refine xi_sub (lv' := [(0, .ref 149), (1, .int w1), (2, .int c.2), (3, .int c.2)]) [1, 2, 0, 3] rfl ?_
            exact key19
noncomputable def FX12_halve (a : Int32) (σ : St) : Option ((Int32) × St) :=
  (bnd (FX12_isNet a σ) (fun v1 t2 => (if v1 = (0 : Int32) then (some ((-2 : Int32), t2)) else (bnd (wh (SX12_halve_15 a) ((-1 : Int32), (0 : Int32)) t2) (fun e28 t29 => (some (e28, t29)))))))
set_option maxHeartbeats 4000000 in
set_option maxRecDepth 100000 in
theorem KX12_halve (G : xG) (Gb : xMem) (a : Int32) (σ : St) (r0 : Int32) (t0 : St) (hq : FX12_halve a σ = some (r0, t0)) : xC G mX12_halve 3 0 0 [.ref 149, .int a] (mem σ Gb) (PQ r0 t0 Gb) := by
  unfold FX12_halve at hq
  refine xC.of (by decide) (Nat.le_of_ble_eq_true rfl) ?_
  show xW _ _ _ _ 0 [(0, .ref 149), (1, .int a)] [] _ 0 0
  refine xi_aload_n 0 dX12_halve_0 rfl ?_
  refine xi_iload_n 1 dX12_halve_1 rfl ?_
  obtain ⟨v1, t2, k3, hq⟩ := bnd_some hq
  refine xi_callV (as := [.int a]) (rest := []) dX12_halve_2 (KX12_isNet G Gb a _ _ _ k3) mkX12_isNet w_1104 ws_35 w_1102 (mem_get sh_149) rfl rfl rfl rfl (Nat.le_of_ble_eq_true rfl) (Nat.le_of_ble_eq_true rfl) (Nat.le_of_ble_eq_true rfl) (Nat.le_of_ble_eq_true rfl) (Nat.le_of_ble_eq_true rfl) ?_
  intro v M2 hz
  obtain ⟨rfl, rfl⟩ := hz
  show xW _ _ _ _ 5 _ [.int v1] (mem t2 Gb) _ _
  refine xi_if_ne (tgt := 11) dX12_halve_5 (by decide) (fun c4 => ?_) (fun c4 => ?_)
  · replace hq := ite_n c4 hq
    refine xi_iconst (v := (-1)) dX12_halve_11 (by decide) ?_
    refine xi_istore_n (lv' := [(2, .int (-1)), (0, .ref 149), (1, .int a)]) dX12_halve_12 (by decide) rfl ?_
    refine xi_iconst (v := 0) dX12_halve_13 (by decide) ?_
    refine xi_istore_n (lv' := [(3, .int 0), (2, .int (-1)), (0, .ref 149), (1, .int a)]) dX12_halve_14 (by decide) rfl ?_
    refine xi_sub (lv' := [(0, .ref 149), (1, .int a), (2, .int (-1)), (3, .int 0)]) [2, 3, 1, 0] rfl ?_
    obtain ⟨e28, t29, k30, hq⟩ := bnd_some hq
    obtain ⟨n31, k30⟩ := wh_itr k30
    refine SX12_halve_15_w G Gb a r0 t0 n31 ((-1 : Int32), (0 : Int32)) t2 _ _ k30 ?_
    show xW G mX12_halve (xrm 3 0 0) (xQ G (PQ r0 t0 Gb) 0 0) 70 [(2, .int e28)] [] (mem t29 Gb) 0 0
    refine xi_iload_n 0 dX12_halve_70 rfl ?_
    have r32 := some_pair hq
    obtain ⟨rfl, rfl⟩ := r32
    exact xi_iret dX12_halve_71 rfl rfl (Nat.le_of_ble_eq_true rfl) (Nat.le_of_ble_eq_true rfl) ⟨rfl, rfl⟩
  · replace hq := ite_p c4 hq
    refine xi_bipush (v := (-2)) dX12_halve_8 (by decide) ?_
    have r33 := some_pair hq
    obtain ⟨rfl, rfl⟩ := r33
    exact xi_iret dX12_halve_10 rfl rfl (Nat.le_of_ble_eq_true rfl) (Nat.le_of_ble_eq_true rfl) ⟨rfl, rfl⟩
noncomputable def FX12_here (a : Int32) (b : Int32) (σ : St) : Option ((Int32) × St) :=
  (rdb σ 149 (12) (fun v1 => (if v1 = (0 : Int32) then (rdb σ 149 (10) (fun v4 => (bnd (if v4 = (2 : Int32) then (rdb σ 149 (11) (fun v18 => (bnd (FX12_in v18.toInt64 a.toInt64 b.toInt64 σ) (fun v20 t21 => (if v20 = (0 : Int32) then (bnd (FX12_faults (2 : Int32) t21) (fun v24 t25 => (some ((), t25)))) else (some ((), t21))))))) else (bnd (FX12_faults (1 : Int32) σ) (fun v27 t28 => (some ((), t28))))) (fun v7 t8 => (rdb t8 149 (12) (fun v11 => (if v11 = (0 : Int32) then (rdb t8 149 (11) (fun v14 => (some (v14, t8)))) else (some (a, t8))))))))) else (some (a, σ)))))
set_option maxHeartbeats 4000000 in
set_option maxRecDepth 100000 in
theorem KX12_here (G : xG) (Gb : xMem) (a : Int32) (b : Int32) (σ : St) (r0 : Int32) (t0 : St) (hq : FX12_here a b σ = some (r0, t0)) : xC G mX12_here 1 0 0 [.ref 149, .int a, .int b] (mem σ Gb) (PQ r0 t0 Gb) := by
  unfold FX12_here at hq
  refine xC.of (by decide) (Nat.le_of_ble_eq_true rfl) ?_
  show xW _ _ _ _ 0 [(0, .ref 149), (1, .int a), (2, .int b)] [] _ 0 0
  refine xi_aload_n 0 dX12_here_0 rfl ?_
  obtain ⟨v1, h2, hq⟩ := rdb_some hq
  refine yi_getV (f := 12) dX12_here_1 sh_149 rfl ok_9 (by decide) w_1020 rfl h2 ?_
  refine xi_if_eq (tgt := 9) dX12_here_4 (by decide) (fun c3 => ?_) (fun c3 => ?_)
  · replace hq := ite_p c3 hq
    refine xi_aload_n 0 dX12_here_9 rfl ?_
    obtain ⟨v4, h5, hq⟩ := rdb_some hq
    refine yi_getV (f := 10) dX12_here_10 sh_149 rfl ok_9 (by decide) w_1018 rfl h5 ?_
    refine xi_iconst (v := 2) dX12_here_13 (by decide) ?_
    obtain ⟨v7, t8, m9, hq⟩ := bnd_some hq
    have key10 : xW G mX12_here (xrm 1 0 0) (xQ G (PQ r0 t0 Gb) 0 0) 45 [(0, .ref 149), (1, .int a)] [] (mem t8 Gb) 0 0 := by
      refine xi_aload_n 0 dX12_here_45 rfl ?_
      obtain ⟨v11, h12, hq⟩ := rdb_some hq
      refine yi_getV (f := 12) dX12_here_46 sh_149 rfl ok_9 (by decide) w_1020 rfl h12 ?_
      refine xi_if_eq (tgt := 56) dX12_here_49 (by decide) (fun c13 => ?_) (fun c13 => ?_)
      · replace hq := ite_p c13 hq
        refine xi_aload_n 0 dX12_here_56 rfl ?_
        obtain ⟨v14, h15, hq⟩ := rdb_some hq
        refine yi_getV (f := 11) dX12_here_57 sh_149 rfl ok_9 (by decide) w_1019 rfl h15 ?_
        have r16 := some_pair hq
        obtain ⟨rfl, rfl⟩ := r16
        exact xi_iret dX12_here_60 rfl rfl (Nat.le_of_ble_eq_true rfl) (Nat.le_of_ble_eq_true rfl) ⟨rfl, rfl⟩
      · replace hq := ite_n c13 hq
        refine xi_iload_n 1 dX12_here_52 rfl ?_
        refine xi_goto (tgt := 60) dX12_here_53 (by decide) ?_
        have r17 := some_pair hq
        obtain ⟨rfl, rfl⟩ := r17
        exact xi_iret dX12_here_60 rfl rfl (Nat.le_of_ble_eq_true rfl) (Nat.le_of_ble_eq_true rfl) ⟨rfl, rfl⟩
    refine xi_icmp_eq (tgt := 25) dX12_here_14 (by decide) (fun c6 => ?_) (fun c6 => ?_)
    · replace m9 := ite_p c6 m9
      refine xi_aload_n 0 dX12_here_25 rfl ?_
      obtain ⟨v18, h19, m9⟩ := rdb_some m9
      refine yi_getV (f := 11) dX12_here_26 sh_149 rfl ok_9 (by decide) w_1019 rfl h19 ?_
      refine xi_i2l dX12_here_29 rfl ?_
      refine xi_iload_n 1 dX12_here_30 rfl ?_
      refine xi_i2l dX12_here_31 rfl ?_
      refine xi_iload_n 2 dX12_here_32 rfl ?_
      refine xi_i2l dX12_here_33 rfl ?_
      obtain ⟨v20, t21, k22, m9⟩ := bnd_some m9
      refine xi_callS (as := [.long v18.toInt64, .long a.toInt64, .long b.toInt64]) (rest := []) dX12_here_34 (KX12_in G Gb v18.toInt64 a.toInt64 b.toInt64 _ _ _ k22) mkX12_in w_1100 w_1099 rfl rfl (Nat.le_of_ble_eq_true rfl) (Nat.le_of_ble_eq_true rfl) (Nat.le_of_ble_eq_true rfl) (Nat.le_of_ble_eq_true rfl) (Nat.le_of_ble_eq_true rfl) ?_
      intro v M2 hz
      obtain ⟨rfl, rfl⟩ := hz
      show xW _ _ _ _ 37 _ [.int v20] (mem t21 Gb) _ _
      refine xi_if_ne (tgt := 45) dX12_here_37 (by decide) (fun c23 => ?_) (fun c23 => ?_)
      · replace m9 := ite_n c23 m9
        obtain ⟨rfl, rfl⟩ := some_pair m9
        refine xi_sub (lv' := [(0, .ref 149), (1, .int a)]) [0, 1] rfl ?_
        exact key10
      · replace m9 := ite_p c23 m9
        refine xi_aload_n 0 dX12_here_40 rfl ?_
        refine xi_iconst (v := 2) dX12_here_41 (by decide) ?_
        obtain ⟨v24, t25, k26, m9⟩ := bnd_some m9
        refine xi_callV (as := [.int 2]) (rest := []) dX12_here_42 (KX12_faults G Gb (2 : Int32) _ _ _ k26) mkX12_faults w_1160 ws_45 w_1158 (mem_get sh_149) rfl rfl rfl rfl (Nat.le_of_ble_eq_true rfl) (Nat.le_of_ble_eq_true rfl) (Nat.le_of_ble_eq_true rfl) (Nat.le_of_ble_eq_true rfl) (Nat.le_of_ble_eq_true rfl) ?_
        intro v M2 hz
        obtain ⟨rfl, rfl⟩ := hz
        show xW _ _ _ _ 45 _ [] (mem t25 Gb) _ _
        obtain ⟨rfl, rfl⟩ := some_pair m9
        refine xi_sub (lv' := [(0, .ref 149), (1, .int a)]) [0, 1] rfl ?_
        exact key10
    · replace m9 := ite_n c6 m9
      refine xi_aload_n 0 dX12_here_17 rfl ?_
      refine xi_iconst (v := 1) dX12_here_18 (by decide) ?_
      obtain ⟨v27, t28, k29, m9⟩ := bnd_some m9
      refine xi_callV (as := [.int 1]) (rest := []) dX12_here_19 (KX12_faults G Gb (1 : Int32) _ _ _ k29) mkX12_faults w_1160 ws_45 w_1158 (mem_get sh_149) rfl rfl rfl rfl (Nat.le_of_ble_eq_true rfl) (Nat.le_of_ble_eq_true rfl) (Nat.le_of_ble_eq_true rfl) (Nat.le_of_ble_eq_true rfl) (Nat.le_of_ble_eq_true rfl) ?_
      intro v M2 hz
      obtain ⟨rfl, rfl⟩ := hz
      show xW _ _ _ _ 22 _ [] (mem t28 Gb) _ _
      refine xi_goto (tgt := 45) dX12_here_22 (by decide) ?_
      obtain ⟨rfl, rfl⟩ := some_pair m9
      refine xi_sub (lv' := [(0, .ref 149), (1, .int a)]) [0, 1] rfl ?_
      exact key10
  · replace hq := ite_n c3 hq
    refine xi_iload_n 1 dX12_here_7 rfl ?_
    have r30 := some_pair hq
    obtain ⟨rfl, rfl⟩ := r30
    exact xi_iret dX12_here_8 rfl rfl (Nat.le_of_ble_eq_true rfl) (Nat.le_of_ble_eq_true rfl) ⟨rfl, rfl⟩
noncomputable def FX12_isAt (a : Int32) (b : Int32) (σ : St) : Option ((Int32) × St) :=
  (rdb σ 149 (8) (fun v1 => (rdb σ 149 (5) (fun v3 => (if v3 ≤ v1 then (some ((0 : Int32), σ)) else (rdb σ 149 (8) (fun v7 => (chk (inb v7 400) (rdb σ 153 (v7.toNatClampNeg) (fun v10 => (bnd (FX12_in v10.toInt64 a.toInt64 b.toInt64 σ) (fun v12 t13 => (if v12 = (0 : Int32) then (some ((0 : Int32), t13)) else (some ((1 : Int32), t13)))))))))))))))
set_option maxHeartbeats 4000000 in
set_option maxRecDepth 100000 in
theorem KX12_isAt (G : xG) (Gb : xMem) (a : Int32) (b : Int32) (σ : St) (r0 : Int32) (t0 : St) (hq : FX12_isAt a b σ = some (r0, t0)) : xC G mX12_isAt 1 0 0 [.ref 149, .int a, .int b] (mem σ Gb) (PQ r0 t0 Gb) := by
  unfold FX12_isAt at hq
  refine xC.of (by decide) (Nat.le_of_ble_eq_true rfl) ?_
  show xW _ _ _ _ 0 [(0, .ref 149), (1, .int a), (2, .int b)] [] _ 0 0
  refine xi_aload_n 0 dX12_isAt_0 rfl ?_
  obtain ⟨v1, h2, hq⟩ := rdb_some hq
  refine yi_getV (f := 8) dX12_isAt_1 sh_149 rfl ok_9 (by decide) w_1016 rfl h2 ?_
  refine xi_aload_n 0 dX12_isAt_4 rfl ?_
  obtain ⟨v3, h4, hq⟩ := rdb_some hq
  refine yi_getV (f := 5) dX12_isAt_5 sh_149 rfl ok_9 (by decide) w_1013 rfl h4 ?_
  refine xi_icmp_ge (tgt := 35) dX12_isAt_8 (by decide) (fun c5 => ?_) (fun c5 => ?_)
  · replace hq := ite_p c5 hq
    refine xi_iconst (v := 0) dX12_isAt_35 (by decide) ?_
    have r6 := some_pair hq
    obtain ⟨rfl, rfl⟩ := r6
    exact xi_iret dX12_isAt_36 rfl (by decide) (Nat.le_of_ble_eq_true rfl) (Nat.le_of_ble_eq_true rfl) ⟨rfl, rfl⟩
  · replace hq := ite_n c5 hq
    refine xi_aload_n 0 dX12_isAt_11 rfl ?_
    refine yi_getR (f := 4) dX12_isAt_12 sh_149 rfl ok_9 (by decide) w_1012 rfl ?_
    refine xi_aload_n 0 dX12_isAt_15 rfl ?_
    obtain ⟨v7, h8, hq⟩ := rdb_some hq
    refine yi_getV (f := 8) dX12_isAt_16 sh_149 rfl ok_9 (by decide) w_1016 rfl h8 ?_
    obtain ⟨g9, hq⟩ := chk_some hq
    obtain ⟨v10, h11, hq⟩ := rdb_some hq
    refine yi_ialoadV dX12_isAt_19 sh_153 g9 h11 ?_
    refine xi_i2l dX12_isAt_20 rfl ?_
    refine xi_iload_n 1 dX12_isAt_21 rfl ?_
    refine xi_i2l dX12_isAt_22 rfl ?_
    refine xi_iload_n 2 dX12_isAt_23 rfl ?_
    refine xi_i2l dX12_isAt_24 rfl ?_
    obtain ⟨v12, t13, k14, hq⟩ := bnd_some hq
    refine xi_callS (as := [.long v10.toInt64, .long a.toInt64, .long b.toInt64]) (rest := []) dX12_isAt_25 (KX12_in G Gb v10.toInt64 a.toInt64 b.toInt64 _ _ _ k14) mkX12_in w_1100 w_1099 rfl rfl (Nat.le_of_ble_eq_true rfl) (Nat.le_of_ble_eq_true rfl) (Nat.le_of_ble_eq_true rfl) (Nat.le_of_ble_eq_true rfl) (Nat.le_of_ble_eq_true rfl) ?_
    intro v M2 hz
    obtain ⟨rfl, rfl⟩ := hz
    show xW _ _ _ _ 28 _ [.int v12] (mem t13 Gb) _ _
    refine xi_if_eq (tgt := 35) dX12_isAt_28 (by decide) (fun c15 => ?_) (fun c15 => ?_)
    · replace hq := ite_p c15 hq
      refine xi_iconst (v := 0) dX12_isAt_35 (by decide) ?_
      have r16 := some_pair hq
      obtain ⟨rfl, rfl⟩ := r16
      exact xi_iret dX12_isAt_36 rfl (by decide) (Nat.le_of_ble_eq_true rfl) (Nat.le_of_ble_eq_true rfl) ⟨rfl, rfl⟩
    · replace hq := ite_n c15 hq
      refine xi_iconst (v := 1) dX12_isAt_31 (by decide) ?_
      refine xi_goto (tgt := 36) dX12_isAt_32 (by decide) ?_
      have r17 := some_pair hq
      obtain ⟨rfl, rfl⟩ := r17
      exact xi_iret dX12_isAt_36 rfl (by decide) (Nat.le_of_ble_eq_true rfl) (Nat.le_of_ble_eq_true rfl) ⟨rfl, rfl⟩
noncomputable def FX12_isSign (a : Int32) (σ : St) : Option ((Int32) × St) :=
  (rdb σ 149 (12) (fun v1 => (if v1 = (0 : Int32) then (rdb σ 149 (10) (fun v5 => (if v5 = (3 : Int32) then (rdb σ 149 (9) (fun v9 => (chk (inb v9 400) (rdb σ 153 (v9.toNatClampNeg) (fun v12 => (if v12 = a then (some ((1 : Int32), σ)) else (some ((0 : Int32), σ)))))))) else (some ((0 : Int32), σ))))) else (some ((0 : Int32), σ)))))
set_option maxHeartbeats 4000000 in
set_option maxRecDepth 100000 in
theorem KX12_isSign (G : xG) (Gb : xMem) (a : Int32) (σ : St) (r0 : Int32) (t0 : St) (hq : FX12_isSign a σ = some (r0, t0)) : xC G mX12_isSign 0 0 0 [.ref 149, .int a] (mem σ Gb) (PQ r0 t0 Gb) := by
  unfold FX12_isSign at hq
  refine xC.of (by decide) (Nat.le_of_ble_eq_true rfl) ?_
  show xW _ _ _ _ 0 [(0, .ref 149), (1, .int a)] [] _ 0 0
  refine xi_aload_n 0 dX12_isSign_0 rfl ?_
  obtain ⟨v1, h2, hq⟩ := rdb_some hq
  refine yi_getV (f := 12) dX12_isSign_1 sh_149 rfl ok_9 (by decide) w_1020 rfl h2 ?_
  refine xi_if_ne (tgt := 32) dX12_isSign_4 (by decide) (fun c3 => ?_) (fun c3 => ?_)
  · replace hq := ite_n c3 hq
    refine xi_iconst (v := 0) dX12_isSign_32 (by decide) ?_
    have r4 := some_pair hq
    obtain ⟨rfl, rfl⟩ := r4
    exact xi_iret dX12_isSign_33 rfl (by decide) (Nat.le_of_ble_eq_true rfl) (Nat.le_of_ble_eq_true rfl) ⟨rfl, rfl⟩
  · replace hq := ite_p c3 hq
    refine xi_aload_n 0 dX12_isSign_7 rfl ?_
    obtain ⟨v5, h6, hq⟩ := rdb_some hq
    refine yi_getV (f := 10) dX12_isSign_8 sh_149 rfl ok_9 (by decide) w_1018 rfl h6 ?_
    refine xi_iconst (v := 3) dX12_isSign_11 (by decide) ?_
    refine xi_icmp_ne (tgt := 32) dX12_isSign_12 (by decide) (fun c7 => ?_) (fun c7 => ?_)
    · replace hq := ite_n c7 hq
      refine xi_iconst (v := 0) dX12_isSign_32 (by decide) ?_
      have r8 := some_pair hq
      obtain ⟨rfl, rfl⟩ := r8
      exact xi_iret dX12_isSign_33 rfl (by decide) (Nat.le_of_ble_eq_true rfl) (Nat.le_of_ble_eq_true rfl) ⟨rfl, rfl⟩
    · replace hq := ite_p c7 hq
      refine xi_aload_n 0 dX12_isSign_15 rfl ?_
      refine yi_getR (f := 4) dX12_isSign_16 sh_149 rfl ok_9 (by decide) w_1012 rfl ?_
      refine xi_aload_n 0 dX12_isSign_19 rfl ?_
      obtain ⟨v9, h10, hq⟩ := rdb_some hq
      refine yi_getV (f := 9) dX12_isSign_20 sh_149 rfl ok_9 (by decide) w_1017 rfl h10 ?_
      obtain ⟨g11, hq⟩ := chk_some hq
      obtain ⟨v12, h13, hq⟩ := rdb_some hq
      refine yi_ialoadV dX12_isSign_23 sh_153 g11 h13 ?_
      refine xi_iload_n 1 dX12_isSign_24 rfl ?_
      refine xi_icmp_ne (tgt := 32) dX12_isSign_25 (by decide) (fun c14 => ?_) (fun c14 => ?_)
      · replace hq := ite_n c14 hq
        refine xi_iconst (v := 0) dX12_isSign_32 (by decide) ?_
        have r15 := some_pair hq
        obtain ⟨rfl, rfl⟩ := r15
        exact xi_iret dX12_isSign_33 rfl (by decide) (Nat.le_of_ble_eq_true rfl) (Nat.le_of_ble_eq_true rfl) ⟨rfl, rfl⟩
      · replace hq := ite_p c14 hq
        refine xi_iconst (v := 1) dX12_isSign_28 (by decide) ?_
        refine xi_goto (tgt := 33) dX12_isSign_29 (by decide) ?_
        have r16 := some_pair hq
        obtain ⟨rfl, rfl⟩ := r16
        exact xi_iret dX12_isSign_33 rfl (by decide) (Nat.le_of_ble_eq_true rfl) (Nat.le_of_ble_eq_true rfl) ⟨rfl, rfl⟩
noncomputable def FX12_isTakenOut (a : Int32) (σ : St) : Option ((Int32) × St) :=
  (if a = (5 : Int32) then (some ((1 : Int32), σ)) else (if a = (6 : Int32) then (some ((1 : Int32), σ)) else (some ((0 : Int32), σ))))
set_option maxHeartbeats 4000000 in
set_option maxRecDepth 100000 in
theorem KX12_isTakenOut (G : xG) (Gb : xMem) (a : Int32) (σ : St) (r0 : Int32) (t0 : St) (hq : FX12_isTakenOut a σ = some (r0, t0)) : xC G mX12_isTakenOut 0 0 0 [.int a] (mem σ Gb) (PQ r0 t0 Gb) := by
  unfold FX12_isTakenOut at hq
  refine xC.of (by decide) (Nat.le_of_ble_eq_true rfl) ?_
  show xW _ _ _ _ 0 [(0, .int a)] [] _ 0 0
  refine xi_iload_n 0 dX12_isTakenOut_0 rfl ?_
  refine xi_iconst (v := 5) dX12_isTakenOut_1 (by decide) ?_
  refine xi_icmp_eq (tgt := 11) dX12_isTakenOut_2 (by decide) (fun c1 => ?_) (fun c1 => ?_)
  · replace hq := ite_p c1 hq
    refine xi_iconst (v := 1) dX12_isTakenOut_11 (by decide) ?_
    refine xi_goto (tgt := 16) dX12_isTakenOut_12 (by decide) ?_
    have r2 := some_pair hq
    obtain ⟨rfl, rfl⟩ := r2
    exact xi_iret dX12_isTakenOut_16 rfl (by decide) (Nat.le_of_ble_eq_true rfl) (Nat.le_of_ble_eq_true rfl) ⟨rfl, rfl⟩
  · replace hq := ite_n c1 hq
    refine xi_iload_n 0 dX12_isTakenOut_5 rfl ?_
    refine xi_bipush (v := 6) dX12_isTakenOut_6 (by decide) ?_
    refine xi_icmp_ne (tgt := 15) dX12_isTakenOut_8 (by decide) (fun c3 => ?_) (fun c3 => ?_)
    · replace hq := ite_n c3 hq
      refine xi_iconst (v := 0) dX12_isTakenOut_15 (by decide) ?_
      have r4 := some_pair hq
      obtain ⟨rfl, rfl⟩ := r4
      exact xi_iret dX12_isTakenOut_16 rfl (by decide) (Nat.le_of_ble_eq_true rfl) (Nat.le_of_ble_eq_true rfl) ⟨rfl, rfl⟩
    · replace hq := ite_p c3 hq
      refine xi_iconst (v := 1) dX12_isTakenOut_11 (by decide) ?_
      refine xi_goto (tgt := 16) dX12_isTakenOut_12 (by decide) ?_
      have r5 := some_pair hq
      obtain ⟨rfl, rfl⟩ := r5
      exact xi_iret dX12_isTakenOut_16 rfl (by decide) (Nat.le_of_ble_eq_true rfl) (Nat.le_of_ble_eq_true rfl) ⟨rfl, rfl⟩
noncomputable def SX12_isWord_s4_39 (c : Int32 × Int32) (σ : St) : Option (((Int32 × Int32) ⊕ (Int32)) × St) :=
  (if (3 : Int32) ≤ c.2 then (some (Sum.inr c.1, σ)) else (if c.1 = (0 : Int32) then (some (Sum.inr c.1, σ)) else (rdb σ 149 (9) (fun v10 => (chk (inb (v10 + c.2) 400) (rdb σ 153 ((v10 + c.2).toNatClampNeg) (fun v13 => (chk (inb c.2 3) (bnd (if v13 = (chr [110, 101, 116] c.2) then (some ((1 : Int32), σ)) else (some ((0 : Int32), σ))) (fun v17 t18 => (some (Sum.inl (v17, (c.2 + 1)), t18))))))))))))
set_option maxHeartbeats 4000000 in
set_option maxRecDepth 100000 in
theorem SX12_isWord_s4_39_w (G : xG) (Gb : xMem) (r0 : Int32) (t0 : St) :
    ∀ (k : Nat) (c : Int32 × Int32) (σ : St) (r : Int32) (σ' : St), itr (SX12_isWord_s4_39) k c σ = some (r, σ') → (xW G mX12_isWord (xrm 4 0 0) (xQ G (PQ r0 t0 Gb) 0 0) 82 [(2, .int r)] [] (mem σ' Gb) 0 0) → xW G mX12_isWord (xrm 4 0 0) (xQ G (PQ r0 t0 Gb) 0 0) 39 [(0, .ref 149), (1, .float 4), (2, .int c.1), (3, .int c.2)] [] (mem σ Gb) 0 0 := by
  intro k
  induction k with
  | zero =>
    intro c σ r σ' h
    exact absurd h (itr_zero _ _ _ _)
  | succ k ih =>
    intro c σ r σ' h HE
    obtain ⟨x, s1, hs, h⟩ := itr_succ h
    unfold SX12_isWord_s4_39 at hs
    refine xi_iload_n 3 dX12_isWord_39 rfl ?_
    refine xi_aload_nS 1 dX12_isWord_40 rfl ?_
    refine xi_callVS (as := []) (rest := [.int c.2]) dX12_isWord_41 (K_slen G st_4 rfl) mkJ0_length_8abf5 w_329 w_330 w_1152 st_4 rfl rfl rfl rfl (Nat.le_of_ble_eq_true rfl) (Nat.le_of_ble_eq_true rfl) (Nat.le_of_ble_eq_true rfl) (Nat.le_of_ble_eq_true rfl) (Nat.le_of_ble_eq_true rfl) ?_
    intro v M2 hz
    obtain ⟨rfl, rfl⟩ := hz
    show xW _ _ _ _ 44 _ [.int 3, .int c.2] (mem σ Gb) _ _
    refine xi_icmp_ge (tgt := 82) dX12_isWord_44 (by decide) (fun c8 => ?_) (fun c8 => ?_)
    · replace hs := ite_p c8 hs
      refine xi_sub (lv' := [(2, .int c.1)]) [2] rfl ?_
      obtain ⟨rfl, rfl⟩ := some_pair hs
      obtain ⟨rfl, rfl⟩ := some_pair h
      exact HE
    · replace hs := ite_n c8 hs
      refine xi_iload_n 2 dX12_isWord_47 rfl ?_
      refine xi_if_eq (tgt := 82) dX12_isWord_48 (by decide) (fun c9 => ?_) (fun c9 => ?_)
      · replace hs := ite_p c9 hs
        refine xi_sub (lv' := [(2, .int c.1)]) [2] rfl ?_
        obtain ⟨rfl, rfl⟩ := some_pair hs
        obtain ⟨rfl, rfl⟩ := some_pair h
        exact HE
      · replace hs := ite_n c9 hs
        refine xi_aload_n 0 dX12_isWord_51 rfl ?_
        refine yi_getR (f := 4) dX12_isWord_52 sh_149 rfl ok_9 (by decide) w_1012 rfl ?_
        refine xi_aload_n 0 dX12_isWord_55 rfl ?_
        obtain ⟨v10, h11, hs⟩ := rdb_some hs
        refine yi_getV (f := 9) dX12_isWord_56 sh_149 rfl ok_9 (by decide) w_1017 rfl h11 ?_
        refine xi_iload_n 3 dX12_isWord_59 rfl ?_
        refine xi_iadd (v := v10 + c.2) dX12_isWord_60 rfl ?_
        obtain ⟨g12, hs⟩ := chk_some hs
        obtain ⟨v13, h14, hs⟩ := rdb_some hs
        refine yi_ialoadV dX12_isWord_61 sh_153 g12 h14 ?_
        refine xi_aload_nS 1 dX12_isWord_62 rfl ?_
        refine xi_iload_n 3 dX12_isWord_63 rfl ?_
        obtain ⟨g15, hs⟩ := chk_some hs
        refine xi_callVS (as := [.int c.2]) (rest := [.int v13]) dX12_isWord_64 (K_schar G st_4 rfl g15) mkJ0_charAt_5068e w_339 w_340 w_1153 st_4 rfl rfl rfl rfl (Nat.le_of_ble_eq_true rfl) (Nat.le_of_ble_eq_true rfl) (Nat.le_of_ble_eq_true rfl) (Nat.le_of_ble_eq_true rfl) (Nat.le_of_ble_eq_true rfl) ?_
        intro v M2 hz
        obtain ⟨rfl, rfl⟩ := hz
        show xW _ _ _ _ 67 _ [.int (chr [110, 101, 116] c.2), .int v13] (mem σ Gb) _ _
        obtain ⟨v17, t18, m19, hs⟩ := bnd_some hs
        have key20 : xW G mX12_isWord (xrm 4 0 0) (xQ G (PQ r0 t0 Gb) 0 0) 75 [(0, .ref 149), (1, .float 4), (3, .int c.2)] [.int v17] (mem t18 Gb) 0 0 := by
          refine xi_istore_n (lv' := [(2, .int v17), (0, .ref 149), (1, .float 4), (3, .int c.2)]) dX12_isWord_75 (by decide) rfl ?_
          refine xi_iinc (v := (c.2 + 1)) (lv' := [(3, .int (c.2 + 1)), (2, .int v17), (0, .ref 149), (1, .float 4)]) 3 dX12_isWord_76 rfl rfl (by decide) rfl ?_
          refine xi_goto (tgt := 39) dX12_isWord_79 (by decide) ?_
          refine xi_sub (lv' := [(0, .ref 149), (1, .float 4), (2, .int v17), (3, .int (c.2 + 1))]) [2, 3, 1, 0] rfl ?_
          obtain ⟨rfl, rfl⟩ := some_pair hs
          exact ih (v17, (c.2 + 1)) t18 _ _ h HE
        refine xi_icmp_ne (tgt := 74) dX12_isWord_67 (by decide) (fun c16 => ?_) (fun c16 => ?_)
        · replace m19 := ite_n c16 m19
          refine xi_iconst (v := 0) dX12_isWord_74 (by decide) ?_
          obtain ⟨rfl, rfl⟩ := some_pair m19
          refine xi_sub (lv' := [(0, .ref 149), (1, .float 4), (3, .int c.2)]) [0, 1, 3] rfl ?_
          exact key20
        · replace m19 := ite_p c16 m19
          refine xi_iconst (v := 1) dX12_isWord_70 (by decide) ?_
          refine xi_goto (tgt := 75) dX12_isWord_71 (by decide) ?_
          obtain ⟨rfl, rfl⟩ := some_pair m19
          refine xi_sub (lv' := [(0, .ref 149), (1, .float 4), (3, .int c.2)]) [0, 1, 3] rfl ?_
          exact key20
noncomputable def FX12_isWord_s4 (σ : St) : Option ((Int32) × St) :=
  (rdb σ 149 (12) (fun v1 => (bnd (if v1 = (0 : Int32) then (rdb σ 149 (10) (fun v27 => (if v27 = (1 : Int32) then (rdb σ 149 (8) (fun v30 => (rdb σ 149 (9) (fun v32 => (if (v30 - v32) = (3 : Int32) then (some ((1 : Int32), σ)) else (some ((0 : Int32), σ))))))) else (some ((0 : Int32), σ))))) else (some ((0 : Int32), σ))) (fun v4 t5 => (bnd (wh (SX12_isWord_s4_39) (v4, (0 : Int32)) t5) (fun e21 t22 => (chk (isb e21) (some (e21, t22)))))))))
set_option maxHeartbeats 4000000 in
set_option maxRecDepth 100000 in
theorem KX12_isWord_s4 (G : xG) (Gb : xMem) (σ : St) (r0 : Int32) (t0 : St) (hq : FX12_isWord_s4 σ = some (r0, t0)) : xC G mX12_isWord 4 0 0 [.ref 149, .float 4] (mem σ Gb) (PQ r0 t0 Gb) := by
  unfold FX12_isWord_s4 at hq
  refine xC.of (by decide) (Nat.le_of_ble_eq_true rfl) ?_
  show xW _ _ _ _ 0 [(0, .ref 149), (1, .float 4)] [] _ 0 0
  refine xi_aload_n 0 dX12_isWord_0 rfl ?_
  obtain ⟨v1, h2, hq⟩ := rdb_some hq
  refine yi_getV (f := 12) dX12_isWord_1 sh_149 rfl ok_9 (by decide) w_1020 rfl h2 ?_
  obtain ⟨v4, t5, m6, hq⟩ := bnd_some hq
  have key7 : xW G mX12_isWord (xrm 4 0 0) (xQ G (PQ r0 t0 Gb) 0 0) 36 [(0, .ref 149), (1, .float 4)] [.int v4] (mem t5 Gb) 0 0 := by
    refine xi_istore_n (lv' := [(2, .int v4), (0, .ref 149), (1, .float 4)]) dX12_isWord_36 (by decide) rfl ?_
    refine xi_iconst (v := 0) dX12_isWord_37 (by decide) ?_
    refine xi_istore_n (lv' := [(3, .int 0), (2, .int v4), (0, .ref 149), (1, .float 4)]) dX12_isWord_38 (by decide) rfl ?_
    refine xi_sub (lv' := [(0, .ref 149), (1, .float 4), (2, .int v4), (3, .int 0)]) [2, 3, 1, 0] rfl ?_
    obtain ⟨e21, t22, k23, hq⟩ := bnd_some hq
    obtain ⟨n24, k23⟩ := wh_itr k23
    refine SX12_isWord_s4_39_w G Gb r0 t0 n24 (v4, (0 : Int32)) t5 _ _ k23 ?_
    show xW G mX12_isWord (xrm 4 0 0) (xQ G (PQ r0 t0 Gb) 0 0) 82 [(2, .int e21)] [] (mem t22 Gb) 0 0
    refine xi_iload_n 0 dX12_isWord_82 rfl ?_
    obtain ⟨g25, hq⟩ := chk_some hq
    have r26 := some_pair hq
    obtain ⟨rfl, rfl⟩ := r26
    exact xi_iret dX12_isWord_83 rfl (isb_n g25) (Nat.le_of_ble_eq_true rfl) (Nat.le_of_ble_eq_true rfl) ⟨rfl, rfl⟩
  refine xi_if_ne (tgt := 35) dX12_isWord_4 (by decide) (fun c3 => ?_) (fun c3 => ?_)
  · replace m6 := ite_n c3 m6
    refine xi_iconst (v := 0) dX12_isWord_35 (by decide) ?_
    obtain ⟨rfl, rfl⟩ := some_pair m6
    exact key7
  · replace m6 := ite_p c3 m6
    refine xi_aload_n 0 dX12_isWord_7 rfl ?_
    obtain ⟨v27, h28, m6⟩ := rdb_some m6
    refine yi_getV (f := 10) dX12_isWord_8 sh_149 rfl ok_9 (by decide) w_1018 rfl h28 ?_
    refine xi_iconst (v := 1) dX12_isWord_11 (by decide) ?_
    refine xi_icmp_ne (tgt := 35) dX12_isWord_12 (by decide) (fun c29 => ?_) (fun c29 => ?_)
    · replace m6 := ite_n c29 m6
      refine xi_iconst (v := 0) dX12_isWord_35 (by decide) ?_
      obtain ⟨rfl, rfl⟩ := some_pair m6
      exact key7
    · replace m6 := ite_p c29 m6
      refine xi_aload_n 0 dX12_isWord_15 rfl ?_
      obtain ⟨v30, h31, m6⟩ := rdb_some m6
      refine yi_getV (f := 8) dX12_isWord_16 sh_149 rfl ok_9 (by decide) w_1016 rfl h31 ?_
      refine xi_aload_n 0 dX12_isWord_19 rfl ?_
      obtain ⟨v32, h33, m6⟩ := rdb_some m6
      refine yi_getV (f := 9) dX12_isWord_20 sh_149 rfl ok_9 (by decide) w_1017 rfl h33 ?_
      refine xi_isub (v := v30 - v32) dX12_isWord_23 rfl ?_
      refine xi_aload_nS 1 dX12_isWord_24 rfl ?_
      refine xi_callVS (as := []) (rest := [.int (v30 - v32)]) dX12_isWord_25 (K_slen G st_4 rfl) mkJ0_length_8abf5 w_329 w_330 w_1152 st_4 rfl rfl rfl rfl (Nat.le_of_ble_eq_true rfl) (Nat.le_of_ble_eq_true rfl) (Nat.le_of_ble_eq_true rfl) (Nat.le_of_ble_eq_true rfl) (Nat.le_of_ble_eq_true rfl) ?_
      intro v M2 hz
      obtain ⟨rfl, rfl⟩ := hz
      show xW _ _ _ _ 28 _ [.int 3, .int (v30 - v32)] (mem σ Gb) _ _
      refine xi_icmp_ne (tgt := 35) dX12_isWord_28 (by decide) (fun c34 => ?_) (fun c34 => ?_)
      · replace m6 := ite_n c34 m6
        refine xi_iconst (v := 0) dX12_isWord_35 (by decide) ?_
        obtain ⟨rfl, rfl⟩ := some_pair m6
        exact key7
      · replace m6 := ite_p c34 m6
        refine xi_iconst (v := 1) dX12_isWord_31 (by decide) ?_
        refine xi_goto (tgt := 36) dX12_isWord_32 (by decide) ?_
        obtain ⟨rfl, rfl⟩ := some_pair m6
        exact key7
noncomputable def SX12_isWord_s5_39 (c : Int32 × Int32) (σ : St) : Option (((Int32 × Int32) ⊕ (Int32)) × St) :=
  (if (3 : Int32) ≤ c.2 then (some (Sum.inr c.1, σ)) else (if c.1 = (0 : Int32) then (some (Sum.inr c.1, σ)) else (rdb σ 149 (9) (fun v10 => (chk (inb (v10 + c.2) 400) (rdb σ 153 ((v10 + c.2).toNatClampNeg) (fun v13 => (chk (inb c.2 3) (bnd (if v13 = (chr [114, 111, 119] c.2) then (some ((1 : Int32), σ)) else (some ((0 : Int32), σ))) (fun v17 t18 => (some (Sum.inl (v17, (c.2 + 1)), t18))))))))))))
set_option maxHeartbeats 4000000 in
set_option maxRecDepth 100000 in
theorem SX12_isWord_s5_39_w (G : xG) (Gb : xMem) (r0 : Int32) (t0 : St) :
    ∀ (k : Nat) (c : Int32 × Int32) (σ : St) (r : Int32) (σ' : St), itr (SX12_isWord_s5_39) k c σ = some (r, σ') → (xW G mX12_isWord (xrm 4 0 0) (xQ G (PQ r0 t0 Gb) 0 0) 82 [(2, .int r)] [] (mem σ' Gb) 0 0) → xW G mX12_isWord (xrm 4 0 0) (xQ G (PQ r0 t0 Gb) 0 0) 39 [(0, .ref 149), (1, .float 5), (2, .int c.1), (3, .int c.2)] [] (mem σ Gb) 0 0 := by
  intro k
  induction k with
  | zero =>
    intro c σ r σ' h
    exact absurd h (itr_zero _ _ _ _)
  | succ k ih =>
    intro c σ r σ' h HE
    obtain ⟨x, s1, hs, h⟩ := itr_succ h
    unfold SX12_isWord_s5_39 at hs
    refine xi_iload_n 3 dX12_isWord_39 rfl ?_
    refine xi_aload_nS 1 dX12_isWord_40 rfl ?_
    refine xi_callVS (as := []) (rest := [.int c.2]) dX12_isWord_41 (K_slen G st_5 rfl) mkJ0_length_8abf5 w_329 w_330 w_1152 st_5 rfl rfl rfl rfl (Nat.le_of_ble_eq_true rfl) (Nat.le_of_ble_eq_true rfl) (Nat.le_of_ble_eq_true rfl) (Nat.le_of_ble_eq_true rfl) (Nat.le_of_ble_eq_true rfl) ?_
    intro v M2 hz
    obtain ⟨rfl, rfl⟩ := hz
    show xW _ _ _ _ 44 _ [.int 3, .int c.2] (mem σ Gb) _ _
    refine xi_icmp_ge (tgt := 82) dX12_isWord_44 (by decide) (fun c8 => ?_) (fun c8 => ?_)
    · replace hs := ite_p c8 hs
      refine xi_sub (lv' := [(2, .int c.1)]) [2] rfl ?_
      obtain ⟨rfl, rfl⟩ := some_pair hs
      obtain ⟨rfl, rfl⟩ := some_pair h
      exact HE
    · replace hs := ite_n c8 hs
      refine xi_iload_n 2 dX12_isWord_47 rfl ?_
      refine xi_if_eq (tgt := 82) dX12_isWord_48 (by decide) (fun c9 => ?_) (fun c9 => ?_)
      · replace hs := ite_p c9 hs
        refine xi_sub (lv' := [(2, .int c.1)]) [2] rfl ?_
        obtain ⟨rfl, rfl⟩ := some_pair hs
        obtain ⟨rfl, rfl⟩ := some_pair h
        exact HE
      · replace hs := ite_n c9 hs
        refine xi_aload_n 0 dX12_isWord_51 rfl ?_
        refine yi_getR (f := 4) dX12_isWord_52 sh_149 rfl ok_9 (by decide) w_1012 rfl ?_
        refine xi_aload_n 0 dX12_isWord_55 rfl ?_
        obtain ⟨v10, h11, hs⟩ := rdb_some hs
        refine yi_getV (f := 9) dX12_isWord_56 sh_149 rfl ok_9 (by decide) w_1017 rfl h11 ?_
        refine xi_iload_n 3 dX12_isWord_59 rfl ?_
        refine xi_iadd (v := v10 + c.2) dX12_isWord_60 rfl ?_
        obtain ⟨g12, hs⟩ := chk_some hs
        obtain ⟨v13, h14, hs⟩ := rdb_some hs
        refine yi_ialoadV dX12_isWord_61 sh_153 g12 h14 ?_
        refine xi_aload_nS 1 dX12_isWord_62 rfl ?_
        refine xi_iload_n 3 dX12_isWord_63 rfl ?_
        obtain ⟨g15, hs⟩ := chk_some hs
        refine xi_callVS (as := [.int c.2]) (rest := [.int v13]) dX12_isWord_64 (K_schar G st_5 rfl g15) mkJ0_charAt_5068e w_339 w_340 w_1153 st_5 rfl rfl rfl rfl (Nat.le_of_ble_eq_true rfl) (Nat.le_of_ble_eq_true rfl) (Nat.le_of_ble_eq_true rfl) (Nat.le_of_ble_eq_true rfl) (Nat.le_of_ble_eq_true rfl) ?_
        intro v M2 hz
        obtain ⟨rfl, rfl⟩ := hz
        show xW _ _ _ _ 67 _ [.int (chr [114, 111, 119] c.2), .int v13] (mem σ Gb) _ _
        obtain ⟨v17, t18, m19, hs⟩ := bnd_some hs
        have key20 : xW G mX12_isWord (xrm 4 0 0) (xQ G (PQ r0 t0 Gb) 0 0) 75 [(0, .ref 149), (1, .float 5), (3, .int c.2)] [.int v17] (mem t18 Gb) 0 0 := by
          refine xi_istore_n (lv' := [(2, .int v17), (0, .ref 149), (1, .float 5), (3, .int c.2)]) dX12_isWord_75 (by decide) rfl ?_
          refine xi_iinc (v := (c.2 + 1)) (lv' := [(3, .int (c.2 + 1)), (2, .int v17), (0, .ref 149), (1, .float 5)]) 3 dX12_isWord_76 rfl rfl (by decide) rfl ?_
          refine xi_goto (tgt := 39) dX12_isWord_79 (by decide) ?_
          refine xi_sub (lv' := [(0, .ref 149), (1, .float 5), (2, .int v17), (3, .int (c.2 + 1))]) [2, 3, 1, 0] rfl ?_
          obtain ⟨rfl, rfl⟩ := some_pair hs
          exact ih (v17, (c.2 + 1)) t18 _ _ h HE
        refine xi_icmp_ne (tgt := 74) dX12_isWord_67 (by decide) (fun c16 => ?_) (fun c16 => ?_)
        · replace m19 := ite_n c16 m19
          refine xi_iconst (v := 0) dX12_isWord_74 (by decide) ?_
          obtain ⟨rfl, rfl⟩ := some_pair m19
          refine xi_sub (lv' := [(0, .ref 149), (1, .float 5), (3, .int c.2)]) [0, 1, 3] rfl ?_
          exact key20
        · replace m19 := ite_p c16 m19
          refine xi_iconst (v := 1) dX12_isWord_70 (by decide) ?_
          refine xi_goto (tgt := 75) dX12_isWord_71 (by decide) ?_
          obtain ⟨rfl, rfl⟩ := some_pair m19
          refine xi_sub (lv' := [(0, .ref 149), (1, .float 5), (3, .int c.2)]) [0, 1, 3] rfl ?_
          exact key20
noncomputable def FX12_isWord_s5 (σ : St) : Option ((Int32) × St) :=
  (rdb σ 149 (12) (fun v1 => (bnd (if v1 = (0 : Int32) then (rdb σ 149 (10) (fun v27 => (if v27 = (1 : Int32) then (rdb σ 149 (8) (fun v30 => (rdb σ 149 (9) (fun v32 => (if (v30 - v32) = (3 : Int32) then (some ((1 : Int32), σ)) else (some ((0 : Int32), σ))))))) else (some ((0 : Int32), σ))))) else (some ((0 : Int32), σ))) (fun v4 t5 => (bnd (wh (SX12_isWord_s5_39) (v4, (0 : Int32)) t5) (fun e21 t22 => (chk (isb e21) (some (e21, t22)))))))))
set_option maxHeartbeats 4000000 in
set_option maxRecDepth 100000 in
theorem KX12_isWord_s5 (G : xG) (Gb : xMem) (σ : St) (r0 : Int32) (t0 : St) (hq : FX12_isWord_s5 σ = some (r0, t0)) : xC G mX12_isWord 4 0 0 [.ref 149, .float 5] (mem σ Gb) (PQ r0 t0 Gb) := by
  unfold FX12_isWord_s5 at hq
  refine xC.of (by decide) (Nat.le_of_ble_eq_true rfl) ?_
  show xW _ _ _ _ 0 [(0, .ref 149), (1, .float 5)] [] _ 0 0
  refine xi_aload_n 0 dX12_isWord_0 rfl ?_
  obtain ⟨v1, h2, hq⟩ := rdb_some hq
  refine yi_getV (f := 12) dX12_isWord_1 sh_149 rfl ok_9 (by decide) w_1020 rfl h2 ?_
  obtain ⟨v4, t5, m6, hq⟩ := bnd_some hq
  have key7 : xW G mX12_isWord (xrm 4 0 0) (xQ G (PQ r0 t0 Gb) 0 0) 36 [(0, .ref 149), (1, .float 5)] [.int v4] (mem t5 Gb) 0 0 := by
    refine xi_istore_n (lv' := [(2, .int v4), (0, .ref 149), (1, .float 5)]) dX12_isWord_36 (by decide) rfl ?_
    refine xi_iconst (v := 0) dX12_isWord_37 (by decide) ?_
    refine xi_istore_n (lv' := [(3, .int 0), (2, .int v4), (0, .ref 149), (1, .float 5)]) dX12_isWord_38 (by decide) rfl ?_
    refine xi_sub (lv' := [(0, .ref 149), (1, .float 5), (2, .int v4), (3, .int 0)]) [2, 3, 1, 0] rfl ?_
    obtain ⟨e21, t22, k23, hq⟩ := bnd_some hq
    obtain ⟨n24, k23⟩ := wh_itr k23
    refine SX12_isWord_s5_39_w G Gb r0 t0 n24 (v4, (0 : Int32)) t5 _ _ k23 ?_
    show xW G mX12_isWord (xrm 4 0 0) (xQ G (PQ r0 t0 Gb) 0 0) 82 [(2, .int e21)] [] (mem t22 Gb) 0 0
    refine xi_iload_n 0 dX12_isWord_82 rfl ?_
    obtain ⟨g25, hq⟩ := chk_some hq
    have r26 := some_pair hq
    obtain ⟨rfl, rfl⟩ := r26
    exact xi_iret dX12_isWord_83 rfl (isb_n g25) (Nat.le_of_ble_eq_true rfl) (Nat.le_of_ble_eq_true rfl) ⟨rfl, rfl⟩
  refine xi_if_ne (tgt := 35) dX12_isWord_4 (by decide) (fun c3 => ?_) (fun c3 => ?_)
  · replace m6 := ite_n c3 m6
    refine xi_iconst (v := 0) dX12_isWord_35 (by decide) ?_
    obtain ⟨rfl, rfl⟩ := some_pair m6
    exact key7
  · replace m6 := ite_p c3 m6
    refine xi_aload_n 0 dX12_isWord_7 rfl ?_
    obtain ⟨v27, h28, m6⟩ := rdb_some m6
    refine yi_getV (f := 10) dX12_isWord_8 sh_149 rfl ok_9 (by decide) w_1018 rfl h28 ?_
    refine xi_iconst (v := 1) dX12_isWord_11 (by decide) ?_
    refine xi_icmp_ne (tgt := 35) dX12_isWord_12 (by decide) (fun c29 => ?_) (fun c29 => ?_)
    · replace m6 := ite_n c29 m6
      refine xi_iconst (v := 0) dX12_isWord_35 (by decide) ?_
      obtain ⟨rfl, rfl⟩ := some_pair m6
      exact key7
    · replace m6 := ite_p c29 m6
      refine xi_aload_n 0 dX12_isWord_15 rfl ?_
      obtain ⟨v30, h31, m6⟩ := rdb_some m6
      refine yi_getV (f := 8) dX12_isWord_16 sh_149 rfl ok_9 (by decide) w_1016 rfl h31 ?_
      refine xi_aload_n 0 dX12_isWord_19 rfl ?_
      obtain ⟨v32, h33, m6⟩ := rdb_some m6
      refine yi_getV (f := 9) dX12_isWord_20 sh_149 rfl ok_9 (by decide) w_1017 rfl h33 ?_
      refine xi_isub (v := v30 - v32) dX12_isWord_23 rfl ?_
      refine xi_aload_nS 1 dX12_isWord_24 rfl ?_
      refine xi_callVS (as := []) (rest := [.int (v30 - v32)]) dX12_isWord_25 (K_slen G st_5 rfl) mkJ0_length_8abf5 w_329 w_330 w_1152 st_5 rfl rfl rfl rfl (Nat.le_of_ble_eq_true rfl) (Nat.le_of_ble_eq_true rfl) (Nat.le_of_ble_eq_true rfl) (Nat.le_of_ble_eq_true rfl) (Nat.le_of_ble_eq_true rfl) ?_
      intro v M2 hz
      obtain ⟨rfl, rfl⟩ := hz
      show xW _ _ _ _ 28 _ [.int 3, .int (v30 - v32)] (mem σ Gb) _ _
      refine xi_icmp_ne (tgt := 35) dX12_isWord_28 (by decide) (fun c34 => ?_) (fun c34 => ?_)
      · replace m6 := ite_n c34 m6
        refine xi_iconst (v := 0) dX12_isWord_35 (by decide) ?_
        obtain ⟨rfl, rfl⟩ := some_pair m6
        exact key7
      · replace m6 := ite_p c34 m6
        refine xi_iconst (v := 1) dX12_isWord_31 (by decide) ?_
        refine xi_goto (tgt := 36) dX12_isWord_32 (by decide) ?_
        obtain ⟨rfl, rfl⟩ := some_pair m6
        exact key7
noncomputable def SX12_layers_27 (w1 : Int32) (w2 : Int32) (w4 : Int32) (c : Int32 × Int32) (σ : St) : Option (((Int32 × Int32) ⊕ (Int32)) × St) :=
  (bnd (FX12_points w1 σ) (fun v6 t7 => (if v6 ≤ c.2 then (some (Sum.inr c.1, t7)) else (bnd (FX12_farOf w1 w2 c.2 t7) (fun v10 t11 => (bnd (if w4 = (9 : Int32) then (some ((-1 : Int32), t11)) else (some (w4, t11))) (fun v14 t15 => (bnd (if v10 = v14 then (chk (inb c.1 9) (wrb t15 154 (c.1.toNatClampNeg) c.2 (fun t24 => (some ((c.1 + 1), t24))))) else (some (c.1, t15))) (fun v19 t20 => (some (Sum.inl (v19, (c.2 + 1)), t20)))))))))))
noncomputable def SX12_layers_17 (w1 : Int32) (w2 : Int32) (c : Int32 × Int32) (σ : St) : Option (((Int32 × Int32) ⊕ (Unit)) × St) :=
  (if (9 : Int32) < c.2 then (some (Sum.inr (), σ)) else (bnd (wh (SX12_layers_27 w1 w2 c.2) (c.1, (0 : Int32)) σ) (fun e26 t27 => (some (Sum.inl (e26, (c.2 + 1)), t27)))))
set_option maxHeartbeats 4000000 in
set_option maxRecDepth 100000 in
theorem SX12_layers_27_w (G : xG) (Gb : xMem) (w1 : Int32) (w2 : Int32) (w4 : Int32) (r0 : Int32) (t0 : St) :
    ∀ (k : Nat) (c : Int32 × Int32) (σ : St) (r : Int32) (σ' : St), itr (SX12_layers_27 w1 w2 w4) k c σ = some (r, σ') → (xW G mX12_layers (xrm 4 0 0) (xQ G (PQ r0 t0 Gb) 0 0) 78 [(0, .ref 149), (1, .int w1), (2, .int w2), (3, .int r), (4, .int w4)] [] (mem σ' Gb) 0 0) → xW G mX12_layers (xrm 4 0 0) (xQ G (PQ r0 t0 Gb) 0 0) 27 [(0, .ref 149), (1, .int w1), (2, .int w2), (3, .int c.1), (4, .int w4), (5, .int c.2)] [] (mem σ Gb) 0 0 := by
  intro k
  induction k with
  | zero =>
    intro c σ r σ' h
    exact absurd h (itr_zero _ _ _ _)
  | succ k ih =>
    intro c σ r σ' h HE
    obtain ⟨x, s1, hs, h⟩ := itr_succ h
    unfold SX12_layers_27 at hs
    refine xi_iload 5 dX12_layers_27 rfl ?_
    refine xi_aload_n 0 dX12_layers_29 rfl ?_
    refine xi_iload_n 1 dX12_layers_30 rfl ?_
    obtain ⟨v6, t7, k8, hs⟩ := bnd_some hs
    refine xi_callV (as := [.int w1]) (rest := [.int c.2]) dX12_layers_31 (KX12_points G Gb w1 _ _ _ k8) mkX12_points w_1108 ws_36 w_1106 (mem_get sh_149) rfl rfl rfl rfl (Nat.le_of_ble_eq_true rfl) (Nat.le_of_ble_eq_true rfl) (Nat.le_of_ble_eq_true rfl) (Nat.le_of_ble_eq_true rfl) (Nat.le_of_ble_eq_true rfl) ?_
    intro v M2 hz
    obtain ⟨rfl, rfl⟩ := hz
    show xW _ _ _ _ 34 _ [.int v6, .int c.2] (mem t7 Gb) _ _
    refine xi_icmp_ge (tgt := 78) dX12_layers_34 (by decide) (fun c9 => ?_) (fun c9 => ?_)
    · replace hs := ite_p c9 hs
      refine xi_sub (lv' := [(0, .ref 149), (1, .int w1), (2, .int w2), (3, .int c.1), (4, .int w4)]) [0, 1, 2, 3, 4] rfl ?_
      obtain ⟨rfl, rfl⟩ := some_pair hs
      obtain ⟨rfl, rfl⟩ := some_pair h
      exact HE
    · replace hs := ite_n c9 hs
      refine xi_aload_n 0 dX12_layers_37 rfl ?_
      refine xi_iload_n 1 dX12_layers_38 rfl ?_
      refine xi_iload_n 2 dX12_layers_39 rfl ?_
      refine xi_iload 5 dX12_layers_40 rfl ?_
      obtain ⟨v10, t11, k12, hs⟩ := bnd_some hs
      refine xi_callV (as := [.int w1, .int w2, .int c.2]) (rest := []) dX12_layers_42 (KX12_farOf G Gb w1 w2 c.2 _ _ _ k12) mkX12_farOf w_1241 ws_60 w_1239 (mem_get sh_149) rfl rfl rfl rfl (Nat.le_of_ble_eq_true rfl) (Nat.le_of_ble_eq_true rfl) (Nat.le_of_ble_eq_true rfl) (Nat.le_of_ble_eq_true rfl) (Nat.le_of_ble_eq_true rfl) ?_
      intro v M2 hz
      obtain ⟨rfl, rfl⟩ := hz
      show xW _ _ _ _ 45 _ [.int v10] (mem t11 Gb) _ _
      refine xi_iload 4 dX12_layers_45 rfl ?_
      refine xi_bipush (v := 9) dX12_layers_47 (by decide) ?_
      obtain ⟨v14, t15, m16, hs⟩ := bnd_some hs
      have key17 : xW G mX12_layers (xrm 4 0 0) (xQ G (PQ r0 t0 Gb) 0 0) 58 [(0, .ref 149), (1, .int w1), (2, .int w2), (3, .int c.1), (4, .int w4), (5, .int c.2)] [.int v14, .int v10] (mem t15 Gb) 0 0 := by
        obtain ⟨v19, t20, m21, hs⟩ := bnd_some hs
        have key22 : xW G mX12_layers (xrm 4 0 0) (xQ G (PQ r0 t0 Gb) 0 0) 72 [(0, .ref 149), (1, .int w1), (2, .int w2), (3, .int v19), (4, .int w4), (5, .int c.2)] [] (mem t20 Gb) 0 0 := by
          refine xi_iinc (v := (c.2 + 1)) (lv' := [(5, .int (c.2 + 1)), (0, .ref 149), (1, .int w1), (2, .int w2), (3, .int v19), (4, .int w4)]) 5 dX12_layers_72 rfl rfl (by decide) rfl ?_
          refine xi_goto (tgt := 27) dX12_layers_75 (by decide) ?_
          refine xi_sub (lv' := [(0, .ref 149), (1, .int w1), (2, .int w2), (3, .int v19), (4, .int w4), (5, .int (c.2 + 1))]) [1, 2, 3, 4, 5, 0] rfl ?_
          obtain ⟨rfl, rfl⟩ := some_pair hs
          exact ih (v19, (c.2 + 1)) t20 _ _ h HE
        refine xi_icmp_ne (tgt := 72) dX12_layers_58 (by decide) (fun c18 => ?_) (fun c18 => ?_)
        · replace m21 := ite_n c18 m21
          obtain ⟨rfl, rfl⟩ := some_pair m21
          exact key22
        · replace m21 := ite_p c18 m21
          refine xi_aload_n 0 dX12_layers_61 rfl ?_
          refine yi_getR (f := 13) dX12_layers_62 sh_149 rfl ok_9 (by decide) w_1021 rfl ?_
          refine xi_iload_n 3 dX12_layers_65 rfl ?_
          refine xi_iload 5 dX12_layers_66 rfl ?_
          obtain ⟨g23, m21⟩ := chk_some m21
          obtain ⟨t24, h25, m21⟩ := wrb_some m21
          refine yi_iastoreV dX12_layers_68 sh_154 g23 h25 ?_
          refine xi_iinc (v := (c.1 + 1)) (lv' := [(3, .int (c.1 + 1)), (0, .ref 149), (1, .int w1), (2, .int w2), (4, .int w4), (5, .int c.2)]) 3 dX12_layers_69 rfl rfl (by decide) rfl ?_
          obtain ⟨rfl, rfl⟩ := some_pair m21
          refine xi_sub (lv' := [(0, .ref 149), (1, .int w1), (2, .int w2), (3, .int (c.1 + 1)), (4, .int w4), (5, .int c.2)]) [1, 2, 3, 0, 4, 5] rfl ?_
          exact key22
      refine xi_icmp_ne (tgt := 56) dX12_layers_49 (by decide) (fun c13 => ?_) (fun c13 => ?_)
      · replace m16 := ite_n c13 m16
        refine xi_iload 4 dX12_layers_56 rfl ?_
        obtain ⟨rfl, rfl⟩ := some_pair m16
        exact key17
      · replace m16 := ite_p c13 m16
        refine xi_iconst (v := (-1)) dX12_layers_52 (by decide) ?_
        refine xi_goto (tgt := 58) dX12_layers_53 (by decide) ?_
        obtain ⟨rfl, rfl⟩ := some_pair m16
        exact key17
set_option maxHeartbeats 4000000 in
set_option maxRecDepth 100000 in
theorem SX12_layers_17_w (G : xG) (Gb : xMem) (w1 : Int32) (w2 : Int32) (r0 : Int32) (t0 : St) :
    ∀ (k : Nat) (c : Int32 × Int32) (σ : St) (r : Unit) (σ' : St), itr (SX12_layers_17 w1 w2) k c σ = some (r, σ') → (xW G mX12_layers (xrm 4 0 0) (xQ G (PQ r0 t0 Gb) 0 0) 84 [(0, .ref 149), (1, .int w1)] [] (mem σ' Gb) 0 0) → xW G mX12_layers (xrm 4 0 0) (xQ G (PQ r0 t0 Gb) 0 0) 17 [(0, .ref 149), (1, .int w1), (2, .int w2), (3, .int c.1), (4, .int c.2)] [] (mem σ Gb) 0 0 := by
  intro k
  induction k with
  | zero =>
    intro c σ r σ' h
    exact absurd h (itr_zero _ _ _ _)
  | succ k ih =>
    intro c σ r σ' h HE
    obtain ⟨x, s1, hs, h⟩ := itr_succ h
    unfold SX12_layers_17 at hs
    refine xi_iload 4 dX12_layers_17 rfl ?_
    refine xi_bipush (v := 9) dX12_layers_19 (by decide) ?_
    refine xi_icmp_gt (tgt := 84) dX12_layers_21 (by decide) (fun c5 => ?_) (fun c5 => ?_)
    · replace hs := ite_p c5 hs
      refine xi_sub (lv' := [(0, .ref 149), (1, .int w1)]) [0, 1] rfl ?_
      obtain ⟨rfl, rfl⟩ := some_pair hs
      obtain ⟨rfl, rfl⟩ := some_pair h
      exact HE
    · replace hs := ite_n c5 hs
      refine xi_iconst (v := 0) dX12_layers_24 (by decide) ?_
      refine xi_istore (lv' := [(5, .int 0), (0, .ref 149), (1, .int w1), (2, .int w2), (3, .int c.1), (4, .int c.2)]) dX12_layers_25 (by decide) rfl ?_
      refine xi_sub (lv' := [(0, .ref 149), (1, .int w1), (2, .int w2), (3, .int c.1), (4, .int c.2), (5, .int 0)]) [1, 2, 3, 4, 5, 0] rfl ?_
      obtain ⟨e26, t27, k28, hs⟩ := bnd_some hs
      obtain ⟨n29, k28⟩ := wh_itr k28
      refine SX12_layers_27_w G Gb w1 w2 c.2 r0 t0 n29 (c.1, (0 : Int32)) σ _ _ k28 ?_
      show xW G mX12_layers (xrm 4 0 0) (xQ G (PQ r0 t0 Gb) 0 0) 78 [(0, .ref 149), (1, .int w1), (2, .int w2), (3, .int e26), (4, .int c.2)] [] (mem t27 Gb) 0 0
      refine xi_iinc (v := (c.2 + 1)) (lv' := [(4, .int (c.2 + 1)), (0, .ref 149), (1, .int w1), (2, .int w2), (3, .int e26)]) 4 dX12_layers_78 rfl rfl (by decide) rfl ?_
      refine xi_goto (tgt := 17) dX12_layers_81 (by decide) ?_
      refine xi_sub (lv' := [(0, .ref 149), (1, .int w1), (2, .int w2), (3, .int e26), (4, .int (c.2 + 1))]) [1, 2, 3, 4, 0] rfl ?_
      obtain ⟨rfl, rfl⟩ := some_pair hs
      exact ih (e26, (c.2 + 1)) t27 _ _ h HE
noncomputable def FX12_layers (a : Int32) (b : Int32) (σ : St) : Option ((Int32) × St) :=
  (bnd (FX12_isPoint a b σ) (fun v1 t2 => (if v1 = (0 : Int32) then (some ((-2 : Int32), t2)) else (bnd (wh (SX12_layers_17 a b) ((0 : Int32), (0 : Int32)) t2) (fun e30 t31 => (bnd (FX12_takesRow a t31) (fun v34 t35 => (some (v34, t35)))))))))
set_option maxHeartbeats 4000000 in
set_option maxRecDepth 100000 in
theorem KX12_layers (G : xG) (Gb : xMem) (a : Int32) (b : Int32) (σ : St) (r0 : Int32) (t0 : St) (hq : FX12_layers a b σ = some (r0, t0)) : xC G mX12_layers 4 0 0 [.ref 149, .int a, .int b] (mem σ Gb) (PQ r0 t0 Gb) := by
  unfold FX12_layers at hq
  refine xC.of (by decide) (Nat.le_of_ble_eq_true rfl) ?_
  show xW _ _ _ _ 0 [(0, .ref 149), (1, .int a), (2, .int b)] [] _ 0 0
  refine xi_aload_n 0 dX12_layers_0 rfl ?_
  refine xi_iload_n 1 dX12_layers_1 rfl ?_
  refine xi_iload_n 2 dX12_layers_2 rfl ?_
  obtain ⟨v1, t2, k3, hq⟩ := bnd_some hq
  refine xi_callV (as := [.int a, .int b]) (rest := []) dX12_layers_3 (KX12_isPoint G Gb a b _ _ _ k3) mkX12_isPoint w_1257 ws_63 w_1255 (mem_get sh_149) rfl rfl rfl rfl (Nat.le_of_ble_eq_true rfl) (Nat.le_of_ble_eq_true rfl) (Nat.le_of_ble_eq_true rfl) (Nat.le_of_ble_eq_true rfl) (Nat.le_of_ble_eq_true rfl) ?_
  intro v M2 hz
  obtain ⟨rfl, rfl⟩ := hz
  show xW _ _ _ _ 6 _ [.int v1] (mem t2 Gb) _ _
  refine xi_if_ne (tgt := 12) dX12_layers_6 (by decide) (fun c4 => ?_) (fun c4 => ?_)
  · replace hq := ite_n c4 hq
    refine xi_iconst (v := 0) dX12_layers_12 (by decide) ?_
    refine xi_istore_n (lv' := [(3, .int 0), (0, .ref 149), (1, .int a), (2, .int b)]) dX12_layers_13 (by decide) rfl ?_
    refine xi_iconst (v := 0) dX12_layers_14 (by decide) ?_
    refine xi_istore (lv' := [(4, .int 0), (3, .int 0), (0, .ref 149), (1, .int a), (2, .int b)]) dX12_layers_15 (by decide) rfl ?_
    refine xi_sub (lv' := [(0, .ref 149), (1, .int a), (2, .int b), (3, .int 0), (4, .int 0)]) [2, 3, 4, 1, 0] rfl ?_
    obtain ⟨e30, t31, k32, hq⟩ := bnd_some hq
    obtain ⟨n33, k32⟩ := wh_itr k32
    refine SX12_layers_17_w G Gb a b r0 t0 n33 ((0 : Int32), (0 : Int32)) t2 _ _ k32 ?_
    show xW G mX12_layers (xrm 4 0 0) (xQ G (PQ r0 t0 Gb) 0 0) 84 [(0, .ref 149), (1, .int a)] [] (mem t31 Gb) 0 0
    refine xi_aload_n 0 dX12_layers_84 rfl ?_
    refine xi_iload_n 1 dX12_layers_85 rfl ?_
    obtain ⟨v34, t35, k36, hq⟩ := bnd_some hq
    refine xi_callV (as := [.int a]) (rest := []) dX12_layers_86 (KX12_takesRow G Gb a _ _ _ k36) mkX12_takesRow w_1460 ws_88 w_1458 (mem_get sh_149) rfl rfl rfl rfl (Nat.le_of_ble_eq_true rfl) (Nat.le_of_ble_eq_true rfl) (Nat.le_of_ble_eq_true rfl) (Nat.le_of_ble_eq_true rfl) (Nat.le_of_ble_eq_true rfl) ?_
    intro v M2 hz
    obtain ⟨rfl, rfl⟩ := hz
    show xW _ _ _ _ 89 _ [.int v34] (mem t35 Gb) _ _
    have r37 := some_pair hq
    obtain ⟨rfl, rfl⟩ := r37
    exact xi_iret dX12_layers_89 rfl rfl (Nat.le_of_ble_eq_true rfl) (Nat.le_of_ble_eq_true rfl) ⟨rfl, rfl⟩
  · replace hq := ite_p c4 hq
    refine xi_bipush (v := (-2)) dX12_layers_9 (by decide) ?_
    have r38 := some_pair hq
    obtain ⟨rfl, rfl⟩ := r38
    exact xi_iret dX12_layers_11 rfl rfl (Nat.le_of_ble_eq_true rfl) (Nat.le_of_ble_eq_true rfl) ⟨rfl, rfl⟩
noncomputable def FX12_least (a : Int32) (b : Int32) (σ : St) : Option ((Int32) × St) :=
  (bnd (FX12_isNet a σ) (fun v1 t2 => (if v1 = (0 : Int32) then (some ((-2 : Int32), t2)) else (bnd (FX12_isMeasure b t2) (fun v6 t7 => (if v6 = (0 : Int32) then (some ((-2 : Int32), t7)) else (if b = (2 : Int32) then (bnd (FX12_leastBand a t7) (fun v18 t19 => (some (v18, t19)))) else (bnd (FX12_laysLeast a b t7) (fun v11 t12 => (chk (inb (0 : Int32) 512) (rdb t12 155 ((0 : Int32).toNatClampNeg) (fun v15 => (some (v15, t12))))))))))))))
set_option maxHeartbeats 4000000 in
set_option maxRecDepth 100000 in
theorem KX12_least (G : xG) (Gb : xMem) (a : Int32) (b : Int32) (σ : St) (r0 : Int32) (t0 : St) (hq : FX12_least a b σ = some (r0, t0)) : xC G mX12_least 15 0 0 [.ref 149, .int a, .int b] (mem σ Gb) (PQ r0 t0 Gb) := by
  unfold FX12_least at hq
  refine xC.of (by decide) (Nat.le_of_ble_eq_true rfl) ?_
  show xW _ _ _ _ 0 [(0, .ref 149), (1, .int a), (2, .int b)] [] _ 0 0
  refine xi_aload_n 0 dX12_least_0 rfl ?_
  refine xi_iload_n 1 dX12_least_1 rfl ?_
  obtain ⟨v1, t2, k3, hq⟩ := bnd_some hq
  refine xi_callV (as := [.int a]) (rest := []) dX12_least_2 (KX12_isNet G Gb a _ _ _ k3) mkX12_isNet w_1104 ws_35 w_1102 (mem_get sh_149) rfl rfl rfl rfl (Nat.le_of_ble_eq_true rfl) (Nat.le_of_ble_eq_true rfl) (Nat.le_of_ble_eq_true rfl) (Nat.le_of_ble_eq_true rfl) (Nat.le_of_ble_eq_true rfl) ?_
  intro v M2 hz
  obtain ⟨rfl, rfl⟩ := hz
  show xW _ _ _ _ 5 _ [.int v1] (mem t2 Gb) _ _
  refine xi_if_eq (tgt := 15) dX12_least_5 (by decide) (fun c4 => ?_) (fun c4 => ?_)
  · replace hq := ite_p c4 hq
    refine xi_bipush (v := (-2)) dX12_least_15 (by decide) ?_
    have r5 := some_pair hq
    obtain ⟨rfl, rfl⟩ := r5
    exact xi_iret dX12_least_17 rfl rfl (Nat.le_of_ble_eq_true rfl) (Nat.le_of_ble_eq_true rfl) ⟨rfl, rfl⟩
  · replace hq := ite_n c4 hq
    refine xi_iload_n 2 dX12_least_8 rfl ?_
    obtain ⟨v6, t7, k8, hq⟩ := bnd_some hq
    refine xi_callS (as := [.int b]) (rest := []) dX12_least_9 (KX12_isMeasure G Gb b _ _ _ k8) mkX12_isMeasure w_1288 w_1287 rfl rfl (Nat.le_of_ble_eq_true rfl) (Nat.le_of_ble_eq_true rfl) (Nat.le_of_ble_eq_true rfl) (Nat.le_of_ble_eq_true rfl) (Nat.le_of_ble_eq_true rfl) ?_
    intro v M2 hz
    obtain ⟨rfl, rfl⟩ := hz
    show xW _ _ _ _ 12 _ [.int v6] (mem t7 Gb) _ _
    refine xi_if_ne (tgt := 18) dX12_least_12 (by decide) (fun c9 => ?_) (fun c9 => ?_)
    · replace hq := ite_n c9 hq
      refine xi_iload_n 2 dX12_least_18 rfl ?_
      refine xi_iconst (v := 2) dX12_least_19 (by decide) ?_
      refine xi_icmp_ne (tgt := 29) dX12_least_20 (by decide) (fun c10 => ?_) (fun c10 => ?_)
      · replace hq := ite_n c10 hq
        refine xi_aload_n 0 dX12_least_29 rfl ?_
        refine xi_iload_n 1 dX12_least_30 rfl ?_
        refine xi_iload_n 2 dX12_least_31 rfl ?_
        obtain ⟨v11, t12, k13, hq⟩ := bnd_some hq
        refine xi_callV (as := [.int a, .int b]) (rest := []) dX12_least_32 (KX12_laysLeast G Gb a b _ _ _ k13) mkX12_laysLeast w_1366 ws_78 w_1364 (mem_get sh_149) rfl rfl rfl rfl (Nat.le_of_ble_eq_true rfl) (Nat.le_of_ble_eq_true rfl) (Nat.le_of_ble_eq_true rfl) (Nat.le_of_ble_eq_true rfl) (Nat.le_of_ble_eq_true rfl) ?_
        intro v M2 hz
        obtain ⟨rfl, rfl⟩ := hz
        show xW _ _ _ _ 35 _ [] (mem t12 Gb) _ _
        refine xi_aload_n 0 dX12_least_35 rfl ?_
        refine yi_getR (f := 14) dX12_least_36 sh_149 rfl ok_9 (by decide) w_1022 rfl ?_
        refine xi_iconst (v := 0) dX12_least_39 (by decide) ?_
        obtain ⟨g14, hq⟩ := chk_some hq
        obtain ⟨v15, h16, hq⟩ := rdb_some hq
        refine yi_ialoadV dX12_least_40 sh_155 g14 h16 ?_
        have r17 := some_pair hq
        obtain ⟨rfl, rfl⟩ := r17
        exact xi_iret dX12_least_41 rfl rfl (Nat.le_of_ble_eq_true rfl) (Nat.le_of_ble_eq_true rfl) ⟨rfl, rfl⟩
      · replace hq := ite_p c10 hq
        refine xi_aload_n 0 dX12_least_23 rfl ?_
        refine xi_iload_n 1 dX12_least_24 rfl ?_
        obtain ⟨v18, t19, k20, hq⟩ := bnd_some hq
        refine xi_callV (as := [.int a]) (rest := []) dX12_least_25 (KX12_leastBand G Gb a _ _ _ k20) mkX12_leastBand w_1354 ws_75 w_1352 (mem_get sh_149) rfl rfl rfl rfl (Nat.le_of_ble_eq_true rfl) (Nat.le_of_ble_eq_true rfl) (Nat.le_of_ble_eq_true rfl) (Nat.le_of_ble_eq_true rfl) (Nat.le_of_ble_eq_true rfl) ?_
        intro v M2 hz
        obtain ⟨rfl, rfl⟩ := hz
        show xW _ _ _ _ 28 _ [.int v18] (mem t19 Gb) _ _
        have r21 := some_pair hq
        obtain ⟨rfl, rfl⟩ := r21
        exact xi_iret dX12_least_28 rfl rfl (Nat.le_of_ble_eq_true rfl) (Nat.le_of_ble_eq_true rfl) ⟨rfl, rfl⟩
    · replace hq := ite_p c9 hq
      refine xi_bipush (v := (-2)) dX12_least_15 (by decide) ?_
      have r22 := some_pair hq
      obtain ⟨rfl, rfl⟩ := r22
      exact xi_iret dX12_least_17 rfl rfl (Nat.le_of_ble_eq_true rfl) (Nat.le_of_ble_eq_true rfl) ⟨rfl, rfl⟩
noncomputable def FX12_line (a : Int32) (b : Int32) (c : Int32) (σ : St) : Option ((Int32) × St) :=
  (bnd (FX12_isPoint a b σ) (fun v1 t2 => (if v1 = (0 : Int32) then (some ((-2 : Int32), t2)) else (bnd (FX12_isPoint a c t2) (fun v6 t7 => (if v6 = (0 : Int32) then (some ((-2 : Int32), t7)) else (bnd (FX12_weight a b c t7) (fun v11 t12 => (some (v11, t12))))))))))
set_option maxHeartbeats 4000000 in
set_option maxRecDepth 100000 in
theorem KX12_line (G : xG) (Gb : xMem) (a : Int32) (b : Int32) (c : Int32) (σ : St) (r0 : Int32) (t0 : St) (hq : FX12_line a b c σ = some (r0, t0)) : xC G mX12_line 4 0 0 [.ref 149, .int a, .int b, .int c] (mem σ Gb) (PQ r0 t0 Gb) := by
  unfold FX12_line at hq
  refine xC.of (by decide) (Nat.le_of_ble_eq_true rfl) ?_
  show xW _ _ _ _ 0 [(0, .ref 149), (1, .int a), (2, .int b), (3, .int c)] [] _ 0 0
  refine xi_aload_n 0 dX12_line_0 rfl ?_
  refine xi_iload_n 1 dX12_line_1 rfl ?_
  refine xi_iload_n 2 dX12_line_2 rfl ?_
  obtain ⟨v1, t2, k3, hq⟩ := bnd_some hq
  refine xi_callV (as := [.int a, .int b]) (rest := []) dX12_line_3 (KX12_isPoint G Gb a b _ _ _ k3) mkX12_isPoint w_1257 ws_63 w_1255 (mem_get sh_149) rfl rfl rfl rfl (Nat.le_of_ble_eq_true rfl) (Nat.le_of_ble_eq_true rfl) (Nat.le_of_ble_eq_true rfl) (Nat.le_of_ble_eq_true rfl) (Nat.le_of_ble_eq_true rfl) ?_
  intro v M2 hz
  obtain ⟨rfl, rfl⟩ := hz
  show xW _ _ _ _ 6 _ [.int v1] (mem t2 Gb) _ _
  refine xi_if_eq (tgt := 28) dX12_line_6 (by decide) (fun c4 => ?_) (fun c4 => ?_)
  · replace hq := ite_p c4 hq
    refine xi_bipush (v := (-2)) dX12_line_28 (by decide) ?_
    have r5 := some_pair hq
    obtain ⟨rfl, rfl⟩ := r5
    exact xi_iret dX12_line_30 rfl rfl (Nat.le_of_ble_eq_true rfl) (Nat.le_of_ble_eq_true rfl) ⟨rfl, rfl⟩
  · replace hq := ite_n c4 hq
    refine xi_aload_n 0 dX12_line_9 rfl ?_
    refine xi_iload_n 1 dX12_line_10 rfl ?_
    refine xi_iload_n 3 dX12_line_11 rfl ?_
    obtain ⟨v6, t7, k8, hq⟩ := bnd_some hq
    refine xi_callV (as := [.int a, .int c]) (rest := []) dX12_line_12 (KX12_isPoint G Gb a c _ _ _ k8) mkX12_isPoint w_1257 ws_63 w_1255 (mem_get sh_149) rfl rfl rfl rfl (Nat.le_of_ble_eq_true rfl) (Nat.le_of_ble_eq_true rfl) (Nat.le_of_ble_eq_true rfl) (Nat.le_of_ble_eq_true rfl) (Nat.le_of_ble_eq_true rfl) ?_
    intro v M2 hz
    obtain ⟨rfl, rfl⟩ := hz
    show xW _ _ _ _ 15 _ [.int v6] (mem t7 Gb) _ _
    refine xi_if_eq (tgt := 28) dX12_line_15 (by decide) (fun c9 => ?_) (fun c9 => ?_)
    · replace hq := ite_p c9 hq
      refine xi_bipush (v := (-2)) dX12_line_28 (by decide) ?_
      have r10 := some_pair hq
      obtain ⟨rfl, rfl⟩ := r10
      exact xi_iret dX12_line_30 rfl rfl (Nat.le_of_ble_eq_true rfl) (Nat.le_of_ble_eq_true rfl) ⟨rfl, rfl⟩
    · replace hq := ite_n c9 hq
      refine xi_aload_n 0 dX12_line_18 rfl ?_
      refine xi_iload_n 1 dX12_line_19 rfl ?_
      refine xi_iload_n 2 dX12_line_20 rfl ?_
      refine xi_iload_n 3 dX12_line_21 rfl ?_
      obtain ⟨v11, t12, k13, hq⟩ := bnd_some hq
      refine xi_callV (as := [.int a, .int b, .int c]) (rest := []) dX12_line_22 (KX12_weight G Gb a b c _ _ _ k13) mkX12_weight w_1192 ws_53 w_1190 (mem_get sh_149) rfl rfl rfl rfl (Nat.le_of_ble_eq_true rfl) (Nat.le_of_ble_eq_true rfl) (Nat.le_of_ble_eq_true rfl) (Nat.le_of_ble_eq_true rfl) (Nat.le_of_ble_eq_true rfl) ?_
      intro v M2 hz
      obtain ⟨rfl, rfl⟩ := hz
      show xW _ _ _ _ 25 _ [.int v11] (mem t12 Gb) _ _
      refine xi_goto (tgt := 30) dX12_line_25 (by decide) ?_
      have r14 := some_pair hq
      obtain ⟨rfl, rfl⟩ := r14
      exact xi_iret dX12_line_30 rfl rfl (Nat.le_of_ble_eq_true rfl) (Nat.le_of_ble_eq_true rfl) ⟨rfl, rfl⟩
noncomputable def SX12_placeOf_2 (w1 : Int32) (w2 : Int32) (c : Int32) (σ : St) : Option (((Int32) ⊕ (Int32)) × St) :=
  (bnd (FX12_at w1 c σ) (fun v1 t2 => (if v1 = w2 then (some (Sum.inr c, t2)) else (some (Sum.inl (c + 1), t2)))))
set_option maxHeartbeats 4000000 in
set_option maxRecDepth 100000 in
theorem SX12_placeOf_2_w (G : xG) (Gb : xMem) (w1 : Int32) (w2 : Int32) (r0 : Int32) (t0 : St) :
    ∀ (k : Nat) (c : Int32) (σ : St) (r : Int32) (σ' : St), itr (SX12_placeOf_2 w1 w2) k c σ = some (r, σ') → (xW G mX12_placeOf (xrm 1 0 0) (xQ G (PQ r0 t0 Gb) 0 0) 18 [(3, .int r)] [] (mem σ' Gb) 0 0) → xW G mX12_placeOf (xrm 1 0 0) (xQ G (PQ r0 t0 Gb) 0 0) 2 [(0, .ref 149), (1, .int w1), (2, .int w2), (3, .int c)] [] (mem σ Gb) 0 0 := by
  intro k
  induction k with
  | zero =>
    intro c σ r σ' h
    exact absurd h (itr_zero _ _ _ _)
  | succ k ih =>
    intro c σ r σ' h HE
    obtain ⟨x, s1, hs, h⟩ := itr_succ h
    unfold SX12_placeOf_2 at hs
    refine xi_aload_n 0 dX12_placeOf_2 rfl ?_
    refine xi_iload_n 1 dX12_placeOf_3 rfl ?_
    refine xi_iload_n 3 dX12_placeOf_4 rfl ?_
    obtain ⟨v1, t2, k3, hs⟩ := bnd_some hs
    refine xi_callV (as := [.int w1, .int c]) (rest := []) dX12_placeOf_5 (KX12_at G Gb w1 c _ _ _ k3) mkX12_at w_1273 ws_64 w_1271 (mem_get sh_149) rfl rfl rfl rfl (Nat.le_of_ble_eq_true rfl) (Nat.le_of_ble_eq_true rfl) (Nat.le_of_ble_eq_true rfl) (Nat.le_of_ble_eq_true rfl) (Nat.le_of_ble_eq_true rfl) ?_
    intro v M2 hz
    obtain ⟨rfl, rfl⟩ := hz
    show xW _ _ _ _ 8 _ [.int v1] (mem t2 Gb) _ _
    refine xi_iload_n 2 dX12_placeOf_8 rfl ?_
    refine xi_icmp_eq (tgt := 18) dX12_placeOf_9 (by decide) (fun c4 => ?_) (fun c4 => ?_)
    · replace hs := ite_p c4 hs
      refine xi_sub (lv' := [(3, .int c)]) [3] rfl ?_
      obtain ⟨rfl, rfl⟩ := some_pair hs
      obtain ⟨rfl, rfl⟩ := some_pair h
      exact HE
    · replace hs := ite_n c4 hs
      refine xi_iinc (v := (c + 1)) (lv' := [(3, .int (c + 1)), (0, .ref 149), (1, .int w1), (2, .int w2)]) 3 dX12_placeOf_12 rfl rfl (by decide) rfl ?_
      refine xi_goto (tgt := 2) dX12_placeOf_15 (by decide) ?_
      refine xi_sub (lv' := [(0, .ref 149), (1, .int w1), (2, .int w2), (3, .int (c + 1))]) [1, 2, 3, 0] rfl ?_
      obtain ⟨rfl, rfl⟩ := some_pair hs
      exact ih (c + 1) t2 _ _ h HE
noncomputable def FX12_placeOf (a : Int32) (b : Int32) (σ : St) : Option ((Int32) × St) :=
  (bnd (wh (SX12_placeOf_2 a b) (0 : Int32) σ) (fun e5 t6 => (some (e5, t6))))
set_option maxHeartbeats 4000000 in
set_option maxRecDepth 100000 in
theorem KX12_placeOf (G : xG) (Gb : xMem) (a : Int32) (b : Int32) (σ : St) (r0 : Int32) (t0 : St) (hq : FX12_placeOf a b σ = some (r0, t0)) : xC G mX12_placeOf 1 0 0 [.ref 149, .int a, .int b] (mem σ Gb) (PQ r0 t0 Gb) := by
  unfold FX12_placeOf at hq
  refine xC.of (by decide) (Nat.le_of_ble_eq_true rfl) ?_
  show xW _ _ _ _ 0 [(0, .ref 149), (1, .int a), (2, .int b)] [] _ 0 0
  refine xi_iconst (v := 0) dX12_placeOf_0 (by decide) ?_
  refine xi_istore_n (lv' := [(3, .int 0), (0, .ref 149), (1, .int a), (2, .int b)]) dX12_placeOf_1 (by decide) rfl ?_
  refine xi_sub (lv' := [(0, .ref 149), (1, .int a), (2, .int b), (3, .int 0)]) [1, 2, 3, 0] rfl ?_
  obtain ⟨e5, t6, k7, hq⟩ := bnd_some hq
  obtain ⟨n8, k7⟩ := wh_itr k7
  refine SX12_placeOf_2_w G Gb a b r0 t0 n8 (0 : Int32) σ _ _ k7 ?_
  show xW G mX12_placeOf (xrm 1 0 0) (xQ G (PQ r0 t0 Gb) 0 0) 18 [(3, .int e5)] [] (mem t6 Gb) 0 0
  refine xi_iload_n 0 dX12_placeOf_18 rfl ?_
  have r9 := some_pair hq
  obtain ⟨rfl, rfl⟩ := r9
  exact xi_iret dX12_placeOf_19 rfl rfl (Nat.le_of_ble_eq_true rfl) (Nat.le_of_ble_eq_true rfl) ⟨rfl, rfl⟩
noncomputable def SX12_longest_34 (w1 : Int32) (w4 : Int32) (c : Int32 × Int32 × Int32) (σ : St) : Option (((Int32 × Int32 × Int32) ⊕ (Int32 × Int32)) × St) :=
  (bnd (FX12_points w1 σ) (fun v9 t10 => (if v9 ≤ c.2.2 then (some (Sum.inr (c.1, c.2.1), t10)) else (bnd (FX12_placeOf w1 w4 t10) (fun v13 t14 => (bnd (FX12_placeOf w1 c.2.2 t14) (fun v16 t17 => (bnd (FX12_weight w1 w4 c.2.2 t17) (fun v19 t20 => (bnd (if v19 ≤ (0 : Int32) then (some ((c.1, c.2.1), t20)) else (if (abI (v13 - v16)) ≤ c.2.1 then (some ((c.1, c.2.1), t20)) else (some (((((10 : Int32) * w4) + c.2.2), (abI (v13 - v16))), t20)))) (fun v23 t24 => (some (Sum.inl (v23.1, v23.2, (c.2.2 + 1)), t24)))))))))))))
noncomputable def SX12_longest_18 (w1 : Int32) (c : Int32 × Int32 × Int32) (σ : St) : Option (((Int32 × Int32 × Int32) ⊕ (Int32)) × St) :=
  (bnd (FX12_points w1 σ) (fun v5 t6 => (if v5 ≤ c.2.2 then (some (Sum.inr c.1, t6)) else (bnd (wh (SX12_longest_34 w1 c.2.2) (c.1, c.2.1, (c.2.2 + (1 : Int32))) t6) (fun e28 t29 => (some (Sum.inl (e28.1, e28.2, (c.2.2 + 1)), t29)))))))
set_option maxHeartbeats 4000000 in
set_option maxRecDepth 100000 in
theorem SX12_longest_34_w (G : xG) (Gb : xMem) (w1 : Int32) (w4 : Int32) (r0 : Int32) (t0 : St) :
    ∀ (k : Nat) (c : Int32 × Int32 × Int32) (σ : St) (r : Int32 × Int32) (σ' : St), itr (SX12_longest_34 w1 w4) k c σ = some (r, σ') → (xW G mX12_longest (xrm 3 0 0) (xQ G (PQ r0 t0 Gb) 0 0) 100 [(0, .ref 149), (1, .int w1), (2, .int r.1), (3, .int r.2), (4, .int w4)] [] (mem σ' Gb) 0 0) → xW G mX12_longest (xrm 3 0 0) (xQ G (PQ r0 t0 Gb) 0 0) 34 [(0, .ref 149), (1, .int w1), (2, .int c.1), (3, .int c.2.1), (4, .int w4), (5, .int c.2.2)] [] (mem σ Gb) 0 0 := by
  intro k
  induction k with
  | zero =>
    intro c σ r σ' h
    exact absurd h (itr_zero _ _ _ _)
  | succ k ih =>
    intro c σ r σ' h HE
    obtain ⟨x, s1, hs, h⟩ := itr_succ h
    unfold SX12_longest_34 at hs
    refine xi_iload 5 dX12_longest_34 rfl ?_
    refine xi_aload_n 0 dX12_longest_36 rfl ?_
    refine xi_iload_n 1 dX12_longest_37 rfl ?_
    obtain ⟨v9, t10, k11, hs⟩ := bnd_some hs
    refine xi_callV (as := [.int w1]) (rest := [.int c.2.2]) dX12_longest_38 (KX12_points G Gb w1 _ _ _ k11) mkX12_points w_1108 ws_36 w_1106 (mem_get sh_149) rfl rfl rfl rfl (Nat.le_of_ble_eq_true rfl) (Nat.le_of_ble_eq_true rfl) (Nat.le_of_ble_eq_true rfl) (Nat.le_of_ble_eq_true rfl) (Nat.le_of_ble_eq_true rfl) ?_
    intro v M2 hz
    obtain ⟨rfl, rfl⟩ := hz
    show xW _ _ _ _ 41 _ [.int v9, .int c.2.2] (mem t10 Gb) _ _
    refine xi_icmp_ge (tgt := 100) dX12_longest_41 (by decide) (fun c12 => ?_) (fun c12 => ?_)
    · replace hs := ite_p c12 hs
      refine xi_sub (lv' := [(0, .ref 149), (1, .int w1), (2, .int c.1), (3, .int c.2.1), (4, .int w4)]) [0, 1, 2, 3, 4] rfl ?_
      obtain ⟨rfl, rfl⟩ := some_pair hs
      obtain ⟨rfl, rfl⟩ := some_pair h
      exact HE
    · replace hs := ite_n c12 hs
      refine xi_aload_n 0 dX12_longest_44 rfl ?_
      refine xi_iload_n 1 dX12_longest_45 rfl ?_
      refine xi_iload 4 dX12_longest_46 rfl ?_
      obtain ⟨v13, t14, k15, hs⟩ := bnd_some hs
      refine xi_callV (as := [.int w1, .int w4]) (rest := []) dX12_longest_48 (KX12_placeOf G Gb w1 w4 _ _ _ k15) mkX12_placeOf w_1281 ws_65 w_1279 (mem_get sh_149) rfl rfl rfl rfl (Nat.le_of_ble_eq_true rfl) (Nat.le_of_ble_eq_true rfl) (Nat.le_of_ble_eq_true rfl) (Nat.le_of_ble_eq_true rfl) (Nat.le_of_ble_eq_true rfl) ?_
      intro v M2 hz
      obtain ⟨rfl, rfl⟩ := hz
      show xW _ _ _ _ 51 _ [.int v13] (mem t14 Gb) _ _
      refine xi_aload_n 0 dX12_longest_51 rfl ?_
      refine xi_iload_n 1 dX12_longest_52 rfl ?_
      refine xi_iload 5 dX12_longest_53 rfl ?_
      obtain ⟨v16, t17, k18, hs⟩ := bnd_some hs
      refine xi_callV (as := [.int w1, .int c.2.2]) (rest := [.int v13]) dX12_longest_55 (KX12_placeOf G Gb w1 c.2.2 _ _ _ k18) mkX12_placeOf w_1281 ws_65 w_1279 (mem_get sh_149) rfl rfl rfl rfl (Nat.le_of_ble_eq_true rfl) (Nat.le_of_ble_eq_true rfl) (Nat.le_of_ble_eq_true rfl) (Nat.le_of_ble_eq_true rfl) (Nat.le_of_ble_eq_true rfl) ?_
      intro v M2 hz
      obtain ⟨rfl, rfl⟩ := hz
      show xW _ _ _ _ 58 _ [.int v16, .int v13] (mem t17 Gb) _ _
      refine xi_isub (v := v13 - v16) dX12_longest_58 rfl ?_
      refine xi_abs (v := (abI (v13 - v16))) dX12_longest_59 w_1347 w_651 w_3 w_mabs (Nat.le_of_ble_eq_true rfl) (Nat.le_of_ble_eq_true rfl) (Nat.le_of_ble_eq_true rfl) (Nat.le_of_ble_eq_true rfl) (Nat.le_of_ble_eq_true rfl) rfl ?_
      refine xi_istore (lv' := [(6, .int (abI (v13 - v16))), (0, .ref 149), (1, .int w1), (2, .int c.1), (3, .int c.2.1), (4, .int w4), (5, .int c.2.2)]) dX12_longest_62 (by decide) rfl ?_
      refine xi_aload_n 1 dX12_longest_64 rfl ?_
      refine xi_iload_n 2 dX12_longest_65 rfl ?_
      refine xi_iload 5 dX12_longest_66 rfl ?_
      refine xi_iload 6 dX12_longest_68 rfl ?_
      obtain ⟨v19, t20, k21, hs⟩ := bnd_some hs
      refine xi_callV (as := [.int w1, .int w4, .int c.2.2]) (rest := []) dX12_longest_70 (KX12_weight G Gb w1 w4 c.2.2 _ _ _ k21) mkX12_weight w_1192 ws_53 w_1190 (mem_get sh_149) rfl rfl rfl rfl (Nat.le_of_ble_eq_true rfl) (Nat.le_of_ble_eq_true rfl) (Nat.le_of_ble_eq_true rfl) (Nat.le_of_ble_eq_true rfl) (Nat.le_of_ble_eq_true rfl) ?_
      intro v M2 hz
      obtain ⟨rfl, rfl⟩ := hz
      show xW _ _ _ _ 73 _ [.int v19] (mem t20 Gb) _ _
      obtain ⟨v23, t24, m25, hs⟩ := bnd_some hs
      have key26 : xW G mX12_longest (xrm 3 0 0) (xQ G (PQ r0 t0 Gb) 0 0) 94 [(0, .ref 149), (1, .int w1), (2, .int v23.1), (3, .int v23.2), (4, .int w4), (5, .int c.2.2)] [] (mem t24 Gb) 0 0 := by
        refine xi_iinc (v := (c.2.2 + 1)) (lv' := [(5, .int (c.2.2 + 1)), (0, .ref 149), (1, .int w1), (2, .int v23.1), (3, .int v23.2), (4, .int w4)]) 5 dX12_longest_94 rfl rfl (by decide) rfl ?_
        refine xi_goto (tgt := 34) dX12_longest_97 (by decide) ?_
        refine xi_sub (lv' := [(0, .ref 149), (1, .int w1), (2, .int v23.1), (3, .int v23.2), (4, .int w4), (5, .int (c.2.2 + 1))]) [1, 2, 3, 4, 5, 0] rfl ?_
        obtain ⟨rfl, rfl⟩ := some_pair hs
        exact ih (v23.1, v23.2, (c.2.2 + 1)) t24 _ _ h HE
      refine xi_if_le (tgt := 94) dX12_longest_73 (by decide) (fun c22 => ?_) (fun c22 => ?_)
      · replace m25 := ite_p c22 m25
        obtain ⟨rfl, rfl⟩ := some_pair m25
        refine xi_sub (lv' := [(0, .ref 149), (1, .int w1), (2, .int c.1), (3, .int c.2.1), (4, .int w4), (5, .int c.2.2)]) [1, 2, 3, 4, 5, 6] rfl ?_
        exact key26
      · replace m25 := ite_n c22 m25
        refine xi_iload 0 dX12_longest_76 rfl ?_
        refine xi_iload_n 4 dX12_longest_78 rfl ?_
        refine xi_icmp_le (tgt := 94) dX12_longest_79 (by decide) (fun c27 => ?_) (fun c27 => ?_)
        · replace m25 := ite_p c27 m25
          obtain ⟨rfl, rfl⟩ := some_pair m25
          refine xi_sub (lv' := [(0, .ref 149), (1, .int w1), (2, .int c.1), (3, .int c.2.1), (4, .int w4), (5, .int c.2.2)]) [1, 2, 3, 4, 5, 6] rfl ?_
          exact key26
        · replace m25 := ite_n c27 m25
          refine xi_iload 0 dX12_longest_82 rfl ?_
          refine xi_istore_n (lv' := [(3, .int (abI (v13 - v16))), (6, .int (abI (v13 - v16))), (0, .ref 149), (1, .int w1), (2, .int c.1), (4, .int w4), (5, .int c.2.2)]) dX12_longest_84 (by decide) rfl ?_
          refine xi_bipush (v := 10) dX12_longest_85 (by decide) ?_
          refine xi_iload 5 dX12_longest_87 rfl ?_
          refine xi_imul (v := (10 : Int32) * w4) dX12_longest_89 rfl ?_
          refine xi_iload 6 dX12_longest_90 rfl ?_
          refine xi_iadd (v := ((10 : Int32) * w4) + c.2.2) dX12_longest_92 rfl ?_
          refine xi_istore_n (lv' := [(2, .int (((10 : Int32) * w4) + c.2.2)), (3, .int (abI (v13 - v16))), (6, .int (abI (v13 - v16))), (0, .ref 149), (1, .int w1), (4, .int w4), (5, .int c.2.2)]) dX12_longest_93 (by decide) rfl ?_
          obtain ⟨rfl, rfl⟩ := some_pair m25
          refine xi_sub (lv' := [(0, .ref 149), (1, .int w1), (2, .int (((10 : Int32) * w4) + c.2.2)), (3, .int (abI (v13 - v16))), (4, .int w4), (5, .int c.2.2)]) [3, 4, 0, 1, 5, 6] rfl ?_
          exact key26
set_option maxHeartbeats 4000000 in
set_option maxRecDepth 100000 in
theorem SX12_longest_18_w (G : xG) (Gb : xMem) (w1 : Int32) (r0 : Int32) (t0 : St) :
    ∀ (k : Nat) (c : Int32 × Int32 × Int32) (σ : St) (r : Int32) (σ' : St), itr (SX12_longest_18 w1) k c σ = some (r, σ') → (xW G mX12_longest (xrm 3 0 0) (xQ G (PQ r0 t0 Gb) 0 0) 106 [(2, .int r)] [] (mem σ' Gb) 0 0) → xW G mX12_longest (xrm 3 0 0) (xQ G (PQ r0 t0 Gb) 0 0) 18 [(0, .ref 149), (1, .int w1), (2, .int c.1), (3, .int c.2.1), (4, .int c.2.2)] [] (mem σ Gb) 0 0 := by
  intro k
  induction k with
  | zero =>
    intro c σ r σ' h
    exact absurd h (itr_zero _ _ _ _)
  | succ k ih =>
    intro c σ r σ' h HE
    obtain ⟨x, s1, hs, h⟩ := itr_succ h
    unfold SX12_longest_18 at hs
    refine xi_iload 4 dX12_longest_18 rfl ?_
    refine xi_aload_n 0 dX12_longest_20 rfl ?_
    refine xi_iload_n 1 dX12_longest_21 rfl ?_
    obtain ⟨v5, t6, k7, hs⟩ := bnd_some hs
    refine xi_callV (as := [.int w1]) (rest := [.int c.2.2]) dX12_longest_22 (KX12_points G Gb w1 _ _ _ k7) mkX12_points w_1108 ws_36 w_1106 (mem_get sh_149) rfl rfl rfl rfl (Nat.le_of_ble_eq_true rfl) (Nat.le_of_ble_eq_true rfl) (Nat.le_of_ble_eq_true rfl) (Nat.le_of_ble_eq_true rfl) (Nat.le_of_ble_eq_true rfl) ?_
    intro v M2 hz
    obtain ⟨rfl, rfl⟩ := hz
    show xW _ _ _ _ 25 _ [.int v5, .int c.2.2] (mem t6 Gb) _ _
    refine xi_icmp_ge (tgt := 106) dX12_longest_25 (by decide) (fun c8 => ?_) (fun c8 => ?_)
    · replace hs := ite_p c8 hs
      refine xi_sub (lv' := [(2, .int c.1)]) [2] rfl ?_
      obtain ⟨rfl, rfl⟩ := some_pair hs
      obtain ⟨rfl, rfl⟩ := some_pair h
      exact HE
    · replace hs := ite_n c8 hs
      refine xi_iload 4 dX12_longest_28 rfl ?_
      refine xi_iconst (v := 1) dX12_longest_30 (by decide) ?_
      refine xi_iadd (v := c.2.2 + (1 : Int32)) dX12_longest_31 rfl ?_
      refine xi_istore (lv' := [(5, .int (c.2.2 + (1 : Int32))), (0, .ref 149), (1, .int w1), (2, .int c.1), (3, .int c.2.1), (4, .int c.2.2)]) dX12_longest_32 (by decide) rfl ?_
      refine xi_sub (lv' := [(0, .ref 149), (1, .int w1), (2, .int c.1), (3, .int c.2.1), (4, .int c.2.2), (5, .int (c.2.2 + (1 : Int32)))]) [1, 2, 3, 4, 5, 0] rfl ?_
      obtain ⟨e28, t29, k30, hs⟩ := bnd_some hs
      obtain ⟨n31, k30⟩ := wh_itr k30
      refine SX12_longest_34_w G Gb w1 c.2.2 r0 t0 n31 (c.1, c.2.1, (c.2.2 + (1 : Int32))) t6 _ _ k30 ?_
      show xW G mX12_longest (xrm 3 0 0) (xQ G (PQ r0 t0 Gb) 0 0) 100 [(0, .ref 149), (1, .int w1), (2, .int e28.1), (3, .int e28.2), (4, .int c.2.2)] [] (mem t29 Gb) 0 0
      refine xi_iinc (v := (c.2.2 + 1)) (lv' := [(4, .int (c.2.2 + 1)), (0, .ref 149), (1, .int w1), (2, .int e28.1), (3, .int e28.2)]) 4 dX12_longest_100 rfl rfl (by decide) rfl ?_
      refine xi_goto (tgt := 18) dX12_longest_103 (by decide) ?_
      refine xi_sub (lv' := [(0, .ref 149), (1, .int w1), (2, .int e28.1), (3, .int e28.2), (4, .int (c.2.2 + 1))]) [1, 2, 3, 4, 0] rfl ?_
      obtain ⟨rfl, rfl⟩ := some_pair hs
      exact ih (e28.1, e28.2, (c.2.2 + 1)) t29 _ _ h HE
noncomputable def FX12_longest (a : Int32) (σ : St) : Option ((Int32) × St) :=
  (bnd (FX12_isNet a σ) (fun v1 t2 => (if v1 = (0 : Int32) then (some ((-2 : Int32), t2)) else (bnd (wh (SX12_longest_18 a) ((-1 : Int32), (0 : Int32), (0 : Int32)) t2) (fun e32 t33 => (some (e32, t33)))))))
set_option maxHeartbeats 4000000 in
set_option maxRecDepth 100000 in
theorem KX12_longest (G : xG) (Gb : xMem) (a : Int32) (σ : St) (r0 : Int32) (t0 : St) (hq : FX12_longest a σ = some (r0, t0)) : xC G mX12_longest 3 0 0 [.ref 149, .int a] (mem σ Gb) (PQ r0 t0 Gb) := by
  unfold FX12_longest at hq
  refine xC.of (by decide) (Nat.le_of_ble_eq_true rfl) ?_
  show xW _ _ _ _ 0 [(0, .ref 149), (1, .int a)] [] _ 0 0
  refine xi_aload_n 0 dX12_longest_0 rfl ?_
  refine xi_iload_n 1 dX12_longest_1 rfl ?_
  obtain ⟨v1, t2, k3, hq⟩ := bnd_some hq
  refine xi_callV (as := [.int a]) (rest := []) dX12_longest_2 (KX12_isNet G Gb a _ _ _ k3) mkX12_isNet w_1104 ws_35 w_1102 (mem_get sh_149) rfl rfl rfl rfl (Nat.le_of_ble_eq_true rfl) (Nat.le_of_ble_eq_true rfl) (Nat.le_of_ble_eq_true rfl) (Nat.le_of_ble_eq_true rfl) (Nat.le_of_ble_eq_true rfl) ?_
  intro v M2 hz
  obtain ⟨rfl, rfl⟩ := hz
  show xW _ _ _ _ 5 _ [.int v1] (mem t2 Gb) _ _
  refine xi_if_ne (tgt := 11) dX12_longest_5 (by decide) (fun c4 => ?_) (fun c4 => ?_)
  · replace hq := ite_n c4 hq
    refine xi_iconst (v := (-1)) dX12_longest_11 (by decide) ?_
    refine xi_istore_n (lv' := [(2, .int (-1)), (0, .ref 149), (1, .int a)]) dX12_longest_12 (by decide) rfl ?_
    refine xi_iconst (v := 0) dX12_longest_13 (by decide) ?_
    refine xi_istore_n (lv' := [(3, .int 0), (2, .int (-1)), (0, .ref 149), (1, .int a)]) dX12_longest_14 (by decide) rfl ?_
    refine xi_iconst (v := 0) dX12_longest_15 (by decide) ?_
    refine xi_istore (lv' := [(4, .int 0), (3, .int 0), (2, .int (-1)), (0, .ref 149), (1, .int a)]) dX12_longest_16 (by decide) rfl ?_
    refine xi_sub (lv' := [(0, .ref 149), (1, .int a), (2, .int (-1)), (3, .int 0), (4, .int 0)]) [3, 4, 2, 1, 0] rfl ?_
    obtain ⟨e32, t33, k34, hq⟩ := bnd_some hq
    obtain ⟨n35, k34⟩ := wh_itr k34
    refine SX12_longest_18_w G Gb a r0 t0 n35 ((-1 : Int32), (0 : Int32), (0 : Int32)) t2 _ _ k34 ?_
    show xW G mX12_longest (xrm 3 0 0) (xQ G (PQ r0 t0 Gb) 0 0) 106 [(2, .int e32)] [] (mem t33 Gb) 0 0
    refine xi_iload_n 0 dX12_longest_106 rfl ?_
    have r36 := some_pair hq
    obtain ⟨rfl, rfl⟩ := r36
    exact xi_iret dX12_longest_107 rfl rfl (Nat.le_of_ble_eq_true rfl) (Nat.le_of_ble_eq_true rfl) ⟨rfl, rfl⟩
  · replace hq := ite_p c4 hq
    refine xi_bipush (v := (-2)) dX12_longest_8 (by decide) ?_
    have r37 := some_pair hq
    obtain ⟨rfl, rfl⟩ := r37
    exact xi_iret dX12_longest_10 rfl rfl (Nat.le_of_ble_eq_true rfl) (Nat.le_of_ble_eq_true rfl) ⟨rfl, rfl⟩
noncomputable def SX12_parts_19 (w1 : Int32) (w2 : Int32) (w3 : Int32) (c : Int32 × Int32) (σ : St) : Option (((Int32 × Int32) ⊕ (Int32)) × St) :=
  (if w3 ≤ c.2 then (some (Sum.inr c.1, σ)) else (bnd (if c.1 = (0 : Int32) then (some ((0 : Int32), σ)) else (bnd (FX12_farOf w1 c.2 w3 σ) (fun v11 t12 => (if v11 = (-1 : Int32) then (some ((1 : Int32), t12)) else (some ((0 : Int32), t12)))))) (fun v7 t8 => (some (Sum.inl (v7, (c.2 + 1)), t8)))))
noncomputable def SX12_parts_4 (w1 : Int32) (c : Int32 × Int32) (σ : St) : Option (((Int32 × Int32) ⊕ (Int32)) × St) :=
  (bnd (FX12_points w1 σ) (fun v1 t2 => (if v1 ≤ c.2 then (some (Sum.inr c.1, t2)) else (bnd (wh (SX12_parts_19 w1 c.1 c.2) ((1 : Int32), (0 : Int32)) t2) (fun e15 t16 => (bnd (if e15 = (0 : Int32) then (some ((0 : Int32), t16)) else (some ((1 : Int32), t16))) (fun v20 t21 => (some (Sum.inl ((c.1 + v20), (c.2 + 1)), t21)))))))))
set_option maxHeartbeats 4000000 in
set_option maxRecDepth 100000 in
theorem SX12_parts_19_w (G : xG) (Gb : xMem) (w1 : Int32) (w2 : Int32) (w3 : Int32) (r0 : Int32) (t0 : St) :
    ∀ (k : Nat) (c : Int32 × Int32) (σ : St) (r : Int32) (σ' : St), itr (SX12_parts_19 w1 w2 w3) k c σ = some (r, σ') → (xW G mX12_parts (xrm 3 0 0) (xQ G (PQ r0 t0 Gb) 0 0) 55 [(0, .ref 149), (1, .int w1), (2, .int w2), (3, .int w3), (4, .int r)] [] (mem σ' Gb) 0 0) → xW G mX12_parts (xrm 3 0 0) (xQ G (PQ r0 t0 Gb) 0 0) 19 [(0, .ref 149), (1, .int w1), (2, .int w2), (3, .int w3), (4, .int c.1), (5, .int c.2)] [] (mem σ Gb) 0 0 := by
  intro k
  induction k with
  | zero =>
    intro c σ r σ' h
    exact absurd h (itr_zero _ _ _ _)
  | succ k ih =>
    intro c σ r σ' h HE
    obtain ⟨x, s1, hs, h⟩ := itr_succ h
    unfold SX12_parts_19 at hs
    refine xi_iload 5 dX12_parts_19 rfl ?_
    refine xi_iload_n 3 dX12_parts_21 rfl ?_
    refine xi_icmp_ge (tgt := 55) dX12_parts_22 (by decide) (fun c5 => ?_) (fun c5 => ?_)
    · replace hs := ite_p c5 hs
      refine xi_sub (lv' := [(0, .ref 149), (1, .int w1), (2, .int w2), (3, .int w3), (4, .int c.1)]) [0, 1, 2, 3, 4] rfl ?_
      obtain ⟨rfl, rfl⟩ := some_pair hs
      obtain ⟨rfl, rfl⟩ := some_pair h
      exact HE
    · replace hs := ite_n c5 hs
      refine xi_iload 4 dX12_parts_25 rfl ?_
      obtain ⟨v7, t8, m9, hs⟩ := bnd_some hs
      have key10 : xW G mX12_parts (xrm 3 0 0) (xQ G (PQ r0 t0 Gb) 0 0) 47 [(0, .ref 149), (1, .int w1), (2, .int w2), (3, .int w3), (5, .int c.2)] [.int v7] (mem t8 Gb) 0 0 := by
        refine xi_istore (lv' := [(4, .int v7), (0, .ref 149), (1, .int w1), (2, .int w2), (3, .int w3), (5, .int c.2)]) dX12_parts_47 (by decide) rfl ?_
        refine xi_iinc (v := (c.2 + 1)) (lv' := [(5, .int (c.2 + 1)), (4, .int v7), (0, .ref 149), (1, .int w1), (2, .int w2), (3, .int w3)]) 5 dX12_parts_49 rfl rfl (by decide) rfl ?_
        refine xi_goto (tgt := 19) dX12_parts_52 (by decide) ?_
        refine xi_sub (lv' := [(0, .ref 149), (1, .int w1), (2, .int w2), (3, .int w3), (4, .int v7), (5, .int (c.2 + 1))]) [2, 3, 4, 5, 1, 0] rfl ?_
        obtain ⟨rfl, rfl⟩ := some_pair hs
        exact ih (v7, (c.2 + 1)) t8 _ _ h HE
      refine xi_if_eq (tgt := 46) dX12_parts_27 (by decide) (fun c6 => ?_) (fun c6 => ?_)
      · replace m9 := ite_p c6 m9
        refine xi_iconst (v := 0) dX12_parts_46 (by decide) ?_
        obtain ⟨rfl, rfl⟩ := some_pair m9
        refine xi_sub (lv' := [(0, .ref 149), (1, .int w1), (2, .int w2), (3, .int w3), (5, .int c.2)]) [0, 1, 2, 3, 5] rfl ?_
        exact key10
      · replace m9 := ite_n c6 m9
        refine xi_aload_n 0 dX12_parts_30 rfl ?_
        refine xi_iload_n 1 dX12_parts_31 rfl ?_
        refine xi_iload 5 dX12_parts_32 rfl ?_
        refine xi_iload_n 3 dX12_parts_34 rfl ?_
        obtain ⟨v11, t12, k13, m9⟩ := bnd_some m9
        refine xi_callV (as := [.int w1, .int c.2, .int w3]) (rest := []) dX12_parts_35 (KX12_farOf G Gb w1 c.2 w3 _ _ _ k13) mkX12_farOf w_1241 ws_60 w_1239 (mem_get sh_149) rfl rfl rfl rfl (Nat.le_of_ble_eq_true rfl) (Nat.le_of_ble_eq_true rfl) (Nat.le_of_ble_eq_true rfl) (Nat.le_of_ble_eq_true rfl) (Nat.le_of_ble_eq_true rfl) ?_
        intro v M2 hz
        obtain ⟨rfl, rfl⟩ := hz
        show xW _ _ _ _ 38 _ [.int v11] (mem t12 Gb) _ _
        refine xi_iconst (v := (-1)) dX12_parts_38 (by decide) ?_
        refine xi_icmp_ne (tgt := 46) dX12_parts_39 (by decide) (fun c14 => ?_) (fun c14 => ?_)
        · replace m9 := ite_n c14 m9
          refine xi_iconst (v := 0) dX12_parts_46 (by decide) ?_
          obtain ⟨rfl, rfl⟩ := some_pair m9
          refine xi_sub (lv' := [(0, .ref 149), (1, .int w1), (2, .int w2), (3, .int w3), (5, .int c.2)]) [0, 1, 2, 3, 5] rfl ?_
          exact key10
        · replace m9 := ite_p c14 m9
          refine xi_iconst (v := 1) dX12_parts_42 (by decide) ?_
          refine xi_goto (tgt := 47) dX12_parts_43 (by decide) ?_
          obtain ⟨rfl, rfl⟩ := some_pair m9
          refine xi_sub (lv' := [(0, .ref 149), (1, .int w1), (2, .int w2), (3, .int w3), (5, .int c.2)]) [0, 1, 2, 3, 5] rfl ?_
          exact key10
set_option maxHeartbeats 4000000 in
set_option maxRecDepth 100000 in
theorem SX12_parts_4_w (G : xG) (Gb : xMem) (w1 : Int32) (r0 : Int32) (t0 : St) :
    ∀ (k : Nat) (c : Int32 × Int32) (σ : St) (r : Int32) (σ' : St), itr (SX12_parts_4 w1) k c σ = some (r, σ') → (xW G mX12_parts (xrm 3 0 0) (xQ G (PQ r0 t0 Gb) 0 0) 74 [(2, .int r)] [] (mem σ' Gb) 0 0) → xW G mX12_parts (xrm 3 0 0) (xQ G (PQ r0 t0 Gb) 0 0) 4 [(0, .ref 149), (1, .int w1), (2, .int c.1), (3, .int c.2)] [] (mem σ Gb) 0 0 := by
  intro k
  induction k with
  | zero =>
    intro c σ r σ' h
    exact absurd h (itr_zero _ _ _ _)
  | succ k ih =>
    intro c σ r σ' h HE
    obtain ⟨x, s1, hs, h⟩ := itr_succ h
    unfold SX12_parts_4 at hs
    refine xi_iload_n 3 dX12_parts_4 rfl ?_
    refine xi_aload_n 0 dX12_parts_5 rfl ?_
    refine xi_iload_n 1 dX12_parts_6 rfl ?_
    obtain ⟨v1, t2, k3, hs⟩ := bnd_some hs
    refine xi_callV (as := [.int w1]) (rest := [.int c.2]) dX12_parts_7 (KX12_points G Gb w1 _ _ _ k3) mkX12_points w_1108 ws_36 w_1106 (mem_get sh_149) rfl rfl rfl rfl (Nat.le_of_ble_eq_true rfl) (Nat.le_of_ble_eq_true rfl) (Nat.le_of_ble_eq_true rfl) (Nat.le_of_ble_eq_true rfl) (Nat.le_of_ble_eq_true rfl) ?_
    intro v M2 hz
    obtain ⟨rfl, rfl⟩ := hz
    show xW _ _ _ _ 10 _ [.int v1, .int c.2] (mem t2 Gb) _ _
    refine xi_icmp_ge (tgt := 74) dX12_parts_10 (by decide) (fun c4 => ?_) (fun c4 => ?_)
    · replace hs := ite_p c4 hs
      refine xi_sub (lv' := [(2, .int c.1)]) [2] rfl ?_
      obtain ⟨rfl, rfl⟩ := some_pair hs
      obtain ⟨rfl, rfl⟩ := some_pair h
      exact HE
    · replace hs := ite_n c4 hs
      refine xi_iconst (v := 1) dX12_parts_13 (by decide) ?_
      refine xi_istore (lv' := [(4, .int 1), (0, .ref 149), (1, .int w1), (2, .int c.1), (3, .int c.2)]) dX12_parts_14 (by decide) rfl ?_
      refine xi_iconst (v := 0) dX12_parts_16 (by decide) ?_
      refine xi_istore (lv' := [(5, .int 0), (4, .int 1), (0, .ref 149), (1, .int w1), (2, .int c.1), (3, .int c.2)]) dX12_parts_17 (by decide) rfl ?_
      refine xi_sub (lv' := [(0, .ref 149), (1, .int w1), (2, .int c.1), (3, .int c.2), (4, .int 1), (5, .int 0)]) [2, 3, 4, 5, 1, 0] rfl ?_
      obtain ⟨e15, t16, k17, hs⟩ := bnd_some hs
      obtain ⟨n18, k17⟩ := wh_itr k17
      refine SX12_parts_19_w G Gb w1 c.1 c.2 r0 t0 n18 ((1 : Int32), (0 : Int32)) t2 _ _ k17 ?_
      show xW G mX12_parts (xrm 3 0 0) (xQ G (PQ r0 t0 Gb) 0 0) 55 [(0, .ref 149), (1, .int w1), (2, .int c.1), (3, .int c.2), (4, .int e15)] [] (mem t16 Gb) 0 0
      refine xi_iload_n 2 dX12_parts_55 rfl ?_
      refine xi_iload 4 dX12_parts_56 rfl ?_
      obtain ⟨v20, t21, m22, hs⟩ := bnd_some hs
      have key23 : xW G mX12_parts (xrm 3 0 0) (xQ G (PQ r0 t0 Gb) 0 0) 66 [(0, .ref 149), (1, .int w1), (3, .int c.2)] [.int v20, .int c.1] (mem t21 Gb) 0 0 := by
        refine xi_iadd (v := c.1 + v20) dX12_parts_66 rfl ?_
        refine xi_istore_n (lv' := [(2, .int (c.1 + v20)), (0, .ref 149), (1, .int w1), (3, .int c.2)]) dX12_parts_67 (by decide) rfl ?_
        refine xi_iinc (v := (c.2 + 1)) (lv' := [(3, .int (c.2 + 1)), (2, .int (c.1 + v20)), (0, .ref 149), (1, .int w1)]) 3 dX12_parts_68 rfl rfl (by decide) rfl ?_
        refine xi_goto (tgt := 4) dX12_parts_71 (by decide) ?_
        refine xi_sub (lv' := [(0, .ref 149), (1, .int w1), (2, .int (c.1 + v20)), (3, .int (c.2 + 1))]) [2, 3, 1, 0] rfl ?_
        obtain ⟨rfl, rfl⟩ := some_pair hs
        exact ih ((c.1 + v20), (c.2 + 1)) t21 _ _ h HE
      refine xi_if_eq (tgt := 65) dX12_parts_58 (by decide) (fun c19 => ?_) (fun c19 => ?_)
      · replace m22 := ite_p c19 m22
        refine xi_iconst (v := 0) dX12_parts_65 (by decide) ?_
        obtain ⟨rfl, rfl⟩ := some_pair m22
        refine xi_sub (lv' := [(0, .ref 149), (1, .int w1), (3, .int c.2)]) [0, 1, 3] rfl ?_
        exact key23
      · replace m22 := ite_n c19 m22
        refine xi_iconst (v := 1) dX12_parts_61 (by decide) ?_
        refine xi_goto (tgt := 66) dX12_parts_62 (by decide) ?_
        obtain ⟨rfl, rfl⟩ := some_pair m22
        refine xi_sub (lv' := [(0, .ref 149), (1, .int w1), (3, .int c.2)]) [0, 1, 3] rfl ?_
        exact key23
noncomputable def FX12_parts (a : Int32) (σ : St) : Option ((Int32) × St) :=
  (bnd (wh (SX12_parts_4 a) ((0 : Int32), (0 : Int32)) σ) (fun e24 t25 => (some (e24, t25))))
set_option maxHeartbeats 4000000 in
set_option maxRecDepth 100000 in
theorem KX12_parts (G : xG) (Gb : xMem) (a : Int32) (σ : St) (r0 : Int32) (t0 : St) (hq : FX12_parts a σ = some (r0, t0)) : xC G mX12_parts 3 0 0 [.ref 149, .int a] (mem σ Gb) (PQ r0 t0 Gb) := by
  unfold FX12_parts at hq
  refine xC.of (by decide) (Nat.le_of_ble_eq_true rfl) ?_
  show xW _ _ _ _ 0 [(0, .ref 149), (1, .int a)] [] _ 0 0
  refine xi_iconst (v := 0) dX12_parts_0 (by decide) ?_
  refine xi_istore_n (lv' := [(2, .int 0), (0, .ref 149), (1, .int a)]) dX12_parts_1 (by decide) rfl ?_
  refine xi_iconst (v := 0) dX12_parts_2 (by decide) ?_
  refine xi_istore_n (lv' := [(3, .int 0), (2, .int 0), (0, .ref 149), (1, .int a)]) dX12_parts_3 (by decide) rfl ?_
  refine xi_sub (lv' := [(0, .ref 149), (1, .int a), (2, .int 0), (3, .int 0)]) [2, 3, 1, 0] rfl ?_
  obtain ⟨e24, t25, k26, hq⟩ := bnd_some hq
  obtain ⟨n27, k26⟩ := wh_itr k26
  refine SX12_parts_4_w G Gb a r0 t0 n27 ((0 : Int32), (0 : Int32)) σ _ _ k26 ?_
  show xW G mX12_parts (xrm 3 0 0) (xQ G (PQ r0 t0 Gb) 0 0) 74 [(2, .int e24)] [] (mem t25 Gb) 0 0
  refine xi_iload_n 0 dX12_parts_74 rfl ?_
  have r28 := some_pair hq
  obtain ⟨rfl, rfl⟩ := r28
  exact xi_iret dX12_parts_75 rfl rfl (Nat.le_of_ble_eq_true rfl) (Nat.le_of_ble_eq_true rfl) ⟨rfl, rfl⟩
noncomputable def SX12_look_28 (w1 : Int32) (w2 : Int32) (c : Int32 × Int32) (σ : St) : Option (((Int32 × Int32) ⊕ (Int32)) × St) :=
  (bnd (FX12_points w1 σ) (fun v10 t11 => (if v10 ≤ c.2 then (some (Sum.inr c.1, t11)) else (bnd (FX12_weightOf w1 c.2 t11) (fun v14 t15 => (some (Sum.inl ((c.1 + v14), (c.2 + 1)), t15)))))))
set_option maxHeartbeats 4000000 in
set_option maxRecDepth 100000 in
theorem SX12_look_28_w (G : xG) (Gb : xMem) (w1 : Int32) (w2 : Int32) (r0 : Int32) (t0 : St) :
    ∀ (k : Nat) (c : Int32 × Int32) (σ : St) (r : Int32) (σ' : St), itr (SX12_look_28 w1 w2) k c σ = some (r, σ') → (xW G mX12_look (xrm 4 0 0) (xQ G (PQ r0 t0 Gb) 0 0) 54 [(0, .ref 149), (1, .int w1), (2, .int w2), (3, .int r)] [] (mem σ' Gb) 0 0) → xW G mX12_look (xrm 4 0 0) (xQ G (PQ r0 t0 Gb) 0 0) 28 [(0, .ref 149), (1, .int w1), (2, .int w2), (3, .int c.1), (4, .int c.2)] [] (mem σ Gb) 0 0 := by
  intro k
  induction k with
  | zero =>
    intro c σ r σ' h
    exact absurd h (itr_zero _ _ _ _)
  | succ k ih =>
    intro c σ r σ' h HE
    obtain ⟨x, s1, hs, h⟩ := itr_succ h
    unfold SX12_look_28 at hs
    refine xi_iload 4 dX12_look_28 rfl ?_
    refine xi_aload_n 0 dX12_look_30 rfl ?_
    refine xi_iload_n 1 dX12_look_31 rfl ?_
    obtain ⟨v10, t11, k12, hs⟩ := bnd_some hs
    refine xi_callV (as := [.int w1]) (rest := [.int c.2]) dX12_look_32 (KX12_points G Gb w1 _ _ _ k12) mkX12_points w_1108 ws_36 w_1106 (mem_get sh_149) rfl rfl rfl rfl (Nat.le_of_ble_eq_true rfl) (Nat.le_of_ble_eq_true rfl) (Nat.le_of_ble_eq_true rfl) (Nat.le_of_ble_eq_true rfl) (Nat.le_of_ble_eq_true rfl) ?_
    intro v M2 hz
    obtain ⟨rfl, rfl⟩ := hz
    show xW _ _ _ _ 35 _ [.int v10, .int c.2] (mem t11 Gb) _ _
    refine xi_icmp_ge (tgt := 54) dX12_look_35 (by decide) (fun c13 => ?_) (fun c13 => ?_)
    · replace hs := ite_p c13 hs
      refine xi_sub (lv' := [(0, .ref 149), (1, .int w1), (2, .int w2), (3, .int c.1)]) [0, 1, 2, 3] rfl ?_
      obtain ⟨rfl, rfl⟩ := some_pair hs
      obtain ⟨rfl, rfl⟩ := some_pair h
      exact HE
    · replace hs := ite_n c13 hs
      refine xi_iload_n 3 dX12_look_38 rfl ?_
      refine xi_aload_n 0 dX12_look_39 rfl ?_
      refine xi_iload_n 1 dX12_look_40 rfl ?_
      refine xi_iload 4 dX12_look_41 rfl ?_
      obtain ⟨v14, t15, k16, hs⟩ := bnd_some hs
      refine xi_callV (as := [.int w1, .int c.2]) (rest := [.int c.1]) dX12_look_43 (KX12_weightOf G Gb w1 c.2 _ _ _ k16) mkX12_weightOf w_1228 ws_57 w_1226 (mem_get sh_149) rfl rfl rfl rfl (Nat.le_of_ble_eq_true rfl) (Nat.le_of_ble_eq_true rfl) (Nat.le_of_ble_eq_true rfl) (Nat.le_of_ble_eq_true rfl) (Nat.le_of_ble_eq_true rfl) ?_
      intro v M2 hz
      obtain ⟨rfl, rfl⟩ := hz
      show xW _ _ _ _ 46 _ [.int v14, .int c.1] (mem t15 Gb) _ _
      refine xi_iadd (v := c.1 + v14) dX12_look_46 rfl ?_
      refine xi_istore_n (lv' := [(3, .int (c.1 + v14)), (0, .ref 149), (1, .int w1), (2, .int w2), (4, .int c.2)]) dX12_look_47 (by decide) rfl ?_
      refine xi_iinc (v := (c.2 + 1)) (lv' := [(4, .int (c.2 + 1)), (3, .int (c.1 + v14)), (0, .ref 149), (1, .int w1), (2, .int w2)]) 4 dX12_look_48 rfl rfl (by decide) rfl ?_
      refine xi_goto (tgt := 28) dX12_look_51 (by decide) ?_
      refine xi_sub (lv' := [(0, .ref 149), (1, .int w1), (2, .int w2), (3, .int (c.1 + v14)), (4, .int (c.2 + 1))]) [2, 3, 4, 1, 0] rfl ?_
      obtain ⟨rfl, rfl⟩ := some_pair hs
      exact ih ((c.1 + v14), (c.2 + 1)) t15 _ _ h HE
noncomputable def FX12_look (a : Int32) (b : Int32) (σ : St) : Option ((Int32) × St) :=
  (bnd (FX12_isNet a σ) (fun v1 t2 => (if v1 = (0 : Int32) then (some ((-2 : Int32), t2)) else (bnd (FX12_in b.toInt64 (0 : Int64) (6 : Int64) t2) (fun v6 t7 => (if v6 = (0 : Int32) then (some ((-2 : Int32), t7)) else (bnd (wh (SX12_look_28 a b) ((0 : Int32), (0 : Int32)) t7) (fun e17 t18 => (if b = 0 then (bnd (FX12_points a t18) (fun v22 t23 => (some (v22, t23)))) else (if b = 1 then (bnd (FX12_lines a t18) (fun v27 t28 => (some (v27, t28)))) else (if b = 2 then (some ((e17 / (2 : Int32)), t18)) else (if b = 3 then (bnd (FX12_degree a t18) (fun v34 t35 => (some (v34, t35)))) else (if b = 4 then (bnd (FX12_parts a t18) (fun v39 t40 => (some (v39, t40)))) else (if b = 5 then (bnd (FX12_diameter a t18) (fun v44 t45 => (some (v44, t45)))) else (bnd (FX12_core a t18) (fun v48 t49 => (some (v48, t49))))))))))))))))))
set_option maxHeartbeats 4000000 in
set_option maxRecDepth 100000 in
theorem KX12_look (G : xG) (Gb : xMem) (a : Int32) (b : Int32) (σ : St) (r0 : Int32) (t0 : St) (hq : FX12_look a b σ = some (r0, t0)) : xC G mX12_look 4 0 0 [.ref 149, .int a, .int b] (mem σ Gb) (PQ r0 t0 Gb) := by
  unfold FX12_look at hq
  refine xC.of (by decide) (Nat.le_of_ble_eq_true rfl) ?_
  show xW _ _ _ _ 0 [(0, .ref 149), (1, .int a), (2, .int b)] [] _ 0 0
  refine xi_aload_n 0 dX12_look_0 rfl ?_
  refine xi_iload_n 1 dX12_look_1 rfl ?_
  obtain ⟨v1, t2, k3, hq⟩ := bnd_some hq
  refine xi_callV (as := [.int a]) (rest := []) dX12_look_2 (KX12_isNet G Gb a _ _ _ k3) mkX12_isNet w_1104 ws_35 w_1102 (mem_get sh_149) rfl rfl rfl rfl (Nat.le_of_ble_eq_true rfl) (Nat.le_of_ble_eq_true rfl) (Nat.le_of_ble_eq_true rfl) (Nat.le_of_ble_eq_true rfl) (Nat.le_of_ble_eq_true rfl) ?_
  intro v M2 hz
  obtain ⟨rfl, rfl⟩ := hz
  show xW _ _ _ _ 5 _ [.int v1] (mem t2 Gb) _ _
  refine xi_if_eq (tgt := 20) dX12_look_5 (by decide) (fun c4 => ?_) (fun c4 => ?_)
  · replace hq := ite_p c4 hq
    refine xi_bipush (v := (-2)) dX12_look_20 (by decide) ?_
    have r5 := some_pair hq
    obtain ⟨rfl, rfl⟩ := r5
    exact xi_iret dX12_look_22 rfl rfl (Nat.le_of_ble_eq_true rfl) (Nat.le_of_ble_eq_true rfl) ⟨rfl, rfl⟩
  · replace hq := ite_n c4 hq
    refine xi_iload_n 2 dX12_look_8 rfl ?_
    refine xi_i2l dX12_look_9 rfl ?_
    refine xi_lconst (v := 0) dX12_look_10 (by decide) ?_
    refine xi_ldc2 (v := 6) dX12_look_11 w_1225 ?_
    obtain ⟨v6, t7, k8, hq⟩ := bnd_some hq
    refine xi_callS (as := [.long b.toInt64, .long 0, .long 6]) (rest := []) dX12_look_14 (KX12_in G Gb b.toInt64 (0 : Int64) (6 : Int64) _ _ _ k8) mkX12_in w_1100 w_1099 rfl rfl (Nat.le_of_ble_eq_true rfl) (Nat.le_of_ble_eq_true rfl) (Nat.le_of_ble_eq_true rfl) (Nat.le_of_ble_eq_true rfl) (Nat.le_of_ble_eq_true rfl) ?_
    intro v M2 hz
    obtain ⟨rfl, rfl⟩ := hz
    show xW _ _ _ _ 17 _ [.int v6] (mem t7 Gb) _ _
    refine xi_if_ne (tgt := 23) dX12_look_17 (by decide) (fun c9 => ?_) (fun c9 => ?_)
    · replace hq := ite_n c9 hq
      refine xi_iconst (v := 0) dX12_look_23 (by decide) ?_
      refine xi_istore_n (lv' := [(3, .int 0), (0, .ref 149), (1, .int a), (2, .int b)]) dX12_look_24 (by decide) rfl ?_
      refine xi_iconst (v := 0) dX12_look_25 (by decide) ?_
      refine xi_istore (lv' := [(4, .int 0), (3, .int 0), (0, .ref 149), (1, .int a), (2, .int b)]) dX12_look_26 (by decide) rfl ?_
      refine xi_sub (lv' := [(0, .ref 149), (1, .int a), (2, .int b), (3, .int 0), (4, .int 0)]) [2, 3, 4, 1, 0] rfl ?_
      obtain ⟨e17, t18, k19, hq⟩ := bnd_some hq
      obtain ⟨n20, k19⟩ := wh_itr k19
      refine SX12_look_28_w G Gb a b r0 t0 n20 ((0 : Int32), (0 : Int32)) t7 _ _ k19 ?_
      show xW G mX12_look (xrm 4 0 0) (xQ G (PQ r0 t0 Gb) 0 0) 54 [(0, .ref 149), (1, .int a), (2, .int b), (3, .int e17)] [] (mem t18 Gb) 0 0
      refine xi_iload_n 2 dX12_look_54 rfl ?_
      by_cases c21 : b = 0
      · replace hq := ite_p c21 hq
        refine xi_tableIn (off := 37) (tgt := 92) dX12_look_55 (by rw [c21]; decide) (by rw [c21]; decide) (by rw [c21]; decide) (by decide) ?_
        refine xi_aload_n 0 dX12_look_92 rfl ?_
        refine xi_iload_n 1 dX12_look_93 rfl ?_
        obtain ⟨v22, t23, k24, hq⟩ := bnd_some hq
        refine xi_callV (as := [.int a]) (rest := []) dX12_look_94 (KX12_points G Gb a _ _ _ k24) mkX12_points w_1108 ws_36 w_1106 (mem_get sh_149) rfl rfl rfl rfl (Nat.le_of_ble_eq_true rfl) (Nat.le_of_ble_eq_true rfl) (Nat.le_of_ble_eq_true rfl) (Nat.le_of_ble_eq_true rfl) (Nat.le_of_ble_eq_true rfl) ?_
        intro v M2 hz
        obtain ⟨rfl, rfl⟩ := hz
        show xW _ _ _ _ 97 _ [.int v22] (mem t23 Gb) _ _
        have r25 := some_pair hq
        obtain ⟨rfl, rfl⟩ := r25
        exact xi_iret dX12_look_97 rfl rfl (Nat.le_of_ble_eq_true rfl) (Nat.le_of_ble_eq_true rfl) ⟨rfl, rfl⟩
      replace hq := ite_n c21 hq
      by_cases c26 : b = 1
      · replace hq := ite_p c26 hq
        refine xi_tableIn (off := 43) (tgt := 98) dX12_look_55 (by rw [c26]; decide) (by rw [c26]; decide) (by rw [c26]; decide) (by decide) ?_
        refine xi_aload_n 0 dX12_look_98 rfl ?_
        refine xi_iload_n 1 dX12_look_99 rfl ?_
        obtain ⟨v27, t28, k29, hq⟩ := bnd_some hq
        refine xi_callV (as := [.int a]) (rest := []) dX12_look_100 (KX12_lines G Gb a _ _ _ k29) mkX12_lines w_1184 ws_51 w_1182 (mem_get sh_149) rfl rfl rfl rfl (Nat.le_of_ble_eq_true rfl) (Nat.le_of_ble_eq_true rfl) (Nat.le_of_ble_eq_true rfl) (Nat.le_of_ble_eq_true rfl) (Nat.le_of_ble_eq_true rfl) ?_
        intro v M2 hz
        obtain ⟨rfl, rfl⟩ := hz
        show xW _ _ _ _ 103 _ [.int v27] (mem t28 Gb) _ _
        have r30 := some_pair hq
        obtain ⟨rfl, rfl⟩ := r30
        exact xi_iret dX12_look_103 rfl rfl (Nat.le_of_ble_eq_true rfl) (Nat.le_of_ble_eq_true rfl) ⟨rfl, rfl⟩
      replace hq := ite_n c26 hq
      by_cases c31 : b = 2
      · replace hq := ite_p c31 hq
        refine xi_tableIn (off := 49) (tgt := 104) dX12_look_55 (by rw [c31]; decide) (by rw [c31]; decide) (by rw [c31]; decide) (by decide) ?_
        refine xi_iload_n 3 dX12_look_104 rfl ?_
        refine xi_iconst (v := 2) dX12_look_105 (by decide) ?_
        refine xi_idiv (v := e17 / (2 : Int32)) dX12_look_106 (by decide) rfl ?_
        have r32 := some_pair hq
        obtain ⟨rfl, rfl⟩ := r32
        exact xi_iret dX12_look_107 rfl rfl (Nat.le_of_ble_eq_true rfl) (Nat.le_of_ble_eq_true rfl) ⟨rfl, rfl⟩
      replace hq := ite_n c31 hq
      by_cases c33 : b = 3
      · replace hq := ite_p c33 hq
        refine xi_tableIn (off := 53) (tgt := 108) dX12_look_55 (by rw [c33]; decide) (by rw [c33]; decide) (by rw [c33]; decide) (by decide) ?_
        refine xi_aload_n 0 dX12_look_108 rfl ?_
        refine xi_iload_n 1 dX12_look_109 rfl ?_
        obtain ⟨v34, t35, k36, hq⟩ := bnd_some hq
        refine xi_callV (as := [.int a]) (rest := []) dX12_look_110 (KX12_degree G Gb a _ _ _ k36) mkX12_degree w_1232 ws_58 w_1230 (mem_get sh_149) rfl rfl rfl rfl (Nat.le_of_ble_eq_true rfl) (Nat.le_of_ble_eq_true rfl) (Nat.le_of_ble_eq_true rfl) (Nat.le_of_ble_eq_true rfl) (Nat.le_of_ble_eq_true rfl) ?_
        intro v M2 hz
        obtain ⟨rfl, rfl⟩ := hz
        show xW _ _ _ _ 113 _ [.int v34] (mem t35 Gb) _ _
        have r37 := some_pair hq
        obtain ⟨rfl, rfl⟩ := r37
        exact xi_iret dX12_look_113 rfl rfl (Nat.le_of_ble_eq_true rfl) (Nat.le_of_ble_eq_true rfl) ⟨rfl, rfl⟩
      replace hq := ite_n c33 hq
      by_cases c38 : b = 4
      · replace hq := ite_p c38 hq
        refine xi_tableIn (off := 59) (tgt := 114) dX12_look_55 (by rw [c38]; decide) (by rw [c38]; decide) (by rw [c38]; decide) (by decide) ?_
        refine xi_aload_n 0 dX12_look_114 rfl ?_
        refine xi_iload_n 1 dX12_look_115 rfl ?_
        obtain ⟨v39, t40, k41, hq⟩ := bnd_some hq
        refine xi_callV (as := [.int a]) (rest := []) dX12_look_116 (KX12_parts G Gb a _ _ _ k41) mkX12_parts w_1237 ws_59 w_1235 (mem_get sh_149) rfl rfl rfl rfl (Nat.le_of_ble_eq_true rfl) (Nat.le_of_ble_eq_true rfl) (Nat.le_of_ble_eq_true rfl) (Nat.le_of_ble_eq_true rfl) (Nat.le_of_ble_eq_true rfl) ?_
        intro v M2 hz
        obtain ⟨rfl, rfl⟩ := hz
        show xW _ _ _ _ 119 _ [.int v39] (mem t40 Gb) _ _
        have r42 := some_pair hq
        obtain ⟨rfl, rfl⟩ := r42
        exact xi_iret dX12_look_119 rfl rfl (Nat.le_of_ble_eq_true rfl) (Nat.le_of_ble_eq_true rfl) ⟨rfl, rfl⟩
      replace hq := ite_n c38 hq
      by_cases c43 : b = 5
      · replace hq := ite_p c43 hq
        refine xi_tableIn (off := 65) (tgt := 120) dX12_look_55 (by rw [c43]; decide) (by rw [c43]; decide) (by rw [c43]; decide) (by decide) ?_
        refine xi_aload_n 0 dX12_look_120 rfl ?_
        refine xi_iload_n 1 dX12_look_121 rfl ?_
        obtain ⟨v44, t45, k46, hq⟩ := bnd_some hq
        refine xi_callV (as := [.int a]) (rest := []) dX12_look_122 (KX12_diameter G Gb a _ _ _ k46) mkX12_diameter w_1245 ws_61 w_1243 (mem_get sh_149) rfl rfl rfl rfl (Nat.le_of_ble_eq_true rfl) (Nat.le_of_ble_eq_true rfl) (Nat.le_of_ble_eq_true rfl) (Nat.le_of_ble_eq_true rfl) (Nat.le_of_ble_eq_true rfl) ?_
        intro v M2 hz
        obtain ⟨rfl, rfl⟩ := hz
        show xW _ _ _ _ 125 _ [.int v44] (mem t45 Gb) _ _
        have r47 := some_pair hq
        obtain ⟨rfl, rfl⟩ := r47
        exact xi_iret dX12_look_125 rfl rfl (Nat.le_of_ble_eq_true rfl) (Nat.le_of_ble_eq_true rfl) ⟨rfl, rfl⟩
      replace hq := ite_n c43 hq
      have tc21 : b.toInt ≠ 0 := fun e => c21 (Int32.toInt_inj.mp (by rw [e]; decide))
      have tc26 : b.toInt ≠ 1 := fun e => c26 (Int32.toInt_inj.mp (by rw [e]; decide))
      have tc31 : b.toInt ≠ 2 := fun e => c31 (Int32.toInt_inj.mp (by rw [e]; decide))
      have tc33 : b.toInt ≠ 3 := fun e => c33 (Int32.toInt_inj.mp (by rw [e]; decide))
      have tc38 : b.toInt ≠ 4 := fun e => c38 (Int32.toInt_inj.mp (by rw [e]; decide))
      have tc43 : b.toInt ≠ 5 := fun e => c43 (Int32.toInt_inj.mp (by rw [e]; decide))
      refine xi_tableOut (tgt := 126) dX12_look_55 (by omega) (by decide) ?_
      refine xi_aload_n 0 dX12_look_126 rfl ?_
      refine xi_iload_n 1 dX12_look_127 rfl ?_
      obtain ⟨v48, t49, k50, hq⟩ := bnd_some hq
      refine xi_callV (as := [.int a]) (rest := []) dX12_look_128 (KX12_core G Gb a _ _ _ k50) mkX12_core w_1249 ws_62 w_1247 (mem_get sh_149) rfl rfl rfl rfl (Nat.le_of_ble_eq_true rfl) (Nat.le_of_ble_eq_true rfl) (Nat.le_of_ble_eq_true rfl) (Nat.le_of_ble_eq_true rfl) (Nat.le_of_ble_eq_true rfl) ?_
      intro v M2 hz
      obtain ⟨rfl, rfl⟩ := hz
      show xW _ _ _ _ 131 _ [.int v48] (mem t49 Gb) _ _
      have r51 := some_pair hq
      obtain ⟨rfl, rfl⟩ := r51
      exact xi_iret dX12_look_131 rfl rfl (Nat.le_of_ble_eq_true rfl) (Nat.le_of_ble_eq_true rfl) ⟨rfl, rfl⟩
    · replace hq := ite_p c9 hq
      refine xi_bipush (v := (-2)) dX12_look_20 (by decide) ?_
      have r52 := some_pair hq
      obtain ⟨rfl, rfl⟩ := r52
      exact xi_iret dX12_look_22 rfl rfl (Nat.le_of_ble_eq_true rfl) (Nat.le_of_ble_eq_true rfl) ⟨rfl, rfl⟩
noncomputable def SX12_merges_54 (w1 : Int32) (w4 : Int32) (w5 : Int32) (w6 : Int32) (c : Int32) (σ : St) : Option (((Int32) ⊕ (Unit)) × St) :=
  (if (81 : Int32) ≤ c then (some (Sum.inr (), σ)) else (chk (inb c 81) (wrb σ 161 (c.toNatClampNeg) (0 : Int32) (fun t17 => (some (Sum.inl (c + 1), t17))))))
noncomputable def SX12_merges_88 (w1 : Int32) (w4 : Int32) (w5 : Int32) (w6 : Int32) (w7 : Int32) (c : Int32) (σ : St) : Option (((Int32) ⊕ (Unit)) × St) :=
  (if w6 ≤ c then (some (Sum.inr (), σ)) else (bnd (if w7 = w5 then (some (w4, σ)) else (if w7 ≤ w5 then (some (w7, σ)) else (some ((w7 - (1 : Int32)), σ)))) (fun v26 t27 => (bnd (if c = w5 then (some (w4, t27)) else (if c ≤ w5 then (some (c, t27)) else (some ((c - (1 : Int32)), t27)))) (fun v31 t32 => (bnd (if v26 = v31 then (some ((0 : Int32), t32)) else (chk (inb (((9 : Int32) * v26) + v31) 81) (rdb t32 161 ((((9 : Int32) * v26) + v31).toNatClampNeg) (fun v44 => (bnd (FX12_weight w1 w7 c t32) (fun v46 t47 => (some ((mnI (9 : Int32) (v44 + v46)), t47)))))))) (fun v36 t37 => (chk (inb (((9 : Int32) * v26) + v31) 81) (wrb t37 161 ((((9 : Int32) * v26) + v31).toNatClampNeg) v36 (fun t41 => (some (Sum.inl (c + 1), t41))))))))))))
noncomputable def SX12_merges_78 (w1 : Int32) (w4 : Int32) (w5 : Int32) (w6 : Int32) (c : Int32) (σ : St) : Option (((Int32) ⊕ (Unit)) × St) :=
  (if w6 ≤ c then (some (Sum.inr (), σ)) else (bnd (wh (SX12_merges_88 w1 w4 w5 w6 c) (0 : Int32) σ) (fun e51 t52 => (some (Sum.inl (c + 1), t52)))))
noncomputable def SX12_merges_223 (w1 : Int32) (w5 : Int32) (w6 : Int32) (c : Int32 × Int32) (σ : St) : Option (((Int32 × Int32) ⊕ (Unit)) × St) :=
  (if w6 ≤ c.2 then (some (Sum.inr (), σ)) else (bnd (FX12_at w1 c.2 σ) (fun v60 t61 => (bnd (if v60 = w5 then (some (c.1, t61)) else (bnd (if v60 ≤ w5 then (some (v60, t61)) else (some ((v60 - (1 : Int32)), t61))) (fun v69 t70 => (chk (inb c.1 9) (wrb t70 154 (c.1.toNatClampNeg) v69 (fun t74 => (some ((c.1 + 1), t74)))))))) (fun v64 t65 => (some (Sum.inl (v64, (c.2 + 1)), t65)))))))
noncomputable def SX12_merges_299 (w1 : Int32) (w6 : Int32) (c : Int32) (σ : St) : Option (((Int32) ⊕ (Unit)) × St) :=
  (if (81 : Int32) ≤ c then (some (Sum.inr (), σ)) else (chk (inb c 81) (rdb σ 161 (c.toNatClampNeg) (fun v88 => (chk (inb ((((91 : Int32) * w1) + (1 : Int32)) + c) 273) (wrb σ 150 (((((91 : Int32) * w1) + (1 : Int32)) + c).toNatClampNeg) v88 (fun t91 => (some (Sum.inl (c + 1), t91)))))))))
noncomputable def SX12_merges_336 (w1 : Int32) (w6 : Int32) (c : Int32) (σ : St) : Option (((Int32) ⊕ (Unit)) × St) :=
  (if (w6 - (1 : Int32)) ≤ c then (some (Sum.inr (), σ)) else (chk (inb c 9) (rdb σ 154 (c.toNatClampNeg) (fun v99 => (bnd (FX12_puts w1 c v99 σ) (fun v101 t102 => (some (Sum.inl (c + 1), t102))))))))
set_option maxHeartbeats 4000000 in
set_option maxRecDepth 100000 in
theorem SX12_merges_54_w (G : xG) (Gb : xMem) (w1 : Int32) (w4 : Int32) (w5 : Int32) (w6 : Int32) (r0 : Int32) (t0 : St) :
    ∀ (k : Nat) (c : Int32) (σ : St) (r : Unit) (σ' : St), itr (SX12_merges_54 w1 w4 w5 w6) k c σ = some (r, σ') → (xW G mX12_merges (xrm 5 0 0) (xQ G (PQ r0 t0 Gb) 0 0) 75 [(0, .ref 149), (1, .int w1), (4, .int w4), (5, .int w5), (6, .int w6)] [] (mem σ' Gb) 0 0) → xW G mX12_merges (xrm 5 0 0) (xQ G (PQ r0 t0 Gb) 0 0) 54 [(0, .ref 149), (1, .int w1), (4, .int w4), (5, .int w5), (6, .int w6), (7, .int c)] [] (mem σ Gb) 0 0 := by
  intro k
  induction k with
  | zero =>
    intro c σ r σ' h
    exact absurd h (itr_zero _ _ _ _)
  | succ k ih =>
    intro c σ r σ' h HE
    obtain ⟨x, s1, hs, h⟩ := itr_succ h
    unfold SX12_merges_54 at hs
    refine xi_iload 5 dX12_merges_54 rfl ?_
    refine xi_bipush (v := 81) dX12_merges_56 (by decide) ?_
    refine xi_icmp_ge (tgt := 75) dX12_merges_58 (by decide) (fun c15 => ?_) (fun c15 => ?_)
    · replace hs := ite_p c15 hs
      refine xi_sub (lv' := [(0, .ref 149), (1, .int w1), (4, .int w4), (5, .int w5), (6, .int w6)]) [0, 1, 2, 3, 4] rfl ?_
      obtain ⟨rfl, rfl⟩ := some_pair hs
      obtain ⟨rfl, rfl⟩ := some_pair h
      exact HE
    · replace hs := ite_n c15 hs
      refine xi_aload_n 0 dX12_merges_61 rfl ?_
      refine yi_getR (f := 23) dX12_merges_62 sh_149 rfl ok_9 (by decide) w_1031 rfl ?_
      refine xi_iload 5 dX12_merges_65 rfl ?_
      refine xi_iconst (v := 0) dX12_merges_67 (by decide) ?_
      obtain ⟨g16, hs⟩ := chk_some hs
      obtain ⟨t17, h18, hs⟩ := wrb_some hs
      refine yi_iastoreV dX12_merges_68 sh_161 g16 h18 ?_
      refine xi_iinc (v := (c + 1)) (lv' := [(7, .int (c + 1)), (0, .ref 149), (1, .int w1), (4, .int w4), (5, .int w5), (6, .int w6)]) 5 dX12_merges_69 rfl rfl (by decide) rfl ?_
      refine xi_goto (tgt := 54) dX12_merges_72 (by decide) ?_
      refine xi_sub (lv' := [(0, .ref 149), (1, .int w1), (4, .int w4), (5, .int w5), (6, .int w6), (7, .int (c + 1))]) [1, 2, 3, 4, 5, 0] rfl ?_
      obtain ⟨rfl, rfl⟩ := some_pair hs
      exact ih (c + 1) t17 _ _ h HE
set_option maxHeartbeats 4000000 in
set_option maxRecDepth 100000 in
theorem SX12_merges_88_w (G : xG) (Gb : xMem) (w1 : Int32) (w4 : Int32) (w5 : Int32) (w6 : Int32) (w7 : Int32) (r0 : Int32) (t0 : St) :
    ∀ (k : Nat) (c : Int32) (σ : St) (r : Unit) (σ' : St), itr (SX12_merges_88 w1 w4 w5 w6 w7) k c σ = some (r, σ') → (xW G mX12_merges (xrm 5 0 0) (xQ G (PQ r0 t0 Gb) 0 0) 211 [(0, .ref 149), (1, .int w1), (4, .int w4), (5, .int w5), (6, .int w6), (7, .int w7)] [] (mem σ' Gb) 0 0) → xW G mX12_merges (xrm 5 0 0) (xQ G (PQ r0 t0 Gb) 0 0) 88 [(0, .ref 149), (1, .int w1), (4, .int w4), (5, .int w5), (6, .int w6), (7, .int w7), (8, .int c)] [] (mem σ Gb) 0 0 := by
  intro k
  induction k with
  | zero =>
    intro c σ r σ' h
    exact absurd h (itr_zero _ _ _ _)
  | succ k ih =>
    intro c σ r σ' h HE
    obtain ⟨x, s1, hs, h⟩ := itr_succ h
    unfold SX12_merges_88 at hs
    refine xi_iload 6 dX12_merges_88 rfl ?_
    refine xi_iload 4 dX12_merges_90 rfl ?_
    refine xi_icmp_ge (tgt := 211) dX12_merges_92 (by decide) (fun c24 => ?_) (fun c24 => ?_)
    · replace hs := ite_p c24 hs
      refine xi_sub (lv' := [(0, .ref 149), (1, .int w1), (4, .int w4), (5, .int w5), (6, .int w6), (7, .int w7)]) [0, 1, 2, 3, 4, 5] rfl ?_
      obtain ⟨rfl, rfl⟩ := some_pair hs
      obtain ⟨rfl, rfl⟩ := some_pair h
      exact HE
    · replace hs := ite_n c24 hs
      refine xi_iload 5 dX12_merges_95 rfl ?_
      refine xi_iload 3 dX12_merges_97 rfl ?_
      obtain ⟨v26, t27, m28, hs⟩ := bnd_some hs
      have key29 : xW G mX12_merges (xrm 5 0 0) (xQ G (PQ r0 t0 Gb) 0 0) 123 [(0, .ref 149), (1, .int w1), (4, .int w4), (5, .int w5), (6, .int w6), (7, .int w7), (8, .int c)] [.int v26] (mem t27 Gb) 0 0 := by
        refine xi_istore (lv' := [(9, .int v26), (0, .ref 149), (1, .int w1), (4, .int w4), (5, .int w5), (6, .int w6), (7, .int w7), (8, .int c)]) dX12_merges_123 (by decide) rfl ?_
        refine xi_iload 7 dX12_merges_125 rfl ?_
        refine xi_iload 4 dX12_merges_127 rfl ?_
        obtain ⟨v31, t32, m33, hs⟩ := bnd_some hs
        have key34 : xW G mX12_merges (xrm 5 0 0) (xQ G (PQ r0 t0 Gb) 0 0) 153 [(0, .ref 149), (1, .int w1), (4, .int w4), (5, .int w5), (6, .int w6), (7, .int w7), (8, .int c), (9, .int v26)] [.int v31] (mem t32 Gb) 0 0 := by
          refine xi_istore (lv' := [(10, .int v31), (0, .ref 149), (1, .int w1), (4, .int w4), (5, .int w5), (6, .int w6), (7, .int w7), (8, .int c), (9, .int v26)]) dX12_merges_153 (by decide) rfl ?_
          refine xi_bipush (v := 9) dX12_merges_155 (by decide) ?_
          refine xi_iload 8 dX12_merges_157 rfl ?_
          refine xi_imul (v := (9 : Int32) * v26) dX12_merges_159 rfl ?_
          refine xi_iload 0 dX12_merges_160 rfl ?_
          refine xi_iadd (v := ((9 : Int32) * v26) + v31) dX12_merges_162 rfl ?_
          refine xi_istore (lv' := [(11, .int (((9 : Int32) * v26) + v31)), (10, .int v31), (0, .ref 149), (1, .int w1), (4, .int w4), (5, .int w5), (6, .int w6), (7, .int w7), (8, .int c), (9, .int v26)]) dX12_merges_163 (by decide) rfl ?_
          refine xi_aload_n 2 dX12_merges_165 rfl ?_
          refine yi_getR (f := 23) dX12_merges_166 sh_149 rfl ok_9 (by decide) w_1031 rfl ?_
          refine xi_iload 0 dX12_merges_169 rfl ?_
          refine xi_iload 9 dX12_merges_171 rfl ?_
          refine xi_iload 1 dX12_merges_173 rfl ?_
          obtain ⟨v36, t37, m38, hs⟩ := bnd_some hs
          have key39 : xW G mX12_merges (xrm 5 0 0) (xQ G (PQ r0 t0 Gb) 0 0) 204 [(0, .ref 149), (1, .int w1), (4, .int w4), (5, .int w5), (6, .int w6), (7, .int w7), (8, .int c)] [.int v36, .int (((9 : Int32) * v26) + v31), .ref 161] (mem t37 Gb) 0 0 := by
            obtain ⟨g40, hs⟩ := chk_some hs
            obtain ⟨t41, h42, hs⟩ := wrb_some hs
            refine yi_iastoreV dX12_merges_204 sh_161 g40 h42 ?_
            refine xi_iinc (v := (c + 1)) (lv' := [(8, .int (c + 1)), (0, .ref 149), (1, .int w1), (4, .int w4), (5, .int w5), (6, .int w6), (7, .int w7)]) 6 dX12_merges_205 rfl rfl (by decide) rfl ?_
            refine xi_goto (tgt := 88) dX12_merges_208 (by decide) ?_
            refine xi_sub (lv' := [(0, .ref 149), (1, .int w1), (4, .int w4), (5, .int w5), (6, .int w6), (7, .int w7), (8, .int (c + 1))]) [1, 2, 3, 4, 5, 6, 0] rfl ?_
            obtain ⟨rfl, rfl⟩ := some_pair hs
            exact ih (c + 1) t41 _ _ h HE
          refine xi_icmp_ne (tgt := 182) dX12_merges_175 (by decide) (fun c35 => ?_) (fun c35 => ?_)
          · replace m38 := ite_n c35 m38
            refine xi_bipush (v := 9) dX12_merges_182 (by decide) ?_
            refine xi_aload_n 2 dX12_merges_184 rfl ?_
            refine yi_getR (f := 23) dX12_merges_185 sh_149 rfl ok_9 (by decide) w_1031 rfl ?_
            refine xi_iload 0 dX12_merges_188 rfl ?_
            obtain ⟨g43, m38⟩ := chk_some m38
            obtain ⟨v44, h45, m38⟩ := rdb_some m38
            refine yi_ialoadV dX12_merges_190 sh_161 g43 h45 ?_
            refine xi_aload_n 2 dX12_merges_191 rfl ?_
            refine xi_iload_n 3 dX12_merges_192 rfl ?_
            refine xi_iload 7 dX12_merges_193 rfl ?_
            refine xi_iload 8 dX12_merges_195 rfl ?_
            obtain ⟨v46, t47, k48, m38⟩ := bnd_some m38
            refine xi_callV (as := [.int w1, .int w7, .int c]) (rest := [.int v44, .int 9, .int (((9 : Int32) * v26) + v31), .ref 161]) dX12_merges_197 (KX12_weight G Gb w1 w7 c _ _ _ k48) mkX12_weight w_1192 ws_53 w_1190 (mem_get sh_149) rfl rfl rfl rfl (Nat.le_of_ble_eq_true rfl) (Nat.le_of_ble_eq_true rfl) (Nat.le_of_ble_eq_true rfl) (Nat.le_of_ble_eq_true rfl) (Nat.le_of_ble_eq_true rfl) ?_
            intro v M2 hz
            obtain ⟨rfl, rfl⟩ := hz
            show xW _ _ _ _ 200 _ [.int v46, .int v44, .int 9, .int (((9 : Int32) * v26) + v31), .ref 161] (mem t47 Gb) _ _
            refine xi_iadd (v := v44 + v46) dX12_merges_200 rfl ?_
            refine xi_min (v := (mnI (9 : Int32) (v44 + v46))) dX12_merges_201 w_1142 w_385 w_3 w_mmin (Nat.le_of_ble_eq_true rfl) (Nat.le_of_ble_eq_true rfl) (Nat.le_of_ble_eq_true rfl) (Nat.le_of_ble_eq_true rfl) (Nat.le_of_ble_eq_true rfl) rfl ?_
            obtain ⟨rfl, rfl⟩ := some_pair m38
            refine xi_sub (lv' := [(0, .ref 149), (1, .int w1), (4, .int w4), (5, .int w5), (6, .int w6), (7, .int w7), (8, .int c)]) [2, 3, 4, 5, 6, 7, 8] rfl ?_
            exact key39
          · replace m38 := ite_p c35 m38
            refine xi_iconst (v := 0) dX12_merges_178 (by decide) ?_
            refine xi_goto (tgt := 204) dX12_merges_179 (by decide) ?_
            obtain ⟨rfl, rfl⟩ := some_pair m38
            refine xi_sub (lv' := [(0, .ref 149), (1, .int w1), (4, .int w4), (5, .int w5), (6, .int w6), (7, .int w7), (8, .int c)]) [2, 3, 4, 5, 6, 7, 8] rfl ?_
            exact key39
        refine xi_icmp_ne (tgt := 137) dX12_merges_129 (by decide) (fun c30 => ?_) (fun c30 => ?_)
        · replace m33 := ite_n c30 m33
          refine xi_iload 7 dX12_merges_137 rfl ?_
          refine xi_iload 4 dX12_merges_139 rfl ?_
          refine xi_icmp_le (tgt := 151) dX12_merges_141 (by decide) (fun c49 => ?_) (fun c49 => ?_)
          · replace m33 := ite_p c49 m33
            refine xi_iload 7 dX12_merges_151 rfl ?_
            obtain ⟨rfl, rfl⟩ := some_pair m33
            refine xi_sub (lv' := [(0, .ref 149), (1, .int w1), (4, .int w4), (5, .int w5), (6, .int w6), (7, .int w7), (8, .int c), (9, .int v26)]) [1, 2, 3, 4, 5, 6, 7, 0] rfl ?_
            exact key34
          · replace m33 := ite_n c49 m33
            refine xi_iload 7 dX12_merges_144 rfl ?_
            refine xi_iconst (v := 1) dX12_merges_146 (by decide) ?_
            refine xi_isub (v := c - (1 : Int32)) dX12_merges_147 rfl ?_
            refine xi_goto (tgt := 153) dX12_merges_148 (by decide) ?_
            obtain ⟨rfl, rfl⟩ := some_pair m33
            refine xi_sub (lv' := [(0, .ref 149), (1, .int w1), (4, .int w4), (5, .int w5), (6, .int w6), (7, .int w7), (8, .int c), (9, .int v26)]) [1, 2, 3, 4, 5, 6, 7, 0] rfl ?_
            exact key34
        · replace m33 := ite_p c30 m33
          refine xi_iload 3 dX12_merges_132 rfl ?_
          refine xi_goto (tgt := 153) dX12_merges_134 (by decide) ?_
          obtain ⟨rfl, rfl⟩ := some_pair m33
          refine xi_sub (lv' := [(0, .ref 149), (1, .int w1), (4, .int w4), (5, .int w5), (6, .int w6), (7, .int w7), (8, .int c), (9, .int v26)]) [1, 2, 3, 4, 5, 6, 7, 0] rfl ?_
          exact key34
      refine xi_icmp_ne (tgt := 107) dX12_merges_99 (by decide) (fun c25 => ?_) (fun c25 => ?_)
      · replace m28 := ite_n c25 m28
        refine xi_iload 5 dX12_merges_107 rfl ?_
        refine xi_iload 3 dX12_merges_109 rfl ?_
        refine xi_icmp_le (tgt := 121) dX12_merges_111 (by decide) (fun c50 => ?_) (fun c50 => ?_)
        · replace m28 := ite_p c50 m28
          refine xi_iload 5 dX12_merges_121 rfl ?_
          obtain ⟨rfl, rfl⟩ := some_pair m28
          exact key29
        · replace m28 := ite_n c50 m28
          refine xi_iload 5 dX12_merges_114 rfl ?_
          refine xi_iconst (v := 1) dX12_merges_116 (by decide) ?_
          refine xi_isub (v := w7 - (1 : Int32)) dX12_merges_117 rfl ?_
          refine xi_goto (tgt := 123) dX12_merges_118 (by decide) ?_
          obtain ⟨rfl, rfl⟩ := some_pair m28
          exact key29
      · replace m28 := ite_p c25 m28
        refine xi_iload 2 dX12_merges_102 rfl ?_
        refine xi_goto (tgt := 123) dX12_merges_104 (by decide) ?_
        obtain ⟨rfl, rfl⟩ := some_pair m28
        exact key29
set_option maxHeartbeats 4000000 in
set_option maxRecDepth 100000 in
theorem SX12_merges_78_w (G : xG) (Gb : xMem) (w1 : Int32) (w4 : Int32) (w5 : Int32) (w6 : Int32) (r0 : Int32) (t0 : St) :
    ∀ (k : Nat) (c : Int32) (σ : St) (r : Unit) (σ' : St), itr (SX12_merges_78 w1 w4 w5 w6) k c σ = some (r, σ') → (xW G mX12_merges (xrm 5 0 0) (xQ G (PQ r0 t0 Gb) 0 0) 217 [(0, .ref 149), (1, .int w1), (5, .int w5), (6, .int w6)] [] (mem σ' Gb) 0 0) → xW G mX12_merges (xrm 5 0 0) (xQ G (PQ r0 t0 Gb) 0 0) 78 [(0, .ref 149), (1, .int w1), (4, .int w4), (5, .int w5), (6, .int w6), (7, .int c)] [] (mem σ Gb) 0 0 := by
  intro k
  induction k with
  | zero =>
    intro c σ r σ' h
    exact absurd h (itr_zero _ _ _ _)
  | succ k ih =>
    intro c σ r σ' h HE
    obtain ⟨x, s1, hs, h⟩ := itr_succ h
    unfold SX12_merges_78 at hs
    refine xi_iload 5 dX12_merges_78 rfl ?_
    refine xi_iload 4 dX12_merges_80 rfl ?_
    refine xi_icmp_ge (tgt := 217) dX12_merges_82 (by decide) (fun c23 => ?_) (fun c23 => ?_)
    · replace hs := ite_p c23 hs
      refine xi_sub (lv' := [(0, .ref 149), (1, .int w1), (5, .int w5), (6, .int w6)]) [0, 1, 3, 4] rfl ?_
      obtain ⟨rfl, rfl⟩ := some_pair hs
      obtain ⟨rfl, rfl⟩ := some_pair h
      exact HE
    · replace hs := ite_n c23 hs
      refine xi_iconst (v := 0) dX12_merges_85 (by decide) ?_
      refine xi_istore (lv' := [(8, .int 0), (0, .ref 149), (1, .int w1), (4, .int w4), (5, .int w5), (6, .int w6), (7, .int c)]) dX12_merges_86 (by decide) rfl ?_
      refine xi_sub (lv' := [(0, .ref 149), (1, .int w1), (4, .int w4), (5, .int w5), (6, .int w6), (7, .int c), (8, .int 0)]) [1, 2, 3, 4, 5, 6, 0] rfl ?_
      obtain ⟨e51, t52, k53, hs⟩ := bnd_some hs
      obtain ⟨n54, k53⟩ := wh_itr k53
      refine SX12_merges_88_w G Gb w1 w4 w5 w6 c r0 t0 n54 (0 : Int32) σ _ _ k53 ?_
      show xW G mX12_merges (xrm 5 0 0) (xQ G (PQ r0 t0 Gb) 0 0) 211 [(0, .ref 149), (1, .int w1), (4, .int w4), (5, .int w5), (6, .int w6), (7, .int c)] [] (mem t52 Gb) 0 0
      refine xi_iinc (v := (c + 1)) (lv' := [(7, .int (c + 1)), (0, .ref 149), (1, .int w1), (4, .int w4), (5, .int w5), (6, .int w6)]) 5 dX12_merges_211 rfl rfl (by decide) rfl ?_
      refine xi_goto (tgt := 78) dX12_merges_214 (by decide) ?_
      refine xi_sub (lv' := [(0, .ref 149), (1, .int w1), (4, .int w4), (5, .int w5), (6, .int w6), (7, .int (c + 1))]) [1, 2, 3, 4, 5, 0] rfl ?_
      obtain ⟨rfl, rfl⟩ := some_pair hs
      exact ih (c + 1) t52 _ _ h HE
set_option maxHeartbeats 4000000 in
set_option maxRecDepth 100000 in
theorem SX12_merges_223_w (G : xG) (Gb : xMem) (w1 : Int32) (w5 : Int32) (w6 : Int32) (r0 : Int32) (t0 : St) :
    ∀ (k : Nat) (c : Int32 × Int32) (σ : St) (r : Unit) (σ' : St), itr (SX12_merges_223 w1 w5 w6) k c σ = some (r, σ') → (xW G mX12_merges (xrm 5 0 0) (xQ G (PQ r0 t0 Gb) 0 0) 278 [(0, .ref 149), (1, .int w1), (6, .int w6)] [] (mem σ' Gb) 0 0) → xW G mX12_merges (xrm 5 0 0) (xQ G (PQ r0 t0 Gb) 0 0) 223 [(0, .ref 149), (1, .int w1), (5, .int w5), (6, .int w6), (7, .int c.1), (8, .int c.2)] [] (mem σ Gb) 0 0 := by
  intro k
  induction k with
  | zero =>
    intro c σ r σ' h
    exact absurd h (itr_zero _ _ _ _)
  | succ k ih =>
    intro c σ r σ' h HE
    obtain ⟨x, s1, hs, h⟩ := itr_succ h
    unfold SX12_merges_223 at hs
    refine xi_iload 5 dX12_merges_223 rfl ?_
    refine xi_iload 3 dX12_merges_225 rfl ?_
    refine xi_icmp_ge (tgt := 278) dX12_merges_227 (by decide) (fun c59 => ?_) (fun c59 => ?_)
    · replace hs := ite_p c59 hs
      refine xi_sub (lv' := [(0, .ref 149), (1, .int w1), (6, .int w6)]) [0, 1, 3] rfl ?_
      obtain ⟨rfl, rfl⟩ := some_pair hs
      obtain ⟨rfl, rfl⟩ := some_pair h
      exact HE
    · replace hs := ite_n c59 hs
      refine xi_aload_n 0 dX12_merges_230 rfl ?_
      refine xi_iload_n 1 dX12_merges_231 rfl ?_
      refine xi_iload 5 dX12_merges_232 rfl ?_
      obtain ⟨v60, t61, k62, hs⟩ := bnd_some hs
      refine xi_callV (as := [.int w1, .int c.2]) (rest := []) dX12_merges_234 (KX12_at G Gb w1 c.2 _ _ _ k62) mkX12_at w_1273 ws_64 w_1271 (mem_get sh_149) rfl rfl rfl rfl (Nat.le_of_ble_eq_true rfl) (Nat.le_of_ble_eq_true rfl) (Nat.le_of_ble_eq_true rfl) (Nat.le_of_ble_eq_true rfl) (Nat.le_of_ble_eq_true rfl) ?_
      intro v M2 hz
      obtain ⟨rfl, rfl⟩ := hz
      show xW _ _ _ _ 237 _ [.int v60] (mem t61 Gb) _ _
      refine xi_istore (lv' := [(9, .int v60), (0, .ref 149), (1, .int w1), (5, .int w5), (6, .int w6), (7, .int c.1), (8, .int c.2)]) dX12_merges_237 (by decide) rfl ?_
      refine xi_iload 0 dX12_merges_239 rfl ?_
      refine xi_iload 3 dX12_merges_241 rfl ?_
      obtain ⟨v64, t65, m66, hs⟩ := bnd_some hs
      have key67 : xW G mX12_merges (xrm 5 0 0) (xQ G (PQ r0 t0 Gb) 0 0) 272 [(0, .ref 149), (1, .int w1), (5, .int w5), (6, .int w6), (7, .int v64), (8, .int c.2)] [] (mem t65 Gb) 0 0 := by
        refine xi_iinc (v := (c.2 + 1)) (lv' := [(8, .int (c.2 + 1)), (0, .ref 149), (1, .int w1), (5, .int w5), (6, .int w6), (7, .int v64)]) 5 dX12_merges_272 rfl rfl (by decide) rfl ?_
        refine xi_goto (tgt := 223) dX12_merges_275 (by decide) ?_
        refine xi_sub (lv' := [(0, .ref 149), (1, .int w1), (5, .int w5), (6, .int w6), (7, .int v64), (8, .int (c.2 + 1))]) [1, 2, 3, 4, 5, 0] rfl ?_
        obtain ⟨rfl, rfl⟩ := some_pair hs
        exact ih (v64, (c.2 + 1)) t65 _ _ h HE
      refine xi_icmp_eq (tgt := 272) dX12_merges_243 (by decide) (fun c63 => ?_) (fun c63 => ?_)
      · replace m66 := ite_p c63 m66
        obtain ⟨rfl, rfl⟩ := some_pair m66
        refine xi_sub (lv' := [(0, .ref 149), (1, .int w1), (5, .int w5), (6, .int w6), (7, .int c.1), (8, .int c.2)]) [1, 2, 3, 4, 5, 6] rfl ?_
        exact key67
      · replace m66 := ite_n c63 m66
        refine xi_aload_n 1 dX12_merges_246 rfl ?_
        refine yi_getR (f := 13) dX12_merges_247 sh_149 rfl ok_9 (by decide) w_1021 rfl ?_
        refine xi_iload 5 dX12_merges_250 rfl ?_
        refine xi_iload 0 dX12_merges_252 rfl ?_
        refine xi_iload 3 dX12_merges_254 rfl ?_
        obtain ⟨v69, t70, m71, m66⟩ := bnd_some m66
        have key72 : xW G mX12_merges (xrm 5 0 0) (xQ G (PQ r0 t0 Gb) 0 0) 268 [(0, .ref 149), (1, .int w1), (5, .int w5), (6, .int w6), (7, .int c.1), (8, .int c.2)] [.int v69, .int c.1, .ref 154] (mem t70 Gb) 0 0 := by
          obtain ⟨g73, m66⟩ := chk_some m66
          obtain ⟨t74, h75, m66⟩ := wrb_some m66
          refine yi_iastoreV dX12_merges_268 sh_154 g73 h75 ?_
          refine xi_iinc (v := (c.1 + 1)) (lv' := [(7, .int (c.1 + 1)), (0, .ref 149), (1, .int w1), (5, .int w5), (6, .int w6), (8, .int c.2)]) 4 dX12_merges_269 rfl rfl (by decide) rfl ?_
          obtain ⟨rfl, rfl⟩ := some_pair m66
          refine xi_sub (lv' := [(0, .ref 149), (1, .int w1), (5, .int w5), (6, .int w6), (7, .int (c.1 + 1)), (8, .int c.2)]) [1, 2, 3, 4, 0, 5] rfl ?_
          exact key67
        refine xi_icmp_le (tgt := 266) dX12_merges_256 (by decide) (fun c68 => ?_) (fun c68 => ?_)
        · replace m71 := ite_p c68 m71
          refine xi_iload 0 dX12_merges_266 rfl ?_
          obtain ⟨rfl, rfl⟩ := some_pair m71
          refine xi_sub (lv' := [(0, .ref 149), (1, .int w1), (5, .int w5), (6, .int w6), (7, .int c.1), (8, .int c.2)]) [1, 2, 3, 4, 5, 6] rfl ?_
          exact key72
        · replace m71 := ite_n c68 m71
          refine xi_iload 0 dX12_merges_259 rfl ?_
          refine xi_iconst (v := 1) dX12_merges_261 (by decide) ?_
          refine xi_isub (v := v60 - (1 : Int32)) dX12_merges_262 rfl ?_
          refine xi_goto (tgt := 268) dX12_merges_263 (by decide) ?_
          obtain ⟨rfl, rfl⟩ := some_pair m71
          refine xi_sub (lv' := [(0, .ref 149), (1, .int w1), (5, .int w5), (6, .int w6), (7, .int c.1), (8, .int c.2)]) [1, 2, 3, 4, 5, 6] rfl ?_
          exact key72
set_option maxHeartbeats 4000000 in
set_option maxRecDepth 100000 in
theorem SX12_merges_299_w (G : xG) (Gb : xMem) (w1 : Int32) (w6 : Int32) (r0 : Int32) (t0 : St) :
    ∀ (k : Nat) (c : Int32) (σ : St) (r : Unit) (σ' : St), itr (SX12_merges_299 w1 w6) k c σ = some (r, σ') → (xW G mX12_merges (xrm 5 0 0) (xQ G (PQ r0 t0 Gb) 0 0) 333 [(0, .ref 149), (1, .int w1), (6, .int w6)] [] (mem σ' Gb) 0 0) → xW G mX12_merges (xrm 5 0 0) (xQ G (PQ r0 t0 Gb) 0 0) 299 [(0, .ref 149), (1, .int w1), (6, .int w6), (8, .int c)] [] (mem σ Gb) 0 0 := by
  intro k
  induction k with
  | zero =>
    intro c σ r σ' h
    exact absurd h (itr_zero _ _ _ _)
  | succ k ih =>
    intro c σ r σ' h HE
    obtain ⟨x, s1, hs, h⟩ := itr_succ h
    unfold SX12_merges_299 at hs
    refine xi_iload 3 dX12_merges_299 rfl ?_
    refine xi_bipush (v := 81) dX12_merges_301 (by decide) ?_
    refine xi_icmp_ge (tgt := 333) dX12_merges_303 (by decide) (fun c86 => ?_) (fun c86 => ?_)
    · replace hs := ite_p c86 hs
      refine xi_sub (lv' := [(0, .ref 149), (1, .int w1), (6, .int w6)]) [0, 1, 2] rfl ?_
      obtain ⟨rfl, rfl⟩ := some_pair hs
      obtain ⟨rfl, rfl⟩ := some_pair h
      exact HE
    · replace hs := ite_n c86 hs
      refine xi_aload_n 0 dX12_merges_306 rfl ?_
      refine yi_getR (f := 0) dX12_merges_307 sh_149 rfl ok_9 (by decide) w_1008 rfl ?_
      refine xi_bipush (v := 91) dX12_merges_310 (by decide) ?_
      refine xi_iload_n 1 dX12_merges_312 rfl ?_
      refine xi_imul (v := (91 : Int32) * w1) dX12_merges_313 rfl ?_
      refine xi_iconst (v := 1) dX12_merges_314 (by decide) ?_
      refine xi_iadd (v := ((91 : Int32) * w1) + (1 : Int32)) dX12_merges_315 rfl ?_
      refine xi_iload 3 dX12_merges_316 rfl ?_
      refine xi_iadd (v := (((91 : Int32) * w1) + (1 : Int32)) + c) dX12_merges_318 rfl ?_
      refine xi_aload_n 0 dX12_merges_319 rfl ?_
      refine yi_getR (f := 23) dX12_merges_320 sh_149 rfl ok_9 (by decide) w_1031 rfl ?_
      refine xi_iload 3 dX12_merges_323 rfl ?_
      obtain ⟨g87, hs⟩ := chk_some hs
      obtain ⟨v88, h89, hs⟩ := rdb_some hs
      refine yi_ialoadV dX12_merges_325 sh_161 g87 h89 ?_
      obtain ⟨g90, hs⟩ := chk_some hs
      obtain ⟨t91, h92, hs⟩ := wrb_some hs
      refine yi_iastoreV dX12_merges_326 sh_150 g90 h92 ?_
      refine xi_iinc (v := (c + 1)) (lv' := [(8, .int (c + 1)), (0, .ref 149), (1, .int w1), (6, .int w6)]) 3 dX12_merges_327 rfl rfl (by decide) rfl ?_
      refine xi_goto (tgt := 299) dX12_merges_330 (by decide) ?_
      refine xi_sub (lv' := [(0, .ref 149), (1, .int w1), (6, .int w6), (8, .int (c + 1))]) [1, 2, 3, 0] rfl ?_
      obtain ⟨rfl, rfl⟩ := some_pair hs
      exact ih (c + 1) t91 _ _ h HE
set_option maxHeartbeats 4000000 in
set_option maxRecDepth 100000 in
theorem SX12_merges_336_w (G : xG) (Gb : xMem) (w1 : Int32) (w6 : Int32) (r0 : Int32) (t0 : St) :
    ∀ (k : Nat) (c : Int32) (σ : St) (r : Unit) (σ' : St), itr (SX12_merges_336 w1 w6) k c σ = some (r, σ') → (xW G mX12_merges (xrm 5 0 0) (xQ G (PQ r0 t0 Gb) 0 0) 365 [(0, .ref 149), (6, .int w6)] [] (mem σ' Gb) 0 0) → xW G mX12_merges (xrm 5 0 0) (xQ G (PQ r0 t0 Gb) 0 0) 336 [(0, .ref 149), (1, .int w1), (6, .int w6), (8, .int c)] [] (mem σ Gb) 0 0 := by
  intro k
  induction k with
  | zero =>
    intro c σ r σ' h
    exact absurd h (itr_zero _ _ _ _)
  | succ k ih =>
    intro c σ r σ' h HE
    obtain ⟨x, s1, hs, h⟩ := itr_succ h
    unfold SX12_merges_336 at hs
    refine xi_iload 3 dX12_merges_336 rfl ?_
    refine xi_iload 2 dX12_merges_338 rfl ?_
    refine xi_iconst (v := 1) dX12_merges_340 (by decide) ?_
    refine xi_isub (v := w6 - (1 : Int32)) dX12_merges_341 rfl ?_
    refine xi_icmp_ge (tgt := 365) dX12_merges_342 (by decide) (fun c97 => ?_) (fun c97 => ?_)
    · replace hs := ite_p c97 hs
      refine xi_sub (lv' := [(0, .ref 149), (6, .int w6)]) [0, 2] rfl ?_
      obtain ⟨rfl, rfl⟩ := some_pair hs
      obtain ⟨rfl, rfl⟩ := some_pair h
      exact HE
    · replace hs := ite_n c97 hs
      refine xi_aload_n 0 dX12_merges_345 rfl ?_
      refine xi_iload_n 1 dX12_merges_346 rfl ?_
      refine xi_iload 3 dX12_merges_347 rfl ?_
      refine xi_aload_n 0 dX12_merges_349 rfl ?_
      refine yi_getR (f := 13) dX12_merges_350 sh_149 rfl ok_9 (by decide) w_1021 rfl ?_
      refine xi_iload 3 dX12_merges_353 rfl ?_
      obtain ⟨g98, hs⟩ := chk_some hs
      obtain ⟨v99, h100, hs⟩ := rdb_some hs
      refine yi_ialoadV dX12_merges_355 sh_154 g98 h100 ?_
      obtain ⟨v101, t102, k103, hs⟩ := bnd_some hs
      refine xi_callV (as := [.int w1, .int c, .int v99]) (rest := []) dX12_merges_356 (KX12_puts G Gb w1 c v99 _ _ _ k103) mkX12_puts w_1172 ws_48 w_1170 (mem_get sh_149) rfl rfl rfl rfl (Nat.le_of_ble_eq_true rfl) (Nat.le_of_ble_eq_true rfl) (Nat.le_of_ble_eq_true rfl) (Nat.le_of_ble_eq_true rfl) (Nat.le_of_ble_eq_true rfl) ?_
      intro v M2 hz
      obtain ⟨rfl, rfl⟩ := hz
      show xW _ _ _ _ 359 _ [] (mem t102 Gb) _ _
      refine xi_iinc (v := (c + 1)) (lv' := [(8, .int (c + 1)), (0, .ref 149), (1, .int w1), (6, .int w6)]) 3 dX12_merges_359 rfl rfl (by decide) rfl ?_
      refine xi_goto (tgt := 336) dX12_merges_362 (by decide) ?_
      refine xi_sub (lv' := [(0, .ref 149), (1, .int w1), (6, .int w6), (8, .int (c + 1))]) [1, 2, 3, 0] rfl ?_
      obtain ⟨rfl, rfl⟩ := some_pair hs
      exact ih (c + 1) t102 _ _ h HE
noncomputable def FX12_merges (a : Int32) (b : Int32) (c : Int32) (σ : St) : Option ((Int32) × St) :=
  (bnd (FX12_areTwo a b c σ) (fun v1 t2 => (if v1 = (0 : Int32) then (some ((-2 : Int32), t2)) else (bnd (FX12_weight a b c t2) (fun v5 t6 => (if v5 = (0 : Int32) then (some ((-6 : Int32), t6)) else (bnd (FX12_points a t6) (fun v9 t10 => (bnd (FX12_remembers  t10) (fun v12 t13 => (bnd (wh (SX12_merges_54 a (mnI b c) (mxI b c) v9) (0 : Int32) t13) (fun e19 t20 => (bnd (wh (SX12_merges_78 a (mnI b c) (mxI b c) v9) (0 : Int32) t20) (fun e55 t56 => (bnd (wh (SX12_merges_223 a (mxI b c) v9) ((0 : Int32), (0 : Int32)) t56) (fun e76 t77 => (bnd (FX12_empties a t77) (fun v80 t81 => (chk (inb ((91 : Int32) * a) 273) (wrb t81 150 (((91 : Int32) * a).toNatClampNeg) (v9 - (1 : Int32)) (fun t84 => (bnd (wh (SX12_merges_299 a v9) (0 : Int32) t84) (fun e93 t94 => (bnd (wh (SX12_merges_336 a v9) (0 : Int32) t94) (fun e104 t105 => (bnd (FX12_keeps (v9 - (1 : Int32)) t105) (fun v108 t109 => (some (v108, t109)))))))))))))))))))))))))))))
set_option maxHeartbeats 4000000 in
set_option maxRecDepth 100000 in
theorem KX12_merges (G : xG) (Gb : xMem) (a : Int32) (b : Int32) (c : Int32) (σ : St) (r0 : Int32) (t0 : St) (hq : FX12_merges a b c σ = some (r0, t0)) : xC G mX12_merges 5 0 0 [.ref 149, .int a, .int b, .int c] (mem σ Gb) (PQ r0 t0 Gb) := by
  unfold FX12_merges at hq
  refine xC.of (by decide) (Nat.le_of_ble_eq_true rfl) ?_
  show xW _ _ _ _ 0 [(0, .ref 149), (1, .int a), (2, .int b), (3, .int c)] [] _ 0 0
  refine xi_aload_n 0 dX12_merges_0 rfl ?_
  refine xi_iload_n 1 dX12_merges_1 rfl ?_
  refine xi_iload_n 2 dX12_merges_2 rfl ?_
  refine xi_iload_n 3 dX12_merges_3 rfl ?_
  obtain ⟨v1, t2, k3, hq⟩ := bnd_some hq
  refine xi_callV (as := [.int a, .int b, .int c]) (rest := []) dX12_merges_4 (KX12_areTwo G Gb a b c _ _ _ k3) mkX12_areTwo w_1500 ws_90 w_1498 (mem_get sh_149) rfl rfl rfl rfl (Nat.le_of_ble_eq_true rfl) (Nat.le_of_ble_eq_true rfl) (Nat.le_of_ble_eq_true rfl) (Nat.le_of_ble_eq_true rfl) (Nat.le_of_ble_eq_true rfl) ?_
  intro v M2 hz
  obtain ⟨rfl, rfl⟩ := hz
  show xW _ _ _ _ 7 _ [.int v1] (mem t2 Gb) _ _
  refine xi_if_ne (tgt := 13) dX12_merges_7 (by decide) (fun c4 => ?_) (fun c4 => ?_)
  · replace hq := ite_n c4 hq
    refine xi_aload_n 0 dX12_merges_13 rfl ?_
    refine xi_iload_n 1 dX12_merges_14 rfl ?_
    refine xi_iload_n 2 dX12_merges_15 rfl ?_
    refine xi_iload_n 3 dX12_merges_16 rfl ?_
    obtain ⟨v5, t6, k7, hq⟩ := bnd_some hq
    refine xi_callV (as := [.int a, .int b, .int c]) (rest := []) dX12_merges_17 (KX12_weight G Gb a b c _ _ _ k7) mkX12_weight w_1192 ws_53 w_1190 (mem_get sh_149) rfl rfl rfl rfl (Nat.le_of_ble_eq_true rfl) (Nat.le_of_ble_eq_true rfl) (Nat.le_of_ble_eq_true rfl) (Nat.le_of_ble_eq_true rfl) (Nat.le_of_ble_eq_true rfl) ?_
    intro v M2 hz
    obtain ⟨rfl, rfl⟩ := hz
    show xW _ _ _ _ 20 _ [.int v5] (mem t6 Gb) _ _
    refine xi_if_ne (tgt := 26) dX12_merges_20 (by decide) (fun c8 => ?_) (fun c8 => ?_)
    · replace hq := ite_n c8 hq
      refine xi_iload_n 2 dX12_merges_26 rfl ?_
      refine xi_iload_n 3 dX12_merges_27 rfl ?_
      refine xi_min (v := (mnI b c)) dX12_merges_28 w_1142 w_385 w_3 w_mmin (Nat.le_of_ble_eq_true rfl) (Nat.le_of_ble_eq_true rfl) (Nat.le_of_ble_eq_true rfl) (Nat.le_of_ble_eq_true rfl) (Nat.le_of_ble_eq_true rfl) rfl ?_
      refine xi_istore (lv' := [(4, .int (mnI b c)), (0, .ref 149), (1, .int a), (2, .int b), (3, .int c)]) dX12_merges_31 (by decide) rfl ?_
      refine xi_iload_n 3 dX12_merges_33 rfl ?_
      refine xi_iload_n 4 dX12_merges_34 rfl ?_
      refine xi_max (v := (mxI b c)) dX12_merges_35 w_1234 w_37 w_3 w_mmax (Nat.le_of_ble_eq_true rfl) (Nat.le_of_ble_eq_true rfl) (Nat.le_of_ble_eq_true rfl) (Nat.le_of_ble_eq_true rfl) (Nat.le_of_ble_eq_true rfl) rfl ?_
      refine xi_istore (lv' := [(5, .int (mxI b c)), (4, .int (mnI b c)), (0, .ref 149), (1, .int a), (2, .int b), (3, .int c)]) dX12_merges_38 (by decide) rfl ?_
      refine xi_aload_n 2 dX12_merges_40 rfl ?_
      refine xi_iload_n 3 dX12_merges_41 rfl ?_
      obtain ⟨v9, t10, k11, hq⟩ := bnd_some hq
      refine xi_callV (as := [.int a]) (rest := []) dX12_merges_42 (KX12_points G Gb a _ _ _ k11) mkX12_points w_1108 ws_36 w_1106 (mem_get sh_149) rfl rfl rfl rfl (Nat.le_of_ble_eq_true rfl) (Nat.le_of_ble_eq_true rfl) (Nat.le_of_ble_eq_true rfl) (Nat.le_of_ble_eq_true rfl) (Nat.le_of_ble_eq_true rfl) ?_
      intro v M2 hz
      obtain ⟨rfl, rfl⟩ := hz
      show xW _ _ _ _ 45 _ [.int v9] (mem t10 Gb) _ _
      refine xi_istore (lv' := [(6, .int v9), (5, .int (mxI b c)), (4, .int (mnI b c)), (0, .ref 149), (1, .int a), (2, .int b), (3, .int c)]) dX12_merges_45 (by decide) rfl ?_
      refine xi_aload_n 3 dX12_merges_47 rfl ?_
      obtain ⟨v12, t13, k14, hq⟩ := bnd_some hq
      refine xi_callV (as := []) (rest := []) dX12_merges_48 (KX12_remembers G Gb  _ _ _ k14) mkX12_remembers w_1112 ws_37 w_1110 (mem_get sh_149) rfl rfl rfl rfl (Nat.le_of_ble_eq_true rfl) (Nat.le_of_ble_eq_true rfl) (Nat.le_of_ble_eq_true rfl) (Nat.le_of_ble_eq_true rfl) (Nat.le_of_ble_eq_true rfl) ?_
      intro v M2 hz
      obtain ⟨rfl, rfl⟩ := hz
      show xW _ _ _ _ 51 _ [] (mem t13 Gb) _ _
      refine xi_iconst (v := 0) dX12_merges_51 (by decide) ?_
      refine xi_istore (lv' := [(7, .int 0), (6, .int v9), (5, .int (mxI b c)), (4, .int (mnI b c)), (0, .ref 149), (1, .int a), (2, .int b), (3, .int c)]) dX12_merges_52 (by decide) rfl ?_
      refine xi_sub (lv' := [(0, .ref 149), (1, .int a), (4, .int (mnI b c)), (5, .int (mxI b c)), (6, .int v9), (7, .int 0)]) [4, 5, 3, 2, 1, 0] rfl ?_
      obtain ⟨e19, t20, k21, hq⟩ := bnd_some hq
      obtain ⟨n22, k21⟩ := wh_itr k21
      refine SX12_merges_54_w G Gb a (mnI b c) (mxI b c) v9 r0 t0 n22 (0 : Int32) t13 _ _ k21 ?_
      show xW G mX12_merges (xrm 5 0 0) (xQ G (PQ r0 t0 Gb) 0 0) 75 [(0, .ref 149), (1, .int a), (4, .int (mnI b c)), (5, .int (mxI b c)), (6, .int v9)] [] (mem t20 Gb) 0 0
      refine xi_iconst (v := 0) dX12_merges_75 (by decide) ?_
      refine xi_istore (lv' := [(7, .int 0), (0, .ref 149), (1, .int a), (4, .int (mnI b c)), (5, .int (mxI b c)), (6, .int v9)]) dX12_merges_76 (by decide) rfl ?_
      refine xi_sub (lv' := [(0, .ref 149), (1, .int a), (4, .int (mnI b c)), (5, .int (mxI b c)), (6, .int v9), (7, .int 0)]) [1, 2, 3, 4, 5, 0] rfl ?_
      obtain ⟨e55, t56, k57, hq⟩ := bnd_some hq
      obtain ⟨n58, k57⟩ := wh_itr k57
      refine SX12_merges_78_w G Gb a (mnI b c) (mxI b c) v9 r0 t0 n58 (0 : Int32) t20 _ _ k57 ?_
      show xW G mX12_merges (xrm 5 0 0) (xQ G (PQ r0 t0 Gb) 0 0) 217 [(0, .ref 149), (1, .int a), (5, .int (mxI b c)), (6, .int v9)] [] (mem t56 Gb) 0 0
      refine xi_iconst (v := 0) dX12_merges_217 (by decide) ?_
      refine xi_istore (lv' := [(7, .int 0), (0, .ref 149), (1, .int a), (5, .int (mxI b c)), (6, .int v9)]) dX12_merges_218 (by decide) rfl ?_
      refine xi_iconst (v := 0) dX12_merges_220 (by decide) ?_
      refine xi_istore (lv' := [(8, .int 0), (7, .int 0), (0, .ref 149), (1, .int a), (5, .int (mxI b c)), (6, .int v9)]) dX12_merges_221 (by decide) rfl ?_
      refine xi_sub (lv' := [(0, .ref 149), (1, .int a), (5, .int (mxI b c)), (6, .int v9), (7, .int 0), (8, .int 0)]) [2, 3, 4, 5, 1, 0] rfl ?_
      obtain ⟨e76, t77, k78, hq⟩ := bnd_some hq
      obtain ⟨n79, k78⟩ := wh_itr k78
      refine SX12_merges_223_w G Gb a (mxI b c) v9 r0 t0 n79 ((0 : Int32), (0 : Int32)) t56 _ _ k78 ?_
      show xW G mX12_merges (xrm 5 0 0) (xQ G (PQ r0 t0 Gb) 0 0) 278 [(0, .ref 149), (1, .int a), (6, .int v9)] [] (mem t77 Gb) 0 0
      refine xi_aload_n 0 dX12_merges_278 rfl ?_
      refine xi_iload_n 1 dX12_merges_279 rfl ?_
      obtain ⟨v80, t81, k82, hq⟩ := bnd_some hq
      refine xi_callV (as := [.int a]) (rest := []) dX12_merges_280 (KX12_empties G Gb a _ _ _ k82) mkX12_empties w_1116 ws_38 w_1114 (mem_get sh_149) rfl rfl rfl rfl (Nat.le_of_ble_eq_true rfl) (Nat.le_of_ble_eq_true rfl) (Nat.le_of_ble_eq_true rfl) (Nat.le_of_ble_eq_true rfl) (Nat.le_of_ble_eq_true rfl) ?_
      intro v M2 hz
      obtain ⟨rfl, rfl⟩ := hz
      show xW _ _ _ _ 283 _ [] (mem t81 Gb) _ _
      refine xi_aload_n 0 dX12_merges_283 rfl ?_
      refine yi_getR (f := 0) dX12_merges_284 sh_149 rfl ok_9 (by decide) w_1008 rfl ?_
      refine xi_bipush (v := 91) dX12_merges_287 (by decide) ?_
      refine xi_iload_n 1 dX12_merges_289 rfl ?_
      refine xi_imul (v := (91 : Int32) * a) dX12_merges_290 rfl ?_
      refine xi_iload 2 dX12_merges_291 rfl ?_
      refine xi_iconst (v := 1) dX12_merges_293 (by decide) ?_
      refine xi_isub (v := v9 - (1 : Int32)) dX12_merges_294 rfl ?_
      obtain ⟨g83, hq⟩ := chk_some hq
      obtain ⟨t84, h85, hq⟩ := wrb_some hq
      refine yi_iastoreV dX12_merges_295 sh_150 g83 h85 ?_
      refine xi_iconst (v := 0) dX12_merges_296 (by decide) ?_
      refine xi_istore (lv' := [(8, .int 0), (0, .ref 149), (1, .int a), (6, .int v9)]) dX12_merges_297 (by decide) rfl ?_
      refine xi_sub (lv' := [(0, .ref 149), (1, .int a), (6, .int v9), (8, .int 0)]) [1, 2, 3, 0] rfl ?_
      obtain ⟨e93, t94, k95, hq⟩ := bnd_some hq
      obtain ⟨n96, k95⟩ := wh_itr k95
      refine SX12_merges_299_w G Gb a v9 r0 t0 n96 (0 : Int32) t84 _ _ k95 ?_
      show xW G mX12_merges (xrm 5 0 0) (xQ G (PQ r0 t0 Gb) 0 0) 333 [(0, .ref 149), (1, .int a), (6, .int v9)] [] (mem t94 Gb) 0 0
      refine xi_iconst (v := 0) dX12_merges_333 (by decide) ?_
      refine xi_istore (lv' := [(8, .int 0), (0, .ref 149), (1, .int a), (6, .int v9)]) dX12_merges_334 (by decide) rfl ?_
      refine xi_sub (lv' := [(0, .ref 149), (1, .int a), (6, .int v9), (8, .int 0)]) [1, 2, 3, 0] rfl ?_
      obtain ⟨e104, t105, k106, hq⟩ := bnd_some hq
      obtain ⟨n107, k106⟩ := wh_itr k106
      refine SX12_merges_336_w G Gb a v9 r0 t0 n107 (0 : Int32) t94 _ _ k106 ?_
      show xW G mX12_merges (xrm 5 0 0) (xQ G (PQ r0 t0 Gb) 0 0) 365 [(0, .ref 149), (6, .int v9)] [] (mem t105 Gb) 0 0
      refine xi_aload_n 0 dX12_merges_365 rfl ?_
      refine xi_iload 1 dX12_merges_366 rfl ?_
      refine xi_iconst (v := 1) dX12_merges_368 (by decide) ?_
      refine xi_isub (v := v9 - (1 : Int32)) dX12_merges_369 rfl ?_
      obtain ⟨v108, t109, k110, hq⟩ := bnd_some hq
      refine xi_callV (as := [.int (v9 - (1 : Int32))]) (rest := []) dX12_merges_370 (KX12_keeps G Gb (v9 - (1 : Int32)) _ _ _ k110) mkX12_keeps w_1120 ws_39 w_1118 (mem_get sh_149) rfl rfl rfl rfl (Nat.le_of_ble_eq_true rfl) (Nat.le_of_ble_eq_true rfl) (Nat.le_of_ble_eq_true rfl) (Nat.le_of_ble_eq_true rfl) (Nat.le_of_ble_eq_true rfl) ?_
      intro v M2 hz
      obtain ⟨rfl, rfl⟩ := hz
      show xW _ _ _ _ 373 _ [.int v108] (mem t109 Gb) _ _
      have r111 := some_pair hq
      obtain ⟨rfl, rfl⟩ := r111
      exact xi_iret dX12_merges_373 rfl rfl (Nat.le_of_ble_eq_true rfl) (Nat.le_of_ble_eq_true rfl) ⟨rfl, rfl⟩
    · replace hq := ite_p c8 hq
      refine xi_bipush (v := (-6)) dX12_merges_23 (by decide) ?_
      have r112 := some_pair hq
      obtain ⟨rfl, rfl⟩ := r112
      exact xi_iret dX12_merges_25 rfl rfl (Nat.le_of_ble_eq_true rfl) (Nat.le_of_ble_eq_true rfl) ⟨rfl, rfl⟩
  · replace hq := ite_p c4 hq
    refine xi_bipush (v := (-2)) dX12_merges_10 (by decide) ?_
    have r113 := some_pair hq
    obtain ⟨rfl, rfl⟩ := r113
    exact xi_iret dX12_merges_12 rfl rfl (Nat.le_of_ble_eq_true rfl) (Nat.le_of_ble_eq_true rfl) ⟨rfl, rfl⟩
noncomputable def SX12_minor_13 (w1 : Int32) (c : Int32) (σ : St) : Option (((Int32) ⊕ (Unit)) × St) :=
  (bnd (FX12_points w1 σ) (fun v5 t6 => (if v5 ≤ c then (some (Sum.inr (), t6)) else (bnd (FX12_nearOf w1 c t6) (fun v9 t10 => (chk (inb c 9) (wrb t10 160 (c.toNatClampNeg) v9 (fun t13 => (some (Sum.inl (c + 1), t13))))))))))
noncomputable def SX12_minor_103 (w1 : Int32) (w2 : Int32) (w3 : Int32) (w4 : Int32) (w5 : Int32) (c : Int32) (σ : St) : Option (((Int32) ⊕ (Unit)) × St) :=
  (bnd (FX12_points w1 σ) (fun v38 t39 => (if v38 ≤ c then (some (Sum.inr (), t39)) else (chk (inb w4 9) (rdb t39 160 (w4.toNatClampNeg) (fun v43 => (bnd (FX12_has v43 c t39) (fun v45 t46 => (chk (inb c 9) (rdb t46 160 (c.toNatClampNeg) (fun v49 => (chk (inb c 9) (wrb t46 160 (c.toNatClampNeg) (v49 &&& ((shl (1 : Int32) w4) ^^^ (-1 : Int32))) (fun t52 => (bnd (if v45 = (0 : Int32) then (some ((), t52)) else (if c = w5 then (some ((), t52)) else (chk (inb c 9) (rdb t52 160 (c.toNatClampNeg) (fun v61 => (chk (inb c 9) (wrb t52 160 (c.toNatClampNeg) (v61 ||| (shl (1 : Int32) w5)) (fun t64 => (chk (inb w5 9) (rdb t64 160 (w5.toNatClampNeg) (fun v67 => (chk (inb w5 9) (wrb t64 160 (w5.toNatClampNeg) (v67 ||| (shl (1 : Int32) c)) (fun t70 => (some ((), t70)))))))))))))))) (fun v55 t56 => (some (Sum.inl (c + 1), t56))))))))))))))))))
noncomputable def SX12_minor_52 (w1 : Int32) (c : Int32 × Int32) (σ : St) : Option (((Int32 × Int32) ⊕ (Int32)) × St) :=
  (if c.2 = (0 : Int32) then (some (Sum.inr c.1, σ)) else (bnd (FX12_fewestOf c.2 σ) (fun v23 t24 => (chk (inb v23 9) (rdb t24 160 (v23.toNatClampNeg) (fun v27 => (bnd (FX12_fewestOf v27 t24) (fun v29 t30 => (chk (inb v23 9) (rdb t30 160 (v23.toNatClampNeg) (fun v33 => (bnd (FX12_ones v33 t30) (fun v35 t36 => (bnd (wh (SX12_minor_103 w1 (mxI c.1 v35) (c.2 &&& ((shl (1 : Int32) v23) ^^^ (-1 : Int32))) v23 v29) (0 : Int32) t36) (fun e72 t73 => (some (Sum.inl ((mxI c.1 v35), (c.2 &&& ((shl (1 : Int32) v23) ^^^ (-1 : Int32)))), t73)))))))))))))))))
