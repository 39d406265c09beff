/-! methods as functions (printed by wip/ext/genall.py) -/
noncomputable def FX12_in (a : Int64) (b : Int64) (c : Int64) (σ : St) : Option ((Int32) × St) :=
  (if (lg_cmp a b) < (0 : Int32) then (some ((0 : Int32), σ)) else (if (0 : Int32) < (lg_cmp a c) then (some ((0 : Int32), σ)) else (some ((1 : Int32), σ))))
set_option maxHeartbeats 4000000 in
set_option maxRecDepth 100000 in
theorem KX12_in (G : xG) (Gb : xMem) (a : Int64) (b : Int64) (c : Int64) (σ : St) (r0 : Int32) (t0 : St) (hq : FX12_in a b c σ = some (r0, t0)) : xC G mX12_in 0 0 0 [.long a, .long b, .long c] (mem σ Gb) (PQ r0 t0 Gb) := by
  unfold FX12_in at hq
  refine xC.of (by decide) (Nat.le_of_ble_eq_true rfl) ?_
  show xW _ _ _ _ 0 [(0, .long a), (2, .long b), (4, .long c)] [] _ 0 0
  refine xi_lload_n 0 dX12_in_0 rfl ?_
  refine xi_lload_n 1 dX12_in_1 rfl ?_
  refine xi_lcmp dX12_in_2 rfl ?_
  refine xi_if_lt (tgt := 17) dX12_in_3 (by decide) (fun c1 => ?_) (fun c1 => ?_)
  · replace hq := ite_p c1 hq
    refine xi_iconst (v := 0) dX12_in_17 (by decide) ?_
    have r2 := some_pair hq
    obtain ⟨rfl, rfl⟩ := r2
    exact xi_iret dX12_in_18 rfl (by decide) (Nat.le_of_ble_eq_true rfl) (Nat.le_of_ble_eq_true rfl) ⟨rfl, rfl⟩
  · replace hq := ite_n c1 hq
    refine xi_lload_n 0 dX12_in_6 rfl ?_
    refine xi_lload 2 dX12_in_7 rfl ?_
    refine xi_lcmp dX12_in_9 rfl ?_
    refine xi_if_gt (tgt := 17) dX12_in_10 (by decide) (fun c3 => ?_) (fun c3 => ?_)
    · replace hq := ite_p c3 hq
      refine xi_iconst (v := 0) dX12_in_17 (by decide) ?_
      have r4 := some_pair hq
      obtain ⟨rfl, rfl⟩ := r4
      exact xi_iret dX12_in_18 rfl (by decide) (Nat.le_of_ble_eq_true rfl) (Nat.le_of_ble_eq_true rfl) ⟨rfl, rfl⟩
    · replace hq := ite_n c3 hq
      refine xi_iconst (v := 1) dX12_in_13 (by decide) ?_
      refine xi_goto (tgt := 18) dX12_in_14 (by decide) ?_
      have r5 := some_pair hq
      obtain ⟨rfl, rfl⟩ := r5
      exact xi_iret dX12_in_18 rfl (by decide) (Nat.le_of_ble_eq_true rfl) (Nat.le_of_ble_eq_true rfl) ⟨rfl, rfl⟩
noncomputable def FX12_isSlot (a : Int32) (σ : St) : Option ((Int32) × St) :=
  (bnd (FX12_in a.toInt64 (0 : Int64) (2 : Int64) σ) (fun v1 t2 => (chk (isb v1) (some (v1, t2)))))
set_option maxHeartbeats 4000000 in
set_option maxRecDepth 100000 in
theorem KX12_isSlot (G : xG) (Gb : xMem) (a : Int32) (σ : St) (r0 : Int32) (t0 : St) (hq : FX12_isSlot a σ = some (r0, t0)) : xC G mX12_isSlot 1 0 0 [.int a] (mem σ Gb) (PQ r0 t0 Gb) := by
  unfold FX12_isSlot at hq
  refine xC.of (by decide) (Nat.le_of_ble_eq_true rfl) ?_
  show xW _ _ _ _ 0 [(0, .int a)] [] _ 0 0
  refine xi_iload_n 0 dX12_isSlot_0 rfl ?_
  refine xi_i2l dX12_isSlot_1 rfl ?_
  refine xi_lconst (v := 0) dX12_isSlot_2 (by decide) ?_
  refine xi_ldc2 (v := 2) dX12_isSlot_3 w_1098 ?_
  obtain ⟨v1, t2, k3, hq⟩ := bnd_some hq
  refine xi_callS (as := [.long a.toInt64, .long 0, .long 2]) (rest := []) dX12_isSlot_6 (KX12_in G Gb a.toInt64 (0 : Int64) (2 : Int64) _ _ _ k3) mkX12_in w_1100 w_1099 rfl rfl (Nat.le_of_ble_eq_true rfl) (Nat.le_of_ble_eq_true rfl) (Nat.le_of_ble_eq_true rfl) (Nat.le_of_ble_eq_true rfl) (Nat.le_of_ble_eq_true rfl) ?_
  intro v M2 hz
  obtain ⟨rfl, rfl⟩ := hz
  show xW _ _ _ _ 9 _ [.int v1] (mem t2 Gb) _ _
  obtain ⟨g4, hq⟩ := chk_some hq
  have r5 := some_pair hq
  obtain ⟨rfl, rfl⟩ := r5
  exact xi_iret dX12_isSlot_9 rfl (isb_n g4) (Nat.le_of_ble_eq_true rfl) (Nat.le_of_ble_eq_true rfl) ⟨rfl, rfl⟩
noncomputable def FX12_points (a : Int32) (σ : St) : Option ((Int32) × St) :=
  (chk (inb ((91 : Int32) * a) 273) (rdb σ 150 (((91 : Int32) * a).toNatClampNeg) (fun v2 => (some (v2, σ)))))
set_option maxHeartbeats 4000000 in
set_option maxRecDepth 100000 in
theorem KX12_points (G : xG) (Gb : xMem) (a : Int32) (σ : St) (r0 : Int32) (t0 : St) (hq : FX12_points a σ = some (r0, t0)) : xC G mX12_points 0 0 0 [.ref 149, .int a] (mem σ Gb) (PQ r0 t0 Gb) := by
  unfold FX12_points at hq
  refine xC.of (by decide) (Nat.le_of_ble_eq_true rfl) ?_
  show xW _ _ _ _ 0 [(0, .ref 149), (1, .int a)] [] _ 0 0
  refine xi_aload_n 0 dX12_points_0 rfl ?_
  refine yi_getR (f := 0) dX12_points_1 sh_149 rfl ok_9 (by decide) w_1008 rfl ?_
  refine xi_bipush (v := 91) dX12_points_4 (by decide) ?_
  refine xi_iload_n 1 dX12_points_6 rfl ?_
  refine xi_imul (v := (91 : Int32) * a) dX12_points_7 rfl ?_
  obtain ⟨g1, hq⟩ := chk_some hq
  obtain ⟨v2, h3, hq⟩ := rdb_some hq
  refine yi_ialoadV dX12_points_8 sh_150 g1 h3 ?_
  have r4 := some_pair hq
  obtain ⟨rfl, rfl⟩ := r4
  exact xi_iret dX12_points_9 rfl rfl (Nat.le_of_ble_eq_true rfl) (Nat.le_of_ble_eq_true rfl) ⟨rfl, rfl⟩
noncomputable def FX12_isNet (a : Int32) (σ : St) : Option ((Int32) × St) :=
  (bnd (FX12_isSlot a σ) (fun v1 t2 => (if v1 = (0 : Int32) then (some ((0 : Int32), t2)) else (bnd (FX12_points a t2) (fun v6 t7 => (if v6 ≤ (0 : Int32) then (some ((0 : Int32), t7)) else (some ((1 : Int32), t7))))))))
set_option maxHeartbeats 4000000 in
set_option maxRecDepth 100000 in
theorem KX12_isNet (G : xG) (Gb : xMem) (a : Int32) (σ : St) (r0 : Int32) (t0 : St) (hq : FX12_isNet a σ = some (r0, t0)) : xC G mX12_isNet 2 0 0 [.ref 149, .int a] (mem σ Gb) (PQ r0 t0 Gb) := by
  unfold FX12_isNet at hq
  refine xC.of (by decide) (Nat.le_of_ble_eq_true rfl) ?_
  show xW _ _ _ _ 0 [(0, .ref 149), (1, .int a)] [] _ 0 0
  refine xi_iload_n 1 dX12_isNet_0 rfl ?_
  obtain ⟨v1, t2, k3, hq⟩ := bnd_some hq
  refine xi_callS (as := [.int a]) (rest := []) dX12_isNet_1 (KX12_isSlot G Gb a _ _ _ k3) mkX12_isSlot w_1096 w_1095 rfl rfl (Nat.le_of_ble_eq_true rfl) (Nat.le_of_ble_eq_true rfl) (Nat.le_of_ble_eq_true rfl) (Nat.le_of_ble_eq_true rfl) (Nat.le_of_ble_eq_true rfl) ?_
  intro v M2 hz
  obtain ⟨rfl, rfl⟩ := hz
  show xW _ _ _ _ 4 _ [.int v1] (mem t2 Gb) _ _
  refine xi_if_eq (tgt := 19) dX12_isNet_4 (by decide) (fun c4 => ?_) (fun c4 => ?_)
  · replace hq := ite_p c4 hq
    refine xi_iconst (v := 0) dX12_isNet_19 (by decide) ?_
    have r5 := some_pair hq
    obtain ⟨rfl, rfl⟩ := r5
    exact xi_iret dX12_isNet_20 rfl (by decide) (Nat.le_of_ble_eq_true rfl) (Nat.le_of_ble_eq_true rfl) ⟨rfl, rfl⟩
  · replace hq := ite_n c4 hq
    refine xi_aload_n 0 dX12_isNet_7 rfl ?_
    refine xi_iload_n 1 dX12_isNet_8 rfl ?_
    obtain ⟨v6, t7, k8, hq⟩ := bnd_some hq
    refine xi_callV (as := [.int a]) (rest := []) dX12_isNet_9 (KX12_points G Gb a _ _ _ k8) mkX12_points w_1108 ws_36 w_1106 (mem_get sh_149) rfl rfl rfl rfl (Nat.le_of_ble_eq_true rfl) (Nat.le_of_ble_eq_true rfl) (Nat.le_of_ble_eq_true rfl) (Nat.le_of_ble_eq_true rfl) (Nat.le_of_ble_eq_true rfl) ?_
    intro v M2 hz
    obtain ⟨rfl, rfl⟩ := hz
    show xW _ _ _ _ 12 _ [.int v6] (mem t7 Gb) _ _
    refine xi_if_le (tgt := 19) dX12_isNet_12 (by decide) (fun c9 => ?_) (fun c9 => ?_)
    · replace hq := ite_p c9 hq
      refine xi_iconst (v := 0) dX12_isNet_19 (by decide) ?_
      have r10 := some_pair hq
      obtain ⟨rfl, rfl⟩ := r10
      exact xi_iret dX12_isNet_20 rfl (by decide) (Nat.le_of_ble_eq_true rfl) (Nat.le_of_ble_eq_true rfl) ⟨rfl, rfl⟩
    · replace hq := ite_n c9 hq
      refine xi_iconst (v := 1) dX12_isNet_15 (by decide) ?_
      refine xi_goto (tgt := 20) dX12_isNet_16 (by decide) ?_
      have r11 := some_pair hq
      obtain ⟨rfl, rfl⟩ := r11
      exact xi_iret dX12_isNet_20 rfl (by decide) (Nat.le_of_ble_eq_true rfl) (Nat.le_of_ble_eq_true rfl) ⟨rfl, rfl⟩
noncomputable def FX12_isPoint (a : Int32) (b : Int32) (σ : St) : Option ((Int32) × St) :=
  (bnd (FX12_isNet a σ) (fun v1 t2 => (if v1 = (0 : Int32) then (some ((0 : Int32), t2)) else (bnd (FX12_points a t2) (fun v6 t7 => (bnd (FX12_in b.toInt64 (0 : Int64) ((v6 - (1 : Int32)).toInt64) t7) (fun v9 t10 => (if v9 = (0 : Int32) then (some ((0 : Int32), t10)) else (some ((1 : Int32), t10))))))))))
set_option maxHeartbeats 4000000 in
set_option maxRecDepth 100000 in
theorem KX12_isPoint (G : xG) (Gb : xMem) (a : Int32) (b : Int32) (σ : St) (r0 : Int32) (t0 : St) (hq : FX12_isPoint a b σ = some (r0, t0)) : xC G mX12_isPoint 3 0 0 [.ref 149, .int a, .int b] (mem σ Gb) (PQ r0 t0 Gb) := by
  unfold FX12_isPoint at hq
  refine xC.of (by decide) (Nat.le_of_ble_eq_true rfl) ?_
  show xW _ _ _ _ 0 [(0, .ref 149), (1, .int a), (2, .int b)] [] _ 0 0
  refine xi_aload_n 0 dX12_isPoint_0 rfl ?_
  refine xi_iload_n 1 dX12_isPoint_1 rfl ?_
  obtain ⟨v1, t2, k3, hq⟩ := bnd_some hq
  refine xi_callV (as := [.int a]) (rest := []) dX12_isPoint_2 (KX12_isNet G Gb a _ _ _ k3) mkX12_isNet w_1104 ws_35 w_1102 (mem_get sh_149) rfl rfl rfl rfl (Nat.le_of_ble_eq_true rfl) (Nat.le_of_ble_eq_true rfl) (Nat.le_of_ble_eq_true rfl) (Nat.le_of_ble_eq_true rfl) (Nat.le_of_ble_eq_true rfl) ?_
  intro v M2 hz
  obtain ⟨rfl, rfl⟩ := hz
  show xW _ _ _ _ 5 _ [.int v1] (mem t2 Gb) _ _
  refine xi_if_eq (tgt := 29) dX12_isPoint_5 (by decide) (fun c4 => ?_) (fun c4 => ?_)
  · replace hq := ite_p c4 hq
    refine xi_iconst (v := 0) dX12_isPoint_29 (by decide) ?_
    have r5 := some_pair hq
    obtain ⟨rfl, rfl⟩ := r5
    exact xi_iret dX12_isPoint_30 rfl (by decide) (Nat.le_of_ble_eq_true rfl) (Nat.le_of_ble_eq_true rfl) ⟨rfl, rfl⟩
  · replace hq := ite_n c4 hq
    refine xi_iload_n 2 dX12_isPoint_8 rfl ?_
    refine xi_i2l dX12_isPoint_9 rfl ?_
    refine xi_lconst (v := 0) dX12_isPoint_10 (by decide) ?_
    refine xi_aload_n 0 dX12_isPoint_11 rfl ?_
    refine xi_iload_n 1 dX12_isPoint_12 rfl ?_
    obtain ⟨v6, t7, k8, hq⟩ := bnd_some hq
    refine xi_callV (as := [.int a]) (rest := [.long 0, .long b.toInt64]) dX12_isPoint_13 (KX12_points G Gb a _ _ _ k8) mkX12_points w_1108 ws_36 w_1106 (mem_get sh_149) rfl rfl rfl rfl (Nat.le_of_ble_eq_true rfl) (Nat.le_of_ble_eq_true rfl) (Nat.le_of_ble_eq_true rfl) (Nat.le_of_ble_eq_true rfl) (Nat.le_of_ble_eq_true rfl) ?_
    intro v M2 hz
    obtain ⟨rfl, rfl⟩ := hz
    show xW _ _ _ _ 16 _ [.int v6, .long 0, .long b.toInt64] (mem t7 Gb) _ _
    refine xi_iconst (v := 1) dX12_isPoint_16 (by decide) ?_
    refine xi_isub (v := v6 - (1 : Int32)) dX12_isPoint_17 rfl ?_
    refine xi_i2l dX12_isPoint_18 rfl ?_
    obtain ⟨v9, t10, k11, hq⟩ := bnd_some hq
    refine xi_callS (as := [.long b.toInt64, .long 0, .long ((v6 - (1 : Int32)).toInt64)]) (rest := []) dX12_isPoint_19 (KX12_in G Gb b.toInt64 (0 : Int64) ((v6 - (1 : Int32)).toInt64) _ _ _ k11) mkX12_in w_1100 w_1099 rfl rfl (Nat.le_of_ble_eq_true rfl) (Nat.le_of_ble_eq_true rfl) (Nat.le_of_ble_eq_true rfl) (Nat.le_of_ble_eq_true rfl) (Nat.le_of_ble_eq_true rfl) ?_
    intro v M2 hz
    obtain ⟨rfl, rfl⟩ := hz
    show xW _ _ _ _ 22 _ [.int v9] (mem t10 Gb) _ _
    refine xi_if_eq (tgt := 29) dX12_isPoint_22 (by decide) (fun c12 => ?_) (fun c12 => ?_)
    · replace hq := ite_p c12 hq
      refine xi_iconst (v := 0) dX12_isPoint_29 (by decide) ?_
      have r13 := some_pair hq
      obtain ⟨rfl, rfl⟩ := r13
      exact xi_iret dX12_isPoint_30 rfl (by decide) (Nat.le_of_ble_eq_true rfl) (Nat.le_of_ble_eq_true rfl) ⟨rfl, rfl⟩
    · replace hq := ite_n c12 hq
      refine xi_iconst (v := 1) dX12_isPoint_25 (by decide) ?_
      refine xi_goto (tgt := 30) dX12_isPoint_26 (by decide) ?_
      have r14 := some_pair hq
      obtain ⟨rfl, rfl⟩ := r14
      exact xi_iret dX12_isPoint_30 rfl (by decide) (Nat.le_of_ble_eq_true rfl) (Nat.le_of_ble_eq_true rfl) ⟨rfl, rfl⟩
noncomputable def FX12_areTwo (a : Int32) (b : Int32) (c : Int32) (σ : St) : Option ((Int32) × St) :=
  (bnd (FX12_isPoint a b σ) (fun v1 t2 => (if v1 = (0 : Int32) then (some ((0 : Int32), t2)) else (bnd (FX12_isPoint a c t2) (fun v6 t7 => (if v6 = (0 : Int32) then (some ((0 : Int32), t7)) else (if b = c then (some ((0 : Int32), t7)) else (some ((1 : Int32), t7)))))))))
set_option maxHeartbeats 4000000 in
set_option maxRecDepth 100000 in
theorem KX12_areTwo (G : xG) (Gb : xMem) (a : Int32) (b : Int32) (c : Int32) (σ : St) (r0 : Int32) (t0 : St) (hq : FX12_areTwo a b c σ = some (r0, t0)) : xC G mX12_areTwo 4 0 0 [.ref 149, .int a, .int b, .int c] (mem σ Gb) (PQ r0 t0 Gb) := by
  unfold FX12_areTwo at hq
  refine xC.of (by decide) (Nat.le_of_ble_eq_true rfl) ?_
  show xW _ _ _ _ 0 [(0, .ref 149), (1, .int a), (2, .int b), (3, .int c)] [] _ 0 0
  refine xi_aload_n 0 dX12_areTwo_0 rfl ?_
  refine xi_iload_n 1 dX12_areTwo_1 rfl ?_
  refine xi_iload_n 2 dX12_areTwo_2 rfl ?_
  obtain ⟨v1, t2, k3, hq⟩ := bnd_some hq
  refine xi_callV (as := [.int a, .int b]) (rest := []) dX12_areTwo_3 (KX12_isPoint G Gb a b _ _ _ k3) mkX12_isPoint w_1257 ws_63 w_1255 (mem_get sh_149) rfl rfl rfl rfl (Nat.le_of_ble_eq_true rfl) (Nat.le_of_ble_eq_true rfl) (Nat.le_of_ble_eq_true rfl) (Nat.le_of_ble_eq_true rfl) (Nat.le_of_ble_eq_true rfl) ?_
  intro v M2 hz
  obtain ⟨rfl, rfl⟩ := hz
  show xW _ _ _ _ 6 _ [.int v1] (mem t2 Gb) _ _
  refine xi_if_eq (tgt := 27) dX12_areTwo_6 (by decide) (fun c4 => ?_) (fun c4 => ?_)
  · replace hq := ite_p c4 hq
    refine xi_iconst (v := 0) dX12_areTwo_27 (by decide) ?_
    have r5 := some_pair hq
    obtain ⟨rfl, rfl⟩ := r5
    exact xi_iret dX12_areTwo_28 rfl (by decide) (Nat.le_of_ble_eq_true rfl) (Nat.le_of_ble_eq_true rfl) ⟨rfl, rfl⟩
  · replace hq := ite_n c4 hq
    refine xi_aload_n 0 dX12_areTwo_9 rfl ?_
    refine xi_iload_n 1 dX12_areTwo_10 rfl ?_
    refine xi_iload_n 3 dX12_areTwo_11 rfl ?_
    obtain ⟨v6, t7, k8, hq⟩ := bnd_some hq
    refine xi_callV (as := [.int a, .int c]) (rest := []) dX12_areTwo_12 (KX12_isPoint G Gb a c _ _ _ k8) mkX12_isPoint w_1257 ws_63 w_1255 (mem_get sh_149) rfl rfl rfl rfl (Nat.le_of_ble_eq_true rfl) (Nat.le_of_ble_eq_true rfl) (Nat.le_of_ble_eq_true rfl) (Nat.le_of_ble_eq_true rfl) (Nat.le_of_ble_eq_true rfl) ?_
    intro v M2 hz
    obtain ⟨rfl, rfl⟩ := hz
    show xW _ _ _ _ 15 _ [.int v6] (mem t7 Gb) _ _
    refine xi_if_eq (tgt := 27) dX12_areTwo_15 (by decide) (fun c9 => ?_) (fun c9 => ?_)
    · replace hq := ite_p c9 hq
      refine xi_iconst (v := 0) dX12_areTwo_27 (by decide) ?_
      have r10 := some_pair hq
      obtain ⟨rfl, rfl⟩ := r10
      exact xi_iret dX12_areTwo_28 rfl (by decide) (Nat.le_of_ble_eq_true rfl) (Nat.le_of_ble_eq_true rfl) ⟨rfl, rfl⟩
    · replace hq := ite_n c9 hq
      refine xi_iload_n 2 dX12_areTwo_18 rfl ?_
      refine xi_iload_n 3 dX12_areTwo_19 rfl ?_
      refine xi_icmp_eq (tgt := 27) dX12_areTwo_20 (by decide) (fun c11 => ?_) (fun c11 => ?_)
      · replace hq := ite_p c11 hq
        refine xi_iconst (v := 0) dX12_areTwo_27 (by decide) ?_
        have r12 := some_pair hq
        obtain ⟨rfl, rfl⟩ := r12
        exact xi_iret dX12_areTwo_28 rfl (by decide) (Nat.le_of_ble_eq_true rfl) (Nat.le_of_ble_eq_true rfl) ⟨rfl, rfl⟩
      · replace hq := ite_n c11 hq
        refine xi_iconst (v := 1) dX12_areTwo_23 (by decide) ?_
        refine xi_goto (tgt := 28) dX12_areTwo_24 (by decide) ?_
        have r13 := some_pair hq
        obtain ⟨rfl, rfl⟩ := r13
        exact xi_iret dX12_areTwo_28 rfl (by decide) (Nat.le_of_ble_eq_true rfl) (Nat.le_of_ble_eq_true rfl) ⟨rfl, rfl⟩
noncomputable def SX12_keeps_52 (w1 : Int32) (c : Int32) (σ : St) : Option (((Int32) ⊕ (Unit)) × St) :=
  (if (273 : Int32) ≤ c then (some (Sum.inr (), σ)) else (rdb σ 149 (3) (fun v9 => (chk (inb c 273) (rdb σ 151 (c.toNatClampNeg) (fun v12 => (chk (inb (((273 : Int32) * v9) + c) 2730) (wrb σ 152 ((((273 : Int32) * v9) + c).toNatClampNeg) v12 (fun t15 => (some (Sum.inl (c + 1), t15)))))))))))
noncomputable def SX12_keeps_11 (w1 : Int32) (c : Int32) (σ : St) : Option (((Int32) ⊕ (Unit)) × St) :=
  (if (2457 : Int32) ≤ c then (some (Sum.inr (), σ)) else (chk (inb (c + (273 : Int32)) 2730) (rdb σ 152 ((c + (273 : Int32)).toNatClampNeg) (fun v28 => (chk (inb c 2730) (wrb σ 152 (c.toNatClampNeg) v28 (fun t31 => (some (Sum.inl (c + 1), t31)))))))))
set_option maxHeartbeats 4000000 in
set_option maxRecDepth 100000 in
theorem SX12_keeps_52_w (G : xG) (Gb : xMem) (w1 : Int32) (r0 : Int32) (t0 : St) :
    ∀ (k : Nat) (c : Int32) (σ : St) (r : Unit) (σ' : St), itr (SX12_keeps_52 w1) k c σ = some (r, σ') → (xW G mX12_keeps (xrm 0 0 0) (xQ G (PQ r0 t0 Gb) 0 0) 86 [(0, .ref 149), (1, .int w1)] [] (mem σ' Gb) 0 0) → xW G mX12_keeps (xrm 0 0 0) (xQ G (PQ r0 t0 Gb) 0 0) 52 [(0, .ref 149), (1, .int w1), (2, .int c)] [] (mem σ Gb) 0 0 := by
  intro k
  induction k with
  | zero =>
    intro c σ r σ' h
    exact absurd h (itr_zero _ _ _ _)
  | succ k ih =>
    intro c σ r σ' h HE
    obtain ⟨x, s1, hs, h⟩ := itr_succ h
    unfold SX12_keeps_52 at hs
    refine xi_iload_n 2 dX12_keeps_52 rfl ?_
    refine xi_sipush (v := 273) dX12_keeps_53 (by decide) ?_
    refine xi_icmp_ge (tgt := 86) dX12_keeps_56 (by decide) (fun c8 => ?_) (fun c8 => ?_)
    · replace hs := ite_p c8 hs
      refine xi_sub (lv' := [(0, .ref 149), (1, .int w1)]) [0, 1] rfl ?_
      obtain ⟨rfl, rfl⟩ := some_pair hs
      obtain ⟨rfl, rfl⟩ := some_pair h
      exact HE
    · replace hs := ite_n c8 hs
      refine xi_aload_n 0 dX12_keeps_59 rfl ?_
      refine yi_getR (f := 2) dX12_keeps_60 sh_149 rfl ok_9 (by decide) w_1010 rfl ?_
      refine xi_sipush (v := 273) dX12_keeps_63 (by decide) ?_
      refine xi_aload_n 0 dX12_keeps_66 rfl ?_
      obtain ⟨v9, h10, hs⟩ := rdb_some hs
      refine yi_getV (f := 3) dX12_keeps_67 sh_149 rfl ok_9 (by decide) w_1011 rfl h10 ?_
      refine xi_imul (v := (273 : Int32) * v9) dX12_keeps_70 rfl ?_
      refine xi_iload_n 2 dX12_keeps_71 rfl ?_
      refine xi_iadd (v := ((273 : Int32) * v9) + c) dX12_keeps_72 rfl ?_
      refine xi_aload_n 0 dX12_keeps_73 rfl ?_
      refine yi_getR (f := 1) dX12_keeps_74 sh_149 rfl ok_9 (by decide) w_1009 rfl ?_
      refine xi_iload_n 2 dX12_keeps_77 rfl ?_
      obtain ⟨g11, hs⟩ := chk_some hs
      obtain ⟨v12, h13, hs⟩ := rdb_some hs
      refine yi_ialoadV dX12_keeps_78 sh_151 g11 h13 ?_
      obtain ⟨g14, hs⟩ := chk_some hs
      obtain ⟨t15, h16, hs⟩ := wrb_some hs
      refine yi_iastoreV dX12_keeps_79 sh_152 g14 h16 ?_
      refine xi_iinc (v := (c + 1)) (lv' := [(2, .int (c + 1)), (0, .ref 149), (1, .int w1)]) 2 dX12_keeps_80 rfl rfl (by decide) rfl ?_
      refine xi_goto (tgt := 52) dX12_keeps_83 (by decide) ?_
      refine xi_sub (lv' := [(0, .ref 149), (1, .int w1), (2, .int (c + 1))]) [1, 2, 0] rfl ?_
      obtain ⟨rfl, rfl⟩ := some_pair hs
      exact ih (c + 1) t15 _ _ h HE
set_option maxHeartbeats 4000000 in
set_option maxRecDepth 100000 in
theorem SX12_keeps_11_w (G : xG) (Gb : xMem) (w1 : Int32) (r0 : Int32) (t0 : St) :
    ∀ (k : Nat) (c : Int32) (σ : St) (r : Unit) (σ' : St), itr (SX12_keeps_11 w1) k c σ = some (r, σ') → (xW G mX12_keeps (xrm 0 0 0) (xQ G (PQ r0 t0 Gb) 0 0) 40 [(0, .ref 149), (1, .int w1)] [] (mem σ' Gb) 0 0) → xW G mX12_keeps (xrm 0 0 0) (xQ G (PQ r0 t0 Gb) 0 0) 11 [(0, .ref 149), (1, .int w1), (2, .int c)] [] (mem σ Gb) 0 0 := by
  intro k
  induction k with
  | zero =>
    intro c σ r σ' h
    exact absurd h (itr_zero _ _ _ _)
  | succ k ih =>
    intro c σ r σ' h HE
    obtain ⟨x, s1, hs, h⟩ := itr_succ h
    unfold SX12_keeps_11 at hs
    refine xi_iload_n 2 dX12_keeps_11 rfl ?_
    refine xi_sipush (v := 2457) dX12_keeps_12 (by decide) ?_
    refine xi_icmp_ge (tgt := 40) dX12_keeps_15 (by decide) (fun c26 => ?_) (fun c26 => ?_)
    · replace hs := ite_p c26 hs
      refine xi_sub (lv' := [(0, .ref 149), (1, .int w1)]) [0, 1] rfl ?_
      obtain ⟨rfl, rfl⟩ := some_pair hs
      obtain ⟨rfl, rfl⟩ := some_pair h
      exact HE
    · replace hs := ite_n c26 hs
      refine xi_aload_n 0 dX12_keeps_18 rfl ?_
      refine yi_getR (f := 2) dX12_keeps_19 sh_149 rfl ok_9 (by decide) w_1010 rfl ?_
      refine xi_iload_n 2 dX12_keeps_22 rfl ?_
      refine xi_aload_n 0 dX12_keeps_23 rfl ?_
      refine yi_getR (f := 2) dX12_keeps_24 sh_149 rfl ok_9 (by decide) w_1010 rfl ?_
      refine xi_iload_n 2 dX12_keeps_27 rfl ?_
      refine xi_sipush (v := 273) dX12_keeps_28 (by decide) ?_
      refine xi_iadd (v := c + (273 : Int32)) dX12_keeps_31 rfl ?_
      obtain ⟨g27, hs⟩ := chk_some hs
      obtain ⟨v28, h29, hs⟩ := rdb_some hs
      refine yi_ialoadV dX12_keeps_32 sh_152 g27 h29 ?_
      obtain ⟨g30, hs⟩ := chk_some hs
      obtain ⟨t31, h32, hs⟩ := wrb_some hs
      refine yi_iastoreV dX12_keeps_33 sh_152 g30 h32 ?_
      refine xi_iinc (v := (c + 1)) (lv' := [(2, .int (c + 1)), (0, .ref 149), (1, .int w1)]) 2 dX12_keeps_34 rfl rfl (by decide) rfl ?_
      refine xi_goto (tgt := 11) dX12_keeps_37 (by decide) ?_
      refine xi_sub (lv' := [(0, .ref 149), (1, .int w1), (2, .int (c + 1))]) [1, 2, 0] rfl ?_
      obtain ⟨rfl, rfl⟩ := some_pair hs
      exact ih (c + 1) t31 _ _ h HE
noncomputable def FX12_keeps (a : Int32) (σ : St) : Option ((Int32) × St) :=
  (rdb σ 149 (3) (fun v1 => (bnd (if v1 = (10 : Int32) then (bnd (wh (SX12_keeps_11 a) (0 : Int32) σ) (fun e33 t34 => (rdb t34 149 (3) (fun v37 => (wrb t34 149 (3) (v37 - (1 : Int32)) (fun t39 => (some ((), t39)))))))) else (some ((), σ))) (fun v4 t5 => (bnd (wh (SX12_keeps_52 a) (0 : Int32) t5) (fun e17 t18 => (rdb t18 149 (3) (fun v21 => (wrb t18 149 (3) (v21 + (1 : Int32)) (fun t23 => (some (a, t23))))))))))))
set_option maxHeartbeats 4000000 in
set_option maxRecDepth 100000 in
theorem KX12_keeps (G : xG) (Gb : xMem) (a : Int32) (σ : St) (r0 : Int32) (t0 : St) (hq : FX12_keeps a σ = some (r0, t0)) : xC G mX12_keeps 0 0 0 [.ref 149, .int a] (mem σ Gb) (PQ r0 t0 Gb) := by
  unfold FX12_keeps at hq
  refine xC.of (by decide) (Nat.le_of_ble_eq_true rfl) ?_
  show xW _ _ _ _ 0 [(0, .ref 149), (1, .int a)] [] _ 0 0
  refine xi_aload_n 0 dX12_keeps_0 rfl ?_
  obtain ⟨v1, h2, hq⟩ := rdb_some hq
  refine yi_getV (f := 3) dX12_keeps_1 sh_149 rfl ok_9 (by decide) w_1011 rfl h2 ?_
  refine xi_bipush (v := 10) dX12_keeps_4 (by decide) ?_
  obtain ⟨v4, t5, m6, hq⟩ := bnd_some hq
  have key7 : xW G mX12_keeps (xrm 0 0 0) (xQ G (PQ r0 t0 Gb) 0 0) 50 [(0, .ref 149), (1, .int a)] [] (mem t5 Gb) 0 0 := by
    refine xi_iconst (v := 0) dX12_keeps_50 (by decide) ?_
    refine xi_istore_n (lv' := [(2, .int 0), (0, .ref 149), (1, .int a)]) dX12_keeps_51 (by decide) rfl ?_
    refine xi_sub (lv' := [(0, .ref 149), (1, .int a), (2, .int 0)]) [1, 2, 0] rfl ?_
    obtain ⟨e17, t18, k19, hq⟩ := bnd_some hq
    obtain ⟨n20, k19⟩ := wh_itr k19
    refine SX12_keeps_52_w G Gb a r0 t0 n20 (0 : Int32) t5 _ _ k19 ?_
    show xW G mX12_keeps (xrm 0 0 0) (xQ G (PQ r0 t0 Gb) 0 0) 86 [(0, .ref 149), (1, .int a)] [] (mem t18 Gb) 0 0
    refine xi_aload_n 0 dX12_keeps_86 rfl ?_
    refine xi_dup dX12_keeps_87 rfl ?_
    obtain ⟨v21, h22, hq⟩ := rdb_some hq
    refine yi_getV (f := 3) dX12_keeps_88 sh_149 rfl ok_9 (by decide) w_1011 rfl h22 ?_
    refine xi_iconst (v := 1) dX12_keeps_91 (by decide) ?_
    refine xi_iadd (v := v21 + (1 : Int32)) dX12_keeps_92 rfl ?_
    obtain ⟨t23, h24, hq⟩ := wrb_some hq
    refine yi_putV (f := 3) (ty := .int) dX12_keeps_93 sh_149 rfl ok_9 (by decide) w_1011 rfl rfl pf_I rfl rfl h24 ?_
    refine xi_iload_n 1 dX12_keeps_96 rfl ?_
    have r25 := some_pair hq
    obtain ⟨rfl, rfl⟩ := r25
    exact xi_iret dX12_keeps_97 rfl rfl (Nat.le_of_ble_eq_true rfl) (Nat.le_of_ble_eq_true rfl) ⟨rfl, rfl⟩
  refine xi_icmp_ne (tgt := 50) dX12_keeps_6 (by decide) (fun c3 => ?_) (fun c3 => ?_)
  · replace m6 := ite_n c3 m6
    obtain ⟨rfl, rfl⟩ := some_pair m6
    exact key7
  · replace m6 := ite_p c3 m6
    refine xi_iconst (v := 0) dX12_keeps_9 (by decide) ?_
    refine xi_istore_n (lv' := [(2, .int 0), (0, .ref 149), (1, .int a)]) dX12_keeps_10 (by decide) rfl ?_
    refine xi_sub (lv' := [(0, .ref 149), (1, .int a), (2, .int 0)]) [1, 2, 0] rfl ?_
    obtain ⟨e33, t34, k35, m6⟩ := bnd_some m6
    obtain ⟨n36, k35⟩ := wh_itr k35
    refine SX12_keeps_11_w G Gb a r0 t0 n36 (0 : Int32) σ _ _ k35 ?_
    show xW G mX12_keeps (xrm 0 0 0) (xQ G (PQ r0 t0 Gb) 0 0) 40 [(0, .ref 149), (1, .int a)] [] (mem t34 Gb) 0 0
    refine xi_aload_n 0 dX12_keeps_40 rfl ?_
    refine xi_dup dX12_keeps_41 rfl ?_
    obtain ⟨v37, h38, m6⟩ := rdb_some m6
    refine yi_getV (f := 3) dX12_keeps_42 sh_149 rfl ok_9 (by decide) w_1011 rfl h38 ?_
    refine xi_iconst (v := 1) dX12_keeps_45 (by decide) ?_
    refine xi_isub (v := v37 - (1 : Int32)) dX12_keeps_46 rfl ?_
    obtain ⟨t39, h40, m6⟩ := wrb_some m6
    refine yi_putV (f := 3) (ty := .int) dX12_keeps_47 sh_149 rfl ok_9 (by decide) w_1011 rfl rfl pf_I rfl rfl h40 ?_
    obtain ⟨rfl, rfl⟩ := some_pair m6
    exact key7
noncomputable def SX12_done_2 (w1 : Int32) (c : Int32) (σ : St) : Option (((Int32) ⊕ ((Int32) ⊕ (Unit))) × St) :=
  (if (273 : Int32) ≤ c then (some (Sum.inr (Sum.inr ()), σ)) else (chk (inb c 273) (rdb σ 151 (c.toNatClampNeg) (fun v3 => (chk (inb c 273) (rdb σ 150 (c.toNatClampNeg) (fun v6 => (if v3 = v6 then (some (Sum.inl (c + 1), σ)) else (bnd (FX12_keeps w1 σ) (fun v9 t10 => (some (Sum.inr (Sum.inl v9), t10))))))))))))
set_option maxHeartbeats 4000000 in
set_option maxRecDepth 100000 in
theorem SX12_done_2_w (G : xG) (Gb : xMem) (w1 : Int32) (r0 : Int32) (t0 : St) :
    ∀ (k : Nat) (c : Int32) (σ : St) (r : (Int32) ⊕ (Unit)) (σ' : St), itr (SX12_done_2 w1) k c σ = some (r, σ') → (Sum.elim (fun v => v = r0 ∧ σ' = t0) (fun e => xW G mX12_done (xrm 1 0 0) (xQ G (PQ r0 t0 Gb) 0 0) 36 [(1, .int w1)] [] (mem σ' Gb) 0 0) r) → xW G mX12_done (xrm 1 0 0) (xQ G (PQ r0 t0 Gb) 0 0) 2 [(0, .ref 149), (1, .int w1), (2, .int c)] [] (mem σ Gb) 0 0 := by
  intro k
  induction k with
  | zero =>
    intro c σ r σ' h
    exact absurd h (itr_zero _ _ _ _)
  | succ k ih =>
    intro c σ r σ' h HE
    obtain ⟨x, s1, hs, h⟩ := itr_succ h
    unfold SX12_done_2 at hs
    refine xi_iload_n 2 dX12_done_2 rfl ?_
    refine xi_sipush (v := 273) dX12_done_3 (by decide) ?_
    refine xi_icmp_ge (tgt := 36) dX12_done_6 (by decide) (fun c1 => ?_) (fun c1 => ?_)
    · replace hs := ite_p c1 hs
      refine xi_sub (lv' := [(1, .int w1)]) [1] rfl ?_
      obtain ⟨rfl, rfl⟩ := some_pair hs
      obtain ⟨rfl, rfl⟩ := some_pair h
      exact HE
    · replace hs := ite_n c1 hs
      refine xi_aload_n 0 dX12_done_9 rfl ?_
      refine yi_getR (f := 1) dX12_done_10 sh_149 rfl ok_9 (by decide) w_1009 rfl ?_
      refine xi_iload_n 2 dX12_done_13 rfl ?_
      obtain ⟨g2, hs⟩ := chk_some hs
      obtain ⟨v3, h4, hs⟩ := rdb_some hs
      refine yi_ialoadV dX12_done_14 sh_151 g2 h4 ?_
      refine xi_aload_n 0 dX12_done_15 rfl ?_
      refine yi_getR (f := 0) dX12_done_16 sh_149 rfl ok_9 (by decide) w_1008 rfl ?_
      refine xi_iload_n 2 dX12_done_19 rfl ?_
      obtain ⟨g5, hs⟩ := chk_some hs
      obtain ⟨v6, h7, hs⟩ := rdb_some hs
      refine yi_ialoadV dX12_done_20 sh_150 g5 h7 ?_
      refine xi_icmp_eq (tgt := 30) dX12_done_21 (by decide) (fun c8 => ?_) (fun c8 => ?_)
      · replace hs := ite_p c8 hs
        refine xi_iinc (v := (c + 1)) (lv' := [(2, .int (c + 1)), (0, .ref 149), (1, .int w1)]) 2 dX12_done_30 rfl rfl (by decide) rfl ?_
        refine xi_goto (tgt := 2) dX12_done_33 (by decide) ?_
        refine xi_sub (lv' := [(0, .ref 149), (1, .int w1), (2, .int (c + 1))]) [1, 2, 0] rfl ?_
        obtain ⟨rfl, rfl⟩ := some_pair hs
        exact ih (c + 1) σ _ _ h HE
      · replace hs := ite_n c8 hs
        refine xi_aload_n 0 dX12_done_24 rfl ?_
        refine xi_iload_n 1 dX12_done_25 rfl ?_
        obtain ⟨v9, t10, k11, hs⟩ := bnd_some hs
        refine xi_callV (as := [.int w1]) (rest := []) dX12_done_26 (KX12_keeps G Gb w1 _ _ _ k11) mkX12_keeps w_1120 ws_39 w_1118 (mem_get sh_149) rfl rfl rfl rfl (Nat.le_of_ble_eq_true rfl) (Nat.le_of_ble_eq_true rfl) (Nat.le_of_ble_eq_true rfl) (Nat.le_of_ble_eq_true rfl) (Nat.le_of_ble_eq_true rfl) ?_
        intro v M2 hz
        obtain ⟨rfl, rfl⟩ := hz
        show xW _ _ _ _ 29 _ [.int v9] (mem t10 Gb) _ _
        obtain ⟨rfl, rfl⟩ := some_pair hs
        obtain ⟨rfl, rfl⟩ := some_pair h
        have r12 := HE
        obtain ⟨rfl, rfl⟩ := r12
        exact xi_iret dX12_done_29 rfl rfl (Nat.le_of_ble_eq_true rfl) (Nat.le_of_ble_eq_true rfl) ⟨rfl, rfl⟩
noncomputable def FX12_done (a : Int32) (σ : St) : Option ((Int32) × St) :=
  (bnd (wh (SX12_done_2 a) (0 : Int32) σ) (fun e13 t14 => Sum.elim (fun e13 => (some (e13, t14))) (fun e13 => (some (a, t14))) e13))
set_option maxHeartbeats 4000000 in
set_option maxRecDepth 100000 in
theorem KX12_done (G : xG) (Gb : xMem) (a : Int32) (σ : St) (r0 : Int32) (t0 : St) (hq : FX12_done a σ = some (r0, t0)) : xC G mX12_done 1 0 0 [.ref 149, .int a] (mem σ Gb) (PQ r0 t0 Gb) := by
  unfold FX12_done at hq
  refine xC.of (by decide) (Nat.le_of_ble_eq_true rfl) ?_
  show xW _ _ _ _ 0 [(0, .ref 149), (1, .int a)] [] _ 0 0
  refine xi_iconst (v := 0) dX12_done_0 (by decide) ?_
  refine xi_istore_n (lv' := [(2, .int 0), (0, .ref 149), (1, .int a)]) dX12_done_1 (by decide) rfl ?_
  refine xi_sub (lv' := [(0, .ref 149), (1, .int a), (2, .int 0)]) [1, 2, 0] rfl ?_
  obtain ⟨e13, t14, k15, hq⟩ := bnd_some hq
  obtain ⟨n16, k15⟩ := wh_itr k15
  refine SX12_done_2_w G Gb a r0 t0 n16 (0 : Int32) σ _ _ k15 ?_
  rcases e13 with e13 | e13
  · replace hq := sel_l hq
    have r17 := some_pair hq
    exact r17
  · replace hq := sel_r hq
    show xW G mX12_done (xrm 1 0 0) (xQ G (PQ r0 t0 Gb) 0 0) 36 [(1, .int a)] [] (mem t14 Gb) 0 0
    refine xi_iload_n 0 dX12_done_36 rfl ?_
    have r18 := some_pair hq
    obtain ⟨rfl, rfl⟩ := r18
    exact xi_iret dX12_done_37 rfl rfl (Nat.le_of_ble_eq_true rfl) (Nat.le_of_ble_eq_true rfl) ⟨rfl, rfl⟩
noncomputable def FX12_weight (a : Int32) (b : Int32) (c : Int32) (σ : St) : Option ((Int32) × St) :=
  (chk (inb (((((91 : Int32) * a) + (1 : Int32)) + ((9 : Int32) * b)) + c) 273) (rdb σ 150 ((((((91 : Int32) * a) + (1 : Int32)) + ((9 : Int32) * b)) + c).toNatClampNeg) (fun v2 => (some (v2, σ)))))
set_option maxHeartbeats 4000000 in
set_option maxRecDepth 100000 in
theorem KX12_weight (G : xG) (Gb : xMem) (a : Int32) (b : Int32) (c : Int32) (σ : St) (r0 : Int32) (t0 : St) (hq : FX12_weight a b c σ = some (r0, t0)) : xC G mX12_weight 0 0 0 [.ref 149, .int a, .int b, .int c] (mem σ Gb) (PQ r0 t0 Gb) := by
  unfold FX12_weight at hq
  refine xC.of (by decide) (Nat.le_of_ble_eq_true rfl) ?_
  show xW _ _ _ _ 0 [(0, .ref 149), (1, .int a), (2, .int b), (3, .int c)] [] _ 0 0
  refine xi_aload_n 0 dX12_weight_0 rfl ?_
  refine yi_getR (f := 0) dX12_weight_1 sh_149 rfl ok_9 (by decide) w_1008 rfl ?_
  refine xi_bipush (v := 91) dX12_weight_4 (by decide) ?_
  refine xi_iload_n 1 dX12_weight_6 rfl ?_
  refine xi_imul (v := (91 : Int32) * a) dX12_weight_7 rfl ?_
  refine xi_iconst (v := 1) dX12_weight_8 (by decide) ?_
  refine xi_iadd (v := ((91 : Int32) * a) + (1 : Int32)) dX12_weight_9 rfl ?_
  refine xi_bipush (v := 9) dX12_weight_10 (by decide) ?_
  refine xi_iload_n 2 dX12_weight_12 rfl ?_
  refine xi_imul (v := (9 : Int32) * b) dX12_weight_13 rfl ?_
  refine xi_iadd (v := (((91 : Int32) * a) + (1 : Int32)) + ((9 : Int32) * b)) dX12_weight_14 rfl ?_
  refine xi_iload_n 3 dX12_weight_15 rfl ?_
  refine xi_iadd (v := ((((91 : Int32) * a) + (1 : Int32)) + ((9 : Int32) * b)) + c) dX12_weight_16 rfl ?_
  obtain ⟨g1, hq⟩ := chk_some hq
  obtain ⟨v2, h3, hq⟩ := rdb_some hq
  refine yi_ialoadV dX12_weight_17 sh_150 g1 h3 ?_
  have r4 := some_pair hq
  obtain ⟨rfl, rfl⟩ := r4
  exact xi_iret dX12_weight_18 rfl rfl (Nat.le_of_ble_eq_true rfl) (Nat.le_of_ble_eq_true rfl) ⟨rfl, rfl⟩
noncomputable def SX12_nearOf_5 (w1 : Int32) (w2 : Int32) (c : Int32 × Int32) (σ : St) : Option (((Int32 × Int32) ⊕ (Int32)) × St) :=
  (bnd (FX12_points w1 σ) (fun v1 t2 => (if v1 ≤ c.2 then (some (Sum.inr c.1, t2)) else (bnd (FX12_weight w1 w2 c.2 t2) (fun v5 t6 => (bnd (if v5 ≤ (0 : Int32) then (some ((0 : Int32), t6)) else (some ((shl (1 : Int32) c.2), t6))) (fun v9 t10 => (some (Sum.inl ((c.1 ||| v9), (c.2 + 1)), t10)))))))))
set_option maxHeartbeats 4000000 in
set_option maxRecDepth 100000 in
theorem SX12_nearOf_5_w (G : xG) (Gb : xMem) (w1 : Int32) (w2 : Int32) (r0 : Int32) (t0 : St) :
    ∀ (k : Nat) (c : Int32 × Int32) (σ : St) (r : Int32) (σ' : St), itr (SX12_nearOf_5 w1 w2) k c σ = some (r, σ') → (xW G mX12_nearOf (xrm 1 0 0) (xQ G (PQ r0 t0 Gb) 0 0) 43 [(3, .int r)] [] (mem σ' Gb) 0 0) → xW G mX12_nearOf (xrm 1 0 0) (xQ G (PQ r0 t0 Gb) 0 0) 5 [(0, .ref 149), (1, .int w1), (2, .int w2), (3, .int c.1), (4, .int c.2)] [] (mem σ Gb) 0 0 := by
  intro k
  induction k with
  | zero =>
    intro c σ r σ' h
    exact absurd h (itr_zero _ _ _ _)
  | succ k ih =>
    intro c σ r σ' h HE
    obtain ⟨x, s1, hs, h⟩ := itr_succ h
    unfold SX12_nearOf_5 at hs
    refine xi_iload 4 dX12_nearOf_5 rfl ?_
    refine xi_aload_n 0 dX12_nearOf_7 rfl ?_
    refine xi_iload_n 1 dX12_nearOf_8 rfl ?_
    obtain ⟨v1, t2, k3, hs⟩ := bnd_some hs
    refine xi_callV (as := [.int w1]) (rest := [.int c.2]) dX12_nearOf_9 (KX12_points G Gb w1 _ _ _ k3) mkX12_points w_1108 ws_36 w_1106 (mem_get sh_149) rfl rfl rfl rfl (Nat.le_of_ble_eq_true rfl) (Nat.le_of_ble_eq_true rfl) (Nat.le_of_ble_eq_true rfl) (Nat.le_of_ble_eq_true rfl) (Nat.le_of_ble_eq_true rfl) ?_
    intro v M2 hz
    obtain ⟨rfl, rfl⟩ := hz
    show xW _ _ _ _ 12 _ [.int v1, .int c.2] (mem t2 Gb) _ _
    refine xi_icmp_ge (tgt := 43) dX12_nearOf_12 (by decide) (fun c4 => ?_) (fun c4 => ?_)
    · replace hs := ite_p c4 hs
      refine xi_sub (lv' := [(3, .int c.1)]) [3] rfl ?_
      obtain ⟨rfl, rfl⟩ := some_pair hs
      obtain ⟨rfl, rfl⟩ := some_pair h
      exact HE
    · replace hs := ite_n c4 hs
      refine xi_iload_n 3 dX12_nearOf_15 rfl ?_
      refine xi_aload_n 0 dX12_nearOf_16 rfl ?_
      refine xi_iload_n 1 dX12_nearOf_17 rfl ?_
      refine xi_iload_n 2 dX12_nearOf_18 rfl ?_
      refine xi_iload 4 dX12_nearOf_19 rfl ?_
      obtain ⟨v5, t6, k7, hs⟩ := bnd_some hs
      refine xi_callV (as := [.int w1, .int w2, .int c.2]) (rest := [.int c.1]) dX12_nearOf_21 (KX12_weight G Gb w1 w2 c.2 _ _ _ k7) mkX12_weight w_1192 ws_53 w_1190 (mem_get sh_149) rfl rfl rfl rfl (Nat.le_of_ble_eq_true rfl) (Nat.le_of_ble_eq_true rfl) (Nat.le_of_ble_eq_true rfl) (Nat.le_of_ble_eq_true rfl) (Nat.le_of_ble_eq_true rfl) ?_
      intro v M2 hz
      obtain ⟨rfl, rfl⟩ := hz
      show xW _ _ _ _ 24 _ [.int v5, .int c.1] (mem t6 Gb) _ _
      obtain ⟨v9, t10, m11, hs⟩ := bnd_some hs
      have key12 : xW G mX12_nearOf (xrm 1 0 0) (xQ G (PQ r0 t0 Gb) 0 0) 35 [(0, .ref 149), (1, .int w1), (2, .int w2), (4, .int c.2)] [.int v9, .int c.1] (mem t10 Gb) 0 0 := by
        refine xi_ior (v := c.1 ||| v9) dX12_nearOf_35 rfl ?_
        refine xi_istore_n (lv' := [(3, .int (c.1 ||| v9)), (0, .ref 149), (1, .int w1), (2, .int w2), (4, .int c.2)]) dX12_nearOf_36 (by decide) rfl ?_
        refine xi_iinc (v := (c.2 + 1)) (lv' := [(4, .int (c.2 + 1)), (3, .int (c.1 ||| v9)), (0, .ref 149), (1, .int w1), (2, .int w2)]) 4 dX12_nearOf_37 rfl rfl (by decide) rfl ?_
        refine xi_goto (tgt := 5) dX12_nearOf_40 (by decide) ?_
        refine xi_sub (lv' := [(0, .ref 149), (1, .int w1), (2, .int w2), (3, .int (c.1 ||| v9)), (4, .int (c.2 + 1))]) [2, 3, 4, 1, 0] rfl ?_
        obtain ⟨rfl, rfl⟩ := some_pair hs
        exact ih ((c.1 ||| v9), (c.2 + 1)) t10 _ _ h HE
      refine xi_if_le (tgt := 34) dX12_nearOf_24 (by decide) (fun c8 => ?_) (fun c8 => ?_)
      · replace m11 := ite_p c8 m11
        refine xi_iconst (v := 0) dX12_nearOf_34 (by decide) ?_
        obtain ⟨rfl, rfl⟩ := some_pair m11
        refine xi_sub (lv' := [(0, .ref 149), (1, .int w1), (2, .int w2), (4, .int c.2)]) [0, 1, 2, 4] rfl ?_
        exact key12
      · replace m11 := ite_n c8 m11
        refine xi_iconst (v := 1) dX12_nearOf_27 (by decide) ?_
        refine xi_iload 4 dX12_nearOf_28 rfl ?_
        refine xi_ishl (v := shl (1 : Int32) c.2) dX12_nearOf_30 rfl ?_
        refine xi_goto (tgt := 35) dX12_nearOf_31 (by decide) ?_
        obtain ⟨rfl, rfl⟩ := some_pair m11
        refine xi_sub (lv' := [(0, .ref 149), (1, .int w1), (2, .int w2), (4, .int c.2)]) [0, 1, 2, 4] rfl ?_
        exact key12
noncomputable def FX12_nearOf (a : Int32) (b : Int32) (σ : St) : Option ((Int32) × St) :=
  (bnd (wh (SX12_nearOf_5 a b) ((0 : Int32), (0 : Int32)) σ) (fun e13 t14 => (some (e13, t14))))
set_option maxHeartbeats 4000000 in
set_option maxRecDepth 100000 in
theorem KX12_nearOf (G : xG) (Gb : xMem) (a : Int32) (b : Int32) (σ : St) (r0 : Int32) (t0 : St) (hq : FX12_nearOf a b σ = some (r0, t0)) : xC G mX12_nearOf 1 0 0 [.ref 149, .int a, .int b] (mem σ Gb) (PQ r0 t0 Gb) := by
  unfold FX12_nearOf at hq
  refine xC.of (by decide) (Nat.le_of_ble_eq_true rfl) ?_
  show xW _ _ _ _ 0 [(0, .ref 149), (1, .int a), (2, .int b)] [] _ 0 0
  refine xi_iconst (v := 0) dX12_nearOf_0 (by decide) ?_
  refine xi_istore_n (lv' := [(3, .int 0), (0, .ref 149), (1, .int a), (2, .int b)]) dX12_nearOf_1 (by decide) rfl ?_
  refine xi_iconst (v := 0) dX12_nearOf_2 (by decide) ?_
  refine xi_istore (lv' := [(4, .int 0), (3, .int 0), (0, .ref 149), (1, .int a), (2, .int b)]) dX12_nearOf_3 (by decide) rfl ?_
  refine xi_sub (lv' := [(0, .ref 149), (1, .int a), (2, .int b), (3, .int 0), (4, .int 0)]) [2, 3, 4, 1, 0] rfl ?_
  obtain ⟨e13, t14, k15, hq⟩ := bnd_some hq
  obtain ⟨n16, k15⟩ := wh_itr k15
  refine SX12_nearOf_5_w G Gb a b r0 t0 n16 ((0 : Int32), (0 : Int32)) σ _ _ k15 ?_
  show xW G mX12_nearOf (xrm 1 0 0) (xQ G (PQ r0 t0 Gb) 0 0) 43 [(3, .int e13)] [] (mem t14 Gb) 0 0
  refine xi_iload_n 0 dX12_nearOf_43 rfl ?_
  have r17 := some_pair hq
  obtain ⟨rfl, rfl⟩ := r17
  exact xi_iret dX12_nearOf_44 rfl rfl (Nat.le_of_ble_eq_true rfl) (Nat.le_of_ble_eq_true rfl) ⟨rfl, rfl⟩
noncomputable def SX12_ones_4 (c : Int32 × Int32) (σ : St) : Option (((Int32 × Int32) ⊕ (Int32)) × St) :=
  (if c.2 = (0 : Int32) then (some (Sum.inr c.1, σ)) else (some (Sum.inl ((c.1 + 1), (c.2 &&& (c.2 - (1 : Int32)))), σ)))
set_option maxHeartbeats 4000000 in
set_option maxRecDepth 100000 in
theorem SX12_ones_4_w (G : xG) (Gb : xMem) (r0 : Int32) (t0 : St) :
    ∀ (k : Nat) (c : Int32 × Int32) (σ : St) (r : Int32) (σ' : St), itr (SX12_ones_4) k c σ = some (r, σ') → (xW G mX12_ones (xrm 0 0 0) (xQ G (PQ r0 t0 Gb) 0 0) 20 [(1, .int r)] [] (mem σ' Gb) 0 0) → xW G mX12_ones (xrm 0 0 0) (xQ G (PQ r0 t0 Gb) 0 0) 4 [(1, .int c.1), (2, .int c.2)] [] (mem σ Gb) 0 0 := by
  intro k
  induction k with
  | zero =>
    intro c σ r σ' h
    exact absurd h (itr_zero _ _ _ _)
  | succ k ih =>
    intro c σ r σ' h HE
    obtain ⟨x, s1, hs, h⟩ := itr_succ h
    unfold SX12_ones_4 at hs
    refine xi_iload_n 1 dX12_ones_4 rfl ?_
    refine xi_if_eq (tgt := 20) dX12_ones_5 (by decide) (fun c1 => ?_) (fun c1 => ?_)
    · replace hs := ite_p c1 hs
      refine xi_sub (lv' := [(1, .int c.1)]) [0] rfl ?_
      obtain ⟨rfl, rfl⟩ := some_pair hs
      obtain ⟨rfl, rfl⟩ := some_pair h
      exact HE
    · replace hs := ite_n c1 hs
      refine xi_iinc (v := (c.1 + 1)) (lv' := [(1, .int (c.1 + 1)), (2, .int c.2)]) 0 dX12_ones_8 rfl rfl (by decide) rfl ?_
      refine xi_iload_n 1 dX12_ones_11 rfl ?_
      refine xi_iload_n 1 dX12_ones_12 rfl ?_
      refine xi_iconst (v := 1) dX12_ones_13 (by decide) ?_
      refine xi_isub (v := c.2 - (1 : Int32)) dX12_ones_14 rfl ?_
      refine xi_iand (v := c.2 &&& (c.2 - (1 : Int32))) dX12_ones_15 rfl ?_
      refine xi_istore_n (lv' := [(2, .int (c.2 &&& (c.2 - (1 : Int32)))), (1, .int (c.1 + 1))]) dX12_ones_16 (by decide) rfl ?_
      refine xi_goto (tgt := 4) dX12_ones_17 (by decide) ?_
      refine xi_sub (lv' := [(1, .int (c.1 + 1)), (2, .int (c.2 &&& (c.2 - (1 : Int32))))]) [1, 0] rfl ?_
      obtain ⟨rfl, rfl⟩ := some_pair hs
      exact ih ((c.1 + 1), (c.2 &&& (c.2 - (1 : Int32)))) σ _ _ h HE
noncomputable def FX12_ones (a : Int32) (σ : St) : Option ((Int32) × St) :=
  (bnd (wh (SX12_ones_4) ((0 : Int32), a) σ) (fun e2 t3 => (some (e2, t3))))
set_option maxHeartbeats 4000000 in
set_option maxRecDepth 100000 in
theorem KX12_ones (G : xG) (Gb : xMem) (a : Int32) (σ : St) (r0 : Int32) (t0 : St) (hq : FX12_ones a σ = some (r0, t0)) : xC G mX12_ones 0 0 0 [.int a] (mem σ Gb) (PQ r0 t0 Gb) := by
  unfold FX12_ones at hq
  refine xC.of (by decide) (Nat.le_of_ble_eq_true rfl) ?_
  show xW _ _ _ _ 0 [(0, .int a)] [] _ 0 0
  refine xi_iconst (v := 0) dX12_ones_0 (by decide) ?_
  refine xi_istore_n (lv' := [(1, .int 0), (0, .int a)]) dX12_ones_1 (by decide) rfl ?_
  refine xi_iload_n 1 dX12_ones_2 rfl ?_
  refine xi_istore_n (lv' := [(2, .int a), (1, .int 0), (0, .int a)]) dX12_ones_3 (by decide) rfl ?_
  refine xi_sub (lv' := [(1, .int 0), (2, .int a)]) [1, 0] rfl ?_
  obtain ⟨e2, t3, k4, hq⟩ := bnd_some hq
  obtain ⟨n5, k4⟩ := wh_itr k4
  refine SX12_ones_4_w G Gb r0 t0 n5 ((0 : Int32), a) σ _ _ k4 ?_
  show xW G mX12_ones (xrm 0 0 0) (xQ G (PQ r0 t0 Gb) 0 0) 20 [(1, .int e2)] [] (mem t3 Gb) 0 0
  refine xi_iload_n 0 dX12_ones_20 rfl ?_
  have r6 := some_pair hq
  obtain ⟨rfl, rfl⟩ := r6
  exact xi_iret dX12_ones_21 rfl rfl (Nat.le_of_ble_eq_true rfl) (Nat.le_of_ble_eq_true rfl) ⟨rfl, rfl⟩
noncomputable def SX12_lines_4 (w1 : Int32) (c : Int32 × Int32) (σ : St) : Option (((Int32 × Int32) ⊕ (Int32)) × St) :=
  (bnd (FX12_points w1 σ) (fun v1 t2 => (if v1 ≤ c.2 then (some (Sum.inr c.1, t2)) else (bnd (FX12_nearOf w1 c.2 t2) (fun v5 t6 => (bnd (FX12_ones v5 t6) (fun v8 t9 => (some (Sum.inl ((c.1 + v8), (c.2 + 1)), t9)))))))))
set_option maxHeartbeats 4000000 in
set_option maxRecDepth 100000 in
theorem SX12_lines_4_w (G : xG) (Gb : xMem) (w1 : Int32) (r0 : Int32) (t0 : St) :
    ∀ (k : Nat) (c : Int32 × Int32) (σ : St) (r : Int32) (σ' : St), itr (SX12_lines_4 w1) k c σ = some (r, σ') → (xW G mX12_lines (xrm 2 0 0) (xQ G (PQ r0 t0 Gb) 0 0) 31 [(2, .int r)] [] (mem σ' Gb) 0 0) → xW G mX12_lines (xrm 2 0 0) (xQ G (PQ r0 t0 Gb) 0 0) 4 [(0, .ref 149), (1, .int w1), (2, .int c.1), (3, .int c.2)] [] (mem σ Gb) 0 0 := by
  intro k
  induction k with
  | zero =>
    intro c σ r σ' h
    exact absurd h (itr_zero _ _ _ _)
  | succ k ih =>
    intro c σ r σ' h HE
    obtain ⟨x, s1, hs, h⟩ := itr_succ h
    unfold SX12_lines_4 at hs
    refine xi_iload_n 3 dX12_lines_4 rfl ?_
    refine xi_aload_n 0 dX12_lines_5 rfl ?_
    refine xi_iload_n 1 dX12_lines_6 rfl ?_
    obtain ⟨v1, t2, k3, hs⟩ := bnd_some hs
    refine xi_callV (as := [.int w1]) (rest := [.int c.2]) dX12_lines_7 (KX12_points G Gb w1 _ _ _ k3) mkX12_points w_1108 ws_36 w_1106 (mem_get sh_149) rfl rfl rfl rfl (Nat.le_of_ble_eq_true rfl) (Nat.le_of_ble_eq_true rfl) (Nat.le_of_ble_eq_true rfl) (Nat.le_of_ble_eq_true rfl) (Nat.le_of_ble_eq_true rfl) ?_
    intro v M2 hz
    obtain ⟨rfl, rfl⟩ := hz
    show xW _ _ _ _ 10 _ [.int v1, .int c.2] (mem t2 Gb) _ _
    refine xi_icmp_ge (tgt := 31) dX12_lines_10 (by decide) (fun c4 => ?_) (fun c4 => ?_)
    · replace hs := ite_p c4 hs
      refine xi_sub (lv' := [(2, .int c.1)]) [2] rfl ?_
      obtain ⟨rfl, rfl⟩ := some_pair hs
      obtain ⟨rfl, rfl⟩ := some_pair h
      exact HE
    · replace hs := ite_n c4 hs
      refine xi_iload_n 2 dX12_lines_13 rfl ?_
      refine xi_aload_n 0 dX12_lines_14 rfl ?_
      refine xi_iload_n 1 dX12_lines_15 rfl ?_
      refine xi_iload_n 3 dX12_lines_16 rfl ?_
      obtain ⟨v5, t6, k7, hs⟩ := bnd_some hs
      refine xi_callV (as := [.int w1, .int c.2]) (rest := [.int c.1]) dX12_lines_17 (KX12_nearOf G Gb w1 c.2 _ _ _ k7) mkX12_nearOf w_1188 ws_52 w_1186 (mem_get sh_149) rfl rfl rfl rfl (Nat.le_of_ble_eq_true rfl) (Nat.le_of_ble_eq_true rfl) (Nat.le_of_ble_eq_true rfl) (Nat.le_of_ble_eq_true rfl) (Nat.le_of_ble_eq_true rfl) ?_
      intro v M2 hz
      obtain ⟨rfl, rfl⟩ := hz
      show xW _ _ _ _ 20 _ [.int v5, .int c.1] (mem t6 Gb) _ _
      obtain ⟨v8, t9, k10, hs⟩ := bnd_some hs
      refine xi_callS (as := [.int v5]) (rest := [.int c.1]) dX12_lines_20 (KX12_ones G Gb v5 _ _ _ k10) mkX12_ones w_1195 w_1194 rfl rfl (Nat.le_of_ble_eq_true rfl) (Nat.le_of_ble_eq_true rfl) (Nat.le_of_ble_eq_true rfl) (Nat.le_of_ble_eq_true rfl) (Nat.le_of_ble_eq_true rfl) ?_
      intro v M2 hz
      obtain ⟨rfl, rfl⟩ := hz
      show xW _ _ _ _ 23 _ [.int v8, .int c.1] (mem t9 Gb) _ _
      refine xi_iadd (v := c.1 + v8) dX12_lines_23 rfl ?_
      refine xi_istore_n (lv' := [(2, .int (c.1 + v8)), (0, .ref 149), (1, .int w1), (3, .int c.2)]) dX12_lines_24 (by decide) rfl ?_
      refine xi_iinc (v := (c.2 + 1)) (lv' := [(3, .int (c.2 + 1)), (2, .int (c.1 + v8)), (0, .ref 149), (1, .int w1)]) 3 dX12_lines_25 rfl rfl (by decide) rfl ?_
      refine xi_goto (tgt := 4) dX12_lines_28 (by decide) ?_
      refine xi_sub (lv' := [(0, .ref 149), (1, .int w1), (2, .int (c.1 + v8)), (3, .int (c.2 + 1))]) [2, 3, 1, 0] rfl ?_
      obtain ⟨rfl, rfl⟩ := some_pair hs
      exact ih ((c.1 + v8), (c.2 + 1)) t9 _ _ h HE
noncomputable def FX12_lines (a : Int32) (σ : St) : Option ((Int32) × St) :=
  (bnd (wh (SX12_lines_4 a) ((0 : Int32), (0 : Int32)) σ) (fun e11 t12 => (some ((e11 / (2 : Int32)), t12))))
set_option maxHeartbeats 4000000 in
set_option maxRecDepth 100000 in
theorem KX12_lines (G : xG) (Gb : xMem) (a : Int32) (σ : St) (r0 : Int32) (t0 : St) (hq : FX12_lines a σ = some (r0, t0)) : xC G mX12_lines 2 0 0 [.ref 149, .int a] (mem σ Gb) (PQ r0 t0 Gb) := by
  unfold FX12_lines at hq
  refine xC.of (by decide) (Nat.le_of_ble_eq_true rfl) ?_
  show xW _ _ _ _ 0 [(0, .ref 149), (1, .int a)] [] _ 0 0
  refine xi_iconst (v := 0) dX12_lines_0 (by decide) ?_
  refine xi_istore_n (lv' := [(2, .int 0), (0, .ref 149), (1, .int a)]) dX12_lines_1 (by decide) rfl ?_
  refine xi_iconst (v := 0) dX12_lines_2 (by decide) ?_
  refine xi_istore_n (lv' := [(3, .int 0), (2, .int 0), (0, .ref 149), (1, .int a)]) dX12_lines_3 (by decide) rfl ?_
  refine xi_sub (lv' := [(0, .ref 149), (1, .int a), (2, .int 0), (3, .int 0)]) [2, 3, 1, 0] rfl ?_
  obtain ⟨e11, t12, k13, hq⟩ := bnd_some hq
  obtain ⟨n14, k13⟩ := wh_itr k13
  refine SX12_lines_4_w G Gb a r0 t0 n14 ((0 : Int32), (0 : Int32)) σ _ _ k13 ?_
  show xW G mX12_lines (xrm 2 0 0) (xQ G (PQ r0 t0 Gb) 0 0) 31 [(2, .int e11)] [] (mem t12 Gb) 0 0
  refine xi_iload_n 0 dX12_lines_31 rfl ?_
  refine xi_iconst (v := 2) dX12_lines_32 (by decide) ?_
  refine xi_idiv (v := e11 / (2 : Int32)) dX12_lines_33 (by decide) rfl ?_
  have r15 := some_pair hq
  obtain ⟨rfl, rfl⟩ := r15
  exact xi_iret dX12_lines_34 rfl rfl (Nat.le_of_ble_eq_true rfl) (Nat.le_of_ble_eq_true rfl) ⟨rfl, rfl⟩
noncomputable def SX12_remembers_2 (c : Int32) (σ : St) : Option (((Int32) ⊕ (Unit)) × St) :=
  (if (273 : Int32) ≤ c then (some (Sum.inr (), σ)) else (chk (inb c 273) (rdb σ 150 (c.toNatClampNeg) (fun v3 => (chk (inb c 273) (wrb σ 151 (c.toNatClampNeg) v3 (fun t6 => (some (Sum.inl (c + 1), t6)))))))))
set_option maxHeartbeats 4000000 in
set_option maxRecDepth 100000 in
theorem SX12_remembers_2_w (G : xG) (Gb : xMem) (r0 : Unit) (t0 : St) :
    ∀ (k : Nat) (c : Int32) (σ : St) (r : Unit) (σ' : St), itr (SX12_remembers_2) k c σ = some (r, σ') → (xW G mX12_remembers (xrm 0 0 0) (xQ G (PV r0 t0 Gb) 0 0) 27 [] [] (mem σ' Gb) 0 0) → xW G mX12_remembers (xrm 0 0 0) (xQ G (PV r0 t0 Gb) 0 0) 2 [(0, .ref 149), (1, .int c)] [] (mem σ Gb) 0 0 := by
  intro k
  induction k with
  | zero =>
    intro c σ r σ' h
    exact absurd h (itr_zero _ _ _ _)
  | succ k ih =>
    intro c σ r σ' h HE
    obtain ⟨x, s1, hs, h⟩ := itr_succ h
    unfold SX12_remembers_2 at hs
    refine xi_iload_n 1 dX12_remembers_2 rfl ?_
    refine xi_sipush (v := 273) dX12_remembers_3 (by decide) ?_
    refine xi_icmp_ge (tgt := 27) dX12_remembers_6 (by decide) (fun c1 => ?_) (fun c1 => ?_)
    · replace hs := ite_p c1 hs
      refine xi_sub (lv' := []) [] rfl ?_
      obtain ⟨rfl, rfl⟩ := some_pair hs
      obtain ⟨rfl, rfl⟩ := some_pair h
      exact HE
    · replace hs := ite_n c1 hs
      refine xi_aload_n 0 dX12_remembers_9 rfl ?_
      refine yi_getR (f := 1) dX12_remembers_10 sh_149 rfl ok_9 (by decide) w_1009 rfl ?_
      refine xi_iload_n 1 dX12_remembers_13 rfl ?_
      refine xi_aload_n 0 dX12_remembers_14 rfl ?_
      refine yi_getR (f := 0) dX12_remembers_15 sh_149 rfl ok_9 (by decide) w_1008 rfl ?_
      refine xi_iload_n 1 dX12_remembers_18 rfl ?_
      obtain ⟨g2, hs⟩ := chk_some hs
      obtain ⟨v3, h4, hs⟩ := rdb_some hs
      refine yi_ialoadV dX12_remembers_19 sh_150 g2 h4 ?_
      obtain ⟨g5, hs⟩ := chk_some hs
      obtain ⟨t6, h7, hs⟩ := wrb_some hs
      refine yi_iastoreV dX12_remembers_20 sh_151 g5 h7 ?_
      refine xi_iinc (v := (c + 1)) (lv' := [(1, .int (c + 1)), (0, .ref 149)]) 1 dX12_remembers_21 rfl rfl (by decide) rfl ?_
      refine xi_goto (tgt := 2) dX12_remembers_24 (by decide) ?_
      refine xi_sub (lv' := [(0, .ref 149), (1, .int (c + 1))]) [1, 0] rfl ?_
      obtain ⟨rfl, rfl⟩ := some_pair hs
      exact ih (c + 1) t6 _ _ h HE
noncomputable def FX12_remembers (σ : St) : Option ((Unit) × St) :=
  (bnd (wh (SX12_remembers_2) (0 : Int32) σ) (fun e8 t9 => (some ((), t9))))
set_option maxHeartbeats 4000000 in
set_option maxRecDepth 100000 in
theorem KX12_remembers (G : xG) (Gb : xMem) (σ : St) (r0 : Unit) (t0 : St) (hq : FX12_remembers σ = some (r0, t0)) : xC G mX12_remembers 0 0 0 [.ref 149] (mem σ Gb) (PV r0 t0 Gb) := by
  unfold FX12_remembers at hq
  refine xC.of (by decide) (Nat.le_of_ble_eq_true rfl) ?_
  show xW _ _ _ _ 0 [(0, .ref 149)] [] _ 0 0
  refine xi_iconst (v := 0) dX12_remembers_0 (by decide) ?_
  refine xi_istore_n (lv' := [(1, .int 0), (0, .ref 149)]) dX12_remembers_1 (by decide) rfl ?_
  refine xi_sub (lv' := [(0, .ref 149), (1, .int 0)]) [1, 0] rfl ?_
  obtain ⟨e8, t9, k10, hq⟩ := bnd_some hq
  obtain ⟨n11, k10⟩ := wh_itr k10
  refine SX12_remembers_2_w G Gb r0 t0 n11 (0 : Int32) σ _ _ k10 ?_
  show xW G mX12_remembers (xrm 0 0 0) (xQ G (PV r0 t0 Gb) 0 0) 27 [] [] (mem t9 Gb) 0 0
  have r12 := some_pair hq
  obtain ⟨rfl, rfl⟩ := r12
  exact xi_vret dX12_remembers_27 rfl (Nat.le_of_ble_eq_true rfl) (Nat.le_of_ble_eq_true rfl) ⟨rfl, rfl⟩
noncomputable def FX12_weighs (a : Int32) (b : Int32) (c : Int32) (d : Int32) (σ : St) : Option ((Unit) × St) :=
  (chk (inb (((((91 : Int32) * a) + (1 : Int32)) + ((9 : Int32) * b)) + c) 273) (wrb σ 150 ((((((91 : Int32) * a) + (1 : Int32)) + ((9 : Int32) * b)) + c).toNatClampNeg) d (fun t2 => (chk (inb (((((91 : Int32) * a) + (1 : Int32)) + ((9 : Int32) * c)) + b) 273) (wrb t2 150 ((((((91 : Int32) * a) + (1 : Int32)) + ((9 : Int32) * c)) + b).toNatClampNeg) d (fun t5 => (some ((), t5))))))))
set_option maxHeartbeats 4000000 in
set_option maxRecDepth 100000 in
theorem KX12_weighs (G : xG) (Gb : xMem) (a : Int32) (b : Int32) (c : Int32) (d : Int32) (σ : St) (r0 : Unit) (t0 : St) (hq : FX12_weighs a b c d σ = some (r0, t0)) : xC G mX12_weighs 0 0 0 [.ref 149, .int a, .int b, .int c, .int d] (mem σ Gb) (PV r0 t0 Gb) := by
  unfold FX12_weighs at hq
  refine xC.of (by decide) (Nat.le_of_ble_eq_true rfl) ?_
  show xW _ _ _ _ 0 [(0, .ref 149), (1, .int a), (2, .int b), (3, .int c), (4, .int d)] [] _ 0 0
  refine xi_aload_n 0 dX12_weighs_0 rfl ?_
  refine yi_getR (f := 0) dX12_weighs_1 sh_149 rfl ok_9 (by decide) w_1008 rfl ?_
  refine xi_bipush (v := 91) dX12_weighs_4 (by decide) ?_
  refine xi_iload_n 1 dX12_weighs_6 rfl ?_
  refine xi_imul (v := (91 : Int32) * a) dX12_weighs_7 rfl ?_
  refine xi_iconst (v := 1) dX12_weighs_8 (by decide) ?_
  refine xi_iadd (v := ((91 : Int32) * a) + (1 : Int32)) dX12_weighs_9 rfl ?_
  refine xi_bipush (v := 9) dX12_weighs_10 (by decide) ?_
  refine xi_iload_n 2 dX12_weighs_12 rfl ?_
  refine xi_imul (v := (9 : Int32) * b) dX12_weighs_13 rfl ?_
  refine xi_iadd (v := (((91 : Int32) * a) + (1 : Int32)) + ((9 : Int32) * b)) dX12_weighs_14 rfl ?_
  refine xi_iload_n 3 dX12_weighs_15 rfl ?_
  refine xi_iadd (v := ((((91 : Int32) * a) + (1 : Int32)) + ((9 : Int32) * b)) + c) dX12_weighs_16 rfl ?_
  refine xi_iload 4 dX12_weighs_17 rfl ?_
  obtain ⟨g1, hq⟩ := chk_some hq
  obtain ⟨t2, h3, hq⟩ := wrb_some hq
  refine yi_iastoreV dX12_weighs_19 sh_150 g1 h3 ?_
  refine xi_aload_n 0 dX12_weighs_20 rfl ?_
  refine yi_getR (f := 0) dX12_weighs_21 sh_149 rfl ok_9 (by decide) w_1008 rfl ?_
  refine xi_bipush (v := 91) dX12_weighs_24 (by decide) ?_
  refine xi_iload_n 1 dX12_weighs_26 rfl ?_
  refine xi_imul (v := (91 : Int32) * a) dX12_weighs_27 rfl ?_
  refine xi_iconst (v := 1) dX12_weighs_28 (by decide) ?_
  refine xi_iadd (v := ((91 : Int32) * a) + (1 : Int32)) dX12_weighs_29 rfl ?_
  refine xi_bipush (v := 9) dX12_weighs_30 (by decide) ?_
  refine xi_iload_n 3 dX12_weighs_32 rfl ?_
  refine xi_imul (v := (9 : Int32) * c) dX12_weighs_33 rfl ?_
  refine xi_iadd (v := (((91 : Int32) * a) + (1 : Int32)) + ((9 : Int32) * c)) dX12_weighs_34 rfl ?_
  refine xi_iload_n 2 dX12_weighs_35 rfl ?_
  refine xi_iadd (v := ((((91 : Int32) * a) + (1 : Int32)) + ((9 : Int32) * c)) + b) dX12_weighs_36 rfl ?_
  refine xi_iload 4 dX12_weighs_37 rfl ?_
  obtain ⟨g4, hq⟩ := chk_some hq
  obtain ⟨t5, h6, hq⟩ := wrb_some hq
  refine yi_iastoreV dX12_weighs_39 sh_150 g4 h6 ?_
  have r7 := some_pair hq
  obtain ⟨rfl, rfl⟩ := r7
  exact xi_vret dX12_weighs_40 rfl (Nat.le_of_ble_eq_true rfl) (Nat.le_of_ble_eq_true rfl) ⟨rfl, rfl⟩
noncomputable def FX12_adds (a : Int32) (b : Int32) (c : Int32) (d : Int32) (σ : St) : Option ((Int32) × St) :=
  (bnd (FX12_areTwo a b c σ) (fun v1 t2 => (if v1 = (0 : Int32) then (some ((-2 : Int32), t2)) else (bnd (FX12_in d.toInt64 (1 : Int64) (9 : Int64) t2) (fun v6 t7 => (if v6 = (0 : Int32) then (some ((-2 : Int32), t7)) else (bnd (FX12_weight a b c t7) (fun v10 t11 => (if v10 = (0 : Int32) then (bnd (FX12_lines a t11) (fun v24 t25 => (if v24 = (30 : Int32) then (some ((-5 : Int32), t25)) else (bnd (FX12_remembers  t25) (fun v28 t29 => (bnd (FX12_weighs a b c d t29) (fun v31 t32 => (bnd (FX12_done v10 t32) (fun v34 t35 => (some (v34, t35))))))))))) else (bnd (FX12_remembers  t11) (fun v14 t15 => (bnd (FX12_weighs a b c d t15) (fun v17 t18 => (bnd (FX12_done v10 t18) (fun v20 t21 => (some (v20, t21)))))))))))))))))
set_option maxHeartbeats 4000000 in
set_option maxRecDepth 100000 in
theorem KX12_adds (G : xG) (Gb : xMem) (a : Int32) (b : Int32) (c : Int32) (d : Int32) (σ : St) (r0 : Int32) (t0 : St) (hq : FX12_adds a b c d σ = some (r0, t0)) : xC G mX12_adds 5 0 0 [.ref 149, .int a, .int b, .int c, .int d] (mem σ Gb) (PQ r0 t0 Gb) := by
  unfold FX12_adds at hq
  refine xC.of (by decide) (Nat.le_of_ble_eq_true rfl) ?_
  show xW _ _ _ _ 0 [(0, .ref 149), (1, .int a), (2, .int b), (3, .int c), (4, .int d)] [] _ 0 0
  refine xi_aload_n 0 dX12_adds_0 rfl ?_
  refine xi_iload_n 1 dX12_adds_1 rfl ?_
  refine xi_iload_n 2 dX12_adds_2 rfl ?_
  refine xi_iload_n 3 dX12_adds_3 rfl ?_
  obtain ⟨v1, t2, k3, hq⟩ := bnd_some hq
  refine xi_callV (as := [.int a, .int b, .int c]) (rest := []) dX12_adds_4 (KX12_areTwo G Gb a b c _ _ _ k3) mkX12_areTwo w_1500 ws_90 w_1498 (mem_get sh_149) rfl rfl rfl rfl (Nat.le_of_ble_eq_true rfl) (Nat.le_of_ble_eq_true rfl) (Nat.le_of_ble_eq_true rfl) (Nat.le_of_ble_eq_true rfl) (Nat.le_of_ble_eq_true rfl) ?_
  intro v M2 hz
  obtain ⟨rfl, rfl⟩ := hz
  show xW _ _ _ _ 7 _ [.int v1] (mem t2 Gb) _ _
  refine xi_if_eq (tgt := 23) dX12_adds_7 (by decide) (fun c4 => ?_) (fun c4 => ?_)
  · replace hq := ite_p c4 hq
    refine xi_bipush (v := (-2)) dX12_adds_23 (by decide) ?_
    have r5 := some_pair hq
    obtain ⟨rfl, rfl⟩ := r5
    exact xi_iret dX12_adds_25 rfl rfl (Nat.le_of_ble_eq_true rfl) (Nat.le_of_ble_eq_true rfl) ⟨rfl, rfl⟩
  · replace hq := ite_n c4 hq
    refine xi_iload 4 dX12_adds_10 rfl ?_
    refine xi_i2l dX12_adds_12 rfl ?_
    refine xi_lconst (v := 1) dX12_adds_13 (by decide) ?_
    refine xi_ldc2 (v := 9) dX12_adds_14 w_1502 ?_
    obtain ⟨v6, t7, k8, hq⟩ := bnd_some hq
    refine xi_callS (as := [.long d.toInt64, .long 1, .long 9]) (rest := []) dX12_adds_17 (KX12_in G Gb d.toInt64 (1 : Int64) (9 : Int64) _ _ _ k8) mkX12_in w_1100 w_1099 rfl rfl (Nat.le_of_ble_eq_true rfl) (Nat.le_of_ble_eq_true rfl) (Nat.le_of_ble_eq_true rfl) (Nat.le_of_ble_eq_true rfl) (Nat.le_of_ble_eq_true rfl) ?_
    intro v M2 hz
    obtain ⟨rfl, rfl⟩ := hz
    show xW _ _ _ _ 20 _ [.int v6] (mem t7 Gb) _ _
    refine xi_if_ne (tgt := 26) dX12_adds_20 (by decide) (fun c9 => ?_) (fun c9 => ?_)
    · replace hq := ite_n c9 hq
      refine xi_aload_n 0 dX12_adds_26 rfl ?_
      refine xi_iload_n 1 dX12_adds_27 rfl ?_
      refine xi_iload_n 2 dX12_adds_28 rfl ?_
      refine xi_iload_n 3 dX12_adds_29 rfl ?_
      obtain ⟨v10, t11, k12, hq⟩ := bnd_some hq
      refine xi_callV (as := [.int a, .int b, .int c]) (rest := []) dX12_adds_30 (KX12_weight G Gb a b c _ _ _ k12) mkX12_weight w_1192 ws_53 w_1190 (mem_get sh_149) rfl rfl rfl rfl (Nat.le_of_ble_eq_true rfl) (Nat.le_of_ble_eq_true rfl) (Nat.le_of_ble_eq_true rfl) (Nat.le_of_ble_eq_true rfl) (Nat.le_of_ble_eq_true rfl) ?_
      intro v M2 hz
      obtain ⟨rfl, rfl⟩ := hz
      show xW _ _ _ _ 33 _ [.int v10] (mem t11 Gb) _ _
      refine xi_istore (lv' := [(5, .int v10), (0, .ref 149), (1, .int a), (2, .int b), (3, .int c), (4, .int d)]) dX12_adds_33 (by decide) rfl ?_
      refine xi_iload 0 dX12_adds_35 rfl ?_
      refine xi_if_ne (tgt := 53) dX12_adds_37 (by decide) (fun c13 => ?_) (fun c13 => ?_)
      · replace hq := ite_n c13 hq
        refine xi_aload_n 1 dX12_adds_53 rfl ?_
        obtain ⟨v14, t15, k16, hq⟩ := bnd_some hq
        refine xi_callV (as := []) (rest := []) dX12_adds_54 (KX12_remembers G Gb  _ _ _ k16) mkX12_remembers w_1112 ws_37 w_1110 (mem_get sh_149) rfl rfl rfl rfl (Nat.le_of_ble_eq_true rfl) (Nat.le_of_ble_eq_true rfl) (Nat.le_of_ble_eq_true rfl) (Nat.le_of_ble_eq_true rfl) (Nat.le_of_ble_eq_true rfl) ?_
        intro v M2 hz
        obtain ⟨rfl, rfl⟩ := hz
        show xW _ _ _ _ 57 _ [] (mem t15 Gb) _ _
        refine xi_aload_n 1 dX12_adds_57 rfl ?_
        refine xi_iload_n 2 dX12_adds_58 rfl ?_
        refine xi_iload_n 3 dX12_adds_59 rfl ?_
        refine xi_iload_n 4 dX12_adds_60 rfl ?_
        refine xi_iload 5 dX12_adds_61 rfl ?_
        obtain ⟨v17, t18, k19, hq⟩ := bnd_some hq
        refine xi_callV (as := [.int a, .int b, .int c, .int d]) (rest := []) dX12_adds_63 (KX12_weighs G Gb a b c d _ _ _ k19) mkX12_weighs w_1199 ws_54 w_1197 (mem_get sh_149) rfl rfl rfl rfl (Nat.le_of_ble_eq_true rfl) (Nat.le_of_ble_eq_true rfl) (Nat.le_of_ble_eq_true rfl) (Nat.le_of_ble_eq_true rfl) (Nat.le_of_ble_eq_true rfl) ?_
        intro v M2 hz
        obtain ⟨rfl, rfl⟩ := hz
        show xW _ _ _ _ 66 _ [] (mem t18 Gb) _ _
        refine xi_aload_n 1 dX12_adds_66 rfl ?_
        refine xi_iload 0 dX12_adds_67 rfl ?_
        obtain ⟨v20, t21, k22, hq⟩ := bnd_some hq
        refine xi_callV (as := [.int v10]) (rest := []) dX12_adds_69 (KX12_done G Gb v10 _ _ _ k22) mkX12_done w_1211 ws_56 w_1209 (mem_get sh_149) rfl rfl rfl rfl (Nat.le_of_ble_eq_true rfl) (Nat.le_of_ble_eq_true rfl) (Nat.le_of_ble_eq_true rfl) (Nat.le_of_ble_eq_true rfl) (Nat.le_of_ble_eq_true rfl) ?_
        intro v M2 hz
        obtain ⟨rfl, rfl⟩ := hz
        show xW _ _ _ _ 72 _ [.int v20] (mem t21 Gb) _ _
        have r23 := some_pair hq
        obtain ⟨rfl, rfl⟩ := r23
        exact xi_iret dX12_adds_72 rfl rfl (Nat.le_of_ble_eq_true rfl) (Nat.le_of_ble_eq_true rfl) ⟨rfl, rfl⟩
      · replace hq := ite_p c13 hq
        refine xi_aload_n 1 dX12_adds_40 rfl ?_
        refine xi_iload_n 2 dX12_adds_41 rfl ?_
        obtain ⟨v24, t25, k26, hq⟩ := bnd_some hq
        refine xi_callV (as := [.int a]) (rest := []) dX12_adds_42 (KX12_lines G Gb a _ _ _ k26) mkX12_lines w_1184 ws_51 w_1182 (mem_get sh_149) rfl rfl rfl rfl (Nat.le_of_ble_eq_true rfl) (Nat.le_of_ble_eq_true rfl) (Nat.le_of_ble_eq_true rfl) (Nat.le_of_ble_eq_true rfl) (Nat.le_of_ble_eq_true rfl) ?_
        intro v M2 hz
        obtain ⟨rfl, rfl⟩ := hz
        show xW _ _ _ _ 45 _ [.int v24] (mem t25 Gb) _ _
        refine xi_bipush (v := 30) dX12_adds_45 (by decide) ?_
        refine xi_icmp_ne (tgt := 53) dX12_adds_47 (by decide) (fun c27 => ?_) (fun c27 => ?_)
        · replace hq := ite_n c27 hq
          refine xi_aload_n 1 dX12_adds_53 rfl ?_
          obtain ⟨v28, t29, k30, hq⟩ := bnd_some hq
          refine xi_callV (as := []) (rest := []) dX12_adds_54 (KX12_remembers G Gb  _ _ _ k30) mkX12_remembers w_1112 ws_37 w_1110 (mem_get sh_149) rfl rfl rfl rfl (Nat.le_of_ble_eq_true rfl) (Nat.le_of_ble_eq_true rfl) (Nat.le_of_ble_eq_true rfl) (Nat.le_of_ble_eq_true rfl) (Nat.le_of_ble_eq_true rfl) ?_
          intro v M2 hz
          obtain ⟨rfl, rfl⟩ := hz
          show xW _ _ _ _ 57 _ [] (mem t29 Gb) _ _
          refine xi_aload_n 1 dX12_adds_57 rfl ?_
          refine xi_iload_n 2 dX12_adds_58 rfl ?_
          refine xi_iload_n 3 dX12_adds_59 rfl ?_
          refine xi_iload_n 4 dX12_adds_60 rfl ?_
          refine xi_iload 5 dX12_adds_61 rfl ?_
          obtain ⟨v31, t32, k33, hq⟩ := bnd_some hq
          refine xi_callV (as := [.int a, .int b, .int c, .int d]) (rest := []) dX12_adds_63 (KX12_weighs G Gb a b c d _ _ _ k33) mkX12_weighs w_1199 ws_54 w_1197 (mem_get sh_149) rfl rfl rfl rfl (Nat.le_of_ble_eq_true rfl) (Nat.le_of_ble_eq_true rfl) (Nat.le_of_ble_eq_true rfl) (Nat.le_of_ble_eq_true rfl) (Nat.le_of_ble_eq_true rfl) ?_
          intro v M2 hz
          obtain ⟨rfl, rfl⟩ := hz
          show xW _ _ _ _ 66 _ [] (mem t32 Gb) _ _
          refine xi_aload_n 1 dX12_adds_66 rfl ?_
          refine xi_iload 0 dX12_adds_67 rfl ?_
          obtain ⟨v34, t35, k36, hq⟩ := bnd_some hq
          refine xi_callV (as := [.int v10]) (rest := []) dX12_adds_69 (KX12_done G Gb v10 _ _ _ k36) mkX12_done w_1211 ws_56 w_1209 (mem_get sh_149) rfl rfl rfl rfl (Nat.le_of_ble_eq_true rfl) (Nat.le_of_ble_eq_true rfl) (Nat.le_of_ble_eq_true rfl) (Nat.le_of_ble_eq_true rfl) (Nat.le_of_ble_eq_true rfl) ?_
          intro v M2 hz
          obtain ⟨rfl, rfl⟩ := hz
          show xW _ _ _ _ 72 _ [.int v34] (mem t35 Gb) _ _
          have r37 := some_pair hq
          obtain ⟨rfl, rfl⟩ := r37
          exact xi_iret dX12_adds_72 rfl rfl (Nat.le_of_ble_eq_true rfl) (Nat.le_of_ble_eq_true rfl) ⟨rfl, rfl⟩
        · replace hq := ite_p c27 hq
          refine xi_bipush (v := (-5)) dX12_adds_50 (by decide) ?_
          have r38 := some_pair hq
          obtain ⟨rfl, rfl⟩ := r38
          exact xi_iret dX12_adds_52 rfl rfl (Nat.le_of_ble_eq_true rfl) (Nat.le_of_ble_eq_true rfl) ⟨rfl, rfl⟩
    · replace hq := ite_p c9 hq
      refine xi_bipush (v := (-2)) dX12_adds_23 (by decide) ?_
      have r39 := some_pair hq
      obtain ⟨rfl, rfl⟩ := r39
      exact xi_iret dX12_adds_25 rfl rfl (Nat.le_of_ble_eq_true rfl) (Nat.le_of_ble_eq_true rfl) ⟨rfl, rfl⟩
noncomputable def FX12_at (a : Int32) (b : Int32) (σ : St) : Option ((Int32) × St) :=
  (chk (inb ((((91 : Int32) * a) + (82 : Int32)) + b) 273) (rdb σ 150 (((((91 : Int32) * a) + (82 : Int32)) + b).toNatClampNeg) (fun v2 => (some (v2, σ)))))
set_option maxHeartbeats 4000000 in
set_option maxRecDepth 100000 in
theorem KX12_at (G : xG) (Gb : xMem) (a : Int32) (b : Int32) (σ : St) (r0 : Int32) (t0 : St) (hq : FX12_at a b σ = some (r0, t0)) : xC G mX12_at 0 0 0 [.ref 149, .int a, .int b] (mem σ Gb) (PQ r0 t0 Gb) := by
  unfold FX12_at at hq
  refine xC.of (by decide) (Nat.le_of_ble_eq_true rfl) ?_
  show xW _ _ _ _ 0 [(0, .ref 149), (1, .int a), (2, .int b)] [] _ 0 0
  refine xi_aload_n 0 dX12_at_0 rfl ?_
  refine yi_getR (f := 0) dX12_at_1 sh_149 rfl ok_9 (by decide) w_1008 rfl ?_
  refine xi_bipush (v := 91) dX12_at_4 (by decide) ?_
  refine xi_iload_n 1 dX12_at_6 rfl ?_
  refine xi_imul (v := (91 : Int32) * a) dX12_at_7 rfl ?_
  refine xi_bipush (v := 82) dX12_at_8 (by decide) ?_
  refine xi_iadd (v := ((91 : Int32) * a) + (82 : Int32)) dX12_at_10 rfl ?_
  refine xi_iload_n 2 dX12_at_11 rfl ?_
  refine xi_iadd (v := (((91 : Int32) * a) + (82 : Int32)) + b) dX12_at_12 rfl ?_
  obtain ⟨g1, hq⟩ := chk_some hq
  obtain ⟨v2, h3, hq⟩ := rdb_some hq
  refine yi_ialoadV dX12_at_13 sh_150 g1 h3 ?_
  have r4 := some_pair hq
  obtain ⟨rfl, rfl⟩ := r4
  exact xi_iret dX12_at_14 rfl rfl (Nat.le_of_ble_eq_true rfl) (Nat.le_of_ble_eq_true rfl) ⟨rfl, rfl⟩
noncomputable def SX12_aheadOf_5 (w1 : Int32) (w2 : Int32) (c : Int32 × Int32) (σ : St) : Option (((Int32 × Int32) ⊕ (Int32)) × St) :=
  (if w2 ≤ c.2 then (some (Sum.inr c.1, σ)) else (bnd (FX12_at w1 c.2 σ) (fun v2 t3 => (some (Sum.inl ((c.1 ||| (shl (1 : Int32) v2)), (c.2 + 1)), t3)))))
set_option maxHeartbeats 4000000 in
set_option maxRecDepth 100000 in
theorem SX12_aheadOf_5_w (G : xG) (Gb : xMem) (w1 : Int32) (w2 : Int32) (r0 : Int32) (t0 : St) :
    ∀ (k : Nat) (c : Int32 × Int32) (σ : St) (r : Int32) (σ' : St), itr (SX12_aheadOf_5 w1 w2) k c σ = some (r, σ') → (xW G mX12_aheadOf (xrm 1 0 0) (xQ G (PQ r0 t0 Gb) 0 0) 29 [(3, .int r)] [] (mem σ' Gb) 0 0) → xW G mX12_aheadOf (xrm 1 0 0) (xQ G (PQ r0 t0 Gb) 0 0) 5 [(0, .ref 149), (1, .int w1), (2, .int w2), (3, .int c.1), (4, .int c.2)] [] (mem σ Gb) 0 0 := by
  intro k
  induction k with
  | zero =>
    intro c σ r σ' h
    exact absurd h (itr_zero _ _ _ _)
  | succ k ih =>
    intro c σ r σ' h HE
    obtain ⟨x, s1, hs, h⟩ := itr_succ h
    unfold SX12_aheadOf_5 at hs
    refine xi_iload 4 dX12_aheadOf_5 rfl ?_
    refine xi_iload_n 2 dX12_aheadOf_7 rfl ?_
    refine xi_icmp_ge (tgt := 29) dX12_aheadOf_8 (by decide) (fun c1 => ?_) (fun c1 => ?_)
    · replace hs := ite_p c1 hs
      refine xi_sub (lv' := [(3, .int c.1)]) [3] rfl ?_
      obtain ⟨rfl, rfl⟩ := some_pair hs
      obtain ⟨rfl, rfl⟩ := some_pair h
      exact HE
    · replace hs := ite_n c1 hs
      refine xi_iload_n 3 dX12_aheadOf_11 rfl ?_
      refine xi_iconst (v := 1) dX12_aheadOf_12 (by decide) ?_
      refine xi_aload_n 0 dX12_aheadOf_13 rfl ?_
      refine xi_iload_n 1 dX12_aheadOf_14 rfl ?_
      refine xi_iload 4 dX12_aheadOf_15 rfl ?_
      obtain ⟨v2, t3, k4, hs⟩ := bnd_some hs
      refine xi_callV (as := [.int w1, .int c.2]) (rest := [.int 1, .int c.1]) dX12_aheadOf_17 (KX12_at G Gb w1 c.2 _ _ _ k4) mkX12_at w_1273 ws_64 w_1271 (mem_get sh_149) rfl rfl rfl rfl (Nat.le_of_ble_eq_true rfl) (Nat.le_of_ble_eq_true rfl) (Nat.le_of_ble_eq_true rfl) (Nat.le_of_ble_eq_true rfl) (Nat.le_of_ble_eq_true rfl) ?_
      intro v M2 hz
      obtain ⟨rfl, rfl⟩ := hz
      show xW _ _ _ _ 20 _ [.int v2, .int 1, .int c.1] (mem t3 Gb) _ _
      refine xi_ishl (v := shl (1 : Int32) v2) dX12_aheadOf_20 rfl ?_
      refine xi_ior (v := c.1 ||| (shl (1 : Int32) v2)) dX12_aheadOf_21 rfl ?_
      refine xi_istore_n (lv' := [(3, .int (c.1 ||| (shl (1 : Int32) v2))), (0, .ref 149), (1, .int w1), (2, .int w2), (4, .int c.2)]) dX12_aheadOf_22 (by decide) rfl ?_
      refine xi_iinc (v := (c.2 + 1)) (lv' := [(4, .int (c.2 + 1)), (3, .int (c.1 ||| (shl (1 : Int32) v2))), (0, .ref 149), (1, .int w1), (2, .int w2)]) 4 dX12_aheadOf_23 rfl rfl (by decide) rfl ?_
      refine xi_goto (tgt := 5) dX12_aheadOf_26 (by decide) ?_
      refine xi_sub (lv' := [(0, .ref 149), (1, .int w1), (2, .int w2), (3, .int (c.1 ||| (shl (1 : Int32) v2))), (4, .int (c.2 + 1))]) [2, 3, 4, 1, 0] rfl ?_
      obtain ⟨rfl, rfl⟩ := some_pair hs
      exact ih ((c.1 ||| (shl (1 : Int32) v2)), (c.2 + 1)) t3 _ _ h HE
noncomputable def FX12_aheadOf (a : Int32) (b : Int32) (σ : St) : Option ((Int32) × St) :=
  (bnd (wh (SX12_aheadOf_5 a b) ((0 : Int32), (0 : Int32)) σ) (fun e5 t6 => (some (e5, t6))))
set_option maxHeartbeats 4000000 in
set_option maxRecDepth 100000 in
theorem KX12_aheadOf (G : xG) (Gb : xMem) (a : Int32) (b : Int32) (σ : St) (r0 : Int32) (t0 : St) (hq : FX12_aheadOf a b σ = some (r0, t0)) : xC G mX12_aheadOf 1 0 0 [.ref 149, .int a, .int b] (mem σ Gb) (PQ r0 t0 Gb) := by
  unfold FX12_aheadOf at hq
  refine xC.of (by decide) (Nat.le_of_ble_eq_true rfl) ?_
  show xW _ _ _ _ 0 [(0, .ref 149), (1, .int a), (2, .int b)] [] _ 0 0
  refine xi_iconst (v := 0) dX12_aheadOf_0 (by decide) ?_
  refine xi_istore_n (lv' := [(3, .int 0), (0, .ref 149), (1, .int a), (2, .int b)]) dX12_aheadOf_1 (by decide) rfl ?_
  refine xi_iconst (v := 0) dX12_aheadOf_2 (by decide) ?_
  refine xi_istore (lv' := [(4, .int 0), (3, .int 0), (0, .ref 149), (1, .int a), (2, .int b)]) dX12_aheadOf_3 (by decide) rfl ?_
  refine xi_sub (lv' := [(0, .ref 149), (1, .int a), (2, .int b), (3, .int 0), (4, .int 0)]) [2, 3, 4, 1, 0] rfl ?_
  obtain ⟨e5, t6, k7, hq⟩ := bnd_some hq
  obtain ⟨n8, k7⟩ := wh_itr k7
  refine SX12_aheadOf_5_w G Gb a b r0 t0 n8 ((0 : Int32), (0 : Int32)) σ _ _ k7 ?_
  show xW G mX12_aheadOf (xrm 1 0 0) (xQ G (PQ r0 t0 Gb) 0 0) 29 [(3, .int e5)] [] (mem t6 Gb) 0 0
  refine xi_iload_n 0 dX12_aheadOf_29 rfl ?_
  have r9 := some_pair hq
  obtain ⟨rfl, rfl⟩ := r9
  exact xi_iret dX12_aheadOf_30 rfl rfl (Nat.le_of_ble_eq_true rfl) (Nat.le_of_ble_eq_true rfl) ⟨rfl, rfl⟩
noncomputable def FX12_has (a : Int32) (b : Int32) (σ : St) : Option ((Int32) × St) :=
  (if ((shr a b) &&& (1 : Int32)) = (1 : Int32) then (some ((1 : Int32), σ)) else (some ((0 : Int32), σ)))
set_option maxHeartbeats 4000000 in
set_option maxRecDepth 100000 in
theorem KX12_has (G : xG) (Gb : xMem) (a : Int32) (b : Int32) (σ : St) (r0 : Int32) (t0 : St) (hq : FX12_has a b σ = some (r0, t0)) : xC G mX12_has 0 0 0 [.int a, .int b] (mem σ Gb) (PQ r0 t0 Gb) := by
  unfold FX12_has at hq
  refine xC.of (by decide) (Nat.le_of_ble_eq_true rfl) ?_
  show xW _ _ _ _ 0 [(0, .int a), (1, .int b)] [] _ 0 0
  refine xi_iload_n 0 dX12_has_0 rfl ?_
  refine xi_iload_n 1 dX12_has_1 rfl ?_
  refine xi_ishr (v := shr a b) dX12_has_2 rfl ?_
  refine xi_iconst (v := 1) dX12_has_3 (by decide) ?_
  refine xi_iand (v := (shr a b) &&& (1 : Int32)) dX12_has_4 rfl ?_
  refine xi_iconst (v := 1) dX12_has_5 (by decide) ?_
  refine xi_icmp_ne (tgt := 13) dX12_has_6 (by decide) (fun c1 => ?_) (fun c1 => ?_)
  · replace hq := ite_n c1 hq
    refine xi_iconst (v := 0) dX12_has_13 (by decide) ?_
    have r2 := some_pair hq
    obtain ⟨rfl, rfl⟩ := r2
    exact xi_iret dX12_has_14 rfl (by decide) (Nat.le_of_ble_eq_true rfl) (Nat.le_of_ble_eq_true rfl) ⟨rfl, rfl⟩
  · replace hq := ite_p c1 hq
    refine xi_iconst (v := 1) dX12_has_9 (by decide) ?_
    refine xi_goto (tgt := 14) dX12_has_10 (by decide) ?_
    have r3 := some_pair hq
    obtain ⟨rfl, rfl⟩ := r3
    exact xi_iret dX12_has_14 rfl (by decide) (Nat.le_of_ble_eq_true rfl) (Nat.le_of_ble_eq_true rfl) ⟨rfl, rfl⟩
noncomputable def SX12_neighbours_25 (w1 : Int32) (w2 : Int32) (w3 : Int32) (w5 : Int32) (c : Int32 × Int32) (σ : St) : Option (((Int32 × Int32) ⊕ (Int32)) × St) :=
  (bnd (FX12_points w1 σ) (fun v5 t6 => (if v5 ≤ c.2 then (some (Sum.inr c.1, t6)) else (bnd (FX12_has (w5 &&& w2) c.2 t6) (fun v9 t10 => (bnd (if v9 = (0 : Int32) then (some ((0 : Int32), t10)) else (bnd (FX12_nearOf w1 c.2 t10) (fun v17 t18 => (some (v17, t18))))) (fun v13 t14 => (some (Sum.inl ((c.1 ||| v13), (c.2 + 1)), t14)))))))))
noncomputable def SX12_neighbours_11 (w1 : Int32) (w2 : Int32) (w3 : Int32) (c : Int32 × Int32) (σ : St) : Option (((Int32 × Int32) ⊕ (Int32)) × St) :=
  (if c.2 = c.1 then (some (Sum.inr c.1, σ)) else (bnd (wh (SX12_neighbours_25 w1 w2 w3 c.1) (c.1, (0 : Int32)) σ) (fun e20 t21 => (some (Sum.inl (e20, c.1), t21)))))
set_option maxHeartbeats 4000000 in
set_option maxRecDepth 100000 in
theorem SX12_neighbours_25_w (G : xG) (Gb : xMem) (w1 : Int32) (w2 : Int32) (w3 : Int32) (w5 : Int32) (r0 : Int32) (t0 : St) :
    ∀ (k : Nat) (c : Int32 × Int32) (σ : St) (r : Int32) (σ' : St), itr (SX12_neighbours_25 w1 w2 w3 w5) k c σ = some (r, σ') → (xW G mX12_neighbours (xrm 2 0 0) (xQ G (PQ r0 t0 Gb) 0 0) 69 [(0, .ref 149), (1, .int w1), (2, .int w2), (3, .int w3), (4, .int r), (5, .int w5)] [] (mem σ' Gb) 0 0) → xW G mX12_neighbours (xrm 2 0 0) (xQ G (PQ r0 t0 Gb) 0 0) 25 [(0, .ref 149), (1, .int w1), (2, .int w2), (3, .int w3), (4, .int c.1), (5, .int w5), (6, .int c.2)] [] (mem σ Gb) 0 0 := by
  intro k
  induction k with
  | zero =>
    intro c σ r σ' h
    exact absurd h (itr_zero _ _ _ _)
  | succ k ih =>
    intro c σ r σ' h HE
    obtain ⟨x, s1, hs, h⟩ := itr_succ h
    unfold SX12_neighbours_25 at hs
    refine xi_iload 6 dX12_neighbours_25 rfl ?_
    refine xi_aload_n 0 dX12_neighbours_27 rfl ?_
    refine xi_iload_n 1 dX12_neighbours_28 rfl ?_
    obtain ⟨v5, t6, k7, hs⟩ := bnd_some hs
    refine xi_callV (as := [.int w1]) (rest := [.int c.2]) dX12_neighbours_29 (KX12_points G Gb w1 _ _ _ k7) mkX12_points w_1108 ws_36 w_1106 (mem_get sh_149) rfl rfl rfl rfl (Nat.le_of_ble_eq_true rfl) (Nat.le_of_ble_eq_true rfl) (Nat.le_of_ble_eq_true rfl) (Nat.le_of_ble_eq_true rfl) (Nat.le_of_ble_eq_true rfl) ?_
    intro v M2 hz
    obtain ⟨rfl, rfl⟩ := hz
    show xW _ _ _ _ 32 _ [.int v5, .int c.2] (mem t6 Gb) _ _
    refine xi_icmp_ge (tgt := 69) dX12_neighbours_32 (by decide) (fun c8 => ?_) (fun c8 => ?_)
    · replace hs := ite_p c8 hs
      refine xi_sub (lv' := [(0, .ref 149), (1, .int w1), (2, .int w2), (3, .int w3), (4, .int c.1), (5, .int w5)]) [0, 1, 2, 3, 4, 5] rfl ?_
      obtain ⟨rfl, rfl⟩ := some_pair hs
      obtain ⟨rfl, rfl⟩ := some_pair h
      exact HE
    · replace hs := ite_n c8 hs
      refine xi_iload 4 dX12_neighbours_35 rfl ?_
      refine xi_iload 5 dX12_neighbours_37 rfl ?_
      refine xi_iload_n 2 dX12_neighbours_39 rfl ?_
      refine xi_iand (v := w5 &&& w2) dX12_neighbours_40 rfl ?_
      refine xi_iload 6 dX12_neighbours_41 rfl ?_
      obtain ⟨v9, t10, k11, hs⟩ := bnd_some hs
      refine xi_callS (as := [.int (w5 &&& w2), .int c.2]) (rest := [.int c.1]) dX12_neighbours_43 (KX12_has G Gb (w5 &&& w2) c.2 _ _ _ k11) mkX12_has w_1207 w_1206 rfl rfl (Nat.le_of_ble_eq_true rfl) (Nat.le_of_ble_eq_true rfl) (Nat.le_of_ble_eq_true rfl) (Nat.le_of_ble_eq_true rfl) (Nat.le_of_ble_eq_true rfl) ?_
      intro v M2 hz
      obtain ⟨rfl, rfl⟩ := hz
      show xW _ _ _ _ 46 _ [.int v9, .int c.1] (mem t10 Gb) _ _
      obtain ⟨v13, t14, m15, hs⟩ := bnd_some hs
      have key16 : xW G mX12_neighbours (xrm 2 0 0) (xQ G (PQ r0 t0 Gb) 0 0) 60 [(0, .ref 149), (1, .int w1), (2, .int w2), (3, .int w3), (5, .int w5), (6, .int c.2)] [.int v13, .int c.1] (mem t14 Gb) 0 0 := by
        refine xi_ior (v := c.1 ||| v13) dX12_neighbours_60 rfl ?_
        refine xi_istore (lv' := [(4, .int (c.1 ||| v13)), (0, .ref 149), (1, .int w1), (2, .int w2), (3, .int w3), (5, .int w5), (6, .int c.2)]) dX12_neighbours_61 (by decide) rfl ?_
        refine xi_iinc (v := (c.2 + 1)) (lv' := [(6, .int (c.2 + 1)), (4, .int (c.1 ||| v13)), (0, .ref 149), (1, .int w1), (2, .int w2), (3, .int w3), (5, .int w5)]) 6 dX12_neighbours_63 rfl rfl (by decide) rfl ?_
        refine xi_goto (tgt := 25) dX12_neighbours_66 (by decide) ?_
        refine xi_sub (lv' := [(0, .ref 149), (1, .int w1), (2, .int w2), (3, .int w3), (4, .int (c.1 ||| v13)), (5, .int w5), (6, .int (c.2 + 1))]) [2, 3, 4, 5, 1, 6, 0] rfl ?_
        obtain ⟨rfl, rfl⟩ := some_pair hs
        exact ih ((c.1 ||| v13), (c.2 + 1)) t14 _ _ h HE
      refine xi_if_eq (tgt := 59) dX12_neighbours_46 (by decide) (fun c12 => ?_) (fun c12 => ?_)
      · replace m15 := ite_p c12 m15
        refine xi_iconst (v := 0) dX12_neighbours_59 (by decide) ?_
        obtain ⟨rfl, rfl⟩ := some_pair m15
        refine xi_sub (lv' := [(0, .ref 149), (1, .int w1), (2, .int w2), (3, .int w3), (5, .int w5), (6, .int c.2)]) [0, 1, 2, 3, 5, 6] rfl ?_
        exact key16
      · replace m15 := ite_n c12 m15
        refine xi_aload_n 0 dX12_neighbours_49 rfl ?_
        refine xi_iload_n 1 dX12_neighbours_50 rfl ?_
        refine xi_iload 6 dX12_neighbours_51 rfl ?_
        obtain ⟨v17, t18, k19, m15⟩ := bnd_some m15
        refine xi_callV (as := [.int w1, .int c.2]) (rest := [.int c.1]) dX12_neighbours_53 (KX12_nearOf G Gb w1 c.2 _ _ _ k19) mkX12_nearOf w_1188 ws_52 w_1186 (mem_get sh_149) rfl rfl rfl rfl (Nat.le_of_ble_eq_true rfl) (Nat.le_of_ble_eq_true rfl) (Nat.le_of_ble_eq_true rfl) (Nat.le_of_ble_eq_true rfl) (Nat.le_of_ble_eq_true rfl) ?_
        intro v M2 hz
        obtain ⟨rfl, rfl⟩ := hz
        show xW _ _ _ _ 56 _ [.int v17, .int c.1] (mem t18 Gb) _ _
        refine xi_goto (tgt := 60) dX12_neighbours_56 (by decide) ?_
        obtain ⟨rfl, rfl⟩ := some_pair m15
        refine xi_sub (lv' := [(0, .ref 149), (1, .int w1), (2, .int w2), (3, .int w3), (5, .int w5), (6, .int c.2)]) [0, 1, 2, 3, 5, 6] rfl ?_
        exact key16
set_option maxHeartbeats 4000000 in
set_option maxRecDepth 100000 in
theorem SX12_neighbours_11_w (G : xG) (Gb : xMem) (w1 : Int32) (w2 : Int32) (w3 : Int32) (r0 : Int32) (t0 : St) :
    ∀ (k : Nat) (c : Int32 × Int32) (σ : St) (r : Int32) (σ' : St), itr (SX12_neighbours_11 w1 w2 w3) k c σ = some (r, σ') → (xW G mX12_neighbours (xrm 2 0 0) (xQ G (PQ r0 t0 Gb) 0 0) 72 [(2, .int w2), (3, .int w3), (4, .int r)] [] (mem σ' Gb) 0 0) → xW G mX12_neighbours (xrm 2 0 0) (xQ G (PQ r0 t0 Gb) 0 0) 11 [(0, .ref 149), (1, .int w1), (2, .int w2), (3, .int w3), (4, .int c.1), (5, .int c.2)] [] (mem σ Gb) 0 0 := by
  intro k
  induction k with
  | zero =>
    intro c σ r σ' h
    exact absurd h (itr_zero _ _ _ _)
  | succ k ih =>
    intro c σ r σ' h HE
    obtain ⟨x, s1, hs, h⟩ := itr_succ h
    unfold SX12_neighbours_11 at hs
    refine xi_iload 5 dX12_neighbours_11 rfl ?_
    refine xi_iload 4 dX12_neighbours_13 rfl ?_
    refine xi_icmp_eq (tgt := 72) dX12_neighbours_15 (by decide) (fun c4 => ?_) (fun c4 => ?_)
    · replace hs := ite_p c4 hs
      refine xi_sub (lv' := [(2, .int w2), (3, .int w3), (4, .int c.1)]) [2, 3, 4] rfl ?_
      obtain ⟨rfl, rfl⟩ := some_pair hs
      obtain ⟨rfl, rfl⟩ := some_pair h
      exact HE
    · replace hs := ite_n c4 hs
      refine xi_iload 4 dX12_neighbours_18 rfl ?_
      refine xi_istore (lv' := [(5, .int c.1), (0, .ref 149), (1, .int w1), (2, .int w2), (3, .int w3), (4, .int c.1)]) dX12_neighbours_20 (by decide) rfl ?_
      refine xi_iconst (v := 0) dX12_neighbours_22 (by decide) ?_
      refine xi_istore (lv' := [(6, .int 0), (5, .int c.1), (0, .ref 149), (1, .int w1), (2, .int w2), (3, .int w3), (4, .int c.1)]) dX12_neighbours_23 (by decide) rfl ?_
      refine xi_sub (lv' := [(0, .ref 149), (1, .int w1), (2, .int w2), (3, .int w3), (4, .int c.1), (5, .int c.1), (6, .int 0)]) [2, 3, 4, 5, 6, 1, 0] rfl ?_
      obtain ⟨e20, t21, k22, hs⟩ := bnd_some hs
      obtain ⟨n23, k22⟩ := wh_itr k22
      refine SX12_neighbours_25_w G Gb w1 w2 w3 c.1 r0 t0 n23 (c.1, (0 : Int32)) σ _ _ k22 ?_
      show xW G mX12_neighbours (xrm 2 0 0) (xQ G (PQ r0 t0 Gb) 0 0) 69 [(0, .ref 149), (1, .int w1), (2, .int w2), (3, .int w3), (4, .int e20), (5, .int c.1)] [] (mem t21 Gb) 0 0
      refine xi_goto (tgt := 11) dX12_neighbours_69 (by decide) ?_
      obtain ⟨rfl, rfl⟩ := some_pair hs
      exact ih (e20, c.1) t21 _ _ h HE
noncomputable def FX12_neighbours (a : Int32) (b : Int32) (c : Int32) (σ : St) : Option ((Int32) × St) :=
  (bnd (FX12_nearOf a c σ) (fun v1 t2 => (bnd (wh (SX12_neighbours_11 a b c) (v1, (0 : Int32)) t2) (fun e24 t25 => (some (((e24 &&& (b ^^^ (-1 : Int32))) &&& ((shl (1 : Int32) c) ^^^ (-1 : Int32))), t25))))))
set_option maxHeartbeats 4000000 in
set_option maxRecDepth 100000 in
theorem KX12_neighbours (G : xG) (Gb : xMem) (a : Int32) (b : Int32) (c : Int32) (σ : St) (r0 : Int32) (t0 : St) (hq : FX12_neighbours a b c σ = some (r0, t0)) : xC G mX12_neighbours 2 0 0 [.ref 149, .int a, .int b, .int c] (mem σ Gb) (PQ r0 t0 Gb) := by
  unfold FX12_neighbours at hq
  refine xC.of (by decide) (Nat.le_of_ble_eq_true rfl) ?_
  show xW _ _ _ _ 0 [(0, .ref 149), (1, .int a), (2, .int b), (3, .int c)] [] _ 0 0
  refine xi_aload_n 0 dX12_neighbours_0 rfl ?_
  refine xi_iload_n 1 dX12_neighbours_1 rfl ?_
  refine xi_iload_n 3 dX12_neighbours_2 rfl ?_
  obtain ⟨v1, t2, k3, hq⟩ := bnd_some hq
  refine xi_callV (as := [.int a, .int c]) (rest := []) dX12_neighbours_3 (KX12_nearOf G Gb a c _ _ _ k3) mkX12_nearOf w_1188 ws_52 w_1186 (mem_get sh_149) rfl rfl rfl rfl (Nat.le_of_ble_eq_true rfl) (Nat.le_of_ble_eq_true rfl) (Nat.le_of_ble_eq_true rfl) (Nat.le_of_ble_eq_true rfl) (Nat.le_of_ble_eq_true rfl) ?_
  intro v M2 hz
  obtain ⟨rfl, rfl⟩ := hz
  show xW _ _ _ _ 6 _ [.int v1] (mem t2 Gb) _ _
  refine xi_istore (lv' := [(4, .int v1), (0, .ref 149), (1, .int a), (2, .int b), (3, .int c)]) dX12_neighbours_6 (by decide) rfl ?_
  refine xi_iconst (v := 0) dX12_neighbours_8 (by decide) ?_
  refine xi_istore (lv' := [(5, .int 0), (4, .int v1), (0, .ref 149), (1, .int a), (2, .int b), (3, .int c)]) dX12_neighbours_9 (by decide) rfl ?_
  refine xi_sub (lv' := [(0, .ref 149), (1, .int a), (2, .int b), (3, .int c), (4, .int v1), (5, .int 0)]) [2, 3, 4, 5, 1, 0] rfl ?_
  obtain ⟨e24, t25, k26, hq⟩ := bnd_some hq
  obtain ⟨n27, k26⟩ := wh_itr k26
  refine SX12_neighbours_11_w G Gb a b c r0 t0 n27 (v1, (0 : Int32)) t2 _ _ k26 ?_
  show xW G mX12_neighbours (xrm 2 0 0) (xQ G (PQ r0 t0 Gb) 0 0) 72 [(2, .int b), (3, .int c), (4, .int e24)] [] (mem t25 Gb) 0 0
  refine xi_iload 2 dX12_neighbours_72 rfl ?_
  refine xi_iload_n 0 dX12_neighbours_74 rfl ?_
  refine xi_iconst (v := (-1)) dX12_neighbours_75 (by decide) ?_
  refine xi_ixor (v := b ^^^ (-1 : Int32)) dX12_neighbours_76 rfl ?_
  refine xi_iand (v := e24 &&& (b ^^^ (-1 : Int32))) dX12_neighbours_77 rfl ?_
  refine xi_iconst (v := 1) dX12_neighbours_78 (by decide) ?_
  refine xi_iload_n 1 dX12_neighbours_79 rfl ?_
  refine xi_ishl (v := shl (1 : Int32) c) dX12_neighbours_80 rfl ?_
  refine xi_iconst (v := (-1)) dX12_neighbours_81 (by decide) ?_
  refine xi_ixor (v := (shl (1 : Int32) c) ^^^ (-1 : Int32)) dX12_neighbours_82 rfl ?_
  refine xi_iand (v := (e24 &&& (b ^^^ (-1 : Int32))) &&& ((shl (1 : Int32) c) ^^^ (-1 : Int32))) dX12_neighbours_83 rfl ?_
  have r28 := some_pair hq
  obtain ⟨rfl, rfl⟩ := r28
  exact xi_iret dX12_neighbours_84 rfl rfl (Nat.le_of_ble_eq_true rfl) (Nat.le_of_ble_eq_true rfl) ⟨rfl, rfl⟩
noncomputable def SX12_fillOf_15 (w1 : Int32) (w2 : Int32) (w4 : Int32) (c : Int32 × Int32) (σ : St) : Option (((Int32 × Int32) ⊕ (Int32)) × St) :=
  (bnd (FX12_points w1 σ) (fun v4 t5 => (if v4 ≤ c.2 then (some (Sum.inr c.1, t5)) else (bnd (FX12_has w4 c.2 t5) (fun v8 t9 => (bnd (if v8 = (0 : Int32) then (some ((0 : Int32), t9)) else (bnd (FX12_neighbours w1 w2 c.2 t9) (fun v16 t17 => (bnd (FX12_ones ((w4 &&& (v16 ^^^ (-1 : Int32))) &&& (((shl (1 : Int32) (c.2 + (1 : Int32))) - (1 : Int32)) ^^^ (-1 : Int32))) t17) (fun v19 t20 => (some (v19, t20))))))) (fun v12 t13 => (some (Sum.inl ((c.1 + v12), (c.2 + 1)), t13)))))))))
set_option maxHeartbeats 4000000 in
set_option maxRecDepth 100000 in
theorem SX12_fillOf_15_w (G : xG) (Gb : xMem) (w1 : Int32) (w2 : Int32) (w4 : Int32) (r0 : Int32) (t0 : St) :
    ∀ (k : Nat) (c : Int32 × Int32) (σ : St) (r : Int32) (σ' : St), itr (SX12_fillOf_15 w1 w2 w4) k c σ = some (r, σ') → (xW G mX12_fillOf (xrm 3 0 0) (xQ G (PQ r0 t0 Gb) 0 0) 77 [(5, .int r)] [] (mem σ' Gb) 0 0) → xW G mX12_fillOf (xrm 3 0 0) (xQ G (PQ r0 t0 Gb) 0 0) 15 [(0, .ref 149), (1, .int w1), (2, .int w2), (4, .int w4), (5, .int c.1), (6, .int c.2)] [] (mem σ Gb) 0 0 := by
  intro k
  induction k with
  | zero =>
    intro c σ r σ' h
    exact absurd h (itr_zero _ _ _ _)
  | succ k ih =>
    intro c σ r σ' h HE
    obtain ⟨x, s1, hs, h⟩ := itr_succ h
    unfold SX12_fillOf_15 at hs
    refine xi_iload 5 dX12_fillOf_15 rfl ?_
    refine xi_aload_n 0 dX12_fillOf_17 rfl ?_
    refine xi_iload_n 1 dX12_fillOf_18 rfl ?_
    obtain ⟨v4, t5, k6, hs⟩ := bnd_some hs
    refine xi_callV (as := [.int w1]) (rest := [.int c.2]) dX12_fillOf_19 (KX12_points G Gb w1 _ _ _ k6) mkX12_points w_1108 ws_36 w_1106 (mem_get sh_149) rfl rfl rfl rfl (Nat.le_of_ble_eq_true rfl) (Nat.le_of_ble_eq_true rfl) (Nat.le_of_ble_eq_true rfl) (Nat.le_of_ble_eq_true rfl) (Nat.le_of_ble_eq_true rfl) ?_
    intro v M2 hz
    obtain ⟨rfl, rfl⟩ := hz
    show xW _ _ _ _ 22 _ [.int v4, .int c.2] (mem t5 Gb) _ _
    refine xi_icmp_ge (tgt := 77) dX12_fillOf_22 (by decide) (fun c7 => ?_) (fun c7 => ?_)
    · replace hs := ite_p c7 hs
      refine xi_sub (lv' := [(5, .int c.1)]) [4] rfl ?_
      obtain ⟨rfl, rfl⟩ := some_pair hs
      obtain ⟨rfl, rfl⟩ := some_pair h
      exact HE
    · replace hs := ite_n c7 hs
      refine xi_iload 4 dX12_fillOf_25 rfl ?_
      refine xi_iload 3 dX12_fillOf_27 rfl ?_
      refine xi_iload 5 dX12_fillOf_29 rfl ?_
      obtain ⟨v8, t9, k10, hs⟩ := bnd_some hs
      refine xi_callS (as := [.int w4, .int c.2]) (rest := [.int c.1]) dX12_fillOf_31 (KX12_has G Gb w4 c.2 _ _ _ k10) mkX12_has w_1207 w_1206 rfl rfl (Nat.le_of_ble_eq_true rfl) (Nat.le_of_ble_eq_true rfl) (Nat.le_of_ble_eq_true rfl) (Nat.le_of_ble_eq_true rfl) (Nat.le_of_ble_eq_true rfl) ?_
      intro v M2 hz
      obtain ⟨rfl, rfl⟩ := hz
      show xW _ _ _ _ 34 _ [.int v8, .int c.1] (mem t9 Gb) _ _
      obtain ⟨v12, t13, m14, hs⟩ := bnd_some hs
      have key15 : xW G mX12_fillOf (xrm 3 0 0) (xQ G (PQ r0 t0 Gb) 0 0) 68 [(0, .ref 149), (1, .int w1), (2, .int w2), (4, .int w4), (6, .int c.2)] [.int v12, .int c.1] (mem t13 Gb) 0 0 := by
        refine xi_iadd (v := c.1 + v12) dX12_fillOf_68 rfl ?_
        refine xi_istore (lv' := [(5, .int (c.1 + v12)), (0, .ref 149), (1, .int w1), (2, .int w2), (4, .int w4), (6, .int c.2)]) dX12_fillOf_69 (by decide) rfl ?_
        refine xi_iinc (v := (c.2 + 1)) (lv' := [(6, .int (c.2 + 1)), (5, .int (c.1 + v12)), (0, .ref 149), (1, .int w1), (2, .int w2), (4, .int w4)]) 5 dX12_fillOf_71 rfl rfl (by decide) rfl ?_
        refine xi_goto (tgt := 15) dX12_fillOf_74 (by decide) ?_
        refine xi_sub (lv' := [(0, .ref 149), (1, .int w1), (2, .int w2), (4, .int w4), (5, .int (c.1 + v12)), (6, .int (c.2 + 1))]) [2, 3, 4, 5, 1, 0] rfl ?_
        obtain ⟨rfl, rfl⟩ := some_pair hs
        exact ih ((c.1 + v12), (c.2 + 1)) t13 _ _ h HE
      refine xi_if_eq (tgt := 67) dX12_fillOf_34 (by decide) (fun c11 => ?_) (fun c11 => ?_)
      · replace m14 := ite_p c11 m14
        refine xi_iconst (v := 0) dX12_fillOf_67 (by decide) ?_
        obtain ⟨rfl, rfl⟩ := some_pair m14
        refine xi_sub (lv' := [(0, .ref 149), (1, .int w1), (2, .int w2), (4, .int w4), (6, .int c.2)]) [0, 1, 2, 3, 5] rfl ?_
        exact key15
      · replace m14 := ite_n c11 m14
        refine xi_iload 3 dX12_fillOf_37 rfl ?_
        refine xi_aload_n 0 dX12_fillOf_39 rfl ?_
        refine xi_iload_n 1 dX12_fillOf_40 rfl ?_
        refine xi_iload_n 2 dX12_fillOf_41 rfl ?_
        refine xi_iload 5 dX12_fillOf_42 rfl ?_
        obtain ⟨v16, t17, k18, m14⟩ := bnd_some m14
        refine xi_callV (as := [.int w1, .int w2, .int c.2]) (rest := [.int w4, .int c.1]) dX12_fillOf_44 (KX12_neighbours G Gb w1 w2 c.2 _ _ _ k18) mkX12_neighbours w_1308 ws_70 w_1306 (mem_get sh_149) rfl rfl rfl rfl (Nat.le_of_ble_eq_true rfl) (Nat.le_of_ble_eq_true rfl) (Nat.le_of_ble_eq_true rfl) (Nat.le_of_ble_eq_true rfl) (Nat.le_of_ble_eq_true rfl) ?_
        intro v M2 hz
        obtain ⟨rfl, rfl⟩ := hz
        show xW _ _ _ _ 47 _ [.int v16, .int w4, .int c.1] (mem t17 Gb) _ _
        refine xi_iconst (v := (-1)) dX12_fillOf_47 (by decide) ?_
        refine xi_ixor (v := v16 ^^^ (-1 : Int32)) dX12_fillOf_48 rfl ?_
        refine xi_iand (v := w4 &&& (v16 ^^^ (-1 : Int32))) dX12_fillOf_49 rfl ?_
        refine xi_iconst (v := 1) dX12_fillOf_50 (by decide) ?_
        refine xi_iload 5 dX12_fillOf_51 rfl ?_
        refine xi_iconst (v := 1) dX12_fillOf_53 (by decide) ?_
        refine xi_iadd (v := c.2 + (1 : Int32)) dX12_fillOf_54 rfl ?_
        refine xi_ishl (v := shl (1 : Int32) (c.2 + (1 : Int32))) dX12_fillOf_55 rfl ?_
        refine xi_iconst (v := 1) dX12_fillOf_56 (by decide) ?_
        refine xi_isub (v := (shl (1 : Int32) (c.2 + (1 : Int32))) - (1 : Int32)) dX12_fillOf_57 rfl ?_
        refine xi_iconst (v := (-1)) dX12_fillOf_58 (by decide) ?_
        refine xi_ixor (v := ((shl (1 : Int32) (c.2 + (1 : Int32))) - (1 : Int32)) ^^^ (-1 : Int32)) dX12_fillOf_59 rfl ?_
        refine xi_iand (v := (w4 &&& (v16 ^^^ (-1 : Int32))) &&& (((shl (1 : Int32) (c.2 + (1 : Int32))) - (1 : Int32)) ^^^ (-1 : Int32))) dX12_fillOf_60 rfl ?_
        obtain ⟨v19, t20, k21, m14⟩ := bnd_some m14
        refine xi_callS (as := [.int ((w4 &&& (v16 ^^^ (-1 : Int32))) &&& (((shl (1 : Int32) (c.2 + (1 : Int32))) - (1 : Int32)) ^^^ (-1 : Int32)))]) (rest := [.int c.1]) dX12_fillOf_61 (KX12_ones G Gb ((w4 &&& (v16 ^^^ (-1 : Int32))) &&& (((shl (1 : Int32) (c.2 + (1 : Int32))) - (1 : Int32)) ^^^ (-1 : Int32))) _ _ _ k21) mkX12_ones w_1195 w_1194 rfl rfl (Nat.le_of_ble_eq_true rfl) (Nat.le_of_ble_eq_true rfl) (Nat.le_of_ble_eq_true rfl) (Nat.le_of_ble_eq_true rfl) (Nat.le_of_ble_eq_true rfl) ?_
        intro v M2 hz
        obtain ⟨rfl, rfl⟩ := hz
        show xW _ _ _ _ 64 _ [.int v19, .int c.1] (mem t20 Gb) _ _
        refine xi_goto (tgt := 68) dX12_fillOf_64 (by decide) ?_
        obtain ⟨rfl, rfl⟩ := some_pair m14
        refine xi_sub (lv' := [(0, .ref 149), (1, .int w1), (2, .int w2), (4, .int w4), (6, .int c.2)]) [0, 1, 2, 3, 5] rfl ?_
        exact key15
noncomputable def FX12_fillOf (a : Int32) (b : Int32) (c : Int32) (σ : St) : Option ((Int32) × St) :=
  (bnd (FX12_neighbours a b c σ) (fun v1 t2 => (bnd (wh (SX12_fillOf_15 a b v1) ((0 : Int32), (0 : Int32)) t2) (fun e22 t23 => (some (e22, t23))))))
set_option maxHeartbeats 4000000 in
set_option maxRecDepth 100000 in
theorem KX12_fillOf (G : xG) (Gb : xMem) (a : Int32) (b : Int32) (c : Int32) (σ : St) (r0 : Int32) (t0 : St) (hq : FX12_fillOf a b c σ = some (r0, t0)) : xC G mX12_fillOf 3 0 0 [.ref 149, .int a, .int b, .int c] (mem σ Gb) (PQ r0 t0 Gb) := by
  unfold FX12_fillOf at hq
  refine xC.of (by decide) (Nat.le_of_ble_eq_true rfl) ?_
  show xW _ _ _ _ 0 [(0, .ref 149), (1, .int a), (2, .int b), (3, .int c)] [] _ 0 0
  refine xi_aload_n 0 dX12_fillOf_0 rfl ?_
  refine xi_iload_n 1 dX12_fillOf_1 rfl ?_
  refine xi_iload_n 2 dX12_fillOf_2 rfl ?_
  refine xi_iload_n 3 dX12_fillOf_3 rfl ?_
  obtain ⟨v1, t2, k3, hq⟩ := bnd_some hq
  refine xi_callV (as := [.int a, .int b, .int c]) (rest := []) dX12_fillOf_4 (KX12_neighbours G Gb a b c _ _ _ k3) mkX12_neighbours w_1308 ws_70 w_1306 (mem_get sh_149) rfl rfl rfl rfl (Nat.le_of_ble_eq_true rfl) (Nat.le_of_ble_eq_true rfl) (Nat.le_of_ble_eq_true rfl) (Nat.le_of_ble_eq_true rfl) (Nat.le_of_ble_eq_true rfl) ?_
  intro v M2 hz
  obtain ⟨rfl, rfl⟩ := hz
  show xW _ _ _ _ 7 _ [.int v1] (mem t2 Gb) _ _
  refine xi_istore (lv' := [(4, .int v1), (0, .ref 149), (1, .int a), (2, .int b), (3, .int c)]) dX12_fillOf_7 (by decide) rfl ?_
  refine xi_iconst (v := 0) dX12_fillOf_9 (by decide) ?_
  refine xi_istore (lv' := [(5, .int 0), (4, .int v1), (0, .ref 149), (1, .int a), (2, .int b), (3, .int c)]) dX12_fillOf_10 (by decide) rfl ?_
  refine xi_iconst (v := 0) dX12_fillOf_12 (by decide) ?_
  refine xi_istore (lv' := [(6, .int 0), (5, .int 0), (4, .int v1), (0, .ref 149), (1, .int a), (2, .int b), (3, .int c)]) dX12_fillOf_13 (by decide) rfl ?_
  refine xi_sub (lv' := [(0, .ref 149), (1, .int a), (2, .int b), (4, .int v1), (5, .int 0), (6, .int 0)]) [3, 4, 5, 2, 1, 0] rfl ?_
  obtain ⟨e22, t23, k24, hq⟩ := bnd_some hq
  obtain ⟨n25, k24⟩ := wh_itr k24
  refine SX12_fillOf_15_w G Gb a b v1 r0 t0 n25 ((0 : Int32), (0 : Int32)) t2 _ _ k24 ?_
  show xW G mX12_fillOf (xrm 3 0 0) (xQ G (PQ r0 t0 Gb) 0 0) 77 [(5, .int e22)] [] (mem t23 Gb) 0 0
  refine xi_iload 0 dX12_fillOf_77 rfl ?_
  have r26 := some_pair hq
  obtain ⟨rfl, rfl⟩ := r26
  exact xi_iret dX12_fillOf_79 rfl rfl (Nat.le_of_ble_eq_true rfl) (Nat.le_of_ble_eq_true rfl) ⟨rfl, rfl⟩
noncomputable def SX12_splitOf_118 (w1 : Int32) (w2 : Int32) (w3 : Int32) (w5 : Int32) (c : Int32 × Int32) (σ : St) : Option (((Int32 × Int32) ⊕ (Int32)) × St) :=
  (bnd (FX12_points w1 σ) (fun v26 t27 => (if v26 ≤ c.2 then (some (Sum.inr c.1, t27)) else (bnd (FX12_has w2 c.2 t27) (fun v30 t31 => (bnd (if v30 = (0 : Int32) then (bnd (FX12_weight w1 w5 c.2 t31) (fun v38 t39 => (some (v38, t39)))) else (some ((0 : Int32), t31))) (fun v34 t35 => (some (Sum.inl ((c.1 + v34), (c.2 + 1)), t35)))))))))
noncomputable def SX12_splitOf_6 (w1 : Int32) (w2 : Int32) (w3 : Int32) (c : Int32 × Int32) (σ : St) : Option (((Int32 × Int32) ⊕ (Int32)) × St) :=
  (bnd (FX12_points w1 σ) (fun v1 t2 => (if v1 ≤ c.2 then (some (Sum.inr c.1, t2)) else (bnd (FX12_nearOf w1 c.2 t2) (fun v5 t6 => (bnd (FX12_has w2 c.2 t6) (fun v8 t9 => (bnd (if v8 = (0 : Int32) then (some (w2, t9)) else (some ((w2 ^^^ (-1 : Int32)), t9))) (fun v12 t13 => (bnd (if w3 = (1 : Int32) then (bnd (FX12_has w2 c.2 t13) (fun v54 t55 => (bnd (if v54 = (0 : Int32) then (some ((0 : Int32), t55)) else (if (v5 &&& v12) = (0 : Int32) then (some ((0 : Int32), t55)) else (some ((1 : Int32), t55)))) (fun v58 t59 => (some ((c.1 + v58), t59)))))) else (if w3 = (2 : Int32) then (bnd (FX12_has w2 c.2 t13) (fun v45 t46 => (bnd (if v45 = (0 : Int32) then (if (v5 &&& v12) = (0 : Int32) then (some ((0 : Int32), t46)) else (some ((1 : Int32), t46))) else (some ((0 : Int32), t46))) (fun v49 t50 => (some ((c.1 + v49), t50)))))) else (bnd (FX12_has w2 c.2 t13) (fun v22 t23 => (if v22 = (0 : Int32) then (some (c.1, t23)) else (bnd (wh (SX12_splitOf_118 w1 w2 w3 c.2) (c.1, (0 : Int32)) t23) (fun e41 t42 => (some (e41, t42))))))))) (fun v17 t18 => (some (Sum.inl (v17, (c.2 + 1)), t18)))))))))))))
set_option maxHeartbeats 4000000 in
set_option maxRecDepth 100000 in
theorem SX12_splitOf_118_w (G : xG) (Gb : xMem) (w1 : Int32) (w2 : Int32) (w3 : Int32) (w5 : Int32) (r0 : Int32) (t0 : St) :
    ∀ (k : Nat) (c : Int32 × Int32) (σ : St) (r : Int32) (σ' : St), itr (SX12_splitOf_118 w1 w2 w3 w5) k c σ = some (r, σ') → (xW G mX12_splitOf (xrm 2 0 0) (xQ G (PQ r0 t0 Gb) 0 0) 161 [(0, .ref 149), (1, .int w1), (2, .int w2), (3, .int w3), (4, .int r), (5, .int w5)] [] (mem σ' Gb) 0 0) → xW G mX12_splitOf (xrm 2 0 0) (xQ G (PQ r0 t0 Gb) 0 0) 118 [(0, .ref 149), (1, .int w1), (2, .int w2), (3, .int w3), (4, .int c.1), (5, .int w5), (7, .int c.2)] [] (mem σ Gb) 0 0 := by
  intro k
  induction k with
  | zero =>
    intro c σ r σ' h
    exact absurd h (itr_zero _ _ _ _)
  | succ k ih =>
    intro c σ r σ' h HE
    obtain ⟨x, s1, hs, h⟩ := itr_succ h
    unfold SX12_splitOf_118 at hs
    refine xi_iload 6 dX12_splitOf_118 rfl ?_
    refine xi_aload_n 0 dX12_splitOf_120 rfl ?_
    refine xi_iload_n 1 dX12_splitOf_121 rfl ?_
    obtain ⟨v26, t27, k28, hs⟩ := bnd_some hs
    refine xi_callV (as := [.int w1]) (rest := [.int c.2]) dX12_splitOf_122 (KX12_points G Gb w1 _ _ _ k28) mkX12_points w_1108 ws_36 w_1106 (mem_get sh_149) rfl rfl rfl rfl (Nat.le_of_ble_eq_true rfl) (Nat.le_of_ble_eq_true rfl) (Nat.le_of_ble_eq_true rfl) (Nat.le_of_ble_eq_true rfl) (Nat.le_of_ble_eq_true rfl) ?_
    intro v M2 hz
    obtain ⟨rfl, rfl⟩ := hz
    show xW _ _ _ _ 125 _ [.int v26, .int c.2] (mem t27 Gb) _ _
    refine xi_icmp_ge (tgt := 161) dX12_splitOf_125 (by decide) (fun c29 => ?_) (fun c29 => ?_)
    · replace hs := ite_p c29 hs
      refine xi_sub (lv' := [(0, .ref 149), (1, .int w1), (2, .int w2), (3, .int w3), (4, .int c.1), (5, .int w5)]) [0, 1, 2, 3, 4, 5] rfl ?_
      obtain ⟨rfl, rfl⟩ := some_pair hs
      obtain ⟨rfl, rfl⟩ := some_pair h
      exact HE
    · replace hs := ite_n c29 hs
      refine xi_iload 4 dX12_splitOf_128 rfl ?_
      refine xi_iload_n 2 dX12_splitOf_130 rfl ?_
      refine xi_iload 6 dX12_splitOf_131 rfl ?_
      obtain ⟨v30, t31, k32, hs⟩ := bnd_some hs
      refine xi_callS (as := [.int w2, .int c.2]) (rest := [.int c.1]) dX12_splitOf_133 (KX12_has G Gb w2 c.2 _ _ _ k32) mkX12_has w_1207 w_1206 rfl rfl (Nat.le_of_ble_eq_true rfl) (Nat.le_of_ble_eq_true rfl) (Nat.le_of_ble_eq_true rfl) (Nat.le_of_ble_eq_true rfl) (Nat.le_of_ble_eq_true rfl) ?_
      intro v M2 hz
      obtain ⟨rfl, rfl⟩ := hz
      show xW _ _ _ _ 136 _ [.int v30, .int c.1] (mem t31 Gb) _ _
      obtain ⟨v34, t35, m36, hs⟩ := bnd_some hs
      have key37 : xW G mX12_splitOf (xrm 2 0 0) (xQ G (PQ r0 t0 Gb) 0 0) 152 [(0, .ref 149), (1, .int w1), (2, .int w2), (3, .int w3), (5, .int w5), (7, .int c.2)] [.int v34, .int c.1] (mem t35 Gb) 0 0 := by
        refine xi_iadd (v := c.1 + v34) dX12_splitOf_152 rfl ?_
        refine xi_istore (lv' := [(4, .int (c.1 + v34)), (0, .ref 149), (1, .int w1), (2, .int w2), (3, .int w3), (5, .int w5), (7, .int c.2)]) dX12_splitOf_153 (by decide) rfl ?_
        refine xi_iinc (v := (c.2 + 1)) (lv' := [(7, .int (c.2 + 1)), (4, .int (c.1 + v34)), (0, .ref 149), (1, .int w1), (2, .int w2), (3, .int w3), (5, .int w5)]) 6 dX12_splitOf_155 rfl rfl (by decide) rfl ?_
        refine xi_goto (tgt := 118) dX12_splitOf_158 (by decide) ?_
        refine xi_sub (lv' := [(0, .ref 149), (1, .int w1), (2, .int w2), (3, .int w3), (4, .int (c.1 + v34)), (5, .int w5), (7, .int (c.2 + 1))]) [2, 3, 4, 5, 1, 6, 0] rfl ?_
        obtain ⟨rfl, rfl⟩ := some_pair hs
        exact ih ((c.1 + v34), (c.2 + 1)) t35 _ _ h HE
      refine xi_if_eq (tgt := 143) dX12_splitOf_136 (by decide) (fun c33 => ?_) (fun c33 => ?_)
      · replace m36 := ite_p c33 m36
        refine xi_aload_n 0 dX12_splitOf_143 rfl ?_
        refine xi_iload_n 1 dX12_splitOf_144 rfl ?_
        refine xi_iload 5 dX12_splitOf_145 rfl ?_
        refine xi_iload 6 dX12_splitOf_147 rfl ?_
        obtain ⟨v38, t39, k40, m36⟩ := bnd_some m36
        refine xi_callV (as := [.int w1, .int w5, .int c.2]) (rest := [.int c.1]) dX12_splitOf_149 (KX12_weight G Gb w1 w5 c.2 _ _ _ k40) mkX12_weight w_1192 ws_53 w_1190 (mem_get sh_149) rfl rfl rfl rfl (Nat.le_of_ble_eq_true rfl) (Nat.le_of_ble_eq_true rfl) (Nat.le_of_ble_eq_true rfl) (Nat.le_of_ble_eq_true rfl) (Nat.le_of_ble_eq_true rfl) ?_
        intro v M2 hz
        obtain ⟨rfl, rfl⟩ := hz
        show xW _ _ _ _ 152 _ [.int v38, .int c.1] (mem t39 Gb) _ _
        obtain ⟨rfl, rfl⟩ := some_pair m36
        refine xi_sub (lv' := [(0, .ref 149), (1, .int w1), (2, .int w2), (3, .int w3), (5, .int w5), (7, .int c.2)]) [0, 1, 2, 3, 5, 6] rfl ?_
        exact key37
      · replace m36 := ite_n c33 m36
        refine xi_iconst (v := 0) dX12_splitOf_139 (by decide) ?_
        refine xi_goto (tgt := 152) dX12_splitOf_140 (by decide) ?_
        obtain ⟨rfl, rfl⟩ := some_pair m36
        refine xi_sub (lv' := [(0, .ref 149), (1, .int w1), (2, .int w2), (3, .int w3), (5, .int w5), (7, .int c.2)]) [0, 1, 2, 3, 5, 6] rfl ?_
        exact key37
set_option maxHeartbeats 4000000 in
set_option maxRecDepth 100000 in
theorem SX12_splitOf_6_w (G : xG) (Gb : xMem) (w1 : Int32) (w2 : Int32) (w3 : Int32) (r0 : Int32) (t0 : St) :
    ∀ (k : Nat) (c : Int32 × Int32) (σ : St) (r : Int32) (σ' : St), itr (SX12_splitOf_6 w1 w2 w3) k c σ = some (r, σ') → (xW G mX12_splitOf (xrm 2 0 0) (xQ G (PQ r0 t0 Gb) 0 0) 167 [(4, .int r)] [] (mem σ' Gb) 0 0) → xW G mX12_splitOf (xrm 2 0 0) (xQ G (PQ r0 t0 Gb) 0 0) 6 [(0, .ref 149), (1, .int w1), (2, .int w2), (3, .int w3), (4, .int c.1), (5, .int c.2)] [] (mem σ Gb) 0 0 := by
  intro k
  induction k with
  | zero =>
    intro c σ r σ' h
    exact absurd h (itr_zero _ _ _ _)
  | succ k ih =>
    intro c σ r σ' h HE
    obtain ⟨x, s1, hs, h⟩ := itr_succ h
    unfold SX12_splitOf_6 at hs
    refine xi_iload 5 dX12_splitOf_6 rfl ?_
    refine xi_aload_n 0 dX12_splitOf_8 rfl ?_
    refine xi_iload_n 1 dX12_splitOf_9 rfl ?_
    obtain ⟨v1, t2, k3, hs⟩ := bnd_some hs
    refine xi_callV (as := [.int w1]) (rest := [.int c.2]) dX12_splitOf_10 (KX12_points G Gb w1 _ _ _ k3) mkX12_points w_1108 ws_36 w_1106 (mem_get sh_149) rfl rfl rfl rfl (Nat.le_of_ble_eq_true rfl) (Nat.le_of_ble_eq_true rfl) (Nat.le_of_ble_eq_true rfl) (Nat.le_of_ble_eq_true rfl) (Nat.le_of_ble_eq_true rfl) ?_
    intro v M2 hz
    obtain ⟨rfl, rfl⟩ := hz
    show xW _ _ _ _ 13 _ [.int v1, .int c.2] (mem t2 Gb) _ _
    refine xi_icmp_ge (tgt := 167) dX12_splitOf_13 (by decide) (fun c4 => ?_) (fun c4 => ?_)
    · replace hs := ite_p c4 hs
      refine xi_sub (lv' := [(4, .int c.1)]) [4] rfl ?_
      obtain ⟨rfl, rfl⟩ := some_pair hs
      obtain ⟨rfl, rfl⟩ := some_pair h
      exact HE
    · replace hs := ite_n c4 hs
      refine xi_aload_n 0 dX12_splitOf_16 rfl ?_
      refine xi_iload_n 1 dX12_splitOf_17 rfl ?_
      refine xi_iload 5 dX12_splitOf_18 rfl ?_
      obtain ⟨v5, t6, k7, hs⟩ := bnd_some hs
      refine xi_callV (as := [.int w1, .int c.2]) (rest := []) dX12_splitOf_20 (KX12_nearOf G Gb w1 c.2 _ _ _ k7) mkX12_nearOf w_1188 ws_52 w_1186 (mem_get sh_149) rfl rfl rfl rfl (Nat.le_of_ble_eq_true rfl) (Nat.le_of_ble_eq_true rfl) (Nat.le_of_ble_eq_true rfl) (Nat.le_of_ble_eq_true rfl) (Nat.le_of_ble_eq_true rfl) ?_
      intro v M2 hz
      obtain ⟨rfl, rfl⟩ := hz
      show xW _ _ _ _ 23 _ [.int v5] (mem t6 Gb) _ _
      refine xi_iload_n 2 dX12_splitOf_23 rfl ?_
      refine xi_iload 5 dX12_splitOf_24 rfl ?_
      obtain ⟨v8, t9, k10, hs⟩ := bnd_some hs
      refine xi_callS (as := [.int w2, .int c.2]) (rest := [.int v5]) dX12_splitOf_26 (KX12_has G Gb w2 c.2 _ _ _ k10) mkX12_has w_1207 w_1206 rfl rfl (Nat.le_of_ble_eq_true rfl) (Nat.le_of_ble_eq_true rfl) (Nat.le_of_ble_eq_true rfl) (Nat.le_of_ble_eq_true rfl) (Nat.le_of_ble_eq_true rfl) ?_
      intro v M2 hz
      obtain ⟨rfl, rfl⟩ := hz
      show xW _ _ _ _ 29 _ [.int v8, .int v5] (mem t9 Gb) _ _
      obtain ⟨v12, t13, m14, hs⟩ := bnd_some hs
      have key15 : xW G mX12_splitOf (xrm 2 0 0) (xQ G (PQ r0 t0 Gb) 0 0) 39 [(0, .ref 149), (1, .int w1), (2, .int w2), (3, .int w3), (4, .int c.1), (5, .int c.2)] [.int v12, .int v5] (mem t13 Gb) 0 0 := by
        refine xi_iand (v := v5 &&& v12) dX12_splitOf_39 rfl ?_
        refine xi_istore (lv' := [(6, .int (v5 &&& v12)), (0, .ref 149), (1, .int w1), (2, .int w2), (3, .int w3), (4, .int c.1), (5, .int c.2)]) dX12_splitOf_40 (by decide) rfl ?_
        refine xi_iload_n 4 dX12_splitOf_42 rfl ?_
        refine xi_iconst (v := 1) dX12_splitOf_43 (by decide) ?_
        obtain ⟨v17, t18, m19, hs⟩ := bnd_some hs
        have key20 : xW G mX12_splitOf (xrm 2 0 0) (xQ G (PQ r0 t0 Gb) 0 0) 161 [(0, .ref 149), (1, .int w1), (2, .int w2), (3, .int w3), (4, .int v17), (5, .int c.2)] [] (mem t18 Gb) 0 0 := by
          refine xi_iinc (v := (c.2 + 1)) (lv' := [(5, .int (c.2 + 1)), (0, .ref 149), (1, .int w1), (2, .int w2), (3, .int w3), (4, .int v17)]) 5 dX12_splitOf_161 rfl rfl (by decide) rfl ?_
          refine xi_goto (tgt := 6) dX12_splitOf_164 (by decide) ?_
          refine xi_sub (lv' := [(0, .ref 149), (1, .int w1), (2, .int w2), (3, .int w3), (4, .int v17), (5, .int (c.2 + 1))]) [1, 2, 3, 4, 5, 0] rfl ?_
          obtain ⟨rfl, rfl⟩ := some_pair hs
          exact ih (v17, (c.2 + 1)) t18 _ _ h HE
        refine xi_icmp_ne (tgt := 74) dX12_splitOf_44 (by decide) (fun c16 => ?_) (fun c16 => ?_)
        · replace m19 := ite_n c16 m19
          refine xi_iload_n 4 dX12_splitOf_74 rfl ?_
          refine xi_iconst (v := 2) dX12_splitOf_75 (by decide) ?_
          refine xi_icmp_ne (tgt := 106) dX12_splitOf_76 (by decide) (fun c21 => ?_) (fun c21 => ?_)
          · replace m19 := ite_n c21 m19
            refine xi_iload_n 3 dX12_splitOf_106 rfl ?_
            refine xi_iload 6 dX12_splitOf_107 rfl ?_
            obtain ⟨v22, t23, k24, m19⟩ := bnd_some m19
            refine xi_callS (as := [.int w2, .int c.2]) (rest := []) dX12_splitOf_109 (KX12_has G Gb w2 c.2 _ _ _ k24) mkX12_has w_1207 w_1206 rfl rfl (Nat.le_of_ble_eq_true rfl) (Nat.le_of_ble_eq_true rfl) (Nat.le_of_ble_eq_true rfl) (Nat.le_of_ble_eq_true rfl) (Nat.le_of_ble_eq_true rfl) ?_
            intro v M2 hz
            obtain ⟨rfl, rfl⟩ := hz
            show xW _ _ _ _ 112 _ [.int v22] (mem t23 Gb) _ _
            refine xi_if_eq (tgt := 161) dX12_splitOf_112 (by decide) (fun c25 => ?_) (fun c25 => ?_)
            · replace m19 := ite_p c25 m19
              obtain ⟨rfl, rfl⟩ := some_pair m19
              refine xi_sub (lv' := [(0, .ref 149), (1, .int w1), (2, .int w2), (3, .int w3), (4, .int c.1), (5, .int c.2)]) [1, 2, 3, 4, 5, 6] rfl ?_
              exact key20
            · replace m19 := ite_n c25 m19
              refine xi_iconst (v := 0) dX12_splitOf_115 (by decide) ?_
              refine xi_istore (lv' := [(7, .int 0), (6, .int (v5 &&& v12)), (0, .ref 149), (1, .int w1), (2, .int w2), (3, .int w3), (4, .int c.1), (5, .int c.2)]) dX12_splitOf_116 (by decide) rfl ?_
              refine xi_sub (lv' := [(0, .ref 149), (1, .int w1), (2, .int w2), (3, .int w3), (4, .int c.1), (5, .int c.2), (7, .int 0)]) [2, 3, 4, 5, 6, 7, 0] rfl ?_
              obtain ⟨e41, t42, k43, m19⟩ := bnd_some m19
              obtain ⟨n44, k43⟩ := wh_itr k43
              refine SX12_splitOf_118_w G Gb w1 w2 w3 c.2 r0 t0 n44 (c.1, (0 : Int32)) t23 _ _ k43 ?_
              show xW G mX12_splitOf (xrm 2 0 0) (xQ G (PQ r0 t0 Gb) 0 0) 161 [(0, .ref 149), (1, .int w1), (2, .int w2), (3, .int w3), (4, .int e41), (5, .int c.2)] [] (mem t42 Gb) 0 0
              obtain ⟨rfl, rfl⟩ := some_pair m19
              exact key20
          · replace m19 := ite_p c21 m19
            refine xi_iload 5 dX12_splitOf_79 rfl ?_
            refine xi_iload_n 3 dX12_splitOf_81 rfl ?_
            refine xi_iload 6 dX12_splitOf_82 rfl ?_
            obtain ⟨v45, t46, k47, m19⟩ := bnd_some m19
            refine xi_callS (as := [.int w2, .int c.2]) (rest := [.int c.1]) dX12_splitOf_84 (KX12_has G Gb w2 c.2 _ _ _ k47) mkX12_has w_1207 w_1206 rfl rfl (Nat.le_of_ble_eq_true rfl) (Nat.le_of_ble_eq_true rfl) (Nat.le_of_ble_eq_true rfl) (Nat.le_of_ble_eq_true rfl) (Nat.le_of_ble_eq_true rfl) ?_
            intro v M2 hz
            obtain ⟨rfl, rfl⟩ := hz
            show xW _ _ _ _ 87 _ [.int v45, .int c.1] (mem t46 Gb) _ _
            obtain ⟨v49, t50, m51, m19⟩ := bnd_some m19
            have key52 : xW G mX12_splitOf (xrm 2 0 0) (xQ G (PQ r0 t0 Gb) 0 0) 100 [(0, .ref 149), (1, .int w1), (2, .int w2), (3, .int w3), (5, .int c.2)] [.int v49, .int c.1] (mem t50 Gb) 0 0 := by
              refine xi_iadd (v := c.1 + v49) dX12_splitOf_100 rfl ?_
              refine xi_istore (lv' := [(4, .int (c.1 + v49)), (0, .ref 149), (1, .int w1), (2, .int w2), (3, .int w3), (5, .int c.2)]) dX12_splitOf_101 (by decide) rfl ?_
              refine xi_goto (tgt := 161) dX12_splitOf_103 (by decide) ?_
              obtain ⟨rfl, rfl⟩ := some_pair m19
              refine xi_sub (lv' := [(0, .ref 149), (1, .int w1), (2, .int w2), (3, .int w3), (4, .int (c.1 + v49)), (5, .int c.2)]) [1, 2, 3, 4, 0, 5] rfl ?_
              exact key20
            refine xi_if_ne (tgt := 99) dX12_splitOf_87 (by decide) (fun c48 => ?_) (fun c48 => ?_)
            · replace m51 := ite_n c48 m51
              refine xi_iconst (v := 0) dX12_splitOf_99 (by decide) ?_
              obtain ⟨rfl, rfl⟩ := some_pair m51
              refine xi_sub (lv' := [(0, .ref 149), (1, .int w1), (2, .int w2), (3, .int w3), (5, .int c.2)]) [1, 2, 3, 4, 6] rfl ?_
              exact key52
            · replace m51 := ite_p c48 m51
              refine xi_iload 0 dX12_splitOf_90 rfl ?_
              refine xi_if_eq (tgt := 99) dX12_splitOf_92 (by decide) (fun c53 => ?_) (fun c53 => ?_)
              · replace m51 := ite_p c53 m51
                refine xi_iconst (v := 0) dX12_splitOf_99 (by decide) ?_
                obtain ⟨rfl, rfl⟩ := some_pair m51
                refine xi_sub (lv' := [(0, .ref 149), (1, .int w1), (2, .int w2), (3, .int w3), (5, .int c.2)]) [1, 2, 3, 4, 6] rfl ?_
                exact key52
              · replace m51 := ite_n c53 m51
                refine xi_iconst (v := 1) dX12_splitOf_95 (by decide) ?_
                refine xi_goto (tgt := 100) dX12_splitOf_96 (by decide) ?_
                obtain ⟨rfl, rfl⟩ := some_pair m51
                refine xi_sub (lv' := [(0, .ref 149), (1, .int w1), (2, .int w2), (3, .int w3), (5, .int c.2)]) [1, 2, 3, 4, 6] rfl ?_
                exact key52
        · replace m19 := ite_p c16 m19
          refine xi_iload 5 dX12_splitOf_47 rfl ?_
          refine xi_iload_n 3 dX12_splitOf_49 rfl ?_
          refine xi_iload 6 dX12_splitOf_50 rfl ?_
          obtain ⟨v54, t55, k56, m19⟩ := bnd_some m19
          refine xi_callS (as := [.int w2, .int c.2]) (rest := [.int c.1]) dX12_splitOf_52 (KX12_has G Gb w2 c.2 _ _ _ k56) mkX12_has w_1207 w_1206 rfl rfl (Nat.le_of_ble_eq_true rfl) (Nat.le_of_ble_eq_true rfl) (Nat.le_of_ble_eq_true rfl) (Nat.le_of_ble_eq_true rfl) (Nat.le_of_ble_eq_true rfl) ?_
          intro v M2 hz
          obtain ⟨rfl, rfl⟩ := hz
          show xW _ _ _ _ 55 _ [.int v54, .int c.1] (mem t55 Gb) _ _
          obtain ⟨v58, t59, m60, m19⟩ := bnd_some m19
          have key61 : xW G mX12_splitOf (xrm 2 0 0) (xQ G (PQ r0 t0 Gb) 0 0) 68 [(0, .ref 149), (1, .int w1), (2, .int w2), (3, .int w3), (5, .int c.2)] [.int v58, .int c.1] (mem t59 Gb) 0 0 := by
            refine xi_iadd (v := c.1 + v58) dX12_splitOf_68 rfl ?_
            refine xi_istore (lv' := [(4, .int (c.1 + v58)), (0, .ref 149), (1, .int w1), (2, .int w2), (3, .int w3), (5, .int c.2)]) dX12_splitOf_69 (by decide) rfl ?_
            refine xi_goto (tgt := 161) dX12_splitOf_71 (by decide) ?_
            obtain ⟨rfl, rfl⟩ := some_pair m19
            refine xi_sub (lv' := [(0, .ref 149), (1, .int w1), (2, .int w2), (3, .int w3), (4, .int (c.1 + v58)), (5, .int c.2)]) [1, 2, 3, 4, 0, 5] rfl ?_
            exact key20
          refine xi_if_eq (tgt := 67) dX12_splitOf_55 (by decide) (fun c57 => ?_) (fun c57 => ?_)
          · replace m60 := ite_p c57 m60
            refine xi_iconst (v := 0) dX12_splitOf_67 (by decide) ?_
            obtain ⟨rfl, rfl⟩ := some_pair m60
            refine xi_sub (lv' := [(0, .ref 149), (1, .int w1), (2, .int w2), (3, .int w3), (5, .int c.2)]) [1, 2, 3, 4, 6] rfl ?_
            exact key61
          · replace m60 := ite_n c57 m60
            refine xi_iload 0 dX12_splitOf_58 rfl ?_
            refine xi_if_eq (tgt := 67) dX12_splitOf_60 (by decide) (fun c62 => ?_) (fun c62 => ?_)
            · replace m60 := ite_p c62 m60
              refine xi_iconst (v := 0) dX12_splitOf_67 (by decide) ?_
              obtain ⟨rfl, rfl⟩ := some_pair m60
              refine xi_sub (lv' := [(0, .ref 149), (1, .int w1), (2, .int w2), (3, .int w3), (5, .int c.2)]) [1, 2, 3, 4, 6] rfl ?_
              exact key61
            · replace m60 := ite_n c62 m60
              refine xi_iconst (v := 1) dX12_splitOf_63 (by decide) ?_
              refine xi_goto (tgt := 68) dX12_splitOf_64 (by decide) ?_
              obtain ⟨rfl, rfl⟩ := some_pair m60
              refine xi_sub (lv' := [(0, .ref 149), (1, .int w1), (2, .int w2), (3, .int w3), (5, .int c.2)]) [1, 2, 3, 4, 6] rfl ?_
              exact key61
      refine xi_if_eq (tgt := 38) dX12_splitOf_29 (by decide) (fun c11 => ?_) (fun c11 => ?_)
      · replace m14 := ite_p c11 m14
        refine xi_iload_n 2 dX12_splitOf_38 rfl ?_
        obtain ⟨rfl, rfl⟩ := some_pair m14
        exact key15
      · replace m14 := ite_n c11 m14
        refine xi_iload_n 2 dX12_splitOf_32 rfl ?_
        refine xi_iconst (v := (-1)) dX12_splitOf_33 (by decide) ?_
        refine xi_ixor (v := w2 ^^^ (-1 : Int32)) dX12_splitOf_34 rfl ?_
        refine xi_goto (tgt := 39) dX12_splitOf_35 (by decide) ?_
        obtain ⟨rfl, rfl⟩ := some_pair m14
        exact key15
noncomputable def FX12_splitOf (a : Int32) (b : Int32) (c : Int32) (σ : St) : Option ((Int32) × St) :=
  (bnd (wh (SX12_splitOf_6 a b c) ((0 : Int32), (0 : Int32)) σ) (fun e63 t64 => (some (e63, t64))))
set_option maxHeartbeats 4000000 in
set_option maxRecDepth 100000 in
theorem KX12_splitOf (G : xG) (Gb : xMem) (a : Int32) (b : Int32) (c : Int32) (σ : St) (r0 : Int32) (t0 : St) (hq : FX12_splitOf a b c σ = some (r0, t0)) : xC G mX12_splitOf 2 0 0 [.ref 149, .int a, .int b, .int c] (mem σ Gb) (PQ r0 t0 Gb) := by
  unfold FX12_splitOf at hq
  refine xC.of (by decide) (Nat.le_of_ble_eq_true rfl) ?_
  show xW _ _ _ _ 0 [(0, .ref 149), (1, .int a), (2, .int b), (3, .int c)] [] _ 0 0
  refine xi_iconst (v := 0) dX12_splitOf_0 (by decide) ?_
  refine xi_istore (lv' := [(4, .int 0), (0, .ref 149), (1, .int a), (2, .int b), (3, .int c)]) dX12_splitOf_1 (by decide) rfl ?_
  refine xi_iconst (v := 0) dX12_splitOf_3 (by decide) ?_
  refine xi_istore (lv' := [(5, .int 0), (4, .int 0), (0, .ref 149), (1, .int a), (2, .int b), (3, .int c)]) dX12_splitOf_4 (by decide) rfl ?_
  refine xi_sub (lv' := [(0, .ref 149), (1, .int a), (2, .int b), (3, .int c), (4, .int 0), (5, .int 0)]) [2, 3, 4, 5, 1, 0] rfl ?_
  obtain ⟨e63, t64, k65, hq⟩ := bnd_some hq
  obtain ⟨n66, k65⟩ := wh_itr k65
  refine SX12_splitOf_6_w G Gb a b c r0 t0 n66 ((0 : Int32), (0 : Int32)) σ _ _ k65 ?_
  show xW G mX12_splitOf (xrm 2 0 0) (xQ G (PQ r0 t0 Gb) 0 0) 167 [(4, .int e63)] [] (mem t64 Gb) 0 0
  refine xi_iload 0 dX12_splitOf_167 rfl ?_
  have r67 := some_pair hq
  obtain ⟨rfl, rfl⟩ := r67
  exact xi_iret dX12_splitOf_169 rfl rfl (Nat.le_of_ble_eq_true rfl) (Nat.le_of_ble_eq_true rfl) ⟨rfl, rfl⟩
noncomputable def FX12_cost (a : Int32) (b : Int32) (c : Int32) (d : Int32) (σ : St) : Option ((Int32) × St) :=
  (if b = (5 : Int32) then (bnd (FX12_neighbours a c d σ) (fun v22 t23 => (bnd (FX12_ones v22 t23) (fun v25 t26 => (some (v25, t26)))))) else (if b = (6 : Int32) then (bnd (FX12_fillOf a c d σ) (fun v18 t19 => (some (v18, t19)))) else (bnd (FX12_points a σ) (fun v3 t4 => (if (c ||| (shl (1 : Int32) d)) = ((shl (1 : Int32) v3) - (1 : Int32)) then (some ((0 : Int32), t4)) else (bnd (if b = (1 : Int32) then (some ((1 : Int32), t4)) else (if b = (4 : Int32) then (some ((2 : Int32), t4)) else (some ((0 : Int32), t4)))) (fun v8 t9 => (bnd (FX12_splitOf a (c ||| (shl (1 : Int32) d)) v8 t9) (fun v12 t13 => (some (v12, t13)))))))))))
set_option maxHeartbeats 4000000 in
set_option maxRecDepth 100000 in
theorem KX12_cost (G : xG) (Gb : xMem) (a : Int32) (b : Int32) (c : Int32) (d : Int32) (σ : St) (r0 : Int32) (t0 : St) (hq : FX12_cost a b c d σ = some (r0, t0)) : xC G mX12_cost 4 0 0 [.ref 149, .int a, .int b, .int c, .int d] (mem σ Gb) (PQ r0 t0 Gb) := by
  unfold FX12_cost at hq
  refine xC.of (by decide) (Nat.le_of_ble_eq_true rfl) ?_
  show xW _ _ _ _ 0 [(0, .ref 149), (1, .int a), (2, .int b), (3, .int c), (4, .int d)] [] _ 0 0
  refine xi_iload_n 2 dX12_cost_0 rfl ?_
  refine xi_iconst (v := 5) dX12_cost_1 (by decide) ?_
  refine xi_icmp_ne (tgt := 17) dX12_cost_2 (by decide) (fun c1 => ?_) (fun c1 => ?_)
  · replace hq := ite_n c1 hq
    refine xi_iload_n 2 dX12_cost_17 rfl ?_
    refine xi_bipush (v := 6) dX12_cost_18 (by decide) ?_
    refine xi_icmp_ne (tgt := 32) dX12_cost_20 (by decide) (fun c2 => ?_) (fun c2 => ?_)
    · replace hq := ite_n c2 hq
      refine xi_iload_n 3 dX12_cost_32 rfl ?_
      refine xi_iconst (v := 1) dX12_cost_33 (by decide) ?_
      refine xi_iload 4 dX12_cost_34 rfl ?_
      refine xi_ishl (v := shl (1 : Int32) d) dX12_cost_36 rfl ?_
      refine xi_ior (v := c ||| (shl (1 : Int32) d)) dX12_cost_37 rfl ?_
      refine xi_istore (lv' := [(5, .int (c ||| (shl (1 : Int32) d))), (0, .ref 149), (1, .int a), (2, .int b), (3, .int c), (4, .int d)]) dX12_cost_38 (by decide) rfl ?_
      refine xi_iload 0 dX12_cost_40 rfl ?_
      refine xi_iconst (v := 1) dX12_cost_42 (by decide) ?_
      refine xi_aload_n 1 dX12_cost_43 rfl ?_
      refine xi_iload_n 2 dX12_cost_44 rfl ?_
      obtain ⟨v3, t4, k5, hq⟩ := bnd_some hq
      refine xi_callV (as := [.int a]) (rest := [.int 1, .int (c ||| (shl (1 : Int32) d))]) dX12_cost_45 (KX12_points G Gb a _ _ _ k5) mkX12_points w_1108 ws_36 w_1106 (mem_get sh_149) rfl rfl rfl rfl (Nat.le_of_ble_eq_true rfl) (Nat.le_of_ble_eq_true rfl) (Nat.le_of_ble_eq_true rfl) (Nat.le_of_ble_eq_true rfl) (Nat.le_of_ble_eq_true rfl) ?_
      intro v M2 hz
      obtain ⟨rfl, rfl⟩ := hz
      show xW _ _ _ _ 48 _ [.int v3, .int 1, .int (c ||| (shl (1 : Int32) d))] (mem t4 Gb) _ _
      refine xi_ishl (v := shl (1 : Int32) v3) dX12_cost_48 rfl ?_
      refine xi_iconst (v := 1) dX12_cost_49 (by decide) ?_
      refine xi_isub (v := (shl (1 : Int32) v3) - (1 : Int32)) dX12_cost_50 rfl ?_
      refine xi_icmp_ne (tgt := 58) dX12_cost_51 (by decide) (fun c6 => ?_) (fun c6 => ?_)
      · replace hq := ite_n c6 hq
        refine xi_aload_n 1 dX12_cost_58 rfl ?_
        refine xi_iload_n 2 dX12_cost_59 rfl ?_
        refine xi_iload 0 dX12_cost_60 rfl ?_
        refine xi_iload_n 3 dX12_cost_62 rfl ?_
        refine xi_iconst (v := 1) dX12_cost_63 (by decide) ?_
        obtain ⟨v8, t9, m10, hq⟩ := bnd_some hq
        have key11 : xW G mX12_cost (xrm 4 0 0) (xQ G (PQ r0 t0 Gb) 0 0) 81 [] [.int v8, .int (c ||| (shl (1 : Int32) d)), .int a, .ref 149] (mem t9 Gb) 0 0 := by
          obtain ⟨v12, t13, k14, hq⟩ := bnd_some hq
          refine xi_callV (as := [.int a, .int (c ||| (shl (1 : Int32) d)), .int v8]) (rest := []) dX12_cost_81 (KX12_splitOf G Gb a (c ||| (shl (1 : Int32) d)) v8 _ _ _ k14) mkX12_splitOf w_1316 ws_72 w_1314 (mem_get sh_149) rfl rfl rfl rfl (Nat.le_of_ble_eq_true rfl) (Nat.le_of_ble_eq_true rfl) (Nat.le_of_ble_eq_true rfl) (Nat.le_of_ble_eq_true rfl) (Nat.le_of_ble_eq_true rfl) ?_
          intro v M2 hz
          obtain ⟨rfl, rfl⟩ := hz
          show xW _ _ _ _ 84 _ [.int v12] (mem t13 Gb) _ _
          have r15 := some_pair hq
          obtain ⟨rfl, rfl⟩ := r15
          exact xi_iret dX12_cost_84 rfl rfl (Nat.le_of_ble_eq_true rfl) (Nat.le_of_ble_eq_true rfl) ⟨rfl, rfl⟩
        refine xi_icmp_ne (tgt := 71) dX12_cost_64 (by decide) (fun c7 => ?_) (fun c7 => ?_)
        · replace m10 := ite_n c7 m10
          refine xi_iload_n 3 dX12_cost_71 rfl ?_
          refine xi_iconst (v := 4) dX12_cost_72 (by decide) ?_
          refine xi_icmp_ne (tgt := 80) dX12_cost_73 (by decide) (fun c16 => ?_) (fun c16 => ?_)
          · replace m10 := ite_n c16 m10
            refine xi_iconst (v := 0) dX12_cost_80 (by decide) ?_
            obtain ⟨rfl, rfl⟩ := some_pair m10
            refine xi_sub (lv' := []) [] rfl ?_
            exact key11
          · replace m10 := ite_p c16 m10
            refine xi_iconst (v := 2) dX12_cost_76 (by decide) ?_
            refine xi_goto (tgt := 81) dX12_cost_77 (by decide) ?_
            obtain ⟨rfl, rfl⟩ := some_pair m10
            refine xi_sub (lv' := []) [] rfl ?_
            exact key11
        · replace m10 := ite_p c7 m10
          refine xi_iconst (v := 1) dX12_cost_67 (by decide) ?_
          refine xi_goto (tgt := 81) dX12_cost_68 (by decide) ?_
          obtain ⟨rfl, rfl⟩ := some_pair m10
          refine xi_sub (lv' := []) [] rfl ?_
          exact key11
      · replace hq := ite_p c6 hq
        refine xi_iconst (v := 0) dX12_cost_54 (by decide) ?_
        refine xi_goto (tgt := 84) dX12_cost_55 (by decide) ?_
        have r17 := some_pair hq
        obtain ⟨rfl, rfl⟩ := r17
        exact xi_iret dX12_cost_84 rfl rfl (Nat.le_of_ble_eq_true rfl) (Nat.le_of_ble_eq_true rfl) ⟨rfl, rfl⟩
    · replace hq := ite_p c2 hq
      refine xi_aload_n 0 dX12_cost_23 rfl ?_
      refine xi_iload_n 1 dX12_cost_24 rfl ?_
      refine xi_iload_n 3 dX12_cost_25 rfl ?_
      refine xi_iload 4 dX12_cost_26 rfl ?_
      obtain ⟨v18, t19, k20, hq⟩ := bnd_some hq
      refine xi_callV (as := [.int a, .int c, .int d]) (rest := []) dX12_cost_28 (KX12_fillOf G Gb a c d _ _ _ k20) mkX12_fillOf w_1312 ws_71 w_1310 (mem_get sh_149) rfl rfl rfl rfl (Nat.le_of_ble_eq_true rfl) (Nat.le_of_ble_eq_true rfl) (Nat.le_of_ble_eq_true rfl) (Nat.le_of_ble_eq_true rfl) (Nat.le_of_ble_eq_true rfl) ?_
      intro v M2 hz
      obtain ⟨rfl, rfl⟩ := hz
      show xW _ _ _ _ 31 _ [.int v18] (mem t19 Gb) _ _
      have r21 := some_pair hq
      obtain ⟨rfl, rfl⟩ := r21
      exact xi_iret dX12_cost_31 rfl rfl (Nat.le_of_ble_eq_true rfl) (Nat.le_of_ble_eq_true rfl) ⟨rfl, rfl⟩
  · replace hq := ite_p c1 hq
    refine xi_aload_n 0 dX12_cost_5 rfl ?_
    refine xi_iload_n 1 dX12_cost_6 rfl ?_
    refine xi_iload_n 3 dX12_cost_7 rfl ?_
    refine xi_iload 4 dX12_cost_8 rfl ?_
    obtain ⟨v22, t23, k24, hq⟩ := bnd_some hq
    refine xi_callV (as := [.int a, .int c, .int d]) (rest := []) dX12_cost_10 (KX12_neighbours G Gb a c d _ _ _ k24) mkX12_neighbours w_1308 ws_70 w_1306 (mem_get sh_149) rfl rfl rfl rfl (Nat.le_of_ble_eq_true rfl) (Nat.le_of_ble_eq_true rfl) (Nat.le_of_ble_eq_true rfl) (Nat.le_of_ble_eq_true rfl) (Nat.le_of_ble_eq_true rfl) ?_
    intro v M2 hz
    obtain ⟨rfl, rfl⟩ := hz
    show xW _ _ _ _ 13 _ [.int v22] (mem t23 Gb) _ _
    obtain ⟨v25, t26, k27, hq⟩ := bnd_some hq
    refine xi_callS (as := [.int v22]) (rest := []) dX12_cost_13 (KX12_ones G Gb v22 _ _ _ k27) mkX12_ones w_1195 w_1194 rfl rfl (Nat.le_of_ble_eq_true rfl) (Nat.le_of_ble_eq_true rfl) (Nat.le_of_ble_eq_true rfl) (Nat.le_of_ble_eq_true rfl) (Nat.le_of_ble_eq_true rfl) ?_
    intro v M2 hz
    obtain ⟨rfl, rfl⟩ := hz
    show xW _ _ _ _ 16 _ [.int v25] (mem t26 Gb) _ _
    have r28 := some_pair hq
    obtain ⟨rfl, rfl⟩ := r28
    exact xi_iret dX12_cost_16 rfl rfl (Nat.le_of_ble_eq_true rfl) (Nat.le_of_ble_eq_true rfl) ⟨rfl, rfl⟩
noncomputable def FX12_isGreatest (a : Int32) (σ : St) : Option ((Int32) × St) :=
  (if a = (0 : Int32) then (some ((1 : Int32), σ)) else (if a = (1 : Int32) then (some ((1 : Int32), σ)) else (if a = (5 : Int32) then (some ((1 : Int32), σ)) else (some ((0 : Int32), σ)))))
set_option maxHeartbeats 4000000 in
set_option maxRecDepth 100000 in
theorem KX12_isGreatest (G : xG) (Gb : xMem) (a : Int32) (σ : St) (r0 : Int32) (t0 : St) (hq : FX12_isGreatest a σ = some (r0, t0)) : xC G mX12_isGreatest 0 0 0 [.int a] (mem σ Gb) (PQ r0 t0 Gb) := by
  unfold FX12_isGreatest at hq
  refine xC.of (by decide) (Nat.le_of_ble_eq_true rfl) ?_
  show xW _ _ _ _ 0 [(0, .int a)] [] _ 0 0
  refine xi_iload_n 0 dX12_isGreatest_0 rfl ?_
  refine xi_if_eq (tgt := 14) dX12_isGreatest_1 (by decide) (fun c1 => ?_) (fun c1 => ?_)
  · replace hq := ite_p c1 hq
    refine xi_iconst (v := 1) dX12_isGreatest_14 (by decide) ?_
    refine xi_goto (tgt := 19) dX12_isGreatest_15 (by decide) ?_
    have r2 := some_pair hq
    obtain ⟨rfl, rfl⟩ := r2
    exact xi_iret dX12_isGreatest_19 rfl (by decide) (Nat.le_of_ble_eq_true rfl) (Nat.le_of_ble_eq_true rfl) ⟨rfl, rfl⟩
  · replace hq := ite_n c1 hq
    refine xi_iload_n 0 dX12_isGreatest_4 rfl ?_
    refine xi_iconst (v := 1) dX12_isGreatest_5 (by decide) ?_
    refine xi_icmp_eq (tgt := 14) dX12_isGreatest_6 (by decide) (fun c3 => ?_) (fun c3 => ?_)
    · replace hq := ite_p c3 hq
      refine xi_iconst (v := 1) dX12_isGreatest_14 (by decide) ?_
      refine xi_goto (tgt := 19) dX12_isGreatest_15 (by decide) ?_
      have r4 := some_pair hq
      obtain ⟨rfl, rfl⟩ := r4
      exact xi_iret dX12_isGreatest_19 rfl (by decide) (Nat.le_of_ble_eq_true rfl) (Nat.le_of_ble_eq_true rfl) ⟨rfl, rfl⟩
    · replace hq := ite_n c3 hq
      refine xi_iload_n 0 dX12_isGreatest_9 rfl ?_
      refine xi_iconst (v := 5) dX12_isGreatest_10 (by decide) ?_
      refine xi_icmp_ne (tgt := 18) dX12_isGreatest_11 (by decide) (fun c5 => ?_) (fun c5 => ?_)
      · replace hq := ite_n c5 hq
        refine xi_iconst (v := 0) dX12_isGreatest_18 (by decide) ?_
        have r6 := some_pair hq
        obtain ⟨rfl, rfl⟩ := r6
        exact xi_iret dX12_isGreatest_19 rfl (by decide) (Nat.le_of_ble_eq_true rfl) (Nat.le_of_ble_eq_true rfl) ⟨rfl, rfl⟩
      · replace hq := ite_p c5 hq
        refine xi_iconst (v := 1) dX12_isGreatest_14 (by decide) ?_
        refine xi_goto (tgt := 19) dX12_isGreatest_15 (by decide) ?_
        have r7 := some_pair hq
        obtain ⟨rfl, rfl⟩ := r7
        exact xi_iret dX12_isGreatest_19 rfl (by decide) (Nat.le_of_ble_eq_true rfl) (Nat.le_of_ble_eq_true rfl) ⟨rfl, rfl⟩
noncomputable def FX12_isMeasure (a : Int32) (σ : St) : Option ((Int32) × St) :=
  (bnd (FX12_in a.toInt64 (0 : Int64) (6 : Int64) σ) (fun v1 t2 => (chk (isb v1) (some (v1, t2)))))
set_option maxHeartbeats 4000000 in
set_option maxRecDepth 100000 in
theorem KX12_isMeasure (G : xG) (Gb : xMem) (a : Int32) (σ : St) (r0 : Int32) (t0 : St) (hq : FX12_isMeasure a σ = some (r0, t0)) : xC G mX12_isMeasure 1 0 0 [.int a] (mem σ Gb) (PQ r0 t0 Gb) := by
  unfold FX12_isMeasure at hq
  refine xC.of (by decide) (Nat.le_of_ble_eq_true rfl) ?_
  show xW _ _ _ _ 0 [(0, .int a)] [] _ 0 0
  refine xi_iload_n 0 dX12_isMeasure_0 rfl ?_
  refine xi_i2l dX12_isMeasure_1 rfl ?_
  refine xi_lconst (v := 0) dX12_isMeasure_2 (by decide) ?_
  refine xi_ldc2 (v := 6) dX12_isMeasure_3 w_1225 ?_
  obtain ⟨v1, t2, k3, hq⟩ := bnd_some hq
  refine xi_callS (as := [.long a.toInt64, .long 0, .long 6]) (rest := []) dX12_isMeasure_6 (KX12_in G Gb a.toInt64 (0 : Int64) (6 : Int64) _ _ _ k3) mkX12_in w_1100 w_1099 rfl rfl (Nat.le_of_ble_eq_true rfl) (Nat.le_of_ble_eq_true rfl) (Nat.le_of_ble_eq_true rfl) (Nat.le_of_ble_eq_true rfl) (Nat.le_of_ble_eq_true rfl) ?_
  intro v M2 hz
  obtain ⟨rfl, rfl⟩ := hz
  show xW _ _ _ _ 9 _ [.int v1] (mem t2 Gb) _ _
  obtain ⟨g4, hq⟩ := chk_some hq
  have r5 := some_pair hq
  obtain ⟨rfl, rfl⟩ := r5
  exact xi_iret dX12_isMeasure_9 rfl (isb_n g4) (Nat.le_of_ble_eq_true rfl) (Nat.le_of_ble_eq_true rfl) ⟨rfl, rfl⟩
noncomputable def SX12_laysCosts_26 (w1 : Int32) (w2 : Int32) (w3 : Int32) (c : Int32) (σ : St) : Option (((Int32) ⊕ (Unit)) × St) :=
  (bnd (FX12_points w1 σ) (fun v9 t10 => (if v9 ≤ c then (some (Sum.inr (), t10)) else (bnd (FX12_has w3 c t10) (fun v13 t14 => (bnd (if v13 = (0 : Int32) then (bnd (FX12_cost w1 w2 w3 c t14) (fun v24 t25 => (some (v24, t25)))) else (some ((1000000 : Int32), t14))) (fun v17 t18 => (chk (inb (((9 : Int32) * w3) + c) 4608) (wrb t18 157 ((((9 : Int32) * w3) + c).toNatClampNeg) v17 (fun t22 => (some (Sum.inl (c + 1), t22))))))))))))
noncomputable def SX12_laysCosts_15 (w1 : Int32) (w2 : Int32) (c : Int32) (σ : St) : Option (((Int32) ⊕ (Unit)) × St) :=
  (rdb σ 149 (17) (fun v6 => (if v6 < c then (some (Sum.inr (), σ)) else (bnd (wh (SX12_laysCosts_26 w1 w2 c) (0 : Int32) σ) (fun e27 t28 => (some (Sum.inl (c + 1), t28)))))))
set_option maxHeartbeats 4000000 in
set_option maxRecDepth 100000 in
theorem SX12_laysCosts_26_w (G : xG) (Gb : xMem) (w1 : Int32) (w2 : Int32) (w3 : Int32) (r0 : Unit) (t0 : St) :
    ∀ (k : Nat) (c : Int32) (σ : St) (r : Unit) (σ' : St), itr (SX12_laysCosts_26 w1 w2 w3) k c σ = some (r, σ') → (xW G mX12_laysCosts (xrm 5 0 0) (xQ G (PV r0 t0 Gb) 0 0) 78 [(0, .ref 149), (1, .int w1), (2, .int w2), (3, .int w3)] [] (mem σ' Gb) 0 0) → xW G mX12_laysCosts (xrm 5 0 0) (xQ G (PV r0 t0 Gb) 0 0) 26 [(0, .ref 149), (1, .int w1), (2, .int w2), (3, .int w3), (4, .int c)] [] (mem σ Gb) 0 0 := by
  intro k
  induction k with
  | zero =>
    intro c σ r σ' h
    exact absurd h (itr_zero _ _ _ _)
  | succ k ih =>
    intro c σ r σ' h HE
    obtain ⟨x, s1, hs, h⟩ := itr_succ h
    unfold SX12_laysCosts_26 at hs
    refine xi_iload 4 dX12_laysCosts_26 rfl ?_
    refine xi_aload_n 0 dX12_laysCosts_28 rfl ?_
    refine xi_iload_n 1 dX12_laysCosts_29 rfl ?_
    obtain ⟨v9, t10, k11, hs⟩ := bnd_some hs
    refine xi_callV (as := [.int w1]) (rest := [.int c]) dX12_laysCosts_30 (KX12_points G Gb w1 _ _ _ k11) mkX12_points w_1108 ws_36 w_1106 (mem_get sh_149) rfl rfl rfl rfl (Nat.le_of_ble_eq_true rfl) (Nat.le_of_ble_eq_true rfl) (Nat.le_of_ble_eq_true rfl) (Nat.le_of_ble_eq_true rfl) (Nat.le_of_ble_eq_true rfl) ?_
    intro v M2 hz
    obtain ⟨rfl, rfl⟩ := hz
    show xW _ _ _ _ 33 _ [.int v9, .int c] (mem t10 Gb) _ _
    refine xi_icmp_ge (tgt := 78) dX12_laysCosts_33 (by decide) (fun c12 => ?_) (fun c12 => ?_)
    · replace hs := ite_p c12 hs
      refine xi_sub (lv' := [(0, .ref 149), (1, .int w1), (2, .int w2), (3, .int w3)]) [0, 1, 2, 3] rfl ?_
      obtain ⟨rfl, rfl⟩ := some_pair hs
      obtain ⟨rfl, rfl⟩ := some_pair h
      exact HE
    · replace hs := ite_n c12 hs
      refine xi_aload_n 0 dX12_laysCosts_36 rfl ?_
      refine yi_getR (f := 16) dX12_laysCosts_37 sh_149 rfl ok_9 (by decide) w_1024 rfl ?_
      refine xi_bipush (v := 9) dX12_laysCosts_40 (by decide) ?_
      refine xi_iload_n 3 dX12_laysCosts_42 rfl ?_
      refine xi_imul (v := (9 : Int32) * w3) dX12_laysCosts_43 rfl ?_
      refine xi_iload 4 dX12_laysCosts_44 rfl ?_
      refine xi_iadd (v := ((9 : Int32) * w3) + c) dX12_laysCosts_46 rfl ?_
      refine xi_iload_n 3 dX12_laysCosts_47 rfl ?_
      refine xi_iload 4 dX12_laysCosts_48 rfl ?_
      obtain ⟨v13, t14, k15, hs⟩ := bnd_some hs
      refine xi_callS (as := [.int w3, .int c]) (rest := [.int (((9 : Int32) * w3) + c), .ref 157]) dX12_laysCosts_50 (KX12_has G Gb w3 c _ _ _ k15) mkX12_has w_1207 w_1206 rfl rfl (Nat.le_of_ble_eq_true rfl) (Nat.le_of_ble_eq_true rfl) (Nat.le_of_ble_eq_true rfl) (Nat.le_of_ble_eq_true rfl) (Nat.le_of_ble_eq_true rfl) ?_
      intro v M2 hz
      obtain ⟨rfl, rfl⟩ := hz
      show xW _ _ _ _ 53 _ [.int v13, .int (((9 : Int32) * w3) + c), .ref 157] (mem t14 Gb) _ _
      obtain ⟨v17, t18, m19, hs⟩ := bnd_some hs
      have key20 : xW G mX12_laysCosts (xrm 5 0 0) (xQ G (PV r0 t0 Gb) 0 0) 71 [(0, .ref 149), (1, .int w1), (2, .int w2), (3, .int w3), (4, .int c)] [.int v17, .int (((9 : Int32) * w3) + c), .ref 157] (mem t18 Gb) 0 0 := by
        obtain ⟨g21, hs⟩ := chk_some hs
        obtain ⟨t22, h23, hs⟩ := wrb_some hs
        refine yi_iastoreV dX12_laysCosts_71 sh_157 g21 h23 ?_
        refine xi_iinc (v := (c + 1)) (lv' := [(4, .int (c + 1)), (0, .ref 149), (1, .int w1), (2, .int w2), (3, .int w3)]) 4 dX12_laysCosts_72 rfl rfl (by decide) rfl ?_
        refine xi_goto (tgt := 26) dX12_laysCosts_75 (by decide) ?_
        refine xi_sub (lv' := [(0, .ref 149), (1, .int w1), (2, .int w2), (3, .int w3), (4, .int (c + 1))]) [1, 2, 3, 4, 0] rfl ?_
        obtain ⟨rfl, rfl⟩ := some_pair hs
        exact ih (c + 1) t22 _ _ h HE
      refine xi_if_eq (tgt := 62) dX12_laysCosts_53 (by decide) (fun c16 => ?_) (fun c16 => ?_)
      · replace m19 := ite_p c16 m19
        refine xi_aload_n 0 dX12_laysCosts_62 rfl ?_
        refine xi_iload_n 1 dX12_laysCosts_63 rfl ?_
        refine xi_iload_n 2 dX12_laysCosts_64 rfl ?_
        refine xi_iload_n 3 dX12_laysCosts_65 rfl ?_
        refine xi_iload 4 dX12_laysCosts_66 rfl ?_
        obtain ⟨v24, t25, k26, m19⟩ := bnd_some m19
        refine xi_callV (as := [.int w1, .int w2, .int w3, .int c]) (rest := [.int (((9 : Int32) * w3) + c), .ref 157]) dX12_laysCosts_68 (KX12_cost G Gb w1 w2 w3 c _ _ _ k26) mkX12_cost w_1304 ws_69 w_1302 (mem_get sh_149) rfl rfl rfl rfl (Nat.le_of_ble_eq_true rfl) (Nat.le_of_ble_eq_true rfl) (Nat.le_of_ble_eq_true rfl) (Nat.le_of_ble_eq_true rfl) (Nat.le_of_ble_eq_true rfl) ?_
        intro v M2 hz
        obtain ⟨rfl, rfl⟩ := hz
        show xW _ _ _ _ 71 _ [.int v24, .int (((9 : Int32) * w3) + c), .ref 157] (mem t25 Gb) _ _
        obtain ⟨rfl, rfl⟩ := some_pair m19
        exact key20
      · replace m19 := ite_n c16 m19
        refine xi_ldcw (v := 1000000) dX12_laysCosts_56 w_1372 ?_
        refine xi_goto (tgt := 71) dX12_laysCosts_59 (by decide) ?_
        obtain ⟨rfl, rfl⟩ := some_pair m19
        exact key20
set_option maxHeartbeats 4000000 in
set_option maxRecDepth 100000 in
theorem SX12_laysCosts_15_w (G : xG) (Gb : xMem) (w1 : Int32) (w2 : Int32) (r0 : Unit) (t0 : St) :
    ∀ (k : Nat) (c : Int32) (σ : St) (r : Unit) (σ' : St), itr (SX12_laysCosts_15 w1 w2) k c σ = some (r, σ') → (xW G mX12_laysCosts (xrm 5 0 0) (xQ G (PV r0 t0 Gb) 0 0) 84 [] [] (mem σ' Gb) 0 0) → xW G mX12_laysCosts (xrm 5 0 0) (xQ G (PV r0 t0 Gb) 0 0) 15 [(0, .ref 149), (1, .int w1), (2, .int w2), (3, .int c)] [] (mem σ Gb) 0 0 := by
  intro k
  induction k with
  | zero =>
    intro c σ r σ' h
    exact absurd h (itr_zero _ _ _ _)
  | succ k ih =>
    intro c σ r σ' h HE
    obtain ⟨x, s1, hs, h⟩ := itr_succ h
    unfold SX12_laysCosts_15 at hs
    refine xi_iload_n 3 dX12_laysCosts_15 rfl ?_
    refine xi_aload_n 0 dX12_laysCosts_16 rfl ?_
    obtain ⟨v6, h7, hs⟩ := rdb_some hs
    refine yi_getV (f := 17) dX12_laysCosts_17 sh_149 rfl ok_9 (by decide) w_1025 rfl h7 ?_
    refine xi_icmp_gt (tgt := 84) dX12_laysCosts_20 (by decide) (fun c8 => ?_) (fun c8 => ?_)
    · replace hs := ite_p c8 hs
      refine xi_sub (lv' := []) [] rfl ?_
      obtain ⟨rfl, rfl⟩ := some_pair hs
      obtain ⟨rfl, rfl⟩ := some_pair h
      exact HE
    · replace hs := ite_n c8 hs
      refine xi_iconst (v := 0) dX12_laysCosts_23 (by decide) ?_
      refine xi_istore (lv' := [(4, .int 0), (0, .ref 149), (1, .int w1), (2, .int w2), (3, .int c)]) dX12_laysCosts_24 (by decide) rfl ?_
      refine xi_sub (lv' := [(0, .ref 149), (1, .int w1), (2, .int w2), (3, .int c), (4, .int 0)]) [1, 2, 3, 4, 0] rfl ?_
      obtain ⟨e27, t28, k29, hs⟩ := bnd_some hs
      obtain ⟨n30, k29⟩ := wh_itr k29
      refine SX12_laysCosts_26_w G Gb w1 w2 c r0 t0 n30 (0 : Int32) σ _ _ k29 ?_
      show xW G mX12_laysCosts (xrm 5 0 0) (xQ G (PV r0 t0 Gb) 0 0) 78 [(0, .ref 149), (1, .int w1), (2, .int w2), (3, .int c)] [] (mem t28 Gb) 0 0
      refine xi_iinc (v := (c + 1)) (lv' := [(3, .int (c + 1)), (0, .ref 149), (1, .int w1), (2, .int w2)]) 3 dX12_laysCosts_78 rfl rfl (by decide) rfl ?_
      refine xi_goto (tgt := 15) dX12_laysCosts_81 (by decide) ?_
      refine xi_sub (lv' := [(0, .ref 149), (1, .int w1), (2, .int w2), (3, .int (c + 1))]) [1, 2, 3, 0] rfl ?_
      obtain ⟨rfl, rfl⟩ := some_pair hs
      exact ih (c + 1) t28 _ _ h HE
noncomputable def FX12_laysCosts (a : Int32) (b : Int32) (σ : St) : Option ((Unit) × St) :=
  (bnd (FX12_points a σ) (fun v1 t2 => (wrb t2 149 (17) ((shl (1 : Int32) v1) - (1 : Int32)) (fun t4 => (bnd (wh (SX12_laysCosts_15 a b) (0 : Int32) t4) (fun e31 t32 => (some ((), t32))))))))
set_option maxHeartbeats 4000000 in
set_option maxRecDepth 100000 in
theorem KX12_laysCosts (G : xG) (Gb : xMem) (a : Int32) (b : Int32) (σ : St) (r0 : Unit) (t0 : St) (hq : FX12_laysCosts a b σ = some (r0, t0)) : xC G mX12_laysCosts 5 0 0 [.ref 149, .int a, .int b] (mem σ Gb) (PV r0 t0 Gb) := by
  unfold FX12_laysCosts at hq
  refine xC.of (by decide) (Nat.le_of_ble_eq_true rfl) ?_
  show xW _ _ _ _ 0 [(0, .ref 149), (1, .int a), (2, .int b)] [] _ 0 0
  refine xi_aload_n 0 dX12_laysCosts_0 rfl ?_
  refine xi_iconst (v := 1) dX12_laysCosts_1 (by decide) ?_
  refine xi_aload_n 0 dX12_laysCosts_2 rfl ?_
  refine xi_iload_n 1 dX12_laysCosts_3 rfl ?_
  obtain ⟨v1, t2, k3, hq⟩ := bnd_some hq
  refine xi_callV (as := [.int a]) (rest := [.int 1, .ref 149]) dX12_laysCosts_4 (KX12_points G Gb a _ _ _ k3) mkX12_points w_1108 ws_36 w_1106 (mem_get sh_149) rfl rfl rfl rfl (Nat.le_of_ble_eq_true rfl) (Nat.le_of_ble_eq_true rfl) (Nat.le_of_ble_eq_true rfl) (Nat.le_of_ble_eq_true rfl) (Nat.le_of_ble_eq_true rfl) ?_
  intro v M2 hz
  obtain ⟨rfl, rfl⟩ := hz
  show xW _ _ _ _ 7 _ [.int v1, .int 1, .ref 149] (mem t2 Gb) _ _
  refine xi_ishl (v := shl (1 : Int32) v1) dX12_laysCosts_7 rfl ?_
  refine xi_iconst (v := 1) dX12_laysCosts_8 (by decide) ?_
  refine xi_isub (v := (shl (1 : Int32) v1) - (1 : Int32)) dX12_laysCosts_9 rfl ?_
  obtain ⟨t4, h5, hq⟩ := wrb_some hq
  refine yi_putV (f := 17) (ty := .int) dX12_laysCosts_10 sh_149 rfl ok_9 (by decide) w_1025 rfl rfl pf_I rfl rfl h5 ?_
  refine xi_iconst (v := 0) dX12_laysCosts_13 (by decide) ?_
  refine xi_istore_n (lv' := [(3, .int 0), (0, .ref 149), (1, .int a), (2, .int b)]) dX12_laysCosts_14 (by decide) rfl ?_
  refine xi_sub (lv' := [(0, .ref 149), (1, .int a), (2, .int b), (3, .int 0)]) [1, 2, 3, 0] rfl ?_
  obtain ⟨e31, t32, k33, hq⟩ := bnd_some hq
  obtain ⟨n34, k33⟩ := wh_itr k33
  refine SX12_laysCosts_15_w G Gb a b r0 t0 n34 (0 : Int32) t4 _ _ k33 ?_
  show xW G mX12_laysCosts (xrm 5 0 0) (xQ G (PV r0 t0 Gb) 0 0) 84 [] [] (mem t32 Gb) 0 0
  have r35 := some_pair hq
  obtain ⟨rfl, rfl⟩ := r35
  exact xi_vret dX12_laysCosts_84 rfl (Nat.le_of_ble_eq_true rfl) (Nat.le_of_ble_eq_true rfl) ⟨rfl, rfl⟩
noncomputable def FX12_both (a : Int32) (b : Int32) (c : Int32) (σ : St) : Option ((Int32) × St) :=
  (bnd (FX12_isGreatest a σ) (fun v1 t2 => (if v1 = (0 : Int32) then (some ((b + c), t2)) else (some ((mxI b c), t2)))))
set_option maxHeartbeats 4000000 in
set_option maxRecDepth 100000 in
theorem KX12_both (G : xG) (Gb : xMem) (a : Int32) (b : Int32) (c : Int32) (σ : St) (r0 : Int32) (t0 : St) (hq : FX12_both a b c σ = some (r0, t0)) : xC G mX12_both 1 0 0 [.int a, .int b, .int c] (mem σ Gb) (PQ r0 t0 Gb) := by
  unfold FX12_both at hq
  refine xC.of (by decide) (Nat.le_of_ble_eq_true rfl) ?_
  show xW _ _ _ _ 0 [(0, .int a), (1, .int b), (2, .int c)] [] _ 0 0
  refine xi_iload_n 0 dX12_both_0 rfl ?_
  obtain ⟨v1, t2, k3, hq⟩ := bnd_some hq
  refine xi_callS (as := [.int a]) (rest := []) dX12_both_1 (KX12_isGreatest G Gb a _ _ _ k3) mkX12_isGreatest w_1322 w_1321 rfl rfl (Nat.le_of_ble_eq_true rfl) (Nat.le_of_ble_eq_true rfl) (Nat.le_of_ble_eq_true rfl) (Nat.le_of_ble_eq_true rfl) (Nat.le_of_ble_eq_true rfl) ?_
  intro v M2 hz
  obtain ⟨rfl, rfl⟩ := hz
  show xW _ _ _ _ 4 _ [.int v1] (mem t2 Gb) _ _
  refine xi_if_eq (tgt := 15) dX12_both_4 (by decide) (fun c4 => ?_) (fun c4 => ?_)
  · replace hq := ite_p c4 hq
    refine xi_iload_n 1 dX12_both_15 rfl ?_
    refine xi_iload_n 2 dX12_both_16 rfl ?_
    refine xi_iadd (v := b + c) dX12_both_17 rfl ?_
    have r5 := some_pair hq
    obtain ⟨rfl, rfl⟩ := r5
    exact xi_iret dX12_both_18 rfl rfl (Nat.le_of_ble_eq_true rfl) (Nat.le_of_ble_eq_true rfl) ⟨rfl, rfl⟩
  · replace hq := ite_n c4 hq
    refine xi_iload_n 1 dX12_both_7 rfl ?_
    refine xi_iload_n 2 dX12_both_8 rfl ?_
    refine xi_max (v := (mxI b c)) dX12_both_9 w_1234 w_37 w_3 w_mmax (Nat.le_of_ble_eq_true rfl) (Nat.le_of_ble_eq_true rfl) (Nat.le_of_ble_eq_true rfl) (Nat.le_of_ble_eq_true rfl) (Nat.le_of_ble_eq_true rfl) rfl ?_
    refine xi_goto (tgt := 18) dX12_both_12 (by decide) ?_
    have r6 := some_pair hq
    obtain ⟨rfl, rfl⟩ := r6
    exact xi_iret dX12_both_18 rfl rfl (Nat.le_of_ble_eq_true rfl) (Nat.le_of_ble_eq_true rfl) ⟨rfl, rfl⟩
noncomputable def SX12_laysRest_33 (w1 : Int32) (w2 : Int32) (w3 : Int32) (c : Int32) (σ : St) : Option (((Int32) ⊕ (Unit)) × St) :=
  (bnd (FX12_points w1 σ) (fun v14 t15 => (if v14 ≤ c then (some (Sum.inr (), t15)) else (chk (inb (((9 : Int32) * w3) + c) 4608) (rdb t15 157 ((((9 : Int32) * w3) + c).toNatClampNeg) (fun v19 => (bnd (FX12_has w3 c t15) (fun v21 t22 => (bnd (if v21 = (0 : Int32) then (if (1000000 : Int32) ≤ v19 then (some ((), t22)) else (chk (inb w3 512) (rdb t22 155 (w3.toNatClampNeg) (fun v31 => (chk (inb (w3 ||| (shl (1 : Int32) c)) 512) (rdb t22 155 ((w3 ||| (shl (1 : Int32) c)).toNatClampNeg) (fun v34 => (bnd (FX12_both w2 v19 v34 t22) (fun v36 t37 => (chk (inb w3 512) (wrb t37 155 (w3.toNatClampNeg) (mnI v31 v36) (fun t40 => (some ((), t40)))))))))))))) else (some ((), t22))) (fun v25 t26 => (some (Sum.inl (c + 1), t26))))))))))))
noncomputable def SX12_laysRest_5 (w1 : Int32) (w2 : Int32) (c : Int32) (σ : St) : Option (((Int32) ⊕ (Unit)) × St) :=
  (if c < (0 : Int32) then (some (Sum.inr (), σ)) else (rdb σ 149 (17) (fun v4 => (bnd (if c = v4 then (some ((0 : Int32), σ)) else (some ((1000000 : Int32), σ))) (fun v7 t8 => (chk (inb c 512) (wrb t8 155 (c.toNatClampNeg) v7 (fun t12 => (bnd (wh (SX12_laysRest_33 w1 w2 c) (0 : Int32) t12) (fun e42 t43 => (some (Sum.inl (c + (-1)), t43))))))))))))
set_option maxHeartbeats 4000000 in
set_option maxRecDepth 100000 in
theorem SX12_laysRest_33_w (G : xG) (Gb : xMem) (w1 : Int32) (w2 : Int32) (w3 : Int32) (r0 : Unit) (t0 : St) :
    ∀ (k : Nat) (c : Int32) (σ : St) (r : Unit) (σ' : St), itr (SX12_laysRest_33 w1 w2 w3) k c σ = some (r, σ') → (xW G mX12_laysRest (xrm 2 0 0) (xQ G (PV r0 t0 Gb) 0 0) 112 [(0, .ref 149), (1, .int w1), (2, .int w2), (3, .int w3)] [] (mem σ' Gb) 0 0) → xW G mX12_laysRest (xrm 2 0 0) (xQ G (PV r0 t0 Gb) 0 0) 33 [(0, .ref 149), (1, .int w1), (2, .int w2), (3, .int w3), (4, .int c)] [] (mem σ Gb) 0 0 := by
  intro k
  induction k with
  | zero =>
    intro c σ r σ' h
    exact absurd h (itr_zero _ _ _ _)
  | succ k ih =>
    intro c σ r σ' h HE
    obtain ⟨x, s1, hs, h⟩ := itr_succ h
    unfold SX12_laysRest_33 at hs
    refine xi_iload 4 dX12_laysRest_33 rfl ?_
    refine xi_aload_n 0 dX12_laysRest_35 rfl ?_
    refine xi_iload_n 1 dX12_laysRest_36 rfl ?_
    obtain ⟨v14, t15, k16, hs⟩ := bnd_some hs
    refine xi_callV (as := [.int w1]) (rest := [.int c]) dX12_laysRest_37 (KX12_points G Gb w1 _ _ _ k16) mkX12_points w_1108 ws_36 w_1106 (mem_get sh_149) rfl rfl rfl rfl (Nat.le_of_ble_eq_true rfl) (Nat.le_of_ble_eq_true rfl) (Nat.le_of_ble_eq_true rfl) (Nat.le_of_ble_eq_true rfl) (Nat.le_of_ble_eq_true rfl) ?_
    intro v M2 hz
    obtain ⟨rfl, rfl⟩ := hz
    show xW _ _ _ _ 40 _ [.int v14, .int c] (mem t15 Gb) _ _
    refine xi_icmp_ge (tgt := 112) dX12_laysRest_40 (by decide) (fun c17 => ?_) (fun c17 => ?_)
    · replace hs := ite_p c17 hs
      refine xi_sub (lv' := [(0, .ref 149), (1, .int w1), (2, .int w2), (3, .int w3)]) [0, 1, 2, 3] rfl ?_
      obtain ⟨rfl, rfl⟩ := some_pair hs
      obtain ⟨rfl, rfl⟩ := some_pair h
      exact HE
    · replace hs := ite_n c17 hs
      refine xi_aload_n 0 dX12_laysRest_43 rfl ?_
      refine yi_getR (f := 16) dX12_laysRest_44 sh_149 rfl ok_9 (by decide) w_1024 rfl ?_
      refine xi_bipush (v := 9) dX12_laysRest_47 (by decide) ?_
      refine xi_iload_n 3 dX12_laysRest_49 rfl ?_
      refine xi_imul (v := (9 : Int32) * w3) dX12_laysRest_50 rfl ?_
      refine xi_iload 4 dX12_laysRest_51 rfl ?_
      refine xi_iadd (v := ((9 : Int32) * w3) + c) dX12_laysRest_53 rfl ?_
      obtain ⟨g18, hs⟩ := chk_some hs
      obtain ⟨v19, h20, hs⟩ := rdb_some hs
      refine yi_ialoadV dX12_laysRest_54 sh_157 g18 h20 ?_
      refine xi_istore (lv' := [(5, .int v19), (0, .ref 149), (1, .int w1), (2, .int w2), (3, .int w3), (4, .int c)]) dX12_laysRest_55 (by decide) rfl ?_
      refine xi_iload_n 4 dX12_laysRest_57 rfl ?_
      refine xi_iload 5 dX12_laysRest_58 rfl ?_
      obtain ⟨v21, t22, k23, hs⟩ := bnd_some hs
      refine xi_callS (as := [.int w3, .int c]) (rest := []) dX12_laysRest_60 (KX12_has G Gb w3 c _ _ _ k23) mkX12_has w_1207 w_1206 rfl rfl (Nat.le_of_ble_eq_true rfl) (Nat.le_of_ble_eq_true rfl) (Nat.le_of_ble_eq_true rfl) (Nat.le_of_ble_eq_true rfl) (Nat.le_of_ble_eq_true rfl) ?_
      intro v M2 hz
      obtain ⟨rfl, rfl⟩ := hz
      show xW _ _ _ _ 63 _ [.int v21] (mem t22 Gb) _ _
      obtain ⟨v25, t26, m27, hs⟩ := bnd_some hs
      have key28 : xW G mX12_laysRest (xrm 2 0 0) (xQ G (PV r0 t0 Gb) 0 0) 106 [(0, .ref 149), (1, .int w1), (2, .int w2), (3, .int w3), (4, .int c)] [] (mem t26 Gb) 0 0 := by
        refine xi_iinc (v := (c + 1)) (lv' := [(4, .int (c + 1)), (0, .ref 149), (1, .int w1), (2, .int w2), (3, .int w3)]) 4 dX12_laysRest_106 rfl rfl (by decide) rfl ?_
        refine xi_goto (tgt := 33) dX12_laysRest_109 (by decide) ?_
        refine xi_sub (lv' := [(0, .ref 149), (1, .int w1), (2, .int w2), (3, .int w3), (4, .int (c + 1))]) [1, 2, 3, 4, 0] rfl ?_
        obtain ⟨rfl, rfl⟩ := some_pair hs
        exact ih (c + 1) t26 _ _ h HE
      refine xi_if_ne (tgt := 106) dX12_laysRest_63 (by decide) (fun c24 => ?_) (fun c24 => ?_)
      · replace m27 := ite_n c24 m27
        obtain ⟨rfl, rfl⟩ := some_pair m27
        refine xi_sub (lv' := [(0, .ref 149), (1, .int w1), (2, .int w2), (3, .int w3), (4, .int c)]) [1, 2, 3, 4, 5] rfl ?_
        exact key28
      · replace m27 := ite_p c24 m27
        refine xi_iload 0 dX12_laysRest_66 rfl ?_
        refine xi_ldcw (v := 1000000) dX12_laysRest_68 w_1372 ?_
        refine xi_icmp_ge (tgt := 106) dX12_laysRest_71 (by decide) (fun c29 => ?_) (fun c29 => ?_)
        · replace m27 := ite_p c29 m27
          obtain ⟨rfl, rfl⟩ := some_pair m27
          refine xi_sub (lv' := [(0, .ref 149), (1, .int w1), (2, .int w2), (3, .int w3), (4, .int c)]) [1, 2, 3, 4, 5] rfl ?_
          exact key28
        · replace m27 := ite_n c29 m27
          refine xi_aload_n 1 dX12_laysRest_74 rfl ?_
          refine yi_getR (f := 14) dX12_laysRest_75 sh_149 rfl ok_9 (by decide) w_1022 rfl ?_
          refine xi_iload_n 4 dX12_laysRest_78 rfl ?_
          refine xi_aload_n 1 dX12_laysRest_79 rfl ?_
          refine yi_getR (f := 14) dX12_laysRest_80 sh_149 rfl ok_9 (by decide) w_1022 rfl ?_
          refine xi_iload_n 4 dX12_laysRest_83 rfl ?_
          obtain ⟨g30, m27⟩ := chk_some m27
          obtain ⟨v31, h32, m27⟩ := rdb_some m27
          refine yi_ialoadV dX12_laysRest_84 sh_155 g30 h32 ?_
          refine xi_iload_n 3 dX12_laysRest_85 rfl ?_
          refine xi_iload 0 dX12_laysRest_86 rfl ?_
          refine xi_aload_n 1 dX12_laysRest_88 rfl ?_
          refine yi_getR (f := 14) dX12_laysRest_89 sh_149 rfl ok_9 (by decide) w_1022 rfl ?_
          refine xi_iload_n 4 dX12_laysRest_92 rfl ?_
          refine xi_iconst (v := 1) dX12_laysRest_93 (by decide) ?_
          refine xi_iload 5 dX12_laysRest_94 rfl ?_
          refine xi_ishl (v := shl (1 : Int32) c) dX12_laysRest_96 rfl ?_
          refine xi_ior (v := w3 ||| (shl (1 : Int32) c)) dX12_laysRest_97 rfl ?_
          obtain ⟨g33, m27⟩ := chk_some m27
          obtain ⟨v34, h35, m27⟩ := rdb_some m27
          refine yi_ialoadV dX12_laysRest_98 sh_155 g33 h35 ?_
          obtain ⟨v36, t37, k38, m27⟩ := bnd_some m27
          refine xi_callS (as := [.int w2, .int v19, .int v34]) (rest := [.int v31, .int w3, .ref 155]) dX12_laysRest_99 (KX12_both G Gb w2 v19 v34 _ _ _ k38) mkX12_both w_1319 w_1318 rfl rfl (Nat.le_of_ble_eq_true rfl) (Nat.le_of_ble_eq_true rfl) (Nat.le_of_ble_eq_true rfl) (Nat.le_of_ble_eq_true rfl) (Nat.le_of_ble_eq_true rfl) ?_
          intro v M2 hz
          obtain ⟨rfl, rfl⟩ := hz
          show xW _ _ _ _ 102 _ [.int v36, .int v31, .int w3, .ref 155] (mem t37 Gb) _ _
          refine xi_min (v := (mnI v31 v36)) dX12_laysRest_102 w_1142 w_385 w_3 w_mmin (Nat.le_of_ble_eq_true rfl) (Nat.le_of_ble_eq_true rfl) (Nat.le_of_ble_eq_true rfl) (Nat.le_of_ble_eq_true rfl) (Nat.le_of_ble_eq_true rfl) rfl ?_
          obtain ⟨g39, m27⟩ := chk_some m27
          obtain ⟨t40, h41, m27⟩ := wrb_some m27
          refine yi_iastoreV dX12_laysRest_105 sh_155 g39 h41 ?_
          obtain ⟨rfl, rfl⟩ := some_pair m27
          refine xi_sub (lv' := [(0, .ref 149), (1, .int w1), (2, .int w2), (3, .int w3), (4, .int c)]) [1, 2, 3, 4, 5] rfl ?_
          exact key28
set_option maxHeartbeats 4000000 in
set_option maxRecDepth 100000 in
theorem SX12_laysRest_5_w (G : xG) (Gb : xMem) (w1 : Int32) (w2 : Int32) (r0 : Unit) (t0 : St) :
    ∀ (k : Nat) (c : Int32) (σ : St) (r : Unit) (σ' : St), itr (SX12_laysRest_5 w1 w2) k c σ = some (r, σ') → (xW G mX12_laysRest (xrm 2 0 0) (xQ G (PV r0 t0 Gb) 0 0) 118 [] [] (mem σ' Gb) 0 0) → xW G mX12_laysRest (xrm 2 0 0) (xQ G (PV r0 t0 Gb) 0 0) 5 [(0, .ref 149), (1, .int w1), (2, .int w2), (3, .int c)] [] (mem σ Gb) 0 0 := by
  intro k
  induction k with
  | zero =>
    intro c σ r σ' h
    exact absurd h (itr_zero _ _ _ _)
  | succ k ih =>
    intro c σ r σ' h HE
    obtain ⟨x, s1, hs, h⟩ := itr_succ h
    unfold SX12_laysRest_5 at hs
    refine xi_iload_n 3 dX12_laysRest_5 rfl ?_
    refine xi_if_lt (tgt := 118) dX12_laysRest_6 (by decide) (fun c3 => ?_) (fun c3 => ?_)
    · replace hs := ite_p c3 hs
      refine xi_sub (lv' := []) [] rfl ?_
      obtain ⟨rfl, rfl⟩ := some_pair hs
      obtain ⟨rfl, rfl⟩ := some_pair h
      exact HE
    · replace hs := ite_n c3 hs
      refine xi_aload_n 0 dX12_laysRest_9 rfl ?_
      refine yi_getR (f := 14) dX12_laysRest_10 sh_149 rfl ok_9 (by decide) w_1022 rfl ?_
      refine xi_iload_n 3 dX12_laysRest_13 rfl ?_
      refine xi_iload_n 3 dX12_laysRest_14 rfl ?_
      refine xi_aload_n 0 dX12_laysRest_15 rfl ?_
      obtain ⟨v4, h5, hs⟩ := rdb_some hs
      refine yi_getV (f := 17) dX12_laysRest_16 sh_149 rfl ok_9 (by decide) w_1025 rfl h5 ?_
      obtain ⟨v7, t8, m9, hs⟩ := bnd_some hs
      have key10 : xW G mX12_laysRest (xrm 2 0 0) (xQ G (PV r0 t0 Gb) 0 0) 29 [(0, .ref 149), (1, .int w1), (2, .int w2), (3, .int c)] [.int v7, .int c, .ref 155] (mem t8 Gb) 0 0 := by
        obtain ⟨g11, hs⟩ := chk_some hs
        obtain ⟨t12, h13, hs⟩ := wrb_some hs
        refine yi_iastoreV dX12_laysRest_29 sh_155 g11 h13 ?_
        refine xi_iconst (v := 0) dX12_laysRest_30 (by decide) ?_
        refine xi_istore (lv' := [(4, .int 0), (0, .ref 149), (1, .int w1), (2, .int w2), (3, .int c)]) dX12_laysRest_31 (by decide) rfl ?_
        refine xi_sub (lv' := [(0, .ref 149), (1, .int w1), (2, .int w2), (3, .int c), (4, .int 0)]) [1, 2, 3, 4, 0] rfl ?_
        obtain ⟨e42, t43, k44, hs⟩ := bnd_some hs
        obtain ⟨n45, k44⟩ := wh_itr k44
        refine SX12_laysRest_33_w G Gb w1 w2 c r0 t0 n45 (0 : Int32) t12 _ _ k44 ?_
        show xW G mX12_laysRest (xrm 2 0 0) (xQ G (PV r0 t0 Gb) 0 0) 112 [(0, .ref 149), (1, .int w1), (2, .int w2), (3, .int c)] [] (mem t43 Gb) 0 0
        refine xi_iinc (v := (c + (-1))) (lv' := [(3, .int (c + (-1))), (0, .ref 149), (1, .int w1), (2, .int w2)]) 3 dX12_laysRest_112 rfl rfl (by decide) rfl ?_
        refine xi_goto (tgt := 5) dX12_laysRest_115 (by decide) ?_
        refine xi_sub (lv' := [(0, .ref 149), (1, .int w1), (2, .int w2), (3, .int (c + (-1)))]) [1, 2, 3, 0] rfl ?_
        obtain ⟨rfl, rfl⟩ := some_pair hs
        exact ih (c + (-1)) t43 _ _ h HE
      refine xi_icmp_ne (tgt := 26) dX12_laysRest_19 (by decide) (fun c6 => ?_) (fun c6 => ?_)
      · replace m9 := ite_n c6 m9
        refine xi_ldcw (v := 1000000) dX12_laysRest_26 w_1372 ?_
        obtain ⟨rfl, rfl⟩ := some_pair m9
        exact key10
      · replace m9 := ite_p c6 m9
        refine xi_iconst (v := 0) dX12_laysRest_22 (by decide) ?_
        refine xi_goto (tgt := 29) dX12_laysRest_23 (by decide) ?_
        obtain ⟨rfl, rfl⟩ := some_pair m9
        exact key10
noncomputable def FX12_laysRest (a : Int32) (b : Int32) (σ : St) : Option ((Unit) × St) :=
  (rdb σ 149 (17) (fun v1 => (bnd (wh (SX12_laysRest_5 a b) v1 σ) (fun e46 t47 => (some ((), t47))))))
set_option maxHeartbeats 4000000 in
set_option maxRecDepth 100000 in
theorem KX12_laysRest (G : xG) (Gb : xMem) (a : Int32) (b : Int32) (σ : St) (r0 : Unit) (t0 : St) (hq : FX12_laysRest a b σ = some (r0, t0)) : xC G mX12_laysRest 2 0 0 [.ref 149, .int a, .int b] (mem σ Gb) (PV r0 t0 Gb) := by
  unfold FX12_laysRest at hq
  refine xC.of (by decide) (Nat.le_of_ble_eq_true rfl) ?_
  show xW _ _ _ _ 0 [(0, .ref 149), (1, .int a), (2, .int b)] [] _ 0 0
  refine xi_aload_n 0 dX12_laysRest_0 rfl ?_
  obtain ⟨v1, h2, hq⟩ := rdb_some hq
  refine yi_getV (f := 17) dX12_laysRest_1 sh_149 rfl ok_9 (by decide) w_1025 rfl h2 ?_
  refine xi_istore_n (lv' := [(3, .int v1), (0, .ref 149), (1, .int a), (2, .int b)]) dX12_laysRest_4 (by decide) rfl ?_
  refine xi_sub (lv' := [(0, .ref 149), (1, .int a), (2, .int b), (3, .int v1)]) [1, 2, 3, 0] rfl ?_
  obtain ⟨e46, t47, k48, hq⟩ := bnd_some hq
  obtain ⟨n49, k48⟩ := wh_itr k48
  refine SX12_laysRest_5_w G Gb a b r0 t0 n49 v1 σ _ _ k48 ?_
  show xW G mX12_laysRest (xrm 2 0 0) (xQ G (PV r0 t0 Gb) 0 0) 118 [] [] (mem t47 Gb) 0 0
  have r50 := some_pair hq
  obtain ⟨rfl, rfl⟩ := r50
  exact xi_vret dX12_laysRest_118 rfl (Nat.le_of_ble_eq_true rfl) (Nat.le_of_ble_eq_true rfl) ⟨rfl, rfl⟩
noncomputable def FX12_laysLeast (a : Int32) (b : Int32) (σ : St) : Option ((Unit) × St) :=
  (bnd (FX12_laysCosts a b σ) (fun v1 t2 => (bnd (FX12_laysRest a b t2) (fun v4 t5 => (some ((), t5))))))
set_option maxHeartbeats 4000000 in
set_option maxRecDepth 100000 in
theorem KX12_laysLeast (G : xG) (Gb : xMem) (a : Int32) (b : Int32) (σ : St) (r0 : Unit) (t0 : St) (hq : FX12_laysLeast a b σ = some (r0, t0)) : xC G mX12_laysLeast 6 0 0 [.ref 149, .int a, .int b] (mem σ Gb) (PV r0 t0 Gb) := by
  unfold FX12_laysLeast at hq
  refine xC.of (by decide) (Nat.le_of_ble_eq_true rfl) ?_
  show xW _ _ _ _ 0 [(0, .ref 149), (1, .int a), (2, .int b)] [] _ 0 0
  refine xi_aload_n 0 dX12_laysLeast_0 rfl ?_
  refine xi_iload_n 1 dX12_laysLeast_1 rfl ?_
  refine xi_iload_n 2 dX12_laysLeast_2 rfl ?_
  obtain ⟨v1, t2, k3, hq⟩ := bnd_some hq
  refine xi_callV (as := [.int a, .int b]) (rest := []) dX12_laysLeast_3 (KX12_laysCosts G Gb a b _ _ _ k3) mkX12_laysCosts w_1370 ws_79 w_1368 (mem_get sh_149) rfl rfl rfl rfl (Nat.le_of_ble_eq_true rfl) (Nat.le_of_ble_eq_true rfl) (Nat.le_of_ble_eq_true rfl) (Nat.le_of_ble_eq_true rfl) (Nat.le_of_ble_eq_true rfl) ?_
  intro v M2 hz
  obtain ⟨rfl, rfl⟩ := hz
  show xW _ _ _ _ 6 _ [] (mem t2 Gb) _ _
  refine xi_aload_n 0 dX12_laysLeast_6 rfl ?_
  refine xi_iload_n 1 dX12_laysLeast_7 rfl ?_
  refine xi_iload_n 2 dX12_laysLeast_8 rfl ?_
  obtain ⟨v4, t5, k6, hq⟩ := bnd_some hq
  refine xi_callV (as := [.int a, .int b]) (rest := []) dX12_laysLeast_9 (KX12_laysRest G Gb a b _ _ _ k6) mkX12_laysRest w_1375 ws_80 w_1373 (mem_get sh_149) rfl rfl rfl rfl (Nat.le_of_ble_eq_true rfl) (Nat.le_of_ble_eq_true rfl) (Nat.le_of_ble_eq_true rfl) (Nat.le_of_ble_eq_true rfl) (Nat.le_of_ble_eq_true rfl) ?_
  intro v M2 hz
  obtain ⟨rfl, rfl⟩ := hz
  show xW _ _ _ _ 12 _ [] (mem t5 Gb) _ _
  have r7 := some_pair hq
  obtain ⟨rfl, rfl⟩ := r7
  exact xi_vret dX12_laysLeast_12 rfl (Nat.le_of_ble_eq_true rfl) (Nat.le_of_ble_eq_true rfl) ⟨rfl, rfl⟩
noncomputable def SX12_among_66 (w1 : Int32) (w3 : Int32) (w4 : Int32) (w5 : Int32) (c : Int32) (σ : St) : Option (((Int32) ⊕ (Unit)) × St) :=
  (bnd (FX12_points w1 σ) (fun v31 t32 => (if v31 ≤ c then (some (Sum.inr (), t32)) else (chk (inb (((9 : Int32) * w5) + c) 4608) (rdb t32 157 ((((9 : Int32) * w5) + c).toNatClampNeg) (fun v36 => (bnd (if v36 ≤ w4 then (bnd (FX12_cost w1 w3 w5 c t32) (fun v46 t47 => (some (v46, t47)))) else (some ((1000000 : Int32), t32))) (fun v39 t40 => (chk (inb (((9 : Int32) * w5) + c) 4608) (wrb t40 157 ((((9 : Int32) * w5) + c).toNatClampNeg) v39 (fun t44 => (some (Sum.inl (c + 1), t44)))))))))))))
noncomputable def SX12_among_54 (w1 : Int32) (w3 : Int32) (w4 : Int32) (c : Int32) (σ : St) : Option (((Int32) ⊕ (Unit)) × St) :=
  (rdb σ 149 (17) (fun v28 => (if v28 < c then (some (Sum.inr (), σ)) else (bnd (wh (SX12_among_66 w1 w3 w4 c) (0 : Int32) σ) (fun e49 t50 => (some (Sum.inl (c + 1), t50)))))))
set_option maxHeartbeats 4000000 in
set_option maxRecDepth 100000 in
theorem SX12_among_66_w (G : xG) (Gb : xMem) (w1 : Int32) (w3 : Int32) (w4 : Int32) (w5 : Int32) (r0 : Int32) (t0 : St) :
    ∀ (k : Nat) (c : Int32) (σ : St) (r : Unit) (σ' : St), itr (SX12_among_66 w1 w3 w4 w5) k c σ = some (r, σ') → (xW G mX12_among (xrm 7 0 0) (xQ G (PQ r0 t0 Gb) 0 0) 127 [(0, .ref 149), (1, .int w1), (3, .int w3), (4, .int w4), (5, .int w5)] [] (mem σ' Gb) 0 0) → xW G mX12_among (xrm 7 0 0) (xQ G (PQ r0 t0 Gb) 0 0) 66 [(0, .ref 149), (1, .int w1), (3, .int w3), (4, .int w4), (5, .int w5), (6, .int c)] [] (mem σ Gb) 0 0 := by
  intro k
  induction k with
  | zero =>
    intro c σ r σ' h
    exact absurd h (itr_zero _ _ _ _)
  | succ k ih =>
    intro c σ r σ' h HE
    obtain ⟨x, s1, hs, h⟩ := itr_succ h
    unfold SX12_among_66 at hs
    refine xi_iload 5 dX12_among_66 rfl ?_
    refine xi_aload_n 0 dX12_among_68 rfl ?_
    refine xi_iload_n 1 dX12_among_69 rfl ?_
    obtain ⟨v31, t32, k33, hs⟩ := bnd_some hs
    refine xi_callV (as := [.int w1]) (rest := [.int c]) dX12_among_70 (KX12_points G Gb w1 _ _ _ k33) mkX12_points w_1108 ws_36 w_1106 (mem_get sh_149) rfl rfl rfl rfl (Nat.le_of_ble_eq_true rfl) (Nat.le_of_ble_eq_true rfl) (Nat.le_of_ble_eq_true rfl) (Nat.le_of_ble_eq_true rfl) (Nat.le_of_ble_eq_true rfl) ?_
    intro v M2 hz
    obtain ⟨rfl, rfl⟩ := hz
    show xW _ _ _ _ 73 _ [.int v31, .int c] (mem t32 Gb) _ _
    refine xi_icmp_ge (tgt := 127) dX12_among_73 (by decide) (fun c34 => ?_) (fun c34 => ?_)
    · replace hs := ite_p c34 hs
      refine xi_sub (lv' := [(0, .ref 149), (1, .int w1), (3, .int w3), (4, .int w4), (5, .int w5)]) [0, 1, 2, 3, 4] rfl ?_
      obtain ⟨rfl, rfl⟩ := some_pair hs
      obtain ⟨rfl, rfl⟩ := some_pair h
      exact HE
    · replace hs := ite_n c34 hs
      refine xi_bipush (v := 9) dX12_among_76 (by decide) ?_
      refine xi_iload 4 dX12_among_78 rfl ?_
      refine xi_imul (v := (9 : Int32) * w5) dX12_among_80 rfl ?_
      refine xi_iload 5 dX12_among_81 rfl ?_
      refine xi_iadd (v := ((9 : Int32) * w5) + c) dX12_among_83 rfl ?_
      refine xi_istore (lv' := [(7, .int (((9 : Int32) * w5) + c)), (0, .ref 149), (1, .int w1), (3, .int w3), (4, .int w4), (5, .int w5), (6, .int c)]) dX12_among_84 (by decide) rfl ?_
      refine xi_aload_n 1 dX12_among_86 rfl ?_
      refine yi_getR (f := 16) dX12_among_87 sh_149 rfl ok_9 (by decide) w_1024 rfl ?_
      refine xi_iload 0 dX12_among_90 rfl ?_
      refine xi_aload_n 1 dX12_among_92 rfl ?_
      refine yi_getR (f := 16) dX12_among_93 sh_149 rfl ok_9 (by decide) w_1024 rfl ?_
      refine xi_iload 0 dX12_among_96 rfl ?_
      obtain ⟨g35, hs⟩ := chk_some hs
      obtain ⟨v36, h37, hs⟩ := rdb_some hs
      refine yi_ialoadV dX12_among_98 sh_157 g35 h37 ?_
      refine xi_iload 4 dX12_among_99 rfl ?_
      obtain ⟨v39, t40, m41, hs⟩ := bnd_some hs
      have key42 : xW G mX12_among (xrm 7 0 0) (xQ G (PQ r0 t0 Gb) 0 0) 120 [(0, .ref 149), (1, .int w1), (3, .int w3), (4, .int w4), (5, .int w5), (6, .int c)] [.int v39, .int (((9 : Int32) * w5) + c), .ref 157] (mem t40 Gb) 0 0 := by
        obtain ⟨g43, hs⟩ := chk_some hs
        obtain ⟨t44, h45, hs⟩ := wrb_some hs
        refine yi_iastoreV dX12_among_120 sh_157 g43 h45 ?_
        refine xi_iinc (v := (c + 1)) (lv' := [(6, .int (c + 1)), (0, .ref 149), (1, .int w1), (3, .int w3), (4, .int w4), (5, .int w5)]) 5 dX12_among_121 rfl rfl (by decide) rfl ?_
        refine xi_goto (tgt := 66) dX12_among_124 (by decide) ?_
        refine xi_sub (lv' := [(0, .ref 149), (1, .int w1), (3, .int w3), (4, .int w4), (5, .int w5), (6, .int (c + 1))]) [1, 2, 3, 4, 5, 0] rfl ?_
        obtain ⟨rfl, rfl⟩ := some_pair hs
        exact ih (c + 1) t44 _ _ h HE
      refine xi_icmp_le (tgt := 110) dX12_among_101 (by decide) (fun c38 => ?_) (fun c38 => ?_)
      · replace m41 := ite_p c38 m41
        refine xi_aload_n 1 dX12_among_110 rfl ?_
        refine xi_iload_n 2 dX12_among_111 rfl ?_
        refine xi_iload_n 3 dX12_among_112 rfl ?_
        refine xi_iload 5 dX12_among_113 rfl ?_
        refine xi_iload 6 dX12_among_115 rfl ?_
        obtain ⟨v46, t47, k48, m41⟩ := bnd_some m41
        refine xi_callV (as := [.int w1, .int w3, .int w5, .int c]) (rest := [.int (((9 : Int32) * w5) + c), .ref 157]) dX12_among_117 (KX12_cost G Gb w1 w3 w5 c _ _ _ k48) mkX12_cost w_1304 ws_69 w_1302 (mem_get sh_149) rfl rfl rfl rfl (Nat.le_of_ble_eq_true rfl) (Nat.le_of_ble_eq_true rfl) (Nat.le_of_ble_eq_true rfl) (Nat.le_of_ble_eq_true rfl) (Nat.le_of_ble_eq_true rfl) ?_
        intro v M2 hz
        obtain ⟨rfl, rfl⟩ := hz
        show xW _ _ _ _ 120 _ [.int v46, .int (((9 : Int32) * w5) + c), .ref 157] (mem t47 Gb) _ _
        obtain ⟨rfl, rfl⟩ := some_pair m41
        refine xi_sub (lv' := [(0, .ref 149), (1, .int w1), (3, .int w3), (4, .int w4), (5, .int w5), (6, .int c)]) [1, 2, 3, 4, 5, 6] rfl ?_
        exact key42
      · replace m41 := ite_n c38 m41
        refine xi_ldcw (v := 1000000) dX12_among_104 w_1372 ?_
        refine xi_goto (tgt := 120) dX12_among_107 (by decide) ?_
        obtain ⟨rfl, rfl⟩ := some_pair m41
        refine xi_sub (lv' := [(0, .ref 149), (1, .int w1), (3, .int w3), (4, .int w4), (5, .int w5), (6, .int c)]) [1, 2, 3, 4, 5, 6] rfl ?_
        exact key42
set_option maxHeartbeats 4000000 in
set_option maxRecDepth 100000 in
theorem SX12_among_54_w (G : xG) (Gb : xMem) (w1 : Int32) (w3 : Int32) (w4 : Int32) (r0 : Int32) (t0 : St) :
    ∀ (k : Nat) (c : Int32) (σ : St) (r : Unit) (σ' : St), itr (SX12_among_54 w1 w3 w4) k c σ = some (r, σ') → (xW G mX12_among (xrm 7 0 0) (xQ G (PQ r0 t0 Gb) 0 0) 133 [(0, .ref 149), (1, .int w1), (3, .int w3)] [] (mem σ' Gb) 0 0) → xW G mX12_among (xrm 7 0 0) (xQ G (PQ r0 t0 Gb) 0 0) 54 [(0, .ref 149), (1, .int w1), (3, .int w3), (4, .int w4), (5, .int c)] [] (mem σ Gb) 0 0 := by
  intro k
  induction k with
  | zero =>
    intro c σ r σ' h
    exact absurd h (itr_zero _ _ _ _)
  | succ k ih =>
    intro c σ r σ' h HE
    obtain ⟨x, s1, hs, h⟩ := itr_succ h
    unfold SX12_among_54 at hs
    refine xi_iload 4 dX12_among_54 rfl ?_
    refine xi_aload_n 0 dX12_among_56 rfl ?_
    obtain ⟨v28, h29, hs⟩ := rdb_some hs
    refine yi_getV (f := 17) dX12_among_57 sh_149 rfl ok_9 (by decide) w_1025 rfl h29 ?_
    refine xi_icmp_gt (tgt := 133) dX12_among_60 (by decide) (fun c30 => ?_) (fun c30 => ?_)
    · replace hs := ite_p c30 hs
      refine xi_sub (lv' := [(0, .ref 149), (1, .int w1), (3, .int w3)]) [0, 1, 2] rfl ?_
      obtain ⟨rfl, rfl⟩ := some_pair hs
      obtain ⟨rfl, rfl⟩ := some_pair h
      exact HE
    · replace hs := ite_n c30 hs
      refine xi_iconst (v := 0) dX12_among_63 (by decide) ?_
      refine xi_istore (lv' := [(6, .int 0), (0, .ref 149), (1, .int w1), (3, .int w3), (4, .int w4), (5, .int c)]) dX12_among_64 (by decide) rfl ?_
      refine xi_sub (lv' := [(0, .ref 149), (1, .int w1), (3, .int w3), (4, .int w4), (5, .int c), (6, .int 0)]) [1, 2, 3, 4, 5, 0] rfl ?_
      obtain ⟨e49, t50, k51, hs⟩ := bnd_some hs
      obtain ⟨n52, k51⟩ := wh_itr k51
      refine SX12_among_66_w G Gb w1 w3 w4 c r0 t0 n52 (0 : Int32) σ _ _ k51 ?_
      show xW G mX12_among (xrm 7 0 0) (xQ G (PQ r0 t0 Gb) 0 0) 127 [(0, .ref 149), (1, .int w1), (3, .int w3), (4, .int w4), (5, .int c)] [] (mem t50 Gb) 0 0
      refine xi_iinc (v := (c + 1)) (lv' := [(5, .int (c + 1)), (0, .ref 149), (1, .int w1), (3, .int w3), (4, .int w4)]) 4 dX12_among_127 rfl rfl (by decide) rfl ?_
      refine xi_goto (tgt := 54) dX12_among_130 (by decide) ?_
      refine xi_sub (lv' := [(0, .ref 149), (1, .int w1), (3, .int w3), (4, .int w4), (5, .int (c + 1))]) [1, 2, 3, 4, 0] rfl ?_
      obtain ⟨rfl, rfl⟩ := some_pair hs
      exact ih (c + 1) t50 _ _ h HE
noncomputable def FX12_among (a : Int32) (b : Int32) (c : Int32) (σ : St) : Option ((Int32) × St) :=
  (bnd (FX12_isNet a σ) (fun v1 t2 => (if v1 = (0 : Int32) then (some ((-2 : Int32), t2)) else (bnd (FX12_isMeasure b t2) (fun v6 t7 => (if v6 = (0 : Int32) then (some ((-2 : Int32), t7)) else (bnd (FX12_isGreatest b t7) (fun v11 t12 => (if v11 = (0 : Int32) then (some ((-2 : Int32), t12)) else (bnd (FX12_isMeasure c t12) (fun v16 t17 => (if v16 = (0 : Int32) then (some ((-2 : Int32), t17)) else (if c = (2 : Int32) then (some ((-2 : Int32), t17)) else (bnd (FX12_laysLeast a b t17) (fun v22 t23 => (chk (inb (0 : Int32) 512) (rdb t23 155 ((0 : Int32).toNatClampNeg) (fun v26 => (bnd (wh (SX12_among_54 a c v26) (0 : Int32) t23) (fun e53 t54 => (bnd (FX12_laysRest a c t54) (fun v57 t58 => (chk (inb (0 : Int32) 512) (rdb t58 155 ((0 : Int32).toNatClampNeg) (fun v61 => (some (v61, t58)))))))))))))))))))))))))))
set_option maxHeartbeats 4000000 in
set_option maxRecDepth 100000 in
theorem KX12_among (G : xG) (Gb : xMem) (a : Int32) (b : Int32) (c : Int32) (σ : St) (r0 : Int32) (t0 : St) (hq : FX12_among a b c σ = some (r0, t0)) : xC G mX12_among 7 0 0 [.ref 149, .int a, .int b, .int c] (mem σ Gb) (PQ r0 t0 Gb) := by
  unfold FX12_among at hq
  refine xC.of (by decide) (Nat.le_of_ble_eq_true rfl) ?_
  show xW _ _ _ _ 0 [(0, .ref 149), (1, .int a), (2, .int b), (3, .int c)] [] _ 0 0
  refine xi_aload_n 0 dX12_among_0 rfl ?_
  refine xi_iload_n 1 dX12_among_1 rfl ?_
  obtain ⟨v1, t2, k3, hq⟩ := bnd_some hq
  refine xi_callV (as := [.int a]) (rest := []) dX12_among_2 (KX12_isNet G Gb a _ _ _ k3) mkX12_isNet w_1104 ws_35 w_1102 (mem_get sh_149) rfl rfl rfl rfl (Nat.le_of_ble_eq_true rfl) (Nat.le_of_ble_eq_true rfl) (Nat.le_of_ble_eq_true rfl) (Nat.le_of_ble_eq_true rfl) (Nat.le_of_ble_eq_true rfl) ?_
  intro v M2 hz
  obtain ⟨rfl, rfl⟩ := hz
  show xW _ _ _ _ 5 _ [.int v1] (mem t2 Gb) _ _
  refine xi_if_eq (tgt := 34) dX12_among_5 (by decide) (fun c4 => ?_) (fun c4 => ?_)
  · replace hq := ite_p c4 hq
    refine xi_bipush (v := (-2)) dX12_among_34 (by decide) ?_
    have r5 := some_pair hq
    obtain ⟨rfl, rfl⟩ := r5
    exact xi_iret dX12_among_36 rfl rfl (Nat.le_of_ble_eq_true rfl) (Nat.le_of_ble_eq_true rfl) ⟨rfl, rfl⟩
  · replace hq := ite_n c4 hq
    refine xi_iload_n 2 dX12_among_8 rfl ?_
    obtain ⟨v6, t7, k8, hq⟩ := bnd_some hq
    refine xi_callS (as := [.int b]) (rest := []) dX12_among_9 (KX12_isMeasure G Gb b _ _ _ k8) mkX12_isMeasure w_1288 w_1287 rfl rfl (Nat.le_of_ble_eq_true rfl) (Nat.le_of_ble_eq_true rfl) (Nat.le_of_ble_eq_true rfl) (Nat.le_of_ble_eq_true rfl) (Nat.le_of_ble_eq_true rfl) ?_
    intro v M2 hz
    obtain ⟨rfl, rfl⟩ := hz
    show xW _ _ _ _ 12 _ [.int v6] (mem t7 Gb) _ _
    refine xi_if_eq (tgt := 34) dX12_among_12 (by decide) (fun c9 => ?_) (fun c9 => ?_)
    · replace hq := ite_p c9 hq
      refine xi_bipush (v := (-2)) dX12_among_34 (by decide) ?_
      have r10 := some_pair hq
      obtain ⟨rfl, rfl⟩ := r10
      exact xi_iret dX12_among_36 rfl rfl (Nat.le_of_ble_eq_true rfl) (Nat.le_of_ble_eq_true rfl) ⟨rfl, rfl⟩
    · replace hq := ite_n c9 hq
      refine xi_iload_n 2 dX12_among_15 rfl ?_
      obtain ⟨v11, t12, k13, hq⟩ := bnd_some hq
      refine xi_callS (as := [.int b]) (rest := []) dX12_among_16 (KX12_isGreatest G Gb b _ _ _ k13) mkX12_isGreatest w_1322 w_1321 rfl rfl (Nat.le_of_ble_eq_true rfl) (Nat.le_of_ble_eq_true rfl) (Nat.le_of_ble_eq_true rfl) (Nat.le_of_ble_eq_true rfl) (Nat.le_of_ble_eq_true rfl) ?_
      intro v M2 hz
      obtain ⟨rfl, rfl⟩ := hz
      show xW _ _ _ _ 19 _ [.int v11] (mem t12 Gb) _ _
      refine xi_if_eq (tgt := 34) dX12_among_19 (by decide) (fun c14 => ?_) (fun c14 => ?_)
      · replace hq := ite_p c14 hq
        refine xi_bipush (v := (-2)) dX12_among_34 (by decide) ?_
        have r15 := some_pair hq
        obtain ⟨rfl, rfl⟩ := r15
        exact xi_iret dX12_among_36 rfl rfl (Nat.le_of_ble_eq_true rfl) (Nat.le_of_ble_eq_true rfl) ⟨rfl, rfl⟩
      · replace hq := ite_n c14 hq
        refine xi_iload_n 3 dX12_among_22 rfl ?_
        obtain ⟨v16, t17, k18, hq⟩ := bnd_some hq
        refine xi_callS (as := [.int c]) (rest := []) dX12_among_23 (KX12_isMeasure G Gb c _ _ _ k18) mkX12_isMeasure w_1288 w_1287 rfl rfl (Nat.le_of_ble_eq_true rfl) (Nat.le_of_ble_eq_true rfl) (Nat.le_of_ble_eq_true rfl) (Nat.le_of_ble_eq_true rfl) (Nat.le_of_ble_eq_true rfl) ?_
        intro v M2 hz
        obtain ⟨rfl, rfl⟩ := hz
        show xW _ _ _ _ 26 _ [.int v16] (mem t17 Gb) _ _
        refine xi_if_eq (tgt := 34) dX12_among_26 (by decide) (fun c19 => ?_) (fun c19 => ?_)
        · replace hq := ite_p c19 hq
          refine xi_bipush (v := (-2)) dX12_among_34 (by decide) ?_
          have r20 := some_pair hq
          obtain ⟨rfl, rfl⟩ := r20
          exact xi_iret dX12_among_36 rfl rfl (Nat.le_of_ble_eq_true rfl) (Nat.le_of_ble_eq_true rfl) ⟨rfl, rfl⟩
        · replace hq := ite_n c19 hq
          refine xi_iload_n 3 dX12_among_29 rfl ?_
          refine xi_iconst (v := 2) dX12_among_30 (by decide) ?_
          refine xi_icmp_ne (tgt := 37) dX12_among_31 (by decide) (fun c21 => ?_) (fun c21 => ?_)
          · replace hq := ite_n c21 hq
            refine xi_aload_n 0 dX12_among_37 rfl ?_
            refine xi_iload_n 1 dX12_among_38 rfl ?_
            refine xi_iload_n 2 dX12_among_39 rfl ?_
            obtain ⟨v22, t23, k24, hq⟩ := bnd_some hq
            refine xi_callV (as := [.int a, .int b]) (rest := []) dX12_among_40 (KX12_laysLeast G Gb a b _ _ _ k24) mkX12_laysLeast w_1366 ws_78 w_1364 (mem_get sh_149) rfl rfl rfl rfl (Nat.le_of_ble_eq_true rfl) (Nat.le_of_ble_eq_true rfl) (Nat.le_of_ble_eq_true rfl) (Nat.le_of_ble_eq_true rfl) (Nat.le_of_ble_eq_true rfl) ?_
            intro v M2 hz
            obtain ⟨rfl, rfl⟩ := hz
            show xW _ _ _ _ 43 _ [] (mem t23 Gb) _ _
            refine xi_aload_n 0 dX12_among_43 rfl ?_
            refine yi_getR (f := 14) dX12_among_44 sh_149 rfl ok_9 (by decide) w_1022 rfl ?_
            refine xi_iconst (v := 0) dX12_among_47 (by decide) ?_
            obtain ⟨g25, hq⟩ := chk_some hq
            obtain ⟨v26, h27, hq⟩ := rdb_some hq
            refine yi_ialoadV dX12_among_48 sh_155 g25 h27 ?_
            refine xi_istore (lv' := [(4, .int v26), (0, .ref 149), (1, .int a), (2, .int b), (3, .int c)]) dX12_among_49 (by decide) rfl ?_
            refine xi_iconst (v := 0) dX12_among_51 (by decide) ?_
            refine xi_istore (lv' := [(5, .int 0), (4, .int v26), (0, .ref 149), (1, .int a), (2, .int b), (3, .int c)]) dX12_among_52 (by decide) rfl ?_
            refine xi_sub (lv' := [(0, .ref 149), (1, .int a), (3, .int c), (4, .int v26), (5, .int 0)]) [2, 3, 5, 1, 0] rfl ?_
            obtain ⟨e53, t54, k55, hq⟩ := bnd_some hq
            obtain ⟨n56, k55⟩ := wh_itr k55
            refine SX12_among_54_w G Gb a c v26 r0 t0 n56 (0 : Int32) t23 _ _ k55 ?_
            show xW G mX12_among (xrm 7 0 0) (xQ G (PQ r0 t0 Gb) 0 0) 133 [(0, .ref 149), (1, .int a), (3, .int c)] [] (mem t54 Gb) 0 0
            refine xi_aload_n 0 dX12_among_133 rfl ?_
            refine xi_iload_n 1 dX12_among_134 rfl ?_
            refine xi_iload_n 2 dX12_among_135 rfl ?_
            obtain ⟨v57, t58, k59, hq⟩ := bnd_some hq
            refine xi_callV (as := [.int a, .int c]) (rest := []) dX12_among_136 (KX12_laysRest G Gb a c _ _ _ k59) mkX12_laysRest w_1375 ws_80 w_1373 (mem_get sh_149) rfl rfl rfl rfl (Nat.le_of_ble_eq_true rfl) (Nat.le_of_ble_eq_true rfl) (Nat.le_of_ble_eq_true rfl) (Nat.le_of_ble_eq_true rfl) (Nat.le_of_ble_eq_true rfl) ?_
            intro v M2 hz
            obtain ⟨rfl, rfl⟩ := hz
            show xW _ _ _ _ 139 _ [] (mem t58 Gb) _ _
            refine xi_aload_n 0 dX12_among_139 rfl ?_
            refine yi_getR (f := 14) dX12_among_140 sh_149 rfl ok_9 (by decide) w_1022 rfl ?_
            refine xi_iconst (v := 0) dX12_among_143 (by decide) ?_
            obtain ⟨g60, hq⟩ := chk_some hq
            obtain ⟨v61, h62, hq⟩ := rdb_some hq
            refine yi_ialoadV dX12_among_144 sh_155 g60 h62 ?_
            have r63 := some_pair hq
            obtain ⟨rfl, rfl⟩ := r63
            exact xi_iret dX12_among_145 rfl rfl (Nat.le_of_ble_eq_true rfl) (Nat.le_of_ble_eq_true rfl) ⟨rfl, rfl⟩
          · replace hq := ite_p c21 hq
            refine xi_bipush (v := (-2)) dX12_among_34 (by decide) ?_
            have r64 := some_pair hq
            obtain ⟨rfl, rfl⟩ := r64
            exact xi_iret dX12_among_36 rfl rfl (Nat.le_of_ble_eq_true rfl) (Nat.le_of_ble_eq_true rfl) ⟨rfl, rfl⟩
noncomputable def SX12_bag_67 (w1 : Int32) (w5 : Int32) (c : Int32 × Int32) (σ : St) : Option (((Int32 × Int32) ⊕ (Int32)) × St) :=
  (bnd (FX12_points w1 σ) (fun v17 t18 => (if v17 ≤ c.2 then (some (Sum.inr c.1, t18)) else (bnd (FX12_has w5 c.2 t18) (fun v21 t22 => (bnd (if v21 = (0 : Int32) then (some ((0 : Int32), t22)) else (bnd (FX12_nearOf w1 c.2 t22) (fun v29 t30 => (if (v29 &&& (w5 ^^^ (-1 : Int32))) = (0 : Int32) then (some ((0 : Int32), t30)) else (some ((shl (1 : Int32) c.2), t30)))))) (fun v25 t26 => (some (Sum.inl ((c.1 ||| v25), (c.2 + 1)), t26)))))))))
set_option maxHeartbeats 4000000 in
set_option maxRecDepth 100000 in
theorem SX12_bag_67_w (G : xG) (Gb : xMem) (w1 : Int32) (w5 : Int32) (r0 : Int32) (t0 : St) :
    ∀ (k : Nat) (c : Int32 × Int32) (σ : St) (r : Int32) (σ' : St), itr (SX12_bag_67 w1 w5) k c σ = some (r, σ') → (xW G mX12_bag (xrm 4 0 0) (xQ G (PQ r0 t0 Gb) 0 0) 121 [(6, .int r)] [] (mem σ' Gb) 0 0) → xW G mX12_bag (xrm 4 0 0) (xQ G (PQ r0 t0 Gb) 0 0) 67 [(0, .ref 149), (1, .int w1), (5, .int w5), (6, .int c.1), (7, .int c.2)] [] (mem σ Gb) 0 0 := by
  intro k
  induction k with
  | zero =>
    intro c σ r σ' h
    exact absurd h (itr_zero _ _ _ _)
  | succ k ih =>
    intro c σ r σ' h HE
    obtain ⟨x, s1, hs, h⟩ := itr_succ h
    unfold SX12_bag_67 at hs
    refine xi_iload 4 dX12_bag_67 rfl ?_
    refine xi_aload_n 0 dX12_bag_69 rfl ?_
    refine xi_iload_n 1 dX12_bag_70 rfl ?_
    obtain ⟨v17, t18, k19, hs⟩ := bnd_some hs
    refine xi_callV (as := [.int w1]) (rest := [.int c.2]) dX12_bag_71 (KX12_points G Gb w1 _ _ _ k19) mkX12_points w_1108 ws_36 w_1106 (mem_get sh_149) rfl rfl rfl rfl (Nat.le_of_ble_eq_true rfl) (Nat.le_of_ble_eq_true rfl) (Nat.le_of_ble_eq_true rfl) (Nat.le_of_ble_eq_true rfl) (Nat.le_of_ble_eq_true rfl) ?_
    intro v M2 hz
    obtain ⟨rfl, rfl⟩ := hz
    show xW _ _ _ _ 74 _ [.int v17, .int c.2] (mem t18 Gb) _ _
    refine xi_icmp_ge (tgt := 121) dX12_bag_74 (by decide) (fun c20 => ?_) (fun c20 => ?_)
    · replace hs := ite_p c20 hs
      refine xi_sub (lv' := [(6, .int c.1)]) [3] rfl ?_
      obtain ⟨rfl, rfl⟩ := some_pair hs
      obtain ⟨rfl, rfl⟩ := some_pair h
      exact HE
    · replace hs := ite_n c20 hs
      refine xi_iload 3 dX12_bag_77 rfl ?_
      refine xi_iload 2 dX12_bag_79 rfl ?_
      refine xi_iload 4 dX12_bag_81 rfl ?_
      obtain ⟨v21, t22, k23, hs⟩ := bnd_some hs
      refine xi_callS (as := [.int w5, .int c.2]) (rest := [.int c.1]) dX12_bag_83 (KX12_has G Gb w5 c.2 _ _ _ k23) mkX12_has w_1207 w_1206 rfl rfl (Nat.le_of_ble_eq_true rfl) (Nat.le_of_ble_eq_true rfl) (Nat.le_of_ble_eq_true rfl) (Nat.le_of_ble_eq_true rfl) (Nat.le_of_ble_eq_true rfl) ?_
      intro v M2 hz
      obtain ⟨rfl, rfl⟩ := hz
      show xW _ _ _ _ 86 _ [.int v21, .int c.1] (mem t22 Gb) _ _
      obtain ⟨v25, t26, m27, hs⟩ := bnd_some hs
      have key28 : xW G mX12_bag (xrm 4 0 0) (xQ G (PQ r0 t0 Gb) 0 0) 112 [(0, .ref 149), (1, .int w1), (5, .int w5), (7, .int c.2)] [.int v25, .int c.1] (mem t26 Gb) 0 0 := by
        refine xi_ior (v := c.1 ||| v25) dX12_bag_112 rfl ?_
        refine xi_istore (lv' := [(6, .int (c.1 ||| v25)), (0, .ref 149), (1, .int w1), (5, .int w5), (7, .int c.2)]) dX12_bag_113 (by decide) rfl ?_
        refine xi_iinc (v := (c.2 + 1)) (lv' := [(7, .int (c.2 + 1)), (6, .int (c.1 ||| v25)), (0, .ref 149), (1, .int w1), (5, .int w5)]) 4 dX12_bag_115 rfl rfl (by decide) rfl ?_
        refine xi_goto (tgt := 67) dX12_bag_118 (by decide) ?_
        refine xi_sub (lv' := [(0, .ref 149), (1, .int w1), (5, .int w5), (6, .int (c.1 ||| v25)), (7, .int (c.2 + 1))]) [2, 3, 4, 1, 0] rfl ?_
        obtain ⟨rfl, rfl⟩ := some_pair hs
        exact ih ((c.1 ||| v25), (c.2 + 1)) t26 _ _ h HE
      refine xi_if_eq (tgt := 111) dX12_bag_86 (by decide) (fun c24 => ?_) (fun c24 => ?_)
      · replace m27 := ite_p c24 m27
        refine xi_iconst (v := 0) dX12_bag_111 (by decide) ?_
        obtain ⟨rfl, rfl⟩ := some_pair m27
        refine xi_sub (lv' := [(0, .ref 149), (1, .int w1), (5, .int w5), (7, .int c.2)]) [0, 1, 2, 4] rfl ?_
        exact key28
      · replace m27 := ite_n c24 m27
        refine xi_aload_n 0 dX12_bag_89 rfl ?_
        refine xi_iload_n 1 dX12_bag_90 rfl ?_
        refine xi_iload 4 dX12_bag_91 rfl ?_
        obtain ⟨v29, t30, k31, m27⟩ := bnd_some m27
        refine xi_callV (as := [.int w1, .int c.2]) (rest := [.int c.1]) dX12_bag_93 (KX12_nearOf G Gb w1 c.2 _ _ _ k31) mkX12_nearOf w_1188 ws_52 w_1186 (mem_get sh_149) rfl rfl rfl rfl (Nat.le_of_ble_eq_true rfl) (Nat.le_of_ble_eq_true rfl) (Nat.le_of_ble_eq_true rfl) (Nat.le_of_ble_eq_true rfl) (Nat.le_of_ble_eq_true rfl) ?_
        intro v M2 hz
        obtain ⟨rfl, rfl⟩ := hz
        show xW _ _ _ _ 96 _ [.int v29, .int c.1] (mem t30 Gb) _ _
        refine xi_iload 2 dX12_bag_96 rfl ?_
        refine xi_iconst (v := (-1)) dX12_bag_98 (by decide) ?_
        refine xi_ixor (v := w5 ^^^ (-1 : Int32)) dX12_bag_99 rfl ?_
        refine xi_iand (v := v29 &&& (w5 ^^^ (-1 : Int32))) dX12_bag_100 rfl ?_
        refine xi_if_eq (tgt := 111) dX12_bag_101 (by decide) (fun c32 => ?_) (fun c32 => ?_)
        · replace m27 := ite_p c32 m27
          refine xi_iconst (v := 0) dX12_bag_111 (by decide) ?_
          obtain ⟨rfl, rfl⟩ := some_pair m27
          refine xi_sub (lv' := [(0, .ref 149), (1, .int w1), (5, .int w5), (7, .int c.2)]) [0, 1, 2, 4] rfl ?_
          exact key28
        · replace m27 := ite_n c32 m27
          refine xi_iconst (v := 1) dX12_bag_104 (by decide) ?_
          refine xi_iload 4 dX12_bag_105 rfl ?_
          refine xi_ishl (v := shl (1 : Int32) c.2) dX12_bag_107 rfl ?_
          refine xi_goto (tgt := 112) dX12_bag_108 (by decide) ?_
          obtain ⟨rfl, rfl⟩ := some_pair m27
          refine xi_sub (lv' := [(0, .ref 149), (1, .int w1), (5, .int w5), (7, .int c.2)]) [0, 1, 2, 4] rfl ?_
          exact key28
noncomputable def FX12_bag (a : Int32) (b : Int32) (c : Int32) (σ : St) : Option ((Int32) × St) :=
  (bnd (FX12_isPoint a c σ) (fun v1 t2 => (if v1 = (0 : Int32) then (some ((-2 : Int32), t2)) else (bnd (FX12_in b.toInt64 (0 : Int64) (1 : Int64) t2) (fun v6 t7 => (if v6 = (0 : Int32) then (some ((-2 : Int32), t7)) else (bnd (FX12_at a c t7) (fun v10 t11 => (bnd (FX12_aheadOf a c t11) (fun v13 t14 => (if b = (1 : Int32) then (bnd (FX12_neighbours a v13 v10 t14) (fun v38 t39 => (some ((v38 ||| (shl (1 : Int32) v10)), t39)))) else (bnd (wh (SX12_bag_67 a v13) ((shl (1 : Int32) v10), (0 : Int32)) t14) (fun e33 t34 => (some (e33, t34)))))))))))))))
set_option maxHeartbeats 4000000 in
set_option maxRecDepth 100000 in
theorem KX12_bag (G : xG) (Gb : xMem) (a : Int32) (b : Int32) (c : Int32) (σ : St) (r0 : Int32) (t0 : St) (hq : FX12_bag a b c σ = some (r0, t0)) : xC G mX12_bag 4 0 0 [.ref 149, .int a, .int b, .int c] (mem σ Gb) (PQ r0 t0 Gb) := by
  unfold FX12_bag at hq
  refine xC.of (by decide) (Nat.le_of_ble_eq_true rfl) ?_
  show xW _ _ _ _ 0 [(0, .ref 149), (1, .int a), (2, .int b), (3, .int c)] [] _ 0 0
  refine xi_aload_n 0 dX12_bag_0 rfl ?_
  refine xi_iload_n 1 dX12_bag_1 rfl ?_
  refine xi_iload_n 3 dX12_bag_2 rfl ?_
  obtain ⟨v1, t2, k3, hq⟩ := bnd_some hq
  refine xi_callV (as := [.int a, .int c]) (rest := []) dX12_bag_3 (KX12_isPoint G Gb a c _ _ _ k3) mkX12_isPoint w_1257 ws_63 w_1255 (mem_get sh_149) rfl rfl rfl rfl (Nat.le_of_ble_eq_true rfl) (Nat.le_of_ble_eq_true rfl) (Nat.le_of_ble_eq_true rfl) (Nat.le_of_ble_eq_true rfl) (Nat.le_of_ble_eq_true rfl) ?_
  intro v M2 hz
  obtain ⟨rfl, rfl⟩ := hz
  show xW _ _ _ _ 6 _ [.int v1] (mem t2 Gb) _ _
  refine xi_if_eq (tgt := 19) dX12_bag_6 (by decide) (fun c4 => ?_) (fun c4 => ?_)
  · replace hq := ite_p c4 hq
    refine xi_bipush (v := (-2)) dX12_bag_19 (by decide) ?_
    have r5 := some_pair hq
    obtain ⟨rfl, rfl⟩ := r5
    exact xi_iret dX12_bag_21 rfl rfl (Nat.le_of_ble_eq_true rfl) (Nat.le_of_ble_eq_true rfl) ⟨rfl, rfl⟩
  · replace hq := ite_n c4 hq
    refine xi_iload_n 2 dX12_bag_9 rfl ?_
    refine xi_i2l dX12_bag_10 rfl ?_
    refine xi_lconst (v := 0) dX12_bag_11 (by decide) ?_
    refine xi_lconst (v := 1) dX12_bag_12 (by decide) ?_
    obtain ⟨v6, t7, k8, hq⟩ := bnd_some hq
    refine xi_callS (as := [.long b.toInt64, .long 0, .long 1]) (rest := []) dX12_bag_13 (KX12_in G Gb b.toInt64 (0 : Int64) (1 : Int64) _ _ _ k8) mkX12_in w_1100 w_1099 rfl rfl (Nat.le_of_ble_eq_true rfl) (Nat.le_of_ble_eq_true rfl) (Nat.le_of_ble_eq_true rfl) (Nat.le_of_ble_eq_true rfl) (Nat.le_of_ble_eq_true rfl) ?_
    intro v M2 hz
    obtain ⟨rfl, rfl⟩ := hz
    show xW _ _ _ _ 16 _ [.int v6] (mem t7 Gb) _ _
    refine xi_if_ne (tgt := 22) dX12_bag_16 (by decide) (fun c9 => ?_) (fun c9 => ?_)
    · replace hq := ite_n c9 hq
      refine xi_aload_n 0 dX12_bag_22 rfl ?_
      refine xi_iload_n 1 dX12_bag_23 rfl ?_
      refine xi_iload_n 3 dX12_bag_24 rfl ?_
      obtain ⟨v10, t11, k12, hq⟩ := bnd_some hq
      refine xi_callV (as := [.int a, .int c]) (rest := []) dX12_bag_25 (KX12_at G Gb a c _ _ _ k12) mkX12_at w_1273 ws_64 w_1271 (mem_get sh_149) rfl rfl rfl rfl (Nat.le_of_ble_eq_true rfl) (Nat.le_of_ble_eq_true rfl) (Nat.le_of_ble_eq_true rfl) (Nat.le_of_ble_eq_true rfl) (Nat.le_of_ble_eq_true rfl) ?_
      intro v M2 hz
      obtain ⟨rfl, rfl⟩ := hz
      show xW _ _ _ _ 28 _ [.int v10] (mem t11 Gb) _ _
      refine xi_istore (lv' := [(4, .int v10), (0, .ref 149), (1, .int a), (2, .int b), (3, .int c)]) dX12_bag_28 (by decide) rfl ?_
      refine xi_aload_n 1 dX12_bag_30 rfl ?_
      refine xi_iload_n 2 dX12_bag_31 rfl ?_
      refine xi_iload_n 4 dX12_bag_32 rfl ?_
      obtain ⟨v13, t14, k15, hq⟩ := bnd_some hq
      refine xi_callV (as := [.int a, .int c]) (rest := []) dX12_bag_33 (KX12_aheadOf G Gb a c _ _ _ k15) mkX12_aheadOf w_1337 ws_74 w_1335 (mem_get sh_149) rfl rfl rfl rfl (Nat.le_of_ble_eq_true rfl) (Nat.le_of_ble_eq_true rfl) (Nat.le_of_ble_eq_true rfl) (Nat.le_of_ble_eq_true rfl) (Nat.le_of_ble_eq_true rfl) ?_
      intro v M2 hz
      obtain ⟨rfl, rfl⟩ := hz
      show xW _ _ _ _ 36 _ [.int v13] (mem t14 Gb) _ _
      refine xi_istore (lv' := [(5, .int v13), (4, .int v10), (0, .ref 149), (1, .int a), (2, .int b), (3, .int c)]) dX12_bag_36 (by decide) rfl ?_
      refine xi_iload_n 4 dX12_bag_38 rfl ?_
      refine xi_iconst (v := 1) dX12_bag_39 (by decide) ?_
      refine xi_icmp_ne (tgt := 58) dX12_bag_40 (by decide) (fun c16 => ?_) (fun c16 => ?_)
      · replace hq := ite_n c16 hq
        refine xi_iconst (v := 1) dX12_bag_58 (by decide) ?_
        refine xi_iload 1 dX12_bag_59 rfl ?_
        refine xi_ishl (v := shl (1 : Int32) v10) dX12_bag_61 rfl ?_
        refine xi_istore (lv' := [(6, .int (shl (1 : Int32) v10)), (5, .int v13), (4, .int v10), (0, .ref 149), (1, .int a), (2, .int b), (3, .int c)]) dX12_bag_62 (by decide) rfl ?_
        refine xi_iconst (v := 0) dX12_bag_64 (by decide) ?_
        refine xi_istore (lv' := [(7, .int 0), (6, .int (shl (1 : Int32) v10)), (5, .int v13), (4, .int v10), (0, .ref 149), (1, .int a), (2, .int b), (3, .int c)]) dX12_bag_65 (by decide) rfl ?_
        refine xi_sub (lv' := [(0, .ref 149), (1, .int a), (5, .int v13), (6, .int (shl (1 : Int32) v10)), (7, .int 0)]) [4, 5, 2, 1, 0] rfl ?_
        obtain ⟨e33, t34, k35, hq⟩ := bnd_some hq
        obtain ⟨n36, k35⟩ := wh_itr k35
        refine SX12_bag_67_w G Gb a v13 r0 t0 n36 ((shl (1 : Int32) v10), (0 : Int32)) t14 _ _ k35 ?_
        show xW G mX12_bag (xrm 4 0 0) (xQ G (PQ r0 t0 Gb) 0 0) 121 [(6, .int e33)] [] (mem t34 Gb) 0 0
        refine xi_iload 0 dX12_bag_121 rfl ?_
        have r37 := some_pair hq
        obtain ⟨rfl, rfl⟩ := r37
        exact xi_iret dX12_bag_123 rfl rfl (Nat.le_of_ble_eq_true rfl) (Nat.le_of_ble_eq_true rfl) ⟨rfl, rfl⟩
      · replace hq := ite_p c16 hq
        refine xi_aload_n 2 dX12_bag_43 rfl ?_
        refine xi_iload_n 3 dX12_bag_44 rfl ?_
        refine xi_iload 0 dX12_bag_45 rfl ?_
        refine xi_iload 1 dX12_bag_47 rfl ?_
        obtain ⟨v38, t39, k40, hq⟩ := bnd_some hq
        refine xi_callV (as := [.int a, .int v13, .int v10]) (rest := []) dX12_bag_49 (KX12_neighbours G Gb a v13 v10 _ _ _ k40) mkX12_neighbours w_1308 ws_70 w_1306 (mem_get sh_149) rfl rfl rfl rfl (Nat.le_of_ble_eq_true rfl) (Nat.le_of_ble_eq_true rfl) (Nat.le_of_ble_eq_true rfl) (Nat.le_of_ble_eq_true rfl) (Nat.le_of_ble_eq_true rfl) ?_
        intro v M2 hz
        obtain ⟨rfl, rfl⟩ := hz
        show xW _ _ _ _ 52 _ [.int v38] (mem t39 Gb) _ _
        refine xi_iconst (v := 1) dX12_bag_52 (by decide) ?_
        refine xi_iload 1 dX12_bag_53 rfl ?_
        refine xi_ishl (v := shl (1 : Int32) v10) dX12_bag_55 rfl ?_
        refine xi_ior (v := v38 ||| (shl (1 : Int32) v10)) dX12_bag_56 rfl ?_
        have r41 := some_pair hq
        obtain ⟨rfl, rfl⟩ := r41
        exact xi_iret dX12_bag_57 rfl rfl (Nat.le_of_ble_eq_true rfl) (Nat.le_of_ble_eq_true rfl) ⟨rfl, rfl⟩
    · replace hq := ite_p c9 hq
      refine xi_bipush (v := (-2)) dX12_bag_19 (by decide) ?_
      have r42 := some_pair hq
      obtain ⟨rfl, rfl⟩ := r42
      exact xi_iret dX12_bag_21 rfl rfl (Nat.le_of_ble_eq_true rfl) (Nat.le_of_ble_eq_true rfl) ⟨rfl, rfl⟩
noncomputable def SX12_farOf_24 (w1 : Int32) (w3 : Int32) (w4 : Int32) (w5 : Int32) (c : Int32 × Int32) (σ : St) : Option (((Int32 × Int32) ⊕ (Int32)) × St) :=
  (bnd (FX12_points w1 σ) (fun v5 t6 => (if v5 ≤ c.2 then (some (Sum.inr c.1, t6)) else (bnd (FX12_has w4 c.2 t6) (fun v9 t10 => (bnd (if v9 = (0 : Int32) then (some ((0 : Int32), t10)) else (bnd (FX12_nearOf w1 c.2 t10) (fun v17 t18 => (some (v17, t18))))) (fun v13 t14 => (some (Sum.inl ((c.1 ||| v13), (c.2 + 1)), t14)))))))))
noncomputable def SX12_farOf_8 (w1 : Int32) (w3 : Int32) (c : Int32 × Int32) (σ : St) : Option (((Int32 × Int32) ⊕ ((Int32) ⊕ (Int32))) × St) :=
  (bnd (FX12_has c.1 w3 σ) (fun v1 t2 => (if v1 = (0 : Int32) then (bnd (wh (SX12_farOf_24 w1 w3 c.1 c.2) (c.1, (0 : Int32)) t2) (fun e20 t21 => (if e20 = c.1 then (some (Sum.inr (Sum.inl (-1 : Int32)), t21)) else (some (Sum.inl (e20, (c.2 + 1)), t21))))) else (some (Sum.inr (Sum.inr c.2), t2)))))
set_option maxHeartbeats 4000000 in
set_option maxRecDepth 100000 in
theorem SX12_farOf_24_w (G : xG) (Gb : xMem) (w1 : Int32) (w3 : Int32) (w4 : Int32) (w5 : Int32) (r0 : Int32) (t0 : St) :
    ∀ (k : Nat) (c : Int32 × Int32) (σ : St) (r : Int32) (σ' : St), itr (SX12_farOf_24 w1 w3 w4 w5) k c σ = some (r, σ') → (xW G mX12_farOf (xrm 2 0 0) (xQ G (PQ r0 t0 Gb) 0 0) 66 [(0, .ref 149), (1, .int w1), (3, .int w3), (4, .int w4), (5, .int w5), (6, .int r)] [] (mem σ' Gb) 0 0) → xW G mX12_farOf (xrm 2 0 0) (xQ G (PQ r0 t0 Gb) 0 0) 24 [(0, .ref 149), (1, .int w1), (3, .int w3), (4, .int w4), (5, .int w5), (6, .int c.1), (7, .int c.2)] [] (mem σ Gb) 0 0 := by
  intro k
  induction k with
  | zero =>
    intro c σ r σ' h
    exact absurd h (itr_zero _ _ _ _)
  | succ k ih =>
    intro c σ r σ' h HE
    obtain ⟨x, s1, hs, h⟩ := itr_succ h
    unfold SX12_farOf_24 at hs
    refine xi_iload 6 dX12_farOf_24 rfl ?_
    refine xi_aload_n 0 dX12_farOf_26 rfl ?_
    refine xi_iload_n 1 dX12_farOf_27 rfl ?_
    obtain ⟨v5, t6, k7, hs⟩ := bnd_some hs
    refine xi_callV (as := [.int w1]) (rest := [.int c.2]) dX12_farOf_28 (KX12_points G Gb w1 _ _ _ k7) mkX12_points w_1108 ws_36 w_1106 (mem_get sh_149) rfl rfl rfl rfl (Nat.le_of_ble_eq_true rfl) (Nat.le_of_ble_eq_true rfl) (Nat.le_of_ble_eq_true rfl) (Nat.le_of_ble_eq_true rfl) (Nat.le_of_ble_eq_true rfl) ?_
    intro v M2 hz
    obtain ⟨rfl, rfl⟩ := hz
    show xW _ _ _ _ 31 _ [.int v5, .int c.2] (mem t6 Gb) _ _
    refine xi_icmp_ge (tgt := 66) dX12_farOf_31 (by decide) (fun c8 => ?_) (fun c8 => ?_)
    · replace hs := ite_p c8 hs
      refine xi_sub (lv' := [(0, .ref 149), (1, .int w1), (3, .int w3), (4, .int w4), (5, .int w5), (6, .int c.1)]) [0, 1, 2, 3, 4, 5] rfl ?_
      obtain ⟨rfl, rfl⟩ := some_pair hs
      obtain ⟨rfl, rfl⟩ := some_pair h
      exact HE
    · replace hs := ite_n c8 hs
      refine xi_iload 5 dX12_farOf_34 rfl ?_
      refine xi_iload 3 dX12_farOf_36 rfl ?_
      refine xi_iload 6 dX12_farOf_38 rfl ?_
      obtain ⟨v9, t10, k11, hs⟩ := bnd_some hs
      refine xi_callS (as := [.int w4, .int c.2]) (rest := [.int c.1]) dX12_farOf_40 (KX12_has G Gb w4 c.2 _ _ _ k11) mkX12_has w_1207 w_1206 rfl rfl (Nat.le_of_ble_eq_true rfl) (Nat.le_of_ble_eq_true rfl) (Nat.le_of_ble_eq_true rfl) (Nat.le_of_ble_eq_true rfl) (Nat.le_of_ble_eq_true rfl) ?_
      intro v M2 hz
      obtain ⟨rfl, rfl⟩ := hz
      show xW _ _ _ _ 43 _ [.int v9, .int c.1] (mem t10 Gb) _ _
      obtain ⟨v13, t14, m15, hs⟩ := bnd_some hs
      have key16 : xW G mX12_farOf (xrm 2 0 0) (xQ G (PQ r0 t0 Gb) 0 0) 57 [(0, .ref 149), (1, .int w1), (3, .int w3), (4, .int w4), (5, .int w5), (7, .int c.2)] [.int v13, .int c.1] (mem t14 Gb) 0 0 := by
        refine xi_ior (v := c.1 ||| v13) dX12_farOf_57 rfl ?_
        refine xi_istore (lv' := [(6, .int (c.1 ||| v13)), (0, .ref 149), (1, .int w1), (3, .int w3), (4, .int w4), (5, .int w5), (7, .int c.2)]) dX12_farOf_58 (by decide) rfl ?_
        refine xi_iinc (v := (c.2 + 1)) (lv' := [(7, .int (c.2 + 1)), (6, .int (c.1 ||| v13)), (0, .ref 149), (1, .int w1), (3, .int w3), (4, .int w4), (5, .int w5)]) 6 dX12_farOf_60 rfl rfl (by decide) rfl ?_
        refine xi_goto (tgt := 24) dX12_farOf_63 (by decide) ?_
        refine xi_sub (lv' := [(0, .ref 149), (1, .int w1), (3, .int w3), (4, .int w4), (5, .int w5), (6, .int (c.1 ||| v13)), (7, .int (c.2 + 1))]) [2, 3, 4, 5, 6, 1, 0] rfl ?_
        obtain ⟨rfl, rfl⟩ := some_pair hs
        exact ih ((c.1 ||| v13), (c.2 + 1)) t14 _ _ h HE
      refine xi_if_eq (tgt := 56) dX12_farOf_43 (by decide) (fun c12 => ?_) (fun c12 => ?_)
      · replace m15 := ite_p c12 m15
        refine xi_iconst (v := 0) dX12_farOf_56 (by decide) ?_
        obtain ⟨rfl, rfl⟩ := some_pair m15
        refine xi_sub (lv' := [(0, .ref 149), (1, .int w1), (3, .int w3), (4, .int w4), (5, .int w5), (7, .int c.2)]) [0, 1, 2, 3, 4, 6] rfl ?_
        exact key16
      · replace m15 := ite_n c12 m15
        refine xi_aload_n 0 dX12_farOf_46 rfl ?_
        refine xi_iload_n 1 dX12_farOf_47 rfl ?_
        refine xi_iload 6 dX12_farOf_48 rfl ?_
        obtain ⟨v17, t18, k19, m15⟩ := bnd_some m15
        refine xi_callV (as := [.int w1, .int c.2]) (rest := [.int c.1]) dX12_farOf_50 (KX12_nearOf G Gb w1 c.2 _ _ _ k19) mkX12_nearOf w_1188 ws_52 w_1186 (mem_get sh_149) rfl rfl rfl rfl (Nat.le_of_ble_eq_true rfl) (Nat.le_of_ble_eq_true rfl) (Nat.le_of_ble_eq_true rfl) (Nat.le_of_ble_eq_true rfl) (Nat.le_of_ble_eq_true rfl) ?_
        intro v M2 hz
        obtain ⟨rfl, rfl⟩ := hz
        show xW _ _ _ _ 53 _ [.int v17, .int c.1] (mem t18 Gb) _ _
        refine xi_goto (tgt := 57) dX12_farOf_53 (by decide) ?_
        obtain ⟨rfl, rfl⟩ := some_pair m15
        refine xi_sub (lv' := [(0, .ref 149), (1, .int w1), (3, .int w3), (4, .int w4), (5, .int w5), (7, .int c.2)]) [0, 1, 2, 3, 4, 6] rfl ?_
        exact key16
set_option maxHeartbeats 4000000 in
set_option maxRecDepth 100000 in
theorem SX12_farOf_8_w (G : xG) (Gb : xMem) (w1 : Int32) (w3 : Int32) (r0 : Int32) (t0 : St) :
    ∀ (k : Nat) (c : Int32 × Int32) (σ : St) (r : (Int32) ⊕ (Int32)) (σ' : St), itr (SX12_farOf_8 w1 w3) k c σ = some (r, σ') → (Sum.elim (fun v => v = r0 ∧ σ' = t0) (fun e => xW G mX12_farOf (xrm 2 0 0) (xQ G (PQ r0 t0 Gb) 0 0) 85 [(5, .int e)] [] (mem σ' Gb) 0 0) r) → xW G mX12_farOf (xrm 2 0 0) (xQ G (PQ r0 t0 Gb) 0 0) 8 [(0, .ref 149), (1, .int w1), (3, .int w3), (4, .int c.1), (5, .int c.2)] [] (mem σ Gb) 0 0 := by
  intro k
  induction k with
  | zero =>
    intro c σ r σ' h
    exact absurd h (itr_zero _ _ _ _)
  | succ k ih =>
    intro c σ r σ' h HE
    obtain ⟨x, s1, hs, h⟩ := itr_succ h
    unfold SX12_farOf_8 at hs
    refine xi_iload 3 dX12_farOf_8 rfl ?_
    refine xi_iload_n 2 dX12_farOf_10 rfl ?_
    obtain ⟨v1, t2, k3, hs⟩ := bnd_some hs
    refine xi_callS (as := [.int c.1, .int w3]) (rest := []) dX12_farOf_11 (KX12_has G Gb c.1 w3 _ _ _ k3) mkX12_has w_1207 w_1206 rfl rfl (Nat.le_of_ble_eq_true rfl) (Nat.le_of_ble_eq_true rfl) (Nat.le_of_ble_eq_true rfl) (Nat.le_of_ble_eq_true rfl) (Nat.le_of_ble_eq_true rfl) ?_
    intro v M2 hz
    obtain ⟨rfl, rfl⟩ := hz
    show xW _ _ _ _ 14 _ [.int v1] (mem t2 Gb) _ _
    refine xi_if_ne (tgt := 85) dX12_farOf_14 (by decide) (fun c4 => ?_) (fun c4 => ?_)
    · replace hs := ite_n c4 hs
      refine xi_sub (lv' := [(5, .int c.2)]) [4] rfl ?_
      obtain ⟨rfl, rfl⟩ := some_pair hs
      obtain ⟨rfl, rfl⟩ := some_pair h
      exact HE
    · replace hs := ite_p c4 hs
      refine xi_iload 3 dX12_farOf_17 rfl ?_
      refine xi_istore (lv' := [(6, .int c.1), (0, .ref 149), (1, .int w1), (3, .int w3), (4, .int c.1), (5, .int c.2)]) dX12_farOf_19 (by decide) rfl ?_
      refine xi_iconst (v := 0) dX12_farOf_21 (by decide) ?_
      refine xi_istore (lv' := [(7, .int 0), (6, .int c.1), (0, .ref 149), (1, .int w1), (3, .int w3), (4, .int c.1), (5, .int c.2)]) dX12_farOf_22 (by decide) rfl ?_
      refine xi_sub (lv' := [(0, .ref 149), (1, .int w1), (3, .int w3), (4, .int c.1), (5, .int c.2), (6, .int c.1), (7, .int 0)]) [2, 3, 4, 5, 6, 1, 0] rfl ?_
      obtain ⟨e20, t21, k22, hs⟩ := bnd_some hs
      obtain ⟨n23, k22⟩ := wh_itr k22
      refine SX12_farOf_24_w G Gb w1 w3 c.1 c.2 r0 t0 n23 (c.1, (0 : Int32)) t2 _ _ k22 ?_
      show xW G mX12_farOf (xrm 2 0 0) (xQ G (PQ r0 t0 Gb) 0 0) 66 [(0, .ref 149), (1, .int w1), (3, .int w3), (4, .int c.1), (5, .int c.2), (6, .int e20)] [] (mem t21 Gb) 0 0
      refine xi_iload 5 dX12_farOf_66 rfl ?_
      refine xi_iload 3 dX12_farOf_68 rfl ?_
      refine xi_icmp_ne (tgt := 75) dX12_farOf_70 (by decide) (fun c24 => ?_) (fun c24 => ?_)
      · replace hs := ite_n c24 hs
        refine xi_iload 5 dX12_farOf_75 rfl ?_
        refine xi_istore (lv' := [(4, .int e20), (0, .ref 149), (1, .int w1), (3, .int w3), (5, .int c.2), (6, .int e20)]) dX12_farOf_77 (by decide) rfl ?_
        refine xi_iinc (v := (c.2 + 1)) (lv' := [(5, .int (c.2 + 1)), (4, .int e20), (0, .ref 149), (1, .int w1), (3, .int w3), (6, .int e20)]) 4 dX12_farOf_79 rfl rfl (by decide) rfl ?_
        refine xi_goto (tgt := 8) dX12_farOf_82 (by decide) ?_
        refine xi_sub (lv' := [(0, .ref 149), (1, .int w1), (3, .int w3), (4, .int e20), (5, .int (c.2 + 1))]) [2, 3, 4, 1, 0] rfl ?_
        obtain ⟨rfl, rfl⟩ := some_pair hs
        exact ih (e20, (c.2 + 1)) t21 _ _ h HE
      · replace hs := ite_p c24 hs
        refine xi_iconst (v := (-1)) dX12_farOf_73 (by decide) ?_
        obtain ⟨rfl, rfl⟩ := some_pair hs
        obtain ⟨rfl, rfl⟩ := some_pair h
        have r25 := HE
        obtain ⟨rfl, rfl⟩ := r25
        exact xi_iret dX12_farOf_74 rfl rfl (Nat.le_of_ble_eq_true rfl) (Nat.le_of_ble_eq_true rfl) ⟨rfl, rfl⟩
noncomputable def FX12_farOf (a : Int32) (b : Int32) (c : Int32) (σ : St) : Option ((Int32) × St) :=
  (bnd (wh (SX12_farOf_8 a c) ((shl (1 : Int32) b), (0 : Int32)) σ) (fun e26 t27 => Sum.elim (fun e26 => (some (e26, t27))) (fun e26 => (some (e26, t27))) e26))
set_option maxHeartbeats 4000000 in
set_option maxRecDepth 100000 in
theorem KX12_farOf (G : xG) (Gb : xMem) (a : Int32) (b : Int32) (c : Int32) (σ : St) (r0 : Int32) (t0 : St) (hq : FX12_farOf a b c σ = some (r0, t0)) : xC G mX12_farOf 2 0 0 [.ref 149, .int a, .int b, .int c] (mem σ Gb) (PQ r0 t0 Gb) := by
  unfold FX12_farOf at hq
  refine xC.of (by decide) (Nat.le_of_ble_eq_true rfl) ?_
  show xW _ _ _ _ 0 [(0, .ref 149), (1, .int a), (2, .int b), (3, .int c)] [] _ 0 0
  refine xi_iconst (v := 1) dX12_farOf_0 (by decide) ?_
  refine xi_iload_n 2 dX12_farOf_1 rfl ?_
  refine xi_ishl (v := shl (1 : Int32) b) dX12_farOf_2 rfl ?_
  refine xi_istore (lv' := [(4, .int (shl (1 : Int32) b)), (0, .ref 149), (1, .int a), (2, .int b), (3, .int c)]) dX12_farOf_3 (by decide) rfl ?_
  refine xi_iconst (v := 0) dX12_farOf_5 (by decide) ?_
  refine xi_istore (lv' := [(5, .int 0), (4, .int (shl (1 : Int32) b)), (0, .ref 149), (1, .int a), (2, .int b), (3, .int c)]) dX12_farOf_6 (by decide) rfl ?_
  refine xi_sub (lv' := [(0, .ref 149), (1, .int a), (3, .int c), (4, .int (shl (1 : Int32) b)), (5, .int 0)]) [2, 3, 5, 1, 0] rfl ?_
  obtain ⟨e26, t27, k28, hq⟩ := bnd_some hq
  obtain ⟨n29, k28⟩ := wh_itr k28
  refine SX12_farOf_8_w G Gb a c r0 t0 n29 ((shl (1 : Int32) b), (0 : Int32)) σ _ _ k28 ?_
  rcases e26 with e26 | e26
  · replace hq := sel_l hq
    have r30 := some_pair hq
    exact r30
  · replace hq := sel_r hq
    show xW G mX12_farOf (xrm 2 0 0) (xQ G (PQ r0 t0 Gb) 0 0) 85 [(5, .int e26)] [] (mem t27 Gb) 0 0
    refine xi_iload 0 dX12_farOf_85 rfl ?_
    have r31 := some_pair hq
    obtain ⟨rfl, rfl⟩ := r31
    exact xi_iret dX12_farOf_87 rfl rfl (Nat.le_of_ble_eq_true rfl) (Nat.le_of_ble_eq_true rfl) ⟨rfl, rfl⟩
noncomputable def SX12_balls_32 (w1 : Int32) (w2 : Int32) (w3 : Int32) (w4 : Int32) (c : Int32 × Int32) (σ : St) : Option (((Int32 × Int32) ⊕ (Int32)) × St) :=
  (bnd (FX12_points w1 σ) (fun v9 t10 => (if v9 ≤ c.2 then (some (Sum.inr c.1, t10)) else (bnd (if c.2 = w3 then (some ((0 : Int32), t10)) else (bnd (FX12_farOf w1 w3 c.2 t10) (fun v18 t19 => (bnd (FX12_in v18.toInt64 (1 : Int64) w4.toInt64 t19) (fun v21 t22 => (if v21 = (0 : Int32) then (some ((0 : Int32), t22)) else (some ((1 : Int32), t22)))))))) (fun v14 t15 => (some (Sum.inl ((c.1 + v14), (c.2 + 1)), t15)))))))
noncomputable def SX12_balls_16 (w1 : Int32) (w3 : Int32) (c : Int32 × Int32) (σ : St) : Option (((Int32 × Int32) ⊕ (Int32)) × St) :=
  (bnd (FX12_points w1 σ) (fun v5 t6 => (if v5 ≤ c.2 then (some (Sum.inr c.1, t6)) else (bnd (wh (SX12_balls_32 w1 c.1 w3 c.2) ((0 : Int32), (0 : Int32)) t6) (fun e25 t26 => (chk (nz ((2 : Int32) * c.2)) (some (Sum.inl ((mxI c.1 (((e25 + ((2 : Int32) * c.2)) - (1 : Int32)) / ((2 : Int32) * c.2))), (c.2 + 1)), t26))))))))
noncomputable def SX12_balls_4 (w1 : Int32) (c : Int32 × Int32) (σ : St) : Option (((Int32 × Int32) ⊕ (Int32)) × St) :=
  (bnd (FX12_points w1 σ) (fun v1 t2 => (if v1 ≤ c.2 then (some (Sum.inr c.1, t2)) else (bnd (wh (SX12_balls_16 w1 c.2) (c.1, (1 : Int32)) t2) (fun e30 t31 => (some (Sum.inl (e30, (c.2 + 1)), t31)))))))
set_option maxHeartbeats 4000000 in
set_option maxRecDepth 100000 in
theorem SX12_balls_32_w (G : xG) (Gb : xMem) (w1 : Int32) (w2 : Int32) (w3 : Int32) (w4 : Int32) (r0 : Int32) (t0 : St) :
    ∀ (k : Nat) (c : Int32 × Int32) (σ : St) (r : Int32) (σ' : St), itr (SX12_balls_32 w1 w2 w3 w4) k c σ = some (r, σ') → (xW G mX12_balls (xrm 3 0 0) (xQ G (PQ r0 t0 Gb) 0 0) 83 [(0, .ref 149), (1, .int w1), (2, .int w2), (3, .int w3), (4, .int w4), (5, .int r)] [] (mem σ' Gb) 0 0) → xW G mX12_balls (xrm 3 0 0) (xQ G (PQ r0 t0 Gb) 0 0) 32 [(0, .ref 149), (1, .int w1), (2, .int w2), (3, .int w3), (4, .int w4), (5, .int c.1), (6, .int c.2)] [] (mem σ Gb) 0 0 := by
  intro k
  induction k with
  | zero =>
    intro c σ r σ' h
    exact absurd h (itr_zero _ _ _ _)
  | succ k ih =>
    intro c σ r σ' h HE
    obtain ⟨x, s1, hs, h⟩ := itr_succ h
    unfold SX12_balls_32 at hs
    refine xi_iload 6 dX12_balls_32 rfl ?_
    refine xi_aload_n 0 dX12_balls_34 rfl ?_
    refine xi_iload_n 1 dX12_balls_35 rfl ?_
    obtain ⟨v9, t10, k11, hs⟩ := bnd_some hs
    refine xi_callV (as := [.int w1]) (rest := [.int c.2]) dX12_balls_36 (KX12_points G Gb w1 _ _ _ k11) mkX12_points w_1108 ws_36 w_1106 (mem_get sh_149) rfl rfl rfl rfl (Nat.le_of_ble_eq_true rfl) (Nat.le_of_ble_eq_true rfl) (Nat.le_of_ble_eq_true rfl) (Nat.le_of_ble_eq_true rfl) (Nat.le_of_ble_eq_true rfl) ?_
    intro v M2 hz
    obtain ⟨rfl, rfl⟩ := hz
    show xW _ _ _ _ 39 _ [.int v9, .int c.2] (mem t10 Gb) _ _
    refine xi_icmp_ge (tgt := 83) dX12_balls_39 (by decide) (fun c12 => ?_) (fun c12 => ?_)
    · replace hs := ite_p c12 hs
      refine xi_sub (lv' := [(0, .ref 149), (1, .int w1), (2, .int w2), (3, .int w3), (4, .int w4), (5, .int c.1)]) [0, 1, 2, 3, 4, 5] rfl ?_
      obtain ⟨rfl, rfl⟩ := some_pair hs
      obtain ⟨rfl, rfl⟩ := some_pair h
      exact HE
    · replace hs := ite_n c12 hs
      refine xi_iload 5 dX12_balls_42 rfl ?_
      refine xi_iload 6 dX12_balls_44 rfl ?_
      refine xi_iload_n 3 dX12_balls_46 rfl ?_
      obtain ⟨v14, t15, m16, hs⟩ := bnd_some hs
      have key17 : xW G mX12_balls (xrm 3 0 0) (xQ G (PQ r0 t0 Gb) 0 0) 74 [(0, .ref 149), (1, .int w1), (2, .int w2), (3, .int w3), (4, .int w4), (6, .int c.2)] [.int v14, .int c.1] (mem t15 Gb) 0 0 := by
        refine xi_iadd (v := c.1 + v14) dX12_balls_74 rfl ?_
        refine xi_istore (lv' := [(5, .int (c.1 + v14)), (0, .ref 149), (1, .int w1), (2, .int w2), (3, .int w3), (4, .int w4), (6, .int c.2)]) dX12_balls_75 (by decide) rfl ?_
        refine xi_iinc (v := (c.2 + 1)) (lv' := [(6, .int (c.2 + 1)), (5, .int (c.1 + v14)), (0, .ref 149), (1, .int w1), (2, .int w2), (3, .int w3), (4, .int w4)]) 6 dX12_balls_77 rfl rfl (by decide) rfl ?_
        refine xi_goto (tgt := 32) dX12_balls_80 (by decide) ?_
        refine xi_sub (lv' := [(0, .ref 149), (1, .int w1), (2, .int w2), (3, .int w3), (4, .int w4), (5, .int (c.1 + v14)), (6, .int (c.2 + 1))]) [2, 3, 4, 5, 6, 1, 0] rfl ?_
        obtain ⟨rfl, rfl⟩ := some_pair hs
        exact ih ((c.1 + v14), (c.2 + 1)) t15 _ _ h HE
      refine xi_icmp_eq (tgt := 73) dX12_balls_47 (by decide) (fun c13 => ?_) (fun c13 => ?_)
      · replace m16 := ite_p c13 m16
        refine xi_iconst (v := 0) dX12_balls_73 (by decide) ?_
        obtain ⟨rfl, rfl⟩ := some_pair m16
        refine xi_sub (lv' := [(0, .ref 149), (1, .int w1), (2, .int w2), (3, .int w3), (4, .int w4), (6, .int c.2)]) [0, 1, 2, 3, 4, 6] rfl ?_
        exact key17
      · replace m16 := ite_n c13 m16
        refine xi_aload_n 0 dX12_balls_50 rfl ?_
        refine xi_iload_n 1 dX12_balls_51 rfl ?_
        refine xi_iload_n 3 dX12_balls_52 rfl ?_
        refine xi_iload 6 dX12_balls_53 rfl ?_
        obtain ⟨v18, t19, k20, m16⟩ := bnd_some m16
        refine xi_callV (as := [.int w1, .int w3, .int c.2]) (rest := [.int c.1]) dX12_balls_55 (KX12_farOf G Gb w1 w3 c.2 _ _ _ k20) mkX12_farOf w_1241 ws_60 w_1239 (mem_get sh_149) rfl rfl rfl rfl (Nat.le_of_ble_eq_true rfl) (Nat.le_of_ble_eq_true rfl) (Nat.le_of_ble_eq_true rfl) (Nat.le_of_ble_eq_true rfl) (Nat.le_of_ble_eq_true rfl) ?_
        intro v M2 hz
        obtain ⟨rfl, rfl⟩ := hz
        show xW _ _ _ _ 58 _ [.int v18, .int c.1] (mem t19 Gb) _ _
        refine xi_i2l dX12_balls_58 rfl ?_
        refine xi_lconst (v := 1) dX12_balls_59 (by decide) ?_
        refine xi_iload 4 dX12_balls_60 rfl ?_
        refine xi_i2l dX12_balls_62 rfl ?_
        obtain ⟨v21, t22, k23, m16⟩ := bnd_some m16
        refine xi_callS (as := [.long v18.toInt64, .long 1, .long w4.toInt64]) (rest := [.int c.1]) dX12_balls_63 (KX12_in G Gb v18.toInt64 (1 : Int64) w4.toInt64 _ _ _ k23) mkX12_in w_1100 w_1099 rfl rfl (Nat.le_of_ble_eq_true rfl) (Nat.le_of_ble_eq_true rfl) (Nat.le_of_ble_eq_true rfl) (Nat.le_of_ble_eq_true rfl) (Nat.le_of_ble_eq_true rfl) ?_
        intro v M2 hz
        obtain ⟨rfl, rfl⟩ := hz
        show xW _ _ _ _ 66 _ [.int v21, .int c.1] (mem t22 Gb) _ _
        refine xi_if_eq (tgt := 73) dX12_balls_66 (by decide) (fun c24 => ?_) (fun c24 => ?_)
        · replace m16 := ite_p c24 m16
          refine xi_iconst (v := 0) dX12_balls_73 (by decide) ?_
          obtain ⟨rfl, rfl⟩ := some_pair m16
          refine xi_sub (lv' := [(0, .ref 149), (1, .int w1), (2, .int w2), (3, .int w3), (4, .int w4), (6, .int c.2)]) [0, 1, 2, 3, 4, 6] rfl ?_
          exact key17
        · replace m16 := ite_n c24 m16
          refine xi_iconst (v := 1) dX12_balls_69 (by decide) ?_
          refine xi_goto (tgt := 74) dX12_balls_70 (by decide) ?_
          obtain ⟨rfl, rfl⟩ := some_pair m16
          refine xi_sub (lv' := [(0, .ref 149), (1, .int w1), (2, .int w2), (3, .int w3), (4, .int w4), (6, .int c.2)]) [0, 1, 2, 3, 4, 6] rfl ?_
          exact key17
set_option maxHeartbeats 4000000 in
set_option maxRecDepth 100000 in
theorem SX12_balls_16_w (G : xG) (Gb : xMem) (w1 : Int32) (w3 : Int32) (r0 : Int32) (t0 : St) :
    ∀ (k : Nat) (c : Int32 × Int32) (σ : St) (r : Int32) (σ' : St), itr (SX12_balls_16 w1 w3) k c σ = some (r, σ') → (xW G mX12_balls (xrm 3 0 0) (xQ G (PQ r0 t0 Gb) 0 0) 108 [(0, .ref 149), (1, .int w1), (2, .int r), (3, .int w3)] [] (mem σ' Gb) 0 0) → xW G mX12_balls (xrm 3 0 0) (xQ G (PQ r0 t0 Gb) 0 0) 16 [(0, .ref 149), (1, .int w1), (2, .int c.1), (3, .int w3), (4, .int c.2)] [] (mem σ Gb) 0 0 := by
  intro k
  induction k with
  | zero =>
    intro c σ r σ' h
    exact absurd h (itr_zero _ _ _ _)
  | succ k ih =>
    intro c σ r σ' h HE
    obtain ⟨x, s1, hs, h⟩ := itr_succ h
    unfold SX12_balls_16 at hs
    refine xi_iload 4 dX12_balls_16 rfl ?_
    refine xi_aload_n 0 dX12_balls_18 rfl ?_
    refine xi_iload_n 1 dX12_balls_19 rfl ?_
    obtain ⟨v5, t6, k7, hs⟩ := bnd_some hs
    refine xi_callV (as := [.int w1]) (rest := [.int c.2]) dX12_balls_20 (KX12_points G Gb w1 _ _ _ k7) mkX12_points w_1108 ws_36 w_1106 (mem_get sh_149) rfl rfl rfl rfl (Nat.le_of_ble_eq_true rfl) (Nat.le_of_ble_eq_true rfl) (Nat.le_of_ble_eq_true rfl) (Nat.le_of_ble_eq_true rfl) (Nat.le_of_ble_eq_true rfl) ?_
    intro v M2 hz
    obtain ⟨rfl, rfl⟩ := hz
    show xW _ _ _ _ 23 _ [.int v5, .int c.2] (mem t6 Gb) _ _
    refine xi_icmp_ge (tgt := 108) dX12_balls_23 (by decide) (fun c8 => ?_) (fun c8 => ?_)
    · replace hs := ite_p c8 hs
      refine xi_sub (lv' := [(0, .ref 149), (1, .int w1), (2, .int c.1), (3, .int w3)]) [0, 1, 2, 3] rfl ?_
      obtain ⟨rfl, rfl⟩ := some_pair hs
      obtain ⟨rfl, rfl⟩ := some_pair h
      exact HE
    · replace hs := ite_n c8 hs
      refine xi_iconst (v := 0) dX12_balls_26 (by decide) ?_
      refine xi_istore (lv' := [(5, .int 0), (0, .ref 149), (1, .int w1), (2, .int c.1), (3, .int w3), (4, .int c.2)]) dX12_balls_27 (by decide) rfl ?_
      refine xi_iconst (v := 0) dX12_balls_29 (by decide) ?_
      refine xi_istore (lv' := [(6, .int 0), (5, .int 0), (0, .ref 149), (1, .int w1), (2, .int c.1), (3, .int w3), (4, .int c.2)]) dX12_balls_30 (by decide) rfl ?_
      refine xi_sub (lv' := [(0, .ref 149), (1, .int w1), (2, .int c.1), (3, .int w3), (4, .int c.2), (5, .int 0), (6, .int 0)]) [2, 3, 4, 5, 6, 1, 0] rfl ?_
      obtain ⟨e25, t26, k27, hs⟩ := bnd_some hs
      obtain ⟨n28, k27⟩ := wh_itr k27
      refine SX12_balls_32_w G Gb w1 c.1 w3 c.2 r0 t0 n28 ((0 : Int32), (0 : Int32)) t6 _ _ k27 ?_
      show xW G mX12_balls (xrm 3 0 0) (xQ G (PQ r0 t0 Gb) 0 0) 83 [(0, .ref 149), (1, .int w1), (2, .int c.1), (3, .int w3), (4, .int c.2), (5, .int e25)] [] (mem t26 Gb) 0 0
      refine xi_iload_n 2 dX12_balls_83 rfl ?_
      refine xi_iload 5 dX12_balls_84 rfl ?_
      refine xi_iconst (v := 2) dX12_balls_86 (by decide) ?_
      refine xi_iload 4 dX12_balls_87 rfl ?_
      refine xi_imul (v := (2 : Int32) * c.2) dX12_balls_89 rfl ?_
      refine xi_iadd (v := e25 + ((2 : Int32) * c.2)) dX12_balls_90 rfl ?_
      refine xi_iconst (v := 1) dX12_balls_91 (by decide) ?_
      refine xi_isub (v := (e25 + ((2 : Int32) * c.2)) - (1 : Int32)) dX12_balls_92 rfl ?_
      refine xi_iconst (v := 2) dX12_balls_93 (by decide) ?_
      refine xi_iload 4 dX12_balls_94 rfl ?_
      refine xi_imul (v := (2 : Int32) * c.2) dX12_balls_96 rfl ?_
      obtain ⟨g29, hs⟩ := chk_some hs
      refine xi_idiv (v := ((e25 + ((2 : Int32) * c.2)) - (1 : Int32)) / ((2 : Int32) * c.2)) dX12_balls_97 (nz_ne g29) rfl ?_
      refine xi_max (v := (mxI c.1 (((e25 + ((2 : Int32) * c.2)) - (1 : Int32)) / ((2 : Int32) * c.2)))) dX12_balls_98 w_1234 w_37 w_3 w_mmax (Nat.le_of_ble_eq_true rfl) (Nat.le_of_ble_eq_true rfl) (Nat.le_of_ble_eq_true rfl) (Nat.le_of_ble_eq_true rfl) (Nat.le_of_ble_eq_true rfl) rfl ?_
      refine xi_istore_n (lv' := [(2, .int (mxI c.1 (((e25 + ((2 : Int32) * c.2)) - (1 : Int32)) / ((2 : Int32) * c.2)))), (0, .ref 149), (1, .int w1), (3, .int w3), (4, .int c.2), (5, .int e25)]) dX12_balls_101 (by decide) rfl ?_
      refine xi_iinc (v := (c.2 + 1)) (lv' := [(4, .int (c.2 + 1)), (2, .int (mxI c.1 (((e25 + ((2 : Int32) * c.2)) - (1 : Int32)) / ((2 : Int32) * c.2)))), (0, .ref 149), (1, .int w1), (3, .int w3), (5, .int e25)]) 4 dX12_balls_102 rfl rfl (by decide) rfl ?_
      refine xi_goto (tgt := 16) dX12_balls_105 (by decide) ?_
      refine xi_sub (lv' := [(0, .ref 149), (1, .int w1), (2, .int (mxI c.1 (((e25 + ((2 : Int32) * c.2)) - (1 : Int32)) / ((2 : Int32) * c.2)))), (3, .int w3), (4, .int (c.2 + 1))]) [2, 3, 1, 4, 0] rfl ?_
      obtain ⟨rfl, rfl⟩ := some_pair hs
      exact ih ((mxI c.1 (((e25 + ((2 : Int32) * c.2)) - (1 : Int32)) / ((2 : Int32) * c.2))), (c.2 + 1)) t26 _ _ h HE
set_option maxHeartbeats 4000000 in
set_option maxRecDepth 100000 in
theorem SX12_balls_4_w (G : xG) (Gb : xMem) (w1 : Int32) (r0 : Int32) (t0 : St) :
    ∀ (k : Nat) (c : Int32 × Int32) (σ : St) (r : Int32) (σ' : St), itr (SX12_balls_4 w1) k c σ = some (r, σ') → (xW G mX12_balls (xrm 3 0 0) (xQ G (PQ r0 t0 Gb) 0 0) 114 [(2, .int r)] [] (mem σ' Gb) 0 0) → xW G mX12_balls (xrm 3 0 0) (xQ G (PQ r0 t0 Gb) 0 0) 4 [(0, .ref 149), (1, .int w1), (2, .int c.1), (3, .int c.2)] [] (mem σ Gb) 0 0 := by
  intro k
  induction k with
  | zero =>
    intro c σ r σ' h
    exact absurd h (itr_zero _ _ _ _)
  | succ k ih =>
    intro c σ r σ' h HE
    obtain ⟨x, s1, hs, h⟩ := itr_succ h
    unfold SX12_balls_4 at hs
    refine xi_iload_n 3 dX12_balls_4 rfl ?_
    refine xi_aload_n 0 dX12_balls_5 rfl ?_
    refine xi_iload_n 1 dX12_balls_6 rfl ?_
    obtain ⟨v1, t2, k3, hs⟩ := bnd_some hs
    refine xi_callV (as := [.int w1]) (rest := [.int c.2]) dX12_balls_7 (KX12_points G Gb w1 _ _ _ k3) mkX12_points w_1108 ws_36 w_1106 (mem_get sh_149) rfl rfl rfl rfl (Nat.le_of_ble_eq_true rfl) (Nat.le_of_ble_eq_true rfl) (Nat.le_of_ble_eq_true rfl) (Nat.le_of_ble_eq_true rfl) (Nat.le_of_ble_eq_true rfl) ?_
    intro v M2 hz
    obtain ⟨rfl, rfl⟩ := hz
    show xW _ _ _ _ 10 _ [.int v1, .int c.2] (mem t2 Gb) _ _
    refine xi_icmp_ge (tgt := 114) dX12_balls_10 (by decide) (fun c4 => ?_) (fun c4 => ?_)
    · replace hs := ite_p c4 hs
      refine xi_sub (lv' := [(2, .int c.1)]) [2] rfl ?_
      obtain ⟨rfl, rfl⟩ := some_pair hs
      obtain ⟨rfl, rfl⟩ := some_pair h
      exact HE
    · replace hs := ite_n c4 hs
      refine xi_iconst (v := 1) dX12_balls_13 (by decide) ?_
      refine xi_istore (lv' := [(4, .int 1), (0, .ref 149), (1, .int w1), (2, .int c.1), (3, .int c.2)]) dX12_balls_14 (by decide) rfl ?_
      refine xi_sub (lv' := [(0, .ref 149), (1, .int w1), (2, .int c.1), (3, .int c.2), (4, .int 1)]) [1, 2, 3, 4, 0] rfl ?_
      obtain ⟨e30, t31, k32, hs⟩ := bnd_some hs
      obtain ⟨n33, k32⟩ := wh_itr k32
      refine SX12_balls_16_w G Gb w1 c.2 r0 t0 n33 (c.1, (1 : Int32)) t2 _ _ k32 ?_
      show xW G mX12_balls (xrm 3 0 0) (xQ G (PQ r0 t0 Gb) 0 0) 108 [(0, .ref 149), (1, .int w1), (2, .int e30), (3, .int c.2)] [] (mem t31 Gb) 0 0
      refine xi_iinc (v := (c.2 + 1)) (lv' := [(3, .int (c.2 + 1)), (0, .ref 149), (1, .int w1), (2, .int e30)]) 3 dX12_balls_108 rfl rfl (by decide) rfl ?_
      refine xi_goto (tgt := 4) dX12_balls_111 (by decide) ?_
      refine xi_sub (lv' := [(0, .ref 149), (1, .int w1), (2, .int e30), (3, .int (c.2 + 1))]) [1, 2, 3, 0] rfl ?_
      obtain ⟨rfl, rfl⟩ := some_pair hs
      exact ih (e30, (c.2 + 1)) t31 _ _ h HE
noncomputable def FX12_balls (a : Int32) (σ : St) : Option ((Int32) × St) :=
  (bnd (wh (SX12_balls_4 a) ((0 : Int32), (0 : Int32)) σ) (fun e34 t35 => (some (e34, t35))))
set_option maxHeartbeats 4000000 in
set_option maxRecDepth 100000 in
theorem KX12_balls (G : xG) (Gb : xMem) (a : Int32) (σ : St) (r0 : Int32) (t0 : St) (hq : FX12_balls a σ = some (r0, t0)) : xC G mX12_balls 3 0 0 [.ref 149, .int a] (mem σ Gb) (PQ r0 t0 Gb) := by
  unfold FX12_balls at hq
  refine xC.of (by decide) (Nat.le_of_ble_eq_true rfl) ?_
  show xW _ _ _ _ 0 [(0, .ref 149), (1, .int a)] [] _ 0 0
  refine xi_iconst (v := 0) dX12_balls_0 (by decide) ?_
  refine xi_istore_n (lv' := [(2, .int 0), (0, .ref 149), (1, .int a)]) dX12_balls_1 (by decide) rfl ?_
  refine xi_iconst (v := 0) dX12_balls_2 (by decide) ?_
  refine xi_istore_n (lv' := [(3, .int 0), (2, .int 0), (0, .ref 149), (1, .int a)]) dX12_balls_3 (by decide) rfl ?_
  refine xi_sub (lv' := [(0, .ref 149), (1, .int a), (2, .int 0), (3, .int 0)]) [2, 3, 1, 0] rfl ?_
  obtain ⟨e34, t35, k36, hq⟩ := bnd_some hq
  obtain ⟨n37, k36⟩ := wh_itr k36
  refine SX12_balls_4_w G Gb a r0 t0 n37 ((0 : Int32), (0 : Int32)) σ _ _ k36 ?_
  show xW G mX12_balls (xrm 3 0 0) (xQ G (PQ r0 t0 Gb) 0 0) 114 [(2, .int e34)] [] (mem t35 Gb) 0 0
  refine xi_iload_n 0 dX12_balls_114 rfl ?_
  have r38 := some_pair hq
  obtain ⟨rfl, rfl⟩ := r38
  exact xi_iret dX12_balls_115 rfl rfl (Nat.le_of_ble_eq_true rfl) (Nat.le_of_ble_eq_true rfl) ⟨rfl, rfl⟩
noncomputable def SX12_bandOf_16 (w1 : Int32) (w3 : Int32) (c : Int32 × Int32) (σ : St) : Option (((Int32 × Int32) ⊕ (Int32)) × St) :=
  (if w3 ≤ c.2 then (some (Sum.inr c.1, σ)) else (chk (inb w3 9) (rdb σ 154 (w3.toNatClampNeg) (fun v7 => (chk (inb c.2 9) (rdb σ 154 (c.2.toNatClampNeg) (fun v10 => (bnd (FX12_weight w1 v7 v10 σ) (fun v12 t13 => (bnd (if v12 ≤ (0 : Int32) then (some (c.1, t13)) else (some ((mxI c.1 (w3 - c.2)), t13))) (fun v16 t17 => (some (Sum.inl (v16, (c.2 + 1)), t17)))))))))))))
noncomputable def SX12_bandOf_4 (w1 : Int32) (c : Int32 × Int32) (σ : St) : Option (((Int32 × Int32) ⊕ (Int32)) × St) :=
  (bnd (FX12_points w1 σ) (fun v1 t2 => (if v1 ≤ c.2 then (some (Sum.inr c.1, t2)) else (bnd (wh (SX12_bandOf_16 w1 c.2) (c.1, (0 : Int32)) t2) (fun e20 t21 => (some (Sum.inl (e20, (c.2 + 1)), t21)))))))
set_option maxHeartbeats 4000000 in
set_option maxRecDepth 100000 in
theorem SX12_bandOf_16_w (G : xG) (Gb : xMem) (w1 : Int32) (w3 : Int32) (r0 : Int32) (t0 : St) :
    ∀ (k : Nat) (c : Int32 × Int32) (σ : St) (r : Int32) (σ' : St), itr (SX12_bandOf_16 w1 w3) k c σ = some (r, σ') → (xW G mX12_bandOf (xrm 1 0 0) (xQ G (PQ r0 t0 Gb) 0 0) 62 [(0, .ref 149), (1, .int w1), (2, .int r), (3, .int w3)] [] (mem σ' Gb) 0 0) → xW G mX12_bandOf (xrm 1 0 0) (xQ G (PQ r0 t0 Gb) 0 0) 16 [(0, .ref 149), (1, .int w1), (2, .int c.1), (3, .int w3), (4, .int c.2)] [] (mem σ Gb) 0 0 := by
  intro k
  induction k with
  | zero =>
    intro c σ r σ' h
    exact absurd h (itr_zero _ _ _ _)
  | succ k ih =>
    intro c σ r σ' h HE
    obtain ⟨x, s1, hs, h⟩ := itr_succ h
    unfold SX12_bandOf_16 at hs
    refine xi_iload 4 dX12_bandOf_16 rfl ?_
    refine xi_iload_n 3 dX12_bandOf_18 rfl ?_
    refine xi_icmp_ge (tgt := 62) dX12_bandOf_19 (by decide) (fun c5 => ?_) (fun c5 => ?_)
    · replace hs := ite_p c5 hs
      refine xi_sub (lv' := [(0, .ref 149), (1, .int w1), (2, .int c.1), (3, .int w3)]) [0, 1, 2, 3] rfl ?_
      obtain ⟨rfl, rfl⟩ := some_pair hs
      obtain ⟨rfl, rfl⟩ := some_pair h
      exact HE
    · replace hs := ite_n c5 hs
      refine xi_aload_n 0 dX12_bandOf_22 rfl ?_
      refine xi_iload_n 1 dX12_bandOf_23 rfl ?_
      refine xi_aload_n 0 dX12_bandOf_24 rfl ?_
      refine yi_getR (f := 13) dX12_bandOf_25 sh_149 rfl ok_9 (by decide) w_1021 rfl ?_
      refine xi_iload_n 3 dX12_bandOf_28 rfl ?_
      obtain ⟨g6, hs⟩ := chk_some hs
      obtain ⟨v7, h8, hs⟩ := rdb_some hs
      refine yi_ialoadV dX12_bandOf_29 sh_154 g6 h8 ?_
      refine xi_aload_n 0 dX12_bandOf_30 rfl ?_
      refine yi_getR (f := 13) dX12_bandOf_31 sh_149 rfl ok_9 (by decide) w_1021 rfl ?_
      refine xi_iload 4 dX12_bandOf_34 rfl ?_
      obtain ⟨g9, hs⟩ := chk_some hs
      obtain ⟨v10, h11, hs⟩ := rdb_some hs
      refine yi_ialoadV dX12_bandOf_36 sh_154 g9 h11 ?_
      obtain ⟨v12, t13, k14, hs⟩ := bnd_some hs
      refine xi_callV (as := [.int w1, .int v7, .int v10]) (rest := []) dX12_bandOf_37 (KX12_weight G Gb w1 v7 v10 _ _ _ k14) mkX12_weight w_1192 ws_53 w_1190 (mem_get sh_149) rfl rfl rfl rfl (Nat.le_of_ble_eq_true rfl) (Nat.le_of_ble_eq_true rfl) (Nat.le_of_ble_eq_true rfl) (Nat.le_of_ble_eq_true rfl) (Nat.le_of_ble_eq_true rfl) ?_
      intro v M2 hz
      obtain ⟨rfl, rfl⟩ := hz
      show xW _ _ _ _ 40 _ [.int v12] (mem t13 Gb) _ _
      obtain ⟨v16, t17, m18, hs⟩ := bnd_some hs
      have key19 : xW G mX12_bandOf (xrm 1 0 0) (xQ G (PQ r0 t0 Gb) 0 0) 55 [(0, .ref 149), (1, .int w1), (3, .int w3), (4, .int c.2)] [.int v16] (mem t17 Gb) 0 0 := by
        refine xi_istore_n (lv' := [(2, .int v16), (0, .ref 149), (1, .int w1), (3, .int w3), (4, .int c.2)]) dX12_bandOf_55 (by decide) rfl ?_
        refine xi_iinc (v := (c.2 + 1)) (lv' := [(4, .int (c.2 + 1)), (2, .int v16), (0, .ref 149), (1, .int w1), (3, .int w3)]) 4 dX12_bandOf_56 rfl rfl (by decide) rfl ?_
        refine xi_goto (tgt := 16) dX12_bandOf_59 (by decide) ?_
        refine xi_sub (lv' := [(0, .ref 149), (1, .int w1), (2, .int v16), (3, .int w3), (4, .int (c.2 + 1))]) [2, 3, 1, 4, 0] rfl ?_
        obtain ⟨rfl, rfl⟩ := some_pair hs
        exact ih (v16, (c.2 + 1)) t17 _ _ h HE
      refine xi_if_le (tgt := 54) dX12_bandOf_40 (by decide) (fun c15 => ?_) (fun c15 => ?_)
      · replace m18 := ite_p c15 m18
        refine xi_iload_n 2 dX12_bandOf_54 rfl ?_
        obtain ⟨rfl, rfl⟩ := some_pair m18
        refine xi_sub (lv' := [(0, .ref 149), (1, .int w1), (3, .int w3), (4, .int c.2)]) [0, 1, 3, 4] rfl ?_
        exact key19
      · replace m18 := ite_n c15 m18
        refine xi_iload_n 2 dX12_bandOf_43 rfl ?_
        refine xi_iload_n 3 dX12_bandOf_44 rfl ?_
        refine xi_iload 4 dX12_bandOf_45 rfl ?_
        refine xi_isub (v := w3 - c.2) dX12_bandOf_47 rfl ?_
        refine xi_max (v := (mxI c.1 (w3 - c.2))) dX12_bandOf_48 w_1234 w_37 w_3 w_mmax (Nat.le_of_ble_eq_true rfl) (Nat.le_of_ble_eq_true rfl) (Nat.le_of_ble_eq_true rfl) (Nat.le_of_ble_eq_true rfl) (Nat.le_of_ble_eq_true rfl) rfl ?_
        refine xi_goto (tgt := 55) dX12_bandOf_51 (by decide) ?_
        obtain ⟨rfl, rfl⟩ := some_pair m18
        refine xi_sub (lv' := [(0, .ref 149), (1, .int w1), (3, .int w3), (4, .int c.2)]) [0, 1, 3, 4] rfl ?_
        exact key19
set_option maxHeartbeats 4000000 in
set_option maxRecDepth 100000 in
theorem SX12_bandOf_4_w (G : xG) (Gb : xMem) (w1 : Int32) (r0 : Int32) (t0 : St) :
    ∀ (k : Nat) (c : Int32 × Int32) (σ : St) (r : Int32) (σ' : St), itr (SX12_bandOf_4 w1) k c σ = some (r, σ') → (xW G mX12_bandOf (xrm 1 0 0) (xQ G (PQ r0 t0 Gb) 0 0) 68 [(2, .int r)] [] (mem σ' Gb) 0 0) → xW G mX12_bandOf (xrm 1 0 0) (xQ G (PQ r0 t0 Gb) 0 0) 4 [(0, .ref 149), (1, .int w1), (2, .int c.1), (3, .int c.2)] [] (mem σ Gb) 0 0 := by
  intro k
  induction k with
  | zero =>
    intro c σ r σ' h
    exact absurd h (itr_zero _ _ _ _)
  | succ k ih =>
    intro c σ r σ' h HE
    obtain ⟨x, s1, hs, h⟩ := itr_succ h
    unfold SX12_bandOf_4 at hs
    refine xi_iload_n 3 dX12_bandOf_4 rfl ?_
    refine xi_aload_n 0 dX12_bandOf_5 rfl ?_
    refine xi_iload_n 1 dX12_bandOf_6 rfl ?_
    obtain ⟨v1, t2, k3, hs⟩ := bnd_some hs
    refine xi_callV (as := [.int w1]) (rest := [.int c.2]) dX12_bandOf_7 (KX12_points G Gb w1 _ _ _ k3) mkX12_points w_1108 ws_36 w_1106 (mem_get sh_149) rfl rfl rfl rfl (Nat.le_of_ble_eq_true rfl) (Nat.le_of_ble_eq_true rfl) (Nat.le_of_ble_eq_true rfl) (Nat.le_of_ble_eq_true rfl) (Nat.le_of_ble_eq_true rfl) ?_
    intro v M2 hz
    obtain ⟨rfl, rfl⟩ := hz
    show xW _ _ _ _ 10 _ [.int v1, .int c.2] (mem t2 Gb) _ _
    refine xi_icmp_ge (tgt := 68) dX12_bandOf_10 (by decide) (fun c4 => ?_) (fun c4 => ?_)
    · replace hs := ite_p c4 hs
      refine xi_sub (lv' := [(2, .int c.1)]) [2] rfl ?_
      obtain ⟨rfl, rfl⟩ := some_pair hs
      obtain ⟨rfl, rfl⟩ := some_pair h
      exact HE
    · replace hs := ite_n c4 hs
      refine xi_iconst (v := 0) dX12_bandOf_13 (by decide) ?_
      refine xi_istore (lv' := [(4, .int 0), (0, .ref 149), (1, .int w1), (2, .int c.1), (3, .int c.2)]) dX12_bandOf_14 (by decide) rfl ?_
      refine xi_sub (lv' := [(0, .ref 149), (1, .int w1), (2, .int c.1), (3, .int c.2), (4, .int 0)]) [1, 2, 3, 4, 0] rfl ?_
      obtain ⟨e20, t21, k22, hs⟩ := bnd_some hs
      obtain ⟨n23, k22⟩ := wh_itr k22
      refine SX12_bandOf_16_w G Gb w1 c.2 r0 t0 n23 (c.1, (0 : Int32)) t2 _ _ k22 ?_
      show xW G mX12_bandOf (xrm 1 0 0) (xQ G (PQ r0 t0 Gb) 0 0) 62 [(0, .ref 149), (1, .int w1), (2, .int e20), (3, .int c.2)] [] (mem t21 Gb) 0 0
      refine xi_iinc (v := (c.2 + 1)) (lv' := [(3, .int (c.2 + 1)), (0, .ref 149), (1, .int w1), (2, .int e20)]) 3 dX12_bandOf_62 rfl rfl (by decide) rfl ?_
      refine xi_goto (tgt := 4) dX12_bandOf_65 (by decide) ?_
      refine xi_sub (lv' := [(0, .ref 149), (1, .int w1), (2, .int e20), (3, .int (c.2 + 1))]) [1, 2, 3, 0] rfl ?_
      obtain ⟨rfl, rfl⟩ := some_pair hs
      exact ih (e20, (c.2 + 1)) t21 _ _ h HE
noncomputable def FX12_bandOf (a : Int32) (σ : St) : Option ((Int32) × St) :=
  (bnd (wh (SX12_bandOf_4 a) ((0 : Int32), (0 : Int32)) σ) (fun e24 t25 => (some (e24, t25))))
set_option maxHeartbeats 4000000 in
set_option maxRecDepth 100000 in
theorem KX12_bandOf (G : xG) (Gb : xMem) (a : Int32) (σ : St) (r0 : Int32) (t0 : St) (hq : FX12_bandOf a σ = some (r0, t0)) : xC G mX12_bandOf 1 0 0 [.ref 149, .int a] (mem σ Gb) (PQ r0 t0 Gb) := by
  unfold FX12_bandOf at hq
  refine xC.of (by decide) (Nat.le_of_ble_eq_true rfl) ?_
  show xW _ _ _ _ 0 [(0, .ref 149), (1, .int a)] [] _ 0 0
  refine xi_iconst (v := 0) dX12_bandOf_0 (by decide) ?_
  refine xi_istore_n (lv' := [(2, .int 0), (0, .ref 149), (1, .int a)]) dX12_bandOf_1 (by decide) rfl ?_
  refine xi_iconst (v := 0) dX12_bandOf_2 (by decide) ?_
  refine xi_istore_n (lv' := [(3, .int 0), (2, .int 0), (0, .ref 149), (1, .int a)]) dX12_bandOf_3 (by decide) rfl ?_
  refine xi_sub (lv' := [(0, .ref 149), (1, .int a), (2, .int 0), (3, .int 0)]) [2, 3, 1, 0] rfl ?_
  obtain ⟨e24, t25, k26, hq⟩ := bnd_some hq
  obtain ⟨n27, k26⟩ := wh_itr k26
  refine SX12_bandOf_4_w G Gb a r0 t0 n27 ((0 : Int32), (0 : Int32)) σ _ _ k26 ?_
  show xW G mX12_bandOf (xrm 1 0 0) (xQ G (PQ r0 t0 Gb) 0 0) 68 [(2, .int e24)] [] (mem t25 Gb) 0 0
  refine xi_iload_n 0 dX12_bandOf_68 rfl ?_
  have r28 := some_pair hq
  obtain ⟨rfl, rfl⟩ := r28
  exact xi_iret dX12_bandOf_69 rfl rfl (Nat.le_of_ble_eq_true rfl) (Nat.le_of_ble_eq_true rfl) ⟨rfl, rfl⟩
noncomputable def FX12_keepsLeast (a : Int32) (b : Int32) (c : Int32) (d : Int32) (σ : St) : Option ((Int32) × St) :=
  (bnd (FX12_has b c σ) (fun v1 t2 => (if v1 = (0 : Int32) then (chk (inb (((9 : Int32) * b) + c) 4608) (rdb t2 157 ((((9 : Int32) * b) + c).toNatClampNeg) (fun v7 => (chk (inb (b ||| (shl (1 : Int32) c)) 512) (rdb t2 155 ((b ||| (shl (1 : Int32) c)).toNatClampNeg) (fun v10 => (bnd (FX12_both a v7 v10 t2) (fun v12 t13 => (bnd (FX12_both a d v12 t13) (fun v15 t16 => (chk (inb (0 : Int32) 512) (rdb t16 155 ((0 : Int32).toNatClampNeg) (fun v19 => (if v15 = v19 then (some ((1 : Int32), t16)) else (some ((0 : Int32), t16)))))))))))))))) else (some ((0 : Int32), t2)))))
set_option maxHeartbeats 4000000 in
set_option maxRecDepth 100000 in
theorem KX12_keepsLeast (G : xG) (Gb : xMem) (a : Int32) (b : Int32) (c : Int32) (d : Int32) (σ : St) (r0 : Int32) (t0 : St) (hq : FX12_keepsLeast a b c d σ = some (r0, t0)) : xC G mX12_keepsLeast 2 0 0 [.ref 149, .int a, .int b, .int c, .int d] (mem σ Gb) (PQ r0 t0 Gb) := by
  unfold FX12_keepsLeast at hq
  refine xC.of (by decide) (Nat.le_of_ble_eq_true rfl) ?_
  show xW _ _ _ _ 0 [(0, .ref 149), (1, .int a), (2, .int b), (3, .int c), (4, .int d)] [] _ 0 0
  refine xi_iload_n 2 dX12_keepsLeast_0 rfl ?_
  refine xi_iload_n 3 dX12_keepsLeast_1 rfl ?_
  obtain ⟨v1, t2, k3, hq⟩ := bnd_some hq
  refine xi_callS (as := [.int b, .int c]) (rest := []) dX12_keepsLeast_2 (KX12_has G Gb b c _ _ _ k3) mkX12_has w_1207 w_1206 rfl rfl (Nat.le_of_ble_eq_true rfl) (Nat.le_of_ble_eq_true rfl) (Nat.le_of_ble_eq_true rfl) (Nat.le_of_ble_eq_true rfl) (Nat.le_of_ble_eq_true rfl) ?_
  intro v M2 hz
  obtain ⟨rfl, rfl⟩ := hz
  show xW _ _ _ _ 5 _ [.int v1] (mem t2 Gb) _ _
  refine xi_if_ne (tgt := 52) dX12_keepsLeast_5 (by decide) (fun c4 => ?_) (fun c4 => ?_)
  · replace hq := ite_n c4 hq
    refine xi_iconst (v := 0) dX12_keepsLeast_52 (by decide) ?_
    have r5 := some_pair hq
    obtain ⟨rfl, rfl⟩ := r5
    exact xi_iret dX12_keepsLeast_53 rfl (by decide) (Nat.le_of_ble_eq_true rfl) (Nat.le_of_ble_eq_true rfl) ⟨rfl, rfl⟩
  · replace hq := ite_p c4 hq
    refine xi_iload_n 1 dX12_keepsLeast_8 rfl ?_
    refine xi_iload 4 dX12_keepsLeast_9 rfl ?_
    refine xi_iload_n 1 dX12_keepsLeast_11 rfl ?_
    refine xi_aload_n 0 dX12_keepsLeast_12 rfl ?_
    refine yi_getR (f := 16) dX12_keepsLeast_13 sh_149 rfl ok_9 (by decide) w_1024 rfl ?_
    refine xi_bipush (v := 9) dX12_keepsLeast_16 (by decide) ?_
    refine xi_iload_n 2 dX12_keepsLeast_18 rfl ?_
    refine xi_imul (v := (9 : Int32) * b) dX12_keepsLeast_19 rfl ?_
    refine xi_iload_n 3 dX12_keepsLeast_20 rfl ?_
    refine xi_iadd (v := ((9 : Int32) * b) + c) dX12_keepsLeast_21 rfl ?_
    obtain ⟨g6, hq⟩ := chk_some hq
    obtain ⟨v7, h8, hq⟩ := rdb_some hq
    refine yi_ialoadV dX12_keepsLeast_22 sh_157 g6 h8 ?_
    refine xi_aload_n 0 dX12_keepsLeast_23 rfl ?_
    refine yi_getR (f := 14) dX12_keepsLeast_24 sh_149 rfl ok_9 (by decide) w_1022 rfl ?_
    refine xi_iload_n 2 dX12_keepsLeast_27 rfl ?_
    refine xi_iconst (v := 1) dX12_keepsLeast_28 (by decide) ?_
    refine xi_iload_n 3 dX12_keepsLeast_29 rfl ?_
    refine xi_ishl (v := shl (1 : Int32) c) dX12_keepsLeast_30 rfl ?_
    refine xi_ior (v := b ||| (shl (1 : Int32) c)) dX12_keepsLeast_31 rfl ?_
    obtain ⟨g9, hq⟩ := chk_some hq
    obtain ⟨v10, h11, hq⟩ := rdb_some hq
    refine yi_ialoadV dX12_keepsLeast_32 sh_155 g9 h11 ?_
    obtain ⟨v12, t13, k14, hq⟩ := bnd_some hq
    refine xi_callS (as := [.int a, .int v7, .int v10]) (rest := [.int d, .int a]) dX12_keepsLeast_33 (KX12_both G Gb a v7 v10 _ _ _ k14) mkX12_both w_1319 w_1318 rfl rfl (Nat.le_of_ble_eq_true rfl) (Nat.le_of_ble_eq_true rfl) (Nat.le_of_ble_eq_true rfl) (Nat.le_of_ble_eq_true rfl) (Nat.le_of_ble_eq_true rfl) ?_
    intro v M2 hz
    obtain ⟨rfl, rfl⟩ := hz
    show xW _ _ _ _ 36 _ [.int v12, .int d, .int a] (mem t13 Gb) _ _
    obtain ⟨v15, t16, k17, hq⟩ := bnd_some hq
    refine xi_callS (as := [.int a, .int d, .int v12]) (rest := []) dX12_keepsLeast_36 (KX12_both G Gb a d v12 _ _ _ k17) mkX12_both w_1319 w_1318 rfl rfl (Nat.le_of_ble_eq_true rfl) (Nat.le_of_ble_eq_true rfl) (Nat.le_of_ble_eq_true rfl) (Nat.le_of_ble_eq_true rfl) (Nat.le_of_ble_eq_true rfl) ?_
    intro v M2 hz
    obtain ⟨rfl, rfl⟩ := hz
    show xW _ _ _ _ 39 _ [.int v15] (mem t16 Gb) _ _
    refine xi_aload_n 0 dX12_keepsLeast_39 rfl ?_
    refine yi_getR (f := 14) dX12_keepsLeast_40 sh_149 rfl ok_9 (by decide) w_1022 rfl ?_
    refine xi_iconst (v := 0) dX12_keepsLeast_43 (by decide) ?_
    obtain ⟨g18, hq⟩ := chk_some hq
    obtain ⟨v19, h20, hq⟩ := rdb_some hq
    refine yi_ialoadV dX12_keepsLeast_44 sh_155 g18 h20 ?_
    refine xi_icmp_ne (tgt := 52) dX12_keepsLeast_45 (by decide) (fun c21 => ?_) (fun c21 => ?_)
    · replace hq := ite_n c21 hq
      refine xi_iconst (v := 0) dX12_keepsLeast_52 (by decide) ?_
      have r22 := some_pair hq
      obtain ⟨rfl, rfl⟩ := r22
      exact xi_iret dX12_keepsLeast_53 rfl (by decide) (Nat.le_of_ble_eq_true rfl) (Nat.le_of_ble_eq_true rfl) ⟨rfl, rfl⟩
    · replace hq := ite_p c21 hq
      refine xi_iconst (v := 1) dX12_keepsLeast_48 (by decide) ?_
      refine xi_goto (tgt := 53) dX12_keepsLeast_49 (by decide) ?_
      have r23 := some_pair hq
      obtain ⟨rfl, rfl⟩ := r23
      exact xi_iret dX12_keepsLeast_53 rfl (by decide) (Nat.le_of_ble_eq_true rfl) (Nat.le_of_ble_eq_true rfl) ⟨rfl, rfl⟩
noncomputable def SX12_goesBand_107 (rec : Int32 → Int32 → Int32 → Int32 → Int32 → St → Option ((Int32) × St)) (w1 : Int32) (w2 : Int32) (w3 : Int32) (w4 : Int32) (w5 : Int32) (w6 : Int32) (c : Int32 × Int32) (σ : St) : Option (((Int32 × Int32) ⊕ (Int32)) × St) :=
  (if (w2 - w4) ≤ c.2 then (some (Sum.inr c.1, σ)) else (if c.1 = (0 : Int32) then (some (Sum.inr c.1, σ)) else (chk (inb c.2 9) (rdb σ 154 (c.2.toNatClampNeg) (fun v20 => (bnd (FX12_weight w1 v20 w6 σ) (fun v22 t23 => (bnd (if v22 = (0 : Int32) then (some ((1 : Int32), t23)) else (some ((0 : Int32), t23))) (fun v26 t27 => (some (Sum.inl (v26, (c.2 + 1)), t27)))))))))))
noncomputable def SX12_goesBand_78 (rec : Int32 → Int32 → Int32 → Int32 → Int32 → St → Option ((Int32) × St)) (w1 : Int32) (w2 : Int32) (w3 : Int32) (w4 : Int32) (w5 : Int32) (c : Int32) (σ : St) : Option (((Int32) ⊕ ((Int32) ⊕ (Unit))) × St) :=
  (bnd (FX12_points w1 σ) (fun v5 t6 => (if v5 ≤ c then (some (Sum.inr (Sum.inr ()), t6)) else (bnd (FX12_has w3 c t6) (fun v9 t10 => (bnd (if v9 = (0 : Int32) then (some ((1 : Int32), t10)) else (some ((0 : Int32), t10))) (fun v13 t14 => (bnd (wh (SX12_goesBand_107 rec w1 w2 w3 w4 w5 c) (v13, (0 : Int32)) t14) (fun e30 t31 => (if e30 = (0 : Int32) then (some (Sum.inl (c + 1), t31)) else (chk (inb w2 9) (wrb t31 154 (w2.toNatClampNeg) c (fun t36 => (bnd (rec w1 (w2 + (1 : Int32)) (w3 ||| (shl (1 : Int32) c)) w4 w5 t36) (fun v38 t39 => (if v38 = (0 : Int32) then (some (Sum.inl (c + 1), t39)) else (some (Sum.inr (Sum.inl (1 : Int32)), t39))))))))))))))))))
noncomputable def SX12_goesBand_19 (rec : Int32 → Int32 → Int32 → Int32 → Int32 → St → Option ((Int32) × St)) (w2 : Int32) (w5 : Int32) (c : Int32) (σ : St) : Option (((Int32) ⊕ (Unit)) × St) :=
  (if w2 ≤ c then (some (Sum.inr (), σ)) else (chk (inb c 9) (rdb σ 154 (c.toNatClampNeg) (fun v71 => (chk (inb c 9) (wrb σ 158 (c.toNatClampNeg) v71 (fun t74 => (some (Sum.inl (c + 1), t74)))))))))
set_option maxHeartbeats 4000000 in
set_option maxRecDepth 100000 in
theorem SX12_goesBand_107_w (G : xG) (Gb : xMem) (nn : Nat) (rec : Int32 → Int32 → Int32 → Int32 → Int32 → St → Option ((Int32) × St)) (IH : ∀ (a : Int32) (b : Int32) (c : Int32) (d : Int32) (e : Int32) (σ : St) (r : Int32) (σ' : St), rec a b c d e σ = some (r, σ') → xC G mX12_goesBand (nn + 1) 0 0 [.ref 149, .int a, .int b, .int c, .int d, .int e] (mem σ Gb) (PQ r σ' Gb)) (w1 : Int32) (w2 : Int32) (w3 : Int32) (w4 : Int32) (w5 : Int32) (w6 : Int32) (r0 : Int32) (t0 : St) :
    ∀ (k : Nat) (c : Int32 × Int32) (σ : St) (r : Int32) (σ' : St), itr (SX12_goesBand_107 rec w1 w2 w3 w4 w5 w6) k c σ = some (r, σ') → (xW G mX12_goesBand (xrm (nn + 1 + 1) 0 0) (xQ G (PQ r0 t0 Gb) 0 0) 151 [(0, .ref 149), (1, .int w1), (2, .int w2), (3, .int w3), (4, .int w4), (5, .int w5), (6, .int w6), (7, .int r)] [] (mem σ' Gb) 0 0) → xW G mX12_goesBand (xrm (nn + 1 + 1) 0 0) (xQ G (PQ r0 t0 Gb) 0 0) 107 [(0, .ref 149), (1, .int w1), (2, .int w2), (3, .int w3), (4, .int w4), (5, .int w5), (6, .int w6), (7, .int c.1), (8, .int c.2)] [] (mem σ Gb) 0 0 := by
  intro k
  induction k with
  | zero =>
    intro c σ r σ' h
    exact absurd h (itr_zero _ _ _ _)
  | succ k ih =>
    intro c σ r σ' h HE
    obtain ⟨x, s1, hs, h⟩ := itr_succ h
    unfold SX12_goesBand_107 at hs
    refine xi_iload 8 dX12_goesBand_107 rfl ?_
    refine xi_iload_n 2 dX12_goesBand_109 rfl ?_
    refine xi_iload 4 dX12_goesBand_110 rfl ?_
    refine xi_isub (v := w2 - w4) dX12_goesBand_112 rfl ?_
    refine xi_icmp_ge (tgt := 151) dX12_goesBand_113 (by decide) (fun c17 => ?_) (fun c17 => ?_)
    · replace hs := ite_p c17 hs
      refine xi_sub (lv' := [(0, .ref 149), (1, .int w1), (2, .int w2), (3, .int w3), (4, .int w4), (5, .int w5), (6, .int w6), (7, .int c.1)]) [0, 1, 2, 3, 4, 5, 6, 7] rfl ?_
      obtain ⟨rfl, rfl⟩ := some_pair hs
      obtain ⟨rfl, rfl⟩ := some_pair h
      exact HE
    · replace hs := ite_n c17 hs
      refine xi_iload 7 dX12_goesBand_116 rfl ?_
      refine xi_if_eq (tgt := 151) dX12_goesBand_118 (by decide) (fun c18 => ?_) (fun c18 => ?_)
      · replace hs := ite_p c18 hs
        refine xi_sub (lv' := [(0, .ref 149), (1, .int w1), (2, .int w2), (3, .int w3), (4, .int w4), (5, .int w5), (6, .int w6), (7, .int c.1)]) [0, 1, 2, 3, 4, 5, 6, 7] rfl ?_
        obtain ⟨rfl, rfl⟩ := some_pair hs
        obtain ⟨rfl, rfl⟩ := some_pair h
        exact HE
      · replace hs := ite_n c18 hs
        refine xi_aload_n 0 dX12_goesBand_121 rfl ?_
        refine xi_iload_n 1 dX12_goesBand_122 rfl ?_
        refine xi_aload_n 0 dX12_goesBand_123 rfl ?_
        refine yi_getR (f := 13) dX12_goesBand_124 sh_149 rfl ok_9 (by decide) w_1021 rfl ?_
        refine xi_iload 8 dX12_goesBand_127 rfl ?_
        obtain ⟨g19, hs⟩ := chk_some hs
        obtain ⟨v20, h21, hs⟩ := rdb_some hs
        refine yi_ialoadV dX12_goesBand_129 sh_154 g19 h21 ?_
        refine xi_iload 6 dX12_goesBand_130 rfl ?_
        obtain ⟨v22, t23, k24, hs⟩ := bnd_some hs
        refine xi_callV (as := [.int w1, .int v20, .int w6]) (rest := []) dX12_goesBand_132 (KX12_weight G Gb w1 v20 w6 _ _ _ k24) mkX12_weight w_1192 ws_53 w_1190 (mem_get sh_149) rfl rfl rfl rfl (Nat.le_of_ble_eq_true rfl) (by simp only [xrm]; omega) (by simp only [xrm]; omega) (Nat.le_of_ble_eq_true rfl) (Nat.le_of_ble_eq_true rfl) ?_
        intro v M2 hz
        obtain ⟨rfl, rfl⟩ := hz
        show xW _ _ _ _ 135 _ [.int v22] (mem t23 Gb) _ _
        obtain ⟨v26, t27, m28, hs⟩ := bnd_some hs
        have key29 : xW G mX12_goesBand (xrm (nn + 1 + 1) 0 0) (xQ G (PQ r0 t0 Gb) 0 0) 143 [(0, .ref 149), (1, .int w1), (2, .int w2), (3, .int w3), (4, .int w4), (5, .int w5), (6, .int w6), (8, .int c.2)] [.int v26] (mem t27 Gb) 0 0 := by
          refine xi_istore (lv' := [(7, .int v26), (0, .ref 149), (1, .int w1), (2, .int w2), (3, .int w3), (4, .int w4), (5, .int w5), (6, .int w6), (8, .int c.2)]) dX12_goesBand_143 (by decide) rfl ?_
          refine xi_iinc (v := (c.2 + 1)) (lv' := [(8, .int (c.2 + 1)), (7, .int v26), (0, .ref 149), (1, .int w1), (2, .int w2), (3, .int w3), (4, .int w4), (5, .int w5), (6, .int w6)]) 8 dX12_goesBand_145 rfl rfl (by decide) rfl ?_
          refine xi_goto (tgt := 107) dX12_goesBand_148 (by decide) ?_
          refine xi_sub (lv' := [(0, .ref 149), (1, .int w1), (2, .int w2), (3, .int w3), (4, .int w4), (5, .int w5), (6, .int w6), (7, .int v26), (8, .int (c.2 + 1))]) [2, 3, 4, 5, 6, 7, 8, 1, 0] rfl ?_
          obtain ⟨rfl, rfl⟩ := some_pair hs
          exact ih (v26, (c.2 + 1)) t27 _ _ h HE
        refine xi_if_ne (tgt := 142) dX12_goesBand_135 (by decide) (fun c25 => ?_) (fun c25 => ?_)
        · replace m28 := ite_n c25 m28
          refine xi_iconst (v := 0) dX12_goesBand_142 (by decide) ?_
          obtain ⟨rfl, rfl⟩ := some_pair m28
          refine xi_sub (lv' := [(0, .ref 149), (1, .int w1), (2, .int w2), (3, .int w3), (4, .int w4), (5, .int w5), (6, .int w6), (8, .int c.2)]) [0, 1, 2, 3, 4, 5, 6, 8] rfl ?_
          exact key29
        · replace m28 := ite_p c25 m28
          refine xi_iconst (v := 1) dX12_goesBand_138 (by decide) ?_
          refine xi_goto (tgt := 143) dX12_goesBand_139 (by decide) ?_
          obtain ⟨rfl, rfl⟩ := some_pair m28
          refine xi_sub (lv' := [(0, .ref 149), (1, .int w1), (2, .int w2), (3, .int w3), (4, .int w4), (5, .int w5), (6, .int w6), (8, .int c.2)]) [0, 1, 2, 3, 4, 5, 6, 8] rfl ?_
          exact key29
set_option maxHeartbeats 4000000 in
set_option maxRecDepth 100000 in
theorem SX12_goesBand_78_w (G : xG) (Gb : xMem) (nn : Nat) (rec : Int32 → Int32 → Int32 → Int32 → Int32 → St → Option ((Int32) × St)) (IH : ∀ (a : Int32) (b : Int32) (c : Int32) (d : Int32) (e : Int32) (σ : St) (r : Int32) (σ' : St), rec a b c d e σ = some (r, σ') → xC G mX12_goesBand (nn + 1) 0 0 [.ref 149, .int a, .int b, .int c, .int d, .int e] (mem σ Gb) (PQ r σ' Gb)) (w1 : Int32) (w2 : Int32) (w3 : Int32) (w4 : Int32) (w5 : Int32) (r0 : Int32) (t0 : St) :
    ∀ (k : Nat) (c : Int32) (σ : St) (r : (Int32) ⊕ (Unit)) (σ' : St), itr (SX12_goesBand_78 rec w1 w2 w3 w4 w5) k c σ = some (r, σ') → (Sum.elim (fun v => v = r0 ∧ σ' = t0) (fun e => xW G mX12_goesBand (xrm (nn + 1 + 1) 0 0) (xQ G (PQ r0 t0 Gb) 0 0) 196 [] [] (mem σ' Gb) 0 0) r) → xW G mX12_goesBand (xrm (nn + 1 + 1) 0 0) (xQ G (PQ r0 t0 Gb) 0 0) 78 [(0, .ref 149), (1, .int w1), (2, .int w2), (3, .int w3), (4, .int w4), (5, .int w5), (6, .int c)] [] (mem σ Gb) 0 0 := by
  intro k
  induction k with
  | zero =>
    intro c σ r σ' h
    exact absurd h (itr_zero _ _ _ _)
  | succ k ih =>
    intro c σ r σ' h HE
    obtain ⟨x, s1, hs, h⟩ := itr_succ h
    unfold SX12_goesBand_78 at hs
    refine xi_iload 6 dX12_goesBand_78 rfl ?_
    refine xi_aload_n 0 dX12_goesBand_80 rfl ?_
    refine xi_iload_n 1 dX12_goesBand_81 rfl ?_
    obtain ⟨v5, t6, k7, hs⟩ := bnd_some hs
    refine xi_callV (as := [.int w1]) (rest := [.int c]) dX12_goesBand_82 (KX12_points G Gb w1 _ _ _ k7) mkX12_points w_1108 ws_36 w_1106 (mem_get sh_149) rfl rfl rfl rfl (Nat.le_of_ble_eq_true rfl) (by simp only [xrm]; omega) (by simp only [xrm]; omega) (Nat.le_of_ble_eq_true rfl) (Nat.le_of_ble_eq_true rfl) ?_
    intro v M2 hz
    obtain ⟨rfl, rfl⟩ := hz
    show xW _ _ _ _ 85 _ [.int v5, .int c] (mem t6 Gb) _ _
    refine xi_icmp_ge (tgt := 196) dX12_goesBand_85 (by decide) (fun c8 => ?_) (fun c8 => ?_)
    · replace hs := ite_p c8 hs
      refine xi_sub (lv' := []) [] rfl ?_
      obtain ⟨rfl, rfl⟩ := some_pair hs
      obtain ⟨rfl, rfl⟩ := some_pair h
      exact HE
    · replace hs := ite_n c8 hs
      refine xi_iload_n 3 dX12_goesBand_88 rfl ?_
      refine xi_iload 6 dX12_goesBand_89 rfl ?_
      obtain ⟨v9, t10, k11, hs⟩ := bnd_some hs
      refine xi_callS (as := [.int w3, .int c]) (rest := []) dX12_goesBand_91 (KX12_has G Gb w3 c _ _ _ k11) mkX12_has w_1207 w_1206 rfl rfl (Nat.le_of_ble_eq_true rfl) (by simp only [xrm]; omega) (by simp only [xrm]; omega) (Nat.le_of_ble_eq_true rfl) (Nat.le_of_ble_eq_true rfl) ?_
      intro v M2 hz
      obtain ⟨rfl, rfl⟩ := hz
      show xW _ _ _ _ 94 _ [.int v9] (mem t10 Gb) _ _
      obtain ⟨v13, t14, m15, hs⟩ := bnd_some hs
      have key16 : xW G mX12_goesBand (xrm (nn + 1 + 1) 0 0) (xQ G (PQ r0 t0 Gb) 0 0) 102 [(0, .ref 149), (1, .int w1), (2, .int w2), (3, .int w3), (4, .int w4), (5, .int w5), (6, .int c)] [.int v13] (mem t14 Gb) 0 0 := by
        refine xi_istore (lv' := [(7, .int v13), (0, .ref 149), (1, .int w1), (2, .int w2), (3, .int w3), (4, .int w4), (5, .int w5), (6, .int c)]) dX12_goesBand_102 (by decide) rfl ?_
        refine xi_iconst (v := 0) dX12_goesBand_104 (by decide) ?_
        refine xi_istore (lv' := [(8, .int 0), (7, .int v13), (0, .ref 149), (1, .int w1), (2, .int w2), (3, .int w3), (4, .int w4), (5, .int w5), (6, .int c)]) dX12_goesBand_105 (by decide) rfl ?_
        refine xi_sub (lv' := [(0, .ref 149), (1, .int w1), (2, .int w2), (3, .int w3), (4, .int w4), (5, .int w5), (6, .int c), (7, .int v13), (8, .int 0)]) [2, 3, 4, 5, 6, 7, 8, 1, 0] rfl ?_
        obtain ⟨e30, t31, k32, hs⟩ := bnd_some hs
        obtain ⟨n33, k32⟩ := wh_itr k32
        refine SX12_goesBand_107_w G Gb nn rec IH w1 w2 w3 w4 w5 c r0 t0 n33 (v13, (0 : Int32)) t14 _ _ k32 ?_
        show xW G mX12_goesBand (xrm (nn + 1 + 1) 0 0) (xQ G (PQ r0 t0 Gb) 0 0) 151 [(0, .ref 149), (1, .int w1), (2, .int w2), (3, .int w3), (4, .int w4), (5, .int w5), (6, .int c), (7, .int e30)] [] (mem t31 Gb) 0 0
        refine xi_iload 7 dX12_goesBand_151 rfl ?_
        refine xi_if_ne (tgt := 159) dX12_goesBand_153 (by decide) (fun c34 => ?_) (fun c34 => ?_)
        · replace hs := ite_n c34 hs
          refine xi_aload_n 0 dX12_goesBand_159 rfl ?_
          refine yi_getR (f := 13) dX12_goesBand_160 sh_149 rfl ok_9 (by decide) w_1021 rfl ?_
          refine xi_iload_n 2 dX12_goesBand_163 rfl ?_
          refine xi_iload 6 dX12_goesBand_164 rfl ?_
          obtain ⟨g35, hs⟩ := chk_some hs
          obtain ⟨t36, h37, hs⟩ := wrb_some hs
          refine yi_iastoreV dX12_goesBand_166 sh_154 g35 h37 ?_
          refine xi_aload_n 0 dX12_goesBand_167 rfl ?_
          refine xi_iload_n 1 dX12_goesBand_168 rfl ?_
          refine xi_iload_n 2 dX12_goesBand_169 rfl ?_
          refine xi_iconst (v := 1) dX12_goesBand_170 (by decide) ?_
          refine xi_iadd (v := w2 + (1 : Int32)) dX12_goesBand_171 rfl ?_
          refine xi_iload_n 3 dX12_goesBand_172 rfl ?_
          refine xi_iconst (v := 1) dX12_goesBand_173 (by decide) ?_
          refine xi_iload 6 dX12_goesBand_174 rfl ?_
          refine xi_ishl (v := shl (1 : Int32) c) dX12_goesBand_176 rfl ?_
          refine xi_ior (v := w3 ||| (shl (1 : Int32) c)) dX12_goesBand_177 rfl ?_
          refine xi_iload 4 dX12_goesBand_178 rfl ?_
          refine xi_iload 5 dX12_goesBand_180 rfl ?_
          obtain ⟨v38, t39, k40, hs⟩ := bnd_some hs
          refine xi_callV (as := [.int w1, .int (w2 + (1 : Int32)), .int (w3 ||| (shl (1 : Int32) c)), .int w4, .int w5]) (rest := []) dX12_goesBand_182 (IH w1 (w2 + (1 : Int32)) (w3 ||| (shl (1 : Int32) c)) w4 w5 _ _ _ k40) mkX12_goesBand w_1362 ws_77 w_1360 (mem_get sh_149) rfl rfl rfl rfl (Nat.le_of_ble_eq_true rfl) (by simp only [xrm]; omega) (by simp only [xrm]; omega) (Nat.le_of_ble_eq_true rfl) (Nat.le_of_ble_eq_true rfl) ?_
          intro v M2 hz
          obtain ⟨rfl, rfl⟩ := hz
          show xW _ _ _ _ 185 _ [.int v38] (mem t39 Gb) _ _
          refine xi_if_eq (tgt := 190) dX12_goesBand_185 (by decide) (fun c41 => ?_) (fun c41 => ?_)
          · replace hs := ite_p c41 hs
            refine xi_iinc (v := (c + 1)) (lv' := [(6, .int (c + 1)), (0, .ref 149), (1, .int w1), (2, .int w2), (3, .int w3), (4, .int w4), (5, .int w5), (7, .int e30)]) 6 dX12_goesBand_190 rfl rfl (by decide) rfl ?_
            refine xi_goto (tgt := 78) dX12_goesBand_193 (by decide) ?_
            refine xi_sub (lv' := [(0, .ref 149), (1, .int w1), (2, .int w2), (3, .int w3), (4, .int w4), (5, .int w5), (6, .int (c + 1))]) [1, 2, 3, 4, 5, 6, 0] rfl ?_
            obtain ⟨rfl, rfl⟩ := some_pair hs
            exact ih (c + 1) t39 _ _ h HE
          · replace hs := ite_n c41 hs
            refine xi_iconst (v := 1) dX12_goesBand_188 (by decide) ?_
            obtain ⟨rfl, rfl⟩ := some_pair hs
            obtain ⟨rfl, rfl⟩ := some_pair h
            have r42 := HE
            obtain ⟨rfl, rfl⟩ := r42
            exact xi_iret dX12_goesBand_189 rfl (by decide) (Nat.le_of_ble_eq_true rfl) (Nat.le_of_ble_eq_true rfl) ⟨rfl, rfl⟩
        · replace hs := ite_p c34 hs
          refine xi_goto (tgt := 190) dX12_goesBand_156 (by decide) ?_
          refine xi_iinc (v := (c + 1)) (lv' := [(6, .int (c + 1)), (0, .ref 149), (1, .int w1), (2, .int w2), (3, .int w3), (4, .int w4), (5, .int w5), (7, .int e30)]) 6 dX12_goesBand_190 rfl rfl (by decide) rfl ?_
          refine xi_goto (tgt := 78) dX12_goesBand_193 (by decide) ?_
          refine xi_sub (lv' := [(0, .ref 149), (1, .int w1), (2, .int w2), (3, .int w3), (4, .int w4), (5, .int w5), (6, .int (c + 1))]) [1, 2, 3, 4, 5, 6, 0] rfl ?_
          obtain ⟨rfl, rfl⟩ := some_pair hs
          exact ih (c + 1) t31 _ _ h HE
      refine xi_if_ne (tgt := 101) dX12_goesBand_94 (by decide) (fun c12 => ?_) (fun c12 => ?_)
      · replace m15 := ite_n c12 m15
        refine xi_iconst (v := 0) dX12_goesBand_101 (by decide) ?_
        obtain ⟨rfl, rfl⟩ := some_pair m15
        exact key16
      · replace m15 := ite_p c12 m15
        refine xi_iconst (v := 1) dX12_goesBand_97 (by decide) ?_
        refine xi_goto (tgt := 102) dX12_goesBand_98 (by decide) ?_
        obtain ⟨rfl, rfl⟩ := some_pair m15
        exact key16
set_option maxHeartbeats 4000000 in
set_option maxRecDepth 100000 in
theorem SX12_goesBand_19_w (G : xG) (Gb : xMem) (nn : Nat) (rec : Int32 → Int32 → Int32 → Int32 → Int32 → St → Option ((Int32) × St)) (IH : ∀ (a : Int32) (b : Int32) (c : Int32) (d : Int32) (e : Int32) (σ : St) (r : Int32) (σ' : St), rec a b c d e σ = some (r, σ') → xC G mX12_goesBand (nn + 1) 0 0 [.ref 149, .int a, .int b, .int c, .int d, .int e] (mem σ Gb) (PQ r σ' Gb)) (w2 : Int32) (w5 : Int32) (r0 : Int32) (t0 : St) :
    ∀ (k : Nat) (c : Int32) (σ : St) (r : Unit) (σ' : St), itr (SX12_goesBand_19 rec w2 w5) k c σ = some (r, σ') → (xW G mX12_goesBand (xrm (nn + 1 + 1) 0 0) (xQ G (PQ r0 t0 Gb) 0 0) 45 [(0, .ref 149), (5, .int w5)] [] (mem σ' Gb) 0 0) → xW G mX12_goesBand (xrm (nn + 1 + 1) 0 0) (xQ G (PQ r0 t0 Gb) 0 0) 19 [(0, .ref 149), (2, .int w2), (5, .int w5), (6, .int c)] [] (mem σ Gb) 0 0 := by
  intro k
  induction k with
  | zero =>
    intro c σ r σ' h
    exact absurd h (itr_zero _ _ _ _)
  | succ k ih =>
    intro c σ r σ' h HE
    obtain ⟨x, s1, hs, h⟩ := itr_succ h
    unfold SX12_goesBand_19 at hs
    refine xi_iload 3 dX12_goesBand_19 rfl ?_
    refine xi_iload_n 1 dX12_goesBand_21 rfl ?_
    refine xi_icmp_ge (tgt := 45) dX12_goesBand_22 (by decide) (fun c69 => ?_) (fun c69 => ?_)
    · replace hs := ite_p c69 hs
      refine xi_sub (lv' := [(0, .ref 149), (5, .int w5)]) [0, 2] rfl ?_
      obtain ⟨rfl, rfl⟩ := some_pair hs
      obtain ⟨rfl, rfl⟩ := some_pair h
      exact HE
    · replace hs := ite_n c69 hs
      refine xi_aload_n 0 dX12_goesBand_25 rfl ?_
      refine yi_getR (f := 20) dX12_goesBand_26 sh_149 rfl ok_9 (by decide) w_1028 rfl ?_
      refine xi_iload 3 dX12_goesBand_29 rfl ?_
      refine xi_aload_n 0 dX12_goesBand_31 rfl ?_
      refine yi_getR (f := 13) dX12_goesBand_32 sh_149 rfl ok_9 (by decide) w_1021 rfl ?_
      refine xi_iload 3 dX12_goesBand_35 rfl ?_
      obtain ⟨g70, hs⟩ := chk_some hs
      obtain ⟨v71, h72, hs⟩ := rdb_some hs
      refine yi_ialoadV dX12_goesBand_37 sh_154 g70 h72 ?_
      obtain ⟨g73, hs⟩ := chk_some hs
      obtain ⟨t74, h75, hs⟩ := wrb_some hs
      refine yi_iastoreV dX12_goesBand_38 sh_158 g73 h75 ?_
      refine xi_iinc (v := (c + 1)) (lv' := [(6, .int (c + 1)), (0, .ref 149), (2, .int w2), (5, .int w5)]) 3 dX12_goesBand_39 rfl rfl (by decide) rfl ?_
      refine xi_goto (tgt := 19) dX12_goesBand_42 (by decide) ?_
      refine xi_sub (lv' := [(0, .ref 149), (2, .int w2), (5, .int w5), (6, .int (c + 1))]) [1, 2, 3, 0] rfl ?_
      obtain ⟨rfl, rfl⟩ := some_pair hs
      exact ih (c + 1) t74 _ _ h HE
noncomputable def FX12_goesBand_b (rec : Int32 → Int32 → Int32 → Int32 → Int32 → St → Option ((Int32) × St)) (a : Int32) (b : Int32) (c : Int32) (d : Int32) (e : Int32) (σ : St) : Option ((Int32) × St) :=
  (bnd (FX12_points a σ) (fun v1 t2 => (if b = v1 then (rdb t2 149 (18) (fun v49 => (bnd (if v49 = (0 : Int32) then (bnd (wh (SX12_goesBand_19 rec b e) (0 : Int32) t2) (fun e76 t77 => (some ((), t77)))) else (some ((), t2))) (fun v52 t53 => (rdb t53 149 (18) (fun v56 => (wrb t53 149 (18) (v56 + (1 : Int32)) (fun t58 => (rdb t58 149 (19) (fun v60 => (chk (inb (0 : Int32) 9) (rdb t58 154 ((0 : Int32).toNatClampNeg) (fun v63 => (wrb t58 149 (19) (v60 ||| (shl (1 : Int32) v63)) (fun t65 => (chk (isb e) (some (e, t65)))))))))))))))))) else (bnd (wh (SX12_goesBand_78 rec a b c d e) (0 : Int32) t2) (fun e43 t44 => Sum.elim (fun e43 => (some (e43, t44))) (fun e43 => (some ((0 : Int32), t44))) e43)))))
noncomputable def FX12_goesBand : Nat → Int32 → Int32 → Int32 → Int32 → Int32 → St → Option ((Int32) × St)
  | 0 => fun _ _ _ _ _ _ => none
  | n + 1 => FX12_goesBand_b (FX12_goesBand n)
set_option maxHeartbeats 4000000 in
set_option maxRecDepth 100000 in
theorem KX12_goesBand_b (G : xG) (Gb : xMem) (nn : Nat) (rec : Int32 → Int32 → Int32 → Int32 → Int32 → St → Option ((Int32) × St)) (IH : ∀ (a : Int32) (b : Int32) (c : Int32) (d : Int32) (e : Int32) (σ : St) (r : Int32) (σ' : St), rec a b c d e σ = some (r, σ') → xC G mX12_goesBand (nn + 1) 0 0 [.ref 149, .int a, .int b, .int c, .int d, .int e] (mem σ Gb) (PQ r σ' Gb)) (a : Int32) (b : Int32) (c : Int32) (d : Int32) (e : Int32) (σ : St) (r0 : Int32) (t0 : St) (hq : FX12_goesBand_b rec a b c d e σ = some (r0, t0)) : xC G mX12_goesBand (nn + 1 + 1) 0 0 [.ref 149, .int a, .int b, .int c, .int d, .int e] (mem σ Gb) (PQ r0 t0 Gb) := by
  unfold FX12_goesBand_b at hq
  refine xC.of (by decide) (Nat.le_of_ble_eq_true rfl) ?_
  show xW _ _ _ _ 0 [(0, .ref 149), (1, .int a), (2, .int b), (3, .int c), (4, .int d), (5, .int e)] [] _ 0 0
  refine xi_iload_n 2 dX12_goesBand_0 rfl ?_
  refine xi_aload_n 0 dX12_goesBand_1 rfl ?_
  refine xi_iload_n 1 dX12_goesBand_2 rfl ?_
  obtain ⟨v1, t2, k3, hq⟩ := bnd_some hq
  refine xi_callV (as := [.int a]) (rest := [.int b]) dX12_goesBand_3 (KX12_points G Gb a _ _ _ k3) mkX12_points w_1108 ws_36 w_1106 (mem_get sh_149) rfl rfl rfl rfl (Nat.le_of_ble_eq_true rfl) (by simp only [xrm]; omega) (by simp only [xrm]; omega) (Nat.le_of_ble_eq_true rfl) (Nat.le_of_ble_eq_true rfl) ?_
  intro v M2 hz
  obtain ⟨rfl, rfl⟩ := hz
  show xW _ _ _ _ 6 _ [.int v1, .int b] (mem t2 Gb) _ _
  refine xi_icmp_ne (tgt := 75) dX12_goesBand_6 (by decide) (fun c4 => ?_) (fun c4 => ?_)
  · replace hq := ite_n c4 hq
    refine xi_iconst (v := 0) dX12_goesBand_75 (by decide) ?_
    refine xi_istore (lv' := [(6, .int 0), (0, .ref 149), (1, .int a), (2, .int b), (3, .int c), (4, .int d), (5, .int e)]) dX12_goesBand_76 (by decide) rfl ?_
    refine xi_sub (lv' := [(0, .ref 149), (1, .int a), (2, .int b), (3, .int c), (4, .int d), (5, .int e), (6, .int 0)]) [1, 2, 3, 4, 5, 6, 0] rfl ?_
    obtain ⟨e43, t44, k45, hq⟩ := bnd_some hq
    obtain ⟨n46, k45⟩ := wh_itr k45
    refine SX12_goesBand_78_w G Gb nn rec IH a b c d e r0 t0 n46 (0 : Int32) t2 _ _ k45 ?_
    rcases e43 with e43 | e43
    · replace hq := sel_l hq
      have r47 := some_pair hq
      exact r47
    · replace hq := sel_r hq
      show xW G mX12_goesBand (xrm (nn + 1 + 1) 0 0) (xQ G (PQ r0 t0 Gb) 0 0) 196 [] [] (mem t44 Gb) 0 0
      refine xi_iconst (v := 0) dX12_goesBand_196 (by decide) ?_
      have r48 := some_pair hq
      obtain ⟨rfl, rfl⟩ := r48
      exact xi_iret dX12_goesBand_197 rfl (by decide) (Nat.le_of_ble_eq_true rfl) (Nat.le_of_ble_eq_true rfl) ⟨rfl, rfl⟩
  · replace hq := ite_p c4 hq
    refine xi_aload_n 0 dX12_goesBand_9 rfl ?_
    obtain ⟨v49, h50, hq⟩ := rdb_some hq
    refine yi_getV (f := 18) dX12_goesBand_10 sh_149 rfl ok_9 (by decide) w_1026 rfl h50 ?_
    obtain ⟨v52, t53, m54, hq⟩ := bnd_some hq
    have key55 : xW G mX12_goesBand (xrm (nn + 1 + 1) 0 0) (xQ G (PQ r0 t0 Gb) 0 0) 45 [(0, .ref 149), (5, .int e)] [] (mem t53 Gb) 0 0 := by
      refine xi_aload_n 0 dX12_goesBand_45 rfl ?_
      refine xi_dup dX12_goesBand_46 rfl ?_
      obtain ⟨v56, h57, hq⟩ := rdb_some hq
      refine yi_getV (f := 18) dX12_goesBand_47 sh_149 rfl ok_9 (by decide) w_1026 rfl h57 ?_
      refine xi_iconst (v := 1) dX12_goesBand_50 (by decide) ?_
      refine xi_iadd (v := v56 + (1 : Int32)) dX12_goesBand_51 rfl ?_
      obtain ⟨t58, h59, hq⟩ := wrb_some hq
      refine yi_putV (f := 18) (ty := .int) dX12_goesBand_52 sh_149 rfl ok_9 (by decide) w_1026 rfl rfl pf_I rfl rfl h59 ?_
      refine xi_aload_n 0 dX12_goesBand_55 rfl ?_
      refine xi_dup dX12_goesBand_56 rfl ?_
      obtain ⟨v60, h61, hq⟩ := rdb_some hq
      refine yi_getV (f := 19) dX12_goesBand_57 sh_149 rfl ok_9 (by decide) w_1027 rfl h61 ?_
      refine xi_iconst (v := 1) dX12_goesBand_60 (by decide) ?_
      refine xi_aload_n 0 dX12_goesBand_61 rfl ?_
      refine yi_getR (f := 13) dX12_goesBand_62 sh_149 rfl ok_9 (by decide) w_1021 rfl ?_
      refine xi_iconst (v := 0) dX12_goesBand_65 (by decide) ?_
      obtain ⟨g62, hq⟩ := chk_some hq
      obtain ⟨v63, h64, hq⟩ := rdb_some hq
      refine yi_ialoadV dX12_goesBand_66 sh_154 g62 h64 ?_
      refine xi_ishl (v := shl (1 : Int32) v63) dX12_goesBand_67 rfl ?_
      refine xi_ior (v := v60 ||| (shl (1 : Int32) v63)) dX12_goesBand_68 rfl ?_
      obtain ⟨t65, h66, hq⟩ := wrb_some hq
      refine yi_putV (f := 19) (ty := .int) dX12_goesBand_69 sh_149 rfl ok_9 (by decide) w_1027 rfl rfl pf_I rfl rfl h66 ?_
      refine xi_iload 1 dX12_goesBand_72 rfl ?_
      obtain ⟨g67, hq⟩ := chk_some hq
      have r68 := some_pair hq
      obtain ⟨rfl, rfl⟩ := r68
      exact xi_iret dX12_goesBand_74 rfl (isb_n g67) (Nat.le_of_ble_eq_true rfl) (Nat.le_of_ble_eq_true rfl) ⟨rfl, rfl⟩
    refine xi_if_ne (tgt := 45) dX12_goesBand_13 (by decide) (fun c51 => ?_) (fun c51 => ?_)
    · replace m54 := ite_n c51 m54
      obtain ⟨rfl, rfl⟩ := some_pair m54
      refine xi_sub (lv' := [(0, .ref 149), (5, .int e)]) [0, 5] rfl ?_
      exact key55
    · replace m54 := ite_p c51 m54
      refine xi_iconst (v := 0) dX12_goesBand_16 (by decide) ?_
      refine xi_istore (lv' := [(6, .int 0), (0, .ref 149), (1, .int a), (2, .int b), (3, .int c), (4, .int d), (5, .int e)]) dX12_goesBand_17 (by decide) rfl ?_
      refine xi_sub (lv' := [(0, .ref 149), (2, .int b), (5, .int e), (6, .int 0)]) [1, 3, 6, 0] rfl ?_
      obtain ⟨e76, t77, k78, m54⟩ := bnd_some m54
      obtain ⟨n79, k78⟩ := wh_itr k78
      refine SX12_goesBand_19_w G Gb nn rec IH b e r0 t0 n79 (0 : Int32) t2 _ _ k78 ?_
      show xW G mX12_goesBand (xrm (nn + 1 + 1) 0 0) (xQ G (PQ r0 t0 Gb) 0 0) 45 [(0, .ref 149), (5, .int e)] [] (mem t77 Gb) 0 0
      obtain ⟨rfl, rfl⟩ := some_pair m54
      exact key55
theorem KX12_goesBand (G : xG) (Gb : xMem) : ∀ (nn : Nat) (a : Int32) (b : Int32) (c : Int32) (d : Int32) (e : Int32) (σ : St) (r0 : Int32) (t0 : St), FX12_goesBand nn a b c d e σ = some (r0, t0) → xC G mX12_goesBand (nn + 1) 0 0 [.ref 149, .int a, .int b, .int c, .int d, .int e] (mem σ Gb) (PQ r0 t0 Gb) := by
  intro nn
  induction nn with
  | zero => intro a b c d e σ r0 t0 h; exact absurd h (by intro q; cases q)
  | succ n ih =>
    intro a b c d e σ r0 t0 h
    exact KX12_goesBand_b G Gb n (FX12_goesBand n) ih a b c d e σ r0 t0 h
noncomputable def FX12_rowsOfBand (a : Int32) (b : Int32) (c : Int32) (σ : St) : Option ((Int32) × St) :=
  (wrb σ 149 (18) (0 : Int32) (fun t1 => (wrb t1 149 (19) (0 : Int32) (fun t3 => (bnd (FX12_goesBand 11 a (0 : Int32) (0 : Int32) b c t3) (fun v5 t6 => (rdb t6 149 (18) (fun v8 => (some (v8, t6))))))))))
set_option maxHeartbeats 4000000 in
set_option maxRecDepth 100000 in
theorem KX12_rowsOfBand (G : xG) (Gb : xMem) (a : Int32) (b : Int32) (c : Int32) (σ : St) (r0 : Int32) (t0 : St) (hq : FX12_rowsOfBand a b c σ = some (r0, t0)) : xC G mX12_rowsOfBand 13 0 0 [.ref 149, .int a, .int b, .int c] (mem σ Gb) (PQ r0 t0 Gb) := by
  unfold FX12_rowsOfBand at hq
  refine xC.of (by decide) (Nat.le_of_ble_eq_true rfl) ?_
  show xW _ _ _ _ 0 [(0, .ref 149), (1, .int a), (2, .int b), (3, .int c)] [] _ 0 0
  refine xi_aload_n 0 dX12_rowsOfBand_0 rfl ?_
  refine xi_iconst (v := 0) dX12_rowsOfBand_1 (by decide) ?_
  obtain ⟨t1, h2, hq⟩ := wrb_some hq
  refine yi_putV (f := 18) (ty := .int) dX12_rowsOfBand_2 sh_149 rfl ok_9 (by decide) w_1026 rfl rfl pf_I rfl rfl h2 ?_
  refine xi_aload_n 0 dX12_rowsOfBand_5 rfl ?_
  refine xi_iconst (v := 0) dX12_rowsOfBand_6 (by decide) ?_
  obtain ⟨t3, h4, hq⟩ := wrb_some hq
  refine yi_putV (f := 19) (ty := .int) dX12_rowsOfBand_7 sh_149 rfl ok_9 (by decide) w_1027 rfl rfl pf_I rfl rfl h4 ?_
  refine xi_aload_n 0 dX12_rowsOfBand_10 rfl ?_
  refine xi_iload_n 1 dX12_rowsOfBand_11 rfl ?_
  refine xi_iconst (v := 0) dX12_rowsOfBand_12 (by decide) ?_
  refine xi_iconst (v := 0) dX12_rowsOfBand_13 (by decide) ?_
  refine xi_iload_n 2 dX12_rowsOfBand_14 rfl ?_
  refine xi_iload_n 3 dX12_rowsOfBand_15 rfl ?_
  obtain ⟨v5, t6, k7, hq⟩ := bnd_some hq
  refine xi_callV (as := [.int a, .int 0, .int 0, .int b, .int c]) (rest := []) dX12_rowsOfBand_16 (KX12_goesBand G Gb 11 a (0 : Int32) (0 : Int32) b c _ _ _ k7) mkX12_goesBand w_1362 ws_77 w_1360 (mem_get sh_149) rfl rfl rfl rfl (Nat.le_of_ble_eq_true rfl) (Nat.le_of_ble_eq_true rfl) (Nat.le_of_ble_eq_true rfl) (Nat.le_of_ble_eq_true rfl) (Nat.le_of_ble_eq_true rfl) ?_
  intro v M2 hz
  obtain ⟨rfl, rfl⟩ := hz
  show xW _ _ _ _ 19 _ [.int v5] (mem t6 Gb) _ _
  refine xi_istore (lv' := [(4, .int v5), (0, .ref 149), (1, .int a), (2, .int b), (3, .int c)]) dX12_rowsOfBand_19 (by decide) rfl ?_
  refine xi_aload_n 1 dX12_rowsOfBand_21 rfl ?_
  obtain ⟨v8, h9, hq⟩ := rdb_some hq
  refine yi_getV (f := 18) dX12_rowsOfBand_22 sh_149 rfl ok_9 (by decide) w_1026 rfl h9 ?_
  have r10 := some_pair hq
  obtain ⟨rfl, rfl⟩ := r10
  exact xi_iret dX12_rowsOfBand_25 rfl rfl (Nat.le_of_ble_eq_true rfl) (Nat.le_of_ble_eq_true rfl) ⟨rfl, rfl⟩
noncomputable def SX12_leastBand_2 (w1 : Int32) (c : Int32) (σ : St) : Option (((Int32) ⊕ (Int32)) × St) :=
  (bnd (FX12_rowsOfBand w1 c (1 : Int32) σ) (fun v1 t2 => (if v1 = (0 : Int32) then (some (Sum.inl (c + 1), t2)) else (some (Sum.inr c, t2)))))
set_option maxHeartbeats 4000000 in
set_option maxRecDepth 100000 in
theorem SX12_leastBand_2_w (G : xG) (Gb : xMem) (w1 : Int32) (r0 : Int32) (t0 : St) :
    ∀ (k : Nat) (c : Int32) (σ : St) (r : Int32) (σ' : St), itr (SX12_leastBand_2 w1) k c σ = some (r, σ') → (xW G mX12_leastBand (xrm 14 0 0) (xQ G (PQ r0 t0 Gb) 0 0) 18 [(2, .int r)] [] (mem σ' Gb) 0 0) → xW G mX12_leastBand (xrm 14 0 0) (xQ G (PQ r0 t0 Gb) 0 0) 2 [(0, .ref 149), (1, .int w1), (2, .int c)] [] (mem σ Gb) 0 0 := by
  intro k
  induction k with
  | zero =>
    intro c σ r σ' h
    exact absurd h (itr_zero _ _ _ _)
  | succ k ih =>
    intro c σ r σ' h HE
    obtain ⟨x, s1, hs, h⟩ := itr_succ h
    unfold SX12_leastBand_2 at hs
    refine xi_aload_n 0 dX12_leastBand_2 rfl ?_
    refine xi_iload_n 1 dX12_leastBand_3 rfl ?_
    refine xi_iload_n 2 dX12_leastBand_4 rfl ?_
    refine xi_iconst (v := 1) dX12_leastBand_5 (by decide) ?_
    obtain ⟨v1, t2, k3, hs⟩ := bnd_some hs
    refine xi_callV (as := [.int w1, .int c, .int 1]) (rest := []) dX12_leastBand_6 (KX12_rowsOfBand G Gb w1 c (1 : Int32) _ _ _ k3) mkX12_rowsOfBand w_1358 ws_76 w_1356 (mem_get sh_149) rfl rfl rfl rfl (Nat.le_of_ble_eq_true rfl) (Nat.le_of_ble_eq_true rfl) (Nat.le_of_ble_eq_true rfl) (Nat.le_of_ble_eq_true rfl) (Nat.le_of_ble_eq_true rfl) ?_
    intro v M2 hz
    obtain ⟨rfl, rfl⟩ := hz
    show xW _ _ _ _ 9 _ [.int v1] (mem t2 Gb) _ _
    refine xi_if_ne (tgt := 18) dX12_leastBand_9 (by decide) (fun c4 => ?_) (fun c4 => ?_)
    · replace hs := ite_n c4 hs
      refine xi_sub (lv' := [(2, .int c)]) [2] rfl ?_
      obtain ⟨rfl, rfl⟩ := some_pair hs
      obtain ⟨rfl, rfl⟩ := some_pair h
      exact HE
    · replace hs := ite_p c4 hs
      refine xi_iinc (v := (c + 1)) (lv' := [(2, .int (c + 1)), (0, .ref 149), (1, .int w1)]) 2 dX12_leastBand_12 rfl rfl (by decide) rfl ?_
      refine xi_goto (tgt := 2) dX12_leastBand_15 (by decide) ?_
      refine xi_sub (lv' := [(0, .ref 149), (1, .int w1), (2, .int (c + 1))]) [1, 2, 0] rfl ?_
      obtain ⟨rfl, rfl⟩ := some_pair hs
      exact ih (c + 1) t2 _ _ h HE
noncomputable def FX12_leastBand (a : Int32) (σ : St) : Option ((Int32) × St) :=
  (bnd (wh (SX12_leastBand_2 a) (0 : Int32) σ) (fun e5 t6 => (some (e5, t6))))
set_option maxHeartbeats 4000000 in
set_option maxRecDepth 100000 in
theorem KX12_leastBand (G : xG) (Gb : xMem) (a : Int32) (σ : St) (r0 : Int32) (t0 : St) (hq : FX12_leastBand a σ = some (r0, t0)) : xC G mX12_leastBand 14 0 0 [.ref 149, .int a] (mem σ Gb) (PQ r0 t0 Gb) := by
  unfold FX12_leastBand at hq
  refine xC.of (by decide) (Nat.le_of_ble_eq_true rfl) ?_
  show xW _ _ _ _ 0 [(0, .ref 149), (1, .int a)] [] _ 0 0
  refine xi_iconst (v := 0) dX12_leastBand_0 (by decide) ?_
  refine xi_istore_n (lv' := [(2, .int 0), (0, .ref 149), (1, .int a)]) dX12_leastBand_1 (by decide) rfl ?_
  refine xi_sub (lv' := [(0, .ref 149), (1, .int a), (2, .int 0)]) [1, 2, 0] rfl ?_
  obtain ⟨e5, t6, k7, hq⟩ := bnd_some hq
  obtain ⟨n8, k7⟩ := wh_itr k7
  refine SX12_leastBand_2_w G Gb a r0 t0 n8 (0 : Int32) σ _ _ k7 ?_
  show xW G mX12_leastBand (xrm 14 0 0) (xQ G (PQ r0 t0 Gb) 0 0) 18 [(2, .int e5)] [] (mem t6 Gb) 0 0
  refine xi_iload_n 0 dX12_leastBand_18 rfl ?_
  have r9 := some_pair hq
  obtain ⟨rfl, rfl⟩ := r9
  exact xi_iret dX12_leastBand_19 rfl rfl (Nat.le_of_ble_eq_true rfl) (Nat.le_of_ble_eq_true rfl) ⟨rfl, rfl⟩
noncomputable def SX12_laysBest_72 (w1 : Int32) (w2 : Int32) (w3 : Int32) (w4 : Int32) (w5 : Int32) (c : Int32) (σ : St) : Option (((Int32) ⊕ (Int32)) × St) :=
  (bnd (FX12_keepsLeast w2 w3 c w4 σ) (fun v9 t10 => (if v9 = (0 : Int32) then (some (Sum.inl (c + 1), t10)) else (some (Sum.inr c, t10)))))
noncomputable def SX12_laysBest_59 (w1 : Int32) (w2 : Int32) (c : Int32 × Int32 × Int32) (σ : St) : Option (((Int32 × Int32 × Int32) ⊕ (Unit)) × St) :=
  (bnd (FX12_points w1 σ) (fun v5 t6 => (if v5 ≤ c.2.2 then (some (Sum.inr (), t6)) else (bnd (wh (SX12_laysBest_72 w1 w2 c.1 c.2.1 c.2.2) (0 : Int32) t6) (fun e13 t14 => (chk (inb (((9 : Int32) * c.1) + e13) 4608) (rdb t14 157 ((((9 : Int32) * c.1) + e13).toNatClampNeg) (fun v18 => (bnd (FX12_both w2 c.2.1 v18 t14) (fun v20 t21 => (chk (inb c.2.2 9) (wrb t21 159 (c.2.2.toNatClampNeg) e13 (fun t24 => (some (Sum.inl ((c.1 ||| (shl (1 : Int32) e13)), v20, (c.2.2 + 1)), t24)))))))))))))))
noncomputable def SX12_laysBest_14 (w1 : Int32) (c : Int32) (σ : St) : Option (((Int32) ⊕ (Unit)) × St) :=
  (bnd (FX12_points w1 σ) (fun v34 t35 => (if v34 ≤ c then (some (Sum.inr (), t35)) else (chk (inb c 9) (rdb t35 158 (c.toNatClampNeg) (fun v39 => (chk (inb c 9) (wrb t35 159 (c.toNatClampNeg) v39 (fun t42 => (some (Sum.inl (c + 1), t42)))))))))))
set_option maxHeartbeats 4000000 in
set_option maxRecDepth 100000 in
theorem SX12_laysBest_72_w (G : xG) (Gb : xMem) (w1 : Int32) (w2 : Int32) (w3 : Int32) (w4 : Int32) (w5 : Int32) (r0 : Unit) (t0 : St) :
    ∀ (k : Nat) (c : Int32) (σ : St) (r : Int32) (σ' : St), itr (SX12_laysBest_72 w1 w2 w3 w4 w5) k c σ = some (r, σ') → (xW G mX12_laysBest (xrm 15 0 0) (xQ G (PV r0 t0 Gb) 0 0) 91 [(0, .ref 149), (1, .int w1), (2, .int w2), (3, .int w3), (4, .int w4), (5, .int w5), (6, .int r)] [] (mem σ' Gb) 0 0) → xW G mX12_laysBest (xrm 15 0 0) (xQ G (PV r0 t0 Gb) 0 0) 72 [(0, .ref 149), (1, .int w1), (2, .int w2), (3, .int w3), (4, .int w4), (5, .int w5), (6, .int c)] [] (mem σ Gb) 0 0 := by
  intro k
  induction k with
  | zero =>
    intro c σ r σ' h
    exact absurd h (itr_zero _ _ _ _)
  | succ k ih =>
    intro c σ r σ' h HE
    obtain ⟨x, s1, hs, h⟩ := itr_succ h
    unfold SX12_laysBest_72 at hs
    refine xi_aload_n 0 dX12_laysBest_72 rfl ?_
    refine xi_iload_n 2 dX12_laysBest_73 rfl ?_
    refine xi_iload_n 3 dX12_laysBest_74 rfl ?_
    refine xi_iload 6 dX12_laysBest_75 rfl ?_
    refine xi_iload 4 dX12_laysBest_77 rfl ?_
    obtain ⟨v9, t10, k11, hs⟩ := bnd_some hs
    refine xi_callV (as := [.int w2, .int w3, .int c, .int w4]) (rest := []) dX12_laysBest_79 (KX12_keepsLeast G Gb w2 w3 c w4 _ _ _ k11) mkX12_keepsLeast w_1387 ws_82 w_1385 (mem_get sh_149) rfl rfl rfl rfl (Nat.le_of_ble_eq_true rfl) (Nat.le_of_ble_eq_true rfl) (Nat.le_of_ble_eq_true rfl) (Nat.le_of_ble_eq_true rfl) (Nat.le_of_ble_eq_true rfl) ?_
    intro v M2 hz
    obtain ⟨rfl, rfl⟩ := hz
    show xW _ _ _ _ 82 _ [.int v9] (mem t10 Gb) _ _
    refine xi_if_ne (tgt := 91) dX12_laysBest_82 (by decide) (fun c12 => ?_) (fun c12 => ?_)
    · replace hs := ite_n c12 hs
      obtain ⟨rfl, rfl⟩ := some_pair hs
      obtain ⟨rfl, rfl⟩ := some_pair h
      exact HE
    · replace hs := ite_p c12 hs
      refine xi_iinc (v := (c + 1)) (lv' := [(6, .int (c + 1)), (0, .ref 149), (1, .int w1), (2, .int w2), (3, .int w3), (4, .int w4), (5, .int w5)]) 6 dX12_laysBest_85 rfl rfl (by decide) rfl ?_
      refine xi_goto (tgt := 72) dX12_laysBest_88 (by decide) ?_
      refine xi_sub (lv' := [(0, .ref 149), (1, .int w1), (2, .int w2), (3, .int w3), (4, .int w4), (5, .int w5), (6, .int (c + 1))]) [1, 2, 3, 4, 5, 6, 0] rfl ?_
      obtain ⟨rfl, rfl⟩ := some_pair hs
      exact ih (c + 1) t10 _ _ h HE
set_option maxHeartbeats 4000000 in
set_option maxRecDepth 100000 in
theorem SX12_laysBest_59_w (G : xG) (Gb : xMem) (w1 : Int32) (w2 : Int32) (r0 : Unit) (t0 : St) :
    ∀ (k : Nat) (c : Int32 × Int32 × Int32) (σ : St) (r : Unit) (σ' : St), itr (SX12_laysBest_59 w1 w2) k c σ = some (r, σ') → (xW G mX12_laysBest (xrm 15 0 0) (xQ G (PV r0 t0 Gb) 0 0) 133 [] [] (mem σ' Gb) 0 0) → xW G mX12_laysBest (xrm 15 0 0) (xQ G (PV r0 t0 Gb) 0 0) 59 [(0, .ref 149), (1, .int w1), (2, .int w2), (3, .int c.1), (4, .int c.2.1), (5, .int c.2.2)] [] (mem σ Gb) 0 0 := by
  intro k
  induction k with
  | zero =>
    intro c σ r σ' h
    exact absurd h (itr_zero _ _ _ _)
  | succ k ih =>
    intro c σ r σ' h HE
    obtain ⟨x, s1, hs, h⟩ := itr_succ h
    unfold SX12_laysBest_59 at hs
    refine xi_iload 5 dX12_laysBest_59 rfl ?_
    refine xi_aload_n 0 dX12_laysBest_61 rfl ?_
    refine xi_iload_n 1 dX12_laysBest_62 rfl ?_
    obtain ⟨v5, t6, k7, hs⟩ := bnd_some hs
    refine xi_callV (as := [.int w1]) (rest := [.int c.2.2]) dX12_laysBest_63 (KX12_points G Gb w1 _ _ _ k7) mkX12_points w_1108 ws_36 w_1106 (mem_get sh_149) rfl rfl rfl rfl (Nat.le_of_ble_eq_true rfl) (Nat.le_of_ble_eq_true rfl) (Nat.le_of_ble_eq_true rfl) (Nat.le_of_ble_eq_true rfl) (Nat.le_of_ble_eq_true rfl) ?_
    intro v M2 hz
    obtain ⟨rfl, rfl⟩ := hz
    show xW _ _ _ _ 66 _ [.int v5, .int c.2.2] (mem t6 Gb) _ _
    refine xi_icmp_ge (tgt := 133) dX12_laysBest_66 (by decide) (fun c8 => ?_) (fun c8 => ?_)
    · replace hs := ite_p c8 hs
      refine xi_sub (lv' := []) [] rfl ?_
      obtain ⟨rfl, rfl⟩ := some_pair hs
      obtain ⟨rfl, rfl⟩ := some_pair h
      exact HE
    · replace hs := ite_n c8 hs
      refine xi_iconst (v := 0) dX12_laysBest_69 (by decide) ?_
      refine xi_istore (lv' := [(6, .int 0), (0, .ref 149), (1, .int w1), (2, .int w2), (3, .int c.1), (4, .int c.2.1), (5, .int c.2.2)]) dX12_laysBest_70 (by decide) rfl ?_
      refine xi_sub (lv' := [(0, .ref 149), (1, .int w1), (2, .int w2), (3, .int c.1), (4, .int c.2.1), (5, .int c.2.2), (6, .int 0)]) [1, 2, 3, 4, 5, 6, 0] rfl ?_
      obtain ⟨e13, t14, k15, hs⟩ := bnd_some hs
      obtain ⟨n16, k15⟩ := wh_itr k15
      refine SX12_laysBest_72_w G Gb w1 w2 c.1 c.2.1 c.2.2 r0 t0 n16 (0 : Int32) t6 _ _ k15 ?_
      show xW G mX12_laysBest (xrm 15 0 0) (xQ G (PV r0 t0 Gb) 0 0) 91 [(0, .ref 149), (1, .int w1), (2, .int w2), (3, .int c.1), (4, .int c.2.1), (5, .int c.2.2), (6, .int e13)] [] (mem t14 Gb) 0 0
      refine xi_iload_n 2 dX12_laysBest_91 rfl ?_
      refine xi_iload 4 dX12_laysBest_92 rfl ?_
      refine xi_aload_n 0 dX12_laysBest_94 rfl ?_
      refine yi_getR (f := 16) dX12_laysBest_95 sh_149 rfl ok_9 (by decide) w_1024 rfl ?_
      refine xi_bipush (v := 9) dX12_laysBest_98 (by decide) ?_
      refine xi_iload_n 3 dX12_laysBest_100 rfl ?_
      refine xi_imul (v := (9 : Int32) * c.1) dX12_laysBest_101 rfl ?_
      refine xi_iload 6 dX12_laysBest_102 rfl ?_
      refine xi_iadd (v := ((9 : Int32) * c.1) + e13) dX12_laysBest_104 rfl ?_
      obtain ⟨g17, hs⟩ := chk_some hs
      obtain ⟨v18, h19, hs⟩ := rdb_some hs
      refine yi_ialoadV dX12_laysBest_105 sh_157 g17 h19 ?_
      obtain ⟨v20, t21, k22, hs⟩ := bnd_some hs
      refine xi_callS (as := [.int w2, .int c.2.1, .int v18]) (rest := []) dX12_laysBest_106 (KX12_both G Gb w2 c.2.1 v18 _ _ _ k22) mkX12_both w_1319 w_1318 rfl rfl (Nat.le_of_ble_eq_true rfl) (Nat.le_of_ble_eq_true rfl) (Nat.le_of_ble_eq_true rfl) (Nat.le_of_ble_eq_true rfl) (Nat.le_of_ble_eq_true rfl) ?_
      intro v M2 hz
      obtain ⟨rfl, rfl⟩ := hz
      show xW _ _ _ _ 109 _ [.int v20] (mem t21 Gb) _ _
      refine xi_istore (lv' := [(4, .int v20), (0, .ref 149), (1, .int w1), (2, .int w2), (3, .int c.1), (5, .int c.2.2), (6, .int e13)]) dX12_laysBest_109 (by decide) rfl ?_
      refine xi_aload_n 1 dX12_laysBest_111 rfl ?_
      refine yi_getR (f := 21) dX12_laysBest_112 sh_149 rfl ok_9 (by decide) w_1029 rfl ?_
      refine xi_iload 5 dX12_laysBest_115 rfl ?_
      refine xi_iload 6 dX12_laysBest_117 rfl ?_
      obtain ⟨g23, hs⟩ := chk_some hs
      obtain ⟨t24, h25, hs⟩ := wrb_some hs
      refine yi_iastoreV dX12_laysBest_119 sh_159 g23 h25 ?_
      refine xi_iload_n 4 dX12_laysBest_120 rfl ?_
      refine xi_iconst (v := 1) dX12_laysBest_121 (by decide) ?_
      refine xi_iload 6 dX12_laysBest_122 rfl ?_
      refine xi_ishl (v := shl (1 : Int32) e13) dX12_laysBest_124 rfl ?_
      refine xi_ior (v := c.1 ||| (shl (1 : Int32) e13)) dX12_laysBest_125 rfl ?_
      refine xi_istore_n (lv' := [(3, .int (c.1 ||| (shl (1 : Int32) e13))), (4, .int v20), (0, .ref 149), (1, .int w1), (2, .int w2), (5, .int c.2.2), (6, .int e13)]) dX12_laysBest_126 (by decide) rfl ?_
      refine xi_iinc (v := (c.2.2 + 1)) (lv' := [(5, .int (c.2.2 + 1)), (3, .int (c.1 ||| (shl (1 : Int32) e13))), (4, .int v20), (0, .ref 149), (1, .int w1), (2, .int w2), (6, .int e13)]) 5 dX12_laysBest_127 rfl rfl (by decide) rfl ?_
      refine xi_goto (tgt := 59) dX12_laysBest_130 (by decide) ?_
      refine xi_sub (lv' := [(0, .ref 149), (1, .int w1), (2, .int w2), (3, .int (c.1 ||| (shl (1 : Int32) e13))), (4, .int v20), (5, .int (c.2.2 + 1))]) [3, 4, 5, 1, 2, 0] rfl ?_
      obtain ⟨rfl, rfl⟩ := some_pair hs
      exact ih ((c.1 ||| (shl (1 : Int32) e13)), v20, (c.2.2 + 1)) t24 _ _ h HE
set_option maxHeartbeats 4000000 in
set_option maxRecDepth 100000 in
theorem SX12_laysBest_14_w (G : xG) (Gb : xMem) (w1 : Int32) (r0 : Unit) (t0 : St) :
    ∀ (k : Nat) (c : Int32) (σ : St) (r : Unit) (σ' : St), itr (SX12_laysBest_14 w1) k c σ = some (r, σ') → (xW G mX12_laysBest (xrm 15 0 0) (xQ G (PV r0 t0 Gb) 0 0) 44 [] [] (mem σ' Gb) 0 0) → xW G mX12_laysBest (xrm 15 0 0) (xQ G (PV r0 t0 Gb) 0 0) 14 [(0, .ref 149), (1, .int w1), (4, .int c)] [] (mem σ Gb) 0 0 := by
  intro k
  induction k with
  | zero =>
    intro c σ r σ' h
    exact absurd h (itr_zero _ _ _ _)
  | succ k ih =>
    intro c σ r σ' h HE
    obtain ⟨x, s1, hs, h⟩ := itr_succ h
    unfold SX12_laysBest_14 at hs
    refine xi_iload 2 dX12_laysBest_14 rfl ?_
    refine xi_aload_n 0 dX12_laysBest_16 rfl ?_
    refine xi_iload_n 1 dX12_laysBest_17 rfl ?_
    obtain ⟨v34, t35, k36, hs⟩ := bnd_some hs
    refine xi_callV (as := [.int w1]) (rest := [.int c]) dX12_laysBest_18 (KX12_points G Gb w1 _ _ _ k36) mkX12_points w_1108 ws_36 w_1106 (mem_get sh_149) rfl rfl rfl rfl (Nat.le_of_ble_eq_true rfl) (Nat.le_of_ble_eq_true rfl) (Nat.le_of_ble_eq_true rfl) (Nat.le_of_ble_eq_true rfl) (Nat.le_of_ble_eq_true rfl) ?_
    intro v M2 hz
    obtain ⟨rfl, rfl⟩ := hz
    show xW _ _ _ _ 21 _ [.int v34, .int c] (mem t35 Gb) _ _
    refine xi_icmp_ge (tgt := 44) dX12_laysBest_21 (by decide) (fun c37 => ?_) (fun c37 => ?_)
    · replace hs := ite_p c37 hs
      refine xi_sub (lv' := []) [] rfl ?_
      obtain ⟨rfl, rfl⟩ := some_pair hs
      obtain ⟨rfl, rfl⟩ := some_pair h
      exact HE
    · replace hs := ite_n c37 hs
      refine xi_aload_n 0 dX12_laysBest_24 rfl ?_
      refine yi_getR (f := 21) dX12_laysBest_25 sh_149 rfl ok_9 (by decide) w_1029 rfl ?_
      refine xi_iload 2 dX12_laysBest_28 rfl ?_
      refine xi_aload_n 0 dX12_laysBest_30 rfl ?_
      refine yi_getR (f := 20) dX12_laysBest_31 sh_149 rfl ok_9 (by decide) w_1028 rfl ?_
      refine xi_iload 2 dX12_laysBest_34 rfl ?_
      obtain ⟨g38, hs⟩ := chk_some hs
      obtain ⟨v39, h40, hs⟩ := rdb_some hs
      refine yi_ialoadV dX12_laysBest_36 sh_158 g38 h40 ?_
      obtain ⟨g41, hs⟩ := chk_some hs
      obtain ⟨t42, h43, hs⟩ := wrb_some hs
      refine yi_iastoreV dX12_laysBest_37 sh_159 g41 h43 ?_
      refine xi_iinc (v := (c + 1)) (lv' := [(4, .int (c + 1)), (0, .ref 149), (1, .int w1)]) 2 dX12_laysBest_38 rfl rfl (by decide) rfl ?_
      refine xi_goto (tgt := 14) dX12_laysBest_41 (by decide) ?_
      refine xi_sub (lv' := [(0, .ref 149), (1, .int w1), (4, .int (c + 1))]) [1, 2, 0] rfl ?_
      obtain ⟨rfl, rfl⟩ := some_pair hs
      exact ih (c + 1) t42 _ _ h HE
noncomputable def FX12_laysBest (a : Int32) (b : Int32) (σ : St) : Option ((Unit) × St) :=
  (if b = (2 : Int32) then (bnd (FX12_leastBand a σ) (fun v31 t32 => (bnd (wh (SX12_laysBest_14 a) (0 : Int32) t32) (fun e44 t45 => (some ((), t45)))))) else (bnd (FX12_laysLeast a b σ) (fun v2 t3 => (bnd (wh (SX12_laysBest_59 a b) ((0 : Int32), (0 : Int32), (0 : Int32)) t3) (fun e26 t27 => (some ((), t27)))))))
set_option maxHeartbeats 4000000 in
set_option maxRecDepth 100000 in
theorem KX12_laysBest (G : xG) (Gb : xMem) (a : Int32) (b : Int32) (σ : St) (r0 : Unit) (t0 : St) (hq : FX12_laysBest a b σ = some (r0, t0)) : xC G mX12_laysBest 15 0 0 [.ref 149, .int a, .int b] (mem σ Gb) (PV r0 t0 Gb) := by
  unfold FX12_laysBest at hq
  refine xC.of (by decide) (Nat.le_of_ble_eq_true rfl) ?_
  show xW _ _ _ _ 0 [(0, .ref 149), (1, .int a), (2, .int b)] [] _ 0 0
  refine xi_iload_n 2 dX12_laysBest_0 rfl ?_
  refine xi_iconst (v := 2) dX12_laysBest_1 (by decide) ?_
  refine xi_icmp_ne (tgt := 45) dX12_laysBest_2 (by decide) (fun c1 => ?_) (fun c1 => ?_)
  · replace hq := ite_n c1 hq
    refine xi_aload_n 0 dX12_laysBest_45 rfl ?_
    refine xi_iload_n 1 dX12_laysBest_46 rfl ?_
    refine xi_iload_n 2 dX12_laysBest_47 rfl ?_
    obtain ⟨v2, t3, k4, hq⟩ := bnd_some hq
    refine xi_callV (as := [.int a, .int b]) (rest := []) dX12_laysBest_48 (KX12_laysLeast G Gb a b _ _ _ k4) mkX12_laysLeast w_1366 ws_78 w_1364 (mem_get sh_149) rfl rfl rfl rfl (Nat.le_of_ble_eq_true rfl) (Nat.le_of_ble_eq_true rfl) (Nat.le_of_ble_eq_true rfl) (Nat.le_of_ble_eq_true rfl) (Nat.le_of_ble_eq_true rfl) ?_
    intro v M2 hz
    obtain ⟨rfl, rfl⟩ := hz
    show xW _ _ _ _ 51 _ [] (mem t3 Gb) _ _
    refine xi_iconst (v := 0) dX12_laysBest_51 (by decide) ?_
    refine xi_istore_n (lv' := [(3, .int 0), (0, .ref 149), (1, .int a), (2, .int b)]) dX12_laysBest_52 (by decide) rfl ?_
    refine xi_iconst (v := 0) dX12_laysBest_53 (by decide) ?_
    refine xi_istore (lv' := [(4, .int 0), (3, .int 0), (0, .ref 149), (1, .int a), (2, .int b)]) dX12_laysBest_54 (by decide) rfl ?_
    refine xi_iconst (v := 0) dX12_laysBest_56 (by decide) ?_
    refine xi_istore (lv' := [(5, .int 0), (4, .int 0), (3, .int 0), (0, .ref 149), (1, .int a), (2, .int b)]) dX12_laysBest_57 (by decide) rfl ?_
    refine xi_sub (lv' := [(0, .ref 149), (1, .int a), (2, .int b), (3, .int 0), (4, .int 0), (5, .int 0)]) [3, 4, 5, 2, 1, 0] rfl ?_
    obtain ⟨e26, t27, k28, hq⟩ := bnd_some hq
    obtain ⟨n29, k28⟩ := wh_itr k28
    refine SX12_laysBest_59_w G Gb a b r0 t0 n29 ((0 : Int32), (0 : Int32), (0 : Int32)) t3 _ _ k28 ?_
    show xW G mX12_laysBest (xrm 15 0 0) (xQ G (PV r0 t0 Gb) 0 0) 133 [] [] (mem t27 Gb) 0 0
    have r30 := some_pair hq
    obtain ⟨rfl, rfl⟩ := r30
    exact xi_vret dX12_laysBest_133 rfl (Nat.le_of_ble_eq_true rfl) (Nat.le_of_ble_eq_true rfl) ⟨rfl, rfl⟩
  · replace hq := ite_p c1 hq
    refine xi_aload_n 0 dX12_laysBest_5 rfl ?_
    refine xi_iload_n 1 dX12_laysBest_6 rfl ?_
    obtain ⟨v31, t32, k33, hq⟩ := bnd_some hq
    refine xi_callV (as := [.int a]) (rest := []) dX12_laysBest_7 (KX12_leastBand G Gb a _ _ _ k33) mkX12_leastBand w_1354 ws_75 w_1352 (mem_get sh_149) rfl rfl rfl rfl (Nat.le_of_ble_eq_true rfl) (Nat.le_of_ble_eq_true rfl) (Nat.le_of_ble_eq_true rfl) (Nat.le_of_ble_eq_true rfl) (Nat.le_of_ble_eq_true rfl) ?_
    intro v M2 hz
    obtain ⟨rfl, rfl⟩ := hz
    show xW _ _ _ _ 10 _ [.int v31] (mem t32 Gb) _ _
    refine xi_istore_n (lv' := [(3, .int v31), (0, .ref 149), (1, .int a), (2, .int b)]) dX12_laysBest_10 (by decide) rfl ?_
    refine xi_iconst (v := 0) dX12_laysBest_11 (by decide) ?_
    refine xi_istore (lv' := [(4, .int 0), (3, .int v31), (0, .ref 149), (1, .int a), (2, .int b)]) dX12_laysBest_12 (by decide) rfl ?_
    refine xi_sub (lv' := [(0, .ref 149), (1, .int a), (4, .int 0)]) [2, 3, 0] rfl ?_
    obtain ⟨e44, t45, k46, hq⟩ := bnd_some hq
    obtain ⟨n47, k46⟩ := wh_itr k46
    refine SX12_laysBest_14_w G Gb a r0 t0 n47 (0 : Int32) t32 _ _ k46 ?_
    show xW G mX12_laysBest (xrm 15 0 0) (xQ G (PV r0 t0 Gb) 0 0) 44 [] [] (mem t45 Gb) 0 0
    have r48 := some_pair hq
    obtain ⟨rfl, rfl⟩ := r48
    exact xi_vret dX12_laysBest_44 rfl (Nat.le_of_ble_eq_true rfl) (Nat.le_of_ble_eq_true rfl) ⟨rfl, rfl⟩
noncomputable def FX12_best (a : Int32) (b : Int32) (c : Int32) (σ : St) : Option ((Int32) × St) :=
  (bnd (FX12_isPoint a c σ) (fun v1 t2 => (if v1 = (0 : Int32) then (some ((-2 : Int32), t2)) else (bnd (FX12_isMeasure b t2) (fun v6 t7 => (if v6 = (0 : Int32) then (some ((-2 : Int32), t7)) else (bnd (FX12_laysBest a b t7) (fun v10 t11 => (chk (inb c 9) (rdb t11 159 (c.toNatClampNeg) (fun v14 => (some (v14, t11)))))))))))))
set_option maxHeartbeats 4000000 in
set_option maxRecDepth 100000 in
theorem KX12_best (G : xG) (Gb : xMem) (a : Int32) (b : Int32) (c : Int32) (σ : St) (r0 : Int32) (t0 : St) (hq : FX12_best a b c σ = some (r0, t0)) : xC G mX12_best 16 0 0 [.ref 149, .int a, .int b, .int c] (mem σ Gb) (PQ r0 t0 Gb) := by
  unfold FX12_best at hq
  refine xC.of (by decide) (Nat.le_of_ble_eq_true rfl) ?_
  show xW _ _ _ _ 0 [(0, .ref 149), (1, .int a), (2, .int b), (3, .int c)] [] _ 0 0
  refine xi_aload_n 0 dX12_best_0 rfl ?_
  refine xi_iload_n 1 dX12_best_1 rfl ?_
  refine xi_iload_n 3 dX12_best_2 rfl ?_
  obtain ⟨v1, t2, k3, hq⟩ := bnd_some hq
  refine xi_callV (as := [.int a, .int c]) (rest := []) dX12_best_3 (KX12_isPoint G Gb a c _ _ _ k3) mkX12_isPoint w_1257 ws_63 w_1255 (mem_get sh_149) rfl rfl rfl rfl (Nat.le_of_ble_eq_true rfl) (Nat.le_of_ble_eq_true rfl) (Nat.le_of_ble_eq_true rfl) (Nat.le_of_ble_eq_true rfl) (Nat.le_of_ble_eq_true rfl) ?_
  intro v M2 hz
  obtain ⟨rfl, rfl⟩ := hz
  show xW _ _ _ _ 6 _ [.int v1] (mem t2 Gb) _ _
  refine xi_if_eq (tgt := 16) dX12_best_6 (by decide) (fun c4 => ?_) (fun c4 => ?_)
  · replace hq := ite_p c4 hq
    refine xi_bipush (v := (-2)) dX12_best_16 (by decide) ?_
    have r5 := some_pair hq
    obtain ⟨rfl, rfl⟩ := r5
    exact xi_iret dX12_best_18 rfl rfl (Nat.le_of_ble_eq_true rfl) (Nat.le_of_ble_eq_true rfl) ⟨rfl, rfl⟩
  · replace hq := ite_n c4 hq
    refine xi_iload_n 2 dX12_best_9 rfl ?_
    obtain ⟨v6, t7, k8, hq⟩ := bnd_some hq
    refine xi_callS (as := [.int b]) (rest := []) dX12_best_10 (KX12_isMeasure G Gb b _ _ _ k8) mkX12_isMeasure w_1288 w_1287 rfl rfl (Nat.le_of_ble_eq_true rfl) (Nat.le_of_ble_eq_true rfl) (Nat.le_of_ble_eq_true rfl) (Nat.le_of_ble_eq_true rfl) (Nat.le_of_ble_eq_true rfl) ?_
    intro v M2 hz
    obtain ⟨rfl, rfl⟩ := hz
    show xW _ _ _ _ 13 _ [.int v6] (mem t7 Gb) _ _
    refine xi_if_ne (tgt := 19) dX12_best_13 (by decide) (fun c9 => ?_) (fun c9 => ?_)
    · replace hq := ite_n c9 hq
      refine xi_aload_n 0 dX12_best_19 rfl ?_
      refine xi_iload_n 1 dX12_best_20 rfl ?_
      refine xi_iload_n 2 dX12_best_21 rfl ?_
      obtain ⟨v10, t11, k12, hq⟩ := bnd_some hq
      refine xi_callV (as := [.int a, .int b]) (rest := []) dX12_best_22 (KX12_laysBest G Gb a b _ _ _ k12) mkX12_laysBest w_1383 ws_81 w_1381 (mem_get sh_149) rfl rfl rfl rfl (Nat.le_of_ble_eq_true rfl) (Nat.le_of_ble_eq_true rfl) (Nat.le_of_ble_eq_true rfl) (Nat.le_of_ble_eq_true rfl) (Nat.le_of_ble_eq_true rfl) ?_
      intro v M2 hz
      obtain ⟨rfl, rfl⟩ := hz
      show xW _ _ _ _ 25 _ [] (mem t11 Gb) _ _
      refine xi_aload_n 0 dX12_best_25 rfl ?_
      refine yi_getR (f := 21) dX12_best_26 sh_149 rfl ok_9 (by decide) w_1029 rfl ?_
      refine xi_iload_n 3 dX12_best_29 rfl ?_
      obtain ⟨g13, hq⟩ := chk_some hq
      obtain ⟨v14, h15, hq⟩ := rdb_some hq
      refine yi_ialoadV dX12_best_30 sh_159 g13 h15 ?_
      have r16 := some_pair hq
      obtain ⟨rfl, rfl⟩ := r16
      exact xi_iret dX12_best_31 rfl rfl (Nat.le_of_ble_eq_true rfl) (Nat.le_of_ble_eq_true rfl) ⟨rfl, rfl⟩
    · replace hq := ite_p c9 hq
      refine xi_bipush (v := (-2)) dX12_best_16 (by decide) ?_
      have r17 := some_pair hq
      obtain ⟨rfl, rfl⟩ := r17
      exact xi_iret dX12_best_18 rfl rfl (Nat.le_of_ble_eq_true rfl) (Nat.le_of_ble_eq_true rfl) ⟨rfl, rfl⟩
noncomputable def SX12_core_22 (w1 : Int32) (w2 : Int32) (w3 : Int32) (c : Int32 × Int32) (σ : St) : Option (((Int32 × Int32) ⊕ (Int32)) × St) :=
  (bnd (FX12_points w1 σ) (fun v5 t6 => (if v5 ≤ c.2 then (some (Sum.inr c.1, t6)) else (bnd (FX12_has w3 c.2 t6) (fun v9 t10 => (bnd (if v9 = (0 : Int32) then (some (c.1, t10)) else (bnd (FX12_nearOf w1 c.2 t10) (fun v17 t18 => (bnd (FX12_ones (v17 &&& w3) t18) (fun v20 t21 => (some ((mnI c.1 v20), t21))))))) (fun v13 t14 => (some (Sum.inl (v13, (c.2 + 1)), t14)))))))))
noncomputable def SX12_core_4 (w1 : Int32) (c : Int32 × Int32) (σ : St) : Option (((Int32 × Int32) ⊕ (Int32)) × St) :=
  (bnd (FX12_points w1 σ) (fun v1 t2 => (if (shl (1 : Int32) v1) ≤ c.2 then (some (Sum.inr c.1, t2)) else (bnd (wh (SX12_core_22 w1 c.1 c.2) ((9 : Int32), (0 : Int32)) t2) (fun e23 t24 => (some (Sum.inl ((mxI c.1 e23), (c.2 + 1)), t24)))))))
