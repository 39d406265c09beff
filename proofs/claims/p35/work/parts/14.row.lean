/-! methods as functions (printed by wip/ext/genall.py) -/
noncomputable def FX11_isSlot (a : Int32) (σ : St) : Option ((Int32) × St) :=
  (if a < (0 : Int32) then (some ((0 : Int32), σ)) else (if (3 : Int32) ≤ a then (some ((0 : Int32), σ)) else (some ((1 : Int32), σ))))
set_option maxHeartbeats 4000000 in
set_option maxRecDepth 100000 in
theorem KX11_isSlot (G : xG) (Gb : xMem) (a : Int32) (σ : St) (r0 : Int32) (t0 : St) (hq : FX11_isSlot a σ = some (r0, t0)) : xC G mX11_isSlot 0 0 0 [.int a] (mem σ Gb) (PQ r0 t0 Gb) := by
  unfold FX11_isSlot at hq
  refine xC.of (by decide) (Nat.le_of_ble_eq_true rfl) ?_
  show xW _ _ _ _ 0 [(0, .int a)] [] _ 0 0
  refine xi_iload_n 0 dX11_isSlot_0 rfl ?_
  refine xi_if_lt (tgt := 13) dX11_isSlot_1 (by decide) (fun c1 => ?_) (fun c1 => ?_)
  · replace hq := ite_p c1 hq
    refine xi_iconst (v := 0) dX11_isSlot_13 (by decide) ?_
    have r2 := some_pair hq
    obtain ⟨rfl, rfl⟩ := r2
    exact xi_iret dX11_isSlot_14 rfl (by decide) (Nat.le_of_ble_eq_true rfl) (Nat.le_of_ble_eq_true rfl) ⟨rfl, rfl⟩
  · replace hq := ite_n c1 hq
    refine xi_iload_n 0 dX11_isSlot_4 rfl ?_
    refine xi_iconst (v := 3) dX11_isSlot_5 (by decide) ?_
    refine xi_icmp_ge (tgt := 13) dX11_isSlot_6 (by decide) (fun c3 => ?_) (fun c3 => ?_)
    · replace hq := ite_p c3 hq
      refine xi_iconst (v := 0) dX11_isSlot_13 (by decide) ?_
      have r4 := some_pair hq
      obtain ⟨rfl, rfl⟩ := r4
      exact xi_iret dX11_isSlot_14 rfl (by decide) (Nat.le_of_ble_eq_true rfl) (Nat.le_of_ble_eq_true rfl) ⟨rfl, rfl⟩
    · replace hq := ite_n c3 hq
      refine xi_iconst (v := 1) dX11_isSlot_9 (by decide) ?_
      refine xi_goto (tgt := 14) dX11_isSlot_10 (by decide) ?_
      have r5 := some_pair hq
      obtain ⟨rfl, rfl⟩ := r5
      exact xi_iret dX11_isSlot_14 rfl (by decide) (Nat.le_of_ble_eq_true rfl) (Nat.le_of_ble_eq_true rfl) ⟨rfl, rfl⟩
noncomputable def FX11_netIn (a : Int32) (σ : St) : Option ((Option Nat) × St) :=
  (bnd (FX11_isSlot a σ) (fun v1 t2 => (if v1 = (0 : Int32) then (some (none, t2)) else (chk (inb a 3) (chk (netAt (el 10 a)) (rdb t2 (el 10 a) (0) (fun v8 => (if v8 ≤ (0 : Int32) then (some (none, t2)) else (chk (inb a 3) (chk (netAt (el 10 a)) (some ((some (el 10 a)), t2))))))))))))
set_option maxHeartbeats 4000000 in
set_option maxRecDepth 100000 in
theorem KX11_netIn (G : xG) (Gb : xMem) (a : Int32) (σ : St) (r0 : Option Nat) (t0 : St) (hq : FX11_netIn a σ = some (r0, t0)) : xC G mX11_netIn 1 0 0 [.ref 0, .int a] (mem σ Gb) (PR r0 t0 Gb) := by
  unfold FX11_netIn at hq
  refine xC.of (by decide) (Nat.le_of_ble_eq_true rfl) ?_
  show xW _ _ _ _ 0 [(0, .ref 0), (1, .int a)] [] _ 0 0
  refine xi_iload_n 1 dX11_netIn_0 rfl ?_
  obtain ⟨v1, t2, k3, hq⟩ := bnd_some hq
  refine xi_callS (as := [.int a]) (rest := []) dX11_netIn_1 (KX11_isSlot G Gb a _ _ _ k3) mkX11_isSlot w_299 w_298 rfl rfl (Nat.le_of_ble_eq_true rfl) (Nat.le_of_ble_eq_true rfl) (Nat.le_of_ble_eq_true rfl) (Nat.le_of_ble_eq_true rfl) (Nat.le_of_ble_eq_true rfl) ?_
  intro v M2 hz
  obtain ⟨rfl, rfl⟩ := hz
  show xW _ _ _ _ 4 _ [.int v1] (mem t2 Gb) _ _
  refine xi_if_eq (tgt := 28) dX11_netIn_4 (by decide) (fun c4 => ?_) (fun c4 => ?_)
  · replace hq := ite_p c4 hq
    refine xi_null dX11_netIn_28 ?_
    have r5 := some_pair hq
    obtain ⟨rfl, rfl⟩ := r5
    exact xi_aretN dX11_netIn_29 rfl (Or.inl ⟨_, rfl⟩) (Nat.le_of_ble_eq_true rfl) (Nat.le_of_ble_eq_true rfl) ⟨rfl, rfl⟩
  · replace hq := ite_n c4 hq
    refine xi_aload_n 0 dX11_netIn_7 rfl ?_
    refine yi_getR (f := 3) dX11_netIn_8 sh_0 rfl ok_8 (by decide) w_245 rfl ?_
    refine xi_iload_n 1 dX11_netIn_11 rfl ?_
    obtain ⟨g6, hq⟩ := chk_some hq
    refine yi_aaload dX11_netIn_12 sh_10 rfl rfl g6 ?_
    obtain ⟨g7, hq⟩ := chk_some hq
    obtain ⟨v8, h9, hq⟩ := rdb_some hq
    refine yi_getV (f := 0) dX11_netIn_13 (netAt_0 g7) rfl ok_5 (by decide) w_66 rfl h9 ?_
    refine xi_if_le (tgt := 28) dX11_netIn_16 (by decide) (fun c10 => ?_) (fun c10 => ?_)
    · replace hq := ite_p c10 hq
      refine xi_null dX11_netIn_28 ?_
      have r11 := some_pair hq
      obtain ⟨rfl, rfl⟩ := r11
      exact xi_aretN dX11_netIn_29 rfl (Or.inl ⟨_, rfl⟩) (Nat.le_of_ble_eq_true rfl) (Nat.le_of_ble_eq_true rfl) ⟨rfl, rfl⟩
    · replace hq := ite_n c10 hq
      refine xi_aload_n 0 dX11_netIn_19 rfl ?_
      refine yi_getR (f := 3) dX11_netIn_20 sh_0 rfl ok_8 (by decide) w_245 rfl ?_
      refine xi_iload_n 1 dX11_netIn_23 rfl ?_
      obtain ⟨g12, hq⟩ := chk_some hq
      refine yi_aaload dX11_netIn_24 sh_10 rfl rfl g12 ?_
      obtain ⟨g13, hq⟩ := chk_some hq
      refine xi_goto (tgt := 29) dX11_netIn_25 (by decide) ?_
      have r14 := some_pair hq
      obtain ⟨rfl, rfl⟩ := r14
      exact xi_aret dX11_netIn_29 rfl (Or.inl ⟨_, rfl⟩) (Nat.le_of_ble_eq_true rfl) (Nat.le_of_ble_eq_true rfl) ⟨rfl, rfl⟩
noncomputable def FX11_noteAct (a : Int32) (σ : St) : Option ((Unit) × St) :=
  (chk (inb a 3) (chk (netAt (el 10 a)) (bnd (FX5_sameAs 141 (el 10 a) σ) (fun v3 t4 => (if v3 = (0 : Int32) then (bnd (FX4_remember a 141 t4) (fun v8 t9 => (some ((), t9)))) else (some ((), t4)))))))
set_option maxHeartbeats 4000000 in
set_option maxRecDepth 100000 in
theorem KX11_noteAct (G : xG) (Gb : xMem) (a : Int32) (σ : St) (r0 : Unit) (t0 : St) (hq : FX11_noteAct a σ = some (r0, t0)) : xC G mX11_noteAct 3 0 0 [.ref 0, .int a] (mem σ Gb) (PV r0 t0 Gb) := by
  unfold FX11_noteAct at hq
  refine xC.of (by decide) (Nat.le_of_ble_eq_true rfl) ?_
  show xW _ _ _ _ 0 [(0, .ref 0), (1, .int a)] [] _ 0 0
  refine xi_aload_n 0 dX11_noteAct_0 rfl ?_
  refine yi_getR (f := 8) dX11_noteAct_1 sh_0 rfl ok_8 (by decide) w_250 rfl ?_
  refine xi_aload_n 0 dX11_noteAct_4 rfl ?_
  refine yi_getR (f := 3) dX11_noteAct_5 sh_0 rfl ok_8 (by decide) w_245 rfl ?_
  refine xi_iload_n 1 dX11_noteAct_8 rfl ?_
  obtain ⟨g1, hq⟩ := chk_some hq
  refine yi_aaload dX11_noteAct_9 sh_10 rfl rfl g1 ?_
  obtain ⟨g2, hq⟩ := chk_some hq
  obtain ⟨v3, t4, k5, hq⟩ := bnd_some hq
  refine xi_callV (as := [.ref (el 10 a)]) (rest := []) dX11_noteAct_10 (KX5_sameAs G Gb 141 (el 10 a) _ _ _ k5) mkX5_sameAs w_456 w_457 w_455 (mem_get sh_141) rfl rfl rfl rfl (Nat.le_of_ble_eq_true rfl) (Nat.le_of_ble_eq_true rfl) (Nat.le_of_ble_eq_true rfl) (Nat.le_of_ble_eq_true rfl) (Nat.le_of_ble_eq_true rfl) ?_
  intro v M2 hz
  obtain ⟨rfl, rfl⟩ := hz
  show xW _ _ _ _ 13 _ [.int v3] (mem t4 Gb) _ _
  refine xi_if_ne (tgt := 28) dX11_noteAct_13 (by decide) (fun c6 => ?_) (fun c6 => ?_)
  · replace hq := ite_n c6 hq
    have r7 := some_pair hq
    obtain ⟨rfl, rfl⟩ := r7
    exact xi_vret dX11_noteAct_28 rfl (Nat.le_of_ble_eq_true rfl) (Nat.le_of_ble_eq_true rfl) ⟨rfl, rfl⟩
  · replace hq := ite_p c6 hq
    refine xi_aload_n 0 dX11_noteAct_16 rfl ?_
    refine yi_getR (f := 7) dX11_noteAct_17 sh_0 rfl ok_8 (by decide) w_249 rfl ?_
    refine xi_iload_n 1 dX11_noteAct_20 rfl ?_
    refine xi_aload_n 0 dX11_noteAct_21 rfl ?_
    refine yi_getR (f := 8) dX11_noteAct_22 sh_0 rfl ok_8 (by decide) w_250 rfl ?_
    obtain ⟨v8, t9, k10, hq⟩ := bnd_some hq
    refine xi_callV (as := [.int a, .ref 141]) (rest := []) dX11_noteAct_25 (KX4_remember G Gb a 141 _ _ _ k10) mkX4_remember w_468 w_469 w_467 (mem_get sh_98) rfl rfl rfl rfl (Nat.le_of_ble_eq_true rfl) (Nat.le_of_ble_eq_true rfl) (Nat.le_of_ble_eq_true rfl) (Nat.le_of_ble_eq_true rfl) (Nat.le_of_ble_eq_true rfl) ?_
    intro v M2 hz
    obtain ⟨rfl, rfl⟩ := hz
    show xW _ _ _ _ 28 _ [] (mem t9 Gb) _ _
    have r11 := some_pair hq
    obtain ⟨rfl, rfl⟩ := r11
    exact xi_vret dX11_noteAct_28 rfl (Nat.le_of_ble_eq_true rfl) (Nat.le_of_ble_eq_true rfl) ⟨rfl, rfl⟩
noncomputable def FX11_adds (a : Int32) (b : Int32) (c : Int32) (d : Int32) (σ : St) : Option ((Int32) × St) :=
  (bnd (FX11_netIn a σ) (fun v1 t2 => (Option.elim v1 (some ((-2 : Int32), t2)) (fun x4 => (chk (netAt x4) (bnd (FX5_hasTwo x4 b c t2) (fun v7 t8 => (if v7 = (0 : Int32) then (some ((-2 : Int32), t8)) else (if d < (1 : Int32) then (some ((-2 : Int32), t8)) else (if d ≤ (9 : Int32) then (bnd (FX5_weightOf x4 b c t8) (fun v15 t16 => (if v15 = (0 : Int32) then (rdb t16 x4 (1) (fun v29 => (if v29 < (30 : Int32) then (bnd (FX5_copyFrom 141 x4 t16) (fun v32 t33 => (bnd (FX5_setWeight x4 b c d t33) (fun v35 t36 => (bnd (FX11_noteAct a t36) (fun v38 t39 => (some (v15, t39)))))))) else (some ((-5 : Int32), t16))))) else (bnd (FX5_copyFrom 141 x4 t16) (fun v19 t20 => (bnd (FX5_setWeight x4 b c d t20) (fun v22 t23 => (bnd (FX11_noteAct a t23) (fun v25 t26 => (some (v15, t26))))))))))) else (some ((-2 : Int32), t8))))))))))))
set_option maxHeartbeats 4000000 in
set_option maxRecDepth 100000 in
theorem KX11_adds (G : xG) (Gb : xMem) (a : Int32) (b : Int32) (c : Int32) (d : Int32) (σ : St) (r0 : Int32) (t0 : St) (hq : FX11_adds a b c d σ = some (r0, t0)) : xC G mX11_adds 4 0 0 [.ref 0, .int a, .int b, .int c, .int d] (mem σ Gb) (PQ r0 t0 Gb) := by
  unfold FX11_adds at hq
  refine xC.of (by decide) (Nat.le_of_ble_eq_true rfl) ?_
  show xW _ _ _ _ 0 [(0, .ref 0), (1, .int a), (2, .int b), (3, .int c), (4, .int d)] [] _ 0 0
  refine xi_aload_n 0 dX11_adds_0 rfl ?_
  refine xi_iload_n 1 dX11_adds_1 rfl ?_
  obtain ⟨v1, t2, k3, hq⟩ := bnd_some hq
  refine xi_callV (as := [.int a]) (rest := []) dX11_adds_2 (KX11_netIn G Gb a _ _ _ k3) mkX11_netIn w_491 ws_15 w_489 (mem_get sh_0) rfl rfl rfl rfl (Nat.le_of_ble_eq_true rfl) (Nat.le_of_ble_eq_true rfl) (Nat.le_of_ble_eq_true rfl) (Nat.le_of_ble_eq_true rfl) (Nat.le_of_ble_eq_true rfl) ?_
  intro v M2 hz
  obtain ⟨rfl, rfl⟩ := hz
  rcases v1 with _ | x4
  · replace hq := oel_n hq
    show xW _ _ _ _ 5 _ [.null] (mem t2 Gb) _ _
    refine xi_astoreN (lv' := [(5, .null), (0, .ref 0), (1, .int a), (2, .int b), (3, .int c), (4, .int d)]) dX11_adds_5 (by decide) rfl ?_
    refine xi_aloadN 0 dX11_adds_7 rfl ?_
    refine xi_ifnullN (tgt := 35) dX11_adds_9 (by decide) ?_
    refine xi_bipush (v := (-2)) dX11_adds_35 (by decide) ?_
    have r6 := some_pair hq
    obtain ⟨rfl, rfl⟩ := r6
    exact xi_iret dX11_adds_37 rfl rfl (Nat.le_of_ble_eq_true rfl) (Nat.le_of_ble_eq_true rfl) ⟨rfl, rfl⟩
  · replace hq := oel_s hq
    obtain ⟨g5, hq⟩ := chk_some hq
    show xW _ _ _ _ 5 _ [.ref x4] (mem t2 Gb) _ _
    refine xi_astore (lv' := [(5, .ref x4), (0, .ref 0), (1, .int a), (2, .int b), (3, .int c), (4, .int d)]) dX11_adds_5 (by decide) rfl ?_
    refine xi_aload 0 dX11_adds_7 rfl ?_
    refine xi_ifnull dX11_adds_9 ?_
    refine xi_aload 0 dX11_adds_12 rfl ?_
    refine xi_iload_n 3 dX11_adds_14 rfl ?_
    refine xi_iload_n 4 dX11_adds_15 rfl ?_
    obtain ⟨v7, t8, k9, hq⟩ := bnd_some hq
    refine xi_callV (as := [.int b, .int c]) (rest := []) dX11_adds_16 (KX5_hasTwo G Gb x4 b c _ _ _ k9) mkX5_hasTwo w_937 w_938 w_936 (mem_get (netAt_0 g5)) rfl rfl rfl rfl (Nat.le_of_ble_eq_true rfl) (Nat.le_of_ble_eq_true rfl) (Nat.le_of_ble_eq_true rfl) (Nat.le_of_ble_eq_true rfl) (Nat.le_of_ble_eq_true rfl) ?_
    intro v M2 hz
    obtain ⟨rfl, rfl⟩ := hz
    show xW _ _ _ _ 19 _ [.int v7] (mem t8 Gb) _ _
    refine xi_if_eq (tgt := 35) dX11_adds_19 (by decide) (fun c10 => ?_) (fun c10 => ?_)
    · replace hq := ite_p c10 hq
      refine xi_bipush (v := (-2)) dX11_adds_35 (by decide) ?_
      have r11 := some_pair hq
      obtain ⟨rfl, rfl⟩ := r11
      exact xi_iret dX11_adds_37 rfl rfl (Nat.le_of_ble_eq_true rfl) (Nat.le_of_ble_eq_true rfl) ⟨rfl, rfl⟩
    · replace hq := ite_n c10 hq
      refine xi_iload 5 dX11_adds_22 rfl ?_
      refine xi_iconst (v := 1) dX11_adds_24 (by decide) ?_
      refine xi_icmp_lt (tgt := 35) dX11_adds_25 (by decide) (fun c12 => ?_) (fun c12 => ?_)
      · replace hq := ite_p c12 hq
        refine xi_bipush (v := (-2)) dX11_adds_35 (by decide) ?_
        have r13 := some_pair hq
        obtain ⟨rfl, rfl⟩ := r13
        exact xi_iret dX11_adds_37 rfl rfl (Nat.le_of_ble_eq_true rfl) (Nat.le_of_ble_eq_true rfl) ⟨rfl, rfl⟩
      · replace hq := ite_n c12 hq
        refine xi_iload 5 dX11_adds_28 rfl ?_
        refine xi_bipush (v := 9) dX11_adds_30 (by decide) ?_
        refine xi_icmp_le (tgt := 38) dX11_adds_32 (by decide) (fun c14 => ?_) (fun c14 => ?_)
        · replace hq := ite_p c14 hq
          refine xi_aload 0 dX11_adds_38 rfl ?_
          refine xi_iload_n 3 dX11_adds_40 rfl ?_
          refine xi_iload_n 4 dX11_adds_41 rfl ?_
          obtain ⟨v15, t16, k17, hq⟩ := bnd_some hq
          refine xi_callV (as := [.int b, .int c]) (rest := []) dX11_adds_42 (KX5_weightOf G Gb x4 b c _ _ _ k17) mkX5_weightOf w_415 w_416 w_546 (mem_get (netAt_0 g5)) rfl rfl rfl rfl (Nat.le_of_ble_eq_true rfl) (Nat.le_of_ble_eq_true rfl) (Nat.le_of_ble_eq_true rfl) (Nat.le_of_ble_eq_true rfl) (Nat.le_of_ble_eq_true rfl) ?_
          intro v M2 hz
          obtain ⟨rfl, rfl⟩ := hz
          show xW _ _ _ _ 45 _ [.int v15] (mem t16 Gb) _ _
          refine xi_istore (lv' := [(6, .int v15), (5, .ref x4), (0, .ref 0), (1, .int a), (2, .int b), (3, .int c), (4, .int d)]) dX11_adds_45 (by decide) rfl ?_
          refine xi_iload 0 dX11_adds_47 rfl ?_
          refine xi_if_ne (tgt := 65) dX11_adds_49 (by decide) (fun c18 => ?_) (fun c18 => ?_)
          · replace hq := ite_n c18 hq
            refine xi_aload_n 2 dX11_adds_65 rfl ?_
            refine yi_getR (f := 8) dX11_adds_66 sh_0 rfl ok_8 (by decide) w_250 rfl ?_
            refine xi_aload 1 dX11_adds_69 rfl ?_
            obtain ⟨v19, t20, k21, hq⟩ := bnd_some hq
            refine xi_callV (as := [.ref x4]) (rest := []) dX11_adds_71 (KX5_copyFrom G Gb 141 x4 _ _ _ k21) mkX5_copyFrom w_445 w_446 w_444 (mem_get sh_141) rfl rfl rfl rfl (Nat.le_of_ble_eq_true rfl) (Nat.le_of_ble_eq_true rfl) (Nat.le_of_ble_eq_true rfl) (Nat.le_of_ble_eq_true rfl) (Nat.le_of_ble_eq_true rfl) ?_
            intro v M2 hz
            obtain ⟨rfl, rfl⟩ := hz
            show xW _ _ _ _ 74 _ [] (mem t20 Gb) _ _
            refine xi_aload 1 dX11_adds_74 rfl ?_
            refine xi_iload_n 4 dX11_adds_76 rfl ?_
            refine xi_iload_n 5 dX11_adds_77 rfl ?_
            refine xi_iload 6 dX11_adds_78 rfl ?_
            obtain ⟨v22, t23, k24, hq⟩ := bnd_some hq
            refine xi_callV (as := [.int b, .int c, .int d]) (rest := []) dX11_adds_80 (KX5_setWeight G Gb x4 b c d _ _ _ k24) mkX5_setWeight w_423 w_424 w_941 (mem_get (netAt_0 g5)) rfl rfl rfl rfl (Nat.le_of_ble_eq_true rfl) (Nat.le_of_ble_eq_true rfl) (Nat.le_of_ble_eq_true rfl) (Nat.le_of_ble_eq_true rfl) (Nat.le_of_ble_eq_true rfl) ?_
            intro v M2 hz
            obtain ⟨rfl, rfl⟩ := hz
            show xW _ _ _ _ 83 _ [] (mem t23 Gb) _ _
            refine xi_aload_n 2 dX11_adds_83 rfl ?_
            refine xi_iload_n 3 dX11_adds_84 rfl ?_
            obtain ⟨v25, t26, k27, hq⟩ := bnd_some hq
            refine xi_callV (as := [.int a]) (rest := []) dX11_adds_85 (KX11_noteAct G Gb a _ _ _ k27) mkX11_noteAct w_453 ws_13 w_451 (mem_get sh_0) rfl rfl rfl rfl (Nat.le_of_ble_eq_true rfl) (Nat.le_of_ble_eq_true rfl) (Nat.le_of_ble_eq_true rfl) (Nat.le_of_ble_eq_true rfl) (Nat.le_of_ble_eq_true rfl) ?_
            intro v M2 hz
            obtain ⟨rfl, rfl⟩ := hz
            show xW _ _ _ _ 88 _ [] (mem t26 Gb) _ _
            refine xi_iload 0 dX11_adds_88 rfl ?_
            have r28 := some_pair hq
            obtain ⟨rfl, rfl⟩ := r28
            exact xi_iret dX11_adds_90 rfl rfl (Nat.le_of_ble_eq_true rfl) (Nat.le_of_ble_eq_true rfl) ⟨rfl, rfl⟩
          · replace hq := ite_p c18 hq
            refine xi_aload 1 dX11_adds_52 rfl ?_
            obtain ⟨v29, h30, hq⟩ := rdb_some hq
            refine yi_getV (f := 1) dX11_adds_54 (netAt_0 g5) rfl ok_5 (by decide) w_70 rfl h30 ?_
            refine xi_bipush (v := 30) dX11_adds_57 (by decide) ?_
            refine xi_icmp_lt (tgt := 65) dX11_adds_59 (by decide) (fun c31 => ?_) (fun c31 => ?_)
            · replace hq := ite_p c31 hq
              refine xi_aload_n 2 dX11_adds_65 rfl ?_
              refine yi_getR (f := 8) dX11_adds_66 sh_0 rfl ok_8 (by decide) w_250 rfl ?_
              refine xi_aload 1 dX11_adds_69 rfl ?_
              obtain ⟨v32, t33, k34, hq⟩ := bnd_some hq
              refine xi_callV (as := [.ref x4]) (rest := []) dX11_adds_71 (KX5_copyFrom G Gb 141 x4 _ _ _ k34) mkX5_copyFrom w_445 w_446 w_444 (mem_get sh_141) rfl rfl rfl rfl (Nat.le_of_ble_eq_true rfl) (Nat.le_of_ble_eq_true rfl) (Nat.le_of_ble_eq_true rfl) (Nat.le_of_ble_eq_true rfl) (Nat.le_of_ble_eq_true rfl) ?_
              intro v M2 hz
              obtain ⟨rfl, rfl⟩ := hz
              show xW _ _ _ _ 74 _ [] (mem t33 Gb) _ _
              refine xi_aload 1 dX11_adds_74 rfl ?_
              refine xi_iload_n 4 dX11_adds_76 rfl ?_
              refine xi_iload_n 5 dX11_adds_77 rfl ?_
              refine xi_iload 6 dX11_adds_78 rfl ?_
              obtain ⟨v35, t36, k37, hq⟩ := bnd_some hq
              refine xi_callV (as := [.int b, .int c, .int d]) (rest := []) dX11_adds_80 (KX5_setWeight G Gb x4 b c d _ _ _ k37) mkX5_setWeight w_423 w_424 w_941 (mem_get (netAt_0 g5)) rfl rfl rfl rfl (Nat.le_of_ble_eq_true rfl) (Nat.le_of_ble_eq_true rfl) (Nat.le_of_ble_eq_true rfl) (Nat.le_of_ble_eq_true rfl) (Nat.le_of_ble_eq_true rfl) ?_
              intro v M2 hz
              obtain ⟨rfl, rfl⟩ := hz
              show xW _ _ _ _ 83 _ [] (mem t36 Gb) _ _
              refine xi_aload_n 2 dX11_adds_83 rfl ?_
              refine xi_iload_n 3 dX11_adds_84 rfl ?_
              obtain ⟨v38, t39, k40, hq⟩ := bnd_some hq
              refine xi_callV (as := [.int a]) (rest := []) dX11_adds_85 (KX11_noteAct G Gb a _ _ _ k40) mkX11_noteAct w_453 ws_13 w_451 (mem_get sh_0) rfl rfl rfl rfl (Nat.le_of_ble_eq_true rfl) (Nat.le_of_ble_eq_true rfl) (Nat.le_of_ble_eq_true rfl) (Nat.le_of_ble_eq_true rfl) (Nat.le_of_ble_eq_true rfl) ?_
              intro v M2 hz
              obtain ⟨rfl, rfl⟩ := hz
              show xW _ _ _ _ 88 _ [] (mem t39 Gb) _ _
              refine xi_iload 0 dX11_adds_88 rfl ?_
              have r41 := some_pair hq
              obtain ⟨rfl, rfl⟩ := r41
              exact xi_iret dX11_adds_90 rfl rfl (Nat.le_of_ble_eq_true rfl) (Nat.le_of_ble_eq_true rfl) ⟨rfl, rfl⟩
            · replace hq := ite_n c31 hq
              refine xi_bipush (v := (-5)) dX11_adds_62 (by decide) ?_
              have r42 := some_pair hq
              obtain ⟨rfl, rfl⟩ := r42
              exact xi_iret dX11_adds_64 rfl rfl (Nat.le_of_ble_eq_true rfl) (Nat.le_of_ble_eq_true rfl) ⟨rfl, rfl⟩
        · replace hq := ite_n c14 hq
          refine xi_bipush (v := (-2)) dX11_adds_35 (by decide) ?_
          have r43 := some_pair hq
          obtain ⟨rfl, rfl⟩ := r43
          exact xi_iret dX11_adds_37 rfl rfl (Nat.le_of_ble_eq_true rfl) (Nat.le_of_ble_eq_true rfl) ⟨rfl, rfl⟩
noncomputable def FX11_isMeasure (a : Int32) (σ : St) : Option ((Int32) × St) :=
  (if a < (0 : Int32) then (some ((0 : Int32), σ)) else (if (7 : Int32) ≤ a then (some ((0 : Int32), σ)) else (some ((1 : Int32), σ))))
set_option maxHeartbeats 4000000 in
set_option maxRecDepth 100000 in
theorem KX11_isMeasure (G : xG) (Gb : xMem) (a : Int32) (σ : St) (r0 : Int32) (t0 : St) (hq : FX11_isMeasure a σ = some (r0, t0)) : xC G mX11_isMeasure 0 0 0 [.int a] (mem σ Gb) (PQ r0 t0 Gb) := by
  unfold FX11_isMeasure at hq
  refine xC.of (by decide) (Nat.le_of_ble_eq_true rfl) ?_
  show xW _ _ _ _ 0 [(0, .int a)] [] _ 0 0
  refine xi_iload_n 0 dX11_isMeasure_0 rfl ?_
  refine xi_if_lt (tgt := 14) dX11_isMeasure_1 (by decide) (fun c1 => ?_) (fun c1 => ?_)
  · replace hq := ite_p c1 hq
    refine xi_iconst (v := 0) dX11_isMeasure_14 (by decide) ?_
    have r2 := some_pair hq
    obtain ⟨rfl, rfl⟩ := r2
    exact xi_iret dX11_isMeasure_15 rfl (by decide) (Nat.le_of_ble_eq_true rfl) (Nat.le_of_ble_eq_true rfl) ⟨rfl, rfl⟩
  · replace hq := ite_n c1 hq
    refine xi_iload_n 0 dX11_isMeasure_4 rfl ?_
    refine xi_bipush (v := 7) dX11_isMeasure_5 (by decide) ?_
    refine xi_icmp_ge (tgt := 14) dX11_isMeasure_7 (by decide) (fun c3 => ?_) (fun c3 => ?_)
    · replace hq := ite_p c3 hq
      refine xi_iconst (v := 0) dX11_isMeasure_14 (by decide) ?_
      have r4 := some_pair hq
      obtain ⟨rfl, rfl⟩ := r4
      exact xi_iret dX11_isMeasure_15 rfl (by decide) (Nat.le_of_ble_eq_true rfl) (Nat.le_of_ble_eq_true rfl) ⟨rfl, rfl⟩
    · replace hq := ite_n c3 hq
      refine xi_iconst (v := 1) dX11_isMeasure_10 (by decide) ?_
      refine xi_goto (tgt := 15) dX11_isMeasure_11 (by decide) ?_
      have r5 := some_pair hq
      obtain ⟨rfl, rfl⟩ := r5
      exact xi_iret dX11_isMeasure_15 rfl (by decide) (Nat.le_of_ble_eq_true rfl) (Nat.le_of_ble_eq_true rfl) ⟨rfl, rfl⟩
noncomputable def FX11_findingOf (a : Int32) (b : Int32) (σ : St) : Option ((Option Nat) × St) :=
  (bnd (FX11_netIn a σ) (fun v1 t2 => (Option.elim v1 (some (none, t2)) (fun x4 => (chk (netAt x4) (bnd (FX11_isMeasure b t2) (fun v7 t8 => (if v7 = (0 : Int32) then (some (none, t8)) else (chk (inb a 3) (chk (findsAt (el 11 a)) (bnd (FX3_turnTo (el 11 a) x4 t8) (fun v13 t14 => (chk (inb a 3) (chk (findsAt (el 11 a)) (chk (inb b 7) (chk (findAt (el ((el 11 a) + 1) b)) (rdb t14 (el ((el 11 a) + 1) b) (0) (fun v20 => (bnd (if v20 = (0 : Int32) then (bnd (if b = (2 : Int32) then (bnd (FX0_find x4 (el ((el 11 a) + 1) b) t14) (fun v38 t39 => (some ((), t39)))) else (bnd (FX9_find x4 b (el ((el 11 a) + 1) b) t14) (fun v35 t36 => (some ((), t36))))) (fun v29 t30 => (wrb t30 (el ((el 11 a) + 1) b) (0) (1 : Int32) (fun t33 => (some ((), t33)))))) else (some ((), t14))) (fun v23 t24 => (some ((some (el ((el 11 a) + 1) b)), t24))))))))))))))))))))))
set_option maxHeartbeats 4000000 in
set_option maxRecDepth 100000 in
theorem KX11_findingOf (G : xG) (Gb : xMem) (a : Int32) (b : Int32) (σ : St) (r0 : Option Nat) (t0 : St) (hq : FX11_findingOf a b σ = some (r0, t0)) : xC G mX11_findingOf 16 0 0 [.ref 0, .int a, .int b] (mem σ Gb) (PR r0 t0 Gb) := by
  unfold FX11_findingOf at hq
  refine xC.of (by decide) (Nat.le_of_ble_eq_true rfl) ?_
  show xW _ _ _ _ 0 [(0, .ref 0), (1, .int a), (2, .int b)] [] _ 0 0
  refine xi_aload_n 0 dX11_findingOf_0 rfl ?_
  refine xi_iload_n 1 dX11_findingOf_1 rfl ?_
  obtain ⟨v1, t2, k3, hq⟩ := bnd_some hq
  refine xi_callV (as := [.int a]) (rest := []) dX11_findingOf_2 (KX11_netIn G Gb a _ _ _ k3) mkX11_netIn w_491 ws_15 w_489 (mem_get sh_0) rfl rfl rfl rfl (Nat.le_of_ble_eq_true rfl) (Nat.le_of_ble_eq_true rfl) (Nat.le_of_ble_eq_true rfl) (Nat.le_of_ble_eq_true rfl) (Nat.le_of_ble_eq_true rfl) ?_
  intro v M2 hz
  obtain ⟨rfl, rfl⟩ := hz
  rcases v1 with _ | x4
  · replace hq := oel_n hq
    show xW _ _ _ _ 5 _ [.null] (mem t2 Gb) _ _
    refine xi_astore_nN (lv' := [(3, .null), (0, .ref 0), (1, .int a), (2, .int b)]) dX11_findingOf_5 (by decide) rfl ?_
    refine xi_aload_nN 0 dX11_findingOf_6 rfl ?_
    refine xi_ifnullN (tgt := 17) dX11_findingOf_7 (by decide) ?_
    refine xi_null dX11_findingOf_17 ?_
    have r6 := some_pair hq
    obtain ⟨rfl, rfl⟩ := r6
    exact xi_aretN dX11_findingOf_18 rfl (Or.inl ⟨_, rfl⟩) (Nat.le_of_ble_eq_true rfl) (Nat.le_of_ble_eq_true rfl) ⟨rfl, rfl⟩
  · replace hq := oel_s hq
    obtain ⟨g5, hq⟩ := chk_some hq
    show xW _ _ _ _ 5 _ [.ref x4] (mem t2 Gb) _ _
    refine xi_astore_n (lv' := [(3, .ref x4), (0, .ref 0), (1, .int a), (2, .int b)]) dX11_findingOf_5 (by decide) rfl ?_
    refine xi_aload_n 0 dX11_findingOf_6 rfl ?_
    refine xi_ifnull dX11_findingOf_7 ?_
    refine xi_iload_n 3 dX11_findingOf_10 rfl ?_
    obtain ⟨v7, t8, k9, hq⟩ := bnd_some hq
    refine xi_callS (as := [.int b]) (rest := []) dX11_findingOf_11 (KX11_isMeasure G Gb b _ _ _ k9) mkX11_isMeasure w_569 w_568 rfl rfl (Nat.le_of_ble_eq_true rfl) (Nat.le_of_ble_eq_true rfl) (Nat.le_of_ble_eq_true rfl) (Nat.le_of_ble_eq_true rfl) (Nat.le_of_ble_eq_true rfl) ?_
    intro v M2 hz
    obtain ⟨rfl, rfl⟩ := hz
    show xW _ _ _ _ 14 _ [.int v7] (mem t8 Gb) _ _
    refine xi_if_ne (tgt := 19) dX11_findingOf_14 (by decide) (fun c10 => ?_) (fun c10 => ?_)
    · replace hq := ite_n c10 hq
      refine xi_aload_n 1 dX11_findingOf_19 rfl ?_
      refine yi_getR (f := 4) dX11_findingOf_20 sh_0 rfl ok_8 (by decide) w_246 rfl ?_
      refine xi_iload_n 2 dX11_findingOf_23 rfl ?_
      obtain ⟨g11, hq⟩ := chk_some hq
      refine yi_aaload dX11_findingOf_24 sh_11 rfl rfl g11 ?_
      obtain ⟨g12, hq⟩ := chk_some hq
      refine xi_aload_n 0 dX11_findingOf_25 rfl ?_
      obtain ⟨v13, t14, k15, hq⟩ := bnd_some hq
      refine xi_callV (as := [.ref x4]) (rest := []) dX11_findingOf_26 (KX3_turnTo G Gb (el 11 a) x4 _ _ _ k15) mkX3_turnTo w_662 w_663 w_661 (mem_get (findsAt_0 g12)) rfl rfl rfl rfl (Nat.le_of_ble_eq_true rfl) (Nat.le_of_ble_eq_true rfl) (Nat.le_of_ble_eq_true rfl) (Nat.le_of_ble_eq_true rfl) (Nat.le_of_ble_eq_true rfl) ?_
      intro v M2 hz
      obtain ⟨rfl, rfl⟩ := hz
      show xW _ _ _ _ 29 _ [] (mem t14 Gb) _ _
      refine xi_aload_n 1 dX11_findingOf_29 rfl ?_
      refine yi_getR (f := 4) dX11_findingOf_30 sh_0 rfl ok_8 (by decide) w_246 rfl ?_
      refine xi_iload_n 2 dX11_findingOf_33 rfl ?_
      obtain ⟨g16, hq⟩ := chk_some hq
      refine yi_aaload dX11_findingOf_34 sh_11 rfl rfl g16 ?_
      obtain ⟨g17, hq⟩ := chk_some hq
      refine yi_getR (f := 0) dX11_findingOf_35 (findsAt_0 g17) rfl ok_3 (by decide) w_170 rfl ?_
      refine xi_iload_n 3 dX11_findingOf_38 rfl ?_
      obtain ⟨g18, hq⟩ := chk_some hq
      refine yi_aaload dX11_findingOf_39 (findsAt_1 g17) rfl rfl g18 ?_
      obtain ⟨g19, hq⟩ := chk_some hq
      refine xi_astore (lv' := [(4, .ref (el ((el 11 a) + 1) b)), (3, .ref x4), (0, .ref 0), (1, .int a), (2, .int b)]) dX11_findingOf_40 (by decide) rfl ?_
      refine xi_aload 0 dX11_findingOf_42 rfl ?_
      obtain ⟨v20, h21, hq⟩ := rdb_some hq
      refine yi_getV (f := 0) dX11_findingOf_44 (findAt_0 g19) rfl ok_2 (by decide) w_144 rfl h21 ?_
      obtain ⟨v23, t24, m25, hq⟩ := bnd_some hq
      have key26 : xW G mX11_findingOf (xrm 16 0 0) (xQ G (PR r0 t0 Gb) 0 0) 85 [(4, .ref (el ((el 11 a) + 1) b))] [] (mem t24 Gb) 0 0 := by
        refine xi_aload 0 dX11_findingOf_85 rfl ?_
        have r27 := some_pair hq
        obtain ⟨rfl, rfl⟩ := r27
        exact xi_aret dX11_findingOf_87 rfl (Or.inl ⟨_, rfl⟩) (Nat.le_of_ble_eq_true rfl) (Nat.le_of_ble_eq_true rfl) ⟨rfl, rfl⟩
      refine xi_if_ne (tgt := 85) dX11_findingOf_47 (by decide) (fun c22 => ?_) (fun c22 => ?_)
      · replace m25 := ite_n c22 m25
        obtain ⟨rfl, rfl⟩ := some_pair m25
        refine xi_sub (lv' := [(4, .ref (el ((el 11 a) + 1) b))]) [0] rfl ?_
        exact key26
      · replace m25 := ite_p c22 m25
        refine xi_iload_n 4 dX11_findingOf_50 rfl ?_
        refine xi_iconst (v := 2) dX11_findingOf_51 (by decide) ?_
        obtain ⟨v29, t30, m31, m25⟩ := bnd_some m25
        have key32 : xW G mX11_findingOf (xrm 16 0 0) (xQ G (PR r0 t0 Gb) 0 0) 79 [(4, .ref (el ((el 11 a) + 1) b))] [] (mem t30 Gb) 0 0 := by
          refine xi_aload 0 dX11_findingOf_79 rfl ?_
          refine xi_iconst (v := 1) dX11_findingOf_81 (by decide) ?_
          obtain ⟨t33, h34, m25⟩ := wrb_some m25
          refine yi_putV (f := 0) (ty := .boolean) dX11_findingOf_82 (findAt_0 g19) rfl ok_2 (by decide) w_144 rfl rfl pf_Z rfl rfl h34 ?_
          obtain ⟨rfl, rfl⟩ := some_pair m25
          exact key26
        refine xi_icmp_ne (tgt := 68) dX11_findingOf_52 (by decide) (fun c28 => ?_) (fun c28 => ?_)
        · replace m31 := ite_n c28 m31
          refine xi_aload_n 2 dX11_findingOf_68 rfl ?_
          refine yi_getR (f := 5) dX11_findingOf_69 sh_0 rfl ok_8 (by decide) w_247 rfl ?_
          refine xi_aload_n 1 dX11_findingOf_72 rfl ?_
          refine xi_iload_n 4 dX11_findingOf_73 rfl ?_
          refine xi_aload 0 dX11_findingOf_74 rfl ?_
          obtain ⟨v35, t36, k37, m31⟩ := bnd_some m31
          refine xi_callV (as := [.ref x4, .int b, .ref (el ((el 11 a) + 1) b)]) (rest := []) dX11_findingOf_76 (KX9_find G Gb x4 b (el ((el 11 a) + 1) b) _ _ _ k37) mkX9_find w_702 w_703 w_701 (mem_get sh_84) rfl rfl rfl rfl (Nat.le_of_ble_eq_true rfl) (Nat.le_of_ble_eq_true rfl) (Nat.le_of_ble_eq_true rfl) (Nat.le_of_ble_eq_true rfl) (Nat.le_of_ble_eq_true rfl) ?_
          intro v M2 hz
          obtain ⟨rfl, rfl⟩ := hz
          show xW _ _ _ _ 79 _ [] (mem t36 Gb) _ _
          obtain ⟨rfl, rfl⟩ := some_pair m31
          refine xi_sub (lv' := [(4, .ref (el ((el 11 a) + 1) b))]) [0] rfl ?_
          exact key32
        · replace m31 := ite_p c28 m31
          refine xi_aload_n 2 dX11_findingOf_55 rfl ?_
          refine yi_getR (f := 6) dX11_findingOf_56 sh_0 rfl ok_8 (by decide) w_248 rfl ?_
          refine xi_aload_n 1 dX11_findingOf_59 rfl ?_
          refine xi_aload 0 dX11_findingOf_60 rfl ?_
          obtain ⟨v38, t39, k40, m31⟩ := bnd_some m31
          refine xi_callV (as := [.ref x4, .ref (el ((el 11 a) + 1) b)]) (rest := []) dX11_findingOf_62 (KX0_find G Gb x4 (el ((el 11 a) + 1) b) _ _ _ k40) mkX0_find w_668 w_669 w_667 (mem_get sh_90) rfl rfl rfl rfl (Nat.le_of_ble_eq_true rfl) (Nat.le_of_ble_eq_true rfl) (Nat.le_of_ble_eq_true rfl) (Nat.le_of_ble_eq_true rfl) (Nat.le_of_ble_eq_true rfl) ?_
          intro v M2 hz
          obtain ⟨rfl, rfl⟩ := hz
          show xW _ _ _ _ 65 _ [] (mem t39 Gb) _ _
          refine xi_goto (tgt := 79) dX11_findingOf_65 (by decide) ?_
          obtain ⟨rfl, rfl⟩ := some_pair m31
          refine xi_sub (lv' := [(4, .ref (el ((el 11 a) + 1) b))]) [0] rfl ?_
          exact key32
    · replace hq := ite_p c10 hq
      refine xi_null dX11_findingOf_17 ?_
      have r41 := some_pair hq
      obtain ⟨rfl, rfl⟩ := r41
      exact xi_aretN dX11_findingOf_18 rfl (Or.inl ⟨_, rfl⟩) (Nat.le_of_ble_eq_true rfl) (Nat.le_of_ble_eq_true rfl) ⟨rfl, rfl⟩
noncomputable def FX11_isBounded (a : Int32) (σ : St) : Option ((Int32) × St) :=
  (if a = (0 : Int32) then (some ((1 : Int32), σ)) else (if a = (1 : Int32) then (some ((1 : Int32), σ)) else (if a = (2 : Int32) then (some ((1 : Int32), σ)) else (if a = (5 : Int32) then (some ((1 : Int32), σ)) else (some ((0 : Int32), σ))))))
set_option maxHeartbeats 4000000 in
set_option maxRecDepth 100000 in
theorem KX11_isBounded (G : xG) (Gb : xMem) (a : Int32) (σ : St) (r0 : Int32) (t0 : St) (hq : FX11_isBounded a σ = some (r0, t0)) : xC G mX11_isBounded 0 0 0 [.int a] (mem σ Gb) (PQ r0 t0 Gb) := by
  unfold FX11_isBounded at hq
  refine xC.of (by decide) (Nat.le_of_ble_eq_true rfl) ?_
  show xW _ _ _ _ 0 [(0, .int a)] [] _ 0 0
  refine xi_iload_n 0 dX11_isBounded_0 rfl ?_
  refine xi_if_eq (tgt := 19) dX11_isBounded_1 (by decide) (fun c1 => ?_) (fun c1 => ?_)
  · replace hq := ite_p c1 hq
    refine xi_iconst (v := 1) dX11_isBounded_19 (by decide) ?_
    refine xi_goto (tgt := 24) dX11_isBounded_20 (by decide) ?_
    have r2 := some_pair hq
    obtain ⟨rfl, rfl⟩ := r2
    exact xi_iret dX11_isBounded_24 rfl (by decide) (Nat.le_of_ble_eq_true rfl) (Nat.le_of_ble_eq_true rfl) ⟨rfl, rfl⟩
  · replace hq := ite_n c1 hq
    refine xi_iload_n 0 dX11_isBounded_4 rfl ?_
    refine xi_iconst (v := 1) dX11_isBounded_5 (by decide) ?_
    refine xi_icmp_eq (tgt := 19) dX11_isBounded_6 (by decide) (fun c3 => ?_) (fun c3 => ?_)
    · replace hq := ite_p c3 hq
      refine xi_iconst (v := 1) dX11_isBounded_19 (by decide) ?_
      refine xi_goto (tgt := 24) dX11_isBounded_20 (by decide) ?_
      have r4 := some_pair hq
      obtain ⟨rfl, rfl⟩ := r4
      exact xi_iret dX11_isBounded_24 rfl (by decide) (Nat.le_of_ble_eq_true rfl) (Nat.le_of_ble_eq_true rfl) ⟨rfl, rfl⟩
    · replace hq := ite_n c3 hq
      refine xi_iload_n 0 dX11_isBounded_9 rfl ?_
      refine xi_iconst (v := 2) dX11_isBounded_10 (by decide) ?_
      refine xi_icmp_eq (tgt := 19) dX11_isBounded_11 (by decide) (fun c5 => ?_) (fun c5 => ?_)
      · replace hq := ite_p c5 hq
        refine xi_iconst (v := 1) dX11_isBounded_19 (by decide) ?_
        refine xi_goto (tgt := 24) dX11_isBounded_20 (by decide) ?_
        have r6 := some_pair hq
        obtain ⟨rfl, rfl⟩ := r6
        exact xi_iret dX11_isBounded_24 rfl (by decide) (Nat.le_of_ble_eq_true rfl) (Nat.le_of_ble_eq_true rfl) ⟨rfl, rfl⟩
      · replace hq := ite_n c5 hq
        refine xi_iload_n 0 dX11_isBounded_14 rfl ?_
        refine xi_iconst (v := 5) dX11_isBounded_15 (by decide) ?_
        refine xi_icmp_ne (tgt := 23) dX11_isBounded_16 (by decide) (fun c7 => ?_) (fun c7 => ?_)
        · replace hq := ite_n c7 hq
          refine xi_iconst (v := 0) dX11_isBounded_23 (by decide) ?_
          have r8 := some_pair hq
          obtain ⟨rfl, rfl⟩ := r8
          exact xi_iret dX11_isBounded_24 rfl (by decide) (Nat.le_of_ble_eq_true rfl) (Nat.le_of_ble_eq_true rfl) ⟨rfl, rfl⟩
        · replace hq := ite_p c7 hq
          refine xi_iconst (v := 1) dX11_isBounded_19 (by decide) ?_
          refine xi_goto (tgt := 24) dX11_isBounded_20 (by decide) ?_
          have r9 := some_pair hq
          obtain ⟨rfl, rfl⟩ := r9
          exact xi_iret dX11_isBounded_24 rfl (by decide) (Nat.le_of_ble_eq_true rfl) (Nat.le_of_ble_eq_true rfl) ⟨rfl, rfl⟩
noncomputable def FX11_isPriced (a : Int32) (σ : St) : Option ((Int32) × St) :=
  (bnd (FX11_isMeasure a σ) (fun v1 t2 => (if v1 = (0 : Int32) then (some ((0 : Int32), t2)) else (if a = (2 : Int32) then (some ((0 : Int32), t2)) else (some ((1 : Int32), t2))))))
set_option maxHeartbeats 4000000 in
set_option maxRecDepth 100000 in
theorem KX11_isPriced (G : xG) (Gb : xMem) (a : Int32) (σ : St) (r0 : Int32) (t0 : St) (hq : FX11_isPriced a σ = some (r0, t0)) : xC G mX11_isPriced 1 0 0 [.int a] (mem σ Gb) (PQ r0 t0 Gb) := by
  unfold FX11_isPriced at hq
  refine xC.of (by decide) (Nat.le_of_ble_eq_true rfl) ?_
  show xW _ _ _ _ 0 [(0, .int a)] [] _ 0 0
  refine xi_iload_n 0 dX11_isPriced_0 rfl ?_
  obtain ⟨v1, t2, k3, hq⟩ := bnd_some hq
  refine xi_callS (as := [.int a]) (rest := []) dX11_isPriced_1 (KX11_isMeasure G Gb a _ _ _ k3) mkX11_isMeasure w_569 w_568 rfl rfl (Nat.le_of_ble_eq_true rfl) (Nat.le_of_ble_eq_true rfl) (Nat.le_of_ble_eq_true rfl) (Nat.le_of_ble_eq_true rfl) (Nat.le_of_ble_eq_true rfl) ?_
  intro v M2 hz
  obtain ⟨rfl, rfl⟩ := hz
  show xW _ _ _ _ 4 _ [.int v1] (mem t2 Gb) _ _
  refine xi_if_eq (tgt := 16) dX11_isPriced_4 (by decide) (fun c4 => ?_) (fun c4 => ?_)
  · replace hq := ite_p c4 hq
    refine xi_iconst (v := 0) dX11_isPriced_16 (by decide) ?_
    have r5 := some_pair hq
    obtain ⟨rfl, rfl⟩ := r5
    exact xi_iret dX11_isPriced_17 rfl (by decide) (Nat.le_of_ble_eq_true rfl) (Nat.le_of_ble_eq_true rfl) ⟨rfl, rfl⟩
  · replace hq := ite_n c4 hq
    refine xi_iload_n 0 dX11_isPriced_7 rfl ?_
    refine xi_iconst (v := 2) dX11_isPriced_8 (by decide) ?_
    refine xi_icmp_eq (tgt := 16) dX11_isPriced_9 (by decide) (fun c6 => ?_) (fun c6 => ?_)
    · replace hq := ite_p c6 hq
      refine xi_iconst (v := 0) dX11_isPriced_16 (by decide) ?_
      have r7 := some_pair hq
      obtain ⟨rfl, rfl⟩ := r7
      exact xi_iret dX11_isPriced_17 rfl (by decide) (Nat.le_of_ble_eq_true rfl) (Nat.le_of_ble_eq_true rfl) ⟨rfl, rfl⟩
    · replace hq := ite_n c6 hq
      refine xi_iconst (v := 1) dX11_isPriced_12 (by decide) ?_
      refine xi_goto (tgt := 17) dX11_isPriced_13 (by decide) ?_
      have r8 := some_pair hq
      obtain ⟨rfl, rfl⟩ := r8
      exact xi_iret dX11_isPriced_17 rfl (by decide) (Nat.le_of_ble_eq_true rfl) (Nat.le_of_ble_eq_true rfl) ⟨rfl, rfl⟩
noncomputable def FX11_among (a : Int32) (b : Int32) (c : Int32) (σ : St) : Option ((Int32) × St) :=
  (bnd (FX11_findingOf a b σ) (fun v1 t2 => (Option.elim v1 (some ((-2 : Int32), t2)) (fun x4 => (chk (findAt x4) (bnd (FX11_isBounded b t2) (fun v7 t8 => (if v7 = (0 : Int32) then (some ((-2 : Int32), t8)) else (if b = (2 : Int32) then (some ((-2 : Int32), t8)) else (bnd (FX11_isPriced c t8) (fun v14 t15 => (if v14 = (0 : Int32) then (some ((-2 : Int32), t15)) else (chk (inb a 3) (chk (netAt (el 10 a)) (rdb t15 x4 (1) (fun v20 => (bnd (FX9_leastWhere (el 10 a) c b v20 t15) (fun v22 t23 => (some (v22, t23))))))))))))))))))))
set_option maxHeartbeats 4000000 in
set_option maxRecDepth 100000 in
theorem KX11_among (G : xG) (Gb : xMem) (a : Int32) (b : Int32) (c : Int32) (σ : St) (r0 : Int32) (t0 : St) (hq : FX11_among a b c σ = some (r0, t0)) : xC G mX11_among 17 0 0 [.ref 0, .int a, .int b, .int c] (mem σ Gb) (PQ r0 t0 Gb) := by
  unfold FX11_among at hq
  refine xC.of (by decide) (Nat.le_of_ble_eq_true rfl) ?_
  show xW _ _ _ _ 0 [(0, .ref 0), (1, .int a), (2, .int b), (3, .int c)] [] _ 0 0
  refine xi_aload_n 0 dX11_among_0 rfl ?_
  refine xi_iload_n 1 dX11_among_1 rfl ?_
  refine xi_iload_n 2 dX11_among_2 rfl ?_
  obtain ⟨v1, t2, k3, hq⟩ := bnd_some hq
  refine xi_callV (as := [.int a, .int b]) (rest := []) dX11_among_3 (KX11_findingOf G Gb a b _ _ _ k3) mkX11_findingOf w_659 ws_16 w_657 (mem_get sh_0) rfl rfl rfl rfl (Nat.le_of_ble_eq_true rfl) (Nat.le_of_ble_eq_true rfl) (Nat.le_of_ble_eq_true rfl) (Nat.le_of_ble_eq_true rfl) (Nat.le_of_ble_eq_true rfl) ?_
  intro v M2 hz
  obtain ⟨rfl, rfl⟩ := hz
  rcases v1 with _ | x4
  · replace hq := oel_n hq
    show xW _ _ _ _ 6 _ [.null] (mem t2 Gb) _ _
    refine xi_astoreN (lv' := [(4, .null), (0, .ref 0), (1, .int a), (2, .int b), (3, .int c)]) dX11_among_6 (by decide) rfl ?_
    refine xi_aloadN 0 dX11_among_8 rfl ?_
    refine xi_ifnullN (tgt := 32) dX11_among_10 (by decide) ?_
    refine xi_bipush (v := (-2)) dX11_among_32 (by decide) ?_
    have r6 := some_pair hq
    obtain ⟨rfl, rfl⟩ := r6
    exact xi_iret dX11_among_34 rfl rfl (Nat.le_of_ble_eq_true rfl) (Nat.le_of_ble_eq_true rfl) ⟨rfl, rfl⟩
  · replace hq := oel_s hq
    obtain ⟨g5, hq⟩ := chk_some hq
    show xW _ _ _ _ 6 _ [.ref x4] (mem t2 Gb) _ _
    refine xi_astore (lv' := [(4, .ref x4), (0, .ref 0), (1, .int a), (2, .int b), (3, .int c)]) dX11_among_6 (by decide) rfl ?_
    refine xi_aload 0 dX11_among_8 rfl ?_
    refine xi_ifnull dX11_among_10 ?_
    refine xi_iload_n 3 dX11_among_13 rfl ?_
    obtain ⟨v7, t8, k9, hq⟩ := bnd_some hq
    refine xi_callS (as := [.int b]) (rest := []) dX11_among_14 (KX11_isBounded G Gb b _ _ _ k9) mkX11_isBounded w_759 w_758 rfl rfl (Nat.le_of_ble_eq_true rfl) (Nat.le_of_ble_eq_true rfl) (Nat.le_of_ble_eq_true rfl) (Nat.le_of_ble_eq_true rfl) (Nat.le_of_ble_eq_true rfl) ?_
    intro v M2 hz
    obtain ⟨rfl, rfl⟩ := hz
    show xW _ _ _ _ 17 _ [.int v7] (mem t8 Gb) _ _
    refine xi_if_eq (tgt := 32) dX11_among_17 (by decide) (fun c10 => ?_) (fun c10 => ?_)
    · replace hq := ite_p c10 hq
      refine xi_bipush (v := (-2)) dX11_among_32 (by decide) ?_
      have r11 := some_pair hq
      obtain ⟨rfl, rfl⟩ := r11
      exact xi_iret dX11_among_34 rfl rfl (Nat.le_of_ble_eq_true rfl) (Nat.le_of_ble_eq_true rfl) ⟨rfl, rfl⟩
    · replace hq := ite_n c10 hq
      refine xi_iload_n 3 dX11_among_20 rfl ?_
      refine xi_iconst (v := 2) dX11_among_21 (by decide) ?_
      refine xi_icmp_eq (tgt := 32) dX11_among_22 (by decide) (fun c12 => ?_) (fun c12 => ?_)
      · replace hq := ite_p c12 hq
        refine xi_bipush (v := (-2)) dX11_among_32 (by decide) ?_
        have r13 := some_pair hq
        obtain ⟨rfl, rfl⟩ := r13
        exact xi_iret dX11_among_34 rfl rfl (Nat.le_of_ble_eq_true rfl) (Nat.le_of_ble_eq_true rfl) ⟨rfl, rfl⟩
      · replace hq := ite_n c12 hq
        refine xi_iload_n 4 dX11_among_25 rfl ?_
        obtain ⟨v14, t15, k16, hq⟩ := bnd_some hq
        refine xi_callS (as := [.int c]) (rest := []) dX11_among_26 (KX11_isPriced G Gb c _ _ _ k16) mkX11_isPriced w_620 w_619 rfl rfl (Nat.le_of_ble_eq_true rfl) (Nat.le_of_ble_eq_true rfl) (Nat.le_of_ble_eq_true rfl) (Nat.le_of_ble_eq_true rfl) (Nat.le_of_ble_eq_true rfl) ?_
        intro v M2 hz
        obtain ⟨rfl, rfl⟩ := hz
        show xW _ _ _ _ 29 _ [.int v14] (mem t15 Gb) _ _
        refine xi_if_ne (tgt := 35) dX11_among_29 (by decide) (fun c17 => ?_) (fun c17 => ?_)
        · replace hq := ite_n c17 hq
          refine xi_aload_n 1 dX11_among_35 rfl ?_
          refine yi_getR (f := 5) dX11_among_36 sh_0 rfl ok_8 (by decide) w_247 rfl ?_
          refine xi_aload_n 1 dX11_among_39 rfl ?_
          refine yi_getR (f := 3) dX11_among_40 sh_0 rfl ok_8 (by decide) w_245 rfl ?_
          refine xi_iload_n 2 dX11_among_43 rfl ?_
          obtain ⟨g18, hq⟩ := chk_some hq
          refine yi_aaload dX11_among_44 sh_10 rfl rfl g18 ?_
          obtain ⟨g19, hq⟩ := chk_some hq
          refine xi_iload_n 4 dX11_among_45 rfl ?_
          refine xi_iload_n 3 dX11_among_46 rfl ?_
          refine xi_aload 0 dX11_among_47 rfl ?_
          obtain ⟨v20, h21, hq⟩ := rdb_some hq
          refine yi_getV (f := 1) dX11_among_49 (findAt_0 g5) rfl ok_2 (by decide) w_147 rfl h21 ?_
          obtain ⟨v22, t23, k24, hq⟩ := bnd_some hq
          refine xi_callV (as := [.ref (el 10 a), .int c, .int b, .int v20]) (rest := []) dX11_among_52 (KX9_leastWhere G Gb (el 10 a) c b v20 _ _ _ k24) mkX9_leastWhere w_816 w_817 w_815 (mem_get sh_84) rfl rfl rfl rfl (Nat.le_of_ble_eq_true rfl) (Nat.le_of_ble_eq_true rfl) (Nat.le_of_ble_eq_true rfl) (Nat.le_of_ble_eq_true rfl) (Nat.le_of_ble_eq_true rfl) ?_
          intro v M2 hz
          obtain ⟨rfl, rfl⟩ := hz
          show xW _ _ _ _ 55 _ [.int v22] (mem t23 Gb) _ _
          have r25 := some_pair hq
          obtain ⟨rfl, rfl⟩ := r25
          exact xi_iret dX11_among_55 rfl rfl (Nat.le_of_ble_eq_true rfl) (Nat.le_of_ble_eq_true rfl) ⟨rfl, rfl⟩
        · replace hq := ite_p c17 hq
          refine xi_bipush (v := (-2)) dX11_among_32 (by decide) ?_
          have r26 := some_pair hq
          obtain ⟨rfl, rfl⟩ := r26
          exact xi_iret dX11_among_34 rfl rfl (Nat.le_of_ble_eq_true rfl) (Nat.le_of_ble_eq_true rfl) ⟨rfl, rfl⟩
noncomputable def FX11_bag (a : Int32) (b : Int32) (c : Int32) (σ : St) : Option ((Int32) × St) :=
  (bnd (FX11_netIn a σ) (fun v1 t2 => (Option.elim v1 (some ((-2 : Int32), t2)) (fun x4 => (chk (netAt x4) (bnd (FX5_has x4 c t2) (fun v7 t8 => (if v7 = (0 : Int32) then (some ((-2 : Int32), t8)) else (if b = (0 : Int32) then (bnd (FX8_bagGoing x4 c t8) (fun v18 t19 => (some (v18, t19)))) else (if b = (1 : Int32) then (bnd (FX8_bagTaken x4 c t8) (fun v14 t15 => (some (v14, t15)))) else (some ((-2 : Int32), t8))))))))))))
set_option maxHeartbeats 4000000 in
set_option maxRecDepth 100000 in
theorem KX11_bag (G : xG) (Gb : xMem) (a : Int32) (b : Int32) (c : Int32) (σ : St) (r0 : Int32) (t0 : St) (hq : FX11_bag a b c σ = some (r0, t0)) : xC G mX11_bag 2 0 0 [.ref 0, .int a, .int b, .int c] (mem σ Gb) (PQ r0 t0 Gb) := by
  unfold FX11_bag at hq
  refine xC.of (by decide) (Nat.le_of_ble_eq_true rfl) ?_
  show xW _ _ _ _ 0 [(0, .ref 0), (1, .int a), (2, .int b), (3, .int c)] [] _ 0 0
  refine xi_aload_n 0 dX11_bag_0 rfl ?_
  refine xi_iload_n 1 dX11_bag_1 rfl ?_
  obtain ⟨v1, t2, k3, hq⟩ := bnd_some hq
  refine xi_callV (as := [.int a]) (rest := []) dX11_bag_2 (KX11_netIn G Gb a _ _ _ k3) mkX11_netIn w_491 ws_15 w_489 (mem_get sh_0) rfl rfl rfl rfl (Nat.le_of_ble_eq_true rfl) (Nat.le_of_ble_eq_true rfl) (Nat.le_of_ble_eq_true rfl) (Nat.le_of_ble_eq_true rfl) (Nat.le_of_ble_eq_true rfl) ?_
  intro v M2 hz
  obtain ⟨rfl, rfl⟩ := hz
  rcases v1 with _ | x4
  · replace hq := oel_n hq
    show xW _ _ _ _ 5 _ [.null] (mem t2 Gb) _ _
    refine xi_astoreN (lv' := [(4, .null), (0, .ref 0), (1, .int a), (2, .int b), (3, .int c)]) dX11_bag_5 (by decide) rfl ?_
    refine xi_aloadN 0 dX11_bag_7 rfl ?_
    refine xi_ifnullN (tgt := 21) dX11_bag_9 (by decide) ?_
    refine xi_bipush (v := (-2)) dX11_bag_21 (by decide) ?_
    have r6 := some_pair hq
    obtain ⟨rfl, rfl⟩ := r6
    exact xi_iret dX11_bag_23 rfl rfl (Nat.le_of_ble_eq_true rfl) (Nat.le_of_ble_eq_true rfl) ⟨rfl, rfl⟩
  · replace hq := oel_s hq
    obtain ⟨g5, hq⟩ := chk_some hq
    show xW _ _ _ _ 5 _ [.ref x4] (mem t2 Gb) _ _
    refine xi_astore (lv' := [(4, .ref x4), (0, .ref 0), (1, .int a), (2, .int b), (3, .int c)]) dX11_bag_5 (by decide) rfl ?_
    refine xi_aload 0 dX11_bag_7 rfl ?_
    refine xi_ifnull dX11_bag_9 ?_
    refine xi_aload 0 dX11_bag_12 rfl ?_
    refine xi_iload_n 4 dX11_bag_14 rfl ?_
    obtain ⟨v7, t8, k9, hq⟩ := bnd_some hq
    refine xi_callV (as := [.int c]) (rest := []) dX11_bag_15 (KX5_has G Gb x4 c _ _ _ k9) mkX5_has w_437 w_438 w_541 (mem_get (netAt_0 g5)) rfl rfl rfl rfl (Nat.le_of_ble_eq_true rfl) (Nat.le_of_ble_eq_true rfl) (Nat.le_of_ble_eq_true rfl) (Nat.le_of_ble_eq_true rfl) (Nat.le_of_ble_eq_true rfl) ?_
    intro v M2 hz
    obtain ⟨rfl, rfl⟩ := hz
    show xW _ _ _ _ 18 _ [.int v7] (mem t8 Gb) _ _
    refine xi_if_ne (tgt := 24) dX11_bag_18 (by decide) (fun c10 => ?_) (fun c10 => ?_)
    · replace hq := ite_n c10 hq
      refine xi_iload_n 3 dX11_bag_24 rfl ?_
      refine xi_if_ne (tgt := 35) dX11_bag_25 (by decide) (fun c11 => ?_) (fun c11 => ?_)
      · replace hq := ite_n c11 hq
        refine xi_iload_n 3 dX11_bag_35 rfl ?_
        refine xi_iconst (v := 1) dX11_bag_36 (by decide) ?_
        refine xi_icmp_ne (tgt := 49) dX11_bag_37 (by decide) (fun c12 => ?_) (fun c12 => ?_)
        · replace hq := ite_n c12 hq
          refine xi_bipush (v := (-2)) dX11_bag_49 (by decide) ?_
          have r13 := some_pair hq
          obtain ⟨rfl, rfl⟩ := r13
          exact xi_iret dX11_bag_51 rfl rfl (Nat.le_of_ble_eq_true rfl) (Nat.le_of_ble_eq_true rfl) ⟨rfl, rfl⟩
        · replace hq := ite_p c12 hq
          refine xi_aload 0 dX11_bag_40 rfl ?_
          refine xi_iload_n 4 dX11_bag_42 rfl ?_
          obtain ⟨v14, t15, k16, hq⟩ := bnd_some hq
          refine xi_callS (as := [.ref x4, .int c]) (rest := []) dX11_bag_43 (KX8_bagTaken G Gb x4 c _ _ _ k16) mkX8_bagTaken w_846 w_845 rfl rfl (Nat.le_of_ble_eq_true rfl) (Nat.le_of_ble_eq_true rfl) (Nat.le_of_ble_eq_true rfl) (Nat.le_of_ble_eq_true rfl) (Nat.le_of_ble_eq_true rfl) ?_
          intro v M2 hz
          obtain ⟨rfl, rfl⟩ := hz
          show xW _ _ _ _ 46 _ [.int v14] (mem t15 Gb) _ _
          refine xi_goto (tgt := 51) dX11_bag_46 (by decide) ?_
          have r17 := some_pair hq
          obtain ⟨rfl, rfl⟩ := r17
          exact xi_iret dX11_bag_51 rfl rfl (Nat.le_of_ble_eq_true rfl) (Nat.le_of_ble_eq_true rfl) ⟨rfl, rfl⟩
      · replace hq := ite_p c11 hq
        refine xi_aload 0 dX11_bag_28 rfl ?_
        refine xi_iload_n 4 dX11_bag_30 rfl ?_
        obtain ⟨v18, t19, k20, hq⟩ := bnd_some hq
        refine xi_callS (as := [.ref x4, .int c]) (rest := []) dX11_bag_31 (KX8_bagGoing G Gb x4 c _ _ _ k20) mkX8_bagGoing w_841 w_840 rfl rfl (Nat.le_of_ble_eq_true rfl) (Nat.le_of_ble_eq_true rfl) (Nat.le_of_ble_eq_true rfl) (Nat.le_of_ble_eq_true rfl) (Nat.le_of_ble_eq_true rfl) ?_
        intro v M2 hz
        obtain ⟨rfl, rfl⟩ := hz
        show xW _ _ _ _ 34 _ [.int v18] (mem t19 Gb) _ _
        have r21 := some_pair hq
        obtain ⟨rfl, rfl⟩ := r21
        exact xi_iret dX11_bag_34 rfl rfl (Nat.le_of_ble_eq_true rfl) (Nat.le_of_ble_eq_true rfl) ⟨rfl, rfl⟩
    · replace hq := ite_p c10 hq
      refine xi_bipush (v := (-2)) dX11_bag_21 (by decide) ?_
      have r22 := some_pair hq
      obtain ⟨rfl, rfl⟩ := r22
      exact xi_iret dX11_bag_23 rfl rfl (Nat.le_of_ble_eq_true rfl) (Nat.le_of_ble_eq_true rfl) ⟨rfl, rfl⟩
noncomputable def FX11_best (a : Int32) (b : Int32) (c : Int32) (σ : St) : Option ((Int32) × St) :=
  (bnd (FX11_findingOf a b σ) (fun v1 t2 => (Option.elim v1 (some ((-2 : Int32), t2)) (fun x4 => (chk (findAt x4) (chk (inb a 3) (chk (netAt (el 10 a)) (bnd (FX5_has (el 10 a) c t2) (fun v9 t10 => (if v9 = (0 : Int32) then (some ((-2 : Int32), t10)) else (chk (inb c 9) (rdb t10 (x4 + 1) (c.toNatClampNeg) (fun v14 => (some (v14, t10)))))))))))))))
set_option maxHeartbeats 4000000 in
set_option maxRecDepth 100000 in
theorem KX11_best (G : xG) (Gb : xMem) (a : Int32) (b : Int32) (c : Int32) (σ : St) (r0 : Int32) (t0 : St) (hq : FX11_best a b c σ = some (r0, t0)) : xC G mX11_best 17 0 0 [.ref 0, .int a, .int b, .int c] (mem σ Gb) (PQ r0 t0 Gb) := by
  unfold FX11_best at hq
  refine xC.of (by decide) (Nat.le_of_ble_eq_true rfl) ?_
  show xW _ _ _ _ 0 [(0, .ref 0), (1, .int a), (2, .int b), (3, .int c)] [] _ 0 0
  refine xi_aload_n 0 dX11_best_0 rfl ?_
  refine xi_iload_n 1 dX11_best_1 rfl ?_
  refine xi_iload_n 2 dX11_best_2 rfl ?_
  obtain ⟨v1, t2, k3, hq⟩ := bnd_some hq
  refine xi_callV (as := [.int a, .int b]) (rest := []) dX11_best_3 (KX11_findingOf G Gb a b _ _ _ k3) mkX11_findingOf w_659 ws_16 w_657 (mem_get sh_0) rfl rfl rfl rfl (Nat.le_of_ble_eq_true rfl) (Nat.le_of_ble_eq_true rfl) (Nat.le_of_ble_eq_true rfl) (Nat.le_of_ble_eq_true rfl) (Nat.le_of_ble_eq_true rfl) ?_
  intro v M2 hz
  obtain ⟨rfl, rfl⟩ := hz
  rcases v1 with _ | x4
  · replace hq := oel_n hq
    show xW _ _ _ _ 6 _ [.null] (mem t2 Gb) _ _
    refine xi_astoreN (lv' := [(4, .null), (0, .ref 0), (1, .int a), (2, .int b), (3, .int c)]) dX11_best_6 (by decide) rfl ?_
    refine xi_aloadN 0 dX11_best_8 rfl ?_
    refine xi_ifnullN (tgt := 26) dX11_best_10 (by decide) ?_
    refine xi_bipush (v := (-2)) dX11_best_26 (by decide) ?_
    refine xi_goto (tgt := 38) dX11_best_28 (by decide) ?_
    have r6 := some_pair hq
    obtain ⟨rfl, rfl⟩ := r6
    exact xi_iret dX11_best_38 rfl rfl (Nat.le_of_ble_eq_true rfl) (Nat.le_of_ble_eq_true rfl) ⟨rfl, rfl⟩
  · replace hq := oel_s hq
    obtain ⟨g5, hq⟩ := chk_some hq
    show xW _ _ _ _ 6 _ [.ref x4] (mem t2 Gb) _ _
    refine xi_astore (lv' := [(4, .ref x4), (0, .ref 0), (1, .int a), (2, .int b), (3, .int c)]) dX11_best_6 (by decide) rfl ?_
    refine xi_aload 0 dX11_best_8 rfl ?_
    refine xi_ifnull dX11_best_10 ?_
    refine xi_aload_n 1 dX11_best_13 rfl ?_
    refine yi_getR (f := 3) dX11_best_14 sh_0 rfl ok_8 (by decide) w_245 rfl ?_
    refine xi_iload_n 2 dX11_best_17 rfl ?_
    obtain ⟨g7, hq⟩ := chk_some hq
    refine yi_aaload dX11_best_18 sh_10 rfl rfl g7 ?_
    obtain ⟨g8, hq⟩ := chk_some hq
    refine xi_iload_n 4 dX11_best_19 rfl ?_
    obtain ⟨v9, t10, k11, hq⟩ := bnd_some hq
    refine xi_callV (as := [.int c]) (rest := []) dX11_best_20 (KX5_has G Gb (el 10 a) c _ _ _ k11) mkX5_has w_437 w_438 w_541 (mem_get (netAt_0 g8)) rfl rfl rfl rfl (Nat.le_of_ble_eq_true rfl) (Nat.le_of_ble_eq_true rfl) (Nat.le_of_ble_eq_true rfl) (Nat.le_of_ble_eq_true rfl) (Nat.le_of_ble_eq_true rfl) ?_
    intro v M2 hz
    obtain ⟨rfl, rfl⟩ := hz
    show xW _ _ _ _ 23 _ [.int v9] (mem t10 Gb) _ _
    refine xi_if_ne (tgt := 31) dX11_best_23 (by decide) (fun c12 => ?_) (fun c12 => ?_)
    · replace hq := ite_n c12 hq
      refine xi_aload 0 dX11_best_31 rfl ?_
      refine yi_getR (f := 4) dX11_best_33 (findAt_0 g5) rfl ok_2 (by decide) w_157 rfl ?_
      refine xi_iload_n 4 dX11_best_36 rfl ?_
      obtain ⟨g13, hq⟩ := chk_some hq
      obtain ⟨v14, h15, hq⟩ := rdb_some hq
      refine yi_ialoadV dX11_best_37 (findAt_1 g5) g13 h15 ?_
      have r16 := some_pair hq
      obtain ⟨rfl, rfl⟩ := r16
      exact xi_iret dX11_best_38 rfl rfl (Nat.le_of_ble_eq_true rfl) (Nat.le_of_ble_eq_true rfl) ⟨rfl, rfl⟩
    · replace hq := ite_p c12 hq
      refine xi_bipush (v := (-2)) dX11_best_26 (by decide) ?_
      refine xi_goto (tgt := 38) dX11_best_28 (by decide) ?_
      have r17 := some_pair hq
      obtain ⟨rfl, rfl⟩ := r17
      exact xi_iret dX11_best_38 rfl rfl (Nat.le_of_ble_eq_true rfl) (Nat.le_of_ble_eq_true rfl) ⟨rfl, rfl⟩
noncomputable def FX11_bound (a : Int32) (b : Int32) (c : Int32) (σ : St) : Option ((Int32) × St) :=
  (bnd (FX11_netIn a σ) (fun v1 t2 => (Option.elim v1 (some ((-2 : Int32), t2)) (fun x4 => (chk (netAt x4) (bnd (FX11_isBounded b t2) (fun v7 t8 => (if v7 = (0 : Int32) then (some ((-2 : Int32), t8)) else (if c = (1 : Int32) then (if b = (2 : Int32) then (bnd (FX10_ballBound x4 t8) (fun v25 t26 => (some (v25, t26)))) else (if c = (0 : Int32) then (bnd (FX10_lineBound x4 b t8) (fun v21 t22 => (some (v21, t22)))) else (some ((-2 : Int32), t8)))) else (if c = (0 : Int32) then (bnd (FX10_lineBound x4 b t8) (fun v14 t15 => (some (v14, t15)))) else (some ((-2 : Int32), t8))))))))))))
set_option maxHeartbeats 4000000 in
set_option maxRecDepth 100000 in
theorem KX11_bound (G : xG) (Gb : xMem) (a : Int32) (b : Int32) (c : Int32) (σ : St) (r0 : Int32) (t0 : St) (hq : FX11_bound a b c σ = some (r0, t0)) : xC G mX11_bound 4 0 0 [.ref 0, .int a, .int b, .int c] (mem σ Gb) (PQ r0 t0 Gb) := by
  unfold FX11_bound at hq
  refine xC.of (by decide) (Nat.le_of_ble_eq_true rfl) ?_
  show xW _ _ _ _ 0 [(0, .ref 0), (1, .int a), (2, .int b), (3, .int c)] [] _ 0 0
  refine xi_aload_n 0 dX11_bound_0 rfl ?_
  refine xi_iload_n 1 dX11_bound_1 rfl ?_
  obtain ⟨v1, t2, k3, hq⟩ := bnd_some hq
  refine xi_callV (as := [.int a]) (rest := []) dX11_bound_2 (KX11_netIn G Gb a _ _ _ k3) mkX11_netIn w_491 ws_15 w_489 (mem_get sh_0) rfl rfl rfl rfl (Nat.le_of_ble_eq_true rfl) (Nat.le_of_ble_eq_true rfl) (Nat.le_of_ble_eq_true rfl) (Nat.le_of_ble_eq_true rfl) (Nat.le_of_ble_eq_true rfl) ?_
  intro v M2 hz
  obtain ⟨rfl, rfl⟩ := hz
  rcases v1 with _ | x4
  · replace hq := oel_n hq
    show xW _ _ _ _ 5 _ [.null] (mem t2 Gb) _ _
    refine xi_astoreN (lv' := [(4, .null), (0, .ref 0), (1, .int a), (2, .int b), (3, .int c)]) dX11_bound_5 (by decide) rfl ?_
    refine xi_aloadN 0 dX11_bound_7 rfl ?_
    refine xi_ifnullN (tgt := 19) dX11_bound_9 (by decide) ?_
    refine xi_bipush (v := (-2)) dX11_bound_19 (by decide) ?_
    have r6 := some_pair hq
    obtain ⟨rfl, rfl⟩ := r6
    exact xi_iret dX11_bound_21 rfl rfl (Nat.le_of_ble_eq_true rfl) (Nat.le_of_ble_eq_true rfl) ⟨rfl, rfl⟩
  · replace hq := oel_s hq
    obtain ⟨g5, hq⟩ := chk_some hq
    show xW _ _ _ _ 5 _ [.ref x4] (mem t2 Gb) _ _
    refine xi_astore (lv' := [(4, .ref x4), (0, .ref 0), (1, .int a), (2, .int b), (3, .int c)]) dX11_bound_5 (by decide) rfl ?_
    refine xi_aload 0 dX11_bound_7 rfl ?_
    refine xi_ifnull dX11_bound_9 ?_
    refine xi_iload_n 3 dX11_bound_12 rfl ?_
    obtain ⟨v7, t8, k9, hq⟩ := bnd_some hq
    refine xi_callS (as := [.int b]) (rest := []) dX11_bound_13 (KX11_isBounded G Gb b _ _ _ k9) mkX11_isBounded w_759 w_758 rfl rfl (Nat.le_of_ble_eq_true rfl) (Nat.le_of_ble_eq_true rfl) (Nat.le_of_ble_eq_true rfl) (Nat.le_of_ble_eq_true rfl) (Nat.le_of_ble_eq_true rfl) ?_
    intro v M2 hz
    obtain ⟨rfl, rfl⟩ := hz
    show xW _ _ _ _ 16 _ [.int v7] (mem t8 Gb) _ _
    refine xi_if_ne (tgt := 22) dX11_bound_16 (by decide) (fun c10 => ?_) (fun c10 => ?_)
    · replace hq := ite_n c10 hq
      refine xi_iload_n 4 dX11_bound_22 rfl ?_
      refine xi_iconst (v := 1) dX11_bound_23 (by decide) ?_
      refine xi_icmp_ne (tgt := 38) dX11_bound_24 (by decide) (fun c11 => ?_) (fun c11 => ?_)
      · replace hq := ite_n c11 hq
        refine xi_iload_n 4 dX11_bound_38 rfl ?_
        refine xi_if_ne (tgt := 51) dX11_bound_39 (by decide) (fun c12 => ?_) (fun c12 => ?_)
        · replace hq := ite_n c12 hq
          refine xi_bipush (v := (-2)) dX11_bound_51 (by decide) ?_
          have r13 := some_pair hq
          obtain ⟨rfl, rfl⟩ := r13
          exact xi_iret dX11_bound_53 rfl rfl (Nat.le_of_ble_eq_true rfl) (Nat.le_of_ble_eq_true rfl) ⟨rfl, rfl⟩
        · replace hq := ite_p c12 hq
          refine xi_aload 0 dX11_bound_42 rfl ?_
          refine xi_iload_n 3 dX11_bound_44 rfl ?_
          obtain ⟨v14, t15, k16, hq⟩ := bnd_some hq
          refine xi_callS (as := [.ref x4, .int b]) (rest := []) dX11_bound_45 (KX10_lineBound G Gb x4 b _ _ _ k16) mkX10_lineBound w_781 w_780 rfl rfl (Nat.le_of_ble_eq_true rfl) (Nat.le_of_ble_eq_true rfl) (Nat.le_of_ble_eq_true rfl) (Nat.le_of_ble_eq_true rfl) (Nat.le_of_ble_eq_true rfl) ?_
          intro v M2 hz
          obtain ⟨rfl, rfl⟩ := hz
          show xW _ _ _ _ 48 _ [.int v14] (mem t15 Gb) _ _
          refine xi_goto (tgt := 53) dX11_bound_48 (by decide) ?_
          have r17 := some_pair hq
          obtain ⟨rfl, rfl⟩ := r17
          exact xi_iret dX11_bound_53 rfl rfl (Nat.le_of_ble_eq_true rfl) (Nat.le_of_ble_eq_true rfl) ⟨rfl, rfl⟩
      · replace hq := ite_p c11 hq
        refine xi_iload_n 3 dX11_bound_27 rfl ?_
        refine xi_iconst (v := 2) dX11_bound_28 (by decide) ?_
        refine xi_icmp_ne (tgt := 38) dX11_bound_29 (by decide) (fun c18 => ?_) (fun c18 => ?_)
        · replace hq := ite_n c18 hq
          refine xi_iload_n 4 dX11_bound_38 rfl ?_
          refine xi_if_ne (tgt := 51) dX11_bound_39 (by decide) (fun c19 => ?_) (fun c19 => ?_)
          · replace hq := ite_n c19 hq
            refine xi_bipush (v := (-2)) dX11_bound_51 (by decide) ?_
            have r20 := some_pair hq
            obtain ⟨rfl, rfl⟩ := r20
            exact xi_iret dX11_bound_53 rfl rfl (Nat.le_of_ble_eq_true rfl) (Nat.le_of_ble_eq_true rfl) ⟨rfl, rfl⟩
          · replace hq := ite_p c19 hq
            refine xi_aload 0 dX11_bound_42 rfl ?_
            refine xi_iload_n 3 dX11_bound_44 rfl ?_
            obtain ⟨v21, t22, k23, hq⟩ := bnd_some hq
            refine xi_callS (as := [.ref x4, .int b]) (rest := []) dX11_bound_45 (KX10_lineBound G Gb x4 b _ _ _ k23) mkX10_lineBound w_781 w_780 rfl rfl (Nat.le_of_ble_eq_true rfl) (Nat.le_of_ble_eq_true rfl) (Nat.le_of_ble_eq_true rfl) (Nat.le_of_ble_eq_true rfl) (Nat.le_of_ble_eq_true rfl) ?_
            intro v M2 hz
            obtain ⟨rfl, rfl⟩ := hz
            show xW _ _ _ _ 48 _ [.int v21] (mem t22 Gb) _ _
            refine xi_goto (tgt := 53) dX11_bound_48 (by decide) ?_
            have r24 := some_pair hq
            obtain ⟨rfl, rfl⟩ := r24
            exact xi_iret dX11_bound_53 rfl rfl (Nat.le_of_ble_eq_true rfl) (Nat.le_of_ble_eq_true rfl) ⟨rfl, rfl⟩
        · replace hq := ite_p c18 hq
          refine xi_aload 0 dX11_bound_32 rfl ?_
          obtain ⟨v25, t26, k27, hq⟩ := bnd_some hq
          refine xi_callS (as := [.ref x4]) (rest := []) dX11_bound_34 (KX10_ballBound G Gb x4 _ _ _ k27) mkX10_ballBound w_778 w_777 rfl rfl (Nat.le_of_ble_eq_true rfl) (Nat.le_of_ble_eq_true rfl) (Nat.le_of_ble_eq_true rfl) (Nat.le_of_ble_eq_true rfl) (Nat.le_of_ble_eq_true rfl) ?_
          intro v M2 hz
          obtain ⟨rfl, rfl⟩ := hz
          show xW _ _ _ _ 37 _ [.int v25] (mem t26 Gb) _ _
          have r28 := some_pair hq
          obtain ⟨rfl, rfl⟩ := r28
          exact xi_iret dX11_bound_37 rfl rfl (Nat.le_of_ble_eq_true rfl) (Nat.le_of_ble_eq_true rfl) ⟨rfl, rfl⟩
    · replace hq := ite_p c10 hq
      refine xi_bipush (v := (-2)) dX11_bound_19 (by decide) ?_
      have r29 := some_pair hq
      obtain ⟨rfl, rfl⟩ := r29
      exact xi_iret dX11_bound_21 rfl rfl (Nat.le_of_ble_eq_true rfl) (Nat.le_of_ble_eq_true rfl) ⟨rfl, rfl⟩
noncomputable def SX11_filledSlots_4 (c : Int32 × Int32) (σ : St) : Option (((Int32 × Int32) ⊕ (Int32)) × St) :=
  (if (3 : Int32) ≤ c.2 then (some (Sum.inr c.1, σ)) else (chk (inb c.2 3) (chk (netAt (el 10 c.2)) (rdb σ (el 10 c.2) (0) (fun v4 => (bnd (if v4 ≤ (0 : Int32) then (some (c.1, σ)) else (some ((c.1 ||| (shl (1 : Int32) c.2)), σ))) (fun v7 t8 => (some (Sum.inl (v7, (c.2 + 1)), t8)))))))))
set_option maxHeartbeats 4000000 in
set_option maxRecDepth 100000 in
theorem SX11_filledSlots_4_w (G : xG) (Gb : xMem) (r0 : Int32) (t0 : St) :
    ∀ (k : Nat) (c : Int32 × Int32) (σ : St) (r : Int32) (σ' : St), itr (SX11_filledSlots_4) k c σ = some (r, σ') → (xW G mX11_filledSlots (xrm 0 0 0) (xQ G (PQ r0 t0 Gb) 0 0) 33 [(1, .int r)] [] (mem σ' Gb) 0 0) → xW G mX11_filledSlots (xrm 0 0 0) (xQ G (PQ r0 t0 Gb) 0 0) 4 [(0, .ref 0), (1, .int c.1), (2, .int c.2)] [] (mem σ Gb) 0 0 := by
  intro k
  induction k with
  | zero =>
    intro c σ r σ' h
    exact absurd h (itr_zero _ _ _ _)
  | succ k ih =>
    intro c σ r σ' h HE
    obtain ⟨x, s1, hs, h⟩ := itr_succ h
    unfold SX11_filledSlots_4 at hs
    refine xi_iload_n 2 dX11_filledSlots_4 rfl ?_
    refine xi_iconst (v := 3) dX11_filledSlots_5 (by decide) ?_
    refine xi_icmp_ge (tgt := 33) dX11_filledSlots_6 (by decide) (fun c1 => ?_) (fun c1 => ?_)
    · replace hs := ite_p c1 hs
      refine xi_sub (lv' := [(1, .int c.1)]) [1] rfl ?_
      obtain ⟨rfl, rfl⟩ := some_pair hs
      obtain ⟨rfl, rfl⟩ := some_pair h
      exact HE
    · replace hs := ite_n c1 hs
      refine xi_aload_n 0 dX11_filledSlots_9 rfl ?_
      refine yi_getR (f := 3) dX11_filledSlots_10 sh_0 rfl ok_8 (by decide) w_245 rfl ?_
      refine xi_iload_n 2 dX11_filledSlots_13 rfl ?_
      obtain ⟨g2, hs⟩ := chk_some hs
      refine yi_aaload dX11_filledSlots_14 sh_10 rfl rfl g2 ?_
      obtain ⟨g3, hs⟩ := chk_some hs
      obtain ⟨v4, h5, hs⟩ := rdb_some hs
      refine yi_getV (f := 0) dX11_filledSlots_15 (netAt_0 g3) rfl ok_5 (by decide) w_66 rfl h5 ?_
      obtain ⟨v7, t8, m9, hs⟩ := bnd_some hs
      have key10 : xW G mX11_filledSlots (xrm 0 0 0) (xQ G (PQ r0 t0 Gb) 0 0) 27 [(0, .ref 0), (1, .int v7), (2, .int c.2)] [] (mem t8 Gb) 0 0 := by
        refine xi_iinc (v := (c.2 + 1)) (lv' := [(2, .int (c.2 + 1)), (0, .ref 0), (1, .int v7)]) 2 dX11_filledSlots_27 rfl rfl (by decide) rfl ?_
        refine xi_goto (tgt := 4) dX11_filledSlots_30 (by decide) ?_
        refine xi_sub (lv' := [(0, .ref 0), (1, .int v7), (2, .int (c.2 + 1))]) [1, 2, 0] rfl ?_
        obtain ⟨rfl, rfl⟩ := some_pair hs
        exact ih (v7, (c.2 + 1)) t8 _ _ h HE
      refine xi_if_le (tgt := 27) dX11_filledSlots_18 (by decide) (fun c6 => ?_) (fun c6 => ?_)
      · replace m9 := ite_p c6 m9
        obtain ⟨rfl, rfl⟩ := some_pair m9
        exact key10
      · replace m9 := ite_n c6 m9
        refine xi_iload_n 1 dX11_filledSlots_21 rfl ?_
        refine xi_iconst (v := 1) dX11_filledSlots_22 (by decide) ?_
        refine xi_iload_n 2 dX11_filledSlots_23 rfl ?_
        refine xi_ishl (v := shl (1 : Int32) c.2) dX11_filledSlots_24 rfl ?_
        refine xi_ior (v := c.1 ||| (shl (1 : Int32) c.2)) dX11_filledSlots_25 rfl ?_
        refine xi_istore_n (lv' := [(1, .int (c.1 ||| (shl (1 : Int32) c.2))), (0, .ref 0), (2, .int c.2)]) dX11_filledSlots_26 (by decide) rfl ?_
        obtain ⟨rfl, rfl⟩ := some_pair m9
        refine xi_sub (lv' := [(0, .ref 0), (1, .int (c.1 ||| (shl (1 : Int32) c.2))), (2, .int c.2)]) [1, 0, 2] rfl ?_
        exact key10
noncomputable def FX11_filledSlots (σ : St) : Option ((Int32) × St) :=
  (bnd (wh (SX11_filledSlots_4) ((0 : Int32), (0 : Int32)) σ) (fun e11 t12 => (some (e11, t12))))
set_option maxHeartbeats 4000000 in
set_option maxRecDepth 100000 in
theorem KX11_filledSlots (G : xG) (Gb : xMem) (σ : St) (r0 : Int32) (t0 : St) (hq : FX11_filledSlots σ = some (r0, t0)) : xC G mX11_filledSlots 0 0 0 [.ref 0] (mem σ Gb) (PQ r0 t0 Gb) := by
  unfold FX11_filledSlots at hq
  refine xC.of (by decide) (Nat.le_of_ble_eq_true rfl) ?_
  show xW _ _ _ _ 0 [(0, .ref 0)] [] _ 0 0
  refine xi_iconst (v := 0) dX11_filledSlots_0 (by decide) ?_
  refine xi_istore_n (lv' := [(1, .int 0), (0, .ref 0)]) dX11_filledSlots_1 (by decide) rfl ?_
  refine xi_iconst (v := 0) dX11_filledSlots_2 (by decide) ?_
  refine xi_istore_n (lv' := [(2, .int 0), (1, .int 0), (0, .ref 0)]) dX11_filledSlots_3 (by decide) rfl ?_
  refine xi_sub (lv' := [(0, .ref 0), (1, .int 0), (2, .int 0)]) [2, 1, 0] rfl ?_
  obtain ⟨e11, t12, k13, hq⟩ := bnd_some hq
  obtain ⟨n14, k13⟩ := wh_itr k13
  refine SX11_filledSlots_4_w G Gb r0 t0 n14 ((0 : Int32), (0 : Int32)) σ _ _ k13 ?_
  show xW G mX11_filledSlots (xrm 0 0 0) (xQ G (PQ r0 t0 Gb) 0 0) 33 [(1, .int e11)] [] (mem t12 Gb) 0 0
  refine xi_iload_n 0 dX11_filledSlots_33 rfl ?_
  have r15 := some_pair hq
  obtain ⟨rfl, rfl⟩ := r15
  exact xi_iret dX11_filledSlots_34 rfl rfl (Nat.le_of_ble_eq_true rfl) (Nat.le_of_ble_eq_true rfl) ⟨rfl, rfl⟩
noncomputable def FX11_count (a : Int32) (σ : St) : Option ((Int32) × St) :=
  (if a = 0 then (bnd (FX11_filledSlots  σ) (fun v2 t3 => (some (v2, t3)))) else (if a = 1 then (rdb σ 98 (0) (fun v7 => (some (v7, σ)))) else (if a = 2 then (rdb σ 1 (1) (fun v11 => (some (v11, σ)))) else (if a = 3 then (rdb σ 3 (1) (fun v15 => (some (v15, σ)))) else (some ((-1 : Int32), σ))))))
set_option maxHeartbeats 4000000 in
set_option maxRecDepth 100000 in
theorem KX11_count (G : xG) (Gb : xMem) (a : Int32) (σ : St) (r0 : Int32) (t0 : St) (hq : FX11_count a σ = some (r0, t0)) : xC G mX11_count 1 0 0 [.ref 0, .int a] (mem σ Gb) (PQ r0 t0 Gb) := by
  unfold FX11_count at hq
  refine xC.of (by decide) (Nat.le_of_ble_eq_true rfl) ?_
  show xW _ _ _ _ 0 [(0, .ref 0), (1, .int a)] [] _ 0 0
  refine xi_iload_n 1 dX11_count_0 rfl ?_
  by_cases c1 : a = 0
  · replace hq := ite_p c1 hq
    refine xi_tableIn (off := 31) (tgt := 32) dX11_count_1 (by rw [c1]; decide) (by rw [c1]; decide) (by rw [c1]; decide) (by decide) ?_
    refine xi_aload_n 0 dX11_count_32 rfl ?_
    obtain ⟨v2, t3, k4, hq⟩ := bnd_some hq
    refine xi_callV (as := []) (rest := []) dX11_count_33 (KX11_filledSlots G Gb  _ _ _ k4) mkX11_filledSlots w_483 ws_14 w_481 (mem_get sh_0) rfl rfl rfl rfl (Nat.le_of_ble_eq_true rfl) (Nat.le_of_ble_eq_true rfl) (Nat.le_of_ble_eq_true rfl) (Nat.le_of_ble_eq_true rfl) (Nat.le_of_ble_eq_true rfl) ?_
    intro v M2 hz
    obtain ⟨rfl, rfl⟩ := hz
    show xW _ _ _ _ 36 _ [.int v2] (mem t3 Gb) _ _
    have r5 := some_pair hq
    obtain ⟨rfl, rfl⟩ := r5
    exact xi_iret dX11_count_36 rfl rfl (Nat.le_of_ble_eq_true rfl) (Nat.le_of_ble_eq_true rfl) ⟨rfl, rfl⟩
  replace hq := ite_n c1 hq
  by_cases c6 : a = 1
  · replace hq := ite_p c6 hq
    refine xi_tableIn (off := 36) (tgt := 37) dX11_count_1 (by rw [c6]; decide) (by rw [c6]; decide) (by rw [c6]; decide) (by decide) ?_
    refine xi_aload_n 0 dX11_count_37 rfl ?_
    refine yi_getR (f := 7) dX11_count_38 sh_0 rfl ok_8 (by decide) w_249 rfl ?_
    obtain ⟨v7, h8, hq⟩ := rdb_some hq
    refine yi_getV (f := 0) dX11_count_41 sh_98 rfl ok_4 (by decide) w_229 rfl h8 ?_
    have r9 := some_pair hq
    obtain ⟨rfl, rfl⟩ := r9
    exact xi_iret dX11_count_44 rfl rfl (Nat.le_of_ble_eq_true rfl) (Nat.le_of_ble_eq_true rfl) ⟨rfl, rfl⟩
  replace hq := ite_n c6 hq
  by_cases c10 : a = 2
  · replace hq := ite_p c10 hq
    refine xi_tableIn (off := 44) (tgt := 45) dX11_count_1 (by rw [c10]; decide) (by rw [c10]; decide) (by rw [c10]; decide) (by decide) ?_
    refine xi_aload_n 0 dX11_count_45 rfl ?_
    refine yi_getR (f := 0) dX11_count_46 sh_0 rfl ok_8 (by decide) w_242 rfl ?_
    obtain ⟨v11, h12, hq⟩ := rdb_some hq
    refine yi_getV (f := 1) dX11_count_49 sh_1 rfl ok_1 (by decide) w_41 rfl h12 ?_
    have r13 := some_pair hq
    obtain ⟨rfl, rfl⟩ := r13
    exact xi_iret dX11_count_52 rfl rfl (Nat.le_of_ble_eq_true rfl) (Nat.le_of_ble_eq_true rfl) ⟨rfl, rfl⟩
  replace hq := ite_n c10 hq
  by_cases c14 : a = 3
  · replace hq := ite_p c14 hq
    refine xi_tableIn (off := 52) (tgt := 53) dX11_count_1 (by rw [c14]; decide) (by rw [c14]; decide) (by rw [c14]; decide) (by decide) ?_
    refine xi_aload_n 0 dX11_count_53 rfl ?_
    refine yi_getR (f := 1) dX11_count_54 sh_0 rfl ok_8 (by decide) w_243 rfl ?_
    obtain ⟨v15, h16, hq⟩ := rdb_some hq
    refine yi_getV (f := 1) dX11_count_57 sh_3 rfl ok_1 (by decide) w_41 rfl h16 ?_
    have r17 := some_pair hq
    obtain ⟨rfl, rfl⟩ := r17
    exact xi_iret dX11_count_60 rfl rfl (Nat.le_of_ble_eq_true rfl) (Nat.le_of_ble_eq_true rfl) ⟨rfl, rfl⟩
  replace hq := ite_n c14 hq
  have tc1 : a.toInt ≠ 0 := fun e => c1 (Int32.toInt_inj.mp (by rw [e]; decide))
  have tc6 : a.toInt ≠ 1 := fun e => c6 (Int32.toInt_inj.mp (by rw [e]; decide))
  have tc10 : a.toInt ≠ 2 := fun e => c10 (Int32.toInt_inj.mp (by rw [e]; decide))
  have tc14 : a.toInt ≠ 3 := fun e => c14 (Int32.toInt_inj.mp (by rw [e]; decide))
  refine xi_tableOut (tgt := 61) dX11_count_1 (by omega) (by decide) ?_
  refine xi_iconst (v := (-1)) dX11_count_61 (by decide) ?_
  have r18 := some_pair hq
  obtain ⟨rfl, rfl⟩ := r18
  exact xi_iret dX11_count_62 rfl rfl (Nat.le_of_ble_eq_true rfl) (Nat.le_of_ble_eq_true rfl) ⟨rfl, rfl⟩
noncomputable def FX11_cuts (a : Int32) (b : Int32) (c : Int32) (σ : St) : Option ((Int32) × St) :=
  (bnd (FX11_netIn a σ) (fun v1 t2 => (Option.elim v1 (some ((-2 : Int32), t2)) (fun x4 => (chk (netAt x4) (bnd (FX5_hasTwo x4 b c t2) (fun v7 t8 => (if v7 = (0 : Int32) then (some ((-2 : Int32), t8)) else (bnd (FX5_weightOf x4 b c t8) (fun v11 t12 => (if v11 = (0 : Int32) then (some ((-6 : Int32), t12)) else (bnd (FX5_copyFrom 141 x4 t12) (fun v15 t16 => (bnd (FX5_setWeight x4 b c (0 : Int32) t16) (fun v18 t19 => (bnd (FX11_noteAct a t19) (fun v21 t22 => (some (v11, t22)))))))))))))))))))
set_option maxHeartbeats 4000000 in
set_option maxRecDepth 100000 in
theorem KX11_cuts (G : xG) (Gb : xMem) (a : Int32) (b : Int32) (c : Int32) (σ : St) (r0 : Int32) (t0 : St) (hq : FX11_cuts a b c σ = some (r0, t0)) : xC G mX11_cuts 4 0 0 [.ref 0, .int a, .int b, .int c] (mem σ Gb) (PQ r0 t0 Gb) := by
  unfold FX11_cuts at hq
  refine xC.of (by decide) (Nat.le_of_ble_eq_true rfl) ?_
  show xW _ _ _ _ 0 [(0, .ref 0), (1, .int a), (2, .int b), (3, .int c)] [] _ 0 0
  refine xi_aload_n 0 dX11_cuts_0 rfl ?_
  refine xi_iload_n 1 dX11_cuts_1 rfl ?_
  obtain ⟨v1, t2, k3, hq⟩ := bnd_some hq
  refine xi_callV (as := [.int a]) (rest := []) dX11_cuts_2 (KX11_netIn G Gb a _ _ _ k3) mkX11_netIn w_491 ws_15 w_489 (mem_get sh_0) rfl rfl rfl rfl (Nat.le_of_ble_eq_true rfl) (Nat.le_of_ble_eq_true rfl) (Nat.le_of_ble_eq_true rfl) (Nat.le_of_ble_eq_true rfl) (Nat.le_of_ble_eq_true rfl) ?_
  intro v M2 hz
  obtain ⟨rfl, rfl⟩ := hz
  rcases v1 with _ | x4
  · replace hq := oel_n hq
    show xW _ _ _ _ 5 _ [.null] (mem t2 Gb) _ _
    refine xi_astoreN (lv' := [(4, .null), (0, .ref 0), (1, .int a), (2, .int b), (3, .int c)]) dX11_cuts_5 (by decide) rfl ?_
    refine xi_aloadN 0 dX11_cuts_7 rfl ?_
    refine xi_ifnullN (tgt := 22) dX11_cuts_9 (by decide) ?_
    refine xi_bipush (v := (-2)) dX11_cuts_22 (by decide) ?_
    have r6 := some_pair hq
    obtain ⟨rfl, rfl⟩ := r6
    exact xi_iret dX11_cuts_24 rfl rfl (Nat.le_of_ble_eq_true rfl) (Nat.le_of_ble_eq_true rfl) ⟨rfl, rfl⟩
  · replace hq := oel_s hq
    obtain ⟨g5, hq⟩ := chk_some hq
    show xW _ _ _ _ 5 _ [.ref x4] (mem t2 Gb) _ _
    refine xi_astore (lv' := [(4, .ref x4), (0, .ref 0), (1, .int a), (2, .int b), (3, .int c)]) dX11_cuts_5 (by decide) rfl ?_
    refine xi_aload 0 dX11_cuts_7 rfl ?_
    refine xi_ifnull dX11_cuts_9 ?_
    refine xi_aload 0 dX11_cuts_12 rfl ?_
    refine xi_iload_n 3 dX11_cuts_14 rfl ?_
    refine xi_iload_n 4 dX11_cuts_15 rfl ?_
    obtain ⟨v7, t8, k9, hq⟩ := bnd_some hq
    refine xi_callV (as := [.int b, .int c]) (rest := []) dX11_cuts_16 (KX5_hasTwo G Gb x4 b c _ _ _ k9) mkX5_hasTwo w_937 w_938 w_936 (mem_get (netAt_0 g5)) rfl rfl rfl rfl (Nat.le_of_ble_eq_true rfl) (Nat.le_of_ble_eq_true rfl) (Nat.le_of_ble_eq_true rfl) (Nat.le_of_ble_eq_true rfl) (Nat.le_of_ble_eq_true rfl) ?_
    intro v M2 hz
    obtain ⟨rfl, rfl⟩ := hz
    show xW _ _ _ _ 19 _ [.int v7] (mem t8 Gb) _ _
    refine xi_if_ne (tgt := 25) dX11_cuts_19 (by decide) (fun c10 => ?_) (fun c10 => ?_)
    · replace hq := ite_n c10 hq
      refine xi_aload 0 dX11_cuts_25 rfl ?_
      refine xi_iload_n 3 dX11_cuts_27 rfl ?_
      refine xi_iload_n 4 dX11_cuts_28 rfl ?_
      obtain ⟨v11, t12, k13, hq⟩ := bnd_some hq
      refine xi_callV (as := [.int b, .int c]) (rest := []) dX11_cuts_29 (KX5_weightOf G Gb x4 b c _ _ _ k13) mkX5_weightOf w_415 w_416 w_546 (mem_get (netAt_0 g5)) rfl rfl rfl rfl (Nat.le_of_ble_eq_true rfl) (Nat.le_of_ble_eq_true rfl) (Nat.le_of_ble_eq_true rfl) (Nat.le_of_ble_eq_true rfl) (Nat.le_of_ble_eq_true rfl) ?_
      intro v M2 hz
      obtain ⟨rfl, rfl⟩ := hz
      show xW _ _ _ _ 32 _ [.int v11] (mem t12 Gb) _ _
      refine xi_istore (lv' := [(5, .int v11), (4, .ref x4), (0, .ref 0), (1, .int a), (2, .int b), (3, .int c)]) dX11_cuts_32 (by decide) rfl ?_
      refine xi_iload 0 dX11_cuts_34 rfl ?_
      refine xi_if_ne (tgt := 42) dX11_cuts_36 (by decide) (fun c14 => ?_) (fun c14 => ?_)
      · replace hq := ite_n c14 hq
        refine xi_aload_n 2 dX11_cuts_42 rfl ?_
        refine yi_getR (f := 8) dX11_cuts_43 sh_0 rfl ok_8 (by decide) w_250 rfl ?_
        refine xi_aload 1 dX11_cuts_46 rfl ?_
        obtain ⟨v15, t16, k17, hq⟩ := bnd_some hq
        refine xi_callV (as := [.ref x4]) (rest := []) dX11_cuts_48 (KX5_copyFrom G Gb 141 x4 _ _ _ k17) mkX5_copyFrom w_445 w_446 w_444 (mem_get sh_141) rfl rfl rfl rfl (Nat.le_of_ble_eq_true rfl) (Nat.le_of_ble_eq_true rfl) (Nat.le_of_ble_eq_true rfl) (Nat.le_of_ble_eq_true rfl) (Nat.le_of_ble_eq_true rfl) ?_
        intro v M2 hz
        obtain ⟨rfl, rfl⟩ := hz
        show xW _ _ _ _ 51 _ [] (mem t16 Gb) _ _
        refine xi_aload 1 dX11_cuts_51 rfl ?_
        refine xi_iload_n 4 dX11_cuts_53 rfl ?_
        refine xi_iload_n 5 dX11_cuts_54 rfl ?_
        refine xi_iconst (v := 0) dX11_cuts_55 (by decide) ?_
        obtain ⟨v18, t19, k20, hq⟩ := bnd_some hq
        refine xi_callV (as := [.int b, .int c, .int 0]) (rest := []) dX11_cuts_56 (KX5_setWeight G Gb x4 b c (0 : Int32) _ _ _ k20) mkX5_setWeight w_423 w_424 w_941 (mem_get (netAt_0 g5)) rfl rfl rfl rfl (Nat.le_of_ble_eq_true rfl) (Nat.le_of_ble_eq_true rfl) (Nat.le_of_ble_eq_true rfl) (Nat.le_of_ble_eq_true rfl) (Nat.le_of_ble_eq_true rfl) ?_
        intro v M2 hz
        obtain ⟨rfl, rfl⟩ := hz
        show xW _ _ _ _ 59 _ [] (mem t19 Gb) _ _
        refine xi_aload_n 2 dX11_cuts_59 rfl ?_
        refine xi_iload_n 3 dX11_cuts_60 rfl ?_
        obtain ⟨v21, t22, k23, hq⟩ := bnd_some hq
        refine xi_callV (as := [.int a]) (rest := []) dX11_cuts_61 (KX11_noteAct G Gb a _ _ _ k23) mkX11_noteAct w_453 ws_13 w_451 (mem_get sh_0) rfl rfl rfl rfl (Nat.le_of_ble_eq_true rfl) (Nat.le_of_ble_eq_true rfl) (Nat.le_of_ble_eq_true rfl) (Nat.le_of_ble_eq_true rfl) (Nat.le_of_ble_eq_true rfl) ?_
        intro v M2 hz
        obtain ⟨rfl, rfl⟩ := hz
        show xW _ _ _ _ 64 _ [] (mem t22 Gb) _ _
        refine xi_iload 0 dX11_cuts_64 rfl ?_
        have r24 := some_pair hq
        obtain ⟨rfl, rfl⟩ := r24
        exact xi_iret dX11_cuts_66 rfl rfl (Nat.le_of_ble_eq_true rfl) (Nat.le_of_ble_eq_true rfl) ⟨rfl, rfl⟩
      · replace hq := ite_p c14 hq
        refine xi_bipush (v := (-6)) dX11_cuts_39 (by decide) ?_
        have r25 := some_pair hq
        obtain ⟨rfl, rfl⟩ := r25
        exact xi_iret dX11_cuts_41 rfl rfl (Nat.le_of_ble_eq_true rfl) (Nat.le_of_ble_eq_true rfl) ⟨rfl, rfl⟩
    · replace hq := ite_p c10 hq
      refine xi_bipush (v := (-2)) dX11_cuts_22 (by decide) ?_
      have r26 := some_pair hq
      obtain ⟨rfl, rfl⟩ := r26
      exact xi_iret dX11_cuts_24 rfl rfl (Nat.le_of_ble_eq_true rfl) (Nat.le_of_ble_eq_true rfl) ⟨rfl, rfl⟩
noncomputable def FX11_drops (a : Int32) (σ : St) : Option ((Int32) × St) :=
  (bnd (FX11_isSlot a σ) (fun v1 t2 => (if v1 = (0 : Int32) then (some ((-2 : Int32), t2)) else (chk (inb a 3) (chk (netAt (el 10 a)) (rdb t2 (el 10 a) (0) (fun v7 => (if v7 = (0 : Int32) then (some ((0 : Int32), t2)) else (bnd (FX5_copyFrom 141 (el 10 a) t2) (fun v10 t11 => (bnd (FX5_begin (el 10 a) (0 : Int32) t11) (fun v13 t14 => (bnd (FX11_noteAct a t14) (fun v16 t17 => (some ((1 : Int32), t17))))))))))))))))
set_option maxHeartbeats 4000000 in
set_option maxRecDepth 100000 in
theorem KX11_drops (G : xG) (Gb : xMem) (a : Int32) (σ : St) (r0 : Int32) (t0 : St) (hq : FX11_drops a σ = some (r0, t0)) : xC G mX11_drops 4 0 0 [.ref 0, .int a] (mem σ Gb) (PQ r0 t0 Gb) := by
  unfold FX11_drops at hq
  refine xC.of (by decide) (Nat.le_of_ble_eq_true rfl) ?_
  show xW _ _ _ _ 0 [(0, .ref 0), (1, .int a)] [] _ 0 0
  refine xi_iload_n 1 dX11_drops_0 rfl ?_
  obtain ⟨v1, t2, k3, hq⟩ := bnd_some hq
  refine xi_callS (as := [.int a]) (rest := []) dX11_drops_1 (KX11_isSlot G Gb a _ _ _ k3) mkX11_isSlot w_299 w_298 rfl rfl (Nat.le_of_ble_eq_true rfl) (Nat.le_of_ble_eq_true rfl) (Nat.le_of_ble_eq_true rfl) (Nat.le_of_ble_eq_true rfl) (Nat.le_of_ble_eq_true rfl) ?_
  intro v M2 hz
  obtain ⟨rfl, rfl⟩ := hz
  show xW _ _ _ _ 4 _ [.int v1] (mem t2 Gb) _ _
  refine xi_if_ne (tgt := 10) dX11_drops_4 (by decide) (fun c4 => ?_) (fun c4 => ?_)
  · replace hq := ite_n c4 hq
    refine xi_aload_n 0 dX11_drops_10 rfl ?_
    refine yi_getR (f := 3) dX11_drops_11 sh_0 rfl ok_8 (by decide) w_245 rfl ?_
    refine xi_iload_n 1 dX11_drops_14 rfl ?_
    obtain ⟨g5, hq⟩ := chk_some hq
    refine yi_aaload dX11_drops_15 sh_10 rfl rfl g5 ?_
    obtain ⟨g6, hq⟩ := chk_some hq
    refine xi_astore_n (lv' := [(2, .ref (el 10 a)), (0, .ref 0), (1, .int a)]) dX11_drops_16 (by decide) rfl ?_
    refine xi_aload_n 0 dX11_drops_17 rfl ?_
    obtain ⟨v7, h8, hq⟩ := rdb_some hq
    refine yi_getV (f := 0) dX11_drops_18 (netAt_0 g6) rfl ok_5 (by decide) w_66 rfl h8 ?_
    refine xi_if_ne (tgt := 26) dX11_drops_21 (by decide) (fun c9 => ?_) (fun c9 => ?_)
    · replace hq := ite_n c9 hq
      refine xi_aload_n 1 dX11_drops_26 rfl ?_
      refine yi_getR (f := 8) dX11_drops_27 sh_0 rfl ok_8 (by decide) w_250 rfl ?_
      refine xi_aload_n 0 dX11_drops_30 rfl ?_
      obtain ⟨v10, t11, k12, hq⟩ := bnd_some hq
      refine xi_callV (as := [.ref (el 10 a)]) (rest := []) dX11_drops_31 (KX5_copyFrom G Gb 141 (el 10 a) _ _ _ k12) mkX5_copyFrom w_445 w_446 w_444 (mem_get sh_141) rfl rfl rfl rfl (Nat.le_of_ble_eq_true rfl) (Nat.le_of_ble_eq_true rfl) (Nat.le_of_ble_eq_true rfl) (Nat.le_of_ble_eq_true rfl) (Nat.le_of_ble_eq_true rfl) ?_
      intro v M2 hz
      obtain ⟨rfl, rfl⟩ := hz
      show xW _ _ _ _ 34 _ [] (mem t11 Gb) _ _
      refine xi_aload_n 0 dX11_drops_34 rfl ?_
      refine xi_iconst (v := 0) dX11_drops_35 (by decide) ?_
      obtain ⟨v13, t14, k15, hq⟩ := bnd_some hq
      refine xi_callV (as := [.int 0]) (rest := []) dX11_drops_36 (KX5_begin G Gb (el 10 a) (0 : Int32) _ _ _ k15) mkX5_begin w_388 w_389 w_955 (mem_get (netAt_0 g6)) rfl rfl rfl rfl (Nat.le_of_ble_eq_true rfl) (Nat.le_of_ble_eq_true rfl) (Nat.le_of_ble_eq_true rfl) (Nat.le_of_ble_eq_true rfl) (Nat.le_of_ble_eq_true rfl) ?_
      intro v M2 hz
      obtain ⟨rfl, rfl⟩ := hz
      show xW _ _ _ _ 39 _ [] (mem t14 Gb) _ _
      refine xi_aload_n 1 dX11_drops_39 rfl ?_
      refine xi_iload_n 2 dX11_drops_40 rfl ?_
      obtain ⟨v16, t17, k18, hq⟩ := bnd_some hq
      refine xi_callV (as := [.int a]) (rest := []) dX11_drops_41 (KX11_noteAct G Gb a _ _ _ k18) mkX11_noteAct w_453 ws_13 w_451 (mem_get sh_0) rfl rfl rfl rfl (Nat.le_of_ble_eq_true rfl) (Nat.le_of_ble_eq_true rfl) (Nat.le_of_ble_eq_true rfl) (Nat.le_of_ble_eq_true rfl) (Nat.le_of_ble_eq_true rfl) ?_
      intro v M2 hz
      obtain ⟨rfl, rfl⟩ := hz
      show xW _ _ _ _ 44 _ [] (mem t17 Gb) _ _
      refine xi_iconst (v := 1) dX11_drops_44 (by decide) ?_
      have r19 := some_pair hq
      obtain ⟨rfl, rfl⟩ := r19
      exact xi_iret dX11_drops_45 rfl rfl (Nat.le_of_ble_eq_true rfl) (Nat.le_of_ble_eq_true rfl) ⟨rfl, rfl⟩
    · replace hq := ite_p c9 hq
      refine xi_iconst (v := 0) dX11_drops_24 (by decide) ?_
      have r20 := some_pair hq
      obtain ⟨rfl, rfl⟩ := r20
      exact xi_iret dX11_drops_25 rfl rfl (Nat.le_of_ble_eq_true rfl) (Nat.le_of_ble_eq_true rfl) ⟨rfl, rfl⟩
  · replace hq := ite_p c4 hq
    refine xi_bipush (v := (-2)) dX11_drops_7 (by decide) ?_
    have r21 := some_pair hq
    obtain ⟨rfl, rfl⟩ := r21
    exact xi_iret dX11_drops_9 rfl rfl (Nat.le_of_ble_eq_true rfl) (Nat.le_of_ble_eq_true rfl) ⟨rfl, rfl⟩
noncomputable def FX11_end (a : Int32) (σ : St) : Option ((Int32) × St) :=
  (if a < (0 : Int32) then (some ((-1 : Int32), σ)) else (rdb σ 1 (1) (fun v3 => (if a ≤ v3 then (wrb σ 1 (1) a (fun t6 => (some (a, t6)))) else (some ((-1 : Int32), σ))))))
set_option maxHeartbeats 4000000 in
set_option maxRecDepth 100000 in
theorem KX11_end (G : xG) (Gb : xMem) (a : Int32) (σ : St) (r0 : Int32) (t0 : St) (hq : FX11_end a σ = some (r0, t0)) : xC G mX11_end 0 0 0 [.ref 0, .int a] (mem σ Gb) (PQ r0 t0 Gb) := by
  unfold FX11_end at hq
  refine xC.of (by decide) (Nat.le_of_ble_eq_true rfl) ?_
  show xW _ _ _ _ 0 [(0, .ref 0), (1, .int a)] [] _ 0 0
  refine xi_iload_n 1 dX11_end_0 rfl ?_
  refine xi_if_lt (tgt := 15) dX11_end_1 (by decide) (fun c1 => ?_) (fun c1 => ?_)
  · replace hq := ite_p c1 hq
    refine xi_iconst (v := (-1)) dX11_end_15 (by decide) ?_
    have r2 := some_pair hq
    obtain ⟨rfl, rfl⟩ := r2
    exact xi_iret dX11_end_16 rfl rfl (Nat.le_of_ble_eq_true rfl) (Nat.le_of_ble_eq_true rfl) ⟨rfl, rfl⟩
  · replace hq := ite_n c1 hq
    refine xi_iload_n 1 dX11_end_4 rfl ?_
    refine xi_aload_n 0 dX11_end_5 rfl ?_
    refine yi_getR (f := 0) dX11_end_6 sh_0 rfl ok_8 (by decide) w_242 rfl ?_
    obtain ⟨v3, h4, hq⟩ := rdb_some hq
    refine yi_getV (f := 1) dX11_end_9 sh_1 rfl ok_1 (by decide) w_41 rfl h4 ?_
    refine xi_icmp_le (tgt := 17) dX11_end_12 (by decide) (fun c5 => ?_) (fun c5 => ?_)
    · replace hq := ite_p c5 hq
      refine xi_aload_n 0 dX11_end_17 rfl ?_
      refine yi_getR (f := 0) dX11_end_18 sh_0 rfl ok_8 (by decide) w_242 rfl ?_
      refine xi_iload_n 1 dX11_end_21 rfl ?_
      obtain ⟨t6, h7, hq⟩ := wrb_some hq
      refine yi_putV (f := 1) (ty := .int) dX11_end_22 sh_1 rfl ok_1 (by decide) w_41 rfl rfl pf_I rfl rfl h7 ?_
      refine xi_iload_n 1 dX11_end_25 rfl ?_
      have r8 := some_pair hq
      obtain ⟨rfl, rfl⟩ := r8
      exact xi_iret dX11_end_26 rfl rfl (Nat.le_of_ble_eq_true rfl) (Nat.le_of_ble_eq_true rfl) ⟨rfl, rfl⟩
    · replace hq := ite_n c5 hq
      refine xi_iconst (v := (-1)) dX11_end_15 (by decide) ?_
      have r9 := some_pair hq
      obtain ⟨rfl, rfl⟩ := r9
      exact xi_iret dX11_end_16 rfl rfl (Nat.le_of_ble_eq_true rfl) (Nat.le_of_ble_eq_true rfl) ⟨rfl, rfl⟩
noncomputable def FX11_far (a : Int32) (b : Int32) (c : Int32) (σ : St) : Option ((Int32) × St) :=
  (bnd (FX11_netIn a σ) (fun v1 t2 => (Option.elim v1 (some ((-2 : Int32), t2)) (fun x4 => (chk (netAt x4) (bnd (FX5_has x4 b t2) (fun v7 t8 => (if v7 = (0 : Int32) then (some ((-2 : Int32), t8)) else (bnd (FX5_has x4 c t8) (fun v12 t13 => (if v12 = (0 : Int32) then (some ((-2 : Int32), t13)) else (bnd (FX10_distance x4 b c t13) (fun v16 t17 => (some (v16, t17)))))))))))))))
set_option maxHeartbeats 4000000 in
set_option maxRecDepth 100000 in
theorem KX11_far (G : xG) (Gb : xMem) (a : Int32) (b : Int32) (c : Int32) (σ : St) (r0 : Int32) (t0 : St) (hq : FX11_far a b c σ = some (r0, t0)) : xC G mX11_far 2 0 0 [.ref 0, .int a, .int b, .int c] (mem σ Gb) (PQ r0 t0 Gb) := by
  unfold FX11_far at hq
  refine xC.of (by decide) (Nat.le_of_ble_eq_true rfl) ?_
  show xW _ _ _ _ 0 [(0, .ref 0), (1, .int a), (2, .int b), (3, .int c)] [] _ 0 0
  refine xi_aload_n 0 dX11_far_0 rfl ?_
  refine xi_iload_n 1 dX11_far_1 rfl ?_
  obtain ⟨v1, t2, k3, hq⟩ := bnd_some hq
  refine xi_callV (as := [.int a]) (rest := []) dX11_far_2 (KX11_netIn G Gb a _ _ _ k3) mkX11_netIn w_491 ws_15 w_489 (mem_get sh_0) rfl rfl rfl rfl (Nat.le_of_ble_eq_true rfl) (Nat.le_of_ble_eq_true rfl) (Nat.le_of_ble_eq_true rfl) (Nat.le_of_ble_eq_true rfl) (Nat.le_of_ble_eq_true rfl) ?_
  intro v M2 hz
  obtain ⟨rfl, rfl⟩ := hz
  rcases v1 with _ | x4
  · replace hq := oel_n hq
    show xW _ _ _ _ 5 _ [.null] (mem t2 Gb) _ _
    refine xi_astoreN (lv' := [(4, .null), (0, .ref 0), (1, .int a), (2, .int b), (3, .int c)]) dX11_far_5 (by decide) rfl ?_
    refine xi_aloadN 0 dX11_far_7 rfl ?_
    refine xi_ifnullN (tgt := 30) dX11_far_9 (by decide) ?_
    refine xi_bipush (v := (-2)) dX11_far_30 (by decide) ?_
    refine xi_goto (tgt := 42) dX11_far_32 (by decide) ?_
    have r6 := some_pair hq
    obtain ⟨rfl, rfl⟩ := r6
    exact xi_iret dX11_far_42 rfl rfl (Nat.le_of_ble_eq_true rfl) (Nat.le_of_ble_eq_true rfl) ⟨rfl, rfl⟩
  · replace hq := oel_s hq
    obtain ⟨g5, hq⟩ := chk_some hq
    show xW _ _ _ _ 5 _ [.ref x4] (mem t2 Gb) _ _
    refine xi_astore (lv' := [(4, .ref x4), (0, .ref 0), (1, .int a), (2, .int b), (3, .int c)]) dX11_far_5 (by decide) rfl ?_
    refine xi_aload 0 dX11_far_7 rfl ?_
    refine xi_ifnull dX11_far_9 ?_
    refine xi_aload 0 dX11_far_12 rfl ?_
    refine xi_iload_n 3 dX11_far_14 rfl ?_
    obtain ⟨v7, t8, k9, hq⟩ := bnd_some hq
    refine xi_callV (as := [.int b]) (rest := []) dX11_far_15 (KX5_has G Gb x4 b _ _ _ k9) mkX5_has w_437 w_438 w_541 (mem_get (netAt_0 g5)) rfl rfl rfl rfl (Nat.le_of_ble_eq_true rfl) (Nat.le_of_ble_eq_true rfl) (Nat.le_of_ble_eq_true rfl) (Nat.le_of_ble_eq_true rfl) (Nat.le_of_ble_eq_true rfl) ?_
    intro v M2 hz
    obtain ⟨rfl, rfl⟩ := hz
    show xW _ _ _ _ 18 _ [.int v7] (mem t8 Gb) _ _
    refine xi_if_eq (tgt := 30) dX11_far_18 (by decide) (fun c10 => ?_) (fun c10 => ?_)
    · replace hq := ite_p c10 hq
      refine xi_bipush (v := (-2)) dX11_far_30 (by decide) ?_
      refine xi_goto (tgt := 42) dX11_far_32 (by decide) ?_
      have r11 := some_pair hq
      obtain ⟨rfl, rfl⟩ := r11
      exact xi_iret dX11_far_42 rfl rfl (Nat.le_of_ble_eq_true rfl) (Nat.le_of_ble_eq_true rfl) ⟨rfl, rfl⟩
    · replace hq := ite_n c10 hq
      refine xi_aload 0 dX11_far_21 rfl ?_
      refine xi_iload_n 4 dX11_far_23 rfl ?_
      obtain ⟨v12, t13, k14, hq⟩ := bnd_some hq
      refine xi_callV (as := [.int c]) (rest := []) dX11_far_24 (KX5_has G Gb x4 c _ _ _ k14) mkX5_has w_437 w_438 w_541 (mem_get (netAt_0 g5)) rfl rfl rfl rfl (Nat.le_of_ble_eq_true rfl) (Nat.le_of_ble_eq_true rfl) (Nat.le_of_ble_eq_true rfl) (Nat.le_of_ble_eq_true rfl) (Nat.le_of_ble_eq_true rfl) ?_
      intro v M2 hz
      obtain ⟨rfl, rfl⟩ := hz
      show xW _ _ _ _ 27 _ [.int v12] (mem t13 Gb) _ _
      refine xi_if_ne (tgt := 35) dX11_far_27 (by decide) (fun c15 => ?_) (fun c15 => ?_)
      · replace hq := ite_n c15 hq
        refine xi_aload 0 dX11_far_35 rfl ?_
        refine xi_iload_n 3 dX11_far_37 rfl ?_
        refine xi_iload_n 4 dX11_far_38 rfl ?_
        obtain ⟨v16, t17, k18, hq⟩ := bnd_some hq
        refine xi_callS (as := [.ref x4, .int b, .int c]) (rest := []) dX11_far_39 (KX10_distance G Gb x4 b c _ _ _ k18) mkX10_distance w_527 w_551 rfl rfl (Nat.le_of_ble_eq_true rfl) (Nat.le_of_ble_eq_true rfl) (Nat.le_of_ble_eq_true rfl) (Nat.le_of_ble_eq_true rfl) (Nat.le_of_ble_eq_true rfl) ?_
        intro v M2 hz
        obtain ⟨rfl, rfl⟩ := hz
        show xW _ _ _ _ 42 _ [.int v16] (mem t17 Gb) _ _
        have r19 := some_pair hq
        obtain ⟨rfl, rfl⟩ := r19
        exact xi_iret dX11_far_42 rfl rfl (Nat.le_of_ble_eq_true rfl) (Nat.le_of_ble_eq_true rfl) ⟨rfl, rfl⟩
      · replace hq := ite_p c15 hq
        refine xi_bipush (v := (-2)) dX11_far_30 (by decide) ?_
        refine xi_goto (tgt := 42) dX11_far_32 (by decide) ?_
        have r20 := some_pair hq
        obtain ⟨rfl, rfl⟩ := r20
        exact xi_iret dX11_far_42 rfl rfl (Nat.le_of_ble_eq_true rfl) (Nat.le_of_ble_eq_true rfl) ⟨rfl, rfl⟩
noncomputable def FX11_fault (a : Int32) (σ : St) : Option ((Int32) × St) :=
  (if a = (0 : Int32) then (rdb σ 5 (1) (fun v7 => (some (v7, σ)))) else (if a = (1 : Int32) then (rdb σ 5 (2) (fun v4 => (some (v4, σ)))) else (some ((-1 : Int32), σ))))
set_option maxHeartbeats 4000000 in
set_option maxRecDepth 100000 in
theorem KX11_fault (G : xG) (Gb : xMem) (a : Int32) (σ : St) (r0 : Int32) (t0 : St) (hq : FX11_fault a σ = some (r0, t0)) : xC G mX11_fault 0 0 0 [.ref 0, .int a] (mem σ Gb) (PQ r0 t0 Gb) := by
  unfold FX11_fault at hq
  refine xC.of (by decide) (Nat.le_of_ble_eq_true rfl) ?_
  show xW _ _ _ _ 0 [(0, .ref 0), (1, .int a)] [] _ 0 0
  refine xi_iload_n 1 dX11_fault_0 rfl ?_
  refine xi_if_ne (tgt := 12) dX11_fault_1 (by decide) (fun c1 => ?_) (fun c1 => ?_)
  · replace hq := ite_n c1 hq
    refine xi_iload_n 1 dX11_fault_12 rfl ?_
    refine xi_iconst (v := 1) dX11_fault_13 (by decide) ?_
    refine xi_icmp_ne (tgt := 27) dX11_fault_14 (by decide) (fun c2 => ?_) (fun c2 => ?_)
    · replace hq := ite_n c2 hq
      refine xi_iconst (v := (-1)) dX11_fault_27 (by decide) ?_
      have r3 := some_pair hq
      obtain ⟨rfl, rfl⟩ := r3
      exact xi_iret dX11_fault_28 rfl rfl (Nat.le_of_ble_eq_true rfl) (Nat.le_of_ble_eq_true rfl) ⟨rfl, rfl⟩
    · replace hq := ite_p c2 hq
      refine xi_aload_n 0 dX11_fault_17 rfl ?_
      refine yi_getR (f := 2) dX11_fault_18 sh_0 rfl ok_8 (by decide) w_244 rfl ?_
      obtain ⟨v4, h5, hq⟩ := rdb_some hq
      refine yi_getV (f := 2) dX11_fault_21 sh_5 rfl ok_6 (by decide) w_101 rfl h5 ?_
      refine xi_goto (tgt := 28) dX11_fault_24 (by decide) ?_
      have r6 := some_pair hq
      obtain ⟨rfl, rfl⟩ := r6
      exact xi_iret dX11_fault_28 rfl rfl (Nat.le_of_ble_eq_true rfl) (Nat.le_of_ble_eq_true rfl) ⟨rfl, rfl⟩
  · replace hq := ite_p c1 hq
    refine xi_aload_n 0 dX11_fault_4 rfl ?_
    refine yi_getR (f := 2) dX11_fault_5 sh_0 rfl ok_8 (by decide) w_244 rfl ?_
    obtain ⟨v7, h8, hq⟩ := rdb_some hq
    refine yi_getV (f := 1) dX11_fault_8 sh_5 rfl ok_6 (by decide) w_99 rfl h8 ?_
    have r9 := some_pair hq
    obtain ⟨rfl, rfl⟩ := r9
    exact xi_iret dX11_fault_11 rfl rfl (Nat.le_of_ble_eq_true rfl) (Nat.le_of_ble_eq_true rfl) ⟨rfl, rfl⟩
noncomputable def FX11_feed (a : Int32) (b : Int32) (c : Int32) (d : Int32) (e : Int32) (σ : St) : Option ((Int32) × St) :=
  (bnd (FX1_hasRoom_1 (20 : Int32) σ) (fun v1 t2 => (if v1 = (0 : Int32) then (some ((-1 : Int32), t2)) else (bnd (FX1_putFour_1 a t2) (fun v5 t6 => (bnd (FX1_putFour_1 b t6) (fun v8 t9 => (bnd (FX1_putFour_1 c t9) (fun v11 t12 => (bnd (FX1_putFour_1 d t12) (fun v14 t15 => (bnd (FX1_putFour_1 e t15) (fun v17 t18 => (rdb t18 1 (1) (fun v20 => (some (v20, t18)))))))))))))))))
set_option maxHeartbeats 4000000 in
set_option maxRecDepth 100000 in
theorem KX11_feed (G : xG) (Gb : xMem) (a : Int32) (b : Int32) (c : Int32) (d : Int32) (e : Int32) (σ : St) (r0 : Int32) (t0 : St) (hq : FX11_feed a b c d e σ = some (r0, t0)) : xC G mX11_feed 3 0 0 [.ref 0, .int a, .int b, .int c, .int d, .int e] (mem σ Gb) (PQ r0 t0 Gb) := by
  unfold FX11_feed at hq
  refine xC.of (by decide) (Nat.le_of_ble_eq_true rfl) ?_
  show xW _ _ _ _ 0 [(0, .ref 0), (1, .int a), (2, .int b), (3, .int c), (4, .int d), (5, .int e)] [] _ 0 0
  refine xi_aload_n 0 dX11_feed_0 rfl ?_
  refine yi_getR (f := 0) dX11_feed_1 sh_0 rfl ok_8 (by decide) w_242 rfl ?_
  refine xi_bipush (v := 20) dX11_feed_4 (by decide) ?_
  obtain ⟨v1, t2, k3, hq⟩ := bnd_some hq
  refine xi_callV (as := [.int 20]) (rest := []) dX11_feed_6 (KX1_hasRoom_1 G Gb (20 : Int32) _ _ _ k3) mkX1_hasRoom w_278 w_279 w_277 (mem_get sh_1) rfl rfl rfl rfl (Nat.le_of_ble_eq_true rfl) (Nat.le_of_ble_eq_true rfl) (Nat.le_of_ble_eq_true rfl) (Nat.le_of_ble_eq_true rfl) (Nat.le_of_ble_eq_true rfl) ?_
  intro v M2 hz
  obtain ⟨rfl, rfl⟩ := hz
  show xW _ _ _ _ 9 _ [.int v1] (mem t2 Gb) _ _
  refine xi_if_ne (tgt := 14) dX11_feed_9 (by decide) (fun c4 => ?_) (fun c4 => ?_)
  · replace hq := ite_n c4 hq
    refine xi_aload_n 0 dX11_feed_14 rfl ?_
    refine yi_getR (f := 0) dX11_feed_15 sh_0 rfl ok_8 (by decide) w_242 rfl ?_
    refine xi_iload_n 1 dX11_feed_18 rfl ?_
    obtain ⟨v5, t6, k7, hq⟩ := bnd_some hq
    refine xi_callV (as := [.int a]) (rest := []) dX11_feed_19 (KX1_putFour_1 G Gb a _ _ _ k7) mkX1_putFour w_282 w_283 w_281 (mem_get sh_1) rfl rfl rfl rfl (Nat.le_of_ble_eq_true rfl) (Nat.le_of_ble_eq_true rfl) (Nat.le_of_ble_eq_true rfl) (Nat.le_of_ble_eq_true rfl) (Nat.le_of_ble_eq_true rfl) ?_
    intro v M2 hz
    obtain ⟨rfl, rfl⟩ := hz
    show xW _ _ _ _ 22 _ [] (mem t6 Gb) _ _
    refine xi_aload_n 0 dX11_feed_22 rfl ?_
    refine yi_getR (f := 0) dX11_feed_23 sh_0 rfl ok_8 (by decide) w_242 rfl ?_
    refine xi_iload_n 2 dX11_feed_26 rfl ?_
    obtain ⟨v8, t9, k10, hq⟩ := bnd_some hq
    refine xi_callV (as := [.int b]) (rest := []) dX11_feed_27 (KX1_putFour_1 G Gb b _ _ _ k10) mkX1_putFour w_282 w_283 w_281 (mem_get sh_1) rfl rfl rfl rfl (Nat.le_of_ble_eq_true rfl) (Nat.le_of_ble_eq_true rfl) (Nat.le_of_ble_eq_true rfl) (Nat.le_of_ble_eq_true rfl) (Nat.le_of_ble_eq_true rfl) ?_
    intro v M2 hz
    obtain ⟨rfl, rfl⟩ := hz
    show xW _ _ _ _ 30 _ [] (mem t9 Gb) _ _
    refine xi_aload_n 0 dX11_feed_30 rfl ?_
    refine yi_getR (f := 0) dX11_feed_31 sh_0 rfl ok_8 (by decide) w_242 rfl ?_
    refine xi_iload_n 3 dX11_feed_34 rfl ?_
    obtain ⟨v11, t12, k13, hq⟩ := bnd_some hq
    refine xi_callV (as := [.int c]) (rest := []) dX11_feed_35 (KX1_putFour_1 G Gb c _ _ _ k13) mkX1_putFour w_282 w_283 w_281 (mem_get sh_1) rfl rfl rfl rfl (Nat.le_of_ble_eq_true rfl) (Nat.le_of_ble_eq_true rfl) (Nat.le_of_ble_eq_true rfl) (Nat.le_of_ble_eq_true rfl) (Nat.le_of_ble_eq_true rfl) ?_
    intro v M2 hz
    obtain ⟨rfl, rfl⟩ := hz
    show xW _ _ _ _ 38 _ [] (mem t12 Gb) _ _
    refine xi_aload_n 0 dX11_feed_38 rfl ?_
    refine yi_getR (f := 0) dX11_feed_39 sh_0 rfl ok_8 (by decide) w_242 rfl ?_
    refine xi_iload 4 dX11_feed_42 rfl ?_
    obtain ⟨v14, t15, k16, hq⟩ := bnd_some hq
    refine xi_callV (as := [.int d]) (rest := []) dX11_feed_44 (KX1_putFour_1 G Gb d _ _ _ k16) mkX1_putFour w_282 w_283 w_281 (mem_get sh_1) rfl rfl rfl rfl (Nat.le_of_ble_eq_true rfl) (Nat.le_of_ble_eq_true rfl) (Nat.le_of_ble_eq_true rfl) (Nat.le_of_ble_eq_true rfl) (Nat.le_of_ble_eq_true rfl) ?_
    intro v M2 hz
    obtain ⟨rfl, rfl⟩ := hz
    show xW _ _ _ _ 47 _ [] (mem t15 Gb) _ _
    refine xi_aload_n 0 dX11_feed_47 rfl ?_
    refine yi_getR (f := 0) dX11_feed_48 sh_0 rfl ok_8 (by decide) w_242 rfl ?_
    refine xi_iload 5 dX11_feed_51 rfl ?_
    obtain ⟨v17, t18, k19, hq⟩ := bnd_some hq
    refine xi_callV (as := [.int e]) (rest := []) dX11_feed_53 (KX1_putFour_1 G Gb e _ _ _ k19) mkX1_putFour w_282 w_283 w_281 (mem_get sh_1) rfl rfl rfl rfl (Nat.le_of_ble_eq_true rfl) (Nat.le_of_ble_eq_true rfl) (Nat.le_of_ble_eq_true rfl) (Nat.le_of_ble_eq_true rfl) (Nat.le_of_ble_eq_true rfl) ?_
    intro v M2 hz
    obtain ⟨rfl, rfl⟩ := hz
    show xW _ _ _ _ 56 _ [] (mem t18 Gb) _ _
    refine xi_aload_n 0 dX11_feed_56 rfl ?_
    refine yi_getR (f := 0) dX11_feed_57 sh_0 rfl ok_8 (by decide) w_242 rfl ?_
    obtain ⟨v20, h21, hq⟩ := rdb_some hq
    refine yi_getV (f := 1) dX11_feed_60 sh_1 rfl ok_1 (by decide) w_41 rfl h21 ?_
    have r22 := some_pair hq
    obtain ⟨rfl, rfl⟩ := r22
    exact xi_iret dX11_feed_63 rfl rfl (Nat.le_of_ble_eq_true rfl) (Nat.le_of_ble_eq_true rfl) ⟨rfl, rfl⟩
  · replace hq := ite_p c4 hq
    refine xi_iconst (v := (-1)) dX11_feed_12 (by decide) ?_
    have r23 := some_pair hq
    obtain ⟨rfl, rfl⟩ := r23
    exact xi_iret dX11_feed_13 rfl rfl (Nat.le_of_ble_eq_true rfl) (Nat.le_of_ble_eq_true rfl) ⟨rfl, rfl⟩
noncomputable def FX11_filled (a : Int32) (b : Int32) (σ : St) : Option ((Int32) × St) :=
  (bnd (FX11_netIn a σ) (fun v1 t2 => (Option.elim v1 (some ((-2 : Int32), t2)) (fun x4 => (chk (netAt x4) (if (-1 : Int32) ≤ b then (bnd (FX8_newLine x4 b t2) (fun v8 t9 => (some (v8, t9)))) else (some ((-2 : Int32), t2))))))))
set_option maxHeartbeats 4000000 in
set_option maxRecDepth 100000 in
theorem KX11_filled (G : xG) (Gb : xMem) (a : Int32) (b : Int32) (σ : St) (r0 : Int32) (t0 : St) (hq : FX11_filled a b σ = some (r0, t0)) : xC G mX11_filled 2 0 0 [.ref 0, .int a, .int b] (mem σ Gb) (PQ r0 t0 Gb) := by
  unfold FX11_filled at hq
  refine xC.of (by decide) (Nat.le_of_ble_eq_true rfl) ?_
  show xW _ _ _ _ 0 [(0, .ref 0), (1, .int a), (2, .int b)] [] _ 0 0
  refine xi_aload_n 0 dX11_filled_0 rfl ?_
  refine xi_iload_n 1 dX11_filled_1 rfl ?_
  obtain ⟨v1, t2, k3, hq⟩ := bnd_some hq
  refine xi_callV (as := [.int a]) (rest := []) dX11_filled_2 (KX11_netIn G Gb a _ _ _ k3) mkX11_netIn w_491 ws_15 w_489 (mem_get sh_0) rfl rfl rfl rfl (Nat.le_of_ble_eq_true rfl) (Nat.le_of_ble_eq_true rfl) (Nat.le_of_ble_eq_true rfl) (Nat.le_of_ble_eq_true rfl) (Nat.le_of_ble_eq_true rfl) ?_
  intro v M2 hz
  obtain ⟨rfl, rfl⟩ := hz
  rcases v1 with _ | x4
  · replace hq := oel_n hq
    show xW _ _ _ _ 5 _ [.null] (mem t2 Gb) _ _
    refine xi_astore_nN (lv' := [(3, .null), (0, .ref 0), (1, .int a), (2, .int b)]) dX11_filled_5 (by decide) rfl ?_
    refine xi_aload_nN 0 dX11_filled_6 rfl ?_
    refine xi_ifnullN (tgt := 15) dX11_filled_7 (by decide) ?_
    refine xi_bipush (v := (-2)) dX11_filled_15 (by decide) ?_
    refine xi_goto (tgt := 25) dX11_filled_17 (by decide) ?_
    have r6 := some_pair hq
    obtain ⟨rfl, rfl⟩ := r6
    exact xi_iret dX11_filled_25 rfl rfl (Nat.le_of_ble_eq_true rfl) (Nat.le_of_ble_eq_true rfl) ⟨rfl, rfl⟩
  · replace hq := oel_s hq
    obtain ⟨g5, hq⟩ := chk_some hq
    show xW _ _ _ _ 5 _ [.ref x4] (mem t2 Gb) _ _
    refine xi_astore_n (lv' := [(3, .ref x4), (0, .ref 0), (1, .int a), (2, .int b)]) dX11_filled_5 (by decide) rfl ?_
    refine xi_aload_n 0 dX11_filled_6 rfl ?_
    refine xi_ifnull dX11_filled_7 ?_
    refine xi_iload_n 3 dX11_filled_10 rfl ?_
    refine xi_iconst (v := (-1)) dX11_filled_11 (by decide) ?_
    refine xi_icmp_ge (tgt := 20) dX11_filled_12 (by decide) (fun c7 => ?_) (fun c7 => ?_)
    · replace hq := ite_p c7 hq
      refine xi_aload_n 0 dX11_filled_20 rfl ?_
      refine xi_iload_n 3 dX11_filled_21 rfl ?_
      obtain ⟨v8, t9, k10, hq⟩ := bnd_some hq
      refine xi_callS (as := [.ref x4, .int b]) (rest := []) dX11_filled_22 (KX8_newLine G Gb x4 b _ _ _ k10) mkX8_newLine w_854 w_853 rfl rfl (Nat.le_of_ble_eq_true rfl) (Nat.le_of_ble_eq_true rfl) (Nat.le_of_ble_eq_true rfl) (Nat.le_of_ble_eq_true rfl) (Nat.le_of_ble_eq_true rfl) ?_
      intro v M2 hz
      obtain ⟨rfl, rfl⟩ := hz
      show xW _ _ _ _ 25 _ [.int v8] (mem t9 Gb) _ _
      have r11 := some_pair hq
      obtain ⟨rfl, rfl⟩ := r11
      exact xi_iret dX11_filled_25 rfl rfl (Nat.le_of_ble_eq_true rfl) (Nat.le_of_ble_eq_true rfl) ⟨rfl, rfl⟩
    · replace hq := ite_n c7 hq
      refine xi_bipush (v := (-2)) dX11_filled_15 (by decide) ?_
      refine xi_goto (tgt := 25) dX11_filled_17 (by decide) ?_
      have r12 := some_pair hq
      obtain ⟨rfl, rfl⟩ := r12
      exact xi_iret dX11_filled_25 rfl rfl (Nat.le_of_ble_eq_true rfl) (Nat.le_of_ble_eq_true rfl) ⟨rfl, rfl⟩
noncomputable def FX11_firsts (a : Int32) (b : Int32) (σ : St) : Option ((Int32) × St) :=
  (bnd (FX11_findingOf a b σ) (fun v1 t2 => (Option.elim v1 (some ((-2 : Int32), t2)) (fun x4 => (chk (findAt x4) (rdb t2 x4 (3) (fun v7 => (some (v7, t2)))))))))
set_option maxHeartbeats 4000000 in
set_option maxRecDepth 100000 in
theorem KX11_firsts (G : xG) (Gb : xMem) (a : Int32) (b : Int32) (σ : St) (r0 : Int32) (t0 : St) (hq : FX11_firsts a b σ = some (r0, t0)) : xC G mX11_firsts 17 0 0 [.ref 0, .int a, .int b] (mem σ Gb) (PQ r0 t0 Gb) := by
  unfold FX11_firsts at hq
  refine xC.of (by decide) (Nat.le_of_ble_eq_true rfl) ?_
  show xW _ _ _ _ 0 [(0, .ref 0), (1, .int a), (2, .int b)] [] _ 0 0
  refine xi_aload_n 0 dX11_firsts_0 rfl ?_
  refine xi_iload_n 1 dX11_firsts_1 rfl ?_
  refine xi_iload_n 2 dX11_firsts_2 rfl ?_
  obtain ⟨v1, t2, k3, hq⟩ := bnd_some hq
  refine xi_callV (as := [.int a, .int b]) (rest := []) dX11_firsts_3 (KX11_findingOf G Gb a b _ _ _ k3) mkX11_findingOf w_659 ws_16 w_657 (mem_get sh_0) rfl rfl rfl rfl (Nat.le_of_ble_eq_true rfl) (Nat.le_of_ble_eq_true rfl) (Nat.le_of_ble_eq_true rfl) (Nat.le_of_ble_eq_true rfl) (Nat.le_of_ble_eq_true rfl) ?_
  intro v M2 hz
  obtain ⟨rfl, rfl⟩ := hz
  rcases v1 with _ | x4
  · replace hq := oel_n hq
    show xW _ _ _ _ 6 _ [.null] (mem t2 Gb) _ _
    refine xi_astore_nN (lv' := [(3, .null), (0, .ref 0), (1, .int a), (2, .int b)]) dX11_firsts_6 (by decide) rfl ?_
    refine xi_aload_nN 0 dX11_firsts_7 rfl ?_
    refine xi_ifnonnullN dX11_firsts_8 ?_
    refine xi_bipush (v := (-2)) dX11_firsts_11 (by decide) ?_
    refine xi_goto (tgt := 20) dX11_firsts_13 (by decide) ?_
    have r6 := some_pair hq
    obtain ⟨rfl, rfl⟩ := r6
    exact xi_iret dX11_firsts_20 rfl rfl (Nat.le_of_ble_eq_true rfl) (Nat.le_of_ble_eq_true rfl) ⟨rfl, rfl⟩
  · replace hq := oel_s hq
    obtain ⟨g5, hq⟩ := chk_some hq
    show xW _ _ _ _ 6 _ [.ref x4] (mem t2 Gb) _ _
    refine xi_astore_n (lv' := [(3, .ref x4), (0, .ref 0), (1, .int a), (2, .int b)]) dX11_firsts_6 (by decide) rfl ?_
    refine xi_aload_n 0 dX11_firsts_7 rfl ?_
    refine xi_ifnonnull (tgt := 16) dX11_firsts_8 (by decide) ?_
    refine xi_aload_n 0 dX11_firsts_16 rfl ?_
    obtain ⟨v7, h8, hq⟩ := rdb_some hq
    refine yi_getV (f := 3) dX11_firsts_17 (findAt_0 g5) rfl ok_2 (by decide) w_153 rfl h8 ?_
    have r9 := some_pair hq
    obtain ⟨rfl, rfl⟩ := r9
    exact xi_iret dX11_firsts_20 rfl rfl (Nat.le_of_ble_eq_true rfl) (Nat.le_of_ble_eq_true rfl) ⟨rfl, rfl⟩
noncomputable def FX11_gain (a : Int32) (b : Int32) (c : Int32) (d : Int32) (σ : St) : Option ((Int32) × St) :=
  (bnd (FX11_netIn a σ) (fun v1 t2 => (Option.elim v1 (some ((-1000 : Int32), t2)) (fun x4 => (chk (netAt x4) (bnd (FX11_isMeasure b t2) (fun v7 t8 => (if v7 = (0 : Int32) then (some ((-1000 : Int32), t8)) else (bnd (FX5_has x4 c t8) (fun v12 t13 => (if v12 = (0 : Int32) then (some ((-1000 : Int32), t13)) else (bnd (FX5_has x4 d t13) (fun v17 t18 => (if v17 = (0 : Int32) then (some ((-1000 : Int32), t18)) else (bnd (FX5_copyFrom 145 x4 t18) (fun v21 t22 => (bnd (FX5_changeOver 145 c d t22) (fun v24 t25 => (bnd (FX8_measured 145 b t25) (fun v27 t28 => (bnd (FX8_measured x4 b t28) (fun v30 t31 => (some ((v27 - v30), t31))))))))))))))))))))))))
set_option maxHeartbeats 4000000 in
set_option maxRecDepth 100000 in
theorem KX11_gain (G : xG) (Gb : xMem) (a : Int32) (b : Int32) (c : Int32) (d : Int32) (σ : St) (r0 : Int32) (t0 : St) (hq : FX11_gain a b c d σ = some (r0, t0)) : xC G mX11_gain 4 0 0 [.ref 0, .int a, .int b, .int c, .int d] (mem σ Gb) (PQ r0 t0 Gb) := by
  unfold FX11_gain at hq
  refine xC.of (by decide) (Nat.le_of_ble_eq_true rfl) ?_
  show xW _ _ _ _ 0 [(0, .ref 0), (1, .int a), (2, .int b), (3, .int c), (4, .int d)] [] _ 0 0
  refine xi_aload_n 0 dX11_gain_0 rfl ?_
  refine xi_iload_n 1 dX11_gain_1 rfl ?_
  obtain ⟨v1, t2, k3, hq⟩ := bnd_some hq
  refine xi_callV (as := [.int a]) (rest := []) dX11_gain_2 (KX11_netIn G Gb a _ _ _ k3) mkX11_netIn w_491 ws_15 w_489 (mem_get sh_0) rfl rfl rfl rfl (Nat.le_of_ble_eq_true rfl) (Nat.le_of_ble_eq_true rfl) (Nat.le_of_ble_eq_true rfl) (Nat.le_of_ble_eq_true rfl) (Nat.le_of_ble_eq_true rfl) ?_
  intro v M2 hz
  obtain ⟨rfl, rfl⟩ := hz
  rcases v1 with _ | x4
  · replace hq := oel_n hq
    show xW _ _ _ _ 5 _ [.null] (mem t2 Gb) _ _
    refine xi_astoreN (lv' := [(5, .null), (0, .ref 0), (1, .int a), (2, .int b), (3, .int c), (4, .int d)]) dX11_gain_5 (by decide) rfl ?_
    refine xi_aloadN 0 dX11_gain_7 rfl ?_
    refine xi_ifnullN (tgt := 38) dX11_gain_9 (by decide) ?_
    refine xi_sipush (v := (-1000)) dX11_gain_38 (by decide) ?_
    have r6 := some_pair hq
    obtain ⟨rfl, rfl⟩ := r6
    exact xi_iret dX11_gain_41 rfl rfl (Nat.le_of_ble_eq_true rfl) (Nat.le_of_ble_eq_true rfl) ⟨rfl, rfl⟩
  · replace hq := oel_s hq
    obtain ⟨g5, hq⟩ := chk_some hq
    show xW _ _ _ _ 5 _ [.ref x4] (mem t2 Gb) _ _
    refine xi_astore (lv' := [(5, .ref x4), (0, .ref 0), (1, .int a), (2, .int b), (3, .int c), (4, .int d)]) dX11_gain_5 (by decide) rfl ?_
    refine xi_aload 0 dX11_gain_7 rfl ?_
    refine xi_ifnull dX11_gain_9 ?_
    refine xi_iload_n 3 dX11_gain_12 rfl ?_
    obtain ⟨v7, t8, k9, hq⟩ := bnd_some hq
    refine xi_callS (as := [.int b]) (rest := []) dX11_gain_13 (KX11_isMeasure G Gb b _ _ _ k9) mkX11_isMeasure w_569 w_568 rfl rfl (Nat.le_of_ble_eq_true rfl) (Nat.le_of_ble_eq_true rfl) (Nat.le_of_ble_eq_true rfl) (Nat.le_of_ble_eq_true rfl) (Nat.le_of_ble_eq_true rfl) ?_
    intro v M2 hz
    obtain ⟨rfl, rfl⟩ := hz
    show xW _ _ _ _ 16 _ [.int v7] (mem t8 Gb) _ _
    refine xi_if_eq (tgt := 38) dX11_gain_16 (by decide) (fun c10 => ?_) (fun c10 => ?_)
    · replace hq := ite_p c10 hq
      refine xi_sipush (v := (-1000)) dX11_gain_38 (by decide) ?_
      have r11 := some_pair hq
      obtain ⟨rfl, rfl⟩ := r11
      exact xi_iret dX11_gain_41 rfl rfl (Nat.le_of_ble_eq_true rfl) (Nat.le_of_ble_eq_true rfl) ⟨rfl, rfl⟩
    · replace hq := ite_n c10 hq
      refine xi_aload 0 dX11_gain_19 rfl ?_
      refine xi_iload_n 4 dX11_gain_21 rfl ?_
      obtain ⟨v12, t13, k14, hq⟩ := bnd_some hq
      refine xi_callV (as := [.int c]) (rest := []) dX11_gain_22 (KX5_has G Gb x4 c _ _ _ k14) mkX5_has w_437 w_438 w_541 (mem_get (netAt_0 g5)) rfl rfl rfl rfl (Nat.le_of_ble_eq_true rfl) (Nat.le_of_ble_eq_true rfl) (Nat.le_of_ble_eq_true rfl) (Nat.le_of_ble_eq_true rfl) (Nat.le_of_ble_eq_true rfl) ?_
      intro v M2 hz
      obtain ⟨rfl, rfl⟩ := hz
      show xW _ _ _ _ 25 _ [.int v12] (mem t13 Gb) _ _
      refine xi_if_eq (tgt := 38) dX11_gain_25 (by decide) (fun c15 => ?_) (fun c15 => ?_)
      · replace hq := ite_p c15 hq
        refine xi_sipush (v := (-1000)) dX11_gain_38 (by decide) ?_
        have r16 := some_pair hq
        obtain ⟨rfl, rfl⟩ := r16
        exact xi_iret dX11_gain_41 rfl rfl (Nat.le_of_ble_eq_true rfl) (Nat.le_of_ble_eq_true rfl) ⟨rfl, rfl⟩
      · replace hq := ite_n c15 hq
        refine xi_aload 0 dX11_gain_28 rfl ?_
        refine xi_iload 5 dX11_gain_30 rfl ?_
        obtain ⟨v17, t18, k19, hq⟩ := bnd_some hq
        refine xi_callV (as := [.int d]) (rest := []) dX11_gain_32 (KX5_has G Gb x4 d _ _ _ k19) mkX5_has w_437 w_438 w_541 (mem_get (netAt_0 g5)) rfl rfl rfl rfl (Nat.le_of_ble_eq_true rfl) (Nat.le_of_ble_eq_true rfl) (Nat.le_of_ble_eq_true rfl) (Nat.le_of_ble_eq_true rfl) (Nat.le_of_ble_eq_true rfl) ?_
        intro v M2 hz
        obtain ⟨rfl, rfl⟩ := hz
        show xW _ _ _ _ 35 _ [.int v17] (mem t18 Gb) _ _
        refine xi_if_ne (tgt := 42) dX11_gain_35 (by decide) (fun c20 => ?_) (fun c20 => ?_)
        · replace hq := ite_n c20 hq
          refine xi_aload_n 1 dX11_gain_42 rfl ?_
          refine yi_getR (f := 9) dX11_gain_43 sh_0 rfl ok_8 (by decide) w_251 rfl ?_
          refine xi_aload 0 dX11_gain_46 rfl ?_
          obtain ⟨v21, t22, k23, hq⟩ := bnd_some hq
          refine xi_callV (as := [.ref x4]) (rest := []) dX11_gain_48 (KX5_copyFrom G Gb 145 x4 _ _ _ k23) mkX5_copyFrom w_445 w_446 w_444 (mem_get sh_145) rfl rfl rfl rfl (Nat.le_of_ble_eq_true rfl) (Nat.le_of_ble_eq_true rfl) (Nat.le_of_ble_eq_true rfl) (Nat.le_of_ble_eq_true rfl) (Nat.le_of_ble_eq_true rfl) ?_
          intro v M2 hz
          obtain ⟨rfl, rfl⟩ := hz
          show xW _ _ _ _ 51 _ [] (mem t22 Gb) _ _
          refine xi_aload_n 1 dX11_gain_51 rfl ?_
          refine yi_getR (f := 9) dX11_gain_52 sh_0 rfl ok_8 (by decide) w_251 rfl ?_
          refine xi_iload_n 4 dX11_gain_55 rfl ?_
          refine xi_iload 5 dX11_gain_56 rfl ?_
          obtain ⟨v24, t25, k26, hq⟩ := bnd_some hq
          refine xi_callV (as := [.int c, .int d]) (rest := []) dX11_gain_58 (KX5_changeOver G Gb 145 c d _ _ _ k26) mkX5_changeOver w_866 w_867 w_865 (mem_get sh_145) rfl rfl rfl rfl (Nat.le_of_ble_eq_true rfl) (Nat.le_of_ble_eq_true rfl) (Nat.le_of_ble_eq_true rfl) (Nat.le_of_ble_eq_true rfl) (Nat.le_of_ble_eq_true rfl) ?_
          intro v M2 hz
          obtain ⟨rfl, rfl⟩ := hz
          show xW _ _ _ _ 61 _ [] (mem t25 Gb) _ _
          refine xi_aload_n 1 dX11_gain_61 rfl ?_
          refine yi_getR (f := 9) dX11_gain_62 sh_0 rfl ok_8 (by decide) w_251 rfl ?_
          refine xi_iload_n 3 dX11_gain_65 rfl ?_
          obtain ⟨v27, t28, k29, hq⟩ := bnd_some hq
          refine xi_callS (as := [.ref 145, .int b]) (rest := []) dX11_gain_66 (KX8_measured G Gb 145 b _ _ _ k29) mkX8_measured w_572 w_571 rfl rfl (Nat.le_of_ble_eq_true rfl) (Nat.le_of_ble_eq_true rfl) (Nat.le_of_ble_eq_true rfl) (Nat.le_of_ble_eq_true rfl) (Nat.le_of_ble_eq_true rfl) ?_
          intro v M2 hz
          obtain ⟨rfl, rfl⟩ := hz
          show xW _ _ _ _ 69 _ [.int v27] (mem t28 Gb) _ _
          refine xi_aload 0 dX11_gain_69 rfl ?_
          refine xi_iload_n 3 dX11_gain_71 rfl ?_
          obtain ⟨v30, t31, k32, hq⟩ := bnd_some hq
          refine xi_callS (as := [.ref x4, .int b]) (rest := [.int v27]) dX11_gain_72 (KX8_measured G Gb x4 b _ _ _ k32) mkX8_measured w_572 w_571 rfl rfl (Nat.le_of_ble_eq_true rfl) (Nat.le_of_ble_eq_true rfl) (Nat.le_of_ble_eq_true rfl) (Nat.le_of_ble_eq_true rfl) (Nat.le_of_ble_eq_true rfl) ?_
          intro v M2 hz
          obtain ⟨rfl, rfl⟩ := hz
          show xW _ _ _ _ 75 _ [.int v30, .int v27] (mem t31 Gb) _ _
          refine xi_isub (v := v27 - v30) dX11_gain_75 rfl ?_
          have r33 := some_pair hq
          obtain ⟨rfl, rfl⟩ := r33
          exact xi_iret dX11_gain_76 rfl rfl (Nat.le_of_ble_eq_true rfl) (Nat.le_of_ble_eq_true rfl) ⟨rfl, rfl⟩
        · replace hq := ite_p c20 hq
          refine xi_sipush (v := (-1000)) dX11_gain_38 (by decide) ?_
          have r34 := some_pair hq
          obtain ⟨rfl, rfl⟩ := r34
          exact xi_iret dX11_gain_41 rfl rfl (Nat.le_of_ble_eq_true rfl) (Nat.le_of_ble_eq_true rfl) ⟨rfl, rfl⟩
noncomputable def FX11_greedy (a : Int32) (b : Int32) (σ : St) : Option ((Int32) × St) :=
  (bnd (FX11_netIn a σ) (fun v1 t2 => (Option.elim v1 (some ((-2 : Int32), t2)) (fun x4 => (chk (netAt x4) (bnd (FX11_isPriced b t2) (fun v7 t8 => (if v7 = (0 : Int32) then (some ((-2 : Int32), t8)) else (bnd (FX5_copyFrom 141 x4 t8) (fun v11 t12 => (bnd (FX8_makeGreedy x4 b t12) (fun v14 t15 => (bnd (FX11_noteAct a t15) (fun v17 t18 => (bnd (FX8_measured x4 b t18) (fun v20 t21 => (some (v20, t21))))))))))))))))))
set_option maxHeartbeats 4000000 in
set_option maxRecDepth 100000 in
theorem KX11_greedy (G : xG) (Gb : xMem) (a : Int32) (b : Int32) (σ : St) (r0 : Int32) (t0 : St) (hq : FX11_greedy a b σ = some (r0, t0)) : xC G mX11_greedy 4 0 0 [.ref 0, .int a, .int b] (mem σ Gb) (PQ r0 t0 Gb) := by
  unfold FX11_greedy at hq
  refine xC.of (by decide) (Nat.le_of_ble_eq_true rfl) ?_
  show xW _ _ _ _ 0 [(0, .ref 0), (1, .int a), (2, .int b)] [] _ 0 0
  refine xi_aload_n 0 dX11_greedy_0 rfl ?_
  refine xi_iload_n 1 dX11_greedy_1 rfl ?_
  obtain ⟨v1, t2, k3, hq⟩ := bnd_some hq
  refine xi_callV (as := [.int a]) (rest := []) dX11_greedy_2 (KX11_netIn G Gb a _ _ _ k3) mkX11_netIn w_491 ws_15 w_489 (mem_get sh_0) rfl rfl rfl rfl (Nat.le_of_ble_eq_true rfl) (Nat.le_of_ble_eq_true rfl) (Nat.le_of_ble_eq_true rfl) (Nat.le_of_ble_eq_true rfl) (Nat.le_of_ble_eq_true rfl) ?_
  intro v M2 hz
  obtain ⟨rfl, rfl⟩ := hz
  rcases v1 with _ | x4
  · replace hq := oel_n hq
    show xW _ _ _ _ 5 _ [.null] (mem t2 Gb) _ _
    refine xi_astore_nN (lv' := [(3, .null), (0, .ref 0), (1, .int a), (2, .int b)]) dX11_greedy_5 (by decide) rfl ?_
    refine xi_aload_nN 0 dX11_greedy_6 rfl ?_
    refine xi_ifnullN (tgt := 17) dX11_greedy_7 (by decide) ?_
    refine xi_bipush (v := (-2)) dX11_greedy_17 (by decide) ?_
    have r6 := some_pair hq
    obtain ⟨rfl, rfl⟩ := r6
    exact xi_iret dX11_greedy_19 rfl rfl (Nat.le_of_ble_eq_true rfl) (Nat.le_of_ble_eq_true rfl) ⟨rfl, rfl⟩
  · replace hq := oel_s hq
    obtain ⟨g5, hq⟩ := chk_some hq
    show xW _ _ _ _ 5 _ [.ref x4] (mem t2 Gb) _ _
    refine xi_astore_n (lv' := [(3, .ref x4), (0, .ref 0), (1, .int a), (2, .int b)]) dX11_greedy_5 (by decide) rfl ?_
    refine xi_aload_n 0 dX11_greedy_6 rfl ?_
    refine xi_ifnull dX11_greedy_7 ?_
    refine xi_iload_n 3 dX11_greedy_10 rfl ?_
    obtain ⟨v7, t8, k9, hq⟩ := bnd_some hq
    refine xi_callS (as := [.int b]) (rest := []) dX11_greedy_11 (KX11_isPriced G Gb b _ _ _ k9) mkX11_isPriced w_620 w_619 rfl rfl (Nat.le_of_ble_eq_true rfl) (Nat.le_of_ble_eq_true rfl) (Nat.le_of_ble_eq_true rfl) (Nat.le_of_ble_eq_true rfl) (Nat.le_of_ble_eq_true rfl) ?_
    intro v M2 hz
    obtain ⟨rfl, rfl⟩ := hz
    show xW _ _ _ _ 14 _ [.int v7] (mem t8 Gb) _ _
    refine xi_if_ne (tgt := 20) dX11_greedy_14 (by decide) (fun c10 => ?_) (fun c10 => ?_)
    · replace hq := ite_n c10 hq
      refine xi_aload_n 1 dX11_greedy_20 rfl ?_
      refine yi_getR (f := 8) dX11_greedy_21 sh_0 rfl ok_8 (by decide) w_250 rfl ?_
      refine xi_aload_n 0 dX11_greedy_24 rfl ?_
      obtain ⟨v11, t12, k13, hq⟩ := bnd_some hq
      refine xi_callV (as := [.ref x4]) (rest := []) dX11_greedy_25 (KX5_copyFrom G Gb 141 x4 _ _ _ k13) mkX5_copyFrom w_445 w_446 w_444 (mem_get sh_141) rfl rfl rfl rfl (Nat.le_of_ble_eq_true rfl) (Nat.le_of_ble_eq_true rfl) (Nat.le_of_ble_eq_true rfl) (Nat.le_of_ble_eq_true rfl) (Nat.le_of_ble_eq_true rfl) ?_
      intro v M2 hz
      obtain ⟨rfl, rfl⟩ := hz
      show xW _ _ _ _ 28 _ [] (mem t12 Gb) _ _
      refine xi_aload_n 0 dX11_greedy_28 rfl ?_
      refine xi_iload_n 3 dX11_greedy_29 rfl ?_
      obtain ⟨v14, t15, k16, hq⟩ := bnd_some hq
      refine xi_callS (as := [.ref x4, .int b]) (rest := []) dX11_greedy_30 (KX8_makeGreedy G Gb x4 b _ _ _ k16) mkX8_makeGreedy w_917 w_916 rfl rfl (Nat.le_of_ble_eq_true rfl) (Nat.le_of_ble_eq_true rfl) (Nat.le_of_ble_eq_true rfl) (Nat.le_of_ble_eq_true rfl) (Nat.le_of_ble_eq_true rfl) ?_
      intro v M2 hz
      obtain ⟨rfl, rfl⟩ := hz
      show xW _ _ _ _ 33 _ [] (mem t15 Gb) _ _
      refine xi_aload_n 1 dX11_greedy_33 rfl ?_
      refine xi_iload_n 2 dX11_greedy_34 rfl ?_
      obtain ⟨v17, t18, k19, hq⟩ := bnd_some hq
      refine xi_callV (as := [.int a]) (rest := []) dX11_greedy_35 (KX11_noteAct G Gb a _ _ _ k19) mkX11_noteAct w_453 ws_13 w_451 (mem_get sh_0) rfl rfl rfl rfl (Nat.le_of_ble_eq_true rfl) (Nat.le_of_ble_eq_true rfl) (Nat.le_of_ble_eq_true rfl) (Nat.le_of_ble_eq_true rfl) (Nat.le_of_ble_eq_true rfl) ?_
      intro v M2 hz
      obtain ⟨rfl, rfl⟩ := hz
      show xW _ _ _ _ 38 _ [] (mem t18 Gb) _ _
      refine xi_aload_n 0 dX11_greedy_38 rfl ?_
      refine xi_iload_n 3 dX11_greedy_39 rfl ?_
      obtain ⟨v20, t21, k22, hq⟩ := bnd_some hq
      refine xi_callS (as := [.ref x4, .int b]) (rest := []) dX11_greedy_40 (KX8_measured G Gb x4 b _ _ _ k22) mkX8_measured w_572 w_571 rfl rfl (Nat.le_of_ble_eq_true rfl) (Nat.le_of_ble_eq_true rfl) (Nat.le_of_ble_eq_true rfl) (Nat.le_of_ble_eq_true rfl) (Nat.le_of_ble_eq_true rfl) ?_
      intro v M2 hz
      obtain ⟨rfl, rfl⟩ := hz
      show xW _ _ _ _ 43 _ [.int v20] (mem t21 Gb) _ _
      have r23 := some_pair hq
      obtain ⟨rfl, rfl⟩ := r23
      exact xi_iret dX11_greedy_43 rfl rfl (Nat.le_of_ble_eq_true rfl) (Nat.le_of_ble_eq_true rfl) ⟨rfl, rfl⟩
    · replace hq := ite_p c10 hq
      refine xi_bipush (v := (-2)) dX11_greedy_17 (by decide) ?_
      have r24 := some_pair hq
      obtain ⟨rfl, rfl⟩ := r24
      exact xi_iret dX11_greedy_19 rfl rfl (Nat.le_of_ble_eq_true rfl) (Nat.le_of_ble_eq_true rfl) ⟨rfl, rfl⟩
noncomputable def FX11_halve (a : Int32) (σ : St) : Option ((Int32) × St) :=
  (bnd (FX11_netIn a σ) (fun v1 t2 => (Option.elim v1 (some ((-2 : Int32), t2)) (fun x4 => (chk (netAt x4) (bnd (FX10_thinnestHalf x4 t2) (fun v7 t8 => (some (v7, t8)))))))))
set_option maxHeartbeats 4000000 in
set_option maxRecDepth 100000 in
theorem KX11_halve (G : xG) (Gb : xMem) (a : Int32) (σ : St) (r0 : Int32) (t0 : St) (hq : FX11_halve a σ = some (r0, t0)) : xC G mX11_halve 3 0 0 [.ref 0, .int a] (mem σ Gb) (PQ r0 t0 Gb) := by
  unfold FX11_halve at hq
  refine xC.of (by decide) (Nat.le_of_ble_eq_true rfl) ?_
  show xW _ _ _ _ 0 [(0, .ref 0), (1, .int a)] [] _ 0 0
  refine xi_aload_n 0 dX11_halve_0 rfl ?_
  refine xi_iload_n 1 dX11_halve_1 rfl ?_
  obtain ⟨v1, t2, k3, hq⟩ := bnd_some hq
  refine xi_callV (as := [.int a]) (rest := []) dX11_halve_2 (KX11_netIn G Gb a _ _ _ k3) mkX11_netIn w_491 ws_15 w_489 (mem_get sh_0) rfl rfl rfl rfl (Nat.le_of_ble_eq_true rfl) (Nat.le_of_ble_eq_true rfl) (Nat.le_of_ble_eq_true rfl) (Nat.le_of_ble_eq_true rfl) (Nat.le_of_ble_eq_true rfl) ?_
  intro v M2 hz
  obtain ⟨rfl, rfl⟩ := hz
  rcases v1 with _ | x4
  · replace hq := oel_n hq
    show xW _ _ _ _ 5 _ [.null] (mem t2 Gb) _ _
    refine xi_astore_nN (lv' := [(2, .null), (0, .ref 0), (1, .int a)]) dX11_halve_5 (by decide) rfl ?_
    refine xi_aload_nN 0 dX11_halve_6 rfl ?_
    refine xi_ifnonnullN dX11_halve_7 ?_
    refine xi_bipush (v := (-2)) dX11_halve_10 (by decide) ?_
    refine xi_goto (tgt := 19) dX11_halve_12 (by decide) ?_
    have r6 := some_pair hq
    obtain ⟨rfl, rfl⟩ := r6
    exact xi_iret dX11_halve_19 rfl rfl (Nat.le_of_ble_eq_true rfl) (Nat.le_of_ble_eq_true rfl) ⟨rfl, rfl⟩
  · replace hq := oel_s hq
    obtain ⟨g5, hq⟩ := chk_some hq
    show xW _ _ _ _ 5 _ [.ref x4] (mem t2 Gb) _ _
    refine xi_astore_n (lv' := [(2, .ref x4), (0, .ref 0), (1, .int a)]) dX11_halve_5 (by decide) rfl ?_
    refine xi_aload_n 0 dX11_halve_6 rfl ?_
    refine xi_ifnonnull (tgt := 15) dX11_halve_7 (by decide) ?_
    refine xi_aload_n 0 dX11_halve_15 rfl ?_
    obtain ⟨v7, t8, k9, hq⟩ := bnd_some hq
    refine xi_callS (as := [.ref x4]) (rest := []) dX11_halve_16 (KX10_thinnestHalf G Gb x4 _ _ _ k9) mkX10_thinnestHalf w_832 w_831 rfl rfl (Nat.le_of_ble_eq_true rfl) (Nat.le_of_ble_eq_true rfl) (Nat.le_of_ble_eq_true rfl) (Nat.le_of_ble_eq_true rfl) (Nat.le_of_ble_eq_true rfl) ?_
    intro v M2 hz
    obtain ⟨rfl, rfl⟩ := hz
    show xW _ _ _ _ 19 _ [.int v7] (mem t8 Gb) _ _
    have r10 := some_pair hq
    obtain ⟨rfl, rfl⟩ := r10
    exact xi_iret dX11_halve_19 rfl rfl (Nat.le_of_ble_eq_true rfl) (Nat.le_of_ble_eq_true rfl) ⟨rfl, rfl⟩
noncomputable def FX11_layers (a : Int32) (b : Int32) (σ : St) : Option ((Int32) × St) :=
  (bnd (FX11_netIn a σ) (fun v1 t2 => (Option.elim v1 (some ((-2 : Int32), t2)) (fun x4 => (chk (netAt x4) (bnd (FX5_has x4 b t2) (fun v7 t8 => (if v7 = (0 : Int32) then (some ((-2 : Int32), t8)) else (bnd (FX5_copyFrom 141 x4 t8) (fun v11 t12 => (bnd (FX8_makeLayers x4 b t12) (fun v14 t15 => (bnd (FX11_noteAct a t15) (fun v17 t18 => (bnd (FX5_placesUnlike x4 141 t18) (fun v20 t21 => (some (v20, t21))))))))))))))))))
set_option maxHeartbeats 4000000 in
set_option maxRecDepth 100000 in
theorem KX11_layers (G : xG) (Gb : xMem) (a : Int32) (b : Int32) (σ : St) (r0 : Int32) (t0 : St) (hq : FX11_layers a b σ = some (r0, t0)) : xC G mX11_layers 4 0 0 [.ref 0, .int a, .int b] (mem σ Gb) (PQ r0 t0 Gb) := by
  unfold FX11_layers at hq
  refine xC.of (by decide) (Nat.le_of_ble_eq_true rfl) ?_
  show xW _ _ _ _ 0 [(0, .ref 0), (1, .int a), (2, .int b)] [] _ 0 0
  refine xi_aload_n 0 dX11_layers_0 rfl ?_
  refine xi_iload_n 1 dX11_layers_1 rfl ?_
  obtain ⟨v1, t2, k3, hq⟩ := bnd_some hq
  refine xi_callV (as := [.int a]) (rest := []) dX11_layers_2 (KX11_netIn G Gb a _ _ _ k3) mkX11_netIn w_491 ws_15 w_489 (mem_get sh_0) rfl rfl rfl rfl (Nat.le_of_ble_eq_true rfl) (Nat.le_of_ble_eq_true rfl) (Nat.le_of_ble_eq_true rfl) (Nat.le_of_ble_eq_true rfl) (Nat.le_of_ble_eq_true rfl) ?_
  intro v M2 hz
  obtain ⟨rfl, rfl⟩ := hz
  rcases v1 with _ | x4
  · replace hq := oel_n hq
    show xW _ _ _ _ 5 _ [.null] (mem t2 Gb) _ _
    refine xi_astore_nN (lv' := [(3, .null), (0, .ref 0), (1, .int a), (2, .int b)]) dX11_layers_5 (by decide) rfl ?_
    refine xi_aload_nN 0 dX11_layers_6 rfl ?_
    refine xi_ifnullN (tgt := 18) dX11_layers_7 (by decide) ?_
    refine xi_bipush (v := (-2)) dX11_layers_18 (by decide) ?_
    have r6 := some_pair hq
    obtain ⟨rfl, rfl⟩ := r6
    exact xi_iret dX11_layers_20 rfl rfl (Nat.le_of_ble_eq_true rfl) (Nat.le_of_ble_eq_true rfl) ⟨rfl, rfl⟩
  · replace hq := oel_s hq
    obtain ⟨g5, hq⟩ := chk_some hq
    show xW _ _ _ _ 5 _ [.ref x4] (mem t2 Gb) _ _
    refine xi_astore_n (lv' := [(3, .ref x4), (0, .ref 0), (1, .int a), (2, .int b)]) dX11_layers_5 (by decide) rfl ?_
    refine xi_aload_n 0 dX11_layers_6 rfl ?_
    refine xi_ifnull dX11_layers_7 ?_
    refine xi_aload_n 0 dX11_layers_10 rfl ?_
    refine xi_iload_n 3 dX11_layers_11 rfl ?_
    obtain ⟨v7, t8, k9, hq⟩ := bnd_some hq
    refine xi_callV (as := [.int b]) (rest := []) dX11_layers_12 (KX5_has G Gb x4 b _ _ _ k9) mkX5_has w_437 w_438 w_541 (mem_get (netAt_0 g5)) rfl rfl rfl rfl (Nat.le_of_ble_eq_true rfl) (Nat.le_of_ble_eq_true rfl) (Nat.le_of_ble_eq_true rfl) (Nat.le_of_ble_eq_true rfl) (Nat.le_of_ble_eq_true rfl) ?_
    intro v M2 hz
    obtain ⟨rfl, rfl⟩ := hz
    show xW _ _ _ _ 15 _ [.int v7] (mem t8 Gb) _ _
    refine xi_if_ne (tgt := 21) dX11_layers_15 (by decide) (fun c10 => ?_) (fun c10 => ?_)
    · replace hq := ite_n c10 hq
      refine xi_aload_n 1 dX11_layers_21 rfl ?_
      refine yi_getR (f := 8) dX11_layers_22 sh_0 rfl ok_8 (by decide) w_250 rfl ?_
      refine xi_aload_n 0 dX11_layers_25 rfl ?_
      obtain ⟨v11, t12, k13, hq⟩ := bnd_some hq
      refine xi_callV (as := [.ref x4]) (rest := []) dX11_layers_26 (KX5_copyFrom G Gb 141 x4 _ _ _ k13) mkX5_copyFrom w_445 w_446 w_444 (mem_get sh_141) rfl rfl rfl rfl (Nat.le_of_ble_eq_true rfl) (Nat.le_of_ble_eq_true rfl) (Nat.le_of_ble_eq_true rfl) (Nat.le_of_ble_eq_true rfl) (Nat.le_of_ble_eq_true rfl) ?_
      intro v M2 hz
      obtain ⟨rfl, rfl⟩ := hz
      show xW _ _ _ _ 29 _ [] (mem t12 Gb) _ _
      refine xi_aload_n 0 dX11_layers_29 rfl ?_
      refine xi_iload_n 3 dX11_layers_30 rfl ?_
      obtain ⟨v14, t15, k16, hq⟩ := bnd_some hq
      refine xi_callS (as := [.ref x4, .int b]) (rest := []) dX11_layers_31 (KX8_makeLayers G Gb x4 b _ _ _ k16) mkX8_makeLayers w_925 w_924 rfl rfl (Nat.le_of_ble_eq_true rfl) (Nat.le_of_ble_eq_true rfl) (Nat.le_of_ble_eq_true rfl) (Nat.le_of_ble_eq_true rfl) (Nat.le_of_ble_eq_true rfl) ?_
      intro v M2 hz
      obtain ⟨rfl, rfl⟩ := hz
      show xW _ _ _ _ 34 _ [] (mem t15 Gb) _ _
      refine xi_aload_n 1 dX11_layers_34 rfl ?_
      refine xi_iload_n 2 dX11_layers_35 rfl ?_
      obtain ⟨v17, t18, k19, hq⟩ := bnd_some hq
      refine xi_callV (as := [.int a]) (rest := []) dX11_layers_36 (KX11_noteAct G Gb a _ _ _ k19) mkX11_noteAct w_453 ws_13 w_451 (mem_get sh_0) rfl rfl rfl rfl (Nat.le_of_ble_eq_true rfl) (Nat.le_of_ble_eq_true rfl) (Nat.le_of_ble_eq_true rfl) (Nat.le_of_ble_eq_true rfl) (Nat.le_of_ble_eq_true rfl) ?_
      intro v M2 hz
      obtain ⟨rfl, rfl⟩ := hz
      show xW _ _ _ _ 39 _ [] (mem t18 Gb) _ _
      refine xi_aload_n 0 dX11_layers_39 rfl ?_
      refine xi_aload_n 1 dX11_layers_40 rfl ?_
      refine yi_getR (f := 8) dX11_layers_41 sh_0 rfl ok_8 (by decide) w_250 rfl ?_
      obtain ⟨v20, t21, k22, hq⟩ := bnd_some hq
      refine xi_callV (as := [.ref 141]) (rest := []) dX11_layers_44 (KX5_placesUnlike G Gb x4 141 _ _ _ k22) mkX5_placesUnlike w_464 w_465 w_895 (mem_get (netAt_0 g5)) rfl rfl rfl rfl (Nat.le_of_ble_eq_true rfl) (Nat.le_of_ble_eq_true rfl) (Nat.le_of_ble_eq_true rfl) (Nat.le_of_ble_eq_true rfl) (Nat.le_of_ble_eq_true rfl) ?_
      intro v M2 hz
      obtain ⟨rfl, rfl⟩ := hz
      show xW _ _ _ _ 47 _ [.int v20] (mem t21 Gb) _ _
      have r23 := some_pair hq
      obtain ⟨rfl, rfl⟩ := r23
      exact xi_iret dX11_layers_47 rfl rfl (Nat.le_of_ble_eq_true rfl) (Nat.le_of_ble_eq_true rfl) ⟨rfl, rfl⟩
    · replace hq := ite_p c10 hq
      refine xi_bipush (v := (-2)) dX11_layers_18 (by decide) ?_
      have r24 := some_pair hq
      obtain ⟨rfl, rfl⟩ := r24
      exact xi_iret dX11_layers_20 rfl rfl (Nat.le_of_ble_eq_true rfl) (Nat.le_of_ble_eq_true rfl) ⟨rfl, rfl⟩
noncomputable def FX11_least (a : Int32) (b : Int32) (σ : St) : Option ((Int32) × St) :=
  (bnd (FX11_findingOf a b σ) (fun v1 t2 => (Option.elim v1 (some ((-2 : Int32), t2)) (fun x4 => (chk (findAt x4) (rdb t2 x4 (1) (fun v7 => (some (v7, t2)))))))))
set_option maxHeartbeats 4000000 in
set_option maxRecDepth 100000 in
theorem KX11_least (G : xG) (Gb : xMem) (a : Int32) (b : Int32) (σ : St) (r0 : Int32) (t0 : St) (hq : FX11_least a b σ = some (r0, t0)) : xC G mX11_least 17 0 0 [.ref 0, .int a, .int b] (mem σ Gb) (PQ r0 t0 Gb) := by
  unfold FX11_least at hq
  refine xC.of (by decide) (Nat.le_of_ble_eq_true rfl) ?_
  show xW _ _ _ _ 0 [(0, .ref 0), (1, .int a), (2, .int b)] [] _ 0 0
  refine xi_aload_n 0 dX11_least_0 rfl ?_
  refine xi_iload_n 1 dX11_least_1 rfl ?_
  refine xi_iload_n 2 dX11_least_2 rfl ?_
  obtain ⟨v1, t2, k3, hq⟩ := bnd_some hq
  refine xi_callV (as := [.int a, .int b]) (rest := []) dX11_least_3 (KX11_findingOf G Gb a b _ _ _ k3) mkX11_findingOf w_659 ws_16 w_657 (mem_get sh_0) rfl rfl rfl rfl (Nat.le_of_ble_eq_true rfl) (Nat.le_of_ble_eq_true rfl) (Nat.le_of_ble_eq_true rfl) (Nat.le_of_ble_eq_true rfl) (Nat.le_of_ble_eq_true rfl) ?_
  intro v M2 hz
  obtain ⟨rfl, rfl⟩ := hz
  rcases v1 with _ | x4
  · replace hq := oel_n hq
    show xW _ _ _ _ 6 _ [.null] (mem t2 Gb) _ _
    refine xi_astore_nN (lv' := [(3, .null), (0, .ref 0), (1, .int a), (2, .int b)]) dX11_least_6 (by decide) rfl ?_
    refine xi_aload_nN 0 dX11_least_7 rfl ?_
    refine xi_ifnonnullN dX11_least_8 ?_
    refine xi_bipush (v := (-2)) dX11_least_11 (by decide) ?_
    refine xi_goto (tgt := 20) dX11_least_13 (by decide) ?_
    have r6 := some_pair hq
    obtain ⟨rfl, rfl⟩ := r6
    exact xi_iret dX11_least_20 rfl rfl (Nat.le_of_ble_eq_true rfl) (Nat.le_of_ble_eq_true rfl) ⟨rfl, rfl⟩
  · replace hq := oel_s hq
    obtain ⟨g5, hq⟩ := chk_some hq
    show xW _ _ _ _ 6 _ [.ref x4] (mem t2 Gb) _ _
    refine xi_astore_n (lv' := [(3, .ref x4), (0, .ref 0), (1, .int a), (2, .int b)]) dX11_least_6 (by decide) rfl ?_
    refine xi_aload_n 0 dX11_least_7 rfl ?_
    refine xi_ifnonnull (tgt := 16) dX11_least_8 (by decide) ?_
    refine xi_aload_n 0 dX11_least_16 rfl ?_
    obtain ⟨v7, h8, hq⟩ := rdb_some hq
    refine yi_getV (f := 1) dX11_least_17 (findAt_0 g5) rfl ok_2 (by decide) w_147 rfl h8 ?_
    have r9 := some_pair hq
    obtain ⟨rfl, rfl⟩ := r9
    exact xi_iret dX11_least_20 rfl rfl (Nat.le_of_ble_eq_true rfl) (Nat.le_of_ble_eq_true rfl) ⟨rfl, rfl⟩
noncomputable def FX11_line (a : Int32) (b : Int32) (c : Int32) (σ : St) : Option ((Int32) × St) :=
  (bnd (FX11_netIn a σ) (fun v1 t2 => (Option.elim v1 (some ((-2 : Int32), t2)) (fun x4 => (chk (netAt x4) (bnd (FX5_has x4 b t2) (fun v7 t8 => (if v7 = (0 : Int32) then (some ((-2 : Int32), t8)) else (bnd (FX5_has x4 c t8) (fun v12 t13 => (if v12 = (0 : Int32) then (some ((-2 : Int32), t13)) else (bnd (FX5_weightOf x4 b c t13) (fun v16 t17 => (some (v16, t17)))))))))))))))
set_option maxHeartbeats 4000000 in
set_option maxRecDepth 100000 in
theorem KX11_line (G : xG) (Gb : xMem) (a : Int32) (b : Int32) (c : Int32) (σ : St) (r0 : Int32) (t0 : St) (hq : FX11_line a b c σ = some (r0, t0)) : xC G mX11_line 2 0 0 [.ref 0, .int a, .int b, .int c] (mem σ Gb) (PQ r0 t0 Gb) := by
  unfold FX11_line at hq
  refine xC.of (by decide) (Nat.le_of_ble_eq_true rfl) ?_
  show xW _ _ _ _ 0 [(0, .ref 0), (1, .int a), (2, .int b), (3, .int c)] [] _ 0 0
  refine xi_aload_n 0 dX11_line_0 rfl ?_
  refine xi_iload_n 1 dX11_line_1 rfl ?_
  obtain ⟨v1, t2, k3, hq⟩ := bnd_some hq
  refine xi_callV (as := [.int a]) (rest := []) dX11_line_2 (KX11_netIn G Gb a _ _ _ k3) mkX11_netIn w_491 ws_15 w_489 (mem_get sh_0) rfl rfl rfl rfl (Nat.le_of_ble_eq_true rfl) (Nat.le_of_ble_eq_true rfl) (Nat.le_of_ble_eq_true rfl) (Nat.le_of_ble_eq_true rfl) (Nat.le_of_ble_eq_true rfl) ?_
  intro v M2 hz
  obtain ⟨rfl, rfl⟩ := hz
  rcases v1 with _ | x4
  · replace hq := oel_n hq
    show xW _ _ _ _ 5 _ [.null] (mem t2 Gb) _ _
    refine xi_astoreN (lv' := [(4, .null), (0, .ref 0), (1, .int a), (2, .int b), (3, .int c)]) dX11_line_5 (by decide) rfl ?_
    refine xi_aloadN 0 dX11_line_7 rfl ?_
    refine xi_ifnullN (tgt := 30) dX11_line_9 (by decide) ?_
    refine xi_bipush (v := (-2)) dX11_line_30 (by decide) ?_
    refine xi_goto (tgt := 42) dX11_line_32 (by decide) ?_
    have r6 := some_pair hq
    obtain ⟨rfl, rfl⟩ := r6
    exact xi_iret dX11_line_42 rfl rfl (Nat.le_of_ble_eq_true rfl) (Nat.le_of_ble_eq_true rfl) ⟨rfl, rfl⟩
  · replace hq := oel_s hq
    obtain ⟨g5, hq⟩ := chk_some hq
    show xW _ _ _ _ 5 _ [.ref x4] (mem t2 Gb) _ _
    refine xi_astore (lv' := [(4, .ref x4), (0, .ref 0), (1, .int a), (2, .int b), (3, .int c)]) dX11_line_5 (by decide) rfl ?_
    refine xi_aload 0 dX11_line_7 rfl ?_
    refine xi_ifnull dX11_line_9 ?_
    refine xi_aload 0 dX11_line_12 rfl ?_
    refine xi_iload_n 3 dX11_line_14 rfl ?_
    obtain ⟨v7, t8, k9, hq⟩ := bnd_some hq
    refine xi_callV (as := [.int b]) (rest := []) dX11_line_15 (KX5_has G Gb x4 b _ _ _ k9) mkX5_has w_437 w_438 w_541 (mem_get (netAt_0 g5)) rfl rfl rfl rfl (Nat.le_of_ble_eq_true rfl) (Nat.le_of_ble_eq_true rfl) (Nat.le_of_ble_eq_true rfl) (Nat.le_of_ble_eq_true rfl) (Nat.le_of_ble_eq_true rfl) ?_
    intro v M2 hz
    obtain ⟨rfl, rfl⟩ := hz
    show xW _ _ _ _ 18 _ [.int v7] (mem t8 Gb) _ _
    refine xi_if_eq (tgt := 30) dX11_line_18 (by decide) (fun c10 => ?_) (fun c10 => ?_)
    · replace hq := ite_p c10 hq
      refine xi_bipush (v := (-2)) dX11_line_30 (by decide) ?_
      refine xi_goto (tgt := 42) dX11_line_32 (by decide) ?_
      have r11 := some_pair hq
      obtain ⟨rfl, rfl⟩ := r11
      exact xi_iret dX11_line_42 rfl rfl (Nat.le_of_ble_eq_true rfl) (Nat.le_of_ble_eq_true rfl) ⟨rfl, rfl⟩
    · replace hq := ite_n c10 hq
      refine xi_aload 0 dX11_line_21 rfl ?_
      refine xi_iload_n 4 dX11_line_23 rfl ?_
      obtain ⟨v12, t13, k14, hq⟩ := bnd_some hq
      refine xi_callV (as := [.int c]) (rest := []) dX11_line_24 (KX5_has G Gb x4 c _ _ _ k14) mkX5_has w_437 w_438 w_541 (mem_get (netAt_0 g5)) rfl rfl rfl rfl (Nat.le_of_ble_eq_true rfl) (Nat.le_of_ble_eq_true rfl) (Nat.le_of_ble_eq_true rfl) (Nat.le_of_ble_eq_true rfl) (Nat.le_of_ble_eq_true rfl) ?_
      intro v M2 hz
      obtain ⟨rfl, rfl⟩ := hz
      show xW _ _ _ _ 27 _ [.int v12] (mem t13 Gb) _ _
      refine xi_if_ne (tgt := 35) dX11_line_27 (by decide) (fun c15 => ?_) (fun c15 => ?_)
      · replace hq := ite_n c15 hq
        refine xi_aload 0 dX11_line_35 rfl ?_
        refine xi_iload_n 3 dX11_line_37 rfl ?_
        refine xi_iload_n 4 dX11_line_38 rfl ?_
        obtain ⟨v16, t17, k18, hq⟩ := bnd_some hq
        refine xi_callV (as := [.int b, .int c]) (rest := []) dX11_line_39 (KX5_weightOf G Gb x4 b c _ _ _ k18) mkX5_weightOf w_415 w_416 w_546 (mem_get (netAt_0 g5)) rfl rfl rfl rfl (Nat.le_of_ble_eq_true rfl) (Nat.le_of_ble_eq_true rfl) (Nat.le_of_ble_eq_true rfl) (Nat.le_of_ble_eq_true rfl) (Nat.le_of_ble_eq_true rfl) ?_
        intro v M2 hz
        obtain ⟨rfl, rfl⟩ := hz
        show xW _ _ _ _ 42 _ [.int v16] (mem t17 Gb) _ _
        have r19 := some_pair hq
        obtain ⟨rfl, rfl⟩ := r19
        exact xi_iret dX11_line_42 rfl rfl (Nat.le_of_ble_eq_true rfl) (Nat.le_of_ble_eq_true rfl) ⟨rfl, rfl⟩
      · replace hq := ite_p c15 hq
        refine xi_bipush (v := (-2)) dX11_line_30 (by decide) ?_
        refine xi_goto (tgt := 42) dX11_line_32 (by decide) ?_
        have r20 := some_pair hq
        obtain ⟨rfl, rfl⟩ := r20
        exact xi_iret dX11_line_42 rfl rfl (Nat.le_of_ble_eq_true rfl) (Nat.le_of_ble_eq_true rfl) ⟨rfl, rfl⟩
noncomputable def FX11_longest (a : Int32) (σ : St) : Option ((Int32) × St) :=
  (bnd (FX11_netIn a σ) (fun v1 t2 => (Option.elim v1 (some ((-2 : Int32), t2)) (fun x4 => (chk (netAt x4) (bnd (FX8_longestLine x4 t2) (fun v7 t8 => (some (v7, t8)))))))))
set_option maxHeartbeats 4000000 in
set_option maxRecDepth 100000 in
theorem KX11_longest (G : xG) (Gb : xMem) (a : Int32) (σ : St) (r0 : Int32) (t0 : St) (hq : FX11_longest a σ = some (r0, t0)) : xC G mX11_longest 2 0 0 [.ref 0, .int a] (mem σ Gb) (PQ r0 t0 Gb) := by
  unfold FX11_longest at hq
  refine xC.of (by decide) (Nat.le_of_ble_eq_true rfl) ?_
  show xW _ _ _ _ 0 [(0, .ref 0), (1, .int a)] [] _ 0 0
  refine xi_aload_n 0 dX11_longest_0 rfl ?_
  refine xi_iload_n 1 dX11_longest_1 rfl ?_
  obtain ⟨v1, t2, k3, hq⟩ := bnd_some hq
  refine xi_callV (as := [.int a]) (rest := []) dX11_longest_2 (KX11_netIn G Gb a _ _ _ k3) mkX11_netIn w_491 ws_15 w_489 (mem_get sh_0) rfl rfl rfl rfl (Nat.le_of_ble_eq_true rfl) (Nat.le_of_ble_eq_true rfl) (Nat.le_of_ble_eq_true rfl) (Nat.le_of_ble_eq_true rfl) (Nat.le_of_ble_eq_true rfl) ?_
  intro v M2 hz
  obtain ⟨rfl, rfl⟩ := hz
  rcases v1 with _ | x4
  · replace hq := oel_n hq
    show xW _ _ _ _ 5 _ [.null] (mem t2 Gb) _ _
    refine xi_astore_nN (lv' := [(2, .null), (0, .ref 0), (1, .int a)]) dX11_longest_5 (by decide) rfl ?_
    refine xi_aload_nN 0 dX11_longest_6 rfl ?_
    refine xi_ifnonnullN dX11_longest_7 ?_
    refine xi_bipush (v := (-2)) dX11_longest_10 (by decide) ?_
    refine xi_goto (tgt := 19) dX11_longest_12 (by decide) ?_
    have r6 := some_pair hq
    obtain ⟨rfl, rfl⟩ := r6
    exact xi_iret dX11_longest_19 rfl rfl (Nat.le_of_ble_eq_true rfl) (Nat.le_of_ble_eq_true rfl) ⟨rfl, rfl⟩
  · replace hq := oel_s hq
    obtain ⟨g5, hq⟩ := chk_some hq
    show xW _ _ _ _ 5 _ [.ref x4] (mem t2 Gb) _ _
    refine xi_astore_n (lv' := [(2, .ref x4), (0, .ref 0), (1, .int a)]) dX11_longest_5 (by decide) rfl ?_
    refine xi_aload_n 0 dX11_longest_6 rfl ?_
    refine xi_ifnonnull (tgt := 15) dX11_longest_7 (by decide) ?_
    refine xi_aload_n 0 dX11_longest_15 rfl ?_
    obtain ⟨v7, t8, k9, hq⟩ := bnd_some hq
    refine xi_callS (as := [.ref x4]) (rest := []) dX11_longest_16 (KX8_longestLine G Gb x4 _ _ _ k9) mkX8_longestLine w_647 w_646 rfl rfl (Nat.le_of_ble_eq_true rfl) (Nat.le_of_ble_eq_true rfl) (Nat.le_of_ble_eq_true rfl) (Nat.le_of_ble_eq_true rfl) (Nat.le_of_ble_eq_true rfl) ?_
    intro v M2 hz
    obtain ⟨rfl, rfl⟩ := hz
    show xW _ _ _ _ 19 _ [.int v7] (mem t8 Gb) _ _
    have r10 := some_pair hq
    obtain ⟨rfl, rfl⟩ := r10
    exact xi_iret dX11_longest_19 rfl rfl (Nat.le_of_ble_eq_true rfl) (Nat.le_of_ble_eq_true rfl) ⟨rfl, rfl⟩
noncomputable def FX11_look (a : Int32) (b : Int32) (σ : St) : Option ((Int32) × St) :=
  (bnd (FX11_netIn a σ) (fun v1 t2 => (Option.elim v1 (some ((-2 : Int32), t2)) (fun x4 => (chk (netAt x4) (if b = 0 then (rdb t2 x4 (0) (fun v8 => (some (v8, t2)))) else (if b = 1 then (rdb t2 x4 (1) (fun v12 => (some (v12, t2)))) else (if b = 2 then (bnd (FX10_wholeWeight x4 t2) (fun v16 t17 => (some (v16, t17)))) else (if b = 3 then (bnd (FX10_mostLinesAtPoint x4 t2) (fun v21 t22 => (some (v21, t22)))) else (if b = 4 then (bnd (FX10_partCount x4 t2) (fun v26 t27 => (some (v26, t27)))) else (if b = 5 then (bnd (FX10_diameter x4 t2) (fun v31 t32 => (some (v31, t32)))) else (if b = 6 then (bnd (FX10_core x4 t2) (fun v36 t37 => (some (v36, t37)))) else (some ((-2 : Int32), t2))))))))))))))
set_option maxHeartbeats 4000000 in
set_option maxRecDepth 100000 in
theorem KX11_look (G : xG) (Gb : xMem) (a : Int32) (b : Int32) (σ : St) (r0 : Int32) (t0 : St) (hq : FX11_look a b σ = some (r0, t0)) : xC G mX11_look 3 0 0 [.ref 0, .int a, .int b] (mem σ Gb) (PQ r0 t0 Gb) := by
  unfold FX11_look at hq
  refine xC.of (by decide) (Nat.le_of_ble_eq_true rfl) ?_
  show xW _ _ _ _ 0 [(0, .ref 0), (1, .int a), (2, .int b)] [] _ 0 0
  refine xi_aload_n 0 dX11_look_0 rfl ?_
  refine xi_iload_n 1 dX11_look_1 rfl ?_
  obtain ⟨v1, t2, k3, hq⟩ := bnd_some hq
  refine xi_callV (as := [.int a]) (rest := []) dX11_look_2 (KX11_netIn G Gb a _ _ _ k3) mkX11_netIn w_491 ws_15 w_489 (mem_get sh_0) rfl rfl rfl rfl (Nat.le_of_ble_eq_true rfl) (Nat.le_of_ble_eq_true rfl) (Nat.le_of_ble_eq_true rfl) (Nat.le_of_ble_eq_true rfl) (Nat.le_of_ble_eq_true rfl) ?_
  intro v M2 hz
  obtain ⟨rfl, rfl⟩ := hz
  rcases v1 with _ | x4
  · replace hq := oel_n hq
    show xW _ _ _ _ 5 _ [.null] (mem t2 Gb) _ _
    refine xi_astore_nN (lv' := [(3, .null), (0, .ref 0), (1, .int a), (2, .int b)]) dX11_look_5 (by decide) rfl ?_
    refine xi_aload_nN 0 dX11_look_6 rfl ?_
    refine xi_ifnonnullN dX11_look_7 ?_
    refine xi_bipush (v := (-2)) dX11_look_10 (by decide) ?_
    have r6 := some_pair hq
    obtain ⟨rfl, rfl⟩ := r6
    exact xi_iret dX11_look_12 rfl rfl (Nat.le_of_ble_eq_true rfl) (Nat.le_of_ble_eq_true rfl) ⟨rfl, rfl⟩
  · replace hq := oel_s hq
    obtain ⟨g5, hq⟩ := chk_some hq
    show xW _ _ _ _ 5 _ [.ref x4] (mem t2 Gb) _ _
    refine xi_astore_n (lv' := [(3, .ref x4), (0, .ref 0), (1, .int a), (2, .int b)]) dX11_look_5 (by decide) rfl ?_
    refine xi_aload_n 0 dX11_look_6 rfl ?_
    refine xi_ifnonnull (tgt := 13) dX11_look_7 (by decide) ?_
    refine xi_iload_n 3 dX11_look_13 rfl ?_
    by_cases c7 : b = 0
    · replace hq := ite_p c7 hq
      refine xi_tableIn (off := 42) (tgt := 56) dX11_look_14 (by rw [c7]; decide) (by rw [c7]; decide) (by rw [c7]; decide) (by decide) ?_
      refine xi_aload_n 0 dX11_look_56 rfl ?_
      obtain ⟨v8, h9, hq⟩ := rdb_some hq
      refine yi_getV (f := 0) dX11_look_57 (netAt_0 g5) rfl ok_5 (by decide) w_66 rfl h9 ?_
      have r10 := some_pair hq
      obtain ⟨rfl, rfl⟩ := r10
      exact xi_iret dX11_look_60 rfl rfl (Nat.le_of_ble_eq_true rfl) (Nat.le_of_ble_eq_true rfl) ⟨rfl, rfl⟩
    replace hq := ite_n c7 hq
    by_cases c11 : b = 1
    · replace hq := ite_p c11 hq
      refine xi_tableIn (off := 47) (tgt := 61) dX11_look_14 (by rw [c11]; decide) (by rw [c11]; decide) (by rw [c11]; decide) (by decide) ?_
      refine xi_aload_n 0 dX11_look_61 rfl ?_
      obtain ⟨v12, h13, hq⟩ := rdb_some hq
      refine yi_getV (f := 1) dX11_look_62 (netAt_0 g5) rfl ok_5 (by decide) w_70 rfl h13 ?_
      have r14 := some_pair hq
      obtain ⟨rfl, rfl⟩ := r14
      exact xi_iret dX11_look_65 rfl rfl (Nat.le_of_ble_eq_true rfl) (Nat.le_of_ble_eq_true rfl) ⟨rfl, rfl⟩
    replace hq := ite_n c11 hq
    by_cases c15 : b = 2
    · replace hq := ite_p c15 hq
      refine xi_tableIn (off := 52) (tgt := 66) dX11_look_14 (by rw [c15]; decide) (by rw [c15]; decide) (by rw [c15]; decide) (by decide) ?_
      refine xi_aload_n 0 dX11_look_66 rfl ?_
      obtain ⟨v16, t17, k18, hq⟩ := bnd_some hq
      refine xi_callS (as := [.ref x4]) (rest := []) dX11_look_67 (KX10_wholeWeight G Gb x4 _ _ _ k18) mkX10_wholeWeight w_494 w_493 rfl rfl (Nat.le_of_ble_eq_true rfl) (Nat.le_of_ble_eq_true rfl) (Nat.le_of_ble_eq_true rfl) (Nat.le_of_ble_eq_true rfl) (Nat.le_of_ble_eq_true rfl) ?_
      intro v M2 hz
      obtain ⟨rfl, rfl⟩ := hz
      show xW _ _ _ _ 70 _ [.int v16] (mem t17 Gb) _ _
      have r19 := some_pair hq
      obtain ⟨rfl, rfl⟩ := r19
      exact xi_iret dX11_look_70 rfl rfl (Nat.le_of_ble_eq_true rfl) (Nat.le_of_ble_eq_true rfl) ⟨rfl, rfl⟩
    replace hq := ite_n c15 hq
    by_cases c20 : b = 3
    · replace hq := ite_p c20 hq
      refine xi_tableIn (off := 57) (tgt := 71) dX11_look_14 (by rw [c20]; decide) (by rw [c20]; decide) (by rw [c20]; decide) (by decide) ?_
      refine xi_aload_n 0 dX11_look_71 rfl ?_
      obtain ⟨v21, t22, k23, hq⟩ := bnd_some hq
      refine xi_callS (as := [.ref x4]) (rest := []) dX11_look_72 (KX10_mostLinesAtPoint G Gb x4 _ _ _ k23) mkX10_mostLinesAtPoint w_501 w_500 rfl rfl (Nat.le_of_ble_eq_true rfl) (Nat.le_of_ble_eq_true rfl) (Nat.le_of_ble_eq_true rfl) (Nat.le_of_ble_eq_true rfl) (Nat.le_of_ble_eq_true rfl) ?_
      intro v M2 hz
      obtain ⟨rfl, rfl⟩ := hz
      show xW _ _ _ _ 75 _ [.int v21] (mem t22 Gb) _ _
      have r24 := some_pair hq
      obtain ⟨rfl, rfl⟩ := r24
      exact xi_iret dX11_look_75 rfl rfl (Nat.le_of_ble_eq_true rfl) (Nat.le_of_ble_eq_true rfl) ⟨rfl, rfl⟩
    replace hq := ite_n c20 hq
    by_cases c25 : b = 4
    · replace hq := ite_p c25 hq
      refine xi_tableIn (off := 62) (tgt := 76) dX11_look_14 (by rw [c25]; decide) (by rw [c25]; decide) (by rw [c25]; decide) (by decide) ?_
      refine xi_aload_n 0 dX11_look_76 rfl ?_
      obtain ⟨v26, t27, k28, hq⟩ := bnd_some hq
      refine xi_callS (as := [.ref x4]) (rest := []) dX11_look_77 (KX10_partCount G Gb x4 _ _ _ k28) mkX10_partCount w_515 w_514 rfl rfl (Nat.le_of_ble_eq_true rfl) (Nat.le_of_ble_eq_true rfl) (Nat.le_of_ble_eq_true rfl) (Nat.le_of_ble_eq_true rfl) (Nat.le_of_ble_eq_true rfl) ?_
      intro v M2 hz
      obtain ⟨rfl, rfl⟩ := hz
      show xW _ _ _ _ 80 _ [.int v26] (mem t27 Gb) _ _
      have r29 := some_pair hq
      obtain ⟨rfl, rfl⟩ := r29
      exact xi_iret dX11_look_80 rfl rfl (Nat.le_of_ble_eq_true rfl) (Nat.le_of_ble_eq_true rfl) ⟨rfl, rfl⟩
    replace hq := ite_n c25 hq
    by_cases c30 : b = 5
    · replace hq := ite_p c30 hq
      refine xi_tableIn (off := 67) (tgt := 81) dX11_look_14 (by rw [c30]; decide) (by rw [c30]; decide) (by rw [c30]; decide) (by decide) ?_
      refine xi_aload_n 0 dX11_look_81 rfl ?_
      obtain ⟨v31, t32, k33, hq⟩ := bnd_some hq
      refine xi_callS (as := [.ref x4]) (rest := []) dX11_look_82 (KX10_diameter G Gb x4 _ _ _ k33) mkX10_diameter w_524 w_523 rfl rfl (Nat.le_of_ble_eq_true rfl) (Nat.le_of_ble_eq_true rfl) (Nat.le_of_ble_eq_true rfl) (Nat.le_of_ble_eq_true rfl) (Nat.le_of_ble_eq_true rfl) ?_
      intro v M2 hz
      obtain ⟨rfl, rfl⟩ := hz
      show xW _ _ _ _ 85 _ [.int v31] (mem t32 Gb) _ _
      have r34 := some_pair hq
      obtain ⟨rfl, rfl⟩ := r34
      exact xi_iret dX11_look_85 rfl rfl (Nat.le_of_ble_eq_true rfl) (Nat.le_of_ble_eq_true rfl) ⟨rfl, rfl⟩
    replace hq := ite_n c30 hq
    by_cases c35 : b = 6
    · replace hq := ite_p c35 hq
      refine xi_tableIn (off := 72) (tgt := 86) dX11_look_14 (by rw [c35]; decide) (by rw [c35]; decide) (by rw [c35]; decide) (by decide) ?_
      refine xi_aload_n 0 dX11_look_86 rfl ?_
      obtain ⟨v36, t37, k38, hq⟩ := bnd_some hq
      refine xi_callS (as := [.ref x4]) (rest := []) dX11_look_87 (KX10_core G Gb x4 _ _ _ k38) mkX10_core w_530 w_529 rfl rfl (Nat.le_of_ble_eq_true rfl) (Nat.le_of_ble_eq_true rfl) (Nat.le_of_ble_eq_true rfl) (Nat.le_of_ble_eq_true rfl) (Nat.le_of_ble_eq_true rfl) ?_
      intro v M2 hz
      obtain ⟨rfl, rfl⟩ := hz
      show xW _ _ _ _ 90 _ [.int v36] (mem t37 Gb) _ _
      have r39 := some_pair hq
      obtain ⟨rfl, rfl⟩ := r39
      exact xi_iret dX11_look_90 rfl rfl (Nat.le_of_ble_eq_true rfl) (Nat.le_of_ble_eq_true rfl) ⟨rfl, rfl⟩
    replace hq := ite_n c35 hq
    have tc7 : b.toInt ≠ 0 := fun e => c7 (Int32.toInt_inj.mp (by rw [e]; decide))
    have tc11 : b.toInt ≠ 1 := fun e => c11 (Int32.toInt_inj.mp (by rw [e]; decide))
    have tc15 : b.toInt ≠ 2 := fun e => c15 (Int32.toInt_inj.mp (by rw [e]; decide))
    have tc20 : b.toInt ≠ 3 := fun e => c20 (Int32.toInt_inj.mp (by rw [e]; decide))
    have tc25 : b.toInt ≠ 4 := fun e => c25 (Int32.toInt_inj.mp (by rw [e]; decide))
    have tc30 : b.toInt ≠ 5 := fun e => c30 (Int32.toInt_inj.mp (by rw [e]; decide))
    have tc35 : b.toInt ≠ 6 := fun e => c35 (Int32.toInt_inj.mp (by rw [e]; decide))
    refine xi_tableOut (tgt := 91) dX11_look_14 (by omega) (by decide) ?_
    refine xi_bipush (v := (-2)) dX11_look_91 (by decide) ?_
    have r40 := some_pair hq
    obtain ⟨rfl, rfl⟩ := r40
    exact xi_iret dX11_look_93 rfl rfl (Nat.le_of_ble_eq_true rfl) (Nat.le_of_ble_eq_true rfl) ⟨rfl, rfl⟩
noncomputable def FX11_merges (a : Int32) (b : Int32) (c : Int32) (σ : St) : Option ((Int32) × St) :=
  (bnd (FX11_netIn a σ) (fun v1 t2 => (Option.elim v1 (some ((-2 : Int32), t2)) (fun x4 => (chk (netAt x4) (bnd (FX5_hasTwo x4 b c t2) (fun v7 t8 => (if v7 = (0 : Int32) then (some ((-2 : Int32), t8)) else (bnd (FX5_weightOf x4 b c t8) (fun v11 t12 => (if v11 = (0 : Int32) then (some ((-6 : Int32), t12)) else (bnd (FX5_copyFrom 141 x4 t12) (fun v15 t16 => (bnd (FX5_drawTogether x4 b c t16) (fun v18 t19 => (bnd (FX11_noteAct a t19) (fun v21 t22 => (rdb t22 x4 (0) (fun v24 => (some (v24, t22)))))))))))))))))))))
set_option maxHeartbeats 4000000 in
set_option maxRecDepth 100000 in
theorem KX11_merges (G : xG) (Gb : xMem) (a : Int32) (b : Int32) (c : Int32) (σ : St) (r0 : Int32) (t0 : St) (hq : FX11_merges a b c σ = some (r0, t0)) : xC G mX11_merges 4 0 0 [.ref 0, .int a, .int b, .int c] (mem σ Gb) (PQ r0 t0 Gb) := by
  unfold FX11_merges at hq
  refine xC.of (by decide) (Nat.le_of_ble_eq_true rfl) ?_
  show xW _ _ _ _ 0 [(0, .ref 0), (1, .int a), (2, .int b), (3, .int c)] [] _ 0 0
  refine xi_aload_n 0 dX11_merges_0 rfl ?_
  refine xi_iload_n 1 dX11_merges_1 rfl ?_
  obtain ⟨v1, t2, k3, hq⟩ := bnd_some hq
  refine xi_callV (as := [.int a]) (rest := []) dX11_merges_2 (KX11_netIn G Gb a _ _ _ k3) mkX11_netIn w_491 ws_15 w_489 (mem_get sh_0) rfl rfl rfl rfl (Nat.le_of_ble_eq_true rfl) (Nat.le_of_ble_eq_true rfl) (Nat.le_of_ble_eq_true rfl) (Nat.le_of_ble_eq_true rfl) (Nat.le_of_ble_eq_true rfl) ?_
  intro v M2 hz
  obtain ⟨rfl, rfl⟩ := hz
  rcases v1 with _ | x4
  · replace hq := oel_n hq
    show xW _ _ _ _ 5 _ [.null] (mem t2 Gb) _ _
    refine xi_astoreN (lv' := [(4, .null), (0, .ref 0), (1, .int a), (2, .int b), (3, .int c)]) dX11_merges_5 (by decide) rfl ?_
    refine xi_aloadN 0 dX11_merges_7 rfl ?_
    refine xi_ifnullN (tgt := 22) dX11_merges_9 (by decide) ?_
    refine xi_bipush (v := (-2)) dX11_merges_22 (by decide) ?_
    have r6 := some_pair hq
    obtain ⟨rfl, rfl⟩ := r6
    exact xi_iret dX11_merges_24 rfl rfl (Nat.le_of_ble_eq_true rfl) (Nat.le_of_ble_eq_true rfl) ⟨rfl, rfl⟩
  · replace hq := oel_s hq
    obtain ⟨g5, hq⟩ := chk_some hq
    show xW _ _ _ _ 5 _ [.ref x4] (mem t2 Gb) _ _
    refine xi_astore (lv' := [(4, .ref x4), (0, .ref 0), (1, .int a), (2, .int b), (3, .int c)]) dX11_merges_5 (by decide) rfl ?_
    refine xi_aload 0 dX11_merges_7 rfl ?_
    refine xi_ifnull dX11_merges_9 ?_
    refine xi_aload 0 dX11_merges_12 rfl ?_
    refine xi_iload_n 3 dX11_merges_14 rfl ?_
    refine xi_iload_n 4 dX11_merges_15 rfl ?_
    obtain ⟨v7, t8, k9, hq⟩ := bnd_some hq
    refine xi_callV (as := [.int b, .int c]) (rest := []) dX11_merges_16 (KX5_hasTwo G Gb x4 b c _ _ _ k9) mkX5_hasTwo w_937 w_938 w_936 (mem_get (netAt_0 g5)) rfl rfl rfl rfl (Nat.le_of_ble_eq_true rfl) (Nat.le_of_ble_eq_true rfl) (Nat.le_of_ble_eq_true rfl) (Nat.le_of_ble_eq_true rfl) (Nat.le_of_ble_eq_true rfl) ?_
    intro v M2 hz
    obtain ⟨rfl, rfl⟩ := hz
    show xW _ _ _ _ 19 _ [.int v7] (mem t8 Gb) _ _
    refine xi_if_ne (tgt := 25) dX11_merges_19 (by decide) (fun c10 => ?_) (fun c10 => ?_)
    · replace hq := ite_n c10 hq
      refine xi_aload 0 dX11_merges_25 rfl ?_
      refine xi_iload_n 3 dX11_merges_27 rfl ?_
      refine xi_iload_n 4 dX11_merges_28 rfl ?_
      obtain ⟨v11, t12, k13, hq⟩ := bnd_some hq
      refine xi_callV (as := [.int b, .int c]) (rest := []) dX11_merges_29 (KX5_weightOf G Gb x4 b c _ _ _ k13) mkX5_weightOf w_415 w_416 w_546 (mem_get (netAt_0 g5)) rfl rfl rfl rfl (Nat.le_of_ble_eq_true rfl) (Nat.le_of_ble_eq_true rfl) (Nat.le_of_ble_eq_true rfl) (Nat.le_of_ble_eq_true rfl) (Nat.le_of_ble_eq_true rfl) ?_
      intro v M2 hz
      obtain ⟨rfl, rfl⟩ := hz
      show xW _ _ _ _ 32 _ [.int v11] (mem t12 Gb) _ _
      refine xi_if_ne (tgt := 38) dX11_merges_32 (by decide) (fun c14 => ?_) (fun c14 => ?_)
      · replace hq := ite_n c14 hq
        refine xi_aload_n 1 dX11_merges_38 rfl ?_
        refine yi_getR (f := 8) dX11_merges_39 sh_0 rfl ok_8 (by decide) w_250 rfl ?_
        refine xi_aload 0 dX11_merges_42 rfl ?_
        obtain ⟨v15, t16, k17, hq⟩ := bnd_some hq
        refine xi_callV (as := [.ref x4]) (rest := []) dX11_merges_44 (KX5_copyFrom G Gb 141 x4 _ _ _ k17) mkX5_copyFrom w_445 w_446 w_444 (mem_get sh_141) rfl rfl rfl rfl (Nat.le_of_ble_eq_true rfl) (Nat.le_of_ble_eq_true rfl) (Nat.le_of_ble_eq_true rfl) (Nat.le_of_ble_eq_true rfl) (Nat.le_of_ble_eq_true rfl) ?_
        intro v M2 hz
        obtain ⟨rfl, rfl⟩ := hz
        show xW _ _ _ _ 47 _ [] (mem t16 Gb) _ _
        refine xi_aload 0 dX11_merges_47 rfl ?_
        refine xi_iload_n 3 dX11_merges_49 rfl ?_
        refine xi_iload_n 4 dX11_merges_50 rfl ?_
        obtain ⟨v18, t19, k20, hq⟩ := bnd_some hq
        refine xi_callV (as := [.int b, .int c]) (rest := []) dX11_merges_51 (KX5_drawTogether G Gb x4 b c _ _ _ k20) mkX5_drawTogether w_805 w_806 w_950 (mem_get (netAt_0 g5)) rfl rfl rfl rfl (Nat.le_of_ble_eq_true rfl) (Nat.le_of_ble_eq_true rfl) (Nat.le_of_ble_eq_true rfl) (Nat.le_of_ble_eq_true rfl) (Nat.le_of_ble_eq_true rfl) ?_
        intro v M2 hz
        obtain ⟨rfl, rfl⟩ := hz
        show xW _ _ _ _ 54 _ [] (mem t19 Gb) _ _
        refine xi_aload_n 1 dX11_merges_54 rfl ?_
        refine xi_iload_n 2 dX11_merges_55 rfl ?_
        obtain ⟨v21, t22, k23, hq⟩ := bnd_some hq
        refine xi_callV (as := [.int a]) (rest := []) dX11_merges_56 (KX11_noteAct G Gb a _ _ _ k23) mkX11_noteAct w_453 ws_13 w_451 (mem_get sh_0) rfl rfl rfl rfl (Nat.le_of_ble_eq_true rfl) (Nat.le_of_ble_eq_true rfl) (Nat.le_of_ble_eq_true rfl) (Nat.le_of_ble_eq_true rfl) (Nat.le_of_ble_eq_true rfl) ?_
        intro v M2 hz
        obtain ⟨rfl, rfl⟩ := hz
        show xW _ _ _ _ 59 _ [] (mem t22 Gb) _ _
        refine xi_aload 0 dX11_merges_59 rfl ?_
        obtain ⟨v24, h25, hq⟩ := rdb_some hq
        refine yi_getV (f := 0) dX11_merges_61 (netAt_0 g5) rfl ok_5 (by decide) w_66 rfl h25 ?_
        have r26 := some_pair hq
        obtain ⟨rfl, rfl⟩ := r26
        exact xi_iret dX11_merges_64 rfl rfl (Nat.le_of_ble_eq_true rfl) (Nat.le_of_ble_eq_true rfl) ⟨rfl, rfl⟩
      · replace hq := ite_p c14 hq
        refine xi_bipush (v := (-6)) dX11_merges_35 (by decide) ?_
        have r27 := some_pair hq
        obtain ⟨rfl, rfl⟩ := r27
        exact xi_iret dX11_merges_37 rfl rfl (Nat.le_of_ble_eq_true rfl) (Nat.le_of_ble_eq_true rfl) ⟨rfl, rfl⟩
    · replace hq := ite_p c10 hq
      refine xi_bipush (v := (-2)) dX11_merges_22 (by decide) ?_
      have r28 := some_pair hq
      obtain ⟨rfl, rfl⟩ := r28
      exact xi_iret dX11_merges_24 rfl rfl (Nat.le_of_ble_eq_true rfl) (Nat.le_of_ble_eq_true rfl) ⟨rfl, rfl⟩
noncomputable def FX11_minor (a : Int32) (σ : St) : Option ((Int32) × St) :=
  (bnd (FX11_netIn a σ) (fun v1 t2 => (Option.elim v1 (some ((-2 : Int32), t2)) (fun x4 => (chk (netAt x4) (bnd (FX5_copyFrom 145 x4 t2) (fun v7 t8 => (bnd (FX10_shrinkAway 145 t8) (fun v10 t11 => (some (v10, t11)))))))))))
set_option maxHeartbeats 4000000 in
set_option maxRecDepth 100000 in
theorem KX11_minor (G : xG) (Gb : xMem) (a : Int32) (σ : St) (r0 : Int32) (t0 : St) (hq : FX11_minor a σ = some (r0, t0)) : xC G mX11_minor 5 0 0 [.ref 0, .int a] (mem σ Gb) (PQ r0 t0 Gb) := by
  unfold FX11_minor at hq
  refine xC.of (by decide) (Nat.le_of_ble_eq_true rfl) ?_
  show xW _ _ _ _ 0 [(0, .ref 0), (1, .int a)] [] _ 0 0
  refine xi_aload_n 0 dX11_minor_0 rfl ?_
  refine xi_iload_n 1 dX11_minor_1 rfl ?_
  obtain ⟨v1, t2, k3, hq⟩ := bnd_some hq
  refine xi_callV (as := [.int a]) (rest := []) dX11_minor_2 (KX11_netIn G Gb a _ _ _ k3) mkX11_netIn w_491 ws_15 w_489 (mem_get sh_0) rfl rfl rfl rfl (Nat.le_of_ble_eq_true rfl) (Nat.le_of_ble_eq_true rfl) (Nat.le_of_ble_eq_true rfl) (Nat.le_of_ble_eq_true rfl) (Nat.le_of_ble_eq_true rfl) ?_
  intro v M2 hz
  obtain ⟨rfl, rfl⟩ := hz
  rcases v1 with _ | x4
  · replace hq := oel_n hq
    show xW _ _ _ _ 5 _ [.null] (mem t2 Gb) _ _
    refine xi_astore_nN (lv' := [(2, .null), (0, .ref 0), (1, .int a)]) dX11_minor_5 (by decide) rfl ?_
    refine xi_aload_nN 0 dX11_minor_6 rfl ?_
    refine xi_ifnonnullN dX11_minor_7 ?_
    refine xi_bipush (v := (-2)) dX11_minor_10 (by decide) ?_
    have r6 := some_pair hq
    obtain ⟨rfl, rfl⟩ := r6
    exact xi_iret dX11_minor_12 rfl rfl (Nat.le_of_ble_eq_true rfl) (Nat.le_of_ble_eq_true rfl) ⟨rfl, rfl⟩
  · replace hq := oel_s hq
    obtain ⟨g5, hq⟩ := chk_some hq
    show xW _ _ _ _ 5 _ [.ref x4] (mem t2 Gb) _ _
    refine xi_astore_n (lv' := [(2, .ref x4), (0, .ref 0), (1, .int a)]) dX11_minor_5 (by decide) rfl ?_
    refine xi_aload_n 0 dX11_minor_6 rfl ?_
    refine xi_ifnonnull (tgt := 13) dX11_minor_7 (by decide) ?_
    refine xi_aload_n 1 dX11_minor_13 rfl ?_
    refine yi_getR (f := 9) dX11_minor_14 sh_0 rfl ok_8 (by decide) w_251 rfl ?_
    refine xi_aload_n 0 dX11_minor_17 rfl ?_
    obtain ⟨v7, t8, k9, hq⟩ := bnd_some hq
    refine xi_callV (as := [.ref x4]) (rest := []) dX11_minor_18 (KX5_copyFrom G Gb 145 x4 _ _ _ k9) mkX5_copyFrom w_445 w_446 w_444 (mem_get sh_145) rfl rfl rfl rfl (Nat.le_of_ble_eq_true rfl) (Nat.le_of_ble_eq_true rfl) (Nat.le_of_ble_eq_true rfl) (Nat.le_of_ble_eq_true rfl) (Nat.le_of_ble_eq_true rfl) ?_
    intro v M2 hz
    obtain ⟨rfl, rfl⟩ := hz
    show xW _ _ _ _ 21 _ [] (mem t8 Gb) _ _
    refine xi_aload_n 1 dX11_minor_21 rfl ?_
    refine yi_getR (f := 9) dX11_minor_22 sh_0 rfl ok_8 (by decide) w_251 rfl ?_
    obtain ⟨v10, t11, k12, hq⟩ := bnd_some hq
    refine xi_callS (as := [.ref 145]) (rest := []) dX11_minor_25 (KX10_shrinkAway G Gb 145 _ _ _ k12) mkX10_shrinkAway w_793 w_792 rfl rfl (Nat.le_of_ble_eq_true rfl) (Nat.le_of_ble_eq_true rfl) (Nat.le_of_ble_eq_true rfl) (Nat.le_of_ble_eq_true rfl) (Nat.le_of_ble_eq_true rfl) ?_
    intro v M2 hz
    obtain ⟨rfl, rfl⟩ := hz
    show xW _ _ _ _ 28 _ [.int v10] (mem t11 Gb) _ _
    have r13 := some_pair hq
    obtain ⟨rfl, rfl⟩ := r13
    exact xi_iret dX11_minor_28 rfl rfl (Nat.le_of_ble_eq_true rfl) (Nat.le_of_ble_eq_true rfl) ⟨rfl, rfl⟩
noncomputable def FX11_moves (a : Int32) (b : Int32) (c : Int32) (σ : St) : Option ((Int32) × St) :=
  (bnd (FX11_netIn a σ) (fun v1 t2 => (Option.elim v1 (some ((-2 : Int32), t2)) (fun x4 => (chk (netAt x4) (bnd (FX5_has x4 b t2) (fun v7 t8 => (if v7 = (0 : Int32) then (some ((-2 : Int32), t8)) else (bnd (FX5_has x4 c t8) (fun v12 t13 => (if v12 = (0 : Int32) then (some ((-2 : Int32), t13)) else (bnd (FX5_copyFrom 141 x4 t13) (fun v16 t17 => (bnd (FX5_shift x4 b c t17) (fun v19 t20 => (bnd (FX11_noteAct a t20) (fun v22 t23 => (chk (inb b 9) (rdb t23 143 (b.toNatClampNeg) (fun v26 => (some (v26, t23))))))))))))))))))))))
set_option maxHeartbeats 4000000 in
set_option maxRecDepth 100000 in
theorem KX11_moves (G : xG) (Gb : xMem) (a : Int32) (b : Int32) (c : Int32) (σ : St) (r0 : Int32) (t0 : St) (hq : FX11_moves a b c σ = some (r0, t0)) : xC G mX11_moves 4 0 0 [.ref 0, .int a, .int b, .int c] (mem σ Gb) (PQ r0 t0 Gb) := by
  unfold FX11_moves at hq
  refine xC.of (by decide) (Nat.le_of_ble_eq_true rfl) ?_
  show xW _ _ _ _ 0 [(0, .ref 0), (1, .int a), (2, .int b), (3, .int c)] [] _ 0 0
  refine xi_aload_n 0 dX11_moves_0 rfl ?_
  refine xi_iload_n 1 dX11_moves_1 rfl ?_
  obtain ⟨v1, t2, k3, hq⟩ := bnd_some hq
  refine xi_callV (as := [.int a]) (rest := []) dX11_moves_2 (KX11_netIn G Gb a _ _ _ k3) mkX11_netIn w_491 ws_15 w_489 (mem_get sh_0) rfl rfl rfl rfl (Nat.le_of_ble_eq_true rfl) (Nat.le_of_ble_eq_true rfl) (Nat.le_of_ble_eq_true rfl) (Nat.le_of_ble_eq_true rfl) (Nat.le_of_ble_eq_true rfl) ?_
  intro v M2 hz
  obtain ⟨rfl, rfl⟩ := hz
  rcases v1 with _ | x4
  · replace hq := oel_n hq
    show xW _ _ _ _ 5 _ [.null] (mem t2 Gb) _ _
    refine xi_astoreN (lv' := [(4, .null), (0, .ref 0), (1, .int a), (2, .int b), (3, .int c)]) dX11_moves_5 (by decide) rfl ?_
    refine xi_aloadN 0 dX11_moves_7 rfl ?_
    refine xi_ifnullN (tgt := 30) dX11_moves_9 (by decide) ?_
    refine xi_bipush (v := (-2)) dX11_moves_30 (by decide) ?_
    have r6 := some_pair hq
    obtain ⟨rfl, rfl⟩ := r6
    exact xi_iret dX11_moves_32 rfl rfl (Nat.le_of_ble_eq_true rfl) (Nat.le_of_ble_eq_true rfl) ⟨rfl, rfl⟩
  · replace hq := oel_s hq
    obtain ⟨g5, hq⟩ := chk_some hq
    show xW _ _ _ _ 5 _ [.ref x4] (mem t2 Gb) _ _
    refine xi_astore (lv' := [(4, .ref x4), (0, .ref 0), (1, .int a), (2, .int b), (3, .int c)]) dX11_moves_5 (by decide) rfl ?_
    refine xi_aload 0 dX11_moves_7 rfl ?_
    refine xi_ifnull dX11_moves_9 ?_
    refine xi_aload 0 dX11_moves_12 rfl ?_
    refine xi_iload_n 3 dX11_moves_14 rfl ?_
    obtain ⟨v7, t8, k9, hq⟩ := bnd_some hq
    refine xi_callV (as := [.int b]) (rest := []) dX11_moves_15 (KX5_has G Gb x4 b _ _ _ k9) mkX5_has w_437 w_438 w_541 (mem_get (netAt_0 g5)) rfl rfl rfl rfl (Nat.le_of_ble_eq_true rfl) (Nat.le_of_ble_eq_true rfl) (Nat.le_of_ble_eq_true rfl) (Nat.le_of_ble_eq_true rfl) (Nat.le_of_ble_eq_true rfl) ?_
    intro v M2 hz
    obtain ⟨rfl, rfl⟩ := hz
    show xW _ _ _ _ 18 _ [.int v7] (mem t8 Gb) _ _
    refine xi_if_eq (tgt := 30) dX11_moves_18 (by decide) (fun c10 => ?_) (fun c10 => ?_)
    · replace hq := ite_p c10 hq
      refine xi_bipush (v := (-2)) dX11_moves_30 (by decide) ?_
      have r11 := some_pair hq
      obtain ⟨rfl, rfl⟩ := r11
      exact xi_iret dX11_moves_32 rfl rfl (Nat.le_of_ble_eq_true rfl) (Nat.le_of_ble_eq_true rfl) ⟨rfl, rfl⟩
    · replace hq := ite_n c10 hq
      refine xi_aload 0 dX11_moves_21 rfl ?_
      refine xi_iload_n 4 dX11_moves_23 rfl ?_
      obtain ⟨v12, t13, k14, hq⟩ := bnd_some hq
      refine xi_callV (as := [.int c]) (rest := []) dX11_moves_24 (KX5_has G Gb x4 c _ _ _ k14) mkX5_has w_437 w_438 w_541 (mem_get (netAt_0 g5)) rfl rfl rfl rfl (Nat.le_of_ble_eq_true rfl) (Nat.le_of_ble_eq_true rfl) (Nat.le_of_ble_eq_true rfl) (Nat.le_of_ble_eq_true rfl) (Nat.le_of_ble_eq_true rfl) ?_
      intro v M2 hz
      obtain ⟨rfl, rfl⟩ := hz
      show xW _ _ _ _ 27 _ [.int v12] (mem t13 Gb) _ _
      refine xi_if_ne (tgt := 33) dX11_moves_27 (by decide) (fun c15 => ?_) (fun c15 => ?_)
      · replace hq := ite_n c15 hq
        refine xi_aload_n 1 dX11_moves_33 rfl ?_
        refine yi_getR (f := 8) dX11_moves_34 sh_0 rfl ok_8 (by decide) w_250 rfl ?_
        refine xi_aload 0 dX11_moves_37 rfl ?_
        obtain ⟨v16, t17, k18, hq⟩ := bnd_some hq
        refine xi_callV (as := [.ref x4]) (rest := []) dX11_moves_39 (KX5_copyFrom G Gb 141 x4 _ _ _ k18) mkX5_copyFrom w_445 w_446 w_444 (mem_get sh_141) rfl rfl rfl rfl (Nat.le_of_ble_eq_true rfl) (Nat.le_of_ble_eq_true rfl) (Nat.le_of_ble_eq_true rfl) (Nat.le_of_ble_eq_true rfl) (Nat.le_of_ble_eq_true rfl) ?_
        intro v M2 hz
        obtain ⟨rfl, rfl⟩ := hz
        show xW _ _ _ _ 42 _ [] (mem t17 Gb) _ _
        refine xi_aload 0 dX11_moves_42 rfl ?_
        refine xi_iload_n 3 dX11_moves_44 rfl ?_
        refine xi_iload_n 4 dX11_moves_45 rfl ?_
        obtain ⟨v19, t20, k21, hq⟩ := bnd_some hq
        refine xi_callV (as := [.int b, .int c]) (rest := []) dX11_moves_46 (KX5_shift G Gb x4 b c _ _ _ k21) mkX5_shift w_878 w_879 w_877 (mem_get (netAt_0 g5)) rfl rfl rfl rfl (Nat.le_of_ble_eq_true rfl) (Nat.le_of_ble_eq_true rfl) (Nat.le_of_ble_eq_true rfl) (Nat.le_of_ble_eq_true rfl) (Nat.le_of_ble_eq_true rfl) ?_
        intro v M2 hz
        obtain ⟨rfl, rfl⟩ := hz
        show xW _ _ _ _ 49 _ [] (mem t20 Gb) _ _
        refine xi_aload_n 1 dX11_moves_49 rfl ?_
        refine xi_iload_n 2 dX11_moves_50 rfl ?_
        obtain ⟨v22, t23, k24, hq⟩ := bnd_some hq
        refine xi_callV (as := [.int a]) (rest := []) dX11_moves_51 (KX11_noteAct G Gb a _ _ _ k24) mkX11_noteAct w_453 ws_13 w_451 (mem_get sh_0) rfl rfl rfl rfl (Nat.le_of_ble_eq_true rfl) (Nat.le_of_ble_eq_true rfl) (Nat.le_of_ble_eq_true rfl) (Nat.le_of_ble_eq_true rfl) (Nat.le_of_ble_eq_true rfl) ?_
        intro v M2 hz
        obtain ⟨rfl, rfl⟩ := hz
        show xW _ _ _ _ 54 _ [] (mem t23 Gb) _ _
        refine xi_aload_n 1 dX11_moves_54 rfl ?_
        refine yi_getR (f := 8) dX11_moves_55 sh_0 rfl ok_8 (by decide) w_250 rfl ?_
        refine yi_getR (f := 3) dX11_moves_58 sh_141 rfl ok_5 (by decide) w_82 rfl ?_
        refine xi_iload_n 3 dX11_moves_61 rfl ?_
        obtain ⟨g25, hq⟩ := chk_some hq
        obtain ⟨v26, h27, hq⟩ := rdb_some hq
        refine yi_ialoadV dX11_moves_62 sh_143 g25 h27 ?_
        have r28 := some_pair hq
        obtain ⟨rfl, rfl⟩ := r28
        exact xi_iret dX11_moves_63 rfl rfl (Nat.le_of_ble_eq_true rfl) (Nat.le_of_ble_eq_true rfl) ⟨rfl, rfl⟩
      · replace hq := ite_p c15 hq
        refine xi_bipush (v := (-2)) dX11_moves_30 (by decide) ?_
        have r29 := some_pair hq
        obtain ⟨rfl, rfl⟩ := r29
        exact xi_iret dX11_moves_32 rfl rfl (Nat.le_of_ble_eq_true rfl) (Nat.le_of_ble_eq_true rfl) ⟨rfl, rfl⟩
noncomputable def FX11_near (a : Int32) (b : Int32) (σ : St) : Option ((Int32) × St) :=
  (bnd (FX11_netIn a σ) (fun v1 t2 => (Option.elim v1 (some ((-2 : Int32), t2)) (fun x4 => (chk (netAt x4) (bnd (FX5_has x4 b t2) (fun v7 t8 => (if v7 = (0 : Int32) then (some ((-2 : Int32), t8)) else (chk (inb b 9) (rdb t8 (x4 + 1) (b.toNatClampNeg) (fun v12 => (some (v12, t8)))))))))))))
set_option maxHeartbeats 4000000 in
set_option maxRecDepth 100000 in
theorem KX11_near (G : xG) (Gb : xMem) (a : Int32) (b : Int32) (σ : St) (r0 : Int32) (t0 : St) (hq : FX11_near a b σ = some (r0, t0)) : xC G mX11_near 2 0 0 [.ref 0, .int a, .int b] (mem σ Gb) (PQ r0 t0 Gb) := by
  unfold FX11_near at hq
  refine xC.of (by decide) (Nat.le_of_ble_eq_true rfl) ?_
  show xW _ _ _ _ 0 [(0, .ref 0), (1, .int a), (2, .int b)] [] _ 0 0
  refine xi_aload_n 0 dX11_near_0 rfl ?_
  refine xi_iload_n 1 dX11_near_1 rfl ?_
  obtain ⟨v1, t2, k3, hq⟩ := bnd_some hq
  refine xi_callV (as := [.int a]) (rest := []) dX11_near_2 (KX11_netIn G Gb a _ _ _ k3) mkX11_netIn w_491 ws_15 w_489 (mem_get sh_0) rfl rfl rfl rfl (Nat.le_of_ble_eq_true rfl) (Nat.le_of_ble_eq_true rfl) (Nat.le_of_ble_eq_true rfl) (Nat.le_of_ble_eq_true rfl) (Nat.le_of_ble_eq_true rfl) ?_
  intro v M2 hz
  obtain ⟨rfl, rfl⟩ := hz
  rcases v1 with _ | x4
  · replace hq := oel_n hq
    show xW _ _ _ _ 5 _ [.null] (mem t2 Gb) _ _
    refine xi_astore_nN (lv' := [(3, .null), (0, .ref 0), (1, .int a), (2, .int b)]) dX11_near_5 (by decide) rfl ?_
    refine xi_aload_nN 0 dX11_near_6 rfl ?_
    refine xi_ifnullN (tgt := 18) dX11_near_7 (by decide) ?_
    refine xi_bipush (v := (-2)) dX11_near_18 (by decide) ?_
    refine xi_goto (tgt := 29) dX11_near_20 (by decide) ?_
    have r6 := some_pair hq
    obtain ⟨rfl, rfl⟩ := r6
    exact xi_iret dX11_near_29 rfl rfl (Nat.le_of_ble_eq_true rfl) (Nat.le_of_ble_eq_true rfl) ⟨rfl, rfl⟩
  · replace hq := oel_s hq
    obtain ⟨g5, hq⟩ := chk_some hq
    show xW _ _ _ _ 5 _ [.ref x4] (mem t2 Gb) _ _
    refine xi_astore_n (lv' := [(3, .ref x4), (0, .ref 0), (1, .int a), (2, .int b)]) dX11_near_5 (by decide) rfl ?_
    refine xi_aload_n 0 dX11_near_6 rfl ?_
    refine xi_ifnull dX11_near_7 ?_
    refine xi_aload_n 0 dX11_near_10 rfl ?_
    refine xi_iload_n 3 dX11_near_11 rfl ?_
    obtain ⟨v7, t8, k9, hq⟩ := bnd_some hq
    refine xi_callV (as := [.int b]) (rest := []) dX11_near_12 (KX5_has G Gb x4 b _ _ _ k9) mkX5_has w_437 w_438 w_541 (mem_get (netAt_0 g5)) rfl rfl rfl rfl (Nat.le_of_ble_eq_true rfl) (Nat.le_of_ble_eq_true rfl) (Nat.le_of_ble_eq_true rfl) (Nat.le_of_ble_eq_true rfl) (Nat.le_of_ble_eq_true rfl) ?_
    intro v M2 hz
    obtain ⟨rfl, rfl⟩ := hz
    show xW _ _ _ _ 15 _ [.int v7] (mem t8 Gb) _ _
    refine xi_if_ne (tgt := 23) dX11_near_15 (by decide) (fun c10 => ?_) (fun c10 => ?_)
    · replace hq := ite_n c10 hq
      refine xi_aload_n 0 dX11_near_23 rfl ?_
      refine yi_getR (f := 2) dX11_near_24 (netAt_0 g5) rfl ok_5 (by decide) w_76 rfl ?_
      refine xi_iload_n 3 dX11_near_27 rfl ?_
      obtain ⟨g11, hq⟩ := chk_some hq
      obtain ⟨v12, h13, hq⟩ := rdb_some hq
      refine yi_ialoadV dX11_near_28 (netAt_1 g5) g11 h13 ?_
      have r14 := some_pair hq
      obtain ⟨rfl, rfl⟩ := r14
      exact xi_iret dX11_near_29 rfl rfl (Nat.le_of_ble_eq_true rfl) (Nat.le_of_ble_eq_true rfl) ⟨rfl, rfl⟩
    · replace hq := ite_p c10 hq
      refine xi_bipush (v := (-2)) dX11_near_18 (by decide) ?_
      refine xi_goto (tgt := 29) dX11_near_20 (by decide) ?_
      have r15 := some_pair hq
      obtain ⟨rfl, rfl⟩ := r15
      exact xi_iret dX11_near_29 rfl rfl (Nat.le_of_ble_eq_true rfl) (Nat.le_of_ble_eq_true rfl) ⟨rfl, rfl⟩
noncomputable def FX11_octet (a : Int32) (σ : St) : Option ((Int32) × St) :=
  (bnd (FX1_at_3 a σ) (fun v1 t2 => (some (v1, t2))))
set_option maxHeartbeats 4000000 in
set_option maxRecDepth 100000 in
theorem KX11_octet (G : xG) (Gb : xMem) (a : Int32) (σ : St) (r0 : Int32) (t0 : St) (hq : FX11_octet a σ = some (r0, t0)) : xC G mX11_octet 1 0 0 [.ref 0, .int a] (mem σ Gb) (PQ r0 t0 Gb) := by
  unfold FX11_octet at hq
  refine xC.of (by decide) (Nat.le_of_ble_eq_true rfl) ?_
  show xW _ _ _ _ 0 [(0, .ref 0), (1, .int a)] [] _ 0 0
  refine xi_aload_n 0 dX11_octet_0 rfl ?_
  refine yi_getR (f := 1) dX11_octet_1 sh_0 rfl ok_8 (by decide) w_243 rfl ?_
  refine xi_iload_n 1 dX11_octet_4 rfl ?_
  obtain ⟨v1, t2, k3, hq⟩ := bnd_some hq
  refine xi_callV (as := [.int a]) (rest := []) dX11_octet_5 (KX1_at_3 G Gb a _ _ _ k3) mkX1_at w_310 w_311 w_1001 (mem_get sh_3) rfl rfl rfl rfl (Nat.le_of_ble_eq_true rfl) (Nat.le_of_ble_eq_true rfl) (Nat.le_of_ble_eq_true rfl) (Nat.le_of_ble_eq_true rfl) (Nat.le_of_ble_eq_true rfl) ?_
  intro v M2 hz
  obtain ⟨rfl, rfl⟩ := hz
  show xW _ _ _ _ 8 _ [.int v1] (mem t2 Gb) _ _
  have r4 := some_pair hq
  obtain ⟨rfl, rfl⟩ := r4
  exact xi_iret dX11_octet_8 rfl rfl (Nat.le_of_ble_eq_true rfl) (Nat.le_of_ble_eq_true rfl) ⟨rfl, rfl⟩
noncomputable def FX11_place (a : Int32) (b : Int32) (σ : St) : Option ((Int32) × St) :=
  (bnd (FX11_netIn a σ) (fun v1 t2 => (Option.elim v1 (some ((-2 : Int32), t2)) (fun x4 => (chk (netAt x4) (bnd (FX5_has x4 b t2) (fun v7 t8 => (if v7 = (0 : Int32) then (some ((-2 : Int32), t8)) else (bnd (FX5_placeOf x4 b t8) (fun v11 t12 => (some (v11, t12))))))))))))
set_option maxHeartbeats 4000000 in
set_option maxRecDepth 100000 in
theorem KX11_place (G : xG) (Gb : xMem) (a : Int32) (b : Int32) (σ : St) (r0 : Int32) (t0 : St) (hq : FX11_place a b σ = some (r0, t0)) : xC G mX11_place 2 0 0 [.ref 0, .int a, .int b] (mem σ Gb) (PQ r0 t0 Gb) := by
  unfold FX11_place at hq
  refine xC.of (by decide) (Nat.le_of_ble_eq_true rfl) ?_
  show xW _ _ _ _ 0 [(0, .ref 0), (1, .int a), (2, .int b)] [] _ 0 0
  refine xi_aload_n 0 dX11_place_0 rfl ?_
  refine xi_iload_n 1 dX11_place_1 rfl ?_
  obtain ⟨v1, t2, k3, hq⟩ := bnd_some hq
  refine xi_callV (as := [.int a]) (rest := []) dX11_place_2 (KX11_netIn G Gb a _ _ _ k3) mkX11_netIn w_491 ws_15 w_489 (mem_get sh_0) rfl rfl rfl rfl (Nat.le_of_ble_eq_true rfl) (Nat.le_of_ble_eq_true rfl) (Nat.le_of_ble_eq_true rfl) (Nat.le_of_ble_eq_true rfl) (Nat.le_of_ble_eq_true rfl) ?_
  intro v M2 hz
  obtain ⟨rfl, rfl⟩ := hz
  rcases v1 with _ | x4
  · replace hq := oel_n hq
    show xW _ _ _ _ 5 _ [.null] (mem t2 Gb) _ _
    refine xi_astore_nN (lv' := [(3, .null), (0, .ref 0), (1, .int a), (2, .int b)]) dX11_place_5 (by decide) rfl ?_
    refine xi_aload_nN 0 dX11_place_6 rfl ?_
    refine xi_ifnullN (tgt := 18) dX11_place_7 (by decide) ?_
    refine xi_bipush (v := (-2)) dX11_place_18 (by decide) ?_
    refine xi_goto (tgt := 28) dX11_place_20 (by decide) ?_
    have r6 := some_pair hq
    obtain ⟨rfl, rfl⟩ := r6
    exact xi_iret dX11_place_28 rfl rfl (Nat.le_of_ble_eq_true rfl) (Nat.le_of_ble_eq_true rfl) ⟨rfl, rfl⟩
  · replace hq := oel_s hq
    obtain ⟨g5, hq⟩ := chk_some hq
    show xW _ _ _ _ 5 _ [.ref x4] (mem t2 Gb) _ _
    refine xi_astore_n (lv' := [(3, .ref x4), (0, .ref 0), (1, .int a), (2, .int b)]) dX11_place_5 (by decide) rfl ?_
    refine xi_aload_n 0 dX11_place_6 rfl ?_
    refine xi_ifnull dX11_place_7 ?_
    refine xi_aload_n 0 dX11_place_10 rfl ?_
    refine xi_iload_n 3 dX11_place_11 rfl ?_
    obtain ⟨v7, t8, k9, hq⟩ := bnd_some hq
    refine xi_callV (as := [.int b]) (rest := []) dX11_place_12 (KX5_has G Gb x4 b _ _ _ k9) mkX5_has w_437 w_438 w_541 (mem_get (netAt_0 g5)) rfl rfl rfl rfl (Nat.le_of_ble_eq_true rfl) (Nat.le_of_ble_eq_true rfl) (Nat.le_of_ble_eq_true rfl) (Nat.le_of_ble_eq_true rfl) (Nat.le_of_ble_eq_true rfl) ?_
    intro v M2 hz
    obtain ⟨rfl, rfl⟩ := hz
    show xW _ _ _ _ 15 _ [.int v7] (mem t8 Gb) _ _
    refine xi_if_ne (tgt := 23) dX11_place_15 (by decide) (fun c10 => ?_) (fun c10 => ?_)
    · replace hq := ite_n c10 hq
      refine xi_aload_n 0 dX11_place_23 rfl ?_
      refine xi_iload_n 3 dX11_place_24 rfl ?_
      obtain ⟨v11, t12, k13, hq⟩ := bnd_some hq
      refine xi_callV (as := [.int b]) (rest := []) dX11_place_25 (KX5_placeOf G Gb x4 b _ _ _ k13) mkX5_placeOf w_561 w_562 w_560 (mem_get (netAt_0 g5)) rfl rfl rfl rfl (Nat.le_of_ble_eq_true rfl) (Nat.le_of_ble_eq_true rfl) (Nat.le_of_ble_eq_true rfl) (Nat.le_of_ble_eq_true rfl) (Nat.le_of_ble_eq_true rfl) ?_
      intro v M2 hz
      obtain ⟨rfl, rfl⟩ := hz
      show xW _ _ _ _ 28 _ [.int v11] (mem t12 Gb) _ _
      have r14 := some_pair hq
      obtain ⟨rfl, rfl⟩ := r14
      exact xi_iret dX11_place_28 rfl rfl (Nat.le_of_ble_eq_true rfl) (Nat.le_of_ble_eq_true rfl) ⟨rfl, rfl⟩
    · replace hq := ite_p c10 hq
      refine xi_bipush (v := (-2)) dX11_place_18 (by decide) ?_
      refine xi_goto (tgt := 28) dX11_place_20 (by decide) ?_
      have r15 := some_pair hq
      obtain ⟨rfl, rfl⟩ := r15
      exact xi_iret dX11_place_28 rfl rfl (Nat.le_of_ble_eq_true rfl) (Nat.le_of_ble_eq_true rfl) ⟨rfl, rfl⟩
noncomputable def FX11_polish (a : Int32) (b : Int32) (σ : St) : Option ((Int32) × St) :=
  (bnd (FX11_netIn a σ) (fun v1 t2 => (Option.elim v1 (some ((-2 : Int32), t2)) (fun x4 => (chk (netAt x4) (bnd (FX11_isMeasure b t2) (fun v7 t8 => (if v7 = (0 : Int32) then (some ((-2 : Int32), t8)) else (bnd (FX5_copyFrom 141 x4 t8) (fun v11 t12 => (bnd (FX8_polishRow x4 b t12) (fun v14 t15 => (bnd (FX11_noteAct a t15) (fun v17 t18 => (some (v14, t18))))))))))))))))
set_option maxHeartbeats 4000000 in
set_option maxRecDepth 100000 in
theorem KX11_polish (G : xG) (Gb : xMem) (a : Int32) (b : Int32) (σ : St) (r0 : Int32) (t0 : St) (hq : FX11_polish a b σ = some (r0, t0)) : xC G mX11_polish 6 0 0 [.ref 0, .int a, .int b] (mem σ Gb) (PQ r0 t0 Gb) := by
  unfold FX11_polish at hq
  refine xC.of (by decide) (Nat.le_of_ble_eq_true rfl) ?_
  show xW _ _ _ _ 0 [(0, .ref 0), (1, .int a), (2, .int b)] [] _ 0 0
  refine xi_aload_n 0 dX11_polish_0 rfl ?_
  refine xi_iload_n 1 dX11_polish_1 rfl ?_
  obtain ⟨v1, t2, k3, hq⟩ := bnd_some hq
  refine xi_callV (as := [.int a]) (rest := []) dX11_polish_2 (KX11_netIn G Gb a _ _ _ k3) mkX11_netIn w_491 ws_15 w_489 (mem_get sh_0) rfl rfl rfl rfl (Nat.le_of_ble_eq_true rfl) (Nat.le_of_ble_eq_true rfl) (Nat.le_of_ble_eq_true rfl) (Nat.le_of_ble_eq_true rfl) (Nat.le_of_ble_eq_true rfl) ?_
  intro v M2 hz
  obtain ⟨rfl, rfl⟩ := hz
  rcases v1 with _ | x4
  · replace hq := oel_n hq
    show xW _ _ _ _ 5 _ [.null] (mem t2 Gb) _ _
    refine xi_astore_nN (lv' := [(3, .null), (0, .ref 0), (1, .int a), (2, .int b)]) dX11_polish_5 (by decide) rfl ?_
    refine xi_aload_nN 0 dX11_polish_6 rfl ?_
    refine xi_ifnullN (tgt := 17) dX11_polish_7 (by decide) ?_
    refine xi_bipush (v := (-2)) dX11_polish_17 (by decide) ?_
    have r6 := some_pair hq
    obtain ⟨rfl, rfl⟩ := r6
    exact xi_iret dX11_polish_19 rfl rfl (Nat.le_of_ble_eq_true rfl) (Nat.le_of_ble_eq_true rfl) ⟨rfl, rfl⟩
  · replace hq := oel_s hq
    obtain ⟨g5, hq⟩ := chk_some hq
    show xW _ _ _ _ 5 _ [.ref x4] (mem t2 Gb) _ _
    refine xi_astore_n (lv' := [(3, .ref x4), (0, .ref 0), (1, .int a), (2, .int b)]) dX11_polish_5 (by decide) rfl ?_
    refine xi_aload_n 0 dX11_polish_6 rfl ?_
    refine xi_ifnull dX11_polish_7 ?_
    refine xi_iload_n 3 dX11_polish_10 rfl ?_
    obtain ⟨v7, t8, k9, hq⟩ := bnd_some hq
    refine xi_callS (as := [.int b]) (rest := []) dX11_polish_11 (KX11_isMeasure G Gb b _ _ _ k9) mkX11_isMeasure w_569 w_568 rfl rfl (Nat.le_of_ble_eq_true rfl) (Nat.le_of_ble_eq_true rfl) (Nat.le_of_ble_eq_true rfl) (Nat.le_of_ble_eq_true rfl) (Nat.le_of_ble_eq_true rfl) ?_
    intro v M2 hz
    obtain ⟨rfl, rfl⟩ := hz
    show xW _ _ _ _ 14 _ [.int v7] (mem t8 Gb) _ _
    refine xi_if_ne (tgt := 20) dX11_polish_14 (by decide) (fun c10 => ?_) (fun c10 => ?_)
    · replace hq := ite_n c10 hq
      refine xi_aload_n 1 dX11_polish_20 rfl ?_
      refine yi_getR (f := 8) dX11_polish_21 sh_0 rfl ok_8 (by decide) w_250 rfl ?_
      refine xi_aload_n 0 dX11_polish_24 rfl ?_
      obtain ⟨v11, t12, k13, hq⟩ := bnd_some hq
      refine xi_callV (as := [.ref x4]) (rest := []) dX11_polish_25 (KX5_copyFrom G Gb 141 x4 _ _ _ k13) mkX5_copyFrom w_445 w_446 w_444 (mem_get sh_141) rfl rfl rfl rfl (Nat.le_of_ble_eq_true rfl) (Nat.le_of_ble_eq_true rfl) (Nat.le_of_ble_eq_true rfl) (Nat.le_of_ble_eq_true rfl) (Nat.le_of_ble_eq_true rfl) ?_
      intro v M2 hz
      obtain ⟨rfl, rfl⟩ := hz
      show xW _ _ _ _ 28 _ [] (mem t12 Gb) _ _
      refine xi_aload_n 0 dX11_polish_28 rfl ?_
      refine xi_iload_n 3 dX11_polish_29 rfl ?_
      obtain ⟨v14, t15, k16, hq⟩ := bnd_some hq
      refine xi_callS (as := [.ref x4, .int b]) (rest := []) dX11_polish_30 (KX8_polishRow G Gb x4 b _ _ _ k16) mkX8_polishRow w_901 w_900 rfl rfl (Nat.le_of_ble_eq_true rfl) (Nat.le_of_ble_eq_true rfl) (Nat.le_of_ble_eq_true rfl) (Nat.le_of_ble_eq_true rfl) (Nat.le_of_ble_eq_true rfl) ?_
      intro v M2 hz
      obtain ⟨rfl, rfl⟩ := hz
      show xW _ _ _ _ 33 _ [.int v14] (mem t15 Gb) _ _
      refine xi_istore (lv' := [(4, .int v14), (3, .ref x4), (0, .ref 0), (1, .int a), (2, .int b)]) dX11_polish_33 (by decide) rfl ?_
      refine xi_aload_n 2 dX11_polish_35 rfl ?_
      refine xi_iload_n 3 dX11_polish_36 rfl ?_
      obtain ⟨v17, t18, k19, hq⟩ := bnd_some hq
      refine xi_callV (as := [.int a]) (rest := []) dX11_polish_37 (KX11_noteAct G Gb a _ _ _ k19) mkX11_noteAct w_453 ws_13 w_451 (mem_get sh_0) rfl rfl rfl rfl (Nat.le_of_ble_eq_true rfl) (Nat.le_of_ble_eq_true rfl) (Nat.le_of_ble_eq_true rfl) (Nat.le_of_ble_eq_true rfl) (Nat.le_of_ble_eq_true rfl) ?_
      intro v M2 hz
      obtain ⟨rfl, rfl⟩ := hz
      show xW _ _ _ _ 40 _ [] (mem t18 Gb) _ _
      refine xi_iload 0 dX11_polish_40 rfl ?_
      have r20 := some_pair hq
      obtain ⟨rfl, rfl⟩ := r20
      exact xi_iret dX11_polish_42 rfl rfl (Nat.le_of_ble_eq_true rfl) (Nat.le_of_ble_eq_true rfl) ⟨rfl, rfl⟩
    · replace hq := ite_p c10 hq
      refine xi_bipush (v := (-2)) dX11_polish_17 (by decide) ?_
      have r21 := some_pair hq
      obtain ⟨rfl, rfl⟩ := r21
      exact xi_iret dX11_polish_19 rfl rfl (Nat.le_of_ble_eq_true rfl) (Nat.le_of_ble_eq_true rfl) ⟨rfl, rfl⟩
noncomputable def FX11_polished (a : Int32) (b : Int32) (σ : St) : Option ((Int32) × St) :=
  (bnd (FX11_netIn a σ) (fun v1 t2 => (Option.elim v1 (some ((-2 : Int32), t2)) (fun x4 => (chk (netAt x4) (bnd (FX11_isMeasure b t2) (fun v7 t8 => (if v7 = (0 : Int32) then (some ((-2 : Int32), t8)) else (bnd (FX5_copyFrom 145 x4 t8) (fun v11 t12 => (bnd (FX8_polishRow 145 b t12) (fun v14 t15 => (bnd (FX8_measured 145 b t15) (fun v17 t18 => (some (v17, t18))))))))))))))))
set_option maxHeartbeats 4000000 in
set_option maxRecDepth 100000 in
theorem KX11_polished (G : xG) (Gb : xMem) (a : Int32) (b : Int32) (σ : St) (r0 : Int32) (t0 : St) (hq : FX11_polished a b σ = some (r0, t0)) : xC G mX11_polished 6 0 0 [.ref 0, .int a, .int b] (mem σ Gb) (PQ r0 t0 Gb) := by
  unfold FX11_polished at hq
  refine xC.of (by decide) (Nat.le_of_ble_eq_true rfl) ?_
  show xW _ _ _ _ 0 [(0, .ref 0), (1, .int a), (2, .int b)] [] _ 0 0
  refine xi_aload_n 0 dX11_polished_0 rfl ?_
  refine xi_iload_n 1 dX11_polished_1 rfl ?_
  obtain ⟨v1, t2, k3, hq⟩ := bnd_some hq
  refine xi_callV (as := [.int a]) (rest := []) dX11_polished_2 (KX11_netIn G Gb a _ _ _ k3) mkX11_netIn w_491 ws_15 w_489 (mem_get sh_0) rfl rfl rfl rfl (Nat.le_of_ble_eq_true rfl) (Nat.le_of_ble_eq_true rfl) (Nat.le_of_ble_eq_true rfl) (Nat.le_of_ble_eq_true rfl) (Nat.le_of_ble_eq_true rfl) ?_
  intro v M2 hz
  obtain ⟨rfl, rfl⟩ := hz
  rcases v1 with _ | x4
  · replace hq := oel_n hq
    show xW _ _ _ _ 5 _ [.null] (mem t2 Gb) _ _
    refine xi_astore_nN (lv' := [(3, .null), (0, .ref 0), (1, .int a), (2, .int b)]) dX11_polished_5 (by decide) rfl ?_
    refine xi_aload_nN 0 dX11_polished_6 rfl ?_
    refine xi_ifnullN (tgt := 17) dX11_polished_7 (by decide) ?_
    refine xi_bipush (v := (-2)) dX11_polished_17 (by decide) ?_
    have r6 := some_pair hq
    obtain ⟨rfl, rfl⟩ := r6
    exact xi_iret dX11_polished_19 rfl rfl (Nat.le_of_ble_eq_true rfl) (Nat.le_of_ble_eq_true rfl) ⟨rfl, rfl⟩
  · replace hq := oel_s hq
    obtain ⟨g5, hq⟩ := chk_some hq
    show xW _ _ _ _ 5 _ [.ref x4] (mem t2 Gb) _ _
    refine xi_astore_n (lv' := [(3, .ref x4), (0, .ref 0), (1, .int a), (2, .int b)]) dX11_polished_5 (by decide) rfl ?_
    refine xi_aload_n 0 dX11_polished_6 rfl ?_
    refine xi_ifnull dX11_polished_7 ?_
    refine xi_iload_n 3 dX11_polished_10 rfl ?_
    obtain ⟨v7, t8, k9, hq⟩ := bnd_some hq
    refine xi_callS (as := [.int b]) (rest := []) dX11_polished_11 (KX11_isMeasure G Gb b _ _ _ k9) mkX11_isMeasure w_569 w_568 rfl rfl (Nat.le_of_ble_eq_true rfl) (Nat.le_of_ble_eq_true rfl) (Nat.le_of_ble_eq_true rfl) (Nat.le_of_ble_eq_true rfl) (Nat.le_of_ble_eq_true rfl) ?_
    intro v M2 hz
    obtain ⟨rfl, rfl⟩ := hz
    show xW _ _ _ _ 14 _ [.int v7] (mem t8 Gb) _ _
    refine xi_if_ne (tgt := 20) dX11_polished_14 (by decide) (fun c10 => ?_) (fun c10 => ?_)
    · replace hq := ite_n c10 hq
      refine xi_aload_n 1 dX11_polished_20 rfl ?_
      refine yi_getR (f := 9) dX11_polished_21 sh_0 rfl ok_8 (by decide) w_251 rfl ?_
      refine xi_aload_n 0 dX11_polished_24 rfl ?_
      obtain ⟨v11, t12, k13, hq⟩ := bnd_some hq
      refine xi_callV (as := [.ref x4]) (rest := []) dX11_polished_25 (KX5_copyFrom G Gb 145 x4 _ _ _ k13) mkX5_copyFrom w_445 w_446 w_444 (mem_get sh_145) rfl rfl rfl rfl (Nat.le_of_ble_eq_true rfl) (Nat.le_of_ble_eq_true rfl) (Nat.le_of_ble_eq_true rfl) (Nat.le_of_ble_eq_true rfl) (Nat.le_of_ble_eq_true rfl) ?_
      intro v M2 hz
      obtain ⟨rfl, rfl⟩ := hz
      show xW _ _ _ _ 28 _ [] (mem t12 Gb) _ _
      refine xi_aload_n 1 dX11_polished_28 rfl ?_
      refine yi_getR (f := 9) dX11_polished_29 sh_0 rfl ok_8 (by decide) w_251 rfl ?_
      refine xi_iload_n 3 dX11_polished_32 rfl ?_
      obtain ⟨v14, t15, k16, hq⟩ := bnd_some hq
      refine xi_callS (as := [.ref 145, .int b]) (rest := []) dX11_polished_33 (KX8_polishRow G Gb 145 b _ _ _ k16) mkX8_polishRow w_901 w_900 rfl rfl (Nat.le_of_ble_eq_true rfl) (Nat.le_of_ble_eq_true rfl) (Nat.le_of_ble_eq_true rfl) (Nat.le_of_ble_eq_true rfl) (Nat.le_of_ble_eq_true rfl) ?_
      intro v M2 hz
      obtain ⟨rfl, rfl⟩ := hz
      show xW _ _ _ _ 36 _ [.int v14] (mem t15 Gb) _ _
      refine xi_pop dX11_polished_36 rfl ?_
      refine xi_aload_n 1 dX11_polished_37 rfl ?_
      refine yi_getR (f := 9) dX11_polished_38 sh_0 rfl ok_8 (by decide) w_251 rfl ?_
      refine xi_iload_n 3 dX11_polished_41 rfl ?_
      obtain ⟨v17, t18, k19, hq⟩ := bnd_some hq
      refine xi_callS (as := [.ref 145, .int b]) (rest := []) dX11_polished_42 (KX8_measured G Gb 145 b _ _ _ k19) mkX8_measured w_572 w_571 rfl rfl (Nat.le_of_ble_eq_true rfl) (Nat.le_of_ble_eq_true rfl) (Nat.le_of_ble_eq_true rfl) (Nat.le_of_ble_eq_true rfl) (Nat.le_of_ble_eq_true rfl) ?_
      intro v M2 hz
      obtain ⟨rfl, rfl⟩ := hz
      show xW _ _ _ _ 45 _ [.int v17] (mem t18 Gb) _ _
      have r20 := some_pair hq
      obtain ⟨rfl, rfl⟩ := r20
      exact xi_iret dX11_polished_45 rfl rfl (Nat.le_of_ble_eq_true rfl) (Nat.le_of_ble_eq_true rfl) ⟨rfl, rfl⟩
    · replace hq := ite_p c10 hq
      refine xi_bipush (v := (-2)) dX11_polished_17 (by decide) ?_
      have r21 := some_pair hq
      obtain ⟨rfl, rfl⟩ := r21
      exact xi_iret dX11_polished_19 rfl rfl (Nat.le_of_ble_eq_true rfl) (Nat.le_of_ble_eq_true rfl) ⟨rfl, rfl⟩
noncomputable def FX11_price (a : Int32) (b : Int32) (c : Int32) (σ : St) : Option ((Int32) × St) :=
  (bnd (FX11_netIn a σ) (fun v1 t2 => (Option.elim v1 (some ((-2 : Int32), t2)) (fun x4 => (chk (netAt x4) (bnd (FX11_isPriced b t2) (fun v7 t8 => (if v7 = (0 : Int32) then (some ((-2 : Int32), t8)) else (bnd (FX5_has x4 c t8) (fun v11 t12 => (if v11 = (0 : Int32) then (some ((-2 : Int32), t12)) else (bnd (FX6_firstStep b t12) (fun v16 t17 => (if v16 ≤ c then (bnd (FX6_atPlace x4 b c t17) (fun v20 t21 => (some (v20, t21)))) else (some ((-2 : Int32), t17))))))))))))))))
set_option maxHeartbeats 4000000 in
set_option maxRecDepth 100000 in
theorem KX11_price (G : xG) (Gb : xMem) (a : Int32) (b : Int32) (c : Int32) (σ : St) (r0 : Int32) (t0 : St) (hq : FX11_price a b c σ = some (r0, t0)) : xC G mX11_price 4 0 0 [.ref 0, .int a, .int b, .int c] (mem σ Gb) (PQ r0 t0 Gb) := by
  unfold FX11_price at hq
  refine xC.of (by decide) (Nat.le_of_ble_eq_true rfl) ?_
  show xW _ _ _ _ 0 [(0, .ref 0), (1, .int a), (2, .int b), (3, .int c)] [] _ 0 0
  refine xi_aload_n 0 dX11_price_0 rfl ?_
  refine xi_iload_n 1 dX11_price_1 rfl ?_
  obtain ⟨v1, t2, k3, hq⟩ := bnd_some hq
  refine xi_callV (as := [.int a]) (rest := []) dX11_price_2 (KX11_netIn G Gb a _ _ _ k3) mkX11_netIn w_491 ws_15 w_489 (mem_get sh_0) rfl rfl rfl rfl (Nat.le_of_ble_eq_true rfl) (Nat.le_of_ble_eq_true rfl) (Nat.le_of_ble_eq_true rfl) (Nat.le_of_ble_eq_true rfl) (Nat.le_of_ble_eq_true rfl) ?_
  intro v M2 hz
  obtain ⟨rfl, rfl⟩ := hz
  rcases v1 with _ | x4
  · replace hq := oel_n hq
    show xW _ _ _ _ 5 _ [.null] (mem t2 Gb) _ _
    refine xi_astoreN (lv' := [(4, .null), (0, .ref 0), (1, .int a), (2, .int b), (3, .int c)]) dX11_price_5 (by decide) rfl ?_
    refine xi_aloadN 0 dX11_price_7 rfl ?_
    refine xi_ifnullN (tgt := 19) dX11_price_9 (by decide) ?_
    refine xi_bipush (v := (-2)) dX11_price_19 (by decide) ?_
    have r6 := some_pair hq
    obtain ⟨rfl, rfl⟩ := r6
    exact xi_iret dX11_price_21 rfl rfl (Nat.le_of_ble_eq_true rfl) (Nat.le_of_ble_eq_true rfl) ⟨rfl, rfl⟩
  · replace hq := oel_s hq
    obtain ⟨g5, hq⟩ := chk_some hq
    show xW _ _ _ _ 5 _ [.ref x4] (mem t2 Gb) _ _
    refine xi_astore (lv' := [(4, .ref x4), (0, .ref 0), (1, .int a), (2, .int b), (3, .int c)]) dX11_price_5 (by decide) rfl ?_
    refine xi_aload 0 dX11_price_7 rfl ?_
    refine xi_ifnull dX11_price_9 ?_
    refine xi_iload_n 3 dX11_price_12 rfl ?_
    obtain ⟨v7, t8, k9, hq⟩ := bnd_some hq
    refine xi_callS (as := [.int b]) (rest := []) dX11_price_13 (KX11_isPriced G Gb b _ _ _ k9) mkX11_isPriced w_620 w_619 rfl rfl (Nat.le_of_ble_eq_true rfl) (Nat.le_of_ble_eq_true rfl) (Nat.le_of_ble_eq_true rfl) (Nat.le_of_ble_eq_true rfl) (Nat.le_of_ble_eq_true rfl) ?_
    intro v M2 hz
    obtain ⟨rfl, rfl⟩ := hz
    show xW _ _ _ _ 16 _ [.int v7] (mem t8 Gb) _ _
    refine xi_if_ne (tgt := 22) dX11_price_16 (by decide) (fun c10 => ?_) (fun c10 => ?_)
    · replace hq := ite_n c10 hq
      refine xi_aload 0 dX11_price_22 rfl ?_
      refine xi_iload_n 4 dX11_price_24 rfl ?_
      obtain ⟨v11, t12, k13, hq⟩ := bnd_some hq
      refine xi_callV (as := [.int c]) (rest := []) dX11_price_25 (KX5_has G Gb x4 c _ _ _ k13) mkX5_has w_437 w_438 w_541 (mem_get (netAt_0 g5)) rfl rfl rfl rfl (Nat.le_of_ble_eq_true rfl) (Nat.le_of_ble_eq_true rfl) (Nat.le_of_ble_eq_true rfl) (Nat.le_of_ble_eq_true rfl) (Nat.le_of_ble_eq_true rfl) ?_
      intro v M2 hz
      obtain ⟨rfl, rfl⟩ := hz
      show xW _ _ _ _ 28 _ [.int v11] (mem t12 Gb) _ _
      refine xi_if_eq (tgt := 39) dX11_price_28 (by decide) (fun c14 => ?_) (fun c14 => ?_)
      · replace hq := ite_p c14 hq
        refine xi_bipush (v := (-2)) dX11_price_39 (by decide) ?_
        have r15 := some_pair hq
        obtain ⟨rfl, rfl⟩ := r15
        exact xi_iret dX11_price_41 rfl rfl (Nat.le_of_ble_eq_true rfl) (Nat.le_of_ble_eq_true rfl) ⟨rfl, rfl⟩
      · replace hq := ite_n c14 hq
        refine xi_iload_n 4 dX11_price_31 rfl ?_
        refine xi_iload_n 3 dX11_price_32 rfl ?_
        obtain ⟨v16, t17, k18, hq⟩ := bnd_some hq
        refine xi_callS (as := [.int b]) (rest := [.int c]) dX11_price_33 (KX6_firstStep G Gb b _ _ _ k18) mkX6_firstStep w_623 w_622 rfl rfl (Nat.le_of_ble_eq_true rfl) (Nat.le_of_ble_eq_true rfl) (Nat.le_of_ble_eq_true rfl) (Nat.le_of_ble_eq_true rfl) (Nat.le_of_ble_eq_true rfl) ?_
        intro v M2 hz
        obtain ⟨rfl, rfl⟩ := hz
        show xW _ _ _ _ 36 _ [.int v16, .int c] (mem t17 Gb) _ _
        refine xi_icmp_ge (tgt := 42) dX11_price_36 (by decide) (fun c19 => ?_) (fun c19 => ?_)
        · replace hq := ite_p c19 hq
          refine xi_aload 0 dX11_price_42 rfl ?_
          refine xi_iload_n 3 dX11_price_44 rfl ?_
          refine xi_iload_n 4 dX11_price_45 rfl ?_
          obtain ⟨v20, t21, k22, hq⟩ := bnd_some hq
          refine xi_callS (as := [.ref x4, .int b, .int c]) (rest := []) dX11_price_46 (KX6_atPlace G Gb x4 b c _ _ _ k22) mkX6_atPlace w_626 w_625 rfl rfl (Nat.le_of_ble_eq_true rfl) (Nat.le_of_ble_eq_true rfl) (Nat.le_of_ble_eq_true rfl) (Nat.le_of_ble_eq_true rfl) (Nat.le_of_ble_eq_true rfl) ?_
          intro v M2 hz
          obtain ⟨rfl, rfl⟩ := hz
          show xW _ _ _ _ 49 _ [.int v20] (mem t21 Gb) _ _
          have r23 := some_pair hq
          obtain ⟨rfl, rfl⟩ := r23
          exact xi_iret dX11_price_49 rfl rfl (Nat.le_of_ble_eq_true rfl) (Nat.le_of_ble_eq_true rfl) ⟨rfl, rfl⟩
        · replace hq := ite_n c19 hq
          refine xi_bipush (v := (-2)) dX11_price_39 (by decide) ?_
          have r24 := some_pair hq
          obtain ⟨rfl, rfl⟩ := r24
          exact xi_iret dX11_price_41 rfl rfl (Nat.le_of_ble_eq_true rfl) (Nat.le_of_ble_eq_true rfl) ⟨rfl, rfl⟩
    · replace hq := ite_p c10 hq
      refine xi_bipush (v := (-2)) dX11_price_19 (by decide) ?_
      have r25 := some_pair hq
      obtain ⟨rfl, rfl⟩ := r25
      exact xi_iret dX11_price_21 rfl rfl (Nat.le_of_ble_eq_true rfl) (Nat.le_of_ble_eq_true rfl) ⟨rfl, rfl⟩
noncomputable def FX11_reverse (a : Int32) (σ : St) : Option ((Int32) × St) :=
  (bnd (FX11_netIn a σ) (fun v1 t2 => (Option.elim v1 (some ((-2 : Int32), t2)) (fun x4 => (chk (netAt x4) (bnd (FX5_copyFrom 141 x4 t2) (fun v7 t8 => (bnd (FX5_turnRound x4 t8) (fun v10 t11 => (bnd (FX11_noteAct a t11) (fun v13 t14 => (chk (inb (0 : Int32) 9) (rdb t14 (x4 + 2) ((0 : Int32).toNatClampNeg) (fun v17 => (some (v17, t14))))))))))))))))
set_option maxHeartbeats 4000000 in
set_option maxRecDepth 100000 in
theorem KX11_reverse (G : xG) (Gb : xMem) (a : Int32) (σ : St) (r0 : Int32) (t0 : St) (hq : FX11_reverse a σ = some (r0, t0)) : xC G mX11_reverse 4 0 0 [.ref 0, .int a] (mem σ Gb) (PQ r0 t0 Gb) := by
  unfold FX11_reverse at hq
  refine xC.of (by decide) (Nat.le_of_ble_eq_true rfl) ?_
  show xW _ _ _ _ 0 [(0, .ref 0), (1, .int a)] [] _ 0 0
  refine xi_aload_n 0 dX11_reverse_0 rfl ?_
  refine xi_iload_n 1 dX11_reverse_1 rfl ?_
  obtain ⟨v1, t2, k3, hq⟩ := bnd_some hq
  refine xi_callV (as := [.int a]) (rest := []) dX11_reverse_2 (KX11_netIn G Gb a _ _ _ k3) mkX11_netIn w_491 ws_15 w_489 (mem_get sh_0) rfl rfl rfl rfl (Nat.le_of_ble_eq_true rfl) (Nat.le_of_ble_eq_true rfl) (Nat.le_of_ble_eq_true rfl) (Nat.le_of_ble_eq_true rfl) (Nat.le_of_ble_eq_true rfl) ?_
  intro v M2 hz
  obtain ⟨rfl, rfl⟩ := hz
  rcases v1 with _ | x4
  · replace hq := oel_n hq
    show xW _ _ _ _ 5 _ [.null] (mem t2 Gb) _ _
    refine xi_astore_nN (lv' := [(2, .null), (0, .ref 0), (1, .int a)]) dX11_reverse_5 (by decide) rfl ?_
    refine xi_aload_nN 0 dX11_reverse_6 rfl ?_
    refine xi_ifnonnullN dX11_reverse_7 ?_
    refine xi_bipush (v := (-2)) dX11_reverse_10 (by decide) ?_
    have r6 := some_pair hq
    obtain ⟨rfl, rfl⟩ := r6
    exact xi_iret dX11_reverse_12 rfl rfl (Nat.le_of_ble_eq_true rfl) (Nat.le_of_ble_eq_true rfl) ⟨rfl, rfl⟩
  · replace hq := oel_s hq
    obtain ⟨g5, hq⟩ := chk_some hq
    show xW _ _ _ _ 5 _ [.ref x4] (mem t2 Gb) _ _
    refine xi_astore_n (lv' := [(2, .ref x4), (0, .ref 0), (1, .int a)]) dX11_reverse_5 (by decide) rfl ?_
    refine xi_aload_n 0 dX11_reverse_6 rfl ?_
    refine xi_ifnonnull (tgt := 13) dX11_reverse_7 (by decide) ?_
    refine xi_aload_n 1 dX11_reverse_13 rfl ?_
    refine yi_getR (f := 8) dX11_reverse_14 sh_0 rfl ok_8 (by decide) w_250 rfl ?_
    refine xi_aload_n 0 dX11_reverse_17 rfl ?_
    obtain ⟨v7, t8, k9, hq⟩ := bnd_some hq
    refine xi_callV (as := [.ref x4]) (rest := []) dX11_reverse_18 (KX5_copyFrom G Gb 141 x4 _ _ _ k9) mkX5_copyFrom w_445 w_446 w_444 (mem_get sh_141) rfl rfl rfl rfl (Nat.le_of_ble_eq_true rfl) (Nat.le_of_ble_eq_true rfl) (Nat.le_of_ble_eq_true rfl) (Nat.le_of_ble_eq_true rfl) (Nat.le_of_ble_eq_true rfl) ?_
    intro v M2 hz
    obtain ⟨rfl, rfl⟩ := hz
    show xW _ _ _ _ 21 _ [] (mem t8 Gb) _ _
    refine xi_aload_n 0 dX11_reverse_21 rfl ?_
    obtain ⟨v10, t11, k12, hq⟩ := bnd_some hq
    refine xi_callV (as := []) (rest := []) dX11_reverse_22 (KX5_turnRound G Gb x4 _ _ _ k12) mkX5_turnRound w_887 w_888 w_886 (mem_get (netAt_0 g5)) rfl rfl rfl rfl (Nat.le_of_ble_eq_true rfl) (Nat.le_of_ble_eq_true rfl) (Nat.le_of_ble_eq_true rfl) (Nat.le_of_ble_eq_true rfl) (Nat.le_of_ble_eq_true rfl) ?_
    intro v M2 hz
    obtain ⟨rfl, rfl⟩ := hz
    show xW _ _ _ _ 25 _ [] (mem t11 Gb) _ _
    refine xi_aload_n 1 dX11_reverse_25 rfl ?_
    refine xi_iload_n 2 dX11_reverse_26 rfl ?_
    obtain ⟨v13, t14, k15, hq⟩ := bnd_some hq
    refine xi_callV (as := [.int a]) (rest := []) dX11_reverse_27 (KX11_noteAct G Gb a _ _ _ k15) mkX11_noteAct w_453 ws_13 w_451 (mem_get sh_0) rfl rfl rfl rfl (Nat.le_of_ble_eq_true rfl) (Nat.le_of_ble_eq_true rfl) (Nat.le_of_ble_eq_true rfl) (Nat.le_of_ble_eq_true rfl) (Nat.le_of_ble_eq_true rfl) ?_
    intro v M2 hz
    obtain ⟨rfl, rfl⟩ := hz
    show xW _ _ _ _ 30 _ [] (mem t14 Gb) _ _
    refine xi_aload_n 0 dX11_reverse_30 rfl ?_
    refine yi_getR (f := 3) dX11_reverse_31 (netAt_0 g5) rfl ok_5 (by decide) w_82 rfl ?_
    refine xi_iconst (v := 0) dX11_reverse_34 (by decide) ?_
    obtain ⟨g16, hq⟩ := chk_some hq
    obtain ⟨v17, h18, hq⟩ := rdb_some hq
    refine yi_ialoadV dX11_reverse_35 (netAt_2 g5) g16 h18 ?_
    have r19 := some_pair hq
    obtain ⟨rfl, rfl⟩ := r19
    exact xi_iret dX11_reverse_36 rfl rfl (Nat.le_of_ble_eq_true rfl) (Nat.le_of_ble_eq_true rfl) ⟨rfl, rfl⟩
noncomputable def FX11_row (a : Int32) (b : Int32) (σ : St) : Option ((Int32) × St) :=
  (bnd (FX11_netIn a σ) (fun v1 t2 => (Option.elim v1 (some ((-2 : Int32), t2)) (fun x4 => (chk (netAt x4) (bnd (FX5_has x4 b t2) (fun v7 t8 => (if v7 = (0 : Int32) then (some ((-2 : Int32), t8)) else (chk (inb b 9) (rdb t8 (x4 + 2) (b.toNatClampNeg) (fun v12 => (some (v12, t8)))))))))))))
set_option maxHeartbeats 4000000 in
set_option maxRecDepth 100000 in
theorem KX11_row (G : xG) (Gb : xMem) (a : Int32) (b : Int32) (σ : St) (r0 : Int32) (t0 : St) (hq : FX11_row a b σ = some (r0, t0)) : xC G mX11_row 2 0 0 [.ref 0, .int a, .int b] (mem σ Gb) (PQ r0 t0 Gb) := by
  unfold FX11_row at hq
  refine xC.of (by decide) (Nat.le_of_ble_eq_true rfl) ?_
  show xW _ _ _ _ 0 [(0, .ref 0), (1, .int a), (2, .int b)] [] _ 0 0
  refine xi_aload_n 0 dX11_row_0 rfl ?_
  refine xi_iload_n 1 dX11_row_1 rfl ?_
  obtain ⟨v1, t2, k3, hq⟩ := bnd_some hq
  refine xi_callV (as := [.int a]) (rest := []) dX11_row_2 (KX11_netIn G Gb a _ _ _ k3) mkX11_netIn w_491 ws_15 w_489 (mem_get sh_0) rfl rfl rfl rfl (Nat.le_of_ble_eq_true rfl) (Nat.le_of_ble_eq_true rfl) (Nat.le_of_ble_eq_true rfl) (Nat.le_of_ble_eq_true rfl) (Nat.le_of_ble_eq_true rfl) ?_
  intro v M2 hz
  obtain ⟨rfl, rfl⟩ := hz
  rcases v1 with _ | x4
  · replace hq := oel_n hq
    show xW _ _ _ _ 5 _ [.null] (mem t2 Gb) _ _
    refine xi_astore_nN (lv' := [(3, .null), (0, .ref 0), (1, .int a), (2, .int b)]) dX11_row_5 (by decide) rfl ?_
    refine xi_aload_nN 0 dX11_row_6 rfl ?_
    refine xi_ifnullN (tgt := 18) dX11_row_7 (by decide) ?_
    refine xi_bipush (v := (-2)) dX11_row_18 (by decide) ?_
    refine xi_goto (tgt := 29) dX11_row_20 (by decide) ?_
    have r6 := some_pair hq
    obtain ⟨rfl, rfl⟩ := r6
    exact xi_iret dX11_row_29 rfl rfl (Nat.le_of_ble_eq_true rfl) (Nat.le_of_ble_eq_true rfl) ⟨rfl, rfl⟩
  · replace hq := oel_s hq
    obtain ⟨g5, hq⟩ := chk_some hq
    show xW _ _ _ _ 5 _ [.ref x4] (mem t2 Gb) _ _
    refine xi_astore_n (lv' := [(3, .ref x4), (0, .ref 0), (1, .int a), (2, .int b)]) dX11_row_5 (by decide) rfl ?_
    refine xi_aload_n 0 dX11_row_6 rfl ?_
    refine xi_ifnull dX11_row_7 ?_
    refine xi_aload_n 0 dX11_row_10 rfl ?_
    refine xi_iload_n 3 dX11_row_11 rfl ?_
    obtain ⟨v7, t8, k9, hq⟩ := bnd_some hq
    refine xi_callV (as := [.int b]) (rest := []) dX11_row_12 (KX5_has G Gb x4 b _ _ _ k9) mkX5_has w_437 w_438 w_541 (mem_get (netAt_0 g5)) rfl rfl rfl rfl (Nat.le_of_ble_eq_true rfl) (Nat.le_of_ble_eq_true rfl) (Nat.le_of_ble_eq_true rfl) (Nat.le_of_ble_eq_true rfl) (Nat.le_of_ble_eq_true rfl) ?_
    intro v M2 hz
    obtain ⟨rfl, rfl⟩ := hz
    show xW _ _ _ _ 15 _ [.int v7] (mem t8 Gb) _ _
    refine xi_if_ne (tgt := 23) dX11_row_15 (by decide) (fun c10 => ?_) (fun c10 => ?_)
    · replace hq := ite_n c10 hq
      refine xi_aload_n 0 dX11_row_23 rfl ?_
      refine yi_getR (f := 3) dX11_row_24 (netAt_0 g5) rfl ok_5 (by decide) w_82 rfl ?_
      refine xi_iload_n 3 dX11_row_27 rfl ?_
      obtain ⟨g11, hq⟩ := chk_some hq
      obtain ⟨v12, h13, hq⟩ := rdb_some hq
      refine yi_ialoadV dX11_row_28 (netAt_2 g5) g11 h13 ?_
      have r14 := some_pair hq
      obtain ⟨rfl, rfl⟩ := r14
      exact xi_iret dX11_row_29 rfl rfl (Nat.le_of_ble_eq_true rfl) (Nat.le_of_ble_eq_true rfl) ⟨rfl, rfl⟩
    · replace hq := ite_p c10 hq
      refine xi_bipush (v := (-2)) dX11_row_18 (by decide) ?_
      refine xi_goto (tgt := 29) dX11_row_20 (by decide) ?_
      have r15 := some_pair hq
      obtain ⟨rfl, rfl⟩ := r15
      exact xi_iret dX11_row_29 rfl rfl (Nat.le_of_ble_eq_true rfl) (Nat.le_of_ble_eq_true rfl) ⟨rfl, rfl⟩
noncomputable def FX11_split (a : Int32) (b : Int32) (c : Int32) (σ : St) : Option ((Int32) × St) :=
  (bnd (FX11_netIn a σ) (fun v1 t2 => (Option.elim v1 (some ((-2 : Int32), t2)) (fun x4 => (chk (netAt x4) (if b < (0 : Int32) then (some ((-2 : Int32), t2)) else (bnd (FX5_allBits x4 t2) (fun v9 t10 => (if b ≤ v9 then (if c = 0 then (bnd (FX6_cutWeight x4 b t10) (fun v14 t15 => (some (v14, t15)))) else (if c = 1 then (bnd (FX6_gateSize x4 b t10) (fun v19 t20 => (some (v19, t20)))) else (if c = 2 then (bnd (FX6_fringeSize x4 b t10) (fun v24 t25 => (some (v24, t25)))) else (some ((-2 : Int32), t10))))) else (some ((-2 : Int32), t10)))))))))))
set_option maxHeartbeats 4000000 in
set_option maxRecDepth 100000 in
theorem KX11_split (G : xG) (Gb : xMem) (a : Int32) (b : Int32) (c : Int32) (σ : St) (r0 : Int32) (t0 : St) (hq : FX11_split a b c σ = some (r0, t0)) : xC G mX11_split 2 0 0 [.ref 0, .int a, .int b, .int c] (mem σ Gb) (PQ r0 t0 Gb) := by
  unfold FX11_split at hq
  refine xC.of (by decide) (Nat.le_of_ble_eq_true rfl) ?_
  show xW _ _ _ _ 0 [(0, .ref 0), (1, .int a), (2, .int b), (3, .int c)] [] _ 0 0
  refine xi_aload_n 0 dX11_split_0 rfl ?_
  refine xi_iload_n 1 dX11_split_1 rfl ?_
  obtain ⟨v1, t2, k3, hq⟩ := bnd_some hq
  refine xi_callV (as := [.int a]) (rest := []) dX11_split_2 (KX11_netIn G Gb a _ _ _ k3) mkX11_netIn w_491 ws_15 w_489 (mem_get sh_0) rfl rfl rfl rfl (Nat.le_of_ble_eq_true rfl) (Nat.le_of_ble_eq_true rfl) (Nat.le_of_ble_eq_true rfl) (Nat.le_of_ble_eq_true rfl) (Nat.le_of_ble_eq_true rfl) ?_
  intro v M2 hz
  obtain ⟨rfl, rfl⟩ := hz
  rcases v1 with _ | x4
  · replace hq := oel_n hq
    show xW _ _ _ _ 5 _ [.null] (mem t2 Gb) _ _
    refine xi_astoreN (lv' := [(4, .null), (0, .ref 0), (1, .int a), (2, .int b), (3, .int c)]) dX11_split_5 (by decide) rfl ?_
    refine xi_aloadN 0 dX11_split_7 rfl ?_
    refine xi_ifnullN (tgt := 25) dX11_split_9 (by decide) ?_
    refine xi_bipush (v := (-2)) dX11_split_25 (by decide) ?_
    have r6 := some_pair hq
    obtain ⟨rfl, rfl⟩ := r6
    exact xi_iret dX11_split_27 rfl rfl (Nat.le_of_ble_eq_true rfl) (Nat.le_of_ble_eq_true rfl) ⟨rfl, rfl⟩
  · replace hq := oel_s hq
    obtain ⟨g5, hq⟩ := chk_some hq
    show xW _ _ _ _ 5 _ [.ref x4] (mem t2 Gb) _ _
    refine xi_astore (lv' := [(4, .ref x4), (0, .ref 0), (1, .int a), (2, .int b), (3, .int c)]) dX11_split_5 (by decide) rfl ?_
    refine xi_aload 0 dX11_split_7 rfl ?_
    refine xi_ifnull dX11_split_9 ?_
    refine xi_iload_n 3 dX11_split_12 rfl ?_
    refine xi_if_lt (tgt := 25) dX11_split_13 (by decide) (fun c7 => ?_) (fun c7 => ?_)
    · replace hq := ite_p c7 hq
      refine xi_bipush (v := (-2)) dX11_split_25 (by decide) ?_
      have r8 := some_pair hq
      obtain ⟨rfl, rfl⟩ := r8
      exact xi_iret dX11_split_27 rfl rfl (Nat.le_of_ble_eq_true rfl) (Nat.le_of_ble_eq_true rfl) ⟨rfl, rfl⟩
    · replace hq := ite_n c7 hq
      refine xi_iload_n 3 dX11_split_16 rfl ?_
      refine xi_aload 0 dX11_split_17 rfl ?_
      obtain ⟨v9, t10, k11, hq⟩ := bnd_some hq
      refine xi_callV (as := []) (rest := [.int b]) dX11_split_19 (KX5_allBits G Gb x4 _ _ _ k11) mkX5_allBits w_441 w_442 w_823 (mem_get (netAt_0 g5)) rfl rfl rfl rfl (Nat.le_of_ble_eq_true rfl) (Nat.le_of_ble_eq_true rfl) (Nat.le_of_ble_eq_true rfl) (Nat.le_of_ble_eq_true rfl) (Nat.le_of_ble_eq_true rfl) ?_
      intro v M2 hz
      obtain ⟨rfl, rfl⟩ := hz
      show xW _ _ _ _ 22 _ [.int v9, .int b] (mem t10 Gb) _ _
      refine xi_icmp_le (tgt := 28) dX11_split_22 (by decide) (fun c12 => ?_) (fun c12 => ?_)
      · replace hq := ite_p c12 hq
        refine xi_iload_n 4 dX11_split_28 rfl ?_
        by_cases c13 : c = 0
        · replace hq := ite_p c13 hq
          refine xi_tableIn (off := 27) (tgt := 56) dX11_split_29 (by rw [c13]; decide) (by rw [c13]; decide) (by rw [c13]; decide) (by decide) ?_
          refine xi_aload 0 dX11_split_56 rfl ?_
          refine xi_iload_n 3 dX11_split_58 rfl ?_
          obtain ⟨v14, t15, k16, hq⟩ := bnd_some hq
          refine xi_callS (as := [.ref x4, .int b]) (rest := []) dX11_split_59 (KX6_cutWeight G Gb x4 b _ _ _ k16) mkX6_cutWeight w_608 w_824 rfl rfl (Nat.le_of_ble_eq_true rfl) (Nat.le_of_ble_eq_true rfl) (Nat.le_of_ble_eq_true rfl) (Nat.le_of_ble_eq_true rfl) (Nat.le_of_ble_eq_true rfl) ?_
          intro v M2 hz
          obtain ⟨rfl, rfl⟩ := hz
          show xW _ _ _ _ 62 _ [.int v14] (mem t15 Gb) _ _
          have r17 := some_pair hq
          obtain ⟨rfl, rfl⟩ := r17
          exact xi_iret dX11_split_62 rfl rfl (Nat.le_of_ble_eq_true rfl) (Nat.le_of_ble_eq_true rfl) ⟨rfl, rfl⟩
        replace hq := ite_n c13 hq
        by_cases c18 : c = 1
        · replace hq := ite_p c18 hq
          refine xi_tableIn (off := 34) (tgt := 63) dX11_split_29 (by rw [c18]; decide) (by rw [c18]; decide) (by rw [c18]; decide) (by decide) ?_
          refine xi_aload 0 dX11_split_63 rfl ?_
          refine xi_iload_n 3 dX11_split_65 rfl ?_
          obtain ⟨v19, t20, k21, hq⟩ := bnd_some hq
          refine xi_callS (as := [.ref x4, .int b]) (rest := []) dX11_split_66 (KX6_gateSize G Gb x4 b _ _ _ k21) mkX6_gateSize w_589 w_825 rfl rfl (Nat.le_of_ble_eq_true rfl) (Nat.le_of_ble_eq_true rfl) (Nat.le_of_ble_eq_true rfl) (Nat.le_of_ble_eq_true rfl) (Nat.le_of_ble_eq_true rfl) ?_
          intro v M2 hz
          obtain ⟨rfl, rfl⟩ := hz
          show xW _ _ _ _ 69 _ [.int v19] (mem t20 Gb) _ _
          have r22 := some_pair hq
          obtain ⟨rfl, rfl⟩ := r22
          exact xi_iret dX11_split_69 rfl rfl (Nat.le_of_ble_eq_true rfl) (Nat.le_of_ble_eq_true rfl) ⟨rfl, rfl⟩
        replace hq := ite_n c18 hq
        by_cases c23 : c = 2
        · replace hq := ite_p c23 hq
          refine xi_tableIn (off := 41) (tgt := 70) dX11_split_29 (by rw [c23]; decide) (by rw [c23]; decide) (by rw [c23]; decide) (by decide) ?_
          refine xi_aload 0 dX11_split_70 rfl ?_
          refine xi_iload_n 3 dX11_split_72 rfl ?_
          obtain ⟨v24, t25, k26, hq⟩ := bnd_some hq
          refine xi_callS (as := [.ref x4, .int b]) (rest := []) dX11_split_73 (KX6_fringeSize G Gb x4 b _ _ _ k26) mkX6_fringeSize w_596 w_826 rfl rfl (Nat.le_of_ble_eq_true rfl) (Nat.le_of_ble_eq_true rfl) (Nat.le_of_ble_eq_true rfl) (Nat.le_of_ble_eq_true rfl) (Nat.le_of_ble_eq_true rfl) ?_
          intro v M2 hz
          obtain ⟨rfl, rfl⟩ := hz
          show xW _ _ _ _ 76 _ [.int v24] (mem t25 Gb) _ _
          have r27 := some_pair hq
          obtain ⟨rfl, rfl⟩ := r27
          exact xi_iret dX11_split_76 rfl rfl (Nat.le_of_ble_eq_true rfl) (Nat.le_of_ble_eq_true rfl) ⟨rfl, rfl⟩
        replace hq := ite_n c23 hq
        have tc13 : c.toInt ≠ 0 := fun e => c13 (Int32.toInt_inj.mp (by rw [e]; decide))
        have tc18 : c.toInt ≠ 1 := fun e => c18 (Int32.toInt_inj.mp (by rw [e]; decide))
        have tc23 : c.toInt ≠ 2 := fun e => c23 (Int32.toInt_inj.mp (by rw [e]; decide))
        refine xi_tableOut (tgt := 77) dX11_split_29 (by omega) (by decide) ?_
        refine xi_bipush (v := (-2)) dX11_split_77 (by decide) ?_
        have r28 := some_pair hq
        obtain ⟨rfl, rfl⟩ := r28
        exact xi_iret dX11_split_79 rfl rfl (Nat.le_of_ble_eq_true rfl) (Nat.le_of_ble_eq_true rfl) ⟨rfl, rfl⟩
      · replace hq := ite_n c12 hq
        refine xi_bipush (v := (-2)) dX11_split_25 (by decide) ?_
        have r29 := some_pair hq
        obtain ⟨rfl, rfl⟩ := r29
        exact xi_iret dX11_split_27 rfl rfl (Nat.le_of_ble_eq_true rfl) (Nat.le_of_ble_eq_true rfl) ⟨rfl, rfl⟩
noncomputable def FX11_swaps (a : Int32) (b : Int32) (c : Int32) (σ : St) : Option ((Int32) × St) :=
  (bnd (FX11_netIn a σ) (fun v1 t2 => (Option.elim v1 (some ((-2 : Int32), t2)) (fun x4 => (chk (netAt x4) (bnd (FX5_has x4 b t2) (fun v7 t8 => (if v7 = (0 : Int32) then (some ((-2 : Int32), t8)) else (bnd (FX5_has x4 c t8) (fun v12 t13 => (if v12 = (0 : Int32) then (some ((-2 : Int32), t13)) else (bnd (FX5_copyFrom 141 x4 t13) (fun v16 t17 => (bnd (FX5_changeOver x4 b c t17) (fun v19 t20 => (bnd (FX11_noteAct a t20) (fun v22 t23 => (chk (inb b 9) (rdb t23 143 (b.toNatClampNeg) (fun v26 => (some (v26, t23))))))))))))))))))))))
set_option maxHeartbeats 4000000 in
set_option maxRecDepth 100000 in
theorem KX11_swaps (G : xG) (Gb : xMem) (a : Int32) (b : Int32) (c : Int32) (σ : St) (r0 : Int32) (t0 : St) (hq : FX11_swaps a b c σ = some (r0, t0)) : xC G mX11_swaps 4 0 0 [.ref 0, .int a, .int b, .int c] (mem σ Gb) (PQ r0 t0 Gb) := by
  unfold FX11_swaps at hq
  refine xC.of (by decide) (Nat.le_of_ble_eq_true rfl) ?_
  show xW _ _ _ _ 0 [(0, .ref 0), (1, .int a), (2, .int b), (3, .int c)] [] _ 0 0
  refine xi_aload_n 0 dX11_swaps_0 rfl ?_
  refine xi_iload_n 1 dX11_swaps_1 rfl ?_
  obtain ⟨v1, t2, k3, hq⟩ := bnd_some hq
  refine xi_callV (as := [.int a]) (rest := []) dX11_swaps_2 (KX11_netIn G Gb a _ _ _ k3) mkX11_netIn w_491 ws_15 w_489 (mem_get sh_0) rfl rfl rfl rfl (Nat.le_of_ble_eq_true rfl) (Nat.le_of_ble_eq_true rfl) (Nat.le_of_ble_eq_true rfl) (Nat.le_of_ble_eq_true rfl) (Nat.le_of_ble_eq_true rfl) ?_
  intro v M2 hz
  obtain ⟨rfl, rfl⟩ := hz
  rcases v1 with _ | x4
  · replace hq := oel_n hq
    show xW _ _ _ _ 5 _ [.null] (mem t2 Gb) _ _
    refine xi_astoreN (lv' := [(4, .null), (0, .ref 0), (1, .int a), (2, .int b), (3, .int c)]) dX11_swaps_5 (by decide) rfl ?_
    refine xi_aloadN 0 dX11_swaps_7 rfl ?_
    refine xi_ifnullN (tgt := 30) dX11_swaps_9 (by decide) ?_
    refine xi_bipush (v := (-2)) dX11_swaps_30 (by decide) ?_
    have r6 := some_pair hq
    obtain ⟨rfl, rfl⟩ := r6
    exact xi_iret dX11_swaps_32 rfl rfl (Nat.le_of_ble_eq_true rfl) (Nat.le_of_ble_eq_true rfl) ⟨rfl, rfl⟩
  · replace hq := oel_s hq
    obtain ⟨g5, hq⟩ := chk_some hq
    show xW _ _ _ _ 5 _ [.ref x4] (mem t2 Gb) _ _
    refine xi_astore (lv' := [(4, .ref x4), (0, .ref 0), (1, .int a), (2, .int b), (3, .int c)]) dX11_swaps_5 (by decide) rfl ?_
    refine xi_aload 0 dX11_swaps_7 rfl ?_
    refine xi_ifnull dX11_swaps_9 ?_
    refine xi_aload 0 dX11_swaps_12 rfl ?_
    refine xi_iload_n 3 dX11_swaps_14 rfl ?_
    obtain ⟨v7, t8, k9, hq⟩ := bnd_some hq
    refine xi_callV (as := [.int b]) (rest := []) dX11_swaps_15 (KX5_has G Gb x4 b _ _ _ k9) mkX5_has w_437 w_438 w_541 (mem_get (netAt_0 g5)) rfl rfl rfl rfl (Nat.le_of_ble_eq_true rfl) (Nat.le_of_ble_eq_true rfl) (Nat.le_of_ble_eq_true rfl) (Nat.le_of_ble_eq_true rfl) (Nat.le_of_ble_eq_true rfl) ?_
    intro v M2 hz
    obtain ⟨rfl, rfl⟩ := hz
    show xW _ _ _ _ 18 _ [.int v7] (mem t8 Gb) _ _
    refine xi_if_eq (tgt := 30) dX11_swaps_18 (by decide) (fun c10 => ?_) (fun c10 => ?_)
    · replace hq := ite_p c10 hq
      refine xi_bipush (v := (-2)) dX11_swaps_30 (by decide) ?_
      have r11 := some_pair hq
      obtain ⟨rfl, rfl⟩ := r11
      exact xi_iret dX11_swaps_32 rfl rfl (Nat.le_of_ble_eq_true rfl) (Nat.le_of_ble_eq_true rfl) ⟨rfl, rfl⟩
    · replace hq := ite_n c10 hq
      refine xi_aload 0 dX11_swaps_21 rfl ?_
      refine xi_iload_n 4 dX11_swaps_23 rfl ?_
      obtain ⟨v12, t13, k14, hq⟩ := bnd_some hq
      refine xi_callV (as := [.int c]) (rest := []) dX11_swaps_24 (KX5_has G Gb x4 c _ _ _ k14) mkX5_has w_437 w_438 w_541 (mem_get (netAt_0 g5)) rfl rfl rfl rfl (Nat.le_of_ble_eq_true rfl) (Nat.le_of_ble_eq_true rfl) (Nat.le_of_ble_eq_true rfl) (Nat.le_of_ble_eq_true rfl) (Nat.le_of_ble_eq_true rfl) ?_
      intro v M2 hz
      obtain ⟨rfl, rfl⟩ := hz
      show xW _ _ _ _ 27 _ [.int v12] (mem t13 Gb) _ _
      refine xi_if_ne (tgt := 33) dX11_swaps_27 (by decide) (fun c15 => ?_) (fun c15 => ?_)
      · replace hq := ite_n c15 hq
        refine xi_aload_n 1 dX11_swaps_33 rfl ?_
        refine yi_getR (f := 8) dX11_swaps_34 sh_0 rfl ok_8 (by decide) w_250 rfl ?_
        refine xi_aload 0 dX11_swaps_37 rfl ?_
        obtain ⟨v16, t17, k18, hq⟩ := bnd_some hq
        refine xi_callV (as := [.ref x4]) (rest := []) dX11_swaps_39 (KX5_copyFrom G Gb 141 x4 _ _ _ k18) mkX5_copyFrom w_445 w_446 w_444 (mem_get sh_141) rfl rfl rfl rfl (Nat.le_of_ble_eq_true rfl) (Nat.le_of_ble_eq_true rfl) (Nat.le_of_ble_eq_true rfl) (Nat.le_of_ble_eq_true rfl) (Nat.le_of_ble_eq_true rfl) ?_
        intro v M2 hz
        obtain ⟨rfl, rfl⟩ := hz
        show xW _ _ _ _ 42 _ [] (mem t17 Gb) _ _
        refine xi_aload 0 dX11_swaps_42 rfl ?_
        refine xi_iload_n 3 dX11_swaps_44 rfl ?_
        refine xi_iload_n 4 dX11_swaps_45 rfl ?_
        obtain ⟨v19, t20, k21, hq⟩ := bnd_some hq
        refine xi_callV (as := [.int b, .int c]) (rest := []) dX11_swaps_46 (KX5_changeOver G Gb x4 b c _ _ _ k21) mkX5_changeOver w_866 w_867 w_865 (mem_get (netAt_0 g5)) rfl rfl rfl rfl (Nat.le_of_ble_eq_true rfl) (Nat.le_of_ble_eq_true rfl) (Nat.le_of_ble_eq_true rfl) (Nat.le_of_ble_eq_true rfl) (Nat.le_of_ble_eq_true rfl) ?_
        intro v M2 hz
        obtain ⟨rfl, rfl⟩ := hz
        show xW _ _ _ _ 49 _ [] (mem t20 Gb) _ _
        refine xi_aload_n 1 dX11_swaps_49 rfl ?_
        refine xi_iload_n 2 dX11_swaps_50 rfl ?_
        obtain ⟨v22, t23, k24, hq⟩ := bnd_some hq
        refine xi_callV (as := [.int a]) (rest := []) dX11_swaps_51 (KX11_noteAct G Gb a _ _ _ k24) mkX11_noteAct w_453 ws_13 w_451 (mem_get sh_0) rfl rfl rfl rfl (Nat.le_of_ble_eq_true rfl) (Nat.le_of_ble_eq_true rfl) (Nat.le_of_ble_eq_true rfl) (Nat.le_of_ble_eq_true rfl) (Nat.le_of_ble_eq_true rfl) ?_
        intro v M2 hz
        obtain ⟨rfl, rfl⟩ := hz
        show xW _ _ _ _ 54 _ [] (mem t23 Gb) _ _
        refine xi_aload_n 1 dX11_swaps_54 rfl ?_
        refine yi_getR (f := 8) dX11_swaps_55 sh_0 rfl ok_8 (by decide) w_250 rfl ?_
        refine yi_getR (f := 3) dX11_swaps_58 sh_141 rfl ok_5 (by decide) w_82 rfl ?_
        refine xi_iload_n 3 dX11_swaps_61 rfl ?_
        obtain ⟨g25, hq⟩ := chk_some hq
        obtain ⟨v26, h27, hq⟩ := rdb_some hq
        refine yi_ialoadV dX11_swaps_62 sh_143 g25 h27 ?_
        have r28 := some_pair hq
        obtain ⟨rfl, rfl⟩ := r28
        exact xi_iret dX11_swaps_63 rfl rfl (Nat.le_of_ble_eq_true rfl) (Nat.le_of_ble_eq_true rfl) ⟨rfl, rfl⟩
      · replace hq := ite_p c15 hq
        refine xi_bipush (v := (-2)) dX11_swaps_30 (by decide) ?_
        have r29 := some_pair hq
        obtain ⟨rfl, rfl⟩ := r29
        exact xi_iret dX11_swaps_32 rfl rfl (Nat.le_of_ble_eq_true rfl) (Nat.le_of_ble_eq_true rfl) ⟨rfl, rfl⟩
noncomputable def FX11_takes (a : Int32) (b : Int32) (σ : St) : Option ((Int32) × St) :=
  (bnd (FX11_findingOf a b σ) (fun v1 t2 => (Option.elim v1 (some ((-2 : Int32), t2)) (fun x4 => (chk (findAt x4) (chk (inb a 3) (chk (netAt (el 10 a)) (bnd (FX5_copyFrom 141 (el 10 a) t2) (fun v9 t10 => (cpb t10 (x4 + 1) ((el 10 a) + 2) 9 (fun t12 => (bnd (FX11_noteAct a t12) (fun v14 t15 => (bnd (FX5_placesUnlike (el 10 a) 141 t15) (fun v17 t18 => (some (v17, t18)))))))))))))))))
set_option maxHeartbeats 4000000 in
set_option maxRecDepth 100000 in
theorem KX11_takes (G : xG) (Gb : xMem) (a : Int32) (b : Int32) (σ : St) (r0 : Int32) (t0 : St) (hq : FX11_takes a b σ = some (r0, t0)) : xC G mX11_takes 17 0 0 [.ref 0, .int a, .int b] (mem σ Gb) (PQ r0 t0 Gb) := by
  unfold FX11_takes at hq
  refine xC.of (by decide) (Nat.le_of_ble_eq_true rfl) ?_
  show xW _ _ _ _ 0 [(0, .ref 0), (1, .int a), (2, .int b)] [] _ 0 0
  refine xi_aload_n 0 dX11_takes_0 rfl ?_
  refine xi_iload_n 1 dX11_takes_1 rfl ?_
  refine xi_iload_n 2 dX11_takes_2 rfl ?_
  obtain ⟨v1, t2, k3, hq⟩ := bnd_some hq
  refine xi_callV (as := [.int a, .int b]) (rest := []) dX11_takes_3 (KX11_findingOf G Gb a b _ _ _ k3) mkX11_findingOf w_659 ws_16 w_657 (mem_get sh_0) rfl rfl rfl rfl (Nat.le_of_ble_eq_true rfl) (Nat.le_of_ble_eq_true rfl) (Nat.le_of_ble_eq_true rfl) (Nat.le_of_ble_eq_true rfl) (Nat.le_of_ble_eq_true rfl) ?_
  intro v M2 hz
  obtain ⟨rfl, rfl⟩ := hz
  rcases v1 with _ | x4
  · replace hq := oel_n hq
    show xW _ _ _ _ 6 _ [.null] (mem t2 Gb) _ _
    refine xi_astore_nN (lv' := [(3, .null), (0, .ref 0), (1, .int a), (2, .int b)]) dX11_takes_6 (by decide) rfl ?_
    refine xi_aload_nN 0 dX11_takes_7 rfl ?_
    refine xi_ifnonnullN dX11_takes_8 ?_
    refine xi_bipush (v := (-2)) dX11_takes_11 (by decide) ?_
    have r6 := some_pair hq
    obtain ⟨rfl, rfl⟩ := r6
    exact xi_iret dX11_takes_13 rfl rfl (Nat.le_of_ble_eq_true rfl) (Nat.le_of_ble_eq_true rfl) ⟨rfl, rfl⟩
  · replace hq := oel_s hq
    obtain ⟨g5, hq⟩ := chk_some hq
    show xW _ _ _ _ 6 _ [.ref x4] (mem t2 Gb) _ _
    refine xi_astore_n (lv' := [(3, .ref x4), (0, .ref 0), (1, .int a), (2, .int b)]) dX11_takes_6 (by decide) rfl ?_
    refine xi_aload_n 0 dX11_takes_7 rfl ?_
    refine xi_ifnonnull (tgt := 14) dX11_takes_8 (by decide) ?_
    refine xi_aload_n 1 dX11_takes_14 rfl ?_
    refine yi_getR (f := 3) dX11_takes_15 sh_0 rfl ok_8 (by decide) w_245 rfl ?_
    refine xi_iload_n 2 dX11_takes_18 rfl ?_
    obtain ⟨g7, hq⟩ := chk_some hq
    refine yi_aaload dX11_takes_19 sh_10 rfl rfl g7 ?_
    obtain ⟨g8, hq⟩ := chk_some hq
    refine xi_astore (lv' := [(4, .ref (el 10 a)), (3, .ref x4), (0, .ref 0), (1, .int a), (2, .int b)]) dX11_takes_20 (by decide) rfl ?_
    refine xi_aload_n 2 dX11_takes_22 rfl ?_
    refine yi_getR (f := 8) dX11_takes_23 sh_0 rfl ok_8 (by decide) w_250 rfl ?_
    refine xi_aload 0 dX11_takes_26 rfl ?_
    obtain ⟨v9, t10, k11, hq⟩ := bnd_some hq
    refine xi_callV (as := [.ref (el 10 a)]) (rest := []) dX11_takes_28 (KX5_copyFrom G Gb 141 (el 10 a) _ _ _ k11) mkX5_copyFrom w_445 w_446 w_444 (mem_get sh_141) rfl rfl rfl rfl (Nat.le_of_ble_eq_true rfl) (Nat.le_of_ble_eq_true rfl) (Nat.le_of_ble_eq_true rfl) (Nat.le_of_ble_eq_true rfl) (Nat.le_of_ble_eq_true rfl) ?_
    intro v M2 hz
    obtain ⟨rfl, rfl⟩ := hz
    show xW _ _ _ _ 31 _ [] (mem t10 Gb) _ _
    refine xi_aload_n 1 dX11_takes_31 rfl ?_
    refine yi_getR (f := 4) dX11_takes_32 (findAt_0 g5) rfl ok_2 (by decide) w_157 rfl ?_
    refine xi_iconst (v := 0) dX11_takes_35 (by decide) ?_
    refine xi_aload 0 dX11_takes_36 rfl ?_
    refine yi_getR (f := 3) dX11_takes_38 (netAt_0 g8) rfl ok_5 (by decide) w_82 rfl ?_
    refine xi_iconst (v := 0) dX11_takes_41 (by decide) ?_
    refine xi_bipush (v := 9) dX11_takes_42 (by decide) ?_
    obtain ⟨t12, h13, hq⟩ := cpb_some hq
    refine yi_copyV (N := 9) dX11_takes_44 w_894 w_native w_449 w_17 (findAt_1 g5) (netAt_2 g8) (by decide) (by decide) (Nat.le_of_ble_eq_true rfl) (Nat.le_of_ble_eq_true rfl) (Nat.le_of_ble_eq_true rfl) (Nat.le_of_ble_eq_true rfl) (Nat.le_of_ble_eq_true rfl) h13 ?_
    refine xi_aload_n 2 dX11_takes_47 rfl ?_
    refine xi_iload_n 3 dX11_takes_48 rfl ?_
    obtain ⟨v14, t15, k16, hq⟩ := bnd_some hq
    refine xi_callV (as := [.int a]) (rest := []) dX11_takes_49 (KX11_noteAct G Gb a _ _ _ k16) mkX11_noteAct w_453 ws_13 w_451 (mem_get sh_0) rfl rfl rfl rfl (Nat.le_of_ble_eq_true rfl) (Nat.le_of_ble_eq_true rfl) (Nat.le_of_ble_eq_true rfl) (Nat.le_of_ble_eq_true rfl) (Nat.le_of_ble_eq_true rfl) ?_
    intro v M2 hz
    obtain ⟨rfl, rfl⟩ := hz
    show xW _ _ _ _ 52 _ [] (mem t15 Gb) _ _
    refine xi_aload 0 dX11_takes_52 rfl ?_
    refine xi_aload_n 2 dX11_takes_54 rfl ?_
    refine yi_getR (f := 8) dX11_takes_55 sh_0 rfl ok_8 (by decide) w_250 rfl ?_
    obtain ⟨v17, t18, k19, hq⟩ := bnd_some hq
    refine xi_callV (as := [.ref 141]) (rest := []) dX11_takes_58 (KX5_placesUnlike G Gb (el 10 a) 141 _ _ _ k19) mkX5_placesUnlike w_464 w_465 w_895 (mem_get (netAt_0 g8)) rfl rfl rfl rfl (Nat.le_of_ble_eq_true rfl) (Nat.le_of_ble_eq_true rfl) (Nat.le_of_ble_eq_true rfl) (Nat.le_of_ble_eq_true rfl) (Nat.le_of_ble_eq_true rfl) ?_
    intro v M2 hz
    obtain ⟨rfl, rfl⟩ := hz
    show xW _ _ _ _ 61 _ [.int v17] (mem t18 Gb) _ _
    have r20 := some_pair hq
    obtain ⟨rfl, rfl⟩ := r20
    exact xi_iret dX11_takes_61 rfl rfl (Nat.le_of_ble_eq_true rfl) (Nat.le_of_ble_eq_true rfl) ⟨rfl, rfl⟩
noncomputable def SX11_tellCuts_2 (x1 : Nat) (c : Int32) (σ : St) : Option (((Int32) ⊕ (Unit)) × St) :=
  (rdb σ x1 (0) (fun v1 => (if v1 ≤ c then (some (Sum.inr (), σ)) else (bnd (if c ≤ (1 : Int32) then (some ((), σ)) else (bnd (FX1_put_3 (32 : Int32) σ) (fun v15 t16 => (some ((), t16))))) (fun v5 t6 => (bnd (FX6_atPlace x1 (0 : Int32) c t6) (fun v9 t10 => (bnd (FX1_putNumber_3 v9 t10) (fun v12 t13 => (some (Sum.inl (c + 1), t13)))))))))))
set_option maxHeartbeats 4000000 in
set_option maxRecDepth 100000 in
theorem SX11_tellCuts_2_w (G : xG) (Gb : xMem) (x1 : Nat) (g1x : netAt x1 = true) (r0 : Unit) (t0 : St) :
    ∀ (k : Nat) (c : Int32) (σ : St) (r : Unit) (σ' : St), itr (SX11_tellCuts_2 x1) k c σ = some (r, σ') → (xW G mX11_tellCuts (xrm 4 0 0) (xQ G (PV r0 t0 Gb) 0 0) 43 [] [] (mem σ' Gb) 0 0) → xW G mX11_tellCuts (xrm 4 0 0) (xQ G (PV r0 t0 Gb) 0 0) 2 [(0, .ref 0), (1, .ref x1), (2, .int c)] [] (mem σ Gb) 0 0 := by
  intro k
  induction k with
  | zero =>
    intro c σ r σ' h
    exact absurd h (itr_zero _ _ _ _)
  | succ k ih =>
    intro c σ r σ' h HE
    obtain ⟨x, s1, hs, h⟩ := itr_succ h
    unfold SX11_tellCuts_2 at hs
    refine xi_iload_n 2 dX11_tellCuts_2 rfl ?_
    refine xi_aload_n 1 dX11_tellCuts_3 rfl ?_
    obtain ⟨v1, h2, hs⟩ := rdb_some hs
    refine yi_getV (f := 0) dX11_tellCuts_4 (netAt_0 g1x) rfl ok_5 (by decide) w_66 rfl h2 ?_
    refine xi_icmp_ge (tgt := 43) dX11_tellCuts_7 (by decide) (fun c3 => ?_) (fun c3 => ?_)
    · replace hs := ite_p c3 hs
      refine xi_sub (lv' := []) [] rfl ?_
      obtain ⟨rfl, rfl⟩ := some_pair hs
      obtain ⟨rfl, rfl⟩ := some_pair h
      exact HE
    · replace hs := ite_n c3 hs
      refine xi_iload_n 2 dX11_tellCuts_10 rfl ?_
      refine xi_iconst (v := 1) dX11_tellCuts_11 (by decide) ?_
      obtain ⟨v5, t6, m7, hs⟩ := bnd_some hs
      have key8 : xW G mX11_tellCuts (xrm 4 0 0) (xQ G (PV r0 t0 Gb) 0 0) 24 [(0, .ref 0), (1, .ref x1), (2, .int c)] [] (mem t6 Gb) 0 0 := by
        refine xi_aload_n 0 dX11_tellCuts_24 rfl ?_
        refine yi_getR (f := 1) dX11_tellCuts_25 sh_0 rfl ok_8 (by decide) w_243 rfl ?_
        refine xi_aload_n 1 dX11_tellCuts_28 rfl ?_
        refine xi_iconst (v := 0) dX11_tellCuts_29 (by decide) ?_
        refine xi_iload_n 2 dX11_tellCuts_30 rfl ?_
        obtain ⟨v9, t10, k11, hs⟩ := bnd_some hs
        refine xi_callS (as := [.ref x1, .int 0, .int c]) (rest := [.ref 3]) dX11_tellCuts_31 (KX6_atPlace G Gb x1 (0 : Int32) c _ _ _ k11) mkX6_atPlace w_626 w_625 rfl rfl (Nat.le_of_ble_eq_true rfl) (Nat.le_of_ble_eq_true rfl) (Nat.le_of_ble_eq_true rfl) (Nat.le_of_ble_eq_true rfl) (Nat.le_of_ble_eq_true rfl) ?_
        intro v M2 hz
        obtain ⟨rfl, rfl⟩ := hz
        show xW _ _ _ _ 34 _ [.int v9, .ref 3] (mem t10 Gb) _ _
        obtain ⟨v12, t13, k14, hs⟩ := bnd_some hs
        refine xi_callV (as := [.int v9]) (rest := []) dX11_tellCuts_34 (KX1_putNumber_3 G Gb v9 _ _ _ k14) mkX1_putNumber w_980 w_981 w_979 (mem_get sh_3) rfl rfl rfl rfl (Nat.le_of_ble_eq_true rfl) (Nat.le_of_ble_eq_true rfl) (Nat.le_of_ble_eq_true rfl) (Nat.le_of_ble_eq_true rfl) (Nat.le_of_ble_eq_true rfl) ?_
        intro v M2 hz
        obtain ⟨rfl, rfl⟩ := hz
        show xW _ _ _ _ 37 _ [] (mem t13 Gb) _ _
        refine xi_iinc (v := (c + 1)) (lv' := [(2, .int (c + 1)), (0, .ref 0), (1, .ref x1)]) 2 dX11_tellCuts_37 rfl rfl (by decide) rfl ?_
        refine xi_goto (tgt := 2) dX11_tellCuts_40 (by decide) ?_
        refine xi_sub (lv' := [(0, .ref 0), (1, .ref x1), (2, .int (c + 1))]) [1, 2, 0] rfl ?_
        obtain ⟨rfl, rfl⟩ := some_pair hs
        exact ih (c + 1) t13 _ _ h HE
      refine xi_icmp_le (tgt := 24) dX11_tellCuts_12 (by decide) (fun c4 => ?_) (fun c4 => ?_)
      · replace m7 := ite_p c4 m7
        obtain ⟨rfl, rfl⟩ := some_pair m7
        exact key8
      · replace m7 := ite_n c4 m7
        refine xi_aload_n 0 dX11_tellCuts_15 rfl ?_
        refine yi_getR (f := 1) dX11_tellCuts_16 sh_0 rfl ok_8 (by decide) w_243 rfl ?_
        refine xi_bipush (v := 32) dX11_tellCuts_19 (by decide) ?_
        obtain ⟨v15, t16, k17, m7⟩ := bnd_some m7
        refine xi_callV (as := [.int 32]) (rest := []) dX11_tellCuts_21 (KX1_put_3 G Gb (32 : Int32) _ _ _ k17) mkX1_put w_286 w_287 w_983 (mem_get sh_3) rfl rfl rfl rfl (Nat.le_of_ble_eq_true rfl) (Nat.le_of_ble_eq_true rfl) (Nat.le_of_ble_eq_true rfl) (Nat.le_of_ble_eq_true rfl) (Nat.le_of_ble_eq_true rfl) ?_
        intro v M2 hz
        obtain ⟨rfl, rfl⟩ := hz
        show xW _ _ _ _ 24 _ [] (mem t16 Gb) _ _
        obtain ⟨rfl, rfl⟩ := some_pair m7
        exact key8
noncomputable def FX11_tellCuts (x : Nat) (σ : St) : Option ((Unit) × St) :=
  (chk (netAt x) (bnd (wh (SX11_tellCuts_2 x) (1 : Int32) σ) (fun e18 t19 => (some ((), t19)))))
set_option maxHeartbeats 4000000 in
set_option maxRecDepth 100000 in
theorem KX11_tellCuts (G : xG) (Gb : xMem) (x : Nat) (σ : St) (r0 : Unit) (t0 : St) (hq : FX11_tellCuts x σ = some (r0, t0)) : xC G mX11_tellCuts 4 0 0 [.ref 0, .ref x] (mem σ Gb) (PV r0 t0 Gb) := by
  unfold FX11_tellCuts at hq
  refine xC.of (by decide) (Nat.le_of_ble_eq_true rfl) ?_
  show xW _ _ _ _ 0 [(0, .ref 0), (1, .ref x)] [] _ 0 0
  obtain ⟨g_x, hq⟩ := chk_some hq
  refine xi_iconst (v := 1) dX11_tellCuts_0 (by decide) ?_
  refine xi_istore_n (lv' := [(2, .int 1), (0, .ref 0), (1, .ref x)]) dX11_tellCuts_1 (by decide) rfl ?_
  refine xi_sub (lv' := [(0, .ref 0), (1, .ref x), (2, .int 1)]) [1, 2, 0] rfl ?_
  obtain ⟨e18, t19, k20, hq⟩ := bnd_some hq
  obtain ⟨n21, k20⟩ := wh_itr k20
  refine SX11_tellCuts_2_w G Gb x g_x r0 t0 n21 (1 : Int32) σ _ _ k20 ?_
  show xW G mX11_tellCuts (xrm 4 0 0) (xQ G (PV r0 t0 Gb) 0 0) 43 [] [] (mem t19 Gb) 0 0
  have r22 := some_pair hq
  obtain ⟨rfl, rfl⟩ := r22
  exact xi_vret dX11_tellCuts_43 rfl (Nat.le_of_ble_eq_true rfl) (Nat.le_of_ble_eq_true rfl) ⟨rfl, rfl⟩
noncomputable def FX11_tellLine (a : Int32) (b : Int32) (c : Int32) (σ : St) : Option ((Unit) × St) :=
  (bnd (FX1_putNumber_3 a σ) (fun v1 t2 => (bnd (FX1_put_3 (45 : Int32) t2) (fun v4 t5 => (bnd (FX1_putNumber_3 b t5) (fun v7 t8 => (if c = (1 : Int32) then (some ((), t8)) else (bnd (FX1_put_3 (61 : Int32) t8) (fun v12 t13 => (bnd (FX1_putNumber_3 c t13) (fun v15 t16 => (some ((), t16)))))))))))))
set_option maxHeartbeats 4000000 in
set_option maxRecDepth 100000 in
theorem KX11_tellLine (G : xG) (Gb : xMem) (a : Int32) (b : Int32) (c : Int32) (σ : St) (r0 : Unit) (t0 : St) (hq : FX11_tellLine a b c σ = some (r0, t0)) : xC G mX11_tellLine 3 0 0 [.ref 0, .int a, .int b, .int c] (mem σ Gb) (PV r0 t0 Gb) := by
  unfold FX11_tellLine at hq
  refine xC.of (by decide) (Nat.le_of_ble_eq_true rfl) ?_
  show xW _ _ _ _ 0 [(0, .ref 0), (1, .int a), (2, .int b), (3, .int c)] [] _ 0 0
  refine xi_aload_n 0 dX11_tellLine_0 rfl ?_
  refine yi_getR (f := 1) dX11_tellLine_1 sh_0 rfl ok_8 (by decide) w_243 rfl ?_
  refine xi_iload_n 1 dX11_tellLine_4 rfl ?_
  obtain ⟨v1, t2, k3, hq⟩ := bnd_some hq
  refine xi_callV (as := [.int a]) (rest := []) dX11_tellLine_5 (KX1_putNumber_3 G Gb a _ _ _ k3) mkX1_putNumber w_980 w_981 w_979 (mem_get sh_3) rfl rfl rfl rfl (Nat.le_of_ble_eq_true rfl) (Nat.le_of_ble_eq_true rfl) (Nat.le_of_ble_eq_true rfl) (Nat.le_of_ble_eq_true rfl) (Nat.le_of_ble_eq_true rfl) ?_
  intro v M2 hz
  obtain ⟨rfl, rfl⟩ := hz
  show xW _ _ _ _ 8 _ [] (mem t2 Gb) _ _
  refine xi_aload_n 0 dX11_tellLine_8 rfl ?_
  refine yi_getR (f := 1) dX11_tellLine_9 sh_0 rfl ok_8 (by decide) w_243 rfl ?_
  refine xi_bipush (v := 45) dX11_tellLine_12 (by decide) ?_
  obtain ⟨v4, t5, k6, hq⟩ := bnd_some hq
  refine xi_callV (as := [.int 45]) (rest := []) dX11_tellLine_14 (KX1_put_3 G Gb (45 : Int32) _ _ _ k6) mkX1_put w_286 w_287 w_983 (mem_get sh_3) rfl rfl rfl rfl (Nat.le_of_ble_eq_true rfl) (Nat.le_of_ble_eq_true rfl) (Nat.le_of_ble_eq_true rfl) (Nat.le_of_ble_eq_true rfl) (Nat.le_of_ble_eq_true rfl) ?_
  intro v M2 hz
  obtain ⟨rfl, rfl⟩ := hz
  show xW _ _ _ _ 17 _ [] (mem t5 Gb) _ _
  refine xi_aload_n 0 dX11_tellLine_17 rfl ?_
  refine yi_getR (f := 1) dX11_tellLine_18 sh_0 rfl ok_8 (by decide) w_243 rfl ?_
  refine xi_iload_n 2 dX11_tellLine_21 rfl ?_
  obtain ⟨v7, t8, k9, hq⟩ := bnd_some hq
  refine xi_callV (as := [.int b]) (rest := []) dX11_tellLine_22 (KX1_putNumber_3 G Gb b _ _ _ k9) mkX1_putNumber w_980 w_981 w_979 (mem_get sh_3) rfl rfl rfl rfl (Nat.le_of_ble_eq_true rfl) (Nat.le_of_ble_eq_true rfl) (Nat.le_of_ble_eq_true rfl) (Nat.le_of_ble_eq_true rfl) (Nat.le_of_ble_eq_true rfl) ?_
  intro v M2 hz
  obtain ⟨rfl, rfl⟩ := hz
  show xW _ _ _ _ 25 _ [] (mem t8 Gb) _ _
  refine xi_iload_n 3 dX11_tellLine_25 rfl ?_
  refine xi_iconst (v := 1) dX11_tellLine_26 (by decide) ?_
  refine xi_icmp_eq (tgt := 47) dX11_tellLine_27 (by decide) (fun c10 => ?_) (fun c10 => ?_)
  · replace hq := ite_p c10 hq
    have r11 := some_pair hq
    obtain ⟨rfl, rfl⟩ := r11
    exact xi_vret dX11_tellLine_47 rfl (Nat.le_of_ble_eq_true rfl) (Nat.le_of_ble_eq_true rfl) ⟨rfl, rfl⟩
  · replace hq := ite_n c10 hq
    refine xi_aload_n 0 dX11_tellLine_30 rfl ?_
    refine yi_getR (f := 1) dX11_tellLine_31 sh_0 rfl ok_8 (by decide) w_243 rfl ?_
    refine xi_bipush (v := 61) dX11_tellLine_34 (by decide) ?_
    obtain ⟨v12, t13, k14, hq⟩ := bnd_some hq
    refine xi_callV (as := [.int 61]) (rest := []) dX11_tellLine_36 (KX1_put_3 G Gb (61 : Int32) _ _ _ k14) mkX1_put w_286 w_287 w_983 (mem_get sh_3) rfl rfl rfl rfl (Nat.le_of_ble_eq_true rfl) (Nat.le_of_ble_eq_true rfl) (Nat.le_of_ble_eq_true rfl) (Nat.le_of_ble_eq_true rfl) (Nat.le_of_ble_eq_true rfl) ?_
    intro v M2 hz
    obtain ⟨rfl, rfl⟩ := hz
    show xW _ _ _ _ 39 _ [] (mem t13 Gb) _ _
    refine xi_aload_n 0 dX11_tellLine_39 rfl ?_
    refine yi_getR (f := 1) dX11_tellLine_40 sh_0 rfl ok_8 (by decide) w_243 rfl ?_
    refine xi_iload_n 3 dX11_tellLine_43 rfl ?_
    obtain ⟨v15, t16, k17, hq⟩ := bnd_some hq
    refine xi_callV (as := [.int c]) (rest := []) dX11_tellLine_44 (KX1_putNumber_3 G Gb c _ _ _ k17) mkX1_putNumber w_980 w_981 w_979 (mem_get sh_3) rfl rfl rfl rfl (Nat.le_of_ble_eq_true rfl) (Nat.le_of_ble_eq_true rfl) (Nat.le_of_ble_eq_true rfl) (Nat.le_of_ble_eq_true rfl) (Nat.le_of_ble_eq_true rfl) ?_
    intro v M2 hz
    obtain ⟨rfl, rfl⟩ := hz
    show xW _ _ _ _ 47 _ [] (mem t16 Gb) _ _
    have r18 := some_pair hq
    obtain ⟨rfl, rfl⟩ := r18
    exact xi_vret dX11_tellLine_47 rfl (Nat.le_of_ble_eq_true rfl) (Nat.le_of_ble_eq_true rfl) ⟨rfl, rfl⟩
noncomputable def SX11_tellNet_39 (x1 : Nat) (w3 : Int32) (c : Int32 × Int32) (σ : St) : Option (((Int32 × Int32) ⊕ (Int32)) × St) :=
  (rdb σ x1 (0) (fun v12 => (if v12 ≤ c.2 then (some (Sum.inr c.1, σ)) else (bnd (FX5_weightOf x1 w3 c.2 σ) (fun v15 t16 => (bnd (if v15 ≤ (0 : Int32) then (some (c.1, t16)) else (bnd (FX1_put_3 c.1 t16) (fun v23 t24 => (bnd (FX11_tellLine w3 c.2 v15 t24) (fun v26 t27 => (some ((44 : Int32), t27))))))) (fun v19 t20 => (some (Sum.inl (v19, (c.2 + 1)), t20)))))))))
noncomputable def SX11_tellNet_26 (x1 : Nat) (c : Int32 × Int32) (σ : St) : Option (((Int32 × Int32) ⊕ (Unit)) × St) :=
  (rdb σ x1 (0) (fun v9 => (if v9 ≤ c.2 then (some (Sum.inr (), σ)) else (bnd (wh (SX11_tellNet_39 x1 c.2) (c.1, (c.2 + (1 : Int32))) σ) (fun e29 t30 => (some (Sum.inl (e29, (c.2 + 1)), t30)))))))
set_option maxHeartbeats 4000000 in
set_option maxRecDepth 100000 in
theorem SX11_tellNet_39_w (G : xG) (Gb : xMem) (x1 : Nat) (w3 : Int32) (g1x : netAt x1 = true) (r0 : Unit) (t0 : St) :
    ∀ (k : Nat) (c : Int32 × Int32) (σ : St) (r : Int32) (σ' : St), itr (SX11_tellNet_39 x1 w3) k c σ = some (r, σ') → (xW G mX11_tellNet (xrm 5 0 0) (xQ G (PV r0 t0 Gb) 0 0) 88 [(0, .ref 0), (1, .ref x1), (2, .int r), (3, .int w3)] [] (mem σ' Gb) 0 0) → xW G mX11_tellNet (xrm 5 0 0) (xQ G (PV r0 t0 Gb) 0 0) 39 [(0, .ref 0), (1, .ref x1), (2, .int c.1), (3, .int w3), (4, .int c.2)] [] (mem σ Gb) 0 0 := by
  intro k
  induction k with
  | zero =>
    intro c σ r σ' h
    exact absurd h (itr_zero _ _ _ _)
  | succ k ih =>
    intro c σ r σ' h HE
    obtain ⟨x, s1, hs, h⟩ := itr_succ h
    unfold SX11_tellNet_39 at hs
    refine xi_iload 4 dX11_tellNet_39 rfl ?_
    refine xi_aload_n 1 dX11_tellNet_41 rfl ?_
    obtain ⟨v12, h13, hs⟩ := rdb_some hs
    refine yi_getV (f := 0) dX11_tellNet_42 (netAt_0 g1x) rfl ok_5 (by decide) w_66 rfl h13 ?_
    refine xi_icmp_ge (tgt := 88) dX11_tellNet_45 (by decide) (fun c14 => ?_) (fun c14 => ?_)
    · replace hs := ite_p c14 hs
      refine xi_sub (lv' := [(0, .ref 0), (1, .ref x1), (2, .int c.1), (3, .int w3)]) [0, 1, 2, 3] rfl ?_
      obtain ⟨rfl, rfl⟩ := some_pair hs
      obtain ⟨rfl, rfl⟩ := some_pair h
      exact HE
    · replace hs := ite_n c14 hs
      refine xi_aload_n 1 dX11_tellNet_48 rfl ?_
      refine xi_iload_n 3 dX11_tellNet_49 rfl ?_
      refine xi_iload 4 dX11_tellNet_50 rfl ?_
      obtain ⟨v15, t16, k17, hs⟩ := bnd_some hs
      refine xi_callV (as := [.int w3, .int c.2]) (rest := []) dX11_tellNet_52 (KX5_weightOf G Gb x1 w3 c.2 _ _ _ k17) mkX5_weightOf w_415 w_416 w_546 (mem_get (netAt_0 g1x)) rfl rfl rfl rfl (Nat.le_of_ble_eq_true rfl) (Nat.le_of_ble_eq_true rfl) (Nat.le_of_ble_eq_true rfl) (Nat.le_of_ble_eq_true rfl) (Nat.le_of_ble_eq_true rfl) ?_
      intro v M2 hz
      obtain ⟨rfl, rfl⟩ := hz
      show xW _ _ _ _ 55 _ [.int v15] (mem t16 Gb) _ _
      refine xi_istore (lv' := [(5, .int v15), (0, .ref 0), (1, .ref x1), (2, .int c.1), (3, .int w3), (4, .int c.2)]) dX11_tellNet_55 (by decide) rfl ?_
      refine xi_iload 0 dX11_tellNet_57 rfl ?_
      obtain ⟨v19, t20, m21, hs⟩ := bnd_some hs
      have key22 : xW G mX11_tellNet (xrm 5 0 0) (xQ G (PV r0 t0 Gb) 0 0) 82 [(0, .ref 0), (1, .ref x1), (2, .int v19), (3, .int w3), (4, .int c.2)] [] (mem t20 Gb) 0 0 := by
        refine xi_iinc (v := (c.2 + 1)) (lv' := [(4, .int (c.2 + 1)), (0, .ref 0), (1, .ref x1), (2, .int v19), (3, .int w3)]) 4 dX11_tellNet_82 rfl rfl (by decide) rfl ?_
        refine xi_goto (tgt := 39) dX11_tellNet_85 (by decide) ?_
        refine xi_sub (lv' := [(0, .ref 0), (1, .ref x1), (2, .int v19), (3, .int w3), (4, .int (c.2 + 1))]) [1, 2, 3, 4, 0] rfl ?_
        obtain ⟨rfl, rfl⟩ := some_pair hs
        exact ih (v19, (c.2 + 1)) t20 _ _ h HE
      refine xi_if_le (tgt := 82) dX11_tellNet_59 (by decide) (fun c18 => ?_) (fun c18 => ?_)
      · replace m21 := ite_p c18 m21
        obtain ⟨rfl, rfl⟩ := some_pair m21
        refine xi_sub (lv' := [(0, .ref 0), (1, .ref x1), (2, .int c.1), (3, .int w3), (4, .int c.2)]) [1, 2, 3, 4, 5] rfl ?_
        exact key22
      · replace m21 := ite_n c18 m21
        refine xi_aload_n 1 dX11_tellNet_62 rfl ?_
        refine yi_getR (f := 1) dX11_tellNet_63 sh_0 rfl ok_8 (by decide) w_243 rfl ?_
        refine xi_iload_n 3 dX11_tellNet_66 rfl ?_
        obtain ⟨v23, t24, k25, m21⟩ := bnd_some m21
        refine xi_callV (as := [.int c.1]) (rest := []) dX11_tellNet_67 (KX1_put_3 G Gb c.1 _ _ _ k25) mkX1_put w_286 w_287 w_983 (mem_get sh_3) rfl rfl rfl rfl (Nat.le_of_ble_eq_true rfl) (Nat.le_of_ble_eq_true rfl) (Nat.le_of_ble_eq_true rfl) (Nat.le_of_ble_eq_true rfl) (Nat.le_of_ble_eq_true rfl) ?_
        intro v M2 hz
        obtain ⟨rfl, rfl⟩ := hz
        show xW _ _ _ _ 70 _ [] (mem t24 Gb) _ _
        refine xi_aload_n 1 dX11_tellNet_70 rfl ?_
        refine xi_iload_n 4 dX11_tellNet_71 rfl ?_
        refine xi_iload 5 dX11_tellNet_72 rfl ?_
        refine xi_iload 0 dX11_tellNet_74 rfl ?_
        obtain ⟨v26, t27, k28, m21⟩ := bnd_some m21
        refine xi_callV (as := [.int w3, .int c.2, .int v15]) (rest := []) dX11_tellNet_76 (KX11_tellLine G Gb w3 c.2 v15 _ _ _ k28) mkX11_tellLine w_986 ws_32 w_984 (mem_get sh_0) rfl rfl rfl rfl (Nat.le_of_ble_eq_true rfl) (Nat.le_of_ble_eq_true rfl) (Nat.le_of_ble_eq_true rfl) (Nat.le_of_ble_eq_true rfl) (Nat.le_of_ble_eq_true rfl) ?_
        intro v M2 hz
        obtain ⟨rfl, rfl⟩ := hz
        show xW _ _ _ _ 79 _ [] (mem t27 Gb) _ _
        refine xi_bipush (v := 44) dX11_tellNet_79 (by decide) ?_
        refine xi_istore_n (lv' := [(2, .int 44), (5, .int v15), (0, .ref 0), (1, .ref x1), (3, .int w3), (4, .int c.2)]) dX11_tellNet_81 (by decide) rfl ?_
        obtain ⟨rfl, rfl⟩ := some_pair m21
        refine xi_sub (lv' := [(0, .ref 0), (1, .ref x1), (2, .int 44), (3, .int w3), (4, .int c.2)]) [2, 3, 0, 4, 5] rfl ?_
        exact key22
set_option maxHeartbeats 4000000 in
set_option maxRecDepth 100000 in
theorem SX11_tellNet_26_w (G : xG) (Gb : xMem) (x1 : Nat) (g1x : netAt x1 = true) (r0 : Unit) (t0 : St) :
    ∀ (k : Nat) (c : Int32 × Int32) (σ : St) (r : Unit) (σ' : St), itr (SX11_tellNet_26 x1) k c σ = some (r, σ') → (xW G mX11_tellNet (xrm 5 0 0) (xQ G (PV r0 t0 Gb) 0 0) 94 [(0, .ref 0)] [] (mem σ' Gb) 0 0) → xW G mX11_tellNet (xrm 5 0 0) (xQ G (PV r0 t0 Gb) 0 0) 26 [(0, .ref 0), (1, .ref x1), (2, .int c.1), (3, .int c.2)] [] (mem σ Gb) 0 0 := by
  intro k
  induction k with
  | zero =>
    intro c σ r σ' h
    exact absurd h (itr_zero _ _ _ _)
  | succ k ih =>
    intro c σ r σ' h HE
    obtain ⟨x, s1, hs, h⟩ := itr_succ h
    unfold SX11_tellNet_26 at hs
    refine xi_iload_n 3 dX11_tellNet_26 rfl ?_
    refine xi_aload_n 1 dX11_tellNet_27 rfl ?_
    obtain ⟨v9, h10, hs⟩ := rdb_some hs
    refine yi_getV (f := 0) dX11_tellNet_28 (netAt_0 g1x) rfl ok_5 (by decide) w_66 rfl h10 ?_
    refine xi_icmp_ge (tgt := 94) dX11_tellNet_31 (by decide) (fun c11 => ?_) (fun c11 => ?_)
    · replace hs := ite_p c11 hs
      refine xi_sub (lv' := [(0, .ref 0)]) [0] rfl ?_
      obtain ⟨rfl, rfl⟩ := some_pair hs
      obtain ⟨rfl, rfl⟩ := some_pair h
      exact HE
    · replace hs := ite_n c11 hs
      refine xi_iload_n 3 dX11_tellNet_34 rfl ?_
      refine xi_iconst (v := 1) dX11_tellNet_35 (by decide) ?_
      refine xi_iadd (v := c.2 + (1 : Int32)) dX11_tellNet_36 rfl ?_
      refine xi_istore (lv' := [(4, .int (c.2 + (1 : Int32))), (0, .ref 0), (1, .ref x1), (2, .int c.1), (3, .int c.2)]) dX11_tellNet_37 (by decide) rfl ?_
      refine xi_sub (lv' := [(0, .ref 0), (1, .ref x1), (2, .int c.1), (3, .int c.2), (4, .int (c.2 + (1 : Int32)))]) [1, 2, 3, 4, 0] rfl ?_
      obtain ⟨e29, t30, k31, hs⟩ := bnd_some hs
      obtain ⟨n32, k31⟩ := wh_itr k31
      refine SX11_tellNet_39_w G Gb x1 c.2 g1x r0 t0 n32 (c.1, (c.2 + (1 : Int32))) σ _ _ k31 ?_
      show xW G mX11_tellNet (xrm 5 0 0) (xQ G (PV r0 t0 Gb) 0 0) 88 [(0, .ref 0), (1, .ref x1), (2, .int e29), (3, .int c.2)] [] (mem t30 Gb) 0 0
      refine xi_iinc (v := (c.2 + 1)) (lv' := [(3, .int (c.2 + 1)), (0, .ref 0), (1, .ref x1), (2, .int e29)]) 3 dX11_tellNet_88 rfl rfl (by decide) rfl ?_
      refine xi_goto (tgt := 26) dX11_tellNet_91 (by decide) ?_
      refine xi_sub (lv' := [(0, .ref 0), (1, .ref x1), (2, .int e29), (3, .int (c.2 + 1))]) [1, 2, 3, 0] rfl ?_
      obtain ⟨rfl, rfl⟩ := some_pair hs
      exact ih (e29, (c.2 + 1)) t30 _ _ h HE
noncomputable def FX11_tellNet (x : Nat) (σ : St) : Option ((Unit) × St) :=
  (chk (netAt x) (bnd (FX1_putText_3_s2  σ) (fun v1 t2 => (rdb t2 x (0) (fun v4 => (bnd (FX1_putNumber_3 v4 t2) (fun v6 t7 => (bnd (wh (SX11_tellNet_26 x) ((58 : Int32), (0 : Int32)) t7) (fun e33 t34 => (bnd (FX1_put_3 (59 : Int32) t34) (fun v37 t38 => (some ((), t38)))))))))))))
set_option maxHeartbeats 4000000 in
set_option maxRecDepth 100000 in
theorem KX11_tellNet (G : xG) (Gb : xMem) (x : Nat) (σ : St) (r0 : Unit) (t0 : St) (hq : FX11_tellNet x σ = some (r0, t0)) : xC G mX11_tellNet 5 0 0 [.ref 0, .ref x] (mem σ Gb) (PV r0 t0 Gb) := by
  unfold FX11_tellNet at hq
  refine xC.of (by decide) (Nat.le_of_ble_eq_true rfl) ?_
  show xW _ _ _ _ 0 [(0, .ref 0), (1, .ref x)] [] _ 0 0
  obtain ⟨g_x, hq⟩ := chk_some hq
  refine xi_aload_n 0 dX11_tellNet_0 rfl ?_
  refine yi_getR (f := 1) dX11_tellNet_1 sh_0 rfl ok_8 (by decide) w_243 rfl ?_
  refine xi_ldcwS (w := 2) dX11_tellNet_4 st_2 rfl ?_
  obtain ⟨v1, t2, k3, hq⟩ := bnd_some hq
  refine xi_callV (as := [.float 2]) (rest := []) dX11_tellNet_7 (KX1_putText_3_s2 G Gb  _ _ _ k3) mkX1_putText w_974 w_975 w_973 (mem_get sh_3) rfl rfl rfl rfl (Nat.le_of_ble_eq_true rfl) (Nat.le_of_ble_eq_true rfl) (Nat.le_of_ble_eq_true rfl) (Nat.le_of_ble_eq_true rfl) (Nat.le_of_ble_eq_true rfl) ?_
  intro v M2 hz
  obtain ⟨rfl, rfl⟩ := hz
  show xW _ _ _ _ 10 _ [] (mem t2 Gb) _ _
  refine xi_aload_n 0 dX11_tellNet_10 rfl ?_
  refine yi_getR (f := 1) dX11_tellNet_11 sh_0 rfl ok_8 (by decide) w_243 rfl ?_
  refine xi_aload_n 1 dX11_tellNet_14 rfl ?_
  obtain ⟨v4, h5, hq⟩ := rdb_some hq
  refine yi_getV (f := 0) dX11_tellNet_15 (netAt_0 g_x) rfl ok_5 (by decide) w_66 rfl h5 ?_
  obtain ⟨v6, t7, k8, hq⟩ := bnd_some hq
  refine xi_callV (as := [.int v4]) (rest := []) dX11_tellNet_18 (KX1_putNumber_3 G Gb v4 _ _ _ k8) mkX1_putNumber w_980 w_981 w_979 (mem_get sh_3) rfl rfl rfl rfl (Nat.le_of_ble_eq_true rfl) (Nat.le_of_ble_eq_true rfl) (Nat.le_of_ble_eq_true rfl) (Nat.le_of_ble_eq_true rfl) (Nat.le_of_ble_eq_true rfl) ?_
  intro v M2 hz
  obtain ⟨rfl, rfl⟩ := hz
  show xW _ _ _ _ 21 _ [] (mem t7 Gb) _ _
  refine xi_bipush (v := 58) dX11_tellNet_21 (by decide) ?_
  refine xi_istore_n (lv' := [(2, .int 58), (0, .ref 0), (1, .ref x)]) dX11_tellNet_23 (by decide) rfl ?_
  refine xi_iconst (v := 0) dX11_tellNet_24 (by decide) ?_
  refine xi_istore_n (lv' := [(3, .int 0), (2, .int 58), (0, .ref 0), (1, .ref x)]) dX11_tellNet_25 (by decide) rfl ?_
  refine xi_sub (lv' := [(0, .ref 0), (1, .ref x), (2, .int 58), (3, .int 0)]) [2, 3, 1, 0] rfl ?_
  obtain ⟨e33, t34, k35, hq⟩ := bnd_some hq
  obtain ⟨n36, k35⟩ := wh_itr k35
  refine SX11_tellNet_26_w G Gb x g_x r0 t0 n36 ((58 : Int32), (0 : Int32)) t7 _ _ k35 ?_
  show xW G mX11_tellNet (xrm 5 0 0) (xQ G (PV r0 t0 Gb) 0 0) 94 [(0, .ref 0)] [] (mem t34 Gb) 0 0
  refine xi_aload_n 0 dX11_tellNet_94 rfl ?_
  refine yi_getR (f := 1) dX11_tellNet_95 sh_0 rfl ok_8 (by decide) w_243 rfl ?_
  refine xi_bipush (v := 59) dX11_tellNet_98 (by decide) ?_
  obtain ⟨v37, t38, k39, hq⟩ := bnd_some hq
  refine xi_callV (as := [.int 59]) (rest := []) dX11_tellNet_100 (KX1_put_3 G Gb (59 : Int32) _ _ _ k39) mkX1_put w_286 w_287 w_983 (mem_get sh_3) rfl rfl rfl rfl (Nat.le_of_ble_eq_true rfl) (Nat.le_of_ble_eq_true rfl) (Nat.le_of_ble_eq_true rfl) (Nat.le_of_ble_eq_true rfl) (Nat.le_of_ble_eq_true rfl) ?_
  intro v M2 hz
  obtain ⟨rfl, rfl⟩ := hz
  show xW _ _ _ _ 103 _ [] (mem t38 Gb) _ _
  have r40 := some_pair hq
  obtain ⟨rfl, rfl⟩ := r40
  exact xi_vret dX11_tellNet_103 rfl (Nat.le_of_ble_eq_true rfl) (Nat.le_of_ble_eq_true rfl) ⟨rfl, rfl⟩
noncomputable def SX11_tellRow_12 (x1 : Nat) (c : Int32) (σ : St) : Option (((Int32) ⊕ (Unit)) × St) :=
  (rdb σ x1 (0) (fun v4 => (if v4 ≤ c then (some (Sum.inr (), σ)) else (chk (inb c 9) (rdb σ (x1 + 2) (c.toNatClampNeg) (fun v8 => (bnd (FX1_putNumber_3 v8 σ) (fun v10 t11 => (some (Sum.inl (c + 1), t11))))))))))
set_option maxHeartbeats 4000000 in
set_option maxRecDepth 100000 in
theorem SX11_tellRow_12_w (G : xG) (Gb : xMem) (x1 : Nat) (g1x : netAt x1 = true) (r0 : Unit) (t0 : St) :
    ∀ (k : Nat) (c : Int32) (σ : St) (r : Unit) (σ' : St), itr (SX11_tellRow_12 x1) k c σ = some (r, σ') → (xW G mX11_tellRow (xrm 5 0 0) (xQ G (PV r0 t0 Gb) 0 0) 39 [(0, .ref 0)] [] (mem σ' Gb) 0 0) → xW G mX11_tellRow (xrm 5 0 0) (xQ G (PV r0 t0 Gb) 0 0) 12 [(0, .ref 0), (1, .ref x1), (2, .int c)] [] (mem σ Gb) 0 0 := by
  intro k
  induction k with
  | zero =>
    intro c σ r σ' h
    exact absurd h (itr_zero _ _ _ _)
  | succ k ih =>
    intro c σ r σ' h HE
    obtain ⟨x, s1, hs, h⟩ := itr_succ h
    unfold SX11_tellRow_12 at hs
    refine xi_iload_n 2 dX11_tellRow_12 rfl ?_
    refine xi_aload_n 1 dX11_tellRow_13 rfl ?_
    obtain ⟨v4, h5, hs⟩ := rdb_some hs
    refine yi_getV (f := 0) dX11_tellRow_14 (netAt_0 g1x) rfl ok_5 (by decide) w_66 rfl h5 ?_
    refine xi_icmp_ge (tgt := 39) dX11_tellRow_17 (by decide) (fun c6 => ?_) (fun c6 => ?_)
    · replace hs := ite_p c6 hs
      refine xi_sub (lv' := [(0, .ref 0)]) [0] rfl ?_
      obtain ⟨rfl, rfl⟩ := some_pair hs
      obtain ⟨rfl, rfl⟩ := some_pair h
      exact HE
    · replace hs := ite_n c6 hs
      refine xi_aload_n 0 dX11_tellRow_20 rfl ?_
      refine yi_getR (f := 1) dX11_tellRow_21 sh_0 rfl ok_8 (by decide) w_243 rfl ?_
      refine xi_aload_n 1 dX11_tellRow_24 rfl ?_
      refine yi_getR (f := 3) dX11_tellRow_25 (netAt_0 g1x) rfl ok_5 (by decide) w_82 rfl ?_
      refine xi_iload_n 2 dX11_tellRow_28 rfl ?_
      obtain ⟨g7, hs⟩ := chk_some hs
      obtain ⟨v8, h9, hs⟩ := rdb_some hs
      refine yi_ialoadV dX11_tellRow_29 (netAt_2 g1x) g7 h9 ?_
      obtain ⟨v10, t11, k12, hs⟩ := bnd_some hs
      refine xi_callV (as := [.int v8]) (rest := []) dX11_tellRow_30 (KX1_putNumber_3 G Gb v8 _ _ _ k12) mkX1_putNumber w_980 w_981 w_979 (mem_get sh_3) rfl rfl rfl rfl (Nat.le_of_ble_eq_true rfl) (Nat.le_of_ble_eq_true rfl) (Nat.le_of_ble_eq_true rfl) (Nat.le_of_ble_eq_true rfl) (Nat.le_of_ble_eq_true rfl) ?_
      intro v M2 hz
      obtain ⟨rfl, rfl⟩ := hz
      show xW _ _ _ _ 33 _ [] (mem t11 Gb) _ _
      refine xi_iinc (v := (c + 1)) (lv' := [(2, .int (c + 1)), (0, .ref 0), (1, .ref x1)]) 2 dX11_tellRow_33 rfl rfl (by decide) rfl ?_
      refine xi_goto (tgt := 12) dX11_tellRow_36 (by decide) ?_
      refine xi_sub (lv' := [(0, .ref 0), (1, .ref x1), (2, .int (c + 1))]) [1, 2, 0] rfl ?_
      obtain ⟨rfl, rfl⟩ := some_pair hs
      exact ih (c + 1) t11 _ _ h HE
noncomputable def FX11_tellRow (x : Nat) (σ : St) : Option ((Unit) × St) :=
  (chk (netAt x) (bnd (FX1_putText_3_s3  σ) (fun v1 t2 => (bnd (wh (SX11_tellRow_12 x) (0 : Int32) t2) (fun e13 t14 => (bnd (FX1_put_3 (59 : Int32) t14) (fun v17 t18 => (some ((), t18)))))))))
set_option maxHeartbeats 4000000 in
set_option maxRecDepth 100000 in
theorem KX11_tellRow (G : xG) (Gb : xMem) (x : Nat) (σ : St) (r0 : Unit) (t0 : St) (hq : FX11_tellRow x σ = some (r0, t0)) : xC G mX11_tellRow 5 0 0 [.ref 0, .ref x] (mem σ Gb) (PV r0 t0 Gb) := by
  unfold FX11_tellRow at hq
  refine xC.of (by decide) (Nat.le_of_ble_eq_true rfl) ?_
  show xW _ _ _ _ 0 [(0, .ref 0), (1, .ref x)] [] _ 0 0
  obtain ⟨g_x, hq⟩ := chk_some hq
  refine xi_aload_n 0 dX11_tellRow_0 rfl ?_
  refine yi_getR (f := 1) dX11_tellRow_1 sh_0 rfl ok_8 (by decide) w_243 rfl ?_
  refine xi_ldcwS (w := 3) dX11_tellRow_4 st_3 rfl ?_
  obtain ⟨v1, t2, k3, hq⟩ := bnd_some hq
  refine xi_callV (as := [.float 3]) (rest := []) dX11_tellRow_7 (KX1_putText_3_s3 G Gb  _ _ _ k3) mkX1_putText w_974 w_975 w_973 (mem_get sh_3) rfl rfl rfl rfl (Nat.le_of_ble_eq_true rfl) (Nat.le_of_ble_eq_true rfl) (Nat.le_of_ble_eq_true rfl) (Nat.le_of_ble_eq_true rfl) (Nat.le_of_ble_eq_true rfl) ?_
  intro v M2 hz
  obtain ⟨rfl, rfl⟩ := hz
  show xW _ _ _ _ 10 _ [] (mem t2 Gb) _ _
  refine xi_iconst (v := 0) dX11_tellRow_10 (by decide) ?_
  refine xi_istore_n (lv' := [(2, .int 0), (0, .ref 0), (1, .ref x)]) dX11_tellRow_11 (by decide) rfl ?_
  refine xi_sub (lv' := [(0, .ref 0), (1, .ref x), (2, .int 0)]) [1, 2, 0] rfl ?_
  obtain ⟨e13, t14, k15, hq⟩ := bnd_some hq
  obtain ⟨n16, k15⟩ := wh_itr k15
  refine SX11_tellRow_12_w G Gb x g_x r0 t0 n16 (0 : Int32) t2 _ _ k15 ?_
  show xW G mX11_tellRow (xrm 5 0 0) (xQ G (PV r0 t0 Gb) 0 0) 39 [(0, .ref 0)] [] (mem t14 Gb) 0 0
  refine xi_aload_n 0 dX11_tellRow_39 rfl ?_
  refine yi_getR (f := 1) dX11_tellRow_40 sh_0 rfl ok_8 (by decide) w_243 rfl ?_
  refine xi_bipush (v := 59) dX11_tellRow_43 (by decide) ?_
  obtain ⟨v17, t18, k19, hq⟩ := bnd_some hq
  refine xi_callV (as := [.int 59]) (rest := []) dX11_tellRow_45 (KX1_put_3 G Gb (59 : Int32) _ _ _ k19) mkX1_put w_286 w_287 w_983 (mem_get sh_3) rfl rfl rfl rfl (Nat.le_of_ble_eq_true rfl) (Nat.le_of_ble_eq_true rfl) (Nat.le_of_ble_eq_true rfl) (Nat.le_of_ble_eq_true rfl) (Nat.le_of_ble_eq_true rfl) ?_
  intro v M2 hz
  obtain ⟨rfl, rfl⟩ := hz
  show xW _ _ _ _ 48 _ [] (mem t18 Gb) _ _
  have r20 := some_pair hq
  obtain ⟨rfl, rfl⟩ := r20
  exact xi_vret dX11_tellRow_48 rfl (Nat.le_of_ble_eq_true rfl) (Nat.le_of_ble_eq_true rfl) ⟨rfl, rfl⟩
noncomputable def FX11_tell (a : Int32) (b : Int32) (σ : St) : Option ((Int32) × St) :=
  (bnd (FX11_netIn a σ) (fun v1 t2 => (Option.elim v1 (some ((-2 : Int32), t2)) (fun x4 => (chk (netAt x4) (if b < (0 : Int32) then (some ((-2 : Int32), t2)) else (if b ≤ (1 : Int32) then (wrb t2 3 (1) (0 : Int32) (fun t10 => (bnd (if b = (0 : Int32) then (bnd (FX11_tellNet x4 t10) (fun v23 t24 => (bnd (FX11_tellRow x4 t24) (fun v26 t27 => (some ((), t27)))))) else (bnd (FX11_tellCuts x4 t10) (fun v20 t21 => (some ((), t21))))) (fun v13 t14 => (rdb t14 3 (1) (fun v17 => (some (v17, t14)))))))) else (some ((-2 : Int32), t2)))))))))
set_option maxHeartbeats 4000000 in
set_option maxRecDepth 100000 in
theorem KX11_tell (G : xG) (Gb : xMem) (a : Int32) (b : Int32) (σ : St) (r0 : Int32) (t0 : St) (hq : FX11_tell a b σ = some (r0, t0)) : xC G mX11_tell 6 0 0 [.ref 0, .int a, .int b] (mem σ Gb) (PQ r0 t0 Gb) := by
  unfold FX11_tell at hq
  refine xC.of (by decide) (Nat.le_of_ble_eq_true rfl) ?_
  show xW _ _ _ _ 0 [(0, .ref 0), (1, .int a), (2, .int b)] [] _ 0 0
  refine xi_aload_n 0 dX11_tell_0 rfl ?_
  refine xi_iload_n 1 dX11_tell_1 rfl ?_
  obtain ⟨v1, t2, k3, hq⟩ := bnd_some hq
  refine xi_callV (as := [.int a]) (rest := []) dX11_tell_2 (KX11_netIn G Gb a _ _ _ k3) mkX11_netIn w_491 ws_15 w_489 (mem_get sh_0) rfl rfl rfl rfl (Nat.le_of_ble_eq_true rfl) (Nat.le_of_ble_eq_true rfl) (Nat.le_of_ble_eq_true rfl) (Nat.le_of_ble_eq_true rfl) (Nat.le_of_ble_eq_true rfl) ?_
  intro v M2 hz
  obtain ⟨rfl, rfl⟩ := hz
  rcases v1 with _ | x4
  · replace hq := oel_n hq
    show xW _ _ _ _ 5 _ [.null] (mem t2 Gb) _ _
    refine xi_astore_nN (lv' := [(3, .null), (0, .ref 0), (1, .int a), (2, .int b)]) dX11_tell_5 (by decide) rfl ?_
    refine xi_aload_nN 0 dX11_tell_6 rfl ?_
    refine xi_ifnullN (tgt := 19) dX11_tell_7 (by decide) ?_
    refine xi_bipush (v := (-2)) dX11_tell_19 (by decide) ?_
    have r6 := some_pair hq
    obtain ⟨rfl, rfl⟩ := r6
    exact xi_iret dX11_tell_21 rfl rfl (Nat.le_of_ble_eq_true rfl) (Nat.le_of_ble_eq_true rfl) ⟨rfl, rfl⟩
  · replace hq := oel_s hq
    obtain ⟨g5, hq⟩ := chk_some hq
    show xW _ _ _ _ 5 _ [.ref x4] (mem t2 Gb) _ _
    refine xi_astore_n (lv' := [(3, .ref x4), (0, .ref 0), (1, .int a), (2, .int b)]) dX11_tell_5 (by decide) rfl ?_
    refine xi_aload_n 0 dX11_tell_6 rfl ?_
    refine xi_ifnull dX11_tell_7 ?_
    refine xi_iload_n 3 dX11_tell_10 rfl ?_
    refine xi_if_lt (tgt := 19) dX11_tell_11 (by decide) (fun c7 => ?_) (fun c7 => ?_)
    · replace hq := ite_p c7 hq
      refine xi_bipush (v := (-2)) dX11_tell_19 (by decide) ?_
      have r8 := some_pair hq
      obtain ⟨rfl, rfl⟩ := r8
      exact xi_iret dX11_tell_21 rfl rfl (Nat.le_of_ble_eq_true rfl) (Nat.le_of_ble_eq_true rfl) ⟨rfl, rfl⟩
    · replace hq := ite_n c7 hq
      refine xi_iload_n 3 dX11_tell_14 rfl ?_
      refine xi_iconst (v := 1) dX11_tell_15 (by decide) ?_
      refine xi_icmp_le (tgt := 22) dX11_tell_16 (by decide) (fun c9 => ?_) (fun c9 => ?_)
      · replace hq := ite_p c9 hq
        refine xi_aload_n 1 dX11_tell_22 rfl ?_
        refine yi_getR (f := 1) dX11_tell_23 sh_0 rfl ok_8 (by decide) w_243 rfl ?_
        refine xi_iconst (v := 0) dX11_tell_26 (by decide) ?_
        obtain ⟨t10, h11, hq⟩ := wrb_some hq
        refine yi_putV (f := 1) (ty := .int) dX11_tell_27 sh_3 rfl ok_1 (by decide) w_41 rfl rfl pf_I rfl rfl h11 ?_
        refine xi_iload_n 3 dX11_tell_30 rfl ?_
        obtain ⟨v13, t14, m15, hq⟩ := bnd_some hq
        have key16 : xW G mX11_tell (xrm 6 0 0) (xQ G (PQ r0 t0 Gb) 0 0) 52 [(0, .ref 0)] [] (mem t14 Gb) 0 0 := by
          refine xi_aload_n 0 dX11_tell_52 rfl ?_
          refine yi_getR (f := 1) dX11_tell_53 sh_0 rfl ok_8 (by decide) w_243 rfl ?_
          obtain ⟨v17, h18, hq⟩ := rdb_some hq
          refine yi_getV (f := 1) dX11_tell_56 sh_3 rfl ok_1 (by decide) w_41 rfl h18 ?_
          have r19 := some_pair hq
          obtain ⟨rfl, rfl⟩ := r19
          exact xi_iret dX11_tell_59 rfl rfl (Nat.le_of_ble_eq_true rfl) (Nat.le_of_ble_eq_true rfl) ⟨rfl, rfl⟩
        refine xi_if_ne (tgt := 47) dX11_tell_31 (by decide) (fun c12 => ?_) (fun c12 => ?_)
        · replace m15 := ite_n c12 m15
          refine xi_aload_n 1 dX11_tell_47 rfl ?_
          refine xi_aload_n 0 dX11_tell_48 rfl ?_
          obtain ⟨v20, t21, k22, m15⟩ := bnd_some m15
          refine xi_callV (as := [.ref x4]) (rest := []) dX11_tell_49 (KX11_tellCuts G Gb x4 _ _ _ k22) mkX11_tellCuts w_995 ws_34 w_993 (mem_get sh_0) rfl rfl rfl rfl (Nat.le_of_ble_eq_true rfl) (Nat.le_of_ble_eq_true rfl) (Nat.le_of_ble_eq_true rfl) (Nat.le_of_ble_eq_true rfl) (Nat.le_of_ble_eq_true rfl) ?_
          intro v M2 hz
          obtain ⟨rfl, rfl⟩ := hz
          show xW _ _ _ _ 52 _ [] (mem t21 Gb) _ _
          obtain ⟨rfl, rfl⟩ := some_pair m15
          refine xi_sub (lv' := [(0, .ref 0)]) [1] rfl ?_
          exact key16
        · replace m15 := ite_p c12 m15
          refine xi_aload_n 1 dX11_tell_34 rfl ?_
          refine xi_aload_n 0 dX11_tell_35 rfl ?_
          obtain ⟨v23, t24, k25, m15⟩ := bnd_some m15
          refine xi_callV (as := [.ref x4]) (rest := []) dX11_tell_36 (KX11_tellNet G Gb x4 _ _ _ k25) mkX11_tellNet w_970 ws_31 w_968 (mem_get sh_0) rfl rfl rfl rfl (Nat.le_of_ble_eq_true rfl) (Nat.le_of_ble_eq_true rfl) (Nat.le_of_ble_eq_true rfl) (Nat.le_of_ble_eq_true rfl) (Nat.le_of_ble_eq_true rfl) ?_
          intro v M2 hz
          obtain ⟨rfl, rfl⟩ := hz
          show xW _ _ _ _ 39 _ [] (mem t24 Gb) _ _
          refine xi_aload_n 1 dX11_tell_39 rfl ?_
          refine xi_aload_n 0 dX11_tell_40 rfl ?_
          obtain ⟨v26, t27, k28, m15⟩ := bnd_some m15
          refine xi_callV (as := [.ref x4]) (rest := []) dX11_tell_41 (KX11_tellRow G Gb x4 _ _ _ k28) mkX11_tellRow w_990 ws_33 w_988 (mem_get sh_0) rfl rfl rfl rfl (Nat.le_of_ble_eq_true rfl) (Nat.le_of_ble_eq_true rfl) (Nat.le_of_ble_eq_true rfl) (Nat.le_of_ble_eq_true rfl) (Nat.le_of_ble_eq_true rfl) ?_
          intro v M2 hz
          obtain ⟨rfl, rfl⟩ := hz
          show xW _ _ _ _ 44 _ [] (mem t27 Gb) _ _
          refine xi_goto (tgt := 52) dX11_tell_44 (by decide) ?_
          obtain ⟨rfl, rfl⟩ := some_pair m15
          refine xi_sub (lv' := [(0, .ref 0)]) [1] rfl ?_
          exact key16
      · replace hq := ite_n c9 hq
        refine xi_bipush (v := (-2)) dX11_tell_19 (by decide) ?_
        have r29 := some_pair hq
        obtain ⟨rfl, rfl⟩ := r29
        exact xi_iret dX11_tell_21 rfl rfl (Nat.le_of_ble_eq_true rfl) (Nat.le_of_ble_eq_true rfl) ⟨rfl, rfl⟩
noncomputable def FX11_told (a : Int32) (σ : St) : Option ((Int32) × St) :=
  (bnd (FX11_isSlot a σ) (fun v1 t2 => (if v1 = (0 : Int32) then (some ((-2 : Int32), t2)) else (bnd (FX7_readAll  t2) (fun v5 t6 => (wrb t6 1 (1) (0 : Int32) (fun t8 => (if v5 = (0 : Int32) then (some ((-4 : Int32), t8)) else (chk (inb a 3) (chk (netAt (el 10 a)) (bnd (FX5_copyFrom 141 (el 10 a) t8) (fun v13 t14 => (bnd (FX5_copyFrom (el 10 a) 6 t14) (fun v16 t17 => (bnd (FX11_noteAct a t17) (fun v19 t20 => (rdb t20 (el 10 a) (1) (fun v22 => (some (v22, t20))))))))))))))))))))
set_option maxHeartbeats 4000000 in
set_option maxRecDepth 100000 in
theorem KX11_told (G : xG) (Gb : xMem) (a : Int32) (σ : St) (r0 : Int32) (t0 : St) (hq : FX11_told a σ = some (r0, t0)) : xC G mX11_told 7 0 0 [.ref 0, .int a] (mem σ Gb) (PQ r0 t0 Gb) := by
  unfold FX11_told at hq
  refine xC.of (by decide) (Nat.le_of_ble_eq_true rfl) ?_
  show xW _ _ _ _ 0 [(0, .ref 0), (1, .int a)] [] _ 0 0
  refine xi_iload_n 1 dX11_told_0 rfl ?_
  obtain ⟨v1, t2, k3, hq⟩ := bnd_some hq
  refine xi_callS (as := [.int a]) (rest := []) dX11_told_1 (KX11_isSlot G Gb a _ _ _ k3) mkX11_isSlot w_299 w_298 rfl rfl (Nat.le_of_ble_eq_true rfl) (Nat.le_of_ble_eq_true rfl) (Nat.le_of_ble_eq_true rfl) (Nat.le_of_ble_eq_true rfl) (Nat.le_of_ble_eq_true rfl) ?_
  intro v M2 hz
  obtain ⟨rfl, rfl⟩ := hz
  show xW _ _ _ _ 4 _ [.int v1] (mem t2 Gb) _ _
  refine xi_if_ne (tgt := 10) dX11_told_4 (by decide) (fun c4 => ?_) (fun c4 => ?_)
  · replace hq := ite_n c4 hq
    refine xi_aload_n 0 dX11_told_10 rfl ?_
    refine yi_getR (f := 2) dX11_told_11 sh_0 rfl ok_8 (by decide) w_244 rfl ?_
    obtain ⟨v5, t6, k7, hq⟩ := bnd_some hq
    refine xi_callV (as := []) (rest := []) dX11_told_14 (KX7_readAll G Gb  _ _ _ k7) mkX7_readAll w_302 w_303 w_301 (mem_get sh_5) rfl rfl rfl rfl (Nat.le_of_ble_eq_true rfl) (Nat.le_of_ble_eq_true rfl) (Nat.le_of_ble_eq_true rfl) (Nat.le_of_ble_eq_true rfl) (Nat.le_of_ble_eq_true rfl) ?_
    intro v M2 hz
    obtain ⟨rfl, rfl⟩ := hz
    show xW _ _ _ _ 17 _ [.int v5] (mem t6 Gb) _ _
    refine xi_istore_n (lv' := [(2, .int v5), (0, .ref 0), (1, .int a)]) dX11_told_17 (by decide) rfl ?_
    refine xi_aload_n 1 dX11_told_18 rfl ?_
    refine yi_getR (f := 0) dX11_told_19 sh_0 rfl ok_8 (by decide) w_242 rfl ?_
    refine xi_iconst (v := 0) dX11_told_22 (by decide) ?_
    obtain ⟨t8, h9, hq⟩ := wrb_some hq
    refine yi_putV (f := 1) (ty := .int) dX11_told_23 sh_1 rfl ok_1 (by decide) w_41 rfl rfl pf_I rfl rfl h9 ?_
    refine xi_iload_n 0 dX11_told_26 rfl ?_
    refine xi_if_ne (tgt := 33) dX11_told_27 (by decide) (fun c10 => ?_) (fun c10 => ?_)
    · replace hq := ite_n c10 hq
      refine xi_aload_n 1 dX11_told_33 rfl ?_
      refine yi_getR (f := 3) dX11_told_34 sh_0 rfl ok_8 (by decide) w_245 rfl ?_
      refine xi_iload_n 2 dX11_told_37 rfl ?_
      obtain ⟨g11, hq⟩ := chk_some hq
      refine yi_aaload dX11_told_38 sh_10 rfl rfl g11 ?_
      obtain ⟨g12, hq⟩ := chk_some hq
      refine xi_astore_n (lv' := [(3, .ref (el 10 a)), (2, .int v5), (0, .ref 0), (1, .int a)]) dX11_told_39 (by decide) rfl ?_
      refine xi_aload_n 2 dX11_told_40 rfl ?_
      refine yi_getR (f := 8) dX11_told_41 sh_0 rfl ok_8 (by decide) w_250 rfl ?_
      refine xi_aload_n 0 dX11_told_44 rfl ?_
      obtain ⟨v13, t14, k15, hq⟩ := bnd_some hq
      refine xi_callV (as := [.ref (el 10 a)]) (rest := []) dX11_told_45 (KX5_copyFrom G Gb 141 (el 10 a) _ _ _ k15) mkX5_copyFrom w_445 w_446 w_444 (mem_get sh_141) rfl rfl rfl rfl (Nat.le_of_ble_eq_true rfl) (Nat.le_of_ble_eq_true rfl) (Nat.le_of_ble_eq_true rfl) (Nat.le_of_ble_eq_true rfl) (Nat.le_of_ble_eq_true rfl) ?_
      intro v M2 hz
      obtain ⟨rfl, rfl⟩ := hz
      show xW _ _ _ _ 48 _ [] (mem t14 Gb) _ _
      refine xi_aload_n 0 dX11_told_48 rfl ?_
      refine xi_aload_n 2 dX11_told_49 rfl ?_
      refine yi_getR (f := 2) dX11_told_50 sh_0 rfl ok_8 (by decide) w_244 rfl ?_
      refine yi_getR (f := 0) dX11_told_53 sh_5 rfl ok_6 (by decide) w_97 rfl ?_
      obtain ⟨v16, t17, k18, hq⟩ := bnd_some hq
      refine xi_callV (as := [.ref 6]) (rest := []) dX11_told_56 (KX5_copyFrom G Gb (el 10 a) 6 _ _ _ k18) mkX5_copyFrom w_445 w_446 w_444 (mem_get (netAt_0 g12)) rfl rfl rfl rfl (Nat.le_of_ble_eq_true rfl) (Nat.le_of_ble_eq_true rfl) (Nat.le_of_ble_eq_true rfl) (Nat.le_of_ble_eq_true rfl) (Nat.le_of_ble_eq_true rfl) ?_
      intro v M2 hz
      obtain ⟨rfl, rfl⟩ := hz
      show xW _ _ _ _ 59 _ [] (mem t17 Gb) _ _
      refine xi_aload_n 2 dX11_told_59 rfl ?_
      refine xi_iload_n 3 dX11_told_60 rfl ?_
      obtain ⟨v19, t20, k21, hq⟩ := bnd_some hq
      refine xi_callV (as := [.int a]) (rest := []) dX11_told_61 (KX11_noteAct G Gb a _ _ _ k21) mkX11_noteAct w_453 ws_13 w_451 (mem_get sh_0) rfl rfl rfl rfl (Nat.le_of_ble_eq_true rfl) (Nat.le_of_ble_eq_true rfl) (Nat.le_of_ble_eq_true rfl) (Nat.le_of_ble_eq_true rfl) (Nat.le_of_ble_eq_true rfl) ?_
      intro v M2 hz
      obtain ⟨rfl, rfl⟩ := hz
      show xW _ _ _ _ 64 _ [] (mem t20 Gb) _ _
      refine xi_aload_n 0 dX11_told_64 rfl ?_
      obtain ⟨v22, h23, hq⟩ := rdb_some hq
      refine yi_getV (f := 1) dX11_told_65 (netAt_0 g12) rfl ok_5 (by decide) w_70 rfl h23 ?_
      have r24 := some_pair hq
      obtain ⟨rfl, rfl⟩ := r24
      exact xi_iret dX11_told_68 rfl rfl (Nat.le_of_ble_eq_true rfl) (Nat.le_of_ble_eq_true rfl) ⟨rfl, rfl⟩
    · replace hq := ite_p c10 hq
      refine xi_bipush (v := (-4)) dX11_told_30 (by decide) ?_
      have r25 := some_pair hq
      obtain ⟨rfl, rfl⟩ := r25
      exact xi_iret dX11_told_32 rfl rfl (Nat.le_of_ble_eq_true rfl) (Nat.le_of_ble_eq_true rfl) ⟨rfl, rfl⟩
  · replace hq := ite_p c4 hq
    refine xi_bipush (v := (-2)) dX11_told_7 (by decide) ?_
    have r26 := some_pair hq
    obtain ⟨rfl, rfl⟩ := r26
    exact xi_iret dX11_told_9 rfl rfl (Nat.le_of_ble_eq_true rfl) (Nat.le_of_ble_eq_true rfl) ⟨rfl, rfl⟩
noncomputable def FX11_undo (σ : St) : Option ((Int32) × St) :=
  (rdb σ 98 (0) (fun v1 => (if v1 = (0 : Int32) then (some ((-1 : Int32), σ)) else (bnd (FX4_takeBack  σ) (fun v4 t5 => (rdb t5 98 (0) (fun v7 => (some (v7, t5)))))))))
set_option maxHeartbeats 4000000 in
set_option maxRecDepth 100000 in
theorem KX11_undo (G : xG) (Gb : xMem) (σ : St) (r0 : Int32) (t0 : St) (hq : FX11_undo σ = some (r0, t0)) : xC G mX11_undo 2 0 0 [.ref 0] (mem σ Gb) (PQ r0 t0 Gb) := by
  unfold FX11_undo at hq
  refine xC.of (by decide) (Nat.le_of_ble_eq_true rfl) ?_
  show xW _ _ _ _ 0 [(0, .ref 0)] [] _ 0 0
  refine xi_aload_n 0 dX11_undo_0 rfl ?_
  refine yi_getR (f := 7) dX11_undo_1 sh_0 rfl ok_8 (by decide) w_249 rfl ?_
  obtain ⟨v1, h2, hq⟩ := rdb_some hq
  refine yi_getV (f := 0) dX11_undo_4 sh_98 rfl ok_4 (by decide) w_229 rfl h2 ?_
  refine xi_if_ne (tgt := 12) dX11_undo_7 (by decide) (fun c3 => ?_) (fun c3 => ?_)
  · replace hq := ite_n c3 hq
    refine xi_aload_n 0 dX11_undo_12 rfl ?_
    refine yi_getR (f := 7) dX11_undo_13 sh_0 rfl ok_8 (by decide) w_249 rfl ?_
    refine xi_aload_n 0 dX11_undo_16 rfl ?_
    refine yi_getR (f := 3) dX11_undo_17 sh_0 rfl ok_8 (by decide) w_245 rfl ?_
    obtain ⟨v4, t5, k6, hq⟩ := bnd_some hq
    refine xi_callV (as := [.ref 10]) (rest := []) dX11_undo_20 (KX4_takeBack G Gb  _ _ _ k6) mkX4_takeBack w_961 w_962 w_960 (mem_get sh_98) rfl rfl rfl rfl (Nat.le_of_ble_eq_true rfl) (Nat.le_of_ble_eq_true rfl) (Nat.le_of_ble_eq_true rfl) (Nat.le_of_ble_eq_true rfl) (Nat.le_of_ble_eq_true rfl) ?_
    intro v M2 hz
    obtain ⟨rfl, rfl⟩ := hz
    show xW _ _ _ _ 23 _ [] (mem t5 Gb) _ _
    refine xi_aload_n 0 dX11_undo_23 rfl ?_
    refine yi_getR (f := 7) dX11_undo_24 sh_0 rfl ok_8 (by decide) w_249 rfl ?_
    obtain ⟨v7, h8, hq⟩ := rdb_some hq
    refine yi_getV (f := 0) dX11_undo_27 sh_98 rfl ok_4 (by decide) w_229 rfl h8 ?_
    have r9 := some_pair hq
    obtain ⟨rfl, rfl⟩ := r9
    exact xi_iret dX11_undo_30 rfl rfl (Nat.le_of_ble_eq_true rfl) (Nat.le_of_ble_eq_true rfl) ⟨rfl, rfl⟩
  · replace hq := ite_p c3 hq
    refine xi_iconst (v := (-1)) dX11_undo_10 (by decide) ?_
    have r10 := some_pair hq
    obtain ⟨rfl, rfl⟩ := r10
    exact xi_iret dX11_undo_11 rfl rfl (Nat.le_of_ble_eq_true rfl) (Nat.le_of_ble_eq_true rfl) ⟨rfl, rfl⟩
noncomputable def FX11_value (a : Int32) (b : Int32) (σ : St) : Option ((Int32) × St) :=
  (bnd (FX11_netIn a σ) (fun v1 t2 => (Option.elim v1 (some ((-2 : Int32), t2)) (fun x4 => (chk (netAt x4) (bnd (FX11_isMeasure b t2) (fun v7 t8 => (if v7 = (0 : Int32) then (some ((-2 : Int32), t8)) else (bnd (FX8_measured x4 b t8) (fun v11 t12 => (some (v11, t12))))))))))))
set_option maxHeartbeats 4000000 in
set_option maxRecDepth 100000 in
theorem KX11_value (G : xG) (Gb : xMem) (a : Int32) (b : Int32) (σ : St) (r0 : Int32) (t0 : St) (hq : FX11_value a b σ = some (r0, t0)) : xC G mX11_value 4 0 0 [.ref 0, .int a, .int b] (mem σ Gb) (PQ r0 t0 Gb) := by
  unfold FX11_value at hq
  refine xC.of (by decide) (Nat.le_of_ble_eq_true rfl) ?_
  show xW _ _ _ _ 0 [(0, .ref 0), (1, .int a), (2, .int b)] [] _ 0 0
  refine xi_aload_n 0 dX11_value_0 rfl ?_
  refine xi_iload_n 1 dX11_value_1 rfl ?_
  obtain ⟨v1, t2, k3, hq⟩ := bnd_some hq
  refine xi_callV (as := [.int a]) (rest := []) dX11_value_2 (KX11_netIn G Gb a _ _ _ k3) mkX11_netIn w_491 ws_15 w_489 (mem_get sh_0) rfl rfl rfl rfl (Nat.le_of_ble_eq_true rfl) (Nat.le_of_ble_eq_true rfl) (Nat.le_of_ble_eq_true rfl) (Nat.le_of_ble_eq_true rfl) (Nat.le_of_ble_eq_true rfl) ?_
  intro v M2 hz
  obtain ⟨rfl, rfl⟩ := hz
  rcases v1 with _ | x4
  · replace hq := oel_n hq
    show xW _ _ _ _ 5 _ [.null] (mem t2 Gb) _ _
    refine xi_astore_nN (lv' := [(3, .null), (0, .ref 0), (1, .int a), (2, .int b)]) dX11_value_5 (by decide) rfl ?_
    refine xi_aload_nN 0 dX11_value_6 rfl ?_
    refine xi_ifnullN (tgt := 17) dX11_value_7 (by decide) ?_
    refine xi_bipush (v := (-2)) dX11_value_17 (by decide) ?_
    refine xi_goto (tgt := 27) dX11_value_19 (by decide) ?_
    have r6 := some_pair hq
    obtain ⟨rfl, rfl⟩ := r6
    exact xi_iret dX11_value_27 rfl rfl (Nat.le_of_ble_eq_true rfl) (Nat.le_of_ble_eq_true rfl) ⟨rfl, rfl⟩
  · replace hq := oel_s hq
    obtain ⟨g5, hq⟩ := chk_some hq
    show xW _ _ _ _ 5 _ [.ref x4] (mem t2 Gb) _ _
    refine xi_astore_n (lv' := [(3, .ref x4), (0, .ref 0), (1, .int a), (2, .int b)]) dX11_value_5 (by decide) rfl ?_
    refine xi_aload_n 0 dX11_value_6 rfl ?_
    refine xi_ifnull dX11_value_7 ?_
    refine xi_iload_n 3 dX11_value_10 rfl ?_
    obtain ⟨v7, t8, k9, hq⟩ := bnd_some hq
    refine xi_callS (as := [.int b]) (rest := []) dX11_value_11 (KX11_isMeasure G Gb b _ _ _ k9) mkX11_isMeasure w_569 w_568 rfl rfl (Nat.le_of_ble_eq_true rfl) (Nat.le_of_ble_eq_true rfl) (Nat.le_of_ble_eq_true rfl) (Nat.le_of_ble_eq_true rfl) (Nat.le_of_ble_eq_true rfl) ?_
    intro v M2 hz
    obtain ⟨rfl, rfl⟩ := hz
    show xW _ _ _ _ 14 _ [.int v7] (mem t8 Gb) _ _
    refine xi_if_ne (tgt := 22) dX11_value_14 (by decide) (fun c10 => ?_) (fun c10 => ?_)
    · replace hq := ite_n c10 hq
      refine xi_aload_n 0 dX11_value_22 rfl ?_
      refine xi_iload_n 3 dX11_value_23 rfl ?_
      obtain ⟨v11, t12, k13, hq⟩ := bnd_some hq
      refine xi_callS (as := [.ref x4, .int b]) (rest := []) dX11_value_24 (KX8_measured G Gb x4 b _ _ _ k13) mkX8_measured w_572 w_571 rfl rfl (Nat.le_of_ble_eq_true rfl) (Nat.le_of_ble_eq_true rfl) (Nat.le_of_ble_eq_true rfl) (Nat.le_of_ble_eq_true rfl) (Nat.le_of_ble_eq_true rfl) ?_
      intro v M2 hz
      obtain ⟨rfl, rfl⟩ := hz
      show xW _ _ _ _ 27 _ [.int v11] (mem t12 Gb) _ _
      have r14 := some_pair hq
      obtain ⟨rfl, rfl⟩ := r14
      exact xi_iret dX11_value_27 rfl rfl (Nat.le_of_ble_eq_true rfl) (Nat.le_of_ble_eq_true rfl) ⟨rfl, rfl⟩
    · replace hq := ite_p c10 hq
      refine xi_bipush (v := (-2)) dX11_value_17 (by decide) ?_
      refine xi_goto (tgt := 27) dX11_value_19 (by decide) ?_
      have r15 := some_pair hq
      obtain ⟨rfl, rfl⟩ := r15
      exact xi_iret dX11_value_27 rfl rfl (Nat.le_of_ble_eq_true rfl) (Nat.le_of_ble_eq_true rfl) ⟨rfl, rfl⟩
noncomputable def FX11_ways (a : Int32) (b : Int32) (σ : St) : Option ((Int32) × St) :=
  (bnd (FX11_findingOf a b σ) (fun v1 t2 => (Option.elim v1 (some ((-2 : Int32), t2)) (fun x4 => (chk (findAt x4) (rdb t2 x4 (2) (fun v7 => (some (v7, t2)))))))))
set_option maxHeartbeats 4000000 in
set_option maxRecDepth 100000 in
theorem KX11_ways (G : xG) (Gb : xMem) (a : Int32) (b : Int32) (σ : St) (r0 : Int32) (t0 : St) (hq : FX11_ways a b σ = some (r0, t0)) : xC G mX11_ways 17 0 0 [.ref 0, .int a, .int b] (mem σ Gb) (PQ r0 t0 Gb) := by
  unfold FX11_ways at hq
  refine xC.of (by decide) (Nat.le_of_ble_eq_true rfl) ?_
  show xW _ _ _ _ 0 [(0, .ref 0), (1, .int a), (2, .int b)] [] _ 0 0
  refine xi_aload_n 0 dX11_ways_0 rfl ?_
  refine xi_iload_n 1 dX11_ways_1 rfl ?_
  refine xi_iload_n 2 dX11_ways_2 rfl ?_
  obtain ⟨v1, t2, k3, hq⟩ := bnd_some hq
  refine xi_callV (as := [.int a, .int b]) (rest := []) dX11_ways_3 (KX11_findingOf G Gb a b _ _ _ k3) mkX11_findingOf w_659 ws_16 w_657 (mem_get sh_0) rfl rfl rfl rfl (Nat.le_of_ble_eq_true rfl) (Nat.le_of_ble_eq_true rfl) (Nat.le_of_ble_eq_true rfl) (Nat.le_of_ble_eq_true rfl) (Nat.le_of_ble_eq_true rfl) ?_
  intro v M2 hz
  obtain ⟨rfl, rfl⟩ := hz
  rcases v1 with _ | x4
  · replace hq := oel_n hq
    show xW _ _ _ _ 6 _ [.null] (mem t2 Gb) _ _
    refine xi_astore_nN (lv' := [(3, .null), (0, .ref 0), (1, .int a), (2, .int b)]) dX11_ways_6 (by decide) rfl ?_
    refine xi_aload_nN 0 dX11_ways_7 rfl ?_
    refine xi_ifnonnullN dX11_ways_8 ?_
    refine xi_bipush (v := (-2)) dX11_ways_11 (by decide) ?_
    refine xi_goto (tgt := 20) dX11_ways_13 (by decide) ?_
    have r6 := some_pair hq
    obtain ⟨rfl, rfl⟩ := r6
    exact xi_iret dX11_ways_20 rfl rfl (Nat.le_of_ble_eq_true rfl) (Nat.le_of_ble_eq_true rfl) ⟨rfl, rfl⟩
  · replace hq := oel_s hq
    obtain ⟨g5, hq⟩ := chk_some hq
    show xW _ _ _ _ 6 _ [.ref x4] (mem t2 Gb) _ _
    refine xi_astore_n (lv' := [(3, .ref x4), (0, .ref 0), (1, .int a), (2, .int b)]) dX11_ways_6 (by decide) rfl ?_
    refine xi_aload_n 0 dX11_ways_7 rfl ?_
    refine xi_ifnonnull (tgt := 16) dX11_ways_8 (by decide) ?_
    refine xi_aload_n 0 dX11_ways_16 rfl ?_
    obtain ⟨v7, h8, hq⟩ := rdb_some hq
    refine yi_getV (f := 2) dX11_ways_17 (findAt_0 g5) rfl ok_2 (by decide) w_150 rfl h8 ?_
    have r9 := some_pair hq
    obtain ⟨rfl, rfl⟩ := r9
    exact xi_iret dX11_ways_20 rfl rfl (Nat.le_of_ble_eq_true rfl) (Nat.le_of_ble_eq_true rfl) ⟨rfl, rfl⟩
noncomputable def FX11_within (a : Int32) (b : Int32) (c : Int32) (σ : St) : Option ((Int32) × St) :=
  (bnd (FX11_netIn a σ) (fun v1 t2 => (Option.elim v1 (some ((-2 : Int32), t2)) (fun x4 => (chk (netAt x4) (bnd (FX11_isBounded b t2) (fun v7 t8 => (if v7 = (0 : Int32) then (some ((-2 : Int32), t8)) else (if (0 : Int32) ≤ c then (if b = (2 : Int32) then (bnd (FX0_rowsWithin x4 c t8) (fun v18 t19 => (some (v18, t19)))) else (bnd (FX9_rowsWithin x4 b c t8) (fun v14 t15 => (some (v14, t15))))) else (some ((-2 : Int32), t8)))))))))))
set_option maxHeartbeats 4000000 in
set_option maxRecDepth 100000 in
theorem KX11_within (G : xG) (Gb : xMem) (a : Int32) (b : Int32) (c : Int32) (σ : St) (r0 : Int32) (t0 : St) (hq : FX11_within a b c σ = some (r0, t0)) : xC G mX11_within 15 0 0 [.ref 0, .int a, .int b, .int c] (mem σ Gb) (PQ r0 t0 Gb) := by
  unfold FX11_within at hq
  refine xC.of (by decide) (Nat.le_of_ble_eq_true rfl) ?_
  show xW _ _ _ _ 0 [(0, .ref 0), (1, .int a), (2, .int b), (3, .int c)] [] _ 0 0
  refine xi_aload_n 0 dX11_within_0 rfl ?_
  refine xi_iload_n 1 dX11_within_1 rfl ?_
  obtain ⟨v1, t2, k3, hq⟩ := bnd_some hq
  refine xi_callV (as := [.int a]) (rest := []) dX11_within_2 (KX11_netIn G Gb a _ _ _ k3) mkX11_netIn w_491 ws_15 w_489 (mem_get sh_0) rfl rfl rfl rfl (Nat.le_of_ble_eq_true rfl) (Nat.le_of_ble_eq_true rfl) (Nat.le_of_ble_eq_true rfl) (Nat.le_of_ble_eq_true rfl) (Nat.le_of_ble_eq_true rfl) ?_
  intro v M2 hz
  obtain ⟨rfl, rfl⟩ := hz
  rcases v1 with _ | x4
  · replace hq := oel_n hq
    show xW _ _ _ _ 5 _ [.null] (mem t2 Gb) _ _
    refine xi_astoreN (lv' := [(4, .null), (0, .ref 0), (1, .int a), (2, .int b), (3, .int c)]) dX11_within_5 (by decide) rfl ?_
    refine xi_aloadN 0 dX11_within_7 rfl ?_
    refine xi_ifnullN (tgt := 23) dX11_within_9 (by decide) ?_
    refine xi_bipush (v := (-2)) dX11_within_23 (by decide) ?_
    have r6 := some_pair hq
    obtain ⟨rfl, rfl⟩ := r6
    exact xi_iret dX11_within_25 rfl rfl (Nat.le_of_ble_eq_true rfl) (Nat.le_of_ble_eq_true rfl) ⟨rfl, rfl⟩
  · replace hq := oel_s hq
    obtain ⟨g5, hq⟩ := chk_some hq
    show xW _ _ _ _ 5 _ [.ref x4] (mem t2 Gb) _ _
    refine xi_astore (lv' := [(4, .ref x4), (0, .ref 0), (1, .int a), (2, .int b), (3, .int c)]) dX11_within_5 (by decide) rfl ?_
    refine xi_aload 0 dX11_within_7 rfl ?_
    refine xi_ifnull dX11_within_9 ?_
    refine xi_iload_n 3 dX11_within_12 rfl ?_
    obtain ⟨v7, t8, k9, hq⟩ := bnd_some hq
    refine xi_callS (as := [.int b]) (rest := []) dX11_within_13 (KX11_isBounded G Gb b _ _ _ k9) mkX11_isBounded w_759 w_758 rfl rfl (Nat.le_of_ble_eq_true rfl) (Nat.le_of_ble_eq_true rfl) (Nat.le_of_ble_eq_true rfl) (Nat.le_of_ble_eq_true rfl) (Nat.le_of_ble_eq_true rfl) ?_
    intro v M2 hz
    obtain ⟨rfl, rfl⟩ := hz
    show xW _ _ _ _ 16 _ [.int v7] (mem t8 Gb) _ _
    refine xi_if_eq (tgt := 23) dX11_within_16 (by decide) (fun c10 => ?_) (fun c10 => ?_)
    · replace hq := ite_p c10 hq
      refine xi_bipush (v := (-2)) dX11_within_23 (by decide) ?_
      have r11 := some_pair hq
      obtain ⟨rfl, rfl⟩ := r11
      exact xi_iret dX11_within_25 rfl rfl (Nat.le_of_ble_eq_true rfl) (Nat.le_of_ble_eq_true rfl) ⟨rfl, rfl⟩
    · replace hq := ite_n c10 hq
      refine xi_iload_n 4 dX11_within_19 rfl ?_
      refine xi_if_ge (tgt := 26) dX11_within_20 (by decide) (fun c12 => ?_) (fun c12 => ?_)
      · replace hq := ite_p c12 hq
        refine xi_iload_n 3 dX11_within_26 rfl ?_
        refine xi_iconst (v := 2) dX11_within_27 (by decide) ?_
        refine xi_icmp_ne (tgt := 44) dX11_within_28 (by decide) (fun c13 => ?_) (fun c13 => ?_)
        · replace hq := ite_n c13 hq
          refine xi_aload_n 1 dX11_within_44 rfl ?_
          refine yi_getR (f := 5) dX11_within_45 sh_0 rfl ok_8 (by decide) w_247 rfl ?_
          refine xi_aload 0 dX11_within_48 rfl ?_
          refine xi_iload_n 3 dX11_within_50 rfl ?_
          refine xi_iload_n 4 dX11_within_51 rfl ?_
          obtain ⟨v14, t15, k16, hq⟩ := bnd_some hq
          refine xi_callV (as := [.ref x4, .int b, .int c]) (rest := []) dX11_within_52 (KX9_rowsWithin G Gb x4 b c _ _ _ k16) mkX9_rowsWithin w_766 w_767 w_765 (mem_get sh_84) rfl rfl rfl rfl (Nat.le_of_ble_eq_true rfl) (Nat.le_of_ble_eq_true rfl) (Nat.le_of_ble_eq_true rfl) (Nat.le_of_ble_eq_true rfl) (Nat.le_of_ble_eq_true rfl) ?_
          intro v M2 hz
          obtain ⟨rfl, rfl⟩ := hz
          show xW _ _ _ _ 55 _ [.int v14] (mem t15 Gb) _ _
          have r17 := some_pair hq
          obtain ⟨rfl, rfl⟩ := r17
          exact xi_iret dX11_within_55 rfl rfl (Nat.le_of_ble_eq_true rfl) (Nat.le_of_ble_eq_true rfl) ⟨rfl, rfl⟩
        · replace hq := ite_p c13 hq
          refine xi_aload_n 1 dX11_within_31 rfl ?_
          refine yi_getR (f := 6) dX11_within_32 sh_0 rfl ok_8 (by decide) w_248 rfl ?_
          refine xi_aload 0 dX11_within_35 rfl ?_
          refine xi_iload_n 4 dX11_within_37 rfl ?_
          obtain ⟨v18, t19, k20, hq⟩ := bnd_some hq
          refine xi_callV (as := [.ref x4, .int c]) (rest := []) dX11_within_38 (KX0_rowsWithin G Gb x4 c _ _ _ k20) mkX0_rowsWithin w_762 w_763 w_761 (mem_get sh_90) rfl rfl rfl rfl (Nat.le_of_ble_eq_true rfl) (Nat.le_of_ble_eq_true rfl) (Nat.le_of_ble_eq_true rfl) (Nat.le_of_ble_eq_true rfl) (Nat.le_of_ble_eq_true rfl) ?_
          intro v M2 hz
          obtain ⟨rfl, rfl⟩ := hz
          show xW _ _ _ _ 41 _ [.int v18] (mem t19 Gb) _ _
          refine xi_goto (tgt := 55) dX11_within_41 (by decide) ?_
          have r21 := some_pair hq
          obtain ⟨rfl, rfl⟩ := r21
          exact xi_iret dX11_within_55 rfl rfl (Nat.le_of_ble_eq_true rfl) (Nat.le_of_ble_eq_true rfl) ⟨rfl, rfl⟩
      · replace hq := ite_n c12 hq
        refine xi_bipush (v := (-2)) dX11_within_23 (by decide) ?_
        have r22 := some_pair hq
        obtain ⟨rfl, rfl⟩ := r22
        exact xi_iret dX11_within_25 rfl rfl (Nat.le_of_ble_eq_true rfl) (Nat.le_of_ble_eq_true rfl) ⟨rfl, rfl⟩
noncomputable def FX11_worst (a : Int32) (b : Int32) (σ : St) : Option ((Int32) × St) :=
  (bnd (FX11_netIn a σ) (fun v1 t2 => (Option.elim v1 (some ((-2 : Int32), t2)) (fun x4 => (chk (netAt x4) (bnd (FX11_isPriced b t2) (fun v7 t8 => (if v7 = (0 : Int32) then (some ((-2 : Int32), t8)) else (bnd (FX6_firstStep b t8) (fun v11 t12 => (bnd (FX5_has x4 v11 t12) (fun v14 t15 => (if v14 = (0 : Int32) then (some ((-2 : Int32), t15)) else (bnd (FX8_worstStep x4 b t15) (fun v19 t20 => (some (v19, t20)))))))))))))))))
set_option maxHeartbeats 4000000 in
set_option maxRecDepth 100000 in
theorem KX11_worst (G : xG) (Gb : xMem) (a : Int32) (b : Int32) (σ : St) (r0 : Int32) (t0 : St) (hq : FX11_worst a b σ = some (r0, t0)) : xC G mX11_worst 5 0 0 [.ref 0, .int a, .int b] (mem σ Gb) (PQ r0 t0 Gb) := by
  unfold FX11_worst at hq
  refine xC.of (by decide) (Nat.le_of_ble_eq_true rfl) ?_
  show xW _ _ _ _ 0 [(0, .ref 0), (1, .int a), (2, .int b)] [] _ 0 0
  refine xi_aload_n 0 dX11_worst_0 rfl ?_
  refine xi_iload_n 1 dX11_worst_1 rfl ?_
  obtain ⟨v1, t2, k3, hq⟩ := bnd_some hq
  refine xi_callV (as := [.int a]) (rest := []) dX11_worst_2 (KX11_netIn G Gb a _ _ _ k3) mkX11_netIn w_491 ws_15 w_489 (mem_get sh_0) rfl rfl rfl rfl (Nat.le_of_ble_eq_true rfl) (Nat.le_of_ble_eq_true rfl) (Nat.le_of_ble_eq_true rfl) (Nat.le_of_ble_eq_true rfl) (Nat.le_of_ble_eq_true rfl) ?_
  intro v M2 hz
  obtain ⟨rfl, rfl⟩ := hz
  rcases v1 with _ | x4
  · replace hq := oel_n hq
    show xW _ _ _ _ 5 _ [.null] (mem t2 Gb) _ _
    refine xi_astore_nN (lv' := [(3, .null), (0, .ref 0), (1, .int a), (2, .int b)]) dX11_worst_5 (by decide) rfl ?_
    refine xi_aload_nN 0 dX11_worst_6 rfl ?_
    refine xi_ifnullN (tgt := 17) dX11_worst_7 (by decide) ?_
    refine xi_bipush (v := (-2)) dX11_worst_17 (by decide) ?_
    have r6 := some_pair hq
    obtain ⟨rfl, rfl⟩ := r6
    exact xi_iret dX11_worst_19 rfl rfl (Nat.le_of_ble_eq_true rfl) (Nat.le_of_ble_eq_true rfl) ⟨rfl, rfl⟩
  · replace hq := oel_s hq
    obtain ⟨g5, hq⟩ := chk_some hq
    show xW _ _ _ _ 5 _ [.ref x4] (mem t2 Gb) _ _
    refine xi_astore_n (lv' := [(3, .ref x4), (0, .ref 0), (1, .int a), (2, .int b)]) dX11_worst_5 (by decide) rfl ?_
    refine xi_aload_n 0 dX11_worst_6 rfl ?_
    refine xi_ifnull dX11_worst_7 ?_
    refine xi_iload_n 3 dX11_worst_10 rfl ?_
    obtain ⟨v7, t8, k9, hq⟩ := bnd_some hq
    refine xi_callS (as := [.int b]) (rest := []) dX11_worst_11 (KX11_isPriced G Gb b _ _ _ k9) mkX11_isPriced w_620 w_619 rfl rfl (Nat.le_of_ble_eq_true rfl) (Nat.le_of_ble_eq_true rfl) (Nat.le_of_ble_eq_true rfl) (Nat.le_of_ble_eq_true rfl) (Nat.le_of_ble_eq_true rfl) ?_
    intro v M2 hz
    obtain ⟨rfl, rfl⟩ := hz
    show xW _ _ _ _ 14 _ [.int v7] (mem t8 Gb) _ _
    refine xi_if_ne (tgt := 20) dX11_worst_14 (by decide) (fun c10 => ?_) (fun c10 => ?_)
    · replace hq := ite_n c10 hq
      refine xi_aload_n 0 dX11_worst_20 rfl ?_
      refine xi_iload_n 3 dX11_worst_21 rfl ?_
      obtain ⟨v11, t12, k13, hq⟩ := bnd_some hq
      refine xi_callS (as := [.int b]) (rest := [.ref x4]) dX11_worst_22 (KX6_firstStep G Gb b _ _ _ k13) mkX6_firstStep w_623 w_622 rfl rfl (Nat.le_of_ble_eq_true rfl) (Nat.le_of_ble_eq_true rfl) (Nat.le_of_ble_eq_true rfl) (Nat.le_of_ble_eq_true rfl) (Nat.le_of_ble_eq_true rfl) ?_
      intro v M2 hz
      obtain ⟨rfl, rfl⟩ := hz
      show xW _ _ _ _ 25 _ [.int v11, .ref x4] (mem t12 Gb) _ _
      obtain ⟨v14, t15, k16, hq⟩ := bnd_some hq
      refine xi_callV (as := [.int v11]) (rest := []) dX11_worst_25 (KX5_has G Gb x4 v11 _ _ _ k16) mkX5_has w_437 w_438 w_541 (mem_get (netAt_0 g5)) rfl rfl rfl rfl (Nat.le_of_ble_eq_true rfl) (Nat.le_of_ble_eq_true rfl) (Nat.le_of_ble_eq_true rfl) (Nat.le_of_ble_eq_true rfl) (Nat.le_of_ble_eq_true rfl) ?_
      intro v M2 hz
      obtain ⟨rfl, rfl⟩ := hz
      show xW _ _ _ _ 28 _ [.int v14] (mem t15 Gb) _ _
      refine xi_if_eq (tgt := 39) dX11_worst_28 (by decide) (fun c17 => ?_) (fun c17 => ?_)
      · replace hq := ite_p c17 hq
        refine xi_bipush (v := (-2)) dX11_worst_39 (by decide) ?_
        have r18 := some_pair hq
        obtain ⟨rfl, rfl⟩ := r18
        exact xi_iret dX11_worst_41 rfl rfl (Nat.le_of_ble_eq_true rfl) (Nat.le_of_ble_eq_true rfl) ⟨rfl, rfl⟩
      · replace hq := ite_n c17 hq
        refine xi_aload_n 0 dX11_worst_31 rfl ?_
        refine xi_iload_n 3 dX11_worst_32 rfl ?_
        obtain ⟨v19, t20, k21, hq⟩ := bnd_some hq
        refine xi_callS (as := [.ref x4, .int b]) (rest := []) dX11_worst_33 (KX8_worstStep G Gb x4 b _ _ _ k21) mkX8_worstStep w_638 w_637 rfl rfl (Nat.le_of_ble_eq_true rfl) (Nat.le_of_ble_eq_true rfl) (Nat.le_of_ble_eq_true rfl) (Nat.le_of_ble_eq_true rfl) (Nat.le_of_ble_eq_true rfl) ?_
        intro v M2 hz
        obtain ⟨rfl, rfl⟩ := hz
        show xW _ _ _ _ 36 _ [.int v19] (mem t20 Gb) _ _
        refine xi_goto (tgt := 41) dX11_worst_36 (by decide) ?_
        have r22 := some_pair hq
        obtain ⟨rfl, rfl⟩ := r22
        exact xi_iret dX11_worst_41 rfl rfl (Nat.le_of_ble_eq_true rfl) (Nat.le_of_ble_eq_true rfl) ⟨rfl, rfl⟩
    · replace hq := ite_p c10 hq
      refine xi_bipush (v := (-2)) dX11_worst_17 (by decide) ?_
      have r23 := some_pair hq
      obtain ⟨rfl, rfl⟩ := r23
      exact xi_iret dX11_worst_19 rfl rfl (Nat.le_of_ble_eq_true rfl) (Nat.le_of_ble_eq_true rfl) ⟨rfl, rfl⟩
