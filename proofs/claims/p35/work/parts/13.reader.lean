/-! methods as functions (printed by wip/ext/genall.py) -/
noncomputable def FX7_blame (a : Int32) (σ : St) : Option ((Int32) × St) :=
  (wrb σ 5 (1) a (fun t1 => (rdb t1 5 (5) (fun v3 => (wrb t1 5 (2) v3 (fun t5 => (some ((0 : Int32), t5))))))))
set_option maxHeartbeats 4000000 in
set_option maxRecDepth 100000 in
theorem KX7_blame (G : xG) (Gb : xMem) (a : Int32) (σ : St) (r0 : Int32) (t0 : St) (hq : FX7_blame a σ = some (r0, t0)) : xC G mX7_blame 0 0 0 [.ref 5, .int a] (mem σ Gb) (PQ r0 t0 Gb) := by
  unfold FX7_blame at hq
  refine xC.of (by decide) (Nat.le_of_ble_eq_true rfl) ?_
  show xW _ _ _ _ 0 [(0, .ref 5), (1, .int a)] [] _ 0 0
  refine xi_aload_n 0 dX7_blame_0 rfl ?_
  refine xi_iload_n 1 dX7_blame_1 rfl ?_
  obtain ⟨t1, h2, hq⟩ := wrb_some hq
  refine yi_putV (f := 1) (ty := .int) dX7_blame_2 sh_5 rfl ok_6 (by decide) w_98 rfl rfl pf_I rfl rfl h2 ?_
  refine xi_aload_n 0 dX7_blame_5 rfl ?_
  refine xi_aload_n 0 dX7_blame_6 rfl ?_
  obtain ⟨v3, h4, hq⟩ := rdb_some hq
  refine yi_getV (f := 5) dX7_blame_7 sh_5 rfl ok_6 (by decide) w_104 rfl h4 ?_
  obtain ⟨t5, h6, hq⟩ := wrb_some hq
  refine yi_putV (f := 2) (ty := .int) dX7_blame_10 sh_5 rfl ok_6 (by decide) w_100 rfl rfl pf_I rfl rfl h6 ?_
  refine xi_iconst (v := 0) dX7_blame_13 (by decide) ?_
  have r7 := some_pair hq
  obtain ⟨rfl, rfl⟩ := r7
  exact xi_iret dX7_blame_14 rfl (by decide) (Nat.le_of_ble_eq_true rfl) (Nat.le_of_ble_eq_true rfl) ⟨rfl, rfl⟩
noncomputable def FX7_isBlank (a : Int32) (σ : St) : Option ((Int32) × St) :=
  (if a = (32 : Int32) then (some ((1 : Int32), σ)) else (if a = (10 : Int32) then (some ((1 : Int32), σ)) else (some ((0 : Int32), σ))))
set_option maxHeartbeats 4000000 in
set_option maxRecDepth 100000 in
theorem KX7_isBlank (G : xG) (Gb : xMem) (a : Int32) (σ : St) (r0 : Int32) (t0 : St) (hq : FX7_isBlank a σ = some (r0, t0)) : xC G mX7_isBlank 0 0 0 [.int a] (mem σ Gb) (PQ r0 t0 Gb) := by
  unfold FX7_isBlank at hq
  refine xC.of (by decide) (Nat.le_of_ble_eq_true rfl) ?_
  show xW _ _ _ _ 0 [(0, .int a)] [] _ 0 0
  refine xi_iload_n 0 dX7_isBlank_0 rfl ?_
  refine xi_bipush (v := 32) dX7_isBlank_1 (by decide) ?_
  refine xi_icmp_eq (tgt := 12) dX7_isBlank_3 (by decide) (fun c1 => ?_) (fun c1 => ?_)
  · replace hq := ite_p c1 hq
    refine xi_iconst (v := 1) dX7_isBlank_12 (by decide) ?_
    refine xi_goto (tgt := 17) dX7_isBlank_13 (by decide) ?_
    have r2 := some_pair hq
    obtain ⟨rfl, rfl⟩ := r2
    exact xi_iret dX7_isBlank_17 rfl (by decide) (Nat.le_of_ble_eq_true rfl) (Nat.le_of_ble_eq_true rfl) ⟨rfl, rfl⟩
  · replace hq := ite_n c1 hq
    refine xi_iload_n 0 dX7_isBlank_6 rfl ?_
    refine xi_bipush (v := 10) dX7_isBlank_7 (by decide) ?_
    refine xi_icmp_ne (tgt := 16) dX7_isBlank_9 (by decide) (fun c3 => ?_) (fun c3 => ?_)
    · replace hq := ite_n c3 hq
      refine xi_iconst (v := 0) dX7_isBlank_16 (by decide) ?_
      have r4 := some_pair hq
      obtain ⟨rfl, rfl⟩ := r4
      exact xi_iret dX7_isBlank_17 rfl (by decide) (Nat.le_of_ble_eq_true rfl) (Nat.le_of_ble_eq_true rfl) ⟨rfl, rfl⟩
    · replace hq := ite_p c3 hq
      refine xi_iconst (v := 1) dX7_isBlank_12 (by decide) ?_
      refine xi_goto (tgt := 17) dX7_isBlank_13 (by decide) ?_
      have r5 := some_pair hq
      obtain ⟨rfl, rfl⟩ := r5
      exact xi_iret dX7_isBlank_17 rfl (by decide) (Nat.le_of_ble_eq_true rfl) (Nat.le_of_ble_eq_true rfl) ⟨rfl, rfl⟩
noncomputable def SX7_isNumberFrom_24 (w1 : Int32) (w2 : Int32) (c : Int32) (σ : St) : Option (((Int32) ⊕ (Unit)) × St) :=
  (rdb σ 5 (6) (fun v8 => (if v8 ≤ c then (some (Sum.inr (), σ)) else (rdb σ 5 (7) (fun v11 => (bnd (FX1_at_1 c σ) (fun v13 t14 => (wrb t14 5 (7) (mnI (1000 : Int32) (((v11 * (10 : Int32)) + v13) - (48 : Int32))) (fun t16 => (some (Sum.inl (c + 1), t16)))))))))))
set_option maxHeartbeats 4000000 in
set_option maxRecDepth 100000 in
theorem SX7_isNumberFrom_24_w (G : xG) (Gb : xMem) (w1 : Int32) (w2 : Int32) (r0 : Int32) (t0 : St) :
    ∀ (k : Nat) (c : Int32) (σ : St) (r : Unit) (σ' : St), itr (SX7_isNumberFrom_24 w1 w2) k c σ = some (r, σ') → (xW G mX7_isNumberFrom (xrm 1 0 0) (xQ G (PQ r0 t0 Gb) 0 0) 67 [(0, .ref 5), (1, .int w1), (2, .int w2)] [] (mem σ' Gb) 0 0) → xW G mX7_isNumberFrom (xrm 1 0 0) (xQ G (PQ r0 t0 Gb) 0 0) 24 [(0, .ref 5), (1, .int w1), (2, .int w2), (3, .int c)] [] (mem σ Gb) 0 0 := by
  intro k
  induction k with
  | zero =>
    intro c σ r σ' h
    exact absurd h (itr_zero _ _ _ _)
  | succ k ih =>
    intro c σ r σ' h HE
    obtain ⟨x, s1, hs, h⟩ := itr_succ h
    unfold SX7_isNumberFrom_24 at hs
    refine xi_iload_n 3 dX7_isNumberFrom_24 rfl ?_
    refine xi_aload_n 0 dX7_isNumberFrom_25 rfl ?_
    obtain ⟨v8, h9, hs⟩ := rdb_some hs
    refine yi_getV (f := 6) dX7_isNumberFrom_26 sh_5 rfl ok_6 (by decide) w_105 rfl h9 ?_
    refine xi_icmp_ge (tgt := 67) dX7_isNumberFrom_29 (by decide) (fun c10 => ?_) (fun c10 => ?_)
    · replace hs := ite_p c10 hs
      refine xi_sub (lv' := [(0, .ref 5), (1, .int w1), (2, .int w2)]) [0, 1, 2] rfl ?_
      obtain ⟨rfl, rfl⟩ := some_pair hs
      obtain ⟨rfl, rfl⟩ := some_pair h
      exact HE
    · replace hs := ite_n c10 hs
      refine xi_aload_n 0 dX7_isNumberFrom_32 rfl ?_
      refine xi_sipush (v := 1000) dX7_isNumberFrom_33 (by decide) ?_
      refine xi_aload_n 0 dX7_isNumberFrom_36 rfl ?_
      obtain ⟨v11, h12, hs⟩ := rdb_some hs
      refine yi_getV (f := 7) dX7_isNumberFrom_37 sh_5 rfl ok_6 (by decide) w_106 rfl h12 ?_
      refine xi_bipush (v := 10) dX7_isNumberFrom_40 (by decide) ?_
      refine xi_imul (v := v11 * (10 : Int32)) dX7_isNumberFrom_42 rfl ?_
      refine xi_aload_n 0 dX7_isNumberFrom_43 rfl ?_
      refine yi_getR (f := 3) dX7_isNumberFrom_44 sh_5 rfl ok_6 (by decide) w_102 rfl ?_
      refine xi_iload_n 3 dX7_isNumberFrom_47 rfl ?_
      obtain ⟨v13, t14, k15, hs⟩ := bnd_some hs
      refine xi_callV (as := [.int c]) (rest := [.int (v11 * (10 : Int32)), .int 1000, .ref 5]) dX7_isNumberFrom_48 (KX1_at_1 G Gb c _ _ _ k15) mkX1_at w_310 w_311 w_309 (mem_get sh_1) rfl rfl rfl rfl (Nat.le_of_ble_eq_true rfl) (Nat.le_of_ble_eq_true rfl) (Nat.le_of_ble_eq_true rfl) (Nat.le_of_ble_eq_true rfl) (Nat.le_of_ble_eq_true rfl) ?_
      intro v M2 hz
      obtain ⟨rfl, rfl⟩ := hz
      show xW _ _ _ _ 51 _ [.int v13, .int (v11 * (10 : Int32)), .int 1000, .ref 5] (mem t14 Gb) _ _
      refine xi_iadd (v := (v11 * (10 : Int32)) + v13) dX7_isNumberFrom_51 rfl ?_
      refine xi_bipush (v := 48) dX7_isNumberFrom_52 (by decide) ?_
      refine xi_isub (v := ((v11 * (10 : Int32)) + v13) - (48 : Int32)) dX7_isNumberFrom_54 rfl ?_
      refine xi_min (v := (mnI (1000 : Int32) (((v11 * (10 : Int32)) + v13) - (48 : Int32)))) dX7_isNumberFrom_55 w_384 w_385 w_3 w_mmin (Nat.le_of_ble_eq_true rfl) (Nat.le_of_ble_eq_true rfl) (Nat.le_of_ble_eq_true rfl) (Nat.le_of_ble_eq_true rfl) (Nat.le_of_ble_eq_true rfl) rfl ?_
      obtain ⟨t16, h17, hs⟩ := wrb_some hs
      refine yi_putV (f := 7) (ty := .int) dX7_isNumberFrom_58 sh_5 rfl ok_6 (by decide) w_106 rfl rfl pf_I rfl rfl h17 ?_
      refine xi_iinc (v := (c + 1)) (lv' := [(3, .int (c + 1)), (0, .ref 5), (1, .int w1), (2, .int w2)]) 3 dX7_isNumberFrom_61 rfl rfl (by decide) rfl ?_
      refine xi_goto (tgt := 24) dX7_isNumberFrom_64 (by decide) ?_
      refine xi_sub (lv' := [(0, .ref 5), (1, .int w1), (2, .int w2), (3, .int (c + 1))]) [1, 2, 3, 0] rfl ?_
      obtain ⟨rfl, rfl⟩ := some_pair hs
      exact ih (c + 1) t16 _ _ h HE
noncomputable def FX7_isNumberFrom (a : Int32) (b : Int32) (σ : St) : Option ((Int32) × St) :=
  (rdb σ 5 (4) (fun v1 => (if v1 = (2 : Int32) then (wrb σ 5 (7) (0 : Int32) (fun t4 => (rdb t4 5 (5) (fun v6 => (bnd (wh (SX7_isNumberFrom_24 a b) v6 t4) (fun e18 t19 => (rdb t19 5 (7) (fun v22 => (if v22 < a then (bnd (FX7_blame (2 : Int32) t19) (fun v25 t26 => (if v25 = (0 : Int32) then (some ((0 : Int32), t26)) else (some ((1 : Int32), t26))))) else (rdb t19 5 (7) (fun v31 => (if v31 ≤ b then (some ((1 : Int32), t19)) else (bnd (FX7_blame (2 : Int32) t19) (fun v35 t36 => (if v35 = (0 : Int32) then (some ((0 : Int32), t36)) else (some ((1 : Int32), t36))))))))))))))))) else (bnd (FX7_blame (1 : Int32) σ) (fun v41 t42 => (chk (isb v41) (some (v41, t42))))))))
set_option maxHeartbeats 4000000 in
set_option maxRecDepth 100000 in
theorem KX7_isNumberFrom (G : xG) (Gb : xMem) (a : Int32) (b : Int32) (σ : St) (r0 : Int32) (t0 : St) (hq : FX7_isNumberFrom a b σ = some (r0, t0)) : xC G mX7_isNumberFrom 1 0 0 [.ref 5, .int a, .int b] (mem σ Gb) (PQ r0 t0 Gb) := by
  unfold FX7_isNumberFrom at hq
  refine xC.of (by decide) (Nat.le_of_ble_eq_true rfl) ?_
  show xW _ _ _ _ 0 [(0, .ref 5), (1, .int a), (2, .int b)] [] _ 0 0
  refine xi_aload_n 0 dX7_isNumberFrom_0 rfl ?_
  obtain ⟨v1, h2, hq⟩ := rdb_some hq
  refine yi_getV (f := 4) dX7_isNumberFrom_1 sh_5 rfl ok_6 (by decide) w_103 rfl h2 ?_
  refine xi_iconst (v := 2) dX7_isNumberFrom_4 (by decide) ?_
  refine xi_icmp_eq (tgt := 14) dX7_isNumberFrom_5 (by decide) (fun c3 => ?_) (fun c3 => ?_)
  · replace hq := ite_p c3 hq
    refine xi_aload_n 0 dX7_isNumberFrom_14 rfl ?_
    refine xi_iconst (v := 0) dX7_isNumberFrom_15 (by decide) ?_
    obtain ⟨t4, h5, hq⟩ := wrb_some hq
    refine yi_putV (f := 7) (ty := .int) dX7_isNumberFrom_16 sh_5 rfl ok_6 (by decide) w_106 rfl rfl pf_I rfl rfl h5 ?_
    refine xi_aload_n 0 dX7_isNumberFrom_19 rfl ?_
    obtain ⟨v6, h7, hq⟩ := rdb_some hq
    refine yi_getV (f := 5) dX7_isNumberFrom_20 sh_5 rfl ok_6 (by decide) w_104 rfl h7 ?_
    refine xi_istore_n (lv' := [(3, .int v6), (0, .ref 5), (1, .int a), (2, .int b)]) dX7_isNumberFrom_23 (by decide) rfl ?_
    refine xi_sub (lv' := [(0, .ref 5), (1, .int a), (2, .int b), (3, .int v6)]) [1, 2, 3, 0] rfl ?_
    obtain ⟨e18, t19, k20, hq⟩ := bnd_some hq
    obtain ⟨n21, k20⟩ := wh_itr k20
    refine SX7_isNumberFrom_24_w G Gb a b r0 t0 n21 v6 t4 _ _ k20 ?_
    show xW G mX7_isNumberFrom (xrm 1 0 0) (xQ G (PQ r0 t0 Gb) 0 0) 67 [(0, .ref 5), (1, .int a), (2, .int b)] [] (mem t19 Gb) 0 0
    refine xi_aload_n 0 dX7_isNumberFrom_67 rfl ?_
    obtain ⟨v22, h23, hq⟩ := rdb_some hq
    refine yi_getV (f := 7) dX7_isNumberFrom_68 sh_5 rfl ok_6 (by decide) w_106 rfl h23 ?_
    refine xi_iload_n 1 dX7_isNumberFrom_71 rfl ?_
    refine xi_icmp_lt (tgt := 83) dX7_isNumberFrom_72 (by decide) (fun c24 => ?_) (fun c24 => ?_)
    · replace hq := ite_p c24 hq
      refine xi_aload_n 0 dX7_isNumberFrom_83 rfl ?_
      refine xi_iconst (v := 2) dX7_isNumberFrom_84 (by decide) ?_
      obtain ⟨v25, t26, k27, hq⟩ := bnd_some hq
      refine xi_callV (as := [.int 2]) (rest := []) dX7_isNumberFrom_85 (KX7_blame G Gb (2 : Int32) _ _ _ k27) mkX7_blame w_378 ws_3 w_376 (mem_get sh_5) rfl rfl rfl rfl (Nat.le_of_ble_eq_true rfl) (Nat.le_of_ble_eq_true rfl) (Nat.le_of_ble_eq_true rfl) (Nat.le_of_ble_eq_true rfl) (Nat.le_of_ble_eq_true rfl) ?_
      intro v M2 hz
      obtain ⟨rfl, rfl⟩ := hz
      show xW _ _ _ _ 88 _ [.int v25] (mem t26 Gb) _ _
      refine xi_if_eq (tgt := 95) dX7_isNumberFrom_88 (by decide) (fun c28 => ?_) (fun c28 => ?_)
      · replace hq := ite_p c28 hq
        refine xi_iconst (v := 0) dX7_isNumberFrom_95 (by decide) ?_
        have r29 := some_pair hq
        obtain ⟨rfl, rfl⟩ := r29
        exact xi_iret dX7_isNumberFrom_96 rfl (by decide) (Nat.le_of_ble_eq_true rfl) (Nat.le_of_ble_eq_true rfl) ⟨rfl, rfl⟩
      · replace hq := ite_n c28 hq
        refine xi_iconst (v := 1) dX7_isNumberFrom_91 (by decide) ?_
        refine xi_goto (tgt := 96) dX7_isNumberFrom_92 (by decide) ?_
        have r30 := some_pair hq
        obtain ⟨rfl, rfl⟩ := r30
        exact xi_iret dX7_isNumberFrom_96 rfl (by decide) (Nat.le_of_ble_eq_true rfl) (Nat.le_of_ble_eq_true rfl) ⟨rfl, rfl⟩
    · replace hq := ite_n c24 hq
      refine xi_aload_n 0 dX7_isNumberFrom_75 rfl ?_
      obtain ⟨v31, h32, hq⟩ := rdb_some hq
      refine yi_getV (f := 7) dX7_isNumberFrom_76 sh_5 rfl ok_6 (by decide) w_106 rfl h32 ?_
      refine xi_iload_n 2 dX7_isNumberFrom_79 rfl ?_
      refine xi_icmp_le (tgt := 91) dX7_isNumberFrom_80 (by decide) (fun c33 => ?_) (fun c33 => ?_)
      · replace hq := ite_p c33 hq
        refine xi_iconst (v := 1) dX7_isNumberFrom_91 (by decide) ?_
        refine xi_goto (tgt := 96) dX7_isNumberFrom_92 (by decide) ?_
        have r34 := some_pair hq
        obtain ⟨rfl, rfl⟩ := r34
        exact xi_iret dX7_isNumberFrom_96 rfl (by decide) (Nat.le_of_ble_eq_true rfl) (Nat.le_of_ble_eq_true rfl) ⟨rfl, rfl⟩
      · replace hq := ite_n c33 hq
        refine xi_aload_n 0 dX7_isNumberFrom_83 rfl ?_
        refine xi_iconst (v := 2) dX7_isNumberFrom_84 (by decide) ?_
        obtain ⟨v35, t36, k37, hq⟩ := bnd_some hq
        refine xi_callV (as := [.int 2]) (rest := []) dX7_isNumberFrom_85 (KX7_blame G Gb (2 : Int32) _ _ _ k37) mkX7_blame w_378 ws_3 w_376 (mem_get sh_5) rfl rfl rfl rfl (Nat.le_of_ble_eq_true rfl) (Nat.le_of_ble_eq_true rfl) (Nat.le_of_ble_eq_true rfl) (Nat.le_of_ble_eq_true rfl) (Nat.le_of_ble_eq_true rfl) ?_
        intro v M2 hz
        obtain ⟨rfl, rfl⟩ := hz
        show xW _ _ _ _ 88 _ [.int v35] (mem t36 Gb) _ _
        refine xi_if_eq (tgt := 95) dX7_isNumberFrom_88 (by decide) (fun c38 => ?_) (fun c38 => ?_)
        · replace hq := ite_p c38 hq
          refine xi_iconst (v := 0) dX7_isNumberFrom_95 (by decide) ?_
          have r39 := some_pair hq
          obtain ⟨rfl, rfl⟩ := r39
          exact xi_iret dX7_isNumberFrom_96 rfl (by decide) (Nat.le_of_ble_eq_true rfl) (Nat.le_of_ble_eq_true rfl) ⟨rfl, rfl⟩
        · replace hq := ite_n c38 hq
          refine xi_iconst (v := 1) dX7_isNumberFrom_91 (by decide) ?_
          refine xi_goto (tgt := 96) dX7_isNumberFrom_92 (by decide) ?_
          have r40 := some_pair hq
          obtain ⟨rfl, rfl⟩ := r40
          exact xi_iret dX7_isNumberFrom_96 rfl (by decide) (Nat.le_of_ble_eq_true rfl) (Nat.le_of_ble_eq_true rfl) ⟨rfl, rfl⟩
  · replace hq := ite_n c3 hq
    refine xi_aload_n 0 dX7_isNumberFrom_8 rfl ?_
    refine xi_iconst (v := 1) dX7_isNumberFrom_9 (by decide) ?_
    obtain ⟨v41, t42, k43, hq⟩ := bnd_some hq
    refine xi_callV (as := [.int 1]) (rest := []) dX7_isNumberFrom_10 (KX7_blame G Gb (1 : Int32) _ _ _ k43) mkX7_blame w_378 ws_3 w_376 (mem_get sh_5) rfl rfl rfl rfl (Nat.le_of_ble_eq_true rfl) (Nat.le_of_ble_eq_true rfl) (Nat.le_of_ble_eq_true rfl) (Nat.le_of_ble_eq_true rfl) (Nat.le_of_ble_eq_true rfl) ?_
    intro v M2 hz
    obtain ⟨rfl, rfl⟩ := hz
    show xW _ _ _ _ 13 _ [.int v41] (mem t42 Gb) _ _
    obtain ⟨g44, hq⟩ := chk_some hq
    have r45 := some_pair hq
    obtain ⟨rfl, rfl⟩ := r45
    exact xi_iret dX7_isNumberFrom_13 rfl (isb_n g44) (Nat.le_of_ble_eq_true rfl) (Nat.le_of_ble_eq_true rfl) ⟨rfl, rfl⟩
noncomputable def FX7_isPoint (σ : St) : Option ((Int32) × St) :=
  (rdb σ 6 (0) (fun v1 => (bnd (FX7_isNumberFrom (0 : Int32) (v1 - (1 : Int32)) σ) (fun v3 t4 => (chk (isb v3) (some (v3, t4)))))))
set_option maxHeartbeats 4000000 in
set_option maxRecDepth 100000 in
theorem KX7_isPoint (G : xG) (Gb : xMem) (σ : St) (r0 : Int32) (t0 : St) (hq : FX7_isPoint σ = some (r0, t0)) : xC G mX7_isPoint 2 0 0 [.ref 5] (mem σ Gb) (PQ r0 t0 Gb) := by
  unfold FX7_isPoint at hq
  refine xC.of (by decide) (Nat.le_of_ble_eq_true rfl) ?_
  show xW _ _ _ _ 0 [(0, .ref 5)] [] _ 0 0
  refine xi_aload_n 0 dX7_isPoint_0 rfl ?_
  refine xi_iconst (v := 0) dX7_isPoint_1 (by decide) ?_
  refine xi_aload_n 0 dX7_isPoint_2 rfl ?_
  refine yi_getR (f := 0) dX7_isPoint_3 sh_5 rfl ok_6 (by decide) w_96 rfl ?_
  obtain ⟨v1, h2, hq⟩ := rdb_some hq
  refine yi_getV (f := 0) dX7_isPoint_6 sh_6 rfl ok_5 (by decide) w_68 rfl h2 ?_
  refine xi_iconst (v := 1) dX7_isPoint_9 (by decide) ?_
  refine xi_isub (v := v1 - (1 : Int32)) dX7_isPoint_10 rfl ?_
  obtain ⟨v3, t4, k5, hq⟩ := bnd_some hq
  refine xi_callV (as := [.int 0, .int (v1 - (1 : Int32))]) (rest := []) dX7_isPoint_11 (KX7_isNumberFrom G Gb (0 : Int32) (v1 - (1 : Int32)) _ _ _ k5) mkX7_isNumberFrom w_382 ws_4 w_380 (mem_get sh_5) rfl rfl rfl rfl (Nat.le_of_ble_eq_true rfl) (Nat.le_of_ble_eq_true rfl) (Nat.le_of_ble_eq_true rfl) (Nat.le_of_ble_eq_true rfl) (Nat.le_of_ble_eq_true rfl) ?_
  intro v M2 hz
  obtain ⟨rfl, rfl⟩ := hz
  show xW _ _ _ _ 14 _ [.int v3] (mem t4 Gb) _ _
  obtain ⟨g6, hq⟩ := chk_some hq
  have r7 := some_pair hq
  obtain ⟨rfl, rfl⟩ := r7
  exact xi_iret dX7_isPoint_14 rfl (isb_n g6) (Nat.le_of_ble_eq_true rfl) (Nat.le_of_ble_eq_true rfl) ⟨rfl, rfl⟩
noncomputable def FX7_isSign (a : Int32) (σ : St) : Option ((Int32) × St) :=
  (rdb σ 5 (4) (fun v1 => (if v1 = (3 : Int32) then (rdb σ 5 (5) (fun v5 => (bnd (FX1_at_1 v5 σ) (fun v7 t8 => (if v7 = a then (some ((1 : Int32), t8)) else (some ((0 : Int32), t8))))))) else (some ((0 : Int32), σ)))))
set_option maxHeartbeats 4000000 in
set_option maxRecDepth 100000 in
theorem KX7_isSign (G : xG) (Gb : xMem) (a : Int32) (σ : St) (r0 : Int32) (t0 : St) (hq : FX7_isSign a σ = some (r0, t0)) : xC G mX7_isSign 1 0 0 [.ref 5, .int a] (mem σ Gb) (PQ r0 t0 Gb) := by
  unfold FX7_isSign at hq
  refine xC.of (by decide) (Nat.le_of_ble_eq_true rfl) ?_
  show xW _ _ _ _ 0 [(0, .ref 5), (1, .int a)] [] _ 0 0
  refine xi_aload_n 0 dX7_isSign_0 rfl ?_
  obtain ⟨v1, h2, hq⟩ := rdb_some hq
  refine yi_getV (f := 4) dX7_isSign_1 sh_5 rfl ok_6 (by decide) w_103 rfl h2 ?_
  refine xi_iconst (v := 3) dX7_isSign_4 (by decide) ?_
  refine xi_icmp_ne (tgt := 27) dX7_isSign_5 (by decide) (fun c3 => ?_) (fun c3 => ?_)
  · replace hq := ite_n c3 hq
    refine xi_iconst (v := 0) dX7_isSign_27 (by decide) ?_
    have r4 := some_pair hq
    obtain ⟨rfl, rfl⟩ := r4
    exact xi_iret dX7_isSign_28 rfl (by decide) (Nat.le_of_ble_eq_true rfl) (Nat.le_of_ble_eq_true rfl) ⟨rfl, rfl⟩
  · replace hq := ite_p c3 hq
    refine xi_aload_n 0 dX7_isSign_8 rfl ?_
    refine yi_getR (f := 3) dX7_isSign_9 sh_5 rfl ok_6 (by decide) w_102 rfl ?_
    refine xi_aload_n 0 dX7_isSign_12 rfl ?_
    obtain ⟨v5, h6, hq⟩ := rdb_some hq
    refine yi_getV (f := 5) dX7_isSign_13 sh_5 rfl ok_6 (by decide) w_104 rfl h6 ?_
    obtain ⟨v7, t8, k9, hq⟩ := bnd_some hq
    refine xi_callV (as := [.int v5]) (rest := []) dX7_isSign_16 (KX1_at_1 G Gb v5 _ _ _ k9) mkX1_at w_310 w_311 w_309 (mem_get sh_1) rfl rfl rfl rfl (Nat.le_of_ble_eq_true rfl) (Nat.le_of_ble_eq_true rfl) (Nat.le_of_ble_eq_true rfl) (Nat.le_of_ble_eq_true rfl) (Nat.le_of_ble_eq_true rfl) ?_
    intro v M2 hz
    obtain ⟨rfl, rfl⟩ := hz
    show xW _ _ _ _ 19 _ [.int v7] (mem t8 Gb) _ _
    refine xi_iload_n 1 dX7_isSign_19 rfl ?_
    refine xi_icmp_ne (tgt := 27) dX7_isSign_20 (by decide) (fun c10 => ?_) (fun c10 => ?_)
    · replace hq := ite_n c10 hq
      refine xi_iconst (v := 0) dX7_isSign_27 (by decide) ?_
      have r11 := some_pair hq
      obtain ⟨rfl, rfl⟩ := r11
      exact xi_iret dX7_isSign_28 rfl (by decide) (Nat.le_of_ble_eq_true rfl) (Nat.le_of_ble_eq_true rfl) ⟨rfl, rfl⟩
    · replace hq := ite_p c10 hq
      refine xi_iconst (v := 1) dX7_isSign_23 (by decide) ?_
      refine xi_goto (tgt := 28) dX7_isSign_24 (by decide) ?_
      have r12 := some_pair hq
      obtain ⟨rfl, rfl⟩ := r12
      exact xi_iret dX7_isSign_28 rfl (by decide) (Nat.le_of_ble_eq_true rfl) (Nat.le_of_ble_eq_true rfl) ⟨rfl, rfl⟩
noncomputable def SX7_isWord_s0_28 (c : Int32) (σ : St) : Option (((Int32) ⊕ ((Int32) ⊕ (Unit))) × St) :=
  (if (3 : Int32) ≤ c then (some (Sum.inr (Sum.inr ()), σ)) else (rdb σ 5 (5) (fun v11 => (bnd (FX1_at_1 (v11 + c) σ) (fun v13 t14 => (chk (inb c 3) (if v13 = (chr [110, 101, 116] c) then (some (Sum.inl (c + 1), t14)) else (some (Sum.inr (Sum.inl (0 : Int32)), t14)))))))))
set_option maxHeartbeats 4000000 in
set_option maxRecDepth 100000 in
theorem SX7_isWord_s0_28_w (G : xG) (Gb : xMem) (r0 : Int32) (t0 : St) :
    ∀ (k : Nat) (c : Int32) (σ : St) (r : (Int32) ⊕ (Unit)) (σ' : St), itr (SX7_isWord_s0_28) k c σ = some (r, σ') → (Sum.elim (fun v => v = r0 ∧ σ' = t0) (fun e => xW G mX7_isWord (xrm 4 0 0) (xQ G (PQ r0 t0 Gb) 0 0) 65 [] [] (mem σ' Gb) 0 0) r) → xW G mX7_isWord (xrm 4 0 0) (xQ G (PQ r0 t0 Gb) 0 0) 28 [(0, .ref 5), (1, .float 0), (2, .int c)] [] (mem σ Gb) 0 0 := by
  intro k
  induction k with
  | zero =>
    intro c σ r σ' h
    exact absurd h (itr_zero _ _ _ _)
  | succ k ih =>
    intro c σ r σ' h HE
    obtain ⟨x, s1, hs, h⟩ := itr_succ h
    unfold SX7_isWord_s0_28 at hs
    refine xi_iload_n 2 dX7_isWord_28 rfl ?_
    refine xi_aload_nS 1 dX7_isWord_29 rfl ?_
    refine xi_callVS (as := []) (rest := [.int c]) dX7_isWord_30 (K_slen G st_0 rfl) mkJ0_length_8abf5 w_329 w_330 w_328 st_0 rfl rfl rfl rfl (Nat.le_of_ble_eq_true rfl) (Nat.le_of_ble_eq_true rfl) (Nat.le_of_ble_eq_true rfl) (Nat.le_of_ble_eq_true rfl) (Nat.le_of_ble_eq_true rfl) ?_
    intro v M2 hz
    obtain ⟨rfl, rfl⟩ := hz
    show xW _ _ _ _ 33 _ [.int 3, .int c] (mem σ Gb) _ _
    refine xi_icmp_ge (tgt := 65) dX7_isWord_33 (by decide) (fun c10 => ?_) (fun c10 => ?_)
    · replace hs := ite_p c10 hs
      refine xi_sub (lv' := []) [] rfl ?_
      obtain ⟨rfl, rfl⟩ := some_pair hs
      obtain ⟨rfl, rfl⟩ := some_pair h
      exact HE
    · replace hs := ite_n c10 hs
      refine xi_aload_n 0 dX7_isWord_36 rfl ?_
      refine yi_getR (f := 3) dX7_isWord_37 sh_5 rfl ok_6 (by decide) w_102 rfl ?_
      refine xi_aload_n 0 dX7_isWord_40 rfl ?_
      obtain ⟨v11, h12, hs⟩ := rdb_some hs
      refine yi_getV (f := 5) dX7_isWord_41 sh_5 rfl ok_6 (by decide) w_104 rfl h12 ?_
      refine xi_iload_n 2 dX7_isWord_44 rfl ?_
      refine xi_iadd (v := v11 + c) dX7_isWord_45 rfl ?_
      obtain ⟨v13, t14, k15, hs⟩ := bnd_some hs
      refine xi_callV (as := [.int (v11 + c)]) (rest := []) dX7_isWord_46 (KX1_at_1 G Gb (v11 + c) _ _ _ k15) mkX1_at w_310 w_311 w_309 (mem_get sh_1) rfl rfl rfl rfl (Nat.le_of_ble_eq_true rfl) (Nat.le_of_ble_eq_true rfl) (Nat.le_of_ble_eq_true rfl) (Nat.le_of_ble_eq_true rfl) (Nat.le_of_ble_eq_true rfl) ?_
      intro v M2 hz
      obtain ⟨rfl, rfl⟩ := hz
      show xW _ _ _ _ 49 _ [.int v13] (mem t14 Gb) _ _
      refine xi_aload_nS 1 dX7_isWord_49 rfl ?_
      refine xi_iload_n 2 dX7_isWord_50 rfl ?_
      obtain ⟨g16, hs⟩ := chk_some hs
      refine xi_callVS (as := [.int c]) (rest := [.int v13]) dX7_isWord_51 (K_schar G st_0 rfl g16) mkJ0_charAt_5068e w_339 w_340 w_338 st_0 rfl rfl rfl rfl (Nat.le_of_ble_eq_true rfl) (Nat.le_of_ble_eq_true rfl) (Nat.le_of_ble_eq_true rfl) (Nat.le_of_ble_eq_true rfl) (Nat.le_of_ble_eq_true rfl) ?_
      intro v M2 hz
      obtain ⟨rfl, rfl⟩ := hz
      show xW _ _ _ _ 54 _ [.int (chr [110, 101, 116] c), .int v13] (mem t14 Gb) _ _
      refine xi_icmp_eq (tgt := 59) dX7_isWord_54 (by decide) (fun c17 => ?_) (fun c17 => ?_)
      · replace hs := ite_p c17 hs
        refine xi_iinc (v := (c + 1)) (lv' := [(2, .int (c + 1)), (0, .ref 5), (1, .float 0)]) 2 dX7_isWord_59 rfl rfl (by decide) rfl ?_
        refine xi_goto (tgt := 28) dX7_isWord_62 (by decide) ?_
        refine xi_sub (lv' := [(0, .ref 5), (1, .float 0), (2, .int (c + 1))]) [1, 2, 0] rfl ?_
        obtain ⟨rfl, rfl⟩ := some_pair hs
        exact ih (c + 1) t14 _ _ h HE
      · replace hs := ite_n c17 hs
        refine xi_iconst (v := 0) dX7_isWord_57 (by decide) ?_
        obtain ⟨rfl, rfl⟩ := some_pair hs
        obtain ⟨rfl, rfl⟩ := some_pair h
        have r18 := HE
        obtain ⟨rfl, rfl⟩ := r18
        exact xi_iret dX7_isWord_58 rfl (by decide) (Nat.le_of_ble_eq_true rfl) (Nat.le_of_ble_eq_true rfl) ⟨rfl, rfl⟩
noncomputable def FX7_isWord_s0 (σ : St) : Option ((Int32) × St) :=
  (rdb σ 5 (4) (fun v1 => (if v1 = (1 : Int32) then (rdb σ 5 (6) (fun v5 => (rdb σ 5 (5) (fun v7 => (if (v5 - v7) = (3 : Int32) then (bnd (wh (SX7_isWord_s0_28) (0 : Int32) σ) (fun e19 t20 => Sum.elim (fun e19 => (some (e19, t20))) (fun e19 => (some ((1 : Int32), t20))) e19)) else (some ((0 : Int32), σ))))))) else (some ((0 : Int32), σ)))))
set_option maxHeartbeats 4000000 in
set_option maxRecDepth 100000 in
theorem KX7_isWord_s0 (G : xG) (Gb : xMem) (σ : St) (r0 : Int32) (t0 : St) (hq : FX7_isWord_s0 σ = some (r0, t0)) : xC G mX7_isWord 4 0 0 [.ref 5, .float 0] (mem σ Gb) (PQ r0 t0 Gb) := by
  unfold FX7_isWord_s0 at hq
  refine xC.of (by decide) (Nat.le_of_ble_eq_true rfl) ?_
  show xW _ _ _ _ 0 [(0, .ref 5), (1, .float 0)] [] _ 0 0
  refine xi_aload_n 0 dX7_isWord_0 rfl ?_
  obtain ⟨v1, h2, hq⟩ := rdb_some hq
  refine yi_getV (f := 4) dX7_isWord_1 sh_5 rfl ok_6 (by decide) w_103 rfl h2 ?_
  refine xi_iconst (v := 1) dX7_isWord_4 (by decide) ?_
  refine xi_icmp_ne (tgt := 24) dX7_isWord_5 (by decide) (fun c3 => ?_) (fun c3 => ?_)
  · replace hq := ite_n c3 hq
    refine xi_iconst (v := 0) dX7_isWord_24 (by decide) ?_
    have r4 := some_pair hq
    obtain ⟨rfl, rfl⟩ := r4
    exact xi_iret dX7_isWord_25 rfl (by decide) (Nat.le_of_ble_eq_true rfl) (Nat.le_of_ble_eq_true rfl) ⟨rfl, rfl⟩
  · replace hq := ite_p c3 hq
    refine xi_aload_n 0 dX7_isWord_8 rfl ?_
    obtain ⟨v5, h6, hq⟩ := rdb_some hq
    refine yi_getV (f := 6) dX7_isWord_9 sh_5 rfl ok_6 (by decide) w_105 rfl h6 ?_
    refine xi_aload_n 0 dX7_isWord_12 rfl ?_
    obtain ⟨v7, h8, hq⟩ := rdb_some hq
    refine yi_getV (f := 5) dX7_isWord_13 sh_5 rfl ok_6 (by decide) w_104 rfl h8 ?_
    refine xi_isub (v := v5 - v7) dX7_isWord_16 rfl ?_
    refine xi_aload_nS 1 dX7_isWord_17 rfl ?_
    refine xi_callVS (as := []) (rest := [.int (v5 - v7)]) dX7_isWord_18 (K_slen G st_0 rfl) mkJ0_length_8abf5 w_329 w_330 w_328 st_0 rfl rfl rfl rfl (Nat.le_of_ble_eq_true rfl) (Nat.le_of_ble_eq_true rfl) (Nat.le_of_ble_eq_true rfl) (Nat.le_of_ble_eq_true rfl) (Nat.le_of_ble_eq_true rfl) ?_
    intro v M2 hz
    obtain ⟨rfl, rfl⟩ := hz
    show xW _ _ _ _ 21 _ [.int 3, .int (v5 - v7)] (mem σ Gb) _ _
    refine xi_icmp_eq (tgt := 26) dX7_isWord_21 (by decide) (fun c9 => ?_) (fun c9 => ?_)
    · replace hq := ite_p c9 hq
      refine xi_iconst (v := 0) dX7_isWord_26 (by decide) ?_
      refine xi_istore_n (lv' := [(2, .int 0), (0, .ref 5), (1, .float 0)]) dX7_isWord_27 (by decide) rfl ?_
      refine xi_sub (lv' := [(0, .ref 5), (1, .float 0), (2, .int 0)]) [1, 2, 0] rfl ?_
      obtain ⟨e19, t20, k21, hq⟩ := bnd_some hq
      obtain ⟨n22, k21⟩ := wh_itr k21
      refine SX7_isWord_s0_28_w G Gb r0 t0 n22 (0 : Int32) σ _ _ k21 ?_
      rcases e19 with e19 | e19
      · replace hq := sel_l hq
        have r23 := some_pair hq
        exact r23
      · replace hq := sel_r hq
        show xW G mX7_isWord (xrm 4 0 0) (xQ G (PQ r0 t0 Gb) 0 0) 65 [] [] (mem t20 Gb) 0 0
        refine xi_iconst (v := 1) dX7_isWord_65 (by decide) ?_
        have r24 := some_pair hq
        obtain ⟨rfl, rfl⟩ := r24
        exact xi_iret dX7_isWord_66 rfl (by decide) (Nat.le_of_ble_eq_true rfl) (Nat.le_of_ble_eq_true rfl) ⟨rfl, rfl⟩
    · replace hq := ite_n c9 hq
      refine xi_iconst (v := 0) dX7_isWord_24 (by decide) ?_
      have r25 := some_pair hq
      obtain ⟨rfl, rfl⟩ := r25
      exact xi_iret dX7_isWord_25 rfl (by decide) (Nat.le_of_ble_eq_true rfl) (Nat.le_of_ble_eq_true rfl) ⟨rfl, rfl⟩
noncomputable def SX7_isWord_s1_28 (c : Int32) (σ : St) : Option (((Int32) ⊕ ((Int32) ⊕ (Unit))) × St) :=
  (if (3 : Int32) ≤ c then (some (Sum.inr (Sum.inr ()), σ)) else (rdb σ 5 (5) (fun v11 => (bnd (FX1_at_1 (v11 + c) σ) (fun v13 t14 => (chk (inb c 3) (if v13 = (chr [114, 111, 119] c) then (some (Sum.inl (c + 1), t14)) else (some (Sum.inr (Sum.inl (0 : Int32)), t14)))))))))
set_option maxHeartbeats 4000000 in
set_option maxRecDepth 100000 in
theorem SX7_isWord_s1_28_w (G : xG) (Gb : xMem) (r0 : Int32) (t0 : St) :
    ∀ (k : Nat) (c : Int32) (σ : St) (r : (Int32) ⊕ (Unit)) (σ' : St), itr (SX7_isWord_s1_28) k c σ = some (r, σ') → (Sum.elim (fun v => v = r0 ∧ σ' = t0) (fun e => xW G mX7_isWord (xrm 4 0 0) (xQ G (PQ r0 t0 Gb) 0 0) 65 [] [] (mem σ' Gb) 0 0) r) → xW G mX7_isWord (xrm 4 0 0) (xQ G (PQ r0 t0 Gb) 0 0) 28 [(0, .ref 5), (1, .float 1), (2, .int c)] [] (mem σ Gb) 0 0 := by
  intro k
  induction k with
  | zero =>
    intro c σ r σ' h
    exact absurd h (itr_zero _ _ _ _)
  | succ k ih =>
    intro c σ r σ' h HE
    obtain ⟨x, s1, hs, h⟩ := itr_succ h
    unfold SX7_isWord_s1_28 at hs
    refine xi_iload_n 2 dX7_isWord_28 rfl ?_
    refine xi_aload_nS 1 dX7_isWord_29 rfl ?_
    refine xi_callVS (as := []) (rest := [.int c]) dX7_isWord_30 (K_slen G st_1 rfl) mkJ0_length_8abf5 w_329 w_330 w_328 st_1 rfl rfl rfl rfl (Nat.le_of_ble_eq_true rfl) (Nat.le_of_ble_eq_true rfl) (Nat.le_of_ble_eq_true rfl) (Nat.le_of_ble_eq_true rfl) (Nat.le_of_ble_eq_true rfl) ?_
    intro v M2 hz
    obtain ⟨rfl, rfl⟩ := hz
    show xW _ _ _ _ 33 _ [.int 3, .int c] (mem σ Gb) _ _
    refine xi_icmp_ge (tgt := 65) dX7_isWord_33 (by decide) (fun c10 => ?_) (fun c10 => ?_)
    · replace hs := ite_p c10 hs
      refine xi_sub (lv' := []) [] rfl ?_
      obtain ⟨rfl, rfl⟩ := some_pair hs
      obtain ⟨rfl, rfl⟩ := some_pair h
      exact HE
    · replace hs := ite_n c10 hs
      refine xi_aload_n 0 dX7_isWord_36 rfl ?_
      refine yi_getR (f := 3) dX7_isWord_37 sh_5 rfl ok_6 (by decide) w_102 rfl ?_
      refine xi_aload_n 0 dX7_isWord_40 rfl ?_
      obtain ⟨v11, h12, hs⟩ := rdb_some hs
      refine yi_getV (f := 5) dX7_isWord_41 sh_5 rfl ok_6 (by decide) w_104 rfl h12 ?_
      refine xi_iload_n 2 dX7_isWord_44 rfl ?_
      refine xi_iadd (v := v11 + c) dX7_isWord_45 rfl ?_
      obtain ⟨v13, t14, k15, hs⟩ := bnd_some hs
      refine xi_callV (as := [.int (v11 + c)]) (rest := []) dX7_isWord_46 (KX1_at_1 G Gb (v11 + c) _ _ _ k15) mkX1_at w_310 w_311 w_309 (mem_get sh_1) rfl rfl rfl rfl (Nat.le_of_ble_eq_true rfl) (Nat.le_of_ble_eq_true rfl) (Nat.le_of_ble_eq_true rfl) (Nat.le_of_ble_eq_true rfl) (Nat.le_of_ble_eq_true rfl) ?_
      intro v M2 hz
      obtain ⟨rfl, rfl⟩ := hz
      show xW _ _ _ _ 49 _ [.int v13] (mem t14 Gb) _ _
      refine xi_aload_nS 1 dX7_isWord_49 rfl ?_
      refine xi_iload_n 2 dX7_isWord_50 rfl ?_
      obtain ⟨g16, hs⟩ := chk_some hs
      refine xi_callVS (as := [.int c]) (rest := [.int v13]) dX7_isWord_51 (K_schar G st_1 rfl g16) mkJ0_charAt_5068e w_339 w_340 w_338 st_1 rfl rfl rfl rfl (Nat.le_of_ble_eq_true rfl) (Nat.le_of_ble_eq_true rfl) (Nat.le_of_ble_eq_true rfl) (Nat.le_of_ble_eq_true rfl) (Nat.le_of_ble_eq_true rfl) ?_
      intro v M2 hz
      obtain ⟨rfl, rfl⟩ := hz
      show xW _ _ _ _ 54 _ [.int (chr [114, 111, 119] c), .int v13] (mem t14 Gb) _ _
      refine xi_icmp_eq (tgt := 59) dX7_isWord_54 (by decide) (fun c17 => ?_) (fun c17 => ?_)
      · replace hs := ite_p c17 hs
        refine xi_iinc (v := (c + 1)) (lv' := [(2, .int (c + 1)), (0, .ref 5), (1, .float 1)]) 2 dX7_isWord_59 rfl rfl (by decide) rfl ?_
        refine xi_goto (tgt := 28) dX7_isWord_62 (by decide) ?_
        refine xi_sub (lv' := [(0, .ref 5), (1, .float 1), (2, .int (c + 1))]) [1, 2, 0] rfl ?_
        obtain ⟨rfl, rfl⟩ := some_pair hs
        exact ih (c + 1) t14 _ _ h HE
      · replace hs := ite_n c17 hs
        refine xi_iconst (v := 0) dX7_isWord_57 (by decide) ?_
        obtain ⟨rfl, rfl⟩ := some_pair hs
        obtain ⟨rfl, rfl⟩ := some_pair h
        have r18 := HE
        obtain ⟨rfl, rfl⟩ := r18
        exact xi_iret dX7_isWord_58 rfl (by decide) (Nat.le_of_ble_eq_true rfl) (Nat.le_of_ble_eq_true rfl) ⟨rfl, rfl⟩
noncomputable def FX7_isWord_s1 (σ : St) : Option ((Int32) × St) :=
  (rdb σ 5 (4) (fun v1 => (if v1 = (1 : Int32) then (rdb σ 5 (6) (fun v5 => (rdb σ 5 (5) (fun v7 => (if (v5 - v7) = (3 : Int32) then (bnd (wh (SX7_isWord_s1_28) (0 : Int32) σ) (fun e19 t20 => Sum.elim (fun e19 => (some (e19, t20))) (fun e19 => (some ((1 : Int32), t20))) e19)) else (some ((0 : Int32), σ))))))) else (some ((0 : Int32), σ)))))
set_option maxHeartbeats 4000000 in
set_option maxRecDepth 100000 in
theorem KX7_isWord_s1 (G : xG) (Gb : xMem) (σ : St) (r0 : Int32) (t0 : St) (hq : FX7_isWord_s1 σ = some (r0, t0)) : xC G mX7_isWord 4 0 0 [.ref 5, .float 1] (mem σ Gb) (PQ r0 t0 Gb) := by
  unfold FX7_isWord_s1 at hq
  refine xC.of (by decide) (Nat.le_of_ble_eq_true rfl) ?_
  show xW _ _ _ _ 0 [(0, .ref 5), (1, .float 1)] [] _ 0 0
  refine xi_aload_n 0 dX7_isWord_0 rfl ?_
  obtain ⟨v1, h2, hq⟩ := rdb_some hq
  refine yi_getV (f := 4) dX7_isWord_1 sh_5 rfl ok_6 (by decide) w_103 rfl h2 ?_
  refine xi_iconst (v := 1) dX7_isWord_4 (by decide) ?_
  refine xi_icmp_ne (tgt := 24) dX7_isWord_5 (by decide) (fun c3 => ?_) (fun c3 => ?_)
  · replace hq := ite_n c3 hq
    refine xi_iconst (v := 0) dX7_isWord_24 (by decide) ?_
    have r4 := some_pair hq
    obtain ⟨rfl, rfl⟩ := r4
    exact xi_iret dX7_isWord_25 rfl (by decide) (Nat.le_of_ble_eq_true rfl) (Nat.le_of_ble_eq_true rfl) ⟨rfl, rfl⟩
  · replace hq := ite_p c3 hq
    refine xi_aload_n 0 dX7_isWord_8 rfl ?_
    obtain ⟨v5, h6, hq⟩ := rdb_some hq
    refine yi_getV (f := 6) dX7_isWord_9 sh_5 rfl ok_6 (by decide) w_105 rfl h6 ?_
    refine xi_aload_n 0 dX7_isWord_12 rfl ?_
    obtain ⟨v7, h8, hq⟩ := rdb_some hq
    refine yi_getV (f := 5) dX7_isWord_13 sh_5 rfl ok_6 (by decide) w_104 rfl h8 ?_
    refine xi_isub (v := v5 - v7) dX7_isWord_16 rfl ?_
    refine xi_aload_nS 1 dX7_isWord_17 rfl ?_
    refine xi_callVS (as := []) (rest := [.int (v5 - v7)]) dX7_isWord_18 (K_slen G st_1 rfl) mkJ0_length_8abf5 w_329 w_330 w_328 st_1 rfl rfl rfl rfl (Nat.le_of_ble_eq_true rfl) (Nat.le_of_ble_eq_true rfl) (Nat.le_of_ble_eq_true rfl) (Nat.le_of_ble_eq_true rfl) (Nat.le_of_ble_eq_true rfl) ?_
    intro v M2 hz
    obtain ⟨rfl, rfl⟩ := hz
    show xW _ _ _ _ 21 _ [.int 3, .int (v5 - v7)] (mem σ Gb) _ _
    refine xi_icmp_eq (tgt := 26) dX7_isWord_21 (by decide) (fun c9 => ?_) (fun c9 => ?_)
    · replace hq := ite_p c9 hq
      refine xi_iconst (v := 0) dX7_isWord_26 (by decide) ?_
      refine xi_istore_n (lv' := [(2, .int 0), (0, .ref 5), (1, .float 1)]) dX7_isWord_27 (by decide) rfl ?_
      refine xi_sub (lv' := [(0, .ref 5), (1, .float 1), (2, .int 0)]) [1, 2, 0] rfl ?_
      obtain ⟨e19, t20, k21, hq⟩ := bnd_some hq
      obtain ⟨n22, k21⟩ := wh_itr k21
      refine SX7_isWord_s1_28_w G Gb r0 t0 n22 (0 : Int32) σ _ _ k21 ?_
      rcases e19 with e19 | e19
      · replace hq := sel_l hq
        have r23 := some_pair hq
        exact r23
      · replace hq := sel_r hq
        show xW G mX7_isWord (xrm 4 0 0) (xQ G (PQ r0 t0 Gb) 0 0) 65 [] [] (mem t20 Gb) 0 0
        refine xi_iconst (v := 1) dX7_isWord_65 (by decide) ?_
        have r24 := some_pair hq
        obtain ⟨rfl, rfl⟩ := r24
        exact xi_iret dX7_isWord_66 rfl (by decide) (Nat.le_of_ble_eq_true rfl) (Nat.le_of_ble_eq_true rfl) ⟨rfl, rfl⟩
    · replace hq := ite_n c9 hq
      refine xi_iconst (v := 0) dX7_isWord_24 (by decide) ?_
      have r25 := some_pair hq
      obtain ⟨rfl, rfl⟩ := r25
      exact xi_iret dX7_isWord_25 rfl (by decide) (Nat.le_of_ble_eq_true rfl) (Nat.le_of_ble_eq_true rfl) ⟨rfl, rfl⟩
noncomputable def FX7_kindOf (a : Int32) (σ : St) : Option ((Int32) × St) :=
  (if a = (-1 : Int32) then (some ((0 : Int32), σ)) else (if a < (97 : Int32) then (if a < (48 : Int32) then (some ((3 : Int32), σ)) else (if (57 : Int32) < a then (some ((3 : Int32), σ)) else (some ((2 : Int32), σ)))) else (if (122 : Int32) < a then (if a < (48 : Int32) then (some ((3 : Int32), σ)) else (if (57 : Int32) < a then (some ((3 : Int32), σ)) else (some ((2 : Int32), σ)))) else (some ((1 : Int32), σ)))))
set_option maxHeartbeats 4000000 in
set_option maxRecDepth 100000 in
theorem KX7_kindOf (G : xG) (Gb : xMem) (a : Int32) (σ : St) (r0 : Int32) (t0 : St) (hq : FX7_kindOf a σ = some (r0, t0)) : xC G mX7_kindOf 0 0 0 [.int a] (mem σ Gb) (PQ r0 t0 Gb) := by
  unfold FX7_kindOf at hq
  refine xC.of (by decide) (Nat.le_of_ble_eq_true rfl) ?_
  show xW _ _ _ _ 0 [(0, .int a)] [] _ 0 0
  refine xi_iload_n 0 dX7_kindOf_0 rfl ?_
  refine xi_iconst (v := (-1)) dX7_kindOf_1 (by decide) ?_
  refine xi_icmp_ne (tgt := 7) dX7_kindOf_2 (by decide) (fun c1 => ?_) (fun c1 => ?_)
  · replace hq := ite_n c1 hq
    refine xi_iload_n 0 dX7_kindOf_7 rfl ?_
    refine xi_bipush (v := 97) dX7_kindOf_8 (by decide) ?_
    refine xi_icmp_lt (tgt := 21) dX7_kindOf_10 (by decide) (fun c2 => ?_) (fun c2 => ?_)
    · replace hq := ite_p c2 hq
      refine xi_iload_n 0 dX7_kindOf_21 rfl ?_
      refine xi_bipush (v := 48) dX7_kindOf_22 (by decide) ?_
      refine xi_icmp_lt (tgt := 37) dX7_kindOf_24 (by decide) (fun c3 => ?_) (fun c3 => ?_)
      · replace hq := ite_p c3 hq
        refine xi_iconst (v := 3) dX7_kindOf_37 (by decide) ?_
        have r4 := some_pair hq
        obtain ⟨rfl, rfl⟩ := r4
        exact xi_iret dX7_kindOf_38 rfl rfl (Nat.le_of_ble_eq_true rfl) (Nat.le_of_ble_eq_true rfl) ⟨rfl, rfl⟩
      · replace hq := ite_n c3 hq
        refine xi_iload_n 0 dX7_kindOf_27 rfl ?_
        refine xi_bipush (v := 57) dX7_kindOf_28 (by decide) ?_
        refine xi_icmp_gt (tgt := 37) dX7_kindOf_30 (by decide) (fun c5 => ?_) (fun c5 => ?_)
        · replace hq := ite_p c5 hq
          refine xi_iconst (v := 3) dX7_kindOf_37 (by decide) ?_
          have r6 := some_pair hq
          obtain ⟨rfl, rfl⟩ := r6
          exact xi_iret dX7_kindOf_38 rfl rfl (Nat.le_of_ble_eq_true rfl) (Nat.le_of_ble_eq_true rfl) ⟨rfl, rfl⟩
        · replace hq := ite_n c5 hq
          refine xi_iconst (v := 2) dX7_kindOf_33 (by decide) ?_
          refine xi_goto (tgt := 38) dX7_kindOf_34 (by decide) ?_
          have r7 := some_pair hq
          obtain ⟨rfl, rfl⟩ := r7
          exact xi_iret dX7_kindOf_38 rfl rfl (Nat.le_of_ble_eq_true rfl) (Nat.le_of_ble_eq_true rfl) ⟨rfl, rfl⟩
    · replace hq := ite_n c2 hq
      refine xi_iload_n 0 dX7_kindOf_13 rfl ?_
      refine xi_bipush (v := 122) dX7_kindOf_14 (by decide) ?_
      refine xi_icmp_gt (tgt := 21) dX7_kindOf_16 (by decide) (fun c8 => ?_) (fun c8 => ?_)
      · replace hq := ite_p c8 hq
        refine xi_iload_n 0 dX7_kindOf_21 rfl ?_
        refine xi_bipush (v := 48) dX7_kindOf_22 (by decide) ?_
        refine xi_icmp_lt (tgt := 37) dX7_kindOf_24 (by decide) (fun c9 => ?_) (fun c9 => ?_)
        · replace hq := ite_p c9 hq
          refine xi_iconst (v := 3) dX7_kindOf_37 (by decide) ?_
          have r10 := some_pair hq
          obtain ⟨rfl, rfl⟩ := r10
          exact xi_iret dX7_kindOf_38 rfl rfl (Nat.le_of_ble_eq_true rfl) (Nat.le_of_ble_eq_true rfl) ⟨rfl, rfl⟩
        · replace hq := ite_n c9 hq
          refine xi_iload_n 0 dX7_kindOf_27 rfl ?_
          refine xi_bipush (v := 57) dX7_kindOf_28 (by decide) ?_
          refine xi_icmp_gt (tgt := 37) dX7_kindOf_30 (by decide) (fun c11 => ?_) (fun c11 => ?_)
          · replace hq := ite_p c11 hq
            refine xi_iconst (v := 3) dX7_kindOf_37 (by decide) ?_
            have r12 := some_pair hq
            obtain ⟨rfl, rfl⟩ := r12
            exact xi_iret dX7_kindOf_38 rfl rfl (Nat.le_of_ble_eq_true rfl) (Nat.le_of_ble_eq_true rfl) ⟨rfl, rfl⟩
          · replace hq := ite_n c11 hq
            refine xi_iconst (v := 2) dX7_kindOf_33 (by decide) ?_
            refine xi_goto (tgt := 38) dX7_kindOf_34 (by decide) ?_
            have r13 := some_pair hq
            obtain ⟨rfl, rfl⟩ := r13
            exact xi_iret dX7_kindOf_38 rfl rfl (Nat.le_of_ble_eq_true rfl) (Nat.le_of_ble_eq_true rfl) ⟨rfl, rfl⟩
      · replace hq := ite_n c8 hq
        refine xi_iconst (v := 1) dX7_kindOf_19 (by decide) ?_
        have r14 := some_pair hq
        obtain ⟨rfl, rfl⟩ := r14
        exact xi_iret dX7_kindOf_20 rfl rfl (Nat.le_of_ble_eq_true rfl) (Nat.le_of_ble_eq_true rfl) ⟨rfl, rfl⟩
  · replace hq := ite_p c1 hq
    refine xi_iconst (v := 0) dX7_kindOf_5 (by decide) ?_
    have r15 := some_pair hq
    obtain ⟨rfl, rfl⟩ := r15
    exact xi_iret dX7_kindOf_6 rfl rfl (Nat.le_of_ble_eq_true rfl) (Nat.le_of_ble_eq_true rfl) ⟨rfl, rfl⟩
noncomputable def SX7_step_8 (c : Unit) (σ : St) : Option (((Unit) ⊕ (Unit)) × St) :=
  (rdb σ 5 (5) (fun v5 => (rdb σ 1 (1) (fun v7 => (if v7 ≤ v5 then (some (Sum.inr (), σ)) else (rdb σ 5 (5) (fun v10 => (bnd (FX1_at_1 v10 σ) (fun v12 t13 => (bnd (FX7_isBlank v12 t13) (fun v15 t16 => (if v15 = (0 : Int32) then (some (Sum.inr (), t16)) else (rdb t16 5 (5) (fun v19 => (wrb t16 5 (5) (v19 + (1 : Int32)) (fun t21 => (some (Sum.inl (), t21))))))))))))))))))
noncomputable def SX7_step_110 (c : Unit) (σ : St) : Option (((Unit) ⊕ (Unit)) × St) :=
  (rdb σ 5 (6) (fun v49 => (rdb σ 1 (1) (fun v51 => (if v51 ≤ v49 then (some (Sum.inr (), σ)) else (rdb σ 5 (6) (fun v54 => (bnd (FX1_at_1 v54 σ) (fun v56 t57 => (bnd (FX7_kindOf v56 t57) (fun v59 t60 => (rdb t60 5 (4) (fun v62 => (if v59 = v62 then (rdb t60 5 (6) (fun v65 => (wrb t60 5 (6) (v65 + (1 : Int32)) (fun t67 => (some (Sum.inl (), t67)))))) else (some (Sum.inr (), t60))))))))))))))))
set_option maxHeartbeats 4000000 in
set_option maxRecDepth 100000 in
theorem SX7_step_8_w (G : xG) (Gb : xMem) (r0 : Unit) (t0 : St) :
    ∀ (k : Nat) (c : Unit) (σ : St) (r : Unit) (σ' : St), itr (SX7_step_8) k c σ = some (r, σ') → (xW G mX7_step (xrm 1 0 0) (xQ G (PV r0 t0 Gb) 0 0) 52 [(0, .ref 5)] [] (mem σ' Gb) 0 0) → xW G mX7_step (xrm 1 0 0) (xQ G (PV r0 t0 Gb) 0 0) 8 [(0, .ref 5)] [] (mem σ Gb) 0 0 := by
  intro k
  induction k with
  | zero =>
    intro c σ r σ' h
    exact absurd h (itr_zero _ _ _ _)
  | succ k ih =>
    intro c σ r σ' h HE
    obtain ⟨x, s1, hs, h⟩ := itr_succ h
    unfold SX7_step_8 at hs
    refine xi_aload_n 0 dX7_step_8 rfl ?_
    obtain ⟨v5, h6, hs⟩ := rdb_some hs
    refine yi_getV (f := 5) dX7_step_9 sh_5 rfl ok_6 (by decide) w_104 rfl h6 ?_
    refine xi_aload_n 0 dX7_step_12 rfl ?_
    refine yi_getR (f := 3) dX7_step_13 sh_5 rfl ok_6 (by decide) w_102 rfl ?_
    obtain ⟨v7, h8, hs⟩ := rdb_some hs
    refine yi_getV (f := 1) dX7_step_16 sh_1 rfl ok_1 (by decide) w_42 rfl h8 ?_
    refine xi_icmp_ge (tgt := 52) dX7_step_19 (by decide) (fun c9 => ?_) (fun c9 => ?_)
    · replace hs := ite_p c9 hs
      obtain ⟨rfl, rfl⟩ := some_pair hs
      obtain ⟨rfl, rfl⟩ := some_pair h
      exact HE
    · replace hs := ite_n c9 hs
      refine xi_aload_n 0 dX7_step_22 rfl ?_
      refine yi_getR (f := 3) dX7_step_23 sh_5 rfl ok_6 (by decide) w_102 rfl ?_
      refine xi_aload_n 0 dX7_step_26 rfl ?_
      obtain ⟨v10, h11, hs⟩ := rdb_some hs
      refine yi_getV (f := 5) dX7_step_27 sh_5 rfl ok_6 (by decide) w_104 rfl h11 ?_
      obtain ⟨v12, t13, k14, hs⟩ := bnd_some hs
      refine xi_callV (as := [.int v10]) (rest := []) dX7_step_30 (KX1_at_1 G Gb v10 _ _ _ k14) mkX1_at w_310 w_311 w_309 (mem_get sh_1) rfl rfl rfl rfl (Nat.le_of_ble_eq_true rfl) (Nat.le_of_ble_eq_true rfl) (Nat.le_of_ble_eq_true rfl) (Nat.le_of_ble_eq_true rfl) (Nat.le_of_ble_eq_true rfl) ?_
      intro v M2 hz
      obtain ⟨rfl, rfl⟩ := hz
      show xW _ _ _ _ 33 _ [.int v12] (mem t13 Gb) _ _
      obtain ⟨v15, t16, k17, hs⟩ := bnd_some hs
      refine xi_callS (as := [.int v12]) (rest := []) dX7_step_33 (KX7_isBlank G Gb v12 _ _ _ k17) mkX7_isBlank w_314 w_313 rfl rfl (Nat.le_of_ble_eq_true rfl) (Nat.le_of_ble_eq_true rfl) (Nat.le_of_ble_eq_true rfl) (Nat.le_of_ble_eq_true rfl) (Nat.le_of_ble_eq_true rfl) ?_
      intro v M2 hz
      obtain ⟨rfl, rfl⟩ := hz
      show xW _ _ _ _ 36 _ [.int v15] (mem t16 Gb) _ _
      refine xi_if_eq (tgt := 52) dX7_step_36 (by decide) (fun c18 => ?_) (fun c18 => ?_)
      · replace hs := ite_p c18 hs
        obtain ⟨rfl, rfl⟩ := some_pair hs
        obtain ⟨rfl, rfl⟩ := some_pair h
        exact HE
      · replace hs := ite_n c18 hs
        refine xi_aload_n 0 dX7_step_39 rfl ?_
        refine xi_dup dX7_step_40 rfl ?_
        obtain ⟨v19, h20, hs⟩ := rdb_some hs
        refine yi_getV (f := 5) dX7_step_41 sh_5 rfl ok_6 (by decide) w_104 rfl h20 ?_
        refine xi_iconst (v := 1) dX7_step_44 (by decide) ?_
        refine xi_iadd (v := v19 + (1 : Int32)) dX7_step_45 rfl ?_
        obtain ⟨t21, h22, hs⟩ := wrb_some hs
        refine yi_putV (f := 5) (ty := .int) dX7_step_46 sh_5 rfl ok_6 (by decide) w_104 rfl rfl pf_I rfl rfl h22 ?_
        refine xi_goto (tgt := 8) dX7_step_49 (by decide) ?_
        obtain ⟨rfl, rfl⟩ := some_pair hs
        exact ih () t21 _ _ h HE
set_option maxHeartbeats 4000000 in
set_option maxRecDepth 100000 in
theorem SX7_step_110_w (G : xG) (Gb : xMem) (r0 : Unit) (t0 : St) :
    ∀ (k : Nat) (c : Unit) (σ : St) (r : Unit) (σ' : St), itr (SX7_step_110) k c σ = some (r, σ') → (xW G mX7_step (xrm 1 0 0) (xQ G (PV r0 t0 Gb) 0 0) 158 [] [] (mem σ' Gb) 0 0) → xW G mX7_step (xrm 1 0 0) (xQ G (PV r0 t0 Gb) 0 0) 110 [(0, .ref 5)] [] (mem σ Gb) 0 0 := by
  intro k
  induction k with
  | zero =>
    intro c σ r σ' h
    exact absurd h (itr_zero _ _ _ _)
  | succ k ih =>
    intro c σ r σ' h HE
    obtain ⟨x, s1, hs, h⟩ := itr_succ h
    unfold SX7_step_110 at hs
    refine xi_aload_n 0 dX7_step_110 rfl ?_
    obtain ⟨v49, h50, hs⟩ := rdb_some hs
    refine yi_getV (f := 6) dX7_step_111 sh_5 rfl ok_6 (by decide) w_105 rfl h50 ?_
    refine xi_aload_n 0 dX7_step_114 rfl ?_
    refine yi_getR (f := 3) dX7_step_115 sh_5 rfl ok_6 (by decide) w_102 rfl ?_
    obtain ⟨v51, h52, hs⟩ := rdb_some hs
    refine yi_getV (f := 1) dX7_step_118 sh_1 rfl ok_1 (by decide) w_42 rfl h52 ?_
    refine xi_icmp_ge (tgt := 158) dX7_step_121 (by decide) (fun c53 => ?_) (fun c53 => ?_)
    · replace hs := ite_p c53 hs
      refine xi_sub (lv' := []) [] rfl ?_
      obtain ⟨rfl, rfl⟩ := some_pair hs
      obtain ⟨rfl, rfl⟩ := some_pair h
      exact HE
    · replace hs := ite_n c53 hs
      refine xi_aload_n 0 dX7_step_124 rfl ?_
      refine yi_getR (f := 3) dX7_step_125 sh_5 rfl ok_6 (by decide) w_102 rfl ?_
      refine xi_aload_n 0 dX7_step_128 rfl ?_
      obtain ⟨v54, h55, hs⟩ := rdb_some hs
      refine yi_getV (f := 6) dX7_step_129 sh_5 rfl ok_6 (by decide) w_105 rfl h55 ?_
      obtain ⟨v56, t57, k58, hs⟩ := bnd_some hs
      refine xi_callV (as := [.int v54]) (rest := []) dX7_step_132 (KX1_at_1 G Gb v54 _ _ _ k58) mkX1_at w_310 w_311 w_309 (mem_get sh_1) rfl rfl rfl rfl (Nat.le_of_ble_eq_true rfl) (Nat.le_of_ble_eq_true rfl) (Nat.le_of_ble_eq_true rfl) (Nat.le_of_ble_eq_true rfl) (Nat.le_of_ble_eq_true rfl) ?_
      intro v M2 hz
      obtain ⟨rfl, rfl⟩ := hz
      show xW _ _ _ _ 135 _ [.int v56] (mem t57 Gb) _ _
      obtain ⟨v59, t60, k61, hs⟩ := bnd_some hs
      refine xi_callS (as := [.int v56]) (rest := []) dX7_step_135 (KX7_kindOf G Gb v56 _ _ _ k61) mkX7_kindOf w_317 w_316 rfl rfl (Nat.le_of_ble_eq_true rfl) (Nat.le_of_ble_eq_true rfl) (Nat.le_of_ble_eq_true rfl) (Nat.le_of_ble_eq_true rfl) (Nat.le_of_ble_eq_true rfl) ?_
      intro v M2 hz
      obtain ⟨rfl, rfl⟩ := hz
      show xW _ _ _ _ 138 _ [.int v59] (mem t60 Gb) _ _
      refine xi_aload_n 0 dX7_step_138 rfl ?_
      obtain ⟨v62, h63, hs⟩ := rdb_some hs
      refine yi_getV (f := 4) dX7_step_139 sh_5 rfl ok_6 (by decide) w_103 rfl h63 ?_
      refine xi_icmp_ne (tgt := 158) dX7_step_142 (by decide) (fun c64 => ?_) (fun c64 => ?_)
      · replace hs := ite_n c64 hs
        refine xi_sub (lv' := []) [] rfl ?_
        obtain ⟨rfl, rfl⟩ := some_pair hs
        obtain ⟨rfl, rfl⟩ := some_pair h
        exact HE
      · replace hs := ite_p c64 hs
        refine xi_aload_n 0 dX7_step_145 rfl ?_
        refine xi_dup dX7_step_146 rfl ?_
        obtain ⟨v65, h66, hs⟩ := rdb_some hs
        refine yi_getV (f := 6) dX7_step_147 sh_5 rfl ok_6 (by decide) w_105 rfl h66 ?_
        refine xi_iconst (v := 1) dX7_step_150 (by decide) ?_
        refine xi_iadd (v := v65 + (1 : Int32)) dX7_step_151 rfl ?_
        obtain ⟨t67, h68, hs⟩ := wrb_some hs
        refine yi_putV (f := 6) (ty := .int) dX7_step_152 sh_5 rfl ok_6 (by decide) w_105 rfl rfl pf_I rfl rfl h68 ?_
        refine xi_goto (tgt := 110) dX7_step_155 (by decide) ?_
        obtain ⟨rfl, rfl⟩ := some_pair hs
        exact ih () t67 _ _ h HE
noncomputable def FX7_step (σ : St) : Option ((Unit) × St) :=
  (rdb σ 5 (6) (fun v1 => (wrb σ 5 (5) v1 (fun t3 => (bnd (wh (SX7_step_8) () t3) (fun e23 t24 => (rdb t24 5 (5) (fun v27 => (bnd (FX1_at_1 v27 t24) (fun v29 t30 => (bnd (FX7_kindOf v29 t30) (fun v32 t33 => (wrb t33 5 (4) v32 (fun t35 => (rdb t35 5 (4) (fun v37 => (bnd (if v37 = (0 : Int32) then (rdb t35 5 (5) (fun v85 => (some (v85, t35)))) else (rdb t35 5 (5) (fun v83 => (some ((v83 + (1 : Int32)), t35))))) (fun v40 t41 => (wrb t41 5 (6) v40 (fun t44 => (rdb t44 5 (4) (fun v46 => (if v46 = (1 : Int32) then (bnd (wh (SX7_step_110) () t44) (fun e69 t70 => (some ((), t70)))) else (rdb t44 5 (4) (fun v74 => (if v74 = (2 : Int32) then (bnd (wh (SX7_step_110) () t44) (fun e78 t79 => (some ((), t79)))) else (some ((), t44))))))))))))))))))))))))))))
set_option maxHeartbeats 4000000 in
set_option maxRecDepth 100000 in
theorem KX7_step (G : xG) (Gb : xMem) (σ : St) (r0 : Unit) (t0 : St) (hq : FX7_step σ = some (r0, t0)) : xC G mX7_step 1 0 0 [.ref 5] (mem σ Gb) (PV r0 t0 Gb) := by
  unfold FX7_step at hq
  refine xC.of (by decide) (Nat.le_of_ble_eq_true rfl) ?_
  show xW _ _ _ _ 0 [(0, .ref 5)] [] _ 0 0
  refine xi_aload_n 0 dX7_step_0 rfl ?_
  refine xi_aload_n 0 dX7_step_1 rfl ?_
  obtain ⟨v1, h2, hq⟩ := rdb_some hq
  refine yi_getV (f := 6) dX7_step_2 sh_5 rfl ok_6 (by decide) w_105 rfl h2 ?_
  obtain ⟨t3, h4, hq⟩ := wrb_some hq
  refine yi_putV (f := 5) (ty := .int) dX7_step_5 sh_5 rfl ok_6 (by decide) w_104 rfl rfl pf_I rfl rfl h4 ?_
  obtain ⟨e23, t24, k25, hq⟩ := bnd_some hq
  obtain ⟨n26, k25⟩ := wh_itr k25
  refine SX7_step_8_w G Gb r0 t0 n26 () t3 _ _ k25 ?_
  show xW G mX7_step (xrm 1 0 0) (xQ G (PV r0 t0 Gb) 0 0) 52 [(0, .ref 5)] [] (mem t24 Gb) 0 0
  refine xi_aload_n 0 dX7_step_52 rfl ?_
  refine xi_aload_n 0 dX7_step_53 rfl ?_
  refine yi_getR (f := 3) dX7_step_54 sh_5 rfl ok_6 (by decide) w_102 rfl ?_
  refine xi_aload_n 0 dX7_step_57 rfl ?_
  obtain ⟨v27, h28, hq⟩ := rdb_some hq
  refine yi_getV (f := 5) dX7_step_58 sh_5 rfl ok_6 (by decide) w_104 rfl h28 ?_
  obtain ⟨v29, t30, k31, hq⟩ := bnd_some hq
  refine xi_callV (as := [.int v27]) (rest := [.ref 5]) dX7_step_61 (KX1_at_1 G Gb v27 _ _ _ k31) mkX1_at w_310 w_311 w_309 (mem_get sh_1) rfl rfl rfl rfl (Nat.le_of_ble_eq_true rfl) (Nat.le_of_ble_eq_true rfl) (Nat.le_of_ble_eq_true rfl) (Nat.le_of_ble_eq_true rfl) (Nat.le_of_ble_eq_true rfl) ?_
  intro v M2 hz
  obtain ⟨rfl, rfl⟩ := hz
  show xW _ _ _ _ 64 _ [.int v29, .ref 5] (mem t30 Gb) _ _
  obtain ⟨v32, t33, k34, hq⟩ := bnd_some hq
  refine xi_callS (as := [.int v29]) (rest := [.ref 5]) dX7_step_64 (KX7_kindOf G Gb v29 _ _ _ k34) mkX7_kindOf w_317 w_316 rfl rfl (Nat.le_of_ble_eq_true rfl) (Nat.le_of_ble_eq_true rfl) (Nat.le_of_ble_eq_true rfl) (Nat.le_of_ble_eq_true rfl) (Nat.le_of_ble_eq_true rfl) ?_
  intro v M2 hz
  obtain ⟨rfl, rfl⟩ := hz
  show xW _ _ _ _ 67 _ [.int v32, .ref 5] (mem t33 Gb) _ _
  obtain ⟨t35, h36, hq⟩ := wrb_some hq
  refine yi_putV (f := 4) (ty := .int) dX7_step_67 sh_5 rfl ok_6 (by decide) w_103 rfl rfl pf_I rfl rfl h36 ?_
  refine xi_aload_n 0 dX7_step_70 rfl ?_
  refine xi_aload_n 0 dX7_step_71 rfl ?_
  obtain ⟨v37, h38, hq⟩ := rdb_some hq
  refine yi_getV (f := 4) dX7_step_72 sh_5 rfl ok_6 (by decide) w_103 rfl h38 ?_
  obtain ⟨v40, t41, m42, hq⟩ := bnd_some hq
  have key43 : xW G mX7_step (xrm 1 0 0) (xQ G (PV r0 t0 Gb) 0 0) 91 [(0, .ref 5)] [.int v40, .ref 5] (mem t41 Gb) 0 0 := by
    obtain ⟨t44, h45, hq⟩ := wrb_some hq
    refine yi_putV (f := 6) (ty := .int) dX7_step_91 sh_5 rfl ok_6 (by decide) w_105 rfl rfl pf_I rfl rfl h45 ?_
    refine xi_aload_n 0 dX7_step_94 rfl ?_
    obtain ⟨v46, h47, hq⟩ := rdb_some hq
    refine yi_getV (f := 4) dX7_step_95 sh_5 rfl ok_6 (by decide) w_103 rfl h47 ?_
    refine xi_iconst (v := 1) dX7_step_98 (by decide) ?_
    refine xi_icmp_eq (tgt := 110) dX7_step_99 (by decide) (fun c48 => ?_) (fun c48 => ?_)
    · replace hq := ite_p c48 hq
      obtain ⟨e69, t70, k71, hq⟩ := bnd_some hq
      obtain ⟨n72, k71⟩ := wh_itr k71
      refine SX7_step_110_w G Gb r0 t0 n72 () t44 _ _ k71 ?_
      show xW G mX7_step (xrm 1 0 0) (xQ G (PV r0 t0 Gb) 0 0) 158 [] [] (mem t70 Gb) 0 0
      have r73 := some_pair hq
      obtain ⟨rfl, rfl⟩ := r73
      exact xi_vret dX7_step_158 rfl (Nat.le_of_ble_eq_true rfl) (Nat.le_of_ble_eq_true rfl) ⟨rfl, rfl⟩
    · replace hq := ite_n c48 hq
      refine xi_aload_n 0 dX7_step_102 rfl ?_
      obtain ⟨v74, h75, hq⟩ := rdb_some hq
      refine yi_getV (f := 4) dX7_step_103 sh_5 rfl ok_6 (by decide) w_103 rfl h75 ?_
      refine xi_iconst (v := 2) dX7_step_106 (by decide) ?_
      refine xi_icmp_ne (tgt := 158) dX7_step_107 (by decide) (fun c76 => ?_) (fun c76 => ?_)
      · replace hq := ite_n c76 hq
        have r77 := some_pair hq
        obtain ⟨rfl, rfl⟩ := r77
        exact xi_vret dX7_step_158 rfl (Nat.le_of_ble_eq_true rfl) (Nat.le_of_ble_eq_true rfl) ⟨rfl, rfl⟩
      · replace hq := ite_p c76 hq
        obtain ⟨e78, t79, k80, hq⟩ := bnd_some hq
        obtain ⟨n81, k80⟩ := wh_itr k80
        refine SX7_step_110_w G Gb r0 t0 n81 () t44 _ _ k80 ?_
        show xW G mX7_step (xrm 1 0 0) (xQ G (PV r0 t0 Gb) 0 0) 158 [] [] (mem t79 Gb) 0 0
        have r82 := some_pair hq
        obtain ⟨rfl, rfl⟩ := r82
        exact xi_vret dX7_step_158 rfl (Nat.le_of_ble_eq_true rfl) (Nat.le_of_ble_eq_true rfl) ⟨rfl, rfl⟩
  refine xi_if_ne (tgt := 85) dX7_step_75 (by decide) (fun c39 => ?_) (fun c39 => ?_)
  · replace m42 := ite_n c39 m42
    refine xi_aload_n 0 dX7_step_85 rfl ?_
    obtain ⟨v83, h84, m42⟩ := rdb_some m42
    refine yi_getV (f := 5) dX7_step_86 sh_5 rfl ok_6 (by decide) w_104 rfl h84 ?_
    refine xi_iconst (v := 1) dX7_step_89 (by decide) ?_
    refine xi_iadd (v := v83 + (1 : Int32)) dX7_step_90 rfl ?_
    obtain ⟨rfl, rfl⟩ := some_pair m42
    exact key43
  · replace m42 := ite_p c39 m42
    refine xi_aload_n 0 dX7_step_78 rfl ?_
    obtain ⟨v85, h86, m42⟩ := rdb_some m42
    refine yi_getV (f := 5) dX7_step_79 sh_5 rfl ok_6 (by decide) w_104 rfl h86 ?_
    refine xi_goto (tgt := 91) dX7_step_82 (by decide) ?_
    obtain ⟨rfl, rfl⟩ := some_pair m42
    exact key43
noncomputable def FX7_readHead (σ : St) : Option ((Int32) × St) :=
  (bnd (FX7_isWord_s0  σ) (fun v1 t2 => (if v1 = (0 : Int32) then (bnd (FX7_blame (1 : Int32) t2) (fun v22 t23 => (chk (isb v22) (some (v22, t23))))) else (bnd (FX7_step  t2) (fun v5 t6 => (bnd (FX7_isNumberFrom (1 : Int32) (9 : Int32) t6) (fun v8 t9 => (if v8 = (0 : Int32) then (some ((0 : Int32), t9)) else (rdb t9 5 (7) (fun v12 => (bnd (FX5_begin 6 v12 t9) (fun v14 t15 => (bnd (FX7_step  t15) (fun v17 t18 => (some ((1 : Int32), t18))))))))))))))))
set_option maxHeartbeats 4000000 in
set_option maxRecDepth 100000 in
theorem KX7_readHead (G : xG) (Gb : xMem) (σ : St) (r0 : Int32) (t0 : St) (hq : FX7_readHead σ = some (r0, t0)) : xC G mX7_readHead 5 0 0 [.ref 5] (mem σ Gb) (PQ r0 t0 Gb) := by
  unfold FX7_readHead at hq
  refine xC.of (by decide) (Nat.le_of_ble_eq_true rfl) ?_
  show xW _ _ _ _ 0 [(0, .ref 5)] [] _ 0 0
  refine xi_aload_n 0 dX7_readHead_0 rfl ?_
  refine xi_ldcS (w := 0) dX7_readHead_1 st_0 rfl ?_
  obtain ⟨v1, t2, k3, hq⟩ := bnd_some hq
  refine xi_callV (as := [.float 0]) (rest := []) dX7_readHead_3 (KX7_isWord_s0 G Gb  _ _ _ k3) mkX7_isWord w_326 ws_2 w_324 (mem_get sh_5) rfl rfl rfl rfl (Nat.le_of_ble_eq_true rfl) (Nat.le_of_ble_eq_true rfl) (Nat.le_of_ble_eq_true rfl) (Nat.le_of_ble_eq_true rfl) (Nat.le_of_ble_eq_true rfl) ?_
  intro v M2 hz
  obtain ⟨rfl, rfl⟩ := hz
  show xW _ _ _ _ 6 _ [.int v1] (mem t2 Gb) _ _
  refine xi_if_ne (tgt := 15) dX7_readHead_6 (by decide) (fun c4 => ?_) (fun c4 => ?_)
  · replace hq := ite_n c4 hq
    refine xi_aload_n 0 dX7_readHead_15 rfl ?_
    obtain ⟨v5, t6, k7, hq⟩ := bnd_some hq
    refine xi_callV (as := []) (rest := []) dX7_readHead_16 (KX7_step G Gb  _ _ _ k7) mkX7_step w_307 ws_0 w_305 (mem_get sh_5) rfl rfl rfl rfl (Nat.le_of_ble_eq_true rfl) (Nat.le_of_ble_eq_true rfl) (Nat.le_of_ble_eq_true rfl) (Nat.le_of_ble_eq_true rfl) (Nat.le_of_ble_eq_true rfl) ?_
    intro v M2 hz
    obtain ⟨rfl, rfl⟩ := hz
    show xW _ _ _ _ 19 _ [] (mem t6 Gb) _ _
    refine xi_aload_n 0 dX7_readHead_19 rfl ?_
    refine xi_iconst (v := 1) dX7_readHead_20 (by decide) ?_
    refine xi_bipush (v := 9) dX7_readHead_21 (by decide) ?_
    obtain ⟨v8, t9, k10, hq⟩ := bnd_some hq
    refine xi_callV (as := [.int 1, .int 9]) (rest := []) dX7_readHead_23 (KX7_isNumberFrom G Gb (1 : Int32) (9 : Int32) _ _ _ k10) mkX7_isNumberFrom w_382 ws_4 w_380 (mem_get sh_5) rfl rfl rfl rfl (Nat.le_of_ble_eq_true rfl) (Nat.le_of_ble_eq_true rfl) (Nat.le_of_ble_eq_true rfl) (Nat.le_of_ble_eq_true rfl) (Nat.le_of_ble_eq_true rfl) ?_
    intro v M2 hz
    obtain ⟨rfl, rfl⟩ := hz
    show xW _ _ _ _ 26 _ [.int v8] (mem t9 Gb) _ _
    refine xi_if_ne (tgt := 31) dX7_readHead_26 (by decide) (fun c11 => ?_) (fun c11 => ?_)
    · replace hq := ite_n c11 hq
      refine xi_aload_n 0 dX7_readHead_31 rfl ?_
      refine yi_getR (f := 0) dX7_readHead_32 sh_5 rfl ok_6 (by decide) w_96 rfl ?_
      refine xi_aload_n 0 dX7_readHead_35 rfl ?_
      obtain ⟨v12, h13, hq⟩ := rdb_some hq
      refine yi_getV (f := 7) dX7_readHead_36 sh_5 rfl ok_6 (by decide) w_106 rfl h13 ?_
      obtain ⟨v14, t15, k16, hq⟩ := bnd_some hq
      refine xi_callV (as := [.int v12]) (rest := []) dX7_readHead_39 (KX5_begin G Gb 6 v12 _ _ _ k16) mkX5_begin w_388 w_389 w_387 (mem_get sh_6) rfl rfl rfl rfl (Nat.le_of_ble_eq_true rfl) (Nat.le_of_ble_eq_true rfl) (Nat.le_of_ble_eq_true rfl) (Nat.le_of_ble_eq_true rfl) (Nat.le_of_ble_eq_true rfl) ?_
      intro v M2 hz
      obtain ⟨rfl, rfl⟩ := hz
      show xW _ _ _ _ 42 _ [] (mem t15 Gb) _ _
      refine xi_aload_n 0 dX7_readHead_42 rfl ?_
      obtain ⟨v17, t18, k19, hq⟩ := bnd_some hq
      refine xi_callV (as := []) (rest := []) dX7_readHead_43 (KX7_step G Gb  _ _ _ k19) mkX7_step w_307 ws_0 w_305 (mem_get sh_5) rfl rfl rfl rfl (Nat.le_of_ble_eq_true rfl) (Nat.le_of_ble_eq_true rfl) (Nat.le_of_ble_eq_true rfl) (Nat.le_of_ble_eq_true rfl) (Nat.le_of_ble_eq_true rfl) ?_
      intro v M2 hz
      obtain ⟨rfl, rfl⟩ := hz
      show xW _ _ _ _ 46 _ [] (mem t18 Gb) _ _
      refine xi_iconst (v := 1) dX7_readHead_46 (by decide) ?_
      have r20 := some_pair hq
      obtain ⟨rfl, rfl⟩ := r20
      exact xi_iret dX7_readHead_47 rfl (by decide) (Nat.le_of_ble_eq_true rfl) (Nat.le_of_ble_eq_true rfl) ⟨rfl, rfl⟩
    · replace hq := ite_p c11 hq
      refine xi_iconst (v := 0) dX7_readHead_29 (by decide) ?_
      have r21 := some_pair hq
      obtain ⟨rfl, rfl⟩ := r21
      exact xi_iret dX7_readHead_30 rfl (by decide) (Nat.le_of_ble_eq_true rfl) (Nat.le_of_ble_eq_true rfl) ⟨rfl, rfl⟩
  · replace hq := ite_p c4 hq
    refine xi_aload_n 0 dX7_readHead_9 rfl ?_
    refine xi_iconst (v := 1) dX7_readHead_10 (by decide) ?_
    obtain ⟨v22, t23, k24, hq⟩ := bnd_some hq
    refine xi_callV (as := [.int 1]) (rest := []) dX7_readHead_11 (KX7_blame G Gb (1 : Int32) _ _ _ k24) mkX7_blame w_378 ws_3 w_376 (mem_get sh_5) rfl rfl rfl rfl (Nat.le_of_ble_eq_true rfl) (Nat.le_of_ble_eq_true rfl) (Nat.le_of_ble_eq_true rfl) (Nat.le_of_ble_eq_true rfl) (Nat.le_of_ble_eq_true rfl) ?_
    intro v M2 hz
    obtain ⟨rfl, rfl⟩ := hz
    show xW _ _ _ _ 14 _ [.int v22] (mem t23 Gb) _ _
    obtain ⟨g25, hq⟩ := chk_some hq
    have r26 := some_pair hq
    obtain ⟨rfl, rfl⟩ := r26
    exact xi_iret dX7_readHead_14 rfl (isb_n g25) (Nat.le_of_ble_eq_true rfl) (Nat.le_of_ble_eq_true rfl) ⟨rfl, rfl⟩
noncomputable def FX7_readWeight (a : Int32) (b : Int32) (σ : St) : Option ((Int32) × St) :=
  (bnd (FX7_isSign (61 : Int32) σ) (fun v1 t2 => (if v1 = (0 : Int32) then (bnd (FX5_setWeight 6 a b (1 : Int32) t2) (fun v5 t6 => (some ((1 : Int32), t6)))) else (bnd (FX7_step  t2) (fun v9 t10 => (bnd (FX7_isNumberFrom (1 : Int32) (9 : Int32) t10) (fun v12 t13 => (if v12 = (0 : Int32) then (some ((0 : Int32), t13)) else (rdb t13 5 (7) (fun v16 => (bnd (FX7_step  t13) (fun v18 t19 => (bnd (FX5_setWeight 6 a b v16 t19) (fun v21 t22 => (some ((1 : Int32), t22))))))))))))))))
set_option maxHeartbeats 4000000 in
set_option maxRecDepth 100000 in
theorem KX7_readWeight (G : xG) (Gb : xMem) (a : Int32) (b : Int32) (σ : St) (r0 : Int32) (t0 : St) (hq : FX7_readWeight a b σ = some (r0, t0)) : xC G mX7_readWeight 2 0 0 [.ref 5, .int a, .int b] (mem σ Gb) (PQ r0 t0 Gb) := by
  unfold FX7_readWeight at hq
  refine xC.of (by decide) (Nat.le_of_ble_eq_true rfl) ?_
  show xW _ _ _ _ 0 [(0, .ref 5), (1, .int a), (2, .int b)] [] _ 0 0
  refine xi_iconst (v := 1) dX7_readWeight_0 (by decide) ?_
  refine xi_istore_n (lv' := [(3, .int 1), (0, .ref 5), (1, .int a), (2, .int b)]) dX7_readWeight_1 (by decide) rfl ?_
  refine xi_aload_n 1 dX7_readWeight_2 rfl ?_
  refine xi_bipush (v := 61) dX7_readWeight_3 (by decide) ?_
  obtain ⟨v1, t2, k3, hq⟩ := bnd_some hq
  refine xi_callV (as := [.int 61]) (rest := []) dX7_readWeight_5 (KX7_isSign G Gb (61 : Int32) _ _ _ k3) mkX7_isSign w_400 ws_6 w_398 (mem_get sh_5) rfl rfl rfl rfl (Nat.le_of_ble_eq_true rfl) (Nat.le_of_ble_eq_true rfl) (Nat.le_of_ble_eq_true rfl) (Nat.le_of_ble_eq_true rfl) (Nat.le_of_ble_eq_true rfl) ?_
  intro v M2 hz
  obtain ⟨rfl, rfl⟩ := hz
  show xW _ _ _ _ 8 _ [.int v1] (mem t2 Gb) _ _
  refine xi_if_eq (tgt := 36) dX7_readWeight_8 (by decide) (fun c4 => ?_) (fun c4 => ?_)
  · replace hq := ite_p c4 hq
    refine xi_aload_n 1 dX7_readWeight_36 rfl ?_
    refine yi_getR (f := 0) dX7_readWeight_37 sh_5 rfl ok_6 (by decide) w_96 rfl ?_
    refine xi_iload_n 2 dX7_readWeight_40 rfl ?_
    refine xi_iload_n 3 dX7_readWeight_41 rfl ?_
    refine xi_iload_n 0 dX7_readWeight_42 rfl ?_
    obtain ⟨v5, t6, k7, hq⟩ := bnd_some hq
    refine xi_callV (as := [.int a, .int b, .int 1]) (rest := []) dX7_readWeight_43 (KX5_setWeight G Gb 6 a b (1 : Int32) _ _ _ k7) mkX5_setWeight w_423 w_424 w_422 (mem_get sh_6) rfl rfl rfl rfl (Nat.le_of_ble_eq_true rfl) (Nat.le_of_ble_eq_true rfl) (Nat.le_of_ble_eq_true rfl) (Nat.le_of_ble_eq_true rfl) (Nat.le_of_ble_eq_true rfl) ?_
    intro v M2 hz
    obtain ⟨rfl, rfl⟩ := hz
    show xW _ _ _ _ 46 _ [] (mem t6 Gb) _ _
    refine xi_iconst (v := 1) dX7_readWeight_46 (by decide) ?_
    have r8 := some_pair hq
    obtain ⟨rfl, rfl⟩ := r8
    exact xi_iret dX7_readWeight_47 rfl (by decide) (Nat.le_of_ble_eq_true rfl) (Nat.le_of_ble_eq_true rfl) ⟨rfl, rfl⟩
  · replace hq := ite_n c4 hq
    refine xi_aload_n 1 dX7_readWeight_11 rfl ?_
    obtain ⟨v9, t10, k11, hq⟩ := bnd_some hq
    refine xi_callV (as := []) (rest := []) dX7_readWeight_12 (KX7_step G Gb  _ _ _ k11) mkX7_step w_307 ws_0 w_305 (mem_get sh_5) rfl rfl rfl rfl (Nat.le_of_ble_eq_true rfl) (Nat.le_of_ble_eq_true rfl) (Nat.le_of_ble_eq_true rfl) (Nat.le_of_ble_eq_true rfl) (Nat.le_of_ble_eq_true rfl) ?_
    intro v M2 hz
    obtain ⟨rfl, rfl⟩ := hz
    show xW _ _ _ _ 15 _ [] (mem t10 Gb) _ _
    refine xi_aload_n 1 dX7_readWeight_15 rfl ?_
    refine xi_iconst (v := 1) dX7_readWeight_16 (by decide) ?_
    refine xi_bipush (v := 9) dX7_readWeight_17 (by decide) ?_
    obtain ⟨v12, t13, k14, hq⟩ := bnd_some hq
    refine xi_callV (as := [.int 1, .int 9]) (rest := []) dX7_readWeight_19 (KX7_isNumberFrom G Gb (1 : Int32) (9 : Int32) _ _ _ k14) mkX7_isNumberFrom w_382 ws_4 w_380 (mem_get sh_5) rfl rfl rfl rfl (Nat.le_of_ble_eq_true rfl) (Nat.le_of_ble_eq_true rfl) (Nat.le_of_ble_eq_true rfl) (Nat.le_of_ble_eq_true rfl) (Nat.le_of_ble_eq_true rfl) ?_
    intro v M2 hz
    obtain ⟨rfl, rfl⟩ := hz
    show xW _ _ _ _ 22 _ [.int v12] (mem t13 Gb) _ _
    refine xi_if_ne (tgt := 27) dX7_readWeight_22 (by decide) (fun c15 => ?_) (fun c15 => ?_)
    · replace hq := ite_n c15 hq
      refine xi_aload_n 1 dX7_readWeight_27 rfl ?_
      obtain ⟨v16, h17, hq⟩ := rdb_some hq
      refine yi_getV (f := 7) dX7_readWeight_28 sh_5 rfl ok_6 (by decide) w_106 rfl h17 ?_
      refine xi_istore_n (lv' := [(3, .int v16), (0, .ref 5), (1, .int a), (2, .int b)]) dX7_readWeight_31 (by decide) rfl ?_
      refine xi_aload_n 1 dX7_readWeight_32 rfl ?_
      obtain ⟨v18, t19, k20, hq⟩ := bnd_some hq
      refine xi_callV (as := []) (rest := []) dX7_readWeight_33 (KX7_step G Gb  _ _ _ k20) mkX7_step w_307 ws_0 w_305 (mem_get sh_5) rfl rfl rfl rfl (Nat.le_of_ble_eq_true rfl) (Nat.le_of_ble_eq_true rfl) (Nat.le_of_ble_eq_true rfl) (Nat.le_of_ble_eq_true rfl) (Nat.le_of_ble_eq_true rfl) ?_
      intro v M2 hz
      obtain ⟨rfl, rfl⟩ := hz
      show xW _ _ _ _ 36 _ [] (mem t19 Gb) _ _
      refine xi_aload_n 1 dX7_readWeight_36 rfl ?_
      refine yi_getR (f := 0) dX7_readWeight_37 sh_5 rfl ok_6 (by decide) w_96 rfl ?_
      refine xi_iload_n 2 dX7_readWeight_40 rfl ?_
      refine xi_iload_n 3 dX7_readWeight_41 rfl ?_
      refine xi_iload_n 0 dX7_readWeight_42 rfl ?_
      obtain ⟨v21, t22, k23, hq⟩ := bnd_some hq
      refine xi_callV (as := [.int a, .int b, .int v16]) (rest := []) dX7_readWeight_43 (KX5_setWeight G Gb 6 a b v16 _ _ _ k23) mkX5_setWeight w_423 w_424 w_422 (mem_get sh_6) rfl rfl rfl rfl (Nat.le_of_ble_eq_true rfl) (Nat.le_of_ble_eq_true rfl) (Nat.le_of_ble_eq_true rfl) (Nat.le_of_ble_eq_true rfl) (Nat.le_of_ble_eq_true rfl) ?_
      intro v M2 hz
      obtain ⟨rfl, rfl⟩ := hz
      show xW _ _ _ _ 46 _ [] (mem t22 Gb) _ _
      refine xi_iconst (v := 1) dX7_readWeight_46 (by decide) ?_
      have r24 := some_pair hq
      obtain ⟨rfl, rfl⟩ := r24
      exact xi_iret dX7_readWeight_47 rfl (by decide) (Nat.le_of_ble_eq_true rfl) (Nat.le_of_ble_eq_true rfl) ⟨rfl, rfl⟩
    · replace hq := ite_p c15 hq
      refine xi_iconst (v := 0) dX7_readWeight_25 (by decide) ?_
      have r25 := some_pair hq
      obtain ⟨rfl, rfl⟩ := r25
      exact xi_iret dX7_readWeight_26 rfl (by decide) (Nat.le_of_ble_eq_true rfl) (Nat.le_of_ble_eq_true rfl) ⟨rfl, rfl⟩
noncomputable def FX7_takeSign (a : Int32) (σ : St) : Option ((Int32) × St) :=
  (bnd (FX7_isSign a σ) (fun v1 t2 => (if v1 = (0 : Int32) then (bnd (FX7_blame (1 : Int32) t2) (fun v9 t10 => (chk (isb v9) (some (v9, t10))))) else (bnd (FX7_step  t2) (fun v5 t6 => (some ((1 : Int32), t6)))))))
set_option maxHeartbeats 4000000 in
set_option maxRecDepth 100000 in
theorem KX7_takeSign (G : xG) (Gb : xMem) (a : Int32) (σ : St) (r0 : Int32) (t0 : St) (hq : FX7_takeSign a σ = some (r0, t0)) : xC G mX7_takeSign 2 0 0 [.ref 5, .int a] (mem σ Gb) (PQ r0 t0 Gb) := by
  unfold FX7_takeSign at hq
  refine xC.of (by decide) (Nat.le_of_ble_eq_true rfl) ?_
  show xW _ _ _ _ 0 [(0, .ref 5), (1, .int a)] [] _ 0 0
  refine xi_aload_n 0 dX7_takeSign_0 rfl ?_
  refine xi_iload_n 1 dX7_takeSign_1 rfl ?_
  obtain ⟨v1, t2, k3, hq⟩ := bnd_some hq
  refine xi_callV (as := [.int a]) (rest := []) dX7_takeSign_2 (KX7_isSign G Gb a _ _ _ k3) mkX7_isSign w_400 ws_6 w_398 (mem_get sh_5) rfl rfl rfl rfl (Nat.le_of_ble_eq_true rfl) (Nat.le_of_ble_eq_true rfl) (Nat.le_of_ble_eq_true rfl) (Nat.le_of_ble_eq_true rfl) (Nat.le_of_ble_eq_true rfl) ?_
  intro v M2 hz
  obtain ⟨rfl, rfl⟩ := hz
  show xW _ _ _ _ 5 _ [.int v1] (mem t2 Gb) _ _
  refine xi_if_ne (tgt := 14) dX7_takeSign_5 (by decide) (fun c4 => ?_) (fun c4 => ?_)
  · replace hq := ite_n c4 hq
    refine xi_aload_n 0 dX7_takeSign_14 rfl ?_
    obtain ⟨v5, t6, k7, hq⟩ := bnd_some hq
    refine xi_callV (as := []) (rest := []) dX7_takeSign_15 (KX7_step G Gb  _ _ _ k7) mkX7_step w_307 ws_0 w_305 (mem_get sh_5) rfl rfl rfl rfl (Nat.le_of_ble_eq_true rfl) (Nat.le_of_ble_eq_true rfl) (Nat.le_of_ble_eq_true rfl) (Nat.le_of_ble_eq_true rfl) (Nat.le_of_ble_eq_true rfl) ?_
    intro v M2 hz
    obtain ⟨rfl, rfl⟩ := hz
    show xW _ _ _ _ 18 _ [] (mem t6 Gb) _ _
    refine xi_iconst (v := 1) dX7_takeSign_18 (by decide) ?_
    have r8 := some_pair hq
    obtain ⟨rfl, rfl⟩ := r8
    exact xi_iret dX7_takeSign_19 rfl (by decide) (Nat.le_of_ble_eq_true rfl) (Nat.le_of_ble_eq_true rfl) ⟨rfl, rfl⟩
  · replace hq := ite_p c4 hq
    refine xi_aload_n 0 dX7_takeSign_8 rfl ?_
    refine xi_iconst (v := 1) dX7_takeSign_9 (by decide) ?_
    obtain ⟨v9, t10, k11, hq⟩ := bnd_some hq
    refine xi_callV (as := [.int 1]) (rest := []) dX7_takeSign_10 (KX7_blame G Gb (1 : Int32) _ _ _ k11) mkX7_blame w_378 ws_3 w_376 (mem_get sh_5) rfl rfl rfl rfl (Nat.le_of_ble_eq_true rfl) (Nat.le_of_ble_eq_true rfl) (Nat.le_of_ble_eq_true rfl) (Nat.le_of_ble_eq_true rfl) (Nat.le_of_ble_eq_true rfl) ?_
    intro v M2 hz
    obtain ⟨rfl, rfl⟩ := hz
    show xW _ _ _ _ 13 _ [.int v9] (mem t10 Gb) _ _
    obtain ⟨g12, hq⟩ := chk_some hq
    have r13 := some_pair hq
    obtain ⟨rfl, rfl⟩ := r13
    exact xi_iret dX7_takeSign_13 rfl (isb_n g12) (Nat.le_of_ble_eq_true rfl) (Nat.le_of_ble_eq_true rfl) ⟨rfl, rfl⟩
noncomputable def FX7_readLine (σ : St) : Option ((Int32) × St) :=
  (bnd (FX7_isPoint  σ) (fun v1 t2 => (if v1 = (0 : Int32) then (some ((0 : Int32), t2)) else (rdb t2 6 (1) (fun v5 => (if v5 < (30 : Int32) then (rdb t2 5 (7) (fun v8 => (bnd (FX7_step  t2) (fun v10 t11 => (bnd (FX7_takeSign (45 : Int32) t11) (fun v13 t14 => (if v13 = (0 : Int32) then (some ((0 : Int32), t14)) else (bnd (FX7_isPoint  t14) (fun v18 t19 => (if v18 = (0 : Int32) then (some ((0 : Int32), t19)) else (rdb t19 5 (7) (fun v22 => (if v8 = v22 then (bnd (FX7_blame (2 : Int32) t19) (fun v42 t43 => (chk (isb v42) (some (v42, t43))))) else (bnd (FX5_weightOf 6 v8 v22 t19) (fun v25 t26 => (if v25 ≤ (0 : Int32) then (bnd (FX7_step  t26) (fun v29 t30 => (bnd (FX7_readWeight v8 v22 t30) (fun v32 t33 => (chk (isb v32) (some (v32, t33))))))) else (bnd (FX7_blame (3 : Int32) t26) (fun v37 t38 => (chk (isb v37) (some (v37, t38))))))))))))))))))))) else (bnd (FX7_blame (4 : Int32) t2) (fun v48 t49 => (chk (isb v48) (some (v48, t49)))))))))))
set_option maxHeartbeats 4000000 in
set_option maxRecDepth 100000 in
theorem KX7_readLine (G : xG) (Gb : xMem) (σ : St) (r0 : Int32) (t0 : St) (hq : FX7_readLine σ = some (r0, t0)) : xC G mX7_readLine 3 0 0 [.ref 5] (mem σ Gb) (PQ r0 t0 Gb) := by
  unfold FX7_readLine at hq
  refine xC.of (by decide) (Nat.le_of_ble_eq_true rfl) ?_
  show xW _ _ _ _ 0 [(0, .ref 5)] [] _ 0 0
  refine xi_aload_n 0 dX7_readLine_0 rfl ?_
  obtain ⟨v1, t2, k3, hq⟩ := bnd_some hq
  refine xi_callV (as := []) (rest := []) dX7_readLine_1 (KX7_isPoint G Gb  _ _ _ k3) mkX7_isPoint w_408 ws_8 w_406 (mem_get sh_5) rfl rfl rfl rfl (Nat.le_of_ble_eq_true rfl) (Nat.le_of_ble_eq_true rfl) (Nat.le_of_ble_eq_true rfl) (Nat.le_of_ble_eq_true rfl) (Nat.le_of_ble_eq_true rfl) ?_
  intro v M2 hz
  obtain ⟨rfl, rfl⟩ := hz
  show xW _ _ _ _ 4 _ [.int v1] (mem t2 Gb) _ _
  refine xi_if_ne (tgt := 9) dX7_readLine_4 (by decide) (fun c4 => ?_) (fun c4 => ?_)
  · replace hq := ite_n c4 hq
    refine xi_aload_n 0 dX7_readLine_9 rfl ?_
    refine yi_getR (f := 0) dX7_readLine_10 sh_5 rfl ok_6 (by decide) w_96 rfl ?_
    obtain ⟨v5, h6, hq⟩ := rdb_some hq
    refine yi_getV (f := 1) dX7_readLine_13 sh_6 rfl ok_5 (by decide) w_71 rfl h6 ?_
    refine xi_bipush (v := 30) dX7_readLine_16 (by decide) ?_
    refine xi_icmp_lt (tgt := 27) dX7_readLine_18 (by decide) (fun c7 => ?_) (fun c7 => ?_)
    · replace hq := ite_p c7 hq
      refine xi_aload_n 0 dX7_readLine_27 rfl ?_
      obtain ⟨v8, h9, hq⟩ := rdb_some hq
      refine yi_getV (f := 7) dX7_readLine_28 sh_5 rfl ok_6 (by decide) w_106 rfl h9 ?_
      refine xi_istore_n (lv' := [(1, .int v8), (0, .ref 5)]) dX7_readLine_31 (by decide) rfl ?_
      refine xi_aload_n 1 dX7_readLine_32 rfl ?_
      obtain ⟨v10, t11, k12, hq⟩ := bnd_some hq
      refine xi_callV (as := []) (rest := []) dX7_readLine_33 (KX7_step G Gb  _ _ _ k12) mkX7_step w_307 ws_0 w_305 (mem_get sh_5) rfl rfl rfl rfl (Nat.le_of_ble_eq_true rfl) (Nat.le_of_ble_eq_true rfl) (Nat.le_of_ble_eq_true rfl) (Nat.le_of_ble_eq_true rfl) (Nat.le_of_ble_eq_true rfl) ?_
      intro v M2 hz
      obtain ⟨rfl, rfl⟩ := hz
      show xW _ _ _ _ 36 _ [] (mem t11 Gb) _ _
      refine xi_aload_n 1 dX7_readLine_36 rfl ?_
      refine xi_bipush (v := 45) dX7_readLine_37 (by decide) ?_
      obtain ⟨v13, t14, k15, hq⟩ := bnd_some hq
      refine xi_callV (as := [.int 45]) (rest := []) dX7_readLine_39 (KX7_takeSign G Gb (45 : Int32) _ _ _ k15) mkX7_takeSign w_412 ws_9 w_410 (mem_get sh_5) rfl rfl rfl rfl (Nat.le_of_ble_eq_true rfl) (Nat.le_of_ble_eq_true rfl) (Nat.le_of_ble_eq_true rfl) (Nat.le_of_ble_eq_true rfl) (Nat.le_of_ble_eq_true rfl) ?_
      intro v M2 hz
      obtain ⟨rfl, rfl⟩ := hz
      show xW _ _ _ _ 42 _ [.int v13] (mem t14 Gb) _ _
      refine xi_if_eq (tgt := 52) dX7_readLine_42 (by decide) (fun c16 => ?_) (fun c16 => ?_)
      · replace hq := ite_p c16 hq
        refine xi_iconst (v := 0) dX7_readLine_52 (by decide) ?_
        have r17 := some_pair hq
        obtain ⟨rfl, rfl⟩ := r17
        exact xi_iret dX7_readLine_53 rfl (by decide) (Nat.le_of_ble_eq_true rfl) (Nat.le_of_ble_eq_true rfl) ⟨rfl, rfl⟩
      · replace hq := ite_n c16 hq
        refine xi_aload_n 1 dX7_readLine_45 rfl ?_
        obtain ⟨v18, t19, k20, hq⟩ := bnd_some hq
        refine xi_callV (as := []) (rest := []) dX7_readLine_46 (KX7_isPoint G Gb  _ _ _ k20) mkX7_isPoint w_408 ws_8 w_406 (mem_get sh_5) rfl rfl rfl rfl (Nat.le_of_ble_eq_true rfl) (Nat.le_of_ble_eq_true rfl) (Nat.le_of_ble_eq_true rfl) (Nat.le_of_ble_eq_true rfl) (Nat.le_of_ble_eq_true rfl) ?_
        intro v M2 hz
        obtain ⟨rfl, rfl⟩ := hz
        show xW _ _ _ _ 49 _ [.int v18] (mem t19 Gb) _ _
        refine xi_if_ne (tgt := 54) dX7_readLine_49 (by decide) (fun c21 => ?_) (fun c21 => ?_)
        · replace hq := ite_n c21 hq
          refine xi_aload_n 1 dX7_readLine_54 rfl ?_
          obtain ⟨v22, h23, hq⟩ := rdb_some hq
          refine yi_getV (f := 7) dX7_readLine_55 sh_5 rfl ok_6 (by decide) w_106 rfl h23 ?_
          refine xi_istore_n (lv' := [(2, .int v22), (1, .int v8), (0, .ref 5)]) dX7_readLine_58 (by decide) rfl ?_
          refine xi_iload_n 1 dX7_readLine_59 rfl ?_
          refine xi_iload_n 0 dX7_readLine_60 rfl ?_
          refine xi_icmp_ne (tgt := 70) dX7_readLine_61 (by decide) (fun c24 => ?_) (fun c24 => ?_)
          · replace hq := ite_n c24 hq
            refine xi_aload_n 2 dX7_readLine_70 rfl ?_
            refine yi_getR (f := 0) dX7_readLine_71 sh_5 rfl ok_6 (by decide) w_96 rfl ?_
            refine xi_iload_n 1 dX7_readLine_74 rfl ?_
            refine xi_iload_n 0 dX7_readLine_75 rfl ?_
            obtain ⟨v25, t26, k27, hq⟩ := bnd_some hq
            refine xi_callV (as := [.int v8, .int v22]) (rest := []) dX7_readLine_76 (KX5_weightOf G Gb 6 v8 v22 _ _ _ k27) mkX5_weightOf w_415 w_416 w_414 (mem_get sh_6) rfl rfl rfl rfl (Nat.le_of_ble_eq_true rfl) (Nat.le_of_ble_eq_true rfl) (Nat.le_of_ble_eq_true rfl) (Nat.le_of_ble_eq_true rfl) (Nat.le_of_ble_eq_true rfl) ?_
            intro v M2 hz
            obtain ⟨rfl, rfl⟩ := hz
            show xW _ _ _ _ 79 _ [.int v25] (mem t26 Gb) _ _
            refine xi_if_le (tgt := 88) dX7_readLine_79 (by decide) (fun c28 => ?_) (fun c28 => ?_)
            · replace hq := ite_p c28 hq
              refine xi_aload_n 2 dX7_readLine_88 rfl ?_
              obtain ⟨v29, t30, k31, hq⟩ := bnd_some hq
              refine xi_callV (as := []) (rest := []) dX7_readLine_89 (KX7_step G Gb  _ _ _ k31) mkX7_step w_307 ws_0 w_305 (mem_get sh_5) rfl rfl rfl rfl (Nat.le_of_ble_eq_true rfl) (Nat.le_of_ble_eq_true rfl) (Nat.le_of_ble_eq_true rfl) (Nat.le_of_ble_eq_true rfl) (Nat.le_of_ble_eq_true rfl) ?_
              intro v M2 hz
              obtain ⟨rfl, rfl⟩ := hz
              show xW _ _ _ _ 92 _ [] (mem t30 Gb) _ _
              refine xi_aload_n 2 dX7_readLine_92 rfl ?_
              refine xi_iload_n 1 dX7_readLine_93 rfl ?_
              refine xi_iload_n 0 dX7_readLine_94 rfl ?_
              obtain ⟨v32, t33, k34, hq⟩ := bnd_some hq
              refine xi_callV (as := [.int v8, .int v22]) (rest := []) dX7_readLine_95 (KX7_readWeight G Gb v8 v22 _ _ _ k34) mkX7_readWeight w_420 ws_10 w_418 (mem_get sh_5) rfl rfl rfl rfl (Nat.le_of_ble_eq_true rfl) (Nat.le_of_ble_eq_true rfl) (Nat.le_of_ble_eq_true rfl) (Nat.le_of_ble_eq_true rfl) (Nat.le_of_ble_eq_true rfl) ?_
              intro v M2 hz
              obtain ⟨rfl, rfl⟩ := hz
              show xW _ _ _ _ 98 _ [.int v32] (mem t33 Gb) _ _
              obtain ⟨g35, hq⟩ := chk_some hq
              have r36 := some_pair hq
              obtain ⟨rfl, rfl⟩ := r36
              exact xi_iret dX7_readLine_98 rfl (isb_n g35) (Nat.le_of_ble_eq_true rfl) (Nat.le_of_ble_eq_true rfl) ⟨rfl, rfl⟩
            · replace hq := ite_n c28 hq
              refine xi_aload_n 2 dX7_readLine_82 rfl ?_
              refine xi_iconst (v := 3) dX7_readLine_83 (by decide) ?_
              obtain ⟨v37, t38, k39, hq⟩ := bnd_some hq
              refine xi_callV (as := [.int 3]) (rest := []) dX7_readLine_84 (KX7_blame G Gb (3 : Int32) _ _ _ k39) mkX7_blame w_378 ws_3 w_376 (mem_get sh_5) rfl rfl rfl rfl (Nat.le_of_ble_eq_true rfl) (Nat.le_of_ble_eq_true rfl) (Nat.le_of_ble_eq_true rfl) (Nat.le_of_ble_eq_true rfl) (Nat.le_of_ble_eq_true rfl) ?_
              intro v M2 hz
              obtain ⟨rfl, rfl⟩ := hz
              show xW _ _ _ _ 87 _ [.int v37] (mem t38 Gb) _ _
              obtain ⟨g40, hq⟩ := chk_some hq
              have r41 := some_pair hq
              obtain ⟨rfl, rfl⟩ := r41
              exact xi_iret dX7_readLine_87 rfl (isb_n g40) (Nat.le_of_ble_eq_true rfl) (Nat.le_of_ble_eq_true rfl) ⟨rfl, rfl⟩
          · replace hq := ite_p c24 hq
            refine xi_aload_n 2 dX7_readLine_64 rfl ?_
            refine xi_iconst (v := 2) dX7_readLine_65 (by decide) ?_
            obtain ⟨v42, t43, k44, hq⟩ := bnd_some hq
            refine xi_callV (as := [.int 2]) (rest := []) dX7_readLine_66 (KX7_blame G Gb (2 : Int32) _ _ _ k44) mkX7_blame w_378 ws_3 w_376 (mem_get sh_5) rfl rfl rfl rfl (Nat.le_of_ble_eq_true rfl) (Nat.le_of_ble_eq_true rfl) (Nat.le_of_ble_eq_true rfl) (Nat.le_of_ble_eq_true rfl) (Nat.le_of_ble_eq_true rfl) ?_
            intro v M2 hz
            obtain ⟨rfl, rfl⟩ := hz
            show xW _ _ _ _ 69 _ [.int v42] (mem t43 Gb) _ _
            obtain ⟨g45, hq⟩ := chk_some hq
            have r46 := some_pair hq
            obtain ⟨rfl, rfl⟩ := r46
            exact xi_iret dX7_readLine_69 rfl (isb_n g45) (Nat.le_of_ble_eq_true rfl) (Nat.le_of_ble_eq_true rfl) ⟨rfl, rfl⟩
        · replace hq := ite_p c21 hq
          refine xi_iconst (v := 0) dX7_readLine_52 (by decide) ?_
          have r47 := some_pair hq
          obtain ⟨rfl, rfl⟩ := r47
          exact xi_iret dX7_readLine_53 rfl (by decide) (Nat.le_of_ble_eq_true rfl) (Nat.le_of_ble_eq_true rfl) ⟨rfl, rfl⟩
    · replace hq := ite_n c7 hq
      refine xi_aload_n 0 dX7_readLine_21 rfl ?_
      refine xi_iconst (v := 4) dX7_readLine_22 (by decide) ?_
      obtain ⟨v48, t49, k50, hq⟩ := bnd_some hq
      refine xi_callV (as := [.int 4]) (rest := []) dX7_readLine_23 (KX7_blame G Gb (4 : Int32) _ _ _ k50) mkX7_blame w_378 ws_3 w_376 (mem_get sh_5) rfl rfl rfl rfl (Nat.le_of_ble_eq_true rfl) (Nat.le_of_ble_eq_true rfl) (Nat.le_of_ble_eq_true rfl) (Nat.le_of_ble_eq_true rfl) (Nat.le_of_ble_eq_true rfl) ?_
      intro v M2 hz
      obtain ⟨rfl, rfl⟩ := hz
      show xW _ _ _ _ 26 _ [.int v48] (mem t49 Gb) _ _
      obtain ⟨g51, hq⟩ := chk_some hq
      have r52 := some_pair hq
      obtain ⟨rfl, rfl⟩ := r52
      exact xi_iret dX7_readLine_26 rfl (isb_n g51) (Nat.le_of_ble_eq_true rfl) (Nat.le_of_ble_eq_true rfl) ⟨rfl, rfl⟩
  · replace hq := ite_p c4 hq
    refine xi_iconst (v := 0) dX7_readLine_7 (by decide) ?_
    have r53 := some_pair hq
    obtain ⟨rfl, rfl⟩ := r53
    exact xi_iret dX7_readLine_8 rfl (by decide) (Nat.le_of_ble_eq_true rfl) (Nat.le_of_ble_eq_true rfl) ⟨rfl, rfl⟩
noncomputable def SX7_readLines_9 (c : Int32 × Int32) (σ : St) : Option (((Int32 × Int32) ⊕ ((Int32) ⊕ (Unit))) × St) :=
  (if c.1 = (0 : Int32) then (some (Sum.inr (Sum.inr ()), σ)) else (if (30 : Int32) < c.2 then (some (Sum.inr (Sum.inr ()), σ)) else (bnd (FX7_step  σ) (fun v6 t7 => (bnd (FX7_readLine  t7) (fun v9 t10 => (if v9 = (0 : Int32) then (some (Sum.inr (Sum.inl (0 : Int32)), t10)) else (bnd (FX7_isSign (44 : Int32) t10) (fun v13 t14 => (some (Sum.inl (v13, (c.2 + 1)), t14)))))))))))
set_option maxHeartbeats 4000000 in
set_option maxRecDepth 100000 in
theorem SX7_readLines_9_w (G : xG) (Gb : xMem) (r0 : Int32) (t0 : St) :
    ∀ (k : Nat) (c : Int32 × Int32) (σ : St) (r : (Int32) ⊕ (Unit)) (σ' : St), itr (SX7_readLines_9) k c σ = some (r, σ') → (Sum.elim (fun v => v = r0 ∧ σ' = t0) (fun e => xW G mX7_readLines (xrm 4 0 0) (xQ G (PQ r0 t0 Gb) 0 0) 45 [(0, .ref 5)] [] (mem σ' Gb) 0 0) r) → xW G mX7_readLines (xrm 4 0 0) (xQ G (PQ r0 t0 Gb) 0 0) 9 [(0, .ref 5), (1, .int c.1), (2, .int c.2)] [] (mem σ Gb) 0 0 := by
  intro k
  induction k with
  | zero =>
    intro c σ r σ' h
    exact absurd h (itr_zero _ _ _ _)
  | succ k ih =>
    intro c σ r σ' h HE
    obtain ⟨x, s1, hs, h⟩ := itr_succ h
    unfold SX7_readLines_9 at hs
    refine xi_iload_n 1 dX7_readLines_9 rfl ?_
    refine xi_if_eq (tgt := 45) dX7_readLines_10 (by decide) (fun c4 => ?_) (fun c4 => ?_)
    · replace hs := ite_p c4 hs
      refine xi_sub (lv' := [(0, .ref 5)]) [0] rfl ?_
      obtain ⟨rfl, rfl⟩ := some_pair hs
      obtain ⟨rfl, rfl⟩ := some_pair h
      exact HE
    · replace hs := ite_n c4 hs
      refine xi_iload_n 2 dX7_readLines_13 rfl ?_
      refine xi_bipush (v := 30) dX7_readLines_14 (by decide) ?_
      refine xi_icmp_gt (tgt := 45) dX7_readLines_16 (by decide) (fun c5 => ?_) (fun c5 => ?_)
      · replace hs := ite_p c5 hs
        refine xi_sub (lv' := [(0, .ref 5)]) [0] rfl ?_
        obtain ⟨rfl, rfl⟩ := some_pair hs
        obtain ⟨rfl, rfl⟩ := some_pair h
        exact HE
      · replace hs := ite_n c5 hs
        refine xi_aload_n 0 dX7_readLines_19 rfl ?_
        obtain ⟨v6, t7, k8, hs⟩ := bnd_some hs
        refine xi_callV (as := []) (rest := []) dX7_readLines_20 (KX7_step G Gb  _ _ _ k8) mkX7_step w_307 ws_0 w_305 (mem_get sh_5) rfl rfl rfl rfl (Nat.le_of_ble_eq_true rfl) (Nat.le_of_ble_eq_true rfl) (Nat.le_of_ble_eq_true rfl) (Nat.le_of_ble_eq_true rfl) (Nat.le_of_ble_eq_true rfl) ?_
        intro v M2 hz
        obtain ⟨rfl, rfl⟩ := hz
        show xW _ _ _ _ 23 _ [] (mem t7 Gb) _ _
        refine xi_aload_n 0 dX7_readLines_23 rfl ?_
        obtain ⟨v9, t10, k11, hs⟩ := bnd_some hs
        refine xi_callV (as := []) (rest := []) dX7_readLines_24 (KX7_readLine G Gb  _ _ _ k11) mkX7_readLine w_404 ws_7 w_402 (mem_get sh_5) rfl rfl rfl rfl (Nat.le_of_ble_eq_true rfl) (Nat.le_of_ble_eq_true rfl) (Nat.le_of_ble_eq_true rfl) (Nat.le_of_ble_eq_true rfl) (Nat.le_of_ble_eq_true rfl) ?_
        intro v M2 hz
        obtain ⟨rfl, rfl⟩ := hz
        show xW _ _ _ _ 27 _ [.int v9] (mem t10 Gb) _ _
        refine xi_if_ne (tgt := 32) dX7_readLines_27 (by decide) (fun c12 => ?_) (fun c12 => ?_)
        · replace hs := ite_n c12 hs
          refine xi_aload_n 0 dX7_readLines_32 rfl ?_
          refine xi_bipush (v := 44) dX7_readLines_33 (by decide) ?_
          obtain ⟨v13, t14, k15, hs⟩ := bnd_some hs
          refine xi_callV (as := [.int 44]) (rest := []) dX7_readLines_35 (KX7_isSign G Gb (44 : Int32) _ _ _ k15) mkX7_isSign w_400 ws_6 w_398 (mem_get sh_5) rfl rfl rfl rfl (Nat.le_of_ble_eq_true rfl) (Nat.le_of_ble_eq_true rfl) (Nat.le_of_ble_eq_true rfl) (Nat.le_of_ble_eq_true rfl) (Nat.le_of_ble_eq_true rfl) ?_
          intro v M2 hz
          obtain ⟨rfl, rfl⟩ := hz
          show xW _ _ _ _ 38 _ [.int v13] (mem t14 Gb) _ _
          refine xi_istore_n (lv' := [(1, .int v13), (0, .ref 5), (2, .int c.2)]) dX7_readLines_38 (by decide) rfl ?_
          refine xi_iinc (v := (c.2 + 1)) (lv' := [(2, .int (c.2 + 1)), (1, .int v13), (0, .ref 5)]) 2 dX7_readLines_39 rfl rfl (by decide) rfl ?_
          refine xi_goto (tgt := 9) dX7_readLines_42 (by decide) ?_
          refine xi_sub (lv' := [(0, .ref 5), (1, .int v13), (2, .int (c.2 + 1))]) [2, 1, 0] rfl ?_
          obtain ⟨rfl, rfl⟩ := some_pair hs
          exact ih (v13, (c.2 + 1)) t14 _ _ h HE
        · replace hs := ite_p c12 hs
          refine xi_iconst (v := 0) dX7_readLines_30 (by decide) ?_
          obtain ⟨rfl, rfl⟩ := some_pair hs
          obtain ⟨rfl, rfl⟩ := some_pair h
          have r16 := HE
          obtain ⟨rfl, rfl⟩ := r16
          exact xi_iret dX7_readLines_31 rfl (by decide) (Nat.le_of_ble_eq_true rfl) (Nat.le_of_ble_eq_true rfl) ⟨rfl, rfl⟩
noncomputable def FX7_readLines (σ : St) : Option ((Int32) × St) :=
  (bnd (FX7_isSign (58 : Int32) σ) (fun v1 t2 => (bnd (wh (SX7_readLines_9) (v1, (0 : Int32)) t2) (fun e17 t18 => Sum.elim (fun e17 => (some (e17, t18))) (fun e17 => (bnd (FX7_takeSign (59 : Int32) t18) (fun v22 t23 => (chk (isb v22) (some (v22, t23)))))) e17))))
set_option maxHeartbeats 4000000 in
set_option maxRecDepth 100000 in
theorem KX7_readLines (G : xG) (Gb : xMem) (σ : St) (r0 : Int32) (t0 : St) (hq : FX7_readLines σ = some (r0, t0)) : xC G mX7_readLines 4 0 0 [.ref 5] (mem σ Gb) (PQ r0 t0 Gb) := by
  unfold FX7_readLines at hq
  refine xC.of (by decide) (Nat.le_of_ble_eq_true rfl) ?_
  show xW _ _ _ _ 0 [(0, .ref 5)] [] _ 0 0
  refine xi_aload_n 0 dX7_readLines_0 rfl ?_
  refine xi_bipush (v := 58) dX7_readLines_1 (by decide) ?_
  obtain ⟨v1, t2, k3, hq⟩ := bnd_some hq
  refine xi_callV (as := [.int 58]) (rest := []) dX7_readLines_3 (KX7_isSign G Gb (58 : Int32) _ _ _ k3) mkX7_isSign w_400 ws_6 w_398 (mem_get sh_5) rfl rfl rfl rfl (Nat.le_of_ble_eq_true rfl) (Nat.le_of_ble_eq_true rfl) (Nat.le_of_ble_eq_true rfl) (Nat.le_of_ble_eq_true rfl) (Nat.le_of_ble_eq_true rfl) ?_
  intro v M2 hz
  obtain ⟨rfl, rfl⟩ := hz
  show xW _ _ _ _ 6 _ [.int v1] (mem t2 Gb) _ _
  refine xi_istore_n (lv' := [(1, .int v1), (0, .ref 5)]) dX7_readLines_6 (by decide) rfl ?_
  refine xi_iconst (v := 0) dX7_readLines_7 (by decide) ?_
  refine xi_istore_n (lv' := [(2, .int 0), (1, .int v1), (0, .ref 5)]) dX7_readLines_8 (by decide) rfl ?_
  refine xi_sub (lv' := [(0, .ref 5), (1, .int v1), (2, .int 0)]) [2, 1, 0] rfl ?_
  obtain ⟨e17, t18, k19, hq⟩ := bnd_some hq
  obtain ⟨n20, k19⟩ := wh_itr k19
  refine SX7_readLines_9_w G Gb r0 t0 n20 (v1, (0 : Int32)) t2 _ _ k19 ?_
  rcases e17 with e17 | e17
  · replace hq := sel_l hq
    have r21 := some_pair hq
    exact r21
  · replace hq := sel_r hq
    show xW G mX7_readLines (xrm 4 0 0) (xQ G (PQ r0 t0 Gb) 0 0) 45 [(0, .ref 5)] [] (mem t18 Gb) 0 0
    refine xi_aload_n 0 dX7_readLines_45 rfl ?_
    refine xi_bipush (v := 59) dX7_readLines_46 (by decide) ?_
    obtain ⟨v22, t23, k24, hq⟩ := bnd_some hq
    refine xi_callV (as := [.int 59]) (rest := []) dX7_readLines_48 (KX7_takeSign G Gb (59 : Int32) _ _ _ k24) mkX7_takeSign w_412 ws_9 w_410 (mem_get sh_5) rfl rfl rfl rfl (Nat.le_of_ble_eq_true rfl) (Nat.le_of_ble_eq_true rfl) (Nat.le_of_ble_eq_true rfl) (Nat.le_of_ble_eq_true rfl) (Nat.le_of_ble_eq_true rfl) ?_
    intro v M2 hz
    obtain ⟨rfl, rfl⟩ := hz
    show xW _ _ _ _ 51 _ [.int v22] (mem t23 Gb) _ _
    obtain ⟨g25, hq⟩ := chk_some hq
    have r26 := some_pair hq
    obtain ⟨rfl, rfl⟩ := r26
    exact xi_iret dX7_readLines_51 rfl (isb_n g25) (Nat.le_of_ble_eq_true rfl) (Nat.le_of_ble_eq_true rfl) ⟨rfl, rfl⟩
noncomputable def SX7_readDigits_25 (c : Int32 × Int32) (σ : St) : Option (((Int32 × Int32) ⊕ ((Int32) ⊕ (Int32))) × St) :=
  (rdb σ 6 (0) (fun v8 => (if v8 ≤ c.2 then (some (Sum.inr (Sum.inr c.1), σ)) else (rdb σ 5 (5) (fun v11 => (bnd (FX1_at_1 (v11 + c.2) σ) (fun v13 t14 => (bnd (FX5_has 6 (v13 - (48 : Int32)) t14) (fun v16 t17 => (if v16 = (0 : Int32) then (some (Sum.inr (Sum.inl (0 : Int32)), t17)) else (chk (inb c.2 9) (wrb t17 8 (c.2.toNatClampNeg) (v13 - (48 : Int32)) (fun t21 => (some (Sum.inl ((c.1 ||| (shl (1 : Int32) (v13 - (48 : Int32)))), (c.2 + 1)), t21)))))))))))))))
set_option maxHeartbeats 4000000 in
set_option maxRecDepth 100000 in
theorem SX7_readDigits_25_w (G : xG) (Gb : xMem) (r0 : Int32) (t0 : St) :
    ∀ (k : Nat) (c : Int32 × Int32) (σ : St) (r : (Int32) ⊕ (Int32)) (σ' : St), itr (SX7_readDigits_25) k c σ = some (r, σ') → (Sum.elim (fun v => v = r0 ∧ σ' = t0) (fun e => xW G mX7_readDigits (xrm 1 0 0) (xQ G (PQ r0 t0 Gb) 0 0) 88 [(0, .ref 5), (1, .int e)] [] (mem σ' Gb) 0 0) r) → xW G mX7_readDigits (xrm 1 0 0) (xQ G (PQ r0 t0 Gb) 0 0) 25 [(0, .ref 5), (1, .int c.1), (2, .int c.2)] [] (mem σ Gb) 0 0 := by
  intro k
  induction k with
  | zero =>
    intro c σ r σ' h
    exact absurd h (itr_zero _ _ _ _)
  | succ k ih =>
    intro c σ r σ' h HE
    obtain ⟨x, s1, hs, h⟩ := itr_succ h
    unfold SX7_readDigits_25 at hs
    refine xi_iload_n 2 dX7_readDigits_25 rfl ?_
    refine xi_aload_n 0 dX7_readDigits_26 rfl ?_
    refine yi_getR (f := 0) dX7_readDigits_27 sh_5 rfl ok_6 (by decide) w_96 rfl ?_
    obtain ⟨v8, h9, hs⟩ := rdb_some hs
    refine yi_getV (f := 0) dX7_readDigits_30 sh_6 rfl ok_5 (by decide) w_68 rfl h9 ?_
    refine xi_icmp_ge (tgt := 88) dX7_readDigits_33 (by decide) (fun c10 => ?_) (fun c10 => ?_)
    · replace hs := ite_p c10 hs
      refine xi_sub (lv' := [(0, .ref 5), (1, .int c.1)]) [0, 1] rfl ?_
      obtain ⟨rfl, rfl⟩ := some_pair hs
      obtain ⟨rfl, rfl⟩ := some_pair h
      exact HE
    · replace hs := ite_n c10 hs
      refine xi_aload_n 0 dX7_readDigits_36 rfl ?_
      refine yi_getR (f := 3) dX7_readDigits_37 sh_5 rfl ok_6 (by decide) w_102 rfl ?_
      refine xi_aload_n 0 dX7_readDigits_40 rfl ?_
      obtain ⟨v11, h12, hs⟩ := rdb_some hs
      refine yi_getV (f := 5) dX7_readDigits_41 sh_5 rfl ok_6 (by decide) w_104 rfl h12 ?_
      refine xi_iload_n 2 dX7_readDigits_44 rfl ?_
      refine xi_iadd (v := v11 + c.2) dX7_readDigits_45 rfl ?_
      obtain ⟨v13, t14, k15, hs⟩ := bnd_some hs
      refine xi_callV (as := [.int (v11 + c.2)]) (rest := []) dX7_readDigits_46 (KX1_at_1 G Gb (v11 + c.2) _ _ _ k15) mkX1_at w_310 w_311 w_309 (mem_get sh_1) rfl rfl rfl rfl (Nat.le_of_ble_eq_true rfl) (Nat.le_of_ble_eq_true rfl) (Nat.le_of_ble_eq_true rfl) (Nat.le_of_ble_eq_true rfl) (Nat.le_of_ble_eq_true rfl) ?_
      intro v M2 hz
      obtain ⟨rfl, rfl⟩ := hz
      show xW _ _ _ _ 49 _ [.int v13] (mem t14 Gb) _ _
      refine xi_bipush (v := 48) dX7_readDigits_49 (by decide) ?_
      refine xi_isub (v := v13 - (48 : Int32)) dX7_readDigits_51 rfl ?_
      refine xi_istore_n (lv' := [(3, .int (v13 - (48 : Int32))), (0, .ref 5), (1, .int c.1), (2, .int c.2)]) dX7_readDigits_52 (by decide) rfl ?_
      refine xi_aload_n 1 dX7_readDigits_53 rfl ?_
      refine yi_getR (f := 0) dX7_readDigits_54 sh_5 rfl ok_6 (by decide) w_96 rfl ?_
      refine xi_iload_n 0 dX7_readDigits_57 rfl ?_
      obtain ⟨v16, t17, k18, hs⟩ := bnd_some hs
      refine xi_callV (as := [.int (v13 - (48 : Int32))]) (rest := []) dX7_readDigits_58 (KX5_has G Gb 6 (v13 - (48 : Int32)) _ _ _ k18) mkX5_has w_437 w_438 w_436 (mem_get sh_6) rfl rfl rfl rfl (Nat.le_of_ble_eq_true rfl) (Nat.le_of_ble_eq_true rfl) (Nat.le_of_ble_eq_true rfl) (Nat.le_of_ble_eq_true rfl) (Nat.le_of_ble_eq_true rfl) ?_
      intro v M2 hz
      obtain ⟨rfl, rfl⟩ := hz
      show xW _ _ _ _ 61 _ [.int v16] (mem t17 Gb) _ _
      refine xi_if_ne (tgt := 66) dX7_readDigits_61 (by decide) (fun c19 => ?_) (fun c19 => ?_)
      · replace hs := ite_n c19 hs
        refine xi_aload_n 1 dX7_readDigits_66 rfl ?_
        refine yi_getR (f := 0) dX7_readDigits_67 sh_5 rfl ok_6 (by decide) w_96 rfl ?_
        refine yi_getR (f := 3) dX7_readDigits_70 sh_6 rfl ok_5 (by decide) w_81 rfl ?_
        refine xi_iload_n 3 dX7_readDigits_73 rfl ?_
        refine xi_iload_n 0 dX7_readDigits_74 rfl ?_
        obtain ⟨g20, hs⟩ := chk_some hs
        obtain ⟨t21, h22, hs⟩ := wrb_some hs
        refine yi_iastoreV dX7_readDigits_75 sh_8 g20 h22 ?_
        refine xi_iload_n 2 dX7_readDigits_76 rfl ?_
        refine xi_iconst (v := 1) dX7_readDigits_77 (by decide) ?_
        refine xi_iload_n 0 dX7_readDigits_78 rfl ?_
        refine xi_ishl (v := shl (1 : Int32) (v13 - (48 : Int32))) dX7_readDigits_79 rfl ?_
        refine xi_ior (v := c.1 ||| (shl (1 : Int32) (v13 - (48 : Int32)))) dX7_readDigits_80 rfl ?_
        refine xi_istore_n (lv' := [(1, .int (c.1 ||| (shl (1 : Int32) (v13 - (48 : Int32))))), (3, .int (v13 - (48 : Int32))), (0, .ref 5), (2, .int c.2)]) dX7_readDigits_81 (by decide) rfl ?_
        refine xi_iinc (v := (c.2 + 1)) (lv' := [(2, .int (c.2 + 1)), (1, .int (c.1 ||| (shl (1 : Int32) (v13 - (48 : Int32))))), (3, .int (v13 - (48 : Int32))), (0, .ref 5)]) 3 dX7_readDigits_82 rfl rfl (by decide) rfl ?_
        refine xi_goto (tgt := 25) dX7_readDigits_85 (by decide) ?_
        refine xi_sub (lv' := [(0, .ref 5), (1, .int (c.1 ||| (shl (1 : Int32) (v13 - (48 : Int32))))), (2, .int (c.2 + 1))]) [3, 1, 0] rfl ?_
        obtain ⟨rfl, rfl⟩ := some_pair hs
        exact ih ((c.1 ||| (shl (1 : Int32) (v13 - (48 : Int32)))), (c.2 + 1)) t21 _ _ h HE
      · replace hs := ite_p c19 hs
        refine xi_iconst (v := 0) dX7_readDigits_64 (by decide) ?_
        obtain ⟨rfl, rfl⟩ := some_pair hs
        obtain ⟨rfl, rfl⟩ := some_pair h
        have r23 := HE
        obtain ⟨rfl, rfl⟩ := r23
        exact xi_iret dX7_readDigits_65 rfl (by decide) (Nat.le_of_ble_eq_true rfl) (Nat.le_of_ble_eq_true rfl) ⟨rfl, rfl⟩
noncomputable def FX7_readDigits (σ : St) : Option ((Int32) × St) :=
  (rdb σ 5 (6) (fun v1 => (rdb σ 5 (5) (fun v3 => (rdb σ 6 (0) (fun v5 => (if (v1 - v3) = v5 then (bnd (wh (SX7_readDigits_25) ((0 : Int32), (0 : Int32)) σ) (fun e24 t25 => Sum.elim (fun e24 => (some (e24, t25))) (fun e24 => (bnd (FX5_allBits 6 t25) (fun v29 t30 => (if e24 = v29 then (some ((1 : Int32), t30)) else (some ((0 : Int32), t30)))))) e24)) else (some ((0 : Int32), σ)))))))))
set_option maxHeartbeats 4000000 in
set_option maxRecDepth 100000 in
theorem KX7_readDigits (G : xG) (Gb : xMem) (σ : St) (r0 : Int32) (t0 : St) (hq : FX7_readDigits σ = some (r0, t0)) : xC G mX7_readDigits 1 0 0 [.ref 5] (mem σ Gb) (PQ r0 t0 Gb) := by
  unfold FX7_readDigits at hq
  refine xC.of (by decide) (Nat.le_of_ble_eq_true rfl) ?_
  show xW _ _ _ _ 0 [(0, .ref 5)] [] _ 0 0
  refine xi_aload_n 0 dX7_readDigits_0 rfl ?_
  obtain ⟨v1, h2, hq⟩ := rdb_some hq
  refine yi_getV (f := 6) dX7_readDigits_1 sh_5 rfl ok_6 (by decide) w_105 rfl h2 ?_
  refine xi_aload_n 0 dX7_readDigits_4 rfl ?_
  obtain ⟨v3, h4, hq⟩ := rdb_some hq
  refine yi_getV (f := 5) dX7_readDigits_5 sh_5 rfl ok_6 (by decide) w_104 rfl h4 ?_
  refine xi_isub (v := v1 - v3) dX7_readDigits_8 rfl ?_
  refine xi_aload_n 0 dX7_readDigits_9 rfl ?_
  refine yi_getR (f := 0) dX7_readDigits_10 sh_5 rfl ok_6 (by decide) w_96 rfl ?_
  obtain ⟨v5, h6, hq⟩ := rdb_some hq
  refine yi_getV (f := 0) dX7_readDigits_13 sh_6 rfl ok_5 (by decide) w_68 rfl h6 ?_
  refine xi_icmp_eq (tgt := 21) dX7_readDigits_16 (by decide) (fun c7 => ?_) (fun c7 => ?_)
  · replace hq := ite_p c7 hq
    refine xi_iconst (v := 0) dX7_readDigits_21 (by decide) ?_
    refine xi_istore_n (lv' := [(1, .int 0), (0, .ref 5)]) dX7_readDigits_22 (by decide) rfl ?_
    refine xi_iconst (v := 0) dX7_readDigits_23 (by decide) ?_
    refine xi_istore_n (lv' := [(2, .int 0), (1, .int 0), (0, .ref 5)]) dX7_readDigits_24 (by decide) rfl ?_
    refine xi_sub (lv' := [(0, .ref 5), (1, .int 0), (2, .int 0)]) [2, 1, 0] rfl ?_
    obtain ⟨e24, t25, k26, hq⟩ := bnd_some hq
    obtain ⟨n27, k26⟩ := wh_itr k26
    refine SX7_readDigits_25_w G Gb r0 t0 n27 ((0 : Int32), (0 : Int32)) σ _ _ k26 ?_
    rcases e24 with e24 | e24
    · replace hq := sel_l hq
      have r28 := some_pair hq
      exact r28
    · replace hq := sel_r hq
      show xW G mX7_readDigits (xrm 1 0 0) (xQ G (PQ r0 t0 Gb) 0 0) 88 [(0, .ref 5), (1, .int e24)] [] (mem t25 Gb) 0 0
      refine xi_iload_n 1 dX7_readDigits_88 rfl ?_
      refine xi_aload_n 0 dX7_readDigits_89 rfl ?_
      refine yi_getR (f := 0) dX7_readDigits_90 sh_5 rfl ok_6 (by decide) w_96 rfl ?_
      obtain ⟨v29, t30, k31, hq⟩ := bnd_some hq
      refine xi_callV (as := []) (rest := [.int e24]) dX7_readDigits_93 (KX5_allBits G Gb 6 _ _ _ k31) mkX5_allBits w_441 w_442 w_440 (mem_get sh_6) rfl rfl rfl rfl (Nat.le_of_ble_eq_true rfl) (Nat.le_of_ble_eq_true rfl) (Nat.le_of_ble_eq_true rfl) (Nat.le_of_ble_eq_true rfl) (Nat.le_of_ble_eq_true rfl) ?_
      intro v M2 hz
      obtain ⟨rfl, rfl⟩ := hz
      show xW _ _ _ _ 96 _ [.int v29, .int e24] (mem t30 Gb) _ _
      refine xi_icmp_ne (tgt := 103) dX7_readDigits_96 (by decide) (fun c32 => ?_) (fun c32 => ?_)
      · replace hq := ite_n c32 hq
        refine xi_iconst (v := 0) dX7_readDigits_103 (by decide) ?_
        have r33 := some_pair hq
        obtain ⟨rfl, rfl⟩ := r33
        exact xi_iret dX7_readDigits_104 rfl (by decide) (Nat.le_of_ble_eq_true rfl) (Nat.le_of_ble_eq_true rfl) ⟨rfl, rfl⟩
      · replace hq := ite_p c32 hq
        refine xi_iconst (v := 1) dX7_readDigits_99 (by decide) ?_
        refine xi_goto (tgt := 104) dX7_readDigits_100 (by decide) ?_
        have r34 := some_pair hq
        obtain ⟨rfl, rfl⟩ := r34
        exact xi_iret dX7_readDigits_104 rfl (by decide) (Nat.le_of_ble_eq_true rfl) (Nat.le_of_ble_eq_true rfl) ⟨rfl, rfl⟩
  · replace hq := ite_n c7 hq
    refine xi_iconst (v := 0) dX7_readDigits_19 (by decide) ?_
    have r35 := some_pair hq
    obtain ⟨rfl, rfl⟩ := r35
    exact xi_iret dX7_readDigits_20 rfl (by decide) (Nat.le_of_ble_eq_true rfl) (Nat.le_of_ble_eq_true rfl) ⟨rfl, rfl⟩
noncomputable def FX7_readRow (σ : St) : Option ((Int32) × St) :=
  (rdb σ 5 (4) (fun v1 => (if v1 = (0 : Int32) then (some ((1 : Int32), σ)) else (bnd (FX7_isWord_s1  σ) (fun v4 t5 => (if v4 = (0 : Int32) then (bnd (FX7_blame (1 : Int32) t5) (fun v46 t47 => (chk (isb v46) (some (v46, t47))))) else (bnd (FX7_step  t5) (fun v8 t9 => (rdb t9 5 (4) (fun v11 => (if v11 = (2 : Int32) then (bnd (FX7_readDigits  t9) (fun v14 t15 => (if v14 = (0 : Int32) then (bnd (FX7_blame (5 : Int32) t15) (fun v36 t37 => (chk (isb v36) (some (v36, t37))))) else (bnd (FX7_step  t15) (fun v18 t19 => (bnd (FX7_takeSign (59 : Int32) t19) (fun v21 t22 => (if v21 = (0 : Int32) then (some ((0 : Int32), t22)) else (rdb t22 5 (4) (fun v26 => (if v26 = (0 : Int32) then (some ((1 : Int32), t22)) else (bnd (FX7_blame (1 : Int32) t22) (fun v30 t31 => (if v30 = (0 : Int32) then (some ((0 : Int32), t31)) else (some ((1 : Int32), t31)))))))))))))))) else (bnd (FX7_blame (1 : Int32) t9) (fun v41 t42 => (chk (isb v41) (some (v41, t42))))))))))))))))
set_option maxHeartbeats 4000000 in
set_option maxRecDepth 100000 in
theorem KX7_readRow (G : xG) (Gb : xMem) (σ : St) (r0 : Int32) (t0 : St) (hq : FX7_readRow σ = some (r0, t0)) : xC G mX7_readRow 5 0 0 [.ref 5] (mem σ Gb) (PQ r0 t0 Gb) := by
  unfold FX7_readRow at hq
  refine xC.of (by decide) (Nat.le_of_ble_eq_true rfl) ?_
  show xW _ _ _ _ 0 [(0, .ref 5)] [] _ 0 0
  refine xi_aload_n 0 dX7_readRow_0 rfl ?_
  obtain ⟨v1, h2, hq⟩ := rdb_some hq
  refine yi_getV (f := 4) dX7_readRow_1 sh_5 rfl ok_6 (by decide) w_103 rfl h2 ?_
  refine xi_if_ne (tgt := 9) dX7_readRow_4 (by decide) (fun c3 => ?_) (fun c3 => ?_)
  · replace hq := ite_n c3 hq
    refine xi_aload_n 0 dX7_readRow_9 rfl ?_
    refine xi_ldcS (w := 1) dX7_readRow_10 st_1 rfl ?_
    obtain ⟨v4, t5, k6, hq⟩ := bnd_some hq
    refine xi_callV (as := [.float 1]) (rest := []) dX7_readRow_12 (KX7_isWord_s1 G Gb  _ _ _ k6) mkX7_isWord w_326 ws_2 w_324 (mem_get sh_5) rfl rfl rfl rfl (Nat.le_of_ble_eq_true rfl) (Nat.le_of_ble_eq_true rfl) (Nat.le_of_ble_eq_true rfl) (Nat.le_of_ble_eq_true rfl) (Nat.le_of_ble_eq_true rfl) ?_
    intro v M2 hz
    obtain ⟨rfl, rfl⟩ := hz
    show xW _ _ _ _ 15 _ [.int v4] (mem t5 Gb) _ _
    refine xi_if_ne (tgt := 24) dX7_readRow_15 (by decide) (fun c7 => ?_) (fun c7 => ?_)
    · replace hq := ite_n c7 hq
      refine xi_aload_n 0 dX7_readRow_24 rfl ?_
      obtain ⟨v8, t9, k10, hq⟩ := bnd_some hq
      refine xi_callV (as := []) (rest := []) dX7_readRow_25 (KX7_step G Gb  _ _ _ k10) mkX7_step w_307 ws_0 w_305 (mem_get sh_5) rfl rfl rfl rfl (Nat.le_of_ble_eq_true rfl) (Nat.le_of_ble_eq_true rfl) (Nat.le_of_ble_eq_true rfl) (Nat.le_of_ble_eq_true rfl) (Nat.le_of_ble_eq_true rfl) ?_
      intro v M2 hz
      obtain ⟨rfl, rfl⟩ := hz
      show xW _ _ _ _ 28 _ [] (mem t9 Gb) _ _
      refine xi_aload_n 0 dX7_readRow_28 rfl ?_
      obtain ⟨v11, h12, hq⟩ := rdb_some hq
      refine yi_getV (f := 4) dX7_readRow_29 sh_5 rfl ok_6 (by decide) w_103 rfl h12 ?_
      refine xi_iconst (v := 2) dX7_readRow_32 (by decide) ?_
      refine xi_icmp_eq (tgt := 42) dX7_readRow_33 (by decide) (fun c13 => ?_) (fun c13 => ?_)
      · replace hq := ite_p c13 hq
        refine xi_aload_n 0 dX7_readRow_42 rfl ?_
        obtain ⟨v14, t15, k16, hq⟩ := bnd_some hq
        refine xi_callV (as := []) (rest := []) dX7_readRow_43 (KX7_readDigits G Gb  _ _ _ k16) mkX7_readDigits w_434 ws_12 w_432 (mem_get sh_5) rfl rfl rfl rfl (Nat.le_of_ble_eq_true rfl) (Nat.le_of_ble_eq_true rfl) (Nat.le_of_ble_eq_true rfl) (Nat.le_of_ble_eq_true rfl) (Nat.le_of_ble_eq_true rfl) ?_
        intro v M2 hz
        obtain ⟨rfl, rfl⟩ := hz
        show xW _ _ _ _ 46 _ [.int v14] (mem t15 Gb) _ _
        refine xi_if_ne (tgt := 55) dX7_readRow_46 (by decide) (fun c17 => ?_) (fun c17 => ?_)
        · replace hq := ite_n c17 hq
          refine xi_aload_n 0 dX7_readRow_55 rfl ?_
          obtain ⟨v18, t19, k20, hq⟩ := bnd_some hq
          refine xi_callV (as := []) (rest := []) dX7_readRow_56 (KX7_step G Gb  _ _ _ k20) mkX7_step w_307 ws_0 w_305 (mem_get sh_5) rfl rfl rfl rfl (Nat.le_of_ble_eq_true rfl) (Nat.le_of_ble_eq_true rfl) (Nat.le_of_ble_eq_true rfl) (Nat.le_of_ble_eq_true rfl) (Nat.le_of_ble_eq_true rfl) ?_
          intro v M2 hz
          obtain ⟨rfl, rfl⟩ := hz
          show xW _ _ _ _ 59 _ [] (mem t19 Gb) _ _
          refine xi_aload_n 0 dX7_readRow_59 rfl ?_
          refine xi_bipush (v := 59) dX7_readRow_60 (by decide) ?_
          obtain ⟨v21, t22, k23, hq⟩ := bnd_some hq
          refine xi_callV (as := [.int 59]) (rest := []) dX7_readRow_62 (KX7_takeSign G Gb (59 : Int32) _ _ _ k23) mkX7_takeSign w_412 ws_9 w_410 (mem_get sh_5) rfl rfl rfl rfl (Nat.le_of_ble_eq_true rfl) (Nat.le_of_ble_eq_true rfl) (Nat.le_of_ble_eq_true rfl) (Nat.le_of_ble_eq_true rfl) (Nat.le_of_ble_eq_true rfl) ?_
          intro v M2 hz
          obtain ⟨rfl, rfl⟩ := hz
          show xW _ _ _ _ 65 _ [.int v21] (mem t22 Gb) _ _
          refine xi_if_eq (tgt := 87) dX7_readRow_65 (by decide) (fun c24 => ?_) (fun c24 => ?_)
          · replace hq := ite_p c24 hq
            refine xi_iconst (v := 0) dX7_readRow_87 (by decide) ?_
            have r25 := some_pair hq
            obtain ⟨rfl, rfl⟩ := r25
            exact xi_iret dX7_readRow_88 rfl (by decide) (Nat.le_of_ble_eq_true rfl) (Nat.le_of_ble_eq_true rfl) ⟨rfl, rfl⟩
          · replace hq := ite_n c24 hq
            refine xi_aload_n 0 dX7_readRow_68 rfl ?_
            obtain ⟨v26, h27, hq⟩ := rdb_some hq
            refine yi_getV (f := 4) dX7_readRow_69 sh_5 rfl ok_6 (by decide) w_103 rfl h27 ?_
            refine xi_if_eq (tgt := 83) dX7_readRow_72 (by decide) (fun c28 => ?_) (fun c28 => ?_)
            · replace hq := ite_p c28 hq
              refine xi_iconst (v := 1) dX7_readRow_83 (by decide) ?_
              refine xi_goto (tgt := 88) dX7_readRow_84 (by decide) ?_
              have r29 := some_pair hq
              obtain ⟨rfl, rfl⟩ := r29
              exact xi_iret dX7_readRow_88 rfl (by decide) (Nat.le_of_ble_eq_true rfl) (Nat.le_of_ble_eq_true rfl) ⟨rfl, rfl⟩
            · replace hq := ite_n c28 hq
              refine xi_aload_n 0 dX7_readRow_75 rfl ?_
              refine xi_iconst (v := 1) dX7_readRow_76 (by decide) ?_
              obtain ⟨v30, t31, k32, hq⟩ := bnd_some hq
              refine xi_callV (as := [.int 1]) (rest := []) dX7_readRow_77 (KX7_blame G Gb (1 : Int32) _ _ _ k32) mkX7_blame w_378 ws_3 w_376 (mem_get sh_5) rfl rfl rfl rfl (Nat.le_of_ble_eq_true rfl) (Nat.le_of_ble_eq_true rfl) (Nat.le_of_ble_eq_true rfl) (Nat.le_of_ble_eq_true rfl) (Nat.le_of_ble_eq_true rfl) ?_
              intro v M2 hz
              obtain ⟨rfl, rfl⟩ := hz
              show xW _ _ _ _ 80 _ [.int v30] (mem t31 Gb) _ _
              refine xi_if_eq (tgt := 87) dX7_readRow_80 (by decide) (fun c33 => ?_) (fun c33 => ?_)
              · replace hq := ite_p c33 hq
                refine xi_iconst (v := 0) dX7_readRow_87 (by decide) ?_
                have r34 := some_pair hq
                obtain ⟨rfl, rfl⟩ := r34
                exact xi_iret dX7_readRow_88 rfl (by decide) (Nat.le_of_ble_eq_true rfl) (Nat.le_of_ble_eq_true rfl) ⟨rfl, rfl⟩
              · replace hq := ite_n c33 hq
                refine xi_iconst (v := 1) dX7_readRow_83 (by decide) ?_
                refine xi_goto (tgt := 88) dX7_readRow_84 (by decide) ?_
                have r35 := some_pair hq
                obtain ⟨rfl, rfl⟩ := r35
                exact xi_iret dX7_readRow_88 rfl (by decide) (Nat.le_of_ble_eq_true rfl) (Nat.le_of_ble_eq_true rfl) ⟨rfl, rfl⟩
        · replace hq := ite_p c17 hq
          refine xi_aload_n 0 dX7_readRow_49 rfl ?_
          refine xi_iconst (v := 5) dX7_readRow_50 (by decide) ?_
          obtain ⟨v36, t37, k38, hq⟩ := bnd_some hq
          refine xi_callV (as := [.int 5]) (rest := []) dX7_readRow_51 (KX7_blame G Gb (5 : Int32) _ _ _ k38) mkX7_blame w_378 ws_3 w_376 (mem_get sh_5) rfl rfl rfl rfl (Nat.le_of_ble_eq_true rfl) (Nat.le_of_ble_eq_true rfl) (Nat.le_of_ble_eq_true rfl) (Nat.le_of_ble_eq_true rfl) (Nat.le_of_ble_eq_true rfl) ?_
          intro v M2 hz
          obtain ⟨rfl, rfl⟩ := hz
          show xW _ _ _ _ 54 _ [.int v36] (mem t37 Gb) _ _
          obtain ⟨g39, hq⟩ := chk_some hq
          have r40 := some_pair hq
          obtain ⟨rfl, rfl⟩ := r40
          exact xi_iret dX7_readRow_54 rfl (isb_n g39) (Nat.le_of_ble_eq_true rfl) (Nat.le_of_ble_eq_true rfl) ⟨rfl, rfl⟩
      · replace hq := ite_n c13 hq
        refine xi_aload_n 0 dX7_readRow_36 rfl ?_
        refine xi_iconst (v := 1) dX7_readRow_37 (by decide) ?_
        obtain ⟨v41, t42, k43, hq⟩ := bnd_some hq
        refine xi_callV (as := [.int 1]) (rest := []) dX7_readRow_38 (KX7_blame G Gb (1 : Int32) _ _ _ k43) mkX7_blame w_378 ws_3 w_376 (mem_get sh_5) rfl rfl rfl rfl (Nat.le_of_ble_eq_true rfl) (Nat.le_of_ble_eq_true rfl) (Nat.le_of_ble_eq_true rfl) (Nat.le_of_ble_eq_true rfl) (Nat.le_of_ble_eq_true rfl) ?_
        intro v M2 hz
        obtain ⟨rfl, rfl⟩ := hz
        show xW _ _ _ _ 41 _ [.int v41] (mem t42 Gb) _ _
        obtain ⟨g44, hq⟩ := chk_some hq
        have r45 := some_pair hq
        obtain ⟨rfl, rfl⟩ := r45
        exact xi_iret dX7_readRow_41 rfl (isb_n g44) (Nat.le_of_ble_eq_true rfl) (Nat.le_of_ble_eq_true rfl) ⟨rfl, rfl⟩
    · replace hq := ite_p c7 hq
      refine xi_aload_n 0 dX7_readRow_18 rfl ?_
      refine xi_iconst (v := 1) dX7_readRow_19 (by decide) ?_
      obtain ⟨v46, t47, k48, hq⟩ := bnd_some hq
      refine xi_callV (as := [.int 1]) (rest := []) dX7_readRow_20 (KX7_blame G Gb (1 : Int32) _ _ _ k48) mkX7_blame w_378 ws_3 w_376 (mem_get sh_5) rfl rfl rfl rfl (Nat.le_of_ble_eq_true rfl) (Nat.le_of_ble_eq_true rfl) (Nat.le_of_ble_eq_true rfl) (Nat.le_of_ble_eq_true rfl) (Nat.le_of_ble_eq_true rfl) ?_
      intro v M2 hz
      obtain ⟨rfl, rfl⟩ := hz
      show xW _ _ _ _ 23 _ [.int v46] (mem t47 Gb) _ _
      obtain ⟨g49, hq⟩ := chk_some hq
      have r50 := some_pair hq
      obtain ⟨rfl, rfl⟩ := r50
      exact xi_iret dX7_readRow_23 rfl (isb_n g49) (Nat.le_of_ble_eq_true rfl) (Nat.le_of_ble_eq_true rfl) ⟨rfl, rfl⟩
  · replace hq := ite_p c3 hq
    refine xi_iconst (v := 1) dX7_readRow_7 (by decide) ?_
    have r51 := some_pair hq
    obtain ⟨rfl, rfl⟩ := r51
    exact xi_iret dX7_readRow_8 rfl (by decide) (Nat.le_of_ble_eq_true rfl) (Nat.le_of_ble_eq_true rfl) ⟨rfl, rfl⟩
noncomputable def FX7_readAll (σ : St) : Option ((Int32) × St) :=
  (wrb σ 5 (1) (0 : Int32) (fun t1 => (wrb t1 5 (2) (-1 : Int32) (fun t3 => (wrb t3 5 (6) (0 : Int32) (fun t5 => (bnd (FX7_step  t5) (fun v7 t8 => (bnd (FX7_readHead  t8) (fun v10 t11 => (if v10 = (0 : Int32) then (some ((0 : Int32), t11)) else (bnd (FX7_readLines  t11) (fun v15 t16 => (if v15 = (0 : Int32) then (some ((0 : Int32), t16)) else (bnd (FX7_readRow  t16) (fun v20 t21 => (if v20 = (0 : Int32) then (some ((0 : Int32), t21)) else (some ((1 : Int32), t21)))))))))))))))))))
set_option maxHeartbeats 4000000 in
set_option maxRecDepth 100000 in
theorem KX7_readAll (G : xG) (Gb : xMem) (σ : St) (r0 : Int32) (t0 : St) (hq : FX7_readAll σ = some (r0, t0)) : xC G mX7_readAll 6 0 0 [.ref 5] (mem σ Gb) (PQ r0 t0 Gb) := by
  unfold FX7_readAll at hq
  refine xC.of (by decide) (Nat.le_of_ble_eq_true rfl) ?_
  show xW _ _ _ _ 0 [(0, .ref 5)] [] _ 0 0
  refine xi_aload_n 0 dX7_readAll_0 rfl ?_
  refine xi_iconst (v := 0) dX7_readAll_1 (by decide) ?_
  obtain ⟨t1, h2, hq⟩ := wrb_some hq
  refine yi_putV (f := 1) (ty := .int) dX7_readAll_2 sh_5 rfl ok_6 (by decide) w_98 rfl rfl pf_I rfl rfl h2 ?_
  refine xi_aload_n 0 dX7_readAll_5 rfl ?_
  refine xi_iconst (v := (-1)) dX7_readAll_6 (by decide) ?_
  obtain ⟨t3, h4, hq⟩ := wrb_some hq
  refine yi_putV (f := 2) (ty := .int) dX7_readAll_7 sh_5 rfl ok_6 (by decide) w_100 rfl rfl pf_I rfl rfl h4 ?_
  refine xi_aload_n 0 dX7_readAll_10 rfl ?_
  refine xi_iconst (v := 0) dX7_readAll_11 (by decide) ?_
  obtain ⟨t5, h6, hq⟩ := wrb_some hq
  refine yi_putV (f := 6) (ty := .int) dX7_readAll_12 sh_5 rfl ok_6 (by decide) w_105 rfl rfl pf_I rfl rfl h6 ?_
  refine xi_aload_n 0 dX7_readAll_15 rfl ?_
  obtain ⟨v7, t8, k9, hq⟩ := bnd_some hq
  refine xi_callV (as := []) (rest := []) dX7_readAll_16 (KX7_step G Gb  _ _ _ k9) mkX7_step w_307 ws_0 w_305 (mem_get sh_5) rfl rfl rfl rfl (Nat.le_of_ble_eq_true rfl) (Nat.le_of_ble_eq_true rfl) (Nat.le_of_ble_eq_true rfl) (Nat.le_of_ble_eq_true rfl) (Nat.le_of_ble_eq_true rfl) ?_
  intro v M2 hz
  obtain ⟨rfl, rfl⟩ := hz
  show xW _ _ _ _ 19 _ [] (mem t8 Gb) _ _
  refine xi_aload_n 0 dX7_readAll_19 rfl ?_
  obtain ⟨v10, t11, k12, hq⟩ := bnd_some hq
  refine xi_callV (as := []) (rest := []) dX7_readAll_20 (KX7_readHead G Gb  _ _ _ k12) mkX7_readHead w_321 ws_1 w_319 (mem_get sh_5) rfl rfl rfl rfl (Nat.le_of_ble_eq_true rfl) (Nat.le_of_ble_eq_true rfl) (Nat.le_of_ble_eq_true rfl) (Nat.le_of_ble_eq_true rfl) (Nat.le_of_ble_eq_true rfl) ?_
  intro v M2 hz
  obtain ⟨rfl, rfl⟩ := hz
  show xW _ _ _ _ 23 _ [.int v10] (mem t11 Gb) _ _
  refine xi_if_eq (tgt := 44) dX7_readAll_23 (by decide) (fun c13 => ?_) (fun c13 => ?_)
  · replace hq := ite_p c13 hq
    refine xi_iconst (v := 0) dX7_readAll_44 (by decide) ?_
    have r14 := some_pair hq
    obtain ⟨rfl, rfl⟩ := r14
    exact xi_iret dX7_readAll_45 rfl (by decide) (Nat.le_of_ble_eq_true rfl) (Nat.le_of_ble_eq_true rfl) ⟨rfl, rfl⟩
  · replace hq := ite_n c13 hq
    refine xi_aload_n 0 dX7_readAll_26 rfl ?_
    obtain ⟨v15, t16, k17, hq⟩ := bnd_some hq
    refine xi_callV (as := []) (rest := []) dX7_readAll_27 (KX7_readLines G Gb  _ _ _ k17) mkX7_readLines w_396 ws_5 w_394 (mem_get sh_5) rfl rfl rfl rfl (Nat.le_of_ble_eq_true rfl) (Nat.le_of_ble_eq_true rfl) (Nat.le_of_ble_eq_true rfl) (Nat.le_of_ble_eq_true rfl) (Nat.le_of_ble_eq_true rfl) ?_
    intro v M2 hz
    obtain ⟨rfl, rfl⟩ := hz
    show xW _ _ _ _ 30 _ [.int v15] (mem t16 Gb) _ _
    refine xi_if_eq (tgt := 44) dX7_readAll_30 (by decide) (fun c18 => ?_) (fun c18 => ?_)
    · replace hq := ite_p c18 hq
      refine xi_iconst (v := 0) dX7_readAll_44 (by decide) ?_
      have r19 := some_pair hq
      obtain ⟨rfl, rfl⟩ := r19
      exact xi_iret dX7_readAll_45 rfl (by decide) (Nat.le_of_ble_eq_true rfl) (Nat.le_of_ble_eq_true rfl) ⟨rfl, rfl⟩
    · replace hq := ite_n c18 hq
      refine xi_aload_n 0 dX7_readAll_33 rfl ?_
      obtain ⟨v20, t21, k22, hq⟩ := bnd_some hq
      refine xi_callV (as := []) (rest := []) dX7_readAll_34 (KX7_readRow G Gb  _ _ _ k22) mkX7_readRow w_429 ws_11 w_427 (mem_get sh_5) rfl rfl rfl rfl (Nat.le_of_ble_eq_true rfl) (Nat.le_of_ble_eq_true rfl) (Nat.le_of_ble_eq_true rfl) (Nat.le_of_ble_eq_true rfl) (Nat.le_of_ble_eq_true rfl) ?_
      intro v M2 hz
      obtain ⟨rfl, rfl⟩ := hz
      show xW _ _ _ _ 37 _ [.int v20] (mem t21 Gb) _ _
      refine xi_if_eq (tgt := 44) dX7_readAll_37 (by decide) (fun c23 => ?_) (fun c23 => ?_)
      · replace hq := ite_p c23 hq
        refine xi_iconst (v := 0) dX7_readAll_44 (by decide) ?_
        have r24 := some_pair hq
        obtain ⟨rfl, rfl⟩ := r24
        exact xi_iret dX7_readAll_45 rfl (by decide) (Nat.le_of_ble_eq_true rfl) (Nat.le_of_ble_eq_true rfl) ⟨rfl, rfl⟩
      · replace hq := ite_n c23 hq
        refine xi_iconst (v := 1) dX7_readAll_40 (by decide) ?_
        refine xi_goto (tgt := 45) dX7_readAll_41 (by decide) ?_
        have r25 := some_pair hq
        obtain ⟨rfl, rfl⟩ := r25
        exact xi_iret dX7_readAll_45 rfl (by decide) (Nat.le_of_ble_eq_true rfl) (Nat.le_of_ble_eq_true rfl) ⟨rfl, rfl⟩
