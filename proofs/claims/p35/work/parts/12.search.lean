/-! methods as functions (printed by wip/ext/genall.py) -/
noncomputable def SX0_waiting_44 (w1 : Int32) (w2 : Int32) (w3 : Int32) (w4 : Int32) (w7 : Int32) (c : Int32 × Int32 × Int32) (σ : St) : Option (((Int32 × Int32 × Int32) ⊕ ((Int32) ⊕ (Int32))) × St) :=
  (if w7 < c.2.2 then (some (Sum.inr (Sum.inr c.1), σ)) else (chk (inb c.2.2 9) (rdb σ 95 (c.2.2.toNatClampNeg) (fun v5 => (chk (inb v5 9) (rdb σ 92 (v5.toNatClampNeg) (fun v8 => (if (v8 &&& (w2 ^^^ (-1 : Int32))) = (0 : Int32) then (some (Sum.inl (c.1, c.2.1, (c.2.2 + 1)), σ)) else (bnd (FJ6_bitCount_0f7a4 (c.2.1 ||| (v8 &&& (w2 ^^^ (-1 : Int32)))) σ) (fun v11 t12 => (if v11 ≤ (((c.2.2 + w3) + (1 : Int32)) - w1) then (chk (inb c.2.2 9) (rdb t12 95 (c.2.2.toNatClampNeg) (fun v16 => (some (Sum.inl ((c.1 ||| (shl (v16 + (1 : Int32)) ((4 : Int32) * (c.2.2 &&& (3 : Int32))))), (c.2.1 ||| (v8 &&& (w2 ^^^ (-1 : Int32)))), (c.2.2 + 1)), t12))))) else (some (Sum.inr (Sum.inl (-1 : Int32)), t12)))))))))))))
set_option maxHeartbeats 4000000 in
set_option maxRecDepth 100000 in
theorem SX0_waiting_44_w (G : xG) (Gb : xMem) (w1 : Int32) (w2 : Int32) (w3 : Int32) (w4 : Int32) (w7 : Int32) (r0 : Int32) (t0 : St) :
    ∀ (k : Nat) (c : Int32 × Int32 × Int32) (σ : St) (r : (Int32) ⊕ (Int32)) (σ' : St), itr (SX0_waiting_44 w1 w2 w3 w4 w7) k c σ = some (r, σ') → (Sum.elim (fun v => v = r0 ∧ σ' = t0) (fun e => xW G mX0_waiting (xrm 1 0 0) (xQ G (PQ r0 t0 Gb) 0 0) 129 [(4, .int w4), (5, .int e)] [] (mem σ' Gb) 0 0) r) → xW G mX0_waiting (xrm 1 0 0) (xQ G (PQ r0 t0 Gb) 0 0) 44 [(0, .ref 90), (1, .int w1), (2, .int w2), (3, .int w3), (4, .int w4), (5, .int c.1), (6, .int c.2.1), (7, .int w7), (8, .int c.2.2)] [] (mem σ Gb) 0 0 := by
  intro k
  induction k with
  | zero =>
    intro c σ r σ' h
    exact absurd h (itr_zero _ _ _ _)
  | succ k ih =>
    intro c σ r σ' h HE
    obtain ⟨x, s1, hs, h⟩ := itr_succ h
    unfold SX0_waiting_44 at hs
    refine xi_iload 8 dX0_waiting_44 rfl ?_
    refine xi_iload 7 dX0_waiting_46 rfl ?_
    refine xi_icmp_gt (tgt := 129) dX0_waiting_48 (by decide) (fun c3 => ?_) (fun c3 => ?_)
    · replace hs := ite_p c3 hs
      refine xi_sub (lv' := [(4, .int w4), (5, .int c.1)]) [4, 5] rfl ?_
      obtain ⟨rfl, rfl⟩ := some_pair hs
      obtain ⟨rfl, rfl⟩ := some_pair h
      exact HE
    · replace hs := ite_n c3 hs
      refine xi_aload_n 0 dX0_waiting_51 rfl ?_
      refine yi_getR (f := 0) dX0_waiting_52 sh_90 rfl ok_0 (by decide) w_207 rfl ?_
      refine yi_getR (f := 2) dX0_waiting_55 sh_91 rfl ok_5 (by decide) w_77 rfl ?_
      refine xi_aload_n 0 dX0_waiting_58 rfl ?_
      refine yi_getR (f := 1) dX0_waiting_59 sh_90 rfl ok_0 (by decide) w_208 rfl ?_
      refine xi_iload 8 dX0_waiting_62 rfl ?_
      obtain ⟨g4, hs⟩ := chk_some hs
      obtain ⟨v5, h6, hs⟩ := rdb_some hs
      refine yi_ialoadV dX0_waiting_64 sh_95 g4 h6 ?_
      obtain ⟨g7, hs⟩ := chk_some hs
      obtain ⟨v8, h9, hs⟩ := rdb_some hs
      refine yi_ialoadV dX0_waiting_65 sh_92 g7 h9 ?_
      refine xi_iload_n 2 dX0_waiting_66 rfl ?_
      refine xi_iconst (v := (-1)) dX0_waiting_67 (by decide) ?_
      refine xi_ixor (v := w2 ^^^ (-1 : Int32)) dX0_waiting_68 rfl ?_
      refine xi_iand (v := v8 &&& (w2 ^^^ (-1 : Int32))) dX0_waiting_69 rfl ?_
      refine xi_istore (lv' := [(9, .int (v8 &&& (w2 ^^^ (-1 : Int32)))), (0, .ref 90), (1, .int w1), (2, .int w2), (3, .int w3), (4, .int w4), (5, .int c.1), (6, .int c.2.1), (7, .int w7), (8, .int c.2.2)]) dX0_waiting_70 (by decide) rfl ?_
      refine xi_iload 0 dX0_waiting_72 rfl ?_
      refine xi_if_eq (tgt := 123) dX0_waiting_74 (by decide) (fun c10 => ?_) (fun c10 => ?_)
      · replace hs := ite_p c10 hs
        refine xi_iinc (v := (c.2.2 + 1)) (lv' := [(8, .int (c.2.2 + 1)), (9, .int (v8 &&& (w2 ^^^ (-1 : Int32)))), (0, .ref 90), (1, .int w1), (2, .int w2), (3, .int w3), (4, .int w4), (5, .int c.1), (6, .int c.2.1), (7, .int w7)]) 9 dX0_waiting_123 rfl rfl (by decide) rfl ?_
        refine xi_goto (tgt := 44) dX0_waiting_126 (by decide) ?_
        refine xi_sub (lv' := [(0, .ref 90), (1, .int w1), (2, .int w2), (3, .int w3), (4, .int w4), (5, .int c.1), (6, .int c.2.1), (7, .int w7), (8, .int (c.2.2 + 1))]) [2, 3, 4, 5, 6, 7, 8, 9, 0] rfl ?_
        obtain ⟨rfl, rfl⟩ := some_pair hs
        exact ih (c.1, c.2.1, (c.2.2 + 1)) σ _ _ h HE
      · replace hs := ite_n c10 hs
        refine xi_iload 7 dX0_waiting_77 rfl ?_
        refine xi_iload 0 dX0_waiting_79 rfl ?_
        refine xi_ior (v := c.2.1 ||| (v8 &&& (w2 ^^^ (-1 : Int32)))) dX0_waiting_81 rfl ?_
        refine xi_istore (lv' := [(6, .int (c.2.1 ||| (v8 &&& (w2 ^^^ (-1 : Int32))))), (9, .int (v8 &&& (w2 ^^^ (-1 : Int32)))), (0, .ref 90), (1, .int w1), (2, .int w2), (3, .int w3), (4, .int w4), (5, .int c.1), (7, .int w7), (8, .int c.2.2)]) dX0_waiting_82 (by decide) rfl ?_
        refine xi_iload 0 dX0_waiting_84 rfl ?_
        obtain ⟨v11, t12, k13, hs⟩ := bnd_some hs
        refine xi_callS (as := [.int (c.2.1 ||| (v8 &&& (w2 ^^^ (-1 : Int32))))]) (rest := []) dX0_waiting_86 (KJ6_bitCount_0f7a4 G Gb (c.2.1 ||| (v8 &&& (w2 ^^^ (-1 : Int32)))) _ _ _ k13) mkJ6_bitCount_0f7a4 w_508 w_692 rfl rfl (Nat.le_of_ble_eq_true rfl) (Nat.le_of_ble_eq_true rfl) (Nat.le_of_ble_eq_true rfl) (Nat.le_of_ble_eq_true rfl) (Nat.le_of_ble_eq_true rfl) ?_
        intro v M2 hz
        obtain ⟨rfl, rfl⟩ := hz
        show xW _ _ _ _ 89 _ [.int v11] (mem t12 Gb) _ _
        refine xi_iload 9 dX0_waiting_89 rfl ?_
        refine xi_iload_n 5 dX0_waiting_91 rfl ?_
        refine xi_iadd (v := c.2.2 + w3) dX0_waiting_92 rfl ?_
        refine xi_iconst (v := 1) dX0_waiting_93 (by decide) ?_
        refine xi_iadd (v := (c.2.2 + w3) + (1 : Int32)) dX0_waiting_94 rfl ?_
        refine xi_iload_n 3 dX0_waiting_95 rfl ?_
        refine xi_isub (v := ((c.2.2 + w3) + (1 : Int32)) - w1) dX0_waiting_96 rfl ?_
        refine xi_icmp_le (tgt := 102) dX0_waiting_97 (by decide) (fun c14 => ?_) (fun c14 => ?_)
        · replace hs := ite_p c14 hs
          refine xi_iload 7 dX0_waiting_102 rfl ?_
          refine xi_aload_n 2 dX0_waiting_104 rfl ?_
          refine yi_getR (f := 1) dX0_waiting_105 sh_90 rfl ok_0 (by decide) w_208 rfl ?_
          refine xi_iload 9 dX0_waiting_108 rfl ?_
          obtain ⟨g15, hs⟩ := chk_some hs
          obtain ⟨v16, h17, hs⟩ := rdb_some hs
          refine yi_ialoadV dX0_waiting_110 sh_95 g15 h17 ?_
          refine xi_iconst (v := 1) dX0_waiting_111 (by decide) ?_
          refine xi_iadd (v := v16 + (1 : Int32)) dX0_waiting_112 rfl ?_
          refine xi_iconst (v := 4) dX0_waiting_113 (by decide) ?_
          refine xi_iload 9 dX0_waiting_114 rfl ?_
          refine xi_iconst (v := 3) dX0_waiting_116 (by decide) ?_
          refine xi_iand (v := c.2.2 &&& (3 : Int32)) dX0_waiting_117 rfl ?_
          refine xi_imul (v := (4 : Int32) * (c.2.2 &&& (3 : Int32))) dX0_waiting_118 rfl ?_
          refine xi_ishl (v := shl (v16 + (1 : Int32)) ((4 : Int32) * (c.2.2 &&& (3 : Int32)))) dX0_waiting_119 rfl ?_
          refine xi_ior (v := c.1 ||| (shl (v16 + (1 : Int32)) ((4 : Int32) * (c.2.2 &&& (3 : Int32))))) dX0_waiting_120 rfl ?_
          refine xi_istore (lv' := [(5, .int (c.1 ||| (shl (v16 + (1 : Int32)) ((4 : Int32) * (c.2.2 &&& (3 : Int32)))))), (6, .int (c.2.1 ||| (v8 &&& (w2 ^^^ (-1 : Int32))))), (9, .int (v8 &&& (w2 ^^^ (-1 : Int32)))), (0, .ref 90), (1, .int w1), (2, .int w2), (3, .int w3), (4, .int w4), (7, .int w7), (8, .int c.2.2)]) dX0_waiting_121 (by decide) rfl ?_
          refine xi_iinc (v := (c.2.2 + 1)) (lv' := [(8, .int (c.2.2 + 1)), (5, .int (c.1 ||| (shl (v16 + (1 : Int32)) ((4 : Int32) * (c.2.2 &&& (3 : Int32)))))), (6, .int (c.2.1 ||| (v8 &&& (w2 ^^^ (-1 : Int32))))), (9, .int (v8 &&& (w2 ^^^ (-1 : Int32)))), (0, .ref 90), (1, .int w1), (2, .int w2), (3, .int w3), (4, .int w4), (7, .int w7)]) 9 dX0_waiting_123 rfl rfl (by decide) rfl ?_
          refine xi_goto (tgt := 44) dX0_waiting_126 (by decide) ?_
          refine xi_sub (lv' := [(0, .ref 90), (1, .int w1), (2, .int w2), (3, .int w3), (4, .int w4), (5, .int (c.1 ||| (shl (v16 + (1 : Int32)) ((4 : Int32) * (c.2.2 &&& (3 : Int32)))))), (6, .int (c.2.1 ||| (v8 &&& (w2 ^^^ (-1 : Int32))))), (7, .int w7), (8, .int (c.2.2 + 1))]) [4, 5, 6, 7, 8, 1, 2, 9, 0] rfl ?_
          obtain ⟨rfl, rfl⟩ := some_pair hs
          exact ih ((c.1 ||| (shl (v16 + (1 : Int32)) ((4 : Int32) * (c.2.2 &&& (3 : Int32))))), (c.2.1 ||| (v8 &&& (w2 ^^^ (-1 : Int32)))), (c.2.2 + 1)) t12 _ _ h HE
        · replace hs := ite_n c14 hs
          refine xi_iconst (v := (-1)) dX0_waiting_100 (by decide) ?_
          obtain ⟨rfl, rfl⟩ := some_pair hs
          obtain ⟨rfl, rfl⟩ := some_pair h
          have r18 := HE
          obtain ⟨rfl, rfl⟩ := r18
          exact xi_iret dX0_waiting_101 rfl rfl (Nat.le_of_ble_eq_true rfl) (Nat.le_of_ble_eq_true rfl) ⟨rfl, rfl⟩
noncomputable def FX0_waiting (a : Int32) (b : Int32) (c : Int32) (σ : St) : Option ((Int32) × St) :=
  (rdb σ 91 (0) (fun v1 => (bnd (wh (SX0_waiting_44 a b c ((shl c (9 : Int32)) ||| b) (mnI (a - (1 : Int32)) ((v1 - (2 : Int32)) - c))) ((0 : Int32), (0 : Int32), (mxI (0 : Int32) ((a - (1 : Int32)) - c))) σ) (fun e19 t20 => Sum.elim (fun e19 => (some (e19, t20))) (fun e19 => (some (((shl ((shl c (9 : Int32)) ||| b) (16 : Int32)) ||| e19), t20))) e19))))
set_option maxHeartbeats 4000000 in
set_option maxRecDepth 100000 in
theorem KX0_waiting (G : xG) (Gb : xMem) (a : Int32) (b : Int32) (c : Int32) (σ : St) (r0 : Int32) (t0 : St) (hq : FX0_waiting a b c σ = some (r0, t0)) : xC G mX0_waiting 1 0 0 [.ref 90, .int a, .int b, .int c] (mem σ Gb) (PQ r0 t0 Gb) := by
  unfold FX0_waiting at hq
  refine xC.of (by decide) (Nat.le_of_ble_eq_true rfl) ?_
  show xW _ _ _ _ 0 [(0, .ref 90), (1, .int a), (2, .int b), (3, .int c)] [] _ 0 0
  refine xi_iload_n 3 dX0_waiting_0 rfl ?_
  refine xi_bipush (v := 9) dX0_waiting_1 (by decide) ?_
  refine xi_ishl (v := shl c (9 : Int32)) dX0_waiting_3 rfl ?_
  refine xi_iload_n 2 dX0_waiting_4 rfl ?_
  refine xi_ior (v := (shl c (9 : Int32)) ||| b) dX0_waiting_5 rfl ?_
  refine xi_istore (lv' := [(4, .int ((shl c (9 : Int32)) ||| b)), (0, .ref 90), (1, .int a), (2, .int b), (3, .int c)]) dX0_waiting_6 (by decide) rfl ?_
  refine xi_iconst (v := 0) dX0_waiting_8 (by decide) ?_
  refine xi_istore (lv' := [(5, .int 0), (4, .int ((shl c (9 : Int32)) ||| b)), (0, .ref 90), (1, .int a), (2, .int b), (3, .int c)]) dX0_waiting_9 (by decide) rfl ?_
  refine xi_iconst (v := 0) dX0_waiting_11 (by decide) ?_
  refine xi_istore (lv' := [(6, .int 0), (5, .int 0), (4, .int ((shl c (9 : Int32)) ||| b)), (0, .ref 90), (1, .int a), (2, .int b), (3, .int c)]) dX0_waiting_12 (by decide) rfl ?_
  refine xi_iload_n 4 dX0_waiting_14 rfl ?_
  refine xi_iconst (v := 1) dX0_waiting_15 (by decide) ?_
  refine xi_isub (v := a - (1 : Int32)) dX0_waiting_16 rfl ?_
  refine xi_aload_n 3 dX0_waiting_17 rfl ?_
  refine yi_getR (f := 0) dX0_waiting_18 sh_90 rfl ok_0 (by decide) w_207 rfl ?_
  obtain ⟨v1, h2, hq⟩ := rdb_some hq
  refine yi_getV (f := 0) dX0_waiting_21 sh_91 rfl ok_5 (by decide) w_64 rfl h2 ?_
  refine xi_iconst (v := 2) dX0_waiting_24 (by decide) ?_
  refine xi_isub (v := v1 - (2 : Int32)) dX0_waiting_25 rfl ?_
  refine xi_iload_n 6 dX0_waiting_26 rfl ?_
  refine xi_isub (v := (v1 - (2 : Int32)) - c) dX0_waiting_27 rfl ?_
  refine xi_min (v := (mnI (a - (1 : Int32)) ((v1 - (2 : Int32)) - c))) dX0_waiting_28 w_690 w_385 w_3 w_mmin (Nat.le_of_ble_eq_true rfl) (Nat.le_of_ble_eq_true rfl) (Nat.le_of_ble_eq_true rfl) (Nat.le_of_ble_eq_true rfl) (Nat.le_of_ble_eq_true rfl) rfl ?_
  refine xi_istore (lv' := [(7, .int (mnI (a - (1 : Int32)) ((v1 - (2 : Int32)) - c))), (6, .int 0), (5, .int 0), (4, .int ((shl c (9 : Int32)) ||| b)), (0, .ref 90), (1, .int a), (2, .int b), (3, .int c)]) dX0_waiting_31 (by decide) rfl ?_
  refine xi_iconst (v := 0) dX0_waiting_33 (by decide) ?_
  refine xi_iload_n 5 dX0_waiting_34 rfl ?_
  refine xi_iconst (v := 1) dX0_waiting_35 (by decide) ?_
  refine xi_isub (v := a - (1 : Int32)) dX0_waiting_36 rfl ?_
  refine xi_iload_n 7 dX0_waiting_37 rfl ?_
  refine xi_isub (v := (a - (1 : Int32)) - c) dX0_waiting_38 rfl ?_
  refine xi_max (v := (mxI (0 : Int32) ((a - (1 : Int32)) - c))) dX0_waiting_39 w_691 w_37 w_3 w_mmax (Nat.le_of_ble_eq_true rfl) (Nat.le_of_ble_eq_true rfl) (Nat.le_of_ble_eq_true rfl) (Nat.le_of_ble_eq_true rfl) (Nat.le_of_ble_eq_true rfl) rfl ?_
  refine xi_istore (lv' := [(8, .int (mxI (0 : Int32) ((a - (1 : Int32)) - c))), (7, .int (mnI (a - (1 : Int32)) ((v1 - (2 : Int32)) - c))), (6, .int 0), (5, .int 0), (4, .int ((shl c (9 : Int32)) ||| b)), (0, .ref 90), (1, .int a), (2, .int b), (3, .int c)]) dX0_waiting_42 (by decide) rfl ?_
  refine xi_sub (lv' := [(0, .ref 90), (1, .int a), (2, .int b), (3, .int c), (4, .int ((shl c (9 : Int32)) ||| b)), (5, .int 0), (6, .int 0), (7, .int (mnI (a - (1 : Int32)) ((v1 - (2 : Int32)) - c))), (8, .int (mxI (0 : Int32) ((a - (1 : Int32)) - c)))]) [5, 6, 7, 8, 4, 3, 2, 1, 0] rfl ?_
  obtain ⟨e19, t20, k21, hq⟩ := bnd_some hq
  obtain ⟨n22, k21⟩ := wh_itr k21
  refine SX0_waiting_44_w G Gb a b c ((shl c (9 : Int32)) ||| b) (mnI (a - (1 : Int32)) ((v1 - (2 : Int32)) - c)) r0 t0 n22 ((0 : Int32), (0 : Int32), (mxI (0 : Int32) ((a - (1 : Int32)) - c))) σ _ _ k21 ?_
  rcases e19 with e19 | e19
  · replace hq := sel_l hq
    have r23 := some_pair hq
    exact r23
  · replace hq := sel_r hq
    show xW G mX0_waiting (xrm 1 0 0) (xQ G (PQ r0 t0 Gb) 0 0) 129 [(4, .int ((shl c (9 : Int32)) ||| b)), (5, .int e19)] [] (mem t20 Gb) 0 0
    refine xi_iload 0 dX0_waiting_129 rfl ?_
    refine xi_bipush (v := 16) dX0_waiting_131 (by decide) ?_
    refine xi_ishl (v := shl ((shl c (9 : Int32)) ||| b) (16 : Int32)) dX0_waiting_133 rfl ?_
    refine xi_iload 1 dX0_waiting_134 rfl ?_
    refine xi_ior (v := (shl ((shl c (9 : Int32)) ||| b) (16 : Int32)) ||| e19) dX0_waiting_136 rfl ?_
    have r24 := some_pair hq
    obtain ⟨rfl, rfl⟩ := r24
    exact xi_iret dX0_waiting_137 rfl rfl (Nat.le_of_ble_eq_true rfl) (Nat.le_of_ble_eq_true rfl) ⟨rfl, rfl⟩
noncomputable def SX0_rowsFrom_66 (rec : Int32 → Int32 → Int32 → St → Option ((Int32) × St)) (w1 : Int32) (w2 : Int32) (w3 : Int32) (w4 : Int32) (w5 : Int32) (c : Int32 × Int32) (σ : St) : Option (((Int32 × Int32) ⊕ (Int32)) × St) :=
  (rdb σ 91 (0) (fun v12 => (if v12 ≤ c.2 then (some (Sum.inr c.1, σ)) else (bnd (if ((shr w2 c.2) &&& (1 : Int32)) = (0 : Int32) then (chk (inb w1 9) (wrb σ 95 (w1.toNatClampNeg) c.2 (fun t21 => (bnd (rec (w1 + (1 : Int32)) (w2 ||| (shl (1 : Int32) c.2)) w3 t21) (fun v23 t24 => (some ((c.1 + v23), t24))))))) else (some (c.1, σ))) (fun v16 t17 => (some (Sum.inl (v16, (c.2 + 1)), t17)))))))
set_option maxHeartbeats 4000000 in
set_option maxRecDepth 100000 in
theorem SX0_rowsFrom_66_w (G : xG) (Gb : xMem) (nn : Nat) (rec : Int32 → Int32 → Int32 → St → Option ((Int32) × St)) (IH : ∀ (a : Int32) (b : Int32) (c : Int32) (σ : St) (r : Int32) (σ' : St), rec a b c σ = some (r, σ') → xC G mX0_rowsFrom (nn + 2) 0 0 [.ref 90, .int a, .int b, .int c] (mem σ Gb) (PQ r σ' Gb)) (w1 : Int32) (w2 : Int32) (w3 : Int32) (w4 : Int32) (w5 : Int32) (r0 : Int32) (t0 : St) :
    ∀ (k : Nat) (c : Int32 × Int32) (σ : St) (r : Int32) (σ' : St), itr (SX0_rowsFrom_66 rec w1 w2 w3 w4 w5) k c σ = some (r, σ') → (xW G mX0_rowsFrom (xrm (nn + 1 + 2) 0 0) (xQ G (PQ r0 t0 Gb) 0 0) 120 [(0, .ref 90), (4, .int w4), (5, .int w5), (6, .int r)] [] (mem σ' Gb) 0 0) → xW G mX0_rowsFrom (xrm (nn + 1 + 2) 0 0) (xQ G (PQ r0 t0 Gb) 0 0) 66 [(0, .ref 90), (1, .int w1), (2, .int w2), (3, .int w3), (4, .int w4), (5, .int w5), (6, .int c.1), (7, .int c.2)] [] (mem σ Gb) 0 0 := by
  intro k
  induction k with
  | zero =>
    intro c σ r σ' h
    exact absurd h (itr_zero _ _ _ _)
  | succ k ih =>
    intro c σ r σ' h HE
    obtain ⟨x, s1, hs, h⟩ := itr_succ h
    unfold SX0_rowsFrom_66 at hs
    refine xi_iload 7 dX0_rowsFrom_66 rfl ?_
    refine xi_aload_n 0 dX0_rowsFrom_68 rfl ?_
    refine yi_getR (f := 0) dX0_rowsFrom_69 sh_90 rfl ok_0 (by decide) w_207 rfl ?_
    obtain ⟨v12, h13, hs⟩ := rdb_some hs
    refine yi_getV (f := 0) dX0_rowsFrom_72 sh_91 rfl ok_5 (by decide) w_64 rfl h13 ?_
    refine xi_icmp_ge (tgt := 120) dX0_rowsFrom_75 (by decide) (fun c14 => ?_) (fun c14 => ?_)
    · replace hs := ite_p c14 hs
      refine xi_sub (lv' := [(0, .ref 90), (4, .int w4), (5, .int w5), (6, .int c.1)]) [0, 4, 5, 6] rfl ?_
      obtain ⟨rfl, rfl⟩ := some_pair hs
      obtain ⟨rfl, rfl⟩ := some_pair h
      exact HE
    · replace hs := ite_n c14 hs
      refine xi_iload_n 2 dX0_rowsFrom_78 rfl ?_
      refine xi_iload 7 dX0_rowsFrom_79 rfl ?_
      refine xi_ishr (v := shr w2 c.2) dX0_rowsFrom_81 rfl ?_
      refine xi_iconst (v := 1) dX0_rowsFrom_82 (by decide) ?_
      refine xi_iand (v := (shr w2 c.2) &&& (1 : Int32)) dX0_rowsFrom_83 rfl ?_
      obtain ⟨v16, t17, m18, hs⟩ := bnd_some hs
      have key19 : xW G mX0_rowsFrom (xrm (nn + 1 + 2) 0 0) (xQ G (PQ r0 t0 Gb) 0 0) 114 [(0, .ref 90), (1, .int w1), (2, .int w2), (3, .int w3), (4, .int w4), (5, .int w5), (6, .int v16), (7, .int c.2)] [] (mem t17 Gb) 0 0 := by
        refine xi_iinc (v := (c.2 + 1)) (lv' := [(7, .int (c.2 + 1)), (0, .ref 90), (1, .int w1), (2, .int w2), (3, .int w3), (4, .int w4), (5, .int w5), (6, .int v16)]) 7 dX0_rowsFrom_114 rfl rfl (by decide) rfl ?_
        refine xi_goto (tgt := 66) dX0_rowsFrom_117 (by decide) ?_
        refine xi_sub (lv' := [(0, .ref 90), (1, .int w1), (2, .int w2), (3, .int w3), (4, .int w4), (5, .int w5), (6, .int v16), (7, .int (c.2 + 1))]) [1, 2, 3, 4, 5, 6, 7, 0] rfl ?_
        obtain ⟨rfl, rfl⟩ := some_pair hs
        exact ih (v16, (c.2 + 1)) t17 _ _ h HE
      refine xi_if_ne (tgt := 114) dX0_rowsFrom_84 (by decide) (fun c15 => ?_) (fun c15 => ?_)
      · replace m18 := ite_n c15 m18
        obtain ⟨rfl, rfl⟩ := some_pair m18
        exact key19
      · replace m18 := ite_p c15 m18
        refine xi_aload_n 0 dX0_rowsFrom_87 rfl ?_
        refine yi_getR (f := 1) dX0_rowsFrom_88 sh_90 rfl ok_0 (by decide) w_208 rfl ?_
        refine xi_iload_n 1 dX0_rowsFrom_91 rfl ?_
        refine xi_iload 7 dX0_rowsFrom_92 rfl ?_
        obtain ⟨g20, m18⟩ := chk_some m18
        obtain ⟨t21, h22, m18⟩ := wrb_some m18
        refine yi_iastoreV dX0_rowsFrom_94 sh_95 g20 h22 ?_
        refine xi_iload 6 dX0_rowsFrom_95 rfl ?_
        refine xi_aload_n 0 dX0_rowsFrom_97 rfl ?_
        refine xi_iload_n 1 dX0_rowsFrom_98 rfl ?_
        refine xi_iconst (v := 1) dX0_rowsFrom_99 (by decide) ?_
        refine xi_iadd (v := w1 + (1 : Int32)) dX0_rowsFrom_100 rfl ?_
        refine xi_iload_n 2 dX0_rowsFrom_101 rfl ?_
        refine xi_iconst (v := 1) dX0_rowsFrom_102 (by decide) ?_
        refine xi_iload 7 dX0_rowsFrom_103 rfl ?_
        refine xi_ishl (v := shl (1 : Int32) c.2) dX0_rowsFrom_105 rfl ?_
        refine xi_ior (v := w2 ||| (shl (1 : Int32) c.2)) dX0_rowsFrom_106 rfl ?_
        refine xi_iload_n 3 dX0_rowsFrom_107 rfl ?_
        obtain ⟨v23, t24, k25, m18⟩ := bnd_some m18
        refine xi_callV (as := [.int (w1 + (1 : Int32)), .int (w2 ||| (shl (1 : Int32) c.2)), .int w3]) (rest := [.int c.1]) dX0_rowsFrom_108 (IH (w1 + (1 : Int32)) (w2 ||| (shl (1 : Int32) c.2)) w3 _ _ _ k25) mkX0_rowsFrom w_684 ws_19 w_682 (mem_get sh_90) rfl rfl rfl rfl (Nat.le_of_ble_eq_true rfl) (by simp only [xrm]; omega) (by simp only [xrm]; omega) (Nat.le_of_ble_eq_true rfl) (Nat.le_of_ble_eq_true rfl) ?_
        intro v M2 hz
        obtain ⟨rfl, rfl⟩ := hz
        show xW _ _ _ _ 111 _ [.int v23, .int c.1] (mem t24 Gb) _ _
        refine xi_iadd (v := c.1 + v23) dX0_rowsFrom_111 rfl ?_
        refine xi_istore (lv' := [(6, .int (c.1 + v23)), (0, .ref 90), (1, .int w1), (2, .int w2), (3, .int w3), (4, .int w4), (5, .int w5), (7, .int c.2)]) dX0_rowsFrom_112 (by decide) rfl ?_
        obtain ⟨rfl, rfl⟩ := some_pair m18
        refine xi_sub (lv' := [(0, .ref 90), (1, .int w1), (2, .int w2), (3, .int w3), (4, .int w4), (5, .int w5), (6, .int (c.1 + v23)), (7, .int c.2)]) [1, 2, 3, 4, 5, 6, 0, 7] rfl ?_
        exact key19
noncomputable def FX0_rowsFrom_b (rec : Int32 → Int32 → Int32 → St → Option ((Int32) × St)) (a : Int32) (b : Int32) (c : Int32) (σ : St) : Option ((Int32) × St) :=
  (rdb σ 91 (0) (fun v1 => (if a < v1 then (bnd (FX0_waiting a b c σ) (fun v4 t5 => (if v4 = (-1 : Int32) then (some ((0 : Int32), t5)) else (chk (inb (ushr (v4 * (-1640531535 : Int32)) (20 : Int32)) 4096) (rdb t5 96 ((ushr (v4 * (-1640531535 : Int32)) (20 : Int32)).toNatClampNeg) (fun v9 => (if v9 = v4 then (chk (inb (ushr (v4 * (-1640531535 : Int32)) (20 : Int32)) 4096) (rdb t5 97 ((ushr (v4 * (-1640531535 : Int32)) (20 : Int32)).toNatClampNeg) (fun v38 => (some (v38, t5))))) else (bnd (wh (SX0_rowsFrom_66 rec a b c v4 (ushr (v4 * (-1640531535 : Int32)) (20 : Int32))) ((0 : Int32), (0 : Int32)) t5) (fun e26 t27 => (chk (inb (ushr (v4 * (-1640531535 : Int32)) (20 : Int32)) 4096) (wrb t27 96 ((ushr (v4 * (-1640531535 : Int32)) (20 : Int32)).toNatClampNeg) v4 (fun t31 => (chk (inb (ushr (v4 * (-1640531535 : Int32)) (20 : Int32)) 4096) (wrb t31 97 ((ushr (v4 * (-1640531535 : Int32)) (20 : Int32)).toNatClampNeg) e26 (fun t34 => (some (e26, t34))))))))))))))))) else (some ((1 : Int32), σ)))))
noncomputable def FX0_rowsFrom : Nat → Int32 → Int32 → Int32 → St → Option ((Int32) × St)
  | 0 => fun _ _ _ _ => none
  | n + 1 => FX0_rowsFrom_b (FX0_rowsFrom n)
set_option maxHeartbeats 4000000 in
set_option maxRecDepth 100000 in
theorem KX0_rowsFrom_b (G : xG) (Gb : xMem) (nn : Nat) (rec : Int32 → Int32 → Int32 → St → Option ((Int32) × St)) (IH : ∀ (a : Int32) (b : Int32) (c : Int32) (σ : St) (r : Int32) (σ' : St), rec a b c σ = some (r, σ') → xC G mX0_rowsFrom (nn + 2) 0 0 [.ref 90, .int a, .int b, .int c] (mem σ Gb) (PQ r σ' Gb)) (a : Int32) (b : Int32) (c : Int32) (σ : St) (r0 : Int32) (t0 : St) (hq : FX0_rowsFrom_b rec a b c σ = some (r0, t0)) : xC G mX0_rowsFrom (nn + 1 + 2) 0 0 [.ref 90, .int a, .int b, .int c] (mem σ Gb) (PQ r0 t0 Gb) := by
  unfold FX0_rowsFrom_b at hq
  refine xC.of (by decide) (Nat.le_of_ble_eq_true rfl) ?_
  show xW _ _ _ _ 0 [(0, .ref 90), (1, .int a), (2, .int b), (3, .int c)] [] _ 0 0
  refine xi_iload_n 1 dX0_rowsFrom_0 rfl ?_
  refine xi_aload_n 0 dX0_rowsFrom_1 rfl ?_
  refine yi_getR (f := 0) dX0_rowsFrom_2 sh_90 rfl ok_0 (by decide) w_207 rfl ?_
  obtain ⟨v1, h2, hq⟩ := rdb_some hq
  refine yi_getV (f := 0) dX0_rowsFrom_5 sh_91 rfl ok_5 (by decide) w_64 rfl h2 ?_
  refine xi_icmp_lt (tgt := 13) dX0_rowsFrom_8 (by decide) (fun c3 => ?_) (fun c3 => ?_)
  · replace hq := ite_p c3 hq
    refine xi_aload_n 0 dX0_rowsFrom_13 rfl ?_
    refine xi_iload_n 1 dX0_rowsFrom_14 rfl ?_
    refine xi_iload_n 2 dX0_rowsFrom_15 rfl ?_
    refine xi_iload_n 3 dX0_rowsFrom_16 rfl ?_
    obtain ⟨v4, t5, k6, hq⟩ := bnd_some hq
    refine xi_callV (as := [.int a, .int b, .int c]) (rest := []) dX0_rowsFrom_17 (KX0_waiting G Gb a b c _ _ _ k6) mkX0_waiting w_688 ws_20 w_686 (mem_get sh_90) rfl rfl rfl rfl (Nat.le_of_ble_eq_true rfl) (by simp only [xrm]; omega) (by simp only [xrm]; omega) (Nat.le_of_ble_eq_true rfl) (Nat.le_of_ble_eq_true rfl) ?_
    intro v M2 hz
    obtain ⟨rfl, rfl⟩ := hz
    show xW _ _ _ _ 20 _ [.int v4] (mem t5 Gb) _ _
    refine xi_istore (lv' := [(4, .int v4), (0, .ref 90), (1, .int a), (2, .int b), (3, .int c)]) dX0_rowsFrom_20 (by decide) rfl ?_
    refine xi_iload 0 dX0_rowsFrom_22 rfl ?_
    refine xi_iconst (v := (-1)) dX0_rowsFrom_24 (by decide) ?_
    refine xi_icmp_ne (tgt := 30) dX0_rowsFrom_25 (by decide) (fun c7 => ?_) (fun c7 => ?_)
    · replace hq := ite_n c7 hq
      refine xi_iload 0 dX0_rowsFrom_30 rfl ?_
      refine xi_ldc (v := (-1640531535)) dX0_rowsFrom_32 w_693 ?_
      refine xi_imul (v := v4 * (-1640531535 : Int32)) dX0_rowsFrom_34 rfl ?_
      refine xi_bipush (v := 20) dX0_rowsFrom_35 (by decide) ?_
      refine xi_iushr (v := ushr (v4 * (-1640531535 : Int32)) (20 : Int32)) dX0_rowsFrom_37 rfl ?_
      refine xi_istore (lv' := [(5, .int (ushr (v4 * (-1640531535 : Int32)) (20 : Int32))), (4, .int v4), (0, .ref 90), (1, .int a), (2, .int b), (3, .int c)]) dX0_rowsFrom_38 (by decide) rfl ?_
      refine xi_aload_n 2 dX0_rowsFrom_40 rfl ?_
      refine yi_getR (f := 2) dX0_rowsFrom_41 sh_90 rfl ok_0 (by decide) w_209 rfl ?_
      refine xi_iload 0 dX0_rowsFrom_44 rfl ?_
      obtain ⟨g8, hq⟩ := chk_some hq
      obtain ⟨v9, h10, hq⟩ := rdb_some hq
      refine yi_ialoadV dX0_rowsFrom_46 sh_96 g8 h10 ?_
      refine xi_iload 1 dX0_rowsFrom_47 rfl ?_
      refine xi_icmp_ne (tgt := 60) dX0_rowsFrom_49 (by decide) (fun c11 => ?_) (fun c11 => ?_)
      · replace hq := ite_n c11 hq
        refine xi_iconst (v := 0) dX0_rowsFrom_60 (by decide) ?_
        refine xi_istore (lv' := [(6, .int 0), (5, .int (ushr (v4 * (-1640531535 : Int32)) (20 : Int32))), (4, .int v4), (0, .ref 90), (1, .int a), (2, .int b), (3, .int c)]) dX0_rowsFrom_61 (by decide) rfl ?_
        refine xi_iconst (v := 0) dX0_rowsFrom_63 (by decide) ?_
        refine xi_istore (lv' := [(7, .int 0), (6, .int 0), (5, .int (ushr (v4 * (-1640531535 : Int32)) (20 : Int32))), (4, .int v4), (0, .ref 90), (1, .int a), (2, .int b), (3, .int c)]) dX0_rowsFrom_64 (by decide) rfl ?_
        refine xi_sub (lv' := [(0, .ref 90), (1, .int a), (2, .int b), (3, .int c), (4, .int v4), (5, .int (ushr (v4 * (-1640531535 : Int32)) (20 : Int32))), (6, .int 0), (7, .int 0)]) [4, 5, 6, 7, 3, 2, 1, 0] rfl ?_
        obtain ⟨e26, t27, k28, hq⟩ := bnd_some hq
        obtain ⟨n29, k28⟩ := wh_itr k28
        refine SX0_rowsFrom_66_w G Gb nn rec IH a b c v4 (ushr (v4 * (-1640531535 : Int32)) (20 : Int32)) r0 t0 n29 ((0 : Int32), (0 : Int32)) t5 _ _ k28 ?_
        show xW G mX0_rowsFrom (xrm (nn + 1 + 2) 0 0) (xQ G (PQ r0 t0 Gb) 0 0) 120 [(0, .ref 90), (4, .int v4), (5, .int (ushr (v4 * (-1640531535 : Int32)) (20 : Int32))), (6, .int e26)] [] (mem t27 Gb) 0 0
        refine xi_aload_n 0 dX0_rowsFrom_120 rfl ?_
        refine yi_getR (f := 2) dX0_rowsFrom_121 sh_90 rfl ok_0 (by decide) w_209 rfl ?_
        refine xi_iload 2 dX0_rowsFrom_124 rfl ?_
        refine xi_iload 1 dX0_rowsFrom_126 rfl ?_
        obtain ⟨g30, hq⟩ := chk_some hq
        obtain ⟨t31, h32, hq⟩ := wrb_some hq
        refine yi_iastoreV dX0_rowsFrom_128 sh_96 g30 h32 ?_
        refine xi_aload_n 0 dX0_rowsFrom_129 rfl ?_
        refine yi_getR (f := 3) dX0_rowsFrom_130 sh_90 rfl ok_0 (by decide) w_210 rfl ?_
        refine xi_iload 2 dX0_rowsFrom_133 rfl ?_
        refine xi_iload 3 dX0_rowsFrom_135 rfl ?_
        obtain ⟨g33, hq⟩ := chk_some hq
        obtain ⟨t34, h35, hq⟩ := wrb_some hq
        refine yi_iastoreV dX0_rowsFrom_137 sh_97 g33 h35 ?_
        refine xi_iload 3 dX0_rowsFrom_138 rfl ?_
        have r36 := some_pair hq
        obtain ⟨rfl, rfl⟩ := r36
        exact xi_iret dX0_rowsFrom_140 rfl rfl (Nat.le_of_ble_eq_true rfl) (Nat.le_of_ble_eq_true rfl) ⟨rfl, rfl⟩
      · replace hq := ite_p c11 hq
        refine xi_aload_n 2 dX0_rowsFrom_52 rfl ?_
        refine yi_getR (f := 3) dX0_rowsFrom_53 sh_90 rfl ok_0 (by decide) w_210 rfl ?_
        refine xi_iload 0 dX0_rowsFrom_56 rfl ?_
        obtain ⟨g37, hq⟩ := chk_some hq
        obtain ⟨v38, h39, hq⟩ := rdb_some hq
        refine yi_ialoadV dX0_rowsFrom_58 sh_97 g37 h39 ?_
        have r40 := some_pair hq
        obtain ⟨rfl, rfl⟩ := r40
        exact xi_iret dX0_rowsFrom_59 rfl rfl (Nat.le_of_ble_eq_true rfl) (Nat.le_of_ble_eq_true rfl) ⟨rfl, rfl⟩
    · replace hq := ite_p c7 hq
      refine xi_iconst (v := 0) dX0_rowsFrom_28 (by decide) ?_
      have r41 := some_pair hq
      obtain ⟨rfl, rfl⟩ := r41
      exact xi_iret dX0_rowsFrom_29 rfl rfl (Nat.le_of_ble_eq_true rfl) (Nat.le_of_ble_eq_true rfl) ⟨rfl, rfl⟩
  · replace hq := ite_n c3 hq
    refine xi_iconst (v := 1) dX0_rowsFrom_11 (by decide) ?_
    have r42 := some_pair hq
    obtain ⟨rfl, rfl⟩ := r42
    exact xi_iret dX0_rowsFrom_12 rfl rfl (Nat.le_of_ble_eq_true rfl) (Nat.le_of_ble_eq_true rfl) ⟨rfl, rfl⟩
theorem KX0_rowsFrom (G : xG) (Gb : xMem) : ∀ (nn : Nat) (a : Int32) (b : Int32) (c : Int32) (σ : St) (r0 : Int32) (t0 : St), FX0_rowsFrom nn a b c σ = some (r0, t0) → xC G mX0_rowsFrom (nn + 2) 0 0 [.ref 90, .int a, .int b, .int c] (mem σ Gb) (PQ r0 t0 Gb) := by
  intro nn
  induction nn with
  | zero => intro a b c σ r0 t0 h; exact absurd h (by intro q; cases q)
  | succ n ih =>
    intro a b c σ r0 t0 h
    exact KX0_rowsFrom_b G Gb n (FX0_rowsFrom n) ih a b c σ r0 t0 h
noncomputable def SX0_leadersFrom_6 (w1 : Int32) (w2 : Int32) (w3 : Int32) (c : Int32 × Int32) (σ : St) : Option (((Int32 × Int32) ⊕ (Int32)) × St) :=
  (rdb σ 91 (0) (fun v1 => (if v1 ≤ c.2 then (some (Sum.inr c.1, σ)) else (bnd (if ((shr w2 c.2) &&& (1 : Int32)) = (0 : Int32) then (chk (inb w1 9) (wrb σ 95 (w1.toNatClampNeg) c.2 (fun t10 => (bnd (FX0_rowsFrom 11 (w1 + (1 : Int32)) (w2 ||| (shl (1 : Int32) c.2)) w3 t10) (fun v12 t13 => (if v12 ≤ (0 : Int32) then (some (c.1, t13)) else (some ((c.1 ||| (shl (1 : Int32) c.2)), t13)))))))) else (some (c.1, σ))) (fun v5 t6 => (some (Sum.inl (v5, (c.2 + 1)), t6)))))))
set_option maxHeartbeats 4000000 in
set_option maxRecDepth 100000 in
theorem SX0_leadersFrom_6_w (G : xG) (Gb : xMem) (w1 : Int32) (w2 : Int32) (w3 : Int32) (r0 : Int32) (t0 : St) :
    ∀ (k : Nat) (c : Int32 × Int32) (σ : St) (r : Int32) (σ' : St), itr (SX0_leadersFrom_6 w1 w2 w3) k c σ = some (r, σ') → (xW G mX0_leadersFrom (xrm 14 0 0) (xQ G (PQ r0 t0 Gb) 0 0) 67 [(4, .int r)] [] (mem σ' Gb) 0 0) → xW G mX0_leadersFrom (xrm 14 0 0) (xQ G (PQ r0 t0 Gb) 0 0) 6 [(0, .ref 90), (1, .int w1), (2, .int w2), (3, .int w3), (4, .int c.1), (5, .int c.2)] [] (mem σ Gb) 0 0 := by
  intro k
  induction k with
  | zero =>
    intro c σ r σ' h
    exact absurd h (itr_zero _ _ _ _)
  | succ k ih =>
    intro c σ r σ' h HE
    obtain ⟨x, s1, hs, h⟩ := itr_succ h
    unfold SX0_leadersFrom_6 at hs
    refine xi_iload 5 dX0_leadersFrom_6 rfl ?_
    refine xi_aload_n 0 dX0_leadersFrom_8 rfl ?_
    refine yi_getR (f := 0) dX0_leadersFrom_9 sh_90 rfl ok_0 (by decide) w_207 rfl ?_
    obtain ⟨v1, h2, hs⟩ := rdb_some hs
    refine yi_getV (f := 0) dX0_leadersFrom_12 sh_91 rfl ok_5 (by decide) w_64 rfl h2 ?_
    refine xi_icmp_ge (tgt := 67) dX0_leadersFrom_15 (by decide) (fun c3 => ?_) (fun c3 => ?_)
    · replace hs := ite_p c3 hs
      refine xi_sub (lv' := [(4, .int c.1)]) [4] rfl ?_
      obtain ⟨rfl, rfl⟩ := some_pair hs
      obtain ⟨rfl, rfl⟩ := some_pair h
      exact HE
    · replace hs := ite_n c3 hs
      refine xi_iload_n 2 dX0_leadersFrom_18 rfl ?_
      refine xi_iload 5 dX0_leadersFrom_19 rfl ?_
      refine xi_ishr (v := shr w2 c.2) dX0_leadersFrom_21 rfl ?_
      refine xi_iconst (v := 1) dX0_leadersFrom_22 (by decide) ?_
      refine xi_iand (v := (shr w2 c.2) &&& (1 : Int32)) dX0_leadersFrom_23 rfl ?_
      obtain ⟨v5, t6, m7, hs⟩ := bnd_some hs
      have key8 : xW G mX0_leadersFrom (xrm 14 0 0) (xQ G (PQ r0 t0 Gb) 0 0) 61 [(0, .ref 90), (1, .int w1), (2, .int w2), (3, .int w3), (4, .int v5), (5, .int c.2)] [] (mem t6 Gb) 0 0 := by
        refine xi_iinc (v := (c.2 + 1)) (lv' := [(5, .int (c.2 + 1)), (0, .ref 90), (1, .int w1), (2, .int w2), (3, .int w3), (4, .int v5)]) 5 dX0_leadersFrom_61 rfl rfl (by decide) rfl ?_
        refine xi_goto (tgt := 6) dX0_leadersFrom_64 (by decide) ?_
        refine xi_sub (lv' := [(0, .ref 90), (1, .int w1), (2, .int w2), (3, .int w3), (4, .int v5), (5, .int (c.2 + 1))]) [1, 2, 3, 4, 5, 0] rfl ?_
        obtain ⟨rfl, rfl⟩ := some_pair hs
        exact ih (v5, (c.2 + 1)) t6 _ _ h HE
      refine xi_if_ne (tgt := 61) dX0_leadersFrom_24 (by decide) (fun c4 => ?_) (fun c4 => ?_)
      · replace m7 := ite_n c4 m7
        obtain ⟨rfl, rfl⟩ := some_pair m7
        exact key8
      · replace m7 := ite_p c4 m7
        refine xi_aload_n 0 dX0_leadersFrom_27 rfl ?_
        refine yi_getR (f := 1) dX0_leadersFrom_28 sh_90 rfl ok_0 (by decide) w_208 rfl ?_
        refine xi_iload_n 1 dX0_leadersFrom_31 rfl ?_
        refine xi_iload 5 dX0_leadersFrom_32 rfl ?_
        obtain ⟨g9, m7⟩ := chk_some m7
        obtain ⟨t10, h11, m7⟩ := wrb_some m7
        refine yi_iastoreV dX0_leadersFrom_34 sh_95 g9 h11 ?_
        refine xi_aload_n 0 dX0_leadersFrom_35 rfl ?_
        refine xi_iload_n 1 dX0_leadersFrom_36 rfl ?_
        refine xi_iconst (v := 1) dX0_leadersFrom_37 (by decide) ?_
        refine xi_iadd (v := w1 + (1 : Int32)) dX0_leadersFrom_38 rfl ?_
        refine xi_iload_n 2 dX0_leadersFrom_39 rfl ?_
        refine xi_iconst (v := 1) dX0_leadersFrom_40 (by decide) ?_
        refine xi_iload 5 dX0_leadersFrom_41 rfl ?_
        refine xi_ishl (v := shl (1 : Int32) c.2) dX0_leadersFrom_43 rfl ?_
        refine xi_ior (v := w2 ||| (shl (1 : Int32) c.2)) dX0_leadersFrom_44 rfl ?_
        refine xi_iload_n 3 dX0_leadersFrom_45 rfl ?_
        obtain ⟨v12, t13, k14, m7⟩ := bnd_some m7
        refine xi_callV (as := [.int (w1 + (1 : Int32)), .int (w2 ||| (shl (1 : Int32) c.2)), .int w3]) (rest := []) dX0_leadersFrom_46 (KX0_rowsFrom G Gb 11 (w1 + (1 : Int32)) (w2 ||| (shl (1 : Int32) c.2)) w3 _ _ _ k14) mkX0_rowsFrom w_684 ws_19 w_682 (mem_get sh_90) rfl rfl rfl rfl (Nat.le_of_ble_eq_true rfl) (Nat.le_of_ble_eq_true rfl) (Nat.le_of_ble_eq_true rfl) (Nat.le_of_ble_eq_true rfl) (Nat.le_of_ble_eq_true rfl) ?_
        intro v M2 hz
        obtain ⟨rfl, rfl⟩ := hz
        show xW _ _ _ _ 49 _ [.int v12] (mem t13 Gb) _ _
        refine xi_if_le (tgt := 61) dX0_leadersFrom_49 (by decide) (fun c15 => ?_) (fun c15 => ?_)
        · replace m7 := ite_p c15 m7
          obtain ⟨rfl, rfl⟩ := some_pair m7
          exact key8
        · replace m7 := ite_n c15 m7
          refine xi_iload 4 dX0_leadersFrom_52 rfl ?_
          refine xi_iconst (v := 1) dX0_leadersFrom_54 (by decide) ?_
          refine xi_iload 5 dX0_leadersFrom_55 rfl ?_
          refine xi_ishl (v := shl (1 : Int32) c.2) dX0_leadersFrom_57 rfl ?_
          refine xi_ior (v := c.1 ||| (shl (1 : Int32) c.2)) dX0_leadersFrom_58 rfl ?_
          refine xi_istore (lv' := [(4, .int (c.1 ||| (shl (1 : Int32) c.2))), (0, .ref 90), (1, .int w1), (2, .int w2), (3, .int w3), (5, .int c.2)]) dX0_leadersFrom_59 (by decide) rfl ?_
          obtain ⟨rfl, rfl⟩ := some_pair m7
          refine xi_sub (lv' := [(0, .ref 90), (1, .int w1), (2, .int w2), (3, .int w3), (4, .int (c.1 ||| (shl (1 : Int32) c.2))), (5, .int c.2)]) [1, 2, 3, 4, 0, 5] rfl ?_
          exact key8
noncomputable def FX0_leadersFrom (a : Int32) (b : Int32) (c : Int32) (σ : St) : Option ((Int32) × St) :=
  (bnd (wh (SX0_leadersFrom_6 a b c) ((0 : Int32), (0 : Int32)) σ) (fun e16 t17 => (some (e16, t17))))
set_option maxHeartbeats 4000000 in
set_option maxRecDepth 100000 in
theorem KX0_leadersFrom (G : xG) (Gb : xMem) (a : Int32) (b : Int32) (c : Int32) (σ : St) (r0 : Int32) (t0 : St) (hq : FX0_leadersFrom a b c σ = some (r0, t0)) : xC G mX0_leadersFrom 14 0 0 [.ref 90, .int a, .int b, .int c] (mem σ Gb) (PQ r0 t0 Gb) := by
  unfold FX0_leadersFrom at hq
  refine xC.of (by decide) (Nat.le_of_ble_eq_true rfl) ?_
  show xW _ _ _ _ 0 [(0, .ref 90), (1, .int a), (2, .int b), (3, .int c)] [] _ 0 0
  refine xi_iconst (v := 0) dX0_leadersFrom_0 (by decide) ?_
  refine xi_istore (lv' := [(4, .int 0), (0, .ref 90), (1, .int a), (2, .int b), (3, .int c)]) dX0_leadersFrom_1 (by decide) rfl ?_
  refine xi_iconst (v := 0) dX0_leadersFrom_3 (by decide) ?_
  refine xi_istore (lv' := [(5, .int 0), (4, .int 0), (0, .ref 90), (1, .int a), (2, .int b), (3, .int c)]) dX0_leadersFrom_4 (by decide) rfl ?_
  refine xi_sub (lv' := [(0, .ref 90), (1, .int a), (2, .int b), (3, .int c), (4, .int 0), (5, .int 0)]) [2, 3, 4, 5, 1, 0] rfl ?_
  obtain ⟨e16, t17, k18, hq⟩ := bnd_some hq
  obtain ⟨n19, k18⟩ := wh_itr k18
  refine SX0_leadersFrom_6_w G Gb a b c r0 t0 n19 ((0 : Int32), (0 : Int32)) σ _ _ k18 ?_
  show xW G mX0_leadersFrom (xrm 14 0 0) (xQ G (PQ r0 t0 Gb) 0 0) 67 [(4, .int e16)] [] (mem t17 Gb) 0 0
  refine xi_iload 0 dX0_leadersFrom_67 rfl ?_
  have r20 := some_pair hq
  obtain ⟨rfl, rfl⟩ := r20
  exact xi_iret dX0_leadersFrom_69 rfl rfl (Nat.le_of_ble_eq_true rfl) (Nat.le_of_ble_eq_true rfl) ⟨rfl, rfl⟩
noncomputable def SX0_leastLimit_2 (c : Int32) (σ : St) : Option (((Int32) ⊕ ((Int32) ⊕ (Unit))) × St) :=
  (rdb σ 91 (0) (fun v1 => (if (v1 - (1 : Int32)) ≤ c then (some (Sum.inr (Sum.inr ()), σ)) else (bnd (FX0_rowsFrom 11 (0 : Int32) (0 : Int32) c σ) (fun v4 t5 => (if v4 ≤ (0 : Int32) then (some (Sum.inl (c + 1), t5)) else (some (Sum.inr (Sum.inl c), t5))))))))
set_option maxHeartbeats 4000000 in
set_option maxRecDepth 100000 in
theorem SX0_leastLimit_2_w (G : xG) (Gb : xMem) (r0 : Int32) (t0 : St) :
    ∀ (k : Nat) (c : Int32) (σ : St) (r : (Int32) ⊕ (Unit)) (σ' : St), itr (SX0_leastLimit_2) k c σ = some (r, σ') → (Sum.elim (fun v => v = r0 ∧ σ' = t0) (fun e => xW G mX0_leastLimit (xrm 14 0 0) (xQ G (PQ r0 t0 Gb) 0 0) 33 [(0, .ref 90)] [] (mem σ' Gb) 0 0) r) → xW G mX0_leastLimit (xrm 14 0 0) (xQ G (PQ r0 t0 Gb) 0 0) 2 [(0, .ref 90), (1, .int c)] [] (mem σ Gb) 0 0 := by
  intro k
  induction k with
  | zero =>
    intro c σ r σ' h
    exact absurd h (itr_zero _ _ _ _)
  | succ k ih =>
    intro c σ r σ' h HE
    obtain ⟨x, s1, hs, h⟩ := itr_succ h
    unfold SX0_leastLimit_2 at hs
    refine xi_iload_n 1 dX0_leastLimit_2 rfl ?_
    refine xi_aload_n 0 dX0_leastLimit_3 rfl ?_
    refine yi_getR (f := 0) dX0_leastLimit_4 sh_90 rfl ok_0 (by decide) w_207 rfl ?_
    obtain ⟨v1, h2, hs⟩ := rdb_some hs
    refine yi_getV (f := 0) dX0_leastLimit_7 sh_91 rfl ok_5 (by decide) w_64 rfl h2 ?_
    refine xi_iconst (v := 1) dX0_leastLimit_10 (by decide) ?_
    refine xi_isub (v := v1 - (1 : Int32)) dX0_leastLimit_11 rfl ?_
    refine xi_icmp_ge (tgt := 33) dX0_leastLimit_12 (by decide) (fun c3 => ?_) (fun c3 => ?_)
    · replace hs := ite_p c3 hs
      refine xi_sub (lv' := [(0, .ref 90)]) [0] rfl ?_
      obtain ⟨rfl, rfl⟩ := some_pair hs
      obtain ⟨rfl, rfl⟩ := some_pair h
      exact HE
    · replace hs := ite_n c3 hs
      refine xi_aload_n 0 dX0_leastLimit_15 rfl ?_
      refine xi_iconst (v := 0) dX0_leastLimit_16 (by decide) ?_
      refine xi_iconst (v := 0) dX0_leastLimit_17 (by decide) ?_
      refine xi_iload_n 1 dX0_leastLimit_18 rfl ?_
      obtain ⟨v4, t5, k6, hs⟩ := bnd_some hs
      refine xi_callV (as := [.int 0, .int 0, .int c]) (rest := []) dX0_leastLimit_19 (KX0_rowsFrom G Gb 11 (0 : Int32) (0 : Int32) c _ _ _ k6) mkX0_rowsFrom w_684 ws_19 w_682 (mem_get sh_90) rfl rfl rfl rfl (Nat.le_of_ble_eq_true rfl) (Nat.le_of_ble_eq_true rfl) (Nat.le_of_ble_eq_true rfl) (Nat.le_of_ble_eq_true rfl) (Nat.le_of_ble_eq_true rfl) ?_
      intro v M2 hz
      obtain ⟨rfl, rfl⟩ := hz
      show xW _ _ _ _ 22 _ [.int v4] (mem t5 Gb) _ _
      refine xi_if_le (tgt := 27) dX0_leastLimit_22 (by decide) (fun c7 => ?_) (fun c7 => ?_)
      · replace hs := ite_p c7 hs
        refine xi_iinc (v := (c + 1)) (lv' := [(1, .int (c + 1)), (0, .ref 90)]) 1 dX0_leastLimit_27 rfl rfl (by decide) rfl ?_
        refine xi_goto (tgt := 2) dX0_leastLimit_30 (by decide) ?_
        refine xi_sub (lv' := [(0, .ref 90), (1, .int (c + 1))]) [1, 0] rfl ?_
        obtain ⟨rfl, rfl⟩ := some_pair hs
        exact ih (c + 1) t5 _ _ h HE
      · replace hs := ite_n c7 hs
        refine xi_iload_n 1 dX0_leastLimit_25 rfl ?_
        obtain ⟨rfl, rfl⟩ := some_pair hs
        obtain ⟨rfl, rfl⟩ := some_pair h
        have r8 := HE
        obtain ⟨rfl, rfl⟩ := r8
        exact xi_iret dX0_leastLimit_26 rfl rfl (Nat.le_of_ble_eq_true rfl) (Nat.le_of_ble_eq_true rfl) ⟨rfl, rfl⟩
noncomputable def FX0_leastLimit (σ : St) : Option ((Int32) × St) :=
  (bnd (wh (SX0_leastLimit_2) (0 : Int32) σ) (fun e9 t10 => Sum.elim (fun e9 => (some (e9, t10))) (fun e9 => (rdb t10 91 (0) (fun v14 => (some ((v14 - (1 : Int32)), t10))))) e9))
set_option maxHeartbeats 4000000 in
set_option maxRecDepth 100000 in
theorem KX0_leastLimit (G : xG) (Gb : xMem) (σ : St) (r0 : Int32) (t0 : St) (hq : FX0_leastLimit σ = some (r0, t0)) : xC G mX0_leastLimit 14 0 0 [.ref 90] (mem σ Gb) (PQ r0 t0 Gb) := by
  unfold FX0_leastLimit at hq
  refine xC.of (by decide) (Nat.le_of_ble_eq_true rfl) ?_
  show xW _ _ _ _ 0 [(0, .ref 90)] [] _ 0 0
  refine xi_iconst (v := 0) dX0_leastLimit_0 (by decide) ?_
  refine xi_istore_n (lv' := [(1, .int 0), (0, .ref 90)]) dX0_leastLimit_1 (by decide) rfl ?_
  refine xi_sub (lv' := [(0, .ref 90), (1, .int 0)]) [1, 0] rfl ?_
  obtain ⟨e9, t10, k11, hq⟩ := bnd_some hq
  obtain ⟨n12, k11⟩ := wh_itr k11
  refine SX0_leastLimit_2_w G Gb r0 t0 n12 (0 : Int32) σ _ _ k11 ?_
  rcases e9 with e9 | e9
  · replace hq := sel_l hq
    have r13 := some_pair hq
    exact r13
  · replace hq := sel_r hq
    show xW G mX0_leastLimit (xrm 14 0 0) (xQ G (PQ r0 t0 Gb) 0 0) 33 [(0, .ref 90)] [] (mem t10 Gb) 0 0
    refine xi_aload_n 0 dX0_leastLimit_33 rfl ?_
    refine yi_getR (f := 0) dX0_leastLimit_34 sh_90 rfl ok_0 (by decide) w_207 rfl ?_
    obtain ⟨v14, h15, hq⟩ := rdb_some hq
    refine yi_getV (f := 0) dX0_leastLimit_37 sh_91 rfl ok_5 (by decide) w_64 rfl h15 ?_
    refine xi_iconst (v := 1) dX0_leastLimit_40 (by decide) ?_
    refine xi_isub (v := v14 - (1 : Int32)) dX0_leastLimit_41 rfl ?_
    have r16 := some_pair hq
    obtain ⟨rfl, rfl⟩ := r16
    exact xi_iret dX0_leastLimit_42 rfl rfl (Nat.le_of_ble_eq_true rfl) (Nat.le_of_ble_eq_true rfl) ⟨rfl, rfl⟩
noncomputable def FX0_turnTo (x : Nat) (σ : St) : Option ((Unit) × St) :=
  (chk (netAt x) (bnd (FX5_sameLines 91 x σ) (fun v1 t2 => (if v1 = (0 : Int32) then (bnd (FX5_copyFrom 91 x t2) (fun v6 t7 => (bnd (FJ7_fill_53178 96 (-1 : Int32) t7) (fun v9 t10 => (some ((), t10)))))) else (some ((), t2))))))
set_option maxHeartbeats 4000000 in
set_option maxRecDepth 100000 in
theorem KX0_turnTo (G : xG) (Gb : xMem) (x : Nat) (σ : St) (r0 : Unit) (t0 : St) (hq : FX0_turnTo x σ = some (r0, t0)) : xC G mX0_turnTo 2 0 0 [.ref 90, .ref x] (mem σ Gb) (PV r0 t0 Gb) := by
  unfold FX0_turnTo at hq
  refine xC.of (by decide) (Nat.le_of_ble_eq_true rfl) ?_
  show xW _ _ _ _ 0 [(0, .ref 90), (1, .ref x)] [] _ 0 0
  obtain ⟨g_x, hq⟩ := chk_some hq
  refine xi_aload_n 0 dX0_turnTo_0 rfl ?_
  refine yi_getR (f := 0) dX0_turnTo_1 sh_90 rfl ok_0 (by decide) w_207 rfl ?_
  refine xi_aload_n 1 dX0_turnTo_4 rfl ?_
  obtain ⟨v1, t2, k3, hq⟩ := bnd_some hq
  refine xi_callV (as := [.ref x]) (rest := []) dX0_turnTo_5 (KX5_sameLines G Gb 91 x _ _ _ k3) mkX5_sameLines w_460 w_461 w_675 (mem_get sh_91) rfl rfl rfl rfl (Nat.le_of_ble_eq_true rfl) (Nat.le_of_ble_eq_true rfl) (Nat.le_of_ble_eq_true rfl) (Nat.le_of_ble_eq_true rfl) (Nat.le_of_ble_eq_true rfl) ?_
  intro v M2 hz
  obtain ⟨rfl, rfl⟩ := hz
  show xW _ _ _ _ 8 _ [.int v1] (mem t2 Gb) _ _
  refine xi_if_ne (tgt := 27) dX0_turnTo_8 (by decide) (fun c4 => ?_) (fun c4 => ?_)
  · replace hq := ite_n c4 hq
    have r5 := some_pair hq
    obtain ⟨rfl, rfl⟩ := r5
    exact xi_vret dX0_turnTo_27 rfl (Nat.le_of_ble_eq_true rfl) (Nat.le_of_ble_eq_true rfl) ⟨rfl, rfl⟩
  · replace hq := ite_p c4 hq
    refine xi_aload_n 0 dX0_turnTo_11 rfl ?_
    refine yi_getR (f := 0) dX0_turnTo_12 sh_90 rfl ok_0 (by decide) w_207 rfl ?_
    refine xi_aload_n 1 dX0_turnTo_15 rfl ?_
    obtain ⟨v6, t7, k8, hq⟩ := bnd_some hq
    refine xi_callV (as := [.ref x]) (rest := []) dX0_turnTo_16 (KX5_copyFrom G Gb 91 x _ _ _ k8) mkX5_copyFrom w_445 w_446 w_676 (mem_get sh_91) rfl rfl rfl rfl (Nat.le_of_ble_eq_true rfl) (Nat.le_of_ble_eq_true rfl) (Nat.le_of_ble_eq_true rfl) (Nat.le_of_ble_eq_true rfl) (Nat.le_of_ble_eq_true rfl) ?_
    intro v M2 hz
    obtain ⟨rfl, rfl⟩ := hz
    show xW _ _ _ _ 19 _ [] (mem t7 Gb) _ _
    refine xi_aload_n 0 dX0_turnTo_19 rfl ?_
    refine yi_getR (f := 2) dX0_turnTo_20 sh_90 rfl ok_0 (by decide) w_209 rfl ?_
    refine xi_iconst (v := (-1)) dX0_turnTo_23 (by decide) ?_
    obtain ⟨v9, t10, k11, hq⟩ := bnd_some hq
    refine xi_callS (as := [.ref 96, .int (-1)]) (rest := []) dX0_turnTo_24 (KJ7_fill_53178 G Gb 96 (-1 : Int32) _ _ _ k11) mkJ7_fill_53178 w_392 w_677 rfl rfl (Nat.le_of_ble_eq_true rfl) (Nat.le_of_ble_eq_true rfl) (Nat.le_of_ble_eq_true rfl) (Nat.le_of_ble_eq_true rfl) (Nat.le_of_ble_eq_true rfl) ?_
    intro v M2 hz
    obtain ⟨rfl, rfl⟩ := hz
    show xW _ _ _ _ 27 _ [] (mem t10 Gb) _ _
    have r12 := some_pair hq
    obtain ⟨rfl, rfl⟩ := r12
    exact xi_vret dX0_turnTo_27 rfl (Nat.le_of_ble_eq_true rfl) (Nat.le_of_ble_eq_true rfl) ⟨rfl, rfl⟩
noncomputable def SX9_lowest_2 (w0 : Int32) (c : Int32) (σ : St) : Option (((Int32) ⊕ ((Int32) ⊕ (Unit))) × St) :=
  (if (9 : Int32) ≤ c then (some (Sum.inr (Sum.inr ()), σ)) else (if ((shr w0 c) &&& (1 : Int32)) = (0 : Int32) then (some (Sum.inl (c + 1), σ)) else (some (Sum.inr (Sum.inl c), σ))))
set_option maxHeartbeats 4000000 in
set_option maxRecDepth 100000 in
theorem SX9_lowest_2_w (G : xG) (Gb : xMem) (w0 : Int32) (r0 : Int32) (t0 : St) :
    ∀ (k : Nat) (c : Int32) (σ : St) (r : (Int32) ⊕ (Unit)) (σ' : St), itr (SX9_lowest_2 w0) k c σ = some (r, σ') → (Sum.elim (fun v => v = r0 ∧ σ' = t0) (fun e => xW G mX9_lowest (xrm 0 0 0) (xQ G (PQ r0 t0 Gb) 0 0) 24 [] [] (mem σ' Gb) 0 0) r) → xW G mX9_lowest (xrm 0 0 0) (xQ G (PQ r0 t0 Gb) 0 0) 2 [(0, .int w0), (1, .int c)] [] (mem σ Gb) 0 0 := by
  intro k
  induction k with
  | zero =>
    intro c σ r σ' h
    exact absurd h (itr_zero _ _ _ _)
  | succ k ih =>
    intro c σ r σ' h HE
    obtain ⟨x, s1, hs, h⟩ := itr_succ h
    unfold SX9_lowest_2 at hs
    refine xi_iload_n 1 dX9_lowest_2 rfl ?_
    refine xi_bipush (v := 9) dX9_lowest_3 (by decide) ?_
    refine xi_icmp_ge (tgt := 24) dX9_lowest_5 (by decide) (fun c1 => ?_) (fun c1 => ?_)
    · replace hs := ite_p c1 hs
      refine xi_sub (lv' := []) [] rfl ?_
      obtain ⟨rfl, rfl⟩ := some_pair hs
      obtain ⟨rfl, rfl⟩ := some_pair h
      exact HE
    · replace hs := ite_n c1 hs
      refine xi_iload_n 0 dX9_lowest_8 rfl ?_
      refine xi_iload_n 1 dX9_lowest_9 rfl ?_
      refine xi_ishr (v := shr w0 c) dX9_lowest_10 rfl ?_
      refine xi_iconst (v := 1) dX9_lowest_11 (by decide) ?_
      refine xi_iand (v := (shr w0 c) &&& (1 : Int32)) dX9_lowest_12 rfl ?_
      refine xi_if_eq (tgt := 18) dX9_lowest_13 (by decide) (fun c2 => ?_) (fun c2 => ?_)
      · replace hs := ite_p c2 hs
        refine xi_iinc (v := (c + 1)) (lv' := [(1, .int (c + 1)), (0, .int w0)]) 1 dX9_lowest_18 rfl rfl (by decide) rfl ?_
        refine xi_goto (tgt := 2) dX9_lowest_21 (by decide) ?_
        refine xi_sub (lv' := [(0, .int w0), (1, .int (c + 1))]) [1, 0] rfl ?_
        obtain ⟨rfl, rfl⟩ := some_pair hs
        exact ih (c + 1) σ _ _ h HE
      · replace hs := ite_n c2 hs
        refine xi_iload_n 1 dX9_lowest_16 rfl ?_
        obtain ⟨rfl, rfl⟩ := some_pair hs
        obtain ⟨rfl, rfl⟩ := some_pair h
        have r3 := HE
        obtain ⟨rfl, rfl⟩ := r3
        exact xi_iret dX9_lowest_17 rfl rfl (Nat.le_of_ble_eq_true rfl) (Nat.le_of_ble_eq_true rfl) ⟨rfl, rfl⟩
noncomputable def FX9_lowest (a : Int32) (σ : St) : Option ((Int32) × St) :=
  (bnd (wh (SX9_lowest_2 a) (0 : Int32) σ) (fun e4 t5 => Sum.elim (fun e4 => (some (e4, t5))) (fun e4 => (some ((0 : Int32), t5))) e4))
set_option maxHeartbeats 4000000 in
set_option maxRecDepth 100000 in
theorem KX9_lowest (G : xG) (Gb : xMem) (a : Int32) (σ : St) (r0 : Int32) (t0 : St) (hq : FX9_lowest a σ = some (r0, t0)) : xC G mX9_lowest 0 0 0 [.int a] (mem σ Gb) (PQ r0 t0 Gb) := by
  unfold FX9_lowest at hq
  refine xC.of (by decide) (Nat.le_of_ble_eq_true rfl) ?_
  show xW _ _ _ _ 0 [(0, .int a)] [] _ 0 0
  refine xi_iconst (v := 0) dX9_lowest_0 (by decide) ?_
  refine xi_istore_n (lv' := [(1, .int 0), (0, .int a)]) dX9_lowest_1 (by decide) rfl ?_
  refine xi_sub (lv' := [(0, .int a), (1, .int 0)]) [1, 0] rfl ?_
  obtain ⟨e4, t5, k6, hq⟩ := bnd_some hq
  obtain ⟨n7, k6⟩ := wh_itr k6
  refine SX9_lowest_2_w G Gb a r0 t0 n7 (0 : Int32) σ _ _ k6 ?_
  rcases e4 with e4 | e4
  · replace hq := sel_l hq
    have r8 := some_pair hq
    exact r8
  · replace hq := sel_r hq
    show xW G mX9_lowest (xrm 0 0 0) (xQ G (PQ r0 t0 Gb) 0 0) 24 [] [] (mem t5 Gb) 0 0
    refine xi_iconst (v := 0) dX9_lowest_24 (by decide) ?_
    have r9 := some_pair hq
    obtain ⟨rfl, rfl⟩ := r9
    exact xi_iret dX9_lowest_25 rfl rfl (Nat.le_of_ble_eq_true rfl) (Nat.le_of_ble_eq_true rfl) ⟨rfl, rfl⟩
noncomputable def SX0_find_43 (x2 : Nat) (w3 : Int32) (c : Int32 × Int32) (σ : St) : Option (((Int32 × Int32) ⊕ (Unit)) × St) :=
  (rdb σ 91 (0) (fun v19 => (if v19 ≤ c.2 then (some (Sum.inr (), σ)) else (bnd (FX0_leadersFrom c.2 c.1 w3 σ) (fun v22 t23 => (bnd (FX9_lowest v22 t23) (fun v25 t26 => (chk (inb c.2 9) (wrb t26 95 (c.2.toNatClampNeg) v25 (fun t29 => (chk (inb c.2 9) (wrb t29 (x2 + 1) (c.2.toNatClampNeg) v25 (fun t32 => (some (Sum.inl ((c.1 ||| (shl (1 : Int32) v25)), (c.2 + 1)), t32)))))))))))))))
set_option maxHeartbeats 4000000 in
set_option maxRecDepth 100000 in
theorem SX0_find_43_w (G : xG) (Gb : xMem) (x2 : Nat) (w3 : Int32) (g2x : findAt x2 = true) (r0 : Unit) (t0 : St) :
    ∀ (k : Nat) (c : Int32 × Int32) (σ : St) (r : Unit) (σ' : St), itr (SX0_find_43 x2 w3) k c σ = some (r, σ') → (xW G mX0_find (xrm 15 0 0) (xQ G (PV r0 t0 Gb) 0 0) 102 [] [] (mem σ' Gb) 0 0) → xW G mX0_find (xrm 15 0 0) (xQ G (PV r0 t0 Gb) 0 0) 43 [(0, .ref 90), (2, .ref x2), (3, .int w3), (4, .int c.1), (5, .int c.2)] [] (mem σ Gb) 0 0 := by
  intro k
  induction k with
  | zero =>
    intro c σ r σ' h
    exact absurd h (itr_zero _ _ _ _)
  | succ k ih =>
    intro c σ r σ' h HE
    obtain ⟨x, s1, hs, h⟩ := itr_succ h
    unfold SX0_find_43 at hs
    refine xi_iload 4 dX0_find_43 rfl ?_
    refine xi_aload_n 0 dX0_find_45 rfl ?_
    refine yi_getR (f := 0) dX0_find_46 sh_90 rfl ok_0 (by decide) w_207 rfl ?_
    obtain ⟨v19, h20, hs⟩ := rdb_some hs
    refine yi_getV (f := 0) dX0_find_49 sh_91 rfl ok_5 (by decide) w_64 rfl h20 ?_
    refine xi_icmp_ge (tgt := 102) dX0_find_52 (by decide) (fun c21 => ?_) (fun c21 => ?_)
    · replace hs := ite_p c21 hs
      refine xi_sub (lv' := []) [] rfl ?_
      obtain ⟨rfl, rfl⟩ := some_pair hs
      obtain ⟨rfl, rfl⟩ := some_pair h
      exact HE
    · replace hs := ite_n c21 hs
      refine xi_aload_n 0 dX0_find_55 rfl ?_
      refine xi_iload 4 dX0_find_56 rfl ?_
      refine xi_iload 3 dX0_find_58 rfl ?_
      refine xi_iload_n 2 dX0_find_60 rfl ?_
      obtain ⟨v22, t23, k24, hs⟩ := bnd_some hs
      refine xi_callV (as := [.int c.2, .int c.1, .int w3]) (rest := []) dX0_find_61 (KX0_leadersFrom G Gb c.2 c.1 w3 _ _ _ k24) mkX0_leadersFrom w_696 ws_21 w_694 (mem_get sh_90) rfl rfl rfl rfl (Nat.le_of_ble_eq_true rfl) (Nat.le_of_ble_eq_true rfl) (Nat.le_of_ble_eq_true rfl) (Nat.le_of_ble_eq_true rfl) (Nat.le_of_ble_eq_true rfl) ?_
      intro v M2 hz
      obtain ⟨rfl, rfl⟩ := hz
      show xW _ _ _ _ 64 _ [.int v22] (mem t23 Gb) _ _
      obtain ⟨v25, t26, k27, hs⟩ := bnd_some hs
      refine xi_callS (as := [.int v22]) (rest := []) dX0_find_64 (KX9_lowest G Gb v22 _ _ _ k27) mkX9_lowest w_699 w_698 rfl rfl (Nat.le_of_ble_eq_true rfl) (Nat.le_of_ble_eq_true rfl) (Nat.le_of_ble_eq_true rfl) (Nat.le_of_ble_eq_true rfl) (Nat.le_of_ble_eq_true rfl) ?_
      intro v M2 hz
      obtain ⟨rfl, rfl⟩ := hz
      show xW _ _ _ _ 67 _ [.int v25] (mem t26 Gb) _ _
      refine xi_istore (lv' := [(6, .int v25), (0, .ref 90), (2, .ref x2), (3, .int w3), (4, .int c.1), (5, .int c.2)]) dX0_find_67 (by decide) rfl ?_
      refine xi_aload_n 1 dX0_find_69 rfl ?_
      refine yi_getR (f := 1) dX0_find_70 sh_90 rfl ok_0 (by decide) w_208 rfl ?_
      refine xi_iload 5 dX0_find_73 rfl ?_
      refine xi_iload 0 dX0_find_75 rfl ?_
      obtain ⟨g28, hs⟩ := chk_some hs
      obtain ⟨t29, h30, hs⟩ := wrb_some hs
      refine yi_iastoreV dX0_find_77 sh_95 g28 h30 ?_
      refine xi_aload_n 2 dX0_find_78 rfl ?_
      refine yi_getR (f := 4) dX0_find_79 (findAt_0 g2x) rfl ok_2 (by decide) w_155 rfl ?_
      refine xi_iload 5 dX0_find_82 rfl ?_
      refine xi_iload 0 dX0_find_84 rfl ?_
      obtain ⟨g31, hs⟩ := chk_some hs
      obtain ⟨t32, h33, hs⟩ := wrb_some hs
      refine yi_iastoreV dX0_find_86 (findAt_1 g2x) g31 h33 ?_
      refine xi_iload 4 dX0_find_87 rfl ?_
      refine xi_iconst (v := 1) dX0_find_89 (by decide) ?_
      refine xi_iload 0 dX0_find_90 rfl ?_
      refine xi_ishl (v := shl (1 : Int32) v25) dX0_find_92 rfl ?_
      refine xi_ior (v := c.1 ||| (shl (1 : Int32) v25)) dX0_find_93 rfl ?_
      refine xi_istore (lv' := [(4, .int (c.1 ||| (shl (1 : Int32) v25))), (6, .int v25), (0, .ref 90), (2, .ref x2), (3, .int w3), (5, .int c.2)]) dX0_find_94 (by decide) rfl ?_
      refine xi_iinc (v := (c.2 + 1)) (lv' := [(5, .int (c.2 + 1)), (4, .int (c.1 ||| (shl (1 : Int32) v25))), (6, .int v25), (0, .ref 90), (2, .ref x2), (3, .int w3)]) 5 dX0_find_96 rfl rfl (by decide) rfl ?_
      refine xi_goto (tgt := 43) dX0_find_99 (by decide) ?_
      refine xi_sub (lv' := [(0, .ref 90), (2, .ref x2), (3, .int w3), (4, .int (c.1 ||| (shl (1 : Int32) v25))), (5, .int (c.2 + 1))]) [3, 4, 5, 1, 0] rfl ?_
      obtain ⟨rfl, rfl⟩ := some_pair hs
      exact ih ((c.1 ||| (shl (1 : Int32) v25)), (c.2 + 1)) t32 _ _ h HE
noncomputable def FX0_find (x : Nat) (z : Nat) (σ : St) : Option ((Unit) × St) :=
  (chk (netAt x) (chk (findAt z) (bnd (FX0_turnTo x σ) (fun v1 t2 => (bnd (FX0_leastLimit  t2) (fun v4 t5 => (wrb t5 z (1) v4 (fun t7 => (bnd (FX0_rowsFrom 11 (0 : Int32) (0 : Int32) v4 t7) (fun v9 t10 => (wrb t10 z (2) v9 (fun t12 => (bnd (FX0_leadersFrom (0 : Int32) (0 : Int32) v4 t12) (fun v14 t15 => (wrb t15 z (3) v14 (fun t17 => (bnd (wh (SX0_find_43 z v4) ((0 : Int32), (0 : Int32)) t17) (fun e34 t35 => (some ((), t35))))))))))))))))))))
set_option maxHeartbeats 4000000 in
set_option maxRecDepth 100000 in
theorem KX0_find (G : xG) (Gb : xMem) (x : Nat) (z : Nat) (σ : St) (r0 : Unit) (t0 : St) (hq : FX0_find x z σ = some (r0, t0)) : xC G mX0_find 15 0 0 [.ref 90, .ref x, .ref z] (mem σ Gb) (PV r0 t0 Gb) := by
  unfold FX0_find at hq
  refine xC.of (by decide) (Nat.le_of_ble_eq_true rfl) ?_
  show xW _ _ _ _ 0 [(0, .ref 90), (1, .ref x), (2, .ref z)] [] _ 0 0
  obtain ⟨g_x, hq⟩ := chk_some hq
  obtain ⟨g_z, hq⟩ := chk_some hq
  refine xi_aload_n 0 dX0_find_0 rfl ?_
  refine xi_aload_n 1 dX0_find_1 rfl ?_
  obtain ⟨v1, t2, k3, hq⟩ := bnd_some hq
  refine xi_callV (as := [.ref x]) (rest := []) dX0_find_2 (KX0_turnTo G Gb x _ _ _ k3) mkX0_turnTo w_673 ws_17 w_671 (mem_get sh_90) rfl rfl rfl rfl (Nat.le_of_ble_eq_true rfl) (Nat.le_of_ble_eq_true rfl) (Nat.le_of_ble_eq_true rfl) (Nat.le_of_ble_eq_true rfl) (Nat.le_of_ble_eq_true rfl) ?_
  intro v M2 hz
  obtain ⟨rfl, rfl⟩ := hz
  show xW _ _ _ _ 5 _ [] (mem t2 Gb) _ _
  refine xi_aload_n 0 dX0_find_5 rfl ?_
  obtain ⟨v4, t5, k6, hq⟩ := bnd_some hq
  refine xi_callV (as := []) (rest := []) dX0_find_6 (KX0_leastLimit G Gb  _ _ _ k6) mkX0_leastLimit w_680 ws_18 w_678 (mem_get sh_90) rfl rfl rfl rfl (Nat.le_of_ble_eq_true rfl) (Nat.le_of_ble_eq_true rfl) (Nat.le_of_ble_eq_true rfl) (Nat.le_of_ble_eq_true rfl) (Nat.le_of_ble_eq_true rfl) ?_
  intro v M2 hz
  obtain ⟨rfl, rfl⟩ := hz
  show xW _ _ _ _ 9 _ [.int v4] (mem t5 Gb) _ _
  refine xi_istore_n (lv' := [(3, .int v4), (0, .ref 90), (1, .ref x), (2, .ref z)]) dX0_find_9 (by decide) rfl ?_
  refine xi_aload_n 3 dX0_find_10 rfl ?_
  refine xi_iload_n 0 dX0_find_11 rfl ?_
  obtain ⟨t7, h8, hq⟩ := wrb_some hq
  refine yi_putV (f := 1) (ty := .int) dX0_find_12 (findAt_0 g_z) rfl ok_2 (by decide) w_145 rfl rfl pf_I rfl rfl h8 ?_
  refine xi_aload_n 3 dX0_find_15 rfl ?_
  refine xi_aload_n 1 dX0_find_16 rfl ?_
  refine xi_iconst (v := 0) dX0_find_17 (by decide) ?_
  refine xi_iconst (v := 0) dX0_find_18 (by decide) ?_
  refine xi_iload_n 0 dX0_find_19 rfl ?_
  obtain ⟨v9, t10, k11, hq⟩ := bnd_some hq
  refine xi_callV (as := [.int 0, .int 0, .int v4]) (rest := [.ref z]) dX0_find_20 (KX0_rowsFrom G Gb 11 (0 : Int32) (0 : Int32) v4 _ _ _ k11) mkX0_rowsFrom w_684 ws_19 w_682 (mem_get sh_90) rfl rfl rfl rfl (Nat.le_of_ble_eq_true rfl) (Nat.le_of_ble_eq_true rfl) (Nat.le_of_ble_eq_true rfl) (Nat.le_of_ble_eq_true rfl) (Nat.le_of_ble_eq_true rfl) ?_
  intro v M2 hz
  obtain ⟨rfl, rfl⟩ := hz
  show xW _ _ _ _ 23 _ [.int v9, .ref z] (mem t10 Gb) _ _
  obtain ⟨t12, h13, hq⟩ := wrb_some hq
  refine yi_putV (f := 2) (ty := .int) dX0_find_23 (findAt_0 g_z) rfl ok_2 (by decide) w_148 rfl rfl pf_I rfl rfl h13 ?_
  refine xi_aload_n 3 dX0_find_26 rfl ?_
  refine xi_aload_n 1 dX0_find_27 rfl ?_
  refine xi_iconst (v := 0) dX0_find_28 (by decide) ?_
  refine xi_iconst (v := 0) dX0_find_29 (by decide) ?_
  refine xi_iload_n 0 dX0_find_30 rfl ?_
  obtain ⟨v14, t15, k16, hq⟩ := bnd_some hq
  refine xi_callV (as := [.int 0, .int 0, .int v4]) (rest := [.ref z]) dX0_find_31 (KX0_leadersFrom G Gb (0 : Int32) (0 : Int32) v4 _ _ _ k16) mkX0_leadersFrom w_696 ws_21 w_694 (mem_get sh_90) rfl rfl rfl rfl (Nat.le_of_ble_eq_true rfl) (Nat.le_of_ble_eq_true rfl) (Nat.le_of_ble_eq_true rfl) (Nat.le_of_ble_eq_true rfl) (Nat.le_of_ble_eq_true rfl) ?_
  intro v M2 hz
  obtain ⟨rfl, rfl⟩ := hz
  show xW _ _ _ _ 34 _ [.int v14, .ref z] (mem t15 Gb) _ _
  obtain ⟨t17, h18, hq⟩ := wrb_some hq
  refine yi_putV (f := 3) (ty := .int) dX0_find_34 (findAt_0 g_z) rfl ok_2 (by decide) w_151 rfl rfl pf_I rfl rfl h18 ?_
  refine xi_iconst (v := 0) dX0_find_37 (by decide) ?_
  refine xi_istore (lv' := [(4, .int 0), (3, .int v4), (0, .ref 90), (1, .ref x), (2, .ref z)]) dX0_find_38 (by decide) rfl ?_
  refine xi_iconst (v := 0) dX0_find_40 (by decide) ?_
  refine xi_istore (lv' := [(5, .int 0), (4, .int 0), (3, .int v4), (0, .ref 90), (1, .ref x), (2, .ref z)]) dX0_find_41 (by decide) rfl ?_
  refine xi_sub (lv' := [(0, .ref 90), (2, .ref z), (3, .int v4), (4, .int 0), (5, .int 0)]) [3, 5, 2, 1, 0] rfl ?_
  obtain ⟨e34, t35, k36, hq⟩ := bnd_some hq
  obtain ⟨n37, k36⟩ := wh_itr k36
  refine SX0_find_43_w G Gb z v4 g_z r0 t0 n37 ((0 : Int32), (0 : Int32)) t17 _ _ k36 ?_
  show xW G mX0_find (xrm 15 0 0) (xQ G (PV r0 t0 Gb) 0 0) 102 [] [] (mem t35 Gb) 0 0
  have r38 := some_pair hq
  obtain ⟨rfl, rfl⟩ := r38
  exact xi_vret dX0_find_102 rfl (Nat.le_of_ble_eq_true rfl) (Nat.le_of_ble_eq_true rfl) ⟨rfl, rfl⟩
noncomputable def FX0_rowsWithin (x : Nat) (a : Int32) (σ : St) : Option ((Int32) × St) :=
  (chk (netAt x) (bnd (FX0_turnTo x σ) (fun v1 t2 => (rdb t2 91 (0) (fun v4 => (bnd (FX0_rowsFrom 11 (0 : Int32) (0 : Int32) (mnI a (v4 - (1 : Int32))) t2) (fun v6 t7 => (some (v6, t7)))))))))
set_option maxHeartbeats 4000000 in
set_option maxRecDepth 100000 in
theorem KX0_rowsWithin (G : xG) (Gb : xMem) (x : Nat) (a : Int32) (σ : St) (r0 : Int32) (t0 : St) (hq : FX0_rowsWithin x a σ = some (r0, t0)) : xC G mX0_rowsWithin 14 0 0 [.ref 90, .ref x, .int a] (mem σ Gb) (PQ r0 t0 Gb) := by
  unfold FX0_rowsWithin at hq
  refine xC.of (by decide) (Nat.le_of_ble_eq_true rfl) ?_
  show xW _ _ _ _ 0 [(0, .ref 90), (1, .ref x), (2, .int a)] [] _ 0 0
  obtain ⟨g_x, hq⟩ := chk_some hq
  refine xi_aload_n 0 dX0_rowsWithin_0 rfl ?_
  refine xi_aload_n 1 dX0_rowsWithin_1 rfl ?_
  obtain ⟨v1, t2, k3, hq⟩ := bnd_some hq
  refine xi_callV (as := [.ref x]) (rest := []) dX0_rowsWithin_2 (KX0_turnTo G Gb x _ _ _ k3) mkX0_turnTo w_673 ws_17 w_671 (mem_get sh_90) rfl rfl rfl rfl (Nat.le_of_ble_eq_true rfl) (Nat.le_of_ble_eq_true rfl) (Nat.le_of_ble_eq_true rfl) (Nat.le_of_ble_eq_true rfl) (Nat.le_of_ble_eq_true rfl) ?_
  intro v M2 hz
  obtain ⟨rfl, rfl⟩ := hz
  show xW _ _ _ _ 5 _ [] (mem t2 Gb) _ _
  refine xi_aload_n 0 dX0_rowsWithin_5 rfl ?_
  refine xi_iconst (v := 0) dX0_rowsWithin_6 (by decide) ?_
  refine xi_iconst (v := 0) dX0_rowsWithin_7 (by decide) ?_
  refine xi_iload_n 2 dX0_rowsWithin_8 rfl ?_
  refine xi_aload_n 0 dX0_rowsWithin_9 rfl ?_
  refine yi_getR (f := 0) dX0_rowsWithin_10 sh_90 rfl ok_0 (by decide) w_207 rfl ?_
  obtain ⟨v4, h5, hq⟩ := rdb_some hq
  refine yi_getV (f := 0) dX0_rowsWithin_13 sh_91 rfl ok_5 (by decide) w_64 rfl h5 ?_
  refine xi_iconst (v := 1) dX0_rowsWithin_16 (by decide) ?_
  refine xi_isub (v := v4 - (1 : Int32)) dX0_rowsWithin_17 rfl ?_
  refine xi_min (v := (mnI a (v4 - (1 : Int32)))) dX0_rowsWithin_18 w_690 w_385 w_3 w_mmin (Nat.le_of_ble_eq_true rfl) (Nat.le_of_ble_eq_true rfl) (Nat.le_of_ble_eq_true rfl) (Nat.le_of_ble_eq_true rfl) (Nat.le_of_ble_eq_true rfl) rfl ?_
  obtain ⟨v6, t7, k8, hq⟩ := bnd_some hq
  refine xi_callV (as := [.int 0, .int 0, .int (mnI a (v4 - (1 : Int32)))]) (rest := []) dX0_rowsWithin_21 (KX0_rowsFrom G Gb 11 (0 : Int32) (0 : Int32) (mnI a (v4 - (1 : Int32))) _ _ _ k8) mkX0_rowsFrom w_684 ws_19 w_682 (mem_get sh_90) rfl rfl rfl rfl (Nat.le_of_ble_eq_true rfl) (Nat.le_of_ble_eq_true rfl) (Nat.le_of_ble_eq_true rfl) (Nat.le_of_ble_eq_true rfl) (Nat.le_of_ble_eq_true rfl) ?_
  intro v M2 hz
  obtain ⟨rfl, rfl⟩ := hz
  show xW _ _ _ _ 24 _ [.int v6] (mem t7 Gb) _ _
  have r9 := some_pair hq
  obtain ⟨rfl, rfl⟩ := r9
  exact xi_iret dX0_rowsWithin_24 rfl rfl (Nat.le_of_ble_eq_true rfl) (Nat.le_of_ble_eq_true rfl) ⟨rfl, rfl⟩
noncomputable def SX3_turnTo_22 (x0 : Nat) (c : Int32) (σ : St) : Option (((Int32) ⊕ (Unit)) × St) :=
  (if (7 : Int32) ≤ c then (some (Sum.inr (), σ)) else (chk (inb c 7) (chk (findAt (el (x0 + 1) c)) (wrb σ (el (x0 + 1) c) (0) (0 : Int32) (fun t13 => (some (Sum.inl (c + 1), t13)))))))
set_option maxHeartbeats 4000000 in
set_option maxRecDepth 100000 in
theorem SX3_turnTo_22_w (G : xG) (Gb : xMem) (x0 : Nat) (g0x : findsAt x0 = true) (r0 : Unit) (t0 : St) :
    ∀ (k : Nat) (c : Int32) (σ : St) (r : Unit) (σ' : St), itr (SX3_turnTo_22 x0) k c σ = some (r, σ') → (xW G mX3_turnTo (xrm 2 0 0) (xQ G (PV r0 t0 Gb) 0 0) 44 [] [] (mem σ' Gb) 0 0) → xW G mX3_turnTo (xrm 2 0 0) (xQ G (PV r0 t0 Gb) 0 0) 22 [(0, .ref x0), (2, .int c)] [] (mem σ Gb) 0 0 := by
  intro k
  induction k with
  | zero =>
    intro c σ r σ' h
    exact absurd h (itr_zero _ _ _ _)
  | succ k ih =>
    intro c σ r σ' h HE
    obtain ⟨x, s1, hs, h⟩ := itr_succ h
    unfold SX3_turnTo_22 at hs
    refine xi_iload_n 1 dX3_turnTo_22 rfl ?_
    refine xi_bipush (v := 7) dX3_turnTo_23 (by decide) ?_
    refine xi_icmp_ge (tgt := 44) dX3_turnTo_25 (by decide) (fun c10 => ?_) (fun c10 => ?_)
    · replace hs := ite_p c10 hs
      refine xi_sub (lv' := []) [] rfl ?_
      obtain ⟨rfl, rfl⟩ := some_pair hs
      obtain ⟨rfl, rfl⟩ := some_pair h
      exact HE
    · replace hs := ite_n c10 hs
      refine xi_aload_n 0 dX3_turnTo_28 rfl ?_
      refine yi_getR (f := 0) dX3_turnTo_29 (findsAt_0 g0x) rfl ok_3 (by decide) w_169 rfl ?_
      refine xi_iload_n 1 dX3_turnTo_32 rfl ?_
      obtain ⟨g11, hs⟩ := chk_some hs
      refine yi_aaload dX3_turnTo_33 (findsAt_1 g0x) rfl rfl g11 ?_
      obtain ⟨g12, hs⟩ := chk_some hs
      refine xi_iconst (v := 0) dX3_turnTo_34 (by decide) ?_
      obtain ⟨t13, h14, hs⟩ := wrb_some hs
      refine yi_putV (f := 0) (ty := .boolean) dX3_turnTo_35 (findAt_0 g12) rfl ok_2 (by decide) w_143 rfl rfl pf_Z rfl rfl h14 ?_
      refine xi_iinc (v := (c + 1)) (lv' := [(2, .int (c + 1)), (0, .ref x0)]) 1 dX3_turnTo_38 rfl rfl (by decide) rfl ?_
      refine xi_goto (tgt := 22) dX3_turnTo_41 (by decide) ?_
      refine xi_sub (lv' := [(0, .ref x0), (2, .int (c + 1))]) [1, 0] rfl ?_
      obtain ⟨rfl, rfl⟩ := some_pair hs
      exact ih (c + 1) t13 _ _ h HE
noncomputable def FX3_turnTo (x : Nat) (y : Nat) (σ : St) : Option ((Unit) × St) :=
  (chk (findsAt x) (chk (netAt y) (chk (netAt (x + 2)) (bnd (FX5_sameLines (x + 2) y σ) (fun v2 t3 => (if v2 = (0 : Int32) then (chk (netAt (x + 2)) (bnd (FX5_copyFrom (x + 2) y t3) (fun v7 t8 => (bnd (wh (SX3_turnTo_22 x) (0 : Int32) t8) (fun e15 t16 => (some ((), t16))))))) else (some ((), t3))))))))
set_option maxHeartbeats 4000000 in
set_option maxRecDepth 100000 in
theorem KX3_turnTo (G : xG) (Gb : xMem) (x : Nat) (y : Nat) (σ : St) (r0 : Unit) (t0 : St) (hq : FX3_turnTo x y σ = some (r0, t0)) : xC G mX3_turnTo 2 0 0 [.ref x, .ref y] (mem σ Gb) (PV r0 t0 Gb) := by
  unfold FX3_turnTo at hq
  refine xC.of (by decide) (Nat.le_of_ble_eq_true rfl) ?_
  show xW _ _ _ _ 0 [(0, .ref x), (1, .ref y)] [] _ 0 0
  obtain ⟨g_x, hq⟩ := chk_some hq
  obtain ⟨g_y, hq⟩ := chk_some hq
  refine xi_aload_n 0 dX3_turnTo_0 rfl ?_
  refine yi_getR (f := 1) dX3_turnTo_1 (findsAt_0 g_x) rfl ok_3 (by decide) w_171 rfl ?_
  obtain ⟨g1, hq⟩ := chk_some hq
  refine xi_aload_n 1 dX3_turnTo_4 rfl ?_
  obtain ⟨v2, t3, k4, hq⟩ := bnd_some hq
  refine xi_callV (as := [.ref y]) (rest := []) dX3_turnTo_5 (KX5_sameLines G Gb (x + 2) y _ _ _ k4) mkX5_sameLines w_460 w_461 w_665 (mem_get (netAt_0 g1)) rfl rfl rfl rfl (Nat.le_of_ble_eq_true rfl) (Nat.le_of_ble_eq_true rfl) (Nat.le_of_ble_eq_true rfl) (Nat.le_of_ble_eq_true rfl) (Nat.le_of_ble_eq_true rfl) ?_
  intro v M2 hz
  obtain ⟨rfl, rfl⟩ := hz
  show xW _ _ _ _ 8 _ [.int v2] (mem t3 Gb) _ _
  refine xi_if_eq (tgt := 12) dX3_turnTo_8 (by decide) (fun c5 => ?_) (fun c5 => ?_)
  · replace hq := ite_p c5 hq
    refine xi_aload_n 0 dX3_turnTo_12 rfl ?_
    refine yi_getR (f := 1) dX3_turnTo_13 (findsAt_0 g_x) rfl ok_3 (by decide) w_171 rfl ?_
    obtain ⟨g6, hq⟩ := chk_some hq
    refine xi_aload_n 1 dX3_turnTo_16 rfl ?_
    obtain ⟨v7, t8, k9, hq⟩ := bnd_some hq
    refine xi_callV (as := [.ref y]) (rest := []) dX3_turnTo_17 (KX5_copyFrom G Gb (x + 2) y _ _ _ k9) mkX5_copyFrom w_445 w_446 w_666 (mem_get (netAt_0 g6)) rfl rfl rfl rfl (Nat.le_of_ble_eq_true rfl) (Nat.le_of_ble_eq_true rfl) (Nat.le_of_ble_eq_true rfl) (Nat.le_of_ble_eq_true rfl) (Nat.le_of_ble_eq_true rfl) ?_
    intro v M2 hz
    obtain ⟨rfl, rfl⟩ := hz
    show xW _ _ _ _ 20 _ [] (mem t8 Gb) _ _
    refine xi_iconst (v := 0) dX3_turnTo_20 (by decide) ?_
    refine xi_istore_n (lv' := [(2, .int 0), (0, .ref x), (1, .ref y)]) dX3_turnTo_21 (by decide) rfl ?_
    refine xi_sub (lv' := [(0, .ref x), (2, .int 0)]) [1, 0] rfl ?_
    obtain ⟨e15, t16, k17, hq⟩ := bnd_some hq
    obtain ⟨n18, k17⟩ := wh_itr k17
    refine SX3_turnTo_22_w G Gb x g_x r0 t0 n18 (0 : Int32) t8 _ _ k17 ?_
    show xW G mX3_turnTo (xrm 2 0 0) (xQ G (PV r0 t0 Gb) 0 0) 44 [] [] (mem t16 Gb) 0 0
    have r19 := some_pair hq
    obtain ⟨rfl, rfl⟩ := r19
    exact xi_vret dX3_turnTo_44 rfl (Nat.le_of_ble_eq_true rfl) (Nat.le_of_ble_eq_true rfl) ⟨rfl, rfl⟩
  · replace hq := ite_n c5 hq
    have r20 := some_pair hq
    obtain ⟨rfl, rfl⟩ := r20
    exact xi_vret dX3_turnTo_11 rfl (Nat.le_of_ble_eq_true rfl) (Nat.le_of_ble_eq_true rfl) ⟨rfl, rfl⟩
noncomputable def FX4_remember (a : Int32) (x : Nat) (σ : St) : Option ((Unit) × St) :=
  (chk (netAt x) (rdb σ 98 (1) (fun v1 => (chk (inb v1 10) (wrb σ 99 (v1.toNatClampNeg) a (fun t4 => (rdb t4 98 (1) (fun v6 => (chk (inb v6 10) (chk (netAt (el 100 v6)) (bnd (FX5_copyFrom (el 100 v6) x t4) (fun v10 t11 => (rdb t11 98 (1) (fun v13 => (wrb t11 98 (1) (irem (v13 + (1 : Int32)) (10 : Int32)) (fun t15 => (rdb t15 98 (0) (fun v17 => (wrb t15 98 (0) (mnI (10 : Int32) (v17 + (1 : Int32))) (fun t19 => (some ((), t19))))))))))))))))))))))
set_option maxHeartbeats 4000000 in
set_option maxRecDepth 100000 in
theorem KX4_remember (G : xG) (Gb : xMem) (a : Int32) (x : Nat) (σ : St) (r0 : Unit) (t0 : St) (hq : FX4_remember a x σ = some (r0, t0)) : xC G mX4_remember 1 0 0 [.ref 98, .int a, .ref x] (mem σ Gb) (PV r0 t0 Gb) := by
  unfold FX4_remember at hq
  refine xC.of (by decide) (Nat.le_of_ble_eq_true rfl) ?_
  show xW _ _ _ _ 0 [(0, .ref 98), (1, .int a), (2, .ref x)] [] _ 0 0
  obtain ⟨g_x, hq⟩ := chk_some hq
  refine xi_aload_n 0 dX4_remember_0 rfl ?_
  refine yi_getR (f := 2) dX4_remember_1 sh_98 rfl ok_4 (by decide) w_231 rfl ?_
  refine xi_aload_n 0 dX4_remember_4 rfl ?_
  obtain ⟨v1, h2, hq⟩ := rdb_some hq
  refine yi_getV (f := 1) dX4_remember_5 sh_98 rfl ok_4 (by decide) w_230 rfl h2 ?_
  refine xi_iload_n 1 dX4_remember_8 rfl ?_
  obtain ⟨g3, hq⟩ := chk_some hq
  obtain ⟨t4, h5, hq⟩ := wrb_some hq
  refine yi_iastoreV dX4_remember_9 sh_99 g3 h5 ?_
  refine xi_aload_n 0 dX4_remember_10 rfl ?_
  refine yi_getR (f := 3) dX4_remember_11 sh_98 rfl ok_4 (by decide) w_232 rfl ?_
  refine xi_aload_n 0 dX4_remember_14 rfl ?_
  obtain ⟨v6, h7, hq⟩ := rdb_some hq
  refine yi_getV (f := 1) dX4_remember_15 sh_98 rfl ok_4 (by decide) w_230 rfl h7 ?_
  obtain ⟨g8, hq⟩ := chk_some hq
  refine yi_aaload dX4_remember_18 sh_100 rfl rfl g8 ?_
  obtain ⟨g9, hq⟩ := chk_some hq
  refine xi_aload_n 2 dX4_remember_19 rfl ?_
  obtain ⟨v10, t11, k12, hq⟩ := bnd_some hq
  refine xi_callV (as := [.ref x]) (rest := []) dX4_remember_20 (KX5_copyFrom G Gb (el 100 v6) x _ _ _ k12) mkX5_copyFrom w_445 w_446 w_471 (mem_get (netAt_0 g9)) rfl rfl rfl rfl (Nat.le_of_ble_eq_true rfl) (Nat.le_of_ble_eq_true rfl) (Nat.le_of_ble_eq_true rfl) (Nat.le_of_ble_eq_true rfl) (Nat.le_of_ble_eq_true rfl) ?_
  intro v M2 hz
  obtain ⟨rfl, rfl⟩ := hz
  show xW _ _ _ _ 23 _ [] (mem t11 Gb) _ _
  refine xi_aload_n 0 dX4_remember_23 rfl ?_
  refine xi_aload_n 0 dX4_remember_24 rfl ?_
  obtain ⟨v13, h14, hq⟩ := rdb_some hq
  refine yi_getV (f := 1) dX4_remember_25 sh_98 rfl ok_4 (by decide) w_230 rfl h14 ?_
  refine xi_iconst (v := 1) dX4_remember_28 (by decide) ?_
  refine xi_iadd (v := v13 + (1 : Int32)) dX4_remember_29 rfl ?_
  refine xi_bipush (v := 10) dX4_remember_30 (by decide) ?_
  refine xi_irem (v := irem (v13 + (1 : Int32)) (10 : Int32)) dX4_remember_32 (by decide) rfl ?_
  obtain ⟨t15, h16, hq⟩ := wrb_some hq
  refine yi_putV (f := 1) (ty := .int) dX4_remember_33 sh_98 rfl ok_4 (by decide) w_230 rfl rfl pf_I rfl rfl h16 ?_
  refine xi_aload_n 0 dX4_remember_36 rfl ?_
  refine xi_bipush (v := 10) dX4_remember_37 (by decide) ?_
  refine xi_aload_n 0 dX4_remember_39 rfl ?_
  obtain ⟨v17, h18, hq⟩ := rdb_some hq
  refine yi_getV (f := 0) dX4_remember_40 sh_98 rfl ok_4 (by decide) w_228 rfl h18 ?_
  refine xi_iconst (v := 1) dX4_remember_43 (by decide) ?_
  refine xi_iadd (v := v17 + (1 : Int32)) dX4_remember_44 rfl ?_
  refine xi_min (v := (mnI (10 : Int32) (v17 + (1 : Int32)))) dX4_remember_45 w_472 w_385 w_3 w_mmin (Nat.le_of_ble_eq_true rfl) (Nat.le_of_ble_eq_true rfl) (Nat.le_of_ble_eq_true rfl) (Nat.le_of_ble_eq_true rfl) (Nat.le_of_ble_eq_true rfl) rfl ?_
  obtain ⟨t19, h20, hq⟩ := wrb_some hq
  refine yi_putV (f := 0) (ty := .int) dX4_remember_48 sh_98 rfl ok_4 (by decide) w_228 rfl rfl pf_I rfl rfl h20 ?_
  have r21 := some_pair hq
  obtain ⟨rfl, rfl⟩ := r21
  exact xi_vret dX4_remember_51 rfl (Nat.le_of_ble_eq_true rfl) (Nat.le_of_ble_eq_true rfl) ⟨rfl, rfl⟩
noncomputable def FX4_takeBack (σ : St) : Option ((Unit) × St) :=
  (rdb σ 98 (1) (fun v1 => (wrb σ 98 (1) (irem ((v1 + (10 : Int32)) - (1 : Int32)) (10 : Int32)) (fun t3 => (rdb t3 98 (0) (fun v5 => (wrb t3 98 (0) (v5 - (1 : Int32)) (fun t7 => (rdb t7 98 (1) (fun v9 => (chk (inb v9 10) (rdb t7 99 (v9.toNatClampNeg) (fun v12 => (chk (inb v12 3) (chk (netAt (el 10 v12)) (rdb t7 98 (1) (fun v16 => (chk (inb v16 10) (chk (netAt (el 100 v16)) (bnd (FX5_copyFrom (el 10 v12) (el 100 v16) t7) (fun v20 t21 => (some ((), t21)))))))))))))))))))))))
set_option maxHeartbeats 4000000 in
set_option maxRecDepth 100000 in
theorem KX4_takeBack (G : xG) (Gb : xMem) (σ : St) (r0 : Unit) (t0 : St) (hq : FX4_takeBack σ = some (r0, t0)) : xC G mX4_takeBack 1 0 0 [.ref 98, .ref 10] (mem σ Gb) (PV r0 t0 Gb) := by
  unfold FX4_takeBack at hq
  refine xC.of (by decide) (Nat.le_of_ble_eq_true rfl) ?_
  show xW _ _ _ _ 0 [(0, .ref 98), (1, .ref 10)] [] _ 0 0
  refine xi_aload_n 0 dX4_takeBack_0 rfl ?_
  refine xi_aload_n 0 dX4_takeBack_1 rfl ?_
  obtain ⟨v1, h2, hq⟩ := rdb_some hq
  refine yi_getV (f := 1) dX4_takeBack_2 sh_98 rfl ok_4 (by decide) w_230 rfl h2 ?_
  refine xi_bipush (v := 10) dX4_takeBack_5 (by decide) ?_
  refine xi_iadd (v := v1 + (10 : Int32)) dX4_takeBack_7 rfl ?_
  refine xi_iconst (v := 1) dX4_takeBack_8 (by decide) ?_
  refine xi_isub (v := (v1 + (10 : Int32)) - (1 : Int32)) dX4_takeBack_9 rfl ?_
  refine xi_bipush (v := 10) dX4_takeBack_10 (by decide) ?_
  refine xi_irem (v := irem ((v1 + (10 : Int32)) - (1 : Int32)) (10 : Int32)) dX4_takeBack_12 (by decide) rfl ?_
  obtain ⟨t3, h4, hq⟩ := wrb_some hq
  refine yi_putV (f := 1) (ty := .int) dX4_takeBack_13 sh_98 rfl ok_4 (by decide) w_230 rfl rfl pf_I rfl rfl h4 ?_
  refine xi_aload_n 0 dX4_takeBack_16 rfl ?_
  refine xi_dup dX4_takeBack_17 rfl ?_
  obtain ⟨v5, h6, hq⟩ := rdb_some hq
  refine yi_getV (f := 0) dX4_takeBack_18 sh_98 rfl ok_4 (by decide) w_228 rfl h6 ?_
  refine xi_iconst (v := 1) dX4_takeBack_21 (by decide) ?_
  refine xi_isub (v := v5 - (1 : Int32)) dX4_takeBack_22 rfl ?_
  obtain ⟨t7, h8, hq⟩ := wrb_some hq
  refine yi_putV (f := 0) (ty := .int) dX4_takeBack_23 sh_98 rfl ok_4 (by decide) w_228 rfl rfl pf_I rfl rfl h8 ?_
  refine xi_aload_n 1 dX4_takeBack_26 rfl ?_
  refine xi_aload_n 0 dX4_takeBack_27 rfl ?_
  refine yi_getR (f := 2) dX4_takeBack_28 sh_98 rfl ok_4 (by decide) w_231 rfl ?_
  refine xi_aload_n 0 dX4_takeBack_31 rfl ?_
  obtain ⟨v9, h10, hq⟩ := rdb_some hq
  refine yi_getV (f := 1) dX4_takeBack_32 sh_98 rfl ok_4 (by decide) w_230 rfl h10 ?_
  obtain ⟨g11, hq⟩ := chk_some hq
  obtain ⟨v12, h13, hq⟩ := rdb_some hq
  refine yi_ialoadV dX4_takeBack_35 sh_99 g11 h13 ?_
  obtain ⟨g14, hq⟩ := chk_some hq
  refine yi_aaload dX4_takeBack_36 sh_10 rfl rfl g14 ?_
  obtain ⟨g15, hq⟩ := chk_some hq
  refine xi_aload_n 0 dX4_takeBack_37 rfl ?_
  refine yi_getR (f := 3) dX4_takeBack_38 sh_98 rfl ok_4 (by decide) w_232 rfl ?_
  refine xi_aload_n 0 dX4_takeBack_41 rfl ?_
  obtain ⟨v16, h17, hq⟩ := rdb_some hq
  refine yi_getV (f := 1) dX4_takeBack_42 sh_98 rfl ok_4 (by decide) w_230 rfl h17 ?_
  obtain ⟨g18, hq⟩ := chk_some hq
  refine yi_aaload dX4_takeBack_45 sh_100 rfl rfl g18 ?_
  obtain ⟨g19, hq⟩ := chk_some hq
  obtain ⟨v20, t21, k22, hq⟩ := bnd_some hq
  refine xi_callV (as := [.ref (el 100 v16)]) (rest := []) dX4_takeBack_46 (KX5_copyFrom G Gb (el 10 v12) (el 100 v16) _ _ _ k22) mkX5_copyFrom w_445 w_446 w_471 (mem_get (netAt_0 g15)) rfl rfl rfl rfl (Nat.le_of_ble_eq_true rfl) (Nat.le_of_ble_eq_true rfl) (Nat.le_of_ble_eq_true rfl) (Nat.le_of_ble_eq_true rfl) (Nat.le_of_ble_eq_true rfl) ?_
  intro v M2 hz
  obtain ⟨rfl, rfl⟩ := hz
  show xW _ _ _ _ 49 _ [] (mem t21 Gb) _ _
  have r23 := some_pair hq
  obtain ⟨rfl, rfl⟩ := r23
  exact xi_vret dX4_takeBack_49 rfl (Nat.le_of_ble_eq_true rfl) (Nat.le_of_ble_eq_true rfl) ⟨rfl, rfl⟩
noncomputable def FX9_fits (a : Int32) (b : Int32) (c : Int32) (d : Int32) (σ : St) : Option ((Int32) × St) :=
  (chk (inb ((b * (9 : Int32)) + c) 4608) (rdb σ 85 (((b * (9 : Int32)) + c).toNatClampNeg) (fun v2 => (if a = (0 : Int32) then (if d < v2 then (some ((0 : Int32), σ)) else (some ((1 : Int32), σ))) else (if a = (1 : Int32) then (if d < v2 then (some ((0 : Int32), σ)) else (some ((1 : Int32), σ))) else (if a = (5 : Int32) then (if d < v2 then (some ((0 : Int32), σ)) else (some ((1 : Int32), σ))) else (chk (inb (b ||| (shl (1 : Int32) c)) 512) (rdb σ 88 ((b ||| (shl (1 : Int32) c)).toNatClampNeg) (fun v14 => (chk (inb b 512) (rdb σ 88 (b.toNatClampNeg) (fun v17 => (if (v2 + v14) = v17 then (some ((1 : Int32), σ)) else (some ((0 : Int32), σ)))))))))))))))
set_option maxHeartbeats 4000000 in
set_option maxRecDepth 100000 in
theorem KX9_fits (G : xG) (Gb : xMem) (a : Int32) (b : Int32) (c : Int32) (d : Int32) (σ : St) (r0 : Int32) (t0 : St) (hq : FX9_fits a b c d σ = some (r0, t0)) : xC G mX9_fits 0 0 0 [.ref 84, .int a, .int b, .int c, .int d] (mem σ Gb) (PQ r0 t0 Gb) := by
  unfold FX9_fits at hq
  refine xC.of (by decide) (Nat.le_of_ble_eq_true rfl) ?_
  show xW _ _ _ _ 0 [(0, .ref 84), (1, .int a), (2, .int b), (3, .int c), (4, .int d)] [] _ 0 0
  refine xi_aload_n 0 dX9_fits_0 rfl ?_
  refine yi_getR (f := 0) dX9_fits_1 sh_84 rfl ok_7 (by decide) w_183 rfl ?_
  refine xi_iload_n 2 dX9_fits_4 rfl ?_
  refine xi_bipush (v := 9) dX9_fits_5 (by decide) ?_
  refine xi_imul (v := b * (9 : Int32)) dX9_fits_7 rfl ?_
  refine xi_iload_n 3 dX9_fits_8 rfl ?_
  refine xi_iadd (v := (b * (9 : Int32)) + c) dX9_fits_9 rfl ?_
  obtain ⟨g1, hq⟩ := chk_some hq
  obtain ⟨v2, h3, hq⟩ := rdb_some hq
  refine yi_ialoadV dX9_fits_10 sh_85 g1 h3 ?_
  refine xi_istore (lv' := [(5, .int v2), (0, .ref 84), (1, .int a), (2, .int b), (3, .int c), (4, .int d)]) dX9_fits_11 (by decide) rfl ?_
  refine xi_iload_n 2 dX9_fits_13 rfl ?_
  refine xi_if_eq (tgt := 27) dX9_fits_14 (by decide) (fun c4 => ?_) (fun c4 => ?_)
  · replace hq := ite_p c4 hq
    refine xi_iload 0 dX9_fits_27 rfl ?_
    refine xi_iload 5 dX9_fits_29 rfl ?_
    refine xi_icmp_gt (tgt := 38) dX9_fits_31 (by decide) (fun c5 => ?_) (fun c5 => ?_)
    · replace hq := ite_p c5 hq
      refine xi_iconst (v := 0) dX9_fits_38 (by decide) ?_
      have r6 := some_pair hq
      obtain ⟨rfl, rfl⟩ := r6
      exact xi_iret dX9_fits_39 rfl (by decide) (Nat.le_of_ble_eq_true rfl) (Nat.le_of_ble_eq_true rfl) ⟨rfl, rfl⟩
    · replace hq := ite_n c5 hq
      refine xi_iconst (v := 1) dX9_fits_34 (by decide) ?_
      refine xi_goto (tgt := 39) dX9_fits_35 (by decide) ?_
      have r7 := some_pair hq
      obtain ⟨rfl, rfl⟩ := r7
      exact xi_iret dX9_fits_39 rfl (by decide) (Nat.le_of_ble_eq_true rfl) (Nat.le_of_ble_eq_true rfl) ⟨rfl, rfl⟩
  · replace hq := ite_n c4 hq
    refine xi_iload_n 2 dX9_fits_17 rfl ?_
    refine xi_iconst (v := 1) dX9_fits_18 (by decide) ?_
    refine xi_icmp_eq (tgt := 27) dX9_fits_19 (by decide) (fun c8 => ?_) (fun c8 => ?_)
    · replace hq := ite_p c8 hq
      refine xi_iload 0 dX9_fits_27 rfl ?_
      refine xi_iload 5 dX9_fits_29 rfl ?_
      refine xi_icmp_gt (tgt := 38) dX9_fits_31 (by decide) (fun c9 => ?_) (fun c9 => ?_)
      · replace hq := ite_p c9 hq
        refine xi_iconst (v := 0) dX9_fits_38 (by decide) ?_
        have r10 := some_pair hq
        obtain ⟨rfl, rfl⟩ := r10
        exact xi_iret dX9_fits_39 rfl (by decide) (Nat.le_of_ble_eq_true rfl) (Nat.le_of_ble_eq_true rfl) ⟨rfl, rfl⟩
      · replace hq := ite_n c9 hq
        refine xi_iconst (v := 1) dX9_fits_34 (by decide) ?_
        refine xi_goto (tgt := 39) dX9_fits_35 (by decide) ?_
        have r11 := some_pair hq
        obtain ⟨rfl, rfl⟩ := r11
        exact xi_iret dX9_fits_39 rfl (by decide) (Nat.le_of_ble_eq_true rfl) (Nat.le_of_ble_eq_true rfl) ⟨rfl, rfl⟩
    · replace hq := ite_n c8 hq
      refine xi_iload_n 2 dX9_fits_22 rfl ?_
      refine xi_iconst (v := 5) dX9_fits_23 (by decide) ?_
      refine xi_icmp_ne (tgt := 40) dX9_fits_24 (by decide) (fun c12 => ?_) (fun c12 => ?_)
      · replace hq := ite_n c12 hq
        refine xi_iload 0 dX9_fits_40 rfl ?_
        refine xi_aload_n 1 dX9_fits_42 rfl ?_
        refine yi_getR (f := 3) dX9_fits_43 sh_84 rfl ok_7 (by decide) w_186 rfl ?_
        refine xi_iload_n 3 dX9_fits_46 rfl ?_
        refine xi_iconst (v := 1) dX9_fits_47 (by decide) ?_
        refine xi_iload_n 4 dX9_fits_48 rfl ?_
        refine xi_ishl (v := shl (1 : Int32) c) dX9_fits_49 rfl ?_
        refine xi_ior (v := b ||| (shl (1 : Int32) c)) dX9_fits_50 rfl ?_
        obtain ⟨g13, hq⟩ := chk_some hq
        obtain ⟨v14, h15, hq⟩ := rdb_some hq
        refine yi_ialoadV dX9_fits_51 sh_88 g13 h15 ?_
        refine xi_iadd (v := v2 + v14) dX9_fits_52 rfl ?_
        refine xi_aload_n 1 dX9_fits_53 rfl ?_
        refine yi_getR (f := 3) dX9_fits_54 sh_84 rfl ok_7 (by decide) w_186 rfl ?_
        refine xi_iload_n 3 dX9_fits_57 rfl ?_
        obtain ⟨g16, hq⟩ := chk_some hq
        obtain ⟨v17, h18, hq⟩ := rdb_some hq
        refine yi_ialoadV dX9_fits_58 sh_88 g16 h18 ?_
        refine xi_icmp_ne (tgt := 66) dX9_fits_59 (by decide) (fun c19 => ?_) (fun c19 => ?_)
        · replace hq := ite_n c19 hq
          refine xi_iconst (v := 0) dX9_fits_66 (by decide) ?_
          have r20 := some_pair hq
          obtain ⟨rfl, rfl⟩ := r20
          exact xi_iret dX9_fits_67 rfl (by decide) (Nat.le_of_ble_eq_true rfl) (Nat.le_of_ble_eq_true rfl) ⟨rfl, rfl⟩
        · replace hq := ite_p c19 hq
          refine xi_iconst (v := 1) dX9_fits_62 (by decide) ?_
          refine xi_goto (tgt := 67) dX9_fits_63 (by decide) ?_
          have r21 := some_pair hq
          obtain ⟨rfl, rfl⟩ := r21
          exact xi_iret dX9_fits_67 rfl (by decide) (Nat.le_of_ble_eq_true rfl) (Nat.le_of_ble_eq_true rfl) ⟨rfl, rfl⟩
      · replace hq := ite_p c12 hq
        refine xi_iload 0 dX9_fits_27 rfl ?_
        refine xi_iload 5 dX9_fits_29 rfl ?_
        refine xi_icmp_gt (tgt := 38) dX9_fits_31 (by decide) (fun c22 => ?_) (fun c22 => ?_)
        · replace hq := ite_p c22 hq
          refine xi_iconst (v := 0) dX9_fits_38 (by decide) ?_
          have r23 := some_pair hq
          obtain ⟨rfl, rfl⟩ := r23
          exact xi_iret dX9_fits_39 rfl (by decide) (Nat.le_of_ble_eq_true rfl) (Nat.le_of_ble_eq_true rfl) ⟨rfl, rfl⟩
        · replace hq := ite_n c22 hq
          refine xi_iconst (v := 1) dX9_fits_34 (by decide) ?_
          refine xi_goto (tgt := 39) dX9_fits_35 (by decide) ?_
          have r24 := some_pair hq
          obtain ⟨rfl, rfl⟩ := r24
          exact xi_iret dX9_fits_39 rfl (by decide) (Nat.le_of_ble_eq_true rfl) (Nat.le_of_ble_eq_true rfl) ⟨rfl, rfl⟩
noncomputable def SX9_countRows_31 (x1 : Nat) (w2 : Int32) (w3 : Int32) (w5 : Int32) (c : Int32 × Int32) (σ : St) : Option (((Int32 × Int32) ⊕ (Int32)) × St) :=
  (rdb σ x1 (0) (fun v8 => (if v8 ≤ c.2 then (some (Sum.inr c.1, σ)) else (bnd (if ((shr w5 c.2) &&& (1 : Int32)) = (0 : Int32) then (bnd (FX9_fits w2 w5 c.2 w3 σ) (fun v16 t17 => (if v16 = (0 : Int32) then (some (c.1, t17)) else (chk (inb (w5 ||| (shl (1 : Int32) c.2)) 512) (rdb t17 89 ((w5 ||| (shl (1 : Int32) c.2)).toNatClampNeg) (fun v21 => (some ((c.1 + v21), t17)))))))) else (some (c.1, σ))) (fun v12 t13 => (some (Sum.inl (v12, (c.2 + 1)), t13)))))))
noncomputable def SX9_countRows_20 (x1 : Nat) (w2 : Int32) (w3 : Int32) (c : Int32) (σ : St) : Option (((Int32) ⊕ (Unit)) × St) :=
  (if c < (0 : Int32) then (some (Sum.inr (), σ)) else (bnd (wh (SX9_countRows_31 x1 w2 w3 c) ((0 : Int32), (0 : Int32)) σ) (fun e23 t24 => (chk (inb c 512) (wrb t24 89 (c.toNatClampNeg) e23 (fun t28 => (some (Sum.inl (c + (-1)), t28))))))))
set_option maxHeartbeats 4000000 in
set_option maxRecDepth 100000 in
theorem SX9_countRows_31_w (G : xG) (Gb : xMem) (x1 : Nat) (w2 : Int32) (w3 : Int32) (w5 : Int32) (g1x : netAt x1 = true) (r0 : Unit) (t0 : St) :
    ∀ (k : Nat) (c : Int32 × Int32) (σ : St) (r : Int32) (σ' : St), itr (SX9_countRows_31 x1 w2 w3 w5) k c σ = some (r, σ') → (xW G mX9_countRows (xrm 1 0 0) (xQ G (PV r0 t0 Gb) 0 0) 86 [(0, .ref 84), (1, .ref x1), (2, .int w2), (3, .int w3), (5, .int w5), (6, .int r)] [] (mem σ' Gb) 0 0) → xW G mX9_countRows (xrm 1 0 0) (xQ G (PV r0 t0 Gb) 0 0) 31 [(0, .ref 84), (1, .ref x1), (2, .int w2), (3, .int w3), (5, .int w5), (6, .int c.1), (7, .int c.2)] [] (mem σ Gb) 0 0 := by
  intro k
  induction k with
  | zero =>
    intro c σ r σ' h
    exact absurd h (itr_zero _ _ _ _)
  | succ k ih =>
    intro c σ r σ' h HE
    obtain ⟨x, s1, hs, h⟩ := itr_succ h
    unfold SX9_countRows_31 at hs
    refine xi_iload 6 dX9_countRows_31 rfl ?_
    refine xi_aload_n 1 dX9_countRows_33 rfl ?_
    obtain ⟨v8, h9, hs⟩ := rdb_some hs
    refine yi_getV (f := 0) dX9_countRows_34 (netAt_0 g1x) rfl ok_5 (by decide) w_65 rfl h9 ?_
    refine xi_icmp_ge (tgt := 86) dX9_countRows_37 (by decide) (fun c10 => ?_) (fun c10 => ?_)
    · replace hs := ite_p c10 hs
      refine xi_sub (lv' := [(0, .ref 84), (1, .ref x1), (2, .int w2), (3, .int w3), (5, .int w5), (6, .int c.1)]) [0, 1, 2, 3, 4, 5] rfl ?_
      obtain ⟨rfl, rfl⟩ := some_pair hs
      obtain ⟨rfl, rfl⟩ := some_pair h
      exact HE
    · replace hs := ite_n c10 hs
      refine xi_iload 4 dX9_countRows_40 rfl ?_
      refine xi_iload 6 dX9_countRows_42 rfl ?_
      refine xi_ishr (v := shr w5 c.2) dX9_countRows_44 rfl ?_
      refine xi_iconst (v := 1) dX9_countRows_45 (by decide) ?_
      refine xi_iand (v := (shr w5 c.2) &&& (1 : Int32)) dX9_countRows_46 rfl ?_
      obtain ⟨v12, t13, m14, hs⟩ := bnd_some hs
      have key15 : xW G mX9_countRows (xrm 1 0 0) (xQ G (PV r0 t0 Gb) 0 0) 80 [(0, .ref 84), (1, .ref x1), (2, .int w2), (3, .int w3), (5, .int w5), (6, .int v12), (7, .int c.2)] [] (mem t13 Gb) 0 0 := by
        refine xi_iinc (v := (c.2 + 1)) (lv' := [(7, .int (c.2 + 1)), (0, .ref 84), (1, .ref x1), (2, .int w2), (3, .int w3), (5, .int w5), (6, .int v12)]) 6 dX9_countRows_80 rfl rfl (by decide) rfl ?_
        refine xi_goto (tgt := 31) dX9_countRows_83 (by decide) ?_
        refine xi_sub (lv' := [(0, .ref 84), (1, .ref x1), (2, .int w2), (3, .int w3), (5, .int w5), (6, .int v12), (7, .int (c.2 + 1))]) [1, 2, 3, 4, 5, 6, 0] rfl ?_
        obtain ⟨rfl, rfl⟩ := some_pair hs
        exact ih (v12, (c.2 + 1)) t13 _ _ h HE
      refine xi_if_ne (tgt := 80) dX9_countRows_47 (by decide) (fun c11 => ?_) (fun c11 => ?_)
      · replace m14 := ite_n c11 m14
        obtain ⟨rfl, rfl⟩ := some_pair m14
        exact key15
      · replace m14 := ite_p c11 m14
        refine xi_aload_n 0 dX9_countRows_50 rfl ?_
        refine xi_iload_n 2 dX9_countRows_51 rfl ?_
        refine xi_iload 4 dX9_countRows_52 rfl ?_
        refine xi_iload 6 dX9_countRows_54 rfl ?_
        refine xi_iload_n 3 dX9_countRows_56 rfl ?_
        obtain ⟨v16, t17, k18, m14⟩ := bnd_some m14
        refine xi_callV (as := [.int w2, .int w5, .int c.2, .int w3]) (rest := []) dX9_countRows_57 (KX9_fits G Gb w2 w5 c.2 w3 _ _ _ k18) mkX9_fits w_740 ws_28 w_738 (mem_get sh_84) rfl rfl rfl rfl (Nat.le_of_ble_eq_true rfl) (Nat.le_of_ble_eq_true rfl) (Nat.le_of_ble_eq_true rfl) (Nat.le_of_ble_eq_true rfl) (Nat.le_of_ble_eq_true rfl) ?_
        intro v M2 hz
        obtain ⟨rfl, rfl⟩ := hz
        show xW _ _ _ _ 60 _ [.int v16] (mem t17 Gb) _ _
        refine xi_if_eq (tgt := 80) dX9_countRows_60 (by decide) (fun c19 => ?_) (fun c19 => ?_)
        · replace m14 := ite_p c19 m14
          obtain ⟨rfl, rfl⟩ := some_pair m14
          exact key15
        · replace m14 := ite_n c19 m14
          refine xi_iload 5 dX9_countRows_63 rfl ?_
          refine xi_aload_n 0 dX9_countRows_65 rfl ?_
          refine yi_getR (f := 4) dX9_countRows_66 sh_84 rfl ok_7 (by decide) w_187 rfl ?_
          refine xi_iload 4 dX9_countRows_69 rfl ?_
          refine xi_iconst (v := 1) dX9_countRows_71 (by decide) ?_
          refine xi_iload 6 dX9_countRows_72 rfl ?_
          refine xi_ishl (v := shl (1 : Int32) c.2) dX9_countRows_74 rfl ?_
          refine xi_ior (v := w5 ||| (shl (1 : Int32) c.2)) dX9_countRows_75 rfl ?_
          obtain ⟨g20, m14⟩ := chk_some m14
          obtain ⟨v21, h22, m14⟩ := rdb_some m14
          refine yi_ialoadV dX9_countRows_76 sh_89 g20 h22 ?_
          refine xi_iadd (v := c.1 + v21) dX9_countRows_77 rfl ?_
          refine xi_istore (lv' := [(6, .int (c.1 + v21)), (0, .ref 84), (1, .ref x1), (2, .int w2), (3, .int w3), (5, .int w5), (7, .int c.2)]) dX9_countRows_78 (by decide) rfl ?_
          obtain ⟨rfl, rfl⟩ := some_pair m14
          refine xi_sub (lv' := [(0, .ref 84), (1, .ref x1), (2, .int w2), (3, .int w3), (5, .int w5), (6, .int (c.1 + v21)), (7, .int c.2)]) [1, 2, 3, 4, 5, 0, 6] rfl ?_
          exact key15
set_option maxHeartbeats 4000000 in
set_option maxRecDepth 100000 in
theorem SX9_countRows_20_w (G : xG) (Gb : xMem) (x1 : Nat) (w2 : Int32) (w3 : Int32) (g1x : netAt x1 = true) (r0 : Unit) (t0 : St) :
    ∀ (k : Nat) (c : Int32) (σ : St) (r : Unit) (σ' : St), itr (SX9_countRows_20 x1 w2 w3) k c σ = some (r, σ') → (xW G mX9_countRows (xrm 1 0 0) (xQ G (PV r0 t0 Gb) 0 0) 101 [] [] (mem σ' Gb) 0 0) → xW G mX9_countRows (xrm 1 0 0) (xQ G (PV r0 t0 Gb) 0 0) 20 [(0, .ref 84), (1, .ref x1), (2, .int w2), (3, .int w3), (5, .int c)] [] (mem σ Gb) 0 0 := by
  intro k
  induction k with
  | zero =>
    intro c σ r σ' h
    exact absurd h (itr_zero _ _ _ _)
  | succ k ih =>
    intro c σ r σ' h HE
    obtain ⟨x, s1, hs, h⟩ := itr_succ h
    unfold SX9_countRows_20 at hs
    refine xi_iload 4 dX9_countRows_20 rfl ?_
    refine xi_if_lt (tgt := 101) dX9_countRows_22 (by decide) (fun c7 => ?_) (fun c7 => ?_)
    · replace hs := ite_p c7 hs
      refine xi_sub (lv' := []) [] rfl ?_
      obtain ⟨rfl, rfl⟩ := some_pair hs
      obtain ⟨rfl, rfl⟩ := some_pair h
      exact HE
    · replace hs := ite_n c7 hs
      refine xi_iconst (v := 0) dX9_countRows_25 (by decide) ?_
      refine xi_istore (lv' := [(6, .int 0), (0, .ref 84), (1, .ref x1), (2, .int w2), (3, .int w3), (5, .int c)]) dX9_countRows_26 (by decide) rfl ?_
      refine xi_iconst (v := 0) dX9_countRows_28 (by decide) ?_
      refine xi_istore (lv' := [(7, .int 0), (6, .int 0), (0, .ref 84), (1, .ref x1), (2, .int w2), (3, .int w3), (5, .int c)]) dX9_countRows_29 (by decide) rfl ?_
      refine xi_sub (lv' := [(0, .ref 84), (1, .ref x1), (2, .int w2), (3, .int w3), (5, .int c), (6, .int 0), (7, .int 0)]) [2, 3, 4, 5, 6, 1, 0] rfl ?_
      obtain ⟨e23, t24, k25, hs⟩ := bnd_some hs
      obtain ⟨n26, k25⟩ := wh_itr k25
      refine SX9_countRows_31_w G Gb x1 w2 w3 c g1x r0 t0 n26 ((0 : Int32), (0 : Int32)) σ _ _ k25 ?_
      show xW G mX9_countRows (xrm 1 0 0) (xQ G (PV r0 t0 Gb) 0 0) 86 [(0, .ref 84), (1, .ref x1), (2, .int w2), (3, .int w3), (5, .int c), (6, .int e23)] [] (mem t24 Gb) 0 0
      refine xi_aload_n 0 dX9_countRows_86 rfl ?_
      refine yi_getR (f := 4) dX9_countRows_87 sh_84 rfl ok_7 (by decide) w_187 rfl ?_
      refine xi_iload 4 dX9_countRows_90 rfl ?_
      refine xi_iload 5 dX9_countRows_92 rfl ?_
      obtain ⟨g27, hs⟩ := chk_some hs
      obtain ⟨t28, h29, hs⟩ := wrb_some hs
      refine yi_iastoreV dX9_countRows_94 sh_89 g27 h29 ?_
      refine xi_iinc (v := (c + (-1))) (lv' := [(5, .int (c + (-1))), (0, .ref 84), (1, .ref x1), (2, .int w2), (3, .int w3), (6, .int e23)]) 4 dX9_countRows_95 rfl rfl (by decide) rfl ?_
      refine xi_goto (tgt := 20) dX9_countRows_98 (by decide) ?_
      refine xi_sub (lv' := [(0, .ref 84), (1, .ref x1), (2, .int w2), (3, .int w3), (5, .int (c + (-1)))]) [1, 2, 3, 4, 0] rfl ?_
      obtain ⟨rfl, rfl⟩ := some_pair hs
      exact ih (c + (-1)) t28 _ _ h HE
noncomputable def FX9_countRows (x : Nat) (a : Int32) (b : Int32) (σ : St) : Option ((Unit) × St) :=
  (chk (netAt x) (bnd (FX5_allBits x σ) (fun v1 t2 => (chk (inb v1 512) (wrb t2 89 (v1.toNatClampNeg) (1 : Int32) (fun t5 => (bnd (wh (SX9_countRows_20 x a b) (v1 - (1 : Int32)) t5) (fun e30 t31 => (some ((), t31))))))))))
set_option maxHeartbeats 4000000 in
set_option maxRecDepth 100000 in
theorem KX9_countRows (G : xG) (Gb : xMem) (x : Nat) (a : Int32) (b : Int32) (σ : St) (r0 : Unit) (t0 : St) (hq : FX9_countRows x a b σ = some (r0, t0)) : xC G mX9_countRows 1 0 0 [.ref 84, .ref x, .int a, .int b] (mem σ Gb) (PV r0 t0 Gb) := by
  unfold FX9_countRows at hq
  refine xC.of (by decide) (Nat.le_of_ble_eq_true rfl) ?_
  show xW _ _ _ _ 0 [(0, .ref 84), (1, .ref x), (2, .int a), (3, .int b)] [] _ 0 0
  obtain ⟨g_x, hq⟩ := chk_some hq
  refine xi_aload_n 1 dX9_countRows_0 rfl ?_
  obtain ⟨v1, t2, k3, hq⟩ := bnd_some hq
  refine xi_callV (as := []) (rest := []) dX9_countRows_1 (KX5_allBits G Gb x _ _ _ k3) mkX5_allBits w_441 w_442 w_718 (mem_get (netAt_0 g_x)) rfl rfl rfl rfl (Nat.le_of_ble_eq_true rfl) (Nat.le_of_ble_eq_true rfl) (Nat.le_of_ble_eq_true rfl) (Nat.le_of_ble_eq_true rfl) (Nat.le_of_ble_eq_true rfl) ?_
  intro v M2 hz
  obtain ⟨rfl, rfl⟩ := hz
  show xW _ _ _ _ 4 _ [.int v1] (mem t2 Gb) _ _
  refine xi_istore (lv' := [(4, .int v1), (0, .ref 84), (1, .ref x), (2, .int a), (3, .int b)]) dX9_countRows_4 (by decide) rfl ?_
  refine xi_aload_n 1 dX9_countRows_6 rfl ?_
  refine yi_getR (f := 4) dX9_countRows_7 sh_84 rfl ok_7 (by decide) w_187 rfl ?_
  refine xi_iload 0 dX9_countRows_10 rfl ?_
  refine xi_iconst (v := 1) dX9_countRows_12 (by decide) ?_
  obtain ⟨g4, hq⟩ := chk_some hq
  obtain ⟨t5, h6, hq⟩ := wrb_some hq
  refine yi_iastoreV dX9_countRows_13 sh_89 g4 h6 ?_
  refine xi_iload 0 dX9_countRows_14 rfl ?_
  refine xi_iconst (v := 1) dX9_countRows_16 (by decide) ?_
  refine xi_isub (v := v1 - (1 : Int32)) dX9_countRows_17 rfl ?_
  refine xi_istore (lv' := [(5, .int (v1 - (1 : Int32))), (4, .int v1), (0, .ref 84), (1, .ref x), (2, .int a), (3, .int b)]) dX9_countRows_18 (by decide) rfl ?_
  refine xi_sub (lv' := [(0, .ref 84), (1, .ref x), (2, .int a), (3, .int b), (5, .int (v1 - (1 : Int32)))]) [2, 3, 4, 5, 0] rfl ?_
  obtain ⟨e30, t31, k32, hq⟩ := bnd_some hq
  obtain ⟨n33, k32⟩ := wh_itr k32
  refine SX9_countRows_20_w G Gb x a b g_x r0 t0 n33 (v1 - (1 : Int32)) t5 _ _ k32 ?_
  show xW G mX9_countRows (xrm 1 0 0) (xQ G (PV r0 t0 Gb) 0 0) 101 [] [] (mem t31 Gb) 0 0
  have r34 := some_pair hq
  obtain ⟨rfl, rfl⟩ := r34
  exact xi_vret dX9_countRows_101 rfl (Nat.le_of_ble_eq_true rfl) (Nat.le_of_ble_eq_true rfl) ⟨rfl, rfl⟩
noncomputable def SX9_fillAround_2 (x1 : Nat) (c : Int32) (σ : St) : Option (((Int32) ⊕ (Unit)) × St) :=
  (rdb σ x1 (0) (fun v1 => (if v1 ≤ c then (some (Sum.inr (), σ)) else (chk (inb c 9) (rdb σ (x1 + 1) (c.toNatClampNeg) (fun v5 => (chk (inb c 4608) (wrb σ 87 (c.toNatClampNeg) v5 (fun t8 => (some (Sum.inl (c + 1), t8)))))))))))
noncomputable def SX9_fillAround_56 (x1 : Nat) (w2 : Int32) (w3 : Int32) (w4 : Int32) (c : Int32) (σ : St) : Option (((Int32) ⊕ (Unit)) × St) :=
  (rdb σ x1 (0) (fun v21 => (if v21 ≤ c then (some (Sum.inr (), σ)) else (bnd (if ((shr w2 c) &&& (1 : Int32)) = (0 : Int32) then (chk (inb (w4 + c) 4608) (rdb σ 87 ((w4 + c).toNatClampNeg) (fun v30 => (bnd (if ((shr v30 w3) &&& (1 : Int32)) = (0 : Int32) then (some (v30, σ)) else (chk (inb (w4 + w3) 4608) (rdb σ 87 ((w4 + w3).toNatClampNeg) (fun v41 => (some (((v30 ||| v41) &&& (((shl (1 : Int32) c) ||| (shl (1 : Int32) w3)) ^^^ (-1 : Int32))), σ)))))) (fun v33 t34 => (chk (inb ((w2 * (9 : Int32)) + c) 4608) (wrb t34 87 (((w2 * (9 : Int32)) + c).toNatClampNeg) v33 (fun t38 => (some ((), t38)))))))))) else (some ((), σ))) (fun v25 t26 => (some (Sum.inl (c + 1), t26)))))))
noncomputable def SX9_fillAround_30 (x1 : Nat) (c : Int32) (σ : St) : Option (((Int32) ⊕ (Unit)) × St) :=
  (bnd (FX5_allBits x1 σ) (fun v14 t15 => (if v14 < c then (some (Sum.inr (), t15)) else (bnd (FX9_lowest c t15) (fun v18 t19 => (bnd (wh (SX9_fillAround_56 x1 c v18 ((c &&& (c - (1 : Int32))) * (9 : Int32))) (0 : Int32) t19) (fun e43 t44 => (some (Sum.inl (c + 1), t44)))))))))
set_option maxHeartbeats 4000000 in
set_option maxRecDepth 100000 in
theorem SX9_fillAround_2_w (G : xG) (Gb : xMem) (x1 : Nat) (g1x : netAt x1 = true) (r0 : Unit) (t0 : St) :
    ∀ (k : Nat) (c : Int32) (σ : St) (r : Unit) (σ' : St), itr (SX9_fillAround_2 x1) k c σ = some (r, σ') → (xW G mX9_fillAround (xrm 1 0 0) (xQ G (PV r0 t0 Gb) 0 0) 28 [(0, .ref 84), (1, .ref x1)] [] (mem σ' Gb) 0 0) → xW G mX9_fillAround (xrm 1 0 0) (xQ G (PV r0 t0 Gb) 0 0) 2 [(0, .ref 84), (1, .ref x1), (2, .int c)] [] (mem σ Gb) 0 0 := by
  intro k
  induction k with
  | zero =>
    intro c σ r σ' h
    exact absurd h (itr_zero _ _ _ _)
  | succ k ih =>
    intro c σ r σ' h HE
    obtain ⟨x, s1, hs, h⟩ := itr_succ h
    unfold SX9_fillAround_2 at hs
    refine xi_iload_n 2 dX9_fillAround_2 rfl ?_
    refine xi_aload_n 1 dX9_fillAround_3 rfl ?_
    obtain ⟨v1, h2, hs⟩ := rdb_some hs
    refine yi_getV (f := 0) dX9_fillAround_4 (netAt_0 g1x) rfl ok_5 (by decide) w_65 rfl h2 ?_
    refine xi_icmp_ge (tgt := 28) dX9_fillAround_7 (by decide) (fun c3 => ?_) (fun c3 => ?_)
    · replace hs := ite_p c3 hs
      refine xi_sub (lv' := [(0, .ref 84), (1, .ref x1)]) [0, 1] rfl ?_
      obtain ⟨rfl, rfl⟩ := some_pair hs
      obtain ⟨rfl, rfl⟩ := some_pair h
      exact HE
    · replace hs := ite_n c3 hs
      refine xi_aload_n 0 dX9_fillAround_10 rfl ?_
      refine yi_getR (f := 2) dX9_fillAround_11 sh_84 rfl ok_7 (by decide) w_185 rfl ?_
      refine xi_iload_n 2 dX9_fillAround_14 rfl ?_
      refine xi_aload_n 1 dX9_fillAround_15 rfl ?_
      refine yi_getR (f := 2) dX9_fillAround_16 (netAt_0 g1x) rfl ok_5 (by decide) w_75 rfl ?_
      refine xi_iload_n 2 dX9_fillAround_19 rfl ?_
      obtain ⟨g4, hs⟩ := chk_some hs
      obtain ⟨v5, h6, hs⟩ := rdb_some hs
      refine yi_ialoadV dX9_fillAround_20 (netAt_1 g1x) g4 h6 ?_
      obtain ⟨g7, hs⟩ := chk_some hs
      obtain ⟨t8, h9, hs⟩ := wrb_some hs
      refine yi_iastoreV dX9_fillAround_21 sh_87 g7 h9 ?_
      refine xi_iinc (v := (c + 1)) (lv' := [(2, .int (c + 1)), (0, .ref 84), (1, .ref x1)]) 2 dX9_fillAround_22 rfl rfl (by decide) rfl ?_
      refine xi_goto (tgt := 2) dX9_fillAround_25 (by decide) ?_
      refine xi_sub (lv' := [(0, .ref 84), (1, .ref x1), (2, .int (c + 1))]) [1, 2, 0] rfl ?_
      obtain ⟨rfl, rfl⟩ := some_pair hs
      exact ih (c + 1) t8 _ _ h HE
set_option maxHeartbeats 4000000 in
set_option maxRecDepth 100000 in
theorem SX9_fillAround_56_w (G : xG) (Gb : xMem) (x1 : Nat) (w2 : Int32) (w3 : Int32) (w4 : Int32) (g1x : netAt x1 = true) (r0 : Unit) (t0 : St) :
    ∀ (k : Nat) (c : Int32) (σ : St) (r : Unit) (σ' : St), itr (SX9_fillAround_56 x1 w2 w3 w4) k c σ = some (r, σ') → (xW G mX9_fillAround (xrm 1 0 0) (xQ G (PV r0 t0 Gb) 0 0) 140 [(0, .ref 84), (1, .ref x1), (2, .int w2)] [] (mem σ' Gb) 0 0) → xW G mX9_fillAround (xrm 1 0 0) (xQ G (PV r0 t0 Gb) 0 0) 56 [(0, .ref 84), (1, .ref x1), (2, .int w2), (3, .int w3), (4, .int w4), (5, .int c)] [] (mem σ Gb) 0 0 := by
  intro k
  induction k with
  | zero =>
    intro c σ r σ' h
    exact absurd h (itr_zero _ _ _ _)
  | succ k ih =>
    intro c σ r σ' h HE
    obtain ⟨x, s1, hs, h⟩ := itr_succ h
    unfold SX9_fillAround_56 at hs
    refine xi_iload 5 dX9_fillAround_56 rfl ?_
    refine xi_aload_n 1 dX9_fillAround_58 rfl ?_
    obtain ⟨v21, h22, hs⟩ := rdb_some hs
    refine yi_getV (f := 0) dX9_fillAround_59 (netAt_0 g1x) rfl ok_5 (by decide) w_65 rfl h22 ?_
    refine xi_icmp_ge (tgt := 140) dX9_fillAround_62 (by decide) (fun c23 => ?_) (fun c23 => ?_)
    · replace hs := ite_p c23 hs
      refine xi_sub (lv' := [(0, .ref 84), (1, .ref x1), (2, .int w2)]) [0, 1, 2] rfl ?_
      obtain ⟨rfl, rfl⟩ := some_pair hs
      obtain ⟨rfl, rfl⟩ := some_pair h
      exact HE
    · replace hs := ite_n c23 hs
      refine xi_iload_n 2 dX9_fillAround_65 rfl ?_
      refine xi_iload 5 dX9_fillAround_66 rfl ?_
      refine xi_ishr (v := shr w2 c) dX9_fillAround_68 rfl ?_
      refine xi_iconst (v := 1) dX9_fillAround_69 (by decide) ?_
      refine xi_iand (v := (shr w2 c) &&& (1 : Int32)) dX9_fillAround_70 rfl ?_
      obtain ⟨v25, t26, m27, hs⟩ := bnd_some hs
      have key28 : xW G mX9_fillAround (xrm 1 0 0) (xQ G (PV r0 t0 Gb) 0 0) 134 [(0, .ref 84), (1, .ref x1), (2, .int w2), (3, .int w3), (4, .int w4), (5, .int c)] [] (mem t26 Gb) 0 0 := by
        refine xi_iinc (v := (c + 1)) (lv' := [(5, .int (c + 1)), (0, .ref 84), (1, .ref x1), (2, .int w2), (3, .int w3), (4, .int w4)]) 5 dX9_fillAround_134 rfl rfl (by decide) rfl ?_
        refine xi_goto (tgt := 56) dX9_fillAround_137 (by decide) ?_
        refine xi_sub (lv' := [(0, .ref 84), (1, .ref x1), (2, .int w2), (3, .int w3), (4, .int w4), (5, .int (c + 1))]) [1, 2, 3, 4, 5, 0] rfl ?_
        obtain ⟨rfl, rfl⟩ := some_pair hs
        exact ih (c + 1) t26 _ _ h HE
      refine xi_if_ne (tgt := 134) dX9_fillAround_71 (by decide) (fun c24 => ?_) (fun c24 => ?_)
      · replace m27 := ite_n c24 m27
        obtain ⟨rfl, rfl⟩ := some_pair m27
        exact key28
      · replace m27 := ite_p c24 m27
        refine xi_aload_n 0 dX9_fillAround_74 rfl ?_
        refine yi_getR (f := 2) dX9_fillAround_75 sh_84 rfl ok_7 (by decide) w_185 rfl ?_
        refine xi_iload 4 dX9_fillAround_78 rfl ?_
        refine xi_iload 5 dX9_fillAround_80 rfl ?_
        refine xi_iadd (v := w4 + c) dX9_fillAround_82 rfl ?_
        obtain ⟨g29, m27⟩ := chk_some m27
        obtain ⟨v30, h31, m27⟩ := rdb_some m27
        refine yi_ialoadV dX9_fillAround_83 sh_87 g29 h31 ?_
        refine xi_istore (lv' := [(6, .int v30), (0, .ref 84), (1, .ref x1), (2, .int w2), (3, .int w3), (4, .int w4), (5, .int c)]) dX9_fillAround_84 (by decide) rfl ?_
        refine xi_iload 0 dX9_fillAround_86 rfl ?_
        refine xi_iload_n 4 dX9_fillAround_88 rfl ?_
        refine xi_ishr (v := shr v30 w3) dX9_fillAround_89 rfl ?_
        refine xi_iconst (v := 1) dX9_fillAround_90 (by decide) ?_
        refine xi_iand (v := (shr v30 w3) &&& (1 : Int32)) dX9_fillAround_91 rfl ?_
        obtain ⟨v33, t34, m35, m27⟩ := bnd_some m27
        have key36 : xW G mX9_fillAround (xrm 1 0 0) (xQ G (PV r0 t0 Gb) 0 0) 120 [(0, .ref 84), (1, .ref x1), (2, .int w2), (3, .int w3), (4, .int w4), (5, .int c), (6, .int v33)] [] (mem t34 Gb) 0 0 := by
          refine xi_aload_n 0 dX9_fillAround_120 rfl ?_
          refine yi_getR (f := 2) dX9_fillAround_121 sh_84 rfl ok_7 (by decide) w_185 rfl ?_
          refine xi_iload_n 2 dX9_fillAround_124 rfl ?_
          refine xi_bipush (v := 9) dX9_fillAround_125 (by decide) ?_
          refine xi_imul (v := w2 * (9 : Int32)) dX9_fillAround_127 rfl ?_
          refine xi_iload 5 dX9_fillAround_128 rfl ?_
          refine xi_iadd (v := (w2 * (9 : Int32)) + c) dX9_fillAround_130 rfl ?_
          refine xi_iload 6 dX9_fillAround_131 rfl ?_
          obtain ⟨g37, m27⟩ := chk_some m27
          obtain ⟨t38, h39, m27⟩ := wrb_some m27
          refine yi_iastoreV dX9_fillAround_133 sh_87 g37 h39 ?_
          obtain ⟨rfl, rfl⟩ := some_pair m27
          refine xi_sub (lv' := [(0, .ref 84), (1, .ref x1), (2, .int w2), (3, .int w3), (4, .int w4), (5, .int c)]) [0, 1, 2, 3, 4, 5] rfl ?_
          exact key28
        refine xi_if_eq (tgt := 120) dX9_fillAround_92 (by decide) (fun c32 => ?_) (fun c32 => ?_)
        · replace m35 := ite_p c32 m35
          obtain ⟨rfl, rfl⟩ := some_pair m35
          refine xi_sub (lv' := [(0, .ref 84), (1, .ref x1), (2, .int w2), (3, .int w3), (4, .int w4), (5, .int c), (6, .int v30)]) [1, 2, 3, 4, 5, 6, 0] rfl ?_
          exact key36
        · replace m35 := ite_n c32 m35
          refine xi_iload 0 dX9_fillAround_95 rfl ?_
          refine xi_aload_n 1 dX9_fillAround_97 rfl ?_
          refine yi_getR (f := 2) dX9_fillAround_98 sh_84 rfl ok_7 (by decide) w_185 rfl ?_
          refine xi_iload 5 dX9_fillAround_101 rfl ?_
          refine xi_iload_n 4 dX9_fillAround_103 rfl ?_
          refine xi_iadd (v := w4 + w3) dX9_fillAround_104 rfl ?_
          obtain ⟨g40, m35⟩ := chk_some m35
          obtain ⟨v41, h42, m35⟩ := rdb_some m35
          refine yi_ialoadV dX9_fillAround_105 sh_87 g40 h42 ?_
          refine xi_ior (v := v30 ||| v41) dX9_fillAround_106 rfl ?_
          refine xi_iconst (v := 1) dX9_fillAround_107 (by decide) ?_
          refine xi_iload 6 dX9_fillAround_108 rfl ?_
          refine xi_ishl (v := shl (1 : Int32) c) dX9_fillAround_110 rfl ?_
          refine xi_iconst (v := 1) dX9_fillAround_111 (by decide) ?_
          refine xi_iload_n 4 dX9_fillAround_112 rfl ?_
          refine xi_ishl (v := shl (1 : Int32) w3) dX9_fillAround_113 rfl ?_
          refine xi_ior (v := (shl (1 : Int32) c) ||| (shl (1 : Int32) w3)) dX9_fillAround_114 rfl ?_
          refine xi_iconst (v := (-1)) dX9_fillAround_115 (by decide) ?_
          refine xi_ixor (v := ((shl (1 : Int32) c) ||| (shl (1 : Int32) w3)) ^^^ (-1 : Int32)) dX9_fillAround_116 rfl ?_
          refine xi_iand (v := (v30 ||| v41) &&& (((shl (1 : Int32) c) ||| (shl (1 : Int32) w3)) ^^^ (-1 : Int32))) dX9_fillAround_117 rfl ?_
          refine xi_istore (lv' := [(6, .int ((v30 ||| v41) &&& (((shl (1 : Int32) c) ||| (shl (1 : Int32) w3)) ^^^ (-1 : Int32)))), (0, .ref 84), (1, .ref x1), (2, .int w2), (3, .int w3), (4, .int w4), (5, .int c)]) dX9_fillAround_118 (by decide) rfl ?_
          obtain ⟨rfl, rfl⟩ := some_pair m35
          refine xi_sub (lv' := [(0, .ref 84), (1, .ref x1), (2, .int w2), (3, .int w3), (4, .int w4), (5, .int c), (6, .int ((v30 ||| v41) &&& (((shl (1 : Int32) c) ||| (shl (1 : Int32) w3)) ^^^ (-1 : Int32))))]) [1, 2, 3, 4, 5, 6, 0] rfl ?_
          exact key36
set_option maxHeartbeats 4000000 in
set_option maxRecDepth 100000 in
theorem SX9_fillAround_30_w (G : xG) (Gb : xMem) (x1 : Nat) (g1x : netAt x1 = true) (r0 : Unit) (t0 : St) :
    ∀ (k : Nat) (c : Int32) (σ : St) (r : Unit) (σ' : St), itr (SX9_fillAround_30 x1) k c σ = some (r, σ') → (xW G mX9_fillAround (xrm 1 0 0) (xQ G (PV r0 t0 Gb) 0 0) 146 [] [] (mem σ' Gb) 0 0) → xW G mX9_fillAround (xrm 1 0 0) (xQ G (PV r0 t0 Gb) 0 0) 30 [(0, .ref 84), (1, .ref x1), (2, .int c)] [] (mem σ Gb) 0 0 := by
  intro k
  induction k with
  | zero =>
    intro c σ r σ' h
    exact absurd h (itr_zero _ _ _ _)
  | succ k ih =>
    intro c σ r σ' h HE
    obtain ⟨x, s1, hs, h⟩ := itr_succ h
    unfold SX9_fillAround_30 at hs
    refine xi_iload_n 2 dX9_fillAround_30 rfl ?_
    refine xi_aload_n 1 dX9_fillAround_31 rfl ?_
    obtain ⟨v14, t15, k16, hs⟩ := bnd_some hs
    refine xi_callV (as := []) (rest := [.int c]) dX9_fillAround_32 (KX5_allBits G Gb x1 _ _ _ k16) mkX5_allBits w_441 w_442 w_718 (mem_get (netAt_0 g1x)) rfl rfl rfl rfl (Nat.le_of_ble_eq_true rfl) (Nat.le_of_ble_eq_true rfl) (Nat.le_of_ble_eq_true rfl) (Nat.le_of_ble_eq_true rfl) (Nat.le_of_ble_eq_true rfl) ?_
    intro v M2 hz
    obtain ⟨rfl, rfl⟩ := hz
    show xW _ _ _ _ 35 _ [.int v14, .int c] (mem t15 Gb) _ _
    refine xi_icmp_gt (tgt := 146) dX9_fillAround_35 (by decide) (fun c17 => ?_) (fun c17 => ?_)
    · replace hs := ite_p c17 hs
      refine xi_sub (lv' := []) [] rfl ?_
      obtain ⟨rfl, rfl⟩ := some_pair hs
      obtain ⟨rfl, rfl⟩ := some_pair h
      exact HE
    · replace hs := ite_n c17 hs
      refine xi_iload_n 2 dX9_fillAround_38 rfl ?_
      obtain ⟨v18, t19, k20, hs⟩ := bnd_some hs
      refine xi_callS (as := [.int c]) (rest := []) dX9_fillAround_39 (KX9_lowest G Gb c _ _ _ k20) mkX9_lowest w_699 w_719 rfl rfl (Nat.le_of_ble_eq_true rfl) (Nat.le_of_ble_eq_true rfl) (Nat.le_of_ble_eq_true rfl) (Nat.le_of_ble_eq_true rfl) (Nat.le_of_ble_eq_true rfl) ?_
      intro v M2 hz
      obtain ⟨rfl, rfl⟩ := hz
      show xW _ _ _ _ 42 _ [.int v18] (mem t19 Gb) _ _
      refine xi_istore_n (lv' := [(3, .int v18), (0, .ref 84), (1, .ref x1), (2, .int c)]) dX9_fillAround_42 (by decide) rfl ?_
      refine xi_iload_n 3 dX9_fillAround_43 rfl ?_
      refine xi_iload_n 3 dX9_fillAround_44 rfl ?_
      refine xi_iconst (v := 1) dX9_fillAround_45 (by decide) ?_
      refine xi_isub (v := c - (1 : Int32)) dX9_fillAround_46 rfl ?_
      refine xi_iand (v := c &&& (c - (1 : Int32))) dX9_fillAround_47 rfl ?_
      refine xi_bipush (v := 9) dX9_fillAround_48 (by decide) ?_
      refine xi_imul (v := (c &&& (c - (1 : Int32))) * (9 : Int32)) dX9_fillAround_50 rfl ?_
      refine xi_istore (lv' := [(4, .int ((c &&& (c - (1 : Int32))) * (9 : Int32))), (3, .int v18), (0, .ref 84), (1, .ref x1), (2, .int c)]) dX9_fillAround_51 (by decide) rfl ?_
      refine xi_iconst (v := 0) dX9_fillAround_53 (by decide) ?_
      refine xi_istore (lv' := [(5, .int 0), (4, .int ((c &&& (c - (1 : Int32))) * (9 : Int32))), (3, .int v18), (0, .ref 84), (1, .ref x1), (2, .int c)]) dX9_fillAround_54 (by decide) rfl ?_
      refine xi_sub (lv' := [(0, .ref 84), (1, .ref x1), (2, .int c), (3, .int v18), (4, .int ((c &&& (c - (1 : Int32))) * (9 : Int32))), (5, .int 0)]) [3, 4, 5, 2, 1, 0] rfl ?_
      obtain ⟨e43, t44, k45, hs⟩ := bnd_some hs
      obtain ⟨n46, k45⟩ := wh_itr k45
      refine SX9_fillAround_56_w G Gb x1 c v18 ((c &&& (c - (1 : Int32))) * (9 : Int32)) g1x r0 t0 n46 (0 : Int32) t19 _ _ k45 ?_
      show xW G mX9_fillAround (xrm 1 0 0) (xQ G (PV r0 t0 Gb) 0 0) 140 [(0, .ref 84), (1, .ref x1), (2, .int c)] [] (mem t44 Gb) 0 0
      refine xi_iinc (v := (c + 1)) (lv' := [(2, .int (c + 1)), (0, .ref 84), (1, .ref x1)]) 2 dX9_fillAround_140 rfl rfl (by decide) rfl ?_
      refine xi_goto (tgt := 30) dX9_fillAround_143 (by decide) ?_
      refine xi_sub (lv' := [(0, .ref 84), (1, .ref x1), (2, .int (c + 1))]) [1, 2, 0] rfl ?_
      obtain ⟨rfl, rfl⟩ := some_pair hs
      exact ih (c + 1) t44 _ _ h HE
noncomputable def FX9_fillAround (x : Nat) (σ : St) : Option ((Unit) × St) :=
  (chk (netAt x) (bnd (wh (SX9_fillAround_2 x) (0 : Int32) σ) (fun e10 t11 => (bnd (wh (SX9_fillAround_30 x) (1 : Int32) t11) (fun e47 t48 => (some ((), t48)))))))
set_option maxHeartbeats 4000000 in
set_option maxRecDepth 100000 in
theorem KX9_fillAround (G : xG) (Gb : xMem) (x : Nat) (σ : St) (r0 : Unit) (t0 : St) (hq : FX9_fillAround x σ = some (r0, t0)) : xC G mX9_fillAround 1 0 0 [.ref 84, .ref x] (mem σ Gb) (PV r0 t0 Gb) := by
  unfold FX9_fillAround at hq
  refine xC.of (by decide) (Nat.le_of_ble_eq_true rfl) ?_
  show xW _ _ _ _ 0 [(0, .ref 84), (1, .ref x)] [] _ 0 0
  obtain ⟨g_x, hq⟩ := chk_some hq
  refine xi_iconst (v := 0) dX9_fillAround_0 (by decide) ?_
  refine xi_istore_n (lv' := [(2, .int 0), (0, .ref 84), (1, .ref x)]) dX9_fillAround_1 (by decide) rfl ?_
  refine xi_sub (lv' := [(0, .ref 84), (1, .ref x), (2, .int 0)]) [1, 2, 0] rfl ?_
  obtain ⟨e10, t11, k12, hq⟩ := bnd_some hq
  obtain ⟨n13, k12⟩ := wh_itr k12
  refine SX9_fillAround_2_w G Gb x g_x r0 t0 n13 (0 : Int32) σ _ _ k12 ?_
  show xW G mX9_fillAround (xrm 1 0 0) (xQ G (PV r0 t0 Gb) 0 0) 28 [(0, .ref 84), (1, .ref x)] [] (mem t11 Gb) 0 0
  refine xi_iconst (v := 1) dX9_fillAround_28 (by decide) ?_
  refine xi_istore_n (lv' := [(2, .int 1), (0, .ref 84), (1, .ref x)]) dX9_fillAround_29 (by decide) rfl ?_
  refine xi_sub (lv' := [(0, .ref 84), (1, .ref x), (2, .int 1)]) [1, 2, 0] rfl ?_
  obtain ⟨e47, t48, k49, hq⟩ := bnd_some hq
  obtain ⟨n50, k49⟩ := wh_itr k49
  refine SX9_fillAround_30_w G Gb x g_x r0 t0 n50 (1 : Int32) t11 _ _ k49 ?_
  show xW G mX9_fillAround (xrm 1 0 0) (xQ G (PV r0 t0 Gb) 0 0) 146 [] [] (mem t48 Gb) 0 0
  have r51 := some_pair hq
  obtain ⟨rfl, rfl⟩ := r51
  exact xi_vret dX9_fillAround_146 rfl (Nat.le_of_ble_eq_true rfl) (Nat.le_of_ble_eq_true rfl) ⟨rfl, rfl⟩
noncomputable def SX9_fillRest_32 (x1 : Nat) (w2 : Int32) (x3 : Nat) (w4 : Int32) (w6 : Int32) (c : Int32 × Int32) (σ : St) : Option (((Int32 × Int32) ⊕ (Int32)) × St) :=
  (rdb σ x1 (0) (fun v8 => (if v8 ≤ c.2 then (some (Sum.inr c.1, σ)) else (bnd (if ((shr w6 c.2) &&& (1 : Int32)) = (0 : Int32) then (chk (inb ((w6 * (9 : Int32)) + c.2) (ilen x3)) (rdb σ x3 (((w6 * (9 : Int32)) + c.2).toNatClampNeg) (fun v17 => (if w4 < v17 then (some (c.1, σ)) else (chk (inb (w6 ||| (shl (1 : Int32) c.2)) 512) (rdb σ 88 ((w6 ||| (shl (1 : Int32) c.2)).toNatClampNeg) (fun v21 => (chk (inb ((w6 * (9 : Int32)) + c.2) 4608) (rdb σ 85 (((w6 * (9 : Int32)) + c.2).toNatClampNeg) (fun v24 => (bnd (FX6_joined w2 v21 v24 σ) (fun v26 t27 => (some ((mnI c.1 v26), t27)))))))))))))) else (some (c.1, σ))) (fun v12 t13 => (some (Sum.inl (v12, (c.2 + 1)), t13)))))))
noncomputable def SX9_fillRest_20 (x1 : Nat) (w2 : Int32) (x3 : Nat) (w4 : Int32) (c : Int32) (σ : St) : Option (((Int32) ⊕ (Unit)) × St) :=
  (if c < (0 : Int32) then (some (Sum.inr (), σ)) else (bnd (wh (SX9_fillRest_32 x1 w2 x3 w4 c) ((1048576 : Int32), (0 : Int32)) σ) (fun e29 t30 => (chk (inb c 512) (wrb t30 88 (c.toNatClampNeg) e29 (fun t34 => (some (Sum.inl (c + (-1)), t34))))))))
set_option maxHeartbeats 4000000 in
set_option maxRecDepth 100000 in
theorem SX9_fillRest_32_w (G : xG) (Gb : xMem) (x1 : Nat) (w2 : Int32) (x3 : Nat) (w4 : Int32) (w6 : Int32) (g1x : netAt x1 = true) (r0 : Unit) (t0 : St) :
    ∀ (k : Nat) (c : Int32 × Int32) (σ : St) (r : Int32) (σ' : St), itr (SX9_fillRest_32 x1 w2 x3 w4 w6) k c σ = some (r, σ') → (xW G mX9_fillRest (xrm 1 0 0) (xQ G (PV r0 t0 Gb) 0 0) 110 [(0, .ref 84), (1, .ref x1), (2, .int w2), (3, .ref x3), (4, .int w4), (6, .int w6), (7, .int r)] [] (mem σ' Gb) 0 0) → xW G mX9_fillRest (xrm 1 0 0) (xQ G (PV r0 t0 Gb) 0 0) 32 [(0, .ref 84), (1, .ref x1), (2, .int w2), (3, .ref x3), (4, .int w4), (6, .int w6), (7, .int c.1), (8, .int c.2)] [] (mem σ Gb) 0 0 := by
  intro k
  induction k with
  | zero =>
    intro c σ r σ' h
    exact absurd h (itr_zero _ _ _ _)
  | succ k ih =>
    intro c σ r σ' h HE
    obtain ⟨x, s1, hs, h⟩ := itr_succ h
    unfold SX9_fillRest_32 at hs
    refine xi_iload 7 dX9_fillRest_32 rfl ?_
    refine xi_aload_n 1 dX9_fillRest_34 rfl ?_
    obtain ⟨v8, h9, hs⟩ := rdb_some hs
    refine yi_getV (f := 0) dX9_fillRest_35 (netAt_0 g1x) rfl ok_5 (by decide) w_65 rfl h9 ?_
    refine xi_icmp_ge (tgt := 110) dX9_fillRest_38 (by decide) (fun c10 => ?_) (fun c10 => ?_)
    · replace hs := ite_p c10 hs
      refine xi_sub (lv' := [(0, .ref 84), (1, .ref x1), (2, .int w2), (3, .ref x3), (4, .int w4), (6, .int w6), (7, .int c.1)]) [0, 1, 2, 3, 4, 5, 6] rfl ?_
      obtain ⟨rfl, rfl⟩ := some_pair hs
      obtain ⟨rfl, rfl⟩ := some_pair h
      exact HE
    · replace hs := ite_n c10 hs
      refine xi_iload 5 dX9_fillRest_41 rfl ?_
      refine xi_bipush (v := 9) dX9_fillRest_43 (by decide) ?_
      refine xi_imul (v := w6 * (9 : Int32)) dX9_fillRest_45 rfl ?_
      refine xi_iload 7 dX9_fillRest_46 rfl ?_
      refine xi_iadd (v := (w6 * (9 : Int32)) + c.2) dX9_fillRest_48 rfl ?_
      refine xi_istore (lv' := [(9, .int ((w6 * (9 : Int32)) + c.2)), (0, .ref 84), (1, .ref x1), (2, .int w2), (3, .ref x3), (4, .int w4), (6, .int w6), (7, .int c.1), (8, .int c.2)]) dX9_fillRest_49 (by decide) rfl ?_
      refine xi_iload 6 dX9_fillRest_51 rfl ?_
      refine xi_iload 8 dX9_fillRest_53 rfl ?_
      refine xi_ishr (v := shr w6 c.2) dX9_fillRest_55 rfl ?_
      refine xi_iconst (v := 1) dX9_fillRest_56 (by decide) ?_
      refine xi_iand (v := (shr w6 c.2) &&& (1 : Int32)) dX9_fillRest_57 rfl ?_
      obtain ⟨v12, t13, m14, hs⟩ := bnd_some hs
      have key15 : xW G mX9_fillRest (xrm 1 0 0) (xQ G (PV r0 t0 Gb) 0 0) 104 [(0, .ref 84), (1, .ref x1), (2, .int w2), (3, .ref x3), (4, .int w4), (6, .int w6), (7, .int v12), (8, .int c.2)] [] (mem t13 Gb) 0 0 := by
        refine xi_iinc (v := (c.2 + 1)) (lv' := [(8, .int (c.2 + 1)), (0, .ref 84), (1, .ref x1), (2, .int w2), (3, .ref x3), (4, .int w4), (6, .int w6), (7, .int v12)]) 7 dX9_fillRest_104 rfl rfl (by decide) rfl ?_
        refine xi_goto (tgt := 32) dX9_fillRest_107 (by decide) ?_
        refine xi_sub (lv' := [(0, .ref 84), (1, .ref x1), (2, .int w2), (3, .ref x3), (4, .int w4), (6, .int w6), (7, .int v12), (8, .int (c.2 + 1))]) [1, 2, 3, 4, 5, 6, 7, 0] rfl ?_
        obtain ⟨rfl, rfl⟩ := some_pair hs
        exact ih (v12, (c.2 + 1)) t13 _ _ h HE
      refine xi_if_ne (tgt := 104) dX9_fillRest_58 (by decide) (fun c11 => ?_) (fun c11 => ?_)
      · replace m14 := ite_n c11 m14
        obtain ⟨rfl, rfl⟩ := some_pair m14
        refine xi_sub (lv' := [(0, .ref 84), (1, .ref x1), (2, .int w2), (3, .ref x3), (4, .int w4), (6, .int w6), (7, .int c.1), (8, .int c.2)]) [1, 2, 3, 4, 5, 6, 7, 8] rfl ?_
        exact key15
      · replace m14 := ite_p c11 m14
        refine xi_aload_n 4 dX9_fillRest_61 rfl ?_
        refine xi_iload 0 dX9_fillRest_62 rfl ?_
        obtain ⟨g16, m14⟩ := chk_some m14
        obtain ⟨v17, h18, m14⟩ := rdb_some m14
        refine yi_ialoadV dX9_fillRest_64 (ilen_at g16) g16 h18 ?_
        refine xi_iload 5 dX9_fillRest_65 rfl ?_
        refine xi_icmp_gt (tgt := 104) dX9_fillRest_67 (by decide) (fun c19 => ?_) (fun c19 => ?_)
        · replace m14 := ite_p c19 m14
          obtain ⟨rfl, rfl⟩ := some_pair m14
          refine xi_sub (lv' := [(0, .ref 84), (1, .ref x1), (2, .int w2), (3, .ref x3), (4, .int w4), (6, .int w6), (7, .int c.1), (8, .int c.2)]) [1, 2, 3, 4, 5, 6, 7, 8] rfl ?_
          exact key15
        · replace m14 := ite_n c19 m14
          refine xi_aload_n 1 dX9_fillRest_70 rfl ?_
          refine yi_getR (f := 3) dX9_fillRest_71 sh_84 rfl ok_7 (by decide) w_186 rfl ?_
          refine xi_iload 6 dX9_fillRest_74 rfl ?_
          refine xi_iconst (v := 1) dX9_fillRest_76 (by decide) ?_
          refine xi_iload 8 dX9_fillRest_77 rfl ?_
          refine xi_ishl (v := shl (1 : Int32) c.2) dX9_fillRest_79 rfl ?_
          refine xi_ior (v := w6 ||| (shl (1 : Int32) c.2)) dX9_fillRest_80 rfl ?_
          obtain ⟨g20, m14⟩ := chk_some m14
          obtain ⟨v21, h22, m14⟩ := rdb_some m14
          refine yi_ialoadV dX9_fillRest_81 sh_88 g20 h22 ?_
          refine xi_istore (lv' := [(10, .int v21), (9, .int ((w6 * (9 : Int32)) + c.2)), (0, .ref 84), (1, .ref x1), (2, .int w2), (3, .ref x3), (4, .int w4), (6, .int w6), (7, .int c.1), (8, .int c.2)]) dX9_fillRest_82 (by decide) rfl ?_
          refine xi_iload 8 dX9_fillRest_84 rfl ?_
          refine xi_iload_n 4 dX9_fillRest_86 rfl ?_
          refine xi_iload 0 dX9_fillRest_87 rfl ?_
          refine xi_aload_n 2 dX9_fillRest_89 rfl ?_
          refine yi_getR (f := 0) dX9_fillRest_90 sh_84 rfl ok_7 (by decide) w_183 rfl ?_
          refine xi_iload 1 dX9_fillRest_93 rfl ?_
          obtain ⟨g23, m14⟩ := chk_some m14
          obtain ⟨v24, h25, m14⟩ := rdb_some m14
          refine yi_ialoadV dX9_fillRest_95 sh_85 g23 h25 ?_
          obtain ⟨v26, t27, k28, m14⟩ := bnd_some m14
          refine xi_callS (as := [.int w2, .int v21, .int v24]) (rest := [.int c.1]) dX9_fillRest_96 (KX6_joined G Gb w2 v21 v24 _ _ _ k28) mkX6_joined w_612 w_732 rfl rfl (Nat.le_of_ble_eq_true rfl) (Nat.le_of_ble_eq_true rfl) (Nat.le_of_ble_eq_true rfl) (Nat.le_of_ble_eq_true rfl) (Nat.le_of_ble_eq_true rfl) ?_
          intro v M2 hz
          obtain ⟨rfl, rfl⟩ := hz
          show xW _ _ _ _ 99 _ [.int v26, .int c.1] (mem t27 Gb) _ _
          refine xi_min (v := (mnI c.1 v26)) dX9_fillRest_99 w_733 w_385 w_3 w_mmin (Nat.le_of_ble_eq_true rfl) (Nat.le_of_ble_eq_true rfl) (Nat.le_of_ble_eq_true rfl) (Nat.le_of_ble_eq_true rfl) (Nat.le_of_ble_eq_true rfl) rfl ?_
          refine xi_istore (lv' := [(7, .int (mnI c.1 v26)), (10, .int v21), (9, .int ((w6 * (9 : Int32)) + c.2)), (0, .ref 84), (1, .ref x1), (2, .int w2), (3, .ref x3), (4, .int w4), (6, .int w6), (8, .int c.2)]) dX9_fillRest_102 (by decide) rfl ?_
          obtain ⟨rfl, rfl⟩ := some_pair m14
          refine xi_sub (lv' := [(0, .ref 84), (1, .ref x1), (2, .int w2), (3, .ref x3), (4, .int w4), (6, .int w6), (7, .int (mnI c.1 v26)), (8, .int c.2)]) [3, 4, 5, 6, 7, 8, 0, 9] rfl ?_
          exact key15
set_option maxHeartbeats 4000000 in
set_option maxRecDepth 100000 in
theorem SX9_fillRest_20_w (G : xG) (Gb : xMem) (x1 : Nat) (w2 : Int32) (x3 : Nat) (w4 : Int32) (g1x : netAt x1 = true) (r0 : Unit) (t0 : St) :
    ∀ (k : Nat) (c : Int32) (σ : St) (r : Unit) (σ' : St), itr (SX9_fillRest_20 x1 w2 x3 w4) k c σ = some (r, σ') → (xW G mX9_fillRest (xrm 1 0 0) (xQ G (PV r0 t0 Gb) 0 0) 125 [] [] (mem σ' Gb) 0 0) → xW G mX9_fillRest (xrm 1 0 0) (xQ G (PV r0 t0 Gb) 0 0) 20 [(0, .ref 84), (1, .ref x1), (2, .int w2), (3, .ref x3), (4, .int w4), (6, .int c)] [] (mem σ Gb) 0 0 := by
  intro k
  induction k with
  | zero =>
    intro c σ r σ' h
    exact absurd h (itr_zero _ _ _ _)
  | succ k ih =>
    intro c σ r σ' h HE
    obtain ⟨x, s1, hs, h⟩ := itr_succ h
    unfold SX9_fillRest_20 at hs
    refine xi_iload 5 dX9_fillRest_20 rfl ?_
    refine xi_if_lt (tgt := 125) dX9_fillRest_22 (by decide) (fun c7 => ?_) (fun c7 => ?_)
    · replace hs := ite_p c7 hs
      refine xi_sub (lv' := []) [] rfl ?_
      obtain ⟨rfl, rfl⟩ := some_pair hs
      obtain ⟨rfl, rfl⟩ := some_pair h
      exact HE
    · replace hs := ite_n c7 hs
      refine xi_ldc (v := 1048576) dX9_fillRest_25 w_727 ?_
      refine xi_istore (lv' := [(7, .int 1048576), (0, .ref 84), (1, .ref x1), (2, .int w2), (3, .ref x3), (4, .int w4), (6, .int c)]) dX9_fillRest_27 (by decide) rfl ?_
      refine xi_iconst (v := 0) dX9_fillRest_29 (by decide) ?_
      refine xi_istore (lv' := [(8, .int 0), (7, .int 1048576), (0, .ref 84), (1, .ref x1), (2, .int w2), (3, .ref x3), (4, .int w4), (6, .int c)]) dX9_fillRest_30 (by decide) rfl ?_
      refine xi_sub (lv' := [(0, .ref 84), (1, .ref x1), (2, .int w2), (3, .ref x3), (4, .int w4), (6, .int c), (7, .int 1048576), (8, .int 0)]) [2, 3, 4, 5, 6, 7, 1, 0] rfl ?_
      obtain ⟨e29, t30, k31, hs⟩ := bnd_some hs
      obtain ⟨n32, k31⟩ := wh_itr k31
      refine SX9_fillRest_32_w G Gb x1 w2 x3 w4 c g1x r0 t0 n32 ((1048576 : Int32), (0 : Int32)) σ _ _ k31 ?_
      show xW G mX9_fillRest (xrm 1 0 0) (xQ G (PV r0 t0 Gb) 0 0) 110 [(0, .ref 84), (1, .ref x1), (2, .int w2), (3, .ref x3), (4, .int w4), (6, .int c), (7, .int e29)] [] (mem t30 Gb) 0 0
      refine xi_aload_n 0 dX9_fillRest_110 rfl ?_
      refine yi_getR (f := 3) dX9_fillRest_111 sh_84 rfl ok_7 (by decide) w_186 rfl ?_
      refine xi_iload 5 dX9_fillRest_114 rfl ?_
      refine xi_iload 6 dX9_fillRest_116 rfl ?_
      obtain ⟨g33, hs⟩ := chk_some hs
      obtain ⟨t34, h35, hs⟩ := wrb_some hs
      refine yi_iastoreV dX9_fillRest_118 sh_88 g33 h35 ?_
      refine xi_iinc (v := (c + (-1))) (lv' := [(6, .int (c + (-1))), (0, .ref 84), (1, .ref x1), (2, .int w2), (3, .ref x3), (4, .int w4), (7, .int e29)]) 5 dX9_fillRest_119 rfl rfl (by decide) rfl ?_
      refine xi_goto (tgt := 20) dX9_fillRest_122 (by decide) ?_
      refine xi_sub (lv' := [(0, .ref 84), (1, .ref x1), (2, .int w2), (3, .ref x3), (4, .int w4), (6, .int (c + (-1)))]) [1, 2, 3, 4, 5, 0] rfl ?_
      obtain ⟨rfl, rfl⟩ := some_pair hs
      exact ih (c + (-1)) t34 _ _ h HE
noncomputable def FX9_fillRest (x : Nat) (a : Int32) (t : Nat) (b : Int32) (σ : St) : Option ((Unit) × St) :=
  (chk (netAt x) (bnd (FX5_allBits x σ) (fun v1 t2 => (chk (inb v1 512) (wrb t2 88 (v1.toNatClampNeg) (0 : Int32) (fun t5 => (bnd (wh (SX9_fillRest_20 x a t b) (v1 - (1 : Int32)) t5) (fun e36 t37 => (some ((), t37))))))))))
set_option maxHeartbeats 4000000 in
set_option maxRecDepth 100000 in
theorem KX9_fillRest (G : xG) (Gb : xMem) (x : Nat) (a : Int32) (t : Nat) (b : Int32) (σ : St) (r0 : Unit) (t0 : St) (hq : FX9_fillRest x a t b σ = some (r0, t0)) : xC G mX9_fillRest 1 0 0 [.ref 84, .ref x, .int a, .ref t, .int b] (mem σ Gb) (PV r0 t0 Gb) := by
  unfold FX9_fillRest at hq
  refine xC.of (by decide) (Nat.le_of_ble_eq_true rfl) ?_
  show xW _ _ _ _ 0 [(0, .ref 84), (1, .ref x), (2, .int a), (3, .ref t), (4, .int b)] [] _ 0 0
  obtain ⟨g_x, hq⟩ := chk_some hq
  refine xi_aload_n 1 dX9_fillRest_0 rfl ?_
  obtain ⟨v1, t2, k3, hq⟩ := bnd_some hq
  refine xi_callV (as := []) (rest := []) dX9_fillRest_1 (KX5_allBits G Gb x _ _ _ k3) mkX5_allBits w_441 w_442 w_718 (mem_get (netAt_0 g_x)) rfl rfl rfl rfl (Nat.le_of_ble_eq_true rfl) (Nat.le_of_ble_eq_true rfl) (Nat.le_of_ble_eq_true rfl) (Nat.le_of_ble_eq_true rfl) (Nat.le_of_ble_eq_true rfl) ?_
  intro v M2 hz
  obtain ⟨rfl, rfl⟩ := hz
  show xW _ _ _ _ 4 _ [.int v1] (mem t2 Gb) _ _
  refine xi_istore (lv' := [(5, .int v1), (0, .ref 84), (1, .ref x), (2, .int a), (3, .ref t), (4, .int b)]) dX9_fillRest_4 (by decide) rfl ?_
  refine xi_aload_n 1 dX9_fillRest_6 rfl ?_
  refine yi_getR (f := 3) dX9_fillRest_7 sh_84 rfl ok_7 (by decide) w_186 rfl ?_
  refine xi_iload 0 dX9_fillRest_10 rfl ?_
  refine xi_iconst (v := 0) dX9_fillRest_12 (by decide) ?_
  obtain ⟨g4, hq⟩ := chk_some hq
  obtain ⟨t5, h6, hq⟩ := wrb_some hq
  refine yi_iastoreV dX9_fillRest_13 sh_88 g4 h6 ?_
  refine xi_iload 0 dX9_fillRest_14 rfl ?_
  refine xi_iconst (v := 1) dX9_fillRest_16 (by decide) ?_
  refine xi_isub (v := v1 - (1 : Int32)) dX9_fillRest_17 rfl ?_
  refine xi_istore (lv' := [(6, .int (v1 - (1 : Int32))), (5, .int v1), (0, .ref 84), (1, .ref x), (2, .int a), (3, .ref t), (4, .int b)]) dX9_fillRest_18 (by decide) rfl ?_
  refine xi_sub (lv' := [(0, .ref 84), (1, .ref x), (2, .int a), (3, .ref t), (4, .int b), (6, .int (v1 - (1 : Int32)))]) [2, 3, 4, 5, 6, 0] rfl ?_
  obtain ⟨e36, t37, k38, hq⟩ := bnd_some hq
  obtain ⟨n39, k38⟩ := wh_itr k38
  refine SX9_fillRest_20_w G Gb x a t b g_x r0 t0 n39 (v1 - (1 : Int32)) t5 _ _ k38 ?_
  show xW G mX9_fillRest (xrm 1 0 0) (xQ G (PV r0 t0 Gb) 0 0) 125 [] [] (mem t37 Gb) 0 0
  have r40 := some_pair hq
  obtain ⟨rfl, rfl⟩ := r40
  exact xi_vret dX9_fillRest_125 rfl (Nat.le_of_ble_eq_true rfl) (Nat.le_of_ble_eq_true rfl) ⟨rfl, rfl⟩
noncomputable def SX9_newLines_6 (x1 : Nat) (w2 : Int32) (w3 : Int32) (c : Int32 × Int32) (σ : St) : Option (((Int32 × Int32) ⊕ (Int32)) × St) :=
  (rdb σ x1 (0) (fun v1 => (if v1 ≤ c.2 then (some (Sum.inr c.1, σ)) else (bnd (if ((shr w3 c.2) &&& (1 : Int32)) = (0 : Int32) then (some (c.1, σ)) else (bnd (FX6_aboveOf w3 c.2 σ) (fun v9 t10 => (chk (inb ((w2 * (9 : Int32)) + c.2) 4608) (rdb t10 87 (((w2 * (9 : Int32)) + c.2).toNatClampNeg) (fun v13 => (bnd (FJ6_bitCount_0f7a4 (v9 &&& (v13 ^^^ (-1 : Int32))) t10) (fun v15 t16 => (some ((c.1 + v15), t16)))))))))) (fun v5 t6 => (some (Sum.inl (v5, (c.2 + 1)), t6)))))))
set_option maxHeartbeats 4000000 in
set_option maxRecDepth 100000 in
theorem SX9_newLines_6_w (G : xG) (Gb : xMem) (x1 : Nat) (w2 : Int32) (w3 : Int32) (g1x : netAt x1 = true) (r0 : Int32) (t0 : St) :
    ∀ (k : Nat) (c : Int32 × Int32) (σ : St) (r : Int32) (σ' : St), itr (SX9_newLines_6 x1 w2 w3) k c σ = some (r, σ') → (xW G mX9_newLines (xrm 1 0 0) (xQ G (PQ r0 t0 Gb) 0 0) 63 [(4, .int r)] [] (mem σ' Gb) 0 0) → xW G mX9_newLines (xrm 1 0 0) (xQ G (PQ r0 t0 Gb) 0 0) 6 [(0, .ref 84), (1, .ref x1), (2, .int w2), (3, .int w3), (4, .int c.1), (5, .int c.2)] [] (mem σ Gb) 0 0 := by
  intro k
  induction k with
  | zero =>
    intro c σ r σ' h
    exact absurd h (itr_zero _ _ _ _)
  | succ k ih =>
    intro c σ r σ' h HE
    obtain ⟨x, s1, hs, h⟩ := itr_succ h
    unfold SX9_newLines_6 at hs
    refine xi_iload 5 dX9_newLines_6 rfl ?_
    refine xi_aload_n 1 dX9_newLines_8 rfl ?_
    obtain ⟨v1, h2, hs⟩ := rdb_some hs
    refine yi_getV (f := 0) dX9_newLines_9 (netAt_0 g1x) rfl ok_5 (by decide) w_65 rfl h2 ?_
    refine xi_icmp_ge (tgt := 63) dX9_newLines_12 (by decide) (fun c3 => ?_) (fun c3 => ?_)
    · replace hs := ite_p c3 hs
      refine xi_sub (lv' := [(4, .int c.1)]) [4] rfl ?_
      obtain ⟨rfl, rfl⟩ := some_pair hs
      obtain ⟨rfl, rfl⟩ := some_pair h
      exact HE
    · replace hs := ite_n c3 hs
      refine xi_iload_n 3 dX9_newLines_15 rfl ?_
      refine xi_iload 5 dX9_newLines_16 rfl ?_
      refine xi_ishr (v := shr w3 c.2) dX9_newLines_18 rfl ?_
      refine xi_iconst (v := 1) dX9_newLines_19 (by decide) ?_
      refine xi_iand (v := (shr w3 c.2) &&& (1 : Int32)) dX9_newLines_20 rfl ?_
      obtain ⟨v5, t6, m7, hs⟩ := bnd_some hs
      have key8 : xW G mX9_newLines (xrm 1 0 0) (xQ G (PQ r0 t0 Gb) 0 0) 57 [(0, .ref 84), (1, .ref x1), (2, .int w2), (3, .int w3), (4, .int v5), (5, .int c.2)] [] (mem t6 Gb) 0 0 := by
        refine xi_iinc (v := (c.2 + 1)) (lv' := [(5, .int (c.2 + 1)), (0, .ref 84), (1, .ref x1), (2, .int w2), (3, .int w3), (4, .int v5)]) 5 dX9_newLines_57 rfl rfl (by decide) rfl ?_
        refine xi_goto (tgt := 6) dX9_newLines_60 (by decide) ?_
        refine xi_sub (lv' := [(0, .ref 84), (1, .ref x1), (2, .int w2), (3, .int w3), (4, .int v5), (5, .int (c.2 + 1))]) [1, 2, 3, 4, 5, 0] rfl ?_
        obtain ⟨rfl, rfl⟩ := some_pair hs
        exact ih (v5, (c.2 + 1)) t6 _ _ h HE
      refine xi_if_eq (tgt := 57) dX9_newLines_21 (by decide) (fun c4 => ?_) (fun c4 => ?_)
      · replace m7 := ite_p c4 m7
        obtain ⟨rfl, rfl⟩ := some_pair m7
        exact key8
      · replace m7 := ite_n c4 m7
        refine xi_iload_n 3 dX9_newLines_24 rfl ?_
        refine xi_iload 5 dX9_newLines_25 rfl ?_
        obtain ⟨v9, t10, k11, m7⟩ := bnd_some m7
        refine xi_callS (as := [.int w3, .int c.2]) (rest := []) dX9_newLines_27 (KX6_aboveOf G Gb w3 c.2 _ _ _ k11) mkX6_aboveOf w_605 w_725 rfl rfl (Nat.le_of_ble_eq_true rfl) (Nat.le_of_ble_eq_true rfl) (Nat.le_of_ble_eq_true rfl) (Nat.le_of_ble_eq_true rfl) (Nat.le_of_ble_eq_true rfl) ?_
        intro v M2 hz
        obtain ⟨rfl, rfl⟩ := hz
        show xW _ _ _ _ 30 _ [.int v9] (mem t10 Gb) _ _
        refine xi_istore (lv' := [(6, .int v9), (0, .ref 84), (1, .ref x1), (2, .int w2), (3, .int w3), (4, .int c.1), (5, .int c.2)]) dX9_newLines_30 (by decide) rfl ?_
        refine xi_iload 5 dX9_newLines_32 rfl ?_
        refine xi_iload 0 dX9_newLines_34 rfl ?_
        refine xi_aload_n 1 dX9_newLines_36 rfl ?_
        refine yi_getR (f := 2) dX9_newLines_37 sh_84 rfl ok_7 (by decide) w_185 rfl ?_
        refine xi_iload_n 3 dX9_newLines_40 rfl ?_
        refine xi_bipush (v := 9) dX9_newLines_41 (by decide) ?_
        refine xi_imul (v := w2 * (9 : Int32)) dX9_newLines_43 rfl ?_
        refine xi_iload 6 dX9_newLines_44 rfl ?_
        refine xi_iadd (v := (w2 * (9 : Int32)) + c.2) dX9_newLines_46 rfl ?_
        obtain ⟨g12, m7⟩ := chk_some m7
        obtain ⟨v13, h14, m7⟩ := rdb_some m7
        refine yi_ialoadV dX9_newLines_47 sh_87 g12 h14 ?_
        refine xi_iconst (v := (-1)) dX9_newLines_48 (by decide) ?_
        refine xi_ixor (v := v13 ^^^ (-1 : Int32)) dX9_newLines_49 rfl ?_
        refine xi_iand (v := v9 &&& (v13 ^^^ (-1 : Int32))) dX9_newLines_50 rfl ?_
        obtain ⟨v15, t16, k17, m7⟩ := bnd_some m7
        refine xi_callS (as := [.int (v9 &&& (v13 ^^^ (-1 : Int32)))]) (rest := [.int c.1]) dX9_newLines_51 (KJ6_bitCount_0f7a4 G Gb (v9 &&& (v13 ^^^ (-1 : Int32))) _ _ _ k17) mkJ6_bitCount_0f7a4 w_508 w_720 rfl rfl (Nat.le_of_ble_eq_true rfl) (Nat.le_of_ble_eq_true rfl) (Nat.le_of_ble_eq_true rfl) (Nat.le_of_ble_eq_true rfl) (Nat.le_of_ble_eq_true rfl) ?_
        intro v M2 hz
        obtain ⟨rfl, rfl⟩ := hz
        show xW _ _ _ _ 54 _ [.int v15, .int c.1] (mem t16 Gb) _ _
        refine xi_iadd (v := c.1 + v15) dX9_newLines_54 rfl ?_
        refine xi_istore (lv' := [(4, .int (c.1 + v15)), (6, .int v9), (0, .ref 84), (1, .ref x1), (2, .int w2), (3, .int w3), (5, .int c.2)]) dX9_newLines_55 (by decide) rfl ?_
        obtain ⟨rfl, rfl⟩ := some_pair m7
        refine xi_sub (lv' := [(0, .ref 84), (1, .ref x1), (2, .int w2), (3, .int w3), (4, .int (c.1 + v15)), (5, .int c.2)]) [2, 3, 4, 5, 0, 6] rfl ?_
        exact key8
noncomputable def FX9_newLines (x : Nat) (a : Int32) (b : Int32) (σ : St) : Option ((Int32) × St) :=
  (chk (netAt x) (bnd (wh (SX9_newLines_6 x a b) ((0 : Int32), (0 : Int32)) σ) (fun e18 t19 => (some (e18, t19)))))
set_option maxHeartbeats 4000000 in
set_option maxRecDepth 100000 in
theorem KX9_newLines (G : xG) (Gb : xMem) (x : Nat) (a : Int32) (b : Int32) (σ : St) (r0 : Int32) (t0 : St) (hq : FX9_newLines x a b σ = some (r0, t0)) : xC G mX9_newLines 1 0 0 [.ref 84, .ref x, .int a, .int b] (mem σ Gb) (PQ r0 t0 Gb) := by
  unfold FX9_newLines at hq
  refine xC.of (by decide) (Nat.le_of_ble_eq_true rfl) ?_
  show xW _ _ _ _ 0 [(0, .ref 84), (1, .ref x), (2, .int a), (3, .int b)] [] _ 0 0
  obtain ⟨g_x, hq⟩ := chk_some hq
  refine xi_iconst (v := 0) dX9_newLines_0 (by decide) ?_
  refine xi_istore (lv' := [(4, .int 0), (0, .ref 84), (1, .ref x), (2, .int a), (3, .int b)]) dX9_newLines_1 (by decide) rfl ?_
  refine xi_iconst (v := 0) dX9_newLines_3 (by decide) ?_
  refine xi_istore (lv' := [(5, .int 0), (4, .int 0), (0, .ref 84), (1, .ref x), (2, .int a), (3, .int b)]) dX9_newLines_4 (by decide) rfl ?_
  refine xi_sub (lv' := [(0, .ref 84), (1, .ref x), (2, .int a), (3, .int b), (4, .int 0), (5, .int 0)]) [2, 3, 4, 5, 1, 0] rfl ?_
  obtain ⟨e18, t19, k20, hq⟩ := bnd_some hq
  obtain ⟨n21, k20⟩ := wh_itr k20
  refine SX9_newLines_6_w G Gb x a b g_x r0 t0 n21 ((0 : Int32), (0 : Int32)) σ _ _ k20 ?_
  show xW G mX9_newLines (xrm 1 0 0) (xQ G (PQ r0 t0 Gb) 0 0) 63 [(4, .int e18)] [] (mem t19 Gb) 0 0
  refine xi_iload 0 dX9_newLines_63 rfl ?_
  have r22 := some_pair hq
  obtain ⟨rfl, rfl⟩ := r22
  exact xi_iret dX9_newLines_65 rfl rfl (Nat.le_of_ble_eq_true rfl) (Nat.le_of_ble_eq_true rfl) ⟨rfl, rfl⟩
noncomputable def SX9_fillTakings_20 (x1 : Nat) (w2 : Int32) (x3 : Nat) (w4 : Int32) (c : Int32) (σ : St) : Option (((Int32) ⊕ (Unit)) × St) :=
  (rdb σ x1 (0) (fun v8 => (if v8 ≤ c then (some (Sum.inr (), σ)) else (bnd (if ((shr w4 c) &&& (1 : Int32)) = (0 : Int32) then (chk (inb ((w4 * (9 : Int32)) + c) 4608) (rdb σ 87 (((w4 * (9 : Int32)) + c).toNatClampNeg) (fun v17 => (bnd (if w2 = (5 : Int32) then (bnd (FJ6_bitCount_0f7a4 v17 σ) (fun v30 t31 => (some (v30, t31)))) else (bnd (FX9_newLines x1 w4 v17 σ) (fun v27 t28 => (some (v27, t28))))) (fun v20 t21 => (chk (inb ((w4 * (9 : Int32)) + c) (ilen x3)) (wrb t21 x3 (((w4 * (9 : Int32)) + c).toNatClampNeg) v20 (fun t25 => (some ((), t25)))))))))) else (some ((), σ))) (fun v12 t13 => (some (Sum.inl (c + 1), t13)))))))
noncomputable def SX9_fillTakings_8 (x1 : Nat) (w2 : Int32) (x3 : Nat) (c : Int32) (σ : St) : Option (((Int32) ⊕ (Unit)) × St) :=
  (bnd (FX5_allBits x1 σ) (fun v4 t5 => (if v4 < c then (some (Sum.inr (), t5)) else (bnd (wh (SX9_fillTakings_20 x1 w2 x3 c) (0 : Int32) t5) (fun e33 t34 => (some (Sum.inl (c + 1), t34)))))))
set_option maxHeartbeats 4000000 in
set_option maxRecDepth 100000 in
theorem SX9_fillTakings_20_w (G : xG) (Gb : xMem) (x1 : Nat) (w2 : Int32) (x3 : Nat) (w4 : Int32) (g1x : netAt x1 = true) (r0 : Unit) (t0 : St) :
    ∀ (k : Nat) (c : Int32) (σ : St) (r : Unit) (σ' : St), itr (SX9_fillTakings_20 x1 w2 x3 w4) k c σ = some (r, σ') → (xW G mX9_fillTakings (xrm 2 0 0) (xQ G (PV r0 t0 Gb) 0 0) 92 [(0, .ref 84), (1, .ref x1), (2, .int w2), (3, .ref x3), (4, .int w4)] [] (mem σ' Gb) 0 0) → xW G mX9_fillTakings (xrm 2 0 0) (xQ G (PV r0 t0 Gb) 0 0) 20 [(0, .ref 84), (1, .ref x1), (2, .int w2), (3, .ref x3), (4, .int w4), (5, .int c)] [] (mem σ Gb) 0 0 := by
  intro k
  induction k with
  | zero =>
    intro c σ r σ' h
    exact absurd h (itr_zero _ _ _ _)
  | succ k ih =>
    intro c σ r σ' h HE
    obtain ⟨x, s1, hs, h⟩ := itr_succ h
    unfold SX9_fillTakings_20 at hs
    refine xi_iload 5 dX9_fillTakings_20 rfl ?_
    refine xi_aload_n 1 dX9_fillTakings_22 rfl ?_
    obtain ⟨v8, h9, hs⟩ := rdb_some hs
    refine yi_getV (f := 0) dX9_fillTakings_23 (netAt_0 g1x) rfl ok_5 (by decide) w_65 rfl h9 ?_
    refine xi_icmp_ge (tgt := 92) dX9_fillTakings_26 (by decide) (fun c10 => ?_) (fun c10 => ?_)
    · replace hs := ite_p c10 hs
      refine xi_sub (lv' := [(0, .ref 84), (1, .ref x1), (2, .int w2), (3, .ref x3), (4, .int w4)]) [0, 1, 2, 3, 4] rfl ?_
      obtain ⟨rfl, rfl⟩ := some_pair hs
      obtain ⟨rfl, rfl⟩ := some_pair h
      exact HE
    · replace hs := ite_n c10 hs
      refine xi_iload 4 dX9_fillTakings_29 rfl ?_
      refine xi_iload 5 dX9_fillTakings_31 rfl ?_
      refine xi_ishr (v := shr w4 c) dX9_fillTakings_33 rfl ?_
      refine xi_iconst (v := 1) dX9_fillTakings_34 (by decide) ?_
      refine xi_iand (v := (shr w4 c) &&& (1 : Int32)) dX9_fillTakings_35 rfl ?_
      obtain ⟨v12, t13, m14, hs⟩ := bnd_some hs
      have key15 : xW G mX9_fillTakings (xrm 2 0 0) (xQ G (PV r0 t0 Gb) 0 0) 86 [(0, .ref 84), (1, .ref x1), (2, .int w2), (3, .ref x3), (4, .int w4), (5, .int c)] [] (mem t13 Gb) 0 0 := by
        refine xi_iinc (v := (c + 1)) (lv' := [(5, .int (c + 1)), (0, .ref 84), (1, .ref x1), (2, .int w2), (3, .ref x3), (4, .int w4)]) 5 dX9_fillTakings_86 rfl rfl (by decide) rfl ?_
        refine xi_goto (tgt := 20) dX9_fillTakings_89 (by decide) ?_
        refine xi_sub (lv' := [(0, .ref 84), (1, .ref x1), (2, .int w2), (3, .ref x3), (4, .int w4), (5, .int (c + 1))]) [1, 2, 3, 4, 5, 0] rfl ?_
        obtain ⟨rfl, rfl⟩ := some_pair hs
        exact ih (c + 1) t13 _ _ h HE
      refine xi_if_ne (tgt := 86) dX9_fillTakings_36 (by decide) (fun c11 => ?_) (fun c11 => ?_)
      · replace m14 := ite_n c11 m14
        obtain ⟨rfl, rfl⟩ := some_pair m14
        exact key15
      · replace m14 := ite_p c11 m14
        refine xi_aload_n 0 dX9_fillTakings_39 rfl ?_
        refine yi_getR (f := 2) dX9_fillTakings_40 sh_84 rfl ok_7 (by decide) w_185 rfl ?_
        refine xi_iload 4 dX9_fillTakings_43 rfl ?_
        refine xi_bipush (v := 9) dX9_fillTakings_45 (by decide) ?_
        refine xi_imul (v := w4 * (9 : Int32)) dX9_fillTakings_47 rfl ?_
        refine xi_iload 5 dX9_fillTakings_48 rfl ?_
        refine xi_iadd (v := (w4 * (9 : Int32)) + c) dX9_fillTakings_50 rfl ?_
        obtain ⟨g16, m14⟩ := chk_some m14
        obtain ⟨v17, h18, m14⟩ := rdb_some m14
        refine yi_ialoadV dX9_fillTakings_51 sh_87 g16 h18 ?_
        refine xi_istore (lv' := [(6, .int v17), (0, .ref 84), (1, .ref x1), (2, .int w2), (3, .ref x3), (4, .int w4), (5, .int c)]) dX9_fillTakings_52 (by decide) rfl ?_
        refine xi_aload_n 4 dX9_fillTakings_54 rfl ?_
        refine xi_iload 5 dX9_fillTakings_55 rfl ?_
        refine xi_bipush (v := 9) dX9_fillTakings_57 (by decide) ?_
        refine xi_imul (v := w4 * (9 : Int32)) dX9_fillTakings_59 rfl ?_
        refine xi_iload 6 dX9_fillTakings_60 rfl ?_
        refine xi_iadd (v := (w4 * (9 : Int32)) + c) dX9_fillTakings_62 rfl ?_
        refine xi_iload_n 3 dX9_fillTakings_63 rfl ?_
        refine xi_iconst (v := 5) dX9_fillTakings_64 (by decide) ?_
        obtain ⟨v20, t21, m22, m14⟩ := bnd_some m14
        have key23 : xW G mX9_fillTakings (xrm 2 0 0) (xQ G (PV r0 t0 Gb) 0 0) 85 [(0, .ref 84), (1, .ref x1), (2, .int w2), (3, .ref x3), (4, .int w4), (5, .int c)] [.int v20, .int ((w4 * (9 : Int32)) + c), .ref x3] (mem t21 Gb) 0 0 := by
          obtain ⟨g24, m14⟩ := chk_some m14
          obtain ⟨t25, h26, m14⟩ := wrb_some m14
          refine yi_iastoreV dX9_fillTakings_85 (ilen_at g24) g24 h26 ?_
          obtain ⟨rfl, rfl⟩ := some_pair m14
          exact key15
        refine xi_icmp_ne (tgt := 76) dX9_fillTakings_65 (by decide) (fun c19 => ?_) (fun c19 => ?_)
        · replace m22 := ite_n c19 m22
          refine xi_aload_n 1 dX9_fillTakings_76 rfl ?_
          refine xi_aload_n 2 dX9_fillTakings_77 rfl ?_
          refine xi_iload 5 dX9_fillTakings_78 rfl ?_
          refine xi_iload 0 dX9_fillTakings_80 rfl ?_
          obtain ⟨v27, t28, k29, m22⟩ := bnd_some m22
          refine xi_callV (as := [.ref x1, .int w4, .int v17]) (rest := [.int ((w4 * (9 : Int32)) + c), .ref x3]) dX9_fillTakings_82 (KX9_newLines G Gb x1 w4 v17 _ _ _ k29) mkX9_newLines w_723 ws_25 w_721 (mem_get sh_84) rfl rfl rfl rfl (Nat.le_of_ble_eq_true rfl) (Nat.le_of_ble_eq_true rfl) (Nat.le_of_ble_eq_true rfl) (Nat.le_of_ble_eq_true rfl) (Nat.le_of_ble_eq_true rfl) ?_
          intro v M2 hz
          obtain ⟨rfl, rfl⟩ := hz
          show xW _ _ _ _ 85 _ [.int v27, .int ((w4 * (9 : Int32)) + c), .ref x3] (mem t28 Gb) _ _
          obtain ⟨rfl, rfl⟩ := some_pair m22
          refine xi_sub (lv' := [(0, .ref 84), (1, .ref x1), (2, .int w2), (3, .ref x3), (4, .int w4), (5, .int c)]) [1, 2, 3, 4, 5, 6] rfl ?_
          exact key23
        · replace m22 := ite_p c19 m22
          refine xi_iload 0 dX9_fillTakings_68 rfl ?_
          obtain ⟨v30, t31, k32, m22⟩ := bnd_some m22
          refine xi_callS (as := [.int v17]) (rest := [.int ((w4 * (9 : Int32)) + c), .ref x3]) dX9_fillTakings_70 (KJ6_bitCount_0f7a4 G Gb v17 _ _ _ k32) mkJ6_bitCount_0f7a4 w_508 w_720 rfl rfl (Nat.le_of_ble_eq_true rfl) (Nat.le_of_ble_eq_true rfl) (Nat.le_of_ble_eq_true rfl) (Nat.le_of_ble_eq_true rfl) (Nat.le_of_ble_eq_true rfl) ?_
          intro v M2 hz
          obtain ⟨rfl, rfl⟩ := hz
          show xW _ _ _ _ 73 _ [.int v30, .int ((w4 * (9 : Int32)) + c), .ref x3] (mem t31 Gb) _ _
          refine xi_goto (tgt := 85) dX9_fillTakings_73 (by decide) ?_
          obtain ⟨rfl, rfl⟩ := some_pair m22
          refine xi_sub (lv' := [(0, .ref 84), (1, .ref x1), (2, .int w2), (3, .ref x3), (4, .int w4), (5, .int c)]) [1, 2, 3, 4, 5, 6] rfl ?_
          exact key23
set_option maxHeartbeats 4000000 in
set_option maxRecDepth 100000 in
theorem SX9_fillTakings_8_w (G : xG) (Gb : xMem) (x1 : Nat) (w2 : Int32) (x3 : Nat) (g1x : netAt x1 = true) (r0 : Unit) (t0 : St) :
    ∀ (k : Nat) (c : Int32) (σ : St) (r : Unit) (σ' : St), itr (SX9_fillTakings_8 x1 w2 x3) k c σ = some (r, σ') → (xW G mX9_fillTakings (xrm 2 0 0) (xQ G (PV r0 t0 Gb) 0 0) 98 [] [] (mem σ' Gb) 0 0) → xW G mX9_fillTakings (xrm 2 0 0) (xQ G (PV r0 t0 Gb) 0 0) 8 [(0, .ref 84), (1, .ref x1), (2, .int w2), (3, .ref x3), (4, .int c)] [] (mem σ Gb) 0 0 := by
  intro k
  induction k with
  | zero =>
    intro c σ r σ' h
    exact absurd h (itr_zero _ _ _ _)
  | succ k ih =>
    intro c σ r σ' h HE
    obtain ⟨x, s1, hs, h⟩ := itr_succ h
    unfold SX9_fillTakings_8 at hs
    refine xi_iload 4 dX9_fillTakings_8 rfl ?_
    refine xi_aload_n 1 dX9_fillTakings_10 rfl ?_
    obtain ⟨v4, t5, k6, hs⟩ := bnd_some hs
    refine xi_callV (as := []) (rest := [.int c]) dX9_fillTakings_11 (KX5_allBits G Gb x1 _ _ _ k6) mkX5_allBits w_441 w_442 w_718 (mem_get (netAt_0 g1x)) rfl rfl rfl rfl (Nat.le_of_ble_eq_true rfl) (Nat.le_of_ble_eq_true rfl) (Nat.le_of_ble_eq_true rfl) (Nat.le_of_ble_eq_true rfl) (Nat.le_of_ble_eq_true rfl) ?_
    intro v M2 hz
    obtain ⟨rfl, rfl⟩ := hz
    show xW _ _ _ _ 14 _ [.int v4, .int c] (mem t5 Gb) _ _
    refine xi_icmp_gt (tgt := 98) dX9_fillTakings_14 (by decide) (fun c7 => ?_) (fun c7 => ?_)
    · replace hs := ite_p c7 hs
      refine xi_sub (lv' := []) [] rfl ?_
      obtain ⟨rfl, rfl⟩ := some_pair hs
      obtain ⟨rfl, rfl⟩ := some_pair h
      exact HE
    · replace hs := ite_n c7 hs
      refine xi_iconst (v := 0) dX9_fillTakings_17 (by decide) ?_
      refine xi_istore (lv' := [(5, .int 0), (0, .ref 84), (1, .ref x1), (2, .int w2), (3, .ref x3), (4, .int c)]) dX9_fillTakings_18 (by decide) rfl ?_
      refine xi_sub (lv' := [(0, .ref 84), (1, .ref x1), (2, .int w2), (3, .ref x3), (4, .int c), (5, .int 0)]) [1, 2, 3, 4, 5, 0] rfl ?_
      obtain ⟨e33, t34, k35, hs⟩ := bnd_some hs
      obtain ⟨n36, k35⟩ := wh_itr k35
      refine SX9_fillTakings_20_w G Gb x1 w2 x3 c g1x r0 t0 n36 (0 : Int32) t5 _ _ k35 ?_
      show xW G mX9_fillTakings (xrm 2 0 0) (xQ G (PV r0 t0 Gb) 0 0) 92 [(0, .ref 84), (1, .ref x1), (2, .int w2), (3, .ref x3), (4, .int c)] [] (mem t34 Gb) 0 0
      refine xi_iinc (v := (c + 1)) (lv' := [(4, .int (c + 1)), (0, .ref 84), (1, .ref x1), (2, .int w2), (3, .ref x3)]) 4 dX9_fillTakings_92 rfl rfl (by decide) rfl ?_
      refine xi_goto (tgt := 8) dX9_fillTakings_95 (by decide) ?_
      refine xi_sub (lv' := [(0, .ref 84), (1, .ref x1), (2, .int w2), (3, .ref x3), (4, .int (c + 1))]) [1, 2, 3, 4, 0] rfl ?_
      obtain ⟨rfl, rfl⟩ := some_pair hs
      exact ih (c + 1) t34 _ _ h HE
noncomputable def FX9_fillTakings (x : Nat) (a : Int32) (t : Nat) (σ : St) : Option ((Unit) × St) :=
  (chk (netAt x) (bnd (FX9_fillAround x σ) (fun v1 t2 => (bnd (wh (SX9_fillTakings_8 x a t) (0 : Int32) t2) (fun e37 t38 => (some ((), t38)))))))
set_option maxHeartbeats 4000000 in
set_option maxRecDepth 100000 in
theorem KX9_fillTakings (G : xG) (Gb : xMem) (x : Nat) (a : Int32) (t : Nat) (σ : St) (r0 : Unit) (t0 : St) (hq : FX9_fillTakings x a t σ = some (r0, t0)) : xC G mX9_fillTakings 2 0 0 [.ref 84, .ref x, .int a, .ref t] (mem σ Gb) (PV r0 t0 Gb) := by
  unfold FX9_fillTakings at hq
  refine xC.of (by decide) (Nat.le_of_ble_eq_true rfl) ?_
  show xW _ _ _ _ 0 [(0, .ref 84), (1, .ref x), (2, .int a), (3, .ref t)] [] _ 0 0
  obtain ⟨g_x, hq⟩ := chk_some hq
  refine xi_aload_n 0 dX9_fillTakings_0 rfl ?_
  refine xi_aload_n 1 dX9_fillTakings_1 rfl ?_
  obtain ⟨v1, t2, k3, hq⟩ := bnd_some hq
  refine xi_callV (as := [.ref x]) (rest := []) dX9_fillTakings_2 (KX9_fillAround G Gb x _ _ _ k3) mkX9_fillAround w_716 ws_24 w_714 (mem_get sh_84) rfl rfl rfl rfl (Nat.le_of_ble_eq_true rfl) (Nat.le_of_ble_eq_true rfl) (Nat.le_of_ble_eq_true rfl) (Nat.le_of_ble_eq_true rfl) (Nat.le_of_ble_eq_true rfl) ?_
  intro v M2 hz
  obtain ⟨rfl, rfl⟩ := hz
  show xW _ _ _ _ 5 _ [] (mem t2 Gb) _ _
  refine xi_iconst (v := 0) dX9_fillTakings_5 (by decide) ?_
  refine xi_istore (lv' := [(4, .int 0), (0, .ref 84), (1, .ref x), (2, .int a), (3, .ref t)]) dX9_fillTakings_6 (by decide) rfl ?_
  refine xi_sub (lv' := [(0, .ref 84), (1, .ref x), (2, .int a), (3, .ref t), (4, .int 0)]) [1, 2, 3, 4, 0] rfl ?_
  obtain ⟨e37, t38, k39, hq⟩ := bnd_some hq
  obtain ⟨n40, k39⟩ := wh_itr k39
  refine SX9_fillTakings_8_w G Gb x a t g_x r0 t0 n40 (0 : Int32) t2 _ _ k39 ?_
  show xW G mX9_fillTakings (xrm 2 0 0) (xQ G (PV r0 t0 Gb) 0 0) 98 [] [] (mem t38 Gb) 0 0
  have r41 := some_pair hq
  obtain ⟨rfl, rfl⟩ := r41
  exact xi_vret dX9_fillTakings_98 rfl (Nat.le_of_ble_eq_true rfl) (Nat.le_of_ble_eq_true rfl) ⟨rfl, rfl⟩
noncomputable def SX9_fillSteps_40 (x1 : Nat) (w2 : Int32) (x3 : Nat) (w4 : Int32) (w5 : Int32) (c : Int32) (σ : St) : Option (((Int32) ⊕ (Unit)) × St) :=
  (rdb σ x1 (0) (fun v12 => (if v12 ≤ c then (some (Sum.inr (), σ)) else (bnd (if ((shr w4 c) &&& (1 : Int32)) = (0 : Int32) then (some ((), σ)) else (chk (inb (((w4 ^^^ (shl (1 : Int32) c)) * (9 : Int32)) + c) (ilen x3)) (wrb σ x3 ((((w4 ^^^ (shl (1 : Int32) c)) * (9 : Int32)) + c).toNatClampNeg) w5 (fun t21 => (some ((), t21)))))) (fun v16 t17 => (some (Sum.inl (c + 1), t17)))))))
noncomputable def SX9_fillSteps_18 (x1 : Nat) (w2 : Int32) (x3 : Nat) (c : Int32) (σ : St) : Option (((Int32) ⊕ (Unit)) × St) :=
  (bnd (FX5_allBits x1 σ) (fun v5 t6 => (if v5 < c then (some (Sum.inr (), t6)) else (bnd (FX6_of x1 w2 c (-1 : Int32) t6) (fun v9 t10 => (bnd (wh (SX9_fillSteps_40 x1 w2 x3 c v9) (0 : Int32) t10) (fun e23 t24 => (some (Sum.inl (c + 1), t24)))))))))
set_option maxHeartbeats 4000000 in
set_option maxRecDepth 100000 in
theorem SX9_fillSteps_40_w (G : xG) (Gb : xMem) (x1 : Nat) (w2 : Int32) (x3 : Nat) (w4 : Int32) (w5 : Int32) (g1x : netAt x1 = true) (r0 : Unit) (t0 : St) :
    ∀ (k : Nat) (c : Int32) (σ : St) (r : Unit) (σ' : St), itr (SX9_fillSteps_40 x1 w2 x3 w4 w5) k c σ = some (r, σ') → (xW G mX9_fillSteps (xrm 3 0 0) (xQ G (PV r0 t0 Gb) 0 0) 82 [(1, .ref x1), (2, .int w2), (3, .ref x3), (4, .int w4)] [] (mem σ' Gb) 0 0) → xW G mX9_fillSteps (xrm 3 0 0) (xQ G (PV r0 t0 Gb) 0 0) 40 [(1, .ref x1), (2, .int w2), (3, .ref x3), (4, .int w4), (5, .int w5), (6, .int c)] [] (mem σ Gb) 0 0 := by
  intro k
  induction k with
  | zero =>
    intro c σ r σ' h
    exact absurd h (itr_zero _ _ _ _)
  | succ k ih =>
    intro c σ r σ' h HE
    obtain ⟨x, s1, hs, h⟩ := itr_succ h
    unfold SX9_fillSteps_40 at hs
    refine xi_iload 5 dX9_fillSteps_40 rfl ?_
    refine xi_aload_n 0 dX9_fillSteps_42 rfl ?_
    obtain ⟨v12, h13, hs⟩ := rdb_some hs
    refine yi_getV (f := 0) dX9_fillSteps_43 (netAt_0 g1x) rfl ok_5 (by decide) w_65 rfl h13 ?_
    refine xi_icmp_ge (tgt := 82) dX9_fillSteps_46 (by decide) (fun c14 => ?_) (fun c14 => ?_)
    · replace hs := ite_p c14 hs
      refine xi_sub (lv' := [(1, .ref x1), (2, .int w2), (3, .ref x3), (4, .int w4)]) [0, 1, 2, 3] rfl ?_
      obtain ⟨rfl, rfl⟩ := some_pair hs
      obtain ⟨rfl, rfl⟩ := some_pair h
      exact HE
    · replace hs := ite_n c14 hs
      refine xi_iload 3 dX9_fillSteps_49 rfl ?_
      refine xi_iload 5 dX9_fillSteps_51 rfl ?_
      refine xi_ishr (v := shr w4 c) dX9_fillSteps_53 rfl ?_
      refine xi_iconst (v := 1) dX9_fillSteps_54 (by decide) ?_
      refine xi_iand (v := (shr w4 c) &&& (1 : Int32)) dX9_fillSteps_55 rfl ?_
      obtain ⟨v16, t17, m18, hs⟩ := bnd_some hs
      have key19 : xW G mX9_fillSteps (xrm 3 0 0) (xQ G (PV r0 t0 Gb) 0 0) 76 [(1, .ref x1), (2, .int w2), (3, .ref x3), (4, .int w4), (5, .int w5), (6, .int c)] [] (mem t17 Gb) 0 0 := by
        refine xi_iinc (v := (c + 1)) (lv' := [(6, .int (c + 1)), (1, .ref x1), (2, .int w2), (3, .ref x3), (4, .int w4), (5, .int w5)]) 5 dX9_fillSteps_76 rfl rfl (by decide) rfl ?_
        refine xi_goto (tgt := 40) dX9_fillSteps_79 (by decide) ?_
        refine xi_sub (lv' := [(1, .ref x1), (2, .int w2), (3, .ref x3), (4, .int w4), (5, .int w5), (6, .int (c + 1))]) [1, 2, 3, 4, 5, 0] rfl ?_
        obtain ⟨rfl, rfl⟩ := some_pair hs
        exact ih (c + 1) t17 _ _ h HE
      refine xi_if_eq (tgt := 76) dX9_fillSteps_56 (by decide) (fun c15 => ?_) (fun c15 => ?_)
      · replace m18 := ite_p c15 m18
        obtain ⟨rfl, rfl⟩ := some_pair m18
        exact key19
      · replace m18 := ite_n c15 m18
        refine xi_aload_n 2 dX9_fillSteps_59 rfl ?_
        refine xi_iload 3 dX9_fillSteps_60 rfl ?_
        refine xi_iconst (v := 1) dX9_fillSteps_62 (by decide) ?_
        refine xi_iload 5 dX9_fillSteps_63 rfl ?_
        refine xi_ishl (v := shl (1 : Int32) c) dX9_fillSteps_65 rfl ?_
        refine xi_ixor (v := w4 ^^^ (shl (1 : Int32) c)) dX9_fillSteps_66 rfl ?_
        refine xi_bipush (v := 9) dX9_fillSteps_67 (by decide) ?_
        refine xi_imul (v := (w4 ^^^ (shl (1 : Int32) c)) * (9 : Int32)) dX9_fillSteps_69 rfl ?_
        refine xi_iload 5 dX9_fillSteps_70 rfl ?_
        refine xi_iadd (v := ((w4 ^^^ (shl (1 : Int32) c)) * (9 : Int32)) + c) dX9_fillSteps_72 rfl ?_
        refine xi_iload 4 dX9_fillSteps_73 rfl ?_
        obtain ⟨g20, m18⟩ := chk_some m18
        obtain ⟨t21, h22, m18⟩ := wrb_some m18
        refine yi_iastoreV dX9_fillSteps_75 (ilen_at g20) g20 h22 ?_
        obtain ⟨rfl, rfl⟩ := some_pair m18
        exact key19
set_option maxHeartbeats 4000000 in
set_option maxRecDepth 100000 in
theorem SX9_fillSteps_18_w (G : xG) (Gb : xMem) (x1 : Nat) (w2 : Int32) (x3 : Nat) (g1x : netAt x1 = true) (r0 : Unit) (t0 : St) :
    ∀ (k : Nat) (c : Int32) (σ : St) (r : Unit) (σ' : St), itr (SX9_fillSteps_18 x1 w2 x3) k c σ = some (r, σ') → (xW G mX9_fillSteps (xrm 3 0 0) (xQ G (PV r0 t0 Gb) 0 0) 88 [] [] (mem σ' Gb) 0 0) → xW G mX9_fillSteps (xrm 3 0 0) (xQ G (PV r0 t0 Gb) 0 0) 18 [(1, .ref x1), (2, .int w2), (3, .ref x3), (4, .int c)] [] (mem σ Gb) 0 0 := by
  intro k
  induction k with
  | zero =>
    intro c σ r σ' h
    exact absurd h (itr_zero _ _ _ _)
  | succ k ih =>
    intro c σ r σ' h HE
    obtain ⟨x, s1, hs, h⟩ := itr_succ h
    unfold SX9_fillSteps_18 at hs
    refine xi_iload 3 dX9_fillSteps_18 rfl ?_
    refine xi_aload_n 0 dX9_fillSteps_20 rfl ?_
    obtain ⟨v5, t6, k7, hs⟩ := bnd_some hs
    refine xi_callV (as := []) (rest := [.int c]) dX9_fillSteps_21 (KX5_allBits G Gb x1 _ _ _ k7) mkX5_allBits w_441 w_442 w_718 (mem_get (netAt_0 g1x)) rfl rfl rfl rfl (Nat.le_of_ble_eq_true rfl) (Nat.le_of_ble_eq_true rfl) (Nat.le_of_ble_eq_true rfl) (Nat.le_of_ble_eq_true rfl) (Nat.le_of_ble_eq_true rfl) ?_
    intro v M2 hz
    obtain ⟨rfl, rfl⟩ := hz
    show xW _ _ _ _ 24 _ [.int v5, .int c] (mem t6 Gb) _ _
    refine xi_icmp_gt (tgt := 88) dX9_fillSteps_24 (by decide) (fun c8 => ?_) (fun c8 => ?_)
    · replace hs := ite_p c8 hs
      refine xi_sub (lv' := []) [] rfl ?_
      obtain ⟨rfl, rfl⟩ := some_pair hs
      obtain ⟨rfl, rfl⟩ := some_pair h
      exact HE
    · replace hs := ite_n c8 hs
      refine xi_aload_n 0 dX9_fillSteps_27 rfl ?_
      refine xi_iload_n 1 dX9_fillSteps_28 rfl ?_
      refine xi_iload 3 dX9_fillSteps_29 rfl ?_
      refine xi_iconst (v := (-1)) dX9_fillSteps_31 (by decide) ?_
      obtain ⟨v9, t10, k11, hs⟩ := bnd_some hs
      refine xi_callS (as := [.ref x1, .int w2, .int c, .int (-1)]) (rest := []) dX9_fillSteps_32 (KX6_of G Gb x1 w2 c (-1 : Int32) _ _ _ k11) mkX6_of w_586 w_726 rfl rfl (Nat.le_of_ble_eq_true rfl) (Nat.le_of_ble_eq_true rfl) (Nat.le_of_ble_eq_true rfl) (Nat.le_of_ble_eq_true rfl) (Nat.le_of_ble_eq_true rfl) ?_
      intro v M2 hz
      obtain ⟨rfl, rfl⟩ := hz
      show xW _ _ _ _ 35 _ [.int v9] (mem t10 Gb) _ _
      refine xi_istore (lv' := [(5, .int v9), (1, .ref x1), (2, .int w2), (3, .ref x3), (4, .int c)]) dX9_fillSteps_35 (by decide) rfl ?_
      refine xi_iconst (v := 0) dX9_fillSteps_37 (by decide) ?_
      refine xi_istore (lv' := [(6, .int 0), (5, .int v9), (1, .ref x1), (2, .int w2), (3, .ref x3), (4, .int c)]) dX9_fillSteps_38 (by decide) rfl ?_
      refine xi_sub (lv' := [(1, .ref x1), (2, .int w2), (3, .ref x3), (4, .int c), (5, .int v9), (6, .int 0)]) [2, 3, 4, 5, 1, 0] rfl ?_
      obtain ⟨e23, t24, k25, hs⟩ := bnd_some hs
      obtain ⟨n26, k25⟩ := wh_itr k25
      refine SX9_fillSteps_40_w G Gb x1 w2 x3 c v9 g1x r0 t0 n26 (0 : Int32) t10 _ _ k25 ?_
      show xW G mX9_fillSteps (xrm 3 0 0) (xQ G (PV r0 t0 Gb) 0 0) 82 [(1, .ref x1), (2, .int w2), (3, .ref x3), (4, .int c)] [] (mem t24 Gb) 0 0
      refine xi_iinc (v := (c + 1)) (lv' := [(4, .int (c + 1)), (1, .ref x1), (2, .int w2), (3, .ref x3)]) 3 dX9_fillSteps_82 rfl rfl (by decide) rfl ?_
      refine xi_goto (tgt := 18) dX9_fillSteps_85 (by decide) ?_
      refine xi_sub (lv' := [(1, .ref x1), (2, .int w2), (3, .ref x3), (4, .int (c + 1))]) [1, 2, 3, 0] rfl ?_
      obtain ⟨rfl, rfl⟩ := some_pair hs
      exact ih (c + 1) t24 _ _ h HE
noncomputable def FX9_fillSteps (x : Nat) (a : Int32) (t : Nat) (σ : St) : Option ((Unit) × St) :=
  (chk (netAt x) (bnd (FX6_isTakenOut a σ) (fun v1 t2 => (if v1 = (0 : Int32) then (bnd (wh (SX9_fillSteps_18 x a t) (0 : Int32) t2) (fun e27 t28 => (some ((), t28)))) else (bnd (FX9_fillTakings x a t t2) (fun v32 t33 => (some ((), t33))))))))
set_option maxHeartbeats 4000000 in
set_option maxRecDepth 100000 in
theorem KX9_fillSteps (G : xG) (Gb : xMem) (x : Nat) (a : Int32) (t : Nat) (σ : St) (r0 : Unit) (t0 : St) (hq : FX9_fillSteps x a t σ = some (r0, t0)) : xC G mX9_fillSteps 3 0 0 [.ref 84, .ref x, .int a, .ref t] (mem σ Gb) (PV r0 t0 Gb) := by
  unfold FX9_fillSteps at hq
  refine xC.of (by decide) (Nat.le_of_ble_eq_true rfl) ?_
  show xW _ _ _ _ 0 [(0, .ref 84), (1, .ref x), (2, .int a), (3, .ref t)] [] _ 0 0
  obtain ⟨g_x, hq⟩ := chk_some hq
  refine xi_iload_n 2 dX9_fillSteps_0 rfl ?_
  obtain ⟨v1, t2, k3, hq⟩ := bnd_some hq
  refine xi_callS (as := [.int a]) (rest := []) dX9_fillSteps_1 (KX6_isTakenOut G Gb a _ _ _ k3) mkX6_isTakenOut w_583 w_709 rfl rfl (Nat.le_of_ble_eq_true rfl) (Nat.le_of_ble_eq_true rfl) (Nat.le_of_ble_eq_true rfl) (Nat.le_of_ble_eq_true rfl) (Nat.le_of_ble_eq_true rfl) ?_
  intro v M2 hz
  obtain ⟨rfl, rfl⟩ := hz
  show xW _ _ _ _ 4 _ [.int v1] (mem t2 Gb) _ _
  refine xi_if_eq (tgt := 15) dX9_fillSteps_4 (by decide) (fun c4 => ?_) (fun c4 => ?_)
  · replace hq := ite_p c4 hq
    refine xi_iconst (v := 0) dX9_fillSteps_15 (by decide) ?_
    refine xi_istore (lv' := [(4, .int 0), (0, .ref 84), (1, .ref x), (2, .int a), (3, .ref t)]) dX9_fillSteps_16 (by decide) rfl ?_
    refine xi_sub (lv' := [(1, .ref x), (2, .int a), (3, .ref t), (4, .int 0)]) [2, 3, 4, 0] rfl ?_
    obtain ⟨e27, t28, k29, hq⟩ := bnd_some hq
    obtain ⟨n30, k29⟩ := wh_itr k29
    refine SX9_fillSteps_18_w G Gb x a t g_x r0 t0 n30 (0 : Int32) t2 _ _ k29 ?_
    show xW G mX9_fillSteps (xrm 3 0 0) (xQ G (PV r0 t0 Gb) 0 0) 88 [] [] (mem t28 Gb) 0 0
    have r31 := some_pair hq
    obtain ⟨rfl, rfl⟩ := r31
    exact xi_vret dX9_fillSteps_88 rfl (Nat.le_of_ble_eq_true rfl) (Nat.le_of_ble_eq_true rfl) ⟨rfl, rfl⟩
  · replace hq := ite_n c4 hq
    refine xi_aload_n 0 dX9_fillSteps_7 rfl ?_
    refine xi_aload_n 1 dX9_fillSteps_8 rfl ?_
    refine xi_iload_n 2 dX9_fillSteps_9 rfl ?_
    refine xi_aload_n 3 dX9_fillSteps_10 rfl ?_
    obtain ⟨v32, t33, k34, hq⟩ := bnd_some hq
    refine xi_callV (as := [.ref x, .int a, .ref t]) (rest := []) dX9_fillSteps_11 (KX9_fillTakings G Gb x a t _ _ _ k34) mkX9_fillTakings w_712 ws_23 w_710 (mem_get sh_84) rfl rfl rfl rfl (Nat.le_of_ble_eq_true rfl) (Nat.le_of_ble_eq_true rfl) (Nat.le_of_ble_eq_true rfl) (Nat.le_of_ble_eq_true rfl) (Nat.le_of_ble_eq_true rfl) ?_
    intro v M2 hz
    obtain ⟨rfl, rfl⟩ := hz
    show xW _ _ _ _ 14 _ [] (mem t33 Gb) _ _
    have r35 := some_pair hq
    obtain ⟨rfl, rfl⟩ := r35
    exact xi_vret dX9_fillSteps_14 rfl (Nat.le_of_ble_eq_true rfl) (Nat.le_of_ble_eq_true rfl) ⟨rfl, rfl⟩
noncomputable def SX9_leadersFrom_6 (x1 : Nat) (w2 : Int32) (w3 : Int32) (w4 : Int32) (c : Int32 × Int32) (σ : St) : Option (((Int32 × Int32) ⊕ (Int32)) × St) :=
  (rdb σ x1 (0) (fun v1 => (if v1 ≤ c.2 then (some (Sum.inr c.1, σ)) else (bnd (if ((shr w3 c.2) &&& (1 : Int32)) = (0 : Int32) then (chk (inb (w3 ||| (shl (1 : Int32) c.2)) 512) (rdb σ 89 ((w3 ||| (shl (1 : Int32) c.2)).toNatClampNeg) (fun v10 => (if v10 ≤ (0 : Int32) then (some (c.1, σ)) else (bnd (FX9_fits w2 w3 c.2 w4 σ) (fun v13 t14 => (if v13 = (0 : Int32) then (some (c.1, t14)) else (some ((c.1 ||| (shl (1 : Int32) c.2)), t14))))))))) else (some (c.1, σ))) (fun v5 t6 => (some (Sum.inl (v5, (c.2 + 1)), t6)))))))
set_option maxHeartbeats 4000000 in
set_option maxRecDepth 100000 in
theorem SX9_leadersFrom_6_w (G : xG) (Gb : xMem) (x1 : Nat) (w2 : Int32) (w3 : Int32) (w4 : Int32) (g1x : netAt x1 = true) (r0 : Int32) (t0 : St) :
    ∀ (k : Nat) (c : Int32 × Int32) (σ : St) (r : Int32) (σ' : St), itr (SX9_leadersFrom_6 x1 w2 w3 w4) k c σ = some (r, σ') → (xW G mX9_leadersFrom (xrm 1 0 0) (xQ G (PQ r0 t0 Gb) 0 0) 66 [(5, .int r)] [] (mem σ' Gb) 0 0) → xW G mX9_leadersFrom (xrm 1 0 0) (xQ G (PQ r0 t0 Gb) 0 0) 6 [(0, .ref 84), (1, .ref x1), (2, .int w2), (3, .int w3), (4, .int w4), (5, .int c.1), (6, .int c.2)] [] (mem σ Gb) 0 0 := by
  intro k
  induction k with
  | zero =>
    intro c σ r σ' h
    exact absurd h (itr_zero _ _ _ _)
  | succ k ih =>
    intro c σ r σ' h HE
    obtain ⟨x, s1, hs, h⟩ := itr_succ h
    unfold SX9_leadersFrom_6 at hs
    refine xi_iload 6 dX9_leadersFrom_6 rfl ?_
    refine xi_aload_n 1 dX9_leadersFrom_8 rfl ?_
    obtain ⟨v1, h2, hs⟩ := rdb_some hs
    refine yi_getV (f := 0) dX9_leadersFrom_9 (netAt_0 g1x) rfl ok_5 (by decide) w_65 rfl h2 ?_
    refine xi_icmp_ge (tgt := 66) dX9_leadersFrom_12 (by decide) (fun c3 => ?_) (fun c3 => ?_)
    · replace hs := ite_p c3 hs
      refine xi_sub (lv' := [(5, .int c.1)]) [5] rfl ?_
      obtain ⟨rfl, rfl⟩ := some_pair hs
      obtain ⟨rfl, rfl⟩ := some_pair h
      exact HE
    · replace hs := ite_n c3 hs
      refine xi_iload_n 3 dX9_leadersFrom_15 rfl ?_
      refine xi_iload 6 dX9_leadersFrom_16 rfl ?_
      refine xi_ishr (v := shr w3 c.2) dX9_leadersFrom_18 rfl ?_
      refine xi_iconst (v := 1) dX9_leadersFrom_19 (by decide) ?_
      refine xi_iand (v := (shr w3 c.2) &&& (1 : Int32)) dX9_leadersFrom_20 rfl ?_
      obtain ⟨v5, t6, m7, hs⟩ := bnd_some hs
      have key8 : xW G mX9_leadersFrom (xrm 1 0 0) (xQ G (PQ r0 t0 Gb) 0 0) 60 [(0, .ref 84), (1, .ref x1), (2, .int w2), (3, .int w3), (4, .int w4), (5, .int v5), (6, .int c.2)] [] (mem t6 Gb) 0 0 := by
        refine xi_iinc (v := (c.2 + 1)) (lv' := [(6, .int (c.2 + 1)), (0, .ref 84), (1, .ref x1), (2, .int w2), (3, .int w3), (4, .int w4), (5, .int v5)]) 6 dX9_leadersFrom_60 rfl rfl (by decide) rfl ?_
        refine xi_goto (tgt := 6) dX9_leadersFrom_63 (by decide) ?_
        refine xi_sub (lv' := [(0, .ref 84), (1, .ref x1), (2, .int w2), (3, .int w3), (4, .int w4), (5, .int v5), (6, .int (c.2 + 1))]) [1, 2, 3, 4, 5, 6, 0] rfl ?_
        obtain ⟨rfl, rfl⟩ := some_pair hs
        exact ih (v5, (c.2 + 1)) t6 _ _ h HE
      refine xi_if_ne (tgt := 60) dX9_leadersFrom_21 (by decide) (fun c4 => ?_) (fun c4 => ?_)
      · replace m7 := ite_n c4 m7
        obtain ⟨rfl, rfl⟩ := some_pair m7
        exact key8
      · replace m7 := ite_p c4 m7
        refine xi_aload_n 0 dX9_leadersFrom_24 rfl ?_
        refine yi_getR (f := 4) dX9_leadersFrom_25 sh_84 rfl ok_7 (by decide) w_187 rfl ?_
        refine xi_iload_n 3 dX9_leadersFrom_28 rfl ?_
        refine xi_iconst (v := 1) dX9_leadersFrom_29 (by decide) ?_
        refine xi_iload 6 dX9_leadersFrom_30 rfl ?_
        refine xi_ishl (v := shl (1 : Int32) c.2) dX9_leadersFrom_32 rfl ?_
        refine xi_ior (v := w3 ||| (shl (1 : Int32) c.2)) dX9_leadersFrom_33 rfl ?_
        obtain ⟨g9, m7⟩ := chk_some m7
        obtain ⟨v10, h11, m7⟩ := rdb_some m7
        refine yi_ialoadV dX9_leadersFrom_34 sh_89 g9 h11 ?_
        refine xi_if_le (tgt := 60) dX9_leadersFrom_35 (by decide) (fun c12 => ?_) (fun c12 => ?_)
        · replace m7 := ite_p c12 m7
          obtain ⟨rfl, rfl⟩ := some_pair m7
          exact key8
        · replace m7 := ite_n c12 m7
          refine xi_aload_n 0 dX9_leadersFrom_38 rfl ?_
          refine xi_iload_n 2 dX9_leadersFrom_39 rfl ?_
          refine xi_iload_n 3 dX9_leadersFrom_40 rfl ?_
          refine xi_iload 6 dX9_leadersFrom_41 rfl ?_
          refine xi_iload 4 dX9_leadersFrom_43 rfl ?_
          obtain ⟨v13, t14, k15, m7⟩ := bnd_some m7
          refine xi_callV (as := [.int w2, .int w3, .int c.2, .int w4]) (rest := []) dX9_leadersFrom_45 (KX9_fits G Gb w2 w3 c.2 w4 _ _ _ k15) mkX9_fits w_740 ws_28 w_738 (mem_get sh_84) rfl rfl rfl rfl (Nat.le_of_ble_eq_true rfl) (Nat.le_of_ble_eq_true rfl) (Nat.le_of_ble_eq_true rfl) (Nat.le_of_ble_eq_true rfl) (Nat.le_of_ble_eq_true rfl) ?_
          intro v M2 hz
          obtain ⟨rfl, rfl⟩ := hz
          show xW _ _ _ _ 48 _ [.int v13] (mem t14 Gb) _ _
          refine xi_if_eq (tgt := 60) dX9_leadersFrom_48 (by decide) (fun c16 => ?_) (fun c16 => ?_)
          · replace m7 := ite_p c16 m7
            obtain ⟨rfl, rfl⟩ := some_pair m7
            exact key8
          · replace m7 := ite_n c16 m7
            refine xi_iload 5 dX9_leadersFrom_51 rfl ?_
            refine xi_iconst (v := 1) dX9_leadersFrom_53 (by decide) ?_
            refine xi_iload 6 dX9_leadersFrom_54 rfl ?_
            refine xi_ishl (v := shl (1 : Int32) c.2) dX9_leadersFrom_56 rfl ?_
            refine xi_ior (v := c.1 ||| (shl (1 : Int32) c.2)) dX9_leadersFrom_57 rfl ?_
            refine xi_istore (lv' := [(5, .int (c.1 ||| (shl (1 : Int32) c.2))), (0, .ref 84), (1, .ref x1), (2, .int w2), (3, .int w3), (4, .int w4), (6, .int c.2)]) dX9_leadersFrom_58 (by decide) rfl ?_
            obtain ⟨rfl, rfl⟩ := some_pair m7
            refine xi_sub (lv' := [(0, .ref 84), (1, .ref x1), (2, .int w2), (3, .int w3), (4, .int w4), (5, .int (c.1 ||| (shl (1 : Int32) c.2))), (6, .int c.2)]) [1, 2, 3, 4, 5, 0, 6] rfl ?_
            exact key8
noncomputable def FX9_leadersFrom (x : Nat) (a : Int32) (b : Int32) (c : Int32) (σ : St) : Option ((Int32) × St) :=
  (chk (netAt x) (bnd (wh (SX9_leadersFrom_6 x a b c) ((0 : Int32), (0 : Int32)) σ) (fun e17 t18 => (some (e17, t18)))))
set_option maxHeartbeats 4000000 in
set_option maxRecDepth 100000 in
theorem KX9_leadersFrom (G : xG) (Gb : xMem) (x : Nat) (a : Int32) (b : Int32) (c : Int32) (σ : St) (r0 : Int32) (t0 : St) (hq : FX9_leadersFrom x a b c σ = some (r0, t0)) : xC G mX9_leadersFrom 1 0 0 [.ref 84, .ref x, .int a, .int b, .int c] (mem σ Gb) (PQ r0 t0 Gb) := by
  unfold FX9_leadersFrom at hq
  refine xC.of (by decide) (Nat.le_of_ble_eq_true rfl) ?_
  show xW _ _ _ _ 0 [(0, .ref 84), (1, .ref x), (2, .int a), (3, .int b), (4, .int c)] [] _ 0 0
  obtain ⟨g_x, hq⟩ := chk_some hq
  refine xi_iconst (v := 0) dX9_leadersFrom_0 (by decide) ?_
  refine xi_istore (lv' := [(5, .int 0), (0, .ref 84), (1, .ref x), (2, .int a), (3, .int b), (4, .int c)]) dX9_leadersFrom_1 (by decide) rfl ?_
  refine xi_iconst (v := 0) dX9_leadersFrom_3 (by decide) ?_
  refine xi_istore (lv' := [(6, .int 0), (5, .int 0), (0, .ref 84), (1, .ref x), (2, .int a), (3, .int b), (4, .int c)]) dX9_leadersFrom_4 (by decide) rfl ?_
  refine xi_sub (lv' := [(0, .ref 84), (1, .ref x), (2, .int a), (3, .int b), (4, .int c), (5, .int 0), (6, .int 0)]) [2, 3, 4, 5, 6, 1, 0] rfl ?_
  obtain ⟨e17, t18, k19, hq⟩ := bnd_some hq
  obtain ⟨n20, k19⟩ := wh_itr k19
  refine SX9_leadersFrom_6_w G Gb x a b c g_x r0 t0 n20 ((0 : Int32), (0 : Int32)) σ _ _ k19 ?_
  show xW G mX9_leadersFrom (xrm 1 0 0) (xQ G (PQ r0 t0 Gb) 0 0) 66 [(5, .int e17)] [] (mem t18 Gb) 0 0
  refine xi_iload 0 dX9_leadersFrom_66 rfl ?_
  have r21 := some_pair hq
  obtain ⟨rfl, rfl⟩ := r21
  exact xi_iret dX9_leadersFrom_68 rfl rfl (Nat.le_of_ble_eq_true rfl) (Nat.le_of_ble_eq_true rfl) ⟨rfl, rfl⟩
noncomputable def SX9_find_77 (x1 : Nat) (w2 : Int32) (x3 : Nat) (c : Int32 × Int32) (σ : St) : Option (((Int32 × Int32) ⊕ (Unit)) × St) :=
  (rdb σ x1 (0) (fun v31 => (if v31 ≤ c.2 then (some (Sum.inr (), σ)) else (chk (inb (0 : Int32) 512) (rdb σ 88 ((0 : Int32).toNatClampNeg) (fun v35 => (bnd (FX9_leadersFrom x1 w2 c.1 v35 σ) (fun v37 t38 => (bnd (FX9_lowest v37 t38) (fun v40 t41 => (chk (inb c.2 9) (wrb t41 (x3 + 1) (c.2.toNatClampNeg) v40 (fun t44 => (some (Sum.inl ((c.1 ||| (shl (1 : Int32) v40)), (c.2 + 1)), t44)))))))))))))))
set_option maxHeartbeats 4000000 in
set_option maxRecDepth 100000 in
theorem SX9_find_77_w (G : xG) (Gb : xMem) (x1 : Nat) (w2 : Int32) (x3 : Nat) (g1x : netAt x1 = true) (g3x : findAt x3 = true) (r0 : Unit) (t0 : St) :
    ∀ (k : Nat) (c : Int32 × Int32) (σ : St) (r : Unit) (σ' : St), itr (SX9_find_77 x1 w2 x3) k c σ = some (r, σ') → (xW G mX9_find (xrm 4 0 0) (xQ G (PV r0 t0 Gb) 0 0) 129 [] [] (mem σ' Gb) 0 0) → xW G mX9_find (xrm 4 0 0) (xQ G (PV r0 t0 Gb) 0 0) 77 [(0, .ref 84), (1, .ref x1), (2, .int w2), (3, .ref x3), (4, .int c.1), (5, .int c.2)] [] (mem σ Gb) 0 0 := by
  intro k
  induction k with
  | zero =>
    intro c σ r σ' h
    exact absurd h (itr_zero _ _ _ _)
  | succ k ih =>
    intro c σ r σ' h HE
    obtain ⟨x, s1, hs, h⟩ := itr_succ h
    unfold SX9_find_77 at hs
    refine xi_iload 5 dX9_find_77 rfl ?_
    refine xi_aload_n 1 dX9_find_79 rfl ?_
    obtain ⟨v31, h32, hs⟩ := rdb_some hs
    refine yi_getV (f := 0) dX9_find_80 (netAt_0 g1x) rfl ok_5 (by decide) w_65 rfl h32 ?_
    refine xi_icmp_ge (tgt := 129) dX9_find_83 (by decide) (fun c33 => ?_) (fun c33 => ?_)
    · replace hs := ite_p c33 hs
      refine xi_sub (lv' := []) [] rfl ?_
      obtain ⟨rfl, rfl⟩ := some_pair hs
      obtain ⟨rfl, rfl⟩ := some_pair h
      exact HE
    · replace hs := ite_n c33 hs
      refine xi_aload_n 0 dX9_find_86 rfl ?_
      refine xi_aload_n 1 dX9_find_87 rfl ?_
      refine xi_iload_n 2 dX9_find_88 rfl ?_
      refine xi_iload 4 dX9_find_89 rfl ?_
      refine xi_aload_n 0 dX9_find_91 rfl ?_
      refine yi_getR (f := 3) dX9_find_92 sh_84 rfl ok_7 (by decide) w_186 rfl ?_
      refine xi_iconst (v := 0) dX9_find_95 (by decide) ?_
      obtain ⟨g34, hs⟩ := chk_some hs
      obtain ⟨v35, h36, hs⟩ := rdb_some hs
      refine yi_ialoadV dX9_find_96 sh_88 g34 h36 ?_
      obtain ⟨v37, t38, k39, hs⟩ := bnd_some hs
      refine xi_callV (as := [.ref x1, .int w2, .int c.1, .int v35]) (rest := []) dX9_find_97 (KX9_leadersFrom G Gb x1 w2 c.1 v35 _ _ _ k39) mkX9_leadersFrom w_744 ws_29 w_742 (mem_get sh_84) rfl rfl rfl rfl (Nat.le_of_ble_eq_true rfl) (Nat.le_of_ble_eq_true rfl) (Nat.le_of_ble_eq_true rfl) (Nat.le_of_ble_eq_true rfl) (Nat.le_of_ble_eq_true rfl) ?_
      intro v M2 hz
      obtain ⟨rfl, rfl⟩ := hz
      show xW _ _ _ _ 100 _ [.int v37] (mem t38 Gb) _ _
      obtain ⟨v40, t41, k42, hs⟩ := bnd_some hs
      refine xi_callS (as := [.int v37]) (rest := []) dX9_find_100 (KX9_lowest G Gb v37 _ _ _ k42) mkX9_lowest w_699 w_719 rfl rfl (Nat.le_of_ble_eq_true rfl) (Nat.le_of_ble_eq_true rfl) (Nat.le_of_ble_eq_true rfl) (Nat.le_of_ble_eq_true rfl) (Nat.le_of_ble_eq_true rfl) ?_
      intro v M2 hz
      obtain ⟨rfl, rfl⟩ := hz
      show xW _ _ _ _ 103 _ [.int v40] (mem t41 Gb) _ _
      refine xi_istore (lv' := [(6, .int v40), (0, .ref 84), (1, .ref x1), (2, .int w2), (3, .ref x3), (4, .int c.1), (5, .int c.2)]) dX9_find_103 (by decide) rfl ?_
      refine xi_aload_n 4 dX9_find_105 rfl ?_
      refine yi_getR (f := 4) dX9_find_106 (findAt_0 g3x) rfl ok_2 (by decide) w_156 rfl ?_
      refine xi_iload 6 dX9_find_109 rfl ?_
      refine xi_iload 0 dX9_find_111 rfl ?_
      obtain ⟨g43, hs⟩ := chk_some hs
      obtain ⟨t44, h45, hs⟩ := wrb_some hs
      refine yi_iastoreV dX9_find_113 (findAt_1 g3x) g43 h45 ?_
      refine xi_iload 5 dX9_find_114 rfl ?_
      refine xi_iconst (v := 1) dX9_find_116 (by decide) ?_
      refine xi_iload 0 dX9_find_117 rfl ?_
      refine xi_ishl (v := shl (1 : Int32) v40) dX9_find_119 rfl ?_
      refine xi_ior (v := c.1 ||| (shl (1 : Int32) v40)) dX9_find_120 rfl ?_
      refine xi_istore (lv' := [(4, .int (c.1 ||| (shl (1 : Int32) v40))), (6, .int v40), (0, .ref 84), (1, .ref x1), (2, .int w2), (3, .ref x3), (5, .int c.2)]) dX9_find_121 (by decide) rfl ?_
      refine xi_iinc (v := (c.2 + 1)) (lv' := [(5, .int (c.2 + 1)), (4, .int (c.1 ||| (shl (1 : Int32) v40))), (6, .int v40), (0, .ref 84), (1, .ref x1), (2, .int w2), (3, .ref x3)]) 6 dX9_find_123 rfl rfl (by decide) rfl ?_
      refine xi_goto (tgt := 77) dX9_find_126 (by decide) ?_
      refine xi_sub (lv' := [(0, .ref 84), (1, .ref x1), (2, .int w2), (3, .ref x3), (4, .int (c.1 ||| (shl (1 : Int32) v40))), (5, .int (c.2 + 1))]) [3, 4, 5, 6, 1, 0] rfl ?_
      obtain ⟨rfl, rfl⟩ := some_pair hs
      exact ih ((c.1 ||| (shl (1 : Int32) v40)), (c.2 + 1)) t44 _ _ h HE
noncomputable def FX9_find (x : Nat) (a : Int32) (z : Nat) (σ : St) : Option ((Unit) × St) :=
  (chk (netAt x) (chk (findAt z) (bnd (FX9_fillSteps x a 85 σ) (fun v1 t2 => (bnd (FX9_fillRest x a 85 (1048576 : Int32) t2) (fun v4 t5 => (chk (inb (0 : Int32) 512) (rdb t5 88 ((0 : Int32).toNatClampNeg) (fun v8 => (wrb t5 z (1) v8 (fun t10 => (chk (inb (0 : Int32) 512) (rdb t10 88 ((0 : Int32).toNatClampNeg) (fun v13 => (bnd (FX9_countRows x a v13 t10) (fun v15 t16 => (chk (inb (0 : Int32) 512) (rdb t16 89 ((0 : Int32).toNatClampNeg) (fun v19 => (wrb t16 z (2) v19 (fun t21 => (chk (inb (0 : Int32) 512) (rdb t21 88 ((0 : Int32).toNatClampNeg) (fun v24 => (bnd (FX9_leadersFrom x a (0 : Int32) v24 t21) (fun v26 t27 => (wrb t27 z (3) v26 (fun t29 => (bnd (wh (SX9_find_77 x a z) ((0 : Int32), (0 : Int32)) t29) (fun e46 t47 => (some ((), t47))))))))))))))))))))))))))))))))
set_option maxHeartbeats 4000000 in
set_option maxRecDepth 100000 in
theorem KX9_find (G : xG) (Gb : xMem) (x : Nat) (a : Int32) (z : Nat) (σ : St) (r0 : Unit) (t0 : St) (hq : FX9_find x a z σ = some (r0, t0)) : xC G mX9_find 4 0 0 [.ref 84, .ref x, .int a, .ref z] (mem σ Gb) (PV r0 t0 Gb) := by
  unfold FX9_find at hq
  refine xC.of (by decide) (Nat.le_of_ble_eq_true rfl) ?_
  show xW _ _ _ _ 0 [(0, .ref 84), (1, .ref x), (2, .int a), (3, .ref z)] [] _ 0 0
  obtain ⟨g_x, hq⟩ := chk_some hq
  obtain ⟨g_z, hq⟩ := chk_some hq
  refine xi_aload_n 0 dX9_find_0 rfl ?_
  refine xi_aload_n 1 dX9_find_1 rfl ?_
  refine xi_iload_n 2 dX9_find_2 rfl ?_
  refine xi_aload_n 0 dX9_find_3 rfl ?_
  refine yi_getR (f := 0) dX9_find_4 sh_84 rfl ok_7 (by decide) w_183 rfl ?_
  obtain ⟨v1, t2, k3, hq⟩ := bnd_some hq
  refine xi_callV (as := [.ref x, .int a, .ref 85]) (rest := []) dX9_find_7 (KX9_fillSteps G Gb x a 85 _ _ _ k3) mkX9_fillSteps w_707 ws_22 w_705 (mem_get sh_84) rfl rfl rfl rfl (Nat.le_of_ble_eq_true rfl) (Nat.le_of_ble_eq_true rfl) (Nat.le_of_ble_eq_true rfl) (Nat.le_of_ble_eq_true rfl) (Nat.le_of_ble_eq_true rfl) ?_
  intro v M2 hz
  obtain ⟨rfl, rfl⟩ := hz
  show xW _ _ _ _ 10 _ [] (mem t2 Gb) _ _
  refine xi_aload_n 0 dX9_find_10 rfl ?_
  refine xi_aload_n 1 dX9_find_11 rfl ?_
  refine xi_iload_n 2 dX9_find_12 rfl ?_
  refine xi_aload_n 0 dX9_find_13 rfl ?_
  refine yi_getR (f := 0) dX9_find_14 sh_84 rfl ok_7 (by decide) w_183 rfl ?_
  refine xi_ldc (v := 1048576) dX9_find_17 w_727 ?_
  obtain ⟨v4, t5, k6, hq⟩ := bnd_some hq
  refine xi_callV (as := [.ref x, .int a, .ref 85, .int 1048576]) (rest := []) dX9_find_19 (KX9_fillRest G Gb x a 85 (1048576 : Int32) _ _ _ k6) mkX9_fillRest w_730 ws_26 w_728 (mem_get sh_84) rfl rfl rfl rfl (Nat.le_of_ble_eq_true rfl) (Nat.le_of_ble_eq_true rfl) (Nat.le_of_ble_eq_true rfl) (Nat.le_of_ble_eq_true rfl) (Nat.le_of_ble_eq_true rfl) ?_
  intro v M2 hz
  obtain ⟨rfl, rfl⟩ := hz
  show xW _ _ _ _ 22 _ [] (mem t5 Gb) _ _
  refine xi_aload_n 3 dX9_find_22 rfl ?_
  refine xi_aload_n 0 dX9_find_23 rfl ?_
  refine yi_getR (f := 3) dX9_find_24 sh_84 rfl ok_7 (by decide) w_186 rfl ?_
  refine xi_iconst (v := 0) dX9_find_27 (by decide) ?_
  obtain ⟨g7, hq⟩ := chk_some hq
  obtain ⟨v8, h9, hq⟩ := rdb_some hq
  refine yi_ialoadV dX9_find_28 sh_88 g7 h9 ?_
  obtain ⟨t10, h11, hq⟩ := wrb_some hq
  refine yi_putV (f := 1) (ty := .int) dX9_find_29 (findAt_0 g_z) rfl ok_2 (by decide) w_146 rfl rfl pf_I rfl rfl h11 ?_
  refine xi_aload_n 0 dX9_find_32 rfl ?_
  refine xi_aload_n 1 dX9_find_33 rfl ?_
  refine xi_iload_n 2 dX9_find_34 rfl ?_
  refine xi_aload_n 0 dX9_find_35 rfl ?_
  refine yi_getR (f := 3) dX9_find_36 sh_84 rfl ok_7 (by decide) w_186 rfl ?_
  refine xi_iconst (v := 0) dX9_find_39 (by decide) ?_
  obtain ⟨g12, hq⟩ := chk_some hq
  obtain ⟨v13, h14, hq⟩ := rdb_some hq
  refine yi_ialoadV dX9_find_40 sh_88 g12 h14 ?_
  obtain ⟨v15, t16, k17, hq⟩ := bnd_some hq
  refine xi_callV (as := [.ref x, .int a, .int v13]) (rest := []) dX9_find_41 (KX9_countRows G Gb x a v13 _ _ _ k17) mkX9_countRows w_736 ws_27 w_734 (mem_get sh_84) rfl rfl rfl rfl (Nat.le_of_ble_eq_true rfl) (Nat.le_of_ble_eq_true rfl) (Nat.le_of_ble_eq_true rfl) (Nat.le_of_ble_eq_true rfl) (Nat.le_of_ble_eq_true rfl) ?_
  intro v M2 hz
  obtain ⟨rfl, rfl⟩ := hz
  show xW _ _ _ _ 44 _ [] (mem t16 Gb) _ _
  refine xi_aload_n 3 dX9_find_44 rfl ?_
  refine xi_aload_n 0 dX9_find_45 rfl ?_
  refine yi_getR (f := 4) dX9_find_46 sh_84 rfl ok_7 (by decide) w_187 rfl ?_
  refine xi_iconst (v := 0) dX9_find_49 (by decide) ?_
  obtain ⟨g18, hq⟩ := chk_some hq
  obtain ⟨v19, h20, hq⟩ := rdb_some hq
  refine yi_ialoadV dX9_find_50 sh_89 g18 h20 ?_
  obtain ⟨t21, h22, hq⟩ := wrb_some hq
  refine yi_putV (f := 2) (ty := .int) dX9_find_51 (findAt_0 g_z) rfl ok_2 (by decide) w_149 rfl rfl pf_I rfl rfl h22 ?_
  refine xi_aload_n 3 dX9_find_54 rfl ?_
  refine xi_aload_n 0 dX9_find_55 rfl ?_
  refine xi_aload_n 1 dX9_find_56 rfl ?_
  refine xi_iload_n 2 dX9_find_57 rfl ?_
  refine xi_iconst (v := 0) dX9_find_58 (by decide) ?_
  refine xi_aload_n 0 dX9_find_59 rfl ?_
  refine yi_getR (f := 3) dX9_find_60 sh_84 rfl ok_7 (by decide) w_186 rfl ?_
  refine xi_iconst (v := 0) dX9_find_63 (by decide) ?_
  obtain ⟨g23, hq⟩ := chk_some hq
  obtain ⟨v24, h25, hq⟩ := rdb_some hq
  refine yi_ialoadV dX9_find_64 sh_88 g23 h25 ?_
  obtain ⟨v26, t27, k28, hq⟩ := bnd_some hq
  refine xi_callV (as := [.ref x, .int a, .int 0, .int v24]) (rest := [.ref z]) dX9_find_65 (KX9_leadersFrom G Gb x a (0 : Int32) v24 _ _ _ k28) mkX9_leadersFrom w_744 ws_29 w_742 (mem_get sh_84) rfl rfl rfl rfl (Nat.le_of_ble_eq_true rfl) (Nat.le_of_ble_eq_true rfl) (Nat.le_of_ble_eq_true rfl) (Nat.le_of_ble_eq_true rfl) (Nat.le_of_ble_eq_true rfl) ?_
  intro v M2 hz
  obtain ⟨rfl, rfl⟩ := hz
  show xW _ _ _ _ 68 _ [.int v26, .ref z] (mem t27 Gb) _ _
  obtain ⟨t29, h30, hq⟩ := wrb_some hq
  refine yi_putV (f := 3) (ty := .int) dX9_find_68 (findAt_0 g_z) rfl ok_2 (by decide) w_152 rfl rfl pf_I rfl rfl h30 ?_
  refine xi_iconst (v := 0) dX9_find_71 (by decide) ?_
  refine xi_istore (lv' := [(4, .int 0), (0, .ref 84), (1, .ref x), (2, .int a), (3, .ref z)]) dX9_find_72 (by decide) rfl ?_
  refine xi_iconst (v := 0) dX9_find_74 (by decide) ?_
  refine xi_istore (lv' := [(5, .int 0), (4, .int 0), (0, .ref 84), (1, .ref x), (2, .int a), (3, .ref z)]) dX9_find_75 (by decide) rfl ?_
  refine xi_sub (lv' := [(0, .ref 84), (1, .ref x), (2, .int a), (3, .ref z), (4, .int 0), (5, .int 0)]) [2, 3, 4, 5, 1, 0] rfl ?_
  obtain ⟨e46, t47, k48, hq⟩ := bnd_some hq
  obtain ⟨n49, k48⟩ := wh_itr k48
  refine SX9_find_77_w G Gb x a z g_x g_z r0 t0 n49 ((0 : Int32), (0 : Int32)) t29 _ _ k48 ?_
  show xW G mX9_find (xrm 4 0 0) (xQ G (PV r0 t0 Gb) 0 0) 129 [] [] (mem t47 Gb) 0 0
  have r50 := some_pair hq
  obtain ⟨rfl, rfl⟩ := r50
  exact xi_vret dX9_find_129 rfl (Nat.le_of_ble_eq_true rfl) (Nat.le_of_ble_eq_true rfl) ⟨rfl, rfl⟩
noncomputable def FX9_leastWhere (x : Nat) (a : Int32) (b : Int32) (c : Int32) (σ : St) : Option ((Int32) × St) :=
  (chk (netAt x) (bnd (FX9_fillSteps x b 86 σ) (fun v1 t2 => (bnd (FX9_fillSteps x a 85 t2) (fun v4 t5 => (bnd (FX9_fillRest x a 86 c t5) (fun v7 t8 => (chk (inb (0 : Int32) 512) (rdb t8 88 ((0 : Int32).toNatClampNeg) (fun v11 => (some (v11, t8))))))))))))
set_option maxHeartbeats 4000000 in
set_option maxRecDepth 100000 in
theorem KX9_leastWhere (G : xG) (Gb : xMem) (x : Nat) (a : Int32) (b : Int32) (c : Int32) (σ : St) (r0 : Int32) (t0 : St) (hq : FX9_leastWhere x a b c σ = some (r0, t0)) : xC G mX9_leastWhere 4 0 0 [.ref 84, .ref x, .int a, .int b, .int c] (mem σ Gb) (PQ r0 t0 Gb) := by
  unfold FX9_leastWhere at hq
  refine xC.of (by decide) (Nat.le_of_ble_eq_true rfl) ?_
  show xW _ _ _ _ 0 [(0, .ref 84), (1, .ref x), (2, .int a), (3, .int b), (4, .int c)] [] _ 0 0
  obtain ⟨g_x, hq⟩ := chk_some hq
  refine xi_aload_n 0 dX9_leastWhere_0 rfl ?_
  refine xi_aload_n 1 dX9_leastWhere_1 rfl ?_
  refine xi_iload_n 3 dX9_leastWhere_2 rfl ?_
  refine xi_aload_n 0 dX9_leastWhere_3 rfl ?_
  refine yi_getR (f := 1) dX9_leastWhere_4 sh_84 rfl ok_7 (by decide) w_184 rfl ?_
  obtain ⟨v1, t2, k3, hq⟩ := bnd_some hq
  refine xi_callV (as := [.ref x, .int b, .ref 86]) (rest := []) dX9_leastWhere_7 (KX9_fillSteps G Gb x b 86 _ _ _ k3) mkX9_fillSteps w_707 ws_22 w_705 (mem_get sh_84) rfl rfl rfl rfl (Nat.le_of_ble_eq_true rfl) (Nat.le_of_ble_eq_true rfl) (Nat.le_of_ble_eq_true rfl) (Nat.le_of_ble_eq_true rfl) (Nat.le_of_ble_eq_true rfl) ?_
  intro v M2 hz
  obtain ⟨rfl, rfl⟩ := hz
  show xW _ _ _ _ 10 _ [] (mem t2 Gb) _ _
  refine xi_aload_n 0 dX9_leastWhere_10 rfl ?_
  refine xi_aload_n 1 dX9_leastWhere_11 rfl ?_
  refine xi_iload_n 2 dX9_leastWhere_12 rfl ?_
  refine xi_aload_n 0 dX9_leastWhere_13 rfl ?_
  refine yi_getR (f := 0) dX9_leastWhere_14 sh_84 rfl ok_7 (by decide) w_183 rfl ?_
  obtain ⟨v4, t5, k6, hq⟩ := bnd_some hq
  refine xi_callV (as := [.ref x, .int a, .ref 85]) (rest := []) dX9_leastWhere_17 (KX9_fillSteps G Gb x a 85 _ _ _ k6) mkX9_fillSteps w_707 ws_22 w_705 (mem_get sh_84) rfl rfl rfl rfl (Nat.le_of_ble_eq_true rfl) (Nat.le_of_ble_eq_true rfl) (Nat.le_of_ble_eq_true rfl) (Nat.le_of_ble_eq_true rfl) (Nat.le_of_ble_eq_true rfl) ?_
  intro v M2 hz
  obtain ⟨rfl, rfl⟩ := hz
  show xW _ _ _ _ 20 _ [] (mem t5 Gb) _ _
  refine xi_aload_n 0 dX9_leastWhere_20 rfl ?_
  refine xi_aload_n 1 dX9_leastWhere_21 rfl ?_
  refine xi_iload_n 2 dX9_leastWhere_22 rfl ?_
  refine xi_aload_n 0 dX9_leastWhere_23 rfl ?_
  refine yi_getR (f := 1) dX9_leastWhere_24 sh_84 rfl ok_7 (by decide) w_184 rfl ?_
  refine xi_iload 4 dX9_leastWhere_27 rfl ?_
  obtain ⟨v7, t8, k9, hq⟩ := bnd_some hq
  refine xi_callV (as := [.ref x, .int a, .ref 86, .int c]) (rest := []) dX9_leastWhere_29 (KX9_fillRest G Gb x a 86 c _ _ _ k9) mkX9_fillRest w_730 ws_26 w_728 (mem_get sh_84) rfl rfl rfl rfl (Nat.le_of_ble_eq_true rfl) (Nat.le_of_ble_eq_true rfl) (Nat.le_of_ble_eq_true rfl) (Nat.le_of_ble_eq_true rfl) (Nat.le_of_ble_eq_true rfl) ?_
  intro v M2 hz
  obtain ⟨rfl, rfl⟩ := hz
  show xW _ _ _ _ 32 _ [] (mem t8 Gb) _ _
  refine xi_aload_n 0 dX9_leastWhere_32 rfl ?_
  refine yi_getR (f := 3) dX9_leastWhere_33 sh_84 rfl ok_7 (by decide) w_186 rfl ?_
  refine xi_iconst (v := 0) dX9_leastWhere_36 (by decide) ?_
  obtain ⟨g10, hq⟩ := chk_some hq
  obtain ⟨v11, h12, hq⟩ := rdb_some hq
  refine yi_ialoadV dX9_leastWhere_37 sh_88 g10 h12 ?_
  have r13 := some_pair hq
  obtain ⟨rfl, rfl⟩ := r13
  exact xi_iret dX9_leastWhere_38 rfl rfl (Nat.le_of_ble_eq_true rfl) (Nat.le_of_ble_eq_true rfl) ⟨rfl, rfl⟩
noncomputable def FX9_rowsWithin (x : Nat) (a : Int32) (b : Int32) (σ : St) : Option ((Int32) × St) :=
  (chk (netAt x) (bnd (FX9_fillSteps x a 85 σ) (fun v1 t2 => (bnd (FX9_countRows x a b t2) (fun v4 t5 => (chk (inb (0 : Int32) 512) (rdb t5 89 ((0 : Int32).toNatClampNeg) (fun v8 => (some (v8, t5))))))))))
set_option maxHeartbeats 4000000 in
set_option maxRecDepth 100000 in
theorem KX9_rowsWithin (G : xG) (Gb : xMem) (x : Nat) (a : Int32) (b : Int32) (σ : St) (r0 : Int32) (t0 : St) (hq : FX9_rowsWithin x a b σ = some (r0, t0)) : xC G mX9_rowsWithin 4 0 0 [.ref 84, .ref x, .int a, .int b] (mem σ Gb) (PQ r0 t0 Gb) := by
  unfold FX9_rowsWithin at hq
  refine xC.of (by decide) (Nat.le_of_ble_eq_true rfl) ?_
  show xW _ _ _ _ 0 [(0, .ref 84), (1, .ref x), (2, .int a), (3, .int b)] [] _ 0 0
  obtain ⟨g_x, hq⟩ := chk_some hq
  refine xi_aload_n 0 dX9_rowsWithin_0 rfl ?_
  refine xi_aload_n 1 dX9_rowsWithin_1 rfl ?_
  refine xi_iload_n 2 dX9_rowsWithin_2 rfl ?_
  refine xi_aload_n 0 dX9_rowsWithin_3 rfl ?_
  refine yi_getR (f := 0) dX9_rowsWithin_4 sh_84 rfl ok_7 (by decide) w_183 rfl ?_
  obtain ⟨v1, t2, k3, hq⟩ := bnd_some hq
  refine xi_callV (as := [.ref x, .int a, .ref 85]) (rest := []) dX9_rowsWithin_7 (KX9_fillSteps G Gb x a 85 _ _ _ k3) mkX9_fillSteps w_707 ws_22 w_705 (mem_get sh_84) rfl rfl rfl rfl (Nat.le_of_ble_eq_true rfl) (Nat.le_of_ble_eq_true rfl) (Nat.le_of_ble_eq_true rfl) (Nat.le_of_ble_eq_true rfl) (Nat.le_of_ble_eq_true rfl) ?_
  intro v M2 hz
  obtain ⟨rfl, rfl⟩ := hz
  show xW _ _ _ _ 10 _ [] (mem t2 Gb) _ _
  refine xi_aload_n 0 dX9_rowsWithin_10 rfl ?_
  refine xi_aload_n 1 dX9_rowsWithin_11 rfl ?_
  refine xi_iload_n 2 dX9_rowsWithin_12 rfl ?_
  refine xi_iload_n 3 dX9_rowsWithin_13 rfl ?_
  obtain ⟨v4, t5, k6, hq⟩ := bnd_some hq
  refine xi_callV (as := [.ref x, .int a, .int b]) (rest := []) dX9_rowsWithin_14 (KX9_countRows G Gb x a b _ _ _ k6) mkX9_countRows w_736 ws_27 w_734 (mem_get sh_84) rfl rfl rfl rfl (Nat.le_of_ble_eq_true rfl) (Nat.le_of_ble_eq_true rfl) (Nat.le_of_ble_eq_true rfl) (Nat.le_of_ble_eq_true rfl) (Nat.le_of_ble_eq_true rfl) ?_
  intro v M2 hz
  obtain ⟨rfl, rfl⟩ := hz
  show xW _ _ _ _ 17 _ [] (mem t5 Gb) _ _
  refine xi_aload_n 0 dX9_rowsWithin_17 rfl ?_
  refine yi_getR (f := 4) dX9_rowsWithin_18 sh_84 rfl ok_7 (by decide) w_187 rfl ?_
  refine xi_iconst (v := 0) dX9_rowsWithin_21 (by decide) ?_
  obtain ⟨g7, hq⟩ := chk_some hq
  obtain ⟨v8, h9, hq⟩ := rdb_some hq
  refine yi_ialoadV dX9_rowsWithin_22 sh_89 g7 h9 ?_
  have r10 := some_pair hq
  obtain ⟨rfl, rfl⟩ := r10
  exact xi_iret dX9_rowsWithin_23 rfl rfl (Nat.le_of_ble_eq_true rfl) (Nat.le_of_ble_eq_true rfl) ⟨rfl, rfl⟩
