/-! methods as functions (printed by wip/ext/genall.py) -/
noncomputable def FJ6_bitCount_0f7a4 (a : Int32) (σ : St) : Option ((Int32) × St) :=
  (some (((((((((a - ((ushr a (1 : Int32)) &&& (1431655765 : Int32))) &&& (858993459 : Int32)) + ((ushr (a - ((ushr a (1 : Int32)) &&& (1431655765 : Int32))) (2 : Int32)) &&& (858993459 : Int32))) + (ushr (((a - ((ushr a (1 : Int32)) &&& (1431655765 : Int32))) &&& (858993459 : Int32)) + ((ushr (a - ((ushr a (1 : Int32)) &&& (1431655765 : Int32))) (2 : Int32)) &&& (858993459 : Int32))) (4 : Int32))) &&& (252645135 : Int32)) + (ushr (((((a - ((ushr a (1 : Int32)) &&& (1431655765 : Int32))) &&& (858993459 : Int32)) + ((ushr (a - ((ushr a (1 : Int32)) &&& (1431655765 : Int32))) (2 : Int32)) &&& (858993459 : Int32))) + (ushr (((a - ((ushr a (1 : Int32)) &&& (1431655765 : Int32))) &&& (858993459 : Int32)) + ((ushr (a - ((ushr a (1 : Int32)) &&& (1431655765 : Int32))) (2 : Int32)) &&& (858993459 : Int32))) (4 : Int32))) &&& (252645135 : Int32)) (8 : Int32))) + (ushr ((((((a - ((ushr a (1 : Int32)) &&& (1431655765 : Int32))) &&& (858993459 : Int32)) + ((ushr (a - ((ushr a (1 : Int32)) &&& (1431655765 : Int32))) (2 : Int32)) &&& (858993459 : Int32))) + (ushr (((a - ((ushr a (1 : Int32)) &&& (1431655765 : Int32))) &&& (858993459 : Int32)) + ((ushr (a - ((ushr a (1 : Int32)) &&& (1431655765 : Int32))) (2 : Int32)) &&& (858993459 : Int32))) (4 : Int32))) &&& (252645135 : Int32)) + (ushr (((((a - ((ushr a (1 : Int32)) &&& (1431655765 : Int32))) &&& (858993459 : Int32)) + ((ushr (a - ((ushr a (1 : Int32)) &&& (1431655765 : Int32))) (2 : Int32)) &&& (858993459 : Int32))) + (ushr (((a - ((ushr a (1 : Int32)) &&& (1431655765 : Int32))) &&& (858993459 : Int32)) + ((ushr (a - ((ushr a (1 : Int32)) &&& (1431655765 : Int32))) (2 : Int32)) &&& (858993459 : Int32))) (4 : Int32))) &&& (252645135 : Int32)) (8 : Int32))) (16 : Int32))) &&& (63 : Int32)), σ))
set_option maxHeartbeats 4000000 in
set_option maxRecDepth 100000 in
theorem KJ6_bitCount_0f7a4 (G : xG) (Gb : xMem) (a : Int32) (σ : St) (r0 : Int32) (t0 : St) (hq : FJ6_bitCount_0f7a4 a σ = some (r0, t0)) : xC G mJ6_bitCount_0f7a4 0 0 0 [.int a] (mem σ Gb) (PQ r0 t0 Gb) := by
  unfold FJ6_bitCount_0f7a4 at hq
  refine xC.of (by decide) (Nat.le_of_ble_eq_true rfl) ?_
  show xW _ _ _ _ 0 [(0, .int a)] [] _ 0 0
  refine xi_iload_n 0 dJ6_bitCount_0f7a4_0 rfl ?_
  refine xi_iload_n 0 dJ6_bitCount_0f7a4_1 rfl ?_
  refine xi_iconst (v := 1) dJ6_bitCount_0f7a4_2 (by decide) ?_
  refine xi_iushr (v := ushr a (1 : Int32)) dJ6_bitCount_0f7a4_3 rfl ?_
  refine xi_ldcw (v := 1431655765) dJ6_bitCount_0f7a4_4 w_510 ?_
  refine xi_iand (v := (ushr a (1 : Int32)) &&& (1431655765 : Int32)) dJ6_bitCount_0f7a4_7 rfl ?_
  refine xi_isub (v := a - ((ushr a (1 : Int32)) &&& (1431655765 : Int32))) dJ6_bitCount_0f7a4_8 rfl ?_
  refine xi_istore_n (lv' := [(0, .int (a - ((ushr a (1 : Int32)) &&& (1431655765 : Int32))))]) dJ6_bitCount_0f7a4_9 (by decide) rfl ?_
  refine xi_iload_n 0 dJ6_bitCount_0f7a4_10 rfl ?_
  refine xi_ldcw (v := 858993459) dJ6_bitCount_0f7a4_11 w_511 ?_
  refine xi_iand (v := (a - ((ushr a (1 : Int32)) &&& (1431655765 : Int32))) &&& (858993459 : Int32)) dJ6_bitCount_0f7a4_14 rfl ?_
  refine xi_iload_n 0 dJ6_bitCount_0f7a4_15 rfl ?_
  refine xi_iconst (v := 2) dJ6_bitCount_0f7a4_16 (by decide) ?_
  refine xi_iushr (v := ushr (a - ((ushr a (1 : Int32)) &&& (1431655765 : Int32))) (2 : Int32)) dJ6_bitCount_0f7a4_17 rfl ?_
  refine xi_ldcw (v := 858993459) dJ6_bitCount_0f7a4_18 w_511 ?_
  refine xi_iand (v := (ushr (a - ((ushr a (1 : Int32)) &&& (1431655765 : Int32))) (2 : Int32)) &&& (858993459 : Int32)) dJ6_bitCount_0f7a4_21 rfl ?_
  refine xi_iadd (v := ((a - ((ushr a (1 : Int32)) &&& (1431655765 : Int32))) &&& (858993459 : Int32)) + ((ushr (a - ((ushr a (1 : Int32)) &&& (1431655765 : Int32))) (2 : Int32)) &&& (858993459 : Int32))) dJ6_bitCount_0f7a4_22 rfl ?_
  refine xi_istore_n (lv' := [(0, .int (((a - ((ushr a (1 : Int32)) &&& (1431655765 : Int32))) &&& (858993459 : Int32)) + ((ushr (a - ((ushr a (1 : Int32)) &&& (1431655765 : Int32))) (2 : Int32)) &&& (858993459 : Int32))))]) dJ6_bitCount_0f7a4_23 (by decide) rfl ?_
  refine xi_iload_n 0 dJ6_bitCount_0f7a4_24 rfl ?_
  refine xi_iload_n 0 dJ6_bitCount_0f7a4_25 rfl ?_
  refine xi_iconst (v := 4) dJ6_bitCount_0f7a4_26 (by decide) ?_
  refine xi_iushr (v := ushr (((a - ((ushr a (1 : Int32)) &&& (1431655765 : Int32))) &&& (858993459 : Int32)) + ((ushr (a - ((ushr a (1 : Int32)) &&& (1431655765 : Int32))) (2 : Int32)) &&& (858993459 : Int32))) (4 : Int32)) dJ6_bitCount_0f7a4_27 rfl ?_
  refine xi_iadd (v := (((a - ((ushr a (1 : Int32)) &&& (1431655765 : Int32))) &&& (858993459 : Int32)) + ((ushr (a - ((ushr a (1 : Int32)) &&& (1431655765 : Int32))) (2 : Int32)) &&& (858993459 : Int32))) + (ushr (((a - ((ushr a (1 : Int32)) &&& (1431655765 : Int32))) &&& (858993459 : Int32)) + ((ushr (a - ((ushr a (1 : Int32)) &&& (1431655765 : Int32))) (2 : Int32)) &&& (858993459 : Int32))) (4 : Int32))) dJ6_bitCount_0f7a4_28 rfl ?_
  refine xi_ldcw (v := 252645135) dJ6_bitCount_0f7a4_29 w_512 ?_
  refine xi_iand (v := ((((a - ((ushr a (1 : Int32)) &&& (1431655765 : Int32))) &&& (858993459 : Int32)) + ((ushr (a - ((ushr a (1 : Int32)) &&& (1431655765 : Int32))) (2 : Int32)) &&& (858993459 : Int32))) + (ushr (((a - ((ushr a (1 : Int32)) &&& (1431655765 : Int32))) &&& (858993459 : Int32)) + ((ushr (a - ((ushr a (1 : Int32)) &&& (1431655765 : Int32))) (2 : Int32)) &&& (858993459 : Int32))) (4 : Int32))) &&& (252645135 : Int32)) dJ6_bitCount_0f7a4_32 rfl ?_
  refine xi_istore_n (lv' := [(0, .int (((((a - ((ushr a (1 : Int32)) &&& (1431655765 : Int32))) &&& (858993459 : Int32)) + ((ushr (a - ((ushr a (1 : Int32)) &&& (1431655765 : Int32))) (2 : Int32)) &&& (858993459 : Int32))) + (ushr (((a - ((ushr a (1 : Int32)) &&& (1431655765 : Int32))) &&& (858993459 : Int32)) + ((ushr (a - ((ushr a (1 : Int32)) &&& (1431655765 : Int32))) (2 : Int32)) &&& (858993459 : Int32))) (4 : Int32))) &&& (252645135 : Int32)))]) dJ6_bitCount_0f7a4_33 (by decide) rfl ?_
  refine xi_iload_n 0 dJ6_bitCount_0f7a4_34 rfl ?_
  refine xi_iload_n 0 dJ6_bitCount_0f7a4_35 rfl ?_
  refine xi_bipush (v := 8) dJ6_bitCount_0f7a4_36 (by decide) ?_
  refine xi_iushr (v := ushr (((((a - ((ushr a (1 : Int32)) &&& (1431655765 : Int32))) &&& (858993459 : Int32)) + ((ushr (a - ((ushr a (1 : Int32)) &&& (1431655765 : Int32))) (2 : Int32)) &&& (858993459 : Int32))) + (ushr (((a - ((ushr a (1 : Int32)) &&& (1431655765 : Int32))) &&& (858993459 : Int32)) + ((ushr (a - ((ushr a (1 : Int32)) &&& (1431655765 : Int32))) (2 : Int32)) &&& (858993459 : Int32))) (4 : Int32))) &&& (252645135 : Int32)) (8 : Int32)) dJ6_bitCount_0f7a4_38 rfl ?_
  refine xi_iadd (v := (((((a - ((ushr a (1 : Int32)) &&& (1431655765 : Int32))) &&& (858993459 : Int32)) + ((ushr (a - ((ushr a (1 : Int32)) &&& (1431655765 : Int32))) (2 : Int32)) &&& (858993459 : Int32))) + (ushr (((a - ((ushr a (1 : Int32)) &&& (1431655765 : Int32))) &&& (858993459 : Int32)) + ((ushr (a - ((ushr a (1 : Int32)) &&& (1431655765 : Int32))) (2 : Int32)) &&& (858993459 : Int32))) (4 : Int32))) &&& (252645135 : Int32)) + (ushr (((((a - ((ushr a (1 : Int32)) &&& (1431655765 : Int32))) &&& (858993459 : Int32)) + ((ushr (a - ((ushr a (1 : Int32)) &&& (1431655765 : Int32))) (2 : Int32)) &&& (858993459 : Int32))) + (ushr (((a - ((ushr a (1 : Int32)) &&& (1431655765 : Int32))) &&& (858993459 : Int32)) + ((ushr (a - ((ushr a (1 : Int32)) &&& (1431655765 : Int32))) (2 : Int32)) &&& (858993459 : Int32))) (4 : Int32))) &&& (252645135 : Int32)) (8 : Int32))) dJ6_bitCount_0f7a4_39 rfl ?_
  refine xi_istore_n (lv' := [(0, .int ((((((a - ((ushr a (1 : Int32)) &&& (1431655765 : Int32))) &&& (858993459 : Int32)) + ((ushr (a - ((ushr a (1 : Int32)) &&& (1431655765 : Int32))) (2 : Int32)) &&& (858993459 : Int32))) + (ushr (((a - ((ushr a (1 : Int32)) &&& (1431655765 : Int32))) &&& (858993459 : Int32)) + ((ushr (a - ((ushr a (1 : Int32)) &&& (1431655765 : Int32))) (2 : Int32)) &&& (858993459 : Int32))) (4 : Int32))) &&& (252645135 : Int32)) + (ushr (((((a - ((ushr a (1 : Int32)) &&& (1431655765 : Int32))) &&& (858993459 : Int32)) + ((ushr (a - ((ushr a (1 : Int32)) &&& (1431655765 : Int32))) (2 : Int32)) &&& (858993459 : Int32))) + (ushr (((a - ((ushr a (1 : Int32)) &&& (1431655765 : Int32))) &&& (858993459 : Int32)) + ((ushr (a - ((ushr a (1 : Int32)) &&& (1431655765 : Int32))) (2 : Int32)) &&& (858993459 : Int32))) (4 : Int32))) &&& (252645135 : Int32)) (8 : Int32))))]) dJ6_bitCount_0f7a4_40 (by decide) rfl ?_
  refine xi_iload_n 0 dJ6_bitCount_0f7a4_41 rfl ?_
  refine xi_iload_n 0 dJ6_bitCount_0f7a4_42 rfl ?_
  refine xi_bipush (v := 16) dJ6_bitCount_0f7a4_43 (by decide) ?_
  refine xi_iushr (v := ushr ((((((a - ((ushr a (1 : Int32)) &&& (1431655765 : Int32))) &&& (858993459 : Int32)) + ((ushr (a - ((ushr a (1 : Int32)) &&& (1431655765 : Int32))) (2 : Int32)) &&& (858993459 : Int32))) + (ushr (((a - ((ushr a (1 : Int32)) &&& (1431655765 : Int32))) &&& (858993459 : Int32)) + ((ushr (a - ((ushr a (1 : Int32)) &&& (1431655765 : Int32))) (2 : Int32)) &&& (858993459 : Int32))) (4 : Int32))) &&& (252645135 : Int32)) + (ushr (((((a - ((ushr a (1 : Int32)) &&& (1431655765 : Int32))) &&& (858993459 : Int32)) + ((ushr (a - ((ushr a (1 : Int32)) &&& (1431655765 : Int32))) (2 : Int32)) &&& (858993459 : Int32))) + (ushr (((a - ((ushr a (1 : Int32)) &&& (1431655765 : Int32))) &&& (858993459 : Int32)) + ((ushr (a - ((ushr a (1 : Int32)) &&& (1431655765 : Int32))) (2 : Int32)) &&& (858993459 : Int32))) (4 : Int32))) &&& (252645135 : Int32)) (8 : Int32))) (16 : Int32)) dJ6_bitCount_0f7a4_45 rfl ?_
  refine xi_iadd (v := ((((((a - ((ushr a (1 : Int32)) &&& (1431655765 : Int32))) &&& (858993459 : Int32)) + ((ushr (a - ((ushr a (1 : Int32)) &&& (1431655765 : Int32))) (2 : Int32)) &&& (858993459 : Int32))) + (ushr (((a - ((ushr a (1 : Int32)) &&& (1431655765 : Int32))) &&& (858993459 : Int32)) + ((ushr (a - ((ushr a (1 : Int32)) &&& (1431655765 : Int32))) (2 : Int32)) &&& (858993459 : Int32))) (4 : Int32))) &&& (252645135 : Int32)) + (ushr (((((a - ((ushr a (1 : Int32)) &&& (1431655765 : Int32))) &&& (858993459 : Int32)) + ((ushr (a - ((ushr a (1 : Int32)) &&& (1431655765 : Int32))) (2 : Int32)) &&& (858993459 : Int32))) + (ushr (((a - ((ushr a (1 : Int32)) &&& (1431655765 : Int32))) &&& (858993459 : Int32)) + ((ushr (a - ((ushr a (1 : Int32)) &&& (1431655765 : Int32))) (2 : Int32)) &&& (858993459 : Int32))) (4 : Int32))) &&& (252645135 : Int32)) (8 : Int32))) + (ushr ((((((a - ((ushr a (1 : Int32)) &&& (1431655765 : Int32))) &&& (858993459 : Int32)) + ((ushr (a - ((ushr a (1 : Int32)) &&& (1431655765 : Int32))) (2 : Int32)) &&& (858993459 : Int32))) + (ushr (((a - ((ushr a (1 : Int32)) &&& (1431655765 : Int32))) &&& (858993459 : Int32)) + ((ushr (a - ((ushr a (1 : Int32)) &&& (1431655765 : Int32))) (2 : Int32)) &&& (858993459 : Int32))) (4 : Int32))) &&& (252645135 : Int32)) + (ushr (((((a - ((ushr a (1 : Int32)) &&& (1431655765 : Int32))) &&& (858993459 : Int32)) + ((ushr (a - ((ushr a (1 : Int32)) &&& (1431655765 : Int32))) (2 : Int32)) &&& (858993459 : Int32))) + (ushr (((a - ((ushr a (1 : Int32)) &&& (1431655765 : Int32))) &&& (858993459 : Int32)) + ((ushr (a - ((ushr a (1 : Int32)) &&& (1431655765 : Int32))) (2 : Int32)) &&& (858993459 : Int32))) (4 : Int32))) &&& (252645135 : Int32)) (8 : Int32))) (16 : Int32))) dJ6_bitCount_0f7a4_46 rfl ?_
  refine xi_istore_n (lv' := [(0, .int (((((((a - ((ushr a (1 : Int32)) &&& (1431655765 : Int32))) &&& (858993459 : Int32)) + ((ushr (a - ((ushr a (1 : Int32)) &&& (1431655765 : Int32))) (2 : Int32)) &&& (858993459 : Int32))) + (ushr (((a - ((ushr a (1 : Int32)) &&& (1431655765 : Int32))) &&& (858993459 : Int32)) + ((ushr (a - ((ushr a (1 : Int32)) &&& (1431655765 : Int32))) (2 : Int32)) &&& (858993459 : Int32))) (4 : Int32))) &&& (252645135 : Int32)) + (ushr (((((a - ((ushr a (1 : Int32)) &&& (1431655765 : Int32))) &&& (858993459 : Int32)) + ((ushr (a - ((ushr a (1 : Int32)) &&& (1431655765 : Int32))) (2 : Int32)) &&& (858993459 : Int32))) + (ushr (((a - ((ushr a (1 : Int32)) &&& (1431655765 : Int32))) &&& (858993459 : Int32)) + ((ushr (a - ((ushr a (1 : Int32)) &&& (1431655765 : Int32))) (2 : Int32)) &&& (858993459 : Int32))) (4 : Int32))) &&& (252645135 : Int32)) (8 : Int32))) + (ushr ((((((a - ((ushr a (1 : Int32)) &&& (1431655765 : Int32))) &&& (858993459 : Int32)) + ((ushr (a - ((ushr a (1 : Int32)) &&& (1431655765 : Int32))) (2 : Int32)) &&& (858993459 : Int32))) + (ushr (((a - ((ushr a (1 : Int32)) &&& (1431655765 : Int32))) &&& (858993459 : Int32)) + ((ushr (a - ((ushr a (1 : Int32)) &&& (1431655765 : Int32))) (2 : Int32)) &&& (858993459 : Int32))) (4 : Int32))) &&& (252645135 : Int32)) + (ushr (((((a - ((ushr a (1 : Int32)) &&& (1431655765 : Int32))) &&& (858993459 : Int32)) + ((ushr (a - ((ushr a (1 : Int32)) &&& (1431655765 : Int32))) (2 : Int32)) &&& (858993459 : Int32))) + (ushr (((a - ((ushr a (1 : Int32)) &&& (1431655765 : Int32))) &&& (858993459 : Int32)) + ((ushr (a - ((ushr a (1 : Int32)) &&& (1431655765 : Int32))) (2 : Int32)) &&& (858993459 : Int32))) (4 : Int32))) &&& (252645135 : Int32)) (8 : Int32))) (16 : Int32))))]) dJ6_bitCount_0f7a4_47 (by decide) rfl ?_
  refine xi_iload_n 0 dJ6_bitCount_0f7a4_48 rfl ?_
  refine xi_bipush (v := 63) dJ6_bitCount_0f7a4_49 (by decide) ?_
  refine xi_iand (v := (((((((a - ((ushr a (1 : Int32)) &&& (1431655765 : Int32))) &&& (858993459 : Int32)) + ((ushr (a - ((ushr a (1 : Int32)) &&& (1431655765 : Int32))) (2 : Int32)) &&& (858993459 : Int32))) + (ushr (((a - ((ushr a (1 : Int32)) &&& (1431655765 : Int32))) &&& (858993459 : Int32)) + ((ushr (a - ((ushr a (1 : Int32)) &&& (1431655765 : Int32))) (2 : Int32)) &&& (858993459 : Int32))) (4 : Int32))) &&& (252645135 : Int32)) + (ushr (((((a - ((ushr a (1 : Int32)) &&& (1431655765 : Int32))) &&& (858993459 : Int32)) + ((ushr (a - ((ushr a (1 : Int32)) &&& (1431655765 : Int32))) (2 : Int32)) &&& (858993459 : Int32))) + (ushr (((a - ((ushr a (1 : Int32)) &&& (1431655765 : Int32))) &&& (858993459 : Int32)) + ((ushr (a - ((ushr a (1 : Int32)) &&& (1431655765 : Int32))) (2 : Int32)) &&& (858993459 : Int32))) (4 : Int32))) &&& (252645135 : Int32)) (8 : Int32))) + (ushr ((((((a - ((ushr a (1 : Int32)) &&& (1431655765 : Int32))) &&& (858993459 : Int32)) + ((ushr (a - ((ushr a (1 : Int32)) &&& (1431655765 : Int32))) (2 : Int32)) &&& (858993459 : Int32))) + (ushr (((a - ((ushr a (1 : Int32)) &&& (1431655765 : Int32))) &&& (858993459 : Int32)) + ((ushr (a - ((ushr a (1 : Int32)) &&& (1431655765 : Int32))) (2 : Int32)) &&& (858993459 : Int32))) (4 : Int32))) &&& (252645135 : Int32)) + (ushr (((((a - ((ushr a (1 : Int32)) &&& (1431655765 : Int32))) &&& (858993459 : Int32)) + ((ushr (a - ((ushr a (1 : Int32)) &&& (1431655765 : Int32))) (2 : Int32)) &&& (858993459 : Int32))) + (ushr (((a - ((ushr a (1 : Int32)) &&& (1431655765 : Int32))) &&& (858993459 : Int32)) + ((ushr (a - ((ushr a (1 : Int32)) &&& (1431655765 : Int32))) (2 : Int32)) &&& (858993459 : Int32))) (4 : Int32))) &&& (252645135 : Int32)) (8 : Int32))) (16 : Int32))) &&& (63 : Int32)) dJ6_bitCount_0f7a4_51 rfl ?_
  have r1 := some_pair hq
  obtain ⟨rfl, rfl⟩ := r1
  exact xi_iret dJ6_bitCount_0f7a4_52 rfl rfl (Nat.le_of_ble_eq_true rfl) (Nat.le_of_ble_eq_true rfl) ⟨rfl, rfl⟩
noncomputable def SJ7_fill_53178_5 (x0 : Nat) (w1 : Int32) (w3 : Int32) (c : Int32) (σ : St) : Option (((Int32) ⊕ (Unit)) × St) :=
  (if w3 ≤ c then (some (Sum.inr (), σ)) else (chk (inb c (ilen x0)) (wrb σ x0 (c.toNatClampNeg) w1 (fun t4 => (some (Sum.inl (c + 1), t4))))))
set_option maxHeartbeats 4000000 in
set_option maxRecDepth 100000 in
theorem SJ7_fill_53178_5_w (G : xG) (Gb : xMem) (x0 : Nat) (w1 : Int32) (w3 : Int32) (r0 : Unit) (t0 : St) :
    ∀ (k : Nat) (c : Int32) (σ : St) (r : Unit) (σ' : St), itr (SJ7_fill_53178_5 x0 w1 w3) k c σ = some (r, σ') → (xW G mJ7_fill_53178 (xrm 0 0 0) (xQ G (PV r0 t0 Gb) 0 0) 20 [] [] (mem σ' Gb) 0 0) → xW G mJ7_fill_53178 (xrm 0 0 0) (xQ G (PV r0 t0 Gb) 0 0) 5 [(0, .ref x0), (1, .int w1), (2, .int c), (3, .int w3)] [] (mem σ Gb) 0 0 := by
  intro k
  induction k with
  | zero =>
    intro c σ r σ' h
    exact absurd h (itr_zero _ _ _ _)
  | succ k ih =>
    intro c σ r σ' h HE
    obtain ⟨x, s1, hs, h⟩ := itr_succ h
    unfold SJ7_fill_53178_5 at hs
    refine xi_iload_n 2 dJ7_fill_53178_5 rfl ?_
    refine xi_iload_n 3 dJ7_fill_53178_6 rfl ?_
    refine xi_icmp_ge (tgt := 20) dJ7_fill_53178_7 (by decide) (fun c2 => ?_) (fun c2 => ?_)
    · replace hs := ite_p c2 hs
      refine xi_sub (lv' := []) [] rfl ?_
      obtain ⟨rfl, rfl⟩ := some_pair hs
      obtain ⟨rfl, rfl⟩ := some_pair h
      exact HE
    · replace hs := ite_n c2 hs
      refine xi_aload_n 0 dJ7_fill_53178_10 rfl ?_
      refine xi_iload_n 2 dJ7_fill_53178_11 rfl ?_
      refine xi_iload_n 1 dJ7_fill_53178_12 rfl ?_
      obtain ⟨g3, hs⟩ := chk_some hs
      obtain ⟨t4, h5, hs⟩ := wrb_some hs
      refine yi_iastoreV dJ7_fill_53178_13 (ilen_at g3) g3 h5 ?_
      refine xi_iinc (v := (c + 1)) (lv' := [(2, .int (c + 1)), (0, .ref x0), (1, .int w1), (3, .int w3)]) 2 dJ7_fill_53178_14 rfl rfl (by decide) rfl ?_
      refine xi_goto (tgt := 5) dJ7_fill_53178_17 (by decide) ?_
      refine xi_sub (lv' := [(0, .ref x0), (1, .int w1), (2, .int (c + 1)), (3, .int w3)]) [1, 2, 0, 3] rfl ?_
      obtain ⟨rfl, rfl⟩ := some_pair hs
      exact ih (c + 1) t4 _ _ h HE
noncomputable def FJ7_fill_53178 (t : Nat) (a : Int32) (σ : St) : Option ((Unit) × St) :=
  (chk (inb 0 (ilen t)) (bnd (wh (SJ7_fill_53178_5 t a (Int32.ofNat (ilen t))) (0 : Int32) σ) (fun e6 t7 => (some ((), t7)))))
set_option maxHeartbeats 4000000 in
set_option maxRecDepth 100000 in
theorem KJ7_fill_53178 (G : xG) (Gb : xMem) (t : Nat) (a : Int32) (σ : St) (r0 : Unit) (t0 : St) (hq : FJ7_fill_53178 t a σ = some (r0, t0)) : xC G mJ7_fill_53178 0 0 0 [.ref t, .int a] (mem σ Gb) (PV r0 t0 Gb) := by
  unfold FJ7_fill_53178 at hq
  refine xC.of (by decide) (Nat.le_of_ble_eq_true rfl) ?_
  show xW _ _ _ _ 0 [(0, .ref t), (1, .int a)] [] _ 0 0
  refine xi_iconst (v := 0) dJ7_fill_53178_0 (by decide) ?_
  refine xi_istore_n (lv' := [(2, .int 0), (0, .ref t), (1, .int a)]) dJ7_fill_53178_1 (by decide) rfl ?_
  refine xi_aload_n 1 dJ7_fill_53178_2 rfl ?_
  obtain ⟨g1, hq⟩ := chk_some hq
  refine yi_alen dJ7_fill_53178_3 (ilen_at g1) rfl ?_
  refine xi_istore_n (lv' := [(3, .int (Int32.ofNat (ilen t))), (2, .int 0), (0, .ref t), (1, .int a)]) dJ7_fill_53178_4 (by decide) rfl ?_
  refine xi_sub (lv' := [(0, .ref t), (1, .int a), (2, .int 0), (3, .int (Int32.ofNat (ilen t)))]) [2, 3, 1, 0] rfl ?_
  obtain ⟨e6, t7, k8, hq⟩ := bnd_some hq
  obtain ⟨n9, k8⟩ := wh_itr k8
  refine SJ7_fill_53178_5_w G Gb t a (Int32.ofNat (ilen t)) r0 t0 n9 (0 : Int32) σ _ _ k8 ?_
  show xW G mJ7_fill_53178 (xrm 0 0 0) (xQ G (PV r0 t0 Gb) 0 0) 20 [] [] (mem t7 Gb) 0 0
  have r10 := some_pair hq
  obtain ⟨rfl, rfl⟩ := r10
  exact xi_vret dJ7_fill_53178_20 rfl (Nat.le_of_ble_eq_true rfl) (Nat.le_of_ble_eq_true rfl) ⟨rfl, rfl⟩
noncomputable def FX1_at_1 (a : Int32) (σ : St) : Option ((Int32) × St) :=
  (if a < (0 : Int32) then (some ((-1 : Int32), σ)) else (rdb σ 1 (1) (fun v3 => (if v3 ≤ a then (some ((-1 : Int32), σ)) else (chk (inb a 400) (rdb σ 2 (a.toNatClampNeg) (fun v8 => (some ((v8 &&& (255 : Int32)), σ)))))))))
set_option maxHeartbeats 4000000 in
set_option maxRecDepth 100000 in
theorem KX1_at_1 (G : xG) (Gb : xMem) (a : Int32) (σ : St) (r0 : Int32) (t0 : St) (hq : FX1_at_1 a σ = some (r0, t0)) : xC G mX1_at 0 0 0 [.ref 1, .int a] (mem σ Gb) (PQ r0 t0 Gb) := by
  unfold FX1_at_1 at hq
  refine xC.of (by decide) (Nat.le_of_ble_eq_true rfl) ?_
  show xW _ _ _ _ 0 [(0, .ref 1), (1, .int a)] [] _ 0 0
  refine xi_iload_n 1 dX1_at_0 rfl ?_
  refine xi_if_lt (tgt := 25) dX1_at_1 (by decide) (fun c1 => ?_) (fun c1 => ?_)
  · replace hq := ite_p c1 hq
    refine xi_iconst (v := (-1)) dX1_at_25 (by decide) ?_
    have r2 := some_pair hq
    obtain ⟨rfl, rfl⟩ := r2
    exact xi_iret dX1_at_26 rfl rfl (Nat.le_of_ble_eq_true rfl) (Nat.le_of_ble_eq_true rfl) ⟨rfl, rfl⟩
  · replace hq := ite_n c1 hq
    refine xi_iload_n 1 dX1_at_4 rfl ?_
    refine xi_aload_n 0 dX1_at_5 rfl ?_
    obtain ⟨v3, h4, hq⟩ := rdb_some hq
    refine yi_getV (f := 1) dX1_at_6 sh_1 rfl ok_1 (by decide) w_40 rfl h4 ?_
    refine xi_icmp_ge (tgt := 25) dX1_at_9 (by decide) (fun c5 => ?_) (fun c5 => ?_)
    · replace hq := ite_p c5 hq
      refine xi_iconst (v := (-1)) dX1_at_25 (by decide) ?_
      have r6 := some_pair hq
      obtain ⟨rfl, rfl⟩ := r6
      exact xi_iret dX1_at_26 rfl rfl (Nat.le_of_ble_eq_true rfl) (Nat.le_of_ble_eq_true rfl) ⟨rfl, rfl⟩
    · replace hq := ite_n c5 hq
      refine xi_aload_n 0 dX1_at_12 rfl ?_
      refine yi_getR (f := 0) dX1_at_13 sh_1 rfl ok_1 (by decide) w_39 rfl ?_
      refine xi_iload_n 1 dX1_at_16 rfl ?_
      obtain ⟨g7, hq⟩ := chk_some hq
      obtain ⟨v8, h9, hq⟩ := rdb_some hq
      refine yi_baloadV dX1_at_17 sh_2 g7 h9 ?_
      refine xi_sipush (v := 255) dX1_at_18 (by decide) ?_
      refine xi_iand (v := v8 &&& (255 : Int32)) dX1_at_21 rfl ?_
      refine xi_goto (tgt := 26) dX1_at_22 (by decide) ?_
      have r10 := some_pair hq
      obtain ⟨rfl, rfl⟩ := r10
      exact xi_iret dX1_at_26 rfl rfl (Nat.le_of_ble_eq_true rfl) (Nat.le_of_ble_eq_true rfl) ⟨rfl, rfl⟩
noncomputable def FX1_at_3 (a : Int32) (σ : St) : Option ((Int32) × St) :=
  (if a < (0 : Int32) then (some ((-1 : Int32), σ)) else (rdb σ 3 (1) (fun v3 => (if v3 ≤ a then (some ((-1 : Int32), σ)) else (chk (inb a 256) (rdb σ 4 (a.toNatClampNeg) (fun v8 => (some ((v8 &&& (255 : Int32)), σ)))))))))
set_option maxHeartbeats 4000000 in
set_option maxRecDepth 100000 in
theorem KX1_at_3 (G : xG) (Gb : xMem) (a : Int32) (σ : St) (r0 : Int32) (t0 : St) (hq : FX1_at_3 a σ = some (r0, t0)) : xC G mX1_at 0 0 0 [.ref 3, .int a] (mem σ Gb) (PQ r0 t0 Gb) := by
  unfold FX1_at_3 at hq
  refine xC.of (by decide) (Nat.le_of_ble_eq_true rfl) ?_
  show xW _ _ _ _ 0 [(0, .ref 3), (1, .int a)] [] _ 0 0
  refine xi_iload_n 1 dX1_at_0 rfl ?_
  refine xi_if_lt (tgt := 25) dX1_at_1 (by decide) (fun c1 => ?_) (fun c1 => ?_)
  · replace hq := ite_p c1 hq
    refine xi_iconst (v := (-1)) dX1_at_25 (by decide) ?_
    have r2 := some_pair hq
    obtain ⟨rfl, rfl⟩ := r2
    exact xi_iret dX1_at_26 rfl rfl (Nat.le_of_ble_eq_true rfl) (Nat.le_of_ble_eq_true rfl) ⟨rfl, rfl⟩
  · replace hq := ite_n c1 hq
    refine xi_iload_n 1 dX1_at_4 rfl ?_
    refine xi_aload_n 0 dX1_at_5 rfl ?_
    obtain ⟨v3, h4, hq⟩ := rdb_some hq
    refine yi_getV (f := 1) dX1_at_6 sh_3 rfl ok_1 (by decide) w_40 rfl h4 ?_
    refine xi_icmp_ge (tgt := 25) dX1_at_9 (by decide) (fun c5 => ?_) (fun c5 => ?_)
    · replace hq := ite_p c5 hq
      refine xi_iconst (v := (-1)) dX1_at_25 (by decide) ?_
      have r6 := some_pair hq
      obtain ⟨rfl, rfl⟩ := r6
      exact xi_iret dX1_at_26 rfl rfl (Nat.le_of_ble_eq_true rfl) (Nat.le_of_ble_eq_true rfl) ⟨rfl, rfl⟩
    · replace hq := ite_n c5 hq
      refine xi_aload_n 0 dX1_at_12 rfl ?_
      refine yi_getR (f := 0) dX1_at_13 sh_3 rfl ok_1 (by decide) w_39 rfl ?_
      refine xi_iload_n 1 dX1_at_16 rfl ?_
      obtain ⟨g7, hq⟩ := chk_some hq
      obtain ⟨v8, h9, hq⟩ := rdb_some hq
      refine yi_baloadV dX1_at_17 sh_4 g7 h9 ?_
      refine xi_sipush (v := 255) dX1_at_18 (by decide) ?_
      refine xi_iand (v := v8 &&& (255 : Int32)) dX1_at_21 rfl ?_
      refine xi_goto (tgt := 26) dX1_at_22 (by decide) ?_
      have r10 := some_pair hq
      obtain ⟨rfl, rfl⟩ := r10
      exact xi_iret dX1_at_26 rfl rfl (Nat.le_of_ble_eq_true rfl) (Nat.le_of_ble_eq_true rfl) ⟨rfl, rfl⟩
noncomputable def FX1_hasRoom_1 (a : Int32) (σ : St) : Option ((Int32) × St) :=
  (rdb σ 1 (1) (fun v1 => (if (Int32.ofNat 400) < (v1 + a) then (some ((0 : Int32), σ)) else (some ((1 : Int32), σ)))))
set_option maxHeartbeats 4000000 in
set_option maxRecDepth 100000 in
theorem KX1_hasRoom_1 (G : xG) (Gb : xMem) (a : Int32) (σ : St) (r0 : Int32) (t0 : St) (hq : FX1_hasRoom_1 a σ = some (r0, t0)) : xC G mX1_hasRoom 0 0 0 [.ref 1, .int a] (mem σ Gb) (PQ r0 t0 Gb) := by
  unfold FX1_hasRoom_1 at hq
  refine xC.of (by decide) (Nat.le_of_ble_eq_true rfl) ?_
  show xW _ _ _ _ 0 [(0, .ref 1), (1, .int a)] [] _ 0 0
  refine xi_aload_n 0 dX1_hasRoom_0 rfl ?_
  obtain ⟨v1, h2, hq⟩ := rdb_some hq
  refine yi_getV (f := 1) dX1_hasRoom_1 sh_1 rfl ok_1 (by decide) w_40 rfl h2 ?_
  refine xi_iload_n 1 dX1_hasRoom_4 rfl ?_
  refine xi_iadd (v := v1 + a) dX1_hasRoom_5 rfl ?_
  refine xi_aload_n 0 dX1_hasRoom_6 rfl ?_
  refine yi_getR (f := 0) dX1_hasRoom_7 sh_1 rfl ok_1 (by decide) w_39 rfl ?_
  refine yi_alen dX1_hasRoom_10 sh_2 rfl ?_
  refine xi_icmp_gt (tgt := 18) dX1_hasRoom_11 (by decide) (fun c3 => ?_) (fun c3 => ?_)
  · replace hq := ite_p c3 hq
    refine xi_iconst (v := 0) dX1_hasRoom_18 (by decide) ?_
    have r4 := some_pair hq
    obtain ⟨rfl, rfl⟩ := r4
    exact xi_iret dX1_hasRoom_19 rfl (by decide) (Nat.le_of_ble_eq_true rfl) (Nat.le_of_ble_eq_true rfl) ⟨rfl, rfl⟩
  · replace hq := ite_n c3 hq
    refine xi_iconst (v := 1) dX1_hasRoom_14 (by decide) ?_
    refine xi_goto (tgt := 19) dX1_hasRoom_15 (by decide) ?_
    have r5 := some_pair hq
    obtain ⟨rfl, rfl⟩ := r5
    exact xi_iret dX1_hasRoom_19 rfl (by decide) (Nat.le_of_ble_eq_true rfl) (Nat.le_of_ble_eq_true rfl) ⟨rfl, rfl⟩
noncomputable def FX1_hasRoom_3 (a : Int32) (σ : St) : Option ((Int32) × St) :=
  (rdb σ 3 (1) (fun v1 => (if (Int32.ofNat 256) < (v1 + a) then (some ((0 : Int32), σ)) else (some ((1 : Int32), σ)))))
set_option maxHeartbeats 4000000 in
set_option maxRecDepth 100000 in
theorem KX1_hasRoom_3 (G : xG) (Gb : xMem) (a : Int32) (σ : St) (r0 : Int32) (t0 : St) (hq : FX1_hasRoom_3 a σ = some (r0, t0)) : xC G mX1_hasRoom 0 0 0 [.ref 3, .int a] (mem σ Gb) (PQ r0 t0 Gb) := by
  unfold FX1_hasRoom_3 at hq
  refine xC.of (by decide) (Nat.le_of_ble_eq_true rfl) ?_
  show xW _ _ _ _ 0 [(0, .ref 3), (1, .int a)] [] _ 0 0
  refine xi_aload_n 0 dX1_hasRoom_0 rfl ?_
  obtain ⟨v1, h2, hq⟩ := rdb_some hq
  refine yi_getV (f := 1) dX1_hasRoom_1 sh_3 rfl ok_1 (by decide) w_40 rfl h2 ?_
  refine xi_iload_n 1 dX1_hasRoom_4 rfl ?_
  refine xi_iadd (v := v1 + a) dX1_hasRoom_5 rfl ?_
  refine xi_aload_n 0 dX1_hasRoom_6 rfl ?_
  refine yi_getR (f := 0) dX1_hasRoom_7 sh_3 rfl ok_1 (by decide) w_39 rfl ?_
  refine yi_alen dX1_hasRoom_10 sh_4 rfl ?_
  refine xi_icmp_gt (tgt := 18) dX1_hasRoom_11 (by decide) (fun c3 => ?_) (fun c3 => ?_)
  · replace hq := ite_p c3 hq
    refine xi_iconst (v := 0) dX1_hasRoom_18 (by decide) ?_
    have r4 := some_pair hq
    obtain ⟨rfl, rfl⟩ := r4
    exact xi_iret dX1_hasRoom_19 rfl (by decide) (Nat.le_of_ble_eq_true rfl) (Nat.le_of_ble_eq_true rfl) ⟨rfl, rfl⟩
  · replace hq := ite_n c3 hq
    refine xi_iconst (v := 1) dX1_hasRoom_14 (by decide) ?_
    refine xi_goto (tgt := 19) dX1_hasRoom_15 (by decide) ?_
    have r5 := some_pair hq
    obtain ⟨rfl, rfl⟩ := r5
    exact xi_iret dX1_hasRoom_19 rfl (by decide) (Nat.le_of_ble_eq_true rfl) (Nat.le_of_ble_eq_true rfl) ⟨rfl, rfl⟩
noncomputable def FX1_put_1 (a : Int32) (σ : St) : Option ((Unit) × St) :=
  (bnd (FX1_hasRoom_1 (1 : Int32) σ) (fun v1 t2 => (if v1 = (0 : Int32) then (some ((), t2)) else (rdb t2 1 (1) (fun v6 => (chk (inb v6 400) (wrb t2 2 (v6.toNatClampNeg) a.toInt8.toInt32.toInt8.toInt32 (fun t9 => (rdb t9 1 (1) (fun v11 => (wrb t9 1 (1) (v11 + (1 : Int32)) (fun t13 => (some ((), t13))))))))))))))
set_option maxHeartbeats 4000000 in
set_option maxRecDepth 100000 in
theorem KX1_put_1 (G : xG) (Gb : xMem) (a : Int32) (σ : St) (r0 : Unit) (t0 : St) (hq : FX1_put_1 a σ = some (r0, t0)) : xC G mX1_put 1 0 0 [.ref 1, .int a] (mem σ Gb) (PV r0 t0 Gb) := by
  unfold FX1_put_1 at hq
  refine xC.of (by decide) (Nat.le_of_ble_eq_true rfl) ?_
  show xW _ _ _ _ 0 [(0, .ref 1), (1, .int a)] [] _ 0 0
  refine xi_aload_n 0 dX1_put_0 rfl ?_
  refine xi_iconst (v := 1) dX1_put_1 (by decide) ?_
  obtain ⟨v1, t2, k3, hq⟩ := bnd_some hq
  refine xi_callV (as := [.int 1]) (rest := []) dX1_put_2 (KX1_hasRoom_1 G Gb (1 : Int32) _ _ _ k3) mkX1_hasRoom w_278 w_279 w_289 (mem_get sh_1) rfl rfl rfl rfl (Nat.le_of_ble_eq_true rfl) (Nat.le_of_ble_eq_true rfl) (Nat.le_of_ble_eq_true rfl) (Nat.le_of_ble_eq_true rfl) (Nat.le_of_ble_eq_true rfl) ?_
  intro v M2 hz
  obtain ⟨rfl, rfl⟩ := hz
  show xW _ _ _ _ 5 _ [.int v1] (mem t2 Gb) _ _
  refine xi_if_eq (tgt := 29) dX1_put_5 (by decide) (fun c4 => ?_) (fun c4 => ?_)
  · replace hq := ite_p c4 hq
    have r5 := some_pair hq
    obtain ⟨rfl, rfl⟩ := r5
    exact xi_vret dX1_put_29 rfl (Nat.le_of_ble_eq_true rfl) (Nat.le_of_ble_eq_true rfl) ⟨rfl, rfl⟩
  · replace hq := ite_n c4 hq
    refine xi_aload_n 0 dX1_put_8 rfl ?_
    refine yi_getR (f := 0) dX1_put_9 sh_1 rfl ok_1 (by decide) w_39 rfl ?_
    refine xi_aload_n 0 dX1_put_12 rfl ?_
    obtain ⟨v6, h7, hq⟩ := rdb_some hq
    refine yi_getV (f := 1) dX1_put_13 sh_1 rfl ok_1 (by decide) w_40 rfl h7 ?_
    refine xi_iload_n 1 dX1_put_16 rfl ?_
    refine xi_i2b dX1_put_17 rfl ?_
    obtain ⟨g8, hq⟩ := chk_some hq
    obtain ⟨t9, h10, hq⟩ := wrb_some hq
    refine yi_bastoreV dX1_put_18 sh_2 g8 h10 ?_
    refine xi_aload_n 0 dX1_put_19 rfl ?_
    refine xi_dup dX1_put_20 rfl ?_
    obtain ⟨v11, h12, hq⟩ := rdb_some hq
    refine yi_getV (f := 1) dX1_put_21 sh_1 rfl ok_1 (by decide) w_40 rfl h12 ?_
    refine xi_iconst (v := 1) dX1_put_24 (by decide) ?_
    refine xi_iadd (v := v11 + (1 : Int32)) dX1_put_25 rfl ?_
    obtain ⟨t13, h14, hq⟩ := wrb_some hq
    refine yi_putV (f := 1) (ty := .int) dX1_put_26 sh_1 rfl ok_1 (by decide) w_40 rfl rfl pf_I rfl rfl h14 ?_
    have r15 := some_pair hq
    obtain ⟨rfl, rfl⟩ := r15
    exact xi_vret dX1_put_29 rfl (Nat.le_of_ble_eq_true rfl) (Nat.le_of_ble_eq_true rfl) ⟨rfl, rfl⟩
noncomputable def FX1_put_3 (a : Int32) (σ : St) : Option ((Unit) × St) :=
  (bnd (FX1_hasRoom_3 (1 : Int32) σ) (fun v1 t2 => (if v1 = (0 : Int32) then (some ((), t2)) else (rdb t2 3 (1) (fun v6 => (chk (inb v6 256) (wrb t2 4 (v6.toNatClampNeg) a.toInt8.toInt32.toInt8.toInt32 (fun t9 => (rdb t9 3 (1) (fun v11 => (wrb t9 3 (1) (v11 + (1 : Int32)) (fun t13 => (some ((), t13))))))))))))))
set_option maxHeartbeats 4000000 in
set_option maxRecDepth 100000 in
theorem KX1_put_3 (G : xG) (Gb : xMem) (a : Int32) (σ : St) (r0 : Unit) (t0 : St) (hq : FX1_put_3 a σ = some (r0, t0)) : xC G mX1_put 1 0 0 [.ref 3, .int a] (mem σ Gb) (PV r0 t0 Gb) := by
  unfold FX1_put_3 at hq
  refine xC.of (by decide) (Nat.le_of_ble_eq_true rfl) ?_
  show xW _ _ _ _ 0 [(0, .ref 3), (1, .int a)] [] _ 0 0
  refine xi_aload_n 0 dX1_put_0 rfl ?_
  refine xi_iconst (v := 1) dX1_put_1 (by decide) ?_
  obtain ⟨v1, t2, k3, hq⟩ := bnd_some hq
  refine xi_callV (as := [.int 1]) (rest := []) dX1_put_2 (KX1_hasRoom_3 G Gb (1 : Int32) _ _ _ k3) mkX1_hasRoom w_278 w_279 w_289 (mem_get sh_3) rfl rfl rfl rfl (Nat.le_of_ble_eq_true rfl) (Nat.le_of_ble_eq_true rfl) (Nat.le_of_ble_eq_true rfl) (Nat.le_of_ble_eq_true rfl) (Nat.le_of_ble_eq_true rfl) ?_
  intro v M2 hz
  obtain ⟨rfl, rfl⟩ := hz
  show xW _ _ _ _ 5 _ [.int v1] (mem t2 Gb) _ _
  refine xi_if_eq (tgt := 29) dX1_put_5 (by decide) (fun c4 => ?_) (fun c4 => ?_)
  · replace hq := ite_p c4 hq
    have r5 := some_pair hq
    obtain ⟨rfl, rfl⟩ := r5
    exact xi_vret dX1_put_29 rfl (Nat.le_of_ble_eq_true rfl) (Nat.le_of_ble_eq_true rfl) ⟨rfl, rfl⟩
  · replace hq := ite_n c4 hq
    refine xi_aload_n 0 dX1_put_8 rfl ?_
    refine yi_getR (f := 0) dX1_put_9 sh_3 rfl ok_1 (by decide) w_39 rfl ?_
    refine xi_aload_n 0 dX1_put_12 rfl ?_
    obtain ⟨v6, h7, hq⟩ := rdb_some hq
    refine yi_getV (f := 1) dX1_put_13 sh_3 rfl ok_1 (by decide) w_40 rfl h7 ?_
    refine xi_iload_n 1 dX1_put_16 rfl ?_
    refine xi_i2b dX1_put_17 rfl ?_
    obtain ⟨g8, hq⟩ := chk_some hq
    obtain ⟨t9, h10, hq⟩ := wrb_some hq
    refine yi_bastoreV dX1_put_18 sh_4 g8 h10 ?_
    refine xi_aload_n 0 dX1_put_19 rfl ?_
    refine xi_dup dX1_put_20 rfl ?_
    obtain ⟨v11, h12, hq⟩ := rdb_some hq
    refine yi_getV (f := 1) dX1_put_21 sh_3 rfl ok_1 (by decide) w_40 rfl h12 ?_
    refine xi_iconst (v := 1) dX1_put_24 (by decide) ?_
    refine xi_iadd (v := v11 + (1 : Int32)) dX1_put_25 rfl ?_
    obtain ⟨t13, h14, hq⟩ := wrb_some hq
    refine yi_putV (f := 1) (ty := .int) dX1_put_26 sh_3 rfl ok_1 (by decide) w_40 rfl rfl pf_I rfl rfl h14 ?_
    have r15 := some_pair hq
    obtain ⟨rfl, rfl⟩ := r15
    exact xi_vret dX1_put_29 rfl (Nat.le_of_ble_eq_true rfl) (Nat.le_of_ble_eq_true rfl) ⟨rfl, rfl⟩
noncomputable def FX1_putFour_1 (a : Int32) (σ : St) : Option ((Unit) × St) :=
  (bnd (FX1_put_1 (ushr a (24 : Int32)) σ) (fun v1 t2 => (bnd (FX1_put_1 (ushr a (16 : Int32)) t2) (fun v4 t5 => (bnd (FX1_put_1 (ushr a (8 : Int32)) t5) (fun v7 t8 => (bnd (FX1_put_1 a t8) (fun v10 t11 => (some ((), t11))))))))))
set_option maxHeartbeats 4000000 in
set_option maxRecDepth 100000 in
theorem KX1_putFour_1 (G : xG) (Gb : xMem) (a : Int32) (σ : St) (r0 : Unit) (t0 : St) (hq : FX1_putFour_1 a σ = some (r0, t0)) : xC G mX1_putFour 2 0 0 [.ref 1, .int a] (mem σ Gb) (PV r0 t0 Gb) := by
  unfold FX1_putFour_1 at hq
  refine xC.of (by decide) (Nat.le_of_ble_eq_true rfl) ?_
  show xW _ _ _ _ 0 [(0, .ref 1), (1, .int a)] [] _ 0 0
  refine xi_aload_n 0 dX1_putFour_0 rfl ?_
  refine xi_iload_n 1 dX1_putFour_1 rfl ?_
  refine xi_bipush (v := 24) dX1_putFour_2 (by decide) ?_
  refine xi_iushr (v := ushr a (24 : Int32)) dX1_putFour_4 rfl ?_
  obtain ⟨v1, t2, k3, hq⟩ := bnd_some hq
  refine xi_callV (as := [.int (ushr a (24 : Int32))]) (rest := []) dX1_putFour_5 (KX1_put_1 G Gb (ushr a (24 : Int32)) _ _ _ k3) mkX1_put w_286 w_287 w_285 (mem_get sh_1) rfl rfl rfl rfl (Nat.le_of_ble_eq_true rfl) (Nat.le_of_ble_eq_true rfl) (Nat.le_of_ble_eq_true rfl) (Nat.le_of_ble_eq_true rfl) (Nat.le_of_ble_eq_true rfl) ?_
  intro v M2 hz
  obtain ⟨rfl, rfl⟩ := hz
  show xW _ _ _ _ 8 _ [] (mem t2 Gb) _ _
  refine xi_aload_n 0 dX1_putFour_8 rfl ?_
  refine xi_iload_n 1 dX1_putFour_9 rfl ?_
  refine xi_bipush (v := 16) dX1_putFour_10 (by decide) ?_
  refine xi_iushr (v := ushr a (16 : Int32)) dX1_putFour_12 rfl ?_
  obtain ⟨v4, t5, k6, hq⟩ := bnd_some hq
  refine xi_callV (as := [.int (ushr a (16 : Int32))]) (rest := []) dX1_putFour_13 (KX1_put_1 G Gb (ushr a (16 : Int32)) _ _ _ k6) mkX1_put w_286 w_287 w_285 (mem_get sh_1) rfl rfl rfl rfl (Nat.le_of_ble_eq_true rfl) (Nat.le_of_ble_eq_true rfl) (Nat.le_of_ble_eq_true rfl) (Nat.le_of_ble_eq_true rfl) (Nat.le_of_ble_eq_true rfl) ?_
  intro v M2 hz
  obtain ⟨rfl, rfl⟩ := hz
  show xW _ _ _ _ 16 _ [] (mem t5 Gb) _ _
  refine xi_aload_n 0 dX1_putFour_16 rfl ?_
  refine xi_iload_n 1 dX1_putFour_17 rfl ?_
  refine xi_bipush (v := 8) dX1_putFour_18 (by decide) ?_
  refine xi_iushr (v := ushr a (8 : Int32)) dX1_putFour_20 rfl ?_
  obtain ⟨v7, t8, k9, hq⟩ := bnd_some hq
  refine xi_callV (as := [.int (ushr a (8 : Int32))]) (rest := []) dX1_putFour_21 (KX1_put_1 G Gb (ushr a (8 : Int32)) _ _ _ k9) mkX1_put w_286 w_287 w_285 (mem_get sh_1) rfl rfl rfl rfl (Nat.le_of_ble_eq_true rfl) (Nat.le_of_ble_eq_true rfl) (Nat.le_of_ble_eq_true rfl) (Nat.le_of_ble_eq_true rfl) (Nat.le_of_ble_eq_true rfl) ?_
  intro v M2 hz
  obtain ⟨rfl, rfl⟩ := hz
  show xW _ _ _ _ 24 _ [] (mem t8 Gb) _ _
  refine xi_aload_n 0 dX1_putFour_24 rfl ?_
  refine xi_iload_n 1 dX1_putFour_25 rfl ?_
  obtain ⟨v10, t11, k12, hq⟩ := bnd_some hq
  refine xi_callV (as := [.int a]) (rest := []) dX1_putFour_26 (KX1_put_1 G Gb a _ _ _ k12) mkX1_put w_286 w_287 w_285 (mem_get sh_1) rfl rfl rfl rfl (Nat.le_of_ble_eq_true rfl) (Nat.le_of_ble_eq_true rfl) (Nat.le_of_ble_eq_true rfl) (Nat.le_of_ble_eq_true rfl) (Nat.le_of_ble_eq_true rfl) ?_
  intro v M2 hz
  obtain ⟨rfl, rfl⟩ := hz
  show xW _ _ _ _ 29 _ [] (mem t11 Gb) _ _
  have r13 := some_pair hq
  obtain ⟨rfl, rfl⟩ := r13
  exact xi_vret dX1_putFour_29 rfl (Nat.le_of_ble_eq_true rfl) (Nat.le_of_ble_eq_true rfl) ⟨rfl, rfl⟩
noncomputable def FX1_putNumber_3 (a : Int32) (σ : St) : Option ((Unit) × St) :=
  (bnd (if a < (100 : Int32) then (some ((), σ)) else (bnd (FX1_put_3 ((48 : Int32) + (irem (a / (100 : Int32)) (10 : Int32))) σ) (fun v18 t19 => (some ((), t19))))) (fun v2 t3 => (bnd (if a < (10 : Int32) then (some ((), t3)) else (bnd (FX1_put_3 ((48 : Int32) + (irem (a / (10 : Int32)) (10 : Int32))) t3) (fun v15 t16 => (some ((), t16))))) (fun v7 t8 => (bnd (FX1_put_3 ((48 : Int32) + (irem a (10 : Int32))) t8) (fun v11 t12 => (some ((), t12))))))))
set_option maxHeartbeats 4000000 in
set_option maxRecDepth 100000 in
theorem KX1_putNumber_3 (G : xG) (Gb : xMem) (a : Int32) (σ : St) (r0 : Unit) (t0 : St) (hq : FX1_putNumber_3 a σ = some (r0, t0)) : xC G mX1_putNumber 2 0 0 [.ref 3, .int a] (mem σ Gb) (PV r0 t0 Gb) := by
  unfold FX1_putNumber_3 at hq
  refine xC.of (by decide) (Nat.le_of_ble_eq_true rfl) ?_
  show xW _ _ _ _ 0 [(0, .ref 3), (1, .int a)] [] _ 0 0
  refine xi_iload_n 1 dX1_putNumber_0 rfl ?_
  refine xi_bipush (v := 100) dX1_putNumber_1 (by decide) ?_
  obtain ⟨v2, t3, m4, hq⟩ := bnd_some hq
  have key5 : xW G mX1_putNumber (xrm 2 0 0) (xQ G (PV r0 t0 Gb) 0 0) 20 [(0, .ref 3), (1, .int a)] [] (mem t3 Gb) 0 0 := by
    refine xi_iload_n 1 dX1_putNumber_20 rfl ?_
    refine xi_bipush (v := 10) dX1_putNumber_21 (by decide) ?_
    obtain ⟨v7, t8, m9, hq⟩ := bnd_some hq
    have key10 : xW G mX1_putNumber (xrm 2 0 0) (xQ G (PV r0 t0 Gb) 0 0) 40 [(0, .ref 3), (1, .int a)] [] (mem t8 Gb) 0 0 := by
      refine xi_aload_n 0 dX1_putNumber_40 rfl ?_
      refine xi_bipush (v := 48) dX1_putNumber_41 (by decide) ?_
      refine xi_iload_n 1 dX1_putNumber_43 rfl ?_
      refine xi_bipush (v := 10) dX1_putNumber_44 (by decide) ?_
      refine xi_irem (v := irem a (10 : Int32)) dX1_putNumber_46 (by decide) rfl ?_
      refine xi_iadd (v := (48 : Int32) + (irem a (10 : Int32))) dX1_putNumber_47 rfl ?_
      obtain ⟨v11, t12, k13, hq⟩ := bnd_some hq
      refine xi_callV (as := [.int ((48 : Int32) + (irem a (10 : Int32)))]) (rest := []) dX1_putNumber_48 (KX1_put_3 G Gb ((48 : Int32) + (irem a (10 : Int32))) _ _ _ k13) mkX1_put w_286 w_287 w_285 (mem_get sh_3) rfl rfl rfl rfl (Nat.le_of_ble_eq_true rfl) (Nat.le_of_ble_eq_true rfl) (Nat.le_of_ble_eq_true rfl) (Nat.le_of_ble_eq_true rfl) (Nat.le_of_ble_eq_true rfl) ?_
      intro v M2 hz
      obtain ⟨rfl, rfl⟩ := hz
      show xW _ _ _ _ 51 _ [] (mem t12 Gb) _ _
      have r14 := some_pair hq
      obtain ⟨rfl, rfl⟩ := r14
      exact xi_vret dX1_putNumber_51 rfl (Nat.le_of_ble_eq_true rfl) (Nat.le_of_ble_eq_true rfl) ⟨rfl, rfl⟩
    refine xi_icmp_lt (tgt := 40) dX1_putNumber_23 (by decide) (fun c6 => ?_) (fun c6 => ?_)
    · replace m9 := ite_p c6 m9
      obtain ⟨rfl, rfl⟩ := some_pair m9
      exact key10
    · replace m9 := ite_n c6 m9
      refine xi_aload_n 0 dX1_putNumber_26 rfl ?_
      refine xi_bipush (v := 48) dX1_putNumber_27 (by decide) ?_
      refine xi_iload_n 1 dX1_putNumber_29 rfl ?_
      refine xi_bipush (v := 10) dX1_putNumber_30 (by decide) ?_
      refine xi_idiv (v := a / (10 : Int32)) dX1_putNumber_32 (by decide) rfl ?_
      refine xi_bipush (v := 10) dX1_putNumber_33 (by decide) ?_
      refine xi_irem (v := irem (a / (10 : Int32)) (10 : Int32)) dX1_putNumber_35 (by decide) rfl ?_
      refine xi_iadd (v := (48 : Int32) + (irem (a / (10 : Int32)) (10 : Int32))) dX1_putNumber_36 rfl ?_
      obtain ⟨v15, t16, k17, m9⟩ := bnd_some m9
      refine xi_callV (as := [.int ((48 : Int32) + (irem (a / (10 : Int32)) (10 : Int32)))]) (rest := []) dX1_putNumber_37 (KX1_put_3 G Gb ((48 : Int32) + (irem (a / (10 : Int32)) (10 : Int32))) _ _ _ k17) mkX1_put w_286 w_287 w_285 (mem_get sh_3) rfl rfl rfl rfl (Nat.le_of_ble_eq_true rfl) (Nat.le_of_ble_eq_true rfl) (Nat.le_of_ble_eq_true rfl) (Nat.le_of_ble_eq_true rfl) (Nat.le_of_ble_eq_true rfl) ?_
      intro v M2 hz
      obtain ⟨rfl, rfl⟩ := hz
      show xW _ _ _ _ 40 _ [] (mem t16 Gb) _ _
      obtain ⟨rfl, rfl⟩ := some_pair m9
      exact key10
  refine xi_icmp_lt (tgt := 20) dX1_putNumber_3 (by decide) (fun c1 => ?_) (fun c1 => ?_)
  · replace m4 := ite_p c1 m4
    obtain ⟨rfl, rfl⟩ := some_pair m4
    exact key5
  · replace m4 := ite_n c1 m4
    refine xi_aload_n 0 dX1_putNumber_6 rfl ?_
    refine xi_bipush (v := 48) dX1_putNumber_7 (by decide) ?_
    refine xi_iload_n 1 dX1_putNumber_9 rfl ?_
    refine xi_bipush (v := 100) dX1_putNumber_10 (by decide) ?_
    refine xi_idiv (v := a / (100 : Int32)) dX1_putNumber_12 (by decide) rfl ?_
    refine xi_bipush (v := 10) dX1_putNumber_13 (by decide) ?_
    refine xi_irem (v := irem (a / (100 : Int32)) (10 : Int32)) dX1_putNumber_15 (by decide) rfl ?_
    refine xi_iadd (v := (48 : Int32) + (irem (a / (100 : Int32)) (10 : Int32))) dX1_putNumber_16 rfl ?_
    obtain ⟨v18, t19, k20, m4⟩ := bnd_some m4
    refine xi_callV (as := [.int ((48 : Int32) + (irem (a / (100 : Int32)) (10 : Int32)))]) (rest := []) dX1_putNumber_17 (KX1_put_3 G Gb ((48 : Int32) + (irem (a / (100 : Int32)) (10 : Int32))) _ _ _ k20) mkX1_put w_286 w_287 w_285 (mem_get sh_3) rfl rfl rfl rfl (Nat.le_of_ble_eq_true rfl) (Nat.le_of_ble_eq_true rfl) (Nat.le_of_ble_eq_true rfl) (Nat.le_of_ble_eq_true rfl) (Nat.le_of_ble_eq_true rfl) ?_
    intro v M2 hz
    obtain ⟨rfl, rfl⟩ := hz
    show xW _ _ _ _ 20 _ [] (mem t19 Gb) _ _
    obtain ⟨rfl, rfl⟩ := some_pair m4
    exact key5
noncomputable def SX1_putText_3_s2_2 (c : Int32) (σ : St) : Option (((Int32) ⊕ (Unit)) × St) :=
  (if (4 : Int32) ≤ c then (some (Sum.inr (), σ)) else (chk (inb c 4) (bnd (FX1_put_3 (chr [110, 101, 116, 32] c) σ) (fun v3 t4 => (some (Sum.inl (c + 1), t4))))))
set_option maxHeartbeats 4000000 in
set_option maxRecDepth 100000 in
theorem SX1_putText_3_s2_2_w (G : xG) (Gb : xMem) (r0 : Unit) (t0 : St) :
    ∀ (k : Nat) (c : Int32) (σ : St) (r : Unit) (σ' : St), itr (SX1_putText_3_s2_2) k c σ = some (r, σ') → (xW G mX1_putText (xrm 4 0 0) (xQ G (PV r0 t0 Gb) 0 0) 25 [] [] (mem σ' Gb) 0 0) → xW G mX1_putText (xrm 4 0 0) (xQ G (PV r0 t0 Gb) 0 0) 2 [(0, .ref 3), (1, .float 2), (2, .int c)] [] (mem σ Gb) 0 0 := by
  intro k
  induction k with
  | zero =>
    intro c σ r σ' h
    exact absurd h (itr_zero _ _ _ _)
  | succ k ih =>
    intro c σ r σ' h HE
    obtain ⟨x, s1, hs, h⟩ := itr_succ h
    unfold SX1_putText_3_s2_2 at hs
    refine xi_iload_n 2 dX1_putText_2 rfl ?_
    refine xi_aload_nS 1 dX1_putText_3 rfl ?_
    refine xi_callVS (as := []) (rest := [.int c]) dX1_putText_4 (K_slen G st_2 rfl) mkJ0_length_8abf5 w_329 w_330 w_977 st_2 rfl rfl rfl rfl (Nat.le_of_ble_eq_true rfl) (Nat.le_of_ble_eq_true rfl) (Nat.le_of_ble_eq_true rfl) (Nat.le_of_ble_eq_true rfl) (Nat.le_of_ble_eq_true rfl) ?_
    intro v M2 hz
    obtain ⟨rfl, rfl⟩ := hz
    show xW _ _ _ _ 7 _ [.int 4, .int c] (mem σ Gb) _ _
    refine xi_icmp_ge (tgt := 25) dX1_putText_7 (by decide) (fun c1 => ?_) (fun c1 => ?_)
    · replace hs := ite_p c1 hs
      refine xi_sub (lv' := []) [] rfl ?_
      obtain ⟨rfl, rfl⟩ := some_pair hs
      obtain ⟨rfl, rfl⟩ := some_pair h
      exact HE
    · replace hs := ite_n c1 hs
      refine xi_aload_n 0 dX1_putText_10 rfl ?_
      refine xi_aload_nS 1 dX1_putText_11 rfl ?_
      refine xi_iload_n 2 dX1_putText_12 rfl ?_
      obtain ⟨g2, hs⟩ := chk_some hs
      refine xi_callVS (as := [.int c]) (rest := [.ref 3]) dX1_putText_13 (K_schar G st_2 rfl g2) mkJ0_charAt_5068e w_339 w_340 w_978 st_2 rfl rfl rfl rfl (Nat.le_of_ble_eq_true rfl) (Nat.le_of_ble_eq_true rfl) (Nat.le_of_ble_eq_true rfl) (Nat.le_of_ble_eq_true rfl) (Nat.le_of_ble_eq_true rfl) ?_
      intro v M2 hz
      obtain ⟨rfl, rfl⟩ := hz
      show xW _ _ _ _ 16 _ [.int (chr [110, 101, 116, 32] c), .ref 3] (mem σ Gb) _ _
      obtain ⟨v3, t4, k5, hs⟩ := bnd_some hs
      refine xi_callV (as := [.int (chr [110, 101, 116, 32] c)]) (rest := []) dX1_putText_16 (KX1_put_3 G Gb (chr [110, 101, 116, 32] c) _ _ _ k5) mkX1_put w_286 w_287 w_285 (mem_get sh_3) rfl rfl rfl rfl (Nat.le_of_ble_eq_true rfl) (Nat.le_of_ble_eq_true rfl) (Nat.le_of_ble_eq_true rfl) (Nat.le_of_ble_eq_true rfl) (Nat.le_of_ble_eq_true rfl) ?_
      intro v M2 hz
      obtain ⟨rfl, rfl⟩ := hz
      show xW _ _ _ _ 19 _ [] (mem t4 Gb) _ _
      refine xi_iinc (v := (c + 1)) (lv' := [(2, .int (c + 1)), (0, .ref 3), (1, .float 2)]) 2 dX1_putText_19 rfl rfl (by decide) rfl ?_
      refine xi_goto (tgt := 2) dX1_putText_22 (by decide) ?_
      refine xi_sub (lv' := [(0, .ref 3), (1, .float 2), (2, .int (c + 1))]) [1, 2, 0] rfl ?_
      obtain ⟨rfl, rfl⟩ := some_pair hs
      exact ih (c + 1) t4 _ _ h HE
noncomputable def FX1_putText_3_s2 (σ : St) : Option ((Unit) × St) :=
  (bnd (wh (SX1_putText_3_s2_2) (0 : Int32) σ) (fun e6 t7 => (some ((), t7))))
set_option maxHeartbeats 4000000 in
set_option maxRecDepth 100000 in
theorem KX1_putText_3_s2 (G : xG) (Gb : xMem) (σ : St) (r0 : Unit) (t0 : St) (hq : FX1_putText_3_s2 σ = some (r0, t0)) : xC G mX1_putText 4 0 0 [.ref 3, .float 2] (mem σ Gb) (PV r0 t0 Gb) := by
  unfold FX1_putText_3_s2 at hq
  refine xC.of (by decide) (Nat.le_of_ble_eq_true rfl) ?_
  show xW _ _ _ _ 0 [(0, .ref 3), (1, .float 2)] [] _ 0 0
  refine xi_iconst (v := 0) dX1_putText_0 (by decide) ?_
  refine xi_istore_n (lv' := [(2, .int 0), (0, .ref 3), (1, .float 2)]) dX1_putText_1 (by decide) rfl ?_
  refine xi_sub (lv' := [(0, .ref 3), (1, .float 2), (2, .int 0)]) [1, 2, 0] rfl ?_
  obtain ⟨e6, t7, k8, hq⟩ := bnd_some hq
  obtain ⟨n9, k8⟩ := wh_itr k8
  refine SX1_putText_3_s2_2_w G Gb r0 t0 n9 (0 : Int32) σ _ _ k8 ?_
  show xW G mX1_putText (xrm 4 0 0) (xQ G (PV r0 t0 Gb) 0 0) 25 [] [] (mem t7 Gb) 0 0
  have r10 := some_pair hq
  obtain ⟨rfl, rfl⟩ := r10
  exact xi_vret dX1_putText_25 rfl (Nat.le_of_ble_eq_true rfl) (Nat.le_of_ble_eq_true rfl) ⟨rfl, rfl⟩
noncomputable def SX1_putText_3_s3_2 (c : Int32) (σ : St) : Option (((Int32) ⊕ (Unit)) × St) :=
  (if (4 : Int32) ≤ c then (some (Sum.inr (), σ)) else (chk (inb c 4) (bnd (FX1_put_3 (chr [114, 111, 119, 32] c) σ) (fun v3 t4 => (some (Sum.inl (c + 1), t4))))))
set_option maxHeartbeats 4000000 in
set_option maxRecDepth 100000 in
theorem SX1_putText_3_s3_2_w (G : xG) (Gb : xMem) (r0 : Unit) (t0 : St) :
    ∀ (k : Nat) (c : Int32) (σ : St) (r : Unit) (σ' : St), itr (SX1_putText_3_s3_2) k c σ = some (r, σ') → (xW G mX1_putText (xrm 4 0 0) (xQ G (PV r0 t0 Gb) 0 0) 25 [] [] (mem σ' Gb) 0 0) → xW G mX1_putText (xrm 4 0 0) (xQ G (PV r0 t0 Gb) 0 0) 2 [(0, .ref 3), (1, .float 3), (2, .int c)] [] (mem σ Gb) 0 0 := by
  intro k
  induction k with
  | zero =>
    intro c σ r σ' h
    exact absurd h (itr_zero _ _ _ _)
  | succ k ih =>
    intro c σ r σ' h HE
    obtain ⟨x, s1, hs, h⟩ := itr_succ h
    unfold SX1_putText_3_s3_2 at hs
    refine xi_iload_n 2 dX1_putText_2 rfl ?_
    refine xi_aload_nS 1 dX1_putText_3 rfl ?_
    refine xi_callVS (as := []) (rest := [.int c]) dX1_putText_4 (K_slen G st_3 rfl) mkJ0_length_8abf5 w_329 w_330 w_977 st_3 rfl rfl rfl rfl (Nat.le_of_ble_eq_true rfl) (Nat.le_of_ble_eq_true rfl) (Nat.le_of_ble_eq_true rfl) (Nat.le_of_ble_eq_true rfl) (Nat.le_of_ble_eq_true rfl) ?_
    intro v M2 hz
    obtain ⟨rfl, rfl⟩ := hz
    show xW _ _ _ _ 7 _ [.int 4, .int c] (mem σ Gb) _ _
    refine xi_icmp_ge (tgt := 25) dX1_putText_7 (by decide) (fun c1 => ?_) (fun c1 => ?_)
    · replace hs := ite_p c1 hs
      refine xi_sub (lv' := []) [] rfl ?_
      obtain ⟨rfl, rfl⟩ := some_pair hs
      obtain ⟨rfl, rfl⟩ := some_pair h
      exact HE
    · replace hs := ite_n c1 hs
      refine xi_aload_n 0 dX1_putText_10 rfl ?_
      refine xi_aload_nS 1 dX1_putText_11 rfl ?_
      refine xi_iload_n 2 dX1_putText_12 rfl ?_
      obtain ⟨g2, hs⟩ := chk_some hs
      refine xi_callVS (as := [.int c]) (rest := [.ref 3]) dX1_putText_13 (K_schar G st_3 rfl g2) mkJ0_charAt_5068e w_339 w_340 w_978 st_3 rfl rfl rfl rfl (Nat.le_of_ble_eq_true rfl) (Nat.le_of_ble_eq_true rfl) (Nat.le_of_ble_eq_true rfl) (Nat.le_of_ble_eq_true rfl) (Nat.le_of_ble_eq_true rfl) ?_
      intro v M2 hz
      obtain ⟨rfl, rfl⟩ := hz
      show xW _ _ _ _ 16 _ [.int (chr [114, 111, 119, 32] c), .ref 3] (mem σ Gb) _ _
      obtain ⟨v3, t4, k5, hs⟩ := bnd_some hs
      refine xi_callV (as := [.int (chr [114, 111, 119, 32] c)]) (rest := []) dX1_putText_16 (KX1_put_3 G Gb (chr [114, 111, 119, 32] c) _ _ _ k5) mkX1_put w_286 w_287 w_285 (mem_get sh_3) rfl rfl rfl rfl (Nat.le_of_ble_eq_true rfl) (Nat.le_of_ble_eq_true rfl) (Nat.le_of_ble_eq_true rfl) (Nat.le_of_ble_eq_true rfl) (Nat.le_of_ble_eq_true rfl) ?_
      intro v M2 hz
      obtain ⟨rfl, rfl⟩ := hz
      show xW _ _ _ _ 19 _ [] (mem t4 Gb) _ _
      refine xi_iinc (v := (c + 1)) (lv' := [(2, .int (c + 1)), (0, .ref 3), (1, .float 3)]) 2 dX1_putText_19 rfl rfl (by decide) rfl ?_
      refine xi_goto (tgt := 2) dX1_putText_22 (by decide) ?_
      refine xi_sub (lv' := [(0, .ref 3), (1, .float 3), (2, .int (c + 1))]) [1, 2, 0] rfl ?_
      obtain ⟨rfl, rfl⟩ := some_pair hs
      exact ih (c + 1) t4 _ _ h HE
noncomputable def FX1_putText_3_s3 (σ : St) : Option ((Unit) × St) :=
  (bnd (wh (SX1_putText_3_s3_2) (0 : Int32) σ) (fun e6 t7 => (some ((), t7))))
set_option maxHeartbeats 4000000 in
set_option maxRecDepth 100000 in
theorem KX1_putText_3_s3 (G : xG) (Gb : xMem) (σ : St) (r0 : Unit) (t0 : St) (hq : FX1_putText_3_s3 σ = some (r0, t0)) : xC G mX1_putText 4 0 0 [.ref 3, .float 3] (mem σ Gb) (PV r0 t0 Gb) := by
  unfold FX1_putText_3_s3 at hq
  refine xC.of (by decide) (Nat.le_of_ble_eq_true rfl) ?_
  show xW _ _ _ _ 0 [(0, .ref 3), (1, .float 3)] [] _ 0 0
  refine xi_iconst (v := 0) dX1_putText_0 (by decide) ?_
  refine xi_istore_n (lv' := [(2, .int 0), (0, .ref 3), (1, .float 3)]) dX1_putText_1 (by decide) rfl ?_
  refine xi_sub (lv' := [(0, .ref 3), (1, .float 3), (2, .int 0)]) [1, 2, 0] rfl ?_
  obtain ⟨e6, t7, k8, hq⟩ := bnd_some hq
  obtain ⟨n9, k8⟩ := wh_itr k8
  refine SX1_putText_3_s3_2_w G Gb r0 t0 n9 (0 : Int32) σ _ _ k8 ?_
  show xW G mX1_putText (xrm 4 0 0) (xQ G (PV r0 t0 Gb) 0 0) 25 [] [] (mem t7 Gb) 0 0
  have r10 := some_pair hq
  obtain ⟨rfl, rfl⟩ := r10
  exact xi_vret dX1_putText_25 rfl (Nat.le_of_ble_eq_true rfl) (Nat.le_of_ble_eq_true rfl) ⟨rfl, rfl⟩
noncomputable def SX5_aheadOf_4 (x0 : Nat) (w1 : Int32) (c : Int32 × Int32) (σ : St) : Option (((Int32 × Int32) ⊕ (Int32)) × St) :=
  (if w1 ≤ c.2 then (some (Sum.inr c.1, σ)) else (chk (inb c.2 9) (rdb σ (x0 + 2) (c.2.toNatClampNeg) (fun v3 => (some (Sum.inl ((c.1 ||| (shl (1 : Int32) v3)), (c.2 + 1)), σ))))))
set_option maxHeartbeats 4000000 in
set_option maxRecDepth 100000 in
theorem SX5_aheadOf_4_w (G : xG) (Gb : xMem) (x0 : Nat) (w1 : Int32) (g0x : netAt x0 = true) (r0 : Int32) (t0 : St) :
    ∀ (k : Nat) (c : Int32 × Int32) (σ : St) (r : Int32) (σ' : St), itr (SX5_aheadOf_4 x0 w1) k c σ = some (r, σ') → (xW G mX5_aheadOf (xrm 0 0 0) (xQ G (PQ r0 t0 Gb) 0 0) 26 [(2, .int r)] [] (mem σ' Gb) 0 0) → xW G mX5_aheadOf (xrm 0 0 0) (xQ G (PQ r0 t0 Gb) 0 0) 4 [(0, .ref x0), (1, .int w1), (2, .int c.1), (3, .int c.2)] [] (mem σ Gb) 0 0 := by
  intro k
  induction k with
  | zero =>
    intro c σ r σ' h
    exact absurd h (itr_zero _ _ _ _)
  | succ k ih =>
    intro c σ r σ' h HE
    obtain ⟨x, s1, hs, h⟩ := itr_succ h
    unfold SX5_aheadOf_4 at hs
    refine xi_iload_n 3 dX5_aheadOf_4 rfl ?_
    refine xi_iload_n 1 dX5_aheadOf_5 rfl ?_
    refine xi_icmp_ge (tgt := 26) dX5_aheadOf_6 (by decide) (fun c1 => ?_) (fun c1 => ?_)
    · replace hs := ite_p c1 hs
      refine xi_sub (lv' := [(2, .int c.1)]) [2] rfl ?_
      obtain ⟨rfl, rfl⟩ := some_pair hs
      obtain ⟨rfl, rfl⟩ := some_pair h
      exact HE
    · replace hs := ite_n c1 hs
      refine xi_iload_n 2 dX5_aheadOf_9 rfl ?_
      refine xi_iconst (v := 1) dX5_aheadOf_10 (by decide) ?_
      refine xi_aload_n 0 dX5_aheadOf_11 rfl ?_
      refine yi_getR (f := 3) dX5_aheadOf_12 (netAt_0 g0x) rfl ok_5 (by decide) w_78 rfl ?_
      refine xi_iload_n 3 dX5_aheadOf_15 rfl ?_
      obtain ⟨g2, hs⟩ := chk_some hs
      obtain ⟨v3, h4, hs⟩ := rdb_some hs
      refine yi_ialoadV dX5_aheadOf_16 (netAt_2 g0x) g2 h4 ?_
      refine xi_ishl (v := shl (1 : Int32) v3) dX5_aheadOf_17 rfl ?_
      refine xi_ior (v := c.1 ||| (shl (1 : Int32) v3)) dX5_aheadOf_18 rfl ?_
      refine xi_istore_n (lv' := [(2, .int (c.1 ||| (shl (1 : Int32) v3))), (0, .ref x0), (1, .int w1), (3, .int c.2)]) dX5_aheadOf_19 (by decide) rfl ?_
      refine xi_iinc (v := (c.2 + 1)) (lv' := [(3, .int (c.2 + 1)), (2, .int (c.1 ||| (shl (1 : Int32) v3))), (0, .ref x0), (1, .int w1)]) 3 dX5_aheadOf_20 rfl rfl (by decide) rfl ?_
      refine xi_goto (tgt := 4) dX5_aheadOf_23 (by decide) ?_
      refine xi_sub (lv' := [(0, .ref x0), (1, .int w1), (2, .int (c.1 ||| (shl (1 : Int32) v3))), (3, .int (c.2 + 1))]) [2, 3, 1, 0] rfl ?_
      obtain ⟨rfl, rfl⟩ := some_pair hs
      exact ih ((c.1 ||| (shl (1 : Int32) v3)), (c.2 + 1)) σ _ _ h HE
noncomputable def FX5_aheadOf (x : Nat) (a : Int32) (σ : St) : Option ((Int32) × St) :=
  (chk (netAt x) (bnd (wh (SX5_aheadOf_4 x a) ((0 : Int32), (0 : Int32)) σ) (fun e5 t6 => (some (e5, t6)))))
set_option maxHeartbeats 4000000 in
set_option maxRecDepth 100000 in
theorem KX5_aheadOf (G : xG) (Gb : xMem) (x : Nat) (a : Int32) (σ : St) (r0 : Int32) (t0 : St) (hq : FX5_aheadOf x a σ = some (r0, t0)) : xC G mX5_aheadOf 0 0 0 [.ref x, .int a] (mem σ Gb) (PQ r0 t0 Gb) := by
  unfold FX5_aheadOf at hq
  refine xC.of (by decide) (Nat.le_of_ble_eq_true rfl) ?_
  show xW _ _ _ _ 0 [(0, .ref x), (1, .int a)] [] _ 0 0
  obtain ⟨g_x, hq⟩ := chk_some hq
  refine xi_iconst (v := 0) dX5_aheadOf_0 (by decide) ?_
  refine xi_istore_n (lv' := [(2, .int 0), (0, .ref x), (1, .int a)]) dX5_aheadOf_1 (by decide) rfl ?_
  refine xi_iconst (v := 0) dX5_aheadOf_2 (by decide) ?_
  refine xi_istore_n (lv' := [(3, .int 0), (2, .int 0), (0, .ref x), (1, .int a)]) dX5_aheadOf_3 (by decide) rfl ?_
  refine xi_sub (lv' := [(0, .ref x), (1, .int a), (2, .int 0), (3, .int 0)]) [2, 3, 1, 0] rfl ?_
  obtain ⟨e5, t6, k7, hq⟩ := bnd_some hq
  obtain ⟨n8, k7⟩ := wh_itr k7
  refine SX5_aheadOf_4_w G Gb x a g_x r0 t0 n8 ((0 : Int32), (0 : Int32)) σ _ _ k7 ?_
  show xW G mX5_aheadOf (xrm 0 0 0) (xQ G (PQ r0 t0 Gb) 0 0) 26 [(2, .int e5)] [] (mem t6 Gb) 0 0
  refine xi_iload_n 0 dX5_aheadOf_26 rfl ?_
  have r9 := some_pair hq
  obtain ⟨rfl, rfl⟩ := r9
  exact xi_iret dX5_aheadOf_27 rfl rfl (Nat.le_of_ble_eq_true rfl) (Nat.le_of_ble_eq_true rfl) ⟨rfl, rfl⟩
noncomputable def FX5_allBits (x : Nat) (σ : St) : Option ((Int32) × St) :=
  (chk (netAt x) (rdb σ x (0) (fun v1 => (some (((shl (1 : Int32) v1) - (1 : Int32)), σ)))))
set_option maxHeartbeats 4000000 in
set_option maxRecDepth 100000 in
theorem KX5_allBits (G : xG) (Gb : xMem) (x : Nat) (σ : St) (r0 : Int32) (t0 : St) (hq : FX5_allBits x σ = some (r0, t0)) : xC G mX5_allBits 0 0 0 [.ref x] (mem σ Gb) (PQ r0 t0 Gb) := by
  unfold FX5_allBits at hq
  refine xC.of (by decide) (Nat.le_of_ble_eq_true rfl) ?_
  show xW _ _ _ _ 0 [(0, .ref x)] [] _ 0 0
  obtain ⟨g_x, hq⟩ := chk_some hq
  refine xi_iconst (v := 1) dX5_allBits_0 (by decide) ?_
  refine xi_aload_n 0 dX5_allBits_1 rfl ?_
  obtain ⟨v1, h2, hq⟩ := rdb_some hq
  refine yi_getV (f := 0) dX5_allBits_2 (netAt_0 g_x) rfl ok_5 (by decide) w_61 rfl h2 ?_
  refine xi_ishl (v := shl (1 : Int32) v1) dX5_allBits_5 rfl ?_
  refine xi_iconst (v := 1) dX5_allBits_6 (by decide) ?_
  refine xi_isub (v := (shl (1 : Int32) v1) - (1 : Int32)) dX5_allBits_7 rfl ?_
  have r3 := some_pair hq
  obtain ⟨rfl, rfl⟩ := r3
  exact xi_iret dX5_allBits_8 rfl rfl (Nat.le_of_ble_eq_true rfl) (Nat.le_of_ble_eq_true rfl) ⟨rfl, rfl⟩
noncomputable def SX5_begin_28 (x0 : Nat) (c : Int32) (σ : St) : Option (((Int32) ⊕ (Unit)) × St) :=
  (if (9 : Int32) ≤ c then (some (Sum.inr (), σ)) else (chk (inb c 9) (wrb σ (x0 + 2) (c.toNatClampNeg) c (fun t13 => (some (Sum.inl (c + 1), t13))))))
set_option maxHeartbeats 4000000 in
set_option maxRecDepth 100000 in
theorem SX5_begin_28_w (G : xG) (Gb : xMem) (x0 : Nat) (g0x : netAt x0 = true) (r0 : Unit) (t0 : St) :
    ∀ (k : Nat) (c : Int32) (σ : St) (r : Unit) (σ' : St), itr (SX5_begin_28 x0) k c σ = some (r, σ') → (xW G mX5_begin (xrm 1 0 0) (xQ G (PV r0 t0 Gb) 0 0) 47 [] [] (mem σ' Gb) 0 0) → xW G mX5_begin (xrm 1 0 0) (xQ G (PV r0 t0 Gb) 0 0) 28 [(0, .ref x0), (2, .int c)] [] (mem σ Gb) 0 0 := by
  intro k
  induction k with
  | zero =>
    intro c σ r σ' h
    exact absurd h (itr_zero _ _ _ _)
  | succ k ih =>
    intro c σ r σ' h HE
    obtain ⟨x, s1, hs, h⟩ := itr_succ h
    unfold SX5_begin_28 at hs
    refine xi_iload_n 1 dX5_begin_28 rfl ?_
    refine xi_bipush (v := 9) dX5_begin_29 (by decide) ?_
    refine xi_icmp_ge (tgt := 47) dX5_begin_31 (by decide) (fun c11 => ?_) (fun c11 => ?_)
    · replace hs := ite_p c11 hs
      refine xi_sub (lv' := []) [] rfl ?_
      obtain ⟨rfl, rfl⟩ := some_pair hs
      obtain ⟨rfl, rfl⟩ := some_pair h
      exact HE
    · replace hs := ite_n c11 hs
      refine xi_aload_n 0 dX5_begin_34 rfl ?_
      refine yi_getR (f := 3) dX5_begin_35 (netAt_0 g0x) rfl ok_5 (by decide) w_78 rfl ?_
      refine xi_iload_n 1 dX5_begin_38 rfl ?_
      refine xi_iload_n 1 dX5_begin_39 rfl ?_
      obtain ⟨g12, hs⟩ := chk_some hs
      obtain ⟨t13, h14, hs⟩ := wrb_some hs
      refine yi_iastoreV dX5_begin_40 (netAt_2 g0x) g12 h14 ?_
      refine xi_iinc (v := (c + 1)) (lv' := [(2, .int (c + 1)), (0, .ref x0)]) 1 dX5_begin_41 rfl rfl (by decide) rfl ?_
      refine xi_goto (tgt := 28) dX5_begin_44 (by decide) ?_
      refine xi_sub (lv' := [(0, .ref x0), (2, .int (c + 1))]) [1, 0] rfl ?_
      obtain ⟨rfl, rfl⟩ := some_pair hs
      exact ih (c + 1) t13 _ _ h HE
noncomputable def FX5_begin (x : Nat) (a : Int32) (σ : St) : Option ((Unit) × St) :=
  (chk (netAt x) (wrb σ x (0) a (fun t1 => (wrb t1 x (1) (0 : Int32) (fun t3 => (bnd (FJ7_fill_53178 (x + 1) (0 : Int32) t3) (fun v5 t6 => (bnd (FJ7_fill_53178 (x + 3) (0 : Int32) t6) (fun v8 t9 => (bnd (wh (SX5_begin_28 x) (0 : Int32) t9) (fun e15 t16 => (some ((), t16)))))))))))))
set_option maxHeartbeats 4000000 in
set_option maxRecDepth 100000 in
theorem KX5_begin (G : xG) (Gb : xMem) (x : Nat) (a : Int32) (σ : St) (r0 : Unit) (t0 : St) (hq : FX5_begin x a σ = some (r0, t0)) : xC G mX5_begin 1 0 0 [.ref x, .int a] (mem σ Gb) (PV r0 t0 Gb) := by
  unfold FX5_begin at hq
  refine xC.of (by decide) (Nat.le_of_ble_eq_true rfl) ?_
  show xW _ _ _ _ 0 [(0, .ref x), (1, .int a)] [] _ 0 0
  obtain ⟨g_x, hq⟩ := chk_some hq
  refine xi_aload_n 0 dX5_begin_0 rfl ?_
  refine xi_iload_n 1 dX5_begin_1 rfl ?_
  obtain ⟨t1, h2, hq⟩ := wrb_some hq
  refine yi_putV (f := 0) (ty := .int) dX5_begin_2 (netAt_0 g_x) rfl ok_5 (by decide) w_61 rfl rfl pf_I rfl rfl h2 ?_
  refine xi_aload_n 0 dX5_begin_5 rfl ?_
  refine xi_iconst (v := 0) dX5_begin_6 (by decide) ?_
  obtain ⟨t3, h4, hq⟩ := wrb_some hq
  refine yi_putV (f := 1) (ty := .int) dX5_begin_7 (netAt_0 g_x) rfl ok_5 (by decide) w_69 rfl rfl pf_I rfl rfl h4 ?_
  refine xi_aload_n 0 dX5_begin_10 rfl ?_
  refine yi_getR (f := 2) dX5_begin_11 (netAt_0 g_x) rfl ok_5 (by decide) w_72 rfl ?_
  refine xi_iconst (v := 0) dX5_begin_14 (by decide) ?_
  obtain ⟨v5, t6, k7, hq⟩ := bnd_some hq
  refine xi_callS (as := [.ref (x + 1), .int 0]) (rest := []) dX5_begin_15 (KJ7_fill_53178 G Gb (x + 1) (0 : Int32) _ _ _ k7) mkJ7_fill_53178 w_392 w_391 rfl rfl (Nat.le_of_ble_eq_true rfl) (Nat.le_of_ble_eq_true rfl) (Nat.le_of_ble_eq_true rfl) (Nat.le_of_ble_eq_true rfl) (Nat.le_of_ble_eq_true rfl) ?_
  intro v M2 hz
  obtain ⟨rfl, rfl⟩ := hz
  show xW _ _ _ _ 18 _ [] (mem t6 Gb) _ _
  refine xi_aload_n 0 dX5_begin_18 rfl ?_
  refine yi_getR (f := 4) dX5_begin_19 (netAt_0 g_x) rfl ok_5 (by decide) w_83 rfl ?_
  refine xi_iconst (v := 0) dX5_begin_22 (by decide) ?_
  obtain ⟨v8, t9, k10, hq⟩ := bnd_some hq
  refine xi_callS (as := [.ref (x + 3), .int 0]) (rest := []) dX5_begin_23 (KJ7_fill_53178 G Gb (x + 3) (0 : Int32) _ _ _ k10) mkJ7_fill_53178 w_392 w_391 rfl rfl (Nat.le_of_ble_eq_true rfl) (Nat.le_of_ble_eq_true rfl) (Nat.le_of_ble_eq_true rfl) (Nat.le_of_ble_eq_true rfl) (Nat.le_of_ble_eq_true rfl) ?_
  intro v M2 hz
  obtain ⟨rfl, rfl⟩ := hz
  show xW _ _ _ _ 26 _ [] (mem t9 Gb) _ _
  refine xi_iconst (v := 0) dX5_begin_26 (by decide) ?_
  refine xi_istore_n (lv' := [(2, .int 0), (0, .ref x), (1, .int a)]) dX5_begin_27 (by decide) rfl ?_
  refine xi_sub (lv' := [(0, .ref x), (2, .int 0)]) [1, 0] rfl ?_
  obtain ⟨e15, t16, k17, hq⟩ := bnd_some hq
  obtain ⟨n18, k17⟩ := wh_itr k17
  refine SX5_begin_28_w G Gb x g_x r0 t0 n18 (0 : Int32) t9 _ _ k17 ?_
  show xW G mX5_begin (xrm 1 0 0) (xQ G (PV r0 t0 Gb) 0 0) 47 [] [] (mem t16 Gb) 0 0
  have r19 := some_pair hq
  obtain ⟨rfl, rfl⟩ := r19
  exact xi_vret dX5_begin_47 rfl (Nat.le_of_ble_eq_true rfl) (Nat.le_of_ble_eq_true rfl) ⟨rfl, rfl⟩
noncomputable def FX5_changeOver (x : Nat) (a : Int32) (b : Int32) (σ : St) : Option ((Unit) × St) :=
  (chk (netAt x) (chk (inb a 9) (rdb σ (x + 2) (a.toNatClampNeg) (fun v2 => (chk (inb b 9) (rdb σ (x + 2) (b.toNatClampNeg) (fun v5 => (chk (inb a 9) (wrb σ (x + 2) (a.toNatClampNeg) v5 (fun t8 => (chk (inb b 9) (wrb t8 (x + 2) (b.toNatClampNeg) v2 (fun t11 => (some ((), t11)))))))))))))))
set_option maxHeartbeats 4000000 in
set_option maxRecDepth 100000 in
theorem KX5_changeOver (G : xG) (Gb : xMem) (x : Nat) (a : Int32) (b : Int32) (σ : St) (r0 : Unit) (t0 : St) (hq : FX5_changeOver x a b σ = some (r0, t0)) : xC G mX5_changeOver 0 0 0 [.ref x, .int a, .int b] (mem σ Gb) (PV r0 t0 Gb) := by
  unfold FX5_changeOver at hq
  refine xC.of (by decide) (Nat.le_of_ble_eq_true rfl) ?_
  show xW _ _ _ _ 0 [(0, .ref x), (1, .int a), (2, .int b)] [] _ 0 0
  obtain ⟨g_x, hq⟩ := chk_some hq
  refine xi_aload_n 0 dX5_changeOver_0 rfl ?_
  refine yi_getR (f := 3) dX5_changeOver_1 (netAt_0 g_x) rfl ok_5 (by decide) w_78 rfl ?_
  refine xi_iload_n 1 dX5_changeOver_4 rfl ?_
  obtain ⟨g1, hq⟩ := chk_some hq
  obtain ⟨v2, h3, hq⟩ := rdb_some hq
  refine yi_ialoadV dX5_changeOver_5 (netAt_2 g_x) g1 h3 ?_
  refine xi_istore_n (lv' := [(3, .int v2), (0, .ref x), (1, .int a), (2, .int b)]) dX5_changeOver_6 (by decide) rfl ?_
  refine xi_aload_n 1 dX5_changeOver_7 rfl ?_
  refine yi_getR (f := 3) dX5_changeOver_8 (netAt_0 g_x) rfl ok_5 (by decide) w_78 rfl ?_
  refine xi_iload_n 2 dX5_changeOver_11 rfl ?_
  refine xi_aload_n 1 dX5_changeOver_12 rfl ?_
  refine yi_getR (f := 3) dX5_changeOver_13 (netAt_0 g_x) rfl ok_5 (by decide) w_78 rfl ?_
  refine xi_iload_n 3 dX5_changeOver_16 rfl ?_
  obtain ⟨g4, hq⟩ := chk_some hq
  obtain ⟨v5, h6, hq⟩ := rdb_some hq
  refine yi_ialoadV dX5_changeOver_17 (netAt_2 g_x) g4 h6 ?_
  obtain ⟨g7, hq⟩ := chk_some hq
  obtain ⟨t8, h9, hq⟩ := wrb_some hq
  refine yi_iastoreV dX5_changeOver_18 (netAt_2 g_x) g7 h9 ?_
  refine xi_aload_n 1 dX5_changeOver_19 rfl ?_
  refine yi_getR (f := 3) dX5_changeOver_20 (netAt_0 g_x) rfl ok_5 (by decide) w_78 rfl ?_
  refine xi_iload_n 3 dX5_changeOver_23 rfl ?_
  refine xi_iload_n 0 dX5_changeOver_24 rfl ?_
  obtain ⟨g10, hq⟩ := chk_some hq
  obtain ⟨t11, h12, hq⟩ := wrb_some hq
  refine yi_iastoreV dX5_changeOver_25 (netAt_2 g_x) g10 h12 ?_
  have r13 := some_pair hq
  obtain ⟨rfl, rfl⟩ := r13
  exact xi_vret dX5_changeOver_26 rfl (Nat.le_of_ble_eq_true rfl) (Nat.le_of_ble_eq_true rfl) ⟨rfl, rfl⟩
noncomputable def FX5_copyFrom (x : Nat) (y : Nat) (σ : St) : Option ((Unit) × St) :=
  (chk (netAt x) (chk (netAt y) (rdb σ y (0) (fun v1 => (wrb σ x (0) v1 (fun t3 => (rdb t3 y (1) (fun v5 => (wrb t3 x (1) v5 (fun t7 => (cpb t7 (y + 1) (x + 1) 9 (fun t9 => (cpb t9 (y + 2) (x + 2) 9 (fun t11 => (cpb t11 (y + 3) (x + 3) 81 (fun t13 => (some ((), t13))))))))))))))))))
set_option maxHeartbeats 4000000 in
set_option maxRecDepth 100000 in
theorem KX5_copyFrom (G : xG) (Gb : xMem) (x : Nat) (y : Nat) (σ : St) (r0 : Unit) (t0 : St) (hq : FX5_copyFrom x y σ = some (r0, t0)) : xC G mX5_copyFrom 0 0 0 [.ref x, .ref y] (mem σ Gb) (PV r0 t0 Gb) := by
  unfold FX5_copyFrom at hq
  refine xC.of (by decide) (Nat.le_of_ble_eq_true rfl) ?_
  show xW _ _ _ _ 0 [(0, .ref x), (1, .ref y)] [] _ 0 0
  obtain ⟨g_x, hq⟩ := chk_some hq
  obtain ⟨g_y, hq⟩ := chk_some hq
  refine xi_aload_n 0 dX5_copyFrom_0 rfl ?_
  refine xi_aload_n 1 dX5_copyFrom_1 rfl ?_
  obtain ⟨v1, h2, hq⟩ := rdb_some hq
  refine yi_getV (f := 0) dX5_copyFrom_2 (netAt_0 g_y) rfl ok_5 (by decide) w_61 rfl h2 ?_
  obtain ⟨t3, h4, hq⟩ := wrb_some hq
  refine yi_putV (f := 0) (ty := .int) dX5_copyFrom_5 (netAt_0 g_x) rfl ok_5 (by decide) w_61 rfl rfl pf_I rfl rfl h4 ?_
  refine xi_aload_n 0 dX5_copyFrom_8 rfl ?_
  refine xi_aload_n 1 dX5_copyFrom_9 rfl ?_
  obtain ⟨v5, h6, hq⟩ := rdb_some hq
  refine yi_getV (f := 1) dX5_copyFrom_10 (netAt_0 g_y) rfl ok_5 (by decide) w_69 rfl h6 ?_
  obtain ⟨t7, h8, hq⟩ := wrb_some hq
  refine yi_putV (f := 1) (ty := .int) dX5_copyFrom_13 (netAt_0 g_x) rfl ok_5 (by decide) w_69 rfl rfl pf_I rfl rfl h8 ?_
  refine xi_aload_n 1 dX5_copyFrom_16 rfl ?_
  refine yi_getR (f := 2) dX5_copyFrom_17 (netAt_0 g_y) rfl ok_5 (by decide) w_72 rfl ?_
  refine xi_iconst (v := 0) dX5_copyFrom_20 (by decide) ?_
  refine xi_aload_n 0 dX5_copyFrom_21 rfl ?_
  refine yi_getR (f := 2) dX5_copyFrom_22 (netAt_0 g_x) rfl ok_5 (by decide) w_72 rfl ?_
  refine xi_iconst (v := 0) dX5_copyFrom_25 (by decide) ?_
  refine xi_bipush (v := 9) dX5_copyFrom_26 (by decide) ?_
  obtain ⟨t9, h10, hq⟩ := cpb_some hq
  refine yi_copyV (N := 9) dX5_copyFrom_28 w_448 w_native w_449 w_17 (netAt_1 g_y) (netAt_1 g_x) (by decide) (by decide) (Nat.le_of_ble_eq_true rfl) (Nat.le_of_ble_eq_true rfl) (Nat.le_of_ble_eq_true rfl) (Nat.le_of_ble_eq_true rfl) (Nat.le_of_ble_eq_true rfl) h10 ?_
  refine xi_aload_n 1 dX5_copyFrom_31 rfl ?_
  refine yi_getR (f := 3) dX5_copyFrom_32 (netAt_0 g_y) rfl ok_5 (by decide) w_78 rfl ?_
  refine xi_iconst (v := 0) dX5_copyFrom_35 (by decide) ?_
  refine xi_aload_n 0 dX5_copyFrom_36 rfl ?_
  refine yi_getR (f := 3) dX5_copyFrom_37 (netAt_0 g_x) rfl ok_5 (by decide) w_78 rfl ?_
  refine xi_iconst (v := 0) dX5_copyFrom_40 (by decide) ?_
  refine xi_bipush (v := 9) dX5_copyFrom_41 (by decide) ?_
  obtain ⟨t11, h12, hq⟩ := cpb_some hq
  refine yi_copyV (N := 9) dX5_copyFrom_43 w_448 w_native w_449 w_17 (netAt_2 g_y) (netAt_2 g_x) (by decide) (by decide) (Nat.le_of_ble_eq_true rfl) (Nat.le_of_ble_eq_true rfl) (Nat.le_of_ble_eq_true rfl) (Nat.le_of_ble_eq_true rfl) (Nat.le_of_ble_eq_true rfl) h12 ?_
  refine xi_aload_n 1 dX5_copyFrom_46 rfl ?_
  refine yi_getR (f := 4) dX5_copyFrom_47 (netAt_0 g_y) rfl ok_5 (by decide) w_83 rfl ?_
  refine xi_iconst (v := 0) dX5_copyFrom_50 (by decide) ?_
  refine xi_aload_n 0 dX5_copyFrom_51 rfl ?_
  refine yi_getR (f := 4) dX5_copyFrom_52 (netAt_0 g_x) rfl ok_5 (by decide) w_83 rfl ?_
  refine xi_iconst (v := 0) dX5_copyFrom_55 (by decide) ?_
  refine xi_bipush (v := 81) dX5_copyFrom_56 (by decide) ?_
  obtain ⟨t13, h14, hq⟩ := cpb_some hq
  refine yi_copyV (N := 81) dX5_copyFrom_58 w_448 w_native w_449 w_17 (netAt_3 g_y) (netAt_3 g_x) (by decide) (by decide) (Nat.le_of_ble_eq_true rfl) (Nat.le_of_ble_eq_true rfl) (Nat.le_of_ble_eq_true rfl) (Nat.le_of_ble_eq_true rfl) (Nat.le_of_ble_eq_true rfl) h14 ?_
  have r15 := some_pair hq
  obtain ⟨rfl, rfl⟩ := r15
  exact xi_vret dX5_copyFrom_61 rfl (Nat.le_of_ble_eq_true rfl) (Nat.le_of_ble_eq_true rfl) ⟨rfl, rfl⟩
noncomputable def FX5_weightOf (x : Nat) (a : Int32) (b : Int32) (σ : St) : Option ((Int32) × St) :=
  (chk (netAt x) (chk (inb ((a * (9 : Int32)) + b) 81) (rdb σ (x + 3) (((a * (9 : Int32)) + b).toNatClampNeg) (fun v2 => (some (v2, σ))))))
set_option maxHeartbeats 4000000 in
set_option maxRecDepth 100000 in
theorem KX5_weightOf (G : xG) (Gb : xMem) (x : Nat) (a : Int32) (b : Int32) (σ : St) (r0 : Int32) (t0 : St) (hq : FX5_weightOf x a b σ = some (r0, t0)) : xC G mX5_weightOf 0 0 0 [.ref x, .int a, .int b] (mem σ Gb) (PQ r0 t0 Gb) := by
  unfold FX5_weightOf at hq
  refine xC.of (by decide) (Nat.le_of_ble_eq_true rfl) ?_
  show xW _ _ _ _ 0 [(0, .ref x), (1, .int a), (2, .int b)] [] _ 0 0
  obtain ⟨g_x, hq⟩ := chk_some hq
  refine xi_aload_n 0 dX5_weightOf_0 rfl ?_
  refine yi_getR (f := 4) dX5_weightOf_1 (netAt_0 g_x) rfl ok_5 (by decide) w_83 rfl ?_
  refine xi_iload_n 1 dX5_weightOf_4 rfl ?_
  refine xi_bipush (v := 9) dX5_weightOf_5 (by decide) ?_
  refine xi_imul (v := a * (9 : Int32)) dX5_weightOf_7 rfl ?_
  refine xi_iload_n 2 dX5_weightOf_8 rfl ?_
  refine xi_iadd (v := (a * (9 : Int32)) + b) dX5_weightOf_9 rfl ?_
  obtain ⟨g1, hq⟩ := chk_some hq
  obtain ⟨v2, h3, hq⟩ := rdb_some hq
  refine yi_ialoadV dX5_weightOf_10 (netAt_3 g_x) g1 h3 ?_
  have r4 := some_pair hq
  obtain ⟨rfl, rfl⟩ := r4
  exact xi_iret dX5_weightOf_11 rfl rfl (Nat.le_of_ble_eq_true rfl) (Nat.le_of_ble_eq_true rfl) ⟨rfl, rfl⟩
noncomputable def FX5_setWeight (x : Nat) (a : Int32) (b : Int32) (c : Int32) (σ : St) : Option ((Unit) × St) :=
  (chk (netAt x) (bnd (FX5_weightOf x a b σ) (fun v1 t2 => (bnd (if v1 ≤ (0 : Int32) then (some ((), t2)) else (rdb t2 x (1) (fun v46 => (wrb t2 x (1) (v46 - (1 : Int32)) (fun t48 => (some ((), t48))))))) (fun v5 t6 => (chk (inb ((a * (9 : Int32)) + b) 81) (wrb t6 (x + 3) (((a * (9 : Int32)) + b).toNatClampNeg) c (fun t10 => (chk (inb ((b * (9 : Int32)) + a) 81) (wrb t10 (x + 3) (((b * (9 : Int32)) + a).toNatClampNeg) c (fun t13 => (if c ≤ (0 : Int32) then (chk (inb a 9) (rdb t13 (x + 1) (a.toNatClampNeg) (fun v17 => (chk (inb a 9) (wrb t13 (x + 1) (a.toNatClampNeg) (v17 &&& ((shl (1 : Int32) b) ^^^ (-1 : Int32))) (fun t20 => (chk (inb b 9) (rdb t20 (x + 1) (b.toNatClampNeg) (fun v23 => (chk (inb b 9) (wrb t20 (x + 1) (b.toNatClampNeg) (v23 &&& ((shl (1 : Int32) a) ^^^ (-1 : Int32))) (fun t26 => (some ((), t26)))))))))))))) else (rdb t13 x (1) (fun v29 => (wrb t13 x (1) (v29 + (1 : Int32)) (fun t31 => (chk (inb a 9) (rdb t31 (x + 1) (a.toNatClampNeg) (fun v34 => (chk (inb a 9) (wrb t31 (x + 1) (a.toNatClampNeg) (v34 ||| (shl (1 : Int32) b)) (fun t37 => (chk (inb b 9) (rdb t37 (x + 1) (b.toNatClampNeg) (fun v40 => (chk (inb b 9) (wrb t37 (x + 1) (b.toNatClampNeg) (v40 ||| (shl (1 : Int32) a)) (fun t43 => (some ((), t43))))))))))))))))))))))))))))))
set_option maxHeartbeats 4000000 in
set_option maxRecDepth 100000 in
theorem KX5_setWeight (G : xG) (Gb : xMem) (x : Nat) (a : Int32) (b : Int32) (c : Int32) (σ : St) (r0 : Unit) (t0 : St) (hq : FX5_setWeight x a b c σ = some (r0, t0)) : xC G mX5_setWeight 1 0 0 [.ref x, .int a, .int b, .int c] (mem σ Gb) (PV r0 t0 Gb) := by
  unfold FX5_setWeight at hq
  refine xC.of (by decide) (Nat.le_of_ble_eq_true rfl) ?_
  show xW _ _ _ _ 0 [(0, .ref x), (1, .int a), (2, .int b), (3, .int c)] [] _ 0 0
  obtain ⟨g_x, hq⟩ := chk_some hq
  refine xi_aload_n 0 dX5_setWeight_0 rfl ?_
  refine xi_iload_n 1 dX5_setWeight_1 rfl ?_
  refine xi_iload_n 2 dX5_setWeight_2 rfl ?_
  obtain ⟨v1, t2, k3, hq⟩ := bnd_some hq
  refine xi_callV (as := [.int a, .int b]) (rest := []) dX5_setWeight_3 (KX5_weightOf G Gb x a b _ _ _ k3) mkX5_weightOf w_415 w_416 w_426 (mem_get (netAt_0 g_x)) rfl rfl rfl rfl (Nat.le_of_ble_eq_true rfl) (Nat.le_of_ble_eq_true rfl) (Nat.le_of_ble_eq_true rfl) (Nat.le_of_ble_eq_true rfl) (Nat.le_of_ble_eq_true rfl) ?_
  intro v M2 hz
  obtain ⟨rfl, rfl⟩ := hz
  show xW _ _ _ _ 6 _ [.int v1] (mem t2 Gb) _ _
  obtain ⟨v5, t6, m7, hq⟩ := bnd_some hq
  have key8 : xW G mX5_setWeight (xrm 1 0 0) (xQ G (PV r0 t0 Gb) 0 0) 19 [(0, .ref x), (1, .int a), (2, .int b), (3, .int c)] [] (mem t6 Gb) 0 0 := by
    refine xi_aload_n 0 dX5_setWeight_19 rfl ?_
    refine yi_getR (f := 4) dX5_setWeight_20 (netAt_0 g_x) rfl ok_5 (by decide) w_83 rfl ?_
    refine xi_iload_n 1 dX5_setWeight_23 rfl ?_
    refine xi_bipush (v := 9) dX5_setWeight_24 (by decide) ?_
    refine xi_imul (v := a * (9 : Int32)) dX5_setWeight_26 rfl ?_
    refine xi_iload_n 2 dX5_setWeight_27 rfl ?_
    refine xi_iadd (v := (a * (9 : Int32)) + b) dX5_setWeight_28 rfl ?_
    refine xi_iload_n 3 dX5_setWeight_29 rfl ?_
    obtain ⟨g9, hq⟩ := chk_some hq
    obtain ⟨t10, h11, hq⟩ := wrb_some hq
    refine yi_iastoreV dX5_setWeight_30 (netAt_3 g_x) g9 h11 ?_
    refine xi_aload_n 0 dX5_setWeight_31 rfl ?_
    refine yi_getR (f := 4) dX5_setWeight_32 (netAt_0 g_x) rfl ok_5 (by decide) w_83 rfl ?_
    refine xi_iload_n 2 dX5_setWeight_35 rfl ?_
    refine xi_bipush (v := 9) dX5_setWeight_36 (by decide) ?_
    refine xi_imul (v := b * (9 : Int32)) dX5_setWeight_38 rfl ?_
    refine xi_iload_n 1 dX5_setWeight_39 rfl ?_
    refine xi_iadd (v := (b * (9 : Int32)) + a) dX5_setWeight_40 rfl ?_
    refine xi_iload_n 3 dX5_setWeight_41 rfl ?_
    obtain ⟨g12, hq⟩ := chk_some hq
    obtain ⟨t13, h14, hq⟩ := wrb_some hq
    refine yi_iastoreV dX5_setWeight_42 (netAt_3 g_x) g12 h14 ?_
    refine xi_iload_n 3 dX5_setWeight_43 rfl ?_
    refine xi_if_le (tgt := 84) dX5_setWeight_44 (by decide) (fun c15 => ?_) (fun c15 => ?_)
    · replace hq := ite_p c15 hq
      refine xi_aload_n 0 dX5_setWeight_84 rfl ?_
      refine yi_getR (f := 2) dX5_setWeight_85 (netAt_0 g_x) rfl ok_5 (by decide) w_72 rfl ?_
      refine xi_iload_n 1 dX5_setWeight_88 rfl ?_
      refine xi_dup2 dX5_setWeight_89 rfl rfl ?_
      obtain ⟨g16, hq⟩ := chk_some hq
      obtain ⟨v17, h18, hq⟩ := rdb_some hq
      refine yi_ialoadV dX5_setWeight_90 (netAt_1 g_x) g16 h18 ?_
      refine xi_iconst (v := 1) dX5_setWeight_91 (by decide) ?_
      refine xi_iload_n 2 dX5_setWeight_92 rfl ?_
      refine xi_ishl (v := shl (1 : Int32) b) dX5_setWeight_93 rfl ?_
      refine xi_iconst (v := (-1)) dX5_setWeight_94 (by decide) ?_
      refine xi_ixor (v := (shl (1 : Int32) b) ^^^ (-1 : Int32)) dX5_setWeight_95 rfl ?_
      refine xi_iand (v := v17 &&& ((shl (1 : Int32) b) ^^^ (-1 : Int32))) dX5_setWeight_96 rfl ?_
      obtain ⟨g19, hq⟩ := chk_some hq
      obtain ⟨t20, h21, hq⟩ := wrb_some hq
      refine yi_iastoreV dX5_setWeight_97 (netAt_1 g_x) g19 h21 ?_
      refine xi_aload_n 0 dX5_setWeight_98 rfl ?_
      refine yi_getR (f := 2) dX5_setWeight_99 (netAt_0 g_x) rfl ok_5 (by decide) w_72 rfl ?_
      refine xi_iload_n 2 dX5_setWeight_102 rfl ?_
      refine xi_dup2 dX5_setWeight_103 rfl rfl ?_
      obtain ⟨g22, hq⟩ := chk_some hq
      obtain ⟨v23, h24, hq⟩ := rdb_some hq
      refine yi_ialoadV dX5_setWeight_104 (netAt_1 g_x) g22 h24 ?_
      refine xi_iconst (v := 1) dX5_setWeight_105 (by decide) ?_
      refine xi_iload_n 1 dX5_setWeight_106 rfl ?_
      refine xi_ishl (v := shl (1 : Int32) a) dX5_setWeight_107 rfl ?_
      refine xi_iconst (v := (-1)) dX5_setWeight_108 (by decide) ?_
      refine xi_ixor (v := (shl (1 : Int32) a) ^^^ (-1 : Int32)) dX5_setWeight_109 rfl ?_
      refine xi_iand (v := v23 &&& ((shl (1 : Int32) a) ^^^ (-1 : Int32))) dX5_setWeight_110 rfl ?_
      obtain ⟨g25, hq⟩ := chk_some hq
      obtain ⟨t26, h27, hq⟩ := wrb_some hq
      refine yi_iastoreV dX5_setWeight_111 (netAt_1 g_x) g25 h27 ?_
      have r28 := some_pair hq
      obtain ⟨rfl, rfl⟩ := r28
      exact xi_vret dX5_setWeight_112 rfl (Nat.le_of_ble_eq_true rfl) (Nat.le_of_ble_eq_true rfl) ⟨rfl, rfl⟩
    · replace hq := ite_n c15 hq
      refine xi_aload_n 0 dX5_setWeight_47 rfl ?_
      refine xi_dup dX5_setWeight_48 rfl ?_
      obtain ⟨v29, h30, hq⟩ := rdb_some hq
      refine yi_getV (f := 1) dX5_setWeight_49 (netAt_0 g_x) rfl ok_5 (by decide) w_69 rfl h30 ?_
      refine xi_iconst (v := 1) dX5_setWeight_52 (by decide) ?_
      refine xi_iadd (v := v29 + (1 : Int32)) dX5_setWeight_53 rfl ?_
      obtain ⟨t31, h32, hq⟩ := wrb_some hq
      refine yi_putV (f := 1) (ty := .int) dX5_setWeight_54 (netAt_0 g_x) rfl ok_5 (by decide) w_69 rfl rfl pf_I rfl rfl h32 ?_
      refine xi_aload_n 0 dX5_setWeight_57 rfl ?_
      refine yi_getR (f := 2) dX5_setWeight_58 (netAt_0 g_x) rfl ok_5 (by decide) w_72 rfl ?_
      refine xi_iload_n 1 dX5_setWeight_61 rfl ?_
      refine xi_dup2 dX5_setWeight_62 rfl rfl ?_
      obtain ⟨g33, hq⟩ := chk_some hq
      obtain ⟨v34, h35, hq⟩ := rdb_some hq
      refine yi_ialoadV dX5_setWeight_63 (netAt_1 g_x) g33 h35 ?_
      refine xi_iconst (v := 1) dX5_setWeight_64 (by decide) ?_
      refine xi_iload_n 2 dX5_setWeight_65 rfl ?_
      refine xi_ishl (v := shl (1 : Int32) b) dX5_setWeight_66 rfl ?_
      refine xi_ior (v := v34 ||| (shl (1 : Int32) b)) dX5_setWeight_67 rfl ?_
      obtain ⟨g36, hq⟩ := chk_some hq
      obtain ⟨t37, h38, hq⟩ := wrb_some hq
      refine yi_iastoreV dX5_setWeight_68 (netAt_1 g_x) g36 h38 ?_
      refine xi_aload_n 0 dX5_setWeight_69 rfl ?_
      refine yi_getR (f := 2) dX5_setWeight_70 (netAt_0 g_x) rfl ok_5 (by decide) w_72 rfl ?_
      refine xi_iload_n 2 dX5_setWeight_73 rfl ?_
      refine xi_dup2 dX5_setWeight_74 rfl rfl ?_
      obtain ⟨g39, hq⟩ := chk_some hq
      obtain ⟨v40, h41, hq⟩ := rdb_some hq
      refine yi_ialoadV dX5_setWeight_75 (netAt_1 g_x) g39 h41 ?_
      refine xi_iconst (v := 1) dX5_setWeight_76 (by decide) ?_
      refine xi_iload_n 1 dX5_setWeight_77 rfl ?_
      refine xi_ishl (v := shl (1 : Int32) a) dX5_setWeight_78 rfl ?_
      refine xi_ior (v := v40 ||| (shl (1 : Int32) a)) dX5_setWeight_79 rfl ?_
      obtain ⟨g42, hq⟩ := chk_some hq
      obtain ⟨t43, h44, hq⟩ := wrb_some hq
      refine yi_iastoreV dX5_setWeight_80 (netAt_1 g_x) g42 h44 ?_
      refine xi_goto (tgt := 112) dX5_setWeight_81 (by decide) ?_
      have r45 := some_pair hq
      obtain ⟨rfl, rfl⟩ := r45
      exact xi_vret dX5_setWeight_112 rfl (Nat.le_of_ble_eq_true rfl) (Nat.le_of_ble_eq_true rfl) ⟨rfl, rfl⟩
  refine xi_if_le (tgt := 19) dX5_setWeight_6 (by decide) (fun c4 => ?_) (fun c4 => ?_)
  · replace m7 := ite_p c4 m7
    obtain ⟨rfl, rfl⟩ := some_pair m7
    exact key8
  · replace m7 := ite_n c4 m7
    refine xi_aload_n 0 dX5_setWeight_9 rfl ?_
    refine xi_dup dX5_setWeight_10 rfl ?_
    obtain ⟨v46, h47, m7⟩ := rdb_some m7
    refine yi_getV (f := 1) dX5_setWeight_11 (netAt_0 g_x) rfl ok_5 (by decide) w_69 rfl h47 ?_
    refine xi_iconst (v := 1) dX5_setWeight_14 (by decide) ?_
    refine xi_isub (v := v46 - (1 : Int32)) dX5_setWeight_15 rfl ?_
    obtain ⟨t48, h49, m7⟩ := wrb_some m7
    refine yi_putV (f := 1) (ty := .int) dX5_setWeight_16 (netAt_0 g_x) rfl ok_5 (by decide) w_69 rfl rfl pf_I rfl rfl h49 ?_
    obtain ⟨rfl, rfl⟩ := some_pair m7
    exact key8
noncomputable def SX5_takeFromRow_4 (x0 : Nat) (w1 : Int32) (c : Int32 × Int32) (σ : St) : Option (((Int32 × Int32) ⊕ (Unit)) × St) :=
  (rdb σ x0 (0) (fun v1 => (if v1 ≤ c.2 then (some (Sum.inr (), σ)) else (chk (inb c.2 9) (rdb σ (x0 + 2) (c.2.toNatClampNeg) (fun v5 => (bnd (if v5 = w1 then (some (c.1, σ)) else (bnd (if w1 ≤ v5 then (some ((v5 - (1 : Int32)), σ)) else (some (v5, σ))) (fun v13 t14 => (chk (inb c.1 9) (wrb t14 (x0 + 2) (c.1.toNatClampNeg) v13 (fun t18 => (some ((c.1 + 1), t18)))))))) (fun v8 t9 => (some (Sum.inl (v8, (c.2 + 1)), t9))))))))))
set_option maxHeartbeats 4000000 in
set_option maxRecDepth 100000 in
theorem SX5_takeFromRow_4_w (G : xG) (Gb : xMem) (x0 : Nat) (w1 : Int32) (g0x : netAt x0 = true) (r0 : Unit) (t0 : St) :
    ∀ (k : Nat) (c : Int32 × Int32) (σ : St) (r : Unit) (σ' : St), itr (SX5_takeFromRow_4 x0 w1) k c σ = some (r, σ') → (xW G mX5_takeFromRow (xrm 0 0 0) (xQ G (PV r0 t0 Gb) 0 0) 56 [] [] (mem σ' Gb) 0 0) → xW G mX5_takeFromRow (xrm 0 0 0) (xQ G (PV r0 t0 Gb) 0 0) 4 [(0, .ref x0), (1, .int w1), (2, .int c.1), (3, .int c.2)] [] (mem σ Gb) 0 0 := by
  intro k
  induction k with
  | zero =>
    intro c σ r σ' h
    exact absurd h (itr_zero _ _ _ _)
  | succ k ih =>
    intro c σ r σ' h HE
    obtain ⟨x, s1, hs, h⟩ := itr_succ h
    unfold SX5_takeFromRow_4 at hs
    refine xi_iload_n 3 dX5_takeFromRow_4 rfl ?_
    refine xi_aload_n 0 dX5_takeFromRow_5 rfl ?_
    obtain ⟨v1, h2, hs⟩ := rdb_some hs
    refine yi_getV (f := 0) dX5_takeFromRow_6 (netAt_0 g0x) rfl ok_5 (by decide) w_61 rfl h2 ?_
    refine xi_icmp_ge (tgt := 56) dX5_takeFromRow_9 (by decide) (fun c3 => ?_) (fun c3 => ?_)
    · replace hs := ite_p c3 hs
      refine xi_sub (lv' := []) [] rfl ?_
      obtain ⟨rfl, rfl⟩ := some_pair hs
      obtain ⟨rfl, rfl⟩ := some_pair h
      exact HE
    · replace hs := ite_n c3 hs
      refine xi_aload_n 0 dX5_takeFromRow_12 rfl ?_
      refine yi_getR (f := 3) dX5_takeFromRow_13 (netAt_0 g0x) rfl ok_5 (by decide) w_78 rfl ?_
      refine xi_iload_n 3 dX5_takeFromRow_16 rfl ?_
      obtain ⟨g4, hs⟩ := chk_some hs
      obtain ⟨v5, h6, hs⟩ := rdb_some hs
      refine yi_ialoadV dX5_takeFromRow_17 (netAt_2 g0x) g4 h6 ?_
      refine xi_istore (lv' := [(4, .int v5), (0, .ref x0), (1, .int w1), (2, .int c.1), (3, .int c.2)]) dX5_takeFromRow_18 (by decide) rfl ?_
      refine xi_iload 0 dX5_takeFromRow_20 rfl ?_
      refine xi_iload_n 2 dX5_takeFromRow_22 rfl ?_
      obtain ⟨v8, t9, m10, hs⟩ := bnd_some hs
      have key11 : xW G mX5_takeFromRow (xrm 0 0 0) (xQ G (PV r0 t0 Gb) 0 0) 50 [(0, .ref x0), (1, .int w1), (2, .int v8), (3, .int c.2)] [] (mem t9 Gb) 0 0 := by
        refine xi_iinc (v := (c.2 + 1)) (lv' := [(3, .int (c.2 + 1)), (0, .ref x0), (1, .int w1), (2, .int v8)]) 3 dX5_takeFromRow_50 rfl rfl (by decide) rfl ?_
        refine xi_goto (tgt := 4) dX5_takeFromRow_53 (by decide) ?_
        refine xi_sub (lv' := [(0, .ref x0), (1, .int w1), (2, .int v8), (3, .int (c.2 + 1))]) [1, 2, 3, 0] rfl ?_
        obtain ⟨rfl, rfl⟩ := some_pair hs
        exact ih (v8, (c.2 + 1)) t9 _ _ h HE
      refine xi_icmp_eq (tgt := 50) dX5_takeFromRow_23 (by decide) (fun c7 => ?_) (fun c7 => ?_)
      · replace m10 := ite_p c7 m10
        obtain ⟨rfl, rfl⟩ := some_pair m10
        refine xi_sub (lv' := [(0, .ref x0), (1, .int w1), (2, .int c.1), (3, .int c.2)]) [1, 2, 3, 4] rfl ?_
        exact key11
      · replace m10 := ite_n c7 m10
        refine xi_aload_n 1 dX5_takeFromRow_26 rfl ?_
        refine yi_getR (f := 3) dX5_takeFromRow_27 (netAt_0 g0x) rfl ok_5 (by decide) w_78 rfl ?_
        refine xi_iload_n 3 dX5_takeFromRow_30 rfl ?_
        refine xi_iload 0 dX5_takeFromRow_31 rfl ?_
        refine xi_iload_n 2 dX5_takeFromRow_33 rfl ?_
        obtain ⟨v13, t14, m15, m10⟩ := bnd_some m10
        have key16 : xW G mX5_takeFromRow (xrm 0 0 0) (xQ G (PV r0 t0 Gb) 0 0) 46 [(0, .ref x0), (1, .int w1), (2, .int c.1), (3, .int c.2)] [.int v13, .int c.1, .ref (x0 + 2)] (mem t14 Gb) 0 0 := by
          obtain ⟨g17, m10⟩ := chk_some m10
          obtain ⟨t18, h19, m10⟩ := wrb_some m10
          refine yi_iastoreV dX5_takeFromRow_46 (netAt_2 g0x) g17 h19 ?_
          refine xi_iinc (v := (c.1 + 1)) (lv' := [(2, .int (c.1 + 1)), (0, .ref x0), (1, .int w1), (3, .int c.2)]) 2 dX5_takeFromRow_47 rfl rfl (by decide) rfl ?_
          obtain ⟨rfl, rfl⟩ := some_pair m10
          refine xi_sub (lv' := [(0, .ref x0), (1, .int w1), (2, .int (c.1 + 1)), (3, .int c.2)]) [1, 2, 0, 3] rfl ?_
          exact key11
        refine xi_icmp_ge (tgt := 42) dX5_takeFromRow_34 (by decide) (fun c12 => ?_) (fun c12 => ?_)
        · replace m15 := ite_p c12 m15
          refine xi_iload 0 dX5_takeFromRow_42 rfl ?_
          refine xi_iconst (v := 1) dX5_takeFromRow_44 (by decide) ?_
          refine xi_isub (v := v5 - (1 : Int32)) dX5_takeFromRow_45 rfl ?_
          obtain ⟨rfl, rfl⟩ := some_pair m15
          refine xi_sub (lv' := [(0, .ref x0), (1, .int w1), (2, .int c.1), (3, .int c.2)]) [1, 2, 3, 4] rfl ?_
          exact key16
        · replace m15 := ite_n c12 m15
          refine xi_iload 0 dX5_takeFromRow_37 rfl ?_
          refine xi_goto (tgt := 46) dX5_takeFromRow_39 (by decide) ?_
          obtain ⟨rfl, rfl⟩ := some_pair m15
          refine xi_sub (lv' := [(0, .ref x0), (1, .int w1), (2, .int c.1), (3, .int c.2)]) [1, 2, 3, 4] rfl ?_
          exact key16
noncomputable def FX5_takeFromRow (x : Nat) (a : Int32) (σ : St) : Option ((Unit) × St) :=
  (chk (netAt x) (bnd (wh (SX5_takeFromRow_4 x a) ((0 : Int32), (0 : Int32)) σ) (fun e20 t21 => (some ((), t21)))))
set_option maxHeartbeats 4000000 in
set_option maxRecDepth 100000 in
theorem KX5_takeFromRow (G : xG) (Gb : xMem) (x : Nat) (a : Int32) (σ : St) (r0 : Unit) (t0 : St) (hq : FX5_takeFromRow x a σ = some (r0, t0)) : xC G mX5_takeFromRow 0 0 0 [.ref x, .int a] (mem σ Gb) (PV r0 t0 Gb) := by
  unfold FX5_takeFromRow at hq
  refine xC.of (by decide) (Nat.le_of_ble_eq_true rfl) ?_
  show xW _ _ _ _ 0 [(0, .ref x), (1, .int a)] [] _ 0 0
  obtain ⟨g_x, hq⟩ := chk_some hq
  refine xi_iconst (v := 0) dX5_takeFromRow_0 (by decide) ?_
  refine xi_istore_n (lv' := [(2, .int 0), (0, .ref x), (1, .int a)]) dX5_takeFromRow_1 (by decide) rfl ?_
  refine xi_iconst (v := 0) dX5_takeFromRow_2 (by decide) ?_
  refine xi_istore_n (lv' := [(3, .int 0), (2, .int 0), (0, .ref x), (1, .int a)]) dX5_takeFromRow_3 (by decide) rfl ?_
  refine xi_sub (lv' := [(0, .ref x), (1, .int a), (2, .int 0), (3, .int 0)]) [2, 3, 1, 0] rfl ?_
  obtain ⟨e20, t21, k22, hq⟩ := bnd_some hq
  obtain ⟨n23, k22⟩ := wh_itr k22
  refine SX5_takeFromRow_4_w G Gb x a g_x r0 t0 n23 ((0 : Int32), (0 : Int32)) σ _ _ k22 ?_
  show xW G mX5_takeFromRow (xrm 0 0 0) (xQ G (PV r0 t0 Gb) 0 0) 56 [] [] (mem t21 Gb) 0 0
  have r24 := some_pair hq
  obtain ⟨rfl, rfl⟩ := r24
  exact xi_vret dX5_takeFromRow_56 rfl (Nat.le_of_ble_eq_true rfl) (Nat.le_of_ble_eq_true rfl) ⟨rfl, rfl⟩
noncomputable def SX5_takeOut_19 (x0 : Nat) (w1 : Int32) (w2 : Int32) (w3 : Int32) (c : Int32) (σ : St) : Option (((Int32) ⊕ (Unit)) × St) :=
  (if w2 ≤ c then (some (Sum.inr (), σ)) else (bnd (if w1 ≤ w3 then (some ((w3 + (1 : Int32)), σ)) else (some (w3, σ))) (fun v6 t7 => (bnd (if w1 ≤ c then (some ((c + (1 : Int32)), t7)) else (some (c, t7))) (fun v11 t12 => (bnd (FX5_weightOf x0 v6 v11 t12) (fun v15 t16 => (bnd (FX5_setWeight x0 w3 c v15 t16) (fun v18 t19 => (some (Sum.inl (c + 1), t19)))))))))))
noncomputable def SX5_takeOut_9 (x0 : Nat) (w1 : Int32) (w2 : Int32) (c : Int32) (σ : St) : Option (((Int32) ⊕ (Unit)) × St) :=
  (if w2 ≤ c then (some (Sum.inr (), σ)) else (bnd (wh (SX5_takeOut_19 x0 w1 w2 c) (c + (1 : Int32)) σ) (fun e21 t22 => (some (Sum.inl (c + 1), t22)))))
noncomputable def SX5_takeOut_77 (x0 : Nat) (w1 : Int32) (w2 : Int32) (c : Int32) (σ : St) : Option (((Int32) ⊕ (Unit)) × St) :=
  (if w2 ≤ c then (some (Sum.inr (), σ)) else (bnd (FX5_setWeight x0 c w2 (0 : Int32) σ) (fun v30 t31 => (some (Sum.inl (c + 1), t31)))))
set_option maxHeartbeats 4000000 in
set_option maxRecDepth 100000 in
theorem SX5_takeOut_19_w (G : xG) (Gb : xMem) (x0 : Nat) (w1 : Int32) (w2 : Int32) (w3 : Int32) (g0x : netAt x0 = true) (r0 : Unit) (t0 : St) :
    ∀ (k : Nat) (c : Int32) (σ : St) (r : Unit) (σ' : St), itr (SX5_takeOut_19 x0 w1 w2 w3) k c σ = some (r, σ') → (xW G mX5_takeOut (xrm 2 0 0) (xQ G (PV r0 t0 Gb) 0 0) 69 [(0, .ref x0), (1, .int w1), (2, .int w2), (3, .int w3)] [] (mem σ' Gb) 0 0) → xW G mX5_takeOut (xrm 2 0 0) (xQ G (PV r0 t0 Gb) 0 0) 19 [(0, .ref x0), (1, .int w1), (2, .int w2), (3, .int w3), (4, .int c)] [] (mem σ Gb) 0 0 := by
  intro k
  induction k with
  | zero =>
    intro c σ r σ' h
    exact absurd h (itr_zero _ _ _ _)
  | succ k ih =>
    intro c σ r σ' h HE
    obtain ⟨x, s1, hs, h⟩ := itr_succ h
    unfold SX5_takeOut_19 at hs
    refine xi_iload 4 dX5_takeOut_19 rfl ?_
    refine xi_iload_n 2 dX5_takeOut_21 rfl ?_
    refine xi_icmp_ge (tgt := 69) dX5_takeOut_22 (by decide) (fun c4 => ?_) (fun c4 => ?_)
    · replace hs := ite_p c4 hs
      refine xi_sub (lv' := [(0, .ref x0), (1, .int w1), (2, .int w2), (3, .int w3)]) [0, 1, 2, 3] rfl ?_
      obtain ⟨rfl, rfl⟩ := some_pair hs
      obtain ⟨rfl, rfl⟩ := some_pair h
      exact HE
    · replace hs := ite_n c4 hs
      refine xi_aload_n 0 dX5_takeOut_25 rfl ?_
      refine xi_iload_n 3 dX5_takeOut_26 rfl ?_
      refine xi_iload 4 dX5_takeOut_27 rfl ?_
      refine xi_aload_n 0 dX5_takeOut_29 rfl ?_
      refine xi_iload_n 3 dX5_takeOut_30 rfl ?_
      refine xi_iload_n 1 dX5_takeOut_31 rfl ?_
      obtain ⟨v6, t7, m8, hs⟩ := bnd_some hs
      have key9 : xW G mX5_takeOut (xrm 2 0 0) (xQ G (PV r0 t0 Gb) 0 0) 42 [(0, .ref x0), (1, .int w1), (2, .int w2), (3, .int w3), (4, .int c)] [.int v6, .ref x0, .int c, .int w3, .ref x0] (mem t7 Gb) 0 0 := by
        refine xi_iload 4 dX5_takeOut_42 rfl ?_
        refine xi_iload_n 1 dX5_takeOut_44 rfl ?_
        obtain ⟨v11, t12, m13, hs⟩ := bnd_some hs
        have key14 : xW G mX5_takeOut (xrm 2 0 0) (xQ G (PV r0 t0 Gb) 0 0) 57 [(0, .ref x0), (1, .int w1), (2, .int w2), (3, .int w3), (4, .int c)] [.int v11, .int v6, .ref x0, .int c, .int w3, .ref x0] (mem t12 Gb) 0 0 := by
          obtain ⟨v15, t16, k17, hs⟩ := bnd_some hs
          refine xi_callV (as := [.int v6, .int v11]) (rest := [.int c, .int w3, .ref x0]) dX5_takeOut_57 (KX5_weightOf G Gb x0 v6 v11 _ _ _ k17) mkX5_weightOf w_415 w_416 w_426 (mem_get (netAt_0 g0x)) rfl rfl rfl rfl (Nat.le_of_ble_eq_true rfl) (Nat.le_of_ble_eq_true rfl) (Nat.le_of_ble_eq_true rfl) (Nat.le_of_ble_eq_true rfl) (Nat.le_of_ble_eq_true rfl) ?_
          intro v M2 hz
          obtain ⟨rfl, rfl⟩ := hz
          show xW _ _ _ _ 60 _ [.int v15, .int c, .int w3, .ref x0] (mem t16 Gb) _ _
          obtain ⟨v18, t19, k20, hs⟩ := bnd_some hs
          refine xi_callV (as := [.int w3, .int c, .int v15]) (rest := []) dX5_takeOut_60 (KX5_setWeight G Gb x0 w3 c v15 _ _ _ k20) mkX5_setWeight w_423 w_424 w_799 (mem_get (netAt_0 g0x)) rfl rfl rfl rfl (Nat.le_of_ble_eq_true rfl) (Nat.le_of_ble_eq_true rfl) (Nat.le_of_ble_eq_true rfl) (Nat.le_of_ble_eq_true rfl) (Nat.le_of_ble_eq_true rfl) ?_
          intro v M2 hz
          obtain ⟨rfl, rfl⟩ := hz
          show xW _ _ _ _ 63 _ [] (mem t19 Gb) _ _
          refine xi_iinc (v := (c + 1)) (lv' := [(4, .int (c + 1)), (0, .ref x0), (1, .int w1), (2, .int w2), (3, .int w3)]) 4 dX5_takeOut_63 rfl rfl (by decide) rfl ?_
          refine xi_goto (tgt := 19) dX5_takeOut_66 (by decide) ?_
          refine xi_sub (lv' := [(0, .ref x0), (1, .int w1), (2, .int w2), (3, .int w3), (4, .int (c + 1))]) [1, 2, 3, 4, 0] rfl ?_
          obtain ⟨rfl, rfl⟩ := some_pair hs
          exact ih (c + 1) t19 _ _ h HE
        refine xi_icmp_ge (tgt := 53) dX5_takeOut_45 (by decide) (fun c10 => ?_) (fun c10 => ?_)
        · replace m13 := ite_p c10 m13
          refine xi_iload 4 dX5_takeOut_53 rfl ?_
          refine xi_iconst (v := 1) dX5_takeOut_55 (by decide) ?_
          refine xi_iadd (v := c + (1 : Int32)) dX5_takeOut_56 rfl ?_
          obtain ⟨rfl, rfl⟩ := some_pair m13
          exact key14
        · replace m13 := ite_n c10 m13
          refine xi_iload 4 dX5_takeOut_48 rfl ?_
          refine xi_goto (tgt := 57) dX5_takeOut_50 (by decide) ?_
          obtain ⟨rfl, rfl⟩ := some_pair m13
          exact key14
      refine xi_icmp_ge (tgt := 39) dX5_takeOut_32 (by decide) (fun c5 => ?_) (fun c5 => ?_)
      · replace m8 := ite_p c5 m8
        refine xi_iload_n 3 dX5_takeOut_39 rfl ?_
        refine xi_iconst (v := 1) dX5_takeOut_40 (by decide) ?_
        refine xi_iadd (v := w3 + (1 : Int32)) dX5_takeOut_41 rfl ?_
        obtain ⟨rfl, rfl⟩ := some_pair m8
        exact key9
      · replace m8 := ite_n c5 m8
        refine xi_iload_n 3 dX5_takeOut_35 rfl ?_
        refine xi_goto (tgt := 42) dX5_takeOut_36 (by decide) ?_
        obtain ⟨rfl, rfl⟩ := some_pair m8
        exact key9
set_option maxHeartbeats 4000000 in
set_option maxRecDepth 100000 in
theorem SX5_takeOut_9_w (G : xG) (Gb : xMem) (x0 : Nat) (w1 : Int32) (w2 : Int32) (g0x : netAt x0 = true) (r0 : Unit) (t0 : St) :
    ∀ (k : Nat) (c : Int32) (σ : St) (r : Unit) (σ' : St), itr (SX5_takeOut_9 x0 w1 w2) k c σ = some (r, σ') → (xW G mX5_takeOut (xrm 2 0 0) (xQ G (PV r0 t0 Gb) 0 0) 75 [(0, .ref x0), (1, .int w1), (2, .int w2)] [] (mem σ' Gb) 0 0) → xW G mX5_takeOut (xrm 2 0 0) (xQ G (PV r0 t0 Gb) 0 0) 9 [(0, .ref x0), (1, .int w1), (2, .int w2), (3, .int c)] [] (mem σ Gb) 0 0 := by
  intro k
  induction k with
  | zero =>
    intro c σ r σ' h
    exact absurd h (itr_zero _ _ _ _)
  | succ k ih =>
    intro c σ r σ' h HE
    obtain ⟨x, s1, hs, h⟩ := itr_succ h
    unfold SX5_takeOut_9 at hs
    refine xi_iload_n 3 dX5_takeOut_9 rfl ?_
    refine xi_iload_n 2 dX5_takeOut_10 rfl ?_
    refine xi_icmp_ge (tgt := 75) dX5_takeOut_11 (by decide) (fun c3 => ?_) (fun c3 => ?_)
    · replace hs := ite_p c3 hs
      refine xi_sub (lv' := [(0, .ref x0), (1, .int w1), (2, .int w2)]) [0, 1, 2] rfl ?_
      obtain ⟨rfl, rfl⟩ := some_pair hs
      obtain ⟨rfl, rfl⟩ := some_pair h
      exact HE
    · replace hs := ite_n c3 hs
      refine xi_iload_n 3 dX5_takeOut_14 rfl ?_
      refine xi_iconst (v := 1) dX5_takeOut_15 (by decide) ?_
      refine xi_iadd (v := c + (1 : Int32)) dX5_takeOut_16 rfl ?_
      refine xi_istore (lv' := [(4, .int (c + (1 : Int32))), (0, .ref x0), (1, .int w1), (2, .int w2), (3, .int c)]) dX5_takeOut_17 (by decide) rfl ?_
      refine xi_sub (lv' := [(0, .ref x0), (1, .int w1), (2, .int w2), (3, .int c), (4, .int (c + (1 : Int32)))]) [1, 2, 3, 4, 0] rfl ?_
      obtain ⟨e21, t22, k23, hs⟩ := bnd_some hs
      obtain ⟨n24, k23⟩ := wh_itr k23
      refine SX5_takeOut_19_w G Gb x0 w1 w2 c g0x r0 t0 n24 (c + (1 : Int32)) σ _ _ k23 ?_
      show xW G mX5_takeOut (xrm 2 0 0) (xQ G (PV r0 t0 Gb) 0 0) 69 [(0, .ref x0), (1, .int w1), (2, .int w2), (3, .int c)] [] (mem t22 Gb) 0 0
      refine xi_iinc (v := (c + 1)) (lv' := [(3, .int (c + 1)), (0, .ref x0), (1, .int w1), (2, .int w2)]) 3 dX5_takeOut_69 rfl rfl (by decide) rfl ?_
      refine xi_goto (tgt := 9) dX5_takeOut_72 (by decide) ?_
      refine xi_sub (lv' := [(0, .ref x0), (1, .int w1), (2, .int w2), (3, .int (c + 1))]) [1, 2, 3, 0] rfl ?_
      obtain ⟨rfl, rfl⟩ := some_pair hs
      exact ih (c + 1) t22 _ _ h HE
set_option maxHeartbeats 4000000 in
set_option maxRecDepth 100000 in
theorem SX5_takeOut_77_w (G : xG) (Gb : xMem) (x0 : Nat) (w1 : Int32) (w2 : Int32) (g0x : netAt x0 = true) (r0 : Unit) (t0 : St) :
    ∀ (k : Nat) (c : Int32) (σ : St) (r : Unit) (σ' : St), itr (SX5_takeOut_77 x0 w1 w2) k c σ = some (r, σ') → (xW G mX5_takeOut (xrm 2 0 0) (xQ G (PV r0 t0 Gb) 0 0) 95 [(0, .ref x0), (1, .int w1), (2, .int w2)] [] (mem σ' Gb) 0 0) → xW G mX5_takeOut (xrm 2 0 0) (xQ G (PV r0 t0 Gb) 0 0) 77 [(0, .ref x0), (1, .int w1), (2, .int w2), (3, .int c)] [] (mem σ Gb) 0 0 := by
  intro k
  induction k with
  | zero =>
    intro c σ r σ' h
    exact absurd h (itr_zero _ _ _ _)
  | succ k ih =>
    intro c σ r σ' h HE
    obtain ⟨x, s1, hs, h⟩ := itr_succ h
    unfold SX5_takeOut_77 at hs
    refine xi_iload_n 3 dX5_takeOut_77 rfl ?_
    refine xi_iload_n 2 dX5_takeOut_78 rfl ?_
    refine xi_icmp_ge (tgt := 95) dX5_takeOut_79 (by decide) (fun c29 => ?_) (fun c29 => ?_)
    · replace hs := ite_p c29 hs
      refine xi_sub (lv' := [(0, .ref x0), (1, .int w1), (2, .int w2)]) [0, 1, 2] rfl ?_
      obtain ⟨rfl, rfl⟩ := some_pair hs
      obtain ⟨rfl, rfl⟩ := some_pair h
      exact HE
    · replace hs := ite_n c29 hs
      refine xi_aload_n 0 dX5_takeOut_82 rfl ?_
      refine xi_iload_n 3 dX5_takeOut_83 rfl ?_
      refine xi_iload_n 2 dX5_takeOut_84 rfl ?_
      refine xi_iconst (v := 0) dX5_takeOut_85 (by decide) ?_
      obtain ⟨v30, t31, k32, hs⟩ := bnd_some hs
      refine xi_callV (as := [.int c, .int w2, .int 0]) (rest := []) dX5_takeOut_86 (KX5_setWeight G Gb x0 c w2 (0 : Int32) _ _ _ k32) mkX5_setWeight w_423 w_424 w_799 (mem_get (netAt_0 g0x)) rfl rfl rfl rfl (Nat.le_of_ble_eq_true rfl) (Nat.le_of_ble_eq_true rfl) (Nat.le_of_ble_eq_true rfl) (Nat.le_of_ble_eq_true rfl) (Nat.le_of_ble_eq_true rfl) ?_
      intro v M2 hz
      obtain ⟨rfl, rfl⟩ := hz
      show xW _ _ _ _ 89 _ [] (mem t31 Gb) _ _
      refine xi_iinc (v := (c + 1)) (lv' := [(3, .int (c + 1)), (0, .ref x0), (1, .int w1), (2, .int w2)]) 3 dX5_takeOut_89 rfl rfl (by decide) rfl ?_
      refine xi_goto (tgt := 77) dX5_takeOut_92 (by decide) ?_
      refine xi_sub (lv' := [(0, .ref x0), (1, .int w1), (2, .int w2), (3, .int (c + 1))]) [1, 2, 3, 0] rfl ?_
      obtain ⟨rfl, rfl⟩ := some_pair hs
      exact ih (c + 1) t31 _ _ h HE
noncomputable def FX5_takeOut (x : Nat) (a : Int32) (σ : St) : Option ((Unit) × St) :=
  (chk (netAt x) (rdb σ x (0) (fun v1 => (bnd (wh (SX5_takeOut_9 x a (v1 - (1 : Int32))) (0 : Int32) σ) (fun e25 t26 => (bnd (wh (SX5_takeOut_77 x a (v1 - (1 : Int32))) (0 : Int32) t26) (fun e33 t34 => (bnd (FX5_takeFromRow x a t34) (fun v37 t38 => (wrb t38 x (0) (v1 - (1 : Int32)) (fun t40 => (some ((), t40)))))))))))))
set_option maxHeartbeats 4000000 in
set_option maxRecDepth 100000 in
theorem KX5_takeOut (G : xG) (Gb : xMem) (x : Nat) (a : Int32) (σ : St) (r0 : Unit) (t0 : St) (hq : FX5_takeOut x a σ = some (r0, t0)) : xC G mX5_takeOut 2 0 0 [.ref x, .int a] (mem σ Gb) (PV r0 t0 Gb) := by
  unfold FX5_takeOut at hq
  refine xC.of (by decide) (Nat.le_of_ble_eq_true rfl) ?_
  show xW _ _ _ _ 0 [(0, .ref x), (1, .int a)] [] _ 0 0
  obtain ⟨g_x, hq⟩ := chk_some hq
  refine xi_aload_n 0 dX5_takeOut_0 rfl ?_
  obtain ⟨v1, h2, hq⟩ := rdb_some hq
  refine yi_getV (f := 0) dX5_takeOut_1 (netAt_0 g_x) rfl ok_5 (by decide) w_61 rfl h2 ?_
  refine xi_iconst (v := 1) dX5_takeOut_4 (by decide) ?_
  refine xi_isub (v := v1 - (1 : Int32)) dX5_takeOut_5 rfl ?_
  refine xi_istore_n (lv' := [(2, .int (v1 - (1 : Int32))), (0, .ref x), (1, .int a)]) dX5_takeOut_6 (by decide) rfl ?_
  refine xi_iconst (v := 0) dX5_takeOut_7 (by decide) ?_
  refine xi_istore_n (lv' := [(3, .int 0), (2, .int (v1 - (1 : Int32))), (0, .ref x), (1, .int a)]) dX5_takeOut_8 (by decide) rfl ?_
  refine xi_sub (lv' := [(0, .ref x), (1, .int a), (2, .int (v1 - (1 : Int32))), (3, .int 0)]) [2, 3, 1, 0] rfl ?_
  obtain ⟨e25, t26, k27, hq⟩ := bnd_some hq
  obtain ⟨n28, k27⟩ := wh_itr k27
  refine SX5_takeOut_9_w G Gb x a (v1 - (1 : Int32)) g_x r0 t0 n28 (0 : Int32) σ _ _ k27 ?_
  show xW G mX5_takeOut (xrm 2 0 0) (xQ G (PV r0 t0 Gb) 0 0) 75 [(0, .ref x), (1, .int a), (2, .int (v1 - (1 : Int32)))] [] (mem t26 Gb) 0 0
  refine xi_iconst (v := 0) dX5_takeOut_75 (by decide) ?_
  refine xi_istore_n (lv' := [(3, .int 0), (0, .ref x), (1, .int a), (2, .int (v1 - (1 : Int32)))]) dX5_takeOut_76 (by decide) rfl ?_
  refine xi_sub (lv' := [(0, .ref x), (1, .int a), (2, .int (v1 - (1 : Int32))), (3, .int 0)]) [1, 2, 3, 0] rfl ?_
  obtain ⟨e33, t34, k35, hq⟩ := bnd_some hq
  obtain ⟨n36, k35⟩ := wh_itr k35
  refine SX5_takeOut_77_w G Gb x a (v1 - (1 : Int32)) g_x r0 t0 n36 (0 : Int32) t26 _ _ k35 ?_
  show xW G mX5_takeOut (xrm 2 0 0) (xQ G (PV r0 t0 Gb) 0 0) 95 [(0, .ref x), (1, .int a), (2, .int (v1 - (1 : Int32)))] [] (mem t34 Gb) 0 0
  refine xi_aload_n 0 dX5_takeOut_95 rfl ?_
  refine xi_iload_n 1 dX5_takeOut_96 rfl ?_
  obtain ⟨v37, t38, k39, hq⟩ := bnd_some hq
  refine xi_callV (as := [.int a]) (rest := []) dX5_takeOut_97 (KX5_takeFromRow G Gb x a _ _ _ k39) mkX5_takeFromRow w_802 ws_30 w_800 (mem_get (netAt_0 g_x)) rfl rfl rfl rfl (Nat.le_of_ble_eq_true rfl) (Nat.le_of_ble_eq_true rfl) (Nat.le_of_ble_eq_true rfl) (Nat.le_of_ble_eq_true rfl) (Nat.le_of_ble_eq_true rfl) ?_
  intro v M2 hz
  obtain ⟨rfl, rfl⟩ := hz
  show xW _ _ _ _ 100 _ [] (mem t38 Gb) _ _
  refine xi_aload_n 0 dX5_takeOut_100 rfl ?_
  refine xi_iload_n 2 dX5_takeOut_101 rfl ?_
  obtain ⟨t40, h41, hq⟩ := wrb_some hq
  refine yi_putV (f := 0) (ty := .int) dX5_takeOut_102 (netAt_0 g_x) rfl ok_5 (by decide) w_61 rfl rfl pf_I rfl rfl h41 ?_
  have r42 := some_pair hq
  obtain ⟨rfl, rfl⟩ := r42
  exact xi_vret dX5_takeOut_105 rfl (Nat.le_of_ble_eq_true rfl) (Nat.le_of_ble_eq_true rfl) ⟨rfl, rfl⟩
noncomputable def SX5_drawTogether_16 (x0 : Nat) (w3 : Int32) (w4 : Int32) (c : Int32) (σ : St) : Option (((Int32) ⊕ (Unit)) × St) :=
  (rdb σ x0 (0) (fun v1 => (if v1 ≤ c then (some (Sum.inr (), σ)) else (bnd (if c = w3 then (some ((), σ)) else (if c = w4 then (some ((), σ)) else (bnd (FX5_weightOf x0 w4 c σ) (fun v10 t11 => (if v10 ≤ (0 : Int32) then (some ((), t11)) else (bnd (FX5_weightOf x0 w3 c t11) (fun v14 t15 => (bnd (FX5_weightOf x0 w4 c t15) (fun v17 t18 => (bnd (FX5_setWeight x0 w3 c (mnI (9 : Int32) (v14 + v17)) t18) (fun v20 t21 => (some ((), t21))))))))))))) (fun v5 t6 => (some (Sum.inl (c + 1), t6)))))))
set_option maxHeartbeats 4000000 in
set_option maxRecDepth 100000 in
theorem SX5_drawTogether_16_w (G : xG) (Gb : xMem) (x0 : Nat) (w3 : Int32) (w4 : Int32) (g0x : netAt x0 = true) (r0 : Unit) (t0 : St) :
    ∀ (k : Nat) (c : Int32) (σ : St) (r : Unit) (σ' : St), itr (SX5_drawTogether_16 x0 w3 w4) k c σ = some (r, σ') → (xW G mX5_drawTogether (xrm 3 0 0) (xQ G (PV r0 t0 Gb) 0 0) 87 [(0, .ref x0), (4, .int w4)] [] (mem σ' Gb) 0 0) → xW G mX5_drawTogether (xrm 3 0 0) (xQ G (PV r0 t0 Gb) 0 0) 16 [(0, .ref x0), (3, .int w3), (4, .int w4), (5, .int c)] [] (mem σ Gb) 0 0 := by
  intro k
  induction k with
  | zero =>
    intro c σ r σ' h
    exact absurd h (itr_zero _ _ _ _)
  | succ k ih =>
    intro c σ r σ' h HE
    obtain ⟨x, s1, hs, h⟩ := itr_succ h
    unfold SX5_drawTogether_16 at hs
    refine xi_iload 3 dX5_drawTogether_16 rfl ?_
    refine xi_aload_n 0 dX5_drawTogether_18 rfl ?_
    obtain ⟨v1, h2, hs⟩ := rdb_some hs
    refine yi_getV (f := 0) dX5_drawTogether_19 (netAt_0 g0x) rfl ok_5 (by decide) w_61 rfl h2 ?_
    refine xi_icmp_ge (tgt := 87) dX5_drawTogether_22 (by decide) (fun c3 => ?_) (fun c3 => ?_)
    · replace hs := ite_p c3 hs
      refine xi_sub (lv' := [(0, .ref x0), (4, .int w4)]) [0, 2] rfl ?_
      obtain ⟨rfl, rfl⟩ := some_pair hs
      obtain ⟨rfl, rfl⟩ := some_pair h
      exact HE
    · replace hs := ite_n c3 hs
      refine xi_iload 3 dX5_drawTogether_25 rfl ?_
      refine xi_iload_n 1 dX5_drawTogether_27 rfl ?_
      obtain ⟨v5, t6, m7, hs⟩ := bnd_some hs
      have key8 : xW G mX5_drawTogether (xrm 3 0 0) (xQ G (PV r0 t0 Gb) 0 0) 81 [(0, .ref x0), (3, .int w3), (4, .int w4), (5, .int c)] [] (mem t6 Gb) 0 0 := by
        refine xi_iinc (v := (c + 1)) (lv' := [(5, .int (c + 1)), (0, .ref x0), (3, .int w3), (4, .int w4)]) 3 dX5_drawTogether_81 rfl rfl (by decide) rfl ?_
        refine xi_goto (tgt := 16) dX5_drawTogether_84 (by decide) ?_
        refine xi_sub (lv' := [(0, .ref x0), (3, .int w3), (4, .int w4), (5, .int (c + 1))]) [1, 2, 3, 0] rfl ?_
        obtain ⟨rfl, rfl⟩ := some_pair hs
        exact ih (c + 1) t6 _ _ h HE
      refine xi_icmp_eq (tgt := 81) dX5_drawTogether_28 (by decide) (fun c4 => ?_) (fun c4 => ?_)
      · replace m7 := ite_p c4 m7
        obtain ⟨rfl, rfl⟩ := some_pair m7
        exact key8
      · replace m7 := ite_n c4 m7
        refine xi_iload 3 dX5_drawTogether_31 rfl ?_
        refine xi_iload 2 dX5_drawTogether_33 rfl ?_
        refine xi_icmp_eq (tgt := 81) dX5_drawTogether_35 (by decide) (fun c9 => ?_) (fun c9 => ?_)
        · replace m7 := ite_p c9 m7
          obtain ⟨rfl, rfl⟩ := some_pair m7
          exact key8
        · replace m7 := ite_n c9 m7
          refine xi_aload_n 0 dX5_drawTogether_38 rfl ?_
          refine xi_iload 2 dX5_drawTogether_39 rfl ?_
          refine xi_iload 3 dX5_drawTogether_41 rfl ?_
          obtain ⟨v10, t11, k12, m7⟩ := bnd_some m7
          refine xi_callV (as := [.int w4, .int c]) (rest := []) dX5_drawTogether_43 (KX5_weightOf G Gb x0 w4 c _ _ _ k12) mkX5_weightOf w_415 w_416 w_426 (mem_get (netAt_0 g0x)) rfl rfl rfl rfl (Nat.le_of_ble_eq_true rfl) (Nat.le_of_ble_eq_true rfl) (Nat.le_of_ble_eq_true rfl) (Nat.le_of_ble_eq_true rfl) (Nat.le_of_ble_eq_true rfl) ?_
          intro v M2 hz
          obtain ⟨rfl, rfl⟩ := hz
          show xW _ _ _ _ 46 _ [.int v10] (mem t11 Gb) _ _
          refine xi_if_le (tgt := 81) dX5_drawTogether_46 (by decide) (fun c13 => ?_) (fun c13 => ?_)
          · replace m7 := ite_p c13 m7
            obtain ⟨rfl, rfl⟩ := some_pair m7
            exact key8
          · replace m7 := ite_n c13 m7
            refine xi_aload_n 0 dX5_drawTogether_49 rfl ?_
            refine xi_iload_n 1 dX5_drawTogether_50 rfl ?_
            refine xi_iload 3 dX5_drawTogether_51 rfl ?_
            obtain ⟨v14, t15, k16, m7⟩ := bnd_some m7
            refine xi_callV (as := [.int w3, .int c]) (rest := []) dX5_drawTogether_53 (KX5_weightOf G Gb x0 w3 c _ _ _ k16) mkX5_weightOf w_415 w_416 w_426 (mem_get (netAt_0 g0x)) rfl rfl rfl rfl (Nat.le_of_ble_eq_true rfl) (Nat.le_of_ble_eq_true rfl) (Nat.le_of_ble_eq_true rfl) (Nat.le_of_ble_eq_true rfl) (Nat.le_of_ble_eq_true rfl) ?_
            intro v M2 hz
            obtain ⟨rfl, rfl⟩ := hz
            show xW _ _ _ _ 56 _ [.int v14] (mem t15 Gb) _ _
            refine xi_aload_n 0 dX5_drawTogether_56 rfl ?_
            refine xi_iload 2 dX5_drawTogether_57 rfl ?_
            refine xi_iload 3 dX5_drawTogether_59 rfl ?_
            obtain ⟨v17, t18, k19, m7⟩ := bnd_some m7
            refine xi_callV (as := [.int w4, .int c]) (rest := [.int v14]) dX5_drawTogether_61 (KX5_weightOf G Gb x0 w4 c _ _ _ k19) mkX5_weightOf w_415 w_416 w_426 (mem_get (netAt_0 g0x)) rfl rfl rfl rfl (Nat.le_of_ble_eq_true rfl) (Nat.le_of_ble_eq_true rfl) (Nat.le_of_ble_eq_true rfl) (Nat.le_of_ble_eq_true rfl) (Nat.le_of_ble_eq_true rfl) ?_
            intro v M2 hz
            obtain ⟨rfl, rfl⟩ := hz
            show xW _ _ _ _ 64 _ [.int v17, .int v14] (mem t18 Gb) _ _
            refine xi_iadd (v := v14 + v17) dX5_drawTogether_64 rfl ?_
            refine xi_istore (lv' := [(6, .int (v14 + v17)), (0, .ref x0), (3, .int w3), (4, .int w4), (5, .int c)]) dX5_drawTogether_65 (by decide) rfl ?_
            refine xi_aload_n 1 dX5_drawTogether_67 rfl ?_
            refine xi_iload_n 2 dX5_drawTogether_68 rfl ?_
            refine xi_iload 4 dX5_drawTogether_69 rfl ?_
            refine xi_bipush (v := 9) dX5_drawTogether_71 (by decide) ?_
            refine xi_iload 0 dX5_drawTogether_73 rfl ?_
            refine xi_min (v := (mnI (9 : Int32) (v14 + v17))) dX5_drawTogether_75 w_808 w_385 w_3 w_mmin (Nat.le_of_ble_eq_true rfl) (Nat.le_of_ble_eq_true rfl) (Nat.le_of_ble_eq_true rfl) (Nat.le_of_ble_eq_true rfl) (Nat.le_of_ble_eq_true rfl) rfl ?_
            obtain ⟨v20, t21, k22, m7⟩ := bnd_some m7
            refine xi_callV (as := [.int w3, .int c, .int (mnI (9 : Int32) (v14 + v17))]) (rest := []) dX5_drawTogether_78 (KX5_setWeight G Gb x0 w3 c (mnI (9 : Int32) (v14 + v17)) _ _ _ k22) mkX5_setWeight w_423 w_424 w_799 (mem_get (netAt_0 g0x)) rfl rfl rfl rfl (Nat.le_of_ble_eq_true rfl) (Nat.le_of_ble_eq_true rfl) (Nat.le_of_ble_eq_true rfl) (Nat.le_of_ble_eq_true rfl) (Nat.le_of_ble_eq_true rfl) ?_
            intro v M2 hz
            obtain ⟨rfl, rfl⟩ := hz
            show xW _ _ _ _ 81 _ [] (mem t21 Gb) _ _
            obtain ⟨rfl, rfl⟩ := some_pair m7
            refine xi_sub (lv' := [(0, .ref x0), (3, .int w3), (4, .int w4), (5, .int c)]) [1, 2, 3, 4] rfl ?_
            exact key8
noncomputable def FX5_drawTogether (x : Nat) (a : Int32) (b : Int32) (σ : St) : Option ((Unit) × St) :=
  (chk (netAt x) (bnd (wh (SX5_drawTogether_16 x (mnI a b) (mxI a b)) (0 : Int32) σ) (fun e23 t24 => (bnd (FX5_takeOut x (mxI a b) t24) (fun v27 t28 => (some ((), t28)))))))
set_option maxHeartbeats 4000000 in
set_option maxRecDepth 100000 in
theorem KX5_drawTogether (G : xG) (Gb : xMem) (x : Nat) (a : Int32) (b : Int32) (σ : St) (r0 : Unit) (t0 : St) (hq : FX5_drawTogether x a b σ = some (r0, t0)) : xC G mX5_drawTogether 3 0 0 [.ref x, .int a, .int b] (mem σ Gb) (PV r0 t0 Gb) := by
  unfold FX5_drawTogether at hq
  refine xC.of (by decide) (Nat.le_of_ble_eq_true rfl) ?_
  show xW _ _ _ _ 0 [(0, .ref x), (1, .int a), (2, .int b)] [] _ 0 0
  obtain ⟨g_x, hq⟩ := chk_some hq
  refine xi_iload_n 1 dX5_drawTogether_0 rfl ?_
  refine xi_iload_n 2 dX5_drawTogether_1 rfl ?_
  refine xi_min (v := (mnI a b)) dX5_drawTogether_2 w_808 w_385 w_3 w_mmin (Nat.le_of_ble_eq_true rfl) (Nat.le_of_ble_eq_true rfl) (Nat.le_of_ble_eq_true rfl) (Nat.le_of_ble_eq_true rfl) (Nat.le_of_ble_eq_true rfl) rfl ?_
  refine xi_istore_n (lv' := [(3, .int (mnI a b)), (0, .ref x), (1, .int a), (2, .int b)]) dX5_drawTogether_5 (by decide) rfl ?_
  refine xi_iload_n 2 dX5_drawTogether_6 rfl ?_
  refine xi_iload_n 3 dX5_drawTogether_7 rfl ?_
  refine xi_max (v := (mxI a b)) dX5_drawTogether_8 w_809 w_37 w_3 w_mmax (Nat.le_of_ble_eq_true rfl) (Nat.le_of_ble_eq_true rfl) (Nat.le_of_ble_eq_true rfl) (Nat.le_of_ble_eq_true rfl) (Nat.le_of_ble_eq_true rfl) rfl ?_
  refine xi_istore (lv' := [(4, .int (mxI a b)), (3, .int (mnI a b)), (0, .ref x), (1, .int a), (2, .int b)]) dX5_drawTogether_11 (by decide) rfl ?_
  refine xi_iconst (v := 0) dX5_drawTogether_13 (by decide) ?_
  refine xi_istore (lv' := [(5, .int 0), (4, .int (mxI a b)), (3, .int (mnI a b)), (0, .ref x), (1, .int a), (2, .int b)]) dX5_drawTogether_14 (by decide) rfl ?_
  refine xi_sub (lv' := [(0, .ref x), (3, .int (mnI a b)), (4, .int (mxI a b)), (5, .int 0)]) [3, 2, 1, 0] rfl ?_
  obtain ⟨e23, t24, k25, hq⟩ := bnd_some hq
  obtain ⟨n26, k25⟩ := wh_itr k25
  refine SX5_drawTogether_16_w G Gb x (mnI a b) (mxI a b) g_x r0 t0 n26 (0 : Int32) σ _ _ k25 ?_
  show xW G mX5_drawTogether (xrm 3 0 0) (xQ G (PV r0 t0 Gb) 0 0) 87 [(0, .ref x), (4, .int (mxI a b))] [] (mem t24 Gb) 0 0
  refine xi_aload_n 0 dX5_drawTogether_87 rfl ?_
  refine xi_iload 1 dX5_drawTogether_88 rfl ?_
  obtain ⟨v27, t28, k29, hq⟩ := bnd_some hq
  refine xi_callV (as := [.int (mxI a b)]) (rest := []) dX5_drawTogether_90 (KX5_takeOut G Gb x (mxI a b) _ _ _ k29) mkX5_takeOut w_796 w_797 w_810 (mem_get (netAt_0 g_x)) rfl rfl rfl rfl (Nat.le_of_ble_eq_true rfl) (Nat.le_of_ble_eq_true rfl) (Nat.le_of_ble_eq_true rfl) (Nat.le_of_ble_eq_true rfl) (Nat.le_of_ble_eq_true rfl) ?_
  intro v M2 hz
  obtain ⟨rfl, rfl⟩ := hz
  show xW _ _ _ _ 93 _ [] (mem t28 Gb) _ _
  have r30 := some_pair hq
  obtain ⟨rfl, rfl⟩ := r30
  exact xi_vret dX5_drawTogether_93 rfl (Nat.le_of_ble_eq_true rfl) (Nat.le_of_ble_eq_true rfl) ⟨rfl, rfl⟩
noncomputable def FX5_has (x : Nat) (a : Int32) (σ : St) : Option ((Int32) × St) :=
  (chk (netAt x) (if a < (0 : Int32) then (some ((0 : Int32), σ)) else (rdb σ x (0) (fun v3 => (if v3 ≤ a then (some ((0 : Int32), σ)) else (some ((1 : Int32), σ)))))))
set_option maxHeartbeats 4000000 in
set_option maxRecDepth 100000 in
theorem KX5_has (G : xG) (Gb : xMem) (x : Nat) (a : Int32) (σ : St) (r0 : Int32) (t0 : St) (hq : FX5_has x a σ = some (r0, t0)) : xC G mX5_has 0 0 0 [.ref x, .int a] (mem σ Gb) (PQ r0 t0 Gb) := by
  unfold FX5_has at hq
  refine xC.of (by decide) (Nat.le_of_ble_eq_true rfl) ?_
  show xW _ _ _ _ 0 [(0, .ref x), (1, .int a)] [] _ 0 0
  obtain ⟨g_x, hq⟩ := chk_some hq
  refine xi_iload_n 1 dX5_has_0 rfl ?_
  refine xi_if_lt (tgt := 16) dX5_has_1 (by decide) (fun c1 => ?_) (fun c1 => ?_)
  · replace hq := ite_p c1 hq
    refine xi_iconst (v := 0) dX5_has_16 (by decide) ?_
    have r2 := some_pair hq
    obtain ⟨rfl, rfl⟩ := r2
    exact xi_iret dX5_has_17 rfl (by decide) (Nat.le_of_ble_eq_true rfl) (Nat.le_of_ble_eq_true rfl) ⟨rfl, rfl⟩
  · replace hq := ite_n c1 hq
    refine xi_iload_n 1 dX5_has_4 rfl ?_
    refine xi_aload_n 0 dX5_has_5 rfl ?_
    obtain ⟨v3, h4, hq⟩ := rdb_some hq
    refine yi_getV (f := 0) dX5_has_6 (netAt_0 g_x) rfl ok_5 (by decide) w_61 rfl h4 ?_
    refine xi_icmp_ge (tgt := 16) dX5_has_9 (by decide) (fun c5 => ?_) (fun c5 => ?_)
    · replace hq := ite_p c5 hq
      refine xi_iconst (v := 0) dX5_has_16 (by decide) ?_
      have r6 := some_pair hq
      obtain ⟨rfl, rfl⟩ := r6
      exact xi_iret dX5_has_17 rfl (by decide) (Nat.le_of_ble_eq_true rfl) (Nat.le_of_ble_eq_true rfl) ⟨rfl, rfl⟩
    · replace hq := ite_n c5 hq
      refine xi_iconst (v := 1) dX5_has_12 (by decide) ?_
      refine xi_goto (tgt := 17) dX5_has_13 (by decide) ?_
      have r7 := some_pair hq
      obtain ⟨rfl, rfl⟩ := r7
      exact xi_iret dX5_has_17 rfl (by decide) (Nat.le_of_ble_eq_true rfl) (Nat.le_of_ble_eq_true rfl) ⟨rfl, rfl⟩
noncomputable def FX5_hasTwo (x : Nat) (a : Int32) (b : Int32) (σ : St) : Option ((Int32) × St) :=
  (chk (netAt x) (bnd (FX5_has x a σ) (fun v1 t2 => (if v1 = (0 : Int32) then (some ((0 : Int32), t2)) else (bnd (FX5_has x b t2) (fun v6 t7 => (if v6 = (0 : Int32) then (some ((0 : Int32), t7)) else (if a = b then (some ((0 : Int32), t7)) else (some ((1 : Int32), t7))))))))))
set_option maxHeartbeats 4000000 in
set_option maxRecDepth 100000 in
theorem KX5_hasTwo (G : xG) (Gb : xMem) (x : Nat) (a : Int32) (b : Int32) (σ : St) (r0 : Int32) (t0 : St) (hq : FX5_hasTwo x a b σ = some (r0, t0)) : xC G mX5_hasTwo 1 0 0 [.ref x, .int a, .int b] (mem σ Gb) (PQ r0 t0 Gb) := by
  unfold FX5_hasTwo at hq
  refine xC.of (by decide) (Nat.le_of_ble_eq_true rfl) ?_
  show xW _ _ _ _ 0 [(0, .ref x), (1, .int a), (2, .int b)] [] _ 0 0
  obtain ⟨g_x, hq⟩ := chk_some hq
  refine xi_aload_n 0 dX5_hasTwo_0 rfl ?_
  refine xi_iload_n 1 dX5_hasTwo_1 rfl ?_
  obtain ⟨v1, t2, k3, hq⟩ := bnd_some hq
  refine xi_callV (as := [.int a]) (rest := []) dX5_hasTwo_2 (KX5_has G Gb x a _ _ _ k3) mkX5_has w_437 w_438 w_940 (mem_get (netAt_0 g_x)) rfl rfl rfl rfl (Nat.le_of_ble_eq_true rfl) (Nat.le_of_ble_eq_true rfl) (Nat.le_of_ble_eq_true rfl) (Nat.le_of_ble_eq_true rfl) (Nat.le_of_ble_eq_true rfl) ?_
  intro v M2 hz
  obtain ⟨rfl, rfl⟩ := hz
  show xW _ _ _ _ 5 _ [.int v1] (mem t2 Gb) _ _
  refine xi_if_eq (tgt := 25) dX5_hasTwo_5 (by decide) (fun c4 => ?_) (fun c4 => ?_)
  · replace hq := ite_p c4 hq
    refine xi_iconst (v := 0) dX5_hasTwo_25 (by decide) ?_
    have r5 := some_pair hq
    obtain ⟨rfl, rfl⟩ := r5
    exact xi_iret dX5_hasTwo_26 rfl (by decide) (Nat.le_of_ble_eq_true rfl) (Nat.le_of_ble_eq_true rfl) ⟨rfl, rfl⟩
  · replace hq := ite_n c4 hq
    refine xi_aload_n 0 dX5_hasTwo_8 rfl ?_
    refine xi_iload_n 2 dX5_hasTwo_9 rfl ?_
    obtain ⟨v6, t7, k8, hq⟩ := bnd_some hq
    refine xi_callV (as := [.int b]) (rest := []) dX5_hasTwo_10 (KX5_has G Gb x b _ _ _ k8) mkX5_has w_437 w_438 w_940 (mem_get (netAt_0 g_x)) rfl rfl rfl rfl (Nat.le_of_ble_eq_true rfl) (Nat.le_of_ble_eq_true rfl) (Nat.le_of_ble_eq_true rfl) (Nat.le_of_ble_eq_true rfl) (Nat.le_of_ble_eq_true rfl) ?_
    intro v M2 hz
    obtain ⟨rfl, rfl⟩ := hz
    show xW _ _ _ _ 13 _ [.int v6] (mem t7 Gb) _ _
    refine xi_if_eq (tgt := 25) dX5_hasTwo_13 (by decide) (fun c9 => ?_) (fun c9 => ?_)
    · replace hq := ite_p c9 hq
      refine xi_iconst (v := 0) dX5_hasTwo_25 (by decide) ?_
      have r10 := some_pair hq
      obtain ⟨rfl, rfl⟩ := r10
      exact xi_iret dX5_hasTwo_26 rfl (by decide) (Nat.le_of_ble_eq_true rfl) (Nat.le_of_ble_eq_true rfl) ⟨rfl, rfl⟩
    · replace hq := ite_n c9 hq
      refine xi_iload_n 1 dX5_hasTwo_16 rfl ?_
      refine xi_iload_n 2 dX5_hasTwo_17 rfl ?_
      refine xi_icmp_eq (tgt := 25) dX5_hasTwo_18 (by decide) (fun c11 => ?_) (fun c11 => ?_)
      · replace hq := ite_p c11 hq
        refine xi_iconst (v := 0) dX5_hasTwo_25 (by decide) ?_
        have r12 := some_pair hq
        obtain ⟨rfl, rfl⟩ := r12
        exact xi_iret dX5_hasTwo_26 rfl (by decide) (Nat.le_of_ble_eq_true rfl) (Nat.le_of_ble_eq_true rfl) ⟨rfl, rfl⟩
      · replace hq := ite_n c11 hq
        refine xi_iconst (v := 1) dX5_hasTwo_21 (by decide) ?_
        refine xi_goto (tgt := 26) dX5_hasTwo_22 (by decide) ?_
        have r13 := some_pair hq
        obtain ⟨rfl, rfl⟩ := r13
        exact xi_iret dX5_hasTwo_26 rfl (by decide) (Nat.le_of_ble_eq_true rfl) (Nat.le_of_ble_eq_true rfl) ⟨rfl, rfl⟩
noncomputable def FX5_lineCount (x : Nat) (a : Int32) (σ : St) : Option ((Int32) × St) :=
  (chk (netAt x) (chk (inb a 9) (rdb σ (x + 1) (a.toNatClampNeg) (fun v2 => (bnd (FJ6_bitCount_0f7a4 v2 σ) (fun v4 t5 => (some (v4, t5))))))))
set_option maxHeartbeats 4000000 in
set_option maxRecDepth 100000 in
theorem KX5_lineCount (G : xG) (Gb : xMem) (x : Nat) (a : Int32) (σ : St) (r0 : Int32) (t0 : St) (hq : FX5_lineCount x a σ = some (r0, t0)) : xC G mX5_lineCount 1 0 0 [.ref x, .int a] (mem σ Gb) (PQ r0 t0 Gb) := by
  unfold FX5_lineCount at hq
  refine xC.of (by decide) (Nat.le_of_ble_eq_true rfl) ?_
  show xW _ _ _ _ 0 [(0, .ref x), (1, .int a)] [] _ 0 0
  obtain ⟨g_x, hq⟩ := chk_some hq
  refine xi_aload_n 0 dX5_lineCount_0 rfl ?_
  refine yi_getR (f := 2) dX5_lineCount_1 (netAt_0 g_x) rfl ok_5 (by decide) w_72 rfl ?_
  refine xi_iload_n 1 dX5_lineCount_4 rfl ?_
  obtain ⟨g1, hq⟩ := chk_some hq
  obtain ⟨v2, h3, hq⟩ := rdb_some hq
  refine yi_ialoadV dX5_lineCount_5 (netAt_1 g_x) g1 h3 ?_
  obtain ⟨v4, t5, k6, hq⟩ := bnd_some hq
  refine xi_callS (as := [.int v2]) (rest := []) dX5_lineCount_6 (KJ6_bitCount_0f7a4 G Gb v2 _ _ _ k6) mkJ6_bitCount_0f7a4 w_508 w_507 rfl rfl (Nat.le_of_ble_eq_true rfl) (Nat.le_of_ble_eq_true rfl) (Nat.le_of_ble_eq_true rfl) (Nat.le_of_ble_eq_true rfl) (Nat.le_of_ble_eq_true rfl) ?_
  intro v M2 hz
  obtain ⟨rfl, rfl⟩ := hz
  show xW _ _ _ _ 9 _ [.int v4] (mem t5 Gb) _ _
  have r7 := some_pair hq
  obtain ⟨rfl, rfl⟩ := r7
  exact xi_iret dX5_lineCount_9 rfl rfl (Nat.le_of_ble_eq_true rfl) (Nat.le_of_ble_eq_true rfl) ⟨rfl, rfl⟩
noncomputable def SX5_placeOf_2 (x0 : Nat) (w1 : Int32) (c : Int32) (σ : St) : Option (((Int32) ⊕ ((Int32) ⊕ (Unit))) × St) :=
  (rdb σ x0 (0) (fun v1 => (if v1 ≤ c then (some (Sum.inr (Sum.inr ()), σ)) else (chk (inb c 9) (rdb σ (x0 + 2) (c.toNatClampNeg) (fun v5 => (if v5 = w1 then (some (Sum.inr (Sum.inl c), σ)) else (some (Sum.inl (c + 1), σ)))))))))
set_option maxHeartbeats 4000000 in
set_option maxRecDepth 100000 in
theorem SX5_placeOf_2_w (G : xG) (Gb : xMem) (x0 : Nat) (w1 : Int32) (g0x : netAt x0 = true) (r0 : Int32) (t0 : St) :
    ∀ (k : Nat) (c : Int32) (σ : St) (r : (Int32) ⊕ (Unit)) (σ' : St), itr (SX5_placeOf_2 x0 w1) k c σ = some (r, σ') → (Sum.elim (fun v => v = r0 ∧ σ' = t0) (fun e => xW G mX5_placeOf (xrm 0 0 0) (xQ G (PQ r0 t0 Gb) 0 0) 28 [] [] (mem σ' Gb) 0 0) r) → xW G mX5_placeOf (xrm 0 0 0) (xQ G (PQ r0 t0 Gb) 0 0) 2 [(0, .ref x0), (1, .int w1), (2, .int c)] [] (mem σ Gb) 0 0 := by
  intro k
  induction k with
  | zero =>
    intro c σ r σ' h
    exact absurd h (itr_zero _ _ _ _)
  | succ k ih =>
    intro c σ r σ' h HE
    obtain ⟨x, s1, hs, h⟩ := itr_succ h
    unfold SX5_placeOf_2 at hs
    refine xi_iload_n 2 dX5_placeOf_2 rfl ?_
    refine xi_aload_n 0 dX5_placeOf_3 rfl ?_
    obtain ⟨v1, h2, hs⟩ := rdb_some hs
    refine yi_getV (f := 0) dX5_placeOf_4 (netAt_0 g0x) rfl ok_5 (by decide) w_61 rfl h2 ?_
    refine xi_icmp_ge (tgt := 28) dX5_placeOf_7 (by decide) (fun c3 => ?_) (fun c3 => ?_)
    · replace hs := ite_p c3 hs
      refine xi_sub (lv' := []) [] rfl ?_
      obtain ⟨rfl, rfl⟩ := some_pair hs
      obtain ⟨rfl, rfl⟩ := some_pair h
      exact HE
    · replace hs := ite_n c3 hs
      refine xi_aload_n 0 dX5_placeOf_10 rfl ?_
      refine yi_getR (f := 3) dX5_placeOf_11 (netAt_0 g0x) rfl ok_5 (by decide) w_78 rfl ?_
      refine xi_iload_n 2 dX5_placeOf_14 rfl ?_
      obtain ⟨g4, hs⟩ := chk_some hs
      obtain ⟨v5, h6, hs⟩ := rdb_some hs
      refine yi_ialoadV dX5_placeOf_15 (netAt_2 g0x) g4 h6 ?_
      refine xi_iload_n 1 dX5_placeOf_16 rfl ?_
      refine xi_icmp_ne (tgt := 22) dX5_placeOf_17 (by decide) (fun c7 => ?_) (fun c7 => ?_)
      · replace hs := ite_n c7 hs
        refine xi_iinc (v := (c + 1)) (lv' := [(2, .int (c + 1)), (0, .ref x0), (1, .int w1)]) 2 dX5_placeOf_22 rfl rfl (by decide) rfl ?_
        refine xi_goto (tgt := 2) dX5_placeOf_25 (by decide) ?_
        refine xi_sub (lv' := [(0, .ref x0), (1, .int w1), (2, .int (c + 1))]) [1, 2, 0] rfl ?_
        obtain ⟨rfl, rfl⟩ := some_pair hs
        exact ih (c + 1) σ _ _ h HE
      · replace hs := ite_p c7 hs
        refine xi_iload_n 2 dX5_placeOf_20 rfl ?_
        obtain ⟨rfl, rfl⟩ := some_pair hs
        obtain ⟨rfl, rfl⟩ := some_pair h
        have r8 := HE
        obtain ⟨rfl, rfl⟩ := r8
        exact xi_iret dX5_placeOf_21 rfl rfl (Nat.le_of_ble_eq_true rfl) (Nat.le_of_ble_eq_true rfl) ⟨rfl, rfl⟩
noncomputable def FX5_placeOf (x : Nat) (a : Int32) (σ : St) : Option ((Int32) × St) :=
  (chk (netAt x) (bnd (wh (SX5_placeOf_2 x a) (0 : Int32) σ) (fun e9 t10 => Sum.elim (fun e9 => (some (e9, t10))) (fun e9 => (some ((-1 : Int32), t10))) e9)))
set_option maxHeartbeats 4000000 in
set_option maxRecDepth 100000 in
theorem KX5_placeOf (G : xG) (Gb : xMem) (x : Nat) (a : Int32) (σ : St) (r0 : Int32) (t0 : St) (hq : FX5_placeOf x a σ = some (r0, t0)) : xC G mX5_placeOf 0 0 0 [.ref x, .int a] (mem σ Gb) (PQ r0 t0 Gb) := by
  unfold FX5_placeOf at hq
  refine xC.of (by decide) (Nat.le_of_ble_eq_true rfl) ?_
  show xW _ _ _ _ 0 [(0, .ref x), (1, .int a)] [] _ 0 0
  obtain ⟨g_x, hq⟩ := chk_some hq
  refine xi_iconst (v := 0) dX5_placeOf_0 (by decide) ?_
  refine xi_istore_n (lv' := [(2, .int 0), (0, .ref x), (1, .int a)]) dX5_placeOf_1 (by decide) rfl ?_
  refine xi_sub (lv' := [(0, .ref x), (1, .int a), (2, .int 0)]) [1, 2, 0] rfl ?_
  obtain ⟨e9, t10, k11, hq⟩ := bnd_some hq
  obtain ⟨n12, k11⟩ := wh_itr k11
  refine SX5_placeOf_2_w G Gb x a g_x r0 t0 n12 (0 : Int32) σ _ _ k11 ?_
  rcases e9 with e9 | e9
  · replace hq := sel_l hq
    have r13 := some_pair hq
    exact r13
  · replace hq := sel_r hq
    show xW G mX5_placeOf (xrm 0 0 0) (xQ G (PQ r0 t0 Gb) 0 0) 28 [] [] (mem t10 Gb) 0 0
    refine xi_iconst (v := (-1)) dX5_placeOf_28 (by decide) ?_
    have r14 := some_pair hq
    obtain ⟨rfl, rfl⟩ := r14
    exact xi_iret dX5_placeOf_29 rfl rfl (Nat.le_of_ble_eq_true rfl) (Nat.le_of_ble_eq_true rfl) ⟨rfl, rfl⟩
noncomputable def SX5_placesUnlike_4 (x0 : Nat) (x1 : Nat) (c : Int32 × Int32) (σ : St) : Option (((Int32 × Int32) ⊕ (Int32)) × St) :=
  (rdb σ x0 (0) (fun v1 => (if v1 ≤ c.2 then (some (Sum.inr c.1, σ)) else (chk (inb c.2 9) (rdb σ (x0 + 2) (c.2.toNatClampNeg) (fun v5 => (chk (inb c.2 9) (rdb σ (x1 + 2) (c.2.toNatClampNeg) (fun v8 => (bnd (if v5 = v8 then (some (c.1, σ)) else (some ((c.1 + 1), σ))) (fun v11 t12 => (some (Sum.inl (v11, (c.2 + 1)), t12)))))))))))))
set_option maxHeartbeats 4000000 in
set_option maxRecDepth 100000 in
theorem SX5_placesUnlike_4_w (G : xG) (Gb : xMem) (x0 : Nat) (x1 : Nat) (g0x : netAt x0 = true) (g1x : netAt x1 = true) (r0 : Int32) (t0 : St) :
    ∀ (k : Nat) (c : Int32 × Int32) (σ : St) (r : Int32) (σ' : St), itr (SX5_placesUnlike_4 x0 x1) k c σ = some (r, σ') → (xW G mX5_placesUnlike (xrm 0 0 0) (xQ G (PQ r0 t0 Gb) 0 0) 36 [(2, .int r)] [] (mem σ' Gb) 0 0) → xW G mX5_placesUnlike (xrm 0 0 0) (xQ G (PQ r0 t0 Gb) 0 0) 4 [(0, .ref x0), (1, .ref x1), (2, .int c.1), (3, .int c.2)] [] (mem σ Gb) 0 0 := by
  intro k
  induction k with
  | zero =>
    intro c σ r σ' h
    exact absurd h (itr_zero _ _ _ _)
  | succ k ih =>
    intro c σ r σ' h HE
    obtain ⟨x, s1, hs, h⟩ := itr_succ h
    unfold SX5_placesUnlike_4 at hs
    refine xi_iload_n 3 dX5_placesUnlike_4 rfl ?_
    refine xi_aload_n 0 dX5_placesUnlike_5 rfl ?_
    obtain ⟨v1, h2, hs⟩ := rdb_some hs
    refine yi_getV (f := 0) dX5_placesUnlike_6 (netAt_0 g0x) rfl ok_5 (by decide) w_61 rfl h2 ?_
    refine xi_icmp_ge (tgt := 36) dX5_placesUnlike_9 (by decide) (fun c3 => ?_) (fun c3 => ?_)
    · replace hs := ite_p c3 hs
      refine xi_sub (lv' := [(2, .int c.1)]) [2] rfl ?_
      obtain ⟨rfl, rfl⟩ := some_pair hs
      obtain ⟨rfl, rfl⟩ := some_pair h
      exact HE
    · replace hs := ite_n c3 hs
      refine xi_aload_n 0 dX5_placesUnlike_12 rfl ?_
      refine yi_getR (f := 3) dX5_placesUnlike_13 (netAt_0 g0x) rfl ok_5 (by decide) w_78 rfl ?_
      refine xi_iload_n 3 dX5_placesUnlike_16 rfl ?_
      obtain ⟨g4, hs⟩ := chk_some hs
      obtain ⟨v5, h6, hs⟩ := rdb_some hs
      refine yi_ialoadV dX5_placesUnlike_17 (netAt_2 g0x) g4 h6 ?_
      refine xi_aload_n 1 dX5_placesUnlike_18 rfl ?_
      refine yi_getR (f := 3) dX5_placesUnlike_19 (netAt_0 g1x) rfl ok_5 (by decide) w_78 rfl ?_
      refine xi_iload_n 3 dX5_placesUnlike_22 rfl ?_
      obtain ⟨g7, hs⟩ := chk_some hs
      obtain ⟨v8, h9, hs⟩ := rdb_some hs
      refine yi_ialoadV dX5_placesUnlike_23 (netAt_2 g1x) g7 h9 ?_
      obtain ⟨v11, t12, m13, hs⟩ := bnd_some hs
      have key14 : xW G mX5_placesUnlike (xrm 0 0 0) (xQ G (PQ r0 t0 Gb) 0 0) 30 [(0, .ref x0), (1, .ref x1), (2, .int v11), (3, .int c.2)] [] (mem t12 Gb) 0 0 := by
        refine xi_iinc (v := (c.2 + 1)) (lv' := [(3, .int (c.2 + 1)), (0, .ref x0), (1, .ref x1), (2, .int v11)]) 3 dX5_placesUnlike_30 rfl rfl (by decide) rfl ?_
        refine xi_goto (tgt := 4) dX5_placesUnlike_33 (by decide) ?_
        refine xi_sub (lv' := [(0, .ref x0), (1, .ref x1), (2, .int v11), (3, .int (c.2 + 1))]) [1, 2, 3, 0] rfl ?_
        obtain ⟨rfl, rfl⟩ := some_pair hs
        exact ih (v11, (c.2 + 1)) t12 _ _ h HE
      refine xi_icmp_eq (tgt := 30) dX5_placesUnlike_24 (by decide) (fun c10 => ?_) (fun c10 => ?_)
      · replace m13 := ite_p c10 m13
        obtain ⟨rfl, rfl⟩ := some_pair m13
        exact key14
      · replace m13 := ite_n c10 m13
        refine xi_iinc (v := (c.1 + 1)) (lv' := [(2, .int (c.1 + 1)), (0, .ref x0), (1, .ref x1), (3, .int c.2)]) 2 dX5_placesUnlike_27 rfl rfl (by decide) rfl ?_
        obtain ⟨rfl, rfl⟩ := some_pair m13
        refine xi_sub (lv' := [(0, .ref x0), (1, .ref x1), (2, .int (c.1 + 1)), (3, .int c.2)]) [1, 2, 0, 3] rfl ?_
        exact key14
noncomputable def FX5_placesUnlike (x : Nat) (y : Nat) (σ : St) : Option ((Int32) × St) :=
  (chk (netAt x) (chk (netAt y) (bnd (wh (SX5_placesUnlike_4 x y) ((0 : Int32), (0 : Int32)) σ) (fun e15 t16 => (some (e15, t16))))))
set_option maxHeartbeats 4000000 in
set_option maxRecDepth 100000 in
theorem KX5_placesUnlike (G : xG) (Gb : xMem) (x : Nat) (y : Nat) (σ : St) (r0 : Int32) (t0 : St) (hq : FX5_placesUnlike x y σ = some (r0, t0)) : xC G mX5_placesUnlike 0 0 0 [.ref x, .ref y] (mem σ Gb) (PQ r0 t0 Gb) := by
  unfold FX5_placesUnlike at hq
  refine xC.of (by decide) (Nat.le_of_ble_eq_true rfl) ?_
  show xW _ _ _ _ 0 [(0, .ref x), (1, .ref y)] [] _ 0 0
  obtain ⟨g_x, hq⟩ := chk_some hq
  obtain ⟨g_y, hq⟩ := chk_some hq
  refine xi_iconst (v := 0) dX5_placesUnlike_0 (by decide) ?_
  refine xi_istore_n (lv' := [(2, .int 0), (0, .ref x), (1, .ref y)]) dX5_placesUnlike_1 (by decide) rfl ?_
  refine xi_iconst (v := 0) dX5_placesUnlike_2 (by decide) ?_
  refine xi_istore_n (lv' := [(3, .int 0), (2, .int 0), (0, .ref x), (1, .ref y)]) dX5_placesUnlike_3 (by decide) rfl ?_
  refine xi_sub (lv' := [(0, .ref x), (1, .ref y), (2, .int 0), (3, .int 0)]) [2, 3, 1, 0] rfl ?_
  obtain ⟨e15, t16, k17, hq⟩ := bnd_some hq
  obtain ⟨n18, k17⟩ := wh_itr k17
  refine SX5_placesUnlike_4_w G Gb x y g_x g_y r0 t0 n18 ((0 : Int32), (0 : Int32)) σ _ _ k17 ?_
  show xW G mX5_placesUnlike (xrm 0 0 0) (xQ G (PQ r0 t0 Gb) 0 0) 36 [(2, .int e15)] [] (mem t16 Gb) 0 0
  refine xi_iload_n 0 dX5_placesUnlike_36 rfl ?_
  have r19 := some_pair hq
  obtain ⟨rfl, rfl⟩ := r19
  exact xi_iret dX5_placesUnlike_37 rfl rfl (Nat.le_of_ble_eq_true rfl) (Nat.le_of_ble_eq_true rfl) ⟨rfl, rfl⟩
noncomputable def SX5_sameLines_36 (x0 : Nat) (x1 : Nat) (w2 : Int32) (c : Int32) (σ : St) : Option (((Int32) ⊕ ((Int32) ⊕ (Unit))) × St) :=
  (if w2 ≤ c then (some (Sum.inr (Sum.inr ()), σ)) else (bnd (FX5_weightOf x0 w2 c σ) (fun v16 t17 => (bnd (FX5_weightOf x1 w2 c t17) (fun v19 t20 => (if v16 = v19 then (some (Sum.inl (c + 1), t20)) else (some (Sum.inr (Sum.inl (0 : Int32)), t20))))))))
noncomputable def SX5_sameLines_26 (x0 : Nat) (x1 : Nat) (c : Int32) (σ : St) : Option (((Int32) ⊕ ((Int32) ⊕ (Unit))) × St) :=
  (rdb σ x0 (0) (fun v12 => (if v12 ≤ c then (some (Sum.inr (Sum.inr ()), σ)) else (bnd (wh (SX5_sameLines_36 x0 x1 c) (0 : Int32) σ) (fun e24 t25 => Sum.elim (fun e24 => (some (Sum.inr (Sum.inl e24), t25))) (fun e24 => (some (Sum.inl (c + 1), t25))) e24)))))
set_option maxHeartbeats 4000000 in
set_option maxRecDepth 100000 in
theorem SX5_sameLines_36_w (G : xG) (Gb : xMem) (x0 : Nat) (x1 : Nat) (w2 : Int32) (g0x : netAt x0 = true) (g1x : netAt x1 = true) (r0 : Int32) (t0 : St) :
    ∀ (k : Nat) (c : Int32) (σ : St) (r : (Int32) ⊕ (Unit)) (σ' : St), itr (SX5_sameLines_36 x0 x1 w2) k c σ = some (r, σ') → (Sum.elim (fun v => v = r0 ∧ σ' = t0) (fun e => xW G mX5_sameLines (xrm 1 0 0) (xQ G (PQ r0 t0 Gb) 0 0) 64 [(0, .ref x0), (1, .ref x1), (2, .int w2)] [] (mem σ' Gb) 0 0) r) → xW G mX5_sameLines (xrm 1 0 0) (xQ G (PQ r0 t0 Gb) 0 0) 36 [(0, .ref x0), (1, .ref x1), (2, .int w2), (3, .int c)] [] (mem σ Gb) 0 0 := by
  intro k
  induction k with
  | zero =>
    intro c σ r σ' h
    exact absurd h (itr_zero _ _ _ _)
  | succ k ih =>
    intro c σ r σ' h HE
    obtain ⟨x, s1, hs, h⟩ := itr_succ h
    unfold SX5_sameLines_36 at hs
    refine xi_iload_n 3 dX5_sameLines_36 rfl ?_
    refine xi_iload_n 2 dX5_sameLines_37 rfl ?_
    refine xi_icmp_ge (tgt := 64) dX5_sameLines_38 (by decide) (fun c15 => ?_) (fun c15 => ?_)
    · replace hs := ite_p c15 hs
      refine xi_sub (lv' := [(0, .ref x0), (1, .ref x1), (2, .int w2)]) [0, 1, 2] rfl ?_
      obtain ⟨rfl, rfl⟩ := some_pair hs
      obtain ⟨rfl, rfl⟩ := some_pair h
      exact HE
    · replace hs := ite_n c15 hs
      refine xi_aload_n 0 dX5_sameLines_41 rfl ?_
      refine xi_iload_n 2 dX5_sameLines_42 rfl ?_
      refine xi_iload_n 3 dX5_sameLines_43 rfl ?_
      obtain ⟨v16, t17, k18, hs⟩ := bnd_some hs
      refine xi_callV (as := [.int w2, .int c]) (rest := []) dX5_sameLines_44 (KX5_weightOf G Gb x0 w2 c _ _ _ k18) mkX5_weightOf w_415 w_416 w_426 (mem_get (netAt_0 g0x)) rfl rfl rfl rfl (Nat.le_of_ble_eq_true rfl) (Nat.le_of_ble_eq_true rfl) (Nat.le_of_ble_eq_true rfl) (Nat.le_of_ble_eq_true rfl) (Nat.le_of_ble_eq_true rfl) ?_
      intro v M2 hz
      obtain ⟨rfl, rfl⟩ := hz
      show xW _ _ _ _ 47 _ [.int v16] (mem t17 Gb) _ _
      refine xi_aload_n 1 dX5_sameLines_47 rfl ?_
      refine xi_iload_n 2 dX5_sameLines_48 rfl ?_
      refine xi_iload_n 3 dX5_sameLines_49 rfl ?_
      obtain ⟨v19, t20, k21, hs⟩ := bnd_some hs
      refine xi_callV (as := [.int w2, .int c]) (rest := [.int v16]) dX5_sameLines_50 (KX5_weightOf G Gb x1 w2 c _ _ _ k21) mkX5_weightOf w_415 w_416 w_426 (mem_get (netAt_0 g1x)) rfl rfl rfl rfl (Nat.le_of_ble_eq_true rfl) (Nat.le_of_ble_eq_true rfl) (Nat.le_of_ble_eq_true rfl) (Nat.le_of_ble_eq_true rfl) (Nat.le_of_ble_eq_true rfl) ?_
      intro v M2 hz
      obtain ⟨rfl, rfl⟩ := hz
      show xW _ _ _ _ 53 _ [.int v19, .int v16] (mem t20 Gb) _ _
      refine xi_icmp_eq (tgt := 58) dX5_sameLines_53 (by decide) (fun c22 => ?_) (fun c22 => ?_)
      · replace hs := ite_p c22 hs
        refine xi_iinc (v := (c + 1)) (lv' := [(3, .int (c + 1)), (0, .ref x0), (1, .ref x1), (2, .int w2)]) 3 dX5_sameLines_58 rfl rfl (by decide) rfl ?_
        refine xi_goto (tgt := 36) dX5_sameLines_61 (by decide) ?_
        refine xi_sub (lv' := [(0, .ref x0), (1, .ref x1), (2, .int w2), (3, .int (c + 1))]) [1, 2, 3, 0] rfl ?_
        obtain ⟨rfl, rfl⟩ := some_pair hs
        exact ih (c + 1) t20 _ _ h HE
      · replace hs := ite_n c22 hs
        refine xi_iconst (v := 0) dX5_sameLines_56 (by decide) ?_
        obtain ⟨rfl, rfl⟩ := some_pair hs
        obtain ⟨rfl, rfl⟩ := some_pair h
        have r23 := HE
        obtain ⟨rfl, rfl⟩ := r23
        exact xi_iret dX5_sameLines_57 rfl (by decide) (Nat.le_of_ble_eq_true rfl) (Nat.le_of_ble_eq_true rfl) ⟨rfl, rfl⟩
set_option maxHeartbeats 4000000 in
set_option maxRecDepth 100000 in
theorem SX5_sameLines_26_w (G : xG) (Gb : xMem) (x0 : Nat) (x1 : Nat) (g0x : netAt x0 = true) (g1x : netAt x1 = true) (r0 : Int32) (t0 : St) :
    ∀ (k : Nat) (c : Int32) (σ : St) (r : (Int32) ⊕ (Unit)) (σ' : St), itr (SX5_sameLines_26 x0 x1) k c σ = some (r, σ') → (Sum.elim (fun v => v = r0 ∧ σ' = t0) (fun e => xW G mX5_sameLines (xrm 1 0 0) (xQ G (PQ r0 t0 Gb) 0 0) 70 [] [] (mem σ' Gb) 0 0) r) → xW G mX5_sameLines (xrm 1 0 0) (xQ G (PQ r0 t0 Gb) 0 0) 26 [(0, .ref x0), (1, .ref x1), (2, .int c)] [] (mem σ Gb) 0 0 := by
  intro k
  induction k with
  | zero =>
    intro c σ r σ' h
    exact absurd h (itr_zero _ _ _ _)
  | succ k ih =>
    intro c σ r σ' h HE
    obtain ⟨x, s1, hs, h⟩ := itr_succ h
    unfold SX5_sameLines_26 at hs
    refine xi_iload_n 2 dX5_sameLines_26 rfl ?_
    refine xi_aload_n 0 dX5_sameLines_27 rfl ?_
    obtain ⟨v12, h13, hs⟩ := rdb_some hs
    refine yi_getV (f := 0) dX5_sameLines_28 (netAt_0 g0x) rfl ok_5 (by decide) w_61 rfl h13 ?_
    refine xi_icmp_ge (tgt := 70) dX5_sameLines_31 (by decide) (fun c14 => ?_) (fun c14 => ?_)
    · replace hs := ite_p c14 hs
      refine xi_sub (lv' := []) [] rfl ?_
      obtain ⟨rfl, rfl⟩ := some_pair hs
      obtain ⟨rfl, rfl⟩ := some_pair h
      exact HE
    · replace hs := ite_n c14 hs
      refine xi_iconst (v := 0) dX5_sameLines_34 (by decide) ?_
      refine xi_istore_n (lv' := [(3, .int 0), (0, .ref x0), (1, .ref x1), (2, .int c)]) dX5_sameLines_35 (by decide) rfl ?_
      refine xi_sub (lv' := [(0, .ref x0), (1, .ref x1), (2, .int c), (3, .int 0)]) [1, 2, 3, 0] rfl ?_
      obtain ⟨e24, t25, k26, hs⟩ := bnd_some hs
      obtain ⟨n27, k26⟩ := wh_itr k26
      refine SX5_sameLines_36_w G Gb x0 x1 c g0x g1x r0 t0 n27 (0 : Int32) σ _ _ k26 ?_
      rcases e24 with e24 | e24
      · replace hs := sel_l hs
        obtain ⟨rfl, rfl⟩ := some_pair hs
        obtain ⟨rfl, rfl⟩ := some_pair h
        have r28 := HE
        exact r28
      · replace hs := sel_r hs
        show xW G mX5_sameLines (xrm 1 0 0) (xQ G (PQ r0 t0 Gb) 0 0) 64 [(0, .ref x0), (1, .ref x1), (2, .int c)] [] (mem t25 Gb) 0 0
        refine xi_iinc (v := (c + 1)) (lv' := [(2, .int (c + 1)), (0, .ref x0), (1, .ref x1)]) 2 dX5_sameLines_64 rfl rfl (by decide) rfl ?_
        refine xi_goto (tgt := 26) dX5_sameLines_67 (by decide) ?_
        refine xi_sub (lv' := [(0, .ref x0), (1, .ref x1), (2, .int (c + 1))]) [1, 2, 0] rfl ?_
        obtain ⟨rfl, rfl⟩ := some_pair hs
        exact ih (c + 1) t25 _ _ h HE
noncomputable def FX5_sameLines (x : Nat) (y : Nat) (σ : St) : Option ((Int32) × St) :=
  (chk (netAt x) (chk (netAt y) (rdb σ x (0) (fun v1 => (rdb σ y (0) (fun v3 => (if v1 = v3 then (rdb σ x (1) (fun v7 => (rdb σ y (1) (fun v9 => (if v7 = v9 then (bnd (wh (SX5_sameLines_26 x y) (0 : Int32) σ) (fun e29 t30 => Sum.elim (fun e29 => (some (e29, t30))) (fun e29 => (some ((1 : Int32), t30))) e29)) else (some ((0 : Int32), σ))))))) else (some ((0 : Int32), σ)))))))))
set_option maxHeartbeats 4000000 in
set_option maxRecDepth 100000 in
theorem KX5_sameLines (G : xG) (Gb : xMem) (x : Nat) (y : Nat) (σ : St) (r0 : Int32) (t0 : St) (hq : FX5_sameLines x y σ = some (r0, t0)) : xC G mX5_sameLines 1 0 0 [.ref x, .ref y] (mem σ Gb) (PQ r0 t0 Gb) := by
  unfold FX5_sameLines at hq
  refine xC.of (by decide) (Nat.le_of_ble_eq_true rfl) ?_
  show xW _ _ _ _ 0 [(0, .ref x), (1, .ref y)] [] _ 0 0
  obtain ⟨g_x, hq⟩ := chk_some hq
  obtain ⟨g_y, hq⟩ := chk_some hq
  refine xi_aload_n 0 dX5_sameLines_0 rfl ?_
  obtain ⟨v1, h2, hq⟩ := rdb_some hq
  refine yi_getV (f := 0) dX5_sameLines_1 (netAt_0 g_x) rfl ok_5 (by decide) w_61 rfl h2 ?_
  refine xi_aload_n 1 dX5_sameLines_4 rfl ?_
  obtain ⟨v3, h4, hq⟩ := rdb_some hq
  refine yi_getV (f := 0) dX5_sameLines_5 (netAt_0 g_y) rfl ok_5 (by decide) w_61 rfl h4 ?_
  refine xi_icmp_ne (tgt := 22) dX5_sameLines_8 (by decide) (fun c5 => ?_) (fun c5 => ?_)
  · replace hq := ite_n c5 hq
    refine xi_iconst (v := 0) dX5_sameLines_22 (by decide) ?_
    have r6 := some_pair hq
    obtain ⟨rfl, rfl⟩ := r6
    exact xi_iret dX5_sameLines_23 rfl (by decide) (Nat.le_of_ble_eq_true rfl) (Nat.le_of_ble_eq_true rfl) ⟨rfl, rfl⟩
  · replace hq := ite_p c5 hq
    refine xi_aload_n 0 dX5_sameLines_11 rfl ?_
    obtain ⟨v7, h8, hq⟩ := rdb_some hq
    refine yi_getV (f := 1) dX5_sameLines_12 (netAt_0 g_x) rfl ok_5 (by decide) w_69 rfl h8 ?_
    refine xi_aload_n 1 dX5_sameLines_15 rfl ?_
    obtain ⟨v9, h10, hq⟩ := rdb_some hq
    refine yi_getV (f := 1) dX5_sameLines_16 (netAt_0 g_y) rfl ok_5 (by decide) w_69 rfl h10 ?_
    refine xi_icmp_eq (tgt := 24) dX5_sameLines_19 (by decide) (fun c11 => ?_) (fun c11 => ?_)
    · replace hq := ite_p c11 hq
      refine xi_iconst (v := 0) dX5_sameLines_24 (by decide) ?_
      refine xi_istore_n (lv' := [(2, .int 0), (0, .ref x), (1, .ref y)]) dX5_sameLines_25 (by decide) rfl ?_
      refine xi_sub (lv' := [(0, .ref x), (1, .ref y), (2, .int 0)]) [1, 2, 0] rfl ?_
      obtain ⟨e29, t30, k31, hq⟩ := bnd_some hq
      obtain ⟨n32, k31⟩ := wh_itr k31
      refine SX5_sameLines_26_w G Gb x y g_x g_y r0 t0 n32 (0 : Int32) σ _ _ k31 ?_
      rcases e29 with e29 | e29
      · replace hq := sel_l hq
        have r33 := some_pair hq
        exact r33
      · replace hq := sel_r hq
        show xW G mX5_sameLines (xrm 1 0 0) (xQ G (PQ r0 t0 Gb) 0 0) 70 [] [] (mem t30 Gb) 0 0
        refine xi_iconst (v := 1) dX5_sameLines_70 (by decide) ?_
        have r34 := some_pair hq
        obtain ⟨rfl, rfl⟩ := r34
        exact xi_iret dX5_sameLines_71 rfl (by decide) (Nat.le_of_ble_eq_true rfl) (Nat.le_of_ble_eq_true rfl) ⟨rfl, rfl⟩
    · replace hq := ite_n c11 hq
      refine xi_iconst (v := 0) dX5_sameLines_22 (by decide) ?_
      have r35 := some_pair hq
      obtain ⟨rfl, rfl⟩ := r35
      exact xi_iret dX5_sameLines_23 rfl (by decide) (Nat.le_of_ble_eq_true rfl) (Nat.le_of_ble_eq_true rfl) ⟨rfl, rfl⟩
noncomputable def FX5_sameAs (x : Nat) (y : Nat) (σ : St) : Option ((Int32) × St) :=
  (chk (netAt x) (chk (netAt y) (bnd (FX5_sameLines x y σ) (fun v1 t2 => (if v1 = (0 : Int32) then (some ((0 : Int32), t2)) else (bnd (FX5_placesUnlike x y t2) (fun v6 t7 => (if v6 = (0 : Int32) then (some ((1 : Int32), t7)) else (some ((0 : Int32), t7))))))))))
set_option maxHeartbeats 4000000 in
set_option maxRecDepth 100000 in
theorem KX5_sameAs (G : xG) (Gb : xMem) (x : Nat) (y : Nat) (σ : St) (r0 : Int32) (t0 : St) (hq : FX5_sameAs x y σ = some (r0, t0)) : xC G mX5_sameAs 2 0 0 [.ref x, .ref y] (mem σ Gb) (PQ r0 t0 Gb) := by
  unfold FX5_sameAs at hq
  refine xC.of (by decide) (Nat.le_of_ble_eq_true rfl) ?_
  show xW _ _ _ _ 0 [(0, .ref x), (1, .ref y)] [] _ 0 0
  obtain ⟨g_x, hq⟩ := chk_some hq
  obtain ⟨g_y, hq⟩ := chk_some hq
  refine xi_aload_n 0 dX5_sameAs_0 rfl ?_
  refine xi_aload_n 1 dX5_sameAs_1 rfl ?_
  obtain ⟨v1, t2, k3, hq⟩ := bnd_some hq
  refine xi_callV (as := [.ref y]) (rest := []) dX5_sameAs_2 (KX5_sameLines G Gb x y _ _ _ k3) mkX5_sameLines w_460 w_461 w_459 (mem_get (netAt_0 g_x)) rfl rfl rfl rfl (Nat.le_of_ble_eq_true rfl) (Nat.le_of_ble_eq_true rfl) (Nat.le_of_ble_eq_true rfl) (Nat.le_of_ble_eq_true rfl) (Nat.le_of_ble_eq_true rfl) ?_
  intro v M2 hz
  obtain ⟨rfl, rfl⟩ := hz
  show xW _ _ _ _ 5 _ [.int v1] (mem t2 Gb) _ _
  refine xi_if_eq (tgt := 20) dX5_sameAs_5 (by decide) (fun c4 => ?_) (fun c4 => ?_)
  · replace hq := ite_p c4 hq
    refine xi_iconst (v := 0) dX5_sameAs_20 (by decide) ?_
    have r5 := some_pair hq
    obtain ⟨rfl, rfl⟩ := r5
    exact xi_iret dX5_sameAs_21 rfl (by decide) (Nat.le_of_ble_eq_true rfl) (Nat.le_of_ble_eq_true rfl) ⟨rfl, rfl⟩
  · replace hq := ite_n c4 hq
    refine xi_aload_n 0 dX5_sameAs_8 rfl ?_
    refine xi_aload_n 1 dX5_sameAs_9 rfl ?_
    obtain ⟨v6, t7, k8, hq⟩ := bnd_some hq
    refine xi_callV (as := [.ref y]) (rest := []) dX5_sameAs_10 (KX5_placesUnlike G Gb x y _ _ _ k8) mkX5_placesUnlike w_464 w_465 w_463 (mem_get (netAt_0 g_x)) rfl rfl rfl rfl (Nat.le_of_ble_eq_true rfl) (Nat.le_of_ble_eq_true rfl) (Nat.le_of_ble_eq_true rfl) (Nat.le_of_ble_eq_true rfl) (Nat.le_of_ble_eq_true rfl) ?_
    intro v M2 hz
    obtain ⟨rfl, rfl⟩ := hz
    show xW _ _ _ _ 13 _ [.int v6] (mem t7 Gb) _ _
    refine xi_if_ne (tgt := 20) dX5_sameAs_13 (by decide) (fun c9 => ?_) (fun c9 => ?_)
    · replace hq := ite_n c9 hq
      refine xi_iconst (v := 0) dX5_sameAs_20 (by decide) ?_
      have r10 := some_pair hq
      obtain ⟨rfl, rfl⟩ := r10
      exact xi_iret dX5_sameAs_21 rfl (by decide) (Nat.le_of_ble_eq_true rfl) (Nat.le_of_ble_eq_true rfl) ⟨rfl, rfl⟩
    · replace hq := ite_p c9 hq
      refine xi_iconst (v := 1) dX5_sameAs_16 (by decide) ?_
      refine xi_goto (tgt := 21) dX5_sameAs_17 (by decide) ?_
      have r11 := some_pair hq
      obtain ⟨rfl, rfl⟩ := r11
      exact xi_iret dX5_sameAs_21 rfl (by decide) (Nat.le_of_ble_eq_true rfl) (Nat.le_of_ble_eq_true rfl) ⟨rfl, rfl⟩
noncomputable def SX5_shift_2 (x0 : Nat) (w1 : Int32) (w2 : Int32) (c : Int32) (σ : St) : Option (((Int32) ⊕ (Unit)) × St) :=
  (if w2 ≤ c then (some (Sum.inr (), σ)) else (bnd (FX5_changeOver x0 c (c + (1 : Int32)) σ) (fun v2 t3 => (some (Sum.inl (c + 1), t3)))))
noncomputable def SX5_shift_23 (x0 : Nat) (w2 : Int32) (c : Int32) (σ : St) : Option (((Int32) ⊕ (Unit)) × St) :=
  (if c ≤ w2 then (some (Sum.inr (), σ)) else (bnd (FX5_changeOver x0 c (c - (1 : Int32)) σ) (fun v10 t11 => (some (Sum.inl (c + (-1)), t11)))))
set_option maxHeartbeats 4000000 in
set_option maxRecDepth 100000 in
theorem SX5_shift_2_w (G : xG) (Gb : xMem) (x0 : Nat) (w1 : Int32) (w2 : Int32) (g0x : netAt x0 = true) (r0 : Unit) (t0 : St) :
    ∀ (k : Nat) (c : Int32) (σ : St) (r : Unit) (σ' : St), itr (SX5_shift_2 x0 w1 w2) k c σ = some (r, σ') → (xW G mX5_shift (xrm 1 0 0) (xQ G (PV r0 t0 Gb) 0 0) 21 [(0, .ref x0), (1, .int w1), (2, .int w2)] [] (mem σ' Gb) 0 0) → xW G mX5_shift (xrm 1 0 0) (xQ G (PV r0 t0 Gb) 0 0) 2 [(0, .ref x0), (1, .int w1), (2, .int w2), (3, .int c)] [] (mem σ Gb) 0 0 := by
  intro k
  induction k with
  | zero =>
    intro c σ r σ' h
    exact absurd h (itr_zero _ _ _ _)
  | succ k ih =>
    intro c σ r σ' h HE
    obtain ⟨x, s1, hs, h⟩ := itr_succ h
    unfold SX5_shift_2 at hs
    refine xi_iload_n 3 dX5_shift_2 rfl ?_
    refine xi_iload_n 2 dX5_shift_3 rfl ?_
    refine xi_icmp_ge (tgt := 21) dX5_shift_4 (by decide) (fun c1 => ?_) (fun c1 => ?_)
    · replace hs := ite_p c1 hs
      refine xi_sub (lv' := [(0, .ref x0), (1, .int w1), (2, .int w2)]) [0, 1, 2] rfl ?_
      obtain ⟨rfl, rfl⟩ := some_pair hs
      obtain ⟨rfl, rfl⟩ := some_pair h
      exact HE
    · replace hs := ite_n c1 hs
      refine xi_aload_n 0 dX5_shift_7 rfl ?_
      refine xi_iload_n 3 dX5_shift_8 rfl ?_
      refine xi_iload_n 3 dX5_shift_9 rfl ?_
      refine xi_iconst (v := 1) dX5_shift_10 (by decide) ?_
      refine xi_iadd (v := c + (1 : Int32)) dX5_shift_11 rfl ?_
      obtain ⟨v2, t3, k4, hs⟩ := bnd_some hs
      refine xi_callV (as := [.int c, .int (c + (1 : Int32))]) (rest := []) dX5_shift_12 (KX5_changeOver G Gb x0 c (c + (1 : Int32)) _ _ _ k4) mkX5_changeOver w_866 w_867 w_881 (mem_get (netAt_0 g0x)) rfl rfl rfl rfl (Nat.le_of_ble_eq_true rfl) (Nat.le_of_ble_eq_true rfl) (Nat.le_of_ble_eq_true rfl) (Nat.le_of_ble_eq_true rfl) (Nat.le_of_ble_eq_true rfl) ?_
      intro v M2 hz
      obtain ⟨rfl, rfl⟩ := hz
      show xW _ _ _ _ 15 _ [] (mem t3 Gb) _ _
      refine xi_iinc (v := (c + 1)) (lv' := [(3, .int (c + 1)), (0, .ref x0), (1, .int w1), (2, .int w2)]) 3 dX5_shift_15 rfl rfl (by decide) rfl ?_
      refine xi_goto (tgt := 2) dX5_shift_18 (by decide) ?_
      refine xi_sub (lv' := [(0, .ref x0), (1, .int w1), (2, .int w2), (3, .int (c + 1))]) [1, 2, 3, 0] rfl ?_
      obtain ⟨rfl, rfl⟩ := some_pair hs
      exact ih (c + 1) t3 _ _ h HE
set_option maxHeartbeats 4000000 in
set_option maxRecDepth 100000 in
theorem SX5_shift_23_w (G : xG) (Gb : xMem) (x0 : Nat) (w2 : Int32) (g0x : netAt x0 = true) (r0 : Unit) (t0 : St) :
    ∀ (k : Nat) (c : Int32) (σ : St) (r : Unit) (σ' : St), itr (SX5_shift_23 x0 w2) k c σ = some (r, σ') → (xW G mX5_shift (xrm 1 0 0) (xQ G (PV r0 t0 Gb) 0 0) 42 [] [] (mem σ' Gb) 0 0) → xW G mX5_shift (xrm 1 0 0) (xQ G (PV r0 t0 Gb) 0 0) 23 [(0, .ref x0), (2, .int w2), (3, .int c)] [] (mem σ Gb) 0 0 := by
  intro k
  induction k with
  | zero =>
    intro c σ r σ' h
    exact absurd h (itr_zero _ _ _ _)
  | succ k ih =>
    intro c σ r σ' h HE
    obtain ⟨x, s1, hs, h⟩ := itr_succ h
    unfold SX5_shift_23 at hs
    refine xi_iload_n 2 dX5_shift_23 rfl ?_
    refine xi_iload_n 1 dX5_shift_24 rfl ?_
    refine xi_icmp_le (tgt := 42) dX5_shift_25 (by decide) (fun c9 => ?_) (fun c9 => ?_)
    · replace hs := ite_p c9 hs
      refine xi_sub (lv' := []) [] rfl ?_
      obtain ⟨rfl, rfl⟩ := some_pair hs
      obtain ⟨rfl, rfl⟩ := some_pair h
      exact HE
    · replace hs := ite_n c9 hs
      refine xi_aload_n 0 dX5_shift_28 rfl ?_
      refine xi_iload_n 2 dX5_shift_29 rfl ?_
      refine xi_iload_n 2 dX5_shift_30 rfl ?_
      refine xi_iconst (v := 1) dX5_shift_31 (by decide) ?_
      refine xi_isub (v := c - (1 : Int32)) dX5_shift_32 rfl ?_
      obtain ⟨v10, t11, k12, hs⟩ := bnd_some hs
      refine xi_callV (as := [.int c, .int (c - (1 : Int32))]) (rest := []) dX5_shift_33 (KX5_changeOver G Gb x0 c (c - (1 : Int32)) _ _ _ k12) mkX5_changeOver w_866 w_867 w_881 (mem_get (netAt_0 g0x)) rfl rfl rfl rfl (Nat.le_of_ble_eq_true rfl) (Nat.le_of_ble_eq_true rfl) (Nat.le_of_ble_eq_true rfl) (Nat.le_of_ble_eq_true rfl) (Nat.le_of_ble_eq_true rfl) ?_
      intro v M2 hz
      obtain ⟨rfl, rfl⟩ := hz
      show xW _ _ _ _ 36 _ [] (mem t11 Gb) _ _
      refine xi_iinc (v := (c + (-1))) (lv' := [(3, .int (c + (-1))), (0, .ref x0), (2, .int w2)]) 2 dX5_shift_36 rfl rfl (by decide) rfl ?_
      refine xi_goto (tgt := 23) dX5_shift_39 (by decide) ?_
      refine xi_sub (lv' := [(0, .ref x0), (2, .int w2), (3, .int (c + (-1)))]) [1, 2, 0] rfl ?_
      obtain ⟨rfl, rfl⟩ := some_pair hs
      exact ih (c + (-1)) t11 _ _ h HE
noncomputable def FX5_shift (x : Nat) (a : Int32) (b : Int32) (σ : St) : Option ((Unit) × St) :=
  (chk (netAt x) (bnd (wh (SX5_shift_2 x a b) a σ) (fun e5 t6 => (bnd (wh (SX5_shift_23 x b) a t6) (fun e13 t14 => (some ((), t14)))))))
set_option maxHeartbeats 4000000 in
set_option maxRecDepth 100000 in
theorem KX5_shift (G : xG) (Gb : xMem) (x : Nat) (a : Int32) (b : Int32) (σ : St) (r0 : Unit) (t0 : St) (hq : FX5_shift x a b σ = some (r0, t0)) : xC G mX5_shift 1 0 0 [.ref x, .int a, .int b] (mem σ Gb) (PV r0 t0 Gb) := by
  unfold FX5_shift at hq
  refine xC.of (by decide) (Nat.le_of_ble_eq_true rfl) ?_
  show xW _ _ _ _ 0 [(0, .ref x), (1, .int a), (2, .int b)] [] _ 0 0
  obtain ⟨g_x, hq⟩ := chk_some hq
  refine xi_iload_n 1 dX5_shift_0 rfl ?_
  refine xi_istore_n (lv' := [(3, .int a), (0, .ref x), (1, .int a), (2, .int b)]) dX5_shift_1 (by decide) rfl ?_
  refine xi_sub (lv' := [(0, .ref x), (1, .int a), (2, .int b), (3, .int a)]) [1, 2, 3, 0] rfl ?_
  obtain ⟨e5, t6, k7, hq⟩ := bnd_some hq
  obtain ⟨n8, k7⟩ := wh_itr k7
  refine SX5_shift_2_w G Gb x a b g_x r0 t0 n8 a σ _ _ k7 ?_
  show xW G mX5_shift (xrm 1 0 0) (xQ G (PV r0 t0 Gb) 0 0) 21 [(0, .ref x), (1, .int a), (2, .int b)] [] (mem t6 Gb) 0 0
  refine xi_iload_n 1 dX5_shift_21 rfl ?_
  refine xi_istore_n (lv' := [(3, .int a), (0, .ref x), (1, .int a), (2, .int b)]) dX5_shift_22 (by decide) rfl ?_
  refine xi_sub (lv' := [(0, .ref x), (2, .int b), (3, .int a)]) [1, 3, 0] rfl ?_
  obtain ⟨e13, t14, k15, hq⟩ := bnd_some hq
  obtain ⟨n16, k15⟩ := wh_itr k15
  refine SX5_shift_23_w G Gb x b g_x r0 t0 n16 a t6 _ _ k15 ?_
  show xW G mX5_shift (xrm 1 0 0) (xQ G (PV r0 t0 Gb) 0 0) 42 [] [] (mem t14 Gb) 0 0
  have r17 := some_pair hq
  obtain ⟨rfl, rfl⟩ := r17
  exact xi_vret dX5_shift_42 rfl (Nat.le_of_ble_eq_true rfl) (Nat.le_of_ble_eq_true rfl) ⟨rfl, rfl⟩
noncomputable def SX5_turnRound_2 (x0 : Nat) (c : Int32) (σ : St) : Option (((Int32) ⊕ (Unit)) × St) :=
  (rdb σ x0 (0) (fun v1 => (if ((v1 - (1 : Int32)) - c) ≤ c then (some (Sum.inr (), σ)) else (rdb σ x0 (0) (fun v4 => (bnd (FX5_changeOver x0 c ((v4 - (1 : Int32)) - c) σ) (fun v6 t7 => (some (Sum.inl (c + 1), t7)))))))))
set_option maxHeartbeats 4000000 in
set_option maxRecDepth 100000 in
theorem SX5_turnRound_2_w (G : xG) (Gb : xMem) (x0 : Nat) (g0x : netAt x0 = true) (r0 : Unit) (t0 : St) :
    ∀ (k : Nat) (c : Int32) (σ : St) (r : Unit) (σ' : St), itr (SX5_turnRound_2 x0) k c σ = some (r, σ') → (xW G mX5_turnRound (xrm 1 0 0) (xQ G (PV r0 t0 Gb) 0 0) 33 [] [] (mem σ' Gb) 0 0) → xW G mX5_turnRound (xrm 1 0 0) (xQ G (PV r0 t0 Gb) 0 0) 2 [(0, .ref x0), (1, .int c)] [] (mem σ Gb) 0 0 := by
  intro k
  induction k with
  | zero =>
    intro c σ r σ' h
    exact absurd h (itr_zero _ _ _ _)
  | succ k ih =>
    intro c σ r σ' h HE
    obtain ⟨x, s1, hs, h⟩ := itr_succ h
    unfold SX5_turnRound_2 at hs
    refine xi_iload_n 1 dX5_turnRound_2 rfl ?_
    refine xi_aload_n 0 dX5_turnRound_3 rfl ?_
    obtain ⟨v1, h2, hs⟩ := rdb_some hs
    refine yi_getV (f := 0) dX5_turnRound_4 (netAt_0 g0x) rfl ok_5 (by decide) w_61 rfl h2 ?_
    refine xi_iconst (v := 1) dX5_turnRound_7 (by decide) ?_
    refine xi_isub (v := v1 - (1 : Int32)) dX5_turnRound_8 rfl ?_
    refine xi_iload_n 1 dX5_turnRound_9 rfl ?_
    refine xi_isub (v := (v1 - (1 : Int32)) - c) dX5_turnRound_10 rfl ?_
    refine xi_icmp_ge (tgt := 33) dX5_turnRound_11 (by decide) (fun c3 => ?_) (fun c3 => ?_)
    · replace hs := ite_p c3 hs
      refine xi_sub (lv' := []) [] rfl ?_
      obtain ⟨rfl, rfl⟩ := some_pair hs
      obtain ⟨rfl, rfl⟩ := some_pair h
      exact HE
    · replace hs := ite_n c3 hs
      refine xi_aload_n 0 dX5_turnRound_14 rfl ?_
      refine xi_iload_n 1 dX5_turnRound_15 rfl ?_
      refine xi_aload_n 0 dX5_turnRound_16 rfl ?_
      obtain ⟨v4, h5, hs⟩ := rdb_some hs
      refine yi_getV (f := 0) dX5_turnRound_17 (netAt_0 g0x) rfl ok_5 (by decide) w_61 rfl h5 ?_
      refine xi_iconst (v := 1) dX5_turnRound_20 (by decide) ?_
      refine xi_isub (v := v4 - (1 : Int32)) dX5_turnRound_21 rfl ?_
      refine xi_iload_n 1 dX5_turnRound_22 rfl ?_
      refine xi_isub (v := (v4 - (1 : Int32)) - c) dX5_turnRound_23 rfl ?_
      obtain ⟨v6, t7, k8, hs⟩ := bnd_some hs
      refine xi_callV (as := [.int c, .int ((v4 - (1 : Int32)) - c)]) (rest := []) dX5_turnRound_24 (KX5_changeOver G Gb x0 c ((v4 - (1 : Int32)) - c) _ _ _ k8) mkX5_changeOver w_866 w_867 w_881 (mem_get (netAt_0 g0x)) rfl rfl rfl rfl (Nat.le_of_ble_eq_true rfl) (Nat.le_of_ble_eq_true rfl) (Nat.le_of_ble_eq_true rfl) (Nat.le_of_ble_eq_true rfl) (Nat.le_of_ble_eq_true rfl) ?_
      intro v M2 hz
      obtain ⟨rfl, rfl⟩ := hz
      show xW _ _ _ _ 27 _ [] (mem t7 Gb) _ _
      refine xi_iinc (v := (c + 1)) (lv' := [(1, .int (c + 1)), (0, .ref x0)]) 1 dX5_turnRound_27 rfl rfl (by decide) rfl ?_
      refine xi_goto (tgt := 2) dX5_turnRound_30 (by decide) ?_
      refine xi_sub (lv' := [(0, .ref x0), (1, .int (c + 1))]) [1, 0] rfl ?_
      obtain ⟨rfl, rfl⟩ := some_pair hs
      exact ih (c + 1) t7 _ _ h HE
noncomputable def FX5_turnRound (x : Nat) (σ : St) : Option ((Unit) × St) :=
  (chk (netAt x) (bnd (wh (SX5_turnRound_2 x) (0 : Int32) σ) (fun e9 t10 => (some ((), t10)))))
set_option maxHeartbeats 4000000 in
set_option maxRecDepth 100000 in
theorem KX5_turnRound (G : xG) (Gb : xMem) (x : Nat) (σ : St) (r0 : Unit) (t0 : St) (hq : FX5_turnRound x σ = some (r0, t0)) : xC G mX5_turnRound 1 0 0 [.ref x] (mem σ Gb) (PV r0 t0 Gb) := by
  unfold FX5_turnRound at hq
  refine xC.of (by decide) (Nat.le_of_ble_eq_true rfl) ?_
  show xW _ _ _ _ 0 [(0, .ref x)] [] _ 0 0
  obtain ⟨g_x, hq⟩ := chk_some hq
  refine xi_iconst (v := 0) dX5_turnRound_0 (by decide) ?_
  refine xi_istore_n (lv' := [(1, .int 0), (0, .ref x)]) dX5_turnRound_1 (by decide) rfl ?_
  refine xi_sub (lv' := [(0, .ref x), (1, .int 0)]) [1, 0] rfl ?_
  obtain ⟨e9, t10, k11, hq⟩ := bnd_some hq
  obtain ⟨n12, k11⟩ := wh_itr k11
  refine SX5_turnRound_2_w G Gb x g_x r0 t0 n12 (0 : Int32) σ _ _ k11 ?_
  show xW G mX5_turnRound (xrm 1 0 0) (xQ G (PV r0 t0 Gb) 0 0) 33 [] [] (mem t10 Gb) 0 0
  have r13 := some_pair hq
  obtain ⟨rfl, rfl⟩ := r13
  exact xi_vret dX5_turnRound_33 rfl (Nat.le_of_ble_eq_true rfl) (Nat.le_of_ble_eq_true rfl) ⟨rfl, rfl⟩
