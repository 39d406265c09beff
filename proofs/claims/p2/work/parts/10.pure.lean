/-! read-only methods over nets, as pure functions (printed by wip/p2/gen10.py) -/
/-- a net: points, lines, near bits, row, weights -/
abbrev NV : Type := Nat × Int32 × (Nat → Int32) × (Nat → Int32) × (Nat → Int32)
def xnet (M : xMem) (a : Nat) (N : NV) : Prop := M[a]? = some (.inr (5, [.int (nI N.1), .int N.2.1, .ref (a + 1), .ref (a + 2), .ref (a + 3)])) ∧ M[a + 1]? = some (.inl (0, 9, .inl N.2.2.1)) ∧ M[a + 2]? = some (.inl (0, 9, .inl N.2.2.2.1)) ∧ M[a + 3]? = some (.inl (0, 81, .inl N.2.2.2.2))
/-- the row's places hold points -/
def NO (N : NV) : Prop := ∀ i, i < 9 → N.2.2.2.1 i = nI (N.2.2.2.1 i).toNatClampNeg ∧ (N.2.2.2.1 i).toNatClampNeg < 9
theorem xi_sub {G : xG} {mt : xM} {R : Room} {Z : xZ} {pc : Nat} {lv lv' : List (Nat × Value)} {st : List Value} {M : xMem} {k n : Nat} (ks : List Nat) (h : lv_pick lv ks = lv') (K : xW G mt R Z pc lv' st M k n) : xW G mt R Z pc lv st M k n := by
  intro p e s m args below meth c H locs ls F hR hL hl
  refine K p e s m args below meth c H locs ls F hR hL (lv_sub hl ks ?_)
  clear K
  subst h
  unfold lv_pick xcl
  rw [List.map_filterMap]
  congr 1
  funext q
  rw [List.getElem?_map]
def FJ6_bitCount_0f7a4 (x : Int32) : Int32 := ((((((((x - ((((x : Int32).toUInt32 >>> (((1 : Int32) : Int32).toUInt32 &&& Int32.toUInt32 31)).toInt32) &&& (1431655765 : Int32))) &&& (858993459 : Int32)) + (((((x - ((((x : Int32).toUInt32 >>> (((1 : Int32) : Int32).toUInt32 &&& Int32.toUInt32 31)).toInt32) &&& (1431655765 : Int32))) : Int32).toUInt32 >>> (((2 : Int32) : Int32).toUInt32 &&& Int32.toUInt32 31)).toInt32) &&& (858993459 : Int32))) + ((((((x - ((((x : Int32).toUInt32 >>> (((1 : Int32) : Int32).toUInt32 &&& Int32.toUInt32 31)).toInt32) &&& (1431655765 : Int32))) &&& (858993459 : Int32)) + (((((x - ((((x : Int32).toUInt32 >>> (((1 : Int32) : Int32).toUInt32 &&& Int32.toUInt32 31)).toInt32) &&& (1431655765 : Int32))) : Int32).toUInt32 >>> (((2 : Int32) : Int32).toUInt32 &&& Int32.toUInt32 31)).toInt32) &&& (858993459 : Int32))) : Int32).toUInt32 >>> (((4 : Int32) : Int32).toUInt32 &&& Int32.toUInt32 31)).toInt32)) &&& (252645135 : Int32)) + ((((((((x - ((((x : Int32).toUInt32 >>> (((1 : Int32) : Int32).toUInt32 &&& Int32.toUInt32 31)).toInt32) &&& (1431655765 : Int32))) &&& (858993459 : Int32)) + (((((x - ((((x : Int32).toUInt32 >>> (((1 : Int32) : Int32).toUInt32 &&& Int32.toUInt32 31)).toInt32) &&& (1431655765 : Int32))) : Int32).toUInt32 >>> (((2 : Int32) : Int32).toUInt32 &&& Int32.toUInt32 31)).toInt32) &&& (858993459 : Int32))) + ((((((x - ((((x : Int32).toUInt32 >>> (((1 : Int32) : Int32).toUInt32 &&& Int32.toUInt32 31)).toInt32) &&& (1431655765 : Int32))) &&& (858993459 : Int32)) + (((((x - ((((x : Int32).toUInt32 >>> (((1 : Int32) : Int32).toUInt32 &&& Int32.toUInt32 31)).toInt32) &&& (1431655765 : Int32))) : Int32).toUInt32 >>> (((2 : Int32) : Int32).toUInt32 &&& Int32.toUInt32 31)).toInt32) &&& (858993459 : Int32))) : Int32).toUInt32 >>> (((4 : Int32) : Int32).toUInt32 &&& Int32.toUInt32 31)).toInt32)) &&& (252645135 : Int32)) : Int32).toUInt32 >>> (((8 : Int32) : Int32).toUInt32 &&& Int32.toUInt32 31)).toInt32)) + (((((((((x - ((((x : Int32).toUInt32 >>> (((1 : Int32) : Int32).toUInt32 &&& Int32.toUInt32 31)).toInt32) &&& (1431655765 : Int32))) &&& (858993459 : Int32)) + (((((x - ((((x : Int32).toUInt32 >>> (((1 : Int32) : Int32).toUInt32 &&& Int32.toUInt32 31)).toInt32) &&& (1431655765 : Int32))) : Int32).toUInt32 >>> (((2 : Int32) : Int32).toUInt32 &&& Int32.toUInt32 31)).toInt32) &&& (858993459 : Int32))) + ((((((x - ((((x : Int32).toUInt32 >>> (((1 : Int32) : Int32).toUInt32 &&& Int32.toUInt32 31)).toInt32) &&& (1431655765 : Int32))) &&& (858993459 : Int32)) + (((((x - ((((x : Int32).toUInt32 >>> (((1 : Int32) : Int32).toUInt32 &&& Int32.toUInt32 31)).toInt32) &&& (1431655765 : Int32))) : Int32).toUInt32 >>> (((2 : Int32) : Int32).toUInt32 &&& Int32.toUInt32 31)).toInt32) &&& (858993459 : Int32))) : Int32).toUInt32 >>> (((4 : Int32) : Int32).toUInt32 &&& Int32.toUInt32 31)).toInt32)) &&& (252645135 : Int32)) + ((((((((x - ((((x : Int32).toUInt32 >>> (((1 : Int32) : Int32).toUInt32 &&& Int32.toUInt32 31)).toInt32) &&& (1431655765 : Int32))) &&& (858993459 : Int32)) + (((((x - ((((x : Int32).toUInt32 >>> (((1 : Int32) : Int32).toUInt32 &&& Int32.toUInt32 31)).toInt32) &&& (1431655765 : Int32))) : Int32).toUInt32 >>> (((2 : Int32) : Int32).toUInt32 &&& Int32.toUInt32 31)).toInt32) &&& (858993459 : Int32))) + ((((((x - ((((x : Int32).toUInt32 >>> (((1 : Int32) : Int32).toUInt32 &&& Int32.toUInt32 31)).toInt32) &&& (1431655765 : Int32))) &&& (858993459 : Int32)) + (((((x - ((((x : Int32).toUInt32 >>> (((1 : Int32) : Int32).toUInt32 &&& Int32.toUInt32 31)).toInt32) &&& (1431655765 : Int32))) : Int32).toUInt32 >>> (((2 : Int32) : Int32).toUInt32 &&& Int32.toUInt32 31)).toInt32) &&& (858993459 : Int32))) : Int32).toUInt32 >>> (((4 : Int32) : Int32).toUInt32 &&& Int32.toUInt32 31)).toInt32)) &&& (252645135 : Int32)) : Int32).toUInt32 >>> (((8 : Int32) : Int32).toUInt32 &&& Int32.toUInt32 31)).toInt32)) : Int32).toUInt32 >>> (((16 : Int32) : Int32).toUInt32 &&& Int32.toUInt32 31)).toInt32)) &&& (63 : Int32))
set_option maxHeartbeats 4000000 in
set_option maxRecDepth 100000 in
theorem FJ6_bitCount_0f7a4_ok (G : xG) {M : xMem} (x : Int32) (Q : Int32 → Prop) (hq : Q (FJ6_bitCount_0f7a4 x)) : xC G mJ6_bitCount_0f7a4 0 0 0 [.int x] M (fun v M2 => ∃ r, v = some (.int r) ∧ Q r ∧ M2 = M) := by
  unfold FJ6_bitCount_0f7a4 at hq
  refine xC.of (by decide) (Nat.le_of_ble_eq_true rfl) ?_
  show xW _ _ _ _ 0 [(0, .int x)] [] _ 0 0
  refine xi_iload_n 0 dJ6_bitCount_0f7a4_0 rfl ?_
  refine xi_iload_n 0 dJ6_bitCount_0f7a4_1 rfl ?_
  refine xi_iconst (v := 1) dJ6_bitCount_0f7a4_2 (by decide) ?_
  refine xi_iushr (v := (((x : Int32).toUInt32 >>> (((1 : Int32) : Int32).toUInt32 &&& Int32.toUInt32 31)).toInt32)) dJ6_bitCount_0f7a4_3 rfl ?_
  refine xi_ldcw (v := 1431655765) dJ6_bitCount_0f7a4_4 w_510 ?_
  refine xi_iand (v := ((((x : Int32).toUInt32 >>> (((1 : Int32) : Int32).toUInt32 &&& Int32.toUInt32 31)).toInt32) &&& (1431655765 : Int32))) dJ6_bitCount_0f7a4_7 rfl ?_
  refine xi_isub (v := (x - ((((x : Int32).toUInt32 >>> (((1 : Int32) : Int32).toUInt32 &&& Int32.toUInt32 31)).toInt32) &&& (1431655765 : Int32)))) dJ6_bitCount_0f7a4_8 rfl ?_
  refine xi_istore_n (lv' := [(0, .int (x - ((((x : Int32).toUInt32 >>> (((1 : Int32) : Int32).toUInt32 &&& Int32.toUInt32 31)).toInt32) &&& (1431655765 : Int32))))]) dJ6_bitCount_0f7a4_9 (by decide) rfl ?_
  refine xi_iload_n 0 dJ6_bitCount_0f7a4_10 rfl ?_
  refine xi_ldcw (v := 858993459) dJ6_bitCount_0f7a4_11 w_511 ?_
  refine xi_iand (v := ((x - ((((x : Int32).toUInt32 >>> (((1 : Int32) : Int32).toUInt32 &&& Int32.toUInt32 31)).toInt32) &&& (1431655765 : Int32))) &&& (858993459 : Int32))) dJ6_bitCount_0f7a4_14 rfl ?_
  refine xi_iload_n 0 dJ6_bitCount_0f7a4_15 rfl ?_
  refine xi_iconst (v := 2) dJ6_bitCount_0f7a4_16 (by decide) ?_
  refine xi_iushr (v := ((((x - ((((x : Int32).toUInt32 >>> (((1 : Int32) : Int32).toUInt32 &&& Int32.toUInt32 31)).toInt32) &&& (1431655765 : Int32))) : Int32).toUInt32 >>> (((2 : Int32) : Int32).toUInt32 &&& Int32.toUInt32 31)).toInt32)) dJ6_bitCount_0f7a4_17 rfl ?_
  refine xi_ldcw (v := 858993459) dJ6_bitCount_0f7a4_18 w_511 ?_
  refine xi_iand (v := (((((x - ((((x : Int32).toUInt32 >>> (((1 : Int32) : Int32).toUInt32 &&& Int32.toUInt32 31)).toInt32) &&& (1431655765 : Int32))) : Int32).toUInt32 >>> (((2 : Int32) : Int32).toUInt32 &&& Int32.toUInt32 31)).toInt32) &&& (858993459 : Int32))) dJ6_bitCount_0f7a4_21 rfl ?_
  refine xi_iadd (v := (((x - ((((x : Int32).toUInt32 >>> (((1 : Int32) : Int32).toUInt32 &&& Int32.toUInt32 31)).toInt32) &&& (1431655765 : Int32))) &&& (858993459 : Int32)) + (((((x - ((((x : Int32).toUInt32 >>> (((1 : Int32) : Int32).toUInt32 &&& Int32.toUInt32 31)).toInt32) &&& (1431655765 : Int32))) : Int32).toUInt32 >>> (((2 : Int32) : Int32).toUInt32 &&& Int32.toUInt32 31)).toInt32) &&& (858993459 : Int32)))) dJ6_bitCount_0f7a4_22 rfl ?_
  refine xi_istore_n (lv' := [(0, .int (((x - ((((x : Int32).toUInt32 >>> (((1 : Int32) : Int32).toUInt32 &&& Int32.toUInt32 31)).toInt32) &&& (1431655765 : Int32))) &&& (858993459 : Int32)) + (((((x - ((((x : Int32).toUInt32 >>> (((1 : Int32) : Int32).toUInt32 &&& Int32.toUInt32 31)).toInt32) &&& (1431655765 : Int32))) : Int32).toUInt32 >>> (((2 : Int32) : Int32).toUInt32 &&& Int32.toUInt32 31)).toInt32) &&& (858993459 : Int32))))]) dJ6_bitCount_0f7a4_23 (by decide) rfl ?_
  refine xi_iload_n 0 dJ6_bitCount_0f7a4_24 rfl ?_
  refine xi_iload_n 0 dJ6_bitCount_0f7a4_25 rfl ?_
  refine xi_iconst (v := 4) dJ6_bitCount_0f7a4_26 (by decide) ?_
  refine xi_iushr (v := ((((((x - ((((x : Int32).toUInt32 >>> (((1 : Int32) : Int32).toUInt32 &&& Int32.toUInt32 31)).toInt32) &&& (1431655765 : Int32))) &&& (858993459 : Int32)) + (((((x - ((((x : Int32).toUInt32 >>> (((1 : Int32) : Int32).toUInt32 &&& Int32.toUInt32 31)).toInt32) &&& (1431655765 : Int32))) : Int32).toUInt32 >>> (((2 : Int32) : Int32).toUInt32 &&& Int32.toUInt32 31)).toInt32) &&& (858993459 : Int32))) : Int32).toUInt32 >>> (((4 : Int32) : Int32).toUInt32 &&& Int32.toUInt32 31)).toInt32)) dJ6_bitCount_0f7a4_27 rfl ?_
  refine xi_iadd (v := ((((x - ((((x : Int32).toUInt32 >>> (((1 : Int32) : Int32).toUInt32 &&& Int32.toUInt32 31)).toInt32) &&& (1431655765 : Int32))) &&& (858993459 : Int32)) + (((((x - ((((x : Int32).toUInt32 >>> (((1 : Int32) : Int32).toUInt32 &&& Int32.toUInt32 31)).toInt32) &&& (1431655765 : Int32))) : Int32).toUInt32 >>> (((2 : Int32) : Int32).toUInt32 &&& Int32.toUInt32 31)).toInt32) &&& (858993459 : Int32))) + ((((((x - ((((x : Int32).toUInt32 >>> (((1 : Int32) : Int32).toUInt32 &&& Int32.toUInt32 31)).toInt32) &&& (1431655765 : Int32))) &&& (858993459 : Int32)) + (((((x - ((((x : Int32).toUInt32 >>> (((1 : Int32) : Int32).toUInt32 &&& Int32.toUInt32 31)).toInt32) &&& (1431655765 : Int32))) : Int32).toUInt32 >>> (((2 : Int32) : Int32).toUInt32 &&& Int32.toUInt32 31)).toInt32) &&& (858993459 : Int32))) : Int32).toUInt32 >>> (((4 : Int32) : Int32).toUInt32 &&& Int32.toUInt32 31)).toInt32))) dJ6_bitCount_0f7a4_28 rfl ?_
  refine xi_ldcw (v := 252645135) dJ6_bitCount_0f7a4_29 w_512 ?_
  refine xi_iand (v := (((((x - ((((x : Int32).toUInt32 >>> (((1 : Int32) : Int32).toUInt32 &&& Int32.toUInt32 31)).toInt32) &&& (1431655765 : Int32))) &&& (858993459 : Int32)) + (((((x - ((((x : Int32).toUInt32 >>> (((1 : Int32) : Int32).toUInt32 &&& Int32.toUInt32 31)).toInt32) &&& (1431655765 : Int32))) : Int32).toUInt32 >>> (((2 : Int32) : Int32).toUInt32 &&& Int32.toUInt32 31)).toInt32) &&& (858993459 : Int32))) + ((((((x - ((((x : Int32).toUInt32 >>> (((1 : Int32) : Int32).toUInt32 &&& Int32.toUInt32 31)).toInt32) &&& (1431655765 : Int32))) &&& (858993459 : Int32)) + (((((x - ((((x : Int32).toUInt32 >>> (((1 : Int32) : Int32).toUInt32 &&& Int32.toUInt32 31)).toInt32) &&& (1431655765 : Int32))) : Int32).toUInt32 >>> (((2 : Int32) : Int32).toUInt32 &&& Int32.toUInt32 31)).toInt32) &&& (858993459 : Int32))) : Int32).toUInt32 >>> (((4 : Int32) : Int32).toUInt32 &&& Int32.toUInt32 31)).toInt32)) &&& (252645135 : Int32))) dJ6_bitCount_0f7a4_32 rfl ?_
  refine xi_istore_n (lv' := [(0, .int (((((x - ((((x : Int32).toUInt32 >>> (((1 : Int32) : Int32).toUInt32 &&& Int32.toUInt32 31)).toInt32) &&& (1431655765 : Int32))) &&& (858993459 : Int32)) + (((((x - ((((x : Int32).toUInt32 >>> (((1 : Int32) : Int32).toUInt32 &&& Int32.toUInt32 31)).toInt32) &&& (1431655765 : Int32))) : Int32).toUInt32 >>> (((2 : Int32) : Int32).toUInt32 &&& Int32.toUInt32 31)).toInt32) &&& (858993459 : Int32))) + ((((((x - ((((x : Int32).toUInt32 >>> (((1 : Int32) : Int32).toUInt32 &&& Int32.toUInt32 31)).toInt32) &&& (1431655765 : Int32))) &&& (858993459 : Int32)) + (((((x - ((((x : Int32).toUInt32 >>> (((1 : Int32) : Int32).toUInt32 &&& Int32.toUInt32 31)).toInt32) &&& (1431655765 : Int32))) : Int32).toUInt32 >>> (((2 : Int32) : Int32).toUInt32 &&& Int32.toUInt32 31)).toInt32) &&& (858993459 : Int32))) : Int32).toUInt32 >>> (((4 : Int32) : Int32).toUInt32 &&& Int32.toUInt32 31)).toInt32)) &&& (252645135 : Int32)))]) dJ6_bitCount_0f7a4_33 (by decide) rfl ?_
  refine xi_iload_n 0 dJ6_bitCount_0f7a4_34 rfl ?_
  refine xi_iload_n 0 dJ6_bitCount_0f7a4_35 rfl ?_
  refine xi_bipush (v := 8) dJ6_bitCount_0f7a4_36 (by decide) ?_
  refine xi_iushr (v := ((((((((x - ((((x : Int32).toUInt32 >>> (((1 : Int32) : Int32).toUInt32 &&& Int32.toUInt32 31)).toInt32) &&& (1431655765 : Int32))) &&& (858993459 : Int32)) + (((((x - ((((x : Int32).toUInt32 >>> (((1 : Int32) : Int32).toUInt32 &&& Int32.toUInt32 31)).toInt32) &&& (1431655765 : Int32))) : Int32).toUInt32 >>> (((2 : Int32) : Int32).toUInt32 &&& Int32.toUInt32 31)).toInt32) &&& (858993459 : Int32))) + ((((((x - ((((x : Int32).toUInt32 >>> (((1 : Int32) : Int32).toUInt32 &&& Int32.toUInt32 31)).toInt32) &&& (1431655765 : Int32))) &&& (858993459 : Int32)) + (((((x - ((((x : Int32).toUInt32 >>> (((1 : Int32) : Int32).toUInt32 &&& Int32.toUInt32 31)).toInt32) &&& (1431655765 : Int32))) : Int32).toUInt32 >>> (((2 : Int32) : Int32).toUInt32 &&& Int32.toUInt32 31)).toInt32) &&& (858993459 : Int32))) : Int32).toUInt32 >>> (((4 : Int32) : Int32).toUInt32 &&& Int32.toUInt32 31)).toInt32)) &&& (252645135 : Int32)) : Int32).toUInt32 >>> (((8 : Int32) : Int32).toUInt32 &&& Int32.toUInt32 31)).toInt32)) dJ6_bitCount_0f7a4_38 rfl ?_
  refine xi_iadd (v := ((((((x - ((((x : Int32).toUInt32 >>> (((1 : Int32) : Int32).toUInt32 &&& Int32.toUInt32 31)).toInt32) &&& (1431655765 : Int32))) &&& (858993459 : Int32)) + (((((x - ((((x : Int32).toUInt32 >>> (((1 : Int32) : Int32).toUInt32 &&& Int32.toUInt32 31)).toInt32) &&& (1431655765 : Int32))) : Int32).toUInt32 >>> (((2 : Int32) : Int32).toUInt32 &&& Int32.toUInt32 31)).toInt32) &&& (858993459 : Int32))) + ((((((x - ((((x : Int32).toUInt32 >>> (((1 : Int32) : Int32).toUInt32 &&& Int32.toUInt32 31)).toInt32) &&& (1431655765 : Int32))) &&& (858993459 : Int32)) + (((((x - ((((x : Int32).toUInt32 >>> (((1 : Int32) : Int32).toUInt32 &&& Int32.toUInt32 31)).toInt32) &&& (1431655765 : Int32))) : Int32).toUInt32 >>> (((2 : Int32) : Int32).toUInt32 &&& Int32.toUInt32 31)).toInt32) &&& (858993459 : Int32))) : Int32).toUInt32 >>> (((4 : Int32) : Int32).toUInt32 &&& Int32.toUInt32 31)).toInt32)) &&& (252645135 : Int32)) + ((((((((x - ((((x : Int32).toUInt32 >>> (((1 : Int32) : Int32).toUInt32 &&& Int32.toUInt32 31)).toInt32) &&& (1431655765 : Int32))) &&& (858993459 : Int32)) + (((((x - ((((x : Int32).toUInt32 >>> (((1 : Int32) : Int32).toUInt32 &&& Int32.toUInt32 31)).toInt32) &&& (1431655765 : Int32))) : Int32).toUInt32 >>> (((2 : Int32) : Int32).toUInt32 &&& Int32.toUInt32 31)).toInt32) &&& (858993459 : Int32))) + ((((((x - ((((x : Int32).toUInt32 >>> (((1 : Int32) : Int32).toUInt32 &&& Int32.toUInt32 31)).toInt32) &&& (1431655765 : Int32))) &&& (858993459 : Int32)) + (((((x - ((((x : Int32).toUInt32 >>> (((1 : Int32) : Int32).toUInt32 &&& Int32.toUInt32 31)).toInt32) &&& (1431655765 : Int32))) : Int32).toUInt32 >>> (((2 : Int32) : Int32).toUInt32 &&& Int32.toUInt32 31)).toInt32) &&& (858993459 : Int32))) : Int32).toUInt32 >>> (((4 : Int32) : Int32).toUInt32 &&& Int32.toUInt32 31)).toInt32)) &&& (252645135 : Int32)) : Int32).toUInt32 >>> (((8 : Int32) : Int32).toUInt32 &&& Int32.toUInt32 31)).toInt32))) dJ6_bitCount_0f7a4_39 rfl ?_
  refine xi_istore_n (lv' := [(0, .int ((((((x - ((((x : Int32).toUInt32 >>> (((1 : Int32) : Int32).toUInt32 &&& Int32.toUInt32 31)).toInt32) &&& (1431655765 : Int32))) &&& (858993459 : Int32)) + (((((x - ((((x : Int32).toUInt32 >>> (((1 : Int32) : Int32).toUInt32 &&& Int32.toUInt32 31)).toInt32) &&& (1431655765 : Int32))) : Int32).toUInt32 >>> (((2 : Int32) : Int32).toUInt32 &&& Int32.toUInt32 31)).toInt32) &&& (858993459 : Int32))) + ((((((x - ((((x : Int32).toUInt32 >>> (((1 : Int32) : Int32).toUInt32 &&& Int32.toUInt32 31)).toInt32) &&& (1431655765 : Int32))) &&& (858993459 : Int32)) + (((((x - ((((x : Int32).toUInt32 >>> (((1 : Int32) : Int32).toUInt32 &&& Int32.toUInt32 31)).toInt32) &&& (1431655765 : Int32))) : Int32).toUInt32 >>> (((2 : Int32) : Int32).toUInt32 &&& Int32.toUInt32 31)).toInt32) &&& (858993459 : Int32))) : Int32).toUInt32 >>> (((4 : Int32) : Int32).toUInt32 &&& Int32.toUInt32 31)).toInt32)) &&& (252645135 : Int32)) + ((((((((x - ((((x : Int32).toUInt32 >>> (((1 : Int32) : Int32).toUInt32 &&& Int32.toUInt32 31)).toInt32) &&& (1431655765 : Int32))) &&& (858993459 : Int32)) + (((((x - ((((x : Int32).toUInt32 >>> (((1 : Int32) : Int32).toUInt32 &&& Int32.toUInt32 31)).toInt32) &&& (1431655765 : Int32))) : Int32).toUInt32 >>> (((2 : Int32) : Int32).toUInt32 &&& Int32.toUInt32 31)).toInt32) &&& (858993459 : Int32))) + ((((((x - ((((x : Int32).toUInt32 >>> (((1 : Int32) : Int32).toUInt32 &&& Int32.toUInt32 31)).toInt32) &&& (1431655765 : Int32))) &&& (858993459 : Int32)) + (((((x - ((((x : Int32).toUInt32 >>> (((1 : Int32) : Int32).toUInt32 &&& Int32.toUInt32 31)).toInt32) &&& (1431655765 : Int32))) : Int32).toUInt32 >>> (((2 : Int32) : Int32).toUInt32 &&& Int32.toUInt32 31)).toInt32) &&& (858993459 : Int32))) : Int32).toUInt32 >>> (((4 : Int32) : Int32).toUInt32 &&& Int32.toUInt32 31)).toInt32)) &&& (252645135 : Int32)) : Int32).toUInt32 >>> (((8 : Int32) : Int32).toUInt32 &&& Int32.toUInt32 31)).toInt32)))]) dJ6_bitCount_0f7a4_40 (by decide) rfl ?_
  refine xi_iload_n 0 dJ6_bitCount_0f7a4_41 rfl ?_
  refine xi_iload_n 0 dJ6_bitCount_0f7a4_42 rfl ?_
  refine xi_bipush (v := 16) dJ6_bitCount_0f7a4_43 (by decide) ?_
  refine xi_iushr (v := (((((((((x - ((((x : Int32).toUInt32 >>> (((1 : Int32) : Int32).toUInt32 &&& Int32.toUInt32 31)).toInt32) &&& (1431655765 : Int32))) &&& (858993459 : Int32)) + (((((x - ((((x : Int32).toUInt32 >>> (((1 : Int32) : Int32).toUInt32 &&& Int32.toUInt32 31)).toInt32) &&& (1431655765 : Int32))) : Int32).toUInt32 >>> (((2 : Int32) : Int32).toUInt32 &&& Int32.toUInt32 31)).toInt32) &&& (858993459 : Int32))) + ((((((x - ((((x : Int32).toUInt32 >>> (((1 : Int32) : Int32).toUInt32 &&& Int32.toUInt32 31)).toInt32) &&& (1431655765 : Int32))) &&& (858993459 : Int32)) + (((((x - ((((x : Int32).toUInt32 >>> (((1 : Int32) : Int32).toUInt32 &&& Int32.toUInt32 31)).toInt32) &&& (1431655765 : Int32))) : Int32).toUInt32 >>> (((2 : Int32) : Int32).toUInt32 &&& Int32.toUInt32 31)).toInt32) &&& (858993459 : Int32))) : Int32).toUInt32 >>> (((4 : Int32) : Int32).toUInt32 &&& Int32.toUInt32 31)).toInt32)) &&& (252645135 : Int32)) + ((((((((x - ((((x : Int32).toUInt32 >>> (((1 : Int32) : Int32).toUInt32 &&& Int32.toUInt32 31)).toInt32) &&& (1431655765 : Int32))) &&& (858993459 : Int32)) + (((((x - ((((x : Int32).toUInt32 >>> (((1 : Int32) : Int32).toUInt32 &&& Int32.toUInt32 31)).toInt32) &&& (1431655765 : Int32))) : Int32).toUInt32 >>> (((2 : Int32) : Int32).toUInt32 &&& Int32.toUInt32 31)).toInt32) &&& (858993459 : Int32))) + ((((((x - ((((x : Int32).toUInt32 >>> (((1 : Int32) : Int32).toUInt32 &&& Int32.toUInt32 31)).toInt32) &&& (1431655765 : Int32))) &&& (858993459 : Int32)) + (((((x - ((((x : Int32).toUInt32 >>> (((1 : Int32) : Int32).toUInt32 &&& Int32.toUInt32 31)).toInt32) &&& (1431655765 : Int32))) : Int32).toUInt32 >>> (((2 : Int32) : Int32).toUInt32 &&& Int32.toUInt32 31)).toInt32) &&& (858993459 : Int32))) : Int32).toUInt32 >>> (((4 : Int32) : Int32).toUInt32 &&& Int32.toUInt32 31)).toInt32)) &&& (252645135 : Int32)) : Int32).toUInt32 >>> (((8 : Int32) : Int32).toUInt32 &&& Int32.toUInt32 31)).toInt32)) : Int32).toUInt32 >>> (((16 : Int32) : Int32).toUInt32 &&& Int32.toUInt32 31)).toInt32)) dJ6_bitCount_0f7a4_45 rfl ?_
  refine xi_iadd (v := (((((((x - ((((x : Int32).toUInt32 >>> (((1 : Int32) : Int32).toUInt32 &&& Int32.toUInt32 31)).toInt32) &&& (1431655765 : Int32))) &&& (858993459 : Int32)) + (((((x - ((((x : Int32).toUInt32 >>> (((1 : Int32) : Int32).toUInt32 &&& Int32.toUInt32 31)).toInt32) &&& (1431655765 : Int32))) : Int32).toUInt32 >>> (((2 : Int32) : Int32).toUInt32 &&& Int32.toUInt32 31)).toInt32) &&& (858993459 : Int32))) + ((((((x - ((((x : Int32).toUInt32 >>> (((1 : Int32) : Int32).toUInt32 &&& Int32.toUInt32 31)).toInt32) &&& (1431655765 : Int32))) &&& (858993459 : Int32)) + (((((x - ((((x : Int32).toUInt32 >>> (((1 : Int32) : Int32).toUInt32 &&& Int32.toUInt32 31)).toInt32) &&& (1431655765 : Int32))) : Int32).toUInt32 >>> (((2 : Int32) : Int32).toUInt32 &&& Int32.toUInt32 31)).toInt32) &&& (858993459 : Int32))) : Int32).toUInt32 >>> (((4 : Int32) : Int32).toUInt32 &&& Int32.toUInt32 31)).toInt32)) &&& (252645135 : Int32)) + ((((((((x - ((((x : Int32).toUInt32 >>> (((1 : Int32) : Int32).toUInt32 &&& Int32.toUInt32 31)).toInt32) &&& (1431655765 : Int32))) &&& (858993459 : Int32)) + (((((x - ((((x : Int32).toUInt32 >>> (((1 : Int32) : Int32).toUInt32 &&& Int32.toUInt32 31)).toInt32) &&& (1431655765 : Int32))) : Int32).toUInt32 >>> (((2 : Int32) : Int32).toUInt32 &&& Int32.toUInt32 31)).toInt32) &&& (858993459 : Int32))) + ((((((x - ((((x : Int32).toUInt32 >>> (((1 : Int32) : Int32).toUInt32 &&& Int32.toUInt32 31)).toInt32) &&& (1431655765 : Int32))) &&& (858993459 : Int32)) + (((((x - ((((x : Int32).toUInt32 >>> (((1 : Int32) : Int32).toUInt32 &&& Int32.toUInt32 31)).toInt32) &&& (1431655765 : Int32))) : Int32).toUInt32 >>> (((2 : Int32) : Int32).toUInt32 &&& Int32.toUInt32 31)).toInt32) &&& (858993459 : Int32))) : Int32).toUInt32 >>> (((4 : Int32) : Int32).toUInt32 &&& Int32.toUInt32 31)).toInt32)) &&& (252645135 : Int32)) : Int32).toUInt32 >>> (((8 : Int32) : Int32).toUInt32 &&& Int32.toUInt32 31)).toInt32)) + (((((((((x - ((((x : Int32).toUInt32 >>> (((1 : Int32) : Int32).toUInt32 &&& Int32.toUInt32 31)).toInt32) &&& (1431655765 : Int32))) &&& (858993459 : Int32)) + (((((x - ((((x : Int32).toUInt32 >>> (((1 : Int32) : Int32).toUInt32 &&& Int32.toUInt32 31)).toInt32) &&& (1431655765 : Int32))) : Int32).toUInt32 >>> (((2 : Int32) : Int32).toUInt32 &&& Int32.toUInt32 31)).toInt32) &&& (858993459 : Int32))) + ((((((x - ((((x : Int32).toUInt32 >>> (((1 : Int32) : Int32).toUInt32 &&& Int32.toUInt32 31)).toInt32) &&& (1431655765 : Int32))) &&& (858993459 : Int32)) + (((((x - ((((x : Int32).toUInt32 >>> (((1 : Int32) : Int32).toUInt32 &&& Int32.toUInt32 31)).toInt32) &&& (1431655765 : Int32))) : Int32).toUInt32 >>> (((2 : Int32) : Int32).toUInt32 &&& Int32.toUInt32 31)).toInt32) &&& (858993459 : Int32))) : Int32).toUInt32 >>> (((4 : Int32) : Int32).toUInt32 &&& Int32.toUInt32 31)).toInt32)) &&& (252645135 : Int32)) + ((((((((x - ((((x : Int32).toUInt32 >>> (((1 : Int32) : Int32).toUInt32 &&& Int32.toUInt32 31)).toInt32) &&& (1431655765 : Int32))) &&& (858993459 : Int32)) + (((((x - ((((x : Int32).toUInt32 >>> (((1 : Int32) : Int32).toUInt32 &&& Int32.toUInt32 31)).toInt32) &&& (1431655765 : Int32))) : Int32).toUInt32 >>> (((2 : Int32) : Int32).toUInt32 &&& Int32.toUInt32 31)).toInt32) &&& (858993459 : Int32))) + ((((((x - ((((x : Int32).toUInt32 >>> (((1 : Int32) : Int32).toUInt32 &&& Int32.toUInt32 31)).toInt32) &&& (1431655765 : Int32))) &&& (858993459 : Int32)) + (((((x - ((((x : Int32).toUInt32 >>> (((1 : Int32) : Int32).toUInt32 &&& Int32.toUInt32 31)).toInt32) &&& (1431655765 : Int32))) : Int32).toUInt32 >>> (((2 : Int32) : Int32).toUInt32 &&& Int32.toUInt32 31)).toInt32) &&& (858993459 : Int32))) : Int32).toUInt32 >>> (((4 : Int32) : Int32).toUInt32 &&& Int32.toUInt32 31)).toInt32)) &&& (252645135 : Int32)) : Int32).toUInt32 >>> (((8 : Int32) : Int32).toUInt32 &&& Int32.toUInt32 31)).toInt32)) : Int32).toUInt32 >>> (((16 : Int32) : Int32).toUInt32 &&& Int32.toUInt32 31)).toInt32))) dJ6_bitCount_0f7a4_46 rfl ?_
  refine xi_istore_n (lv' := [(0, .int (((((((x - ((((x : Int32).toUInt32 >>> (((1 : Int32) : Int32).toUInt32 &&& Int32.toUInt32 31)).toInt32) &&& (1431655765 : Int32))) &&& (858993459 : Int32)) + (((((x - ((((x : Int32).toUInt32 >>> (((1 : Int32) : Int32).toUInt32 &&& Int32.toUInt32 31)).toInt32) &&& (1431655765 : Int32))) : Int32).toUInt32 >>> (((2 : Int32) : Int32).toUInt32 &&& Int32.toUInt32 31)).toInt32) &&& (858993459 : Int32))) + ((((((x - ((((x : Int32).toUInt32 >>> (((1 : Int32) : Int32).toUInt32 &&& Int32.toUInt32 31)).toInt32) &&& (1431655765 : Int32))) &&& (858993459 : Int32)) + (((((x - ((((x : Int32).toUInt32 >>> (((1 : Int32) : Int32).toUInt32 &&& Int32.toUInt32 31)).toInt32) &&& (1431655765 : Int32))) : Int32).toUInt32 >>> (((2 : Int32) : Int32).toUInt32 &&& Int32.toUInt32 31)).toInt32) &&& (858993459 : Int32))) : Int32).toUInt32 >>> (((4 : Int32) : Int32).toUInt32 &&& Int32.toUInt32 31)).toInt32)) &&& (252645135 : Int32)) + ((((((((x - ((((x : Int32).toUInt32 >>> (((1 : Int32) : Int32).toUInt32 &&& Int32.toUInt32 31)).toInt32) &&& (1431655765 : Int32))) &&& (858993459 : Int32)) + (((((x - ((((x : Int32).toUInt32 >>> (((1 : Int32) : Int32).toUInt32 &&& Int32.toUInt32 31)).toInt32) &&& (1431655765 : Int32))) : Int32).toUInt32 >>> (((2 : Int32) : Int32).toUInt32 &&& Int32.toUInt32 31)).toInt32) &&& (858993459 : Int32))) + ((((((x - ((((x : Int32).toUInt32 >>> (((1 : Int32) : Int32).toUInt32 &&& Int32.toUInt32 31)).toInt32) &&& (1431655765 : Int32))) &&& (858993459 : Int32)) + (((((x - ((((x : Int32).toUInt32 >>> (((1 : Int32) : Int32).toUInt32 &&& Int32.toUInt32 31)).toInt32) &&& (1431655765 : Int32))) : Int32).toUInt32 >>> (((2 : Int32) : Int32).toUInt32 &&& Int32.toUInt32 31)).toInt32) &&& (858993459 : Int32))) : Int32).toUInt32 >>> (((4 : Int32) : Int32).toUInt32 &&& Int32.toUInt32 31)).toInt32)) &&& (252645135 : Int32)) : Int32).toUInt32 >>> (((8 : Int32) : Int32).toUInt32 &&& Int32.toUInt32 31)).toInt32)) + (((((((((x - ((((x : Int32).toUInt32 >>> (((1 : Int32) : Int32).toUInt32 &&& Int32.toUInt32 31)).toInt32) &&& (1431655765 : Int32))) &&& (858993459 : Int32)) + (((((x - ((((x : Int32).toUInt32 >>> (((1 : Int32) : Int32).toUInt32 &&& Int32.toUInt32 31)).toInt32) &&& (1431655765 : Int32))) : Int32).toUInt32 >>> (((2 : Int32) : Int32).toUInt32 &&& Int32.toUInt32 31)).toInt32) &&& (858993459 : Int32))) + ((((((x - ((((x : Int32).toUInt32 >>> (((1 : Int32) : Int32).toUInt32 &&& Int32.toUInt32 31)).toInt32) &&& (1431655765 : Int32))) &&& (858993459 : Int32)) + (((((x - ((((x : Int32).toUInt32 >>> (((1 : Int32) : Int32).toUInt32 &&& Int32.toUInt32 31)).toInt32) &&& (1431655765 : Int32))) : Int32).toUInt32 >>> (((2 : Int32) : Int32).toUInt32 &&& Int32.toUInt32 31)).toInt32) &&& (858993459 : Int32))) : Int32).toUInt32 >>> (((4 : Int32) : Int32).toUInt32 &&& Int32.toUInt32 31)).toInt32)) &&& (252645135 : Int32)) + ((((((((x - ((((x : Int32).toUInt32 >>> (((1 : Int32) : Int32).toUInt32 &&& Int32.toUInt32 31)).toInt32) &&& (1431655765 : Int32))) &&& (858993459 : Int32)) + (((((x - ((((x : Int32).toUInt32 >>> (((1 : Int32) : Int32).toUInt32 &&& Int32.toUInt32 31)).toInt32) &&& (1431655765 : Int32))) : Int32).toUInt32 >>> (((2 : Int32) : Int32).toUInt32 &&& Int32.toUInt32 31)).toInt32) &&& (858993459 : Int32))) + ((((((x - ((((x : Int32).toUInt32 >>> (((1 : Int32) : Int32).toUInt32 &&& Int32.toUInt32 31)).toInt32) &&& (1431655765 : Int32))) &&& (858993459 : Int32)) + (((((x - ((((x : Int32).toUInt32 >>> (((1 : Int32) : Int32).toUInt32 &&& Int32.toUInt32 31)).toInt32) &&& (1431655765 : Int32))) : Int32).toUInt32 >>> (((2 : Int32) : Int32).toUInt32 &&& Int32.toUInt32 31)).toInt32) &&& (858993459 : Int32))) : Int32).toUInt32 >>> (((4 : Int32) : Int32).toUInt32 &&& Int32.toUInt32 31)).toInt32)) &&& (252645135 : Int32)) : Int32).toUInt32 >>> (((8 : Int32) : Int32).toUInt32 &&& Int32.toUInt32 31)).toInt32)) : Int32).toUInt32 >>> (((16 : Int32) : Int32).toUInt32 &&& Int32.toUInt32 31)).toInt32)))]) dJ6_bitCount_0f7a4_47 (by decide) rfl ?_
  refine xi_iload_n 0 dJ6_bitCount_0f7a4_48 rfl ?_
  refine xi_bipush (v := 63) dJ6_bitCount_0f7a4_49 (by decide) ?_
  refine xi_iand (v := ((((((((x - ((((x : Int32).toUInt32 >>> (((1 : Int32) : Int32).toUInt32 &&& Int32.toUInt32 31)).toInt32) &&& (1431655765 : Int32))) &&& (858993459 : Int32)) + (((((x - ((((x : Int32).toUInt32 >>> (((1 : Int32) : Int32).toUInt32 &&& Int32.toUInt32 31)).toInt32) &&& (1431655765 : Int32))) : Int32).toUInt32 >>> (((2 : Int32) : Int32).toUInt32 &&& Int32.toUInt32 31)).toInt32) &&& (858993459 : Int32))) + ((((((x - ((((x : Int32).toUInt32 >>> (((1 : Int32) : Int32).toUInt32 &&& Int32.toUInt32 31)).toInt32) &&& (1431655765 : Int32))) &&& (858993459 : Int32)) + (((((x - ((((x : Int32).toUInt32 >>> (((1 : Int32) : Int32).toUInt32 &&& Int32.toUInt32 31)).toInt32) &&& (1431655765 : Int32))) : Int32).toUInt32 >>> (((2 : Int32) : Int32).toUInt32 &&& Int32.toUInt32 31)).toInt32) &&& (858993459 : Int32))) : Int32).toUInt32 >>> (((4 : Int32) : Int32).toUInt32 &&& Int32.toUInt32 31)).toInt32)) &&& (252645135 : Int32)) + ((((((((x - ((((x : Int32).toUInt32 >>> (((1 : Int32) : Int32).toUInt32 &&& Int32.toUInt32 31)).toInt32) &&& (1431655765 : Int32))) &&& (858993459 : Int32)) + (((((x - ((((x : Int32).toUInt32 >>> (((1 : Int32) : Int32).toUInt32 &&& Int32.toUInt32 31)).toInt32) &&& (1431655765 : Int32))) : Int32).toUInt32 >>> (((2 : Int32) : Int32).toUInt32 &&& Int32.toUInt32 31)).toInt32) &&& (858993459 : Int32))) + ((((((x - ((((x : Int32).toUInt32 >>> (((1 : Int32) : Int32).toUInt32 &&& Int32.toUInt32 31)).toInt32) &&& (1431655765 : Int32))) &&& (858993459 : Int32)) + (((((x - ((((x : Int32).toUInt32 >>> (((1 : Int32) : Int32).toUInt32 &&& Int32.toUInt32 31)).toInt32) &&& (1431655765 : Int32))) : Int32).toUInt32 >>> (((2 : Int32) : Int32).toUInt32 &&& Int32.toUInt32 31)).toInt32) &&& (858993459 : Int32))) : Int32).toUInt32 >>> (((4 : Int32) : Int32).toUInt32 &&& Int32.toUInt32 31)).toInt32)) &&& (252645135 : Int32)) : Int32).toUInt32 >>> (((8 : Int32) : Int32).toUInt32 &&& Int32.toUInt32 31)).toInt32)) + (((((((((x - ((((x : Int32).toUInt32 >>> (((1 : Int32) : Int32).toUInt32 &&& Int32.toUInt32 31)).toInt32) &&& (1431655765 : Int32))) &&& (858993459 : Int32)) + (((((x - ((((x : Int32).toUInt32 >>> (((1 : Int32) : Int32).toUInt32 &&& Int32.toUInt32 31)).toInt32) &&& (1431655765 : Int32))) : Int32).toUInt32 >>> (((2 : Int32) : Int32).toUInt32 &&& Int32.toUInt32 31)).toInt32) &&& (858993459 : Int32))) + ((((((x - ((((x : Int32).toUInt32 >>> (((1 : Int32) : Int32).toUInt32 &&& Int32.toUInt32 31)).toInt32) &&& (1431655765 : Int32))) &&& (858993459 : Int32)) + (((((x - ((((x : Int32).toUInt32 >>> (((1 : Int32) : Int32).toUInt32 &&& Int32.toUInt32 31)).toInt32) &&& (1431655765 : Int32))) : Int32).toUInt32 >>> (((2 : Int32) : Int32).toUInt32 &&& Int32.toUInt32 31)).toInt32) &&& (858993459 : Int32))) : Int32).toUInt32 >>> (((4 : Int32) : Int32).toUInt32 &&& Int32.toUInt32 31)).toInt32)) &&& (252645135 : Int32)) + ((((((((x - ((((x : Int32).toUInt32 >>> (((1 : Int32) : Int32).toUInt32 &&& Int32.toUInt32 31)).toInt32) &&& (1431655765 : Int32))) &&& (858993459 : Int32)) + (((((x - ((((x : Int32).toUInt32 >>> (((1 : Int32) : Int32).toUInt32 &&& Int32.toUInt32 31)).toInt32) &&& (1431655765 : Int32))) : Int32).toUInt32 >>> (((2 : Int32) : Int32).toUInt32 &&& Int32.toUInt32 31)).toInt32) &&& (858993459 : Int32))) + ((((((x - ((((x : Int32).toUInt32 >>> (((1 : Int32) : Int32).toUInt32 &&& Int32.toUInt32 31)).toInt32) &&& (1431655765 : Int32))) &&& (858993459 : Int32)) + (((((x - ((((x : Int32).toUInt32 >>> (((1 : Int32) : Int32).toUInt32 &&& Int32.toUInt32 31)).toInt32) &&& (1431655765 : Int32))) : Int32).toUInt32 >>> (((2 : Int32) : Int32).toUInt32 &&& Int32.toUInt32 31)).toInt32) &&& (858993459 : Int32))) : Int32).toUInt32 >>> (((4 : Int32) : Int32).toUInt32 &&& Int32.toUInt32 31)).toInt32)) &&& (252645135 : Int32)) : Int32).toUInt32 >>> (((8 : Int32) : Int32).toUInt32 &&& Int32.toUInt32 31)).toInt32)) : Int32).toUInt32 >>> (((16 : Int32) : Int32).toUInt32 &&& Int32.toUInt32 31)).toInt32)) &&& (63 : Int32))) dJ6_bitCount_0f7a4_51 rfl ?_
  exact xi_iret dJ6_bitCount_0f7a4_52 rfl rfl (Nat.le_of_ble_eq_true rfl) (Nat.le_of_ble_eq_true rfl) ⟨_, rfl, hq, rfl⟩
def FX5_has (Na : NV) (x : Int32) : Int32 := (if x < (0 : Int32) then (0 : Int32) else (if (nI Na.1) ≤ x then (0 : Int32) else (1 : Int32)))
set_option maxHeartbeats 4000000 in
set_option maxRecDepth 100000 in
theorem FX5_has_ok (G : xG) {M : xMem} {a : Nat} {Na : NV} (ha : xnet M a Na) (ka : Na.1 ≤ 9) (x : Int32) (Q : Int32 → Prop) (hq : Q (FX5_has Na x)) : xC G mX5_has 0 0 0 [.ref a, .int x] M (fun v M2 => ∃ r, v = some (.int r) ∧ Q r ∧ M2 = M) := by
  unfold FX5_has at hq
  refine xC.of (by decide) (Nat.le_of_ble_eq_true rfl) ?_
  show xW _ _ _ _ 0 [(0, .ref a), (1, .int x)] [] _ 0 0
  refine xi_iload_n 1 dX5_has_0 rfl ?_
  refine xi_if_lt (tgt := 16) dX5_has_1 (by decide) (fun c1 => ?_) (fun c1 => ?_)
  · rw [if_pos c1] at hq
    refine xi_iconst (v := 0) dX5_has_16 (by decide) ?_
    exact xi_iret dX5_has_17 rfl (by decide) (Nat.le_of_ble_eq_true rfl) (Nat.le_of_ble_eq_true rfl) ⟨_, rfl, hq, rfl⟩
  · rw [if_neg c1] at hq
    refine xi_iload_n 1 dX5_has_4 rfl ?_
    refine xi_aload_n 0 dX5_has_5 rfl ?_
    refine xi_get (f := 0) dX5_has_6 ha.1 rfl ok_5 (by decide) w_61 rfl ?_
    refine xi_icmp_ge (tgt := 16) dX5_has_9 (by decide) (fun c2 => ?_) (fun c2 => ?_)
    · rw [if_pos c2] at hq
      refine xi_iconst (v := 0) dX5_has_16 (by decide) ?_
      exact xi_iret dX5_has_17 rfl (by decide) (Nat.le_of_ble_eq_true rfl) (Nat.le_of_ble_eq_true rfl) ⟨_, rfl, hq, rfl⟩
    · rw [if_neg c2] at hq
      refine xi_iconst (v := 1) dX5_has_12 (by decide) ?_
      refine xi_goto (tgt := 17) dX5_has_13 (by decide) ?_
      exact xi_iret dX5_has_17 rfl (by decide) (Nat.le_of_ble_eq_true rfl) (Nat.le_of_ble_eq_true rfl) ⟨_, rfl, hq, rfl⟩
theorem FX5_has_b (Na : NV) (x : Int32) : FX5_has Na x = 0 ∨ FX5_has Na x = 1 := by
  unfold FX5_has
  (repeat' split) <;> first | exact Or.inl rfl | exact Or.inr rfl
def FX5_hasTwo (Na : NV) (x : Int32) (y : Int32) : Int32 := (if (FX5_has Na x) = (0 : Int32) then (0 : Int32) else (if (FX5_has Na y) = (0 : Int32) then (0 : Int32) else (if x = y then (0 : Int32) else (1 : Int32))))
set_option maxHeartbeats 4000000 in
set_option maxRecDepth 100000 in
theorem FX5_hasTwo_ok (G : xG) {M : xMem} {a : Nat} {Na : NV} (ha : xnet M a Na) (ka : Na.1 ≤ 9) (x : Int32) (y : Int32) (Q : Int32 → Prop) (hq : Q (FX5_hasTwo Na x y)) : xC G mX5_hasTwo 1 0 0 [.ref a, .int x, .int y] M (fun v M2 => ∃ r, v = some (.int r) ∧ Q r ∧ M2 = M) := by
  unfold FX5_hasTwo at hq
  refine xC.of (by decide) (Nat.le_of_ble_eq_true rfl) ?_
  show xW _ _ _ _ 0 [(0, .ref a), (1, .int x), (2, .int y)] [] _ 0 0
  refine xi_aload_n 0 dX5_hasTwo_0 rfl ?_
  refine xi_iload_n 1 dX5_hasTwo_1 rfl ?_
  refine xi_callV (as := [.int x]) (rest := []) dX5_hasTwo_2 (FX5_has_ok G ha ka x (fun r => r = FX5_has Na x) rfl) mkX5_has w_437 w_438 w_940 ha.1 rfl rfl rfl rfl (Nat.le_of_ble_eq_true rfl) (Nat.le_of_ble_eq_true rfl) (Nat.le_of_ble_eq_true rfl) (Nat.le_of_ble_eq_true rfl) (Nat.le_of_ble_eq_true rfl) ?_
  intro v M2 hz
  obtain ⟨_, rfl, rfl, hM2⟩ := hz
  rw [hM2]
  show xW _ _ _ _ 5 _ [.int (FX5_has Na x)] M _ _
  refine xi_if_eq (tgt := 25) dX5_hasTwo_5 (by decide) (fun c1 => ?_) (fun c1 => ?_)
  · rw [if_pos c1] at hq
    refine xi_iconst (v := 0) dX5_hasTwo_25 (by decide) ?_
    exact xi_iret dX5_hasTwo_26 rfl (by decide) (Nat.le_of_ble_eq_true rfl) (Nat.le_of_ble_eq_true rfl) ⟨_, rfl, hq, rfl⟩
  · rw [if_neg c1] at hq
    refine xi_aload_n 0 dX5_hasTwo_8 rfl ?_
    refine xi_iload_n 2 dX5_hasTwo_9 rfl ?_
    refine xi_callV (as := [.int y]) (rest := []) dX5_hasTwo_10 (FX5_has_ok G ha ka y (fun r => r = FX5_has Na y) rfl) mkX5_has w_437 w_438 w_940 ha.1 rfl rfl rfl rfl (Nat.le_of_ble_eq_true rfl) (Nat.le_of_ble_eq_true rfl) (Nat.le_of_ble_eq_true rfl) (Nat.le_of_ble_eq_true rfl) (Nat.le_of_ble_eq_true rfl) ?_
    intro v M2 hz
    obtain ⟨_, rfl, rfl, hM2⟩ := hz
    rw [hM2]
    show xW _ _ _ _ 13 _ [.int (FX5_has Na y)] M _ _
    refine xi_if_eq (tgt := 25) dX5_hasTwo_13 (by decide) (fun c2 => ?_) (fun c2 => ?_)
    · rw [if_pos c2] at hq
      refine xi_iconst (v := 0) dX5_hasTwo_25 (by decide) ?_
      exact xi_iret dX5_hasTwo_26 rfl (by decide) (Nat.le_of_ble_eq_true rfl) (Nat.le_of_ble_eq_true rfl) ⟨_, rfl, hq, rfl⟩
    · rw [if_neg c2] at hq
      refine xi_iload_n 1 dX5_hasTwo_16 rfl ?_
      refine xi_iload_n 2 dX5_hasTwo_17 rfl ?_
      refine xi_icmp_eq (tgt := 25) dX5_hasTwo_18 (by decide) (fun c3 => ?_) (fun c3 => ?_)
      · rw [if_pos c3] at hq
        refine xi_iconst (v := 0) dX5_hasTwo_25 (by decide) ?_
        exact xi_iret dX5_hasTwo_26 rfl (by decide) (Nat.le_of_ble_eq_true rfl) (Nat.le_of_ble_eq_true rfl) ⟨_, rfl, hq, rfl⟩
      · rw [if_neg c3] at hq
        refine xi_iconst (v := 1) dX5_hasTwo_21 (by decide) ?_
        refine xi_goto (tgt := 26) dX5_hasTwo_22 (by decide) ?_
        exact xi_iret dX5_hasTwo_26 rfl (by decide) (Nat.le_of_ble_eq_true rfl) (Nat.le_of_ble_eq_true rfl) ⟨_, rfl, hq, rfl⟩
theorem FX5_hasTwo_b (Na : NV) (x : Int32) (y : Int32) : FX5_hasTwo Na x y = 0 ∨ FX5_hasTwo Na x y = 1 := by
  unfold FX5_hasTwo
  (repeat' split) <;> first | exact Or.inl rfl | exact Or.inr rfl
def FX5_allBits (Na : NV) : Int32 := (((1 : Int32) <<< ((nI Na.1) &&& 31)) - (1 : Int32))
set_option maxHeartbeats 4000000 in
set_option maxRecDepth 100000 in
theorem FX5_allBits_ok (G : xG) {M : xMem} {a : Nat} {Na : NV} (ha : xnet M a Na) (ka : Na.1 ≤ 9) (Q : Int32 → Prop) (hq : Q (FX5_allBits Na)) : xC G mX5_allBits 0 0 0 [.ref a] M (fun v M2 => ∃ r, v = some (.int r) ∧ Q r ∧ M2 = M) := by
  unfold FX5_allBits at hq
  refine xC.of (by decide) (Nat.le_of_ble_eq_true rfl) ?_
  show xW _ _ _ _ 0 [(0, .ref a)] [] _ 0 0
  refine xi_iconst (v := 1) dX5_allBits_0 (by decide) ?_
  refine xi_aload_n 0 dX5_allBits_1 rfl ?_
  refine xi_get (f := 0) dX5_allBits_2 ha.1 rfl ok_5 (by decide) w_61 rfl ?_
  refine xi_ishl (v := ((1 : Int32) <<< ((nI Na.1) &&& 31))) dX5_allBits_5 rfl ?_
  refine xi_iconst (v := 1) dX5_allBits_6 (by decide) ?_
  refine xi_isub (v := (((1 : Int32) <<< ((nI Na.1) &&& 31)) - (1 : Int32))) dX5_allBits_7 rfl ?_
  exact xi_iret dX5_allBits_8 rfl rfl (Nat.le_of_ble_eq_true rfl) (Nat.le_of_ble_eq_true rfl) ⟨_, rfl, hq, rfl⟩
def FX5_lineCount (Na : NV) (p : Nat) : Int32 := (FJ6_bitCount_0f7a4 ((Na.2.2.1 p)))
set_option maxHeartbeats 4000000 in
set_option maxRecDepth 100000 in
theorem FX5_lineCount_ok (G : xG) {M : xMem} {a : Nat} {Na : NV} (ha : xnet M a Na) (ka : Na.1 ≤ 9) (p : Nat) (bp : p < 9) (Q : Int32 → Prop) (hq : Q (FX5_lineCount Na p)) : xC G mX5_lineCount 1 0 0 [.ref a, .int (nI p)] M (fun v M2 => ∃ r, v = some (.int r) ∧ Q r ∧ M2 = M) := by
  unfold FX5_lineCount at hq
  refine xC.of (by decide) (Nat.le_of_ble_eq_true rfl) ?_
  show xW _ _ _ _ 0 [(0, .ref a), (1, .int (nI p))] [] _ 0 0
  refine xi_aload_n 0 dX5_lineCount_0 rfl ?_
  refine xi_get (f := 2) dX5_lineCount_1 ha.1 rfl ok_5 (by decide) w_72 rfl ?_
  refine xi_iload_n 1 dX5_lineCount_4 rfl ?_
  refine xi_iaload (v := (Na.2.2.1 p)) dX5_lineCount_5 ha.2.1 (vp_in_nI (by omega) (by decide)) (by rw [nI_clamp (by omega)]) ?_
  refine xi_callS (as := [.int (Na.2.2.1 p)]) (rest := []) dX5_lineCount_6 (FJ6_bitCount_0f7a4_ok G ((Na.2.2.1 p)) (fun r => r = FJ6_bitCount_0f7a4 ((Na.2.2.1 p))) rfl) mkJ6_bitCount_0f7a4 w_508 w_507 rfl rfl (Nat.le_of_ble_eq_true rfl) (Nat.le_of_ble_eq_true rfl) (Nat.le_of_ble_eq_true rfl) (Nat.le_of_ble_eq_true rfl) (Nat.le_of_ble_eq_true rfl) ?_
  intro v M2 hz
  obtain ⟨_, rfl, rfl, hM2⟩ := hz
  rw [hM2]
  show xW _ _ _ _ 9 _ [.int (FJ6_bitCount_0f7a4 ((Na.2.2.1 p)))] M _ _
  exact xi_iret dX5_lineCount_9 rfl rfl (Nat.le_of_ble_eq_true rfl) (Nat.le_of_ble_eq_true rfl) ⟨_, rfl, hq, rfl⟩
def FX5_weightOf (Na : NV) (p : Nat) (q : Nat) : Int32 := (Na.2.2.2.2 ((p * 9) + q))
set_option maxHeartbeats 4000000 in
set_option maxRecDepth 100000 in
theorem FX5_weightOf_ok (G : xG) {M : xMem} {a : Nat} {Na : NV} (ha : xnet M a Na) (ka : Na.1 ≤ 9) (p : Nat) (bp : p < 9) (q : Nat) (bq : q < 9) (Q : Int32 → Prop) (hq : Q (FX5_weightOf Na p q)) : xC G mX5_weightOf 0 0 0 [.ref a, .int (nI p), .int (nI q)] M (fun v M2 => ∃ r, v = some (.int r) ∧ Q r ∧ M2 = M) := by
  unfold FX5_weightOf at hq
  refine xC.of (by decide) (Nat.le_of_ble_eq_true rfl) ?_
  show xW _ _ _ _ 0 [(0, .ref a), (1, .int (nI p)), (2, .int (nI q))] [] _ 0 0
  refine xi_aload_n 0 dX5_weightOf_0 rfl ?_
  refine xi_get (f := 4) dX5_weightOf_1 ha.1 rfl ok_5 (by decide) w_83 rfl ?_
  refine xi_iload_n 1 dX5_weightOf_4 rfl ?_
  refine xi_bipush (v := 9) dX5_weightOf_5 (by decide) ?_
  refine xi_imul (v := (nI (p * 9))) dX5_weightOf_7 (pk_mul p 9) ?_
  refine xi_iload_n 2 dX5_weightOf_8 rfl ?_
  refine xi_iadd (v := (nI ((p * 9) + q))) dX5_weightOf_9 (nI_add (p * 9) q) ?_
  refine xi_iaload (v := (Na.2.2.2.2 ((p * 9) + q))) dX5_weightOf_10 ha.2.2.2 (vp_in_nI (by omega) (by decide)) (by rw [nI_clamp (by omega)]) ?_
  exact xi_iret dX5_weightOf_11 rfl rfl (Nat.le_of_ble_eq_true rfl) (Nat.le_of_ble_eq_true rfl) ⟨_, rfl, hq, rfl⟩
def LX5_placeOf_2 (Na : NV) (w1 : Int32) (K : Int32) : Nat → Nat → Int32
  | 0, _ => K
  | k + 1, j => (if (nI ((Na.2.2.2.1 j).toNatClampNeg)) = w1 then (nI j) else (LX5_placeOf_2 Na w1 K k (j + 1)))
set_option maxHeartbeats 4000000 in
set_option maxRecDepth 100000 in
theorem LX5_placeOf_2_s (G : xG) {M : xMem} {a : Nat} {Na : NV} (ha : xnet M a Na) (ka : Na.1 ≤ 9) (oa : NO Na) (w1 : Int32) (Q : Int32 → Prop) (K : Int32) (HE : Q (K) → xW G mX5_placeOf (xrm 0 0 0) (xQ G (fun v M2 => ∃ r, v = some (.int r) ∧ Q r ∧ M2 = M) 0 0) 28 [] [] M 0 0) :
    ∀ (k j : Nat), Na.1 - j = k → j < 100000 → Q (LX5_placeOf_2 Na w1 K k j) → xW G mX5_placeOf (xrm 0 0 0) (xQ G (fun v M2 => ∃ r, v = some (.int r) ∧ Q r ∧ M2 = M) 0 0) 2 [(0, .ref a), (1, .int w1), (2, .int (nI j))] [] M 0 0 := by
  intro k
  induction k with
  | zero =>
    intro j hj hj2 hq
    rw [LX5_placeOf_2] at hq
    refine xi_iload_n 2 dX5_placeOf_2 rfl ?_
    refine xi_aload_n 0 dX5_placeOf_3 rfl ?_
    refine xi_get (f := 0) dX5_placeOf_4 ha.1 rfl ok_5 (by decide) w_61 rfl ?_
    refine xi_icmp_ge_t (tgt := 28) dX5_placeOf_7 (by decide) (nI_le (a := Na.1) (b := j) (by omega) (by omega)) ?_
    refine xi_sub (lv' := []) [] rfl ?_
    exact HE hq
  | succ k ih =>
    intro j hj hj2 hq
    rw [LX5_placeOf_2] at hq
    refine xi_iload_n 2 dX5_placeOf_2 rfl ?_
    refine xi_aload_n 0 dX5_placeOf_3 rfl ?_
    refine xi_get (f := 0) dX5_placeOf_4 ha.1 rfl ok_5 (by decide) w_61 rfl ?_
    refine xi_icmp_ge_f (tgt := 28) dX5_placeOf_7 (by decide) (nI_ge (a := j) (b := Na.1) (by omega) (by omega)) ?_
    refine xi_aload_n 0 dX5_placeOf_10 rfl ?_
    refine xi_get (f := 3) dX5_placeOf_11 ha.1 rfl ok_5 (by decide) w_78 rfl ?_
    refine xi_iload_n 2 dX5_placeOf_14 rfl ?_
    have o1 := (oa j (by omega)).2
    refine xi_iaload (v := (nI ((Na.2.2.2.1 j).toNatClampNeg))) dX5_placeOf_15 ha.2.2.1 (vp_in_nI (by omega) (by decide)) (by rw [nI_clamp (by omega)]; exact (oa j (by omega)).1) ?_
    refine xi_iload_n 1 dX5_placeOf_16 rfl ?_
    refine xi_icmp_ne (tgt := 22) dX5_placeOf_17 (by decide) (fun c2 => ?_) (fun c2 => ?_)
    · rw [if_neg c2] at hq
      refine xi_iinc (v := (nI (j + 1))) (lv' := [(2, .int (nI (j + 1))), (0, .ref a), (1, .int w1)]) 2 dX5_placeOf_22 rfl (nI_1 _) (by decide) rfl ?_
      refine xi_goto (tgt := 2) dX5_placeOf_25 (by decide) ?_
      refine xi_sub (lv' := [(0, .ref a), (1, .int w1), (2, .int (nI (j + 1)))]) [1, 2, 0] rfl ?_
      exact ih (j + 1) (by omega) (by omega) hq
    · rw [if_pos c2] at hq
      refine xi_iload_n 2 dX5_placeOf_20 rfl ?_
      exact xi_iret dX5_placeOf_21 rfl rfl (Nat.le_of_ble_eq_true rfl) (Nat.le_of_ble_eq_true rfl) ⟨_, rfl, hq, rfl⟩
def FX5_placeOf (Na : NV) (x : Int32) : Int32 := (LX5_placeOf_2 Na x ((-1 : Int32)) (Na.1 - 0) 0)
set_option maxHeartbeats 4000000 in
set_option maxRecDepth 100000 in
theorem FX5_placeOf_ok (G : xG) {M : xMem} {a : Nat} {Na : NV} (ha : xnet M a Na) (ka : Na.1 ≤ 9) (oa : NO Na) (x : Int32) (Q : Int32 → Prop) (hq : Q (FX5_placeOf Na x)) : xC G mX5_placeOf 0 0 0 [.ref a, .int x] M (fun v M2 => ∃ r, v = some (.int r) ∧ Q r ∧ M2 = M) := by
  unfold FX5_placeOf at hq
  refine xC.of (by decide) (Nat.le_of_ble_eq_true rfl) ?_
  show xW _ _ _ _ 0 [(0, .ref a), (1, .int x)] [] _ 0 0
  refine xi_iconst (v := 0) dX5_placeOf_0 (by decide) ?_
  refine xi_istore_n (lv' := [(2, .int 0), (0, .ref a), (1, .int x)]) dX5_placeOf_1 (by decide) rfl ?_
  refine xi_sub (lv' := [(0, .ref a), (1, .int x), (2, .int 0)]) [1, 2, 0] rfl ?_
  refine LX5_placeOf_2_s G ha ka oa x Q _ (fun hq => ?_) (Na.1 - 0) 0 rfl (by omega) hq
  refine xi_iconst (v := (-1)) dX5_placeOf_28 (by decide) ?_
  exact xi_iret dX5_placeOf_29 rfl rfl (Nat.le_of_ble_eq_true rfl) (Nat.le_of_ble_eq_true rfl) ⟨_, rfl, hq, rfl⟩
def LX5_aheadOf_4 (Na : NV) (n1 : Nat) (K : Int32 → Int32) : Nat → Nat → Int32 → Int32
  | 0, _, v2 => K v2
  | k + 1, j, v2 => (LX5_aheadOf_4 Na n1 K k (j + 1) ((v2 ||| ((1 : Int32) <<< ((nI ((Na.2.2.2.1 j).toNatClampNeg)) &&& 31)))))
set_option maxHeartbeats 4000000 in
set_option maxRecDepth 100000 in
theorem LX5_aheadOf_4_s (G : xG) {M : xMem} {a : Nat} {Na : NV} (ha : xnet M a Na) (ka : Na.1 ≤ 9) (oa : NO Na) (n1 : Nat) (bn1 : n1 < 10) (Q : Int32 → Prop) (K : Int32 → Int32) (HE : ∀ (v2 : Int32), Q (K v2) → xW G mX5_aheadOf (xrm 0 0 0) (xQ G (fun v M2 => ∃ r, v = some (.int r) ∧ Q r ∧ M2 = M) 0 0) 26 [(2, .int v2)] [] M 0 0) :
    ∀ (k j : Nat) (v2 : Int32), n1 - j = k → j < 100000 → Q (LX5_aheadOf_4 Na n1 K k j v2) → xW G mX5_aheadOf (xrm 0 0 0) (xQ G (fun v M2 => ∃ r, v = some (.int r) ∧ Q r ∧ M2 = M) 0 0) 4 [(0, .ref a), (1, .int (nI n1)), (2, .int v2), (3, .int (nI j))] [] M 0 0 := by
  intro k
  induction k with
  | zero =>
    intro j v2 hj hj2 hq
    rw [LX5_aheadOf_4] at hq
    refine xi_iload_n 3 dX5_aheadOf_4 rfl ?_
    refine xi_iload_n 1 dX5_aheadOf_5 rfl ?_
    refine xi_icmp_ge_t (tgt := 26) dX5_aheadOf_6 (by decide) (nI_le (a := n1) (b := j) (by omega) (by omega)) ?_
    refine xi_sub (lv' := [(2, .int v2)]) [2] rfl ?_
    exact HE v2 hq
  | succ k ih =>
    intro j v2 hj hj2 hq
    rw [LX5_aheadOf_4] at hq
    refine xi_iload_n 3 dX5_aheadOf_4 rfl ?_
    refine xi_iload_n 1 dX5_aheadOf_5 rfl ?_
    refine xi_icmp_ge_f (tgt := 26) dX5_aheadOf_6 (by decide) (nI_ge (a := j) (b := n1) (by omega) (by omega)) ?_
    refine xi_iload_n 2 dX5_aheadOf_9 rfl ?_
    refine xi_iconst (v := 1) dX5_aheadOf_10 (by decide) ?_
    refine xi_aload_n 0 dX5_aheadOf_11 rfl ?_
    refine xi_get (f := 3) dX5_aheadOf_12 ha.1 rfl ok_5 (by decide) w_78 rfl ?_
    refine xi_iload_n 3 dX5_aheadOf_15 rfl ?_
    have o1 := (oa j (by omega)).2
    refine xi_iaload (v := (nI ((Na.2.2.2.1 j).toNatClampNeg))) dX5_aheadOf_16 ha.2.2.1 (vp_in_nI (by omega) (by decide)) (by rw [nI_clamp (by omega)]; exact (oa j (by omega)).1) ?_
    refine xi_ishl (v := ((1 : Int32) <<< ((nI ((Na.2.2.2.1 j).toNatClampNeg)) &&& 31))) dX5_aheadOf_17 rfl ?_
    refine xi_ior (v := (v2 ||| ((1 : Int32) <<< ((nI ((Na.2.2.2.1 j).toNatClampNeg)) &&& 31)))) dX5_aheadOf_18 rfl ?_
    refine xi_istore_n (lv' := [(2, .int (v2 ||| ((1 : Int32) <<< ((nI ((Na.2.2.2.1 j).toNatClampNeg)) &&& 31)))), (0, .ref a), (1, .int (nI n1)), (3, .int (nI j))]) dX5_aheadOf_19 (by decide) rfl ?_
    refine xi_iinc (v := (nI (j + 1))) (lv' := [(3, .int (nI (j + 1))), (2, .int (v2 ||| ((1 : Int32) <<< ((nI ((Na.2.2.2.1 j).toNatClampNeg)) &&& 31)))), (0, .ref a), (1, .int (nI n1))]) 3 dX5_aheadOf_20 rfl (nI_1 _) (by decide) rfl ?_
    refine xi_goto (tgt := 4) dX5_aheadOf_23 (by decide) ?_
    refine xi_sub (lv' := [(0, .ref a), (1, .int (nI n1)), (2, .int (v2 ||| ((1 : Int32) <<< ((nI ((Na.2.2.2.1 j).toNatClampNeg)) &&& 31)))), (3, .int (nI (j + 1)))]) [2, 3, 1, 0] rfl ?_
    exact ih (j + 1) ((v2 ||| ((1 : Int32) <<< ((nI ((Na.2.2.2.1 j).toNatClampNeg)) &&& 31)))) (by omega) (by omega) hq
def FX5_aheadOf (Na : NV) (p : Nat) : Int32 := (LX5_aheadOf_4 Na p (fun u2 => u2) (p - 0) 0 ((0 : Int32)))
set_option maxHeartbeats 4000000 in
set_option maxRecDepth 100000 in
theorem FX5_aheadOf_ok (G : xG) {M : xMem} {a : Nat} {Na : NV} (ha : xnet M a Na) (ka : Na.1 ≤ 9) (oa : NO Na) (p : Nat) (bp : p < 10) (Q : Int32 → Prop) (hq : Q (FX5_aheadOf Na p)) : xC G mX5_aheadOf 0 0 0 [.ref a, .int (nI p)] M (fun v M2 => ∃ r, v = some (.int r) ∧ Q r ∧ M2 = M) := by
  unfold FX5_aheadOf at hq
  refine xC.of (by decide) (Nat.le_of_ble_eq_true rfl) ?_
  show xW _ _ _ _ 0 [(0, .ref a), (1, .int (nI p))] [] _ 0 0
  refine xi_iconst (v := 0) dX5_aheadOf_0 (by decide) ?_
  refine xi_istore_n (lv' := [(2, .int 0), (0, .ref a), (1, .int (nI p))]) dX5_aheadOf_1 (by decide) rfl ?_
  refine xi_iconst (v := 0) dX5_aheadOf_2 (by decide) ?_
  refine xi_istore_n (lv' := [(3, .int 0), (2, .int 0), (0, .ref a), (1, .int (nI p))]) dX5_aheadOf_3 (by decide) rfl ?_
  refine xi_sub (lv' := [(0, .ref a), (1, .int (nI p)), (2, .int 0), (3, .int 0)]) [2, 3, 1, 0] rfl ?_
  refine LX5_aheadOf_4_s G ha ka oa p (by omega) Q _ (fun u2 hq => ?_) (p - 0) 0 ((0 : Int32)) rfl (by omega) hq
  refine xi_iload_n 0 dX5_aheadOf_26 rfl ?_
  exact xi_iret dX5_aheadOf_27 rfl rfl (Nat.le_of_ble_eq_true rfl) (Nat.le_of_ble_eq_true rfl) ⟨_, rfl, hq, rfl⟩
def LX5_placesUnlike_4 (Na : NV) (Nb : NV) (K : Int32 → Int32) : Nat → Nat → Int32 → Int32
  | 0, _, v2 => K v2
  | k + 1, j, v2 => (if (nI ((Na.2.2.2.1 j).toNatClampNeg)) = (nI ((Nb.2.2.2.1 j).toNatClampNeg)) then (LX5_placesUnlike_4 Na Nb K k (j + 1) v2) else (LX5_placesUnlike_4 Na Nb K k (j + 1) ((v2 + Int32.ofInt 1))))
set_option maxHeartbeats 4000000 in
set_option maxRecDepth 100000 in
theorem LX5_placesUnlike_4_s (G : xG) {M : xMem} {a : Nat} {Na : NV} (ha : xnet M a Na) (ka : Na.1 ≤ 9) (oa : NO Na) {b : Nat} {Nb : NV} (hb : xnet M b Nb) (kb : Nb.1 ≤ 9) (ob : NO Nb) (Q : Int32 → Prop) (K : Int32 → Int32) (HE : ∀ (v2 : Int32), Q (K v2) → xW G mX5_placesUnlike (xrm 0 0 0) (xQ G (fun v M2 => ∃ r, v = some (.int r) ∧ Q r ∧ M2 = M) 0 0) 36 [(2, .int v2)] [] M 0 0) :
    ∀ (k j : Nat) (v2 : Int32), Na.1 - j = k → j < 100000 → Q (LX5_placesUnlike_4 Na Nb K k j v2) → xW G mX5_placesUnlike (xrm 0 0 0) (xQ G (fun v M2 => ∃ r, v = some (.int r) ∧ Q r ∧ M2 = M) 0 0) 4 [(0, .ref a), (1, .ref b), (2, .int v2), (3, .int (nI j))] [] M 0 0 := by
  intro k
  induction k with
  | zero =>
    intro j v2 hj hj2 hq
    rw [LX5_placesUnlike_4] at hq
    refine xi_iload_n 3 dX5_placesUnlike_4 rfl ?_
    refine xi_aload_n 0 dX5_placesUnlike_5 rfl ?_
    refine xi_get (f := 0) dX5_placesUnlike_6 ha.1 rfl ok_5 (by decide) w_61 rfl ?_
    refine xi_icmp_ge_t (tgt := 36) dX5_placesUnlike_9 (by decide) (nI_le (a := Na.1) (b := j) (by omega) (by omega)) ?_
    refine xi_sub (lv' := [(2, .int v2)]) [2] rfl ?_
    exact HE v2 hq
  | succ k ih =>
    intro j v2 hj hj2 hq
    rw [LX5_placesUnlike_4] at hq
    refine xi_iload_n 3 dX5_placesUnlike_4 rfl ?_
    refine xi_aload_n 0 dX5_placesUnlike_5 rfl ?_
    refine xi_get (f := 0) dX5_placesUnlike_6 ha.1 rfl ok_5 (by decide) w_61 rfl ?_
    refine xi_icmp_ge_f (tgt := 36) dX5_placesUnlike_9 (by decide) (nI_ge (a := j) (b := Na.1) (by omega) (by omega)) ?_
    refine xi_aload_n 0 dX5_placesUnlike_12 rfl ?_
    refine xi_get (f := 3) dX5_placesUnlike_13 ha.1 rfl ok_5 (by decide) w_78 rfl ?_
    refine xi_iload_n 3 dX5_placesUnlike_16 rfl ?_
    have o1 := (oa j (by omega)).2
    refine xi_iaload (v := (nI ((Na.2.2.2.1 j).toNatClampNeg))) dX5_placesUnlike_17 ha.2.2.1 (vp_in_nI (by omega) (by decide)) (by rw [nI_clamp (by omega)]; exact (oa j (by omega)).1) ?_
    refine xi_aload_n 1 dX5_placesUnlike_18 rfl ?_
    refine xi_get (f := 3) dX5_placesUnlike_19 hb.1 rfl ok_5 (by decide) w_78 rfl ?_
    refine xi_iload_n 3 dX5_placesUnlike_22 rfl ?_
    have o2 := (ob j (by omega)).2
    refine xi_iaload (v := (nI ((Nb.2.2.2.1 j).toNatClampNeg))) dX5_placesUnlike_23 hb.2.2.1 (vp_in_nI (by omega) (by decide)) (by rw [nI_clamp (by omega)]; exact (ob j (by omega)).1) ?_
    refine xi_icmp_eq (tgt := 30) dX5_placesUnlike_24 (by decide) (fun c3 => ?_) (fun c3 => ?_)
    · rw [if_pos c3] at hq
      have c3n : ((Na.2.2.2.1 j).toNatClampNeg) = ((Nb.2.2.2.1 j).toNatClampNeg) := (nI_eq (a := ((Na.2.2.2.1 j).toNatClampNeg)) (b := ((Nb.2.2.2.1 j).toNatClampNeg)) (by omega) (by omega)).mp c3
      refine xi_iinc (v := (nI (j + 1))) (lv' := [(3, .int (nI (j + 1))), (0, .ref a), (1, .ref b), (2, .int v2)]) 3 dX5_placesUnlike_30 rfl (nI_1 _) (by decide) rfl ?_
      refine xi_goto (tgt := 4) dX5_placesUnlike_33 (by decide) ?_
      refine xi_sub (lv' := [(0, .ref a), (1, .ref b), (2, .int v2), (3, .int (nI (j + 1)))]) [1, 2, 3, 0] rfl ?_
      exact ih (j + 1) v2 (by omega) (by omega) hq
    · rw [if_neg c3] at hq
      have c3n : ¬ ((Na.2.2.2.1 j).toNatClampNeg) = ((Nb.2.2.2.1 j).toNatClampNeg) := fun e => c3 (congrArg nI e)
      refine xi_iinc (v := (v2 + Int32.ofInt 1)) (lv' := [(2, .int (v2 + Int32.ofInt 1)), (0, .ref a), (1, .ref b), (3, .int (nI j))]) 2 dX5_placesUnlike_27 rfl rfl (by decide) rfl ?_
      refine xi_iinc (v := (nI (j + 1))) (lv' := [(3, .int (nI (j + 1))), (2, .int (v2 + Int32.ofInt 1)), (0, .ref a), (1, .ref b)]) 3 dX5_placesUnlike_30 rfl (nI_1 _) (by decide) rfl ?_
      refine xi_goto (tgt := 4) dX5_placesUnlike_33 (by decide) ?_
      refine xi_sub (lv' := [(0, .ref a), (1, .ref b), (2, .int (v2 + Int32.ofInt 1)), (3, .int (nI (j + 1)))]) [2, 3, 1, 0] rfl ?_
      exact ih (j + 1) ((v2 + Int32.ofInt 1)) (by omega) (by omega) hq
def FX5_placesUnlike (Na : NV) (Nb : NV) : Int32 := (LX5_placesUnlike_4 Na Nb (fun u4 => u4) (Na.1 - 0) 0 ((0 : Int32)))
set_option maxHeartbeats 4000000 in
set_option maxRecDepth 100000 in
theorem FX5_placesUnlike_ok (G : xG) {M : xMem} {a : Nat} {Na : NV} (ha : xnet M a Na) (ka : Na.1 ≤ 9) (oa : NO Na) {b : Nat} {Nb : NV} (hb : xnet M b Nb) (kb : Nb.1 ≤ 9) (ob : NO Nb) (Q : Int32 → Prop) (hq : Q (FX5_placesUnlike Na Nb)) : xC G mX5_placesUnlike 0 0 0 [.ref a, .ref b] M (fun v M2 => ∃ r, v = some (.int r) ∧ Q r ∧ M2 = M) := by
  unfold FX5_placesUnlike at hq
  refine xC.of (by decide) (Nat.le_of_ble_eq_true rfl) ?_
  show xW _ _ _ _ 0 [(0, .ref a), (1, .ref b)] [] _ 0 0
  refine xi_iconst (v := 0) dX5_placesUnlike_0 (by decide) ?_
  refine xi_istore_n (lv' := [(2, .int 0), (0, .ref a), (1, .ref b)]) dX5_placesUnlike_1 (by decide) rfl ?_
  refine xi_iconst (v := 0) dX5_placesUnlike_2 (by decide) ?_
  refine xi_istore_n (lv' := [(3, .int 0), (2, .int 0), (0, .ref a), (1, .ref b)]) dX5_placesUnlike_3 (by decide) rfl ?_
  refine xi_sub (lv' := [(0, .ref a), (1, .ref b), (2, .int 0), (3, .int 0)]) [2, 3, 1, 0] rfl ?_
  refine LX5_placesUnlike_4_s G ha ka oa hb kb ob Q _ (fun u4 hq => ?_) (Na.1 - 0) 0 ((0 : Int32)) rfl (by omega) hq
  refine xi_iload_n 0 dX5_placesUnlike_36 rfl ?_
  exact xi_iret dX5_placesUnlike_37 rfl rfl (Nat.le_of_ble_eq_true rfl) (Nat.le_of_ble_eq_true rfl) ⟨_, rfl, hq, rfl⟩
def LX5_sameLines_36 (Na : NV) (Nb : NV) (n2 : Nat) (K : Int32) : Nat → Nat → Int32
  | 0, _ => K
  | k + 1, j => (if (FX5_weightOf Na n2 j) = (FX5_weightOf Nb n2 j) then (LX5_sameLines_36 Na Nb n2 K k (j + 1)) else (0 : Int32))
def LX5_sameLines_26 (Na : NV) (Nb : NV) (K : Int32) : Nat → Nat → Int32
  | 0, _ => K
  | k + 1, j => (LX5_sameLines_36 Na Nb j ((LX5_sameLines_26 Na Nb K k (j + 1))) (j - 0) 0)
set_option maxHeartbeats 4000000 in
set_option maxRecDepth 100000 in
theorem LX5_sameLines_36_s (G : xG) {M : xMem} {a : Nat} {Na : NV} (ha : xnet M a Na) (ka : Na.1 ≤ 9) {b : Nat} {Nb : NV} (hb : xnet M b Nb) (kb : Nb.1 ≤ 9) (n2 : Nat) (bn2 : n2 < 9) (Q : Int32 → Prop) (K : Int32) (HE : Q (K) → xW G mX5_sameLines (xrm 1 0 0) (xQ G (fun v M2 => ∃ r, v = some (.int r) ∧ Q r ∧ M2 = M) 0 0) 64 [(0, .ref a), (1, .ref b), (2, .int (nI n2))] [] M 0 0) :
    ∀ (k j : Nat), n2 - j = k → j < 100000 → Q (LX5_sameLines_36 Na Nb n2 K k j) → xW G mX5_sameLines (xrm 1 0 0) (xQ G (fun v M2 => ∃ r, v = some (.int r) ∧ Q r ∧ M2 = M) 0 0) 36 [(0, .ref a), (1, .ref b), (2, .int (nI n2)), (3, .int (nI j))] [] M 0 0 := by
  intro k
  induction k with
  | zero =>
    intro j hj hj2 hq
    rw [LX5_sameLines_36] at hq
    refine xi_iload_n 3 dX5_sameLines_36 rfl ?_
    refine xi_iload_n 2 dX5_sameLines_37 rfl ?_
    refine xi_icmp_ge_t (tgt := 64) dX5_sameLines_38 (by decide) (nI_le (a := n2) (b := j) (by omega) (by omega)) ?_
    refine xi_sub (lv' := [(0, .ref a), (1, .ref b), (2, .int (nI n2))]) [0, 1, 2] rfl ?_
    exact HE hq
  | succ k ih =>
    intro j hj hj2 hq
    rw [LX5_sameLines_36] at hq
    refine xi_iload_n 3 dX5_sameLines_36 rfl ?_
    refine xi_iload_n 2 dX5_sameLines_37 rfl ?_
    refine xi_icmp_ge_f (tgt := 64) dX5_sameLines_38 (by decide) (nI_ge (a := j) (b := n2) (by omega) (by omega)) ?_
    refine xi_aload_n 0 dX5_sameLines_41 rfl ?_
    refine xi_iload_n 2 dX5_sameLines_42 rfl ?_
    refine xi_iload_n 3 dX5_sameLines_43 rfl ?_
    refine xi_callV (as := [.int (nI n2), .int (nI j)]) (rest := []) dX5_sameLines_44 (FX5_weightOf_ok G ha ka n2 (by omega) j (by omega) (fun r => r = FX5_weightOf Na n2 j) rfl) mkX5_weightOf w_415 w_416 w_426 ha.1 rfl rfl rfl rfl (Nat.le_of_ble_eq_true rfl) (Nat.le_of_ble_eq_true rfl) (Nat.le_of_ble_eq_true rfl) (Nat.le_of_ble_eq_true rfl) (Nat.le_of_ble_eq_true rfl) ?_
    intro v M2 hz
    obtain ⟨_, rfl, rfl, hM2⟩ := hz
    rw [hM2]
    show xW _ _ _ _ 47 _ [.int (FX5_weightOf Na n2 j)] M _ _
    refine xi_aload_n 1 dX5_sameLines_47 rfl ?_
    refine xi_iload_n 2 dX5_sameLines_48 rfl ?_
    refine xi_iload_n 3 dX5_sameLines_49 rfl ?_
    refine xi_callV (as := [.int (nI n2), .int (nI j)]) (rest := [.int (FX5_weightOf Na n2 j)]) dX5_sameLines_50 (FX5_weightOf_ok G hb kb n2 (by omega) j (by omega) (fun r => r = FX5_weightOf Nb n2 j) rfl) mkX5_weightOf w_415 w_416 w_426 hb.1 rfl rfl rfl rfl (Nat.le_of_ble_eq_true rfl) (Nat.le_of_ble_eq_true rfl) (Nat.le_of_ble_eq_true rfl) (Nat.le_of_ble_eq_true rfl) (Nat.le_of_ble_eq_true rfl) ?_
    intro v M2 hz
    obtain ⟨_, rfl, rfl, hM2⟩ := hz
    rw [hM2]
    show xW _ _ _ _ 53 _ [.int (FX5_weightOf Nb n2 j), .int (FX5_weightOf Na n2 j)] M _ _
    refine xi_icmp_eq (tgt := 58) dX5_sameLines_53 (by decide) (fun c3 => ?_) (fun c3 => ?_)
    · rw [if_pos c3] at hq
      refine xi_iinc (v := (nI (j + 1))) (lv' := [(3, .int (nI (j + 1))), (0, .ref a), (1, .ref b), (2, .int (nI n2))]) 3 dX5_sameLines_58 rfl (nI_1 _) (by decide) rfl ?_
      refine xi_goto (tgt := 36) dX5_sameLines_61 (by decide) ?_
      refine xi_sub (lv' := [(0, .ref a), (1, .ref b), (2, .int (nI n2)), (3, .int (nI (j + 1)))]) [1, 2, 3, 0] rfl ?_
      exact ih (j + 1) (by omega) (by omega) hq
    · rw [if_neg c3] at hq
      refine xi_iconst (v := 0) dX5_sameLines_56 (by decide) ?_
      exact xi_iret dX5_sameLines_57 rfl (by decide) (Nat.le_of_ble_eq_true rfl) (Nat.le_of_ble_eq_true rfl) ⟨_, rfl, hq, rfl⟩
set_option maxHeartbeats 4000000 in
set_option maxRecDepth 100000 in
theorem LX5_sameLines_26_s (G : xG) {M : xMem} {a : Nat} {Na : NV} (ha : xnet M a Na) (ka : Na.1 ≤ 9) {b : Nat} {Nb : NV} (hb : xnet M b Nb) (kb : Nb.1 ≤ 9) (Q : Int32 → Prop) (K : Int32) (HE : Q (K) → xW G mX5_sameLines (xrm 1 0 0) (xQ G (fun v M2 => ∃ r, v = some (.int r) ∧ Q r ∧ M2 = M) 0 0) 70 [] [] M 0 0) :
    ∀ (k j : Nat), Na.1 - j = k → j < 100000 → Q (LX5_sameLines_26 Na Nb K k j) → xW G mX5_sameLines (xrm 1 0 0) (xQ G (fun v M2 => ∃ r, v = some (.int r) ∧ Q r ∧ M2 = M) 0 0) 26 [(0, .ref a), (1, .ref b), (2, .int (nI j))] [] M 0 0 := by
  intro k
  induction k with
  | zero =>
    intro j hj hj2 hq
    rw [LX5_sameLines_26] at hq
    refine xi_iload_n 2 dX5_sameLines_26 rfl ?_
    refine xi_aload_n 0 dX5_sameLines_27 rfl ?_
    refine xi_get (f := 0) dX5_sameLines_28 ha.1 rfl ok_5 (by decide) w_61 rfl ?_
    refine xi_icmp_ge_t (tgt := 70) dX5_sameLines_31 (by decide) (nI_le (a := Na.1) (b := j) (by omega) (by omega)) ?_
    refine xi_sub (lv' := []) [] rfl ?_
    exact HE hq
  | succ k ih =>
    intro j hj hj2 hq
    rw [LX5_sameLines_26] at hq
    refine xi_iload_n 2 dX5_sameLines_26 rfl ?_
    refine xi_aload_n 0 dX5_sameLines_27 rfl ?_
    refine xi_get (f := 0) dX5_sameLines_28 ha.1 rfl ok_5 (by decide) w_61 rfl ?_
    refine xi_icmp_ge_f (tgt := 70) dX5_sameLines_31 (by decide) (nI_ge (a := j) (b := Na.1) (by omega) (by omega)) ?_
    refine xi_iconst (v := 0) dX5_sameLines_34 (by decide) ?_
    refine xi_istore_n (lv' := [(3, .int 0), (0, .ref a), (1, .ref b), (2, .int (nI j))]) dX5_sameLines_35 (by decide) rfl ?_
    refine xi_sub (lv' := [(0, .ref a), (1, .ref b), (2, .int (nI j)), (3, .int 0)]) [1, 2, 3, 0] rfl ?_
    refine LX5_sameLines_36_s G ha ka hb kb j (by omega) Q _ (fun hq => ?_) (j - 0) 0 rfl (by omega) hq
    refine xi_iinc (v := (nI (j + 1))) (lv' := [(2, .int (nI (j + 1))), (0, .ref a), (1, .ref b)]) 2 dX5_sameLines_64 rfl (nI_1 _) (by decide) rfl ?_
    refine xi_goto (tgt := 26) dX5_sameLines_67 (by decide) ?_
    refine xi_sub (lv' := [(0, .ref a), (1, .ref b), (2, .int (nI (j + 1)))]) [1, 2, 0] rfl ?_
    exact ih (j + 1) (by omega) (by omega) hq
def FX5_sameLines (Na : NV) (Nb : NV) : Int32 := (if (nI Na.1) = (nI Nb.1) then (if Na.2.1 = Nb.2.1 then (LX5_sameLines_26 Na Nb ((1 : Int32)) (Na.1 - 0) 0) else (0 : Int32)) else (0 : Int32))
set_option maxHeartbeats 4000000 in
set_option maxRecDepth 100000 in
theorem FX5_sameLines_ok (G : xG) {M : xMem} {a : Nat} {Na : NV} (ha : xnet M a Na) (ka : Na.1 ≤ 9) {b : Nat} {Nb : NV} (hb : xnet M b Nb) (kb : Nb.1 ≤ 9) (Q : Int32 → Prop) (hq : Q (FX5_sameLines Na Nb)) : xC G mX5_sameLines 1 0 0 [.ref a, .ref b] M (fun v M2 => ∃ r, v = some (.int r) ∧ Q r ∧ M2 = M) := by
  unfold FX5_sameLines at hq
  refine xC.of (by decide) (Nat.le_of_ble_eq_true rfl) ?_
  show xW _ _ _ _ 0 [(0, .ref a), (1, .ref b)] [] _ 0 0
  refine xi_aload_n 0 dX5_sameLines_0 rfl ?_
  refine xi_get (f := 0) dX5_sameLines_1 ha.1 rfl ok_5 (by decide) w_61 rfl ?_
  refine xi_aload_n 1 dX5_sameLines_4 rfl ?_
  refine xi_get (f := 0) dX5_sameLines_5 hb.1 rfl ok_5 (by decide) w_61 rfl ?_
  refine xi_icmp_ne (tgt := 22) dX5_sameLines_8 (by decide) (fun c1 => ?_) (fun c1 => ?_)
  · rw [if_neg c1] at hq
    have c1n : ¬ Na.1 = Nb.1 := fun e => c1 (congrArg nI e)
    refine xi_iconst (v := 0) dX5_sameLines_22 (by decide) ?_
    exact xi_iret dX5_sameLines_23 rfl (by decide) (Nat.le_of_ble_eq_true rfl) (Nat.le_of_ble_eq_true rfl) ⟨_, rfl, hq, rfl⟩
  · rw [if_pos c1] at hq
    have c1n : Na.1 = Nb.1 := (nI_eq (a := Na.1) (b := Nb.1) (by omega) (by omega)).mp c1
    refine xi_aload_n 0 dX5_sameLines_11 rfl ?_
    refine xi_get (f := 1) dX5_sameLines_12 ha.1 rfl ok_5 (by decide) w_69 rfl ?_
    refine xi_aload_n 1 dX5_sameLines_15 rfl ?_
    refine xi_get (f := 1) dX5_sameLines_16 hb.1 rfl ok_5 (by decide) w_69 rfl ?_
    refine xi_icmp_eq (tgt := 24) dX5_sameLines_19 (by decide) (fun c2 => ?_) (fun c2 => ?_)
    · rw [if_pos c2] at hq
      refine xi_iconst (v := 0) dX5_sameLines_24 (by decide) ?_
      refine xi_istore_n (lv' := [(2, .int 0), (0, .ref a), (1, .ref b)]) dX5_sameLines_25 (by decide) rfl ?_
      refine xi_sub (lv' := [(0, .ref a), (1, .ref b), (2, .int 0)]) [1, 2, 0] rfl ?_
      refine LX5_sameLines_26_s G ha ka hb kb Q _ (fun hq => ?_) (Na.1 - 0) 0 rfl (by omega) hq
      refine xi_iconst (v := 1) dX5_sameLines_70 (by decide) ?_
      exact xi_iret dX5_sameLines_71 rfl (by decide) (Nat.le_of_ble_eq_true rfl) (Nat.le_of_ble_eq_true rfl) ⟨_, rfl, hq, rfl⟩
    · rw [if_neg c2] at hq
      refine xi_iconst (v := 0) dX5_sameLines_22 (by decide) ?_
      exact xi_iret dX5_sameLines_23 rfl (by decide) (Nat.le_of_ble_eq_true rfl) (Nat.le_of_ble_eq_true rfl) ⟨_, rfl, hq, rfl⟩
def FX5_sameAs (Na : NV) (Nb : NV) : Int32 := (if (FX5_sameLines Na Nb) = (0 : Int32) then (0 : Int32) else (if (FX5_placesUnlike Na Nb) = (0 : Int32) then (1 : Int32) else (0 : Int32)))
set_option maxHeartbeats 4000000 in
set_option maxRecDepth 100000 in
theorem FX5_sameAs_ok (G : xG) {M : xMem} {a : Nat} {Na : NV} (ha : xnet M a Na) (ka : Na.1 ≤ 9) (oa : NO Na) {b : Nat} {Nb : NV} (hb : xnet M b Nb) (kb : Nb.1 ≤ 9) (ob : NO Nb) (Q : Int32 → Prop) (hq : Q (FX5_sameAs Na Nb)) : xC G mX5_sameAs 2 0 0 [.ref a, .ref b] M (fun v M2 => ∃ r, v = some (.int r) ∧ Q r ∧ M2 = M) := by
  unfold FX5_sameAs at hq
  refine xC.of (by decide) (Nat.le_of_ble_eq_true rfl) ?_
  show xW _ _ _ _ 0 [(0, .ref a), (1, .ref b)] [] _ 0 0
  refine xi_aload_n 0 dX5_sameAs_0 rfl ?_
  refine xi_aload_n 1 dX5_sameAs_1 rfl ?_
  refine xi_callV (as := [.ref b]) (rest := []) dX5_sameAs_2 (FX5_sameLines_ok G ha ka hb kb (fun r => r = FX5_sameLines Na Nb) rfl) mkX5_sameLines w_460 w_461 w_459 ha.1 rfl rfl rfl rfl (Nat.le_of_ble_eq_true rfl) (Nat.le_of_ble_eq_true rfl) (Nat.le_of_ble_eq_true rfl) (Nat.le_of_ble_eq_true rfl) (Nat.le_of_ble_eq_true rfl) ?_
  intro v M2 hz
  obtain ⟨_, rfl, rfl, hM2⟩ := hz
  rw [hM2]
  show xW _ _ _ _ 5 _ [.int (FX5_sameLines Na Nb)] M _ _
  refine xi_if_eq (tgt := 20) dX5_sameAs_5 (by decide) (fun c1 => ?_) (fun c1 => ?_)
  · rw [if_pos c1] at hq
    refine xi_iconst (v := 0) dX5_sameAs_20 (by decide) ?_
    exact xi_iret dX5_sameAs_21 rfl (by decide) (Nat.le_of_ble_eq_true rfl) (Nat.le_of_ble_eq_true rfl) ⟨_, rfl, hq, rfl⟩
  · rw [if_neg c1] at hq
    refine xi_aload_n 0 dX5_sameAs_8 rfl ?_
    refine xi_aload_n 1 dX5_sameAs_9 rfl ?_
    refine xi_callV (as := [.ref b]) (rest := []) dX5_sameAs_10 (FX5_placesUnlike_ok G ha ka oa hb kb ob (fun r => r = FX5_placesUnlike Na Nb) rfl) mkX5_placesUnlike w_464 w_465 w_463 ha.1 rfl rfl rfl rfl (Nat.le_of_ble_eq_true rfl) (Nat.le_of_ble_eq_true rfl) (Nat.le_of_ble_eq_true rfl) (Nat.le_of_ble_eq_true rfl) (Nat.le_of_ble_eq_true rfl) ?_
    intro v M2 hz
    obtain ⟨_, rfl, rfl, hM2⟩ := hz
    rw [hM2]
    show xW _ _ _ _ 13 _ [.int (FX5_placesUnlike Na Nb)] M _ _
    refine xi_if_ne (tgt := 20) dX5_sameAs_13 (by decide) (fun c2 => ?_) (fun c2 => ?_)
    · rw [if_neg c2] at hq
      refine xi_iconst (v := 0) dX5_sameAs_20 (by decide) ?_
      exact xi_iret dX5_sameAs_21 rfl (by decide) (Nat.le_of_ble_eq_true rfl) (Nat.le_of_ble_eq_true rfl) ⟨_, rfl, hq, rfl⟩
    · rw [if_pos c2] at hq
      refine xi_iconst (v := 1) dX5_sameAs_16 (by decide) ?_
      refine xi_goto (tgt := 21) dX5_sameAs_17 (by decide) ?_
      exact xi_iret dX5_sameAs_21 rfl (by decide) (Nat.le_of_ble_eq_true rfl) (Nat.le_of_ble_eq_true rfl) ⟨_, rfl, hq, rfl⟩
theorem FX5_sameAs_b (Na : NV) (Nb : NV) : FX5_sameAs Na Nb = 0 ∨ FX5_sameAs Na Nb = 1 := by
  unfold FX5_sameAs
  (repeat' split) <;> first | exact Or.inl rfl | exact Or.inr rfl
def FX6_isTakenOut (m : Int32) : Int32 := (if m = (5 : Int32) then (1 : Int32) else (if m = (6 : Int32) then (1 : Int32) else (0 : Int32)))
set_option maxHeartbeats 4000000 in
set_option maxRecDepth 100000 in
theorem FX6_isTakenOut_ok (G : xG) {M : xMem} (m : Int32) (Q : Int32 → Prop) (hq : Q (FX6_isTakenOut m)) : xC G mX6_isTakenOut 0 0 0 [.int m] M (fun v M2 => ∃ r, v = some (.int r) ∧ Q r ∧ M2 = M) := by
  unfold FX6_isTakenOut at hq
  refine xC.of (by decide) (Nat.le_of_ble_eq_true rfl) ?_
  show xW _ _ _ _ 0 [(0, .int m)] [] _ 0 0
  refine xi_iload_n 0 dX6_isTakenOut_0 rfl ?_
  refine xi_iconst (v := 5) dX6_isTakenOut_1 (by decide) ?_
  refine xi_icmp_eq (tgt := 11) dX6_isTakenOut_2 (by decide) (fun c1 => ?_) (fun c1 => ?_)
  · rw [if_pos c1] at hq
    refine xi_iconst (v := 1) dX6_isTakenOut_11 (by decide) ?_
    refine xi_goto (tgt := 16) dX6_isTakenOut_12 (by decide) ?_
    exact xi_iret dX6_isTakenOut_16 rfl (by decide) (Nat.le_of_ble_eq_true rfl) (Nat.le_of_ble_eq_true rfl) ⟨_, rfl, hq, rfl⟩
  · rw [if_neg c1] at hq
    refine xi_iload_n 0 dX6_isTakenOut_5 rfl ?_
    refine xi_bipush (v := 6) dX6_isTakenOut_6 (by decide) ?_
    refine xi_icmp_ne (tgt := 15) dX6_isTakenOut_8 (by decide) (fun c2 => ?_) (fun c2 => ?_)
    · rw [if_neg c2] at hq
      refine xi_iconst (v := 0) dX6_isTakenOut_15 (by decide) ?_
      exact xi_iret dX6_isTakenOut_16 rfl (by decide) (Nat.le_of_ble_eq_true rfl) (Nat.le_of_ble_eq_true rfl) ⟨_, rfl, hq, rfl⟩
    · rw [if_pos c2] at hq
      refine xi_iconst (v := 1) dX6_isTakenOut_11 (by decide) ?_
      refine xi_goto (tgt := 16) dX6_isTakenOut_12 (by decide) ?_
      exact xi_iret dX6_isTakenOut_16 rfl (by decide) (Nat.le_of_ble_eq_true rfl) (Nat.le_of_ble_eq_true rfl) ⟨_, rfl, hq, rfl⟩
theorem FX6_isTakenOut_b (m : Int32) : FX6_isTakenOut m = 0 ∨ FX6_isTakenOut m = 1 := by
  unfold FX6_isTakenOut
  (repeat' split) <;> first | exact Or.inl rfl | exact Or.inr rfl
def FX6_firstStep (m : Int32) : Int32 := (if (FX6_isTakenOut m) = (0 : Int32) then (1 : Int32) else (0 : Int32))
set_option maxHeartbeats 4000000 in
set_option maxRecDepth 100000 in
theorem FX6_firstStep_ok (G : xG) {M : xMem} (m : Int32) (Q : Int32 → Prop) (hq : Q (FX6_firstStep m)) : xC G mX6_firstStep 1 0 0 [.int m] M (fun v M2 => ∃ r, v = some (.int r) ∧ Q r ∧ M2 = M) := by
  unfold FX6_firstStep at hq
  refine xC.of (by decide) (Nat.le_of_ble_eq_true rfl) ?_
  show xW _ _ _ _ 0 [(0, .int m)] [] _ 0 0
  refine xi_iload_n 0 dX6_firstStep_0 rfl ?_
  refine xi_callS (as := [.int m]) (rest := []) dX6_firstStep_1 (FX6_isTakenOut_ok G m (fun r => r = FX6_isTakenOut m) rfl) mkX6_isTakenOut w_583 w_582 rfl rfl (Nat.le_of_ble_eq_true rfl) (Nat.le_of_ble_eq_true rfl) (Nat.le_of_ble_eq_true rfl) (Nat.le_of_ble_eq_true rfl) (Nat.le_of_ble_eq_true rfl) ?_
  intro v M2 hz
  obtain ⟨_, rfl, rfl, hM2⟩ := hz
  rw [hM2]
  show xW _ _ _ _ 4 _ [.int (FX6_isTakenOut m)] M _ _
  refine xi_if_eq (tgt := 11) dX6_firstStep_4 (by decide) (fun c1 => ?_) (fun c1 => ?_)
  · rw [if_pos c1] at hq
    refine xi_iconst (v := 1) dX6_firstStep_11 (by decide) ?_
    exact xi_iret dX6_firstStep_12 rfl rfl (Nat.le_of_ble_eq_true rfl) (Nat.le_of_ble_eq_true rfl) ⟨_, rfl, hq, rfl⟩
  · rw [if_neg c1] at hq
    refine xi_iconst (v := 0) dX6_firstStep_7 (by decide) ?_
    refine xi_goto (tgt := 12) dX6_firstStep_8 (by decide) ?_
    exact xi_iret dX6_firstStep_12 rfl rfl (Nat.le_of_ble_eq_true rfl) (Nat.le_of_ble_eq_true rfl) ⟨_, rfl, hq, rfl⟩
def FX6_joined (m : Int32) (x : Int32) (y : Int32) : Int32 := (if m = (3 : Int32) then (x + y) else (if m = (4 : Int32) then (x + y) else (if m = (6 : Int32) then (x + y) else (if x < y then y else x))))
set_option maxHeartbeats 4000000 in
set_option maxRecDepth 100000 in
theorem FX6_joined_ok (G : xG) {M : xMem} (m : Int32) (x : Int32) (y : Int32) (Q : Int32 → Prop) (hq : Q (FX6_joined m x y)) : xC G mX6_joined 0 0 0 [.int m, .int x, .int y] M (fun v M2 => ∃ r, v = some (.int r) ∧ Q r ∧ M2 = M) := by
  unfold FX6_joined at hq
  refine xC.of (by decide) (Nat.le_of_ble_eq_true rfl) ?_
  show xW _ _ _ _ 0 [(0, .int m), (1, .int x), (2, .int y)] [] _ 0 0
  refine xi_iload_n 0 dX6_joined_0 rfl ?_
  refine xi_iconst (v := 3) dX6_joined_1 (by decide) ?_
  refine xi_icmp_eq (tgt := 16) dX6_joined_2 (by decide) (fun c1 => ?_) (fun c1 => ?_)
  · rw [if_pos c1] at hq
    refine xi_iconst (v := 1) dX6_joined_16 (by decide) ?_
    refine xi_goto (tgt := 21) dX6_joined_17 (by decide) ?_
    refine xi_istore_n (lv' := [(3, .int 1), (0, .int m), (1, .int x), (2, .int y)]) dX6_joined_21 (by decide) rfl ?_
    refine xi_iload_n 0 dX6_joined_22 rfl ?_
    refine xi_if_eq_f (tgt := 32) dX6_joined_23 (by decide) (by decide) ?_
    refine xi_iload_n 2 dX6_joined_26 rfl ?_
    refine xi_iload_n 3 dX6_joined_27 rfl ?_
    refine xi_iadd (v := (x + y)) dX6_joined_28 rfl ?_
    refine xi_goto (tgt := 37) dX6_joined_29 (by decide) ?_
    exact xi_iret dX6_joined_37 rfl rfl (Nat.le_of_ble_eq_true rfl) (Nat.le_of_ble_eq_true rfl) ⟨_, rfl, hq, rfl⟩
  · rw [if_neg c1] at hq
    refine xi_iload_n 0 dX6_joined_5 rfl ?_
    refine xi_iconst (v := 4) dX6_joined_6 (by decide) ?_
    refine xi_icmp_eq (tgt := 16) dX6_joined_7 (by decide) (fun c2 => ?_) (fun c2 => ?_)
    · rw [if_pos c2] at hq
      refine xi_iconst (v := 1) dX6_joined_16 (by decide) ?_
      refine xi_goto (tgt := 21) dX6_joined_17 (by decide) ?_
      refine xi_istore_n (lv' := [(3, .int 1), (0, .int m), (1, .int x), (2, .int y)]) dX6_joined_21 (by decide) rfl ?_
      refine xi_iload_n 0 dX6_joined_22 rfl ?_
      refine xi_if_eq_f (tgt := 32) dX6_joined_23 (by decide) (by decide) ?_
      refine xi_iload_n 2 dX6_joined_26 rfl ?_
      refine xi_iload_n 3 dX6_joined_27 rfl ?_
      refine xi_iadd (v := (x + y)) dX6_joined_28 rfl ?_
      refine xi_goto (tgt := 37) dX6_joined_29 (by decide) ?_
      exact xi_iret dX6_joined_37 rfl rfl (Nat.le_of_ble_eq_true rfl) (Nat.le_of_ble_eq_true rfl) ⟨_, rfl, hq, rfl⟩
    · rw [if_neg c2] at hq
      refine xi_iload_n 0 dX6_joined_10 rfl ?_
      refine xi_bipush (v := 6) dX6_joined_11 (by decide) ?_
      refine xi_icmp_ne (tgt := 20) dX6_joined_13 (by decide) (fun c3 => ?_) (fun c3 => ?_)
      · rw [if_neg c3] at hq
        refine xi_iconst (v := 0) dX6_joined_20 (by decide) ?_
        refine xi_istore_n (lv' := [(3, .int 0), (0, .int m), (1, .int x), (2, .int y)]) dX6_joined_21 (by decide) rfl ?_
        refine xi_iload_n 0 dX6_joined_22 rfl ?_
        refine xi_if_eq_t (tgt := 32) dX6_joined_23 (by decide) (by decide) ?_
        refine xi_iload_n 2 dX6_joined_32 rfl ?_
        refine xi_iload_n 3 dX6_joined_33 rfl ?_
        refine xi_max (v := (if x < y then y else x)) dX6_joined_34 w_614 w_37 w_3 w_mmax (Nat.le_of_ble_eq_true rfl) (Nat.le_of_ble_eq_true rfl) (Nat.le_of_ble_eq_true rfl) (Nat.le_of_ble_eq_true rfl) (Nat.le_of_ble_eq_true rfl) rfl ?_
        exact xi_iret dX6_joined_37 rfl rfl (Nat.le_of_ble_eq_true rfl) (Nat.le_of_ble_eq_true rfl) ⟨_, rfl, hq, rfl⟩
      · rw [if_pos c3] at hq
        refine xi_iconst (v := 1) dX6_joined_16 (by decide) ?_
        refine xi_goto (tgt := 21) dX6_joined_17 (by decide) ?_
        refine xi_istore_n (lv' := [(3, .int 1), (0, .int m), (1, .int x), (2, .int y)]) dX6_joined_21 (by decide) rfl ?_
        refine xi_iload_n 0 dX6_joined_22 rfl ?_
        refine xi_if_eq_f (tgt := 32) dX6_joined_23 (by decide) (by decide) ?_
        refine xi_iload_n 2 dX6_joined_26 rfl ?_
        refine xi_iload_n 3 dX6_joined_27 rfl ?_
        refine xi_iadd (v := (x + y)) dX6_joined_28 rfl ?_
        refine xi_goto (tgt := 37) dX6_joined_29 (by decide) ?_
        exact xi_iret dX6_joined_37 rfl rfl (Nat.le_of_ble_eq_true rfl) (Nat.le_of_ble_eq_true rfl) ⟨_, rfl, hq, rfl⟩
def FX6_aheadAtStep (m : Int32) (x : Int32) (p : Int32) : Int32 := (if (FX6_isTakenOut m) = (0 : Int32) then (x ||| ((1 : Int32) <<< (p &&& 31))) else x)
set_option maxHeartbeats 4000000 in
set_option maxRecDepth 100000 in
theorem FX6_aheadAtStep_ok (G : xG) {M : xMem} (m : Int32) (x : Int32) (p : Int32) (Q : Int32 → Prop) (hq : Q (FX6_aheadAtStep m x p)) : xC G mX6_aheadAtStep 1 0 0 [.int m, .int x, .int p] M (fun v M2 => ∃ r, v = some (.int r) ∧ Q r ∧ M2 = M) := by
  unfold FX6_aheadAtStep at hq
  refine xC.of (by decide) (Nat.le_of_ble_eq_true rfl) ?_
  show xW _ _ _ _ 0 [(0, .int m), (1, .int x), (2, .int p)] [] _ 0 0
  refine xi_iload_n 0 dX6_aheadAtStep_0 rfl ?_
  refine xi_callS (as := [.int m]) (rest := []) dX6_aheadAtStep_1 (FX6_isTakenOut_ok G m (fun r => r = FX6_isTakenOut m) rfl) mkX6_isTakenOut w_583 w_582 rfl rfl (Nat.le_of_ble_eq_true rfl) (Nat.le_of_ble_eq_true rfl) (Nat.le_of_ble_eq_true rfl) (Nat.le_of_ble_eq_true rfl) (Nat.le_of_ble_eq_true rfl) ?_
  intro v M2 hz
  obtain ⟨_, rfl, rfl, hM2⟩ := hz
  rw [hM2]
  show xW _ _ _ _ 4 _ [.int (FX6_isTakenOut m)] M _ _
  refine xi_if_eq (tgt := 11) dX6_aheadAtStep_4 (by decide) (fun c1 => ?_) (fun c1 => ?_)
  · rw [if_pos c1] at hq
    refine xi_iload_n 1 dX6_aheadAtStep_11 rfl ?_
    refine xi_iconst (v := 1) dX6_aheadAtStep_12 (by decide) ?_
    refine xi_iload_n 2 dX6_aheadAtStep_13 rfl ?_
    refine xi_ishl (v := ((1 : Int32) <<< (p &&& 31))) dX6_aheadAtStep_14 rfl ?_
    refine xi_ior (v := (x ||| ((1 : Int32) <<< (p &&& 31)))) dX6_aheadAtStep_15 rfl ?_
    exact xi_iret dX6_aheadAtStep_16 rfl rfl (Nat.le_of_ble_eq_true rfl) (Nat.le_of_ble_eq_true rfl) ⟨_, rfl, hq, rfl⟩
  · rw [if_neg c1] at hq
    refine xi_iload_n 1 dX6_aheadAtStep_7 rfl ?_
    refine xi_goto (tgt := 16) dX6_aheadAtStep_8 (by decide) ?_
    exact xi_iret dX6_aheadAtStep_16 rfl rfl (Nat.le_of_ble_eq_true rfl) (Nat.le_of_ble_eq_true rfl) ⟨_, rfl, hq, rfl⟩
def LX6_cutWeight_43 (Na : NV) (w1 : Int32) (n3 : Nat) (w4 : Int32) (K : Int32 → Int32) : Nat → Nat → Int32 → Int32
  | 0, _, v2 => K v2
  | k + 1, j, v2 => (if ((w4 >>> ((nI j) &&& 31)) &&& (1 : Int32)) = (0 : Int32) then (LX6_cutWeight_43 Na w1 n3 w4 K k (j + 1) v2) else (LX6_cutWeight_43 Na w1 n3 w4 K k (j + 1) ((v2 + (FX5_weightOf Na n3 j)))))
def LX6_cutWeight_4 (Na : NV) (w1 : Int32) (K : Int32 → Int32) : Nat → Nat → Int32 → Int32
  | 0, _, v2 => K v2
  | k + 1, j, v2 => (if ((w1 >>> ((nI j) &&& 31)) &&& (1 : Int32)) = (0 : Int32) then (LX6_cutWeight_4 Na w1 K k (j + 1) v2) else (if ((Na.2.2.1 j) &&& (w1 ^^^ (-1 : Int32))) = (0 : Int32) then (LX6_cutWeight_4 Na w1 K k (j + 1) v2) else (LX6_cutWeight_43 Na w1 j (((Na.2.2.1 j) &&& (w1 ^^^ (-1 : Int32)))) (fun u4 => (LX6_cutWeight_4 Na w1 K k (j + 1) u4)) (Na.1 - 0) 0 v2)))
set_option maxHeartbeats 4000000 in
set_option maxRecDepth 100000 in
theorem LX6_cutWeight_43_s (G : xG) {M : xMem} {a : Nat} {Na : NV} (ha : xnet M a Na) (ka : Na.1 ≤ 9) (w1 : Int32) (n3 : Nat) (bn3 : n3 < 9) (w4 : Int32) (Q : Int32 → Prop) (K : Int32 → Int32) (HE : ∀ (v2 : Int32), Q (K v2) → xW G mX6_cutWeight (xrm 1 0 0) (xQ G (fun v M2 => ∃ r, v = some (.int r) ∧ Q r ∧ M2 = M) 0 0) 78 [(0, .ref a), (1, .int w1), (2, .int v2), (3, .int (nI n3))] [] M 0 0) :
    ∀ (k j : Nat) (v2 : Int32), Na.1 - j = k → j < 100000 → Q (LX6_cutWeight_43 Na w1 n3 w4 K k j v2) → xW G mX6_cutWeight (xrm 1 0 0) (xQ G (fun v M2 => ∃ r, v = some (.int r) ∧ Q r ∧ M2 = M) 0 0) 43 [(0, .ref a), (1, .int w1), (2, .int v2), (3, .int (nI n3)), (4, .int w4), (5, .int (nI j))] [] M 0 0 := by
  intro k
  induction k with
  | zero =>
    intro j v2 hj hj2 hq
    rw [LX6_cutWeight_43] at hq
    refine xi_iload 5 dX6_cutWeight_43 rfl ?_
    refine xi_aload_n 0 dX6_cutWeight_45 rfl ?_
    refine xi_get (f := 0) dX6_cutWeight_46 ha.1 rfl ok_5 (by decide) w_67 rfl ?_
    refine xi_icmp_ge_t (tgt := 78) dX6_cutWeight_49 (by decide) (nI_le (a := Na.1) (b := j) (by omega) (by omega)) ?_
    refine xi_sub (lv' := [(0, .ref a), (1, .int w1), (2, .int v2), (3, .int (nI n3))]) [0, 1, 2, 3] rfl ?_
    exact HE v2 hq
  | succ k ih =>
    intro j v2 hj hj2 hq
    rw [LX6_cutWeight_43] at hq
    refine xi_iload 5 dX6_cutWeight_43 rfl ?_
    refine xi_aload_n 0 dX6_cutWeight_45 rfl ?_
    refine xi_get (f := 0) dX6_cutWeight_46 ha.1 rfl ok_5 (by decide) w_67 rfl ?_
    refine xi_icmp_ge_f (tgt := 78) dX6_cutWeight_49 (by decide) (nI_ge (a := j) (b := Na.1) (by omega) (by omega)) ?_
    refine xi_iload 4 dX6_cutWeight_52 rfl ?_
    refine xi_iload 5 dX6_cutWeight_54 rfl ?_
    refine xi_ishr (v := (w4 >>> ((nI j) &&& 31))) dX6_cutWeight_56 rfl ?_
    refine xi_iconst (v := 1) dX6_cutWeight_57 (by decide) ?_
    refine xi_iand (v := ((w4 >>> ((nI j) &&& 31)) &&& (1 : Int32))) dX6_cutWeight_58 rfl ?_
    refine xi_if_eq (tgt := 72) dX6_cutWeight_59 (by decide) (fun c3 => ?_) (fun c3 => ?_)
    · rw [if_pos c3] at hq
      refine xi_iinc (v := (nI (j + 1))) (lv' := [(5, .int (nI (j + 1))), (0, .ref a), (1, .int w1), (2, .int v2), (3, .int (nI n3)), (4, .int w4)]) 5 dX6_cutWeight_72 rfl (nI_1 _) (by decide) rfl ?_
      refine xi_goto (tgt := 43) dX6_cutWeight_75 (by decide) ?_
      refine xi_sub (lv' := [(0, .ref a), (1, .int w1), (2, .int v2), (3, .int (nI n3)), (4, .int w4), (5, .int (nI (j + 1)))]) [1, 2, 3, 4, 5, 0] rfl ?_
      exact ih (j + 1) v2 (by omega) (by omega) hq
    · rw [if_neg c3] at hq
      refine xi_iload_n 2 dX6_cutWeight_62 rfl ?_
      refine xi_aload_n 0 dX6_cutWeight_63 rfl ?_
      refine xi_iload_n 3 dX6_cutWeight_64 rfl ?_
      refine xi_iload 5 dX6_cutWeight_65 rfl ?_
      refine xi_callV (as := [.int (nI n3), .int (nI j)]) (rest := [.int v2]) dX6_cutWeight_67 (FX5_weightOf_ok G ha ka n3 (by omega) j (by omega) (fun r => r = FX5_weightOf Na n3 j) rfl) mkX5_weightOf w_415 w_416 w_610 ha.1 rfl rfl rfl rfl (Nat.le_of_ble_eq_true rfl) (Nat.le_of_ble_eq_true rfl) (Nat.le_of_ble_eq_true rfl) (Nat.le_of_ble_eq_true rfl) (Nat.le_of_ble_eq_true rfl) ?_
      intro v M2 hz
      obtain ⟨_, rfl, rfl, hM2⟩ := hz
      rw [hM2]
      show xW _ _ _ _ 70 _ [.int (FX5_weightOf Na n3 j), .int v2] M _ _
      refine xi_iadd (v := (v2 + (FX5_weightOf Na n3 j))) dX6_cutWeight_70 rfl ?_
      refine xi_istore_n (lv' := [(2, .int (v2 + (FX5_weightOf Na n3 j))), (0, .ref a), (1, .int w1), (3, .int (nI n3)), (4, .int w4), (5, .int (nI j))]) dX6_cutWeight_71 (by decide) rfl ?_
      refine xi_iinc (v := (nI (j + 1))) (lv' := [(5, .int (nI (j + 1))), (2, .int (v2 + (FX5_weightOf Na n3 j))), (0, .ref a), (1, .int w1), (3, .int (nI n3)), (4, .int w4)]) 5 dX6_cutWeight_72 rfl (nI_1 _) (by decide) rfl ?_
      refine xi_goto (tgt := 43) dX6_cutWeight_75 (by decide) ?_
      refine xi_sub (lv' := [(0, .ref a), (1, .int w1), (2, .int (v2 + (FX5_weightOf Na n3 j))), (3, .int (nI n3)), (4, .int w4), (5, .int (nI (j + 1)))]) [2, 3, 1, 4, 5, 0] rfl ?_
      exact ih (j + 1) ((v2 + (FX5_weightOf Na n3 j))) (by omega) (by omega) hq
set_option maxHeartbeats 4000000 in
set_option maxRecDepth 100000 in
theorem LX6_cutWeight_4_s (G : xG) {M : xMem} {a : Nat} {Na : NV} (ha : xnet M a Na) (ka : Na.1 ≤ 9) (w1 : Int32) (Q : Int32 → Prop) (K : Int32 → Int32) (HE : ∀ (v2 : Int32), Q (K v2) → xW G mX6_cutWeight (xrm 1 0 0) (xQ G (fun v M2 => ∃ r, v = some (.int r) ∧ Q r ∧ M2 = M) 0 0) 84 [(2, .int v2)] [] M 0 0) :
    ∀ (k j : Nat) (v2 : Int32), Na.1 - j = k → j < 100000 → Q (LX6_cutWeight_4 Na w1 K k j v2) → xW G mX6_cutWeight (xrm 1 0 0) (xQ G (fun v M2 => ∃ r, v = some (.int r) ∧ Q r ∧ M2 = M) 0 0) 4 [(0, .ref a), (1, .int w1), (2, .int v2), (3, .int (nI j))] [] M 0 0 := by
  intro k
  induction k with
  | zero =>
    intro j v2 hj hj2 hq
    rw [LX6_cutWeight_4] at hq
    refine xi_iload_n 3 dX6_cutWeight_4 rfl ?_
    refine xi_aload_n 0 dX6_cutWeight_5 rfl ?_
    refine xi_get (f := 0) dX6_cutWeight_6 ha.1 rfl ok_5 (by decide) w_67 rfl ?_
    refine xi_icmp_ge_t (tgt := 84) dX6_cutWeight_9 (by decide) (nI_le (a := Na.1) (b := j) (by omega) (by omega)) ?_
    refine xi_sub (lv' := [(2, .int v2)]) [2] rfl ?_
    exact HE v2 hq
  | succ k ih =>
    intro j v2 hj hj2 hq
    rw [LX6_cutWeight_4] at hq
    refine xi_iload_n 3 dX6_cutWeight_4 rfl ?_
    refine xi_aload_n 0 dX6_cutWeight_5 rfl ?_
    refine xi_get (f := 0) dX6_cutWeight_6 ha.1 rfl ok_5 (by decide) w_67 rfl ?_
    refine xi_icmp_ge_f (tgt := 84) dX6_cutWeight_9 (by decide) (nI_ge (a := j) (b := Na.1) (by omega) (by omega)) ?_
    refine xi_aload_n 0 dX6_cutWeight_12 rfl ?_
    refine xi_get (f := 2) dX6_cutWeight_13 ha.1 rfl ok_5 (by decide) w_74 rfl ?_
    refine xi_iload_n 3 dX6_cutWeight_16 rfl ?_
    refine xi_iaload (v := (Na.2.2.1 j)) dX6_cutWeight_17 ha.2.1 (vp_in_nI (by omega) (by decide)) (by rw [nI_clamp (by omega)]) ?_
    refine xi_iload_n 1 dX6_cutWeight_18 rfl ?_
    refine xi_iconst (v := (-1)) dX6_cutWeight_19 (by decide) ?_
    refine xi_ixor (v := (w1 ^^^ (-1 : Int32))) dX6_cutWeight_20 rfl ?_
    refine xi_iand (v := ((Na.2.2.1 j) &&& (w1 ^^^ (-1 : Int32)))) dX6_cutWeight_21 rfl ?_
    refine xi_istore (lv' := [(4, .int ((Na.2.2.1 j) &&& (w1 ^^^ (-1 : Int32)))), (0, .ref a), (1, .int w1), (2, .int v2), (3, .int (nI j))]) dX6_cutWeight_22 (by decide) rfl ?_
    refine xi_iload_n 2 dX6_cutWeight_24 rfl ?_
    refine xi_iload_n 4 dX6_cutWeight_25 rfl ?_
    refine xi_ishr (v := (w1 >>> ((nI j) &&& 31))) dX6_cutWeight_26 rfl ?_
    refine xi_iconst (v := 1) dX6_cutWeight_27 (by decide) ?_
    refine xi_iand (v := ((w1 >>> ((nI j) &&& 31)) &&& (1 : Int32))) dX6_cutWeight_28 rfl ?_
    refine xi_if_eq (tgt := 78) dX6_cutWeight_29 (by decide) (fun c1 => ?_) (fun c1 => ?_)
    · rw [if_pos c1] at hq
      refine xi_iinc (v := (nI (j + 1))) (lv' := [(3, .int (nI (j + 1))), (4, .int ((Na.2.2.1 j) &&& (w1 ^^^ (-1 : Int32)))), (0, .ref a), (1, .int w1), (2, .int v2)]) 4 dX6_cutWeight_78 rfl (nI_1 _) (by decide) rfl ?_
      refine xi_goto (tgt := 4) dX6_cutWeight_81 (by decide) ?_
      refine xi_sub (lv' := [(0, .ref a), (1, .int w1), (2, .int v2), (3, .int (nI (j + 1)))]) [2, 3, 4, 0] rfl ?_
      exact ih (j + 1) v2 (by omega) (by omega) hq
    · rw [if_neg c1] at hq
      refine xi_iload 0 dX6_cutWeight_32 rfl ?_
      refine xi_if_ne (tgt := 40) dX6_cutWeight_34 (by decide) (fun c2 => ?_) (fun c2 => ?_)
      · rw [if_neg c2] at hq
        refine xi_iconst (v := 0) dX6_cutWeight_40 (by decide) ?_
        refine xi_istore (lv' := [(5, .int 0), (4, .int ((Na.2.2.1 j) &&& (w1 ^^^ (-1 : Int32)))), (0, .ref a), (1, .int w1), (2, .int v2), (3, .int (nI j))]) dX6_cutWeight_41 (by decide) rfl ?_
        refine xi_sub (lv' := [(0, .ref a), (1, .int w1), (2, .int v2), (3, .int (nI j)), (4, .int ((Na.2.2.1 j) &&& (w1 ^^^ (-1 : Int32)))), (5, .int 0)]) [2, 3, 4, 5, 1, 0] rfl ?_
        refine LX6_cutWeight_43_s G ha ka w1 j (by omega) (((Na.2.2.1 j) &&& (w1 ^^^ (-1 : Int32)))) Q _ (fun u4 hq => ?_) (Na.1 - 0) 0 v2 rfl (by omega) hq
        refine xi_iinc (v := (nI (j + 1))) (lv' := [(3, .int (nI (j + 1))), (0, .ref a), (1, .int w1), (2, .int u4)]) 3 dX6_cutWeight_78 rfl (nI_1 _) (by decide) rfl ?_
        refine xi_goto (tgt := 4) dX6_cutWeight_81 (by decide) ?_
        refine xi_sub (lv' := [(0, .ref a), (1, .int w1), (2, .int u4), (3, .int (nI (j + 1)))]) [1, 2, 3, 0] rfl ?_
        exact ih (j + 1) u4 (by omega) (by omega) hq
      · rw [if_pos c2] at hq
        refine xi_goto (tgt := 78) dX6_cutWeight_37 (by decide) ?_
        refine xi_iinc (v := (nI (j + 1))) (lv' := [(3, .int (nI (j + 1))), (4, .int ((Na.2.2.1 j) &&& (w1 ^^^ (-1 : Int32)))), (0, .ref a), (1, .int w1), (2, .int v2)]) 4 dX6_cutWeight_78 rfl (nI_1 _) (by decide) rfl ?_
        refine xi_goto (tgt := 4) dX6_cutWeight_81 (by decide) ?_
        refine xi_sub (lv' := [(0, .ref a), (1, .int w1), (2, .int v2), (3, .int (nI (j + 1)))]) [2, 3, 4, 0] rfl ?_
        exact ih (j + 1) v2 (by omega) (by omega) hq
def FX6_cutWeight (Na : NV) (set : Int32) : Int32 := (LX6_cutWeight_4 Na set (fun u5 => u5) (Na.1 - 0) 0 ((0 : Int32)))
set_option maxHeartbeats 4000000 in
set_option maxRecDepth 100000 in
theorem FX6_cutWeight_ok (G : xG) {M : xMem} {a : Nat} {Na : NV} (ha : xnet M a Na) (ka : Na.1 ≤ 9) (set : Int32) (Q : Int32 → Prop) (hq : Q (FX6_cutWeight Na set)) : xC G mX6_cutWeight 1 0 0 [.ref a, .int set] M (fun v M2 => ∃ r, v = some (.int r) ∧ Q r ∧ M2 = M) := by
  unfold FX6_cutWeight at hq
  refine xC.of (by decide) (Nat.le_of_ble_eq_true rfl) ?_
  show xW _ _ _ _ 0 [(0, .ref a), (1, .int set)] [] _ 0 0
  refine xi_iconst (v := 0) dX6_cutWeight_0 (by decide) ?_
  refine xi_istore_n (lv' := [(2, .int 0), (0, .ref a), (1, .int set)]) dX6_cutWeight_1 (by decide) rfl ?_
  refine xi_iconst (v := 0) dX6_cutWeight_2 (by decide) ?_
  refine xi_istore_n (lv' := [(3, .int 0), (2, .int 0), (0, .ref a), (1, .int set)]) dX6_cutWeight_3 (by decide) rfl ?_
  refine xi_sub (lv' := [(0, .ref a), (1, .int set), (2, .int 0), (3, .int 0)]) [2, 3, 1, 0] rfl ?_
  refine LX6_cutWeight_4_s G ha ka set Q _ (fun u5 hq => ?_) (Na.1 - 0) 0 ((0 : Int32)) rfl (by omega) hq
  refine xi_iload_n 0 dX6_cutWeight_84 rfl ?_
  exact xi_iret dX6_cutWeight_85 rfl rfl (Nat.le_of_ble_eq_true rfl) (Nat.le_of_ble_eq_true rfl) ⟨_, rfl, hq, rfl⟩
def LX6_withLineInto_5 (Na : NV) (w1 : Int32) (w2 : Int32) (K : Int32 → Int32) : Nat → Nat → Int32 → Int32
  | 0, _, v3 => K v3
  | k + 1, j, v3 => (if ((w1 >>> ((nI j) &&& 31)) &&& (1 : Int32)) = (0 : Int32) then (LX6_withLineInto_5 Na w1 w2 K k (j + 1) v3) else (if ((Na.2.2.1 j) &&& w2) = (0 : Int32) then (LX6_withLineInto_5 Na w1 w2 K k (j + 1) v3) else (LX6_withLineInto_5 Na w1 w2 K k (j + 1) ((v3 ||| ((1 : Int32) <<< ((nI j) &&& 31)))))))
set_option maxHeartbeats 4000000 in
set_option maxRecDepth 100000 in
theorem LX6_withLineInto_5_s (G : xG) {M : xMem} {a : Nat} {Na : NV} (ha : xnet M a Na) (ka : Na.1 ≤ 9) (w1 : Int32) (w2 : Int32) (Q : Int32 → Prop) (K : Int32 → Int32) (HE : ∀ (v3 : Int32), Q (K v3) → xW G mX6_withLineInto (xrm 0 0 0) (xQ G (fun v M2 => ∃ r, v = some (.int r) ∧ Q r ∧ M2 = M) 0 0) 48 [(3, .int v3)] [] M 0 0) :
    ∀ (k j : Nat) (v3 : Int32), Na.1 - j = k → j < 100000 → Q (LX6_withLineInto_5 Na w1 w2 K k j v3) → xW G mX6_withLineInto (xrm 0 0 0) (xQ G (fun v M2 => ∃ r, v = some (.int r) ∧ Q r ∧ M2 = M) 0 0) 5 [(0, .ref a), (1, .int w1), (2, .int w2), (3, .int v3), (4, .int (nI j))] [] M 0 0 := by
  intro k
  induction k with
  | zero =>
    intro j v3 hj hj2 hq
    rw [LX6_withLineInto_5] at hq
    refine xi_iload 4 dX6_withLineInto_5 rfl ?_
    refine xi_aload_n 0 dX6_withLineInto_7 rfl ?_
    refine xi_get (f := 0) dX6_withLineInto_8 ha.1 rfl ok_5 (by decide) w_67 rfl ?_
    refine xi_icmp_ge_t (tgt := 48) dX6_withLineInto_11 (by decide) (nI_le (a := Na.1) (b := j) (by omega) (by omega)) ?_
    refine xi_sub (lv' := [(3, .int v3)]) [3] rfl ?_
    exact HE v3 hq
  | succ k ih =>
    intro j v3 hj hj2 hq
    rw [LX6_withLineInto_5] at hq
    refine xi_iload 4 dX6_withLineInto_5 rfl ?_
    refine xi_aload_n 0 dX6_withLineInto_7 rfl ?_
    refine xi_get (f := 0) dX6_withLineInto_8 ha.1 rfl ok_5 (by decide) w_67 rfl ?_
    refine xi_icmp_ge_f (tgt := 48) dX6_withLineInto_11 (by decide) (nI_ge (a := j) (b := Na.1) (by omega) (by omega)) ?_
    refine xi_iload_n 1 dX6_withLineInto_14 rfl ?_
    refine xi_iload 4 dX6_withLineInto_15 rfl ?_
    refine xi_ishr (v := (w1 >>> ((nI j) &&& 31))) dX6_withLineInto_17 rfl ?_
    refine xi_iconst (v := 1) dX6_withLineInto_18 (by decide) ?_
    refine xi_iand (v := ((w1 >>> ((nI j) &&& 31)) &&& (1 : Int32))) dX6_withLineInto_19 rfl ?_
    refine xi_if_eq (tgt := 42) dX6_withLineInto_20 (by decide) (fun c1 => ?_) (fun c1 => ?_)
    · rw [if_pos c1] at hq
      refine xi_iinc (v := (nI (j + 1))) (lv' := [(4, .int (nI (j + 1))), (0, .ref a), (1, .int w1), (2, .int w2), (3, .int v3)]) 4 dX6_withLineInto_42 rfl (nI_1 _) (by decide) rfl ?_
      refine xi_goto (tgt := 5) dX6_withLineInto_45 (by decide) ?_
      refine xi_sub (lv' := [(0, .ref a), (1, .int w1), (2, .int w2), (3, .int v3), (4, .int (nI (j + 1)))]) [1, 2, 3, 4, 0] rfl ?_
      exact ih (j + 1) v3 (by omega) (by omega) hq
    · rw [if_neg c1] at hq
      refine xi_aload_n 0 dX6_withLineInto_23 rfl ?_
      refine xi_get (f := 2) dX6_withLineInto_24 ha.1 rfl ok_5 (by decide) w_74 rfl ?_
      refine xi_iload 4 dX6_withLineInto_27 rfl ?_
      refine xi_iaload (v := (Na.2.2.1 j)) dX6_withLineInto_29 ha.2.1 (vp_in_nI (by omega) (by decide)) (by rw [nI_clamp (by omega)]) ?_
      refine xi_iload_n 2 dX6_withLineInto_30 rfl ?_
      refine xi_iand (v := ((Na.2.2.1 j) &&& w2)) dX6_withLineInto_31 rfl ?_
      refine xi_if_eq (tgt := 42) dX6_withLineInto_32 (by decide) (fun c2 => ?_) (fun c2 => ?_)
      · rw [if_pos c2] at hq
        refine xi_iinc (v := (nI (j + 1))) (lv' := [(4, .int (nI (j + 1))), (0, .ref a), (1, .int w1), (2, .int w2), (3, .int v3)]) 4 dX6_withLineInto_42 rfl (nI_1 _) (by decide) rfl ?_
        refine xi_goto (tgt := 5) dX6_withLineInto_45 (by decide) ?_
        refine xi_sub (lv' := [(0, .ref a), (1, .int w1), (2, .int w2), (3, .int v3), (4, .int (nI (j + 1)))]) [1, 2, 3, 4, 0] rfl ?_
        exact ih (j + 1) v3 (by omega) (by omega) hq
      · rw [if_neg c2] at hq
        refine xi_iload_n 3 dX6_withLineInto_35 rfl ?_
        refine xi_iconst (v := 1) dX6_withLineInto_36 (by decide) ?_
        refine xi_iload 4 dX6_withLineInto_37 rfl ?_
        refine xi_ishl (v := ((1 : Int32) <<< ((nI j) &&& 31))) dX6_withLineInto_39 rfl ?_
        refine xi_ior (v := (v3 ||| ((1 : Int32) <<< ((nI j) &&& 31)))) dX6_withLineInto_40 rfl ?_
        refine xi_istore_n (lv' := [(3, .int (v3 ||| ((1 : Int32) <<< ((nI j) &&& 31)))), (0, .ref a), (1, .int w1), (2, .int w2), (4, .int (nI j))]) dX6_withLineInto_41 (by decide) rfl ?_
        refine xi_iinc (v := (nI (j + 1))) (lv' := [(4, .int (nI (j + 1))), (3, .int (v3 ||| ((1 : Int32) <<< ((nI j) &&& 31)))), (0, .ref a), (1, .int w1), (2, .int w2)]) 4 dX6_withLineInto_42 rfl (nI_1 _) (by decide) rfl ?_
        refine xi_goto (tgt := 5) dX6_withLineInto_45 (by decide) ?_
        refine xi_sub (lv' := [(0, .ref a), (1, .int w1), (2, .int w2), (3, .int (v3 ||| ((1 : Int32) <<< ((nI j) &&& 31)))), (4, .int (nI (j + 1)))]) [2, 3, 4, 1, 0] rfl ?_
        exact ih (j + 1) ((v3 ||| ((1 : Int32) <<< ((nI j) &&& 31)))) (by omega) (by omega) hq
def FX6_withLineInto (Na : NV) (x : Int32) (y : Int32) : Int32 := (LX6_withLineInto_5 Na x y (fun u3 => u3) (Na.1 - 0) 0 ((0 : Int32)))
set_option maxHeartbeats 4000000 in
set_option maxRecDepth 100000 in
theorem FX6_withLineInto_ok (G : xG) {M : xMem} {a : Nat} {Na : NV} (ha : xnet M a Na) (ka : Na.1 ≤ 9) (x : Int32) (y : Int32) (Q : Int32 → Prop) (hq : Q (FX6_withLineInto Na x y)) : xC G mX6_withLineInto 0 0 0 [.ref a, .int x, .int y] M (fun v M2 => ∃ r, v = some (.int r) ∧ Q r ∧ M2 = M) := by
  unfold FX6_withLineInto at hq
  refine xC.of (by decide) (Nat.le_of_ble_eq_true rfl) ?_
  show xW _ _ _ _ 0 [(0, .ref a), (1, .int x), (2, .int y)] [] _ 0 0
  refine xi_iconst (v := 0) dX6_withLineInto_0 (by decide) ?_
  refine xi_istore_n (lv' := [(3, .int 0), (0, .ref a), (1, .int x), (2, .int y)]) dX6_withLineInto_1 (by decide) rfl ?_
  refine xi_iconst (v := 0) dX6_withLineInto_2 (by decide) ?_
  refine xi_istore (lv' := [(4, .int 0), (3, .int 0), (0, .ref a), (1, .int x), (2, .int y)]) dX6_withLineInto_3 (by decide) rfl ?_
  refine xi_sub (lv' := [(0, .ref a), (1, .int x), (2, .int y), (3, .int 0), (4, .int 0)]) [2, 3, 4, 1, 0] rfl ?_
  refine LX6_withLineInto_5_s G ha ka x y Q _ (fun u3 hq => ?_) (Na.1 - 0) 0 ((0 : Int32)) rfl (by omega) hq
  refine xi_iload_n 0 dX6_withLineInto_48 rfl ?_
  exact xi_iret dX6_withLineInto_49 rfl rfl (Nat.le_of_ble_eq_true rfl) (Nat.le_of_ble_eq_true rfl) ⟨_, rfl, hq, rfl⟩
def FX6_gateSize (Na : NV) (set : Int32) : Int32 := (FJ6_bitCount_0f7a4 ((FX6_withLineInto Na set ((set ^^^ (-1 : Int32))))))
set_option maxHeartbeats 4000000 in
set_option maxRecDepth 100000 in
theorem FX6_gateSize_ok (G : xG) {M : xMem} {a : Nat} {Na : NV} (ha : xnet M a Na) (ka : Na.1 ≤ 9) (set : Int32) (Q : Int32 → Prop) (hq : Q (FX6_gateSize Na set)) : xC G mX6_gateSize 1 0 0 [.ref a, .int set] M (fun v M2 => ∃ r, v = some (.int r) ∧ Q r ∧ M2 = M) := by
  unfold FX6_gateSize at hq
  refine xC.of (by decide) (Nat.le_of_ble_eq_true rfl) ?_
  show xW _ _ _ _ 0 [(0, .ref a), (1, .int set)] [] _ 0 0
  refine xi_aload_n 0 dX6_gateSize_0 rfl ?_
  refine xi_iload_n 1 dX6_gateSize_1 rfl ?_
  refine xi_iload_n 1 dX6_gateSize_2 rfl ?_
  refine xi_iconst (v := (-1)) dX6_gateSize_3 (by decide) ?_
  refine xi_ixor (v := (set ^^^ (-1 : Int32))) dX6_gateSize_4 rfl ?_
  refine xi_callS (as := [.ref a, .int set, .int (set ^^^ (-1 : Int32))]) (rest := []) dX6_gateSize_5 (FX6_withLineInto_ok G ha ka set ((set ^^^ (-1 : Int32))) (fun r => r = FX6_withLineInto Na set ((set ^^^ (-1 : Int32)))) rfl) mkX6_withLineInto w_592 w_591 rfl rfl (Nat.le_of_ble_eq_true rfl) (Nat.le_of_ble_eq_true rfl) (Nat.le_of_ble_eq_true rfl) (Nat.le_of_ble_eq_true rfl) (Nat.le_of_ble_eq_true rfl) ?_
  intro v M2 hz
  obtain ⟨_, rfl, rfl, hM2⟩ := hz
  rw [hM2]
  show xW _ _ _ _ 8 _ [.int (FX6_withLineInto Na set ((set ^^^ (-1 : Int32))))] M _ _
  refine xi_callS (as := [.int (FX6_withLineInto Na set ((set ^^^ (-1 : Int32))))]) (rest := []) dX6_gateSize_8 (FJ6_bitCount_0f7a4_ok G ((FX6_withLineInto Na set ((set ^^^ (-1 : Int32))))) (fun r => r = FJ6_bitCount_0f7a4 ((FX6_withLineInto Na set ((set ^^^ (-1 : Int32)))))) rfl) mkJ6_bitCount_0f7a4 w_508 w_594 rfl rfl (Nat.le_of_ble_eq_true rfl) (Nat.le_of_ble_eq_true rfl) (Nat.le_of_ble_eq_true rfl) (Nat.le_of_ble_eq_true rfl) (Nat.le_of_ble_eq_true rfl) ?_
  intro v M2 hz
  obtain ⟨_, rfl, rfl, hM2⟩ := hz
  rw [hM2]
  show xW _ _ _ _ 11 _ [.int (FJ6_bitCount_0f7a4 ((FX6_withLineInto Na set ((set ^^^ (-1 : Int32))))))] M _ _
  exact xi_iret dX6_gateSize_11 rfl rfl (Nat.le_of_ble_eq_true rfl) (Nat.le_of_ble_eq_true rfl) ⟨_, rfl, hq, rfl⟩
def FX6_fringeSize (Na : NV) (set : Int32) : Int32 := (FJ6_bitCount_0f7a4 ((FX6_withLineInto Na ((set ^^^ (-1 : Int32))) set)))
set_option maxHeartbeats 4000000 in
set_option maxRecDepth 100000 in
theorem FX6_fringeSize_ok (G : xG) {M : xMem} {a : Nat} {Na : NV} (ha : xnet M a Na) (ka : Na.1 ≤ 9) (set : Int32) (Q : Int32 → Prop) (hq : Q (FX6_fringeSize Na set)) : xC G mX6_fringeSize 1 0 0 [.ref a, .int set] M (fun v M2 => ∃ r, v = some (.int r) ∧ Q r ∧ M2 = M) := by
  unfold FX6_fringeSize at hq
  refine xC.of (by decide) (Nat.le_of_ble_eq_true rfl) ?_
  show xW _ _ _ _ 0 [(0, .ref a), (1, .int set)] [] _ 0 0
  refine xi_aload_n 0 dX6_fringeSize_0 rfl ?_
  refine xi_iload_n 1 dX6_fringeSize_1 rfl ?_
  refine xi_iconst (v := (-1)) dX6_fringeSize_2 (by decide) ?_
  refine xi_ixor (v := (set ^^^ (-1 : Int32))) dX6_fringeSize_3 rfl ?_
  refine xi_iload_n 1 dX6_fringeSize_4 rfl ?_
  refine xi_callS (as := [.ref a, .int (set ^^^ (-1 : Int32)), .int set]) (rest := []) dX6_fringeSize_5 (FX6_withLineInto_ok G ha ka ((set ^^^ (-1 : Int32))) set (fun r => r = FX6_withLineInto Na ((set ^^^ (-1 : Int32))) set) rfl) mkX6_withLineInto w_592 w_591 rfl rfl (Nat.le_of_ble_eq_true rfl) (Nat.le_of_ble_eq_true rfl) (Nat.le_of_ble_eq_true rfl) (Nat.le_of_ble_eq_true rfl) (Nat.le_of_ble_eq_true rfl) ?_
  intro v M2 hz
  obtain ⟨_, rfl, rfl, hM2⟩ := hz
  rw [hM2]
  show xW _ _ _ _ 8 _ [.int (FX6_withLineInto Na ((set ^^^ (-1 : Int32))) set)] M _ _
  refine xi_callS (as := [.int (FX6_withLineInto Na ((set ^^^ (-1 : Int32))) set)]) (rest := []) dX6_fringeSize_8 (FJ6_bitCount_0f7a4_ok G ((FX6_withLineInto Na ((set ^^^ (-1 : Int32))) set)) (fun r => r = FJ6_bitCount_0f7a4 ((FX6_withLineInto Na ((set ^^^ (-1 : Int32))) set))) rfl) mkJ6_bitCount_0f7a4 w_508 w_594 rfl rfl (Nat.le_of_ble_eq_true rfl) (Nat.le_of_ble_eq_true rfl) (Nat.le_of_ble_eq_true rfl) (Nat.le_of_ble_eq_true rfl) (Nat.le_of_ble_eq_true rfl) ?_
  intro v M2 hz
  obtain ⟨_, rfl, rfl, hM2⟩ := hz
  rw [hM2]
  show xW _ _ _ _ 11 _ [.int (FJ6_bitCount_0f7a4 ((FX6_withLineInto Na ((set ^^^ (-1 : Int32))) set)))] M _ _
  exact xi_iret dX6_fringeSize_11 rfl rfl (Nat.le_of_ble_eq_true rfl) (Nat.le_of_ble_eq_true rfl) ⟨_, rfl, hq, rfl⟩
def LX6_neighbours_50 (Na : NV) (w1 : Int32) (n2 : Nat) (w4 : Int32) (n5 : Nat) (w6 : Int32) (K : Int32 → Int32) : Nat → Nat → Int32 → Int32
  | 0, _, v3 => K v3
  | k + 1, j, v3 => (if ((w6 >>> ((nI j) &&& 31)) &&& (1 : Int32)) = (0 : Int32) then (LX6_neighbours_50 Na w1 n2 w4 n5 w6 K k (j + 1) v3) else (LX6_neighbours_50 Na w1 n2 w4 n5 w6 K k (j + 1) ((v3 ||| (Na.2.2.1 j)))))
def LX6_neighbours_13 (Na : NV) (w1 : Int32) (n2 : Nat) (K : Int32 → Int32 → Int32) : Nat → Nat → Int32 → Int32 → Int32
  | 0, _, v3, v4 => K v3 v4
  | k + 1, j, v3, v4 => (if ((v3 &&& w1) &&& (v4 ^^^ (-1 : Int32))) = (0 : Int32) then (K v3 v4) else (LX6_neighbours_50 Na w1 n2 ((v4 ||| ((v3 &&& w1) &&& (v4 ^^^ (-1 : Int32))))) j (((v3 &&& w1) &&& (v4 ^^^ (-1 : Int32)))) (fun u3 => (LX6_neighbours_13 Na w1 n2 K k (j + 1) u3 ((v4 ||| ((v3 &&& w1) &&& (v4 ^^^ (-1 : Int32))))))) (Na.1 - 0) 0 v3))
set_option maxHeartbeats 4000000 in
set_option maxRecDepth 100000 in
theorem LX6_neighbours_50_s (G : xG) {M : xMem} {a : Nat} {Na : NV} (ha : xnet M a Na) (ka : Na.1 ≤ 9) (w1 : Int32) (n2 : Nat) (bn2 : n2 < 9) (w4 : Int32) (n5 : Nat) (bn5 : n5 < 9) (w6 : Int32) (Q : Int32 → Prop) (K : Int32 → Int32) (HE : ∀ (v3 : Int32), Q (K v3) → xW G mX6_neighbours (xrm 0 0 0) (xQ G (fun v M2 => ∃ r, v = some (.int r) ∧ Q r ∧ M2 = M) 0 0) 85 [(0, .ref a), (1, .int w1), (2, .int (nI n2)), (3, .int v3), (4, .int w4), (5, .int (nI n5))] [] M 0 0) :
    ∀ (k j : Nat) (v3 : Int32), Na.1 - j = k → j < 100000 → Q (LX6_neighbours_50 Na w1 n2 w4 n5 w6 K k j v3) → xW G mX6_neighbours (xrm 0 0 0) (xQ G (fun v M2 => ∃ r, v = some (.int r) ∧ Q r ∧ M2 = M) 0 0) 50 [(0, .ref a), (1, .int w1), (2, .int (nI n2)), (3, .int v3), (4, .int w4), (5, .int (nI n5)), (6, .int w6), (7, .int (nI j))] [] M 0 0 := by
  intro k
  induction k with
  | zero =>
    intro j v3 hj hj2 hq
    rw [LX6_neighbours_50] at hq
    refine xi_iload 7 dX6_neighbours_50 rfl ?_
    refine xi_aload_n 0 dX6_neighbours_52 rfl ?_
    refine xi_get (f := 0) dX6_neighbours_53 ha.1 rfl ok_5 (by decide) w_67 rfl ?_
    refine xi_icmp_ge_t (tgt := 85) dX6_neighbours_56 (by decide) (nI_le (a := Na.1) (b := j) (by omega) (by omega)) ?_
    refine xi_sub (lv' := [(0, .ref a), (1, .int w1), (2, .int (nI n2)), (3, .int v3), (4, .int w4), (5, .int (nI n5))]) [0, 1, 2, 3, 4, 5] rfl ?_
    exact HE v3 hq
  | succ k ih =>
    intro j v3 hj hj2 hq
    rw [LX6_neighbours_50] at hq
    refine xi_iload 7 dX6_neighbours_50 rfl ?_
    refine xi_aload_n 0 dX6_neighbours_52 rfl ?_
    refine xi_get (f := 0) dX6_neighbours_53 ha.1 rfl ok_5 (by decide) w_67 rfl ?_
    refine xi_icmp_ge_f (tgt := 85) dX6_neighbours_56 (by decide) (nI_ge (a := j) (b := Na.1) (by omega) (by omega)) ?_
    refine xi_iload 6 dX6_neighbours_59 rfl ?_
    refine xi_iload 7 dX6_neighbours_61 rfl ?_
    refine xi_ishr (v := (w6 >>> ((nI j) &&& 31))) dX6_neighbours_63 rfl ?_
    refine xi_iconst (v := 1) dX6_neighbours_64 (by decide) ?_
    refine xi_iand (v := ((w6 >>> ((nI j) &&& 31)) &&& (1 : Int32))) dX6_neighbours_65 rfl ?_
    refine xi_if_eq (tgt := 79) dX6_neighbours_66 (by decide) (fun c2 => ?_) (fun c2 => ?_)
    · rw [if_pos c2] at hq
      refine xi_iinc (v := (nI (j + 1))) (lv' := [(7, .int (nI (j + 1))), (0, .ref a), (1, .int w1), (2, .int (nI n2)), (3, .int v3), (4, .int w4), (5, .int (nI n5)), (6, .int w6)]) 7 dX6_neighbours_79 rfl (nI_1 _) (by decide) rfl ?_
      refine xi_goto (tgt := 50) dX6_neighbours_82 (by decide) ?_
      refine xi_sub (lv' := [(0, .ref a), (1, .int w1), (2, .int (nI n2)), (3, .int v3), (4, .int w4), (5, .int (nI n5)), (6, .int w6), (7, .int (nI (j + 1)))]) [1, 2, 3, 4, 5, 6, 7, 0] rfl ?_
      exact ih (j + 1) v3 (by omega) (by omega) hq
    · rw [if_neg c2] at hq
      refine xi_iload_n 3 dX6_neighbours_69 rfl ?_
      refine xi_aload_n 0 dX6_neighbours_70 rfl ?_
      refine xi_get (f := 2) dX6_neighbours_71 ha.1 rfl ok_5 (by decide) w_74 rfl ?_
      refine xi_iload 7 dX6_neighbours_74 rfl ?_
      refine xi_iaload (v := (Na.2.2.1 j)) dX6_neighbours_76 ha.2.1 (vp_in_nI (by omega) (by decide)) (by rw [nI_clamp (by omega)]) ?_
      refine xi_ior (v := (v3 ||| (Na.2.2.1 j))) dX6_neighbours_77 rfl ?_
      refine xi_istore_n (lv' := [(3, .int (v3 ||| (Na.2.2.1 j))), (0, .ref a), (1, .int w1), (2, .int (nI n2)), (4, .int w4), (5, .int (nI n5)), (6, .int w6), (7, .int (nI j))]) dX6_neighbours_78 (by decide) rfl ?_
      refine xi_iinc (v := (nI (j + 1))) (lv' := [(7, .int (nI (j + 1))), (3, .int (v3 ||| (Na.2.2.1 j))), (0, .ref a), (1, .int w1), (2, .int (nI n2)), (4, .int w4), (5, .int (nI n5)), (6, .int w6)]) 7 dX6_neighbours_79 rfl (nI_1 _) (by decide) rfl ?_
      refine xi_goto (tgt := 50) dX6_neighbours_82 (by decide) ?_
      refine xi_sub (lv' := [(0, .ref a), (1, .int w1), (2, .int (nI n2)), (3, .int (v3 ||| (Na.2.2.1 j))), (4, .int w4), (5, .int (nI n5)), (6, .int w6), (7, .int (nI (j + 1)))]) [2, 3, 4, 1, 5, 6, 7, 0] rfl ?_
      exact ih (j + 1) ((v3 ||| (Na.2.2.1 j))) (by omega) (by omega) hq
set_option maxHeartbeats 4000000 in
set_option maxRecDepth 100000 in
theorem LX6_neighbours_13_s (G : xG) {M : xMem} {a : Nat} {Na : NV} (ha : xnet M a Na) (ka : Na.1 ≤ 9) (w1 : Int32) (n2 : Nat) (bn2 : n2 < 9) (Q : Int32 → Prop) (K : Int32 → Int32 → Int32) (HE : ∀ (v3 : Int32) (v4 : Int32), Q (K v3 v4) → xW G mX6_neighbours (xrm 0 0 0) (xQ G (fun v M2 => ∃ r, v = some (.int r) ∧ Q r ∧ M2 = M) 0 0) 91 [(1, .int w1), (2, .int (nI n2)), (3, .int v3)] [] M 0 0) :
    ∀ (k j : Nat) (v3 : Int32) (v4 : Int32), Na.1 - j = k → j < 100000 → Q (LX6_neighbours_13 Na w1 n2 K k j v3 v4) → xW G mX6_neighbours (xrm 0 0 0) (xQ G (fun v M2 => ∃ r, v = some (.int r) ∧ Q r ∧ M2 = M) 0 0) 13 [(0, .ref a), (1, .int w1), (2, .int (nI n2)), (3, .int v3), (4, .int v4), (5, .int (nI j))] [] M 0 0 := by
  intro k
  induction k with
  | zero =>
    intro j v3 v4 hj hj2 hq
    rw [LX6_neighbours_13] at hq
    refine xi_iload 5 dX6_neighbours_13 rfl ?_
    refine xi_aload_n 0 dX6_neighbours_15 rfl ?_
    refine xi_get (f := 0) dX6_neighbours_16 ha.1 rfl ok_5 (by decide) w_67 rfl ?_
    refine xi_icmp_ge_t (tgt := 91) dX6_neighbours_19 (by decide) (nI_le (a := Na.1) (b := j) (by omega) (by omega)) ?_
    refine xi_sub (lv' := [(1, .int w1), (2, .int (nI n2)), (3, .int v3)]) [1, 2, 3] rfl ?_
    exact HE v3 v4 hq
  | succ k ih =>
    intro j v3 v4 hj hj2 hq
    rw [LX6_neighbours_13] at hq
    refine xi_iload 5 dX6_neighbours_13 rfl ?_
    refine xi_aload_n 0 dX6_neighbours_15 rfl ?_
    refine xi_get (f := 0) dX6_neighbours_16 ha.1 rfl ok_5 (by decide) w_67 rfl ?_
    refine xi_icmp_ge_f (tgt := 91) dX6_neighbours_19 (by decide) (nI_ge (a := j) (b := Na.1) (by omega) (by omega)) ?_
    refine xi_iload_n 3 dX6_neighbours_22 rfl ?_
    refine xi_iload_n 1 dX6_neighbours_23 rfl ?_
    refine xi_iand (v := (v3 &&& w1)) dX6_neighbours_24 rfl ?_
    refine xi_iload 4 dX6_neighbours_25 rfl ?_
    refine xi_iconst (v := (-1)) dX6_neighbours_27 (by decide) ?_
    refine xi_ixor (v := (v4 ^^^ (-1 : Int32))) dX6_neighbours_28 rfl ?_
    refine xi_iand (v := ((v3 &&& w1) &&& (v4 ^^^ (-1 : Int32)))) dX6_neighbours_29 rfl ?_
    refine xi_istore (lv' := [(6, .int ((v3 &&& w1) &&& (v4 ^^^ (-1 : Int32)))), (0, .ref a), (1, .int w1), (2, .int (nI n2)), (3, .int v3), (4, .int v4), (5, .int (nI j))]) dX6_neighbours_30 (by decide) rfl ?_
    refine xi_iload 0 dX6_neighbours_32 rfl ?_
    refine xi_if_ne (tgt := 40) dX6_neighbours_34 (by decide) (fun c1 => ?_) (fun c1 => ?_)
    · rw [if_neg c1] at hq
      refine xi_iload 5 dX6_neighbours_40 rfl ?_
      refine xi_iload 0 dX6_neighbours_42 rfl ?_
      refine xi_ior (v := (v4 ||| ((v3 &&& w1) &&& (v4 ^^^ (-1 : Int32))))) dX6_neighbours_44 rfl ?_
      refine xi_istore (lv' := [(4, .int (v4 ||| ((v3 &&& w1) &&& (v4 ^^^ (-1 : Int32))))), (6, .int ((v3 &&& w1) &&& (v4 ^^^ (-1 : Int32)))), (0, .ref a), (1, .int w1), (2, .int (nI n2)), (3, .int v3), (5, .int (nI j))]) dX6_neighbours_45 (by decide) rfl ?_
      refine xi_iconst (v := 0) dX6_neighbours_47 (by decide) ?_
      refine xi_istore (lv' := [(7, .int 0), (4, .int (v4 ||| ((v3 &&& w1) &&& (v4 ^^^ (-1 : Int32))))), (6, .int ((v3 &&& w1) &&& (v4 ^^^ (-1 : Int32)))), (0, .ref a), (1, .int w1), (2, .int (nI n2)), (3, .int v3), (5, .int (nI j))]) dX6_neighbours_48 (by decide) rfl ?_
      refine xi_sub (lv' := [(0, .ref a), (1, .int w1), (2, .int (nI n2)), (3, .int v3), (4, .int (v4 ||| ((v3 &&& w1) &&& (v4 ^^^ (-1 : Int32))))), (5, .int (nI j)), (6, .int ((v3 &&& w1) &&& (v4 ^^^ (-1 : Int32)))), (7, .int 0)]) [3, 4, 5, 6, 1, 7, 2, 0] rfl ?_
      refine LX6_neighbours_50_s G ha ka w1 n2 (by omega) ((v4 ||| ((v3 &&& w1) &&& (v4 ^^^ (-1 : Int32))))) j (by omega) (((v3 &&& w1) &&& (v4 ^^^ (-1 : Int32)))) Q _ (fun u3 hq => ?_) (Na.1 - 0) 0 v3 rfl (by omega) hq
      refine xi_iinc (v := (nI (j + 1))) (lv' := [(5, .int (nI (j + 1))), (0, .ref a), (1, .int w1), (2, .int (nI n2)), (3, .int u3), (4, .int (v4 ||| ((v3 &&& w1) &&& (v4 ^^^ (-1 : Int32)))))]) 5 dX6_neighbours_85 rfl (nI_1 _) (by decide) rfl ?_
      refine xi_goto (tgt := 13) dX6_neighbours_88 (by decide) ?_
      refine xi_sub (lv' := [(0, .ref a), (1, .int w1), (2, .int (nI n2)), (3, .int u3), (4, .int (v4 ||| ((v3 &&& w1) &&& (v4 ^^^ (-1 : Int32))))), (5, .int (nI (j + 1)))]) [1, 2, 3, 4, 5, 0] rfl ?_
      exact ih (j + 1) u3 ((v4 ||| ((v3 &&& w1) &&& (v4 ^^^ (-1 : Int32))))) (by omega) (by omega) hq
    · rw [if_pos c1] at hq
      refine xi_goto (tgt := 91) dX6_neighbours_37 (by decide) ?_
      refine xi_sub (lv' := [(1, .int w1), (2, .int (nI n2)), (3, .int v3)]) [2, 3, 4] rfl ?_
      exact HE v3 v4 hq
def FX6_neighbours (Na : NV) (ah : Int32) (p : Nat) : Int32 := (LX6_neighbours_13 Na ah p (fun u4 u5 => ((u4 &&& (ah ^^^ (-1 : Int32))) &&& (((1 : Int32) <<< ((nI p) &&& 31)) ^^^ (-1 : Int32)))) (Na.1 - 0) 0 ((Na.2.2.1 p)) ((0 : Int32)))
set_option maxHeartbeats 4000000 in
set_option maxRecDepth 100000 in
theorem FX6_neighbours_ok (G : xG) {M : xMem} {a : Nat} {Na : NV} (ha : xnet M a Na) (ka : Na.1 ≤ 9) (ah : Int32) (p : Nat) (bp : p < 9) (Q : Int32 → Prop) (hq : Q (FX6_neighbours Na ah p)) : xC G mX6_neighbours 0 0 0 [.ref a, .int ah, .int (nI p)] M (fun v M2 => ∃ r, v = some (.int r) ∧ Q r ∧ M2 = M) := by
  unfold FX6_neighbours at hq
  refine xC.of (by decide) (Nat.le_of_ble_eq_true rfl) ?_
  show xW _ _ _ _ 0 [(0, .ref a), (1, .int ah), (2, .int (nI p))] [] _ 0 0
  refine xi_aload_n 0 dX6_neighbours_0 rfl ?_
  refine xi_get (f := 2) dX6_neighbours_1 ha.1 rfl ok_5 (by decide) w_74 rfl ?_
  refine xi_iload_n 2 dX6_neighbours_4 rfl ?_
  refine xi_iaload (v := (Na.2.2.1 p)) dX6_neighbours_5 ha.2.1 (vp_in_nI (by omega) (by decide)) (by rw [nI_clamp (by omega)]) ?_
  refine xi_istore_n (lv' := [(3, .int (Na.2.2.1 p)), (0, .ref a), (1, .int ah), (2, .int (nI p))]) dX6_neighbours_6 (by decide) rfl ?_
  refine xi_iconst (v := 0) dX6_neighbours_7 (by decide) ?_
  refine xi_istore (lv' := [(4, .int 0), (3, .int (Na.2.2.1 p)), (0, .ref a), (1, .int ah), (2, .int (nI p))]) dX6_neighbours_8 (by decide) rfl ?_
  refine xi_iconst (v := 0) dX6_neighbours_10 (by decide) ?_
  refine xi_istore (lv' := [(5, .int 0), (4, .int 0), (3, .int (Na.2.2.1 p)), (0, .ref a), (1, .int ah), (2, .int (nI p))]) dX6_neighbours_11 (by decide) rfl ?_
  refine xi_sub (lv' := [(0, .ref a), (1, .int ah), (2, .int (nI p)), (3, .int (Na.2.2.1 p)), (4, .int 0), (5, .int 0)]) [3, 4, 5, 2, 1, 0] rfl ?_
  refine LX6_neighbours_13_s G ha ka ah p (by omega) Q _ (fun u4 u5 hq => ?_) (Na.1 - 0) 0 ((Na.2.2.1 p)) ((0 : Int32)) rfl (by omega) hq
  refine xi_iload_n 2 dX6_neighbours_91 rfl ?_
  refine xi_iload_n 0 dX6_neighbours_92 rfl ?_
  refine xi_iconst (v := (-1)) dX6_neighbours_93 (by decide) ?_
  refine xi_ixor (v := (ah ^^^ (-1 : Int32))) dX6_neighbours_94 rfl ?_
  refine xi_iand (v := (u4 &&& (ah ^^^ (-1 : Int32)))) dX6_neighbours_95 rfl ?_
  refine xi_iconst (v := 1) dX6_neighbours_96 (by decide) ?_
  refine xi_iload_n 1 dX6_neighbours_97 rfl ?_
  refine xi_ishl (v := ((1 : Int32) <<< ((nI p) &&& 31))) dX6_neighbours_98 rfl ?_
  refine xi_iconst (v := (-1)) dX6_neighbours_99 (by decide) ?_
  refine xi_ixor (v := (((1 : Int32) <<< ((nI p) &&& 31)) ^^^ (-1 : Int32))) dX6_neighbours_100 rfl ?_
  refine xi_iand (v := ((u4 &&& (ah ^^^ (-1 : Int32))) &&& (((1 : Int32) <<< ((nI p) &&& 31)) ^^^ (-1 : Int32)))) dX6_neighbours_101 rfl ?_
  exact xi_iret dX6_neighbours_102 rfl rfl (Nat.le_of_ble_eq_true rfl) (Nat.le_of_ble_eq_true rfl) ⟨_, rfl, hq, rfl⟩
def FX6_aboveOf (x : Int32) (p : Int32) : Int32 := (x &&& (-((2 : Int32) <<< (p &&& 31))))
set_option maxHeartbeats 4000000 in
set_option maxRecDepth 100000 in
theorem FX6_aboveOf_ok (G : xG) {M : xMem} (x : Int32) (p : Int32) (Q : Int32 → Prop) (hq : Q (FX6_aboveOf x p)) : xC G mX6_aboveOf 0 0 0 [.int x, .int p] M (fun v M2 => ∃ r, v = some (.int r) ∧ Q r ∧ M2 = M) := by
  unfold FX6_aboveOf at hq
  refine xC.of (by decide) (Nat.le_of_ble_eq_true rfl) ?_
  show xW _ _ _ _ 0 [(0, .int x), (1, .int p)] [] _ 0 0
  refine xi_iload_n 0 dX6_aboveOf_0 rfl ?_
  refine xi_iconst (v := 2) dX6_aboveOf_1 (by decide) ?_
  refine xi_iload_n 1 dX6_aboveOf_2 rfl ?_
  refine xi_ishl (v := ((2 : Int32) <<< (p &&& 31))) dX6_aboveOf_3 rfl ?_
  refine xi_ineg dX6_aboveOf_4 rfl ?_
  refine xi_iand (v := (x &&& (-((2 : Int32) <<< (p &&& 31))))) dX6_aboveOf_5 rfl ?_
  exact xi_iret dX6_aboveOf_6 rfl rfl (Nat.le_of_ble_eq_true rfl) (Nat.le_of_ble_eq_true rfl) ⟨_, rfl, hq, rfl⟩
def LX6_newLines_13 (Na : NV) (w1 : Int32) (w3 : Int32) (K : Int32 → Int32) : Nat → Nat → Int32 → Int32
  | 0, _, v4 => K v4
  | k + 1, j, v4 => (if ((w3 >>> ((nI j) &&& 31)) &&& (1 : Int32)) = (0 : Int32) then (LX6_newLines_13 Na w1 w3 K k (j + 1) v4) else (if (FX6_aboveOf w3 ((nI j))) = (0 : Int32) then (LX6_newLines_13 Na w1 w3 K k (j + 1) v4) else (LX6_newLines_13 Na w1 w3 K k (j + 1) ((v4 + (FJ6_bitCount_0f7a4 (((FX6_aboveOf w3 ((nI j))) &&& ((FX6_neighbours Na w1 j) ^^^ (-1 : Int32))))))))))
set_option maxHeartbeats 4000000 in
set_option maxRecDepth 100000 in
theorem LX6_newLines_13_s (G : xG) {M : xMem} {a : Nat} {Na : NV} (ha : xnet M a Na) (ka : Na.1 ≤ 9) (w1 : Int32) (w3 : Int32) (Q : Int32 → Prop) (K : Int32 → Int32) (HE : ∀ (v4 : Int32), Q (K v4) → xW G mX6_newLines (xrm 1 0 0) (xQ G (fun v M2 => ∃ r, v = some (.int r) ∧ Q r ∧ M2 = M) 0 0) 74 [(4, .int v4)] [] M 0 0) :
    ∀ (k j : Nat) (v4 : Int32), Na.1 - j = k → j < 100000 → Q (LX6_newLines_13 Na w1 w3 K k j v4) → xW G mX6_newLines (xrm 1 0 0) (xQ G (fun v M2 => ∃ r, v = some (.int r) ∧ Q r ∧ M2 = M) 0 0) 13 [(0, .ref a), (1, .int w1), (3, .int w3), (4, .int v4), (5, .int (nI j))] [] M 0 0 := by
  intro k
  induction k with
  | zero =>
    intro j v4 hj hj2 hq
    rw [LX6_newLines_13] at hq
    refine xi_iload 4 dX6_newLines_13 rfl ?_
    refine xi_aload_n 0 dX6_newLines_15 rfl ?_
    refine xi_get (f := 0) dX6_newLines_16 ha.1 rfl ok_5 (by decide) w_67 rfl ?_
    refine xi_icmp_ge_t (tgt := 74) dX6_newLines_19 (by decide) (nI_le (a := Na.1) (b := j) (by omega) (by omega)) ?_
    refine xi_sub (lv' := [(4, .int v4)]) [3] rfl ?_
    exact HE v4 hq
  | succ k ih =>
    intro j v4 hj hj2 hq
    rw [LX6_newLines_13] at hq
    refine xi_iload 4 dX6_newLines_13 rfl ?_
    refine xi_aload_n 0 dX6_newLines_15 rfl ?_
    refine xi_get (f := 0) dX6_newLines_16 ha.1 rfl ok_5 (by decide) w_67 rfl ?_
    refine xi_icmp_ge_f (tgt := 74) dX6_newLines_19 (by decide) (nI_ge (a := j) (b := Na.1) (by omega) (by omega)) ?_
    refine xi_iload_n 2 dX6_newLines_22 rfl ?_
    refine xi_iload 4 dX6_newLines_23 rfl ?_
    refine xi_ishr (v := (w3 >>> ((nI j) &&& 31))) dX6_newLines_25 rfl ?_
    refine xi_iconst (v := 1) dX6_newLines_26 (by decide) ?_
    refine xi_iand (v := ((w3 >>> ((nI j) &&& 31)) &&& (1 : Int32))) dX6_newLines_27 rfl ?_
    refine xi_if_ne (tgt := 35) dX6_newLines_28 (by decide) (fun c1 => ?_) (fun c1 => ?_)
    · rw [if_neg c1] at hq
      refine xi_iload_n 2 dX6_newLines_35 rfl ?_
      refine xi_iload 4 dX6_newLines_36 rfl ?_
      refine xi_callS (as := [.int w3, .int (nI j)]) (rest := []) dX6_newLines_38 (FX6_aboveOf_ok G w3 ((nI j)) (fun r => r = FX6_aboveOf w3 ((nI j))) rfl) mkX6_aboveOf w_605 w_604 rfl rfl (Nat.le_of_ble_eq_true rfl) (Nat.le_of_ble_eq_true rfl) (Nat.le_of_ble_eq_true rfl) (Nat.le_of_ble_eq_true rfl) (Nat.le_of_ble_eq_true rfl) ?_
      intro v M2 hz
      obtain ⟨_, rfl, rfl, hM2⟩ := hz
      rw [hM2]
      show xW _ _ _ _ 41 _ [.int (FX6_aboveOf w3 ((nI j)))] M _ _
      refine xi_istore (lv' := [(6, .int (FX6_aboveOf w3 ((nI j)))), (0, .ref a), (1, .int w1), (3, .int w3), (4, .int v4), (5, .int (nI j))]) dX6_newLines_41 (by decide) rfl ?_
      refine xi_iload 0 dX6_newLines_43 rfl ?_
      refine xi_if_eq (tgt := 68) dX6_newLines_45 (by decide) (fun c2 => ?_) (fun c2 => ?_)
      · rw [if_pos c2] at hq
        refine xi_iinc (v := (nI (j + 1))) (lv' := [(5, .int (nI (j + 1))), (6, .int (FX6_aboveOf w3 ((nI j)))), (0, .ref a), (1, .int w1), (3, .int w3), (4, .int v4)]) 5 dX6_newLines_68 rfl (nI_1 _) (by decide) rfl ?_
        refine xi_goto (tgt := 13) dX6_newLines_71 (by decide) ?_
        refine xi_sub (lv' := [(0, .ref a), (1, .int w1), (3, .int w3), (4, .int v4), (5, .int (nI (j + 1)))]) [2, 3, 4, 5, 0] rfl ?_
        exact ih (j + 1) v4 (by omega) (by omega) hq
      · rw [if_neg c2] at hq
        refine xi_iload 4 dX6_newLines_48 rfl ?_
        refine xi_iload 0 dX6_newLines_50 rfl ?_
        refine xi_aload_n 1 dX6_newLines_52 rfl ?_
        refine xi_iload_n 2 dX6_newLines_53 rfl ?_
        refine xi_iload 5 dX6_newLines_54 rfl ?_
        refine xi_callS (as := [.ref a, .int w1, .int (nI j)]) (rest := [.int (FX6_aboveOf w3 ((nI j))), .int v4]) dX6_newLines_56 (FX6_neighbours_ok G ha ka w1 j (by omega) (fun r => r = FX6_neighbours Na w1 j) rfl) mkX6_neighbours w_599 w_598 rfl rfl (Nat.le_of_ble_eq_true rfl) (Nat.le_of_ble_eq_true rfl) (Nat.le_of_ble_eq_true rfl) (Nat.le_of_ble_eq_true rfl) (Nat.le_of_ble_eq_true rfl) ?_
        intro v M2 hz
        obtain ⟨_, rfl, rfl, hM2⟩ := hz
        rw [hM2]
        show xW _ _ _ _ 59 _ [.int (FX6_neighbours Na w1 j), .int (FX6_aboveOf w3 ((nI j))), .int v4] M _ _
        refine xi_iconst (v := (-1)) dX6_newLines_59 (by decide) ?_
        refine xi_ixor (v := ((FX6_neighbours Na w1 j) ^^^ (-1 : Int32))) dX6_newLines_60 rfl ?_
        refine xi_iand (v := ((FX6_aboveOf w3 ((nI j))) &&& ((FX6_neighbours Na w1 j) ^^^ (-1 : Int32)))) dX6_newLines_61 rfl ?_
        refine xi_callS (as := [.int ((FX6_aboveOf w3 ((nI j))) &&& ((FX6_neighbours Na w1 j) ^^^ (-1 : Int32)))]) (rest := [.int v4]) dX6_newLines_62 (FJ6_bitCount_0f7a4_ok G (((FX6_aboveOf w3 ((nI j))) &&& ((FX6_neighbours Na w1 j) ^^^ (-1 : Int32)))) (fun r => r = FJ6_bitCount_0f7a4 (((FX6_aboveOf w3 ((nI j))) &&& ((FX6_neighbours Na w1 j) ^^^ (-1 : Int32))))) rfl) mkJ6_bitCount_0f7a4 w_508 w_594 rfl rfl (Nat.le_of_ble_eq_true rfl) (Nat.le_of_ble_eq_true rfl) (Nat.le_of_ble_eq_true rfl) (Nat.le_of_ble_eq_true rfl) (Nat.le_of_ble_eq_true rfl) ?_
        intro v M2 hz
        obtain ⟨_, rfl, rfl, hM2⟩ := hz
        rw [hM2]
        show xW _ _ _ _ 65 _ [.int (FJ6_bitCount_0f7a4 (((FX6_aboveOf w3 ((nI j))) &&& ((FX6_neighbours Na w1 j) ^^^ (-1 : Int32))))), .int v4] M _ _
        refine xi_iadd (v := (v4 + (FJ6_bitCount_0f7a4 (((FX6_aboveOf w3 ((nI j))) &&& ((FX6_neighbours Na w1 j) ^^^ (-1 : Int32))))))) dX6_newLines_65 rfl ?_
        refine xi_istore (lv' := [(4, .int (v4 + (FJ6_bitCount_0f7a4 (((FX6_aboveOf w3 ((nI j))) &&& ((FX6_neighbours Na w1 j) ^^^ (-1 : Int32))))))), (6, .int (FX6_aboveOf w3 ((nI j)))), (0, .ref a), (1, .int w1), (3, .int w3), (5, .int (nI j))]) dX6_newLines_66 (by decide) rfl ?_
        refine xi_iinc (v := (nI (j + 1))) (lv' := [(5, .int (nI (j + 1))), (4, .int (v4 + (FJ6_bitCount_0f7a4 (((FX6_aboveOf w3 ((nI j))) &&& ((FX6_neighbours Na w1 j) ^^^ (-1 : Int32))))))), (6, .int (FX6_aboveOf w3 ((nI j)))), (0, .ref a), (1, .int w1), (3, .int w3)]) 5 dX6_newLines_68 rfl (nI_1 _) (by decide) rfl ?_
        refine xi_goto (tgt := 13) dX6_newLines_71 (by decide) ?_
        refine xi_sub (lv' := [(0, .ref a), (1, .int w1), (3, .int w3), (4, .int (v4 + (FJ6_bitCount_0f7a4 (((FX6_aboveOf w3 ((nI j))) &&& ((FX6_neighbours Na w1 j) ^^^ (-1 : Int32))))))), (5, .int (nI (j + 1)))]) [3, 4, 5, 1, 0] rfl ?_
        exact ih (j + 1) ((v4 + (FJ6_bitCount_0f7a4 (((FX6_aboveOf w3 ((nI j))) &&& ((FX6_neighbours Na w1 j) ^^^ (-1 : Int32))))))) (by omega) (by omega) hq
    · rw [if_pos c1] at hq
      refine xi_iconst (v := 0) dX6_newLines_31 (by decide) ?_
      refine xi_goto (tgt := 41) dX6_newLines_32 (by decide) ?_
      refine xi_istore (lv' := [(6, .int 0), (0, .ref a), (1, .int w1), (3, .int w3), (4, .int v4), (5, .int (nI j))]) dX6_newLines_41 (by decide) rfl ?_
      refine xi_iload 0 dX6_newLines_43 rfl ?_
      refine xi_if_eq_t (tgt := 68) dX6_newLines_45 (by decide) (by decide) ?_
      refine xi_iinc (v := (nI (j + 1))) (lv' := [(5, .int (nI (j + 1))), (6, .int 0), (0, .ref a), (1, .int w1), (3, .int w3), (4, .int v4)]) 5 dX6_newLines_68 rfl (nI_1 _) (by decide) rfl ?_
      refine xi_goto (tgt := 13) dX6_newLines_71 (by decide) ?_
      refine xi_sub (lv' := [(0, .ref a), (1, .int w1), (3, .int w3), (4, .int v4), (5, .int (nI (j + 1)))]) [2, 3, 4, 5, 0] rfl ?_
      exact ih (j + 1) v4 (by omega) (by omega) hq
def FX6_newLines (Na : NV) (ah : Int32) (p : Nat) : Int32 := (LX6_newLines_13 Na ah ((FX6_neighbours Na ah p)) (fun u3 => u3) (Na.1 - 0) 0 ((0 : Int32)))
set_option maxHeartbeats 4000000 in
set_option maxRecDepth 100000 in
theorem FX6_newLines_ok (G : xG) {M : xMem} {a : Nat} {Na : NV} (ha : xnet M a Na) (ka : Na.1 ≤ 9) (ah : Int32) (p : Nat) (bp : p < 9) (Q : Int32 → Prop) (hq : Q (FX6_newLines Na ah p)) : xC G mX6_newLines 1 0 0 [.ref a, .int ah, .int (nI p)] M (fun v M2 => ∃ r, v = some (.int r) ∧ Q r ∧ M2 = M) := by
  unfold FX6_newLines at hq
  refine xC.of (by decide) (Nat.le_of_ble_eq_true rfl) ?_
  show xW _ _ _ _ 0 [(0, .ref a), (1, .int ah), (2, .int (nI p))] [] _ 0 0
  refine xi_aload_n 0 dX6_newLines_0 rfl ?_
  refine xi_iload_n 1 dX6_newLines_1 rfl ?_
  refine xi_iload_n 2 dX6_newLines_2 rfl ?_
  refine xi_callS (as := [.ref a, .int ah, .int (nI p)]) (rest := []) dX6_newLines_3 (FX6_neighbours_ok G ha ka ah p (by omega) (fun r => r = FX6_neighbours Na ah p) rfl) mkX6_neighbours w_599 w_598 rfl rfl (Nat.le_of_ble_eq_true rfl) (Nat.le_of_ble_eq_true rfl) (Nat.le_of_ble_eq_true rfl) (Nat.le_of_ble_eq_true rfl) (Nat.le_of_ble_eq_true rfl) ?_
  intro v M2 hz
  obtain ⟨_, rfl, rfl, hM2⟩ := hz
  rw [hM2]
  show xW _ _ _ _ 6 _ [.int (FX6_neighbours Na ah p)] M _ _
  refine xi_istore_n (lv' := [(3, .int (FX6_neighbours Na ah p)), (0, .ref a), (1, .int ah), (2, .int (nI p))]) dX6_newLines_6 (by decide) rfl ?_
  refine xi_iconst (v := 0) dX6_newLines_7 (by decide) ?_
  refine xi_istore (lv' := [(4, .int 0), (3, .int (FX6_neighbours Na ah p)), (0, .ref a), (1, .int ah), (2, .int (nI p))]) dX6_newLines_8 (by decide) rfl ?_
  refine xi_iconst (v := 0) dX6_newLines_10 (by decide) ?_
  refine xi_istore (lv' := [(5, .int 0), (4, .int 0), (3, .int (FX6_neighbours Na ah p)), (0, .ref a), (1, .int ah), (2, .int (nI p))]) dX6_newLines_11 (by decide) rfl ?_
  refine xi_sub (lv' := [(0, .ref a), (1, .int ah), (3, .int (FX6_neighbours Na ah p)), (4, .int 0), (5, .int 0)]) [3, 4, 2, 1, 0] rfl ?_
  refine LX6_newLines_13_s G ha ka ah ((FX6_neighbours Na ah p)) Q _ (fun u3 hq => ?_) (Na.1 - 0) 0 ((0 : Int32)) rfl (by omega) hq
  refine xi_iload 0 dX6_newLines_74 rfl ?_
  exact xi_iret dX6_newLines_76 rfl rfl (Nat.le_of_ble_eq_true rfl) (Nat.le_of_ble_eq_true rfl) ⟨_, rfl, hq, rfl⟩
def FX6_of (Na : NV) (m : Int32) (ah : Int32) (p : Nat) : Int32 := (if m = 1 then (FX6_gateSize Na ah) else (if m = 4 then (FX6_fringeSize Na ah) else (if m = 5 then (FJ6_bitCount_0f7a4 ((FX6_neighbours Na ah p))) else (if m = 6 then (FX6_newLines Na ah p) else (FX6_cutWeight Na ah)))))
set_option maxHeartbeats 4000000 in
set_option maxRecDepth 100000 in
theorem FX6_of_ok (G : xG) {M : xMem} {a : Nat} {Na : NV} (ha : xnet M a Na) (ka : Na.1 ≤ 9) (m : Int32) (ah : Int32) (p : Nat) (bp : p < 9) (Q : Int32 → Prop) (hq : Q (FX6_of Na m ah p)) : xC G mX6_of 2 0 0 [.ref a, .int m, .int ah, .int (nI p)] M (fun v M2 => ∃ r, v = some (.int r) ∧ Q r ∧ M2 = M) := by
  unfold FX6_of at hq
  refine xC.of (by decide) (Nat.le_of_ble_eq_true rfl) ?_
  show xW _ _ _ _ 0 [(0, .ref a), (1, .int m), (2, .int ah), (3, .int (nI p))] [] _ 0 0
  refine xi_iload_n 1 dX6_of_0 rfl ?_
  by_cases c1 : m = 1
  · rw [if_pos c1] at hq
    refine xi_tableIn (off := 39) (tgt := 40) dX6_of_1 (by rw [c1]; decide) (by rw [c1]; decide) (by rw [c1]; decide) (by decide) ?_
    refine xi_aload_n 0 dX6_of_40 rfl ?_
    refine xi_iload_n 2 dX6_of_41 rfl ?_
    refine xi_callS (as := [.ref a, .int ah]) (rest := []) dX6_of_42 (FX6_gateSize_ok G ha ka ah (fun r => r = FX6_gateSize Na ah) rfl) mkX6_gateSize w_589 w_588 rfl rfl (Nat.le_of_ble_eq_true rfl) (Nat.le_of_ble_eq_true rfl) (Nat.le_of_ble_eq_true rfl) (Nat.le_of_ble_eq_true rfl) (Nat.le_of_ble_eq_true rfl) ?_
    intro v M2 hz
    obtain ⟨_, rfl, rfl, hM2⟩ := hz
    rw [hM2]
    show xW _ _ _ _ 45 _ [.int (FX6_gateSize Na ah)] M _ _
    exact xi_iret dX6_of_45 rfl rfl (Nat.le_of_ble_eq_true rfl) (Nat.le_of_ble_eq_true rfl) ⟨_, rfl, hq, rfl⟩
  rw [if_neg c1] at hq
  by_cases c2 : m = 4
  · rw [if_pos c2] at hq
    refine xi_tableIn (off := 45) (tgt := 46) dX6_of_1 (by rw [c2]; decide) (by rw [c2]; decide) (by rw [c2]; decide) (by decide) ?_
    refine xi_aload_n 0 dX6_of_46 rfl ?_
    refine xi_iload_n 2 dX6_of_47 rfl ?_
    refine xi_callS (as := [.ref a, .int ah]) (rest := []) dX6_of_48 (FX6_fringeSize_ok G ha ka ah (fun r => r = FX6_fringeSize Na ah) rfl) mkX6_fringeSize w_596 w_595 rfl rfl (Nat.le_of_ble_eq_true rfl) (Nat.le_of_ble_eq_true rfl) (Nat.le_of_ble_eq_true rfl) (Nat.le_of_ble_eq_true rfl) (Nat.le_of_ble_eq_true rfl) ?_
    intro v M2 hz
    obtain ⟨_, rfl, rfl, hM2⟩ := hz
    rw [hM2]
    show xW _ _ _ _ 51 _ [.int (FX6_fringeSize Na ah)] M _ _
    exact xi_iret dX6_of_51 rfl rfl (Nat.le_of_ble_eq_true rfl) (Nat.le_of_ble_eq_true rfl) ⟨_, rfl, hq, rfl⟩
  rw [if_neg c2] at hq
  by_cases c3 : m = 5
  · rw [if_pos c3] at hq
    refine xi_tableIn (off := 51) (tgt := 52) dX6_of_1 (by rw [c3]; decide) (by rw [c3]; decide) (by rw [c3]; decide) (by decide) ?_
    refine xi_aload_n 0 dX6_of_52 rfl ?_
    refine xi_iload_n 2 dX6_of_53 rfl ?_
    refine xi_iload_n 3 dX6_of_54 rfl ?_
    refine xi_callS (as := [.ref a, .int ah, .int (nI p)]) (rest := []) dX6_of_55 (FX6_neighbours_ok G ha ka ah p (by omega) (fun r => r = FX6_neighbours Na ah p) rfl) mkX6_neighbours w_599 w_598 rfl rfl (Nat.le_of_ble_eq_true rfl) (Nat.le_of_ble_eq_true rfl) (Nat.le_of_ble_eq_true rfl) (Nat.le_of_ble_eq_true rfl) (Nat.le_of_ble_eq_true rfl) ?_
    intro v M2 hz
    obtain ⟨_, rfl, rfl, hM2⟩ := hz
    rw [hM2]
    show xW _ _ _ _ 58 _ [.int (FX6_neighbours Na ah p)] M _ _
    refine xi_callS (as := [.int (FX6_neighbours Na ah p)]) (rest := []) dX6_of_58 (FJ6_bitCount_0f7a4_ok G ((FX6_neighbours Na ah p)) (fun r => r = FJ6_bitCount_0f7a4 ((FX6_neighbours Na ah p))) rfl) mkJ6_bitCount_0f7a4 w_508 w_594 rfl rfl (Nat.le_of_ble_eq_true rfl) (Nat.le_of_ble_eq_true rfl) (Nat.le_of_ble_eq_true rfl) (Nat.le_of_ble_eq_true rfl) (Nat.le_of_ble_eq_true rfl) ?_
    intro v M2 hz
    obtain ⟨_, rfl, rfl, hM2⟩ := hz
    rw [hM2]
    show xW _ _ _ _ 61 _ [.int (FJ6_bitCount_0f7a4 ((FX6_neighbours Na ah p)))] M _ _
    exact xi_iret dX6_of_61 rfl rfl (Nat.le_of_ble_eq_true rfl) (Nat.le_of_ble_eq_true rfl) ⟨_, rfl, hq, rfl⟩
  rw [if_neg c3] at hq
  by_cases c4 : m = 6
  · rw [if_pos c4] at hq
    refine xi_tableIn (off := 61) (tgt := 62) dX6_of_1 (by rw [c4]; decide) (by rw [c4]; decide) (by rw [c4]; decide) (by decide) ?_
    refine xi_aload_n 0 dX6_of_62 rfl ?_
    refine xi_iload_n 2 dX6_of_63 rfl ?_
    refine xi_iload_n 3 dX6_of_64 rfl ?_
    refine xi_callS (as := [.ref a, .int ah, .int (nI p)]) (rest := []) dX6_of_65 (FX6_newLines_ok G ha ka ah p (by omega) (fun r => r = FX6_newLines Na ah p) rfl) mkX6_newLines w_602 w_601 rfl rfl (Nat.le_of_ble_eq_true rfl) (Nat.le_of_ble_eq_true rfl) (Nat.le_of_ble_eq_true rfl) (Nat.le_of_ble_eq_true rfl) (Nat.le_of_ble_eq_true rfl) ?_
    intro v M2 hz
    obtain ⟨_, rfl, rfl, hM2⟩ := hz
    rw [hM2]
    show xW _ _ _ _ 68 _ [.int (FX6_newLines Na ah p)] M _ _
    exact xi_iret dX6_of_68 rfl rfl (Nat.le_of_ble_eq_true rfl) (Nat.le_of_ble_eq_true rfl) ⟨_, rfl, hq, rfl⟩
  rw [if_neg c4] at hq
  refine xi_tableAny (tgt := 69) dX6_of_1 (by decide) ?_ ?_
  · intro hlo hhi
    have tc1 : m.toInt ≠ 1 := fun e => c1 (Int32.toInt_inj.mp (by rw [e]; decide))
    have tc2 : m.toInt ≠ 4 := fun e => c2 (Int32.toInt_inj.mp (by rw [e]; decide))
    have tc3 : m.toInt ≠ 5 := fun e => c3 (Int32.toInt_inj.mp (by rw [e]; decide))
    have tc4 : m.toInt ≠ 6 := fun e => c4 (Int32.toInt_inj.mp (by rw [e]; decide))
    rcases (show m.toInt = 2 ∨ m.toInt = 3 by omega) with e | e <;> (rw [e]; decide)
  refine xi_aload_n 0 dX6_of_69 rfl ?_
  refine xi_iload_n 2 dX6_of_70 rfl ?_
  refine xi_callS (as := [.ref a, .int ah]) (rest := []) dX6_of_71 (FX6_cutWeight_ok G ha ka ah (fun r => r = FX6_cutWeight Na ah) rfl) mkX6_cutWeight w_608 w_607 rfl rfl (Nat.le_of_ble_eq_true rfl) (Nat.le_of_ble_eq_true rfl) (Nat.le_of_ble_eq_true rfl) (Nat.le_of_ble_eq_true rfl) (Nat.le_of_ble_eq_true rfl) ?_
  intro v M2 hz
  obtain ⟨_, rfl, rfl, hM2⟩ := hz
  rw [hM2]
  show xW _ _ _ _ 74 _ [.int (FX6_cutWeight Na ah)] M _ _
  exact xi_iret dX6_of_74 rfl rfl (Nat.le_of_ble_eq_true rfl) (Nat.le_of_ble_eq_true rfl) ⟨_, rfl, hq, rfl⟩
def FX6_atPlace (Na : NV) (m : Int32) (p : Nat) : Int32 := (FX6_of Na m ((FX5_aheadOf Na p)) ((Na.2.2.2.1 p).toNatClampNeg))
set_option maxHeartbeats 4000000 in
set_option maxRecDepth 100000 in
theorem FX6_atPlace_ok (G : xG) {M : xMem} {a : Nat} {Na : NV} (ha : xnet M a Na) (ka : Na.1 ≤ 9) (oa : NO Na) (m : Int32) (p : Nat) (bp : p < 9) (Q : Int32 → Prop) (hq : Q (FX6_atPlace Na m p)) : xC G mX6_atPlace 3 0 0 [.ref a, .int m, .int (nI p)] M (fun v M2 => ∃ r, v = some (.int r) ∧ Q r ∧ M2 = M) := by
  unfold FX6_atPlace at hq
  refine xC.of (by decide) (Nat.le_of_ble_eq_true rfl) ?_
  show xW _ _ _ _ 0 [(0, .ref a), (1, .int m), (2, .int (nI p))] [] _ 0 0
  refine xi_aload_n 0 dX6_atPlace_0 rfl ?_
  refine xi_iload_n 1 dX6_atPlace_1 rfl ?_
  refine xi_aload_n 0 dX6_atPlace_2 rfl ?_
  refine xi_iload_n 2 dX6_atPlace_3 rfl ?_
  refine xi_callV (as := [.int (nI p)]) (rest := [.int m, .ref a]) dX6_atPlace_4 (FX5_aheadOf_ok G ha ka oa p (by omega) (fun r => r = FX5_aheadOf Na p) rfl) mkX5_aheadOf w_629 w_630 w_628 ha.1 rfl rfl rfl rfl (Nat.le_of_ble_eq_true rfl) (Nat.le_of_ble_eq_true rfl) (Nat.le_of_ble_eq_true rfl) (Nat.le_of_ble_eq_true rfl) (Nat.le_of_ble_eq_true rfl) ?_
  intro v M2 hz
  obtain ⟨_, rfl, rfl, hM2⟩ := hz
  rw [hM2]
  show xW _ _ _ _ 7 _ [.int (FX5_aheadOf Na p), .int m, .ref a] M _ _
  refine xi_aload_n 0 dX6_atPlace_7 rfl ?_
  refine xi_get (f := 3) dX6_atPlace_8 ha.1 rfl ok_5 (by decide) w_80 rfl ?_
  refine xi_iload_n 2 dX6_atPlace_11 rfl ?_
  have o1 := (oa p (by omega)).2
  refine xi_iaload (v := (nI ((Na.2.2.2.1 p).toNatClampNeg))) dX6_atPlace_12 ha.2.2.1 (vp_in_nI (by omega) (by decide)) (by rw [nI_clamp (by omega)]; exact (oa p (by omega)).1) ?_
  refine xi_callS (as := [.ref a, .int m, .int (FX5_aheadOf Na p), .int (nI ((Na.2.2.2.1 p).toNatClampNeg))]) (rest := []) dX6_atPlace_13 (FX6_of_ok G ha ka m ((FX5_aheadOf Na p)) ((Na.2.2.2.1 p).toNatClampNeg) (by omega) (fun r => r = FX6_of Na m ((FX5_aheadOf Na p)) ((Na.2.2.2.1 p).toNatClampNeg)) rfl) mkX6_of w_586 w_632 rfl rfl (Nat.le_of_ble_eq_true rfl) (Nat.le_of_ble_eq_true rfl) (Nat.le_of_ble_eq_true rfl) (Nat.le_of_ble_eq_true rfl) (Nat.le_of_ble_eq_true rfl) ?_
  intro v M2 hz
  obtain ⟨_, rfl, rfl, hM2⟩ := hz
  rw [hM2]
  show xW _ _ _ _ 16 _ [.int (FX6_of Na m ((FX5_aheadOf Na p)) ((Na.2.2.2.1 p).toNatClampNeg))] M _ _
  exact xi_iret dX6_atPlace_16 rfl rfl (Nat.le_of_ble_eq_true rfl) (Nat.le_of_ble_eq_true rfl) ⟨_, rfl, hq, rfl⟩
def LX10_weightAt_4 (Na : NV) (n1 : Nat) (K : Int32 → Int32) : Nat → Nat → Int32 → Int32
  | 0, _, v2 => K v2
  | k + 1, j, v2 => (LX10_weightAt_4 Na n1 K k (j + 1) ((v2 + (FX5_weightOf Na n1 j))))
set_option maxHeartbeats 4000000 in
set_option maxRecDepth 100000 in
theorem LX10_weightAt_4_s (G : xG) {M : xMem} {a : Nat} {Na : NV} (ha : xnet M a Na) (ka : Na.1 ≤ 9) (n1 : Nat) (bn1 : n1 < 9) (Q : Int32 → Prop) (K : Int32 → Int32) (HE : ∀ (v2 : Int32), Q (K v2) → xW G mX10_weightAt (xrm 1 0 0) (xQ G (fun v M2 => ∃ r, v = some (.int r) ∧ Q r ∧ M2 = M) 0 0) 27 [(2, .int v2)] [] M 0 0) :
    ∀ (k j : Nat) (v2 : Int32), Na.1 - j = k → j < 100000 → Q (LX10_weightAt_4 Na n1 K k j v2) → xW G mX10_weightAt (xrm 1 0 0) (xQ G (fun v M2 => ∃ r, v = some (.int r) ∧ Q r ∧ M2 = M) 0 0) 4 [(0, .ref a), (1, .int (nI n1)), (2, .int v2), (3, .int (nI j))] [] M 0 0 := by
  intro k
  induction k with
  | zero =>
    intro j v2 hj hj2 hq
    rw [LX10_weightAt_4] at hq
    refine xi_iload_n 3 dX10_weightAt_4 rfl ?_
    refine xi_aload_n 0 dX10_weightAt_5 rfl ?_
    refine xi_get (f := 0) dX10_weightAt_6 ha.1 rfl ok_5 (by decide) w_62 rfl ?_
    refine xi_icmp_ge_t (tgt := 27) dX10_weightAt_9 (by decide) (nI_le (a := Na.1) (b := j) (by omega) (by omega)) ?_
    refine xi_sub (lv' := [(2, .int v2)]) [2] rfl ?_
    exact HE v2 hq
  | succ k ih =>
    intro j v2 hj hj2 hq
    rw [LX10_weightAt_4] at hq
    refine xi_iload_n 3 dX10_weightAt_4 rfl ?_
    refine xi_aload_n 0 dX10_weightAt_5 rfl ?_
    refine xi_get (f := 0) dX10_weightAt_6 ha.1 rfl ok_5 (by decide) w_62 rfl ?_
    refine xi_icmp_ge_f (tgt := 27) dX10_weightAt_9 (by decide) (nI_ge (a := j) (b := Na.1) (by omega) (by omega)) ?_
    refine xi_iload_n 2 dX10_weightAt_12 rfl ?_
    refine xi_aload_n 0 dX10_weightAt_13 rfl ?_
    refine xi_iload_n 1 dX10_weightAt_14 rfl ?_
    refine xi_iload_n 3 dX10_weightAt_15 rfl ?_
    refine xi_callV (as := [.int (nI n1), .int (nI j)]) (rest := [.int v2]) dX10_weightAt_16 (FX5_weightOf_ok G ha ka n1 (by omega) j (by omega) (fun r => r = FX5_weightOf Na n1 j) rfl) mkX5_weightOf w_415 w_416 w_499 ha.1 rfl rfl rfl rfl (Nat.le_of_ble_eq_true rfl) (Nat.le_of_ble_eq_true rfl) (Nat.le_of_ble_eq_true rfl) (Nat.le_of_ble_eq_true rfl) (Nat.le_of_ble_eq_true rfl) ?_
    intro v M2 hz
    obtain ⟨_, rfl, rfl, hM2⟩ := hz
    rw [hM2]
    show xW _ _ _ _ 19 _ [.int (FX5_weightOf Na n1 j), .int v2] M _ _
    refine xi_iadd (v := (v2 + (FX5_weightOf Na n1 j))) dX10_weightAt_19 rfl ?_
    refine xi_istore_n (lv' := [(2, .int (v2 + (FX5_weightOf Na n1 j))), (0, .ref a), (1, .int (nI n1)), (3, .int (nI j))]) dX10_weightAt_20 (by decide) rfl ?_
    refine xi_iinc (v := (nI (j + 1))) (lv' := [(3, .int (nI (j + 1))), (2, .int (v2 + (FX5_weightOf Na n1 j))), (0, .ref a), (1, .int (nI n1))]) 3 dX10_weightAt_21 rfl (nI_1 _) (by decide) rfl ?_
    refine xi_goto (tgt := 4) dX10_weightAt_24 (by decide) ?_
    refine xi_sub (lv' := [(0, .ref a), (1, .int (nI n1)), (2, .int (v2 + (FX5_weightOf Na n1 j))), (3, .int (nI (j + 1)))]) [2, 3, 1, 0] rfl ?_
    exact ih (j + 1) ((v2 + (FX5_weightOf Na n1 j))) (by omega) (by omega) hq
def FX10_weightAt (Na : NV) (p : Nat) : Int32 := (LX10_weightAt_4 Na p (fun u1 => u1) (Na.1 - 0) 0 ((0 : Int32)))
set_option maxHeartbeats 4000000 in
set_option maxRecDepth 100000 in
theorem FX10_weightAt_ok (G : xG) {M : xMem} {a : Nat} {Na : NV} (ha : xnet M a Na) (ka : Na.1 ≤ 9) (p : Nat) (bp : p < 9) (Q : Int32 → Prop) (hq : Q (FX10_weightAt Na p)) : xC G mX10_weightAt 1 0 0 [.ref a, .int (nI p)] M (fun v M2 => ∃ r, v = some (.int r) ∧ Q r ∧ M2 = M) := by
  unfold FX10_weightAt at hq
  refine xC.of (by decide) (Nat.le_of_ble_eq_true rfl) ?_
  show xW _ _ _ _ 0 [(0, .ref a), (1, .int (nI p))] [] _ 0 0
  refine xi_iconst (v := 0) dX10_weightAt_0 (by decide) ?_
  refine xi_istore_n (lv' := [(2, .int 0), (0, .ref a), (1, .int (nI p))]) dX10_weightAt_1 (by decide) rfl ?_
  refine xi_iconst (v := 0) dX10_weightAt_2 (by decide) ?_
  refine xi_istore_n (lv' := [(3, .int 0), (2, .int 0), (0, .ref a), (1, .int (nI p))]) dX10_weightAt_3 (by decide) rfl ?_
  refine xi_sub (lv' := [(0, .ref a), (1, .int (nI p)), (2, .int 0), (3, .int 0)]) [2, 3, 1, 0] rfl ?_
  refine LX10_weightAt_4_s G ha ka p (by omega) Q _ (fun u1 hq => ?_) (Na.1 - 0) 0 ((0 : Int32)) rfl (by omega) hq
  refine xi_iload_n 0 dX10_weightAt_27 rfl ?_
  exact xi_iret dX10_weightAt_28 rfl rfl (Nat.le_of_ble_eq_true rfl) (Nat.le_of_ble_eq_true rfl) ⟨_, rfl, hq, rfl⟩
def LX10_wholeWeight_4 (Na : NV) (K : Int32 → Int32) : Nat → Nat → Int32 → Int32
  | 0, _, v1 => K v1
  | k + 1, j, v1 => (LX10_wholeWeight_4 Na K k (j + 1) ((v1 + (FX10_weightAt Na j))))
set_option maxHeartbeats 4000000 in
set_option maxRecDepth 100000 in
theorem LX10_wholeWeight_4_s (G : xG) {M : xMem} {a : Nat} {Na : NV} (ha : xnet M a Na) (ka : Na.1 ≤ 9) (Q : Int32 → Prop) (K : Int32 → Int32) (HE : ∀ (v1 : Int32), Q (K v1) → xW G mX10_wholeWeight (xrm 2 0 0) (xQ G (fun v M2 => ∃ r, v = some (.int r) ∧ Q r ∧ M2 = M) 0 0) 26 [(1, .int v1)] [] M 0 0) :
    ∀ (k j : Nat) (v1 : Int32), Na.1 - j = k → j < 100000 → Q (LX10_wholeWeight_4 Na K k j v1) → xW G mX10_wholeWeight (xrm 2 0 0) (xQ G (fun v M2 => ∃ r, v = some (.int r) ∧ Q r ∧ M2 = M) 0 0) 4 [(0, .ref a), (1, .int v1), (2, .int (nI j))] [] M 0 0 := by
  intro k
  induction k with
  | zero =>
    intro j v1 hj hj2 hq
    rw [LX10_wholeWeight_4] at hq
    refine xi_iload_n 2 dX10_wholeWeight_4 rfl ?_
    refine xi_aload_n 0 dX10_wholeWeight_5 rfl ?_
    refine xi_get (f := 0) dX10_wholeWeight_6 ha.1 rfl ok_5 (by decide) w_62 rfl ?_
    refine xi_icmp_ge_t (tgt := 26) dX10_wholeWeight_9 (by decide) (nI_le (a := Na.1) (b := j) (by omega) (by omega)) ?_
    refine xi_sub (lv' := [(1, .int v1)]) [1] rfl ?_
    exact HE v1 hq
  | succ k ih =>
    intro j v1 hj hj2 hq
    rw [LX10_wholeWeight_4] at hq
    refine xi_iload_n 2 dX10_wholeWeight_4 rfl ?_
    refine xi_aload_n 0 dX10_wholeWeight_5 rfl ?_
    refine xi_get (f := 0) dX10_wholeWeight_6 ha.1 rfl ok_5 (by decide) w_62 rfl ?_
    refine xi_icmp_ge_f (tgt := 26) dX10_wholeWeight_9 (by decide) (nI_ge (a := j) (b := Na.1) (by omega) (by omega)) ?_
    refine xi_iload_n 1 dX10_wholeWeight_12 rfl ?_
    refine xi_aload_n 0 dX10_wholeWeight_13 rfl ?_
    refine xi_iload_n 2 dX10_wholeWeight_14 rfl ?_
    refine xi_callS (as := [.ref a, .int (nI j)]) (rest := [.int v1]) dX10_wholeWeight_15 (FX10_weightAt_ok G ha ka j (by omega) (fun r => r = FX10_weightAt Na j) rfl) mkX10_weightAt w_497 w_496 rfl rfl (Nat.le_of_ble_eq_true rfl) (Nat.le_of_ble_eq_true rfl) (Nat.le_of_ble_eq_true rfl) (Nat.le_of_ble_eq_true rfl) (Nat.le_of_ble_eq_true rfl) ?_
    intro v M2 hz
    obtain ⟨_, rfl, rfl, hM2⟩ := hz
    rw [hM2]
    show xW _ _ _ _ 18 _ [.int (FX10_weightAt Na j), .int v1] M _ _
    refine xi_iadd (v := (v1 + (FX10_weightAt Na j))) dX10_wholeWeight_18 rfl ?_
    refine xi_istore_n (lv' := [(1, .int (v1 + (FX10_weightAt Na j))), (0, .ref a), (2, .int (nI j))]) dX10_wholeWeight_19 (by decide) rfl ?_
    refine xi_iinc (v := (nI (j + 1))) (lv' := [(2, .int (nI (j + 1))), (1, .int (v1 + (FX10_weightAt Na j))), (0, .ref a)]) 2 dX10_wholeWeight_20 rfl (nI_1 _) (by decide) rfl ?_
    refine xi_goto (tgt := 4) dX10_wholeWeight_23 (by decide) ?_
    refine xi_sub (lv' := [(0, .ref a), (1, .int (v1 + (FX10_weightAt Na j))), (2, .int (nI (j + 1)))]) [2, 1, 0] rfl ?_
    exact ih (j + 1) ((v1 + (FX10_weightAt Na j))) (by omega) (by omega) hq
def FX10_wholeWeight (Na : NV) : Int32 := (LX10_wholeWeight_4 Na (fun u1 => (u1 / (2 : Int32))) (Na.1 - 0) 0 ((0 : Int32)))
set_option maxHeartbeats 4000000 in
set_option maxRecDepth 100000 in
theorem FX10_wholeWeight_ok (G : xG) {M : xMem} {a : Nat} {Na : NV} (ha : xnet M a Na) (ka : Na.1 ≤ 9) (Q : Int32 → Prop) (hq : Q (FX10_wholeWeight Na)) : xC G mX10_wholeWeight 2 0 0 [.ref a] M (fun v M2 => ∃ r, v = some (.int r) ∧ Q r ∧ M2 = M) := by
  unfold FX10_wholeWeight at hq
  refine xC.of (by decide) (Nat.le_of_ble_eq_true rfl) ?_
  show xW _ _ _ _ 0 [(0, .ref a)] [] _ 0 0
  refine xi_iconst (v := 0) dX10_wholeWeight_0 (by decide) ?_
  refine xi_istore_n (lv' := [(1, .int 0), (0, .ref a)]) dX10_wholeWeight_1 (by decide) rfl ?_
  refine xi_iconst (v := 0) dX10_wholeWeight_2 (by decide) ?_
  refine xi_istore_n (lv' := [(2, .int 0), (1, .int 0), (0, .ref a)]) dX10_wholeWeight_3 (by decide) rfl ?_
  refine xi_sub (lv' := [(0, .ref a), (1, .int 0), (2, .int 0)]) [2, 1, 0] rfl ?_
  refine LX10_wholeWeight_4_s G ha ka Q _ (fun u1 hq => ?_) (Na.1 - 0) 0 ((0 : Int32)) rfl (by omega) hq
  refine xi_iload_n 0 dX10_wholeWeight_26 rfl ?_
  refine xi_iconst (v := 2) dX10_wholeWeight_27 (by decide) ?_
  refine xi_idiv (v := (u1 / (2 : Int32))) dX10_wholeWeight_28 (by decide) rfl ?_
  exact xi_iret dX10_wholeWeight_29 rfl rfl (Nat.le_of_ble_eq_true rfl) (Nat.le_of_ble_eq_true rfl) ⟨_, rfl, hq, rfl⟩
def LX10_mostWeightAtPoint_4 (Na : NV) (K : Int32 → Int32) : Nat → Nat → Int32 → Int32
  | 0, _, v1 => K v1
  | k + 1, j, v1 => (LX10_mostWeightAtPoint_4 Na K k (j + 1) ((if v1 < (FX10_weightAt Na j) then (FX10_weightAt Na j) else v1)))
set_option maxHeartbeats 4000000 in
set_option maxRecDepth 100000 in
theorem LX10_mostWeightAtPoint_4_s (G : xG) {M : xMem} {a : Nat} {Na : NV} (ha : xnet M a Na) (ka : Na.1 ≤ 9) (Q : Int32 → Prop) (K : Int32 → Int32) (HE : ∀ (v1 : Int32), Q (K v1) → xW G mX10_mostWeightAtPoint (xrm 2 0 0) (xQ G (fun v M2 => ∃ r, v = some (.int r) ∧ Q r ∧ M2 = M) 0 0) 28 [(1, .int v1)] [] M 0 0) :
    ∀ (k j : Nat) (v1 : Int32), Na.1 - j = k → j < 100000 → Q (LX10_mostWeightAtPoint_4 Na K k j v1) → xW G mX10_mostWeightAtPoint (xrm 2 0 0) (xQ G (fun v M2 => ∃ r, v = some (.int r) ∧ Q r ∧ M2 = M) 0 0) 4 [(0, .ref a), (1, .int v1), (2, .int (nI j))] [] M 0 0 := by
  intro k
  induction k with
  | zero =>
    intro j v1 hj hj2 hq
    rw [LX10_mostWeightAtPoint_4] at hq
    refine xi_iload_n 2 dX10_mostWeightAtPoint_4 rfl ?_
    refine xi_aload_n 0 dX10_mostWeightAtPoint_5 rfl ?_
    refine xi_get (f := 0) dX10_mostWeightAtPoint_6 ha.1 rfl ok_5 (by decide) w_62 rfl ?_
    refine xi_icmp_ge_t (tgt := 28) dX10_mostWeightAtPoint_9 (by decide) (nI_le (a := Na.1) (b := j) (by omega) (by omega)) ?_
    refine xi_sub (lv' := [(1, .int v1)]) [1] rfl ?_
    exact HE v1 hq
  | succ k ih =>
    intro j v1 hj hj2 hq
    rw [LX10_mostWeightAtPoint_4] at hq
    refine xi_iload_n 2 dX10_mostWeightAtPoint_4 rfl ?_
    refine xi_aload_n 0 dX10_mostWeightAtPoint_5 rfl ?_
    refine xi_get (f := 0) dX10_mostWeightAtPoint_6 ha.1 rfl ok_5 (by decide) w_62 rfl ?_
    refine xi_icmp_ge_f (tgt := 28) dX10_mostWeightAtPoint_9 (by decide) (nI_ge (a := j) (b := Na.1) (by omega) (by omega)) ?_
    refine xi_iload_n 1 dX10_mostWeightAtPoint_12 rfl ?_
    refine xi_aload_n 0 dX10_mostWeightAtPoint_13 rfl ?_
    refine xi_iload_n 2 dX10_mostWeightAtPoint_14 rfl ?_
    refine xi_callS (as := [.ref a, .int (nI j)]) (rest := [.int v1]) dX10_mostWeightAtPoint_15 (FX10_weightAt_ok G ha ka j (by omega) (fun r => r = FX10_weightAt Na j) rfl) mkX10_weightAt w_497 w_496 rfl rfl (Nat.le_of_ble_eq_true rfl) (Nat.le_of_ble_eq_true rfl) (Nat.le_of_ble_eq_true rfl) (Nat.le_of_ble_eq_true rfl) (Nat.le_of_ble_eq_true rfl) ?_
    intro v M2 hz
    obtain ⟨_, rfl, rfl, hM2⟩ := hz
    rw [hM2]
    show xW _ _ _ _ 18 _ [.int (FX10_weightAt Na j), .int v1] M _ _
    refine xi_max (v := (if v1 < (FX10_weightAt Na j) then (FX10_weightAt Na j) else v1)) dX10_mostWeightAtPoint_18 w_513 w_37 w_3 w_mmax (Nat.le_of_ble_eq_true rfl) (Nat.le_of_ble_eq_true rfl) (Nat.le_of_ble_eq_true rfl) (Nat.le_of_ble_eq_true rfl) (Nat.le_of_ble_eq_true rfl) rfl ?_
    refine xi_istore_n (lv' := [(1, .int (if v1 < (FX10_weightAt Na j) then (FX10_weightAt Na j) else v1)), (0, .ref a), (2, .int (nI j))]) dX10_mostWeightAtPoint_21 (by decide) rfl ?_
    refine xi_iinc (v := (nI (j + 1))) (lv' := [(2, .int (nI (j + 1))), (1, .int (if v1 < (FX10_weightAt Na j) then (FX10_weightAt Na j) else v1)), (0, .ref a)]) 2 dX10_mostWeightAtPoint_22 rfl (nI_1 _) (by decide) rfl ?_
    refine xi_goto (tgt := 4) dX10_mostWeightAtPoint_25 (by decide) ?_
    refine xi_sub (lv' := [(0, .ref a), (1, .int (if v1 < (FX10_weightAt Na j) then (FX10_weightAt Na j) else v1)), (2, .int (nI (j + 1)))]) [2, 1, 0] rfl ?_
    exact ih (j + 1) ((if v1 < (FX10_weightAt Na j) then (FX10_weightAt Na j) else v1)) (by omega) (by omega) hq
def FX10_mostWeightAtPoint (Na : NV) : Int32 := (LX10_mostWeightAtPoint_4 Na (fun u1 => u1) (Na.1 - 0) 0 ((0 : Int32)))
set_option maxHeartbeats 4000000 in
set_option maxRecDepth 100000 in
theorem FX10_mostWeightAtPoint_ok (G : xG) {M : xMem} {a : Nat} {Na : NV} (ha : xnet M a Na) (ka : Na.1 ≤ 9) (Q : Int32 → Prop) (hq : Q (FX10_mostWeightAtPoint Na)) : xC G mX10_mostWeightAtPoint 2 0 0 [.ref a] M (fun v M2 => ∃ r, v = some (.int r) ∧ Q r ∧ M2 = M) := by
  unfold FX10_mostWeightAtPoint at hq
  refine xC.of (by decide) (Nat.le_of_ble_eq_true rfl) ?_
  show xW _ _ _ _ 0 [(0, .ref a)] [] _ 0 0
  refine xi_iconst (v := 0) dX10_mostWeightAtPoint_0 (by decide) ?_
  refine xi_istore_n (lv' := [(1, .int 0), (0, .ref a)]) dX10_mostWeightAtPoint_1 (by decide) rfl ?_
  refine xi_iconst (v := 0) dX10_mostWeightAtPoint_2 (by decide) ?_
  refine xi_istore_n (lv' := [(2, .int 0), (1, .int 0), (0, .ref a)]) dX10_mostWeightAtPoint_3 (by decide) rfl ?_
  refine xi_sub (lv' := [(0, .ref a), (1, .int 0), (2, .int 0)]) [2, 1, 0] rfl ?_
  refine LX10_mostWeightAtPoint_4_s G ha ka Q _ (fun u1 hq => ?_) (Na.1 - 0) 0 ((0 : Int32)) rfl (by omega) hq
  refine xi_iload_n 0 dX10_mostWeightAtPoint_28 rfl ?_
  exact xi_iret dX10_mostWeightAtPoint_29 rfl rfl (Nat.le_of_ble_eq_true rfl) (Nat.le_of_ble_eq_true rfl) ⟨_, rfl, hq, rfl⟩
def LX10_mostLinesAtPoint_4 (Na : NV) (K : Int32 → Int32) : Nat → Nat → Int32 → Int32
  | 0, _, v1 => K v1
  | k + 1, j, v1 => (LX10_mostLinesAtPoint_4 Na K k (j + 1) ((if v1 < (FX5_lineCount Na j) then (FX5_lineCount Na j) else v1)))
set_option maxHeartbeats 4000000 in
set_option maxRecDepth 100000 in
theorem LX10_mostLinesAtPoint_4_s (G : xG) {M : xMem} {a : Nat} {Na : NV} (ha : xnet M a Na) (ka : Na.1 ≤ 9) (Q : Int32 → Prop) (K : Int32 → Int32) (HE : ∀ (v1 : Int32), Q (K v1) → xW G mX10_mostLinesAtPoint (xrm 2 0 0) (xQ G (fun v M2 => ∃ r, v = some (.int r) ∧ Q r ∧ M2 = M) 0 0) 28 [(1, .int v1)] [] M 0 0) :
    ∀ (k j : Nat) (v1 : Int32), Na.1 - j = k → j < 100000 → Q (LX10_mostLinesAtPoint_4 Na K k j v1) → xW G mX10_mostLinesAtPoint (xrm 2 0 0) (xQ G (fun v M2 => ∃ r, v = some (.int r) ∧ Q r ∧ M2 = M) 0 0) 4 [(0, .ref a), (1, .int v1), (2, .int (nI j))] [] M 0 0 := by
  intro k
  induction k with
  | zero =>
    intro j v1 hj hj2 hq
    rw [LX10_mostLinesAtPoint_4] at hq
    refine xi_iload_n 2 dX10_mostLinesAtPoint_4 rfl ?_
    refine xi_aload_n 0 dX10_mostLinesAtPoint_5 rfl ?_
    refine xi_get (f := 0) dX10_mostLinesAtPoint_6 ha.1 rfl ok_5 (by decide) w_62 rfl ?_
    refine xi_icmp_ge_t (tgt := 28) dX10_mostLinesAtPoint_9 (by decide) (nI_le (a := Na.1) (b := j) (by omega) (by omega)) ?_
    refine xi_sub (lv' := [(1, .int v1)]) [1] rfl ?_
    exact HE v1 hq
  | succ k ih =>
    intro j v1 hj hj2 hq
    rw [LX10_mostLinesAtPoint_4] at hq
    refine xi_iload_n 2 dX10_mostLinesAtPoint_4 rfl ?_
    refine xi_aload_n 0 dX10_mostLinesAtPoint_5 rfl ?_
    refine xi_get (f := 0) dX10_mostLinesAtPoint_6 ha.1 rfl ok_5 (by decide) w_62 rfl ?_
    refine xi_icmp_ge_f (tgt := 28) dX10_mostLinesAtPoint_9 (by decide) (nI_ge (a := j) (b := Na.1) (by omega) (by omega)) ?_
    refine xi_iload_n 1 dX10_mostLinesAtPoint_12 rfl ?_
    refine xi_aload_n 0 dX10_mostLinesAtPoint_13 rfl ?_
    refine xi_iload_n 2 dX10_mostLinesAtPoint_14 rfl ?_
    refine xi_callV (as := [.int (nI j)]) (rest := [.int v1]) dX10_mostLinesAtPoint_15 (FX5_lineCount_ok G ha ka j (by omega) (fun r => r = FX5_lineCount Na j) rfl) mkX5_lineCount w_504 w_505 w_503 ha.1 rfl rfl rfl rfl (Nat.le_of_ble_eq_true rfl) (Nat.le_of_ble_eq_true rfl) (Nat.le_of_ble_eq_true rfl) (Nat.le_of_ble_eq_true rfl) (Nat.le_of_ble_eq_true rfl) ?_
    intro v M2 hz
    obtain ⟨_, rfl, rfl, hM2⟩ := hz
    rw [hM2]
    show xW _ _ _ _ 18 _ [.int (FX5_lineCount Na j), .int v1] M _ _
    refine xi_max (v := (if v1 < (FX5_lineCount Na j) then (FX5_lineCount Na j) else v1)) dX10_mostLinesAtPoint_18 w_513 w_37 w_3 w_mmax (Nat.le_of_ble_eq_true rfl) (Nat.le_of_ble_eq_true rfl) (Nat.le_of_ble_eq_true rfl) (Nat.le_of_ble_eq_true rfl) (Nat.le_of_ble_eq_true rfl) rfl ?_
    refine xi_istore_n (lv' := [(1, .int (if v1 < (FX5_lineCount Na j) then (FX5_lineCount Na j) else v1)), (0, .ref a), (2, .int (nI j))]) dX10_mostLinesAtPoint_21 (by decide) rfl ?_
    refine xi_iinc (v := (nI (j + 1))) (lv' := [(2, .int (nI (j + 1))), (1, .int (if v1 < (FX5_lineCount Na j) then (FX5_lineCount Na j) else v1)), (0, .ref a)]) 2 dX10_mostLinesAtPoint_22 rfl (nI_1 _) (by decide) rfl ?_
    refine xi_goto (tgt := 4) dX10_mostLinesAtPoint_25 (by decide) ?_
    refine xi_sub (lv' := [(0, .ref a), (1, .int (if v1 < (FX5_lineCount Na j) then (FX5_lineCount Na j) else v1)), (2, .int (nI (j + 1)))]) [2, 1, 0] rfl ?_
    exact ih (j + 1) ((if v1 < (FX5_lineCount Na j) then (FX5_lineCount Na j) else v1)) (by omega) (by omega) hq
def FX10_mostLinesAtPoint (Na : NV) : Int32 := (LX10_mostLinesAtPoint_4 Na (fun u1 => u1) (Na.1 - 0) 0 ((0 : Int32)))
set_option maxHeartbeats 4000000 in
set_option maxRecDepth 100000 in
theorem FX10_mostLinesAtPoint_ok (G : xG) {M : xMem} {a : Nat} {Na : NV} (ha : xnet M a Na) (ka : Na.1 ≤ 9) (Q : Int32 → Prop) (hq : Q (FX10_mostLinesAtPoint Na)) : xC G mX10_mostLinesAtPoint 2 0 0 [.ref a] M (fun v M2 => ∃ r, v = some (.int r) ∧ Q r ∧ M2 = M) := by
  unfold FX10_mostLinesAtPoint at hq
  refine xC.of (by decide) (Nat.le_of_ble_eq_true rfl) ?_
  show xW _ _ _ _ 0 [(0, .ref a)] [] _ 0 0
  refine xi_iconst (v := 0) dX10_mostLinesAtPoint_0 (by decide) ?_
  refine xi_istore_n (lv' := [(1, .int 0), (0, .ref a)]) dX10_mostLinesAtPoint_1 (by decide) rfl ?_
  refine xi_iconst (v := 0) dX10_mostLinesAtPoint_2 (by decide) ?_
  refine xi_istore_n (lv' := [(2, .int 0), (1, .int 0), (0, .ref a)]) dX10_mostLinesAtPoint_3 (by decide) rfl ?_
  refine xi_sub (lv' := [(0, .ref a), (1, .int 0), (2, .int 0)]) [2, 1, 0] rfl ?_
  refine LX10_mostLinesAtPoint_4_s G ha ka Q _ (fun u1 hq => ?_) (Na.1 - 0) 0 ((0 : Int32)) rfl (by omega) hq
  refine xi_iload_n 0 dX10_mostLinesAtPoint_28 rfl ?_
  exact xi_iret dX10_mostLinesAtPoint_29 rfl rfl (Nat.le_of_ble_eq_true rfl) (Nat.le_of_ble_eq_true rfl) ⟨_, rfl, hq, rfl⟩
def LX10_grown_4 (Na : NV) (w1 : Int32) (K : Int32 → Int32) : Nat → Nat → Int32 → Int32
  | 0, _, v2 => K v2
  | k + 1, j, v2 => (if ((w1 >>> ((nI j) &&& 31)) &&& (1 : Int32)) = (0 : Int32) then (LX10_grown_4 Na w1 K k (j + 1) v2) else (LX10_grown_4 Na w1 K k (j + 1) ((v2 ||| (Na.2.2.1 j)))))
set_option maxHeartbeats 4000000 in
set_option maxRecDepth 100000 in
theorem LX10_grown_4_s (G : xG) {M : xMem} {a : Nat} {Na : NV} (ha : xnet M a Na) (ka : Na.1 ≤ 9) (w1 : Int32) (Q : Int32 → Prop) (K : Int32 → Int32) (HE : ∀ (v2 : Int32), Q (K v2) → xW G mX10_grown (xrm 0 0 0) (xQ G (fun v M2 => ∃ r, v = some (.int r) ∧ Q r ∧ M2 = M) 0 0) 35 [(2, .int v2)] [] M 0 0) :
    ∀ (k j : Nat) (v2 : Int32), Na.1 - j = k → j < 100000 → Q (LX10_grown_4 Na w1 K k j v2) → xW G mX10_grown (xrm 0 0 0) (xQ G (fun v M2 => ∃ r, v = some (.int r) ∧ Q r ∧ M2 = M) 0 0) 4 [(0, .ref a), (1, .int w1), (2, .int v2), (3, .int (nI j))] [] M 0 0 := by
  intro k
  induction k with
  | zero =>
    intro j v2 hj hj2 hq
    rw [LX10_grown_4] at hq
    refine xi_iload_n 3 dX10_grown_4 rfl ?_
    refine xi_aload_n 0 dX10_grown_5 rfl ?_
    refine xi_get (f := 0) dX10_grown_6 ha.1 rfl ok_5 (by decide) w_62 rfl ?_
    refine xi_icmp_ge_t (tgt := 35) dX10_grown_9 (by decide) (nI_le (a := Na.1) (b := j) (by omega) (by omega)) ?_
    refine xi_sub (lv' := [(2, .int v2)]) [2] rfl ?_
    exact HE v2 hq
  | succ k ih =>
    intro j v2 hj hj2 hq
    rw [LX10_grown_4] at hq
    refine xi_iload_n 3 dX10_grown_4 rfl ?_
    refine xi_aload_n 0 dX10_grown_5 rfl ?_
    refine xi_get (f := 0) dX10_grown_6 ha.1 rfl ok_5 (by decide) w_62 rfl ?_
    refine xi_icmp_ge_f (tgt := 35) dX10_grown_9 (by decide) (nI_ge (a := j) (b := Na.1) (by omega) (by omega)) ?_
    refine xi_iload_n 1 dX10_grown_12 rfl ?_
    refine xi_iload_n 3 dX10_grown_13 rfl ?_
    refine xi_ishr (v := (w1 >>> ((nI j) &&& 31))) dX10_grown_14 rfl ?_
    refine xi_iconst (v := 1) dX10_grown_15 (by decide) ?_
    refine xi_iand (v := ((w1 >>> ((nI j) &&& 31)) &&& (1 : Int32))) dX10_grown_16 rfl ?_
    refine xi_if_eq (tgt := 29) dX10_grown_17 (by decide) (fun c1 => ?_) (fun c1 => ?_)
    · rw [if_pos c1] at hq
      refine xi_iinc (v := (nI (j + 1))) (lv' := [(3, .int (nI (j + 1))), (0, .ref a), (1, .int w1), (2, .int v2)]) 3 dX10_grown_29 rfl (nI_1 _) (by decide) rfl ?_
      refine xi_goto (tgt := 4) dX10_grown_32 (by decide) ?_
      refine xi_sub (lv' := [(0, .ref a), (1, .int w1), (2, .int v2), (3, .int (nI (j + 1)))]) [1, 2, 3, 0] rfl ?_
      exact ih (j + 1) v2 (by omega) (by omega) hq
    · rw [if_neg c1] at hq
      refine xi_iload_n 2 dX10_grown_20 rfl ?_
      refine xi_aload_n 0 dX10_grown_21 rfl ?_
      refine xi_get (f := 2) dX10_grown_22 ha.1 rfl ok_5 (by decide) w_73 rfl ?_
      refine xi_iload_n 3 dX10_grown_25 rfl ?_
      refine xi_iaload (v := (Na.2.2.1 j)) dX10_grown_26 ha.2.1 (vp_in_nI (by omega) (by decide)) (by rw [nI_clamp (by omega)]) ?_
      refine xi_ior (v := (v2 ||| (Na.2.2.1 j))) dX10_grown_27 rfl ?_
      refine xi_istore_n (lv' := [(2, .int (v2 ||| (Na.2.2.1 j))), (0, .ref a), (1, .int w1), (3, .int (nI j))]) dX10_grown_28 (by decide) rfl ?_
      refine xi_iinc (v := (nI (j + 1))) (lv' := [(3, .int (nI (j + 1))), (2, .int (v2 ||| (Na.2.2.1 j))), (0, .ref a), (1, .int w1)]) 3 dX10_grown_29 rfl (nI_1 _) (by decide) rfl ?_
      refine xi_goto (tgt := 4) dX10_grown_32 (by decide) ?_
      refine xi_sub (lv' := [(0, .ref a), (1, .int w1), (2, .int (v2 ||| (Na.2.2.1 j))), (3, .int (nI (j + 1)))]) [2, 3, 1, 0] rfl ?_
      exact ih (j + 1) ((v2 ||| (Na.2.2.1 j))) (by omega) (by omega) hq
def FX10_grown (Na : NV) (set : Int32) : Int32 := (LX10_grown_4 Na set (fun u2 => u2) (Na.1 - 0) 0 set)
set_option maxHeartbeats 4000000 in
set_option maxRecDepth 100000 in
theorem FX10_grown_ok (G : xG) {M : xMem} {a : Nat} {Na : NV} (ha : xnet M a Na) (ka : Na.1 ≤ 9) (set : Int32) (Q : Int32 → Prop) (hq : Q (FX10_grown Na set)) : xC G mX10_grown 0 0 0 [.ref a, .int set] M (fun v M2 => ∃ r, v = some (.int r) ∧ Q r ∧ M2 = M) := by
  unfold FX10_grown at hq
  refine xC.of (by decide) (Nat.le_of_ble_eq_true rfl) ?_
  show xW _ _ _ _ 0 [(0, .ref a), (1, .int set)] [] _ 0 0
  refine xi_iload_n 1 dX10_grown_0 rfl ?_
  refine xi_istore_n (lv' := [(2, .int set), (0, .ref a), (1, .int set)]) dX10_grown_1 (by decide) rfl ?_
  refine xi_iconst (v := 0) dX10_grown_2 (by decide) ?_
  refine xi_istore_n (lv' := [(3, .int 0), (2, .int set), (0, .ref a), (1, .int set)]) dX10_grown_3 (by decide) rfl ?_
  refine xi_sub (lv' := [(0, .ref a), (1, .int set), (2, .int set), (3, .int 0)]) [2, 3, 1, 0] rfl ?_
  refine LX10_grown_4_s G ha ka set Q _ (fun u2 hq => ?_) (Na.1 - 0) 0 set rfl (by omega) hq
  refine xi_iload_n 0 dX10_grown_35 rfl ?_
  exact xi_iret dX10_grown_36 rfl rfl (Nat.le_of_ble_eq_true rfl) (Nat.le_of_ble_eq_true rfl) ⟨_, rfl, hq, rfl⟩
def LX10_distance_7 (Na : NV) (w2 : Int32) (K : Int32 → Int32) : Nat → Nat → Int32 → Int32
  | 0, _, v3 => K v3
  | k + 1, j, v3 => (if ((v3 >>> (w2 &&& 31)) &&& (1 : Int32)) = (0 : Int32) then (LX10_distance_7 Na w2 K k (j + 1) ((FX10_grown Na v3))) else (nI j))
set_option maxHeartbeats 4000000 in
set_option maxRecDepth 100000 in
theorem LX10_distance_7_s (G : xG) {M : xMem} {a : Nat} {Na : NV} (ha : xnet M a Na) (ka : Na.1 ≤ 9) (w2 : Int32) (Q : Int32 → Prop) (K : Int32 → Int32) (HE : ∀ (v3 : Int32), Q (K v3) → xW G mX10_distance (xrm 1 0 0) (xQ G (fun v M2 => ∃ r, v = some (.int r) ∧ Q r ∧ M2 = M) 0 0) 39 [] [] M 0 0) :
    ∀ (k j : Nat) (v3 : Int32), Na.1 - j = k → j < 100000 → Q (LX10_distance_7 Na w2 K k j v3) → xW G mX10_distance (xrm 1 0 0) (xQ G (fun v M2 => ∃ r, v = some (.int r) ∧ Q r ∧ M2 = M) 0 0) 7 [(0, .ref a), (2, .int w2), (3, .int v3), (4, .int (nI j))] [] M 0 0 := by
  intro k
  induction k with
  | zero =>
    intro j v3 hj hj2 hq
    rw [LX10_distance_7] at hq
    refine xi_iload 3 dX10_distance_7 rfl ?_
    refine xi_aload_n 0 dX10_distance_9 rfl ?_
    refine xi_get (f := 0) dX10_distance_10 ha.1 rfl ok_5 (by decide) w_62 rfl ?_
    refine xi_icmp_ge_t (tgt := 39) dX10_distance_13 (by decide) (nI_le (a := Na.1) (b := j) (by omega) (by omega)) ?_
    refine xi_sub (lv' := []) [] rfl ?_
    exact HE v3 hq
  | succ k ih =>
    intro j v3 hj hj2 hq
    rw [LX10_distance_7] at hq
    refine xi_iload 3 dX10_distance_7 rfl ?_
    refine xi_aload_n 0 dX10_distance_9 rfl ?_
    refine xi_get (f := 0) dX10_distance_10 ha.1 rfl ok_5 (by decide) w_62 rfl ?_
    refine xi_icmp_ge_f (tgt := 39) dX10_distance_13 (by decide) (nI_ge (a := j) (b := Na.1) (by omega) (by omega)) ?_
    refine xi_iload_n 2 dX10_distance_16 rfl ?_
    refine xi_iload_n 1 dX10_distance_17 rfl ?_
    refine xi_ishr (v := (v3 >>> (w2 &&& 31))) dX10_distance_18 rfl ?_
    refine xi_iconst (v := 1) dX10_distance_19 (by decide) ?_
    refine xi_iand (v := ((v3 >>> (w2 &&& 31)) &&& (1 : Int32))) dX10_distance_20 rfl ?_
    refine xi_if_eq (tgt := 27) dX10_distance_21 (by decide) (fun c1 => ?_) (fun c1 => ?_)
    · rw [if_pos c1] at hq
      refine xi_aload_n 0 dX10_distance_27 rfl ?_
      refine xi_iload_n 2 dX10_distance_28 rfl ?_
      refine xi_callS (as := [.ref a, .int v3]) (rest := []) dX10_distance_29 (FX10_grown_ok G ha ka v3 (fun r => r = FX10_grown Na v3) rfl) mkX10_grown w_521 w_520 rfl rfl (Nat.le_of_ble_eq_true rfl) (Nat.le_of_ble_eq_true rfl) (Nat.le_of_ble_eq_true rfl) (Nat.le_of_ble_eq_true rfl) (Nat.le_of_ble_eq_true rfl) ?_
      intro v M2 hz
      obtain ⟨_, rfl, rfl, hM2⟩ := hz
      rw [hM2]
      show xW _ _ _ _ 32 _ [.int (FX10_grown Na v3)] M _ _
      refine xi_istore_n (lv' := [(3, .int (FX10_grown Na v3)), (0, .ref a), (2, .int w2), (4, .int (nI j))]) dX10_distance_32 (by decide) rfl ?_
      refine xi_iinc (v := (nI (j + 1))) (lv' := [(4, .int (nI (j + 1))), (3, .int (FX10_grown Na v3)), (0, .ref a), (2, .int w2)]) 3 dX10_distance_33 rfl (nI_1 _) (by decide) rfl ?_
      refine xi_goto (tgt := 7) dX10_distance_36 (by decide) ?_
      refine xi_sub (lv' := [(0, .ref a), (2, .int w2), (3, .int (FX10_grown Na v3)), (4, .int (nI (j + 1)))]) [2, 3, 1, 0] rfl ?_
      exact ih (j + 1) ((FX10_grown Na v3)) (by omega) (by omega) hq
    · rw [if_neg c1] at hq
      refine xi_iload 3 dX10_distance_24 rfl ?_
      exact xi_iret dX10_distance_26 rfl rfl (Nat.le_of_ble_eq_true rfl) (Nat.le_of_ble_eq_true rfl) ⟨_, rfl, hq, rfl⟩
def FX10_distance (Na : NV) (p : Int32) (q : Int32) : Int32 := (LX10_distance_7 Na q (fun u2 => (-1 : Int32)) (Na.1 - 0) 0 (((1 : Int32) <<< (p &&& 31))))
set_option maxHeartbeats 4000000 in
set_option maxRecDepth 100000 in
theorem FX10_distance_ok (G : xG) {M : xMem} {a : Nat} {Na : NV} (ha : xnet M a Na) (ka : Na.1 ≤ 9) (p : Int32) (q : Int32) (Q : Int32 → Prop) (hq : Q (FX10_distance Na p q)) : xC G mX10_distance 1 0 0 [.ref a, .int p, .int q] M (fun v M2 => ∃ r, v = some (.int r) ∧ Q r ∧ M2 = M) := by
  unfold FX10_distance at hq
  refine xC.of (by decide) (Nat.le_of_ble_eq_true rfl) ?_
  show xW _ _ _ _ 0 [(0, .ref a), (1, .int p), (2, .int q)] [] _ 0 0
  refine xi_iconst (v := 1) dX10_distance_0 (by decide) ?_
  refine xi_iload_n 1 dX10_distance_1 rfl ?_
  refine xi_ishl (v := ((1 : Int32) <<< (p &&& 31))) dX10_distance_2 rfl ?_
  refine xi_istore_n (lv' := [(3, .int ((1 : Int32) <<< (p &&& 31))), (0, .ref a), (1, .int p), (2, .int q)]) dX10_distance_3 (by decide) rfl ?_
  refine xi_iconst (v := 0) dX10_distance_4 (by decide) ?_
  refine xi_istore (lv' := [(4, .int 0), (3, .int ((1 : Int32) <<< (p &&& 31))), (0, .ref a), (1, .int p), (2, .int q)]) dX10_distance_5 (by decide) rfl ?_
  refine xi_sub (lv' := [(0, .ref a), (2, .int q), (3, .int ((1 : Int32) <<< (p &&& 31))), (4, .int 0)]) [2, 4, 1, 0] rfl ?_
  refine LX10_distance_7_s G ha ka q Q _ (fun u2 hq => ?_) (Na.1 - 0) 0 (((1 : Int32) <<< (p &&& 31))) rfl (by omega) hq
  refine xi_iconst (v := (-1)) dX10_distance_39 (by decide) ?_
  exact xi_iret dX10_distance_40 rfl rfl (Nat.le_of_ble_eq_true rfl) (Nat.le_of_ble_eq_true rfl) ⟨_, rfl, hq, rfl⟩
def LX10_partOf_6 (Na : NV) (K : Int32 → Int32) : Nat → Nat → Int32 → Int32
  | 0, _, v2 => K v2
  | k + 1, j, v2 => (LX10_partOf_6 Na K k (j + 1) ((FX10_grown Na v2)))
set_option maxHeartbeats 4000000 in
set_option maxRecDepth 100000 in
theorem LX10_partOf_6_s (G : xG) {M : xMem} {a : Nat} {Na : NV} (ha : xnet M a Na) (ka : Na.1 ≤ 9) (Q : Int32 → Prop) (K : Int32 → Int32) (HE : ∀ (v2 : Int32), Q (K v2) → xW G mX10_partOf (xrm 1 0 0) (xQ G (fun v M2 => ∃ r, v = some (.int r) ∧ Q r ∧ M2 = M) 0 0) 26 [(2, .int v2)] [] M 0 0) :
    ∀ (k j : Nat) (v2 : Int32), Na.1 - j = k → j < 100000 → Q (LX10_partOf_6 Na K k j v2) → xW G mX10_partOf (xrm 1 0 0) (xQ G (fun v M2 => ∃ r, v = some (.int r) ∧ Q r ∧ M2 = M) 0 0) 6 [(0, .ref a), (2, .int v2), (3, .int (nI j))] [] M 0 0 := by
  intro k
  induction k with
  | zero =>
    intro j v2 hj hj2 hq
    rw [LX10_partOf_6] at hq
    refine xi_iload_n 2 dX10_partOf_6 rfl ?_
    refine xi_aload_n 0 dX10_partOf_7 rfl ?_
    refine xi_get (f := 0) dX10_partOf_8 ha.1 rfl ok_5 (by decide) w_62 rfl ?_
    refine xi_icmp_ge_t (tgt := 26) dX10_partOf_11 (by decide) (nI_le (a := Na.1) (b := j) (by omega) (by omega)) ?_
    refine xi_sub (lv' := [(2, .int v2)]) [1] rfl ?_
    exact HE v2 hq
  | succ k ih =>
    intro j v2 hj hj2 hq
    rw [LX10_partOf_6] at hq
    refine xi_iload_n 2 dX10_partOf_6 rfl ?_
    refine xi_aload_n 0 dX10_partOf_7 rfl ?_
    refine xi_get (f := 0) dX10_partOf_8 ha.1 rfl ok_5 (by decide) w_62 rfl ?_
    refine xi_icmp_ge_f (tgt := 26) dX10_partOf_11 (by decide) (nI_ge (a := j) (b := Na.1) (by omega) (by omega)) ?_
    refine xi_aload_n 0 dX10_partOf_14 rfl ?_
    refine xi_iload_n 1 dX10_partOf_15 rfl ?_
    refine xi_callS (as := [.ref a, .int v2]) (rest := []) dX10_partOf_16 (FX10_grown_ok G ha ka v2 (fun r => r = FX10_grown Na v2) rfl) mkX10_grown w_521 w_520 rfl rfl (Nat.le_of_ble_eq_true rfl) (Nat.le_of_ble_eq_true rfl) (Nat.le_of_ble_eq_true rfl) (Nat.le_of_ble_eq_true rfl) (Nat.le_of_ble_eq_true rfl) ?_
    intro v M2 hz
    obtain ⟨_, rfl, rfl, hM2⟩ := hz
    rw [hM2]
    show xW _ _ _ _ 19 _ [.int (FX10_grown Na v2)] M _ _
    refine xi_istore_n (lv' := [(2, .int (FX10_grown Na v2)), (0, .ref a), (3, .int (nI j))]) dX10_partOf_19 (by decide) rfl ?_
    refine xi_iinc (v := (nI (j + 1))) (lv' := [(3, .int (nI (j + 1))), (2, .int (FX10_grown Na v2)), (0, .ref a)]) 2 dX10_partOf_20 rfl (nI_1 _) (by decide) rfl ?_
    refine xi_goto (tgt := 6) dX10_partOf_23 (by decide) ?_
    refine xi_sub (lv' := [(0, .ref a), (2, .int (FX10_grown Na v2)), (3, .int (nI (j + 1)))]) [2, 1, 0] rfl ?_
    exact ih (j + 1) ((FX10_grown Na v2)) (by omega) (by omega) hq
def FX10_partOf (Na : NV) (p : Int32) : Int32 := (LX10_partOf_6 Na (fun u1 => u1) (Na.1 - 1) 1 (((1 : Int32) <<< (p &&& 31))))
set_option maxHeartbeats 4000000 in
set_option maxRecDepth 100000 in
theorem FX10_partOf_ok (G : xG) {M : xMem} {a : Nat} {Na : NV} (ha : xnet M a Na) (ka : Na.1 ≤ 9) (p : Int32) (Q : Int32 → Prop) (hq : Q (FX10_partOf Na p)) : xC G mX10_partOf 1 0 0 [.ref a, .int p] M (fun v M2 => ∃ r, v = some (.int r) ∧ Q r ∧ M2 = M) := by
  unfold FX10_partOf at hq
  refine xC.of (by decide) (Nat.le_of_ble_eq_true rfl) ?_
  show xW _ _ _ _ 0 [(0, .ref a), (1, .int p)] [] _ 0 0
  refine xi_iconst (v := 1) dX10_partOf_0 (by decide) ?_
  refine xi_iload_n 1 dX10_partOf_1 rfl ?_
  refine xi_ishl (v := ((1 : Int32) <<< (p &&& 31))) dX10_partOf_2 rfl ?_
  refine xi_istore_n (lv' := [(2, .int ((1 : Int32) <<< (p &&& 31))), (0, .ref a), (1, .int p)]) dX10_partOf_3 (by decide) rfl ?_
  refine xi_iconst (v := 1) dX10_partOf_4 (by decide) ?_
  refine xi_istore_n (lv' := [(3, .int 1), (2, .int ((1 : Int32) <<< (p &&& 31))), (0, .ref a), (1, .int p)]) dX10_partOf_5 (by decide) rfl ?_
  refine xi_sub (lv' := [(0, .ref a), (2, .int ((1 : Int32) <<< (p &&& 31))), (3, .int 1)]) [2, 1, 0] rfl ?_
  refine LX10_partOf_6_s G ha ka Q _ (fun u1 hq => ?_) (Na.1 - 1) 1 (((1 : Int32) <<< (p &&& 31))) rfl (by omega) hq
  refine xi_iload_n 0 dX10_partOf_26 rfl ?_
  exact xi_iret dX10_partOf_27 rfl rfl (Nat.le_of_ble_eq_true rfl) (Nat.le_of_ble_eq_true rfl) ⟨_, rfl, hq, rfl⟩
def LX10_partCount_6 (Na : NV) (K : Int32 → Int32 → Int32) : Nat → Nat → Int32 → Int32 → Int32
  | 0, _, v1, v2 => K v1 v2
  | k + 1, j, v1, v2 => (if ((v2 >>> ((nI j) &&& 31)) &&& (1 : Int32)) = (0 : Int32) then (LX10_partCount_6 Na K k (j + 1) ((v1 + Int32.ofInt 1)) ((v2 ||| (FX10_partOf Na ((nI j)))))) else (LX10_partCount_6 Na K k (j + 1) v1 v2))
set_option maxHeartbeats 4000000 in
set_option maxRecDepth 100000 in
theorem LX10_partCount_6_s (G : xG) {M : xMem} {a : Nat} {Na : NV} (ha : xnet M a Na) (ka : Na.1 ≤ 9) (Q : Int32 → Prop) (K : Int32 → Int32 → Int32) (HE : ∀ (v1 : Int32) (v2 : Int32), Q (K v1 v2) → xW G mX10_partCount (xrm 2 0 0) (xQ G (fun v M2 => ∃ r, v = some (.int r) ∧ Q r ∧ M2 = M) 0 0) 39 [(1, .int v1)] [] M 0 0) :
    ∀ (k j : Nat) (v1 : Int32) (v2 : Int32), Na.1 - j = k → j < 100000 → Q (LX10_partCount_6 Na K k j v1 v2) → xW G mX10_partCount (xrm 2 0 0) (xQ G (fun v M2 => ∃ r, v = some (.int r) ∧ Q r ∧ M2 = M) 0 0) 6 [(0, .ref a), (1, .int v1), (2, .int v2), (3, .int (nI j))] [] M 0 0 := by
  intro k
  induction k with
  | zero =>
    intro j v1 v2 hj hj2 hq
    rw [LX10_partCount_6] at hq
    refine xi_iload_n 3 dX10_partCount_6 rfl ?_
    refine xi_aload_n 0 dX10_partCount_7 rfl ?_
    refine xi_get (f := 0) dX10_partCount_8 ha.1 rfl ok_5 (by decide) w_62 rfl ?_
    refine xi_icmp_ge_t (tgt := 39) dX10_partCount_11 (by decide) (nI_le (a := Na.1) (b := j) (by omega) (by omega)) ?_
    refine xi_sub (lv' := [(1, .int v1)]) [1] rfl ?_
    exact HE v1 v2 hq
  | succ k ih =>
    intro j v1 v2 hj hj2 hq
    rw [LX10_partCount_6] at hq
    refine xi_iload_n 3 dX10_partCount_6 rfl ?_
    refine xi_aload_n 0 dX10_partCount_7 rfl ?_
    refine xi_get (f := 0) dX10_partCount_8 ha.1 rfl ok_5 (by decide) w_62 rfl ?_
    refine xi_icmp_ge_f (tgt := 39) dX10_partCount_11 (by decide) (nI_ge (a := j) (b := Na.1) (by omega) (by omega)) ?_
    refine xi_iload_n 2 dX10_partCount_14 rfl ?_
    refine xi_iload_n 3 dX10_partCount_15 rfl ?_
    refine xi_ishr (v := (v2 >>> ((nI j) &&& 31))) dX10_partCount_16 rfl ?_
    refine xi_iconst (v := 1) dX10_partCount_17 (by decide) ?_
    refine xi_iand (v := ((v2 >>> ((nI j) &&& 31)) &&& (1 : Int32))) dX10_partCount_18 rfl ?_
    refine xi_if_ne (tgt := 33) dX10_partCount_19 (by decide) (fun c1 => ?_) (fun c1 => ?_)
    · rw [if_neg c1] at hq
      refine xi_iinc (v := (nI (j + 1))) (lv' := [(3, .int (nI (j + 1))), (0, .ref a), (1, .int v1), (2, .int v2)]) 3 dX10_partCount_33 rfl (nI_1 _) (by decide) rfl ?_
      refine xi_goto (tgt := 6) dX10_partCount_36 (by decide) ?_
      refine xi_sub (lv' := [(0, .ref a), (1, .int v1), (2, .int v2), (3, .int (nI (j + 1)))]) [1, 2, 3, 0] rfl ?_
      exact ih (j + 1) v1 v2 (by omega) (by omega) hq
    · rw [if_pos c1] at hq
      refine xi_iinc (v := (v1 + Int32.ofInt 1)) (lv' := [(1, .int (v1 + Int32.ofInt 1)), (0, .ref a), (2, .int v2), (3, .int (nI j))]) 1 dX10_partCount_22 rfl rfl (by decide) rfl ?_
      refine xi_iload_n 2 dX10_partCount_25 rfl ?_
      refine xi_aload_n 1 dX10_partCount_26 rfl ?_
      refine xi_iload_n 3 dX10_partCount_27 rfl ?_
      refine xi_callS (as := [.ref a, .int (nI j)]) (rest := [.int v2]) dX10_partCount_28 (FX10_partOf_ok G ha ka ((nI j)) (fun r => r = FX10_partOf Na ((nI j))) rfl) mkX10_partOf w_518 w_517 rfl rfl (Nat.le_of_ble_eq_true rfl) (Nat.le_of_ble_eq_true rfl) (Nat.le_of_ble_eq_true rfl) (Nat.le_of_ble_eq_true rfl) (Nat.le_of_ble_eq_true rfl) ?_
      intro v M2 hz
      obtain ⟨_, rfl, rfl, hM2⟩ := hz
      rw [hM2]
      show xW _ _ _ _ 31 _ [.int (FX10_partOf Na ((nI j))), .int v2] M _ _
      refine xi_ior (v := (v2 ||| (FX10_partOf Na ((nI j))))) dX10_partCount_31 rfl ?_
      refine xi_istore_n (lv' := [(2, .int (v2 ||| (FX10_partOf Na ((nI j))))), (1, .int (v1 + Int32.ofInt 1)), (0, .ref a), (3, .int (nI j))]) dX10_partCount_32 (by decide) rfl ?_
      refine xi_iinc (v := (nI (j + 1))) (lv' := [(3, .int (nI (j + 1))), (2, .int (v2 ||| (FX10_partOf Na ((nI j))))), (1, .int (v1 + Int32.ofInt 1)), (0, .ref a)]) 3 dX10_partCount_33 rfl (nI_1 _) (by decide) rfl ?_
      refine xi_goto (tgt := 6) dX10_partCount_36 (by decide) ?_
      refine xi_sub (lv' := [(0, .ref a), (1, .int (v1 + Int32.ofInt 1)), (2, .int (v2 ||| (FX10_partOf Na ((nI j))))), (3, .int (nI (j + 1)))]) [3, 2, 1, 0] rfl ?_
      exact ih (j + 1) ((v1 + Int32.ofInt 1)) ((v2 ||| (FX10_partOf Na ((nI j))))) (by omega) (by omega) hq
def FX10_partCount (Na : NV) : Int32 := (LX10_partCount_6 Na (fun u2 u3 => u2) (Na.1 - 0) 0 ((0 : Int32)) ((0 : Int32)))
set_option maxHeartbeats 4000000 in
set_option maxRecDepth 100000 in
theorem FX10_partCount_ok (G : xG) {M : xMem} {a : Nat} {Na : NV} (ha : xnet M a Na) (ka : Na.1 ≤ 9) (Q : Int32 → Prop) (hq : Q (FX10_partCount Na)) : xC G mX10_partCount 2 0 0 [.ref a] M (fun v M2 => ∃ r, v = some (.int r) ∧ Q r ∧ M2 = M) := by
  unfold FX10_partCount at hq
  refine xC.of (by decide) (Nat.le_of_ble_eq_true rfl) ?_
  show xW _ _ _ _ 0 [(0, .ref a)] [] _ 0 0
  refine xi_iconst (v := 0) dX10_partCount_0 (by decide) ?_
  refine xi_istore_n (lv' := [(1, .int 0), (0, .ref a)]) dX10_partCount_1 (by decide) rfl ?_
  refine xi_iconst (v := 0) dX10_partCount_2 (by decide) ?_
  refine xi_istore_n (lv' := [(2, .int 0), (1, .int 0), (0, .ref a)]) dX10_partCount_3 (by decide) rfl ?_
  refine xi_iconst (v := 0) dX10_partCount_4 (by decide) ?_
  refine xi_istore_n (lv' := [(3, .int 0), (2, .int 0), (1, .int 0), (0, .ref a)]) dX10_partCount_5 (by decide) rfl ?_
  refine xi_sub (lv' := [(0, .ref a), (1, .int 0), (2, .int 0), (3, .int 0)]) [3, 2, 1, 0] rfl ?_
  refine LX10_partCount_6_s G ha ka Q _ (fun u2 u3 hq => ?_) (Na.1 - 0) 0 ((0 : Int32)) ((0 : Int32)) rfl (by omega) hq
  refine xi_iload_n 0 dX10_partCount_39 rfl ?_
  exact xi_iret dX10_partCount_40 rfl rfl (Nat.le_of_ble_eq_true rfl) (Nat.le_of_ble_eq_true rfl) ⟨_, rfl, hq, rfl⟩
def LX10_diameter_14 (Na : NV) (n2 : Nat) (K : Int32 → Int32) : Nat → Nat → Int32 → Int32
  | 0, _, v1 => K v1
  | k + 1, j, v1 => (if (FX10_distance Na ((nI n2)) ((nI j))) = (-1 : Int32) then (-1 : Int32) else (LX10_diameter_14 Na n2 K k (j + 1) ((if v1 < (FX10_distance Na ((nI n2)) ((nI j))) then (FX10_distance Na ((nI n2)) ((nI j))) else v1))))
def LX10_diameter_4 (Na : NV) (K : Int32 → Int32) : Nat → Nat → Int32 → Int32
  | 0, _, v1 => K v1
  | k + 1, j, v1 => (LX10_diameter_14 Na j (fun u2 => (LX10_diameter_4 Na K k (j + 1) u2)) (j - 0) 0 v1)
set_option maxHeartbeats 4000000 in
set_option maxRecDepth 100000 in
theorem LX10_diameter_14_s (G : xG) {M : xMem} {a : Nat} {Na : NV} (ha : xnet M a Na) (ka : Na.1 ≤ 9) (n2 : Nat) (bn2 : n2 < 9) (Q : Int32 → Prop) (K : Int32 → Int32) (HE : ∀ (v1 : Int32), Q (K v1) → xW G mX10_diameter (xrm 2 0 0) (xQ G (fun v M2 => ∃ r, v = some (.int r) ∧ Q r ∧ M2 = M) 0 0) 48 [(0, .ref a), (1, .int v1), (2, .int (nI n2))] [] M 0 0) :
    ∀ (k j : Nat) (v1 : Int32), n2 - j = k → j < 100000 → Q (LX10_diameter_14 Na n2 K k j v1) → xW G mX10_diameter (xrm 2 0 0) (xQ G (fun v M2 => ∃ r, v = some (.int r) ∧ Q r ∧ M2 = M) 0 0) 14 [(0, .ref a), (1, .int v1), (2, .int (nI n2)), (3, .int (nI j))] [] M 0 0 := by
  intro k
  induction k with
  | zero =>
    intro j v1 hj hj2 hq
    rw [LX10_diameter_14] at hq
    refine xi_iload_n 3 dX10_diameter_14 rfl ?_
    refine xi_iload_n 2 dX10_diameter_15 rfl ?_
    refine xi_icmp_ge_t (tgt := 48) dX10_diameter_16 (by decide) (nI_le (a := n2) (b := j) (by omega) (by omega)) ?_
    refine xi_sub (lv' := [(0, .ref a), (1, .int v1), (2, .int (nI n2))]) [0, 1, 2] rfl ?_
    exact HE v1 hq
  | succ k ih =>
    intro j v1 hj hj2 hq
    rw [LX10_diameter_14] at hq
    refine xi_iload_n 3 dX10_diameter_14 rfl ?_
    refine xi_iload_n 2 dX10_diameter_15 rfl ?_
    refine xi_icmp_ge_f (tgt := 48) dX10_diameter_16 (by decide) (nI_ge (a := j) (b := n2) (by omega) (by omega)) ?_
    refine xi_aload_n 0 dX10_diameter_19 rfl ?_
    refine xi_iload_n 2 dX10_diameter_20 rfl ?_
    refine xi_iload_n 3 dX10_diameter_21 rfl ?_
    refine xi_callS (as := [.ref a, .int (nI n2), .int (nI j)]) (rest := []) dX10_diameter_22 (FX10_distance_ok G ha ka ((nI n2)) ((nI j)) (fun r => r = FX10_distance Na ((nI n2)) ((nI j))) rfl) mkX10_distance w_527 w_526 rfl rfl (Nat.le_of_ble_eq_true rfl) (Nat.le_of_ble_eq_true rfl) (Nat.le_of_ble_eq_true rfl) (Nat.le_of_ble_eq_true rfl) (Nat.le_of_ble_eq_true rfl) ?_
    intro v M2 hz
    obtain ⟨_, rfl, rfl, hM2⟩ := hz
    rw [hM2]
    show xW _ _ _ _ 25 _ [.int (FX10_distance Na ((nI n2)) ((nI j)))] M _ _
    refine xi_istore (lv' := [(4, .int (FX10_distance Na ((nI n2)) ((nI j)))), (0, .ref a), (1, .int v1), (2, .int (nI n2)), (3, .int (nI j))]) dX10_diameter_25 (by decide) rfl ?_
    refine xi_iload 0 dX10_diameter_27 rfl ?_
    refine xi_iconst (v := (-1)) dX10_diameter_29 (by decide) ?_
    refine xi_icmp_ne (tgt := 35) dX10_diameter_30 (by decide) (fun c1 => ?_) (fun c1 => ?_)
    · rw [if_neg c1] at hq
      refine xi_iload_n 2 dX10_diameter_35 rfl ?_
      refine xi_iload 0 dX10_diameter_36 rfl ?_
      refine xi_max (v := (if v1 < (FX10_distance Na ((nI n2)) ((nI j))) then (FX10_distance Na ((nI n2)) ((nI j))) else v1)) dX10_diameter_38 w_513 w_37 w_3 w_mmax (Nat.le_of_ble_eq_true rfl) (Nat.le_of_ble_eq_true rfl) (Nat.le_of_ble_eq_true rfl) (Nat.le_of_ble_eq_true rfl) (Nat.le_of_ble_eq_true rfl) rfl ?_
      refine xi_istore_n (lv' := [(1, .int (if v1 < (FX10_distance Na ((nI n2)) ((nI j))) then (FX10_distance Na ((nI n2)) ((nI j))) else v1)), (4, .int (FX10_distance Na ((nI n2)) ((nI j)))), (0, .ref a), (2, .int (nI n2)), (3, .int (nI j))]) dX10_diameter_41 (by decide) rfl ?_
      refine xi_iinc (v := (nI (j + 1))) (lv' := [(3, .int (nI (j + 1))), (1, .int (if v1 < (FX10_distance Na ((nI n2)) ((nI j))) then (FX10_distance Na ((nI n2)) ((nI j))) else v1)), (4, .int (FX10_distance Na ((nI n2)) ((nI j)))), (0, .ref a), (2, .int (nI n2))]) 4 dX10_diameter_42 rfl (nI_1 _) (by decide) rfl ?_
      refine xi_goto (tgt := 14) dX10_diameter_45 (by decide) ?_
      refine xi_sub (lv' := [(0, .ref a), (1, .int (if v1 < (FX10_distance Na ((nI n2)) ((nI j))) then (FX10_distance Na ((nI n2)) ((nI j))) else v1)), (2, .int (nI n2)), (3, .int (nI (j + 1)))]) [3, 1, 4, 0] rfl ?_
      exact ih (j + 1) ((if v1 < (FX10_distance Na ((nI n2)) ((nI j))) then (FX10_distance Na ((nI n2)) ((nI j))) else v1)) (by omega) (by omega) hq
    · rw [if_pos c1] at hq
      refine xi_iconst (v := (-1)) dX10_diameter_33 (by decide) ?_
      exact xi_iret dX10_diameter_34 rfl rfl (Nat.le_of_ble_eq_true rfl) (Nat.le_of_ble_eq_true rfl) ⟨_, rfl, hq, rfl⟩
set_option maxHeartbeats 4000000 in
set_option maxRecDepth 100000 in
theorem LX10_diameter_4_s (G : xG) {M : xMem} {a : Nat} {Na : NV} (ha : xnet M a Na) (ka : Na.1 ≤ 9) (Q : Int32 → Prop) (K : Int32 → Int32) (HE : ∀ (v1 : Int32), Q (K v1) → xW G mX10_diameter (xrm 2 0 0) (xQ G (fun v M2 => ∃ r, v = some (.int r) ∧ Q r ∧ M2 = M) 0 0) 54 [(1, .int v1)] [] M 0 0) :
    ∀ (k j : Nat) (v1 : Int32), Na.1 - j = k → j < 100000 → Q (LX10_diameter_4 Na K k j v1) → xW G mX10_diameter (xrm 2 0 0) (xQ G (fun v M2 => ∃ r, v = some (.int r) ∧ Q r ∧ M2 = M) 0 0) 4 [(0, .ref a), (1, .int v1), (2, .int (nI j))] [] M 0 0 := by
  intro k
  induction k with
  | zero =>
    intro j v1 hj hj2 hq
    rw [LX10_diameter_4] at hq
    refine xi_iload_n 2 dX10_diameter_4 rfl ?_
    refine xi_aload_n 0 dX10_diameter_5 rfl ?_
    refine xi_get (f := 0) dX10_diameter_6 ha.1 rfl ok_5 (by decide) w_62 rfl ?_
    refine xi_icmp_ge_t (tgt := 54) dX10_diameter_9 (by decide) (nI_le (a := Na.1) (b := j) (by omega) (by omega)) ?_
    refine xi_sub (lv' := [(1, .int v1)]) [1] rfl ?_
    exact HE v1 hq
  | succ k ih =>
    intro j v1 hj hj2 hq
    rw [LX10_diameter_4] at hq
    refine xi_iload_n 2 dX10_diameter_4 rfl ?_
    refine xi_aload_n 0 dX10_diameter_5 rfl ?_
    refine xi_get (f := 0) dX10_diameter_6 ha.1 rfl ok_5 (by decide) w_62 rfl ?_
    refine xi_icmp_ge_f (tgt := 54) dX10_diameter_9 (by decide) (nI_ge (a := j) (b := Na.1) (by omega) (by omega)) ?_
    refine xi_iconst (v := 0) dX10_diameter_12 (by decide) ?_
    refine xi_istore_n (lv' := [(3, .int 0), (0, .ref a), (1, .int v1), (2, .int (nI j))]) dX10_diameter_13 (by decide) rfl ?_
    refine xi_sub (lv' := [(0, .ref a), (1, .int v1), (2, .int (nI j)), (3, .int 0)]) [1, 2, 3, 0] rfl ?_
    refine LX10_diameter_14_s G ha ka j (by omega) Q _ (fun u2 hq => ?_) (j - 0) 0 v1 rfl (by omega) hq
    refine xi_iinc (v := (nI (j + 1))) (lv' := [(2, .int (nI (j + 1))), (0, .ref a), (1, .int u2)]) 2 dX10_diameter_48 rfl (nI_1 _) (by decide) rfl ?_
    refine xi_goto (tgt := 4) dX10_diameter_51 (by decide) ?_
    refine xi_sub (lv' := [(0, .ref a), (1, .int u2), (2, .int (nI (j + 1)))]) [1, 2, 0] rfl ?_
    exact ih (j + 1) u2 (by omega) (by omega) hq
def FX10_diameter (Na : NV) : Int32 := (LX10_diameter_4 Na (fun u3 => u3) (Na.1 - 0) 0 ((0 : Int32)))
set_option maxHeartbeats 4000000 in
set_option maxRecDepth 100000 in
theorem FX10_diameter_ok (G : xG) {M : xMem} {a : Nat} {Na : NV} (ha : xnet M a Na) (ka : Na.1 ≤ 9) (Q : Int32 → Prop) (hq : Q (FX10_diameter Na)) : xC G mX10_diameter 2 0 0 [.ref a] M (fun v M2 => ∃ r, v = some (.int r) ∧ Q r ∧ M2 = M) := by
  unfold FX10_diameter at hq
  refine xC.of (by decide) (Nat.le_of_ble_eq_true rfl) ?_
  show xW _ _ _ _ 0 [(0, .ref a)] [] _ 0 0
  refine xi_iconst (v := 0) dX10_diameter_0 (by decide) ?_
  refine xi_istore_n (lv' := [(1, .int 0), (0, .ref a)]) dX10_diameter_1 (by decide) rfl ?_
  refine xi_iconst (v := 0) dX10_diameter_2 (by decide) ?_
  refine xi_istore_n (lv' := [(2, .int 0), (1, .int 0), (0, .ref a)]) dX10_diameter_3 (by decide) rfl ?_
  refine xi_sub (lv' := [(0, .ref a), (1, .int 0), (2, .int 0)]) [2, 1, 0] rfl ?_
  refine LX10_diameter_4_s G ha ka Q _ (fun u3 hq => ?_) (Na.1 - 0) 0 ((0 : Int32)) rfl (by omega) hq
  refine xi_iload_n 0 dX10_diameter_54 rfl ?_
  exact xi_iret dX10_diameter_55 rfl rfl (Nat.le_of_ble_eq_true rfl) (Nat.le_of_ble_eq_true rfl) ⟨_, rfl, hq, rfl⟩
def LX10_fewestLines_9 (Na : NV) (w1 : Int32) (w2 : Int32) (K : Int32 → Int32 → Int32) : Nat → Nat → Int32 → Int32 → Int32
  | 0, _, v3, v4 => K v3 v4
  | k + 1, j, v3, v4 => (if ((w1 >>> ((nI j) &&& 31)) &&& (1 : Int32)) = (0 : Int32) then (LX10_fewestLines_9 Na w1 w2 K k (j + 1) v3 v4) else (if v4 ≤ (FJ6_bitCount_0f7a4 (((Na.2.2.1 j) &&& w2))) then (LX10_fewestLines_9 Na w1 w2 K k (j + 1) v3 v4) else (LX10_fewestLines_9 Na w1 w2 K k (j + 1) ((nI j)) ((FJ6_bitCount_0f7a4 (((Na.2.2.1 j) &&& w2)))))))
set_option maxHeartbeats 4000000 in
set_option maxRecDepth 100000 in
theorem LX10_fewestLines_9_s (G : xG) {M : xMem} {a : Nat} {Na : NV} (ha : xnet M a Na) (ka : Na.1 ≤ 9) (w1 : Int32) (w2 : Int32) (Q : Int32 → Prop) (K : Int32 → Int32 → Int32) (HE : ∀ (v3 : Int32) (v4 : Int32), Q (K v3 v4) → xW G mX10_fewestLines (xrm 1 0 0) (xQ G (fun v M2 => ∃ r, v = some (.int r) ∧ Q r ∧ M2 = M) 0 0) 61 [(3, .int v3)] [] M 0 0) :
    ∀ (k j : Nat) (v3 : Int32) (v4 : Int32), Na.1 - j = k → j < 100000 → Q (LX10_fewestLines_9 Na w1 w2 K k j v3 v4) → xW G mX10_fewestLines (xrm 1 0 0) (xQ G (fun v M2 => ∃ r, v = some (.int r) ∧ Q r ∧ M2 = M) 0 0) 9 [(0, .ref a), (1, .int w1), (2, .int w2), (3, .int v3), (4, .int v4), (5, .int (nI j))] [] M 0 0 := by
  intro k
  induction k with
  | zero =>
    intro j v3 v4 hj hj2 hq
    rw [LX10_fewestLines_9] at hq
    refine xi_iload 5 dX10_fewestLines_9 rfl ?_
    refine xi_aload_n 0 dX10_fewestLines_11 rfl ?_
    refine xi_get (f := 0) dX10_fewestLines_12 ha.1 rfl ok_5 (by decide) w_62 rfl ?_
    refine xi_icmp_ge_t (tgt := 61) dX10_fewestLines_15 (by decide) (nI_le (a := Na.1) (b := j) (by omega) (by omega)) ?_
    refine xi_sub (lv' := [(3, .int v3)]) [3] rfl ?_
    exact HE v3 v4 hq
  | succ k ih =>
    intro j v3 v4 hj hj2 hq
    rw [LX10_fewestLines_9] at hq
    refine xi_iload 5 dX10_fewestLines_9 rfl ?_
    refine xi_aload_n 0 dX10_fewestLines_11 rfl ?_
    refine xi_get (f := 0) dX10_fewestLines_12 ha.1 rfl ok_5 (by decide) w_62 rfl ?_
    refine xi_icmp_ge_f (tgt := 61) dX10_fewestLines_15 (by decide) (nI_ge (a := j) (b := Na.1) (by omega) (by omega)) ?_
    refine xi_aload_n 0 dX10_fewestLines_18 rfl ?_
    refine xi_get (f := 2) dX10_fewestLines_19 ha.1 rfl ok_5 (by decide) w_73 rfl ?_
    refine xi_iload 5 dX10_fewestLines_22 rfl ?_
    refine xi_iaload (v := (Na.2.2.1 j)) dX10_fewestLines_24 ha.2.1 (vp_in_nI (by omega) (by decide)) (by rw [nI_clamp (by omega)]) ?_
    refine xi_iload_n 2 dX10_fewestLines_25 rfl ?_
    refine xi_iand (v := ((Na.2.2.1 j) &&& w2)) dX10_fewestLines_26 rfl ?_
    refine xi_callS (as := [.int ((Na.2.2.1 j) &&& w2)]) (rest := []) dX10_fewestLines_27 (FJ6_bitCount_0f7a4_ok G (((Na.2.2.1 j) &&& w2)) (fun r => r = FJ6_bitCount_0f7a4 (((Na.2.2.1 j) &&& w2))) rfl) mkJ6_bitCount_0f7a4 w_508 w_536 rfl rfl (Nat.le_of_ble_eq_true rfl) (Nat.le_of_ble_eq_true rfl) (Nat.le_of_ble_eq_true rfl) (Nat.le_of_ble_eq_true rfl) (Nat.le_of_ble_eq_true rfl) ?_
    intro v M2 hz
    obtain ⟨_, rfl, rfl, hM2⟩ := hz
    rw [hM2]
    show xW _ _ _ _ 30 _ [.int (FJ6_bitCount_0f7a4 (((Na.2.2.1 j) &&& w2)))] M _ _
    refine xi_istore (lv' := [(6, .int (FJ6_bitCount_0f7a4 (((Na.2.2.1 j) &&& w2)))), (0, .ref a), (1, .int w1), (2, .int w2), (3, .int v3), (4, .int v4), (5, .int (nI j))]) dX10_fewestLines_30 (by decide) rfl ?_
    refine xi_iload_n 2 dX10_fewestLines_32 rfl ?_
    refine xi_iload 6 dX10_fewestLines_33 rfl ?_
    refine xi_ishr (v := (w1 >>> ((nI j) &&& 31))) dX10_fewestLines_35 rfl ?_
    refine xi_iconst (v := 1) dX10_fewestLines_36 (by decide) ?_
    refine xi_iand (v := ((w1 >>> ((nI j) &&& 31)) &&& (1 : Int32))) dX10_fewestLines_37 rfl ?_
    refine xi_if_eq (tgt := 55) dX10_fewestLines_38 (by decide) (fun c1 => ?_) (fun c1 => ?_)
    · rw [if_pos c1] at hq
      refine xi_iinc (v := (nI (j + 1))) (lv' := [(5, .int (nI (j + 1))), (6, .int (FJ6_bitCount_0f7a4 (((Na.2.2.1 j) &&& w2)))), (0, .ref a), (1, .int w1), (2, .int w2), (3, .int v3), (4, .int v4)]) 6 dX10_fewestLines_55 rfl (nI_1 _) (by decide) rfl ?_
      refine xi_goto (tgt := 9) dX10_fewestLines_58 (by decide) ?_
      refine xi_sub (lv' := [(0, .ref a), (1, .int w1), (2, .int w2), (3, .int v3), (4, .int v4), (5, .int (nI (j + 1)))]) [2, 3, 4, 5, 6, 0] rfl ?_
      exact ih (j + 1) v3 v4 (by omega) (by omega) hq
    · rw [if_neg c1] at hq
      refine xi_iload 0 dX10_fewestLines_41 rfl ?_
      refine xi_iload 5 dX10_fewestLines_43 rfl ?_
      refine xi_icmp_ge (tgt := 55) dX10_fewestLines_45 (by decide) (fun c2 => ?_) (fun c2 => ?_)
      · rw [if_pos c2] at hq
        refine xi_iinc (v := (nI (j + 1))) (lv' := [(5, .int (nI (j + 1))), (6, .int (FJ6_bitCount_0f7a4 (((Na.2.2.1 j) &&& w2)))), (0, .ref a), (1, .int w1), (2, .int w2), (3, .int v3), (4, .int v4)]) 6 dX10_fewestLines_55 rfl (nI_1 _) (by decide) rfl ?_
        refine xi_goto (tgt := 9) dX10_fewestLines_58 (by decide) ?_
        refine xi_sub (lv' := [(0, .ref a), (1, .int w1), (2, .int w2), (3, .int v3), (4, .int v4), (5, .int (nI (j + 1)))]) [2, 3, 4, 5, 6, 0] rfl ?_
        exact ih (j + 1) v3 v4 (by omega) (by omega) hq
      · rw [if_neg c2] at hq
        refine xi_iload 6 dX10_fewestLines_48 rfl ?_
        refine xi_istore_n (lv' := [(3, .int (nI j)), (6, .int (FJ6_bitCount_0f7a4 (((Na.2.2.1 j) &&& w2)))), (0, .ref a), (1, .int w1), (2, .int w2), (4, .int v4), (5, .int (nI j))]) dX10_fewestLines_50 (by decide) rfl ?_
        refine xi_iload 1 dX10_fewestLines_51 rfl ?_
        refine xi_istore (lv' := [(4, .int (FJ6_bitCount_0f7a4 (((Na.2.2.1 j) &&& w2)))), (3, .int (nI j)), (6, .int (FJ6_bitCount_0f7a4 (((Na.2.2.1 j) &&& w2)))), (0, .ref a), (1, .int w1), (2, .int w2), (5, .int (nI j))]) dX10_fewestLines_53 (by decide) rfl ?_
        refine xi_iinc (v := (nI (j + 1))) (lv' := [(5, .int (nI (j + 1))), (4, .int (FJ6_bitCount_0f7a4 (((Na.2.2.1 j) &&& w2)))), (3, .int (nI j)), (6, .int (FJ6_bitCount_0f7a4 (((Na.2.2.1 j) &&& w2)))), (0, .ref a), (1, .int w1), (2, .int w2)]) 6 dX10_fewestLines_55 rfl (nI_1 _) (by decide) rfl ?_
        refine xi_goto (tgt := 9) dX10_fewestLines_58 (by decide) ?_
        refine xi_sub (lv' := [(0, .ref a), (1, .int w1), (2, .int w2), (3, .int (nI j)), (4, .int (FJ6_bitCount_0f7a4 (((Na.2.2.1 j) &&& w2)))), (5, .int (nI (j + 1)))]) [4, 5, 6, 2, 1, 0] rfl ?_
        exact ih (j + 1) ((nI j)) ((FJ6_bitCount_0f7a4 (((Na.2.2.1 j) &&& w2)))) (by omega) (by omega) hq
def FX10_fewestLines (Na : NV) (x : Int32) (y : Int32) : Int32 := (LX10_fewestLines_9 Na x y (fun u3 u4 => u3) (Na.1 - 0) 0 ((-1 : Int32)) ((9 : Int32)))
set_option maxHeartbeats 4000000 in
set_option maxRecDepth 100000 in
theorem FX10_fewestLines_ok (G : xG) {M : xMem} {a : Nat} {Na : NV} (ha : xnet M a Na) (ka : Na.1 ≤ 9) (x : Int32) (y : Int32) (Q : Int32 → Prop) (hq : Q (FX10_fewestLines Na x y)) : xC G mX10_fewestLines 1 0 0 [.ref a, .int x, .int y] M (fun v M2 => ∃ r, v = some (.int r) ∧ Q r ∧ M2 = M) := by
  unfold FX10_fewestLines at hq
  refine xC.of (by decide) (Nat.le_of_ble_eq_true rfl) ?_
  show xW _ _ _ _ 0 [(0, .ref a), (1, .int x), (2, .int y)] [] _ 0 0
  refine xi_iconst (v := (-1)) dX10_fewestLines_0 (by decide) ?_
  refine xi_istore_n (lv' := [(3, .int (-1)), (0, .ref a), (1, .int x), (2, .int y)]) dX10_fewestLines_1 (by decide) rfl ?_
  refine xi_bipush (v := 9) dX10_fewestLines_2 (by decide) ?_
  refine xi_istore (lv' := [(4, .int 9), (3, .int (-1)), (0, .ref a), (1, .int x), (2, .int y)]) dX10_fewestLines_4 (by decide) rfl ?_
  refine xi_iconst (v := 0) dX10_fewestLines_6 (by decide) ?_
  refine xi_istore (lv' := [(5, .int 0), (4, .int 9), (3, .int (-1)), (0, .ref a), (1, .int x), (2, .int y)]) dX10_fewestLines_7 (by decide) rfl ?_
  refine xi_sub (lv' := [(0, .ref a), (1, .int x), (2, .int y), (3, .int (-1)), (4, .int 9), (5, .int 0)]) [3, 4, 5, 2, 1, 0] rfl ?_
  refine LX10_fewestLines_9_s G ha ka x y Q _ (fun u3 u4 hq => ?_) (Na.1 - 0) 0 ((-1 : Int32)) ((9 : Int32)) rfl (by omega) hq
  refine xi_iload_n 0 dX10_fewestLines_61 rfl ?_
  exact xi_iret dX10_fewestLines_62 rfl rfl (Nat.le_of_ble_eq_true rfl) (Nat.le_of_ble_eq_true rfl) ⟨_, rfl, hq, rfl⟩
def LX8_widestBand_16 (Na : NV) (n2 : Nat) (K : Int32 → Int32) : Nat → Nat → Int32 → Int32
  | 0, _, v1 => K v1
  | k + 1, j, v1 => (if (FX5_weightOf Na ((Na.2.2.2.1 n2).toNatClampNeg) ((Na.2.2.2.1 j).toNatClampNeg)) ≤ (0 : Int32) then (LX8_widestBand_16 Na n2 K k (j + 1) v1) else (LX8_widestBand_16 Na n2 K k (j + 1) ((if v1 < ((nI j) - (nI n2)) then ((nI j) - (nI n2)) else v1))))
def LX8_widestBand_4 (Na : NV) (K : Int32 → Int32) : Nat → Nat → Int32 → Int32
  | 0, _, v1 => K v1
  | k + 1, j, v1 => (LX8_widestBand_16 Na j (fun u4 => (LX8_widestBand_4 Na K k (j + 1) u4)) (Na.1 - (j + 1)) (j + 1) v1)
set_option maxHeartbeats 4000000 in
set_option maxRecDepth 100000 in
theorem LX8_widestBand_16_s (G : xG) {M : xMem} {a : Nat} {Na : NV} (ha : xnet M a Na) (ka : Na.1 ≤ 9) (oa : NO Na) (n2 : Nat) (bn2 : n2 < 9) (Q : Int32 → Prop) (K : Int32 → Int32) (HE : ∀ (v1 : Int32), Q (K v1) → xW G mX8_widestBand (xrm 1 0 0) (xQ G (fun v M2 => ∃ r, v = some (.int r) ∧ Q r ∧ M2 = M) 0 0) 57 [(0, .ref a), (1, .int v1), (2, .int (nI n2))] [] M 0 0) :
    ∀ (k j : Nat) (v1 : Int32), Na.1 - j = k → j < 100000 → Q (LX8_widestBand_16 Na n2 K k j v1) → xW G mX8_widestBand (xrm 1 0 0) (xQ G (fun v M2 => ∃ r, v = some (.int r) ∧ Q r ∧ M2 = M) 0 0) 16 [(0, .ref a), (1, .int v1), (2, .int (nI n2)), (3, .int (nI j))] [] M 0 0 := by
  intro k
  induction k with
  | zero =>
    intro j v1 hj hj2 hq
    rw [LX8_widestBand_16] at hq
    refine xi_iload_n 3 dX8_widestBand_16 rfl ?_
    refine xi_aload_n 0 dX8_widestBand_17 rfl ?_
    refine xi_get (f := 0) dX8_widestBand_18 ha.1 rfl ok_5 (by decide) w_63 rfl ?_
    refine xi_icmp_ge_t (tgt := 57) dX8_widestBand_21 (by decide) (nI_le (a := Na.1) (b := j) (by omega) (by omega)) ?_
    refine xi_sub (lv' := [(0, .ref a), (1, .int v1), (2, .int (nI n2))]) [0, 1, 2] rfl ?_
    exact HE v1 hq
  | succ k ih =>
    intro j v1 hj hj2 hq
    rw [LX8_widestBand_16] at hq
    refine xi_iload_n 3 dX8_widestBand_16 rfl ?_
    refine xi_aload_n 0 dX8_widestBand_17 rfl ?_
    refine xi_get (f := 0) dX8_widestBand_18 ha.1 rfl ok_5 (by decide) w_63 rfl ?_
    refine xi_icmp_ge_f (tgt := 57) dX8_widestBand_21 (by decide) (nI_ge (a := j) (b := Na.1) (by omega) (by omega)) ?_
    refine xi_aload_n 0 dX8_widestBand_24 rfl ?_
    refine xi_aload_n 0 dX8_widestBand_25 rfl ?_
    refine xi_get (f := 3) dX8_widestBand_26 ha.1 rfl ok_5 (by decide) w_79 rfl ?_
    refine xi_iload_n 2 dX8_widestBand_29 rfl ?_
    have o1 := (oa n2 (by omega)).2
    refine xi_iaload (v := (nI ((Na.2.2.2.1 n2).toNatClampNeg))) dX8_widestBand_30 ha.2.2.1 (vp_in_nI (by omega) (by decide)) (by rw [nI_clamp (by omega)]; exact (oa n2 (by omega)).1) ?_
    refine xi_aload_n 0 dX8_widestBand_31 rfl ?_
    refine xi_get (f := 3) dX8_widestBand_32 ha.1 rfl ok_5 (by decide) w_79 rfl ?_
    refine xi_iload_n 3 dX8_widestBand_35 rfl ?_
    have o2 := (oa j (by omega)).2
    refine xi_iaload (v := (nI ((Na.2.2.2.1 j).toNatClampNeg))) dX8_widestBand_36 ha.2.2.1 (vp_in_nI (by omega) (by decide)) (by rw [nI_clamp (by omega)]; exact (oa j (by omega)).1) ?_
    refine xi_callV (as := [.int (nI ((Na.2.2.2.1 n2).toNatClampNeg)), .int (nI ((Na.2.2.2.1 j).toNatClampNeg))]) (rest := []) dX8_widestBand_37 (FX5_weightOf_ok G ha ka ((Na.2.2.2.1 n2).toNatClampNeg) (by omega) ((Na.2.2.2.1 j).toNatClampNeg) (by omega) (fun r => r = FX5_weightOf Na ((Na.2.2.2.1 n2).toNatClampNeg) ((Na.2.2.2.1 j).toNatClampNeg)) rfl) mkX5_weightOf w_415 w_416 w_577 ha.1 rfl rfl rfl rfl (Nat.le_of_ble_eq_true rfl) (Nat.le_of_ble_eq_true rfl) (Nat.le_of_ble_eq_true rfl) (Nat.le_of_ble_eq_true rfl) (Nat.le_of_ble_eq_true rfl) ?_
    intro v M2 hz
    obtain ⟨_, rfl, rfl, hM2⟩ := hz
    rw [hM2]
    show xW _ _ _ _ 40 _ [.int (FX5_weightOf Na ((Na.2.2.2.1 n2).toNatClampNeg) ((Na.2.2.2.1 j).toNatClampNeg))] M _ _
    refine xi_if_le (tgt := 51) dX8_widestBand_40 (by decide) (fun c3 => ?_) (fun c3 => ?_)
    · rw [if_pos c3] at hq
      refine xi_iinc (v := (nI (j + 1))) (lv' := [(3, .int (nI (j + 1))), (0, .ref a), (1, .int v1), (2, .int (nI n2))]) 3 dX8_widestBand_51 rfl (nI_1 _) (by decide) rfl ?_
      refine xi_goto (tgt := 16) dX8_widestBand_54 (by decide) ?_
      refine xi_sub (lv' := [(0, .ref a), (1, .int v1), (2, .int (nI n2)), (3, .int (nI (j + 1)))]) [1, 2, 3, 0] rfl ?_
      exact ih (j + 1) v1 (by omega) (by omega) hq
    · rw [if_neg c3] at hq
      refine xi_iload_n 1 dX8_widestBand_43 rfl ?_
      refine xi_iload_n 3 dX8_widestBand_44 rfl ?_
      refine xi_iload_n 2 dX8_widestBand_45 rfl ?_
      refine xi_isub (v := ((nI j) - (nI n2))) dX8_widestBand_46 rfl ?_
      refine xi_max (v := (if v1 < ((nI j) - (nI n2)) then ((nI j) - (nI n2)) else v1)) dX8_widestBand_47 w_578 w_37 w_3 w_mmax (Nat.le_of_ble_eq_true rfl) (Nat.le_of_ble_eq_true rfl) (Nat.le_of_ble_eq_true rfl) (Nat.le_of_ble_eq_true rfl) (Nat.le_of_ble_eq_true rfl) rfl ?_
      refine xi_istore_n (lv' := [(1, .int (if v1 < ((nI j) - (nI n2)) then ((nI j) - (nI n2)) else v1)), (0, .ref a), (2, .int (nI n2)), (3, .int (nI j))]) dX8_widestBand_50 (by decide) rfl ?_
      refine xi_iinc (v := (nI (j + 1))) (lv' := [(3, .int (nI (j + 1))), (1, .int (if v1 < ((nI j) - (nI n2)) then ((nI j) - (nI n2)) else v1)), (0, .ref a), (2, .int (nI n2))]) 3 dX8_widestBand_51 rfl (nI_1 _) (by decide) rfl ?_
      refine xi_goto (tgt := 16) dX8_widestBand_54 (by decide) ?_
      refine xi_sub (lv' := [(0, .ref a), (1, .int (if v1 < ((nI j) - (nI n2)) then ((nI j) - (nI n2)) else v1)), (2, .int (nI n2)), (3, .int (nI (j + 1)))]) [2, 1, 3, 0] rfl ?_
      exact ih (j + 1) ((if v1 < ((nI j) - (nI n2)) then ((nI j) - (nI n2)) else v1)) (by omega) (by omega) hq
set_option maxHeartbeats 4000000 in
set_option maxRecDepth 100000 in
theorem LX8_widestBand_4_s (G : xG) {M : xMem} {a : Nat} {Na : NV} (ha : xnet M a Na) (ka : Na.1 ≤ 9) (oa : NO Na) (Q : Int32 → Prop) (K : Int32 → Int32) (HE : ∀ (v1 : Int32), Q (K v1) → xW G mX8_widestBand (xrm 1 0 0) (xQ G (fun v M2 => ∃ r, v = some (.int r) ∧ Q r ∧ M2 = M) 0 0) 63 [(1, .int v1)] [] M 0 0) :
    ∀ (k j : Nat) (v1 : Int32), Na.1 - j = k → j < 100000 → Q (LX8_widestBand_4 Na K k j v1) → xW G mX8_widestBand (xrm 1 0 0) (xQ G (fun v M2 => ∃ r, v = some (.int r) ∧ Q r ∧ M2 = M) 0 0) 4 [(0, .ref a), (1, .int v1), (2, .int (nI j))] [] M 0 0 := by
  intro k
  induction k with
  | zero =>
    intro j v1 hj hj2 hq
    rw [LX8_widestBand_4] at hq
    refine xi_iload_n 2 dX8_widestBand_4 rfl ?_
    refine xi_aload_n 0 dX8_widestBand_5 rfl ?_
    refine xi_get (f := 0) dX8_widestBand_6 ha.1 rfl ok_5 (by decide) w_63 rfl ?_
    refine xi_icmp_ge_t (tgt := 63) dX8_widestBand_9 (by decide) (nI_le (a := Na.1) (b := j) (by omega) (by omega)) ?_
    refine xi_sub (lv' := [(1, .int v1)]) [1] rfl ?_
    exact HE v1 hq
  | succ k ih =>
    intro j v1 hj hj2 hq
    rw [LX8_widestBand_4] at hq
    refine xi_iload_n 2 dX8_widestBand_4 rfl ?_
    refine xi_aload_n 0 dX8_widestBand_5 rfl ?_
    refine xi_get (f := 0) dX8_widestBand_6 ha.1 rfl ok_5 (by decide) w_63 rfl ?_
    refine xi_icmp_ge_f (tgt := 63) dX8_widestBand_9 (by decide) (nI_ge (a := j) (b := Na.1) (by omega) (by omega)) ?_
    refine xi_iload_n 2 dX8_widestBand_12 rfl ?_
    refine xi_iconst (v := 1) dX8_widestBand_13 (by decide) ?_
    refine xi_iadd (v := (nI (j + 1))) dX8_widestBand_14 (nI_add j 1) ?_
    refine xi_istore_n (lv' := [(3, .int (nI (j + 1))), (0, .ref a), (1, .int v1), (2, .int (nI j))]) dX8_widestBand_15 (by decide) rfl ?_
    refine xi_sub (lv' := [(0, .ref a), (1, .int v1), (2, .int (nI j)), (3, .int (nI (j + 1)))]) [1, 2, 3, 0] rfl ?_
    refine LX8_widestBand_16_s G ha ka oa j (by omega) Q _ (fun u4 hq => ?_) (Na.1 - (j + 1)) (j + 1) v1 rfl (by omega) hq
    refine xi_iinc (v := (nI (j + 1))) (lv' := [(2, .int (nI (j + 1))), (0, .ref a), (1, .int u4)]) 2 dX8_widestBand_57 rfl (nI_1 _) (by decide) rfl ?_
    refine xi_goto (tgt := 4) dX8_widestBand_60 (by decide) ?_
    refine xi_sub (lv' := [(0, .ref a), (1, .int u4), (2, .int (nI (j + 1)))]) [1, 2, 0] rfl ?_
    exact ih (j + 1) u4 (by omega) (by omega) hq
def FX8_widestBand (Na : NV) : Int32 := (LX8_widestBand_4 Na (fun u5 => u5) (Na.1 - 0) 0 ((0 : Int32)))
set_option maxHeartbeats 4000000 in
set_option maxRecDepth 100000 in
theorem FX8_widestBand_ok (G : xG) {M : xMem} {a : Nat} {Na : NV} (ha : xnet M a Na) (ka : Na.1 ≤ 9) (oa : NO Na) (Q : Int32 → Prop) (hq : Q (FX8_widestBand Na)) : xC G mX8_widestBand 1 0 0 [.ref a] M (fun v M2 => ∃ r, v = some (.int r) ∧ Q r ∧ M2 = M) := by
  unfold FX8_widestBand at hq
  refine xC.of (by decide) (Nat.le_of_ble_eq_true rfl) ?_
  show xW _ _ _ _ 0 [(0, .ref a)] [] _ 0 0
  refine xi_iconst (v := 0) dX8_widestBand_0 (by decide) ?_
  refine xi_istore_n (lv' := [(1, .int 0), (0, .ref a)]) dX8_widestBand_1 (by decide) rfl ?_
  refine xi_iconst (v := 0) dX8_widestBand_2 (by decide) ?_
  refine xi_istore_n (lv' := [(2, .int 0), (1, .int 0), (0, .ref a)]) dX8_widestBand_3 (by decide) rfl ?_
  refine xi_sub (lv' := [(0, .ref a), (1, .int 0), (2, .int 0)]) [2, 1, 0] rfl ?_
  refine LX8_widestBand_4_s G ha ka oa Q _ (fun u5 hq => ?_) (Na.1 - 0) 0 ((0 : Int32)) rfl (by omega) hq
  refine xi_iload_n 0 dX8_widestBand_63 rfl ?_
  exact xi_iret dX8_widestBand_64 rfl rfl (Nat.le_of_ble_eq_true rfl) (Nat.le_of_ble_eq_true rfl) ⟨_, rfl, hq, rfl⟩
def LX8_measured_17 (Na : NV) (w1 : Int32) (K : Int32 → Int32 → Int32) : Nat → Nat → Int32 → Int32 → Int32
  | 0, _, v2, v3 => K v2 v3
  | k + 1, j, v2, v3 => (LX8_measured_17 Na w1 K k (j + 1) ((FX6_joined w1 v2 ((FX6_of Na w1 ((FX6_aheadAtStep w1 v3 ((nI ((Na.2.2.2.1 j).toNatClampNeg))))) ((Na.2.2.2.1 j).toNatClampNeg))))) ((v3 ||| ((1 : Int32) <<< ((nI ((Na.2.2.2.1 j).toNatClampNeg)) &&& 31)))))
set_option maxHeartbeats 4000000 in
set_option maxRecDepth 100000 in
theorem LX8_measured_17_s (G : xG) {M : xMem} {a : Nat} {Na : NV} (ha : xnet M a Na) (ka : Na.1 ≤ 9) (oa : NO Na) (w1 : Int32) (Q : Int32 → Prop) (K : Int32 → Int32 → Int32) (HE : ∀ (v2 : Int32) (v3 : Int32), Q (K v2 v3) → xW G mX8_measured (xrm 3 0 0) (xQ G (fun v M2 => ∃ r, v = some (.int r) ∧ Q r ∧ M2 = M) 0 0) 72 [(2, .int v2)] [] M 0 0) :
    ∀ (k j : Nat) (v2 : Int32) (v3 : Int32), Na.1 - j = k → j < 100000 → Q (LX8_measured_17 Na w1 K k j v2 v3) → xW G mX8_measured (xrm 3 0 0) (xQ G (fun v M2 => ∃ r, v = some (.int r) ∧ Q r ∧ M2 = M) 0 0) 17 [(0, .ref a), (1, .int w1), (2, .int v2), (3, .int v3), (4, .int (nI j))] [] M 0 0 := by
  intro k
  induction k with
  | zero =>
    intro j v2 v3 hj hj2 hq
    rw [LX8_measured_17] at hq
    refine xi_iload 4 dX8_measured_17 rfl ?_
    refine xi_aload_n 0 dX8_measured_19 rfl ?_
    refine xi_get (f := 0) dX8_measured_20 ha.1 rfl ok_5 (by decide) w_63 rfl ?_
    refine xi_icmp_ge_t (tgt := 72) dX8_measured_23 (by decide) (nI_le (a := Na.1) (b := j) (by omega) (by omega)) ?_
    refine xi_sub (lv' := [(2, .int v2)]) [2] rfl ?_
    exact HE v2 v3 hq
  | succ k ih =>
    intro j v2 v3 hj hj2 hq
    rw [LX8_measured_17] at hq
    refine xi_iload 4 dX8_measured_17 rfl ?_
    refine xi_aload_n 0 dX8_measured_19 rfl ?_
    refine xi_get (f := 0) dX8_measured_20 ha.1 rfl ok_5 (by decide) w_63 rfl ?_
    refine xi_icmp_ge_f (tgt := 72) dX8_measured_23 (by decide) (nI_ge (a := j) (b := Na.1) (by omega) (by omega)) ?_
    refine xi_aload_n 0 dX8_measured_26 rfl ?_
    refine xi_get (f := 3) dX8_measured_27 ha.1 rfl ok_5 (by decide) w_79 rfl ?_
    refine xi_iload 4 dX8_measured_30 rfl ?_
    have o2 := (oa j (by omega)).2
    refine xi_iaload (v := (nI ((Na.2.2.2.1 j).toNatClampNeg))) dX8_measured_32 ha.2.2.1 (vp_in_nI (by omega) (by decide)) (by rw [nI_clamp (by omega)]; exact (oa j (by omega)).1) ?_
    refine xi_istore (lv' := [(5, .int (nI ((Na.2.2.2.1 j).toNatClampNeg))), (0, .ref a), (1, .int w1), (2, .int v2), (3, .int v3), (4, .int (nI j))]) dX8_measured_33 (by decide) rfl ?_
    refine xi_iload_n 2 dX8_measured_35 rfl ?_
    refine xi_iload_n 4 dX8_measured_36 rfl ?_
    refine xi_iload 0 dX8_measured_37 rfl ?_
    refine xi_callS (as := [.int w1, .int v3, .int (nI ((Na.2.2.2.1 j).toNatClampNeg))]) (rest := []) dX8_measured_39 (FX6_aheadAtStep_ok G w1 v3 ((nI ((Na.2.2.2.1 j).toNatClampNeg))) (fun r => r = FX6_aheadAtStep w1 v3 ((nI ((Na.2.2.2.1 j).toNatClampNeg)))) rfl) mkX6_aheadAtStep w_580 w_579 rfl rfl (Nat.le_of_ble_eq_true rfl) (Nat.le_of_ble_eq_true rfl) (Nat.le_of_ble_eq_true rfl) (Nat.le_of_ble_eq_true rfl) (Nat.le_of_ble_eq_true rfl) ?_
    intro v M2 hz
    obtain ⟨_, rfl, rfl, hM2⟩ := hz
    rw [hM2]
    show xW _ _ _ _ 42 _ [.int (FX6_aheadAtStep w1 v3 ((nI ((Na.2.2.2.1 j).toNatClampNeg))))] M _ _
    refine xi_istore (lv' := [(6, .int (FX6_aheadAtStep w1 v3 ((nI ((Na.2.2.2.1 j).toNatClampNeg))))), (5, .int (nI ((Na.2.2.2.1 j).toNatClampNeg))), (0, .ref a), (1, .int w1), (2, .int v2), (3, .int v3), (4, .int (nI j))]) dX8_measured_42 (by decide) rfl ?_
    refine xi_iload_n 3 dX8_measured_44 rfl ?_
    refine xi_iload_n 4 dX8_measured_45 rfl ?_
    refine xi_aload_n 2 dX8_measured_46 rfl ?_
    refine xi_iload_n 3 dX8_measured_47 rfl ?_
    refine xi_iload 0 dX8_measured_48 rfl ?_
    refine xi_iload 1 dX8_measured_50 rfl ?_
    refine xi_callS (as := [.ref a, .int w1, .int (FX6_aheadAtStep w1 v3 ((nI ((Na.2.2.2.1 j).toNatClampNeg)))), .int (nI ((Na.2.2.2.1 j).toNatClampNeg))]) (rest := [.int v2, .int w1]) dX8_measured_52 (FX6_of_ok G ha ka w1 ((FX6_aheadAtStep w1 v3 ((nI ((Na.2.2.2.1 j).toNatClampNeg))))) ((Na.2.2.2.1 j).toNatClampNeg) (by omega) (fun r => r = FX6_of Na w1 ((FX6_aheadAtStep w1 v3 ((nI ((Na.2.2.2.1 j).toNatClampNeg))))) ((Na.2.2.2.1 j).toNatClampNeg)) rfl) mkX6_of w_586 w_585 rfl rfl (Nat.le_of_ble_eq_true rfl) (Nat.le_of_ble_eq_true rfl) (Nat.le_of_ble_eq_true rfl) (Nat.le_of_ble_eq_true rfl) (Nat.le_of_ble_eq_true rfl) ?_
    intro v M2 hz
    obtain ⟨_, rfl, rfl, hM2⟩ := hz
    rw [hM2]
    show xW _ _ _ _ 55 _ [.int (FX6_of Na w1 ((FX6_aheadAtStep w1 v3 ((nI ((Na.2.2.2.1 j).toNatClampNeg))))) ((Na.2.2.2.1 j).toNatClampNeg)), .int v2, .int w1] M _ _
    refine xi_callS (as := [.int w1, .int v2, .int (FX6_of Na w1 ((FX6_aheadAtStep w1 v3 ((nI ((Na.2.2.2.1 j).toNatClampNeg))))) ((Na.2.2.2.1 j).toNatClampNeg))]) (rest := []) dX8_measured_55 (FX6_joined_ok G w1 v2 ((FX6_of Na w1 ((FX6_aheadAtStep w1 v3 ((nI ((Na.2.2.2.1 j).toNatClampNeg))))) ((Na.2.2.2.1 j).toNatClampNeg))) (fun r => r = FX6_joined w1 v2 ((FX6_of Na w1 ((FX6_aheadAtStep w1 v3 ((nI ((Na.2.2.2.1 j).toNatClampNeg))))) ((Na.2.2.2.1 j).toNatClampNeg)))) rfl) mkX6_joined w_612 w_611 rfl rfl (Nat.le_of_ble_eq_true rfl) (Nat.le_of_ble_eq_true rfl) (Nat.le_of_ble_eq_true rfl) (Nat.le_of_ble_eq_true rfl) (Nat.le_of_ble_eq_true rfl) ?_
    intro v M2 hz
    obtain ⟨_, rfl, rfl, hM2⟩ := hz
    rw [hM2]
    show xW _ _ _ _ 58 _ [.int (FX6_joined w1 v2 ((FX6_of Na w1 ((FX6_aheadAtStep w1 v3 ((nI ((Na.2.2.2.1 j).toNatClampNeg))))) ((Na.2.2.2.1 j).toNatClampNeg))))] M _ _
    refine xi_istore_n (lv' := [(2, .int (FX6_joined w1 v2 ((FX6_of Na w1 ((FX6_aheadAtStep w1 v3 ((nI ((Na.2.2.2.1 j).toNatClampNeg))))) ((Na.2.2.2.1 j).toNatClampNeg))))), (6, .int (FX6_aheadAtStep w1 v3 ((nI ((Na.2.2.2.1 j).toNatClampNeg))))), (5, .int (nI ((Na.2.2.2.1 j).toNatClampNeg))), (0, .ref a), (1, .int w1), (3, .int v3), (4, .int (nI j))]) dX8_measured_58 (by decide) rfl ?_
    refine xi_iload_n 5 dX8_measured_59 rfl ?_
    refine xi_iconst (v := 1) dX8_measured_60 (by decide) ?_
    refine xi_iload 2 dX8_measured_61 rfl ?_
    refine xi_ishl (v := ((1 : Int32) <<< ((nI ((Na.2.2.2.1 j).toNatClampNeg)) &&& 31))) dX8_measured_63 rfl ?_
    refine xi_ior (v := (v3 ||| ((1 : Int32) <<< ((nI ((Na.2.2.2.1 j).toNatClampNeg)) &&& 31)))) dX8_measured_64 rfl ?_
    refine xi_istore_n (lv' := [(3, .int (v3 ||| ((1 : Int32) <<< ((nI ((Na.2.2.2.1 j).toNatClampNeg)) &&& 31)))), (2, .int (FX6_joined w1 v2 ((FX6_of Na w1 ((FX6_aheadAtStep w1 v3 ((nI ((Na.2.2.2.1 j).toNatClampNeg))))) ((Na.2.2.2.1 j).toNatClampNeg))))), (6, .int (FX6_aheadAtStep w1 v3 ((nI ((Na.2.2.2.1 j).toNatClampNeg))))), (5, .int (nI ((Na.2.2.2.1 j).toNatClampNeg))), (0, .ref a), (1, .int w1), (4, .int (nI j))]) dX8_measured_65 (by decide) rfl ?_
    refine xi_iinc (v := (nI (j + 1))) (lv' := [(4, .int (nI (j + 1))), (3, .int (v3 ||| ((1 : Int32) <<< ((nI ((Na.2.2.2.1 j).toNatClampNeg)) &&& 31)))), (2, .int (FX6_joined w1 v2 ((FX6_of Na w1 ((FX6_aheadAtStep w1 v3 ((nI ((Na.2.2.2.1 j).toNatClampNeg))))) ((Na.2.2.2.1 j).toNatClampNeg))))), (6, .int (FX6_aheadAtStep w1 v3 ((nI ((Na.2.2.2.1 j).toNatClampNeg))))), (5, .int (nI ((Na.2.2.2.1 j).toNatClampNeg))), (0, .ref a), (1, .int w1)]) 6 dX8_measured_66 rfl (nI_1 _) (by decide) rfl ?_
    refine xi_goto (tgt := 17) dX8_measured_69 (by decide) ?_
    refine xi_sub (lv' := [(0, .ref a), (1, .int w1), (2, .int (FX6_joined w1 v2 ((FX6_of Na w1 ((FX6_aheadAtStep w1 v3 ((nI ((Na.2.2.2.1 j).toNatClampNeg))))) ((Na.2.2.2.1 j).toNatClampNeg))))), (3, .int (v3 ||| ((1 : Int32) <<< ((nI ((Na.2.2.2.1 j).toNatClampNeg)) &&& 31)))), (4, .int (nI (j + 1)))]) [5, 6, 2, 1, 0] rfl ?_
    exact ih (j + 1) ((FX6_joined w1 v2 ((FX6_of Na w1 ((FX6_aheadAtStep w1 v3 ((nI ((Na.2.2.2.1 j).toNatClampNeg))))) ((Na.2.2.2.1 j).toNatClampNeg))))) ((v3 ||| ((1 : Int32) <<< ((nI ((Na.2.2.2.1 j).toNatClampNeg)) &&& 31)))) (by omega) (by omega) hq
def FX8_measured (Na : NV) (m : Int32) : Int32 := (if m = (2 : Int32) then (FX8_widestBand Na) else (LX8_measured_17 Na m (fun u3 u4 => u3) (Na.1 - 0) 0 ((0 : Int32)) ((0 : Int32))))
set_option maxHeartbeats 4000000 in
set_option maxRecDepth 100000 in
theorem FX8_measured_ok (G : xG) {M : xMem} {a : Nat} {Na : NV} (ha : xnet M a Na) (ka : Na.1 ≤ 9) (oa : NO Na) (m : Int32) (Q : Int32 → Prop) (hq : Q (FX8_measured Na m)) : xC G mX8_measured 3 0 0 [.ref a, .int m] M (fun v M2 => ∃ r, v = some (.int r) ∧ Q r ∧ M2 = M) := by
  unfold FX8_measured at hq
  refine xC.of (by decide) (Nat.le_of_ble_eq_true rfl) ?_
  show xW _ _ _ _ 0 [(0, .ref a), (1, .int m)] [] _ 0 0
  refine xi_iload_n 1 dX8_measured_0 rfl ?_
  refine xi_iconst (v := 2) dX8_measured_1 (by decide) ?_
  refine xi_icmp_ne (tgt := 10) dX8_measured_2 (by decide) (fun c1 => ?_) (fun c1 => ?_)
  · rw [if_neg c1] at hq
    refine xi_iconst (v := 0) dX8_measured_10 (by decide) ?_
    refine xi_istore_n (lv' := [(2, .int 0), (0, .ref a), (1, .int m)]) dX8_measured_11 (by decide) rfl ?_
    refine xi_iconst (v := 0) dX8_measured_12 (by decide) ?_
    refine xi_istore_n (lv' := [(3, .int 0), (2, .int 0), (0, .ref a), (1, .int m)]) dX8_measured_13 (by decide) rfl ?_
    refine xi_iconst (v := 0) dX8_measured_14 (by decide) ?_
    refine xi_istore (lv' := [(4, .int 0), (3, .int 0), (2, .int 0), (0, .ref a), (1, .int m)]) dX8_measured_15 (by decide) rfl ?_
    refine xi_sub (lv' := [(0, .ref a), (1, .int m), (2, .int 0), (3, .int 0), (4, .int 0)]) [3, 4, 2, 1, 0] rfl ?_
    refine LX8_measured_17_s G ha ka oa m Q _ (fun u3 u4 hq => ?_) (Na.1 - 0) 0 ((0 : Int32)) ((0 : Int32)) rfl (by omega) hq
    refine xi_iload_n 0 dX8_measured_72 rfl ?_
    exact xi_iret dX8_measured_73 rfl rfl (Nat.le_of_ble_eq_true rfl) (Nat.le_of_ble_eq_true rfl) ⟨_, rfl, hq, rfl⟩
  · rw [if_pos c1] at hq
    refine xi_aload_n 0 dX8_measured_5 rfl ?_
    refine xi_callS (as := [.ref a]) (rest := []) dX8_measured_6 (FX8_widestBand_ok G ha ka oa (fun r => r = FX8_widestBand Na) rfl) mkX8_widestBand w_575 w_574 rfl rfl (Nat.le_of_ble_eq_true rfl) (Nat.le_of_ble_eq_true rfl) (Nat.le_of_ble_eq_true rfl) (Nat.le_of_ble_eq_true rfl) (Nat.le_of_ble_eq_true rfl) ?_
    intro v M2 hz
    obtain ⟨_, rfl, rfl, hM2⟩ := hz
    rw [hM2]
    show xW _ _ _ _ 9 _ [.int (FX8_widestBand Na)] M _ _
    exact xi_iret dX8_measured_9 rfl rfl (Nat.le_of_ble_eq_true rfl) (Nat.le_of_ble_eq_true rfl) ⟨_, rfl, hq, rfl⟩
def LX8_longestLine_19 (Na : NV) (n3 : Nat) (K : Int32 → Int32 → Int32) : Nat → Nat → Int32 → Int32 → Int32
  | 0, _, v1, v2 => K v1 v2
  | k + 1, j, v1, v2 => (if (FX5_weightOf Na n3 j) ≤ (0 : Int32) then (LX8_longestLine_19 Na n3 K k (j + 1) v1 v2) else (if (if 0 ≤ ((FX5_placeOf Na ((nI n3))) - (FX5_placeOf Na ((nI j)))) then ((FX5_placeOf Na ((nI n3))) - (FX5_placeOf Na ((nI j)))) else 0 - ((FX5_placeOf Na ((nI n3))) - (FX5_placeOf Na ((nI j))))) ≤ v2 then (LX8_longestLine_19 Na n3 K k (j + 1) v1 v2) else (LX8_longestLine_19 Na n3 K k (j + 1) ((nI ((10 * n3) + j))) ((if 0 ≤ ((FX5_placeOf Na ((nI n3))) - (FX5_placeOf Na ((nI j)))) then ((FX5_placeOf Na ((nI n3))) - (FX5_placeOf Na ((nI j)))) else 0 - ((FX5_placeOf Na ((nI n3))) - (FX5_placeOf Na ((nI j)))))))))
def LX8_longestLine_6 (Na : NV) (K : Int32 → Int32 → Int32) : Nat → Nat → Int32 → Int32 → Int32
  | 0, _, v1, v2 => K v1 v2
  | k + 1, j, v1, v2 => (LX8_longestLine_19 Na j (fun u3 u4 => (LX8_longestLine_6 Na K k (j + 1) u3 u4)) (Na.1 - (j + 1)) (j + 1) v1 v2)
set_option maxHeartbeats 4000000 in
set_option maxRecDepth 100000 in
theorem LX8_longestLine_19_s (G : xG) {M : xMem} {a : Nat} {Na : NV} (ha : xnet M a Na) (ka : Na.1 ≤ 9) (oa : NO Na) (n3 : Nat) (bn3 : n3 < 9) (Q : Int32 → Prop) (K : Int32 → Int32 → Int32) (HE : ∀ (v1 : Int32) (v2 : Int32), Q (K v1 v2) → xW G mX8_longestLine (xrm 1 0 0) (xQ G (fun v M2 => ∃ r, v = some (.int r) ∧ Q r ∧ M2 = M) 0 0) 78 [(0, .ref a), (1, .int v1), (2, .int v2), (3, .int (nI n3))] [] M 0 0) :
    ∀ (k j : Nat) (v1 : Int32) (v2 : Int32), Na.1 - j = k → j < 100000 → Q (LX8_longestLine_19 Na n3 K k j v1 v2) → xW G mX8_longestLine (xrm 1 0 0) (xQ G (fun v M2 => ∃ r, v = some (.int r) ∧ Q r ∧ M2 = M) 0 0) 19 [(0, .ref a), (1, .int v1), (2, .int v2), (3, .int (nI n3)), (4, .int (nI j))] [] M 0 0 := by
  intro k
  induction k with
  | zero =>
    intro j v1 v2 hj hj2 hq
    rw [LX8_longestLine_19] at hq
    refine xi_iload 4 dX8_longestLine_19 rfl ?_
    refine xi_aload_n 0 dX8_longestLine_21 rfl ?_
    refine xi_get (f := 0) dX8_longestLine_22 ha.1 rfl ok_5 (by decide) w_63 rfl ?_
    refine xi_icmp_ge_t (tgt := 78) dX8_longestLine_25 (by decide) (nI_le (a := Na.1) (b := j) (by omega) (by omega)) ?_
    refine xi_sub (lv' := [(0, .ref a), (1, .int v1), (2, .int v2), (3, .int (nI n3))]) [0, 1, 2, 3] rfl ?_
    exact HE v1 v2 hq
  | succ k ih =>
    intro j v1 v2 hj hj2 hq
    rw [LX8_longestLine_19] at hq
    refine xi_iload 4 dX8_longestLine_19 rfl ?_
    refine xi_aload_n 0 dX8_longestLine_21 rfl ?_
    refine xi_get (f := 0) dX8_longestLine_22 ha.1 rfl ok_5 (by decide) w_63 rfl ?_
    refine xi_icmp_ge_f (tgt := 78) dX8_longestLine_25 (by decide) (nI_ge (a := j) (b := Na.1) (by omega) (by omega)) ?_
    refine xi_aload_n 0 dX8_longestLine_28 rfl ?_
    refine xi_iload_n 3 dX8_longestLine_29 rfl ?_
    refine xi_callV (as := [.int (nI n3)]) (rest := []) dX8_longestLine_30 (FX5_placeOf_ok G ha ka oa ((nI n3)) (fun r => r = FX5_placeOf Na ((nI n3))) rfl) mkX5_placeOf w_561 w_562 w_649 ha.1 rfl rfl rfl rfl (Nat.le_of_ble_eq_true rfl) (Nat.le_of_ble_eq_true rfl) (Nat.le_of_ble_eq_true rfl) (Nat.le_of_ble_eq_true rfl) (Nat.le_of_ble_eq_true rfl) ?_
    intro v M2 hz
    obtain ⟨_, rfl, rfl, hM2⟩ := hz
    rw [hM2]
    show xW _ _ _ _ 33 _ [.int (FX5_placeOf Na ((nI n3)))] M _ _
    refine xi_aload_n 0 dX8_longestLine_33 rfl ?_
    refine xi_iload 4 dX8_longestLine_34 rfl ?_
    refine xi_callV (as := [.int (nI j)]) (rest := [.int (FX5_placeOf Na ((nI n3)))]) dX8_longestLine_36 (FX5_placeOf_ok G ha ka oa ((nI j)) (fun r => r = FX5_placeOf Na ((nI j))) rfl) mkX5_placeOf w_561 w_562 w_649 ha.1 rfl rfl rfl rfl (Nat.le_of_ble_eq_true rfl) (Nat.le_of_ble_eq_true rfl) (Nat.le_of_ble_eq_true rfl) (Nat.le_of_ble_eq_true rfl) (Nat.le_of_ble_eq_true rfl) ?_
    intro v M2 hz
    obtain ⟨_, rfl, rfl, hM2⟩ := hz
    rw [hM2]
    show xW _ _ _ _ 39 _ [.int (FX5_placeOf Na ((nI j))), .int (FX5_placeOf Na ((nI n3)))] M _ _
    refine xi_isub (v := ((FX5_placeOf Na ((nI n3))) - (FX5_placeOf Na ((nI j))))) dX8_longestLine_39 rfl ?_
    refine xi_abs (v := (if 0 ≤ ((FX5_placeOf Na ((nI n3))) - (FX5_placeOf Na ((nI j)))) then ((FX5_placeOf Na ((nI n3))) - (FX5_placeOf Na ((nI j)))) else 0 - ((FX5_placeOf Na ((nI n3))) - (FX5_placeOf Na ((nI j)))))) dX8_longestLine_40 w_650 w_651 w_3 w_mabs (Nat.le_of_ble_eq_true rfl) (Nat.le_of_ble_eq_true rfl) (Nat.le_of_ble_eq_true rfl) (Nat.le_of_ble_eq_true rfl) (Nat.le_of_ble_eq_true rfl) rfl ?_
    refine xi_istore (lv' := [(5, .int (if 0 ≤ ((FX5_placeOf Na ((nI n3))) - (FX5_placeOf Na ((nI j)))) then ((FX5_placeOf Na ((nI n3))) - (FX5_placeOf Na ((nI j)))) else 0 - ((FX5_placeOf Na ((nI n3))) - (FX5_placeOf Na ((nI j)))))), (0, .ref a), (1, .int v1), (2, .int v2), (3, .int (nI n3)), (4, .int (nI j))]) dX8_longestLine_43 (by decide) rfl ?_
    refine xi_aload_n 1 dX8_longestLine_45 rfl ?_
    refine xi_iload_n 4 dX8_longestLine_46 rfl ?_
    refine xi_iload 5 dX8_longestLine_47 rfl ?_
    refine xi_callV (as := [.int (nI n3), .int (nI j)]) (rest := []) dX8_longestLine_49 (FX5_weightOf_ok G ha ka n3 (by omega) j (by omega) (fun r => r = FX5_weightOf Na n3 j) rfl) mkX5_weightOf w_415 w_416 w_577 ha.1 rfl rfl rfl rfl (Nat.le_of_ble_eq_true rfl) (Nat.le_of_ble_eq_true rfl) (Nat.le_of_ble_eq_true rfl) (Nat.le_of_ble_eq_true rfl) (Nat.le_of_ble_eq_true rfl) ?_
    intro v M2 hz
    obtain ⟨_, rfl, rfl, hM2⟩ := hz
    rw [hM2]
    show xW _ _ _ _ 52 _ [.int (FX5_weightOf Na n3 j)] M _ _
    refine xi_if_le (tgt := 72) dX8_longestLine_52 (by decide) (fun c1 => ?_) (fun c1 => ?_)
    · rw [if_pos c1] at hq
      refine xi_iinc (v := (nI (j + 1))) (lv' := [(4, .int (nI (j + 1))), (5, .int (if 0 ≤ ((FX5_placeOf Na ((nI n3))) - (FX5_placeOf Na ((nI j)))) then ((FX5_placeOf Na ((nI n3))) - (FX5_placeOf Na ((nI j)))) else 0 - ((FX5_placeOf Na ((nI n3))) - (FX5_placeOf Na ((nI j)))))), (0, .ref a), (1, .int v1), (2, .int v2), (3, .int (nI n3))]) 5 dX8_longestLine_72 rfl (nI_1 _) (by decide) rfl ?_
      refine xi_goto (tgt := 19) dX8_longestLine_75 (by decide) ?_
      refine xi_sub (lv' := [(0, .ref a), (1, .int v1), (2, .int v2), (3, .int (nI n3)), (4, .int (nI (j + 1)))]) [2, 3, 4, 5, 0] rfl ?_
      exact ih (j + 1) v1 v2 (by omega) (by omega) hq
    · rw [if_neg c1] at hq
      refine xi_iload 0 dX8_longestLine_55 rfl ?_
      refine xi_iload_n 3 dX8_longestLine_57 rfl ?_
      refine xi_icmp_le (tgt := 72) dX8_longestLine_58 (by decide) (fun c2 => ?_) (fun c2 => ?_)
      · rw [if_pos c2] at hq
        refine xi_iinc (v := (nI (j + 1))) (lv' := [(4, .int (nI (j + 1))), (5, .int (if 0 ≤ ((FX5_placeOf Na ((nI n3))) - (FX5_placeOf Na ((nI j)))) then ((FX5_placeOf Na ((nI n3))) - (FX5_placeOf Na ((nI j)))) else 0 - ((FX5_placeOf Na ((nI n3))) - (FX5_placeOf Na ((nI j)))))), (0, .ref a), (1, .int v1), (2, .int v2), (3, .int (nI n3))]) 5 dX8_longestLine_72 rfl (nI_1 _) (by decide) rfl ?_
        refine xi_goto (tgt := 19) dX8_longestLine_75 (by decide) ?_
        refine xi_sub (lv' := [(0, .ref a), (1, .int v1), (2, .int v2), (3, .int (nI n3)), (4, .int (nI (j + 1)))]) [2, 3, 4, 5, 0] rfl ?_
        exact ih (j + 1) v1 v2 (by omega) (by omega) hq
      · rw [if_neg c2] at hq
        refine xi_iload 0 dX8_longestLine_61 rfl ?_
        refine xi_istore_n (lv' := [(2, .int (if 0 ≤ ((FX5_placeOf Na ((nI n3))) - (FX5_placeOf Na ((nI j)))) then ((FX5_placeOf Na ((nI n3))) - (FX5_placeOf Na ((nI j)))) else 0 - ((FX5_placeOf Na ((nI n3))) - (FX5_placeOf Na ((nI j)))))), (5, .int (if 0 ≤ ((FX5_placeOf Na ((nI n3))) - (FX5_placeOf Na ((nI j)))) then ((FX5_placeOf Na ((nI n3))) - (FX5_placeOf Na ((nI j)))) else 0 - ((FX5_placeOf Na ((nI n3))) - (FX5_placeOf Na ((nI j)))))), (0, .ref a), (1, .int v1), (3, .int (nI n3)), (4, .int (nI j))]) dX8_longestLine_63 (by decide) rfl ?_
        refine xi_bipush (v := 10) dX8_longestLine_64 (by decide) ?_
        refine xi_iload_n 4 dX8_longestLine_66 rfl ?_
        refine xi_imul (v := (nI (10 * n3))) dX8_longestLine_67 (pk_mul 10 n3) ?_
        refine xi_iload 5 dX8_longestLine_68 rfl ?_
        refine xi_iadd (v := (nI ((10 * n3) + j))) dX8_longestLine_70 (nI_add (10 * n3) j) ?_
        refine xi_istore_n (lv' := [(1, .int (nI ((10 * n3) + j))), (2, .int (if 0 ≤ ((FX5_placeOf Na ((nI n3))) - (FX5_placeOf Na ((nI j)))) then ((FX5_placeOf Na ((nI n3))) - (FX5_placeOf Na ((nI j)))) else 0 - ((FX5_placeOf Na ((nI n3))) - (FX5_placeOf Na ((nI j)))))), (5, .int (if 0 ≤ ((FX5_placeOf Na ((nI n3))) - (FX5_placeOf Na ((nI j)))) then ((FX5_placeOf Na ((nI n3))) - (FX5_placeOf Na ((nI j)))) else 0 - ((FX5_placeOf Na ((nI n3))) - (FX5_placeOf Na ((nI j)))))), (0, .ref a), (3, .int (nI n3)), (4, .int (nI j))]) dX8_longestLine_71 (by decide) rfl ?_
        refine xi_iinc (v := (nI (j + 1))) (lv' := [(4, .int (nI (j + 1))), (1, .int (nI ((10 * n3) + j))), (2, .int (if 0 ≤ ((FX5_placeOf Na ((nI n3))) - (FX5_placeOf Na ((nI j)))) then ((FX5_placeOf Na ((nI n3))) - (FX5_placeOf Na ((nI j)))) else 0 - ((FX5_placeOf Na ((nI n3))) - (FX5_placeOf Na ((nI j)))))), (5, .int (if 0 ≤ ((FX5_placeOf Na ((nI n3))) - (FX5_placeOf Na ((nI j)))) then ((FX5_placeOf Na ((nI n3))) - (FX5_placeOf Na ((nI j)))) else 0 - ((FX5_placeOf Na ((nI n3))) - (FX5_placeOf Na ((nI j)))))), (0, .ref a), (3, .int (nI n3))]) 5 dX8_longestLine_72 rfl (nI_1 _) (by decide) rfl ?_
        refine xi_goto (tgt := 19) dX8_longestLine_75 (by decide) ?_
        refine xi_sub (lv' := [(0, .ref a), (1, .int (nI ((10 * n3) + j))), (2, .int (if 0 ≤ ((FX5_placeOf Na ((nI n3))) - (FX5_placeOf Na ((nI j)))) then ((FX5_placeOf Na ((nI n3))) - (FX5_placeOf Na ((nI j)))) else 0 - ((FX5_placeOf Na ((nI n3))) - (FX5_placeOf Na ((nI j)))))), (3, .int (nI n3)), (4, .int (nI (j + 1)))]) [4, 1, 2, 5, 0] rfl ?_
        exact ih (j + 1) ((nI ((10 * n3) + j))) ((if 0 ≤ ((FX5_placeOf Na ((nI n3))) - (FX5_placeOf Na ((nI j)))) then ((FX5_placeOf Na ((nI n3))) - (FX5_placeOf Na ((nI j)))) else 0 - ((FX5_placeOf Na ((nI n3))) - (FX5_placeOf Na ((nI j)))))) (by omega) (by omega) hq
set_option maxHeartbeats 4000000 in
set_option maxRecDepth 100000 in
theorem LX8_longestLine_6_s (G : xG) {M : xMem} {a : Nat} {Na : NV} (ha : xnet M a Na) (ka : Na.1 ≤ 9) (oa : NO Na) (Q : Int32 → Prop) (K : Int32 → Int32 → Int32) (HE : ∀ (v1 : Int32) (v2 : Int32), Q (K v1 v2) → xW G mX8_longestLine (xrm 1 0 0) (xQ G (fun v M2 => ∃ r, v = some (.int r) ∧ Q r ∧ M2 = M) 0 0) 84 [(1, .int v1)] [] M 0 0) :
    ∀ (k j : Nat) (v1 : Int32) (v2 : Int32), Na.1 - j = k → j < 100000 → Q (LX8_longestLine_6 Na K k j v1 v2) → xW G mX8_longestLine (xrm 1 0 0) (xQ G (fun v M2 => ∃ r, v = some (.int r) ∧ Q r ∧ M2 = M) 0 0) 6 [(0, .ref a), (1, .int v1), (2, .int v2), (3, .int (nI j))] [] M 0 0 := by
  intro k
  induction k with
  | zero =>
    intro j v1 v2 hj hj2 hq
    rw [LX8_longestLine_6] at hq
    refine xi_iload_n 3 dX8_longestLine_6 rfl ?_
    refine xi_aload_n 0 dX8_longestLine_7 rfl ?_
    refine xi_get (f := 0) dX8_longestLine_8 ha.1 rfl ok_5 (by decide) w_63 rfl ?_
    refine xi_icmp_ge_t (tgt := 84) dX8_longestLine_11 (by decide) (nI_le (a := Na.1) (b := j) (by omega) (by omega)) ?_
    refine xi_sub (lv' := [(1, .int v1)]) [1] rfl ?_
    exact HE v1 v2 hq
  | succ k ih =>
    intro j v1 v2 hj hj2 hq
    rw [LX8_longestLine_6] at hq
    refine xi_iload_n 3 dX8_longestLine_6 rfl ?_
    refine xi_aload_n 0 dX8_longestLine_7 rfl ?_
    refine xi_get (f := 0) dX8_longestLine_8 ha.1 rfl ok_5 (by decide) w_63 rfl ?_
    refine xi_icmp_ge_f (tgt := 84) dX8_longestLine_11 (by decide) (nI_ge (a := j) (b := Na.1) (by omega) (by omega)) ?_
    refine xi_iload_n 3 dX8_longestLine_14 rfl ?_
    refine xi_iconst (v := 1) dX8_longestLine_15 (by decide) ?_
    refine xi_iadd (v := (nI (j + 1))) dX8_longestLine_16 (nI_add j 1) ?_
    refine xi_istore (lv' := [(4, .int (nI (j + 1))), (0, .ref a), (1, .int v1), (2, .int v2), (3, .int (nI j))]) dX8_longestLine_17 (by decide) rfl ?_
    refine xi_sub (lv' := [(0, .ref a), (1, .int v1), (2, .int v2), (3, .int (nI j)), (4, .int (nI (j + 1)))]) [1, 2, 3, 4, 0] rfl ?_
    refine LX8_longestLine_19_s G ha ka oa j (by omega) Q _ (fun u3 u4 hq => ?_) (Na.1 - (j + 1)) (j + 1) v1 v2 rfl (by omega) hq
    refine xi_iinc (v := (nI (j + 1))) (lv' := [(3, .int (nI (j + 1))), (0, .ref a), (1, .int u3), (2, .int u4)]) 3 dX8_longestLine_78 rfl (nI_1 _) (by decide) rfl ?_
    refine xi_goto (tgt := 6) dX8_longestLine_81 (by decide) ?_
    refine xi_sub (lv' := [(0, .ref a), (1, .int u3), (2, .int u4), (3, .int (nI (j + 1)))]) [1, 2, 3, 0] rfl ?_
    exact ih (j + 1) u3 u4 (by omega) (by omega) hq
def FX8_longestLine (Na : NV) : Int32 := (LX8_longestLine_6 Na (fun u5 u6 => u5) (Na.1 - 0) 0 ((-1 : Int32)) ((0 : Int32)))
set_option maxHeartbeats 4000000 in
set_option maxRecDepth 100000 in
theorem FX8_longestLine_ok (G : xG) {M : xMem} {a : Nat} {Na : NV} (ha : xnet M a Na) (ka : Na.1 ≤ 9) (oa : NO Na) (Q : Int32 → Prop) (hq : Q (FX8_longestLine Na)) : xC G mX8_longestLine 1 0 0 [.ref a] M (fun v M2 => ∃ r, v = some (.int r) ∧ Q r ∧ M2 = M) := by
  unfold FX8_longestLine at hq
  refine xC.of (by decide) (Nat.le_of_ble_eq_true rfl) ?_
  show xW _ _ _ _ 0 [(0, .ref a)] [] _ 0 0
  refine xi_iconst (v := (-1)) dX8_longestLine_0 (by decide) ?_
  refine xi_istore_n (lv' := [(1, .int (-1)), (0, .ref a)]) dX8_longestLine_1 (by decide) rfl ?_
  refine xi_iconst (v := 0) dX8_longestLine_2 (by decide) ?_
  refine xi_istore_n (lv' := [(2, .int 0), (1, .int (-1)), (0, .ref a)]) dX8_longestLine_3 (by decide) rfl ?_
  refine xi_iconst (v := 0) dX8_longestLine_4 (by decide) ?_
  refine xi_istore_n (lv' := [(3, .int 0), (2, .int 0), (1, .int (-1)), (0, .ref a)]) dX8_longestLine_5 (by decide) rfl ?_
  refine xi_sub (lv' := [(0, .ref a), (1, .int (-1)), (2, .int 0), (3, .int 0)]) [3, 2, 1, 0] rfl ?_
  refine LX8_longestLine_6_s G ha ka oa Q _ (fun u5 u6 hq => ?_) (Na.1 - 0) 0 ((-1 : Int32)) ((0 : Int32)) rfl (by omega) hq
  refine xi_iload_n 0 dX8_longestLine_84 rfl ?_
  exact xi_iret dX8_longestLine_85 rfl rfl (Nat.le_of_ble_eq_true rfl) (Nat.le_of_ble_eq_true rfl) ⟨_, rfl, hq, rfl⟩
def FX8_bagGoing (Na : NV) (p : Nat) : Int32 := (((1 : Int32) <<< ((nI ((Na.2.2.2.1 p).toNatClampNeg)) &&& 31)) ||| (FX6_withLineInto Na ((FX5_aheadOf Na p)) (((FX5_aheadOf Na p) ^^^ (-1 : Int32)))))
set_option maxHeartbeats 4000000 in
set_option maxRecDepth 100000 in
theorem FX8_bagGoing_ok (G : xG) {M : xMem} {a : Nat} {Na : NV} (ha : xnet M a Na) (ka : Na.1 ≤ 9) (oa : NO Na) (p : Nat) (bp : p < 9) (Q : Int32 → Prop) (hq : Q (FX8_bagGoing Na p)) : xC G mX8_bagGoing 1 0 0 [.ref a, .int (nI p)] M (fun v M2 => ∃ r, v = some (.int r) ∧ Q r ∧ M2 = M) := by
  unfold FX8_bagGoing at hq
  refine xC.of (by decide) (Nat.le_of_ble_eq_true rfl) ?_
  show xW _ _ _ _ 0 [(0, .ref a), (1, .int (nI p))] [] _ 0 0
  refine xi_aload_n 0 dX8_bagGoing_0 rfl ?_
  refine xi_iload_n 1 dX8_bagGoing_1 rfl ?_
  refine xi_callV (as := [.int (nI p)]) (rest := []) dX8_bagGoing_2 (FX5_aheadOf_ok G ha ka oa p (by omega) (fun r => r = FX5_aheadOf Na p) rfl) mkX5_aheadOf w_629 w_630 w_843 ha.1 rfl rfl rfl rfl (Nat.le_of_ble_eq_true rfl) (Nat.le_of_ble_eq_true rfl) (Nat.le_of_ble_eq_true rfl) (Nat.le_of_ble_eq_true rfl) (Nat.le_of_ble_eq_true rfl) ?_
  intro v M2 hz
  obtain ⟨_, rfl, rfl, hM2⟩ := hz
  rw [hM2]
  show xW _ _ _ _ 5 _ [.int (FX5_aheadOf Na p)] M _ _
  refine xi_istore_n (lv' := [(2, .int (FX5_aheadOf Na p)), (0, .ref a), (1, .int (nI p))]) dX8_bagGoing_5 (by decide) rfl ?_
  refine xi_iconst (v := 1) dX8_bagGoing_6 (by decide) ?_
  refine xi_aload_n 1 dX8_bagGoing_7 rfl ?_
  refine xi_get (f := 3) dX8_bagGoing_8 ha.1 rfl ok_5 (by decide) w_79 rfl ?_
  refine xi_iload_n 2 dX8_bagGoing_11 rfl ?_
  have o1 := (oa p (by omega)).2
  refine xi_iaload (v := (nI ((Na.2.2.2.1 p).toNatClampNeg))) dX8_bagGoing_12 ha.2.2.1 (vp_in_nI (by omega) (by decide)) (by rw [nI_clamp (by omega)]; exact (oa p (by omega)).1) ?_
  refine xi_ishl (v := ((1 : Int32) <<< ((nI ((Na.2.2.2.1 p).toNatClampNeg)) &&& 31))) dX8_bagGoing_13 rfl ?_
  refine xi_aload_n 1 dX8_bagGoing_14 rfl ?_
  refine xi_iload_n 0 dX8_bagGoing_15 rfl ?_
  refine xi_iload_n 0 dX8_bagGoing_16 rfl ?_
  refine xi_iconst (v := (-1)) dX8_bagGoing_17 (by decide) ?_
  refine xi_ixor (v := ((FX5_aheadOf Na p) ^^^ (-1 : Int32))) dX8_bagGoing_18 rfl ?_
  refine xi_callS (as := [.ref a, .int (FX5_aheadOf Na p), .int ((FX5_aheadOf Na p) ^^^ (-1 : Int32))]) (rest := [.int ((1 : Int32) <<< ((nI ((Na.2.2.2.1 p).toNatClampNeg)) &&& 31))]) dX8_bagGoing_19 (FX6_withLineInto_ok G ha ka ((FX5_aheadOf Na p)) (((FX5_aheadOf Na p) ^^^ (-1 : Int32))) (fun r => r = FX6_withLineInto Na ((FX5_aheadOf Na p)) (((FX5_aheadOf Na p) ^^^ (-1 : Int32)))) rfl) mkX6_withLineInto w_592 w_844 rfl rfl (Nat.le_of_ble_eq_true rfl) (Nat.le_of_ble_eq_true rfl) (Nat.le_of_ble_eq_true rfl) (Nat.le_of_ble_eq_true rfl) (Nat.le_of_ble_eq_true rfl) ?_
  intro v M2 hz
  obtain ⟨_, rfl, rfl, hM2⟩ := hz
  rw [hM2]
  show xW _ _ _ _ 22 _ [.int (FX6_withLineInto Na ((FX5_aheadOf Na p)) (((FX5_aheadOf Na p) ^^^ (-1 : Int32)))), .int ((1 : Int32) <<< ((nI ((Na.2.2.2.1 p).toNatClampNeg)) &&& 31))] M _ _
  refine xi_ior (v := (((1 : Int32) <<< ((nI ((Na.2.2.2.1 p).toNatClampNeg)) &&& 31)) ||| (FX6_withLineInto Na ((FX5_aheadOf Na p)) (((FX5_aheadOf Na p) ^^^ (-1 : Int32)))))) dX8_bagGoing_22 rfl ?_
  exact xi_iret dX8_bagGoing_23 rfl rfl (Nat.le_of_ble_eq_true rfl) (Nat.le_of_ble_eq_true rfl) ⟨_, rfl, hq, rfl⟩
def FX8_bagTaken (Na : NV) (p : Nat) : Int32 := (((1 : Int32) <<< ((nI ((Na.2.2.2.1 p).toNatClampNeg)) &&& 31)) ||| (FX6_neighbours Na ((FX5_aheadOf Na p)) ((Na.2.2.2.1 p).toNatClampNeg)))
set_option maxHeartbeats 4000000 in
set_option maxRecDepth 100000 in
theorem FX8_bagTaken_ok (G : xG) {M : xMem} {a : Nat} {Na : NV} (ha : xnet M a Na) (ka : Na.1 ≤ 9) (oa : NO Na) (p : Nat) (bp : p < 9) (Q : Int32 → Prop) (hq : Q (FX8_bagTaken Na p)) : xC G mX8_bagTaken 1 0 0 [.ref a, .int (nI p)] M (fun v M2 => ∃ r, v = some (.int r) ∧ Q r ∧ M2 = M) := by
  unfold FX8_bagTaken at hq
  refine xC.of (by decide) (Nat.le_of_ble_eq_true rfl) ?_
  show xW _ _ _ _ 0 [(0, .ref a), (1, .int (nI p))] [] _ 0 0
  refine xi_aload_n 0 dX8_bagTaken_0 rfl ?_
  refine xi_get (f := 3) dX8_bagTaken_1 ha.1 rfl ok_5 (by decide) w_79 rfl ?_
  refine xi_iload_n 1 dX8_bagTaken_4 rfl ?_
  have o1 := (oa p (by omega)).2
  refine xi_iaload (v := (nI ((Na.2.2.2.1 p).toNatClampNeg))) dX8_bagTaken_5 ha.2.2.1 (vp_in_nI (by omega) (by decide)) (by rw [nI_clamp (by omega)]; exact (oa p (by omega)).1) ?_
  refine xi_istore_n (lv' := [(2, .int (nI ((Na.2.2.2.1 p).toNatClampNeg))), (0, .ref a), (1, .int (nI p))]) dX8_bagTaken_6 (by decide) rfl ?_
  refine xi_iconst (v := 1) dX8_bagTaken_7 (by decide) ?_
  refine xi_iload_n 0 dX8_bagTaken_8 rfl ?_
  refine xi_ishl (v := ((1 : Int32) <<< ((nI ((Na.2.2.2.1 p).toNatClampNeg)) &&& 31))) dX8_bagTaken_9 rfl ?_
  refine xi_aload_n 1 dX8_bagTaken_10 rfl ?_
  refine xi_aload_n 1 dX8_bagTaken_11 rfl ?_
  refine xi_iload_n 2 dX8_bagTaken_12 rfl ?_
  refine xi_callV (as := [.int (nI p)]) (rest := [.ref a, .int ((1 : Int32) <<< ((nI ((Na.2.2.2.1 p).toNatClampNeg)) &&& 31))]) dX8_bagTaken_13 (FX5_aheadOf_ok G ha ka oa p (by omega) (fun r => r = FX5_aheadOf Na p) rfl) mkX5_aheadOf w_629 w_630 w_843 ha.1 rfl rfl rfl rfl (Nat.le_of_ble_eq_true rfl) (Nat.le_of_ble_eq_true rfl) (Nat.le_of_ble_eq_true rfl) (Nat.le_of_ble_eq_true rfl) (Nat.le_of_ble_eq_true rfl) ?_
  intro v M2 hz
  obtain ⟨_, rfl, rfl, hM2⟩ := hz
  rw [hM2]
  show xW _ _ _ _ 16 _ [.int (FX5_aheadOf Na p), .ref a, .int ((1 : Int32) <<< ((nI ((Na.2.2.2.1 p).toNatClampNeg)) &&& 31))] M _ _
  refine xi_iload_n 0 dX8_bagTaken_16 rfl ?_
  refine xi_callS (as := [.ref a, .int (FX5_aheadOf Na p), .int (nI ((Na.2.2.2.1 p).toNatClampNeg))]) (rest := [.int ((1 : Int32) <<< ((nI ((Na.2.2.2.1 p).toNatClampNeg)) &&& 31))]) dX8_bagTaken_17 (FX6_neighbours_ok G ha ka ((FX5_aheadOf Na p)) ((Na.2.2.2.1 p).toNatClampNeg) (by omega) (fun r => r = FX6_neighbours Na ((FX5_aheadOf Na p)) ((Na.2.2.2.1 p).toNatClampNeg)) rfl) mkX6_neighbours w_599 w_848 rfl rfl (Nat.le_of_ble_eq_true rfl) (Nat.le_of_ble_eq_true rfl) (Nat.le_of_ble_eq_true rfl) (Nat.le_of_ble_eq_true rfl) (Nat.le_of_ble_eq_true rfl) ?_
  intro v M2 hz
  obtain ⟨_, rfl, rfl, hM2⟩ := hz
  rw [hM2]
  show xW _ _ _ _ 20 _ [.int (FX6_neighbours Na ((FX5_aheadOf Na p)) ((Na.2.2.2.1 p).toNatClampNeg)), .int ((1 : Int32) <<< ((nI ((Na.2.2.2.1 p).toNatClampNeg)) &&& 31))] M _ _
  refine xi_ior (v := (((1 : Int32) <<< ((nI ((Na.2.2.2.1 p).toNatClampNeg)) &&& 31)) ||| (FX6_neighbours Na ((FX5_aheadOf Na p)) ((Na.2.2.2.1 p).toNatClampNeg)))) dX8_bagTaken_20 rfl ?_
  exact xi_iret dX8_bagTaken_21 rfl rfl (Nat.le_of_ble_eq_true rfl) (Nat.le_of_ble_eq_true rfl) ⟨_, rfl, hq, rfl⟩
def LX8_bitAt_4 (w0 : Int32) (w1 : Int32) (K : Int32 → Int32) : Nat → Nat → Int32 → Int32
  | 0, _, v2 => K v2
  | k + 1, j, v2 => (if ((w0 >>> ((nI j) &&& 31)) &&& (1 : Int32)) = (0 : Int32) then (LX8_bitAt_4 w0 w1 K k (j + 1) v2) else (if v2 = w1 then (nI j) else (LX8_bitAt_4 w0 w1 K k (j + 1) ((v2 + Int32.ofInt 1)))))
set_option maxHeartbeats 4000000 in
set_option maxRecDepth 100000 in
theorem LX8_bitAt_4_s (G : xG) {M : xMem} (w0 : Int32) (w1 : Int32) (Q : Int32 → Prop) (K : Int32 → Int32) (HE : ∀ (v2 : Int32), Q (K v2) → xW G mX8_bitAt (xrm 0 0 0) (xQ G (fun v M2 => ∃ r, v = some (.int r) ∧ Q r ∧ M2 = M) 0 0) 34 [] [] M 0 0) :
    ∀ (k j : Nat) (v2 : Int32), 9 - j = k → j < 100000 → Q (LX8_bitAt_4 w0 w1 K k j v2) → xW G mX8_bitAt (xrm 0 0 0) (xQ G (fun v M2 => ∃ r, v = some (.int r) ∧ Q r ∧ M2 = M) 0 0) 4 [(0, .int w0), (1, .int w1), (2, .int v2), (3, .int (nI j))] [] M 0 0 := by
  intro k
  induction k with
  | zero =>
    intro j v2 hj hj2 hq
    rw [LX8_bitAt_4] at hq
    refine xi_iload_n 3 dX8_bitAt_4 rfl ?_
    refine xi_bipush (v := 9) dX8_bitAt_5 (by decide) ?_
    refine xi_icmp_ge_t (tgt := 34) dX8_bitAt_7 (by decide) (nI_le (a := 9) (b := j) (by omega) (by omega)) ?_
    refine xi_sub (lv' := []) [] rfl ?_
    exact HE v2 hq
  | succ k ih =>
    intro j v2 hj hj2 hq
    rw [LX8_bitAt_4] at hq
    refine xi_iload_n 3 dX8_bitAt_4 rfl ?_
    refine xi_bipush (v := 9) dX8_bitAt_5 (by decide) ?_
    refine xi_icmp_ge_f (tgt := 34) dX8_bitAt_7 (by decide) (nI_ge (a := j) (b := 9) (by omega) (by omega)) ?_
    refine xi_iload_n 0 dX8_bitAt_10 rfl ?_
    refine xi_iload_n 3 dX8_bitAt_11 rfl ?_
    refine xi_ishr (v := (w0 >>> ((nI j) &&& 31))) dX8_bitAt_12 rfl ?_
    refine xi_iconst (v := 1) dX8_bitAt_13 (by decide) ?_
    refine xi_iand (v := ((w0 >>> ((nI j) &&& 31)) &&& (1 : Int32))) dX8_bitAt_14 rfl ?_
    refine xi_if_eq (tgt := 28) dX8_bitAt_15 (by decide) (fun c1 => ?_) (fun c1 => ?_)
    · rw [if_pos c1] at hq
      refine xi_iinc (v := (nI (j + 1))) (lv' := [(3, .int (nI (j + 1))), (0, .int w0), (1, .int w1), (2, .int v2)]) 3 dX8_bitAt_28 rfl (nI_1 _) (by decide) rfl ?_
      refine xi_goto (tgt := 4) dX8_bitAt_31 (by decide) ?_
      refine xi_sub (lv' := [(0, .int w0), (1, .int w1), (2, .int v2), (3, .int (nI (j + 1)))]) [1, 2, 3, 0] rfl ?_
      exact ih (j + 1) v2 (by omega) (by omega) hq
    · rw [if_neg c1] at hq
      refine xi_iload_n 2 dX8_bitAt_18 rfl ?_
      refine xi_iload_n 1 dX8_bitAt_19 rfl ?_
      refine xi_icmp_ne (tgt := 25) dX8_bitAt_20 (by decide) (fun c2 => ?_) (fun c2 => ?_)
      · rw [if_neg c2] at hq
        refine xi_iinc (v := (v2 + Int32.ofInt 1)) (lv' := [(2, .int (v2 + Int32.ofInt 1)), (0, .int w0), (1, .int w1), (3, .int (nI j))]) 2 dX8_bitAt_25 rfl rfl (by decide) rfl ?_
        refine xi_iinc (v := (nI (j + 1))) (lv' := [(3, .int (nI (j + 1))), (2, .int (v2 + Int32.ofInt 1)), (0, .int w0), (1, .int w1)]) 3 dX8_bitAt_28 rfl (nI_1 _) (by decide) rfl ?_
        refine xi_goto (tgt := 4) dX8_bitAt_31 (by decide) ?_
        refine xi_sub (lv' := [(0, .int w0), (1, .int w1), (2, .int (v2 + Int32.ofInt 1)), (3, .int (nI (j + 1)))]) [2, 3, 1, 0] rfl ?_
        exact ih (j + 1) ((v2 + Int32.ofInt 1)) (by omega) (by omega) hq
      · rw [if_pos c2] at hq
        refine xi_iload_n 3 dX8_bitAt_23 rfl ?_
        exact xi_iret dX8_bitAt_24 rfl rfl (Nat.le_of_ble_eq_true rfl) (Nat.le_of_ble_eq_true rfl) ⟨_, rfl, hq, rfl⟩
def FX8_bitAt (x : Int32) (q : Int32) : Int32 := (LX8_bitAt_4 x q (fun u3 => (-1 : Int32)) (9 - 0) 0 ((0 : Int32)))
set_option maxHeartbeats 4000000 in
set_option maxRecDepth 100000 in
theorem FX8_bitAt_ok (G : xG) {M : xMem} (x : Int32) (q : Int32) (Q : Int32 → Prop) (hq : Q (FX8_bitAt x q)) : xC G mX8_bitAt 0 0 0 [.int x, .int q] M (fun v M2 => ∃ r, v = some (.int r) ∧ Q r ∧ M2 = M) := by
  unfold FX8_bitAt at hq
  refine xC.of (by decide) (Nat.le_of_ble_eq_true rfl) ?_
  show xW _ _ _ _ 0 [(0, .int x), (1, .int q)] [] _ 0 0
  refine xi_iconst (v := 0) dX8_bitAt_0 (by decide) ?_
  refine xi_istore_n (lv' := [(2, .int 0), (0, .int x), (1, .int q)]) dX8_bitAt_1 (by decide) rfl ?_
  refine xi_iconst (v := 0) dX8_bitAt_2 (by decide) ?_
  refine xi_istore_n (lv' := [(3, .int 0), (2, .int 0), (0, .int x), (1, .int q)]) dX8_bitAt_3 (by decide) rfl ?_
  refine xi_sub (lv' := [(0, .int x), (1, .int q), (2, .int 0), (3, .int 0)]) [2, 3, 1, 0] rfl ?_
  refine LX8_bitAt_4_s G x q Q _ (fun u3 hq => ?_) (9 - 0) 0 ((0 : Int32)) rfl (by omega) hq
  refine xi_iconst (v := (-1)) dX8_bitAt_34 (by decide) ?_
  exact xi_iret dX8_bitAt_35 rfl rfl (Nat.le_of_ble_eq_true rfl) (Nat.le_of_ble_eq_true rfl) ⟨_, rfl, hq, rfl⟩
def LX8_newLine_37 (Na : NV) (w1 : Int32) (w2 : Int32) (n4 : Nat) (n5 : Nat) (w6 : Int32) (K : Int32 → Int32) : Nat → Nat → Int32 → Int32
  | 0, _, v3 => K v3
  | k + 1, j, v3 => (if ((w6 >>> ((nI j) &&& 31)) &&& (1 : Int32)) = (0 : Int32) then (if w1 < v3 then (LX8_newLine_37 Na w1 w2 n4 n5 w6 K k (j + 1) ((v3 + (FJ6_bitCount_0f7a4 ((0 : Int32)))))) else (if (v3 + (FJ6_bitCount_0f7a4 ((0 : Int32)))) ≤ w1 then (LX8_newLine_37 Na w1 w2 n4 n5 w6 K k (j + 1) ((v3 + (FJ6_bitCount_0f7a4 ((0 : Int32)))))) else ((nI (10 * j)) + (FX8_bitAt ((0 : Int32)) ((w1 - v3)))))) else (if w1 < v3 then (LX8_newLine_37 Na w1 w2 n4 n5 w6 K k (j + 1) ((v3 + (FJ6_bitCount_0f7a4 (((FX6_aboveOf w6 ((nI j))) &&& ((FX6_neighbours Na w2 j) ^^^ (-1 : Int32)))))))) else (if (v3 + (FJ6_bitCount_0f7a4 (((FX6_aboveOf w6 ((nI j))) &&& ((FX6_neighbours Na w2 j) ^^^ (-1 : Int32)))))) ≤ w1 then (LX8_newLine_37 Na w1 w2 n4 n5 w6 K k (j + 1) ((v3 + (FJ6_bitCount_0f7a4 (((FX6_aboveOf w6 ((nI j))) &&& ((FX6_neighbours Na w2 j) ^^^ (-1 : Int32)))))))) else ((nI (10 * j)) + (FX8_bitAt (((FX6_aboveOf w6 ((nI j))) &&& ((FX6_neighbours Na w2 j) ^^^ (-1 : Int32)))) ((w1 - v3)))))))
def LX8_newLine_7 (Na : NV) (w1 : Int32) (K : Int32 → Int32 → Int32) : Nat → Nat → Int32 → Int32 → Int32
  | 0, _, v2, v3 => K v2 v3
  | k + 1, j, v2, v3 => (LX8_newLine_37 Na w1 v2 j ((Na.2.2.2.1 j).toNatClampNeg) ((FX6_neighbours Na v2 ((Na.2.2.2.1 j).toNatClampNeg))) (fun u7 => (LX8_newLine_7 Na w1 K k (j + 1) ((v2 ||| ((1 : Int32) <<< ((nI ((Na.2.2.2.1 j).toNatClampNeg)) &&& 31)))) u7)) (Na.1 - 0) 0 v3)
set_option maxHeartbeats 4000000 in
set_option maxRecDepth 100000 in
theorem LX8_newLine_37_s (G : xG) {M : xMem} {a : Nat} {Na : NV} (ha : xnet M a Na) (ka : Na.1 ≤ 9) (oa : NO Na) (w1 : Int32) (w2 : Int32) (n4 : Nat) (bn4 : n4 < 9) (n5 : Nat) (bn5 : n5 < 9) (w6 : Int32) (Q : Int32 → Prop) (K : Int32 → Int32) (HE : ∀ (v3 : Int32), Q (K v3) → xW G mX8_newLine (xrm 1 0 0) (xQ G (fun v M2 => ∃ r, v = some (.int r) ∧ Q r ∧ M2 = M) 0 0) 125 [(0, .ref a), (1, .int w1), (2, .int w2), (3, .int v3), (4, .int (nI n4)), (5, .int (nI n5))] [] M 0 0) :
    ∀ (k j : Nat) (v3 : Int32), Na.1 - j = k → j < 100000 → Q (LX8_newLine_37 Na w1 w2 n4 n5 w6 K k j v3) → xW G mX8_newLine (xrm 1 0 0) (xQ G (fun v M2 => ∃ r, v = some (.int r) ∧ Q r ∧ M2 = M) 0 0) 37 [(0, .ref a), (1, .int w1), (2, .int w2), (3, .int v3), (4, .int (nI n4)), (5, .int (nI n5)), (6, .int w6), (7, .int (nI j))] [] M 0 0 := by
  intro k
  induction k with
  | zero =>
    intro j v3 hj hj2 hq
    rw [LX8_newLine_37] at hq
    refine xi_iload 7 dX8_newLine_37 rfl ?_
    refine xi_aload_n 0 dX8_newLine_39 rfl ?_
    refine xi_get (f := 0) dX8_newLine_40 ha.1 rfl ok_5 (by decide) w_63 rfl ?_
    refine xi_icmp_ge_t (tgt := 125) dX8_newLine_43 (by decide) (nI_le (a := Na.1) (b := j) (by omega) (by omega)) ?_
    refine xi_sub (lv' := [(0, .ref a), (1, .int w1), (2, .int w2), (3, .int v3), (4, .int (nI n4)), (5, .int (nI n5))]) [0, 1, 2, 3, 4, 5] rfl ?_
    exact HE v3 hq
  | succ k ih =>
    intro j v3 hj hj2 hq
    rw [LX8_newLine_37] at hq
    refine xi_iload 7 dX8_newLine_37 rfl ?_
    refine xi_aload_n 0 dX8_newLine_39 rfl ?_
    refine xi_get (f := 0) dX8_newLine_40 ha.1 rfl ok_5 (by decide) w_63 rfl ?_
    refine xi_icmp_ge_f (tgt := 125) dX8_newLine_43 (by decide) (nI_ge (a := j) (b := Na.1) (by omega) (by omega)) ?_
    refine xi_iload 6 dX8_newLine_46 rfl ?_
    refine xi_iload 7 dX8_newLine_48 rfl ?_
    refine xi_ishr (v := (w6 >>> ((nI j) &&& 31))) dX8_newLine_50 rfl ?_
    refine xi_iconst (v := 1) dX8_newLine_51 (by decide) ?_
    refine xi_iand (v := ((w6 >>> ((nI j) &&& 31)) &&& (1 : Int32))) dX8_newLine_52 rfl ?_
    refine xi_if_ne (tgt := 60) dX8_newLine_53 (by decide) (fun c2 => ?_) (fun c2 => ?_)
    · rw [if_neg c2] at hq
      refine xi_iload 6 dX8_newLine_60 rfl ?_
      refine xi_iload 7 dX8_newLine_62 rfl ?_
      refine xi_callS (as := [.int w6, .int (nI j)]) (rest := []) dX8_newLine_64 (FX6_aboveOf_ok G w6 ((nI j)) (fun r => r = FX6_aboveOf w6 ((nI j))) rfl) mkX6_aboveOf w_605 w_856 rfl rfl (Nat.le_of_ble_eq_true rfl) (Nat.le_of_ble_eq_true rfl) (Nat.le_of_ble_eq_true rfl) (Nat.le_of_ble_eq_true rfl) (Nat.le_of_ble_eq_true rfl) ?_
      intro v M2 hz
      obtain ⟨_, rfl, rfl, hM2⟩ := hz
      rw [hM2]
      show xW _ _ _ _ 67 _ [.int (FX6_aboveOf w6 ((nI j)))] M _ _
      refine xi_aload_n 0 dX8_newLine_67 rfl ?_
      refine xi_iload_n 2 dX8_newLine_68 rfl ?_
      refine xi_iload 7 dX8_newLine_69 rfl ?_
      refine xi_callS (as := [.ref a, .int w2, .int (nI j)]) (rest := [.int (FX6_aboveOf w6 ((nI j)))]) dX8_newLine_71 (FX6_neighbours_ok G ha ka w2 j (by omega) (fun r => r = FX6_neighbours Na w2 j) rfl) mkX6_neighbours w_599 w_848 rfl rfl (Nat.le_of_ble_eq_true rfl) (Nat.le_of_ble_eq_true rfl) (Nat.le_of_ble_eq_true rfl) (Nat.le_of_ble_eq_true rfl) (Nat.le_of_ble_eq_true rfl) ?_
      intro v M2 hz
      obtain ⟨_, rfl, rfl, hM2⟩ := hz
      rw [hM2]
      show xW _ _ _ _ 74 _ [.int (FX6_neighbours Na w2 j), .int (FX6_aboveOf w6 ((nI j)))] M _ _
      refine xi_iconst (v := (-1)) dX8_newLine_74 (by decide) ?_
      refine xi_ixor (v := ((FX6_neighbours Na w2 j) ^^^ (-1 : Int32))) dX8_newLine_75 rfl ?_
      refine xi_iand (v := ((FX6_aboveOf w6 ((nI j))) &&& ((FX6_neighbours Na w2 j) ^^^ (-1 : Int32)))) dX8_newLine_76 rfl ?_
      refine xi_istore (lv' := [(8, .int ((FX6_aboveOf w6 ((nI j))) &&& ((FX6_neighbours Na w2 j) ^^^ (-1 : Int32)))), (0, .ref a), (1, .int w1), (2, .int w2), (3, .int v3), (4, .int (nI n4)), (5, .int (nI n5)), (6, .int w6), (7, .int (nI j))]) dX8_newLine_77 (by decide) rfl ?_
      refine xi_iload 0 dX8_newLine_79 rfl ?_
      refine xi_callS (as := [.int ((FX6_aboveOf w6 ((nI j))) &&& ((FX6_neighbours Na w2 j) ^^^ (-1 : Int32)))]) (rest := []) dX8_newLine_81 (FJ6_bitCount_0f7a4_ok G (((FX6_aboveOf w6 ((nI j))) &&& ((FX6_neighbours Na w2 j) ^^^ (-1 : Int32)))) (fun r => r = FJ6_bitCount_0f7a4 (((FX6_aboveOf w6 ((nI j))) &&& ((FX6_neighbours Na w2 j) ^^^ (-1 : Int32))))) rfl) mkJ6_bitCount_0f7a4 w_508 w_857 rfl rfl (Nat.le_of_ble_eq_true rfl) (Nat.le_of_ble_eq_true rfl) (Nat.le_of_ble_eq_true rfl) (Nat.le_of_ble_eq_true rfl) (Nat.le_of_ble_eq_true rfl) ?_
      intro v M2 hz
      obtain ⟨_, rfl, rfl, hM2⟩ := hz
      rw [hM2]
      show xW _ _ _ _ 84 _ [.int (FJ6_bitCount_0f7a4 (((FX6_aboveOf w6 ((nI j))) &&& ((FX6_neighbours Na w2 j) ^^^ (-1 : Int32)))))] M _ _
      refine xi_istore (lv' := [(9, .int (FJ6_bitCount_0f7a4 (((FX6_aboveOf w6 ((nI j))) &&& ((FX6_neighbours Na w2 j) ^^^ (-1 : Int32)))))), (8, .int ((FX6_aboveOf w6 ((nI j))) &&& ((FX6_neighbours Na w2 j) ^^^ (-1 : Int32)))), (0, .ref a), (1, .int w1), (2, .int w2), (3, .int v3), (4, .int (nI n4)), (5, .int (nI n5)), (6, .int w6), (7, .int (nI j))]) dX8_newLine_84 (by decide) rfl ?_
      refine xi_iload_n 3 dX8_newLine_86 rfl ?_
      refine xi_iload_n 5 dX8_newLine_87 rfl ?_
      refine xi_icmp_lt (tgt := 114) dX8_newLine_88 (by decide) (fun c3 => ?_) (fun c3 => ?_)
      · rw [if_pos c3] at hq
        refine xi_iload_n 5 dX8_newLine_114 rfl ?_
        refine xi_iload 0 dX8_newLine_115 rfl ?_
        refine xi_iadd (v := (v3 + (FJ6_bitCount_0f7a4 (((FX6_aboveOf w6 ((nI j))) &&& ((FX6_neighbours Na w2 j) ^^^ (-1 : Int32))))))) dX8_newLine_117 rfl ?_
        refine xi_istore_n (lv' := [(3, .int (v3 + (FJ6_bitCount_0f7a4 (((FX6_aboveOf w6 ((nI j))) &&& ((FX6_neighbours Na w2 j) ^^^ (-1 : Int32))))))), (9, .int (FJ6_bitCount_0f7a4 (((FX6_aboveOf w6 ((nI j))) &&& ((FX6_neighbours Na w2 j) ^^^ (-1 : Int32)))))), (8, .int ((FX6_aboveOf w6 ((nI j))) &&& ((FX6_neighbours Na w2 j) ^^^ (-1 : Int32)))), (0, .ref a), (1, .int w1), (2, .int w2), (4, .int (nI n4)), (5, .int (nI n5)), (6, .int w6), (7, .int (nI j))]) dX8_newLine_118 (by decide) rfl ?_
        refine xi_iinc (v := (nI (j + 1))) (lv' := [(7, .int (nI (j + 1))), (3, .int (v3 + (FJ6_bitCount_0f7a4 (((FX6_aboveOf w6 ((nI j))) &&& ((FX6_neighbours Na w2 j) ^^^ (-1 : Int32))))))), (9, .int (FJ6_bitCount_0f7a4 (((FX6_aboveOf w6 ((nI j))) &&& ((FX6_neighbours Na w2 j) ^^^ (-1 : Int32)))))), (8, .int ((FX6_aboveOf w6 ((nI j))) &&& ((FX6_neighbours Na w2 j) ^^^ (-1 : Int32)))), (0, .ref a), (1, .int w1), (2, .int w2), (4, .int (nI n4)), (5, .int (nI n5)), (6, .int w6)]) 9 dX8_newLine_119 rfl (nI_1 _) (by decide) rfl ?_
        refine xi_goto (tgt := 37) dX8_newLine_122 (by decide) ?_
        refine xi_sub (lv' := [(0, .ref a), (1, .int w1), (2, .int w2), (3, .int (v3 + (FJ6_bitCount_0f7a4 (((FX6_aboveOf w6 ((nI j))) &&& ((FX6_neighbours Na w2 j) ^^^ (-1 : Int32))))))), (4, .int (nI n4)), (5, .int (nI n5)), (6, .int w6), (7, .int (nI (j + 1)))]) [4, 5, 6, 1, 7, 8, 9, 0] rfl ?_
        exact ih (j + 1) ((v3 + (FJ6_bitCount_0f7a4 (((FX6_aboveOf w6 ((nI j))) &&& ((FX6_neighbours Na w2 j) ^^^ (-1 : Int32))))))) (by omega) (by omega) hq
      · rw [if_neg c3] at hq
        refine xi_iload_n 3 dX8_newLine_91 rfl ?_
        refine xi_iload_n 5 dX8_newLine_92 rfl ?_
        refine xi_iload 0 dX8_newLine_93 rfl ?_
        refine xi_iadd (v := (v3 + (FJ6_bitCount_0f7a4 (((FX6_aboveOf w6 ((nI j))) &&& ((FX6_neighbours Na w2 j) ^^^ (-1 : Int32))))))) dX8_newLine_95 rfl ?_
        refine xi_icmp_ge (tgt := 114) dX8_newLine_96 (by decide) (fun c4 => ?_) (fun c4 => ?_)
        · rw [if_pos c4] at hq
          refine xi_iload_n 5 dX8_newLine_114 rfl ?_
          refine xi_iload 0 dX8_newLine_115 rfl ?_
          refine xi_iadd (v := (v3 + (FJ6_bitCount_0f7a4 (((FX6_aboveOf w6 ((nI j))) &&& ((FX6_neighbours Na w2 j) ^^^ (-1 : Int32))))))) dX8_newLine_117 rfl ?_
          refine xi_istore_n (lv' := [(3, .int (v3 + (FJ6_bitCount_0f7a4 (((FX6_aboveOf w6 ((nI j))) &&& ((FX6_neighbours Na w2 j) ^^^ (-1 : Int32))))))), (9, .int (FJ6_bitCount_0f7a4 (((FX6_aboveOf w6 ((nI j))) &&& ((FX6_neighbours Na w2 j) ^^^ (-1 : Int32)))))), (8, .int ((FX6_aboveOf w6 ((nI j))) &&& ((FX6_neighbours Na w2 j) ^^^ (-1 : Int32)))), (0, .ref a), (1, .int w1), (2, .int w2), (4, .int (nI n4)), (5, .int (nI n5)), (6, .int w6), (7, .int (nI j))]) dX8_newLine_118 (by decide) rfl ?_
          refine xi_iinc (v := (nI (j + 1))) (lv' := [(7, .int (nI (j + 1))), (3, .int (v3 + (FJ6_bitCount_0f7a4 (((FX6_aboveOf w6 ((nI j))) &&& ((FX6_neighbours Na w2 j) ^^^ (-1 : Int32))))))), (9, .int (FJ6_bitCount_0f7a4 (((FX6_aboveOf w6 ((nI j))) &&& ((FX6_neighbours Na w2 j) ^^^ (-1 : Int32)))))), (8, .int ((FX6_aboveOf w6 ((nI j))) &&& ((FX6_neighbours Na w2 j) ^^^ (-1 : Int32)))), (0, .ref a), (1, .int w1), (2, .int w2), (4, .int (nI n4)), (5, .int (nI n5)), (6, .int w6)]) 9 dX8_newLine_119 rfl (nI_1 _) (by decide) rfl ?_
          refine xi_goto (tgt := 37) dX8_newLine_122 (by decide) ?_
          refine xi_sub (lv' := [(0, .ref a), (1, .int w1), (2, .int w2), (3, .int (v3 + (FJ6_bitCount_0f7a4 (((FX6_aboveOf w6 ((nI j))) &&& ((FX6_neighbours Na w2 j) ^^^ (-1 : Int32))))))), (4, .int (nI n4)), (5, .int (nI n5)), (6, .int w6), (7, .int (nI (j + 1)))]) [4, 5, 6, 1, 7, 8, 9, 0] rfl ?_
          exact ih (j + 1) ((v3 + (FJ6_bitCount_0f7a4 (((FX6_aboveOf w6 ((nI j))) &&& ((FX6_neighbours Na w2 j) ^^^ (-1 : Int32))))))) (by omega) (by omega) hq
        · rw [if_neg c4] at hq
          refine xi_bipush (v := 10) dX8_newLine_99 (by decide) ?_
          refine xi_iload 9 dX8_newLine_101 rfl ?_
          refine xi_imul (v := (nI (10 * j))) dX8_newLine_103 (pk_mul 10 j) ?_
          refine xi_iload 1 dX8_newLine_104 rfl ?_
          refine xi_iload_n 3 dX8_newLine_106 rfl ?_
          refine xi_iload_n 5 dX8_newLine_107 rfl ?_
          refine xi_isub (v := (w1 - v3)) dX8_newLine_108 rfl ?_
          refine xi_callS (as := [.int ((FX6_aboveOf w6 ((nI j))) &&& ((FX6_neighbours Na w2 j) ^^^ (-1 : Int32))), .int (w1 - v3)]) (rest := [.int (nI (10 * j))]) dX8_newLine_109 (FX8_bitAt_ok G (((FX6_aboveOf w6 ((nI j))) &&& ((FX6_neighbours Na w2 j) ^^^ (-1 : Int32)))) ((w1 - v3)) (fun r => r = FX8_bitAt (((FX6_aboveOf w6 ((nI j))) &&& ((FX6_neighbours Na w2 j) ^^^ (-1 : Int32)))) ((w1 - v3))) rfl) mkX8_bitAt w_859 w_858 rfl rfl (Nat.le_of_ble_eq_true rfl) (Nat.le_of_ble_eq_true rfl) (Nat.le_of_ble_eq_true rfl) (Nat.le_of_ble_eq_true rfl) (Nat.le_of_ble_eq_true rfl) ?_
          intro v M2 hz
          obtain ⟨_, rfl, rfl, hM2⟩ := hz
          rw [hM2]
          show xW _ _ _ _ 112 _ [.int (FX8_bitAt (((FX6_aboveOf w6 ((nI j))) &&& ((FX6_neighbours Na w2 j) ^^^ (-1 : Int32)))) ((w1 - v3))), .int (nI (10 * j))] M _ _
          refine xi_iadd (v := ((nI (10 * j)) + (FX8_bitAt (((FX6_aboveOf w6 ((nI j))) &&& ((FX6_neighbours Na w2 j) ^^^ (-1 : Int32)))) ((w1 - v3))))) dX8_newLine_112 rfl ?_
          exact xi_iret dX8_newLine_113 rfl rfl (Nat.le_of_ble_eq_true rfl) (Nat.le_of_ble_eq_true rfl) ⟨_, rfl, hq, rfl⟩
    · rw [if_pos c2] at hq
      refine xi_iconst (v := 0) dX8_newLine_56 (by decide) ?_
      refine xi_goto (tgt := 77) dX8_newLine_57 (by decide) ?_
      refine xi_istore (lv' := [(8, .int 0), (0, .ref a), (1, .int w1), (2, .int w2), (3, .int v3), (4, .int (nI n4)), (5, .int (nI n5)), (6, .int w6), (7, .int (nI j))]) dX8_newLine_77 (by decide) rfl ?_
      refine xi_iload 0 dX8_newLine_79 rfl ?_
      refine xi_callS (as := [.int 0]) (rest := []) dX8_newLine_81 (FJ6_bitCount_0f7a4_ok G ((0 : Int32)) (fun r => r = FJ6_bitCount_0f7a4 ((0 : Int32))) rfl) mkJ6_bitCount_0f7a4 w_508 w_857 rfl rfl (Nat.le_of_ble_eq_true rfl) (Nat.le_of_ble_eq_true rfl) (Nat.le_of_ble_eq_true rfl) (Nat.le_of_ble_eq_true rfl) (Nat.le_of_ble_eq_true rfl) ?_
      intro v M2 hz
      obtain ⟨_, rfl, rfl, hM2⟩ := hz
      rw [hM2]
      show xW _ _ _ _ 84 _ [.int (FJ6_bitCount_0f7a4 ((0 : Int32)))] M _ _
      refine xi_istore (lv' := [(9, .int (FJ6_bitCount_0f7a4 ((0 : Int32)))), (8, .int 0), (0, .ref a), (1, .int w1), (2, .int w2), (3, .int v3), (4, .int (nI n4)), (5, .int (nI n5)), (6, .int w6), (7, .int (nI j))]) dX8_newLine_84 (by decide) rfl ?_
      refine xi_iload_n 3 dX8_newLine_86 rfl ?_
      refine xi_iload_n 5 dX8_newLine_87 rfl ?_
      refine xi_icmp_lt (tgt := 114) dX8_newLine_88 (by decide) (fun c5 => ?_) (fun c5 => ?_)
      · rw [if_pos c5] at hq
        refine xi_iload_n 5 dX8_newLine_114 rfl ?_
        refine xi_iload 0 dX8_newLine_115 rfl ?_
        refine xi_iadd (v := (v3 + (FJ6_bitCount_0f7a4 ((0 : Int32))))) dX8_newLine_117 rfl ?_
        refine xi_istore_n (lv' := [(3, .int (v3 + (FJ6_bitCount_0f7a4 ((0 : Int32))))), (9, .int (FJ6_bitCount_0f7a4 ((0 : Int32)))), (8, .int 0), (0, .ref a), (1, .int w1), (2, .int w2), (4, .int (nI n4)), (5, .int (nI n5)), (6, .int w6), (7, .int (nI j))]) dX8_newLine_118 (by decide) rfl ?_
        refine xi_iinc (v := (nI (j + 1))) (lv' := [(7, .int (nI (j + 1))), (3, .int (v3 + (FJ6_bitCount_0f7a4 ((0 : Int32))))), (9, .int (FJ6_bitCount_0f7a4 ((0 : Int32)))), (8, .int 0), (0, .ref a), (1, .int w1), (2, .int w2), (4, .int (nI n4)), (5, .int (nI n5)), (6, .int w6)]) 9 dX8_newLine_119 rfl (nI_1 _) (by decide) rfl ?_
        refine xi_goto (tgt := 37) dX8_newLine_122 (by decide) ?_
        refine xi_sub (lv' := [(0, .ref a), (1, .int w1), (2, .int w2), (3, .int (v3 + (FJ6_bitCount_0f7a4 ((0 : Int32))))), (4, .int (nI n4)), (5, .int (nI n5)), (6, .int w6), (7, .int (nI (j + 1)))]) [4, 5, 6, 1, 7, 8, 9, 0] rfl ?_
        exact ih (j + 1) ((v3 + (FJ6_bitCount_0f7a4 ((0 : Int32))))) (by omega) (by omega) hq
      · rw [if_neg c5] at hq
        refine xi_iload_n 3 dX8_newLine_91 rfl ?_
        refine xi_iload_n 5 dX8_newLine_92 rfl ?_
        refine xi_iload 0 dX8_newLine_93 rfl ?_
        refine xi_iadd (v := (v3 + (FJ6_bitCount_0f7a4 ((0 : Int32))))) dX8_newLine_95 rfl ?_
        refine xi_icmp_ge (tgt := 114) dX8_newLine_96 (by decide) (fun c6 => ?_) (fun c6 => ?_)
        · rw [if_pos c6] at hq
          refine xi_iload_n 5 dX8_newLine_114 rfl ?_
          refine xi_iload 0 dX8_newLine_115 rfl ?_
          refine xi_iadd (v := (v3 + (FJ6_bitCount_0f7a4 ((0 : Int32))))) dX8_newLine_117 rfl ?_
          refine xi_istore_n (lv' := [(3, .int (v3 + (FJ6_bitCount_0f7a4 ((0 : Int32))))), (9, .int (FJ6_bitCount_0f7a4 ((0 : Int32)))), (8, .int 0), (0, .ref a), (1, .int w1), (2, .int w2), (4, .int (nI n4)), (5, .int (nI n5)), (6, .int w6), (7, .int (nI j))]) dX8_newLine_118 (by decide) rfl ?_
          refine xi_iinc (v := (nI (j + 1))) (lv' := [(7, .int (nI (j + 1))), (3, .int (v3 + (FJ6_bitCount_0f7a4 ((0 : Int32))))), (9, .int (FJ6_bitCount_0f7a4 ((0 : Int32)))), (8, .int 0), (0, .ref a), (1, .int w1), (2, .int w2), (4, .int (nI n4)), (5, .int (nI n5)), (6, .int w6)]) 9 dX8_newLine_119 rfl (nI_1 _) (by decide) rfl ?_
          refine xi_goto (tgt := 37) dX8_newLine_122 (by decide) ?_
          refine xi_sub (lv' := [(0, .ref a), (1, .int w1), (2, .int w2), (3, .int (v3 + (FJ6_bitCount_0f7a4 ((0 : Int32))))), (4, .int (nI n4)), (5, .int (nI n5)), (6, .int w6), (7, .int (nI (j + 1)))]) [4, 5, 6, 1, 7, 8, 9, 0] rfl ?_
          exact ih (j + 1) ((v3 + (FJ6_bitCount_0f7a4 ((0 : Int32))))) (by omega) (by omega) hq
        · rw [if_neg c6] at hq
          refine xi_bipush (v := 10) dX8_newLine_99 (by decide) ?_
          refine xi_iload 9 dX8_newLine_101 rfl ?_
          refine xi_imul (v := (nI (10 * j))) dX8_newLine_103 (pk_mul 10 j) ?_
          refine xi_iload 1 dX8_newLine_104 rfl ?_
          refine xi_iload_n 3 dX8_newLine_106 rfl ?_
          refine xi_iload_n 5 dX8_newLine_107 rfl ?_
          refine xi_isub (v := (w1 - v3)) dX8_newLine_108 rfl ?_
          refine xi_callS (as := [.int 0, .int (w1 - v3)]) (rest := [.int (nI (10 * j))]) dX8_newLine_109 (FX8_bitAt_ok G ((0 : Int32)) ((w1 - v3)) (fun r => r = FX8_bitAt ((0 : Int32)) ((w1 - v3))) rfl) mkX8_bitAt w_859 w_858 rfl rfl (Nat.le_of_ble_eq_true rfl) (Nat.le_of_ble_eq_true rfl) (Nat.le_of_ble_eq_true rfl) (Nat.le_of_ble_eq_true rfl) (Nat.le_of_ble_eq_true rfl) ?_
          intro v M2 hz
          obtain ⟨_, rfl, rfl, hM2⟩ := hz
          rw [hM2]
          show xW _ _ _ _ 112 _ [.int (FX8_bitAt ((0 : Int32)) ((w1 - v3))), .int (nI (10 * j))] M _ _
          refine xi_iadd (v := ((nI (10 * j)) + (FX8_bitAt ((0 : Int32)) ((w1 - v3))))) dX8_newLine_112 rfl ?_
          exact xi_iret dX8_newLine_113 rfl rfl (Nat.le_of_ble_eq_true rfl) (Nat.le_of_ble_eq_true rfl) ⟨_, rfl, hq, rfl⟩
set_option maxHeartbeats 4000000 in
set_option maxRecDepth 100000 in
theorem LX8_newLine_7_s (G : xG) {M : xMem} {a : Nat} {Na : NV} (ha : xnet M a Na) (ka : Na.1 ≤ 9) (oa : NO Na) (w1 : Int32) (Q : Int32 → Prop) (K : Int32 → Int32 → Int32) (HE : ∀ (v2 : Int32) (v3 : Int32), Q (K v2 v3) → xW G mX8_newLine (xrm 1 0 0) (xQ G (fun v M2 => ∃ r, v = some (.int r) ∧ Q r ∧ M2 = M) 0 0) 138 [(1, .int w1), (3, .int v3)] [] M 0 0) :
    ∀ (k j : Nat) (v2 : Int32) (v3 : Int32), Na.1 - j = k → j < 100000 → Q (LX8_newLine_7 Na w1 K k j v2 v3) → xW G mX8_newLine (xrm 1 0 0) (xQ G (fun v M2 => ∃ r, v = some (.int r) ∧ Q r ∧ M2 = M) 0 0) 7 [(0, .ref a), (1, .int w1), (2, .int v2), (3, .int v3), (4, .int (nI j))] [] M 0 0 := by
  intro k
  induction k with
  | zero =>
    intro j v2 v3 hj hj2 hq
    rw [LX8_newLine_7] at hq
    refine xi_iload 4 dX8_newLine_7 rfl ?_
    refine xi_aload_n 0 dX8_newLine_9 rfl ?_
    refine xi_get (f := 0) dX8_newLine_10 ha.1 rfl ok_5 (by decide) w_63 rfl ?_
    refine xi_icmp_ge_t (tgt := 138) dX8_newLine_13 (by decide) (nI_le (a := Na.1) (b := j) (by omega) (by omega)) ?_
    refine xi_sub (lv' := [(1, .int w1), (3, .int v3)]) [1, 3] rfl ?_
    exact HE v2 v3 hq
  | succ k ih =>
    intro j v2 v3 hj hj2 hq
    rw [LX8_newLine_7] at hq
    refine xi_iload 4 dX8_newLine_7 rfl ?_
    refine xi_aload_n 0 dX8_newLine_9 rfl ?_
    refine xi_get (f := 0) dX8_newLine_10 ha.1 rfl ok_5 (by decide) w_63 rfl ?_
    refine xi_icmp_ge_f (tgt := 138) dX8_newLine_13 (by decide) (nI_ge (a := j) (b := Na.1) (by omega) (by omega)) ?_
    refine xi_aload_n 0 dX8_newLine_16 rfl ?_
    refine xi_get (f := 3) dX8_newLine_17 ha.1 rfl ok_5 (by decide) w_79 rfl ?_
    refine xi_iload 4 dX8_newLine_20 rfl ?_
    have o1 := (oa j (by omega)).2
    refine xi_iaload (v := (nI ((Na.2.2.2.1 j).toNatClampNeg))) dX8_newLine_22 ha.2.2.1 (vp_in_nI (by omega) (by decide)) (by rw [nI_clamp (by omega)]; exact (oa j (by omega)).1) ?_
    refine xi_istore (lv' := [(5, .int (nI ((Na.2.2.2.1 j).toNatClampNeg))), (0, .ref a), (1, .int w1), (2, .int v2), (3, .int v3), (4, .int (nI j))]) dX8_newLine_23 (by decide) rfl ?_
    refine xi_aload_n 1 dX8_newLine_25 rfl ?_
    refine xi_iload_n 3 dX8_newLine_26 rfl ?_
    refine xi_iload 0 dX8_newLine_27 rfl ?_
    refine xi_callS (as := [.ref a, .int v2, .int (nI ((Na.2.2.2.1 j).toNatClampNeg))]) (rest := []) dX8_newLine_29 (FX6_neighbours_ok G ha ka v2 ((Na.2.2.2.1 j).toNatClampNeg) (by omega) (fun r => r = FX6_neighbours Na v2 ((Na.2.2.2.1 j).toNatClampNeg)) rfl) mkX6_neighbours w_599 w_848 rfl rfl (Nat.le_of_ble_eq_true rfl) (Nat.le_of_ble_eq_true rfl) (Nat.le_of_ble_eq_true rfl) (Nat.le_of_ble_eq_true rfl) (Nat.le_of_ble_eq_true rfl) ?_
    intro v M2 hz
    obtain ⟨_, rfl, rfl, hM2⟩ := hz
    rw [hM2]
    show xW _ _ _ _ 32 _ [.int (FX6_neighbours Na v2 ((Na.2.2.2.1 j).toNatClampNeg))] M _ _
    refine xi_istore (lv' := [(6, .int (FX6_neighbours Na v2 ((Na.2.2.2.1 j).toNatClampNeg))), (5, .int (nI ((Na.2.2.2.1 j).toNatClampNeg))), (0, .ref a), (1, .int w1), (2, .int v2), (3, .int v3), (4, .int (nI j))]) dX8_newLine_32 (by decide) rfl ?_
    refine xi_iconst (v := 0) dX8_newLine_34 (by decide) ?_
    refine xi_istore (lv' := [(7, .int 0), (6, .int (FX6_neighbours Na v2 ((Na.2.2.2.1 j).toNatClampNeg))), (5, .int (nI ((Na.2.2.2.1 j).toNatClampNeg))), (0, .ref a), (1, .int w1), (2, .int v2), (3, .int v3), (4, .int (nI j))]) dX8_newLine_35 (by decide) rfl ?_
    refine xi_sub (lv' := [(0, .ref a), (1, .int w1), (2, .int v2), (3, .int v3), (4, .int (nI j)), (5, .int (nI ((Na.2.2.2.1 j).toNatClampNeg))), (6, .int (FX6_neighbours Na v2 ((Na.2.2.2.1 j).toNatClampNeg))), (7, .int 0)]) [3, 4, 5, 6, 7, 2, 1, 0] rfl ?_
    refine LX8_newLine_37_s G ha ka oa w1 v2 j (by omega) ((Na.2.2.2.1 j).toNatClampNeg) (by omega) ((FX6_neighbours Na v2 ((Na.2.2.2.1 j).toNatClampNeg))) Q _ (fun u7 hq => ?_) (Na.1 - 0) 0 v3 rfl (by omega) hq
    refine xi_iload_n 2 dX8_newLine_125 rfl ?_
    refine xi_iconst (v := 1) dX8_newLine_126 (by decide) ?_
    refine xi_iload 5 dX8_newLine_127 rfl ?_
    refine xi_ishl (v := ((1 : Int32) <<< ((nI ((Na.2.2.2.1 j).toNatClampNeg)) &&& 31))) dX8_newLine_129 rfl ?_
    refine xi_ior (v := (v2 ||| ((1 : Int32) <<< ((nI ((Na.2.2.2.1 j).toNatClampNeg)) &&& 31)))) dX8_newLine_130 rfl ?_
    refine xi_istore_n (lv' := [(2, .int (v2 ||| ((1 : Int32) <<< ((nI ((Na.2.2.2.1 j).toNatClampNeg)) &&& 31)))), (0, .ref a), (1, .int w1), (3, .int u7), (4, .int (nI j)), (5, .int (nI ((Na.2.2.2.1 j).toNatClampNeg)))]) dX8_newLine_131 (by decide) rfl ?_
    refine xi_iinc (v := (nI (j + 1))) (lv' := [(4, .int (nI (j + 1))), (2, .int (v2 ||| ((1 : Int32) <<< ((nI ((Na.2.2.2.1 j).toNatClampNeg)) &&& 31)))), (0, .ref a), (1, .int w1), (3, .int u7), (5, .int (nI ((Na.2.2.2.1 j).toNatClampNeg)))]) 4 dX8_newLine_132 rfl (nI_1 _) (by decide) rfl ?_
    refine xi_goto (tgt := 7) dX8_newLine_135 (by decide) ?_
    refine xi_sub (lv' := [(0, .ref a), (1, .int w1), (2, .int (v2 ||| ((1 : Int32) <<< ((nI ((Na.2.2.2.1 j).toNatClampNeg)) &&& 31)))), (3, .int u7), (4, .int (nI (j + 1)))]) [2, 3, 1, 4, 0] rfl ?_
    exact ih (j + 1) ((v2 ||| ((1 : Int32) <<< ((nI ((Na.2.2.2.1 j).toNatClampNeg)) &&& 31)))) u7 (by omega) (by omega) hq
def FX8_newLine (Na : NV) (q : Int32) : Int32 := (LX8_newLine_7 Na q (fun u8 u9 => (if q = (-1 : Int32) then u9 else (-1 : Int32))) (Na.1 - 0) 0 ((0 : Int32)) ((0 : Int32)))
set_option maxHeartbeats 4000000 in
set_option maxRecDepth 100000 in
theorem FX8_newLine_ok (G : xG) {M : xMem} {a : Nat} {Na : NV} (ha : xnet M a Na) (ka : Na.1 ≤ 9) (oa : NO Na) (q : Int32) (Q : Int32 → Prop) (hq : Q (FX8_newLine Na q)) : xC G mX8_newLine 1 0 0 [.ref a, .int q] M (fun v M2 => ∃ r, v = some (.int r) ∧ Q r ∧ M2 = M) := by
  unfold FX8_newLine at hq
  refine xC.of (by decide) (Nat.le_of_ble_eq_true rfl) ?_
  show xW _ _ _ _ 0 [(0, .ref a), (1, .int q)] [] _ 0 0
  refine xi_iconst (v := 0) dX8_newLine_0 (by decide) ?_
  refine xi_istore_n (lv' := [(2, .int 0), (0, .ref a), (1, .int q)]) dX8_newLine_1 (by decide) rfl ?_
  refine xi_iconst (v := 0) dX8_newLine_2 (by decide) ?_
  refine xi_istore_n (lv' := [(3, .int 0), (2, .int 0), (0, .ref a), (1, .int q)]) dX8_newLine_3 (by decide) rfl ?_
  refine xi_iconst (v := 0) dX8_newLine_4 (by decide) ?_
  refine xi_istore (lv' := [(4, .int 0), (3, .int 0), (2, .int 0), (0, .ref a), (1, .int q)]) dX8_newLine_5 (by decide) rfl ?_
  refine xi_sub (lv' := [(0, .ref a), (1, .int q), (2, .int 0), (3, .int 0), (4, .int 0)]) [3, 4, 2, 1, 0] rfl ?_
  refine LX8_newLine_7_s G ha ka oa q Q _ (fun u8 u9 hq => ?_) (Na.1 - 0) 0 ((0 : Int32)) ((0 : Int32)) rfl (by omega) hq
  refine xi_iload_n 0 dX8_newLine_138 rfl ?_
  refine xi_iconst (v := (-1)) dX8_newLine_139 (by decide) ?_
  refine xi_icmp_ne (tgt := 147) dX8_newLine_140 (by decide) (fun c10 => ?_) (fun c10 => ?_)
  · rw [if_neg c10] at hq
    refine xi_iconst (v := (-1)) dX8_newLine_147 (by decide) ?_
    exact xi_iret dX8_newLine_148 rfl rfl (Nat.le_of_ble_eq_true rfl) (Nat.le_of_ble_eq_true rfl) ⟨_, rfl, hq, rfl⟩
  · rw [if_pos c10] at hq
    refine xi_iload_n 1 dX8_newLine_143 rfl ?_
    refine xi_goto (tgt := 148) dX8_newLine_144 (by decide) ?_
    exact xi_iret dX8_newLine_148 rfl rfl (Nat.le_of_ble_eq_true rfl) (Nat.le_of_ble_eq_true rfl) ⟨_, rfl, hq, rfl⟩
def LX9_lowest_2 (w0 : Int32) (K : Int32) : Nat → Nat → Int32
  | 0, _ => K
  | k + 1, j => (if ((w0 >>> ((nI j) &&& 31)) &&& (1 : Int32)) = (0 : Int32) then (LX9_lowest_2 w0 K k (j + 1)) else (nI j))
set_option maxHeartbeats 4000000 in
set_option maxRecDepth 100000 in
theorem LX9_lowest_2_s (G : xG) {M : xMem} (w0 : Int32) (Q : Int32 → Prop) (K : Int32) (HE : Q (K) → xW G mX9_lowest (xrm 0 0 0) (xQ G (fun v M2 => ∃ r, v = some (.int r) ∧ Q r ∧ M2 = M) 0 0) 24 [] [] M 0 0) :
    ∀ (k j : Nat), 9 - j = k → j < 100000 → Q (LX9_lowest_2 w0 K k j) → xW G mX9_lowest (xrm 0 0 0) (xQ G (fun v M2 => ∃ r, v = some (.int r) ∧ Q r ∧ M2 = M) 0 0) 2 [(0, .int w0), (1, .int (nI j))] [] M 0 0 := by
  intro k
  induction k with
  | zero =>
    intro j hj hj2 hq
    rw [LX9_lowest_2] at hq
    refine xi_iload_n 1 dX9_lowest_2 rfl ?_
    refine xi_bipush (v := 9) dX9_lowest_3 (by decide) ?_
    refine xi_icmp_ge_t (tgt := 24) dX9_lowest_5 (by decide) (nI_le (a := 9) (b := j) (by omega) (by omega)) ?_
    refine xi_sub (lv' := []) [] rfl ?_
    exact HE hq
  | succ k ih =>
    intro j hj hj2 hq
    rw [LX9_lowest_2] at hq
    refine xi_iload_n 1 dX9_lowest_2 rfl ?_
    refine xi_bipush (v := 9) dX9_lowest_3 (by decide) ?_
    refine xi_icmp_ge_f (tgt := 24) dX9_lowest_5 (by decide) (nI_ge (a := j) (b := 9) (by omega) (by omega)) ?_
    refine xi_iload_n 0 dX9_lowest_8 rfl ?_
    refine xi_iload_n 1 dX9_lowest_9 rfl ?_
    refine xi_ishr (v := (w0 >>> ((nI j) &&& 31))) dX9_lowest_10 rfl ?_
    refine xi_iconst (v := 1) dX9_lowest_11 (by decide) ?_
    refine xi_iand (v := ((w0 >>> ((nI j) &&& 31)) &&& (1 : Int32))) dX9_lowest_12 rfl ?_
    refine xi_if_eq (tgt := 18) dX9_lowest_13 (by decide) (fun c1 => ?_) (fun c1 => ?_)
    · rw [if_pos c1] at hq
      refine xi_iinc (v := (nI (j + 1))) (lv' := [(1, .int (nI (j + 1))), (0, .int w0)]) 1 dX9_lowest_18 rfl (nI_1 _) (by decide) rfl ?_
      refine xi_goto (tgt := 2) dX9_lowest_21 (by decide) ?_
      refine xi_sub (lv' := [(0, .int w0), (1, .int (nI (j + 1)))]) [1, 0] rfl ?_
      exact ih (j + 1) (by omega) (by omega) hq
    · rw [if_neg c1] at hq
      refine xi_iload_n 1 dX9_lowest_16 rfl ?_
      exact xi_iret dX9_lowest_17 rfl rfl (Nat.le_of_ble_eq_true rfl) (Nat.le_of_ble_eq_true rfl) ⟨_, rfl, hq, rfl⟩
def FX9_lowest (x : Int32) : Int32 := (LX9_lowest_2 x ((0 : Int32)) (9 - 0) 0)
set_option maxHeartbeats 4000000 in
set_option maxRecDepth 100000 in
theorem FX9_lowest_ok (G : xG) {M : xMem} (x : Int32) (Q : Int32 → Prop) (hq : Q (FX9_lowest x)) : xC G mX9_lowest 0 0 0 [.int x] M (fun v M2 => ∃ r, v = some (.int r) ∧ Q r ∧ M2 = M) := by
  unfold FX9_lowest at hq
  refine xC.of (by decide) (Nat.le_of_ble_eq_true rfl) ?_
  show xW _ _ _ _ 0 [(0, .int x)] [] _ 0 0
  refine xi_iconst (v := 0) dX9_lowest_0 (by decide) ?_
  refine xi_istore_n (lv' := [(1, .int 0), (0, .int x)]) dX9_lowest_1 (by decide) rfl ?_
  refine xi_sub (lv' := [(0, .int x), (1, .int 0)]) [1, 0] rfl ?_
  refine LX9_lowest_2_s G x Q _ (fun hq => ?_) (9 - 0) 0 rfl (by omega) hq
  refine xi_iconst (v := 0) dX9_lowest_24 (by decide) ?_
  exact xi_iret dX9_lowest_25 rfl rfl (Nat.le_of_ble_eq_true rfl) (Nat.le_of_ble_eq_true rfl) ⟨_, rfl, hq, rfl⟩
