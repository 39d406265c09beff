/-! methods that change a net (printed by wip/p2/gen10.py) -/
def FX5_setWeight (n : Nat) (l : Int32) (nr : Nat → Int32) (od : Nat → Int32) (wt : Nat → Int32) (p : Nat) (q : Nat) (x : Int32) : Int32 × Int32 × (Nat → Int32) × (Nat → Int32) := (if (FX5_weightOf (n, l, nr, od, wt) p q) ≤ (0 : Int32) then (if x ≤ (0 : Int32) then (0, l, upd (upd nr p (((nr p) &&& (((1 : Int32) <<< ((nI q) &&& 31)) ^^^ (-1 : Int32))))) q ((((upd nr p (((nr p) &&& (((1 : Int32) <<< ((nI q) &&& 31)) ^^^ (-1 : Int32))))) q) &&& (((1 : Int32) <<< ((nI p) &&& 31)) ^^^ (-1 : Int32)))), upd (upd wt ((p * 9) + q) x) ((q * 9) + p) x) else (0, (l + (1 : Int32)), upd (upd nr p (((nr p) ||| ((1 : Int32) <<< ((nI q) &&& 31))))) q ((((upd nr p (((nr p) ||| ((1 : Int32) <<< ((nI q) &&& 31))))) q) ||| ((1 : Int32) <<< ((nI p) &&& 31)))), upd (upd wt ((p * 9) + q) x) ((q * 9) + p) x)) else (if x ≤ (0 : Int32) then (0, (l - (1 : Int32)), upd (upd nr p (((nr p) &&& (((1 : Int32) <<< ((nI q) &&& 31)) ^^^ (-1 : Int32))))) q ((((upd nr p (((nr p) &&& (((1 : Int32) <<< ((nI q) &&& 31)) ^^^ (-1 : Int32))))) q) &&& (((1 : Int32) <<< ((nI p) &&& 31)) ^^^ (-1 : Int32)))), upd (upd wt ((p * 9) + q) x) ((q * 9) + p) x) else (0, (((l - (1 : Int32))) + (1 : Int32)), upd (upd nr p (((nr p) ||| ((1 : Int32) <<< ((nI q) &&& 31))))) q ((((upd nr p (((nr p) ||| ((1 : Int32) <<< ((nI q) &&& 31))))) q) ||| ((1 : Int32) <<< ((nI p) &&& 31)))), upd (upd wt ((p * 9) + q) x) ((q * 9) + p) x)))
set_option maxHeartbeats 4000000 in
set_option maxRecDepth 100000 in
theorem FX5_setWeight_ok (G : xG) {P R : xMem} {L : Nat} (hP : P.length = L) (n : Nat) (l : Int32) (nr : Nat → Int32) (od : Nat → Int32) (wt : Nat → Int32) (bn : n ≤ 9) (p : Nat) (bp : p < 9) (q : Nat) (bq : q < 9) (x : Int32) (M : xMem) (hM : M = (P ++ ([.inr (5, [.int (nI n), .int l, .ref (L + 1), .ref (L + 2), .ref (L + 3)]), .inl (0, 9, .inl nr), .inl (0, 9, .inl od), .inl (0, 81, .inl wt)] ++ R))) (Q : Int32 × Int32 × (Nat → Int32) × (Nat → Int32) → Prop) (hq : Q (FX5_setWeight n l nr od wt p q x)) : xC G mX5_setWeight 1 0 0 [.ref L, .int (nI p), .int (nI q), .int x] M (fun v M2 => ∃ o : Int32 × Int32 × (Nat → Int32) × (Nat → Int32), v = none ∧ Q o ∧ M2 = (P ++ ([.inr (5, [.int (nI n), .int o.2.1, .ref (L + 1), .ref (L + 2), .ref (L + 3)]), .inl (0, 9, .inl o.2.2.1), .inl (0, 9, .inl od), .inl (0, 81, .inl o.2.2.2)] ++ R))) := by
  subst hM
  unfold FX5_setWeight at hq
  refine xC.of (by decide) (Nat.le_of_ble_eq_true rfl) ?_
  show xW _ _ _ _ 0 [(0, .ref L), (1, .int (nI p)), (2, .int (nI q)), (3, .int x)] [] _ 0 0
  refine xi_aload_n 0 dX5_setWeight_0 rfl ?_
  refine xi_iload_n 1 dX5_setWeight_1 rfl ?_
  refine xi_iload_n 2 dX5_setWeight_2 rfl ?_
  refine xi_callV (as := [.int (nI p), .int (nI q)]) (rest := []) dX5_setWeight_3 (FX5_weightOf_ok G (show xnet (P ++ ([.inr (5, [.int (nI n), .int l, .ref (L + 1), .ref (L + 2), .ref (L + 3)]), .inl (0, 9, .inl nr), .inl (0, 9, .inl od), .inl (0, 81, .inl wt)] ++ R)) L (n, l, nr, od, wt) from ⟨xpg0 hP rfl, xpg hP rfl, xpg hP rfl, xpg hP rfl⟩) (by show n ≤ 9; omega) p (by omega) q (by omega) (fun r => r = FX5_weightOf (n, l, nr, od, wt) p q) rfl) mkX5_weightOf w_415 w_416 w_426 (xpg0 hP rfl) rfl rfl rfl rfl (Nat.le_of_ble_eq_true rfl) (Nat.le_of_ble_eq_true rfl) (Nat.le_of_ble_eq_true rfl) (Nat.le_of_ble_eq_true rfl) (Nat.le_of_ble_eq_true rfl) ?_
  intro v M2 hz
  obtain ⟨_, rfl, rfl, hM2⟩ := hz
  rw [hM2]
  show xW _ _ _ _ 6 _ [.int (FX5_weightOf (n, l, nr, od, wt) p q)] (P ++ ([.inr (5, [.int (nI n), .int l, .ref (L + 1), .ref (L + 2), .ref (L + 3)]), .inl (0, 9, .inl nr), .inl (0, 9, .inl od), .inl (0, 81, .inl wt)] ++ R)) _ _
  refine xi_if_le (tgt := 19) dX5_setWeight_6 (by decide) (fun c1 => ?_) (fun c1 => ?_)
  · rw [if_pos c1] at hq
    refine xi_aload_n 0 dX5_setWeight_19 rfl ?_
    refine xi_get (f := 4) dX5_setWeight_20 (xpg0 hP rfl) rfl ok_5 (by decide) w_83 rfl ?_
    refine xi_iload_n 1 dX5_setWeight_23 rfl ?_
    refine xi_bipush (v := 9) dX5_setWeight_24 (by decide) ?_
    refine xi_imul (v := (nI (p * 9))) dX5_setWeight_26 (pk_mul p 9) ?_
    refine xi_iload_n 2 dX5_setWeight_27 rfl ?_
    refine xi_iadd (v := (nI ((p * 9) + q))) dX5_setWeight_28 (nI_add (p * 9) q) ?_
    refine xi_iload_n 3 dX5_setWeight_29 rfl ?_
    refine xi_iastore (M' := (P ++ ([.inr (5, [.int (nI n), .int l, .ref (L + 1), .ref (L + 2), .ref (L + 3)]), .inl (0, 9, .inl nr), .inl (0, 9, .inl od), .inl (0, 81, .inl (upd wt ((p * 9) + q) x))] ++ R))) dX5_setWeight_30 (xpg hP rfl) (vp_in_nI (by omega) (by decide)) (by rw [nI_clamp (by omega)]; exact (xps hP)) ?_
    refine xi_aload_n 0 dX5_setWeight_31 rfl ?_
    refine xi_get (f := 4) dX5_setWeight_32 (xpg0 hP rfl) rfl ok_5 (by decide) w_83 rfl ?_
    refine xi_iload_n 2 dX5_setWeight_35 rfl ?_
    refine xi_bipush (v := 9) dX5_setWeight_36 (by decide) ?_
    refine xi_imul (v := (nI (q * 9))) dX5_setWeight_38 (pk_mul q 9) ?_
    refine xi_iload_n 1 dX5_setWeight_39 rfl ?_
    refine xi_iadd (v := (nI ((q * 9) + p))) dX5_setWeight_40 (nI_add (q * 9) p) ?_
    refine xi_iload_n 3 dX5_setWeight_41 rfl ?_
    refine xi_iastore (M' := (P ++ ([.inr (5, [.int (nI n), .int l, .ref (L + 1), .ref (L + 2), .ref (L + 3)]), .inl (0, 9, .inl nr), .inl (0, 9, .inl od), .inl (0, 81, .inl (upd (upd wt ((p * 9) + q) x) ((q * 9) + p) x))] ++ R))) dX5_setWeight_42 (xpg hP rfl) (vp_in_nI (by omega) (by decide)) (by rw [nI_clamp (by omega)]; exact (xps hP)) ?_
    refine xi_iload_n 3 dX5_setWeight_43 rfl ?_
    refine xi_if_le (tgt := 84) dX5_setWeight_44 (by decide) (fun c2 => ?_) (fun c2 => ?_)
    · rw [if_pos c2] at hq
      refine xi_aload_n 0 dX5_setWeight_84 rfl ?_
      refine xi_get (f := 2) dX5_setWeight_85 (xpg0 hP rfl) rfl ok_5 (by decide) w_72 rfl ?_
      refine xi_iload_n 1 dX5_setWeight_88 rfl ?_
      refine xi_dup2 dX5_setWeight_89 rfl rfl ?_
      refine xi_iaload (v := (nr p)) dX5_setWeight_90 (xpg hP rfl) (vp_in_nI (by omega) (by decide)) (by rw [nI_clamp (by omega)]) ?_
      refine xi_iconst (v := 1) dX5_setWeight_91 (by decide) ?_
      refine xi_iload_n 2 dX5_setWeight_92 rfl ?_
      refine xi_ishl (v := ((1 : Int32) <<< ((nI q) &&& 31))) dX5_setWeight_93 rfl ?_
      refine xi_iconst (v := (-1)) dX5_setWeight_94 (by decide) ?_
      refine xi_ixor (v := (((1 : Int32) <<< ((nI q) &&& 31)) ^^^ (-1 : Int32))) dX5_setWeight_95 rfl ?_
      refine xi_iand (v := ((nr p) &&& (((1 : Int32) <<< ((nI q) &&& 31)) ^^^ (-1 : Int32)))) dX5_setWeight_96 rfl ?_
      refine xi_iastore (M' := (P ++ ([.inr (5, [.int (nI n), .int l, .ref (L + 1), .ref (L + 2), .ref (L + 3)]), .inl (0, 9, .inl (upd nr p (((nr p) &&& (((1 : Int32) <<< ((nI q) &&& 31)) ^^^ (-1 : Int32)))))), .inl (0, 9, .inl od), .inl (0, 81, .inl (upd (upd wt ((p * 9) + q) x) ((q * 9) + p) x))] ++ R))) dX5_setWeight_97 (xpg hP rfl) (vp_in_nI (by omega) (by decide)) (by rw [nI_clamp (by omega)]; exact (xps hP)) ?_
      refine xi_aload_n 0 dX5_setWeight_98 rfl ?_
      refine xi_get (f := 2) dX5_setWeight_99 (xpg0 hP rfl) rfl ok_5 (by decide) w_72 rfl ?_
      refine xi_iload_n 2 dX5_setWeight_102 rfl ?_
      refine xi_dup2 dX5_setWeight_103 rfl rfl ?_
      refine xi_iaload (v := ((upd nr p (((nr p) &&& (((1 : Int32) <<< ((nI q) &&& 31)) ^^^ (-1 : Int32))))) q)) dX5_setWeight_104 (xpg hP rfl) (vp_in_nI (by omega) (by decide)) (by rw [nI_clamp (by omega)]) ?_
      refine xi_iconst (v := 1) dX5_setWeight_105 (by decide) ?_
      refine xi_iload_n 1 dX5_setWeight_106 rfl ?_
      refine xi_ishl (v := ((1 : Int32) <<< ((nI p) &&& 31))) dX5_setWeight_107 rfl ?_
      refine xi_iconst (v := (-1)) dX5_setWeight_108 (by decide) ?_
      refine xi_ixor (v := (((1 : Int32) <<< ((nI p) &&& 31)) ^^^ (-1 : Int32))) dX5_setWeight_109 rfl ?_
      refine xi_iand (v := (((upd nr p (((nr p) &&& (((1 : Int32) <<< ((nI q) &&& 31)) ^^^ (-1 : Int32))))) q) &&& (((1 : Int32) <<< ((nI p) &&& 31)) ^^^ (-1 : Int32)))) dX5_setWeight_110 rfl ?_
      refine xi_iastore (M' := (P ++ ([.inr (5, [.int (nI n), .int l, .ref (L + 1), .ref (L + 2), .ref (L + 3)]), .inl (0, 9, .inl (upd (upd nr p (((nr p) &&& (((1 : Int32) <<< ((nI q) &&& 31)) ^^^ (-1 : Int32))))) q ((((upd nr p (((nr p) &&& (((1 : Int32) <<< ((nI q) &&& 31)) ^^^ (-1 : Int32))))) q) &&& (((1 : Int32) <<< ((nI p) &&& 31)) ^^^ (-1 : Int32)))))), .inl (0, 9, .inl od), .inl (0, 81, .inl (upd (upd wt ((p * 9) + q) x) ((q * 9) + p) x))] ++ R))) dX5_setWeight_111 (xpg hP rfl) (vp_in_nI (by omega) (by decide)) (by rw [nI_clamp (by omega)]; exact (xps hP)) ?_
      exact xi_vret dX5_setWeight_112 rfl (Nat.le_of_ble_eq_true rfl) (Nat.le_of_ble_eq_true rfl) ⟨_, rfl, hq, rfl⟩
    · rw [if_neg c2] at hq
      refine xi_aload_n 0 dX5_setWeight_47 rfl ?_
      refine xi_dup dX5_setWeight_48 rfl ?_
      refine xi_get (f := 1) dX5_setWeight_49 (xpg0 hP rfl) rfl ok_5 (by decide) w_69 rfl ?_
      refine xi_iconst (v := 1) dX5_setWeight_52 (by decide) ?_
      refine xi_iadd (v := (l + (1 : Int32))) dX5_setWeight_53 rfl ?_
      refine xi_put (f := 1) (ty := .int) (M' := (P ++ ([.inr (5, [.int (nI n), .int ((l + (1 : Int32))), .ref (L + 1), .ref (L + 2), .ref (L + 3)]), .inl (0, 9, .inl nr), .inl (0, 9, .inl od), .inl (0, 81, .inl (upd (upd wt ((p * 9) + q) x) ((q * 9) + p) x))] ++ R))) dX5_setWeight_54 (xpg0 hP rfl) rfl ok_5 (by decide) w_69 rfl pf_I (fun _ h => by cases h) rfl rfl (Nat.le_of_ble_eq_true rfl) (xps0 hP) ?_
      refine xi_aload_n 0 dX5_setWeight_57 rfl ?_
      refine xi_get (f := 2) dX5_setWeight_58 (xpg0 hP rfl) rfl ok_5 (by decide) w_72 rfl ?_
      refine xi_iload_n 1 dX5_setWeight_61 rfl ?_
      refine xi_dup2 dX5_setWeight_62 rfl rfl ?_
      refine xi_iaload (v := (nr p)) dX5_setWeight_63 (xpg hP rfl) (vp_in_nI (by omega) (by decide)) (by rw [nI_clamp (by omega)]) ?_
      refine xi_iconst (v := 1) dX5_setWeight_64 (by decide) ?_
      refine xi_iload_n 2 dX5_setWeight_65 rfl ?_
      refine xi_ishl (v := ((1 : Int32) <<< ((nI q) &&& 31))) dX5_setWeight_66 rfl ?_
      refine xi_ior (v := ((nr p) ||| ((1 : Int32) <<< ((nI q) &&& 31)))) dX5_setWeight_67 rfl ?_
      refine xi_iastore (M' := (P ++ ([.inr (5, [.int (nI n), .int ((l + (1 : Int32))), .ref (L + 1), .ref (L + 2), .ref (L + 3)]), .inl (0, 9, .inl (upd nr p (((nr p) ||| ((1 : Int32) <<< ((nI q) &&& 31)))))), .inl (0, 9, .inl od), .inl (0, 81, .inl (upd (upd wt ((p * 9) + q) x) ((q * 9) + p) x))] ++ R))) dX5_setWeight_68 (xpg hP rfl) (vp_in_nI (by omega) (by decide)) (by rw [nI_clamp (by omega)]; exact (xps hP)) ?_
      refine xi_aload_n 0 dX5_setWeight_69 rfl ?_
      refine xi_get (f := 2) dX5_setWeight_70 (xpg0 hP rfl) rfl ok_5 (by decide) w_72 rfl ?_
      refine xi_iload_n 2 dX5_setWeight_73 rfl ?_
      refine xi_dup2 dX5_setWeight_74 rfl rfl ?_
      refine xi_iaload (v := ((upd nr p (((nr p) ||| ((1 : Int32) <<< ((nI q) &&& 31))))) q)) dX5_setWeight_75 (xpg hP rfl) (vp_in_nI (by omega) (by decide)) (by rw [nI_clamp (by omega)]) ?_
      refine xi_iconst (v := 1) dX5_setWeight_76 (by decide) ?_
      refine xi_iload_n 1 dX5_setWeight_77 rfl ?_
      refine xi_ishl (v := ((1 : Int32) <<< ((nI p) &&& 31))) dX5_setWeight_78 rfl ?_
      refine xi_ior (v := (((upd nr p (((nr p) ||| ((1 : Int32) <<< ((nI q) &&& 31))))) q) ||| ((1 : Int32) <<< ((nI p) &&& 31)))) dX5_setWeight_79 rfl ?_
      refine xi_iastore (M' := (P ++ ([.inr (5, [.int (nI n), .int ((l + (1 : Int32))), .ref (L + 1), .ref (L + 2), .ref (L + 3)]), .inl (0, 9, .inl (upd (upd nr p (((nr p) ||| ((1 : Int32) <<< ((nI q) &&& 31))))) q ((((upd nr p (((nr p) ||| ((1 : Int32) <<< ((nI q) &&& 31))))) q) ||| ((1 : Int32) <<< ((nI p) &&& 31)))))), .inl (0, 9, .inl od), .inl (0, 81, .inl (upd (upd wt ((p * 9) + q) x) ((q * 9) + p) x))] ++ R))) dX5_setWeight_80 (xpg hP rfl) (vp_in_nI (by omega) (by decide)) (by rw [nI_clamp (by omega)]; exact (xps hP)) ?_
      refine xi_goto (tgt := 112) dX5_setWeight_81 (by decide) ?_
      exact xi_vret dX5_setWeight_112 rfl (Nat.le_of_ble_eq_true rfl) (Nat.le_of_ble_eq_true rfl) ⟨_, rfl, hq, rfl⟩
  · rw [if_neg c1] at hq
    refine xi_aload_n 0 dX5_setWeight_9 rfl ?_
    refine xi_dup dX5_setWeight_10 rfl ?_
    refine xi_get (f := 1) dX5_setWeight_11 (xpg0 hP rfl) rfl ok_5 (by decide) w_69 rfl ?_
    refine xi_iconst (v := 1) dX5_setWeight_14 (by decide) ?_
    refine xi_isub (v := (l - (1 : Int32))) dX5_setWeight_15 rfl ?_
    refine xi_put (f := 1) (ty := .int) (M' := (P ++ ([.inr (5, [.int (nI n), .int ((l - (1 : Int32))), .ref (L + 1), .ref (L + 2), .ref (L + 3)]), .inl (0, 9, .inl nr), .inl (0, 9, .inl od), .inl (0, 81, .inl wt)] ++ R))) dX5_setWeight_16 (xpg0 hP rfl) rfl ok_5 (by decide) w_69 rfl pf_I (fun _ h => by cases h) rfl rfl (Nat.le_of_ble_eq_true rfl) (xps0 hP) ?_
    refine xi_aload_n 0 dX5_setWeight_19 rfl ?_
    refine xi_get (f := 4) dX5_setWeight_20 (xpg0 hP rfl) rfl ok_5 (by decide) w_83 rfl ?_
    refine xi_iload_n 1 dX5_setWeight_23 rfl ?_
    refine xi_bipush (v := 9) dX5_setWeight_24 (by decide) ?_
    refine xi_imul (v := (nI (p * 9))) dX5_setWeight_26 (pk_mul p 9) ?_
    refine xi_iload_n 2 dX5_setWeight_27 rfl ?_
    refine xi_iadd (v := (nI ((p * 9) + q))) dX5_setWeight_28 (nI_add (p * 9) q) ?_
    refine xi_iload_n 3 dX5_setWeight_29 rfl ?_
    refine xi_iastore (M' := (P ++ ([.inr (5, [.int (nI n), .int ((l - (1 : Int32))), .ref (L + 1), .ref (L + 2), .ref (L + 3)]), .inl (0, 9, .inl nr), .inl (0, 9, .inl od), .inl (0, 81, .inl (upd wt ((p * 9) + q) x))] ++ R))) dX5_setWeight_30 (xpg hP rfl) (vp_in_nI (by omega) (by decide)) (by rw [nI_clamp (by omega)]; exact (xps hP)) ?_
    refine xi_aload_n 0 dX5_setWeight_31 rfl ?_
    refine xi_get (f := 4) dX5_setWeight_32 (xpg0 hP rfl) rfl ok_5 (by decide) w_83 rfl ?_
    refine xi_iload_n 2 dX5_setWeight_35 rfl ?_
    refine xi_bipush (v := 9) dX5_setWeight_36 (by decide) ?_
    refine xi_imul (v := (nI (q * 9))) dX5_setWeight_38 (pk_mul q 9) ?_
    refine xi_iload_n 1 dX5_setWeight_39 rfl ?_
    refine xi_iadd (v := (nI ((q * 9) + p))) dX5_setWeight_40 (nI_add (q * 9) p) ?_
    refine xi_iload_n 3 dX5_setWeight_41 rfl ?_
    refine xi_iastore (M' := (P ++ ([.inr (5, [.int (nI n), .int ((l - (1 : Int32))), .ref (L + 1), .ref (L + 2), .ref (L + 3)]), .inl (0, 9, .inl nr), .inl (0, 9, .inl od), .inl (0, 81, .inl (upd (upd wt ((p * 9) + q) x) ((q * 9) + p) x))] ++ R))) dX5_setWeight_42 (xpg hP rfl) (vp_in_nI (by omega) (by decide)) (by rw [nI_clamp (by omega)]; exact (xps hP)) ?_
    refine xi_iload_n 3 dX5_setWeight_43 rfl ?_
    refine xi_if_le (tgt := 84) dX5_setWeight_44 (by decide) (fun c3 => ?_) (fun c3 => ?_)
    · rw [if_pos c3] at hq
      refine xi_aload_n 0 dX5_setWeight_84 rfl ?_
      refine xi_get (f := 2) dX5_setWeight_85 (xpg0 hP rfl) rfl ok_5 (by decide) w_72 rfl ?_
      refine xi_iload_n 1 dX5_setWeight_88 rfl ?_
      refine xi_dup2 dX5_setWeight_89 rfl rfl ?_
      refine xi_iaload (v := (nr p)) dX5_setWeight_90 (xpg hP rfl) (vp_in_nI (by omega) (by decide)) (by rw [nI_clamp (by omega)]) ?_
      refine xi_iconst (v := 1) dX5_setWeight_91 (by decide) ?_
      refine xi_iload_n 2 dX5_setWeight_92 rfl ?_
      refine xi_ishl (v := ((1 : Int32) <<< ((nI q) &&& 31))) dX5_setWeight_93 rfl ?_
      refine xi_iconst (v := (-1)) dX5_setWeight_94 (by decide) ?_
      refine xi_ixor (v := (((1 : Int32) <<< ((nI q) &&& 31)) ^^^ (-1 : Int32))) dX5_setWeight_95 rfl ?_
      refine xi_iand (v := ((nr p) &&& (((1 : Int32) <<< ((nI q) &&& 31)) ^^^ (-1 : Int32)))) dX5_setWeight_96 rfl ?_
      refine xi_iastore (M' := (P ++ ([.inr (5, [.int (nI n), .int ((l - (1 : Int32))), .ref (L + 1), .ref (L + 2), .ref (L + 3)]), .inl (0, 9, .inl (upd nr p (((nr p) &&& (((1 : Int32) <<< ((nI q) &&& 31)) ^^^ (-1 : Int32)))))), .inl (0, 9, .inl od), .inl (0, 81, .inl (upd (upd wt ((p * 9) + q) x) ((q * 9) + p) x))] ++ R))) dX5_setWeight_97 (xpg hP rfl) (vp_in_nI (by omega) (by decide)) (by rw [nI_clamp (by omega)]; exact (xps hP)) ?_
      refine xi_aload_n 0 dX5_setWeight_98 rfl ?_
      refine xi_get (f := 2) dX5_setWeight_99 (xpg0 hP rfl) rfl ok_5 (by decide) w_72 rfl ?_
      refine xi_iload_n 2 dX5_setWeight_102 rfl ?_
      refine xi_dup2 dX5_setWeight_103 rfl rfl ?_
      refine xi_iaload (v := ((upd nr p (((nr p) &&& (((1 : Int32) <<< ((nI q) &&& 31)) ^^^ (-1 : Int32))))) q)) dX5_setWeight_104 (xpg hP rfl) (vp_in_nI (by omega) (by decide)) (by rw [nI_clamp (by omega)]) ?_
      refine xi_iconst (v := 1) dX5_setWeight_105 (by decide) ?_
      refine xi_iload_n 1 dX5_setWeight_106 rfl ?_
      refine xi_ishl (v := ((1 : Int32) <<< ((nI p) &&& 31))) dX5_setWeight_107 rfl ?_
      refine xi_iconst (v := (-1)) dX5_setWeight_108 (by decide) ?_
      refine xi_ixor (v := (((1 : Int32) <<< ((nI p) &&& 31)) ^^^ (-1 : Int32))) dX5_setWeight_109 rfl ?_
      refine xi_iand (v := (((upd nr p (((nr p) &&& (((1 : Int32) <<< ((nI q) &&& 31)) ^^^ (-1 : Int32))))) q) &&& (((1 : Int32) <<< ((nI p) &&& 31)) ^^^ (-1 : Int32)))) dX5_setWeight_110 rfl ?_
      refine xi_iastore (M' := (P ++ ([.inr (5, [.int (nI n), .int ((l - (1 : Int32))), .ref (L + 1), .ref (L + 2), .ref (L + 3)]), .inl (0, 9, .inl (upd (upd nr p (((nr p) &&& (((1 : Int32) <<< ((nI q) &&& 31)) ^^^ (-1 : Int32))))) q ((((upd nr p (((nr p) &&& (((1 : Int32) <<< ((nI q) &&& 31)) ^^^ (-1 : Int32))))) q) &&& (((1 : Int32) <<< ((nI p) &&& 31)) ^^^ (-1 : Int32)))))), .inl (0, 9, .inl od), .inl (0, 81, .inl (upd (upd wt ((p * 9) + q) x) ((q * 9) + p) x))] ++ R))) dX5_setWeight_111 (xpg hP rfl) (vp_in_nI (by omega) (by decide)) (by rw [nI_clamp (by omega)]; exact (xps hP)) ?_
      exact xi_vret dX5_setWeight_112 rfl (Nat.le_of_ble_eq_true rfl) (Nat.le_of_ble_eq_true rfl) ⟨_, rfl, hq, rfl⟩
    · rw [if_neg c3] at hq
      refine xi_aload_n 0 dX5_setWeight_47 rfl ?_
      refine xi_dup dX5_setWeight_48 rfl ?_
      refine xi_get (f := 1) dX5_setWeight_49 (xpg0 hP rfl) rfl ok_5 (by decide) w_69 rfl ?_
      refine xi_iconst (v := 1) dX5_setWeight_52 (by decide) ?_
      refine xi_iadd (v := (((l - (1 : Int32))) + (1 : Int32))) dX5_setWeight_53 rfl ?_
      refine xi_put (f := 1) (ty := .int) (M' := (P ++ ([.inr (5, [.int (nI n), .int ((((l - (1 : Int32))) + (1 : Int32))), .ref (L + 1), .ref (L + 2), .ref (L + 3)]), .inl (0, 9, .inl nr), .inl (0, 9, .inl od), .inl (0, 81, .inl (upd (upd wt ((p * 9) + q) x) ((q * 9) + p) x))] ++ R))) dX5_setWeight_54 (xpg0 hP rfl) rfl ok_5 (by decide) w_69 rfl pf_I (fun _ h => by cases h) rfl rfl (Nat.le_of_ble_eq_true rfl) (xps0 hP) ?_
      refine xi_aload_n 0 dX5_setWeight_57 rfl ?_
      refine xi_get (f := 2) dX5_setWeight_58 (xpg0 hP rfl) rfl ok_5 (by decide) w_72 rfl ?_
      refine xi_iload_n 1 dX5_setWeight_61 rfl ?_
      refine xi_dup2 dX5_setWeight_62 rfl rfl ?_
      refine xi_iaload (v := (nr p)) dX5_setWeight_63 (xpg hP rfl) (vp_in_nI (by omega) (by decide)) (by rw [nI_clamp (by omega)]) ?_
      refine xi_iconst (v := 1) dX5_setWeight_64 (by decide) ?_
      refine xi_iload_n 2 dX5_setWeight_65 rfl ?_
      refine xi_ishl (v := ((1 : Int32) <<< ((nI q) &&& 31))) dX5_setWeight_66 rfl ?_
      refine xi_ior (v := ((nr p) ||| ((1 : Int32) <<< ((nI q) &&& 31)))) dX5_setWeight_67 rfl ?_
      refine xi_iastore (M' := (P ++ ([.inr (5, [.int (nI n), .int ((((l - (1 : Int32))) + (1 : Int32))), .ref (L + 1), .ref (L + 2), .ref (L + 3)]), .inl (0, 9, .inl (upd nr p (((nr p) ||| ((1 : Int32) <<< ((nI q) &&& 31)))))), .inl (0, 9, .inl od), .inl (0, 81, .inl (upd (upd wt ((p * 9) + q) x) ((q * 9) + p) x))] ++ R))) dX5_setWeight_68 (xpg hP rfl) (vp_in_nI (by omega) (by decide)) (by rw [nI_clamp (by omega)]; exact (xps hP)) ?_
      refine xi_aload_n 0 dX5_setWeight_69 rfl ?_
      refine xi_get (f := 2) dX5_setWeight_70 (xpg0 hP rfl) rfl ok_5 (by decide) w_72 rfl ?_
      refine xi_iload_n 2 dX5_setWeight_73 rfl ?_
      refine xi_dup2 dX5_setWeight_74 rfl rfl ?_
      refine xi_iaload (v := ((upd nr p (((nr p) ||| ((1 : Int32) <<< ((nI q) &&& 31))))) q)) dX5_setWeight_75 (xpg hP rfl) (vp_in_nI (by omega) (by decide)) (by rw [nI_clamp (by omega)]) ?_
      refine xi_iconst (v := 1) dX5_setWeight_76 (by decide) ?_
      refine xi_iload_n 1 dX5_setWeight_77 rfl ?_
      refine xi_ishl (v := ((1 : Int32) <<< ((nI p) &&& 31))) dX5_setWeight_78 rfl ?_
      refine xi_ior (v := (((upd nr p (((nr p) ||| ((1 : Int32) <<< ((nI q) &&& 31))))) q) ||| ((1 : Int32) <<< ((nI p) &&& 31)))) dX5_setWeight_79 rfl ?_
      refine xi_iastore (M' := (P ++ ([.inr (5, [.int (nI n), .int ((((l - (1 : Int32))) + (1 : Int32))), .ref (L + 1), .ref (L + 2), .ref (L + 3)]), .inl (0, 9, .inl (upd (upd nr p (((nr p) ||| ((1 : Int32) <<< ((nI q) &&& 31))))) q ((((upd nr p (((nr p) ||| ((1 : Int32) <<< ((nI q) &&& 31))))) q) ||| ((1 : Int32) <<< ((nI p) &&& 31)))))), .inl (0, 9, .inl od), .inl (0, 81, .inl (upd (upd wt ((p * 9) + q) x) ((q * 9) + p) x))] ++ R))) dX5_setWeight_80 (xpg hP rfl) (vp_in_nI (by omega) (by decide)) (by rw [nI_clamp (by omega)]; exact (xps hP)) ?_
      refine xi_goto (tgt := 112) dX5_setWeight_81 (by decide) ?_
      exact xi_vret dX5_setWeight_112 rfl (Nat.le_of_ble_eq_true rfl) (Nat.le_of_ble_eq_true rfl) ⟨_, rfl, hq, rfl⟩
def FX5_changeOver (n : Nat) (l : Int32) (nr : Nat → Int32) (od : Nat → Int32) (wt : Nat → Int32) (p : Nat) (q : Nat) : Int32 × (Nat → Int32) := (0, upd (upd od p ((od q))) q ((od p)))
set_option maxHeartbeats 4000000 in
set_option maxRecDepth 100000 in
theorem FX5_changeOver_ok (G : xG) {P R : xMem} {L : Nat} (hP : P.length = L) (n : Nat) (l : Int32) (nr : Nat → Int32) (od : Nat → Int32) (wt : Nat → Int32) (bn : n ≤ 9) (p : Nat) (bp : p < 9) (q : Nat) (bq : q < 9) (M : xMem) (hM : M = (P ++ ([.inr (5, [.int (nI n), .int l, .ref (L + 1), .ref (L + 2), .ref (L + 3)]), .inl (0, 9, .inl nr), .inl (0, 9, .inl od), .inl (0, 81, .inl wt)] ++ R))) (Q : Int32 × (Nat → Int32) → Prop) (hq : Q (FX5_changeOver n l nr od wt p q)) : xC G mX5_changeOver 0 0 0 [.ref L, .int (nI p), .int (nI q)] M (fun v M2 => ∃ o : Int32 × (Nat → Int32), v = none ∧ Q o ∧ M2 = (P ++ ([.inr (5, [.int (nI n), .int l, .ref (L + 1), .ref (L + 2), .ref (L + 3)]), .inl (0, 9, .inl nr), .inl (0, 9, .inl o.2), .inl (0, 81, .inl wt)] ++ R))) := by
  subst hM
  unfold FX5_changeOver at hq
  refine xC.of (by decide) (Nat.le_of_ble_eq_true rfl) ?_
  show xW _ _ _ _ 0 [(0, .ref L), (1, .int (nI p)), (2, .int (nI q))] [] _ 0 0
  refine xi_aload_n 0 dX5_changeOver_0 rfl ?_
  refine xi_get (f := 3) dX5_changeOver_1 (xpg0 hP rfl) rfl ok_5 (by decide) w_78 rfl ?_
  refine xi_iload_n 1 dX5_changeOver_4 rfl ?_
  refine xi_iaload (v := (od p)) dX5_changeOver_5 (xpg hP rfl) (vp_in_nI (by omega) (by decide)) (by rw [nI_clamp (by omega)]) ?_
  refine xi_istore_n (lv' := [(3, .int (od p)), (0, .ref L), (1, .int (nI p)), (2, .int (nI q))]) dX5_changeOver_6 (by decide) rfl ?_
  refine xi_aload_n 1 dX5_changeOver_7 rfl ?_
  refine xi_get (f := 3) dX5_changeOver_8 (xpg0 hP rfl) rfl ok_5 (by decide) w_78 rfl ?_
  refine xi_iload_n 2 dX5_changeOver_11 rfl ?_
  refine xi_aload_n 1 dX5_changeOver_12 rfl ?_
  refine xi_get (f := 3) dX5_changeOver_13 (xpg0 hP rfl) rfl ok_5 (by decide) w_78 rfl ?_
  refine xi_iload_n 3 dX5_changeOver_16 rfl ?_
  refine xi_iaload (v := (od q)) dX5_changeOver_17 (xpg hP rfl) (vp_in_nI (by omega) (by decide)) (by rw [nI_clamp (by omega)]) ?_
  refine xi_iastore (M' := (P ++ ([.inr (5, [.int (nI n), .int l, .ref (L + 1), .ref (L + 2), .ref (L + 3)]), .inl (0, 9, .inl nr), .inl (0, 9, .inl (upd od p ((od q)))), .inl (0, 81, .inl wt)] ++ R))) dX5_changeOver_18 (xpg hP rfl) (vp_in_nI (by omega) (by decide)) (by rw [nI_clamp (by omega)]; exact (xps hP)) ?_
  refine xi_aload_n 1 dX5_changeOver_19 rfl ?_
  refine xi_get (f := 3) dX5_changeOver_20 (xpg0 hP rfl) rfl ok_5 (by decide) w_78 rfl ?_
  refine xi_iload_n 3 dX5_changeOver_23 rfl ?_
  refine xi_iload_n 0 dX5_changeOver_24 rfl ?_
  refine xi_iastore (M' := (P ++ ([.inr (5, [.int (nI n), .int l, .ref (L + 1), .ref (L + 2), .ref (L + 3)]), .inl (0, 9, .inl nr), .inl (0, 9, .inl (upd (upd od p ((od q))) q ((od p)))), .inl (0, 81, .inl wt)] ++ R))) dX5_changeOver_25 (xpg hP rfl) (vp_in_nI (by omega) (by decide)) (by rw [nI_clamp (by omega)]; exact (xps hP)) ?_
  exact xi_vret dX5_changeOver_26 rfl (Nat.le_of_ble_eq_true rfl) (Nat.le_of_ble_eq_true rfl) ⟨_, rfl, hq, rfl⟩
