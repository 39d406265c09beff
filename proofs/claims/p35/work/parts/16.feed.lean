/-! feed of the reference: it makes a small array, which stays behind as garbage (printed by wip/ext/genall.py) -/
theorem sh_len : SH.length = 163 := by decide +kernel
theorem mem_len {σ : St} {Gb : xMem} : (mem σ Gb).length = 163 + Gb.length := by
  unfold mem
  rw [List.length_append, rnd_len, sh_len]
def gar (f : Nat → Int32) : va_E := .inl (0, 5, .inl f)
theorem mem_gar {σ : St} {Gb : xMem} {f : Nat → Int32} : (mem σ (Gb ++ [gar f]))[163 + Gb.length]? = some (.inl (0, 5, .inl f)) := by
  unfold mem
  rw [List.getElem?_append_right (by rw [rnd_len, sh_len]; omega), rnd_len, sh_len, Nat.add_sub_cancel_left, List.getElem?_append_right (Nat.le_refl _), Nat.sub_self]
  rfl
theorem mem_gas {σ : St} {Gb : xMem} {f g : Nat → Int32} : (mem σ (Gb ++ [gar f])).set (163 + Gb.length) (.inl (0, 5, .inl g)) = mem σ (Gb ++ [gar g]) := by
  unfold mem
  rw [List.set_append_right _ _ (by rw [rnd_len, sh_len]; omega), rnd_len, sh_len, Nat.add_sub_cancel_left, List.set_append_right _ _ (Nat.le_refl _), Nat.sub_self]
  rfl
theorem mem_gan {σ : St} {Gb : xMem} : mem σ Gb ++ [.inl (0, 5, .inl (fun _ => 0))] = mem σ (Gb ++ [gar (fun _ => 0)]) := List.append_assoc _ _ _
abbrev PF (r : Int32) (t : St) (Gb : xMem) : Option Value → xMem → Prop := fun v M2 => v = some (.int r) ∧ ∃ l : xMem, l.length ≤ 1 ∧ M2 = mem t (Gb ++ l)
theorem mem_nil {t : St} {Gb : xMem} : mem t Gb = mem t (Gb ++ []) := by rw [List.append_nil]
noncomputable def SX12_feed_42 (ff : Nat → Int32) (c : Int32) (σ : St) : Option (((Int32) ⊕ (Unit)) × St) :=
  (if (20 : Int32) ≤ c then (some (Sum.inr (), σ)) else (rdb σ 149 (5) (fun v5 => (chk (inb (c / (4 : Int32)) 5) (chk (inb (v5 + c) 400) (wrb σ 153 ((v5 + c).toNatClampNeg) ((ushr (ff (c / (4 : Int32)).toNatClampNeg) ((24 : Int32) - ((8 : Int32) * (irem c (4 : Int32))))) &&& (255 : Int32)) (fun t9 => (some (Sum.inl (c + 1), t9)))))))))
set_option maxHeartbeats 4000000 in
set_option maxRecDepth 100000 in
theorem SX12_feed_42_w (G : xG) (Gb : xMem) (ff : Nat → Int32) (r0 : Int32) (t0 : St) :
    ∀ (k : Nat) (c : Int32) (σ : St) (r : Unit) (σ' : St), itr (SX12_feed_42 ff) k c σ = some (r, σ') → (xW G mX12_feed (xrm 0 1 5) (xQ G (PF r0 t0 Gb) 1 5) 89 [(0, .ref 149)] [] (mem σ' (Gb ++ [gar ff])) 1 5) → xW G mX12_feed (xrm 0 1 5) (xQ G (PF r0 t0 Gb) 1 5) 42 [(0, .ref 149), (6, .ref (163 + Gb.length)), (7, .int c)] [] (mem σ (Gb ++ [gar ff])) 1 5 := by
  intro k
  induction k with
  | zero =>
    intro c σ r σ' h
    exact absurd h (itr_zero _ _ _ _)
  | succ k ih =>
    intro c σ r σ' h HE
    obtain ⟨x, s1, hs, h⟩ := itr_succ h
    unfold SX12_feed_42 at hs
    refine xi_iload 2 dX12_feed_42 rfl ?_
    refine xi_bipush (v := 20) dX12_feed_44 (by decide) ?_
    refine xi_icmp_ge (tgt := 89) dX12_feed_46 (by decide) (fun c4 => ?_) (fun c4 => ?_)
    · replace hs := ite_p c4 hs
      refine xi_sub (lv' := [(0, .ref 149)]) [0] rfl ?_
      obtain ⟨rfl, rfl⟩ := some_pair hs
      obtain ⟨rfl, rfl⟩ := some_pair h
      exact HE
    · replace hs := ite_n c4 hs
      refine xi_aload_n 0 dX12_feed_49 rfl ?_
      refine yi_getR (f := 4) dX12_feed_50 sh_149 rfl ok_9 (by decide) w_1012 rfl ?_
      refine xi_aload_n 0 dX12_feed_53 rfl ?_
      obtain ⟨v5, h6, hs⟩ := rdb_some hs
      refine yi_getV (f := 5) dX12_feed_54 sh_149 rfl ok_9 (by decide) w_1013 rfl h6 ?_
      refine xi_iload 2 dX12_feed_57 rfl ?_
      refine xi_iadd (v := v5 + c) dX12_feed_59 rfl ?_
      refine xi_aload 1 dX12_feed_60 rfl ?_
      refine xi_iload 2 dX12_feed_62 rfl ?_
      refine xi_iconst (v := 4) dX12_feed_64 (by decide) ?_
      refine xi_idiv (v := c / (4 : Int32)) dX12_feed_65 (by decide) rfl ?_
      obtain ⟨g7, hs⟩ := chk_some hs
      refine xi_iaload (v := (ff (c / (4 : Int32)).toNatClampNeg)) dX12_feed_66 mem_gar (inb_vp g7) rfl ?_
      refine xi_bipush (v := 24) dX12_feed_67 (by decide) ?_
      refine xi_bipush (v := 8) dX12_feed_69 (by decide) ?_
      refine xi_iload 2 dX12_feed_71 rfl ?_
      refine xi_iconst (v := 4) dX12_feed_73 (by decide) ?_
      refine xi_irem (v := irem c (4 : Int32)) dX12_feed_74 (by decide) rfl ?_
      refine xi_imul (v := (8 : Int32) * (irem c (4 : Int32))) dX12_feed_75 rfl ?_
      refine xi_isub (v := (24 : Int32) - ((8 : Int32) * (irem c (4 : Int32)))) dX12_feed_76 rfl ?_
      refine xi_iushr (v := ushr (ff (c / (4 : Int32)).toNatClampNeg) ((24 : Int32) - ((8 : Int32) * (irem c (4 : Int32))))) dX12_feed_77 rfl ?_
      refine xi_sipush (v := 255) dX12_feed_78 (by decide) ?_
      refine xi_iand (v := (ushr (ff (c / (4 : Int32)).toNatClampNeg) ((24 : Int32) - ((8 : Int32) * (irem c (4 : Int32))))) &&& (255 : Int32)) dX12_feed_81 rfl ?_
      obtain ⟨g8, hs⟩ := chk_some hs
      obtain ⟨t9, h10, hs⟩ := wrb_some hs
      refine yi_iastoreV dX12_feed_82 sh_153 g8 h10 ?_
      refine xi_iinc (v := (c + 1)) (lv' := [(7, .int (c + 1)), (0, .ref 149), (6, .ref (163 + Gb.length))]) 2 dX12_feed_83 rfl rfl (by decide) rfl ?_
      refine xi_goto (tgt := 42) dX12_feed_86 (by decide) ?_
      refine xi_sub (lv' := [(0, .ref 149), (6, .ref (163 + Gb.length)), (7, .int (c + 1))]) [1, 2, 0] rfl ?_
      obtain ⟨rfl, rfl⟩ := some_pair hs
      exact ih (c + 1) t9 _ _ h HE
noncomputable def FX12_feed (a : Int32) (b : Int32) (c : Int32) (d : Int32) (e : Int32) (σ : St) : Option ((Int32) × St) :=
  (rdb σ 149 (5) (fun v1 => (if v1 ≤ (380 : Int32) then (bnd (wh (SX12_feed_42 (upd (upd (upd (upd (upd (fun _ => 0) (0 : Int32).toNatClampNeg a) (1 : Int32).toNatClampNeg b) (2 : Int32).toNatClampNeg c) (3 : Int32).toNatClampNeg d) (4 : Int32).toNatClampNeg e)) (0 : Int32) σ) (fun e11 t12 => (rdb t12 149 (5) (fun v15 => (wrb t12 149 (5) (v15 + (20 : Int32)) (fun t17 => (rdb t17 149 (5) (fun v19 => (some (v19, t17)))))))))) else (some ((-1 : Int32), σ)))))
set_option maxHeartbeats 4000000 in
set_option maxRecDepth 100000 in
theorem KX12_feed (G : xG) (Gb : xMem) (a : Int32) (b : Int32) (c : Int32) (d : Int32) (e : Int32) (σ : St) (r0 : Int32) (t0 : St) (hq : FX12_feed a b c d e σ = some (r0, t0)) : xC G mX12_feed 0 1 5 [.ref 149, .int a, .int b, .int c, .int d, .int e] (mem σ Gb) (PF r0 t0 Gb) := by
  unfold FX12_feed at hq
  refine xC.of (by decide) (Nat.le_of_ble_eq_true rfl) ?_
  show xW _ _ _ _ 0 [(0, .ref 149), (1, .int a), (2, .int b), (3, .int c), (4, .int d), (5, .int e)] [] _ 0 0
  refine xi_aload_n 0 dX12_feed_0 rfl ?_
  obtain ⟨v1, h2, hq⟩ := rdb_some hq
  refine yi_getV (f := 5) dX12_feed_1 sh_149 rfl ok_9 (by decide) w_1013 rfl h2 ?_
  refine xi_sipush (v := 380) dX12_feed_4 (by decide) ?_
  refine xi_icmp_le (tgt := 12) dX12_feed_7 (by decide) (fun c3 => ?_) (fun c3 => ?_)
  · replace hq := ite_p c3 hq
    refine xi_iconst (v := 5) dX12_feed_12 (by decide) ?_
    refine xi_newI (i := 163 + Gb.length) (N := 5) (M' := mem σ (Gb ++ [gar (fun _ => 0)])) dX12_feed_13 w_95 (by decide) (by decide) (Nat.le_of_ble_eq_true rfl) mem_len mem_gan (Nat.le_of_ble_eq_true rfl) (Nat.le_of_ble_eq_true rfl) ?_
    refine xi_dup dX12_feed_15 rfl ?_
    refine xi_iconst (v := 0) dX12_feed_16 (by decide) ?_
    refine xi_iload_n 1 dX12_feed_17 rfl ?_
    refine xi_iastore (M' := mem σ (Gb ++ [gar (upd (fun _ => 0) (0 : Int32).toNatClampNeg a)])) dX12_feed_18 mem_gar (by unfold vp_in; decide) mem_gas ?_
    refine xi_dup dX12_feed_19 rfl ?_
    refine xi_iconst (v := 1) dX12_feed_20 (by decide) ?_
    refine xi_iload_n 2 dX12_feed_21 rfl ?_
    refine xi_iastore (M' := mem σ (Gb ++ [gar (upd (upd (fun _ => 0) (0 : Int32).toNatClampNeg a) (1 : Int32).toNatClampNeg b)])) dX12_feed_22 mem_gar (by unfold vp_in; decide) mem_gas ?_
    refine xi_dup dX12_feed_23 rfl ?_
    refine xi_iconst (v := 2) dX12_feed_24 (by decide) ?_
    refine xi_iload_n 3 dX12_feed_25 rfl ?_
    refine xi_iastore (M' := mem σ (Gb ++ [gar (upd (upd (upd (fun _ => 0) (0 : Int32).toNatClampNeg a) (1 : Int32).toNatClampNeg b) (2 : Int32).toNatClampNeg c)])) dX12_feed_26 mem_gar (by unfold vp_in; decide) mem_gas ?_
    refine xi_dup dX12_feed_27 rfl ?_
    refine xi_iconst (v := 3) dX12_feed_28 (by decide) ?_
    refine xi_iload 4 dX12_feed_29 rfl ?_
    refine xi_iastore (M' := mem σ (Gb ++ [gar (upd (upd (upd (upd (fun _ => 0) (0 : Int32).toNatClampNeg a) (1 : Int32).toNatClampNeg b) (2 : Int32).toNatClampNeg c) (3 : Int32).toNatClampNeg d)])) dX12_feed_31 mem_gar (by unfold vp_in; decide) mem_gas ?_
    refine xi_dup dX12_feed_32 rfl ?_
    refine xi_iconst (v := 4) dX12_feed_33 (by decide) ?_
    refine xi_iload 5 dX12_feed_34 rfl ?_
    refine xi_iastore (M' := mem σ (Gb ++ [gar (upd (upd (upd (upd (upd (fun _ => 0) (0 : Int32).toNatClampNeg a) (1 : Int32).toNatClampNeg b) (2 : Int32).toNatClampNeg c) (3 : Int32).toNatClampNeg d) (4 : Int32).toNatClampNeg e)])) dX12_feed_36 mem_gar (by unfold vp_in; decide) mem_gas ?_
    refine xi_astore (lv' := [(6, .ref (163 + Gb.length)), (0, .ref 149), (1, .int a), (2, .int b), (3, .int c), (4, .int d), (5, .int e)]) dX12_feed_37 (by decide) rfl ?_
    refine xi_iconst (v := 0) dX12_feed_39 (by decide) ?_
    refine xi_istore (lv' := [(7, .int 0), (6, .ref (163 + Gb.length)), (0, .ref 149), (1, .int a), (2, .int b), (3, .int c), (4, .int d), (5, .int e)]) dX12_feed_40 (by decide) rfl ?_
    refine xi_sub (lv' := [(0, .ref 149), (6, .ref (163 + Gb.length)), (7, .int 0)]) [2, 1, 0] rfl ?_
    obtain ⟨e11, t12, k13, hq⟩ := bnd_some hq
    obtain ⟨n14, k13⟩ := wh_itr k13
    refine SX12_feed_42_w G Gb (upd (upd (upd (upd (upd (fun _ => 0) (0 : Int32).toNatClampNeg a) (1 : Int32).toNatClampNeg b) (2 : Int32).toNatClampNeg c) (3 : Int32).toNatClampNeg d) (4 : Int32).toNatClampNeg e) r0 t0 n14 (0 : Int32) σ _ _ k13 ?_
    show xW G mX12_feed (xrm 0 1 5) (xQ G (PF r0 t0 Gb) 1 5) 89 [(0, .ref 149)] [] (mem t12 (Gb ++ [gar (upd (upd (upd (upd (upd (fun _ => 0) (0 : Int32).toNatClampNeg a) (1 : Int32).toNatClampNeg b) (2 : Int32).toNatClampNeg c) (3 : Int32).toNatClampNeg d) (4 : Int32).toNatClampNeg e)])) 1 5
    refine xi_aload_n 0 dX12_feed_89 rfl ?_
    refine xi_dup dX12_feed_90 rfl ?_
    obtain ⟨v15, h16, hq⟩ := rdb_some hq
    refine yi_getV (f := 5) dX12_feed_91 sh_149 rfl ok_9 (by decide) w_1013 rfl h16 ?_
    refine xi_bipush (v := 20) dX12_feed_94 (by decide) ?_
    refine xi_iadd (v := v15 + (20 : Int32)) dX12_feed_96 rfl ?_
    obtain ⟨t17, h18, hq⟩ := wrb_some hq
    refine yi_putV (f := 5) (ty := .int) dX12_feed_97 sh_149 rfl ok_9 (by decide) w_1013 rfl rfl pf_I rfl rfl h18 ?_
    refine xi_aload_n 0 dX12_feed_100 rfl ?_
    obtain ⟨v19, h20, hq⟩ := rdb_some hq
    refine yi_getV (f := 5) dX12_feed_101 sh_149 rfl ok_9 (by decide) w_1013 rfl h20 ?_
    have r21 := some_pair hq
    obtain ⟨rfl, rfl⟩ := r21
    exact xi_iret dX12_feed_104 rfl rfl (Nat.le_of_ble_eq_true rfl) (Nat.le_of_ble_eq_true rfl) ⟨rfl, [_], Nat.le_refl _, rfl⟩
  · replace hq := ite_n c3 hq
    refine xi_iconst (v := (-1)) dX12_feed_10 (by decide) ?_
    have r22 := some_pair hq
    obtain ⟨rfl, rfl⟩ := r22
    exact xi_iret dX12_feed_11 rfl rfl (Nat.le_of_ble_eq_true rfl) (Nat.le_of_ble_eq_true rfl) ⟨rfl, [], Nat.zero_le _, mem_nil⟩
