/-! methods as functions, on -/
set_option maxHeartbeats 4000000 in
set_option maxRecDepth 100000 in
theorem SX12_minor_13_w (G : xG) (Gb : xMem) (w1 : Int32) (r0 : Int32) (t0 : St) :
    ∀ (k : Nat) (c : Int32) (σ : St) (r : Unit) (σ' : St), itr (SX12_minor_13 w1) k c σ = some (r, σ') → (xW G mX12_minor (xrm 3 0 0) (xQ G (PQ r0 t0 Gb) 0 0) 40 [(0, .ref 149), (1, .int w1)] [] (mem σ' Gb) 0 0) → xW G mX12_minor (xrm 3 0 0) (xQ G (PQ r0 t0 Gb) 0 0) 13 [(0, .ref 149), (1, .int w1), (2, .int c)] [] (mem σ Gb) 0 0 := by
  intro k
  induction k with
  | zero =>
    intro c σ r σ' h
    exact absurd h (itr_zero _ _ _ _)
  | succ k ih =>
    intro c σ r σ' h HE
    obtain ⟨x, s1, hs, h⟩ := itr_succ h
    unfold SX12_minor_13 at hs
    refine xi_iload_n 2 dX12_minor_13 rfl ?_
    refine xi_aload_n 0 dX12_minor_14 rfl ?_
    refine xi_iload_n 1 dX12_minor_15 rfl ?_
    obtain ⟨v5, t6, k7, hs⟩ := bnd_some hs
    refine xi_callV (as := [.int w1]) (rest := [.int c]) dX12_minor_16 (KX12_points G Gb w1 _ _ _ k7) mkX12_points w_1108 ws_36 w_1106 (mem_get sh_149) rfl rfl rfl rfl (Nat.le_of_ble_eq_true rfl) (Nat.le_of_ble_eq_true rfl) (Nat.le_of_ble_eq_true rfl) (Nat.le_of_ble_eq_true rfl) (Nat.le_of_ble_eq_true rfl) ?_
    intro v M2 hz
    obtain ⟨rfl, rfl⟩ := hz
    show xW _ _ _ _ 19 _ [.int v5, .int c] (mem t6 Gb) _ _
    refine xi_icmp_ge (tgt := 40) dX12_minor_19 (by decide) (fun c8 => ?_) (fun c8 => ?_)
    · replace hs := ite_p c8 hs
      refine xi_sub (lv' := [(0, .ref 149), (1, .int w1)]) [0, 1] rfl ?_
      obtain ⟨rfl, rfl⟩ := some_pair hs
      obtain ⟨rfl, rfl⟩ := some_pair h
      exact HE
    · replace hs := ite_n c8 hs
      refine xi_aload_n 0 dX12_minor_22 rfl ?_
      refine yi_getR (f := 22) dX12_minor_23 sh_149 rfl ok_9 (by decide) w_1030 rfl ?_
      refine xi_iload_n 2 dX12_minor_26 rfl ?_
      refine xi_aload_n 0 dX12_minor_27 rfl ?_
      refine xi_iload_n 1 dX12_minor_28 rfl ?_
      refine xi_iload_n 2 dX12_minor_29 rfl ?_
      obtain ⟨v9, t10, k11, hs⟩ := bnd_some hs
      refine xi_callV (as := [.int w1, .int c]) (rest := [.int c, .ref 160]) dX12_minor_30 (KX12_nearOf G Gb w1 c _ _ _ k11) mkX12_nearOf w_1188 ws_52 w_1186 (mem_get sh_149) rfl rfl rfl rfl (Nat.le_of_ble_eq_true rfl) (Nat.le_of_ble_eq_true rfl) (Nat.le_of_ble_eq_true rfl) (Nat.le_of_ble_eq_true rfl) (Nat.le_of_ble_eq_true rfl) ?_
      intro v M2 hz
      obtain ⟨rfl, rfl⟩ := hz
      show xW _ _ _ _ 33 _ [.int v9, .int c, .ref 160] (mem t10 Gb) _ _
      obtain ⟨g12, hs⟩ := chk_some hs
      obtain ⟨t13, h14, hs⟩ := wrb_some hs
      refine yi_iastoreV dX12_minor_33 sh_160 g12 h14 ?_
      refine xi_iinc (v := (c + 1)) (lv' := [(2, .int (c + 1)), (0, .ref 149), (1, .int w1)]) 2 dX12_minor_34 rfl rfl (by decide) rfl ?_
      refine xi_goto (tgt := 13) dX12_minor_37 (by decide) ?_
      refine xi_sub (lv' := [(0, .ref 149), (1, .int w1), (2, .int (c + 1))]) [1, 2, 0] rfl ?_
      obtain ⟨rfl, rfl⟩ := some_pair hs
      exact ih (c + 1) t13 _ _ h HE
set_option maxHeartbeats 4000000 in
set_option maxRecDepth 100000 in
theorem SX12_minor_103_w (G : xG) (Gb : xMem) (w1 : Int32) (w2 : Int32) (w3 : Int32) (w4 : Int32) (w5 : Int32) (r0 : Int32) (t0 : St) :
    ∀ (k : Nat) (c : Int32) (σ : St) (r : Unit) (σ' : St), itr (SX12_minor_103 w1 w2 w3 w4 w5) k c σ = some (r, σ') → (xW G mX12_minor (xrm 3 0 0) (xQ G (PQ r0 t0 Gb) 0 0) 189 [(0, .ref 149), (1, .int w1), (2, .int w2), (3, .int w3)] [] (mem σ' Gb) 0 0) → xW G mX12_minor (xrm 3 0 0) (xQ G (PQ r0 t0 Gb) 0 0) 103 [(0, .ref 149), (1, .int w1), (2, .int w2), (3, .int w3), (4, .int w4), (5, .int w5), (6, .int c)] [] (mem σ Gb) 0 0 := by
  intro k
  induction k with
  | zero =>
    intro c σ r σ' h
    exact absurd h (itr_zero _ _ _ _)
  | succ k ih =>
    intro c σ r σ' h HE
    obtain ⟨x, s1, hs, h⟩ := itr_succ h
    unfold SX12_minor_103 at hs
    refine xi_iload 6 dX12_minor_103 rfl ?_
    refine xi_aload_n 0 dX12_minor_105 rfl ?_
    refine xi_iload_n 1 dX12_minor_106 rfl ?_
    obtain ⟨v38, t39, k40, hs⟩ := bnd_some hs
    refine xi_callV (as := [.int w1]) (rest := [.int c]) dX12_minor_107 (KX12_points G Gb w1 _ _ _ k40) mkX12_points w_1108 ws_36 w_1106 (mem_get sh_149) rfl rfl rfl rfl (Nat.le_of_ble_eq_true rfl) (Nat.le_of_ble_eq_true rfl) (Nat.le_of_ble_eq_true rfl) (Nat.le_of_ble_eq_true rfl) (Nat.le_of_ble_eq_true rfl) ?_
    intro v M2 hz
    obtain ⟨rfl, rfl⟩ := hz
    show xW _ _ _ _ 110 _ [.int v38, .int c] (mem t39 Gb) _ _
    refine xi_icmp_ge (tgt := 189) dX12_minor_110 (by decide) (fun c41 => ?_) (fun c41 => ?_)
    · replace hs := ite_p c41 hs
      refine xi_sub (lv' := [(0, .ref 149), (1, .int w1), (2, .int w2), (3, .int w3)]) [0, 1, 2, 3] rfl ?_
      obtain ⟨rfl, rfl⟩ := some_pair hs
      obtain ⟨rfl, rfl⟩ := some_pair h
      exact HE
    · replace hs := ite_n c41 hs
      refine xi_aload_n 0 dX12_minor_113 rfl ?_
      refine yi_getR (f := 22) dX12_minor_114 sh_149 rfl ok_9 (by decide) w_1030 rfl ?_
      refine xi_iload 4 dX12_minor_117 rfl ?_
      obtain ⟨g42, hs⟩ := chk_some hs
      obtain ⟨v43, h44, hs⟩ := rdb_some hs
      refine yi_ialoadV dX12_minor_119 sh_160 g42 h44 ?_
      refine xi_iload 6 dX12_minor_120 rfl ?_
      obtain ⟨v45, t46, k47, hs⟩ := bnd_some hs
      refine xi_callS (as := [.int v43, .int c]) (rest := []) dX12_minor_122 (KX12_has G Gb v43 c _ _ _ k47) mkX12_has w_1207 w_1206 rfl rfl (Nat.le_of_ble_eq_true rfl) (Nat.le_of_ble_eq_true rfl) (Nat.le_of_ble_eq_true rfl) (Nat.le_of_ble_eq_true rfl) (Nat.le_of_ble_eq_true rfl) ?_
      intro v M2 hz
      obtain ⟨rfl, rfl⟩ := hz
      show xW _ _ _ _ 125 _ [.int v45] (mem t46 Gb) _ _
      refine xi_istore (lv' := [(7, .int v45), (0, .ref 149), (1, .int w1), (2, .int w2), (3, .int w3), (4, .int w4), (5, .int w5), (6, .int c)]) dX12_minor_125 (by decide) rfl ?_
      refine xi_aload_n 1 dX12_minor_127 rfl ?_
      refine yi_getR (f := 22) dX12_minor_128 sh_149 rfl ok_9 (by decide) w_1030 rfl ?_
      refine xi_iload 7 dX12_minor_131 rfl ?_
      refine xi_dup2 dX12_minor_133 rfl rfl ?_
      obtain ⟨g48, hs⟩ := chk_some hs
      obtain ⟨v49, h50, hs⟩ := rdb_some hs
      refine yi_ialoadV dX12_minor_134 sh_160 g48 h50 ?_
      refine xi_iconst (v := 1) dX12_minor_135 (by decide) ?_
      refine xi_iload 5 dX12_minor_136 rfl ?_
      refine xi_ishl (v := shl (1 : Int32) w4) dX12_minor_138 rfl ?_
      refine xi_iconst (v := (-1)) dX12_minor_139 (by decide) ?_
      refine xi_ixor (v := (shl (1 : Int32) w4) ^^^ (-1 : Int32)) dX12_minor_140 rfl ?_
      refine xi_iand (v := v49 &&& ((shl (1 : Int32) w4) ^^^ (-1 : Int32))) dX12_minor_141 rfl ?_
      obtain ⟨g51, hs⟩ := chk_some hs
      obtain ⟨t52, h53, hs⟩ := wrb_some hs
      refine yi_iastoreV dX12_minor_142 sh_160 g51 h53 ?_
      refine xi_iload 0 dX12_minor_143 rfl ?_
      obtain ⟨v55, t56, m57, hs⟩ := bnd_some hs
      have key58 : xW G mX12_minor (xrm 3 0 0) (xQ G (PQ r0 t0 Gb) 0 0) 183 [(0, .ref 149), (1, .int w1), (2, .int w2), (3, .int w3), (4, .int w4), (5, .int w5), (6, .int c)] [] (mem t56 Gb) 0 0 := by
        refine xi_iinc (v := (c + 1)) (lv' := [(6, .int (c + 1)), (0, .ref 149), (1, .int w1), (2, .int w2), (3, .int w3), (4, .int w4), (5, .int w5)]) 6 dX12_minor_183 rfl rfl (by decide) rfl ?_
        refine xi_goto (tgt := 103) dX12_minor_186 (by decide) ?_
        refine xi_sub (lv' := [(0, .ref 149), (1, .int w1), (2, .int w2), (3, .int w3), (4, .int w4), (5, .int w5), (6, .int (c + 1))]) [1, 2, 3, 4, 5, 6, 0] rfl ?_
        obtain ⟨rfl, rfl⟩ := some_pair hs
        exact ih (c + 1) t56 _ _ h HE
      refine xi_if_eq (tgt := 183) dX12_minor_145 (by decide) (fun c54 => ?_) (fun c54 => ?_)
      · replace m57 := ite_p c54 m57
        obtain ⟨rfl, rfl⟩ := some_pair m57
        refine xi_sub (lv' := [(0, .ref 149), (1, .int w1), (2, .int w2), (3, .int w3), (4, .int w4), (5, .int w5), (6, .int c)]) [1, 2, 3, 4, 5, 6, 7] rfl ?_
        exact key58
      · replace m57 := ite_n c54 m57
        refine xi_iload 7 dX12_minor_148 rfl ?_
        refine xi_iload 6 dX12_minor_150 rfl ?_
        refine xi_icmp_eq (tgt := 183) dX12_minor_152 (by decide) (fun c59 => ?_) (fun c59 => ?_)
        · replace m57 := ite_p c59 m57
          obtain ⟨rfl, rfl⟩ := some_pair m57
          refine xi_sub (lv' := [(0, .ref 149), (1, .int w1), (2, .int w2), (3, .int w3), (4, .int w4), (5, .int w5), (6, .int c)]) [1, 2, 3, 4, 5, 6, 7] rfl ?_
          exact key58
        · replace m57 := ite_n c59 m57
          refine xi_aload_n 1 dX12_minor_155 rfl ?_
          refine yi_getR (f := 22) dX12_minor_156 sh_149 rfl ok_9 (by decide) w_1030 rfl ?_
          refine xi_iload 7 dX12_minor_159 rfl ?_
          refine xi_dup2 dX12_minor_161 rfl rfl ?_
          obtain ⟨g60, m57⟩ := chk_some m57
          obtain ⟨v61, h62, m57⟩ := rdb_some m57
          refine yi_ialoadV dX12_minor_162 sh_160 g60 h62 ?_
          refine xi_iconst (v := 1) dX12_minor_163 (by decide) ?_
          refine xi_iload 6 dX12_minor_164 rfl ?_
          refine xi_ishl (v := shl (1 : Int32) w5) dX12_minor_166 rfl ?_
          refine xi_ior (v := v61 ||| (shl (1 : Int32) w5)) dX12_minor_167 rfl ?_
          obtain ⟨g63, m57⟩ := chk_some m57
          obtain ⟨t64, h65, m57⟩ := wrb_some m57
          refine yi_iastoreV dX12_minor_168 sh_160 g63 h65 ?_
          refine xi_aload_n 1 dX12_minor_169 rfl ?_
          refine yi_getR (f := 22) dX12_minor_170 sh_149 rfl ok_9 (by decide) w_1030 rfl ?_
          refine xi_iload 6 dX12_minor_173 rfl ?_
          refine xi_dup2 dX12_minor_175 rfl rfl ?_
          obtain ⟨g66, m57⟩ := chk_some m57
          obtain ⟨v67, h68, m57⟩ := rdb_some m57
          refine yi_ialoadV dX12_minor_176 sh_160 g66 h68 ?_
          refine xi_iconst (v := 1) dX12_minor_177 (by decide) ?_
          refine xi_iload 7 dX12_minor_178 rfl ?_
          refine xi_ishl (v := shl (1 : Int32) c) dX12_minor_180 rfl ?_
          refine xi_ior (v := v67 ||| (shl (1 : Int32) c)) dX12_minor_181 rfl ?_
          obtain ⟨g69, m57⟩ := chk_some m57
          obtain ⟨t70, h71, m57⟩ := wrb_some m57
          refine yi_iastoreV dX12_minor_182 sh_160 g69 h71 ?_
          obtain ⟨rfl, rfl⟩ := some_pair m57
          refine xi_sub (lv' := [(0, .ref 149), (1, .int w1), (2, .int w2), (3, .int w3), (4, .int w4), (5, .int w5), (6, .int c)]) [1, 2, 3, 4, 5, 6, 7] rfl ?_
          exact key58
set_option maxHeartbeats 4000000 in
set_option maxRecDepth 100000 in
theorem SX12_minor_52_w (G : xG) (Gb : xMem) (w1 : Int32) (r0 : Int32) (t0 : St) :
    ∀ (k : Nat) (c : Int32 × Int32) (σ : St) (r : Int32) (σ' : St), itr (SX12_minor_52 w1) k c σ = some (r, σ') → (xW G mX12_minor (xrm 3 0 0) (xQ G (PQ r0 t0 Gb) 0 0) 192 [(2, .int r)] [] (mem σ' Gb) 0 0) → xW G mX12_minor (xrm 3 0 0) (xQ G (PQ r0 t0 Gb) 0 0) 52 [(0, .ref 149), (1, .int w1), (2, .int c.1), (3, .int c.2)] [] (mem σ Gb) 0 0 := by
  intro k
  induction k with
  | zero =>
    intro c σ r σ' h
    exact absurd h (itr_zero _ _ _ _)
  | succ k ih =>
    intro c σ r σ' h HE
    obtain ⟨x, s1, hs, h⟩ := itr_succ h
    unfold SX12_minor_52 at hs
    refine xi_iload_n 3 dX12_minor_52 rfl ?_
    refine xi_if_eq (tgt := 192) dX12_minor_53 (by decide) (fun c22 => ?_) (fun c22 => ?_)
    · replace hs := ite_p c22 hs
      refine xi_sub (lv' := [(2, .int c.1)]) [2] rfl ?_
      obtain ⟨rfl, rfl⟩ := some_pair hs
      obtain ⟨rfl, rfl⟩ := some_pair h
      exact HE
    · replace hs := ite_n c22 hs
      refine xi_aload_n 0 dX12_minor_56 rfl ?_
      refine xi_iload_n 3 dX12_minor_57 rfl ?_
      obtain ⟨v23, t24, k25, hs⟩ := bnd_some hs
      refine xi_callV (as := [.int c.2]) (rest := []) dX12_minor_58 (KX12_fewestOf G Gb c.2 _ _ _ k25) mkX12_fewestOf w_1428 ws_86 w_1426 (mem_get sh_149) rfl rfl rfl rfl (Nat.le_of_ble_eq_true rfl) (Nat.le_of_ble_eq_true rfl) (Nat.le_of_ble_eq_true rfl) (Nat.le_of_ble_eq_true rfl) (Nat.le_of_ble_eq_true rfl) ?_
      intro v M2 hz
      obtain ⟨rfl, rfl⟩ := hz
      show xW _ _ _ _ 61 _ [.int v23] (mem t24 Gb) _ _
      refine xi_istore (lv' := [(4, .int v23), (0, .ref 149), (1, .int w1), (2, .int c.1), (3, .int c.2)]) dX12_minor_61 (by decide) rfl ?_
      refine xi_aload_n 1 dX12_minor_63 rfl ?_
      refine xi_aload_n 1 dX12_minor_64 rfl ?_
      refine yi_getR (f := 22) dX12_minor_65 sh_149 rfl ok_9 (by decide) w_1030 rfl ?_
      refine xi_iload 0 dX12_minor_68 rfl ?_
      obtain ⟨g26, hs⟩ := chk_some hs
      obtain ⟨v27, h28, hs⟩ := rdb_some hs
      refine yi_ialoadV dX12_minor_70 sh_160 g26 h28 ?_
      obtain ⟨v29, t30, k31, hs⟩ := bnd_some hs
      refine xi_callV (as := [.int v27]) (rest := []) dX12_minor_71 (KX12_fewestOf G Gb v27 _ _ _ k31) mkX12_fewestOf w_1428 ws_86 w_1426 (mem_get sh_149) rfl rfl rfl rfl (Nat.le_of_ble_eq_true rfl) (Nat.le_of_ble_eq_true rfl) (Nat.le_of_ble_eq_true rfl) (Nat.le_of_ble_eq_true rfl) (Nat.le_of_ble_eq_true rfl) ?_
      intro v M2 hz
      obtain ⟨rfl, rfl⟩ := hz
      show xW _ _ _ _ 74 _ [.int v29] (mem t30 Gb) _ _
      refine xi_istore (lv' := [(5, .int v29), (4, .int v23), (0, .ref 149), (1, .int w1), (2, .int c.1), (3, .int c.2)]) dX12_minor_74 (by decide) rfl ?_
      refine xi_iload_n 4 dX12_minor_76 rfl ?_
      refine xi_aload_n 2 dX12_minor_77 rfl ?_
      refine yi_getR (f := 22) dX12_minor_78 sh_149 rfl ok_9 (by decide) w_1030 rfl ?_
      refine xi_iload 1 dX12_minor_81 rfl ?_
      obtain ⟨g32, hs⟩ := chk_some hs
      obtain ⟨v33, h34, hs⟩ := rdb_some hs
      refine yi_ialoadV dX12_minor_83 sh_160 g32 h34 ?_
      obtain ⟨v35, t36, k37, hs⟩ := bnd_some hs
      refine xi_callS (as := [.int v33]) (rest := [.int c.1]) dX12_minor_84 (KX12_ones G Gb v33 _ _ _ k37) mkX12_ones w_1195 w_1194 rfl rfl (Nat.le_of_ble_eq_true rfl) (Nat.le_of_ble_eq_true rfl) (Nat.le_of_ble_eq_true rfl) (Nat.le_of_ble_eq_true rfl) (Nat.le_of_ble_eq_true rfl) ?_
      intro v M2 hz
      obtain ⟨rfl, rfl⟩ := hz
      show xW _ _ _ _ 87 _ [.int v35, .int c.1] (mem t36 Gb) _ _
      refine xi_max (v := (mxI c.1 v35)) dX12_minor_87 w_1234 w_37 w_3 w_mmax (Nat.le_of_ble_eq_true rfl) (Nat.le_of_ble_eq_true rfl) (Nat.le_of_ble_eq_true rfl) (Nat.le_of_ble_eq_true rfl) (Nat.le_of_ble_eq_true rfl) rfl ?_
      refine xi_istore_n (lv' := [(2, .int (mxI c.1 v35)), (5, .int v29), (4, .int v23), (0, .ref 149), (1, .int w1), (3, .int c.2)]) dX12_minor_90 (by decide) rfl ?_
      refine xi_iload_n 5 dX12_minor_91 rfl ?_
      refine xi_iconst (v := 1) dX12_minor_92 (by decide) ?_
      refine xi_iload 2 dX12_minor_93 rfl ?_
      refine xi_ishl (v := shl (1 : Int32) v23) dX12_minor_95 rfl ?_
      refine xi_iconst (v := (-1)) dX12_minor_96 (by decide) ?_
      refine xi_ixor (v := (shl (1 : Int32) v23) ^^^ (-1 : Int32)) dX12_minor_97 rfl ?_
      refine xi_iand (v := c.2 &&& ((shl (1 : Int32) v23) ^^^ (-1 : Int32))) dX12_minor_98 rfl ?_
      refine xi_istore_n (lv' := [(3, .int (c.2 &&& ((shl (1 : Int32) v23) ^^^ (-1 : Int32)))), (2, .int (mxI c.1 v35)), (5, .int v29), (4, .int v23), (0, .ref 149), (1, .int w1)]) dX12_minor_99 (by decide) rfl ?_
      refine xi_iconst (v := 0) dX12_minor_100 (by decide) ?_
      refine xi_istore (lv' := [(6, .int 0), (3, .int (c.2 &&& ((shl (1 : Int32) v23) ^^^ (-1 : Int32)))), (2, .int (mxI c.1 v35)), (5, .int v29), (4, .int v23), (0, .ref 149), (1, .int w1)]) dX12_minor_101 (by decide) rfl ?_
      refine xi_sub (lv' := [(0, .ref 149), (1, .int w1), (2, .int (mxI c.1 v35)), (3, .int (c.2 &&& ((shl (1 : Int32) v23) ^^^ (-1 : Int32)))), (4, .int v23), (5, .int v29), (6, .int 0)]) [5, 6, 2, 1, 4, 3, 0] rfl ?_
      obtain ⟨e72, t73, k74, hs⟩ := bnd_some hs
      obtain ⟨n75, k74⟩ := wh_itr k74
      refine SX12_minor_103_w G Gb w1 (mxI c.1 v35) (c.2 &&& ((shl (1 : Int32) v23) ^^^ (-1 : Int32))) v23 v29 r0 t0 n75 (0 : Int32) t36 _ _ k74 ?_
      show xW G mX12_minor (xrm 3 0 0) (xQ G (PQ r0 t0 Gb) 0 0) 189 [(0, .ref 149), (1, .int w1), (2, .int (mxI c.1 v35)), (3, .int (c.2 &&& ((shl (1 : Int32) v23) ^^^ (-1 : Int32))))] [] (mem t73 Gb) 0 0
      refine xi_goto (tgt := 52) dX12_minor_189 (by decide) ?_
      obtain ⟨rfl, rfl⟩ := some_pair hs
      exact ih ((mxI c.1 v35), (c.2 &&& ((shl (1 : Int32) v23) ^^^ (-1 : Int32)))) t73 _ _ h HE
noncomputable def FX12_minor (a : Int32) (σ : St) : Option ((Int32) × St) :=
  (bnd (FX12_isNet a σ) (fun v1 t2 => (if v1 = (0 : Int32) then (some ((-2 : Int32), t2)) else (bnd (wh (SX12_minor_13 a) (0 : Int32) t2) (fun e15 t16 => (bnd (FX12_points a t16) (fun v19 t20 => (bnd (wh (SX12_minor_52 a) ((0 : Int32), ((shl (1 : Int32) v19) - (1 : Int32))) t20) (fun e76 t77 => (some (e76, t77)))))))))))
set_option maxHeartbeats 4000000 in
set_option maxRecDepth 100000 in
theorem KX12_minor (G : xG) (Gb : xMem) (a : Int32) (σ : St) (r0 : Int32) (t0 : St) (hq : FX12_minor a σ = some (r0, t0)) : xC G mX12_minor 3 0 0 [.ref 149, .int a] (mem σ Gb) (PQ r0 t0 Gb) := by
  unfold FX12_minor at hq
  refine xC.of (by decide) (Nat.le_of_ble_eq_true rfl) ?_
  show xW _ _ _ _ 0 [(0, .ref 149), (1, .int a)] [] _ 0 0
  refine xi_aload_n 0 dX12_minor_0 rfl ?_
  refine xi_iload_n 1 dX12_minor_1 rfl ?_
  obtain ⟨v1, t2, k3, hq⟩ := bnd_some hq
  refine xi_callV (as := [.int a]) (rest := []) dX12_minor_2 (KX12_isNet G Gb a _ _ _ k3) mkX12_isNet w_1104 ws_35 w_1102 (mem_get sh_149) rfl rfl rfl rfl (Nat.le_of_ble_eq_true rfl) (Nat.le_of_ble_eq_true rfl) (Nat.le_of_ble_eq_true rfl) (Nat.le_of_ble_eq_true rfl) (Nat.le_of_ble_eq_true rfl) ?_
  intro v M2 hz
  obtain ⟨rfl, rfl⟩ := hz
  show xW _ _ _ _ 5 _ [.int v1] (mem t2 Gb) _ _
  refine xi_if_ne (tgt := 11) dX12_minor_5 (by decide) (fun c4 => ?_) (fun c4 => ?_)
  · replace hq := ite_n c4 hq
    refine xi_iconst (v := 0) dX12_minor_11 (by decide) ?_
    refine xi_istore_n (lv' := [(2, .int 0), (0, .ref 149), (1, .int a)]) dX12_minor_12 (by decide) rfl ?_
    refine xi_sub (lv' := [(0, .ref 149), (1, .int a), (2, .int 0)]) [1, 2, 0] rfl ?_
    obtain ⟨e15, t16, k17, hq⟩ := bnd_some hq
    obtain ⟨n18, k17⟩ := wh_itr k17
    refine SX12_minor_13_w G Gb a r0 t0 n18 (0 : Int32) t2 _ _ k17 ?_
    show xW G mX12_minor (xrm 3 0 0) (xQ G (PQ r0 t0 Gb) 0 0) 40 [(0, .ref 149), (1, .int a)] [] (mem t16 Gb) 0 0
    refine xi_iconst (v := 0) dX12_minor_40 (by decide) ?_
    refine xi_istore_n (lv' := [(2, .int 0), (0, .ref 149), (1, .int a)]) dX12_minor_41 (by decide) rfl ?_
    refine xi_iconst (v := 1) dX12_minor_42 (by decide) ?_
    refine xi_aload_n 1 dX12_minor_43 rfl ?_
    refine xi_iload_n 2 dX12_minor_44 rfl ?_
    obtain ⟨v19, t20, k21, hq⟩ := bnd_some hq
    refine xi_callV (as := [.int a]) (rest := [.int 1]) dX12_minor_45 (KX12_points G Gb a _ _ _ k21) mkX12_points w_1108 ws_36 w_1106 (mem_get sh_149) rfl rfl rfl rfl (Nat.le_of_ble_eq_true rfl) (Nat.le_of_ble_eq_true rfl) (Nat.le_of_ble_eq_true rfl) (Nat.le_of_ble_eq_true rfl) (Nat.le_of_ble_eq_true rfl) ?_
    intro v M2 hz
    obtain ⟨rfl, rfl⟩ := hz
    show xW _ _ _ _ 48 _ [.int v19, .int 1] (mem t20 Gb) _ _
    refine xi_ishl (v := shl (1 : Int32) v19) dX12_minor_48 rfl ?_
    refine xi_iconst (v := 1) dX12_minor_49 (by decide) ?_
    refine xi_isub (v := (shl (1 : Int32) v19) - (1 : Int32)) dX12_minor_50 rfl ?_
    refine xi_istore_n (lv' := [(3, .int ((shl (1 : Int32) v19) - (1 : Int32))), (2, .int 0), (0, .ref 149), (1, .int a)]) dX12_minor_51 (by decide) rfl ?_
    refine xi_sub (lv' := [(0, .ref 149), (1, .int a), (2, .int 0), (3, .int ((shl (1 : Int32) v19) - (1 : Int32)))]) [2, 3, 1, 0] rfl ?_
    obtain ⟨e76, t77, k78, hq⟩ := bnd_some hq
    obtain ⟨n79, k78⟩ := wh_itr k78
    refine SX12_minor_52_w G Gb a r0 t0 n79 ((0 : Int32), ((shl (1 : Int32) v19) - (1 : Int32))) t20 _ _ k78 ?_
    show xW G mX12_minor (xrm 3 0 0) (xQ G (PQ r0 t0 Gb) 0 0) 192 [(2, .int e76)] [] (mem t77 Gb) 0 0
    refine xi_iload_n 0 dX12_minor_192 rfl ?_
    have r80 := some_pair hq
    obtain ⟨rfl, rfl⟩ := r80
    exact xi_iret dX12_minor_193 rfl rfl (Nat.le_of_ble_eq_true rfl) (Nat.le_of_ble_eq_true rfl) ⟨rfl, rfl⟩
  · replace hq := ite_p c4 hq
    refine xi_bipush (v := (-2)) dX12_minor_8 (by decide) ?_
    have r81 := some_pair hq
    obtain ⟨rfl, rfl⟩ := r81
    exact xi_iret dX12_minor_10 rfl rfl (Nat.le_of_ble_eq_true rfl) (Nat.le_of_ble_eq_true rfl) ⟨rfl, rfl⟩
noncomputable def SX12_moves_41 (w1 : Int32) (w3 : Int32) (w4 : Int32) (c : Int32) (σ : St) : Option (((Int32) ⊕ (Unit)) × St) :=
  (if c = w3 then (some (Sum.inr (), σ)) else (bnd (FX12_exchanges c (c + w4) σ) (fun v19 t20 => (some (Sum.inl (c + w4), t20)))))
set_option maxHeartbeats 4000000 in
set_option maxRecDepth 100000 in
theorem SX12_moves_41_w (G : xG) (Gb : xMem) (w1 : Int32) (w3 : Int32) (w4 : Int32) (r0 : Int32) (t0 : St) :
    ∀ (k : Nat) (c : Int32) (σ : St) (r : Unit) (σ' : St), itr (SX12_moves_41 w1 w3 w4) k c σ = some (r, σ') → (xW G mX12_moves (xrm 4 0 0) (xQ G (PQ r0 t0 Gb) 0 0) 68 [(0, .ref 149), (1, .int w1), (3, .int w3)] [] (mem σ' Gb) 0 0) → xW G mX12_moves (xrm 4 0 0) (xQ G (PQ r0 t0 Gb) 0 0) 41 [(0, .ref 149), (1, .int w1), (3, .int w3), (4, .int w4), (5, .int c)] [] (mem σ Gb) 0 0 := by
  intro k
  induction k with
  | zero =>
    intro c σ r σ' h
    exact absurd h (itr_zero _ _ _ _)
  | succ k ih =>
    intro c σ r σ' h HE
    obtain ⟨x, s1, hs, h⟩ := itr_succ h
    unfold SX12_moves_41 at hs
    refine xi_iload 4 dX12_moves_41 rfl ?_
    refine xi_iload_n 2 dX12_moves_43 rfl ?_
    refine xi_icmp_eq (tgt := 68) dX12_moves_44 (by decide) (fun c18 => ?_) (fun c18 => ?_)
    · replace hs := ite_p c18 hs
      refine xi_sub (lv' := [(0, .ref 149), (1, .int w1), (3, .int w3)]) [0, 1, 2] rfl ?_
      obtain ⟨rfl, rfl⟩ := some_pair hs
      obtain ⟨rfl, rfl⟩ := some_pair h
      exact HE
    · replace hs := ite_n c18 hs
      refine xi_aload_n 0 dX12_moves_47 rfl ?_
      refine xi_iload 4 dX12_moves_48 rfl ?_
      refine xi_iload 4 dX12_moves_50 rfl ?_
      refine xi_iload 3 dX12_moves_52 rfl ?_
      refine xi_iadd (v := c + w4) dX12_moves_54 rfl ?_
      obtain ⟨v19, t20, k21, hs⟩ := bnd_some hs
      refine xi_callV (as := [.int c, .int (c + w4)]) (rest := []) dX12_moves_55 (KX12_exchanges G Gb c (c + w4) _ _ _ k21) mkX12_exchanges w_1452 ws_87 w_1450 (mem_get sh_149) rfl rfl rfl rfl (Nat.le_of_ble_eq_true rfl) (Nat.le_of_ble_eq_true rfl) (Nat.le_of_ble_eq_true rfl) (Nat.le_of_ble_eq_true rfl) (Nat.le_of_ble_eq_true rfl) ?_
      intro v M2 hz
      obtain ⟨rfl, rfl⟩ := hz
      show xW _ _ _ _ 58 _ [] (mem t20 Gb) _ _
      refine xi_iload 4 dX12_moves_58 rfl ?_
      refine xi_iload 3 dX12_moves_60 rfl ?_
      refine xi_iadd (v := c + w4) dX12_moves_62 rfl ?_
      refine xi_istore (lv' := [(5, .int (c + w4)), (0, .ref 149), (1, .int w1), (3, .int w3), (4, .int w4)]) dX12_moves_63 (by decide) rfl ?_
      refine xi_goto (tgt := 41) dX12_moves_65 (by decide) ?_
      refine xi_sub (lv' := [(0, .ref 149), (1, .int w1), (3, .int w3), (4, .int w4), (5, .int (c + w4))]) [1, 2, 3, 4, 0] rfl ?_
      obtain ⟨rfl, rfl⟩ := some_pair hs
      exact ih (c + w4) t20 _ _ h HE
noncomputable def FX12_moves (a : Int32) (b : Int32) (c : Int32) (σ : St) : Option ((Int32) × St) :=
  (bnd (FX12_isPoint a b σ) (fun v1 t2 => (if v1 = (0 : Int32) then (some ((-2 : Int32), t2)) else (bnd (FX12_isPoint a c t2) (fun v6 t7 => (if v6 = (0 : Int32) then (some ((-2 : Int32), t7)) else (bnd (FX12_laysRow a t7) (fun v10 t11 => (bnd (if c ≤ b then (some ((-1 : Int32), t11)) else (some ((1 : Int32), t11))) (fun v14 t15 => (bnd (wh (SX12_moves_41 a c v14) b t15) (fun e22 t23 => (bnd (FX12_takesRow a t23) (fun v26 t27 => (bnd (FX12_at a c t27) (fun v29 t30 => (some (v29, t30))))))))))))))))))
set_option maxHeartbeats 4000000 in
set_option maxRecDepth 100000 in
theorem KX12_moves (G : xG) (Gb : xMem) (a : Int32) (b : Int32) (c : Int32) (σ : St) (r0 : Int32) (t0 : St) (hq : FX12_moves a b c σ = some (r0, t0)) : xC G mX12_moves 4 0 0 [.ref 149, .int a, .int b, .int c] (mem σ Gb) (PQ r0 t0 Gb) := by
  unfold FX12_moves at hq
  refine xC.of (by decide) (Nat.le_of_ble_eq_true rfl) ?_
  show xW _ _ _ _ 0 [(0, .ref 149), (1, .int a), (2, .int b), (3, .int c)] [] _ 0 0
  refine xi_aload_n 0 dX12_moves_0 rfl ?_
  refine xi_iload_n 1 dX12_moves_1 rfl ?_
  refine xi_iload_n 2 dX12_moves_2 rfl ?_
  obtain ⟨v1, t2, k3, hq⟩ := bnd_some hq
  refine xi_callV (as := [.int a, .int b]) (rest := []) dX12_moves_3 (KX12_isPoint G Gb a b _ _ _ k3) mkX12_isPoint w_1257 ws_63 w_1255 (mem_get sh_149) rfl rfl rfl rfl (Nat.le_of_ble_eq_true rfl) (Nat.le_of_ble_eq_true rfl) (Nat.le_of_ble_eq_true rfl) (Nat.le_of_ble_eq_true rfl) (Nat.le_of_ble_eq_true rfl) ?_
  intro v M2 hz
  obtain ⟨rfl, rfl⟩ := hz
  show xW _ _ _ _ 6 _ [.int v1] (mem t2 Gb) _ _
  refine xi_if_eq (tgt := 18) dX12_moves_6 (by decide) (fun c4 => ?_) (fun c4 => ?_)
  · replace hq := ite_p c4 hq
    refine xi_bipush (v := (-2)) dX12_moves_18 (by decide) ?_
    have r5 := some_pair hq
    obtain ⟨rfl, rfl⟩ := r5
    exact xi_iret dX12_moves_20 rfl rfl (Nat.le_of_ble_eq_true rfl) (Nat.le_of_ble_eq_true rfl) ⟨rfl, rfl⟩
  · replace hq := ite_n c4 hq
    refine xi_aload_n 0 dX12_moves_9 rfl ?_
    refine xi_iload_n 1 dX12_moves_10 rfl ?_
    refine xi_iload_n 3 dX12_moves_11 rfl ?_
    obtain ⟨v6, t7, k8, hq⟩ := bnd_some hq
    refine xi_callV (as := [.int a, .int c]) (rest := []) dX12_moves_12 (KX12_isPoint G Gb a c _ _ _ k8) mkX12_isPoint w_1257 ws_63 w_1255 (mem_get sh_149) rfl rfl rfl rfl (Nat.le_of_ble_eq_true rfl) (Nat.le_of_ble_eq_true rfl) (Nat.le_of_ble_eq_true rfl) (Nat.le_of_ble_eq_true rfl) (Nat.le_of_ble_eq_true rfl) ?_
    intro v M2 hz
    obtain ⟨rfl, rfl⟩ := hz
    show xW _ _ _ _ 15 _ [.int v6] (mem t7 Gb) _ _
    refine xi_if_ne (tgt := 21) dX12_moves_15 (by decide) (fun c9 => ?_) (fun c9 => ?_)
    · replace hq := ite_n c9 hq
      refine xi_aload_n 0 dX12_moves_21 rfl ?_
      refine xi_iload_n 1 dX12_moves_22 rfl ?_
      obtain ⟨v10, t11, k12, hq⟩ := bnd_some hq
      refine xi_callV (as := [.int a]) (rest := []) dX12_moves_23 (KX12_laysRow G Gb a _ _ _ k12) mkX12_laysRow w_1292 ws_66 w_1290 (mem_get sh_149) rfl rfl rfl rfl (Nat.le_of_ble_eq_true rfl) (Nat.le_of_ble_eq_true rfl) (Nat.le_of_ble_eq_true rfl) (Nat.le_of_ble_eq_true rfl) (Nat.le_of_ble_eq_true rfl) ?_
      intro v M2 hz
      obtain ⟨rfl, rfl⟩ := hz
      show xW _ _ _ _ 26 _ [] (mem t11 Gb) _ _
      refine xi_iload_n 2 dX12_moves_26 rfl ?_
      refine xi_iload_n 3 dX12_moves_27 rfl ?_
      obtain ⟨v14, t15, m16, hq⟩ := bnd_some hq
      have key17 : xW G mX12_moves (xrm 4 0 0) (xQ G (PQ r0 t0 Gb) 0 0) 36 [(0, .ref 149), (1, .int a), (2, .int b), (3, .int c)] [.int v14] (mem t15 Gb) 0 0 := by
        refine xi_istore (lv' := [(4, .int v14), (0, .ref 149), (1, .int a), (2, .int b), (3, .int c)]) dX12_moves_36 (by decide) rfl ?_
        refine xi_iload_n 3 dX12_moves_38 rfl ?_
        refine xi_istore (lv' := [(5, .int b), (4, .int v14), (0, .ref 149), (1, .int a), (2, .int b), (3, .int c)]) dX12_moves_39 (by decide) rfl ?_
        refine xi_sub (lv' := [(0, .ref 149), (1, .int a), (3, .int c), (4, .int v14), (5, .int b)]) [2, 3, 5, 1, 0] rfl ?_
        obtain ⟨e22, t23, k24, hq⟩ := bnd_some hq
        obtain ⟨n25, k24⟩ := wh_itr k24
        refine SX12_moves_41_w G Gb a c v14 r0 t0 n25 b t15 _ _ k24 ?_
        show xW G mX12_moves (xrm 4 0 0) (xQ G (PQ r0 t0 Gb) 0 0) 68 [(0, .ref 149), (1, .int a), (3, .int c)] [] (mem t23 Gb) 0 0
        refine xi_aload_n 0 dX12_moves_68 rfl ?_
        refine xi_iload_n 1 dX12_moves_69 rfl ?_
        obtain ⟨v26, t27, k28, hq⟩ := bnd_some hq
        refine xi_callV (as := [.int a]) (rest := []) dX12_moves_70 (KX12_takesRow G Gb a _ _ _ k28) mkX12_takesRow w_1460 ws_88 w_1458 (mem_get sh_149) rfl rfl rfl rfl (Nat.le_of_ble_eq_true rfl) (Nat.le_of_ble_eq_true rfl) (Nat.le_of_ble_eq_true rfl) (Nat.le_of_ble_eq_true rfl) (Nat.le_of_ble_eq_true rfl) ?_
        intro v M2 hz
        obtain ⟨rfl, rfl⟩ := hz
        show xW _ _ _ _ 73 _ [.int v26] (mem t27 Gb) _ _
        refine xi_istore (lv' := [(5, .int v26), (0, .ref 149), (1, .int a), (3, .int c)]) dX12_moves_73 (by decide) rfl ?_
        refine xi_aload_n 1 dX12_moves_75 rfl ?_
        refine xi_iload_n 2 dX12_moves_76 rfl ?_
        refine xi_iload_n 3 dX12_moves_77 rfl ?_
        obtain ⟨v29, t30, k31, hq⟩ := bnd_some hq
        refine xi_callV (as := [.int a, .int c]) (rest := []) dX12_moves_78 (KX12_at G Gb a c _ _ _ k31) mkX12_at w_1273 ws_64 w_1271 (mem_get sh_149) rfl rfl rfl rfl (Nat.le_of_ble_eq_true rfl) (Nat.le_of_ble_eq_true rfl) (Nat.le_of_ble_eq_true rfl) (Nat.le_of_ble_eq_true rfl) (Nat.le_of_ble_eq_true rfl) ?_
        intro v M2 hz
        obtain ⟨rfl, rfl⟩ := hz
        show xW _ _ _ _ 81 _ [.int v29] (mem t30 Gb) _ _
        have r32 := some_pair hq
        obtain ⟨rfl, rfl⟩ := r32
        exact xi_iret dX12_moves_81 rfl rfl (Nat.le_of_ble_eq_true rfl) (Nat.le_of_ble_eq_true rfl) ⟨rfl, rfl⟩
      refine xi_icmp_ge (tgt := 35) dX12_moves_28 (by decide) (fun c13 => ?_) (fun c13 => ?_)
      · replace m16 := ite_p c13 m16
        refine xi_iconst (v := (-1)) dX12_moves_35 (by decide) ?_
        obtain ⟨rfl, rfl⟩ := some_pair m16
        exact key17
      · replace m16 := ite_n c13 m16
        refine xi_iconst (v := 1) dX12_moves_31 (by decide) ?_
        refine xi_goto (tgt := 36) dX12_moves_32 (by decide) ?_
        obtain ⟨rfl, rfl⟩ := some_pair m16
        exact key17
    · replace hq := ite_p c9 hq
      refine xi_bipush (v := (-2)) dX12_moves_18 (by decide) ?_
      have r33 := some_pair hq
      obtain ⟨rfl, rfl⟩ := r33
      exact xi_iret dX12_moves_20 rfl rfl (Nat.le_of_ble_eq_true rfl) (Nat.le_of_ble_eq_true rfl) ⟨rfl, rfl⟩
noncomputable def SX12_next_0 (c : Unit) (σ : St) : Option (((Unit) ⊕ (Unit)) × St) :=
  (bnd (FX12_isAt (32 : Int32) (32 : Int32) σ) (fun v1 t2 => (if v1 = (0 : Int32) then (bnd (FX12_isAt (10 : Int32) (10 : Int32) t2) (fun v9 t10 => (if v9 = (0 : Int32) then (some (Sum.inr (), t10)) else (rdb t10 149 (8) (fun v13 => (wrb t10 149 (8) (v13 + (1 : Int32)) (fun t15 => (some (Sum.inl (), t15))))))))) else (rdb t2 149 (8) (fun v5 => (wrb t2 149 (8) (v5 + (1 : Int32)) (fun t7 => (some (Sum.inl (), t7)))))))))
noncomputable def SX12_next_123 (c : Unit) (σ : St) : Option (((Unit) ⊕ (Unit)) × St) :=
  (bnd (FX12_isAt (48 : Int32) (57 : Int32) σ) (fun v49 t50 => (if v49 = (0 : Int32) then (some (Sum.inr (), t50)) else (rdb t50 149 (11) (fun v53 => (rdb t50 149 (8) (fun v55 => (chk (inb v55 400) (rdb t50 153 (v55.toNatClampNeg) (fun v58 => (wrb t50 149 (11) (mnI (1000 : Int32) ((((10 : Int32) * v53) + v58) - (48 : Int32))) (fun t60 => (rdb t60 149 (8) (fun v62 => (wrb t60 149 (8) (v62 + (1 : Int32)) (fun t64 => (some (Sum.inl (), t64))))))))))))))))))
noncomputable def SX12_next_83 (c : Unit) (σ : St) : Option (((Unit) ⊕ (Unit)) × St) :=
  (bnd (FX12_isAt (97 : Int32) (122 : Int32) σ) (fun v73 t74 => (if v73 = (0 : Int32) then (some (Sum.inr (), t74)) else (rdb t74 149 (8) (fun v77 => (wrb t74 149 (8) (v77 + (1 : Int32)) (fun t79 => (some (Sum.inl (), t79)))))))))
set_option maxHeartbeats 4000000 in
set_option maxRecDepth 100000 in
theorem SX12_next_0_w (G : xG) (Gb : xMem) (r0 : Unit) (t0 : St) :
    ∀ (k : Nat) (c : Unit) (σ : St) (r : Unit) (σ' : St), itr (SX12_next_0) k c σ = some (r, σ') → (xW G mX12_next (xrm 2 0 0) (xQ G (PV r0 t0 Gb) 0 0) 35 [(0, .ref 149)] [] (mem σ' Gb) 0 0) → xW G mX12_next (xrm 2 0 0) (xQ G (PV r0 t0 Gb) 0 0) 0 [(0, .ref 149)] [] (mem σ Gb) 0 0 := by
  intro k
  induction k with
  | zero =>
    intro c σ r σ' h
    exact absurd h (itr_zero _ _ _ _)
  | succ k ih =>
    intro c σ r σ' h HE
    obtain ⟨x, s1, hs, h⟩ := itr_succ h
    unfold SX12_next_0 at hs
    refine xi_aload_n 0 dX12_next_0 rfl ?_
    refine xi_bipush (v := 32) dX12_next_1 (by decide) ?_
    refine xi_bipush (v := 32) dX12_next_3 (by decide) ?_
    obtain ⟨v1, t2, k3, hs⟩ := bnd_some hs
    refine xi_callV (as := [.int 32, .int 32]) (rest := []) dX12_next_5 (KX12_isAt G Gb (32 : Int32) (32 : Int32) _ _ _ k3) mkX12_isAt w_1140 ws_41 w_1138 (mem_get sh_149) rfl rfl rfl rfl (Nat.le_of_ble_eq_true rfl) (Nat.le_of_ble_eq_true rfl) (Nat.le_of_ble_eq_true rfl) (Nat.le_of_ble_eq_true rfl) (Nat.le_of_ble_eq_true rfl) ?_
    intro v M2 hz
    obtain ⟨rfl, rfl⟩ := hz
    show xW _ _ _ _ 8 _ [.int v1] (mem t2 Gb) _ _
    refine xi_if_ne (tgt := 22) dX12_next_8 (by decide) (fun c4 => ?_) (fun c4 => ?_)
    · replace hs := ite_n c4 hs
      refine xi_aload_n 0 dX12_next_22 rfl ?_
      refine xi_dup dX12_next_23 rfl ?_
      obtain ⟨v5, h6, hs⟩ := rdb_some hs
      refine yi_getV (f := 8) dX12_next_24 sh_149 rfl ok_9 (by decide) w_1016 rfl h6 ?_
      refine xi_iconst (v := 1) dX12_next_27 (by decide) ?_
      refine xi_iadd (v := v5 + (1 : Int32)) dX12_next_28 rfl ?_
      obtain ⟨t7, h8, hs⟩ := wrb_some hs
      refine yi_putV (f := 8) (ty := .int) dX12_next_29 sh_149 rfl ok_9 (by decide) w_1016 rfl rfl pf_I rfl rfl h8 ?_
      refine xi_goto (tgt := 0) dX12_next_32 (by decide) ?_
      obtain ⟨rfl, rfl⟩ := some_pair hs
      exact ih () t7 _ _ h HE
    · replace hs := ite_p c4 hs
      refine xi_aload_n 0 dX12_next_11 rfl ?_
      refine xi_bipush (v := 10) dX12_next_12 (by decide) ?_
      refine xi_bipush (v := 10) dX12_next_14 (by decide) ?_
      obtain ⟨v9, t10, k11, hs⟩ := bnd_some hs
      refine xi_callV (as := [.int 10, .int 10]) (rest := []) dX12_next_16 (KX12_isAt G Gb (10 : Int32) (10 : Int32) _ _ _ k11) mkX12_isAt w_1140 ws_41 w_1138 (mem_get sh_149) rfl rfl rfl rfl (Nat.le_of_ble_eq_true rfl) (Nat.le_of_ble_eq_true rfl) (Nat.le_of_ble_eq_true rfl) (Nat.le_of_ble_eq_true rfl) (Nat.le_of_ble_eq_true rfl) ?_
      intro v M2 hz
      obtain ⟨rfl, rfl⟩ := hz
      show xW _ _ _ _ 19 _ [.int v9] (mem t10 Gb) _ _
      refine xi_if_eq (tgt := 35) dX12_next_19 (by decide) (fun c12 => ?_) (fun c12 => ?_)
      · replace hs := ite_p c12 hs
        obtain ⟨rfl, rfl⟩ := some_pair hs
        obtain ⟨rfl, rfl⟩ := some_pair h
        exact HE
      · replace hs := ite_n c12 hs
        refine xi_aload_n 0 dX12_next_22 rfl ?_
        refine xi_dup dX12_next_23 rfl ?_
        obtain ⟨v13, h14, hs⟩ := rdb_some hs
        refine yi_getV (f := 8) dX12_next_24 sh_149 rfl ok_9 (by decide) w_1016 rfl h14 ?_
        refine xi_iconst (v := 1) dX12_next_27 (by decide) ?_
        refine xi_iadd (v := v13 + (1 : Int32)) dX12_next_28 rfl ?_
        obtain ⟨t15, h16, hs⟩ := wrb_some hs
        refine yi_putV (f := 8) (ty := .int) dX12_next_29 sh_149 rfl ok_9 (by decide) w_1016 rfl rfl pf_I rfl rfl h16 ?_
        refine xi_goto (tgt := 0) dX12_next_32 (by decide) ?_
        obtain ⟨rfl, rfl⟩ := some_pair hs
        exact ih () t15 _ _ h HE
set_option maxHeartbeats 4000000 in
set_option maxRecDepth 100000 in
theorem SX12_next_123_w (G : xG) (Gb : xMem) (r0 : Unit) (t0 : St) :
    ∀ (k : Nat) (c : Unit) (σ : St) (r : Unit) (σ' : St), itr (SX12_next_123) k c σ = some (r, σ') → (xW G mX12_next (xrm 2 0 0) (xQ G (PV r0 t0 Gb) 0 0) 192 [] [] (mem σ' Gb) 0 0) → xW G mX12_next (xrm 2 0 0) (xQ G (PV r0 t0 Gb) 0 0) 123 [(0, .ref 149)] [] (mem σ Gb) 0 0 := by
  intro k
  induction k with
  | zero =>
    intro c σ r σ' h
    exact absurd h (itr_zero _ _ _ _)
  | succ k ih =>
    intro c σ r σ' h HE
    obtain ⟨x, s1, hs, h⟩ := itr_succ h
    unfold SX12_next_123 at hs
    refine xi_aload_n 0 dX12_next_123 rfl ?_
    refine xi_bipush (v := 48) dX12_next_124 (by decide) ?_
    refine xi_bipush (v := 57) dX12_next_126 (by decide) ?_
    obtain ⟨v49, t50, k51, hs⟩ := bnd_some hs
    refine xi_callV (as := [.int 48, .int 57]) (rest := []) dX12_next_128 (KX12_isAt G Gb (48 : Int32) (57 : Int32) _ _ _ k51) mkX12_isAt w_1140 ws_41 w_1138 (mem_get sh_149) rfl rfl rfl rfl (Nat.le_of_ble_eq_true rfl) (Nat.le_of_ble_eq_true rfl) (Nat.le_of_ble_eq_true rfl) (Nat.le_of_ble_eq_true rfl) (Nat.le_of_ble_eq_true rfl) ?_
    intro v M2 hz
    obtain ⟨rfl, rfl⟩ := hz
    show xW _ _ _ _ 131 _ [.int v49] (mem t50 Gb) _ _
    refine xi_if_eq (tgt := 192) dX12_next_131 (by decide) (fun c52 => ?_) (fun c52 => ?_)
    · replace hs := ite_p c52 hs
      refine xi_sub (lv' := []) [] rfl ?_
      obtain ⟨rfl, rfl⟩ := some_pair hs
      obtain ⟨rfl, rfl⟩ := some_pair h
      exact HE
    · replace hs := ite_n c52 hs
      refine xi_aload_n 0 dX12_next_134 rfl ?_
      refine xi_sipush (v := 1000) dX12_next_135 (by decide) ?_
      refine xi_bipush (v := 10) dX12_next_138 (by decide) ?_
      refine xi_aload_n 0 dX12_next_140 rfl ?_
      obtain ⟨v53, h54, hs⟩ := rdb_some hs
      refine yi_getV (f := 11) dX12_next_141 sh_149 rfl ok_9 (by decide) w_1019 rfl h54 ?_
      refine xi_imul (v := (10 : Int32) * v53) dX12_next_144 rfl ?_
      refine xi_aload_n 0 dX12_next_145 rfl ?_
      refine yi_getR (f := 4) dX12_next_146 sh_149 rfl ok_9 (by decide) w_1012 rfl ?_
      refine xi_aload_n 0 dX12_next_149 rfl ?_
      obtain ⟨v55, h56, hs⟩ := rdb_some hs
      refine yi_getV (f := 8) dX12_next_150 sh_149 rfl ok_9 (by decide) w_1016 rfl h56 ?_
      obtain ⟨g57, hs⟩ := chk_some hs
      obtain ⟨v58, h59, hs⟩ := rdb_some hs
      refine yi_ialoadV dX12_next_153 sh_153 g57 h59 ?_
      refine xi_iadd (v := ((10 : Int32) * v53) + v58) dX12_next_154 rfl ?_
      refine xi_bipush (v := 48) dX12_next_155 (by decide) ?_
      refine xi_isub (v := (((10 : Int32) * v53) + v58) - (48 : Int32)) dX12_next_157 rfl ?_
      refine xi_min (v := (mnI (1000 : Int32) ((((10 : Int32) * v53) + v58) - (48 : Int32)))) dX12_next_158 w_1142 w_385 w_3 w_mmin (Nat.le_of_ble_eq_true rfl) (Nat.le_of_ble_eq_true rfl) (Nat.le_of_ble_eq_true rfl) (Nat.le_of_ble_eq_true rfl) (Nat.le_of_ble_eq_true rfl) rfl ?_
      obtain ⟨t60, h61, hs⟩ := wrb_some hs
      refine yi_putV (f := 11) (ty := .int) dX12_next_161 sh_149 rfl ok_9 (by decide) w_1019 rfl rfl pf_I rfl rfl h61 ?_
      refine xi_aload_n 0 dX12_next_164 rfl ?_
      refine xi_dup dX12_next_165 rfl ?_
      obtain ⟨v62, h63, hs⟩ := rdb_some hs
      refine yi_getV (f := 8) dX12_next_166 sh_149 rfl ok_9 (by decide) w_1016 rfl h63 ?_
      refine xi_iconst (v := 1) dX12_next_169 (by decide) ?_
      refine xi_iadd (v := v62 + (1 : Int32)) dX12_next_170 rfl ?_
      obtain ⟨t64, h65, hs⟩ := wrb_some hs
      refine yi_putV (f := 8) (ty := .int) dX12_next_171 sh_149 rfl ok_9 (by decide) w_1016 rfl rfl pf_I rfl rfl h65 ?_
      refine xi_goto (tgt := 123) dX12_next_174 (by decide) ?_
      obtain ⟨rfl, rfl⟩ := some_pair hs
      exact ih () t64 _ _ h HE
set_option maxHeartbeats 4000000 in
set_option maxRecDepth 100000 in
theorem SX12_next_83_w (G : xG) (Gb : xMem) (r0 : Unit) (t0 : St) :
    ∀ (k : Nat) (c : Unit) (σ : St) (r : Unit) (σ' : St), itr (SX12_next_83) k c σ = some (r, σ') → (xW G mX12_next (xrm 2 0 0) (xQ G (PV r0 t0 Gb) 0 0) 192 [] [] (mem σ' Gb) 0 0) → xW G mX12_next (xrm 2 0 0) (xQ G (PV r0 t0 Gb) 0 0) 83 [(0, .ref 149)] [] (mem σ Gb) 0 0 := by
  intro k
  induction k with
  | zero =>
    intro c σ r σ' h
    exact absurd h (itr_zero _ _ _ _)
  | succ k ih =>
    intro c σ r σ' h HE
    obtain ⟨x, s1, hs, h⟩ := itr_succ h
    unfold SX12_next_83 at hs
    refine xi_aload_n 0 dX12_next_83 rfl ?_
    refine xi_bipush (v := 97) dX12_next_84 (by decide) ?_
    refine xi_bipush (v := 122) dX12_next_86 (by decide) ?_
    obtain ⟨v73, t74, k75, hs⟩ := bnd_some hs
    refine xi_callV (as := [.int 97, .int 122]) (rest := []) dX12_next_88 (KX12_isAt G Gb (97 : Int32) (122 : Int32) _ _ _ k75) mkX12_isAt w_1140 ws_41 w_1138 (mem_get sh_149) rfl rfl rfl rfl (Nat.le_of_ble_eq_true rfl) (Nat.le_of_ble_eq_true rfl) (Nat.le_of_ble_eq_true rfl) (Nat.le_of_ble_eq_true rfl) (Nat.le_of_ble_eq_true rfl) ?_
    intro v M2 hz
    obtain ⟨rfl, rfl⟩ := hz
    show xW _ _ _ _ 91 _ [.int v73] (mem t74 Gb) _ _
    refine xi_if_eq (tgt := 192) dX12_next_91 (by decide) (fun c76 => ?_) (fun c76 => ?_)
    · replace hs := ite_p c76 hs
      refine xi_sub (lv' := []) [] rfl ?_
      obtain ⟨rfl, rfl⟩ := some_pair hs
      obtain ⟨rfl, rfl⟩ := some_pair h
      exact HE
    · replace hs := ite_n c76 hs
      refine xi_aload_n 0 dX12_next_94 rfl ?_
      refine xi_dup dX12_next_95 rfl ?_
      obtain ⟨v77, h78, hs⟩ := rdb_some hs
      refine yi_getV (f := 8) dX12_next_96 sh_149 rfl ok_9 (by decide) w_1016 rfl h78 ?_
      refine xi_iconst (v := 1) dX12_next_99 (by decide) ?_
      refine xi_iadd (v := v77 + (1 : Int32)) dX12_next_100 rfl ?_
      obtain ⟨t79, h80, hs⟩ := wrb_some hs
      refine yi_putV (f := 8) (ty := .int) dX12_next_101 sh_149 rfl ok_9 (by decide) w_1016 rfl rfl pf_I rfl rfl h80 ?_
      refine xi_goto (tgt := 83) dX12_next_104 (by decide) ?_
      obtain ⟨rfl, rfl⟩ := some_pair hs
      exact ih () t79 _ _ h HE
noncomputable def FX12_next (σ : St) : Option ((Unit) × St) :=
  (bnd (wh (SX12_next_0) () σ) (fun e17 t18 => (rdb t18 149 (8) (fun v21 => (wrb t18 149 (9) v21 (fun t23 => (wrb t23 149 (11) (0 : Int32) (fun t25 => (rdb t25 149 (8) (fun v27 => (rdb t25 149 (5) (fun v29 => (if v27 = v29 then (wrb t25 149 (10) (0 : Int32) (fun t86 => (some ((), t86)))) else (bnd (FX12_isAt (97 : Int32) (122 : Int32) t25) (fun v32 t33 => (if v32 = (0 : Int32) then (bnd (FX12_isAt (48 : Int32) (57 : Int32) t33) (fun v36 t37 => (if v36 = (0 : Int32) then (wrb t37 149 (10) (3 : Int32) (fun t40 => (rdb t40 149 (8) (fun v42 => (wrb t40 149 (8) (v42 + (1 : Int32)) (fun t44 => (some ((), t44)))))))) else (wrb t37 149 (10) (2 : Int32) (fun t47 => (bnd (wh (SX12_next_123) () t47) (fun e66 t67 => (some ((), t67))))))))) else (wrb t33 149 (10) (1 : Int32) (fun t71 => (bnd (wh (SX12_next_83) () t71) (fun e81 t82 => (some ((), t82))))))))))))))))))))))
set_option maxHeartbeats 4000000 in
set_option maxRecDepth 100000 in
theorem KX12_next (G : xG) (Gb : xMem) (σ : St) (r0 : Unit) (t0 : St) (hq : FX12_next σ = some (r0, t0)) : xC G mX12_next 2 0 0 [.ref 149] (mem σ Gb) (PV r0 t0 Gb) := by
  unfold FX12_next at hq
  refine xC.of (by decide) (Nat.le_of_ble_eq_true rfl) ?_
  show xW _ _ _ _ 0 [(0, .ref 149)] [] _ 0 0
  obtain ⟨e17, t18, k19, hq⟩ := bnd_some hq
  obtain ⟨n20, k19⟩ := wh_itr k19
  refine SX12_next_0_w G Gb r0 t0 n20 () σ _ _ k19 ?_
  show xW G mX12_next (xrm 2 0 0) (xQ G (PV r0 t0 Gb) 0 0) 35 [(0, .ref 149)] [] (mem t18 Gb) 0 0
  refine xi_aload_n 0 dX12_next_35 rfl ?_
  refine xi_aload_n 0 dX12_next_36 rfl ?_
  obtain ⟨v21, h22, hq⟩ := rdb_some hq
  refine yi_getV (f := 8) dX12_next_37 sh_149 rfl ok_9 (by decide) w_1016 rfl h22 ?_
  obtain ⟨t23, h24, hq⟩ := wrb_some hq
  refine yi_putV (f := 9) (ty := .int) dX12_next_40 sh_149 rfl ok_9 (by decide) w_1017 rfl rfl pf_I rfl rfl h24 ?_
  refine xi_aload_n 0 dX12_next_43 rfl ?_
  refine xi_iconst (v := 0) dX12_next_44 (by decide) ?_
  obtain ⟨t25, h26, hq⟩ := wrb_some hq
  refine yi_putV (f := 11) (ty := .int) dX12_next_45 sh_149 rfl ok_9 (by decide) w_1019 rfl rfl pf_I rfl rfl h26 ?_
  refine xi_aload_n 0 dX12_next_48 rfl ?_
  obtain ⟨v27, h28, hq⟩ := rdb_some hq
  refine yi_getV (f := 8) dX12_next_49 sh_149 rfl ok_9 (by decide) w_1016 rfl h28 ?_
  refine xi_aload_n 0 dX12_next_52 rfl ?_
  obtain ⟨v29, h30, hq⟩ := rdb_some hq
  refine yi_getV (f := 5) dX12_next_53 sh_149 rfl ok_9 (by decide) w_1013 rfl h30 ?_
  refine xi_icmp_ne (tgt := 67) dX12_next_56 (by decide) (fun c31 => ?_) (fun c31 => ?_)
  · replace hq := ite_n c31 hq
    refine xi_aload_n 0 dX12_next_67 rfl ?_
    refine xi_bipush (v := 97) dX12_next_68 (by decide) ?_
    refine xi_bipush (v := 122) dX12_next_70 (by decide) ?_
    obtain ⟨v32, t33, k34, hq⟩ := bnd_some hq
    refine xi_callV (as := [.int 97, .int 122]) (rest := []) dX12_next_72 (KX12_isAt G Gb (97 : Int32) (122 : Int32) _ _ _ k34) mkX12_isAt w_1140 ws_41 w_1138 (mem_get sh_149) rfl rfl rfl rfl (Nat.le_of_ble_eq_true rfl) (Nat.le_of_ble_eq_true rfl) (Nat.le_of_ble_eq_true rfl) (Nat.le_of_ble_eq_true rfl) (Nat.le_of_ble_eq_true rfl) ?_
    intro v M2 hz
    obtain ⟨rfl, rfl⟩ := hz
    show xW _ _ _ _ 75 _ [.int v32] (mem t33 Gb) _ _
    refine xi_if_eq (tgt := 107) dX12_next_75 (by decide) (fun c35 => ?_) (fun c35 => ?_)
    · replace hq := ite_p c35 hq
      refine xi_aload_n 0 dX12_next_107 rfl ?_
      refine xi_bipush (v := 48) dX12_next_108 (by decide) ?_
      refine xi_bipush (v := 57) dX12_next_110 (by decide) ?_
      obtain ⟨v36, t37, k38, hq⟩ := bnd_some hq
      refine xi_callV (as := [.int 48, .int 57]) (rest := []) dX12_next_112 (KX12_isAt G Gb (48 : Int32) (57 : Int32) _ _ _ k38) mkX12_isAt w_1140 ws_41 w_1138 (mem_get sh_149) rfl rfl rfl rfl (Nat.le_of_ble_eq_true rfl) (Nat.le_of_ble_eq_true rfl) (Nat.le_of_ble_eq_true rfl) (Nat.le_of_ble_eq_true rfl) (Nat.le_of_ble_eq_true rfl) ?_
      intro v M2 hz
      obtain ⟨rfl, rfl⟩ := hz
      show xW _ _ _ _ 115 _ [.int v36] (mem t37 Gb) _ _
      refine xi_if_eq (tgt := 177) dX12_next_115 (by decide) (fun c39 => ?_) (fun c39 => ?_)
      · replace hq := ite_p c39 hq
        refine xi_aload_n 0 dX12_next_177 rfl ?_
        refine xi_iconst (v := 3) dX12_next_178 (by decide) ?_
        obtain ⟨t40, h41, hq⟩ := wrb_some hq
        refine yi_putV (f := 10) (ty := .int) dX12_next_179 sh_149 rfl ok_9 (by decide) w_1018 rfl rfl pf_I rfl rfl h41 ?_
        refine xi_aload_n 0 dX12_next_182 rfl ?_
        refine xi_dup dX12_next_183 rfl ?_
        obtain ⟨v42, h43, hq⟩ := rdb_some hq
        refine yi_getV (f := 8) dX12_next_184 sh_149 rfl ok_9 (by decide) w_1016 rfl h43 ?_
        refine xi_iconst (v := 1) dX12_next_187 (by decide) ?_
        refine xi_iadd (v := v42 + (1 : Int32)) dX12_next_188 rfl ?_
        obtain ⟨t44, h45, hq⟩ := wrb_some hq
        refine yi_putV (f := 8) (ty := .int) dX12_next_189 sh_149 rfl ok_9 (by decide) w_1016 rfl rfl pf_I rfl rfl h45 ?_
        have r46 := some_pair hq
        obtain ⟨rfl, rfl⟩ := r46
        exact xi_vret dX12_next_192 rfl (Nat.le_of_ble_eq_true rfl) (Nat.le_of_ble_eq_true rfl) ⟨rfl, rfl⟩
      · replace hq := ite_n c39 hq
        refine xi_aload_n 0 dX12_next_118 rfl ?_
        refine xi_iconst (v := 2) dX12_next_119 (by decide) ?_
        obtain ⟨t47, h48, hq⟩ := wrb_some hq
        refine yi_putV (f := 10) (ty := .int) dX12_next_120 sh_149 rfl ok_9 (by decide) w_1018 rfl rfl pf_I rfl rfl h48 ?_
        obtain ⟨e66, t67, k68, hq⟩ := bnd_some hq
        obtain ⟨n69, k68⟩ := wh_itr k68
        refine SX12_next_123_w G Gb r0 t0 n69 () t47 _ _ k68 ?_
        show xW G mX12_next (xrm 2 0 0) (xQ G (PV r0 t0 Gb) 0 0) 192 [] [] (mem t67 Gb) 0 0
        have r70 := some_pair hq
        obtain ⟨rfl, rfl⟩ := r70
        exact xi_vret dX12_next_192 rfl (Nat.le_of_ble_eq_true rfl) (Nat.le_of_ble_eq_true rfl) ⟨rfl, rfl⟩
    · replace hq := ite_n c35 hq
      refine xi_aload_n 0 dX12_next_78 rfl ?_
      refine xi_iconst (v := 1) dX12_next_79 (by decide) ?_
      obtain ⟨t71, h72, hq⟩ := wrb_some hq
      refine yi_putV (f := 10) (ty := .int) dX12_next_80 sh_149 rfl ok_9 (by decide) w_1018 rfl rfl pf_I rfl rfl h72 ?_
      obtain ⟨e81, t82, k83, hq⟩ := bnd_some hq
      obtain ⟨n84, k83⟩ := wh_itr k83
      refine SX12_next_83_w G Gb r0 t0 n84 () t71 _ _ k83 ?_
      show xW G mX12_next (xrm 2 0 0) (xQ G (PV r0 t0 Gb) 0 0) 192 [] [] (mem t82 Gb) 0 0
      have r85 := some_pair hq
      obtain ⟨rfl, rfl⟩ := r85
      exact xi_vret dX12_next_192 rfl (Nat.le_of_ble_eq_true rfl) (Nat.le_of_ble_eq_true rfl) ⟨rfl, rfl⟩
  · replace hq := ite_p c31 hq
    refine xi_aload_n 0 dX12_next_59 rfl ?_
    refine xi_iconst (v := 0) dX12_next_60 (by decide) ?_
    obtain ⟨t86, h87, hq⟩ := wrb_some hq
    refine yi_putV (f := 10) (ty := .int) dX12_next_61 sh_149 rfl ok_9 (by decide) w_1018 rfl rfl pf_I rfl rfl h87 ?_
    refine xi_goto (tgt := 192) dX12_next_64 (by decide) ?_
    have r88 := some_pair hq
    obtain ⟨rfl, rfl⟩ := r88
    exact xi_vret dX12_next_192 rfl (Nat.le_of_ble_eq_true rfl) (Nat.le_of_ble_eq_true rfl) ⟨rfl, rfl⟩
noncomputable def FX12_passes (σ : St) : Option ((Unit) × St) :=
  (rdb σ 149 (12) (fun v1 => (if v1 = (0 : Int32) then (bnd (FX12_next  σ) (fun v5 t6 => (some ((), t6)))) else (some ((), σ)))))
set_option maxHeartbeats 4000000 in
set_option maxRecDepth 100000 in
theorem KX12_passes (G : xG) (Gb : xMem) (σ : St) (r0 : Unit) (t0 : St) (hq : FX12_passes σ = some (r0, t0)) : xC G mX12_passes 3 0 0 [.ref 149] (mem σ Gb) (PV r0 t0 Gb) := by
  unfold FX12_passes at hq
  refine xC.of (by decide) (Nat.le_of_ble_eq_true rfl) ?_
  show xW _ _ _ _ 0 [(0, .ref 149)] [] _ 0 0
  refine xi_aload_n 0 dX12_passes_0 rfl ?_
  obtain ⟨v1, h2, hq⟩ := rdb_some hq
  refine yi_getV (f := 12) dX12_passes_1 sh_149 rfl ok_9 (by decide) w_1020 rfl h2 ?_
  refine xi_if_ne (tgt := 11) dX12_passes_4 (by decide) (fun c3 => ?_) (fun c3 => ?_)
  · replace hq := ite_n c3 hq
    have r4 := some_pair hq
    obtain ⟨rfl, rfl⟩ := r4
    exact xi_vret dX12_passes_11 rfl (Nat.le_of_ble_eq_true rfl) (Nat.le_of_ble_eq_true rfl) ⟨rfl, rfl⟩
  · replace hq := ite_p c3 hq
    refine xi_aload_n 0 dX12_passes_7 rfl ?_
    obtain ⟨v5, t6, k7, hq⟩ := bnd_some hq
    refine xi_callV (as := []) (rest := []) dX12_passes_8 (KX12_next G Gb  _ _ _ k7) mkX12_next w_1136 ws_40 w_1134 (mem_get sh_149) rfl rfl rfl rfl (Nat.le_of_ble_eq_true rfl) (Nat.le_of_ble_eq_true rfl) (Nat.le_of_ble_eq_true rfl) (Nat.le_of_ble_eq_true rfl) (Nat.le_of_ble_eq_true rfl) ?_
    intro v M2 hz
    obtain ⟨rfl, rfl⟩ := hz
    show xW _ _ _ _ 11 _ [] (mem t6 Gb) _ _
    have r8 := some_pair hq
    obtain ⟨rfl, rfl⟩ := r8
    exact xi_vret dX12_passes_11 rfl (Nat.le_of_ble_eq_true rfl) (Nat.le_of_ble_eq_true rfl) ⟨rfl, rfl⟩
noncomputable def FX12_must (a : Int32) (σ : St) : Option ((Unit) × St) :=
  (bnd (if a = (0 : Int32) then (bnd (FX12_faults (1 : Int32) σ) (fun v10 t11 => (some ((), t11)))) else (some ((), σ))) (fun v2 t3 => (bnd (FX12_passes  t3) (fun v6 t7 => (some ((), t7))))))
set_option maxHeartbeats 4000000 in
set_option maxRecDepth 100000 in
theorem KX12_must (G : xG) (Gb : xMem) (a : Int32) (σ : St) (r0 : Unit) (t0 : St) (hq : FX12_must a σ = some (r0, t0)) : xC G mX12_must 4 0 0 [.ref 149, .int a] (mem σ Gb) (PV r0 t0 Gb) := by
  unfold FX12_must at hq
  refine xC.of (by decide) (Nat.le_of_ble_eq_true rfl) ?_
  show xW _ _ _ _ 0 [(0, .ref 149), (1, .int a)] [] _ 0 0
  refine xi_iload_n 1 dX12_must_0 rfl ?_
  obtain ⟨v2, t3, m4, hq⟩ := bnd_some hq
  have key5 : xW G mX12_must (xrm 4 0 0) (xQ G (PV r0 t0 Gb) 0 0) 9 [(0, .ref 149)] [] (mem t3 Gb) 0 0 := by
    refine xi_aload_n 0 dX12_must_9 rfl ?_
    obtain ⟨v6, t7, k8, hq⟩ := bnd_some hq
    refine xi_callV (as := []) (rest := []) dX12_must_10 (KX12_passes G Gb  _ _ _ k8) mkX12_passes w_1164 ws_46 w_1162 (mem_get sh_149) rfl rfl rfl rfl (Nat.le_of_ble_eq_true rfl) (Nat.le_of_ble_eq_true rfl) (Nat.le_of_ble_eq_true rfl) (Nat.le_of_ble_eq_true rfl) (Nat.le_of_ble_eq_true rfl) ?_
    intro v M2 hz
    obtain ⟨rfl, rfl⟩ := hz
    show xW _ _ _ _ 13 _ [] (mem t7 Gb) _ _
    have r9 := some_pair hq
    obtain ⟨rfl, rfl⟩ := r9
    exact xi_vret dX12_must_13 rfl (Nat.le_of_ble_eq_true rfl) (Nat.le_of_ble_eq_true rfl) ⟨rfl, rfl⟩
  refine xi_if_ne (tgt := 9) dX12_must_1 (by decide) (fun c1 => ?_) (fun c1 => ?_)
  · replace m4 := ite_n c1 m4
    obtain ⟨rfl, rfl⟩ := some_pair m4
    refine xi_sub (lv' := [(0, .ref 149)]) [0] rfl ?_
    exact key5
  · replace m4 := ite_p c1 m4
    refine xi_aload_n 0 dX12_must_4 rfl ?_
    refine xi_iconst (v := 1) dX12_must_5 (by decide) ?_
    obtain ⟨v10, t11, k12, m4⟩ := bnd_some m4
    refine xi_callV (as := [.int 1]) (rest := []) dX12_must_6 (KX12_faults G Gb (1 : Int32) _ _ _ k12) mkX12_faults w_1160 ws_45 w_1158 (mem_get sh_149) rfl rfl rfl rfl (Nat.le_of_ble_eq_true rfl) (Nat.le_of_ble_eq_true rfl) (Nat.le_of_ble_eq_true rfl) (Nat.le_of_ble_eq_true rfl) (Nat.le_of_ble_eq_true rfl) ?_
    intro v M2 hz
    obtain ⟨rfl, rfl⟩ := hz
    show xW _ _ _ _ 9 _ [] (mem t11 Gb) _ _
    obtain ⟨rfl, rfl⟩ := some_pair m4
    refine xi_sub (lv' := [(0, .ref 149)]) [0] rfl ?_
    exact key5
noncomputable def FX12_near (a : Int32) (b : Int32) (σ : St) : Option ((Int32) × St) :=
  (bnd (FX12_isPoint a b σ) (fun v1 t2 => (if v1 = (0 : Int32) then (some ((-2 : Int32), t2)) else (bnd (FX12_nearOf a b t2) (fun v6 t7 => (some (v6, t7)))))))
set_option maxHeartbeats 4000000 in
set_option maxRecDepth 100000 in
theorem KX12_near (G : xG) (Gb : xMem) (a : Int32) (b : Int32) (σ : St) (r0 : Int32) (t0 : St) (hq : FX12_near a b σ = some (r0, t0)) : xC G mX12_near 4 0 0 [.ref 149, .int a, .int b] (mem σ Gb) (PQ r0 t0 Gb) := by
  unfold FX12_near at hq
  refine xC.of (by decide) (Nat.le_of_ble_eq_true rfl) ?_
  show xW _ _ _ _ 0 [(0, .ref 149), (1, .int a), (2, .int b)] [] _ 0 0
  refine xi_aload_n 0 dX12_near_0 rfl ?_
  refine xi_iload_n 1 dX12_near_1 rfl ?_
  refine xi_iload_n 2 dX12_near_2 rfl ?_
  obtain ⟨v1, t2, k3, hq⟩ := bnd_some hq
  refine xi_callV (as := [.int a, .int b]) (rest := []) dX12_near_3 (KX12_isPoint G Gb a b _ _ _ k3) mkX12_isPoint w_1257 ws_63 w_1255 (mem_get sh_149) rfl rfl rfl rfl (Nat.le_of_ble_eq_true rfl) (Nat.le_of_ble_eq_true rfl) (Nat.le_of_ble_eq_true rfl) (Nat.le_of_ble_eq_true rfl) (Nat.le_of_ble_eq_true rfl) ?_
  intro v M2 hz
  obtain ⟨rfl, rfl⟩ := hz
  show xW _ _ _ _ 6 _ [.int v1] (mem t2 Gb) _ _
  refine xi_if_eq (tgt := 18) dX12_near_6 (by decide) (fun c4 => ?_) (fun c4 => ?_)
  · replace hq := ite_p c4 hq
    refine xi_bipush (v := (-2)) dX12_near_18 (by decide) ?_
    have r5 := some_pair hq
    obtain ⟨rfl, rfl⟩ := r5
    exact xi_iret dX12_near_20 rfl rfl (Nat.le_of_ble_eq_true rfl) (Nat.le_of_ble_eq_true rfl) ⟨rfl, rfl⟩
  · replace hq := ite_n c4 hq
    refine xi_aload_n 0 dX12_near_9 rfl ?_
    refine xi_iload_n 1 dX12_near_10 rfl ?_
    refine xi_iload_n 2 dX12_near_11 rfl ?_
    obtain ⟨v6, t7, k8, hq⟩ := bnd_some hq
    refine xi_callV (as := [.int a, .int b]) (rest := []) dX12_near_12 (KX12_nearOf G Gb a b _ _ _ k8) mkX12_nearOf w_1188 ws_52 w_1186 (mem_get sh_149) rfl rfl rfl rfl (Nat.le_of_ble_eq_true rfl) (Nat.le_of_ble_eq_true rfl) (Nat.le_of_ble_eq_true rfl) (Nat.le_of_ble_eq_true rfl) (Nat.le_of_ble_eq_true rfl) ?_
    intro v M2 hz
    obtain ⟨rfl, rfl⟩ := hz
    show xW _ _ _ _ 15 _ [.int v6] (mem t7 Gb) _ _
    refine xi_goto (tgt := 20) dX12_near_15 (by decide) ?_
    have r9 := some_pair hq
    obtain ⟨rfl, rfl⟩ := r9
    exact xi_iret dX12_near_20 rfl rfl (Nat.le_of_ble_eq_true rfl) (Nat.le_of_ble_eq_true rfl) ⟨rfl, rfl⟩
noncomputable def FX12_octet (a : Int32) (σ : St) : Option ((Int32) × St) :=
  (rdb σ 149 (25) (fun v1 => (bnd (FX12_in a.toInt64 (0 : Int64) ((v1 - (1 : Int32)).toInt64) σ) (fun v3 t4 => (if v3 = (0 : Int32) then (some ((-1 : Int32), t4)) else (chk (inb a 400) (rdb t4 162 (a.toNatClampNeg) (fun v9 => (some (v9, t4))))))))))
set_option maxHeartbeats 4000000 in
set_option maxRecDepth 100000 in
theorem KX12_octet (G : xG) (Gb : xMem) (a : Int32) (σ : St) (r0 : Int32) (t0 : St) (hq : FX12_octet a σ = some (r0, t0)) : xC G mX12_octet 1 0 0 [.ref 149, .int a] (mem σ Gb) (PQ r0 t0 Gb) := by
  unfold FX12_octet at hq
  refine xC.of (by decide) (Nat.le_of_ble_eq_true rfl) ?_
  show xW _ _ _ _ 0 [(0, .ref 149), (1, .int a)] [] _ 0 0
  refine xi_iload_n 1 dX12_octet_0 rfl ?_
  refine xi_i2l dX12_octet_1 rfl ?_
  refine xi_lconst (v := 0) dX12_octet_2 (by decide) ?_
  refine xi_aload_n 0 dX12_octet_3 rfl ?_
  obtain ⟨v1, h2, hq⟩ := rdb_some hq
  refine yi_getV (f := 25) dX12_octet_4 sh_149 rfl ok_9 (by decide) w_1033 rfl h2 ?_
  refine xi_iconst (v := 1) dX12_octet_7 (by decide) ?_
  refine xi_isub (v := v1 - (1 : Int32)) dX12_octet_8 rfl ?_
  refine xi_i2l dX12_octet_9 rfl ?_
  obtain ⟨v3, t4, k5, hq⟩ := bnd_some hq
  refine xi_callS (as := [.long a.toInt64, .long 0, .long ((v1 - (1 : Int32)).toInt64)]) (rest := []) dX12_octet_10 (KX12_in G Gb a.toInt64 (0 : Int64) ((v1 - (1 : Int32)).toInt64) _ _ _ k5) mkX12_in w_1100 w_1099 rfl rfl (Nat.le_of_ble_eq_true rfl) (Nat.le_of_ble_eq_true rfl) (Nat.le_of_ble_eq_true rfl) (Nat.le_of_ble_eq_true rfl) (Nat.le_of_ble_eq_true rfl) ?_
  intro v M2 hz
  obtain ⟨rfl, rfl⟩ := hz
  show xW _ _ _ _ 13 _ [.int v3] (mem t4 Gb) _ _
  refine xi_if_eq (tgt := 25) dX12_octet_13 (by decide) (fun c6 => ?_) (fun c6 => ?_)
  · replace hq := ite_p c6 hq
    refine xi_iconst (v := (-1)) dX12_octet_25 (by decide) ?_
    have r7 := some_pair hq
    obtain ⟨rfl, rfl⟩ := r7
    exact xi_iret dX12_octet_26 rfl rfl (Nat.le_of_ble_eq_true rfl) (Nat.le_of_ble_eq_true rfl) ⟨rfl, rfl⟩
  · replace hq := ite_n c6 hq
    refine xi_aload_n 0 dX12_octet_16 rfl ?_
    refine yi_getR (f := 24) dX12_octet_17 sh_149 rfl ok_9 (by decide) w_1032 rfl ?_
    refine xi_iload_n 1 dX12_octet_20 rfl ?_
    obtain ⟨g8, hq⟩ := chk_some hq
    obtain ⟨v9, h10, hq⟩ := rdb_some hq
    refine yi_ialoadV dX12_octet_21 sh_162 g8 h10 ?_
    refine xi_goto (tgt := 26) dX12_octet_22 (by decide) ?_
    have r11 := some_pair hq
    obtain ⟨rfl, rfl⟩ := r11
    exact xi_iret dX12_octet_26 rfl rfl (Nat.le_of_ble_eq_true rfl) (Nat.le_of_ble_eq_true rfl) ⟨rfl, rfl⟩
noncomputable def FX12_place (a : Int32) (b : Int32) (σ : St) : Option ((Int32) × St) :=
  (bnd (FX12_isPoint a b σ) (fun v1 t2 => (if v1 = (0 : Int32) then (some ((-2 : Int32), t2)) else (bnd (FX12_placeOf a b t2) (fun v6 t7 => (some (v6, t7)))))))
set_option maxHeartbeats 4000000 in
set_option maxRecDepth 100000 in
theorem KX12_place (G : xG) (Gb : xMem) (a : Int32) (b : Int32) (σ : St) (r0 : Int32) (t0 : St) (hq : FX12_place a b σ = some (r0, t0)) : xC G mX12_place 4 0 0 [.ref 149, .int a, .int b] (mem σ Gb) (PQ r0 t0 Gb) := by
  unfold FX12_place at hq
  refine xC.of (by decide) (Nat.le_of_ble_eq_true rfl) ?_
  show xW _ _ _ _ 0 [(0, .ref 149), (1, .int a), (2, .int b)] [] _ 0 0
  refine xi_aload_n 0 dX12_place_0 rfl ?_
  refine xi_iload_n 1 dX12_place_1 rfl ?_
  refine xi_iload_n 2 dX12_place_2 rfl ?_
  obtain ⟨v1, t2, k3, hq⟩ := bnd_some hq
  refine xi_callV (as := [.int a, .int b]) (rest := []) dX12_place_3 (KX12_isPoint G Gb a b _ _ _ k3) mkX12_isPoint w_1257 ws_63 w_1255 (mem_get sh_149) rfl rfl rfl rfl (Nat.le_of_ble_eq_true rfl) (Nat.le_of_ble_eq_true rfl) (Nat.le_of_ble_eq_true rfl) (Nat.le_of_ble_eq_true rfl) (Nat.le_of_ble_eq_true rfl) ?_
  intro v M2 hz
  obtain ⟨rfl, rfl⟩ := hz
  show xW _ _ _ _ 6 _ [.int v1] (mem t2 Gb) _ _
  refine xi_if_eq (tgt := 18) dX12_place_6 (by decide) (fun c4 => ?_) (fun c4 => ?_)
  · replace hq := ite_p c4 hq
    refine xi_bipush (v := (-2)) dX12_place_18 (by decide) ?_
    have r5 := some_pair hq
    obtain ⟨rfl, rfl⟩ := r5
    exact xi_iret dX12_place_20 rfl rfl (Nat.le_of_ble_eq_true rfl) (Nat.le_of_ble_eq_true rfl) ⟨rfl, rfl⟩
  · replace hq := ite_n c4 hq
    refine xi_aload_n 0 dX12_place_9 rfl ?_
    refine xi_iload_n 1 dX12_place_10 rfl ?_
    refine xi_iload_n 2 dX12_place_11 rfl ?_
    obtain ⟨v6, t7, k8, hq⟩ := bnd_some hq
    refine xi_callV (as := [.int a, .int b]) (rest := []) dX12_place_12 (KX12_placeOf G Gb a b _ _ _ k8) mkX12_placeOf w_1281 ws_65 w_1279 (mem_get sh_149) rfl rfl rfl rfl (Nat.le_of_ble_eq_true rfl) (Nat.le_of_ble_eq_true rfl) (Nat.le_of_ble_eq_true rfl) (Nat.le_of_ble_eq_true rfl) (Nat.le_of_ble_eq_true rfl) ?_
    intro v M2 hz
    obtain ⟨rfl, rfl⟩ := hz
    show xW _ _ _ _ 15 _ [.int v6] (mem t7 Gb) _ _
    refine xi_goto (tgt := 20) dX12_place_15 (by decide) ?_
    have r9 := some_pair hq
    obtain ⟨rfl, rfl⟩ := r9
    exact xi_iret dX12_place_20 rfl rfl (Nat.le_of_ble_eq_true rfl) (Nat.le_of_ble_eq_true rfl) ⟨rfl, rfl⟩
noncomputable def SX12_polishes_52 (w1 : Int32) (w2 : Int32) (w3 : Int32) (w4 : Int32) (w9 : Int32) (c : Int32 × Int32 × Int32 × Int32) (σ : St) : Option (((Int32 × Int32 × Int32 × Int32) ⊕ (Int32 × Int32 × Int32)) × St) :=
  (bnd (FX12_points w1 σ) (fun v12 t13 => (if v12 ≤ c.2.2.2 then (some (Sum.inr (c.1, c.2.1, c.2.2.1), t13)) else (bnd (FX12_exchanges w9 c.2.2.2 t13) (fun v16 t17 => (bnd (FX12_valueOf w1 w2 t17) (fun v19 t20 => (bnd (FX12_exchanges w9 c.2.2.2 t20) (fun v22 t23 => (bnd (if c.2.2.1 ≤ v19 then (some ((c.1, c.2.1, c.2.2.1), t23)) else (some ((w9, c.2.2.2, v19), t23))) (fun v26 t27 => (some (Sum.inl (v26.1, v26.2.1, v26.2.2, (c.2.2.2 + 1)), t27)))))))))))))
noncomputable def SX12_polishes_36 (w1 : Int32) (w2 : Int32) (w3 : Int32) (w4 : Int32) (c : Int32 × Int32 × Int32 × Int32) (σ : St) : Option (((Int32 × Int32 × Int32 × Int32) ⊕ (Int32 × Int32 × Int32)) × St) :=
  (bnd (FX12_points w1 σ) (fun v8 t9 => (if v8 ≤ c.2.2.2 then (some (Sum.inr (c.1, c.2.1, c.2.2.1), t9)) else (bnd (wh (SX12_polishes_52 w1 w2 w3 w4 c.2.2.2) (c.1, c.2.1, c.2.2.1, (c.2.2.2 + (1 : Int32))) t9) (fun e30 t31 => (some (Sum.inl (e30.1, e30.2.1, e30.2.2, (c.2.2.2 + 1)), t31)))))))
noncomputable def SX12_polishes_18 (w1 : Int32) (w2 : Int32) (c : Int32 × Int32 × Int32) (σ : St) : Option (((Int32 × Int32 × Int32) ⊕ (Int32)) × St) :=
  (if c.2.2 = (0 : Int32) then (some (Sum.inr c.1, σ)) else (bnd (wh (SX12_polishes_36 w1 w2 c.1 c.2.1) ((-1 : Int32), (-1 : Int32), c.2.1, (0 : Int32)) σ) (fun e34 t35 => (bnd (if e34.1 = (-1 : Int32) then (some ((0 : Int32), t35)) else (some ((1 : Int32), t35))) (fun v39 t40 => (bnd (if v39 = (0 : Int32) then (some ((c.1, c.2.1), t40)) else (bnd (FX12_exchanges e34.1 e34.2.1 t40) (fun v48 t49 => (some (((c.1 + 1), e34.2.2), t49))))) (fun v44 t45 => (some (Sum.inl (v44.1, v44.2, v39), t45)))))))))
set_option maxHeartbeats 4000000 in
set_option maxRecDepth 100000 in
theorem SX12_polishes_52_w (G : xG) (Gb : xMem) (w1 : Int32) (w2 : Int32) (w3 : Int32) (w4 : Int32) (w9 : Int32) (r0 : Int32) (t0 : St) :
    ∀ (k : Nat) (c : Int32 × Int32 × Int32 × Int32) (σ : St) (r : Int32 × Int32 × Int32) (σ' : St), itr (SX12_polishes_52 w1 w2 w3 w4 w9) k c σ = some (r, σ') → (xW G mX12_polishes (xrm 6 0 0) (xQ G (PQ r0 t0 Gb) 0 0) 111 [(0, .ref 149), (1, .int w1), (2, .int w2), (3, .int w3), (4, .int w4), (6, .int r.1), (7, .int r.2.1), (8, .int r.2.2), (9, .int w9)] [] (mem σ' Gb) 0 0) → xW G mX12_polishes (xrm 6 0 0) (xQ G (PQ r0 t0 Gb) 0 0) 52 [(0, .ref 149), (1, .int w1), (2, .int w2), (3, .int w3), (4, .int w4), (6, .int c.1), (7, .int c.2.1), (8, .int c.2.2.1), (9, .int w9), (10, .int c.2.2.2)] [] (mem σ Gb) 0 0 := by
  intro k
  induction k with
  | zero =>
    intro c σ r σ' h
    exact absurd h (itr_zero _ _ _ _)
  | succ k ih =>
    intro c σ r σ' h HE
    obtain ⟨x, s1, hs, h⟩ := itr_succ h
    unfold SX12_polishes_52 at hs
    refine xi_iload 9 dX12_polishes_52 rfl ?_
    refine xi_aload_n 0 dX12_polishes_54 rfl ?_
    refine xi_iload_n 1 dX12_polishes_55 rfl ?_
    obtain ⟨v12, t13, k14, hs⟩ := bnd_some hs
    refine xi_callV (as := [.int w1]) (rest := [.int c.2.2.2]) dX12_polishes_56 (KX12_points G Gb w1 _ _ _ k14) mkX12_points w_1108 ws_36 w_1106 (mem_get sh_149) rfl rfl rfl rfl (Nat.le_of_ble_eq_true rfl) (Nat.le_of_ble_eq_true rfl) (Nat.le_of_ble_eq_true rfl) (Nat.le_of_ble_eq_true rfl) (Nat.le_of_ble_eq_true rfl) ?_
    intro v M2 hz
    obtain ⟨rfl, rfl⟩ := hz
    show xW _ _ _ _ 59 _ [.int v12, .int c.2.2.2] (mem t13 Gb) _ _
    refine xi_icmp_ge (tgt := 111) dX12_polishes_59 (by decide) (fun c15 => ?_) (fun c15 => ?_)
    · replace hs := ite_p c15 hs
      refine xi_sub (lv' := [(0, .ref 149), (1, .int w1), (2, .int w2), (3, .int w3), (4, .int w4), (6, .int c.1), (7, .int c.2.1), (8, .int c.2.2.1), (9, .int w9)]) [0, 1, 2, 3, 4, 5, 6, 7, 8] rfl ?_
      obtain ⟨rfl, rfl⟩ := some_pair hs
      obtain ⟨rfl, rfl⟩ := some_pair h
      exact HE
    · replace hs := ite_n c15 hs
      refine xi_aload_n 0 dX12_polishes_62 rfl ?_
      refine xi_iload 8 dX12_polishes_63 rfl ?_
      refine xi_iload 9 dX12_polishes_65 rfl ?_
      obtain ⟨v16, t17, k18, hs⟩ := bnd_some hs
      refine xi_callV (as := [.int w9, .int c.2.2.2]) (rest := []) dX12_polishes_67 (KX12_exchanges G Gb w9 c.2.2.2 _ _ _ k18) mkX12_exchanges w_1452 ws_87 w_1450 (mem_get sh_149) rfl rfl rfl rfl (Nat.le_of_ble_eq_true rfl) (Nat.le_of_ble_eq_true rfl) (Nat.le_of_ble_eq_true rfl) (Nat.le_of_ble_eq_true rfl) (Nat.le_of_ble_eq_true rfl) ?_
      intro v M2 hz
      obtain ⟨rfl, rfl⟩ := hz
      show xW _ _ _ _ 70 _ [] (mem t17 Gb) _ _
      refine xi_aload_n 0 dX12_polishes_70 rfl ?_
      refine xi_iload_n 1 dX12_polishes_71 rfl ?_
      refine xi_iload_n 2 dX12_polishes_72 rfl ?_
      obtain ⟨v19, t20, k21, hs⟩ := bnd_some hs
      refine xi_callV (as := [.int w1, .int w2]) (rest := []) dX12_polishes_73 (KX12_valueOf G Gb w1 w2 _ _ _ k21) mkX12_valueOf w_1296 ws_67 w_1294 (mem_get sh_149) rfl rfl rfl rfl (Nat.le_of_ble_eq_true rfl) (Nat.le_of_ble_eq_true rfl) (Nat.le_of_ble_eq_true rfl) (Nat.le_of_ble_eq_true rfl) (Nat.le_of_ble_eq_true rfl) ?_
      intro v M2 hz
      obtain ⟨rfl, rfl⟩ := hz
      show xW _ _ _ _ 76 _ [.int v19] (mem t20 Gb) _ _
      refine xi_istore (lv' := [(11, .int v19), (0, .ref 149), (1, .int w1), (2, .int w2), (3, .int w3), (4, .int w4), (6, .int c.1), (7, .int c.2.1), (8, .int c.2.2.1), (9, .int w9), (10, .int c.2.2.2)]) dX12_polishes_76 (by decide) rfl ?_
      refine xi_aload_n 1 dX12_polishes_78 rfl ?_
      refine xi_iload 9 dX12_polishes_79 rfl ?_
      refine xi_iload 10 dX12_polishes_81 rfl ?_
      obtain ⟨v22, t23, k24, hs⟩ := bnd_some hs
      refine xi_callV (as := [.int w9, .int c.2.2.2]) (rest := []) dX12_polishes_83 (KX12_exchanges G Gb w9 c.2.2.2 _ _ _ k24) mkX12_exchanges w_1452 ws_87 w_1450 (mem_get sh_149) rfl rfl rfl rfl (Nat.le_of_ble_eq_true rfl) (Nat.le_of_ble_eq_true rfl) (Nat.le_of_ble_eq_true rfl) (Nat.le_of_ble_eq_true rfl) (Nat.le_of_ble_eq_true rfl) ?_
      intro v M2 hz
      obtain ⟨rfl, rfl⟩ := hz
      show xW _ _ _ _ 86 _ [] (mem t23 Gb) _ _
      refine xi_iload 0 dX12_polishes_86 rfl ?_
      refine xi_iload 8 dX12_polishes_88 rfl ?_
      obtain ⟨v26, t27, m28, hs⟩ := bnd_some hs
      have key29 : xW G mX12_polishes (xrm 6 0 0) (xQ G (PQ r0 t0 Gb) 0 0) 105 [(0, .ref 149), (1, .int w1), (2, .int w2), (3, .int w3), (4, .int w4), (6, .int v26.1), (7, .int v26.2.1), (8, .int v26.2.2), (9, .int w9), (10, .int c.2.2.2)] [] (mem t27 Gb) 0 0 := by
        refine xi_iinc (v := (c.2.2.2 + 1)) (lv' := [(10, .int (c.2.2.2 + 1)), (0, .ref 149), (1, .int w1), (2, .int w2), (3, .int w3), (4, .int w4), (6, .int v26.1), (7, .int v26.2.1), (8, .int v26.2.2), (9, .int w9)]) 9 dX12_polishes_105 rfl rfl (by decide) rfl ?_
        refine xi_goto (tgt := 52) dX12_polishes_108 (by decide) ?_
        refine xi_sub (lv' := [(0, .ref 149), (1, .int w1), (2, .int w2), (3, .int w3), (4, .int w4), (6, .int v26.1), (7, .int v26.2.1), (8, .int v26.2.2), (9, .int w9), (10, .int (c.2.2.2 + 1))]) [1, 2, 3, 4, 5, 6, 7, 8, 9, 0] rfl ?_
        obtain ⟨rfl, rfl⟩ := some_pair hs
        exact ih (v26.1, v26.2.1, v26.2.2, (c.2.2.2 + 1)) t27 _ _ h HE
      refine xi_icmp_ge (tgt := 105) dX12_polishes_90 (by decide) (fun c25 => ?_) (fun c25 => ?_)
      · replace m28 := ite_p c25 m28
        obtain ⟨rfl, rfl⟩ := some_pair m28
        refine xi_sub (lv' := [(0, .ref 149), (1, .int w1), (2, .int w2), (3, .int w3), (4, .int w4), (6, .int c.1), (7, .int c.2.1), (8, .int c.2.2.1), (9, .int w9), (10, .int c.2.2.2)]) [1, 2, 3, 4, 5, 6, 7, 8, 9, 10] rfl ?_
        exact key29
      · replace m28 := ite_n c25 m28
        refine xi_iload 0 dX12_polishes_93 rfl ?_
        refine xi_istore (lv' := [(8, .int v19), (11, .int v19), (0, .ref 149), (1, .int w1), (2, .int w2), (3, .int w3), (4, .int w4), (6, .int c.1), (7, .int c.2.1), (9, .int w9), (10, .int c.2.2.2)]) dX12_polishes_95 (by decide) rfl ?_
        refine xi_iload 9 dX12_polishes_97 rfl ?_
        refine xi_istore (lv' := [(6, .int w9), (8, .int v19), (11, .int v19), (0, .ref 149), (1, .int w1), (2, .int w2), (3, .int w3), (4, .int w4), (7, .int c.2.1), (9, .int w9), (10, .int c.2.2.2)]) dX12_polishes_99 (by decide) rfl ?_
        refine xi_iload 10 dX12_polishes_101 rfl ?_
        refine xi_istore (lv' := [(7, .int c.2.2.2), (6, .int w9), (8, .int v19), (11, .int v19), (0, .ref 149), (1, .int w1), (2, .int w2), (3, .int w3), (4, .int w4), (9, .int w9), (10, .int c.2.2.2)]) dX12_polishes_103 (by decide) rfl ?_
        obtain ⟨rfl, rfl⟩ := some_pair m28
        refine xi_sub (lv' := [(0, .ref 149), (1, .int w1), (2, .int w2), (3, .int w3), (4, .int w4), (6, .int w9), (7, .int c.2.2.2), (8, .int v19), (9, .int w9), (10, .int c.2.2.2)]) [4, 5, 6, 7, 8, 1, 0, 2, 9, 10] rfl ?_
        exact key29
set_option maxHeartbeats 4000000 in
set_option maxRecDepth 100000 in
theorem SX12_polishes_36_w (G : xG) (Gb : xMem) (w1 : Int32) (w2 : Int32) (w3 : Int32) (w4 : Int32) (r0 : Int32) (t0 : St) :
    ∀ (k : Nat) (c : Int32 × Int32 × Int32 × Int32) (σ : St) (r : Int32 × Int32 × Int32) (σ' : St), itr (SX12_polishes_36 w1 w2 w3 w4) k c σ = some (r, σ') → (xW G mX12_polishes (xrm 6 0 0) (xQ G (PQ r0 t0 Gb) 0 0) 117 [(0, .ref 149), (1, .int w1), (2, .int w2), (3, .int w3), (4, .int w4), (6, .int r.1), (7, .int r.2.1), (8, .int r.2.2)] [] (mem σ' Gb) 0 0) → xW G mX12_polishes (xrm 6 0 0) (xQ G (PQ r0 t0 Gb) 0 0) 36 [(0, .ref 149), (1, .int w1), (2, .int w2), (3, .int w3), (4, .int w4), (6, .int c.1), (7, .int c.2.1), (8, .int c.2.2.1), (9, .int c.2.2.2)] [] (mem σ Gb) 0 0 := by
  intro k
  induction k with
  | zero =>
    intro c σ r σ' h
    exact absurd h (itr_zero _ _ _ _)
  | succ k ih =>
    intro c σ r σ' h HE
    obtain ⟨x, s1, hs, h⟩ := itr_succ h
    unfold SX12_polishes_36 at hs
    refine xi_iload 8 dX12_polishes_36 rfl ?_
    refine xi_aload_n 0 dX12_polishes_38 rfl ?_
    refine xi_iload_n 1 dX12_polishes_39 rfl ?_
    obtain ⟨v8, t9, k10, hs⟩ := bnd_some hs
    refine xi_callV (as := [.int w1]) (rest := [.int c.2.2.2]) dX12_polishes_40 (KX12_points G Gb w1 _ _ _ k10) mkX12_points w_1108 ws_36 w_1106 (mem_get sh_149) rfl rfl rfl rfl (Nat.le_of_ble_eq_true rfl) (Nat.le_of_ble_eq_true rfl) (Nat.le_of_ble_eq_true rfl) (Nat.le_of_ble_eq_true rfl) (Nat.le_of_ble_eq_true rfl) ?_
    intro v M2 hz
    obtain ⟨rfl, rfl⟩ := hz
    show xW _ _ _ _ 43 _ [.int v8, .int c.2.2.2] (mem t9 Gb) _ _
    refine xi_icmp_ge (tgt := 117) dX12_polishes_43 (by decide) (fun c11 => ?_) (fun c11 => ?_)
    · replace hs := ite_p c11 hs
      refine xi_sub (lv' := [(0, .ref 149), (1, .int w1), (2, .int w2), (3, .int w3), (4, .int w4), (6, .int c.1), (7, .int c.2.1), (8, .int c.2.2.1)]) [0, 1, 2, 3, 4, 5, 6, 7] rfl ?_
      obtain ⟨rfl, rfl⟩ := some_pair hs
      obtain ⟨rfl, rfl⟩ := some_pair h
      exact HE
    · replace hs := ite_n c11 hs
      refine xi_iload 8 dX12_polishes_46 rfl ?_
      refine xi_iconst (v := 1) dX12_polishes_48 (by decide) ?_
      refine xi_iadd (v := c.2.2.2 + (1 : Int32)) dX12_polishes_49 rfl ?_
      refine xi_istore (lv' := [(10, .int (c.2.2.2 + (1 : Int32))), (0, .ref 149), (1, .int w1), (2, .int w2), (3, .int w3), (4, .int w4), (6, .int c.1), (7, .int c.2.1), (8, .int c.2.2.1), (9, .int c.2.2.2)]) dX12_polishes_50 (by decide) rfl ?_
      refine xi_sub (lv' := [(0, .ref 149), (1, .int w1), (2, .int w2), (3, .int w3), (4, .int w4), (6, .int c.1), (7, .int c.2.1), (8, .int c.2.2.1), (9, .int c.2.2.2), (10, .int (c.2.2.2 + (1 : Int32)))]) [1, 2, 3, 4, 5, 6, 7, 8, 9, 0] rfl ?_
      obtain ⟨e30, t31, k32, hs⟩ := bnd_some hs
      obtain ⟨n33, k32⟩ := wh_itr k32
      refine SX12_polishes_52_w G Gb w1 w2 w3 w4 c.2.2.2 r0 t0 n33 (c.1, c.2.1, c.2.2.1, (c.2.2.2 + (1 : Int32))) t9 _ _ k32 ?_
      show xW G mX12_polishes (xrm 6 0 0) (xQ G (PQ r0 t0 Gb) 0 0) 111 [(0, .ref 149), (1, .int w1), (2, .int w2), (3, .int w3), (4, .int w4), (6, .int e30.1), (7, .int e30.2.1), (8, .int e30.2.2), (9, .int c.2.2.2)] [] (mem t31 Gb) 0 0
      refine xi_iinc (v := (c.2.2.2 + 1)) (lv' := [(9, .int (c.2.2.2 + 1)), (0, .ref 149), (1, .int w1), (2, .int w2), (3, .int w3), (4, .int w4), (6, .int e30.1), (7, .int e30.2.1), (8, .int e30.2.2)]) 8 dX12_polishes_111 rfl rfl (by decide) rfl ?_
      refine xi_goto (tgt := 36) dX12_polishes_114 (by decide) ?_
      refine xi_sub (lv' := [(0, .ref 149), (1, .int w1), (2, .int w2), (3, .int w3), (4, .int w4), (6, .int e30.1), (7, .int e30.2.1), (8, .int e30.2.2), (9, .int (c.2.2.2 + 1))]) [1, 2, 3, 4, 5, 6, 7, 8, 0] rfl ?_
      obtain ⟨rfl, rfl⟩ := some_pair hs
      exact ih (e30.1, e30.2.1, e30.2.2, (c.2.2.2 + 1)) t31 _ _ h HE
set_option maxHeartbeats 4000000 in
set_option maxRecDepth 100000 in
theorem SX12_polishes_18_w (G : xG) (Gb : xMem) (w1 : Int32) (w2 : Int32) (r0 : Int32) (t0 : St) :
    ∀ (k : Nat) (c : Int32 × Int32 × Int32) (σ : St) (r : Int32) (σ' : St), itr (SX12_polishes_18 w1 w2) k c σ = some (r, σ') → (xW G mX12_polishes (xrm 6 0 0) (xQ G (PQ r0 t0 Gb) 0 0) 153 [(3, .int r)] [] (mem σ' Gb) 0 0) → xW G mX12_polishes (xrm 6 0 0) (xQ G (PQ r0 t0 Gb) 0 0) 18 [(0, .ref 149), (1, .int w1), (2, .int w2), (3, .int c.1), (4, .int c.2.1), (5, .int c.2.2)] [] (mem σ Gb) 0 0 := by
  intro k
  induction k with
  | zero =>
    intro c σ r σ' h
    exact absurd h (itr_zero _ _ _ _)
  | succ k ih =>
    intro c σ r σ' h HE
    obtain ⟨x, s1, hs, h⟩ := itr_succ h
    unfold SX12_polishes_18 at hs
    refine xi_iload 5 dX12_polishes_18 rfl ?_
    refine xi_if_eq (tgt := 153) dX12_polishes_20 (by decide) (fun c7 => ?_) (fun c7 => ?_)
    · replace hs := ite_p c7 hs
      refine xi_sub (lv' := [(3, .int c.1)]) [3] rfl ?_
      obtain ⟨rfl, rfl⟩ := some_pair hs
      obtain ⟨rfl, rfl⟩ := some_pair h
      exact HE
    · replace hs := ite_n c7 hs
      refine xi_iconst (v := (-1)) dX12_polishes_23 (by decide) ?_
      refine xi_istore (lv' := [(6, .int (-1)), (0, .ref 149), (1, .int w1), (2, .int w2), (3, .int c.1), (4, .int c.2.1), (5, .int c.2.2)]) dX12_polishes_24 (by decide) rfl ?_
      refine xi_iconst (v := (-1)) dX12_polishes_26 (by decide) ?_
      refine xi_istore (lv' := [(7, .int (-1)), (6, .int (-1)), (0, .ref 149), (1, .int w1), (2, .int w2), (3, .int c.1), (4, .int c.2.1), (5, .int c.2.2)]) dX12_polishes_27 (by decide) rfl ?_
      refine xi_iload 6 dX12_polishes_29 rfl ?_
      refine xi_istore (lv' := [(8, .int c.2.1), (7, .int (-1)), (6, .int (-1)), (0, .ref 149), (1, .int w1), (2, .int w2), (3, .int c.1), (4, .int c.2.1), (5, .int c.2.2)]) dX12_polishes_31 (by decide) rfl ?_
      refine xi_iconst (v := 0) dX12_polishes_33 (by decide) ?_
      refine xi_istore (lv' := [(9, .int 0), (8, .int c.2.1), (7, .int (-1)), (6, .int (-1)), (0, .ref 149), (1, .int w1), (2, .int w2), (3, .int c.1), (4, .int c.2.1), (5, .int c.2.2)]) dX12_polishes_34 (by decide) rfl ?_
      refine xi_sub (lv' := [(0, .ref 149), (1, .int w1), (2, .int w2), (3, .int c.1), (4, .int c.2.1), (6, .int (-1)), (7, .int (-1)), (8, .int c.2.1), (9, .int 0)]) [4, 5, 6, 7, 8, 3, 2, 1, 0] rfl ?_
      obtain ⟨e34, t35, k36, hs⟩ := bnd_some hs
      obtain ⟨n37, k36⟩ := wh_itr k36
      refine SX12_polishes_36_w G Gb w1 w2 c.1 c.2.1 r0 t0 n37 ((-1 : Int32), (-1 : Int32), c.2.1, (0 : Int32)) σ _ _ k36 ?_
      show xW G mX12_polishes (xrm 6 0 0) (xQ G (PQ r0 t0 Gb) 0 0) 117 [(0, .ref 149), (1, .int w1), (2, .int w2), (3, .int c.1), (4, .int c.2.1), (6, .int e34.1), (7, .int e34.2.1), (8, .int e34.2.2)] [] (mem t35 Gb) 0 0
      refine xi_iload 5 dX12_polishes_117 rfl ?_
      refine xi_iconst (v := (-1)) dX12_polishes_119 (by decide) ?_
      obtain ⟨v39, t40, m41, hs⟩ := bnd_some hs
      have key42 : xW G mX12_polishes (xrm 6 0 0) (xQ G (PQ r0 t0 Gb) 0 0) 128 [(0, .ref 149), (1, .int w1), (2, .int w2), (3, .int c.1), (4, .int c.2.1), (6, .int e34.1), (7, .int e34.2.1), (8, .int e34.2.2)] [.int v39] (mem t40 Gb) 0 0 := by
        refine xi_istore (lv' := [(5, .int v39), (0, .ref 149), (1, .int w1), (2, .int w2), (3, .int c.1), (4, .int c.2.1), (6, .int e34.1), (7, .int e34.2.1), (8, .int e34.2.2)]) dX12_polishes_128 (by decide) rfl ?_
        refine xi_iload 0 dX12_polishes_130 rfl ?_
        obtain ⟨v44, t45, m46, hs⟩ := bnd_some hs
        have key47 : xW G mX12_polishes (xrm 6 0 0) (xQ G (PQ r0 t0 Gb) 0 0) 150 [(0, .ref 149), (1, .int w1), (2, .int w2), (3, .int v44.1), (4, .int v44.2), (5, .int v39)] [] (mem t45 Gb) 0 0 := by
          refine xi_goto (tgt := 18) dX12_polishes_150 (by decide) ?_
          obtain ⟨rfl, rfl⟩ := some_pair hs
          exact ih (v44.1, v44.2, v39) t45 _ _ h HE
        refine xi_if_eq (tgt := 150) dX12_polishes_132 (by decide) (fun c43 => ?_) (fun c43 => ?_)
        · replace m46 := ite_p c43 m46
          obtain ⟨rfl, rfl⟩ := some_pair m46
          refine xi_sub (lv' := [(0, .ref 149), (1, .int w1), (2, .int w2), (3, .int c.1), (4, .int c.2.1), (5, .int v39)]) [1, 2, 3, 4, 5, 0] rfl ?_
          exact key47
        · replace m46 := ite_n c43 m46
          refine xi_aload_n 1 dX12_polishes_135 rfl ?_
          refine xi_iload 6 dX12_polishes_136 rfl ?_
          refine xi_iload 7 dX12_polishes_138 rfl ?_
          obtain ⟨v48, t49, k50, m46⟩ := bnd_some m46
          refine xi_callV (as := [.int e34.1, .int e34.2.1]) (rest := []) dX12_polishes_140 (KX12_exchanges G Gb e34.1 e34.2.1 _ _ _ k50) mkX12_exchanges w_1452 ws_87 w_1450 (mem_get sh_149) rfl rfl rfl rfl (Nat.le_of_ble_eq_true rfl) (Nat.le_of_ble_eq_true rfl) (Nat.le_of_ble_eq_true rfl) (Nat.le_of_ble_eq_true rfl) (Nat.le_of_ble_eq_true rfl) ?_
          intro v M2 hz
          obtain ⟨rfl, rfl⟩ := hz
          show xW _ _ _ _ 143 _ [] (mem t49 Gb) _ _
          refine xi_iload 8 dX12_polishes_143 rfl ?_
          refine xi_istore (lv' := [(4, .int e34.2.2), (5, .int v39), (0, .ref 149), (1, .int w1), (2, .int w2), (3, .int c.1), (6, .int e34.1), (7, .int e34.2.1), (8, .int e34.2.2)]) dX12_polishes_145 (by decide) rfl ?_
          refine xi_iinc (v := (c.1 + 1)) (lv' := [(3, .int (c.1 + 1)), (4, .int e34.2.2), (5, .int v39), (0, .ref 149), (1, .int w1), (2, .int w2), (6, .int e34.1), (7, .int e34.2.1), (8, .int e34.2.2)]) 5 dX12_polishes_147 rfl rfl (by decide) rfl ?_
          obtain ⟨rfl, rfl⟩ := some_pair m46
          refine xi_sub (lv' := [(0, .ref 149), (1, .int w1), (2, .int w2), (3, .int (c.1 + 1)), (4, .int e34.2.2), (5, .int v39)]) [3, 4, 5, 0, 1, 2] rfl ?_
          exact key47
      refine xi_icmp_eq (tgt := 127) dX12_polishes_120 (by decide) (fun c38 => ?_) (fun c38 => ?_)
      · replace m41 := ite_p c38 m41
        refine xi_iconst (v := 0) dX12_polishes_127 (by decide) ?_
        obtain ⟨rfl, rfl⟩ := some_pair m41
        exact key42
      · replace m41 := ite_n c38 m41
        refine xi_iconst (v := 1) dX12_polishes_123 (by decide) ?_
        refine xi_goto (tgt := 128) dX12_polishes_124 (by decide) ?_
        obtain ⟨rfl, rfl⟩ := some_pair m41
        exact key42
noncomputable def FX12_polishes (a : Int32) (b : Int32) (σ : St) : Option ((Int32) × St) :=
  (bnd (FX12_laysRow a σ) (fun v1 t2 => (bnd (FX12_valueOf a b t2) (fun v4 t5 => (bnd (wh (SX12_polishes_18 a b) ((0 : Int32), v4, (1 : Int32)) t5) (fun e51 t52 => (some (e51, t52))))))))
set_option maxHeartbeats 4000000 in
set_option maxRecDepth 100000 in
theorem KX12_polishes (G : xG) (Gb : xMem) (a : Int32) (b : Int32) (σ : St) (r0 : Int32) (t0 : St) (hq : FX12_polishes a b σ = some (r0, t0)) : xC G mX12_polishes 6 0 0 [.ref 149, .int a, .int b] (mem σ Gb) (PQ r0 t0 Gb) := by
  unfold FX12_polishes at hq
  refine xC.of (by decide) (Nat.le_of_ble_eq_true rfl) ?_
  show xW _ _ _ _ 0 [(0, .ref 149), (1, .int a), (2, .int b)] [] _ 0 0
  refine xi_aload_n 0 dX12_polishes_0 rfl ?_
  refine xi_iload_n 1 dX12_polishes_1 rfl ?_
  obtain ⟨v1, t2, k3, hq⟩ := bnd_some hq
  refine xi_callV (as := [.int a]) (rest := []) dX12_polishes_2 (KX12_laysRow G Gb a _ _ _ k3) mkX12_laysRow w_1292 ws_66 w_1290 (mem_get sh_149) rfl rfl rfl rfl (Nat.le_of_ble_eq_true rfl) (Nat.le_of_ble_eq_true rfl) (Nat.le_of_ble_eq_true rfl) (Nat.le_of_ble_eq_true rfl) (Nat.le_of_ble_eq_true rfl) ?_
  intro v M2 hz
  obtain ⟨rfl, rfl⟩ := hz
  show xW _ _ _ _ 5 _ [] (mem t2 Gb) _ _
  refine xi_iconst (v := 0) dX12_polishes_5 (by decide) ?_
  refine xi_istore_n (lv' := [(3, .int 0), (0, .ref 149), (1, .int a), (2, .int b)]) dX12_polishes_6 (by decide) rfl ?_
  refine xi_aload_n 1 dX12_polishes_7 rfl ?_
  refine xi_iload_n 2 dX12_polishes_8 rfl ?_
  refine xi_iload_n 3 dX12_polishes_9 rfl ?_
  obtain ⟨v4, t5, k6, hq⟩ := bnd_some hq
  refine xi_callV (as := [.int a, .int b]) (rest := []) dX12_polishes_10 (KX12_valueOf G Gb a b _ _ _ k6) mkX12_valueOf w_1296 ws_67 w_1294 (mem_get sh_149) rfl rfl rfl rfl (Nat.le_of_ble_eq_true rfl) (Nat.le_of_ble_eq_true rfl) (Nat.le_of_ble_eq_true rfl) (Nat.le_of_ble_eq_true rfl) (Nat.le_of_ble_eq_true rfl) ?_
  intro v M2 hz
  obtain ⟨rfl, rfl⟩ := hz
  show xW _ _ _ _ 13 _ [.int v4] (mem t5 Gb) _ _
  refine xi_istore (lv' := [(4, .int v4), (3, .int 0), (0, .ref 149), (1, .int a), (2, .int b)]) dX12_polishes_13 (by decide) rfl ?_
  refine xi_iconst (v := 1) dX12_polishes_15 (by decide) ?_
  refine xi_istore (lv' := [(5, .int 1), (4, .int v4), (3, .int 0), (0, .ref 149), (1, .int a), (2, .int b)]) dX12_polishes_16 (by decide) rfl ?_
  refine xi_sub (lv' := [(0, .ref 149), (1, .int a), (2, .int b), (3, .int 0), (4, .int v4), (5, .int 1)]) [3, 4, 5, 2, 1, 0] rfl ?_
  obtain ⟨e51, t52, k53, hq⟩ := bnd_some hq
  obtain ⟨n54, k53⟩ := wh_itr k53
  refine SX12_polishes_18_w G Gb a b r0 t0 n54 ((0 : Int32), v4, (1 : Int32)) t5 _ _ k53 ?_
  show xW G mX12_polishes (xrm 6 0 0) (xQ G (PQ r0 t0 Gb) 0 0) 153 [(3, .int e51)] [] (mem t52 Gb) 0 0
  refine xi_iload_n 0 dX12_polishes_153 rfl ?_
  have r55 := some_pair hq
  obtain ⟨rfl, rfl⟩ := r55
  exact xi_iret dX12_polishes_154 rfl rfl (Nat.le_of_ble_eq_true rfl) (Nat.le_of_ble_eq_true rfl) ⟨rfl, rfl⟩
noncomputable def FX12_polish (a : Int32) (b : Int32) (σ : St) : Option ((Int32) × St) :=
  (bnd (FX12_isNet a σ) (fun v1 t2 => (if v1 = (0 : Int32) then (some ((-2 : Int32), t2)) else (bnd (FX12_isMeasure b t2) (fun v6 t7 => (if v6 = (0 : Int32) then (some ((-2 : Int32), t7)) else (bnd (FX12_polishes a b t7) (fun v10 t11 => (bnd (FX12_takesRow a t11) (fun v13 t14 => (some (v10, t14))))))))))))
set_option maxHeartbeats 4000000 in
set_option maxRecDepth 100000 in
theorem KX12_polish (G : xG) (Gb : xMem) (a : Int32) (b : Int32) (σ : St) (r0 : Int32) (t0 : St) (hq : FX12_polish a b σ = some (r0, t0)) : xC G mX12_polish 7 0 0 [.ref 149, .int a, .int b] (mem σ Gb) (PQ r0 t0 Gb) := by
  unfold FX12_polish at hq
  refine xC.of (by decide) (Nat.le_of_ble_eq_true rfl) ?_
  show xW _ _ _ _ 0 [(0, .ref 149), (1, .int a), (2, .int b)] [] _ 0 0
  refine xi_aload_n 0 dX12_polish_0 rfl ?_
  refine xi_iload_n 1 dX12_polish_1 rfl ?_
  obtain ⟨v1, t2, k3, hq⟩ := bnd_some hq
  refine xi_callV (as := [.int a]) (rest := []) dX12_polish_2 (KX12_isNet G Gb a _ _ _ k3) mkX12_isNet w_1104 ws_35 w_1102 (mem_get sh_149) rfl rfl rfl rfl (Nat.le_of_ble_eq_true rfl) (Nat.le_of_ble_eq_true rfl) (Nat.le_of_ble_eq_true rfl) (Nat.le_of_ble_eq_true rfl) (Nat.le_of_ble_eq_true rfl) ?_
  intro v M2 hz
  obtain ⟨rfl, rfl⟩ := hz
  show xW _ _ _ _ 5 _ [.int v1] (mem t2 Gb) _ _
  refine xi_if_eq (tgt := 15) dX12_polish_5 (by decide) (fun c4 => ?_) (fun c4 => ?_)
  · replace hq := ite_p c4 hq
    refine xi_bipush (v := (-2)) dX12_polish_15 (by decide) ?_
    have r5 := some_pair hq
    obtain ⟨rfl, rfl⟩ := r5
    exact xi_iret dX12_polish_17 rfl rfl (Nat.le_of_ble_eq_true rfl) (Nat.le_of_ble_eq_true rfl) ⟨rfl, rfl⟩
  · replace hq := ite_n c4 hq
    refine xi_iload_n 2 dX12_polish_8 rfl ?_
    obtain ⟨v6, t7, k8, hq⟩ := bnd_some hq
    refine xi_callS (as := [.int b]) (rest := []) dX12_polish_9 (KX12_isMeasure G Gb b _ _ _ k8) mkX12_isMeasure w_1288 w_1287 rfl rfl (Nat.le_of_ble_eq_true rfl) (Nat.le_of_ble_eq_true rfl) (Nat.le_of_ble_eq_true rfl) (Nat.le_of_ble_eq_true rfl) (Nat.le_of_ble_eq_true rfl) ?_
    intro v M2 hz
    obtain ⟨rfl, rfl⟩ := hz
    show xW _ _ _ _ 12 _ [.int v6] (mem t7 Gb) _ _
    refine xi_if_ne (tgt := 18) dX12_polish_12 (by decide) (fun c9 => ?_) (fun c9 => ?_)
    · replace hq := ite_n c9 hq
      refine xi_aload_n 0 dX12_polish_18 rfl ?_
      refine xi_iload_n 1 dX12_polish_19 rfl ?_
      refine xi_iload_n 2 dX12_polish_20 rfl ?_
      obtain ⟨v10, t11, k12, hq⟩ := bnd_some hq
      refine xi_callV (as := [.int a, .int b]) (rest := []) dX12_polish_21 (KX12_polishes G Gb a b _ _ _ k12) mkX12_polishes w_1480 ws_89 w_1478 (mem_get sh_149) rfl rfl rfl rfl (Nat.le_of_ble_eq_true rfl) (Nat.le_of_ble_eq_true rfl) (Nat.le_of_ble_eq_true rfl) (Nat.le_of_ble_eq_true rfl) (Nat.le_of_ble_eq_true rfl) ?_
      intro v M2 hz
      obtain ⟨rfl, rfl⟩ := hz
      show xW _ _ _ _ 24 _ [.int v10] (mem t11 Gb) _ _
      refine xi_istore_n (lv' := [(3, .int v10), (0, .ref 149), (1, .int a), (2, .int b)]) dX12_polish_24 (by decide) rfl ?_
      refine xi_aload_n 1 dX12_polish_25 rfl ?_
      refine xi_iload_n 2 dX12_polish_26 rfl ?_
      obtain ⟨v13, t14, k15, hq⟩ := bnd_some hq
      refine xi_callV (as := [.int a]) (rest := []) dX12_polish_27 (KX12_takesRow G Gb a _ _ _ k15) mkX12_takesRow w_1460 ws_88 w_1458 (mem_get sh_149) rfl rfl rfl rfl (Nat.le_of_ble_eq_true rfl) (Nat.le_of_ble_eq_true rfl) (Nat.le_of_ble_eq_true rfl) (Nat.le_of_ble_eq_true rfl) (Nat.le_of_ble_eq_true rfl) ?_
      intro v M2 hz
      obtain ⟨rfl, rfl⟩ := hz
      show xW _ _ _ _ 30 _ [.int v13] (mem t14 Gb) _ _
      refine xi_istore (lv' := [(4, .int v13), (3, .int v10), (0, .ref 149), (1, .int a), (2, .int b)]) dX12_polish_30 (by decide) rfl ?_
      refine xi_iload_n 1 dX12_polish_32 rfl ?_
      have r16 := some_pair hq
      obtain ⟨rfl, rfl⟩ := r16
      exact xi_iret dX12_polish_33 rfl rfl (Nat.le_of_ble_eq_true rfl) (Nat.le_of_ble_eq_true rfl) ⟨rfl, rfl⟩
    · replace hq := ite_p c9 hq
      refine xi_bipush (v := (-2)) dX12_polish_15 (by decide) ?_
      have r17 := some_pair hq
      obtain ⟨rfl, rfl⟩ := r17
      exact xi_iret dX12_polish_17 rfl rfl (Nat.le_of_ble_eq_true rfl) (Nat.le_of_ble_eq_true rfl) ⟨rfl, rfl⟩
noncomputable def FX12_polished (a : Int32) (b : Int32) (σ : St) : Option ((Int32) × St) :=
  (bnd (FX12_isNet a σ) (fun v1 t2 => (if v1 = (0 : Int32) then (some ((-2 : Int32), t2)) else (bnd (FX12_isMeasure b t2) (fun v6 t7 => (if v6 = (0 : Int32) then (some ((-2 : Int32), t7)) else (bnd (FX12_polishes a b t7) (fun v10 t11 => (bnd (FX12_valueOf a b t11) (fun v13 t14 => (some (v13, t14))))))))))))
set_option maxHeartbeats 4000000 in
set_option maxRecDepth 100000 in
theorem KX12_polished (G : xG) (Gb : xMem) (a : Int32) (b : Int32) (σ : St) (r0 : Int32) (t0 : St) (hq : FX12_polished a b σ = some (r0, t0)) : xC G mX12_polished 7 0 0 [.ref 149, .int a, .int b] (mem σ Gb) (PQ r0 t0 Gb) := by
  unfold FX12_polished at hq
  refine xC.of (by decide) (Nat.le_of_ble_eq_true rfl) ?_
  show xW _ _ _ _ 0 [(0, .ref 149), (1, .int a), (2, .int b)] [] _ 0 0
  refine xi_aload_n 0 dX12_polished_0 rfl ?_
  refine xi_iload_n 1 dX12_polished_1 rfl ?_
  obtain ⟨v1, t2, k3, hq⟩ := bnd_some hq
  refine xi_callV (as := [.int a]) (rest := []) dX12_polished_2 (KX12_isNet G Gb a _ _ _ k3) mkX12_isNet w_1104 ws_35 w_1102 (mem_get sh_149) rfl rfl rfl rfl (Nat.le_of_ble_eq_true rfl) (Nat.le_of_ble_eq_true rfl) (Nat.le_of_ble_eq_true rfl) (Nat.le_of_ble_eq_true rfl) (Nat.le_of_ble_eq_true rfl) ?_
  intro v M2 hz
  obtain ⟨rfl, rfl⟩ := hz
  show xW _ _ _ _ 5 _ [.int v1] (mem t2 Gb) _ _
  refine xi_if_eq (tgt := 15) dX12_polished_5 (by decide) (fun c4 => ?_) (fun c4 => ?_)
  · replace hq := ite_p c4 hq
    refine xi_bipush (v := (-2)) dX12_polished_15 (by decide) ?_
    have r5 := some_pair hq
    obtain ⟨rfl, rfl⟩ := r5
    exact xi_iret dX12_polished_17 rfl rfl (Nat.le_of_ble_eq_true rfl) (Nat.le_of_ble_eq_true rfl) ⟨rfl, rfl⟩
  · replace hq := ite_n c4 hq
    refine xi_iload_n 2 dX12_polished_8 rfl ?_
    obtain ⟨v6, t7, k8, hq⟩ := bnd_some hq
    refine xi_callS (as := [.int b]) (rest := []) dX12_polished_9 (KX12_isMeasure G Gb b _ _ _ k8) mkX12_isMeasure w_1288 w_1287 rfl rfl (Nat.le_of_ble_eq_true rfl) (Nat.le_of_ble_eq_true rfl) (Nat.le_of_ble_eq_true rfl) (Nat.le_of_ble_eq_true rfl) (Nat.le_of_ble_eq_true rfl) ?_
    intro v M2 hz
    obtain ⟨rfl, rfl⟩ := hz
    show xW _ _ _ _ 12 _ [.int v6] (mem t7 Gb) _ _
    refine xi_if_ne (tgt := 18) dX12_polished_12 (by decide) (fun c9 => ?_) (fun c9 => ?_)
    · replace hq := ite_n c9 hq
      refine xi_aload_n 0 dX12_polished_18 rfl ?_
      refine xi_iload_n 1 dX12_polished_19 rfl ?_
      refine xi_iload_n 2 dX12_polished_20 rfl ?_
      obtain ⟨v10, t11, k12, hq⟩ := bnd_some hq
      refine xi_callV (as := [.int a, .int b]) (rest := []) dX12_polished_21 (KX12_polishes G Gb a b _ _ _ k12) mkX12_polishes w_1480 ws_89 w_1478 (mem_get sh_149) rfl rfl rfl rfl (Nat.le_of_ble_eq_true rfl) (Nat.le_of_ble_eq_true rfl) (Nat.le_of_ble_eq_true rfl) (Nat.le_of_ble_eq_true rfl) (Nat.le_of_ble_eq_true rfl) ?_
      intro v M2 hz
      obtain ⟨rfl, rfl⟩ := hz
      show xW _ _ _ _ 24 _ [.int v10] (mem t11 Gb) _ _
      refine xi_istore_n (lv' := [(3, .int v10), (0, .ref 149), (1, .int a), (2, .int b)]) dX12_polished_24 (by decide) rfl ?_
      refine xi_aload_n 1 dX12_polished_25 rfl ?_
      refine xi_iload_n 2 dX12_polished_26 rfl ?_
      refine xi_iload_n 3 dX12_polished_27 rfl ?_
      obtain ⟨v13, t14, k15, hq⟩ := bnd_some hq
      refine xi_callV (as := [.int a, .int b]) (rest := []) dX12_polished_28 (KX12_valueOf G Gb a b _ _ _ k15) mkX12_valueOf w_1296 ws_67 w_1294 (mem_get sh_149) rfl rfl rfl rfl (Nat.le_of_ble_eq_true rfl) (Nat.le_of_ble_eq_true rfl) (Nat.le_of_ble_eq_true rfl) (Nat.le_of_ble_eq_true rfl) (Nat.le_of_ble_eq_true rfl) ?_
      intro v M2 hz
      obtain ⟨rfl, rfl⟩ := hz
      show xW _ _ _ _ 31 _ [.int v13] (mem t14 Gb) _ _
      have r16 := some_pair hq
      obtain ⟨rfl, rfl⟩ := r16
      exact xi_iret dX12_polished_31 rfl rfl (Nat.le_of_ble_eq_true rfl) (Nat.le_of_ble_eq_true rfl) ⟨rfl, rfl⟩
    · replace hq := ite_p c9 hq
      refine xi_bipush (v := (-2)) dX12_polished_15 (by decide) ?_
      have r17 := some_pair hq
      obtain ⟨rfl, rfl⟩ := r17
      exact xi_iret dX12_polished_17 rfl rfl (Nat.le_of_ble_eq_true rfl) (Nat.le_of_ble_eq_true rfl) ⟨rfl, rfl⟩
noncomputable def FX12_priceOf (a : Int32) (b : Int32) (c : Int32) (σ : St) : Option ((Int32) × St) :=
  (bnd (FX12_isTakenOut b σ) (fun v1 t2 => (if v1 = (0 : Int32) then (bnd (FX12_aheadOf a (c - (1 : Int32)) t2) (fun v5 t6 => (bnd (FX12_at a (c - (1 : Int32)) t6) (fun v8 t9 => (bnd (FX12_cost a b v5 v8 t9) (fun v11 t12 => (some (v11, t12)))))))) else (bnd (FX12_aheadOf a c t2) (fun v15 t16 => (bnd (FX12_at a c t16) (fun v18 t19 => (bnd (FX12_cost a b v15 v18 t19) (fun v21 t22 => (some (v21, t22)))))))))))
set_option maxHeartbeats 4000000 in
set_option maxRecDepth 100000 in
theorem KX12_priceOf (G : xG) (Gb : xMem) (a : Int32) (b : Int32) (c : Int32) (σ : St) (r0 : Int32) (t0 : St) (hq : FX12_priceOf a b c σ = some (r0, t0)) : xC G mX12_priceOf 5 0 0 [.ref 149, .int a, .int b, .int c] (mem σ Gb) (PQ r0 t0 Gb) := by
  unfold FX12_priceOf at hq
  refine xC.of (by decide) (Nat.le_of_ble_eq_true rfl) ?_
  show xW _ _ _ _ 0 [(0, .ref 149), (1, .int a), (2, .int b), (3, .int c)] [] _ 0 0
  refine xi_iload_n 2 dX12_priceOf_0 rfl ?_
  obtain ⟨v1, t2, k3, hq⟩ := bnd_some hq
  refine xi_callS (as := [.int b]) (rest := []) dX12_priceOf_1 (KX12_isTakenOut G Gb b _ _ _ k3) mkX12_isTakenOut w_1329 w_1328 rfl rfl (Nat.le_of_ble_eq_true rfl) (Nat.le_of_ble_eq_true rfl) (Nat.le_of_ble_eq_true rfl) (Nat.le_of_ble_eq_true rfl) (Nat.le_of_ble_eq_true rfl) ?_
  intro v M2 hz
  obtain ⟨rfl, rfl⟩ := hz
  show xW _ _ _ _ 4 _ [.int v1] (mem t2 Gb) _ _
  refine xi_if_eq (tgt := 28) dX12_priceOf_4 (by decide) (fun c4 => ?_) (fun c4 => ?_)
  · replace hq := ite_p c4 hq
    refine xi_aload_n 0 dX12_priceOf_28 rfl ?_
    refine xi_iload_n 1 dX12_priceOf_29 rfl ?_
    refine xi_iload_n 2 dX12_priceOf_30 rfl ?_
    refine xi_aload_n 0 dX12_priceOf_31 rfl ?_
    refine xi_iload_n 1 dX12_priceOf_32 rfl ?_
    refine xi_iload_n 3 dX12_priceOf_33 rfl ?_
    refine xi_iconst (v := 1) dX12_priceOf_34 (by decide) ?_
    refine xi_isub (v := c - (1 : Int32)) dX12_priceOf_35 rfl ?_
    obtain ⟨v5, t6, k7, hq⟩ := bnd_some hq
    refine xi_callV (as := [.int a, .int (c - (1 : Int32))]) (rest := [.int b, .int a, .ref 149]) dX12_priceOf_36 (KX12_aheadOf G Gb a (c - (1 : Int32)) _ _ _ k7) mkX12_aheadOf w_1337 ws_74 w_1335 (mem_get sh_149) rfl rfl rfl rfl (Nat.le_of_ble_eq_true rfl) (Nat.le_of_ble_eq_true rfl) (Nat.le_of_ble_eq_true rfl) (Nat.le_of_ble_eq_true rfl) (Nat.le_of_ble_eq_true rfl) ?_
    intro v M2 hz
    obtain ⟨rfl, rfl⟩ := hz
    show xW _ _ _ _ 39 _ [.int v5, .int b, .int a, .ref 149] (mem t6 Gb) _ _
    refine xi_aload_n 0 dX12_priceOf_39 rfl ?_
    refine xi_iload_n 1 dX12_priceOf_40 rfl ?_
    refine xi_iload_n 3 dX12_priceOf_41 rfl ?_
    refine xi_iconst (v := 1) dX12_priceOf_42 (by decide) ?_
    refine xi_isub (v := c - (1 : Int32)) dX12_priceOf_43 rfl ?_
    obtain ⟨v8, t9, k10, hq⟩ := bnd_some hq
    refine xi_callV (as := [.int a, .int (c - (1 : Int32))]) (rest := [.int v5, .int b, .int a, .ref 149]) dX12_priceOf_44 (KX12_at G Gb a (c - (1 : Int32)) _ _ _ k10) mkX12_at w_1273 ws_64 w_1271 (mem_get sh_149) rfl rfl rfl rfl (Nat.le_of_ble_eq_true rfl) (Nat.le_of_ble_eq_true rfl) (Nat.le_of_ble_eq_true rfl) (Nat.le_of_ble_eq_true rfl) (Nat.le_of_ble_eq_true rfl) ?_
    intro v M2 hz
    obtain ⟨rfl, rfl⟩ := hz
    show xW _ _ _ _ 47 _ [.int v8, .int v5, .int b, .int a, .ref 149] (mem t9 Gb) _ _
    obtain ⟨v11, t12, k13, hq⟩ := bnd_some hq
    refine xi_callV (as := [.int a, .int b, .int v5, .int v8]) (rest := []) dX12_priceOf_47 (KX12_cost G Gb a b v5 v8 _ _ _ k13) mkX12_cost w_1304 ws_69 w_1302 (mem_get sh_149) rfl rfl rfl rfl (Nat.le_of_ble_eq_true rfl) (Nat.le_of_ble_eq_true rfl) (Nat.le_of_ble_eq_true rfl) (Nat.le_of_ble_eq_true rfl) (Nat.le_of_ble_eq_true rfl) ?_
    intro v M2 hz
    obtain ⟨rfl, rfl⟩ := hz
    show xW _ _ _ _ 50 _ [.int v11] (mem t12 Gb) _ _
    have r14 := some_pair hq
    obtain ⟨rfl, rfl⟩ := r14
    exact xi_iret dX12_priceOf_50 rfl rfl (Nat.le_of_ble_eq_true rfl) (Nat.le_of_ble_eq_true rfl) ⟨rfl, rfl⟩
  · replace hq := ite_n c4 hq
    refine xi_aload_n 0 dX12_priceOf_7 rfl ?_
    refine xi_iload_n 1 dX12_priceOf_8 rfl ?_
    refine xi_iload_n 2 dX12_priceOf_9 rfl ?_
    refine xi_aload_n 0 dX12_priceOf_10 rfl ?_
    refine xi_iload_n 1 dX12_priceOf_11 rfl ?_
    refine xi_iload_n 3 dX12_priceOf_12 rfl ?_
    obtain ⟨v15, t16, k17, hq⟩ := bnd_some hq
    refine xi_callV (as := [.int a, .int c]) (rest := [.int b, .int a, .ref 149]) dX12_priceOf_13 (KX12_aheadOf G Gb a c _ _ _ k17) mkX12_aheadOf w_1337 ws_74 w_1335 (mem_get sh_149) rfl rfl rfl rfl (Nat.le_of_ble_eq_true rfl) (Nat.le_of_ble_eq_true rfl) (Nat.le_of_ble_eq_true rfl) (Nat.le_of_ble_eq_true rfl) (Nat.le_of_ble_eq_true rfl) ?_
    intro v M2 hz
    obtain ⟨rfl, rfl⟩ := hz
    show xW _ _ _ _ 16 _ [.int v15, .int b, .int a, .ref 149] (mem t16 Gb) _ _
    refine xi_aload_n 0 dX12_priceOf_16 rfl ?_
    refine xi_iload_n 1 dX12_priceOf_17 rfl ?_
    refine xi_iload_n 3 dX12_priceOf_18 rfl ?_
    obtain ⟨v18, t19, k20, hq⟩ := bnd_some hq
    refine xi_callV (as := [.int a, .int c]) (rest := [.int v15, .int b, .int a, .ref 149]) dX12_priceOf_19 (KX12_at G Gb a c _ _ _ k20) mkX12_at w_1273 ws_64 w_1271 (mem_get sh_149) rfl rfl rfl rfl (Nat.le_of_ble_eq_true rfl) (Nat.le_of_ble_eq_true rfl) (Nat.le_of_ble_eq_true rfl) (Nat.le_of_ble_eq_true rfl) (Nat.le_of_ble_eq_true rfl) ?_
    intro v M2 hz
    obtain ⟨rfl, rfl⟩ := hz
    show xW _ _ _ _ 22 _ [.int v18, .int v15, .int b, .int a, .ref 149] (mem t19 Gb) _ _
    obtain ⟨v21, t22, k23, hq⟩ := bnd_some hq
    refine xi_callV (as := [.int a, .int b, .int v15, .int v18]) (rest := []) dX12_priceOf_22 (KX12_cost G Gb a b v15 v18 _ _ _ k23) mkX12_cost w_1304 ws_69 w_1302 (mem_get sh_149) rfl rfl rfl rfl (Nat.le_of_ble_eq_true rfl) (Nat.le_of_ble_eq_true rfl) (Nat.le_of_ble_eq_true rfl) (Nat.le_of_ble_eq_true rfl) (Nat.le_of_ble_eq_true rfl) ?_
    intro v M2 hz
    obtain ⟨rfl, rfl⟩ := hz
    show xW _ _ _ _ 25 _ [.int v21] (mem t22 Gb) _ _
    refine xi_goto (tgt := 50) dX12_priceOf_25 (by decide) ?_
    have r24 := some_pair hq
    obtain ⟨rfl, rfl⟩ := r24
    exact xi_iret dX12_priceOf_50 rfl rfl (Nat.le_of_ble_eq_true rfl) (Nat.le_of_ble_eq_true rfl) ⟨rfl, rfl⟩
noncomputable def FX12_price (a : Int32) (b : Int32) (c : Int32) (σ : St) : Option ((Int32) × St) :=
  (bnd (FX12_isNet a σ) (fun v1 t2 => (if v1 = (0 : Int32) then (some ((-2 : Int32), t2)) else (bnd (FX12_isMeasure b t2) (fun v6 t7 => (if v6 = (0 : Int32) then (some ((-2 : Int32), t7)) else (if b = (2 : Int32) then (some ((-2 : Int32), t7)) else (bnd (FX12_isTakenOut b t7) (fun v13 t14 => (if v13 = (0 : Int32) then (bnd (FX12_points a t14) (fun v17 t18 => (bnd (FX12_in c.toInt64 (1 : Int64) ((v17 - (1 : Int32)).toInt64) t18) (fun v20 t21 => (if v20 = (0 : Int32) then (some ((-2 : Int32), t21)) else (bnd (FX12_priceOf a b c t21) (fun v24 t25 => (some (v24, t25))))))))) else (bnd (FX12_points a t14) (fun v29 t30 => (bnd (FX12_in c.toInt64 (0 : Int64) ((v29 - (1 : Int32)).toInt64) t30) (fun v32 t33 => (if v32 = (0 : Int32) then (some ((-2 : Int32), t33)) else (bnd (FX12_priceOf a b c t33) (fun v36 t37 => (some (v36, t37)))))))))))))))))))
set_option maxHeartbeats 4000000 in
set_option maxRecDepth 100000 in
theorem KX12_price (G : xG) (Gb : xMem) (a : Int32) (b : Int32) (c : Int32) (σ : St) (r0 : Int32) (t0 : St) (hq : FX12_price a b c σ = some (r0, t0)) : xC G mX12_price 6 0 0 [.ref 149, .int a, .int b, .int c] (mem σ Gb) (PQ r0 t0 Gb) := by
  unfold FX12_price at hq
  refine xC.of (by decide) (Nat.le_of_ble_eq_true rfl) ?_
  show xW _ _ _ _ 0 [(0, .ref 149), (1, .int a), (2, .int b), (3, .int c)] [] _ 0 0
  refine xi_aload_n 0 dX12_price_0 rfl ?_
  refine xi_iload_n 1 dX12_price_1 rfl ?_
  obtain ⟨v1, t2, k3, hq⟩ := bnd_some hq
  refine xi_callV (as := [.int a]) (rest := []) dX12_price_2 (KX12_isNet G Gb a _ _ _ k3) mkX12_isNet w_1104 ws_35 w_1102 (mem_get sh_149) rfl rfl rfl rfl (Nat.le_of_ble_eq_true rfl) (Nat.le_of_ble_eq_true rfl) (Nat.le_of_ble_eq_true rfl) (Nat.le_of_ble_eq_true rfl) (Nat.le_of_ble_eq_true rfl) ?_
  intro v M2 hz
  obtain ⟨rfl, rfl⟩ := hz
  show xW _ _ _ _ 5 _ [.int v1] (mem t2 Gb) _ _
  refine xi_if_eq (tgt := 48) dX12_price_5 (by decide) (fun c4 => ?_) (fun c4 => ?_)
  · replace hq := ite_p c4 hq
    refine xi_bipush (v := (-2)) dX12_price_48 (by decide) ?_
    have r5 := some_pair hq
    obtain ⟨rfl, rfl⟩ := r5
    exact xi_iret dX12_price_50 rfl rfl (Nat.le_of_ble_eq_true rfl) (Nat.le_of_ble_eq_true rfl) ⟨rfl, rfl⟩
  · replace hq := ite_n c4 hq
    refine xi_iload_n 2 dX12_price_8 rfl ?_
    obtain ⟨v6, t7, k8, hq⟩ := bnd_some hq
    refine xi_callS (as := [.int b]) (rest := []) dX12_price_9 (KX12_isMeasure G Gb b _ _ _ k8) mkX12_isMeasure w_1288 w_1287 rfl rfl (Nat.le_of_ble_eq_true rfl) (Nat.le_of_ble_eq_true rfl) (Nat.le_of_ble_eq_true rfl) (Nat.le_of_ble_eq_true rfl) (Nat.le_of_ble_eq_true rfl) ?_
    intro v M2 hz
    obtain ⟨rfl, rfl⟩ := hz
    show xW _ _ _ _ 12 _ [.int v6] (mem t7 Gb) _ _
    refine xi_if_eq (tgt := 48) dX12_price_12 (by decide) (fun c9 => ?_) (fun c9 => ?_)
    · replace hq := ite_p c9 hq
      refine xi_bipush (v := (-2)) dX12_price_48 (by decide) ?_
      have r10 := some_pair hq
      obtain ⟨rfl, rfl⟩ := r10
      exact xi_iret dX12_price_50 rfl rfl (Nat.le_of_ble_eq_true rfl) (Nat.le_of_ble_eq_true rfl) ⟨rfl, rfl⟩
    · replace hq := ite_n c9 hq
      refine xi_iload_n 2 dX12_price_15 rfl ?_
      refine xi_iconst (v := 2) dX12_price_16 (by decide) ?_
      refine xi_icmp_eq (tgt := 48) dX12_price_17 (by decide) (fun c11 => ?_) (fun c11 => ?_)
      · replace hq := ite_p c11 hq
        refine xi_bipush (v := (-2)) dX12_price_48 (by decide) ?_
        have r12 := some_pair hq
        obtain ⟨rfl, rfl⟩ := r12
        exact xi_iret dX12_price_50 rfl rfl (Nat.le_of_ble_eq_true rfl) (Nat.le_of_ble_eq_true rfl) ⟨rfl, rfl⟩
      · replace hq := ite_n c11 hq
        refine xi_iload_n 3 dX12_price_20 rfl ?_
        refine xi_i2l dX12_price_21 rfl ?_
        refine xi_iload_n 2 dX12_price_22 rfl ?_
        obtain ⟨v13, t14, k15, hq⟩ := bnd_some hq
        refine xi_callS (as := [.int b]) (rest := [.long c.toInt64]) dX12_price_23 (KX12_isTakenOut G Gb b _ _ _ k15) mkX12_isTakenOut w_1329 w_1328 rfl rfl (Nat.le_of_ble_eq_true rfl) (Nat.le_of_ble_eq_true rfl) (Nat.le_of_ble_eq_true rfl) (Nat.le_of_ble_eq_true rfl) (Nat.le_of_ble_eq_true rfl) ?_
        intro v M2 hz
        obtain ⟨rfl, rfl⟩ := hz
        show xW _ _ _ _ 26 _ [.int v13, .long c.toInt64] (mem t14 Gb) _ _
        refine xi_if_eq (tgt := 33) dX12_price_26 (by decide) (fun c16 => ?_) (fun c16 => ?_)
        · replace hq := ite_p c16 hq
          refine xi_lconst (v := 1) dX12_price_33 (by decide) ?_
          refine xi_aload_n 0 dX12_price_34 rfl ?_
          refine xi_iload_n 1 dX12_price_35 rfl ?_
          obtain ⟨v17, t18, k19, hq⟩ := bnd_some hq
          refine xi_callV (as := [.int a]) (rest := [.long 1, .long c.toInt64]) dX12_price_36 (KX12_points G Gb a _ _ _ k19) mkX12_points w_1108 ws_36 w_1106 (mem_get sh_149) rfl rfl rfl rfl (Nat.le_of_ble_eq_true rfl) (Nat.le_of_ble_eq_true rfl) (Nat.le_of_ble_eq_true rfl) (Nat.le_of_ble_eq_true rfl) (Nat.le_of_ble_eq_true rfl) ?_
          intro v M2 hz
          obtain ⟨rfl, rfl⟩ := hz
          show xW _ _ _ _ 39 _ [.int v17, .long 1, .long c.toInt64] (mem t18 Gb) _ _
          refine xi_iconst (v := 1) dX12_price_39 (by decide) ?_
          refine xi_isub (v := v17 - (1 : Int32)) dX12_price_40 rfl ?_
          refine xi_i2l dX12_price_41 rfl ?_
          obtain ⟨v20, t21, k22, hq⟩ := bnd_some hq
          refine xi_callS (as := [.long c.toInt64, .long 1, .long ((v17 - (1 : Int32)).toInt64)]) (rest := []) dX12_price_42 (KX12_in G Gb c.toInt64 (1 : Int64) ((v17 - (1 : Int32)).toInt64) _ _ _ k22) mkX12_in w_1100 w_1099 rfl rfl (Nat.le_of_ble_eq_true rfl) (Nat.le_of_ble_eq_true rfl) (Nat.le_of_ble_eq_true rfl) (Nat.le_of_ble_eq_true rfl) (Nat.le_of_ble_eq_true rfl) ?_
          intro v M2 hz
          obtain ⟨rfl, rfl⟩ := hz
          show xW _ _ _ _ 45 _ [.int v20] (mem t21 Gb) _ _
          refine xi_if_ne (tgt := 51) dX12_price_45 (by decide) (fun c23 => ?_) (fun c23 => ?_)
          · replace hq := ite_n c23 hq
            refine xi_aload_n 0 dX12_price_51 rfl ?_
            refine xi_iload_n 1 dX12_price_52 rfl ?_
            refine xi_iload_n 2 dX12_price_53 rfl ?_
            refine xi_iload_n 3 dX12_price_54 rfl ?_
            obtain ⟨v24, t25, k26, hq⟩ := bnd_some hq
            refine xi_callV (as := [.int a, .int b, .int c]) (rest := []) dX12_price_55 (KX12_priceOf G Gb a b c _ _ _ k26) mkX12_priceOf w_1333 ws_73 w_1331 (mem_get sh_149) rfl rfl rfl rfl (Nat.le_of_ble_eq_true rfl) (Nat.le_of_ble_eq_true rfl) (Nat.le_of_ble_eq_true rfl) (Nat.le_of_ble_eq_true rfl) (Nat.le_of_ble_eq_true rfl) ?_
            intro v M2 hz
            obtain ⟨rfl, rfl⟩ := hz
            show xW _ _ _ _ 58 _ [.int v24] (mem t25 Gb) _ _
            have r27 := some_pair hq
            obtain ⟨rfl, rfl⟩ := r27
            exact xi_iret dX12_price_58 rfl rfl (Nat.le_of_ble_eq_true rfl) (Nat.le_of_ble_eq_true rfl) ⟨rfl, rfl⟩
          · replace hq := ite_p c23 hq
            refine xi_bipush (v := (-2)) dX12_price_48 (by decide) ?_
            have r28 := some_pair hq
            obtain ⟨rfl, rfl⟩ := r28
            exact xi_iret dX12_price_50 rfl rfl (Nat.le_of_ble_eq_true rfl) (Nat.le_of_ble_eq_true rfl) ⟨rfl, rfl⟩
        · replace hq := ite_n c16 hq
          refine xi_lconst (v := 0) dX12_price_29 (by decide) ?_
          refine xi_goto (tgt := 34) dX12_price_30 (by decide) ?_
          refine xi_aload_n 0 dX12_price_34 rfl ?_
          refine xi_iload_n 1 dX12_price_35 rfl ?_
          obtain ⟨v29, t30, k31, hq⟩ := bnd_some hq
          refine xi_callV (as := [.int a]) (rest := [.long 0, .long c.toInt64]) dX12_price_36 (KX12_points G Gb a _ _ _ k31) mkX12_points w_1108 ws_36 w_1106 (mem_get sh_149) rfl rfl rfl rfl (Nat.le_of_ble_eq_true rfl) (Nat.le_of_ble_eq_true rfl) (Nat.le_of_ble_eq_true rfl) (Nat.le_of_ble_eq_true rfl) (Nat.le_of_ble_eq_true rfl) ?_
          intro v M2 hz
          obtain ⟨rfl, rfl⟩ := hz
          show xW _ _ _ _ 39 _ [.int v29, .long 0, .long c.toInt64] (mem t30 Gb) _ _
          refine xi_iconst (v := 1) dX12_price_39 (by decide) ?_
          refine xi_isub (v := v29 - (1 : Int32)) dX12_price_40 rfl ?_
          refine xi_i2l dX12_price_41 rfl ?_
          obtain ⟨v32, t33, k34, hq⟩ := bnd_some hq
          refine xi_callS (as := [.long c.toInt64, .long 0, .long ((v29 - (1 : Int32)).toInt64)]) (rest := []) dX12_price_42 (KX12_in G Gb c.toInt64 (0 : Int64) ((v29 - (1 : Int32)).toInt64) _ _ _ k34) mkX12_in w_1100 w_1099 rfl rfl (Nat.le_of_ble_eq_true rfl) (Nat.le_of_ble_eq_true rfl) (Nat.le_of_ble_eq_true rfl) (Nat.le_of_ble_eq_true rfl) (Nat.le_of_ble_eq_true rfl) ?_
          intro v M2 hz
          obtain ⟨rfl, rfl⟩ := hz
          show xW _ _ _ _ 45 _ [.int v32] (mem t33 Gb) _ _
          refine xi_if_ne (tgt := 51) dX12_price_45 (by decide) (fun c35 => ?_) (fun c35 => ?_)
          · replace hq := ite_n c35 hq
            refine xi_aload_n 0 dX12_price_51 rfl ?_
            refine xi_iload_n 1 dX12_price_52 rfl ?_
            refine xi_iload_n 2 dX12_price_53 rfl ?_
            refine xi_iload_n 3 dX12_price_54 rfl ?_
            obtain ⟨v36, t37, k38, hq⟩ := bnd_some hq
            refine xi_callV (as := [.int a, .int b, .int c]) (rest := []) dX12_price_55 (KX12_priceOf G Gb a b c _ _ _ k38) mkX12_priceOf w_1333 ws_73 w_1331 (mem_get sh_149) rfl rfl rfl rfl (Nat.le_of_ble_eq_true rfl) (Nat.le_of_ble_eq_true rfl) (Nat.le_of_ble_eq_true rfl) (Nat.le_of_ble_eq_true rfl) (Nat.le_of_ble_eq_true rfl) ?_
            intro v M2 hz
            obtain ⟨rfl, rfl⟩ := hz
            show xW _ _ _ _ 58 _ [.int v36] (mem t37 Gb) _ _
            have r39 := some_pair hq
            obtain ⟨rfl, rfl⟩ := r39
            exact xi_iret dX12_price_58 rfl rfl (Nat.le_of_ble_eq_true rfl) (Nat.le_of_ble_eq_true rfl) ⟨rfl, rfl⟩
          · replace hq := ite_p c35 hq
            refine xi_bipush (v := (-2)) dX12_price_48 (by decide) ?_
            have r40 := some_pair hq
            obtain ⟨rfl, rfl⟩ := r40
            exact xi_iret dX12_price_50 rfl rfl (Nat.le_of_ble_eq_true rfl) (Nat.le_of_ble_eq_true rfl) ⟨rfl, rfl⟩
noncomputable def FX12_readsLine (a : Int32) (σ : St) : Option ((Unit) × St) :=
  (bnd (FX12_points a σ) (fun v1 t2 => (bnd (FX12_here (0 : Int32) (v1 - (1 : Int32)) t2) (fun v4 t5 => (rdb t5 149 (12) (fun v7 => (bnd (if v7 = (0 : Int32) then (bnd (FX12_lines a t5) (fun v82 t83 => (if v82 = (30 : Int32) then (bnd (FX12_faults (4 : Int32) t83) (fun v86 t87 => (some ((), t87)))) else (some ((), t83))))) else (some ((), t5))) (fun v10 t11 => (bnd (FX12_passes  t11) (fun v14 t15 => (bnd (FX12_isSign (45 : Int32) t15) (fun v17 t18 => (bnd (FX12_must v17 t18) (fun v20 t21 => (bnd (FX12_points a t21) (fun v23 t24 => (bnd (FX12_here (0 : Int32) (v23 - (1 : Int32)) t24) (fun v26 t27 => (rdb t27 149 (12) (fun v29 => (bnd (if v29 = (0 : Int32) then (if v4 = v26 then (bnd (FX12_faults (2 : Int32) t27) (fun v79 t80 => (some ((), t80)))) else (some ((), t27))) else (some ((), t27))) (fun v32 t33 => (rdb t33 149 (12) (fun v36 => (bnd (if v36 = (0 : Int32) then (bnd (FX12_weight a v4 v26 t33) (fun v71 t72 => (if v71 ≤ (0 : Int32) then (some ((), t72)) else (bnd (FX12_faults (3 : Int32) t72) (fun v75 t76 => (some ((), t76))))))) else (some ((), t33))) (fun v39 t40 => (bnd (FX12_passes  t40) (fun v43 t44 => (bnd (FX12_isSign (61 : Int32) t44) (fun v46 t47 => (bnd (if v46 = (0 : Int32) then (some ((1 : Int32), t47)) else (bnd (FX12_next  t47) (fun v62 t63 => (bnd (FX12_here (1 : Int32) (9 : Int32) t63) (fun v65 t66 => (bnd (FX12_passes  t66) (fun v68 t69 => (some (v65, t69))))))))) (fun v50 t51 => (rdb t51 149 (12) (fun v54 => (if v54 = (0 : Int32) then (bnd (FX12_weighs a v4 v26 v50 t51) (fun v58 t59 => (some ((), t59)))) else (some ((), t51)))))))))))))))))))))))))))))))))))))
set_option maxHeartbeats 4000000 in
set_option maxRecDepth 100000 in
theorem KX12_readsLine (G : xG) (Gb : xMem) (a : Int32) (σ : St) (r0 : Unit) (t0 : St) (hq : FX12_readsLine a σ = some (r0, t0)) : xC G mX12_readsLine 5 0 0 [.ref 149, .int a] (mem σ Gb) (PV r0 t0 Gb) := by
  unfold FX12_readsLine at hq
  refine xC.of (by decide) (Nat.le_of_ble_eq_true rfl) ?_
  show xW _ _ _ _ 0 [(0, .ref 149), (1, .int a)] [] _ 0 0
  refine xi_aload_n 0 dX12_readsLine_0 rfl ?_
  refine xi_iconst (v := 0) dX12_readsLine_1 (by decide) ?_
  refine xi_aload_n 0 dX12_readsLine_2 rfl ?_
  refine xi_iload_n 1 dX12_readsLine_3 rfl ?_
  obtain ⟨v1, t2, k3, hq⟩ := bnd_some hq
  refine xi_callV (as := [.int a]) (rest := [.int 0, .ref 149]) dX12_readsLine_4 (KX12_points G Gb a _ _ _ k3) mkX12_points w_1108 ws_36 w_1106 (mem_get sh_149) rfl rfl rfl rfl (Nat.le_of_ble_eq_true rfl) (Nat.le_of_ble_eq_true rfl) (Nat.le_of_ble_eq_true rfl) (Nat.le_of_ble_eq_true rfl) (Nat.le_of_ble_eq_true rfl) ?_
  intro v M2 hz
  obtain ⟨rfl, rfl⟩ := hz
  show xW _ _ _ _ 7 _ [.int v1, .int 0, .ref 149] (mem t2 Gb) _ _
  refine xi_iconst (v := 1) dX12_readsLine_7 (by decide) ?_
  refine xi_isub (v := v1 - (1 : Int32)) dX12_readsLine_8 rfl ?_
  obtain ⟨v4, t5, k6, hq⟩ := bnd_some hq
  refine xi_callV (as := [.int 0, .int (v1 - (1 : Int32))]) (rest := []) dX12_readsLine_9 (KX12_here G Gb (0 : Int32) (v1 - (1 : Int32)) _ _ _ k6) mkX12_here w_1168 ws_47 w_1166 (mem_get sh_149) rfl rfl rfl rfl (Nat.le_of_ble_eq_true rfl) (Nat.le_of_ble_eq_true rfl) (Nat.le_of_ble_eq_true rfl) (Nat.le_of_ble_eq_true rfl) (Nat.le_of_ble_eq_true rfl) ?_
  intro v M2 hz
  obtain ⟨rfl, rfl⟩ := hz
  show xW _ _ _ _ 12 _ [.int v4] (mem t5 Gb) _ _
  refine xi_istore_n (lv' := [(2, .int v4), (0, .ref 149), (1, .int a)]) dX12_readsLine_12 (by decide) rfl ?_
  refine xi_aload_n 1 dX12_readsLine_13 rfl ?_
  obtain ⟨v7, h8, hq⟩ := rdb_some hq
  refine yi_getV (f := 12) dX12_readsLine_14 sh_149 rfl ok_9 (by decide) w_1020 rfl h8 ?_
  obtain ⟨v10, t11, m12, hq⟩ := bnd_some hq
  have key13 : xW G mX12_readsLine (xrm 5 0 0) (xQ G (PV r0 t0 Gb) 0 0) 35 [(0, .ref 149), (1, .int a), (2, .int v4)] [] (mem t11 Gb) 0 0 := by
    refine xi_aload_n 0 dX12_readsLine_35 rfl ?_
    obtain ⟨v14, t15, k16, hq⟩ := bnd_some hq
    refine xi_callV (as := []) (rest := []) dX12_readsLine_36 (KX12_passes G Gb  _ _ _ k16) mkX12_passes w_1164 ws_46 w_1162 (mem_get sh_149) rfl rfl rfl rfl (Nat.le_of_ble_eq_true rfl) (Nat.le_of_ble_eq_true rfl) (Nat.le_of_ble_eq_true rfl) (Nat.le_of_ble_eq_true rfl) (Nat.le_of_ble_eq_true rfl) ?_
    intro v M2 hz
    obtain ⟨rfl, rfl⟩ := hz
    show xW _ _ _ _ 39 _ [] (mem t15 Gb) _ _
    refine xi_aload_n 0 dX12_readsLine_39 rfl ?_
    refine xi_aload_n 0 dX12_readsLine_40 rfl ?_
    refine xi_bipush (v := 45) dX12_readsLine_41 (by decide) ?_
    obtain ⟨v17, t18, k19, hq⟩ := bnd_some hq
    refine xi_callV (as := [.int 45]) (rest := [.ref 149]) dX12_readsLine_43 (KX12_isSign G Gb (45 : Int32) _ _ _ k19) mkX12_isSign w_1176 ws_49 w_1174 (mem_get sh_149) rfl rfl rfl rfl (Nat.le_of_ble_eq_true rfl) (Nat.le_of_ble_eq_true rfl) (Nat.le_of_ble_eq_true rfl) (Nat.le_of_ble_eq_true rfl) (Nat.le_of_ble_eq_true rfl) ?_
    intro v M2 hz
    obtain ⟨rfl, rfl⟩ := hz
    show xW _ _ _ _ 46 _ [.int v17, .ref 149] (mem t18 Gb) _ _
    obtain ⟨v20, t21, k22, hq⟩ := bnd_some hq
    refine xi_callV (as := [.int v17]) (rest := []) dX12_readsLine_46 (KX12_must G Gb v17 _ _ _ k22) mkX12_must w_1156 ws_44 w_1154 (mem_get sh_149) rfl rfl rfl rfl (Nat.le_of_ble_eq_true rfl) (Nat.le_of_ble_eq_true rfl) (Nat.le_of_ble_eq_true rfl) (Nat.le_of_ble_eq_true rfl) (Nat.le_of_ble_eq_true rfl) ?_
    intro v M2 hz
    obtain ⟨rfl, rfl⟩ := hz
    show xW _ _ _ _ 49 _ [] (mem t21 Gb) _ _
    refine xi_aload_n 0 dX12_readsLine_49 rfl ?_
    refine xi_iconst (v := 0) dX12_readsLine_50 (by decide) ?_
    refine xi_aload_n 0 dX12_readsLine_51 rfl ?_
    refine xi_iload_n 1 dX12_readsLine_52 rfl ?_
    obtain ⟨v23, t24, k25, hq⟩ := bnd_some hq
    refine xi_callV (as := [.int a]) (rest := [.int 0, .ref 149]) dX12_readsLine_53 (KX12_points G Gb a _ _ _ k25) mkX12_points w_1108 ws_36 w_1106 (mem_get sh_149) rfl rfl rfl rfl (Nat.le_of_ble_eq_true rfl) (Nat.le_of_ble_eq_true rfl) (Nat.le_of_ble_eq_true rfl) (Nat.le_of_ble_eq_true rfl) (Nat.le_of_ble_eq_true rfl) ?_
    intro v M2 hz
    obtain ⟨rfl, rfl⟩ := hz
    show xW _ _ _ _ 56 _ [.int v23, .int 0, .ref 149] (mem t24 Gb) _ _
    refine xi_iconst (v := 1) dX12_readsLine_56 (by decide) ?_
    refine xi_isub (v := v23 - (1 : Int32)) dX12_readsLine_57 rfl ?_
    obtain ⟨v26, t27, k28, hq⟩ := bnd_some hq
    refine xi_callV (as := [.int 0, .int (v23 - (1 : Int32))]) (rest := []) dX12_readsLine_58 (KX12_here G Gb (0 : Int32) (v23 - (1 : Int32)) _ _ _ k28) mkX12_here w_1168 ws_47 w_1166 (mem_get sh_149) rfl rfl rfl rfl (Nat.le_of_ble_eq_true rfl) (Nat.le_of_ble_eq_true rfl) (Nat.le_of_ble_eq_true rfl) (Nat.le_of_ble_eq_true rfl) (Nat.le_of_ble_eq_true rfl) ?_
    intro v M2 hz
    obtain ⟨rfl, rfl⟩ := hz
    show xW _ _ _ _ 61 _ [.int v26] (mem t27 Gb) _ _
    refine xi_istore_n (lv' := [(3, .int v26), (0, .ref 149), (1, .int a), (2, .int v4)]) dX12_readsLine_61 (by decide) rfl ?_
    refine xi_aload_n 1 dX12_readsLine_62 rfl ?_
    obtain ⟨v29, h30, hq⟩ := rdb_some hq
    refine yi_getV (f := 12) dX12_readsLine_63 sh_149 rfl ok_9 (by decide) w_1020 rfl h30 ?_
    obtain ⟨v32, t33, m34, hq⟩ := bnd_some hq
    have key35 : xW G mX12_readsLine (xrm 5 0 0) (xQ G (PV r0 t0 Gb) 0 0) 79 [(0, .ref 149), (1, .int a), (2, .int v4), (3, .int v26)] [] (mem t33 Gb) 0 0 := by
      refine xi_aload_n 0 dX12_readsLine_79 rfl ?_
      obtain ⟨v36, h37, hq⟩ := rdb_some hq
      refine yi_getV (f := 12) dX12_readsLine_80 sh_149 rfl ok_9 (by decide) w_1020 rfl h37 ?_
      obtain ⟨v39, t40, m41, hq⟩ := bnd_some hq
      have key42 : xW G mX12_readsLine (xrm 5 0 0) (xQ G (PV r0 t0 Gb) 0 0) 101 [(0, .ref 149), (1, .int a), (2, .int v4), (3, .int v26)] [] (mem t40 Gb) 0 0 := by
        refine xi_aload_n 0 dX12_readsLine_101 rfl ?_
        obtain ⟨v43, t44, k45, hq⟩ := bnd_some hq
        refine xi_callV (as := []) (rest := []) dX12_readsLine_102 (KX12_passes G Gb  _ _ _ k45) mkX12_passes w_1164 ws_46 w_1162 (mem_get sh_149) rfl rfl rfl rfl (Nat.le_of_ble_eq_true rfl) (Nat.le_of_ble_eq_true rfl) (Nat.le_of_ble_eq_true rfl) (Nat.le_of_ble_eq_true rfl) (Nat.le_of_ble_eq_true rfl) ?_
        intro v M2 hz
        obtain ⟨rfl, rfl⟩ := hz
        show xW _ _ _ _ 105 _ [] (mem t44 Gb) _ _
        refine xi_iconst (v := 1) dX12_readsLine_105 (by decide) ?_
        refine xi_istore (lv' := [(4, .int 1), (0, .ref 149), (1, .int a), (2, .int v4), (3, .int v26)]) dX12_readsLine_106 (by decide) rfl ?_
        refine xi_aload_n 1 dX12_readsLine_108 rfl ?_
        refine xi_bipush (v := 61) dX12_readsLine_109 (by decide) ?_
        obtain ⟨v46, t47, k48, hq⟩ := bnd_some hq
        refine xi_callV (as := [.int 61]) (rest := []) dX12_readsLine_111 (KX12_isSign G Gb (61 : Int32) _ _ _ k48) mkX12_isSign w_1176 ws_49 w_1174 (mem_get sh_149) rfl rfl rfl rfl (Nat.le_of_ble_eq_true rfl) (Nat.le_of_ble_eq_true rfl) (Nat.le_of_ble_eq_true rfl) (Nat.le_of_ble_eq_true rfl) (Nat.le_of_ble_eq_true rfl) ?_
        intro v M2 hz
        obtain ⟨rfl, rfl⟩ := hz
        show xW _ _ _ _ 114 _ [.int v46] (mem t47 Gb) _ _
        obtain ⟨v50, t51, m52, hq⟩ := bnd_some hq
        have key53 : xW G mX12_readsLine (xrm 5 0 0) (xQ G (PV r0 t0 Gb) 0 0) 134 [(0, .ref 149), (1, .int a), (2, .int v4), (3, .int v26), (4, .int v50)] [] (mem t51 Gb) 0 0 := by
          refine xi_aload_n 0 dX12_readsLine_134 rfl ?_
          obtain ⟨v54, h55, hq⟩ := rdb_some hq
          refine yi_getV (f := 12) dX12_readsLine_135 sh_149 rfl ok_9 (by decide) w_1020 rfl h55 ?_
          refine xi_if_ne (tgt := 150) dX12_readsLine_138 (by decide) (fun c56 => ?_) (fun c56 => ?_)
          · replace hq := ite_n c56 hq
            have r57 := some_pair hq
            obtain ⟨rfl, rfl⟩ := r57
            exact xi_vret dX12_readsLine_150 rfl (Nat.le_of_ble_eq_true rfl) (Nat.le_of_ble_eq_true rfl) ⟨rfl, rfl⟩
          · replace hq := ite_p c56 hq
            refine xi_aload_n 0 dX12_readsLine_141 rfl ?_
            refine xi_iload_n 1 dX12_readsLine_142 rfl ?_
            refine xi_iload_n 2 dX12_readsLine_143 rfl ?_
            refine xi_iload_n 3 dX12_readsLine_144 rfl ?_
            refine xi_iload 4 dX12_readsLine_145 rfl ?_
            obtain ⟨v58, t59, k60, hq⟩ := bnd_some hq
            refine xi_callV (as := [.int a, .int v4, .int v26, .int v50]) (rest := []) dX12_readsLine_147 (KX12_weighs G Gb a v4 v26 v50 _ _ _ k60) mkX12_weighs w_1199 ws_54 w_1197 (mem_get sh_149) rfl rfl rfl rfl (Nat.le_of_ble_eq_true rfl) (Nat.le_of_ble_eq_true rfl) (Nat.le_of_ble_eq_true rfl) (Nat.le_of_ble_eq_true rfl) (Nat.le_of_ble_eq_true rfl) ?_
            intro v M2 hz
            obtain ⟨rfl, rfl⟩ := hz
            show xW _ _ _ _ 150 _ [] (mem t59 Gb) _ _
            have r61 := some_pair hq
            obtain ⟨rfl, rfl⟩ := r61
            exact xi_vret dX12_readsLine_150 rfl (Nat.le_of_ble_eq_true rfl) (Nat.le_of_ble_eq_true rfl) ⟨rfl, rfl⟩
        refine xi_if_eq (tgt := 134) dX12_readsLine_114 (by decide) (fun c49 => ?_) (fun c49 => ?_)
        · replace m52 := ite_p c49 m52
          obtain ⟨rfl, rfl⟩ := some_pair m52
          refine xi_sub (lv' := [(0, .ref 149), (1, .int a), (2, .int v4), (3, .int v26), (4, .int 1)]) [1, 2, 3, 4, 0] rfl ?_
          exact key53
        · replace m52 := ite_n c49 m52
          refine xi_aload_n 1 dX12_readsLine_117 rfl ?_
          obtain ⟨v62, t63, k64, m52⟩ := bnd_some m52
          refine xi_callV (as := []) (rest := []) dX12_readsLine_118 (KX12_next G Gb  _ _ _ k64) mkX12_next w_1136 ws_40 w_1134 (mem_get sh_149) rfl rfl rfl rfl (Nat.le_of_ble_eq_true rfl) (Nat.le_of_ble_eq_true rfl) (Nat.le_of_ble_eq_true rfl) (Nat.le_of_ble_eq_true rfl) (Nat.le_of_ble_eq_true rfl) ?_
          intro v M2 hz
          obtain ⟨rfl, rfl⟩ := hz
          show xW _ _ _ _ 121 _ [] (mem t63 Gb) _ _
          refine xi_aload_n 1 dX12_readsLine_121 rfl ?_
          refine xi_iconst (v := 1) dX12_readsLine_122 (by decide) ?_
          refine xi_bipush (v := 9) dX12_readsLine_123 (by decide) ?_
          obtain ⟨v65, t66, k67, m52⟩ := bnd_some m52
          refine xi_callV (as := [.int 1, .int 9]) (rest := []) dX12_readsLine_125 (KX12_here G Gb (1 : Int32) (9 : Int32) _ _ _ k67) mkX12_here w_1168 ws_47 w_1166 (mem_get sh_149) rfl rfl rfl rfl (Nat.le_of_ble_eq_true rfl) (Nat.le_of_ble_eq_true rfl) (Nat.le_of_ble_eq_true rfl) (Nat.le_of_ble_eq_true rfl) (Nat.le_of_ble_eq_true rfl) ?_
          intro v M2 hz
          obtain ⟨rfl, rfl⟩ := hz
          show xW _ _ _ _ 128 _ [.int v65] (mem t66 Gb) _ _
          refine xi_istore (lv' := [(4, .int v65), (0, .ref 149), (1, .int a), (2, .int v4), (3, .int v26)]) dX12_readsLine_128 (by decide) rfl ?_
          refine xi_aload_n 1 dX12_readsLine_130 rfl ?_
          obtain ⟨v68, t69, k70, m52⟩ := bnd_some m52
          refine xi_callV (as := []) (rest := []) dX12_readsLine_131 (KX12_passes G Gb  _ _ _ k70) mkX12_passes w_1164 ws_46 w_1162 (mem_get sh_149) rfl rfl rfl rfl (Nat.le_of_ble_eq_true rfl) (Nat.le_of_ble_eq_true rfl) (Nat.le_of_ble_eq_true rfl) (Nat.le_of_ble_eq_true rfl) (Nat.le_of_ble_eq_true rfl) ?_
          intro v M2 hz
          obtain ⟨rfl, rfl⟩ := hz
          show xW _ _ _ _ 134 _ [] (mem t69 Gb) _ _
          obtain ⟨rfl, rfl⟩ := some_pair m52
          refine xi_sub (lv' := [(0, .ref 149), (1, .int a), (2, .int v4), (3, .int v26), (4, .int v65)]) [1, 2, 3, 4, 0] rfl ?_
          exact key53
      refine xi_if_ne (tgt := 101) dX12_readsLine_83 (by decide) (fun c38 => ?_) (fun c38 => ?_)
      · replace m41 := ite_n c38 m41
        obtain ⟨rfl, rfl⟩ := some_pair m41
        exact key42
      · replace m41 := ite_p c38 m41
        refine xi_aload_n 0 dX12_readsLine_86 rfl ?_
        refine xi_iload_n 1 dX12_readsLine_87 rfl ?_
        refine xi_iload_n 2 dX12_readsLine_88 rfl ?_
        refine xi_iload_n 3 dX12_readsLine_89 rfl ?_
        obtain ⟨v71, t72, k73, m41⟩ := bnd_some m41
        refine xi_callV (as := [.int a, .int v4, .int v26]) (rest := []) dX12_readsLine_90 (KX12_weight G Gb a v4 v26 _ _ _ k73) mkX12_weight w_1192 ws_53 w_1190 (mem_get sh_149) rfl rfl rfl rfl (Nat.le_of_ble_eq_true rfl) (Nat.le_of_ble_eq_true rfl) (Nat.le_of_ble_eq_true rfl) (Nat.le_of_ble_eq_true rfl) (Nat.le_of_ble_eq_true rfl) ?_
        intro v M2 hz
        obtain ⟨rfl, rfl⟩ := hz
        show xW _ _ _ _ 93 _ [.int v71] (mem t72 Gb) _ _
        refine xi_if_le (tgt := 101) dX12_readsLine_93 (by decide) (fun c74 => ?_) (fun c74 => ?_)
        · replace m41 := ite_p c74 m41
          obtain ⟨rfl, rfl⟩ := some_pair m41
          exact key42
        · replace m41 := ite_n c74 m41
          refine xi_aload_n 0 dX12_readsLine_96 rfl ?_
          refine xi_iconst (v := 3) dX12_readsLine_97 (by decide) ?_
          obtain ⟨v75, t76, k77, m41⟩ := bnd_some m41
          refine xi_callV (as := [.int 3]) (rest := []) dX12_readsLine_98 (KX12_faults G Gb (3 : Int32) _ _ _ k77) mkX12_faults w_1160 ws_45 w_1158 (mem_get sh_149) rfl rfl rfl rfl (Nat.le_of_ble_eq_true rfl) (Nat.le_of_ble_eq_true rfl) (Nat.le_of_ble_eq_true rfl) (Nat.le_of_ble_eq_true rfl) (Nat.le_of_ble_eq_true rfl) ?_
          intro v M2 hz
          obtain ⟨rfl, rfl⟩ := hz
          show xW _ _ _ _ 101 _ [] (mem t76 Gb) _ _
          obtain ⟨rfl, rfl⟩ := some_pair m41
          exact key42
    refine xi_if_ne (tgt := 79) dX12_readsLine_66 (by decide) (fun c31 => ?_) (fun c31 => ?_)
    · replace m34 := ite_n c31 m34
      obtain ⟨rfl, rfl⟩ := some_pair m34
      refine xi_sub (lv' := [(0, .ref 149), (1, .int a), (2, .int v4), (3, .int v26)]) [1, 2, 3, 0] rfl ?_
      exact key35
    · replace m34 := ite_p c31 m34
      refine xi_iload_n 3 dX12_readsLine_69 rfl ?_
      refine xi_iload_n 0 dX12_readsLine_70 rfl ?_
      refine xi_icmp_ne (tgt := 79) dX12_readsLine_71 (by decide) (fun c78 => ?_) (fun c78 => ?_)
      · replace m34 := ite_n c78 m34
        obtain ⟨rfl, rfl⟩ := some_pair m34
        refine xi_sub (lv' := [(0, .ref 149), (1, .int a), (2, .int v4), (3, .int v26)]) [1, 2, 3, 0] rfl ?_
        exact key35
      · replace m34 := ite_p c78 m34
        refine xi_aload_n 1 dX12_readsLine_74 rfl ?_
        refine xi_iconst (v := 2) dX12_readsLine_75 (by decide) ?_
        obtain ⟨v79, t80, k81, m34⟩ := bnd_some m34
        refine xi_callV (as := [.int 2]) (rest := []) dX12_readsLine_76 (KX12_faults G Gb (2 : Int32) _ _ _ k81) mkX12_faults w_1160 ws_45 w_1158 (mem_get sh_149) rfl rfl rfl rfl (Nat.le_of_ble_eq_true rfl) (Nat.le_of_ble_eq_true rfl) (Nat.le_of_ble_eq_true rfl) (Nat.le_of_ble_eq_true rfl) (Nat.le_of_ble_eq_true rfl) ?_
        intro v M2 hz
        obtain ⟨rfl, rfl⟩ := hz
        show xW _ _ _ _ 79 _ [] (mem t80 Gb) _ _
        obtain ⟨rfl, rfl⟩ := some_pair m34
        refine xi_sub (lv' := [(0, .ref 149), (1, .int a), (2, .int v4), (3, .int v26)]) [1, 2, 3, 0] rfl ?_
        exact key35
  refine xi_if_ne (tgt := 35) dX12_readsLine_17 (by decide) (fun c9 => ?_) (fun c9 => ?_)
  · replace m12 := ite_n c9 m12
    obtain ⟨rfl, rfl⟩ := some_pair m12
    refine xi_sub (lv' := [(0, .ref 149), (1, .int a), (2, .int v4)]) [1, 2, 0] rfl ?_
    exact key13
  · replace m12 := ite_p c9 m12
    refine xi_aload_n 1 dX12_readsLine_20 rfl ?_
    refine xi_iload_n 2 dX12_readsLine_21 rfl ?_
    obtain ⟨v82, t83, k84, m12⟩ := bnd_some m12
    refine xi_callV (as := [.int a]) (rest := []) dX12_readsLine_22 (KX12_lines G Gb a _ _ _ k84) mkX12_lines w_1184 ws_51 w_1182 (mem_get sh_149) rfl rfl rfl rfl (Nat.le_of_ble_eq_true rfl) (Nat.le_of_ble_eq_true rfl) (Nat.le_of_ble_eq_true rfl) (Nat.le_of_ble_eq_true rfl) (Nat.le_of_ble_eq_true rfl) ?_
    intro v M2 hz
    obtain ⟨rfl, rfl⟩ := hz
    show xW _ _ _ _ 25 _ [.int v82] (mem t83 Gb) _ _
    refine xi_bipush (v := 30) dX12_readsLine_25 (by decide) ?_
    refine xi_icmp_ne (tgt := 35) dX12_readsLine_27 (by decide) (fun c85 => ?_) (fun c85 => ?_)
    · replace m12 := ite_n c85 m12
      obtain ⟨rfl, rfl⟩ := some_pair m12
      refine xi_sub (lv' := [(0, .ref 149), (1, .int a), (2, .int v4)]) [1, 2, 0] rfl ?_
      exact key13
    · replace m12 := ite_p c85 m12
      refine xi_aload_n 1 dX12_readsLine_30 rfl ?_
      refine xi_iconst (v := 4) dX12_readsLine_31 (by decide) ?_
      obtain ⟨v86, t87, k88, m12⟩ := bnd_some m12
      refine xi_callV (as := [.int 4]) (rest := []) dX12_readsLine_32 (KX12_faults G Gb (4 : Int32) _ _ _ k88) mkX12_faults w_1160 ws_45 w_1158 (mem_get sh_149) rfl rfl rfl rfl (Nat.le_of_ble_eq_true rfl) (Nat.le_of_ble_eq_true rfl) (Nat.le_of_ble_eq_true rfl) (Nat.le_of_ble_eq_true rfl) (Nat.le_of_ble_eq_true rfl) ?_
      intro v M2 hz
      obtain ⟨rfl, rfl⟩ := hz
      show xW _ _ _ _ 35 _ [] (mem t87 Gb) _ _
      obtain ⟨rfl, rfl⟩ := some_pair m12
      refine xi_sub (lv' := [(0, .ref 149), (1, .int a), (2, .int v4)]) [1, 2, 0] rfl ?_
      exact key13
noncomputable def SX12_readsRow_35 (w1 : Int32) (c : Int32 × Int32 × Int32) (σ : St) : Option (((Int32 × Int32 × Int32) ⊕ (Int32)) × St) :=
  (rdb σ 149 (8) (fun v18 => (if v18 ≤ c.2.2 then (some (Sum.inr c.2.1, σ)) else (rdb σ 149 (10) (fun v21 => (if v21 = (2 : Int32) then (chk (inb c.2.2 400) (rdb σ 153 (c.2.2.toNatClampNeg) (fun v25 => (bnd (if c.2.1 = (0 : Int32) then (some ((0 : Int32), σ)) else (bnd (FX12_points w1 σ) (fun v32 t33 => (if v32 ≤ (v25 - (48 : Int32)) then (some ((0 : Int32), t33)) else (bnd (FX12_has c.1 (v25 - (48 : Int32)) t33) (fun v36 t37 => (if v36 = (0 : Int32) then (some ((1 : Int32), t37)) else (some ((0 : Int32), t37))))))))) (fun v28 t29 => (some (Sum.inl ((c.1 ||| (shl (1 : Int32) (v25 - (48 : Int32)))), v28, (c.2.2 + 1)), t29))))))) else (some (Sum.inr c.2.1, σ))))))))
noncomputable def SX12_readsRow_134 (w1 : Int32) (c : Int32) (σ : St) : Option (((Int32) ⊕ (Unit)) × St) :=
  (bnd (FX12_points w1 σ) (fun v51 t52 => (if v51 ≤ c then (some (Sum.inr (), t52)) else (rdb t52 149 (12) (fun v55 => (if v55 = (0 : Int32) then (rdb t52 149 (9) (fun v58 => (chk (inb (v58 + c) 400) (rdb t52 153 ((v58 + c).toNatClampNeg) (fun v61 => (bnd (FX12_puts w1 c (v61 - (48 : Int32)) t52) (fun v63 t64 => (some (Sum.inl (c + 1), t64))))))))) else (some (Sum.inr (), t52))))))))
set_option maxHeartbeats 4000000 in
set_option maxRecDepth 100000 in
theorem SX12_readsRow_35_w (G : xG) (Gb : xMem) (w1 : Int32) (r0 : Unit) (t0 : St) :
    ∀ (k : Nat) (c : Int32 × Int32 × Int32) (σ : St) (r : Int32) (σ' : St), itr (SX12_readsRow_35 w1) k c σ = some (r, σ') → (xW G mX12_readsRow (xrm 5 0 0) (xQ G (PV r0 t0 Gb) 0 0) 106 [(0, .ref 149), (1, .int w1), (3, .int r)] [] (mem σ' Gb) 0 0) → xW G mX12_readsRow (xrm 5 0 0) (xQ G (PV r0 t0 Gb) 0 0) 35 [(0, .ref 149), (1, .int w1), (2, .int c.1), (3, .int c.2.1), (4, .int c.2.2)] [] (mem σ Gb) 0 0 := by
  intro k
  induction k with
  | zero =>
    intro c σ r σ' h
    exact absurd h (itr_zero _ _ _ _)
  | succ k ih =>
    intro c σ r σ' h HE
    obtain ⟨x, s1, hs, h⟩ := itr_succ h
    unfold SX12_readsRow_35 at hs
    refine xi_iload 4 dX12_readsRow_35 rfl ?_
    refine xi_aload_n 0 dX12_readsRow_37 rfl ?_
    obtain ⟨v18, h19, hs⟩ := rdb_some hs
    refine yi_getV (f := 8) dX12_readsRow_38 sh_149 rfl ok_9 (by decide) w_1016 rfl h19 ?_
    refine xi_icmp_ge (tgt := 106) dX12_readsRow_41 (by decide) (fun c20 => ?_) (fun c20 => ?_)
    · replace hs := ite_p c20 hs
      refine xi_sub (lv' := [(0, .ref 149), (1, .int w1), (3, .int c.2.1)]) [0, 1, 3] rfl ?_
      obtain ⟨rfl, rfl⟩ := some_pair hs
      obtain ⟨rfl, rfl⟩ := some_pair h
      exact HE
    · replace hs := ite_n c20 hs
      refine xi_aload_n 0 dX12_readsRow_44 rfl ?_
      obtain ⟨v21, h22, hs⟩ := rdb_some hs
      refine yi_getV (f := 10) dX12_readsRow_45 sh_149 rfl ok_9 (by decide) w_1018 rfl h22 ?_
      refine xi_iconst (v := 2) dX12_readsRow_48 (by decide) ?_
      refine xi_icmp_ne (tgt := 106) dX12_readsRow_49 (by decide) (fun c23 => ?_) (fun c23 => ?_)
      · replace hs := ite_n c23 hs
        refine xi_sub (lv' := [(0, .ref 149), (1, .int w1), (3, .int c.2.1)]) [0, 1, 3] rfl ?_
        obtain ⟨rfl, rfl⟩ := some_pair hs
        obtain ⟨rfl, rfl⟩ := some_pair h
        exact HE
      · replace hs := ite_p c23 hs
        refine xi_aload_n 0 dX12_readsRow_52 rfl ?_
        refine yi_getR (f := 4) dX12_readsRow_53 sh_149 rfl ok_9 (by decide) w_1012 rfl ?_
        refine xi_iload 4 dX12_readsRow_56 rfl ?_
        obtain ⟨g24, hs⟩ := chk_some hs
        obtain ⟨v25, h26, hs⟩ := rdb_some hs
        refine yi_ialoadV dX12_readsRow_58 sh_153 g24 h26 ?_
        refine xi_bipush (v := 48) dX12_readsRow_59 (by decide) ?_
        refine xi_isub (v := v25 - (48 : Int32)) dX12_readsRow_61 rfl ?_
        refine xi_istore (lv' := [(5, .int (v25 - (48 : Int32))), (0, .ref 149), (1, .int w1), (2, .int c.1), (3, .int c.2.1), (4, .int c.2.2)]) dX12_readsRow_62 (by decide) rfl ?_
        refine xi_iload_n 4 dX12_readsRow_64 rfl ?_
        obtain ⟨v28, t29, m30, hs⟩ := bnd_some hs
        have key31 : xW G mX12_readsRow (xrm 5 0 0) (xQ G (PV r0 t0 Gb) 0 0) 92 [(0, .ref 149), (1, .int w1), (2, .int c.1), (4, .int c.2.2), (5, .int (v25 - (48 : Int32)))] [.int v28] (mem t29 Gb) 0 0 := by
          refine xi_istore_n (lv' := [(3, .int v28), (0, .ref 149), (1, .int w1), (2, .int c.1), (4, .int c.2.2), (5, .int (v25 - (48 : Int32)))]) dX12_readsRow_92 (by decide) rfl ?_
          refine xi_iload_n 3 dX12_readsRow_93 rfl ?_
          refine xi_iconst (v := 1) dX12_readsRow_94 (by decide) ?_
          refine xi_iload 5 dX12_readsRow_95 rfl ?_
          refine xi_ishl (v := shl (1 : Int32) (v25 - (48 : Int32))) dX12_readsRow_97 rfl ?_
          refine xi_ior (v := c.1 ||| (shl (1 : Int32) (v25 - (48 : Int32)))) dX12_readsRow_98 rfl ?_
          refine xi_istore_n (lv' := [(2, .int (c.1 ||| (shl (1 : Int32) (v25 - (48 : Int32))))), (3, .int v28), (0, .ref 149), (1, .int w1), (4, .int c.2.2), (5, .int (v25 - (48 : Int32)))]) dX12_readsRow_99 (by decide) rfl ?_
          refine xi_iinc (v := (c.2.2 + 1)) (lv' := [(4, .int (c.2.2 + 1)), (2, .int (c.1 ||| (shl (1 : Int32) (v25 - (48 : Int32))))), (3, .int v28), (0, .ref 149), (1, .int w1), (5, .int (v25 - (48 : Int32)))]) 4 dX12_readsRow_100 rfl rfl (by decide) rfl ?_
          refine xi_goto (tgt := 35) dX12_readsRow_103 (by decide) ?_
          refine xi_sub (lv' := [(0, .ref 149), (1, .int w1), (2, .int (c.1 ||| (shl (1 : Int32) (v25 - (48 : Int32))))), (3, .int v28), (4, .int (c.2.2 + 1))]) [3, 4, 1, 2, 0] rfl ?_
          obtain ⟨rfl, rfl⟩ := some_pair hs
          exact ih ((c.1 ||| (shl (1 : Int32) (v25 - (48 : Int32)))), v28, (c.2.2 + 1)) t29 _ _ h HE
        refine xi_if_eq (tgt := 91) dX12_readsRow_65 (by decide) (fun c27 => ?_) (fun c27 => ?_)
        · replace m30 := ite_p c27 m30
          refine xi_iconst (v := 0) dX12_readsRow_91 (by decide) ?_
          obtain ⟨rfl, rfl⟩ := some_pair m30
          refine xi_sub (lv' := [(0, .ref 149), (1, .int w1), (2, .int c.1), (4, .int c.2.2), (5, .int (v25 - (48 : Int32)))]) [1, 2, 3, 5, 0] rfl ?_
          exact key31
        · replace m30 := ite_n c27 m30
          refine xi_iload 0 dX12_readsRow_68 rfl ?_
          refine xi_aload_n 1 dX12_readsRow_70 rfl ?_
          refine xi_iload_n 2 dX12_readsRow_71 rfl ?_
          obtain ⟨v32, t33, k34, m30⟩ := bnd_some m30
          refine xi_callV (as := [.int w1]) (rest := [.int (v25 - (48 : Int32))]) dX12_readsRow_72 (KX12_points G Gb w1 _ _ _ k34) mkX12_points w_1108 ws_36 w_1106 (mem_get sh_149) rfl rfl rfl rfl (Nat.le_of_ble_eq_true rfl) (Nat.le_of_ble_eq_true rfl) (Nat.le_of_ble_eq_true rfl) (Nat.le_of_ble_eq_true rfl) (Nat.le_of_ble_eq_true rfl) ?_
          intro v M2 hz
          obtain ⟨rfl, rfl⟩ := hz
          show xW _ _ _ _ 75 _ [.int v32, .int (v25 - (48 : Int32))] (mem t33 Gb) _ _
          refine xi_icmp_ge (tgt := 91) dX12_readsRow_75 (by decide) (fun c35 => ?_) (fun c35 => ?_)
          · replace m30 := ite_p c35 m30
            refine xi_iconst (v := 0) dX12_readsRow_91 (by decide) ?_
            obtain ⟨rfl, rfl⟩ := some_pair m30
            refine xi_sub (lv' := [(0, .ref 149), (1, .int w1), (2, .int c.1), (4, .int c.2.2), (5, .int (v25 - (48 : Int32)))]) [1, 2, 3, 5, 0] rfl ?_
            exact key31
          · replace m30 := ite_n c35 m30
            refine xi_iload_n 3 dX12_readsRow_78 rfl ?_
            refine xi_iload 0 dX12_readsRow_79 rfl ?_
            obtain ⟨v36, t37, k38, m30⟩ := bnd_some m30
            refine xi_callS (as := [.int c.1, .int (v25 - (48 : Int32))]) (rest := []) dX12_readsRow_81 (KX12_has G Gb c.1 (v25 - (48 : Int32)) _ _ _ k38) mkX12_has w_1207 w_1206 rfl rfl (Nat.le_of_ble_eq_true rfl) (Nat.le_of_ble_eq_true rfl) (Nat.le_of_ble_eq_true rfl) (Nat.le_of_ble_eq_true rfl) (Nat.le_of_ble_eq_true rfl) ?_
            intro v M2 hz
            obtain ⟨rfl, rfl⟩ := hz
            show xW _ _ _ _ 84 _ [.int v36] (mem t37 Gb) _ _
            refine xi_if_ne (tgt := 91) dX12_readsRow_84 (by decide) (fun c39 => ?_) (fun c39 => ?_)
            · replace m30 := ite_n c39 m30
              refine xi_iconst (v := 0) dX12_readsRow_91 (by decide) ?_
              obtain ⟨rfl, rfl⟩ := some_pair m30
              refine xi_sub (lv' := [(0, .ref 149), (1, .int w1), (2, .int c.1), (4, .int c.2.2), (5, .int (v25 - (48 : Int32)))]) [1, 2, 3, 5, 0] rfl ?_
              exact key31
            · replace m30 := ite_p c39 m30
              refine xi_iconst (v := 1) dX12_readsRow_87 (by decide) ?_
              refine xi_goto (tgt := 92) dX12_readsRow_88 (by decide) ?_
              obtain ⟨rfl, rfl⟩ := some_pair m30
              refine xi_sub (lv' := [(0, .ref 149), (1, .int w1), (2, .int c.1), (4, .int c.2.2), (5, .int (v25 - (48 : Int32)))]) [1, 2, 3, 5, 0] rfl ?_
              exact key31
set_option maxHeartbeats 4000000 in
set_option maxRecDepth 100000 in
theorem SX12_readsRow_134_w (G : xG) (Gb : xMem) (w1 : Int32) (r0 : Unit) (t0 : St) :
    ∀ (k : Nat) (c : Int32) (σ : St) (r : Unit) (σ' : St), itr (SX12_readsRow_134 w1) k c σ = some (r, σ') → (xW G mX12_readsRow (xrm 5 0 0) (xQ G (PV r0 t0 Gb) 0 0) 179 [(0, .ref 149)] [] (mem σ' Gb) 0 0) → xW G mX12_readsRow (xrm 5 0 0) (xQ G (PV r0 t0 Gb) 0 0) 134 [(0, .ref 149), (1, .int w1), (4, .int c)] [] (mem σ Gb) 0 0 := by
  intro k
  induction k with
  | zero =>
    intro c σ r σ' h
    exact absurd h (itr_zero _ _ _ _)
  | succ k ih =>
    intro c σ r σ' h HE
    obtain ⟨x, s1, hs, h⟩ := itr_succ h
    unfold SX12_readsRow_134 at hs
    refine xi_iload 2 dX12_readsRow_134 rfl ?_
    refine xi_aload_n 0 dX12_readsRow_136 rfl ?_
    refine xi_iload_n 1 dX12_readsRow_137 rfl ?_
    obtain ⟨v51, t52, k53, hs⟩ := bnd_some hs
    refine xi_callV (as := [.int w1]) (rest := [.int c]) dX12_readsRow_138 (KX12_points G Gb w1 _ _ _ k53) mkX12_points w_1108 ws_36 w_1106 (mem_get sh_149) rfl rfl rfl rfl (Nat.le_of_ble_eq_true rfl) (Nat.le_of_ble_eq_true rfl) (Nat.le_of_ble_eq_true rfl) (Nat.le_of_ble_eq_true rfl) (Nat.le_of_ble_eq_true rfl) ?_
    intro v M2 hz
    obtain ⟨rfl, rfl⟩ := hz
    show xW _ _ _ _ 141 _ [.int v51, .int c] (mem t52 Gb) _ _
    refine xi_icmp_ge (tgt := 179) dX12_readsRow_141 (by decide) (fun c54 => ?_) (fun c54 => ?_)
    · replace hs := ite_p c54 hs
      refine xi_sub (lv' := [(0, .ref 149)]) [0] rfl ?_
      obtain ⟨rfl, rfl⟩ := some_pair hs
      obtain ⟨rfl, rfl⟩ := some_pair h
      exact HE
    · replace hs := ite_n c54 hs
      refine xi_aload_n 0 dX12_readsRow_144 rfl ?_
      obtain ⟨v55, h56, hs⟩ := rdb_some hs
      refine yi_getV (f := 12) dX12_readsRow_145 sh_149 rfl ok_9 (by decide) w_1020 rfl h56 ?_
      refine xi_if_ne (tgt := 179) dX12_readsRow_148 (by decide) (fun c57 => ?_) (fun c57 => ?_)
      · replace hs := ite_n c57 hs
        refine xi_sub (lv' := [(0, .ref 149)]) [0] rfl ?_
        obtain ⟨rfl, rfl⟩ := some_pair hs
        obtain ⟨rfl, rfl⟩ := some_pair h
        exact HE
      · replace hs := ite_p c57 hs
        refine xi_aload_n 0 dX12_readsRow_151 rfl ?_
        refine xi_iload_n 1 dX12_readsRow_152 rfl ?_
        refine xi_iload 2 dX12_readsRow_153 rfl ?_
        refine xi_aload_n 0 dX12_readsRow_155 rfl ?_
        refine yi_getR (f := 4) dX12_readsRow_156 sh_149 rfl ok_9 (by decide) w_1012 rfl ?_
        refine xi_aload_n 0 dX12_readsRow_159 rfl ?_
        obtain ⟨v58, h59, hs⟩ := rdb_some hs
        refine yi_getV (f := 9) dX12_readsRow_160 sh_149 rfl ok_9 (by decide) w_1017 rfl h59 ?_
        refine xi_iload 2 dX12_readsRow_163 rfl ?_
        refine xi_iadd (v := v58 + c) dX12_readsRow_165 rfl ?_
        obtain ⟨g60, hs⟩ := chk_some hs
        obtain ⟨v61, h62, hs⟩ := rdb_some hs
        refine yi_ialoadV dX12_readsRow_166 sh_153 g60 h62 ?_
        refine xi_bipush (v := 48) dX12_readsRow_167 (by decide) ?_
        refine xi_isub (v := v61 - (48 : Int32)) dX12_readsRow_169 rfl ?_
        obtain ⟨v63, t64, k65, hs⟩ := bnd_some hs
        refine xi_callV (as := [.int w1, .int c, .int (v61 - (48 : Int32))]) (rest := []) dX12_readsRow_170 (KX12_puts G Gb w1 c (v61 - (48 : Int32)) _ _ _ k65) mkX12_puts w_1172 ws_48 w_1170 (mem_get sh_149) rfl rfl rfl rfl (Nat.le_of_ble_eq_true rfl) (Nat.le_of_ble_eq_true rfl) (Nat.le_of_ble_eq_true rfl) (Nat.le_of_ble_eq_true rfl) (Nat.le_of_ble_eq_true rfl) ?_
        intro v M2 hz
        obtain ⟨rfl, rfl⟩ := hz
        show xW _ _ _ _ 173 _ [] (mem t64 Gb) _ _
        refine xi_iinc (v := (c + 1)) (lv' := [(4, .int (c + 1)), (0, .ref 149), (1, .int w1)]) 2 dX12_readsRow_173 rfl rfl (by decide) rfl ?_
        refine xi_goto (tgt := 134) dX12_readsRow_176 (by decide) ?_
        refine xi_sub (lv' := [(0, .ref 149), (1, .int w1), (4, .int (c + 1))]) [1, 2, 0] rfl ?_
        obtain ⟨rfl, rfl⟩ := some_pair hs
        exact ih (c + 1) t64 _ _ h HE
noncomputable def FX12_readsRow (a : Int32) (σ : St) : Option ((Unit) × St) :=
  (bnd (FX12_next  σ) (fun v1 t2 => (rdb t2 149 (8) (fun v4 => (rdb t2 149 (9) (fun v6 => (bnd (FX12_points a t2) (fun v8 t9 => (bnd (if (v4 - v6) = v8 then (some ((1 : Int32), t9)) else (some ((0 : Int32), t9))) (fun v12 t13 => (rdb t13 149 (9) (fun v16 => (bnd (wh (SX12_readsRow_35 a) ((0 : Int32), v12, v16) t13) (fun e40 t41 => (rdb t41 149 (10) (fun v44 => (bnd (if v44 = (2 : Int32) then (if e40 = (0 : Int32) then (bnd (FX12_faults (5 : Int32) t41) (fun v81 t82 => (some ((), t82)))) else (some ((), t41))) else (bnd (FX12_faults (1 : Int32) t41) (fun v84 t85 => (some ((), t85))))) (fun v47 t48 => (bnd (wh (SX12_readsRow_134 a) (0 : Int32) t48) (fun e66 t67 => (bnd (FX12_passes  t67) (fun v70 t71 => (bnd (FX12_isSign (59 : Int32) t71) (fun v73 t74 => (bnd (FX12_must v73 t74) (fun v76 t77 => (some ((), t77))))))))))))))))))))))))))))
set_option maxHeartbeats 4000000 in
set_option maxRecDepth 100000 in
theorem KX12_readsRow (G : xG) (Gb : xMem) (a : Int32) (σ : St) (r0 : Unit) (t0 : St) (hq : FX12_readsRow a σ = some (r0, t0)) : xC G mX12_readsRow 5 0 0 [.ref 149, .int a] (mem σ Gb) (PV r0 t0 Gb) := by
  unfold FX12_readsRow at hq
  refine xC.of (by decide) (Nat.le_of_ble_eq_true rfl) ?_
  show xW _ _ _ _ 0 [(0, .ref 149), (1, .int a)] [] _ 0 0
  refine xi_aload_n 0 dX12_readsRow_0 rfl ?_
  obtain ⟨v1, t2, k3, hq⟩ := bnd_some hq
  refine xi_callV (as := []) (rest := []) dX12_readsRow_1 (KX12_next G Gb  _ _ _ k3) mkX12_next w_1136 ws_40 w_1134 (mem_get sh_149) rfl rfl rfl rfl (Nat.le_of_ble_eq_true rfl) (Nat.le_of_ble_eq_true rfl) (Nat.le_of_ble_eq_true rfl) (Nat.le_of_ble_eq_true rfl) (Nat.le_of_ble_eq_true rfl) ?_
  intro v M2 hz
  obtain ⟨rfl, rfl⟩ := hz
  show xW _ _ _ _ 4 _ [] (mem t2 Gb) _ _
  refine xi_iconst (v := 0) dX12_readsRow_4 (by decide) ?_
  refine xi_istore_n (lv' := [(2, .int 0), (0, .ref 149), (1, .int a)]) dX12_readsRow_5 (by decide) rfl ?_
  refine xi_aload_n 1 dX12_readsRow_6 rfl ?_
  obtain ⟨v4, h5, hq⟩ := rdb_some hq
  refine yi_getV (f := 8) dX12_readsRow_7 sh_149 rfl ok_9 (by decide) w_1016 rfl h5 ?_
  refine xi_aload_n 1 dX12_readsRow_10 rfl ?_
  obtain ⟨v6, h7, hq⟩ := rdb_some hq
  refine yi_getV (f := 9) dX12_readsRow_11 sh_149 rfl ok_9 (by decide) w_1017 rfl h7 ?_
  refine xi_isub (v := v4 - v6) dX12_readsRow_14 rfl ?_
  refine xi_aload_n 1 dX12_readsRow_15 rfl ?_
  refine xi_iload_n 2 dX12_readsRow_16 rfl ?_
  obtain ⟨v8, t9, k10, hq⟩ := bnd_some hq
  refine xi_callV (as := [.int a]) (rest := [.int (v4 - v6)]) dX12_readsRow_17 (KX12_points G Gb a _ _ _ k10) mkX12_points w_1108 ws_36 w_1106 (mem_get sh_149) rfl rfl rfl rfl (Nat.le_of_ble_eq_true rfl) (Nat.le_of_ble_eq_true rfl) (Nat.le_of_ble_eq_true rfl) (Nat.le_of_ble_eq_true rfl) (Nat.le_of_ble_eq_true rfl) ?_
  intro v M2 hz
  obtain ⟨rfl, rfl⟩ := hz
  show xW _ _ _ _ 20 _ [.int v8, .int (v4 - v6)] (mem t9 Gb) _ _
  obtain ⟨v12, t13, m14, hq⟩ := bnd_some hq
  have key15 : xW G mX12_readsRow (xrm 5 0 0) (xQ G (PV r0 t0 Gb) 0 0) 28 [(0, .ref 149), (1, .int a), (2, .int 0)] [.int v12] (mem t13 Gb) 0 0 := by
    refine xi_istore_n (lv' := [(3, .int v12), (0, .ref 149), (1, .int a), (2, .int 0)]) dX12_readsRow_28 (by decide) rfl ?_
    refine xi_aload_n 1 dX12_readsRow_29 rfl ?_
    obtain ⟨v16, h17, hq⟩ := rdb_some hq
    refine yi_getV (f := 9) dX12_readsRow_30 sh_149 rfl ok_9 (by decide) w_1017 rfl h17 ?_
    refine xi_istore (lv' := [(4, .int v16), (3, .int v12), (0, .ref 149), (1, .int a), (2, .int 0)]) dX12_readsRow_33 (by decide) rfl ?_
    refine xi_sub (lv' := [(0, .ref 149), (1, .int a), (2, .int 0), (3, .int v12), (4, .int v16)]) [2, 3, 4, 1, 0] rfl ?_
    obtain ⟨e40, t41, k42, hq⟩ := bnd_some hq
    obtain ⟨n43, k42⟩ := wh_itr k42
    refine SX12_readsRow_35_w G Gb a r0 t0 n43 ((0 : Int32), v12, v16) t13 _ _ k42 ?_
    show xW G mX12_readsRow (xrm 5 0 0) (xQ G (PV r0 t0 Gb) 0 0) 106 [(0, .ref 149), (1, .int a), (3, .int e40)] [] (mem t41 Gb) 0 0
    refine xi_aload_n 0 dX12_readsRow_106 rfl ?_
    obtain ⟨v44, h45, hq⟩ := rdb_some hq
    refine yi_getV (f := 10) dX12_readsRow_107 sh_149 rfl ok_9 (by decide) w_1018 rfl h45 ?_
    refine xi_iconst (v := 2) dX12_readsRow_110 (by decide) ?_
    obtain ⟨v47, t48, m49, hq⟩ := bnd_some hq
    have key50 : xW G mX12_readsRow (xrm 5 0 0) (xQ G (PV r0 t0 Gb) 0 0) 131 [(0, .ref 149), (1, .int a)] [] (mem t48 Gb) 0 0 := by
      refine xi_iconst (v := 0) dX12_readsRow_131 (by decide) ?_
      refine xi_istore (lv' := [(4, .int 0), (0, .ref 149), (1, .int a)]) dX12_readsRow_132 (by decide) rfl ?_
      refine xi_sub (lv' := [(0, .ref 149), (1, .int a), (4, .int 0)]) [1, 2, 0] rfl ?_
      obtain ⟨e66, t67, k68, hq⟩ := bnd_some hq
      obtain ⟨n69, k68⟩ := wh_itr k68
      refine SX12_readsRow_134_w G Gb a r0 t0 n69 (0 : Int32) t48 _ _ k68 ?_
      show xW G mX12_readsRow (xrm 5 0 0) (xQ G (PV r0 t0 Gb) 0 0) 179 [(0, .ref 149)] [] (mem t67 Gb) 0 0
      refine xi_aload_n 0 dX12_readsRow_179 rfl ?_
      obtain ⟨v70, t71, k72, hq⟩ := bnd_some hq
      refine xi_callV (as := []) (rest := []) dX12_readsRow_180 (KX12_passes G Gb  _ _ _ k72) mkX12_passes w_1164 ws_46 w_1162 (mem_get sh_149) rfl rfl rfl rfl (Nat.le_of_ble_eq_true rfl) (Nat.le_of_ble_eq_true rfl) (Nat.le_of_ble_eq_true rfl) (Nat.le_of_ble_eq_true rfl) (Nat.le_of_ble_eq_true rfl) ?_
      intro v M2 hz
      obtain ⟨rfl, rfl⟩ := hz
      show xW _ _ _ _ 183 _ [] (mem t71 Gb) _ _
      refine xi_aload_n 0 dX12_readsRow_183 rfl ?_
      refine xi_aload_n 0 dX12_readsRow_184 rfl ?_
      refine xi_bipush (v := 59) dX12_readsRow_185 (by decide) ?_
      obtain ⟨v73, t74, k75, hq⟩ := bnd_some hq
      refine xi_callV (as := [.int 59]) (rest := [.ref 149]) dX12_readsRow_187 (KX12_isSign G Gb (59 : Int32) _ _ _ k75) mkX12_isSign w_1176 ws_49 w_1174 (mem_get sh_149) rfl rfl rfl rfl (Nat.le_of_ble_eq_true rfl) (Nat.le_of_ble_eq_true rfl) (Nat.le_of_ble_eq_true rfl) (Nat.le_of_ble_eq_true rfl) (Nat.le_of_ble_eq_true rfl) ?_
      intro v M2 hz
      obtain ⟨rfl, rfl⟩ := hz
      show xW _ _ _ _ 190 _ [.int v73, .ref 149] (mem t74 Gb) _ _
      obtain ⟨v76, t77, k78, hq⟩ := bnd_some hq
      refine xi_callV (as := [.int v73]) (rest := []) dX12_readsRow_190 (KX12_must G Gb v73 _ _ _ k78) mkX12_must w_1156 ws_44 w_1154 (mem_get sh_149) rfl rfl rfl rfl (Nat.le_of_ble_eq_true rfl) (Nat.le_of_ble_eq_true rfl) (Nat.le_of_ble_eq_true rfl) (Nat.le_of_ble_eq_true rfl) (Nat.le_of_ble_eq_true rfl) ?_
      intro v M2 hz
      obtain ⟨rfl, rfl⟩ := hz
      show xW _ _ _ _ 193 _ [] (mem t77 Gb) _ _
      have r79 := some_pair hq
      obtain ⟨rfl, rfl⟩ := r79
      exact xi_vret dX12_readsRow_193 rfl (Nat.le_of_ble_eq_true rfl) (Nat.le_of_ble_eq_true rfl) ⟨rfl, rfl⟩
    refine xi_icmp_eq (tgt := 122) dX12_readsRow_111 (by decide) (fun c46 => ?_) (fun c46 => ?_)
    · replace m49 := ite_p c46 m49
      refine xi_iload_n 2 dX12_readsRow_122 rfl ?_
      refine xi_if_ne (tgt := 131) dX12_readsRow_123 (by decide) (fun c80 => ?_) (fun c80 => ?_)
      · replace m49 := ite_n c80 m49
        obtain ⟨rfl, rfl⟩ := some_pair m49
        refine xi_sub (lv' := [(0, .ref 149), (1, .int a)]) [0, 1] rfl ?_
        exact key50
      · replace m49 := ite_p c80 m49
        refine xi_aload_n 0 dX12_readsRow_126 rfl ?_
        refine xi_iconst (v := 5) dX12_readsRow_127 (by decide) ?_
        obtain ⟨v81, t82, k83, m49⟩ := bnd_some m49
        refine xi_callV (as := [.int 5]) (rest := []) dX12_readsRow_128 (KX12_faults G Gb (5 : Int32) _ _ _ k83) mkX12_faults w_1160 ws_45 w_1158 (mem_get sh_149) rfl rfl rfl rfl (Nat.le_of_ble_eq_true rfl) (Nat.le_of_ble_eq_true rfl) (Nat.le_of_ble_eq_true rfl) (Nat.le_of_ble_eq_true rfl) (Nat.le_of_ble_eq_true rfl) ?_
        intro v M2 hz
        obtain ⟨rfl, rfl⟩ := hz
        show xW _ _ _ _ 131 _ [] (mem t82 Gb) _ _
        obtain ⟨rfl, rfl⟩ := some_pair m49
        refine xi_sub (lv' := [(0, .ref 149), (1, .int a)]) [0, 1] rfl ?_
        exact key50
    · replace m49 := ite_n c46 m49
      refine xi_aload_n 0 dX12_readsRow_114 rfl ?_
      refine xi_iconst (v := 1) dX12_readsRow_115 (by decide) ?_
      obtain ⟨v84, t85, k86, m49⟩ := bnd_some m49
      refine xi_callV (as := [.int 1]) (rest := []) dX12_readsRow_116 (KX12_faults G Gb (1 : Int32) _ _ _ k86) mkX12_faults w_1160 ws_45 w_1158 (mem_get sh_149) rfl rfl rfl rfl (Nat.le_of_ble_eq_true rfl) (Nat.le_of_ble_eq_true rfl) (Nat.le_of_ble_eq_true rfl) (Nat.le_of_ble_eq_true rfl) (Nat.le_of_ble_eq_true rfl) ?_
      intro v M2 hz
      obtain ⟨rfl, rfl⟩ := hz
      show xW _ _ _ _ 119 _ [] (mem t85 Gb) _ _
      refine xi_goto (tgt := 131) dX12_readsRow_119 (by decide) ?_
      obtain ⟨rfl, rfl⟩ := some_pair m49
      refine xi_sub (lv' := [(0, .ref 149), (1, .int a)]) [0, 1] rfl ?_
      exact key50
  refine xi_icmp_ne (tgt := 27) dX12_readsRow_20 (by decide) (fun c11 => ?_) (fun c11 => ?_)
  · replace m14 := ite_n c11 m14
    refine xi_iconst (v := 0) dX12_readsRow_27 (by decide) ?_
    obtain ⟨rfl, rfl⟩ := some_pair m14
    refine xi_sub (lv' := [(0, .ref 149), (1, .int a), (2, .int 0)]) [1, 2, 0] rfl ?_
    exact key15
  · replace m14 := ite_p c11 m14
    refine xi_iconst (v := 1) dX12_readsRow_23 (by decide) ?_
    refine xi_goto (tgt := 28) dX12_readsRow_24 (by decide) ?_
    obtain ⟨rfl, rfl⟩ := some_pair m14
    refine xi_sub (lv' := [(0, .ref 149), (1, .int a), (2, .int 0)]) [1, 2, 0] rfl ?_
    exact key15
noncomputable def SX12_readsNet_39 (w1 : Int32) (w2 : Int32) (c : Int32) (σ : St) : Option (((Int32) ⊕ (Unit)) × St) :=
  (if w2 ≤ c then (some (Sum.inr (), σ)) else (bnd (FX12_puts w1 c c σ) (fun v20 t21 => (some (Sum.inl (c + 1), t21)))))
noncomputable def SX12_readsNet_75 (w1 : Int32) (c : Unit) (σ : St) : Option (((Unit) ⊕ (Unit)) × St) :=
  (bnd (FX12_isSign (44 : Int32) σ) (fun v70 t71 => (if v70 = (0 : Int32) then (some (Sum.inr (), t71)) else (bnd (FX12_next  t71) (fun v74 t75 => (bnd (FX12_readsLine w1 t75) (fun v77 t78 => (some (Sum.inl (), t78)))))))))
set_option maxHeartbeats 4000000 in
set_option maxRecDepth 100000 in
theorem SX12_readsNet_39_w (G : xG) (Gb : xMem) (w1 : Int32) (w2 : Int32) (r0 : Unit) (t0 : St) :
    ∀ (k : Nat) (c : Int32) (σ : St) (r : Unit) (σ' : St), itr (SX12_readsNet_39 w1 w2) k c σ = some (r, σ') → (xW G mX12_readsNet (xrm 6 0 0) (xQ G (PV r0 t0 Gb) 0 0) 57 [(0, .ref 149), (1, .int w1)] [] (mem σ' Gb) 0 0) → xW G mX12_readsNet (xrm 6 0 0) (xQ G (PV r0 t0 Gb) 0 0) 39 [(0, .ref 149), (1, .int w1), (2, .int w2), (3, .int c)] [] (mem σ Gb) 0 0 := by
  intro k
  induction k with
  | zero =>
    intro c σ r σ' h
    exact absurd h (itr_zero _ _ _ _)
  | succ k ih =>
    intro c σ r σ' h HE
    obtain ⟨x, s1, hs, h⟩ := itr_succ h
    unfold SX12_readsNet_39 at hs
    refine xi_iload_n 3 dX12_readsNet_39 rfl ?_
    refine xi_iload_n 2 dX12_readsNet_40 rfl ?_
    refine xi_icmp_ge (tgt := 57) dX12_readsNet_41 (by decide) (fun c19 => ?_) (fun c19 => ?_)
    · replace hs := ite_p c19 hs
      refine xi_sub (lv' := [(0, .ref 149), (1, .int w1)]) [0, 1] rfl ?_
      obtain ⟨rfl, rfl⟩ := some_pair hs
      obtain ⟨rfl, rfl⟩ := some_pair h
      exact HE
    · replace hs := ite_n c19 hs
      refine xi_aload_n 0 dX12_readsNet_44 rfl ?_
      refine xi_iload_n 1 dX12_readsNet_45 rfl ?_
      refine xi_iload_n 3 dX12_readsNet_46 rfl ?_
      refine xi_iload_n 3 dX12_readsNet_47 rfl ?_
      obtain ⟨v20, t21, k22, hs⟩ := bnd_some hs
      refine xi_callV (as := [.int w1, .int c, .int c]) (rest := []) dX12_readsNet_48 (KX12_puts G Gb w1 c c _ _ _ k22) mkX12_puts w_1172 ws_48 w_1170 (mem_get sh_149) rfl rfl rfl rfl (Nat.le_of_ble_eq_true rfl) (Nat.le_of_ble_eq_true rfl) (Nat.le_of_ble_eq_true rfl) (Nat.le_of_ble_eq_true rfl) (Nat.le_of_ble_eq_true rfl) ?_
      intro v M2 hz
      obtain ⟨rfl, rfl⟩ := hz
      show xW _ _ _ _ 51 _ [] (mem t21 Gb) _ _
      refine xi_iinc (v := (c + 1)) (lv' := [(3, .int (c + 1)), (0, .ref 149), (1, .int w1), (2, .int w2)]) 3 dX12_readsNet_51 rfl rfl (by decide) rfl ?_
      refine xi_goto (tgt := 39) dX12_readsNet_54 (by decide) ?_
      refine xi_sub (lv' := [(0, .ref 149), (1, .int w1), (2, .int w2), (3, .int (c + 1))]) [1, 2, 3, 0] rfl ?_
      obtain ⟨rfl, rfl⟩ := some_pair hs
      exact ih (c + 1) t21 _ _ h HE
set_option maxHeartbeats 4000000 in
set_option maxRecDepth 100000 in
theorem SX12_readsNet_75_w (G : xG) (Gb : xMem) (w1 : Int32) (r0 : Unit) (t0 : St) :
    ∀ (k : Nat) (c : Unit) (σ : St) (r : Unit) (σ' : St), itr (SX12_readsNet_75 w1) k c σ = some (r, σ') → (xW G mX12_readsNet (xrm 6 0 0) (xQ G (PV r0 t0 Gb) 0 0) 96 [(0, .ref 149), (1, .int w1)] [] (mem σ' Gb) 0 0) → xW G mX12_readsNet (xrm 6 0 0) (xQ G (PV r0 t0 Gb) 0 0) 75 [(0, .ref 149), (1, .int w1)] [] (mem σ Gb) 0 0 := by
  intro k
  induction k with
  | zero =>
    intro c σ r σ' h
    exact absurd h (itr_zero _ _ _ _)
  | succ k ih =>
    intro c σ r σ' h HE
    obtain ⟨x, s1, hs, h⟩ := itr_succ h
    unfold SX12_readsNet_75 at hs
    refine xi_aload_n 0 dX12_readsNet_75 rfl ?_
    refine xi_bipush (v := 44) dX12_readsNet_76 (by decide) ?_
    obtain ⟨v70, t71, k72, hs⟩ := bnd_some hs
    refine xi_callV (as := [.int 44]) (rest := []) dX12_readsNet_78 (KX12_isSign G Gb (44 : Int32) _ _ _ k72) mkX12_isSign w_1176 ws_49 w_1174 (mem_get sh_149) rfl rfl rfl rfl (Nat.le_of_ble_eq_true rfl) (Nat.le_of_ble_eq_true rfl) (Nat.le_of_ble_eq_true rfl) (Nat.le_of_ble_eq_true rfl) (Nat.le_of_ble_eq_true rfl) ?_
    intro v M2 hz
    obtain ⟨rfl, rfl⟩ := hz
    show xW _ _ _ _ 81 _ [.int v70] (mem t71 Gb) _ _
    refine xi_if_eq (tgt := 96) dX12_readsNet_81 (by decide) (fun c73 => ?_) (fun c73 => ?_)
    · replace hs := ite_p c73 hs
      obtain ⟨rfl, rfl⟩ := some_pair hs
      obtain ⟨rfl, rfl⟩ := some_pair h
      exact HE
    · replace hs := ite_n c73 hs
      refine xi_aload_n 0 dX12_readsNet_84 rfl ?_
      obtain ⟨v74, t75, k76, hs⟩ := bnd_some hs
      refine xi_callV (as := []) (rest := []) dX12_readsNet_85 (KX12_next G Gb  _ _ _ k76) mkX12_next w_1136 ws_40 w_1134 (mem_get sh_149) rfl rfl rfl rfl (Nat.le_of_ble_eq_true rfl) (Nat.le_of_ble_eq_true rfl) (Nat.le_of_ble_eq_true rfl) (Nat.le_of_ble_eq_true rfl) (Nat.le_of_ble_eq_true rfl) ?_
      intro v M2 hz
      obtain ⟨rfl, rfl⟩ := hz
      show xW _ _ _ _ 88 _ [] (mem t75 Gb) _ _
      refine xi_aload_n 0 dX12_readsNet_88 rfl ?_
      refine xi_iload_n 1 dX12_readsNet_89 rfl ?_
      obtain ⟨v77, t78, k79, hs⟩ := bnd_some hs
      refine xi_callV (as := [.int w1]) (rest := []) dX12_readsNet_90 (KX12_readsLine G Gb w1 _ _ _ k79) mkX12_readsLine w_1180 ws_50 w_1178 (mem_get sh_149) rfl rfl rfl rfl (Nat.le_of_ble_eq_true rfl) (Nat.le_of_ble_eq_true rfl) (Nat.le_of_ble_eq_true rfl) (Nat.le_of_ble_eq_true rfl) (Nat.le_of_ble_eq_true rfl) ?_
      intro v M2 hz
      obtain ⟨rfl, rfl⟩ := hz
      show xW _ _ _ _ 93 _ [] (mem t78 Gb) _ _
      refine xi_goto (tgt := 75) dX12_readsNet_93 (by decide) ?_
      obtain ⟨rfl, rfl⟩ := some_pair hs
      exact ih () t78 _ _ h HE
noncomputable def FX12_readsNet (a : Int32) (σ : St) : Option ((Unit) × St) :=
  (bnd (FX12_isWord_s4  σ) (fun v1 t2 => (bnd (FX12_must v1 t2) (fun v4 t5 => (bnd (FX12_here (1 : Int32) (9 : Int32) t5) (fun v7 t8 => (bnd (FX12_passes  t8) (fun v10 t11 => (bnd (FX12_empties a t11) (fun v13 t14 => (chk (inb ((91 : Int32) * a) 273) (wrb t14 150 (((91 : Int32) * a).toNatClampNeg) v7 (fun t17 => (bnd (wh (SX12_readsNet_39 a v7) (0 : Int32) t17) (fun e23 t24 => (bnd (FX12_isSign (58 : Int32) t24) (fun v27 t28 => (bnd (if v27 = (0 : Int32) then (some ((), t28)) else (bnd (FX12_next  t28) (fun v64 t65 => (bnd (FX12_readsLine a t65) (fun v67 t68 => (bnd (wh (SX12_readsNet_75 a) () t68) (fun e80 t81 => (some ((), t81))))))))) (fun v31 t32 => (bnd (FX12_isSign (59 : Int32) t32) (fun v35 t36 => (bnd (FX12_must v35 t36) (fun v38 t39 => (bnd (FX12_isWord_s5  t39) (fun v41 t42 => (bnd (if v41 = (0 : Int32) then (some ((), t42)) else (bnd (FX12_readsRow a t42) (fun v61 t62 => (some ((), t62))))) (fun v45 t46 => (rdb t46 149 (12) (fun v49 => (if v49 = (0 : Int32) then (rdb t46 149 (10) (fun v53 => (if v53 = (0 : Int32) then (some ((), t46)) else (bnd (FX12_faults (1 : Int32) t46) (fun v57 t58 => (some ((), t58))))))) else (some ((), t46))))))))))))))))))))))))))))))))
set_option maxHeartbeats 4000000 in
set_option maxRecDepth 100000 in
theorem KX12_readsNet (G : xG) (Gb : xMem) (a : Int32) (σ : St) (r0 : Unit) (t0 : St) (hq : FX12_readsNet a σ = some (r0, t0)) : xC G mX12_readsNet 6 0 0 [.ref 149, .int a] (mem σ Gb) (PV r0 t0 Gb) := by
  unfold FX12_readsNet at hq
  refine xC.of (by decide) (Nat.le_of_ble_eq_true rfl) ?_
  show xW _ _ _ _ 0 [(0, .ref 149), (1, .int a)] [] _ 0 0
  refine xi_aload_n 0 dX12_readsNet_0 rfl ?_
  refine xi_aload_n 0 dX12_readsNet_1 rfl ?_
  refine xi_ldcS (w := 4) dX12_readsNet_2 st_4 rfl ?_
  obtain ⟨v1, t2, k3, hq⟩ := bnd_some hq
  refine xi_callV (as := [.float 4]) (rest := [.ref 149]) dX12_readsNet_4 (KX12_isWord_s4 G Gb  _ _ _ k3) mkX12_isWord w_1150 ws_43 w_1148 (mem_get sh_149) rfl rfl rfl rfl (Nat.le_of_ble_eq_true rfl) (Nat.le_of_ble_eq_true rfl) (Nat.le_of_ble_eq_true rfl) (Nat.le_of_ble_eq_true rfl) (Nat.le_of_ble_eq_true rfl) ?_
  intro v M2 hz
  obtain ⟨rfl, rfl⟩ := hz
  show xW _ _ _ _ 7 _ [.int v1, .ref 149] (mem t2 Gb) _ _
  obtain ⟨v4, t5, k6, hq⟩ := bnd_some hq
  refine xi_callV (as := [.int v1]) (rest := []) dX12_readsNet_7 (KX12_must G Gb v1 _ _ _ k6) mkX12_must w_1156 ws_44 w_1154 (mem_get sh_149) rfl rfl rfl rfl (Nat.le_of_ble_eq_true rfl) (Nat.le_of_ble_eq_true rfl) (Nat.le_of_ble_eq_true rfl) (Nat.le_of_ble_eq_true rfl) (Nat.le_of_ble_eq_true rfl) ?_
  intro v M2 hz
  obtain ⟨rfl, rfl⟩ := hz
  show xW _ _ _ _ 10 _ [] (mem t5 Gb) _ _
  refine xi_aload_n 0 dX12_readsNet_10 rfl ?_
  refine xi_iconst (v := 1) dX12_readsNet_11 (by decide) ?_
  refine xi_bipush (v := 9) dX12_readsNet_12 (by decide) ?_
  obtain ⟨v7, t8, k9, hq⟩ := bnd_some hq
  refine xi_callV (as := [.int 1, .int 9]) (rest := []) dX12_readsNet_14 (KX12_here G Gb (1 : Int32) (9 : Int32) _ _ _ k9) mkX12_here w_1168 ws_47 w_1166 (mem_get sh_149) rfl rfl rfl rfl (Nat.le_of_ble_eq_true rfl) (Nat.le_of_ble_eq_true rfl) (Nat.le_of_ble_eq_true rfl) (Nat.le_of_ble_eq_true rfl) (Nat.le_of_ble_eq_true rfl) ?_
  intro v M2 hz
  obtain ⟨rfl, rfl⟩ := hz
  show xW _ _ _ _ 17 _ [.int v7] (mem t8 Gb) _ _
  refine xi_istore_n (lv' := [(2, .int v7), (0, .ref 149), (1, .int a)]) dX12_readsNet_17 (by decide) rfl ?_
  refine xi_aload_n 1 dX12_readsNet_18 rfl ?_
  obtain ⟨v10, t11, k12, hq⟩ := bnd_some hq
  refine xi_callV (as := []) (rest := []) dX12_readsNet_19 (KX12_passes G Gb  _ _ _ k12) mkX12_passes w_1164 ws_46 w_1162 (mem_get sh_149) rfl rfl rfl rfl (Nat.le_of_ble_eq_true rfl) (Nat.le_of_ble_eq_true rfl) (Nat.le_of_ble_eq_true rfl) (Nat.le_of_ble_eq_true rfl) (Nat.le_of_ble_eq_true rfl) ?_
  intro v M2 hz
  obtain ⟨rfl, rfl⟩ := hz
  show xW _ _ _ _ 22 _ [] (mem t11 Gb) _ _
  refine xi_aload_n 1 dX12_readsNet_22 rfl ?_
  refine xi_iload_n 2 dX12_readsNet_23 rfl ?_
  obtain ⟨v13, t14, k15, hq⟩ := bnd_some hq
  refine xi_callV (as := [.int a]) (rest := []) dX12_readsNet_24 (KX12_empties G Gb a _ _ _ k15) mkX12_empties w_1116 ws_38 w_1114 (mem_get sh_149) rfl rfl rfl rfl (Nat.le_of_ble_eq_true rfl) (Nat.le_of_ble_eq_true rfl) (Nat.le_of_ble_eq_true rfl) (Nat.le_of_ble_eq_true rfl) (Nat.le_of_ble_eq_true rfl) ?_
  intro v M2 hz
  obtain ⟨rfl, rfl⟩ := hz
  show xW _ _ _ _ 27 _ [] (mem t14 Gb) _ _
  refine xi_aload_n 1 dX12_readsNet_27 rfl ?_
  refine yi_getR (f := 0) dX12_readsNet_28 sh_149 rfl ok_9 (by decide) w_1008 rfl ?_
  refine xi_bipush (v := 91) dX12_readsNet_31 (by decide) ?_
  refine xi_iload_n 2 dX12_readsNet_33 rfl ?_
  refine xi_imul (v := (91 : Int32) * a) dX12_readsNet_34 rfl ?_
  refine xi_iload_n 0 dX12_readsNet_35 rfl ?_
  obtain ⟨g16, hq⟩ := chk_some hq
  obtain ⟨t17, h18, hq⟩ := wrb_some hq
  refine yi_iastoreV dX12_readsNet_36 sh_150 g16 h18 ?_
  refine xi_iconst (v := 0) dX12_readsNet_37 (by decide) ?_
  refine xi_istore_n (lv' := [(3, .int 0), (2, .int v7), (0, .ref 149), (1, .int a)]) dX12_readsNet_38 (by decide) rfl ?_
  refine xi_sub (lv' := [(0, .ref 149), (1, .int a), (2, .int v7), (3, .int 0)]) [2, 3, 1, 0] rfl ?_
  obtain ⟨e23, t24, k25, hq⟩ := bnd_some hq
  obtain ⟨n26, k25⟩ := wh_itr k25
  refine SX12_readsNet_39_w G Gb a v7 r0 t0 n26 (0 : Int32) t17 _ _ k25 ?_
  show xW G mX12_readsNet (xrm 6 0 0) (xQ G (PV r0 t0 Gb) 0 0) 57 [(0, .ref 149), (1, .int a)] [] (mem t24 Gb) 0 0
  refine xi_aload_n 0 dX12_readsNet_57 rfl ?_
  refine xi_bipush (v := 58) dX12_readsNet_58 (by decide) ?_
  obtain ⟨v27, t28, k29, hq⟩ := bnd_some hq
  refine xi_callV (as := [.int 58]) (rest := []) dX12_readsNet_60 (KX12_isSign G Gb (58 : Int32) _ _ _ k29) mkX12_isSign w_1176 ws_49 w_1174 (mem_get sh_149) rfl rfl rfl rfl (Nat.le_of_ble_eq_true rfl) (Nat.le_of_ble_eq_true rfl) (Nat.le_of_ble_eq_true rfl) (Nat.le_of_ble_eq_true rfl) (Nat.le_of_ble_eq_true rfl) ?_
  intro v M2 hz
  obtain ⟨rfl, rfl⟩ := hz
  show xW _ _ _ _ 63 _ [.int v27] (mem t28 Gb) _ _
  obtain ⟨v31, t32, m33, hq⟩ := bnd_some hq
  have key34 : xW G mX12_readsNet (xrm 6 0 0) (xQ G (PV r0 t0 Gb) 0 0) 96 [(0, .ref 149), (1, .int a)] [] (mem t32 Gb) 0 0 := by
    refine xi_aload_n 0 dX12_readsNet_96 rfl ?_
    refine xi_aload_n 0 dX12_readsNet_97 rfl ?_
    refine xi_bipush (v := 59) dX12_readsNet_98 (by decide) ?_
    obtain ⟨v35, t36, k37, hq⟩ := bnd_some hq
    refine xi_callV (as := [.int 59]) (rest := [.ref 149]) dX12_readsNet_100 (KX12_isSign G Gb (59 : Int32) _ _ _ k37) mkX12_isSign w_1176 ws_49 w_1174 (mem_get sh_149) rfl rfl rfl rfl (Nat.le_of_ble_eq_true rfl) (Nat.le_of_ble_eq_true rfl) (Nat.le_of_ble_eq_true rfl) (Nat.le_of_ble_eq_true rfl) (Nat.le_of_ble_eq_true rfl) ?_
    intro v M2 hz
    obtain ⟨rfl, rfl⟩ := hz
    show xW _ _ _ _ 103 _ [.int v35, .ref 149] (mem t36 Gb) _ _
    obtain ⟨v38, t39, k40, hq⟩ := bnd_some hq
    refine xi_callV (as := [.int v35]) (rest := []) dX12_readsNet_103 (KX12_must G Gb v35 _ _ _ k40) mkX12_must w_1156 ws_44 w_1154 (mem_get sh_149) rfl rfl rfl rfl (Nat.le_of_ble_eq_true rfl) (Nat.le_of_ble_eq_true rfl) (Nat.le_of_ble_eq_true rfl) (Nat.le_of_ble_eq_true rfl) (Nat.le_of_ble_eq_true rfl) ?_
    intro v M2 hz
    obtain ⟨rfl, rfl⟩ := hz
    show xW _ _ _ _ 106 _ [] (mem t39 Gb) _ _
    refine xi_aload_n 0 dX12_readsNet_106 rfl ?_
    refine xi_ldcS (w := 5) dX12_readsNet_107 st_5 rfl ?_
    obtain ⟨v41, t42, k43, hq⟩ := bnd_some hq
    refine xi_callV (as := [.float 5]) (rest := []) dX12_readsNet_109 (KX12_isWord_s5 G Gb  _ _ _ k43) mkX12_isWord w_1150 ws_43 w_1148 (mem_get sh_149) rfl rfl rfl rfl (Nat.le_of_ble_eq_true rfl) (Nat.le_of_ble_eq_true rfl) (Nat.le_of_ble_eq_true rfl) (Nat.le_of_ble_eq_true rfl) (Nat.le_of_ble_eq_true rfl) ?_
    intro v M2 hz
    obtain ⟨rfl, rfl⟩ := hz
    show xW _ _ _ _ 112 _ [.int v41] (mem t42 Gb) _ _
    obtain ⟨v45, t46, m47, hq⟩ := bnd_some hq
    have key48 : xW G mX12_readsNet (xrm 6 0 0) (xQ G (PV r0 t0 Gb) 0 0) 120 [(0, .ref 149)] [] (mem t46 Gb) 0 0 := by
      refine xi_aload_n 0 dX12_readsNet_120 rfl ?_
      obtain ⟨v49, h50, hq⟩ := rdb_some hq
      refine yi_getV (f := 12) dX12_readsNet_121 sh_149 rfl ok_9 (by decide) w_1020 rfl h50 ?_
      refine xi_if_ne (tgt := 139) dX12_readsNet_124 (by decide) (fun c51 => ?_) (fun c51 => ?_)
      · replace hq := ite_n c51 hq
        have r52 := some_pair hq
        obtain ⟨rfl, rfl⟩ := r52
        exact xi_vret dX12_readsNet_139 rfl (Nat.le_of_ble_eq_true rfl) (Nat.le_of_ble_eq_true rfl) ⟨rfl, rfl⟩
      · replace hq := ite_p c51 hq
        refine xi_aload_n 0 dX12_readsNet_127 rfl ?_
        obtain ⟨v53, h54, hq⟩ := rdb_some hq
        refine yi_getV (f := 10) dX12_readsNet_128 sh_149 rfl ok_9 (by decide) w_1018 rfl h54 ?_
        refine xi_if_eq (tgt := 139) dX12_readsNet_131 (by decide) (fun c55 => ?_) (fun c55 => ?_)
        · replace hq := ite_p c55 hq
          have r56 := some_pair hq
          obtain ⟨rfl, rfl⟩ := r56
          exact xi_vret dX12_readsNet_139 rfl (Nat.le_of_ble_eq_true rfl) (Nat.le_of_ble_eq_true rfl) ⟨rfl, rfl⟩
        · replace hq := ite_n c55 hq
          refine xi_aload_n 0 dX12_readsNet_134 rfl ?_
          refine xi_iconst (v := 1) dX12_readsNet_135 (by decide) ?_
          obtain ⟨v57, t58, k59, hq⟩ := bnd_some hq
          refine xi_callV (as := [.int 1]) (rest := []) dX12_readsNet_136 (KX12_faults G Gb (1 : Int32) _ _ _ k59) mkX12_faults w_1160 ws_45 w_1158 (mem_get sh_149) rfl rfl rfl rfl (Nat.le_of_ble_eq_true rfl) (Nat.le_of_ble_eq_true rfl) (Nat.le_of_ble_eq_true rfl) (Nat.le_of_ble_eq_true rfl) (Nat.le_of_ble_eq_true rfl) ?_
          intro v M2 hz
          obtain ⟨rfl, rfl⟩ := hz
          show xW _ _ _ _ 139 _ [] (mem t58 Gb) _ _
          have r60 := some_pair hq
          obtain ⟨rfl, rfl⟩ := r60
          exact xi_vret dX12_readsNet_139 rfl (Nat.le_of_ble_eq_true rfl) (Nat.le_of_ble_eq_true rfl) ⟨rfl, rfl⟩
    refine xi_if_eq (tgt := 120) dX12_readsNet_112 (by decide) (fun c44 => ?_) (fun c44 => ?_)
    · replace m47 := ite_p c44 m47
      obtain ⟨rfl, rfl⟩ := some_pair m47
      refine xi_sub (lv' := [(0, .ref 149)]) [0] rfl ?_
      exact key48
    · replace m47 := ite_n c44 m47
      refine xi_aload_n 0 dX12_readsNet_115 rfl ?_
      refine xi_iload_n 1 dX12_readsNet_116 rfl ?_
      obtain ⟨v61, t62, k63, m47⟩ := bnd_some m47
      refine xi_callV (as := [.int a]) (rest := []) dX12_readsNet_117 (KX12_readsRow G Gb a _ _ _ k63) mkX12_readsRow w_1204 ws_55 w_1202 (mem_get sh_149) rfl rfl rfl rfl (Nat.le_of_ble_eq_true rfl) (Nat.le_of_ble_eq_true rfl) (Nat.le_of_ble_eq_true rfl) (Nat.le_of_ble_eq_true rfl) (Nat.le_of_ble_eq_true rfl) ?_
      intro v M2 hz
      obtain ⟨rfl, rfl⟩ := hz
      show xW _ _ _ _ 120 _ [] (mem t62 Gb) _ _
      obtain ⟨rfl, rfl⟩ := some_pair m47
      refine xi_sub (lv' := [(0, .ref 149)]) [0] rfl ?_
      exact key48
  refine xi_if_eq (tgt := 96) dX12_readsNet_63 (by decide) (fun c30 => ?_) (fun c30 => ?_)
  · replace m33 := ite_p c30 m33
    obtain ⟨rfl, rfl⟩ := some_pair m33
    exact key34
  · replace m33 := ite_n c30 m33
    refine xi_aload_n 0 dX12_readsNet_66 rfl ?_
    obtain ⟨v64, t65, k66, m33⟩ := bnd_some m33
    refine xi_callV (as := []) (rest := []) dX12_readsNet_67 (KX12_next G Gb  _ _ _ k66) mkX12_next w_1136 ws_40 w_1134 (mem_get sh_149) rfl rfl rfl rfl (Nat.le_of_ble_eq_true rfl) (Nat.le_of_ble_eq_true rfl) (Nat.le_of_ble_eq_true rfl) (Nat.le_of_ble_eq_true rfl) (Nat.le_of_ble_eq_true rfl) ?_
    intro v M2 hz
    obtain ⟨rfl, rfl⟩ := hz
    show xW _ _ _ _ 70 _ [] (mem t65 Gb) _ _
    refine xi_aload_n 0 dX12_readsNet_70 rfl ?_
    refine xi_iload_n 1 dX12_readsNet_71 rfl ?_
    obtain ⟨v67, t68, k69, m33⟩ := bnd_some m33
    refine xi_callV (as := [.int a]) (rest := []) dX12_readsNet_72 (KX12_readsLine G Gb a _ _ _ k69) mkX12_readsLine w_1180 ws_50 w_1178 (mem_get sh_149) rfl rfl rfl rfl (Nat.le_of_ble_eq_true rfl) (Nat.le_of_ble_eq_true rfl) (Nat.le_of_ble_eq_true rfl) (Nat.le_of_ble_eq_true rfl) (Nat.le_of_ble_eq_true rfl) ?_
    intro v M2 hz
    obtain ⟨rfl, rfl⟩ := hz
    show xW _ _ _ _ 75 _ [] (mem t68 Gb) _ _
    obtain ⟨e80, t81, k82, m33⟩ := bnd_some m33
    obtain ⟨n83, k82⟩ := wh_itr k82
    refine SX12_readsNet_75_w G Gb a r0 t0 n83 () t68 _ _ k82 ?_
    show xW G mX12_readsNet (xrm 6 0 0) (xQ G (PV r0 t0 Gb) 0 0) 96 [(0, .ref 149), (1, .int a)] [] (mem t81 Gb) 0 0
    obtain ⟨rfl, rfl⟩ := some_pair m33
    exact key34
noncomputable def SX12_reverse_18 (w1 : Int32) (c : Int32) (σ : St) : Option (((Int32) ⊕ (Unit)) × St) :=
  (bnd (FX12_points w1 σ) (fun v8 t9 => (if ((v8 - (1 : Int32)) - c) ≤ c then (some (Sum.inr (), t9)) else (bnd (FX12_points w1 t9) (fun v12 t13 => (bnd (FX12_exchanges c ((v12 - (1 : Int32)) - c) t13) (fun v15 t16 => (some (Sum.inl (c + 1), t16)))))))))
set_option maxHeartbeats 4000000 in
set_option maxRecDepth 100000 in
theorem SX12_reverse_18_w (G : xG) (Gb : xMem) (w1 : Int32) (r0 : Int32) (t0 : St) :
    ∀ (k : Nat) (c : Int32) (σ : St) (r : Unit) (σ' : St), itr (SX12_reverse_18 w1) k c σ = some (r, σ') → (xW G mX12_reverse (xrm 3 0 0) (xQ G (PQ r0 t0 Gb) 0 0) 51 [(0, .ref 149), (1, .int w1)] [] (mem σ' Gb) 0 0) → xW G mX12_reverse (xrm 3 0 0) (xQ G (PQ r0 t0 Gb) 0 0) 18 [(0, .ref 149), (1, .int w1), (2, .int c)] [] (mem σ Gb) 0 0 := by
  intro k
  induction k with
  | zero =>
    intro c σ r σ' h
    exact absurd h (itr_zero _ _ _ _)
  | succ k ih =>
    intro c σ r σ' h HE
    obtain ⟨x, s1, hs, h⟩ := itr_succ h
    unfold SX12_reverse_18 at hs
    refine xi_iload_n 2 dX12_reverse_18 rfl ?_
    refine xi_aload_n 0 dX12_reverse_19 rfl ?_
    refine xi_iload_n 1 dX12_reverse_20 rfl ?_
    obtain ⟨v8, t9, k10, hs⟩ := bnd_some hs
    refine xi_callV (as := [.int w1]) (rest := [.int c]) dX12_reverse_21 (KX12_points G Gb w1 _ _ _ k10) mkX12_points w_1108 ws_36 w_1106 (mem_get sh_149) rfl rfl rfl rfl (Nat.le_of_ble_eq_true rfl) (Nat.le_of_ble_eq_true rfl) (Nat.le_of_ble_eq_true rfl) (Nat.le_of_ble_eq_true rfl) (Nat.le_of_ble_eq_true rfl) ?_
    intro v M2 hz
    obtain ⟨rfl, rfl⟩ := hz
    show xW _ _ _ _ 24 _ [.int v8, .int c] (mem t9 Gb) _ _
    refine xi_iconst (v := 1) dX12_reverse_24 (by decide) ?_
    refine xi_isub (v := v8 - (1 : Int32)) dX12_reverse_25 rfl ?_
    refine xi_iload_n 2 dX12_reverse_26 rfl ?_
    refine xi_isub (v := (v8 - (1 : Int32)) - c) dX12_reverse_27 rfl ?_
    refine xi_icmp_ge (tgt := 51) dX12_reverse_28 (by decide) (fun c11 => ?_) (fun c11 => ?_)
    · replace hs := ite_p c11 hs
      refine xi_sub (lv' := [(0, .ref 149), (1, .int w1)]) [0, 1] rfl ?_
      obtain ⟨rfl, rfl⟩ := some_pair hs
      obtain ⟨rfl, rfl⟩ := some_pair h
      exact HE
    · replace hs := ite_n c11 hs
      refine xi_aload_n 0 dX12_reverse_31 rfl ?_
      refine xi_iload_n 2 dX12_reverse_32 rfl ?_
      refine xi_aload_n 0 dX12_reverse_33 rfl ?_
      refine xi_iload_n 1 dX12_reverse_34 rfl ?_
      obtain ⟨v12, t13, k14, hs⟩ := bnd_some hs
      refine xi_callV (as := [.int w1]) (rest := [.int c, .ref 149]) dX12_reverse_35 (KX12_points G Gb w1 _ _ _ k14) mkX12_points w_1108 ws_36 w_1106 (mem_get sh_149) rfl rfl rfl rfl (Nat.le_of_ble_eq_true rfl) (Nat.le_of_ble_eq_true rfl) (Nat.le_of_ble_eq_true rfl) (Nat.le_of_ble_eq_true rfl) (Nat.le_of_ble_eq_true rfl) ?_
      intro v M2 hz
      obtain ⟨rfl, rfl⟩ := hz
      show xW _ _ _ _ 38 _ [.int v12, .int c, .ref 149] (mem t13 Gb) _ _
      refine xi_iconst (v := 1) dX12_reverse_38 (by decide) ?_
      refine xi_isub (v := v12 - (1 : Int32)) dX12_reverse_39 rfl ?_
      refine xi_iload_n 2 dX12_reverse_40 rfl ?_
      refine xi_isub (v := (v12 - (1 : Int32)) - c) dX12_reverse_41 rfl ?_
      obtain ⟨v15, t16, k17, hs⟩ := bnd_some hs
      refine xi_callV (as := [.int c, .int ((v12 - (1 : Int32)) - c)]) (rest := []) dX12_reverse_42 (KX12_exchanges G Gb c ((v12 - (1 : Int32)) - c) _ _ _ k17) mkX12_exchanges w_1452 ws_87 w_1450 (mem_get sh_149) rfl rfl rfl rfl (Nat.le_of_ble_eq_true rfl) (Nat.le_of_ble_eq_true rfl) (Nat.le_of_ble_eq_true rfl) (Nat.le_of_ble_eq_true rfl) (Nat.le_of_ble_eq_true rfl) ?_
      intro v M2 hz
      obtain ⟨rfl, rfl⟩ := hz
      show xW _ _ _ _ 45 _ [] (mem t16 Gb) _ _
      refine xi_iinc (v := (c + 1)) (lv' := [(2, .int (c + 1)), (0, .ref 149), (1, .int w1)]) 2 dX12_reverse_45 rfl rfl (by decide) rfl ?_
      refine xi_goto (tgt := 18) dX12_reverse_48 (by decide) ?_
      refine xi_sub (lv' := [(0, .ref 149), (1, .int w1), (2, .int (c + 1))]) [1, 2, 0] rfl ?_
      obtain ⟨rfl, rfl⟩ := some_pair hs
      exact ih (c + 1) t16 _ _ h HE
noncomputable def FX12_reverse (a : Int32) (σ : St) : Option ((Int32) × St) :=
  (bnd (FX12_isNet a σ) (fun v1 t2 => (if v1 = (0 : Int32) then (some ((-2 : Int32), t2)) else (bnd (FX12_laysRow a t2) (fun v5 t6 => (bnd (wh (SX12_reverse_18 a) (0 : Int32) t6) (fun e18 t19 => (bnd (FX12_takesRow a t19) (fun v22 t23 => (bnd (FX12_at a (0 : Int32) t23) (fun v25 t26 => (some (v25, t26)))))))))))))
set_option maxHeartbeats 4000000 in
set_option maxRecDepth 100000 in
theorem KX12_reverse (G : xG) (Gb : xMem) (a : Int32) (σ : St) (r0 : Int32) (t0 : St) (hq : FX12_reverse a σ = some (r0, t0)) : xC G mX12_reverse 3 0 0 [.ref 149, .int a] (mem σ Gb) (PQ r0 t0 Gb) := by
  unfold FX12_reverse at hq
  refine xC.of (by decide) (Nat.le_of_ble_eq_true rfl) ?_
  show xW _ _ _ _ 0 [(0, .ref 149), (1, .int a)] [] _ 0 0
  refine xi_aload_n 0 dX12_reverse_0 rfl ?_
  refine xi_iload_n 1 dX12_reverse_1 rfl ?_
  obtain ⟨v1, t2, k3, hq⟩ := bnd_some hq
  refine xi_callV (as := [.int a]) (rest := []) dX12_reverse_2 (KX12_isNet G Gb a _ _ _ k3) mkX12_isNet w_1104 ws_35 w_1102 (mem_get sh_149) rfl rfl rfl rfl (Nat.le_of_ble_eq_true rfl) (Nat.le_of_ble_eq_true rfl) (Nat.le_of_ble_eq_true rfl) (Nat.le_of_ble_eq_true rfl) (Nat.le_of_ble_eq_true rfl) ?_
  intro v M2 hz
  obtain ⟨rfl, rfl⟩ := hz
  show xW _ _ _ _ 5 _ [.int v1] (mem t2 Gb) _ _
  refine xi_if_ne (tgt := 11) dX12_reverse_5 (by decide) (fun c4 => ?_) (fun c4 => ?_)
  · replace hq := ite_n c4 hq
    refine xi_aload_n 0 dX12_reverse_11 rfl ?_
    refine xi_iload_n 1 dX12_reverse_12 rfl ?_
    obtain ⟨v5, t6, k7, hq⟩ := bnd_some hq
    refine xi_callV (as := [.int a]) (rest := []) dX12_reverse_13 (KX12_laysRow G Gb a _ _ _ k7) mkX12_laysRow w_1292 ws_66 w_1290 (mem_get sh_149) rfl rfl rfl rfl (Nat.le_of_ble_eq_true rfl) (Nat.le_of_ble_eq_true rfl) (Nat.le_of_ble_eq_true rfl) (Nat.le_of_ble_eq_true rfl) (Nat.le_of_ble_eq_true rfl) ?_
    intro v M2 hz
    obtain ⟨rfl, rfl⟩ := hz
    show xW _ _ _ _ 16 _ [] (mem t6 Gb) _ _
    refine xi_iconst (v := 0) dX12_reverse_16 (by decide) ?_
    refine xi_istore_n (lv' := [(2, .int 0), (0, .ref 149), (1, .int a)]) dX12_reverse_17 (by decide) rfl ?_
    refine xi_sub (lv' := [(0, .ref 149), (1, .int a), (2, .int 0)]) [1, 2, 0] rfl ?_
    obtain ⟨e18, t19, k20, hq⟩ := bnd_some hq
    obtain ⟨n21, k20⟩ := wh_itr k20
    refine SX12_reverse_18_w G Gb a r0 t0 n21 (0 : Int32) t6 _ _ k20 ?_
    show xW G mX12_reverse (xrm 3 0 0) (xQ G (PQ r0 t0 Gb) 0 0) 51 [(0, .ref 149), (1, .int a)] [] (mem t19 Gb) 0 0
    refine xi_aload_n 0 dX12_reverse_51 rfl ?_
    refine xi_iload_n 1 dX12_reverse_52 rfl ?_
    obtain ⟨v22, t23, k24, hq⟩ := bnd_some hq
    refine xi_callV (as := [.int a]) (rest := []) dX12_reverse_53 (KX12_takesRow G Gb a _ _ _ k24) mkX12_takesRow w_1460 ws_88 w_1458 (mem_get sh_149) rfl rfl rfl rfl (Nat.le_of_ble_eq_true rfl) (Nat.le_of_ble_eq_true rfl) (Nat.le_of_ble_eq_true rfl) (Nat.le_of_ble_eq_true rfl) (Nat.le_of_ble_eq_true rfl) ?_
    intro v M2 hz
    obtain ⟨rfl, rfl⟩ := hz
    show xW _ _ _ _ 56 _ [.int v22] (mem t23 Gb) _ _
    refine xi_istore_n (lv' := [(2, .int v22), (0, .ref 149), (1, .int a)]) dX12_reverse_56 (by decide) rfl ?_
    refine xi_aload_n 1 dX12_reverse_57 rfl ?_
    refine xi_iload_n 2 dX12_reverse_58 rfl ?_
    refine xi_iconst (v := 0) dX12_reverse_59 (by decide) ?_
    obtain ⟨v25, t26, k27, hq⟩ := bnd_some hq
    refine xi_callV (as := [.int a, .int 0]) (rest := []) dX12_reverse_60 (KX12_at G Gb a (0 : Int32) _ _ _ k27) mkX12_at w_1273 ws_64 w_1271 (mem_get sh_149) rfl rfl rfl rfl (Nat.le_of_ble_eq_true rfl) (Nat.le_of_ble_eq_true rfl) (Nat.le_of_ble_eq_true rfl) (Nat.le_of_ble_eq_true rfl) (Nat.le_of_ble_eq_true rfl) ?_
    intro v M2 hz
    obtain ⟨rfl, rfl⟩ := hz
    show xW _ _ _ _ 63 _ [.int v25] (mem t26 Gb) _ _
    have r28 := some_pair hq
    obtain ⟨rfl, rfl⟩ := r28
    exact xi_iret dX12_reverse_63 rfl rfl (Nat.le_of_ble_eq_true rfl) (Nat.le_of_ble_eq_true rfl) ⟨rfl, rfl⟩
  · replace hq := ite_p c4 hq
    refine xi_bipush (v := (-2)) dX12_reverse_8 (by decide) ?_
    have r29 := some_pair hq
    obtain ⟨rfl, rfl⟩ := r29
    exact xi_iret dX12_reverse_10 rfl rfl (Nat.le_of_ble_eq_true rfl) (Nat.le_of_ble_eq_true rfl) ⟨rfl, rfl⟩
noncomputable def FX12_row (a : Int32) (b : Int32) (σ : St) : Option ((Int32) × St) :=
  (bnd (FX12_isPoint a b σ) (fun v1 t2 => (if v1 = (0 : Int32) then (some ((-2 : Int32), t2)) else (bnd (FX12_at a b t2) (fun v6 t7 => (some (v6, t7)))))))
set_option maxHeartbeats 4000000 in
set_option maxRecDepth 100000 in
theorem KX12_row (G : xG) (Gb : xMem) (a : Int32) (b : Int32) (σ : St) (r0 : Int32) (t0 : St) (hq : FX12_row a b σ = some (r0, t0)) : xC G mX12_row 4 0 0 [.ref 149, .int a, .int b] (mem σ Gb) (PQ r0 t0 Gb) := by
  unfold FX12_row at hq
  refine xC.of (by decide) (Nat.le_of_ble_eq_true rfl) ?_
  show xW _ _ _ _ 0 [(0, .ref 149), (1, .int a), (2, .int b)] [] _ 0 0
  refine xi_aload_n 0 dX12_row_0 rfl ?_
  refine xi_iload_n 1 dX12_row_1 rfl ?_
  refine xi_iload_n 2 dX12_row_2 rfl ?_
  obtain ⟨v1, t2, k3, hq⟩ := bnd_some hq
  refine xi_callV (as := [.int a, .int b]) (rest := []) dX12_row_3 (KX12_isPoint G Gb a b _ _ _ k3) mkX12_isPoint w_1257 ws_63 w_1255 (mem_get sh_149) rfl rfl rfl rfl (Nat.le_of_ble_eq_true rfl) (Nat.le_of_ble_eq_true rfl) (Nat.le_of_ble_eq_true rfl) (Nat.le_of_ble_eq_true rfl) (Nat.le_of_ble_eq_true rfl) ?_
  intro v M2 hz
  obtain ⟨rfl, rfl⟩ := hz
  show xW _ _ _ _ 6 _ [.int v1] (mem t2 Gb) _ _
  refine xi_if_eq (tgt := 18) dX12_row_6 (by decide) (fun c4 => ?_) (fun c4 => ?_)
  · replace hq := ite_p c4 hq
    refine xi_bipush (v := (-2)) dX12_row_18 (by decide) ?_
    have r5 := some_pair hq
    obtain ⟨rfl, rfl⟩ := r5
    exact xi_iret dX12_row_20 rfl rfl (Nat.le_of_ble_eq_true rfl) (Nat.le_of_ble_eq_true rfl) ⟨rfl, rfl⟩
  · replace hq := ite_n c4 hq
    refine xi_aload_n 0 dX12_row_9 rfl ?_
    refine xi_iload_n 1 dX12_row_10 rfl ?_
    refine xi_iload_n 2 dX12_row_11 rfl ?_
    obtain ⟨v6, t7, k8, hq⟩ := bnd_some hq
    refine xi_callV (as := [.int a, .int b]) (rest := []) dX12_row_12 (KX12_at G Gb a b _ _ _ k8) mkX12_at w_1273 ws_64 w_1271 (mem_get sh_149) rfl rfl rfl rfl (Nat.le_of_ble_eq_true rfl) (Nat.le_of_ble_eq_true rfl) (Nat.le_of_ble_eq_true rfl) (Nat.le_of_ble_eq_true rfl) (Nat.le_of_ble_eq_true rfl) ?_
    intro v M2 hz
    obtain ⟨rfl, rfl⟩ := hz
    show xW _ _ _ _ 15 _ [.int v6] (mem t7 Gb) _ _
    refine xi_goto (tgt := 20) dX12_row_15 (by decide) ?_
    have r9 := some_pair hq
    obtain ⟨rfl, rfl⟩ := r9
    exact xi_iret dX12_row_20 rfl rfl (Nat.le_of_ble_eq_true rfl) (Nat.le_of_ble_eq_true rfl) ⟨rfl, rfl⟩
noncomputable def SX12_rowsOfLeast_30 (w1 : Int32) (w2 : Int32) (c : Int32) (σ : St) : Option (((Int32) ⊕ (Unit)) × St) :=
  (bnd (FX12_points w1 σ) (fun v14 t15 => (if v14 ≤ c then (some (Sum.inr (), t15)) else (chk (inb w2 512) (rdb t15 156 (w2.toNatClampNeg) (fun v19 => (bnd (FX12_has w2 c t15) (fun v21 t22 => (bnd (if v21 = (0 : Int32) then (chk (inb (((9 : Int32) * w2) + c) 4608) (rdb t22 157 ((((9 : Int32) * w2) + c).toNatClampNeg) (fun v33 => (chk (inb (w2 ||| (shl (1 : Int32) c)) 512) (rdb t22 155 ((w2 ||| (shl (1 : Int32) c)).toNatClampNeg) (fun v36 => (chk (inb w2 512) (rdb t22 155 (w2.toNatClampNeg) (fun v39 => (if (v33 + v36) = v39 then (chk (inb (w2 ||| (shl (1 : Int32) c)) 512) (rdb t22 156 ((w2 ||| (shl (1 : Int32) c)).toNatClampNeg) (fun v43 => (some (v43, t22))))) else (some ((0 : Int32), t22)))))))))))) else (some ((0 : Int32), t22))) (fun v25 t26 => (chk (inb w2 512) (wrb t26 156 (w2.toNatClampNeg) (v19 + v25) (fun t30 => (some (Sum.inl (c + 1), t30)))))))))))))))
noncomputable def SX12_rowsOfLeast_5 (w1 : Int32) (c : Int32) (σ : St) : Option (((Int32) ⊕ (Unit)) × St) :=
  (if c < (0 : Int32) then (some (Sum.inr (), σ)) else (rdb σ 149 (17) (fun v4 => (bnd (if c = v4 then (some ((1 : Int32), σ)) else (some ((0 : Int32), σ))) (fun v7 t8 => (chk (inb c 512) (wrb t8 156 (c.toNatClampNeg) v7 (fun t12 => (bnd (wh (SX12_rowsOfLeast_30 w1 c) (0 : Int32) t12) (fun e45 t46 => (some (Sum.inl (c + (-1)), t46))))))))))))
set_option maxHeartbeats 4000000 in
set_option maxRecDepth 100000 in
theorem SX12_rowsOfLeast_30_w (G : xG) (Gb : xMem) (w1 : Int32) (w2 : Int32) (r0 : Int32) (t0 : St) :
    ∀ (k : Nat) (c : Int32) (σ : St) (r : Unit) (σ' : St), itr (SX12_rowsOfLeast_30 w1 w2) k c σ = some (r, σ') → (xW G mX12_rowsOfLeast (xrm 1 0 0) (xQ G (PQ r0 t0 Gb) 0 0) 107 [(0, .ref 149), (1, .int w1), (2, .int w2)] [] (mem σ' Gb) 0 0) → xW G mX12_rowsOfLeast (xrm 1 0 0) (xQ G (PQ r0 t0 Gb) 0 0) 30 [(0, .ref 149), (1, .int w1), (2, .int w2), (3, .int c)] [] (mem σ Gb) 0 0 := by
  intro k
  induction k with
  | zero =>
    intro c σ r σ' h
    exact absurd h (itr_zero _ _ _ _)
  | succ k ih =>
    intro c σ r σ' h HE
    obtain ⟨x, s1, hs, h⟩ := itr_succ h
    unfold SX12_rowsOfLeast_30 at hs
    refine xi_iload_n 3 dX12_rowsOfLeast_30 rfl ?_
    refine xi_aload_n 0 dX12_rowsOfLeast_31 rfl ?_
    refine xi_iload_n 1 dX12_rowsOfLeast_32 rfl ?_
    obtain ⟨v14, t15, k16, hs⟩ := bnd_some hs
    refine xi_callV (as := [.int w1]) (rest := [.int c]) dX12_rowsOfLeast_33 (KX12_points G Gb w1 _ _ _ k16) mkX12_points w_1108 ws_36 w_1106 (mem_get sh_149) rfl rfl rfl rfl (Nat.le_of_ble_eq_true rfl) (Nat.le_of_ble_eq_true rfl) (Nat.le_of_ble_eq_true rfl) (Nat.le_of_ble_eq_true rfl) (Nat.le_of_ble_eq_true rfl) ?_
    intro v M2 hz
    obtain ⟨rfl, rfl⟩ := hz
    show xW _ _ _ _ 36 _ [.int v14, .int c] (mem t15 Gb) _ _
    refine xi_icmp_ge (tgt := 107) dX12_rowsOfLeast_36 (by decide) (fun c17 => ?_) (fun c17 => ?_)
    · replace hs := ite_p c17 hs
      refine xi_sub (lv' := [(0, .ref 149), (1, .int w1), (2, .int w2)]) [0, 1, 2] rfl ?_
      obtain ⟨rfl, rfl⟩ := some_pair hs
      obtain ⟨rfl, rfl⟩ := some_pair h
      exact HE
    · replace hs := ite_n c17 hs
      refine xi_aload_n 0 dX12_rowsOfLeast_39 rfl ?_
      refine yi_getR (f := 15) dX12_rowsOfLeast_40 sh_149 rfl ok_9 (by decide) w_1023 rfl ?_
      refine xi_iload_n 2 dX12_rowsOfLeast_43 rfl ?_
      refine xi_dup2 dX12_rowsOfLeast_44 rfl rfl ?_
      obtain ⟨g18, hs⟩ := chk_some hs
      obtain ⟨v19, h20, hs⟩ := rdb_some hs
      refine yi_ialoadV dX12_rowsOfLeast_45 sh_156 g18 h20 ?_
      refine xi_iload_n 2 dX12_rowsOfLeast_46 rfl ?_
      refine xi_iload_n 3 dX12_rowsOfLeast_47 rfl ?_
      obtain ⟨v21, t22, k23, hs⟩ := bnd_some hs
      refine xi_callS (as := [.int w2, .int c]) (rest := [.int v19, .int w2, .ref 156]) dX12_rowsOfLeast_48 (KX12_has G Gb w2 c _ _ _ k23) mkX12_has w_1207 w_1206 rfl rfl (Nat.le_of_ble_eq_true rfl) (Nat.le_of_ble_eq_true rfl) (Nat.le_of_ble_eq_true rfl) (Nat.le_of_ble_eq_true rfl) (Nat.le_of_ble_eq_true rfl) ?_
      intro v M2 hz
      obtain ⟨rfl, rfl⟩ := hz
      show xW _ _ _ _ 51 _ [.int v21, .int v19, .int w2, .ref 156] (mem t22 Gb) _ _
      obtain ⟨v25, t26, m27, hs⟩ := bnd_some hs
      have key28 : xW G mX12_rowsOfLeast (xrm 1 0 0) (xQ G (PQ r0 t0 Gb) 0 0) 99 [(0, .ref 149), (1, .int w1), (2, .int w2), (3, .int c)] [.int v25, .int v19, .int w2, .ref 156] (mem t26 Gb) 0 0 := by
        refine xi_iadd (v := v19 + v25) dX12_rowsOfLeast_99 rfl ?_
        obtain ⟨g29, hs⟩ := chk_some hs
        obtain ⟨t30, h31, hs⟩ := wrb_some hs
        refine yi_iastoreV dX12_rowsOfLeast_100 sh_156 g29 h31 ?_
        refine xi_iinc (v := (c + 1)) (lv' := [(3, .int (c + 1)), (0, .ref 149), (1, .int w1), (2, .int w2)]) 3 dX12_rowsOfLeast_101 rfl rfl (by decide) rfl ?_
        refine xi_goto (tgt := 30) dX12_rowsOfLeast_104 (by decide) ?_
        refine xi_sub (lv' := [(0, .ref 149), (1, .int w1), (2, .int w2), (3, .int (c + 1))]) [1, 2, 3, 0] rfl ?_
        obtain ⟨rfl, rfl⟩ := some_pair hs
        exact ih (c + 1) t30 _ _ h HE
      refine xi_if_ne (tgt := 98) dX12_rowsOfLeast_51 (by decide) (fun c24 => ?_) (fun c24 => ?_)
      · replace m27 := ite_n c24 m27
        refine xi_iconst (v := 0) dX12_rowsOfLeast_98 (by decide) ?_
        obtain ⟨rfl, rfl⟩ := some_pair m27
        exact key28
      · replace m27 := ite_p c24 m27
        refine xi_aload_n 0 dX12_rowsOfLeast_54 rfl ?_
        refine yi_getR (f := 16) dX12_rowsOfLeast_55 sh_149 rfl ok_9 (by decide) w_1024 rfl ?_
        refine xi_bipush (v := 9) dX12_rowsOfLeast_58 (by decide) ?_
        refine xi_iload_n 2 dX12_rowsOfLeast_60 rfl ?_
        refine xi_imul (v := (9 : Int32) * w2) dX12_rowsOfLeast_61 rfl ?_
        refine xi_iload_n 3 dX12_rowsOfLeast_62 rfl ?_
        refine xi_iadd (v := ((9 : Int32) * w2) + c) dX12_rowsOfLeast_63 rfl ?_
        obtain ⟨g32, m27⟩ := chk_some m27
        obtain ⟨v33, h34, m27⟩ := rdb_some m27
        refine yi_ialoadV dX12_rowsOfLeast_64 sh_157 g32 h34 ?_
        refine xi_aload_n 0 dX12_rowsOfLeast_65 rfl ?_
        refine yi_getR (f := 14) dX12_rowsOfLeast_66 sh_149 rfl ok_9 (by decide) w_1022 rfl ?_
        refine xi_iload_n 2 dX12_rowsOfLeast_69 rfl ?_
        refine xi_iconst (v := 1) dX12_rowsOfLeast_70 (by decide) ?_
        refine xi_iload_n 3 dX12_rowsOfLeast_71 rfl ?_
        refine xi_ishl (v := shl (1 : Int32) c) dX12_rowsOfLeast_72 rfl ?_
        refine xi_ior (v := w2 ||| (shl (1 : Int32) c)) dX12_rowsOfLeast_73 rfl ?_
        obtain ⟨g35, m27⟩ := chk_some m27
        obtain ⟨v36, h37, m27⟩ := rdb_some m27
        refine yi_ialoadV dX12_rowsOfLeast_74 sh_155 g35 h37 ?_
        refine xi_iadd (v := v33 + v36) dX12_rowsOfLeast_75 rfl ?_
        refine xi_aload_n 0 dX12_rowsOfLeast_76 rfl ?_
        refine yi_getR (f := 14) dX12_rowsOfLeast_77 sh_149 rfl ok_9 (by decide) w_1022 rfl ?_
        refine xi_iload_n 2 dX12_rowsOfLeast_80 rfl ?_
        obtain ⟨g38, m27⟩ := chk_some m27
        obtain ⟨v39, h40, m27⟩ := rdb_some m27
        refine yi_ialoadV dX12_rowsOfLeast_81 sh_155 g38 h40 ?_
        refine xi_icmp_ne (tgt := 98) dX12_rowsOfLeast_82 (by decide) (fun c41 => ?_) (fun c41 => ?_)
        · replace m27 := ite_n c41 m27
          refine xi_iconst (v := 0) dX12_rowsOfLeast_98 (by decide) ?_
          obtain ⟨rfl, rfl⟩ := some_pair m27
          exact key28
        · replace m27 := ite_p c41 m27
          refine xi_aload_n 0 dX12_rowsOfLeast_85 rfl ?_
          refine yi_getR (f := 15) dX12_rowsOfLeast_86 sh_149 rfl ok_9 (by decide) w_1023 rfl ?_
          refine xi_iload_n 2 dX12_rowsOfLeast_89 rfl ?_
          refine xi_iconst (v := 1) dX12_rowsOfLeast_90 (by decide) ?_
          refine xi_iload_n 3 dX12_rowsOfLeast_91 rfl ?_
          refine xi_ishl (v := shl (1 : Int32) c) dX12_rowsOfLeast_92 rfl ?_
          refine xi_ior (v := w2 ||| (shl (1 : Int32) c)) dX12_rowsOfLeast_93 rfl ?_
          obtain ⟨g42, m27⟩ := chk_some m27
          obtain ⟨v43, h44, m27⟩ := rdb_some m27
          refine yi_ialoadV dX12_rowsOfLeast_94 sh_156 g42 h44 ?_
          refine xi_goto (tgt := 99) dX12_rowsOfLeast_95 (by decide) ?_
          obtain ⟨rfl, rfl⟩ := some_pair m27
          exact key28
set_option maxHeartbeats 4000000 in
set_option maxRecDepth 100000 in
theorem SX12_rowsOfLeast_5_w (G : xG) (Gb : xMem) (w1 : Int32) (r0 : Int32) (t0 : St) :
    ∀ (k : Nat) (c : Int32) (σ : St) (r : Unit) (σ' : St), itr (SX12_rowsOfLeast_5 w1) k c σ = some (r, σ') → (xW G mX12_rowsOfLeast (xrm 1 0 0) (xQ G (PQ r0 t0 Gb) 0 0) 113 [(0, .ref 149)] [] (mem σ' Gb) 0 0) → xW G mX12_rowsOfLeast (xrm 1 0 0) (xQ G (PQ r0 t0 Gb) 0 0) 5 [(0, .ref 149), (1, .int w1), (2, .int c)] [] (mem σ Gb) 0 0 := by
  intro k
  induction k with
  | zero =>
    intro c σ r σ' h
    exact absurd h (itr_zero _ _ _ _)
  | succ k ih =>
    intro c σ r σ' h HE
    obtain ⟨x, s1, hs, h⟩ := itr_succ h
    unfold SX12_rowsOfLeast_5 at hs
    refine xi_iload_n 2 dX12_rowsOfLeast_5 rfl ?_
    refine xi_if_lt (tgt := 113) dX12_rowsOfLeast_6 (by decide) (fun c3 => ?_) (fun c3 => ?_)
    · replace hs := ite_p c3 hs
      refine xi_sub (lv' := [(0, .ref 149)]) [0] rfl ?_
      obtain ⟨rfl, rfl⟩ := some_pair hs
      obtain ⟨rfl, rfl⟩ := some_pair h
      exact HE
    · replace hs := ite_n c3 hs
      refine xi_aload_n 0 dX12_rowsOfLeast_9 rfl ?_
      refine yi_getR (f := 15) dX12_rowsOfLeast_10 sh_149 rfl ok_9 (by decide) w_1023 rfl ?_
      refine xi_iload_n 2 dX12_rowsOfLeast_13 rfl ?_
      refine xi_iload_n 2 dX12_rowsOfLeast_14 rfl ?_
      refine xi_aload_n 0 dX12_rowsOfLeast_15 rfl ?_
      obtain ⟨v4, h5, hs⟩ := rdb_some hs
      refine yi_getV (f := 17) dX12_rowsOfLeast_16 sh_149 rfl ok_9 (by decide) w_1025 rfl h5 ?_
      obtain ⟨v7, t8, m9, hs⟩ := bnd_some hs
      have key10 : xW G mX12_rowsOfLeast (xrm 1 0 0) (xQ G (PQ r0 t0 Gb) 0 0) 27 [(0, .ref 149), (1, .int w1), (2, .int c)] [.int v7, .int c, .ref 156] (mem t8 Gb) 0 0 := by
        obtain ⟨g11, hs⟩ := chk_some hs
        obtain ⟨t12, h13, hs⟩ := wrb_some hs
        refine yi_iastoreV dX12_rowsOfLeast_27 sh_156 g11 h13 ?_
        refine xi_iconst (v := 0) dX12_rowsOfLeast_28 (by decide) ?_
        refine xi_istore_n (lv' := [(3, .int 0), (0, .ref 149), (1, .int w1), (2, .int c)]) dX12_rowsOfLeast_29 (by decide) rfl ?_
        refine xi_sub (lv' := [(0, .ref 149), (1, .int w1), (2, .int c), (3, .int 0)]) [1, 2, 3, 0] rfl ?_
        obtain ⟨e45, t46, k47, hs⟩ := bnd_some hs
        obtain ⟨n48, k47⟩ := wh_itr k47
        refine SX12_rowsOfLeast_30_w G Gb w1 c r0 t0 n48 (0 : Int32) t12 _ _ k47 ?_
        show xW G mX12_rowsOfLeast (xrm 1 0 0) (xQ G (PQ r0 t0 Gb) 0 0) 107 [(0, .ref 149), (1, .int w1), (2, .int c)] [] (mem t46 Gb) 0 0
        refine xi_iinc (v := (c + (-1))) (lv' := [(2, .int (c + (-1))), (0, .ref 149), (1, .int w1)]) 2 dX12_rowsOfLeast_107 rfl rfl (by decide) rfl ?_
        refine xi_goto (tgt := 5) dX12_rowsOfLeast_110 (by decide) ?_
        refine xi_sub (lv' := [(0, .ref 149), (1, .int w1), (2, .int (c + (-1)))]) [1, 2, 0] rfl ?_
        obtain ⟨rfl, rfl⟩ := some_pair hs
        exact ih (c + (-1)) t46 _ _ h HE
      refine xi_icmp_ne (tgt := 26) dX12_rowsOfLeast_19 (by decide) (fun c6 => ?_) (fun c6 => ?_)
      · replace m9 := ite_n c6 m9
        refine xi_iconst (v := 0) dX12_rowsOfLeast_26 (by decide) ?_
        obtain ⟨rfl, rfl⟩ := some_pair m9
        exact key10
      · replace m9 := ite_p c6 m9
        refine xi_iconst (v := 1) dX12_rowsOfLeast_22 (by decide) ?_
        refine xi_goto (tgt := 27) dX12_rowsOfLeast_23 (by decide) ?_
        obtain ⟨rfl, rfl⟩ := some_pair m9
        exact key10
noncomputable def FX12_rowsOfLeast (a : Int32) (σ : St) : Option ((Int32) × St) :=
  (rdb σ 149 (17) (fun v1 => (bnd (wh (SX12_rowsOfLeast_5 a) v1 σ) (fun e49 t50 => (chk (inb (0 : Int32) 512) (rdb t50 156 ((0 : Int32).toNatClampNeg) (fun v54 => (some (v54, t50)))))))))
set_option maxHeartbeats 4000000 in
set_option maxRecDepth 100000 in
theorem KX12_rowsOfLeast (G : xG) (Gb : xMem) (a : Int32) (σ : St) (r0 : Int32) (t0 : St) (hq : FX12_rowsOfLeast a σ = some (r0, t0)) : xC G mX12_rowsOfLeast 1 0 0 [.ref 149, .int a] (mem σ Gb) (PQ r0 t0 Gb) := by
  unfold FX12_rowsOfLeast at hq
  refine xC.of (by decide) (Nat.le_of_ble_eq_true rfl) ?_
  show xW _ _ _ _ 0 [(0, .ref 149), (1, .int a)] [] _ 0 0
  refine xi_aload_n 0 dX12_rowsOfLeast_0 rfl ?_
  obtain ⟨v1, h2, hq⟩ := rdb_some hq
  refine yi_getV (f := 17) dX12_rowsOfLeast_1 sh_149 rfl ok_9 (by decide) w_1025 rfl h2 ?_
  refine xi_istore_n (lv' := [(2, .int v1), (0, .ref 149), (1, .int a)]) dX12_rowsOfLeast_4 (by decide) rfl ?_
  refine xi_sub (lv' := [(0, .ref 149), (1, .int a), (2, .int v1)]) [1, 2, 0] rfl ?_
  obtain ⟨e49, t50, k51, hq⟩ := bnd_some hq
  obtain ⟨n52, k51⟩ := wh_itr k51
  refine SX12_rowsOfLeast_5_w G Gb a r0 t0 n52 v1 σ _ _ k51 ?_
  show xW G mX12_rowsOfLeast (xrm 1 0 0) (xQ G (PQ r0 t0 Gb) 0 0) 113 [(0, .ref 149)] [] (mem t50 Gb) 0 0
  refine xi_aload_n 0 dX12_rowsOfLeast_113 rfl ?_
  refine yi_getR (f := 15) dX12_rowsOfLeast_114 sh_149 rfl ok_9 (by decide) w_1023 rfl ?_
  refine xi_iconst (v := 0) dX12_rowsOfLeast_117 (by decide) ?_
  obtain ⟨g53, hq⟩ := chk_some hq
  obtain ⟨v54, h55, hq⟩ := rdb_some hq
  refine yi_ialoadV dX12_rowsOfLeast_118 sh_156 g53 h55 ?_
  have r56 := some_pair hq
  obtain ⟨rfl, rfl⟩ := r56
  exact xi_iret dX12_rowsOfLeast_119 rfl rfl (Nat.le_of_ble_eq_true rfl) (Nat.le_of_ble_eq_true rfl) ⟨rfl, rfl⟩
noncomputable def SX12_rowsWithin_31 (w1 : Int32) (w2 : Int32) (w3 : Int32) (c : Int32) (σ : St) : Option (((Int32) ⊕ (Unit)) × St) :=
  (bnd (FX12_points w1 σ) (fun v14 t15 => (if v14 ≤ c then (some (Sum.inr (), t15)) else (chk (inb w3 512) (rdb t15 156 (w3.toNatClampNeg) (fun v19 => (bnd (FX12_has w3 c t15) (fun v21 t22 => (bnd (if v21 = (0 : Int32) then (chk (inb (((9 : Int32) * w3) + c) 4608) (rdb t22 157 ((((9 : Int32) * w3) + c).toNatClampNeg) (fun v33 => (if w2 < v33 then (some ((0 : Int32), t22)) else (chk (inb (w3 ||| (shl (1 : Int32) c)) 512) (rdb t22 156 ((w3 ||| (shl (1 : Int32) c)).toNatClampNeg) (fun v37 => (some (v37, t22))))))))) else (some ((0 : Int32), t22))) (fun v25 t26 => (chk (inb w3 512) (wrb t26 156 (w3.toNatClampNeg) (v19 + v25) (fun t30 => (some (Sum.inl (c + 1), t30)))))))))))))))
noncomputable def SX12_rowsWithin_5 (w1 : Int32) (w2 : Int32) (c : Int32) (σ : St) : Option (((Int32) ⊕ (Unit)) × St) :=
  (if c < (0 : Int32) then (some (Sum.inr (), σ)) else (rdb σ 149 (17) (fun v4 => (bnd (if c = v4 then (some ((1 : Int32), σ)) else (some ((0 : Int32), σ))) (fun v7 t8 => (chk (inb c 512) (wrb t8 156 (c.toNatClampNeg) v7 (fun t12 => (bnd (wh (SX12_rowsWithin_31 w1 w2 c) (0 : Int32) t12) (fun e39 t40 => (some (Sum.inl (c + (-1)), t40))))))))))))
set_option maxHeartbeats 4000000 in
set_option maxRecDepth 100000 in
theorem SX12_rowsWithin_31_w (G : xG) (Gb : xMem) (w1 : Int32) (w2 : Int32) (w3 : Int32) (r0 : Int32) (t0 : St) :
    ∀ (k : Nat) (c : Int32) (σ : St) (r : Unit) (σ' : St), itr (SX12_rowsWithin_31 w1 w2 w3) k c σ = some (r, σ') → (xW G mX12_rowsWithin (xrm 1 0 0) (xQ G (PQ r0 t0 Gb) 0 0) 96 [(0, .ref 149), (1, .int w1), (2, .int w2), (3, .int w3)] [] (mem σ' Gb) 0 0) → xW G mX12_rowsWithin (xrm 1 0 0) (xQ G (PQ r0 t0 Gb) 0 0) 31 [(0, .ref 149), (1, .int w1), (2, .int w2), (3, .int w3), (4, .int c)] [] (mem σ Gb) 0 0 := by
  intro k
  induction k with
  | zero =>
    intro c σ r σ' h
    exact absurd h (itr_zero _ _ _ _)
  | succ k ih =>
    intro c σ r σ' h HE
    obtain ⟨x, s1, hs, h⟩ := itr_succ h
    unfold SX12_rowsWithin_31 at hs
    refine xi_iload 4 dX12_rowsWithin_31 rfl ?_
    refine xi_aload_n 0 dX12_rowsWithin_33 rfl ?_
    refine xi_iload_n 1 dX12_rowsWithin_34 rfl ?_
    obtain ⟨v14, t15, k16, hs⟩ := bnd_some hs
    refine xi_callV (as := [.int w1]) (rest := [.int c]) dX12_rowsWithin_35 (KX12_points G Gb w1 _ _ _ k16) mkX12_points w_1108 ws_36 w_1106 (mem_get sh_149) rfl rfl rfl rfl (Nat.le_of_ble_eq_true rfl) (Nat.le_of_ble_eq_true rfl) (Nat.le_of_ble_eq_true rfl) (Nat.le_of_ble_eq_true rfl) (Nat.le_of_ble_eq_true rfl) ?_
    intro v M2 hz
    obtain ⟨rfl, rfl⟩ := hz
    show xW _ _ _ _ 38 _ [.int v14, .int c] (mem t15 Gb) _ _
    refine xi_icmp_ge (tgt := 96) dX12_rowsWithin_38 (by decide) (fun c17 => ?_) (fun c17 => ?_)
    · replace hs := ite_p c17 hs
      refine xi_sub (lv' := [(0, .ref 149), (1, .int w1), (2, .int w2), (3, .int w3)]) [0, 1, 2, 3] rfl ?_
      obtain ⟨rfl, rfl⟩ := some_pair hs
      obtain ⟨rfl, rfl⟩ := some_pair h
      exact HE
    · replace hs := ite_n c17 hs
      refine xi_aload_n 0 dX12_rowsWithin_41 rfl ?_
      refine yi_getR (f := 15) dX12_rowsWithin_42 sh_149 rfl ok_9 (by decide) w_1023 rfl ?_
      refine xi_iload_n 3 dX12_rowsWithin_45 rfl ?_
      refine xi_dup2 dX12_rowsWithin_46 rfl rfl ?_
      obtain ⟨g18, hs⟩ := chk_some hs
      obtain ⟨v19, h20, hs⟩ := rdb_some hs
      refine yi_ialoadV dX12_rowsWithin_47 sh_156 g18 h20 ?_
      refine xi_iload_n 3 dX12_rowsWithin_48 rfl ?_
      refine xi_iload 4 dX12_rowsWithin_49 rfl ?_
      obtain ⟨v21, t22, k23, hs⟩ := bnd_some hs
      refine xi_callS (as := [.int w3, .int c]) (rest := [.int v19, .int w3, .ref 156]) dX12_rowsWithin_51 (KX12_has G Gb w3 c _ _ _ k23) mkX12_has w_1207 w_1206 rfl rfl (Nat.le_of_ble_eq_true rfl) (Nat.le_of_ble_eq_true rfl) (Nat.le_of_ble_eq_true rfl) (Nat.le_of_ble_eq_true rfl) (Nat.le_of_ble_eq_true rfl) ?_
      intro v M2 hz
      obtain ⟨rfl, rfl⟩ := hz
      show xW _ _ _ _ 54 _ [.int v21, .int v19, .int w3, .ref 156] (mem t22 Gb) _ _
      obtain ⟨v25, t26, m27, hs⟩ := bnd_some hs
      have key28 : xW G mX12_rowsWithin (xrm 1 0 0) (xQ G (PQ r0 t0 Gb) 0 0) 88 [(0, .ref 149), (1, .int w1), (2, .int w2), (3, .int w3), (4, .int c)] [.int v25, .int v19, .int w3, .ref 156] (mem t26 Gb) 0 0 := by
        refine xi_iadd (v := v19 + v25) dX12_rowsWithin_88 rfl ?_
        obtain ⟨g29, hs⟩ := chk_some hs
        obtain ⟨t30, h31, hs⟩ := wrb_some hs
        refine yi_iastoreV dX12_rowsWithin_89 sh_156 g29 h31 ?_
        refine xi_iinc (v := (c + 1)) (lv' := [(4, .int (c + 1)), (0, .ref 149), (1, .int w1), (2, .int w2), (3, .int w3)]) 4 dX12_rowsWithin_90 rfl rfl (by decide) rfl ?_
        refine xi_goto (tgt := 31) dX12_rowsWithin_93 (by decide) ?_
        refine xi_sub (lv' := [(0, .ref 149), (1, .int w1), (2, .int w2), (3, .int w3), (4, .int (c + 1))]) [1, 2, 3, 4, 0] rfl ?_
        obtain ⟨rfl, rfl⟩ := some_pair hs
        exact ih (c + 1) t30 _ _ h HE
      refine xi_if_ne (tgt := 87) dX12_rowsWithin_54 (by decide) (fun c24 => ?_) (fun c24 => ?_)
      · replace m27 := ite_n c24 m27
        refine xi_iconst (v := 0) dX12_rowsWithin_87 (by decide) ?_
        obtain ⟨rfl, rfl⟩ := some_pair m27
        exact key28
      · replace m27 := ite_p c24 m27
        refine xi_aload_n 0 dX12_rowsWithin_57 rfl ?_
        refine yi_getR (f := 16) dX12_rowsWithin_58 sh_149 rfl ok_9 (by decide) w_1024 rfl ?_
        refine xi_bipush (v := 9) dX12_rowsWithin_61 (by decide) ?_
        refine xi_iload_n 3 dX12_rowsWithin_63 rfl ?_
        refine xi_imul (v := (9 : Int32) * w3) dX12_rowsWithin_64 rfl ?_
        refine xi_iload 4 dX12_rowsWithin_65 rfl ?_
        refine xi_iadd (v := ((9 : Int32) * w3) + c) dX12_rowsWithin_67 rfl ?_
        obtain ⟨g32, m27⟩ := chk_some m27
        obtain ⟨v33, h34, m27⟩ := rdb_some m27
        refine yi_ialoadV dX12_rowsWithin_68 sh_157 g32 h34 ?_
        refine xi_iload_n 2 dX12_rowsWithin_69 rfl ?_
        refine xi_icmp_gt (tgt := 87) dX12_rowsWithin_70 (by decide) (fun c35 => ?_) (fun c35 => ?_)
        · replace m27 := ite_p c35 m27
          refine xi_iconst (v := 0) dX12_rowsWithin_87 (by decide) ?_
          obtain ⟨rfl, rfl⟩ := some_pair m27
          exact key28
        · replace m27 := ite_n c35 m27
          refine xi_aload_n 0 dX12_rowsWithin_73 rfl ?_
          refine yi_getR (f := 15) dX12_rowsWithin_74 sh_149 rfl ok_9 (by decide) w_1023 rfl ?_
          refine xi_iload_n 3 dX12_rowsWithin_77 rfl ?_
          refine xi_iconst (v := 1) dX12_rowsWithin_78 (by decide) ?_
          refine xi_iload 4 dX12_rowsWithin_79 rfl ?_
          refine xi_ishl (v := shl (1 : Int32) c) dX12_rowsWithin_81 rfl ?_
          refine xi_ior (v := w3 ||| (shl (1 : Int32) c)) dX12_rowsWithin_82 rfl ?_
          obtain ⟨g36, m27⟩ := chk_some m27
          obtain ⟨v37, h38, m27⟩ := rdb_some m27
          refine yi_ialoadV dX12_rowsWithin_83 sh_156 g36 h38 ?_
          refine xi_goto (tgt := 88) dX12_rowsWithin_84 (by decide) ?_
          obtain ⟨rfl, rfl⟩ := some_pair m27
          exact key28
set_option maxHeartbeats 4000000 in
set_option maxRecDepth 100000 in
theorem SX12_rowsWithin_5_w (G : xG) (Gb : xMem) (w1 : Int32) (w2 : Int32) (r0 : Int32) (t0 : St) :
    ∀ (k : Nat) (c : Int32) (σ : St) (r : Unit) (σ' : St), itr (SX12_rowsWithin_5 w1 w2) k c σ = some (r, σ') → (xW G mX12_rowsWithin (xrm 1 0 0) (xQ G (PQ r0 t0 Gb) 0 0) 102 [(0, .ref 149)] [] (mem σ' Gb) 0 0) → xW G mX12_rowsWithin (xrm 1 0 0) (xQ G (PQ r0 t0 Gb) 0 0) 5 [(0, .ref 149), (1, .int w1), (2, .int w2), (3, .int c)] [] (mem σ Gb) 0 0 := by
  intro k
  induction k with
  | zero =>
    intro c σ r σ' h
    exact absurd h (itr_zero _ _ _ _)
  | succ k ih =>
    intro c σ r σ' h HE
    obtain ⟨x, s1, hs, h⟩ := itr_succ h
    unfold SX12_rowsWithin_5 at hs
    refine xi_iload_n 3 dX12_rowsWithin_5 rfl ?_
    refine xi_if_lt (tgt := 102) dX12_rowsWithin_6 (by decide) (fun c3 => ?_) (fun c3 => ?_)
    · replace hs := ite_p c3 hs
      refine xi_sub (lv' := [(0, .ref 149)]) [0] rfl ?_
      obtain ⟨rfl, rfl⟩ := some_pair hs
      obtain ⟨rfl, rfl⟩ := some_pair h
      exact HE
    · replace hs := ite_n c3 hs
      refine xi_aload_n 0 dX12_rowsWithin_9 rfl ?_
      refine yi_getR (f := 15) dX12_rowsWithin_10 sh_149 rfl ok_9 (by decide) w_1023 rfl ?_
      refine xi_iload_n 3 dX12_rowsWithin_13 rfl ?_
      refine xi_iload_n 3 dX12_rowsWithin_14 rfl ?_
      refine xi_aload_n 0 dX12_rowsWithin_15 rfl ?_
      obtain ⟨v4, h5, hs⟩ := rdb_some hs
      refine yi_getV (f := 17) dX12_rowsWithin_16 sh_149 rfl ok_9 (by decide) w_1025 rfl h5 ?_
      obtain ⟨v7, t8, m9, hs⟩ := bnd_some hs
      have key10 : xW G mX12_rowsWithin (xrm 1 0 0) (xQ G (PQ r0 t0 Gb) 0 0) 27 [(0, .ref 149), (1, .int w1), (2, .int w2), (3, .int c)] [.int v7, .int c, .ref 156] (mem t8 Gb) 0 0 := by
        obtain ⟨g11, hs⟩ := chk_some hs
        obtain ⟨t12, h13, hs⟩ := wrb_some hs
        refine yi_iastoreV dX12_rowsWithin_27 sh_156 g11 h13 ?_
        refine xi_iconst (v := 0) dX12_rowsWithin_28 (by decide) ?_
        refine xi_istore (lv' := [(4, .int 0), (0, .ref 149), (1, .int w1), (2, .int w2), (3, .int c)]) dX12_rowsWithin_29 (by decide) rfl ?_
        refine xi_sub (lv' := [(0, .ref 149), (1, .int w1), (2, .int w2), (3, .int c), (4, .int 0)]) [1, 2, 3, 4, 0] rfl ?_
        obtain ⟨e39, t40, k41, hs⟩ := bnd_some hs
        obtain ⟨n42, k41⟩ := wh_itr k41
        refine SX12_rowsWithin_31_w G Gb w1 w2 c r0 t0 n42 (0 : Int32) t12 _ _ k41 ?_
        show xW G mX12_rowsWithin (xrm 1 0 0) (xQ G (PQ r0 t0 Gb) 0 0) 96 [(0, .ref 149), (1, .int w1), (2, .int w2), (3, .int c)] [] (mem t40 Gb) 0 0
        refine xi_iinc (v := (c + (-1))) (lv' := [(3, .int (c + (-1))), (0, .ref 149), (1, .int w1), (2, .int w2)]) 3 dX12_rowsWithin_96 rfl rfl (by decide) rfl ?_
        refine xi_goto (tgt := 5) dX12_rowsWithin_99 (by decide) ?_
        refine xi_sub (lv' := [(0, .ref 149), (1, .int w1), (2, .int w2), (3, .int (c + (-1)))]) [1, 2, 3, 0] rfl ?_
        obtain ⟨rfl, rfl⟩ := some_pair hs
        exact ih (c + (-1)) t40 _ _ h HE
      refine xi_icmp_ne (tgt := 26) dX12_rowsWithin_19 (by decide) (fun c6 => ?_) (fun c6 => ?_)
      · replace m9 := ite_n c6 m9
        refine xi_iconst (v := 0) dX12_rowsWithin_26 (by decide) ?_
        obtain ⟨rfl, rfl⟩ := some_pair m9
        exact key10
      · replace m9 := ite_p c6 m9
        refine xi_iconst (v := 1) dX12_rowsWithin_22 (by decide) ?_
        refine xi_goto (tgt := 27) dX12_rowsWithin_23 (by decide) ?_
        obtain ⟨rfl, rfl⟩ := some_pair m9
        exact key10
noncomputable def FX12_rowsWithin (a : Int32) (b : Int32) (σ : St) : Option ((Int32) × St) :=
  (rdb σ 149 (17) (fun v1 => (bnd (wh (SX12_rowsWithin_5 a b) v1 σ) (fun e43 t44 => (chk (inb (0 : Int32) 512) (rdb t44 156 ((0 : Int32).toNatClampNeg) (fun v48 => (some (v48, t44)))))))))
set_option maxHeartbeats 4000000 in
set_option maxRecDepth 100000 in
theorem KX12_rowsWithin (G : xG) (Gb : xMem) (a : Int32) (b : Int32) (σ : St) (r0 : Int32) (t0 : St) (hq : FX12_rowsWithin a b σ = some (r0, t0)) : xC G mX12_rowsWithin 1 0 0 [.ref 149, .int a, .int b] (mem σ Gb) (PQ r0 t0 Gb) := by
  unfold FX12_rowsWithin at hq
  refine xC.of (by decide) (Nat.le_of_ble_eq_true rfl) ?_
  show xW _ _ _ _ 0 [(0, .ref 149), (1, .int a), (2, .int b)] [] _ 0 0
  refine xi_aload_n 0 dX12_rowsWithin_0 rfl ?_
  obtain ⟨v1, h2, hq⟩ := rdb_some hq
  refine yi_getV (f := 17) dX12_rowsWithin_1 sh_149 rfl ok_9 (by decide) w_1025 rfl h2 ?_
  refine xi_istore_n (lv' := [(3, .int v1), (0, .ref 149), (1, .int a), (2, .int b)]) dX12_rowsWithin_4 (by decide) rfl ?_
  refine xi_sub (lv' := [(0, .ref 149), (1, .int a), (2, .int b), (3, .int v1)]) [1, 2, 3, 0] rfl ?_
  obtain ⟨e43, t44, k45, hq⟩ := bnd_some hq
  obtain ⟨n46, k45⟩ := wh_itr k45
  refine SX12_rowsWithin_5_w G Gb a b r0 t0 n46 v1 σ _ _ k45 ?_
  show xW G mX12_rowsWithin (xrm 1 0 0) (xQ G (PQ r0 t0 Gb) 0 0) 102 [(0, .ref 149)] [] (mem t44 Gb) 0 0
  refine xi_aload_n 0 dX12_rowsWithin_102 rfl ?_
  refine yi_getR (f := 15) dX12_rowsWithin_103 sh_149 rfl ok_9 (by decide) w_1023 rfl ?_
  refine xi_iconst (v := 0) dX12_rowsWithin_106 (by decide) ?_
  obtain ⟨g47, hq⟩ := chk_some hq
  obtain ⟨v48, h49, hq⟩ := rdb_some hq
  refine yi_ialoadV dX12_rowsWithin_107 sh_156 g47 h49 ?_
  have r50 := some_pair hq
  obtain ⟨rfl, rfl⟩ := r50
  exact xi_iret dX12_rowsWithin_108 rfl rfl (Nat.le_of_ble_eq_true rfl) (Nat.le_of_ble_eq_true rfl) ⟨rfl, rfl⟩
noncomputable def SX12_says_s6_2 (c : Int32) (σ : St) : Option (((Int32) ⊕ (Unit)) × St) :=
  (if (4 : Int32) ≤ c then (some (Sum.inr (), σ)) else (rdb σ 149 (25) (fun v2 => (chk (inb c 4) (chk (inb v2 400) (wrb σ 162 (v2.toNatClampNeg) (chr [110, 101, 116, 32] c) (fun t6 => (rdb t6 149 (25) (fun v8 => (wrb t6 149 (25) (v8 + (1 : Int32)) (fun t10 => (some (Sum.inl (c + 1), t10)))))))))))))
set_option maxHeartbeats 4000000 in
set_option maxRecDepth 100000 in
theorem SX12_says_s6_2_w (G : xG) (Gb : xMem) (r0 : Unit) (t0 : St) :
    ∀ (k : Nat) (c : Int32) (σ : St) (r : Unit) (σ' : St), itr (SX12_says_s6_2) k c σ = some (r, σ') → (xW G mX12_says (xrm 4 0 0) (xQ G (PV r0 t0 Gb) 0 0) 40 [] [] (mem σ' Gb) 0 0) → xW G mX12_says (xrm 4 0 0) (xQ G (PV r0 t0 Gb) 0 0) 2 [(0, .ref 149), (1, .float 6), (2, .int c)] [] (mem σ Gb) 0 0 := by
  intro k
  induction k with
  | zero =>
    intro c σ r σ' h
    exact absurd h (itr_zero _ _ _ _)
  | succ k ih =>
    intro c σ r σ' h HE
    obtain ⟨x, s1, hs, h⟩ := itr_succ h
    unfold SX12_says_s6_2 at hs
    refine xi_iload_n 2 dX12_says_2 rfl ?_
    refine xi_aload_nS 1 dX12_says_3 rfl ?_
    refine xi_callVS (as := []) (rest := [.int c]) dX12_says_4 (K_slen G st_6 rfl) mkJ0_length_8abf5 w_329 w_330 w_1152 st_6 rfl rfl rfl rfl (Nat.le_of_ble_eq_true rfl) (Nat.le_of_ble_eq_true rfl) (Nat.le_of_ble_eq_true rfl) (Nat.le_of_ble_eq_true rfl) (Nat.le_of_ble_eq_true rfl) ?_
    intro v M2 hz
    obtain ⟨rfl, rfl⟩ := hz
    show xW _ _ _ _ 7 _ [.int 4, .int c] (mem σ Gb) _ _
    refine xi_icmp_ge (tgt := 40) dX12_says_7 (by decide) (fun c1 => ?_) (fun c1 => ?_)
    · replace hs := ite_p c1 hs
      refine xi_sub (lv' := []) [] rfl ?_
      obtain ⟨rfl, rfl⟩ := some_pair hs
      obtain ⟨rfl, rfl⟩ := some_pair h
      exact HE
    · replace hs := ite_n c1 hs
      refine xi_aload_n 0 dX12_says_10 rfl ?_
      refine yi_getR (f := 24) dX12_says_11 sh_149 rfl ok_9 (by decide) w_1032 rfl ?_
      refine xi_aload_n 0 dX12_says_14 rfl ?_
      obtain ⟨v2, h3, hs⟩ := rdb_some hs
      refine yi_getV (f := 25) dX12_says_15 sh_149 rfl ok_9 (by decide) w_1033 rfl h3 ?_
      refine xi_aload_nS 1 dX12_says_18 rfl ?_
      refine xi_iload_n 2 dX12_says_19 rfl ?_
      obtain ⟨g4, hs⟩ := chk_some hs
      refine xi_callVS (as := [.int c]) (rest := [.int v2, .ref 162]) dX12_says_20 (K_schar G st_6 rfl g4) mkJ0_charAt_5068e w_339 w_340 w_1153 st_6 rfl rfl rfl rfl (Nat.le_of_ble_eq_true rfl) (Nat.le_of_ble_eq_true rfl) (Nat.le_of_ble_eq_true rfl) (Nat.le_of_ble_eq_true rfl) (Nat.le_of_ble_eq_true rfl) ?_
      intro v M2 hz
      obtain ⟨rfl, rfl⟩ := hz
      show xW _ _ _ _ 23 _ [.int (chr [110, 101, 116, 32] c), .int v2, .ref 162] (mem σ Gb) _ _
      obtain ⟨g5, hs⟩ := chk_some hs
      obtain ⟨t6, h7, hs⟩ := wrb_some hs
      refine yi_iastoreV dX12_says_23 sh_162 g5 h7 ?_
      refine xi_aload_n 0 dX12_says_24 rfl ?_
      refine xi_dup dX12_says_25 rfl ?_
      obtain ⟨v8, h9, hs⟩ := rdb_some hs
      refine yi_getV (f := 25) dX12_says_26 sh_149 rfl ok_9 (by decide) w_1033 rfl h9 ?_
      refine xi_iconst (v := 1) dX12_says_29 (by decide) ?_
      refine xi_iadd (v := v8 + (1 : Int32)) dX12_says_30 rfl ?_
      obtain ⟨t10, h11, hs⟩ := wrb_some hs
      refine yi_putV (f := 25) (ty := .int) dX12_says_31 sh_149 rfl ok_9 (by decide) w_1033 rfl rfl pf_I rfl rfl h11 ?_
      refine xi_iinc (v := (c + 1)) (lv' := [(2, .int (c + 1)), (0, .ref 149), (1, .float 6)]) 2 dX12_says_34 rfl rfl (by decide) rfl ?_
      refine xi_goto (tgt := 2) dX12_says_37 (by decide) ?_
      refine xi_sub (lv' := [(0, .ref 149), (1, .float 6), (2, .int (c + 1))]) [1, 2, 0] rfl ?_
      obtain ⟨rfl, rfl⟩ := some_pair hs
      exact ih (c + 1) t10 _ _ h HE
noncomputable def FX12_says_s6 (σ : St) : Option ((Unit) × St) :=
  (bnd (wh (SX12_says_s6_2) (0 : Int32) σ) (fun e12 t13 => (some ((), t13))))
set_option maxHeartbeats 4000000 in
set_option maxRecDepth 100000 in
theorem KX12_says_s6 (G : xG) (Gb : xMem) (σ : St) (r0 : Unit) (t0 : St) (hq : FX12_says_s6 σ = some (r0, t0)) : xC G mX12_says 4 0 0 [.ref 149, .float 6] (mem σ Gb) (PV r0 t0 Gb) := by
  unfold FX12_says_s6 at hq
  refine xC.of (by decide) (Nat.le_of_ble_eq_true rfl) ?_
  show xW _ _ _ _ 0 [(0, .ref 149), (1, .float 6)] [] _ 0 0
  refine xi_iconst (v := 0) dX12_says_0 (by decide) ?_
  refine xi_istore_n (lv' := [(2, .int 0), (0, .ref 149), (1, .float 6)]) dX12_says_1 (by decide) rfl ?_
  refine xi_sub (lv' := [(0, .ref 149), (1, .float 6), (2, .int 0)]) [1, 2, 0] rfl ?_
  obtain ⟨e12, t13, k14, hq⟩ := bnd_some hq
  obtain ⟨n15, k14⟩ := wh_itr k14
  refine SX12_says_s6_2_w G Gb r0 t0 n15 (0 : Int32) σ _ _ k14 ?_
  show xW G mX12_says (xrm 4 0 0) (xQ G (PV r0 t0 Gb) 0 0) 40 [] [] (mem t13 Gb) 0 0
  have r16 := some_pair hq
  obtain ⟨rfl, rfl⟩ := r16
  exact xi_vret dX12_says_40 rfl (Nat.le_of_ble_eq_true rfl) (Nat.le_of_ble_eq_true rfl) ⟨rfl, rfl⟩
noncomputable def SX12_says_s7_2 (c : Int32) (σ : St) : Option (((Int32) ⊕ (Unit)) × St) :=
  (if (1 : Int32) ≤ c then (some (Sum.inr (), σ)) else (rdb σ 149 (25) (fun v2 => (chk (inb c 1) (chk (inb v2 400) (wrb σ 162 (v2.toNatClampNeg) (chr [44] c) (fun t6 => (rdb t6 149 (25) (fun v8 => (wrb t6 149 (25) (v8 + (1 : Int32)) (fun t10 => (some (Sum.inl (c + 1), t10)))))))))))))
set_option maxHeartbeats 4000000 in
set_option maxRecDepth 100000 in
theorem SX12_says_s7_2_w (G : xG) (Gb : xMem) (r0 : Unit) (t0 : St) :
    ∀ (k : Nat) (c : Int32) (σ : St) (r : Unit) (σ' : St), itr (SX12_says_s7_2) k c σ = some (r, σ') → (xW G mX12_says (xrm 4 0 0) (xQ G (PV r0 t0 Gb) 0 0) 40 [] [] (mem σ' Gb) 0 0) → xW G mX12_says (xrm 4 0 0) (xQ G (PV r0 t0 Gb) 0 0) 2 [(0, .ref 149), (1, .float 7), (2, .int c)] [] (mem σ Gb) 0 0 := by
  intro k
  induction k with
  | zero =>
    intro c σ r σ' h
    exact absurd h (itr_zero _ _ _ _)
  | succ k ih =>
    intro c σ r σ' h HE
    obtain ⟨x, s1, hs, h⟩ := itr_succ h
    unfold SX12_says_s7_2 at hs
    refine xi_iload_n 2 dX12_says_2 rfl ?_
    refine xi_aload_nS 1 dX12_says_3 rfl ?_
    refine xi_callVS (as := []) (rest := [.int c]) dX12_says_4 (K_slen G st_7 rfl) mkJ0_length_8abf5 w_329 w_330 w_1152 st_7 rfl rfl rfl rfl (Nat.le_of_ble_eq_true rfl) (Nat.le_of_ble_eq_true rfl) (Nat.le_of_ble_eq_true rfl) (Nat.le_of_ble_eq_true rfl) (Nat.le_of_ble_eq_true rfl) ?_
    intro v M2 hz
    obtain ⟨rfl, rfl⟩ := hz
    show xW _ _ _ _ 7 _ [.int 1, .int c] (mem σ Gb) _ _
    refine xi_icmp_ge (tgt := 40) dX12_says_7 (by decide) (fun c1 => ?_) (fun c1 => ?_)
    · replace hs := ite_p c1 hs
      refine xi_sub (lv' := []) [] rfl ?_
      obtain ⟨rfl, rfl⟩ := some_pair hs
      obtain ⟨rfl, rfl⟩ := some_pair h
      exact HE
    · replace hs := ite_n c1 hs
      refine xi_aload_n 0 dX12_says_10 rfl ?_
      refine yi_getR (f := 24) dX12_says_11 sh_149 rfl ok_9 (by decide) w_1032 rfl ?_
      refine xi_aload_n 0 dX12_says_14 rfl ?_
      obtain ⟨v2, h3, hs⟩ := rdb_some hs
      refine yi_getV (f := 25) dX12_says_15 sh_149 rfl ok_9 (by decide) w_1033 rfl h3 ?_
      refine xi_aload_nS 1 dX12_says_18 rfl ?_
      refine xi_iload_n 2 dX12_says_19 rfl ?_
      obtain ⟨g4, hs⟩ := chk_some hs
      refine xi_callVS (as := [.int c]) (rest := [.int v2, .ref 162]) dX12_says_20 (K_schar G st_7 rfl g4) mkJ0_charAt_5068e w_339 w_340 w_1153 st_7 rfl rfl rfl rfl (Nat.le_of_ble_eq_true rfl) (Nat.le_of_ble_eq_true rfl) (Nat.le_of_ble_eq_true rfl) (Nat.le_of_ble_eq_true rfl) (Nat.le_of_ble_eq_true rfl) ?_
      intro v M2 hz
      obtain ⟨rfl, rfl⟩ := hz
      show xW _ _ _ _ 23 _ [.int (chr [44] c), .int v2, .ref 162] (mem σ Gb) _ _
      obtain ⟨g5, hs⟩ := chk_some hs
      obtain ⟨t6, h7, hs⟩ := wrb_some hs
      refine yi_iastoreV dX12_says_23 sh_162 g5 h7 ?_
      refine xi_aload_n 0 dX12_says_24 rfl ?_
      refine xi_dup dX12_says_25 rfl ?_
      obtain ⟨v8, h9, hs⟩ := rdb_some hs
      refine yi_getV (f := 25) dX12_says_26 sh_149 rfl ok_9 (by decide) w_1033 rfl h9 ?_
      refine xi_iconst (v := 1) dX12_says_29 (by decide) ?_
      refine xi_iadd (v := v8 + (1 : Int32)) dX12_says_30 rfl ?_
      obtain ⟨t10, h11, hs⟩ := wrb_some hs
      refine yi_putV (f := 25) (ty := .int) dX12_says_31 sh_149 rfl ok_9 (by decide) w_1033 rfl rfl pf_I rfl rfl h11 ?_
      refine xi_iinc (v := (c + 1)) (lv' := [(2, .int (c + 1)), (0, .ref 149), (1, .float 7)]) 2 dX12_says_34 rfl rfl (by decide) rfl ?_
      refine xi_goto (tgt := 2) dX12_says_37 (by decide) ?_
      refine xi_sub (lv' := [(0, .ref 149), (1, .float 7), (2, .int (c + 1))]) [1, 2, 0] rfl ?_
      obtain ⟨rfl, rfl⟩ := some_pair hs
      exact ih (c + 1) t10 _ _ h HE
noncomputable def FX12_says_s7 (σ : St) : Option ((Unit) × St) :=
  (bnd (wh (SX12_says_s7_2) (0 : Int32) σ) (fun e12 t13 => (some ((), t13))))
set_option maxHeartbeats 4000000 in
set_option maxRecDepth 100000 in
theorem KX12_says_s7 (G : xG) (Gb : xMem) (σ : St) (r0 : Unit) (t0 : St) (hq : FX12_says_s7 σ = some (r0, t0)) : xC G mX12_says 4 0 0 [.ref 149, .float 7] (mem σ Gb) (PV r0 t0 Gb) := by
  unfold FX12_says_s7 at hq
  refine xC.of (by decide) (Nat.le_of_ble_eq_true rfl) ?_
  show xW _ _ _ _ 0 [(0, .ref 149), (1, .float 7)] [] _ 0 0
  refine xi_iconst (v := 0) dX12_says_0 (by decide) ?_
  refine xi_istore_n (lv' := [(2, .int 0), (0, .ref 149), (1, .float 7)]) dX12_says_1 (by decide) rfl ?_
  refine xi_sub (lv' := [(0, .ref 149), (1, .float 7), (2, .int 0)]) [1, 2, 0] rfl ?_
  obtain ⟨e12, t13, k14, hq⟩ := bnd_some hq
  obtain ⟨n15, k14⟩ := wh_itr k14
  refine SX12_says_s7_2_w G Gb r0 t0 n15 (0 : Int32) σ _ _ k14 ?_
  show xW G mX12_says (xrm 4 0 0) (xQ G (PV r0 t0 Gb) 0 0) 40 [] [] (mem t13 Gb) 0 0
  have r16 := some_pair hq
  obtain ⟨rfl, rfl⟩ := r16
  exact xi_vret dX12_says_40 rfl (Nat.le_of_ble_eq_true rfl) (Nat.le_of_ble_eq_true rfl) ⟨rfl, rfl⟩
noncomputable def SX12_says_s8_2 (c : Int32) (σ : St) : Option (((Int32) ⊕ (Unit)) × St) :=
  (if (1 : Int32) ≤ c then (some (Sum.inr (), σ)) else (rdb σ 149 (25) (fun v2 => (chk (inb c 1) (chk (inb v2 400) (wrb σ 162 (v2.toNatClampNeg) (chr [58] c) (fun t6 => (rdb t6 149 (25) (fun v8 => (wrb t6 149 (25) (v8 + (1 : Int32)) (fun t10 => (some (Sum.inl (c + 1), t10)))))))))))))
set_option maxHeartbeats 4000000 in
set_option maxRecDepth 100000 in
theorem SX12_says_s8_2_w (G : xG) (Gb : xMem) (r0 : Unit) (t0 : St) :
    ∀ (k : Nat) (c : Int32) (σ : St) (r : Unit) (σ' : St), itr (SX12_says_s8_2) k c σ = some (r, σ') → (xW G mX12_says (xrm 4 0 0) (xQ G (PV r0 t0 Gb) 0 0) 40 [] [] (mem σ' Gb) 0 0) → xW G mX12_says (xrm 4 0 0) (xQ G (PV r0 t0 Gb) 0 0) 2 [(0, .ref 149), (1, .float 8), (2, .int c)] [] (mem σ Gb) 0 0 := by
  intro k
  induction k with
  | zero =>
    intro c σ r σ' h
    exact absurd h (itr_zero _ _ _ _)
  | succ k ih =>
    intro c σ r σ' h HE
    obtain ⟨x, s1, hs, h⟩ := itr_succ h
    unfold SX12_says_s8_2 at hs
    refine xi_iload_n 2 dX12_says_2 rfl ?_
    refine xi_aload_nS 1 dX12_says_3 rfl ?_
    refine xi_callVS (as := []) (rest := [.int c]) dX12_says_4 (K_slen G st_8 rfl) mkJ0_length_8abf5 w_329 w_330 w_1152 st_8 rfl rfl rfl rfl (Nat.le_of_ble_eq_true rfl) (Nat.le_of_ble_eq_true rfl) (Nat.le_of_ble_eq_true rfl) (Nat.le_of_ble_eq_true rfl) (Nat.le_of_ble_eq_true rfl) ?_
    intro v M2 hz
    obtain ⟨rfl, rfl⟩ := hz
    show xW _ _ _ _ 7 _ [.int 1, .int c] (mem σ Gb) _ _
    refine xi_icmp_ge (tgt := 40) dX12_says_7 (by decide) (fun c1 => ?_) (fun c1 => ?_)
    · replace hs := ite_p c1 hs
      refine xi_sub (lv' := []) [] rfl ?_
      obtain ⟨rfl, rfl⟩ := some_pair hs
      obtain ⟨rfl, rfl⟩ := some_pair h
      exact HE
    · replace hs := ite_n c1 hs
      refine xi_aload_n 0 dX12_says_10 rfl ?_
      refine yi_getR (f := 24) dX12_says_11 sh_149 rfl ok_9 (by decide) w_1032 rfl ?_
      refine xi_aload_n 0 dX12_says_14 rfl ?_
      obtain ⟨v2, h3, hs⟩ := rdb_some hs
      refine yi_getV (f := 25) dX12_says_15 sh_149 rfl ok_9 (by decide) w_1033 rfl h3 ?_
      refine xi_aload_nS 1 dX12_says_18 rfl ?_
      refine xi_iload_n 2 dX12_says_19 rfl ?_
      obtain ⟨g4, hs⟩ := chk_some hs
      refine xi_callVS (as := [.int c]) (rest := [.int v2, .ref 162]) dX12_says_20 (K_schar G st_8 rfl g4) mkJ0_charAt_5068e w_339 w_340 w_1153 st_8 rfl rfl rfl rfl (Nat.le_of_ble_eq_true rfl) (Nat.le_of_ble_eq_true rfl) (Nat.le_of_ble_eq_true rfl) (Nat.le_of_ble_eq_true rfl) (Nat.le_of_ble_eq_true rfl) ?_
      intro v M2 hz
      obtain ⟨rfl, rfl⟩ := hz
      show xW _ _ _ _ 23 _ [.int (chr [58] c), .int v2, .ref 162] (mem σ Gb) _ _
      obtain ⟨g5, hs⟩ := chk_some hs
      obtain ⟨t6, h7, hs⟩ := wrb_some hs
      refine yi_iastoreV dX12_says_23 sh_162 g5 h7 ?_
      refine xi_aload_n 0 dX12_says_24 rfl ?_
      refine xi_dup dX12_says_25 rfl ?_
      obtain ⟨v8, h9, hs⟩ := rdb_some hs
      refine yi_getV (f := 25) dX12_says_26 sh_149 rfl ok_9 (by decide) w_1033 rfl h9 ?_
      refine xi_iconst (v := 1) dX12_says_29 (by decide) ?_
      refine xi_iadd (v := v8 + (1 : Int32)) dX12_says_30 rfl ?_
      obtain ⟨t10, h11, hs⟩ := wrb_some hs
      refine yi_putV (f := 25) (ty := .int) dX12_says_31 sh_149 rfl ok_9 (by decide) w_1033 rfl rfl pf_I rfl rfl h11 ?_
      refine xi_iinc (v := (c + 1)) (lv' := [(2, .int (c + 1)), (0, .ref 149), (1, .float 8)]) 2 dX12_says_34 rfl rfl (by decide) rfl ?_
      refine xi_goto (tgt := 2) dX12_says_37 (by decide) ?_
      refine xi_sub (lv' := [(0, .ref 149), (1, .float 8), (2, .int (c + 1))]) [1, 2, 0] rfl ?_
      obtain ⟨rfl, rfl⟩ := some_pair hs
      exact ih (c + 1) t10 _ _ h HE
noncomputable def FX12_says_s8 (σ : St) : Option ((Unit) × St) :=
  (bnd (wh (SX12_says_s8_2) (0 : Int32) σ) (fun e12 t13 => (some ((), t13))))
set_option maxHeartbeats 4000000 in
set_option maxRecDepth 100000 in
theorem KX12_says_s8 (G : xG) (Gb : xMem) (σ : St) (r0 : Unit) (t0 : St) (hq : FX12_says_s8 σ = some (r0, t0)) : xC G mX12_says 4 0 0 [.ref 149, .float 8] (mem σ Gb) (PV r0 t0 Gb) := by
  unfold FX12_says_s8 at hq
  refine xC.of (by decide) (Nat.le_of_ble_eq_true rfl) ?_
  show xW _ _ _ _ 0 [(0, .ref 149), (1, .float 8)] [] _ 0 0
  refine xi_iconst (v := 0) dX12_says_0 (by decide) ?_
  refine xi_istore_n (lv' := [(2, .int 0), (0, .ref 149), (1, .float 8)]) dX12_says_1 (by decide) rfl ?_
  refine xi_sub (lv' := [(0, .ref 149), (1, .float 8), (2, .int 0)]) [1, 2, 0] rfl ?_
  obtain ⟨e12, t13, k14, hq⟩ := bnd_some hq
  obtain ⟨n15, k14⟩ := wh_itr k14
  refine SX12_says_s8_2_w G Gb r0 t0 n15 (0 : Int32) σ _ _ k14 ?_
  show xW G mX12_says (xrm 4 0 0) (xQ G (PV r0 t0 Gb) 0 0) 40 [] [] (mem t13 Gb) 0 0
  have r16 := some_pair hq
  obtain ⟨rfl, rfl⟩ := r16
  exact xi_vret dX12_says_40 rfl (Nat.le_of_ble_eq_true rfl) (Nat.le_of_ble_eq_true rfl) ⟨rfl, rfl⟩
noncomputable def SX12_says_s9_2 (c : Int32) (σ : St) : Option (((Int32) ⊕ (Unit)) × St) :=
  (if (1 : Int32) ≤ c then (some (Sum.inr (), σ)) else (rdb σ 149 (25) (fun v2 => (chk (inb c 1) (chk (inb v2 400) (wrb σ 162 (v2.toNatClampNeg) (chr [45] c) (fun t6 => (rdb t6 149 (25) (fun v8 => (wrb t6 149 (25) (v8 + (1 : Int32)) (fun t10 => (some (Sum.inl (c + 1), t10)))))))))))))
set_option maxHeartbeats 4000000 in
set_option maxRecDepth 100000 in
theorem SX12_says_s9_2_w (G : xG) (Gb : xMem) (r0 : Unit) (t0 : St) :
    ∀ (k : Nat) (c : Int32) (σ : St) (r : Unit) (σ' : St), itr (SX12_says_s9_2) k c σ = some (r, σ') → (xW G mX12_says (xrm 4 0 0) (xQ G (PV r0 t0 Gb) 0 0) 40 [] [] (mem σ' Gb) 0 0) → xW G mX12_says (xrm 4 0 0) (xQ G (PV r0 t0 Gb) 0 0) 2 [(0, .ref 149), (1, .float 9), (2, .int c)] [] (mem σ Gb) 0 0 := by
  intro k
  induction k with
  | zero =>
    intro c σ r σ' h
    exact absurd h (itr_zero _ _ _ _)
  | succ k ih =>
    intro c σ r σ' h HE
    obtain ⟨x, s1, hs, h⟩ := itr_succ h
    unfold SX12_says_s9_2 at hs
    refine xi_iload_n 2 dX12_says_2 rfl ?_
    refine xi_aload_nS 1 dX12_says_3 rfl ?_
    refine xi_callVS (as := []) (rest := [.int c]) dX12_says_4 (K_slen G st_9 rfl) mkJ0_length_8abf5 w_329 w_330 w_1152 st_9 rfl rfl rfl rfl (Nat.le_of_ble_eq_true rfl) (Nat.le_of_ble_eq_true rfl) (Nat.le_of_ble_eq_true rfl) (Nat.le_of_ble_eq_true rfl) (Nat.le_of_ble_eq_true rfl) ?_
    intro v M2 hz
    obtain ⟨rfl, rfl⟩ := hz
    show xW _ _ _ _ 7 _ [.int 1, .int c] (mem σ Gb) _ _
    refine xi_icmp_ge (tgt := 40) dX12_says_7 (by decide) (fun c1 => ?_) (fun c1 => ?_)
    · replace hs := ite_p c1 hs
      refine xi_sub (lv' := []) [] rfl ?_
      obtain ⟨rfl, rfl⟩ := some_pair hs
      obtain ⟨rfl, rfl⟩ := some_pair h
      exact HE
    · replace hs := ite_n c1 hs
      refine xi_aload_n 0 dX12_says_10 rfl ?_
      refine yi_getR (f := 24) dX12_says_11 sh_149 rfl ok_9 (by decide) w_1032 rfl ?_
      refine xi_aload_n 0 dX12_says_14 rfl ?_
      obtain ⟨v2, h3, hs⟩ := rdb_some hs
      refine yi_getV (f := 25) dX12_says_15 sh_149 rfl ok_9 (by decide) w_1033 rfl h3 ?_
      refine xi_aload_nS 1 dX12_says_18 rfl ?_
      refine xi_iload_n 2 dX12_says_19 rfl ?_
      obtain ⟨g4, hs⟩ := chk_some hs
      refine xi_callVS (as := [.int c]) (rest := [.int v2, .ref 162]) dX12_says_20 (K_schar G st_9 rfl g4) mkJ0_charAt_5068e w_339 w_340 w_1153 st_9 rfl rfl rfl rfl (Nat.le_of_ble_eq_true rfl) (Nat.le_of_ble_eq_true rfl) (Nat.le_of_ble_eq_true rfl) (Nat.le_of_ble_eq_true rfl) (Nat.le_of_ble_eq_true rfl) ?_
      intro v M2 hz
      obtain ⟨rfl, rfl⟩ := hz
      show xW _ _ _ _ 23 _ [.int (chr [45] c), .int v2, .ref 162] (mem σ Gb) _ _
      obtain ⟨g5, hs⟩ := chk_some hs
      obtain ⟨t6, h7, hs⟩ := wrb_some hs
      refine yi_iastoreV dX12_says_23 sh_162 g5 h7 ?_
      refine xi_aload_n 0 dX12_says_24 rfl ?_
      refine xi_dup dX12_says_25 rfl ?_
      obtain ⟨v8, h9, hs⟩ := rdb_some hs
      refine yi_getV (f := 25) dX12_says_26 sh_149 rfl ok_9 (by decide) w_1033 rfl h9 ?_
      refine xi_iconst (v := 1) dX12_says_29 (by decide) ?_
      refine xi_iadd (v := v8 + (1 : Int32)) dX12_says_30 rfl ?_
      obtain ⟨t10, h11, hs⟩ := wrb_some hs
      refine yi_putV (f := 25) (ty := .int) dX12_says_31 sh_149 rfl ok_9 (by decide) w_1033 rfl rfl pf_I rfl rfl h11 ?_
      refine xi_iinc (v := (c + 1)) (lv' := [(2, .int (c + 1)), (0, .ref 149), (1, .float 9)]) 2 dX12_says_34 rfl rfl (by decide) rfl ?_
      refine xi_goto (tgt := 2) dX12_says_37 (by decide) ?_
      refine xi_sub (lv' := [(0, .ref 149), (1, .float 9), (2, .int (c + 1))]) [1, 2, 0] rfl ?_
      obtain ⟨rfl, rfl⟩ := some_pair hs
      exact ih (c + 1) t10 _ _ h HE
noncomputable def FX12_says_s9 (σ : St) : Option ((Unit) × St) :=
  (bnd (wh (SX12_says_s9_2) (0 : Int32) σ) (fun e12 t13 => (some ((), t13))))
set_option maxHeartbeats 4000000 in
set_option maxRecDepth 100000 in
theorem KX12_says_s9 (G : xG) (Gb : xMem) (σ : St) (r0 : Unit) (t0 : St) (hq : FX12_says_s9 σ = some (r0, t0)) : xC G mX12_says 4 0 0 [.ref 149, .float 9] (mem σ Gb) (PV r0 t0 Gb) := by
  unfold FX12_says_s9 at hq
  refine xC.of (by decide) (Nat.le_of_ble_eq_true rfl) ?_
  show xW _ _ _ _ 0 [(0, .ref 149), (1, .float 9)] [] _ 0 0
  refine xi_iconst (v := 0) dX12_says_0 (by decide) ?_
  refine xi_istore_n (lv' := [(2, .int 0), (0, .ref 149), (1, .float 9)]) dX12_says_1 (by decide) rfl ?_
  refine xi_sub (lv' := [(0, .ref 149), (1, .float 9), (2, .int 0)]) [1, 2, 0] rfl ?_
  obtain ⟨e12, t13, k14, hq⟩ := bnd_some hq
  obtain ⟨n15, k14⟩ := wh_itr k14
  refine SX12_says_s9_2_w G Gb r0 t0 n15 (0 : Int32) σ _ _ k14 ?_
  show xW G mX12_says (xrm 4 0 0) (xQ G (PV r0 t0 Gb) 0 0) 40 [] [] (mem t13 Gb) 0 0
  have r16 := some_pair hq
  obtain ⟨rfl, rfl⟩ := r16
  exact xi_vret dX12_says_40 rfl (Nat.le_of_ble_eq_true rfl) (Nat.le_of_ble_eq_true rfl) ⟨rfl, rfl⟩
noncomputable def SX12_says_s10_2 (c : Int32) (σ : St) : Option (((Int32) ⊕ (Unit)) × St) :=
  (if (1 : Int32) ≤ c then (some (Sum.inr (), σ)) else (rdb σ 149 (25) (fun v2 => (chk (inb c 1) (chk (inb v2 400) (wrb σ 162 (v2.toNatClampNeg) (chr [61] c) (fun t6 => (rdb t6 149 (25) (fun v8 => (wrb t6 149 (25) (v8 + (1 : Int32)) (fun t10 => (some (Sum.inl (c + 1), t10)))))))))))))
set_option maxHeartbeats 4000000 in
set_option maxRecDepth 100000 in
theorem SX12_says_s10_2_w (G : xG) (Gb : xMem) (r0 : Unit) (t0 : St) :
    ∀ (k : Nat) (c : Int32) (σ : St) (r : Unit) (σ' : St), itr (SX12_says_s10_2) k c σ = some (r, σ') → (xW G mX12_says (xrm 4 0 0) (xQ G (PV r0 t0 Gb) 0 0) 40 [] [] (mem σ' Gb) 0 0) → xW G mX12_says (xrm 4 0 0) (xQ G (PV r0 t0 Gb) 0 0) 2 [(0, .ref 149), (1, .float 10), (2, .int c)] [] (mem σ Gb) 0 0 := by
  intro k
  induction k with
  | zero =>
    intro c σ r σ' h
    exact absurd h (itr_zero _ _ _ _)
  | succ k ih =>
    intro c σ r σ' h HE
    obtain ⟨x, s1, hs, h⟩ := itr_succ h
    unfold SX12_says_s10_2 at hs
    refine xi_iload_n 2 dX12_says_2 rfl ?_
    refine xi_aload_nS 1 dX12_says_3 rfl ?_
    refine xi_callVS (as := []) (rest := [.int c]) dX12_says_4 (K_slen G st_10 rfl) mkJ0_length_8abf5 w_329 w_330 w_1152 st_10 rfl rfl rfl rfl (Nat.le_of_ble_eq_true rfl) (Nat.le_of_ble_eq_true rfl) (Nat.le_of_ble_eq_true rfl) (Nat.le_of_ble_eq_true rfl) (Nat.le_of_ble_eq_true rfl) ?_
    intro v M2 hz
    obtain ⟨rfl, rfl⟩ := hz
    show xW _ _ _ _ 7 _ [.int 1, .int c] (mem σ Gb) _ _
    refine xi_icmp_ge (tgt := 40) dX12_says_7 (by decide) (fun c1 => ?_) (fun c1 => ?_)
    · replace hs := ite_p c1 hs
      refine xi_sub (lv' := []) [] rfl ?_
      obtain ⟨rfl, rfl⟩ := some_pair hs
      obtain ⟨rfl, rfl⟩ := some_pair h
      exact HE
    · replace hs := ite_n c1 hs
      refine xi_aload_n 0 dX12_says_10 rfl ?_
      refine yi_getR (f := 24) dX12_says_11 sh_149 rfl ok_9 (by decide) w_1032 rfl ?_
      refine xi_aload_n 0 dX12_says_14 rfl ?_
      obtain ⟨v2, h3, hs⟩ := rdb_some hs
      refine yi_getV (f := 25) dX12_says_15 sh_149 rfl ok_9 (by decide) w_1033 rfl h3 ?_
      refine xi_aload_nS 1 dX12_says_18 rfl ?_
      refine xi_iload_n 2 dX12_says_19 rfl ?_
      obtain ⟨g4, hs⟩ := chk_some hs
      refine xi_callVS (as := [.int c]) (rest := [.int v2, .ref 162]) dX12_says_20 (K_schar G st_10 rfl g4) mkJ0_charAt_5068e w_339 w_340 w_1153 st_10 rfl rfl rfl rfl (Nat.le_of_ble_eq_true rfl) (Nat.le_of_ble_eq_true rfl) (Nat.le_of_ble_eq_true rfl) (Nat.le_of_ble_eq_true rfl) (Nat.le_of_ble_eq_true rfl) ?_
      intro v M2 hz
      obtain ⟨rfl, rfl⟩ := hz
      show xW _ _ _ _ 23 _ [.int (chr [61] c), .int v2, .ref 162] (mem σ Gb) _ _
      obtain ⟨g5, hs⟩ := chk_some hs
      obtain ⟨t6, h7, hs⟩ := wrb_some hs
      refine yi_iastoreV dX12_says_23 sh_162 g5 h7 ?_
      refine xi_aload_n 0 dX12_says_24 rfl ?_
      refine xi_dup dX12_says_25 rfl ?_
      obtain ⟨v8, h9, hs⟩ := rdb_some hs
      refine yi_getV (f := 25) dX12_says_26 sh_149 rfl ok_9 (by decide) w_1033 rfl h9 ?_
      refine xi_iconst (v := 1) dX12_says_29 (by decide) ?_
      refine xi_iadd (v := v8 + (1 : Int32)) dX12_says_30 rfl ?_
      obtain ⟨t10, h11, hs⟩ := wrb_some hs
      refine yi_putV (f := 25) (ty := .int) dX12_says_31 sh_149 rfl ok_9 (by decide) w_1033 rfl rfl pf_I rfl rfl h11 ?_
      refine xi_iinc (v := (c + 1)) (lv' := [(2, .int (c + 1)), (0, .ref 149), (1, .float 10)]) 2 dX12_says_34 rfl rfl (by decide) rfl ?_
      refine xi_goto (tgt := 2) dX12_says_37 (by decide) ?_
      refine xi_sub (lv' := [(0, .ref 149), (1, .float 10), (2, .int (c + 1))]) [1, 2, 0] rfl ?_
      obtain ⟨rfl, rfl⟩ := some_pair hs
      exact ih (c + 1) t10 _ _ h HE
noncomputable def FX12_says_s10 (σ : St) : Option ((Unit) × St) :=
  (bnd (wh (SX12_says_s10_2) (0 : Int32) σ) (fun e12 t13 => (some ((), t13))))
set_option maxHeartbeats 4000000 in
set_option maxRecDepth 100000 in
theorem KX12_says_s10 (G : xG) (Gb : xMem) (σ : St) (r0 : Unit) (t0 : St) (hq : FX12_says_s10 σ = some (r0, t0)) : xC G mX12_says 4 0 0 [.ref 149, .float 10] (mem σ Gb) (PV r0 t0 Gb) := by
  unfold FX12_says_s10 at hq
  refine xC.of (by decide) (Nat.le_of_ble_eq_true rfl) ?_
  show xW _ _ _ _ 0 [(0, .ref 149), (1, .float 10)] [] _ 0 0
  refine xi_iconst (v := 0) dX12_says_0 (by decide) ?_
  refine xi_istore_n (lv' := [(2, .int 0), (0, .ref 149), (1, .float 10)]) dX12_says_1 (by decide) rfl ?_
  refine xi_sub (lv' := [(0, .ref 149), (1, .float 10), (2, .int 0)]) [1, 2, 0] rfl ?_
  obtain ⟨e12, t13, k14, hq⟩ := bnd_some hq
  obtain ⟨n15, k14⟩ := wh_itr k14
  refine SX12_says_s10_2_w G Gb r0 t0 n15 (0 : Int32) σ _ _ k14 ?_
  show xW G mX12_says (xrm 4 0 0) (xQ G (PV r0 t0 Gb) 0 0) 40 [] [] (mem t13 Gb) 0 0
  have r16 := some_pair hq
  obtain ⟨rfl, rfl⟩ := r16
  exact xi_vret dX12_says_40 rfl (Nat.le_of_ble_eq_true rfl) (Nat.le_of_ble_eq_true rfl) ⟨rfl, rfl⟩
noncomputable def SX12_says_s11_2 (c : Int32) (σ : St) : Option (((Int32) ⊕ (Unit)) × St) :=
  (if (5 : Int32) ≤ c then (some (Sum.inr (), σ)) else (rdb σ 149 (25) (fun v2 => (chk (inb c 5) (chk (inb v2 400) (wrb σ 162 (v2.toNatClampNeg) (chr [59, 114, 111, 119, 32] c) (fun t6 => (rdb t6 149 (25) (fun v8 => (wrb t6 149 (25) (v8 + (1 : Int32)) (fun t10 => (some (Sum.inl (c + 1), t10)))))))))))))
set_option maxHeartbeats 4000000 in
set_option maxRecDepth 100000 in
theorem SX12_says_s11_2_w (G : xG) (Gb : xMem) (r0 : Unit) (t0 : St) :
    ∀ (k : Nat) (c : Int32) (σ : St) (r : Unit) (σ' : St), itr (SX12_says_s11_2) k c σ = some (r, σ') → (xW G mX12_says (xrm 4 0 0) (xQ G (PV r0 t0 Gb) 0 0) 40 [] [] (mem σ' Gb) 0 0) → xW G mX12_says (xrm 4 0 0) (xQ G (PV r0 t0 Gb) 0 0) 2 [(0, .ref 149), (1, .float 11), (2, .int c)] [] (mem σ Gb) 0 0 := by
  intro k
  induction k with
  | zero =>
    intro c σ r σ' h
    exact absurd h (itr_zero _ _ _ _)
  | succ k ih =>
    intro c σ r σ' h HE
    obtain ⟨x, s1, hs, h⟩ := itr_succ h
    unfold SX12_says_s11_2 at hs
    refine xi_iload_n 2 dX12_says_2 rfl ?_
    refine xi_aload_nS 1 dX12_says_3 rfl ?_
    refine xi_callVS (as := []) (rest := [.int c]) dX12_says_4 (K_slen G st_11 rfl) mkJ0_length_8abf5 w_329 w_330 w_1152 st_11 rfl rfl rfl rfl (Nat.le_of_ble_eq_true rfl) (Nat.le_of_ble_eq_true rfl) (Nat.le_of_ble_eq_true rfl) (Nat.le_of_ble_eq_true rfl) (Nat.le_of_ble_eq_true rfl) ?_
    intro v M2 hz
    obtain ⟨rfl, rfl⟩ := hz
    show xW _ _ _ _ 7 _ [.int 5, .int c] (mem σ Gb) _ _
    refine xi_icmp_ge (tgt := 40) dX12_says_7 (by decide) (fun c1 => ?_) (fun c1 => ?_)
    · replace hs := ite_p c1 hs
      refine xi_sub (lv' := []) [] rfl ?_
      obtain ⟨rfl, rfl⟩ := some_pair hs
      obtain ⟨rfl, rfl⟩ := some_pair h
      exact HE
    · replace hs := ite_n c1 hs
      refine xi_aload_n 0 dX12_says_10 rfl ?_
      refine yi_getR (f := 24) dX12_says_11 sh_149 rfl ok_9 (by decide) w_1032 rfl ?_
      refine xi_aload_n 0 dX12_says_14 rfl ?_
      obtain ⟨v2, h3, hs⟩ := rdb_some hs
      refine yi_getV (f := 25) dX12_says_15 sh_149 rfl ok_9 (by decide) w_1033 rfl h3 ?_
      refine xi_aload_nS 1 dX12_says_18 rfl ?_
      refine xi_iload_n 2 dX12_says_19 rfl ?_
      obtain ⟨g4, hs⟩ := chk_some hs
      refine xi_callVS (as := [.int c]) (rest := [.int v2, .ref 162]) dX12_says_20 (K_schar G st_11 rfl g4) mkJ0_charAt_5068e w_339 w_340 w_1153 st_11 rfl rfl rfl rfl (Nat.le_of_ble_eq_true rfl) (Nat.le_of_ble_eq_true rfl) (Nat.le_of_ble_eq_true rfl) (Nat.le_of_ble_eq_true rfl) (Nat.le_of_ble_eq_true rfl) ?_
      intro v M2 hz
      obtain ⟨rfl, rfl⟩ := hz
      show xW _ _ _ _ 23 _ [.int (chr [59, 114, 111, 119, 32] c), .int v2, .ref 162] (mem σ Gb) _ _
      obtain ⟨g5, hs⟩ := chk_some hs
      obtain ⟨t6, h7, hs⟩ := wrb_some hs
      refine yi_iastoreV dX12_says_23 sh_162 g5 h7 ?_
      refine xi_aload_n 0 dX12_says_24 rfl ?_
      refine xi_dup dX12_says_25 rfl ?_
      obtain ⟨v8, h9, hs⟩ := rdb_some hs
      refine yi_getV (f := 25) dX12_says_26 sh_149 rfl ok_9 (by decide) w_1033 rfl h9 ?_
      refine xi_iconst (v := 1) dX12_says_29 (by decide) ?_
      refine xi_iadd (v := v8 + (1 : Int32)) dX12_says_30 rfl ?_
      obtain ⟨t10, h11, hs⟩ := wrb_some hs
      refine yi_putV (f := 25) (ty := .int) dX12_says_31 sh_149 rfl ok_9 (by decide) w_1033 rfl rfl pf_I rfl rfl h11 ?_
      refine xi_iinc (v := (c + 1)) (lv' := [(2, .int (c + 1)), (0, .ref 149), (1, .float 11)]) 2 dX12_says_34 rfl rfl (by decide) rfl ?_
      refine xi_goto (tgt := 2) dX12_says_37 (by decide) ?_
      refine xi_sub (lv' := [(0, .ref 149), (1, .float 11), (2, .int (c + 1))]) [1, 2, 0] rfl ?_
      obtain ⟨rfl, rfl⟩ := some_pair hs
      exact ih (c + 1) t10 _ _ h HE
noncomputable def FX12_says_s11 (σ : St) : Option ((Unit) × St) :=
  (bnd (wh (SX12_says_s11_2) (0 : Int32) σ) (fun e12 t13 => (some ((), t13))))
set_option maxHeartbeats 4000000 in
set_option maxRecDepth 100000 in
theorem KX12_says_s11 (G : xG) (Gb : xMem) (σ : St) (r0 : Unit) (t0 : St) (hq : FX12_says_s11 σ = some (r0, t0)) : xC G mX12_says 4 0 0 [.ref 149, .float 11] (mem σ Gb) (PV r0 t0 Gb) := by
  unfold FX12_says_s11 at hq
  refine xC.of (by decide) (Nat.le_of_ble_eq_true rfl) ?_
  show xW _ _ _ _ 0 [(0, .ref 149), (1, .float 11)] [] _ 0 0
  refine xi_iconst (v := 0) dX12_says_0 (by decide) ?_
  refine xi_istore_n (lv' := [(2, .int 0), (0, .ref 149), (1, .float 11)]) dX12_says_1 (by decide) rfl ?_
  refine xi_sub (lv' := [(0, .ref 149), (1, .float 11), (2, .int 0)]) [1, 2, 0] rfl ?_
  obtain ⟨e12, t13, k14, hq⟩ := bnd_some hq
  obtain ⟨n15, k14⟩ := wh_itr k14
  refine SX12_says_s11_2_w G Gb r0 t0 n15 (0 : Int32) σ _ _ k14 ?_
  show xW G mX12_says (xrm 4 0 0) (xQ G (PV r0 t0 Gb) 0 0) 40 [] [] (mem t13 Gb) 0 0
  have r16 := some_pair hq
  obtain ⟨rfl, rfl⟩ := r16
  exact xi_vret dX12_says_40 rfl (Nat.le_of_ble_eq_true rfl) (Nat.le_of_ble_eq_true rfl) ⟨rfl, rfl⟩
noncomputable def SX12_says_s12_2 (c : Int32) (σ : St) : Option (((Int32) ⊕ (Unit)) × St) :=
  (if (1 : Int32) ≤ c then (some (Sum.inr (), σ)) else (rdb σ 149 (25) (fun v2 => (chk (inb c 1) (chk (inb v2 400) (wrb σ 162 (v2.toNatClampNeg) (chr [59] c) (fun t6 => (rdb t6 149 (25) (fun v8 => (wrb t6 149 (25) (v8 + (1 : Int32)) (fun t10 => (some (Sum.inl (c + 1), t10)))))))))))))
set_option maxHeartbeats 4000000 in
set_option maxRecDepth 100000 in
theorem SX12_says_s12_2_w (G : xG) (Gb : xMem) (r0 : Unit) (t0 : St) :
    ∀ (k : Nat) (c : Int32) (σ : St) (r : Unit) (σ' : St), itr (SX12_says_s12_2) k c σ = some (r, σ') → (xW G mX12_says (xrm 4 0 0) (xQ G (PV r0 t0 Gb) 0 0) 40 [] [] (mem σ' Gb) 0 0) → xW G mX12_says (xrm 4 0 0) (xQ G (PV r0 t0 Gb) 0 0) 2 [(0, .ref 149), (1, .float 12), (2, .int c)] [] (mem σ Gb) 0 0 := by
  intro k
  induction k with
  | zero =>
    intro c σ r σ' h
    exact absurd h (itr_zero _ _ _ _)
  | succ k ih =>
    intro c σ r σ' h HE
    obtain ⟨x, s1, hs, h⟩ := itr_succ h
    unfold SX12_says_s12_2 at hs
    refine xi_iload_n 2 dX12_says_2 rfl ?_
    refine xi_aload_nS 1 dX12_says_3 rfl ?_
    refine xi_callVS (as := []) (rest := [.int c]) dX12_says_4 (K_slen G st_12 rfl) mkJ0_length_8abf5 w_329 w_330 w_1152 st_12 rfl rfl rfl rfl (Nat.le_of_ble_eq_true rfl) (Nat.le_of_ble_eq_true rfl) (Nat.le_of_ble_eq_true rfl) (Nat.le_of_ble_eq_true rfl) (Nat.le_of_ble_eq_true rfl) ?_
    intro v M2 hz
    obtain ⟨rfl, rfl⟩ := hz
    show xW _ _ _ _ 7 _ [.int 1, .int c] (mem σ Gb) _ _
    refine xi_icmp_ge (tgt := 40) dX12_says_7 (by decide) (fun c1 => ?_) (fun c1 => ?_)
    · replace hs := ite_p c1 hs
      refine xi_sub (lv' := []) [] rfl ?_
      obtain ⟨rfl, rfl⟩ := some_pair hs
      obtain ⟨rfl, rfl⟩ := some_pair h
      exact HE
    · replace hs := ite_n c1 hs
      refine xi_aload_n 0 dX12_says_10 rfl ?_
      refine yi_getR (f := 24) dX12_says_11 sh_149 rfl ok_9 (by decide) w_1032 rfl ?_
      refine xi_aload_n 0 dX12_says_14 rfl ?_
      obtain ⟨v2, h3, hs⟩ := rdb_some hs
      refine yi_getV (f := 25) dX12_says_15 sh_149 rfl ok_9 (by decide) w_1033 rfl h3 ?_
      refine xi_aload_nS 1 dX12_says_18 rfl ?_
      refine xi_iload_n 2 dX12_says_19 rfl ?_
      obtain ⟨g4, hs⟩ := chk_some hs
      refine xi_callVS (as := [.int c]) (rest := [.int v2, .ref 162]) dX12_says_20 (K_schar G st_12 rfl g4) mkJ0_charAt_5068e w_339 w_340 w_1153 st_12 rfl rfl rfl rfl (Nat.le_of_ble_eq_true rfl) (Nat.le_of_ble_eq_true rfl) (Nat.le_of_ble_eq_true rfl) (Nat.le_of_ble_eq_true rfl) (Nat.le_of_ble_eq_true rfl) ?_
      intro v M2 hz
      obtain ⟨rfl, rfl⟩ := hz
      show xW _ _ _ _ 23 _ [.int (chr [59] c), .int v2, .ref 162] (mem σ Gb) _ _
      obtain ⟨g5, hs⟩ := chk_some hs
      obtain ⟨t6, h7, hs⟩ := wrb_some hs
      refine yi_iastoreV dX12_says_23 sh_162 g5 h7 ?_
      refine xi_aload_n 0 dX12_says_24 rfl ?_
      refine xi_dup dX12_says_25 rfl ?_
      obtain ⟨v8, h9, hs⟩ := rdb_some hs
      refine yi_getV (f := 25) dX12_says_26 sh_149 rfl ok_9 (by decide) w_1033 rfl h9 ?_
      refine xi_iconst (v := 1) dX12_says_29 (by decide) ?_
      refine xi_iadd (v := v8 + (1 : Int32)) dX12_says_30 rfl ?_
      obtain ⟨t10, h11, hs⟩ := wrb_some hs
      refine yi_putV (f := 25) (ty := .int) dX12_says_31 sh_149 rfl ok_9 (by decide) w_1033 rfl rfl pf_I rfl rfl h11 ?_
      refine xi_iinc (v := (c + 1)) (lv' := [(2, .int (c + 1)), (0, .ref 149), (1, .float 12)]) 2 dX12_says_34 rfl rfl (by decide) rfl ?_
      refine xi_goto (tgt := 2) dX12_says_37 (by decide) ?_
      refine xi_sub (lv' := [(0, .ref 149), (1, .float 12), (2, .int (c + 1))]) [1, 2, 0] rfl ?_
      obtain ⟨rfl, rfl⟩ := some_pair hs
      exact ih (c + 1) t10 _ _ h HE
noncomputable def FX12_says_s12 (σ : St) : Option ((Unit) × St) :=
  (bnd (wh (SX12_says_s12_2) (0 : Int32) σ) (fun e12 t13 => (some ((), t13))))
set_option maxHeartbeats 4000000 in
set_option maxRecDepth 100000 in
theorem KX12_says_s12 (G : xG) (Gb : xMem) (σ : St) (r0 : Unit) (t0 : St) (hq : FX12_says_s12 σ = some (r0, t0)) : xC G mX12_says 4 0 0 [.ref 149, .float 12] (mem σ Gb) (PV r0 t0 Gb) := by
  unfold FX12_says_s12 at hq
  refine xC.of (by decide) (Nat.le_of_ble_eq_true rfl) ?_
  show xW _ _ _ _ 0 [(0, .ref 149), (1, .float 12)] [] _ 0 0
  refine xi_iconst (v := 0) dX12_says_0 (by decide) ?_
  refine xi_istore_n (lv' := [(2, .int 0), (0, .ref 149), (1, .float 12)]) dX12_says_1 (by decide) rfl ?_
  refine xi_sub (lv' := [(0, .ref 149), (1, .float 12), (2, .int 0)]) [1, 2, 0] rfl ?_
  obtain ⟨e12, t13, k14, hq⟩ := bnd_some hq
  obtain ⟨n15, k14⟩ := wh_itr k14
  refine SX12_says_s12_2_w G Gb r0 t0 n15 (0 : Int32) σ _ _ k14 ?_
  show xW G mX12_says (xrm 4 0 0) (xQ G (PV r0 t0 Gb) 0 0) 40 [] [] (mem t13 Gb) 0 0
  have r16 := some_pair hq
  obtain ⟨rfl, rfl⟩ := r16
  exact xi_vret dX12_says_40 rfl (Nat.le_of_ble_eq_true rfl) (Nat.le_of_ble_eq_true rfl) ⟨rfl, rfl⟩
noncomputable def SX12_says_s13_2 (c : Int32) (σ : St) : Option (((Int32) ⊕ (Unit)) × St) :=
  (if (0 : Int32) ≤ c then (some (Sum.inr (), σ)) else (rdb σ 149 (25) (fun v2 => (chk (inb c 0) (chk (inb v2 400) (wrb σ 162 (v2.toNatClampNeg) (chr [] c) (fun t6 => (rdb t6 149 (25) (fun v8 => (wrb t6 149 (25) (v8 + (1 : Int32)) (fun t10 => (some (Sum.inl (c + 1), t10)))))))))))))
set_option maxHeartbeats 4000000 in
set_option maxRecDepth 100000 in
theorem SX12_says_s13_2_w (G : xG) (Gb : xMem) (r0 : Unit) (t0 : St) :
    ∀ (k : Nat) (c : Int32) (σ : St) (r : Unit) (σ' : St), itr (SX12_says_s13_2) k c σ = some (r, σ') → (xW G mX12_says (xrm 4 0 0) (xQ G (PV r0 t0 Gb) 0 0) 40 [] [] (mem σ' Gb) 0 0) → xW G mX12_says (xrm 4 0 0) (xQ G (PV r0 t0 Gb) 0 0) 2 [(0, .ref 149), (1, .float 13), (2, .int c)] [] (mem σ Gb) 0 0 := by
  intro k
  induction k with
  | zero =>
    intro c σ r σ' h
    exact absurd h (itr_zero _ _ _ _)
  | succ k ih =>
    intro c σ r σ' h HE
    obtain ⟨x, s1, hs, h⟩ := itr_succ h
    unfold SX12_says_s13_2 at hs
    refine xi_iload_n 2 dX12_says_2 rfl ?_
    refine xi_aload_nS 1 dX12_says_3 rfl ?_
    refine xi_callVS (as := []) (rest := [.int c]) dX12_says_4 (K_slen G st_13 rfl) mkJ0_length_8abf5 w_329 w_330 w_1152 st_13 rfl rfl rfl rfl (Nat.le_of_ble_eq_true rfl) (Nat.le_of_ble_eq_true rfl) (Nat.le_of_ble_eq_true rfl) (Nat.le_of_ble_eq_true rfl) (Nat.le_of_ble_eq_true rfl) ?_
    intro v M2 hz
    obtain ⟨rfl, rfl⟩ := hz
    show xW _ _ _ _ 7 _ [.int 0, .int c] (mem σ Gb) _ _
    refine xi_icmp_ge (tgt := 40) dX12_says_7 (by decide) (fun c1 => ?_) (fun c1 => ?_)
    · replace hs := ite_p c1 hs
      refine xi_sub (lv' := []) [] rfl ?_
      obtain ⟨rfl, rfl⟩ := some_pair hs
      obtain ⟨rfl, rfl⟩ := some_pair h
      exact HE
    · replace hs := ite_n c1 hs
      refine xi_aload_n 0 dX12_says_10 rfl ?_
      refine yi_getR (f := 24) dX12_says_11 sh_149 rfl ok_9 (by decide) w_1032 rfl ?_
      refine xi_aload_n 0 dX12_says_14 rfl ?_
      obtain ⟨v2, h3, hs⟩ := rdb_some hs
      refine yi_getV (f := 25) dX12_says_15 sh_149 rfl ok_9 (by decide) w_1033 rfl h3 ?_
      refine xi_aload_nS 1 dX12_says_18 rfl ?_
      refine xi_iload_n 2 dX12_says_19 rfl ?_
      obtain ⟨g4, hs⟩ := chk_some hs
      refine xi_callVS (as := [.int c]) (rest := [.int v2, .ref 162]) dX12_says_20 (K_schar G st_13 rfl g4) mkJ0_charAt_5068e w_339 w_340 w_1153 st_13 rfl rfl rfl rfl (Nat.le_of_ble_eq_true rfl) (Nat.le_of_ble_eq_true rfl) (Nat.le_of_ble_eq_true rfl) (Nat.le_of_ble_eq_true rfl) (Nat.le_of_ble_eq_true rfl) ?_
      intro v M2 hz
      obtain ⟨rfl, rfl⟩ := hz
      show xW _ _ _ _ 23 _ [.int (chr [] c), .int v2, .ref 162] (mem σ Gb) _ _
      obtain ⟨g5, hs⟩ := chk_some hs
      obtain ⟨t6, h7, hs⟩ := wrb_some hs
      refine yi_iastoreV dX12_says_23 sh_162 g5 h7 ?_
      refine xi_aload_n 0 dX12_says_24 rfl ?_
      refine xi_dup dX12_says_25 rfl ?_
      obtain ⟨v8, h9, hs⟩ := rdb_some hs
      refine yi_getV (f := 25) dX12_says_26 sh_149 rfl ok_9 (by decide) w_1033 rfl h9 ?_
      refine xi_iconst (v := 1) dX12_says_29 (by decide) ?_
      refine xi_iadd (v := v8 + (1 : Int32)) dX12_says_30 rfl ?_
      obtain ⟨t10, h11, hs⟩ := wrb_some hs
      refine yi_putV (f := 25) (ty := .int) dX12_says_31 sh_149 rfl ok_9 (by decide) w_1033 rfl rfl pf_I rfl rfl h11 ?_
      refine xi_iinc (v := (c + 1)) (lv' := [(2, .int (c + 1)), (0, .ref 149), (1, .float 13)]) 2 dX12_says_34 rfl rfl (by decide) rfl ?_
      refine xi_goto (tgt := 2) dX12_says_37 (by decide) ?_
      refine xi_sub (lv' := [(0, .ref 149), (1, .float 13), (2, .int (c + 1))]) [1, 2, 0] rfl ?_
      obtain ⟨rfl, rfl⟩ := some_pair hs
      exact ih (c + 1) t10 _ _ h HE
noncomputable def FX12_says_s13 (σ : St) : Option ((Unit) × St) :=
  (bnd (wh (SX12_says_s13_2) (0 : Int32) σ) (fun e12 t13 => (some ((), t13))))
set_option maxHeartbeats 4000000 in
set_option maxRecDepth 100000 in
theorem KX12_says_s13 (G : xG) (Gb : xMem) (σ : St) (r0 : Unit) (t0 : St) (hq : FX12_says_s13 σ = some (r0, t0)) : xC G mX12_says 4 0 0 [.ref 149, .float 13] (mem σ Gb) (PV r0 t0 Gb) := by
  unfold FX12_says_s13 at hq
  refine xC.of (by decide) (Nat.le_of_ble_eq_true rfl) ?_
  show xW _ _ _ _ 0 [(0, .ref 149), (1, .float 13)] [] _ 0 0
  refine xi_iconst (v := 0) dX12_says_0 (by decide) ?_
  refine xi_istore_n (lv' := [(2, .int 0), (0, .ref 149), (1, .float 13)]) dX12_says_1 (by decide) rfl ?_
  refine xi_sub (lv' := [(0, .ref 149), (1, .float 13), (2, .int 0)]) [1, 2, 0] rfl ?_
  obtain ⟨e12, t13, k14, hq⟩ := bnd_some hq
  obtain ⟨n15, k14⟩ := wh_itr k14
  refine SX12_says_s13_2_w G Gb r0 t0 n15 (0 : Int32) σ _ _ k14 ?_
  show xW G mX12_says (xrm 4 0 0) (xQ G (PV r0 t0 Gb) 0 0) 40 [] [] (mem t13 Gb) 0 0
  have r16 := some_pair hq
  obtain ⟨rfl, rfl⟩ := r16
  exact xi_vret dX12_says_40 rfl (Nat.le_of_ble_eq_true rfl) (Nat.le_of_ble_eq_true rfl) ⟨rfl, rfl⟩
noncomputable def SX12_says_s14_2 (c : Int32) (σ : St) : Option (((Int32) ⊕ (Unit)) × St) :=
  (if (1 : Int32) ≤ c then (some (Sum.inr (), σ)) else (rdb σ 149 (25) (fun v2 => (chk (inb c 1) (chk (inb v2 400) (wrb σ 162 (v2.toNatClampNeg) (chr [32] c) (fun t6 => (rdb t6 149 (25) (fun v8 => (wrb t6 149 (25) (v8 + (1 : Int32)) (fun t10 => (some (Sum.inl (c + 1), t10)))))))))))))
set_option maxHeartbeats 4000000 in
set_option maxRecDepth 100000 in
theorem SX12_says_s14_2_w (G : xG) (Gb : xMem) (r0 : Unit) (t0 : St) :
    ∀ (k : Nat) (c : Int32) (σ : St) (r : Unit) (σ' : St), itr (SX12_says_s14_2) k c σ = some (r, σ') → (xW G mX12_says (xrm 4 0 0) (xQ G (PV r0 t0 Gb) 0 0) 40 [] [] (mem σ' Gb) 0 0) → xW G mX12_says (xrm 4 0 0) (xQ G (PV r0 t0 Gb) 0 0) 2 [(0, .ref 149), (1, .float 14), (2, .int c)] [] (mem σ Gb) 0 0 := by
  intro k
  induction k with
  | zero =>
    intro c σ r σ' h
    exact absurd h (itr_zero _ _ _ _)
  | succ k ih =>
    intro c σ r σ' h HE
    obtain ⟨x, s1, hs, h⟩ := itr_succ h
    unfold SX12_says_s14_2 at hs
    refine xi_iload_n 2 dX12_says_2 rfl ?_
    refine xi_aload_nS 1 dX12_says_3 rfl ?_
    refine xi_callVS (as := []) (rest := [.int c]) dX12_says_4 (K_slen G st_14 rfl) mkJ0_length_8abf5 w_329 w_330 w_1152 st_14 rfl rfl rfl rfl (Nat.le_of_ble_eq_true rfl) (Nat.le_of_ble_eq_true rfl) (Nat.le_of_ble_eq_true rfl) (Nat.le_of_ble_eq_true rfl) (Nat.le_of_ble_eq_true rfl) ?_
    intro v M2 hz
    obtain ⟨rfl, rfl⟩ := hz
    show xW _ _ _ _ 7 _ [.int 1, .int c] (mem σ Gb) _ _
    refine xi_icmp_ge (tgt := 40) dX12_says_7 (by decide) (fun c1 => ?_) (fun c1 => ?_)
    · replace hs := ite_p c1 hs
      refine xi_sub (lv' := []) [] rfl ?_
      obtain ⟨rfl, rfl⟩ := some_pair hs
      obtain ⟨rfl, rfl⟩ := some_pair h
      exact HE
    · replace hs := ite_n c1 hs
      refine xi_aload_n 0 dX12_says_10 rfl ?_
      refine yi_getR (f := 24) dX12_says_11 sh_149 rfl ok_9 (by decide) w_1032 rfl ?_
      refine xi_aload_n 0 dX12_says_14 rfl ?_
      obtain ⟨v2, h3, hs⟩ := rdb_some hs
      refine yi_getV (f := 25) dX12_says_15 sh_149 rfl ok_9 (by decide) w_1033 rfl h3 ?_
      refine xi_aload_nS 1 dX12_says_18 rfl ?_
      refine xi_iload_n 2 dX12_says_19 rfl ?_
      obtain ⟨g4, hs⟩ := chk_some hs
      refine xi_callVS (as := [.int c]) (rest := [.int v2, .ref 162]) dX12_says_20 (K_schar G st_14 rfl g4) mkJ0_charAt_5068e w_339 w_340 w_1153 st_14 rfl rfl rfl rfl (Nat.le_of_ble_eq_true rfl) (Nat.le_of_ble_eq_true rfl) (Nat.le_of_ble_eq_true rfl) (Nat.le_of_ble_eq_true rfl) (Nat.le_of_ble_eq_true rfl) ?_
      intro v M2 hz
      obtain ⟨rfl, rfl⟩ := hz
      show xW _ _ _ _ 23 _ [.int (chr [32] c), .int v2, .ref 162] (mem σ Gb) _ _
      obtain ⟨g5, hs⟩ := chk_some hs
      obtain ⟨t6, h7, hs⟩ := wrb_some hs
      refine yi_iastoreV dX12_says_23 sh_162 g5 h7 ?_
      refine xi_aload_n 0 dX12_says_24 rfl ?_
      refine xi_dup dX12_says_25 rfl ?_
      obtain ⟨v8, h9, hs⟩ := rdb_some hs
      refine yi_getV (f := 25) dX12_says_26 sh_149 rfl ok_9 (by decide) w_1033 rfl h9 ?_
      refine xi_iconst (v := 1) dX12_says_29 (by decide) ?_
      refine xi_iadd (v := v8 + (1 : Int32)) dX12_says_30 rfl ?_
      obtain ⟨t10, h11, hs⟩ := wrb_some hs
      refine yi_putV (f := 25) (ty := .int) dX12_says_31 sh_149 rfl ok_9 (by decide) w_1033 rfl rfl pf_I rfl rfl h11 ?_
      refine xi_iinc (v := (c + 1)) (lv' := [(2, .int (c + 1)), (0, .ref 149), (1, .float 14)]) 2 dX12_says_34 rfl rfl (by decide) rfl ?_
      refine xi_goto (tgt := 2) dX12_says_37 (by decide) ?_
      refine xi_sub (lv' := [(0, .ref 149), (1, .float 14), (2, .int (c + 1))]) [1, 2, 0] rfl ?_
      obtain ⟨rfl, rfl⟩ := some_pair hs
      exact ih (c + 1) t10 _ _ h HE
noncomputable def FX12_says_s14 (σ : St) : Option ((Unit) × St) :=
  (bnd (wh (SX12_says_s14_2) (0 : Int32) σ) (fun e12 t13 => (some ((), t13))))
set_option maxHeartbeats 4000000 in
set_option maxRecDepth 100000 in
theorem KX12_says_s14 (G : xG) (Gb : xMem) (σ : St) (r0 : Unit) (t0 : St) (hq : FX12_says_s14 σ = some (r0, t0)) : xC G mX12_says 4 0 0 [.ref 149, .float 14] (mem σ Gb) (PV r0 t0 Gb) := by
  unfold FX12_says_s14 at hq
  refine xC.of (by decide) (Nat.le_of_ble_eq_true rfl) ?_
  show xW _ _ _ _ 0 [(0, .ref 149), (1, .float 14)] [] _ 0 0
  refine xi_iconst (v := 0) dX12_says_0 (by decide) ?_
  refine xi_istore_n (lv' := [(2, .int 0), (0, .ref 149), (1, .float 14)]) dX12_says_1 (by decide) rfl ?_
  refine xi_sub (lv' := [(0, .ref 149), (1, .float 14), (2, .int 0)]) [1, 2, 0] rfl ?_
  obtain ⟨e12, t13, k14, hq⟩ := bnd_some hq
  obtain ⟨n15, k14⟩ := wh_itr k14
  refine SX12_says_s14_2_w G Gb r0 t0 n15 (0 : Int32) σ _ _ k14 ?_
  show xW G mX12_says (xrm 4 0 0) (xQ G (PV r0 t0 Gb) 0 0) 40 [] [] (mem t13 Gb) 0 0
  have r16 := some_pair hq
  obtain ⟨rfl, rfl⟩ := r16
  exact xi_vret dX12_says_40 rfl (Nat.le_of_ble_eq_true rfl) (Nat.le_of_ble_eq_true rfl) ⟨rfl, rfl⟩
noncomputable def FX12_saysNumber_b (rec : Int32 → St → Option ((Unit) × St)) (a : Int32) (σ : St) : Option ((Unit) × St) :=
  (bnd (if a ≤ (9 : Int32) then (some ((), σ)) else (bnd (rec (a / (10 : Int32)) σ) (fun v16 t17 => (some ((), t17))))) (fun v2 t3 => (rdb t3 149 (25) (fun v6 => (chk (inb v6 400) (wrb t3 162 (v6.toNatClampNeg) ((48 : Int32) + (irem a (10 : Int32))) (fun t9 => (rdb t9 149 (25) (fun v11 => (wrb t9 149 (25) (v11 + (1 : Int32)) (fun t13 => (some ((), t13)))))))))))))
noncomputable def FX12_saysNumber : Nat → Int32 → St → Option ((Unit) × St)
  | 0 => fun _ _ => none
  | n + 1 => FX12_saysNumber_b (FX12_saysNumber n)
set_option maxHeartbeats 4000000 in
set_option maxRecDepth 100000 in
theorem KX12_saysNumber_b (G : xG) (Gb : xMem) (nn : Nat) (rec : Int32 → St → Option ((Unit) × St)) (IH : ∀ (a : Int32) (σ : St) (r : Unit) (σ' : St), rec a σ = some (r, σ') → xC G mX12_saysNumber (nn + 0) 0 0 [.ref 149, .int a] (mem σ Gb) (PV r σ' Gb)) (a : Int32) (σ : St) (r0 : Unit) (t0 : St) (hq : FX12_saysNumber_b rec a σ = some (r0, t0)) : xC G mX12_saysNumber (nn + 1 + 0) 0 0 [.ref 149, .int a] (mem σ Gb) (PV r0 t0 Gb) := by
  unfold FX12_saysNumber_b at hq
  refine xC.of (by decide) (Nat.le_of_ble_eq_true rfl) ?_
  show xW _ _ _ _ 0 [(0, .ref 149), (1, .int a)] [] _ 0 0
  refine xi_iload_n 1 dX12_saysNumber_0 rfl ?_
  refine xi_bipush (v := 9) dX12_saysNumber_1 (by decide) ?_
  obtain ⟨v2, t3, m4, hq⟩ := bnd_some hq
  have key5 : xW G mX12_saysNumber (xrm (nn + 1 + 0) 0 0) (xQ G (PV r0 t0 Gb) 0 0) 14 [(0, .ref 149), (1, .int a)] [] (mem t3 Gb) 0 0 := by
    refine xi_aload_n 0 dX12_saysNumber_14 rfl ?_
    refine yi_getR (f := 24) dX12_saysNumber_15 sh_149 rfl ok_9 (by decide) w_1032 rfl ?_
    refine xi_aload_n 0 dX12_saysNumber_18 rfl ?_
    obtain ⟨v6, h7, hq⟩ := rdb_some hq
    refine yi_getV (f := 25) dX12_saysNumber_19 sh_149 rfl ok_9 (by decide) w_1033 rfl h7 ?_
    refine xi_bipush (v := 48) dX12_saysNumber_22 (by decide) ?_
    refine xi_iload_n 1 dX12_saysNumber_24 rfl ?_
    refine xi_bipush (v := 10) dX12_saysNumber_25 (by decide) ?_
    refine xi_irem (v := irem a (10 : Int32)) dX12_saysNumber_27 (by decide) rfl ?_
    refine xi_iadd (v := (48 : Int32) + (irem a (10 : Int32))) dX12_saysNumber_28 rfl ?_
    obtain ⟨g8, hq⟩ := chk_some hq
    obtain ⟨t9, h10, hq⟩ := wrb_some hq
    refine yi_iastoreV dX12_saysNumber_29 sh_162 g8 h10 ?_
    refine xi_aload_n 0 dX12_saysNumber_30 rfl ?_
    refine xi_dup dX12_saysNumber_31 rfl ?_
    obtain ⟨v11, h12, hq⟩ := rdb_some hq
    refine yi_getV (f := 25) dX12_saysNumber_32 sh_149 rfl ok_9 (by decide) w_1033 rfl h12 ?_
    refine xi_iconst (v := 1) dX12_saysNumber_35 (by decide) ?_
    refine xi_iadd (v := v11 + (1 : Int32)) dX12_saysNumber_36 rfl ?_
    obtain ⟨t13, h14, hq⟩ := wrb_some hq
    refine yi_putV (f := 25) (ty := .int) dX12_saysNumber_37 sh_149 rfl ok_9 (by decide) w_1033 rfl rfl pf_I rfl rfl h14 ?_
    have r15 := some_pair hq
    obtain ⟨rfl, rfl⟩ := r15
    exact xi_vret dX12_saysNumber_40 rfl (Nat.le_of_ble_eq_true rfl) (Nat.le_of_ble_eq_true rfl) ⟨rfl, rfl⟩
  refine xi_icmp_le (tgt := 14) dX12_saysNumber_3 (by decide) (fun c1 => ?_) (fun c1 => ?_)
  · replace m4 := ite_p c1 m4
    obtain ⟨rfl, rfl⟩ := some_pair m4
    exact key5
  · replace m4 := ite_n c1 m4
    refine xi_aload_n 0 dX12_saysNumber_6 rfl ?_
    refine xi_iload_n 1 dX12_saysNumber_7 rfl ?_
    refine xi_bipush (v := 10) dX12_saysNumber_8 (by decide) ?_
    refine xi_idiv (v := a / (10 : Int32)) dX12_saysNumber_10 (by decide) rfl ?_
    obtain ⟨v16, t17, k18, m4⟩ := bnd_some m4
    refine xi_callV (as := [.int (a / (10 : Int32))]) (rest := []) dX12_saysNumber_11 (IH (a / (10 : Int32)) _ _ _ k18) mkX12_saysNumber w_1526 ws_93 w_1524 (mem_get sh_149) rfl rfl rfl rfl (Nat.le_of_ble_eq_true rfl) (by simp only [xrm]; omega) (by simp only [xrm]; omega) (Nat.le_of_ble_eq_true rfl) (Nat.le_of_ble_eq_true rfl) ?_
    intro v M2 hz
    obtain ⟨rfl, rfl⟩ := hz
    show xW _ _ _ _ 14 _ [] (mem t17 Gb) _ _
    obtain ⟨rfl, rfl⟩ := some_pair m4
    exact key5
theorem KX12_saysNumber (G : xG) (Gb : xMem) : ∀ (nn : Nat) (a : Int32) (σ : St) (r0 : Unit) (t0 : St), FX12_saysNumber nn a σ = some (r0, t0) → xC G mX12_saysNumber (nn + 0) 0 0 [.ref 149, .int a] (mem σ Gb) (PV r0 t0 Gb) := by
  intro nn
  induction nn with
  | zero => intro a σ r0 t0 h; exact absurd h (by intro q; cases q)
  | succ n ih =>
    intro a σ r0 t0 h
    exact KX12_saysNumber_b G Gb n (FX12_saysNumber n) ih a σ r0 t0 h
noncomputable def SX12_saysNet_34 (w1 : Int32) (w3 : Int32) (c : Int32 × Int32) (σ : St) : Option (((Int32 × Int32) ⊕ (Int32)) × St) :=
  (bnd (FX12_points w1 σ) (fun v14 t15 => (if v14 ≤ c.2 then (some (Sum.inr c.1, t15)) else (bnd (FX12_weight w1 w3 c.2 t15) (fun v18 t19 => (bnd (if v18 = (0 : Int32) then (some (c.1, t19)) else (if c.1 = (0 : Int32) then (bnd (FX12_says_s8  t19) (fun v27 t28 => (bnd (FX12_saysNumber 4 w3 t28) (fun v30 t31 => (bnd (FX12_says_s9  t31) (fun v33 t34 => (bnd (FX12_saysNumber 4 c.2 t34) (fun v36 t37 => (bnd (FX12_weight w1 w3 c.2 t37) (fun v39 t40 => (bnd (if v39 ≤ (1 : Int32) then (some ((), t40)) else (bnd (FX12_says_s10  t40) (fun v47 t48 => (bnd (FX12_weight w1 w3 c.2 t48) (fun v50 t51 => (bnd (FX12_saysNumber 4 v50 t51) (fun v53 t54 => (some ((), t54))))))))) (fun v43 t44 => (some ((1 : Int32), t44)))))))))))))) else (bnd (FX12_says_s7  t19) (fun v56 t57 => (bnd (FX12_saysNumber 4 w3 t57) (fun v59 t60 => (bnd (FX12_says_s9  t60) (fun v62 t63 => (bnd (FX12_saysNumber 4 c.2 t63) (fun v65 t66 => (bnd (FX12_weight w1 w3 c.2 t66) (fun v68 t69 => (bnd (if v68 ≤ (1 : Int32) then (some ((), t69)) else (bnd (FX12_says_s10  t69) (fun v76 t77 => (bnd (FX12_weight w1 w3 c.2 t77) (fun v79 t80 => (bnd (FX12_saysNumber 4 v79 t80) (fun v82 t83 => (some ((), t83))))))))) (fun v72 t73 => (some ((1 : Int32), t73)))))))))))))))) (fun v22 t23 => (some (Sum.inl (v22, (c.2 + 1)), t23)))))))))
noncomputable def SX12_saysNet_20 (w1 : Int32) (c : Int32 × Int32) (σ : St) : Option (((Int32 × Int32) ⊕ (Unit)) × St) :=
  (bnd (FX12_points w1 σ) (fun v10 t11 => (if v10 ≤ c.2 then (some (Sum.inr (), t11)) else (bnd (wh (SX12_saysNet_34 w1 c.2) (c.1, (c.2 + (1 : Int32))) t11) (fun e85 t86 => (some (Sum.inl (e85, (c.2 + 1)), t86)))))))
noncomputable def SX12_saysNet_147 (w1 : Int32) (c : Int32) (σ : St) : Option (((Int32) ⊕ (Unit)) × St) :=
  (bnd (FX12_points w1 σ) (fun v96 t97 => (if v96 ≤ c then (some (Sum.inr (), t97)) else (bnd (FX12_at w1 c t97) (fun v100 t101 => (bnd (FX12_saysNumber 4 v100 t101) (fun v103 t104 => (some (Sum.inl (c + 1), t104)))))))))
set_option maxHeartbeats 4000000 in
set_option maxRecDepth 100000 in
theorem SX12_saysNet_34_w (G : xG) (Gb : xMem) (w1 : Int32) (w3 : Int32) (r0 : Unit) (t0 : St) :
    ∀ (k : Nat) (c : Int32 × Int32) (σ : St) (r : Int32) (σ' : St), itr (SX12_saysNet_34 w1 w3) k c σ = some (r, σ') → (xW G mX12_saysNet (xrm 5 0 0) (xQ G (PV r0 t0 Gb) 0 0) 132 [(0, .ref 149), (1, .int w1), (2, .int r), (3, .int w3)] [] (mem σ' Gb) 0 0) → xW G mX12_saysNet (xrm 5 0 0) (xQ G (PV r0 t0 Gb) 0 0) 34 [(0, .ref 149), (1, .int w1), (2, .int c.1), (3, .int w3), (4, .int c.2)] [] (mem σ Gb) 0 0 := by
  intro k
  induction k with
  | zero =>
    intro c σ r σ' h
    exact absurd h (itr_zero _ _ _ _)
  | succ k ih =>
    intro c σ r σ' h HE
    obtain ⟨x, s1, hs, h⟩ := itr_succ h
    unfold SX12_saysNet_34 at hs
    refine xi_iload 4 dX12_saysNet_34 rfl ?_
    refine xi_aload_n 0 dX12_saysNet_36 rfl ?_
    refine xi_iload_n 1 dX12_saysNet_37 rfl ?_
    obtain ⟨v14, t15, k16, hs⟩ := bnd_some hs
    refine xi_callV (as := [.int w1]) (rest := [.int c.2]) dX12_saysNet_38 (KX12_points G Gb w1 _ _ _ k16) mkX12_points w_1108 ws_36 w_1106 (mem_get sh_149) rfl rfl rfl rfl (Nat.le_of_ble_eq_true rfl) (Nat.le_of_ble_eq_true rfl) (Nat.le_of_ble_eq_true rfl) (Nat.le_of_ble_eq_true rfl) (Nat.le_of_ble_eq_true rfl) ?_
    intro v M2 hz
    obtain ⟨rfl, rfl⟩ := hz
    show xW _ _ _ _ 41 _ [.int v14, .int c.2] (mem t15 Gb) _ _
    refine xi_icmp_ge (tgt := 132) dX12_saysNet_41 (by decide) (fun c17 => ?_) (fun c17 => ?_)
    · replace hs := ite_p c17 hs
      refine xi_sub (lv' := [(0, .ref 149), (1, .int w1), (2, .int c.1), (3, .int w3)]) [0, 1, 2, 3] rfl ?_
      obtain ⟨rfl, rfl⟩ := some_pair hs
      obtain ⟨rfl, rfl⟩ := some_pair h
      exact HE
    · replace hs := ite_n c17 hs
      refine xi_aload_n 0 dX12_saysNet_44 rfl ?_
      refine xi_iload_n 1 dX12_saysNet_45 rfl ?_
      refine xi_iload_n 3 dX12_saysNet_46 rfl ?_
      refine xi_iload 4 dX12_saysNet_47 rfl ?_
      obtain ⟨v18, t19, k20, hs⟩ := bnd_some hs
      refine xi_callV (as := [.int w1, .int w3, .int c.2]) (rest := []) dX12_saysNet_49 (KX12_weight G Gb w1 w3 c.2 _ _ _ k20) mkX12_weight w_1192 ws_53 w_1190 (mem_get sh_149) rfl rfl rfl rfl (Nat.le_of_ble_eq_true rfl) (Nat.le_of_ble_eq_true rfl) (Nat.le_of_ble_eq_true rfl) (Nat.le_of_ble_eq_true rfl) (Nat.le_of_ble_eq_true rfl) ?_
      intro v M2 hz
      obtain ⟨rfl, rfl⟩ := hz
      show xW _ _ _ _ 52 _ [.int v18] (mem t19 Gb) _ _
      obtain ⟨v22, t23, m24, hs⟩ := bnd_some hs
      have key25 : xW G mX12_saysNet (xrm 5 0 0) (xQ G (PV r0 t0 Gb) 0 0) 126 [(0, .ref 149), (1, .int w1), (2, .int v22), (3, .int w3), (4, .int c.2)] [] (mem t23 Gb) 0 0 := by
        refine xi_iinc (v := (c.2 + 1)) (lv' := [(4, .int (c.2 + 1)), (0, .ref 149), (1, .int w1), (2, .int v22), (3, .int w3)]) 4 dX12_saysNet_126 rfl rfl (by decide) rfl ?_
        refine xi_goto (tgt := 34) dX12_saysNet_129 (by decide) ?_
        refine xi_sub (lv' := [(0, .ref 149), (1, .int w1), (2, .int v22), (3, .int w3), (4, .int (c.2 + 1))]) [1, 2, 3, 4, 0] rfl ?_
        obtain ⟨rfl, rfl⟩ := some_pair hs
        exact ih (v22, (c.2 + 1)) t23 _ _ h HE
      refine xi_if_ne (tgt := 58) dX12_saysNet_52 (by decide) (fun c21 => ?_) (fun c21 => ?_)
      · replace m24 := ite_n c21 m24
        refine xi_aload_n 0 dX12_saysNet_58 rfl ?_
        refine xi_iload_n 2 dX12_saysNet_59 rfl ?_
        refine xi_if_eq (tgt := 69) dX12_saysNet_60 (by decide) (fun c26 => ?_) (fun c26 => ?_)
        · replace m24 := ite_p c26 m24
          refine xi_ldcwS (w := 8) dX12_saysNet_69 st_8 rfl ?_
          obtain ⟨v27, t28, k29, m24⟩ := bnd_some m24
          refine xi_callV (as := [.float 8]) (rest := []) dX12_saysNet_72 (KX12_says_s8 G Gb  _ _ _ k29) mkX12_says w_1522 ws_92 w_1520 (mem_get sh_149) rfl rfl rfl rfl (Nat.le_of_ble_eq_true rfl) (Nat.le_of_ble_eq_true rfl) (Nat.le_of_ble_eq_true rfl) (Nat.le_of_ble_eq_true rfl) (Nat.le_of_ble_eq_true rfl) ?_
          intro v M2 hz
          obtain ⟨rfl, rfl⟩ := hz
          show xW _ _ _ _ 75 _ [] (mem t28 Gb) _ _
          refine xi_aload_n 0 dX12_saysNet_75 rfl ?_
          refine xi_iload_n 3 dX12_saysNet_76 rfl ?_
          obtain ⟨v30, t31, k32, m24⟩ := bnd_some m24
          refine xi_callV (as := [.int w3]) (rest := []) dX12_saysNet_77 (KX12_saysNumber G Gb 4 w3 _ _ _ k32) mkX12_saysNumber w_1526 ws_93 w_1524 (mem_get sh_149) rfl rfl rfl rfl (Nat.le_of_ble_eq_true rfl) (Nat.le_of_ble_eq_true rfl) (Nat.le_of_ble_eq_true rfl) (Nat.le_of_ble_eq_true rfl) (Nat.le_of_ble_eq_true rfl) ?_
          intro v M2 hz
          obtain ⟨rfl, rfl⟩ := hz
          show xW _ _ _ _ 80 _ [] (mem t31 Gb) _ _
          refine xi_aload_n 0 dX12_saysNet_80 rfl ?_
          refine xi_ldcwS (w := 9) dX12_saysNet_81 st_9 rfl ?_
          obtain ⟨v33, t34, k35, m24⟩ := bnd_some m24
          refine xi_callV (as := [.float 9]) (rest := []) dX12_saysNet_84 (KX12_says_s9 G Gb  _ _ _ k35) mkX12_says w_1522 ws_92 w_1520 (mem_get sh_149) rfl rfl rfl rfl (Nat.le_of_ble_eq_true rfl) (Nat.le_of_ble_eq_true rfl) (Nat.le_of_ble_eq_true rfl) (Nat.le_of_ble_eq_true rfl) (Nat.le_of_ble_eq_true rfl) ?_
          intro v M2 hz
          obtain ⟨rfl, rfl⟩ := hz
          show xW _ _ _ _ 87 _ [] (mem t34 Gb) _ _
          refine xi_aload_n 0 dX12_saysNet_87 rfl ?_
          refine xi_iload 4 dX12_saysNet_88 rfl ?_
          obtain ⟨v36, t37, k38, m24⟩ := bnd_some m24
          refine xi_callV (as := [.int c.2]) (rest := []) dX12_saysNet_90 (KX12_saysNumber G Gb 4 c.2 _ _ _ k38) mkX12_saysNumber w_1526 ws_93 w_1524 (mem_get sh_149) rfl rfl rfl rfl (Nat.le_of_ble_eq_true rfl) (Nat.le_of_ble_eq_true rfl) (Nat.le_of_ble_eq_true rfl) (Nat.le_of_ble_eq_true rfl) (Nat.le_of_ble_eq_true rfl) ?_
          intro v M2 hz
          obtain ⟨rfl, rfl⟩ := hz
          show xW _ _ _ _ 93 _ [] (mem t37 Gb) _ _
          refine xi_aload_n 0 dX12_saysNet_93 rfl ?_
          refine xi_iload_n 1 dX12_saysNet_94 rfl ?_
          refine xi_iload_n 3 dX12_saysNet_95 rfl ?_
          refine xi_iload 4 dX12_saysNet_96 rfl ?_
          obtain ⟨v39, t40, k41, m24⟩ := bnd_some m24
          refine xi_callV (as := [.int w1, .int w3, .int c.2]) (rest := []) dX12_saysNet_98 (KX12_weight G Gb w1 w3 c.2 _ _ _ k41) mkX12_weight w_1192 ws_53 w_1190 (mem_get sh_149) rfl rfl rfl rfl (Nat.le_of_ble_eq_true rfl) (Nat.le_of_ble_eq_true rfl) (Nat.le_of_ble_eq_true rfl) (Nat.le_of_ble_eq_true rfl) (Nat.le_of_ble_eq_true rfl) ?_
          intro v M2 hz
          obtain ⟨rfl, rfl⟩ := hz
          show xW _ _ _ _ 101 _ [.int v39] (mem t40 Gb) _ _
          refine xi_iconst (v := 1) dX12_saysNet_101 (by decide) ?_
          obtain ⟨v43, t44, m45, m24⟩ := bnd_some m24
          have key46 : xW G mX12_saysNet (xrm 5 0 0) (xQ G (PV r0 t0 Gb) 0 0) 124 [(0, .ref 149), (1, .int w1), (3, .int w3), (4, .int c.2)] [] (mem t44 Gb) 0 0 := by
            refine xi_iconst (v := 1) dX12_saysNet_124 (by decide) ?_
            refine xi_istore_n (lv' := [(2, .int 1), (0, .ref 149), (1, .int w1), (3, .int w3), (4, .int c.2)]) dX12_saysNet_125 (by decide) rfl ?_
            obtain ⟨rfl, rfl⟩ := some_pair m24
            refine xi_sub (lv' := [(0, .ref 149), (1, .int w1), (2, .int 1), (3, .int w3), (4, .int c.2)]) [1, 2, 0, 3, 4] rfl ?_
            exact key25
          refine xi_icmp_le (tgt := 124) dX12_saysNet_102 (by decide) (fun c42 => ?_) (fun c42 => ?_)
          · replace m45 := ite_p c42 m45
            obtain ⟨rfl, rfl⟩ := some_pair m45
            refine xi_sub (lv' := [(0, .ref 149), (1, .int w1), (3, .int w3), (4, .int c.2)]) [0, 1, 3, 4] rfl ?_
            exact key46
          · replace m45 := ite_n c42 m45
            refine xi_aload_n 0 dX12_saysNet_105 rfl ?_
            refine xi_ldcwS (w := 10) dX12_saysNet_106 st_10 rfl ?_
            obtain ⟨v47, t48, k49, m45⟩ := bnd_some m45
            refine xi_callV (as := [.float 10]) (rest := []) dX12_saysNet_109 (KX12_says_s10 G Gb  _ _ _ k49) mkX12_says w_1522 ws_92 w_1520 (mem_get sh_149) rfl rfl rfl rfl (Nat.le_of_ble_eq_true rfl) (Nat.le_of_ble_eq_true rfl) (Nat.le_of_ble_eq_true rfl) (Nat.le_of_ble_eq_true rfl) (Nat.le_of_ble_eq_true rfl) ?_
            intro v M2 hz
            obtain ⟨rfl, rfl⟩ := hz
            show xW _ _ _ _ 112 _ [] (mem t48 Gb) _ _
            refine xi_aload_n 0 dX12_saysNet_112 rfl ?_
            refine xi_aload_n 0 dX12_saysNet_113 rfl ?_
            refine xi_iload_n 1 dX12_saysNet_114 rfl ?_
            refine xi_iload_n 3 dX12_saysNet_115 rfl ?_
            refine xi_iload 4 dX12_saysNet_116 rfl ?_
            obtain ⟨v50, t51, k52, m45⟩ := bnd_some m45
            refine xi_callV (as := [.int w1, .int w3, .int c.2]) (rest := [.ref 149]) dX12_saysNet_118 (KX12_weight G Gb w1 w3 c.2 _ _ _ k52) mkX12_weight w_1192 ws_53 w_1190 (mem_get sh_149) rfl rfl rfl rfl (Nat.le_of_ble_eq_true rfl) (Nat.le_of_ble_eq_true rfl) (Nat.le_of_ble_eq_true rfl) (Nat.le_of_ble_eq_true rfl) (Nat.le_of_ble_eq_true rfl) ?_
            intro v M2 hz
            obtain ⟨rfl, rfl⟩ := hz
            show xW _ _ _ _ 121 _ [.int v50, .ref 149] (mem t51 Gb) _ _
            obtain ⟨v53, t54, k55, m45⟩ := bnd_some m45
            refine xi_callV (as := [.int v50]) (rest := []) dX12_saysNet_121 (KX12_saysNumber G Gb 4 v50 _ _ _ k55) mkX12_saysNumber w_1526 ws_93 w_1524 (mem_get sh_149) rfl rfl rfl rfl (Nat.le_of_ble_eq_true rfl) (Nat.le_of_ble_eq_true rfl) (Nat.le_of_ble_eq_true rfl) (Nat.le_of_ble_eq_true rfl) (Nat.le_of_ble_eq_true rfl) ?_
            intro v M2 hz
            obtain ⟨rfl, rfl⟩ := hz
            show xW _ _ _ _ 124 _ [] (mem t54 Gb) _ _
            obtain ⟨rfl, rfl⟩ := some_pair m45
            refine xi_sub (lv' := [(0, .ref 149), (1, .int w1), (3, .int w3), (4, .int c.2)]) [0, 1, 3, 4] rfl ?_
            exact key46
        · replace m24 := ite_n c26 m24
          refine xi_ldcwS (w := 7) dX12_saysNet_63 st_7 rfl ?_
          refine xi_goto (tgt := 72) dX12_saysNet_66 (by decide) ?_
          obtain ⟨v56, t57, k58, m24⟩ := bnd_some m24
          refine xi_callV (as := [.float 7]) (rest := []) dX12_saysNet_72 (KX12_says_s7 G Gb  _ _ _ k58) mkX12_says w_1522 ws_92 w_1520 (mem_get sh_149) rfl rfl rfl rfl (Nat.le_of_ble_eq_true rfl) (Nat.le_of_ble_eq_true rfl) (Nat.le_of_ble_eq_true rfl) (Nat.le_of_ble_eq_true rfl) (Nat.le_of_ble_eq_true rfl) ?_
          intro v M2 hz
          obtain ⟨rfl, rfl⟩ := hz
          show xW _ _ _ _ 75 _ [] (mem t57 Gb) _ _
          refine xi_aload_n 0 dX12_saysNet_75 rfl ?_
          refine xi_iload_n 3 dX12_saysNet_76 rfl ?_
          obtain ⟨v59, t60, k61, m24⟩ := bnd_some m24
          refine xi_callV (as := [.int w3]) (rest := []) dX12_saysNet_77 (KX12_saysNumber G Gb 4 w3 _ _ _ k61) mkX12_saysNumber w_1526 ws_93 w_1524 (mem_get sh_149) rfl rfl rfl rfl (Nat.le_of_ble_eq_true rfl) (Nat.le_of_ble_eq_true rfl) (Nat.le_of_ble_eq_true rfl) (Nat.le_of_ble_eq_true rfl) (Nat.le_of_ble_eq_true rfl) ?_
          intro v M2 hz
          obtain ⟨rfl, rfl⟩ := hz
          show xW _ _ _ _ 80 _ [] (mem t60 Gb) _ _
          refine xi_aload_n 0 dX12_saysNet_80 rfl ?_
          refine xi_ldcwS (w := 9) dX12_saysNet_81 st_9 rfl ?_
          obtain ⟨v62, t63, k64, m24⟩ := bnd_some m24
          refine xi_callV (as := [.float 9]) (rest := []) dX12_saysNet_84 (KX12_says_s9 G Gb  _ _ _ k64) mkX12_says w_1522 ws_92 w_1520 (mem_get sh_149) rfl rfl rfl rfl (Nat.le_of_ble_eq_true rfl) (Nat.le_of_ble_eq_true rfl) (Nat.le_of_ble_eq_true rfl) (Nat.le_of_ble_eq_true rfl) (Nat.le_of_ble_eq_true rfl) ?_
          intro v M2 hz
          obtain ⟨rfl, rfl⟩ := hz
          show xW _ _ _ _ 87 _ [] (mem t63 Gb) _ _
          refine xi_aload_n 0 dX12_saysNet_87 rfl ?_
          refine xi_iload 4 dX12_saysNet_88 rfl ?_
          obtain ⟨v65, t66, k67, m24⟩ := bnd_some m24
          refine xi_callV (as := [.int c.2]) (rest := []) dX12_saysNet_90 (KX12_saysNumber G Gb 4 c.2 _ _ _ k67) mkX12_saysNumber w_1526 ws_93 w_1524 (mem_get sh_149) rfl rfl rfl rfl (Nat.le_of_ble_eq_true rfl) (Nat.le_of_ble_eq_true rfl) (Nat.le_of_ble_eq_true rfl) (Nat.le_of_ble_eq_true rfl) (Nat.le_of_ble_eq_true rfl) ?_
          intro v M2 hz
          obtain ⟨rfl, rfl⟩ := hz
          show xW _ _ _ _ 93 _ [] (mem t66 Gb) _ _
          refine xi_aload_n 0 dX12_saysNet_93 rfl ?_
          refine xi_iload_n 1 dX12_saysNet_94 rfl ?_
          refine xi_iload_n 3 dX12_saysNet_95 rfl ?_
          refine xi_iload 4 dX12_saysNet_96 rfl ?_
          obtain ⟨v68, t69, k70, m24⟩ := bnd_some m24
          refine xi_callV (as := [.int w1, .int w3, .int c.2]) (rest := []) dX12_saysNet_98 (KX12_weight G Gb w1 w3 c.2 _ _ _ k70) mkX12_weight w_1192 ws_53 w_1190 (mem_get sh_149) rfl rfl rfl rfl (Nat.le_of_ble_eq_true rfl) (Nat.le_of_ble_eq_true rfl) (Nat.le_of_ble_eq_true rfl) (Nat.le_of_ble_eq_true rfl) (Nat.le_of_ble_eq_true rfl) ?_
          intro v M2 hz
          obtain ⟨rfl, rfl⟩ := hz
          show xW _ _ _ _ 101 _ [.int v68] (mem t69 Gb) _ _
          refine xi_iconst (v := 1) dX12_saysNet_101 (by decide) ?_
          obtain ⟨v72, t73, m74, m24⟩ := bnd_some m24
          have key75 : xW G mX12_saysNet (xrm 5 0 0) (xQ G (PV r0 t0 Gb) 0 0) 124 [(0, .ref 149), (1, .int w1), (3, .int w3), (4, .int c.2)] [] (mem t73 Gb) 0 0 := by
            refine xi_iconst (v := 1) dX12_saysNet_124 (by decide) ?_
            refine xi_istore_n (lv' := [(2, .int 1), (0, .ref 149), (1, .int w1), (3, .int w3), (4, .int c.2)]) dX12_saysNet_125 (by decide) rfl ?_
            obtain ⟨rfl, rfl⟩ := some_pair m24
            refine xi_sub (lv' := [(0, .ref 149), (1, .int w1), (2, .int 1), (3, .int w3), (4, .int c.2)]) [1, 2, 0, 3, 4] rfl ?_
            exact key25
          refine xi_icmp_le (tgt := 124) dX12_saysNet_102 (by decide) (fun c71 => ?_) (fun c71 => ?_)
          · replace m74 := ite_p c71 m74
            obtain ⟨rfl, rfl⟩ := some_pair m74
            refine xi_sub (lv' := [(0, .ref 149), (1, .int w1), (3, .int w3), (4, .int c.2)]) [0, 1, 3, 4] rfl ?_
            exact key75
          · replace m74 := ite_n c71 m74
            refine xi_aload_n 0 dX12_saysNet_105 rfl ?_
            refine xi_ldcwS (w := 10) dX12_saysNet_106 st_10 rfl ?_
            obtain ⟨v76, t77, k78, m74⟩ := bnd_some m74
            refine xi_callV (as := [.float 10]) (rest := []) dX12_saysNet_109 (KX12_says_s10 G Gb  _ _ _ k78) mkX12_says w_1522 ws_92 w_1520 (mem_get sh_149) rfl rfl rfl rfl (Nat.le_of_ble_eq_true rfl) (Nat.le_of_ble_eq_true rfl) (Nat.le_of_ble_eq_true rfl) (Nat.le_of_ble_eq_true rfl) (Nat.le_of_ble_eq_true rfl) ?_
            intro v M2 hz
            obtain ⟨rfl, rfl⟩ := hz
            show xW _ _ _ _ 112 _ [] (mem t77 Gb) _ _
            refine xi_aload_n 0 dX12_saysNet_112 rfl ?_
            refine xi_aload_n 0 dX12_saysNet_113 rfl ?_
            refine xi_iload_n 1 dX12_saysNet_114 rfl ?_
            refine xi_iload_n 3 dX12_saysNet_115 rfl ?_
            refine xi_iload 4 dX12_saysNet_116 rfl ?_
            obtain ⟨v79, t80, k81, m74⟩ := bnd_some m74
            refine xi_callV (as := [.int w1, .int w3, .int c.2]) (rest := [.ref 149]) dX12_saysNet_118 (KX12_weight G Gb w1 w3 c.2 _ _ _ k81) mkX12_weight w_1192 ws_53 w_1190 (mem_get sh_149) rfl rfl rfl rfl (Nat.le_of_ble_eq_true rfl) (Nat.le_of_ble_eq_true rfl) (Nat.le_of_ble_eq_true rfl) (Nat.le_of_ble_eq_true rfl) (Nat.le_of_ble_eq_true rfl) ?_
            intro v M2 hz
            obtain ⟨rfl, rfl⟩ := hz
            show xW _ _ _ _ 121 _ [.int v79, .ref 149] (mem t80 Gb) _ _
            obtain ⟨v82, t83, k84, m74⟩ := bnd_some m74
            refine xi_callV (as := [.int v79]) (rest := []) dX12_saysNet_121 (KX12_saysNumber G Gb 4 v79 _ _ _ k84) mkX12_saysNumber w_1526 ws_93 w_1524 (mem_get sh_149) rfl rfl rfl rfl (Nat.le_of_ble_eq_true rfl) (Nat.le_of_ble_eq_true rfl) (Nat.le_of_ble_eq_true rfl) (Nat.le_of_ble_eq_true rfl) (Nat.le_of_ble_eq_true rfl) ?_
            intro v M2 hz
            obtain ⟨rfl, rfl⟩ := hz
            show xW _ _ _ _ 124 _ [] (mem t83 Gb) _ _
            obtain ⟨rfl, rfl⟩ := some_pair m74
            refine xi_sub (lv' := [(0, .ref 149), (1, .int w1), (3, .int w3), (4, .int c.2)]) [0, 1, 3, 4] rfl ?_
            exact key75
      · replace m24 := ite_p c21 m24
        refine xi_goto (tgt := 126) dX12_saysNet_55 (by decide) ?_
        obtain ⟨rfl, rfl⟩ := some_pair m24
        exact key25
set_option maxHeartbeats 4000000 in
set_option maxRecDepth 100000 in
theorem SX12_saysNet_20_w (G : xG) (Gb : xMem) (w1 : Int32) (r0 : Unit) (t0 : St) :
    ∀ (k : Nat) (c : Int32 × Int32) (σ : St) (r : Unit) (σ' : St), itr (SX12_saysNet_20 w1) k c σ = some (r, σ') → (xW G mX12_saysNet (xrm 5 0 0) (xQ G (PV r0 t0 Gb) 0 0) 138 [(0, .ref 149), (1, .int w1)] [] (mem σ' Gb) 0 0) → xW G mX12_saysNet (xrm 5 0 0) (xQ G (PV r0 t0 Gb) 0 0) 20 [(0, .ref 149), (1, .int w1), (2, .int c.1), (3, .int c.2)] [] (mem σ Gb) 0 0 := by
  intro k
  induction k with
  | zero =>
    intro c σ r σ' h
    exact absurd h (itr_zero _ _ _ _)
  | succ k ih =>
    intro c σ r σ' h HE
    obtain ⟨x, s1, hs, h⟩ := itr_succ h
    unfold SX12_saysNet_20 at hs
    refine xi_iload_n 3 dX12_saysNet_20 rfl ?_
    refine xi_aload_n 0 dX12_saysNet_21 rfl ?_
    refine xi_iload_n 1 dX12_saysNet_22 rfl ?_
    obtain ⟨v10, t11, k12, hs⟩ := bnd_some hs
    refine xi_callV (as := [.int w1]) (rest := [.int c.2]) dX12_saysNet_23 (KX12_points G Gb w1 _ _ _ k12) mkX12_points w_1108 ws_36 w_1106 (mem_get sh_149) rfl rfl rfl rfl (Nat.le_of_ble_eq_true rfl) (Nat.le_of_ble_eq_true rfl) (Nat.le_of_ble_eq_true rfl) (Nat.le_of_ble_eq_true rfl) (Nat.le_of_ble_eq_true rfl) ?_
    intro v M2 hz
    obtain ⟨rfl, rfl⟩ := hz
    show xW _ _ _ _ 26 _ [.int v10, .int c.2] (mem t11 Gb) _ _
    refine xi_icmp_ge (tgt := 138) dX12_saysNet_26 (by decide) (fun c13 => ?_) (fun c13 => ?_)
    · replace hs := ite_p c13 hs
      refine xi_sub (lv' := [(0, .ref 149), (1, .int w1)]) [0, 1] rfl ?_
      obtain ⟨rfl, rfl⟩ := some_pair hs
      obtain ⟨rfl, rfl⟩ := some_pair h
      exact HE
    · replace hs := ite_n c13 hs
      refine xi_iload_n 3 dX12_saysNet_29 rfl ?_
      refine xi_iconst (v := 1) dX12_saysNet_30 (by decide) ?_
      refine xi_iadd (v := c.2 + (1 : Int32)) dX12_saysNet_31 rfl ?_
      refine xi_istore (lv' := [(4, .int (c.2 + (1 : Int32))), (0, .ref 149), (1, .int w1), (2, .int c.1), (3, .int c.2)]) dX12_saysNet_32 (by decide) rfl ?_
      refine xi_sub (lv' := [(0, .ref 149), (1, .int w1), (2, .int c.1), (3, .int c.2), (4, .int (c.2 + (1 : Int32)))]) [1, 2, 3, 4, 0] rfl ?_
      obtain ⟨e85, t86, k87, hs⟩ := bnd_some hs
      obtain ⟨n88, k87⟩ := wh_itr k87
      refine SX12_saysNet_34_w G Gb w1 c.2 r0 t0 n88 (c.1, (c.2 + (1 : Int32))) t11 _ _ k87 ?_
      show xW G mX12_saysNet (xrm 5 0 0) (xQ G (PV r0 t0 Gb) 0 0) 132 [(0, .ref 149), (1, .int w1), (2, .int e85), (3, .int c.2)] [] (mem t86 Gb) 0 0
      refine xi_iinc (v := (c.2 + 1)) (lv' := [(3, .int (c.2 + 1)), (0, .ref 149), (1, .int w1), (2, .int e85)]) 3 dX12_saysNet_132 rfl rfl (by decide) rfl ?_
      refine xi_goto (tgt := 20) dX12_saysNet_135 (by decide) ?_
      refine xi_sub (lv' := [(0, .ref 149), (1, .int w1), (2, .int e85), (3, .int (c.2 + 1))]) [1, 2, 3, 0] rfl ?_
      obtain ⟨rfl, rfl⟩ := some_pair hs
      exact ih (e85, (c.2 + 1)) t86 _ _ h HE
set_option maxHeartbeats 4000000 in
set_option maxRecDepth 100000 in
theorem SX12_saysNet_147_w (G : xG) (Gb : xMem) (w1 : Int32) (r0 : Unit) (t0 : St) :
    ∀ (k : Nat) (c : Int32) (σ : St) (r : Unit) (σ' : St), itr (SX12_saysNet_147 w1) k c σ = some (r, σ') → (xW G mX12_saysNet (xrm 5 0 0) (xQ G (PV r0 t0 Gb) 0 0) 172 [(0, .ref 149)] [] (mem σ' Gb) 0 0) → xW G mX12_saysNet (xrm 5 0 0) (xQ G (PV r0 t0 Gb) 0 0) 147 [(0, .ref 149), (1, .int w1), (3, .int c)] [] (mem σ Gb) 0 0 := by
  intro k
  induction k with
  | zero =>
    intro c σ r σ' h
    exact absurd h (itr_zero _ _ _ _)
  | succ k ih =>
    intro c σ r σ' h HE
    obtain ⟨x, s1, hs, h⟩ := itr_succ h
    unfold SX12_saysNet_147 at hs
    refine xi_iload_n 2 dX12_saysNet_147 rfl ?_
    refine xi_aload_n 0 dX12_saysNet_148 rfl ?_
    refine xi_iload_n 1 dX12_saysNet_149 rfl ?_
    obtain ⟨v96, t97, k98, hs⟩ := bnd_some hs
    refine xi_callV (as := [.int w1]) (rest := [.int c]) dX12_saysNet_150 (KX12_points G Gb w1 _ _ _ k98) mkX12_points w_1108 ws_36 w_1106 (mem_get sh_149) rfl rfl rfl rfl (Nat.le_of_ble_eq_true rfl) (Nat.le_of_ble_eq_true rfl) (Nat.le_of_ble_eq_true rfl) (Nat.le_of_ble_eq_true rfl) (Nat.le_of_ble_eq_true rfl) ?_
    intro v M2 hz
    obtain ⟨rfl, rfl⟩ := hz
    show xW _ _ _ _ 153 _ [.int v96, .int c] (mem t97 Gb) _ _
    refine xi_icmp_ge (tgt := 172) dX12_saysNet_153 (by decide) (fun c99 => ?_) (fun c99 => ?_)
    · replace hs := ite_p c99 hs
      refine xi_sub (lv' := [(0, .ref 149)]) [0] rfl ?_
      obtain ⟨rfl, rfl⟩ := some_pair hs
      obtain ⟨rfl, rfl⟩ := some_pair h
      exact HE
    · replace hs := ite_n c99 hs
      refine xi_aload_n 0 dX12_saysNet_156 rfl ?_
      refine xi_aload_n 0 dX12_saysNet_157 rfl ?_
      refine xi_iload_n 1 dX12_saysNet_158 rfl ?_
      refine xi_iload_n 2 dX12_saysNet_159 rfl ?_
      obtain ⟨v100, t101, k102, hs⟩ := bnd_some hs
      refine xi_callV (as := [.int w1, .int c]) (rest := [.ref 149]) dX12_saysNet_160 (KX12_at G Gb w1 c _ _ _ k102) mkX12_at w_1273 ws_64 w_1271 (mem_get sh_149) rfl rfl rfl rfl (Nat.le_of_ble_eq_true rfl) (Nat.le_of_ble_eq_true rfl) (Nat.le_of_ble_eq_true rfl) (Nat.le_of_ble_eq_true rfl) (Nat.le_of_ble_eq_true rfl) ?_
      intro v M2 hz
      obtain ⟨rfl, rfl⟩ := hz
      show xW _ _ _ _ 163 _ [.int v100, .ref 149] (mem t101 Gb) _ _
      obtain ⟨v103, t104, k105, hs⟩ := bnd_some hs
      refine xi_callV (as := [.int v100]) (rest := []) dX12_saysNet_163 (KX12_saysNumber G Gb 4 v100 _ _ _ k105) mkX12_saysNumber w_1526 ws_93 w_1524 (mem_get sh_149) rfl rfl rfl rfl (Nat.le_of_ble_eq_true rfl) (Nat.le_of_ble_eq_true rfl) (Nat.le_of_ble_eq_true rfl) (Nat.le_of_ble_eq_true rfl) (Nat.le_of_ble_eq_true rfl) ?_
      intro v M2 hz
      obtain ⟨rfl, rfl⟩ := hz
      show xW _ _ _ _ 166 _ [] (mem t104 Gb) _ _
      refine xi_iinc (v := (c + 1)) (lv' := [(3, .int (c + 1)), (0, .ref 149), (1, .int w1)]) 2 dX12_saysNet_166 rfl rfl (by decide) rfl ?_
      refine xi_goto (tgt := 147) dX12_saysNet_169 (by decide) ?_
      refine xi_sub (lv' := [(0, .ref 149), (1, .int w1), (3, .int (c + 1))]) [1, 2, 0] rfl ?_
      obtain ⟨rfl, rfl⟩ := some_pair hs
      exact ih (c + 1) t104 _ _ h HE
noncomputable def FX12_saysNet (a : Int32) (σ : St) : Option ((Unit) × St) :=
  (bnd (FX12_says_s6  σ) (fun v1 t2 => (bnd (FX12_points a t2) (fun v4 t5 => (bnd (FX12_saysNumber 4 v4 t5) (fun v7 t8 => (bnd (wh (SX12_saysNet_20 a) ((0 : Int32), (0 : Int32)) t8) (fun e89 t90 => (bnd (FX12_says_s11  t90) (fun v93 t94 => (bnd (wh (SX12_saysNet_147 a) (0 : Int32) t94) (fun e106 t107 => (bnd (FX12_says_s12  t107) (fun v110 t111 => (some ((), t111))))))))))))))))
set_option maxHeartbeats 4000000 in
set_option maxRecDepth 100000 in
theorem KX12_saysNet (G : xG) (Gb : xMem) (a : Int32) (σ : St) (r0 : Unit) (t0 : St) (hq : FX12_saysNet a σ = some (r0, t0)) : xC G mX12_saysNet 5 0 0 [.ref 149, .int a] (mem σ Gb) (PV r0 t0 Gb) := by
  unfold FX12_saysNet at hq
  refine xC.of (by decide) (Nat.le_of_ble_eq_true rfl) ?_
  show xW _ _ _ _ 0 [(0, .ref 149), (1, .int a)] [] _ 0 0
  refine xi_aload_n 0 dX12_saysNet_0 rfl ?_
  refine xi_ldcwS (w := 6) dX12_saysNet_1 st_6 rfl ?_
  obtain ⟨v1, t2, k3, hq⟩ := bnd_some hq
  refine xi_callV (as := [.float 6]) (rest := []) dX12_saysNet_4 (KX12_says_s6 G Gb  _ _ _ k3) mkX12_says w_1522 ws_92 w_1520 (mem_get sh_149) rfl rfl rfl rfl (Nat.le_of_ble_eq_true rfl) (Nat.le_of_ble_eq_true rfl) (Nat.le_of_ble_eq_true rfl) (Nat.le_of_ble_eq_true rfl) (Nat.le_of_ble_eq_true rfl) ?_
  intro v M2 hz
  obtain ⟨rfl, rfl⟩ := hz
  show xW _ _ _ _ 7 _ [] (mem t2 Gb) _ _
  refine xi_aload_n 0 dX12_saysNet_7 rfl ?_
  refine xi_aload_n 0 dX12_saysNet_8 rfl ?_
  refine xi_iload_n 1 dX12_saysNet_9 rfl ?_
  obtain ⟨v4, t5, k6, hq⟩ := bnd_some hq
  refine xi_callV (as := [.int a]) (rest := [.ref 149]) dX12_saysNet_10 (KX12_points G Gb a _ _ _ k6) mkX12_points w_1108 ws_36 w_1106 (mem_get sh_149) rfl rfl rfl rfl (Nat.le_of_ble_eq_true rfl) (Nat.le_of_ble_eq_true rfl) (Nat.le_of_ble_eq_true rfl) (Nat.le_of_ble_eq_true rfl) (Nat.le_of_ble_eq_true rfl) ?_
  intro v M2 hz
  obtain ⟨rfl, rfl⟩ := hz
  show xW _ _ _ _ 13 _ [.int v4, .ref 149] (mem t5 Gb) _ _
  obtain ⟨v7, t8, k9, hq⟩ := bnd_some hq
  refine xi_callV (as := [.int v4]) (rest := []) dX12_saysNet_13 (KX12_saysNumber G Gb 4 v4 _ _ _ k9) mkX12_saysNumber w_1526 ws_93 w_1524 (mem_get sh_149) rfl rfl rfl rfl (Nat.le_of_ble_eq_true rfl) (Nat.le_of_ble_eq_true rfl) (Nat.le_of_ble_eq_true rfl) (Nat.le_of_ble_eq_true rfl) (Nat.le_of_ble_eq_true rfl) ?_
  intro v M2 hz
  obtain ⟨rfl, rfl⟩ := hz
  show xW _ _ _ _ 16 _ [] (mem t8 Gb) _ _
  refine xi_iconst (v := 0) dX12_saysNet_16 (by decide) ?_
  refine xi_istore_n (lv' := [(2, .int 0), (0, .ref 149), (1, .int a)]) dX12_saysNet_17 (by decide) rfl ?_
  refine xi_iconst (v := 0) dX12_saysNet_18 (by decide) ?_
  refine xi_istore_n (lv' := [(3, .int 0), (2, .int 0), (0, .ref 149), (1, .int a)]) dX12_saysNet_19 (by decide) rfl ?_
  refine xi_sub (lv' := [(0, .ref 149), (1, .int a), (2, .int 0), (3, .int 0)]) [2, 3, 1, 0] rfl ?_
  obtain ⟨e89, t90, k91, hq⟩ := bnd_some hq
  obtain ⟨n92, k91⟩ := wh_itr k91
  refine SX12_saysNet_20_w G Gb a r0 t0 n92 ((0 : Int32), (0 : Int32)) t8 _ _ k91 ?_
  show xW G mX12_saysNet (xrm 5 0 0) (xQ G (PV r0 t0 Gb) 0 0) 138 [(0, .ref 149), (1, .int a)] [] (mem t90 Gb) 0 0
  refine xi_aload_n 0 dX12_saysNet_138 rfl ?_
  refine xi_ldcwS (w := 11) dX12_saysNet_139 st_11 rfl ?_
  obtain ⟨v93, t94, k95, hq⟩ := bnd_some hq
  refine xi_callV (as := [.float 11]) (rest := []) dX12_saysNet_142 (KX12_says_s11 G Gb  _ _ _ k95) mkX12_says w_1522 ws_92 w_1520 (mem_get sh_149) rfl rfl rfl rfl (Nat.le_of_ble_eq_true rfl) (Nat.le_of_ble_eq_true rfl) (Nat.le_of_ble_eq_true rfl) (Nat.le_of_ble_eq_true rfl) (Nat.le_of_ble_eq_true rfl) ?_
  intro v M2 hz
  obtain ⟨rfl, rfl⟩ := hz
  show xW _ _ _ _ 145 _ [] (mem t94 Gb) _ _
  refine xi_iconst (v := 0) dX12_saysNet_145 (by decide) ?_
  refine xi_istore_n (lv' := [(3, .int 0), (0, .ref 149), (1, .int a)]) dX12_saysNet_146 (by decide) rfl ?_
  refine xi_sub (lv' := [(0, .ref 149), (1, .int a), (3, .int 0)]) [1, 2, 0] rfl ?_
  obtain ⟨e106, t107, k108, hq⟩ := bnd_some hq
  obtain ⟨n109, k108⟩ := wh_itr k108
  refine SX12_saysNet_147_w G Gb a r0 t0 n109 (0 : Int32) t94 _ _ k108 ?_
  show xW G mX12_saysNet (xrm 5 0 0) (xQ G (PV r0 t0 Gb) 0 0) 172 [(0, .ref 149)] [] (mem t107 Gb) 0 0
  refine xi_aload_n 0 dX12_saysNet_172 rfl ?_
  refine xi_ldcwS (w := 12) dX12_saysNet_173 st_12 rfl ?_
  obtain ⟨v110, t111, k112, hq⟩ := bnd_some hq
  refine xi_callV (as := [.float 12]) (rest := []) dX12_saysNet_176 (KX12_says_s12 G Gb  _ _ _ k112) mkX12_says w_1522 ws_92 w_1520 (mem_get sh_149) rfl rfl rfl rfl (Nat.le_of_ble_eq_true rfl) (Nat.le_of_ble_eq_true rfl) (Nat.le_of_ble_eq_true rfl) (Nat.le_of_ble_eq_true rfl) (Nat.le_of_ble_eq_true rfl) ?_
  intro v M2 hz
  obtain ⟨rfl, rfl⟩ := hz
  show xW _ _ _ _ 179 _ [] (mem t111 Gb) _ _
  have r113 := some_pair hq
  obtain ⟨rfl, rfl⟩ := r113
  exact xi_vret dX12_saysNet_179 rfl (Nat.le_of_ble_eq_true rfl) (Nat.le_of_ble_eq_true rfl) ⟨rfl, rfl⟩
noncomputable def FX12_split (a : Int32) (b : Int32) (c : Int32) (σ : St) : Option ((Int32) × St) :=
  (bnd (FX12_isNet a σ) (fun v1 t2 => (if v1 = (0 : Int32) then (some ((-2 : Int32), t2)) else (bnd (FX12_points a t2) (fun v6 t7 => (bnd (FX12_in b.toInt64 (0 : Int64) (((shl (1 : Int32) v6) - (1 : Int32)).toInt64) t7) (fun v9 t10 => (if v9 = (0 : Int32) then (some ((-2 : Int32), t10)) else (bnd (FX12_in c.toInt64 (0 : Int64) (2 : Int64) t10) (fun v14 t15 => (if v14 = (0 : Int32) then (some ((-2 : Int32), t15)) else (bnd (FX12_splitOf a b c t15) (fun v19 t20 => (some (v19, t20)))))))))))))))
set_option maxHeartbeats 4000000 in
set_option maxRecDepth 100000 in
theorem KX12_split (G : xG) (Gb : xMem) (a : Int32) (b : Int32) (c : Int32) (σ : St) (r0 : Int32) (t0 : St) (hq : FX12_split a b c σ = some (r0, t0)) : xC G mX12_split 3 0 0 [.ref 149, .int a, .int b, .int c] (mem σ Gb) (PQ r0 t0 Gb) := by
  unfold FX12_split at hq
  refine xC.of (by decide) (Nat.le_of_ble_eq_true rfl) ?_
  show xW _ _ _ _ 0 [(0, .ref 149), (1, .int a), (2, .int b), (3, .int c)] [] _ 0 0
  refine xi_aload_n 0 dX12_split_0 rfl ?_
  refine xi_iload_n 1 dX12_split_1 rfl ?_
  obtain ⟨v1, t2, k3, hq⟩ := bnd_some hq
  refine xi_callV (as := [.int a]) (rest := []) dX12_split_2 (KX12_isNet G Gb a _ _ _ k3) mkX12_isNet w_1104 ws_35 w_1102 (mem_get sh_149) rfl rfl rfl rfl (Nat.le_of_ble_eq_true rfl) (Nat.le_of_ble_eq_true rfl) (Nat.le_of_ble_eq_true rfl) (Nat.le_of_ble_eq_true rfl) (Nat.le_of_ble_eq_true rfl) ?_
  intro v M2 hz
  obtain ⟨rfl, rfl⟩ := hz
  show xW _ _ _ _ 5 _ [.int v1] (mem t2 Gb) _ _
  refine xi_if_eq (tgt := 49) dX12_split_5 (by decide) (fun c4 => ?_) (fun c4 => ?_)
  · replace hq := ite_p c4 hq
    refine xi_bipush (v := (-2)) dX12_split_49 (by decide) ?_
    have r5 := some_pair hq
    obtain ⟨rfl, rfl⟩ := r5
    exact xi_iret dX12_split_51 rfl rfl (Nat.le_of_ble_eq_true rfl) (Nat.le_of_ble_eq_true rfl) ⟨rfl, rfl⟩
  · replace hq := ite_n c4 hq
    refine xi_iload_n 2 dX12_split_8 rfl ?_
    refine xi_i2l dX12_split_9 rfl ?_
    refine xi_lconst (v := 0) dX12_split_10 (by decide) ?_
    refine xi_iconst (v := 1) dX12_split_11 (by decide) ?_
    refine xi_aload_n 0 dX12_split_12 rfl ?_
    refine xi_iload_n 1 dX12_split_13 rfl ?_
    obtain ⟨v6, t7, k8, hq⟩ := bnd_some hq
    refine xi_callV (as := [.int a]) (rest := [.int 1, .long 0, .long b.toInt64]) dX12_split_14 (KX12_points G Gb a _ _ _ k8) mkX12_points w_1108 ws_36 w_1106 (mem_get sh_149) rfl rfl rfl rfl (Nat.le_of_ble_eq_true rfl) (Nat.le_of_ble_eq_true rfl) (Nat.le_of_ble_eq_true rfl) (Nat.le_of_ble_eq_true rfl) (Nat.le_of_ble_eq_true rfl) ?_
    intro v M2 hz
    obtain ⟨rfl, rfl⟩ := hz
    show xW _ _ _ _ 17 _ [.int v6, .int 1, .long 0, .long b.toInt64] (mem t7 Gb) _ _
    refine xi_ishl (v := shl (1 : Int32) v6) dX12_split_17 rfl ?_
    refine xi_iconst (v := 1) dX12_split_18 (by decide) ?_
    refine xi_isub (v := (shl (1 : Int32) v6) - (1 : Int32)) dX12_split_19 rfl ?_
    refine xi_i2l dX12_split_20 rfl ?_
    obtain ⟨v9, t10, k11, hq⟩ := bnd_some hq
    refine xi_callS (as := [.long b.toInt64, .long 0, .long (((shl (1 : Int32) v6) - (1 : Int32)).toInt64)]) (rest := []) dX12_split_21 (KX12_in G Gb b.toInt64 (0 : Int64) (((shl (1 : Int32) v6) - (1 : Int32)).toInt64) _ _ _ k11) mkX12_in w_1100 w_1099 rfl rfl (Nat.le_of_ble_eq_true rfl) (Nat.le_of_ble_eq_true rfl) (Nat.le_of_ble_eq_true rfl) (Nat.le_of_ble_eq_true rfl) (Nat.le_of_ble_eq_true rfl) ?_
    intro v M2 hz
    obtain ⟨rfl, rfl⟩ := hz
    show xW _ _ _ _ 24 _ [.int v9] (mem t10 Gb) _ _
    refine xi_if_eq (tgt := 49) dX12_split_24 (by decide) (fun c12 => ?_) (fun c12 => ?_)
    · replace hq := ite_p c12 hq
      refine xi_bipush (v := (-2)) dX12_split_49 (by decide) ?_
      have r13 := some_pair hq
      obtain ⟨rfl, rfl⟩ := r13
      exact xi_iret dX12_split_51 rfl rfl (Nat.le_of_ble_eq_true rfl) (Nat.le_of_ble_eq_true rfl) ⟨rfl, rfl⟩
    · replace hq := ite_n c12 hq
      refine xi_iload_n 3 dX12_split_27 rfl ?_
      refine xi_i2l dX12_split_28 rfl ?_
      refine xi_lconst (v := 0) dX12_split_29 (by decide) ?_
      refine xi_ldc2 (v := 2) dX12_split_30 w_1098 ?_
      obtain ⟨v14, t15, k16, hq⟩ := bnd_some hq
      refine xi_callS (as := [.long c.toInt64, .long 0, .long 2]) (rest := []) dX12_split_33 (KX12_in G Gb c.toInt64 (0 : Int64) (2 : Int64) _ _ _ k16) mkX12_in w_1100 w_1099 rfl rfl (Nat.le_of_ble_eq_true rfl) (Nat.le_of_ble_eq_true rfl) (Nat.le_of_ble_eq_true rfl) (Nat.le_of_ble_eq_true rfl) (Nat.le_of_ble_eq_true rfl) ?_
      intro v M2 hz
      obtain ⟨rfl, rfl⟩ := hz
      show xW _ _ _ _ 36 _ [.int v14] (mem t15 Gb) _ _
      refine xi_if_eq (tgt := 49) dX12_split_36 (by decide) (fun c17 => ?_) (fun c17 => ?_)
      · replace hq := ite_p c17 hq
        refine xi_bipush (v := (-2)) dX12_split_49 (by decide) ?_
        have r18 := some_pair hq
        obtain ⟨rfl, rfl⟩ := r18
        exact xi_iret dX12_split_51 rfl rfl (Nat.le_of_ble_eq_true rfl) (Nat.le_of_ble_eq_true rfl) ⟨rfl, rfl⟩
      · replace hq := ite_n c17 hq
        refine xi_aload_n 0 dX12_split_39 rfl ?_
        refine xi_iload_n 1 dX12_split_40 rfl ?_
        refine xi_iload_n 2 dX12_split_41 rfl ?_
        refine xi_iload_n 3 dX12_split_42 rfl ?_
        obtain ⟨v19, t20, k21, hq⟩ := bnd_some hq
        refine xi_callV (as := [.int a, .int b, .int c]) (rest := []) dX12_split_43 (KX12_splitOf G Gb a b c _ _ _ k21) mkX12_splitOf w_1316 ws_72 w_1314 (mem_get sh_149) rfl rfl rfl rfl (Nat.le_of_ble_eq_true rfl) (Nat.le_of_ble_eq_true rfl) (Nat.le_of_ble_eq_true rfl) (Nat.le_of_ble_eq_true rfl) (Nat.le_of_ble_eq_true rfl) ?_
        intro v M2 hz
        obtain ⟨rfl, rfl⟩ := hz
        show xW _ _ _ _ 46 _ [.int v19] (mem t20 Gb) _ _
        refine xi_goto (tgt := 51) dX12_split_46 (by decide) ?_
        have r22 := some_pair hq
        obtain ⟨rfl, rfl⟩ := r22
        exact xi_iret dX12_split_51 rfl rfl (Nat.le_of_ble_eq_true rfl) (Nat.le_of_ble_eq_true rfl) ⟨rfl, rfl⟩
noncomputable def FX12_swaps (a : Int32) (b : Int32) (c : Int32) (σ : St) : Option ((Int32) × St) :=
  (bnd (FX12_isPoint a b σ) (fun v1 t2 => (if v1 = (0 : Int32) then (some ((-2 : Int32), t2)) else (bnd (FX12_isPoint a c t2) (fun v6 t7 => (if v6 = (0 : Int32) then (some ((-2 : Int32), t7)) else (bnd (FX12_at a b t7) (fun v10 t11 => (bnd (FX12_laysRow a t11) (fun v13 t14 => (bnd (FX12_exchanges b c t14) (fun v16 t17 => (bnd (FX12_takesRow a t17) (fun v19 t20 => (some (v10, t20))))))))))))))))
set_option maxHeartbeats 4000000 in
set_option maxRecDepth 100000 in
theorem KX12_swaps (G : xG) (Gb : xMem) (a : Int32) (b : Int32) (c : Int32) (σ : St) (r0 : Int32) (t0 : St) (hq : FX12_swaps a b c σ = some (r0, t0)) : xC G mX12_swaps 4 0 0 [.ref 149, .int a, .int b, .int c] (mem σ Gb) (PQ r0 t0 Gb) := by
  unfold FX12_swaps at hq
  refine xC.of (by decide) (Nat.le_of_ble_eq_true rfl) ?_
  show xW _ _ _ _ 0 [(0, .ref 149), (1, .int a), (2, .int b), (3, .int c)] [] _ 0 0
  refine xi_aload_n 0 dX12_swaps_0 rfl ?_
  refine xi_iload_n 1 dX12_swaps_1 rfl ?_
  refine xi_iload_n 2 dX12_swaps_2 rfl ?_
  obtain ⟨v1, t2, k3, hq⟩ := bnd_some hq
  refine xi_callV (as := [.int a, .int b]) (rest := []) dX12_swaps_3 (KX12_isPoint G Gb a b _ _ _ k3) mkX12_isPoint w_1257 ws_63 w_1255 (mem_get sh_149) rfl rfl rfl rfl (Nat.le_of_ble_eq_true rfl) (Nat.le_of_ble_eq_true rfl) (Nat.le_of_ble_eq_true rfl) (Nat.le_of_ble_eq_true rfl) (Nat.le_of_ble_eq_true rfl) ?_
  intro v M2 hz
  obtain ⟨rfl, rfl⟩ := hz
  show xW _ _ _ _ 6 _ [.int v1] (mem t2 Gb) _ _
  refine xi_if_eq (tgt := 18) dX12_swaps_6 (by decide) (fun c4 => ?_) (fun c4 => ?_)
  · replace hq := ite_p c4 hq
    refine xi_bipush (v := (-2)) dX12_swaps_18 (by decide) ?_
    have r5 := some_pair hq
    obtain ⟨rfl, rfl⟩ := r5
    exact xi_iret dX12_swaps_20 rfl rfl (Nat.le_of_ble_eq_true rfl) (Nat.le_of_ble_eq_true rfl) ⟨rfl, rfl⟩
  · replace hq := ite_n c4 hq
    refine xi_aload_n 0 dX12_swaps_9 rfl ?_
    refine xi_iload_n 1 dX12_swaps_10 rfl ?_
    refine xi_iload_n 3 dX12_swaps_11 rfl ?_
    obtain ⟨v6, t7, k8, hq⟩ := bnd_some hq
    refine xi_callV (as := [.int a, .int c]) (rest := []) dX12_swaps_12 (KX12_isPoint G Gb a c _ _ _ k8) mkX12_isPoint w_1257 ws_63 w_1255 (mem_get sh_149) rfl rfl rfl rfl (Nat.le_of_ble_eq_true rfl) (Nat.le_of_ble_eq_true rfl) (Nat.le_of_ble_eq_true rfl) (Nat.le_of_ble_eq_true rfl) (Nat.le_of_ble_eq_true rfl) ?_
    intro v M2 hz
    obtain ⟨rfl, rfl⟩ := hz
    show xW _ _ _ _ 15 _ [.int v6] (mem t7 Gb) _ _
    refine xi_if_ne (tgt := 21) dX12_swaps_15 (by decide) (fun c9 => ?_) (fun c9 => ?_)
    · replace hq := ite_n c9 hq
      refine xi_aload_n 0 dX12_swaps_21 rfl ?_
      refine xi_iload_n 1 dX12_swaps_22 rfl ?_
      refine xi_iload_n 2 dX12_swaps_23 rfl ?_
      obtain ⟨v10, t11, k12, hq⟩ := bnd_some hq
      refine xi_callV (as := [.int a, .int b]) (rest := []) dX12_swaps_24 (KX12_at G Gb a b _ _ _ k12) mkX12_at w_1273 ws_64 w_1271 (mem_get sh_149) rfl rfl rfl rfl (Nat.le_of_ble_eq_true rfl) (Nat.le_of_ble_eq_true rfl) (Nat.le_of_ble_eq_true rfl) (Nat.le_of_ble_eq_true rfl) (Nat.le_of_ble_eq_true rfl) ?_
      intro v M2 hz
      obtain ⟨rfl, rfl⟩ := hz
      show xW _ _ _ _ 27 _ [.int v10] (mem t11 Gb) _ _
      refine xi_istore (lv' := [(4, .int v10), (0, .ref 149), (1, .int a), (2, .int b), (3, .int c)]) dX12_swaps_27 (by decide) rfl ?_
      refine xi_aload_n 1 dX12_swaps_29 rfl ?_
      refine xi_iload_n 2 dX12_swaps_30 rfl ?_
      obtain ⟨v13, t14, k15, hq⟩ := bnd_some hq
      refine xi_callV (as := [.int a]) (rest := []) dX12_swaps_31 (KX12_laysRow G Gb a _ _ _ k15) mkX12_laysRow w_1292 ws_66 w_1290 (mem_get sh_149) rfl rfl rfl rfl (Nat.le_of_ble_eq_true rfl) (Nat.le_of_ble_eq_true rfl) (Nat.le_of_ble_eq_true rfl) (Nat.le_of_ble_eq_true rfl) (Nat.le_of_ble_eq_true rfl) ?_
      intro v M2 hz
      obtain ⟨rfl, rfl⟩ := hz
      show xW _ _ _ _ 34 _ [] (mem t14 Gb) _ _
      refine xi_aload_n 1 dX12_swaps_34 rfl ?_
      refine xi_iload_n 3 dX12_swaps_35 rfl ?_
      refine xi_iload_n 4 dX12_swaps_36 rfl ?_
      obtain ⟨v16, t17, k18, hq⟩ := bnd_some hq
      refine xi_callV (as := [.int b, .int c]) (rest := []) dX12_swaps_37 (KX12_exchanges G Gb b c _ _ _ k18) mkX12_exchanges w_1452 ws_87 w_1450 (mem_get sh_149) rfl rfl rfl rfl (Nat.le_of_ble_eq_true rfl) (Nat.le_of_ble_eq_true rfl) (Nat.le_of_ble_eq_true rfl) (Nat.le_of_ble_eq_true rfl) (Nat.le_of_ble_eq_true rfl) ?_
      intro v M2 hz
      obtain ⟨rfl, rfl⟩ := hz
      show xW _ _ _ _ 40 _ [] (mem t17 Gb) _ _
      refine xi_aload_n 1 dX12_swaps_40 rfl ?_
      refine xi_iload_n 2 dX12_swaps_41 rfl ?_
      obtain ⟨v19, t20, k21, hq⟩ := bnd_some hq
      refine xi_callV (as := [.int a]) (rest := []) dX12_swaps_42 (KX12_takesRow G Gb a _ _ _ k21) mkX12_takesRow w_1460 ws_88 w_1458 (mem_get sh_149) rfl rfl rfl rfl (Nat.le_of_ble_eq_true rfl) (Nat.le_of_ble_eq_true rfl) (Nat.le_of_ble_eq_true rfl) (Nat.le_of_ble_eq_true rfl) (Nat.le_of_ble_eq_true rfl) ?_
      intro v M2 hz
      obtain ⟨rfl, rfl⟩ := hz
      show xW _ _ _ _ 45 _ [.int v19] (mem t20 Gb) _ _
      refine xi_istore (lv' := [(5, .int v19), (4, .int v10), (0, .ref 149), (1, .int a), (2, .int b), (3, .int c)]) dX12_swaps_45 (by decide) rfl ?_
      refine xi_iload 1 dX12_swaps_47 rfl ?_
      have r22 := some_pair hq
      obtain ⟨rfl, rfl⟩ := r22
      exact xi_iret dX12_swaps_49 rfl rfl (Nat.le_of_ble_eq_true rfl) (Nat.le_of_ble_eq_true rfl) ⟨rfl, rfl⟩
    · replace hq := ite_p c9 hq
      refine xi_bipush (v := (-2)) dX12_swaps_18 (by decide) ?_
      have r23 := some_pair hq
      obtain ⟨rfl, rfl⟩ := r23
      exact xi_iret dX12_swaps_20 rfl rfl (Nat.le_of_ble_eq_true rfl) (Nat.le_of_ble_eq_true rfl) ⟨rfl, rfl⟩
noncomputable def SX12_takes_26 (w1 : Int32) (c : Int32) (σ : St) : Option (((Int32) ⊕ (Unit)) × St) :=
  (bnd (FX12_points w1 σ) (fun v13 t14 => (if v13 ≤ c then (some (Sum.inr (), t14)) else (chk (inb c 9) (rdb t14 159 (c.toNatClampNeg) (fun v18 => (chk (inb c 9) (wrb t14 154 (c.toNatClampNeg) v18 (fun t21 => (some (Sum.inl (c + 1), t21)))))))))))
set_option maxHeartbeats 4000000 in
set_option maxRecDepth 100000 in
theorem SX12_takes_26_w (G : xG) (Gb : xMem) (w1 : Int32) (r0 : Int32) (t0 : St) :
    ∀ (k : Nat) (c : Int32) (σ : St) (r : Unit) (σ' : St), itr (SX12_takes_26 w1) k c σ = some (r, σ') → (xW G mX12_takes (xrm 16 0 0) (xQ G (PQ r0 t0 Gb) 0 0) 53 [(0, .ref 149), (1, .int w1)] [] (mem σ' Gb) 0 0) → xW G mX12_takes (xrm 16 0 0) (xQ G (PQ r0 t0 Gb) 0 0) 26 [(0, .ref 149), (1, .int w1), (3, .int c)] [] (mem σ Gb) 0 0 := by
  intro k
  induction k with
  | zero =>
    intro c σ r σ' h
    exact absurd h (itr_zero _ _ _ _)
  | succ k ih =>
    intro c σ r σ' h HE
    obtain ⟨x, s1, hs, h⟩ := itr_succ h
    unfold SX12_takes_26 at hs
    refine xi_iload_n 2 dX12_takes_26 rfl ?_
    refine xi_aload_n 0 dX12_takes_27 rfl ?_
    refine xi_iload_n 1 dX12_takes_28 rfl ?_
    obtain ⟨v13, t14, k15, hs⟩ := bnd_some hs
    refine xi_callV (as := [.int w1]) (rest := [.int c]) dX12_takes_29 (KX12_points G Gb w1 _ _ _ k15) mkX12_points w_1108 ws_36 w_1106 (mem_get sh_149) rfl rfl rfl rfl (Nat.le_of_ble_eq_true rfl) (Nat.le_of_ble_eq_true rfl) (Nat.le_of_ble_eq_true rfl) (Nat.le_of_ble_eq_true rfl) (Nat.le_of_ble_eq_true rfl) ?_
    intro v M2 hz
    obtain ⟨rfl, rfl⟩ := hz
    show xW _ _ _ _ 32 _ [.int v13, .int c] (mem t14 Gb) _ _
    refine xi_icmp_ge (tgt := 53) dX12_takes_32 (by decide) (fun c16 => ?_) (fun c16 => ?_)
    · replace hs := ite_p c16 hs
      refine xi_sub (lv' := [(0, .ref 149), (1, .int w1)]) [0, 1] rfl ?_
      obtain ⟨rfl, rfl⟩ := some_pair hs
      obtain ⟨rfl, rfl⟩ := some_pair h
      exact HE
    · replace hs := ite_n c16 hs
      refine xi_aload_n 0 dX12_takes_35 rfl ?_
      refine yi_getR (f := 13) dX12_takes_36 sh_149 rfl ok_9 (by decide) w_1021 rfl ?_
      refine xi_iload_n 2 dX12_takes_39 rfl ?_
      refine xi_aload_n 0 dX12_takes_40 rfl ?_
      refine yi_getR (f := 21) dX12_takes_41 sh_149 rfl ok_9 (by decide) w_1029 rfl ?_
      refine xi_iload_n 2 dX12_takes_44 rfl ?_
      obtain ⟨g17, hs⟩ := chk_some hs
      obtain ⟨v18, h19, hs⟩ := rdb_some hs
      refine yi_ialoadV dX12_takes_45 sh_159 g17 h19 ?_
      obtain ⟨g20, hs⟩ := chk_some hs
      obtain ⟨t21, h22, hs⟩ := wrb_some hs
      refine yi_iastoreV dX12_takes_46 sh_154 g20 h22 ?_
      refine xi_iinc (v := (c + 1)) (lv' := [(3, .int (c + 1)), (0, .ref 149), (1, .int w1)]) 2 dX12_takes_47 rfl rfl (by decide) rfl ?_
      refine xi_goto (tgt := 26) dX12_takes_50 (by decide) ?_
      refine xi_sub (lv' := [(0, .ref 149), (1, .int w1), (3, .int (c + 1))]) [1, 2, 0] rfl ?_
      obtain ⟨rfl, rfl⟩ := some_pair hs
      exact ih (c + 1) t21 _ _ h HE
noncomputable def FX12_takes (a : Int32) (b : Int32) (σ : St) : Option ((Int32) × St) :=
  (bnd (FX12_isNet a σ) (fun v1 t2 => (if v1 = (0 : Int32) then (some ((-2 : Int32), t2)) else (bnd (FX12_isMeasure b t2) (fun v6 t7 => (if v6 = (0 : Int32) then (some ((-2 : Int32), t7)) else (bnd (FX12_laysBest a b t7) (fun v10 t11 => (bnd (wh (SX12_takes_26 a) (0 : Int32) t11) (fun e23 t24 => (bnd (FX12_takesRow a t24) (fun v27 t28 => (some (v27, t28))))))))))))))
set_option maxHeartbeats 4000000 in
set_option maxRecDepth 100000 in
theorem KX12_takes (G : xG) (Gb : xMem) (a : Int32) (b : Int32) (σ : St) (r0 : Int32) (t0 : St) (hq : FX12_takes a b σ = some (r0, t0)) : xC G mX12_takes 16 0 0 [.ref 149, .int a, .int b] (mem σ Gb) (PQ r0 t0 Gb) := by
  unfold FX12_takes at hq
  refine xC.of (by decide) (Nat.le_of_ble_eq_true rfl) ?_
  show xW _ _ _ _ 0 [(0, .ref 149), (1, .int a), (2, .int b)] [] _ 0 0
  refine xi_aload_n 0 dX12_takes_0 rfl ?_
  refine xi_iload_n 1 dX12_takes_1 rfl ?_
  obtain ⟨v1, t2, k3, hq⟩ := bnd_some hq
  refine xi_callV (as := [.int a]) (rest := []) dX12_takes_2 (KX12_isNet G Gb a _ _ _ k3) mkX12_isNet w_1104 ws_35 w_1102 (mem_get sh_149) rfl rfl rfl rfl (Nat.le_of_ble_eq_true rfl) (Nat.le_of_ble_eq_true rfl) (Nat.le_of_ble_eq_true rfl) (Nat.le_of_ble_eq_true rfl) (Nat.le_of_ble_eq_true rfl) ?_
  intro v M2 hz
  obtain ⟨rfl, rfl⟩ := hz
  show xW _ _ _ _ 5 _ [.int v1] (mem t2 Gb) _ _
  refine xi_if_eq (tgt := 15) dX12_takes_5 (by decide) (fun c4 => ?_) (fun c4 => ?_)
  · replace hq := ite_p c4 hq
    refine xi_bipush (v := (-2)) dX12_takes_15 (by decide) ?_
    have r5 := some_pair hq
    obtain ⟨rfl, rfl⟩ := r5
    exact xi_iret dX12_takes_17 rfl rfl (Nat.le_of_ble_eq_true rfl) (Nat.le_of_ble_eq_true rfl) ⟨rfl, rfl⟩
  · replace hq := ite_n c4 hq
    refine xi_iload_n 2 dX12_takes_8 rfl ?_
    obtain ⟨v6, t7, k8, hq⟩ := bnd_some hq
    refine xi_callS (as := [.int b]) (rest := []) dX12_takes_9 (KX12_isMeasure G Gb b _ _ _ k8) mkX12_isMeasure w_1288 w_1287 rfl rfl (Nat.le_of_ble_eq_true rfl) (Nat.le_of_ble_eq_true rfl) (Nat.le_of_ble_eq_true rfl) (Nat.le_of_ble_eq_true rfl) (Nat.le_of_ble_eq_true rfl) ?_
    intro v M2 hz
    obtain ⟨rfl, rfl⟩ := hz
    show xW _ _ _ _ 12 _ [.int v6] (mem t7 Gb) _ _
    refine xi_if_ne (tgt := 18) dX12_takes_12 (by decide) (fun c9 => ?_) (fun c9 => ?_)
    · replace hq := ite_n c9 hq
      refine xi_aload_n 0 dX12_takes_18 rfl ?_
      refine xi_iload_n 1 dX12_takes_19 rfl ?_
      refine xi_iload_n 2 dX12_takes_20 rfl ?_
      obtain ⟨v10, t11, k12, hq⟩ := bnd_some hq
      refine xi_callV (as := [.int a, .int b]) (rest := []) dX12_takes_21 (KX12_laysBest G Gb a b _ _ _ k12) mkX12_laysBest w_1383 ws_81 w_1381 (mem_get sh_149) rfl rfl rfl rfl (Nat.le_of_ble_eq_true rfl) (Nat.le_of_ble_eq_true rfl) (Nat.le_of_ble_eq_true rfl) (Nat.le_of_ble_eq_true rfl) (Nat.le_of_ble_eq_true rfl) ?_
      intro v M2 hz
      obtain ⟨rfl, rfl⟩ := hz
      show xW _ _ _ _ 24 _ [] (mem t11 Gb) _ _
      refine xi_iconst (v := 0) dX12_takes_24 (by decide) ?_
      refine xi_istore_n (lv' := [(3, .int 0), (0, .ref 149), (1, .int a), (2, .int b)]) dX12_takes_25 (by decide) rfl ?_
      refine xi_sub (lv' := [(0, .ref 149), (1, .int a), (3, .int 0)]) [1, 2, 0] rfl ?_
      obtain ⟨e23, t24, k25, hq⟩ := bnd_some hq
      obtain ⟨n26, k25⟩ := wh_itr k25
      refine SX12_takes_26_w G Gb a r0 t0 n26 (0 : Int32) t11 _ _ k25 ?_
      show xW G mX12_takes (xrm 16 0 0) (xQ G (PQ r0 t0 Gb) 0 0) 53 [(0, .ref 149), (1, .int a)] [] (mem t24 Gb) 0 0
      refine xi_aload_n 0 dX12_takes_53 rfl ?_
      refine xi_iload_n 1 dX12_takes_54 rfl ?_
      obtain ⟨v27, t28, k29, hq⟩ := bnd_some hq
      refine xi_callV (as := [.int a]) (rest := []) dX12_takes_55 (KX12_takesRow G Gb a _ _ _ k29) mkX12_takesRow w_1460 ws_88 w_1458 (mem_get sh_149) rfl rfl rfl rfl (Nat.le_of_ble_eq_true rfl) (Nat.le_of_ble_eq_true rfl) (Nat.le_of_ble_eq_true rfl) (Nat.le_of_ble_eq_true rfl) (Nat.le_of_ble_eq_true rfl) ?_
      intro v M2 hz
      obtain ⟨rfl, rfl⟩ := hz
      show xW _ _ _ _ 58 _ [.int v27] (mem t28 Gb) _ _
      have r30 := some_pair hq
      obtain ⟨rfl, rfl⟩ := r30
      exact xi_iret dX12_takes_58 rfl rfl (Nat.le_of_ble_eq_true rfl) (Nat.le_of_ble_eq_true rfl) ⟨rfl, rfl⟩
    · replace hq := ite_p c9 hq
      refine xi_bipush (v := (-2)) dX12_takes_15 (by decide) ?_
      have r31 := some_pair hq
      obtain ⟨rfl, rfl⟩ := r31
      exact xi_iret dX12_takes_17 rfl rfl (Nat.le_of_ble_eq_true rfl) (Nat.le_of_ble_eq_true rfl) ⟨rfl, rfl⟩
noncomputable def SX12_tell_42 (w1 : Int32) (c : Int32) (σ : St) : Option (((Int32) ⊕ (Unit)) × St) :=
  (bnd (FX12_points w1 σ) (fun v13 t14 => (if v13 ≤ c then (some (Sum.inr (), t14)) else (if c = (1 : Int32) then (bnd (FX12_says_s13  t14) (fun v27 t28 => (bnd (FX12_priceOf w1 (0 : Int32) c t28) (fun v30 t31 => (bnd (FX12_saysNumber 4 v30 t31) (fun v33 t34 => (some (Sum.inl (c + 1), t34)))))))) else (bnd (FX12_says_s14  t14) (fun v18 t19 => (bnd (FX12_priceOf w1 (0 : Int32) c t19) (fun v21 t22 => (bnd (FX12_saysNumber 4 v21 t22) (fun v24 t25 => (some (Sum.inl (c + 1), t25))))))))))))
set_option maxHeartbeats 4000000 in
set_option maxRecDepth 100000 in
theorem SX12_tell_42_w (G : xG) (Gb : xMem) (w1 : Int32) (r0 : Int32) (t0 : St) :
    ∀ (k : Nat) (c : Int32) (σ : St) (r : Unit) (σ' : St), itr (SX12_tell_42 w1) k c σ = some (r, σ') → (xW G mX12_tell (xrm 6 0 0) (xQ G (PQ r0 t0 Gb) 0 0) 86 [(0, .ref 149)] [] (mem σ' Gb) 0 0) → xW G mX12_tell (xrm 6 0 0) (xQ G (PQ r0 t0 Gb) 0 0) 42 [(0, .ref 149), (1, .int w1), (3, .int c)] [] (mem σ Gb) 0 0 := by
  intro k
  induction k with
  | zero =>
    intro c σ r σ' h
    exact absurd h (itr_zero _ _ _ _)
  | succ k ih =>
    intro c σ r σ' h HE
    obtain ⟨x, s1, hs, h⟩ := itr_succ h
    unfold SX12_tell_42 at hs
    refine xi_iload_n 2 dX12_tell_42 rfl ?_
    refine xi_aload_n 0 dX12_tell_43 rfl ?_
    refine xi_iload_n 1 dX12_tell_44 rfl ?_
    obtain ⟨v13, t14, k15, hs⟩ := bnd_some hs
    refine xi_callV (as := [.int w1]) (rest := [.int c]) dX12_tell_45 (KX12_points G Gb w1 _ _ _ k15) mkX12_points w_1108 ws_36 w_1106 (mem_get sh_149) rfl rfl rfl rfl (Nat.le_of_ble_eq_true rfl) (Nat.le_of_ble_eq_true rfl) (Nat.le_of_ble_eq_true rfl) (Nat.le_of_ble_eq_true rfl) (Nat.le_of_ble_eq_true rfl) ?_
    intro v M2 hz
    obtain ⟨rfl, rfl⟩ := hz
    show xW _ _ _ _ 48 _ [.int v13, .int c] (mem t14 Gb) _ _
    refine xi_icmp_ge (tgt := 86) dX12_tell_48 (by decide) (fun c16 => ?_) (fun c16 => ?_)
    · replace hs := ite_p c16 hs
      refine xi_sub (lv' := [(0, .ref 149)]) [0] rfl ?_
      obtain ⟨rfl, rfl⟩ := some_pair hs
      obtain ⟨rfl, rfl⟩ := some_pair h
      exact HE
    · replace hs := ite_n c16 hs
      refine xi_aload_n 0 dX12_tell_51 rfl ?_
      refine xi_iload_n 2 dX12_tell_52 rfl ?_
      refine xi_iconst (v := 1) dX12_tell_53 (by decide) ?_
      refine xi_icmp_ne (tgt := 63) dX12_tell_54 (by decide) (fun c17 => ?_) (fun c17 => ?_)
      · replace hs := ite_n c17 hs
        refine xi_ldcwS (w := 14) dX12_tell_63 st_14 rfl ?_
        obtain ⟨v18, t19, k20, hs⟩ := bnd_some hs
        refine xi_callV (as := [.float 14]) (rest := []) dX12_tell_66 (KX12_says_s14 G Gb  _ _ _ k20) mkX12_says w_1522 ws_92 w_1520 (mem_get sh_149) rfl rfl rfl rfl (Nat.le_of_ble_eq_true rfl) (Nat.le_of_ble_eq_true rfl) (Nat.le_of_ble_eq_true rfl) (Nat.le_of_ble_eq_true rfl) (Nat.le_of_ble_eq_true rfl) ?_
        intro v M2 hz
        obtain ⟨rfl, rfl⟩ := hz
        show xW _ _ _ _ 69 _ [] (mem t19 Gb) _ _
        refine xi_aload_n 0 dX12_tell_69 rfl ?_
        refine xi_aload_n 0 dX12_tell_70 rfl ?_
        refine xi_iload_n 1 dX12_tell_71 rfl ?_
        refine xi_iconst (v := 0) dX12_tell_72 (by decide) ?_
        refine xi_iload_n 2 dX12_tell_73 rfl ?_
        obtain ⟨v21, t22, k23, hs⟩ := bnd_some hs
        refine xi_callV (as := [.int w1, .int 0, .int c]) (rest := [.ref 149]) dX12_tell_74 (KX12_priceOf G Gb w1 (0 : Int32) c _ _ _ k23) mkX12_priceOf w_1333 ws_73 w_1331 (mem_get sh_149) rfl rfl rfl rfl (Nat.le_of_ble_eq_true rfl) (Nat.le_of_ble_eq_true rfl) (Nat.le_of_ble_eq_true rfl) (Nat.le_of_ble_eq_true rfl) (Nat.le_of_ble_eq_true rfl) ?_
        intro v M2 hz
        obtain ⟨rfl, rfl⟩ := hz
        show xW _ _ _ _ 77 _ [.int v21, .ref 149] (mem t22 Gb) _ _
        obtain ⟨v24, t25, k26, hs⟩ := bnd_some hs
        refine xi_callV (as := [.int v21]) (rest := []) dX12_tell_77 (KX12_saysNumber G Gb 4 v21 _ _ _ k26) mkX12_saysNumber w_1526 ws_93 w_1524 (mem_get sh_149) rfl rfl rfl rfl (Nat.le_of_ble_eq_true rfl) (Nat.le_of_ble_eq_true rfl) (Nat.le_of_ble_eq_true rfl) (Nat.le_of_ble_eq_true rfl) (Nat.le_of_ble_eq_true rfl) ?_
        intro v M2 hz
        obtain ⟨rfl, rfl⟩ := hz
        show xW _ _ _ _ 80 _ [] (mem t25 Gb) _ _
        refine xi_iinc (v := (c + 1)) (lv' := [(3, .int (c + 1)), (0, .ref 149), (1, .int w1)]) 2 dX12_tell_80 rfl rfl (by decide) rfl ?_
        refine xi_goto (tgt := 42) dX12_tell_83 (by decide) ?_
        refine xi_sub (lv' := [(0, .ref 149), (1, .int w1), (3, .int (c + 1))]) [1, 2, 0] rfl ?_
        obtain ⟨rfl, rfl⟩ := some_pair hs
        exact ih (c + 1) t25 _ _ h HE
      · replace hs := ite_p c17 hs
        refine xi_ldcwS (w := 13) dX12_tell_57 st_13 rfl ?_
        refine xi_goto (tgt := 66) dX12_tell_60 (by decide) ?_
        obtain ⟨v27, t28, k29, hs⟩ := bnd_some hs
        refine xi_callV (as := [.float 13]) (rest := []) dX12_tell_66 (KX12_says_s13 G Gb  _ _ _ k29) mkX12_says w_1522 ws_92 w_1520 (mem_get sh_149) rfl rfl rfl rfl (Nat.le_of_ble_eq_true rfl) (Nat.le_of_ble_eq_true rfl) (Nat.le_of_ble_eq_true rfl) (Nat.le_of_ble_eq_true rfl) (Nat.le_of_ble_eq_true rfl) ?_
        intro v M2 hz
        obtain ⟨rfl, rfl⟩ := hz
        show xW _ _ _ _ 69 _ [] (mem t28 Gb) _ _
        refine xi_aload_n 0 dX12_tell_69 rfl ?_
        refine xi_aload_n 0 dX12_tell_70 rfl ?_
        refine xi_iload_n 1 dX12_tell_71 rfl ?_
        refine xi_iconst (v := 0) dX12_tell_72 (by decide) ?_
        refine xi_iload_n 2 dX12_tell_73 rfl ?_
        obtain ⟨v30, t31, k32, hs⟩ := bnd_some hs
        refine xi_callV (as := [.int w1, .int 0, .int c]) (rest := [.ref 149]) dX12_tell_74 (KX12_priceOf G Gb w1 (0 : Int32) c _ _ _ k32) mkX12_priceOf w_1333 ws_73 w_1331 (mem_get sh_149) rfl rfl rfl rfl (Nat.le_of_ble_eq_true rfl) (Nat.le_of_ble_eq_true rfl) (Nat.le_of_ble_eq_true rfl) (Nat.le_of_ble_eq_true rfl) (Nat.le_of_ble_eq_true rfl) ?_
        intro v M2 hz
        obtain ⟨rfl, rfl⟩ := hz
        show xW _ _ _ _ 77 _ [.int v30, .ref 149] (mem t31 Gb) _ _
        obtain ⟨v33, t34, k35, hs⟩ := bnd_some hs
        refine xi_callV (as := [.int v30]) (rest := []) dX12_tell_77 (KX12_saysNumber G Gb 4 v30 _ _ _ k35) mkX12_saysNumber w_1526 ws_93 w_1524 (mem_get sh_149) rfl rfl rfl rfl (Nat.le_of_ble_eq_true rfl) (Nat.le_of_ble_eq_true rfl) (Nat.le_of_ble_eq_true rfl) (Nat.le_of_ble_eq_true rfl) (Nat.le_of_ble_eq_true rfl) ?_
        intro v M2 hz
        obtain ⟨rfl, rfl⟩ := hz
        show xW _ _ _ _ 80 _ [] (mem t34 Gb) _ _
        refine xi_iinc (v := (c + 1)) (lv' := [(3, .int (c + 1)), (0, .ref 149), (1, .int w1)]) 2 dX12_tell_80 rfl rfl (by decide) rfl ?_
        refine xi_goto (tgt := 42) dX12_tell_83 (by decide) ?_
        refine xi_sub (lv' := [(0, .ref 149), (1, .int w1), (3, .int (c + 1))]) [1, 2, 0] rfl ?_
        obtain ⟨rfl, rfl⟩ := some_pair hs
        exact ih (c + 1) t34 _ _ h HE
noncomputable def FX12_tell (a : Int32) (b : Int32) (σ : St) : Option ((Int32) × St) :=
  (bnd (FX12_isNet a σ) (fun v1 t2 => (if v1 = (0 : Int32) then (some ((-2 : Int32), t2)) else (bnd (FX12_in b.toInt64 (0 : Int64) (1 : Int64) t2) (fun v6 t7 => (if v6 = (0 : Int32) then (some ((-2 : Int32), t7)) else (wrb t7 149 (25) (0 : Int32) (fun t10 => (if b = (0 : Int32) then (bnd (FX12_saysNet a t10) (fun v43 t44 => (rdb t44 149 (25) (fun v46 => (some (v46, t44)))))) else (bnd (wh (SX12_tell_42 a) (1 : Int32) t10) (fun e36 t37 => (rdb t37 149 (25) (fun v40 => (some (v40, t37)))))))))))))))
set_option maxHeartbeats 4000000 in
set_option maxRecDepth 100000 in
theorem KX12_tell (G : xG) (Gb : xMem) (a : Int32) (b : Int32) (σ : St) (r0 : Int32) (t0 : St) (hq : FX12_tell a b σ = some (r0, t0)) : xC G mX12_tell 6 0 0 [.ref 149, .int a, .int b] (mem σ Gb) (PQ r0 t0 Gb) := by
  unfold FX12_tell at hq
  refine xC.of (by decide) (Nat.le_of_ble_eq_true rfl) ?_
  show xW _ _ _ _ 0 [(0, .ref 149), (1, .int a), (2, .int b)] [] _ 0 0
  refine xi_aload_n 0 dX12_tell_0 rfl ?_
  refine xi_iload_n 1 dX12_tell_1 rfl ?_
  obtain ⟨v1, t2, k3, hq⟩ := bnd_some hq
  refine xi_callV (as := [.int a]) (rest := []) dX12_tell_2 (KX12_isNet G Gb a _ _ _ k3) mkX12_isNet w_1104 ws_35 w_1102 (mem_get sh_149) rfl rfl rfl rfl (Nat.le_of_ble_eq_true rfl) (Nat.le_of_ble_eq_true rfl) (Nat.le_of_ble_eq_true rfl) (Nat.le_of_ble_eq_true rfl) (Nat.le_of_ble_eq_true rfl) ?_
  intro v M2 hz
  obtain ⟨rfl, rfl⟩ := hz
  show xW _ _ _ _ 5 _ [.int v1] (mem t2 Gb) _ _
  refine xi_if_eq (tgt := 18) dX12_tell_5 (by decide) (fun c4 => ?_) (fun c4 => ?_)
  · replace hq := ite_p c4 hq
    refine xi_bipush (v := (-2)) dX12_tell_18 (by decide) ?_
    have r5 := some_pair hq
    obtain ⟨rfl, rfl⟩ := r5
    exact xi_iret dX12_tell_20 rfl rfl (Nat.le_of_ble_eq_true rfl) (Nat.le_of_ble_eq_true rfl) ⟨rfl, rfl⟩
  · replace hq := ite_n c4 hq
    refine xi_iload_n 2 dX12_tell_8 rfl ?_
    refine xi_i2l dX12_tell_9 rfl ?_
    refine xi_lconst (v := 0) dX12_tell_10 (by decide) ?_
    refine xi_lconst (v := 1) dX12_tell_11 (by decide) ?_
    obtain ⟨v6, t7, k8, hq⟩ := bnd_some hq
    refine xi_callS (as := [.long b.toInt64, .long 0, .long 1]) (rest := []) dX12_tell_12 (KX12_in G Gb b.toInt64 (0 : Int64) (1 : Int64) _ _ _ k8) mkX12_in w_1100 w_1099 rfl rfl (Nat.le_of_ble_eq_true rfl) (Nat.le_of_ble_eq_true rfl) (Nat.le_of_ble_eq_true rfl) (Nat.le_of_ble_eq_true rfl) (Nat.le_of_ble_eq_true rfl) ?_
    intro v M2 hz
    obtain ⟨rfl, rfl⟩ := hz
    show xW _ _ _ _ 15 _ [.int v6] (mem t7 Gb) _ _
    refine xi_if_ne (tgt := 21) dX12_tell_15 (by decide) (fun c9 => ?_) (fun c9 => ?_)
    · replace hq := ite_n c9 hq
      refine xi_aload_n 0 dX12_tell_21 rfl ?_
      refine xi_iconst (v := 0) dX12_tell_22 (by decide) ?_
      obtain ⟨t10, h11, hq⟩ := wrb_some hq
      refine yi_putV (f := 25) (ty := .int) dX12_tell_23 sh_149 rfl ok_9 (by decide) w_1033 rfl rfl pf_I rfl rfl h11 ?_
      refine xi_iload_n 2 dX12_tell_26 rfl ?_
      refine xi_if_ne (tgt := 40) dX12_tell_27 (by decide) (fun c12 => ?_) (fun c12 => ?_)
      · replace hq := ite_n c12 hq
        refine xi_iconst (v := 1) dX12_tell_40 (by decide) ?_
        refine xi_istore_n (lv' := [(3, .int 1), (0, .ref 149), (1, .int a), (2, .int b)]) dX12_tell_41 (by decide) rfl ?_
        refine xi_sub (lv' := [(0, .ref 149), (1, .int a), (3, .int 1)]) [1, 2, 0] rfl ?_
        obtain ⟨e36, t37, k38, hq⟩ := bnd_some hq
        obtain ⟨n39, k38⟩ := wh_itr k38
        refine SX12_tell_42_w G Gb a r0 t0 n39 (1 : Int32) t10 _ _ k38 ?_
        show xW G mX12_tell (xrm 6 0 0) (xQ G (PQ r0 t0 Gb) 0 0) 86 [(0, .ref 149)] [] (mem t37 Gb) 0 0
        refine xi_aload_n 0 dX12_tell_86 rfl ?_
        obtain ⟨v40, h41, hq⟩ := rdb_some hq
        refine yi_getV (f := 25) dX12_tell_87 sh_149 rfl ok_9 (by decide) w_1033 rfl h41 ?_
        have r42 := some_pair hq
        obtain ⟨rfl, rfl⟩ := r42
        exact xi_iret dX12_tell_90 rfl rfl (Nat.le_of_ble_eq_true rfl) (Nat.le_of_ble_eq_true rfl) ⟨rfl, rfl⟩
      · replace hq := ite_p c12 hq
        refine xi_aload_n 0 dX12_tell_30 rfl ?_
        refine xi_iload_n 1 dX12_tell_31 rfl ?_
        obtain ⟨v43, t44, k45, hq⟩ := bnd_some hq
        refine xi_callV (as := [.int a]) (rest := []) dX12_tell_32 (KX12_saysNet G Gb a _ _ _ k45) mkX12_saysNet w_1517 ws_91 w_1515 (mem_get sh_149) rfl rfl rfl rfl (Nat.le_of_ble_eq_true rfl) (Nat.le_of_ble_eq_true rfl) (Nat.le_of_ble_eq_true rfl) (Nat.le_of_ble_eq_true rfl) (Nat.le_of_ble_eq_true rfl) ?_
        intro v M2 hz
        obtain ⟨rfl, rfl⟩ := hz
        show xW _ _ _ _ 35 _ [] (mem t44 Gb) _ _
        refine xi_aload_n 0 dX12_tell_35 rfl ?_
        obtain ⟨v46, h47, hq⟩ := rdb_some hq
        refine yi_getV (f := 25) dX12_tell_36 sh_149 rfl ok_9 (by decide) w_1033 rfl h47 ?_
        have r48 := some_pair hq
        obtain ⟨rfl, rfl⟩ := r48
        exact xi_iret dX12_tell_39 rfl rfl (Nat.le_of_ble_eq_true rfl) (Nat.le_of_ble_eq_true rfl) ⟨rfl, rfl⟩
    · replace hq := ite_p c9 hq
      refine xi_bipush (v := (-2)) dX12_tell_18 (by decide) ?_
      have r49 := some_pair hq
      obtain ⟨rfl, rfl⟩ := r49
      exact xi_iret dX12_tell_20 rfl rfl (Nat.le_of_ble_eq_true rfl) (Nat.le_of_ble_eq_true rfl) ⟨rfl, rfl⟩
noncomputable def SX12_told_57 (c : Int32) (σ : St) : Option (((Int32) ⊕ (Unit)) × St) :=
  (if (273 : Int32) ≤ c then (some (Sum.inr (), σ)) else (chk (inb c 273) (rdb σ 151 (c.toNatClampNeg) (fun v36 => (chk (inb c 273) (wrb σ 150 (c.toNatClampNeg) v36 (fun t39 => (some (Sum.inl (c + 1), t39)))))))))
set_option maxHeartbeats 4000000 in
set_option maxRecDepth 100000 in
theorem SX12_told_57_w (G : xG) (Gb : xMem) (r0 : Int32) (t0 : St) :
    ∀ (k : Nat) (c : Int32) (σ : St) (r : Unit) (σ' : St), itr (SX12_told_57) k c σ = some (r, σ') → (xW G mX12_told (xrm 7 0 0) (xQ G (PQ r0 t0 Gb) 0 0) 82 [] [] (mem σ' Gb) 0 0) → xW G mX12_told (xrm 7 0 0) (xQ G (PQ r0 t0 Gb) 0 0) 57 [(0, .ref 149), (2, .int c)] [] (mem σ Gb) 0 0 := by
  intro k
  induction k with
  | zero =>
    intro c σ r σ' h
    exact absurd h (itr_zero _ _ _ _)
  | succ k ih =>
    intro c σ r σ' h HE
    obtain ⟨x, s1, hs, h⟩ := itr_succ h
    unfold SX12_told_57 at hs
    refine xi_iload_n 1 dX12_told_57 rfl ?_
    refine xi_sipush (v := 273) dX12_told_58 (by decide) ?_
    refine xi_icmp_ge (tgt := 82) dX12_told_61 (by decide) (fun c34 => ?_) (fun c34 => ?_)
    · replace hs := ite_p c34 hs
      refine xi_sub (lv' := []) [] rfl ?_
      obtain ⟨rfl, rfl⟩ := some_pair hs
      obtain ⟨rfl, rfl⟩ := some_pair h
      exact HE
    · replace hs := ite_n c34 hs
      refine xi_aload_n 0 dX12_told_64 rfl ?_
      refine yi_getR (f := 0) dX12_told_65 sh_149 rfl ok_9 (by decide) w_1008 rfl ?_
      refine xi_iload_n 1 dX12_told_68 rfl ?_
      refine xi_aload_n 0 dX12_told_69 rfl ?_
      refine yi_getR (f := 1) dX12_told_70 sh_149 rfl ok_9 (by decide) w_1009 rfl ?_
      refine xi_iload_n 1 dX12_told_73 rfl ?_
      obtain ⟨g35, hs⟩ := chk_some hs
      obtain ⟨v36, h37, hs⟩ := rdb_some hs
      refine yi_ialoadV dX12_told_74 sh_151 g35 h37 ?_
      obtain ⟨g38, hs⟩ := chk_some hs
      obtain ⟨t39, h40, hs⟩ := wrb_some hs
      refine yi_iastoreV dX12_told_75 sh_150 g38 h40 ?_
      refine xi_iinc (v := (c + 1)) (lv' := [(2, .int (c + 1)), (0, .ref 149)]) 1 dX12_told_76 rfl rfl (by decide) rfl ?_
      refine xi_goto (tgt := 57) dX12_told_79 (by decide) ?_
      refine xi_sub (lv' := [(0, .ref 149), (2, .int (c + 1))]) [1, 0] rfl ?_
      obtain ⟨rfl, rfl⟩ := some_pair hs
      exact ih (c + 1) t39 _ _ h HE
noncomputable def FX12_told (a : Int32) (σ : St) : Option ((Int32) × St) :=
  (bnd (FX12_isSlot a σ) (fun v1 t2 => (if v1 = (0 : Int32) then (some ((-2 : Int32), t2)) else (wrb t2 149 (6) (0 : Int32) (fun t5 => (wrb t5 149 (7) (-1 : Int32) (fun t7 => (wrb t7 149 (12) (0 : Int32) (fun t9 => (wrb t9 149 (8) (0 : Int32) (fun t11 => (bnd (FX12_remembers  t11) (fun v13 t14 => (bnd (FX12_next  t14) (fun v16 t17 => (bnd (FX12_readsNet a t17) (fun v19 t20 => (wrb t20 149 (5) (0 : Int32) (fun t22 => (rdb t22 149 (12) (fun v24 => (if v24 = (0 : Int32) then (bnd (FX12_lines a t22) (fun v27 t28 => (bnd (FX12_done v27 t28) (fun v30 t31 => (some (v30, t31)))))) else (bnd (wh (SX12_told_57) (0 : Int32) t22) (fun e41 t42 => (some ((-4 : Int32), t42))))))))))))))))))))))))))
set_option maxHeartbeats 4000000 in
set_option maxRecDepth 100000 in
theorem KX12_told (G : xG) (Gb : xMem) (a : Int32) (σ : St) (r0 : Int32) (t0 : St) (hq : FX12_told a σ = some (r0, t0)) : xC G mX12_told 7 0 0 [.ref 149, .int a] (mem σ Gb) (PQ r0 t0 Gb) := by
  unfold FX12_told at hq
  refine xC.of (by decide) (Nat.le_of_ble_eq_true rfl) ?_
  show xW _ _ _ _ 0 [(0, .ref 149), (1, .int a)] [] _ 0 0
  refine xi_iload_n 1 dX12_told_0 rfl ?_
  obtain ⟨v1, t2, k3, hq⟩ := bnd_some hq
  refine xi_callS (as := [.int a]) (rest := []) dX12_told_1 (KX12_isSlot G Gb a _ _ _ k3) mkX12_isSlot w_1096 w_1095 rfl rfl (Nat.le_of_ble_eq_true rfl) (Nat.le_of_ble_eq_true rfl) (Nat.le_of_ble_eq_true rfl) (Nat.le_of_ble_eq_true rfl) (Nat.le_of_ble_eq_true rfl) ?_
  intro v M2 hz
  obtain ⟨rfl, rfl⟩ := hz
  show xW _ _ _ _ 4 _ [.int v1] (mem t2 Gb) _ _
  refine xi_if_ne (tgt := 10) dX12_told_4 (by decide) (fun c4 => ?_) (fun c4 => ?_)
  · replace hq := ite_n c4 hq
    refine xi_aload_n 0 dX12_told_10 rfl ?_
    refine xi_iconst (v := 0) dX12_told_11 (by decide) ?_
    obtain ⟨t5, h6, hq⟩ := wrb_some hq
    refine yi_putV (f := 6) (ty := .int) dX12_told_12 sh_149 rfl ok_9 (by decide) w_1014 rfl rfl pf_I rfl rfl h6 ?_
    refine xi_aload_n 0 dX12_told_15 rfl ?_
    refine xi_iconst (v := (-1)) dX12_told_16 (by decide) ?_
    obtain ⟨t7, h8, hq⟩ := wrb_some hq
    refine yi_putV (f := 7) (ty := .int) dX12_told_17 sh_149 rfl ok_9 (by decide) w_1015 rfl rfl pf_I rfl rfl h8 ?_
    refine xi_aload_n 0 dX12_told_20 rfl ?_
    refine xi_iconst (v := 0) dX12_told_21 (by decide) ?_
    obtain ⟨t9, h10, hq⟩ := wrb_some hq
    refine yi_putV (f := 12) (ty := .boolean) dX12_told_22 sh_149 rfl ok_9 (by decide) w_1020 rfl rfl pf_Z rfl rfl h10 ?_
    refine xi_aload_n 0 dX12_told_25 rfl ?_
    refine xi_iconst (v := 0) dX12_told_26 (by decide) ?_
    obtain ⟨t11, h12, hq⟩ := wrb_some hq
    refine yi_putV (f := 8) (ty := .int) dX12_told_27 sh_149 rfl ok_9 (by decide) w_1016 rfl rfl pf_I rfl rfl h12 ?_
    refine xi_aload_n 0 dX12_told_30 rfl ?_
    obtain ⟨v13, t14, k15, hq⟩ := bnd_some hq
    refine xi_callV (as := []) (rest := []) dX12_told_31 (KX12_remembers G Gb  _ _ _ k15) mkX12_remembers w_1112 ws_37 w_1110 (mem_get sh_149) rfl rfl rfl rfl (Nat.le_of_ble_eq_true rfl) (Nat.le_of_ble_eq_true rfl) (Nat.le_of_ble_eq_true rfl) (Nat.le_of_ble_eq_true rfl) (Nat.le_of_ble_eq_true rfl) ?_
    intro v M2 hz
    obtain ⟨rfl, rfl⟩ := hz
    show xW _ _ _ _ 34 _ [] (mem t14 Gb) _ _
    refine xi_aload_n 0 dX12_told_34 rfl ?_
    obtain ⟨v16, t17, k18, hq⟩ := bnd_some hq
    refine xi_callV (as := []) (rest := []) dX12_told_35 (KX12_next G Gb  _ _ _ k18) mkX12_next w_1136 ws_40 w_1134 (mem_get sh_149) rfl rfl rfl rfl (Nat.le_of_ble_eq_true rfl) (Nat.le_of_ble_eq_true rfl) (Nat.le_of_ble_eq_true rfl) (Nat.le_of_ble_eq_true rfl) (Nat.le_of_ble_eq_true rfl) ?_
    intro v M2 hz
    obtain ⟨rfl, rfl⟩ := hz
    show xW _ _ _ _ 38 _ [] (mem t17 Gb) _ _
    refine xi_aload_n 0 dX12_told_38 rfl ?_
    refine xi_iload_n 1 dX12_told_39 rfl ?_
    obtain ⟨v19, t20, k21, hq⟩ := bnd_some hq
    refine xi_callV (as := [.int a]) (rest := []) dX12_told_40 (KX12_readsNet G Gb a _ _ _ k21) mkX12_readsNet w_1145 ws_42 w_1143 (mem_get sh_149) rfl rfl rfl rfl (Nat.le_of_ble_eq_true rfl) (Nat.le_of_ble_eq_true rfl) (Nat.le_of_ble_eq_true rfl) (Nat.le_of_ble_eq_true rfl) (Nat.le_of_ble_eq_true rfl) ?_
    intro v M2 hz
    obtain ⟨rfl, rfl⟩ := hz
    show xW _ _ _ _ 43 _ [] (mem t20 Gb) _ _
    refine xi_aload_n 0 dX12_told_43 rfl ?_
    refine xi_iconst (v := 0) dX12_told_44 (by decide) ?_
    obtain ⟨t22, h23, hq⟩ := wrb_some hq
    refine yi_putV (f := 5) (ty := .int) dX12_told_45 sh_149 rfl ok_9 (by decide) w_1013 rfl rfl pf_I rfl rfl h23 ?_
    refine xi_aload_n 0 dX12_told_48 rfl ?_
    obtain ⟨v24, h25, hq⟩ := rdb_some hq
    refine yi_getV (f := 12) dX12_told_49 sh_149 rfl ok_9 (by decide) w_1020 rfl h25 ?_
    refine xi_if_eq (tgt := 85) dX12_told_52 (by decide) (fun c26 => ?_) (fun c26 => ?_)
    · replace hq := ite_p c26 hq
      refine xi_aload_n 0 dX12_told_85 rfl ?_
      refine xi_aload_n 0 dX12_told_86 rfl ?_
      refine xi_iload_n 1 dX12_told_87 rfl ?_
      obtain ⟨v27, t28, k29, hq⟩ := bnd_some hq
      refine xi_callV (as := [.int a]) (rest := [.ref 149]) dX12_told_88 (KX12_lines G Gb a _ _ _ k29) mkX12_lines w_1184 ws_51 w_1182 (mem_get sh_149) rfl rfl rfl rfl (Nat.le_of_ble_eq_true rfl) (Nat.le_of_ble_eq_true rfl) (Nat.le_of_ble_eq_true rfl) (Nat.le_of_ble_eq_true rfl) (Nat.le_of_ble_eq_true rfl) ?_
      intro v M2 hz
      obtain ⟨rfl, rfl⟩ := hz
      show xW _ _ _ _ 91 _ [.int v27, .ref 149] (mem t28 Gb) _ _
      obtain ⟨v30, t31, k32, hq⟩ := bnd_some hq
      refine xi_callV (as := [.int v27]) (rest := []) dX12_told_91 (KX12_done G Gb v27 _ _ _ k32) mkX12_done w_1211 ws_56 w_1209 (mem_get sh_149) rfl rfl rfl rfl (Nat.le_of_ble_eq_true rfl) (Nat.le_of_ble_eq_true rfl) (Nat.le_of_ble_eq_true rfl) (Nat.le_of_ble_eq_true rfl) (Nat.le_of_ble_eq_true rfl) ?_
      intro v M2 hz
      obtain ⟨rfl, rfl⟩ := hz
      show xW _ _ _ _ 94 _ [.int v30] (mem t31 Gb) _ _
      have r33 := some_pair hq
      obtain ⟨rfl, rfl⟩ := r33
      exact xi_iret dX12_told_94 rfl rfl (Nat.le_of_ble_eq_true rfl) (Nat.le_of_ble_eq_true rfl) ⟨rfl, rfl⟩
    · replace hq := ite_n c26 hq
      refine xi_iconst (v := 0) dX12_told_55 (by decide) ?_
      refine xi_istore_n (lv' := [(2, .int 0), (0, .ref 149), (1, .int a)]) dX12_told_56 (by decide) rfl ?_
      refine xi_sub (lv' := [(0, .ref 149), (2, .int 0)]) [1, 0] rfl ?_
      obtain ⟨e41, t42, k43, hq⟩ := bnd_some hq
      obtain ⟨n44, k43⟩ := wh_itr k43
      refine SX12_told_57_w G Gb r0 t0 n44 (0 : Int32) t22 _ _ k43 ?_
      show xW G mX12_told (xrm 7 0 0) (xQ G (PQ r0 t0 Gb) 0 0) 82 [] [] (mem t42 Gb) 0 0
      refine xi_bipush (v := (-4)) dX12_told_82 (by decide) ?_
      have r45 := some_pair hq
      obtain ⟨rfl, rfl⟩ := r45
      exact xi_iret dX12_told_84 rfl rfl (Nat.le_of_ble_eq_true rfl) (Nat.le_of_ble_eq_true rfl) ⟨rfl, rfl⟩
  · replace hq := ite_p c4 hq
    refine xi_bipush (v := (-2)) dX12_told_7 (by decide) ?_
    have r46 := some_pair hq
    obtain ⟨rfl, rfl⟩ := r46
    exact xi_iret dX12_told_9 rfl rfl (Nat.le_of_ble_eq_true rfl) (Nat.le_of_ble_eq_true rfl) ⟨rfl, rfl⟩
noncomputable def SX12_undo_21 (c : Int32) (σ : St) : Option (((Int32) ⊕ (Unit)) × St) :=
  (if (273 : Int32) ≤ c then (some (Sum.inr (), σ)) else (rdb σ 149 (3) (fun v9 => (chk (inb (((273 : Int32) * v9) + c) 2730) (rdb σ 152 ((((273 : Int32) * v9) + c).toNatClampNeg) (fun v12 => (chk (inb c 273) (wrb σ 150 (c.toNatClampNeg) v12 (fun t15 => (some (Sum.inl (c + 1), t15)))))))))))
set_option maxHeartbeats 4000000 in
set_option maxRecDepth 100000 in
theorem SX12_undo_21_w (G : xG) (Gb : xMem) (r0 : Int32) (t0 : St) :
    ∀ (k : Nat) (c : Int32) (σ : St) (r : Unit) (σ' : St), itr (SX12_undo_21) k c σ = some (r, σ') → (xW G mX12_undo (xrm 0 0 0) (xQ G (PQ r0 t0 Gb) 0 0) 55 [(0, .ref 149)] [] (mem σ' Gb) 0 0) → xW G mX12_undo (xrm 0 0 0) (xQ G (PQ r0 t0 Gb) 0 0) 21 [(0, .ref 149), (1, .int c)] [] (mem σ Gb) 0 0 := by
  intro k
  induction k with
  | zero =>
    intro c σ r σ' h
    exact absurd h (itr_zero _ _ _ _)
  | succ k ih =>
    intro c σ r σ' h HE
    obtain ⟨x, s1, hs, h⟩ := itr_succ h
    unfold SX12_undo_21 at hs
    refine xi_iload_n 1 dX12_undo_21 rfl ?_
    refine xi_sipush (v := 273) dX12_undo_22 (by decide) ?_
    refine xi_icmp_ge (tgt := 55) dX12_undo_25 (by decide) (fun c8 => ?_) (fun c8 => ?_)
    · replace hs := ite_p c8 hs
      refine xi_sub (lv' := [(0, .ref 149)]) [0] rfl ?_
      obtain ⟨rfl, rfl⟩ := some_pair hs
      obtain ⟨rfl, rfl⟩ := some_pair h
      exact HE
    · replace hs := ite_n c8 hs
      refine xi_aload_n 0 dX12_undo_28 rfl ?_
      refine yi_getR (f := 0) dX12_undo_29 sh_149 rfl ok_9 (by decide) w_1008 rfl ?_
      refine xi_iload_n 1 dX12_undo_32 rfl ?_
      refine xi_aload_n 0 dX12_undo_33 rfl ?_
      refine yi_getR (f := 2) dX12_undo_34 sh_149 rfl ok_9 (by decide) w_1010 rfl ?_
      refine xi_sipush (v := 273) dX12_undo_37 (by decide) ?_
      refine xi_aload_n 0 dX12_undo_40 rfl ?_
      obtain ⟨v9, h10, hs⟩ := rdb_some hs
      refine yi_getV (f := 3) dX12_undo_41 sh_149 rfl ok_9 (by decide) w_1011 rfl h10 ?_
      refine xi_imul (v := (273 : Int32) * v9) dX12_undo_44 rfl ?_
      refine xi_iload_n 1 dX12_undo_45 rfl ?_
      refine xi_iadd (v := ((273 : Int32) * v9) + c) dX12_undo_46 rfl ?_
      obtain ⟨g11, hs⟩ := chk_some hs
      obtain ⟨v12, h13, hs⟩ := rdb_some hs
      refine yi_ialoadV dX12_undo_47 sh_152 g11 h13 ?_
      obtain ⟨g14, hs⟩ := chk_some hs
      obtain ⟨t15, h16, hs⟩ := wrb_some hs
      refine yi_iastoreV dX12_undo_48 sh_150 g14 h16 ?_
      refine xi_iinc (v := (c + 1)) (lv' := [(1, .int (c + 1)), (0, .ref 149)]) 1 dX12_undo_49 rfl rfl (by decide) rfl ?_
      refine xi_goto (tgt := 21) dX12_undo_52 (by decide) ?_
      refine xi_sub (lv' := [(0, .ref 149), (1, .int (c + 1))]) [1, 0] rfl ?_
      obtain ⟨rfl, rfl⟩ := some_pair hs
      exact ih (c + 1) t15 _ _ h HE
noncomputable def FX12_undo (σ : St) : Option ((Int32) × St) :=
  (rdb σ 149 (3) (fun v1 => (if v1 = (0 : Int32) then (some ((-1 : Int32), σ)) else (rdb σ 149 (3) (fun v4 => (wrb σ 149 (3) (v4 - (1 : Int32)) (fun t6 => (bnd (wh (SX12_undo_21) (0 : Int32) t6) (fun e17 t18 => (rdb t18 149 (3) (fun v21 => (some (v21, t18)))))))))))))
set_option maxHeartbeats 4000000 in
set_option maxRecDepth 100000 in
theorem KX12_undo (G : xG) (Gb : xMem) (σ : St) (r0 : Int32) (t0 : St) (hq : FX12_undo σ = some (r0, t0)) : xC G mX12_undo 0 0 0 [.ref 149] (mem σ Gb) (PQ r0 t0 Gb) := by
  unfold FX12_undo at hq
  refine xC.of (by decide) (Nat.le_of_ble_eq_true rfl) ?_
  show xW _ _ _ _ 0 [(0, .ref 149)] [] _ 0 0
  refine xi_aload_n 0 dX12_undo_0 rfl ?_
  obtain ⟨v1, h2, hq⟩ := rdb_some hq
  refine yi_getV (f := 3) dX12_undo_1 sh_149 rfl ok_9 (by decide) w_1011 rfl h2 ?_
  refine xi_if_ne (tgt := 9) dX12_undo_4 (by decide) (fun c3 => ?_) (fun c3 => ?_)
  · replace hq := ite_n c3 hq
    refine xi_aload_n 0 dX12_undo_9 rfl ?_
    refine xi_dup dX12_undo_10 rfl ?_
    obtain ⟨v4, h5, hq⟩ := rdb_some hq
    refine yi_getV (f := 3) dX12_undo_11 sh_149 rfl ok_9 (by decide) w_1011 rfl h5 ?_
    refine xi_iconst (v := 1) dX12_undo_14 (by decide) ?_
    refine xi_isub (v := v4 - (1 : Int32)) dX12_undo_15 rfl ?_
    obtain ⟨t6, h7, hq⟩ := wrb_some hq
    refine yi_putV (f := 3) (ty := .int) dX12_undo_16 sh_149 rfl ok_9 (by decide) w_1011 rfl rfl pf_I rfl rfl h7 ?_
    refine xi_iconst (v := 0) dX12_undo_19 (by decide) ?_
    refine xi_istore_n (lv' := [(1, .int 0), (0, .ref 149)]) dX12_undo_20 (by decide) rfl ?_
    refine xi_sub (lv' := [(0, .ref 149), (1, .int 0)]) [1, 0] rfl ?_
    obtain ⟨e17, t18, k19, hq⟩ := bnd_some hq
    obtain ⟨n20, k19⟩ := wh_itr k19
    refine SX12_undo_21_w G Gb r0 t0 n20 (0 : Int32) t6 _ _ k19 ?_
    show xW G mX12_undo (xrm 0 0 0) (xQ G (PQ r0 t0 Gb) 0 0) 55 [(0, .ref 149)] [] (mem t18 Gb) 0 0
    refine xi_aload_n 0 dX12_undo_55 rfl ?_
    obtain ⟨v21, h22, hq⟩ := rdb_some hq
    refine yi_getV (f := 3) dX12_undo_56 sh_149 rfl ok_9 (by decide) w_1011 rfl h22 ?_
    have r23 := some_pair hq
    obtain ⟨rfl, rfl⟩ := r23
    exact xi_iret dX12_undo_59 rfl rfl (Nat.le_of_ble_eq_true rfl) (Nat.le_of_ble_eq_true rfl) ⟨rfl, rfl⟩
  · replace hq := ite_p c3 hq
    refine xi_iconst (v := (-1)) dX12_undo_7 (by decide) ?_
    have r24 := some_pair hq
    obtain ⟨rfl, rfl⟩ := r24
    exact xi_iret dX12_undo_8 rfl rfl (Nat.le_of_ble_eq_true rfl) (Nat.le_of_ble_eq_true rfl) ⟨rfl, rfl⟩
noncomputable def FX12_value (a : Int32) (b : Int32) (σ : St) : Option ((Int32) × St) :=
  (bnd (FX12_isNet a σ) (fun v1 t2 => (if v1 = (0 : Int32) then (some ((-2 : Int32), t2)) else (bnd (FX12_isMeasure b t2) (fun v6 t7 => (if v6 = (0 : Int32) then (some ((-2 : Int32), t7)) else (bnd (FX12_laysRow a t7) (fun v10 t11 => (bnd (FX12_valueOf a b t11) (fun v13 t14 => (some (v13, t14))))))))))))
set_option maxHeartbeats 4000000 in
set_option maxRecDepth 100000 in
theorem KX12_value (G : xG) (Gb : xMem) (a : Int32) (b : Int32) (σ : St) (r0 : Int32) (t0 : St) (hq : FX12_value a b σ = some (r0, t0)) : xC G mX12_value 6 0 0 [.ref 149, .int a, .int b] (mem σ Gb) (PQ r0 t0 Gb) := by
  unfold FX12_value at hq
  refine xC.of (by decide) (Nat.le_of_ble_eq_true rfl) ?_
  show xW _ _ _ _ 0 [(0, .ref 149), (1, .int a), (2, .int b)] [] _ 0 0
  refine xi_aload_n 0 dX12_value_0 rfl ?_
  refine xi_iload_n 1 dX12_value_1 rfl ?_
  obtain ⟨v1, t2, k3, hq⟩ := bnd_some hq
  refine xi_callV (as := [.int a]) (rest := []) dX12_value_2 (KX12_isNet G Gb a _ _ _ k3) mkX12_isNet w_1104 ws_35 w_1102 (mem_get sh_149) rfl rfl rfl rfl (Nat.le_of_ble_eq_true rfl) (Nat.le_of_ble_eq_true rfl) (Nat.le_of_ble_eq_true rfl) (Nat.le_of_ble_eq_true rfl) (Nat.le_of_ble_eq_true rfl) ?_
  intro v M2 hz
  obtain ⟨rfl, rfl⟩ := hz
  show xW _ _ _ _ 5 _ [.int v1] (mem t2 Gb) _ _
  refine xi_if_eq (tgt := 15) dX12_value_5 (by decide) (fun c4 => ?_) (fun c4 => ?_)
  · replace hq := ite_p c4 hq
    refine xi_bipush (v := (-2)) dX12_value_15 (by decide) ?_
    have r5 := some_pair hq
    obtain ⟨rfl, rfl⟩ := r5
    exact xi_iret dX12_value_17 rfl rfl (Nat.le_of_ble_eq_true rfl) (Nat.le_of_ble_eq_true rfl) ⟨rfl, rfl⟩
  · replace hq := ite_n c4 hq
    refine xi_iload_n 2 dX12_value_8 rfl ?_
    obtain ⟨v6, t7, k8, hq⟩ := bnd_some hq
    refine xi_callS (as := [.int b]) (rest := []) dX12_value_9 (KX12_isMeasure G Gb b _ _ _ k8) mkX12_isMeasure w_1288 w_1287 rfl rfl (Nat.le_of_ble_eq_true rfl) (Nat.le_of_ble_eq_true rfl) (Nat.le_of_ble_eq_true rfl) (Nat.le_of_ble_eq_true rfl) (Nat.le_of_ble_eq_true rfl) ?_
    intro v M2 hz
    obtain ⟨rfl, rfl⟩ := hz
    show xW _ _ _ _ 12 _ [.int v6] (mem t7 Gb) _ _
    refine xi_if_ne (tgt := 18) dX12_value_12 (by decide) (fun c9 => ?_) (fun c9 => ?_)
    · replace hq := ite_n c9 hq
      refine xi_aload_n 0 dX12_value_18 rfl ?_
      refine xi_iload_n 1 dX12_value_19 rfl ?_
      obtain ⟨v10, t11, k12, hq⟩ := bnd_some hq
      refine xi_callV (as := [.int a]) (rest := []) dX12_value_20 (KX12_laysRow G Gb a _ _ _ k12) mkX12_laysRow w_1292 ws_66 w_1290 (mem_get sh_149) rfl rfl rfl rfl (Nat.le_of_ble_eq_true rfl) (Nat.le_of_ble_eq_true rfl) (Nat.le_of_ble_eq_true rfl) (Nat.le_of_ble_eq_true rfl) (Nat.le_of_ble_eq_true rfl) ?_
      intro v M2 hz
      obtain ⟨rfl, rfl⟩ := hz
      show xW _ _ _ _ 23 _ [] (mem t11 Gb) _ _
      refine xi_aload_n 0 dX12_value_23 rfl ?_
      refine xi_iload_n 1 dX12_value_24 rfl ?_
      refine xi_iload_n 2 dX12_value_25 rfl ?_
      obtain ⟨v13, t14, k15, hq⟩ := bnd_some hq
      refine xi_callV (as := [.int a, .int b]) (rest := []) dX12_value_26 (KX12_valueOf G Gb a b _ _ _ k15) mkX12_valueOf w_1296 ws_67 w_1294 (mem_get sh_149) rfl rfl rfl rfl (Nat.le_of_ble_eq_true rfl) (Nat.le_of_ble_eq_true rfl) (Nat.le_of_ble_eq_true rfl) (Nat.le_of_ble_eq_true rfl) (Nat.le_of_ble_eq_true rfl) ?_
      intro v M2 hz
      obtain ⟨rfl, rfl⟩ := hz
      show xW _ _ _ _ 29 _ [.int v13] (mem t14 Gb) _ _
      have r16 := some_pair hq
      obtain ⟨rfl, rfl⟩ := r16
      exact xi_iret dX12_value_29 rfl rfl (Nat.le_of_ble_eq_true rfl) (Nat.le_of_ble_eq_true rfl) ⟨rfl, rfl⟩
    · replace hq := ite_p c9 hq
      refine xi_bipush (v := (-2)) dX12_value_15 (by decide) ?_
      have r17 := some_pair hq
      obtain ⟨rfl, rfl⟩ := r17
      exact xi_iret dX12_value_17 rfl rfl (Nat.le_of_ble_eq_true rfl) (Nat.le_of_ble_eq_true rfl) ⟨rfl, rfl⟩
noncomputable def FX12_ways (a : Int32) (b : Int32) (σ : St) : Option ((Int32) × St) :=
  (bnd (FX12_isNet a σ) (fun v1 t2 => (if v1 = (0 : Int32) then (some ((-2 : Int32), t2)) else (bnd (FX12_isMeasure b t2) (fun v6 t7 => (if v6 = (0 : Int32) then (some ((-2 : Int32), t7)) else (if b = (2 : Int32) then (bnd (FX12_leastBand a t7) (fun v29 t30 => (bnd (FX12_rowsOfBand a v29 (0 : Int32) t30) (fun v32 t33 => (some (v32, t33)))))) else (bnd (FX12_laysLeast a b t7) (fun v11 t12 => (bnd (FX12_isGreatest b t12) (fun v14 t15 => (if v14 = (0 : Int32) then (bnd (FX12_rowsOfLeast a t15) (fun v18 t19 => (some (v18, t19)))) else (chk (inb (0 : Int32) 512) (rdb t15 155 ((0 : Int32).toNatClampNeg) (fun v23 => (bnd (FX12_rowsWithin a v23 t15) (fun v25 t26 => (some (v25, t26)))))))))))))))))))
set_option maxHeartbeats 4000000 in
set_option maxRecDepth 100000 in
theorem KX12_ways (G : xG) (Gb : xMem) (a : Int32) (b : Int32) (σ : St) (r0 : Int32) (t0 : St) (hq : FX12_ways a b σ = some (r0, t0)) : xC G mX12_ways 15 0 0 [.ref 149, .int a, .int b] (mem σ Gb) (PQ r0 t0 Gb) := by
  unfold FX12_ways at hq
  refine xC.of (by decide) (Nat.le_of_ble_eq_true rfl) ?_
  show xW _ _ _ _ 0 [(0, .ref 149), (1, .int a), (2, .int b)] [] _ 0 0
  refine xi_aload_n 0 dX12_ways_0 rfl ?_
  refine xi_iload_n 1 dX12_ways_1 rfl ?_
  obtain ⟨v1, t2, k3, hq⟩ := bnd_some hq
  refine xi_callV (as := [.int a]) (rest := []) dX12_ways_2 (KX12_isNet G Gb a _ _ _ k3) mkX12_isNet w_1104 ws_35 w_1102 (mem_get sh_149) rfl rfl rfl rfl (Nat.le_of_ble_eq_true rfl) (Nat.le_of_ble_eq_true rfl) (Nat.le_of_ble_eq_true rfl) (Nat.le_of_ble_eq_true rfl) (Nat.le_of_ble_eq_true rfl) ?_
  intro v M2 hz
  obtain ⟨rfl, rfl⟩ := hz
  show xW _ _ _ _ 5 _ [.int v1] (mem t2 Gb) _ _
  refine xi_if_eq (tgt := 15) dX12_ways_5 (by decide) (fun c4 => ?_) (fun c4 => ?_)
  · replace hq := ite_p c4 hq
    refine xi_bipush (v := (-2)) dX12_ways_15 (by decide) ?_
    have r5 := some_pair hq
    obtain ⟨rfl, rfl⟩ := r5
    exact xi_iret dX12_ways_17 rfl rfl (Nat.le_of_ble_eq_true rfl) (Nat.le_of_ble_eq_true rfl) ⟨rfl, rfl⟩
  · replace hq := ite_n c4 hq
    refine xi_iload_n 2 dX12_ways_8 rfl ?_
    obtain ⟨v6, t7, k8, hq⟩ := bnd_some hq
    refine xi_callS (as := [.int b]) (rest := []) dX12_ways_9 (KX12_isMeasure G Gb b _ _ _ k8) mkX12_isMeasure w_1288 w_1287 rfl rfl (Nat.le_of_ble_eq_true rfl) (Nat.le_of_ble_eq_true rfl) (Nat.le_of_ble_eq_true rfl) (Nat.le_of_ble_eq_true rfl) (Nat.le_of_ble_eq_true rfl) ?_
    intro v M2 hz
    obtain ⟨rfl, rfl⟩ := hz
    show xW _ _ _ _ 12 _ [.int v6] (mem t7 Gb) _ _
    refine xi_if_ne (tgt := 18) dX12_ways_12 (by decide) (fun c9 => ?_) (fun c9 => ?_)
    · replace hq := ite_n c9 hq
      refine xi_iload_n 2 dX12_ways_18 rfl ?_
      refine xi_iconst (v := 2) dX12_ways_19 (by decide) ?_
      refine xi_icmp_ne (tgt := 35) dX12_ways_20 (by decide) (fun c10 => ?_) (fun c10 => ?_)
      · replace hq := ite_n c10 hq
        refine xi_aload_n 0 dX12_ways_35 rfl ?_
        refine xi_iload_n 1 dX12_ways_36 rfl ?_
        refine xi_iload_n 2 dX12_ways_37 rfl ?_
        obtain ⟨v11, t12, k13, hq⟩ := bnd_some hq
        refine xi_callV (as := [.int a, .int b]) (rest := []) dX12_ways_38 (KX12_laysLeast G Gb a b _ _ _ k13) mkX12_laysLeast w_1366 ws_78 w_1364 (mem_get sh_149) rfl rfl rfl rfl (Nat.le_of_ble_eq_true rfl) (Nat.le_of_ble_eq_true rfl) (Nat.le_of_ble_eq_true rfl) (Nat.le_of_ble_eq_true rfl) (Nat.le_of_ble_eq_true rfl) ?_
        intro v M2 hz
        obtain ⟨rfl, rfl⟩ := hz
        show xW _ _ _ _ 41 _ [] (mem t12 Gb) _ _
        refine xi_iload_n 2 dX12_ways_41 rfl ?_
        obtain ⟨v14, t15, k16, hq⟩ := bnd_some hq
        refine xi_callS (as := [.int b]) (rest := []) dX12_ways_42 (KX12_isGreatest G Gb b _ _ _ k16) mkX12_isGreatest w_1322 w_1321 rfl rfl (Nat.le_of_ble_eq_true rfl) (Nat.le_of_ble_eq_true rfl) (Nat.le_of_ble_eq_true rfl) (Nat.le_of_ble_eq_true rfl) (Nat.le_of_ble_eq_true rfl) ?_
        intro v M2 hz
        obtain ⟨rfl, rfl⟩ := hz
        show xW _ _ _ _ 45 _ [.int v14] (mem t15 Gb) _ _
        refine xi_if_eq (tgt := 62) dX12_ways_45 (by decide) (fun c17 => ?_) (fun c17 => ?_)
        · replace hq := ite_p c17 hq
          refine xi_aload_n 0 dX12_ways_62 rfl ?_
          refine xi_iload_n 1 dX12_ways_63 rfl ?_
          obtain ⟨v18, t19, k20, hq⟩ := bnd_some hq
          refine xi_callV (as := [.int a]) (rest := []) dX12_ways_64 (KX12_rowsOfLeast G Gb a _ _ _ k20) mkX12_rowsOfLeast w_1399 ws_84 w_1397 (mem_get sh_149) rfl rfl rfl rfl (Nat.le_of_ble_eq_true rfl) (Nat.le_of_ble_eq_true rfl) (Nat.le_of_ble_eq_true rfl) (Nat.le_of_ble_eq_true rfl) (Nat.le_of_ble_eq_true rfl) ?_
          intro v M2 hz
          obtain ⟨rfl, rfl⟩ := hz
          show xW _ _ _ _ 67 _ [.int v18] (mem t19 Gb) _ _
          have r21 := some_pair hq
          obtain ⟨rfl, rfl⟩ := r21
          exact xi_iret dX12_ways_67 rfl rfl (Nat.le_of_ble_eq_true rfl) (Nat.le_of_ble_eq_true rfl) ⟨rfl, rfl⟩
        · replace hq := ite_n c17 hq
          refine xi_aload_n 0 dX12_ways_48 rfl ?_
          refine xi_iload_n 1 dX12_ways_49 rfl ?_
          refine xi_aload_n 0 dX12_ways_50 rfl ?_
          refine yi_getR (f := 14) dX12_ways_51 sh_149 rfl ok_9 (by decide) w_1022 rfl ?_
          refine xi_iconst (v := 0) dX12_ways_54 (by decide) ?_
          obtain ⟨g22, hq⟩ := chk_some hq
          obtain ⟨v23, h24, hq⟩ := rdb_some hq
          refine yi_ialoadV dX12_ways_55 sh_155 g22 h24 ?_
          obtain ⟨v25, t26, k27, hq⟩ := bnd_some hq
          refine xi_callV (as := [.int a, .int v23]) (rest := []) dX12_ways_56 (KX12_rowsWithin G Gb a v23 _ _ _ k27) mkX12_rowsWithin w_1395 ws_83 w_1393 (mem_get sh_149) rfl rfl rfl rfl (Nat.le_of_ble_eq_true rfl) (Nat.le_of_ble_eq_true rfl) (Nat.le_of_ble_eq_true rfl) (Nat.le_of_ble_eq_true rfl) (Nat.le_of_ble_eq_true rfl) ?_
          intro v M2 hz
          obtain ⟨rfl, rfl⟩ := hz
          show xW _ _ _ _ 59 _ [.int v25] (mem t26 Gb) _ _
          refine xi_goto (tgt := 67) dX12_ways_59 (by decide) ?_
          have r28 := some_pair hq
          obtain ⟨rfl, rfl⟩ := r28
          exact xi_iret dX12_ways_67 rfl rfl (Nat.le_of_ble_eq_true rfl) (Nat.le_of_ble_eq_true rfl) ⟨rfl, rfl⟩
      · replace hq := ite_p c10 hq
        refine xi_aload_n 0 dX12_ways_23 rfl ?_
        refine xi_iload_n 1 dX12_ways_24 rfl ?_
        refine xi_aload_n 0 dX12_ways_25 rfl ?_
        refine xi_iload_n 1 dX12_ways_26 rfl ?_
        obtain ⟨v29, t30, k31, hq⟩ := bnd_some hq
        refine xi_callV (as := [.int a]) (rest := [.int a, .ref 149]) dX12_ways_27 (KX12_leastBand G Gb a _ _ _ k31) mkX12_leastBand w_1354 ws_75 w_1352 (mem_get sh_149) rfl rfl rfl rfl (Nat.le_of_ble_eq_true rfl) (Nat.le_of_ble_eq_true rfl) (Nat.le_of_ble_eq_true rfl) (Nat.le_of_ble_eq_true rfl) (Nat.le_of_ble_eq_true rfl) ?_
        intro v M2 hz
        obtain ⟨rfl, rfl⟩ := hz
        show xW _ _ _ _ 30 _ [.int v29, .int a, .ref 149] (mem t30 Gb) _ _
        refine xi_iconst (v := 0) dX12_ways_30 (by decide) ?_
        obtain ⟨v32, t33, k34, hq⟩ := bnd_some hq
        refine xi_callV (as := [.int a, .int v29, .int 0]) (rest := []) dX12_ways_31 (KX12_rowsOfBand G Gb a v29 (0 : Int32) _ _ _ k34) mkX12_rowsOfBand w_1358 ws_76 w_1356 (mem_get sh_149) rfl rfl rfl rfl (Nat.le_of_ble_eq_true rfl) (Nat.le_of_ble_eq_true rfl) (Nat.le_of_ble_eq_true rfl) (Nat.le_of_ble_eq_true rfl) (Nat.le_of_ble_eq_true rfl) ?_
        intro v M2 hz
        obtain ⟨rfl, rfl⟩ := hz
        show xW _ _ _ _ 34 _ [.int v32] (mem t33 Gb) _ _
        have r35 := some_pair hq
        obtain ⟨rfl, rfl⟩ := r35
        exact xi_iret dX12_ways_34 rfl rfl (Nat.le_of_ble_eq_true rfl) (Nat.le_of_ble_eq_true rfl) ⟨rfl, rfl⟩
    · replace hq := ite_p c9 hq
      refine xi_bipush (v := (-2)) dX12_ways_15 (by decide) ?_
      have r36 := some_pair hq
      obtain ⟨rfl, rfl⟩ := r36
      exact xi_iret dX12_ways_17 rfl rfl (Nat.le_of_ble_eq_true rfl) (Nat.le_of_ble_eq_true rfl) ⟨rfl, rfl⟩
noncomputable def FX12_within (a : Int32) (b : Int32) (c : Int32) (σ : St) : Option ((Int32) × St) :=
  (bnd (FX12_isNet a σ) (fun v1 t2 => (if v1 = (0 : Int32) then (some ((-2 : Int32), t2)) else (bnd (FX12_isMeasure b t2) (fun v6 t7 => (if v6 = (0 : Int32) then (some ((-2 : Int32), t7)) else (if b = (2 : Int32) then (if (0 : Int32) ≤ c then (if b = (2 : Int32) then (bnd (FX12_rowsOfBand a (mnI c (9 : Int32)) (0 : Int32) t7) (fun v21 t22 => (some (v21, t22)))) else (bnd (FX12_laysCosts a b t7) (fun v14 t15 => (bnd (FX12_rowsWithin a (mnI c (999999 : Int32)) t15) (fun v17 t18 => (some (v17, t18))))))) else (some ((-2 : Int32), t7))) else (bnd (FX12_isGreatest b t7) (fun v26 t27 => (if v26 = (0 : Int32) then (some ((-2 : Int32), t27)) else (if (0 : Int32) ≤ c then (if b = (2 : Int32) then (bnd (FX12_rowsOfBand a (mnI c (9 : Int32)) (0 : Int32) t27) (fun v40 t41 => (some (v40, t41)))) else (bnd (FX12_laysCosts a b t27) (fun v33 t34 => (bnd (FX12_rowsWithin a (mnI c (999999 : Int32)) t34) (fun v36 t37 => (some (v36, t37))))))) else (some ((-2 : Int32), t27)))))))))))))
set_option maxHeartbeats 4000000 in
set_option maxRecDepth 100000 in
theorem KX12_within (G : xG) (Gb : xMem) (a : Int32) (b : Int32) (c : Int32) (σ : St) (r0 : Int32) (t0 : St) (hq : FX12_within a b c σ = some (r0, t0)) : xC G mX12_within 14 0 0 [.ref 149, .int a, .int b, .int c] (mem σ Gb) (PQ r0 t0 Gb) := by
  unfold FX12_within at hq
  refine xC.of (by decide) (Nat.le_of_ble_eq_true rfl) ?_
  show xW _ _ _ _ 0 [(0, .ref 149), (1, .int a), (2, .int b), (3, .int c)] [] _ 0 0
  refine xi_aload_n 0 dX12_within_0 rfl ?_
  refine xi_iload_n 1 dX12_within_1 rfl ?_
  obtain ⟨v1, t2, k3, hq⟩ := bnd_some hq
  refine xi_callV (as := [.int a]) (rest := []) dX12_within_2 (KX12_isNet G Gb a _ _ _ k3) mkX12_isNet w_1104 ws_35 w_1102 (mem_get sh_149) rfl rfl rfl rfl (Nat.le_of_ble_eq_true rfl) (Nat.le_of_ble_eq_true rfl) (Nat.le_of_ble_eq_true rfl) (Nat.le_of_ble_eq_true rfl) (Nat.le_of_ble_eq_true rfl) ?_
  intro v M2 hz
  obtain ⟨rfl, rfl⟩ := hz
  show xW _ _ _ _ 5 _ [.int v1] (mem t2 Gb) _ _
  refine xi_if_eq (tgt := 31) dX12_within_5 (by decide) (fun c4 => ?_) (fun c4 => ?_)
  · replace hq := ite_p c4 hq
    refine xi_bipush (v := (-2)) dX12_within_31 (by decide) ?_
    have r5 := some_pair hq
    obtain ⟨rfl, rfl⟩ := r5
    exact xi_iret dX12_within_33 rfl rfl (Nat.le_of_ble_eq_true rfl) (Nat.le_of_ble_eq_true rfl) ⟨rfl, rfl⟩
  · replace hq := ite_n c4 hq
    refine xi_iload_n 2 dX12_within_8 rfl ?_
    obtain ⟨v6, t7, k8, hq⟩ := bnd_some hq
    refine xi_callS (as := [.int b]) (rest := []) dX12_within_9 (KX12_isMeasure G Gb b _ _ _ k8) mkX12_isMeasure w_1288 w_1287 rfl rfl (Nat.le_of_ble_eq_true rfl) (Nat.le_of_ble_eq_true rfl) (Nat.le_of_ble_eq_true rfl) (Nat.le_of_ble_eq_true rfl) (Nat.le_of_ble_eq_true rfl) ?_
    intro v M2 hz
    obtain ⟨rfl, rfl⟩ := hz
    show xW _ _ _ _ 12 _ [.int v6] (mem t7 Gb) _ _
    refine xi_if_eq (tgt := 31) dX12_within_12 (by decide) (fun c9 => ?_) (fun c9 => ?_)
    · replace hq := ite_p c9 hq
      refine xi_bipush (v := (-2)) dX12_within_31 (by decide) ?_
      have r10 := some_pair hq
      obtain ⟨rfl, rfl⟩ := r10
      exact xi_iret dX12_within_33 rfl rfl (Nat.le_of_ble_eq_true rfl) (Nat.le_of_ble_eq_true rfl) ⟨rfl, rfl⟩
    · replace hq := ite_n c9 hq
      refine xi_iload_n 2 dX12_within_15 rfl ?_
      refine xi_iconst (v := 2) dX12_within_16 (by decide) ?_
      refine xi_icmp_eq (tgt := 27) dX12_within_17 (by decide) (fun c11 => ?_) (fun c11 => ?_)
      · replace hq := ite_p c11 hq
        refine xi_iload_n 3 dX12_within_27 rfl ?_
        refine xi_if_ge (tgt := 34) dX12_within_28 (by decide) (fun c12 => ?_) (fun c12 => ?_)
        · replace hq := ite_p c12 hq
          refine xi_iload_n 2 dX12_within_34 rfl ?_
          refine xi_iconst (v := 2) dX12_within_35 (by decide) ?_
          refine xi_icmp_ne (tgt := 52) dX12_within_36 (by decide) (fun c13 => ?_) (fun c13 => ?_)
          · replace hq := ite_n c13 hq
            refine xi_aload_n 0 dX12_within_52 rfl ?_
            refine xi_iload_n 1 dX12_within_53 rfl ?_
            refine xi_iload_n 2 dX12_within_54 rfl ?_
            obtain ⟨v14, t15, k16, hq⟩ := bnd_some hq
            refine xi_callV (as := [.int a, .int b]) (rest := []) dX12_within_55 (KX12_laysCosts G Gb a b _ _ _ k16) mkX12_laysCosts w_1370 ws_79 w_1368 (mem_get sh_149) rfl rfl rfl rfl (Nat.le_of_ble_eq_true rfl) (Nat.le_of_ble_eq_true rfl) (Nat.le_of_ble_eq_true rfl) (Nat.le_of_ble_eq_true rfl) (Nat.le_of_ble_eq_true rfl) ?_
            intro v M2 hz
            obtain ⟨rfl, rfl⟩ := hz
            show xW _ _ _ _ 58 _ [] (mem t15 Gb) _ _
            refine xi_aload_n 0 dX12_within_58 rfl ?_
            refine xi_iload_n 1 dX12_within_59 rfl ?_
            refine xi_iload_n 3 dX12_within_60 rfl ?_
            refine xi_ldcw (v := 999999) dX12_within_61 w_1405 ?_
            refine xi_min (v := (mnI c (999999 : Int32))) dX12_within_64 w_1142 w_385 w_3 w_mmin (Nat.le_of_ble_eq_true rfl) (Nat.le_of_ble_eq_true rfl) (Nat.le_of_ble_eq_true rfl) (Nat.le_of_ble_eq_true rfl) (Nat.le_of_ble_eq_true rfl) rfl ?_
            obtain ⟨v17, t18, k19, hq⟩ := bnd_some hq
            refine xi_callV (as := [.int a, .int (mnI c (999999 : Int32))]) (rest := []) dX12_within_67 (KX12_rowsWithin G Gb a (mnI c (999999 : Int32)) _ _ _ k19) mkX12_rowsWithin w_1395 ws_83 w_1393 (mem_get sh_149) rfl rfl rfl rfl (Nat.le_of_ble_eq_true rfl) (Nat.le_of_ble_eq_true rfl) (Nat.le_of_ble_eq_true rfl) (Nat.le_of_ble_eq_true rfl) (Nat.le_of_ble_eq_true rfl) ?_
            intro v M2 hz
            obtain ⟨rfl, rfl⟩ := hz
            show xW _ _ _ _ 70 _ [.int v17] (mem t18 Gb) _ _
            have r20 := some_pair hq
            obtain ⟨rfl, rfl⟩ := r20
            exact xi_iret dX12_within_70 rfl rfl (Nat.le_of_ble_eq_true rfl) (Nat.le_of_ble_eq_true rfl) ⟨rfl, rfl⟩
          · replace hq := ite_p c13 hq
            refine xi_aload_n 0 dX12_within_39 rfl ?_
            refine xi_iload_n 1 dX12_within_40 rfl ?_
            refine xi_iload_n 3 dX12_within_41 rfl ?_
            refine xi_bipush (v := 9) dX12_within_42 (by decide) ?_
            refine xi_min (v := (mnI c (9 : Int32))) dX12_within_44 w_1142 w_385 w_3 w_mmin (Nat.le_of_ble_eq_true rfl) (Nat.le_of_ble_eq_true rfl) (Nat.le_of_ble_eq_true rfl) (Nat.le_of_ble_eq_true rfl) (Nat.le_of_ble_eq_true rfl) rfl ?_
            refine xi_iconst (v := 0) dX12_within_47 (by decide) ?_
            obtain ⟨v21, t22, k23, hq⟩ := bnd_some hq
            refine xi_callV (as := [.int a, .int (mnI c (9 : Int32)), .int 0]) (rest := []) dX12_within_48 (KX12_rowsOfBand G Gb a (mnI c (9 : Int32)) (0 : Int32) _ _ _ k23) mkX12_rowsOfBand w_1358 ws_76 w_1356 (mem_get sh_149) rfl rfl rfl rfl (Nat.le_of_ble_eq_true rfl) (Nat.le_of_ble_eq_true rfl) (Nat.le_of_ble_eq_true rfl) (Nat.le_of_ble_eq_true rfl) (Nat.le_of_ble_eq_true rfl) ?_
            intro v M2 hz
            obtain ⟨rfl, rfl⟩ := hz
            show xW _ _ _ _ 51 _ [.int v21] (mem t22 Gb) _ _
            have r24 := some_pair hq
            obtain ⟨rfl, rfl⟩ := r24
            exact xi_iret dX12_within_51 rfl rfl (Nat.le_of_ble_eq_true rfl) (Nat.le_of_ble_eq_true rfl) ⟨rfl, rfl⟩
        · replace hq := ite_n c12 hq
          refine xi_bipush (v := (-2)) dX12_within_31 (by decide) ?_
          have r25 := some_pair hq
          obtain ⟨rfl, rfl⟩ := r25
          exact xi_iret dX12_within_33 rfl rfl (Nat.le_of_ble_eq_true rfl) (Nat.le_of_ble_eq_true rfl) ⟨rfl, rfl⟩
      · replace hq := ite_n c11 hq
        refine xi_iload_n 2 dX12_within_20 rfl ?_
        obtain ⟨v26, t27, k28, hq⟩ := bnd_some hq
        refine xi_callS (as := [.int b]) (rest := []) dX12_within_21 (KX12_isGreatest G Gb b _ _ _ k28) mkX12_isGreatest w_1322 w_1321 rfl rfl (Nat.le_of_ble_eq_true rfl) (Nat.le_of_ble_eq_true rfl) (Nat.le_of_ble_eq_true rfl) (Nat.le_of_ble_eq_true rfl) (Nat.le_of_ble_eq_true rfl) ?_
        intro v M2 hz
        obtain ⟨rfl, rfl⟩ := hz
        show xW _ _ _ _ 24 _ [.int v26] (mem t27 Gb) _ _
        refine xi_if_eq (tgt := 31) dX12_within_24 (by decide) (fun c29 => ?_) (fun c29 => ?_)
        · replace hq := ite_p c29 hq
          refine xi_bipush (v := (-2)) dX12_within_31 (by decide) ?_
          have r30 := some_pair hq
          obtain ⟨rfl, rfl⟩ := r30
          exact xi_iret dX12_within_33 rfl rfl (Nat.le_of_ble_eq_true rfl) (Nat.le_of_ble_eq_true rfl) ⟨rfl, rfl⟩
        · replace hq := ite_n c29 hq
          refine xi_iload_n 3 dX12_within_27 rfl ?_
          refine xi_if_ge (tgt := 34) dX12_within_28 (by decide) (fun c31 => ?_) (fun c31 => ?_)
          · replace hq := ite_p c31 hq
            refine xi_iload_n 2 dX12_within_34 rfl ?_
            refine xi_iconst (v := 2) dX12_within_35 (by decide) ?_
            refine xi_icmp_ne (tgt := 52) dX12_within_36 (by decide) (fun c32 => ?_) (fun c32 => ?_)
            · replace hq := ite_n c32 hq
              refine xi_aload_n 0 dX12_within_52 rfl ?_
              refine xi_iload_n 1 dX12_within_53 rfl ?_
              refine xi_iload_n 2 dX12_within_54 rfl ?_
              obtain ⟨v33, t34, k35, hq⟩ := bnd_some hq
              refine xi_callV (as := [.int a, .int b]) (rest := []) dX12_within_55 (KX12_laysCosts G Gb a b _ _ _ k35) mkX12_laysCosts w_1370 ws_79 w_1368 (mem_get sh_149) rfl rfl rfl rfl (Nat.le_of_ble_eq_true rfl) (Nat.le_of_ble_eq_true rfl) (Nat.le_of_ble_eq_true rfl) (Nat.le_of_ble_eq_true rfl) (Nat.le_of_ble_eq_true rfl) ?_
              intro v M2 hz
              obtain ⟨rfl, rfl⟩ := hz
              show xW _ _ _ _ 58 _ [] (mem t34 Gb) _ _
              refine xi_aload_n 0 dX12_within_58 rfl ?_
              refine xi_iload_n 1 dX12_within_59 rfl ?_
              refine xi_iload_n 3 dX12_within_60 rfl ?_
              refine xi_ldcw (v := 999999) dX12_within_61 w_1405 ?_
              refine xi_min (v := (mnI c (999999 : Int32))) dX12_within_64 w_1142 w_385 w_3 w_mmin (Nat.le_of_ble_eq_true rfl) (Nat.le_of_ble_eq_true rfl) (Nat.le_of_ble_eq_true rfl) (Nat.le_of_ble_eq_true rfl) (Nat.le_of_ble_eq_true rfl) rfl ?_
              obtain ⟨v36, t37, k38, hq⟩ := bnd_some hq
              refine xi_callV (as := [.int a, .int (mnI c (999999 : Int32))]) (rest := []) dX12_within_67 (KX12_rowsWithin G Gb a (mnI c (999999 : Int32)) _ _ _ k38) mkX12_rowsWithin w_1395 ws_83 w_1393 (mem_get sh_149) rfl rfl rfl rfl (Nat.le_of_ble_eq_true rfl) (Nat.le_of_ble_eq_true rfl) (Nat.le_of_ble_eq_true rfl) (Nat.le_of_ble_eq_true rfl) (Nat.le_of_ble_eq_true rfl) ?_
              intro v M2 hz
              obtain ⟨rfl, rfl⟩ := hz
              show xW _ _ _ _ 70 _ [.int v36] (mem t37 Gb) _ _
              have r39 := some_pair hq
              obtain ⟨rfl, rfl⟩ := r39
              exact xi_iret dX12_within_70 rfl rfl (Nat.le_of_ble_eq_true rfl) (Nat.le_of_ble_eq_true rfl) ⟨rfl, rfl⟩
            · replace hq := ite_p c32 hq
              refine xi_aload_n 0 dX12_within_39 rfl ?_
              refine xi_iload_n 1 dX12_within_40 rfl ?_
              refine xi_iload_n 3 dX12_within_41 rfl ?_
              refine xi_bipush (v := 9) dX12_within_42 (by decide) ?_
              refine xi_min (v := (mnI c (9 : Int32))) dX12_within_44 w_1142 w_385 w_3 w_mmin (Nat.le_of_ble_eq_true rfl) (Nat.le_of_ble_eq_true rfl) (Nat.le_of_ble_eq_true rfl) (Nat.le_of_ble_eq_true rfl) (Nat.le_of_ble_eq_true rfl) rfl ?_
              refine xi_iconst (v := 0) dX12_within_47 (by decide) ?_
              obtain ⟨v40, t41, k42, hq⟩ := bnd_some hq
              refine xi_callV (as := [.int a, .int (mnI c (9 : Int32)), .int 0]) (rest := []) dX12_within_48 (KX12_rowsOfBand G Gb a (mnI c (9 : Int32)) (0 : Int32) _ _ _ k42) mkX12_rowsOfBand w_1358 ws_76 w_1356 (mem_get sh_149) rfl rfl rfl rfl (Nat.le_of_ble_eq_true rfl) (Nat.le_of_ble_eq_true rfl) (Nat.le_of_ble_eq_true rfl) (Nat.le_of_ble_eq_true rfl) (Nat.le_of_ble_eq_true rfl) ?_
              intro v M2 hz
              obtain ⟨rfl, rfl⟩ := hz
              show xW _ _ _ _ 51 _ [.int v40] (mem t41 Gb) _ _
              have r43 := some_pair hq
              obtain ⟨rfl, rfl⟩ := r43
              exact xi_iret dX12_within_51 rfl rfl (Nat.le_of_ble_eq_true rfl) (Nat.le_of_ble_eq_true rfl) ⟨rfl, rfl⟩
          · replace hq := ite_n c31 hq
            refine xi_bipush (v := (-2)) dX12_within_31 (by decide) ?_
            have r44 := some_pair hq
            obtain ⟨rfl, rfl⟩ := r44
            exact xi_iret dX12_within_33 rfl rfl (Nat.le_of_ble_eq_true rfl) (Nat.le_of_ble_eq_true rfl) ⟨rfl, rfl⟩
noncomputable def SX12_worst_57 (w1 : Int32) (w2 : Int32) (c : Int32 × Int32) (σ : St) : Option (((Int32 × Int32) ⊕ (Int32)) × St) :=
  (bnd (FX12_points w1 σ) (fun v25 t26 => (if v25 ≤ c.2 then (some (Sum.inr c.1, t26)) else (bnd (FX12_priceOf w1 w2 c.2 t26) (fun v29 t30 => (bnd (FX12_priceOf w1 w2 c.1 t30) (fun v32 t33 => (bnd (if v29 ≤ v32 then (some (c.1, t33)) else (some (c.2, t33))) (fun v36 t37 => (some (Sum.inl (v36, (c.2 + 1)), t37)))))))))))
set_option maxHeartbeats 4000000 in
set_option maxRecDepth 100000 in
theorem SX12_worst_57_w (G : xG) (Gb : xMem) (w1 : Int32) (w2 : Int32) (r0 : Int32) (t0 : St) :
    ∀ (k : Nat) (c : Int32 × Int32) (σ : St) (r : Int32) (σ' : St), itr (SX12_worst_57 w1 w2) k c σ = some (r, σ') → (xW G mX12_worst (xrm 6 0 0) (xQ G (PQ r0 t0 Gb) 0 0) 98 [(3, .int r)] [] (mem σ' Gb) 0 0) → xW G mX12_worst (xrm 6 0 0) (xQ G (PQ r0 t0 Gb) 0 0) 57 [(0, .ref 149), (1, .int w1), (2, .int w2), (3, .int c.1), (4, .int c.2)] [] (mem σ Gb) 0 0 := by
  intro k
  induction k with
  | zero =>
    intro c σ r σ' h
    exact absurd h (itr_zero _ _ _ _)
  | succ k ih =>
    intro c σ r σ' h HE
    obtain ⟨x, s1, hs, h⟩ := itr_succ h
    unfold SX12_worst_57 at hs
    refine xi_iload 4 dX12_worst_57 rfl ?_
    refine xi_aload_n 0 dX12_worst_59 rfl ?_
    refine xi_iload_n 1 dX12_worst_60 rfl ?_
    obtain ⟨v25, t26, k27, hs⟩ := bnd_some hs
    refine xi_callV (as := [.int w1]) (rest := [.int c.2]) dX12_worst_61 (KX12_points G Gb w1 _ _ _ k27) mkX12_points w_1108 ws_36 w_1106 (mem_get sh_149) rfl rfl rfl rfl (Nat.le_of_ble_eq_true rfl) (Nat.le_of_ble_eq_true rfl) (Nat.le_of_ble_eq_true rfl) (Nat.le_of_ble_eq_true rfl) (Nat.le_of_ble_eq_true rfl) ?_
    intro v M2 hz
    obtain ⟨rfl, rfl⟩ := hz
    show xW _ _ _ _ 64 _ [.int v25, .int c.2] (mem t26 Gb) _ _
    refine xi_icmp_ge (tgt := 98) dX12_worst_64 (by decide) (fun c28 => ?_) (fun c28 => ?_)
    · replace hs := ite_p c28 hs
      refine xi_sub (lv' := [(3, .int c.1)]) [3] rfl ?_
      obtain ⟨rfl, rfl⟩ := some_pair hs
      obtain ⟨rfl, rfl⟩ := some_pair h
      exact HE
    · replace hs := ite_n c28 hs
      refine xi_aload_n 0 dX12_worst_67 rfl ?_
      refine xi_iload_n 1 dX12_worst_68 rfl ?_
      refine xi_iload_n 2 dX12_worst_69 rfl ?_
      refine xi_iload 4 dX12_worst_70 rfl ?_
      obtain ⟨v29, t30, k31, hs⟩ := bnd_some hs
      refine xi_callV (as := [.int w1, .int w2, .int c.2]) (rest := []) dX12_worst_72 (KX12_priceOf G Gb w1 w2 c.2 _ _ _ k31) mkX12_priceOf w_1333 ws_73 w_1331 (mem_get sh_149) rfl rfl rfl rfl (Nat.le_of_ble_eq_true rfl) (Nat.le_of_ble_eq_true rfl) (Nat.le_of_ble_eq_true rfl) (Nat.le_of_ble_eq_true rfl) (Nat.le_of_ble_eq_true rfl) ?_
      intro v M2 hz
      obtain ⟨rfl, rfl⟩ := hz
      show xW _ _ _ _ 75 _ [.int v29] (mem t30 Gb) _ _
      refine xi_aload_n 0 dX12_worst_75 rfl ?_
      refine xi_iload_n 1 dX12_worst_76 rfl ?_
      refine xi_iload_n 2 dX12_worst_77 rfl ?_
      refine xi_iload_n 3 dX12_worst_78 rfl ?_
      obtain ⟨v32, t33, k34, hs⟩ := bnd_some hs
      refine xi_callV (as := [.int w1, .int w2, .int c.1]) (rest := [.int v29]) dX12_worst_79 (KX12_priceOf G Gb w1 w2 c.1 _ _ _ k34) mkX12_priceOf w_1333 ws_73 w_1331 (mem_get sh_149) rfl rfl rfl rfl (Nat.le_of_ble_eq_true rfl) (Nat.le_of_ble_eq_true rfl) (Nat.le_of_ble_eq_true rfl) (Nat.le_of_ble_eq_true rfl) (Nat.le_of_ble_eq_true rfl) ?_
      intro v M2 hz
      obtain ⟨rfl, rfl⟩ := hz
      show xW _ _ _ _ 82 _ [.int v32, .int v29] (mem t33 Gb) _ _
      obtain ⟨v36, t37, m38, hs⟩ := bnd_some hs
      have key39 : xW G mX12_worst (xrm 6 0 0) (xQ G (PQ r0 t0 Gb) 0 0) 91 [(0, .ref 149), (1, .int w1), (2, .int w2), (4, .int c.2)] [.int v36] (mem t37 Gb) 0 0 := by
        refine xi_istore_n (lv' := [(3, .int v36), (0, .ref 149), (1, .int w1), (2, .int w2), (4, .int c.2)]) dX12_worst_91 (by decide) rfl ?_
        refine xi_iinc (v := (c.2 + 1)) (lv' := [(4, .int (c.2 + 1)), (3, .int v36), (0, .ref 149), (1, .int w1), (2, .int w2)]) 4 dX12_worst_92 rfl rfl (by decide) rfl ?_
        refine xi_goto (tgt := 57) dX12_worst_95 (by decide) ?_
        refine xi_sub (lv' := [(0, .ref 149), (1, .int w1), (2, .int w2), (3, .int v36), (4, .int (c.2 + 1))]) [2, 3, 4, 1, 0] rfl ?_
        obtain ⟨rfl, rfl⟩ := some_pair hs
        exact ih (v36, (c.2 + 1)) t37 _ _ h HE
      refine xi_icmp_le (tgt := 90) dX12_worst_82 (by decide) (fun c35 => ?_) (fun c35 => ?_)
      · replace m38 := ite_p c35 m38
        refine xi_iload_n 3 dX12_worst_90 rfl ?_
        obtain ⟨rfl, rfl⟩ := some_pair m38
        refine xi_sub (lv' := [(0, .ref 149), (1, .int w1), (2, .int w2), (4, .int c.2)]) [0, 1, 2, 4] rfl ?_
        exact key39
      · replace m38 := ite_n c35 m38
        refine xi_iload 4 dX12_worst_85 rfl ?_
        refine xi_goto (tgt := 91) dX12_worst_87 (by decide) ?_
        obtain ⟨rfl, rfl⟩ := some_pair m38
        refine xi_sub (lv' := [(0, .ref 149), (1, .int w1), (2, .int w2), (4, .int c.2)]) [0, 1, 2, 4] rfl ?_
        exact key39
noncomputable def FX12_worst (a : Int32) (b : Int32) (σ : St) : Option ((Int32) × St) :=
  (bnd (FX12_isNet a σ) (fun v1 t2 => (if v1 = (0 : Int32) then (some ((-2 : Int32), t2)) else (bnd (FX12_isMeasure b t2) (fun v6 t7 => (if v6 = (0 : Int32) then (some ((-2 : Int32), t7)) else (if b = (2 : Int32) then (some ((-2 : Int32), t7)) else (bnd (FX12_points a t7) (fun v13 t14 => (if v13 = (1 : Int32) then (bnd (FX12_isTakenOut b t14) (fun v45 t46 => (if v45 = (0 : Int32) then (some ((-2 : Int32), t46)) else (bnd (FX12_isTakenOut b t46) (fun v49 t50 => (bnd (if v49 = (0 : Int32) then (some ((1 : Int32), t50)) else (some ((0 : Int32), t50))) (fun v53 t54 => (bnd (wh (SX12_worst_57 a b) (v53, (v53 + (1 : Int32))) t54) (fun e57 t58 => (some (e57, t58))))))))))) else (bnd (FX12_isTakenOut b t14) (fun v17 t18 => (bnd (if v17 = (0 : Int32) then (some ((1 : Int32), t18)) else (some ((0 : Int32), t18))) (fun v21 t22 => (bnd (wh (SX12_worst_57 a b) (v21, (v21 + (1 : Int32))) t22) (fun e40 t41 => (some (e40, t41))))))))))))))))))
set_option maxHeartbeats 4000000 in
set_option maxRecDepth 100000 in
theorem KX12_worst (G : xG) (Gb : xMem) (a : Int32) (b : Int32) (σ : St) (r0 : Int32) (t0 : St) (hq : FX12_worst a b σ = some (r0, t0)) : xC G mX12_worst 6 0 0 [.ref 149, .int a, .int b] (mem σ Gb) (PQ r0 t0 Gb) := by
  unfold FX12_worst at hq
  refine xC.of (by decide) (Nat.le_of_ble_eq_true rfl) ?_
  show xW _ _ _ _ 0 [(0, .ref 149), (1, .int a), (2, .int b)] [] _ 0 0
  refine xi_aload_n 0 dX12_worst_0 rfl ?_
  refine xi_iload_n 1 dX12_worst_1 rfl ?_
  obtain ⟨v1, t2, k3, hq⟩ := bnd_some hq
  refine xi_callV (as := [.int a]) (rest := []) dX12_worst_2 (KX12_isNet G Gb a _ _ _ k3) mkX12_isNet w_1104 ws_35 w_1102 (mem_get sh_149) rfl rfl rfl rfl (Nat.le_of_ble_eq_true rfl) (Nat.le_of_ble_eq_true rfl) (Nat.le_of_ble_eq_true rfl) (Nat.le_of_ble_eq_true rfl) (Nat.le_of_ble_eq_true rfl) ?_
  intro v M2 hz
  obtain ⟨rfl, rfl⟩ := hz
  show xW _ _ _ _ 5 _ [.int v1] (mem t2 Gb) _ _
  refine xi_if_eq (tgt := 36) dX12_worst_5 (by decide) (fun c4 => ?_) (fun c4 => ?_)
  · replace hq := ite_p c4 hq
    refine xi_bipush (v := (-2)) dX12_worst_36 (by decide) ?_
    have r5 := some_pair hq
    obtain ⟨rfl, rfl⟩ := r5
    exact xi_iret dX12_worst_38 rfl rfl (Nat.le_of_ble_eq_true rfl) (Nat.le_of_ble_eq_true rfl) ⟨rfl, rfl⟩
  · replace hq := ite_n c4 hq
    refine xi_iload_n 2 dX12_worst_8 rfl ?_
    obtain ⟨v6, t7, k8, hq⟩ := bnd_some hq
    refine xi_callS (as := [.int b]) (rest := []) dX12_worst_9 (KX12_isMeasure G Gb b _ _ _ k8) mkX12_isMeasure w_1288 w_1287 rfl rfl (Nat.le_of_ble_eq_true rfl) (Nat.le_of_ble_eq_true rfl) (Nat.le_of_ble_eq_true rfl) (Nat.le_of_ble_eq_true rfl) (Nat.le_of_ble_eq_true rfl) ?_
    intro v M2 hz
    obtain ⟨rfl, rfl⟩ := hz
    show xW _ _ _ _ 12 _ [.int v6] (mem t7 Gb) _ _
    refine xi_if_eq (tgt := 36) dX12_worst_12 (by decide) (fun c9 => ?_) (fun c9 => ?_)
    · replace hq := ite_p c9 hq
      refine xi_bipush (v := (-2)) dX12_worst_36 (by decide) ?_
      have r10 := some_pair hq
      obtain ⟨rfl, rfl⟩ := r10
      exact xi_iret dX12_worst_38 rfl rfl (Nat.le_of_ble_eq_true rfl) (Nat.le_of_ble_eq_true rfl) ⟨rfl, rfl⟩
    · replace hq := ite_n c9 hq
      refine xi_iload_n 2 dX12_worst_15 rfl ?_
      refine xi_iconst (v := 2) dX12_worst_16 (by decide) ?_
      refine xi_icmp_eq (tgt := 36) dX12_worst_17 (by decide) (fun c11 => ?_) (fun c11 => ?_)
      · replace hq := ite_p c11 hq
        refine xi_bipush (v := (-2)) dX12_worst_36 (by decide) ?_
        have r12 := some_pair hq
        obtain ⟨rfl, rfl⟩ := r12
        exact xi_iret dX12_worst_38 rfl rfl (Nat.le_of_ble_eq_true rfl) (Nat.le_of_ble_eq_true rfl) ⟨rfl, rfl⟩
      · replace hq := ite_n c11 hq
        refine xi_aload_n 0 dX12_worst_20 rfl ?_
        refine xi_iload_n 1 dX12_worst_21 rfl ?_
        obtain ⟨v13, t14, k15, hq⟩ := bnd_some hq
        refine xi_callV (as := [.int a]) (rest := []) dX12_worst_22 (KX12_points G Gb a _ _ _ k15) mkX12_points w_1108 ws_36 w_1106 (mem_get sh_149) rfl rfl rfl rfl (Nat.le_of_ble_eq_true rfl) (Nat.le_of_ble_eq_true rfl) (Nat.le_of_ble_eq_true rfl) (Nat.le_of_ble_eq_true rfl) (Nat.le_of_ble_eq_true rfl) ?_
        intro v M2 hz
        obtain ⟨rfl, rfl⟩ := hz
        show xW _ _ _ _ 25 _ [.int v13] (mem t14 Gb) _ _
        refine xi_iconst (v := 1) dX12_worst_25 (by decide) ?_
        refine xi_icmp_ne (tgt := 39) dX12_worst_26 (by decide) (fun c16 => ?_) (fun c16 => ?_)
        · replace hq := ite_n c16 hq
          refine xi_iload_n 2 dX12_worst_39 rfl ?_
          obtain ⟨v17, t18, k19, hq⟩ := bnd_some hq
          refine xi_callS (as := [.int b]) (rest := []) dX12_worst_40 (KX12_isTakenOut G Gb b _ _ _ k19) mkX12_isTakenOut w_1329 w_1328 rfl rfl (Nat.le_of_ble_eq_true rfl) (Nat.le_of_ble_eq_true rfl) (Nat.le_of_ble_eq_true rfl) (Nat.le_of_ble_eq_true rfl) (Nat.le_of_ble_eq_true rfl) ?_
          intro v M2 hz
          obtain ⟨rfl, rfl⟩ := hz
          show xW _ _ _ _ 43 _ [.int v17] (mem t18 Gb) _ _
          obtain ⟨v21, t22, m23, hq⟩ := bnd_some hq
          have key24 : xW G mX12_worst (xrm 6 0 0) (xQ G (PQ r0 t0 Gb) 0 0) 51 [(0, .ref 149), (1, .int a), (2, .int b)] [.int v21] (mem t22 Gb) 0 0 := by
            refine xi_istore_n (lv' := [(3, .int v21), (0, .ref 149), (1, .int a), (2, .int b)]) dX12_worst_51 (by decide) rfl ?_
            refine xi_iload_n 0 dX12_worst_52 rfl ?_
            refine xi_iconst (v := 1) dX12_worst_53 (by decide) ?_
            refine xi_iadd (v := v21 + (1 : Int32)) dX12_worst_54 rfl ?_
            refine xi_istore (lv' := [(4, .int (v21 + (1 : Int32))), (3, .int v21), (0, .ref 149), (1, .int a), (2, .int b)]) dX12_worst_55 (by decide) rfl ?_
            refine xi_sub (lv' := [(0, .ref 149), (1, .int a), (2, .int b), (3, .int v21), (4, .int (v21 + (1 : Int32)))]) [2, 3, 4, 1, 0] rfl ?_
            obtain ⟨e40, t41, k42, hq⟩ := bnd_some hq
            obtain ⟨n43, k42⟩ := wh_itr k42
            refine SX12_worst_57_w G Gb a b r0 t0 n43 (v21, (v21 + (1 : Int32))) t22 _ _ k42 ?_
            show xW G mX12_worst (xrm 6 0 0) (xQ G (PQ r0 t0 Gb) 0 0) 98 [(3, .int e40)] [] (mem t41 Gb) 0 0
            refine xi_iload_n 0 dX12_worst_98 rfl ?_
            have r44 := some_pair hq
            obtain ⟨rfl, rfl⟩ := r44
            exact xi_iret dX12_worst_99 rfl rfl (Nat.le_of_ble_eq_true rfl) (Nat.le_of_ble_eq_true rfl) ⟨rfl, rfl⟩
          refine xi_if_eq (tgt := 50) dX12_worst_43 (by decide) (fun c20 => ?_) (fun c20 => ?_)
          · replace m23 := ite_p c20 m23
            refine xi_iconst (v := 1) dX12_worst_50 (by decide) ?_
            obtain ⟨rfl, rfl⟩ := some_pair m23
            exact key24
          · replace m23 := ite_n c20 m23
            refine xi_iconst (v := 0) dX12_worst_46 (by decide) ?_
            refine xi_goto (tgt := 51) dX12_worst_47 (by decide) ?_
            obtain ⟨rfl, rfl⟩ := some_pair m23
            exact key24
        · replace hq := ite_p c16 hq
          refine xi_iload_n 2 dX12_worst_29 rfl ?_
          obtain ⟨v45, t46, k47, hq⟩ := bnd_some hq
          refine xi_callS (as := [.int b]) (rest := []) dX12_worst_30 (KX12_isTakenOut G Gb b _ _ _ k47) mkX12_isTakenOut w_1329 w_1328 rfl rfl (Nat.le_of_ble_eq_true rfl) (Nat.le_of_ble_eq_true rfl) (Nat.le_of_ble_eq_true rfl) (Nat.le_of_ble_eq_true rfl) (Nat.le_of_ble_eq_true rfl) ?_
          intro v M2 hz
          obtain ⟨rfl, rfl⟩ := hz
          show xW _ _ _ _ 33 _ [.int v45] (mem t46 Gb) _ _
          refine xi_if_ne (tgt := 39) dX12_worst_33 (by decide) (fun c48 => ?_) (fun c48 => ?_)
          · replace hq := ite_n c48 hq
            refine xi_iload_n 2 dX12_worst_39 rfl ?_
            obtain ⟨v49, t50, k51, hq⟩ := bnd_some hq
            refine xi_callS (as := [.int b]) (rest := []) dX12_worst_40 (KX12_isTakenOut G Gb b _ _ _ k51) mkX12_isTakenOut w_1329 w_1328 rfl rfl (Nat.le_of_ble_eq_true rfl) (Nat.le_of_ble_eq_true rfl) (Nat.le_of_ble_eq_true rfl) (Nat.le_of_ble_eq_true rfl) (Nat.le_of_ble_eq_true rfl) ?_
            intro v M2 hz
            obtain ⟨rfl, rfl⟩ := hz
            show xW _ _ _ _ 43 _ [.int v49] (mem t50 Gb) _ _
            obtain ⟨v53, t54, m55, hq⟩ := bnd_some hq
            have key56 : xW G mX12_worst (xrm 6 0 0) (xQ G (PQ r0 t0 Gb) 0 0) 51 [(0, .ref 149), (1, .int a), (2, .int b)] [.int v53] (mem t54 Gb) 0 0 := by
              refine xi_istore_n (lv' := [(3, .int v53), (0, .ref 149), (1, .int a), (2, .int b)]) dX12_worst_51 (by decide) rfl ?_
              refine xi_iload_n 0 dX12_worst_52 rfl ?_
              refine xi_iconst (v := 1) dX12_worst_53 (by decide) ?_
              refine xi_iadd (v := v53 + (1 : Int32)) dX12_worst_54 rfl ?_
              refine xi_istore (lv' := [(4, .int (v53 + (1 : Int32))), (3, .int v53), (0, .ref 149), (1, .int a), (2, .int b)]) dX12_worst_55 (by decide) rfl ?_
              refine xi_sub (lv' := [(0, .ref 149), (1, .int a), (2, .int b), (3, .int v53), (4, .int (v53 + (1 : Int32)))]) [2, 3, 4, 1, 0] rfl ?_
              obtain ⟨e57, t58, k59, hq⟩ := bnd_some hq
              obtain ⟨n60, k59⟩ := wh_itr k59
              refine SX12_worst_57_w G Gb a b r0 t0 n60 (v53, (v53 + (1 : Int32))) t54 _ _ k59 ?_
              show xW G mX12_worst (xrm 6 0 0) (xQ G (PQ r0 t0 Gb) 0 0) 98 [(3, .int e57)] [] (mem t58 Gb) 0 0
              refine xi_iload_n 0 dX12_worst_98 rfl ?_
              have r61 := some_pair hq
              obtain ⟨rfl, rfl⟩ := r61
              exact xi_iret dX12_worst_99 rfl rfl (Nat.le_of_ble_eq_true rfl) (Nat.le_of_ble_eq_true rfl) ⟨rfl, rfl⟩
            refine xi_if_eq (tgt := 50) dX12_worst_43 (by decide) (fun c52 => ?_) (fun c52 => ?_)
            · replace m55 := ite_p c52 m55
              refine xi_iconst (v := 1) dX12_worst_50 (by decide) ?_
              obtain ⟨rfl, rfl⟩ := some_pair m55
              exact key56
            · replace m55 := ite_n c52 m55
              refine xi_iconst (v := 0) dX12_worst_46 (by decide) ?_
              refine xi_goto (tgt := 51) dX12_worst_47 (by decide) ?_
              obtain ⟨rfl, rfl⟩ := some_pair m55
              exact key56
          · replace hq := ite_p c48 hq
            refine xi_bipush (v := (-2)) dX12_worst_36 (by decide) ?_
            have r62 := some_pair hq
            obtain ⟨rfl, rfl⟩ := r62
            exact xi_iret dX12_worst_38 rfl rfl (Nat.le_of_ble_eq_true rfl) (Nat.le_of_ble_eq_true rfl) ⟨rfl, rfl⟩
