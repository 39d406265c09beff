/-! strings (printed by wip/ext/gens.py) -/
section YS
variable {G : xG} {mt : xM} {R : Room} {Z : xZ} {pc : Nat} {lv : List (Nat × Value)} {st : List Value} {M : xMem} {k n : Nat}
/-- the static of Preconditions: a reference or null -/
theorem xi_fmt {idx : Nat} (hd : decode mt.2.1 pc = .ok (.getstatic idx, 3)) (hw : Cond.fieldLink mt.1.cls idx "jdk/internal/util/Preconditions" "SIOOBE_FORMATTER" "Ljava/util/function/BiFunction;" ∈ xWall)
    (K0 : xW G mt R Z (pc + 3) lv (.null :: st) M k n) (K1 : xW G mt R Z (pc + 3) lv (.float 201 :: st) M k n) : xW G mt R Z pc lv st M k n := by
  intro p e s m args below meth c H locs ls F hR hL hl
  rcases F.2.2.2.2.2.2.2.2.2.2.2.2.1.2 with h | h
  · obtain ⟨cf, kf, fi, f, a, cell, h1, h2, h3, h4, h5, h6, h7, h8⟩ := h.kept (xold_at hR)
    exact W.gets F.1 F.2.1 F.2.2.2.2.1 (F.2.2.2.2.2.1 _ hw) h1 h2 h3 h4 h5 (fun e => by rw [e] at h6; cases h6) h7 rfl hd (K0 p e s m args below meth c H locs ls F hR hL hl)
  · obtain ⟨cf, kf, fi, f, a, cell, h1, h2, h3, h4, h5, h6, h7, h8⟩ := h.kept (xold_at hR)
    exact W.gets F.1 F.2.1 F.2.2.2.2.1 (F.2.2.2.2.2.1 _ hw) h1 h2 h3 h4 h5 (fun e => by rw [e] at h6; cases h6) h7 rfl hd (K1 p e s m args below meth c H locs ls F hR hL hl)
theorem xi_baloadS {q : String × Nat × String × Nat × List Int32} {w2 : UInt32} {j : Int32} (hd : decode mt.2.1 pc = .ok (.baload, 1)) (hq : q ∈ xstr) (hj2 : w2.toNat = 100 + q.2.2.2.1) (hin : inb j q.2.2.2.2.length = true)
    (K : xW G mt R Z (pc + 1) lv (.int (chr q.2.2.2.2 j) :: st) M k n) : xW G mt R Z pc lv (.int j :: .float w2 :: st) M k n := by
  intro p e s m args below meth c H locs ls F hR hL hl
  obtain ⟨cell, h1, h2, h3, h4, h5, h6, h7⟩ := (F.2.2.2.2.2.2.2.2.2.2.2.1 _ hq).2.2.2.2.kept (xold_at hR)
  have hlt := inb_lt hin
  have hv := inb_vp hin
  exact W.bald (a := G.2.2.2.2.2.1 w2.toNat) F.1 F.2.1 (by rw [hj2]; exact h1) h2 h3 (fun q => hv (q.imp id (fun q => by omega))) (h6 _ hlt) rfl rfl hd (K p e s m args below meth c H locs ls F hR hL hl)
theorem xi_ldcwS {idx : Nat} {tx : String} {j : Nat} {bs : List Int32} {w : UInt32} (hd : decode mt.2.1 pc = .ok (.ldc_w idx, 3)) (hq : (mt.1.cls, idx, tx, j, bs) ∈ xstr) (hj : w.toNat = j)
    (K : xW G mt R Z (pc + 3) lv (.float w :: st) M k n) : xW G mt R Z pc lv st M k n := by
  subst hj
  intro p e s m args below meth c H locs ls F hR hL hl T hT X
  have hZ := (F.2.2.2.2.2.2.2.2.2.2.2.1 _ hq).1
  obtain ⟨t, a1, b1⟩ := K p e s m args below meth c H locs ls F hR hL hl T hT X
  refine ⟨t, ?_, b1⟩
  obtain ⟨kk, cf, i, a', hk, hcf, hcp, -, hr, hev'⟩ := Cond.stringRef_spec (args := args) (first := s) (o := none) (idx := []) F.2.2.2.2.1 hZ.1
  cases hZ.2.symm.trans hev'
  obtain ⟨k', hk', he⟩ := X.warmed.alike.2.2 _ _ hk
  have hr' : k'.resolved[idx]? = some (some (.string (G.2.2.2.2.2.1 w.toNat))) := by
    rcases X.warmed.entry hk hk' idx with h | ⟨h, -⟩
    · rw [h]; exact hr
    · rw [hr] at h; cases h
  have hdg : decode c.code pc = .ok (.ldc_w idx, 3) := by rw [F.2.1]; exact hd
  have hex := F.1
  jvm_step X.here [hex, hdg, ldc_w.wp_string (e := e) (s := T) (f := F0 m pc ls (xcs G st)) X.here.top hk' (by rw [he]; exact hcf) hcp hr']
  exact a1
end YS
theorem str_b : ∀ q ∈ xstr, ∀ b ∈ q.2.2.2.2, (((b &&& 255).toUInt32 % 65536).toInt32 = b) := by decide
theorem str_c {q : String × Nat × String × Nat × List Int32} {j : Int32} (hq : q ∈ xstr) (hin : inb j q.2.2.2.2.length = true) : ((chr q.2.2.2.2 j &&& 255).toUInt32 % 65536).toInt32 = chr q.2.2.2.2 j := by
  have hlt := inb_lt hin
  refine str_b q hq _ ?_
  show q.2.2.2.2.getD j.toNatClampNeg 0 ∈ _
  rw [List.getD_eq_getElem?_getD, List.getElem?_eq_getElem hlt]
  exact List.getElem_mem hlt
section YT
variable (G : xG) {M : xMem} {q : String × Nat × String × Nat × List Int32} {w : UInt32}
theorem K_coder (hq : q ∈ xstr) (hj : w.toNat = q.2.2.2.1) : xC G mJ0_coder_7d493 0 0 0 [.float w] M (fun v M2 => v = some (.int 0) ∧ M2 = M) := by
  refine xC.of (by decide) (Nat.le_of_ble_eq_true rfl) ?_
  show xW _ _ _ _ 0 [(0, .float w)] [] _ 0 0
  refine xi_compact dJ0_coder_7d493_0 w_336 ?_
  refine xi_if_eq_f (tgt := 13) dJ0_coder_7d493_3 (by decide) (by decide) ?_
  refine xi_aload_nS 0 dJ0_coder_7d493_6 rfl ?_
  refine xi_getSc dJ0_coder_7d493_7 hq hj w_1541 ?_
  refine xi_goto (tgt := 14) dJ0_coder_7d493_10 (by decide) ?_
  exact xi_iret dJ0_coder_7d493_14 rfl (by decide) (Nat.le_of_ble_eq_true rfl) (Nat.le_of_ble_eq_true rfl) ⟨rfl, rfl⟩
theorem K_latin (hq : q ∈ xstr) (hj : w.toNat = q.2.2.2.1) : xC G mJ0_isLatin1_aae02 0 0 0 [.float w] M (fun v M2 => v = some (.int 1) ∧ M2 = M) := by
  refine xC.of (by decide) (Nat.le_of_ble_eq_true rfl) ?_
  show xW _ _ _ _ 0 [(0, .float w)] [] _ 0 0
  refine xi_compact dJ0_isLatin1_aae02_0 w_336 ?_
  refine xi_if_eq_f (tgt := 17) dJ0_isLatin1_aae02_3 (by decide) (by decide) ?_
  refine xi_aload_nS 0 dJ0_isLatin1_aae02_6 rfl ?_
  refine xi_getSc dJ0_isLatin1_aae02_7 hq hj w_1541 ?_
  refine xi_if_ne_f (tgt := 17) dJ0_isLatin1_aae02_10 (by decide) (by decide) ?_
  refine xi_iconst (v := 1) dJ0_isLatin1_aae02_13 (by decide) ?_
  refine xi_goto (tgt := 18) dJ0_isLatin1_aae02_14 (by decide) ?_
  exact xi_iret dJ0_isLatin1_aae02_18 rfl (by decide) (Nat.le_of_ble_eq_true rfl) (Nat.le_of_ble_eq_true rfl) ⟨rfl, rfl⟩
theorem K_slen (hq : q ∈ xstr) (hj : w.toNat = q.2.2.2.1) : xC G mJ0_length_8abf5 1 0 0 [.float w] M (fun v M2 => v = some (.int (Int32.ofNat q.2.2.2.2.length)) ∧ M2 = M) := by
  have hw : q.2.2.2.1 < 100 := (by decide : ∀ q ∈ xstr, q.2.2.2.1 < 100) q hq
  have hj2 : (w + 100).toNat = 100 + q.2.2.2.1 := by
    rw [UInt32.toNat_add, hj]
    show (q.2.2.2.1 + 100) % 4294967296 = _
    omega
  refine xC.of (by decide) (Nat.le_of_ble_eq_true rfl) ?_
  show xW _ _ _ _ 0 [(0, .float w)] [] _ 0 0
  refine xi_aload_nS 0 dJ0_length_8abf5_0 rfl ?_
  refine xi_getSv (w2 := w + 100) dJ0_length_8abf5_1 hq hj hj2 w_1540 ?_
  refine xi_lenS dJ0_length_8abf5_4 hq hj2 rfl ?_
  refine xi_aload_nS 0 dJ0_length_8abf5_5 rfl ?_
  refine xi_callVS (as := []) (rest := [.int (Int32.ofNat q.2.2.2.2.length)]) dJ0_length_8abf5_6 (K_coder G hq hj) mkJ0_coder_7d493 w_333 w_334 w_332 hq hj rfl rfl rfl (Nat.le_of_ble_eq_true rfl) (Nat.le_of_ble_eq_true rfl) (Nat.le_of_ble_eq_true rfl) (Nat.le_of_ble_eq_true rfl) (Nat.le_of_ble_eq_true rfl) ?_
  intro v M2 hz
  obtain ⟨rfl, rfl⟩ := hz
  show xW _ _ _ _ 9 _ [.int 0, .int (Int32.ofNat q.2.2.2.2.length)] _ _ _
  refine xi_ishr (v := Int32.ofNat q.2.2.2.2.length) dJ0_length_8abf5_9 (by simp) ?_
  exact xi_iret dJ0_length_8abf5_10 rfl rfl (Nat.le_of_ble_eq_true rfl) (Nat.le_of_ble_eq_true rfl) ⟨rfl, rfl⟩
theorem K_check3 {i z : Int32} {N : Nat} {u : Value} (hu : u = .null ∨ u = .float 201) (hN : z = Int32.ofNat N) (hb : N < 1000) (hin : inb i N = true) : xC G mJ3_checkIndex_8e157 0 0 0 [.int i, .int z, u] M (fun v M2 => v = some (.int i) ∧ M2 = M) := by
  have hv := inb_vp hin
  have hlt := inb_lt hin
  have h0 : ¬ i < 0 := fun q => hv (Or.inl q)
  obtain ⟨j, hj, rfl⟩ := nI_of h0
  rw [nI_clamp hj] at hlt
  subst hN
  have e1 : lv_args 0 [Value.int (nI j), .int (Int32.ofNat N), u] = [(0, .int (nI j)), (1, .int (Int32.ofNat N)), (2, u)] := by rcases hu with rfl | rfl <;> rfl
  refine xC.of (by decide) (by rcases hu with rfl | rfl <;> exact Nat.le_of_ble_eq_true rfl) ?_
  rw [e1]
  refine xi_iload_n 0 dJ3_checkIndex_8e157_0 rfl ?_
  refine xi_if_lt_f (tgt := 9) dJ3_checkIndex_8e157_1 (by decide) h0 ?_
  refine xi_iload_n 0 dJ3_checkIndex_8e157_4 rfl ?_
  refine xi_iload_n 1 dJ3_checkIndex_8e157_5 rfl ?_
  refine xi_icmp_lt_t (tgt := 16) dJ3_checkIndex_8e157_6 (by decide) (nI_lt hlt (by omega)) ?_
  refine xi_iload_n 0 dJ3_checkIndex_8e157_16 rfl ?_
  exact xi_iret dJ3_checkIndex_8e157_17 rfl rfl (Nat.le_of_ble_eq_true rfl) (Nat.le_of_ble_eq_true rfl) ⟨rfl, rfl⟩
theorem K_check {i z : Int32} {N : Nat} (hN : z = Int32.ofNat N) (hb : N < 1000) (hin : inb i N = true) : xC G mJ0_checkIndex_df160 1 0 0 [.int i, .int z] M (fun v M2 => v = none ∧ M2 = M) := by
  refine xC.of (by decide) (Nat.le_of_ble_eq_true rfl) ?_
  show xW _ _ _ _ 0 [(0, .int i), (1, .int z)] [] _ 0 0
  refine xi_iload_n 0 dJ0_checkIndex_df160_0 rfl ?_
  refine xi_iload_n 1 dJ0_checkIndex_df160_1 rfl ?_
  refine xi_fmt dJ0_checkIndex_df160_2 w_352 ?_ ?_
  · refine xi_callS (as := [.int i, .int z, .null]) (rest := []) dJ0_checkIndex_df160_5 (K_check3 G (Or.inl rfl) hN hb hin) mkJ3_checkIndex_8e157 w_355 w_354 rfl rfl (Nat.le_of_ble_eq_true rfl) (Nat.le_of_ble_eq_true rfl) (Nat.le_of_ble_eq_true rfl) (Nat.le_of_ble_eq_true rfl) (Nat.le_of_ble_eq_true rfl) ?_
    intro v M2 hz
    obtain ⟨rfl, rfl⟩ := hz
    show xW _ _ _ _ 8 _ [.int i] _ _ _
    refine xi_pop dJ0_checkIndex_df160_8 rfl ?_
    exact xi_vret dJ0_checkIndex_df160_9 rfl (Nat.le_of_ble_eq_true rfl) (Nat.le_of_ble_eq_true rfl) ⟨rfl, rfl⟩
  · refine xi_callS (as := [.int i, .int z, .float 201]) (rest := []) dJ0_checkIndex_df160_5 (K_check3 G (Or.inr rfl) hN hb hin) mkJ3_checkIndex_8e157 w_355 w_354 rfl rfl (Nat.le_of_ble_eq_true rfl) (Nat.le_of_ble_eq_true rfl) (Nat.le_of_ble_eq_true rfl) (Nat.le_of_ble_eq_true rfl) (Nat.le_of_ble_eq_true rfl) ?_
    intro v M2 hz
    obtain ⟨rfl, rfl⟩ := hz
    show xW _ _ _ _ 8 _ [.int i] _ _ _
    refine xi_pop dJ0_checkIndex_df160_8 rfl ?_
    exact xi_vret dJ0_checkIndex_df160_9 rfl (Nat.le_of_ble_eq_true rfl) (Nat.le_of_ble_eq_true rfl) ⟨rfl, rfl⟩
theorem K_l1char {i : Int32} {w2 : UInt32} (hq : q ∈ xstr) (hj2 : w2.toNat = 100 + q.2.2.2.1) (hin : inb i q.2.2.2.2.length = true) : xC G mJ1_charAt_3b067 2 0 0 [.float w2, .int i] M (fun v M2 => v = some (.int (chr q.2.2.2.2 i)) ∧ M2 = M) := by
  have hb : q.2.2.2.2.length < 1000 := (by decide : ∀ q ∈ xstr, q.2.2.2.2.length < 1000) q hq
  refine xC.of (by decide) (Nat.le_of_ble_eq_true rfl) ?_
  show xW _ _ _ _ 0 [(0, .float w2), (1, .int i)] [] _ 0 0
  refine xi_iload_n 1 dJ1_charAt_3b067_0 rfl ?_
  refine xi_aload_nS 0 dJ1_charAt_3b067_1 rfl ?_
  refine xi_lenS dJ1_charAt_3b067_2 hq hj2 rfl ?_
  refine xi_callS (as := [.int i, .int (Int32.ofNat q.2.2.2.2.length)]) (rest := []) dJ1_charAt_3b067_3 (K_check G rfl hb hin) mkJ0_checkIndex_df160 w_350 w_349 rfl rfl (Nat.le_of_ble_eq_true rfl) (Nat.le_of_ble_eq_true rfl) (Nat.le_of_ble_eq_true rfl) (Nat.le_of_ble_eq_true rfl) (Nat.le_of_ble_eq_true rfl) ?_
  intro v M2 hz
  obtain ⟨rfl, rfl⟩ := hz
  show xW _ _ _ _ 6 _ [] _ _ _
  refine xi_aload_nS 0 dJ1_charAt_3b067_6 rfl ?_
  refine xi_iload_n 1 dJ1_charAt_3b067_7 rfl ?_
  refine xi_baloadS dJ1_charAt_3b067_8 hq hj2 hin ?_
  refine xi_sipush (v := 255) dJ1_charAt_3b067_9 (by decide) ?_
  refine xi_iand dJ1_charAt_3b067_12 rfl ?_
  refine xi_i2c (v := chr q.2.2.2.2 i) dJ1_charAt_3b067_13 (str_c hq hin) ?_
  exact xi_iret dJ1_charAt_3b067_14 rfl (by rw [← str_c hq hin]; exact pk_nc _) (Nat.le_of_ble_eq_true rfl) (Nat.le_of_ble_eq_true rfl) ⟨rfl, rfl⟩
theorem K_schar {i : Int32} (hq : q ∈ xstr) (hj : w.toNat = q.2.2.2.1) (hin : inb i q.2.2.2.2.length = true) : xC G mJ0_charAt_5068e 3 0 0 [.float w, .int i] M (fun v M2 => v = some (.int (chr q.2.2.2.2 i)) ∧ M2 = M) := by
  have hw : q.2.2.2.1 < 100 := (by decide : ∀ q ∈ xstr, q.2.2.2.1 < 100) q hq
  have hj2 : (w + 100).toNat = 100 + q.2.2.2.1 := by
    rw [UInt32.toNat_add, hj]
    show (q.2.2.2.1 + 100) % 4294967296 = _
    omega
  refine xC.of (by decide) (Nat.le_of_ble_eq_true rfl) ?_
  show xW _ _ _ _ 0 [(0, .float w), (1, .int i)] [] _ 0 0
  refine xi_aload_nS 0 dJ0_charAt_5068e_0 rfl ?_
  refine xi_callVS (as := []) (rest := []) dJ0_charAt_5068e_1 (K_latin G hq hj) mkJ0_isLatin1_aae02 w_343 w_344 w_342 hq hj rfl rfl rfl (Nat.le_of_ble_eq_true rfl) (Nat.le_of_ble_eq_true rfl) (Nat.le_of_ble_eq_true rfl) (Nat.le_of_ble_eq_true rfl) (Nat.le_of_ble_eq_true rfl) ?_
  intro v M2 hz
  obtain ⟨rfl, rfl⟩ := hz
  show xW _ _ _ _ 4 _ [.int 1] _ _ _
  refine xi_if_eq_f (tgt := 16) dJ0_charAt_5068e_4 (by decide) (by decide) ?_
  refine xi_aload_nS 0 dJ0_charAt_5068e_7 rfl ?_
  refine xi_getSv (w2 := w + 100) dJ0_charAt_5068e_8 hq hj hj2 w_1540 ?_
  refine xi_iload_n 1 dJ0_charAt_5068e_11 rfl ?_
  refine xi_callS (as := [.float (w + 100), .int i]) (rest := []) dJ0_charAt_5068e_12 (K_l1char G hq hj2 hin) mkJ1_charAt_3b067 w_347 w_346 rfl rfl (Nat.le_of_ble_eq_true rfl) (Nat.le_of_ble_eq_true rfl) (Nat.le_of_ble_eq_true rfl) (Nat.le_of_ble_eq_true rfl) (Nat.le_of_ble_eq_true rfl) ?_
  intro v M2 hz
  obtain ⟨rfl, rfl⟩ := hz
  show xW _ _ _ _ 15 _ [.int (chr q.2.2.2.2 i)] _ _ _
  exact xi_iret dJ0_charAt_5068e_15 rfl (by rw [← str_c hq hin]; exact pk_nc _) (Nat.le_of_ble_eq_true rfl) (Nat.le_of_ble_eq_true rfl) ⟨rfl, rfl⟩
end YT
