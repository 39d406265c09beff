/-! arrays copied -/
theorem w_native : Cond.native arraycopyName ∈ xWall := xw 544 (by decide +kernel) rfl
section YC
variable {G : xG} {mt : xM} {R : Room} {Z : xZ} {pc : Nat} {lv : List (Nat × Value)} {st : List Value} {M : xMem} {k n : Nat}
theorem xi_copy {i0 i1 n0 n1 N idx : Nat} {f g : Nat → Int32} {z : Int32} {M' : xMem} (hd : decode mt.2.1 pc = .ok (.invokestatic idx, 3)) (hw : Cond.methodLink mt.1.cls idx arraycopyName ∈ xWall) (hna : Cond.native arraycopyName ∈ xWall) (hst : Cond.static arraycopyName ∈ xWall) (hini : Cond.initialized "java/lang/System" ∈ xWall)
    (h0 : M[i0]? = some (.inl (0, n0, .inl f))) (h1 : M[i1]? = some (.inl (0, n1, .inl g))) (hz : ¬ z < 0) (hN : z.toNatClampNeg = N) (l0 : N ≤ n0) (l1 : N ≤ n1) (hM' : M.set i1 (.inl (0, n1, .inl (va_cpy f g 0 0 N))) = M')
    (hrest : (st.map fun v => v.category).sum ≤ 8) (hfr : 1 ≤ R.frames) (hlo : 8 + (nativeFrameWords "java/lang/System" "arraycopy" 5 + 11) ≤ R.locals)
    (K : xW G mt R Z (pc + 3) lv st M' k n) : xW G mt R Z pc lv (.int z :: .int 0 :: .ref i1 :: .int 0 :: .ref i0 :: st) M k n := by
  subst hN hM'
  intro p e s m args below meth c H locs ls F hR hL hl T hT X
  have hts := F.2.2.2.2.2.1
  have hKa := (F.2.2.2.2.2.2.2.2.1).2 0 _ rfl
  have nn : z.toInt = (z.toNatClampNeg : Int) := by
    have hz0 : (0 : Int) ≤ z.toInt := by
      have := Int32.not_lt.mp hz
      simpa using Int32.le_iff_toInt_le.mp this
    show z.toInt = ((z.toInt.toNat : Nat) : Int)
    omega
  have zz : (0 : Int32).toNatClampNeg = 0 := by decide
  have zi : (0 : Int32).toInt = 0 := by decide
  have hc0 : H[G.2.2.2.1 + i0]? = some (vp_cell (G.2.2.1 0) (n0, .inl f)) := hR.2.1 i0 _ h0
  have hc1 : H[G.2.2.2.1 + i1]? = some (vp_cell (G.2.2.1 0) (n1, .inl g)) := hR.2.1 i1 _ h1
  obtain ⟨-, k0, hk0, cm0, hkk0⟩ := hKa.1 n0 (fun j => .int (f j))
  obtain ⟨-, k1, hk1, cm1, hkk1⟩ := hKa.1 n1 (fun j => .int (g j))
  have hsum : ((xcs G st).map fun v => v.category).sum ≤ 8 := by
    have e1 : (xcs G st).map (fun v => v.category) = st.map (fun v => v.category) := by
      unfold xcs
      rw [List.map_map]
      exact List.map_congr_left (fun v _ => xcv_cat G v)
    rw [e1]
    exact hrest
  obtain ⟨vm', X', step⟩ := X.arraycopy F.1 F.2.2.2.2.1 (hts _ hw) (hts _ hna) (hts _ hst) (hts _ hini) (src := G.2.2.2.1 + i0) (dst := G.2.2.2.1 + i1) (cs := vp_cell (G.2.2.1 0) (n0, .inl f)) (cd := vp_cell (G.2.2.1 0) (n1, .inl g)) (srcPos := 0) (destPos := 0) (n := z) (by rw [hT]; exact hc0) (by rw [hT]; exact hc1)
    (fun _ h => by cases h) (fun _ h => by cases h) (fun h => by cases h) (fun h => by cases h) hk0 hk1 hkk0 hkk1 (by simp [refKind]) (by decide) (by decide) hz
    (by rw [nn, zi]; show ¬ _ > ((arrV _ n0 (fun j => .int (f j))).slots.size : Int); rw [arrV_size]; omega)
    (by rw [nn, zi]; show ¬ _ > ((arrV _ n1 (fun j => .int (g j))).slots.size : Int); rw [arrV_size]; omega)
    (fun vm₁ _ i hi => by
      have e : (vp_cell (G.2.2.1 0) (n0, .inl f)).slots.getD ((0 : Int32).toNatClampNeg + i) .null = .int (f i) := by
        show (arrV _ n0 (fun j => .int (f j))).slots.getD _ _ = _
        rw [Array.getD_eq_getD_getElem?, arrV_read _ _ (by rw [zz]; omega), zz, Nat.zero_add]
        rfl
      refine ⟨?_, ?_⟩
      · rw [e]
        rfl
      · rw [e]
        exact trivial)
    (g := F0 m pc ls (.int z :: .int 0 :: .ref (G.2.2.2.1 + i1) :: .int 0 :: .ref (G.2.2.2.1 + i0) :: xcs G st)) rfl (by rw [F.2.2.1]; exact hl.1) (rest := xcs G st) rfl (by rw [F.2.1]; exact hd) hfr (by show 2 * 0 + _ + _ ≤ _; omega)
  have e1 : copied (vp_cell (G.2.2.1 0) (n0, .inl f)) (vp_cell (G.2.2.1 0) (n1, .inl g)) 0 0 z = vp_cell (G.2.2.1 0) (n1, .inl (va_cpy f g 0 0 z.toNatClampNeg)) := va_copied (fun z => .int z) _ _ f g (by rw [zz]; omega)
  rw [e1] at X' step
  have hlt : G.2.2.2.1 + i1 < H.size := (Array.getElem?_eq_some_iff.mp hc1).1
  have hheap : ((T.setVm vm').setCell (G.2.2.2.1 + i1) (vp_cell (G.2.2.1 0) (n1, .inl (va_cpy f g 0 0 z.toNatClampNeg)))).heap = H.setIfInBounds (G.2.2.2.1 + i1) (vp_cell (G.2.2.1 0) (n1, .inl (va_cpy f g 0 0 z.toNatClampNeg))) := by rw [← hT]; rfl
  have oq : ∀ q : Nat, q ≠ G.2.2.2.1 + i1 → (H.setIfInBounds (G.2.2.2.1 + i1) (vp_cell (G.2.2.1 0) (n1, .inl (va_cpy f g 0 0 z.toNatClampNeg))))[q]? = H[q]? := fun q hq => by simp [Array.getElem?_setIfInBounds, Ne.symm hq]
  obtain ⟨t, a1, b1⟩ := K p e s m args below meth c _ _ ls F (hR.set (c := .inl (0, n1, .inl (va_cpy f g 0 0 z.toNatClampNeg))) h1 (show (H.setIfInBounds (G.2.2.2.1 + i1) _)[G.2.2.2.1 + i1]? = some _ by simp [Array.getElem?_setIfInBounds, hlt]) (by simp) oq) (fun q hq => by
      rcases List.mem_append.mp hq with h | h
      · exact hL q h
      · obtain ⟨w, -, hw⟩ := List.mem_map.mp h
        rw [← hw]
        exact Nat.le_add_right _ _) hl _ hheap X'
  exact ⟨t, step t a1, b1⟩
theorem yi_copy {i0 i1 n0 n1 N idx : Nat} {z : Int32} {σ : St} {Gb : xMem} (hd : decode mt.2.1 pc = .ok (.invokestatic idx, 3)) (hw : Cond.methodLink mt.1.cls idx arraycopyName ∈ xWall) (hna : Cond.native arraycopyName ∈ xWall) (hst : Cond.static arraycopyName ∈ xWall) (hini : Cond.initialized "java/lang/System" ∈ xWall)
    (h0 : SH[i0]? = some (.inl (0, n0, none))) (h1 : SH[i1]? = some (.inl (0, n1, none))) (hz : ¬ z < 0) (hN : z.toNatClampNeg = N) (l0 : N ≤ n0) (l1 : N ≤ n1)
    (hrest : (st.map fun v => v.category).sum ≤ 8) (hfr : 1 ≤ R.frames) (hlo : 8 + (nativeFrameWords "java/lang/System" "arraycopy" 5 + 11) ≤ R.locals)
    (K : xW G mt R Z (pc + 3) lv st (mem (cpy σ i0 i1 N) Gb) k n) : xW G mt R Z pc lv (.int z :: .int 0 :: .ref i1 :: .int 0 :: .ref i0 :: st) (mem σ Gb) k n := by
  refine xi_copy hd hw hna hst hini (mem_get h0) (mem_get h1) hz hN l0 l1 ?_ hrest hfr hlo K
  have h := mem_set (σ := σ) (τ := cpy σ i0 i1 N) (Gb := Gb) h1 (fun b hb => if_neg hb)
  rw [← h]
  show _ = (mem σ Gb).set i1 (Sum.inl (0, n1, Sum.inl (cpy σ i0 i1 N i1)))
  rw [cpy, if_pos rfl]
theorem yi_copyV {i0 i1 n0 n1 N idx : Nat} {z : Int32} {σ τ : St} {Gb : xMem} (hd : decode mt.2.1 pc = .ok (.invokestatic idx, 3)) (hw : Cond.methodLink mt.1.cls idx arraycopyName ∈ xWall) (hna : Cond.native arraycopyName ∈ xWall) (hst : Cond.static arraycopyName ∈ xWall) (hini : Cond.initialized "java/lang/System" ∈ xWall)
    (h0 : SH[i0]? = some (.inl (0, n0, none))) (h1 : SH[i1]? = some (.inl (0, n1, none))) (hz : ¬ z < 0) (hN : z.toNatClampNeg = N) (l0 : N ≤ n0) (l1 : N ≤ n1)
    (hrest : (st.map fun v => v.category).sum ≤ 8) (hfr : 1 ≤ R.frames) (hlo : 8 + (nativeFrameWords "java/lang/System" "arraycopy" 5 + 11) ≤ R.locals)
    (he : τ = cpy σ i0 i1 N) (K : xW G mt R Z (pc + 3) lv st (mem τ Gb) k n) : xW G mt R Z pc lv (.int z :: .int 0 :: .ref i1 :: .int 0 :: .ref i0 :: st) (mem σ Gb) k n := by
  subst he
  exact yi_copy hd hw hna hst hini h0 h1 hz hN l0 l1 hrest hfr hlo K
end YC
